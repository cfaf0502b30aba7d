theorem dX0_clear_0 : decode cX0_clear 0 = .ok (.aload_n 0, 1) := by decide +kernel
theorem dX0_clear_1 : decode cX0_clear 1 = .ok (.iconst 0, 1) := by decide +kernel
theorem dX0_clear_2 : decode cX0_clear 2 = .ok (.putfield 15, 3) := by decide +kernel
theorem dX0_clear_5 : decode cX0_clear 5 = .ok (.aload_n 0, 1) := by decide +kernel
theorem dX0_clear_6 : decode cX0_clear 6 = .ok (.iconst 5, 1) := by decide +kernel
theorem dX0_clear_7 : decode cX0_clear 7 = .ok (.putfield 19, 3) := by decide +kernel
theorem dX0_clear_10 : decode cX0_clear 10 = .ok (.return_, 1) := by decide +kernel
def f_X0_clear (t : Nat) (u : Mem) : Option (Unit × Mem) := some ((), sI (sI u t 1 (0 : Int32)) t 2 (5 : Int32))
set_option maxHeartbeats 4000000 in
set_option maxRecDepth 100000 in
theorem k_X0_clear (l : Launch) (D : gDt) (base : Nat) (Z : gZt) (u : Mem) (t : Nat) (u' : Mem) (ho : gok u.1 t l0) (hf : f_X0_clear t u = some ((), u')) : Met l yX0_clear (gws yX0_clear cX0_clear 1 (none)) (gRm 1 0 0) (gPc D base Z u [.ref (base + t)]) (gQv D base u') 0 0 (gF base) := by
  refine Met.ofW (cc := cX0_clear) (maxL := 1) (ret := none) (by decide) rfl ?_
  intro p e s m args below meth c s₁ B hml hv
  obtain ⟨rfl, C0, hG⟩ := g_enter B hml hv
  have hr := B.returns
  have C0 : gC p s m meth c _ cX0_clear 1 RX0 D base Z := C0
  have hx := C0.1
  have hb := C0.2.1
  have hb0 := Nat.le_refl u.1
  have hl := lv_entry ([.ref (base + t)]) (n := 1) (Nat.le_of_ble_eq_true rfl)
  rw [lg_entry_eq]
  generalize (lg_sl ([.ref (base + t)]) ++ List.replicate (1 - (lg_sl ([.ref (base + t)])).length) Slot.unset).toArray = ls at hl ⊢
  have hl : lv_has ls 1 [(0, .ref (base + t))] := hl
  obtain ⟨Q, hQ⟩ : ∃ Q, Q = MQ below (gQv D base u') ([.ref (base + t)] : List Value).toArray s 0 0 (gF base) := ⟨_, rfl⟩
  rw [← hQ]
  change W p l e (gRm 1 0 0) s m _ below meth c _ _ _ _ _ _
  unfold f_X0_clear at hf
  refine lv_aload_n hx hb dX0_clear_0 rfl (lv_at hl 0 rfl) ?_
  refine lv_iconst (v := (0 : Int32)) hx hb dX0_clear_1 (by decide) ?_
  refine g_putI (ty := .int) C0 hG (D0_0 ho hb0) rfl 1 (by decide) rfl w_140 rfl (by decide) rfl rfl dX0_clear_2 (fun H locs hG => ?_)
  refine lv_aload_n hx hb dX0_clear_5 rfl (lv_at hl 0 rfl) ?_
  refine lv_iconst (v := (5 : Int32)) hx hb dX0_clear_6 (by decide) ?_
  refine g_putI (ty := .int) C0 hG (D0_0 ho hb0) rfl 2 (by decide) rfl w_141 rfl (by decide) rfl rfl dX0_clear_7 (fun H locs hG => ?_)
  obtain ⟨-, hu⟩ := gret_s hf
  subst hu
  subst hQ
  exact g_vret C0 hG hr dX0_clear_10
theorem dX0_add_0 : decode cX0_add 0 = .ok (.aload_n 0, 1) := by decide +kernel
theorem dX0_add_1 : decode cX0_add 1 = .ok (.getfield 15, 3) := by decide +kernel
theorem dX0_add_4 : decode cX0_add 4 = .ok (.bipush 100, 2) := by decide +kernel
theorem dX0_add_6 : decode cX0_add 6 = .ok (.if_icmp .ge 33, 3) := by decide +kernel
theorem dX0_add_9 : decode cX0_add 9 = .ok (.aload_n 0, 1) := by decide +kernel
theorem dX0_add_10 : decode cX0_add 10 = .ok (.getfield 9, 3) := by decide +kernel
theorem dX0_add_13 : decode cX0_add 13 = .ok (.aload_n 0, 1) := by decide +kernel
theorem dX0_add_14 : decode cX0_add 14 = .ok (.getfield 15, 3) := by decide +kernel
theorem dX0_add_17 : decode cX0_add 17 = .ok (.iload_n 1, 1) := by decide +kernel
theorem dX0_add_18 : decode cX0_add 18 = .ok (.bipush 16, 2) := by decide +kernel
theorem dX0_add_20 : decode cX0_add 20 = .ok (.ishl, 1) := by decide +kernel
theorem dX0_add_21 : decode cX0_add 21 = .ok (.iload_n 2, 1) := by decide +kernel
theorem dX0_add_22 : decode cX0_add 22 = .ok (.bipush 8, 2) := by decide +kernel
theorem dX0_add_24 : decode cX0_add 24 = .ok (.ishl, 1) := by decide +kernel
theorem dX0_add_25 : decode cX0_add 25 = .ok (.ior, 1) := by decide +kernel
theorem dX0_add_26 : decode cX0_add 26 = .ok (.iload_n 3, 1) := by decide +kernel
theorem dX0_add_27 : decode cX0_add 27 = .ok (.ior, 1) := by decide +kernel
theorem dX0_add_28 : decode cX0_add 28 = .ok (.iastore, 1) := by decide +kernel
theorem dX0_add_29 : decode cX0_add 29 = .ok (.aload_n 0, 1) := by decide +kernel
theorem dX0_add_30 : decode cX0_add 30 = .ok (.dup, 1) := by decide +kernel
theorem dX0_add_31 : decode cX0_add 31 = .ok (.getfield 15, 3) := by decide +kernel
theorem dX0_add_34 : decode cX0_add 34 = .ok (.iconst 1, 1) := by decide +kernel
theorem dX0_add_35 : decode cX0_add 35 = .ok (.iadd, 1) := by decide +kernel
theorem dX0_add_36 : decode cX0_add 36 = .ok (.putfield 15, 3) := by decide +kernel
theorem dX0_add_39 : decode cX0_add 39 = .ok (.return_, 1) := by decide +kernel
def f_X0_add (t : Nat) (p1 : Int32) (p2 : Int32) (p3 : Int32) (u : Mem) : Option (Unit × Mem) := (if (100 : Int32) ≤ (gI u t 1) then some ((), u) else gin (gI u t 1) 100 (some ((), sI (sA u (t + 1) (gI u t 1).toNatClampNeg (((p1 <<< ((16 : Int32) &&& 31)) ||| (p2 <<< ((8 : Int32) &&& 31))) ||| p3)) t 1 ((gI (sA u (t + 1) (gI u t 1).toNatClampNeg (((p1 <<< ((16 : Int32) &&& 31)) ||| (p2 <<< ((8 : Int32) &&& 31))) ||| p3)) t 1) + (1 : Int32)))))
set_option maxHeartbeats 4000000 in
set_option maxRecDepth 100000 in
theorem k_X0_add (l : Launch) (D : gDt) (base : Nat) (Z : gZt) (u : Mem) (t : Nat) (p1 : Int32) (p2 : Int32) (p3 : Int32) (u' : Mem) (ho : gok u.1 t l0) (hf : f_X0_add t p1 p2 p3 u = some ((), u')) : Met l yX0_add (gws yX0_add cX0_add 4 (none)) (gRm 1 0 0) (gPc D base Z u [.ref (base + t), .int p1, .int p2, .int p3]) (gQv D base u') 0 0 (gF base) := by
  refine Met.ofW (cc := cX0_add) (maxL := 4) (ret := none) (by decide) rfl ?_
  intro p e s m args below meth c s₁ B hml hv
  obtain ⟨rfl, C0, hG⟩ := g_enter B hml hv
  have hr := B.returns
  have C0 : gC p s m meth c _ cX0_add 4 RX0 D base Z := C0
  have hx := C0.1
  have hb := C0.2.1
  have hb0 := Nat.le_refl u.1
  have hl := lv_entry ([.ref (base + t), .int p1, .int p2, .int p3]) (n := 4) (Nat.le_of_ble_eq_true rfl)
  rw [lg_entry_eq]
  generalize (lg_sl ([.ref (base + t), .int p1, .int p2, .int p3]) ++ List.replicate (4 - (lg_sl ([.ref (base + t), .int p1, .int p2, .int p3])).length) Slot.unset).toArray = ls at hl ⊢
  have hl : lv_has ls 4 [(0, .ref (base + t)), (1, .int p1), (2, .int p2), (3, .int p3)] := hl
  obtain ⟨Q, hQ⟩ : ∃ Q, Q = MQ below (gQv D base u') ([.ref (base + t), .int p1, .int p2, .int p3] : List Value).toArray s 0 0 (gF base) := ⟨_, rfl⟩
  rw [← hQ]
  change W p l e (gRm 1 0 0) s m _ below meth c _ _ _ _ _ _
  unfold f_X0_add at hf
  refine lv_aload_n hx hb dX0_add_0 rfl (lv_at hl 0 rfl) ?_
  refine g_getI C0 hG (D0_0 ho hb0) rfl 1 (by decide) rfl w_140 dX0_add_1 ?_
  refine lv_bipush (v := (100 : Int32)) hx hb dX0_add_4 (by decide) ?_
  refine lv_icmp_ge (tgt := 39) hx hb dX0_add_6 (by decide) (fun c1 => ?_) (fun c1 => ?_)
  · have hf := gif_t c1 hf
    obtain ⟨-, hu⟩ := gret_s hf
    subst hu
    subst hQ
    exact g_vret C0 hG hr dX0_add_39
  · have hf := gif_f c1 hf
    refine lv_aload_n hx hb dX0_add_9 rfl (lv_at hl 0 rfl) ?_
    refine g_getSa (o := 1) (a := (t + 1)) C0 hG (D0_0 ho hb0) rfl 0 (by decide) rfl rfl w_139 dX0_add_10 ?_
    refine lv_aload_n hx hb dX0_add_13 rfl (lv_at hl 0 rfl) ?_
    refine g_getI C0 hG (D0_0 ho hb0) rfl 1 (by decide) rfl w_140 dX0_add_14 ?_
    refine lv_iload_n hx hb dX0_add_17 rfl (lv_at hl 1 rfl) ?_
    refine lv_bipush (v := (16 : Int32)) hx hb dX0_add_18 (by decide) ?_
    refine lv_ishl hx hb dX0_add_20 ?_
    refine lv_iload_n hx hb dX0_add_21 rfl (lv_at hl 2 rfl) ?_
    refine lv_bipush (v := (8 : Int32)) hx hb dX0_add_22 (by decide) ?_
    refine lv_ishl hx hb dX0_add_24 ?_
    refine lv_ior hx hb dX0_add_25 ?_
    refine lv_iload_n hx hb dX0_add_26 rfl (lv_at hl 3 rfl) ?_
    refine lv_ior hx hb dX0_add_27 ?_
    obtain ⟨h2, hf⟩ := gin_s hf
    refine g_iast C0 hG (D0_1 ho hb0) h2 dX0_add_28 (fun H locs hG => ?_)
    refine lv_aload_n hx hb dX0_add_29 rfl (lv_at hl 0 rfl) ?_
    refine lv_dup hx hb dX0_add_30 rfl ?_
    refine g_getI C0 hG (D0_0 ho hb0) rfl 1 (by decide) rfl w_140 dX0_add_31 ?_
    refine lv_iconst (v := (1 : Int32)) hx hb dX0_add_34 (by decide) ?_
    refine lv_iadd hx hb dX0_add_35 ?_
    refine g_putI (ty := .int) C0 hG (D0_0 ho hb0) rfl 1 (by decide) rfl w_140 rfl (by decide) rfl rfl dX0_add_36 (fun H locs hG => ?_)
    obtain ⟨-, hu⟩ := gret_s hf
    subst hu
    subst hQ
    exact g_vret C0 hG hr dX0_add_39
theorem dX0_bitOfTest_0 : decode cX0_bitOfTest 0 = .ok (.iload_n 0, 1) := by decide +kernel
theorem dX0_bitOfTest_1 : decode cX0_bitOfTest 1 = .ok (.bipush 16, 2) := by decide +kernel
theorem dX0_bitOfTest_3 : decode cX0_bitOfTest 3 = .ok (.ishr, 1) := by decide +kernel
theorem dX0_bitOfTest_4 : decode cX0_bitOfTest 4 = .ok (.istore_n 2, 1) := by decide +kernel
theorem dX0_bitOfTest_5 : decode cX0_bitOfTest 5 = .ok (.iload_n 2, 1) := by decide +kernel
theorem dX0_bitOfTest_6 : decode cX0_bitOfTest 6 = .ok (.ifCond .lt 9, 3) := by decide +kernel
theorem dX0_bitOfTest_9 : decode cX0_bitOfTest 9 = .ok (.iload_n 2, 1) := by decide +kernel
theorem dX0_bitOfTest_10 : decode cX0_bitOfTest 10 = .ok (.aload_n 1, 1) := by decide +kernel
theorem dX0_bitOfTest_11 : decode cX0_bitOfTest 11 = .ok (.arraylength, 1) := by decide +kernel
theorem dX0_bitOfTest_12 : decode cX0_bitOfTest 12 = .ok (.if_icmp .lt 5, 3) := by decide +kernel
theorem dX0_bitOfTest_15 : decode cX0_bitOfTest 15 = .ok (.iconst 0, 1) := by decide +kernel
theorem dX0_bitOfTest_16 : decode cX0_bitOfTest 16 = .ok (.ireturn, 1) := by decide +kernel
theorem dX0_bitOfTest_17 : decode cX0_bitOfTest 17 = .ok (.aload_n 1, 1) := by decide +kernel
theorem dX0_bitOfTest_18 : decode cX0_bitOfTest 18 = .ok (.iload_n 2, 1) := by decide +kernel
theorem dX0_bitOfTest_19 : decode cX0_bitOfTest 19 = .ok (.iaload, 1) := by decide +kernel
theorem dX0_bitOfTest_20 : decode cX0_bitOfTest 20 = .ok (.istore_n 3, 1) := by decide +kernel
theorem dX0_bitOfTest_21 : decode cX0_bitOfTest 21 = .ok (.iload_n 0, 1) := by decide +kernel
theorem dX0_bitOfTest_22 : decode cX0_bitOfTest 22 = .ok (.sipush 255, 3) := by decide +kernel
theorem dX0_bitOfTest_25 : decode cX0_bitOfTest 25 = .ok (.iand, 1) := by decide +kernel
theorem dX0_bitOfTest_26 : decode cX0_bitOfTest 26 = .ok (.istore 4, 2) := by decide +kernel
theorem dX0_bitOfTest_28 : decode cX0_bitOfTest 28 = .ok (.iload_n 0, 1) := by decide +kernel
theorem dX0_bitOfTest_29 : decode cX0_bitOfTest 29 = .ok (.bipush 8, 2) := by decide +kernel
theorem dX0_bitOfTest_31 : decode cX0_bitOfTest 31 = .ok (.ishr, 1) := by decide +kernel
theorem dX0_bitOfTest_32 : decode cX0_bitOfTest 32 = .ok (.sipush 255, 3) := by decide +kernel
theorem dX0_bitOfTest_35 : decode cX0_bitOfTest 35 = .ok (.iand, 1) := by decide +kernel
theorem dX0_bitOfTest_36 : decode cX0_bitOfTest 36 = .ok (.lookupswitch 52 #[(60, 28), (62, 40)], 28) := by decide +kernel
theorem dX0_bitOfTest_64 : decode cX0_bitOfTest 64 = .ok (.iload_n 3, 1) := by decide +kernel
theorem dX0_bitOfTest_65 : decode cX0_bitOfTest 65 = .ok (.iload 4, 2) := by decide +kernel
theorem dX0_bitOfTest_67 : decode cX0_bitOfTest 67 = .ok (.if_icmp .ge 7, 3) := by decide +kernel
theorem dX0_bitOfTest_70 : decode cX0_bitOfTest 70 = .ok (.iconst 1, 1) := by decide +kernel
theorem dX0_bitOfTest_71 : decode cX0_bitOfTest 71 = .ok (.goto 4, 3) := by decide +kernel
theorem dX0_bitOfTest_74 : decode cX0_bitOfTest 74 = .ok (.iconst 0, 1) := by decide +kernel
theorem dX0_bitOfTest_75 : decode cX0_bitOfTest 75 = .ok (.ireturn, 1) := by decide +kernel
theorem dX0_bitOfTest_76 : decode cX0_bitOfTest 76 = .ok (.iload_n 3, 1) := by decide +kernel
theorem dX0_bitOfTest_77 : decode cX0_bitOfTest 77 = .ok (.iload 4, 2) := by decide +kernel
theorem dX0_bitOfTest_79 : decode cX0_bitOfTest 79 = .ok (.if_icmp .le 7, 3) := by decide +kernel
theorem dX0_bitOfTest_82 : decode cX0_bitOfTest 82 = .ok (.iconst 1, 1) := by decide +kernel
theorem dX0_bitOfTest_83 : decode cX0_bitOfTest 83 = .ok (.goto 4, 3) := by decide +kernel
theorem dX0_bitOfTest_86 : decode cX0_bitOfTest 86 = .ok (.iconst 0, 1) := by decide +kernel
theorem dX0_bitOfTest_87 : decode cX0_bitOfTest 87 = .ok (.ireturn, 1) := by decide +kernel
theorem dX0_bitOfTest_88 : decode cX0_bitOfTest 88 = .ok (.iload_n 3, 1) := by decide +kernel
theorem dX0_bitOfTest_89 : decode cX0_bitOfTest 89 = .ok (.iload 4, 2) := by decide +kernel
theorem dX0_bitOfTest_91 : decode cX0_bitOfTest 91 = .ok (.if_icmp .ne 7, 3) := by decide +kernel
theorem dX0_bitOfTest_94 : decode cX0_bitOfTest 94 = .ok (.iconst 1, 1) := by decide +kernel
theorem dX0_bitOfTest_95 : decode cX0_bitOfTest 95 = .ok (.goto 4, 3) := by decide +kernel
theorem dX0_bitOfTest_98 : decode cX0_bitOfTest 98 = .ok (.iconst 0, 1) := by decide +kernel
theorem dX0_bitOfTest_99 : decode cX0_bitOfTest 99 = .ok (.ireturn, 1) := by decide +kernel
def f_X0_bitOfTest (p0 : Int32) (p1 : Nat) (u : Mem) : Option (Int32) := (if (p0 >>> ((16 : Int32) &&& 31)) < 0 then some (0 : Int32) else (if (p0 >>> ((16 : Int32) &&& 31)) < (6 : Int32) then gin (p0 >>> ((16 : Int32) &&& 31)) 6 ((if ((p0 >>> ((8 : Int32) &&& 31)) &&& (255 : Int32)) = (60 : Int32) then (if (p0 &&& (255 : Int32)) ≤ (gA u p1 (p0 >>> ((16 : Int32) &&& 31)).toNatClampNeg) then some (0 : Int32) else some (1 : Int32)) else (if ((p0 >>> ((8 : Int32) &&& 31)) &&& (255 : Int32)) = (62 : Int32) then (if (gA u p1 (p0 >>> ((16 : Int32) &&& 31)).toNatClampNeg) ≤ (p0 &&& (255 : Int32)) then some (0 : Int32) else some (1 : Int32)) else (if (gA u p1 (p0 >>> ((16 : Int32) &&& 31)).toNatClampNeg) = (p0 &&& (255 : Int32)) then some (1 : Int32) else some (0 : Int32))))) else some (0 : Int32)))
set_option maxHeartbeats 4000000 in
set_option maxRecDepth 100000 in
theorem k_X0_bitOfTest (l : Launch) (D : gDt) (base : Nat) (Z : gZt) (u : Mem) (p0 : Int32) (p1 : Nat) (r : Int32) (hop1 : gok 129 p1 lA6) (hf : f_X0_bitOfTest p0 p1 u = some r) : Met l yX0_bitOfTest (gws yX0_bitOfTest cX0_bitOfTest 5 (some .int)) (gRm 1 0 0) (gPc D base Z u [.int p0, .ref (base + p1)]) (gQi D base r u) 0 0 (gF base) := by
  refine Met.ofW (cc := cX0_bitOfTest) (maxL := 5) (ret := some .int) (by decide) rfl ?_
  intro p e s m args below meth c s₁ B hml hv
  obtain ⟨rfl, C0, hG⟩ := g_enter B hml hv
  have hr := B.returns
  have C0 : gC p s m meth c _ cX0_bitOfTest 5 RX0 D base Z := C0
  have hx := C0.1
  have hb := C0.2.1
  have hl := lv_entry ([.int p0, .ref (base + p1)]) (n := 5) (Nat.le_of_ble_eq_true rfl)
  rw [lg_entry_eq]
  generalize (lg_sl ([.int p0, .ref (base + p1)]) ++ List.replicate (5 - (lg_sl ([.int p0, .ref (base + p1)])).length) Slot.unset).toArray = ls at hl ⊢
  have hl : lv_has ls 5 [(0, .int p0), (1, .ref (base + p1))] := hl
  obtain ⟨Q, hQ⟩ : ∃ Q, Q = MQ below (gQi D base r u) ([.int p0, .ref (base + p1)] : List Value).toArray s 0 0 (gF base) := ⟨_, rfl⟩
  rw [← hQ]
  change W p l e (gRm 1 0 0) s m _ below meth c _ _ _ _ _ _
  unfold f_X0_bitOfTest at hf
  refine lv_iload_n hx hb dX0_bitOfTest_0 rfl (lv_at hl 0 rfl) ?_
  refine lv_bipush (v := (16 : Int32)) hx hb dX0_bitOfTest_1 (by decide) ?_
  refine lv_ishr hx hb dX0_bitOfTest_3 ?_
  refine lv_istore_n (lv' := [(2, .int (p0 >>> ((16 : Int32) &&& 31))), (0, .int p0), (1, .ref (base + p1))]) hx hb dX0_bitOfTest_4 rfl hl (by decide) rfl (fun ls hl => ?_)
  refine lv_iload_n hx hb dX0_bitOfTest_5 rfl (lv_at hl 0 rfl) ?_
  refine lv_if_lt (tgt := 15) hx hb dX0_bitOfTest_6 (by decide) (fun c1 => ?_) (fun c1 => ?_)
  · have hf := gif_t c1 hf
    refine lv_iconst (v := (0 : Int32)) hx hb dX0_bitOfTest_15 (by decide) ?_
    have hf := Option.some.inj hf
    subst hf
    subst hQ
    exact g_iret C0 hG hr dX0_bitOfTest_16
  · have hf := gif_f c1 hf
    refine lv_iload_n hx hb dX0_bitOfTest_9 rfl (lv_at hl 0 rfl) ?_
    refine lv_aload_n hx hb dX0_bitOfTest_10 rfl (lv_at hl 2 rfl) ?_
    refine g_alen (v := (6 : Int32)) C0 hG (TA_0 hG hop1) rfl dX0_bitOfTest_11 ?_
    refine lv_icmp_lt (tgt := 17) hx hb dX0_bitOfTest_12 (by decide) (fun c2 => ?_) (fun c2 => ?_)
    · have hf := gif_t c2 hf
      refine lv_aload_n hx hb dX0_bitOfTest_17 rfl (lv_at hl 2 rfl) ?_
      refine lv_iload_n hx hb dX0_bitOfTest_18 rfl (lv_at hl 0 rfl) ?_
      obtain ⟨h3, hf⟩ := gin_s hf
      refine g_iald C0 hG (TA_0 hG hop1) h3 dX0_bitOfTest_19 ?_
      refine lv_istore_n (lv' := [(3, .int (gA u p1 (p0 >>> ((16 : Int32) &&& 31)).toNatClampNeg)), (2, .int (p0 >>> ((16 : Int32) &&& 31))), (0, .int p0), (1, .ref (base + p1))]) hx hb dX0_bitOfTest_20 rfl hl (by decide) rfl (fun ls hl => ?_)
      refine lv_iload_n hx hb dX0_bitOfTest_21 rfl (lv_at hl 2 rfl) ?_
      refine lv_sipush (v := (255 : Int32)) hx hb dX0_bitOfTest_22 (by decide) ?_
      refine lv_iand hx hb dX0_bitOfTest_25 ?_
      refine lv_istore (lv' := [(4, .int (p0 &&& (255 : Int32))), (3, .int (gA u p1 (p0 >>> ((16 : Int32) &&& 31)).toNatClampNeg)), (2, .int (p0 >>> ((16 : Int32) &&& 31))), (0, .int p0), (1, .ref (base + p1))]) hx hb dX0_bitOfTest_26 hl (by decide) rfl (fun ls hl => ?_)
      refine lv_iload_n hx hb dX0_bitOfTest_28 rfl (lv_at hl 3 rfl) ?_
      refine lv_bipush (v := (8 : Int32)) hx hb dX0_bitOfTest_29 (by decide) ?_
      refine lv_ishr hx hb dX0_bitOfTest_31 ?_
      refine lv_sipush (v := (255 : Int32)) hx hb dX0_bitOfTest_32 (by decide) ?_
      refine lv_iand hx hb dX0_bitOfTest_35 ?_
      refine (Decidable.em (((p0 >>> ((8 : Int32) &&& 31)) &&& (255 : Int32)) = (60 : Int32))).elim (fun c4 => ?_) (fun c4 => ?_)
      · have hf := gif_t c4 hf
        refine lv_lookup (off := 28) (tgt := 64) hx hb dX0_bitOfTest_36 (by decide) (by rw [c4]; rfl) (by decide) ?_
        refine lv_iload_n hx hb dX0_bitOfTest_64 rfl (lv_at hl 1 rfl) ?_
        refine lv_iload hx hb dX0_bitOfTest_65 (lv_at hl 0 rfl) ?_
        refine lv_icmp_ge (tgt := 74) hx hb dX0_bitOfTest_67 (by decide) (fun c5 => ?_) (fun c5 => ?_)
        · have hf := gif_t c5 hf
          refine lv_iconst (v := (0 : Int32)) hx hb dX0_bitOfTest_74 (by decide) ?_
          have hf := Option.some.inj hf
          subst hf
          subst hQ
          exact g_iret C0 hG hr dX0_bitOfTest_75
        · have hf := gif_f c5 hf
          refine lv_iconst (v := (1 : Int32)) hx hb dX0_bitOfTest_70 (by decide) ?_
          refine lv_goto (tgt := 75) hx hb dX0_bitOfTest_71 (by decide) ?_
          have hf := Option.some.inj hf
          subst hf
          subst hQ
          exact g_iret C0 hG hr dX0_bitOfTest_75
      · have hf := gif_f c4 hf
        refine (Decidable.em (((p0 >>> ((8 : Int32) &&& 31)) &&& (255 : Int32)) = (62 : Int32))).elim (fun c6 => ?_) (fun c6 => ?_)
        · have hf := gif_t c6 hf
          refine lv_lookup (off := 40) (tgt := 76) hx hb dX0_bitOfTest_36 (by decide) (by rw [c6]; rfl) (by decide) ?_
          refine lv_iload_n hx hb dX0_bitOfTest_76 rfl (lv_at hl 1 rfl) ?_
          refine lv_iload hx hb dX0_bitOfTest_77 (lv_at hl 0 rfl) ?_
          refine lv_icmp_le (tgt := 86) hx hb dX0_bitOfTest_79 (by decide) (fun c7 => ?_) (fun c7 => ?_)
          · have hf := gif_t c7 hf
            refine lv_iconst (v := (0 : Int32)) hx hb dX0_bitOfTest_86 (by decide) ?_
            have hf := Option.some.inj hf
            subst hf
            subst hQ
            exact g_iret C0 hG hr dX0_bitOfTest_87
          · have hf := gif_f c7 hf
            refine lv_iconst (v := (1 : Int32)) hx hb dX0_bitOfTest_82 (by decide) ?_
            refine lv_goto (tgt := 87) hx hb dX0_bitOfTest_83 (by decide) ?_
            have hf := Option.some.inj hf
            subst hf
            subst hQ
            exact g_iret C0 hG hr dX0_bitOfTest_87
        · have hf := gif_f c6 hf
          refine lv_lookup (off := 52) (tgt := 88) hx hb dX0_bitOfTest_36 (by decide) (by
              show Op.lookupswitch.offset [(60, 28), (62, 40)] 52 ((p0 >>> ((8 : Int32) &&& 31)) &&& (255 : Int32)).toInt = 52
              rw [lv_osw c4 (by decide), lv_osw c6 (by decide)]; rfl) (by decide) ?_
          refine lv_iload_n hx hb dX0_bitOfTest_88 rfl (lv_at hl 1 rfl) ?_
          refine lv_iload hx hb dX0_bitOfTest_89 (lv_at hl 0 rfl) ?_
          refine lv_icmp_ne (tgt := 98) hx hb dX0_bitOfTest_91 (by decide) (fun c8 => ?_) (fun c8 => ?_)
          · have hf := gif_f c8 hf
            refine lv_iconst (v := (0 : Int32)) hx hb dX0_bitOfTest_98 (by decide) ?_
            have hf := Option.some.inj hf
            subst hf
            subst hQ
            exact g_iret C0 hG hr dX0_bitOfTest_99
          · have hf := gif_t c8 hf
            refine lv_iconst (v := (1 : Int32)) hx hb dX0_bitOfTest_94 (by decide) ?_
            refine lv_goto (tgt := 99) hx hb dX0_bitOfTest_95 (by decide) ?_
            have hf := Option.some.inj hf
            subst hf
            subst hQ
            exact g_iret C0 hG hr dX0_bitOfTest_99
    · have hf := gif_f c2 hf
      refine lv_iconst (v := (0 : Int32)) hx hb dX0_bitOfTest_15 (by decide) ?_
      have hf := Option.some.inj hf
      subst hf
      subst hQ
      exact g_iret C0 hG hr dX0_bitOfTest_16
theorem dX0_warmth_0 : decode cX0_warmth 0 = .ok (.iconst 0, 1) := by decide +kernel
theorem dX0_warmth_1 : decode cX0_warmth 1 = .ok (.istore_n 2, 1) := by decide +kernel
theorem dX0_warmth_2 : decode cX0_warmth 2 = .ok (.iconst 0, 1) := by decide +kernel
theorem dX0_warmth_3 : decode cX0_warmth 3 = .ok (.istore_n 3, 1) := by decide +kernel
theorem dX0_warmth_4 : decode cX0_warmth 4 = .ok (.iconst 0, 1) := by decide +kernel
theorem dX0_warmth_5 : decode cX0_warmth 5 = .ok (.istore 4, 2) := by decide +kernel
theorem dX0_warmth_7 : decode cX0_warmth 7 = .ok (.iload 4, 2) := by decide +kernel
theorem dX0_warmth_9 : decode cX0_warmth 9 = .ok (.aload_n 0, 1) := by decide +kernel
theorem dX0_warmth_10 : decode cX0_warmth 10 = .ok (.getfield 15, 3) := by decide +kernel
theorem dX0_warmth_13 : decode cX0_warmth 13 = .ok (.if_icmp .ge 139, 3) := by decide +kernel
theorem dX0_warmth_16 : decode cX0_warmth 16 = .ok (.aload_n 0, 1) := by decide +kernel
theorem dX0_warmth_17 : decode cX0_warmth 17 = .ok (.getfield 9, 3) := by decide +kernel
theorem dX0_warmth_20 : decode cX0_warmth 20 = .ok (.iload 4, 2) := by decide +kernel
theorem dX0_warmth_22 : decode cX0_warmth 22 = .ok (.iaload, 1) := by decide +kernel
theorem dX0_warmth_23 : decode cX0_warmth 23 = .ok (.sipush 255, 3) := by decide +kernel
theorem dX0_warmth_26 : decode cX0_warmth 26 = .ok (.iand, 1) := by decide +kernel
theorem dX0_warmth_27 : decode cX0_warmth 27 = .ok (.istore 5, 2) := by decide +kernel
theorem dX0_warmth_29 : decode cX0_warmth 29 = .ok (.aload_n 0, 1) := by decide +kernel
theorem dX0_warmth_30 : decode cX0_warmth 30 = .ok (.getfield 9, 3) := by decide +kernel
theorem dX0_warmth_33 : decode cX0_warmth 33 = .ok (.iload 4, 2) := by decide +kernel
theorem dX0_warmth_35 : decode cX0_warmth 35 = .ok (.iaload, 1) := by decide +kernel
theorem dX0_warmth_36 : decode cX0_warmth 36 = .ok (.bipush 16, 2) := by decide +kernel
theorem dX0_warmth_38 : decode cX0_warmth 38 = .ok (.ishr, 1) := by decide +kernel
theorem dX0_warmth_39 : decode cX0_warmth 39 = .ok (.tableswitch 91 6 10 #[33, 45, 56, 63, 77], 33) := by decide +kernel
theorem dX0_warmth_72 : decode cX0_warmth 72 = .ok (.iload_n 3, 1) := by decide +kernel
theorem dX0_warmth_73 : decode cX0_warmth 73 = .ok (.iconst 1, 1) := by decide +kernel
theorem dX0_warmth_74 : decode cX0_warmth 74 = .ok (.ishr, 1) := by decide +kernel
theorem dX0_warmth_75 : decode cX0_warmth 75 = .ok (.iload_n 3, 1) := by decide +kernel
theorem dX0_warmth_76 : decode cX0_warmth 76 = .ok (.bipush (-2), 2) := by decide +kernel
theorem dX0_warmth_78 : decode cX0_warmth 78 = .ok (.ior, 1) := by decide +kernel
theorem dX0_warmth_79 : decode cX0_warmth 79 = .ok (.iand, 1) := by decide +kernel
theorem dX0_warmth_80 : decode cX0_warmth 80 = .ok (.istore_n 3, 1) := by decide +kernel
theorem dX0_warmth_81 : decode cX0_warmth 81 = .ok (.goto 65, 3) := by decide +kernel
theorem dX0_warmth_84 : decode cX0_warmth 84 = .ok (.iload_n 3, 1) := by decide +kernel
theorem dX0_warmth_85 : decode cX0_warmth 85 = .ok (.iconst 1, 1) := by decide +kernel
theorem dX0_warmth_86 : decode cX0_warmth 86 = .ok (.ishr, 1) := by decide +kernel
theorem dX0_warmth_87 : decode cX0_warmth 87 = .ok (.iload_n 3, 1) := by decide +kernel
theorem dX0_warmth_88 : decode cX0_warmth 88 = .ok (.iconst 1, 1) := by decide +kernel
theorem dX0_warmth_89 : decode cX0_warmth 89 = .ok (.iand, 1) := by decide +kernel
theorem dX0_warmth_90 : decode cX0_warmth 90 = .ok (.ior, 1) := by decide +kernel
theorem dX0_warmth_91 : decode cX0_warmth 91 = .ok (.istore_n 3, 1) := by decide +kernel
theorem dX0_warmth_92 : decode cX0_warmth 92 = .ok (.goto 54, 3) := by decide +kernel
theorem dX0_warmth_95 : decode cX0_warmth 95 = .ok (.iload_n 3, 1) := by decide +kernel
theorem dX0_warmth_96 : decode cX0_warmth 96 = .ok (.iconst 1, 1) := by decide +kernel
theorem dX0_warmth_97 : decode cX0_warmth 97 = .ok (.ixor, 1) := by decide +kernel
theorem dX0_warmth_98 : decode cX0_warmth 98 = .ok (.istore_n 3, 1) := by decide +kernel
theorem dX0_warmth_99 : decode cX0_warmth 99 = .ok (.goto 47, 3) := by decide +kernel
theorem dX0_warmth_102 : decode cX0_warmth 102 = .ok (.iload_n 2, 1) := by decide +kernel
theorem dX0_warmth_103 : decode cX0_warmth 103 = .ok (.iload 5, 2) := by decide +kernel
theorem dX0_warmth_105 : decode cX0_warmth 105 = .ok (.iload_n 3, 1) := by decide +kernel
theorem dX0_warmth_106 : decode cX0_warmth 106 = .ok (.iconst 1, 1) := by decide +kernel
theorem dX0_warmth_107 : decode cX0_warmth 107 = .ok (.iand, 1) := by decide +kernel
theorem dX0_warmth_108 : decode cX0_warmth 108 = .ok (.imul, 1) := by decide +kernel
theorem dX0_warmth_109 : decode cX0_warmth 109 = .ok (.iadd, 1) := by decide +kernel
theorem dX0_warmth_110 : decode cX0_warmth 110 = .ok (.istore_n 2, 1) := by decide +kernel
theorem dX0_warmth_111 : decode cX0_warmth 111 = .ok (.iconst 0, 1) := by decide +kernel
theorem dX0_warmth_112 : decode cX0_warmth 112 = .ok (.istore_n 3, 1) := by decide +kernel
theorem dX0_warmth_113 : decode cX0_warmth 113 = .ok (.goto 33, 3) := by decide +kernel
theorem dX0_warmth_116 : decode cX0_warmth 116 = .ok (.iload_n 2, 1) := by decide +kernel
theorem dX0_warmth_117 : decode cX0_warmth 117 = .ok (.iload 5, 2) := by decide +kernel
theorem dX0_warmth_119 : decode cX0_warmth 119 = .ok (.iload_n 3, 1) := by decide +kernel
theorem dX0_warmth_120 : decode cX0_warmth 120 = .ok (.iconst 1, 1) := by decide +kernel
theorem dX0_warmth_121 : decode cX0_warmth 121 = .ok (.iand, 1) := by decide +kernel
theorem dX0_warmth_122 : decode cX0_warmth 122 = .ok (.imul, 1) := by decide +kernel
theorem dX0_warmth_123 : decode cX0_warmth 123 = .ok (.isub, 1) := by decide +kernel
theorem dX0_warmth_124 : decode cX0_warmth 124 = .ok (.istore_n 2, 1) := by decide +kernel
theorem dX0_warmth_125 : decode cX0_warmth 125 = .ok (.iconst 0, 1) := by decide +kernel
theorem dX0_warmth_126 : decode cX0_warmth 126 = .ok (.istore_n 3, 1) := by decide +kernel
theorem dX0_warmth_127 : decode cX0_warmth 127 = .ok (.goto 19, 3) := by decide +kernel
theorem dX0_warmth_130 : decode cX0_warmth 130 = .ok (.iload_n 3, 1) := by decide +kernel
theorem dX0_warmth_131 : decode cX0_warmth 131 = .ok (.iconst 1, 1) := by decide +kernel
theorem dX0_warmth_132 : decode cX0_warmth 132 = .ok (.ishl, 1) := by decide +kernel
theorem dX0_warmth_133 : decode cX0_warmth 133 = .ok (.aload_n 0, 1) := by decide +kernel
theorem dX0_warmth_134 : decode cX0_warmth 134 = .ok (.getfield 9, 3) := by decide +kernel
theorem dX0_warmth_137 : decode cX0_warmth 137 = .ok (.iload 4, 2) := by decide +kernel
theorem dX0_warmth_139 : decode cX0_warmth 139 = .ok (.iaload, 1) := by decide +kernel
theorem dX0_warmth_140 : decode cX0_warmth 140 = .ok (.aload_n 1, 1) := by decide +kernel
theorem dX0_warmth_141 : decode cX0_warmth 141 = .ok (.invokestatic 22, 3) := by decide +kernel
theorem dX0_warmth_144 : decode cX0_warmth 144 = .ok (.ior, 1) := by decide +kernel
theorem dX0_warmth_145 : decode cX0_warmth 145 = .ok (.istore_n 3, 1) := by decide +kernel
theorem dX0_warmth_146 : decode cX0_warmth 146 = .ok (.iinc 4 1, 3) := by decide +kernel
theorem dX0_warmth_149 : decode cX0_warmth 149 = .ok (.goto (-142), 3) := by decide +kernel
theorem dX0_warmth_152 : decode cX0_warmth 152 = .ok (.iload_n 2, 1) := by decide +kernel
theorem dX0_warmth_153 : decode cX0_warmth 153 = .ok (.ireturn, 1) := by decide +kernel
def f_X0_warmth_L7 (u : Mem) (t : Nat) (p1 : Nat) (x2_1 : Int32) (x3_1 : Int32) (x4_1 : Int32) : Option ((Int32 × Int32 × Int32) ⊕ Int32) := (if (gI u t 1) ≤ x4_1 then some (Sum.inr (x2_1)) else gin x4_1 100 (gin x4_1 100 ((if ((gA u (t + 1) x4_1.toNatClampNeg) >>> ((16 : Int32) &&& 31)) = (6 : Int32) then some (Sum.inl (x2_1, ((x3_1 >>> ((1 : Int32) &&& 31)) &&& (x3_1 ||| (-2 : Int32)), x4_1 + (1 : Int32)))) else (if ((gA u (t + 1) x4_1.toNatClampNeg) >>> ((16 : Int32) &&& 31)) = (7 : Int32) then some (Sum.inl (x2_1, ((x3_1 >>> ((1 : Int32) &&& 31)) ||| (x3_1 &&& (1 : Int32)), x4_1 + (1 : Int32)))) else (if ((gA u (t + 1) x4_1.toNatClampNeg) >>> ((16 : Int32) &&& 31)) = (8 : Int32) then some (Sum.inl (x2_1, (x3_1 ^^^ (1 : Int32), x4_1 + (1 : Int32)))) else (if ((gA u (t + 1) x4_1.toNatClampNeg) >>> ((16 : Int32) &&& 31)) = (9 : Int32) then some (Sum.inl (x2_1 + (((gA u (t + 1) x4_1.toNatClampNeg) &&& (255 : Int32)) * (x3_1 &&& (1 : Int32))), ((0 : Int32), x4_1 + (1 : Int32)))) else (if ((gA u (t + 1) x4_1.toNatClampNeg) >>> ((16 : Int32) &&& 31)) = (10 : Int32) then some (Sum.inl (x2_1 - (((gA u (t + 1) x4_1.toNatClampNeg) &&& (255 : Int32)) * (x3_1 &&& (1 : Int32))), ((0 : Int32), x4_1 + (1 : Int32)))) else gin x4_1 100 (Option.bind (f_X0_bitOfTest (gA u (t + 1) x4_1.toNatClampNeg) p1 u) (fun r11 => some (Sum.inl (x2_1, ((x3_1 <<< ((1 : Int32) &&& 31)) ||| r11, x4_1 + (1 : Int32))))))))))))))
def f_X0_warmth (t : Nat) (p1 : Nat) (u : Mem) : Option (Int32) := whileO (fun s => f_X0_warmth_L7 u t p1 s.1 s.2.1 s.2.2) FUEL ((0 : Int32), ((0 : Int32), (0 : Int32)))
set_option maxHeartbeats 4000000 in
set_option maxRecDepth 100000 in
theorem k_X0_warmth (l : Launch) (D : gDt) (base : Nat) (Z : gZt) (u : Mem) (t : Nat) (p1 : Nat) (r : Int32) (ho : gok u.1 t l0) (hop1 : gok 129 p1 lA6) (hf : f_X0_warmth t p1 u = some r) : Met l yX0_warmth (gws yX0_warmth cX0_warmth 6 (some .int)) (gRm 2 0 0) (gPc D base Z u [.ref (base + t), .ref (base + p1)]) (gQi D base r u) 0 0 (gF base) := by
  refine Met.ofW (cc := cX0_warmth) (maxL := 6) (ret := some .int) (by decide) rfl ?_
  intro p e s m args below meth c s₁ B hml hv
  obtain ⟨rfl, C0, hG⟩ := g_enter B hml hv
  have hr := B.returns
  have C0 : gC p s m meth c _ cX0_warmth 6 RX0 D base Z := C0
  have hx := C0.1
  have hb := C0.2.1
  have hb0 := Nat.le_refl u.1
  have hl := lv_entry ([.ref (base + t), .ref (base + p1)]) (n := 6) (Nat.le_of_ble_eq_true rfl)
  rw [lg_entry_eq]
  generalize (lg_sl ([.ref (base + t), .ref (base + p1)]) ++ List.replicate (6 - (lg_sl ([.ref (base + t), .ref (base + p1)])).length) Slot.unset).toArray = ls at hl ⊢
  have hl : lv_has ls 6 [(0, .ref (base + t)), (1, .ref (base + p1))] := hl
  obtain ⟨Q, hQ⟩ : ∃ Q, Q = MQ below (gQi D base r u) ([.ref (base + t), .ref (base + p1)] : List Value).toArray s 0 0 (gF base) := ⟨_, rfl⟩
  rw [← hQ]
  change W p l e (gRm 2 0 0) s m _ below meth c _ _ _ _ _ _
  unfold f_X0_warmth at hf
  refine lv_iconst (v := (0 : Int32)) hx hb dX0_warmth_0 (by decide) ?_
  refine lv_istore_n (lv' := [(2, .int (0 : Int32)), (0, .ref (base + t)), (1, .ref (base + p1))]) hx hb dX0_warmth_1 rfl hl (by decide) rfl (fun ls hl => ?_)
  refine lv_iconst (v := (0 : Int32)) hx hb dX0_warmth_2 (by decide) ?_
  refine lv_istore_n (lv' := [(3, .int (0 : Int32)), (2, .int (0 : Int32)), (0, .ref (base + t)), (1, .ref (base + p1))]) hx hb dX0_warmth_3 rfl hl (by decide) rfl (fun ls hl => ?_)
  refine lv_iconst (v := (0 : Int32)) hx hb dX0_warmth_4 (by decide) ?_
  refine lv_istore (lv' := [(4, .int (0 : Int32)), (3, .int (0 : Int32)), (2, .int (0 : Int32)), (0, .ref (base + t)), (1, .ref (base + p1))]) hx hb dX0_warmth_5 hl (by decide) rfl (fun ls hl => ?_)
  have loop1 : ∀ (n1 : Nat) (x2_1 : Int32) (x3_1 : Int32) (x4_1 : Int32) (H : Heap) (locs : List Loc) (ls : Array Slot), gH D base s u H locs → u.1 ≤ u.1 → lv_has ls 6 [(0, .ref (base + t)), (1, .ref (base + p1)), (2, .int x2_1), (3, .int x3_1), (4, .int x4_1)] → whileO (fun s => f_X0_warmth_L7 u t p1 s.1 s.2.1 s.2.2) n1 (x2_1, (x3_1, x4_1)) = some r → W p l e (gRm 2 0 0) s m ([.ref (base + t), .ref (base + p1)] : List Value).toArray below meth c H locs 0 0 Q (F0 m 7 ls []) := by
    intro n1
    induction n1 with
    | zero => intro x2_1 x3_1 x4_1 H locs ls hG hb0 hl hf; cases hf
    | succ n1 ih1 =>
      intro x2_1 x3_1 x4_1 H locs ls hG hb0 hl hf
      obtain ⟨X1, hf, hX1⟩ := while_s hf
      have hf : f_X0_warmth_L7 u t p1 x2_1 x3_1 x4_1 = some X1 := hf
      unfold f_X0_warmth_L7 at hf
      refine lv_iload hx hb dX0_warmth_7 (lv_at hl 4 rfl) ?_
      refine lv_aload_n hx hb dX0_warmth_9 rfl (lv_at hl 0 rfl) ?_
      refine g_getI C0 hG (D0_0 ho hb0) rfl 1 (by decide) rfl w_140 dX0_warmth_10 ?_
      refine lv_icmp_ge (tgt := 152) hx hb dX0_warmth_13 (by decide) (fun c2 => ?_) (fun c2 => ?_)
      · have hf := gif_t c2 hf
        refine lv_iload_n hx hb dX0_warmth_152 rfl (lv_at hl 2 rfl) ?_
        have hf := while_r hX1 hf
        have hf := Option.some.inj hf
        subst hf
        subst hQ
        exact g_iret C0 hG hr dX0_warmth_153
      · have hf := gif_f c2 hf
        refine lv_aload_n hx hb dX0_warmth_16 rfl (lv_at hl 0 rfl) ?_
        refine g_getSa (o := 1) (a := (t + 1)) C0 hG (D0_0 ho hb0) rfl 0 (by decide) rfl rfl w_139 dX0_warmth_17 ?_
        refine lv_iload hx hb dX0_warmth_20 (lv_at hl 4 rfl) ?_
        obtain ⟨h3, hf⟩ := gin_s hf
        refine g_iald C0 hG (D0_1 ho hb0) h3 dX0_warmth_22 ?_
        refine lv_sipush (v := (255 : Int32)) hx hb dX0_warmth_23 (by decide) ?_
        refine lv_iand hx hb dX0_warmth_26 ?_
        refine lv_istore (lv' := [(5, .int ((gA u (t + 1) x4_1.toNatClampNeg) &&& (255 : Int32))), (0, .ref (base + t)), (1, .ref (base + p1)), (2, .int x2_1), (3, .int x3_1), (4, .int x4_1)]) hx hb dX0_warmth_27 hl (by decide) rfl (fun ls hl => ?_)
        refine lv_aload_n hx hb dX0_warmth_29 rfl (lv_at hl 1 rfl) ?_
        refine g_getSa (o := 1) (a := (t + 1)) C0 hG (D0_0 ho hb0) rfl 0 (by decide) rfl rfl w_139 dX0_warmth_30 ?_
        refine lv_iload hx hb dX0_warmth_33 (lv_at hl 5 rfl) ?_
        obtain ⟨h4, hf⟩ := gin_s hf
        refine g_iald C0 hG (D0_1 ho hb0) h4 dX0_warmth_35 ?_
        refine lv_bipush (v := (16 : Int32)) hx hb dX0_warmth_36 (by decide) ?_
        refine lv_ishr hx hb dX0_warmth_38 ?_
        refine (Decidable.em (((gA u (t + 1) x4_1.toNatClampNeg) >>> ((16 : Int32) &&& 31)) = (6 : Int32))).elim (fun c5 => ?_) (fun c5 => ?_)
        · have hf := gif_t c5 hf
          refine lv_tableIn (off := 33) (tgt := 72) hx hb dX0_warmth_39 (by rw [c5]; decide) (by rw [c5]; decide) (by rw [c5]; rfl) (by decide) ?_
          refine lv_iload_n hx hb dX0_warmth_72 rfl (lv_at hl 4 rfl) ?_
          refine lv_iconst (v := (1 : Int32)) hx hb dX0_warmth_73 (by decide) ?_
          refine lv_ishr hx hb dX0_warmth_74 ?_
          refine lv_iload_n hx hb dX0_warmth_75 rfl (lv_at hl 4 rfl) ?_
          refine lv_bipush (v := (-2 : Int32)) hx hb dX0_warmth_76 (by decide) ?_
          refine lv_ior hx hb dX0_warmth_78 ?_
          refine lv_iand hx hb dX0_warmth_79 ?_
          refine lv_istore_n (lv' := [(3, .int ((x3_1 >>> ((1 : Int32) &&& 31)) &&& (x3_1 ||| (-2 : Int32)))), (5, .int ((gA u (t + 1) x4_1.toNatClampNeg) &&& (255 : Int32))), (0, .ref (base + t)), (1, .ref (base + p1)), (2, .int x2_1), (4, .int x4_1)]) hx hb dX0_warmth_80 rfl hl (by decide) rfl (fun ls hl => ?_)
          refine lv_goto (tgt := 146) hx hb dX0_warmth_81 (by decide) ?_
          refine lv_iinc (v := x4_1 + (1 : Int32)) (lv' := [(4, .int (x4_1 + (1 : Int32))), (3, .int ((x3_1 >>> ((1 : Int32) &&& 31)) &&& (x3_1 ||| (-2 : Int32)))), (5, .int ((gA u (t + 1) x4_1.toNatClampNeg) &&& (255 : Int32))), (0, .ref (base + t)), (1, .ref (base + p1)), (2, .int x2_1)]) hx hb dX0_warmth_146 hl (k := 5) rfl rfl (by decide) rfl (fun ls hl => ?_)
          refine lv_goto (tgt := 7) hx hb dX0_warmth_149 (by decide) ?_
          have hf := while_l hX1 hf
          exact ih1 x2_1 ((x3_1 >>> ((1 : Int32) &&& 31)) &&& (x3_1 ||| (-2 : Int32))) (x4_1 + (1 : Int32)) _ _ ls hG hb0 (lv_sub hl [3, 4, 5, 1, 0] rfl) hf
        · have hf := gif_f c5 hf
          refine (Decidable.em (((gA u (t + 1) x4_1.toNatClampNeg) >>> ((16 : Int32) &&& 31)) = (7 : Int32))).elim (fun c6 => ?_) (fun c6 => ?_)
          · have hf := gif_t c6 hf
            refine lv_tableIn (off := 45) (tgt := 84) hx hb dX0_warmth_39 (by rw [c6]; decide) (by rw [c6]; decide) (by rw [c6]; rfl) (by decide) ?_
            refine lv_iload_n hx hb dX0_warmth_84 rfl (lv_at hl 4 rfl) ?_
            refine lv_iconst (v := (1 : Int32)) hx hb dX0_warmth_85 (by decide) ?_
            refine lv_ishr hx hb dX0_warmth_86 ?_
            refine lv_iload_n hx hb dX0_warmth_87 rfl (lv_at hl 4 rfl) ?_
            refine lv_iconst (v := (1 : Int32)) hx hb dX0_warmth_88 (by decide) ?_
            refine lv_iand hx hb dX0_warmth_89 ?_
            refine lv_ior hx hb dX0_warmth_90 ?_
            refine lv_istore_n (lv' := [(3, .int ((x3_1 >>> ((1 : Int32) &&& 31)) ||| (x3_1 &&& (1 : Int32)))), (5, .int ((gA u (t + 1) x4_1.toNatClampNeg) &&& (255 : Int32))), (0, .ref (base + t)), (1, .ref (base + p1)), (2, .int x2_1), (4, .int x4_1)]) hx hb dX0_warmth_91 rfl hl (by decide) rfl (fun ls hl => ?_)
            refine lv_goto (tgt := 146) hx hb dX0_warmth_92 (by decide) ?_
            refine lv_iinc (v := x4_1 + (1 : Int32)) (lv' := [(4, .int (x4_1 + (1 : Int32))), (3, .int ((x3_1 >>> ((1 : Int32) &&& 31)) ||| (x3_1 &&& (1 : Int32)))), (5, .int ((gA u (t + 1) x4_1.toNatClampNeg) &&& (255 : Int32))), (0, .ref (base + t)), (1, .ref (base + p1)), (2, .int x2_1)]) hx hb dX0_warmth_146 hl (k := 5) rfl rfl (by decide) rfl (fun ls hl => ?_)
            refine lv_goto (tgt := 7) hx hb dX0_warmth_149 (by decide) ?_
            have hf := while_l hX1 hf
            exact ih1 x2_1 ((x3_1 >>> ((1 : Int32) &&& 31)) ||| (x3_1 &&& (1 : Int32))) (x4_1 + (1 : Int32)) _ _ ls hG hb0 (lv_sub hl [3, 4, 5, 1, 0] rfl) hf
          · have hf := gif_f c6 hf
            refine (Decidable.em (((gA u (t + 1) x4_1.toNatClampNeg) >>> ((16 : Int32) &&& 31)) = (8 : Int32))).elim (fun c7 => ?_) (fun c7 => ?_)
            · have hf := gif_t c7 hf
              refine lv_tableIn (off := 56) (tgt := 95) hx hb dX0_warmth_39 (by rw [c7]; decide) (by rw [c7]; decide) (by rw [c7]; rfl) (by decide) ?_
              refine lv_iload_n hx hb dX0_warmth_95 rfl (lv_at hl 4 rfl) ?_
              refine lv_iconst (v := (1 : Int32)) hx hb dX0_warmth_96 (by decide) ?_
              refine lv_ixor hx hb dX0_warmth_97 ?_
              refine lv_istore_n (lv' := [(3, .int (x3_1 ^^^ (1 : Int32))), (5, .int ((gA u (t + 1) x4_1.toNatClampNeg) &&& (255 : Int32))), (0, .ref (base + t)), (1, .ref (base + p1)), (2, .int x2_1), (4, .int x4_1)]) hx hb dX0_warmth_98 rfl hl (by decide) rfl (fun ls hl => ?_)
              refine lv_goto (tgt := 146) hx hb dX0_warmth_99 (by decide) ?_
              refine lv_iinc (v := x4_1 + (1 : Int32)) (lv' := [(4, .int (x4_1 + (1 : Int32))), (3, .int (x3_1 ^^^ (1 : Int32))), (5, .int ((gA u (t + 1) x4_1.toNatClampNeg) &&& (255 : Int32))), (0, .ref (base + t)), (1, .ref (base + p1)), (2, .int x2_1)]) hx hb dX0_warmth_146 hl (k := 5) rfl rfl (by decide) rfl (fun ls hl => ?_)
              refine lv_goto (tgt := 7) hx hb dX0_warmth_149 (by decide) ?_
              have hf := while_l hX1 hf
              exact ih1 x2_1 (x3_1 ^^^ (1 : Int32)) (x4_1 + (1 : Int32)) _ _ ls hG hb0 (lv_sub hl [3, 4, 5, 1, 0] rfl) hf
            · have hf := gif_f c7 hf
              refine (Decidable.em (((gA u (t + 1) x4_1.toNatClampNeg) >>> ((16 : Int32) &&& 31)) = (9 : Int32))).elim (fun c8 => ?_) (fun c8 => ?_)
              · have hf := gif_t c8 hf
                refine lv_tableIn (off := 63) (tgt := 102) hx hb dX0_warmth_39 (by rw [c8]; decide) (by rw [c8]; decide) (by rw [c8]; rfl) (by decide) ?_
                refine lv_iload_n hx hb dX0_warmth_102 rfl (lv_at hl 3 rfl) ?_
                refine lv_iload hx hb dX0_warmth_103 (lv_at hl 0 rfl) ?_
                refine lv_iload_n hx hb dX0_warmth_105 rfl (lv_at hl 4 rfl) ?_
                refine lv_iconst (v := (1 : Int32)) hx hb dX0_warmth_106 (by decide) ?_
                refine lv_iand hx hb dX0_warmth_107 ?_
                refine lv_imul hx hb dX0_warmth_108 ?_
                refine lv_iadd hx hb dX0_warmth_109 ?_
                refine lv_istore_n (lv' := [(2, .int (x2_1 + (((gA u (t + 1) x4_1.toNatClampNeg) &&& (255 : Int32)) * (x3_1 &&& (1 : Int32))))), (5, .int ((gA u (t + 1) x4_1.toNatClampNeg) &&& (255 : Int32))), (0, .ref (base + t)), (1, .ref (base + p1)), (3, .int x3_1), (4, .int x4_1)]) hx hb dX0_warmth_110 rfl hl (by decide) rfl (fun ls hl => ?_)
                refine lv_iconst (v := (0 : Int32)) hx hb dX0_warmth_111 (by decide) ?_
                refine lv_istore_n (lv' := [(3, .int (0 : Int32)), (2, .int (x2_1 + (((gA u (t + 1) x4_1.toNatClampNeg) &&& (255 : Int32)) * (x3_1 &&& (1 : Int32))))), (5, .int ((gA u (t + 1) x4_1.toNatClampNeg) &&& (255 : Int32))), (0, .ref (base + t)), (1, .ref (base + p1)), (4, .int x4_1)]) hx hb dX0_warmth_112 rfl hl (by decide) rfl (fun ls hl => ?_)
                refine lv_goto (tgt := 146) hx hb dX0_warmth_113 (by decide) ?_
                refine lv_iinc (v := x4_1 + (1 : Int32)) (lv' := [(4, .int (x4_1 + (1 : Int32))), (3, .int (0 : Int32)), (2, .int (x2_1 + (((gA u (t + 1) x4_1.toNatClampNeg) &&& (255 : Int32)) * (x3_1 &&& (1 : Int32))))), (5, .int ((gA u (t + 1) x4_1.toNatClampNeg) &&& (255 : Int32))), (0, .ref (base + t)), (1, .ref (base + p1))]) hx hb dX0_warmth_146 hl (k := 5) rfl rfl (by decide) rfl (fun ls hl => ?_)
                refine lv_goto (tgt := 7) hx hb dX0_warmth_149 (by decide) ?_
                have hf := while_l hX1 hf
                exact ih1 (x2_1 + (((gA u (t + 1) x4_1.toNatClampNeg) &&& (255 : Int32)) * (x3_1 &&& (1 : Int32)))) (0 : Int32) (x4_1 + (1 : Int32)) _ _ ls hG hb0 (lv_sub hl [4, 5, 2, 1, 0] rfl) hf
              · have hf := gif_f c8 hf
                refine (Decidable.em (((gA u (t + 1) x4_1.toNatClampNeg) >>> ((16 : Int32) &&& 31)) = (10 : Int32))).elim (fun c9 => ?_) (fun c9 => ?_)
                · have hf := gif_t c9 hf
                  refine lv_tableIn (off := 77) (tgt := 116) hx hb dX0_warmth_39 (by rw [c9]; decide) (by rw [c9]; decide) (by rw [c9]; rfl) (by decide) ?_
                  refine lv_iload_n hx hb dX0_warmth_116 rfl (lv_at hl 3 rfl) ?_
                  refine lv_iload hx hb dX0_warmth_117 (lv_at hl 0 rfl) ?_
                  refine lv_iload_n hx hb dX0_warmth_119 rfl (lv_at hl 4 rfl) ?_
                  refine lv_iconst (v := (1 : Int32)) hx hb dX0_warmth_120 (by decide) ?_
                  refine lv_iand hx hb dX0_warmth_121 ?_
                  refine lv_imul hx hb dX0_warmth_122 ?_
                  refine lv_isub hx hb dX0_warmth_123 ?_
                  refine lv_istore_n (lv' := [(2, .int (x2_1 - (((gA u (t + 1) x4_1.toNatClampNeg) &&& (255 : Int32)) * (x3_1 &&& (1 : Int32))))), (5, .int ((gA u (t + 1) x4_1.toNatClampNeg) &&& (255 : Int32))), (0, .ref (base + t)), (1, .ref (base + p1)), (3, .int x3_1), (4, .int x4_1)]) hx hb dX0_warmth_124 rfl hl (by decide) rfl (fun ls hl => ?_)
                  refine lv_iconst (v := (0 : Int32)) hx hb dX0_warmth_125 (by decide) ?_
                  refine lv_istore_n (lv' := [(3, .int (0 : Int32)), (2, .int (x2_1 - (((gA u (t + 1) x4_1.toNatClampNeg) &&& (255 : Int32)) * (x3_1 &&& (1 : Int32))))), (5, .int ((gA u (t + 1) x4_1.toNatClampNeg) &&& (255 : Int32))), (0, .ref (base + t)), (1, .ref (base + p1)), (4, .int x4_1)]) hx hb dX0_warmth_126 rfl hl (by decide) rfl (fun ls hl => ?_)
                  refine lv_goto (tgt := 146) hx hb dX0_warmth_127 (by decide) ?_
                  refine lv_iinc (v := x4_1 + (1 : Int32)) (lv' := [(4, .int (x4_1 + (1 : Int32))), (3, .int (0 : Int32)), (2, .int (x2_1 - (((gA u (t + 1) x4_1.toNatClampNeg) &&& (255 : Int32)) * (x3_1 &&& (1 : Int32))))), (5, .int ((gA u (t + 1) x4_1.toNatClampNeg) &&& (255 : Int32))), (0, .ref (base + t)), (1, .ref (base + p1))]) hx hb dX0_warmth_146 hl (k := 5) rfl rfl (by decide) rfl (fun ls hl => ?_)
                  refine lv_goto (tgt := 7) hx hb dX0_warmth_149 (by decide) ?_
                  have hf := while_l hX1 hf
                  exact ih1 (x2_1 - (((gA u (t + 1) x4_1.toNatClampNeg) &&& (255 : Int32)) * (x3_1 &&& (1 : Int32)))) (0 : Int32) (x4_1 + (1 : Int32)) _ _ ls hG hb0 (lv_sub hl [4, 5, 2, 1, 0] rfl) hf
                · have hf := gif_f c9 hf
                  refine lv_tableOut (tgt := 130) hx hb dX0_warmth_39 (by
                      have n0 := lv_neT c5 (k := (6 : Int32)) (a := 6) (by decide)
                      have n1 := lv_neT c6 (k := (7 : Int32)) (a := 7) (by decide)
                      have n2 := lv_neT c7 (k := (8 : Int32)) (a := 8) (by decide)
                      have n3 := lv_neT c8 (k := (9 : Int32)) (a := 9) (by decide)
                      have n4 := lv_neT c9 (k := (10 : Int32)) (a := 10) (by decide)
                      omega) (by decide) ?_
                  refine lv_iload_n hx hb dX0_warmth_130 rfl (lv_at hl 4 rfl) ?_
                  refine lv_iconst (v := (1 : Int32)) hx hb dX0_warmth_131 (by decide) ?_
                  refine lv_ishl hx hb dX0_warmth_132 ?_
                  refine lv_aload_n hx hb dX0_warmth_133 rfl (lv_at hl 1 rfl) ?_
                  refine g_getSa (o := 1) (a := (t + 1)) C0 hG (D0_0 ho hb0) rfl 0 (by decide) rfl rfl w_139 dX0_warmth_134 ?_
                  refine lv_iload hx hb dX0_warmth_137 (lv_at hl 5 rfl) ?_
                  obtain ⟨h10, hf⟩ := gin_s hf
                  refine g_iald C0 hG (D0_1 ho hb0) h10 dX0_warmth_139 ?_
                  refine lv_aload_n hx hb dX0_warmth_140 rfl (lv_at hl 2 rfl) ?_
                  obtain ⟨r11, hc11, hf⟩ := pb_s hf
                  refine g_doI0 hG (g_runS C0 hG (k_X0_bitOfTest l D base Z u (gA u (t + 1) x4_1.toNatClampNeg) p1 r11 hop1 hc11) m_X0_bitOfTest s_X0_bitOfTest w_405 (by decide) rfl hl.1 rfl (Nat.le_of_ble_eq_true rfl) dX0_warmth_141 ⟨Nat.zero_le _, Nat.zero_le _⟩) (fun H locs hG hk => ?_)
                  refine lv_ior hx hb dX0_warmth_144 ?_
                  refine lv_istore_n (lv' := [(3, .int ((x3_1 <<< ((1 : Int32) &&& 31)) ||| r11)), (5, .int ((gA u (t + 1) x4_1.toNatClampNeg) &&& (255 : Int32))), (0, .ref (base + t)), (1, .ref (base + p1)), (2, .int x2_1), (4, .int x4_1)]) hx hb dX0_warmth_145 rfl hl (by decide) rfl (fun ls hl => ?_)
                  refine lv_iinc (v := x4_1 + (1 : Int32)) (lv' := [(4, .int (x4_1 + (1 : Int32))), (3, .int ((x3_1 <<< ((1 : Int32) &&& 31)) ||| r11)), (5, .int ((gA u (t + 1) x4_1.toNatClampNeg) &&& (255 : Int32))), (0, .ref (base + t)), (1, .ref (base + p1)), (2, .int x2_1)]) hx hb dX0_warmth_146 hl (k := 5) rfl rfl (by decide) rfl (fun ls hl => ?_)
                  refine lv_goto (tgt := 7) hx hb dX0_warmth_149 (by decide) ?_
                  have hf := while_l hX1 hf
                  exact ih1 x2_1 ((x3_1 <<< ((1 : Int32) &&& 31)) ||| r11) (x4_1 + (1 : Int32)) _ _ ls hG hb0 (lv_sub hl [3, 4, 5, 1, 0] rfl) hf
  exact loop1 FUEL (0 : Int32) (0 : Int32) (0 : Int32) _ _ ls hG hb0 (lv_sub hl [3, 4, 2, 1, 0] rfl) hf
theorem dX2_becomeLike_0 : decode cX2_becomeLike 0 = .ok (.aload_n 1, 1) := by decide +kernel
theorem dX2_becomeLike_1 : decode cX2_becomeLike 1 = .ok (.getfield 11, 3) := by decide +kernel
theorem dX2_becomeLike_4 : decode cX2_becomeLike 4 = .ok (.iconst 0, 1) := by decide +kernel
theorem dX2_becomeLike_5 : decode cX2_becomeLike 5 = .ok (.aload_n 0, 1) := by decide +kernel
theorem dX2_becomeLike_6 : decode cX2_becomeLike 6 = .ok (.getfield 11, 3) := by decide +kernel
theorem dX2_becomeLike_9 : decode cX2_becomeLike 9 = .ok (.iconst 0, 1) := by decide +kernel
theorem dX2_becomeLike_10 : decode cX2_becomeLike 10 = .ok (.bipush 10, 2) := by decide +kernel
theorem dX2_becomeLike_12 : decode cX2_becomeLike 12 = .ok (.invokestatic 34, 3) := by decide +kernel
theorem dX2_becomeLike_15 : decode cX2_becomeLike 15 = .ok (.aload_n 1, 1) := by decide +kernel
theorem dX2_becomeLike_16 : decode cX2_becomeLike 16 = .ok (.getfield 15, 3) := by decide +kernel
theorem dX2_becomeLike_19 : decode cX2_becomeLike 19 = .ok (.iconst 0, 1) := by decide +kernel
theorem dX2_becomeLike_20 : decode cX2_becomeLike 20 = .ok (.aload_n 0, 1) := by decide +kernel
theorem dX2_becomeLike_21 : decode cX2_becomeLike 21 = .ok (.getfield 15, 3) := by decide +kernel
theorem dX2_becomeLike_24 : decode cX2_becomeLike 24 = .ok (.iconst 0, 1) := by decide +kernel
theorem dX2_becomeLike_25 : decode cX2_becomeLike 25 = .ok (.bipush 10, 2) := by decide +kernel
theorem dX2_becomeLike_27 : decode cX2_becomeLike 27 = .ok (.invokestatic 34, 3) := by decide +kernel
theorem dX2_becomeLike_30 : decode cX2_becomeLike 30 = .ok (.aload_n 1, 1) := by decide +kernel
theorem dX2_becomeLike_31 : decode cX2_becomeLike 31 = .ok (.getfield 18, 3) := by decide +kernel
theorem dX2_becomeLike_34 : decode cX2_becomeLike 34 = .ok (.iconst 0, 1) := by decide +kernel
theorem dX2_becomeLike_35 : decode cX2_becomeLike 35 = .ok (.aload_n 0, 1) := by decide +kernel
theorem dX2_becomeLike_36 : decode cX2_becomeLike 36 = .ok (.getfield 18, 3) := by decide +kernel
theorem dX2_becomeLike_39 : decode cX2_becomeLike 39 = .ok (.iconst 0, 1) := by decide +kernel
theorem dX2_becomeLike_40 : decode cX2_becomeLike 40 = .ok (.bipush 10, 2) := by decide +kernel
theorem dX2_becomeLike_42 : decode cX2_becomeLike 42 = .ok (.invokestatic 34, 3) := by decide +kernel
theorem dX2_becomeLike_45 : decode cX2_becomeLike 45 = .ok (.aload_n 0, 1) := by decide +kernel
theorem dX2_becomeLike_46 : decode cX2_becomeLike 46 = .ok (.aload_n 1, 1) := by decide +kernel
theorem dX2_becomeLike_47 : decode cX2_becomeLike 47 = .ok (.getfield 21, 3) := by decide +kernel
theorem dX2_becomeLike_50 : decode cX2_becomeLike 50 = .ok (.putfield 21, 3) := by decide +kernel
theorem dX2_becomeLike_53 : decode cX2_becomeLike 53 = .ok (.return_, 1) := by decide +kernel
def f_X2_becomeLike (t : Nat) (p1 : Nat) (u : Mem) : Option (Unit × Mem) := gcp (0 : Int32) (0 : Int32) (10 : Int32) 10 10 (gcp (0 : Int32) (0 : Int32) (10 : Int32) 10 10 (gcp (0 : Int32) (0 : Int32) (10 : Int32) 10 10 (some ((), sI (sCA (sCA (sCA u (p1 + 1) (0 : Int32).toNatClampNeg (t + 1) (0 : Int32).toNatClampNeg (10 : Int32).toNatClampNeg) (p1 + 2) (0 : Int32).toNatClampNeg (t + 2) (0 : Int32).toNatClampNeg (10 : Int32).toNatClampNeg) (p1 + 3) (0 : Int32).toNatClampNeg (t + 3) (0 : Int32).toNatClampNeg (10 : Int32).toNatClampNeg) t 4 (gI (sCA (sCA (sCA u (p1 + 1) (0 : Int32).toNatClampNeg (t + 1) (0 : Int32).toNatClampNeg (10 : Int32).toNatClampNeg) (p1 + 2) (0 : Int32).toNatClampNeg (t + 2) (0 : Int32).toNatClampNeg (10 : Int32).toNatClampNeg) (p1 + 3) (0 : Int32).toNatClampNeg (t + 3) (0 : Int32).toNatClampNeg (10 : Int32).toNatClampNeg) p1 4)))))
set_option maxHeartbeats 4000000 in
set_option maxRecDepth 100000 in
theorem k_X2_becomeLike (l : Launch) (D : gDt) (base : Nat) (Z : gZt) (u : Mem) (t : Nat) (p1 : Nat) (u' : Mem) (ho : gok 129 t l2) (hop1 : gok 129 p1 l2) (hf : f_X2_becomeLike t p1 u = some ((), u')) : Met l yX2_becomeLike (gws yX2_becomeLike cX2_becomeLike 2 (none)) (gRm 1 0 0) (gPc D base Z u [.ref (base + t), .ref (base + p1)]) (gQv D base u') 0 0 (gF base) := by
  refine Met.ofW (cc := cX2_becomeLike) (maxL := 2) (ret := none) (by decide) rfl ?_
  intro p e s m args below meth c s₁ B hml hv
  obtain ⟨rfl, C0, hG⟩ := g_enter B hml hv
  have hr := B.returns
  have C0 : gC p s m meth c _ cX2_becomeLike 2 RX2 D base Z := C0
  have hx := C0.1
  have hb := C0.2.1
  have hl := lv_entry ([.ref (base + t), .ref (base + p1)]) (n := 2) (Nat.le_of_ble_eq_true rfl)
  rw [lg_entry_eq]
  generalize (lg_sl ([.ref (base + t), .ref (base + p1)]) ++ List.replicate (2 - (lg_sl ([.ref (base + t), .ref (base + p1)])).length) Slot.unset).toArray = ls at hl ⊢
  have hl : lv_has ls 2 [(0, .ref (base + t)), (1, .ref (base + p1))] := hl
  obtain ⟨Q, hQ⟩ : ∃ Q, Q = MQ below (gQv D base u') ([.ref (base + t), .ref (base + p1)] : List Value).toArray s 0 0 (gF base) := ⟨_, rfl⟩
  rw [← hQ]
  change W p l e (gRm 1 0 0) s m _ below meth c _ _ _ _ _ _
  unfold f_X2_becomeLike at hf
  refine lv_aload_n hx hb dX2_becomeLike_0 rfl (lv_at hl 1 rfl) ?_
  refine g_getSa (o := 1) (a := (p1 + 1)) C0 hG (T2_0 hG hop1) rfl 0 (by decide) rfl rfl w_225 dX2_becomeLike_1 ?_
  refine lv_iconst (v := (0 : Int32)) hx hb dX2_becomeLike_4 (by decide) ?_
  refine lv_aload_n hx hb dX2_becomeLike_5 rfl (lv_at hl 0 rfl) ?_
  refine g_getSa (o := 1) (a := (t + 1)) C0 hG (T2_0 hG ho) rfl 0 (by decide) rfl rfl w_225 dX2_becomeLike_6 ?_
  refine lv_iconst (v := (0 : Int32)) hx hb dX2_becomeLike_9 (by decide) ?_
  refine lv_bipush (v := (10 : Int32)) hx hb dX2_becomeLike_10 (by decide) ?_
  obtain ⟨h1, hf⟩ := gcp_s hf
  refine g_copyA C0 hG w_770 ac_n ac_s ac_i hl.1 (T2_1 hG hop1) (T2_1 hG ho) h1 ⟨Nat.le_of_ble_eq_true rfl, Nat.le_of_ble_eq_true rfl⟩ dX2_becomeLike_12 (fun H locs hG => ?_)
  refine lv_aload_n hx hb dX2_becomeLike_15 rfl (lv_at hl 1 rfl) ?_
  refine g_getSa (o := 2) (a := (p1 + 2)) C0 hG (T2_0 hG hop1) rfl 1 (by decide) rfl rfl w_227 dX2_becomeLike_16 ?_
  refine lv_iconst (v := (0 : Int32)) hx hb dX2_becomeLike_19 (by decide) ?_
  refine lv_aload_n hx hb dX2_becomeLike_20 rfl (lv_at hl 0 rfl) ?_
  refine g_getSa (o := 2) (a := (t + 2)) C0 hG (T2_0 hG ho) rfl 1 (by decide) rfl rfl w_227 dX2_becomeLike_21 ?_
  refine lv_iconst (v := (0 : Int32)) hx hb dX2_becomeLike_24 (by decide) ?_
  refine lv_bipush (v := (10 : Int32)) hx hb dX2_becomeLike_25 (by decide) ?_
  obtain ⟨h2, hf⟩ := gcp_s hf
  refine g_copyA C0 hG w_770 ac_n ac_s ac_i hl.1 (T2_2 hG hop1) (T2_2 hG ho) h2 ⟨Nat.le_of_ble_eq_true rfl, Nat.le_of_ble_eq_true rfl⟩ dX2_becomeLike_27 (fun H locs hG => ?_)
  refine lv_aload_n hx hb dX2_becomeLike_30 rfl (lv_at hl 1 rfl) ?_
  refine g_getSa (o := 3) (a := (p1 + 3)) C0 hG (T2_0 hG hop1) rfl 2 (by decide) rfl rfl w_229 dX2_becomeLike_31 ?_
  refine lv_iconst (v := (0 : Int32)) hx hb dX2_becomeLike_34 (by decide) ?_
  refine lv_aload_n hx hb dX2_becomeLike_35 rfl (lv_at hl 0 rfl) ?_
  refine g_getSa (o := 3) (a := (t + 3)) C0 hG (T2_0 hG ho) rfl 2 (by decide) rfl rfl w_229 dX2_becomeLike_36 ?_
  refine lv_iconst (v := (0 : Int32)) hx hb dX2_becomeLike_39 (by decide) ?_
  refine lv_bipush (v := (10 : Int32)) hx hb dX2_becomeLike_40 (by decide) ?_
  obtain ⟨h3, hf⟩ := gcp_s hf
  refine g_copyA C0 hG w_770 ac_n ac_s ac_i hl.1 (T2_3 hG hop1) (T2_3 hG ho) h3 ⟨Nat.le_of_ble_eq_true rfl, Nat.le_of_ble_eq_true rfl⟩ dX2_becomeLike_42 (fun H locs hG => ?_)
  refine lv_aload_n hx hb dX2_becomeLike_45 rfl (lv_at hl 0 rfl) ?_
  refine lv_aload_n hx hb dX2_becomeLike_46 rfl (lv_at hl 1 rfl) ?_
  refine g_getI C0 hG (T2_0 hG hop1) rfl 4 (by decide) rfl w_232 dX2_becomeLike_47 ?_
  refine g_putI (ty := .int) C0 hG (T2_0 hG ho) rfl 4 (by decide) rfl w_232 rfl (by decide) rfl rfl dX2_becomeLike_50 (fun H locs hG => ?_)
  obtain ⟨-, hu⟩ := gret_s hf
  subst hu
  subst hQ
  exact g_vret C0 hG hr dX2_becomeLike_53
theorem dX1_becomeLike_0 : decode cX1_becomeLike 0 = .ok (.aload_n 0, 1) := by decide +kernel
theorem dX1_becomeLike_1 : decode cX1_becomeLike 1 = .ok (.getfield 14, 3) := by decide +kernel
theorem dX1_becomeLike_4 : decode cX1_becomeLike 4 = .ok (.aload_n 1, 1) := by decide +kernel
theorem dX1_becomeLike_5 : decode cX1_becomeLike 5 = .ok (.getfield 14, 3) := by decide +kernel
theorem dX1_becomeLike_8 : decode cX1_becomeLike 8 = .ok (.invokevirtual 26, 3) := by decide +kernel
theorem dX1_becomeLike_11 : decode cX1_becomeLike 11 = .ok (.aload_n 0, 1) := by decide +kernel
theorem dX1_becomeLike_12 : decode cX1_becomeLike 12 = .ok (.getfield 20, 3) := by decide +kernel
theorem dX1_becomeLike_15 : decode cX1_becomeLike 15 = .ok (.aload_n 1, 1) := by decide +kernel
theorem dX1_becomeLike_16 : decode cX1_becomeLike 16 = .ok (.getfield 20, 3) := by decide +kernel
theorem dX1_becomeLike_19 : decode cX1_becomeLike 19 = .ok (.invokevirtual 26, 3) := by decide +kernel
theorem dX1_becomeLike_22 : decode cX1_becomeLike 22 = .ok (.aload_n 0, 1) := by decide +kernel
theorem dX1_becomeLike_23 : decode cX1_becomeLike 23 = .ok (.getfield 23, 3) := by decide +kernel
theorem dX1_becomeLike_26 : decode cX1_becomeLike 26 = .ok (.aload_n 1, 1) := by decide +kernel
theorem dX1_becomeLike_27 : decode cX1_becomeLike 27 = .ok (.getfield 23, 3) := by decide +kernel
theorem dX1_becomeLike_30 : decode cX1_becomeLike 30 = .ok (.invokevirtual 26, 3) := by decide +kernel
theorem dX1_becomeLike_33 : decode cX1_becomeLike 33 = .ok (.return_, 1) := by decide +kernel
def f_X1_becomeLike (t : Nat) (p1 : Nat) (u : Mem) : Option (Unit × Mem) := obind (f_X2_becomeLike (t + 1) (p1 + 1) u) (fun _ u1 => obind (f_X2_becomeLike (t + 5) (p1 + 5) u1) (fun _ u2 => obind (f_X2_becomeLike (t + 9) (p1 + 9) u2) (fun _ u3 => some ((), u3))))
set_option maxHeartbeats 4000000 in
set_option maxRecDepth 100000 in
theorem k_X1_becomeLike (l : Launch) (D : gDt) (base : Nat) (Z : gZt) (u : Mem) (t : Nat) (p1 : Nat) (u' : Mem) (ho : gok 129 t l1) (hop1 : gok 129 p1 l1) (hf : f_X1_becomeLike t p1 u = some ((), u')) : Met l yX1_becomeLike (gws yX1_becomeLike cX1_becomeLike 2 (none)) (gRm 2 0 0) (gPc D base Z u [.ref (base + t), .ref (base + p1)]) (gQv D base u') 0 0 (gF base) := by
  refine Met.ofW (cc := cX1_becomeLike) (maxL := 2) (ret := none) (by decide) rfl ?_
  intro p e s m args below meth c s₁ B hml hv
  obtain ⟨rfl, C0, hG⟩ := g_enter B hml hv
  have hr := B.returns
  have C0 : gC p s m meth c _ cX1_becomeLike 2 RX1 D base Z := C0
  have hx := C0.1
  have hb := C0.2.1
  have hl := lv_entry ([.ref (base + t), .ref (base + p1)]) (n := 2) (Nat.le_of_ble_eq_true rfl)
  rw [lg_entry_eq]
  generalize (lg_sl ([.ref (base + t), .ref (base + p1)]) ++ List.replicate (2 - (lg_sl ([.ref (base + t), .ref (base + p1)])).length) Slot.unset).toArray = ls at hl ⊢
  have hl : lv_has ls 2 [(0, .ref (base + t)), (1, .ref (base + p1))] := hl
  obtain ⟨Q, hQ⟩ : ∃ Q, Q = MQ below (gQv D base u') ([.ref (base + t), .ref (base + p1)] : List Value).toArray s 0 0 (gF base) := ⟨_, rfl⟩
  rw [← hQ]
  change W p l e (gRm 2 0 0) s m _ below meth c _ _ _ _ _ _
  unfold f_X1_becomeLike at hf
  refine lv_aload_n hx hb dX1_becomeLike_0 rfl (lv_at hl 0 rfl) ?_
  refine g_getSa (o := 1) (a := (t + 1)) C0 hG (T1_0 hG ho) rfl 0 (by decide) rfl rfl w_245 dX1_becomeLike_1 ?_
  refine lv_aload_n hx hb dX1_becomeLike_4 rfl (lv_at hl 1 rfl) ?_
  refine g_getSa (o := 1) (a := (p1 + 1)) C0 hG (T1_0 hG hop1) rfl 0 (by decide) rfl rfl w_245 dX1_becomeLike_5 ?_
  obtain ⟨_, u1, hc1, hf⟩ := obind_s hf
  refine g_doV0 hG (g_runVN C0 hG (k_X2_becomeLike l D base Z u (t + 1) (p1 + 1) u1 (S1_1 ho) (S1_1 hop1) hc1) m_X2_becomeLike v_X2_becomeLike w_766 (by decide) (g_recv C0 hG (T1_1 hG ho) rfl) rfl hl.1 rfl (Nat.le_of_ble_eq_true rfl) dX1_becomeLike_8 ⟨Nat.zero_le _, Nat.zero_le _⟩) (fun H locs hG hk => ?_)
  refine lv_aload_n hx hb dX1_becomeLike_11 rfl (lv_at hl 0 rfl) ?_
  refine g_getSa (o := 5) (a := (t + 5)) C0 hG (T1_0 hG ho) rfl 1 (by decide) rfl rfl w_247 dX1_becomeLike_12 ?_
  refine lv_aload_n hx hb dX1_becomeLike_15 rfl (lv_at hl 1 rfl) ?_
  refine g_getSa (o := 5) (a := (p1 + 5)) C0 hG (T1_0 hG hop1) rfl 1 (by decide) rfl rfl w_247 dX1_becomeLike_16 ?_
  obtain ⟨_, u2, hc2, hf⟩ := obind_s hf
  refine g_doV0 hG (g_runVN C0 hG (k_X2_becomeLike l D base Z u1 (t + 5) (p1 + 5) u2 (S1_5 ho) (S1_5 hop1) hc2) m_X2_becomeLike v_X2_becomeLike w_766 (by decide) (g_recv C0 hG (T1_5 hG ho) rfl) rfl hl.1 rfl (Nat.le_of_ble_eq_true rfl) dX1_becomeLike_19 ⟨Nat.zero_le _, Nat.zero_le _⟩) (fun H locs hG hk => ?_)
  refine lv_aload_n hx hb dX1_becomeLike_22 rfl (lv_at hl 0 rfl) ?_
  refine g_getSa (o := 9) (a := (t + 9)) C0 hG (T1_0 hG ho) rfl 2 (by decide) rfl rfl w_249 dX1_becomeLike_23 ?_
  refine lv_aload_n hx hb dX1_becomeLike_26 rfl (lv_at hl 1 rfl) ?_
  refine g_getSa (o := 9) (a := (p1 + 9)) C0 hG (T1_0 hG hop1) rfl 2 (by decide) rfl rfl w_249 dX1_becomeLike_27 ?_
  obtain ⟨_, u3, hc3, hf⟩ := obind_s hf
  refine g_doV0 hG (g_runVN C0 hG (k_X2_becomeLike l D base Z u2 (t + 9) (p1 + 9) u3 (S1_9 ho) (S1_9 hop1) hc3) m_X2_becomeLike v_X2_becomeLike w_766 (by decide) (g_recv C0 hG (T1_9 hG ho) rfl) rfl hl.1 rfl (Nat.le_of_ble_eq_true rfl) dX1_becomeLike_30 ⟨Nat.zero_le _, Nat.zero_le _⟩) (fun H locs hG hk => ?_)
  obtain ⟨-, hu⟩ := gret_s hf
  subst hu
  subst hQ
  exact g_vret C0 hG hr dX1_becomeLike_33
theorem dX2_clear_0 : decode cX2_clear 0 = .ok (.aload_n 0, 1) := by decide +kernel
theorem dX2_clear_1 : decode cX2_clear 1 = .ok (.iconst 0, 1) := by decide +kernel
theorem dX2_clear_2 : decode cX2_clear 2 = .ok (.putfield 21, 3) := by decide +kernel
theorem dX2_clear_5 : decode cX2_clear 5 = .ok (.aload_n 0, 1) := by decide +kernel
theorem dX2_clear_6 : decode cX2_clear 6 = .ok (.getfield 21, 3) := by decide +kernel
theorem dX2_clear_9 : decode cX2_clear 9 = .ok (.ireturn, 1) := by decide +kernel
def f_X2_clear (t : Nat) (u : Mem) : Option (Int32 × Mem) := some (gI (sI u t 4 (0 : Int32)) t 4, sI u t 4 (0 : Int32))
set_option maxHeartbeats 4000000 in
set_option maxRecDepth 100000 in
theorem k_X2_clear (l : Launch) (D : gDt) (base : Nat) (Z : gZt) (u : Mem) (t : Nat) (r : Int32) (u' : Mem) (ho : gok 129 t l2) (hf : f_X2_clear t u = some (r, u')) : Met l yX2_clear (gws yX2_clear cX2_clear 1 (some .int)) (gRm 1 0 0) (gPc D base Z u [.ref (base + t)]) (gQi D base r u') 0 0 (gF base) := by
  refine Met.ofW (cc := cX2_clear) (maxL := 1) (ret := some .int) (by decide) rfl ?_
  intro p e s m args below meth c s₁ B hml hv
  obtain ⟨rfl, C0, hG⟩ := g_enter B hml hv
  have hr := B.returns
  have C0 : gC p s m meth c _ cX2_clear 1 RX2 D base Z := C0
  have hx := C0.1
  have hb := C0.2.1
  have hl := lv_entry ([.ref (base + t)]) (n := 1) (Nat.le_of_ble_eq_true rfl)
  rw [lg_entry_eq]
  generalize (lg_sl ([.ref (base + t)]) ++ List.replicate (1 - (lg_sl ([.ref (base + t)])).length) Slot.unset).toArray = ls at hl ⊢
  have hl : lv_has ls 1 [(0, .ref (base + t))] := hl
  obtain ⟨Q, hQ⟩ : ∃ Q, Q = MQ below (gQi D base r u') ([.ref (base + t)] : List Value).toArray s 0 0 (gF base) := ⟨_, rfl⟩
  rw [← hQ]
  change W p l e (gRm 1 0 0) s m _ below meth c _ _ _ _ _ _
  unfold f_X2_clear at hf
  refine lv_aload_n hx hb dX2_clear_0 rfl (lv_at hl 0 rfl) ?_
  refine lv_iconst (v := (0 : Int32)) hx hb dX2_clear_1 (by decide) ?_
  refine g_putI (ty := .int) C0 hG (T2_0 hG ho) rfl 4 (by decide) rfl w_232 rfl (by decide) rfl rfl dX2_clear_2 (fun H locs hG => ?_)
  refine lv_aload_n hx hb dX2_clear_5 rfl (lv_at hl 0 rfl) ?_
  refine g_getI C0 hG (T2_0 hG ho) rfl 4 (by decide) rfl w_232 dX2_clear_6 ?_
  obtain ⟨hr1, hu⟩ := gret_s hf
  subst hr1
  subst hu
  subst hQ
  exact g_iret C0 hG hr dX2_clear_9
theorem dX2_append_0 : decode cX2_append 0 = .ok (.aload_n 0, 1) := by decide +kernel
theorem dX2_append_1 : decode cX2_append 1 = .ok (.getfield 21, 3) := by decide +kernel
theorem dX2_append_4 : decode cX2_append 4 = .ok (.aload_n 0, 1) := by decide +kernel
theorem dX2_append_5 : decode cX2_append 5 = .ok (.getfield 31, 3) := by decide +kernel
theorem dX2_append_8 : decode cX2_append 8 = .ok (.if_icmp .lt 6, 3) := by decide +kernel
theorem dX2_append_11 : decode cX2_append 11 = .ok (.bipush (-4), 2) := by decide +kernel
theorem dX2_append_13 : decode cX2_append 13 = .ok (.ireturn, 1) := by decide +kernel
theorem dX2_append_14 : decode cX2_append 14 = .ok (.aload_n 0, 1) := by decide +kernel
theorem dX2_append_15 : decode cX2_append 15 = .ok (.getfield 11, 3) := by decide +kernel
theorem dX2_append_18 : decode cX2_append 18 = .ok (.aload_n 0, 1) := by decide +kernel
theorem dX2_append_19 : decode cX2_append 19 = .ok (.getfield 21, 3) := by decide +kernel
theorem dX2_append_22 : decode cX2_append 22 = .ok (.iload_n 1, 1) := by decide +kernel
theorem dX2_append_23 : decode cX2_append 23 = .ok (.iastore, 1) := by decide +kernel
theorem dX2_append_24 : decode cX2_append 24 = .ok (.aload_n 0, 1) := by decide +kernel
theorem dX2_append_25 : decode cX2_append 25 = .ok (.getfield 15, 3) := by decide +kernel
theorem dX2_append_28 : decode cX2_append 28 = .ok (.aload_n 0, 1) := by decide +kernel
theorem dX2_append_29 : decode cX2_append 29 = .ok (.getfield 21, 3) := by decide +kernel
theorem dX2_append_32 : decode cX2_append 32 = .ok (.iload_n 2, 1) := by decide +kernel
theorem dX2_append_33 : decode cX2_append 33 = .ok (.iastore, 1) := by decide +kernel
theorem dX2_append_34 : decode cX2_append 34 = .ok (.aload_n 0, 1) := by decide +kernel
theorem dX2_append_35 : decode cX2_append 35 = .ok (.getfield 18, 3) := by decide +kernel
theorem dX2_append_38 : decode cX2_append 38 = .ok (.aload_n 0, 1) := by decide +kernel
theorem dX2_append_39 : decode cX2_append 39 = .ok (.getfield 21, 3) := by decide +kernel
theorem dX2_append_42 : decode cX2_append 42 = .ok (.iload_n 3, 1) := by decide +kernel
theorem dX2_append_43 : decode cX2_append 43 = .ok (.iastore, 1) := by decide +kernel
theorem dX2_append_44 : decode cX2_append 44 = .ok (.aload_n 0, 1) := by decide +kernel
theorem dX2_append_45 : decode cX2_append 45 = .ok (.dup, 1) := by decide +kernel
theorem dX2_append_46 : decode cX2_append 46 = .ok (.getfield 21, 3) := by decide +kernel
theorem dX2_append_49 : decode cX2_append 49 = .ok (.iconst 1, 1) := by decide +kernel
theorem dX2_append_50 : decode cX2_append 50 = .ok (.iadd, 1) := by decide +kernel
theorem dX2_append_51 : decode cX2_append 51 = .ok (.putfield 21, 3) := by decide +kernel
theorem dX2_append_54 : decode cX2_append 54 = .ok (.aload_n 0, 1) := by decide +kernel
theorem dX2_append_55 : decode cX2_append 55 = .ok (.getfield 21, 3) := by decide +kernel
theorem dX2_append_58 : decode cX2_append 58 = .ok (.ireturn, 1) := by decide +kernel
def f_X2_append (t : Nat) (p1 : Int32) (p2 : Int32) (p3 : Int32) (u : Mem) : Option (Int32 × Mem) := (if (gI u t 4) < (gI u t 3) then gin (gI u t 4) 10 (gin (gI (sA u (t + 1) (gI u t 4).toNatClampNeg p1) t 4) 10 (gin (gI (sA (sA u (t + 1) (gI u t 4).toNatClampNeg p1) (t + 2) (gI (sA u (t + 1) (gI u t 4).toNatClampNeg p1) t 4).toNatClampNeg p2) t 4) 10 (some (gI (sI (sA (sA (sA u (t + 1) (gI u t 4).toNatClampNeg p1) (t + 2) (gI (sA u (t + 1) (gI u t 4).toNatClampNeg p1) t 4).toNatClampNeg p2) (t + 3) (gI (sA (sA u (t + 1) (gI u t 4).toNatClampNeg p1) (t + 2) (gI (sA u (t + 1) (gI u t 4).toNatClampNeg p1) t 4).toNatClampNeg p2) t 4).toNatClampNeg p3) t 4 ((gI (sA (sA (sA u (t + 1) (gI u t 4).toNatClampNeg p1) (t + 2) (gI (sA u (t + 1) (gI u t 4).toNatClampNeg p1) t 4).toNatClampNeg p2) (t + 3) (gI (sA (sA u (t + 1) (gI u t 4).toNatClampNeg p1) (t + 2) (gI (sA u (t + 1) (gI u t 4).toNatClampNeg p1) t 4).toNatClampNeg p2) t 4).toNatClampNeg p3) t 4) + (1 : Int32))) t 4, sI (sA (sA (sA u (t + 1) (gI u t 4).toNatClampNeg p1) (t + 2) (gI (sA u (t + 1) (gI u t 4).toNatClampNeg p1) t 4).toNatClampNeg p2) (t + 3) (gI (sA (sA u (t + 1) (gI u t 4).toNatClampNeg p1) (t + 2) (gI (sA u (t + 1) (gI u t 4).toNatClampNeg p1) t 4).toNatClampNeg p2) t 4).toNatClampNeg p3) t 4 ((gI (sA (sA (sA u (t + 1) (gI u t 4).toNatClampNeg p1) (t + 2) (gI (sA u (t + 1) (gI u t 4).toNatClampNeg p1) t 4).toNatClampNeg p2) (t + 3) (gI (sA (sA u (t + 1) (gI u t 4).toNatClampNeg p1) (t + 2) (gI (sA u (t + 1) (gI u t 4).toNatClampNeg p1) t 4).toNatClampNeg p2) t 4).toNatClampNeg p3) t 4) + (1 : Int32)))))) else some ((-4 : Int32), u))
set_option maxHeartbeats 4000000 in
set_option maxRecDepth 100000 in
theorem k_X2_append (l : Launch) (D : gDt) (base : Nat) (Z : gZt) (u : Mem) (t : Nat) (p1 : Int32) (p2 : Int32) (p3 : Int32) (r : Int32) (u' : Mem) (ho : gok 129 t l2) (hf : f_X2_append t p1 p2 p3 u = some (r, u')) : Met l yX2_append (gws yX2_append cX2_append 4 (some .int)) (gRm 1 0 0) (gPc D base Z u [.ref (base + t), .int p1, .int p2, .int p3]) (gQi D base r u') 0 0 (gF base) := by
  refine Met.ofW (cc := cX2_append) (maxL := 4) (ret := some .int) (by decide) rfl ?_
  intro p e s m args below meth c s₁ B hml hv
  obtain ⟨rfl, C0, hG⟩ := g_enter B hml hv
  have hr := B.returns
  have C0 : gC p s m meth c _ cX2_append 4 RX2 D base Z := C0
  have hx := C0.1
  have hb := C0.2.1
  have hl := lv_entry ([.ref (base + t), .int p1, .int p2, .int p3]) (n := 4) (Nat.le_of_ble_eq_true rfl)
  rw [lg_entry_eq]
  generalize (lg_sl ([.ref (base + t), .int p1, .int p2, .int p3]) ++ List.replicate (4 - (lg_sl ([.ref (base + t), .int p1, .int p2, .int p3])).length) Slot.unset).toArray = ls at hl ⊢
  have hl : lv_has ls 4 [(0, .ref (base + t)), (1, .int p1), (2, .int p2), (3, .int p3)] := hl
  obtain ⟨Q, hQ⟩ : ∃ Q, Q = MQ below (gQi D base r u') ([.ref (base + t), .int p1, .int p2, .int p3] : List Value).toArray s 0 0 (gF base) := ⟨_, rfl⟩
  rw [← hQ]
  change W p l e (gRm 1 0 0) s m _ below meth c _ _ _ _ _ _
  unfold f_X2_append at hf
  refine lv_aload_n hx hb dX2_append_0 rfl (lv_at hl 0 rfl) ?_
  refine g_getI C0 hG (T2_0 hG ho) rfl 4 (by decide) rfl w_232 dX2_append_1 ?_
  refine lv_aload_n hx hb dX2_append_4 rfl (lv_at hl 0 rfl) ?_
  refine g_getI C0 hG (T2_0 hG ho) rfl 3 (by decide) rfl w_231 dX2_append_5 ?_
  refine lv_icmp_lt (tgt := 14) hx hb dX2_append_8 (by decide) (fun c1 => ?_) (fun c1 => ?_)
  · have hf := gif_t c1 hf
    refine lv_aload_n hx hb dX2_append_14 rfl (lv_at hl 0 rfl) ?_
    refine g_getSa (o := 1) (a := (t + 1)) C0 hG (T2_0 hG ho) rfl 0 (by decide) rfl rfl w_225 dX2_append_15 ?_
    refine lv_aload_n hx hb dX2_append_18 rfl (lv_at hl 0 rfl) ?_
    refine g_getI C0 hG (T2_0 hG ho) rfl 4 (by decide) rfl w_232 dX2_append_19 ?_
    refine lv_iload_n hx hb dX2_append_22 rfl (lv_at hl 1 rfl) ?_
    obtain ⟨h2, hf⟩ := gin_s hf
    refine g_iast C0 hG (T2_1 hG ho) h2 dX2_append_23 (fun H locs hG => ?_)
    refine lv_aload_n hx hb dX2_append_24 rfl (lv_at hl 0 rfl) ?_
    refine g_getSa (o := 2) (a := (t + 2)) C0 hG (T2_0 hG ho) rfl 1 (by decide) rfl rfl w_227 dX2_append_25 ?_
    refine lv_aload_n hx hb dX2_append_28 rfl (lv_at hl 0 rfl) ?_
    refine g_getI C0 hG (T2_0 hG ho) rfl 4 (by decide) rfl w_232 dX2_append_29 ?_
    refine lv_iload_n hx hb dX2_append_32 rfl (lv_at hl 2 rfl) ?_
    obtain ⟨h3, hf⟩ := gin_s hf
    refine g_iast C0 hG (T2_2 hG ho) h3 dX2_append_33 (fun H locs hG => ?_)
    refine lv_aload_n hx hb dX2_append_34 rfl (lv_at hl 0 rfl) ?_
    refine g_getSa (o := 3) (a := (t + 3)) C0 hG (T2_0 hG ho) rfl 2 (by decide) rfl rfl w_229 dX2_append_35 ?_
    refine lv_aload_n hx hb dX2_append_38 rfl (lv_at hl 0 rfl) ?_
    refine g_getI C0 hG (T2_0 hG ho) rfl 4 (by decide) rfl w_232 dX2_append_39 ?_
    refine lv_iload_n hx hb dX2_append_42 rfl (lv_at hl 3 rfl) ?_
    obtain ⟨h4, hf⟩ := gin_s hf
    refine g_iast C0 hG (T2_3 hG ho) h4 dX2_append_43 (fun H locs hG => ?_)
    refine lv_aload_n hx hb dX2_append_44 rfl (lv_at hl 0 rfl) ?_
    refine lv_dup hx hb dX2_append_45 rfl ?_
    refine g_getI C0 hG (T2_0 hG ho) rfl 4 (by decide) rfl w_232 dX2_append_46 ?_
    refine lv_iconst (v := (1 : Int32)) hx hb dX2_append_49 (by decide) ?_
    refine lv_iadd hx hb dX2_append_50 ?_
    refine g_putI (ty := .int) C0 hG (T2_0 hG ho) rfl 4 (by decide) rfl w_232 rfl (by decide) rfl rfl dX2_append_51 (fun H locs hG => ?_)
    refine lv_aload_n hx hb dX2_append_54 rfl (lv_at hl 0 rfl) ?_
    refine g_getI C0 hG (T2_0 hG ho) rfl 4 (by decide) rfl w_232 dX2_append_55 ?_
    obtain ⟨hr1, hu⟩ := gret_s hf
    subst hr1
    subst hu
    subst hQ
    exact g_iret C0 hG hr dX2_append_58
  · have hf := gif_f c1 hf
    refine lv_bipush (v := (-4 : Int32)) hx hb dX2_append_11 (by decide) ?_
    obtain ⟨hr1, hu⟩ := gret_s hf
    subst hr1
    subst hu
    subst hQ
    exact g_iret C0 hG hr dX2_append_13
theorem dX3_write_0 : decode cX3_write 0 = .ok (.aload_n 0, 1) := by decide +kernel
theorem dX3_write_1 : decode cX3_write 1 = .ok (.getfield 15, 3) := by decide +kernel
theorem dX3_write_4 : decode cX3_write 4 = .ok (.bipush 100, 2) := by decide +kernel
theorem dX3_write_6 : decode cX3_write 6 = .ok (.if_icmp .lt 6, 3) := by decide +kernel
theorem dX3_write_9 : decode cX3_write 9 = .ok (.bipush (-4), 2) := by decide +kernel
theorem dX3_write_11 : decode cX3_write 11 = .ok (.ireturn, 1) := by decide +kernel
theorem dX3_write_12 : decode cX3_write 12 = .ok (.aload_n 0, 1) := by decide +kernel
theorem dX3_write_13 : decode cX3_write 13 = .ok (.getfield 9, 3) := by decide +kernel
theorem dX3_write_16 : decode cX3_write 16 = .ok (.aload_n 0, 1) := by decide +kernel
theorem dX3_write_17 : decode cX3_write 17 = .ok (.getfield 15, 3) := by decide +kernel
theorem dX3_write_20 : decode cX3_write 20 = .ok (.iload_n 1, 1) := by decide +kernel
theorem dX3_write_21 : decode cX3_write 21 = .ok (.iastore, 1) := by decide +kernel
theorem dX3_write_22 : decode cX3_write 22 = .ok (.aload_n 0, 1) := by decide +kernel
theorem dX3_write_23 : decode cX3_write 23 = .ok (.dup, 1) := by decide +kernel
theorem dX3_write_24 : decode cX3_write 24 = .ok (.getfield 15, 3) := by decide +kernel
theorem dX3_write_27 : decode cX3_write 27 = .ok (.iconst 1, 1) := by decide +kernel
theorem dX3_write_28 : decode cX3_write 28 = .ok (.iadd, 1) := by decide +kernel
theorem dX3_write_29 : decode cX3_write 29 = .ok (.putfield 15, 3) := by decide +kernel
theorem dX3_write_32 : decode cX3_write 32 = .ok (.aload_n 0, 1) := by decide +kernel
theorem dX3_write_33 : decode cX3_write 33 = .ok (.getfield 15, 3) := by decide +kernel
theorem dX3_write_36 : decode cX3_write 36 = .ok (.ireturn, 1) := by decide +kernel
def f_X3_write (p1 : Int32) (u : Mem) : Option (Int32 × Mem) := (if (gI u 63 1) < (100 : Int32) then gin (gI u 63 1) 100 (some (gI (sI (sA u 64 (gI u 63 1).toNatClampNeg p1) 63 1 ((gI (sA u 64 (gI u 63 1).toNatClampNeg p1) 63 1) + (1 : Int32))) 63 1, sI (sA u 64 (gI u 63 1).toNatClampNeg p1) 63 1 ((gI (sA u 64 (gI u 63 1).toNatClampNeg p1) 63 1) + (1 : Int32)))) else some ((-4 : Int32), u))
set_option maxHeartbeats 4000000 in
set_option maxRecDepth 100000 in
theorem k_X3_write (l : Launch) (D : gDt) (base : Nat) (Z : gZt) (u : Mem) (p1 : Int32) (r : Int32) (u' : Mem) (hf : f_X3_write p1 u = some (r, u')) : Met l yX3_write (gws yX3_write cX3_write 2 (some .int)) (gRm 1 0 0) (gPc D base Z u [.ref (base + 63), .int p1]) (gQi D base r u') 0 0 (gF base) := by
  refine Met.ofW (cc := cX3_write) (maxL := 2) (ret := some .int) (by decide) rfl ?_
  intro p e s m args below meth c s₁ B hml hv
  obtain ⟨rfl, C0, hG⟩ := g_enter B hml hv
  have hr := B.returns
  have C0 : gC p s m meth c _ cX3_write 2 RX3 D base Z := C0
  have hx := C0.1
  have hb := C0.2.1
  have hl := lv_entry ([.ref (base + 63), .int p1]) (n := 2) (Nat.le_of_ble_eq_true rfl)
  rw [lg_entry_eq]
  generalize (lg_sl ([.ref (base + 63), .int p1]) ++ List.replicate (2 - (lg_sl ([.ref (base + 63), .int p1])).length) Slot.unset).toArray = ls at hl ⊢
  have hl : lv_has ls 2 [(0, .ref (base + 63)), (1, .int p1)] := hl
  obtain ⟨Q, hQ⟩ : ∃ Q, Q = MQ below (gQi D base r u') ([.ref (base + 63), .int p1] : List Value).toArray s 0 0 (gF base) := ⟨_, rfl⟩
  rw [← hQ]
  change W p l e (gRm 1 0 0) s m _ below meth c _ _ _ _ _ _
  unfold f_X3_write at hf
  refine lv_aload_n hx hb dX3_write_0 rfl (lv_at hl 0 rfl) ?_
  refine g_getI C0 hG (L63 hG) rfl 1 (by decide) rfl w_267 dX3_write_1 ?_
  refine lv_bipush (v := (100 : Int32)) hx hb dX3_write_4 (by decide) ?_
  refine lv_icmp_lt (tgt := 12) hx hb dX3_write_6 (by decide) (fun c1 => ?_) (fun c1 => ?_)
  · have hf := gif_t c1 hf
    refine lv_aload_n hx hb dX3_write_12 rfl (lv_at hl 0 rfl) ?_
    refine g_getSa (o := 1) (a := 64) C0 hG (L63 hG) rfl 0 (by decide) rfl rfl w_266 dX3_write_13 ?_
    refine lv_aload_n hx hb dX3_write_16 rfl (lv_at hl 0 rfl) ?_
    refine g_getI C0 hG (L63 hG) rfl 1 (by decide) rfl w_267 dX3_write_17 ?_
    refine lv_iload_n hx hb dX3_write_20 rfl (lv_at hl 1 rfl) ?_
    obtain ⟨h2, hf⟩ := gin_s hf
    refine g_iast C0 hG (L64 hG) h2 dX3_write_21 (fun H locs hG => ?_)
    refine lv_aload_n hx hb dX3_write_22 rfl (lv_at hl 0 rfl) ?_
    refine lv_dup hx hb dX3_write_23 rfl ?_
    refine g_getI C0 hG (L63 hG) rfl 1 (by decide) rfl w_267 dX3_write_24 ?_
    refine lv_iconst (v := (1 : Int32)) hx hb dX3_write_27 (by decide) ?_
    refine lv_iadd hx hb dX3_write_28 ?_
    refine g_putI (ty := .int) C0 hG (L63 hG) rfl 1 (by decide) rfl w_267 rfl (by decide) rfl rfl dX3_write_29 (fun H locs hG => ?_)
    refine lv_aload_n hx hb dX3_write_32 rfl (lv_at hl 0 rfl) ?_
    refine g_getI C0 hG (L63 hG) rfl 1 (by decide) rfl w_267 dX3_write_33 ?_
    obtain ⟨hr1, hu⟩ := gret_s hf
    subst hr1
    subst hu
    subst hQ
    exact g_iret C0 hG hr dX3_write_36
  · have hf := gif_f c1 hf
    refine lv_bipush (v := (-4 : Int32)) hx hb dX3_write_9 (by decide) ?_
    obtain ⟨hr1, hu⟩ := gret_s hf
    subst hr1
    subst hu
    subst hQ
    exact g_iret C0 hG hr dX3_write_11
theorem dX3_handOver_0 : decode cX3_handOver 0 = .ok (.aload_n 0, 1) := by decide +kernel
theorem dX3_handOver_1 : decode cX3_handOver 1 = .ok (.getfield 25, 3) := by decide +kernel
theorem dX3_handOver_4 : decode cX3_handOver 4 = .ok (.astore_n 1, 1) := by decide +kernel
theorem dX3_handOver_5 : decode cX3_handOver 5 = .ok (.aload_n 0, 1) := by decide +kernel
theorem dX3_handOver_6 : decode cX3_handOver 6 = .ok (.new 22, 3) := by decide +kernel
theorem dX3_handOver_9 : decode cX3_handOver 9 = .ok (.dup, 1) := by decide +kernel
theorem dX3_handOver_10 : decode cX3_handOver 10 = .ok (.invokespecial 24, 3) := by decide +kernel
theorem dX3_handOver_13 : decode cX3_handOver 13 = .ok (.putfield 25, 3) := by decide +kernel
theorem dX3_handOver_16 : decode cX3_handOver 16 = .ok (.aload_n 1, 1) := by decide +kernel
theorem dX3_handOver_17 : decode cX3_handOver 17 = .ok (.areturn, 1) := by decide +kernel
/-- a new Branch -/
def sNB (u : Mem) : Mem := (u.1 + 2, up1 u.2.1 u.1 (fun k => if k = 2 then 5 else 0), u.2.2.1, up1 u.2.2.2.1 (u.1 + 1) (fun _ => 0), u.2.2.2.2)
def gNB {α : Type} (u : Mem) (k : Option α) : Option α := if kd u.1 = (0, 0) ∧ kd (u.1 + 1) = (1, 100) then k else none
theorem gNB_s {α : Type} {u : Mem} {k : Option α} {r : α} (h : gNB u k = some r) : (kd u.1 = (0, 0) ∧ kd (u.1 + 1) = (1, 100)) ∧ k = some r := by
  unfold gNB at h
  split at h
  · rename_i q; exact ⟨q, h⟩
  · cases h
theorem cell_NB {dA : Nat → ClassId} {base : Nat} {u : Mem} (h1 : kd u.1 = (0, 0)) (h2 : kd (u.1 + 1) = (1, 100)) : ∀ k, k < u.1 + 2 → phC (cellOf dA base u) u.1 [.inr (0, [.ref (base + (u.1 + 1)), .int 0, .int 5]), .inl (dA 0, (100, .inl (fun _ => 0)))] k = cellOf dA base (sNB u) k := by
  intro k hk
  unfold phC
  by_cases hl : k < u.1
  · rw [if_pos hl]
    refine cell_eq ?_ rfl ?_ rfl
    · show u.2.1 k = up1 u.2.1 u.1 _ k
      rw [up1_n (by omega)]
    · show u.2.2.2.1 k = up1 u.2.2.2.1 (u.1 + 1) _ k
      rw [up1_n (by omega)]
  · rw [if_neg hl]
    by_cases h0 : k = u.1
    · subst h0
      rw [Nat.sub_self, cell_O h1]
      have e0 : fV base (sNB u) u.1 0 0 = .ref (base + (u.1 + 1)) := rfl
      have e1 : fV base (sNB u) u.1 0 1 = .int 0 := by
        show Value.int (up1 u.2.1 u.1 _ u.1 1) = _
        rw [up1_s]; rfl
      have e2 : fV base (sNB u) u.1 0 2 = .int 5 := by
        show Value.int (up1 u.2.1 u.1 _ u.1 2) = _
        rw [up1_s]; rfl
      show Sum.inr (0, _) = Sum.inr (0, [fV base (sNB u) u.1 0 0, fV base (sNB u) u.1 0 1, fV base (sNB u) u.1 0 2])
      rw [e0, e1, e2]
    · have h3 : k = u.1 + 1 := by omega
      subst h3
      rw [Nat.add_sub_cancel_left, cell_A h2]
      have e : gA (sNB u) (u.1 + 1) = fun _ => 0 := by
        show up1 u.2.2.2.1 (u.1 + 1) _ (u.1 + 1) = _
        rw [up1_s]
      rw [e]
      rfl
def f_X3_handOver (u : Mem) : Option (Nat × Mem) := gNB u (some (gR u 63 3, sR (sNB u) 63 3 u.1))
set_option maxHeartbeats 4000000 in
set_option maxRecDepth 100000 in
theorem k_X3_handOver (l : Launch) (D : gDt) (base : Nat) (Z : gZt) (u : Mem) (r : Nat) (u' : Mem) (hf : f_X3_handOver u = some (r, u')) : Met l yX3_handOver (gws yX3_handOver cX3_handOver 2 (some (.object "GossipTrain$Branch"))) (gRm 3 2 103) (gPc D base Z u [.ref (base + 63)]) (gQq D base (some r) u') 2 103 (gF base) := by
  refine Met.ofW (cc := cX3_handOver) (maxL := 2) (ret := some (.object "GossipTrain$Branch")) (by decide) rfl ?_
  intro p e s m args below meth c s₁ B hml hv
  obtain ⟨rfl, C0, hG⟩ := g_enter B hml hv
  have hr := B.returns
  have C0 : gC p s m meth c _ cX3_handOver 2 RX3 D base Z := C0
  have hx := C0.1
  have hb := C0.2.1
  have hl := lv_entry ([.ref (base + 63)]) (n := 2) (Nat.le_of_ble_eq_true rfl)
  rw [lg_entry_eq]
  generalize (lg_sl ([.ref (base + 63)]) ++ List.replicate (2 - (lg_sl ([.ref (base + 63)])).length) Slot.unset).toArray = ls at hl ⊢
  have hl : lv_has ls 2 [(0, .ref (base + 63))] := hl
  obtain ⟨Q, hQ⟩ : ∃ Q, Q = MQ below (gQq D base (some r) u') ([.ref (base + 63)] : List Value).toArray s 2 103 (gF base) := ⟨_, rfl⟩
  rw [← hQ]
  change W p l e (gRm 3 2 103) s m _ below meth c _ _ _ _ _ _
  unfold f_X3_handOver at hf
  obtain ⟨⟨hk1, hk2⟩, hf⟩ := gNB_s hf
  refine lv_aload_n hx hb dX3_handOver_0 rfl (lv_at hl 0 rfl) ?_
  refine g_getD C0 hG (L63 hG) rfl 3 (by decide) rfl w_271 dX3_handOver_1 ?_
  refine lv_astore_n (lv' := [(1, .ref (base + gR u 63 3)), (0, .ref (base + 63))]) hx hb dX3_handOver_4 rfl hl (by decide) rfl (fun ls hl => ?_)
  refine lv_aload_n hx hb dX3_handOver_5 rfl (lv_at hl 1 rfl) ?_
  have hn := hG.1.1
  have hG : gCH D base s u.1 (cellOf D.2 base u) [] _ _ := ⟨hG.1.2.congr (fun k hk => by unfold phC; rw [if_pos hk]), hG.2⟩
  refine c_new (ci := 0) (N := 3) (fs := [.null, .int 0, .int 0]) C0 hG rfl tyX0 tyX0_ok (by decide +kernel) w_264 w_134 w_104 (Nat.le_of_ble_eq_true rfl) (Nat.le_of_ble_eq_true rfl) dX3_handOver_6 (fun H hG => ?_)
  refine lv_dup hx hb dX3_handOver_9 rfl ?_
  refine c_callN (cs := []) (e0 := .inr (0, [.null, .int 0, .int 0])) (j := 0) C0 hG rfl (k_X0_init l D base Z (u.1 + 0) (phC (cellOf D.2 base u) u.1 [])) m_X0_init w_136 rfl w_265 ⟨Nat.le_of_ble_eq_true rfl, Nat.le_of_ble_eq_true rfl⟩ rfl hl.1 rfl (Nat.le_of_ble_eq_true rfl) dX3_handOver_10 ⟨Nat.le_of_ble_eq_true rfl, Nat.le_of_ble_eq_true rfl⟩ (fun H locs hG => ?_)
  have hG : gH D base s (sNB u) H locs := ⟨⟨by show 129 ≤ u.1 + 2; omega, gRW.congr hG.1 (cell_NB hk1 hk2)⟩, hG.2⟩
  change W p l e _ s m _ below meth c H locs 2 103 _ (F0 m _ ls (.ref (base + u.1) :: _))
  refine g_putR (ty := .object "GossipTrain$Branch") C0 hG (L63 hG) rfl 3 (by decide) rfl w_271 rfl (by decide) (fun _ => rfl) (fun _ => rfl) dX3_handOver_13 (fun H locs hG => ?_)
  refine lv_aload_n hx hb dX3_handOver_16 rfl (lv_at hl 0 rfl) ?_
  obtain ⟨hr1, hu⟩ := gret_s hf
  subst hr1
  subst hu
  subst hQ
  exact g_aret C0 hG hr dX3_handOver_17
theorem dX3_next_0 : decode cX3_next 0 = .ok (.aload_n 0, 1) := by decide +kernel
theorem dX3_next_1 : decode cX3_next 1 = .ok (.getfield 19, 3) := by decide +kernel
theorem dX3_next_4 : decode cX3_next 4 = .ok (.aload_n 0, 1) := by decide +kernel
theorem dX3_next_5 : decode cX3_next 5 = .ok (.getfield 15, 3) := by decide +kernel
theorem dX3_next_8 : decode cX3_next 8 = .ok (.if_icmp .ge 24, 3) := by decide +kernel
theorem dX3_next_11 : decode cX3_next 11 = .ok (.aload_n 0, 1) := by decide +kernel
theorem dX3_next_12 : decode cX3_next 12 = .ok (.getfield 19, 3) := by decide +kernel
theorem dX3_next_15 : decode cX3_next 15 = .ok (.bipush 100, 2) := by decide +kernel
theorem dX3_next_17 : decode cX3_next 17 = .ok (.if_icmp .ge 15, 3) := by decide +kernel
theorem dX3_next_20 : decode cX3_next 20 = .ok (.aload_n 0, 1) := by decide +kernel
theorem dX3_next_21 : decode cX3_next 21 = .ok (.getfield 9, 3) := by decide +kernel
theorem dX3_next_24 : decode cX3_next 24 = .ok (.aload_n 0, 1) := by decide +kernel
theorem dX3_next_25 : decode cX3_next 25 = .ok (.getfield 19, 3) := by decide +kernel
theorem dX3_next_28 : decode cX3_next 28 = .ok (.iaload, 1) := by decide +kernel
theorem dX3_next_29 : decode cX3_next 29 = .ok (.goto 4, 3) := by decide +kernel
theorem dX3_next_32 : decode cX3_next 32 = .ok (.iconst (-1), 1) := by decide +kernel
theorem dX3_next_33 : decode cX3_next 33 = .ok (.ireturn, 1) := by decide +kernel
def f_X3_next (u : Mem) : Option (Int32) := (if (gI u 63 1) ≤ (gI u 63 2) then some (-1 : Int32) else (if (100 : Int32) ≤ (gI u 63 2) then some (-1 : Int32) else gin (gI u 63 2) 100 (some (gA u 64 (gI u 63 2).toNatClampNeg))))
set_option maxHeartbeats 4000000 in
set_option maxRecDepth 100000 in
theorem k_X3_next (l : Launch) (D : gDt) (base : Nat) (Z : gZt) (u : Mem) (r : Int32) (hf : f_X3_next u = some r) : Met l yX3_next (gws yX3_next cX3_next 1 (some .int)) (gRm 1 0 0) (gPc D base Z u [.ref (base + 63)]) (gQi D base r u) 0 0 (gF base) := by
  refine Met.ofW (cc := cX3_next) (maxL := 1) (ret := some .int) (by decide) rfl ?_
  intro p e s m args below meth c s₁ B hml hv
  obtain ⟨rfl, C0, hG⟩ := g_enter B hml hv
  have hr := B.returns
  have C0 : gC p s m meth c _ cX3_next 1 RX3 D base Z := C0
  have hx := C0.1
  have hb := C0.2.1
  have hl := lv_entry ([.ref (base + 63)]) (n := 1) (Nat.le_of_ble_eq_true rfl)
  rw [lg_entry_eq]
  generalize (lg_sl ([.ref (base + 63)]) ++ List.replicate (1 - (lg_sl ([.ref (base + 63)])).length) Slot.unset).toArray = ls at hl ⊢
  have hl : lv_has ls 1 [(0, .ref (base + 63))] := hl
  obtain ⟨Q, hQ⟩ : ∃ Q, Q = MQ below (gQi D base r u) ([.ref (base + 63)] : List Value).toArray s 0 0 (gF base) := ⟨_, rfl⟩
  rw [← hQ]
  change W p l e (gRm 1 0 0) s m _ below meth c _ _ _ _ _ _
  unfold f_X3_next at hf
  refine lv_aload_n hx hb dX3_next_0 rfl (lv_at hl 0 rfl) ?_
  refine g_getI C0 hG (L63 hG) rfl 2 (by decide) rfl w_269 dX3_next_1 ?_
  refine lv_aload_n hx hb dX3_next_4 rfl (lv_at hl 0 rfl) ?_
  refine g_getI C0 hG (L63 hG) rfl 1 (by decide) rfl w_267 dX3_next_5 ?_
  refine lv_icmp_ge (tgt := 32) hx hb dX3_next_8 (by decide) (fun c1 => ?_) (fun c1 => ?_)
  · have hf := gif_t c1 hf
    refine lv_iconst (v := (-1 : Int32)) hx hb dX3_next_32 (by decide) ?_
    have hf := Option.some.inj hf
    subst hf
    subst hQ
    exact g_iret C0 hG hr dX3_next_33
  · have hf := gif_f c1 hf
    refine lv_aload_n hx hb dX3_next_11 rfl (lv_at hl 0 rfl) ?_
    refine g_getI C0 hG (L63 hG) rfl 2 (by decide) rfl w_269 dX3_next_12 ?_
    refine lv_bipush (v := (100 : Int32)) hx hb dX3_next_15 (by decide) ?_
    refine lv_icmp_ge (tgt := 32) hx hb dX3_next_17 (by decide) (fun c2 => ?_) (fun c2 => ?_)
    · have hf := gif_t c2 hf
      refine lv_iconst (v := (-1 : Int32)) hx hb dX3_next_32 (by decide) ?_
      have hf := Option.some.inj hf
      subst hf
      subst hQ
      exact g_iret C0 hG hr dX3_next_33
    · have hf := gif_f c2 hf
      refine lv_aload_n hx hb dX3_next_20 rfl (lv_at hl 0 rfl) ?_
      refine g_getSa (o := 1) (a := 64) C0 hG (L63 hG) rfl 0 (by decide) rfl rfl w_266 dX3_next_21 ?_
      refine lv_aload_n hx hb dX3_next_24 rfl (lv_at hl 0 rfl) ?_
      refine g_getI C0 hG (L63 hG) rfl 2 (by decide) rfl w_269 dX3_next_25 ?_
      obtain ⟨h3, hf⟩ := gin_s hf
      refine g_iald C0 hG (L64 hG) h3 dX3_next_28 ?_
      refine lv_goto (tgt := 33) hx hb dX3_next_29 (by decide) ?_
      have hf := Option.some.inj hf
      subst hf
      subst hQ
      exact g_iret C0 hG hr dX3_next_33
theorem dJ0_coder_7d493_0 : decode cJ0_coder_7d493 0 = .ok (.getstatic 38, 3) := by decide +kernel
theorem dJ0_coder_7d493_3 : decode cJ0_coder_7d493 3 = .ok (.ifCond .eq 10, 3) := by decide +kernel
theorem dJ0_coder_7d493_6 : decode cJ0_coder_7d493 6 = .ok (.aload_n 0, 1) := by decide +kernel
theorem dJ0_coder_7d493_7 : decode cJ0_coder_7d493 7 = .ok (.getfield 15, 3) := by decide +kernel
theorem dJ0_coder_7d493_10 : decode cJ0_coder_7d493 10 = .ok (.goto 4, 3) := by decide +kernel
theorem dJ0_coder_7d493_13 : decode cJ0_coder_7d493 13 = .ok (.iconst 1, 1) := by decide +kernel
theorem dJ0_coder_7d493_14 : decode cJ0_coder_7d493 14 = .ok (.ireturn, 1) := by decide +kernel
def f_J0_coder_7d493 (si : Nat) : Option (Int32) := some (0 : Int32)
set_option maxHeartbeats 4000000 in
set_option maxRecDepth 100000 in
theorem k_J0_coder_7d493 (l : Launch) (D : gDt) (base : Nat) (Z : gZt) (u : Mem) (si : Nat) (r : Int32) (hs : si < 4) (hf : f_J0_coder_7d493 si = some r) : Met l yJ0_coder_7d493 (gws yJ0_coder_7d493 cJ0_coder_7d493 1 (some .byte)) (gRm 1 0 0) (gPc D base Z u [.ref (Z.2.2.1 si)]) (gQi D base r u) 0 0 (gF base) := by
  refine Met.ofW (cc := cJ0_coder_7d493) (maxL := 1) (ret := some .byte) (by decide) rfl ?_
  intro p e s m args below meth c s₁ B hml hv
  obtain ⟨rfl, C0, hG⟩ := g_enter B hml hv
  have hr := B.returns
  have C0 : gC p s m meth c _ cJ0_coder_7d493 1 RJ0 D base Z := C0
  have hx := C0.1
  have hb := C0.2.1
  have hl := lv_entry ([.ref (Z.2.2.1 si)]) (n := 1) (Nat.le_of_ble_eq_true rfl)
  rw [lg_entry_eq]
  generalize (lg_sl ([.ref (Z.2.2.1 si)]) ++ List.replicate (1 - (lg_sl ([.ref (Z.2.2.1 si)])).length) Slot.unset).toArray = ls at hl ⊢
  have hl : lv_has ls 1 [(0, .ref (Z.2.2.1 si))] := hl
  obtain ⟨Q, hQ⟩ : ∃ Q, Q = MQ below (gQi D base r u) ([.ref (Z.2.2.1 si)] : List Value).toArray s 0 0 (gF base) := ⟨_, rfl⟩
  rw [← hQ]
  change W p l e (gRm 1 0 0) s m _ below meth c _ _ _ _ _ _
  unfold f_J0_coder_7d493 at hf
  refine g_sCS C0 hG w_480 dJ0_coder_7d493_0 ?_
  refine lv_if_eq (tgt := 13) hx hb dJ0_coder_7d493_3 (by decide) (fun c => absurd c (by decide)) (fun _ => ?_)
  refine lv_aload_n hx hb dJ0_coder_7d493_6 rfl (lv_at hl 0 rfl) ?_
  refine g_sCo C0 hG hs w_1454 dJ0_coder_7d493_7 ?_
  refine lv_goto (tgt := 14) hx hb dJ0_coder_7d493_10 (by decide) ?_
  have hf := Option.some.inj hf
  subst hf
  subst hQ
  exact g_zret C0 hG hr (by decide) dJ0_coder_7d493_14
theorem dJ0_length_8abf5_0 : decode cJ0_length_8abf5 0 = .ok (.aload_n 0, 1) := by decide +kernel
theorem dJ0_length_8abf5_1 : decode cJ0_length_8abf5 1 = .ok (.getfield 9, 3) := by decide +kernel
theorem dJ0_length_8abf5_4 : decode cJ0_length_8abf5 4 = .ok (.arraylength, 1) := by decide +kernel
theorem dJ0_length_8abf5_5 : decode cJ0_length_8abf5 5 = .ok (.aload_n 0, 1) := by decide +kernel
theorem dJ0_length_8abf5_6 : decode cJ0_length_8abf5 6 = .ok (.invokevirtual 335, 3) := by decide +kernel
theorem dJ0_length_8abf5_9 : decode cJ0_length_8abf5 9 = .ok (.ishr, 1) := by decide +kernel
theorem dJ0_length_8abf5_10 : decode cJ0_length_8abf5 10 = .ok (.ireturn, 1) := by decide +kernel
def f_J0_length_8abf5 (si : Nat) : Option (Int32) := some ((Int32.ofNat (sLen.getD si 0)) >>> ((0 : Int32) &&& 31))
set_option maxHeartbeats 4000000 in
set_option maxRecDepth 100000 in
theorem k_J0_length_8abf5 (l : Launch) (D : gDt) (base : Nat) (Z : gZt) (u : Mem) (si : Nat) (r : Int32) (hs : si < 4) (hf : f_J0_length_8abf5 si = some r) : Met l yJ0_length_8abf5 (gws yJ0_length_8abf5 cJ0_length_8abf5 1 (some .int)) (gRm 2 0 0) (gPc D base Z u [.ref (Z.2.2.1 si)]) (gQi D base r u) 0 0 (gF base) := by
  refine Met.ofW (cc := cJ0_length_8abf5) (maxL := 1) (ret := some .int) (by decide) rfl ?_
  intro p e s m args below meth c s₁ B hml hv
  obtain ⟨rfl, C0, hG⟩ := g_enter B hml hv
  have hr := B.returns
  have C0 : gC p s m meth c _ cJ0_length_8abf5 1 RJ0 D base Z := C0
  have hx := C0.1
  have hb := C0.2.1
  have hl := lv_entry ([.ref (Z.2.2.1 si)]) (n := 1) (Nat.le_of_ble_eq_true rfl)
  rw [lg_entry_eq]
  generalize (lg_sl ([.ref (Z.2.2.1 si)]) ++ List.replicate (1 - (lg_sl ([.ref (Z.2.2.1 si)])).length) Slot.unset).toArray = ls at hl ⊢
  have hl : lv_has ls 1 [(0, .ref (Z.2.2.1 si))] := hl
  obtain ⟨Q, hQ⟩ : ∃ Q, Q = MQ below (gQi D base r u) ([.ref (Z.2.2.1 si)] : List Value).toArray s 0 0 (gF base) := ⟨_, rfl⟩
  rw [← hQ]
  change W p l e (gRm 2 0 0) s m _ below meth c _ _ _ _ _ _
  unfold f_J0_length_8abf5 at hf
  refine lv_aload_n hx hb dJ0_length_8abf5_0 rfl (lv_at hl 0 rfl) ?_
  refine g_sVa C0 hG hs w_1453 dJ0_length_8abf5_1 ?_
  refine g_sLe C0 hG hs dJ0_length_8abf5_4 ?_
  refine lv_aload_n hx hb dJ0_length_8abf5_5 rfl (lv_at hl 0 rfl) ?_
  have hc1 : (f_J0_coder_7d493 si) = some (0 : Int32) := rfl
  refine g_doI0 hG (g_runV C0 hG (k_J0_coder_7d493 l D base Z u si (0 : Int32) hs hc1) m_J0_coder_7d493 v_J0_coder_7d493 w_476 (by decide) (g_recvS C0 hG hs) rfl hl.1 rfl (Nat.le_of_ble_eq_true rfl) dJ0_length_8abf5_6 ⟨Nat.zero_le _, Nat.zero_le _⟩) (fun H locs hG hk => ?_)
  refine lv_ishr hx hb dJ0_length_8abf5_9 ?_
  have hf := Option.some.inj hf
  subst hf
  subst hQ
  exact g_iret C0 hG hr dJ0_length_8abf5_10
theorem dJ0_isLatin1_aae02_0 : decode cJ0_isLatin1_aae02 0 = .ok (.getstatic 38, 3) := by decide +kernel
theorem dJ0_isLatin1_aae02_3 : decode cJ0_isLatin1_aae02 3 = .ok (.ifCond .eq 14, 3) := by decide +kernel
theorem dJ0_isLatin1_aae02_6 : decode cJ0_isLatin1_aae02 6 = .ok (.aload_n 0, 1) := by decide +kernel
theorem dJ0_isLatin1_aae02_7 : decode cJ0_isLatin1_aae02 7 = .ok (.getfield 15, 3) := by decide +kernel
theorem dJ0_isLatin1_aae02_10 : decode cJ0_isLatin1_aae02 10 = .ok (.ifCond .ne 7, 3) := by decide +kernel
theorem dJ0_isLatin1_aae02_13 : decode cJ0_isLatin1_aae02 13 = .ok (.iconst 1, 1) := by decide +kernel
theorem dJ0_isLatin1_aae02_14 : decode cJ0_isLatin1_aae02 14 = .ok (.goto 4, 3) := by decide +kernel
theorem dJ0_isLatin1_aae02_17 : decode cJ0_isLatin1_aae02 17 = .ok (.iconst 0, 1) := by decide +kernel
theorem dJ0_isLatin1_aae02_18 : decode cJ0_isLatin1_aae02 18 = .ok (.ireturn, 1) := by decide +kernel
def f_J0_isLatin1_aae02 (si : Nat) : Option (Int32) := some (1 : Int32)
set_option maxHeartbeats 4000000 in
set_option maxRecDepth 100000 in
theorem k_J0_isLatin1_aae02 (l : Launch) (D : gDt) (base : Nat) (Z : gZt) (u : Mem) (si : Nat) (r : Int32) (hs : si < 4) (hf : f_J0_isLatin1_aae02 si = some r) : Met l yJ0_isLatin1_aae02 (gws yJ0_isLatin1_aae02 cJ0_isLatin1_aae02 1 (some .boolean)) (gRm 1 0 0) (gPc D base Z u [.ref (Z.2.2.1 si)]) (gQi D base r u) 0 0 (gF base) := by
  refine Met.ofW (cc := cJ0_isLatin1_aae02) (maxL := 1) (ret := some .boolean) (by decide) rfl ?_
  intro p e s m args below meth c s₁ B hml hv
  obtain ⟨rfl, C0, hG⟩ := g_enter B hml hv
  have hr := B.returns
  have C0 : gC p s m meth c _ cJ0_isLatin1_aae02 1 RJ0 D base Z := C0
  have hx := C0.1
  have hb := C0.2.1
  have hl := lv_entry ([.ref (Z.2.2.1 si)]) (n := 1) (Nat.le_of_ble_eq_true rfl)
  rw [lg_entry_eq]
  generalize (lg_sl ([.ref (Z.2.2.1 si)]) ++ List.replicate (1 - (lg_sl ([.ref (Z.2.2.1 si)])).length) Slot.unset).toArray = ls at hl ⊢
  have hl : lv_has ls 1 [(0, .ref (Z.2.2.1 si))] := hl
  obtain ⟨Q, hQ⟩ : ∃ Q, Q = MQ below (gQi D base r u) ([.ref (Z.2.2.1 si)] : List Value).toArray s 0 0 (gF base) := ⟨_, rfl⟩
  rw [← hQ]
  change W p l e (gRm 1 0 0) s m _ below meth c _ _ _ _ _ _
  unfold f_J0_isLatin1_aae02 at hf
  refine g_sCS C0 hG w_480 dJ0_isLatin1_aae02_0 ?_
  refine lv_if_eq (tgt := 17) hx hb dJ0_isLatin1_aae02_3 (by decide) (fun c => absurd c (by decide)) (fun _ => ?_)
  refine lv_aload_n hx hb dJ0_isLatin1_aae02_6 rfl (lv_at hl 0 rfl) ?_
  refine g_sCo C0 hG hs w_1454 dJ0_isLatin1_aae02_7 ?_
  refine lv_if_ne (tgt := 17) hx hb dJ0_isLatin1_aae02_10 (by decide) (fun c => absurd c (by decide)) (fun _ => ?_)
  refine lv_iconst (v := (1 : Int32)) hx hb dJ0_isLatin1_aae02_13 (by decide) ?_
  refine lv_goto (tgt := 18) hx hb dJ0_isLatin1_aae02_14 (by decide) ?_
  have hf := Option.some.inj hf
  subst hf
  subst hQ
  exact g_zret C0 hG hr (by decide) dJ0_isLatin1_aae02_18
theorem dJ3_checkIndex_8e157_0 : decode cJ3_checkIndex_8e157 0 = .ok (.iload_n 0, 1) := by decide +kernel
theorem dJ3_checkIndex_8e157_1 : decode cJ3_checkIndex_8e157 1 = .ok (.ifCond .lt 8, 3) := by decide +kernel
theorem dJ3_checkIndex_8e157_4 : decode cJ3_checkIndex_8e157 4 = .ok (.iload_n 0, 1) := by decide +kernel
theorem dJ3_checkIndex_8e157_5 : decode cJ3_checkIndex_8e157 5 = .ok (.iload_n 1, 1) := by decide +kernel
theorem dJ3_checkIndex_8e157_6 : decode cJ3_checkIndex_8e157 6 = .ok (.if_icmp .lt 10, 3) := by decide +kernel
theorem dJ3_checkIndex_8e157_9 : decode cJ3_checkIndex_8e157 9 = .ok (.aload_n 2, 1) := by decide +kernel
theorem dJ3_checkIndex_8e157_10 : decode cJ3_checkIndex_8e157 10 = .ok (.iload_n 0, 1) := by decide +kernel
theorem dJ3_checkIndex_8e157_11 : decode cJ3_checkIndex_8e157 11 = .ok (.iload_n 1, 1) := by decide +kernel
theorem dJ3_checkIndex_8e157_12 : decode cJ3_checkIndex_8e157 12 = .ok (.invokestatic 95, 3) := by decide +kernel
theorem dJ3_checkIndex_8e157_15 : decode cJ3_checkIndex_8e157 15 = .ok (.athrow, 1) := by decide +kernel
theorem dJ3_checkIndex_8e157_16 : decode cJ3_checkIndex_8e157 16 = .ok (.iload_n 0, 1) := by decide +kernel
theorem dJ3_checkIndex_8e157_17 : decode cJ3_checkIndex_8e157 17 = .ok (.ireturn, 1) := by decide +kernel
def f_J3_checkIndex_8e157 (p0 : Int32) (p1 : Int32) : Option Int32 := if p0 < 0 then none else if p0 < p1 then some p0 else none
set_option maxHeartbeats 4000000 in
set_option maxRecDepth 100000 in
theorem k_J3_checkIndex_8e157 (l : Launch) (D : gDt) (base : Nat) (Z : gZt) (u : Mem) (p0 : Int32) (p1 : Int32) (p2 : Option Nat) (r : Int32) (hf : f_J3_checkIndex_8e157 p0 p1 = some r) : Met l yJ3_checkIndex_8e157 (gws yJ3_checkIndex_8e157 cJ3_checkIndex_8e157 3 (some .int)) (gRm 1 0 0) (gPc D base Z u [.int p0, .int p1, va_rf p2]) (gQi D base r u) 0 0 (gF base) := by
  have key : ∀ v : Value, v.category = 1 → Met l yJ3_checkIndex_8e157 (gws yJ3_checkIndex_8e157 cJ3_checkIndex_8e157 3 (some .int)) (gRm 1 0 0) (gPc D base Z u [.int p0, .int p1, v]) (gQi D base r u) 0 0 (gF base) := by
    intro v hvc
    refine Met.ofW (cc := cJ3_checkIndex_8e157) (maxL := 3) (ret := some .int) (by decide) rfl ?_
    intro p e s m args below meth c s₁ B hml hv
    obtain ⟨rfl, C0, hG⟩ := g_enter B hml hv
    have hr := B.returns
    have hx := C0.1
    have hb := C0.2.1
    have hlen : (lg_sl [.int p0, .int p1, v]).length ≤ 3 := by cases v <;> first | exact Nat.le_of_ble_eq_true rfl | exact absurd hvc (by simp [Value.category])
    have hl := lv_entry ([.int p0, .int p1, v]) (n := 3) hlen
    rw [lg_entry_eq]
    generalize (lg_sl ([.int p0, .int p1, v]) ++ List.replicate (3 - (lg_sl ([.int p0, .int p1, v])).length) Slot.unset).toArray = ls at hl ⊢
    have hl : lv_has ls 3 [(0, .int p0), (1, .int p1)] := lv_sub hl [0, 1] rfl
    unfold f_J3_checkIndex_8e157 at hf
    refine lv_iload_n hx hb dJ3_checkIndex_8e157_0 rfl (lv_at hl 0 rfl) ?_
    refine lv_if_lt (tgt := 9) hx hb dJ3_checkIndex_8e157_1 (by decide) (fun c1 => ?_) (fun c1 => ?_)
    · have hf := gif_t c1 hf
      cases hf
    · have hf := gif_f c1 hf
      refine lv_iload_n hx hb dJ3_checkIndex_8e157_4 rfl (lv_at hl 0 rfl) ?_
      refine lv_iload_n hx hb dJ3_checkIndex_8e157_5 rfl (lv_at hl 1 rfl) ?_
      refine lv_icmp_lt (tgt := 16) hx hb dJ3_checkIndex_8e157_6 (by decide) (fun c2 => ?_) (fun c2 => ?_)
      · have hf := gif_t c2 hf
        refine lv_iload_n hx hb dJ3_checkIndex_8e157_16 rfl (lv_at hl 0 rfl) ?_
        have hf := Option.some.inj hf
        subst hf
        exact g_iret C0 hG hr dJ3_checkIndex_8e157_17
      · have hf := gif_f c2 hf
        cases hf
  cases p2 with
  | none => exact key .null rfl
  | some a => exact key (.ref a) rfl
theorem dJ0_checkIndex_df160_0 : decode cJ0_checkIndex_df160 0 = .ok (.iload_n 0, 1) := by decide +kernel
theorem dJ0_checkIndex_df160_1 : decode cJ0_checkIndex_df160 1 = .ok (.iload_n 1, 1) := by decide +kernel
theorem dJ0_checkIndex_df160_2 : decode cJ0_checkIndex_df160 2 = .ok (.getstatic 1053, 3) := by decide +kernel
theorem dJ0_checkIndex_df160_5 : decode cJ0_checkIndex_df160 5 = .ok (.invokestatic 1059, 3) := by decide +kernel
theorem dJ0_checkIndex_df160_8 : decode cJ0_checkIndex_df160 8 = .ok (.pop, 1) := by decide +kernel
theorem dJ0_checkIndex_df160_9 : decode cJ0_checkIndex_df160 9 = .ok (.return_, 1) := by decide +kernel
def f_J0_checkIndex_df160 (p0 : Int32) (p1 : Int32) : Option (Unit) := Option.bind (f_J3_checkIndex_8e157 p0 p1) (fun r2 => some ())
set_option maxHeartbeats 4000000 in
set_option maxRecDepth 100000 in
theorem k_J0_checkIndex_df160 (l : Launch) (D : gDt) (base : Nat) (Z : gZt) (u : Mem) (p0 : Int32) (p1 : Int32) (hf : f_J0_checkIndex_df160 p0 p1 = some ()) : Met l yJ0_checkIndex_df160 (gws yJ0_checkIndex_df160 cJ0_checkIndex_df160 2 (none)) (gRm 2 0 0) (gPc D base Z u [.int p0, .int p1]) (gQv D base u) 0 0 (gF base) := by
  refine Met.ofW (cc := cJ0_checkIndex_df160) (maxL := 2) (ret := none) (by decide) rfl ?_
  intro p e s m args below meth c s₁ B hml hv
  obtain ⟨rfl, C0, hG⟩ := g_enter B hml hv
  have hr := B.returns
  have C0 : gC p s m meth c _ cJ0_checkIndex_df160 2 RJ0 D base Z := C0
  have hx := C0.1
  have hb := C0.2.1
  have hl := lv_entry ([.int p0, .int p1]) (n := 2) (Nat.le_of_ble_eq_true rfl)
  rw [lg_entry_eq]
  generalize (lg_sl ([.int p0, .int p1]) ++ List.replicate (2 - (lg_sl ([.int p0, .int p1])).length) Slot.unset).toArray = ls at hl ⊢
  have hl : lv_has ls 2 [(0, .int p0), (1, .int p1)] := hl
  obtain ⟨Q, hQ⟩ : ∃ Q, Q = MQ below (gQv D base u) ([.int p0, .int p1] : List Value).toArray s 0 0 (gF base) := ⟨_, rfl⟩
  rw [← hQ]
  change W p l e (gRm 2 0 0) s m _ below meth c _ _ _ _ _ _
  unfold f_J0_checkIndex_df160 at hf
  refine lv_iload_n hx hb dJ0_checkIndex_df160_0 rfl (lv_at hl 0 rfl) ?_
  refine lv_iload_n hx hb dJ0_checkIndex_df160_1 rfl (lv_at hl 1 rfl) ?_
  refine g_sFM C0 hG w_496 dJ0_checkIndex_df160_2 (fun z1 => ?_)
  obtain ⟨r2, hc2, hf⟩ := pb_s hf
  refine g_doI0 hG (g_runS C0 hG (k_J3_checkIndex_8e157 l D base Z u p0 p1 z1 r2 hc2) m_J3_checkIndex_8e157 s_J3_checkIndex_8e157 w_498 (by decide) rfl hl.1 rfl (Nat.le_of_ble_eq_true rfl) dJ0_checkIndex_df160_5 ⟨Nat.zero_le _, Nat.zero_le _⟩) (fun H locs hG hk => ?_)
  refine lv_pop hx hb dJ0_checkIndex_df160_8 rfl ?_
  subst hQ
  exact g_vret C0 hG hr dJ0_checkIndex_df160_9
theorem dJ1_charAt_3b067_0 : decode cJ1_charAt_3b067 0 = .ok (.iload_n 1, 1) := by decide +kernel
theorem dJ1_charAt_3b067_1 : decode cJ1_charAt_3b067 1 = .ok (.aload_n 0, 1) := by decide +kernel
theorem dJ1_charAt_3b067_2 : decode cJ1_charAt_3b067 2 = .ok (.arraylength, 1) := by decide +kernel
theorem dJ1_charAt_3b067_3 : decode cJ1_charAt_3b067 3 = .ok (.invokestatic 9, 3) := by decide +kernel
theorem dJ1_charAt_3b067_6 : decode cJ1_charAt_3b067 6 = .ok (.aload_n 0, 1) := by decide +kernel
theorem dJ1_charAt_3b067_7 : decode cJ1_charAt_3b067 7 = .ok (.iload_n 1, 1) := by decide +kernel
theorem dJ1_charAt_3b067_8 : decode cJ1_charAt_3b067 8 = .ok (.baload, 1) := by decide +kernel
theorem dJ1_charAt_3b067_9 : decode cJ1_charAt_3b067 9 = .ok (.sipush 255, 3) := by decide +kernel
theorem dJ1_charAt_3b067_12 : decode cJ1_charAt_3b067 12 = .ok (.iand, 1) := by decide +kernel
theorem dJ1_charAt_3b067_13 : decode cJ1_charAt_3b067 13 = .ok (.i2c, 1) := by decide +kernel
theorem dJ1_charAt_3b067_14 : decode cJ1_charAt_3b067 14 = .ok (.ireturn, 1) := by decide +kernel
def f_J1_charAt_3b067 (p0 : Nat) (p1 : Int32) : Option (Int32) := Option.bind (f_J0_checkIndex_df160 p1 (Int32.ofNat (sLen.getD p0 0))) (fun _ => gin p1 (sLen.getD p0 0) (gch ((((sB p0 p1.toNatClampNeg) &&& (255 : Int32)).toUInt32 % 65536).toInt32) (some ((((sB p0 p1.toNatClampNeg) &&& (255 : Int32)).toUInt32 % 65536).toInt32))))
set_option maxHeartbeats 4000000 in
set_option maxRecDepth 100000 in
theorem k_J1_charAt_3b067 (l : Launch) (D : gDt) (base : Nat) (Z : gZt) (u : Mem) (p0 : Nat) (p1 : Int32) (r : Int32) (hsp0 : p0 < 4) (hf : f_J1_charAt_3b067 p0 p1 = some r) : Met l yJ1_charAt_3b067 (gws yJ1_charAt_3b067 cJ1_charAt_3b067 2 (some .char)) (gRm 3 0 0) (gPc D base Z u [.ref (Z.2.2.2 p0), .int p1]) (gQi D base r u) 0 0 (gF base) := by
  refine Met.ofW (cc := cJ1_charAt_3b067) (maxL := 2) (ret := some .char) (by decide) rfl ?_
  intro p e s m args below meth c s₁ B hml hv
  obtain ⟨rfl, C0, hG⟩ := g_enter B hml hv
  have hr := B.returns
  have C0 : gC p s m meth c _ cJ1_charAt_3b067 2 RJ1 D base Z := C0
  have hx := C0.1
  have hb := C0.2.1
  have hl := lv_entry ([.ref (Z.2.2.2 p0), .int p1]) (n := 2) (Nat.le_of_ble_eq_true rfl)
  rw [lg_entry_eq]
  generalize (lg_sl ([.ref (Z.2.2.2 p0), .int p1]) ++ List.replicate (2 - (lg_sl ([.ref (Z.2.2.2 p0), .int p1])).length) Slot.unset).toArray = ls at hl ⊢
  have hl : lv_has ls 2 [(0, .ref (Z.2.2.2 p0)), (1, .int p1)] := hl
  obtain ⟨Q, hQ⟩ : ∃ Q, Q = MQ below (gQi D base r u) ([.ref (Z.2.2.2 p0), .int p1] : List Value).toArray s 0 0 (gF base) := ⟨_, rfl⟩
  rw [← hQ]
  change W p l e (gRm 3 0 0) s m _ below meth c _ _ _ _ _ _
  unfold f_J1_charAt_3b067 at hf
  refine lv_iload_n hx hb dJ1_charAt_3b067_0 rfl (lv_at hl 1 rfl) ?_
  refine lv_aload_n hx hb dJ1_charAt_3b067_1 rfl (lv_at hl 0 rfl) ?_
  refine g_sLe C0 hG hsp0 dJ1_charAt_3b067_2 ?_
  obtain ⟨_, hc1, hf⟩ := pb_s hf
  refine g_doV0 hG (g_runS C0 hG (k_J0_checkIndex_df160 l D base Z u p1 (Int32.ofNat (sLen.getD p0 0)) hc1) m_J0_checkIndex_df160 s_J0_checkIndex_df160 w_493 (by decide) rfl hl.1 rfl (Nat.le_of_ble_eq_true rfl) dJ1_charAt_3b067_3 ⟨Nat.zero_le _, Nat.zero_le _⟩) (fun H locs hG hk => ?_)
  refine lv_aload_n hx hb dJ1_charAt_3b067_6 rfl (lv_at hl 0 rfl) ?_
  refine lv_iload_n hx hb dJ1_charAt_3b067_7 rfl (lv_at hl 1 rfl) ?_
  obtain ⟨h2, hf⟩ := gin_s hf
  refine g_sBy C0 hG hsp0 h2 dJ1_charAt_3b067_8 ?_
  refine lv_sipush (v := (255 : Int32)) hx hb dJ1_charAt_3b067_9 (by decide) ?_
  refine lv_iand hx hb dJ1_charAt_3b067_12 ?_
  refine lv_i2c (v := (((sB p0 p1.toNatClampNeg) &&& (255 : Int32)).toUInt32 % 65536).toInt32) hx hb dJ1_charAt_3b067_13 rfl ?_
  obtain ⟨h3, hf⟩ := gch_s hf
  have hf := Option.some.inj hf
  subst hf
  subst hQ
  exact g_zret C0 hG hr h3 dJ1_charAt_3b067_14
theorem dJ0_charAt_5068e_0 : decode cJ0_charAt_5068e 0 = .ok (.aload_n 0, 1) := by decide +kernel
theorem dJ0_charAt_5068e_1 : decode cJ0_charAt_5068e 1 = .ok (.invokevirtual 492, 3) := by decide +kernel
theorem dJ0_charAt_5068e_4 : decode cJ0_charAt_5068e 4 = .ok (.ifCond .eq 12, 3) := by decide +kernel
theorem dJ0_charAt_5068e_7 : decode cJ0_charAt_5068e 7 = .ok (.aload_n 0, 1) := by decide +kernel
theorem dJ0_charAt_5068e_8 : decode cJ0_charAt_5068e 8 = .ok (.getfield 9, 3) := by decide +kernel
theorem dJ0_charAt_5068e_11 : decode cJ0_charAt_5068e 11 = .ok (.iload_n 1, 1) := by decide +kernel
theorem dJ0_charAt_5068e_12 : decode cJ0_charAt_5068e 12 = .ok (.invokestatic 495, 3) := by decide +kernel
theorem dJ0_charAt_5068e_15 : decode cJ0_charAt_5068e 15 = .ok (.ireturn, 1) := by decide +kernel
theorem dJ0_charAt_5068e_16 : decode cJ0_charAt_5068e 16 = .ok (.aload_n 0, 1) := by decide +kernel
theorem dJ0_charAt_5068e_17 : decode cJ0_charAt_5068e 17 = .ok (.getfield 9, 3) := by decide +kernel
theorem dJ0_charAt_5068e_20 : decode cJ0_charAt_5068e 20 = .ok (.iload_n 1, 1) := by decide +kernel
theorem dJ0_charAt_5068e_21 : decode cJ0_charAt_5068e 21 = .ok (.invokestatic 498, 3) := by decide +kernel
theorem dJ0_charAt_5068e_24 : decode cJ0_charAt_5068e 24 = .ok (.ireturn, 1) := by decide +kernel
def f_J0_charAt_5068e (si : Nat) (p1 : Int32) : Option (Int32) := Option.bind (f_J1_charAt_3b067 si p1) (fun r2 => gch r2 (some r2))
set_option maxHeartbeats 4000000 in
set_option maxRecDepth 100000 in
theorem k_J0_charAt_5068e (l : Launch) (D : gDt) (base : Nat) (Z : gZt) (u : Mem) (si : Nat) (p1 : Int32) (r : Int32) (hs : si < 4) (hf : f_J0_charAt_5068e si p1 = some r) : Met l yJ0_charAt_5068e (gws yJ0_charAt_5068e cJ0_charAt_5068e 2 (some .char)) (gRm 4 0 0) (gPc D base Z u [.ref (Z.2.2.1 si), .int p1]) (gQi D base r u) 0 0 (gF base) := by
  refine Met.ofW (cc := cJ0_charAt_5068e) (maxL := 2) (ret := some .char) (by decide) rfl ?_
  intro p e s m args below meth c s₁ B hml hv
  obtain ⟨rfl, C0, hG⟩ := g_enter B hml hv
  have hr := B.returns
  have C0 : gC p s m meth c _ cJ0_charAt_5068e 2 RJ0 D base Z := C0
  have hx := C0.1
  have hb := C0.2.1
  have hl := lv_entry ([.ref (Z.2.2.1 si), .int p1]) (n := 2) (Nat.le_of_ble_eq_true rfl)
  rw [lg_entry_eq]
  generalize (lg_sl ([.ref (Z.2.2.1 si), .int p1]) ++ List.replicate (2 - (lg_sl ([.ref (Z.2.2.1 si), .int p1])).length) Slot.unset).toArray = ls at hl ⊢
  have hl : lv_has ls 2 [(0, .ref (Z.2.2.1 si)), (1, .int p1)] := hl
  obtain ⟨Q, hQ⟩ : ∃ Q, Q = MQ below (gQi D base r u) ([.ref (Z.2.2.1 si), .int p1] : List Value).toArray s 0 0 (gF base) := ⟨_, rfl⟩
  rw [← hQ]
  change W p l e (gRm 4 0 0) s m _ below meth c _ _ _ _ _ _
  unfold f_J0_charAt_5068e at hf
  refine lv_aload_n hx hb dJ0_charAt_5068e_0 rfl (lv_at hl 0 rfl) ?_
  have hc1 : (f_J0_isLatin1_aae02 si) = some (1 : Int32) := rfl
  refine g_doI0 hG (g_runV C0 hG (k_J0_isLatin1_aae02 l D base Z u si (1 : Int32) hs hc1) m_J0_isLatin1_aae02 v_J0_isLatin1_aae02 w_486 (by decide) (g_recvS C0 hG hs) rfl hl.1 rfl (Nat.le_of_ble_eq_true rfl) dJ0_charAt_5068e_1 ⟨Nat.zero_le _, Nat.zero_le _⟩) (fun H locs hG hk => ?_)
  refine lv_if_eq (tgt := 16) hx hb dJ0_charAt_5068e_4 (by decide) (fun c => absurd c (by decide)) (fun _ => ?_)
  refine lv_aload_n hx hb dJ0_charAt_5068e_7 rfl (lv_at hl 0 rfl) ?_
  refine g_sVa C0 hG hs w_1453 dJ0_charAt_5068e_8 ?_
  refine lv_iload_n hx hb dJ0_charAt_5068e_11 rfl (lv_at hl 1 rfl) ?_
  obtain ⟨r2, hc2, hf⟩ := pb_s hf
  refine g_doI0 hG (g_runS C0 hG (k_J1_charAt_3b067 l D base Z u si p1 r2 hs hc2) m_J1_charAt_3b067 s_J1_charAt_3b067 w_490 (by decide) rfl hl.1 rfl (Nat.le_of_ble_eq_true rfl) dJ0_charAt_5068e_12 ⟨Nat.zero_le _, Nat.zero_le _⟩) (fun H locs hG hk => ?_)
  obtain ⟨h3, hf⟩ := gch_s hf
  have hf := Option.some.inj hf
  subst hf
  subst hQ
  exact g_zret C0 hG hr h3 dJ0_charAt_5068e_15
theorem dX3_skip_0 : decode cX3_skip 0 = .ok (.aload_n 0, 1) := by decide +kernel
theorem dX3_skip_1 : decode cX3_skip 1 = .ok (.invokevirtual 40, 3) := by decide +kernel
theorem dX3_skip_4 : decode cX3_skip 4 = .ok (.iload_n 1, 1) := by decide +kernel
theorem dX3_skip_5 : decode cX3_skip 5 = .ok (.if_icmp .eq 5, 3) := by decide +kernel
theorem dX3_skip_8 : decode cX3_skip 8 = .ok (.iconst 0, 1) := by decide +kernel
theorem dX3_skip_9 : decode cX3_skip 9 = .ok (.ireturn, 1) := by decide +kernel
theorem dX3_skip_10 : decode cX3_skip 10 = .ok (.aload_n 0, 1) := by decide +kernel
theorem dX3_skip_11 : decode cX3_skip 11 = .ok (.dup, 1) := by decide +kernel
theorem dX3_skip_12 : decode cX3_skip 12 = .ok (.getfield 19, 3) := by decide +kernel
theorem dX3_skip_15 : decode cX3_skip 15 = .ok (.iconst 1, 1) := by decide +kernel
theorem dX3_skip_16 : decode cX3_skip 16 = .ok (.iadd, 1) := by decide +kernel
theorem dX3_skip_17 : decode cX3_skip 17 = .ok (.putfield 19, 3) := by decide +kernel
theorem dX3_skip_20 : decode cX3_skip 20 = .ok (.iconst 1, 1) := by decide +kernel
theorem dX3_skip_21 : decode cX3_skip 21 = .ok (.ireturn, 1) := by decide +kernel
def f_X3_skip (p1 : Int32) (u : Mem) : Option (Int32 × Mem) := Option.bind (f_X3_next u) (fun r1 => (if r1 = p1 then some ((1 : Int32), sI u 63 2 ((gI u 63 2) + (1 : Int32))) else some ((0 : Int32), u)))
set_option maxHeartbeats 4000000 in
set_option maxRecDepth 100000 in
theorem k_X3_skip (l : Launch) (D : gDt) (base : Nat) (Z : gZt) (u : Mem) (p1 : Int32) (r : Int32) (u' : Mem) (hf : f_X3_skip p1 u = some (r, u')) : Met l yX3_skip (gws yX3_skip cX3_skip 2 (some .boolean)) (gRm 2 0 0) (gPc D base Z u [.ref (base + 63), .int p1]) (gQi D base r u') 0 0 (gF base) := by
  refine Met.ofW (cc := cX3_skip) (maxL := 2) (ret := some .boolean) (by decide) rfl ?_
  intro p e s m args below meth c s₁ B hml hv
  obtain ⟨rfl, C0, hG⟩ := g_enter B hml hv
  have hr := B.returns
  have C0 : gC p s m meth c _ cX3_skip 2 RX3 D base Z := C0
  have hx := C0.1
  have hb := C0.2.1
  have hl := lv_entry ([.ref (base + 63), .int p1]) (n := 2) (Nat.le_of_ble_eq_true rfl)
  rw [lg_entry_eq]
  generalize (lg_sl ([.ref (base + 63), .int p1]) ++ List.replicate (2 - (lg_sl ([.ref (base + 63), .int p1])).length) Slot.unset).toArray = ls at hl ⊢
  have hl : lv_has ls 2 [(0, .ref (base + 63)), (1, .int p1)] := hl
  obtain ⟨Q, hQ⟩ : ∃ Q, Q = MQ below (gQi D base r u') ([.ref (base + 63), .int p1] : List Value).toArray s 0 0 (gF base) := ⟨_, rfl⟩
  rw [← hQ]
  change W p l e (gRm 2 0 0) s m _ below meth c _ _ _ _ _ _
  unfold f_X3_skip at hf
  refine lv_aload_n hx hb dX3_skip_0 rfl (lv_at hl 0 rfl) ?_
  obtain ⟨r1, hc1, hf⟩ := pb_s hf
  refine g_doI0 hG (g_runV C0 hG (k_X3_next l D base Z u r1 hc1) m_X3_next v_X3_next w_463 (by decide) (g_recv C0 hG (L63 hG) rfl) rfl hl.1 rfl (Nat.le_of_ble_eq_true rfl) dX3_skip_1 ⟨Nat.zero_le _, Nat.zero_le _⟩) (fun H locs hG hk => ?_)
  refine lv_iload_n hx hb dX3_skip_4 rfl (lv_at hl 1 rfl) ?_
  refine lv_icmp_eq (tgt := 10) hx hb dX3_skip_5 (by decide) (fun c2 => ?_) (fun c2 => ?_)
  · have hf := gif_t c2 hf
    refine lv_aload_n hx hb dX3_skip_10 rfl (lv_at hl 0 rfl) ?_
    refine lv_dup hx hb dX3_skip_11 rfl ?_
    refine g_getI C0 hG (L63 hG) rfl 2 (by decide) rfl w_269 dX3_skip_12 ?_
    refine lv_iconst (v := (1 : Int32)) hx hb dX3_skip_15 (by decide) ?_
    refine lv_iadd hx hb dX3_skip_16 ?_
    refine g_putI (ty := .int) C0 hG (L63 hG) rfl 2 (by decide) rfl w_269 rfl (by decide) rfl rfl dX3_skip_17 (fun H locs hG => ?_)
    refine lv_iconst (v := (1 : Int32)) hx hb dX3_skip_20 (by decide) ?_
    obtain ⟨hr1, hu⟩ := gret_s hf
    subst hr1
    subst hu
    subst hQ
    exact g_zret C0 hG hr (by decide) dX3_skip_21
  · have hf := gif_f c2 hf
    refine lv_iconst (v := (0 : Int32)) hx hb dX3_skip_8 (by decide) ?_
    obtain ⟨hr1, hu⟩ := gret_s hf
    subst hr1
    subst hu
    subst hQ
    exact g_zret C0 hG hr (by decide) dX3_skip_9
theorem dX3_skipWord_0 : decode cX3_skipWord 0 = .ok (.iconst 0, 1) := by decide +kernel
theorem dX3_skipWord_1 : decode cX3_skipWord 1 = .ok (.istore_n 2, 1) := by decide +kernel
theorem dX3_skipWord_2 : decode cX3_skipWord 2 = .ok (.iload_n 2, 1) := by decide +kernel
theorem dX3_skipWord_3 : decode cX3_skipWord 3 = .ok (.aload_n 1, 1) := by decide +kernel
theorem dX3_skipWord_4 : decode cX3_skipWord 4 = .ok (.invokevirtual 94, 3) := by decide +kernel
theorem dX3_skipWord_7 : decode cX3_skipWord 7 = .ok (.if_icmp .ge 23, 3) := by decide +kernel
theorem dX3_skipWord_10 : decode cX3_skipWord 10 = .ok (.aload_n 0, 1) := by decide +kernel
theorem dX3_skipWord_11 : decode cX3_skipWord 11 = .ok (.aload_n 1, 1) := by decide +kernel
theorem dX3_skipWord_12 : decode cX3_skipWord 12 = .ok (.iload_n 2, 1) := by decide +kernel
theorem dX3_skipWord_13 : decode cX3_skipWord 13 = .ok (.invokevirtual 96, 3) := by decide +kernel
theorem dX3_skipWord_16 : decode cX3_skipWord 16 = .ok (.invokevirtual 36, 3) := by decide +kernel
theorem dX3_skipWord_19 : decode cX3_skipWord 19 = .ok (.ifCond .ne 5, 3) := by decide +kernel
theorem dX3_skipWord_22 : decode cX3_skipWord 22 = .ok (.iconst 0, 1) := by decide +kernel
theorem dX3_skipWord_23 : decode cX3_skipWord 23 = .ok (.ireturn, 1) := by decide +kernel
theorem dX3_skipWord_24 : decode cX3_skipWord 24 = .ok (.iinc 2 1, 3) := by decide +kernel
theorem dX3_skipWord_27 : decode cX3_skipWord 27 = .ok (.goto (-25), 3) := by decide +kernel
theorem dX3_skipWord_30 : decode cX3_skipWord 30 = .ok (.iconst 1, 1) := by decide +kernel
theorem dX3_skipWord_31 : decode cX3_skipWord 31 = .ok (.ireturn, 1) := by decide +kernel
def f_X3_skipWord_L2 (p1 : Nat) (x2_1 : Int32) (u1 : Mem) : Option ((Int32 × Mem) ⊕ (Int32 × Mem)) := Option.bind (f_J0_length_8abf5 p1) (fun r2 => (if r2 ≤ x2_1 then some (Sum.inr ((1 : Int32), u1)) else Option.bind (f_J0_charAt_5068e p1 x2_1) (fun r4 => obind (f_X3_skip r4 u1) (fun r5 u5 => (if r5 = 0 then some (Sum.inr ((0 : Int32), u5)) else some (Sum.inl (x2_1 + (1 : Int32), u5)))))))
def f_X3_skipWord (p1 : Nat) (u : Mem) : Option (Int32 × Mem) := whileO (fun s => f_X3_skipWord_L2 p1 s.1 s.2) FUEL ((0 : Int32), u)
set_option maxHeartbeats 4000000 in
set_option maxRecDepth 100000 in
theorem k_X3_skipWord (l : Launch) (D : gDt) (base : Nat) (Z : gZt) (u : Mem) (p1 : Nat) (r : Int32) (u' : Mem) (hsp1 : p1 < 4) (hf : f_X3_skipWord p1 u = some (r, u')) : Met l yX3_skipWord (gws yX3_skipWord cX3_skipWord 3 (some .boolean)) (gRm 5 0 0) (gPc D base Z u [.ref (base + 63), .ref (Z.2.2.1 p1)]) (gQi D base r u') 0 0 (gF base) := by
  refine Met.ofW (cc := cX3_skipWord) (maxL := 3) (ret := some .boolean) (by decide) rfl ?_
  intro p e s m args below meth c s₁ B hml hv
  obtain ⟨rfl, C0, hG⟩ := g_enter B hml hv
  have hr := B.returns
  have C0 : gC p s m meth c _ cX3_skipWord 3 RX3 D base Z := C0
  have hx := C0.1
  have hb := C0.2.1
  have hl := lv_entry ([.ref (base + 63), .ref (Z.2.2.1 p1)]) (n := 3) (Nat.le_of_ble_eq_true rfl)
  rw [lg_entry_eq]
  generalize (lg_sl ([.ref (base + 63), .ref (Z.2.2.1 p1)]) ++ List.replicate (3 - (lg_sl ([.ref (base + 63), .ref (Z.2.2.1 p1)])).length) Slot.unset).toArray = ls at hl ⊢
  have hl : lv_has ls 3 [(0, .ref (base + 63)), (1, .ref (Z.2.2.1 p1))] := hl
  obtain ⟨Q, hQ⟩ : ∃ Q, Q = MQ below (gQi D base r u') ([.ref (base + 63), .ref (Z.2.2.1 p1)] : List Value).toArray s 0 0 (gF base) := ⟨_, rfl⟩
  rw [← hQ]
  change W p l e (gRm 5 0 0) s m _ below meth c _ _ _ _ _ _
  unfold f_X3_skipWord at hf
  refine lv_iconst (v := (0 : Int32)) hx hb dX3_skipWord_0 (by decide) ?_
  refine lv_istore_n (lv' := [(2, .int (0 : Int32)), (0, .ref (base + 63)), (1, .ref (Z.2.2.1 p1))]) hx hb dX3_skipWord_1 rfl hl (by decide) rfl (fun ls hl => ?_)
  have loop1 : ∀ (n1 : Nat) (x2_1 : Int32) (u1 : Mem) (H : Heap) (locs : List Loc) (ls : Array Slot), gH D base s u1 H locs → lv_has ls 3 [(0, .ref (base + 63)), (1, .ref (Z.2.2.1 p1)), (2, .int x2_1)] → whileO (fun s => f_X3_skipWord_L2 p1 s.1 s.2) n1 (x2_1, u1) = some (r, u') → W p l e (gRm 5 0 0) s m ([.ref (base + 63), .ref (Z.2.2.1 p1)] : List Value).toArray below meth c H locs 0 0 Q (F0 m 2 ls []) := by
    intro n1
    induction n1 with
    | zero => intro x2_1 u1 H locs ls hG hl hf; cases hf
    | succ n1 ih1 =>
      intro x2_1 u1 H locs ls hG hl hf
      obtain ⟨X1, hf, hX1⟩ := while_s hf
      have hf : f_X3_skipWord_L2 p1 x2_1 u1 = some X1 := hf
      unfold f_X3_skipWord_L2 at hf
      refine lv_iload_n hx hb dX3_skipWord_2 rfl (lv_at hl 2 rfl) ?_
      refine lv_aload_n hx hb dX3_skipWord_3 rfl (lv_at hl 1 rfl) ?_
      obtain ⟨r2, hc2, hf⟩ := pb_s hf
      refine g_doI0 hG (g_runV C0 hG (k_J0_length_8abf5 l D base Z u1 p1 r2 hsp1 hc2) m_J0_length_8abf5 v_J0_length_8abf5 w_472 (by decide) (g_recvS C0 hG hsp1) rfl hl.1 rfl (Nat.le_of_ble_eq_true rfl) dX3_skipWord_4 ⟨Nat.zero_le _, Nat.zero_le _⟩) (fun H locs hG hk => ?_)
      refine lv_icmp_ge (tgt := 30) hx hb dX3_skipWord_7 (by decide) (fun c3 => ?_) (fun c3 => ?_)
      · have hf := gif_t c3 hf
        refine lv_iconst (v := (1 : Int32)) hx hb dX3_skipWord_30 (by decide) ?_
        have hf := while_r hX1 hf
        obtain ⟨hr1, hu⟩ := gret_s hf
        subst hr1
        subst hu
        subst hQ
        exact g_zret C0 hG hr (by decide) dX3_skipWord_31
      · have hf := gif_f c3 hf
        refine lv_aload_n hx hb dX3_skipWord_10 rfl (lv_at hl 0 rfl) ?_
        refine lv_aload_n hx hb dX3_skipWord_11 rfl (lv_at hl 1 rfl) ?_
        refine lv_iload_n hx hb dX3_skipWord_12 rfl (lv_at hl 2 rfl) ?_
        obtain ⟨r4, hc4, hf⟩ := pb_s hf
        refine g_doI0 hG (g_runV C0 hG (k_J0_charAt_5068e l D base Z u1 p1 x2_1 r4 hsp1 hc4) m_J0_charAt_5068e v_J0_charAt_5068e w_482 (by decide) (g_recvS C0 hG hsp1) rfl hl.1 rfl (Nat.le_of_ble_eq_true rfl) dX3_skipWord_13 ⟨Nat.zero_le _, Nat.zero_le _⟩) (fun H locs hG hk => ?_)
        obtain ⟨r5, u5, hc5, hf⟩ := obind_s hf
        refine g_doI0 hG (g_runV C0 hG (k_X3_skip l D base Z u1 r4 r5 u5 hc5) m_X3_skip v_X3_skip w_520 (by decide) (g_recv C0 hG (L63 hG) rfl) rfl hl.1 rfl (Nat.le_of_ble_eq_true rfl) dX3_skipWord_16 ⟨Nat.zero_le _, Nat.zero_le _⟩) (fun H locs hG hk => ?_)
        refine lv_if_ne (tgt := 24) hx hb dX3_skipWord_19 (by decide) (fun c6 => ?_) (fun c6 => ?_)
        · have hf := gif_f c6 hf
          refine lv_iinc (v := x2_1 + (1 : Int32)) (lv' := [(2, .int (x2_1 + (1 : Int32))), (0, .ref (base + 63)), (1, .ref (Z.2.2.1 p1))]) hx hb dX3_skipWord_24 hl (k := 2) rfl rfl (by decide) rfl (fun ls hl => ?_)
          refine lv_goto (tgt := 2) hx hb dX3_skipWord_27 (by decide) ?_
          have hf := while_l hX1 hf
          exact ih1 (x2_1 + (1 : Int32)) u5 _ _ ls hG (lv_sub hl [1, 2, 0] rfl) hf
        · have hf := gif_t c6 hf
          refine lv_iconst (v := (0 : Int32)) hx hb dX3_skipWord_22 (by decide) ?_
          have hf := while_r hX1 hf
          obtain ⟨hr1, hu⟩ := gret_s hf
          subst hr1
          subst hu
          subst hQ
          exact g_zret C0 hG hr (by decide) dX3_skipWord_23
  exact loop1 FUEL (0 : Int32) u _ _ ls hG (lv_sub hl [1, 2, 0] rfl) hf
theorem dX3_isDigit_0 : decode cX3_isDigit 0 = .ok (.iload_n 0, 1) := by decide +kernel
theorem dX3_isDigit_1 : decode cX3_isDigit 1 = .ok (.bipush 48, 2) := by decide +kernel
theorem dX3_isDigit_3 : decode cX3_isDigit 3 = .ok (.if_icmp .lt 13, 3) := by decide +kernel
theorem dX3_isDigit_6 : decode cX3_isDigit 6 = .ok (.iload_n 0, 1) := by decide +kernel
theorem dX3_isDigit_7 : decode cX3_isDigit 7 = .ok (.bipush 57, 2) := by decide +kernel
theorem dX3_isDigit_9 : decode cX3_isDigit 9 = .ok (.if_icmp .gt 7, 3) := by decide +kernel
theorem dX3_isDigit_12 : decode cX3_isDigit 12 = .ok (.iconst 1, 1) := by decide +kernel
theorem dX3_isDigit_13 : decode cX3_isDigit 13 = .ok (.goto 4, 3) := by decide +kernel
theorem dX3_isDigit_16 : decode cX3_isDigit 16 = .ok (.iconst 0, 1) := by decide +kernel
theorem dX3_isDigit_17 : decode cX3_isDigit 17 = .ok (.ireturn, 1) := by decide +kernel
def f_X3_isDigit (p0 : Int32) : Option (Int32) := (if p0 < (48 : Int32) then some (0 : Int32) else (if (57 : Int32) < p0 then some (0 : Int32) else some (1 : Int32)))
set_option maxHeartbeats 4000000 in
set_option maxRecDepth 100000 in
theorem k_X3_isDigit (l : Launch) (D : gDt) (base : Nat) (Z : gZt) (u : Mem) (p0 : Int32) (r : Int32) (hf : f_X3_isDigit p0 = some r) : Met l yX3_isDigit (gws yX3_isDigit cX3_isDigit 1 (some .boolean)) (gRm 1 0 0) (gPc D base Z u [.int p0]) (gQi D base r u) 0 0 (gF base) := by
  refine Met.ofW (cc := cX3_isDigit) (maxL := 1) (ret := some .boolean) (by decide) rfl ?_
  intro p e s m args below meth c s₁ B hml hv
  obtain ⟨rfl, C0, hG⟩ := g_enter B hml hv
  have hr := B.returns
  have C0 : gC p s m meth c _ cX3_isDigit 1 RX3 D base Z := C0
  have hx := C0.1
  have hb := C0.2.1
  have hl := lv_entry ([.int p0]) (n := 1) (Nat.le_of_ble_eq_true rfl)
  rw [lg_entry_eq]
  generalize (lg_sl ([.int p0]) ++ List.replicate (1 - (lg_sl ([.int p0])).length) Slot.unset).toArray = ls at hl ⊢
  have hl : lv_has ls 1 [(0, .int p0)] := hl
  obtain ⟨Q, hQ⟩ : ∃ Q, Q = MQ below (gQi D base r u) ([.int p0] : List Value).toArray s 0 0 (gF base) := ⟨_, rfl⟩
  rw [← hQ]
  change W p l e (gRm 1 0 0) s m _ below meth c _ _ _ _ _ _
  unfold f_X3_isDigit at hf
  refine lv_iload_n hx hb dX3_isDigit_0 rfl (lv_at hl 0 rfl) ?_
  refine lv_bipush (v := (48 : Int32)) hx hb dX3_isDigit_1 (by decide) ?_
  refine lv_icmp_lt (tgt := 16) hx hb dX3_isDigit_3 (by decide) (fun c1 => ?_) (fun c1 => ?_)
  · have hf := gif_t c1 hf
    refine lv_iconst (v := (0 : Int32)) hx hb dX3_isDigit_16 (by decide) ?_
    have hf := Option.some.inj hf
    subst hf
    subst hQ
    exact g_zret C0 hG hr (by decide) dX3_isDigit_17
  · have hf := gif_f c1 hf
    refine lv_iload_n hx hb dX3_isDigit_6 rfl (lv_at hl 0 rfl) ?_
    refine lv_bipush (v := (57 : Int32)) hx hb dX3_isDigit_7 (by decide) ?_
    refine lv_icmp_gt (tgt := 16) hx hb dX3_isDigit_9 (by decide) (fun c2 => ?_) (fun c2 => ?_)
    · have hf := gif_t c2 hf
      refine lv_iconst (v := (0 : Int32)) hx hb dX3_isDigit_16 (by decide) ?_
      have hf := Option.some.inj hf
      subst hf
      subst hQ
      exact g_zret C0 hG hr (by decide) dX3_isDigit_17
    · have hf := gif_f c2 hf
      refine lv_iconst (v := (1 : Int32)) hx hb dX3_isDigit_12 (by decide) ?_
      refine lv_goto (tgt := 17) hx hb dX3_isDigit_13 (by decide) ?_
      have hf := Option.some.inj hf
      subst hf
      subst hQ
      exact g_zret C0 hG hr (by decide) dX3_isDigit_17
theorem dX3_readNumber_0 : decode cX3_readNumber 0 = .ok (.aload_n 0, 1) := by decide +kernel
theorem dX3_readNumber_1 : decode cX3_readNumber 1 = .ok (.invokevirtual 40, 3) := by decide +kernel
theorem dX3_readNumber_4 : decode cX3_readNumber 4 = .ok (.invokestatic 91, 3) := by decide +kernel
theorem dX3_readNumber_7 : decode cX3_readNumber 7 = .ok (.ifCond .ne 5, 3) := by decide +kernel
theorem dX3_readNumber_10 : decode cX3_readNumber 10 = .ok (.iconst (-1), 1) := by decide +kernel
theorem dX3_readNumber_11 : decode cX3_readNumber 11 = .ok (.ireturn, 1) := by decide +kernel
theorem dX3_readNumber_12 : decode cX3_readNumber 12 = .ok (.aload_n 0, 1) := by decide +kernel
theorem dX3_readNumber_13 : decode cX3_readNumber 13 = .ok (.invokevirtual 40, 3) := by decide +kernel
theorem dX3_readNumber_16 : decode cX3_readNumber 16 = .ok (.bipush 48, 2) := by decide +kernel
theorem dX3_readNumber_18 : decode cX3_readNumber 18 = .ok (.isub, 1) := by decide +kernel
theorem dX3_readNumber_19 : decode cX3_readNumber 19 = .ok (.istore_n 1, 1) := by decide +kernel
theorem dX3_readNumber_20 : decode cX3_readNumber 20 = .ok (.aload_n 0, 1) := by decide +kernel
theorem dX3_readNumber_21 : decode cX3_readNumber 21 = .ok (.dup, 1) := by decide +kernel
theorem dX3_readNumber_22 : decode cX3_readNumber 22 = .ok (.getfield 19, 3) := by decide +kernel
theorem dX3_readNumber_25 : decode cX3_readNumber 25 = .ok (.iconst 1, 1) := by decide +kernel
theorem dX3_readNumber_26 : decode cX3_readNumber 26 = .ok (.iadd, 1) := by decide +kernel
theorem dX3_readNumber_27 : decode cX3_readNumber 27 = .ok (.putfield 19, 3) := by decide +kernel
theorem dX3_readNumber_30 : decode cX3_readNumber 30 = .ok (.aload_n 0, 1) := by decide +kernel
theorem dX3_readNumber_31 : decode cX3_readNumber 31 = .ok (.invokevirtual 40, 3) := by decide +kernel
theorem dX3_readNumber_34 : decode cX3_readNumber 34 = .ok (.invokestatic 91, 3) := by decide +kernel
theorem dX3_readNumber_37 : decode cX3_readNumber 37 = .ok (.ifCond .eq 26, 3) := by decide +kernel
theorem dX3_readNumber_40 : decode cX3_readNumber 40 = .ok (.iload_n 1, 1) := by decide +kernel
theorem dX3_readNumber_41 : decode cX3_readNumber 41 = .ok (.bipush 10, 2) := by decide +kernel
theorem dX3_readNumber_43 : decode cX3_readNumber 43 = .ok (.imul, 1) := by decide +kernel
theorem dX3_readNumber_44 : decode cX3_readNumber 44 = .ok (.aload_n 0, 1) := by decide +kernel
theorem dX3_readNumber_45 : decode cX3_readNumber 45 = .ok (.invokevirtual 40, 3) := by decide +kernel
theorem dX3_readNumber_48 : decode cX3_readNumber 48 = .ok (.iadd, 1) := by decide +kernel
theorem dX3_readNumber_49 : decode cX3_readNumber 49 = .ok (.bipush 48, 2) := by decide +kernel
theorem dX3_readNumber_51 : decode cX3_readNumber 51 = .ok (.isub, 1) := by decide +kernel
theorem dX3_readNumber_52 : decode cX3_readNumber 52 = .ok (.istore_n 1, 1) := by decide +kernel
theorem dX3_readNumber_53 : decode cX3_readNumber 53 = .ok (.aload_n 0, 1) := by decide +kernel
theorem dX3_readNumber_54 : decode cX3_readNumber 54 = .ok (.dup, 1) := by decide +kernel
theorem dX3_readNumber_55 : decode cX3_readNumber 55 = .ok (.getfield 19, 3) := by decide +kernel
theorem dX3_readNumber_58 : decode cX3_readNumber 58 = .ok (.iconst 1, 1) := by decide +kernel
theorem dX3_readNumber_59 : decode cX3_readNumber 59 = .ok (.iadd, 1) := by decide +kernel
theorem dX3_readNumber_60 : decode cX3_readNumber 60 = .ok (.putfield 19, 3) := by decide +kernel
theorem dX3_readNumber_63 : decode cX3_readNumber 63 = .ok (.iload_n 1, 1) := by decide +kernel
theorem dX3_readNumber_64 : decode cX3_readNumber 64 = .ok (.ireturn, 1) := by decide +kernel
def f_X3_readNumber (u : Mem) : Option (Int32 × Mem) := Option.bind (f_X3_next u) (fun r1 => Option.bind (f_X3_isDigit r1) (fun r2 => (if r2 = 0 then some ((-1 : Int32), u) else Option.bind (f_X3_next u) (fun r4 => Option.bind (f_X3_next (sI u 63 2 ((gI u 63 2) + (1 : Int32)))) (fun r5 => Option.bind (f_X3_isDigit r5) (fun r6 => (if r6 = 0 then some (r4 - (48 : Int32), sI u 63 2 ((gI u 63 2) + (1 : Int32))) else Option.bind (f_X3_next (sI u 63 2 ((gI u 63 2) + (1 : Int32)))) (fun r8 => some ((((r4 - (48 : Int32)) * (10 : Int32)) + r8) - (48 : Int32), sI (sI u 63 2 ((gI u 63 2) + (1 : Int32))) 63 2 ((gI (sI u 63 2 ((gI u 63 2) + (1 : Int32))) 63 2) + (1 : Int32)))))))))))
set_option maxHeartbeats 4000000 in
set_option maxRecDepth 100000 in
theorem k_X3_readNumber (l : Launch) (D : gDt) (base : Nat) (Z : gZt) (u : Mem) (r : Int32) (u' : Mem) (hf : f_X3_readNumber u = some (r, u')) : Met l yX3_readNumber (gws yX3_readNumber cX3_readNumber 2 (some .int)) (gRm 2 0 0) (gPc D base Z u [.ref (base + 63)]) (gQi D base r u') 0 0 (gF base) := by
  refine Met.ofW (cc := cX3_readNumber) (maxL := 2) (ret := some .int) (by decide) rfl ?_
  intro p e s m args below meth c s₁ B hml hv
  obtain ⟨rfl, C0, hG⟩ := g_enter B hml hv
  have hr := B.returns
  have C0 : gC p s m meth c _ cX3_readNumber 2 RX3 D base Z := C0
  have hx := C0.1
  have hb := C0.2.1
  have hl := lv_entry ([.ref (base + 63)]) (n := 2) (Nat.le_of_ble_eq_true rfl)
  rw [lg_entry_eq]
  generalize (lg_sl ([.ref (base + 63)]) ++ List.replicate (2 - (lg_sl ([.ref (base + 63)])).length) Slot.unset).toArray = ls at hl ⊢
  have hl : lv_has ls 2 [(0, .ref (base + 63))] := hl
  obtain ⟨Q, hQ⟩ : ∃ Q, Q = MQ below (gQi D base r u') ([.ref (base + 63)] : List Value).toArray s 0 0 (gF base) := ⟨_, rfl⟩
  rw [← hQ]
  change W p l e (gRm 2 0 0) s m _ below meth c _ _ _ _ _ _
  unfold f_X3_readNumber at hf
  refine lv_aload_n hx hb dX3_readNumber_0 rfl (lv_at hl 0 rfl) ?_
  obtain ⟨r1, hc1, hf⟩ := pb_s hf
  refine g_doI0 hG (g_runV C0 hG (k_X3_next l D base Z u r1 hc1) m_X3_next v_X3_next w_463 (by decide) (g_recv C0 hG (L63 hG) rfl) rfl hl.1 rfl (Nat.le_of_ble_eq_true rfl) dX3_readNumber_1 ⟨Nat.zero_le _, Nat.zero_le _⟩) (fun H locs hG hk => ?_)
  obtain ⟨r2, hc2, hf⟩ := pb_s hf
  refine g_doI0 hG (g_runS C0 hG (k_X3_isDigit l D base Z u r1 r2 hc2) m_X3_isDigit s_X3_isDigit w_532 (by decide) rfl hl.1 rfl (Nat.le_of_ble_eq_true rfl) dX3_readNumber_4 ⟨Nat.zero_le _, Nat.zero_le _⟩) (fun H locs hG hk => ?_)
  refine lv_if_ne (tgt := 12) hx hb dX3_readNumber_7 (by decide) (fun c3 => ?_) (fun c3 => ?_)
  · have hf := gif_f c3 hf
    refine lv_aload_n hx hb dX3_readNumber_12 rfl (lv_at hl 0 rfl) ?_
    obtain ⟨r4, hc4, hf⟩ := pb_s hf
    refine g_doI0 hG (g_runV C0 hG (k_X3_next l D base Z u r4 hc4) m_X3_next v_X3_next w_463 (by decide) (g_recv C0 hG (L63 hG) rfl) rfl hl.1 rfl (Nat.le_of_ble_eq_true rfl) dX3_readNumber_13 ⟨Nat.zero_le _, Nat.zero_le _⟩) (fun H locs hG hk => ?_)
    refine lv_bipush (v := (48 : Int32)) hx hb dX3_readNumber_16 (by decide) ?_
    refine lv_isub hx hb dX3_readNumber_18 ?_
    refine lv_istore_n (lv' := [(1, .int (r4 - (48 : Int32))), (0, .ref (base + 63))]) hx hb dX3_readNumber_19 rfl hl (by decide) rfl (fun ls hl => ?_)
    refine lv_aload_n hx hb dX3_readNumber_20 rfl (lv_at hl 1 rfl) ?_
    refine lv_dup hx hb dX3_readNumber_21 rfl ?_
    refine g_getI C0 hG (L63 hG) rfl 2 (by decide) rfl w_269 dX3_readNumber_22 ?_
    refine lv_iconst (v := (1 : Int32)) hx hb dX3_readNumber_25 (by decide) ?_
    refine lv_iadd hx hb dX3_readNumber_26 ?_
    refine g_putI (ty := .int) C0 hG (L63 hG) rfl 2 (by decide) rfl w_269 rfl (by decide) rfl rfl dX3_readNumber_27 (fun H locs hG => ?_)
    refine lv_aload_n hx hb dX3_readNumber_30 rfl (lv_at hl 1 rfl) ?_
    obtain ⟨r5, hc5, hf⟩ := pb_s hf
    refine g_doI0 hG (g_runV C0 hG (k_X3_next l D base Z (sI u 63 2 ((gI u 63 2) + (1 : Int32))) r5 hc5) m_X3_next v_X3_next w_463 (by decide) (g_recv C0 hG (L63 hG) rfl) rfl hl.1 rfl (Nat.le_of_ble_eq_true rfl) dX3_readNumber_31 ⟨Nat.zero_le _, Nat.zero_le _⟩) (fun H locs hG hk => ?_)
    obtain ⟨r6, hc6, hf⟩ := pb_s hf
    refine g_doI0 hG (g_runS C0 hG (k_X3_isDigit l D base Z (sI u 63 2 ((gI u 63 2) + (1 : Int32))) r5 r6 hc6) m_X3_isDigit s_X3_isDigit w_532 (by decide) rfl hl.1 rfl (Nat.le_of_ble_eq_true rfl) dX3_readNumber_34 ⟨Nat.zero_le _, Nat.zero_le _⟩) (fun H locs hG hk => ?_)
    refine lv_if_eq (tgt := 63) hx hb dX3_readNumber_37 (by decide) (fun c7 => ?_) (fun c7 => ?_)
    · have hf := gif_t c7 hf
      refine lv_iload_n hx hb dX3_readNumber_63 rfl (lv_at hl 0 rfl) ?_
      obtain ⟨hr1, hu⟩ := gret_s hf
      subst hr1
      subst hu
      subst hQ
      exact g_iret C0 hG hr dX3_readNumber_64
    · have hf := gif_f c7 hf
      refine lv_iload_n hx hb dX3_readNumber_40 rfl (lv_at hl 0 rfl) ?_
      refine lv_bipush (v := (10 : Int32)) hx hb dX3_readNumber_41 (by decide) ?_
      refine lv_imul hx hb dX3_readNumber_43 ?_
      refine lv_aload_n hx hb dX3_readNumber_44 rfl (lv_at hl 1 rfl) ?_
      obtain ⟨r8, hc8, hf⟩ := pb_s hf
      refine g_doI0 hG (g_runV C0 hG (k_X3_next l D base Z (sI u 63 2 ((gI u 63 2) + (1 : Int32))) r8 hc8) m_X3_next v_X3_next w_463 (by decide) (g_recv C0 hG (L63 hG) rfl) rfl hl.1 rfl (Nat.le_of_ble_eq_true rfl) dX3_readNumber_45 ⟨Nat.zero_le _, Nat.zero_le _⟩) (fun H locs hG hk => ?_)
      refine lv_iadd hx hb dX3_readNumber_48 ?_
      refine lv_bipush (v := (48 : Int32)) hx hb dX3_readNumber_49 (by decide) ?_
      refine lv_isub hx hb dX3_readNumber_51 ?_
      refine lv_istore_n (lv' := [(1, .int ((((r4 - (48 : Int32)) * (10 : Int32)) + r8) - (48 : Int32))), (0, .ref (base + 63))]) hx hb dX3_readNumber_52 rfl hl (by decide) rfl (fun ls hl => ?_)
      refine lv_aload_n hx hb dX3_readNumber_53 rfl (lv_at hl 1 rfl) ?_
      refine lv_dup hx hb dX3_readNumber_54 rfl ?_
      refine g_getI C0 hG (L63 hG) rfl 2 (by decide) rfl w_269 dX3_readNumber_55 ?_
      refine lv_iconst (v := (1 : Int32)) hx hb dX3_readNumber_58 (by decide) ?_
      refine lv_iadd hx hb dX3_readNumber_59 ?_
      refine g_putI (ty := .int) C0 hG (L63 hG) rfl 2 (by decide) rfl w_269 rfl (by decide) rfl rfl dX3_readNumber_60 (fun H locs hG => ?_)
      refine lv_iload_n hx hb dX3_readNumber_63 rfl (lv_at hl 0 rfl) ?_
      obtain ⟨hr1, hu⟩ := gret_s hf
      subst hr1
      subst hu
      subst hQ
      exact g_iret C0 hG hr dX3_readNumber_64
  · have hf := gif_t c3 hf
    refine lv_iconst (v := (-1 : Int32)) hx hb dX3_readNumber_10 (by decide) ?_
    obtain ⟨hr1, hu⟩ := gret_s hf
    subst hr1
    subst hu
    subst hQ
    exact g_iret C0 hG hr dX3_readNumber_11
theorem dJ1_canEncode_9a6ad_0 : decode cJ1_canEncode_9a6ad 0 = .ok (.iload_n 0, 1) := by decide +kernel
theorem dJ1_canEncode_9a6ad_1 : decode cJ1_canEncode_9a6ad 1 = .ok (.ifCond .lt 14, 3) := by decide +kernel
theorem dJ1_canEncode_9a6ad_4 : decode cJ1_canEncode_9a6ad 4 = .ok (.iload_n 0, 1) := by decide +kernel
theorem dJ1_canEncode_9a6ad_5 : decode cJ1_canEncode_9a6ad 5 = .ok (.sipush 255, 3) := by decide +kernel
theorem dJ1_canEncode_9a6ad_8 : decode cJ1_canEncode_9a6ad 8 = .ok (.if_icmp .gt 7, 3) := by decide +kernel
theorem dJ1_canEncode_9a6ad_11 : decode cJ1_canEncode_9a6ad 11 = .ok (.iconst 1, 1) := by decide +kernel
theorem dJ1_canEncode_9a6ad_12 : decode cJ1_canEncode_9a6ad 12 = .ok (.goto 4, 3) := by decide +kernel
theorem dJ1_canEncode_9a6ad_15 : decode cJ1_canEncode_9a6ad 15 = .ok (.iconst 0, 1) := by decide +kernel
theorem dJ1_canEncode_9a6ad_16 : decode cJ1_canEncode_9a6ad 16 = .ok (.ireturn, 1) := by decide +kernel
def f_J1_canEncode_9a6ad (p0 : Int32) : Option (Int32) := (if p0 < 0 then some (0 : Int32) else (if (255 : Int32) < p0 then some (0 : Int32) else some (1 : Int32)))
set_option maxHeartbeats 4000000 in
set_option maxRecDepth 100000 in
theorem k_J1_canEncode_9a6ad (l : Launch) (D : gDt) (base : Nat) (Z : gZt) (u : Mem) (p0 : Int32) (r : Int32) (hf : f_J1_canEncode_9a6ad p0 = some r) : Met l yJ1_canEncode_9a6ad (gws yJ1_canEncode_9a6ad cJ1_canEncode_9a6ad 1 (some .boolean)) (gRm 1 0 0) (gPc D base Z u [.int p0]) (gQi D base r u) 0 0 (gF base) := by
  refine Met.ofW (cc := cJ1_canEncode_9a6ad) (maxL := 1) (ret := some .boolean) (by decide) rfl ?_
  intro p e s m args below meth c s₁ B hml hv
  obtain ⟨rfl, C0, hG⟩ := g_enter B hml hv
  have hr := B.returns
  have C0 : gC p s m meth c _ cJ1_canEncode_9a6ad 1 RJ1 D base Z := C0
  have hx := C0.1
  have hb := C0.2.1
  have hl := lv_entry ([.int p0]) (n := 1) (Nat.le_of_ble_eq_true rfl)
  rw [lg_entry_eq]
  generalize (lg_sl ([.int p0]) ++ List.replicate (1 - (lg_sl ([.int p0])).length) Slot.unset).toArray = ls at hl ⊢
  have hl : lv_has ls 1 [(0, .int p0)] := hl
  obtain ⟨Q, hQ⟩ : ∃ Q, Q = MQ below (gQi D base r u) ([.int p0] : List Value).toArray s 0 0 (gF base) := ⟨_, rfl⟩
  rw [← hQ]
  change W p l e (gRm 1 0 0) s m _ below meth c _ _ _ _ _ _
  unfold f_J1_canEncode_9a6ad at hf
  refine lv_iload_n hx hb dJ1_canEncode_9a6ad_0 rfl (lv_at hl 0 rfl) ?_
  refine lv_if_lt (tgt := 15) hx hb dJ1_canEncode_9a6ad_1 (by decide) (fun c1 => ?_) (fun c1 => ?_)
  · have hf := gif_t c1 hf
    refine lv_iconst (v := (0 : Int32)) hx hb dJ1_canEncode_9a6ad_15 (by decide) ?_
    have hf := Option.some.inj hf
    subst hf
    subst hQ
    exact g_zret C0 hG hr (by decide) dJ1_canEncode_9a6ad_16
  · have hf := gif_f c1 hf
    refine lv_iload_n hx hb dJ1_canEncode_9a6ad_4 rfl (lv_at hl 0 rfl) ?_
    refine lv_sipush (v := (255 : Int32)) hx hb dJ1_canEncode_9a6ad_5 (by decide) ?_
    refine lv_icmp_gt (tgt := 15) hx hb dJ1_canEncode_9a6ad_8 (by decide) (fun c2 => ?_) (fun c2 => ?_)
    · have hf := gif_t c2 hf
      refine lv_iconst (v := (0 : Int32)) hx hb dJ1_canEncode_9a6ad_15 (by decide) ?_
      have hf := Option.some.inj hf
      subst hf
      subst hQ
      exact g_zret C0 hG hr (by decide) dJ1_canEncode_9a6ad_16
    · have hf := gif_f c2 hf
      refine lv_iconst (v := (1 : Int32)) hx hb dJ1_canEncode_9a6ad_11 (by decide) ?_
      refine lv_goto (tgt := 16) hx hb dJ1_canEncode_9a6ad_12 (by decide) ?_
      have hf := Option.some.inj hf
      subst hf
      subst hQ
      exact g_zret C0 hG hr (by decide) dJ1_canEncode_9a6ad_16
theorem dJ1_indexOfChar_4cfef_0 : decode cJ1_indexOfChar_4cfef 0 = .ok (.iload_n 1, 1) := by decide +kernel
theorem dJ1_indexOfChar_4cfef_1 : decode cJ1_indexOfChar_4cfef 1 = .ok (.i2b, 1) := by decide +kernel
theorem dJ1_indexOfChar_4cfef_2 : decode cJ1_indexOfChar_4cfef 2 = .ok (.istore 4, 2) := by decide +kernel
theorem dJ1_indexOfChar_4cfef_4 : decode cJ1_indexOfChar_4cfef 4 = .ok (.iload_n 2, 1) := by decide +kernel
theorem dJ1_indexOfChar_4cfef_5 : decode cJ1_indexOfChar_4cfef 5 = .ok (.istore 5, 2) := by decide +kernel
theorem dJ1_indexOfChar_4cfef_7 : decode cJ1_indexOfChar_4cfef 7 = .ok (.iload 5, 2) := by decide +kernel
theorem dJ1_indexOfChar_4cfef_9 : decode cJ1_indexOfChar_4cfef 9 = .ok (.iload_n 3, 1) := by decide +kernel
theorem dJ1_indexOfChar_4cfef_10 : decode cJ1_indexOfChar_4cfef 10 = .ok (.if_icmp .ge 21, 3) := by decide +kernel
theorem dJ1_indexOfChar_4cfef_13 : decode cJ1_indexOfChar_4cfef 13 = .ok (.aload_n 0, 1) := by decide +kernel
theorem dJ1_indexOfChar_4cfef_14 : decode cJ1_indexOfChar_4cfef 14 = .ok (.iload 5, 2) := by decide +kernel
theorem dJ1_indexOfChar_4cfef_16 : decode cJ1_indexOfChar_4cfef 16 = .ok (.baload, 1) := by decide +kernel
theorem dJ1_indexOfChar_4cfef_17 : decode cJ1_indexOfChar_4cfef 17 = .ok (.iload 4, 2) := by decide +kernel
theorem dJ1_indexOfChar_4cfef_19 : decode cJ1_indexOfChar_4cfef 19 = .ok (.if_icmp .ne 6, 3) := by decide +kernel
theorem dJ1_indexOfChar_4cfef_22 : decode cJ1_indexOfChar_4cfef 22 = .ok (.iload 5, 2) := by decide +kernel
theorem dJ1_indexOfChar_4cfef_24 : decode cJ1_indexOfChar_4cfef 24 = .ok (.ireturn, 1) := by decide +kernel
theorem dJ1_indexOfChar_4cfef_25 : decode cJ1_indexOfChar_4cfef 25 = .ok (.iinc 5 1, 3) := by decide +kernel
theorem dJ1_indexOfChar_4cfef_28 : decode cJ1_indexOfChar_4cfef 28 = .ok (.goto (-21), 3) := by decide +kernel
theorem dJ1_indexOfChar_4cfef_31 : decode cJ1_indexOfChar_4cfef 31 = .ok (.iconst (-1), 1) := by decide +kernel
theorem dJ1_indexOfChar_4cfef_32 : decode cJ1_indexOfChar_4cfef 32 = .ok (.ireturn, 1) := by decide +kernel
def f_J1_indexOfChar_4cfef_L7 (p3 : Int32) (p0 : Nat) (p1 : Int32) (x5_1 : Int32) : Option (Int32 ⊕ Int32) := (if p3 ≤ x5_1 then some (Sum.inr (-1 : Int32)) else gin x5_1 (sLen.getD p0 0) ((if (sB p0 x5_1.toNatClampNeg) = p1.toInt8.toInt32 then some (Sum.inr (x5_1)) else some (Sum.inl (x5_1 + (1 : Int32))))))
def f_J1_indexOfChar_4cfef (p0 : Nat) (p1 : Int32) (p2 : Int32) (p3 : Int32) : Option (Int32) := whileO (fun s => f_J1_indexOfChar_4cfef_L7 p3 p0 p1 s) FUEL p2
set_option maxHeartbeats 4000000 in
set_option maxRecDepth 100000 in
theorem k_J1_indexOfChar_4cfef (l : Launch) (D : gDt) (base : Nat) (Z : gZt) (u : Mem) (p0 : Nat) (p1 : Int32) (p2 : Int32) (p3 : Int32) (r : Int32) (hsp0 : p0 < 4) (hf : f_J1_indexOfChar_4cfef p0 p1 p2 p3 = some r) : Met l yJ1_indexOfChar_4cfef (gws yJ1_indexOfChar_4cfef cJ1_indexOfChar_4cfef 6 (some .int)) (gRm 1 0 0) (gPc D base Z u [.ref (Z.2.2.2 p0), .int p1, .int p2, .int p3]) (gQi D base r u) 0 0 (gF base) := by
  refine Met.ofW (cc := cJ1_indexOfChar_4cfef) (maxL := 6) (ret := some .int) (by decide) rfl ?_
  intro p e s m args below meth c s₁ B hml hv
  obtain ⟨rfl, C0, hG⟩ := g_enter B hml hv
  have hr := B.returns
  have C0 : gC p s m meth c _ cJ1_indexOfChar_4cfef 6 RJ1 D base Z := C0
  have hx := C0.1
  have hb := C0.2.1
  have hl := lv_entry ([.ref (Z.2.2.2 p0), .int p1, .int p2, .int p3]) (n := 6) (Nat.le_of_ble_eq_true rfl)
  rw [lg_entry_eq]
  generalize (lg_sl ([.ref (Z.2.2.2 p0), .int p1, .int p2, .int p3]) ++ List.replicate (6 - (lg_sl ([.ref (Z.2.2.2 p0), .int p1, .int p2, .int p3])).length) Slot.unset).toArray = ls at hl ⊢
  have hl : lv_has ls 6 [(0, .ref (Z.2.2.2 p0)), (1, .int p1), (2, .int p2), (3, .int p3)] := hl
  obtain ⟨Q, hQ⟩ : ∃ Q, Q = MQ below (gQi D base r u) ([.ref (Z.2.2.2 p0), .int p1, .int p2, .int p3] : List Value).toArray s 0 0 (gF base) := ⟨_, rfl⟩
  rw [← hQ]
  change W p l e (gRm 1 0 0) s m _ below meth c _ _ _ _ _ _
  unfold f_J1_indexOfChar_4cfef at hf
  refine lv_iload_n hx hb dJ1_indexOfChar_4cfef_0 rfl (lv_at hl 1 rfl) ?_
  refine lv_i2b (v := p1.toInt8.toInt32) hx hb dJ1_indexOfChar_4cfef_1 rfl ?_
  refine lv_istore (lv' := [(4, .int p1.toInt8.toInt32), (0, .ref (Z.2.2.2 p0)), (1, .int p1), (2, .int p2), (3, .int p3)]) hx hb dJ1_indexOfChar_4cfef_2 hl (by decide) rfl (fun ls hl => ?_)
  refine lv_iload_n hx hb dJ1_indexOfChar_4cfef_4 rfl (lv_at hl 3 rfl) ?_
  refine lv_istore (lv' := [(5, .int p2), (4, .int p1.toInt8.toInt32), (0, .ref (Z.2.2.2 p0)), (1, .int p1), (2, .int p2), (3, .int p3)]) hx hb dJ1_indexOfChar_4cfef_5 hl (by decide) rfl (fun ls hl => ?_)
  have loop1 : ∀ (n1 : Nat) (x5_1 : Int32) (H : Heap) (locs : List Loc) (ls : Array Slot), gH D base s u H locs → lv_has ls 6 [(0, .ref (Z.2.2.2 p0)), (3, .int p3), (4, .int p1.toInt8.toInt32), (5, .int x5_1)] → whileO (fun s => f_J1_indexOfChar_4cfef_L7 p3 p0 p1 s) n1 x5_1 = some r → W p l e (gRm 1 0 0) s m ([.ref (Z.2.2.2 p0), .int p1, .int p2, .int p3] : List Value).toArray below meth c H locs 0 0 Q (F0 m 7 ls []) := by
    intro n1
    induction n1 with
    | zero => intro x5_1 H locs ls hG hl hf; cases hf
    | succ n1 ih1 =>
      intro x5_1 H locs ls hG hl hf
      obtain ⟨X1, hf, hX1⟩ := while_s hf
      have hf : f_J1_indexOfChar_4cfef_L7 p3 p0 p1 x5_1 = some X1 := hf
      unfold f_J1_indexOfChar_4cfef_L7 at hf
      refine lv_iload hx hb dJ1_indexOfChar_4cfef_7 (lv_at hl 3 rfl) ?_
      refine lv_iload_n hx hb dJ1_indexOfChar_4cfef_9 rfl (lv_at hl 1 rfl) ?_
      refine lv_icmp_ge (tgt := 31) hx hb dJ1_indexOfChar_4cfef_10 (by decide) (fun c2 => ?_) (fun c2 => ?_)
      · have hf := gif_t c2 hf
        refine lv_iconst (v := (-1 : Int32)) hx hb dJ1_indexOfChar_4cfef_31 (by decide) ?_
        have hf := while_r hX1 hf
        have hf := Option.some.inj hf
        subst hf
        subst hQ
        exact g_iret C0 hG hr dJ1_indexOfChar_4cfef_32
      · have hf := gif_f c2 hf
        refine lv_aload_n hx hb dJ1_indexOfChar_4cfef_13 rfl (lv_at hl 0 rfl) ?_
        refine lv_iload hx hb dJ1_indexOfChar_4cfef_14 (lv_at hl 3 rfl) ?_
        obtain ⟨h3, hf⟩ := gin_s hf
        refine g_sBy C0 hG hsp0 h3 dJ1_indexOfChar_4cfef_16 ?_
        refine lv_iload hx hb dJ1_indexOfChar_4cfef_17 (lv_at hl 2 rfl) ?_
        refine lv_icmp_ne (tgt := 25) hx hb dJ1_indexOfChar_4cfef_19 (by decide) (fun c4 => ?_) (fun c4 => ?_)
        · have hf := gif_f c4 hf
          refine lv_iinc (v := x5_1 + (1 : Int32)) (lv' := [(5, .int (x5_1 + (1 : Int32))), (0, .ref (Z.2.2.2 p0)), (3, .int p3), (4, .int p1.toInt8.toInt32)]) hx hb dJ1_indexOfChar_4cfef_25 hl (k := 3) rfl rfl (by decide) rfl (fun ls hl => ?_)
          refine lv_goto (tgt := 7) hx hb dJ1_indexOfChar_4cfef_28 (by decide) ?_
          have hf := while_l hX1 hf
          exact ih1 (x5_1 + (1 : Int32)) _ _ ls hG (lv_sub hl [1, 2, 3, 0] rfl) hf
        · have hf := gif_t c4 hf
          refine lv_iload hx hb dJ1_indexOfChar_4cfef_22 (lv_at hl 3 rfl) ?_
          have hf := while_r hX1 hf
          have hf := Option.some.inj hf
          subst hf
          subst hQ
          exact g_iret C0 hG hr dJ1_indexOfChar_4cfef_24
  exact loop1 FUEL p2 _ _ ls hG (lv_sub hl [2, 5, 1, 0] rfl) hf
theorem dJ1_indexOf_4cfef_0 : decode cJ1_indexOf_4cfef 0 = .ok (.iload_n 1, 1) := by decide +kernel
theorem dJ1_indexOf_4cfef_1 : decode cJ1_indexOf_4cfef 1 = .ok (.invokestatic 88, 3) := by decide +kernel
theorem dJ1_indexOf_4cfef_4 : decode cJ1_indexOf_4cfef 4 = .ok (.ifCond .ne 5, 3) := by decide +kernel
theorem dJ1_indexOf_4cfef_7 : decode cJ1_indexOf_4cfef 7 = .ok (.iconst (-1), 1) := by decide +kernel
theorem dJ1_indexOf_4cfef_8 : decode cJ1_indexOf_4cfef 8 = .ok (.ireturn, 1) := by decide +kernel
theorem dJ1_indexOf_4cfef_9 : decode cJ1_indexOf_4cfef 9 = .ok (.iload_n 2, 1) := by decide +kernel
theorem dJ1_indexOf_4cfef_10 : decode cJ1_indexOf_4cfef 10 = .ok (.iconst 0, 1) := by decide +kernel
theorem dJ1_indexOf_4cfef_11 : decode cJ1_indexOf_4cfef 11 = .ok (.invokestatic 92, 3) := by decide +kernel
theorem dJ1_indexOf_4cfef_14 : decode cJ1_indexOf_4cfef 14 = .ok (.istore_n 2, 1) := by decide +kernel
theorem dJ1_indexOf_4cfef_15 : decode cJ1_indexOf_4cfef 15 = .ok (.iload_n 3, 1) := by decide +kernel
theorem dJ1_indexOf_4cfef_16 : decode cJ1_indexOf_4cfef 16 = .ok (.aload_n 0, 1) := by decide +kernel
theorem dJ1_indexOf_4cfef_17 : decode cJ1_indexOf_4cfef 17 = .ok (.arraylength, 1) := by decide +kernel
theorem dJ1_indexOf_4cfef_18 : decode cJ1_indexOf_4cfef 18 = .ok (.invokestatic 38, 3) := by decide +kernel
theorem dJ1_indexOf_4cfef_21 : decode cJ1_indexOf_4cfef 21 = .ok (.istore_n 3, 1) := by decide +kernel
theorem dJ1_indexOf_4cfef_22 : decode cJ1_indexOf_4cfef 22 = .ok (.iload_n 2, 1) := by decide +kernel
theorem dJ1_indexOf_4cfef_23 : decode cJ1_indexOf_4cfef 23 = .ok (.iload_n 3, 1) := by decide +kernel
theorem dJ1_indexOf_4cfef_24 : decode cJ1_indexOf_4cfef 24 = .ok (.if_icmp .lt 5, 3) := by decide +kernel
theorem dJ1_indexOf_4cfef_27 : decode cJ1_indexOf_4cfef 27 = .ok (.iconst (-1), 1) := by decide +kernel
theorem dJ1_indexOf_4cfef_28 : decode cJ1_indexOf_4cfef 28 = .ok (.ireturn, 1) := by decide +kernel
theorem dJ1_indexOf_4cfef_29 : decode cJ1_indexOf_4cfef 29 = .ok (.aload_n 0, 1) := by decide +kernel
theorem dJ1_indexOf_4cfef_30 : decode cJ1_indexOf_4cfef 30 = .ok (.iload_n 1, 1) := by decide +kernel
theorem dJ1_indexOf_4cfef_31 : decode cJ1_indexOf_4cfef 31 = .ok (.iload_n 2, 1) := by decide +kernel
theorem dJ1_indexOf_4cfef_32 : decode cJ1_indexOf_4cfef 32 = .ok (.iload_n 3, 1) := by decide +kernel
theorem dJ1_indexOf_4cfef_33 : decode cJ1_indexOf_4cfef 33 = .ok (.invokestatic 95, 3) := by decide +kernel
theorem dJ1_indexOf_4cfef_36 : decode cJ1_indexOf_4cfef 36 = .ok (.ireturn, 1) := by decide +kernel
def f_J1_indexOf_4cfef (p0 : Nat) (p1 : Int32) (p2 : Int32) (p3 : Int32) : Option (Int32) := Option.bind (f_J1_canEncode_9a6ad p1) (fun r1 => (if r1 = 0 then some (-1 : Int32) else (if (imax p2 (0 : Int32)) < (imin p3 (Int32.ofNat (sLen.getD p0 0))) then Option.bind (f_J1_indexOfChar_4cfef p0 p1 (imax p2 (0 : Int32)) (imin p3 (Int32.ofNat (sLen.getD p0 0)))) (fun r4 => some r4) else some (-1 : Int32))))
set_option maxHeartbeats 4000000 in
set_option maxRecDepth 100000 in
theorem k_J1_indexOf_4cfef (l : Launch) (D : gDt) (base : Nat) (Z : gZt) (u : Mem) (p0 : Nat) (p1 : Int32) (p2 : Int32) (p3 : Int32) (r : Int32) (hsp0 : p0 < 4) (hf : f_J1_indexOf_4cfef p0 p1 p2 p3 = some r) : Met l yJ1_indexOf_4cfef (gws yJ1_indexOf_4cfef cJ1_indexOf_4cfef 4 (some .int)) (gRm 2 0 0) (gPc D base Z u [.ref (Z.2.2.2 p0), .int p1, .int p2, .int p3]) (gQi D base r u) 0 0 (gF base) := by
  refine Met.ofW (cc := cJ1_indexOf_4cfef) (maxL := 4) (ret := some .int) (by decide) rfl ?_
  intro p e s m args below meth c s₁ B hml hv
  obtain ⟨rfl, C0, hG⟩ := g_enter B hml hv
  have hr := B.returns
  have C0 : gC p s m meth c _ cJ1_indexOf_4cfef 4 RJ1 D base Z := C0
  have hx := C0.1
  have hb := C0.2.1
  have hl := lv_entry ([.ref (Z.2.2.2 p0), .int p1, .int p2, .int p3]) (n := 4) (Nat.le_of_ble_eq_true rfl)
  rw [lg_entry_eq]
  generalize (lg_sl ([.ref (Z.2.2.2 p0), .int p1, .int p2, .int p3]) ++ List.replicate (4 - (lg_sl ([.ref (Z.2.2.2 p0), .int p1, .int p2, .int p3])).length) Slot.unset).toArray = ls at hl ⊢
  have hl : lv_has ls 4 [(0, .ref (Z.2.2.2 p0)), (1, .int p1), (2, .int p2), (3, .int p3)] := hl
  obtain ⟨Q, hQ⟩ : ∃ Q, Q = MQ below (gQi D base r u) ([.ref (Z.2.2.2 p0), .int p1, .int p2, .int p3] : List Value).toArray s 0 0 (gF base) := ⟨_, rfl⟩
  rw [← hQ]
  change W p l e (gRm 2 0 0) s m _ below meth c _ _ _ _ _ _
  unfold f_J1_indexOf_4cfef at hf
  refine lv_iload_n hx hb dJ1_indexOf_4cfef_0 rfl (lv_at hl 1 rfl) ?_
  obtain ⟨r1, hc1, hf⟩ := pb_s hf
  refine g_doI0 hG (g_runS C0 hG (k_J1_canEncode_9a6ad l D base Z u p1 r1 hc1) m_J1_canEncode_9a6ad s_J1_canEncode_9a6ad w_568 (by decide) rfl hl.1 rfl (Nat.le_of_ble_eq_true rfl) dJ1_indexOf_4cfef_1 ⟨Nat.zero_le _, Nat.zero_le _⟩) (fun H locs hG hk => ?_)
  refine lv_if_ne (tgt := 9) hx hb dJ1_indexOf_4cfef_4 (by decide) (fun c2 => ?_) (fun c2 => ?_)
  · have hf := gif_f c2 hf
    refine lv_iload_n hx hb dJ1_indexOf_4cfef_9 rfl (lv_at hl 2 rfl) ?_
    refine lv_iconst (v := (0 : Int32)) hx hb dJ1_indexOf_4cfef_10 (by decide) ?_
    refine g_max C0 w_571 mt_max_s mt_i mt_max_c hl.1 ⟨Nat.le_of_ble_eq_true rfl, Nat.le_of_ble_eq_true rfl, Nat.zero_le _, Nat.zero_le _⟩ dJ1_indexOf_4cfef_11 ?_
    refine lv_istore_n (lv' := [(2, .int (imax p2 (0 : Int32))), (0, .ref (Z.2.2.2 p0)), (1, .int p1), (3, .int p3)]) hx hb dJ1_indexOf_4cfef_14 rfl hl (by decide) rfl (fun ls hl => ?_)
    refine lv_iload_n hx hb dJ1_indexOf_4cfef_15 rfl (lv_at hl 3 rfl) ?_
    refine lv_aload_n hx hb dJ1_indexOf_4cfef_16 rfl (lv_at hl 1 rfl) ?_
    refine g_sLe C0 hG hsp0 dJ1_indexOf_4cfef_17 ?_
    refine g_min C0 w_574 mt_min_s mt_i mt_min_c hl.1 ⟨Nat.le_of_ble_eq_true rfl, Nat.le_of_ble_eq_true rfl, Nat.zero_le _, Nat.zero_le _⟩ dJ1_indexOf_4cfef_18 ?_
    refine lv_istore_n (lv' := [(3, .int (imin p3 (Int32.ofNat (sLen.getD p0 0)))), (2, .int (imax p2 (0 : Int32))), (0, .ref (Z.2.2.2 p0)), (1, .int p1)]) hx hb dJ1_indexOf_4cfef_21 rfl hl (by decide) rfl (fun ls hl => ?_)
    refine lv_iload_n hx hb dJ1_indexOf_4cfef_22 rfl (lv_at hl 1 rfl) ?_
    refine lv_iload_n hx hb dJ1_indexOf_4cfef_23 rfl (lv_at hl 0 rfl) ?_
    refine lv_icmp_lt (tgt := 29) hx hb dJ1_indexOf_4cfef_24 (by decide) (fun c3 => ?_) (fun c3 => ?_)
    · have hf := gif_t c3 hf
      refine lv_aload_n hx hb dJ1_indexOf_4cfef_29 rfl (lv_at hl 2 rfl) ?_
      refine lv_iload_n hx hb dJ1_indexOf_4cfef_30 rfl (lv_at hl 3 rfl) ?_
      refine lv_iload_n hx hb dJ1_indexOf_4cfef_31 rfl (lv_at hl 1 rfl) ?_
      refine lv_iload_n hx hb dJ1_indexOf_4cfef_32 rfl (lv_at hl 0 rfl) ?_
      obtain ⟨r4, hc4, hf⟩ := pb_s hf
      refine g_doI0 hG (g_runS C0 hG (k_J1_indexOfChar_4cfef l D base Z u p0 p1 (imax p2 (0 : Int32)) (imin p3 (Int32.ofNat (sLen.getD p0 0))) r4 hsp0 hc4) m_J1_indexOfChar_4cfef s_J1_indexOfChar_4cfef w_575 (by decide) rfl hl.1 rfl (Nat.le_of_ble_eq_true rfl) dJ1_indexOf_4cfef_33 ⟨Nat.zero_le _, Nat.zero_le _⟩) (fun H locs hG hk => ?_)
      have hf := Option.some.inj hf
      subst hf
      subst hQ
      exact g_iret C0 hG hr dJ1_indexOf_4cfef_36
    · have hf := gif_f c3 hf
      refine lv_iconst (v := (-1 : Int32)) hx hb dJ1_indexOf_4cfef_27 (by decide) ?_
      have hf := Option.some.inj hf
      subst hf
      subst hQ
      exact g_iret C0 hG hr dJ1_indexOf_4cfef_28
  · have hf := gif_t c2 hf
    refine lv_iconst (v := (-1 : Int32)) hx hb dJ1_indexOf_4cfef_7 (by decide) ?_
    have hf := Option.some.inj hf
    subst hf
    subst hQ
    exact g_iret C0 hG hr dJ1_indexOf_4cfef_8
theorem dJ0_indexOf_7cf53_0 : decode cJ0_indexOf_7cf53 0 = .ok (.aload_n 0, 1) := by decide +kernel
theorem dJ0_indexOf_7cf53_1 : decode cJ0_indexOf_7cf53 1 = .ok (.invokevirtual 492, 3) := by decide +kernel
theorem dJ0_indexOf_7cf53_4 : decode cJ0_indexOf_7cf53 4 = .ok (.ifCond .eq 19, 3) := by decide +kernel
theorem dJ0_indexOf_7cf53_7 : decode cJ0_indexOf_7cf53 7 = .ok (.aload_n 0, 1) := by decide +kernel
theorem dJ0_indexOf_7cf53_8 : decode cJ0_indexOf_7cf53 8 = .ok (.getfield 9, 3) := by decide +kernel
theorem dJ0_indexOf_7cf53_11 : decode cJ0_indexOf_7cf53 11 = .ok (.iload_n 1, 1) := by decide +kernel
theorem dJ0_indexOf_7cf53_12 : decode cJ0_indexOf_7cf53 12 = .ok (.iload_n 2, 1) := by decide +kernel
theorem dJ0_indexOf_7cf53_13 : decode cJ0_indexOf_7cf53 13 = .ok (.aload_n 0, 1) := by decide +kernel
theorem dJ0_indexOf_7cf53_14 : decode cJ0_indexOf_7cf53 14 = .ok (.invokevirtual 505, 3) := by decide +kernel
theorem dJ0_indexOf_7cf53_17 : decode cJ0_indexOf_7cf53 17 = .ok (.invokestatic 637, 3) := by decide +kernel
theorem dJ0_indexOf_7cf53_20 : decode cJ0_indexOf_7cf53 20 = .ok (.goto 16, 3) := by decide +kernel
theorem dJ0_indexOf_7cf53_23 : decode cJ0_indexOf_7cf53 23 = .ok (.aload_n 0, 1) := by decide +kernel
theorem dJ0_indexOf_7cf53_24 : decode cJ0_indexOf_7cf53 24 = .ok (.getfield 9, 3) := by decide +kernel
theorem dJ0_indexOf_7cf53_27 : decode cJ0_indexOf_7cf53 27 = .ok (.iload_n 1, 1) := by decide +kernel
theorem dJ0_indexOf_7cf53_28 : decode cJ0_indexOf_7cf53 28 = .ok (.iload_n 2, 1) := by decide +kernel
theorem dJ0_indexOf_7cf53_29 : decode cJ0_indexOf_7cf53 29 = .ok (.aload_n 0, 1) := by decide +kernel
theorem dJ0_indexOf_7cf53_30 : decode cJ0_indexOf_7cf53 30 = .ok (.invokevirtual 505, 3) := by decide +kernel
theorem dJ0_indexOf_7cf53_33 : decode cJ0_indexOf_7cf53 33 = .ok (.invokestatic 640, 3) := by decide +kernel
theorem dJ0_indexOf_7cf53_36 : decode cJ0_indexOf_7cf53 36 = .ok (.ireturn, 1) := by decide +kernel
def f_J0_indexOf_7cf53 (si : Nat) (p1 : Int32) (p2 : Int32) : Option (Int32) := Option.bind (f_J0_length_8abf5 si) (fun r2 => Option.bind (f_J1_indexOf_4cfef si p1 p2 r2) (fun r3 => some r3))
set_option maxHeartbeats 4000000 in
set_option maxRecDepth 100000 in
theorem k_J0_indexOf_7cf53 (l : Launch) (D : gDt) (base : Nat) (Z : gZt) (u : Mem) (si : Nat) (p1 : Int32) (p2 : Int32) (r : Int32) (hs : si < 4) (hf : f_J0_indexOf_7cf53 si p1 p2 = some r) : Met l yJ0_indexOf_7cf53 (gws yJ0_indexOf_7cf53 cJ0_indexOf_7cf53 3 (some .int)) (gRm 3 0 0) (gPc D base Z u [.ref (Z.2.2.1 si), .int p1, .int p2]) (gQi D base r u) 0 0 (gF base) := by
  refine Met.ofW (cc := cJ0_indexOf_7cf53) (maxL := 3) (ret := some .int) (by decide) rfl ?_
  intro p e s m args below meth c s₁ B hml hv
  obtain ⟨rfl, C0, hG⟩ := g_enter B hml hv
  have hr := B.returns
  have C0 : gC p s m meth c _ cJ0_indexOf_7cf53 3 RJ0 D base Z := C0
  have hx := C0.1
  have hb := C0.2.1
  have hl := lv_entry ([.ref (Z.2.2.1 si), .int p1, .int p2]) (n := 3) (Nat.le_of_ble_eq_true rfl)
  rw [lg_entry_eq]
  generalize (lg_sl ([.ref (Z.2.2.1 si), .int p1, .int p2]) ++ List.replicate (3 - (lg_sl ([.ref (Z.2.2.1 si), .int p1, .int p2])).length) Slot.unset).toArray = ls at hl ⊢
  have hl : lv_has ls 3 [(0, .ref (Z.2.2.1 si)), (1, .int p1), (2, .int p2)] := hl
  obtain ⟨Q, hQ⟩ : ∃ Q, Q = MQ below (gQi D base r u) ([.ref (Z.2.2.1 si), .int p1, .int p2] : List Value).toArray s 0 0 (gF base) := ⟨_, rfl⟩
  rw [← hQ]
  change W p l e (gRm 3 0 0) s m _ below meth c _ _ _ _ _ _
  unfold f_J0_indexOf_7cf53 at hf
  refine lv_aload_n hx hb dJ0_indexOf_7cf53_0 rfl (lv_at hl 0 rfl) ?_
  have hc1 : (f_J0_isLatin1_aae02 si) = some (1 : Int32) := rfl
  refine g_doI0 hG (g_runV C0 hG (k_J0_isLatin1_aae02 l D base Z u si (1 : Int32) hs hc1) m_J0_isLatin1_aae02 v_J0_isLatin1_aae02 w_486 (by decide) (g_recvS C0 hG hs) rfl hl.1 rfl (Nat.le_of_ble_eq_true rfl) dJ0_indexOf_7cf53_1 ⟨Nat.zero_le _, Nat.zero_le _⟩) (fun H locs hG hk => ?_)
  refine lv_if_eq (tgt := 23) hx hb dJ0_indexOf_7cf53_4 (by decide) (fun c => absurd c (by decide)) (fun _ => ?_)
  refine lv_aload_n hx hb dJ0_indexOf_7cf53_7 rfl (lv_at hl 0 rfl) ?_
  refine g_sVa C0 hG hs w_1453 dJ0_indexOf_7cf53_8 ?_
  refine lv_iload_n hx hb dJ0_indexOf_7cf53_11 rfl (lv_at hl 1 rfl) ?_
  refine lv_iload_n hx hb dJ0_indexOf_7cf53_12 rfl (lv_at hl 2 rfl) ?_
  refine lv_aload_n hx hb dJ0_indexOf_7cf53_13 rfl (lv_at hl 0 rfl) ?_
  obtain ⟨r2, hc2, hf⟩ := pb_s hf
  refine g_doI0 hG (g_runV C0 hG (k_J0_length_8abf5 l D base Z u si r2 hs hc2) m_J0_length_8abf5 v_J0_length_8abf5 w_564 (by decide) (g_recvS C0 hG hs) rfl hl.1 rfl (Nat.le_of_ble_eq_true rfl) dJ0_indexOf_7cf53_14 ⟨Nat.zero_le _, Nat.zero_le _⟩) (fun H locs hG hk => ?_)
  obtain ⟨r3, hc3, hf⟩ := pb_s hf
  refine g_doI0 hG (g_runS C0 hG (k_J1_indexOf_4cfef l D base Z u si p1 p2 r2 r3 hs hc3) m_J1_indexOf_4cfef s_J1_indexOf_4cfef w_565 (by decide) rfl hl.1 rfl (Nat.le_of_ble_eq_true rfl) dJ0_indexOf_7cf53_17 ⟨Nat.zero_le _, Nat.zero_le _⟩) (fun H locs hG hk => ?_)
  refine lv_goto (tgt := 36) hx hb dJ0_indexOf_7cf53_20 (by decide) ?_
  have hf := Option.some.inj hf
  subst hf
  subst hQ
  exact g_iret C0 hG hr dJ0_indexOf_7cf53_36
theorem dJ0_indexOf_0f7a4_0 : decode cJ0_indexOf_0f7a4 0 = .ok (.aload_n 0, 1) := by decide +kernel
theorem dJ0_indexOf_0f7a4_1 : decode cJ0_indexOf_0f7a4 1 = .ok (.iload_n 1, 1) := by decide +kernel
theorem dJ0_indexOf_0f7a4_2 : decode cJ0_indexOf_0f7a4 2 = .ok (.iconst 0, 1) := by decide +kernel
theorem dJ0_indexOf_0f7a4_3 : decode cJ0_indexOf_0f7a4 3 = .ok (.invokevirtual 633, 3) := by decide +kernel
theorem dJ0_indexOf_0f7a4_6 : decode cJ0_indexOf_0f7a4 6 = .ok (.ireturn, 1) := by decide +kernel
def f_J0_indexOf_0f7a4 (si : Nat) (p1 : Int32) : Option (Int32) := Option.bind (f_J0_indexOf_7cf53 si p1 (0 : Int32)) (fun r1 => some r1)
set_option maxHeartbeats 4000000 in
set_option maxRecDepth 100000 in
theorem k_J0_indexOf_0f7a4 (l : Launch) (D : gDt) (base : Nat) (Z : gZt) (u : Mem) (si : Nat) (p1 : Int32) (r : Int32) (hs : si < 4) (hf : f_J0_indexOf_0f7a4 si p1 = some r) : Met l yJ0_indexOf_0f7a4 (gws yJ0_indexOf_0f7a4 cJ0_indexOf_0f7a4 2 (some .int)) (gRm 4 0 0) (gPc D base Z u [.ref (Z.2.2.1 si), .int p1]) (gQi D base r u) 0 0 (gF base) := by
  refine Met.ofW (cc := cJ0_indexOf_0f7a4) (maxL := 2) (ret := some .int) (by decide) rfl ?_
  intro p e s m args below meth c s₁ B hml hv
  obtain ⟨rfl, C0, hG⟩ := g_enter B hml hv
  have hr := B.returns
  have C0 : gC p s m meth c _ cJ0_indexOf_0f7a4 2 RJ0 D base Z := C0
  have hx := C0.1
  have hb := C0.2.1
  have hl := lv_entry ([.ref (Z.2.2.1 si), .int p1]) (n := 2) (Nat.le_of_ble_eq_true rfl)
  rw [lg_entry_eq]
  generalize (lg_sl ([.ref (Z.2.2.1 si), .int p1]) ++ List.replicate (2 - (lg_sl ([.ref (Z.2.2.1 si), .int p1])).length) Slot.unset).toArray = ls at hl ⊢
  have hl : lv_has ls 2 [(0, .ref (Z.2.2.1 si)), (1, .int p1)] := hl
  obtain ⟨Q, hQ⟩ : ∃ Q, Q = MQ below (gQi D base r u) ([.ref (Z.2.2.1 si), .int p1] : List Value).toArray s 0 0 (gF base) := ⟨_, rfl⟩
  rw [← hQ]
  change W p l e (gRm 4 0 0) s m _ below meth c _ _ _ _ _ _
  unfold f_J0_indexOf_0f7a4 at hf
  refine lv_aload_n hx hb dJ0_indexOf_0f7a4_0 rfl (lv_at hl 0 rfl) ?_
  refine lv_iload_n hx hb dJ0_indexOf_0f7a4_1 rfl (lv_at hl 1 rfl) ?_
  refine lv_iconst (v := (0 : Int32)) hx hb dJ0_indexOf_0f7a4_2 (by decide) ?_
  obtain ⟨r1, hc1, hf⟩ := pb_s hf
  refine g_doI0 hG (g_runV C0 hG (k_J0_indexOf_7cf53 l D base Z u si p1 (0 : Int32) r1 hs hc1) m_J0_indexOf_7cf53 v_J0_indexOf_7cf53 w_560 (by decide) (g_recvS C0 hG hs) rfl hl.1 rfl (Nat.le_of_ble_eq_true rfl) dJ0_indexOf_0f7a4_3 ⟨Nat.zero_le _, Nat.zero_le _⟩) (fun H locs hG hk => ?_)
  have hf := Option.some.inj hf
  subst hf
  subst hQ
  exact g_iret C0 hG hr dJ0_indexOf_0f7a4_6
theorem dX3_readTest_0 : decode cX3_readTest 0 = .ok (.aload_n 0, 1) := by decide +kernel
theorem dX3_readTest_1 : decode cX3_readTest 1 = .ok (.invokevirtual 40, 3) := by decide +kernel
theorem dX3_readTest_4 : decode cX3_readTest 4 = .ok (.ifCond .ge 7, 3) := by decide +kernel
theorem dX3_readTest_7 : decode cX3_readTest 7 = .ok (.iconst (-1), 1) := by decide +kernel
theorem dX3_readTest_8 : decode cX3_readTest 8 = .ok (.goto 13, 3) := by decide +kernel
theorem dX3_readTest_11 : decode cX3_readTest 11 = .ok (.ldc 83, 2) := by decide +kernel
theorem dX3_readTest_13 : decode cX3_readTest 13 = .ok (.aload_n 0, 1) := by decide +kernel
theorem dX3_readTest_14 : decode cX3_readTest 14 = .ok (.invokevirtual 40, 3) := by decide +kernel
theorem dX3_readTest_17 : decode cX3_readTest 17 = .ok (.i2c, 1) := by decide +kernel
theorem dX3_readTest_18 : decode cX3_readTest 18 = .ok (.invokevirtual 85, 3) := by decide +kernel
theorem dX3_readTest_21 : decode cX3_readTest 21 = .ok (.istore_n 1, 1) := by decide +kernel
theorem dX3_readTest_22 : decode cX3_readTest 22 = .ok (.iload_n 1, 1) := by decide +kernel
theorem dX3_readTest_23 : decode cX3_readTest 23 = .ok (.ifCond .ge 5, 3) := by decide +kernel
theorem dX3_readTest_26 : decode cX3_readTest 26 = .ok (.iconst 0, 1) := by decide +kernel
theorem dX3_readTest_27 : decode cX3_readTest 27 = .ok (.ireturn, 1) := by decide +kernel
theorem dX3_readTest_28 : decode cX3_readTest 28 = .ok (.aload_n 0, 1) := by decide +kernel
theorem dX3_readTest_29 : decode cX3_readTest 29 = .ok (.dup, 1) := by decide +kernel
theorem dX3_readTest_30 : decode cX3_readTest 30 = .ok (.getfield 19, 3) := by decide +kernel
theorem dX3_readTest_33 : decode cX3_readTest 33 = .ok (.iconst 1, 1) := by decide +kernel
theorem dX3_readTest_34 : decode cX3_readTest 34 = .ok (.iadd, 1) := by decide +kernel
theorem dX3_readTest_35 : decode cX3_readTest 35 = .ok (.putfield 19, 3) := by decide +kernel
theorem dX3_readTest_38 : decode cX3_readTest 38 = .ok (.aload_n 0, 1) := by decide +kernel
theorem dX3_readTest_39 : decode cX3_readTest 39 = .ok (.invokevirtual 40, 3) := by decide +kernel
theorem dX3_readTest_42 : decode cX3_readTest 42 = .ok (.istore_n 2, 1) := by decide +kernel
theorem dX3_readTest_43 : decode cX3_readTest 43 = .ok (.aload_n 0, 1) := by decide +kernel
theorem dX3_readTest_44 : decode cX3_readTest 44 = .ok (.bipush 60, 2) := by decide +kernel
theorem dX3_readTest_46 : decode cX3_readTest 46 = .ok (.invokevirtual 36, 3) := by decide +kernel
theorem dX3_readTest_49 : decode cX3_readTest 49 = .ok (.ifCond .ne 23, 3) := by decide +kernel
theorem dX3_readTest_52 : decode cX3_readTest 52 = .ok (.aload_n 0, 1) := by decide +kernel
theorem dX3_readTest_53 : decode cX3_readTest 53 = .ok (.bipush 61, 2) := by decide +kernel
theorem dX3_readTest_55 : decode cX3_readTest 55 = .ok (.invokevirtual 36, 3) := by decide +kernel
theorem dX3_readTest_58 : decode cX3_readTest 58 = .ok (.ifCond .ne 14, 3) := by decide +kernel
theorem dX3_readTest_61 : decode cX3_readTest 61 = .ok (.aload_n 0, 1) := by decide +kernel
theorem dX3_readTest_62 : decode cX3_readTest 62 = .ok (.bipush 62, 2) := by decide +kernel
theorem dX3_readTest_64 : decode cX3_readTest 64 = .ok (.invokevirtual 36, 3) := by decide +kernel
theorem dX3_readTest_67 : decode cX3_readTest 67 = .ok (.ifCond .ne 5, 3) := by decide +kernel
theorem dX3_readTest_70 : decode cX3_readTest 70 = .ok (.iconst 0, 1) := by decide +kernel
theorem dX3_readTest_71 : decode cX3_readTest 71 = .ok (.ireturn, 1) := by decide +kernel
theorem dX3_readTest_72 : decode cX3_readTest 72 = .ok (.aload_n 0, 1) := by decide +kernel
theorem dX3_readTest_73 : decode cX3_readTest 73 = .ok (.invokevirtual 61, 3) := by decide +kernel
theorem dX3_readTest_76 : decode cX3_readTest 76 = .ok (.istore_n 3, 1) := by decide +kernel
theorem dX3_readTest_77 : decode cX3_readTest 77 = .ok (.iload_n 3, 1) := by decide +kernel
theorem dX3_readTest_78 : decode cX3_readTest 78 = .ok (.ifCond .ge 5, 3) := by decide +kernel
theorem dX3_readTest_81 : decode cX3_readTest 81 = .ok (.iconst 0, 1) := by decide +kernel
theorem dX3_readTest_82 : decode cX3_readTest 82 = .ok (.ireturn, 1) := by decide +kernel
theorem dX3_readTest_83 : decode cX3_readTest 83 = .ok (.aload_n 0, 1) := by decide +kernel
theorem dX3_readTest_84 : decode cX3_readTest 84 = .ok (.getfield 25, 3) := by decide +kernel
theorem dX3_readTest_87 : decode cX3_readTest 87 = .ok (.iload_n 1, 1) := by decide +kernel
theorem dX3_readTest_88 : decode cX3_readTest 88 = .ok (.iload_n 2, 1) := by decide +kernel
theorem dX3_readTest_89 : decode cX3_readTest 89 = .ok (.iload_n 3, 1) := by decide +kernel
theorem dX3_readTest_90 : decode cX3_readTest 90 = .ok (.invokevirtual 70, 3) := by decide +kernel
theorem dX3_readTest_93 : decode cX3_readTest 93 = .ok (.iconst 1, 1) := by decide +kernel
theorem dX3_readTest_94 : decode cX3_readTest 94 = .ok (.ireturn, 1) := by decide +kernel
def f_X3_readTest (u : Mem) : Option (Int32 × Mem) := Option.bind (f_X3_next u) (fun r1 => (if 0 ≤ r1 then Option.bind (f_X3_next u) (fun r3 => Option.bind (f_J0_indexOf_0f7a4 3 ((r3.toUInt32 % 65536).toInt32)) (fun r4 => (if 0 ≤ r4 then Option.bind (f_X3_next (sI u 63 2 ((gI u 63 2) + (1 : Int32)))) (fun r6 => obind (f_X3_skip (60 : Int32) (sI u 63 2 ((gI u 63 2) + (1 : Int32)))) (fun r7 u7 => (if r7 = 0 then obind (f_X3_skip (61 : Int32) u7) (fun r13 u13 => (if r13 = 0 then obind (f_X3_skip (62 : Int32) u13) (fun r19 u19 => (if r19 = 0 then some ((0 : Int32), u19) else obind (f_X3_readNumber u19) (fun r21 u21 => (if 0 ≤ r21 then gob u21.1 (gR u21 63 3) l0 (obind (f_X0_add (gR u21 63 3) r4 r6 r21 u21) (fun _ u24 => some ((1 : Int32), u24))) else some ((0 : Int32), u21))))) else obind (f_X3_readNumber u13) (fun r15 u15 => (if 0 ≤ r15 then gob u15.1 (gR u15 63 3) l0 (obind (f_X0_add (gR u15 63 3) r4 r6 r15 u15) (fun _ u18 => some ((1 : Int32), u18))) else some ((0 : Int32), u15))))) else obind (f_X3_readNumber u7) (fun r9 u9 => (if 0 ≤ r9 then gob u9.1 (gR u9 63 3) l0 (obind (f_X0_add (gR u9 63 3) r4 r6 r9 u9) (fun _ u12 => some ((1 : Int32), u12))) else some ((0 : Int32), u9)))))) else some ((0 : Int32), u)))) else some ((0 : Int32), u)))
set_option maxHeartbeats 4000000 in
set_option maxRecDepth 100000 in
theorem k_X3_readTest (l : Launch) (D : gDt) (base : Nat) (Z : gZt) (u : Mem) (r : Int32) (u' : Mem) (hf : f_X3_readTest u = some (r, u')) : Met l yX3_readTest (gws yX3_readTest cX3_readTest 4 (some .boolean)) (gRm 5 0 0) (gPc D base Z u [.ref (base + 63)]) (gQi D base r u') 0 0 (gF base) := by
  refine Met.ofW (cc := cX3_readTest) (maxL := 4) (ret := some .boolean) (by decide) rfl ?_
  intro p e s m args below meth c s₁ B hml hv
  obtain ⟨rfl, C0, hG⟩ := g_enter B hml hv
  have hr := B.returns
  have C0 : gC p s m meth c _ cX3_readTest 4 RX3 D base Z := C0
  have hx := C0.1
  have hb := C0.2.1
  have hl := lv_entry ([.ref (base + 63)]) (n := 4) (Nat.le_of_ble_eq_true rfl)
  rw [lg_entry_eq]
  generalize (lg_sl ([.ref (base + 63)]) ++ List.replicate (4 - (lg_sl ([.ref (base + 63)])).length) Slot.unset).toArray = ls at hl ⊢
  have hl : lv_has ls 4 [(0, .ref (base + 63))] := hl
  obtain ⟨Q, hQ⟩ : ∃ Q, Q = MQ below (gQi D base r u') ([.ref (base + 63)] : List Value).toArray s 0 0 (gF base) := ⟨_, rfl⟩
  rw [← hQ]
  change W p l e (gRm 5 0 0) s m _ below meth c _ _ _ _ _ _
  unfold f_X3_readTest at hf
  refine lv_aload_n hx hb dX3_readTest_0 rfl (lv_at hl 0 rfl) ?_
  obtain ⟨r1, hc1, hf⟩ := pb_s hf
  refine g_doI0 hG (g_runV C0 hG (k_X3_next l D base Z u r1 hc1) m_X3_next v_X3_next w_463 (by decide) (g_recv C0 hG (L63 hG) rfl) rfl hl.1 rfl (Nat.le_of_ble_eq_true rfl) dX3_readTest_1 ⟨Nat.zero_le _, Nat.zero_le _⟩) (fun H locs hG hk => ?_)
  refine lv_if_ge (tgt := 11) hx hb dX3_readTest_4 (by decide) (fun c2 => ?_) (fun c2 => ?_)
  · have hf := gif_t c2 hf
    refine g_ldcS (i := 3) C0 rfl (by decide) rfl dX3_readTest_11 ?_
    refine lv_aload_n hx hb dX3_readTest_13 rfl (lv_at hl 0 rfl) ?_
    obtain ⟨r3, hc3, hf⟩ := pb_s hf
    refine g_doI0 hG (g_runV C0 hG (k_X3_next l D base Z u r3 hc3) m_X3_next v_X3_next w_463 (by decide) (g_recv C0 hG (L63 hG) rfl) rfl hl.1 rfl (Nat.le_of_ble_eq_true rfl) dX3_readTest_14 ⟨Nat.zero_le _, Nat.zero_le _⟩) (fun H locs hG hk => ?_)
    refine lv_i2c (v := (r3.toUInt32 % 65536).toInt32) hx hb dX3_readTest_17 rfl ?_
    obtain ⟨r4, hc4, hf⟩ := pb_s hf
    refine g_doI0 hG (g_runV C0 hG (k_J0_indexOf_0f7a4 l D base Z u 3 ((r3.toUInt32 % 65536).toInt32) r4 (by decide) hc4) m_J0_indexOf_0f7a4 v_J0_indexOf_0f7a4 w_556 (by decide) (g_recvS C0 hG (by decide)) rfl hl.1 rfl (Nat.le_of_ble_eq_true rfl) dX3_readTest_18 ⟨Nat.zero_le _, Nat.zero_le _⟩) (fun H locs hG hk => ?_)
    refine lv_istore_n (lv' := [(1, .int r4), (0, .ref (base + 63))]) hx hb dX3_readTest_21 rfl hl (by decide) rfl (fun ls hl => ?_)
    refine lv_iload_n hx hb dX3_readTest_22 rfl (lv_at hl 0 rfl) ?_
    refine lv_if_ge (tgt := 28) hx hb dX3_readTest_23 (by decide) (fun c5 => ?_) (fun c5 => ?_)
    · have hf := gif_t c5 hf
      refine lv_aload_n hx hb dX3_readTest_28 rfl (lv_at hl 1 rfl) ?_
      refine lv_dup hx hb dX3_readTest_29 rfl ?_
      refine g_getI C0 hG (L63 hG) rfl 2 (by decide) rfl w_269 dX3_readTest_30 ?_
      refine lv_iconst (v := (1 : Int32)) hx hb dX3_readTest_33 (by decide) ?_
      refine lv_iadd hx hb dX3_readTest_34 ?_
      refine g_putI (ty := .int) C0 hG (L63 hG) rfl 2 (by decide) rfl w_269 rfl (by decide) rfl rfl dX3_readTest_35 (fun H locs hG => ?_)
      refine lv_aload_n hx hb dX3_readTest_38 rfl (lv_at hl 1 rfl) ?_
      obtain ⟨r6, hc6, hf⟩ := pb_s hf
      refine g_doI0 hG (g_runV C0 hG (k_X3_next l D base Z (sI u 63 2 ((gI u 63 2) + (1 : Int32))) r6 hc6) m_X3_next v_X3_next w_463 (by decide) (g_recv C0 hG (L63 hG) rfl) rfl hl.1 rfl (Nat.le_of_ble_eq_true rfl) dX3_readTest_39 ⟨Nat.zero_le _, Nat.zero_le _⟩) (fun H locs hG hk => ?_)
      refine lv_istore_n (lv' := [(2, .int r6), (1, .int r4), (0, .ref (base + 63))]) hx hb dX3_readTest_42 rfl hl (by decide) rfl (fun ls hl => ?_)
      refine lv_aload_n hx hb dX3_readTest_43 rfl (lv_at hl 2 rfl) ?_
      refine lv_bipush (v := (60 : Int32)) hx hb dX3_readTest_44 (by decide) ?_
      obtain ⟨r7, u7, hc7, hf⟩ := obind_s hf
      refine g_doI0 hG (g_runV C0 hG (k_X3_skip l D base Z (sI u 63 2 ((gI u 63 2) + (1 : Int32))) (60 : Int32) r7 u7 hc7) m_X3_skip v_X3_skip w_520 (by decide) (g_recv C0 hG (L63 hG) rfl) rfl hl.1 rfl (Nat.le_of_ble_eq_true rfl) dX3_readTest_46 ⟨Nat.zero_le _, Nat.zero_le _⟩) (fun H locs hG hk => ?_)
      refine lv_if_ne (tgt := 72) hx hb dX3_readTest_49 (by decide) (fun c8 => ?_) (fun c8 => ?_)
      · have hf := gif_f c8 hf
        refine lv_aload_n hx hb dX3_readTest_72 rfl (lv_at hl 2 rfl) ?_
        obtain ⟨r9, u9, hc9, hf⟩ := obind_s hf
        refine g_doI0 hG (g_runV C0 hG (k_X3_readNumber l D base Z u7 r9 u9 hc9) m_X3_readNumber v_X3_readNumber w_528 (by decide) (g_recv C0 hG (L63 hG) rfl) rfl hl.1 rfl (Nat.le_of_ble_eq_true rfl) dX3_readTest_73 ⟨Nat.zero_le _, Nat.zero_le _⟩) (fun H locs hG hk => ?_)
        refine lv_istore_n (lv' := [(3, .int r9), (2, .int r6), (1, .int r4), (0, .ref (base + 63))]) hx hb dX3_readTest_76 rfl hl (by decide) rfl (fun ls hl => ?_)
        refine lv_iload_n hx hb dX3_readTest_77 rfl (lv_at hl 0 rfl) ?_
        refine lv_if_ge (tgt := 83) hx hb dX3_readTest_78 (by decide) (fun c10 => ?_) (fun c10 => ?_)
        · have hf := gif_t c10 hf
          refine lv_aload_n hx hb dX3_readTest_83 rfl (lv_at hl 3 rfl) ?_
          refine g_getD C0 hG (L63 hG) rfl 3 (by decide) rfl w_271 dX3_readTest_84 ?_
          refine lv_iload_n hx hb dX3_readTest_87 rfl (lv_at hl 2 rfl) ?_
          refine lv_iload_n hx hb dX3_readTest_88 rfl (lv_at hl 1 rfl) ?_
          refine lv_iload_n hx hb dX3_readTest_89 rfl (lv_at hl 0 rfl) ?_
          obtain ⟨ho11, hf⟩ := gob_s hf
          have hb11 := Nat.le_refl u9.1
          obtain ⟨_, u12, hc12, hf⟩ := obind_s hf
          refine g_doV0 hG (g_runVN C0 hG (k_X0_add l D base Z u9 (gR u9 63 3) r4 r6 r9 u12 (gok.mono ho11 hb11) hc12) m_X0_add v_X0_add w_547 (by decide) (g_recv C0 hG (D0_0 ho11 hb11) rfl) rfl hl.1 rfl (Nat.le_of_ble_eq_true rfl) dX3_readTest_90 ⟨Nat.zero_le _, Nat.zero_le _⟩) (fun H locs hG hk => ?_)
          have hb11 := Nat.le_trans hb11 hk
          refine lv_iconst (v := (1 : Int32)) hx hb dX3_readTest_93 (by decide) ?_
          obtain ⟨hr1, hu⟩ := gret_s hf
          subst hr1
          subst hu
          subst hQ
          exact g_zret C0 hG hr (by decide) dX3_readTest_94
        · have hf := gif_f c10 hf
          refine lv_iconst (v := (0 : Int32)) hx hb dX3_readTest_81 (by decide) ?_
          obtain ⟨hr1, hu⟩ := gret_s hf
          subst hr1
          subst hu
          subst hQ
          exact g_zret C0 hG hr (by decide) dX3_readTest_82
      · have hf := gif_t c8 hf
        refine lv_aload_n hx hb dX3_readTest_52 rfl (lv_at hl 2 rfl) ?_
        refine lv_bipush (v := (61 : Int32)) hx hb dX3_readTest_53 (by decide) ?_
        obtain ⟨r13, u13, hc13, hf⟩ := obind_s hf
        refine g_doI0 hG (g_runV C0 hG (k_X3_skip l D base Z u7 (61 : Int32) r13 u13 hc13) m_X3_skip v_X3_skip w_520 (by decide) (g_recv C0 hG (L63 hG) rfl) rfl hl.1 rfl (Nat.le_of_ble_eq_true rfl) dX3_readTest_55 ⟨Nat.zero_le _, Nat.zero_le _⟩) (fun H locs hG hk => ?_)
        refine lv_if_ne (tgt := 72) hx hb dX3_readTest_58 (by decide) (fun c14 => ?_) (fun c14 => ?_)
        · have hf := gif_f c14 hf
          refine lv_aload_n hx hb dX3_readTest_72 rfl (lv_at hl 2 rfl) ?_
          obtain ⟨r15, u15, hc15, hf⟩ := obind_s hf
          refine g_doI0 hG (g_runV C0 hG (k_X3_readNumber l D base Z u13 r15 u15 hc15) m_X3_readNumber v_X3_readNumber w_528 (by decide) (g_recv C0 hG (L63 hG) rfl) rfl hl.1 rfl (Nat.le_of_ble_eq_true rfl) dX3_readTest_73 ⟨Nat.zero_le _, Nat.zero_le _⟩) (fun H locs hG hk => ?_)
          refine lv_istore_n (lv' := [(3, .int r15), (2, .int r6), (1, .int r4), (0, .ref (base + 63))]) hx hb dX3_readTest_76 rfl hl (by decide) rfl (fun ls hl => ?_)
          refine lv_iload_n hx hb dX3_readTest_77 rfl (lv_at hl 0 rfl) ?_
          refine lv_if_ge (tgt := 83) hx hb dX3_readTest_78 (by decide) (fun c16 => ?_) (fun c16 => ?_)
          · have hf := gif_t c16 hf
            refine lv_aload_n hx hb dX3_readTest_83 rfl (lv_at hl 3 rfl) ?_
            refine g_getD C0 hG (L63 hG) rfl 3 (by decide) rfl w_271 dX3_readTest_84 ?_
            refine lv_iload_n hx hb dX3_readTest_87 rfl (lv_at hl 2 rfl) ?_
            refine lv_iload_n hx hb dX3_readTest_88 rfl (lv_at hl 1 rfl) ?_
            refine lv_iload_n hx hb dX3_readTest_89 rfl (lv_at hl 0 rfl) ?_
            obtain ⟨ho17, hf⟩ := gob_s hf
            have hb17 := Nat.le_refl u15.1
            obtain ⟨_, u18, hc18, hf⟩ := obind_s hf
            refine g_doV0 hG (g_runVN C0 hG (k_X0_add l D base Z u15 (gR u15 63 3) r4 r6 r15 u18 (gok.mono ho17 hb17) hc18) m_X0_add v_X0_add w_547 (by decide) (g_recv C0 hG (D0_0 ho17 hb17) rfl) rfl hl.1 rfl (Nat.le_of_ble_eq_true rfl) dX3_readTest_90 ⟨Nat.zero_le _, Nat.zero_le _⟩) (fun H locs hG hk => ?_)
            have hb17 := Nat.le_trans hb17 hk
            refine lv_iconst (v := (1 : Int32)) hx hb dX3_readTest_93 (by decide) ?_
            obtain ⟨hr1, hu⟩ := gret_s hf
            subst hr1
            subst hu
            subst hQ
            exact g_zret C0 hG hr (by decide) dX3_readTest_94
          · have hf := gif_f c16 hf
            refine lv_iconst (v := (0 : Int32)) hx hb dX3_readTest_81 (by decide) ?_
            obtain ⟨hr1, hu⟩ := gret_s hf
            subst hr1
            subst hu
            subst hQ
            exact g_zret C0 hG hr (by decide) dX3_readTest_82
        · have hf := gif_t c14 hf
          refine lv_aload_n hx hb dX3_readTest_61 rfl (lv_at hl 2 rfl) ?_
          refine lv_bipush (v := (62 : Int32)) hx hb dX3_readTest_62 (by decide) ?_
          obtain ⟨r19, u19, hc19, hf⟩ := obind_s hf
          refine g_doI0 hG (g_runV C0 hG (k_X3_skip l D base Z u13 (62 : Int32) r19 u19 hc19) m_X3_skip v_X3_skip w_520 (by decide) (g_recv C0 hG (L63 hG) rfl) rfl hl.1 rfl (Nat.le_of_ble_eq_true rfl) dX3_readTest_64 ⟨Nat.zero_le _, Nat.zero_le _⟩) (fun H locs hG hk => ?_)
          refine lv_if_ne (tgt := 72) hx hb dX3_readTest_67 (by decide) (fun c20 => ?_) (fun c20 => ?_)
          · have hf := gif_f c20 hf
            refine lv_aload_n hx hb dX3_readTest_72 rfl (lv_at hl 2 rfl) ?_
            obtain ⟨r21, u21, hc21, hf⟩ := obind_s hf
            refine g_doI0 hG (g_runV C0 hG (k_X3_readNumber l D base Z u19 r21 u21 hc21) m_X3_readNumber v_X3_readNumber w_528 (by decide) (g_recv C0 hG (L63 hG) rfl) rfl hl.1 rfl (Nat.le_of_ble_eq_true rfl) dX3_readTest_73 ⟨Nat.zero_le _, Nat.zero_le _⟩) (fun H locs hG hk => ?_)
            refine lv_istore_n (lv' := [(3, .int r21), (2, .int r6), (1, .int r4), (0, .ref (base + 63))]) hx hb dX3_readTest_76 rfl hl (by decide) rfl (fun ls hl => ?_)
            refine lv_iload_n hx hb dX3_readTest_77 rfl (lv_at hl 0 rfl) ?_
            refine lv_if_ge (tgt := 83) hx hb dX3_readTest_78 (by decide) (fun c22 => ?_) (fun c22 => ?_)
            · have hf := gif_t c22 hf
              refine lv_aload_n hx hb dX3_readTest_83 rfl (lv_at hl 3 rfl) ?_
              refine g_getD C0 hG (L63 hG) rfl 3 (by decide) rfl w_271 dX3_readTest_84 ?_
              refine lv_iload_n hx hb dX3_readTest_87 rfl (lv_at hl 2 rfl) ?_
              refine lv_iload_n hx hb dX3_readTest_88 rfl (lv_at hl 1 rfl) ?_
              refine lv_iload_n hx hb dX3_readTest_89 rfl (lv_at hl 0 rfl) ?_
              obtain ⟨ho23, hf⟩ := gob_s hf
              have hb23 := Nat.le_refl u21.1
              obtain ⟨_, u24, hc24, hf⟩ := obind_s hf
              refine g_doV0 hG (g_runVN C0 hG (k_X0_add l D base Z u21 (gR u21 63 3) r4 r6 r21 u24 (gok.mono ho23 hb23) hc24) m_X0_add v_X0_add w_547 (by decide) (g_recv C0 hG (D0_0 ho23 hb23) rfl) rfl hl.1 rfl (Nat.le_of_ble_eq_true rfl) dX3_readTest_90 ⟨Nat.zero_le _, Nat.zero_le _⟩) (fun H locs hG hk => ?_)
              have hb23 := Nat.le_trans hb23 hk
              refine lv_iconst (v := (1 : Int32)) hx hb dX3_readTest_93 (by decide) ?_
              obtain ⟨hr1, hu⟩ := gret_s hf
              subst hr1
              subst hu
              subst hQ
              exact g_zret C0 hG hr (by decide) dX3_readTest_94
            · have hf := gif_f c22 hf
              refine lv_iconst (v := (0 : Int32)) hx hb dX3_readTest_81 (by decide) ?_
              obtain ⟨hr1, hu⟩ := gret_s hf
              subst hr1
              subst hu
              subst hQ
              exact g_zret C0 hG hr (by decide) dX3_readTest_82
          · have hf := gif_t c20 hf
            refine lv_iconst (v := (0 : Int32)) hx hb dX3_readTest_70 (by decide) ?_
            obtain ⟨hr1, hu⟩ := gret_s hf
            subst hr1
            subst hu
            subst hQ
            exact g_zret C0 hG hr (by decide) dX3_readTest_71
    · have hf := gif_f c5 hf
      refine lv_iconst (v := (0 : Int32)) hx hb dX3_readTest_26 (by decide) ?_
      obtain ⟨hr1, hu⟩ := gret_s hf
      subst hr1
      subst hu
      subst hQ
      exact g_zret C0 hG hr (by decide) dX3_readTest_27
  · have hf := gif_f c2 hf
    refine lv_iconst (v := (-1 : Int32)) hx hb dX3_readTest_7 (by decide) ?_
    refine lv_goto (tgt := 21) hx hb dX3_readTest_8 (by decide) ?_
    refine lv_istore_n (lv' := [(1, .int (-1 : Int32)), (0, .ref (base + 63))]) hx hb dX3_readTest_21 rfl hl (by decide) rfl (fun ls hl => ?_)
    refine lv_iload_n hx hb dX3_readTest_22 rfl (lv_at hl 0 rfl) ?_
    refine lv_if_ge (tgt := 28) hx hb dX3_readTest_23 (by decide) (fun c => absurd c (by decide)) (fun _ => ?_)
    refine lv_iconst (v := (0 : Int32)) hx hb dX3_readTest_26 (by decide) ?_
    obtain ⟨hr1, hu⟩ := gret_s hf
    subst hr1
    subst hu
    subst hQ
    exact g_zret C0 hG hr (by decide) dX3_readTest_27
