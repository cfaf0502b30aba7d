theorem dX6_board_0 : decode cX6_board 0 = .ok (.aload_n 0, 1) := by decide +kernel
theorem dX6_board_1 : decode cX6_board 1 = .ok (.getfield 40, 3) := by decide +kernel
theorem dX6_board_4 : decode cX6_board 4 = .ok (.istore 5, 2) := by decide +kernel
theorem dX6_board_6 : decode cX6_board 6 = .ok (.iload 5, 2) := by decide +kernel
theorem dX6_board_8 : decode cX6_board 8 = .ok (.bipush 6, 2) := by decide +kernel
theorem dX6_board_10 : decode cX6_board 10 = .ok (.if_icmp .lt 6, 3) := by decide +kernel
theorem dX6_board_13 : decode cX6_board 13 = .ok (.bipush (-4), 2) := by decide +kernel
theorem dX6_board_15 : decode cX6_board 15 = .ok (.ireturn, 1) := by decide +kernel
theorem dX6_board_16 : decode cX6_board 16 = .ok (.aload_n 0, 1) := by decide +kernel
theorem dX6_board_17 : decode cX6_board 17 = .ok (.getfield 18, 3) := by decide +kernel
theorem dX6_board_20 : decode cX6_board 20 = .ok (.iload 5, 2) := by decide +kernel
theorem dX6_board_22 : decode cX6_board 22 = .ok (.iload_n 1, 1) := by decide +kernel
theorem dX6_board_23 : decode cX6_board 23 = .ok (.iastore, 1) := by decide +kernel
theorem dX6_board_24 : decode cX6_board 24 = .ok (.aload_n 0, 1) := by decide +kernel
theorem dX6_board_25 : decode cX6_board 25 = .ok (.getfield 21, 3) := by decide +kernel
theorem dX6_board_28 : decode cX6_board 28 = .ok (.iload 5, 2) := by decide +kernel
theorem dX6_board_30 : decode cX6_board 30 = .ok (.iload_n 2, 1) := by decide +kernel
theorem dX6_board_31 : decode cX6_board 31 = .ok (.iastore, 1) := by decide +kernel
theorem dX6_board_32 : decode cX6_board 32 = .ok (.aload_n 0, 1) := by decide +kernel
theorem dX6_board_33 : decode cX6_board 33 = .ok (.getfield 24, 3) := by decide +kernel
theorem dX6_board_36 : decode cX6_board 36 = .ok (.iload 5, 2) := by decide +kernel
theorem dX6_board_38 : decode cX6_board 38 = .ok (.iload_n 3, 1) := by decide +kernel
theorem dX6_board_39 : decode cX6_board 39 = .ok (.iastore, 1) := by decide +kernel
theorem dX6_board_40 : decode cX6_board 40 = .ok (.aload_n 0, 1) := by decide +kernel
theorem dX6_board_41 : decode cX6_board 41 = .ok (.getfield 27, 3) := by decide +kernel
theorem dX6_board_44 : decode cX6_board 44 = .ok (.iload 5, 2) := by decide +kernel
theorem dX6_board_46 : decode cX6_board 46 = .ok (.iload 4, 2) := by decide +kernel
theorem dX6_board_48 : decode cX6_board 48 = .ok (.iastore, 1) := by decide +kernel
theorem dX6_board_49 : decode cX6_board 49 = .ok (.aload_n 0, 1) := by decide +kernel
theorem dX6_board_50 : decode cX6_board 50 = .ok (.dup, 1) := by decide +kernel
theorem dX6_board_51 : decode cX6_board 51 = .ok (.getfield 40, 3) := by decide +kernel
theorem dX6_board_54 : decode cX6_board 54 = .ok (.iconst 1, 1) := by decide +kernel
theorem dX6_board_55 : decode cX6_board 55 = .ok (.iadd, 1) := by decide +kernel
theorem dX6_board_56 : decode cX6_board 56 = .ok (.putfield 40, 3) := by decide +kernel
theorem dX6_board_59 : decode cX6_board 59 = .ok (.iload 5, 2) := by decide +kernel
theorem dX6_board_61 : decode cX6_board 61 = .ok (.ireturn, 1) := by decide +kernel
def f_X6_board (t : Nat) (p1 : Int32) (p2 : Int32) (p3 : Int32) (p4 : Int32) (u : Mem) : Option (Int32 × Mem) := (if (gI u t 9) < (6 : Int32) then gin (gI u t 9) 6 (gin (gI u t 9) 6 (gin (gI u t 9) 6 (gin (gI u t 9) 6 (some (gI u t 9, sI (sA (sA (sA (sA u (t + 3) (gI u t 9).toNatClampNeg p1) (t + 4) (gI u t 9).toNatClampNeg p2) (t + 5) (gI u t 9).toNatClampNeg p3) (t + 6) (gI u t 9).toNatClampNeg p4) t 9 ((gI (sA (sA (sA (sA u (t + 3) (gI u t 9).toNatClampNeg p1) (t + 4) (gI u t 9).toNatClampNeg p2) (t + 5) (gI u t 9).toNatClampNeg p3) (t + 6) (gI u t 9).toNatClampNeg p4) t 9) + (1 : Int32))))))) else some ((-4 : Int32), u))
set_option maxHeartbeats 4000000 in
set_option maxRecDepth 100000 in
theorem k_X6_board (l : Launch) (D : gDt) (base : Nat) (Z : gZt) (u : Mem) (t : Nat) (p1 : Int32) (p2 : Int32) (p3 : Int32) (p4 : Int32) (r : Int32) (u' : Mem) (ho : gok 129 t l6) (hf : f_X6_board t p1 p2 p3 p4 u = some (r, u')) : Met l yX6_board (gws yX6_board cX6_board 6 (some .int)) (gRm 1 0 0) (gPc D base Z u [.ref (base + t), .int p1, .int p2, .int p3, .int p4]) (gQi D base r u') 0 0 (gF base) := by
  refine Met.ofW (cc := cX6_board) (maxL := 6) (ret := some .int) (by decide) rfl ?_
  intro p e s m args below meth c s₁ B hml hv
  obtain ⟨rfl, C0, hG⟩ := g_enter B hml hv
  have hr := B.returns
  have C0 : gC p s m meth c _ cX6_board 6 RX6 D base Z := C0
  have hx := C0.1
  have hb := C0.2.1
  have hl := lv_entry ([.ref (base + t), .int p1, .int p2, .int p3, .int p4]) (n := 6) (Nat.le_of_ble_eq_true rfl)
  rw [lg_entry_eq]
  generalize (lg_sl ([.ref (base + t), .int p1, .int p2, .int p3, .int p4]) ++ List.replicate (6 - (lg_sl ([.ref (base + t), .int p1, .int p2, .int p3, .int p4])).length) Slot.unset).toArray = ls at hl ⊢
  have hl : lv_has ls 6 [(0, .ref (base + t)), (1, .int p1), (2, .int p2), (3, .int p3), (4, .int p4)] := hl
  obtain ⟨Q, hQ⟩ : ∃ Q, Q = MQ below (gQi D base r u') ([.ref (base + t), .int p1, .int p2, .int p3, .int p4] : List Value).toArray s 0 0 (gF base) := ⟨_, rfl⟩
  rw [← hQ]
  change W p l e (gRm 1 0 0) s m _ below meth c _ _ _ _ _ _
  unfold f_X6_board at hf
  refine lv_aload_n hx hb dX6_board_0 rfl (lv_at hl 0 rfl) ?_
  refine g_getI C0 hG (T6_0 hG ho) rfl 9 (by decide) rfl w_171 dX6_board_1 ?_
  refine lv_istore (lv' := [(5, .int (gI u t 9)), (0, .ref (base + t)), (1, .int p1), (2, .int p2), (3, .int p3), (4, .int p4)]) hx hb dX6_board_4 hl (by decide) rfl (fun ls hl => ?_)
  refine lv_iload hx hb dX6_board_6 (lv_at hl 0 rfl) ?_
  refine lv_bipush (v := (6 : Int32)) hx hb dX6_board_8 (by decide) ?_
  refine lv_icmp_lt (tgt := 16) hx hb dX6_board_10 (by decide) (fun c1 => ?_) (fun c1 => ?_)
  · have hf := gif_t c1 hf
    refine lv_aload_n hx hb dX6_board_16 rfl (lv_at hl 1 rfl) ?_
    refine g_getSa (o := 3) (a := (t + 3)) C0 hG (T6_0 hG ho) rfl 2 (by decide) rfl rfl w_158 dX6_board_17 ?_
    refine lv_iload hx hb dX6_board_20 (lv_at hl 0 rfl) ?_
    refine lv_iload_n hx hb dX6_board_22 rfl (lv_at hl 2 rfl) ?_
    obtain ⟨h2, hf⟩ := gin_s hf
    refine g_iast C0 hG (T6_3 hG ho) h2 dX6_board_23 (fun H locs hG => ?_)
    refine lv_aload_n hx hb dX6_board_24 rfl (lv_at hl 1 rfl) ?_
    refine g_getSa (o := 4) (a := (t + 4)) C0 hG (T6_0 hG ho) rfl 3 (by decide) rfl rfl w_160 dX6_board_25 ?_
    refine lv_iload hx hb dX6_board_28 (lv_at hl 0 rfl) ?_
    refine lv_iload_n hx hb dX6_board_30 rfl (lv_at hl 3 rfl) ?_
    obtain ⟨h3, hf⟩ := gin_s hf
    refine g_iast C0 hG (T6_4 hG ho) h3 dX6_board_31 (fun H locs hG => ?_)
    refine lv_aload_n hx hb dX6_board_32 rfl (lv_at hl 1 rfl) ?_
    refine g_getSa (o := 5) (a := (t + 5)) C0 hG (T6_0 hG ho) rfl 4 (by decide) rfl rfl w_162 dX6_board_33 ?_
    refine lv_iload hx hb dX6_board_36 (lv_at hl 0 rfl) ?_
    refine lv_iload_n hx hb dX6_board_38 rfl (lv_at hl 4 rfl) ?_
    obtain ⟨h4, hf⟩ := gin_s hf
    refine g_iast C0 hG (T6_5 hG ho) h4 dX6_board_39 (fun H locs hG => ?_)
    refine lv_aload_n hx hb dX6_board_40 rfl (lv_at hl 1 rfl) ?_
    refine g_getSa (o := 6) (a := (t + 6)) C0 hG (T6_0 hG ho) rfl 5 (by decide) rfl rfl w_164 dX6_board_41 ?_
    refine lv_iload hx hb dX6_board_44 (lv_at hl 0 rfl) ?_
    refine lv_iload hx hb dX6_board_46 (lv_at hl 5 rfl) ?_
    obtain ⟨h5, hf⟩ := gin_s hf
    refine g_iast C0 hG (T6_6 hG ho) h5 dX6_board_48 (fun H locs hG => ?_)
    refine lv_aload_n hx hb dX6_board_49 rfl (lv_at hl 1 rfl) ?_
    refine lv_dup hx hb dX6_board_50 rfl ?_
    refine g_getI C0 hG (T6_0 hG ho) rfl 9 (by decide) rfl w_171 dX6_board_51 ?_
    refine lv_iconst (v := (1 : Int32)) hx hb dX6_board_54 (by decide) ?_
    refine lv_iadd hx hb dX6_board_55 ?_
    refine g_putI (ty := .int) C0 hG (T6_0 hG ho) rfl 9 (by decide) rfl w_171 rfl (by decide) rfl rfl dX6_board_56 (fun H locs hG => ?_)
    refine lv_iload hx hb dX6_board_59 (lv_at hl 0 rfl) ?_
    obtain ⟨hr1, hu⟩ := gret_s hf
    subst hr1
    subst hu
    subst hQ
    exact g_iret C0 hG hr dX6_board_61
  · have hf := gif_f c1 hf
    refine lv_bipush (v := (-4 : Int32)) hx hb dX6_board_13 (by decide) ?_
    obtain ⟨hr1, hu⟩ := gret_s hf
    subst hr1
    subst hu
    subst hQ
    exact g_iret C0 hG hr dX6_board_15
theorem dX6_knowsOf_0 : decode cX6_knowsOf 0 = .ok (.aload_n 0, 1) := by decide +kernel
theorem dX6_knowsOf_1 : decode cX6_knowsOf 1 = .ok (.getfield 27, 3) := by decide +kernel
theorem dX6_knowsOf_4 : decode cX6_knowsOf 4 = .ok (.iload_n 1, 1) := by decide +kernel
theorem dX6_knowsOf_5 : decode cX6_knowsOf 5 = .ok (.iaload, 1) := by decide +kernel
theorem dX6_knowsOf_6 : decode cX6_knowsOf 6 = .ok (.iload_n 2, 1) := by decide +kernel
theorem dX6_knowsOf_7 : decode cX6_knowsOf 7 = .ok (.ishr, 1) := by decide +kernel
theorem dX6_knowsOf_8 : decode cX6_knowsOf 8 = .ok (.iconst 1, 1) := by decide +kernel
theorem dX6_knowsOf_9 : decode cX6_knowsOf 9 = .ok (.iand, 1) := by decide +kernel
theorem dX6_knowsOf_10 : decode cX6_knowsOf 10 = .ok (.ifCond .eq 7, 3) := by decide +kernel
theorem dX6_knowsOf_13 : decode cX6_knowsOf 13 = .ok (.iconst 1, 1) := by decide +kernel
theorem dX6_knowsOf_14 : decode cX6_knowsOf 14 = .ok (.goto 4, 3) := by decide +kernel
theorem dX6_knowsOf_17 : decode cX6_knowsOf 17 = .ok (.iconst 0, 1) := by decide +kernel
theorem dX6_knowsOf_18 : decode cX6_knowsOf 18 = .ok (.ireturn, 1) := by decide +kernel
def f_X6_knowsOf (t : Nat) (p1 : Int32) (p2 : Int32) (u : Mem) : Option (Int32) := gin p1 6 ((if (((gA u (t + 6) p1.toNatClampNeg) >>> (p2 &&& 31)) &&& (1 : Int32)) = 0 then some (0 : Int32) else some (1 : Int32)))
set_option maxHeartbeats 4000000 in
set_option maxRecDepth 100000 in
theorem k_X6_knowsOf (l : Launch) (D : gDt) (base : Nat) (Z : gZt) (u : Mem) (t : Nat) (p1 : Int32) (p2 : Int32) (r : Int32) (ho : gok 129 t l6) (hf : f_X6_knowsOf t p1 p2 u = some r) : Met l yX6_knowsOf (gws yX6_knowsOf cX6_knowsOf 3 (some .boolean)) (gRm 1 0 0) (gPc D base Z u [.ref (base + t), .int p1, .int p2]) (gQi D base r u) 0 0 (gF base) := by
  refine Met.ofW (cc := cX6_knowsOf) (maxL := 3) (ret := some .boolean) (by decide) rfl ?_
  intro p e s m args below meth c s₁ B hml hv
  obtain ⟨rfl, C0, hG⟩ := g_enter B hml hv
  have hr := B.returns
  have C0 : gC p s m meth c _ cX6_knowsOf 3 RX6 D base Z := C0
  have hx := C0.1
  have hb := C0.2.1
  have hl := lv_entry ([.ref (base + t), .int p1, .int p2]) (n := 3) (Nat.le_of_ble_eq_true rfl)
  rw [lg_entry_eq]
  generalize (lg_sl ([.ref (base + t), .int p1, .int p2]) ++ List.replicate (3 - (lg_sl ([.ref (base + t), .int p1, .int p2])).length) Slot.unset).toArray = ls at hl ⊢
  have hl : lv_has ls 3 [(0, .ref (base + t)), (1, .int p1), (2, .int p2)] := hl
  obtain ⟨Q, hQ⟩ : ∃ Q, Q = MQ below (gQi D base r u) ([.ref (base + t), .int p1, .int p2] : List Value).toArray s 0 0 (gF base) := ⟨_, rfl⟩
  rw [← hQ]
  change W p l e (gRm 1 0 0) s m _ below meth c _ _ _ _ _ _
  unfold f_X6_knowsOf at hf
  refine lv_aload_n hx hb dX6_knowsOf_0 rfl (lv_at hl 0 rfl) ?_
  refine g_getSa (o := 6) (a := (t + 6)) C0 hG (T6_0 hG ho) rfl 5 (by decide) rfl rfl w_164 dX6_knowsOf_1 ?_
  refine lv_iload_n hx hb dX6_knowsOf_4 rfl (lv_at hl 1 rfl) ?_
  obtain ⟨h1, hf⟩ := gin_s hf
  refine g_iald C0 hG (T6_6 hG ho) h1 dX6_knowsOf_5 ?_
  refine lv_iload_n hx hb dX6_knowsOf_6 rfl (lv_at hl 2 rfl) ?_
  refine lv_ishr hx hb dX6_knowsOf_7 ?_
  refine lv_iconst (v := (1 : Int32)) hx hb dX6_knowsOf_8 (by decide) ?_
  refine lv_iand hx hb dX6_knowsOf_9 ?_
  refine lv_if_eq (tgt := 17) hx hb dX6_knowsOf_10 (by decide) (fun c2 => ?_) (fun c2 => ?_)
  · have hf := gif_t c2 hf
    refine lv_iconst (v := (0 : Int32)) hx hb dX6_knowsOf_17 (by decide) ?_
    have hf := Option.some.inj hf
    subst hf
    subst hQ
    exact g_zret C0 hG hr (by decide) dX6_knowsOf_18
  · have hf := gif_f c2 hf
    refine lv_iconst (v := (1 : Int32)) hx hb dX6_knowsOf_13 (by decide) ?_
    refine lv_goto (tgt := 18) hx hb dX6_knowsOf_14 (by decide) ?_
    have hf := Option.some.inj hf
    subst hf
    subst hQ
    exact g_zret C0 hG hr (by decide) dX6_knowsOf_18
theorem dX6_sum_0 : decode cX6_sum 0 = .ok (.aload_n 0, 1) := by decide +kernel
theorem dX6_sum_1 : decode cX6_sum 1 = .ok (.getfield 37, 3) := by decide +kernel
theorem dX6_sum_4 : decode cX6_sum 4 = .ok (.iconst 0, 1) := by decide +kernel
theorem dX6_sum_5 : decode cX6_sum 5 = .ok (.iload_n 1, 1) := by decide +kernel
theorem dX6_sum_6 : decode cX6_sum 6 = .ok (.iastore, 1) := by decide +kernel
theorem dX6_sum_7 : decode cX6_sum 7 = .ok (.aload_n 0, 1) := by decide +kernel
theorem dX6_sum_8 : decode cX6_sum 8 = .ok (.getfield 37, 3) := by decide +kernel
theorem dX6_sum_11 : decode cX6_sum 11 = .ok (.iconst 1, 1) := by decide +kernel
theorem dX6_sum_12 : decode cX6_sum 12 = .ok (.aload_n 0, 1) := by decide +kernel
theorem dX6_sum_13 : decode cX6_sum 13 = .ok (.getfield 18, 3) := by decide +kernel
theorem dX6_sum_16 : decode cX6_sum 16 = .ok (.iload_n 1, 1) := by decide +kernel
theorem dX6_sum_17 : decode cX6_sum 17 = .ok (.iaload, 1) := by decide +kernel
theorem dX6_sum_18 : decode cX6_sum 18 = .ok (.iastore, 1) := by decide +kernel
theorem dX6_sum_19 : decode cX6_sum 19 = .ok (.aload_n 0, 1) := by decide +kernel
theorem dX6_sum_20 : decode cX6_sum 20 = .ok (.getfield 37, 3) := by decide +kernel
theorem dX6_sum_23 : decode cX6_sum 23 = .ok (.iconst 2, 1) := by decide +kernel
theorem dX6_sum_24 : decode cX6_sum 24 = .ok (.aload_n 0, 1) := by decide +kernel
theorem dX6_sum_25 : decode cX6_sum 25 = .ok (.getfield 21, 3) := by decide +kernel
theorem dX6_sum_28 : decode cX6_sum 28 = .ok (.iload_n 1, 1) := by decide +kernel
theorem dX6_sum_29 : decode cX6_sum 29 = .ok (.iaload, 1) := by decide +kernel
theorem dX6_sum_30 : decode cX6_sum 30 = .ok (.iastore, 1) := by decide +kernel
theorem dX6_sum_31 : decode cX6_sum 31 = .ok (.aload_n 0, 1) := by decide +kernel
theorem dX6_sum_32 : decode cX6_sum 32 = .ok (.getfield 37, 3) := by decide +kernel
theorem dX6_sum_35 : decode cX6_sum 35 = .ok (.iconst 3, 1) := by decide +kernel
theorem dX6_sum_36 : decode cX6_sum 36 = .ok (.iload_n 2, 1) := by decide +kernel
theorem dX6_sum_37 : decode cX6_sum 37 = .ok (.iastore, 1) := by decide +kernel
theorem dX6_sum_38 : decode cX6_sum 38 = .ok (.aload_n 0, 1) := by decide +kernel
theorem dX6_sum_39 : decode cX6_sum 39 = .ok (.getfield 37, 3) := by decide +kernel
theorem dX6_sum_42 : decode cX6_sum 42 = .ok (.iconst 4, 1) := by decide +kernel
theorem dX6_sum_43 : decode cX6_sum 43 = .ok (.aload_n 0, 1) := by decide +kernel
theorem dX6_sum_44 : decode cX6_sum 44 = .ok (.getfield 15, 3) := by decide +kernel
theorem dX6_sum_47 : decode cX6_sum 47 = .ok (.iload_n 2, 1) := by decide +kernel
theorem dX6_sum_48 : decode cX6_sum 48 = .ok (.iaload, 1) := by decide +kernel
theorem dX6_sum_49 : decode cX6_sum 49 = .ok (.iastore, 1) := by decide +kernel
theorem dX6_sum_50 : decode cX6_sum 50 = .ok (.aload_n 0, 1) := by decide +kernel
theorem dX6_sum_51 : decode cX6_sum 51 = .ok (.getfield 37, 3) := by decide +kernel
theorem dX6_sum_54 : decode cX6_sum 54 = .ok (.iconst 5, 1) := by decide +kernel
theorem dX6_sum_55 : decode cX6_sum 55 = .ok (.aload_n 0, 1) := by decide +kernel
theorem dX6_sum_56 : decode cX6_sum 56 = .ok (.getfield 50, 3) := by decide +kernel
theorem dX6_sum_59 : decode cX6_sum 59 = .ok (.bipush 10, 2) := by decide +kernel
theorem dX6_sum_61 : decode cX6_sum 61 = .ok (.irem, 1) := by decide +kernel
theorem dX6_sum_62 : decode cX6_sum 62 = .ok (.iastore, 1) := by decide +kernel
theorem dX6_sum_63 : decode cX6_sum 63 = .ok (.aload_n 0, 1) := by decide +kernel
theorem dX6_sum_64 : decode cX6_sum 64 = .ok (.getfield 9, 3) := by decide +kernel
theorem dX6_sum_67 : decode cX6_sum 67 = .ok (.iload_n 2, 1) := by decide +kernel
theorem dX6_sum_68 : decode cX6_sum 68 = .ok (.iaload, 1) := by decide +kernel
theorem dX6_sum_69 : decode cX6_sum 69 = .ok (.iconst 2, 1) := by decide +kernel
theorem dX6_sum_70 : decode cX6_sum 70 = .ok (.imul, 1) := by decide +kernel
theorem dX6_sum_71 : decode cX6_sum 71 = .ok (.aload_n 0, 1) := by decide +kernel
theorem dX6_sum_72 : decode cX6_sum 72 = .ok (.getfield 15, 3) := by decide +kernel
theorem dX6_sum_75 : decode cX6_sum 75 = .ok (.iload_n 2, 1) := by decide +kernel
theorem dX6_sum_76 : decode cX6_sum 76 = .ok (.iaload, 1) := by decide +kernel
theorem dX6_sum_77 : decode cX6_sum 77 = .ok (.isub, 1) := by decide +kernel
theorem dX6_sum_78 : decode cX6_sum 78 = .ok (.aload_n 0, 1) := by decide +kernel
theorem dX6_sum_79 : decode cX6_sum 79 = .ok (.getfield 56, 3) := by decide +kernel
theorem dX6_sum_82 : decode cX6_sum 82 = .ok (.aload_n 0, 1) := by decide +kernel
theorem dX6_sum_83 : decode cX6_sum 83 = .ok (.getfield 37, 3) := by decide +kernel
theorem dX6_sum_86 : decode cX6_sum 86 = .ok (.invokevirtual 73, 3) := by decide +kernel
theorem dX6_sum_89 : decode cX6_sum 89 = .ok (.iadd, 1) := by decide +kernel
theorem dX6_sum_90 : decode cX6_sum 90 = .ok (.ireturn, 1) := by decide +kernel
def f_X6_sum (t : Nat) (p1 : Int32) (p2 : Int32) (u : Mem) : Option (Int32 × Mem) := gin (0 : Int32) 6 (gin p1 6 (gin (1 : Int32) 6 (gin p1 6 (gin (2 : Int32) 6 (gin (3 : Int32) 6 (gin p2 8 (gin (4 : Int32) 6 (gin (5 : Int32) 6 (gin p2 8 (gin p2 8 (gob (sA (sA (sA (sA (sA (sA u (t + 9) (0 : Int32).toNatClampNeg p1) (t + 9) (1 : Int32).toNatClampNeg (gA (sA u (t + 9) (0 : Int32).toNatClampNeg p1) (t + 3) p1.toNatClampNeg)) (t + 9) (2 : Int32).toNatClampNeg (gA (sA (sA u (t + 9) (0 : Int32).toNatClampNeg p1) (t + 9) (1 : Int32).toNatClampNeg (gA (sA u (t + 9) (0 : Int32).toNatClampNeg p1) (t + 3) p1.toNatClampNeg)) (t + 4) p1.toNatClampNeg)) (t + 9) (3 : Int32).toNatClampNeg p2) (t + 9) (4 : Int32).toNatClampNeg (gA (sA (sA (sA (sA u (t + 9) (0 : Int32).toNatClampNeg p1) (t + 9) (1 : Int32).toNatClampNeg (gA (sA u (t + 9) (0 : Int32).toNatClampNeg p1) (t + 3) p1.toNatClampNeg)) (t + 9) (2 : Int32).toNatClampNeg (gA (sA (sA u (t + 9) (0 : Int32).toNatClampNeg p1) (t + 9) (1 : Int32).toNatClampNeg (gA (sA u (t + 9) (0 : Int32).toNatClampNeg p1) (t + 3) p1.toNatClampNeg)) (t + 4) p1.toNatClampNeg)) (t + 9) (3 : Int32).toNatClampNeg p2) (t + 2) p2.toNatClampNeg)) (t + 9) (5 : Int32).toNatClampNeg ((gI (sA (sA (sA (sA (sA u (t + 9) (0 : Int32).toNatClampNeg p1) (t + 9) (1 : Int32).toNatClampNeg (gA (sA u (t + 9) (0 : Int32).toNatClampNeg p1) (t + 3) p1.toNatClampNeg)) (t + 9) (2 : Int32).toNatClampNeg (gA (sA (sA u (t + 9) (0 : Int32).toNatClampNeg p1) (t + 9) (1 : Int32).toNatClampNeg (gA (sA u (t + 9) (0 : Int32).toNatClampNeg p1) (t + 3) p1.toNatClampNeg)) (t + 4) p1.toNatClampNeg)) (t + 9) (3 : Int32).toNatClampNeg p2) (t + 9) (4 : Int32).toNatClampNeg (gA (sA (sA (sA (sA u (t + 9) (0 : Int32).toNatClampNeg p1) (t + 9) (1 : Int32).toNatClampNeg (gA (sA u (t + 9) (0 : Int32).toNatClampNeg p1) (t + 3) p1.toNatClampNeg)) (t + 9) (2 : Int32).toNatClampNeg (gA (sA (sA u (t + 9) (0 : Int32).toNatClampNeg p1) (t + 9) (1 : Int32).toNatClampNeg (gA (sA u (t + 9) (0 : Int32).toNatClampNeg p1) (t + 3) p1.toNatClampNeg)) (t + 4) p1.toNatClampNeg)) (t + 9) (3 : Int32).toNatClampNeg p2) (t + 2) p2.toNatClampNeg)) t 12) - (gI (sA (sA (sA (sA (sA u (t + 9) (0 : Int32).toNatClampNeg p1) (t + 9) (1 : Int32).toNatClampNeg (gA (sA u (t + 9) (0 : Int32).toNatClampNeg p1) (t + 3) p1.toNatClampNeg)) (t + 9) (2 : Int32).toNatClampNeg (gA (sA (sA u (t + 9) (0 : Int32).toNatClampNeg p1) (t + 9) (1 : Int32).toNatClampNeg (gA (sA u (t + 9) (0 : Int32).toNatClampNeg p1) (t + 3) p1.toNatClampNeg)) (t + 4) p1.toNatClampNeg)) (t + 9) (3 : Int32).toNatClampNeg p2) (t + 9) (4 : Int32).toNatClampNeg (gA (sA (sA (sA (sA u (t + 9) (0 : Int32).toNatClampNeg p1) (t + 9) (1 : Int32).toNatClampNeg (gA (sA u (t + 9) (0 : Int32).toNatClampNeg p1) (t + 3) p1.toNatClampNeg)) (t + 9) (2 : Int32).toNatClampNeg (gA (sA (sA u (t + 9) (0 : Int32).toNatClampNeg p1) (t + 9) (1 : Int32).toNatClampNeg (gA (sA u (t + 9) (0 : Int32).toNatClampNeg p1) (t + 3) p1.toNatClampNeg)) (t + 4) p1.toNatClampNeg)) (t + 9) (3 : Int32).toNatClampNeg p2) (t + 2) p2.toNatClampNeg)) t 12) / (10 : Int32) * (10 : Int32))).1 (gR (sA (sA (sA (sA (sA (sA u (t + 9) (0 : Int32).toNatClampNeg p1) (t + 9) (1 : Int32).toNatClampNeg (gA (sA u (t + 9) (0 : Int32).toNatClampNeg p1) (t + 3) p1.toNatClampNeg)) (t + 9) (2 : Int32).toNatClampNeg (gA (sA (sA u (t + 9) (0 : Int32).toNatClampNeg p1) (t + 9) (1 : Int32).toNatClampNeg (gA (sA u (t + 9) (0 : Int32).toNatClampNeg p1) (t + 3) p1.toNatClampNeg)) (t + 4) p1.toNatClampNeg)) (t + 9) (3 : Int32).toNatClampNeg p2) (t + 9) (4 : Int32).toNatClampNeg (gA (sA (sA (sA (sA u (t + 9) (0 : Int32).toNatClampNeg p1) (t + 9) (1 : Int32).toNatClampNeg (gA (sA u (t + 9) (0 : Int32).toNatClampNeg p1) (t + 3) p1.toNatClampNeg)) (t + 9) (2 : Int32).toNatClampNeg (gA (sA (sA u (t + 9) (0 : Int32).toNatClampNeg p1) (t + 9) (1 : Int32).toNatClampNeg (gA (sA u (t + 9) (0 : Int32).toNatClampNeg p1) (t + 3) p1.toNatClampNeg)) (t + 4) p1.toNatClampNeg)) (t + 9) (3 : Int32).toNatClampNeg p2) (t + 2) p2.toNatClampNeg)) (t + 9) (5 : Int32).toNatClampNeg ((gI (sA (sA (sA (sA (sA u (t + 9) (0 : Int32).toNatClampNeg p1) (t + 9) (1 : Int32).toNatClampNeg (gA (sA u (t + 9) (0 : Int32).toNatClampNeg p1) (t + 3) p1.toNatClampNeg)) (t + 9) (2 : Int32).toNatClampNeg (gA (sA (sA u (t + 9) (0 : Int32).toNatClampNeg p1) (t + 9) (1 : Int32).toNatClampNeg (gA (sA u (t + 9) (0 : Int32).toNatClampNeg p1) (t + 3) p1.toNatClampNeg)) (t + 4) p1.toNatClampNeg)) (t + 9) (3 : Int32).toNatClampNeg p2) (t + 9) (4 : Int32).toNatClampNeg (gA (sA (sA (sA (sA u (t + 9) (0 : Int32).toNatClampNeg p1) (t + 9) (1 : Int32).toNatClampNeg (gA (sA u (t + 9) (0 : Int32).toNatClampNeg p1) (t + 3) p1.toNatClampNeg)) (t + 9) (2 : Int32).toNatClampNeg (gA (sA (sA u (t + 9) (0 : Int32).toNatClampNeg p1) (t + 9) (1 : Int32).toNatClampNeg (gA (sA u (t + 9) (0 : Int32).toNatClampNeg p1) (t + 3) p1.toNatClampNeg)) (t + 4) p1.toNatClampNeg)) (t + 9) (3 : Int32).toNatClampNeg p2) (t + 2) p2.toNatClampNeg)) t 12) - (gI (sA (sA (sA (sA (sA u (t + 9) (0 : Int32).toNatClampNeg p1) (t + 9) (1 : Int32).toNatClampNeg (gA (sA u (t + 9) (0 : Int32).toNatClampNeg p1) (t + 3) p1.toNatClampNeg)) (t + 9) (2 : Int32).toNatClampNeg (gA (sA (sA u (t + 9) (0 : Int32).toNatClampNeg p1) (t + 9) (1 : Int32).toNatClampNeg (gA (sA u (t + 9) (0 : Int32).toNatClampNeg p1) (t + 3) p1.toNatClampNeg)) (t + 4) p1.toNatClampNeg)) (t + 9) (3 : Int32).toNatClampNeg p2) (t + 9) (4 : Int32).toNatClampNeg (gA (sA (sA (sA (sA u (t + 9) (0 : Int32).toNatClampNeg p1) (t + 9) (1 : Int32).toNatClampNeg (gA (sA u (t + 9) (0 : Int32).toNatClampNeg p1) (t + 3) p1.toNatClampNeg)) (t + 9) (2 : Int32).toNatClampNeg (gA (sA (sA u (t + 9) (0 : Int32).toNatClampNeg p1) (t + 9) (1 : Int32).toNatClampNeg (gA (sA u (t + 9) (0 : Int32).toNatClampNeg p1) (t + 3) p1.toNatClampNeg)) (t + 4) p1.toNatClampNeg)) (t + 9) (3 : Int32).toNatClampNeg p2) (t + 2) p2.toNatClampNeg)) t 12) / (10 : Int32) * (10 : Int32))) t 13) l0 (Option.bind (f_X0_warmth (gR (sA (sA (sA (sA (sA (sA u (t + 9) (0 : Int32).toNatClampNeg p1) (t + 9) (1 : Int32).toNatClampNeg (gA (sA u (t + 9) (0 : Int32).toNatClampNeg p1) (t + 3) p1.toNatClampNeg)) (t + 9) (2 : Int32).toNatClampNeg (gA (sA (sA u (t + 9) (0 : Int32).toNatClampNeg p1) (t + 9) (1 : Int32).toNatClampNeg (gA (sA u (t + 9) (0 : Int32).toNatClampNeg p1) (t + 3) p1.toNatClampNeg)) (t + 4) p1.toNatClampNeg)) (t + 9) (3 : Int32).toNatClampNeg p2) (t + 9) (4 : Int32).toNatClampNeg (gA (sA (sA (sA (sA u (t + 9) (0 : Int32).toNatClampNeg p1) (t + 9) (1 : Int32).toNatClampNeg (gA (sA u (t + 9) (0 : Int32).toNatClampNeg p1) (t + 3) p1.toNatClampNeg)) (t + 9) (2 : Int32).toNatClampNeg (gA (sA (sA u (t + 9) (0 : Int32).toNatClampNeg p1) (t + 9) (1 : Int32).toNatClampNeg (gA (sA u (t + 9) (0 : Int32).toNatClampNeg p1) (t + 3) p1.toNatClampNeg)) (t + 4) p1.toNatClampNeg)) (t + 9) (3 : Int32).toNatClampNeg p2) (t + 2) p2.toNatClampNeg)) (t + 9) (5 : Int32).toNatClampNeg ((gI (sA (sA (sA (sA (sA u (t + 9) (0 : Int32).toNatClampNeg p1) (t + 9) (1 : Int32).toNatClampNeg (gA (sA u (t + 9) (0 : Int32).toNatClampNeg p1) (t + 3) p1.toNatClampNeg)) (t + 9) (2 : Int32).toNatClampNeg (gA (sA (sA u (t + 9) (0 : Int32).toNatClampNeg p1) (t + 9) (1 : Int32).toNatClampNeg (gA (sA u (t + 9) (0 : Int32).toNatClampNeg p1) (t + 3) p1.toNatClampNeg)) (t + 4) p1.toNatClampNeg)) (t + 9) (3 : Int32).toNatClampNeg p2) (t + 9) (4 : Int32).toNatClampNeg (gA (sA (sA (sA (sA u (t + 9) (0 : Int32).toNatClampNeg p1) (t + 9) (1 : Int32).toNatClampNeg (gA (sA u (t + 9) (0 : Int32).toNatClampNeg p1) (t + 3) p1.toNatClampNeg)) (t + 9) (2 : Int32).toNatClampNeg (gA (sA (sA u (t + 9) (0 : Int32).toNatClampNeg p1) (t + 9) (1 : Int32).toNatClampNeg (gA (sA u (t + 9) (0 : Int32).toNatClampNeg p1) (t + 3) p1.toNatClampNeg)) (t + 4) p1.toNatClampNeg)) (t + 9) (3 : Int32).toNatClampNeg p2) (t + 2) p2.toNatClampNeg)) t 12) - (gI (sA (sA (sA (sA (sA u (t + 9) (0 : Int32).toNatClampNeg p1) (t + 9) (1 : Int32).toNatClampNeg (gA (sA u (t + 9) (0 : Int32).toNatClampNeg p1) (t + 3) p1.toNatClampNeg)) (t + 9) (2 : Int32).toNatClampNeg (gA (sA (sA u (t + 9) (0 : Int32).toNatClampNeg p1) (t + 9) (1 : Int32).toNatClampNeg (gA (sA u (t + 9) (0 : Int32).toNatClampNeg p1) (t + 3) p1.toNatClampNeg)) (t + 4) p1.toNatClampNeg)) (t + 9) (3 : Int32).toNatClampNeg p2) (t + 9) (4 : Int32).toNatClampNeg (gA (sA (sA (sA (sA u (t + 9) (0 : Int32).toNatClampNeg p1) (t + 9) (1 : Int32).toNatClampNeg (gA (sA u (t + 9) (0 : Int32).toNatClampNeg p1) (t + 3) p1.toNatClampNeg)) (t + 9) (2 : Int32).toNatClampNeg (gA (sA (sA u (t + 9) (0 : Int32).toNatClampNeg p1) (t + 9) (1 : Int32).toNatClampNeg (gA (sA u (t + 9) (0 : Int32).toNatClampNeg p1) (t + 3) p1.toNatClampNeg)) (t + 4) p1.toNatClampNeg)) (t + 9) (3 : Int32).toNatClampNeg p2) (t + 2) p2.toNatClampNeg)) t 12) / (10 : Int32) * (10 : Int32))) t 13) (t + 9) (sA (sA (sA (sA (sA (sA u (t + 9) (0 : Int32).toNatClampNeg p1) (t + 9) (1 : Int32).toNatClampNeg (gA (sA u (t + 9) (0 : Int32).toNatClampNeg p1) (t + 3) p1.toNatClampNeg)) (t + 9) (2 : Int32).toNatClampNeg (gA (sA (sA u (t + 9) (0 : Int32).toNatClampNeg p1) (t + 9) (1 : Int32).toNatClampNeg (gA (sA u (t + 9) (0 : Int32).toNatClampNeg p1) (t + 3) p1.toNatClampNeg)) (t + 4) p1.toNatClampNeg)) (t + 9) (3 : Int32).toNatClampNeg p2) (t + 9) (4 : Int32).toNatClampNeg (gA (sA (sA (sA (sA u (t + 9) (0 : Int32).toNatClampNeg p1) (t + 9) (1 : Int32).toNatClampNeg (gA (sA u (t + 9) (0 : Int32).toNatClampNeg p1) (t + 3) p1.toNatClampNeg)) (t + 9) (2 : Int32).toNatClampNeg (gA (sA (sA u (t + 9) (0 : Int32).toNatClampNeg p1) (t + 9) (1 : Int32).toNatClampNeg (gA (sA u (t + 9) (0 : Int32).toNatClampNeg p1) (t + 3) p1.toNatClampNeg)) (t + 4) p1.toNatClampNeg)) (t + 9) (3 : Int32).toNatClampNeg p2) (t + 2) p2.toNatClampNeg)) (t + 9) (5 : Int32).toNatClampNeg ((gI (sA (sA (sA (sA (sA u (t + 9) (0 : Int32).toNatClampNeg p1) (t + 9) (1 : Int32).toNatClampNeg (gA (sA u (t + 9) (0 : Int32).toNatClampNeg p1) (t + 3) p1.toNatClampNeg)) (t + 9) (2 : Int32).toNatClampNeg (gA (sA (sA u (t + 9) (0 : Int32).toNatClampNeg p1) (t + 9) (1 : Int32).toNatClampNeg (gA (sA u (t + 9) (0 : Int32).toNatClampNeg p1) (t + 3) p1.toNatClampNeg)) (t + 4) p1.toNatClampNeg)) (t + 9) (3 : Int32).toNatClampNeg p2) (t + 9) (4 : Int32).toNatClampNeg (gA (sA (sA (sA (sA u (t + 9) (0 : Int32).toNatClampNeg p1) (t + 9) (1 : Int32).toNatClampNeg (gA (sA u (t + 9) (0 : Int32).toNatClampNeg p1) (t + 3) p1.toNatClampNeg)) (t + 9) (2 : Int32).toNatClampNeg (gA (sA (sA u (t + 9) (0 : Int32).toNatClampNeg p1) (t + 9) (1 : Int32).toNatClampNeg (gA (sA u (t + 9) (0 : Int32).toNatClampNeg p1) (t + 3) p1.toNatClampNeg)) (t + 4) p1.toNatClampNeg)) (t + 9) (3 : Int32).toNatClampNeg p2) (t + 2) p2.toNatClampNeg)) t 12) - (gI (sA (sA (sA (sA (sA u (t + 9) (0 : Int32).toNatClampNeg p1) (t + 9) (1 : Int32).toNatClampNeg (gA (sA u (t + 9) (0 : Int32).toNatClampNeg p1) (t + 3) p1.toNatClampNeg)) (t + 9) (2 : Int32).toNatClampNeg (gA (sA (sA u (t + 9) (0 : Int32).toNatClampNeg p1) (t + 9) (1 : Int32).toNatClampNeg (gA (sA u (t + 9) (0 : Int32).toNatClampNeg p1) (t + 3) p1.toNatClampNeg)) (t + 4) p1.toNatClampNeg)) (t + 9) (3 : Int32).toNatClampNeg p2) (t + 9) (4 : Int32).toNatClampNeg (gA (sA (sA (sA (sA u (t + 9) (0 : Int32).toNatClampNeg p1) (t + 9) (1 : Int32).toNatClampNeg (gA (sA u (t + 9) (0 : Int32).toNatClampNeg p1) (t + 3) p1.toNatClampNeg)) (t + 9) (2 : Int32).toNatClampNeg (gA (sA (sA u (t + 9) (0 : Int32).toNatClampNeg p1) (t + 9) (1 : Int32).toNatClampNeg (gA (sA u (t + 9) (0 : Int32).toNatClampNeg p1) (t + 3) p1.toNatClampNeg)) (t + 4) p1.toNatClampNeg)) (t + 9) (3 : Int32).toNatClampNeg p2) (t + 2) p2.toNatClampNeg)) t 12) / (10 : Int32) * (10 : Int32)))) (fun r13 => some ((((gA (sA (sA (sA (sA (sA (sA u (t + 9) (0 : Int32).toNatClampNeg p1) (t + 9) (1 : Int32).toNatClampNeg (gA (sA u (t + 9) (0 : Int32).toNatClampNeg p1) (t + 3) p1.toNatClampNeg)) (t + 9) (2 : Int32).toNatClampNeg (gA (sA (sA u (t + 9) (0 : Int32).toNatClampNeg p1) (t + 9) (1 : Int32).toNatClampNeg (gA (sA u (t + 9) (0 : Int32).toNatClampNeg p1) (t + 3) p1.toNatClampNeg)) (t + 4) p1.toNatClampNeg)) (t + 9) (3 : Int32).toNatClampNeg p2) (t + 9) (4 : Int32).toNatClampNeg (gA (sA (sA (sA (sA u (t + 9) (0 : Int32).toNatClampNeg p1) (t + 9) (1 : Int32).toNatClampNeg (gA (sA u (t + 9) (0 : Int32).toNatClampNeg p1) (t + 3) p1.toNatClampNeg)) (t + 9) (2 : Int32).toNatClampNeg (gA (sA (sA u (t + 9) (0 : Int32).toNatClampNeg p1) (t + 9) (1 : Int32).toNatClampNeg (gA (sA u (t + 9) (0 : Int32).toNatClampNeg p1) (t + 3) p1.toNatClampNeg)) (t + 4) p1.toNatClampNeg)) (t + 9) (3 : Int32).toNatClampNeg p2) (t + 2) p2.toNatClampNeg)) (t + 9) (5 : Int32).toNatClampNeg ((gI (sA (sA (sA (sA (sA u (t + 9) (0 : Int32).toNatClampNeg p1) (t + 9) (1 : Int32).toNatClampNeg (gA (sA u (t + 9) (0 : Int32).toNatClampNeg p1) (t + 3) p1.toNatClampNeg)) (t + 9) (2 : Int32).toNatClampNeg (gA (sA (sA u (t + 9) (0 : Int32).toNatClampNeg p1) (t + 9) (1 : Int32).toNatClampNeg (gA (sA u (t + 9) (0 : Int32).toNatClampNeg p1) (t + 3) p1.toNatClampNeg)) (t + 4) p1.toNatClampNeg)) (t + 9) (3 : Int32).toNatClampNeg p2) (t + 9) (4 : Int32).toNatClampNeg (gA (sA (sA (sA (sA u (t + 9) (0 : Int32).toNatClampNeg p1) (t + 9) (1 : Int32).toNatClampNeg (gA (sA u (t + 9) (0 : Int32).toNatClampNeg p1) (t + 3) p1.toNatClampNeg)) (t + 9) (2 : Int32).toNatClampNeg (gA (sA (sA u (t + 9) (0 : Int32).toNatClampNeg p1) (t + 9) (1 : Int32).toNatClampNeg (gA (sA u (t + 9) (0 : Int32).toNatClampNeg p1) (t + 3) p1.toNatClampNeg)) (t + 4) p1.toNatClampNeg)) (t + 9) (3 : Int32).toNatClampNeg p2) (t + 2) p2.toNatClampNeg)) t 12) - (gI (sA (sA (sA (sA (sA u (t + 9) (0 : Int32).toNatClampNeg p1) (t + 9) (1 : Int32).toNatClampNeg (gA (sA u (t + 9) (0 : Int32).toNatClampNeg p1) (t + 3) p1.toNatClampNeg)) (t + 9) (2 : Int32).toNatClampNeg (gA (sA (sA u (t + 9) (0 : Int32).toNatClampNeg p1) (t + 9) (1 : Int32).toNatClampNeg (gA (sA u (t + 9) (0 : Int32).toNatClampNeg p1) (t + 3) p1.toNatClampNeg)) (t + 4) p1.toNatClampNeg)) (t + 9) (3 : Int32).toNatClampNeg p2) (t + 9) (4 : Int32).toNatClampNeg (gA (sA (sA (sA (sA u (t + 9) (0 : Int32).toNatClampNeg p1) (t + 9) (1 : Int32).toNatClampNeg (gA (sA u (t + 9) (0 : Int32).toNatClampNeg p1) (t + 3) p1.toNatClampNeg)) (t + 9) (2 : Int32).toNatClampNeg (gA (sA (sA u (t + 9) (0 : Int32).toNatClampNeg p1) (t + 9) (1 : Int32).toNatClampNeg (gA (sA u (t + 9) (0 : Int32).toNatClampNeg p1) (t + 3) p1.toNatClampNeg)) (t + 4) p1.toNatClampNeg)) (t + 9) (3 : Int32).toNatClampNeg p2) (t + 2) p2.toNatClampNeg)) t 12) / (10 : Int32) * (10 : Int32))) (t + 1) p2.toNatClampNeg) * (2 : Int32)) - (gA (sA (sA (sA (sA (sA (sA u (t + 9) (0 : Int32).toNatClampNeg p1) (t + 9) (1 : Int32).toNatClampNeg (gA (sA u (t + 9) (0 : Int32).toNatClampNeg p1) (t + 3) p1.toNatClampNeg)) (t + 9) (2 : Int32).toNatClampNeg (gA (sA (sA u (t + 9) (0 : Int32).toNatClampNeg p1) (t + 9) (1 : Int32).toNatClampNeg (gA (sA u (t + 9) (0 : Int32).toNatClampNeg p1) (t + 3) p1.toNatClampNeg)) (t + 4) p1.toNatClampNeg)) (t + 9) (3 : Int32).toNatClampNeg p2) (t + 9) (4 : Int32).toNatClampNeg (gA (sA (sA (sA (sA u (t + 9) (0 : Int32).toNatClampNeg p1) (t + 9) (1 : Int32).toNatClampNeg (gA (sA u (t + 9) (0 : Int32).toNatClampNeg p1) (t + 3) p1.toNatClampNeg)) (t + 9) (2 : Int32).toNatClampNeg (gA (sA (sA u (t + 9) (0 : Int32).toNatClampNeg p1) (t + 9) (1 : Int32).toNatClampNeg (gA (sA u (t + 9) (0 : Int32).toNatClampNeg p1) (t + 3) p1.toNatClampNeg)) (t + 4) p1.toNatClampNeg)) (t + 9) (3 : Int32).toNatClampNeg p2) (t + 2) p2.toNatClampNeg)) (t + 9) (5 : Int32).toNatClampNeg ((gI (sA (sA (sA (sA (sA u (t + 9) (0 : Int32).toNatClampNeg p1) (t + 9) (1 : Int32).toNatClampNeg (gA (sA u (t + 9) (0 : Int32).toNatClampNeg p1) (t + 3) p1.toNatClampNeg)) (t + 9) (2 : Int32).toNatClampNeg (gA (sA (sA u (t + 9) (0 : Int32).toNatClampNeg p1) (t + 9) (1 : Int32).toNatClampNeg (gA (sA u (t + 9) (0 : Int32).toNatClampNeg p1) (t + 3) p1.toNatClampNeg)) (t + 4) p1.toNatClampNeg)) (t + 9) (3 : Int32).toNatClampNeg p2) (t + 9) (4 : Int32).toNatClampNeg (gA (sA (sA (sA (sA u (t + 9) (0 : Int32).toNatClampNeg p1) (t + 9) (1 : Int32).toNatClampNeg (gA (sA u (t + 9) (0 : Int32).toNatClampNeg p1) (t + 3) p1.toNatClampNeg)) (t + 9) (2 : Int32).toNatClampNeg (gA (sA (sA u (t + 9) (0 : Int32).toNatClampNeg p1) (t + 9) (1 : Int32).toNatClampNeg (gA (sA u (t + 9) (0 : Int32).toNatClampNeg p1) (t + 3) p1.toNatClampNeg)) (t + 4) p1.toNatClampNeg)) (t + 9) (3 : Int32).toNatClampNeg p2) (t + 2) p2.toNatClampNeg)) t 12) - (gI (sA (sA (sA (sA (sA u (t + 9) (0 : Int32).toNatClampNeg p1) (t + 9) (1 : Int32).toNatClampNeg (gA (sA u (t + 9) (0 : Int32).toNatClampNeg p1) (t + 3) p1.toNatClampNeg)) (t + 9) (2 : Int32).toNatClampNeg (gA (sA (sA u (t + 9) (0 : Int32).toNatClampNeg p1) (t + 9) (1 : Int32).toNatClampNeg (gA (sA u (t + 9) (0 : Int32).toNatClampNeg p1) (t + 3) p1.toNatClampNeg)) (t + 4) p1.toNatClampNeg)) (t + 9) (3 : Int32).toNatClampNeg p2) (t + 9) (4 : Int32).toNatClampNeg (gA (sA (sA (sA (sA u (t + 9) (0 : Int32).toNatClampNeg p1) (t + 9) (1 : Int32).toNatClampNeg (gA (sA u (t + 9) (0 : Int32).toNatClampNeg p1) (t + 3) p1.toNatClampNeg)) (t + 9) (2 : Int32).toNatClampNeg (gA (sA (sA u (t + 9) (0 : Int32).toNatClampNeg p1) (t + 9) (1 : Int32).toNatClampNeg (gA (sA u (t + 9) (0 : Int32).toNatClampNeg p1) (t + 3) p1.toNatClampNeg)) (t + 4) p1.toNatClampNeg)) (t + 9) (3 : Int32).toNatClampNeg p2) (t + 2) p2.toNatClampNeg)) t 12) / (10 : Int32) * (10 : Int32))) (t + 2) p2.toNatClampNeg)) + r13, sA (sA (sA (sA (sA (sA u (t + 9) (0 : Int32).toNatClampNeg p1) (t + 9) (1 : Int32).toNatClampNeg (gA (sA u (t + 9) (0 : Int32).toNatClampNeg p1) (t + 3) p1.toNatClampNeg)) (t + 9) (2 : Int32).toNatClampNeg (gA (sA (sA u (t + 9) (0 : Int32).toNatClampNeg p1) (t + 9) (1 : Int32).toNatClampNeg (gA (sA u (t + 9) (0 : Int32).toNatClampNeg p1) (t + 3) p1.toNatClampNeg)) (t + 4) p1.toNatClampNeg)) (t + 9) (3 : Int32).toNatClampNeg p2) (t + 9) (4 : Int32).toNatClampNeg (gA (sA (sA (sA (sA u (t + 9) (0 : Int32).toNatClampNeg p1) (t + 9) (1 : Int32).toNatClampNeg (gA (sA u (t + 9) (0 : Int32).toNatClampNeg p1) (t + 3) p1.toNatClampNeg)) (t + 9) (2 : Int32).toNatClampNeg (gA (sA (sA u (t + 9) (0 : Int32).toNatClampNeg p1) (t + 9) (1 : Int32).toNatClampNeg (gA (sA u (t + 9) (0 : Int32).toNatClampNeg p1) (t + 3) p1.toNatClampNeg)) (t + 4) p1.toNatClampNeg)) (t + 9) (3 : Int32).toNatClampNeg p2) (t + 2) p2.toNatClampNeg)) (t + 9) (5 : Int32).toNatClampNeg ((gI (sA (sA (sA (sA (sA u (t + 9) (0 : Int32).toNatClampNeg p1) (t + 9) (1 : Int32).toNatClampNeg (gA (sA u (t + 9) (0 : Int32).toNatClampNeg p1) (t + 3) p1.toNatClampNeg)) (t + 9) (2 : Int32).toNatClampNeg (gA (sA (sA u (t + 9) (0 : Int32).toNatClampNeg p1) (t + 9) (1 : Int32).toNatClampNeg (gA (sA u (t + 9) (0 : Int32).toNatClampNeg p1) (t + 3) p1.toNatClampNeg)) (t + 4) p1.toNatClampNeg)) (t + 9) (3 : Int32).toNatClampNeg p2) (t + 9) (4 : Int32).toNatClampNeg (gA (sA (sA (sA (sA u (t + 9) (0 : Int32).toNatClampNeg p1) (t + 9) (1 : Int32).toNatClampNeg (gA (sA u (t + 9) (0 : Int32).toNatClampNeg p1) (t + 3) p1.toNatClampNeg)) (t + 9) (2 : Int32).toNatClampNeg (gA (sA (sA u (t + 9) (0 : Int32).toNatClampNeg p1) (t + 9) (1 : Int32).toNatClampNeg (gA (sA u (t + 9) (0 : Int32).toNatClampNeg p1) (t + 3) p1.toNatClampNeg)) (t + 4) p1.toNatClampNeg)) (t + 9) (3 : Int32).toNatClampNeg p2) (t + 2) p2.toNatClampNeg)) t 12) - (gI (sA (sA (sA (sA (sA u (t + 9) (0 : Int32).toNatClampNeg p1) (t + 9) (1 : Int32).toNatClampNeg (gA (sA u (t + 9) (0 : Int32).toNatClampNeg p1) (t + 3) p1.toNatClampNeg)) (t + 9) (2 : Int32).toNatClampNeg (gA (sA (sA u (t + 9) (0 : Int32).toNatClampNeg p1) (t + 9) (1 : Int32).toNatClampNeg (gA (sA u (t + 9) (0 : Int32).toNatClampNeg p1) (t + 3) p1.toNatClampNeg)) (t + 4) p1.toNatClampNeg)) (t + 9) (3 : Int32).toNatClampNeg p2) (t + 9) (4 : Int32).toNatClampNeg (gA (sA (sA (sA (sA u (t + 9) (0 : Int32).toNatClampNeg p1) (t + 9) (1 : Int32).toNatClampNeg (gA (sA u (t + 9) (0 : Int32).toNatClampNeg p1) (t + 3) p1.toNatClampNeg)) (t + 9) (2 : Int32).toNatClampNeg (gA (sA (sA u (t + 9) (0 : Int32).toNatClampNeg p1) (t + 9) (1 : Int32).toNatClampNeg (gA (sA u (t + 9) (0 : Int32).toNatClampNeg p1) (t + 3) p1.toNatClampNeg)) (t + 4) p1.toNatClampNeg)) (t + 9) (3 : Int32).toNatClampNeg p2) (t + 2) p2.toNatClampNeg)) t 12) / (10 : Int32) * (10 : Int32))))))))))))))))
set_option maxHeartbeats 4000000 in
set_option maxRecDepth 100000 in
theorem k_X6_sum (l : Launch) (D : gDt) (base : Nat) (Z : gZt) (u : Mem) (t : Nat) (p1 : Int32) (p2 : Int32) (r : Int32) (u' : Mem) (ho : gok 129 t l6) (hf : f_X6_sum t p1 p2 u = some (r, u')) : Met l yX6_sum (gws yX6_sum cX6_sum 3 (some .int)) (gRm 3 0 0) (gPc D base Z u [.ref (base + t), .int p1, .int p2]) (gQi D base r u') 0 0 (gF base) := by
  refine Met.ofW (cc := cX6_sum) (maxL := 3) (ret := some .int) (by decide) rfl ?_
  intro p e s m args below meth c s₁ B hml hv
  obtain ⟨rfl, C0, hG⟩ := g_enter B hml hv
  have hr := B.returns
  have C0 : gC p s m meth c _ cX6_sum 3 RX6 D base Z := C0
  have hx := C0.1
  have hb := C0.2.1
  have hl := lv_entry ([.ref (base + t), .int p1, .int p2]) (n := 3) (Nat.le_of_ble_eq_true rfl)
  rw [lg_entry_eq]
  generalize (lg_sl ([.ref (base + t), .int p1, .int p2]) ++ List.replicate (3 - (lg_sl ([.ref (base + t), .int p1, .int p2])).length) Slot.unset).toArray = ls at hl ⊢
  have hl : lv_has ls 3 [(0, .ref (base + t)), (1, .int p1), (2, .int p2)] := hl
  obtain ⟨Q, hQ⟩ : ∃ Q, Q = MQ below (gQi D base r u') ([.ref (base + t), .int p1, .int p2] : List Value).toArray s 0 0 (gF base) := ⟨_, rfl⟩
  rw [← hQ]
  change W p l e (gRm 3 0 0) s m _ below meth c _ _ _ _ _ _
  unfold f_X6_sum at hf
  refine lv_aload_n hx hb dX6_sum_0 rfl (lv_at hl 0 rfl) ?_
  refine g_getSa (o := 9) (a := (t + 9)) C0 hG (T6_0 hG ho) rfl 8 (by decide) rfl rfl w_170 dX6_sum_1 ?_
  refine lv_iconst (v := (0 : Int32)) hx hb dX6_sum_4 (by decide) ?_
  refine lv_iload_n hx hb dX6_sum_5 rfl (lv_at hl 1 rfl) ?_
  obtain ⟨h1, hf⟩ := gin_s hf
  refine g_iast C0 hG (T6_9 hG ho) h1 dX6_sum_6 (fun H locs hG => ?_)
  refine lv_aload_n hx hb dX6_sum_7 rfl (lv_at hl 0 rfl) ?_
  refine g_getSa (o := 9) (a := (t + 9)) C0 hG (T6_0 hG ho) rfl 8 (by decide) rfl rfl w_170 dX6_sum_8 ?_
  refine lv_iconst (v := (1 : Int32)) hx hb dX6_sum_11 (by decide) ?_
  refine lv_aload_n hx hb dX6_sum_12 rfl (lv_at hl 0 rfl) ?_
  refine g_getSa (o := 3) (a := (t + 3)) C0 hG (T6_0 hG ho) rfl 2 (by decide) rfl rfl w_158 dX6_sum_13 ?_
  refine lv_iload_n hx hb dX6_sum_16 rfl (lv_at hl 1 rfl) ?_
  obtain ⟨h2, hf⟩ := gin_s hf
  refine g_iald C0 hG (T6_3 hG ho) h2 dX6_sum_17 ?_
  obtain ⟨h3, hf⟩ := gin_s hf
  refine g_iast C0 hG (T6_9 hG ho) h3 dX6_sum_18 (fun H locs hG => ?_)
  refine lv_aload_n hx hb dX6_sum_19 rfl (lv_at hl 0 rfl) ?_
  refine g_getSa (o := 9) (a := (t + 9)) C0 hG (T6_0 hG ho) rfl 8 (by decide) rfl rfl w_170 dX6_sum_20 ?_
  refine lv_iconst (v := (2 : Int32)) hx hb dX6_sum_23 (by decide) ?_
  refine lv_aload_n hx hb dX6_sum_24 rfl (lv_at hl 0 rfl) ?_
  refine g_getSa (o := 4) (a := (t + 4)) C0 hG (T6_0 hG ho) rfl 3 (by decide) rfl rfl w_160 dX6_sum_25 ?_
  refine lv_iload_n hx hb dX6_sum_28 rfl (lv_at hl 1 rfl) ?_
  obtain ⟨h4, hf⟩ := gin_s hf
  refine g_iald C0 hG (T6_4 hG ho) h4 dX6_sum_29 ?_
  obtain ⟨h5, hf⟩ := gin_s hf
  refine g_iast C0 hG (T6_9 hG ho) h5 dX6_sum_30 (fun H locs hG => ?_)
  refine lv_aload_n hx hb dX6_sum_31 rfl (lv_at hl 0 rfl) ?_
  refine g_getSa (o := 9) (a := (t + 9)) C0 hG (T6_0 hG ho) rfl 8 (by decide) rfl rfl w_170 dX6_sum_32 ?_
  refine lv_iconst (v := (3 : Int32)) hx hb dX6_sum_35 (by decide) ?_
  refine lv_iload_n hx hb dX6_sum_36 rfl (lv_at hl 2 rfl) ?_
  obtain ⟨h6, hf⟩ := gin_s hf
  refine g_iast C0 hG (T6_9 hG ho) h6 dX6_sum_37 (fun H locs hG => ?_)
  refine lv_aload_n hx hb dX6_sum_38 rfl (lv_at hl 0 rfl) ?_
  refine g_getSa (o := 9) (a := (t + 9)) C0 hG (T6_0 hG ho) rfl 8 (by decide) rfl rfl w_170 dX6_sum_39 ?_
  refine lv_iconst (v := (4 : Int32)) hx hb dX6_sum_42 (by decide) ?_
  refine lv_aload_n hx hb dX6_sum_43 rfl (lv_at hl 0 rfl) ?_
  refine g_getSa (o := 2) (a := (t + 2)) C0 hG (T6_0 hG ho) rfl 1 (by decide) rfl rfl w_156 dX6_sum_44 ?_
  refine lv_iload_n hx hb dX6_sum_47 rfl (lv_at hl 2 rfl) ?_
  obtain ⟨h7, hf⟩ := gin_s hf
  refine g_iald C0 hG (T6_2 hG ho) h7 dX6_sum_48 ?_
  obtain ⟨h8, hf⟩ := gin_s hf
  refine g_iast C0 hG (T6_9 hG ho) h8 dX6_sum_49 (fun H locs hG => ?_)
  refine lv_aload_n hx hb dX6_sum_50 rfl (lv_at hl 0 rfl) ?_
  refine g_getSa (o := 9) (a := (t + 9)) C0 hG (T6_0 hG ho) rfl 8 (by decide) rfl rfl w_170 dX6_sum_51 ?_
  refine lv_iconst (v := (5 : Int32)) hx hb dX6_sum_54 (by decide) ?_
  refine lv_aload_n hx hb dX6_sum_55 rfl (lv_at hl 0 rfl) ?_
  refine g_getI C0 hG (T6_0 hG ho) rfl 12 (by decide) rfl w_177 dX6_sum_56 ?_
  refine lv_bipush (v := (10 : Int32)) hx hb dX6_sum_59 (by decide) ?_
  refine lv_irem hx hb dX6_sum_61 (by decide) ?_
  obtain ⟨h9, hf⟩ := gin_s hf
  refine g_iast C0 hG (T6_9 hG ho) h9 dX6_sum_62 (fun H locs hG => ?_)
  refine lv_aload_n hx hb dX6_sum_63 rfl (lv_at hl 0 rfl) ?_
  refine g_getSa (o := 1) (a := (t + 1)) C0 hG (T6_0 hG ho) rfl 0 (by decide) rfl rfl w_154 dX6_sum_64 ?_
  refine lv_iload_n hx hb dX6_sum_67 rfl (lv_at hl 2 rfl) ?_
  obtain ⟨h10, hf⟩ := gin_s hf
  refine g_iald C0 hG (T6_1 hG ho) h10 dX6_sum_68 ?_
  refine lv_iconst (v := (2 : Int32)) hx hb dX6_sum_69 (by decide) ?_
  refine lv_imul hx hb dX6_sum_70 ?_
  refine lv_aload_n hx hb dX6_sum_71 rfl (lv_at hl 0 rfl) ?_
  refine g_getSa (o := 2) (a := (t + 2)) C0 hG (T6_0 hG ho) rfl 1 (by decide) rfl rfl w_156 dX6_sum_72 ?_
  refine lv_iload_n hx hb dX6_sum_75 rfl (lv_at hl 2 rfl) ?_
  obtain ⟨h11, hf⟩ := gin_s hf
  refine g_iald C0 hG (T6_2 hG ho) h11 dX6_sum_76 ?_
  refine lv_isub hx hb dX6_sum_77 ?_
  refine lv_aload_n hx hb dX6_sum_78 rfl (lv_at hl 0 rfl) ?_
  refine g_getD C0 hG (T6_0 hG ho) rfl 13 (by decide) rfl w_179 dX6_sum_79 ?_
  refine lv_aload_n hx hb dX6_sum_82 rfl (lv_at hl 0 rfl) ?_
  refine g_getSa (o := 9) (a := (t + 9)) C0 hG (T6_0 hG ho) rfl 8 (by decide) rfl rfl w_170 dX6_sum_83 ?_
  obtain ⟨ho12, hf⟩ := gob_s hf
  have hb12 := Nat.le_refl (sA (sA (sA (sA (sA (sA u (t + 9) (0 : Int32).toNatClampNeg p1) (t + 9) (1 : Int32).toNatClampNeg (gA (sA u (t + 9) (0 : Int32).toNatClampNeg p1) (t + 3) p1.toNatClampNeg)) (t + 9) (2 : Int32).toNatClampNeg (gA (sA (sA u (t + 9) (0 : Int32).toNatClampNeg p1) (t + 9) (1 : Int32).toNatClampNeg (gA (sA u (t + 9) (0 : Int32).toNatClampNeg p1) (t + 3) p1.toNatClampNeg)) (t + 4) p1.toNatClampNeg)) (t + 9) (3 : Int32).toNatClampNeg p2) (t + 9) (4 : Int32).toNatClampNeg (gA (sA (sA (sA (sA u (t + 9) (0 : Int32).toNatClampNeg p1) (t + 9) (1 : Int32).toNatClampNeg (gA (sA u (t + 9) (0 : Int32).toNatClampNeg p1) (t + 3) p1.toNatClampNeg)) (t + 9) (2 : Int32).toNatClampNeg (gA (sA (sA u (t + 9) (0 : Int32).toNatClampNeg p1) (t + 9) (1 : Int32).toNatClampNeg (gA (sA u (t + 9) (0 : Int32).toNatClampNeg p1) (t + 3) p1.toNatClampNeg)) (t + 4) p1.toNatClampNeg)) (t + 9) (3 : Int32).toNatClampNeg p2) (t + 2) p2.toNatClampNeg)) (t + 9) (5 : Int32).toNatClampNeg ((gI (sA (sA (sA (sA (sA u (t + 9) (0 : Int32).toNatClampNeg p1) (t + 9) (1 : Int32).toNatClampNeg (gA (sA u (t + 9) (0 : Int32).toNatClampNeg p1) (t + 3) p1.toNatClampNeg)) (t + 9) (2 : Int32).toNatClampNeg (gA (sA (sA u (t + 9) (0 : Int32).toNatClampNeg p1) (t + 9) (1 : Int32).toNatClampNeg (gA (sA u (t + 9) (0 : Int32).toNatClampNeg p1) (t + 3) p1.toNatClampNeg)) (t + 4) p1.toNatClampNeg)) (t + 9) (3 : Int32).toNatClampNeg p2) (t + 9) (4 : Int32).toNatClampNeg (gA (sA (sA (sA (sA u (t + 9) (0 : Int32).toNatClampNeg p1) (t + 9) (1 : Int32).toNatClampNeg (gA (sA u (t + 9) (0 : Int32).toNatClampNeg p1) (t + 3) p1.toNatClampNeg)) (t + 9) (2 : Int32).toNatClampNeg (gA (sA (sA u (t + 9) (0 : Int32).toNatClampNeg p1) (t + 9) (1 : Int32).toNatClampNeg (gA (sA u (t + 9) (0 : Int32).toNatClampNeg p1) (t + 3) p1.toNatClampNeg)) (t + 4) p1.toNatClampNeg)) (t + 9) (3 : Int32).toNatClampNeg p2) (t + 2) p2.toNatClampNeg)) t 12) - (gI (sA (sA (sA (sA (sA u (t + 9) (0 : Int32).toNatClampNeg p1) (t + 9) (1 : Int32).toNatClampNeg (gA (sA u (t + 9) (0 : Int32).toNatClampNeg p1) (t + 3) p1.toNatClampNeg)) (t + 9) (2 : Int32).toNatClampNeg (gA (sA (sA u (t + 9) (0 : Int32).toNatClampNeg p1) (t + 9) (1 : Int32).toNatClampNeg (gA (sA u (t + 9) (0 : Int32).toNatClampNeg p1) (t + 3) p1.toNatClampNeg)) (t + 4) p1.toNatClampNeg)) (t + 9) (3 : Int32).toNatClampNeg p2) (t + 9) (4 : Int32).toNatClampNeg (gA (sA (sA (sA (sA u (t + 9) (0 : Int32).toNatClampNeg p1) (t + 9) (1 : Int32).toNatClampNeg (gA (sA u (t + 9) (0 : Int32).toNatClampNeg p1) (t + 3) p1.toNatClampNeg)) (t + 9) (2 : Int32).toNatClampNeg (gA (sA (sA u (t + 9) (0 : Int32).toNatClampNeg p1) (t + 9) (1 : Int32).toNatClampNeg (gA (sA u (t + 9) (0 : Int32).toNatClampNeg p1) (t + 3) p1.toNatClampNeg)) (t + 4) p1.toNatClampNeg)) (t + 9) (3 : Int32).toNatClampNeg p2) (t + 2) p2.toNatClampNeg)) t 12) / (10 : Int32) * (10 : Int32))).1
  obtain ⟨r13, hc13, hf⟩ := pb_s hf
  refine g_doI0 hG (g_runVN C0 hG (k_X0_warmth l D base Z (sA (sA (sA (sA (sA (sA u (t + 9) (0 : Int32).toNatClampNeg p1) (t + 9) (1 : Int32).toNatClampNeg (gA (sA u (t + 9) (0 : Int32).toNatClampNeg p1) (t + 3) p1.toNatClampNeg)) (t + 9) (2 : Int32).toNatClampNeg (gA (sA (sA u (t + 9) (0 : Int32).toNatClampNeg p1) (t + 9) (1 : Int32).toNatClampNeg (gA (sA u (t + 9) (0 : Int32).toNatClampNeg p1) (t + 3) p1.toNatClampNeg)) (t + 4) p1.toNatClampNeg)) (t + 9) (3 : Int32).toNatClampNeg p2) (t + 9) (4 : Int32).toNatClampNeg (gA (sA (sA (sA (sA u (t + 9) (0 : Int32).toNatClampNeg p1) (t + 9) (1 : Int32).toNatClampNeg (gA (sA u (t + 9) (0 : Int32).toNatClampNeg p1) (t + 3) p1.toNatClampNeg)) (t + 9) (2 : Int32).toNatClampNeg (gA (sA (sA u (t + 9) (0 : Int32).toNatClampNeg p1) (t + 9) (1 : Int32).toNatClampNeg (gA (sA u (t + 9) (0 : Int32).toNatClampNeg p1) (t + 3) p1.toNatClampNeg)) (t + 4) p1.toNatClampNeg)) (t + 9) (3 : Int32).toNatClampNeg p2) (t + 2) p2.toNatClampNeg)) (t + 9) (5 : Int32).toNatClampNeg ((gI (sA (sA (sA (sA (sA u (t + 9) (0 : Int32).toNatClampNeg p1) (t + 9) (1 : Int32).toNatClampNeg (gA (sA u (t + 9) (0 : Int32).toNatClampNeg p1) (t + 3) p1.toNatClampNeg)) (t + 9) (2 : Int32).toNatClampNeg (gA (sA (sA u (t + 9) (0 : Int32).toNatClampNeg p1) (t + 9) (1 : Int32).toNatClampNeg (gA (sA u (t + 9) (0 : Int32).toNatClampNeg p1) (t + 3) p1.toNatClampNeg)) (t + 4) p1.toNatClampNeg)) (t + 9) (3 : Int32).toNatClampNeg p2) (t + 9) (4 : Int32).toNatClampNeg (gA (sA (sA (sA (sA u (t + 9) (0 : Int32).toNatClampNeg p1) (t + 9) (1 : Int32).toNatClampNeg (gA (sA u (t + 9) (0 : Int32).toNatClampNeg p1) (t + 3) p1.toNatClampNeg)) (t + 9) (2 : Int32).toNatClampNeg (gA (sA (sA u (t + 9) (0 : Int32).toNatClampNeg p1) (t + 9) (1 : Int32).toNatClampNeg (gA (sA u (t + 9) (0 : Int32).toNatClampNeg p1) (t + 3) p1.toNatClampNeg)) (t + 4) p1.toNatClampNeg)) (t + 9) (3 : Int32).toNatClampNeg p2) (t + 2) p2.toNatClampNeg)) t 12) - (gI (sA (sA (sA (sA (sA u (t + 9) (0 : Int32).toNatClampNeg p1) (t + 9) (1 : Int32).toNatClampNeg (gA (sA u (t + 9) (0 : Int32).toNatClampNeg p1) (t + 3) p1.toNatClampNeg)) (t + 9) (2 : Int32).toNatClampNeg (gA (sA (sA u (t + 9) (0 : Int32).toNatClampNeg p1) (t + 9) (1 : Int32).toNatClampNeg (gA (sA u (t + 9) (0 : Int32).toNatClampNeg p1) (t + 3) p1.toNatClampNeg)) (t + 4) p1.toNatClampNeg)) (t + 9) (3 : Int32).toNatClampNeg p2) (t + 9) (4 : Int32).toNatClampNeg (gA (sA (sA (sA (sA u (t + 9) (0 : Int32).toNatClampNeg p1) (t + 9) (1 : Int32).toNatClampNeg (gA (sA u (t + 9) (0 : Int32).toNatClampNeg p1) (t + 3) p1.toNatClampNeg)) (t + 9) (2 : Int32).toNatClampNeg (gA (sA (sA u (t + 9) (0 : Int32).toNatClampNeg p1) (t + 9) (1 : Int32).toNatClampNeg (gA (sA u (t + 9) (0 : Int32).toNatClampNeg p1) (t + 3) p1.toNatClampNeg)) (t + 4) p1.toNatClampNeg)) (t + 9) (3 : Int32).toNatClampNeg p2) (t + 2) p2.toNatClampNeg)) t 12) / (10 : Int32) * (10 : Int32))) (gR (sA (sA (sA (sA (sA (sA u (t + 9) (0 : Int32).toNatClampNeg p1) (t + 9) (1 : Int32).toNatClampNeg (gA (sA u (t + 9) (0 : Int32).toNatClampNeg p1) (t + 3) p1.toNatClampNeg)) (t + 9) (2 : Int32).toNatClampNeg (gA (sA (sA u (t + 9) (0 : Int32).toNatClampNeg p1) (t + 9) (1 : Int32).toNatClampNeg (gA (sA u (t + 9) (0 : Int32).toNatClampNeg p1) (t + 3) p1.toNatClampNeg)) (t + 4) p1.toNatClampNeg)) (t + 9) (3 : Int32).toNatClampNeg p2) (t + 9) (4 : Int32).toNatClampNeg (gA (sA (sA (sA (sA u (t + 9) (0 : Int32).toNatClampNeg p1) (t + 9) (1 : Int32).toNatClampNeg (gA (sA u (t + 9) (0 : Int32).toNatClampNeg p1) (t + 3) p1.toNatClampNeg)) (t + 9) (2 : Int32).toNatClampNeg (gA (sA (sA u (t + 9) (0 : Int32).toNatClampNeg p1) (t + 9) (1 : Int32).toNatClampNeg (gA (sA u (t + 9) (0 : Int32).toNatClampNeg p1) (t + 3) p1.toNatClampNeg)) (t + 4) p1.toNatClampNeg)) (t + 9) (3 : Int32).toNatClampNeg p2) (t + 2) p2.toNatClampNeg)) (t + 9) (5 : Int32).toNatClampNeg ((gI (sA (sA (sA (sA (sA u (t + 9) (0 : Int32).toNatClampNeg p1) (t + 9) (1 : Int32).toNatClampNeg (gA (sA u (t + 9) (0 : Int32).toNatClampNeg p1) (t + 3) p1.toNatClampNeg)) (t + 9) (2 : Int32).toNatClampNeg (gA (sA (sA u (t + 9) (0 : Int32).toNatClampNeg p1) (t + 9) (1 : Int32).toNatClampNeg (gA (sA u (t + 9) (0 : Int32).toNatClampNeg p1) (t + 3) p1.toNatClampNeg)) (t + 4) p1.toNatClampNeg)) (t + 9) (3 : Int32).toNatClampNeg p2) (t + 9) (4 : Int32).toNatClampNeg (gA (sA (sA (sA (sA u (t + 9) (0 : Int32).toNatClampNeg p1) (t + 9) (1 : Int32).toNatClampNeg (gA (sA u (t + 9) (0 : Int32).toNatClampNeg p1) (t + 3) p1.toNatClampNeg)) (t + 9) (2 : Int32).toNatClampNeg (gA (sA (sA u (t + 9) (0 : Int32).toNatClampNeg p1) (t + 9) (1 : Int32).toNatClampNeg (gA (sA u (t + 9) (0 : Int32).toNatClampNeg p1) (t + 3) p1.toNatClampNeg)) (t + 4) p1.toNatClampNeg)) (t + 9) (3 : Int32).toNatClampNeg p2) (t + 2) p2.toNatClampNeg)) t 12) - (gI (sA (sA (sA (sA (sA u (t + 9) (0 : Int32).toNatClampNeg p1) (t + 9) (1 : Int32).toNatClampNeg (gA (sA u (t + 9) (0 : Int32).toNatClampNeg p1) (t + 3) p1.toNatClampNeg)) (t + 9) (2 : Int32).toNatClampNeg (gA (sA (sA u (t + 9) (0 : Int32).toNatClampNeg p1) (t + 9) (1 : Int32).toNatClampNeg (gA (sA u (t + 9) (0 : Int32).toNatClampNeg p1) (t + 3) p1.toNatClampNeg)) (t + 4) p1.toNatClampNeg)) (t + 9) (3 : Int32).toNatClampNeg p2) (t + 9) (4 : Int32).toNatClampNeg (gA (sA (sA (sA (sA u (t + 9) (0 : Int32).toNatClampNeg p1) (t + 9) (1 : Int32).toNatClampNeg (gA (sA u (t + 9) (0 : Int32).toNatClampNeg p1) (t + 3) p1.toNatClampNeg)) (t + 9) (2 : Int32).toNatClampNeg (gA (sA (sA u (t + 9) (0 : Int32).toNatClampNeg p1) (t + 9) (1 : Int32).toNatClampNeg (gA (sA u (t + 9) (0 : Int32).toNatClampNeg p1) (t + 3) p1.toNatClampNeg)) (t + 4) p1.toNatClampNeg)) (t + 9) (3 : Int32).toNatClampNeg p2) (t + 2) p2.toNatClampNeg)) t 12) / (10 : Int32) * (10 : Int32))) t 13) (t + 9) r13 (gok.mono ho12 hb12) (S6_9 ho) hc13) m_X0_warmth v_X0_warmth w_401 (by decide) (g_recv C0 hG (D0_0 ho12 hb12) rfl) rfl hl.1 rfl (Nat.le_of_ble_eq_true rfl) dX6_sum_86 ⟨Nat.zero_le _, Nat.zero_le _⟩) (fun H locs hG hk => ?_)
  refine lv_iadd hx hb dX6_sum_89 ?_
  obtain ⟨hr1, hu⟩ := gret_s hf
  subst hr1
  subst hu
  subst hQ
  exact g_iret C0 hG hr dX6_sum_90
theorem dX6_twiceIfFresh_0 : decode cX6_twiceIfFresh 0 = .ok (.aload_n 0, 1) := by decide +kernel
theorem dX6_twiceIfFresh_1 : decode cX6_twiceIfFresh 1 = .ok (.getfield 15, 3) := by decide +kernel
theorem dX6_twiceIfFresh_4 : decode cX6_twiceIfFresh 4 = .ok (.iload_n 2, 1) := by decide +kernel
theorem dX6_twiceIfFresh_5 : decode cX6_twiceIfFresh 5 = .ok (.iaload, 1) := by decide +kernel
theorem dX6_twiceIfFresh_6 : decode cX6_twiceIfFresh 6 = .ok (.ifCond .ne 9, 3) := by decide +kernel
theorem dX6_twiceIfFresh_9 : decode cX6_twiceIfFresh 9 = .ok (.iload_n 1, 1) := by decide +kernel
theorem dX6_twiceIfFresh_10 : decode cX6_twiceIfFresh 10 = .ok (.iconst 2, 1) := by decide +kernel
theorem dX6_twiceIfFresh_11 : decode cX6_twiceIfFresh 11 = .ok (.imul, 1) := by decide +kernel
theorem dX6_twiceIfFresh_12 : decode cX6_twiceIfFresh 12 = .ok (.goto 4, 3) := by decide +kernel
theorem dX6_twiceIfFresh_15 : decode cX6_twiceIfFresh 15 = .ok (.iload_n 1, 1) := by decide +kernel
theorem dX6_twiceIfFresh_16 : decode cX6_twiceIfFresh 16 = .ok (.ireturn, 1) := by decide +kernel
def f_X6_twiceIfFresh (t : Nat) (p1 : Int32) (p2 : Int32) (u : Mem) : Option (Int32) := gin p2 8 ((if (gA u (t + 2) p2.toNatClampNeg) = 0 then some (p1 * (2 : Int32)) else some p1))
set_option maxHeartbeats 4000000 in
set_option maxRecDepth 100000 in
theorem k_X6_twiceIfFresh (l : Launch) (D : gDt) (base : Nat) (Z : gZt) (u : Mem) (t : Nat) (p1 : Int32) (p2 : Int32) (r : Int32) (ho : gok 129 t l6) (hf : f_X6_twiceIfFresh t p1 p2 u = some r) : Met l yX6_twiceIfFresh (gws yX6_twiceIfFresh cX6_twiceIfFresh 3 (some .int)) (gRm 1 0 0) (gPc D base Z u [.ref (base + t), .int p1, .int p2]) (gQi D base r u) 0 0 (gF base) := by
  refine Met.ofW (cc := cX6_twiceIfFresh) (maxL := 3) (ret := some .int) (by decide) rfl ?_
  intro p e s m args below meth c s₁ B hml hv
  obtain ⟨rfl, C0, hG⟩ := g_enter B hml hv
  have hr := B.returns
  have C0 : gC p s m meth c _ cX6_twiceIfFresh 3 RX6 D base Z := C0
  have hx := C0.1
  have hb := C0.2.1
  have hl := lv_entry ([.ref (base + t), .int p1, .int p2]) (n := 3) (Nat.le_of_ble_eq_true rfl)
  rw [lg_entry_eq]
  generalize (lg_sl ([.ref (base + t), .int p1, .int p2]) ++ List.replicate (3 - (lg_sl ([.ref (base + t), .int p1, .int p2])).length) Slot.unset).toArray = ls at hl ⊢
  have hl : lv_has ls 3 [(0, .ref (base + t)), (1, .int p1), (2, .int p2)] := hl
  obtain ⟨Q, hQ⟩ : ∃ Q, Q = MQ below (gQi D base r u) ([.ref (base + t), .int p1, .int p2] : List Value).toArray s 0 0 (gF base) := ⟨_, rfl⟩
  rw [← hQ]
  change W p l e (gRm 1 0 0) s m _ below meth c _ _ _ _ _ _
  unfold f_X6_twiceIfFresh at hf
  refine lv_aload_n hx hb dX6_twiceIfFresh_0 rfl (lv_at hl 0 rfl) ?_
  refine g_getSa (o := 2) (a := (t + 2)) C0 hG (T6_0 hG ho) rfl 1 (by decide) rfl rfl w_156 dX6_twiceIfFresh_1 ?_
  refine lv_iload_n hx hb dX6_twiceIfFresh_4 rfl (lv_at hl 2 rfl) ?_
  obtain ⟨h1, hf⟩ := gin_s hf
  refine g_iald C0 hG (T6_2 hG ho) h1 dX6_twiceIfFresh_5 ?_
  refine lv_if_ne (tgt := 15) hx hb dX6_twiceIfFresh_6 (by decide) (fun c2 => ?_) (fun c2 => ?_)
  · have hf := gif_f c2 hf
    refine lv_iload_n hx hb dX6_twiceIfFresh_15 rfl (lv_at hl 1 rfl) ?_
    have hf := Option.some.inj hf
    subst hf
    subst hQ
    exact g_iret C0 hG hr dX6_twiceIfFresh_16
  · have hf := gif_t c2 hf
    refine lv_iload_n hx hb dX6_twiceIfFresh_9 rfl (lv_at hl 1 rfl) ?_
    refine lv_iconst (v := (2 : Int32)) hx hb dX6_twiceIfFresh_10 (by decide) ?_
    refine lv_imul hx hb dX6_twiceIfFresh_11 ?_
    refine lv_goto (tgt := 16) hx hb dX6_twiceIfFresh_12 (by decide) ?_
    have hf := Option.some.inj hf
    subst hf
    subst hQ
    exact g_iret C0 hG hr dX6_twiceIfFresh_16
theorem dX6_glow_0 : decode cX6_glow 0 = .ok (.aload_n 0, 1) := by decide +kernel
theorem dX6_glow_1 : decode cX6_glow 1 = .ok (.iload_n 1, 1) := by decide +kernel
theorem dX6_glow_2 : decode cX6_glow 2 = .ok (.iload_n 2, 1) := by decide +kernel
theorem dX6_glow_3 : decode cX6_glow 3 = .ok (.invokevirtual 66, 3) := by decide +kernel
theorem dX6_glow_6 : decode cX6_glow 6 = .ok (.istore_n 3, 1) := by decide +kernel
theorem dX6_glow_7 : decode cX6_glow 7 = .ok (.aload_n 0, 1) := by decide +kernel
theorem dX6_glow_8 : decode cX6_glow 8 = .ok (.getfield 18, 3) := by decide +kernel
theorem dX6_glow_11 : decode cX6_glow 11 = .ok (.iload_n 1, 1) := by decide +kernel
theorem dX6_glow_12 : decode cX6_glow 12 = .ok (.iaload, 1) := by decide +kernel
theorem dX6_glow_13 : decode cX6_glow 13 = .ok (.tableswitch 112 1 6 #[39, 48, 52, 59, 81, 92], 39) := by decide +kernel
theorem dX6_glow_52 : decode cX6_glow 52 = .ok (.iload_n 3, 1) := by decide +kernel
theorem dX6_glow_53 : decode cX6_glow 53 = .ok (.aload_n 0, 1) := by decide +kernel
theorem dX6_glow_54 : decode cX6_glow 54 = .ok (.getfield 21, 3) := by decide +kernel
theorem dX6_glow_57 : decode cX6_glow 57 = .ok (.iload_n 1, 1) := by decide +kernel
theorem dX6_glow_58 : decode cX6_glow 58 = .ok (.iaload, 1) := by decide +kernel
theorem dX6_glow_59 : decode cX6_glow 59 = .ok (.iadd, 1) := by decide +kernel
theorem dX6_glow_60 : decode cX6_glow 60 = .ok (.ireturn, 1) := by decide +kernel
theorem dX6_glow_61 : decode cX6_glow 61 = .ok (.iload_n 3, 1) := by decide +kernel
theorem dX6_glow_62 : decode cX6_glow 62 = .ok (.iconst 2, 1) := by decide +kernel
theorem dX6_glow_63 : decode cX6_glow 63 = .ok (.idiv, 1) := by decide +kernel
theorem dX6_glow_64 : decode cX6_glow 64 = .ok (.ireturn, 1) := by decide +kernel
theorem dX6_glow_65 : decode cX6_glow 65 = .ok (.aload_n 0, 1) := by decide +kernel
theorem dX6_glow_66 : decode cX6_glow 66 = .ok (.iload_n 3, 1) := by decide +kernel
theorem dX6_glow_67 : decode cX6_glow 67 = .ok (.iload_n 2, 1) := by decide +kernel
theorem dX6_glow_68 : decode cX6_glow 68 = .ok (.invokevirtual 70, 3) := by decide +kernel
theorem dX6_glow_71 : decode cX6_glow 71 = .ok (.ireturn, 1) := by decide +kernel
theorem dX6_glow_72 : decode cX6_glow 72 = .ok (.aload_n 0, 1) := by decide +kernel
theorem dX6_glow_73 : decode cX6_glow 73 = .ok (.getfield 50, 3) := by decide +kernel
theorem dX6_glow_76 : decode cX6_glow 76 = .ok (.iconst 4, 1) := by decide +kernel
theorem dX6_glow_77 : decode cX6_glow 77 = .ok (.irem, 1) := by decide +kernel
theorem dX6_glow_78 : decode cX6_glow 78 = .ok (.ifCond .ne 14, 3) := by decide +kernel
theorem dX6_glow_81 : decode cX6_glow 81 = .ok (.iload_n 3, 1) := by decide +kernel
theorem dX6_glow_82 : decode cX6_glow 82 = .ok (.aload_n 0, 1) := by decide +kernel
theorem dX6_glow_83 : decode cX6_glow 83 = .ok (.getfield 21, 3) := by decide +kernel
theorem dX6_glow_86 : decode cX6_glow 86 = .ok (.iload_n 1, 1) := by decide +kernel
theorem dX6_glow_87 : decode cX6_glow 87 = .ok (.iaload, 1) := by decide +kernel
theorem dX6_glow_88 : decode cX6_glow 88 = .ok (.iadd, 1) := by decide +kernel
theorem dX6_glow_89 : decode cX6_glow 89 = .ok (.goto 4, 3) := by decide +kernel
theorem dX6_glow_92 : decode cX6_glow 92 = .ok (.iconst 0, 1) := by decide +kernel
theorem dX6_glow_93 : decode cX6_glow 93 = .ok (.ireturn, 1) := by decide +kernel
theorem dX6_glow_94 : decode cX6_glow 94 = .ok (.iload_n 3, 1) := by decide +kernel
theorem dX6_glow_95 : decode cX6_glow 95 = .ok (.iconst 2, 1) := by decide +kernel
theorem dX6_glow_96 : decode cX6_glow 96 = .ok (.idiv, 1) := by decide +kernel
theorem dX6_glow_97 : decode cX6_glow 97 = .ok (.aload_n 0, 1) := by decide +kernel
theorem dX6_glow_98 : decode cX6_glow 98 = .ok (.getfield 21, 3) := by decide +kernel
theorem dX6_glow_101 : decode cX6_glow 101 = .ok (.iload_n 1, 1) := by decide +kernel
theorem dX6_glow_102 : decode cX6_glow 102 = .ok (.iaload, 1) := by decide +kernel
theorem dX6_glow_103 : decode cX6_glow 103 = .ok (.isub, 1) := by decide +kernel
theorem dX6_glow_104 : decode cX6_glow 104 = .ok (.ireturn, 1) := by decide +kernel
theorem dX6_glow_105 : decode cX6_glow 105 = .ok (.aload_n 0, 1) := by decide +kernel
theorem dX6_glow_106 : decode cX6_glow 106 = .ok (.iload_n 3, 1) := by decide +kernel
theorem dX6_glow_107 : decode cX6_glow 107 = .ok (.iload_n 2, 1) := by decide +kernel
theorem dX6_glow_108 : decode cX6_glow 108 = .ok (.invokevirtual 70, 3) := by decide +kernel
theorem dX6_glow_111 : decode cX6_glow 111 = .ok (.aload_n 0, 1) := by decide +kernel
theorem dX6_glow_112 : decode cX6_glow 112 = .ok (.getfield 34, 3) := by decide +kernel
theorem dX6_glow_115 : decode cX6_glow 115 = .ok (.iload_n 1, 1) := by decide +kernel
theorem dX6_glow_116 : decode cX6_glow 116 = .ok (.iconst 4, 1) := by decide +kernel
theorem dX6_glow_117 : decode cX6_glow 117 = .ok (.imul, 1) := by decide +kernel
theorem dX6_glow_118 : decode cX6_glow 118 = .ok (.iload_n 2, 1) := by decide +kernel
theorem dX6_glow_119 : decode cX6_glow 119 = .ok (.iconst 4, 1) := by decide +kernel
theorem dX6_glow_120 : decode cX6_glow 120 = .ok (.irem, 1) := by decide +kernel
theorem dX6_glow_121 : decode cX6_glow 121 = .ok (.iadd, 1) := by decide +kernel
theorem dX6_glow_122 : decode cX6_glow 122 = .ok (.iaload, 1) := by decide +kernel
theorem dX6_glow_123 : decode cX6_glow 123 = .ok (.iadd, 1) := by decide +kernel
theorem dX6_glow_124 : decode cX6_glow 124 = .ok (.ireturn, 1) := by decide +kernel
theorem dX6_glow_125 : decode cX6_glow 125 = .ok (.iload_n 3, 1) := by decide +kernel
theorem dX6_glow_126 : decode cX6_glow 126 = .ok (.ireturn, 1) := by decide +kernel
def f_X6_glow (t : Nat) (p1 : Int32) (p2 : Int32) (u : Mem) : Option (Int32 × Mem) := obind (f_X6_sum t p1 p2 u) (fun r1 u1 => gin p1 6 ((if (gA u1 (t + 3) p1.toNatClampNeg) = (1 : Int32) then gin p1 6 (some (r1 + (gA u1 (t + 4) p1.toNatClampNeg), u1)) else (if (gA u1 (t + 3) p1.toNatClampNeg) = (2 : Int32) then some (r1 / (2 : Int32), u1) else (if (gA u1 (t + 3) p1.toNatClampNeg) = (3 : Int32) then Option.bind (f_X6_twiceIfFresh t r1 p2 u1) (fun r7 => some (r7, u1)) else (if (gA u1 (t + 3) p1.toNatClampNeg) = (4 : Int32) then (if ((gI u1 t 12) - (gI u1 t 12) / (4 : Int32) * (4 : Int32)) = 0 then gin p1 6 (some (r1 + (gA u1 (t + 4) p1.toNatClampNeg), u1)) else some ((0 : Int32), u1)) else (if (gA u1 (t + 3) p1.toNatClampNeg) = (5 : Int32) then gin p1 6 (some ((r1 / (2 : Int32)) - (gA u1 (t + 4) p1.toNatClampNeg), u1)) else (if (gA u1 (t + 3) p1.toNatClampNeg) = (6 : Int32) then Option.bind (f_X6_twiceIfFresh t r1 p2 u1) (fun r14 => gin ((p1 * (4 : Int32)) + (p2 - p2 / (4 : Int32) * (4 : Int32))) 24 (some (r14 + (gA u1 (t + 8) ((p1 * (4 : Int32)) + (p2 - p2 / (4 : Int32) * (4 : Int32))).toNatClampNeg), u1))) else some (r1, u1)))))))))
set_option maxHeartbeats 4000000 in
set_option maxRecDepth 100000 in
theorem k_X6_glow (l : Launch) (D : gDt) (base : Nat) (Z : gZt) (u : Mem) (t : Nat) (p1 : Int32) (p2 : Int32) (r : Int32) (u' : Mem) (ho : gok 129 t l6) (hf : f_X6_glow t p1 p2 u = some (r, u')) : Met l yX6_glow (gws yX6_glow cX6_glow 4 (some .int)) (gRm 4 0 0) (gPc D base Z u [.ref (base + t), .int p1, .int p2]) (gQi D base r u') 0 0 (gF base) := by
  refine Met.ofW (cc := cX6_glow) (maxL := 4) (ret := some .int) (by decide) rfl ?_
  intro p e s m args below meth c s₁ B hml hv
  obtain ⟨rfl, C0, hG⟩ := g_enter B hml hv
  have hr := B.returns
  have C0 : gC p s m meth c _ cX6_glow 4 RX6 D base Z := C0
  have hx := C0.1
  have hb := C0.2.1
  have hl := lv_entry ([.ref (base + t), .int p1, .int p2]) (n := 4) (Nat.le_of_ble_eq_true rfl)
  rw [lg_entry_eq]
  generalize (lg_sl ([.ref (base + t), .int p1, .int p2]) ++ List.replicate (4 - (lg_sl ([.ref (base + t), .int p1, .int p2])).length) Slot.unset).toArray = ls at hl ⊢
  have hl : lv_has ls 4 [(0, .ref (base + t)), (1, .int p1), (2, .int p2)] := hl
  obtain ⟨Q, hQ⟩ : ∃ Q, Q = MQ below (gQi D base r u') ([.ref (base + t), .int p1, .int p2] : List Value).toArray s 0 0 (gF base) := ⟨_, rfl⟩
  rw [← hQ]
  change W p l e (gRm 4 0 0) s m _ below meth c _ _ _ _ _ _
  unfold f_X6_glow at hf
  refine lv_aload_n hx hb dX6_glow_0 rfl (lv_at hl 0 rfl) ?_
  refine lv_iload_n hx hb dX6_glow_1 rfl (lv_at hl 1 rfl) ?_
  refine lv_iload_n hx hb dX6_glow_2 rfl (lv_at hl 2 rfl) ?_
  obtain ⟨r1, u1, hc1, hf⟩ := obind_s hf
  refine g_doI0 hG (g_runV C0 hG (k_X6_sum l D base Z u t p1 p2 r1 u1 ho hc1) m_X6_sum v_X6_sum w_397 (by decide) (g_recv C0 hG (T6_0 hG ho) rfl) rfl hl.1 rfl (Nat.le_of_ble_eq_true rfl) dX6_glow_3 ⟨Nat.zero_le _, Nat.zero_le _⟩) (fun H locs hG hk => ?_)
  refine lv_istore_n (lv' := [(3, .int r1), (0, .ref (base + t)), (1, .int p1), (2, .int p2)]) hx hb dX6_glow_6 rfl hl (by decide) rfl (fun ls hl => ?_)
  refine lv_aload_n hx hb dX6_glow_7 rfl (lv_at hl 1 rfl) ?_
  refine g_getSa (o := 3) (a := (t + 3)) C0 hG (T6_0 hG ho) rfl 2 (by decide) rfl rfl w_158 dX6_glow_8 ?_
  refine lv_iload_n hx hb dX6_glow_11 rfl (lv_at hl 2 rfl) ?_
  obtain ⟨h2, hf⟩ := gin_s hf
  refine g_iald C0 hG (T6_3 hG ho) h2 dX6_glow_12 ?_
  refine (Decidable.em ((gA u1 (t + 3) p1.toNatClampNeg) = (1 : Int32))).elim (fun c3 => ?_) (fun c3 => ?_)
  · have hf := gif_t c3 hf
    refine lv_tableIn (off := 39) (tgt := 52) hx hb dX6_glow_13 (by rw [c3]; decide) (by rw [c3]; decide) (by rw [c3]; rfl) (by decide) ?_
    refine lv_iload_n hx hb dX6_glow_52 rfl (lv_at hl 0 rfl) ?_
    refine lv_aload_n hx hb dX6_glow_53 rfl (lv_at hl 1 rfl) ?_
    refine g_getSa (o := 4) (a := (t + 4)) C0 hG (T6_0 hG ho) rfl 3 (by decide) rfl rfl w_160 dX6_glow_54 ?_
    refine lv_iload_n hx hb dX6_glow_57 rfl (lv_at hl 2 rfl) ?_
    obtain ⟨h4, hf⟩ := gin_s hf
    refine g_iald C0 hG (T6_4 hG ho) h4 dX6_glow_58 ?_
    refine lv_iadd hx hb dX6_glow_59 ?_
    obtain ⟨hr1, hu⟩ := gret_s hf
    subst hr1
    subst hu
    subst hQ
    exact g_iret C0 hG hr dX6_glow_60
  · have hf := gif_f c3 hf
    refine (Decidable.em ((gA u1 (t + 3) p1.toNatClampNeg) = (2 : Int32))).elim (fun c5 => ?_) (fun c5 => ?_)
    · have hf := gif_t c5 hf
      refine lv_tableIn (off := 48) (tgt := 61) hx hb dX6_glow_13 (by rw [c5]; decide) (by rw [c5]; decide) (by rw [c5]; rfl) (by decide) ?_
      refine lv_iload_n hx hb dX6_glow_61 rfl (lv_at hl 0 rfl) ?_
      refine lv_iconst (v := (2 : Int32)) hx hb dX6_glow_62 (by decide) ?_
      refine lv_idiv hx hb dX6_glow_63 (by decide) ?_
      obtain ⟨hr1, hu⟩ := gret_s hf
      subst hr1
      subst hu
      subst hQ
      exact g_iret C0 hG hr dX6_glow_64
    · have hf := gif_f c5 hf
      refine (Decidable.em ((gA u1 (t + 3) p1.toNatClampNeg) = (3 : Int32))).elim (fun c6 => ?_) (fun c6 => ?_)
      · have hf := gif_t c6 hf
        refine lv_tableIn (off := 52) (tgt := 65) hx hb dX6_glow_13 (by rw [c6]; decide) (by rw [c6]; decide) (by rw [c6]; rfl) (by decide) ?_
        refine lv_aload_n hx hb dX6_glow_65 rfl (lv_at hl 1 rfl) ?_
        refine lv_iload_n hx hb dX6_glow_66 rfl (lv_at hl 0 rfl) ?_
        refine lv_iload_n hx hb dX6_glow_67 rfl (lv_at hl 3 rfl) ?_
        obtain ⟨r7, hc7, hf⟩ := pb_s hf
        refine g_doI0 hG (g_runV C0 hG (k_X6_twiceIfFresh l D base Z u1 t r1 p2 r7 ho hc7) m_X6_twiceIfFresh v_X6_twiceIfFresh w_408 (by decide) (g_recv C0 hG (T6_0 hG ho) rfl) rfl hl.1 rfl (Nat.le_of_ble_eq_true rfl) dX6_glow_68 ⟨Nat.zero_le _, Nat.zero_le _⟩) (fun H locs hG hk => ?_)
        obtain ⟨hr1, hu⟩ := gret_s hf
        subst hr1
        subst hu
        subst hQ
        exact g_iret C0 hG hr dX6_glow_71
      · have hf := gif_f c6 hf
        refine (Decidable.em ((gA u1 (t + 3) p1.toNatClampNeg) = (4 : Int32))).elim (fun c8 => ?_) (fun c8 => ?_)
        · have hf := gif_t c8 hf
          refine lv_tableIn (off := 59) (tgt := 72) hx hb dX6_glow_13 (by rw [c8]; decide) (by rw [c8]; decide) (by rw [c8]; rfl) (by decide) ?_
          refine lv_aload_n hx hb dX6_glow_72 rfl (lv_at hl 1 rfl) ?_
          refine g_getI C0 hG (T6_0 hG ho) rfl 12 (by decide) rfl w_177 dX6_glow_73 ?_
          refine lv_iconst (v := (4 : Int32)) hx hb dX6_glow_76 (by decide) ?_
          refine lv_irem hx hb dX6_glow_77 (by decide) ?_
          refine lv_if_ne (tgt := 92) hx hb dX6_glow_78 (by decide) (fun c9 => ?_) (fun c9 => ?_)
          · have hf := gif_f c9 hf
            refine lv_iconst (v := (0 : Int32)) hx hb dX6_glow_92 (by decide) ?_
            obtain ⟨hr1, hu⟩ := gret_s hf
            subst hr1
            subst hu
            subst hQ
            exact g_iret C0 hG hr dX6_glow_93
          · have hf := gif_t c9 hf
            refine lv_iload_n hx hb dX6_glow_81 rfl (lv_at hl 0 rfl) ?_
            refine lv_aload_n hx hb dX6_glow_82 rfl (lv_at hl 1 rfl) ?_
            refine g_getSa (o := 4) (a := (t + 4)) C0 hG (T6_0 hG ho) rfl 3 (by decide) rfl rfl w_160 dX6_glow_83 ?_
            refine lv_iload_n hx hb dX6_glow_86 rfl (lv_at hl 2 rfl) ?_
            obtain ⟨h10, hf⟩ := gin_s hf
            refine g_iald C0 hG (T6_4 hG ho) h10 dX6_glow_87 ?_
            refine lv_iadd hx hb dX6_glow_88 ?_
            refine lv_goto (tgt := 93) hx hb dX6_glow_89 (by decide) ?_
            obtain ⟨hr1, hu⟩ := gret_s hf
            subst hr1
            subst hu
            subst hQ
            exact g_iret C0 hG hr dX6_glow_93
        · have hf := gif_f c8 hf
          refine (Decidable.em ((gA u1 (t + 3) p1.toNatClampNeg) = (5 : Int32))).elim (fun c11 => ?_) (fun c11 => ?_)
          · have hf := gif_t c11 hf
            refine lv_tableIn (off := 81) (tgt := 94) hx hb dX6_glow_13 (by rw [c11]; decide) (by rw [c11]; decide) (by rw [c11]; rfl) (by decide) ?_
            refine lv_iload_n hx hb dX6_glow_94 rfl (lv_at hl 0 rfl) ?_
            refine lv_iconst (v := (2 : Int32)) hx hb dX6_glow_95 (by decide) ?_
            refine lv_idiv hx hb dX6_glow_96 (by decide) ?_
            refine lv_aload_n hx hb dX6_glow_97 rfl (lv_at hl 1 rfl) ?_
            refine g_getSa (o := 4) (a := (t + 4)) C0 hG (T6_0 hG ho) rfl 3 (by decide) rfl rfl w_160 dX6_glow_98 ?_
            refine lv_iload_n hx hb dX6_glow_101 rfl (lv_at hl 2 rfl) ?_
            obtain ⟨h12, hf⟩ := gin_s hf
            refine g_iald C0 hG (T6_4 hG ho) h12 dX6_glow_102 ?_
            refine lv_isub hx hb dX6_glow_103 ?_
            obtain ⟨hr1, hu⟩ := gret_s hf
            subst hr1
            subst hu
            subst hQ
            exact g_iret C0 hG hr dX6_glow_104
          · have hf := gif_f c11 hf
            refine (Decidable.em ((gA u1 (t + 3) p1.toNatClampNeg) = (6 : Int32))).elim (fun c13 => ?_) (fun c13 => ?_)
            · have hf := gif_t c13 hf
              refine lv_tableIn (off := 92) (tgt := 105) hx hb dX6_glow_13 (by rw [c13]; decide) (by rw [c13]; decide) (by rw [c13]; rfl) (by decide) ?_
              refine lv_aload_n hx hb dX6_glow_105 rfl (lv_at hl 1 rfl) ?_
              refine lv_iload_n hx hb dX6_glow_106 rfl (lv_at hl 0 rfl) ?_
              refine lv_iload_n hx hb dX6_glow_107 rfl (lv_at hl 3 rfl) ?_
              obtain ⟨r14, hc14, hf⟩ := pb_s hf
              refine g_doI0 hG (g_runV C0 hG (k_X6_twiceIfFresh l D base Z u1 t r1 p2 r14 ho hc14) m_X6_twiceIfFresh v_X6_twiceIfFresh w_408 (by decide) (g_recv C0 hG (T6_0 hG ho) rfl) rfl hl.1 rfl (Nat.le_of_ble_eq_true rfl) dX6_glow_108 ⟨Nat.zero_le _, Nat.zero_le _⟩) (fun H locs hG hk => ?_)
              refine lv_aload_n hx hb dX6_glow_111 rfl (lv_at hl 1 rfl) ?_
              refine g_getSa (o := 8) (a := (t + 8)) C0 hG (T6_0 hG ho) rfl 7 (by decide) rfl rfl w_168 dX6_glow_112 ?_
              refine lv_iload_n hx hb dX6_glow_115 rfl (lv_at hl 2 rfl) ?_
              refine lv_iconst (v := (4 : Int32)) hx hb dX6_glow_116 (by decide) ?_
              refine lv_imul hx hb dX6_glow_117 ?_
              refine lv_iload_n hx hb dX6_glow_118 rfl (lv_at hl 3 rfl) ?_
              refine lv_iconst (v := (4 : Int32)) hx hb dX6_glow_119 (by decide) ?_
              refine lv_irem hx hb dX6_glow_120 (by decide) ?_
              refine lv_iadd hx hb dX6_glow_121 ?_
              obtain ⟨h15, hf⟩ := gin_s hf
              refine g_iald C0 hG (T6_8 hG ho) h15 dX6_glow_122 ?_
              refine lv_iadd hx hb dX6_glow_123 ?_
              obtain ⟨hr1, hu⟩ := gret_s hf
              subst hr1
              subst hu
              subst hQ
              exact g_iret C0 hG hr dX6_glow_124
            · have hf := gif_f c13 hf
              refine lv_tableOut (tgt := 125) hx hb dX6_glow_13 (by
                  have n0 := lv_neT c3 (k := (1 : Int32)) (a := 1) (by decide)
                  have n1 := lv_neT c5 (k := (2 : Int32)) (a := 2) (by decide)
                  have n2 := lv_neT c6 (k := (3 : Int32)) (a := 3) (by decide)
                  have n3 := lv_neT c8 (k := (4 : Int32)) (a := 4) (by decide)
                  have n4 := lv_neT c11 (k := (5 : Int32)) (a := 5) (by decide)
                  have n5 := lv_neT c13 (k := (6 : Int32)) (a := 6) (by decide)
                  omega) (by decide) ?_
              refine lv_iload_n hx hb dX6_glow_125 rfl (lv_at hl 0 rfl) ?_
              obtain ⟨hr1, hu⟩ := gret_s hf
              subst hr1
              subst hu
              subst hQ
              exact g_iret C0 hG hr dX6_glow_126
theorem dX6_favourite_0 : decode cX6_favourite 0 = .ok (.bipush (-5), 2) := by decide +kernel
theorem dX6_favourite_2 : decode cX6_favourite 2 = .ok (.istore_n 2, 1) := by decide +kernel
theorem dX6_favourite_3 : decode cX6_favourite 3 = .ok (.iconst 0, 1) := by decide +kernel
theorem dX6_favourite_4 : decode cX6_favourite 4 = .ok (.istore_n 3, 1) := by decide +kernel
theorem dX6_favourite_5 : decode cX6_favourite 5 = .ok (.iconst 0, 1) := by decide +kernel
theorem dX6_favourite_6 : decode cX6_favourite 6 = .ok (.istore 4, 2) := by decide +kernel
theorem dX6_favourite_8 : decode cX6_favourite 8 = .ok (.iload 4, 2) := by decide +kernel
theorem dX6_favourite_10 : decode cX6_favourite 10 = .ok (.bipush 8, 2) := by decide +kernel
theorem dX6_favourite_12 : decode cX6_favourite 12 = .ok (.if_icmp .ge 44, 3) := by decide +kernel
theorem dX6_favourite_15 : decode cX6_favourite 15 = .ok (.aload_n 0, 1) := by decide +kernel
theorem dX6_favourite_16 : decode cX6_favourite 16 = .ok (.iload_n 1, 1) := by decide +kernel
theorem dX6_favourite_17 : decode cX6_favourite 17 = .ok (.iload 4, 2) := by decide +kernel
theorem dX6_favourite_19 : decode cX6_favourite 19 = .ok (.invokevirtual 77, 3) := by decide +kernel
theorem dX6_favourite_22 : decode cX6_favourite 22 = .ok (.ifCond .eq 13, 3) := by decide +kernel
theorem dX6_favourite_25 : decode cX6_favourite 25 = .ok (.aload_n 0, 1) := by decide +kernel
theorem dX6_favourite_26 : decode cX6_favourite 26 = .ok (.iload_n 1, 1) := by decide +kernel
theorem dX6_favourite_27 : decode cX6_favourite 27 = .ok (.iload 4, 2) := by decide +kernel
theorem dX6_favourite_29 : decode cX6_favourite 29 = .ok (.invokevirtual 81, 3) := by decide +kernel
theorem dX6_favourite_32 : decode cX6_favourite 32 = .ok (.goto 4, 3) := by decide +kernel
theorem dX6_favourite_35 : decode cX6_favourite 35 = .ok (.iconst 0, 1) := by decide +kernel
theorem dX6_favourite_36 : decode cX6_favourite 36 = .ok (.istore 5, 2) := by decide +kernel
theorem dX6_favourite_38 : decode cX6_favourite 38 = .ok (.iload 5, 2) := by decide +kernel
theorem dX6_favourite_40 : decode cX6_favourite 40 = .ok (.iload_n 3, 1) := by decide +kernel
theorem dX6_favourite_41 : decode cX6_favourite 41 = .ok (.if_icmp .le 9, 3) := by decide +kernel
theorem dX6_favourite_44 : decode cX6_favourite 44 = .ok (.iload 4, 2) := by decide +kernel
theorem dX6_favourite_46 : decode cX6_favourite 46 = .ok (.istore_n 2, 1) := by decide +kernel
theorem dX6_favourite_47 : decode cX6_favourite 47 = .ok (.iload 5, 2) := by decide +kernel
theorem dX6_favourite_49 : decode cX6_favourite 49 = .ok (.istore_n 3, 1) := by decide +kernel
theorem dX6_favourite_50 : decode cX6_favourite 50 = .ok (.iinc 4 1, 3) := by decide +kernel
theorem dX6_favourite_53 : decode cX6_favourite 53 = .ok (.goto (-45), 3) := by decide +kernel
theorem dX6_favourite_56 : decode cX6_favourite 56 = .ok (.iload_n 2, 1) := by decide +kernel
theorem dX6_favourite_57 : decode cX6_favourite 57 = .ok (.ireturn, 1) := by decide +kernel
def f_X6_favourite_L8 (t : Nat) (p1 : Int32) (x2_1 : Int32) (x3_1 : Int32) (x4_1 : Int32) (u1 : Mem) : Option ((Int32 × Int32 × Int32 × Mem) ⊕ (Int32 × Mem)) := (if (8 : Int32) ≤ x4_1 then some (Sum.inr (x2_1, u1)) else Option.bind (f_X6_knowsOf t p1 x4_1 u1) (fun r3 => (if r3 = 0 then (if (0 : Int32) ≤ x3_1 then some (Sum.inl (x2_1, (x3_1, (x4_1 + (1 : Int32), u1)))) else some (Sum.inl (x4_1, ((0 : Int32), (x4_1 + (1 : Int32), u1))))) else obind (f_X6_glow t p1 x4_1 u1) (fun r6 u6 => (if r6 ≤ x3_1 then some (Sum.inl (x2_1, (x3_1, (x4_1 + (1 : Int32), u6)))) else some (Sum.inl (x4_1, (r6, (x4_1 + (1 : Int32), u6)))))))))
def f_X6_favourite (t : Nat) (p1 : Int32) (u : Mem) : Option (Int32 × Mem) := whileO (fun s => f_X6_favourite_L8 t p1 s.1 s.2.1 s.2.2.1 s.2.2.2) FUEL ((-5 : Int32), ((0 : Int32), ((0 : Int32), u)))
set_option maxHeartbeats 4000000 in
set_option maxRecDepth 100000 in
theorem k_X6_favourite (l : Launch) (D : gDt) (base : Nat) (Z : gZt) (u : Mem) (t : Nat) (p1 : Int32) (r : Int32) (u' : Mem) (ho : gok 129 t l6) (hf : f_X6_favourite t p1 u = some (r, u')) : Met l yX6_favourite (gws yX6_favourite cX6_favourite 6 (some .int)) (gRm 5 0 0) (gPc D base Z u [.ref (base + t), .int p1]) (gQi D base r u') 0 0 (gF base) := by
  refine Met.ofW (cc := cX6_favourite) (maxL := 6) (ret := some .int) (by decide) rfl ?_
  intro p e s m args below meth c s₁ B hml hv
  obtain ⟨rfl, C0, hG⟩ := g_enter B hml hv
  have hr := B.returns
  have C0 : gC p s m meth c _ cX6_favourite 6 RX6 D base Z := C0
  have hx := C0.1
  have hb := C0.2.1
  have hl := lv_entry ([.ref (base + t), .int p1]) (n := 6) (Nat.le_of_ble_eq_true rfl)
  rw [lg_entry_eq]
  generalize (lg_sl ([.ref (base + t), .int p1]) ++ List.replicate (6 - (lg_sl ([.ref (base + t), .int p1])).length) Slot.unset).toArray = ls at hl ⊢
  have hl : lv_has ls 6 [(0, .ref (base + t)), (1, .int p1)] := hl
  obtain ⟨Q, hQ⟩ : ∃ Q, Q = MQ below (gQi D base r u') ([.ref (base + t), .int p1] : List Value).toArray s 0 0 (gF base) := ⟨_, rfl⟩
  rw [← hQ]
  change W p l e (gRm 5 0 0) s m _ below meth c _ _ _ _ _ _
  unfold f_X6_favourite at hf
  refine lv_bipush (v := (-5 : Int32)) hx hb dX6_favourite_0 (by decide) ?_
  refine lv_istore_n (lv' := [(2, .int (-5 : Int32)), (0, .ref (base + t)), (1, .int p1)]) hx hb dX6_favourite_2 rfl hl (by decide) rfl (fun ls hl => ?_)
  refine lv_iconst (v := (0 : Int32)) hx hb dX6_favourite_3 (by decide) ?_
  refine lv_istore_n (lv' := [(3, .int (0 : Int32)), (2, .int (-5 : Int32)), (0, .ref (base + t)), (1, .int p1)]) hx hb dX6_favourite_4 rfl hl (by decide) rfl (fun ls hl => ?_)
  refine lv_iconst (v := (0 : Int32)) hx hb dX6_favourite_5 (by decide) ?_
  refine lv_istore (lv' := [(4, .int (0 : Int32)), (3, .int (0 : Int32)), (2, .int (-5 : Int32)), (0, .ref (base + t)), (1, .int p1)]) hx hb dX6_favourite_6 hl (by decide) rfl (fun ls hl => ?_)
  have loop1 : ∀ (n1 : Nat) (x2_1 : Int32) (x3_1 : Int32) (x4_1 : Int32) (u1 : Mem) (H : Heap) (locs : List Loc) (ls : Array Slot), gH D base s u1 H locs → lv_has ls 6 [(0, .ref (base + t)), (1, .int p1), (2, .int x2_1), (3, .int x3_1), (4, .int x4_1)] → whileO (fun s => f_X6_favourite_L8 t p1 s.1 s.2.1 s.2.2.1 s.2.2.2) n1 (x2_1, (x3_1, (x4_1, u1))) = some (r, u') → W p l e (gRm 5 0 0) s m ([.ref (base + t), .int p1] : List Value).toArray below meth c H locs 0 0 Q (F0 m 8 ls []) := by
    intro n1
    induction n1 with
    | zero => intro x2_1 x3_1 x4_1 u1 H locs ls hG hl hf; cases hf
    | succ n1 ih1 =>
      intro x2_1 x3_1 x4_1 u1 H locs ls hG hl hf
      obtain ⟨X1, hf, hX1⟩ := while_s hf
      have hf : f_X6_favourite_L8 t p1 x2_1 x3_1 x4_1 u1 = some X1 := hf
      unfold f_X6_favourite_L8 at hf
      refine lv_iload hx hb dX6_favourite_8 (lv_at hl 4 rfl) ?_
      refine lv_bipush (v := (8 : Int32)) hx hb dX6_favourite_10 (by decide) ?_
      refine lv_icmp_ge (tgt := 56) hx hb dX6_favourite_12 (by decide) (fun c2 => ?_) (fun c2 => ?_)
      · have hf := gif_t c2 hf
        refine lv_iload_n hx hb dX6_favourite_56 rfl (lv_at hl 2 rfl) ?_
        have hf := while_r hX1 hf
        obtain ⟨hr1, hu⟩ := gret_s hf
        subst hr1
        subst hu
        subst hQ
        exact g_iret C0 hG hr dX6_favourite_57
      · have hf := gif_f c2 hf
        refine lv_aload_n hx hb dX6_favourite_15 rfl (lv_at hl 0 rfl) ?_
        refine lv_iload_n hx hb dX6_favourite_16 rfl (lv_at hl 1 rfl) ?_
        refine lv_iload hx hb dX6_favourite_17 (lv_at hl 4 rfl) ?_
        obtain ⟨r3, hc3, hf⟩ := pb_s hf
        refine g_doI0 hG (g_runV C0 hG (k_X6_knowsOf l D base Z u1 t p1 x4_1 r3 ho hc3) m_X6_knowsOf v_X6_knowsOf w_389 (by decide) (g_recv C0 hG (T6_0 hG ho) rfl) rfl hl.1 rfl (Nat.le_of_ble_eq_true rfl) dX6_favourite_19 ⟨Nat.zero_le _, Nat.zero_le _⟩) (fun H locs hG hk => ?_)
        refine lv_if_eq (tgt := 35) hx hb dX6_favourite_22 (by decide) (fun c4 => ?_) (fun c4 => ?_)
        · have hf := gif_t c4 hf
          refine lv_iconst (v := (0 : Int32)) hx hb dX6_favourite_35 (by decide) ?_
          refine lv_istore (lv' := [(5, .int (0 : Int32)), (0, .ref (base + t)), (1, .int p1), (2, .int x2_1), (3, .int x3_1), (4, .int x4_1)]) hx hb dX6_favourite_36 hl (by decide) rfl (fun ls hl => ?_)
          refine lv_iload hx hb dX6_favourite_38 (lv_at hl 0 rfl) ?_
          refine lv_iload_n hx hb dX6_favourite_40 rfl (lv_at hl 4 rfl) ?_
          refine lv_icmp_le (tgt := 50) hx hb dX6_favourite_41 (by decide) (fun c5 => ?_) (fun c5 => ?_)
          · have hf := gif_t c5 hf
            refine lv_iinc (v := x4_1 + (1 : Int32)) (lv' := [(4, .int (x4_1 + (1 : Int32))), (5, .int (0 : Int32)), (0, .ref (base + t)), (1, .int p1), (2, .int x2_1), (3, .int x3_1)]) hx hb dX6_favourite_50 hl (k := 5) rfl rfl (by decide) rfl (fun ls hl => ?_)
            refine lv_goto (tgt := 8) hx hb dX6_favourite_53 (by decide) ?_
            have hf := while_l hX1 hf
            exact ih1 x2_1 x3_1 (x4_1 + (1 : Int32)) u1 _ _ ls hG (lv_sub hl [2, 3, 4, 5, 0] rfl) hf
          · have hf := gif_f c5 hf
            refine lv_iload hx hb dX6_favourite_44 (lv_at hl 5 rfl) ?_
            refine lv_istore_n (lv' := [(2, .int x4_1), (5, .int (0 : Int32)), (0, .ref (base + t)), (1, .int p1), (3, .int x3_1), (4, .int x4_1)]) hx hb dX6_favourite_46 rfl hl (by decide) rfl (fun ls hl => ?_)
            refine lv_iload hx hb dX6_favourite_47 (lv_at hl 1 rfl) ?_
            refine lv_istore_n (lv' := [(3, .int (0 : Int32)), (2, .int x4_1), (5, .int (0 : Int32)), (0, .ref (base + t)), (1, .int p1), (4, .int x4_1)]) hx hb dX6_favourite_49 rfl hl (by decide) rfl (fun ls hl => ?_)
            refine lv_iinc (v := x4_1 + (1 : Int32)) (lv' := [(4, .int (x4_1 + (1 : Int32))), (3, .int (0 : Int32)), (2, .int x4_1), (5, .int (0 : Int32)), (0, .ref (base + t)), (1, .int p1)]) hx hb dX6_favourite_50 hl (k := 5) rfl rfl (by decide) rfl (fun ls hl => ?_)
            refine lv_goto (tgt := 8) hx hb dX6_favourite_53 (by decide) ?_
            have hf := while_l hX1 hf
            exact ih1 x4_1 (0 : Int32) (x4_1 + (1 : Int32)) u1 _ _ ls hG (lv_sub hl [4, 5, 2, 1, 0] rfl) hf
        · have hf := gif_f c4 hf
          refine lv_aload_n hx hb dX6_favourite_25 rfl (lv_at hl 0 rfl) ?_
          refine lv_iload_n hx hb dX6_favourite_26 rfl (lv_at hl 1 rfl) ?_
          refine lv_iload hx hb dX6_favourite_27 (lv_at hl 4 rfl) ?_
          obtain ⟨r6, u6, hc6, hf⟩ := obind_s hf
          refine g_doI0 hG (g_runV C0 hG (k_X6_glow l D base Z u1 t p1 x4_1 r6 u6 ho hc6) m_X6_glow v_X6_glow w_393 (by decide) (g_recv C0 hG (T6_0 hG ho) rfl) rfl hl.1 rfl (Nat.le_of_ble_eq_true rfl) dX6_favourite_29 ⟨Nat.zero_le _, Nat.zero_le _⟩) (fun H locs hG hk => ?_)
          refine lv_goto (tgt := 36) hx hb dX6_favourite_32 (by decide) ?_
          refine lv_istore (lv' := [(5, .int r6), (0, .ref (base + t)), (1, .int p1), (2, .int x2_1), (3, .int x3_1), (4, .int x4_1)]) hx hb dX6_favourite_36 hl (by decide) rfl (fun ls hl => ?_)
          refine lv_iload hx hb dX6_favourite_38 (lv_at hl 0 rfl) ?_
          refine lv_iload_n hx hb dX6_favourite_40 rfl (lv_at hl 4 rfl) ?_
          refine lv_icmp_le (tgt := 50) hx hb dX6_favourite_41 (by decide) (fun c7 => ?_) (fun c7 => ?_)
          · have hf := gif_t c7 hf
            refine lv_iinc (v := x4_1 + (1 : Int32)) (lv' := [(4, .int (x4_1 + (1 : Int32))), (5, .int r6), (0, .ref (base + t)), (1, .int p1), (2, .int x2_1), (3, .int x3_1)]) hx hb dX6_favourite_50 hl (k := 5) rfl rfl (by decide) rfl (fun ls hl => ?_)
            refine lv_goto (tgt := 8) hx hb dX6_favourite_53 (by decide) ?_
            have hf := while_l hX1 hf
            exact ih1 x2_1 x3_1 (x4_1 + (1 : Int32)) u6 _ _ ls hG (lv_sub hl [2, 3, 4, 5, 0] rfl) hf
          · have hf := gif_f c7 hf
            refine lv_iload hx hb dX6_favourite_44 (lv_at hl 5 rfl) ?_
            refine lv_istore_n (lv' := [(2, .int x4_1), (5, .int r6), (0, .ref (base + t)), (1, .int p1), (3, .int x3_1), (4, .int x4_1)]) hx hb dX6_favourite_46 rfl hl (by decide) rfl (fun ls hl => ?_)
            refine lv_iload hx hb dX6_favourite_47 (lv_at hl 1 rfl) ?_
            refine lv_istore_n (lv' := [(3, .int r6), (2, .int x4_1), (5, .int r6), (0, .ref (base + t)), (1, .int p1), (4, .int x4_1)]) hx hb dX6_favourite_49 rfl hl (by decide) rfl (fun ls hl => ?_)
            refine lv_iinc (v := x4_1 + (1 : Int32)) (lv' := [(4, .int (x4_1 + (1 : Int32))), (3, .int r6), (2, .int x4_1), (5, .int r6), (0, .ref (base + t)), (1, .int p1)]) hx hb dX6_favourite_50 hl (k := 5) rfl rfl (by decide) rfl (fun ls hl => ?_)
            refine lv_goto (tgt := 8) hx hb dX6_favourite_53 (by decide) ?_
            have hf := while_l hX1 hf
            exact ih1 x4_1 r6 (x4_1 + (1 : Int32)) u6 _ _ ls hG (lv_sub hl [4, 5, 2, 1, 0] rfl) hf
  exact loop1 FUEL (-5 : Int32) (0 : Int32) (0 : Int32) u _ _ ls hG (lv_sub hl [3, 4, 2, 1, 0] rfl) hf
theorem dX6_ash_0 : decode cX6_ash 0 = .ok (.sipush 255, 3) := by decide +kernel
theorem dX6_ash_3 : decode cX6_ash 3 = .ok (.istore_n 1, 1) := by decide +kernel
theorem dX6_ash_4 : decode cX6_ash 4 = .ok (.iconst 0, 1) := by decide +kernel
theorem dX6_ash_5 : decode cX6_ash 5 = .ok (.istore_n 2, 1) := by decide +kernel
theorem dX6_ash_6 : decode cX6_ash 6 = .ok (.iload_n 2, 1) := by decide +kernel
theorem dX6_ash_7 : decode cX6_ash 7 = .ok (.aload_n 0, 1) := by decide +kernel
theorem dX6_ash_8 : decode cX6_ash 8 = .ok (.getfield 40, 3) := by decide +kernel
theorem dX6_ash_11 : decode cX6_ash 11 = .ok (.if_icmp .ge 58, 3) := by decide +kernel
theorem dX6_ash_14 : decode cX6_ash 14 = .ok (.iconst 0, 1) := by decide +kernel
theorem dX6_ash_15 : decode cX6_ash 15 = .ok (.istore_n 3, 1) := by decide +kernel
theorem dX6_ash_16 : decode cX6_ash 16 = .ok (.iload_n 3, 1) := by decide +kernel
theorem dX6_ash_17 : decode cX6_ash 17 = .ok (.bipush 8, 2) := by decide +kernel
theorem dX6_ash_19 : decode cX6_ash 19 = .ok (.if_icmp .ge 44, 3) := by decide +kernel
theorem dX6_ash_22 : decode cX6_ash 22 = .ok (.aload_n 0, 1) := by decide +kernel
theorem dX6_ash_23 : decode cX6_ash 23 = .ok (.getfield 30, 3) := by decide +kernel
theorem dX6_ash_26 : decode cX6_ash 26 = .ok (.iload_n 2, 1) := by decide +kernel
theorem dX6_ash_27 : decode cX6_ash 27 = .ok (.baload, 1) := by decide +kernel
theorem dX6_ash_28 : decode cX6_ash 28 = .ok (.ifCond .ne 29, 3) := by decide +kernel
theorem dX6_ash_31 : decode cX6_ash 31 = .ok (.aload_n 0, 1) := by decide +kernel
theorem dX6_ash_32 : decode cX6_ash 32 = .ok (.iload_n 2, 1) := by decide +kernel
theorem dX6_ash_33 : decode cX6_ash 33 = .ok (.iload_n 3, 1) := by decide +kernel
theorem dX6_ash_34 : decode cX6_ash 34 = .ok (.invokevirtual 77, 3) := by decide +kernel
theorem dX6_ash_37 : decode cX6_ash 37 = .ok (.ifCond .eq 20, 3) := by decide +kernel
theorem dX6_ash_40 : decode cX6_ash 40 = .ok (.aload_n 0, 1) := by decide +kernel
theorem dX6_ash_41 : decode cX6_ash 41 = .ok (.iload_n 2, 1) := by decide +kernel
theorem dX6_ash_42 : decode cX6_ash 42 = .ok (.iload_n 3, 1) := by decide +kernel
theorem dX6_ash_43 : decode cX6_ash 43 = .ok (.invokevirtual 81, 3) := by decide +kernel
theorem dX6_ash_46 : decode cX6_ash 46 = .ok (.ifCond .le 11, 3) := by decide +kernel
theorem dX6_ash_49 : decode cX6_ash 49 = .ok (.iload_n 1, 1) := by decide +kernel
theorem dX6_ash_50 : decode cX6_ash 50 = .ok (.iconst 1, 1) := by decide +kernel
theorem dX6_ash_51 : decode cX6_ash 51 = .ok (.iload_n 3, 1) := by decide +kernel
theorem dX6_ash_52 : decode cX6_ash 52 = .ok (.ishl, 1) := by decide +kernel
theorem dX6_ash_53 : decode cX6_ash 53 = .ok (.iconst (-1), 1) := by decide +kernel
theorem dX6_ash_54 : decode cX6_ash 54 = .ok (.ixor, 1) := by decide +kernel
theorem dX6_ash_55 : decode cX6_ash 55 = .ok (.iand, 1) := by decide +kernel
theorem dX6_ash_56 : decode cX6_ash 56 = .ok (.istore_n 1, 1) := by decide +kernel
theorem dX6_ash_57 : decode cX6_ash 57 = .ok (.iinc 3 1, 3) := by decide +kernel
theorem dX6_ash_60 : decode cX6_ash 60 = .ok (.goto (-44), 3) := by decide +kernel
theorem dX6_ash_63 : decode cX6_ash 63 = .ok (.iinc 2 1, 3) := by decide +kernel
theorem dX6_ash_66 : decode cX6_ash 66 = .ok (.goto (-60), 3) := by decide +kernel
theorem dX6_ash_69 : decode cX6_ash 69 = .ok (.iload_n 1, 1) := by decide +kernel
theorem dX6_ash_70 : decode cX6_ash 70 = .ok (.ireturn, 1) := by decide +kernel
def f_X6_ash_L16 (t : Nat) (x1_3 : Int32) (x2_3 : Int32) (x3_3 : Int32) (u3 : Mem) : Option ((Int32 × Int32 × Int32 × Mem) ⊕ ((Int32 × Int32 × Mem) ⊕ (Int32 × Mem))) := (if (8 : Int32) ≤ x3_3 then some (Sum.inr (Sum.inl (x1_3, (x2_3 + (1 : Int32), u3)))) else gin x2_3 6 ((if (gA u3 (t + 7) x2_3.toNatClampNeg) = 0 then Option.bind (f_X6_knowsOf t x2_3 x3_3 u3) (fun r7 => (if r7 = 0 then some (Sum.inl (x1_3, (x2_3, (x3_3 + (1 : Int32), u3)))) else obind (f_X6_glow t x2_3 x3_3 u3) (fun r9 u9 => (if r9 ≤ 0 then some (Sum.inl (x1_3, (x2_3, (x3_3 + (1 : Int32), u9)))) else some (Sum.inl (x1_3 &&& (((1 : Int32) <<< (x3_3 &&& 31)) ^^^ (-1 : Int32)), (x2_3, (x3_3 + (1 : Int32), u9)))))))) else some (Sum.inl (x1_3, (x2_3, (x3_3 + (1 : Int32), u3)))))))
def f_X6_ash_L6 (t : Nat) (x1_1 : Int32) (x2_1 : Int32) (u1 : Mem) : Option ((Int32 × Int32 × Mem) ⊕ (Int32 × Mem)) := (if (gI u1 t 9) ≤ x2_1 then some (Sum.inr (x1_1, u1)) else whileO (fun s => f_X6_ash_L16 t s.1 s.2.1 s.2.2.1 s.2.2.2) FUEL (x1_1, (x2_1, ((0 : Int32), u1))))
def f_X6_ash (t : Nat) (u : Mem) : Option (Int32 × Mem) := whileO (fun s => f_X6_ash_L6 t s.1 s.2.1 s.2.2) FUEL ((255 : Int32), ((0 : Int32), u))
set_option maxHeartbeats 4000000 in
set_option maxRecDepth 100000 in
theorem k_X6_ash (l : Launch) (D : gDt) (base : Nat) (Z : gZt) (u : Mem) (t : Nat) (r : Int32) (u' : Mem) (ho : gok 129 t l6) (hf : f_X6_ash t u = some (r, u')) : Met l yX6_ash (gws yX6_ash cX6_ash 4 (some .int)) (gRm 5 0 0) (gPc D base Z u [.ref (base + t)]) (gQi D base r u') 0 0 (gF base) := by
  refine Met.ofW (cc := cX6_ash) (maxL := 4) (ret := some .int) (by decide) rfl ?_
  intro p e s m args below meth c s₁ B hml hv
  obtain ⟨rfl, C0, hG⟩ := g_enter B hml hv
  have hr := B.returns
  have C0 : gC p s m meth c _ cX6_ash 4 RX6 D base Z := C0
  have hx := C0.1
  have hb := C0.2.1
  have hl := lv_entry ([.ref (base + t)]) (n := 4) (Nat.le_of_ble_eq_true rfl)
  rw [lg_entry_eq]
  generalize (lg_sl ([.ref (base + t)]) ++ List.replicate (4 - (lg_sl ([.ref (base + t)])).length) Slot.unset).toArray = ls at hl ⊢
  have hl : lv_has ls 4 [(0, .ref (base + t))] := hl
  obtain ⟨Q, hQ⟩ : ∃ Q, Q = MQ below (gQi D base r u') ([.ref (base + t)] : List Value).toArray s 0 0 (gF base) := ⟨_, rfl⟩
  rw [← hQ]
  change W p l e (gRm 5 0 0) s m _ below meth c _ _ _ _ _ _
  unfold f_X6_ash at hf
  refine lv_sipush (v := (255 : Int32)) hx hb dX6_ash_0 (by decide) ?_
  refine lv_istore_n (lv' := [(1, .int (255 : Int32)), (0, .ref (base + t))]) hx hb dX6_ash_3 rfl hl (by decide) rfl (fun ls hl => ?_)
  refine lv_iconst (v := (0 : Int32)) hx hb dX6_ash_4 (by decide) ?_
  refine lv_istore_n (lv' := [(2, .int (0 : Int32)), (1, .int (255 : Int32)), (0, .ref (base + t))]) hx hb dX6_ash_5 rfl hl (by decide) rfl (fun ls hl => ?_)
  have loop1 : ∀ (n1 : Nat) (x1_1 : Int32) (x2_1 : Int32) (u1 : Mem) (H : Heap) (locs : List Loc) (ls : Array Slot), gH D base s u1 H locs → lv_has ls 4 [(0, .ref (base + t)), (1, .int x1_1), (2, .int x2_1)] → whileO (fun s => f_X6_ash_L6 t s.1 s.2.1 s.2.2) n1 (x1_1, (x2_1, u1)) = some (r, u') → W p l e (gRm 5 0 0) s m ([.ref (base + t)] : List Value).toArray below meth c H locs 0 0 Q (F0 m 6 ls []) := by
    intro n1
    induction n1 with
    | zero => intro x1_1 x2_1 u1 H locs ls hG hl hf; cases hf
    | succ n1 ih1 =>
      intro x1_1 x2_1 u1 H locs ls hG hl hf
      obtain ⟨X1, hf, hX1⟩ := while_s hf
      have hf : f_X6_ash_L6 t x1_1 x2_1 u1 = some X1 := hf
      unfold f_X6_ash_L6 at hf
      refine lv_iload_n hx hb dX6_ash_6 rfl (lv_at hl 2 rfl) ?_
      refine lv_aload_n hx hb dX6_ash_7 rfl (lv_at hl 0 rfl) ?_
      refine g_getI C0 hG (T6_0 hG ho) rfl 9 (by decide) rfl w_171 dX6_ash_8 ?_
      refine lv_icmp_ge (tgt := 69) hx hb dX6_ash_11 (by decide) (fun c2 => ?_) (fun c2 => ?_)
      · have hf := gif_t c2 hf
        refine lv_iload_n hx hb dX6_ash_69 rfl (lv_at hl 1 rfl) ?_
        have hf := while_r hX1 hf
        obtain ⟨hr1, hu⟩ := gret_s hf
        subst hr1
        subst hu
        subst hQ
        exact g_iret C0 hG hr dX6_ash_70
      · have hf := gif_f c2 hf
        refine lv_iconst (v := (0 : Int32)) hx hb dX6_ash_14 (by decide) ?_
        refine lv_istore_n (lv' := [(3, .int (0 : Int32)), (0, .ref (base + t)), (1, .int x1_1), (2, .int x2_1)]) hx hb dX6_ash_15 rfl hl (by decide) rfl (fun ls hl => ?_)
        have loop3 : ∀ (n3 : Nat) (x1_3 : Int32) (x2_3 : Int32) (x3_3 : Int32) (u3 : Mem) (H : Heap) (locs : List Loc) (ls : Array Slot), gH D base s u3 H locs → lv_has ls 4 [(0, .ref (base + t)), (1, .int x1_3), (2, .int x2_3), (3, .int x3_3)] → whileO (fun s => f_X6_ash_L16 t s.1 s.2.1 s.2.2.1 s.2.2.2) n3 (x1_3, (x2_3, (x3_3, u3))) = some X1 → W p l e (gRm 5 0 0) s m ([.ref (base + t)] : List Value).toArray below meth c H locs 0 0 Q (F0 m 16 ls []) := by
          intro n3
          induction n3 with
          | zero => intro x1_3 x2_3 x3_3 u3 H locs ls hG hl hf; cases hf
          | succ n3 ih3 =>
            intro x1_3 x2_3 x3_3 u3 H locs ls hG hl hf
            obtain ⟨X3, hf, hX3⟩ := while_s hf
            have hf : f_X6_ash_L16 t x1_3 x2_3 x3_3 u3 = some X3 := hf
            unfold f_X6_ash_L16 at hf
            refine lv_iload_n hx hb dX6_ash_16 rfl (lv_at hl 3 rfl) ?_
            refine lv_bipush (v := (8 : Int32)) hx hb dX6_ash_17 (by decide) ?_
            refine lv_icmp_ge (tgt := 63) hx hb dX6_ash_19 (by decide) (fun c4 => ?_) (fun c4 => ?_)
            · have hf := gif_t c4 hf
              refine lv_iinc (v := x2_3 + (1 : Int32)) (lv' := [(2, .int (x2_3 + (1 : Int32))), (0, .ref (base + t)), (1, .int x1_3), (3, .int x3_3)]) hx hb dX6_ash_63 hl (k := 2) rfl rfl (by decide) rfl (fun ls hl => ?_)
              refine lv_goto (tgt := 6) hx hb dX6_ash_66 (by decide) ?_
              have hf := while_r hX3 hf
              have hf := while_l hX1 hf
              exact ih1 x1_3 (x2_3 + (1 : Int32)) u3 _ _ ls hG (lv_sub hl [1, 2, 0] rfl) hf
            · have hf := gif_f c4 hf
              refine lv_aload_n hx hb dX6_ash_22 rfl (lv_at hl 0 rfl) ?_
              refine g_getSa (o := 7) (a := (t + 7)) C0 hG (T6_0 hG ho) rfl 6 (by decide) rfl rfl w_166 dX6_ash_23 ?_
              refine lv_iload_n hx hb dX6_ash_26 rfl (lv_at hl 2 rfl) ?_
              obtain ⟨h5, hf⟩ := gin_s hf
              refine g_zald C0 hG (T6_7 hG ho) h5 dX6_ash_27 ?_
              refine lv_if_ne (tgt := 57) hx hb dX6_ash_28 (by decide) (fun c6 => ?_) (fun c6 => ?_)
              · have hf := gif_f c6 hf
                refine lv_iinc (v := x3_3 + (1 : Int32)) (lv' := [(3, .int (x3_3 + (1 : Int32))), (0, .ref (base + t)), (1, .int x1_3), (2, .int x2_3)]) hx hb dX6_ash_57 hl (k := 3) rfl rfl (by decide) rfl (fun ls hl => ?_)
                refine lv_goto (tgt := 16) hx hb dX6_ash_60 (by decide) ?_
                have hf := while_l hX3 hf
                exact ih3 x1_3 x2_3 (x3_3 + (1 : Int32)) u3 _ _ ls hG (lv_sub hl [1, 2, 3, 0] rfl) hf
              · have hf := gif_t c6 hf
                refine lv_aload_n hx hb dX6_ash_31 rfl (lv_at hl 0 rfl) ?_
                refine lv_iload_n hx hb dX6_ash_32 rfl (lv_at hl 2 rfl) ?_
                refine lv_iload_n hx hb dX6_ash_33 rfl (lv_at hl 3 rfl) ?_
                obtain ⟨r7, hc7, hf⟩ := pb_s hf
                refine g_doI0 hG (g_runV C0 hG (k_X6_knowsOf l D base Z u3 t x2_3 x3_3 r7 ho hc7) m_X6_knowsOf v_X6_knowsOf w_389 (by decide) (g_recv C0 hG (T6_0 hG ho) rfl) rfl hl.1 rfl (Nat.le_of_ble_eq_true rfl) dX6_ash_34 ⟨Nat.zero_le _, Nat.zero_le _⟩) (fun H locs hG hk => ?_)
                refine lv_if_eq (tgt := 57) hx hb dX6_ash_37 (by decide) (fun c8 => ?_) (fun c8 => ?_)
                · have hf := gif_t c8 hf
                  refine lv_iinc (v := x3_3 + (1 : Int32)) (lv' := [(3, .int (x3_3 + (1 : Int32))), (0, .ref (base + t)), (1, .int x1_3), (2, .int x2_3)]) hx hb dX6_ash_57 hl (k := 3) rfl rfl (by decide) rfl (fun ls hl => ?_)
                  refine lv_goto (tgt := 16) hx hb dX6_ash_60 (by decide) ?_
                  have hf := while_l hX3 hf
                  exact ih3 x1_3 x2_3 (x3_3 + (1 : Int32)) u3 _ _ ls hG (lv_sub hl [1, 2, 3, 0] rfl) hf
                · have hf := gif_f c8 hf
                  refine lv_aload_n hx hb dX6_ash_40 rfl (lv_at hl 0 rfl) ?_
                  refine lv_iload_n hx hb dX6_ash_41 rfl (lv_at hl 2 rfl) ?_
                  refine lv_iload_n hx hb dX6_ash_42 rfl (lv_at hl 3 rfl) ?_
                  obtain ⟨r9, u9, hc9, hf⟩ := obind_s hf
                  refine g_doI0 hG (g_runV C0 hG (k_X6_glow l D base Z u3 t x2_3 x3_3 r9 u9 ho hc9) m_X6_glow v_X6_glow w_393 (by decide) (g_recv C0 hG (T6_0 hG ho) rfl) rfl hl.1 rfl (Nat.le_of_ble_eq_true rfl) dX6_ash_43 ⟨Nat.zero_le _, Nat.zero_le _⟩) (fun H locs hG hk => ?_)
                  refine lv_if_le (tgt := 57) hx hb dX6_ash_46 (by decide) (fun c10 => ?_) (fun c10 => ?_)
                  · have hf := gif_t c10 hf
                    refine lv_iinc (v := x3_3 + (1 : Int32)) (lv' := [(3, .int (x3_3 + (1 : Int32))), (0, .ref (base + t)), (1, .int x1_3), (2, .int x2_3)]) hx hb dX6_ash_57 hl (k := 3) rfl rfl (by decide) rfl (fun ls hl => ?_)
                    refine lv_goto (tgt := 16) hx hb dX6_ash_60 (by decide) ?_
                    have hf := while_l hX3 hf
                    exact ih3 x1_3 x2_3 (x3_3 + (1 : Int32)) u9 _ _ ls hG (lv_sub hl [1, 2, 3, 0] rfl) hf
                  · have hf := gif_f c10 hf
                    refine lv_iload_n hx hb dX6_ash_49 rfl (lv_at hl 1 rfl) ?_
                    refine lv_iconst (v := (1 : Int32)) hx hb dX6_ash_50 (by decide) ?_
                    refine lv_iload_n hx hb dX6_ash_51 rfl (lv_at hl 3 rfl) ?_
                    refine lv_ishl hx hb dX6_ash_52 ?_
                    refine lv_iconst (v := (-1 : Int32)) hx hb dX6_ash_53 (by decide) ?_
                    refine lv_ixor hx hb dX6_ash_54 ?_
                    refine lv_iand hx hb dX6_ash_55 ?_
                    refine lv_istore_n (lv' := [(1, .int (x1_3 &&& (((1 : Int32) <<< (x3_3 &&& 31)) ^^^ (-1 : Int32)))), (0, .ref (base + t)), (2, .int x2_3), (3, .int x3_3)]) hx hb dX6_ash_56 rfl hl (by decide) rfl (fun ls hl => ?_)
                    refine lv_iinc (v := x3_3 + (1 : Int32)) (lv' := [(3, .int (x3_3 + (1 : Int32))), (1, .int (x1_3 &&& (((1 : Int32) <<< (x3_3 &&& 31)) ^^^ (-1 : Int32)))), (0, .ref (base + t)), (2, .int x2_3)]) hx hb dX6_ash_57 hl (k := 3) rfl rfl (by decide) rfl (fun ls hl => ?_)
                    refine lv_goto (tgt := 16) hx hb dX6_ash_60 (by decide) ?_
                    have hf := while_l hX3 hf
                    exact ih3 (x1_3 &&& (((1 : Int32) <<< (x3_3 &&& 31)) ^^^ (-1 : Int32))) x2_3 (x3_3 + (1 : Int32)) u9 _ _ ls hG (lv_sub hl [2, 1, 3, 0] rfl) hf
        exact loop3 FUEL x1_1 x2_1 (0 : Int32) u1 _ _ ls hG (lv_sub hl [1, 2, 3, 0] rfl) hf
  exact loop1 FUEL (255 : Int32) (0 : Int32) u _ _ ls hG (lv_sub hl [2, 1, 0] rfl) hf
theorem dX6_hearersOf_0 : decode cX6_hearersOf 0 = .ok (.iconst 0, 1) := by decide +kernel
theorem dX6_hearersOf_1 : decode cX6_hearersOf 1 = .ok (.istore_n 2, 1) := by decide +kernel
theorem dX6_hearersOf_2 : decode cX6_hearersOf 2 = .ok (.iconst 0, 1) := by decide +kernel
theorem dX6_hearersOf_3 : decode cX6_hearersOf 3 = .ok (.istore_n 3, 1) := by decide +kernel
theorem dX6_hearersOf_4 : decode cX6_hearersOf 4 = .ok (.iload_n 3, 1) := by decide +kernel
theorem dX6_hearersOf_5 : decode cX6_hearersOf 5 = .ok (.aload_n 0, 1) := by decide +kernel
theorem dX6_hearersOf_6 : decode cX6_hearersOf 6 = .ok (.getfield 40, 3) := by decide +kernel
theorem dX6_hearersOf_9 : decode cX6_hearersOf 9 = .ok (.if_icmp .ge 39, 3) := by decide +kernel
theorem dX6_hearersOf_12 : decode cX6_hearersOf 12 = .ok (.aload_n 0, 1) := by decide +kernel
theorem dX6_hearersOf_13 : decode cX6_hearersOf 13 = .ok (.getfield 30, 3) := by decide +kernel
theorem dX6_hearersOf_16 : decode cX6_hearersOf 16 = .ok (.iload_n 3, 1) := by decide +kernel
theorem dX6_hearersOf_17 : decode cX6_hearersOf 17 = .ok (.baload, 1) := by decide +kernel
theorem dX6_hearersOf_18 : decode cX6_hearersOf 18 = .ok (.ifCond .ne 24, 3) := by decide +kernel
theorem dX6_hearersOf_21 : decode cX6_hearersOf 21 = .ok (.aload_n 0, 1) := by decide +kernel
theorem dX6_hearersOf_22 : decode cX6_hearersOf 22 = .ok (.getfield 24, 3) := by decide +kernel
theorem dX6_hearersOf_25 : decode cX6_hearersOf 25 = .ok (.iload_n 3, 1) := by decide +kernel
theorem dX6_hearersOf_26 : decode cX6_hearersOf 26 = .ok (.iaload, 1) := by decide +kernel
theorem dX6_hearersOf_27 : decode cX6_hearersOf 27 = .ok (.aload_n 0, 1) := by decide +kernel
theorem dX6_hearersOf_28 : decode cX6_hearersOf 28 = .ok (.getfield 24, 3) := by decide +kernel
theorem dX6_hearersOf_31 : decode cX6_hearersOf 31 = .ok (.iload_n 1, 1) := by decide +kernel
theorem dX6_hearersOf_32 : decode cX6_hearersOf 32 = .ok (.iaload, 1) := by decide +kernel
theorem dX6_hearersOf_33 : decode cX6_hearersOf 33 = .ok (.if_icmp .ne 9, 3) := by decide +kernel
theorem dX6_hearersOf_36 : decode cX6_hearersOf 36 = .ok (.iload_n 2, 1) := by decide +kernel
theorem dX6_hearersOf_37 : decode cX6_hearersOf 37 = .ok (.iconst 1, 1) := by decide +kernel
theorem dX6_hearersOf_38 : decode cX6_hearersOf 38 = .ok (.iload_n 3, 1) := by decide +kernel
theorem dX6_hearersOf_39 : decode cX6_hearersOf 39 = .ok (.ishl, 1) := by decide +kernel
theorem dX6_hearersOf_40 : decode cX6_hearersOf 40 = .ok (.ior, 1) := by decide +kernel
theorem dX6_hearersOf_41 : decode cX6_hearersOf 41 = .ok (.istore_n 2, 1) := by decide +kernel
theorem dX6_hearersOf_42 : decode cX6_hearersOf 42 = .ok (.iinc 3 1, 3) := by decide +kernel
theorem dX6_hearersOf_45 : decode cX6_hearersOf 45 = .ok (.goto (-41), 3) := by decide +kernel
theorem dX6_hearersOf_48 : decode cX6_hearersOf 48 = .ok (.iload_n 2, 1) := by decide +kernel
theorem dX6_hearersOf_49 : decode cX6_hearersOf 49 = .ok (.ireturn, 1) := by decide +kernel
def f_X6_hearersOf_L4 (u : Mem) (t : Nat) (p1 : Int32) (x2_1 : Int32) (x3_1 : Int32) : Option ((Int32 × Int32) ⊕ Int32) := (if (gI u t 9) ≤ x3_1 then some (Sum.inr (x2_1)) else gin x3_1 6 ((if (gA u (t + 7) x3_1.toNatClampNeg) = 0 then gin x3_1 6 (gin p1 6 ((if (gA u (t + 5) x3_1.toNatClampNeg) = (gA u (t + 5) p1.toNatClampNeg) then some (Sum.inl (x2_1 ||| ((1 : Int32) <<< (x3_1 &&& 31)), x3_1 + (1 : Int32))) else some (Sum.inl (x2_1, x3_1 + (1 : Int32)))))) else some (Sum.inl (x2_1, x3_1 + (1 : Int32))))))
def f_X6_hearersOf (t : Nat) (p1 : Int32) (u : Mem) : Option (Int32) := whileO (fun s => f_X6_hearersOf_L4 u t p1 s.1 s.2) FUEL ((0 : Int32), (0 : Int32))
set_option maxHeartbeats 4000000 in
set_option maxRecDepth 100000 in
theorem k_X6_hearersOf (l : Launch) (D : gDt) (base : Nat) (Z : gZt) (u : Mem) (t : Nat) (p1 : Int32) (r : Int32) (ho : gok 129 t l6) (hf : f_X6_hearersOf t p1 u = some r) : Met l yX6_hearersOf (gws yX6_hearersOf cX6_hearersOf 4 (some .int)) (gRm 1 0 0) (gPc D base Z u [.ref (base + t), .int p1]) (gQi D base r u) 0 0 (gF base) := by
  refine Met.ofW (cc := cX6_hearersOf) (maxL := 4) (ret := some .int) (by decide) rfl ?_
  intro p e s m args below meth c s₁ B hml hv
  obtain ⟨rfl, C0, hG⟩ := g_enter B hml hv
  have hr := B.returns
  have C0 : gC p s m meth c _ cX6_hearersOf 4 RX6 D base Z := C0
  have hx := C0.1
  have hb := C0.2.1
  have hl := lv_entry ([.ref (base + t), .int p1]) (n := 4) (Nat.le_of_ble_eq_true rfl)
  rw [lg_entry_eq]
  generalize (lg_sl ([.ref (base + t), .int p1]) ++ List.replicate (4 - (lg_sl ([.ref (base + t), .int p1])).length) Slot.unset).toArray = ls at hl ⊢
  have hl : lv_has ls 4 [(0, .ref (base + t)), (1, .int p1)] := hl
  obtain ⟨Q, hQ⟩ : ∃ Q, Q = MQ below (gQi D base r u) ([.ref (base + t), .int p1] : List Value).toArray s 0 0 (gF base) := ⟨_, rfl⟩
  rw [← hQ]
  change W p l e (gRm 1 0 0) s m _ below meth c _ _ _ _ _ _
  unfold f_X6_hearersOf at hf
  refine lv_iconst (v := (0 : Int32)) hx hb dX6_hearersOf_0 (by decide) ?_
  refine lv_istore_n (lv' := [(2, .int (0 : Int32)), (0, .ref (base + t)), (1, .int p1)]) hx hb dX6_hearersOf_1 rfl hl (by decide) rfl (fun ls hl => ?_)
  refine lv_iconst (v := (0 : Int32)) hx hb dX6_hearersOf_2 (by decide) ?_
  refine lv_istore_n (lv' := [(3, .int (0 : Int32)), (2, .int (0 : Int32)), (0, .ref (base + t)), (1, .int p1)]) hx hb dX6_hearersOf_3 rfl hl (by decide) rfl (fun ls hl => ?_)
  have loop1 : ∀ (n1 : Nat) (x2_1 : Int32) (x3_1 : Int32) (H : Heap) (locs : List Loc) (ls : Array Slot), gH D base s u H locs → lv_has ls 4 [(0, .ref (base + t)), (1, .int p1), (2, .int x2_1), (3, .int x3_1)] → whileO (fun s => f_X6_hearersOf_L4 u t p1 s.1 s.2) n1 (x2_1, x3_1) = some r → W p l e (gRm 1 0 0) s m ([.ref (base + t), .int p1] : List Value).toArray below meth c H locs 0 0 Q (F0 m 4 ls []) := by
    intro n1
    induction n1 with
    | zero => intro x2_1 x3_1 H locs ls hG hl hf; cases hf
    | succ n1 ih1 =>
      intro x2_1 x3_1 H locs ls hG hl hf
      obtain ⟨X1, hf, hX1⟩ := while_s hf
      have hf : f_X6_hearersOf_L4 u t p1 x2_1 x3_1 = some X1 := hf
      unfold f_X6_hearersOf_L4 at hf
      refine lv_iload_n hx hb dX6_hearersOf_4 rfl (lv_at hl 3 rfl) ?_
      refine lv_aload_n hx hb dX6_hearersOf_5 rfl (lv_at hl 0 rfl) ?_
      refine g_getI C0 hG (T6_0 hG ho) rfl 9 (by decide) rfl w_171 dX6_hearersOf_6 ?_
      refine lv_icmp_ge (tgt := 48) hx hb dX6_hearersOf_9 (by decide) (fun c2 => ?_) (fun c2 => ?_)
      · have hf := gif_t c2 hf
        refine lv_iload_n hx hb dX6_hearersOf_48 rfl (lv_at hl 2 rfl) ?_
        have hf := while_r hX1 hf
        have hf := Option.some.inj hf
        subst hf
        subst hQ
        exact g_iret C0 hG hr dX6_hearersOf_49
      · have hf := gif_f c2 hf
        refine lv_aload_n hx hb dX6_hearersOf_12 rfl (lv_at hl 0 rfl) ?_
        refine g_getSa (o := 7) (a := (t + 7)) C0 hG (T6_0 hG ho) rfl 6 (by decide) rfl rfl w_166 dX6_hearersOf_13 ?_
        refine lv_iload_n hx hb dX6_hearersOf_16 rfl (lv_at hl 3 rfl) ?_
        obtain ⟨h3, hf⟩ := gin_s hf
        refine g_zald C0 hG (T6_7 hG ho) h3 dX6_hearersOf_17 ?_
        refine lv_if_ne (tgt := 42) hx hb dX6_hearersOf_18 (by decide) (fun c4 => ?_) (fun c4 => ?_)
        · have hf := gif_f c4 hf
          refine lv_iinc (v := x3_1 + (1 : Int32)) (lv' := [(3, .int (x3_1 + (1 : Int32))), (0, .ref (base + t)), (1, .int p1), (2, .int x2_1)]) hx hb dX6_hearersOf_42 hl (k := 3) rfl rfl (by decide) rfl (fun ls hl => ?_)
          refine lv_goto (tgt := 4) hx hb dX6_hearersOf_45 (by decide) ?_
          have hf := while_l hX1 hf
          exact ih1 x2_1 (x3_1 + (1 : Int32)) _ _ ls hG (lv_sub hl [1, 2, 3, 0] rfl) hf
        · have hf := gif_t c4 hf
          refine lv_aload_n hx hb dX6_hearersOf_21 rfl (lv_at hl 0 rfl) ?_
          refine g_getSa (o := 5) (a := (t + 5)) C0 hG (T6_0 hG ho) rfl 4 (by decide) rfl rfl w_162 dX6_hearersOf_22 ?_
          refine lv_iload_n hx hb dX6_hearersOf_25 rfl (lv_at hl 3 rfl) ?_
          obtain ⟨h5, hf⟩ := gin_s hf
          refine g_iald C0 hG (T6_5 hG ho) h5 dX6_hearersOf_26 ?_
          refine lv_aload_n hx hb dX6_hearersOf_27 rfl (lv_at hl 0 rfl) ?_
          refine g_getSa (o := 5) (a := (t + 5)) C0 hG (T6_0 hG ho) rfl 4 (by decide) rfl rfl w_162 dX6_hearersOf_28 ?_
          refine lv_iload_n hx hb dX6_hearersOf_31 rfl (lv_at hl 1 rfl) ?_
          obtain ⟨h6, hf⟩ := gin_s hf
          refine g_iald C0 hG (T6_5 hG ho) h6 dX6_hearersOf_32 ?_
          refine lv_icmp_ne (tgt := 42) hx hb dX6_hearersOf_33 (by decide) (fun c7 => ?_) (fun c7 => ?_)
          · have hf := gif_f c7 hf
            refine lv_iinc (v := x3_1 + (1 : Int32)) (lv' := [(3, .int (x3_1 + (1 : Int32))), (0, .ref (base + t)), (1, .int p1), (2, .int x2_1)]) hx hb dX6_hearersOf_42 hl (k := 3) rfl rfl (by decide) rfl (fun ls hl => ?_)
            refine lv_goto (tgt := 4) hx hb dX6_hearersOf_45 (by decide) ?_
            have hf := while_l hX1 hf
            exact ih1 x2_1 (x3_1 + (1 : Int32)) _ _ ls hG (lv_sub hl [1, 2, 3, 0] rfl) hf
          · have hf := gif_t c7 hf
            refine lv_iload_n hx hb dX6_hearersOf_36 rfl (lv_at hl 2 rfl) ?_
            refine lv_iconst (v := (1 : Int32)) hx hb dX6_hearersOf_37 (by decide) ?_
            refine lv_iload_n hx hb dX6_hearersOf_38 rfl (lv_at hl 3 rfl) ?_
            refine lv_ishl hx hb dX6_hearersOf_39 ?_
            refine lv_ior hx hb dX6_hearersOf_40 ?_
            refine lv_istore_n (lv' := [(2, .int (x2_1 ||| ((1 : Int32) <<< (x3_1 &&& 31)))), (0, .ref (base + t)), (1, .int p1), (3, .int x3_1)]) hx hb dX6_hearersOf_41 rfl hl (by decide) rfl (fun ls hl => ?_)
            refine lv_iinc (v := x3_1 + (1 : Int32)) (lv' := [(3, .int (x3_1 + (1 : Int32))), (2, .int (x2_1 ||| ((1 : Int32) <<< (x3_1 &&& 31)))), (0, .ref (base + t)), (1, .int p1)]) hx hb dX6_hearersOf_42 hl (k := 3) rfl rfl (by decide) rfl (fun ls hl => ?_)
            refine lv_goto (tgt := 4) hx hb dX6_hearersOf_45 (by decide) ?_
            have hf := while_l hX1 hf
            exact ih1 (x2_1 ||| ((1 : Int32) <<< (x3_1 &&& 31))) (x3_1 + (1 : Int32)) _ _ ls hG (lv_sub hl [2, 3, 1, 0] rfl) hf
  exact loop1 FUEL (0 : Int32) (0 : Int32) _ _ ls hG (lv_sub hl [2, 3, 1, 0] rfl) hf
theorem dX6_spread_0 : decode cX6_spread 0 = .ok (.iconst 0, 1) := by decide +kernel
theorem dX6_spread_1 : decode cX6_spread 1 = .ok (.istore_n 2, 1) := by decide +kernel
theorem dX6_spread_2 : decode cX6_spread 2 = .ok (.iconst 0, 1) := by decide +kernel
theorem dX6_spread_3 : decode cX6_spread 3 = .ok (.istore_n 3, 1) := by decide +kernel
theorem dX6_spread_4 : decode cX6_spread 4 = .ok (.iload_n 3, 1) := by decide +kernel
theorem dX6_spread_5 : decode cX6_spread 5 = .ok (.aload_n 0, 1) := by decide +kernel
theorem dX6_spread_6 : decode cX6_spread 6 = .ok (.getfield 40, 3) := by decide +kernel
theorem dX6_spread_9 : decode cX6_spread 9 = .ok (.if_icmp .ge 44, 3) := by decide +kernel
theorem dX6_spread_12 : decode cX6_spread 12 = .ok (.aload_n 0, 1) := by decide +kernel
theorem dX6_spread_13 : decode cX6_spread 13 = .ok (.iload_n 3, 1) := by decide +kernel
theorem dX6_spread_14 : decode cX6_spread 14 = .ok (.iload_n 1, 1) := by decide +kernel
theorem dX6_spread_15 : decode cX6_spread 15 = .ok (.invokevirtual 77, 3) := by decide +kernel
theorem dX6_spread_18 : decode cX6_spread 18 = .ok (.ifCond .ne 6, 3) := by decide +kernel
theorem dX6_spread_21 : decode cX6_spread 21 = .ok (.goto 26, 3) := by decide +kernel
theorem dX6_spread_24 : decode cX6_spread 24 = .ok (.iload_n 2, 1) := by decide +kernel
theorem dX6_spread_25 : decode cX6_spread 25 = .ok (.iconst 1, 1) := by decide +kernel
theorem dX6_spread_26 : decode cX6_spread 26 = .ok (.iload_n 3, 1) := by decide +kernel
theorem dX6_spread_27 : decode cX6_spread 27 = .ok (.ishl, 1) := by decide +kernel
theorem dX6_spread_28 : decode cX6_spread 28 = .ok (.ior, 1) := by decide +kernel
theorem dX6_spread_29 : decode cX6_spread 29 = .ok (.istore_n 2, 1) := by decide +kernel
theorem dX6_spread_30 : decode cX6_spread 30 = .ok (.aload_n 0, 1) := by decide +kernel
theorem dX6_spread_31 : decode cX6_spread 31 = .ok (.getfield 30, 3) := by decide +kernel
theorem dX6_spread_34 : decode cX6_spread 34 = .ok (.iload_n 3, 1) := by decide +kernel
theorem dX6_spread_35 : decode cX6_spread 35 = .ok (.baload, 1) := by decide +kernel
theorem dX6_spread_36 : decode cX6_spread 36 = .ok (.ifCond .ne 11, 3) := by decide +kernel
theorem dX6_spread_39 : decode cX6_spread 39 = .ok (.iload_n 2, 1) := by decide +kernel
theorem dX6_spread_40 : decode cX6_spread 40 = .ok (.aload_n 0, 1) := by decide +kernel
theorem dX6_spread_41 : decode cX6_spread 41 = .ok (.iload_n 3, 1) := by decide +kernel
theorem dX6_spread_42 : decode cX6_spread 42 = .ok (.invokevirtual 84, 3) := by decide +kernel
theorem dX6_spread_45 : decode cX6_spread 45 = .ok (.ior, 1) := by decide +kernel
theorem dX6_spread_46 : decode cX6_spread 46 = .ok (.istore_n 2, 1) := by decide +kernel
theorem dX6_spread_47 : decode cX6_spread 47 = .ok (.iinc 3 1, 3) := by decide +kernel
theorem dX6_spread_50 : decode cX6_spread 50 = .ok (.goto (-46), 3) := by decide +kernel
theorem dX6_spread_53 : decode cX6_spread 53 = .ok (.iload_n 2, 1) := by decide +kernel
theorem dX6_spread_54 : decode cX6_spread 54 = .ok (.ireturn, 1) := by decide +kernel
def f_X6_spread_L4 (u : Mem) (t : Nat) (p1 : Int32) (x2_1 : Int32) (x3_1 : Int32) : Option ((Int32 × Int32) ⊕ Int32) := (if (gI u t 9) ≤ x3_1 then some (Sum.inr (x2_1)) else Option.bind (f_X6_knowsOf t x3_1 p1 u) (fun r3 => (if r3 = 0 then some (Sum.inl (x2_1, x3_1 + (1 : Int32))) else gin x3_1 6 ((if (gA u (t + 7) x3_1.toNatClampNeg) = 0 then Option.bind (f_X6_hearersOf t x3_1 u) (fun r7 => some (Sum.inl ((x2_1 ||| ((1 : Int32) <<< (x3_1 &&& 31))) ||| r7, x3_1 + (1 : Int32)))) else some (Sum.inl (x2_1 ||| ((1 : Int32) <<< (x3_1 &&& 31)), x3_1 + (1 : Int32))))))))
def f_X6_spread (t : Nat) (p1 : Int32) (u : Mem) : Option (Int32) := whileO (fun s => f_X6_spread_L4 u t p1 s.1 s.2) FUEL ((0 : Int32), (0 : Int32))
set_option maxHeartbeats 4000000 in
set_option maxRecDepth 100000 in
theorem k_X6_spread (l : Launch) (D : gDt) (base : Nat) (Z : gZt) (u : Mem) (t : Nat) (p1 : Int32) (r : Int32) (ho : gok 129 t l6) (hf : f_X6_spread t p1 u = some r) : Met l yX6_spread (gws yX6_spread cX6_spread 4 (some .int)) (gRm 2 0 0) (gPc D base Z u [.ref (base + t), .int p1]) (gQi D base r u) 0 0 (gF base) := by
  refine Met.ofW (cc := cX6_spread) (maxL := 4) (ret := some .int) (by decide) rfl ?_
  intro p e s m args below meth c s₁ B hml hv
  obtain ⟨rfl, C0, hG⟩ := g_enter B hml hv
  have hr := B.returns
  have C0 : gC p s m meth c _ cX6_spread 4 RX6 D base Z := C0
  have hx := C0.1
  have hb := C0.2.1
  have hl := lv_entry ([.ref (base + t), .int p1]) (n := 4) (Nat.le_of_ble_eq_true rfl)
  rw [lg_entry_eq]
  generalize (lg_sl ([.ref (base + t), .int p1]) ++ List.replicate (4 - (lg_sl ([.ref (base + t), .int p1])).length) Slot.unset).toArray = ls at hl ⊢
  have hl : lv_has ls 4 [(0, .ref (base + t)), (1, .int p1)] := hl
  obtain ⟨Q, hQ⟩ : ∃ Q, Q = MQ below (gQi D base r u) ([.ref (base + t), .int p1] : List Value).toArray s 0 0 (gF base) := ⟨_, rfl⟩
  rw [← hQ]
  change W p l e (gRm 2 0 0) s m _ below meth c _ _ _ _ _ _
  unfold f_X6_spread at hf
  refine lv_iconst (v := (0 : Int32)) hx hb dX6_spread_0 (by decide) ?_
  refine lv_istore_n (lv' := [(2, .int (0 : Int32)), (0, .ref (base + t)), (1, .int p1)]) hx hb dX6_spread_1 rfl hl (by decide) rfl (fun ls hl => ?_)
  refine lv_iconst (v := (0 : Int32)) hx hb dX6_spread_2 (by decide) ?_
  refine lv_istore_n (lv' := [(3, .int (0 : Int32)), (2, .int (0 : Int32)), (0, .ref (base + t)), (1, .int p1)]) hx hb dX6_spread_3 rfl hl (by decide) rfl (fun ls hl => ?_)
  have loop1 : ∀ (n1 : Nat) (x2_1 : Int32) (x3_1 : Int32) (H : Heap) (locs : List Loc) (ls : Array Slot), gH D base s u H locs → lv_has ls 4 [(0, .ref (base + t)), (1, .int p1), (2, .int x2_1), (3, .int x3_1)] → whileO (fun s => f_X6_spread_L4 u t p1 s.1 s.2) n1 (x2_1, x3_1) = some r → W p l e (gRm 2 0 0) s m ([.ref (base + t), .int p1] : List Value).toArray below meth c H locs 0 0 Q (F0 m 4 ls []) := by
    intro n1
    induction n1 with
    | zero => intro x2_1 x3_1 H locs ls hG hl hf; cases hf
    | succ n1 ih1 =>
      intro x2_1 x3_1 H locs ls hG hl hf
      obtain ⟨X1, hf, hX1⟩ := while_s hf
      have hf : f_X6_spread_L4 u t p1 x2_1 x3_1 = some X1 := hf
      unfold f_X6_spread_L4 at hf
      refine lv_iload_n hx hb dX6_spread_4 rfl (lv_at hl 3 rfl) ?_
      refine lv_aload_n hx hb dX6_spread_5 rfl (lv_at hl 0 rfl) ?_
      refine g_getI C0 hG (T6_0 hG ho) rfl 9 (by decide) rfl w_171 dX6_spread_6 ?_
      refine lv_icmp_ge (tgt := 53) hx hb dX6_spread_9 (by decide) (fun c2 => ?_) (fun c2 => ?_)
      · have hf := gif_t c2 hf
        refine lv_iload_n hx hb dX6_spread_53 rfl (lv_at hl 2 rfl) ?_
        have hf := while_r hX1 hf
        have hf := Option.some.inj hf
        subst hf
        subst hQ
        exact g_iret C0 hG hr dX6_spread_54
      · have hf := gif_f c2 hf
        refine lv_aload_n hx hb dX6_spread_12 rfl (lv_at hl 0 rfl) ?_
        refine lv_iload_n hx hb dX6_spread_13 rfl (lv_at hl 3 rfl) ?_
        refine lv_iload_n hx hb dX6_spread_14 rfl (lv_at hl 1 rfl) ?_
        obtain ⟨r3, hc3, hf⟩ := pb_s hf
        refine g_doI0 hG (g_runV C0 hG (k_X6_knowsOf l D base Z u t x3_1 p1 r3 ho hc3) m_X6_knowsOf v_X6_knowsOf w_389 (by decide) (g_recv C0 hG (T6_0 hG ho) rfl) rfl hl.1 rfl (Nat.le_of_ble_eq_true rfl) dX6_spread_15 ⟨Nat.zero_le _, Nat.zero_le _⟩) (fun H locs hG hk => ?_)
        refine lv_if_ne (tgt := 24) hx hb dX6_spread_18 (by decide) (fun c4 => ?_) (fun c4 => ?_)
        · have hf := gif_f c4 hf
          refine lv_iload_n hx hb dX6_spread_24 rfl (lv_at hl 2 rfl) ?_
          refine lv_iconst (v := (1 : Int32)) hx hb dX6_spread_25 (by decide) ?_
          refine lv_iload_n hx hb dX6_spread_26 rfl (lv_at hl 3 rfl) ?_
          refine lv_ishl hx hb dX6_spread_27 ?_
          refine lv_ior hx hb dX6_spread_28 ?_
          refine lv_istore_n (lv' := [(2, .int (x2_1 ||| ((1 : Int32) <<< (x3_1 &&& 31)))), (0, .ref (base + t)), (1, .int p1), (3, .int x3_1)]) hx hb dX6_spread_29 rfl hl (by decide) rfl (fun ls hl => ?_)
          refine lv_aload_n hx hb dX6_spread_30 rfl (lv_at hl 1 rfl) ?_
          refine g_getSa (o := 7) (a := (t + 7)) C0 hG (T6_0 hG ho) rfl 6 (by decide) rfl rfl w_166 dX6_spread_31 ?_
          refine lv_iload_n hx hb dX6_spread_34 rfl (lv_at hl 3 rfl) ?_
          obtain ⟨h5, hf⟩ := gin_s hf
          refine g_zald C0 hG (T6_7 hG ho) h5 dX6_spread_35 ?_
          refine lv_if_ne (tgt := 47) hx hb dX6_spread_36 (by decide) (fun c6 => ?_) (fun c6 => ?_)
          · have hf := gif_f c6 hf
            refine lv_iinc (v := x3_1 + (1 : Int32)) (lv' := [(3, .int (x3_1 + (1 : Int32))), (2, .int (x2_1 ||| ((1 : Int32) <<< (x3_1 &&& 31)))), (0, .ref (base + t)), (1, .int p1)]) hx hb dX6_spread_47 hl (k := 3) rfl rfl (by decide) rfl (fun ls hl => ?_)
            refine lv_goto (tgt := 4) hx hb dX6_spread_50 (by decide) ?_
            have hf := while_l hX1 hf
            exact ih1 (x2_1 ||| ((1 : Int32) <<< (x3_1 &&& 31))) (x3_1 + (1 : Int32)) _ _ ls hG (lv_sub hl [2, 3, 1, 0] rfl) hf
          · have hf := gif_t c6 hf
            refine lv_iload_n hx hb dX6_spread_39 rfl (lv_at hl 0 rfl) ?_
            refine lv_aload_n hx hb dX6_spread_40 rfl (lv_at hl 1 rfl) ?_
            refine lv_iload_n hx hb dX6_spread_41 rfl (lv_at hl 3 rfl) ?_
            obtain ⟨r7, hc7, hf⟩ := pb_s hf
            refine g_doI0 hG (g_runV C0 hG (k_X6_hearersOf l D base Z u t x3_1 r7 ho hc7) m_X6_hearersOf v_X6_hearersOf w_636 (by decide) (g_recv C0 hG (T6_0 hG ho) rfl) rfl hl.1 rfl (Nat.le_of_ble_eq_true rfl) dX6_spread_42 ⟨Nat.zero_le _, Nat.zero_le _⟩) (fun H locs hG hk => ?_)
            refine lv_ior hx hb dX6_spread_45 ?_
            refine lv_istore_n (lv' := [(2, .int ((x2_1 ||| ((1 : Int32) <<< (x3_1 &&& 31))) ||| r7)), (0, .ref (base + t)), (1, .int p1), (3, .int x3_1)]) hx hb dX6_spread_46 rfl hl (by decide) rfl (fun ls hl => ?_)
            refine lv_iinc (v := x3_1 + (1 : Int32)) (lv' := [(3, .int (x3_1 + (1 : Int32))), (2, .int ((x2_1 ||| ((1 : Int32) <<< (x3_1 &&& 31))) ||| r7)), (0, .ref (base + t)), (1, .int p1)]) hx hb dX6_spread_47 hl (k := 3) rfl rfl (by decide) rfl (fun ls hl => ?_)
            refine lv_goto (tgt := 4) hx hb dX6_spread_50 (by decide) ?_
            have hf := while_l hX1 hf
            exact ih1 ((x2_1 ||| ((1 : Int32) <<< (x3_1 &&& 31))) ||| r7) (x3_1 + (1 : Int32)) _ _ ls hG (lv_sub hl [2, 3, 1, 0] rfl) hf
        · have hf := gif_t c4 hf
          refine lv_goto (tgt := 47) hx hb dX6_spread_21 (by decide) ?_
          refine lv_iinc (v := x3_1 + (1 : Int32)) (lv' := [(3, .int (x3_1 + (1 : Int32))), (0, .ref (base + t)), (1, .int p1), (2, .int x2_1)]) hx hb dX6_spread_47 hl (k := 3) rfl rfl (by decide) rfl (fun ls hl => ?_)
          refine lv_goto (tgt := 4) hx hb dX6_spread_50 (by decide) ?_
          have hf := while_l hX1 hf
          exact ih1 x2_1 (x3_1 + (1 : Int32)) _ _ ls hG (lv_sub hl [1, 2, 3, 0] rfl) hf
  exact loop1 FUEL (0 : Int32) (0 : Int32) _ _ ls hG (lv_sub hl [2, 3, 1, 0] rfl) hf
theorem dX6_tell_0 : decode cX6_tell 0 = .ok (.aload_n 0, 1) := by decide +kernel
theorem dX6_tell_1 : decode cX6_tell 1 = .ok (.dup, 1) := by decide +kernel
theorem dX6_tell_2 : decode cX6_tell 2 = .ok (.getfield 44, 3) := by decide +kernel
theorem dX6_tell_5 : decode cX6_tell 5 = .ok (.aload_n 0, 1) := by decide +kernel
theorem dX6_tell_6 : decode cX6_tell 6 = .ok (.iload_n 1, 1) := by decide +kernel
theorem dX6_tell_7 : decode cX6_tell 7 = .ok (.iload_n 2, 1) := by decide +kernel
theorem dX6_tell_8 : decode cX6_tell 8 = .ok (.invokevirtual 81, 3) := by decide +kernel
theorem dX6_tell_11 : decode cX6_tell 11 = .ok (.iadd, 1) := by decide +kernel
theorem dX6_tell_12 : decode cX6_tell 12 = .ok (.putfield 44, 3) := by decide +kernel
theorem dX6_tell_15 : decode cX6_tell 15 = .ok (.aload_n 0, 1) := by decide +kernel
theorem dX6_tell_16 : decode cX6_tell 16 = .ok (.getfield 15, 3) := by decide +kernel
theorem dX6_tell_19 : decode cX6_tell 19 = .ok (.iload_n 2, 1) := by decide +kernel
theorem dX6_tell_20 : decode cX6_tell 20 = .ok (.aload_n 0, 1) := by decide +kernel
theorem dX6_tell_21 : decode cX6_tell 21 = .ok (.getfield 15, 3) := by decide +kernel
theorem dX6_tell_24 : decode cX6_tell 24 = .ok (.iload_n 2, 1) := by decide +kernel
theorem dX6_tell_25 : decode cX6_tell 25 = .ok (.iaload, 1) := by decide +kernel
theorem dX6_tell_26 : decode cX6_tell 26 = .ok (.iconst 1, 1) := by decide +kernel
theorem dX6_tell_27 : decode cX6_tell 27 = .ok (.iadd, 1) := by decide +kernel
theorem dX6_tell_28 : decode cX6_tell 28 = .ok (.bipush 99, 2) := by decide +kernel
theorem dX6_tell_30 : decode cX6_tell 30 = .ok (.invokestatic 98, 3) := by decide +kernel
theorem dX6_tell_33 : decode cX6_tell 33 = .ok (.iastore, 1) := by decide +kernel
theorem dX6_tell_34 : decode cX6_tell 34 = .ok (.aload_n 0, 1) := by decide +kernel
theorem dX6_tell_35 : decode cX6_tell 35 = .ok (.iload_n 1, 1) := by decide +kernel
theorem dX6_tell_36 : decode cX6_tell 36 = .ok (.invokevirtual 84, 3) := by decide +kernel
theorem dX6_tell_39 : decode cX6_tell 39 = .ok (.istore_n 3, 1) := by decide +kernel
theorem dX6_tell_40 : decode cX6_tell 40 = .ok (.iconst 0, 1) := by decide +kernel
theorem dX6_tell_41 : decode cX6_tell 41 = .ok (.istore 4, 2) := by decide +kernel
theorem dX6_tell_43 : decode cX6_tell 43 = .ok (.iload 4, 2) := by decide +kernel
theorem dX6_tell_45 : decode cX6_tell 45 = .ok (.aload_n 0, 1) := by decide +kernel
theorem dX6_tell_46 : decode cX6_tell 46 = .ok (.getfield 40, 3) := by decide +kernel
theorem dX6_tell_49 : decode cX6_tell 49 = .ok (.if_icmp .ge 31, 3) := by decide +kernel
theorem dX6_tell_52 : decode cX6_tell 52 = .ok (.iload_n 3, 1) := by decide +kernel
theorem dX6_tell_53 : decode cX6_tell 53 = .ok (.iload 4, 2) := by decide +kernel
theorem dX6_tell_55 : decode cX6_tell 55 = .ok (.ishr, 1) := by decide +kernel
theorem dX6_tell_56 : decode cX6_tell 56 = .ok (.iconst 1, 1) := by decide +kernel
theorem dX6_tell_57 : decode cX6_tell 57 = .ok (.iand, 1) := by decide +kernel
theorem dX6_tell_58 : decode cX6_tell 58 = .ok (.ifCond .eq 16, 3) := by decide +kernel
theorem dX6_tell_61 : decode cX6_tell 61 = .ok (.aload_n 0, 1) := by decide +kernel
theorem dX6_tell_62 : decode cX6_tell 62 = .ok (.getfield 27, 3) := by decide +kernel
theorem dX6_tell_65 : decode cX6_tell 65 = .ok (.iload 4, 2) := by decide +kernel
theorem dX6_tell_67 : decode cX6_tell 67 = .ok (.dup2, 1) := by decide +kernel
theorem dX6_tell_68 : decode cX6_tell 68 = .ok (.iaload, 1) := by decide +kernel
theorem dX6_tell_69 : decode cX6_tell 69 = .ok (.iconst 1, 1) := by decide +kernel
theorem dX6_tell_70 : decode cX6_tell 70 = .ok (.iload_n 2, 1) := by decide +kernel
theorem dX6_tell_71 : decode cX6_tell 71 = .ok (.ishl, 1) := by decide +kernel
theorem dX6_tell_72 : decode cX6_tell 72 = .ok (.ior, 1) := by decide +kernel
theorem dX6_tell_73 : decode cX6_tell 73 = .ok (.iastore, 1) := by decide +kernel
theorem dX6_tell_74 : decode cX6_tell 74 = .ok (.iinc 4 1, 3) := by decide +kernel
theorem dX6_tell_77 : decode cX6_tell 77 = .ok (.goto (-34), 3) := by decide +kernel
theorem dX6_tell_80 : decode cX6_tell 80 = .ok (.return_, 1) := by decide +kernel
def f_X6_tell_L43 (t : Nat) (r4 : Int32) (p2 : Int32) (x4_5 : Int32) (u5 : Mem) : Option ((Int32 × Mem) ⊕ (Unit × Mem)) := (if (gI u5 t 9) ≤ x4_5 then some (Sum.inr ((), u5)) else (if ((r4 >>> (x4_5 &&& 31)) &&& (1 : Int32)) = 0 then some (Sum.inl (x4_5 + (1 : Int32), u5)) else gin x4_5 6 (gin x4_5 6 (some (Sum.inl (x4_5 + (1 : Int32), sA u5 (t + 6) x4_5.toNatClampNeg ((gA u5 (t + 6) x4_5.toNatClampNeg) ||| ((1 : Int32) <<< (p2 &&& 31)))))))))
def f_X6_tell (t : Nat) (p1 : Int32) (p2 : Int32) (u : Mem) : Option (Unit × Mem) := obind (f_X6_glow t p1 p2 u) (fun r1 u1 => gin p2 8 (gin p2 8 (Option.bind (f_X6_hearersOf t p1 (sA (sI u1 t 10 ((gI u t 10) + r1)) (t + 2) p2.toNatClampNeg (imin ((gA (sI u1 t 10 ((gI u t 10) + r1)) (t + 2) p2.toNatClampNeg) + (1 : Int32)) (99 : Int32)))) (fun r4 => whileO (fun s => f_X6_tell_L43 t r4 p2 s.1 s.2) FUEL ((0 : Int32), sA (sI u1 t 10 ((gI u t 10) + r1)) (t + 2) p2.toNatClampNeg (imin ((gA (sI u1 t 10 ((gI u t 10) + r1)) (t + 2) p2.toNatClampNeg) + (1 : Int32)) (99 : Int32)))))))
set_option maxHeartbeats 4000000 in
set_option maxRecDepth 100000 in
theorem k_X6_tell (l : Launch) (D : gDt) (base : Nat) (Z : gZt) (u : Mem) (t : Nat) (p1 : Int32) (p2 : Int32) (u' : Mem) (ho : gok 129 t l6) (hf : f_X6_tell t p1 p2 u = some ((), u')) : Met l yX6_tell (gws yX6_tell cX6_tell 5 (none)) (gRm 5 0 0) (gPc D base Z u [.ref (base + t), .int p1, .int p2]) (gQv D base u') 0 0 (gF base) := by
  refine Met.ofW (cc := cX6_tell) (maxL := 5) (ret := none) (by decide) rfl ?_
  intro p e s m args below meth c s₁ B hml hv
  obtain ⟨rfl, C0, hG⟩ := g_enter B hml hv
  have hr := B.returns
  have C0 : gC p s m meth c _ cX6_tell 5 RX6 D base Z := C0
  have hx := C0.1
  have hb := C0.2.1
  have hl := lv_entry ([.ref (base + t), .int p1, .int p2]) (n := 5) (Nat.le_of_ble_eq_true rfl)
  rw [lg_entry_eq]
  generalize (lg_sl ([.ref (base + t), .int p1, .int p2]) ++ List.replicate (5 - (lg_sl ([.ref (base + t), .int p1, .int p2])).length) Slot.unset).toArray = ls at hl ⊢
  have hl : lv_has ls 5 [(0, .ref (base + t)), (1, .int p1), (2, .int p2)] := hl
  obtain ⟨Q, hQ⟩ : ∃ Q, Q = MQ below (gQv D base u') ([.ref (base + t), .int p1, .int p2] : List Value).toArray s 0 0 (gF base) := ⟨_, rfl⟩
  rw [← hQ]
  change W p l e (gRm 5 0 0) s m _ below meth c _ _ _ _ _ _
  unfold f_X6_tell at hf
  refine lv_aload_n hx hb dX6_tell_0 rfl (lv_at hl 0 rfl) ?_
  refine lv_dup hx hb dX6_tell_1 rfl ?_
  refine g_getI C0 hG (T6_0 hG ho) rfl 10 (by decide) rfl w_173 dX6_tell_2 ?_
  refine lv_aload_n hx hb dX6_tell_5 rfl (lv_at hl 0 rfl) ?_
  refine lv_iload_n hx hb dX6_tell_6 rfl (lv_at hl 1 rfl) ?_
  refine lv_iload_n hx hb dX6_tell_7 rfl (lv_at hl 2 rfl) ?_
  obtain ⟨r1, u1, hc1, hf⟩ := obind_s hf
  refine g_doI0 hG (g_runV C0 hG (k_X6_glow l D base Z u t p1 p2 r1 u1 ho hc1) m_X6_glow v_X6_glow w_393 (by decide) (g_recv C0 hG (T6_0 hG ho) rfl) rfl hl.1 rfl (Nat.le_of_ble_eq_true rfl) dX6_tell_8 ⟨Nat.zero_le _, Nat.zero_le _⟩) (fun H locs hG hk => ?_)
  refine lv_iadd hx hb dX6_tell_11 ?_
  refine g_putI (ty := .int) C0 hG (T6_0 hG ho) rfl 10 (by decide) rfl w_173 rfl (by decide) rfl rfl dX6_tell_12 (fun H locs hG => ?_)
  refine lv_aload_n hx hb dX6_tell_15 rfl (lv_at hl 0 rfl) ?_
  refine g_getSa (o := 2) (a := (t + 2)) C0 hG (T6_0 hG ho) rfl 1 (by decide) rfl rfl w_156 dX6_tell_16 ?_
  refine lv_iload_n hx hb dX6_tell_19 rfl (lv_at hl 2 rfl) ?_
  refine lv_aload_n hx hb dX6_tell_20 rfl (lv_at hl 0 rfl) ?_
  refine g_getSa (o := 2) (a := (t + 2)) C0 hG (T6_0 hG ho) rfl 1 (by decide) rfl rfl w_156 dX6_tell_21 ?_
  refine lv_iload_n hx hb dX6_tell_24 rfl (lv_at hl 2 rfl) ?_
  obtain ⟨h2, hf⟩ := gin_s hf
  refine g_iald C0 hG (T6_2 hG ho) h2 dX6_tell_25 ?_
  refine lv_iconst (v := (1 : Int32)) hx hb dX6_tell_26 (by decide) ?_
  refine lv_iadd hx hb dX6_tell_27 ?_
  refine lv_bipush (v := (99 : Int32)) hx hb dX6_tell_28 (by decide) ?_
  refine g_min C0 w_653 mt_min_s mt_i mt_min_c hl.1 ⟨Nat.le_of_ble_eq_true rfl, Nat.le_of_ble_eq_true rfl, Nat.zero_le _, Nat.zero_le _⟩ dX6_tell_30 ?_
  obtain ⟨h3, hf⟩ := gin_s hf
  refine g_iast C0 hG (T6_2 hG ho) h3 dX6_tell_33 (fun H locs hG => ?_)
  refine lv_aload_n hx hb dX6_tell_34 rfl (lv_at hl 0 rfl) ?_
  refine lv_iload_n hx hb dX6_tell_35 rfl (lv_at hl 1 rfl) ?_
  obtain ⟨r4, hc4, hf⟩ := pb_s hf
  refine g_doI0 hG (g_runV C0 hG (k_X6_hearersOf l D base Z (sA (sI u1 t 10 ((gI u t 10) + r1)) (t + 2) p2.toNatClampNeg (imin ((gA (sI u1 t 10 ((gI u t 10) + r1)) (t + 2) p2.toNatClampNeg) + (1 : Int32)) (99 : Int32))) t p1 r4 ho hc4) m_X6_hearersOf v_X6_hearersOf w_636 (by decide) (g_recv C0 hG (T6_0 hG ho) rfl) rfl hl.1 rfl (Nat.le_of_ble_eq_true rfl) dX6_tell_36 ⟨Nat.zero_le _, Nat.zero_le _⟩) (fun H locs hG hk => ?_)
  refine lv_istore_n (lv' := [(3, .int r4), (0, .ref (base + t)), (1, .int p1), (2, .int p2)]) hx hb dX6_tell_39 rfl hl (by decide) rfl (fun ls hl => ?_)
  refine lv_iconst (v := (0 : Int32)) hx hb dX6_tell_40 (by decide) ?_
  refine lv_istore (lv' := [(4, .int (0 : Int32)), (3, .int r4), (0, .ref (base + t)), (1, .int p1), (2, .int p2)]) hx hb dX6_tell_41 hl (by decide) rfl (fun ls hl => ?_)
  have loop5 : ∀ (n5 : Nat) (x4_5 : Int32) (u5 : Mem) (H : Heap) (locs : List Loc) (ls : Array Slot), gH D base s u5 H locs → lv_has ls 5 [(0, .ref (base + t)), (2, .int p2), (3, .int r4), (4, .int x4_5)] → whileO (fun s => f_X6_tell_L43 t r4 p2 s.1 s.2) n5 (x4_5, u5) = some ((), u') → W p l e (gRm 5 0 0) s m ([.ref (base + t), .int p1, .int p2] : List Value).toArray below meth c H locs 0 0 Q (F0 m 43 ls []) := by
    intro n5
    induction n5 with
    | zero => intro x4_5 u5 H locs ls hG hl hf; cases hf
    | succ n5 ih5 =>
      intro x4_5 u5 H locs ls hG hl hf
      obtain ⟨X5, hf, hX5⟩ := while_s hf
      have hf : f_X6_tell_L43 t r4 p2 x4_5 u5 = some X5 := hf
      unfold f_X6_tell_L43 at hf
      refine lv_iload hx hb dX6_tell_43 (lv_at hl 3 rfl) ?_
      refine lv_aload_n hx hb dX6_tell_45 rfl (lv_at hl 0 rfl) ?_
      refine g_getI C0 hG (T6_0 hG ho) rfl 9 (by decide) rfl w_171 dX6_tell_46 ?_
      refine lv_icmp_ge (tgt := 80) hx hb dX6_tell_49 (by decide) (fun c6 => ?_) (fun c6 => ?_)
      · have hf := gif_t c6 hf
        have hf := while_r hX5 hf
        obtain ⟨-, hu⟩ := gret_s hf
        subst hu
        subst hQ
        exact g_vret C0 hG hr dX6_tell_80
      · have hf := gif_f c6 hf
        refine lv_iload_n hx hb dX6_tell_52 rfl (lv_at hl 2 rfl) ?_
        refine lv_iload hx hb dX6_tell_53 (lv_at hl 3 rfl) ?_
        refine lv_ishr hx hb dX6_tell_55 ?_
        refine lv_iconst (v := (1 : Int32)) hx hb dX6_tell_56 (by decide) ?_
        refine lv_iand hx hb dX6_tell_57 ?_
        refine lv_if_eq (tgt := 74) hx hb dX6_tell_58 (by decide) (fun c7 => ?_) (fun c7 => ?_)
        · have hf := gif_t c7 hf
          refine lv_iinc (v := x4_5 + (1 : Int32)) (lv' := [(4, .int (x4_5 + (1 : Int32))), (0, .ref (base + t)), (2, .int p2), (3, .int r4)]) hx hb dX6_tell_74 hl (k := 3) rfl rfl (by decide) rfl (fun ls hl => ?_)
          refine lv_goto (tgt := 43) hx hb dX6_tell_77 (by decide) ?_
          have hf := while_l hX5 hf
          exact ih5 (x4_5 + (1 : Int32)) u5 _ _ ls hG (lv_sub hl [1, 2, 3, 0] rfl) hf
        · have hf := gif_f c7 hf
          refine lv_aload_n hx hb dX6_tell_61 rfl (lv_at hl 0 rfl) ?_
          refine g_getSa (o := 6) (a := (t + 6)) C0 hG (T6_0 hG ho) rfl 5 (by decide) rfl rfl w_164 dX6_tell_62 ?_
          refine lv_iload hx hb dX6_tell_65 (lv_at hl 3 rfl) ?_
          refine lv_dup2_11 hx hb dX6_tell_67 rfl rfl ?_
          obtain ⟨h8, hf⟩ := gin_s hf
          refine g_iald C0 hG (T6_6 hG ho) h8 dX6_tell_68 ?_
          refine lv_iconst (v := (1 : Int32)) hx hb dX6_tell_69 (by decide) ?_
          refine lv_iload_n hx hb dX6_tell_70 rfl (lv_at hl 1 rfl) ?_
          refine lv_ishl hx hb dX6_tell_71 ?_
          refine lv_ior hx hb dX6_tell_72 ?_
          obtain ⟨h9, hf⟩ := gin_s hf
          refine g_iast C0 hG (T6_6 hG ho) h9 dX6_tell_73 (fun H locs hG => ?_)
          refine lv_iinc (v := x4_5 + (1 : Int32)) (lv' := [(4, .int (x4_5 + (1 : Int32))), (0, .ref (base + t)), (2, .int p2), (3, .int r4)]) hx hb dX6_tell_74 hl (k := 3) rfl rfl (by decide) rfl (fun ls hl => ?_)
          refine lv_goto (tgt := 43) hx hb dX6_tell_77 (by decide) ?_
          have hf := while_l hX5 hf
          exact ih5 (x4_5 + (1 : Int32)) (sA u5 (t + 6) x4_5.toNatClampNeg ((gA u5 (t + 6) x4_5.toNatClampNeg) ||| ((1 : Int32) <<< (p2 &&& 31)))) _ _ ls hG (lv_sub hl [1, 2, 3, 0] rfl) hf
  exact loop5 FUEL (0 : Int32) (sA (sI u1 t 10 ((gI u t 10) + r1)) (t + 2) p2.toNatClampNeg (imin ((gA (sI u1 t 10 ((gI u t 10) + r1)) (t + 2) p2.toNatClampNeg) + (1 : Int32)) (99 : Int32))) _ _ ls hG (lv_sub hl [2, 4, 1, 0] rfl) hf
theorem dX6_roll_0 : decode cX6_roll 0 = .ok (.aload_n 0, 1) := by decide +kernel
theorem dX6_roll_1 : decode cX6_roll 1 = .ok (.getfield 56, 3) := by decide +kernel
theorem dX6_roll_4 : decode cX6_roll 4 = .ok (.getfield 103, 3) := by decide +kernel
theorem dX6_roll_7 : decode cX6_roll 7 = .ok (.iconst 1, 1) := by decide +kernel
theorem dX6_roll_8 : decode cX6_roll 8 = .ok (.invokestatic 106, 3) := by decide +kernel
theorem dX6_roll_11 : decode cX6_roll 11 = .ok (.istore_n 1, 1) := by decide +kernel
theorem dX6_roll_12 : decode cX6_roll 12 = .ok (.aload_n 0, 1) := by decide +kernel
theorem dX6_roll_13 : decode cX6_roll 13 = .ok (.getfield 44, 3) := by decide +kernel
theorem dX6_roll_16 : decode cX6_roll 16 = .ok (.iload_n 1, 1) := by decide +kernel
theorem dX6_roll_17 : decode cX6_roll 17 = .ok (.idiv, 1) := by decide +kernel
theorem dX6_roll_18 : decode cX6_roll 18 = .ok (.bipush 20, 2) := by decide +kernel
theorem dX6_roll_20 : decode cX6_roll 20 = .ok (.invokestatic 98, 3) := by decide +kernel
theorem dX6_roll_23 : decode cX6_roll 23 = .ok (.istore_n 2, 1) := by decide +kernel
theorem dX6_roll_24 : decode cX6_roll 24 = .ok (.aload_n 0, 1) := by decide +kernel
theorem dX6_roll_25 : decode cX6_roll 25 = .ok (.aload_n 0, 1) := by decide +kernel
theorem dX6_roll_26 : decode cX6_roll 26 = .ok (.getfield 47, 3) := by decide +kernel
theorem dX6_roll_29 : decode cX6_roll 29 = .ok (.iload_n 2, 1) := by decide +kernel
theorem dX6_roll_30 : decode cX6_roll 30 = .ok (.iadd, 1) := by decide +kernel
theorem dX6_roll_31 : decode cX6_roll 31 = .ok (.sipush 9999, 3) := by decide +kernel
theorem dX6_roll_34 : decode cX6_roll 34 = .ok (.invokestatic 98, 3) := by decide +kernel
theorem dX6_roll_37 : decode cX6_roll 37 = .ok (.putfield 47, 3) := by decide +kernel
theorem dX6_roll_40 : decode cX6_roll 40 = .ok (.aload_n 0, 1) := by decide +kernel
theorem dX6_roll_41 : decode cX6_roll 41 = .ok (.aload_n 0, 1) := by decide +kernel
theorem dX6_roll_42 : decode cX6_roll 42 = .ok (.getfield 44, 3) := by decide +kernel
theorem dX6_roll_45 : decode cX6_roll 45 = .ok (.iload_n 2, 1) := by decide +kernel
theorem dX6_roll_46 : decode cX6_roll 46 = .ok (.iload_n 1, 1) := by decide +kernel
theorem dX6_roll_47 : decode cX6_roll 47 = .ok (.imul, 1) := by decide +kernel
theorem dX6_roll_48 : decode cX6_roll 48 = .ok (.isub, 1) := by decide +kernel
theorem dX6_roll_49 : decode cX6_roll 49 = .ok (.sipush 9999, 3) := by decide +kernel
theorem dX6_roll_52 : decode cX6_roll 52 = .ok (.invokestatic 98, 3) := by decide +kernel
theorem dX6_roll_55 : decode cX6_roll 55 = .ok (.putfield 44, 3) := by decide +kernel
theorem dX6_roll_58 : decode cX6_roll 58 = .ok (.return_, 1) := by decide +kernel
def f_X6_roll (t : Nat) (u : Mem) : Option (Unit × Mem) := gob u.1 (gR u t 13) l0 (gne (imax (gI u (gR u t 13) 2) (1 : Int32)) (some ((), sI (sI u t 11 (imin ((gI u t 11) + (imin ((gI u t 10) / (imax (gI u (gR u t 13) 2) (1 : Int32))) (20 : Int32))) (9999 : Int32))) t 10 (imin ((gI (sI u t 11 (imin ((gI u t 11) + (imin ((gI u t 10) / (imax (gI u (gR u t 13) 2) (1 : Int32))) (20 : Int32))) (9999 : Int32))) t 10) - ((imin ((gI u t 10) / (imax (gI u (gR u t 13) 2) (1 : Int32))) (20 : Int32)) * (imax (gI u (gR u t 13) 2) (1 : Int32)))) (9999 : Int32)))))
set_option maxHeartbeats 4000000 in
set_option maxRecDepth 100000 in
theorem k_X6_roll (l : Launch) (D : gDt) (base : Nat) (Z : gZt) (u : Mem) (t : Nat) (u' : Mem) (ho : gok 129 t l6) (hf : f_X6_roll t u = some ((), u')) : Met l yX6_roll (gws yX6_roll cX6_roll 3 (none)) (gRm 1 0 0) (gPc D base Z u [.ref (base + t)]) (gQv D base u') 0 0 (gF base) := by
  refine Met.ofW (cc := cX6_roll) (maxL := 3) (ret := none) (by decide) rfl ?_
  intro p e s m args below meth c s₁ B hml hv
  obtain ⟨rfl, C0, hG⟩ := g_enter B hml hv
  have hr := B.returns
  have C0 : gC p s m meth c _ cX6_roll 3 RX6 D base Z := C0
  have hx := C0.1
  have hb := C0.2.1
  have hl := lv_entry ([.ref (base + t)]) (n := 3) (Nat.le_of_ble_eq_true rfl)
  rw [lg_entry_eq]
  generalize (lg_sl ([.ref (base + t)]) ++ List.replicate (3 - (lg_sl ([.ref (base + t)])).length) Slot.unset).toArray = ls at hl ⊢
  have hl : lv_has ls 3 [(0, .ref (base + t))] := hl
  obtain ⟨Q, hQ⟩ : ∃ Q, Q = MQ below (gQv D base u') ([.ref (base + t)] : List Value).toArray s 0 0 (gF base) := ⟨_, rfl⟩
  rw [← hQ]
  change W p l e (gRm 1 0 0) s m _ below meth c _ _ _ _ _ _
  unfold f_X6_roll at hf
  refine lv_aload_n hx hb dX6_roll_0 rfl (lv_at hl 0 rfl) ?_
  refine g_getD C0 hG (T6_0 hG ho) rfl 13 (by decide) rfl w_179 dX6_roll_1 ?_
  obtain ⟨ho1, hf⟩ := gob_s hf
  have hb1 := Nat.le_refl u.1
  refine g_getIN C0 hG (D0_0 ho1 hb1) rfl 2 (by decide) rfl w_144 dX6_roll_4 ?_
  refine lv_iconst (v := (1 : Int32)) hx hb dX6_roll_7 (by decide) ?_
  refine g_max C0 w_658 mt_max_s mt_i mt_max_c hl.1 ⟨Nat.le_of_ble_eq_true rfl, Nat.le_of_ble_eq_true rfl, Nat.zero_le _, Nat.zero_le _⟩ dX6_roll_8 ?_
  refine lv_istore_n (lv' := [(1, .int (imax (gI u (gR u t 13) 2) (1 : Int32))), (0, .ref (base + t))]) hx hb dX6_roll_11 rfl hl (by decide) rfl (fun ls hl => ?_)
  refine lv_aload_n hx hb dX6_roll_12 rfl (lv_at hl 1 rfl) ?_
  refine g_getI C0 hG (T6_0 hG ho) rfl 10 (by decide) rfl w_173 dX6_roll_13 ?_
  refine lv_iload_n hx hb dX6_roll_16 rfl (lv_at hl 0 rfl) ?_
  obtain ⟨h2, hf⟩ := gne_s hf
  refine lv_idiv hx hb dX6_roll_17 h2 ?_
  refine lv_bipush (v := (20 : Int32)) hx hb dX6_roll_18 (by decide) ?_
  refine g_min C0 w_653 mt_min_s mt_i mt_min_c hl.1 ⟨Nat.le_of_ble_eq_true rfl, Nat.le_of_ble_eq_true rfl, Nat.zero_le _, Nat.zero_le _⟩ dX6_roll_20 ?_
  refine lv_istore_n (lv' := [(2, .int (imin ((gI u t 10) / (imax (gI u (gR u t 13) 2) (1 : Int32))) (20 : Int32))), (1, .int (imax (gI u (gR u t 13) 2) (1 : Int32))), (0, .ref (base + t))]) hx hb dX6_roll_23 rfl hl (by decide) rfl (fun ls hl => ?_)
  refine lv_aload_n hx hb dX6_roll_24 rfl (lv_at hl 2 rfl) ?_
  refine lv_aload_n hx hb dX6_roll_25 rfl (lv_at hl 2 rfl) ?_
  refine g_getI C0 hG (T6_0 hG ho) rfl 11 (by decide) rfl w_175 dX6_roll_26 ?_
  refine lv_iload_n hx hb dX6_roll_29 rfl (lv_at hl 0 rfl) ?_
  refine lv_iadd hx hb dX6_roll_30 ?_
  refine lv_sipush (v := (9999 : Int32)) hx hb dX6_roll_31 (by decide) ?_
  refine g_min C0 w_653 mt_min_s mt_i mt_min_c hl.1 ⟨Nat.le_of_ble_eq_true rfl, Nat.le_of_ble_eq_true rfl, Nat.zero_le _, Nat.zero_le _⟩ dX6_roll_34 ?_
  refine g_putI (ty := .int) C0 hG (T6_0 hG ho) rfl 11 (by decide) rfl w_175 rfl (by decide) rfl rfl dX6_roll_37 (fun H locs hG => ?_)
  refine lv_aload_n hx hb dX6_roll_40 rfl (lv_at hl 2 rfl) ?_
  refine lv_aload_n hx hb dX6_roll_41 rfl (lv_at hl 2 rfl) ?_
  refine g_getI C0 hG (T6_0 hG ho) rfl 10 (by decide) rfl w_173 dX6_roll_42 ?_
  refine lv_iload_n hx hb dX6_roll_45 rfl (lv_at hl 0 rfl) ?_
  refine lv_iload_n hx hb dX6_roll_46 rfl (lv_at hl 1 rfl) ?_
  refine lv_imul hx hb dX6_roll_47 ?_
  refine lv_isub hx hb dX6_roll_48 ?_
  refine lv_sipush (v := (9999 : Int32)) hx hb dX6_roll_49 (by decide) ?_
  refine g_min C0 w_653 mt_min_s mt_i mt_min_c hl.1 ⟨Nat.le_of_ble_eq_true rfl, Nat.le_of_ble_eq_true rfl, Nat.zero_le _, Nat.zero_le _⟩ dX6_roll_52 ?_
  refine g_putI (ty := .int) C0 hG (T6_0 hG ho) rfl 10 (by decide) rfl w_173 rfl (by decide) rfl rfl dX6_roll_55 (fun H locs hG => ?_)
  obtain ⟨-, hu⟩ := gret_s hf
  subst hu
  subst hQ
  exact g_vret C0 hG hr dX6_roll_58
theorem dX6_ride_0 : decode cX6_ride 0 = .ok (.iconst 0, 1) := by decide +kernel
theorem dX6_ride_1 : decode cX6_ride 1 = .ok (.istore_n 2, 1) := by decide +kernel
theorem dX6_ride_2 : decode cX6_ride 2 = .ok (.iload_n 2, 1) := by decide +kernel
theorem dX6_ride_3 : decode cX6_ride 3 = .ok (.iload_n 1, 1) := by decide +kernel
theorem dX6_ride_4 : decode cX6_ride 4 = .ok (.if_icmp .ge 72, 3) := by decide +kernel
theorem dX6_ride_7 : decode cX6_ride 7 = .ok (.iconst 0, 1) := by decide +kernel
theorem dX6_ride_8 : decode cX6_ride 8 = .ok (.istore_n 3, 1) := by decide +kernel
theorem dX6_ride_9 : decode cX6_ride 9 = .ok (.iload_n 3, 1) := by decide +kernel
theorem dX6_ride_10 : decode cX6_ride 10 = .ok (.aload_n 0, 1) := by decide +kernel
theorem dX6_ride_11 : decode cX6_ride 11 = .ok (.getfield 40, 3) := by decide +kernel
theorem dX6_ride_14 : decode cX6_ride 14 = .ok (.if_icmp .ge 42, 3) := by decide +kernel
theorem dX6_ride_17 : decode cX6_ride 17 = .ok (.aload_n 0, 1) := by decide +kernel
theorem dX6_ride_18 : decode cX6_ride 18 = .ok (.getfield 30, 3) := by decide +kernel
theorem dX6_ride_21 : decode cX6_ride 21 = .ok (.iload_n 3, 1) := by decide +kernel
theorem dX6_ride_22 : decode cX6_ride 22 = .ok (.baload, 1) := by decide +kernel
theorem dX6_ride_23 : decode cX6_ride 23 = .ok (.ifCond .eq 8, 3) := by decide +kernel
theorem dX6_ride_26 : decode cX6_ride 26 = .ok (.bipush (-5), 2) := by decide +kernel
theorem dX6_ride_28 : decode cX6_ride 28 = .ok (.goto 8, 3) := by decide +kernel
theorem dX6_ride_31 : decode cX6_ride 31 = .ok (.aload_n 0, 1) := by decide +kernel
theorem dX6_ride_32 : decode cX6_ride 32 = .ok (.iload_n 3, 1) := by decide +kernel
theorem dX6_ride_33 : decode cX6_ride 33 = .ok (.invokevirtual 88, 3) := by decide +kernel
theorem dX6_ride_36 : decode cX6_ride 36 = .ok (.istore 4, 2) := by decide +kernel
theorem dX6_ride_38 : decode cX6_ride 38 = .ok (.iload 4, 2) := by decide +kernel
theorem dX6_ride_40 : decode cX6_ride 40 = .ok (.ifCond .lt 10, 3) := by decide +kernel
theorem dX6_ride_43 : decode cX6_ride 43 = .ok (.aload_n 0, 1) := by decide +kernel
theorem dX6_ride_44 : decode cX6_ride 44 = .ok (.iload_n 3, 1) := by decide +kernel
theorem dX6_ride_45 : decode cX6_ride 45 = .ok (.iload 4, 2) := by decide +kernel
theorem dX6_ride_47 : decode cX6_ride 47 = .ok (.invokevirtual 91, 3) := by decide +kernel
theorem dX6_ride_50 : decode cX6_ride 50 = .ok (.iinc 3 1, 3) := by decide +kernel
theorem dX6_ride_53 : decode cX6_ride 53 = .ok (.goto (-44), 3) := by decide +kernel
theorem dX6_ride_56 : decode cX6_ride 56 = .ok (.aload_n 0, 1) := by decide +kernel
theorem dX6_ride_57 : decode cX6_ride 57 = .ok (.invokevirtual 95, 3) := by decide +kernel
theorem dX6_ride_60 : decode cX6_ride 60 = .ok (.aload_n 0, 1) := by decide +kernel
theorem dX6_ride_61 : decode cX6_ride 61 = .ok (.dup, 1) := by decide +kernel
theorem dX6_ride_62 : decode cX6_ride 62 = .ok (.getfield 50, 3) := by decide +kernel
theorem dX6_ride_65 : decode cX6_ride 65 = .ok (.iconst 1, 1) := by decide +kernel
theorem dX6_ride_66 : decode cX6_ride 66 = .ok (.iadd, 1) := by decide +kernel
theorem dX6_ride_67 : decode cX6_ride 67 = .ok (.putfield 50, 3) := by decide +kernel
theorem dX6_ride_70 : decode cX6_ride 70 = .ok (.iinc 2 1, 3) := by decide +kernel
theorem dX6_ride_73 : decode cX6_ride 73 = .ok (.goto (-71), 3) := by decide +kernel
theorem dX6_ride_76 : decode cX6_ride 76 = .ok (.return_, 1) := by decide +kernel
def f_X6_ride_L9 (t : Nat) (x2_3 : Int32) (x3_3 : Int32) (u3 : Mem) : Option ((Int32 × Int32 × Mem) ⊕ ((Int32 × Mem) ⊕ (Unit × Mem))) := (if (gI u3 t 9) ≤ x3_3 then obind (f_X6_roll t u3) (fun _ u5 => some (Sum.inr (Sum.inl (x2_3 + (1 : Int32), sI u5 t 12 ((gI u5 t 12) + (1 : Int32)))))) else gin x3_3 6 ((if (gA u3 (t + 7) x3_3.toNatClampNeg) = 0 then obind (f_X6_favourite t x3_3 u3) (fun r8 u8 => (if r8 < 0 then some (Sum.inl (x2_3, (x3_3 + (1 : Int32), u8))) else obind (f_X6_tell t x3_3 r8 u8) (fun _ u10 => some (Sum.inl (x2_3, (x3_3 + (1 : Int32), u10)))))) else some (Sum.inl (x2_3, (x3_3 + (1 : Int32), u3))))))
def f_X6_ride_L2 (p1 : Int32) (t : Nat) (x2_1 : Int32) (u1 : Mem) : Option ((Int32 × Mem) ⊕ (Unit × Mem)) := (if p1 ≤ x2_1 then some (Sum.inr ((), u1)) else whileO (fun s => f_X6_ride_L9 t s.1 s.2.1 s.2.2) FUEL (x2_1, ((0 : Int32), u1)))
def f_X6_ride (t : Nat) (p1 : Int32) (u : Mem) : Option (Unit × Mem) := whileO (fun s => f_X6_ride_L2 p1 t s.1 s.2) FUEL ((0 : Int32), u)
set_option maxHeartbeats 4000000 in
set_option maxRecDepth 100000 in
theorem k_X6_ride (l : Launch) (D : gDt) (base : Nat) (Z : gZt) (u : Mem) (t : Nat) (p1 : Int32) (u' : Mem) (ho : gok 129 t l6) (hf : f_X6_ride t p1 u = some ((), u')) : Met l yX6_ride (gws yX6_ride cX6_ride 5 (none)) (gRm 6 0 0) (gPc D base Z u [.ref (base + t), .int p1]) (gQv D base u') 0 0 (gF base) := by
  refine Met.ofW (cc := cX6_ride) (maxL := 5) (ret := none) (by decide) rfl ?_
  intro p e s m args below meth c s₁ B hml hv
  obtain ⟨rfl, C0, hG⟩ := g_enter B hml hv
  have hr := B.returns
  have C0 : gC p s m meth c _ cX6_ride 5 RX6 D base Z := C0
  have hx := C0.1
  have hb := C0.2.1
  have hl := lv_entry ([.ref (base + t), .int p1]) (n := 5) (Nat.le_of_ble_eq_true rfl)
  rw [lg_entry_eq]
  generalize (lg_sl ([.ref (base + t), .int p1]) ++ List.replicate (5 - (lg_sl ([.ref (base + t), .int p1])).length) Slot.unset).toArray = ls at hl ⊢
  have hl : lv_has ls 5 [(0, .ref (base + t)), (1, .int p1)] := hl
  obtain ⟨Q, hQ⟩ : ∃ Q, Q = MQ below (gQv D base u') ([.ref (base + t), .int p1] : List Value).toArray s 0 0 (gF base) := ⟨_, rfl⟩
  rw [← hQ]
  change W p l e (gRm 6 0 0) s m _ below meth c _ _ _ _ _ _
  unfold f_X6_ride at hf
  refine lv_iconst (v := (0 : Int32)) hx hb dX6_ride_0 (by decide) ?_
  refine lv_istore_n (lv' := [(2, .int (0 : Int32)), (0, .ref (base + t)), (1, .int p1)]) hx hb dX6_ride_1 rfl hl (by decide) rfl (fun ls hl => ?_)
  have loop1 : ∀ (n1 : Nat) (x2_1 : Int32) (u1 : Mem) (H : Heap) (locs : List Loc) (ls : Array Slot), gH D base s u1 H locs → lv_has ls 5 [(0, .ref (base + t)), (1, .int p1), (2, .int x2_1)] → whileO (fun s => f_X6_ride_L2 p1 t s.1 s.2) n1 (x2_1, u1) = some ((), u') → W p l e (gRm 6 0 0) s m ([.ref (base + t), .int p1] : List Value).toArray below meth c H locs 0 0 Q (F0 m 2 ls []) := by
    intro n1
    induction n1 with
    | zero => intro x2_1 u1 H locs ls hG hl hf; cases hf
    | succ n1 ih1 =>
      intro x2_1 u1 H locs ls hG hl hf
      obtain ⟨X1, hf, hX1⟩ := while_s hf
      have hf : f_X6_ride_L2 p1 t x2_1 u1 = some X1 := hf
      unfold f_X6_ride_L2 at hf
      refine lv_iload_n hx hb dX6_ride_2 rfl (lv_at hl 2 rfl) ?_
      refine lv_iload_n hx hb dX6_ride_3 rfl (lv_at hl 1 rfl) ?_
      refine lv_icmp_ge (tgt := 76) hx hb dX6_ride_4 (by decide) (fun c2 => ?_) (fun c2 => ?_)
      · have hf := gif_t c2 hf
        have hf := while_r hX1 hf
        obtain ⟨-, hu⟩ := gret_s hf
        subst hu
        subst hQ
        exact g_vret C0 hG hr dX6_ride_76
      · have hf := gif_f c2 hf
        refine lv_iconst (v := (0 : Int32)) hx hb dX6_ride_7 (by decide) ?_
        refine lv_istore_n (lv' := [(3, .int (0 : Int32)), (0, .ref (base + t)), (1, .int p1), (2, .int x2_1)]) hx hb dX6_ride_8 rfl hl (by decide) rfl (fun ls hl => ?_)
        have loop3 : ∀ (n3 : Nat) (x2_3 : Int32) (x3_3 : Int32) (u3 : Mem) (H : Heap) (locs : List Loc) (ls : Array Slot), gH D base s u3 H locs → lv_has ls 5 [(0, .ref (base + t)), (1, .int p1), (2, .int x2_3), (3, .int x3_3)] → whileO (fun s => f_X6_ride_L9 t s.1 s.2.1 s.2.2) n3 (x2_3, (x3_3, u3)) = some X1 → W p l e (gRm 6 0 0) s m ([.ref (base + t), .int p1] : List Value).toArray below meth c H locs 0 0 Q (F0 m 9 ls []) := by
          intro n3
          induction n3 with
          | zero => intro x2_3 x3_3 u3 H locs ls hG hl hf; cases hf
          | succ n3 ih3 =>
            intro x2_3 x3_3 u3 H locs ls hG hl hf
            obtain ⟨X3, hf, hX3⟩ := while_s hf
            have hf : f_X6_ride_L9 t x2_3 x3_3 u3 = some X3 := hf
            unfold f_X6_ride_L9 at hf
            refine lv_iload_n hx hb dX6_ride_9 rfl (lv_at hl 3 rfl) ?_
            refine lv_aload_n hx hb dX6_ride_10 rfl (lv_at hl 0 rfl) ?_
            refine g_getI C0 hG (T6_0 hG ho) rfl 9 (by decide) rfl w_171 dX6_ride_11 ?_
            refine lv_icmp_ge (tgt := 56) hx hb dX6_ride_14 (by decide) (fun c4 => ?_) (fun c4 => ?_)
            · have hf := gif_t c4 hf
              refine lv_aload_n hx hb dX6_ride_56 rfl (lv_at hl 0 rfl) ?_
              obtain ⟨_, u5, hc5, hf⟩ := obind_s hf
              refine g_doV0 hG (g_runV C0 hG (k_X6_roll l D base Z u3 t u5 ho hc5) m_X6_roll v_X6_roll w_654 (by decide) (g_recv C0 hG (T6_0 hG ho) rfl) rfl hl.1 rfl (Nat.le_of_ble_eq_true rfl) dX6_ride_57 ⟨Nat.zero_le _, Nat.zero_le _⟩) (fun H locs hG hk => ?_)
              refine lv_aload_n hx hb dX6_ride_60 rfl (lv_at hl 0 rfl) ?_
              refine lv_dup hx hb dX6_ride_61 rfl ?_
              refine g_getI C0 hG (T6_0 hG ho) rfl 12 (by decide) rfl w_177 dX6_ride_62 ?_
              refine lv_iconst (v := (1 : Int32)) hx hb dX6_ride_65 (by decide) ?_
              refine lv_iadd hx hb dX6_ride_66 ?_
              refine g_putI (ty := .int) C0 hG (T6_0 hG ho) rfl 12 (by decide) rfl w_177 rfl (by decide) rfl rfl dX6_ride_67 (fun H locs hG => ?_)
              refine lv_iinc (v := x2_3 + (1 : Int32)) (lv' := [(2, .int (x2_3 + (1 : Int32))), (0, .ref (base + t)), (1, .int p1), (3, .int x3_3)]) hx hb dX6_ride_70 hl (k := 2) rfl rfl (by decide) rfl (fun ls hl => ?_)
              refine lv_goto (tgt := 2) hx hb dX6_ride_73 (by decide) ?_
              have hf := while_r hX3 hf
              have hf := while_l hX1 hf
              exact ih1 (x2_3 + (1 : Int32)) (sI u5 t 12 ((gI u5 t 12) + (1 : Int32))) _ _ ls hG (lv_sub hl [1, 2, 0] rfl) hf
            · have hf := gif_f c4 hf
              refine lv_aload_n hx hb dX6_ride_17 rfl (lv_at hl 0 rfl) ?_
              refine g_getSa (o := 7) (a := (t + 7)) C0 hG (T6_0 hG ho) rfl 6 (by decide) rfl rfl w_166 dX6_ride_18 ?_
              refine lv_iload_n hx hb dX6_ride_21 rfl (lv_at hl 3 rfl) ?_
              obtain ⟨h6, hf⟩ := gin_s hf
              refine g_zald C0 hG (T6_7 hG ho) h6 dX6_ride_22 ?_
              refine lv_if_eq (tgt := 31) hx hb dX6_ride_23 (by decide) (fun c7 => ?_) (fun c7 => ?_)
              · have hf := gif_t c7 hf
                refine lv_aload_n hx hb dX6_ride_31 rfl (lv_at hl 0 rfl) ?_
                refine lv_iload_n hx hb dX6_ride_32 rfl (lv_at hl 3 rfl) ?_
                obtain ⟨r8, u8, hc8, hf⟩ := obind_s hf
                refine g_doI0 hG (g_runV C0 hG (k_X6_favourite l D base Z u3 t x3_3 r8 u8 ho hc8) m_X6_favourite v_X6_favourite w_648 (by decide) (g_recv C0 hG (T6_0 hG ho) rfl) rfl hl.1 rfl (Nat.le_of_ble_eq_true rfl) dX6_ride_33 ⟨Nat.zero_le _, Nat.zero_le _⟩) (fun H locs hG hk => ?_)
                refine lv_istore (lv' := [(4, .int r8), (0, .ref (base + t)), (1, .int p1), (2, .int x2_3), (3, .int x3_3)]) hx hb dX6_ride_36 hl (by decide) rfl (fun ls hl => ?_)
                refine lv_iload hx hb dX6_ride_38 (lv_at hl 0 rfl) ?_
                refine lv_if_lt (tgt := 50) hx hb dX6_ride_40 (by decide) (fun c9 => ?_) (fun c9 => ?_)
                · have hf := gif_t c9 hf
                  refine lv_iinc (v := x3_3 + (1 : Int32)) (lv' := [(3, .int (x3_3 + (1 : Int32))), (4, .int r8), (0, .ref (base + t)), (1, .int p1), (2, .int x2_3)]) hx hb dX6_ride_50 hl (k := 4) rfl rfl (by decide) rfl (fun ls hl => ?_)
                  refine lv_goto (tgt := 9) hx hb dX6_ride_53 (by decide) ?_
                  have hf := while_l hX3 hf
                  exact ih3 x2_3 (x3_3 + (1 : Int32)) u8 _ _ ls hG (lv_sub hl [2, 3, 4, 0] rfl) hf
                · have hf := gif_f c9 hf
                  refine lv_aload_n hx hb dX6_ride_43 rfl (lv_at hl 1 rfl) ?_
                  refine lv_iload_n hx hb dX6_ride_44 rfl (lv_at hl 4 rfl) ?_
                  refine lv_iload hx hb dX6_ride_45 (lv_at hl 0 rfl) ?_
                  obtain ⟨_, u10, hc10, hf⟩ := obind_s hf
                  refine g_doV0 hG (g_runV C0 hG (k_X6_tell l D base Z u8 t x3_3 r8 u10 ho hc10) m_X6_tell v_X6_tell w_649 (by decide) (g_recv C0 hG (T6_0 hG ho) rfl) rfl hl.1 rfl (Nat.le_of_ble_eq_true rfl) dX6_ride_47 ⟨Nat.zero_le _, Nat.zero_le _⟩) (fun H locs hG hk => ?_)
                  refine lv_iinc (v := x3_3 + (1 : Int32)) (lv' := [(3, .int (x3_3 + (1 : Int32))), (4, .int r8), (0, .ref (base + t)), (1, .int p1), (2, .int x2_3)]) hx hb dX6_ride_50 hl (k := 4) rfl rfl (by decide) rfl (fun ls hl => ?_)
                  refine lv_goto (tgt := 9) hx hb dX6_ride_53 (by decide) ?_
                  have hf := while_l hX3 hf
                  exact ih3 x2_3 (x3_3 + (1 : Int32)) u10 _ _ ls hG (lv_sub hl [2, 3, 4, 0] rfl) hf
              · have hf := gif_f c7 hf
                refine lv_bipush (v := (-5 : Int32)) hx hb dX6_ride_26 (by decide) ?_
                refine lv_goto (tgt := 36) hx hb dX6_ride_28 (by decide) ?_
                refine lv_istore (lv' := [(4, .int (-5 : Int32)), (0, .ref (base + t)), (1, .int p1), (2, .int x2_3), (3, .int x3_3)]) hx hb dX6_ride_36 hl (by decide) rfl (fun ls hl => ?_)
                refine lv_iload hx hb dX6_ride_38 (lv_at hl 0 rfl) ?_
                refine lv_if_lt (tgt := 50) hx hb dX6_ride_40 (by decide) (fun _ => ?_) (fun c => absurd (by decide) c)
                refine lv_iinc (v := x3_3 + (1 : Int32)) (lv' := [(3, .int (x3_3 + (1 : Int32))), (4, .int (-5 : Int32)), (0, .ref (base + t)), (1, .int p1), (2, .int x2_3)]) hx hb dX6_ride_50 hl (k := 4) rfl rfl (by decide) rfl (fun ls hl => ?_)
                refine lv_goto (tgt := 9) hx hb dX6_ride_53 (by decide) ?_
                have hf := while_l hX3 hf
                exact ih3 x2_3 (x3_3 + (1 : Int32)) u3 _ _ ls hG (lv_sub hl [2, 3, 4, 0] rfl) hf
        exact loop3 FUEL x2_1 (0 : Int32) u1 _ _ ls hG (lv_sub hl [1, 2, 3, 0] rfl) hf
  exact loop1 FUEL (0 : Int32) u _ _ ls hG (lv_sub hl [1, 2, 0] rfl) hf
theorem dX7_isUpTo_0 : decode cX7_isUpTo 0 = .ok (.iload_n 0, 1) := by decide +kernel
theorem dX7_isUpTo_1 : decode cX7_isUpTo 1 = .ok (.ifCond .lt 12, 3) := by decide +kernel
theorem dX7_isUpTo_4 : decode cX7_isUpTo 4 = .ok (.iload_n 0, 1) := by decide +kernel
theorem dX7_isUpTo_5 : decode cX7_isUpTo 5 = .ok (.iload_n 1, 1) := by decide +kernel
theorem dX7_isUpTo_6 : decode cX7_isUpTo 6 = .ok (.if_icmp .gt 7, 3) := by decide +kernel
theorem dX7_isUpTo_9 : decode cX7_isUpTo 9 = .ok (.iconst 1, 1) := by decide +kernel
theorem dX7_isUpTo_10 : decode cX7_isUpTo 10 = .ok (.goto 4, 3) := by decide +kernel
theorem dX7_isUpTo_13 : decode cX7_isUpTo 13 = .ok (.iconst 0, 1) := by decide +kernel
theorem dX7_isUpTo_14 : decode cX7_isUpTo 14 = .ok (.ireturn, 1) := by decide +kernel
def f_X7_isUpTo (p0 : Int32) (p1 : Int32) : Option (Int32) := (if p0 < 0 then some (0 : Int32) else (if p1 < p0 then some (0 : Int32) else some (1 : Int32)))
set_option maxHeartbeats 4000000 in
set_option maxRecDepth 100000 in
theorem k_X7_isUpTo (l : Launch) (D : gDt) (base : Nat) (Z : gZt) (u : Mem) (p0 : Int32) (p1 : Int32) (r : Int32) (hf : f_X7_isUpTo p0 p1 = some r) : Met l yX7_isUpTo (gws yX7_isUpTo cX7_isUpTo 2 (some .boolean)) (gRm 1 0 0) (gPc D base Z u [.int p0, .int p1]) (gQi D base r u) 0 0 (gF base) := by
  refine Met.ofW (cc := cX7_isUpTo) (maxL := 2) (ret := some .boolean) (by decide) rfl ?_
  intro p e s m args below meth c s₁ B hml hv
  obtain ⟨rfl, C0, hG⟩ := g_enter B hml hv
  have hr := B.returns
  have C0 : gC p s m meth c _ cX7_isUpTo 2 RX7 D base Z := C0
  have hx := C0.1
  have hb := C0.2.1
  have hl := lv_entry ([.int p0, .int p1]) (n := 2) (Nat.le_of_ble_eq_true rfl)
  rw [lg_entry_eq]
  generalize (lg_sl ([.int p0, .int p1]) ++ List.replicate (2 - (lg_sl ([.int p0, .int p1])).length) Slot.unset).toArray = ls at hl ⊢
  have hl : lv_has ls 2 [(0, .int p0), (1, .int p1)] := hl
  obtain ⟨Q, hQ⟩ : ∃ Q, Q = MQ below (gQi D base r u) ([.int p0, .int p1] : List Value).toArray s 0 0 (gF base) := ⟨_, rfl⟩
  rw [← hQ]
  change W p l e (gRm 1 0 0) s m _ below meth c _ _ _ _ _ _
  unfold f_X7_isUpTo at hf
  refine lv_iload_n hx hb dX7_isUpTo_0 rfl (lv_at hl 0 rfl) ?_
  refine lv_if_lt (tgt := 13) hx hb dX7_isUpTo_1 (by decide) (fun c1 => ?_) (fun c1 => ?_)
  · have hf := gif_t c1 hf
    refine lv_iconst (v := (0 : Int32)) hx hb dX7_isUpTo_13 (by decide) ?_
    have hf := Option.some.inj hf
    subst hf
    subst hQ
    exact g_zret C0 hG hr (by decide) dX7_isUpTo_14
  · have hf := gif_f c1 hf
    refine lv_iload_n hx hb dX7_isUpTo_4 rfl (lv_at hl 0 rfl) ?_
    refine lv_iload_n hx hb dX7_isUpTo_5 rfl (lv_at hl 1 rfl) ?_
    refine lv_icmp_gt (tgt := 13) hx hb dX7_isUpTo_6 (by decide) (fun c2 => ?_) (fun c2 => ?_)
    · have hf := gif_t c2 hf
      refine lv_iconst (v := (0 : Int32)) hx hb dX7_isUpTo_13 (by decide) ?_
      have hf := Option.some.inj hf
      subst hf
      subst hQ
      exact g_zret C0 hG hr (by decide) dX7_isUpTo_14
    · have hf := gif_f c2 hf
      refine lv_iconst (v := (1 : Int32)) hx hb dX7_isUpTo_9 (by decide) ?_
      refine lv_goto (tgt := 14) hx hb dX7_isUpTo_10 (by decide) ?_
      have hf := Option.some.inj hf
      subst hf
      subst hQ
      exact g_zret C0 hG hr (by decide) dX7_isUpTo_14
theorem dX7_one_0 : decode cX7_one 0 = .ok (.iload_n 1, 1) := by decide +kernel
theorem dX7_one_1 : decode cX7_one 1 = .ok (.bipush 7, 2) := by decide +kernel
theorem dX7_one_3 : decode cX7_one 3 = .ok (.invokestatic 63, 3) := by decide +kernel
theorem dX7_one_6 : decode cX7_one 6 = .ok (.ifCond .eq 11, 3) := by decide +kernel
theorem dX7_one_9 : decode cX7_one 9 = .ok (.iload_n 3, 1) := by decide +kernel
theorem dX7_one_10 : decode cX7_one 10 = .ok (.iconst 4, 1) := by decide +kernel
theorem dX7_one_11 : decode cX7_one 11 = .ok (.invokestatic 63, 3) := by decide +kernel
theorem dX7_one_14 : decode cX7_one 14 = .ok (.ifCond .ne 5, 3) := by decide +kernel
theorem dX7_one_17 : decode cX7_one 17 = .ok (.iconst (-1), 1) := by decide +kernel
theorem dX7_one_18 : decode cX7_one 18 = .ok (.ireturn, 1) := by decide +kernel
theorem dX7_one_19 : decode cX7_one 19 = .ok (.iload_n 2, 1) := by decide +kernel
theorem dX7_one_20 : decode cX7_one 20 = .ok (.bipush 9, 2) := by decide +kernel
theorem dX7_one_22 : decode cX7_one 22 = .ok (.invokestatic 67, 3) := by decide +kernel
theorem dX7_one_25 : decode cX7_one 25 = .ok (.ifCond .eq 14, 3) := by decide +kernel
theorem dX7_one_28 : decode cX7_one 28 = .ok (.iload 4, 2) := by decide +kernel
theorem dX7_one_30 : decode cX7_one 30 = .ok (.sipush 255, 3) := by decide +kernel
theorem dX7_one_33 : decode cX7_one 33 = .ok (.invokestatic 67, 3) := by decide +kernel
theorem dX7_one_36 : decode cX7_one 36 = .ok (.ifCond .ne 6, 3) := by decide +kernel
theorem dX7_one_39 : decode cX7_one 39 = .ok (.bipush (-2), 2) := by decide +kernel
theorem dX7_one_41 : decode cX7_one 41 = .ok (.ireturn, 1) := by decide +kernel
theorem dX7_one_42 : decode cX7_one 42 = .ok (.aload_n 0, 1) := by decide +kernel
theorem dX7_one_43 : decode cX7_one 43 = .ok (.getfield 12, 3) := by decide +kernel
theorem dX7_one_46 : decode cX7_one 46 = .ok (.iload_n 1, 1) := by decide +kernel
theorem dX7_one_47 : decode cX7_one 47 = .ok (.iload_n 2, 1) := by decide +kernel
theorem dX7_one_48 : decode cX7_one 48 = .ok (.iload_n 3, 1) := by decide +kernel
theorem dX7_one_49 : decode cX7_one 49 = .ok (.iload 4, 2) := by decide +kernel
theorem dX7_one_51 : decode cX7_one 51 = .ok (.invokevirtual 70, 3) := by decide +kernel
theorem dX7_one_54 : decode cX7_one 54 = .ok (.ireturn, 1) := by decide +kernel
def f_X7_one (p1 : Int32) (p2 : Int32) (p3 : Int32) (p4 : Int32) (u : Mem) : Option (Int32 × Mem) := Option.bind (f_X7_isWithin p1 (7 : Int32)) (fun r1 => (if r1 = 0 then some ((-1 : Int32), u) else Option.bind (f_X7_isWithin p3 (4 : Int32)) (fun r3 => (if r3 = 0 then some ((-1 : Int32), u) else Option.bind (f_X7_isUpTo p2 (9 : Int32)) (fun r5 => (if r5 = 0 then some ((-2 : Int32), u) else Option.bind (f_X7_isUpTo p4 (255 : Int32)) (fun r7 => (if r7 = 0 then some ((-2 : Int32), u) else obind (f_X6_board 1 p1 p2 p3 p4 u) (fun r9 u9 => some (r9, u9))))))))))
set_option maxHeartbeats 4000000 in
set_option maxRecDepth 100000 in
theorem k_X7_one (l : Launch) (D : gDt) (base : Nat) (Z : gZt) (u : Mem) (p1 : Int32) (p2 : Int32) (p3 : Int32) (p4 : Int32) (r : Int32) (u' : Mem) (hf : f_X7_one p1 p2 p3 p4 u = some (r, u')) : Met l yX7_one (gws yX7_one cX7_one 5 (some .int)) (gRm 2 0 0) (gPc D base Z u [.ref (base + 0), .int p1, .int p2, .int p3, .int p4]) (gQi D base r u') 0 0 (gF base) := by
  refine Met.ofW (cc := cX7_one) (maxL := 5) (ret := some .int) (by decide) rfl ?_
  intro p e s m args below meth c s₁ B hml hv
  obtain ⟨rfl, C0, hG⟩ := g_enter B hml hv
  have hr := B.returns
  have C0 : gC p s m meth c _ cX7_one 5 RX7 D base Z := C0
  have hx := C0.1
  have hb := C0.2.1
  have hl := lv_entry ([.ref (base + 0), .int p1, .int p2, .int p3, .int p4]) (n := 5) (Nat.le_of_ble_eq_true rfl)
  rw [lg_entry_eq]
  generalize (lg_sl ([.ref (base + 0), .int p1, .int p2, .int p3, .int p4]) ++ List.replicate (5 - (lg_sl ([.ref (base + 0), .int p1, .int p2, .int p3, .int p4])).length) Slot.unset).toArray = ls at hl ⊢
  have hl : lv_has ls 5 [(0, .ref (base + 0)), (1, .int p1), (2, .int p2), (3, .int p3), (4, .int p4)] := hl
  obtain ⟨Q, hQ⟩ : ∃ Q, Q = MQ below (gQi D base r u') ([.ref (base + 0), .int p1, .int p2, .int p3, .int p4] : List Value).toArray s 0 0 (gF base) := ⟨_, rfl⟩
  rw [← hQ]
  change W p l e (gRm 2 0 0) s m _ below meth c _ _ _ _ _ _
  unfold f_X7_one at hf
  refine lv_iload_n hx hb dX7_one_0 rfl (lv_at hl 1 rfl) ?_
  refine lv_bipush (v := (7 : Int32)) hx hb dX7_one_1 (by decide) ?_
  obtain ⟨r1, hc1, hf⟩ := pb_s hf
  refine g_doI0 hG (g_runS C0 hG (k_X7_isWithin l D base Z u p1 (7 : Int32) r1 hc1) m_X7_isWithin s_X7_isWithin w_364 (by decide) rfl hl.1 rfl (Nat.le_of_ble_eq_true rfl) dX7_one_3 ⟨Nat.zero_le _, Nat.zero_le _⟩) (fun H locs hG hk => ?_)
  refine lv_if_eq (tgt := 17) hx hb dX7_one_6 (by decide) (fun c2 => ?_) (fun c2 => ?_)
  · have hf := gif_t c2 hf
    refine lv_iconst (v := (-1 : Int32)) hx hb dX7_one_17 (by decide) ?_
    obtain ⟨hr1, hu⟩ := gret_s hf
    subst hr1
    subst hu
    subst hQ
    exact g_iret C0 hG hr dX7_one_18
  · have hf := gif_f c2 hf
    refine lv_iload_n hx hb dX7_one_9 rfl (lv_at hl 3 rfl) ?_
    refine lv_iconst (v := (4 : Int32)) hx hb dX7_one_10 (by decide) ?_
    obtain ⟨r3, hc3, hf⟩ := pb_s hf
    refine g_doI0 hG (g_runS C0 hG (k_X7_isWithin l D base Z u p3 (4 : Int32) r3 hc3) m_X7_isWithin s_X7_isWithin w_364 (by decide) rfl hl.1 rfl (Nat.le_of_ble_eq_true rfl) dX7_one_11 ⟨Nat.zero_le _, Nat.zero_le _⟩) (fun H locs hG hk => ?_)
    refine lv_if_ne (tgt := 19) hx hb dX7_one_14 (by decide) (fun c4 => ?_) (fun c4 => ?_)
    · have hf := gif_f c4 hf
      refine lv_iload_n hx hb dX7_one_19 rfl (lv_at hl 2 rfl) ?_
      refine lv_bipush (v := (9 : Int32)) hx hb dX7_one_20 (by decide) ?_
      obtain ⟨r5, hc5, hf⟩ := pb_s hf
      refine g_doI0 hG (g_runS C0 hG (k_X7_isUpTo l D base Z u p2 (9 : Int32) r5 hc5) m_X7_isUpTo s_X7_isUpTo w_367 (by decide) rfl hl.1 rfl (Nat.le_of_ble_eq_true rfl) dX7_one_22 ⟨Nat.zero_le _, Nat.zero_le _⟩) (fun H locs hG hk => ?_)
      refine lv_if_eq (tgt := 39) hx hb dX7_one_25 (by decide) (fun c6 => ?_) (fun c6 => ?_)
      · have hf := gif_t c6 hf
        refine lv_bipush (v := (-2 : Int32)) hx hb dX7_one_39 (by decide) ?_
        obtain ⟨hr1, hu⟩ := gret_s hf
        subst hr1
        subst hu
        subst hQ
        exact g_iret C0 hG hr dX7_one_41
      · have hf := gif_f c6 hf
        refine lv_iload hx hb dX7_one_28 (lv_at hl 4 rfl) ?_
        refine lv_sipush (v := (255 : Int32)) hx hb dX7_one_30 (by decide) ?_
        obtain ⟨r7, hc7, hf⟩ := pb_s hf
        refine g_doI0 hG (g_runS C0 hG (k_X7_isUpTo l D base Z u p4 (255 : Int32) r7 hc7) m_X7_isUpTo s_X7_isUpTo w_367 (by decide) rfl hl.1 rfl (Nat.le_of_ble_eq_true rfl) dX7_one_33 ⟨Nat.zero_le _, Nat.zero_le _⟩) (fun H locs hG hk => ?_)
        refine lv_if_ne (tgt := 42) hx hb dX7_one_36 (by decide) (fun c8 => ?_) (fun c8 => ?_)
        · have hf := gif_f c8 hf
          refine lv_aload_n hx hb dX7_one_42 rfl (lv_at hl 0 rfl) ?_
          refine g_getSa (o := 1) (a := 1) C0 hG (L0 hG) rfl 0 (by decide) rfl rfl w_329 dX7_one_43 ?_
          refine lv_iload_n hx hb dX7_one_46 rfl (lv_at hl 1 rfl) ?_
          refine lv_iload_n hx hb dX7_one_47 rfl (lv_at hl 2 rfl) ?_
          refine lv_iload_n hx hb dX7_one_48 rfl (lv_at hl 3 rfl) ?_
          refine lv_iload hx hb dX7_one_49 (lv_at hl 4 rfl) ?_
          obtain ⟨r9, u9, hc9, hf⟩ := obind_s hf
          refine g_doI0 hG (g_runVN C0 hG (k_X6_board l D base Z u 1 p1 p2 p3 p4 r9 u9 O1 hc9) m_X6_board v_X6_board w_370 (by decide) (g_recv C0 hG (L1 hG) rfl) rfl hl.1 rfl (Nat.le_of_ble_eq_true rfl) dX7_one_51 ⟨Nat.zero_le _, Nat.zero_le _⟩) (fun H locs hG hk => ?_)
          obtain ⟨hr1, hu⟩ := gret_s hf
          subst hr1
          subst hu
          subst hQ
          exact g_iret C0 hG hr dX7_one_54
        · have hf := gif_t c8 hf
          refine lv_bipush (v := (-2 : Int32)) hx hb dX7_one_39 (by decide) ?_
          obtain ⟨hr1, hu⟩ := gret_s hf
          subst hr1
          subst hu
          subst hQ
          exact g_iret C0 hG hr dX7_one_41
    · have hf := gif_t c4 hf
      refine lv_iconst (v := (-1 : Int32)) hx hb dX7_one_17 (by decide) ?_
      obtain ⟨hr1, hu⟩ := gret_s hf
      subst hr1
      subst hu
      subst hQ
      exact g_iret C0 hG hr dX7_one_18
theorem dX7_isPerson_0 : decode cX7_isPerson 0 = .ok (.iload_n 1, 1) := by decide +kernel
theorem dX7_isPerson_1 : decode cX7_isPerson 1 = .ok (.aload_n 0, 1) := by decide +kernel
theorem dX7_isPerson_2 : decode cX7_isPerson 2 = .ok (.getfield 12, 3) := by decide +kernel
theorem dX7_isPerson_5 : decode cX7_isPerson 5 = .ok (.getfield 175, 3) := by decide +kernel
theorem dX7_isPerson_8 : decode cX7_isPerson 8 = .ok (.invokestatic 63, 3) := by decide +kernel
theorem dX7_isPerson_11 : decode cX7_isPerson 11 = .ok (.ireturn, 1) := by decide +kernel
def f_X7_isPerson (p1 : Int32) (u : Mem) : Option (Int32) := Option.bind (f_X7_isWithin p1 (gI u 1 9)) (fun r1 => gbo r1 (some r1))
set_option maxHeartbeats 4000000 in
set_option maxRecDepth 100000 in
theorem k_X7_isPerson (l : Launch) (D : gDt) (base : Nat) (Z : gZt) (u : Mem) (p1 : Int32) (r : Int32) (hf : f_X7_isPerson p1 u = some r) : Met l yX7_isPerson (gws yX7_isPerson cX7_isPerson 2 (some .boolean)) (gRm 2 0 0) (gPc D base Z u [.ref (base + 0), .int p1]) (gQi D base r u) 0 0 (gF base) := by
  refine Met.ofW (cc := cX7_isPerson) (maxL := 2) (ret := some .boolean) (by decide) rfl ?_
  intro p e s m args below meth c s₁ B hml hv
  obtain ⟨rfl, C0, hG⟩ := g_enter B hml hv
  have hr := B.returns
  have C0 : gC p s m meth c _ cX7_isPerson 2 RX7 D base Z := C0
  have hx := C0.1
  have hb := C0.2.1
  have hl := lv_entry ([.ref (base + 0), .int p1]) (n := 2) (Nat.le_of_ble_eq_true rfl)
  rw [lg_entry_eq]
  generalize (lg_sl ([.ref (base + 0), .int p1]) ++ List.replicate (2 - (lg_sl ([.ref (base + 0), .int p1])).length) Slot.unset).toArray = ls at hl ⊢
  have hl : lv_has ls 2 [(0, .ref (base + 0)), (1, .int p1)] := hl
  obtain ⟨Q, hQ⟩ : ∃ Q, Q = MQ below (gQi D base r u) ([.ref (base + 0), .int p1] : List Value).toArray s 0 0 (gF base) := ⟨_, rfl⟩
  rw [← hQ]
  change W p l e (gRm 2 0 0) s m _ below meth c _ _ _ _ _ _
  unfold f_X7_isPerson at hf
  refine lv_iload_n hx hb dX7_isPerson_0 rfl (lv_at hl 1 rfl) ?_
  refine lv_aload_n hx hb dX7_isPerson_1 rfl (lv_at hl 0 rfl) ?_
  refine g_getSa (o := 1) (a := 1) C0 hG (L0 hG) rfl 0 (by decide) rfl rfl w_329 dX7_isPerson_2 ?_
  refine g_getIN C0 hG (L1 hG) rfl 9 (by decide) rfl w_172 dX7_isPerson_5 ?_
  obtain ⟨r1, hc1, hf⟩ := pb_s hf
  refine g_doI0 hG (g_runS C0 hG (k_X7_isWithin l D base Z u p1 (gI u 1 9) r1 hc1) m_X7_isWithin s_X7_isWithin w_364 (by decide) rfl hl.1 rfl (Nat.le_of_ble_eq_true rfl) dX7_isPerson_8 ⟨Nat.zero_le _, Nat.zero_le _⟩) (fun H locs hG hk => ?_)
  obtain ⟨h2, hf⟩ := gbo_s hf
  have hf := Option.some.inj hf
  subst hf
  subst hQ
  exact g_zret C0 hG hr h2 dX7_isPerson_11
theorem dX7_asNumber_0 : decode cX7_asNumber 0 = .ok (.iload_n 0, 1) := by decide +kernel
theorem dX7_asNumber_1 : decode cX7_asNumber 1 = .ok (.ifCond .eq 7, 3) := by decide +kernel
theorem dX7_asNumber_4 : decode cX7_asNumber 4 = .ok (.iconst 1, 1) := by decide +kernel
theorem dX7_asNumber_5 : decode cX7_asNumber 5 = .ok (.goto 4, 3) := by decide +kernel
theorem dX7_asNumber_8 : decode cX7_asNumber 8 = .ok (.iconst 0, 1) := by decide +kernel
theorem dX7_asNumber_9 : decode cX7_asNumber 9 = .ok (.ireturn, 1) := by decide +kernel
def f_X7_asNumber (p0 : Int32) : Option (Int32) := (if p0 = 0 then some (0 : Int32) else some (1 : Int32))
set_option maxHeartbeats 4000000 in
set_option maxRecDepth 100000 in
theorem k_X7_asNumber (l : Launch) (D : gDt) (base : Nat) (Z : gZt) (u : Mem) (p0 : Int32) (r : Int32) (hf : f_X7_asNumber p0 = some r) : Met l yX7_asNumber (gws yX7_asNumber cX7_asNumber 1 (some .int)) (gRm 1 0 0) (gPc D base Z u [.int p0]) (gQi D base r u) 0 0 (gF base) := by
  refine Met.ofW (cc := cX7_asNumber) (maxL := 1) (ret := some .int) (by decide) rfl ?_
  intro p e s m args below meth c s₁ B hml hv
  obtain ⟨rfl, C0, hG⟩ := g_enter B hml hv
  have hr := B.returns
  have C0 : gC p s m meth c _ cX7_asNumber 1 RX7 D base Z := C0
  have hx := C0.1
  have hb := C0.2.1
  have hl := lv_entry ([.int p0]) (n := 1) (Nat.le_of_ble_eq_true rfl)
  rw [lg_entry_eq]
  generalize (lg_sl ([.int p0]) ++ List.replicate (1 - (lg_sl ([.int p0])).length) Slot.unset).toArray = ls at hl ⊢
  have hl : lv_has ls 1 [(0, .int p0)] := hl
  obtain ⟨Q, hQ⟩ : ∃ Q, Q = MQ below (gQi D base r u) ([.int p0] : List Value).toArray s 0 0 (gF base) := ⟨_, rfl⟩
  rw [← hQ]
  change W p l e (gRm 1 0 0) s m _ below meth c _ _ _ _ _ _
  unfold f_X7_asNumber at hf
  refine lv_iload_n hx hb dX7_asNumber_0 rfl (lv_at hl 0 rfl) ?_
  refine lv_if_eq (tgt := 8) hx hb dX7_asNumber_1 (by decide) (fun c1 => ?_) (fun c1 => ?_)
  · have hf := gif_t c1 hf
    refine lv_iconst (v := (0 : Int32)) hx hb dX7_asNumber_8 (by decide) ?_
    have hf := Option.some.inj hf
    subst hf
    subst hQ
    exact g_iret C0 hG hr dX7_asNumber_9
  · have hf := gif_f c1 hf
    refine lv_iconst (v := (1 : Int32)) hx hb dX7_asNumber_4 (by decide) ?_
    refine lv_goto (tgt := 9) hx hb dX7_asNumber_5 (by decide) ?_
    have hf := Option.some.inj hf
    subst hf
    subst hQ
    exact g_iret C0 hG hr dX7_asNumber_9
theorem dX7_tenLess_0 : decode cX7_tenLess 0 = .ok (.iload_n 0, 1) := by decide +kernel
theorem dX7_tenLess_1 : decode cX7_tenLess 1 = .ok (.bipush 10, 2) := by decide +kernel
theorem dX7_tenLess_3 : decode cX7_tenLess 3 = .ok (.iload_n 1, 1) := by decide +kernel
theorem dX7_tenLess_4 : decode cX7_tenLess 4 = .ok (.imul, 1) := by decide +kernel
theorem dX7_tenLess_5 : decode cX7_tenLess 5 = .ok (.if_icmp .ge 7, 3) := by decide +kernel
theorem dX7_tenLess_8 : decode cX7_tenLess 8 = .ok (.iconst (-1), 1) := by decide +kernel
theorem dX7_tenLess_9 : decode cX7_tenLess 9 = .ok (.goto 9, 3) := by decide +kernel
theorem dX7_tenLess_12 : decode cX7_tenLess 12 = .ok (.iload_n 0, 1) := by decide +kernel
theorem dX7_tenLess_13 : decode cX7_tenLess 13 = .ok (.bipush 10, 2) := by decide +kernel
theorem dX7_tenLess_15 : decode cX7_tenLess 15 = .ok (.iload_n 1, 1) := by decide +kernel
theorem dX7_tenLess_16 : decode cX7_tenLess 16 = .ok (.imul, 1) := by decide +kernel
theorem dX7_tenLess_17 : decode cX7_tenLess 17 = .ok (.isub, 1) := by decide +kernel
theorem dX7_tenLess_18 : decode cX7_tenLess 18 = .ok (.ireturn, 1) := by decide +kernel
def f_X7_tenLess (p0 : Int32) (p1 : Int32) : Option (Int32) := (if ((10 : Int32) * p1) ≤ p0 then some (p0 - ((10 : Int32) * p1)) else some (-1 : Int32))
set_option maxHeartbeats 4000000 in
set_option maxRecDepth 100000 in
theorem k_X7_tenLess (l : Launch) (D : gDt) (base : Nat) (Z : gZt) (u : Mem) (p0 : Int32) (p1 : Int32) (r : Int32) (hf : f_X7_tenLess p0 p1 = some r) : Met l yX7_tenLess (gws yX7_tenLess cX7_tenLess 2 (some .int)) (gRm 1 0 0) (gPc D base Z u [.int p0, .int p1]) (gQi D base r u) 0 0 (gF base) := by
  refine Met.ofW (cc := cX7_tenLess) (maxL := 2) (ret := some .int) (by decide) rfl ?_
  intro p e s m args below meth c s₁ B hml hv
  obtain ⟨rfl, C0, hG⟩ := g_enter B hml hv
  have hr := B.returns
  have C0 : gC p s m meth c _ cX7_tenLess 2 RX7 D base Z := C0
  have hx := C0.1
  have hb := C0.2.1
  have hl := lv_entry ([.int p0, .int p1]) (n := 2) (Nat.le_of_ble_eq_true rfl)
  rw [lg_entry_eq]
  generalize (lg_sl ([.int p0, .int p1]) ++ List.replicate (2 - (lg_sl ([.int p0, .int p1])).length) Slot.unset).toArray = ls at hl ⊢
  have hl : lv_has ls 2 [(0, .int p0), (1, .int p1)] := hl
  obtain ⟨Q, hQ⟩ : ∃ Q, Q = MQ below (gQi D base r u) ([.int p0, .int p1] : List Value).toArray s 0 0 (gF base) := ⟨_, rfl⟩
  rw [← hQ]
  change W p l e (gRm 1 0 0) s m _ below meth c _ _ _ _ _ _
  unfold f_X7_tenLess at hf
  refine lv_iload_n hx hb dX7_tenLess_0 rfl (lv_at hl 0 rfl) ?_
  refine lv_bipush (v := (10 : Int32)) hx hb dX7_tenLess_1 (by decide) ?_
  refine lv_iload_n hx hb dX7_tenLess_3 rfl (lv_at hl 1 rfl) ?_
  refine lv_imul hx hb dX7_tenLess_4 ?_
  refine lv_icmp_ge (tgt := 12) hx hb dX7_tenLess_5 (by decide) (fun c1 => ?_) (fun c1 => ?_)
  · have hf := gif_t c1 hf
    refine lv_iload_n hx hb dX7_tenLess_12 rfl (lv_at hl 0 rfl) ?_
    refine lv_bipush (v := (10 : Int32)) hx hb dX7_tenLess_13 (by decide) ?_
    refine lv_iload_n hx hb dX7_tenLess_15 rfl (lv_at hl 1 rfl) ?_
    refine lv_imul hx hb dX7_tenLess_16 ?_
    refine lv_isub hx hb dX7_tenLess_17 ?_
    have hf := Option.some.inj hf
    subst hf
    subst hQ
    exact g_iret C0 hG hr dX7_tenLess_18
  · have hf := gif_f c1 hf
    refine lv_iconst (v := (-1 : Int32)) hx hb dX7_tenLess_8 (by decide) ?_
    refine lv_goto (tgt := 18) hx hb dX7_tenLess_9 (by decide) ?_
    have hf := Option.some.inj hf
    subst hf
    subst hQ
    exact g_iret C0 hG hr dX7_tenLess_18
theorem dX7_isTale_0 : decode cX7_isTale 0 = .ok (.iload_n 0, 1) := by decide +kernel
theorem dX7_isTale_1 : decode cX7_isTale 1 = .ok (.bipush 8, 2) := by decide +kernel
theorem dX7_isTale_3 : decode cX7_isTale 3 = .ok (.invokestatic 63, 3) := by decide +kernel
theorem dX7_isTale_6 : decode cX7_isTale 6 = .ok (.ireturn, 1) := by decide +kernel
def f_X7_isTale (p0 : Int32) : Option (Int32) := Option.bind (f_X7_isWithin p0 (8 : Int32)) (fun r1 => gbo r1 (some r1))
set_option maxHeartbeats 4000000 in
set_option maxRecDepth 100000 in
theorem k_X7_isTale (l : Launch) (D : gDt) (base : Nat) (Z : gZt) (u : Mem) (p0 : Int32) (r : Int32) (hf : f_X7_isTale p0 = some r) : Met l yX7_isTale (gws yX7_isTale cX7_isTale 1 (some .boolean)) (gRm 2 0 0) (gPc D base Z u [.int p0]) (gQi D base r u) 0 0 (gF base) := by
  refine Met.ofW (cc := cX7_isTale) (maxL := 1) (ret := some .boolean) (by decide) rfl ?_
  intro p e s m args below meth c s₁ B hml hv
  obtain ⟨rfl, C0, hG⟩ := g_enter B hml hv
  have hr := B.returns
  have C0 : gC p s m meth c _ cX7_isTale 1 RX7 D base Z := C0
  have hx := C0.1
  have hb := C0.2.1
  have hl := lv_entry ([.int p0]) (n := 1) (Nat.le_of_ble_eq_true rfl)
  rw [lg_entry_eq]
  generalize (lg_sl ([.int p0]) ++ List.replicate (1 - (lg_sl ([.int p0])).length) Slot.unset).toArray = ls at hl ⊢
  have hl : lv_has ls 1 [(0, .int p0)] := hl
  obtain ⟨Q, hQ⟩ : ∃ Q, Q = MQ below (gQi D base r u) ([.int p0] : List Value).toArray s 0 0 (gF base) := ⟨_, rfl⟩
  rw [← hQ]
  change W p l e (gRm 2 0 0) s m _ below meth c _ _ _ _ _ _
  unfold f_X7_isTale at hf
  refine lv_iload_n hx hb dX7_isTale_0 rfl (lv_at hl 0 rfl) ?_
  refine lv_bipush (v := (8 : Int32)) hx hb dX7_isTale_1 (by decide) ?_
  obtain ⟨r1, hc1, hf⟩ := pb_s hf
  refine g_doI0 hG (g_runS C0 hG (k_X7_isWithin l D base Z u p0 (8 : Int32) r1 hc1) m_X7_isWithin s_X7_isWithin w_364 (by decide) rfl hl.1 rfl (Nat.le_of_ble_eq_true rfl) dX7_isTale_3 ⟨Nat.zero_le _, Nat.zero_le _⟩) (fun H locs hG hk => ?_)
  obtain ⟨h2, hf⟩ := gbo_s hf
  have hf := Option.some.inj hf
  subst hf
  subst hQ
  exact g_zret C0 hG hr h2 dX7_isTale_6
theorem dX7_of_0 : decode cX7_of 0 = .ok (.aload_n 0, 1) := by decide +kernel
theorem dX7_of_1 : decode cX7_of 1 = .ok (.iload_n 1, 1) := by decide +kernel
theorem dX7_of_2 : decode cX7_of 2 = .ok (.invokevirtual 74, 3) := by decide +kernel
theorem dX7_of_5 : decode cX7_of 5 = .ok (.ifCond .ne 7, 3) := by decide +kernel
theorem dX7_of_8 : decode cX7_of 8 = .ok (.sipush (-10001), 3) := by decide +kernel
theorem dX7_of_11 : decode cX7_of 11 = .ok (.ireturn, 1) := by decide +kernel
theorem dX7_of_12 : decode cX7_of 12 = .ok (.iload_n 2, 1) := by decide +kernel
theorem dX7_of_13 : decode cX7_of 13 = .ok (.tableswitch 101 0 5 #[39, 49, 59, 69, 79, 92], 39) := by decide +kernel
theorem dX7_of_52 : decode cX7_of 52 = .ok (.aload_n 0, 1) := by decide +kernel
theorem dX7_of_53 : decode cX7_of 53 = .ok (.getfield 12, 3) := by decide +kernel
theorem dX7_of_56 : decode cX7_of 56 = .ok (.getfield 78, 3) := by decide +kernel
theorem dX7_of_59 : decode cX7_of 59 = .ok (.iload_n 1, 1) := by decide +kernel
theorem dX7_of_60 : decode cX7_of 60 = .ok (.iaload, 1) := by decide +kernel
theorem dX7_of_61 : decode cX7_of 61 = .ok (.ireturn, 1) := by decide +kernel
theorem dX7_of_62 : decode cX7_of 62 = .ok (.aload_n 0, 1) := by decide +kernel
theorem dX7_of_63 : decode cX7_of 63 = .ok (.getfield 12, 3) := by decide +kernel
theorem dX7_of_66 : decode cX7_of 66 = .ok (.getfield 82, 3) := by decide +kernel
theorem dX7_of_69 : decode cX7_of 69 = .ok (.iload_n 1, 1) := by decide +kernel
theorem dX7_of_70 : decode cX7_of 70 = .ok (.iaload, 1) := by decide +kernel
theorem dX7_of_71 : decode cX7_of 71 = .ok (.ireturn, 1) := by decide +kernel
theorem dX7_of_72 : decode cX7_of 72 = .ok (.aload_n 0, 1) := by decide +kernel
theorem dX7_of_73 : decode cX7_of 73 = .ok (.getfield 12, 3) := by decide +kernel
theorem dX7_of_76 : decode cX7_of 76 = .ok (.getfield 85, 3) := by decide +kernel
theorem dX7_of_79 : decode cX7_of 79 = .ok (.iload_n 1, 1) := by decide +kernel
theorem dX7_of_80 : decode cX7_of 80 = .ok (.iaload, 1) := by decide +kernel
theorem dX7_of_81 : decode cX7_of 81 = .ok (.ireturn, 1) := by decide +kernel
theorem dX7_of_82 : decode cX7_of 82 = .ok (.aload_n 0, 1) := by decide +kernel
theorem dX7_of_83 : decode cX7_of 83 = .ok (.getfield 12, 3) := by decide +kernel
theorem dX7_of_86 : decode cX7_of 86 = .ok (.getfield 88, 3) := by decide +kernel
theorem dX7_of_89 : decode cX7_of 89 = .ok (.iload_n 1, 1) := by decide +kernel
theorem dX7_of_90 : decode cX7_of 90 = .ok (.iaload, 1) := by decide +kernel
theorem dX7_of_91 : decode cX7_of 91 = .ok (.ireturn, 1) := by decide +kernel
theorem dX7_of_92 : decode cX7_of 92 = .ok (.aload_n 0, 1) := by decide +kernel
theorem dX7_of_93 : decode cX7_of 93 = .ok (.getfield 12, 3) := by decide +kernel
theorem dX7_of_96 : decode cX7_of 96 = .ok (.getfield 91, 3) := by decide +kernel
theorem dX7_of_99 : decode cX7_of 99 = .ok (.iload_n 1, 1) := by decide +kernel
theorem dX7_of_100 : decode cX7_of 100 = .ok (.baload, 1) := by decide +kernel
theorem dX7_of_101 : decode cX7_of 101 = .ok (.invokestatic 95, 3) := by decide +kernel
theorem dX7_of_104 : decode cX7_of 104 = .ok (.ireturn, 1) := by decide +kernel
theorem dX7_of_105 : decode cX7_of 105 = .ok (.aload_n 0, 1) := by decide +kernel
theorem dX7_of_106 : decode cX7_of 106 = .ok (.getfield 12, 3) := by decide +kernel
theorem dX7_of_109 : decode cX7_of 109 = .ok (.iload_n 1, 1) := by decide +kernel
theorem dX7_of_110 : decode cX7_of 110 = .ok (.invokevirtual 99, 3) := by decide +kernel
theorem dX7_of_113 : decode cX7_of 113 = .ok (.ireturn, 1) := by decide +kernel
theorem dX7_of_114 : decode cX7_of 114 = .ok (.iload_n 2, 1) := by decide +kernel
theorem dX7_of_115 : decode cX7_of 115 = .ok (.iconst 1, 1) := by decide +kernel
theorem dX7_of_116 : decode cX7_of 116 = .ok (.invokestatic 103, 3) := by decide +kernel
theorem dX7_of_119 : decode cX7_of 119 = .ok (.istore_n 3, 1) := by decide +kernel
theorem dX7_of_120 : decode cX7_of 120 = .ok (.iload_n 3, 1) := by decide +kernel
theorem dX7_of_121 : decode cX7_of 121 = .ok (.invokestatic 107, 3) := by decide +kernel
theorem dX7_of_124 : decode cX7_of 124 = .ok (.ifCond .eq 15, 3) := by decide +kernel
theorem dX7_of_127 : decode cX7_of 127 = .ok (.aload_n 0, 1) := by decide +kernel
theorem dX7_of_128 : decode cX7_of 128 = .ok (.getfield 12, 3) := by decide +kernel
theorem dX7_of_131 : decode cX7_of 131 = .ok (.iload_n 1, 1) := by decide +kernel
theorem dX7_of_132 : decode cX7_of 132 = .ok (.iload_n 3, 1) := by decide +kernel
theorem dX7_of_133 : decode cX7_of 133 = .ok (.invokevirtual 110, 3) := by decide +kernel
theorem dX7_of_136 : decode cX7_of 136 = .ok (.goto 6, 3) := by decide +kernel
theorem dX7_of_139 : decode cX7_of 139 = .ok (.sipush (-10001), 3) := by decide +kernel
theorem dX7_of_142 : decode cX7_of 142 = .ok (.ireturn, 1) := by decide +kernel
def f_X7_of (p1 : Int32) (p2 : Int32) (u : Mem) : Option (Int32 × Mem) := Option.bind (f_X7_isPerson p1 u) (fun r1 => (if r1 = 0 then some ((-10001 : Int32), u) else (if p2 = (0 : Int32) then gin p1 6 (some (gA u 4 p1.toNatClampNeg, u)) else (if p2 = (1 : Int32) then gin p1 6 (some (gA u 5 p1.toNatClampNeg, u)) else (if p2 = (2 : Int32) then gin p1 6 (some (gA u 6 p1.toNatClampNeg, u)) else (if p2 = (3 : Int32) then gin p1 6 (some (gA u 7 p1.toNatClampNeg, u)) else (if p2 = (4 : Int32) then gin p1 6 (Option.bind (f_X7_asNumber (gA u 8 p1.toNatClampNeg)) (fun r13 => some (r13, u))) else (if p2 = (5 : Int32) then obind (f_X6_favourite 1 p1 u) (fun r15 u15 => some (r15, u15)) else Option.bind (f_X7_tenLess p2 (1 : Int32)) (fun r16 => Option.bind (f_X7_isTale r16) (fun r17 => (if r17 = 0 then some ((-10001 : Int32), u) else obind (f_X6_glow 1 p1 r16 u) (fun r19 u19 => some (r19, u19)))))))))))))
set_option maxHeartbeats 4000000 in
set_option maxRecDepth 100000 in
theorem k_X7_of (l : Launch) (D : gDt) (base : Nat) (Z : gZt) (u : Mem) (p1 : Int32) (p2 : Int32) (r : Int32) (u' : Mem) (hf : f_X7_of p1 p2 u = some (r, u')) : Met l yX7_of (gws yX7_of cX7_of 4 (some .int)) (gRm 6 0 0) (gPc D base Z u [.ref (base + 0), .int p1, .int p2]) (gQi D base r u') 0 0 (gF base) := by
  refine Met.ofW (cc := cX7_of) (maxL := 4) (ret := some .int) (by decide) rfl ?_
  intro p e s m args below meth c s₁ B hml hv
  obtain ⟨rfl, C0, hG⟩ := g_enter B hml hv
  have hr := B.returns
  have C0 : gC p s m meth c _ cX7_of 4 RX7 D base Z := C0
  have hx := C0.1
  have hb := C0.2.1
  have hl := lv_entry ([.ref (base + 0), .int p1, .int p2]) (n := 4) (Nat.le_of_ble_eq_true rfl)
  rw [lg_entry_eq]
  generalize (lg_sl ([.ref (base + 0), .int p1, .int p2]) ++ List.replicate (4 - (lg_sl ([.ref (base + 0), .int p1, .int p2])).length) Slot.unset).toArray = ls at hl ⊢
  have hl : lv_has ls 4 [(0, .ref (base + 0)), (1, .int p1), (2, .int p2)] := hl
  obtain ⟨Q, hQ⟩ : ∃ Q, Q = MQ below (gQi D base r u') ([.ref (base + 0), .int p1, .int p2] : List Value).toArray s 0 0 (gF base) := ⟨_, rfl⟩
  rw [← hQ]
  change W p l e (gRm 6 0 0) s m _ below meth c _ _ _ _ _ _
  unfold f_X7_of at hf
  refine lv_aload_n hx hb dX7_of_0 rfl (lv_at hl 0 rfl) ?_
  refine lv_iload_n hx hb dX7_of_1 rfl (lv_at hl 1 rfl) ?_
  obtain ⟨r1, hc1, hf⟩ := pb_s hf
  refine g_doI0 hG (g_runV C0 hG (k_X7_isPerson l D base Z u p1 r1 hc1) m_X7_isPerson v_X7_isPerson w_378 (by decide) (g_recv C0 hG (L0 hG) rfl) rfl hl.1 rfl (Nat.le_of_ble_eq_true rfl) dX7_of_2 ⟨Nat.zero_le _, Nat.zero_le _⟩) (fun H locs hG hk => ?_)
  refine lv_if_ne (tgt := 12) hx hb dX7_of_5 (by decide) (fun c2 => ?_) (fun c2 => ?_)
  · have hf := gif_f c2 hf
    refine lv_iload_n hx hb dX7_of_12 rfl (lv_at hl 2 rfl) ?_
    refine (Decidable.em (p2 = (0 : Int32))).elim (fun c3 => ?_) (fun c3 => ?_)
    · have hf := gif_t c3 hf
      refine lv_tableIn (off := 39) (tgt := 52) hx hb dX7_of_13 (by rw [c3]; decide) (by rw [c3]; decide) (by rw [c3]; rfl) (by decide) ?_
      refine lv_aload_n hx hb dX7_of_52 rfl (lv_at hl 0 rfl) ?_
      refine g_getSa (o := 1) (a := 1) C0 hG (L0 hG) rfl 0 (by decide) rfl rfl w_329 dX7_of_53 ?_
      refine g_getSaN (o := 3) (a := 4) C0 hG (L1 hG) rfl 2 (by decide) rfl rfl w_159 dX7_of_56 ?_
      refine lv_iload_n hx hb dX7_of_59 rfl (lv_at hl 1 rfl) ?_
      obtain ⟨h4, hf⟩ := gin_s hf
      refine g_iald C0 hG (L4 hG) h4 dX7_of_60 ?_
      obtain ⟨hr1, hu⟩ := gret_s hf
      subst hr1
      subst hu
      subst hQ
      exact g_iret C0 hG hr dX7_of_61
    · have hf := gif_f c3 hf
      refine (Decidable.em (p2 = (1 : Int32))).elim (fun c5 => ?_) (fun c5 => ?_)
      · have hf := gif_t c5 hf
        refine lv_tableIn (off := 49) (tgt := 62) hx hb dX7_of_13 (by rw [c5]; decide) (by rw [c5]; decide) (by rw [c5]; rfl) (by decide) ?_
        refine lv_aload_n hx hb dX7_of_62 rfl (lv_at hl 0 rfl) ?_
        refine g_getSa (o := 1) (a := 1) C0 hG (L0 hG) rfl 0 (by decide) rfl rfl w_329 dX7_of_63 ?_
        refine g_getSaN (o := 4) (a := 5) C0 hG (L1 hG) rfl 3 (by decide) rfl rfl w_161 dX7_of_66 ?_
        refine lv_iload_n hx hb dX7_of_69 rfl (lv_at hl 1 rfl) ?_
        obtain ⟨h6, hf⟩ := gin_s hf
        refine g_iald C0 hG (L5 hG) h6 dX7_of_70 ?_
        obtain ⟨hr1, hu⟩ := gret_s hf
        subst hr1
        subst hu
        subst hQ
        exact g_iret C0 hG hr dX7_of_71
      · have hf := gif_f c5 hf
        refine (Decidable.em (p2 = (2 : Int32))).elim (fun c7 => ?_) (fun c7 => ?_)
        · have hf := gif_t c7 hf
          refine lv_tableIn (off := 59) (tgt := 72) hx hb dX7_of_13 (by rw [c7]; decide) (by rw [c7]; decide) (by rw [c7]; rfl) (by decide) ?_
          refine lv_aload_n hx hb dX7_of_72 rfl (lv_at hl 0 rfl) ?_
          refine g_getSa (o := 1) (a := 1) C0 hG (L0 hG) rfl 0 (by decide) rfl rfl w_329 dX7_of_73 ?_
          refine g_getSaN (o := 5) (a := 6) C0 hG (L1 hG) rfl 4 (by decide) rfl rfl w_163 dX7_of_76 ?_
          refine lv_iload_n hx hb dX7_of_79 rfl (lv_at hl 1 rfl) ?_
          obtain ⟨h8, hf⟩ := gin_s hf
          refine g_iald C0 hG (L6 hG) h8 dX7_of_80 ?_
          obtain ⟨hr1, hu⟩ := gret_s hf
          subst hr1
          subst hu
          subst hQ
          exact g_iret C0 hG hr dX7_of_81
        · have hf := gif_f c7 hf
          refine (Decidable.em (p2 = (3 : Int32))).elim (fun c9 => ?_) (fun c9 => ?_)
          · have hf := gif_t c9 hf
            refine lv_tableIn (off := 69) (tgt := 82) hx hb dX7_of_13 (by rw [c9]; decide) (by rw [c9]; decide) (by rw [c9]; rfl) (by decide) ?_
            refine lv_aload_n hx hb dX7_of_82 rfl (lv_at hl 0 rfl) ?_
            refine g_getSa (o := 1) (a := 1) C0 hG (L0 hG) rfl 0 (by decide) rfl rfl w_329 dX7_of_83 ?_
            refine g_getSaN (o := 6) (a := 7) C0 hG (L1 hG) rfl 5 (by decide) rfl rfl w_165 dX7_of_86 ?_
            refine lv_iload_n hx hb dX7_of_89 rfl (lv_at hl 1 rfl) ?_
            obtain ⟨h10, hf⟩ := gin_s hf
            refine g_iald C0 hG (L7 hG) h10 dX7_of_90 ?_
            obtain ⟨hr1, hu⟩ := gret_s hf
            subst hr1
            subst hu
            subst hQ
            exact g_iret C0 hG hr dX7_of_91
          · have hf := gif_f c9 hf
            refine (Decidable.em (p2 = (4 : Int32))).elim (fun c11 => ?_) (fun c11 => ?_)
            · have hf := gif_t c11 hf
              refine lv_tableIn (off := 79) (tgt := 92) hx hb dX7_of_13 (by rw [c11]; decide) (by rw [c11]; decide) (by rw [c11]; rfl) (by decide) ?_
              refine lv_aload_n hx hb dX7_of_92 rfl (lv_at hl 0 rfl) ?_
              refine g_getSa (o := 1) (a := 1) C0 hG (L0 hG) rfl 0 (by decide) rfl rfl w_329 dX7_of_93 ?_
              refine g_getSaN (o := 7) (a := 8) C0 hG (L1 hG) rfl 6 (by decide) rfl rfl w_167 dX7_of_96 ?_
              refine lv_iload_n hx hb dX7_of_99 rfl (lv_at hl 1 rfl) ?_
              obtain ⟨h12, hf⟩ := gin_s hf
              refine g_zald C0 hG (L8 hG) h12 dX7_of_100 ?_
              obtain ⟨r13, hc13, hf⟩ := pb_s hf
              refine g_doI0 hG (g_runS C0 hG (k_X7_asNumber l D base Z u (gA u 8 p1.toNatClampNeg) r13 hc13) m_X7_asNumber s_X7_asNumber w_382 (by decide) rfl hl.1 rfl (Nat.le_of_ble_eq_true rfl) dX7_of_101 ⟨Nat.zero_le _, Nat.zero_le _⟩) (fun H locs hG hk => ?_)
              obtain ⟨hr1, hu⟩ := gret_s hf
              subst hr1
              subst hu
              subst hQ
              exact g_iret C0 hG hr dX7_of_104
            · have hf := gif_f c11 hf
              refine (Decidable.em (p2 = (5 : Int32))).elim (fun c14 => ?_) (fun c14 => ?_)
              · have hf := gif_t c14 hf
                refine lv_tableIn (off := 92) (tgt := 105) hx hb dX7_of_13 (by rw [c14]; decide) (by rw [c14]; decide) (by rw [c14]; rfl) (by decide) ?_
                refine lv_aload_n hx hb dX7_of_105 rfl (lv_at hl 0 rfl) ?_
                refine g_getSa (o := 1) (a := 1) C0 hG (L0 hG) rfl 0 (by decide) rfl rfl w_329 dX7_of_106 ?_
                refine lv_iload_n hx hb dX7_of_109 rfl (lv_at hl 1 rfl) ?_
                obtain ⟨r15, u15, hc15, hf⟩ := obind_s hf
                refine g_doI0 hG (g_runVN C0 hG (k_X6_favourite l D base Z u 1 p1 r15 u15 O1 hc15) m_X6_favourite v_X6_favourite w_385 (by decide) (g_recv C0 hG (L1 hG) rfl) rfl hl.1 rfl (Nat.le_of_ble_eq_true rfl) dX7_of_110 ⟨Nat.zero_le _, Nat.zero_le _⟩) (fun H locs hG hk => ?_)
                obtain ⟨hr1, hu⟩ := gret_s hf
                subst hr1
                subst hu
                subst hQ
                exact g_iret C0 hG hr dX7_of_113
              · have hf := gif_f c14 hf
                refine lv_tableOut (tgt := 114) hx hb dX7_of_13 (by
                    have n0 := lv_neT c3 (k := (0 : Int32)) (a := 0) (by decide)
                    have n1 := lv_neT c5 (k := (1 : Int32)) (a := 1) (by decide)
                    have n2 := lv_neT c7 (k := (2 : Int32)) (a := 2) (by decide)
                    have n3 := lv_neT c9 (k := (3 : Int32)) (a := 3) (by decide)
                    have n4 := lv_neT c11 (k := (4 : Int32)) (a := 4) (by decide)
                    have n5 := lv_neT c14 (k := (5 : Int32)) (a := 5) (by decide)
                    omega) (by decide) ?_
                refine lv_iload_n hx hb dX7_of_114 rfl (lv_at hl 2 rfl) ?_
                refine lv_iconst (v := (1 : Int32)) hx hb dX7_of_115 (by decide) ?_
                obtain ⟨r16, hc16, hf⟩ := pb_s hf
                refine g_doI0 hG (g_runS C0 hG (k_X7_tenLess l D base Z u p2 (1 : Int32) r16 hc16) m_X7_tenLess s_X7_tenLess w_412 (by decide) rfl hl.1 rfl (Nat.le_of_ble_eq_true rfl) dX7_of_116 ⟨Nat.zero_le _, Nat.zero_le _⟩) (fun H locs hG hk => ?_)
                refine lv_istore_n (lv' := [(3, .int r16), (0, .ref (base + 0)), (1, .int p1), (2, .int p2)]) hx hb dX7_of_119 rfl hl (by decide) rfl (fun ls hl => ?_)
                refine lv_iload_n hx hb dX7_of_120 rfl (lv_at hl 0 rfl) ?_
                obtain ⟨r17, hc17, hf⟩ := pb_s hf
                refine g_doI0 hG (g_runS C0 hG (k_X7_isTale l D base Z u r16 r17 hc17) m_X7_isTale s_X7_isTale w_415 (by decide) rfl hl.1 rfl (Nat.le_of_ble_eq_true rfl) dX7_of_121 ⟨Nat.zero_le _, Nat.zero_le _⟩) (fun H locs hG hk => ?_)
                refine lv_if_eq (tgt := 139) hx hb dX7_of_124 (by decide) (fun c18 => ?_) (fun c18 => ?_)
                · have hf := gif_t c18 hf
                  refine lv_sipush (v := (-10001 : Int32)) hx hb dX7_of_139 (by decide) ?_
                  obtain ⟨hr1, hu⟩ := gret_s hf
                  subst hr1
                  subst hu
                  subst hQ
                  exact g_iret C0 hG hr dX7_of_142
                · have hf := gif_f c18 hf
                  refine lv_aload_n hx hb dX7_of_127 rfl (lv_at hl 1 rfl) ?_
                  refine g_getSa (o := 1) (a := 1) C0 hG (L0 hG) rfl 0 (by decide) rfl rfl w_329 dX7_of_128 ?_
                  refine lv_iload_n hx hb dX7_of_131 rfl (lv_at hl 2 rfl) ?_
                  refine lv_iload_n hx hb dX7_of_132 rfl (lv_at hl 0 rfl) ?_
                  obtain ⟨r19, u19, hc19, hf⟩ := obind_s hf
                  refine g_doI0 hG (g_runVN C0 hG (k_X6_glow l D base Z u 1 p1 r16 r19 u19 O1 hc19) m_X6_glow v_X6_glow w_418 (by decide) (g_recv C0 hG (L1 hG) rfl) rfl hl.1 rfl (Nat.le_of_ble_eq_true rfl) dX7_of_133 ⟨Nat.zero_le _, Nat.zero_le _⟩) (fun H locs hG hk => ?_)
                  refine lv_goto (tgt := 142) hx hb dX7_of_136 (by decide) ?_
                  obtain ⟨hr1, hu⟩ := gret_s hf
                  subst hr1
                  subst hu
                  subst hQ
                  exact g_iret C0 hG hr dX7_of_142
  · have hf := gif_t c2 hf
    refine lv_sipush (v := (-10001 : Int32)) hx hb dX7_of_8 (by decide) ?_
    obtain ⟨hr1, hu⟩ := gret_s hf
    subst hr1
    subst hu
    subst hQ
    exact g_iret C0 hG hr dX7_of_11
theorem dX7_seat_0 : decode cX7_seat 0 = .ok (.aload_n 0, 1) := by decide +kernel
theorem dX7_seat_1 : decode cX7_seat 1 = .ok (.iload_n 1, 1) := by decide +kernel
theorem dX7_seat_2 : decode cX7_seat 2 = .ok (.invokevirtual 74, 3) := by decide +kernel
theorem dX7_seat_5 : decode cX7_seat 5 = .ok (.ifCond .eq 11, 3) := by decide +kernel
theorem dX7_seat_8 : decode cX7_seat 8 = .ok (.iload_n 2, 1) := by decide +kernel
theorem dX7_seat_9 : decode cX7_seat 9 = .ok (.iconst 4, 1) := by decide +kernel
theorem dX7_seat_10 : decode cX7_seat 10 = .ok (.invokestatic 63, 3) := by decide +kernel
theorem dX7_seat_13 : decode cX7_seat 13 = .ok (.ifCond .ne 5, 3) := by decide +kernel
theorem dX7_seat_16 : decode cX7_seat 16 = .ok (.iconst (-1), 1) := by decide +kernel
theorem dX7_seat_17 : decode cX7_seat 17 = .ok (.ireturn, 1) := by decide +kernel
theorem dX7_seat_18 : decode cX7_seat 18 = .ok (.aload_n 0, 1) := by decide +kernel
theorem dX7_seat_19 : decode cX7_seat 19 = .ok (.getfield 12, 3) := by decide +kernel
theorem dX7_seat_22 : decode cX7_seat 22 = .ok (.getfield 85, 3) := by decide +kernel
theorem dX7_seat_25 : decode cX7_seat 25 = .ok (.iload_n 1, 1) := by decide +kernel
theorem dX7_seat_26 : decode cX7_seat 26 = .ok (.iaload, 1) := by decide +kernel
theorem dX7_seat_27 : decode cX7_seat 27 = .ok (.istore_n 3, 1) := by decide +kernel
theorem dX7_seat_28 : decode cX7_seat 28 = .ok (.aload_n 0, 1) := by decide +kernel
theorem dX7_seat_29 : decode cX7_seat 29 = .ok (.getfield 12, 3) := by decide +kernel
theorem dX7_seat_32 : decode cX7_seat 32 = .ok (.getfield 85, 3) := by decide +kernel
theorem dX7_seat_35 : decode cX7_seat 35 = .ok (.iload_n 1, 1) := by decide +kernel
theorem dX7_seat_36 : decode cX7_seat 36 = .ok (.iload_n 2, 1) := by decide +kernel
theorem dX7_seat_37 : decode cX7_seat 37 = .ok (.iastore, 1) := by decide +kernel
theorem dX7_seat_38 : decode cX7_seat 38 = .ok (.iload_n 3, 1) := by decide +kernel
theorem dX7_seat_39 : decode cX7_seat 39 = .ok (.ireturn, 1) := by decide +kernel
def f_X7_seat (p1 : Int32) (p2 : Int32) (u : Mem) : Option (Int32 × Mem) := Option.bind (f_X7_isPerson p1 u) (fun r1 => (if r1 = 0 then some ((-1 : Int32), u) else Option.bind (f_X7_isWithin p2 (4 : Int32)) (fun r3 => (if r3 = 0 then some ((-1 : Int32), u) else gin p1 6 (gin p1 6 (some (gA u 6 p1.toNatClampNeg, sA u 6 p1.toNatClampNeg p2)))))))
set_option maxHeartbeats 4000000 in
set_option maxRecDepth 100000 in
theorem k_X7_seat (l : Launch) (D : gDt) (base : Nat) (Z : gZt) (u : Mem) (p1 : Int32) (p2 : Int32) (r : Int32) (u' : Mem) (hf : f_X7_seat p1 p2 u = some (r, u')) : Met l yX7_seat (gws yX7_seat cX7_seat 4 (some .int)) (gRm 3 0 0) (gPc D base Z u [.ref (base + 0), .int p1, .int p2]) (gQi D base r u') 0 0 (gF base) := by
  refine Met.ofW (cc := cX7_seat) (maxL := 4) (ret := some .int) (by decide) rfl ?_
  intro p e s m args below meth c s₁ B hml hv
  obtain ⟨rfl, C0, hG⟩ := g_enter B hml hv
  have hr := B.returns
  have C0 : gC p s m meth c _ cX7_seat 4 RX7 D base Z := C0
  have hx := C0.1
  have hb := C0.2.1
  have hl := lv_entry ([.ref (base + 0), .int p1, .int p2]) (n := 4) (Nat.le_of_ble_eq_true rfl)
  rw [lg_entry_eq]
  generalize (lg_sl ([.ref (base + 0), .int p1, .int p2]) ++ List.replicate (4 - (lg_sl ([.ref (base + 0), .int p1, .int p2])).length) Slot.unset).toArray = ls at hl ⊢
  have hl : lv_has ls 4 [(0, .ref (base + 0)), (1, .int p1), (2, .int p2)] := hl
  obtain ⟨Q, hQ⟩ : ∃ Q, Q = MQ below (gQi D base r u') ([.ref (base + 0), .int p1, .int p2] : List Value).toArray s 0 0 (gF base) := ⟨_, rfl⟩
  rw [← hQ]
  change W p l e (gRm 3 0 0) s m _ below meth c _ _ _ _ _ _
  unfold f_X7_seat at hf
  refine lv_aload_n hx hb dX7_seat_0 rfl (lv_at hl 0 rfl) ?_
  refine lv_iload_n hx hb dX7_seat_1 rfl (lv_at hl 1 rfl) ?_
  obtain ⟨r1, hc1, hf⟩ := pb_s hf
  refine g_doI0 hG (g_runV C0 hG (k_X7_isPerson l D base Z u p1 r1 hc1) m_X7_isPerson v_X7_isPerson w_378 (by decide) (g_recv C0 hG (L0 hG) rfl) rfl hl.1 rfl (Nat.le_of_ble_eq_true rfl) dX7_seat_2 ⟨Nat.zero_le _, Nat.zero_le _⟩) (fun H locs hG hk => ?_)
  refine lv_if_eq (tgt := 16) hx hb dX7_seat_5 (by decide) (fun c2 => ?_) (fun c2 => ?_)
  · have hf := gif_t c2 hf
    refine lv_iconst (v := (-1 : Int32)) hx hb dX7_seat_16 (by decide) ?_
    obtain ⟨hr1, hu⟩ := gret_s hf
    subst hr1
    subst hu
    subst hQ
    exact g_iret C0 hG hr dX7_seat_17
  · have hf := gif_f c2 hf
    refine lv_iload_n hx hb dX7_seat_8 rfl (lv_at hl 2 rfl) ?_
    refine lv_iconst (v := (4 : Int32)) hx hb dX7_seat_9 (by decide) ?_
    obtain ⟨r3, hc3, hf⟩ := pb_s hf
    refine g_doI0 hG (g_runS C0 hG (k_X7_isWithin l D base Z u p2 (4 : Int32) r3 hc3) m_X7_isWithin s_X7_isWithin w_364 (by decide) rfl hl.1 rfl (Nat.le_of_ble_eq_true rfl) dX7_seat_10 ⟨Nat.zero_le _, Nat.zero_le _⟩) (fun H locs hG hk => ?_)
    refine lv_if_ne (tgt := 18) hx hb dX7_seat_13 (by decide) (fun c4 => ?_) (fun c4 => ?_)
    · have hf := gif_f c4 hf
      refine lv_aload_n hx hb dX7_seat_18 rfl (lv_at hl 0 rfl) ?_
      refine g_getSa (o := 1) (a := 1) C0 hG (L0 hG) rfl 0 (by decide) rfl rfl w_329 dX7_seat_19 ?_
      refine g_getSaN (o := 5) (a := 6) C0 hG (L1 hG) rfl 4 (by decide) rfl rfl w_163 dX7_seat_22 ?_
      refine lv_iload_n hx hb dX7_seat_25 rfl (lv_at hl 1 rfl) ?_
      obtain ⟨h5, hf⟩ := gin_s hf
      refine g_iald C0 hG (L6 hG) h5 dX7_seat_26 ?_
      refine lv_istore_n (lv' := [(3, .int (gA u 6 p1.toNatClampNeg)), (0, .ref (base + 0)), (1, .int p1), (2, .int p2)]) hx hb dX7_seat_27 rfl hl (by decide) rfl (fun ls hl => ?_)
      refine lv_aload_n hx hb dX7_seat_28 rfl (lv_at hl 1 rfl) ?_
      refine g_getSa (o := 1) (a := 1) C0 hG (L0 hG) rfl 0 (by decide) rfl rfl w_329 dX7_seat_29 ?_
      refine g_getSaN (o := 5) (a := 6) C0 hG (L1 hG) rfl 4 (by decide) rfl rfl w_163 dX7_seat_32 ?_
      refine lv_iload_n hx hb dX7_seat_35 rfl (lv_at hl 2 rfl) ?_
      refine lv_iload_n hx hb dX7_seat_36 rfl (lv_at hl 3 rfl) ?_
      obtain ⟨h6, hf⟩ := gin_s hf
      refine g_iast C0 hG (L6 hG) h6 dX7_seat_37 (fun H locs hG => ?_)
      refine lv_iload_n hx hb dX7_seat_38 rfl (lv_at hl 0 rfl) ?_
      obtain ⟨hr1, hu⟩ := gret_s hf
      subst hr1
      subst hu
      subst hQ
      exact g_iret C0 hG hr dX7_seat_39
    · have hf := gif_t c4 hf
      refine lv_iconst (v := (-1 : Int32)) hx hb dX7_seat_16 (by decide) ?_
      obtain ⟨hr1, hu⟩ := gret_s hf
      subst hr1
      subst hu
      subst hQ
      exact g_iret C0 hG hr dX7_seat_17
