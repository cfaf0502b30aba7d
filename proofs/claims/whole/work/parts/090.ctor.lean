theorem dX0_init_0 : decode cX0_init 0 = .ok (.aload_n 0, 1) := by decide +kernel
theorem dX0_init_1 : decode cX0_init 1 = .ok (.invokespecial 3, 3) := by decide +kernel
theorem dX0_init_4 : decode cX0_init 4 = .ok (.aload_n 0, 1) := by decide +kernel
theorem dX0_init_5 : decode cX0_init 5 = .ok (.bipush 100, 2) := by decide +kernel
theorem dX0_init_7 : decode cX0_init 7 = .ok (.newarray .int, 2) := by decide +kernel
theorem dX0_init_9 : decode cX0_init 9 = .ok (.putfield 9, 3) := by decide +kernel
theorem dX0_init_12 : decode cX0_init 12 = .ok (.aload_n 0, 1) := by decide +kernel
theorem dX0_init_13 : decode cX0_init 13 = .ok (.iconst 0, 1) := by decide +kernel
theorem dX0_init_14 : decode cX0_init 14 = .ok (.putfield 15, 3) := by decide +kernel
theorem dX0_init_17 : decode cX0_init 17 = .ok (.aload_n 0, 1) := by decide +kernel
theorem dX0_init_18 : decode cX0_init 18 = .ok (.iconst 5, 1) := by decide +kernel
theorem dX0_init_19 : decode cX0_init 19 = .ok (.putfield 19, 3) := by decide +kernel
theorem dX0_init_22 : decode cX0_init 22 = .ok (.return_, 1) := by decide +kernel
set_option maxHeartbeats 8000000 in
set_option maxRecDepth 100000 in
theorem k_X0_init (l : Launch) (D : gDt) (base : Nat) (Z : gZt) (t : Nat) (ph : Nat → va_E) : Met l yX0_init (gws yX0_init cX0_init 1 none) (gRm 2 1 100) (gPcC D base Z t ph [.inr (0, [.null, .int 0, .int 0])] [.ref (base + (t + 0))]) (gQC D base t ph [.inr (0, [.ref (base + (t + 1)), .int (0 : Int32), .int (5 : Int32)]), .inl (D.2 0, (100, .inl (fun _ => 0)))]) 1 100 (gF base) := by
  refine Met.ofW (cc := cX0_init) (maxL := 1) (ret := none) (by decide) rfl ?_
  intro p e s m args below meth c s₁ B hml hv
  obtain ⟨rfl, C0, hG⟩ := c_enter B hml hv
  have hr := B.returns
  have hnm : meth.name = "<init>" := (name_of_methodNamed B.named B.method).1
  have C0 : gC p s m meth c _ cX0_init 1 RX0 D base Z := C0
  have hx := C0.1
  have hb := C0.2.1
  have hl := lv_entry ([.ref (base + (t + 0))]) (n := 1) (Nat.le_of_ble_eq_true rfl)
  rw [lg_entry_eq]
  generalize (lg_sl ([.ref (base + (t + 0))]) ++ List.replicate (1 - (lg_sl ([.ref (base + (t + 0))])).length) Slot.unset).toArray = ls at hl ⊢
  have hl : lv_has ls 1 [(0, .ref (base + (t + 0)))] := hl
  obtain ⟨Q, hQ⟩ : ∃ Q, Q = MQ below (gQC D base t ph [.inr (0, [.ref (base + (t + 1)), .int (0 : Int32), .int (5 : Int32)]), .inl (D.2 0, (100, .inl (fun _ => 0)))]) ([.ref (base + (t + 0))] : List Value).toArray s 1 100 (gF base) := ⟨_, rfl⟩
  rw [← hQ]
  change W p l e (gRm 2 1 100) s m _ below meth c _ _ _ _ _ _
  generalize hlo : ([] : List Loc) = locs at hG ⊢
  refine lv_aload_n hx hb dX0_init_0 rfl (lv_at hl 0 rfl) ?_
  refine c_obj C0 w_138 ob_i ob_c hl.1 dX0_init_1 ⟨Nat.le_of_ble_eq_true rfl, Nat.le_of_ble_eq_true rfl⟩ ?_
  refine lv_aload_n hx hb dX0_init_4 rfl (lv_at hl 0 rfl) ?_
  refine lv_bipush (v := (100 : Int32)) hx hb dX0_init_5 (by decide) ?_
  refine c_newa (ty := .int) (i := 0) (N := 100) (a0 := (100, .inl (fun _ => 0))) C0 hG rfl rfl rfl (fun _ => rfl) (by decide) (by decide) (by decide) w_152 (Nat.le_of_ble_eq_true rfl) (Nat.le_of_ble_eq_true rfl) dX0_init_7 (fun H hG => ?_)
  have hG : gCH D base s t ph [.inr (0, [.null, .int 0, .int 0]), .inl (D.2 0, (100, .inl (fun _ => 0)))] H locs := hG
  change W p l e _ s m _ below meth c H locs 1 100 _ (F0 m _ ls (.ref (base + (t + 1)) :: _))
  refine c_putF (j := 0) (ty := .array .int) C0 hG rfl rfl 0 (by decide) (Nat.le_of_ble_eq_true rfl) w_139 rfl hnm rfl (by decide) rfl rfl dX0_init_9 (fun H locs hG => ?_)
  have hG : gCH D base s t ph [.inr (0, [.ref (base + (t + 1)), .int 0, .int 0]), .inl (D.2 0, (100, .inl (fun _ => 0)))] H locs := hG
  refine lv_aload_n hx hb dX0_init_12 rfl (lv_at hl 0 rfl) ?_
  refine lv_iconst (v := (0 : Int32)) hx hb dX0_init_13 (by decide) ?_
  refine c_put (j := 0) (ty := .int) C0 hG rfl rfl 1 (by decide) (Nat.le_of_ble_eq_true rfl) w_140 rfl (by decide) rfl rfl dX0_init_14 (fun H locs hG => ?_)
  have hG : gCH D base s t ph [.inr (0, [.ref (base + (t + 1)), .int (0 : Int32), .int 0]), .inl (D.2 0, (100, .inl (fun _ => 0)))] H locs := hG
  refine lv_aload_n hx hb dX0_init_17 rfl (lv_at hl 0 rfl) ?_
  refine lv_iconst (v := (5 : Int32)) hx hb dX0_init_18 (by decide) ?_
  refine c_put (j := 0) (ty := .int) C0 hG rfl rfl 2 (by decide) (Nat.le_of_ble_eq_true rfl) w_141 rfl (by decide) rfl rfl dX0_init_19 (fun H locs hG => ?_)
  have hG : gCH D base s t ph [.inr (0, [.ref (base + (t + 1)), .int (0 : Int32), .int (5 : Int32)]), .inl (D.2 0, (100, .inl (fun _ => 0)))] H locs := hG
  subst hQ
  exact c_ret C0 hG hr dX0_init_22
theorem dX2_init_0 : decode cX2_init 0 = .ok (.aload_n 0, 1) := by decide +kernel
theorem dX2_init_1 : decode cX2_init 1 = .ok (.invokespecial 3, 3) := by decide +kernel
theorem dX2_init_4 : decode cX2_init 4 = .ok (.aload_n 0, 1) := by decide +kernel
theorem dX2_init_5 : decode cX2_init 5 = .ok (.bipush 10, 2) := by decide +kernel
theorem dX2_init_7 : decode cX2_init 7 = .ok (.newarray .int, 2) := by decide +kernel
theorem dX2_init_9 : decode cX2_init 9 = .ok (.putfield 11, 3) := by decide +kernel
theorem dX2_init_12 : decode cX2_init 12 = .ok (.aload_n 0, 1) := by decide +kernel
theorem dX2_init_13 : decode cX2_init 13 = .ok (.bipush 10, 2) := by decide +kernel
theorem dX2_init_15 : decode cX2_init 15 = .ok (.newarray .int, 2) := by decide +kernel
theorem dX2_init_17 : decode cX2_init 17 = .ok (.putfield 15, 3) := by decide +kernel
theorem dX2_init_20 : decode cX2_init 20 = .ok (.aload_n 0, 1) := by decide +kernel
theorem dX2_init_21 : decode cX2_init 21 = .ok (.bipush 10, 2) := by decide +kernel
theorem dX2_init_23 : decode cX2_init 23 = .ok (.newarray .int, 2) := by decide +kernel
theorem dX2_init_25 : decode cX2_init 25 = .ok (.putfield 18, 3) := by decide +kernel
theorem dX2_init_28 : decode cX2_init 28 = .ok (.aload_n 0, 1) := by decide +kernel
theorem dX2_init_29 : decode cX2_init 29 = .ok (.iconst 0, 1) := by decide +kernel
theorem dX2_init_30 : decode cX2_init 30 = .ok (.putfield 21, 3) := by decide +kernel
theorem dX2_init_33 : decode cX2_init 33 = .ok (.aload_n 0, 1) := by decide +kernel
theorem dX2_init_34 : decode cX2_init 34 = .ok (.iload_n 1, 1) := by decide +kernel
theorem dX2_init_35 : decode cX2_init 35 = .ok (.bipush 10, 2) := by decide +kernel
theorem dX2_init_37 : decode cX2_init 37 = .ok (.invokestatic 25, 3) := by decide +kernel
theorem dX2_init_40 : decode cX2_init 40 = .ok (.putfield 31, 3) := by decide +kernel
theorem dX2_init_43 : decode cX2_init 43 = .ok (.return_, 1) := by decide +kernel
set_option maxHeartbeats 8000000 in
set_option maxRecDepth 100000 in
theorem k_X2_init (l : Launch) (D : gDt) (base : Nat) (Z : gZt) (t : Nat) (ph : Nat → va_E) (p1 : Int32) : Met l yX2_init (gws yX2_init cX2_init 2 none) (gRm 2 3 30) (gPcC D base Z t ph [.inr (2, [.null, .null, .null, .int 0, .int 0])] [.ref (base + (t + 0)), .int p1]) (gQC D base t ph [.inr (2, [.ref (base + (t + 1)), .ref (base + (t + 2)), .ref (base + (t + 3)), .int (imin p1 (10 : Int32)), .int (0 : Int32)]), .inl (D.2 0, (10, .inl (fun _ => 0))), .inl (D.2 0, (10, .inl (fun _ => 0))), .inl (D.2 0, (10, .inl (fun _ => 0)))]) 3 30 (gF base) := by
  refine Met.ofW (cc := cX2_init) (maxL := 2) (ret := none) (by decide) rfl ?_
  intro p e s m args below meth c s₁ B hml hv
  obtain ⟨rfl, C0, hG⟩ := c_enter B hml hv
  have hr := B.returns
  have hnm : meth.name = "<init>" := (name_of_methodNamed B.named B.method).1
  have C0 : gC p s m meth c _ cX2_init 2 RX2 D base Z := C0
  have hx := C0.1
  have hb := C0.2.1
  have hl := lv_entry ([.ref (base + (t + 0)), .int p1]) (n := 2) (Nat.le_of_ble_eq_true rfl)
  rw [lg_entry_eq]
  generalize (lg_sl ([.ref (base + (t + 0)), .int p1]) ++ List.replicate (2 - (lg_sl ([.ref (base + (t + 0)), .int p1])).length) Slot.unset).toArray = ls at hl ⊢
  have hl : lv_has ls 2 [(0, .ref (base + (t + 0))), (1, .int p1)] := hl
  obtain ⟨Q, hQ⟩ : ∃ Q, Q = MQ below (gQC D base t ph [.inr (2, [.ref (base + (t + 1)), .ref (base + (t + 2)), .ref (base + (t + 3)), .int (imin p1 (10 : Int32)), .int (0 : Int32)]), .inl (D.2 0, (10, .inl (fun _ => 0))), .inl (D.2 0, (10, .inl (fun _ => 0))), .inl (D.2 0, (10, .inl (fun _ => 0)))]) ([.ref (base + (t + 0)), .int p1] : List Value).toArray s 3 30 (gF base) := ⟨_, rfl⟩
  rw [← hQ]
  change W p l e (gRm 2 3 30) s m _ below meth c _ _ _ _ _ _
  generalize hlo : ([] : List Loc) = locs at hG ⊢
  refine lv_aload_n hx hb dX2_init_0 rfl (lv_at hl 0 rfl) ?_
  refine c_obj C0 w_221 ob_i ob_c hl.1 dX2_init_1 ⟨Nat.le_of_ble_eq_true rfl, Nat.le_of_ble_eq_true rfl⟩ ?_
  refine lv_aload_n hx hb dX2_init_4 rfl (lv_at hl 0 rfl) ?_
  refine lv_bipush (v := (10 : Int32)) hx hb dX2_init_5 (by decide) ?_
  refine c_newa (ty := .int) (i := 0) (N := 10) (a0 := (10, .inl (fun _ => 0))) C0 hG rfl rfl rfl (fun _ => rfl) (by decide) (by decide) (by decide) w_152 (Nat.le_of_ble_eq_true rfl) (Nat.le_of_ble_eq_true rfl) dX2_init_7 (fun H hG => ?_)
  have hG : gCH D base s t ph [.inr (2, [.null, .null, .null, .int 0, .int 0]), .inl (D.2 0, (10, .inl (fun _ => 0)))] H locs := hG
  change W p l e _ s m _ below meth c H locs 1 10 _ (F0 m _ ls (.ref (base + (t + 1)) :: _))
  refine c_putF (j := 0) (ty := .array .int) C0 hG rfl rfl 0 (by decide) (Nat.le_of_ble_eq_true rfl) w_225 rfl hnm rfl (by decide) rfl rfl dX2_init_9 (fun H locs hG => ?_)
  have hG : gCH D base s t ph [.inr (2, [.ref (base + (t + 1)), .null, .null, .int 0, .int 0]), .inl (D.2 0, (10, .inl (fun _ => 0)))] H locs := hG
  refine lv_aload_n hx hb dX2_init_12 rfl (lv_at hl 0 rfl) ?_
  refine lv_bipush (v := (10 : Int32)) hx hb dX2_init_13 (by decide) ?_
  refine c_newa (ty := .int) (i := 0) (N := 10) (a0 := (10, .inl (fun _ => 0))) C0 hG rfl rfl rfl (fun _ => rfl) (by decide) (by decide) (by decide) w_152 (Nat.le_of_ble_eq_true rfl) (Nat.le_of_ble_eq_true rfl) dX2_init_15 (fun H hG => ?_)
  have hG : gCH D base s t ph [.inr (2, [.ref (base + (t + 1)), .null, .null, .int 0, .int 0]), .inl (D.2 0, (10, .inl (fun _ => 0))), .inl (D.2 0, (10, .inl (fun _ => 0)))] H locs := hG
  change W p l e _ s m _ below meth c H locs 2 20 _ (F0 m _ ls (.ref (base + (t + 2)) :: _))
  refine c_putF (j := 0) (ty := .array .int) C0 hG rfl rfl 1 (by decide) (Nat.le_of_ble_eq_true rfl) w_227 rfl hnm rfl (by decide) rfl rfl dX2_init_17 (fun H locs hG => ?_)
  have hG : gCH D base s t ph [.inr (2, [.ref (base + (t + 1)), .ref (base + (t + 2)), .null, .int 0, .int 0]), .inl (D.2 0, (10, .inl (fun _ => 0))), .inl (D.2 0, (10, .inl (fun _ => 0)))] H locs := hG
  refine lv_aload_n hx hb dX2_init_20 rfl (lv_at hl 0 rfl) ?_
  refine lv_bipush (v := (10 : Int32)) hx hb dX2_init_21 (by decide) ?_
  refine c_newa (ty := .int) (i := 0) (N := 10) (a0 := (10, .inl (fun _ => 0))) C0 hG rfl rfl rfl (fun _ => rfl) (by decide) (by decide) (by decide) w_152 (Nat.le_of_ble_eq_true rfl) (Nat.le_of_ble_eq_true rfl) dX2_init_23 (fun H hG => ?_)
  have hG : gCH D base s t ph [.inr (2, [.ref (base + (t + 1)), .ref (base + (t + 2)), .null, .int 0, .int 0]), .inl (D.2 0, (10, .inl (fun _ => 0))), .inl (D.2 0, (10, .inl (fun _ => 0))), .inl (D.2 0, (10, .inl (fun _ => 0)))] H locs := hG
  change W p l e _ s m _ below meth c H locs 3 30 _ (F0 m _ ls (.ref (base + (t + 3)) :: _))
  refine c_putF (j := 0) (ty := .array .int) C0 hG rfl rfl 2 (by decide) (Nat.le_of_ble_eq_true rfl) w_229 rfl hnm rfl (by decide) rfl rfl dX2_init_25 (fun H locs hG => ?_)
  have hG : gCH D base s t ph [.inr (2, [.ref (base + (t + 1)), .ref (base + (t + 2)), .ref (base + (t + 3)), .int 0, .int 0]), .inl (D.2 0, (10, .inl (fun _ => 0))), .inl (D.2 0, (10, .inl (fun _ => 0))), .inl (D.2 0, (10, .inl (fun _ => 0)))] H locs := hG
  refine lv_aload_n hx hb dX2_init_28 rfl (lv_at hl 0 rfl) ?_
  refine lv_iconst (v := (0 : Int32)) hx hb dX2_init_29 (by decide) ?_
  refine c_put (j := 0) (ty := .int) C0 hG rfl rfl 4 (by decide) (Nat.le_of_ble_eq_true rfl) w_232 rfl (by decide) rfl rfl dX2_init_30 (fun H locs hG => ?_)
  have hG : gCH D base s t ph [.inr (2, [.ref (base + (t + 1)), .ref (base + (t + 2)), .ref (base + (t + 3)), .int 0, .int (0 : Int32)]), .inl (D.2 0, (10, .inl (fun _ => 0))), .inl (D.2 0, (10, .inl (fun _ => 0))), .inl (D.2 0, (10, .inl (fun _ => 0)))] H locs := hG
  refine lv_aload_n hx hb dX2_init_33 rfl (lv_at hl 0 rfl) ?_
  refine lv_iload_n hx hb dX2_init_34 rfl (lv_at hl 1 rfl) ?_
  refine lv_bipush (v := (10 : Int32)) hx hb dX2_init_35 (by decide) ?_
  refine g_min C0 w_222 mt_min_s mt_i mt_min_c hl.1 ⟨Nat.le_of_ble_eq_true rfl, Nat.le_of_ble_eq_true rfl, Nat.le_of_ble_eq_true rfl, Nat.le_of_ble_eq_true rfl⟩ dX2_init_37 ?_
  refine c_putF (j := 0) (ty := .int) C0 hG rfl rfl 3 (by decide) (Nat.le_of_ble_eq_true rfl) w_231 rfl hnm rfl (by decide) rfl rfl dX2_init_40 (fun H locs hG => ?_)
  have hG : gCH D base s t ph [.inr (2, [.ref (base + (t + 1)), .ref (base + (t + 2)), .ref (base + (t + 3)), .int (imin p1 (10 : Int32)), .int (0 : Int32)]), .inl (D.2 0, (10, .inl (fun _ => 0))), .inl (D.2 0, (10, .inl (fun _ => 0))), .inl (D.2 0, (10, .inl (fun _ => 0)))] H locs := hG
  subst hQ
  exact c_ret C0 hG hr dX2_init_43
theorem dX1_init_0 : decode cX1_init 0 = .ok (.aload_n 0, 1) := by decide +kernel
theorem dX1_init_1 : decode cX1_init 1 = .ok (.invokespecial 3, 3) := by decide +kernel
theorem dX1_init_4 : decode cX1_init 4 = .ok (.aload_n 0, 1) := by decide +kernel
theorem dX1_init_5 : decode cX1_init 5 = .ok (.new 9, 3) := by decide +kernel
theorem dX1_init_8 : decode cX1_init 8 = .ok (.dup, 1) := by decide +kernel
theorem dX1_init_9 : decode cX1_init 9 = .ok (.iconst 5, 1) := by decide +kernel
theorem dX1_init_10 : decode cX1_init 10 = .ok (.invokespecial 11, 3) := by decide +kernel
theorem dX1_init_13 : decode cX1_init 13 = .ok (.putfield 14, 3) := by decide +kernel
theorem dX1_init_16 : decode cX1_init 16 = .ok (.aload_n 0, 1) := by decide +kernel
theorem dX1_init_17 : decode cX1_init 17 = .ok (.new 9, 3) := by decide +kernel
theorem dX1_init_20 : decode cX1_init 20 = .ok (.dup, 1) := by decide +kernel
theorem dX1_init_21 : decode cX1_init 21 = .ok (.bipush 10, 2) := by decide +kernel
theorem dX1_init_23 : decode cX1_init 23 = .ok (.invokespecial 11, 3) := by decide +kernel
theorem dX1_init_26 : decode cX1_init 26 = .ok (.putfield 20, 3) := by decide +kernel
theorem dX1_init_29 : decode cX1_init 29 = .ok (.aload_n 0, 1) := by decide +kernel
theorem dX1_init_30 : decode cX1_init 30 = .ok (.new 9, 3) := by decide +kernel
theorem dX1_init_33 : decode cX1_init 33 = .ok (.dup, 1) := by decide +kernel
theorem dX1_init_34 : decode cX1_init 34 = .ok (.bipush 8, 2) := by decide +kernel
theorem dX1_init_36 : decode cX1_init 36 = .ok (.invokespecial 11, 3) := by decide +kernel
theorem dX1_init_39 : decode cX1_init 39 = .ok (.putfield 23, 3) := by decide +kernel
theorem dX1_init_42 : decode cX1_init 42 = .ok (.return_, 1) := by decide +kernel
set_option maxHeartbeats 8000000 in
set_option maxRecDepth 100000 in
theorem k_X1_init (l : Launch) (D : gDt) (base : Nat) (Z : gZt) (t : Nat) (ph : Nat → va_E) : Met l yX1_init (gws yX1_init cX1_init 1 none) (gRm 3 12 105) (gPcC D base Z t ph [.inr (1, [.null, .null, .null])] [.ref (base + (t + 0))]) (gQC D base t ph [.inr (1, [.ref (base + (t + 1)), .ref (base + (t + 5)), .ref (base + (t + 9))]), .inr (2, [.ref (base + (t + 2)), .ref (base + (t + 3)), .ref (base + (t + 4)), .int (imin (5 : Int32) (10 : Int32)), .int (0 : Int32)]), .inl (D.2 0, (10, .inl (fun _ => 0))), .inl (D.2 0, (10, .inl (fun _ => 0))), .inl (D.2 0, (10, .inl (fun _ => 0))), .inr (2, [.ref (base + (t + 6)), .ref (base + (t + 7)), .ref (base + (t + 8)), .int (imin (10 : Int32) (10 : Int32)), .int (0 : Int32)]), .inl (D.2 0, (10, .inl (fun _ => 0))), .inl (D.2 0, (10, .inl (fun _ => 0))), .inl (D.2 0, (10, .inl (fun _ => 0))), .inr (2, [.ref (base + (t + 10)), .ref (base + (t + 11)), .ref (base + (t + 12)), .int (imin (8 : Int32) (10 : Int32)), .int (0 : Int32)]), .inl (D.2 0, (10, .inl (fun _ => 0))), .inl (D.2 0, (10, .inl (fun _ => 0))), .inl (D.2 0, (10, .inl (fun _ => 0)))]) 12 105 (gF base) := by
  refine Met.ofW (cc := cX1_init) (maxL := 1) (ret := none) (by decide) rfl ?_
  intro p e s m args below meth c s₁ B hml hv
  obtain ⟨rfl, C0, hG⟩ := c_enter B hml hv
  have hr := B.returns
  have hnm : meth.name = "<init>" := (name_of_methodNamed B.named B.method).1
  have C0 : gC p s m meth c _ cX1_init 1 RX1 D base Z := C0
  have hx := C0.1
  have hb := C0.2.1
  have hl := lv_entry ([.ref (base + (t + 0))]) (n := 1) (Nat.le_of_ble_eq_true rfl)
  rw [lg_entry_eq]
  generalize (lg_sl ([.ref (base + (t + 0))]) ++ List.replicate (1 - (lg_sl ([.ref (base + (t + 0))])).length) Slot.unset).toArray = ls at hl ⊢
  have hl : lv_has ls 1 [(0, .ref (base + (t + 0)))] := hl
  obtain ⟨Q, hQ⟩ : ∃ Q, Q = MQ below (gQC D base t ph [.inr (1, [.ref (base + (t + 1)), .ref (base + (t + 5)), .ref (base + (t + 9))]), .inr (2, [.ref (base + (t + 2)), .ref (base + (t + 3)), .ref (base + (t + 4)), .int (imin (5 : Int32) (10 : Int32)), .int (0 : Int32)]), .inl (D.2 0, (10, .inl (fun _ => 0))), .inl (D.2 0, (10, .inl (fun _ => 0))), .inl (D.2 0, (10, .inl (fun _ => 0))), .inr (2, [.ref (base + (t + 6)), .ref (base + (t + 7)), .ref (base + (t + 8)), .int (imin (10 : Int32) (10 : Int32)), .int (0 : Int32)]), .inl (D.2 0, (10, .inl (fun _ => 0))), .inl (D.2 0, (10, .inl (fun _ => 0))), .inl (D.2 0, (10, .inl (fun _ => 0))), .inr (2, [.ref (base + (t + 10)), .ref (base + (t + 11)), .ref (base + (t + 12)), .int (imin (8 : Int32) (10 : Int32)), .int (0 : Int32)]), .inl (D.2 0, (10, .inl (fun _ => 0))), .inl (D.2 0, (10, .inl (fun _ => 0))), .inl (D.2 0, (10, .inl (fun _ => 0)))]) ([.ref (base + (t + 0))] : List Value).toArray s 12 105 (gF base) := ⟨_, rfl⟩
  rw [← hQ]
  change W p l e (gRm 3 12 105) s m _ below meth c _ _ _ _ _ _
  generalize hlo : ([] : List Loc) = locs at hG ⊢
  refine lv_aload_n hx hb dX1_init_0 rfl (lv_at hl 0 rfl) ?_
  refine c_obj C0 w_215 ob_i ob_c hl.1 dX1_init_1 ⟨Nat.le_of_ble_eq_true rfl, Nat.le_of_ble_eq_true rfl⟩ ?_
  refine lv_aload_n hx hb dX1_init_4 rfl (lv_at hl 0 rfl) ?_
  refine c_new (ci := 2) (N := 5) (fs := [.null, .null, .null, .int 0, .int 0]) C0 hG rfl tyX2 tyX2_ok (by decide +kernel) w_216 w_217 w_106 (Nat.le_of_ble_eq_true rfl) (Nat.le_of_ble_eq_true rfl) dX1_init_5 (fun H hG => ?_)
  have hG : gCH D base s t ph [.inr (1, [.null, .null, .null]), .inr (2, [.null, .null, .null, .int 0, .int 0])] H locs := hG
  change W p l e _ s m _ below meth c H locs 1 5 _ (F0 m _ ls (.ref (base + (t + 1)) :: _))
  refine lv_dup hx hb dX1_init_8 rfl ?_
  refine lv_iconst (v := (5 : Int32)) hx hb dX1_init_9 (by decide) ?_
  refine c_callN (cs := [.inr (1, [.null, .null, .null])]) (e0 := .inr (2, [.null, .null, .null, .int 0, .int 0])) (j := 1) C0 hG rfl (k_X2_init l D base Z (t + 1) (phC ph t [.inr (1, [.null, .null, .null])]) (5 : Int32)) m_X2_init w_219 rfl w_218 ⟨Nat.le_of_ble_eq_true rfl, Nat.le_of_ble_eq_true rfl⟩ rfl hl.1 rfl (Nat.le_of_ble_eq_true rfl) dX1_init_10 ⟨Nat.le_of_ble_eq_true rfl, Nat.le_of_ble_eq_true rfl⟩ (fun H locs hG => ?_)
  have hG : gCH D base s t ph [.inr (1, [.null, .null, .null]), .inr (2, [.ref (base + (t + 2)), .ref (base + (t + 3)), .ref (base + (t + 4)), .int (imin (5 : Int32) (10 : Int32)), .int (0 : Int32)]), .inl (D.2 0, (10, .inl (fun _ => 0))), .inl (D.2 0, (10, .inl (fun _ => 0))), .inl (D.2 0, (10, .inl (fun _ => 0)))] H locs := hG
  change W p l e _ s m _ below meth c H locs 4 35 _ _
  refine c_putF (j := 0) (ty := .object "GossipTrain$Rows") C0 hG rfl rfl 0 (by decide) (Nat.le_of_ble_eq_true rfl) w_245 rfl hnm rfl (by decide) rfl rfl dX1_init_13 (fun H locs hG => ?_)
  have hG : gCH D base s t ph [.inr (1, [.ref (base + (t + 1)), .null, .null]), .inr (2, [.ref (base + (t + 2)), .ref (base + (t + 3)), .ref (base + (t + 4)), .int (imin (5 : Int32) (10 : Int32)), .int (0 : Int32)]), .inl (D.2 0, (10, .inl (fun _ => 0))), .inl (D.2 0, (10, .inl (fun _ => 0))), .inl (D.2 0, (10, .inl (fun _ => 0)))] H locs := hG
  refine lv_aload_n hx hb dX1_init_16 rfl (lv_at hl 0 rfl) ?_
  refine c_new (ci := 2) (N := 5) (fs := [.null, .null, .null, .int 0, .int 0]) C0 hG rfl tyX2 tyX2_ok (by decide +kernel) w_216 w_217 w_106 (Nat.le_of_ble_eq_true rfl) (Nat.le_of_ble_eq_true rfl) dX1_init_17 (fun H hG => ?_)
  have hG : gCH D base s t ph [.inr (1, [.ref (base + (t + 1)), .null, .null]), .inr (2, [.ref (base + (t + 2)), .ref (base + (t + 3)), .ref (base + (t + 4)), .int (imin (5 : Int32) (10 : Int32)), .int (0 : Int32)]), .inl (D.2 0, (10, .inl (fun _ => 0))), .inl (D.2 0, (10, .inl (fun _ => 0))), .inl (D.2 0, (10, .inl (fun _ => 0))), .inr (2, [.null, .null, .null, .int 0, .int 0])] H locs := hG
  change W p l e _ s m _ below meth c H locs 5 40 _ (F0 m _ ls (.ref (base + (t + 5)) :: _))
  refine lv_dup hx hb dX1_init_20 rfl ?_
  refine lv_bipush (v := (10 : Int32)) hx hb dX1_init_21 (by decide) ?_
  refine c_callN (cs := [.inr (1, [.ref (base + (t + 1)), .null, .null]), .inr (2, [.ref (base + (t + 2)), .ref (base + (t + 3)), .ref (base + (t + 4)), .int (imin (5 : Int32) (10 : Int32)), .int (0 : Int32)]), .inl (D.2 0, (10, .inl (fun _ => 0))), .inl (D.2 0, (10, .inl (fun _ => 0))), .inl (D.2 0, (10, .inl (fun _ => 0)))]) (e0 := .inr (2, [.null, .null, .null, .int 0, .int 0])) (j := 5) C0 hG rfl (k_X2_init l D base Z (t + 5) (phC ph t [.inr (1, [.ref (base + (t + 1)), .null, .null]), .inr (2, [.ref (base + (t + 2)), .ref (base + (t + 3)), .ref (base + (t + 4)), .int (imin (5 : Int32) (10 : Int32)), .int (0 : Int32)]), .inl (D.2 0, (10, .inl (fun _ => 0))), .inl (D.2 0, (10, .inl (fun _ => 0))), .inl (D.2 0, (10, .inl (fun _ => 0)))]) (10 : Int32)) m_X2_init w_219 rfl w_218 ⟨Nat.le_of_ble_eq_true rfl, Nat.le_of_ble_eq_true rfl⟩ rfl hl.1 rfl (Nat.le_of_ble_eq_true rfl) dX1_init_23 ⟨Nat.le_of_ble_eq_true rfl, Nat.le_of_ble_eq_true rfl⟩ (fun H locs hG => ?_)
  have hG : gCH D base s t ph [.inr (1, [.ref (base + (t + 1)), .null, .null]), .inr (2, [.ref (base + (t + 2)), .ref (base + (t + 3)), .ref (base + (t + 4)), .int (imin (5 : Int32) (10 : Int32)), .int (0 : Int32)]), .inl (D.2 0, (10, .inl (fun _ => 0))), .inl (D.2 0, (10, .inl (fun _ => 0))), .inl (D.2 0, (10, .inl (fun _ => 0))), .inr (2, [.ref (base + (t + 6)), .ref (base + (t + 7)), .ref (base + (t + 8)), .int (imin (10 : Int32) (10 : Int32)), .int (0 : Int32)]), .inl (D.2 0, (10, .inl (fun _ => 0))), .inl (D.2 0, (10, .inl (fun _ => 0))), .inl (D.2 0, (10, .inl (fun _ => 0)))] H locs := hG
  change W p l e _ s m _ below meth c H locs 8 70 _ _
  refine c_putF (j := 0) (ty := .object "GossipTrain$Rows") C0 hG rfl rfl 1 (by decide) (Nat.le_of_ble_eq_true rfl) w_247 rfl hnm rfl (by decide) rfl rfl dX1_init_26 (fun H locs hG => ?_)
  have hG : gCH D base s t ph [.inr (1, [.ref (base + (t + 1)), .ref (base + (t + 5)), .null]), .inr (2, [.ref (base + (t + 2)), .ref (base + (t + 3)), .ref (base + (t + 4)), .int (imin (5 : Int32) (10 : Int32)), .int (0 : Int32)]), .inl (D.2 0, (10, .inl (fun _ => 0))), .inl (D.2 0, (10, .inl (fun _ => 0))), .inl (D.2 0, (10, .inl (fun _ => 0))), .inr (2, [.ref (base + (t + 6)), .ref (base + (t + 7)), .ref (base + (t + 8)), .int (imin (10 : Int32) (10 : Int32)), .int (0 : Int32)]), .inl (D.2 0, (10, .inl (fun _ => 0))), .inl (D.2 0, (10, .inl (fun _ => 0))), .inl (D.2 0, (10, .inl (fun _ => 0)))] H locs := hG
  refine lv_aload_n hx hb dX1_init_29 rfl (lv_at hl 0 rfl) ?_
  refine c_new (ci := 2) (N := 5) (fs := [.null, .null, .null, .int 0, .int 0]) C0 hG rfl tyX2 tyX2_ok (by decide +kernel) w_216 w_217 w_106 (Nat.le_of_ble_eq_true rfl) (Nat.le_of_ble_eq_true rfl) dX1_init_30 (fun H hG => ?_)
  have hG : gCH D base s t ph [.inr (1, [.ref (base + (t + 1)), .ref (base + (t + 5)), .null]), .inr (2, [.ref (base + (t + 2)), .ref (base + (t + 3)), .ref (base + (t + 4)), .int (imin (5 : Int32) (10 : Int32)), .int (0 : Int32)]), .inl (D.2 0, (10, .inl (fun _ => 0))), .inl (D.2 0, (10, .inl (fun _ => 0))), .inl (D.2 0, (10, .inl (fun _ => 0))), .inr (2, [.ref (base + (t + 6)), .ref (base + (t + 7)), .ref (base + (t + 8)), .int (imin (10 : Int32) (10 : Int32)), .int (0 : Int32)]), .inl (D.2 0, (10, .inl (fun _ => 0))), .inl (D.2 0, (10, .inl (fun _ => 0))), .inl (D.2 0, (10, .inl (fun _ => 0))), .inr (2, [.null, .null, .null, .int 0, .int 0])] H locs := hG
  change W p l e _ s m _ below meth c H locs 9 75 _ (F0 m _ ls (.ref (base + (t + 9)) :: _))
  refine lv_dup hx hb dX1_init_33 rfl ?_
  refine lv_bipush (v := (8 : Int32)) hx hb dX1_init_34 (by decide) ?_
  refine c_callN (cs := [.inr (1, [.ref (base + (t + 1)), .ref (base + (t + 5)), .null]), .inr (2, [.ref (base + (t + 2)), .ref (base + (t + 3)), .ref (base + (t + 4)), .int (imin (5 : Int32) (10 : Int32)), .int (0 : Int32)]), .inl (D.2 0, (10, .inl (fun _ => 0))), .inl (D.2 0, (10, .inl (fun _ => 0))), .inl (D.2 0, (10, .inl (fun _ => 0))), .inr (2, [.ref (base + (t + 6)), .ref (base + (t + 7)), .ref (base + (t + 8)), .int (imin (10 : Int32) (10 : Int32)), .int (0 : Int32)]), .inl (D.2 0, (10, .inl (fun _ => 0))), .inl (D.2 0, (10, .inl (fun _ => 0))), .inl (D.2 0, (10, .inl (fun _ => 0)))]) (e0 := .inr (2, [.null, .null, .null, .int 0, .int 0])) (j := 9) C0 hG rfl (k_X2_init l D base Z (t + 9) (phC ph t [.inr (1, [.ref (base + (t + 1)), .ref (base + (t + 5)), .null]), .inr (2, [.ref (base + (t + 2)), .ref (base + (t + 3)), .ref (base + (t + 4)), .int (imin (5 : Int32) (10 : Int32)), .int (0 : Int32)]), .inl (D.2 0, (10, .inl (fun _ => 0))), .inl (D.2 0, (10, .inl (fun _ => 0))), .inl (D.2 0, (10, .inl (fun _ => 0))), .inr (2, [.ref (base + (t + 6)), .ref (base + (t + 7)), .ref (base + (t + 8)), .int (imin (10 : Int32) (10 : Int32)), .int (0 : Int32)]), .inl (D.2 0, (10, .inl (fun _ => 0))), .inl (D.2 0, (10, .inl (fun _ => 0))), .inl (D.2 0, (10, .inl (fun _ => 0)))]) (8 : Int32)) m_X2_init w_219 rfl w_218 ⟨Nat.le_of_ble_eq_true rfl, Nat.le_of_ble_eq_true rfl⟩ rfl hl.1 rfl (Nat.le_of_ble_eq_true rfl) dX1_init_36 ⟨Nat.le_of_ble_eq_true rfl, Nat.le_of_ble_eq_true rfl⟩ (fun H locs hG => ?_)
  have hG : gCH D base s t ph [.inr (1, [.ref (base + (t + 1)), .ref (base + (t + 5)), .null]), .inr (2, [.ref (base + (t + 2)), .ref (base + (t + 3)), .ref (base + (t + 4)), .int (imin (5 : Int32) (10 : Int32)), .int (0 : Int32)]), .inl (D.2 0, (10, .inl (fun _ => 0))), .inl (D.2 0, (10, .inl (fun _ => 0))), .inl (D.2 0, (10, .inl (fun _ => 0))), .inr (2, [.ref (base + (t + 6)), .ref (base + (t + 7)), .ref (base + (t + 8)), .int (imin (10 : Int32) (10 : Int32)), .int (0 : Int32)]), .inl (D.2 0, (10, .inl (fun _ => 0))), .inl (D.2 0, (10, .inl (fun _ => 0))), .inl (D.2 0, (10, .inl (fun _ => 0))), .inr (2, [.ref (base + (t + 10)), .ref (base + (t + 11)), .ref (base + (t + 12)), .int (imin (8 : Int32) (10 : Int32)), .int (0 : Int32)]), .inl (D.2 0, (10, .inl (fun _ => 0))), .inl (D.2 0, (10, .inl (fun _ => 0))), .inl (D.2 0, (10, .inl (fun _ => 0)))] H locs := hG
  change W p l e _ s m _ below meth c H locs 12 105 _ _
  refine c_putF (j := 0) (ty := .object "GossipTrain$Rows") C0 hG rfl rfl 2 (by decide) (Nat.le_of_ble_eq_true rfl) w_249 rfl hnm rfl (by decide) rfl rfl dX1_init_39 (fun H locs hG => ?_)
  have hG : gCH D base s t ph [.inr (1, [.ref (base + (t + 1)), .ref (base + (t + 5)), .ref (base + (t + 9))]), .inr (2, [.ref (base + (t + 2)), .ref (base + (t + 3)), .ref (base + (t + 4)), .int (imin (5 : Int32) (10 : Int32)), .int (0 : Int32)]), .inl (D.2 0, (10, .inl (fun _ => 0))), .inl (D.2 0, (10, .inl (fun _ => 0))), .inl (D.2 0, (10, .inl (fun _ => 0))), .inr (2, [.ref (base + (t + 6)), .ref (base + (t + 7)), .ref (base + (t + 8)), .int (imin (10 : Int32) (10 : Int32)), .int (0 : Int32)]), .inl (D.2 0, (10, .inl (fun _ => 0))), .inl (D.2 0, (10, .inl (fun _ => 0))), .inl (D.2 0, (10, .inl (fun _ => 0))), .inr (2, [.ref (base + (t + 10)), .ref (base + (t + 11)), .ref (base + (t + 12)), .int (imin (8 : Int32) (10 : Int32)), .int (0 : Int32)]), .inl (D.2 0, (10, .inl (fun _ => 0))), .inl (D.2 0, (10, .inl (fun _ => 0))), .inl (D.2 0, (10, .inl (fun _ => 0)))] H locs := hG
  subst hQ
  exact c_ret C0 hG hr dX1_init_42
theorem dX3_init_0 : decode cX3_init 0 = .ok (.aload_n 0, 1) := by decide +kernel
theorem dX3_init_1 : decode cX3_init 1 = .ok (.invokespecial 3, 3) := by decide +kernel
theorem dX3_init_4 : decode cX3_init 4 = .ok (.aload_n 0, 1) := by decide +kernel
theorem dX3_init_5 : decode cX3_init 5 = .ok (.bipush 100, 2) := by decide +kernel
theorem dX3_init_7 : decode cX3_init 7 = .ok (.newarray .int, 2) := by decide +kernel
theorem dX3_init_9 : decode cX3_init 9 = .ok (.putfield 9, 3) := by decide +kernel
theorem dX3_init_12 : decode cX3_init 12 = .ok (.aload_n 0, 1) := by decide +kernel
theorem dX3_init_13 : decode cX3_init 13 = .ok (.iconst 0, 1) := by decide +kernel
theorem dX3_init_14 : decode cX3_init 14 = .ok (.putfield 15, 3) := by decide +kernel
theorem dX3_init_17 : decode cX3_init 17 = .ok (.aload_n 0, 1) := by decide +kernel
theorem dX3_init_18 : decode cX3_init 18 = .ok (.iconst 0, 1) := by decide +kernel
theorem dX3_init_19 : decode cX3_init 19 = .ok (.putfield 19, 3) := by decide +kernel
theorem dX3_init_22 : decode cX3_init 22 = .ok (.aload_n 0, 1) := by decide +kernel
theorem dX3_init_23 : decode cX3_init 23 = .ok (.new 22, 3) := by decide +kernel
theorem dX3_init_26 : decode cX3_init 26 = .ok (.dup, 1) := by decide +kernel
theorem dX3_init_27 : decode cX3_init 27 = .ok (.invokespecial 24, 3) := by decide +kernel
theorem dX3_init_30 : decode cX3_init 30 = .ok (.putfield 25, 3) := by decide +kernel
theorem dX3_init_33 : decode cX3_init 33 = .ok (.return_, 1) := by decide +kernel
set_option maxHeartbeats 8000000 in
set_option maxRecDepth 100000 in
theorem k_X3_init (l : Launch) (D : gDt) (base : Nat) (Z : gZt) (t : Nat) (ph : Nat → va_E) : Met l yX3_init (gws yX3_init cX3_init 1 none) (gRm 3 3 203) (gPcC D base Z t ph [.inr (3, [.null, .int 0, .int 0, .null])] [.ref (base + (t + 0))]) (gQC D base t ph [.inr (3, [.ref (base + (t + 1)), .int (0 : Int32), .int (0 : Int32), .ref (base + (t + 2))]), .inl (D.2 0, (100, .inl (fun _ => 0))), .inr (0, [.ref (base + (t + 3)), .int (0 : Int32), .int (5 : Int32)]), .inl (D.2 0, (100, .inl (fun _ => 0)))]) 3 203 (gF base) := by
  refine Met.ofW (cc := cX3_init) (maxL := 1) (ret := none) (by decide) rfl ?_
  intro p e s m args below meth c s₁ B hml hv
  obtain ⟨rfl, C0, hG⟩ := c_enter B hml hv
  have hr := B.returns
  have hnm : meth.name = "<init>" := (name_of_methodNamed B.named B.method).1
  have C0 : gC p s m meth c _ cX3_init 1 RX3 D base Z := C0
  have hx := C0.1
  have hb := C0.2.1
  have hl := lv_entry ([.ref (base + (t + 0))]) (n := 1) (Nat.le_of_ble_eq_true rfl)
  rw [lg_entry_eq]
  generalize (lg_sl ([.ref (base + (t + 0))]) ++ List.replicate (1 - (lg_sl ([.ref (base + (t + 0))])).length) Slot.unset).toArray = ls at hl ⊢
  have hl : lv_has ls 1 [(0, .ref (base + (t + 0)))] := hl
  obtain ⟨Q, hQ⟩ : ∃ Q, Q = MQ below (gQC D base t ph [.inr (3, [.ref (base + (t + 1)), .int (0 : Int32), .int (0 : Int32), .ref (base + (t + 2))]), .inl (D.2 0, (100, .inl (fun _ => 0))), .inr (0, [.ref (base + (t + 3)), .int (0 : Int32), .int (5 : Int32)]), .inl (D.2 0, (100, .inl (fun _ => 0)))]) ([.ref (base + (t + 0))] : List Value).toArray s 3 203 (gF base) := ⟨_, rfl⟩
  rw [← hQ]
  change W p l e (gRm 3 3 203) s m _ below meth c _ _ _ _ _ _
  generalize hlo : ([] : List Loc) = locs at hG ⊢
  refine lv_aload_n hx hb dX3_init_0 rfl (lv_at hl 0 rfl) ?_
  refine c_obj C0 w_263 ob_i ob_c hl.1 dX3_init_1 ⟨Nat.le_of_ble_eq_true rfl, Nat.le_of_ble_eq_true rfl⟩ ?_
  refine lv_aload_n hx hb dX3_init_4 rfl (lv_at hl 0 rfl) ?_
  refine lv_bipush (v := (100 : Int32)) hx hb dX3_init_5 (by decide) ?_
  refine c_newa (ty := .int) (i := 0) (N := 100) (a0 := (100, .inl (fun _ => 0))) C0 hG rfl rfl rfl (fun _ => rfl) (by decide) (by decide) (by decide) w_152 (Nat.le_of_ble_eq_true rfl) (Nat.le_of_ble_eq_true rfl) dX3_init_7 (fun H hG => ?_)
  have hG : gCH D base s t ph [.inr (3, [.null, .int 0, .int 0, .null]), .inl (D.2 0, (100, .inl (fun _ => 0)))] H locs := hG
  change W p l e _ s m _ below meth c H locs 1 100 _ (F0 m _ ls (.ref (base + (t + 1)) :: _))
  refine c_putF (j := 0) (ty := .array .int) C0 hG rfl rfl 0 (by decide) (Nat.le_of_ble_eq_true rfl) w_266 rfl hnm rfl (by decide) rfl rfl dX3_init_9 (fun H locs hG => ?_)
  have hG : gCH D base s t ph [.inr (3, [.ref (base + (t + 1)), .int 0, .int 0, .null]), .inl (D.2 0, (100, .inl (fun _ => 0)))] H locs := hG
  refine lv_aload_n hx hb dX3_init_12 rfl (lv_at hl 0 rfl) ?_
  refine lv_iconst (v := (0 : Int32)) hx hb dX3_init_13 (by decide) ?_
  refine c_put (j := 0) (ty := .int) C0 hG rfl rfl 1 (by decide) (Nat.le_of_ble_eq_true rfl) w_267 rfl (by decide) rfl rfl dX3_init_14 (fun H locs hG => ?_)
  have hG : gCH D base s t ph [.inr (3, [.ref (base + (t + 1)), .int (0 : Int32), .int 0, .null]), .inl (D.2 0, (100, .inl (fun _ => 0)))] H locs := hG
  refine lv_aload_n hx hb dX3_init_17 rfl (lv_at hl 0 rfl) ?_
  refine lv_iconst (v := (0 : Int32)) hx hb dX3_init_18 (by decide) ?_
  refine c_put (j := 0) (ty := .int) C0 hG rfl rfl 2 (by decide) (Nat.le_of_ble_eq_true rfl) w_269 rfl (by decide) rfl rfl dX3_init_19 (fun H locs hG => ?_)
  have hG : gCH D base s t ph [.inr (3, [.ref (base + (t + 1)), .int (0 : Int32), .int (0 : Int32), .null]), .inl (D.2 0, (100, .inl (fun _ => 0)))] H locs := hG
  refine lv_aload_n hx hb dX3_init_22 rfl (lv_at hl 0 rfl) ?_
  refine c_new (ci := 0) (N := 3) (fs := [.null, .int 0, .int 0]) C0 hG rfl tyX0 tyX0_ok (by decide +kernel) w_264 w_134 w_104 (Nat.le_of_ble_eq_true rfl) (Nat.le_of_ble_eq_true rfl) dX3_init_23 (fun H hG => ?_)
  have hG : gCH D base s t ph [.inr (3, [.ref (base + (t + 1)), .int (0 : Int32), .int (0 : Int32), .null]), .inl (D.2 0, (100, .inl (fun _ => 0))), .inr (0, [.null, .int 0, .int 0])] H locs := hG
  change W p l e _ s m _ below meth c H locs 2 103 _ (F0 m _ ls (.ref (base + (t + 2)) :: _))
  refine lv_dup hx hb dX3_init_26 rfl ?_
  refine c_callN (cs := [.inr (3, [.ref (base + (t + 1)), .int (0 : Int32), .int (0 : Int32), .null]), .inl (D.2 0, (100, .inl (fun _ => 0)))]) (e0 := .inr (0, [.null, .int 0, .int 0])) (j := 2) C0 hG rfl (k_X0_init l D base Z (t + 2) (phC ph t [.inr (3, [.ref (base + (t + 1)), .int (0 : Int32), .int (0 : Int32), .null]), .inl (D.2 0, (100, .inl (fun _ => 0)))])) m_X0_init w_136 rfl w_265 ⟨Nat.le_of_ble_eq_true rfl, Nat.le_of_ble_eq_true rfl⟩ rfl hl.1 rfl (Nat.le_of_ble_eq_true rfl) dX3_init_27 ⟨Nat.le_of_ble_eq_true rfl, Nat.le_of_ble_eq_true rfl⟩ (fun H locs hG => ?_)
  have hG : gCH D base s t ph [.inr (3, [.ref (base + (t + 1)), .int (0 : Int32), .int (0 : Int32), .null]), .inl (D.2 0, (100, .inl (fun _ => 0))), .inr (0, [.ref (base + (t + 3)), .int (0 : Int32), .int (5 : Int32)]), .inl (D.2 0, (100, .inl (fun _ => 0)))] H locs := hG
  change W p l e _ s m _ below meth c H locs 3 203 _ _
  refine c_put (j := 0) (ty := .object "GossipTrain$Branch") C0 hG rfl rfl 3 (by decide) (Nat.le_of_ble_eq_true rfl) w_271 rfl (by decide) rfl rfl dX3_init_30 (fun H locs hG => ?_)
  have hG : gCH D base s t ph [.inr (3, [.ref (base + (t + 1)), .int (0 : Int32), .int (0 : Int32), .ref (base + (t + 2))]), .inl (D.2 0, (100, .inl (fun _ => 0))), .inr (0, [.ref (base + (t + 3)), .int (0 : Int32), .int (5 : Int32)]), .inl (D.2 0, (100, .inl (fun _ => 0)))] H locs := hG
  subst hQ
  exact c_ret C0 hG hr dX3_init_33
theorem dX4_init_0 : decode cX4_init 0 = .ok (.aload_n 0, 1) := by decide +kernel
theorem dX4_init_1 : decode cX4_init 1 = .ok (.invokespecial 3, 3) := by decide +kernel
theorem dX4_init_4 : decode cX4_init 4 = .ok (.aload_n 0, 1) := by decide +kernel
theorem dX4_init_5 : decode cX4_init 5 = .ok (.bipush 20, 2) := by decide +kernel
theorem dX4_init_7 : decode cX4_init 7 = .ok (.newarray .int, 2) := by decide +kernel
theorem dX4_init_9 : decode cX4_init 9 = .ok (.putfield 9, 3) := by decide +kernel
theorem dX4_init_12 : decode cX4_init 12 = .ok (.aload_n 0, 1) := by decide +kernel
theorem dX4_init_13 : decode cX4_init 13 = .ok (.iconst 0, 1) := by decide +kernel
theorem dX4_init_14 : decode cX4_init 14 = .ok (.putfield 15, 3) := by decide +kernel
theorem dX4_init_17 : decode cX4_init 17 = .ok (.aload_n 0, 1) := by decide +kernel
theorem dX4_init_18 : decode cX4_init 18 = .ok (.iconst 0, 1) := by decide +kernel
theorem dX4_init_19 : decode cX4_init 19 = .ok (.putfield 19, 3) := by decide +kernel
theorem dX4_init_22 : decode cX4_init 22 = .ok (.aload_n 0, 1) := by decide +kernel
theorem dX4_init_23 : decode cX4_init 23 = .ok (.iconst 0, 1) := by decide +kernel
theorem dX4_init_24 : decode cX4_init 24 = .ok (.putfield 22, 3) := by decide +kernel
theorem dX4_init_27 : decode cX4_init 27 = .ok (.aload_n 0, 1) := by decide +kernel
theorem dX4_init_28 : decode cX4_init 28 = .ok (.iconst 0, 1) := by decide +kernel
theorem dX4_init_29 : decode cX4_init 29 = .ok (.putfield 25, 3) := by decide +kernel
theorem dX4_init_32 : decode cX4_init 32 = .ok (.return_, 1) := by decide +kernel
set_option maxHeartbeats 8000000 in
set_option maxRecDepth 100000 in
theorem k_X4_init (l : Launch) (D : gDt) (base : Nat) (Z : gZt) (t : Nat) (ph : Nat → va_E) : Met l yX4_init (gws yX4_init cX4_init 1 none) (gRm 2 1 20) (gPcC D base Z t ph [.inr (4, [.null, .int 0, .int 0, .int 0, .int 0])] [.ref (base + (t + 0))]) (gQC D base t ph [.inr (4, [.ref (base + (t + 1)), .int (0 : Int32), .int (0 : Int32), .int (0 : Int32), .int (0 : Int32)]), .inl (D.2 0, (20, .inl (fun _ => 0)))]) 1 20 (gF base) := by
  refine Met.ofW (cc := cX4_init) (maxL := 1) (ret := none) (by decide) rfl ?_
  intro p e s m args below meth c s₁ B hml hv
  obtain ⟨rfl, C0, hG⟩ := c_enter B hml hv
  have hr := B.returns
  have hnm : meth.name = "<init>" := (name_of_methodNamed B.named B.method).1
  have C0 : gC p s m meth c _ cX4_init 1 RX4 D base Z := C0
  have hx := C0.1
  have hb := C0.2.1
  have hl := lv_entry ([.ref (base + (t + 0))]) (n := 1) (Nat.le_of_ble_eq_true rfl)
  rw [lg_entry_eq]
  generalize (lg_sl ([.ref (base + (t + 0))]) ++ List.replicate (1 - (lg_sl ([.ref (base + (t + 0))])).length) Slot.unset).toArray = ls at hl ⊢
  have hl : lv_has ls 1 [(0, .ref (base + (t + 0)))] := hl
  obtain ⟨Q, hQ⟩ : ∃ Q, Q = MQ below (gQC D base t ph [.inr (4, [.ref (base + (t + 1)), .int (0 : Int32), .int (0 : Int32), .int (0 : Int32), .int (0 : Int32)]), .inl (D.2 0, (20, .inl (fun _ => 0)))]) ([.ref (base + (t + 0))] : List Value).toArray s 1 20 (gF base) := ⟨_, rfl⟩
  rw [← hQ]
  change W p l e (gRm 2 1 20) s m _ below meth c _ _ _ _ _ _
  generalize hlo : ([] : List Loc) = locs at hG ⊢
  refine lv_aload_n hx hb dX4_init_0 rfl (lv_at hl 0 rfl) ?_
  refine c_obj C0 w_286 ob_i ob_c hl.1 dX4_init_1 ⟨Nat.le_of_ble_eq_true rfl, Nat.le_of_ble_eq_true rfl⟩ ?_
  refine lv_aload_n hx hb dX4_init_4 rfl (lv_at hl 0 rfl) ?_
  refine lv_bipush (v := (20 : Int32)) hx hb dX4_init_5 (by decide) ?_
  refine c_newa (ty := .int) (i := 0) (N := 20) (a0 := (20, .inl (fun _ => 0))) C0 hG rfl rfl rfl (fun _ => rfl) (by decide) (by decide) (by decide) w_152 (Nat.le_of_ble_eq_true rfl) (Nat.le_of_ble_eq_true rfl) dX4_init_7 (fun H hG => ?_)
  have hG : gCH D base s t ph [.inr (4, [.null, .int 0, .int 0, .int 0, .int 0]), .inl (D.2 0, (20, .inl (fun _ => 0)))] H locs := hG
  change W p l e _ s m _ below meth c H locs 1 20 _ (F0 m _ ls (.ref (base + (t + 1)) :: _))
  refine c_putF (j := 0) (ty := .array .int) C0 hG rfl rfl 0 (by decide) (Nat.le_of_ble_eq_true rfl) w_287 rfl hnm rfl (by decide) rfl rfl dX4_init_9 (fun H locs hG => ?_)
  have hG : gCH D base s t ph [.inr (4, [.ref (base + (t + 1)), .int 0, .int 0, .int 0, .int 0]), .inl (D.2 0, (20, .inl (fun _ => 0)))] H locs := hG
  refine lv_aload_n hx hb dX4_init_12 rfl (lv_at hl 0 rfl) ?_
  refine lv_iconst (v := (0 : Int32)) hx hb dX4_init_13 (by decide) ?_
  refine c_put (j := 0) (ty := .int) C0 hG rfl rfl 1 (by decide) (Nat.le_of_ble_eq_true rfl) w_289 rfl (by decide) rfl rfl dX4_init_14 (fun H locs hG => ?_)
  have hG : gCH D base s t ph [.inr (4, [.ref (base + (t + 1)), .int (0 : Int32), .int 0, .int 0, .int 0]), .inl (D.2 0, (20, .inl (fun _ => 0)))] H locs := hG
  refine lv_aload_n hx hb dX4_init_17 rfl (lv_at hl 0 rfl) ?_
  refine lv_iconst (v := (0 : Int32)) hx hb dX4_init_18 (by decide) ?_
  refine c_put (j := 0) (ty := .int) C0 hG rfl rfl 2 (by decide) (Nat.le_of_ble_eq_true rfl) w_291 rfl (by decide) rfl rfl dX4_init_19 (fun H locs hG => ?_)
  have hG : gCH D base s t ph [.inr (4, [.ref (base + (t + 1)), .int (0 : Int32), .int (0 : Int32), .int 0, .int 0]), .inl (D.2 0, (20, .inl (fun _ => 0)))] H locs := hG
  refine lv_aload_n hx hb dX4_init_22 rfl (lv_at hl 0 rfl) ?_
  refine lv_iconst (v := (0 : Int32)) hx hb dX4_init_23 (by decide) ?_
  refine c_put (j := 0) (ty := .int) C0 hG rfl rfl 3 (by decide) (Nat.le_of_ble_eq_true rfl) w_293 rfl (by decide) rfl rfl dX4_init_24 (fun H locs hG => ?_)
  have hG : gCH D base s t ph [.inr (4, [.ref (base + (t + 1)), .int (0 : Int32), .int (0 : Int32), .int (0 : Int32), .int 0]), .inl (D.2 0, (20, .inl (fun _ => 0)))] H locs := hG
  refine lv_aload_n hx hb dX4_init_27 rfl (lv_at hl 0 rfl) ?_
  refine lv_iconst (v := (0 : Int32)) hx hb dX4_init_28 (by decide) ?_
  refine c_put (j := 0) (ty := .int) C0 hG rfl rfl 4 (by decide) (Nat.le_of_ble_eq_true rfl) w_295 rfl (by decide) rfl rfl dX4_init_29 (fun H locs hG => ?_)
  have hG : gCH D base s t ph [.inr (4, [.ref (base + (t + 1)), .int (0 : Int32), .int (0 : Int32), .int (0 : Int32), .int (0 : Int32)]), .inl (D.2 0, (20, .inl (fun _ => 0)))] H locs := hG
  subst hQ
  exact c_ret C0 hG hr dX4_init_32
theorem dX5_init_0 : decode cX5_init 0 = .ok (.aload_n 0, 1) := by decide +kernel
theorem dX5_init_1 : decode cX5_init 1 = .ok (.invokespecial 3, 3) := by decide +kernel
theorem dX5_init_4 : decode cX5_init 4 = .ok (.aload_n 0, 1) := by decide +kernel
theorem dX5_init_5 : decode cX5_init 5 = .ok (.bipush 60, 2) := by decide +kernel
theorem dX5_init_7 : decode cX5_init 7 = .ok (.newarray .long, 2) := by decide +kernel
theorem dX5_init_9 : decode cX5_init 9 = .ok (.putfield 9, 3) := by decide +kernel
theorem dX5_init_12 : decode cX5_init 12 = .ok (.aload_n 0, 1) := by decide +kernel
theorem dX5_init_13 : decode cX5_init 13 = .ok (.iconst (-1), 1) := by decide +kernel
theorem dX5_init_14 : decode cX5_init 14 = .ok (.putfield 15, 3) := by decide +kernel
theorem dX5_init_17 : decode cX5_init 17 = .ok (.aload_n 0, 1) := by decide +kernel
theorem dX5_init_18 : decode cX5_init 18 = .ok (.iconst 0, 1) := by decide +kernel
theorem dX5_init_19 : decode cX5_init 19 = .ok (.putfield 19, 3) := by decide +kernel
theorem dX5_init_22 : decode cX5_init 22 = .ok (.return_, 1) := by decide +kernel
set_option maxHeartbeats 8000000 in
set_option maxRecDepth 100000 in
theorem k_X5_init (l : Launch) (D : gDt) (base : Nat) (Z : gZt) (t : Nat) (ph : Nat → va_E) : Met l yX5_init (gws yX5_init cX5_init 1 none) (gRm 2 1 60) (gPcC D base Z t ph [.inr (5, [.null, .int 0, .int 0])] [.ref (base + (t + 0))]) (gQC D base t ph [.inr (5, [.ref (base + (t + 1)), .int (-1 : Int32), .int (0 : Int32)]), .inl (D.2 2, (60, .inr (.inl (fun _ => 0))))]) 1 60 (gF base) := by
  refine Met.ofW (cc := cX5_init) (maxL := 1) (ret := none) (by decide) rfl ?_
  intro p e s m args below meth c s₁ B hml hv
  obtain ⟨rfl, C0, hG⟩ := c_enter B hml hv
  have hr := B.returns
  have hnm : meth.name = "<init>" := (name_of_methodNamed B.named B.method).1
  have C0 : gC p s m meth c _ cX5_init 1 RX5 D base Z := C0
  have hx := C0.1
  have hb := C0.2.1
  have hl := lv_entry ([.ref (base + (t + 0))]) (n := 1) (Nat.le_of_ble_eq_true rfl)
  rw [lg_entry_eq]
  generalize (lg_sl ([.ref (base + (t + 0))]) ++ List.replicate (1 - (lg_sl ([.ref (base + (t + 0))])).length) Slot.unset).toArray = ls at hl ⊢
  have hl : lv_has ls 1 [(0, .ref (base + (t + 0)))] := hl
  obtain ⟨Q, hQ⟩ : ∃ Q, Q = MQ below (gQC D base t ph [.inr (5, [.ref (base + (t + 1)), .int (-1 : Int32), .int (0 : Int32)]), .inl (D.2 2, (60, .inr (.inl (fun _ => 0))))]) ([.ref (base + (t + 0))] : List Value).toArray s 1 60 (gF base) := ⟨_, rfl⟩
  rw [← hQ]
  change W p l e (gRm 2 1 60) s m _ below meth c _ _ _ _ _ _
  generalize hlo : ([] : List Loc) = locs at hG ⊢
  refine lv_aload_n hx hb dX5_init_0 rfl (lv_at hl 0 rfl) ?_
  refine c_obj C0 w_314 ob_i ob_c hl.1 dX5_init_1 ⟨Nat.le_of_ble_eq_true rfl, Nat.le_of_ble_eq_true rfl⟩ ?_
  refine lv_aload_n hx hb dX5_init_4 rfl (lv_at hl 0 rfl) ?_
  refine lv_bipush (v := (60 : Int32)) hx hb dX5_init_5 (by decide) ?_
  refine c_newa (ty := .long) (i := 2) (N := 60) (a0 := (60, .inr (.inl (fun _ => 0)))) C0 hG rfl rfl rfl (fun _ => rfl) (by decide) (by decide) (by decide) w_328 (Nat.le_of_ble_eq_true rfl) (Nat.le_of_ble_eq_true rfl) dX5_init_7 (fun H hG => ?_)
  have hG : gCH D base s t ph [.inr (5, [.null, .int 0, .int 0]), .inl (D.2 2, (60, .inr (.inl (fun _ => 0))))] H locs := hG
  change W p l e _ s m _ below meth c H locs 1 60 _ (F0 m _ ls (.ref (base + (t + 1)) :: _))
  refine c_putF (j := 0) (ty := .array .long) C0 hG rfl rfl 0 (by decide) (Nat.le_of_ble_eq_true rfl) w_315 rfl hnm rfl (by decide) rfl rfl dX5_init_9 (fun H locs hG => ?_)
  have hG : gCH D base s t ph [.inr (5, [.ref (base + (t + 1)), .int 0, .int 0]), .inl (D.2 2, (60, .inr (.inl (fun _ => 0))))] H locs := hG
  refine lv_aload_n hx hb dX5_init_12 rfl (lv_at hl 0 rfl) ?_
  refine lv_iconst (v := (-1 : Int32)) hx hb dX5_init_13 (by decide) ?_
  refine c_put (j := 0) (ty := .int) C0 hG rfl rfl 1 (by decide) (Nat.le_of_ble_eq_true rfl) w_317 rfl (by decide) rfl rfl dX5_init_14 (fun H locs hG => ?_)
  have hG : gCH D base s t ph [.inr (5, [.ref (base + (t + 1)), .int (-1 : Int32), .int 0]), .inl (D.2 2, (60, .inr (.inl (fun _ => 0))))] H locs := hG
  refine lv_aload_n hx hb dX5_init_17 rfl (lv_at hl 0 rfl) ?_
  refine lv_iconst (v := (0 : Int32)) hx hb dX5_init_18 (by decide) ?_
  refine c_put (j := 0) (ty := .int) C0 hG rfl rfl 2 (by decide) (Nat.le_of_ble_eq_true rfl) w_319 rfl (by decide) rfl rfl dX5_init_19 (fun H locs hG => ?_)
  have hG : gCH D base s t ph [.inr (5, [.ref (base + (t + 1)), .int (-1 : Int32), .int (0 : Int32)]), .inl (D.2 2, (60, .inr (.inl (fun _ => 0))))] H locs := hG
  subst hQ
  exact c_ret C0 hG hr dX5_init_22
theorem dX6_init_0 : decode cX6_init 0 = .ok (.aload_n 0, 1) := by decide +kernel
theorem dX6_init_1 : decode cX6_init 1 = .ok (.invokespecial 3, 3) := by decide +kernel
theorem dX6_init_4 : decode cX6_init 4 = .ok (.aload_n 0, 1) := by decide +kernel
theorem dX6_init_5 : decode cX6_init 5 = .ok (.bipush 8, 2) := by decide +kernel
theorem dX6_init_7 : decode cX6_init 7 = .ok (.newarray .int, 2) := by decide +kernel
theorem dX6_init_9 : decode cX6_init 9 = .ok (.putfield 9, 3) := by decide +kernel
theorem dX6_init_12 : decode cX6_init 12 = .ok (.aload_n 0, 1) := by decide +kernel
theorem dX6_init_13 : decode cX6_init 13 = .ok (.bipush 8, 2) := by decide +kernel
theorem dX6_init_15 : decode cX6_init 15 = .ok (.newarray .int, 2) := by decide +kernel
theorem dX6_init_17 : decode cX6_init 17 = .ok (.putfield 15, 3) := by decide +kernel
theorem dX6_init_20 : decode cX6_init 20 = .ok (.aload_n 0, 1) := by decide +kernel
theorem dX6_init_21 : decode cX6_init 21 = .ok (.bipush 6, 2) := by decide +kernel
theorem dX6_init_23 : decode cX6_init 23 = .ok (.newarray .int, 2) := by decide +kernel
theorem dX6_init_25 : decode cX6_init 25 = .ok (.putfield 18, 3) := by decide +kernel
theorem dX6_init_28 : decode cX6_init 28 = .ok (.aload_n 0, 1) := by decide +kernel
theorem dX6_init_29 : decode cX6_init 29 = .ok (.bipush 6, 2) := by decide +kernel
theorem dX6_init_31 : decode cX6_init 31 = .ok (.newarray .int, 2) := by decide +kernel
theorem dX6_init_33 : decode cX6_init 33 = .ok (.putfield 21, 3) := by decide +kernel
theorem dX6_init_36 : decode cX6_init 36 = .ok (.aload_n 0, 1) := by decide +kernel
theorem dX6_init_37 : decode cX6_init 37 = .ok (.bipush 6, 2) := by decide +kernel
theorem dX6_init_39 : decode cX6_init 39 = .ok (.newarray .int, 2) := by decide +kernel
theorem dX6_init_41 : decode cX6_init 41 = .ok (.putfield 24, 3) := by decide +kernel
theorem dX6_init_44 : decode cX6_init 44 = .ok (.aload_n 0, 1) := by decide +kernel
theorem dX6_init_45 : decode cX6_init 45 = .ok (.bipush 6, 2) := by decide +kernel
theorem dX6_init_47 : decode cX6_init 47 = .ok (.newarray .int, 2) := by decide +kernel
theorem dX6_init_49 : decode cX6_init 49 = .ok (.putfield 27, 3) := by decide +kernel
theorem dX6_init_52 : decode cX6_init 52 = .ok (.aload_n 0, 1) := by decide +kernel
theorem dX6_init_53 : decode cX6_init 53 = .ok (.bipush 6, 2) := by decide +kernel
theorem dX6_init_55 : decode cX6_init 55 = .ok (.newarray .boolean, 2) := by decide +kernel
theorem dX6_init_57 : decode cX6_init 57 = .ok (.putfield 30, 3) := by decide +kernel
theorem dX6_init_60 : decode cX6_init 60 = .ok (.aload_n 0, 1) := by decide +kernel
theorem dX6_init_61 : decode cX6_init 61 = .ok (.bipush 24, 2) := by decide +kernel
theorem dX6_init_63 : decode cX6_init 63 = .ok (.newarray .int, 2) := by decide +kernel
theorem dX6_init_65 : decode cX6_init 65 = .ok (.putfield 34, 3) := by decide +kernel
theorem dX6_init_68 : decode cX6_init 68 = .ok (.aload_n 0, 1) := by decide +kernel
theorem dX6_init_69 : decode cX6_init 69 = .ok (.bipush 6, 2) := by decide +kernel
theorem dX6_init_71 : decode cX6_init 71 = .ok (.newarray .int, 2) := by decide +kernel
theorem dX6_init_73 : decode cX6_init 73 = .ok (.putfield 37, 3) := by decide +kernel
theorem dX6_init_76 : decode cX6_init 76 = .ok (.aload_n 0, 1) := by decide +kernel
theorem dX6_init_77 : decode cX6_init 77 = .ok (.iconst 0, 1) := by decide +kernel
theorem dX6_init_78 : decode cX6_init 78 = .ok (.putfield 40, 3) := by decide +kernel
theorem dX6_init_81 : decode cX6_init 81 = .ok (.aload_n 0, 1) := by decide +kernel
theorem dX6_init_82 : decode cX6_init 82 = .ok (.iconst 0, 1) := by decide +kernel
theorem dX6_init_83 : decode cX6_init 83 = .ok (.putfield 44, 3) := by decide +kernel
theorem dX6_init_86 : decode cX6_init 86 = .ok (.aload_n 0, 1) := by decide +kernel
theorem dX6_init_87 : decode cX6_init 87 = .ok (.iconst 0, 1) := by decide +kernel
theorem dX6_init_88 : decode cX6_init 88 = .ok (.putfield 47, 3) := by decide +kernel
theorem dX6_init_91 : decode cX6_init 91 = .ok (.aload_n 0, 1) := by decide +kernel
theorem dX6_init_92 : decode cX6_init 92 = .ok (.iconst 0, 1) := by decide +kernel
theorem dX6_init_93 : decode cX6_init 93 = .ok (.putfield 50, 3) := by decide +kernel
theorem dX6_init_96 : decode cX6_init 96 = .ok (.aload_n 0, 1) := by decide +kernel
theorem dX6_init_97 : decode cX6_init 97 = .ok (.new 53, 3) := by decide +kernel
theorem dX6_init_100 : decode cX6_init 100 = .ok (.dup, 1) := by decide +kernel
theorem dX6_init_101 : decode cX6_init 101 = .ok (.invokespecial 55, 3) := by decide +kernel
theorem dX6_init_104 : decode cX6_init 104 = .ok (.putfield 56, 3) := by decide +kernel
theorem dX6_init_107 : decode cX6_init 107 = .ok (.iconst 0, 1) := by decide +kernel
theorem dX6_init_108 : decode cX6_init 108 = .ok (.istore_n 1, 1) := by decide +kernel
theorem dX6_init_109 : decode cX6_init 109 = .ok (.iload_n 1, 1) := by decide +kernel
theorem dX6_init_110 : decode cX6_init 110 = .ok (.bipush 8, 2) := by decide +kernel
theorem dX6_init_112 : decode cX6_init 112 = .ok (.if_icmp .ge 16, 3) := by decide +kernel
theorem dX6_init_115 : decode cX6_init 115 = .ok (.aload_n 0, 1) := by decide +kernel
theorem dX6_init_116 : decode cX6_init 116 = .ok (.getfield 9, 3) := by decide +kernel
theorem dX6_init_119 : decode cX6_init 119 = .ok (.iload_n 1, 1) := by decide +kernel
theorem dX6_init_120 : decode cX6_init 120 = .ok (.iconst 3, 1) := by decide +kernel
theorem dX6_init_121 : decode cX6_init 121 = .ok (.iastore, 1) := by decide +kernel
theorem dX6_init_122 : decode cX6_init 122 = .ok (.iinc 1 1, 3) := by decide +kernel
theorem dX6_init_125 : decode cX6_init 125 = .ok (.goto (-16), 3) := by decide +kernel
theorem dX6_init_128 : decode cX6_init 128 = .ok (.return_, 1) := by decide +kernel
set_option maxHeartbeats 8000000 in
set_option maxRecDepth 100000 in
theorem k_X6_init (l : Launch) (D : gDt) (base : Nat) (Z : gZt) (t : Nat) (ph : Nat → va_E) : Met l yX6_init (gws yX6_init cX6_init 2 none) (gRm 3 11 179) (gPcC D base Z t ph [.inr (6, [.null, .null, .null, .null, .null, .null, .null, .null, .null, .int 0, .int 0, .int 0, .int 0, .null])] [.ref (base + (t + 0))]) (gQC D base t ph [.inr (6, [.ref (base + (t + 1)), .ref (base + (t + 2)), .ref (base + (t + 3)), .ref (base + (t + 4)), .ref (base + (t + 5)), .ref (base + (t + 6)), .ref (base + (t + 7)), .ref (base + (t + 8)), .ref (base + (t + 9)), .int (0 : Int32), .int (0 : Int32), .int (0 : Int32), .int (0 : Int32), .ref (base + (t + 10))]), .inl (D.2 0, (8, .inl (upd (upd (upd (upd (upd (upd (upd (upd (fun _ => 0) (0 : Int32).toNatClampNeg (3 : Int32)) (1 : Int32).toNatClampNeg (3 : Int32)) (2 : Int32).toNatClampNeg (3 : Int32)) (3 : Int32).toNatClampNeg (3 : Int32)) (4 : Int32).toNatClampNeg (3 : Int32)) (5 : Int32).toNatClampNeg (3 : Int32)) (6 : Int32).toNatClampNeg (3 : Int32)) (7 : Int32).toNatClampNeg (3 : Int32)))), .inl (D.2 0, (8, .inl (fun _ => 0))), .inl (D.2 0, (6, .inl (fun _ => 0))), .inl (D.2 0, (6, .inl (fun _ => 0))), .inl (D.2 0, (6, .inl (fun _ => 0))), .inl (D.2 0, (6, .inl (fun _ => 0))), .inl (D.2 1, (6, .inl (fun _ => 0))), .inl (D.2 0, (24, .inl (fun _ => 0))), .inl (D.2 0, (6, .inl (fun _ => 0))), .inr (0, [.ref (base + (t + 11)), .int (0 : Int32), .int (5 : Int32)]), .inl (D.2 0, (100, .inl (fun _ => 0)))]) 11 179 (gF base) := by
  refine Met.ofW (cc := cX6_init) (maxL := 2) (ret := none) (by decide) rfl ?_
  intro p e s m args below meth c s₁ B hml hv
  obtain ⟨rfl, C0, hG⟩ := c_enter B hml hv
  have hr := B.returns
  have hnm : meth.name = "<init>" := (name_of_methodNamed B.named B.method).1
  have C0 : gC p s m meth c _ cX6_init 2 RX6 D base Z := C0
  have hx := C0.1
  have hb := C0.2.1
  have hl := lv_entry ([.ref (base + (t + 0))]) (n := 2) (Nat.le_of_ble_eq_true rfl)
  rw [lg_entry_eq]
  generalize (lg_sl ([.ref (base + (t + 0))]) ++ List.replicate (2 - (lg_sl ([.ref (base + (t + 0))])).length) Slot.unset).toArray = ls at hl ⊢
  have hl : lv_has ls 2 [(0, .ref (base + (t + 0)))] := hl
  obtain ⟨Q, hQ⟩ : ∃ Q, Q = MQ below (gQC D base t ph [.inr (6, [.ref (base + (t + 1)), .ref (base + (t + 2)), .ref (base + (t + 3)), .ref (base + (t + 4)), .ref (base + (t + 5)), .ref (base + (t + 6)), .ref (base + (t + 7)), .ref (base + (t + 8)), .ref (base + (t + 9)), .int (0 : Int32), .int (0 : Int32), .int (0 : Int32), .int (0 : Int32), .ref (base + (t + 10))]), .inl (D.2 0, (8, .inl (upd (upd (upd (upd (upd (upd (upd (upd (fun _ => 0) (0 : Int32).toNatClampNeg (3 : Int32)) (1 : Int32).toNatClampNeg (3 : Int32)) (2 : Int32).toNatClampNeg (3 : Int32)) (3 : Int32).toNatClampNeg (3 : Int32)) (4 : Int32).toNatClampNeg (3 : Int32)) (5 : Int32).toNatClampNeg (3 : Int32)) (6 : Int32).toNatClampNeg (3 : Int32)) (7 : Int32).toNatClampNeg (3 : Int32)))), .inl (D.2 0, (8, .inl (fun _ => 0))), .inl (D.2 0, (6, .inl (fun _ => 0))), .inl (D.2 0, (6, .inl (fun _ => 0))), .inl (D.2 0, (6, .inl (fun _ => 0))), .inl (D.2 0, (6, .inl (fun _ => 0))), .inl (D.2 1, (6, .inl (fun _ => 0))), .inl (D.2 0, (24, .inl (fun _ => 0))), .inl (D.2 0, (6, .inl (fun _ => 0))), .inr (0, [.ref (base + (t + 11)), .int (0 : Int32), .int (5 : Int32)]), .inl (D.2 0, (100, .inl (fun _ => 0)))]) ([.ref (base + (t + 0))] : List Value).toArray s 11 179 (gF base) := ⟨_, rfl⟩
  rw [← hQ]
  change W p l e (gRm 3 11 179) s m _ below meth c _ _ _ _ _ _
  generalize hlo : ([] : List Loc) = locs at hG ⊢
  refine lv_aload_n hx hb dX6_init_0 rfl (lv_at hl 0 rfl) ?_
  refine c_obj C0 w_132 ob_i ob_c hl.1 dX6_init_1 ⟨Nat.le_of_ble_eq_true rfl, Nat.le_of_ble_eq_true rfl⟩ ?_
  refine lv_aload_n hx hb dX6_init_4 rfl (lv_at hl 0 rfl) ?_
  refine lv_bipush (v := (8 : Int32)) hx hb dX6_init_5 (by decide) ?_
  refine c_newa (ty := .int) (i := 0) (N := 8) (a0 := (8, .inl (fun _ => 0))) C0 hG rfl rfl rfl (fun _ => rfl) (by decide) (by decide) (by decide) w_152 (Nat.le_of_ble_eq_true rfl) (Nat.le_of_ble_eq_true rfl) dX6_init_7 (fun H hG => ?_)
  have hG : gCH D base s t ph [.inr (6, [.null, .null, .null, .null, .null, .null, .null, .null, .null, .int 0, .int 0, .int 0, .int 0, .null]), .inl (D.2 0, (8, .inl (fun _ => 0)))] H locs := hG
  change W p l e _ s m _ below meth c H locs 1 8 _ (F0 m _ ls (.ref (base + (t + 1)) :: _))
  refine c_putF (j := 0) (ty := .array .int) C0 hG rfl rfl 0 (by decide) (Nat.le_of_ble_eq_true rfl) w_154 rfl hnm rfl (by decide) rfl rfl dX6_init_9 (fun H locs hG => ?_)
  have hG : gCH D base s t ph [.inr (6, [.ref (base + (t + 1)), .null, .null, .null, .null, .null, .null, .null, .null, .int 0, .int 0, .int 0, .int 0, .null]), .inl (D.2 0, (8, .inl (fun _ => 0)))] H locs := hG
  refine lv_aload_n hx hb dX6_init_12 rfl (lv_at hl 0 rfl) ?_
  refine lv_bipush (v := (8 : Int32)) hx hb dX6_init_13 (by decide) ?_
  refine c_newa (ty := .int) (i := 0) (N := 8) (a0 := (8, .inl (fun _ => 0))) C0 hG rfl rfl rfl (fun _ => rfl) (by decide) (by decide) (by decide) w_152 (Nat.le_of_ble_eq_true rfl) (Nat.le_of_ble_eq_true rfl) dX6_init_15 (fun H hG => ?_)
  have hG : gCH D base s t ph [.inr (6, [.ref (base + (t + 1)), .null, .null, .null, .null, .null, .null, .null, .null, .int 0, .int 0, .int 0, .int 0, .null]), .inl (D.2 0, (8, .inl (fun _ => 0))), .inl (D.2 0, (8, .inl (fun _ => 0)))] H locs := hG
  change W p l e _ s m _ below meth c H locs 2 16 _ (F0 m _ ls (.ref (base + (t + 2)) :: _))
  refine c_putF (j := 0) (ty := .array .int) C0 hG rfl rfl 1 (by decide) (Nat.le_of_ble_eq_true rfl) w_156 rfl hnm rfl (by decide) rfl rfl dX6_init_17 (fun H locs hG => ?_)
  have hG : gCH D base s t ph [.inr (6, [.ref (base + (t + 1)), .ref (base + (t + 2)), .null, .null, .null, .null, .null, .null, .null, .int 0, .int 0, .int 0, .int 0, .null]), .inl (D.2 0, (8, .inl (fun _ => 0))), .inl (D.2 0, (8, .inl (fun _ => 0)))] H locs := hG
  refine lv_aload_n hx hb dX6_init_20 rfl (lv_at hl 0 rfl) ?_
  refine lv_bipush (v := (6 : Int32)) hx hb dX6_init_21 (by decide) ?_
  refine c_newa (ty := .int) (i := 0) (N := 6) (a0 := (6, .inl (fun _ => 0))) C0 hG rfl rfl rfl (fun _ => rfl) (by decide) (by decide) (by decide) w_152 (Nat.le_of_ble_eq_true rfl) (Nat.le_of_ble_eq_true rfl) dX6_init_23 (fun H hG => ?_)
  have hG : gCH D base s t ph [.inr (6, [.ref (base + (t + 1)), .ref (base + (t + 2)), .null, .null, .null, .null, .null, .null, .null, .int 0, .int 0, .int 0, .int 0, .null]), .inl (D.2 0, (8, .inl (fun _ => 0))), .inl (D.2 0, (8, .inl (fun _ => 0))), .inl (D.2 0, (6, .inl (fun _ => 0)))] H locs := hG
  change W p l e _ s m _ below meth c H locs 3 22 _ (F0 m _ ls (.ref (base + (t + 3)) :: _))
  refine c_putF (j := 0) (ty := .array .int) C0 hG rfl rfl 2 (by decide) (Nat.le_of_ble_eq_true rfl) w_158 rfl hnm rfl (by decide) rfl rfl dX6_init_25 (fun H locs hG => ?_)
  have hG : gCH D base s t ph [.inr (6, [.ref (base + (t + 1)), .ref (base + (t + 2)), .ref (base + (t + 3)), .null, .null, .null, .null, .null, .null, .int 0, .int 0, .int 0, .int 0, .null]), .inl (D.2 0, (8, .inl (fun _ => 0))), .inl (D.2 0, (8, .inl (fun _ => 0))), .inl (D.2 0, (6, .inl (fun _ => 0)))] H locs := hG
  refine lv_aload_n hx hb dX6_init_28 rfl (lv_at hl 0 rfl) ?_
  refine lv_bipush (v := (6 : Int32)) hx hb dX6_init_29 (by decide) ?_
  refine c_newa (ty := .int) (i := 0) (N := 6) (a0 := (6, .inl (fun _ => 0))) C0 hG rfl rfl rfl (fun _ => rfl) (by decide) (by decide) (by decide) w_152 (Nat.le_of_ble_eq_true rfl) (Nat.le_of_ble_eq_true rfl) dX6_init_31 (fun H hG => ?_)
  have hG : gCH D base s t ph [.inr (6, [.ref (base + (t + 1)), .ref (base + (t + 2)), .ref (base + (t + 3)), .null, .null, .null, .null, .null, .null, .int 0, .int 0, .int 0, .int 0, .null]), .inl (D.2 0, (8, .inl (fun _ => 0))), .inl (D.2 0, (8, .inl (fun _ => 0))), .inl (D.2 0, (6, .inl (fun _ => 0))), .inl (D.2 0, (6, .inl (fun _ => 0)))] H locs := hG
  change W p l e _ s m _ below meth c H locs 4 28 _ (F0 m _ ls (.ref (base + (t + 4)) :: _))
  refine c_putF (j := 0) (ty := .array .int) C0 hG rfl rfl 3 (by decide) (Nat.le_of_ble_eq_true rfl) w_160 rfl hnm rfl (by decide) rfl rfl dX6_init_33 (fun H locs hG => ?_)
  have hG : gCH D base s t ph [.inr (6, [.ref (base + (t + 1)), .ref (base + (t + 2)), .ref (base + (t + 3)), .ref (base + (t + 4)), .null, .null, .null, .null, .null, .int 0, .int 0, .int 0, .int 0, .null]), .inl (D.2 0, (8, .inl (fun _ => 0))), .inl (D.2 0, (8, .inl (fun _ => 0))), .inl (D.2 0, (6, .inl (fun _ => 0))), .inl (D.2 0, (6, .inl (fun _ => 0)))] H locs := hG
  refine lv_aload_n hx hb dX6_init_36 rfl (lv_at hl 0 rfl) ?_
  refine lv_bipush (v := (6 : Int32)) hx hb dX6_init_37 (by decide) ?_
  refine c_newa (ty := .int) (i := 0) (N := 6) (a0 := (6, .inl (fun _ => 0))) C0 hG rfl rfl rfl (fun _ => rfl) (by decide) (by decide) (by decide) w_152 (Nat.le_of_ble_eq_true rfl) (Nat.le_of_ble_eq_true rfl) dX6_init_39 (fun H hG => ?_)
  have hG : gCH D base s t ph [.inr (6, [.ref (base + (t + 1)), .ref (base + (t + 2)), .ref (base + (t + 3)), .ref (base + (t + 4)), .null, .null, .null, .null, .null, .int 0, .int 0, .int 0, .int 0, .null]), .inl (D.2 0, (8, .inl (fun _ => 0))), .inl (D.2 0, (8, .inl (fun _ => 0))), .inl (D.2 0, (6, .inl (fun _ => 0))), .inl (D.2 0, (6, .inl (fun _ => 0))), .inl (D.2 0, (6, .inl (fun _ => 0)))] H locs := hG
  change W p l e _ s m _ below meth c H locs 5 34 _ (F0 m _ ls (.ref (base + (t + 5)) :: _))
  refine c_putF (j := 0) (ty := .array .int) C0 hG rfl rfl 4 (by decide) (Nat.le_of_ble_eq_true rfl) w_162 rfl hnm rfl (by decide) rfl rfl dX6_init_41 (fun H locs hG => ?_)
  have hG : gCH D base s t ph [.inr (6, [.ref (base + (t + 1)), .ref (base + (t + 2)), .ref (base + (t + 3)), .ref (base + (t + 4)), .ref (base + (t + 5)), .null, .null, .null, .null, .int 0, .int 0, .int 0, .int 0, .null]), .inl (D.2 0, (8, .inl (fun _ => 0))), .inl (D.2 0, (8, .inl (fun _ => 0))), .inl (D.2 0, (6, .inl (fun _ => 0))), .inl (D.2 0, (6, .inl (fun _ => 0))), .inl (D.2 0, (6, .inl (fun _ => 0)))] H locs := hG
  refine lv_aload_n hx hb dX6_init_44 rfl (lv_at hl 0 rfl) ?_
  refine lv_bipush (v := (6 : Int32)) hx hb dX6_init_45 (by decide) ?_
  refine c_newa (ty := .int) (i := 0) (N := 6) (a0 := (6, .inl (fun _ => 0))) C0 hG rfl rfl rfl (fun _ => rfl) (by decide) (by decide) (by decide) w_152 (Nat.le_of_ble_eq_true rfl) (Nat.le_of_ble_eq_true rfl) dX6_init_47 (fun H hG => ?_)
  have hG : gCH D base s t ph [.inr (6, [.ref (base + (t + 1)), .ref (base + (t + 2)), .ref (base + (t + 3)), .ref (base + (t + 4)), .ref (base + (t + 5)), .null, .null, .null, .null, .int 0, .int 0, .int 0, .int 0, .null]), .inl (D.2 0, (8, .inl (fun _ => 0))), .inl (D.2 0, (8, .inl (fun _ => 0))), .inl (D.2 0, (6, .inl (fun _ => 0))), .inl (D.2 0, (6, .inl (fun _ => 0))), .inl (D.2 0, (6, .inl (fun _ => 0))), .inl (D.2 0, (6, .inl (fun _ => 0)))] H locs := hG
  change W p l e _ s m _ below meth c H locs 6 40 _ (F0 m _ ls (.ref (base + (t + 6)) :: _))
  refine c_putF (j := 0) (ty := .array .int) C0 hG rfl rfl 5 (by decide) (Nat.le_of_ble_eq_true rfl) w_164 rfl hnm rfl (by decide) rfl rfl dX6_init_49 (fun H locs hG => ?_)
  have hG : gCH D base s t ph [.inr (6, [.ref (base + (t + 1)), .ref (base + (t + 2)), .ref (base + (t + 3)), .ref (base + (t + 4)), .ref (base + (t + 5)), .ref (base + (t + 6)), .null, .null, .null, .int 0, .int 0, .int 0, .int 0, .null]), .inl (D.2 0, (8, .inl (fun _ => 0))), .inl (D.2 0, (8, .inl (fun _ => 0))), .inl (D.2 0, (6, .inl (fun _ => 0))), .inl (D.2 0, (6, .inl (fun _ => 0))), .inl (D.2 0, (6, .inl (fun _ => 0))), .inl (D.2 0, (6, .inl (fun _ => 0)))] H locs := hG
  refine lv_aload_n hx hb dX6_init_52 rfl (lv_at hl 0 rfl) ?_
  refine lv_bipush (v := (6 : Int32)) hx hb dX6_init_53 (by decide) ?_
  refine c_newa (ty := .boolean) (i := 1) (N := 6) (a0 := (6, .inl (fun _ => 0))) C0 hG rfl rfl rfl (fun _ => rfl) (by decide) (by decide) (by decide) w_153 (Nat.le_of_ble_eq_true rfl) (Nat.le_of_ble_eq_true rfl) dX6_init_55 (fun H hG => ?_)
  have hG : gCH D base s t ph [.inr (6, [.ref (base + (t + 1)), .ref (base + (t + 2)), .ref (base + (t + 3)), .ref (base + (t + 4)), .ref (base + (t + 5)), .ref (base + (t + 6)), .null, .null, .null, .int 0, .int 0, .int 0, .int 0, .null]), .inl (D.2 0, (8, .inl (fun _ => 0))), .inl (D.2 0, (8, .inl (fun _ => 0))), .inl (D.2 0, (6, .inl (fun _ => 0))), .inl (D.2 0, (6, .inl (fun _ => 0))), .inl (D.2 0, (6, .inl (fun _ => 0))), .inl (D.2 0, (6, .inl (fun _ => 0))), .inl (D.2 1, (6, .inl (fun _ => 0)))] H locs := hG
  change W p l e _ s m _ below meth c H locs 7 46 _ (F0 m _ ls (.ref (base + (t + 7)) :: _))
  refine c_putF (j := 0) (ty := .array .boolean) C0 hG rfl rfl 6 (by decide) (Nat.le_of_ble_eq_true rfl) w_166 rfl hnm rfl (by decide) rfl rfl dX6_init_57 (fun H locs hG => ?_)
  have hG : gCH D base s t ph [.inr (6, [.ref (base + (t + 1)), .ref (base + (t + 2)), .ref (base + (t + 3)), .ref (base + (t + 4)), .ref (base + (t + 5)), .ref (base + (t + 6)), .ref (base + (t + 7)), .null, .null, .int 0, .int 0, .int 0, .int 0, .null]), .inl (D.2 0, (8, .inl (fun _ => 0))), .inl (D.2 0, (8, .inl (fun _ => 0))), .inl (D.2 0, (6, .inl (fun _ => 0))), .inl (D.2 0, (6, .inl (fun _ => 0))), .inl (D.2 0, (6, .inl (fun _ => 0))), .inl (D.2 0, (6, .inl (fun _ => 0))), .inl (D.2 1, (6, .inl (fun _ => 0)))] H locs := hG
  refine lv_aload_n hx hb dX6_init_60 rfl (lv_at hl 0 rfl) ?_
  refine lv_bipush (v := (24 : Int32)) hx hb dX6_init_61 (by decide) ?_
  refine c_newa (ty := .int) (i := 0) (N := 24) (a0 := (24, .inl (fun _ => 0))) C0 hG rfl rfl rfl (fun _ => rfl) (by decide) (by decide) (by decide) w_152 (Nat.le_of_ble_eq_true rfl) (Nat.le_of_ble_eq_true rfl) dX6_init_63 (fun H hG => ?_)
  have hG : gCH D base s t ph [.inr (6, [.ref (base + (t + 1)), .ref (base + (t + 2)), .ref (base + (t + 3)), .ref (base + (t + 4)), .ref (base + (t + 5)), .ref (base + (t + 6)), .ref (base + (t + 7)), .null, .null, .int 0, .int 0, .int 0, .int 0, .null]), .inl (D.2 0, (8, .inl (fun _ => 0))), .inl (D.2 0, (8, .inl (fun _ => 0))), .inl (D.2 0, (6, .inl (fun _ => 0))), .inl (D.2 0, (6, .inl (fun _ => 0))), .inl (D.2 0, (6, .inl (fun _ => 0))), .inl (D.2 0, (6, .inl (fun _ => 0))), .inl (D.2 1, (6, .inl (fun _ => 0))), .inl (D.2 0, (24, .inl (fun _ => 0)))] H locs := hG
  change W p l e _ s m _ below meth c H locs 8 70 _ (F0 m _ ls (.ref (base + (t + 8)) :: _))
  refine c_putF (j := 0) (ty := .array .int) C0 hG rfl rfl 7 (by decide) (Nat.le_of_ble_eq_true rfl) w_168 rfl hnm rfl (by decide) rfl rfl dX6_init_65 (fun H locs hG => ?_)
  have hG : gCH D base s t ph [.inr (6, [.ref (base + (t + 1)), .ref (base + (t + 2)), .ref (base + (t + 3)), .ref (base + (t + 4)), .ref (base + (t + 5)), .ref (base + (t + 6)), .ref (base + (t + 7)), .ref (base + (t + 8)), .null, .int 0, .int 0, .int 0, .int 0, .null]), .inl (D.2 0, (8, .inl (fun _ => 0))), .inl (D.2 0, (8, .inl (fun _ => 0))), .inl (D.2 0, (6, .inl (fun _ => 0))), .inl (D.2 0, (6, .inl (fun _ => 0))), .inl (D.2 0, (6, .inl (fun _ => 0))), .inl (D.2 0, (6, .inl (fun _ => 0))), .inl (D.2 1, (6, .inl (fun _ => 0))), .inl (D.2 0, (24, .inl (fun _ => 0)))] H locs := hG
  refine lv_aload_n hx hb dX6_init_68 rfl (lv_at hl 0 rfl) ?_
  refine lv_bipush (v := (6 : Int32)) hx hb dX6_init_69 (by decide) ?_
  refine c_newa (ty := .int) (i := 0) (N := 6) (a0 := (6, .inl (fun _ => 0))) C0 hG rfl rfl rfl (fun _ => rfl) (by decide) (by decide) (by decide) w_152 (Nat.le_of_ble_eq_true rfl) (Nat.le_of_ble_eq_true rfl) dX6_init_71 (fun H hG => ?_)
  have hG : gCH D base s t ph [.inr (6, [.ref (base + (t + 1)), .ref (base + (t + 2)), .ref (base + (t + 3)), .ref (base + (t + 4)), .ref (base + (t + 5)), .ref (base + (t + 6)), .ref (base + (t + 7)), .ref (base + (t + 8)), .null, .int 0, .int 0, .int 0, .int 0, .null]), .inl (D.2 0, (8, .inl (fun _ => 0))), .inl (D.2 0, (8, .inl (fun _ => 0))), .inl (D.2 0, (6, .inl (fun _ => 0))), .inl (D.2 0, (6, .inl (fun _ => 0))), .inl (D.2 0, (6, .inl (fun _ => 0))), .inl (D.2 0, (6, .inl (fun _ => 0))), .inl (D.2 1, (6, .inl (fun _ => 0))), .inl (D.2 0, (24, .inl (fun _ => 0))), .inl (D.2 0, (6, .inl (fun _ => 0)))] H locs := hG
  change W p l e _ s m _ below meth c H locs 9 76 _ (F0 m _ ls (.ref (base + (t + 9)) :: _))
  refine c_putF (j := 0) (ty := .array .int) C0 hG rfl rfl 8 (by decide) (Nat.le_of_ble_eq_true rfl) w_170 rfl hnm rfl (by decide) rfl rfl dX6_init_73 (fun H locs hG => ?_)
  have hG : gCH D base s t ph [.inr (6, [.ref (base + (t + 1)), .ref (base + (t + 2)), .ref (base + (t + 3)), .ref (base + (t + 4)), .ref (base + (t + 5)), .ref (base + (t + 6)), .ref (base + (t + 7)), .ref (base + (t + 8)), .ref (base + (t + 9)), .int 0, .int 0, .int 0, .int 0, .null]), .inl (D.2 0, (8, .inl (fun _ => 0))), .inl (D.2 0, (8, .inl (fun _ => 0))), .inl (D.2 0, (6, .inl (fun _ => 0))), .inl (D.2 0, (6, .inl (fun _ => 0))), .inl (D.2 0, (6, .inl (fun _ => 0))), .inl (D.2 0, (6, .inl (fun _ => 0))), .inl (D.2 1, (6, .inl (fun _ => 0))), .inl (D.2 0, (24, .inl (fun _ => 0))), .inl (D.2 0, (6, .inl (fun _ => 0)))] H locs := hG
  refine lv_aload_n hx hb dX6_init_76 rfl (lv_at hl 0 rfl) ?_
  refine lv_iconst (v := (0 : Int32)) hx hb dX6_init_77 (by decide) ?_
  refine c_put (j := 0) (ty := .int) C0 hG rfl rfl 9 (by decide) (Nat.le_of_ble_eq_true rfl) w_171 rfl (by decide) rfl rfl dX6_init_78 (fun H locs hG => ?_)
  have hG : gCH D base s t ph [.inr (6, [.ref (base + (t + 1)), .ref (base + (t + 2)), .ref (base + (t + 3)), .ref (base + (t + 4)), .ref (base + (t + 5)), .ref (base + (t + 6)), .ref (base + (t + 7)), .ref (base + (t + 8)), .ref (base + (t + 9)), .int (0 : Int32), .int 0, .int 0, .int 0, .null]), .inl (D.2 0, (8, .inl (fun _ => 0))), .inl (D.2 0, (8, .inl (fun _ => 0))), .inl (D.2 0, (6, .inl (fun _ => 0))), .inl (D.2 0, (6, .inl (fun _ => 0))), .inl (D.2 0, (6, .inl (fun _ => 0))), .inl (D.2 0, (6, .inl (fun _ => 0))), .inl (D.2 1, (6, .inl (fun _ => 0))), .inl (D.2 0, (24, .inl (fun _ => 0))), .inl (D.2 0, (6, .inl (fun _ => 0)))] H locs := hG
  refine lv_aload_n hx hb dX6_init_81 rfl (lv_at hl 0 rfl) ?_
  refine lv_iconst (v := (0 : Int32)) hx hb dX6_init_82 (by decide) ?_
  refine c_put (j := 0) (ty := .int) C0 hG rfl rfl 10 (by decide) (Nat.le_of_ble_eq_true rfl) w_173 rfl (by decide) rfl rfl dX6_init_83 (fun H locs hG => ?_)
  have hG : gCH D base s t ph [.inr (6, [.ref (base + (t + 1)), .ref (base + (t + 2)), .ref (base + (t + 3)), .ref (base + (t + 4)), .ref (base + (t + 5)), .ref (base + (t + 6)), .ref (base + (t + 7)), .ref (base + (t + 8)), .ref (base + (t + 9)), .int (0 : Int32), .int (0 : Int32), .int 0, .int 0, .null]), .inl (D.2 0, (8, .inl (fun _ => 0))), .inl (D.2 0, (8, .inl (fun _ => 0))), .inl (D.2 0, (6, .inl (fun _ => 0))), .inl (D.2 0, (6, .inl (fun _ => 0))), .inl (D.2 0, (6, .inl (fun _ => 0))), .inl (D.2 0, (6, .inl (fun _ => 0))), .inl (D.2 1, (6, .inl (fun _ => 0))), .inl (D.2 0, (24, .inl (fun _ => 0))), .inl (D.2 0, (6, .inl (fun _ => 0)))] H locs := hG
  refine lv_aload_n hx hb dX6_init_86 rfl (lv_at hl 0 rfl) ?_
  refine lv_iconst (v := (0 : Int32)) hx hb dX6_init_87 (by decide) ?_
  refine c_put (j := 0) (ty := .int) C0 hG rfl rfl 11 (by decide) (Nat.le_of_ble_eq_true rfl) w_175 rfl (by decide) rfl rfl dX6_init_88 (fun H locs hG => ?_)
  have hG : gCH D base s t ph [.inr (6, [.ref (base + (t + 1)), .ref (base + (t + 2)), .ref (base + (t + 3)), .ref (base + (t + 4)), .ref (base + (t + 5)), .ref (base + (t + 6)), .ref (base + (t + 7)), .ref (base + (t + 8)), .ref (base + (t + 9)), .int (0 : Int32), .int (0 : Int32), .int (0 : Int32), .int 0, .null]), .inl (D.2 0, (8, .inl (fun _ => 0))), .inl (D.2 0, (8, .inl (fun _ => 0))), .inl (D.2 0, (6, .inl (fun _ => 0))), .inl (D.2 0, (6, .inl (fun _ => 0))), .inl (D.2 0, (6, .inl (fun _ => 0))), .inl (D.2 0, (6, .inl (fun _ => 0))), .inl (D.2 1, (6, .inl (fun _ => 0))), .inl (D.2 0, (24, .inl (fun _ => 0))), .inl (D.2 0, (6, .inl (fun _ => 0)))] H locs := hG
  refine lv_aload_n hx hb dX6_init_91 rfl (lv_at hl 0 rfl) ?_
  refine lv_iconst (v := (0 : Int32)) hx hb dX6_init_92 (by decide) ?_
  refine c_put (j := 0) (ty := .int) C0 hG rfl rfl 12 (by decide) (Nat.le_of_ble_eq_true rfl) w_177 rfl (by decide) rfl rfl dX6_init_93 (fun H locs hG => ?_)
  have hG : gCH D base s t ph [.inr (6, [.ref (base + (t + 1)), .ref (base + (t + 2)), .ref (base + (t + 3)), .ref (base + (t + 4)), .ref (base + (t + 5)), .ref (base + (t + 6)), .ref (base + (t + 7)), .ref (base + (t + 8)), .ref (base + (t + 9)), .int (0 : Int32), .int (0 : Int32), .int (0 : Int32), .int (0 : Int32), .null]), .inl (D.2 0, (8, .inl (fun _ => 0))), .inl (D.2 0, (8, .inl (fun _ => 0))), .inl (D.2 0, (6, .inl (fun _ => 0))), .inl (D.2 0, (6, .inl (fun _ => 0))), .inl (D.2 0, (6, .inl (fun _ => 0))), .inl (D.2 0, (6, .inl (fun _ => 0))), .inl (D.2 1, (6, .inl (fun _ => 0))), .inl (D.2 0, (24, .inl (fun _ => 0))), .inl (D.2 0, (6, .inl (fun _ => 0)))] H locs := hG
  refine lv_aload_n hx hb dX6_init_96 rfl (lv_at hl 0 rfl) ?_
  refine c_new (ci := 0) (N := 3) (fs := [.null, .int 0, .int 0]) C0 hG rfl tyX0 tyX0_ok (by decide +kernel) w_133 w_134 w_104 (Nat.le_of_ble_eq_true rfl) (Nat.le_of_ble_eq_true rfl) dX6_init_97 (fun H hG => ?_)
  have hG : gCH D base s t ph [.inr (6, [.ref (base + (t + 1)), .ref (base + (t + 2)), .ref (base + (t + 3)), .ref (base + (t + 4)), .ref (base + (t + 5)), .ref (base + (t + 6)), .ref (base + (t + 7)), .ref (base + (t + 8)), .ref (base + (t + 9)), .int (0 : Int32), .int (0 : Int32), .int (0 : Int32), .int (0 : Int32), .null]), .inl (D.2 0, (8, .inl (fun _ => 0))), .inl (D.2 0, (8, .inl (fun _ => 0))), .inl (D.2 0, (6, .inl (fun _ => 0))), .inl (D.2 0, (6, .inl (fun _ => 0))), .inl (D.2 0, (6, .inl (fun _ => 0))), .inl (D.2 0, (6, .inl (fun _ => 0))), .inl (D.2 1, (6, .inl (fun _ => 0))), .inl (D.2 0, (24, .inl (fun _ => 0))), .inl (D.2 0, (6, .inl (fun _ => 0))), .inr (0, [.null, .int 0, .int 0])] H locs := hG
  change W p l e _ s m _ below meth c H locs 10 79 _ (F0 m _ ls (.ref (base + (t + 10)) :: _))
  refine lv_dup hx hb dX6_init_100 rfl ?_
  refine c_callN (cs := [.inr (6, [.ref (base + (t + 1)), .ref (base + (t + 2)), .ref (base + (t + 3)), .ref (base + (t + 4)), .ref (base + (t + 5)), .ref (base + (t + 6)), .ref (base + (t + 7)), .ref (base + (t + 8)), .ref (base + (t + 9)), .int (0 : Int32), .int (0 : Int32), .int (0 : Int32), .int (0 : Int32), .null]), .inl (D.2 0, (8, .inl (fun _ => 0))), .inl (D.2 0, (8, .inl (fun _ => 0))), .inl (D.2 0, (6, .inl (fun _ => 0))), .inl (D.2 0, (6, .inl (fun _ => 0))), .inl (D.2 0, (6, .inl (fun _ => 0))), .inl (D.2 0, (6, .inl (fun _ => 0))), .inl (D.2 1, (6, .inl (fun _ => 0))), .inl (D.2 0, (24, .inl (fun _ => 0))), .inl (D.2 0, (6, .inl (fun _ => 0)))]) (e0 := .inr (0, [.null, .int 0, .int 0])) (j := 10) C0 hG rfl (k_X0_init l D base Z (t + 10) (phC ph t [.inr (6, [.ref (base + (t + 1)), .ref (base + (t + 2)), .ref (base + (t + 3)), .ref (base + (t + 4)), .ref (base + (t + 5)), .ref (base + (t + 6)), .ref (base + (t + 7)), .ref (base + (t + 8)), .ref (base + (t + 9)), .int (0 : Int32), .int (0 : Int32), .int (0 : Int32), .int (0 : Int32), .null]), .inl (D.2 0, (8, .inl (fun _ => 0))), .inl (D.2 0, (8, .inl (fun _ => 0))), .inl (D.2 0, (6, .inl (fun _ => 0))), .inl (D.2 0, (6, .inl (fun _ => 0))), .inl (D.2 0, (6, .inl (fun _ => 0))), .inl (D.2 0, (6, .inl (fun _ => 0))), .inl (D.2 1, (6, .inl (fun _ => 0))), .inl (D.2 0, (24, .inl (fun _ => 0))), .inl (D.2 0, (6, .inl (fun _ => 0)))])) m_X0_init w_136 rfl w_135 ⟨Nat.le_of_ble_eq_true rfl, Nat.le_of_ble_eq_true rfl⟩ rfl hl.1 rfl (Nat.le_of_ble_eq_true rfl) dX6_init_101 ⟨Nat.le_of_ble_eq_true rfl, Nat.le_of_ble_eq_true rfl⟩ (fun H locs hG => ?_)
  have hG : gCH D base s t ph [.inr (6, [.ref (base + (t + 1)), .ref (base + (t + 2)), .ref (base + (t + 3)), .ref (base + (t + 4)), .ref (base + (t + 5)), .ref (base + (t + 6)), .ref (base + (t + 7)), .ref (base + (t + 8)), .ref (base + (t + 9)), .int (0 : Int32), .int (0 : Int32), .int (0 : Int32), .int (0 : Int32), .null]), .inl (D.2 0, (8, .inl (fun _ => 0))), .inl (D.2 0, (8, .inl (fun _ => 0))), .inl (D.2 0, (6, .inl (fun _ => 0))), .inl (D.2 0, (6, .inl (fun _ => 0))), .inl (D.2 0, (6, .inl (fun _ => 0))), .inl (D.2 0, (6, .inl (fun _ => 0))), .inl (D.2 1, (6, .inl (fun _ => 0))), .inl (D.2 0, (24, .inl (fun _ => 0))), .inl (D.2 0, (6, .inl (fun _ => 0))), .inr (0, [.ref (base + (t + 11)), .int (0 : Int32), .int (5 : Int32)]), .inl (D.2 0, (100, .inl (fun _ => 0)))] H locs := hG
  change W p l e _ s m _ below meth c H locs 11 179 _ _
  refine c_put (j := 0) (ty := .object "GossipTrain$Branch") C0 hG rfl rfl 13 (by decide) (Nat.le_of_ble_eq_true rfl) w_179 rfl (by decide) rfl rfl dX6_init_104 (fun H locs hG => ?_)
  have hG : gCH D base s t ph [.inr (6, [.ref (base + (t + 1)), .ref (base + (t + 2)), .ref (base + (t + 3)), .ref (base + (t + 4)), .ref (base + (t + 5)), .ref (base + (t + 6)), .ref (base + (t + 7)), .ref (base + (t + 8)), .ref (base + (t + 9)), .int (0 : Int32), .int (0 : Int32), .int (0 : Int32), .int (0 : Int32), .ref (base + (t + 10))]), .inl (D.2 0, (8, .inl (fun _ => 0))), .inl (D.2 0, (8, .inl (fun _ => 0))), .inl (D.2 0, (6, .inl (fun _ => 0))), .inl (D.2 0, (6, .inl (fun _ => 0))), .inl (D.2 0, (6, .inl (fun _ => 0))), .inl (D.2 0, (6, .inl (fun _ => 0))), .inl (D.2 1, (6, .inl (fun _ => 0))), .inl (D.2 0, (24, .inl (fun _ => 0))), .inl (D.2 0, (6, .inl (fun _ => 0))), .inr (0, [.ref (base + (t + 11)), .int (0 : Int32), .int (5 : Int32)]), .inl (D.2 0, (100, .inl (fun _ => 0)))] H locs := hG
  refine lv_iconst (v := (0 : Int32)) hx hb dX6_init_107 (by decide) ?_
  refine lv_istore_n (lv' := [(1, .int (0 : Int32)), (0, .ref (base + (t + 0)))]) hx hb dX6_init_108 rfl hl (by decide) rfl (fun ls hl => ?_)
  refine lv_iload_n hx hb dX6_init_109 rfl (lv_at hl 0 rfl) ?_
  refine lv_bipush (v := (8 : Int32)) hx hb dX6_init_110 (by decide) ?_
  refine lv_icmp_ge (tgt := 128) hx hb dX6_init_112 (by decide) (fun c => absurd c (by decide)) (fun _ => ?_)
  refine lv_aload_n hx hb dX6_init_115 rfl (lv_at hl 1 rfl) ?_
  refine c_get (j := 0) C0 hG rfl rfl 0 (by decide) rfl w_154 dX6_init_116 ?_
  refine lv_iload_n hx hb dX6_init_119 rfl (lv_at hl 0 rfl) ?_
  refine lv_iconst (v := (3 : Int32)) hx hb dX6_init_120 (by decide) ?_
  refine c_iast (j := 1) C0 hG rfl (vp_in_iff.mpr (by decide)) dX6_init_121 (fun H locs hG => ?_)
  have hG : gCH D base s t ph [.inr (6, [.ref (base + (t + 1)), .ref (base + (t + 2)), .ref (base + (t + 3)), .ref (base + (t + 4)), .ref (base + (t + 5)), .ref (base + (t + 6)), .ref (base + (t + 7)), .ref (base + (t + 8)), .ref (base + (t + 9)), .int (0 : Int32), .int (0 : Int32), .int (0 : Int32), .int (0 : Int32), .ref (base + (t + 10))]), .inl (D.2 0, (8, .inl (upd (fun _ => 0) (0 : Int32).toNatClampNeg (3 : Int32)))), .inl (D.2 0, (8, .inl (fun _ => 0))), .inl (D.2 0, (6, .inl (fun _ => 0))), .inl (D.2 0, (6, .inl (fun _ => 0))), .inl (D.2 0, (6, .inl (fun _ => 0))), .inl (D.2 0, (6, .inl (fun _ => 0))), .inl (D.2 1, (6, .inl (fun _ => 0))), .inl (D.2 0, (24, .inl (fun _ => 0))), .inl (D.2 0, (6, .inl (fun _ => 0))), .inr (0, [.ref (base + (t + 11)), .int (0 : Int32), .int (5 : Int32)]), .inl (D.2 0, (100, .inl (fun _ => 0)))] H locs := hG
  refine lv_iinc (v := (1 : Int32)) (lv' := [(1, .int (1 : Int32)), (0, .ref (base + (t + 0)))]) hx hb dX6_init_122 hl (k := 0) rfl (by decide) (by decide) rfl (fun ls hl => ?_)
  refine lv_goto (tgt := 109) hx hb dX6_init_125 (by decide) ?_
  refine lv_iload_n hx hb dX6_init_109 rfl (lv_at hl 0 rfl) ?_
  refine lv_bipush (v := (8 : Int32)) hx hb dX6_init_110 (by decide) ?_
  refine lv_icmp_ge (tgt := 128) hx hb dX6_init_112 (by decide) (fun c => absurd c (by decide)) (fun _ => ?_)
  refine lv_aload_n hx hb dX6_init_115 rfl (lv_at hl 1 rfl) ?_
  refine c_get (j := 0) C0 hG rfl rfl 0 (by decide) rfl w_154 dX6_init_116 ?_
  refine lv_iload_n hx hb dX6_init_119 rfl (lv_at hl 0 rfl) ?_
  refine lv_iconst (v := (3 : Int32)) hx hb dX6_init_120 (by decide) ?_
  refine c_iast (j := 1) C0 hG rfl (vp_in_iff.mpr (by decide)) dX6_init_121 (fun H locs hG => ?_)
  have hG : gCH D base s t ph [.inr (6, [.ref (base + (t + 1)), .ref (base + (t + 2)), .ref (base + (t + 3)), .ref (base + (t + 4)), .ref (base + (t + 5)), .ref (base + (t + 6)), .ref (base + (t + 7)), .ref (base + (t + 8)), .ref (base + (t + 9)), .int (0 : Int32), .int (0 : Int32), .int (0 : Int32), .int (0 : Int32), .ref (base + (t + 10))]), .inl (D.2 0, (8, .inl (upd (upd (fun _ => 0) (0 : Int32).toNatClampNeg (3 : Int32)) (1 : Int32).toNatClampNeg (3 : Int32)))), .inl (D.2 0, (8, .inl (fun _ => 0))), .inl (D.2 0, (6, .inl (fun _ => 0))), .inl (D.2 0, (6, .inl (fun _ => 0))), .inl (D.2 0, (6, .inl (fun _ => 0))), .inl (D.2 0, (6, .inl (fun _ => 0))), .inl (D.2 1, (6, .inl (fun _ => 0))), .inl (D.2 0, (24, .inl (fun _ => 0))), .inl (D.2 0, (6, .inl (fun _ => 0))), .inr (0, [.ref (base + (t + 11)), .int (0 : Int32), .int (5 : Int32)]), .inl (D.2 0, (100, .inl (fun _ => 0)))] H locs := hG
  refine lv_iinc (v := (2 : Int32)) (lv' := [(1, .int (2 : Int32)), (0, .ref (base + (t + 0)))]) hx hb dX6_init_122 hl (k := 0) rfl (by decide) (by decide) rfl (fun ls hl => ?_)
  refine lv_goto (tgt := 109) hx hb dX6_init_125 (by decide) ?_
  refine lv_iload_n hx hb dX6_init_109 rfl (lv_at hl 0 rfl) ?_
  refine lv_bipush (v := (8 : Int32)) hx hb dX6_init_110 (by decide) ?_
  refine lv_icmp_ge (tgt := 128) hx hb dX6_init_112 (by decide) (fun c => absurd c (by decide)) (fun _ => ?_)
  refine lv_aload_n hx hb dX6_init_115 rfl (lv_at hl 1 rfl) ?_
  refine c_get (j := 0) C0 hG rfl rfl 0 (by decide) rfl w_154 dX6_init_116 ?_
  refine lv_iload_n hx hb dX6_init_119 rfl (lv_at hl 0 rfl) ?_
  refine lv_iconst (v := (3 : Int32)) hx hb dX6_init_120 (by decide) ?_
  refine c_iast (j := 1) C0 hG rfl (vp_in_iff.mpr (by decide)) dX6_init_121 (fun H locs hG => ?_)
  have hG : gCH D base s t ph [.inr (6, [.ref (base + (t + 1)), .ref (base + (t + 2)), .ref (base + (t + 3)), .ref (base + (t + 4)), .ref (base + (t + 5)), .ref (base + (t + 6)), .ref (base + (t + 7)), .ref (base + (t + 8)), .ref (base + (t + 9)), .int (0 : Int32), .int (0 : Int32), .int (0 : Int32), .int (0 : Int32), .ref (base + (t + 10))]), .inl (D.2 0, (8, .inl (upd (upd (upd (fun _ => 0) (0 : Int32).toNatClampNeg (3 : Int32)) (1 : Int32).toNatClampNeg (3 : Int32)) (2 : Int32).toNatClampNeg (3 : Int32)))), .inl (D.2 0, (8, .inl (fun _ => 0))), .inl (D.2 0, (6, .inl (fun _ => 0))), .inl (D.2 0, (6, .inl (fun _ => 0))), .inl (D.2 0, (6, .inl (fun _ => 0))), .inl (D.2 0, (6, .inl (fun _ => 0))), .inl (D.2 1, (6, .inl (fun _ => 0))), .inl (D.2 0, (24, .inl (fun _ => 0))), .inl (D.2 0, (6, .inl (fun _ => 0))), .inr (0, [.ref (base + (t + 11)), .int (0 : Int32), .int (5 : Int32)]), .inl (D.2 0, (100, .inl (fun _ => 0)))] H locs := hG
  refine lv_iinc (v := (3 : Int32)) (lv' := [(1, .int (3 : Int32)), (0, .ref (base + (t + 0)))]) hx hb dX6_init_122 hl (k := 0) rfl (by decide) (by decide) rfl (fun ls hl => ?_)
  refine lv_goto (tgt := 109) hx hb dX6_init_125 (by decide) ?_
  refine lv_iload_n hx hb dX6_init_109 rfl (lv_at hl 0 rfl) ?_
  refine lv_bipush (v := (8 : Int32)) hx hb dX6_init_110 (by decide) ?_
  refine lv_icmp_ge (tgt := 128) hx hb dX6_init_112 (by decide) (fun c => absurd c (by decide)) (fun _ => ?_)
  refine lv_aload_n hx hb dX6_init_115 rfl (lv_at hl 1 rfl) ?_
  refine c_get (j := 0) C0 hG rfl rfl 0 (by decide) rfl w_154 dX6_init_116 ?_
  refine lv_iload_n hx hb dX6_init_119 rfl (lv_at hl 0 rfl) ?_
  refine lv_iconst (v := (3 : Int32)) hx hb dX6_init_120 (by decide) ?_
  refine c_iast (j := 1) C0 hG rfl (vp_in_iff.mpr (by decide)) dX6_init_121 (fun H locs hG => ?_)
  have hG : gCH D base s t ph [.inr (6, [.ref (base + (t + 1)), .ref (base + (t + 2)), .ref (base + (t + 3)), .ref (base + (t + 4)), .ref (base + (t + 5)), .ref (base + (t + 6)), .ref (base + (t + 7)), .ref (base + (t + 8)), .ref (base + (t + 9)), .int (0 : Int32), .int (0 : Int32), .int (0 : Int32), .int (0 : Int32), .ref (base + (t + 10))]), .inl (D.2 0, (8, .inl (upd (upd (upd (upd (fun _ => 0) (0 : Int32).toNatClampNeg (3 : Int32)) (1 : Int32).toNatClampNeg (3 : Int32)) (2 : Int32).toNatClampNeg (3 : Int32)) (3 : Int32).toNatClampNeg (3 : Int32)))), .inl (D.2 0, (8, .inl (fun _ => 0))), .inl (D.2 0, (6, .inl (fun _ => 0))), .inl (D.2 0, (6, .inl (fun _ => 0))), .inl (D.2 0, (6, .inl (fun _ => 0))), .inl (D.2 0, (6, .inl (fun _ => 0))), .inl (D.2 1, (6, .inl (fun _ => 0))), .inl (D.2 0, (24, .inl (fun _ => 0))), .inl (D.2 0, (6, .inl (fun _ => 0))), .inr (0, [.ref (base + (t + 11)), .int (0 : Int32), .int (5 : Int32)]), .inl (D.2 0, (100, .inl (fun _ => 0)))] H locs := hG
  refine lv_iinc (v := (4 : Int32)) (lv' := [(1, .int (4 : Int32)), (0, .ref (base + (t + 0)))]) hx hb dX6_init_122 hl (k := 0) rfl (by decide) (by decide) rfl (fun ls hl => ?_)
  refine lv_goto (tgt := 109) hx hb dX6_init_125 (by decide) ?_
  refine lv_iload_n hx hb dX6_init_109 rfl (lv_at hl 0 rfl) ?_
  refine lv_bipush (v := (8 : Int32)) hx hb dX6_init_110 (by decide) ?_
  refine lv_icmp_ge (tgt := 128) hx hb dX6_init_112 (by decide) (fun c => absurd c (by decide)) (fun _ => ?_)
  refine lv_aload_n hx hb dX6_init_115 rfl (lv_at hl 1 rfl) ?_
  refine c_get (j := 0) C0 hG rfl rfl 0 (by decide) rfl w_154 dX6_init_116 ?_
  refine lv_iload_n hx hb dX6_init_119 rfl (lv_at hl 0 rfl) ?_
  refine lv_iconst (v := (3 : Int32)) hx hb dX6_init_120 (by decide) ?_
  refine c_iast (j := 1) C0 hG rfl (vp_in_iff.mpr (by decide)) dX6_init_121 (fun H locs hG => ?_)
  have hG : gCH D base s t ph [.inr (6, [.ref (base + (t + 1)), .ref (base + (t + 2)), .ref (base + (t + 3)), .ref (base + (t + 4)), .ref (base + (t + 5)), .ref (base + (t + 6)), .ref (base + (t + 7)), .ref (base + (t + 8)), .ref (base + (t + 9)), .int (0 : Int32), .int (0 : Int32), .int (0 : Int32), .int (0 : Int32), .ref (base + (t + 10))]), .inl (D.2 0, (8, .inl (upd (upd (upd (upd (upd (fun _ => 0) (0 : Int32).toNatClampNeg (3 : Int32)) (1 : Int32).toNatClampNeg (3 : Int32)) (2 : Int32).toNatClampNeg (3 : Int32)) (3 : Int32).toNatClampNeg (3 : Int32)) (4 : Int32).toNatClampNeg (3 : Int32)))), .inl (D.2 0, (8, .inl (fun _ => 0))), .inl (D.2 0, (6, .inl (fun _ => 0))), .inl (D.2 0, (6, .inl (fun _ => 0))), .inl (D.2 0, (6, .inl (fun _ => 0))), .inl (D.2 0, (6, .inl (fun _ => 0))), .inl (D.2 1, (6, .inl (fun _ => 0))), .inl (D.2 0, (24, .inl (fun _ => 0))), .inl (D.2 0, (6, .inl (fun _ => 0))), .inr (0, [.ref (base + (t + 11)), .int (0 : Int32), .int (5 : Int32)]), .inl (D.2 0, (100, .inl (fun _ => 0)))] H locs := hG
  refine lv_iinc (v := (5 : Int32)) (lv' := [(1, .int (5 : Int32)), (0, .ref (base + (t + 0)))]) hx hb dX6_init_122 hl (k := 0) rfl (by decide) (by decide) rfl (fun ls hl => ?_)
  refine lv_goto (tgt := 109) hx hb dX6_init_125 (by decide) ?_
  refine lv_iload_n hx hb dX6_init_109 rfl (lv_at hl 0 rfl) ?_
  refine lv_bipush (v := (8 : Int32)) hx hb dX6_init_110 (by decide) ?_
  refine lv_icmp_ge (tgt := 128) hx hb dX6_init_112 (by decide) (fun c => absurd c (by decide)) (fun _ => ?_)
  refine lv_aload_n hx hb dX6_init_115 rfl (lv_at hl 1 rfl) ?_
  refine c_get (j := 0) C0 hG rfl rfl 0 (by decide) rfl w_154 dX6_init_116 ?_
  refine lv_iload_n hx hb dX6_init_119 rfl (lv_at hl 0 rfl) ?_
  refine lv_iconst (v := (3 : Int32)) hx hb dX6_init_120 (by decide) ?_
  refine c_iast (j := 1) C0 hG rfl (vp_in_iff.mpr (by decide)) dX6_init_121 (fun H locs hG => ?_)
  have hG : gCH D base s t ph [.inr (6, [.ref (base + (t + 1)), .ref (base + (t + 2)), .ref (base + (t + 3)), .ref (base + (t + 4)), .ref (base + (t + 5)), .ref (base + (t + 6)), .ref (base + (t + 7)), .ref (base + (t + 8)), .ref (base + (t + 9)), .int (0 : Int32), .int (0 : Int32), .int (0 : Int32), .int (0 : Int32), .ref (base + (t + 10))]), .inl (D.2 0, (8, .inl (upd (upd (upd (upd (upd (upd (fun _ => 0) (0 : Int32).toNatClampNeg (3 : Int32)) (1 : Int32).toNatClampNeg (3 : Int32)) (2 : Int32).toNatClampNeg (3 : Int32)) (3 : Int32).toNatClampNeg (3 : Int32)) (4 : Int32).toNatClampNeg (3 : Int32)) (5 : Int32).toNatClampNeg (3 : Int32)))), .inl (D.2 0, (8, .inl (fun _ => 0))), .inl (D.2 0, (6, .inl (fun _ => 0))), .inl (D.2 0, (6, .inl (fun _ => 0))), .inl (D.2 0, (6, .inl (fun _ => 0))), .inl (D.2 0, (6, .inl (fun _ => 0))), .inl (D.2 1, (6, .inl (fun _ => 0))), .inl (D.2 0, (24, .inl (fun _ => 0))), .inl (D.2 0, (6, .inl (fun _ => 0))), .inr (0, [.ref (base + (t + 11)), .int (0 : Int32), .int (5 : Int32)]), .inl (D.2 0, (100, .inl (fun _ => 0)))] H locs := hG
  refine lv_iinc (v := (6 : Int32)) (lv' := [(1, .int (6 : Int32)), (0, .ref (base + (t + 0)))]) hx hb dX6_init_122 hl (k := 0) rfl (by decide) (by decide) rfl (fun ls hl => ?_)
  refine lv_goto (tgt := 109) hx hb dX6_init_125 (by decide) ?_
  refine lv_iload_n hx hb dX6_init_109 rfl (lv_at hl 0 rfl) ?_
  refine lv_bipush (v := (8 : Int32)) hx hb dX6_init_110 (by decide) ?_
  refine lv_icmp_ge (tgt := 128) hx hb dX6_init_112 (by decide) (fun c => absurd c (by decide)) (fun _ => ?_)
  refine lv_aload_n hx hb dX6_init_115 rfl (lv_at hl 1 rfl) ?_
  refine c_get (j := 0) C0 hG rfl rfl 0 (by decide) rfl w_154 dX6_init_116 ?_
  refine lv_iload_n hx hb dX6_init_119 rfl (lv_at hl 0 rfl) ?_
  refine lv_iconst (v := (3 : Int32)) hx hb dX6_init_120 (by decide) ?_
  refine c_iast (j := 1) C0 hG rfl (vp_in_iff.mpr (by decide)) dX6_init_121 (fun H locs hG => ?_)
  have hG : gCH D base s t ph [.inr (6, [.ref (base + (t + 1)), .ref (base + (t + 2)), .ref (base + (t + 3)), .ref (base + (t + 4)), .ref (base + (t + 5)), .ref (base + (t + 6)), .ref (base + (t + 7)), .ref (base + (t + 8)), .ref (base + (t + 9)), .int (0 : Int32), .int (0 : Int32), .int (0 : Int32), .int (0 : Int32), .ref (base + (t + 10))]), .inl (D.2 0, (8, .inl (upd (upd (upd (upd (upd (upd (upd (fun _ => 0) (0 : Int32).toNatClampNeg (3 : Int32)) (1 : Int32).toNatClampNeg (3 : Int32)) (2 : Int32).toNatClampNeg (3 : Int32)) (3 : Int32).toNatClampNeg (3 : Int32)) (4 : Int32).toNatClampNeg (3 : Int32)) (5 : Int32).toNatClampNeg (3 : Int32)) (6 : Int32).toNatClampNeg (3 : Int32)))), .inl (D.2 0, (8, .inl (fun _ => 0))), .inl (D.2 0, (6, .inl (fun _ => 0))), .inl (D.2 0, (6, .inl (fun _ => 0))), .inl (D.2 0, (6, .inl (fun _ => 0))), .inl (D.2 0, (6, .inl (fun _ => 0))), .inl (D.2 1, (6, .inl (fun _ => 0))), .inl (D.2 0, (24, .inl (fun _ => 0))), .inl (D.2 0, (6, .inl (fun _ => 0))), .inr (0, [.ref (base + (t + 11)), .int (0 : Int32), .int (5 : Int32)]), .inl (D.2 0, (100, .inl (fun _ => 0)))] H locs := hG
  refine lv_iinc (v := (7 : Int32)) (lv' := [(1, .int (7 : Int32)), (0, .ref (base + (t + 0)))]) hx hb dX6_init_122 hl (k := 0) rfl (by decide) (by decide) rfl (fun ls hl => ?_)
  refine lv_goto (tgt := 109) hx hb dX6_init_125 (by decide) ?_
  refine lv_iload_n hx hb dX6_init_109 rfl (lv_at hl 0 rfl) ?_
  refine lv_bipush (v := (8 : Int32)) hx hb dX6_init_110 (by decide) ?_
  refine lv_icmp_ge (tgt := 128) hx hb dX6_init_112 (by decide) (fun c => absurd c (by decide)) (fun _ => ?_)
  refine lv_aload_n hx hb dX6_init_115 rfl (lv_at hl 1 rfl) ?_
  refine c_get (j := 0) C0 hG rfl rfl 0 (by decide) rfl w_154 dX6_init_116 ?_
  refine lv_iload_n hx hb dX6_init_119 rfl (lv_at hl 0 rfl) ?_
  refine lv_iconst (v := (3 : Int32)) hx hb dX6_init_120 (by decide) ?_
  refine c_iast (j := 1) C0 hG rfl (vp_in_iff.mpr (by decide)) dX6_init_121 (fun H locs hG => ?_)
  have hG : gCH D base s t ph [.inr (6, [.ref (base + (t + 1)), .ref (base + (t + 2)), .ref (base + (t + 3)), .ref (base + (t + 4)), .ref (base + (t + 5)), .ref (base + (t + 6)), .ref (base + (t + 7)), .ref (base + (t + 8)), .ref (base + (t + 9)), .int (0 : Int32), .int (0 : Int32), .int (0 : Int32), .int (0 : Int32), .ref (base + (t + 10))]), .inl (D.2 0, (8, .inl (upd (upd (upd (upd (upd (upd (upd (upd (fun _ => 0) (0 : Int32).toNatClampNeg (3 : Int32)) (1 : Int32).toNatClampNeg (3 : Int32)) (2 : Int32).toNatClampNeg (3 : Int32)) (3 : Int32).toNatClampNeg (3 : Int32)) (4 : Int32).toNatClampNeg (3 : Int32)) (5 : Int32).toNatClampNeg (3 : Int32)) (6 : Int32).toNatClampNeg (3 : Int32)) (7 : Int32).toNatClampNeg (3 : Int32)))), .inl (D.2 0, (8, .inl (fun _ => 0))), .inl (D.2 0, (6, .inl (fun _ => 0))), .inl (D.2 0, (6, .inl (fun _ => 0))), .inl (D.2 0, (6, .inl (fun _ => 0))), .inl (D.2 0, (6, .inl (fun _ => 0))), .inl (D.2 1, (6, .inl (fun _ => 0))), .inl (D.2 0, (24, .inl (fun _ => 0))), .inl (D.2 0, (6, .inl (fun _ => 0))), .inr (0, [.ref (base + (t + 11)), .int (0 : Int32), .int (5 : Int32)]), .inl (D.2 0, (100, .inl (fun _ => 0)))] H locs := hG
  refine lv_iinc (v := (8 : Int32)) (lv' := [(1, .int (8 : Int32)), (0, .ref (base + (t + 0)))]) hx hb dX6_init_122 hl (k := 0) rfl (by decide) (by decide) rfl (fun ls hl => ?_)
  refine lv_goto (tgt := 109) hx hb dX6_init_125 (by decide) ?_
  refine lv_iload_n hx hb dX6_init_109 rfl (lv_at hl 0 rfl) ?_
  refine lv_bipush (v := (8 : Int32)) hx hb dX6_init_110 (by decide) ?_
  refine lv_icmp_ge (tgt := 128) hx hb dX6_init_112 (by decide) (fun _ => ?_) (fun c => absurd (by decide) c)
  subst hQ
  exact c_ret C0 hG hr dX6_init_128
