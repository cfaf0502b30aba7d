theorem dX8_can_0 : decode cX8_can 0 = .ok (.aload_n 0, 1) := by decide +kernel
theorem dX8_can_1 : decode cX8_can 1 = .ok (.iload_n 1, 1) := by decide +kernel
theorem dX8_can_2 : decode cX8_can 2 = .ok (.iconst 0, 1) := by decide +kernel
theorem dX8_can_3 : decode cX8_can 3 = .ok (.iconst 1, 1) := by decide +kernel
theorem dX8_can_4 : decode cX8_can 4 = .ok (.invokevirtual 249, 3) := by decide +kernel
theorem dX8_can_7 : decode cX8_can 7 = .ok (.ifCond .eq 36, 3) := by decide +kernel
theorem dX8_can_10 : decode cX8_can 10 = .ok (.iload_n 1, 1) := by decide +kernel
theorem dX8_can_11 : decode cX8_can 11 = .ok (.ifCond .ne 14, 3) := by decide +kernel
theorem dX8_can_14 : decode cX8_can 14 = .ok (.aload_n 0, 1) := by decide +kernel
theorem dX8_can_15 : decode cX8_can 15 = .ok (.iload_n 2, 1) := by decide +kernel
theorem dX8_can_16 : decode cX8_can 16 = .ok (.invokevirtual 260, 3) := by decide +kernel
theorem dX8_can_19 : decode cX8_can 19 = .ok (.ifCond .eq 24, 3) := by decide +kernel
theorem dX8_can_22 : decode cX8_can 22 = .ok (.goto 11, 3) := by decide +kernel
theorem dX8_can_25 : decode cX8_can 25 = .ok (.aload_n 0, 1) := by decide +kernel
theorem dX8_can_26 : decode cX8_can 26 = .ok (.iload_n 2, 1) := by decide +kernel
theorem dX8_can_27 : decode cX8_can 27 = .ok (.invokevirtual 267, 3) := by decide +kernel
theorem dX8_can_30 : decode cX8_can 30 = .ok (.ifCond .eq 13, 3) := by decide +kernel
theorem dX8_can_33 : decode cX8_can 33 = .ok (.aload_n 0, 1) := by decide +kernel
theorem dX8_can_34 : decode cX8_can 34 = .ok (.iload_n 3, 1) := by decide +kernel
theorem dX8_can_35 : decode cX8_can 35 = .ok (.iconst 0, 1) := by decide +kernel
theorem dX8_can_36 : decode cX8_can 36 = .ok (.iconst 1, 1) := by decide +kernel
theorem dX8_can_37 : decode cX8_can 37 = .ok (.invokevirtual 249, 3) := by decide +kernel
theorem dX8_can_40 : decode cX8_can 40 = .ok (.ifCond .ne 5, 3) := by decide +kernel
theorem dX8_can_43 : decode cX8_can 43 = .ok (.iconst (-1), 1) := by decide +kernel
theorem dX8_can_44 : decode cX8_can 44 = .ok (.ireturn, 1) := by decide +kernel
theorem dX8_can_45 : decode cX8_can 45 = .ok (.iload_n 1, 1) := by decide +kernel
theorem dX8_can_46 : decode cX8_can 46 = .ok (.ifCond .ne 12, 3) := by decide +kernel
theorem dX8_can_49 : decode cX8_can 49 = .ok (.aload_n 0, 1) := by decide +kernel
theorem dX8_can_50 : decode cX8_can 50 = .ok (.iload_n 2, 1) := by decide +kernel
theorem dX8_can_51 : decode cX8_can 51 = .ok (.iload_n 3, 1) := by decide +kernel
theorem dX8_can_52 : decode cX8_can 52 = .ok (.invokevirtual 383, 3) := by decide +kernel
theorem dX8_can_55 : decode cX8_can 55 = .ok (.goto 9, 3) := by decide +kernel
theorem dX8_can_58 : decode cX8_can 58 = .ok (.aload_n 0, 1) := by decide +kernel
theorem dX8_can_59 : decode cX8_can 59 = .ok (.iload_n 2, 1) := by decide +kernel
theorem dX8_can_60 : decode cX8_can 60 = .ok (.iload_n 3, 1) := by decide +kernel
theorem dX8_can_61 : decode cX8_can 61 = .ok (.invokevirtual 386, 3) := by decide +kernel
theorem dX8_can_64 : decode cX8_can 64 = .ok (.ireturn, 1) := by decide +kernel
def f_X8_can (p1 : Int32) (p2 : Int32) (p3 : Int32) (u : Mem) : Option (Int32 × Mem) := Option.bind (f_X8_in p1 (0 : Int32) (1 : Int32)) (fun r1 => (if r1 = 0 then some ((-1 : Int32), u) else (if p1 = 0 then Option.bind (f_X8_isOne p2 u) (fun r11 => (if r11 = 0 then some ((-1 : Int32), u) else Option.bind (f_X8_in p3 (0 : Int32) (1 : Int32)) (fun r13 => (if r13 = 0 then some ((-1 : Int32), u) else (if p1 = 0 then obind (f_X8_canOne p2 p3 u) (fun r17 u17 => some (r17, u17)) else obind (f_X8_stale p2 p3 u) (fun r16 u16 => some (r16, u16))))))) else Option.bind (f_X8_isTale p2) (fun r4 => (if r4 = 0 then some ((-1 : Int32), u) else Option.bind (f_X8_in p3 (0 : Int32) (1 : Int32)) (fun r6 => (if r6 = 0 then some ((-1 : Int32), u) else (if p1 = 0 then obind (f_X8_canOne p2 p3 u) (fun r10 u10 => some (r10, u10)) else obind (f_X8_stale p2 p3 u) (fun r9 u9 => some (r9, u9))))))))))
set_option maxHeartbeats 4000000 in
set_option maxRecDepth 100000 in
theorem k_X8_can (l : Launch) (D : gDt) (base : Nat) (Z : gZt) (u : Mem) (p1 : Int32) (p2 : Int32) (p3 : Int32) (r : Int32) (u' : Mem) (hf : f_X8_can p1 p2 p3 u = some (r, u')) : Met l yX8_can (gws yX8_can cX8_can 4 (some .int)) (gRm 7 0 0) (gPc D base Z u [.ref (base + 82), .int p1, .int p2, .int p3]) (gQi D base r u') 0 0 (gF base) := by
  refine Met.ofW (cc := cX8_can) (maxL := 4) (ret := some .int) (by decide) rfl ?_
  intro p e s m args below meth c s₁ B hml hv
  obtain ⟨rfl, C0, hG⟩ := g_enter B hml hv
  have hr := B.returns
  have C0 : gC p s m meth c _ cX8_can 4 RX8 D base Z := C0
  have hx := C0.1
  have hb := C0.2.1
  have hl := lv_entry ([.ref (base + 82), .int p1, .int p2, .int p3]) (n := 4) (Nat.le_of_ble_eq_true rfl)
  rw [lg_entry_eq]
  generalize (lg_sl ([.ref (base + 82), .int p1, .int p2, .int p3]) ++ List.replicate (4 - (lg_sl ([.ref (base + 82), .int p1, .int p2, .int p3])).length) Slot.unset).toArray = ls at hl ⊢
  have hl : lv_has ls 4 [(0, .ref (base + 82)), (1, .int p1), (2, .int p2), (3, .int p3)] := hl
  obtain ⟨Q, hQ⟩ : ∃ Q, Q = MQ below (gQi D base r u') ([.ref (base + 82), .int p1, .int p2, .int p3] : List Value).toArray s 0 0 (gF base) := ⟨_, rfl⟩
  rw [← hQ]
  change W p l e (gRm 7 0 0) s m _ below meth c _ _ _ _ _ _
  unfold f_X8_can at hf
  refine lv_aload_n hx hb dX8_can_0 rfl (lv_at hl 0 rfl) ?_
  refine lv_iload_n hx hb dX8_can_1 rfl (lv_at hl 1 rfl) ?_
  refine lv_iconst (v := (0 : Int32)) hx hb dX8_can_2 (by decide) ?_
  refine lv_iconst (v := (1 : Int32)) hx hb dX8_can_3 (by decide) ?_
  obtain ⟨r1, hc1, hf⟩ := pb_s hf
  refine g_doI0 hG (g_runV C0 hG (k_X8_in l D base Z u p1 (0 : Int32) (1 : Int32) r1 hc1) m_X8_in v_X8_in w_1082 (by decide) (g_recv C0 hG (L82 hG) rfl) rfl hl.1 rfl (Nat.le_of_ble_eq_true rfl) dX8_can_4 ⟨Nat.zero_le _, Nat.zero_le _⟩) (fun H locs hG hk => ?_)
  refine lv_if_eq (tgt := 43) hx hb dX8_can_7 (by decide) (fun c2 => ?_) (fun c2 => ?_)
  · have hf := gif_t c2 hf
    refine lv_iconst (v := (-1 : Int32)) hx hb dX8_can_43 (by decide) ?_
    obtain ⟨hr1, hu⟩ := gret_s hf
    subst hr1
    subst hu
    subst hQ
    exact g_iret C0 hG hr dX8_can_44
  · have hf := gif_f c2 hf
    refine lv_iload_n hx hb dX8_can_10 rfl (lv_at hl 1 rfl) ?_
    refine lv_if_ne (tgt := 25) hx hb dX8_can_11 (by decide) (fun c3 => ?_) (fun c3 => ?_)
    · have hf := gif_f c3 hf
      refine lv_aload_n hx hb dX8_can_25 rfl (lv_at hl 0 rfl) ?_
      refine lv_iload_n hx hb dX8_can_26 rfl (lv_at hl 2 rfl) ?_
      obtain ⟨r4, hc4, hf⟩ := pb_s hf
      refine g_doI0 hG (g_runV C0 hG (k_X8_isTale l D base Z u p2 r4 hc4) m_X8_isTale v_X8_isTale w_1122 (by decide) (g_recv C0 hG (L82 hG) rfl) rfl hl.1 rfl (Nat.le_of_ble_eq_true rfl) dX8_can_27 ⟨Nat.zero_le _, Nat.zero_le _⟩) (fun H locs hG hk => ?_)
      refine lv_if_eq (tgt := 43) hx hb dX8_can_30 (by decide) (fun c5 => ?_) (fun c5 => ?_)
      · have hf := gif_t c5 hf
        refine lv_iconst (v := (-1 : Int32)) hx hb dX8_can_43 (by decide) ?_
        obtain ⟨hr1, hu⟩ := gret_s hf
        subst hr1
        subst hu
        subst hQ
        exact g_iret C0 hG hr dX8_can_44
      · have hf := gif_f c5 hf
        refine lv_aload_n hx hb dX8_can_33 rfl (lv_at hl 0 rfl) ?_
        refine lv_iload_n hx hb dX8_can_34 rfl (lv_at hl 3 rfl) ?_
        refine lv_iconst (v := (0 : Int32)) hx hb dX8_can_35 (by decide) ?_
        refine lv_iconst (v := (1 : Int32)) hx hb dX8_can_36 (by decide) ?_
        obtain ⟨r6, hc6, hf⟩ := pb_s hf
        refine g_doI0 hG (g_runV C0 hG (k_X8_in l D base Z u p3 (0 : Int32) (1 : Int32) r6 hc6) m_X8_in v_X8_in w_1082 (by decide) (g_recv C0 hG (L82 hG) rfl) rfl hl.1 rfl (Nat.le_of_ble_eq_true rfl) dX8_can_37 ⟨Nat.zero_le _, Nat.zero_le _⟩) (fun H locs hG hk => ?_)
        refine lv_if_ne (tgt := 45) hx hb dX8_can_40 (by decide) (fun c7 => ?_) (fun c7 => ?_)
        · have hf := gif_f c7 hf
          refine lv_iload_n hx hb dX8_can_45 rfl (lv_at hl 1 rfl) ?_
          refine lv_if_ne (tgt := 58) hx hb dX8_can_46 (by decide) (fun c8 => ?_) (fun c8 => ?_)
          · have hf := gif_f c8 hf
            refine lv_aload_n hx hb dX8_can_58 rfl (lv_at hl 0 rfl) ?_
            refine lv_iload_n hx hb dX8_can_59 rfl (lv_at hl 2 rfl) ?_
            refine lv_iload_n hx hb dX8_can_60 rfl (lv_at hl 3 rfl) ?_
            obtain ⟨r9, u9, hc9, hf⟩ := obind_s hf
            refine g_doI0 hG (g_runV C0 hG (k_X8_stale l D base Z u p2 p3 r9 u9 hc9) m_X8_stale v_X8_stale w_1319 (by decide) (g_recv C0 hG (L82 hG) rfl) rfl hl.1 rfl (Nat.le_of_ble_eq_true rfl) dX8_can_61 ⟨Nat.zero_le _, Nat.zero_le _⟩) (fun H locs hG hk => ?_)
            obtain ⟨hr1, hu⟩ := gret_s hf
            subst hr1
            subst hu
            subst hQ
            exact g_iret C0 hG hr dX8_can_64
          · have hf := gif_t c8 hf
            refine lv_aload_n hx hb dX8_can_49 rfl (lv_at hl 0 rfl) ?_
            refine lv_iload_n hx hb dX8_can_50 rfl (lv_at hl 2 rfl) ?_
            refine lv_iload_n hx hb dX8_can_51 rfl (lv_at hl 3 rfl) ?_
            obtain ⟨r10, u10, hc10, hf⟩ := obind_s hf
            refine g_doI0 hG (g_runV C0 hG (k_X8_canOne l D base Z u p2 p3 r10 u10 hc10) m_X8_canOne v_X8_canOne w_1311 (by decide) (g_recv C0 hG (L82 hG) rfl) rfl hl.1 rfl (Nat.le_of_ble_eq_true rfl) dX8_can_52 ⟨Nat.zero_le _, Nat.zero_le _⟩) (fun H locs hG hk => ?_)
            refine lv_goto (tgt := 64) hx hb dX8_can_55 (by decide) ?_
            obtain ⟨hr1, hu⟩ := gret_s hf
            subst hr1
            subst hu
            subst hQ
            exact g_iret C0 hG hr dX8_can_64
        · have hf := gif_t c7 hf
          refine lv_iconst (v := (-1 : Int32)) hx hb dX8_can_43 (by decide) ?_
          obtain ⟨hr1, hu⟩ := gret_s hf
          subst hr1
          subst hu
          subst hQ
          exact g_iret C0 hG hr dX8_can_44
    · have hf := gif_t c3 hf
      refine lv_aload_n hx hb dX8_can_14 rfl (lv_at hl 0 rfl) ?_
      refine lv_iload_n hx hb dX8_can_15 rfl (lv_at hl 2 rfl) ?_
      obtain ⟨r11, hc11, hf⟩ := pb_s hf
      refine g_doI0 hG (g_runV C0 hG (k_X8_isOne l D base Z u p2 r11 hc11) m_X8_isOne v_X8_isOne w_1098 (by decide) (g_recv C0 hG (L82 hG) rfl) rfl hl.1 rfl (Nat.le_of_ble_eq_true rfl) dX8_can_16 ⟨Nat.zero_le _, Nat.zero_le _⟩) (fun H locs hG hk => ?_)
      refine lv_if_eq (tgt := 43) hx hb dX8_can_19 (by decide) (fun c12 => ?_) (fun c12 => ?_)
      · have hf := gif_t c12 hf
        refine lv_iconst (v := (-1 : Int32)) hx hb dX8_can_43 (by decide) ?_
        obtain ⟨hr1, hu⟩ := gret_s hf
        subst hr1
        subst hu
        subst hQ
        exact g_iret C0 hG hr dX8_can_44
      · have hf := gif_f c12 hf
        refine lv_goto (tgt := 33) hx hb dX8_can_22 (by decide) ?_
        refine lv_aload_n hx hb dX8_can_33 rfl (lv_at hl 0 rfl) ?_
        refine lv_iload_n hx hb dX8_can_34 rfl (lv_at hl 3 rfl) ?_
        refine lv_iconst (v := (0 : Int32)) hx hb dX8_can_35 (by decide) ?_
        refine lv_iconst (v := (1 : Int32)) hx hb dX8_can_36 (by decide) ?_
        obtain ⟨r13, hc13, hf⟩ := pb_s hf
        refine g_doI0 hG (g_runV C0 hG (k_X8_in l D base Z u p3 (0 : Int32) (1 : Int32) r13 hc13) m_X8_in v_X8_in w_1082 (by decide) (g_recv C0 hG (L82 hG) rfl) rfl hl.1 rfl (Nat.le_of_ble_eq_true rfl) dX8_can_37 ⟨Nat.zero_le _, Nat.zero_le _⟩) (fun H locs hG hk => ?_)
        refine lv_if_ne (tgt := 45) hx hb dX8_can_40 (by decide) (fun c14 => ?_) (fun c14 => ?_)
        · have hf := gif_f c14 hf
          refine lv_iload_n hx hb dX8_can_45 rfl (lv_at hl 1 rfl) ?_
          refine lv_if_ne (tgt := 58) hx hb dX8_can_46 (by decide) (fun c15 => ?_) (fun c15 => ?_)
          · have hf := gif_f c15 hf
            refine lv_aload_n hx hb dX8_can_58 rfl (lv_at hl 0 rfl) ?_
            refine lv_iload_n hx hb dX8_can_59 rfl (lv_at hl 2 rfl) ?_
            refine lv_iload_n hx hb dX8_can_60 rfl (lv_at hl 3 rfl) ?_
            obtain ⟨r16, u16, hc16, hf⟩ := obind_s hf
            refine g_doI0 hG (g_runV C0 hG (k_X8_stale l D base Z u p2 p3 r16 u16 hc16) m_X8_stale v_X8_stale w_1319 (by decide) (g_recv C0 hG (L82 hG) rfl) rfl hl.1 rfl (Nat.le_of_ble_eq_true rfl) dX8_can_61 ⟨Nat.zero_le _, Nat.zero_le _⟩) (fun H locs hG hk => ?_)
            obtain ⟨hr1, hu⟩ := gret_s hf
            subst hr1
            subst hu
            subst hQ
            exact g_iret C0 hG hr dX8_can_64
          · have hf := gif_t c15 hf
            refine lv_aload_n hx hb dX8_can_49 rfl (lv_at hl 0 rfl) ?_
            refine lv_iload_n hx hb dX8_can_50 rfl (lv_at hl 2 rfl) ?_
            refine lv_iload_n hx hb dX8_can_51 rfl (lv_at hl 3 rfl) ?_
            obtain ⟨r17, u17, hc17, hf⟩ := obind_s hf
            refine g_doI0 hG (g_runV C0 hG (k_X8_canOne l D base Z u p2 p3 r17 u17 hc17) m_X8_canOne v_X8_canOne w_1311 (by decide) (g_recv C0 hG (L82 hG) rfl) rfl hl.1 rfl (Nat.le_of_ble_eq_true rfl) dX8_can_52 ⟨Nat.zero_le _, Nat.zero_le _⟩) (fun H locs hG hk => ?_)
            refine lv_goto (tgt := 64) hx hb dX8_can_55 (by decide) ?_
            obtain ⟨hr1, hu⟩ := gret_s hf
            subst hr1
            subst hu
            subst hQ
            exact g_iret C0 hG hr dX8_can_64
        · have hf := gif_t c14 hf
          refine lv_iconst (v := (-1 : Int32)) hx hb dX8_can_43 (by decide) ?_
          obtain ⟨hr1, hu⟩ := gret_s hf
          subst hr1
          subst hu
          subst hQ
          exact g_iret C0 hG hr dX8_can_44
theorem dX8_divisor_0 : decode cX8_divisor 0 = .ok (.iload_n 1, 1) := by decide +kernel
theorem dX8_divisor_1 : decode cX8_divisor 1 = .ok (.istore_n 3, 1) := by decide +kernel
theorem dX8_divisor_2 : decode cX8_divisor 2 = .ok (.iload_n 2, 1) := by decide +kernel
theorem dX8_divisor_3 : decode cX8_divisor 3 = .ok (.istore 4, 2) := by decide +kernel
theorem dX8_divisor_5 : decode cX8_divisor 5 = .ok (.iload 4, 2) := by decide +kernel
theorem dX8_divisor_7 : decode cX8_divisor 7 = .ok (.ifCond .eq 19, 3) := by decide +kernel
theorem dX8_divisor_10 : decode cX8_divisor 10 = .ok (.iload_n 3, 1) := by decide +kernel
theorem dX8_divisor_11 : decode cX8_divisor 11 = .ok (.iload 4, 2) := by decide +kernel
theorem dX8_divisor_13 : decode cX8_divisor 13 = .ok (.irem, 1) := by decide +kernel
theorem dX8_divisor_14 : decode cX8_divisor 14 = .ok (.istore 5, 2) := by decide +kernel
theorem dX8_divisor_16 : decode cX8_divisor 16 = .ok (.iload 4, 2) := by decide +kernel
theorem dX8_divisor_18 : decode cX8_divisor 18 = .ok (.istore_n 3, 1) := by decide +kernel
theorem dX8_divisor_19 : decode cX8_divisor 19 = .ok (.iload 5, 2) := by decide +kernel
theorem dX8_divisor_21 : decode cX8_divisor 21 = .ok (.istore 4, 2) := by decide +kernel
theorem dX8_divisor_23 : decode cX8_divisor 23 = .ok (.goto (-18), 3) := by decide +kernel
theorem dX8_divisor_26 : decode cX8_divisor 26 = .ok (.iload_n 3, 1) := by decide +kernel
theorem dX8_divisor_27 : decode cX8_divisor 27 = .ok (.ireturn, 1) := by decide +kernel
def f_X8_divisor_L5 (x3_1 : Int32) (x4_1 : Int32) : Option ((Int32 × Int32) ⊕ Int32) := (if x4_1 = 0 then some (Sum.inr (x3_1)) else gne x4_1 (some (Sum.inl (x4_1, x3_1 - x3_1 / x4_1 * x4_1))))
def f_X8_divisor (p1 : Int32) (p2 : Int32) : Option (Int32) := whileO (fun s => f_X8_divisor_L5 s.1 s.2) FUEL (p1, p2)
set_option maxHeartbeats 4000000 in
set_option maxRecDepth 100000 in
theorem k_X8_divisor (l : Launch) (D : gDt) (base : Nat) (Z : gZt) (u : Mem) (p1 : Int32) (p2 : Int32) (r : Int32) (hf : f_X8_divisor p1 p2 = some r) : Met l yX8_divisor (gws yX8_divisor cX8_divisor 6 (some .int)) (gRm 1 0 0) (gPc D base Z u [.ref (base + 82), .int p1, .int p2]) (gQi D base r u) 0 0 (gF base) := by
  refine Met.ofW (cc := cX8_divisor) (maxL := 6) (ret := some .int) (by decide) rfl ?_
  intro p e s m args below meth c s₁ B hml hv
  obtain ⟨rfl, C0, hG⟩ := g_enter B hml hv
  have hr := B.returns
  have C0 : gC p s m meth c _ cX8_divisor 6 RX8 D base Z := C0
  have hx := C0.1
  have hb := C0.2.1
  have hl := lv_entry ([.ref (base + 82), .int p1, .int p2]) (n := 6) (Nat.le_of_ble_eq_true rfl)
  rw [lg_entry_eq]
  generalize (lg_sl ([.ref (base + 82), .int p1, .int p2]) ++ List.replicate (6 - (lg_sl ([.ref (base + 82), .int p1, .int p2])).length) Slot.unset).toArray = ls at hl ⊢
  have hl : lv_has ls 6 [(0, .ref (base + 82)), (1, .int p1), (2, .int p2)] := hl
  obtain ⟨Q, hQ⟩ : ∃ Q, Q = MQ below (gQi D base r u) ([.ref (base + 82), .int p1, .int p2] : List Value).toArray s 0 0 (gF base) := ⟨_, rfl⟩
  rw [← hQ]
  change W p l e (gRm 1 0 0) s m _ below meth c _ _ _ _ _ _
  unfold f_X8_divisor at hf
  refine lv_iload_n hx hb dX8_divisor_0 rfl (lv_at hl 1 rfl) ?_
  refine lv_istore_n (lv' := [(3, .int p1), (0, .ref (base + 82)), (1, .int p1), (2, .int p2)]) hx hb dX8_divisor_1 rfl hl (by decide) rfl (fun ls hl => ?_)
  refine lv_iload_n hx hb dX8_divisor_2 rfl (lv_at hl 3 rfl) ?_
  refine lv_istore (lv' := [(4, .int p2), (3, .int p1), (0, .ref (base + 82)), (1, .int p1), (2, .int p2)]) hx hb dX8_divisor_3 hl (by decide) rfl (fun ls hl => ?_)
  have loop1 : ∀ (n1 : Nat) (x3_1 : Int32) (x4_1 : Int32) (H : Heap) (locs : List Loc) (ls : Array Slot), gH D base s u H locs → lv_has ls 6 [(3, .int x3_1), (4, .int x4_1)] → whileO (fun s => f_X8_divisor_L5 s.1 s.2) n1 (x3_1, x4_1) = some r → W p l e (gRm 1 0 0) s m ([.ref (base + 82), .int p1, .int p2] : List Value).toArray below meth c H locs 0 0 Q (F0 m 5 ls []) := by
    intro n1
    induction n1 with
    | zero => intro x3_1 x4_1 H locs ls hG hl hf; cases hf
    | succ n1 ih1 =>
      intro x3_1 x4_1 H locs ls hG hl hf
      obtain ⟨X1, hf, hX1⟩ := while_s hf
      have hf : f_X8_divisor_L5 x3_1 x4_1 = some X1 := hf
      unfold f_X8_divisor_L5 at hf
      refine lv_iload hx hb dX8_divisor_5 (lv_at hl 1 rfl) ?_
      refine lv_if_eq (tgt := 26) hx hb dX8_divisor_7 (by decide) (fun c2 => ?_) (fun c2 => ?_)
      · have hf := gif_t c2 hf
        refine lv_iload_n hx hb dX8_divisor_26 rfl (lv_at hl 0 rfl) ?_
        have hf := while_r hX1 hf
        have hf := Option.some.inj hf
        subst hf
        subst hQ
        exact g_iret C0 hG hr dX8_divisor_27
      · have hf := gif_f c2 hf
        refine lv_iload_n hx hb dX8_divisor_10 rfl (lv_at hl 0 rfl) ?_
        refine lv_iload hx hb dX8_divisor_11 (lv_at hl 1 rfl) ?_
        obtain ⟨h3, hf⟩ := gne_s hf
        refine lv_irem hx hb dX8_divisor_13 h3 ?_
        refine lv_istore (lv' := [(5, .int (x3_1 - x3_1 / x4_1 * x4_1)), (3, .int x3_1), (4, .int x4_1)]) hx hb dX8_divisor_14 hl (by decide) rfl (fun ls hl => ?_)
        refine lv_iload hx hb dX8_divisor_16 (lv_at hl 2 rfl) ?_
        refine lv_istore_n (lv' := [(3, .int x4_1), (5, .int (x3_1 - x3_1 / x4_1 * x4_1)), (4, .int x4_1)]) hx hb dX8_divisor_18 rfl hl (by decide) rfl (fun ls hl => ?_)
        refine lv_iload hx hb dX8_divisor_19 (lv_at hl 1 rfl) ?_
        refine lv_istore (lv' := [(4, .int (x3_1 - x3_1 / x4_1 * x4_1)), (3, .int x4_1), (5, .int (x3_1 - x3_1 / x4_1 * x4_1))]) hx hb dX8_divisor_21 hl (by decide) rfl (fun ls hl => ?_)
        refine lv_goto (tgt := 5) hx hb dX8_divisor_23 (by decide) ?_
        have hf := while_l hX1 hf
        exact ih1 x4_1 (x3_1 - x3_1 / x4_1 * x4_1) _ _ ls hG (lv_sub hl [1, 0] rfl) hf
  exact loop1 FUEL p1 p2 _ _ ls hG (lv_sub hl [1, 0] rfl) hf
theorem dX8_lowest_0 : decode cX8_lowest 0 = .ok (.aload_n 0, 1) := by decide +kernel
theorem dX8_lowest_1 : decode cX8_lowest 1 = .ok (.iload_n 1, 1) := by decide +kernel
theorem dX8_lowest_2 : decode cX8_lowest 2 = .ok (.iload_n 2, 1) := by decide +kernel
theorem dX8_lowest_3 : decode cX8_lowest 3 = .ok (.invokevirtual 389, 3) := by decide +kernel
theorem dX8_lowest_6 : decode cX8_lowest 6 = .ok (.istore 4, 2) := by decide +kernel
theorem dX8_lowest_8 : decode cX8_lowest 8 = .ok (.iload_n 3, 1) := by decide +kernel
theorem dX8_lowest_9 : decode cX8_lowest 9 = .ok (.ifCond .ne 11, 3) := by decide +kernel
theorem dX8_lowest_12 : decode cX8_lowest 12 = .ok (.iload_n 1, 1) := by decide +kernel
theorem dX8_lowest_13 : decode cX8_lowest 13 = .ok (.iload 4, 2) := by decide +kernel
theorem dX8_lowest_15 : decode cX8_lowest 15 = .ok (.idiv, 1) := by decide +kernel
theorem dX8_lowest_16 : decode cX8_lowest 16 = .ok (.i2l, 1) := by decide +kernel
theorem dX8_lowest_17 : decode cX8_lowest 17 = .ok (.goto 8, 3) := by decide +kernel
theorem dX8_lowest_20 : decode cX8_lowest 20 = .ok (.iload_n 2, 1) := by decide +kernel
theorem dX8_lowest_21 : decode cX8_lowest 21 = .ok (.iload 4, 2) := by decide +kernel
theorem dX8_lowest_23 : decode cX8_lowest 23 = .ok (.idiv, 1) := by decide +kernel
theorem dX8_lowest_24 : decode cX8_lowest 24 = .ok (.i2l, 1) := by decide +kernel
theorem dX8_lowest_25 : decode cX8_lowest 25 = .ok (.lreturn, 1) := by decide +kernel
def f_X8_lowest (p1 : Int32) (p2 : Int32) (p3 : Int32) : Option (Int64) := Option.bind (f_X8_divisor p1 p2) (fun r1 => (if p3 = 0 then gne r1 (some ((p1 / r1).toInt64)) else gne r1 (some ((p2 / r1).toInt64))))
set_option maxHeartbeats 4000000 in
set_option maxRecDepth 100000 in
theorem k_X8_lowest (l : Launch) (D : gDt) (base : Nat) (Z : gZt) (u : Mem) (p1 : Int32) (p2 : Int32) (p3 : Int32) (r : Int64) (hf : f_X8_lowest p1 p2 p3 = some r) : Met l yX8_lowest (gws yX8_lowest cX8_lowest 5 (some .long)) (gRm 2 0 0) (gPc D base Z u [.ref (base + 82), .int p1, .int p2, .int p3]) (gQl D base r u) 0 0 (gF base) := by
  refine Met.ofW (cc := cX8_lowest) (maxL := 5) (ret := some .long) (by decide) rfl ?_
  intro p e s m args below meth c s₁ B hml hv
  obtain ⟨rfl, C0, hG⟩ := g_enter B hml hv
  have hr := B.returns
  have C0 : gC p s m meth c _ cX8_lowest 5 RX8 D base Z := C0
  have hx := C0.1
  have hb := C0.2.1
  have hl := lv_entry ([.ref (base + 82), .int p1, .int p2, .int p3]) (n := 5) (Nat.le_of_ble_eq_true rfl)
  rw [lg_entry_eq]
  generalize (lg_sl ([.ref (base + 82), .int p1, .int p2, .int p3]) ++ List.replicate (5 - (lg_sl ([.ref (base + 82), .int p1, .int p2, .int p3])).length) Slot.unset).toArray = ls at hl ⊢
  have hl : lv_has ls 5 [(0, .ref (base + 82)), (1, .int p1), (2, .int p2), (3, .int p3)] := hl
  obtain ⟨Q, hQ⟩ : ∃ Q, Q = MQ below (gQl D base r u) ([.ref (base + 82), .int p1, .int p2, .int p3] : List Value).toArray s 0 0 (gF base) := ⟨_, rfl⟩
  rw [← hQ]
  change W p l e (gRm 2 0 0) s m _ below meth c _ _ _ _ _ _
  unfold f_X8_lowest at hf
  refine lv_aload_n hx hb dX8_lowest_0 rfl (lv_at hl 0 rfl) ?_
  refine lv_iload_n hx hb dX8_lowest_1 rfl (lv_at hl 1 rfl) ?_
  refine lv_iload_n hx hb dX8_lowest_2 rfl (lv_at hl 2 rfl) ?_
  obtain ⟨r1, hc1, hf⟩ := pb_s hf
  refine g_doI0 hG (g_runV C0 hG (k_X8_divisor l D base Z u p1 p2 r1 hc1) m_X8_divisor v_X8_divisor w_1332 (by decide) (g_recv C0 hG (L82 hG) rfl) rfl hl.1 rfl (Nat.le_of_ble_eq_true rfl) dX8_lowest_3 ⟨Nat.zero_le _, Nat.zero_le _⟩) (fun H locs hG hk => ?_)
  refine lv_istore (lv' := [(4, .int r1), (0, .ref (base + 82)), (1, .int p1), (2, .int p2), (3, .int p3)]) hx hb dX8_lowest_6 hl (by decide) rfl (fun ls hl => ?_)
  refine lv_iload_n hx hb dX8_lowest_8 rfl (lv_at hl 4 rfl) ?_
  refine lv_if_ne (tgt := 20) hx hb dX8_lowest_9 (by decide) (fun c2 => ?_) (fun c2 => ?_)
  · have hf := gif_f c2 hf
    refine lv_iload_n hx hb dX8_lowest_20 rfl (lv_at hl 3 rfl) ?_
    refine lv_iload hx hb dX8_lowest_21 (lv_at hl 0 rfl) ?_
    obtain ⟨h3, hf⟩ := gne_s hf
    refine lv_idiv hx hb dX8_lowest_23 h3 ?_
    refine lv_i2l (v := (p2 / r1).toInt64) hx hb dX8_lowest_24 rfl ?_
    have hf := Option.some.inj hf
    subst hf
    subst hQ
    exact g_lret C0 hG hr dX8_lowest_25
  · have hf := gif_t c2 hf
    refine lv_iload_n hx hb dX8_lowest_12 rfl (lv_at hl 2 rfl) ?_
    refine lv_iload hx hb dX8_lowest_13 (lv_at hl 0 rfl) ?_
    obtain ⟨h4, hf⟩ := gne_s hf
    refine lv_idiv hx hb dX8_lowest_15 h4 ?_
    refine lv_i2l (v := (p1 / r1).toInt64) hx hb dX8_lowest_16 rfl ?_
    refine lv_goto (tgt := 25) hx hb dX8_lowest_17 (by decide) ?_
    have hf := Option.some.inj hf
    subst hf
    subst hQ
    exact g_lret C0 hG hr dX8_lowest_25
theorem dX8_odds_0 : decode cX8_odds 0 = .ok (.aload_n 0, 1) := by decide +kernel
theorem dX8_odds_1 : decode cX8_odds 1 = .ok (.iload_n 1, 1) := by decide +kernel
theorem dX8_odds_2 : decode cX8_odds 2 = .ok (.invokevirtual 260, 3) := by decide +kernel
theorem dX8_odds_5 : decode cX8_odds 5 = .ok (.ifCond .eq 24, 3) := by decide +kernel
theorem dX8_odds_8 : decode cX8_odds 8 = .ok (.aload_n 0, 1) := by decide +kernel
theorem dX8_odds_9 : decode cX8_odds 9 = .ok (.iload_n 2, 1) := by decide +kernel
theorem dX8_odds_10 : decode cX8_odds 10 = .ok (.iconst 0, 1) := by decide +kernel
theorem dX8_odds_11 : decode cX8_odds 11 = .ok (.bipush 10, 2) := by decide +kernel
theorem dX8_odds_13 : decode cX8_odds 13 = .ok (.invokevirtual 249, 3) := by decide +kernel
theorem dX8_odds_16 : decode cX8_odds 16 = .ok (.ifCond .eq 13, 3) := by decide +kernel
theorem dX8_odds_19 : decode cX8_odds 19 = .ok (.aload_n 0, 1) := by decide +kernel
theorem dX8_odds_20 : decode cX8_odds 20 = .ok (.iload_n 3, 1) := by decide +kernel
theorem dX8_odds_21 : decode cX8_odds 21 = .ok (.iconst 0, 1) := by decide +kernel
theorem dX8_odds_22 : decode cX8_odds 22 = .ok (.iconst 1, 1) := by decide +kernel
theorem dX8_odds_23 : decode cX8_odds 23 = .ok (.invokevirtual 249, 3) := by decide +kernel
theorem dX8_odds_26 : decode cX8_odds 26 = .ok (.ifCond .ne 7, 3) := by decide +kernel
theorem dX8_odds_29 : decode cX8_odds 29 = .ok (.ldc2_w 392, 3) := by decide +kernel
theorem dX8_odds_32 : decode cX8_odds 32 = .ok (.lreturn, 1) := by decide +kernel
theorem dX8_odds_33 : decode cX8_odds 33 = .ok (.aload_n 0, 1) := by decide +kernel
theorem dX8_odds_34 : decode cX8_odds 34 = .ok (.iload_n 2, 1) := by decide +kernel
theorem dX8_odds_35 : decode cX8_odds 35 = .ok (.iconst 1, 1) := by decide +kernel
theorem dX8_odds_36 : decode cX8_odds 36 = .ok (.invokevirtual 373, 3) := by decide +kernel
theorem dX8_odds_39 : decode cX8_odds 39 = .ok (.istore 4, 2) := by decide +kernel
theorem dX8_odds_41 : decode cX8_odds 41 = .ok (.iconst 0, 1) := by decide +kernel
theorem dX8_odds_42 : decode cX8_odds 42 = .ok (.istore 5, 2) := by decide +kernel
theorem dX8_odds_44 : decode cX8_odds 44 = .ok (.iconst 0, 1) := by decide +kernel
theorem dX8_odds_45 : decode cX8_odds 45 = .ok (.istore 6, 2) := by decide +kernel
theorem dX8_odds_47 : decode cX8_odds 47 = .ok (.iload 6, 2) := by decide +kernel
theorem dX8_odds_49 : decode cX8_odds 49 = .ok (.bipush 8, 2) := by decide +kernel
theorem dX8_odds_51 : decode cX8_odds 51 = .ok (.if_icmp .ge 54, 3) := by decide +kernel
theorem dX8_odds_54 : decode cX8_odds 54 = .ok (.aload_n 0, 1) := by decide +kernel
theorem dX8_odds_55 : decode cX8_odds 55 = .ok (.invokevirtual 367, 3) := by decide +kernel
theorem dX8_odds_58 : decode cX8_odds 58 = .ok (.aload_n 0, 1) := by decide +kernel
theorem dX8_odds_59 : decode cX8_odds 59 = .ok (.getfield 35, 3) := by decide +kernel
theorem dX8_odds_62 : decode cX8_odds 62 = .ok (.iload_n 1, 1) := by decide +kernel
theorem dX8_odds_63 : decode cX8_odds 63 = .ok (.dup2, 1) := by decide +kernel
theorem dX8_odds_64 : decode cX8_odds 64 = .ok (.iaload, 1) := by decide +kernel
theorem dX8_odds_65 : decode cX8_odds 65 = .ok (.iconst 1, 1) := by decide +kernel
theorem dX8_odds_66 : decode cX8_odds 66 = .ok (.iload 6, 2) := by decide +kernel
theorem dX8_odds_68 : decode cX8_odds 68 = .ok (.ishl, 1) := by decide +kernel
theorem dX8_odds_69 : decode cX8_odds 69 = .ok (.ior, 1) := by decide +kernel
theorem dX8_odds_70 : decode cX8_odds 70 = .ok (.iastore, 1) := by decide +kernel
theorem dX8_odds_71 : decode cX8_odds 71 = .ok (.aload_n 0, 1) := by decide +kernel
theorem dX8_odds_72 : decode cX8_odds 72 = .ok (.iload_n 2, 1) := by decide +kernel
theorem dX8_odds_73 : decode cX8_odds 73 = .ok (.invokevirtual 358, 3) := by decide +kernel
theorem dX8_odds_76 : decode cX8_odds 76 = .ok (.iload 5, 2) := by decide +kernel
theorem dX8_odds_78 : decode cX8_odds 78 = .ok (.aload_n 0, 1) := by decide +kernel
theorem dX8_odds_79 : decode cX8_odds 79 = .ok (.getfield 19, 3) := by decide +kernel
theorem dX8_odds_82 : decode cX8_odds 82 = .ok (.iload 4, 2) := by decide +kernel
theorem dX8_odds_84 : decode cX8_odds 84 = .ok (.if_icmp .le 7, 3) := by decide +kernel
theorem dX8_odds_87 : decode cX8_odds 87 = .ok (.iconst 1, 1) := by decide +kernel
theorem dX8_odds_88 : decode cX8_odds 88 = .ok (.goto 4, 3) := by decide +kernel
theorem dX8_odds_91 : decode cX8_odds 91 = .ok (.iconst 0, 1) := by decide +kernel
theorem dX8_odds_92 : decode cX8_odds 92 = .ok (.iadd, 1) := by decide +kernel
theorem dX8_odds_93 : decode cX8_odds 93 = .ok (.istore 5, 2) := by decide +kernel
theorem dX8_odds_95 : decode cX8_odds 95 = .ok (.aload_n 0, 1) := by decide +kernel
theorem dX8_odds_96 : decode cX8_odds 96 = .ok (.invokevirtual 370, 3) := by decide +kernel
theorem dX8_odds_99 : decode cX8_odds 99 = .ok (.iinc 6 1, 3) := by decide +kernel
theorem dX8_odds_102 : decode cX8_odds 102 = .ok (.goto (-55), 3) := by decide +kernel
theorem dX8_odds_105 : decode cX8_odds 105 = .ok (.aload_n 0, 1) := by decide +kernel
theorem dX8_odds_106 : decode cX8_odds 106 = .ok (.iload 5, 2) := by decide +kernel
theorem dX8_odds_108 : decode cX8_odds 108 = .ok (.bipush 8, 2) := by decide +kernel
theorem dX8_odds_110 : decode cX8_odds 110 = .ok (.iload_n 3, 1) := by decide +kernel
theorem dX8_odds_111 : decode cX8_odds 111 = .ok (.invokevirtual 394, 3) := by decide +kernel
theorem dX8_odds_114 : decode cX8_odds 114 = .ok (.lreturn, 1) := by decide +kernel
def f_X8_odds_L47 (p3 : Int32) (p1 : Int32) (p2 : Int32) (r7 : Int32) (x5_8 : Int32) (x6_8 : Int32) (u8 : Mem) : Option ((Int32 × Int32 × Mem) ⊕ (Int64 × Mem)) := (if (8 : Int32) ≤ x6_8 then Option.bind (f_X8_lowest x5_8 (8 : Int32) p3) (fun r10 => some (Sum.inr (r10, u8))) else obind (f_X8_save u8) (fun _ u11 => gin p1 6 (gin p1 6 (obind (f_X8_goMinutes p2 (sA u11 86 p1.toNatClampNeg ((gA u11 86 p1.toNatClampNeg) ||| ((1 : Int32) <<< (x6_8 &&& 31))))) (fun _ u14 => (if (gI u14 82 3) ≤ r7 then obind (f_X8_putBack u14) (fun _ u16 => some (Sum.inl (x5_8 + (0 : Int32), (x6_8 + (1 : Int32), u16)))) else obind (f_X8_putBack u14) (fun _ u17 => some (Sum.inl (x5_8 + (1 : Int32), (x6_8 + (1 : Int32), u17))))))))))
def f_X8_odds (p1 : Int32) (p2 : Int32) (p3 : Int32) (u : Mem) : Option (Int64 × Mem) := Option.bind (f_X8_isOne p1 u) (fun r1 => (if r1 = 0 then some ((-9223372036854775808 : Int64), u) else Option.bind (f_X8_in p2 (0 : Int32) (10 : Int32)) (fun r3 => (if r3 = 0 then some ((-9223372036854775808 : Int64), u) else Option.bind (f_X8_in p3 (0 : Int32) (1 : Int32)) (fun r5 => (if r5 = 0 then some ((-9223372036854775808 : Int64), u) else obind (f_X8_on p2 (1 : Int32) u) (fun r7 u7 => whileO (fun s => f_X8_odds_L47 p3 p1 p2 r7 s.1 s.2.1 s.2.2) FUEL ((0 : Int32), ((0 : Int32), u7)))))))))
set_option maxHeartbeats 4000000 in
set_option maxRecDepth 100000 in
theorem k_X8_odds (l : Launch) (D : gDt) (base : Nat) (Z : gZt) (u : Mem) (p1 : Int32) (p2 : Int32) (p3 : Int32) (r : Int64) (u' : Mem) (hf : f_X8_odds p1 p2 p3 u = some (r, u')) : Met l yX8_odds (gws yX8_odds cX8_odds 7 (some .long)) (gRm 9 0 0) (gPc D base Z u [.ref (base + 82), .int p1, .int p2, .int p3]) (gQl D base r u') 0 0 (gF base) := by
  refine Met.ofW (cc := cX8_odds) (maxL := 7) (ret := some .long) (by decide) rfl ?_
  intro p e s m args below meth c s₁ B hml hv
  obtain ⟨rfl, C0, hG⟩ := g_enter B hml hv
  have hr := B.returns
  have C0 : gC p s m meth c _ cX8_odds 7 RX8 D base Z := C0
  have hx := C0.1
  have hb := C0.2.1
  have hl := lv_entry ([.ref (base + 82), .int p1, .int p2, .int p3]) (n := 7) (Nat.le_of_ble_eq_true rfl)
  rw [lg_entry_eq]
  generalize (lg_sl ([.ref (base + 82), .int p1, .int p2, .int p3]) ++ List.replicate (7 - (lg_sl ([.ref (base + 82), .int p1, .int p2, .int p3])).length) Slot.unset).toArray = ls at hl ⊢
  have hl : lv_has ls 7 [(0, .ref (base + 82)), (1, .int p1), (2, .int p2), (3, .int p3)] := hl
  obtain ⟨Q, hQ⟩ : ∃ Q, Q = MQ below (gQl D base r u') ([.ref (base + 82), .int p1, .int p2, .int p3] : List Value).toArray s 0 0 (gF base) := ⟨_, rfl⟩
  rw [← hQ]
  change W p l e (gRm 9 0 0) s m _ below meth c _ _ _ _ _ _
  unfold f_X8_odds at hf
  refine lv_aload_n hx hb dX8_odds_0 rfl (lv_at hl 0 rfl) ?_
  refine lv_iload_n hx hb dX8_odds_1 rfl (lv_at hl 1 rfl) ?_
  obtain ⟨r1, hc1, hf⟩ := pb_s hf
  refine g_doI0 hG (g_runV C0 hG (k_X8_isOne l D base Z u p1 r1 hc1) m_X8_isOne v_X8_isOne w_1098 (by decide) (g_recv C0 hG (L82 hG) rfl) rfl hl.1 rfl (Nat.le_of_ble_eq_true rfl) dX8_odds_2 ⟨Nat.zero_le _, Nat.zero_le _⟩) (fun H locs hG hk => ?_)
  refine lv_if_eq (tgt := 29) hx hb dX8_odds_5 (by decide) (fun c2 => ?_) (fun c2 => ?_)
  · have hf := gif_t c2 hf
    refine lv_ldc2 (v := (-9223372036854775808 : Int64)) hx hb C0.2.2.2.1 (C0.2.2.2.2.1 _ w_1327) dX8_odds_29 ?_
    obtain ⟨hr1, hu⟩ := gret_s hf
    subst hr1
    subst hu
    subst hQ
    exact g_lret C0 hG hr dX8_odds_32
  · have hf := gif_f c2 hf
    refine lv_aload_n hx hb dX8_odds_8 rfl (lv_at hl 0 rfl) ?_
    refine lv_iload_n hx hb dX8_odds_9 rfl (lv_at hl 2 rfl) ?_
    refine lv_iconst (v := (0 : Int32)) hx hb dX8_odds_10 (by decide) ?_
    refine lv_bipush (v := (10 : Int32)) hx hb dX8_odds_11 (by decide) ?_
    obtain ⟨r3, hc3, hf⟩ := pb_s hf
    refine g_doI0 hG (g_runV C0 hG (k_X8_in l D base Z u p2 (0 : Int32) (10 : Int32) r3 hc3) m_X8_in v_X8_in w_1082 (by decide) (g_recv C0 hG (L82 hG) rfl) rfl hl.1 rfl (Nat.le_of_ble_eq_true rfl) dX8_odds_13 ⟨Nat.zero_le _, Nat.zero_le _⟩) (fun H locs hG hk => ?_)
    refine lv_if_eq (tgt := 29) hx hb dX8_odds_16 (by decide) (fun c4 => ?_) (fun c4 => ?_)
    · have hf := gif_t c4 hf
      refine lv_ldc2 (v := (-9223372036854775808 : Int64)) hx hb C0.2.2.2.1 (C0.2.2.2.2.1 _ w_1327) dX8_odds_29 ?_
      obtain ⟨hr1, hu⟩ := gret_s hf
      subst hr1
      subst hu
      subst hQ
      exact g_lret C0 hG hr dX8_odds_32
    · have hf := gif_f c4 hf
      refine lv_aload_n hx hb dX8_odds_19 rfl (lv_at hl 0 rfl) ?_
      refine lv_iload_n hx hb dX8_odds_20 rfl (lv_at hl 3 rfl) ?_
      refine lv_iconst (v := (0 : Int32)) hx hb dX8_odds_21 (by decide) ?_
      refine lv_iconst (v := (1 : Int32)) hx hb dX8_odds_22 (by decide) ?_
      obtain ⟨r5, hc5, hf⟩ := pb_s hf
      refine g_doI0 hG (g_runV C0 hG (k_X8_in l D base Z u p3 (0 : Int32) (1 : Int32) r5 hc5) m_X8_in v_X8_in w_1082 (by decide) (g_recv C0 hG (L82 hG) rfl) rfl hl.1 rfl (Nat.le_of_ble_eq_true rfl) dX8_odds_23 ⟨Nat.zero_le _, Nat.zero_le _⟩) (fun H locs hG hk => ?_)
      refine lv_if_ne (tgt := 33) hx hb dX8_odds_26 (by decide) (fun c6 => ?_) (fun c6 => ?_)
      · have hf := gif_f c6 hf
        refine lv_aload_n hx hb dX8_odds_33 rfl (lv_at hl 0 rfl) ?_
        refine lv_iload_n hx hb dX8_odds_34 rfl (lv_at hl 2 rfl) ?_
        refine lv_iconst (v := (1 : Int32)) hx hb dX8_odds_35 (by decide) ?_
        obtain ⟨r7, u7, hc7, hf⟩ := obind_s hf
        refine g_doI0 hG (g_runV C0 hG (k_X8_on l D base Z u p2 (1 : Int32) r7 u7 hc7) m_X8_on v_X8_on w_1298 (by decide) (g_recv C0 hG (L82 hG) rfl) rfl hl.1 rfl (Nat.le_of_ble_eq_true rfl) dX8_odds_36 ⟨Nat.zero_le _, Nat.zero_le _⟩) (fun H locs hG hk => ?_)
        refine lv_istore (lv' := [(4, .int r7), (0, .ref (base + 82)), (1, .int p1), (2, .int p2), (3, .int p3)]) hx hb dX8_odds_39 hl (by decide) rfl (fun ls hl => ?_)
        refine lv_iconst (v := (0 : Int32)) hx hb dX8_odds_41 (by decide) ?_
        refine lv_istore (lv' := [(5, .int (0 : Int32)), (4, .int r7), (0, .ref (base + 82)), (1, .int p1), (2, .int p2), (3, .int p3)]) hx hb dX8_odds_42 hl (by decide) rfl (fun ls hl => ?_)
        refine lv_iconst (v := (0 : Int32)) hx hb dX8_odds_44 (by decide) ?_
        refine lv_istore (lv' := [(6, .int (0 : Int32)), (5, .int (0 : Int32)), (4, .int r7), (0, .ref (base + 82)), (1, .int p1), (2, .int p2), (3, .int p3)]) hx hb dX8_odds_45 hl (by decide) rfl (fun ls hl => ?_)
        have loop8 : ∀ (n8 : Nat) (x5_8 : Int32) (x6_8 : Int32) (u8 : Mem) (H : Heap) (locs : List Loc) (ls : Array Slot), gH D base s u8 H locs → lv_has ls 7 [(0, .ref (base + 82)), (1, .int p1), (2, .int p2), (3, .int p3), (4, .int r7), (5, .int x5_8), (6, .int x6_8)] → whileO (fun s => f_X8_odds_L47 p3 p1 p2 r7 s.1 s.2.1 s.2.2) n8 (x5_8, (x6_8, u8)) = some (r, u') → W p l e (gRm 9 0 0) s m ([.ref (base + 82), .int p1, .int p2, .int p3] : List Value).toArray below meth c H locs 0 0 Q (F0 m 47 ls []) := by
          intro n8
          induction n8 with
          | zero => intro x5_8 x6_8 u8 H locs ls hG hl hf; cases hf
          | succ n8 ih8 =>
            intro x5_8 x6_8 u8 H locs ls hG hl hf
            obtain ⟨X8, hf, hX8⟩ := while_s hf
            have hf : f_X8_odds_L47 p3 p1 p2 r7 x5_8 x6_8 u8 = some X8 := hf
            unfold f_X8_odds_L47 at hf
            refine lv_iload hx hb dX8_odds_47 (lv_at hl 6 rfl) ?_
            refine lv_bipush (v := (8 : Int32)) hx hb dX8_odds_49 (by decide) ?_
            refine lv_icmp_ge (tgt := 105) hx hb dX8_odds_51 (by decide) (fun c9 => ?_) (fun c9 => ?_)
            · have hf := gif_t c9 hf
              refine lv_aload_n hx hb dX8_odds_105 rfl (lv_at hl 0 rfl) ?_
              refine lv_iload hx hb dX8_odds_106 (lv_at hl 5 rfl) ?_
              refine lv_bipush (v := (8 : Int32)) hx hb dX8_odds_108 (by decide) ?_
              refine lv_iload_n hx hb dX8_odds_110 rfl (lv_at hl 3 rfl) ?_
              obtain ⟨r10, hc10, hf⟩ := pb_s hf
              refine g_doL0 hG (g_runV C0 hG (k_X8_lowest l D base Z u8 x5_8 (8 : Int32) p3 r10 hc10) m_X8_lowest v_X8_lowest w_1328 (by decide) (g_recv C0 hG (L82 hG) rfl) rfl hl.1 rfl (Nat.le_of_ble_eq_true rfl) dX8_odds_111 ⟨Nat.zero_le _, Nat.zero_le _⟩) (fun H locs hG hk => ?_)
              have hf := while_r hX8 hf
              obtain ⟨hr1, hu⟩ := gret_s hf
              subst hr1
              subst hu
              subst hQ
              exact g_lret C0 hG hr dX8_odds_114
            · have hf := gif_f c9 hf
              refine lv_aload_n hx hb dX8_odds_54 rfl (lv_at hl 0 rfl) ?_
              obtain ⟨_, u11, hc11, hf⟩ := obind_s hf
              refine g_doV0 hG (g_runV C0 hG (k_X8_save l D base Z u8 u11 hc11) m_X8_save v_X8_save w_1274 (by decide) (g_recv C0 hG (L82 hG) rfl) rfl hl.1 rfl (Nat.le_of_ble_eq_true rfl) dX8_odds_55 ⟨Nat.zero_le _, Nat.zero_le _⟩) (fun H locs hG hk => ?_)
              refine lv_aload_n hx hb dX8_odds_58 rfl (lv_at hl 0 rfl) ?_
              refine g_getSa (o := 4) (a := 86) C0 hG (L82 hG) rfl 8 (by decide) rfl rfl w_854 dX8_odds_59 ?_
              refine lv_iload_n hx hb dX8_odds_62 rfl (lv_at hl 1 rfl) ?_
              refine lv_dup2_11 hx hb dX8_odds_63 rfl rfl ?_
              obtain ⟨h12, hf⟩ := gin_s hf
              refine g_iald C0 hG (L86 hG) h12 dX8_odds_64 ?_
              refine lv_iconst (v := (1 : Int32)) hx hb dX8_odds_65 (by decide) ?_
              refine lv_iload hx hb dX8_odds_66 (lv_at hl 6 rfl) ?_
              refine lv_ishl hx hb dX8_odds_68 ?_
              refine lv_ior hx hb dX8_odds_69 ?_
              obtain ⟨h13, hf⟩ := gin_s hf
              refine g_iast C0 hG (L86 hG) h13 dX8_odds_70 (fun H locs hG => ?_)
              refine lv_aload_n hx hb dX8_odds_71 rfl (lv_at hl 0 rfl) ?_
              refine lv_iload_n hx hb dX8_odds_72 rfl (lv_at hl 2 rfl) ?_
              obtain ⟨_, u14, hc14, hf⟩ := obind_s hf
              refine g_doV0 hG (g_runV C0 hG (k_X8_goMinutes l D base Z (sA u11 86 p1.toNatClampNeg ((gA u11 86 p1.toNatClampNeg) ||| ((1 : Int32) <<< (x6_8 &&& 31)))) p2 u14 hc14) m_X8_goMinutes v_X8_goMinutes w_1238 (by decide) (g_recv C0 hG (L82 hG) rfl) rfl hl.1 rfl (Nat.le_of_ble_eq_true rfl) dX8_odds_73 ⟨Nat.zero_le _, Nat.zero_le _⟩) (fun H locs hG hk => ?_)
              refine lv_iload hx hb dX8_odds_76 (lv_at hl 5 rfl) ?_
              refine lv_aload_n hx hb dX8_odds_78 rfl (lv_at hl 0 rfl) ?_
              refine g_getI C0 hG (L82 hG) rfl 3 (by decide) rfl w_849 dX8_odds_79 ?_
              refine lv_iload hx hb dX8_odds_82 (lv_at hl 4 rfl) ?_
              refine lv_icmp_le (tgt := 91) hx hb dX8_odds_84 (by decide) (fun c15 => ?_) (fun c15 => ?_)
              · have hf := gif_t c15 hf
                refine lv_iconst (v := (0 : Int32)) hx hb dX8_odds_91 (by decide) ?_
                refine lv_iadd hx hb dX8_odds_92 ?_
                refine lv_istore (lv' := [(5, .int (x5_8 + (0 : Int32))), (0, .ref (base + 82)), (1, .int p1), (2, .int p2), (3, .int p3), (4, .int r7), (6, .int x6_8)]) hx hb dX8_odds_93 hl (by decide) rfl (fun ls hl => ?_)
                refine lv_aload_n hx hb dX8_odds_95 rfl (lv_at hl 1 rfl) ?_
                obtain ⟨_, u16, hc16, hf⟩ := obind_s hf
                refine g_doV0 hG (g_runV C0 hG (k_X8_putBack l D base Z u14 u16 hc16) m_X8_putBack v_X8_putBack w_1278 (by decide) (g_recv C0 hG (L82 hG) rfl) rfl hl.1 rfl (Nat.le_of_ble_eq_true rfl) dX8_odds_96 ⟨Nat.zero_le _, Nat.zero_le _⟩) (fun H locs hG hk => ?_)
                refine lv_iinc (v := x6_8 + (1 : Int32)) (lv' := [(6, .int (x6_8 + (1 : Int32))), (5, .int (x5_8 + (0 : Int32))), (0, .ref (base + 82)), (1, .int p1), (2, .int p2), (3, .int p3), (4, .int r7)]) hx hb dX8_odds_99 hl (k := 6) rfl rfl (by decide) rfl (fun ls hl => ?_)
                refine lv_goto (tgt := 47) hx hb dX8_odds_102 (by decide) ?_
                have hf := while_l hX8 hf
                exact ih8 (x5_8 + (0 : Int32)) (x6_8 + (1 : Int32)) u16 _ _ ls hG (lv_sub hl [2, 3, 4, 5, 6, 1, 0] rfl) hf
              · have hf := gif_f c15 hf
                refine lv_iconst (v := (1 : Int32)) hx hb dX8_odds_87 (by decide) ?_
                refine lv_goto (tgt := 92) hx hb dX8_odds_88 (by decide) ?_
                refine lv_iadd hx hb dX8_odds_92 ?_
                refine lv_istore (lv' := [(5, .int (x5_8 + (1 : Int32))), (0, .ref (base + 82)), (1, .int p1), (2, .int p2), (3, .int p3), (4, .int r7), (6, .int x6_8)]) hx hb dX8_odds_93 hl (by decide) rfl (fun ls hl => ?_)
                refine lv_aload_n hx hb dX8_odds_95 rfl (lv_at hl 1 rfl) ?_
                obtain ⟨_, u17, hc17, hf⟩ := obind_s hf
                refine g_doV0 hG (g_runV C0 hG (k_X8_putBack l D base Z u14 u17 hc17) m_X8_putBack v_X8_putBack w_1278 (by decide) (g_recv C0 hG (L82 hG) rfl) rfl hl.1 rfl (Nat.le_of_ble_eq_true rfl) dX8_odds_96 ⟨Nat.zero_le _, Nat.zero_le _⟩) (fun H locs hG hk => ?_)
                refine lv_iinc (v := x6_8 + (1 : Int32)) (lv' := [(6, .int (x6_8 + (1 : Int32))), (5, .int (x5_8 + (1 : Int32))), (0, .ref (base + 82)), (1, .int p1), (2, .int p2), (3, .int p3), (4, .int r7)]) hx hb dX8_odds_99 hl (k := 6) rfl rfl (by decide) rfl (fun ls hl => ?_)
                refine lv_goto (tgt := 47) hx hb dX8_odds_102 (by decide) ?_
                have hf := while_l hX8 hf
                exact ih8 (x5_8 + (1 : Int32)) (x6_8 + (1 : Int32)) u17 _ _ ls hG (lv_sub hl [2, 3, 4, 5, 6, 1, 0] rfl) hf
        exact loop8 FUEL (0 : Int32) (0 : Int32) u7 _ _ ls hG (lv_sub hl [3, 4, 5, 6, 2, 1, 0] rfl) hf
      · have hf := gif_t c6 hf
        refine lv_ldc2 (v := (-9223372036854775808 : Int64)) hx hb C0.2.2.2.1 (C0.2.2.2.2.1 _ w_1327) dX8_odds_29 ?_
        obtain ⟨hr1, hu⟩ := gret_s hf
        subst hr1
        subst hu
        subst hQ
        exact g_lret C0 hG hr dX8_odds_32
theorem dX8_mean_0 : decode cX8_mean 0 = .ok (.aload_n 0, 1) := by decide +kernel
theorem dX8_mean_1 : decode cX8_mean 1 = .ok (.iload_n 1, 1) := by decide +kernel
theorem dX8_mean_2 : decode cX8_mean 2 = .ok (.invokevirtual 355, 3) := by decide +kernel
theorem dX8_mean_5 : decode cX8_mean 5 = .ok (.ifCond .eq 20, 3) := by decide +kernel
theorem dX8_mean_8 : decode cX8_mean 8 = .ok (.aload_n 0, 1) := by decide +kernel
theorem dX8_mean_9 : decode cX8_mean 9 = .ok (.iload_n 2, 1) := by decide +kernel
theorem dX8_mean_10 : decode cX8_mean 10 = .ok (.iconst 0, 1) := by decide +kernel
theorem dX8_mean_11 : decode cX8_mean 11 = .ok (.iconst 1, 1) := by decide +kernel
theorem dX8_mean_12 : decode cX8_mean 12 = .ok (.invokevirtual 249, 3) := by decide +kernel
theorem dX8_mean_15 : decode cX8_mean 15 = .ok (.ifCond .eq 10, 3) := by decide +kernel
theorem dX8_mean_18 : decode cX8_mean 18 = .ok (.aload_n 0, 1) := by decide +kernel
theorem dX8_mean_19 : decode cX8_mean 19 = .ok (.getfield 7, 3) := by decide +kernel
theorem dX8_mean_22 : decode cX8_mean 22 = .ok (.ifCond .ne 7, 3) := by decide +kernel
theorem dX8_mean_25 : decode cX8_mean 25 = .ok (.ldc2_w 392, 3) := by decide +kernel
theorem dX8_mean_28 : decode cX8_mean 28 = .ok (.lreturn, 1) := by decide +kernel
theorem dX8_mean_29 : decode cX8_mean 29 = .ok (.aload_n 0, 1) := by decide +kernel
theorem dX8_mean_30 : decode cX8_mean 30 = .ok (.invokevirtual 367, 3) := by decide +kernel
theorem dX8_mean_33 : decode cX8_mean 33 = .ok (.aload_n 0, 1) := by decide +kernel
theorem dX8_mean_34 : decode cX8_mean 34 = .ok (.iload_n 1, 1) := by decide +kernel
theorem dX8_mean_35 : decode cX8_mean 35 = .ok (.invokevirtual 358, 3) := by decide +kernel
theorem dX8_mean_38 : decode cX8_mean 38 = .ok (.iconst 0, 1) := by decide +kernel
theorem dX8_mean_39 : decode cX8_mean 39 = .ok (.istore_n 3, 1) := by decide +kernel
theorem dX8_mean_40 : decode cX8_mean 40 = .ok (.iconst 0, 1) := by decide +kernel
theorem dX8_mean_41 : decode cX8_mean 41 = .ok (.istore 4, 2) := by decide +kernel
theorem dX8_mean_43 : decode cX8_mean 43 = .ok (.iload 4, 2) := by decide +kernel
theorem dX8_mean_45 : decode cX8_mean 45 = .ok (.aload_n 0, 1) := by decide +kernel
theorem dX8_mean_46 : decode cX8_mean 46 = .ok (.getfield 7, 3) := by decide +kernel
theorem dX8_mean_49 : decode cX8_mean 49 = .ok (.if_icmp .ge 23, 3) := by decide +kernel
theorem dX8_mean_52 : decode cX8_mean 52 = .ok (.iload_n 3, 1) := by decide +kernel
theorem dX8_mean_53 : decode cX8_mean 53 = .ok (.aload_n 0, 1) := by decide +kernel
theorem dX8_mean_54 : decode cX8_mean 54 = .ok (.aload_n 0, 1) := by decide +kernel
theorem dX8_mean_55 : decode cX8_mean 55 = .ok (.getfield 35, 3) := by decide +kernel
theorem dX8_mean_58 : decode cX8_mean 58 = .ok (.iload 4, 2) := by decide +kernel
theorem dX8_mean_60 : decode cX8_mean 60 = .ok (.iaload, 1) := by decide +kernel
theorem dX8_mean_61 : decode cX8_mean 61 = .ok (.invokevirtual 398, 3) := by decide +kernel
theorem dX8_mean_64 : decode cX8_mean 64 = .ok (.iadd, 1) := by decide +kernel
theorem dX8_mean_65 : decode cX8_mean 65 = .ok (.istore_n 3, 1) := by decide +kernel
theorem dX8_mean_66 : decode cX8_mean 66 = .ok (.iinc 4 1, 3) := by decide +kernel
theorem dX8_mean_69 : decode cX8_mean 69 = .ok (.goto (-26), 3) := by decide +kernel
theorem dX8_mean_72 : decode cX8_mean 72 = .ok (.aload_n 0, 1) := by decide +kernel
theorem dX8_mean_73 : decode cX8_mean 73 = .ok (.invokevirtual 370, 3) := by decide +kernel
theorem dX8_mean_76 : decode cX8_mean 76 = .ok (.aload_n 0, 1) := by decide +kernel
theorem dX8_mean_77 : decode cX8_mean 77 = .ok (.iload_n 3, 1) := by decide +kernel
theorem dX8_mean_78 : decode cX8_mean 78 = .ok (.aload_n 0, 1) := by decide +kernel
theorem dX8_mean_79 : decode cX8_mean 79 = .ok (.getfield 7, 3) := by decide +kernel
theorem dX8_mean_82 : decode cX8_mean 82 = .ok (.iload_n 2, 1) := by decide +kernel
theorem dX8_mean_83 : decode cX8_mean 83 = .ok (.invokevirtual 394, 3) := by decide +kernel
theorem dX8_mean_86 : decode cX8_mean 86 = .ok (.lreturn, 1) := by decide +kernel
def f_X8_mean_L43 (u7 : Mem) (p2 : Int32) (x3_8 : Int32) (x4_8 : Int32) : Option ((Int32 × Int32) ⊕ (Int64 × Mem)) := (if (gI u7 82 0) ≤ x4_8 then obind (f_X8_putBack u7) (fun _ u10 => Option.bind (f_X8_lowest x3_8 (gI u10 82 0) p2) (fun r11 => some (Sum.inr (r11, u10)))) else gin x4_8 6 (Option.bind (f_X8_bits (gA u7 86 x4_8.toNatClampNeg)) (fun r13 => some (Sum.inl (x3_8 + r13, x4_8 + (1 : Int32))))))
def f_X8_mean (p1 : Int32) (p2 : Int32) (u : Mem) : Option (Int64 × Mem) := Option.bind (f_X8_isMinutes p1) (fun r1 => (if r1 = 0 then some ((-9223372036854775808 : Int64), u) else Option.bind (f_X8_in p2 (0 : Int32) (1 : Int32)) (fun r3 => (if r3 = 0 then some ((-9223372036854775808 : Int64), u) else (if (gI u 82 0) = 0 then some ((-9223372036854775808 : Int64), u) else obind (f_X8_save u) (fun _ u6 => obind (f_X8_goMinutes p1 u6) (fun _ u7 => whileO (fun s => f_X8_mean_L43 u7 p2 s.1 s.2) FUEL ((0 : Int32), (0 : Int32)))))))))
set_option maxHeartbeats 4000000 in
set_option maxRecDepth 100000 in
theorem k_X8_mean (l : Launch) (D : gDt) (base : Nat) (Z : gZt) (u : Mem) (p1 : Int32) (p2 : Int32) (r : Int64) (u' : Mem) (hf : f_X8_mean p1 p2 u = some (r, u')) : Met l yX8_mean (gws yX8_mean cX8_mean 5 (some .long)) (gRm 8 0 0) (gPc D base Z u [.ref (base + 82), .int p1, .int p2]) (gQl D base r u') 0 0 (gF base) := by
  refine Met.ofW (cc := cX8_mean) (maxL := 5) (ret := some .long) (by decide) rfl ?_
  intro p e s m args below meth c s₁ B hml hv
  obtain ⟨rfl, C0, hG⟩ := g_enter B hml hv
  have hr := B.returns
  have C0 : gC p s m meth c _ cX8_mean 5 RX8 D base Z := C0
  have hx := C0.1
  have hb := C0.2.1
  have hl := lv_entry ([.ref (base + 82), .int p1, .int p2]) (n := 5) (Nat.le_of_ble_eq_true rfl)
  rw [lg_entry_eq]
  generalize (lg_sl ([.ref (base + 82), .int p1, .int p2]) ++ List.replicate (5 - (lg_sl ([.ref (base + 82), .int p1, .int p2])).length) Slot.unset).toArray = ls at hl ⊢
  have hl : lv_has ls 5 [(0, .ref (base + 82)), (1, .int p1), (2, .int p2)] := hl
  obtain ⟨Q, hQ⟩ : ∃ Q, Q = MQ below (gQl D base r u') ([.ref (base + 82), .int p1, .int p2] : List Value).toArray s 0 0 (gF base) := ⟨_, rfl⟩
  rw [← hQ]
  change W p l e (gRm 8 0 0) s m _ below meth c _ _ _ _ _ _
  unfold f_X8_mean at hf
  refine lv_aload_n hx hb dX8_mean_0 rfl (lv_at hl 0 rfl) ?_
  refine lv_iload_n hx hb dX8_mean_1 rfl (lv_at hl 1 rfl) ?_
  obtain ⟨r1, hc1, hf⟩ := pb_s hf
  refine g_doI0 hG (g_runV C0 hG (k_X8_isMinutes l D base Z u p1 r1 hc1) m_X8_isMinutes v_X8_isMinutes w_1234 (by decide) (g_recv C0 hG (L82 hG) rfl) rfl hl.1 rfl (Nat.le_of_ble_eq_true rfl) dX8_mean_2 ⟨Nat.zero_le _, Nat.zero_le _⟩) (fun H locs hG hk => ?_)
  refine lv_if_eq (tgt := 25) hx hb dX8_mean_5 (by decide) (fun c2 => ?_) (fun c2 => ?_)
  · have hf := gif_t c2 hf
    refine lv_ldc2 (v := (-9223372036854775808 : Int64)) hx hb C0.2.2.2.1 (C0.2.2.2.2.1 _ w_1327) dX8_mean_25 ?_
    obtain ⟨hr1, hu⟩ := gret_s hf
    subst hr1
    subst hu
    subst hQ
    exact g_lret C0 hG hr dX8_mean_28
  · have hf := gif_f c2 hf
    refine lv_aload_n hx hb dX8_mean_8 rfl (lv_at hl 0 rfl) ?_
    refine lv_iload_n hx hb dX8_mean_9 rfl (lv_at hl 2 rfl) ?_
    refine lv_iconst (v := (0 : Int32)) hx hb dX8_mean_10 (by decide) ?_
    refine lv_iconst (v := (1 : Int32)) hx hb dX8_mean_11 (by decide) ?_
    obtain ⟨r3, hc3, hf⟩ := pb_s hf
    refine g_doI0 hG (g_runV C0 hG (k_X8_in l D base Z u p2 (0 : Int32) (1 : Int32) r3 hc3) m_X8_in v_X8_in w_1082 (by decide) (g_recv C0 hG (L82 hG) rfl) rfl hl.1 rfl (Nat.le_of_ble_eq_true rfl) dX8_mean_12 ⟨Nat.zero_le _, Nat.zero_le _⟩) (fun H locs hG hk => ?_)
    refine lv_if_eq (tgt := 25) hx hb dX8_mean_15 (by decide) (fun c4 => ?_) (fun c4 => ?_)
    · have hf := gif_t c4 hf
      refine lv_ldc2 (v := (-9223372036854775808 : Int64)) hx hb C0.2.2.2.1 (C0.2.2.2.2.1 _ w_1327) dX8_mean_25 ?_
      obtain ⟨hr1, hu⟩ := gret_s hf
      subst hr1
      subst hu
      subst hQ
      exact g_lret C0 hG hr dX8_mean_28
    · have hf := gif_f c4 hf
      refine lv_aload_n hx hb dX8_mean_18 rfl (lv_at hl 0 rfl) ?_
      refine g_getI C0 hG (L82 hG) rfl 0 (by decide) rfl w_846 dX8_mean_19 ?_
      refine lv_if_ne (tgt := 29) hx hb dX8_mean_22 (by decide) (fun c5 => ?_) (fun c5 => ?_)
      · have hf := gif_f c5 hf
        refine lv_aload_n hx hb dX8_mean_29 rfl (lv_at hl 0 rfl) ?_
        obtain ⟨_, u6, hc6, hf⟩ := obind_s hf
        refine g_doV0 hG (g_runV C0 hG (k_X8_save l D base Z u u6 hc6) m_X8_save v_X8_save w_1274 (by decide) (g_recv C0 hG (L82 hG) rfl) rfl hl.1 rfl (Nat.le_of_ble_eq_true rfl) dX8_mean_30 ⟨Nat.zero_le _, Nat.zero_le _⟩) (fun H locs hG hk => ?_)
        refine lv_aload_n hx hb dX8_mean_33 rfl (lv_at hl 0 rfl) ?_
        refine lv_iload_n hx hb dX8_mean_34 rfl (lv_at hl 1 rfl) ?_
        obtain ⟨_, u7, hc7, hf⟩ := obind_s hf
        refine g_doV0 hG (g_runV C0 hG (k_X8_goMinutes l D base Z u6 p1 u7 hc7) m_X8_goMinutes v_X8_goMinutes w_1238 (by decide) (g_recv C0 hG (L82 hG) rfl) rfl hl.1 rfl (Nat.le_of_ble_eq_true rfl) dX8_mean_35 ⟨Nat.zero_le _, Nat.zero_le _⟩) (fun H locs hG hk => ?_)
        refine lv_iconst (v := (0 : Int32)) hx hb dX8_mean_38 (by decide) ?_
        refine lv_istore_n (lv' := [(3, .int (0 : Int32)), (0, .ref (base + 82)), (1, .int p1), (2, .int p2)]) hx hb dX8_mean_39 rfl hl (by decide) rfl (fun ls hl => ?_)
        refine lv_iconst (v := (0 : Int32)) hx hb dX8_mean_40 (by decide) ?_
        refine lv_istore (lv' := [(4, .int (0 : Int32)), (3, .int (0 : Int32)), (0, .ref (base + 82)), (1, .int p1), (2, .int p2)]) hx hb dX8_mean_41 hl (by decide) rfl (fun ls hl => ?_)
        have loop8 : ∀ (n8 : Nat) (x3_8 : Int32) (x4_8 : Int32) (H : Heap) (locs : List Loc) (ls : Array Slot), gH D base s u7 H locs → lv_has ls 5 [(0, .ref (base + 82)), (2, .int p2), (3, .int x3_8), (4, .int x4_8)] → whileO (fun s => f_X8_mean_L43 u7 p2 s.1 s.2) n8 (x3_8, x4_8) = some (r, u') → W p l e (gRm 8 0 0) s m ([.ref (base + 82), .int p1, .int p2] : List Value).toArray below meth c H locs 0 0 Q (F0 m 43 ls []) := by
          intro n8
          induction n8 with
          | zero => intro x3_8 x4_8 H locs ls hG hl hf; cases hf
          | succ n8 ih8 =>
            intro x3_8 x4_8 H locs ls hG hl hf
            obtain ⟨X8, hf, hX8⟩ := while_s hf
            have hf : f_X8_mean_L43 u7 p2 x3_8 x4_8 = some X8 := hf
            unfold f_X8_mean_L43 at hf
            refine lv_iload hx hb dX8_mean_43 (lv_at hl 3 rfl) ?_
            refine lv_aload_n hx hb dX8_mean_45 rfl (lv_at hl 0 rfl) ?_
            refine g_getI C0 hG (L82 hG) rfl 0 (by decide) rfl w_846 dX8_mean_46 ?_
            refine lv_icmp_ge (tgt := 72) hx hb dX8_mean_49 (by decide) (fun c9 => ?_) (fun c9 => ?_)
            · have hf := gif_t c9 hf
              refine lv_aload_n hx hb dX8_mean_72 rfl (lv_at hl 0 rfl) ?_
              obtain ⟨_, u10, hc10, hf⟩ := obind_s hf
              refine g_doV0 hG (g_runV C0 hG (k_X8_putBack l D base Z u7 u10 hc10) m_X8_putBack v_X8_putBack w_1278 (by decide) (g_recv C0 hG (L82 hG) rfl) rfl hl.1 rfl (Nat.le_of_ble_eq_true rfl) dX8_mean_73 ⟨Nat.zero_le _, Nat.zero_le _⟩) (fun H locs hG hk => ?_)
              refine lv_aload_n hx hb dX8_mean_76 rfl (lv_at hl 0 rfl) ?_
              refine lv_iload_n hx hb dX8_mean_77 rfl (lv_at hl 2 rfl) ?_
              refine lv_aload_n hx hb dX8_mean_78 rfl (lv_at hl 0 rfl) ?_
              refine g_getI C0 hG (L82 hG) rfl 0 (by decide) rfl w_846 dX8_mean_79 ?_
              refine lv_iload_n hx hb dX8_mean_82 rfl (lv_at hl 1 rfl) ?_
              obtain ⟨r11, hc11, hf⟩ := pb_s hf
              refine g_doL0 hG (g_runV C0 hG (k_X8_lowest l D base Z u10 x3_8 (gI u10 82 0) p2 r11 hc11) m_X8_lowest v_X8_lowest w_1328 (by decide) (g_recv C0 hG (L82 hG) rfl) rfl hl.1 rfl (Nat.le_of_ble_eq_true rfl) dX8_mean_83 ⟨Nat.zero_le _, Nat.zero_le _⟩) (fun H locs hG hk => ?_)
              have hf := while_r hX8 hf
              obtain ⟨hr1, hu⟩ := gret_s hf
              subst hr1
              subst hu
              subst hQ
              exact g_lret C0 hG hr dX8_mean_86
            · have hf := gif_f c9 hf
              refine lv_iload_n hx hb dX8_mean_52 rfl (lv_at hl 2 rfl) ?_
              refine lv_aload_n hx hb dX8_mean_53 rfl (lv_at hl 0 rfl) ?_
              refine lv_aload_n hx hb dX8_mean_54 rfl (lv_at hl 0 rfl) ?_
              refine g_getSa (o := 4) (a := 86) C0 hG (L82 hG) rfl 8 (by decide) rfl rfl w_854 dX8_mean_55 ?_
              refine lv_iload hx hb dX8_mean_58 (lv_at hl 3 rfl) ?_
              obtain ⟨h12, hf⟩ := gin_s hf
              refine g_iald C0 hG (L86 hG) h12 dX8_mean_60 ?_
              obtain ⟨r13, hc13, hf⟩ := pb_s hf
              refine g_doI0 hG (g_runV C0 hG (k_X8_bits l D base Z u7 (gA u7 86 x4_8.toNatClampNeg) r13 hc13) m_X8_bits v_X8_bits w_1340 (by decide) (g_recv C0 hG (L82 hG) rfl) rfl hl.1 rfl (Nat.le_of_ble_eq_true rfl) dX8_mean_61 ⟨Nat.zero_le _, Nat.zero_le _⟩) (fun H locs hG hk => ?_)
              refine lv_iadd hx hb dX8_mean_64 ?_
              refine lv_istore_n (lv' := [(3, .int (x3_8 + r13)), (0, .ref (base + 82)), (2, .int p2), (4, .int x4_8)]) hx hb dX8_mean_65 rfl hl (by decide) rfl (fun ls hl => ?_)
              refine lv_iinc (v := x4_8 + (1 : Int32)) (lv' := [(4, .int (x4_8 + (1 : Int32))), (3, .int (x3_8 + r13)), (0, .ref (base + 82)), (2, .int p2)]) hx hb dX8_mean_66 hl (k := 3) rfl rfl (by decide) rfl (fun ls hl => ?_)
              refine lv_goto (tgt := 43) hx hb dX8_mean_69 (by decide) ?_
              have hf := while_l hX8 hf
              exact ih8 (x3_8 + r13) (x4_8 + (1 : Int32)) _ _ ls hG (lv_sub hl [2, 3, 1, 0] rfl) hf
        exact loop8 FUEL (0 : Int32) (0 : Int32) _ _ ls hG (lv_sub hl [2, 4, 1, 0] rfl) hf
      · have hf := gif_t c5 hf
        refine lv_ldc2 (v := (-9223372036854775808 : Int64)) hx hb C0.2.2.2.1 (C0.2.2.2.2.1 _ w_1327) dX8_mean_25 ?_
        obtain ⟨hr1, hu⟩ := gret_s hf
        subst hr1
        subst hu
        subst hQ
        exact g_lret C0 hG hr dX8_mean_28
theorem dX8_isSeat_0 : decode cX8_isSeat 0 = .ok (.iload_n 1, 1) := by decide +kernel
theorem dX8_isSeat_1 : decode cX8_isSeat 1 = .ok (.ifCond .lt 29, 3) := by decide +kernel
theorem dX8_isSeat_4 : decode cX8_isSeat 4 = .ok (.aload_n 0, 1) := by decide +kernel
theorem dX8_isSeat_5 : decode cX8_isSeat 5 = .ok (.iload_n 1, 1) := by decide +kernel
theorem dX8_isSeat_6 : decode cX8_isSeat 6 = .ok (.bipush 10, 2) := by decide +kernel
theorem dX8_isSeat_8 : decode cX8_isSeat 8 = .ok (.idiv, 1) := by decide +kernel
theorem dX8_isSeat_9 : decode cX8_isSeat 9 = .ok (.invokevirtual 260, 3) := by decide +kernel
theorem dX8_isSeat_12 : decode cX8_isSeat 12 = .ok (.ifCond .eq 18, 3) := by decide +kernel
theorem dX8_isSeat_15 : decode cX8_isSeat 15 = .ok (.aload_n 0, 1) := by decide +kernel
theorem dX8_isSeat_16 : decode cX8_isSeat 16 = .ok (.iload_n 1, 1) := by decide +kernel
theorem dX8_isSeat_17 : decode cX8_isSeat 17 = .ok (.bipush 10, 2) := by decide +kernel
theorem dX8_isSeat_19 : decode cX8_isSeat 19 = .ok (.irem, 1) := by decide +kernel
theorem dX8_isSeat_20 : decode cX8_isSeat 20 = .ok (.invokevirtual 253, 3) := by decide +kernel
theorem dX8_isSeat_23 : decode cX8_isSeat 23 = .ok (.ifCond .eq 7, 3) := by decide +kernel
theorem dX8_isSeat_26 : decode cX8_isSeat 26 = .ok (.iconst 1, 1) := by decide +kernel
theorem dX8_isSeat_27 : decode cX8_isSeat 27 = .ok (.goto 4, 3) := by decide +kernel
theorem dX8_isSeat_30 : decode cX8_isSeat 30 = .ok (.iconst 0, 1) := by decide +kernel
theorem dX8_isSeat_31 : decode cX8_isSeat 31 = .ok (.ireturn, 1) := by decide +kernel
def f_X8_isSeat (p1 : Int32) (u : Mem) : Option (Int32) := (if p1 < 0 then some (0 : Int32) else Option.bind (f_X8_isOne (p1 / (10 : Int32)) u) (fun r2 => (if r2 = 0 then some (0 : Int32) else Option.bind (f_X8_isCarriage (p1 - p1 / (10 : Int32) * (10 : Int32))) (fun r4 => (if r4 = 0 then some (0 : Int32) else some (1 : Int32))))))
set_option maxHeartbeats 4000000 in
set_option maxRecDepth 100000 in
theorem k_X8_isSeat (l : Launch) (D : gDt) (base : Nat) (Z : gZt) (u : Mem) (p1 : Int32) (r : Int32) (hf : f_X8_isSeat p1 u = some r) : Met l yX8_isSeat (gws yX8_isSeat cX8_isSeat 2 (some .boolean)) (gRm 3 0 0) (gPc D base Z u [.ref (base + 82), .int p1]) (gQi D base r u) 0 0 (gF base) := by
  refine Met.ofW (cc := cX8_isSeat) (maxL := 2) (ret := some .boolean) (by decide) rfl ?_
  intro p e s m args below meth c s₁ B hml hv
  obtain ⟨rfl, C0, hG⟩ := g_enter B hml hv
  have hr := B.returns
  have C0 : gC p s m meth c _ cX8_isSeat 2 RX8 D base Z := C0
  have hx := C0.1
  have hb := C0.2.1
  have hl := lv_entry ([.ref (base + 82), .int p1]) (n := 2) (Nat.le_of_ble_eq_true rfl)
  rw [lg_entry_eq]
  generalize (lg_sl ([.ref (base + 82), .int p1]) ++ List.replicate (2 - (lg_sl ([.ref (base + 82), .int p1])).length) Slot.unset).toArray = ls at hl ⊢
  have hl : lv_has ls 2 [(0, .ref (base + 82)), (1, .int p1)] := hl
  obtain ⟨Q, hQ⟩ : ∃ Q, Q = MQ below (gQi D base r u) ([.ref (base + 82), .int p1] : List Value).toArray s 0 0 (gF base) := ⟨_, rfl⟩
  rw [← hQ]
  change W p l e (gRm 3 0 0) s m _ below meth c _ _ _ _ _ _
  unfold f_X8_isSeat at hf
  refine lv_iload_n hx hb dX8_isSeat_0 rfl (lv_at hl 1 rfl) ?_
  refine lv_if_lt (tgt := 30) hx hb dX8_isSeat_1 (by decide) (fun c1 => ?_) (fun c1 => ?_)
  · have hf := gif_t c1 hf
    refine lv_iconst (v := (0 : Int32)) hx hb dX8_isSeat_30 (by decide) ?_
    have hf := Option.some.inj hf
    subst hf
    subst hQ
    exact g_zret C0 hG hr (by decide) dX8_isSeat_31
  · have hf := gif_f c1 hf
    refine lv_aload_n hx hb dX8_isSeat_4 rfl (lv_at hl 0 rfl) ?_
    refine lv_iload_n hx hb dX8_isSeat_5 rfl (lv_at hl 1 rfl) ?_
    refine lv_bipush (v := (10 : Int32)) hx hb dX8_isSeat_6 (by decide) ?_
    refine lv_idiv hx hb dX8_isSeat_8 (by decide) ?_
    obtain ⟨r2, hc2, hf⟩ := pb_s hf
    refine g_doI0 hG (g_runV C0 hG (k_X8_isOne l D base Z u (p1 / (10 : Int32)) r2 hc2) m_X8_isOne v_X8_isOne w_1098 (by decide) (g_recv C0 hG (L82 hG) rfl) rfl hl.1 rfl (Nat.le_of_ble_eq_true rfl) dX8_isSeat_9 ⟨Nat.zero_le _, Nat.zero_le _⟩) (fun H locs hG hk => ?_)
    refine lv_if_eq (tgt := 30) hx hb dX8_isSeat_12 (by decide) (fun c3 => ?_) (fun c3 => ?_)
    · have hf := gif_t c3 hf
      refine lv_iconst (v := (0 : Int32)) hx hb dX8_isSeat_30 (by decide) ?_
      have hf := Option.some.inj hf
      subst hf
      subst hQ
      exact g_zret C0 hG hr (by decide) dX8_isSeat_31
    · have hf := gif_f c3 hf
      refine lv_aload_n hx hb dX8_isSeat_15 rfl (lv_at hl 0 rfl) ?_
      refine lv_iload_n hx hb dX8_isSeat_16 rfl (lv_at hl 1 rfl) ?_
      refine lv_bipush (v := (10 : Int32)) hx hb dX8_isSeat_17 (by decide) ?_
      refine lv_irem hx hb dX8_isSeat_19 (by decide) ?_
      obtain ⟨r4, hc4, hf⟩ := pb_s hf
      refine g_doI0 hG (g_runV C0 hG (k_X8_isCarriage l D base Z u (p1 - p1 / (10 : Int32) * (10 : Int32)) r4 hc4) m_X8_isCarriage v_X8_isCarriage w_1086 (by decide) (g_recv C0 hG (L82 hG) rfl) rfl hl.1 rfl (Nat.le_of_ble_eq_true rfl) dX8_isSeat_20 ⟨Nat.zero_le _, Nat.zero_le _⟩) (fun H locs hG hk => ?_)
      refine lv_if_eq (tgt := 30) hx hb dX8_isSeat_23 (by decide) (fun c5 => ?_) (fun c5 => ?_)
      · have hf := gif_t c5 hf
        refine lv_iconst (v := (0 : Int32)) hx hb dX8_isSeat_30 (by decide) ?_
        have hf := Option.some.inj hf
        subst hf
        subst hQ
        exact g_zret C0 hG hr (by decide) dX8_isSeat_31
      · have hf := gif_f c5 hf
        refine lv_iconst (v := (1 : Int32)) hx hb dX8_isSeat_26 (by decide) ?_
        refine lv_goto (tgt := 31) hx hb dX8_isSeat_27 (by decide) ?_
        have hf := Option.some.inj hf
        subst hf
        subst hQ
        exact g_zret C0 hG hr (by decide) dX8_isSeat_31
theorem dX8_plan_0 : decode cX8_plan 0 = .ok (.iload_n 1, 1) := by decide +kernel
theorem dX8_plan_1 : decode cX8_plan 1 = .ok (.iconst (-1), 1) := by decide +kernel
theorem dX8_plan_2 : decode cX8_plan 2 = .ok (.if_icmp .ne 10, 3) := by decide +kernel
theorem dX8_plan_5 : decode cX8_plan 5 = .ok (.aload_n 0, 1) := by decide +kernel
theorem dX8_plan_6 : decode cX8_plan 6 = .ok (.iconst 0, 1) := by decide +kernel
theorem dX8_plan_7 : decode cX8_plan 7 = .ok (.putfield 135, 3) := by decide +kernel
theorem dX8_plan_10 : decode cX8_plan 10 = .ok (.iconst 0, 1) := by decide +kernel
theorem dX8_plan_11 : decode cX8_plan 11 = .ok (.ireturn, 1) := by decide +kernel
theorem dX8_plan_12 : decode cX8_plan 12 = .ok (.aload_n 0, 1) := by decide +kernel
theorem dX8_plan_13 : decode cX8_plan 13 = .ok (.iload_n 1, 1) := by decide +kernel
theorem dX8_plan_14 : decode cX8_plan 14 = .ok (.iconst 0, 1) := by decide +kernel
theorem dX8_plan_15 : decode cX8_plan 15 = .ok (.iconst 3, 1) := by decide +kernel
theorem dX8_plan_16 : decode cX8_plan 16 = .ok (.invokevirtual 249, 3) := by decide +kernel
theorem dX8_plan_19 : decode cX8_plan 19 = .ok (.ifCond .eq 34, 3) := by decide +kernel
theorem dX8_plan_22 : decode cX8_plan 22 = .ok (.aload_n 0, 1) := by decide +kernel
theorem dX8_plan_23 : decode cX8_plan 23 = .ok (.iload_n 1, 1) := by decide +kernel
theorem dX8_plan_24 : decode cX8_plan 24 = .ok (.iconst 1, 1) := by decide +kernel
theorem dX8_plan_25 : decode cX8_plan 25 = .ok (.iconst 2, 1) := by decide +kernel
theorem dX8_plan_26 : decode cX8_plan 26 = .ok (.invokevirtual 249, 3) := by decide +kernel
theorem dX8_plan_29 : decode cX8_plan 29 = .ok (.ifCond .eq 11, 3) := by decide +kernel
theorem dX8_plan_32 : decode cX8_plan 32 = .ok (.aload_n 0, 1) := by decide +kernel
theorem dX8_plan_33 : decode cX8_plan 33 = .ok (.iload_n 2, 1) := by decide +kernel
theorem dX8_plan_34 : decode cX8_plan 34 = .ok (.invokevirtual 260, 3) := by decide +kernel
theorem dX8_plan_37 : decode cX8_plan 37 = .ok (.ifCond .eq 16, 3) := by decide +kernel
theorem dX8_plan_40 : decode cX8_plan 40 = .ok (.iload_n 1, 1) := by decide +kernel
theorem dX8_plan_41 : decode cX8_plan 41 = .ok (.iconst 3, 1) := by decide +kernel
theorem dX8_plan_42 : decode cX8_plan 42 = .ok (.if_icmp .ne 13, 3) := by decide +kernel
theorem dX8_plan_45 : decode cX8_plan 45 = .ok (.aload_n 0, 1) := by decide +kernel
theorem dX8_plan_46 : decode cX8_plan 46 = .ok (.iload_n 2, 1) := by decide +kernel
theorem dX8_plan_47 : decode cX8_plan 47 = .ok (.invokevirtual 401, 3) := by decide +kernel
theorem dX8_plan_50 : decode cX8_plan 50 = .ok (.ifCond .ne 5, 3) := by decide +kernel
theorem dX8_plan_53 : decode cX8_plan 53 = .ok (.iconst (-1), 1) := by decide +kernel
theorem dX8_plan_54 : decode cX8_plan 54 = .ok (.ireturn, 1) := by decide +kernel
theorem dX8_plan_55 : decode cX8_plan 55 = .ok (.aload_n 0, 1) := by decide +kernel
theorem dX8_plan_56 : decode cX8_plan 56 = .ok (.getfield 135, 3) := by decide +kernel
theorem dX8_plan_59 : decode cX8_plan 59 = .ok (.bipush 10, 2) := by decide +kernel
theorem dX8_plan_61 : decode cX8_plan 61 = .ok (.if_icmp .ne 6, 3) := by decide +kernel
theorem dX8_plan_64 : decode cX8_plan 64 = .ok (.bipush (-4), 2) := by decide +kernel
theorem dX8_plan_66 : decode cX8_plan 66 = .ok (.ireturn, 1) := by decide +kernel
theorem dX8_plan_67 : decode cX8_plan 67 = .ok (.aload_n 0, 1) := by decide +kernel
theorem dX8_plan_68 : decode cX8_plan 68 = .ok (.getfield 141, 3) := by decide +kernel
theorem dX8_plan_71 : decode cX8_plan 71 = .ok (.aload_n 0, 1) := by decide +kernel
theorem dX8_plan_72 : decode cX8_plan 72 = .ok (.getfield 135, 3) := by decide +kernel
theorem dX8_plan_75 : decode cX8_plan 75 = .ok (.iload_n 1, 1) := by decide +kernel
theorem dX8_plan_76 : decode cX8_plan 76 = .ok (.iastore, 1) := by decide +kernel
theorem dX8_plan_77 : decode cX8_plan 77 = .ok (.aload_n 0, 1) := by decide +kernel
theorem dX8_plan_78 : decode cX8_plan 78 = .ok (.getfield 144, 3) := by decide +kernel
theorem dX8_plan_81 : decode cX8_plan 81 = .ok (.aload_n 0, 1) := by decide +kernel
theorem dX8_plan_82 : decode cX8_plan 82 = .ok (.getfield 135, 3) := by decide +kernel
theorem dX8_plan_85 : decode cX8_plan 85 = .ok (.iload_n 1, 1) := by decide +kernel
theorem dX8_plan_86 : decode cX8_plan 86 = .ok (.ifCond .le 7, 3) := by decide +kernel
theorem dX8_plan_89 : decode cX8_plan 89 = .ok (.iload_n 2, 1) := by decide +kernel
theorem dX8_plan_90 : decode cX8_plan 90 = .ok (.goto 4, 3) := by decide +kernel
theorem dX8_plan_93 : decode cX8_plan 93 = .ok (.iconst 0, 1) := by decide +kernel
theorem dX8_plan_94 : decode cX8_plan 94 = .ok (.iastore, 1) := by decide +kernel
theorem dX8_plan_95 : decode cX8_plan 95 = .ok (.aload_n 0, 1) := by decide +kernel
theorem dX8_plan_96 : decode cX8_plan 96 = .ok (.dup, 1) := by decide +kernel
theorem dX8_plan_97 : decode cX8_plan 97 = .ok (.getfield 135, 3) := by decide +kernel
theorem dX8_plan_100 : decode cX8_plan 100 = .ok (.iconst 1, 1) := by decide +kernel
theorem dX8_plan_101 : decode cX8_plan 101 = .ok (.iadd, 1) := by decide +kernel
theorem dX8_plan_102 : decode cX8_plan 102 = .ok (.putfield 135, 3) := by decide +kernel
theorem dX8_plan_105 : decode cX8_plan 105 = .ok (.aload_n 0, 1) := by decide +kernel
theorem dX8_plan_106 : decode cX8_plan 106 = .ok (.getfield 135, 3) := by decide +kernel
theorem dX8_plan_109 : decode cX8_plan 109 = .ok (.ireturn, 1) := by decide +kernel
def f_X8_plan (p1 : Int32) (p2 : Int32) (u : Mem) : Option (Int32 × Mem) := (if p1 = (-1 : Int32) then some ((0 : Int32), sI u 82 41 (0 : Int32)) else Option.bind (f_X8_in p1 (0 : Int32) (3 : Int32)) (fun r2 => (if r2 = 0 then some ((-1 : Int32), u) else Option.bind (f_X8_in p1 (1 : Int32) (2 : Int32)) (fun r4 => (if r4 = 0 then (if p1 = (3 : Int32) then Option.bind (f_X8_isSeat p2 u) (fun r12 => (if r12 = 0 then some ((-1 : Int32), u) else (if (gI u 82 41) = (10 : Int32) then some ((-4 : Int32), u) else gin (gI u 82 41) 10 ((if p1 ≤ 0 then gin (gI (sA u 106 (gI u 82 41).toNatClampNeg p1) 82 41) 10 (some (gI (sI (sA (sA u 106 (gI u 82 41).toNatClampNeg p1) 107 (gI (sA u 106 (gI u 82 41).toNatClampNeg p1) 82 41).toNatClampNeg (0 : Int32)) 82 41 ((gI (sA (sA u 106 (gI u 82 41).toNatClampNeg p1) 107 (gI (sA u 106 (gI u 82 41).toNatClampNeg p1) 82 41).toNatClampNeg (0 : Int32)) 82 41) + (1 : Int32))) 82 41, sI (sA (sA u 106 (gI u 82 41).toNatClampNeg p1) 107 (gI (sA u 106 (gI u 82 41).toNatClampNeg p1) 82 41).toNatClampNeg (0 : Int32)) 82 41 ((gI (sA (sA u 106 (gI u 82 41).toNatClampNeg p1) 107 (gI (sA u 106 (gI u 82 41).toNatClampNeg p1) 82 41).toNatClampNeg (0 : Int32)) 82 41) + (1 : Int32)))) else gin (gI (sA u 106 (gI u 82 41).toNatClampNeg p1) 82 41) 10 (some (gI (sI (sA (sA u 106 (gI u 82 41).toNatClampNeg p1) 107 (gI (sA u 106 (gI u 82 41).toNatClampNeg p1) 82 41).toNatClampNeg p2) 82 41 ((gI (sA (sA u 106 (gI u 82 41).toNatClampNeg p1) 107 (gI (sA u 106 (gI u 82 41).toNatClampNeg p1) 82 41).toNatClampNeg p2) 82 41) + (1 : Int32))) 82 41, sI (sA (sA u 106 (gI u 82 41).toNatClampNeg p1) 107 (gI (sA u 106 (gI u 82 41).toNatClampNeg p1) 82 41).toNatClampNeg p2) 82 41 ((gI (sA (sA u 106 (gI u 82 41).toNatClampNeg p1) 107 (gI (sA u 106 (gI u 82 41).toNatClampNeg p1) 82 41).toNatClampNeg p2) 82 41) + (1 : Int32))))))))) else (if (gI u 82 41) = (10 : Int32) then some ((-4 : Int32), u) else gin (gI u 82 41) 10 ((if p1 ≤ 0 then gin (gI (sA u 106 (gI u 82 41).toNatClampNeg p1) 82 41) 10 (some (gI (sI (sA (sA u 106 (gI u 82 41).toNatClampNeg p1) 107 (gI (sA u 106 (gI u 82 41).toNatClampNeg p1) 82 41).toNatClampNeg (0 : Int32)) 82 41 ((gI (sA (sA u 106 (gI u 82 41).toNatClampNeg p1) 107 (gI (sA u 106 (gI u 82 41).toNatClampNeg p1) 82 41).toNatClampNeg (0 : Int32)) 82 41) + (1 : Int32))) 82 41, sI (sA (sA u 106 (gI u 82 41).toNatClampNeg p1) 107 (gI (sA u 106 (gI u 82 41).toNatClampNeg p1) 82 41).toNatClampNeg (0 : Int32)) 82 41 ((gI (sA (sA u 106 (gI u 82 41).toNatClampNeg p1) 107 (gI (sA u 106 (gI u 82 41).toNatClampNeg p1) 82 41).toNatClampNeg (0 : Int32)) 82 41) + (1 : Int32)))) else gin (gI (sA u 106 (gI u 82 41).toNatClampNeg p1) 82 41) 10 (some (gI (sI (sA (sA u 106 (gI u 82 41).toNatClampNeg p1) 107 (gI (sA u 106 (gI u 82 41).toNatClampNeg p1) 82 41).toNatClampNeg p2) 82 41 ((gI (sA (sA u 106 (gI u 82 41).toNatClampNeg p1) 107 (gI (sA u 106 (gI u 82 41).toNatClampNeg p1) 82 41).toNatClampNeg p2) 82 41) + (1 : Int32))) 82 41, sI (sA (sA u 106 (gI u 82 41).toNatClampNeg p1) 107 (gI (sA u 106 (gI u 82 41).toNatClampNeg p1) 82 41).toNatClampNeg p2) 82 41 ((gI (sA (sA u 106 (gI u 82 41).toNatClampNeg p1) 107 (gI (sA u 106 (gI u 82 41).toNatClampNeg p1) 82 41).toNatClampNeg p2) 82 41) + (1 : Int32)))))))) else Option.bind (f_X8_isOne p2 u) (fun r19 => (if r19 = 0 then some ((-1 : Int32), u) else (if p1 = (3 : Int32) then Option.bind (f_X8_isSeat p2 u) (fun r27 => (if r27 = 0 then some ((-1 : Int32), u) else (if (gI u 82 41) = (10 : Int32) then some ((-4 : Int32), u) else gin (gI u 82 41) 10 ((if p1 ≤ 0 then gin (gI (sA u 106 (gI u 82 41).toNatClampNeg p1) 82 41) 10 (some (gI (sI (sA (sA u 106 (gI u 82 41).toNatClampNeg p1) 107 (gI (sA u 106 (gI u 82 41).toNatClampNeg p1) 82 41).toNatClampNeg (0 : Int32)) 82 41 ((gI (sA (sA u 106 (gI u 82 41).toNatClampNeg p1) 107 (gI (sA u 106 (gI u 82 41).toNatClampNeg p1) 82 41).toNatClampNeg (0 : Int32)) 82 41) + (1 : Int32))) 82 41, sI (sA (sA u 106 (gI u 82 41).toNatClampNeg p1) 107 (gI (sA u 106 (gI u 82 41).toNatClampNeg p1) 82 41).toNatClampNeg (0 : Int32)) 82 41 ((gI (sA (sA u 106 (gI u 82 41).toNatClampNeg p1) 107 (gI (sA u 106 (gI u 82 41).toNatClampNeg p1) 82 41).toNatClampNeg (0 : Int32)) 82 41) + (1 : Int32)))) else gin (gI (sA u 106 (gI u 82 41).toNatClampNeg p1) 82 41) 10 (some (gI (sI (sA (sA u 106 (gI u 82 41).toNatClampNeg p1) 107 (gI (sA u 106 (gI u 82 41).toNatClampNeg p1) 82 41).toNatClampNeg p2) 82 41 ((gI (sA (sA u 106 (gI u 82 41).toNatClampNeg p1) 107 (gI (sA u 106 (gI u 82 41).toNatClampNeg p1) 82 41).toNatClampNeg p2) 82 41) + (1 : Int32))) 82 41, sI (sA (sA u 106 (gI u 82 41).toNatClampNeg p1) 107 (gI (sA u 106 (gI u 82 41).toNatClampNeg p1) 82 41).toNatClampNeg p2) 82 41 ((gI (sA (sA u 106 (gI u 82 41).toNatClampNeg p1) 107 (gI (sA u 106 (gI u 82 41).toNatClampNeg p1) 82 41).toNatClampNeg p2) 82 41) + (1 : Int32))))))))) else (if (gI u 82 41) = (10 : Int32) then some ((-4 : Int32), u) else gin (gI u 82 41) 10 ((if p1 ≤ 0 then gin (gI (sA u 106 (gI u 82 41).toNatClampNeg p1) 82 41) 10 (some (gI (sI (sA (sA u 106 (gI u 82 41).toNatClampNeg p1) 107 (gI (sA u 106 (gI u 82 41).toNatClampNeg p1) 82 41).toNatClampNeg (0 : Int32)) 82 41 ((gI (sA (sA u 106 (gI u 82 41).toNatClampNeg p1) 107 (gI (sA u 106 (gI u 82 41).toNatClampNeg p1) 82 41).toNatClampNeg (0 : Int32)) 82 41) + (1 : Int32))) 82 41, sI (sA (sA u 106 (gI u 82 41).toNatClampNeg p1) 107 (gI (sA u 106 (gI u 82 41).toNatClampNeg p1) 82 41).toNatClampNeg (0 : Int32)) 82 41 ((gI (sA (sA u 106 (gI u 82 41).toNatClampNeg p1) 107 (gI (sA u 106 (gI u 82 41).toNatClampNeg p1) 82 41).toNatClampNeg (0 : Int32)) 82 41) + (1 : Int32)))) else gin (gI (sA u 106 (gI u 82 41).toNatClampNeg p1) 82 41) 10 (some (gI (sI (sA (sA u 106 (gI u 82 41).toNatClampNeg p1) 107 (gI (sA u 106 (gI u 82 41).toNatClampNeg p1) 82 41).toNatClampNeg p2) 82 41 ((gI (sA (sA u 106 (gI u 82 41).toNatClampNeg p1) 107 (gI (sA u 106 (gI u 82 41).toNatClampNeg p1) 82 41).toNatClampNeg p2) 82 41) + (1 : Int32))) 82 41, sI (sA (sA u 106 (gI u 82 41).toNatClampNeg p1) 107 (gI (sA u 106 (gI u 82 41).toNatClampNeg p1) 82 41).toNatClampNeg p2) 82 41 ((gI (sA (sA u 106 (gI u 82 41).toNatClampNeg p1) 107 (gI (sA u 106 (gI u 82 41).toNatClampNeg p1) 82 41).toNatClampNeg p2) 82 41) + (1 : Int32)))))))))))))))
set_option maxHeartbeats 4000000 in
set_option maxRecDepth 100000 in
theorem k_X8_plan (l : Launch) (D : gDt) (base : Nat) (Z : gZt) (u : Mem) (p1 : Int32) (p2 : Int32) (r : Int32) (u' : Mem) (hf : f_X8_plan p1 p2 u = some (r, u')) : Met l yX8_plan (gws yX8_plan cX8_plan 3 (some .int)) (gRm 4 0 0) (gPc D base Z u [.ref (base + 82), .int p1, .int p2]) (gQi D base r u') 0 0 (gF base) := by
  refine Met.ofW (cc := cX8_plan) (maxL := 3) (ret := some .int) (by decide) rfl ?_
  intro p e s m args below meth c s₁ B hml hv
  obtain ⟨rfl, C0, hG⟩ := g_enter B hml hv
  have hr := B.returns
  have C0 : gC p s m meth c _ cX8_plan 3 RX8 D base Z := C0
  have hx := C0.1
  have hb := C0.2.1
  have hl := lv_entry ([.ref (base + 82), .int p1, .int p2]) (n := 3) (Nat.le_of_ble_eq_true rfl)
  rw [lg_entry_eq]
  generalize (lg_sl ([.ref (base + 82), .int p1, .int p2]) ++ List.replicate (3 - (lg_sl ([.ref (base + 82), .int p1, .int p2])).length) Slot.unset).toArray = ls at hl ⊢
  have hl : lv_has ls 3 [(0, .ref (base + 82)), (1, .int p1), (2, .int p2)] := hl
  obtain ⟨Q, hQ⟩ : ∃ Q, Q = MQ below (gQi D base r u') ([.ref (base + 82), .int p1, .int p2] : List Value).toArray s 0 0 (gF base) := ⟨_, rfl⟩
  rw [← hQ]
  change W p l e (gRm 4 0 0) s m _ below meth c _ _ _ _ _ _
  unfold f_X8_plan at hf
  refine lv_iload_n hx hb dX8_plan_0 rfl (lv_at hl 1 rfl) ?_
  refine lv_iconst (v := (-1 : Int32)) hx hb dX8_plan_1 (by decide) ?_
  refine lv_icmp_ne (tgt := 12) hx hb dX8_plan_2 (by decide) (fun c1 => ?_) (fun c1 => ?_)
  · have hf := gif_f c1 hf
    refine lv_aload_n hx hb dX8_plan_12 rfl (lv_at hl 0 rfl) ?_
    refine lv_iload_n hx hb dX8_plan_13 rfl (lv_at hl 1 rfl) ?_
    refine lv_iconst (v := (0 : Int32)) hx hb dX8_plan_14 (by decide) ?_
    refine lv_iconst (v := (3 : Int32)) hx hb dX8_plan_15 (by decide) ?_
    obtain ⟨r2, hc2, hf⟩ := pb_s hf
    refine g_doI0 hG (g_runV C0 hG (k_X8_in l D base Z u p1 (0 : Int32) (3 : Int32) r2 hc2) m_X8_in v_X8_in w_1082 (by decide) (g_recv C0 hG (L82 hG) rfl) rfl hl.1 rfl (Nat.le_of_ble_eq_true rfl) dX8_plan_16 ⟨Nat.zero_le _, Nat.zero_le _⟩) (fun H locs hG hk => ?_)
    refine lv_if_eq (tgt := 53) hx hb dX8_plan_19 (by decide) (fun c3 => ?_) (fun c3 => ?_)
    · have hf := gif_t c3 hf
      refine lv_iconst (v := (-1 : Int32)) hx hb dX8_plan_53 (by decide) ?_
      obtain ⟨hr1, hu⟩ := gret_s hf
      subst hr1
      subst hu
      subst hQ
      exact g_iret C0 hG hr dX8_plan_54
    · have hf := gif_f c3 hf
      refine lv_aload_n hx hb dX8_plan_22 rfl (lv_at hl 0 rfl) ?_
      refine lv_iload_n hx hb dX8_plan_23 rfl (lv_at hl 1 rfl) ?_
      refine lv_iconst (v := (1 : Int32)) hx hb dX8_plan_24 (by decide) ?_
      refine lv_iconst (v := (2 : Int32)) hx hb dX8_plan_25 (by decide) ?_
      obtain ⟨r4, hc4, hf⟩ := pb_s hf
      refine g_doI0 hG (g_runV C0 hG (k_X8_in l D base Z u p1 (1 : Int32) (2 : Int32) r4 hc4) m_X8_in v_X8_in w_1082 (by decide) (g_recv C0 hG (L82 hG) rfl) rfl hl.1 rfl (Nat.le_of_ble_eq_true rfl) dX8_plan_26 ⟨Nat.zero_le _, Nat.zero_le _⟩) (fun H locs hG hk => ?_)
      refine lv_if_eq (tgt := 40) hx hb dX8_plan_29 (by decide) (fun c5 => ?_) (fun c5 => ?_)
      · have hf := gif_t c5 hf
        refine lv_iload_n hx hb dX8_plan_40 rfl (lv_at hl 1 rfl) ?_
        refine lv_iconst (v := (3 : Int32)) hx hb dX8_plan_41 (by decide) ?_
        refine lv_icmp_ne (tgt := 55) hx hb dX8_plan_42 (by decide) (fun c6 => ?_) (fun c6 => ?_)
        · have hf := gif_f c6 hf
          refine lv_aload_n hx hb dX8_plan_55 rfl (lv_at hl 0 rfl) ?_
          refine g_getI C0 hG (L82 hG) rfl 41 (by decide) rfl w_887 dX8_plan_56 ?_
          refine lv_bipush (v := (10 : Int32)) hx hb dX8_plan_59 (by decide) ?_
          refine lv_icmp_ne (tgt := 67) hx hb dX8_plan_61 (by decide) (fun c7 => ?_) (fun c7 => ?_)
          · have hf := gif_f c7 hf
            refine lv_aload_n hx hb dX8_plan_67 rfl (lv_at hl 0 rfl) ?_
            refine g_getSa (o := 24) (a := 106) C0 hG (L82 hG) rfl 43 (by decide) rfl rfl w_889 dX8_plan_68 ?_
            refine lv_aload_n hx hb dX8_plan_71 rfl (lv_at hl 0 rfl) ?_
            refine g_getI C0 hG (L82 hG) rfl 41 (by decide) rfl w_887 dX8_plan_72 ?_
            refine lv_iload_n hx hb dX8_plan_75 rfl (lv_at hl 1 rfl) ?_
            obtain ⟨h8, hf⟩ := gin_s hf
            refine g_iast C0 hG (L106 hG) h8 dX8_plan_76 (fun H locs hG => ?_)
            refine lv_aload_n hx hb dX8_plan_77 rfl (lv_at hl 0 rfl) ?_
            refine g_getSa (o := 25) (a := 107) C0 hG (L82 hG) rfl 44 (by decide) rfl rfl w_890 dX8_plan_78 ?_
            refine lv_aload_n hx hb dX8_plan_81 rfl (lv_at hl 0 rfl) ?_
            refine g_getI C0 hG (L82 hG) rfl 41 (by decide) rfl w_887 dX8_plan_82 ?_
            refine lv_iload_n hx hb dX8_plan_85 rfl (lv_at hl 1 rfl) ?_
            refine lv_if_le (tgt := 93) hx hb dX8_plan_86 (by decide) (fun c9 => ?_) (fun c9 => ?_)
            · have hf := gif_t c9 hf
              refine lv_iconst (v := (0 : Int32)) hx hb dX8_plan_93 (by decide) ?_
              obtain ⟨h10, hf⟩ := gin_s hf
              refine g_iast C0 hG (L107 hG) h10 dX8_plan_94 (fun H locs hG => ?_)
              refine lv_aload_n hx hb dX8_plan_95 rfl (lv_at hl 0 rfl) ?_
              refine lv_dup hx hb dX8_plan_96 rfl ?_
              refine g_getI C0 hG (L82 hG) rfl 41 (by decide) rfl w_887 dX8_plan_97 ?_
              refine lv_iconst (v := (1 : Int32)) hx hb dX8_plan_100 (by decide) ?_
              refine lv_iadd hx hb dX8_plan_101 ?_
              refine g_putI (ty := .int) C0 hG (L82 hG) rfl 41 (by decide) rfl w_887 rfl (by decide) rfl rfl dX8_plan_102 (fun H locs hG => ?_)
              refine lv_aload_n hx hb dX8_plan_105 rfl (lv_at hl 0 rfl) ?_
              refine g_getI C0 hG (L82 hG) rfl 41 (by decide) rfl w_887 dX8_plan_106 ?_
              obtain ⟨hr1, hu⟩ := gret_s hf
              subst hr1
              subst hu
              subst hQ
              exact g_iret C0 hG hr dX8_plan_109
            · have hf := gif_f c9 hf
              refine lv_iload_n hx hb dX8_plan_89 rfl (lv_at hl 2 rfl) ?_
              refine lv_goto (tgt := 94) hx hb dX8_plan_90 (by decide) ?_
              obtain ⟨h11, hf⟩ := gin_s hf
              refine g_iast C0 hG (L107 hG) h11 dX8_plan_94 (fun H locs hG => ?_)
              refine lv_aload_n hx hb dX8_plan_95 rfl (lv_at hl 0 rfl) ?_
              refine lv_dup hx hb dX8_plan_96 rfl ?_
              refine g_getI C0 hG (L82 hG) rfl 41 (by decide) rfl w_887 dX8_plan_97 ?_
              refine lv_iconst (v := (1 : Int32)) hx hb dX8_plan_100 (by decide) ?_
              refine lv_iadd hx hb dX8_plan_101 ?_
              refine g_putI (ty := .int) C0 hG (L82 hG) rfl 41 (by decide) rfl w_887 rfl (by decide) rfl rfl dX8_plan_102 (fun H locs hG => ?_)
              refine lv_aload_n hx hb dX8_plan_105 rfl (lv_at hl 0 rfl) ?_
              refine g_getI C0 hG (L82 hG) rfl 41 (by decide) rfl w_887 dX8_plan_106 ?_
              obtain ⟨hr1, hu⟩ := gret_s hf
              subst hr1
              subst hu
              subst hQ
              exact g_iret C0 hG hr dX8_plan_109
          · have hf := gif_t c7 hf
            refine lv_bipush (v := (-4 : Int32)) hx hb dX8_plan_64 (by decide) ?_
            obtain ⟨hr1, hu⟩ := gret_s hf
            subst hr1
            subst hu
            subst hQ
            exact g_iret C0 hG hr dX8_plan_66
        · have hf := gif_t c6 hf
          refine lv_aload_n hx hb dX8_plan_45 rfl (lv_at hl 0 rfl) ?_
          refine lv_iload_n hx hb dX8_plan_46 rfl (lv_at hl 2 rfl) ?_
          obtain ⟨r12, hc12, hf⟩ := pb_s hf
          refine g_doI0 hG (g_runV C0 hG (k_X8_isSeat l D base Z u p2 r12 hc12) m_X8_isSeat v_X8_isSeat w_1348 (by decide) (g_recv C0 hG (L82 hG) rfl) rfl hl.1 rfl (Nat.le_of_ble_eq_true rfl) dX8_plan_47 ⟨Nat.zero_le _, Nat.zero_le _⟩) (fun H locs hG hk => ?_)
          refine lv_if_ne (tgt := 55) hx hb dX8_plan_50 (by decide) (fun c13 => ?_) (fun c13 => ?_)
          · have hf := gif_f c13 hf
            refine lv_aload_n hx hb dX8_plan_55 rfl (lv_at hl 0 rfl) ?_
            refine g_getI C0 hG (L82 hG) rfl 41 (by decide) rfl w_887 dX8_plan_56 ?_
            refine lv_bipush (v := (10 : Int32)) hx hb dX8_plan_59 (by decide) ?_
            refine lv_icmp_ne (tgt := 67) hx hb dX8_plan_61 (by decide) (fun c14 => ?_) (fun c14 => ?_)
            · have hf := gif_f c14 hf
              refine lv_aload_n hx hb dX8_plan_67 rfl (lv_at hl 0 rfl) ?_
              refine g_getSa (o := 24) (a := 106) C0 hG (L82 hG) rfl 43 (by decide) rfl rfl w_889 dX8_plan_68 ?_
              refine lv_aload_n hx hb dX8_plan_71 rfl (lv_at hl 0 rfl) ?_
              refine g_getI C0 hG (L82 hG) rfl 41 (by decide) rfl w_887 dX8_plan_72 ?_
              refine lv_iload_n hx hb dX8_plan_75 rfl (lv_at hl 1 rfl) ?_
              obtain ⟨h15, hf⟩ := gin_s hf
              refine g_iast C0 hG (L106 hG) h15 dX8_plan_76 (fun H locs hG => ?_)
              refine lv_aload_n hx hb dX8_plan_77 rfl (lv_at hl 0 rfl) ?_
              refine g_getSa (o := 25) (a := 107) C0 hG (L82 hG) rfl 44 (by decide) rfl rfl w_890 dX8_plan_78 ?_
              refine lv_aload_n hx hb dX8_plan_81 rfl (lv_at hl 0 rfl) ?_
              refine g_getI C0 hG (L82 hG) rfl 41 (by decide) rfl w_887 dX8_plan_82 ?_
              refine lv_iload_n hx hb dX8_plan_85 rfl (lv_at hl 1 rfl) ?_
              refine lv_if_le (tgt := 93) hx hb dX8_plan_86 (by decide) (fun c16 => ?_) (fun c16 => ?_)
              · have hf := gif_t c16 hf
                refine lv_iconst (v := (0 : Int32)) hx hb dX8_plan_93 (by decide) ?_
                obtain ⟨h17, hf⟩ := gin_s hf
                refine g_iast C0 hG (L107 hG) h17 dX8_plan_94 (fun H locs hG => ?_)
                refine lv_aload_n hx hb dX8_plan_95 rfl (lv_at hl 0 rfl) ?_
                refine lv_dup hx hb dX8_plan_96 rfl ?_
                refine g_getI C0 hG (L82 hG) rfl 41 (by decide) rfl w_887 dX8_plan_97 ?_
                refine lv_iconst (v := (1 : Int32)) hx hb dX8_plan_100 (by decide) ?_
                refine lv_iadd hx hb dX8_plan_101 ?_
                refine g_putI (ty := .int) C0 hG (L82 hG) rfl 41 (by decide) rfl w_887 rfl (by decide) rfl rfl dX8_plan_102 (fun H locs hG => ?_)
                refine lv_aload_n hx hb dX8_plan_105 rfl (lv_at hl 0 rfl) ?_
                refine g_getI C0 hG (L82 hG) rfl 41 (by decide) rfl w_887 dX8_plan_106 ?_
                obtain ⟨hr1, hu⟩ := gret_s hf
                subst hr1
                subst hu
                subst hQ
                exact g_iret C0 hG hr dX8_plan_109
              · have hf := gif_f c16 hf
                refine lv_iload_n hx hb dX8_plan_89 rfl (lv_at hl 2 rfl) ?_
                refine lv_goto (tgt := 94) hx hb dX8_plan_90 (by decide) ?_
                obtain ⟨h18, hf⟩ := gin_s hf
                refine g_iast C0 hG (L107 hG) h18 dX8_plan_94 (fun H locs hG => ?_)
                refine lv_aload_n hx hb dX8_plan_95 rfl (lv_at hl 0 rfl) ?_
                refine lv_dup hx hb dX8_plan_96 rfl ?_
                refine g_getI C0 hG (L82 hG) rfl 41 (by decide) rfl w_887 dX8_plan_97 ?_
                refine lv_iconst (v := (1 : Int32)) hx hb dX8_plan_100 (by decide) ?_
                refine lv_iadd hx hb dX8_plan_101 ?_
                refine g_putI (ty := .int) C0 hG (L82 hG) rfl 41 (by decide) rfl w_887 rfl (by decide) rfl rfl dX8_plan_102 (fun H locs hG => ?_)
                refine lv_aload_n hx hb dX8_plan_105 rfl (lv_at hl 0 rfl) ?_
                refine g_getI C0 hG (L82 hG) rfl 41 (by decide) rfl w_887 dX8_plan_106 ?_
                obtain ⟨hr1, hu⟩ := gret_s hf
                subst hr1
                subst hu
                subst hQ
                exact g_iret C0 hG hr dX8_plan_109
            · have hf := gif_t c14 hf
              refine lv_bipush (v := (-4 : Int32)) hx hb dX8_plan_64 (by decide) ?_
              obtain ⟨hr1, hu⟩ := gret_s hf
              subst hr1
              subst hu
              subst hQ
              exact g_iret C0 hG hr dX8_plan_66
          · have hf := gif_t c13 hf
            refine lv_iconst (v := (-1 : Int32)) hx hb dX8_plan_53 (by decide) ?_
            obtain ⟨hr1, hu⟩ := gret_s hf
            subst hr1
            subst hu
            subst hQ
            exact g_iret C0 hG hr dX8_plan_54
      · have hf := gif_f c5 hf
        refine lv_aload_n hx hb dX8_plan_32 rfl (lv_at hl 0 rfl) ?_
        refine lv_iload_n hx hb dX8_plan_33 rfl (lv_at hl 2 rfl) ?_
        obtain ⟨r19, hc19, hf⟩ := pb_s hf
        refine g_doI0 hG (g_runV C0 hG (k_X8_isOne l D base Z u p2 r19 hc19) m_X8_isOne v_X8_isOne w_1098 (by decide) (g_recv C0 hG (L82 hG) rfl) rfl hl.1 rfl (Nat.le_of_ble_eq_true rfl) dX8_plan_34 ⟨Nat.zero_le _, Nat.zero_le _⟩) (fun H locs hG hk => ?_)
        refine lv_if_eq (tgt := 53) hx hb dX8_plan_37 (by decide) (fun c20 => ?_) (fun c20 => ?_)
        · have hf := gif_t c20 hf
          refine lv_iconst (v := (-1 : Int32)) hx hb dX8_plan_53 (by decide) ?_
          obtain ⟨hr1, hu⟩ := gret_s hf
          subst hr1
          subst hu
          subst hQ
          exact g_iret C0 hG hr dX8_plan_54
        · have hf := gif_f c20 hf
          refine lv_iload_n hx hb dX8_plan_40 rfl (lv_at hl 1 rfl) ?_
          refine lv_iconst (v := (3 : Int32)) hx hb dX8_plan_41 (by decide) ?_
          refine lv_icmp_ne (tgt := 55) hx hb dX8_plan_42 (by decide) (fun c21 => ?_) (fun c21 => ?_)
          · have hf := gif_f c21 hf
            refine lv_aload_n hx hb dX8_plan_55 rfl (lv_at hl 0 rfl) ?_
            refine g_getI C0 hG (L82 hG) rfl 41 (by decide) rfl w_887 dX8_plan_56 ?_
            refine lv_bipush (v := (10 : Int32)) hx hb dX8_plan_59 (by decide) ?_
            refine lv_icmp_ne (tgt := 67) hx hb dX8_plan_61 (by decide) (fun c22 => ?_) (fun c22 => ?_)
            · have hf := gif_f c22 hf
              refine lv_aload_n hx hb dX8_plan_67 rfl (lv_at hl 0 rfl) ?_
              refine g_getSa (o := 24) (a := 106) C0 hG (L82 hG) rfl 43 (by decide) rfl rfl w_889 dX8_plan_68 ?_
              refine lv_aload_n hx hb dX8_plan_71 rfl (lv_at hl 0 rfl) ?_
              refine g_getI C0 hG (L82 hG) rfl 41 (by decide) rfl w_887 dX8_plan_72 ?_
              refine lv_iload_n hx hb dX8_plan_75 rfl (lv_at hl 1 rfl) ?_
              obtain ⟨h23, hf⟩ := gin_s hf
              refine g_iast C0 hG (L106 hG) h23 dX8_plan_76 (fun H locs hG => ?_)
              refine lv_aload_n hx hb dX8_plan_77 rfl (lv_at hl 0 rfl) ?_
              refine g_getSa (o := 25) (a := 107) C0 hG (L82 hG) rfl 44 (by decide) rfl rfl w_890 dX8_plan_78 ?_
              refine lv_aload_n hx hb dX8_plan_81 rfl (lv_at hl 0 rfl) ?_
              refine g_getI C0 hG (L82 hG) rfl 41 (by decide) rfl w_887 dX8_plan_82 ?_
              refine lv_iload_n hx hb dX8_plan_85 rfl (lv_at hl 1 rfl) ?_
              refine lv_if_le (tgt := 93) hx hb dX8_plan_86 (by decide) (fun c24 => ?_) (fun c24 => ?_)
              · have hf := gif_t c24 hf
                refine lv_iconst (v := (0 : Int32)) hx hb dX8_plan_93 (by decide) ?_
                obtain ⟨h25, hf⟩ := gin_s hf
                refine g_iast C0 hG (L107 hG) h25 dX8_plan_94 (fun H locs hG => ?_)
                refine lv_aload_n hx hb dX8_plan_95 rfl (lv_at hl 0 rfl) ?_
                refine lv_dup hx hb dX8_plan_96 rfl ?_
                refine g_getI C0 hG (L82 hG) rfl 41 (by decide) rfl w_887 dX8_plan_97 ?_
                refine lv_iconst (v := (1 : Int32)) hx hb dX8_plan_100 (by decide) ?_
                refine lv_iadd hx hb dX8_plan_101 ?_
                refine g_putI (ty := .int) C0 hG (L82 hG) rfl 41 (by decide) rfl w_887 rfl (by decide) rfl rfl dX8_plan_102 (fun H locs hG => ?_)
                refine lv_aload_n hx hb dX8_plan_105 rfl (lv_at hl 0 rfl) ?_
                refine g_getI C0 hG (L82 hG) rfl 41 (by decide) rfl w_887 dX8_plan_106 ?_
                obtain ⟨hr1, hu⟩ := gret_s hf
                subst hr1
                subst hu
                subst hQ
                exact g_iret C0 hG hr dX8_plan_109
              · have hf := gif_f c24 hf
                refine lv_iload_n hx hb dX8_plan_89 rfl (lv_at hl 2 rfl) ?_
                refine lv_goto (tgt := 94) hx hb dX8_plan_90 (by decide) ?_
                obtain ⟨h26, hf⟩ := gin_s hf
                refine g_iast C0 hG (L107 hG) h26 dX8_plan_94 (fun H locs hG => ?_)
                refine lv_aload_n hx hb dX8_plan_95 rfl (lv_at hl 0 rfl) ?_
                refine lv_dup hx hb dX8_plan_96 rfl ?_
                refine g_getI C0 hG (L82 hG) rfl 41 (by decide) rfl w_887 dX8_plan_97 ?_
                refine lv_iconst (v := (1 : Int32)) hx hb dX8_plan_100 (by decide) ?_
                refine lv_iadd hx hb dX8_plan_101 ?_
                refine g_putI (ty := .int) C0 hG (L82 hG) rfl 41 (by decide) rfl w_887 rfl (by decide) rfl rfl dX8_plan_102 (fun H locs hG => ?_)
                refine lv_aload_n hx hb dX8_plan_105 rfl (lv_at hl 0 rfl) ?_
                refine g_getI C0 hG (L82 hG) rfl 41 (by decide) rfl w_887 dX8_plan_106 ?_
                obtain ⟨hr1, hu⟩ := gret_s hf
                subst hr1
                subst hu
                subst hQ
                exact g_iret C0 hG hr dX8_plan_109
            · have hf := gif_t c22 hf
              refine lv_bipush (v := (-4 : Int32)) hx hb dX8_plan_64 (by decide) ?_
              obtain ⟨hr1, hu⟩ := gret_s hf
              subst hr1
              subst hu
              subst hQ
              exact g_iret C0 hG hr dX8_plan_66
          · have hf := gif_t c21 hf
            refine lv_aload_n hx hb dX8_plan_45 rfl (lv_at hl 0 rfl) ?_
            refine lv_iload_n hx hb dX8_plan_46 rfl (lv_at hl 2 rfl) ?_
            obtain ⟨r27, hc27, hf⟩ := pb_s hf
            refine g_doI0 hG (g_runV C0 hG (k_X8_isSeat l D base Z u p2 r27 hc27) m_X8_isSeat v_X8_isSeat w_1348 (by decide) (g_recv C0 hG (L82 hG) rfl) rfl hl.1 rfl (Nat.le_of_ble_eq_true rfl) dX8_plan_47 ⟨Nat.zero_le _, Nat.zero_le _⟩) (fun H locs hG hk => ?_)
            refine lv_if_ne (tgt := 55) hx hb dX8_plan_50 (by decide) (fun c28 => ?_) (fun c28 => ?_)
            · have hf := gif_f c28 hf
              refine lv_aload_n hx hb dX8_plan_55 rfl (lv_at hl 0 rfl) ?_
              refine g_getI C0 hG (L82 hG) rfl 41 (by decide) rfl w_887 dX8_plan_56 ?_
              refine lv_bipush (v := (10 : Int32)) hx hb dX8_plan_59 (by decide) ?_
              refine lv_icmp_ne (tgt := 67) hx hb dX8_plan_61 (by decide) (fun c29 => ?_) (fun c29 => ?_)
              · have hf := gif_f c29 hf
                refine lv_aload_n hx hb dX8_plan_67 rfl (lv_at hl 0 rfl) ?_
                refine g_getSa (o := 24) (a := 106) C0 hG (L82 hG) rfl 43 (by decide) rfl rfl w_889 dX8_plan_68 ?_
                refine lv_aload_n hx hb dX8_plan_71 rfl (lv_at hl 0 rfl) ?_
                refine g_getI C0 hG (L82 hG) rfl 41 (by decide) rfl w_887 dX8_plan_72 ?_
                refine lv_iload_n hx hb dX8_plan_75 rfl (lv_at hl 1 rfl) ?_
                obtain ⟨h30, hf⟩ := gin_s hf
                refine g_iast C0 hG (L106 hG) h30 dX8_plan_76 (fun H locs hG => ?_)
                refine lv_aload_n hx hb dX8_plan_77 rfl (lv_at hl 0 rfl) ?_
                refine g_getSa (o := 25) (a := 107) C0 hG (L82 hG) rfl 44 (by decide) rfl rfl w_890 dX8_plan_78 ?_
                refine lv_aload_n hx hb dX8_plan_81 rfl (lv_at hl 0 rfl) ?_
                refine g_getI C0 hG (L82 hG) rfl 41 (by decide) rfl w_887 dX8_plan_82 ?_
                refine lv_iload_n hx hb dX8_plan_85 rfl (lv_at hl 1 rfl) ?_
                refine lv_if_le (tgt := 93) hx hb dX8_plan_86 (by decide) (fun c31 => ?_) (fun c31 => ?_)
                · have hf := gif_t c31 hf
                  refine lv_iconst (v := (0 : Int32)) hx hb dX8_plan_93 (by decide) ?_
                  obtain ⟨h32, hf⟩ := gin_s hf
                  refine g_iast C0 hG (L107 hG) h32 dX8_plan_94 (fun H locs hG => ?_)
                  refine lv_aload_n hx hb dX8_plan_95 rfl (lv_at hl 0 rfl) ?_
                  refine lv_dup hx hb dX8_plan_96 rfl ?_
                  refine g_getI C0 hG (L82 hG) rfl 41 (by decide) rfl w_887 dX8_plan_97 ?_
                  refine lv_iconst (v := (1 : Int32)) hx hb dX8_plan_100 (by decide) ?_
                  refine lv_iadd hx hb dX8_plan_101 ?_
                  refine g_putI (ty := .int) C0 hG (L82 hG) rfl 41 (by decide) rfl w_887 rfl (by decide) rfl rfl dX8_plan_102 (fun H locs hG => ?_)
                  refine lv_aload_n hx hb dX8_plan_105 rfl (lv_at hl 0 rfl) ?_
                  refine g_getI C0 hG (L82 hG) rfl 41 (by decide) rfl w_887 dX8_plan_106 ?_
                  obtain ⟨hr1, hu⟩ := gret_s hf
                  subst hr1
                  subst hu
                  subst hQ
                  exact g_iret C0 hG hr dX8_plan_109
                · have hf := gif_f c31 hf
                  refine lv_iload_n hx hb dX8_plan_89 rfl (lv_at hl 2 rfl) ?_
                  refine lv_goto (tgt := 94) hx hb dX8_plan_90 (by decide) ?_
                  obtain ⟨h33, hf⟩ := gin_s hf
                  refine g_iast C0 hG (L107 hG) h33 dX8_plan_94 (fun H locs hG => ?_)
                  refine lv_aload_n hx hb dX8_plan_95 rfl (lv_at hl 0 rfl) ?_
                  refine lv_dup hx hb dX8_plan_96 rfl ?_
                  refine g_getI C0 hG (L82 hG) rfl 41 (by decide) rfl w_887 dX8_plan_97 ?_
                  refine lv_iconst (v := (1 : Int32)) hx hb dX8_plan_100 (by decide) ?_
                  refine lv_iadd hx hb dX8_plan_101 ?_
                  refine g_putI (ty := .int) C0 hG (L82 hG) rfl 41 (by decide) rfl w_887 rfl (by decide) rfl rfl dX8_plan_102 (fun H locs hG => ?_)
                  refine lv_aload_n hx hb dX8_plan_105 rfl (lv_at hl 0 rfl) ?_
                  refine g_getI C0 hG (L82 hG) rfl 41 (by decide) rfl w_887 dX8_plan_106 ?_
                  obtain ⟨hr1, hu⟩ := gret_s hf
                  subst hr1
                  subst hu
                  subst hQ
                  exact g_iret C0 hG hr dX8_plan_109
              · have hf := gif_t c29 hf
                refine lv_bipush (v := (-4 : Int32)) hx hb dX8_plan_64 (by decide) ?_
                obtain ⟨hr1, hu⟩ := gret_s hf
                subst hr1
                subst hu
                subst hQ
                exact g_iret C0 hG hr dX8_plan_66
            · have hf := gif_t c28 hf
              refine lv_iconst (v := (-1 : Int32)) hx hb dX8_plan_53 (by decide) ?_
              obtain ⟨hr1, hu⟩ := gret_s hf
              subst hr1
              subst hu
              subst hQ
              exact g_iret C0 hG hr dX8_plan_54
  · have hf := gif_t c1 hf
    refine lv_aload_n hx hb dX8_plan_5 rfl (lv_at hl 0 rfl) ?_
    refine lv_iconst (v := (0 : Int32)) hx hb dX8_plan_6 (by decide) ?_
    refine g_putI (ty := .int) C0 hG (L82 hG) rfl 41 (by decide) rfl w_887 rfl (by decide) rfl rfl dX8_plan_7 (fun H locs hG => ?_)
    refine lv_iconst (v := (0 : Int32)) hx hb dX8_plan_10 (by decide) ?_
    obtain ⟨hr1, hu⟩ := gret_s hf
    subst hr1
    subst hu
    subst hQ
    exact g_iret C0 hG hr dX8_plan_11
theorem dX8_goPlan_0 : decode cX8_goPlan 0 = .ok (.iload_n 1, 1) := by decide +kernel
theorem dX8_goPlan_1 : decode cX8_goPlan 1 = .ok (.ifCond .ne 7, 3) := by decide +kernel
theorem dX8_goPlan_4 : decode cX8_goPlan 4 = .ok (.aload_n 0, 1) := by decide +kernel
theorem dX8_goPlan_5 : decode cX8_goPlan 5 = .ok (.invokevirtual 352, 3) := by decide +kernel
theorem dX8_goPlan_8 : decode cX8_goPlan 8 = .ok (.aload_n 0, 1) := by decide +kernel
theorem dX8_goPlan_9 : decode cX8_goPlan 9 = .ok (.iload_n 1, 1) := by decide +kernel
theorem dX8_goPlan_10 : decode cX8_goPlan 10 = .ok (.iconst 1, 1) := by decide +kernel
theorem dX8_goPlan_11 : decode cX8_goPlan 11 = .ok (.iconst 2, 1) := by decide +kernel
theorem dX8_goPlan_12 : decode cX8_goPlan 12 = .ok (.invokevirtual 249, 3) := by decide +kernel
theorem dX8_goPlan_15 : decode cX8_goPlan 15 = .ok (.ifCond .eq 18, 3) := by decide +kernel
theorem dX8_goPlan_18 : decode cX8_goPlan 18 = .ok (.aload_n 0, 1) := by decide +kernel
theorem dX8_goPlan_19 : decode cX8_goPlan 19 = .ok (.iload_n 2, 1) := by decide +kernel
theorem dX8_goPlan_20 : decode cX8_goPlan 20 = .ok (.iload_n 1, 1) := by decide +kernel
theorem dX8_goPlan_21 : decode cX8_goPlan 21 = .ok (.iconst 1, 1) := by decide +kernel
theorem dX8_goPlan_22 : decode cX8_goPlan 22 = .ok (.if_icmp .ne 7, 3) := by decide +kernel
theorem dX8_goPlan_25 : decode cX8_goPlan 25 = .ok (.iconst 1, 1) := by decide +kernel
theorem dX8_goPlan_26 : decode cX8_goPlan 26 = .ok (.goto 4, 3) := by decide +kernel
theorem dX8_goPlan_29 : decode cX8_goPlan 29 = .ok (.iconst 0, 1) := by decide +kernel
theorem dX8_goPlan_30 : decode cX8_goPlan 30 = .ok (.invokevirtual 263, 3) := by decide +kernel
theorem dX8_goPlan_33 : decode cX8_goPlan 33 = .ok (.iload_n 1, 1) := by decide +kernel
theorem dX8_goPlan_34 : decode cX8_goPlan 34 = .ok (.iconst 3, 1) := by decide +kernel
theorem dX8_goPlan_35 : decode cX8_goPlan 35 = .ok (.if_icmp .ne 16, 3) := by decide +kernel
theorem dX8_goPlan_38 : decode cX8_goPlan 38 = .ok (.aload_n 0, 1) := by decide +kernel
theorem dX8_goPlan_39 : decode cX8_goPlan 39 = .ok (.getfield 32, 3) := by decide +kernel
theorem dX8_goPlan_42 : decode cX8_goPlan 42 = .ok (.iload_n 2, 1) := by decide +kernel
theorem dX8_goPlan_43 : decode cX8_goPlan 43 = .ok (.bipush 10, 2) := by decide +kernel
theorem dX8_goPlan_45 : decode cX8_goPlan 45 = .ok (.idiv, 1) := by decide +kernel
theorem dX8_goPlan_46 : decode cX8_goPlan 46 = .ok (.iload_n 2, 1) := by decide +kernel
theorem dX8_goPlan_47 : decode cX8_goPlan 47 = .ok (.bipush 10, 2) := by decide +kernel
theorem dX8_goPlan_49 : decode cX8_goPlan 49 = .ok (.irem, 1) := by decide +kernel
theorem dX8_goPlan_50 : decode cX8_goPlan 50 = .ok (.iastore, 1) := by decide +kernel
theorem dX8_goPlan_51 : decode cX8_goPlan 51 = .ok (.return_, 1) := by decide +kernel
def f_X8_goPlan (p1 : Int32) (p2 : Int32) (u : Mem) : Option (Unit × Mem) := (if p1 = 0 then obind (f_X8_goMinute u) (fun _ u13 => Option.bind (f_X8_in p1 (1 : Int32) (2 : Int32)) (fun r14 => (if r14 = 0 then (if p1 = (3 : Int32) then gin (p2 / (10 : Int32)) 6 (some ((), sA u13 85 (p2 / (10 : Int32)).toNatClampNeg (p2 - p2 / (10 : Int32) * (10 : Int32)))) else some ((), u13)) else (if p1 = (1 : Int32) then obind (f_X8_goes p2 (1 : Int32) u13) (fun _ u22 => (if p1 = (3 : Int32) then gin (p2 / (10 : Int32)) 6 (some ((), sA u22 85 (p2 / (10 : Int32)).toNatClampNeg (p2 - p2 / (10 : Int32) * (10 : Int32)))) else some ((), u22))) else obind (f_X8_goes p2 (0 : Int32) u13) (fun _ u19 => (if p1 = (3 : Int32) then gin (p2 / (10 : Int32)) 6 (some ((), sA u19 85 (p2 / (10 : Int32)).toNatClampNeg (p2 - p2 / (10 : Int32) * (10 : Int32)))) else some ((), u19))))))) else Option.bind (f_X8_in p1 (1 : Int32) (2 : Int32)) (fun r2 => (if r2 = 0 then (if p1 = (3 : Int32) then gin (p2 / (10 : Int32)) 6 (some ((), sA u 85 (p2 / (10 : Int32)).toNatClampNeg (p2 - p2 / (10 : Int32) * (10 : Int32)))) else some ((), u)) else (if p1 = (1 : Int32) then obind (f_X8_goes p2 (1 : Int32) u) (fun _ u10 => (if p1 = (3 : Int32) then gin (p2 / (10 : Int32)) 6 (some ((), sA u10 85 (p2 / (10 : Int32)).toNatClampNeg (p2 - p2 / (10 : Int32) * (10 : Int32)))) else some ((), u10))) else obind (f_X8_goes p2 (0 : Int32) u) (fun _ u7 => (if p1 = (3 : Int32) then gin (p2 / (10 : Int32)) 6 (some ((), sA u7 85 (p2 / (10 : Int32)).toNatClampNeg (p2 - p2 / (10 : Int32) * (10 : Int32)))) else some ((), u7)))))))
set_option maxHeartbeats 4000000 in
set_option maxRecDepth 100000 in
theorem k_X8_goPlan (l : Launch) (D : gDt) (base : Nat) (Z : gZt) (u : Mem) (p1 : Int32) (p2 : Int32) (u' : Mem) (hf : f_X8_goPlan p1 p2 u = some ((), u')) : Met l yX8_goPlan (gws yX8_goPlan cX8_goPlan 3 (none)) (gRm 7 0 0) (gPc D base Z u [.ref (base + 82), .int p1, .int p2]) (gQv D base u') 0 0 (gF base) := by
  refine Met.ofW (cc := cX8_goPlan) (maxL := 3) (ret := none) (by decide) rfl ?_
  intro p e s m args below meth c s₁ B hml hv
  obtain ⟨rfl, C0, hG⟩ := g_enter B hml hv
  have hr := B.returns
  have C0 : gC p s m meth c _ cX8_goPlan 3 RX8 D base Z := C0
  have hx := C0.1
  have hb := C0.2.1
  have hl := lv_entry ([.ref (base + 82), .int p1, .int p2]) (n := 3) (Nat.le_of_ble_eq_true rfl)
  rw [lg_entry_eq]
  generalize (lg_sl ([.ref (base + 82), .int p1, .int p2]) ++ List.replicate (3 - (lg_sl ([.ref (base + 82), .int p1, .int p2])).length) Slot.unset).toArray = ls at hl ⊢
  have hl : lv_has ls 3 [(0, .ref (base + 82)), (1, .int p1), (2, .int p2)] := hl
  obtain ⟨Q, hQ⟩ : ∃ Q, Q = MQ below (gQv D base u') ([.ref (base + 82), .int p1, .int p2] : List Value).toArray s 0 0 (gF base) := ⟨_, rfl⟩
  rw [← hQ]
  change W p l e (gRm 7 0 0) s m _ below meth c _ _ _ _ _ _
  unfold f_X8_goPlan at hf
  refine lv_iload_n hx hb dX8_goPlan_0 rfl (lv_at hl 1 rfl) ?_
  refine lv_if_ne (tgt := 8) hx hb dX8_goPlan_1 (by decide) (fun c1 => ?_) (fun c1 => ?_)
  · have hf := gif_f c1 hf
    refine lv_aload_n hx hb dX8_goPlan_8 rfl (lv_at hl 0 rfl) ?_
    refine lv_iload_n hx hb dX8_goPlan_9 rfl (lv_at hl 1 rfl) ?_
    refine lv_iconst (v := (1 : Int32)) hx hb dX8_goPlan_10 (by decide) ?_
    refine lv_iconst (v := (2 : Int32)) hx hb dX8_goPlan_11 (by decide) ?_
    obtain ⟨r2, hc2, hf⟩ := pb_s hf
    refine g_doI0 hG (g_runV C0 hG (k_X8_in l D base Z u p1 (1 : Int32) (2 : Int32) r2 hc2) m_X8_in v_X8_in w_1082 (by decide) (g_recv C0 hG (L82 hG) rfl) rfl hl.1 rfl (Nat.le_of_ble_eq_true rfl) dX8_goPlan_12 ⟨Nat.zero_le _, Nat.zero_le _⟩) (fun H locs hG hk => ?_)
    refine lv_if_eq (tgt := 33) hx hb dX8_goPlan_15 (by decide) (fun c3 => ?_) (fun c3 => ?_)
    · have hf := gif_t c3 hf
      refine lv_iload_n hx hb dX8_goPlan_33 rfl (lv_at hl 1 rfl) ?_
      refine lv_iconst (v := (3 : Int32)) hx hb dX8_goPlan_34 (by decide) ?_
      refine lv_icmp_ne (tgt := 51) hx hb dX8_goPlan_35 (by decide) (fun c4 => ?_) (fun c4 => ?_)
      · have hf := gif_f c4 hf
        obtain ⟨-, hu⟩ := gret_s hf
        subst hu
        subst hQ
        exact g_vret C0 hG hr dX8_goPlan_51
      · have hf := gif_t c4 hf
        refine lv_aload_n hx hb dX8_goPlan_38 rfl (lv_at hl 0 rfl) ?_
        refine g_getSa (o := 3) (a := 85) C0 hG (L82 hG) rfl 7 (by decide) rfl rfl w_853 dX8_goPlan_39 ?_
        refine lv_iload_n hx hb dX8_goPlan_42 rfl (lv_at hl 2 rfl) ?_
        refine lv_bipush (v := (10 : Int32)) hx hb dX8_goPlan_43 (by decide) ?_
        refine lv_idiv hx hb dX8_goPlan_45 (by decide) ?_
        refine lv_iload_n hx hb dX8_goPlan_46 rfl (lv_at hl 2 rfl) ?_
        refine lv_bipush (v := (10 : Int32)) hx hb dX8_goPlan_47 (by decide) ?_
        refine lv_irem hx hb dX8_goPlan_49 (by decide) ?_
        obtain ⟨h5, hf⟩ := gin_s hf
        refine g_iast C0 hG (L85 hG) h5 dX8_goPlan_50 (fun H locs hG => ?_)
        obtain ⟨-, hu⟩ := gret_s hf
        subst hu
        subst hQ
        exact g_vret C0 hG hr dX8_goPlan_51
    · have hf := gif_f c3 hf
      refine lv_aload_n hx hb dX8_goPlan_18 rfl (lv_at hl 0 rfl) ?_
      refine lv_iload_n hx hb dX8_goPlan_19 rfl (lv_at hl 2 rfl) ?_
      refine lv_iload_n hx hb dX8_goPlan_20 rfl (lv_at hl 1 rfl) ?_
      refine lv_iconst (v := (1 : Int32)) hx hb dX8_goPlan_21 (by decide) ?_
      refine lv_icmp_ne (tgt := 29) hx hb dX8_goPlan_22 (by decide) (fun c6 => ?_) (fun c6 => ?_)
      · have hf := gif_f c6 hf
        refine lv_iconst (v := (0 : Int32)) hx hb dX8_goPlan_29 (by decide) ?_
        obtain ⟨_, u7, hc7, hf⟩ := obind_s hf
        refine g_doV0 hG (g_runV C0 hG (k_X8_goes l D base Z u p2 (0 : Int32) u7 hc7) m_X8_goes v_X8_goes w_1114 (by decide) (g_recv C0 hG (L82 hG) rfl) rfl hl.1 rfl (Nat.le_of_ble_eq_true rfl) dX8_goPlan_30 ⟨Nat.zero_le _, Nat.zero_le _⟩) (fun H locs hG hk => ?_)
        refine lv_iload_n hx hb dX8_goPlan_33 rfl (lv_at hl 1 rfl) ?_
        refine lv_iconst (v := (3 : Int32)) hx hb dX8_goPlan_34 (by decide) ?_
        refine lv_icmp_ne (tgt := 51) hx hb dX8_goPlan_35 (by decide) (fun c8 => ?_) (fun c8 => ?_)
        · have hf := gif_f c8 hf
          obtain ⟨-, hu⟩ := gret_s hf
          subst hu
          subst hQ
          exact g_vret C0 hG hr dX8_goPlan_51
        · have hf := gif_t c8 hf
          refine lv_aload_n hx hb dX8_goPlan_38 rfl (lv_at hl 0 rfl) ?_
          refine g_getSa (o := 3) (a := 85) C0 hG (L82 hG) rfl 7 (by decide) rfl rfl w_853 dX8_goPlan_39 ?_
          refine lv_iload_n hx hb dX8_goPlan_42 rfl (lv_at hl 2 rfl) ?_
          refine lv_bipush (v := (10 : Int32)) hx hb dX8_goPlan_43 (by decide) ?_
          refine lv_idiv hx hb dX8_goPlan_45 (by decide) ?_
          refine lv_iload_n hx hb dX8_goPlan_46 rfl (lv_at hl 2 rfl) ?_
          refine lv_bipush (v := (10 : Int32)) hx hb dX8_goPlan_47 (by decide) ?_
          refine lv_irem hx hb dX8_goPlan_49 (by decide) ?_
          obtain ⟨h9, hf⟩ := gin_s hf
          refine g_iast C0 hG (L85 hG) h9 dX8_goPlan_50 (fun H locs hG => ?_)
          obtain ⟨-, hu⟩ := gret_s hf
          subst hu
          subst hQ
          exact g_vret C0 hG hr dX8_goPlan_51
      · have hf := gif_t c6 hf
        refine lv_iconst (v := (1 : Int32)) hx hb dX8_goPlan_25 (by decide) ?_
        refine lv_goto (tgt := 30) hx hb dX8_goPlan_26 (by decide) ?_
        obtain ⟨_, u10, hc10, hf⟩ := obind_s hf
        refine g_doV0 hG (g_runV C0 hG (k_X8_goes l D base Z u p2 (1 : Int32) u10 hc10) m_X8_goes v_X8_goes w_1114 (by decide) (g_recv C0 hG (L82 hG) rfl) rfl hl.1 rfl (Nat.le_of_ble_eq_true rfl) dX8_goPlan_30 ⟨Nat.zero_le _, Nat.zero_le _⟩) (fun H locs hG hk => ?_)
        refine lv_iload_n hx hb dX8_goPlan_33 rfl (lv_at hl 1 rfl) ?_
        refine lv_iconst (v := (3 : Int32)) hx hb dX8_goPlan_34 (by decide) ?_
        refine lv_icmp_ne (tgt := 51) hx hb dX8_goPlan_35 (by decide) (fun c11 => ?_) (fun c11 => ?_)
        · have hf := gif_f c11 hf
          obtain ⟨-, hu⟩ := gret_s hf
          subst hu
          subst hQ
          exact g_vret C0 hG hr dX8_goPlan_51
        · have hf := gif_t c11 hf
          refine lv_aload_n hx hb dX8_goPlan_38 rfl (lv_at hl 0 rfl) ?_
          refine g_getSa (o := 3) (a := 85) C0 hG (L82 hG) rfl 7 (by decide) rfl rfl w_853 dX8_goPlan_39 ?_
          refine lv_iload_n hx hb dX8_goPlan_42 rfl (lv_at hl 2 rfl) ?_
          refine lv_bipush (v := (10 : Int32)) hx hb dX8_goPlan_43 (by decide) ?_
          refine lv_idiv hx hb dX8_goPlan_45 (by decide) ?_
          refine lv_iload_n hx hb dX8_goPlan_46 rfl (lv_at hl 2 rfl) ?_
          refine lv_bipush (v := (10 : Int32)) hx hb dX8_goPlan_47 (by decide) ?_
          refine lv_irem hx hb dX8_goPlan_49 (by decide) ?_
          obtain ⟨h12, hf⟩ := gin_s hf
          refine g_iast C0 hG (L85 hG) h12 dX8_goPlan_50 (fun H locs hG => ?_)
          obtain ⟨-, hu⟩ := gret_s hf
          subst hu
          subst hQ
          exact g_vret C0 hG hr dX8_goPlan_51
  · have hf := gif_t c1 hf
    refine lv_aload_n hx hb dX8_goPlan_4 rfl (lv_at hl 0 rfl) ?_
    obtain ⟨_, u13, hc13, hf⟩ := obind_s hf
    refine g_doV0 hG (g_runV C0 hG (k_X8_goMinute l D base Z u u13 hc13) m_X8_goMinute v_X8_goMinute w_1242 (by decide) (g_recv C0 hG (L82 hG) rfl) rfl hl.1 rfl (Nat.le_of_ble_eq_true rfl) dX8_goPlan_5 ⟨Nat.zero_le _, Nat.zero_le _⟩) (fun H locs hG hk => ?_)
    refine lv_aload_n hx hb dX8_goPlan_8 rfl (lv_at hl 0 rfl) ?_
    refine lv_iload_n hx hb dX8_goPlan_9 rfl (lv_at hl 1 rfl) ?_
    refine lv_iconst (v := (1 : Int32)) hx hb dX8_goPlan_10 (by decide) ?_
    refine lv_iconst (v := (2 : Int32)) hx hb dX8_goPlan_11 (by decide) ?_
    obtain ⟨r14, hc14, hf⟩ := pb_s hf
    refine g_doI0 hG (g_runV C0 hG (k_X8_in l D base Z u13 p1 (1 : Int32) (2 : Int32) r14 hc14) m_X8_in v_X8_in w_1082 (by decide) (g_recv C0 hG (L82 hG) rfl) rfl hl.1 rfl (Nat.le_of_ble_eq_true rfl) dX8_goPlan_12 ⟨Nat.zero_le _, Nat.zero_le _⟩) (fun H locs hG hk => ?_)
    refine lv_if_eq (tgt := 33) hx hb dX8_goPlan_15 (by decide) (fun c15 => ?_) (fun c15 => ?_)
    · have hf := gif_t c15 hf
      refine lv_iload_n hx hb dX8_goPlan_33 rfl (lv_at hl 1 rfl) ?_
      refine lv_iconst (v := (3 : Int32)) hx hb dX8_goPlan_34 (by decide) ?_
      refine lv_icmp_ne (tgt := 51) hx hb dX8_goPlan_35 (by decide) (fun c16 => ?_) (fun c16 => ?_)
      · have hf := gif_f c16 hf
        obtain ⟨-, hu⟩ := gret_s hf
        subst hu
        subst hQ
        exact g_vret C0 hG hr dX8_goPlan_51
      · have hf := gif_t c16 hf
        refine lv_aload_n hx hb dX8_goPlan_38 rfl (lv_at hl 0 rfl) ?_
        refine g_getSa (o := 3) (a := 85) C0 hG (L82 hG) rfl 7 (by decide) rfl rfl w_853 dX8_goPlan_39 ?_
        refine lv_iload_n hx hb dX8_goPlan_42 rfl (lv_at hl 2 rfl) ?_
        refine lv_bipush (v := (10 : Int32)) hx hb dX8_goPlan_43 (by decide) ?_
        refine lv_idiv hx hb dX8_goPlan_45 (by decide) ?_
        refine lv_iload_n hx hb dX8_goPlan_46 rfl (lv_at hl 2 rfl) ?_
        refine lv_bipush (v := (10 : Int32)) hx hb dX8_goPlan_47 (by decide) ?_
        refine lv_irem hx hb dX8_goPlan_49 (by decide) ?_
        obtain ⟨h17, hf⟩ := gin_s hf
        refine g_iast C0 hG (L85 hG) h17 dX8_goPlan_50 (fun H locs hG => ?_)
        obtain ⟨-, hu⟩ := gret_s hf
        subst hu
        subst hQ
        exact g_vret C0 hG hr dX8_goPlan_51
    · have hf := gif_f c15 hf
      refine lv_aload_n hx hb dX8_goPlan_18 rfl (lv_at hl 0 rfl) ?_
      refine lv_iload_n hx hb dX8_goPlan_19 rfl (lv_at hl 2 rfl) ?_
      refine lv_iload_n hx hb dX8_goPlan_20 rfl (lv_at hl 1 rfl) ?_
      refine lv_iconst (v := (1 : Int32)) hx hb dX8_goPlan_21 (by decide) ?_
      refine lv_icmp_ne (tgt := 29) hx hb dX8_goPlan_22 (by decide) (fun c18 => ?_) (fun c18 => ?_)
      · have hf := gif_f c18 hf
        refine lv_iconst (v := (0 : Int32)) hx hb dX8_goPlan_29 (by decide) ?_
        obtain ⟨_, u19, hc19, hf⟩ := obind_s hf
        refine g_doV0 hG (g_runV C0 hG (k_X8_goes l D base Z u13 p2 (0 : Int32) u19 hc19) m_X8_goes v_X8_goes w_1114 (by decide) (g_recv C0 hG (L82 hG) rfl) rfl hl.1 rfl (Nat.le_of_ble_eq_true rfl) dX8_goPlan_30 ⟨Nat.zero_le _, Nat.zero_le _⟩) (fun H locs hG hk => ?_)
        refine lv_iload_n hx hb dX8_goPlan_33 rfl (lv_at hl 1 rfl) ?_
        refine lv_iconst (v := (3 : Int32)) hx hb dX8_goPlan_34 (by decide) ?_
        refine lv_icmp_ne (tgt := 51) hx hb dX8_goPlan_35 (by decide) (fun c20 => ?_) (fun c20 => ?_)
        · have hf := gif_f c20 hf
          obtain ⟨-, hu⟩ := gret_s hf
          subst hu
          subst hQ
          exact g_vret C0 hG hr dX8_goPlan_51
        · have hf := gif_t c20 hf
          refine lv_aload_n hx hb dX8_goPlan_38 rfl (lv_at hl 0 rfl) ?_
          refine g_getSa (o := 3) (a := 85) C0 hG (L82 hG) rfl 7 (by decide) rfl rfl w_853 dX8_goPlan_39 ?_
          refine lv_iload_n hx hb dX8_goPlan_42 rfl (lv_at hl 2 rfl) ?_
          refine lv_bipush (v := (10 : Int32)) hx hb dX8_goPlan_43 (by decide) ?_
          refine lv_idiv hx hb dX8_goPlan_45 (by decide) ?_
          refine lv_iload_n hx hb dX8_goPlan_46 rfl (lv_at hl 2 rfl) ?_
          refine lv_bipush (v := (10 : Int32)) hx hb dX8_goPlan_47 (by decide) ?_
          refine lv_irem hx hb dX8_goPlan_49 (by decide) ?_
          obtain ⟨h21, hf⟩ := gin_s hf
          refine g_iast C0 hG (L85 hG) h21 dX8_goPlan_50 (fun H locs hG => ?_)
          obtain ⟨-, hu⟩ := gret_s hf
          subst hu
          subst hQ
          exact g_vret C0 hG hr dX8_goPlan_51
      · have hf := gif_t c18 hf
        refine lv_iconst (v := (1 : Int32)) hx hb dX8_goPlan_25 (by decide) ?_
        refine lv_goto (tgt := 30) hx hb dX8_goPlan_26 (by decide) ?_
        obtain ⟨_, u22, hc22, hf⟩ := obind_s hf
        refine g_doV0 hG (g_runV C0 hG (k_X8_goes l D base Z u13 p2 (1 : Int32) u22 hc22) m_X8_goes v_X8_goes w_1114 (by decide) (g_recv C0 hG (L82 hG) rfl) rfl hl.1 rfl (Nat.le_of_ble_eq_true rfl) dX8_goPlan_30 ⟨Nat.zero_le _, Nat.zero_le _⟩) (fun H locs hG hk => ?_)
        refine lv_iload_n hx hb dX8_goPlan_33 rfl (lv_at hl 1 rfl) ?_
        refine lv_iconst (v := (3 : Int32)) hx hb dX8_goPlan_34 (by decide) ?_
        refine lv_icmp_ne (tgt := 51) hx hb dX8_goPlan_35 (by decide) (fun c23 => ?_) (fun c23 => ?_)
        · have hf := gif_f c23 hf
          obtain ⟨-, hu⟩ := gret_s hf
          subst hu
          subst hQ
          exact g_vret C0 hG hr dX8_goPlan_51
        · have hf := gif_t c23 hf
          refine lv_aload_n hx hb dX8_goPlan_38 rfl (lv_at hl 0 rfl) ?_
          refine g_getSa (o := 3) (a := 85) C0 hG (L82 hG) rfl 7 (by decide) rfl rfl w_853 dX8_goPlan_39 ?_
          refine lv_iload_n hx hb dX8_goPlan_42 rfl (lv_at hl 2 rfl) ?_
          refine lv_bipush (v := (10 : Int32)) hx hb dX8_goPlan_43 (by decide) ?_
          refine lv_idiv hx hb dX8_goPlan_45 (by decide) ?_
          refine lv_iload_n hx hb dX8_goPlan_46 rfl (lv_at hl 2 rfl) ?_
          refine lv_bipush (v := (10 : Int32)) hx hb dX8_goPlan_47 (by decide) ?_
          refine lv_irem hx hb dX8_goPlan_49 (by decide) ?_
          obtain ⟨h24, hf⟩ := gin_s hf
          refine g_iast C0 hG (L85 hG) h24 dX8_goPlan_50 (fun H locs hG => ?_)
          obtain ⟨-, hu⟩ := gret_s hf
          subst hu
          subst hQ
          exact g_vret C0 hG hr dX8_goPlan_51
theorem dX8_ends_0 : decode cX8_ends 0 = .ok (.aload_n 0, 1) := by decide +kernel
theorem dX8_ends_1 : decode cX8_ends 1 = .ok (.iload_n 1, 1) := by decide +kernel
theorem dX8_ends_2 : decode cX8_ends 2 = .ok (.iconst 0, 1) := by decide +kernel
theorem dX8_ends_3 : decode cX8_ends 3 = .ok (.iconst 1, 1) := by decide +kernel
theorem dX8_ends_4 : decode cX8_ends 4 = .ok (.invokevirtual 249, 3) := by decide +kernel
theorem dX8_ends_7 : decode cX8_ends 7 = .ok (.ifCond .ne 5, 3) := by decide +kernel
theorem dX8_ends_10 : decode cX8_ends 10 = .ok (.iconst (-1), 1) := by decide +kernel
theorem dX8_ends_11 : decode cX8_ends 11 = .ok (.ireturn, 1) := by decide +kernel
theorem dX8_ends_12 : decode cX8_ends 12 = .ok (.aload_n 0, 1) := by decide +kernel
theorem dX8_ends_13 : decode cX8_ends 13 = .ok (.invokevirtual 367, 3) := by decide +kernel
theorem dX8_ends_16 : decode cX8_ends 16 = .ok (.iconst 0, 1) := by decide +kernel
theorem dX8_ends_17 : decode cX8_ends 17 = .ok (.istore_n 2, 1) := by decide +kernel
theorem dX8_ends_18 : decode cX8_ends 18 = .ok (.iload_n 2, 1) := by decide +kernel
theorem dX8_ends_19 : decode cX8_ends 19 = .ok (.aload_n 0, 1) := by decide +kernel
theorem dX8_ends_20 : decode cX8_ends 20 = .ok (.getfield 135, 3) := by decide +kernel
theorem dX8_ends_23 : decode cX8_ends 23 = .ok (.if_icmp .ge 25, 3) := by decide +kernel
theorem dX8_ends_26 : decode cX8_ends 26 = .ok (.aload_n 0, 1) := by decide +kernel
theorem dX8_ends_27 : decode cX8_ends 27 = .ok (.aload_n 0, 1) := by decide +kernel
theorem dX8_ends_28 : decode cX8_ends 28 = .ok (.getfield 141, 3) := by decide +kernel
theorem dX8_ends_31 : decode cX8_ends 31 = .ok (.iload_n 2, 1) := by decide +kernel
theorem dX8_ends_32 : decode cX8_ends 32 = .ok (.iaload, 1) := by decide +kernel
theorem dX8_ends_33 : decode cX8_ends 33 = .ok (.aload_n 0, 1) := by decide +kernel
theorem dX8_ends_34 : decode cX8_ends 34 = .ok (.getfield 144, 3) := by decide +kernel
theorem dX8_ends_37 : decode cX8_ends 37 = .ok (.iload_n 2, 1) := by decide +kernel
theorem dX8_ends_38 : decode cX8_ends 38 = .ok (.iaload, 1) := by decide +kernel
theorem dX8_ends_39 : decode cX8_ends 39 = .ok (.invokevirtual 404, 3) := by decide +kernel
theorem dX8_ends_42 : decode cX8_ends 42 = .ok (.iinc 2 1, 3) := by decide +kernel
theorem dX8_ends_45 : decode cX8_ends 45 = .ok (.goto (-27), 3) := by decide +kernel
theorem dX8_ends_48 : decode cX8_ends 48 = .ok (.iload_n 1, 1) := by decide +kernel
theorem dX8_ends_49 : decode cX8_ends 49 = .ok (.ifCond .ne 10, 3) := by decide +kernel
theorem dX8_ends_52 : decode cX8_ends 52 = .ok (.aload_n 0, 1) := by decide +kernel
theorem dX8_ends_53 : decode cX8_ends 53 = .ok (.getfield 19, 3) := by decide +kernel
theorem dX8_ends_56 : decode cX8_ends 56 = .ok (.goto 7, 3) := by decide +kernel
theorem dX8_ends_59 : decode cX8_ends 59 = .ok (.aload_n 0, 1) := by decide +kernel
theorem dX8_ends_60 : decode cX8_ends 60 = .ok (.getfield 16, 3) := by decide +kernel
theorem dX8_ends_63 : decode cX8_ends 63 = .ok (.istore_n 2, 1) := by decide +kernel
theorem dX8_ends_64 : decode cX8_ends 64 = .ok (.aload_n 0, 1) := by decide +kernel
theorem dX8_ends_65 : decode cX8_ends 65 = .ok (.invokevirtual 370, 3) := by decide +kernel
theorem dX8_ends_68 : decode cX8_ends 68 = .ok (.iload_n 2, 1) := by decide +kernel
theorem dX8_ends_69 : decode cX8_ends 69 = .ok (.ireturn, 1) := by decide +kernel
def f_X8_ends_L18 (p1 : Int32) (x2_4 : Int32) (u4 : Mem) : Option ((Int32 × Mem) ⊕ (Int32 × Mem)) := (if (gI u4 82 41) ≤ x2_4 then (if p1 = 0 then obind (f_X8_putBack u4) (fun _ u8 => some (Sum.inr (gI u4 82 3, u8))) else obind (f_X8_putBack u4) (fun _ u7 => some (Sum.inr (gI u4 82 2, u7)))) else gin x2_4 10 (gin x2_4 10 (obind (f_X8_goPlan (gA u4 106 x2_4.toNatClampNeg) (gA u4 107 x2_4.toNatClampNeg) u4) (fun _ u11 => some (Sum.inl (x2_4 + (1 : Int32), u11))))))
def f_X8_ends (p1 : Int32) (u : Mem) : Option (Int32 × Mem) := Option.bind (f_X8_in p1 (0 : Int32) (1 : Int32)) (fun r1 => (if r1 = 0 then some ((-1 : Int32), u) else obind (f_X8_save u) (fun _ u3 => whileO (fun s => f_X8_ends_L18 p1 s.1 s.2) FUEL ((0 : Int32), u3))))
set_option maxHeartbeats 4000000 in
set_option maxRecDepth 100000 in
theorem k_X8_ends (l : Launch) (D : gDt) (base : Nat) (Z : gZt) (u : Mem) (p1 : Int32) (r : Int32) (u' : Mem) (hf : f_X8_ends p1 u = some (r, u')) : Met l yX8_ends (gws yX8_ends cX8_ends 3 (some .int)) (gRm 8 0 0) (gPc D base Z u [.ref (base + 82), .int p1]) (gQi D base r u') 0 0 (gF base) := by
  refine Met.ofW (cc := cX8_ends) (maxL := 3) (ret := some .int) (by decide) rfl ?_
  intro p e s m args below meth c s₁ B hml hv
  obtain ⟨rfl, C0, hG⟩ := g_enter B hml hv
  have hr := B.returns
  have C0 : gC p s m meth c _ cX8_ends 3 RX8 D base Z := C0
  have hx := C0.1
  have hb := C0.2.1
  have hl := lv_entry ([.ref (base + 82), .int p1]) (n := 3) (Nat.le_of_ble_eq_true rfl)
  rw [lg_entry_eq]
  generalize (lg_sl ([.ref (base + 82), .int p1]) ++ List.replicate (3 - (lg_sl ([.ref (base + 82), .int p1])).length) Slot.unset).toArray = ls at hl ⊢
  have hl : lv_has ls 3 [(0, .ref (base + 82)), (1, .int p1)] := hl
  obtain ⟨Q, hQ⟩ : ∃ Q, Q = MQ below (gQi D base r u') ([.ref (base + 82), .int p1] : List Value).toArray s 0 0 (gF base) := ⟨_, rfl⟩
  rw [← hQ]
  change W p l e (gRm 8 0 0) s m _ below meth c _ _ _ _ _ _
  unfold f_X8_ends at hf
  refine lv_aload_n hx hb dX8_ends_0 rfl (lv_at hl 0 rfl) ?_
  refine lv_iload_n hx hb dX8_ends_1 rfl (lv_at hl 1 rfl) ?_
  refine lv_iconst (v := (0 : Int32)) hx hb dX8_ends_2 (by decide) ?_
  refine lv_iconst (v := (1 : Int32)) hx hb dX8_ends_3 (by decide) ?_
  obtain ⟨r1, hc1, hf⟩ := pb_s hf
  refine g_doI0 hG (g_runV C0 hG (k_X8_in l D base Z u p1 (0 : Int32) (1 : Int32) r1 hc1) m_X8_in v_X8_in w_1082 (by decide) (g_recv C0 hG (L82 hG) rfl) rfl hl.1 rfl (Nat.le_of_ble_eq_true rfl) dX8_ends_4 ⟨Nat.zero_le _, Nat.zero_le _⟩) (fun H locs hG hk => ?_)
  refine lv_if_ne (tgt := 12) hx hb dX8_ends_7 (by decide) (fun c2 => ?_) (fun c2 => ?_)
  · have hf := gif_f c2 hf
    refine lv_aload_n hx hb dX8_ends_12 rfl (lv_at hl 0 rfl) ?_
    obtain ⟨_, u3, hc3, hf⟩ := obind_s hf
    refine g_doV0 hG (g_runV C0 hG (k_X8_save l D base Z u u3 hc3) m_X8_save v_X8_save w_1274 (by decide) (g_recv C0 hG (L82 hG) rfl) rfl hl.1 rfl (Nat.le_of_ble_eq_true rfl) dX8_ends_13 ⟨Nat.zero_le _, Nat.zero_le _⟩) (fun H locs hG hk => ?_)
    refine lv_iconst (v := (0 : Int32)) hx hb dX8_ends_16 (by decide) ?_
    refine lv_istore_n (lv' := [(2, .int (0 : Int32)), (0, .ref (base + 82)), (1, .int p1)]) hx hb dX8_ends_17 rfl hl (by decide) rfl (fun ls hl => ?_)
    have loop4 : ∀ (n4 : Nat) (x2_4 : Int32) (u4 : Mem) (H : Heap) (locs : List Loc) (ls : Array Slot), gH D base s u4 H locs → lv_has ls 3 [(0, .ref (base + 82)), (1, .int p1), (2, .int x2_4)] → whileO (fun s => f_X8_ends_L18 p1 s.1 s.2) n4 (x2_4, u4) = some (r, u') → W p l e (gRm 8 0 0) s m ([.ref (base + 82), .int p1] : List Value).toArray below meth c H locs 0 0 Q (F0 m 18 ls []) := by
      intro n4
      induction n4 with
      | zero => intro x2_4 u4 H locs ls hG hl hf; cases hf
      | succ n4 ih4 =>
        intro x2_4 u4 H locs ls hG hl hf
        obtain ⟨X4, hf, hX4⟩ := while_s hf
        have hf : f_X8_ends_L18 p1 x2_4 u4 = some X4 := hf
        unfold f_X8_ends_L18 at hf
        refine lv_iload_n hx hb dX8_ends_18 rfl (lv_at hl 2 rfl) ?_
        refine lv_aload_n hx hb dX8_ends_19 rfl (lv_at hl 0 rfl) ?_
        refine g_getI C0 hG (L82 hG) rfl 41 (by decide) rfl w_887 dX8_ends_20 ?_
        refine lv_icmp_ge (tgt := 48) hx hb dX8_ends_23 (by decide) (fun c5 => ?_) (fun c5 => ?_)
        · have hf := gif_t c5 hf
          refine lv_iload_n hx hb dX8_ends_48 rfl (lv_at hl 1 rfl) ?_
          refine lv_if_ne (tgt := 59) hx hb dX8_ends_49 (by decide) (fun c6 => ?_) (fun c6 => ?_)
          · have hf := gif_f c6 hf
            refine lv_aload_n hx hb dX8_ends_59 rfl (lv_at hl 0 rfl) ?_
            refine g_getI C0 hG (L82 hG) rfl 2 (by decide) rfl w_848 dX8_ends_60 ?_
            refine lv_istore_n (lv' := [(2, .int (gI u4 82 2)), (0, .ref (base + 82)), (1, .int p1)]) hx hb dX8_ends_63 rfl hl (by decide) rfl (fun ls hl => ?_)
            refine lv_aload_n hx hb dX8_ends_64 rfl (lv_at hl 1 rfl) ?_
            obtain ⟨_, u7, hc7, hf⟩ := obind_s hf
            refine g_doV0 hG (g_runV C0 hG (k_X8_putBack l D base Z u4 u7 hc7) m_X8_putBack v_X8_putBack w_1278 (by decide) (g_recv C0 hG (L82 hG) rfl) rfl hl.1 rfl (Nat.le_of_ble_eq_true rfl) dX8_ends_65 ⟨Nat.zero_le _, Nat.zero_le _⟩) (fun H locs hG hk => ?_)
            refine lv_iload_n hx hb dX8_ends_68 rfl (lv_at hl 0 rfl) ?_
            have hf := while_r hX4 hf
            obtain ⟨hr1, hu⟩ := gret_s hf
            subst hr1
            subst hu
            subst hQ
            exact g_iret C0 hG hr dX8_ends_69
          · have hf := gif_t c6 hf
            refine lv_aload_n hx hb dX8_ends_52 rfl (lv_at hl 0 rfl) ?_
            refine g_getI C0 hG (L82 hG) rfl 3 (by decide) rfl w_849 dX8_ends_53 ?_
            refine lv_goto (tgt := 63) hx hb dX8_ends_56 (by decide) ?_
            refine lv_istore_n (lv' := [(2, .int (gI u4 82 3)), (0, .ref (base + 82)), (1, .int p1)]) hx hb dX8_ends_63 rfl hl (by decide) rfl (fun ls hl => ?_)
            refine lv_aload_n hx hb dX8_ends_64 rfl (lv_at hl 1 rfl) ?_
            obtain ⟨_, u8, hc8, hf⟩ := obind_s hf
            refine g_doV0 hG (g_runV C0 hG (k_X8_putBack l D base Z u4 u8 hc8) m_X8_putBack v_X8_putBack w_1278 (by decide) (g_recv C0 hG (L82 hG) rfl) rfl hl.1 rfl (Nat.le_of_ble_eq_true rfl) dX8_ends_65 ⟨Nat.zero_le _, Nat.zero_le _⟩) (fun H locs hG hk => ?_)
            refine lv_iload_n hx hb dX8_ends_68 rfl (lv_at hl 0 rfl) ?_
            have hf := while_r hX4 hf
            obtain ⟨hr1, hu⟩ := gret_s hf
            subst hr1
            subst hu
            subst hQ
            exact g_iret C0 hG hr dX8_ends_69
        · have hf := gif_f c5 hf
          refine lv_aload_n hx hb dX8_ends_26 rfl (lv_at hl 0 rfl) ?_
          refine lv_aload_n hx hb dX8_ends_27 rfl (lv_at hl 0 rfl) ?_
          refine g_getSa (o := 24) (a := 106) C0 hG (L82 hG) rfl 43 (by decide) rfl rfl w_889 dX8_ends_28 ?_
          refine lv_iload_n hx hb dX8_ends_31 rfl (lv_at hl 2 rfl) ?_
          obtain ⟨h9, hf⟩ := gin_s hf
          refine g_iald C0 hG (L106 hG) h9 dX8_ends_32 ?_
          refine lv_aload_n hx hb dX8_ends_33 rfl (lv_at hl 0 rfl) ?_
          refine g_getSa (o := 25) (a := 107) C0 hG (L82 hG) rfl 44 (by decide) rfl rfl w_890 dX8_ends_34 ?_
          refine lv_iload_n hx hb dX8_ends_37 rfl (lv_at hl 2 rfl) ?_
          obtain ⟨h10, hf⟩ := gin_s hf
          refine g_iald C0 hG (L107 hG) h10 dX8_ends_38 ?_
          obtain ⟨_, u11, hc11, hf⟩ := obind_s hf
          refine g_doV0 hG (g_runV C0 hG (k_X8_goPlan l D base Z u4 (gA u4 106 x2_4.toNatClampNeg) (gA u4 107 x2_4.toNatClampNeg) u11 hc11) m_X8_goPlan v_X8_goPlan w_1356 (by decide) (g_recv C0 hG (L82 hG) rfl) rfl hl.1 rfl (Nat.le_of_ble_eq_true rfl) dX8_ends_39 ⟨Nat.zero_le _, Nat.zero_le _⟩) (fun H locs hG hk => ?_)
          refine lv_iinc (v := x2_4 + (1 : Int32)) (lv' := [(2, .int (x2_4 + (1 : Int32))), (0, .ref (base + 82)), (1, .int p1)]) hx hb dX8_ends_42 hl (k := 2) rfl rfl (by decide) rfl (fun ls hl => ?_)
          refine lv_goto (tgt := 18) hx hb dX8_ends_45 (by decide) ?_
          have hf := while_l hX4 hf
          exact ih4 (x2_4 + (1 : Int32)) u11 _ _ ls hG (lv_sub hl [1, 2, 0] rfl) hf
    exact loop4 FUEL (0 : Int32) u3 _ _ ls hG (lv_sub hl [1, 2, 0] rfl) hf
  · have hf := gif_t c2 hf
    refine lv_iconst (v := (-1 : Int32)) hx hb dX8_ends_10 (by decide) ?_
    obtain ⟨hr1, hu⟩ := gret_s hf
    subst hr1
    subst hu
    subst hQ
    exact g_iret C0 hG hr dX8_ends_11
theorem dX8_book_0 : decode cX8_book 0 = .ok (.iload_n 1, 1) := by decide +kernel
theorem dX8_book_1 : decode cX8_book 1 = .ok (.iconst (-1), 1) := by decide +kernel
theorem dX8_book_2 : decode cX8_book 2 = .ok (.if_icmp .ne 10, 3) := by decide +kernel
theorem dX8_book_5 : decode cX8_book 5 = .ok (.aload_n 0, 1) := by decide +kernel
theorem dX8_book_6 : decode cX8_book 6 = .ok (.iconst 0, 1) := by decide +kernel
theorem dX8_book_7 : decode cX8_book 7 = .ok (.putfield 138, 3) := by decide +kernel
theorem dX8_book_10 : decode cX8_book 10 = .ok (.iconst 0, 1) := by decide +kernel
theorem dX8_book_11 : decode cX8_book 11 = .ok (.ireturn, 1) := by decide +kernel
theorem dX8_book_12 : decode cX8_book 12 = .ok (.aload_n 0, 1) := by decide +kernel
theorem dX8_book_13 : decode cX8_book 13 = .ok (.iload_n 1, 1) := by decide +kernel
theorem dX8_book_14 : decode cX8_book 14 = .ok (.invokevirtual 260, 3) := by decide +kernel
theorem dX8_book_17 : decode cX8_book 17 = .ok (.ifCond .ne 5, 3) := by decide +kernel
theorem dX8_book_20 : decode cX8_book 20 = .ok (.iconst (-1), 1) := by decide +kernel
theorem dX8_book_21 : decode cX8_book 21 = .ok (.ireturn, 1) := by decide +kernel
theorem dX8_book_22 : decode cX8_book 22 = .ok (.aload_n 0, 1) := by decide +kernel
theorem dX8_book_23 : decode cX8_book 23 = .ok (.iload_n 2, 1) := by decide +kernel
theorem dX8_book_24 : decode cX8_book 24 = .ok (.invokevirtual 257, 3) := by decide +kernel
theorem dX8_book_27 : decode cX8_book 27 = .ok (.ifCond .ne 6, 3) := by decide +kernel
theorem dX8_book_30 : decode cX8_book 30 = .ok (.bipush (-2), 2) := by decide +kernel
theorem dX8_book_32 : decode cX8_book 32 = .ok (.ireturn, 1) := by decide +kernel
theorem dX8_book_33 : decode cX8_book 33 = .ok (.aload_n 0, 1) := by decide +kernel
theorem dX8_book_34 : decode cX8_book 34 = .ok (.getfield 138, 3) := by decide +kernel
theorem dX8_book_37 : decode cX8_book 37 = .ok (.bipush 8, 2) := by decide +kernel
theorem dX8_book_39 : decode cX8_book 39 = .ok (.if_icmp .ne 6, 3) := by decide +kernel
theorem dX8_book_42 : decode cX8_book 42 = .ok (.bipush (-4), 2) := by decide +kernel
theorem dX8_book_44 : decode cX8_book 44 = .ok (.ireturn, 1) := by decide +kernel
theorem dX8_book_45 : decode cX8_book 45 = .ok (.aload_n 0, 1) := by decide +kernel
theorem dX8_book_46 : decode cX8_book 46 = .ok (.getfield 147, 3) := by decide +kernel
theorem dX8_book_49 : decode cX8_book 49 = .ok (.aload_n 0, 1) := by decide +kernel
theorem dX8_book_50 : decode cX8_book 50 = .ok (.getfield 138, 3) := by decide +kernel
theorem dX8_book_53 : decode cX8_book 53 = .ok (.iload_n 1, 1) := by decide +kernel
theorem dX8_book_54 : decode cX8_book 54 = .ok (.iastore, 1) := by decide +kernel
theorem dX8_book_55 : decode cX8_book 55 = .ok (.aload_n 0, 1) := by decide +kernel
theorem dX8_book_56 : decode cX8_book 56 = .ok (.getfield 150, 3) := by decide +kernel
theorem dX8_book_59 : decode cX8_book 59 = .ok (.aload_n 0, 1) := by decide +kernel
theorem dX8_book_60 : decode cX8_book 60 = .ok (.getfield 138, 3) := by decide +kernel
theorem dX8_book_63 : decode cX8_book 63 = .ok (.iload_n 2, 1) := by decide +kernel
theorem dX8_book_64 : decode cX8_book 64 = .ok (.iastore, 1) := by decide +kernel
theorem dX8_book_65 : decode cX8_book 65 = .ok (.aload_n 0, 1) := by decide +kernel
theorem dX8_book_66 : decode cX8_book 66 = .ok (.dup, 1) := by decide +kernel
theorem dX8_book_67 : decode cX8_book 67 = .ok (.getfield 138, 3) := by decide +kernel
theorem dX8_book_70 : decode cX8_book 70 = .ok (.iconst 1, 1) := by decide +kernel
theorem dX8_book_71 : decode cX8_book 71 = .ok (.iadd, 1) := by decide +kernel
theorem dX8_book_72 : decode cX8_book 72 = .ok (.putfield 138, 3) := by decide +kernel
theorem dX8_book_75 : decode cX8_book 75 = .ok (.aload_n 0, 1) := by decide +kernel
theorem dX8_book_76 : decode cX8_book 76 = .ok (.getfield 138, 3) := by decide +kernel
theorem dX8_book_79 : decode cX8_book 79 = .ok (.ireturn, 1) := by decide +kernel
def f_X8_book (p1 : Int32) (p2 : Int32) (u : Mem) : Option (Int32 × Mem) := (if p1 = (-1 : Int32) then some ((0 : Int32), sI u 82 42 (0 : Int32)) else Option.bind (f_X8_isOne p1 u) (fun r2 => (if r2 = 0 then some ((-1 : Int32), u) else Option.bind (f_X8_isTales p2) (fun r4 => (if r4 = 0 then some ((-2 : Int32), u) else (if (gI u 82 42) = (8 : Int32) then some ((-4 : Int32), u) else gin (gI u 82 42) 8 (gin (gI (sA u 108 (gI u 82 42).toNatClampNeg p1) 82 42) 8 (some (gI (sI (sA (sA u 108 (gI u 82 42).toNatClampNeg p1) 109 (gI (sA u 108 (gI u 82 42).toNatClampNeg p1) 82 42).toNatClampNeg p2) 82 42 ((gI (sA (sA u 108 (gI u 82 42).toNatClampNeg p1) 109 (gI (sA u 108 (gI u 82 42).toNatClampNeg p1) 82 42).toNatClampNeg p2) 82 42) + (1 : Int32))) 82 42, sI (sA (sA u 108 (gI u 82 42).toNatClampNeg p1) 109 (gI (sA u 108 (gI u 82 42).toNatClampNeg p1) 82 42).toNatClampNeg p2) 82 42 ((gI (sA (sA u 108 (gI u 82 42).toNatClampNeg p1) 109 (gI (sA u 108 (gI u 82 42).toNatClampNeg p1) 82 42).toNatClampNeg p2) 82 42) + (1 : Int32)))))))))))
set_option maxHeartbeats 4000000 in
set_option maxRecDepth 100000 in
theorem k_X8_book (l : Launch) (D : gDt) (base : Nat) (Z : gZt) (u : Mem) (p1 : Int32) (p2 : Int32) (r : Int32) (u' : Mem) (hf : f_X8_book p1 p2 u = some (r, u')) : Met l yX8_book (gws yX8_book cX8_book 3 (some .int)) (gRm 3 0 0) (gPc D base Z u [.ref (base + 82), .int p1, .int p2]) (gQi D base r u') 0 0 (gF base) := by
  refine Met.ofW (cc := cX8_book) (maxL := 3) (ret := some .int) (by decide) rfl ?_
  intro p e s m args below meth c s₁ B hml hv
  obtain ⟨rfl, C0, hG⟩ := g_enter B hml hv
  have hr := B.returns
  have C0 : gC p s m meth c _ cX8_book 3 RX8 D base Z := C0
  have hx := C0.1
  have hb := C0.2.1
  have hl := lv_entry ([.ref (base + 82), .int p1, .int p2]) (n := 3) (Nat.le_of_ble_eq_true rfl)
  rw [lg_entry_eq]
  generalize (lg_sl ([.ref (base + 82), .int p1, .int p2]) ++ List.replicate (3 - (lg_sl ([.ref (base + 82), .int p1, .int p2])).length) Slot.unset).toArray = ls at hl ⊢
  have hl : lv_has ls 3 [(0, .ref (base + 82)), (1, .int p1), (2, .int p2)] := hl
  obtain ⟨Q, hQ⟩ : ∃ Q, Q = MQ below (gQi D base r u') ([.ref (base + 82), .int p1, .int p2] : List Value).toArray s 0 0 (gF base) := ⟨_, rfl⟩
  rw [← hQ]
  change W p l e (gRm 3 0 0) s m _ below meth c _ _ _ _ _ _
  unfold f_X8_book at hf
  refine lv_iload_n hx hb dX8_book_0 rfl (lv_at hl 1 rfl) ?_
  refine lv_iconst (v := (-1 : Int32)) hx hb dX8_book_1 (by decide) ?_
  refine lv_icmp_ne (tgt := 12) hx hb dX8_book_2 (by decide) (fun c1 => ?_) (fun c1 => ?_)
  · have hf := gif_f c1 hf
    refine lv_aload_n hx hb dX8_book_12 rfl (lv_at hl 0 rfl) ?_
    refine lv_iload_n hx hb dX8_book_13 rfl (lv_at hl 1 rfl) ?_
    obtain ⟨r2, hc2, hf⟩ := pb_s hf
    refine g_doI0 hG (g_runV C0 hG (k_X8_isOne l D base Z u p1 r2 hc2) m_X8_isOne v_X8_isOne w_1098 (by decide) (g_recv C0 hG (L82 hG) rfl) rfl hl.1 rfl (Nat.le_of_ble_eq_true rfl) dX8_book_14 ⟨Nat.zero_le _, Nat.zero_le _⟩) (fun H locs hG hk => ?_)
    refine lv_if_ne (tgt := 22) hx hb dX8_book_17 (by decide) (fun c3 => ?_) (fun c3 => ?_)
    · have hf := gif_f c3 hf
      refine lv_aload_n hx hb dX8_book_22 rfl (lv_at hl 0 rfl) ?_
      refine lv_iload_n hx hb dX8_book_23 rfl (lv_at hl 2 rfl) ?_
      obtain ⟨r4, hc4, hf⟩ := pb_s hf
      refine g_doI0 hG (g_runV C0 hG (k_X8_isTales l D base Z u p2 r4 hc4) m_X8_isTales v_X8_isTales w_1090 (by decide) (g_recv C0 hG (L82 hG) rfl) rfl hl.1 rfl (Nat.le_of_ble_eq_true rfl) dX8_book_24 ⟨Nat.zero_le _, Nat.zero_le _⟩) (fun H locs hG hk => ?_)
      refine lv_if_ne (tgt := 33) hx hb dX8_book_27 (by decide) (fun c5 => ?_) (fun c5 => ?_)
      · have hf := gif_f c5 hf
        refine lv_aload_n hx hb dX8_book_33 rfl (lv_at hl 0 rfl) ?_
        refine g_getI C0 hG (L82 hG) rfl 42 (by decide) rfl w_888 dX8_book_34 ?_
        refine lv_bipush (v := (8 : Int32)) hx hb dX8_book_37 (by decide) ?_
        refine lv_icmp_ne (tgt := 45) hx hb dX8_book_39 (by decide) (fun c6 => ?_) (fun c6 => ?_)
        · have hf := gif_f c6 hf
          refine lv_aload_n hx hb dX8_book_45 rfl (lv_at hl 0 rfl) ?_
          refine g_getSa (o := 26) (a := 108) C0 hG (L82 hG) rfl 45 (by decide) rfl rfl w_891 dX8_book_46 ?_
          refine lv_aload_n hx hb dX8_book_49 rfl (lv_at hl 0 rfl) ?_
          refine g_getI C0 hG (L82 hG) rfl 42 (by decide) rfl w_888 dX8_book_50 ?_
          refine lv_iload_n hx hb dX8_book_53 rfl (lv_at hl 1 rfl) ?_
          obtain ⟨h7, hf⟩ := gin_s hf
          refine g_iast C0 hG (L108 hG) h7 dX8_book_54 (fun H locs hG => ?_)
          refine lv_aload_n hx hb dX8_book_55 rfl (lv_at hl 0 rfl) ?_
          refine g_getSa (o := 27) (a := 109) C0 hG (L82 hG) rfl 46 (by decide) rfl rfl w_892 dX8_book_56 ?_
          refine lv_aload_n hx hb dX8_book_59 rfl (lv_at hl 0 rfl) ?_
          refine g_getI C0 hG (L82 hG) rfl 42 (by decide) rfl w_888 dX8_book_60 ?_
          refine lv_iload_n hx hb dX8_book_63 rfl (lv_at hl 2 rfl) ?_
          obtain ⟨h8, hf⟩ := gin_s hf
          refine g_iast C0 hG (L109 hG) h8 dX8_book_64 (fun H locs hG => ?_)
          refine lv_aload_n hx hb dX8_book_65 rfl (lv_at hl 0 rfl) ?_
          refine lv_dup hx hb dX8_book_66 rfl ?_
          refine g_getI C0 hG (L82 hG) rfl 42 (by decide) rfl w_888 dX8_book_67 ?_
          refine lv_iconst (v := (1 : Int32)) hx hb dX8_book_70 (by decide) ?_
          refine lv_iadd hx hb dX8_book_71 ?_
          refine g_putI (ty := .int) C0 hG (L82 hG) rfl 42 (by decide) rfl w_888 rfl (by decide) rfl rfl dX8_book_72 (fun H locs hG => ?_)
          refine lv_aload_n hx hb dX8_book_75 rfl (lv_at hl 0 rfl) ?_
          refine g_getI C0 hG (L82 hG) rfl 42 (by decide) rfl w_888 dX8_book_76 ?_
          obtain ⟨hr1, hu⟩ := gret_s hf
          subst hr1
          subst hu
          subst hQ
          exact g_iret C0 hG hr dX8_book_79
        · have hf := gif_t c6 hf
          refine lv_bipush (v := (-4 : Int32)) hx hb dX8_book_42 (by decide) ?_
          obtain ⟨hr1, hu⟩ := gret_s hf
          subst hr1
          subst hu
          subst hQ
          exact g_iret C0 hG hr dX8_book_44
      · have hf := gif_t c5 hf
        refine lv_bipush (v := (-2 : Int32)) hx hb dX8_book_30 (by decide) ?_
        obtain ⟨hr1, hu⟩ := gret_s hf
        subst hr1
        subst hu
        subst hQ
        exact g_iret C0 hG hr dX8_book_32
    · have hf := gif_t c3 hf
      refine lv_iconst (v := (-1 : Int32)) hx hb dX8_book_20 (by decide) ?_
      obtain ⟨hr1, hu⟩ := gret_s hf
      subst hr1
      subst hu
      subst hQ
      exact g_iret C0 hG hr dX8_book_21
  · have hf := gif_t c1 hf
    refine lv_aload_n hx hb dX8_book_5 rfl (lv_at hl 0 rfl) ?_
    refine lv_iconst (v := (0 : Int32)) hx hb dX8_book_6 (by decide) ?_
    refine g_putI (ty := .int) C0 hG (L82 hG) rfl 42 (by decide) rfl w_888 rfl (by decide) rfl rfl dX8_book_7 (fun H locs hG => ?_)
    refine lv_iconst (v := (0 : Int32)) hx hb dX8_book_10 (by decide) ?_
    obtain ⟨hr1, hu⟩ := gret_s hf
    subst hr1
    subst hu
    subst hQ
    exact g_iret C0 hG hr dX8_book_11
theorem dX8_looked_0 : decode cX8_looked 0 = .ok (.iconst 0, 1) := by decide +kernel
theorem dX8_looked_1 : decode cX8_looked 1 = .ok (.istore_n 1, 1) := by decide +kernel
theorem dX8_looked_2 : decode cX8_looked 2 = .ok (.iload_n 1, 1) := by decide +kernel
theorem dX8_looked_3 : decode cX8_looked 3 = .ok (.aload_n 0, 1) := by decide +kernel
theorem dX8_looked_4 : decode cX8_looked 4 = .ok (.getfield 138, 3) := by decide +kernel
theorem dX8_looked_7 : decode cX8_looked 7 = .ok (.if_icmp .ge 31, 3) := by decide +kernel
theorem dX8_looked_10 : decode cX8_looked 10 = .ok (.aload_n 0, 1) := by decide +kernel
theorem dX8_looked_11 : decode cX8_looked 11 = .ok (.getfield 35, 3) := by decide +kernel
theorem dX8_looked_14 : decode cX8_looked 14 = .ok (.aload_n 0, 1) := by decide +kernel
theorem dX8_looked_15 : decode cX8_looked 15 = .ok (.getfield 147, 3) := by decide +kernel
theorem dX8_looked_18 : decode cX8_looked 18 = .ok (.iload_n 1, 1) := by decide +kernel
theorem dX8_looked_19 : decode cX8_looked 19 = .ok (.iaload, 1) := by decide +kernel
theorem dX8_looked_20 : decode cX8_looked 20 = .ok (.iaload, 1) := by decide +kernel
theorem dX8_looked_21 : decode cX8_looked 21 = .ok (.aload_n 0, 1) := by decide +kernel
theorem dX8_looked_22 : decode cX8_looked 22 = .ok (.getfield 150, 3) := by decide +kernel
theorem dX8_looked_25 : decode cX8_looked 25 = .ok (.iload_n 1, 1) := by decide +kernel
theorem dX8_looked_26 : decode cX8_looked 26 = .ok (.iaload, 1) := by decide +kernel
theorem dX8_looked_27 : decode cX8_looked 27 = .ok (.if_icmp .eq 5, 3) := by decide +kernel
theorem dX8_looked_30 : decode cX8_looked 30 = .ok (.iload_n 1, 1) := by decide +kernel
theorem dX8_looked_31 : decode cX8_looked 31 = .ok (.ireturn, 1) := by decide +kernel
theorem dX8_looked_32 : decode cX8_looked 32 = .ok (.iinc 1 1, 3) := by decide +kernel
theorem dX8_looked_35 : decode cX8_looked 35 = .ok (.goto (-33), 3) := by decide +kernel
theorem dX8_looked_38 : decode cX8_looked 38 = .ok (.bipush (-5), 2) := by decide +kernel
theorem dX8_looked_40 : decode cX8_looked 40 = .ok (.ireturn, 1) := by decide +kernel
def f_X8_looked_L2 (u : Mem) (x1_1 : Int32) : Option (Int32 ⊕ Int32) := (if (gI u 82 42) ≤ x1_1 then some (Sum.inr (-5 : Int32)) else gin x1_1 8 (gin (gA u 108 x1_1.toNatClampNeg) 6 (gin x1_1 8 ((if (gA u 86 (gA u 108 x1_1.toNatClampNeg).toNatClampNeg) = (gA u 109 x1_1.toNatClampNeg) then some (Sum.inl (x1_1 + (1 : Int32))) else some (Sum.inr (x1_1)))))))
def f_X8_looked (u : Mem) : Option (Int32) := whileO (fun s => f_X8_looked_L2 u s) FUEL (0 : Int32)
set_option maxHeartbeats 4000000 in
set_option maxRecDepth 100000 in
theorem k_X8_looked (l : Launch) (D : gDt) (base : Nat) (Z : gZt) (u : Mem) (r : Int32) (hf : f_X8_looked u = some r) : Met l yX8_looked (gws yX8_looked cX8_looked 2 (some .int)) (gRm 1 0 0) (gPc D base Z u [.ref (base + 82)]) (gQi D base r u) 0 0 (gF base) := by
  refine Met.ofW (cc := cX8_looked) (maxL := 2) (ret := some .int) (by decide) rfl ?_
  intro p e s m args below meth c s₁ B hml hv
  obtain ⟨rfl, C0, hG⟩ := g_enter B hml hv
  have hr := B.returns
  have C0 : gC p s m meth c _ cX8_looked 2 RX8 D base Z := C0
  have hx := C0.1
  have hb := C0.2.1
  have hl := lv_entry ([.ref (base + 82)]) (n := 2) (Nat.le_of_ble_eq_true rfl)
  rw [lg_entry_eq]
  generalize (lg_sl ([.ref (base + 82)]) ++ List.replicate (2 - (lg_sl ([.ref (base + 82)])).length) Slot.unset).toArray = ls at hl ⊢
  have hl : lv_has ls 2 [(0, .ref (base + 82))] := hl
  obtain ⟨Q, hQ⟩ : ∃ Q, Q = MQ below (gQi D base r u) ([.ref (base + 82)] : List Value).toArray s 0 0 (gF base) := ⟨_, rfl⟩
  rw [← hQ]
  change W p l e (gRm 1 0 0) s m _ below meth c _ _ _ _ _ _
  unfold f_X8_looked at hf
  refine lv_iconst (v := (0 : Int32)) hx hb dX8_looked_0 (by decide) ?_
  refine lv_istore_n (lv' := [(1, .int (0 : Int32)), (0, .ref (base + 82))]) hx hb dX8_looked_1 rfl hl (by decide) rfl (fun ls hl => ?_)
  have loop1 : ∀ (n1 : Nat) (x1_1 : Int32) (H : Heap) (locs : List Loc) (ls : Array Slot), gH D base s u H locs → lv_has ls 2 [(0, .ref (base + 82)), (1, .int x1_1)] → whileO (fun s => f_X8_looked_L2 u s) n1 x1_1 = some r → W p l e (gRm 1 0 0) s m ([.ref (base + 82)] : List Value).toArray below meth c H locs 0 0 Q (F0 m 2 ls []) := by
    intro n1
    induction n1 with
    | zero => intro x1_1 H locs ls hG hl hf; cases hf
    | succ n1 ih1 =>
      intro x1_1 H locs ls hG hl hf
      obtain ⟨X1, hf, hX1⟩ := while_s hf
      have hf : f_X8_looked_L2 u x1_1 = some X1 := hf
      unfold f_X8_looked_L2 at hf
      refine lv_iload_n hx hb dX8_looked_2 rfl (lv_at hl 1 rfl) ?_
      refine lv_aload_n hx hb dX8_looked_3 rfl (lv_at hl 0 rfl) ?_
      refine g_getI C0 hG (L82 hG) rfl 42 (by decide) rfl w_888 dX8_looked_4 ?_
      refine lv_icmp_ge (tgt := 38) hx hb dX8_looked_7 (by decide) (fun c2 => ?_) (fun c2 => ?_)
      · have hf := gif_t c2 hf
        refine lv_bipush (v := (-5 : Int32)) hx hb dX8_looked_38 (by decide) ?_
        have hf := while_r hX1 hf
        have hf := Option.some.inj hf
        subst hf
        subst hQ
        exact g_iret C0 hG hr dX8_looked_40
      · have hf := gif_f c2 hf
        refine lv_aload_n hx hb dX8_looked_10 rfl (lv_at hl 0 rfl) ?_
        refine g_getSa (o := 4) (a := 86) C0 hG (L82 hG) rfl 8 (by decide) rfl rfl w_854 dX8_looked_11 ?_
        refine lv_aload_n hx hb dX8_looked_14 rfl (lv_at hl 0 rfl) ?_
        refine g_getSa (o := 26) (a := 108) C0 hG (L82 hG) rfl 45 (by decide) rfl rfl w_891 dX8_looked_15 ?_
        refine lv_iload_n hx hb dX8_looked_18 rfl (lv_at hl 1 rfl) ?_
        obtain ⟨h3, hf⟩ := gin_s hf
        refine g_iald C0 hG (L108 hG) h3 dX8_looked_19 ?_
        obtain ⟨h4, hf⟩ := gin_s hf
        refine g_iald C0 hG (L86 hG) h4 dX8_looked_20 ?_
        refine lv_aload_n hx hb dX8_looked_21 rfl (lv_at hl 0 rfl) ?_
        refine g_getSa (o := 27) (a := 109) C0 hG (L82 hG) rfl 46 (by decide) rfl rfl w_892 dX8_looked_22 ?_
        refine lv_iload_n hx hb dX8_looked_25 rfl (lv_at hl 1 rfl) ?_
        obtain ⟨h5, hf⟩ := gin_s hf
        refine g_iald C0 hG (L109 hG) h5 dX8_looked_26 ?_
        refine lv_icmp_eq (tgt := 32) hx hb dX8_looked_27 (by decide) (fun c6 => ?_) (fun c6 => ?_)
        · have hf := gif_t c6 hf
          refine lv_iinc (v := x1_1 + (1 : Int32)) (lv' := [(1, .int (x1_1 + (1 : Int32))), (0, .ref (base + 82))]) hx hb dX8_looked_32 hl (k := 1) rfl rfl (by decide) rfl (fun ls hl => ?_)
          refine lv_goto (tgt := 2) hx hb dX8_looked_35 (by decide) ?_
          have hf := while_l hX1 hf
          exact ih1 (x1_1 + (1 : Int32)) _ _ ls hG (lv_sub hl [1, 0] rfl) hf
        · have hf := gif_f c6 hf
          refine lv_iload_n hx hb dX8_looked_30 rfl (lv_at hl 1 rfl) ?_
          have hf := while_r hX1 hf
          have hf := Option.some.inj hf
          subst hf
          subst hQ
          exact g_iret C0 hG hr dX8_looked_31
  exact loop1 FUEL (0 : Int32) _ _ ls hG (lv_sub hl [1, 0] rfl) hf
theorem dX8_isTape_0 : decode cX8_isTape 0 = .ok (.aload_n 0, 1) := by decide +kernel
theorem dX8_isTape_1 : decode cX8_isTape 1 = .ok (.iload_n 1, 1) := by decide +kernel
theorem dX8_isTape_2 : decode cX8_isTape 2 = .ok (.iconst 0, 1) := by decide +kernel
theorem dX8_isTape_3 : decode cX8_isTape 3 = .ok (.iconst 5, 1) := by decide +kernel
theorem dX8_isTape_4 : decode cX8_isTape 4 = .ok (.invokevirtual 249, 3) := by decide +kernel
theorem dX8_isTape_7 : decode cX8_isTape 7 = .ok (.ireturn, 1) := by decide +kernel
def f_X8_isTape (p1 : Int32) : Option (Int32) := Option.bind (f_X8_in p1 (0 : Int32) (5 : Int32)) (fun r1 => gbo r1 (some r1))
set_option maxHeartbeats 4000000 in
set_option maxRecDepth 100000 in
theorem k_X8_isTape (l : Launch) (D : gDt) (base : Nat) (Z : gZt) (u : Mem) (p1 : Int32) (r : Int32) (hf : f_X8_isTape p1 = some r) : Met l yX8_isTape (gws yX8_isTape cX8_isTape 2 (some .boolean)) (gRm 2 0 0) (gPc D base Z u [.ref (base + 82), .int p1]) (gQi D base r u) 0 0 (gF base) := by
  refine Met.ofW (cc := cX8_isTape) (maxL := 2) (ret := some .boolean) (by decide) rfl ?_
  intro p e s m args below meth c s₁ B hml hv
  obtain ⟨rfl, C0, hG⟩ := g_enter B hml hv
  have hr := B.returns
  have C0 : gC p s m meth c _ cX8_isTape 2 RX8 D base Z := C0
  have hx := C0.1
  have hb := C0.2.1
  have hl := lv_entry ([.ref (base + 82), .int p1]) (n := 2) (Nat.le_of_ble_eq_true rfl)
  rw [lg_entry_eq]
  generalize (lg_sl ([.ref (base + 82), .int p1]) ++ List.replicate (2 - (lg_sl ([.ref (base + 82), .int p1])).length) Slot.unset).toArray = ls at hl ⊢
  have hl : lv_has ls 2 [(0, .ref (base + 82)), (1, .int p1)] := hl
  obtain ⟨Q, hQ⟩ : ∃ Q, Q = MQ below (gQi D base r u) ([.ref (base + 82), .int p1] : List Value).toArray s 0 0 (gF base) := ⟨_, rfl⟩
  rw [← hQ]
  change W p l e (gRm 2 0 0) s m _ below meth c _ _ _ _ _ _
  unfold f_X8_isTape at hf
  refine lv_aload_n hx hb dX8_isTape_0 rfl (lv_at hl 0 rfl) ?_
  refine lv_iload_n hx hb dX8_isTape_1 rfl (lv_at hl 1 rfl) ?_
  refine lv_iconst (v := (0 : Int32)) hx hb dX8_isTape_2 (by decide) ?_
  refine lv_iconst (v := (5 : Int32)) hx hb dX8_isTape_3 (by decide) ?_
  obtain ⟨r1, hc1, hf⟩ := pb_s hf
  refine g_doI0 hG (g_runV C0 hG (k_X8_in l D base Z u p1 (0 : Int32) (5 : Int32) r1 hc1) m_X8_in v_X8_in w_1082 (by decide) (g_recv C0 hG (L82 hG) rfl) rfl hl.1 rfl (Nat.le_of_ble_eq_true rfl) dX8_isTape_4 ⟨Nat.zero_le _, Nat.zero_le _⟩) (fun H locs hG hk => ?_)
  obtain ⟨h2, hf⟩ := gbo_s hf
  have hf := Option.some.inj hf
  subst hf
  subst hQ
  exact g_zret C0 hG hr h2 dX8_isTape_7
theorem dX8_judge_0 : decode cX8_judge 0 = .ok (.aload_n 0, 1) := by decide +kernel
theorem dX8_judge_1 : decode cX8_judge 1 = .ok (.iload_n 1, 1) := by decide +kernel
theorem dX8_judge_2 : decode cX8_judge 2 = .ok (.invokevirtual 407, 3) := by decide +kernel
theorem dX8_judge_5 : decode cX8_judge 5 = .ok (.ifCond .ne 5, 3) := by decide +kernel
theorem dX8_judge_8 : decode cX8_judge 8 = .ok (.iconst (-1), 1) := by decide +kernel
theorem dX8_judge_9 : decode cX8_judge 9 = .ok (.ireturn, 1) := by decide +kernel
theorem dX8_judge_10 : decode cX8_judge 10 = .ok (.aload_n 0, 1) := by decide +kernel
theorem dX8_judge_11 : decode cX8_judge 11 = .ok (.getfield 232, 3) := by decide +kernel
theorem dX8_judge_14 : decode cX8_judge 14 = .ok (.iload_n 1, 1) := by decide +kernel
theorem dX8_judge_15 : decode cX8_judge 15 = .ok (.iaload, 1) := by decide +kernel
theorem dX8_judge_16 : decode cX8_judge 16 = .ok (.ifCond .lt 16, 3) := by decide +kernel
theorem dX8_judge_19 : decode cX8_judge 19 = .ok (.aload_n 0, 1) := by decide +kernel
theorem dX8_judge_20 : decode cX8_judge 20 = .ok (.getfield 232, 3) := by decide +kernel
theorem dX8_judge_23 : decode cX8_judge 23 = .ok (.iload_n 1, 1) := by decide +kernel
theorem dX8_judge_24 : decode cX8_judge 24 = .ok (.iaload, 1) := by decide +kernel
theorem dX8_judge_25 : decode cX8_judge 25 = .ok (.iconst 1, 1) := by decide +kernel
theorem dX8_judge_26 : decode cX8_judge 26 = .ok (.if_icmp .eq 6, 3) := by decide +kernel
theorem dX8_judge_29 : decode cX8_judge 29 = .ok (.bipush (-12), 2) := by decide +kernel
theorem dX8_judge_31 : decode cX8_judge 31 = .ok (.ireturn, 1) := by decide +kernel
theorem dX8_judge_32 : decode cX8_judge 32 = .ok (.iconst 0, 1) := by decide +kernel
theorem dX8_judge_33 : decode cX8_judge 33 = .ok (.istore_n 3, 1) := by decide +kernel
theorem dX8_judge_34 : decode cX8_judge 34 = .ok (.iload_n 3, 1) := by decide +kernel
theorem dX8_judge_35 : decode cX8_judge 35 = .ok (.aload_n 0, 1) := by decide +kernel
theorem dX8_judge_36 : decode cX8_judge 36 = .ok (.getfield 7, 3) := by decide +kernel
theorem dX8_judge_39 : decode cX8_judge 39 = .ok (.if_icmp .ge 67, 3) := by decide +kernel
theorem dX8_judge_42 : decode cX8_judge 42 = .ok (.aload_n 0, 1) := by decide +kernel
theorem dX8_judge_43 : decode cX8_judge 43 = .ok (.getfield 232, 3) := by decide +kernel
theorem dX8_judge_46 : decode cX8_judge 46 = .ok (.iload_n 1, 1) := by decide +kernel
theorem dX8_judge_47 : decode cX8_judge 47 = .ok (.iaload, 1) := by decide +kernel
theorem dX8_judge_48 : decode cX8_judge 48 = .ok (.ifCond .lt 21, 3) := by decide +kernel
theorem dX8_judge_51 : decode cX8_judge 51 = .ok (.iload_n 2, 1) := by decide +kernel
theorem dX8_judge_52 : decode cX8_judge 52 = .ok (.ifCond .lt 17, 3) := by decide +kernel
theorem dX8_judge_55 : decode cX8_judge 55 = .ok (.iload_n 2, 1) := by decide +kernel
theorem dX8_judge_56 : decode cX8_judge 56 = .ok (.aload_n 0, 1) := by decide +kernel
theorem dX8_judge_57 : decode cX8_judge 57 = .ok (.getfield 235, 3) := by decide +kernel
theorem dX8_judge_60 : decode cX8_judge 60 = .ok (.iload_n 1, 1) := by decide +kernel
theorem dX8_judge_61 : decode cX8_judge 61 = .ok (.iaload, 1) := by decide +kernel
theorem dX8_judge_62 : decode cX8_judge 62 = .ok (.iload_n 3, 1) := by decide +kernel
theorem dX8_judge_63 : decode cX8_judge 63 = .ok (.isub, 1) := by decide +kernel
theorem dX8_judge_64 : decode cX8_judge 64 = .ok (.iconst 1, 1) := by decide +kernel
theorem dX8_judge_65 : decode cX8_judge 65 = .ok (.isub, 1) := by decide +kernel
theorem dX8_judge_66 : decode cX8_judge 66 = .ok (.if_icmp .le 8, 3) := by decide +kernel
theorem dX8_judge_69 : decode cX8_judge 69 = .ok (.bipush 100, 2) := by decide +kernel
theorem dX8_judge_71 : decode cX8_judge 71 = .ok (.iload_n 3, 1) := by decide +kernel
theorem dX8_judge_72 : decode cX8_judge 72 = .ok (.iadd, 1) := by decide +kernel
theorem dX8_judge_73 : decode cX8_judge 73 = .ok (.ireturn, 1) := by decide +kernel
theorem dX8_judge_74 : decode cX8_judge 74 = .ok (.aload_n 0, 1) := by decide +kernel
theorem dX8_judge_75 : decode cX8_judge 75 = .ok (.getfield 238, 3) := by decide +kernel
theorem dX8_judge_78 : decode cX8_judge 78 = .ok (.bipush 60, 2) := by decide +kernel
theorem dX8_judge_80 : decode cX8_judge 80 = .ok (.iload_n 1, 1) := by decide +kernel
theorem dX8_judge_81 : decode cX8_judge 81 = .ok (.imul, 1) := by decide +kernel
theorem dX8_judge_82 : decode cX8_judge 82 = .ok (.iload_n 2, 1) := by decide +kernel
theorem dX8_judge_83 : decode cX8_judge 83 = .ok (.iadd, 1) := by decide +kernel
theorem dX8_judge_84 : decode cX8_judge 84 = .ok (.iload_n 3, 1) := by decide +kernel
theorem dX8_judge_85 : decode cX8_judge 85 = .ok (.iadd, 1) := by decide +kernel
theorem dX8_judge_86 : decode cX8_judge 86 = .ok (.laload, 1) := by decide +kernel
theorem dX8_judge_87 : decode cX8_judge 87 = .ok (.aload_n 0, 1) := by decide +kernel
theorem dX8_judge_88 : decode cX8_judge 88 = .ok (.getfield 35, 3) := by decide +kernel
theorem dX8_judge_91 : decode cX8_judge 91 = .ok (.iload_n 3, 1) := by decide +kernel
theorem dX8_judge_92 : decode cX8_judge 92 = .ok (.iaload, 1) := by decide +kernel
theorem dX8_judge_93 : decode cX8_judge 93 = .ok (.i2l, 1) := by decide +kernel
theorem dX8_judge_94 : decode cX8_judge 94 = .ok (.lcmp, 1) := by decide +kernel
theorem dX8_judge_95 : decode cX8_judge 95 = .ok (.ifCond .eq 5, 3) := by decide +kernel
theorem dX8_judge_98 : decode cX8_judge 98 = .ok (.iload_n 3, 1) := by decide +kernel
theorem dX8_judge_99 : decode cX8_judge 99 = .ok (.ireturn, 1) := by decide +kernel
theorem dX8_judge_100 : decode cX8_judge 100 = .ok (.iinc 3 1, 3) := by decide +kernel
theorem dX8_judge_103 : decode cX8_judge 103 = .ok (.goto (-69), 3) := by decide +kernel
theorem dX8_judge_106 : decode cX8_judge 106 = .ok (.bipush (-5), 2) := by decide +kernel
theorem dX8_judge_108 : decode cX8_judge 108 = .ok (.ireturn, 1) := by decide +kernel
def f_X8_judge_L34 (u : Mem) (p1 : Int32) (p2 : Int32) (x3_5 : Int32) : Option (Int32 ⊕ Int32) := (if (gI u 82 0) ≤ x3_5 then some (Sum.inr (-5 : Int32)) else gin p1 6 ((if (gA u 125 p1.toNatClampNeg) < 0 then some (Sum.inr ((100 : Int32) + x3_5)) else (if p2 < 0 then some (Sum.inr ((100 : Int32) + x3_5)) else gin p1 6 ((if p2 ≤ (((gA u 126 p1.toNatClampNeg) - x3_5) - (1 : Int32)) then gin ((((60 : Int32) * p1) + p2) + x3_5) 360 (gin x3_5 6 ((if (lg_cmp (gL u 127 ((((60 : Int32) * p1) + p2) + x3_5).toNatClampNeg) ((gA u 86 x3_5.toNatClampNeg).toInt64)) = 0 then some (Sum.inl (x3_5 + (1 : Int32))) else some (Sum.inr (x3_5))))) else some (Sum.inr ((100 : Int32) + x3_5))))))))
def f_X8_judge_L34 (u : Mem) (p1 : Int32) (p2 : Int32) (x3_17 : Int32) : Option (Int32 ⊕ Int32) := (if (gI u 82 0) ≤ x3_17 then some (Sum.inr (-5 : Int32)) else gin p1 6 ((if (gA u 125 p1.toNatClampNeg) < 0 then some (Sum.inr ((100 : Int32) + x3_17)) else (if p2 < 0 then some (Sum.inr ((100 : Int32) + x3_17)) else gin p1 6 ((if p2 ≤ (((gA u 126 p1.toNatClampNeg) - x3_17) - (1 : Int32)) then gin ((((60 : Int32) * p1) + p2) + x3_17) 360 (gin x3_17 6 ((if (lg_cmp (gL u 127 ((((60 : Int32) * p1) + p2) + x3_17).toNatClampNeg) ((gA u 86 x3_17.toNatClampNeg).toInt64)) = 0 then some (Sum.inl (x3_17 + (1 : Int32))) else some (Sum.inr (x3_17))))) else some (Sum.inr ((100 : Int32) + x3_17))))))))
def f_X8_judge (p1 : Int32) (p2 : Int32) (u : Mem) : Option (Int32) := Option.bind (f_X8_isTape p1) (fun r1 => (if r1 = 0 then some (-1 : Int32) else gin p1 6 ((if (gA u 125 p1.toNatClampNeg) < 0 then whileO (fun s => f_X8_judge_L34 u p1 p2 s) FUEL (0 : Int32) else gin p1 6 ((if (gA u 125 p1.toNatClampNeg) = (1 : Int32) then whileO (fun s => f_X8_judge_L34 u p1 p2 s) FUEL (0 : Int32) else some (-12 : Int32)))))))
set_option maxHeartbeats 4000000 in
set_option maxRecDepth 100000 in
theorem k_X8_judge (l : Launch) (D : gDt) (base : Nat) (Z : gZt) (u : Mem) (p1 : Int32) (p2 : Int32) (r : Int32) (hf : f_X8_judge p1 p2 u = some r) : Met l yX8_judge (gws yX8_judge cX8_judge 4 (some .int)) (gRm 3 0 0) (gPc D base Z u [.ref (base + 82), .int p1, .int p2]) (gQi D base r u) 0 0 (gF base) := by
  refine Met.ofW (cc := cX8_judge) (maxL := 4) (ret := some .int) (by decide) rfl ?_
  intro p e s m args below meth c s₁ B hml hv
  obtain ⟨rfl, C0, hG⟩ := g_enter B hml hv
  have hr := B.returns
  have C0 : gC p s m meth c _ cX8_judge 4 RX8 D base Z := C0
  have hx := C0.1
  have hb := C0.2.1
  have hl := lv_entry ([.ref (base + 82), .int p1, .int p2]) (n := 4) (Nat.le_of_ble_eq_true rfl)
  rw [lg_entry_eq]
  generalize (lg_sl ([.ref (base + 82), .int p1, .int p2]) ++ List.replicate (4 - (lg_sl ([.ref (base + 82), .int p1, .int p2])).length) Slot.unset).toArray = ls at hl ⊢
  have hl : lv_has ls 4 [(0, .ref (base + 82)), (1, .int p1), (2, .int p2)] := hl
  obtain ⟨Q, hQ⟩ : ∃ Q, Q = MQ below (gQi D base r u) ([.ref (base + 82), .int p1, .int p2] : List Value).toArray s 0 0 (gF base) := ⟨_, rfl⟩
  rw [← hQ]
  change W p l e (gRm 3 0 0) s m _ below meth c _ _ _ _ _ _
  unfold f_X8_judge at hf
  refine lv_aload_n hx hb dX8_judge_0 rfl (lv_at hl 0 rfl) ?_
  refine lv_iload_n hx hb dX8_judge_1 rfl (lv_at hl 1 rfl) ?_
  obtain ⟨r1, hc1, hf⟩ := pb_s hf
  refine g_doI0 hG (g_runV C0 hG (k_X8_isTape l D base Z u p1 r1 hc1) m_X8_isTape v_X8_isTape w_1372 (by decide) (g_recv C0 hG (L82 hG) rfl) rfl hl.1 rfl (Nat.le_of_ble_eq_true rfl) dX8_judge_2 ⟨Nat.zero_le _, Nat.zero_le _⟩) (fun H locs hG hk => ?_)
  refine lv_if_ne (tgt := 10) hx hb dX8_judge_5 (by decide) (fun c2 => ?_) (fun c2 => ?_)
  · have hf := gif_f c2 hf
    refine lv_aload_n hx hb dX8_judge_10 rfl (lv_at hl 0 rfl) ?_
    refine g_getSa (o := 43) (a := 125) C0 hG (L82 hG) rfl 73 (by decide) rfl rfl w_919 dX8_judge_11 ?_
    refine lv_iload_n hx hb dX8_judge_14 rfl (lv_at hl 1 rfl) ?_
    obtain ⟨h3, hf⟩ := gin_s hf
    refine g_iald C0 hG (L125 hG) h3 dX8_judge_15 ?_
    refine lv_if_lt (tgt := 32) hx hb dX8_judge_16 (by decide) (fun c4 => ?_) (fun c4 => ?_)
    · have hf := gif_t c4 hf
      refine lv_iconst (v := (0 : Int32)) hx hb dX8_judge_32 (by decide) ?_
      refine lv_istore_n (lv' := [(3, .int (0 : Int32)), (0, .ref (base + 82)), (1, .int p1), (2, .int p2)]) hx hb dX8_judge_33 rfl hl (by decide) rfl (fun ls hl => ?_)
      have loop5 : ∀ (n5 : Nat) (x3_5 : Int32) (H : Heap) (locs : List Loc) (ls : Array Slot), gH D base s u H locs → lv_has ls 4 [(0, .ref (base + 82)), (1, .int p1), (2, .int p2), (3, .int x3_5)] → whileO (fun s => f_X8_judge_L34 u p1 p2 s) n5 x3_5 = some r → W p l e (gRm 3 0 0) s m ([.ref (base + 82), .int p1, .int p2] : List Value).toArray below meth c H locs 0 0 Q (F0 m 34 ls []) := by
        intro n5
        induction n5 with
        | zero => intro x3_5 H locs ls hG hl hf; cases hf
        | succ n5 ih5 =>
          intro x3_5 H locs ls hG hl hf
          obtain ⟨X5, hf, hX5⟩ := while_s hf
          have hf : f_X8_judge_L34 u p1 p2 x3_5 = some X5 := hf
          unfold f_X8_judge_L34 at hf
          refine lv_iload_n hx hb dX8_judge_34 rfl (lv_at hl 3 rfl) ?_
          refine lv_aload_n hx hb dX8_judge_35 rfl (lv_at hl 0 rfl) ?_
          refine g_getI C0 hG (L82 hG) rfl 0 (by decide) rfl w_846 dX8_judge_36 ?_
          refine lv_icmp_ge (tgt := 106) hx hb dX8_judge_39 (by decide) (fun c6 => ?_) (fun c6 => ?_)
          · have hf := gif_t c6 hf
            refine lv_bipush (v := (-5 : Int32)) hx hb dX8_judge_106 (by decide) ?_
            have hf := while_r hX5 hf
            have hf := Option.some.inj hf
            subst hf
            subst hQ
            exact g_iret C0 hG hr dX8_judge_108
          · have hf := gif_f c6 hf
            refine lv_aload_n hx hb dX8_judge_42 rfl (lv_at hl 0 rfl) ?_
            refine g_getSa (o := 43) (a := 125) C0 hG (L82 hG) rfl 73 (by decide) rfl rfl w_919 dX8_judge_43 ?_
            refine lv_iload_n hx hb dX8_judge_46 rfl (lv_at hl 1 rfl) ?_
            obtain ⟨h7, hf⟩ := gin_s hf
            refine g_iald C0 hG (L125 hG) h7 dX8_judge_47 ?_
            refine lv_if_lt (tgt := 69) hx hb dX8_judge_48 (by decide) (fun c8 => ?_) (fun c8 => ?_)
            · have hf := gif_t c8 hf
              refine lv_bipush (v := (100 : Int32)) hx hb dX8_judge_69 (by decide) ?_
              refine lv_iload_n hx hb dX8_judge_71 rfl (lv_at hl 3 rfl) ?_
              refine lv_iadd hx hb dX8_judge_72 ?_
              have hf := while_r hX5 hf
              have hf := Option.some.inj hf
              subst hf
              subst hQ
              exact g_iret C0 hG hr dX8_judge_73
            · have hf := gif_f c8 hf
              refine lv_iload_n hx hb dX8_judge_51 rfl (lv_at hl 2 rfl) ?_
              refine lv_if_lt (tgt := 69) hx hb dX8_judge_52 (by decide) (fun c9 => ?_) (fun c9 => ?_)
              · have hf := gif_t c9 hf
                refine lv_bipush (v := (100 : Int32)) hx hb dX8_judge_69 (by decide) ?_
                refine lv_iload_n hx hb dX8_judge_71 rfl (lv_at hl 3 rfl) ?_
                refine lv_iadd hx hb dX8_judge_72 ?_
                have hf := while_r hX5 hf
                have hf := Option.some.inj hf
                subst hf
                subst hQ
                exact g_iret C0 hG hr dX8_judge_73
              · have hf := gif_f c9 hf
                refine lv_iload_n hx hb dX8_judge_55 rfl (lv_at hl 2 rfl) ?_
                refine lv_aload_n hx hb dX8_judge_56 rfl (lv_at hl 0 rfl) ?_
                refine g_getSa (o := 44) (a := 126) C0 hG (L82 hG) rfl 74 (by decide) rfl rfl w_920 dX8_judge_57 ?_
                refine lv_iload_n hx hb dX8_judge_60 rfl (lv_at hl 1 rfl) ?_
                obtain ⟨h10, hf⟩ := gin_s hf
                refine g_iald C0 hG (L126 hG) h10 dX8_judge_61 ?_
                refine lv_iload_n hx hb dX8_judge_62 rfl (lv_at hl 3 rfl) ?_
                refine lv_isub hx hb dX8_judge_63 ?_
                refine lv_iconst (v := (1 : Int32)) hx hb dX8_judge_64 (by decide) ?_
                refine lv_isub hx hb dX8_judge_65 ?_
                refine lv_icmp_le (tgt := 74) hx hb dX8_judge_66 (by decide) (fun c11 => ?_) (fun c11 => ?_)
                · have hf := gif_t c11 hf
                  refine lv_aload_n hx hb dX8_judge_74 rfl (lv_at hl 0 rfl) ?_
                  refine g_getSa (o := 45) (a := 127) C0 hG (L82 hG) rfl 75 (by decide) rfl rfl w_921 dX8_judge_75 ?_
                  refine lv_bipush (v := (60 : Int32)) hx hb dX8_judge_78 (by decide) ?_
                  refine lv_iload_n hx hb dX8_judge_80 rfl (lv_at hl 1 rfl) ?_
                  refine lv_imul hx hb dX8_judge_81 ?_
                  refine lv_iload_n hx hb dX8_judge_82 rfl (lv_at hl 2 rfl) ?_
                  refine lv_iadd hx hb dX8_judge_83 ?_
                  refine lv_iload_n hx hb dX8_judge_84 rfl (lv_at hl 3 rfl) ?_
                  refine lv_iadd hx hb dX8_judge_85 ?_
                  obtain ⟨h12, hf⟩ := gin_s hf
                  refine g_lald C0 hG (L127 hG) h12 dX8_judge_86 ?_
                  refine lv_aload_n hx hb dX8_judge_87 rfl (lv_at hl 0 rfl) ?_
                  refine g_getSa (o := 4) (a := 86) C0 hG (L82 hG) rfl 8 (by decide) rfl rfl w_854 dX8_judge_88 ?_
                  refine lv_iload_n hx hb dX8_judge_91 rfl (lv_at hl 3 rfl) ?_
                  obtain ⟨h13, hf⟩ := gin_s hf
                  refine g_iald C0 hG (L86 hG) h13 dX8_judge_92 ?_
                  refine lv_i2l (v := (gA u 86 x3_5.toNatClampNeg).toInt64) hx hb dX8_judge_93 rfl ?_
                  refine W.lcmp hx hb dX8_judge_94 ?_
                  refine lv_if_eq (tgt := 100) hx hb dX8_judge_95 (by decide) (fun c14 => ?_) (fun c14 => ?_)
                  · have hf := gif_t c14 hf
                    refine lv_iinc (v := x3_5 + (1 : Int32)) (lv' := [(3, .int (x3_5 + (1 : Int32))), (0, .ref (base + 82)), (1, .int p1), (2, .int p2)]) hx hb dX8_judge_100 hl (k := 3) rfl rfl (by decide) rfl (fun ls hl => ?_)
                    refine lv_goto (tgt := 34) hx hb dX8_judge_103 (by decide) ?_
                    have hf := while_l hX5 hf
                    exact ih5 (x3_5 + (1 : Int32)) _ _ ls hG (lv_sub hl [1, 2, 3, 0] rfl) hf
                  · have hf := gif_f c14 hf
                    refine lv_iload_n hx hb dX8_judge_98 rfl (lv_at hl 3 rfl) ?_
                    have hf := while_r hX5 hf
                    have hf := Option.some.inj hf
                    subst hf
                    subst hQ
                    exact g_iret C0 hG hr dX8_judge_99
                · have hf := gif_f c11 hf
                  refine lv_bipush (v := (100 : Int32)) hx hb dX8_judge_69 (by decide) ?_
                  refine lv_iload_n hx hb dX8_judge_71 rfl (lv_at hl 3 rfl) ?_
                  refine lv_iadd hx hb dX8_judge_72 ?_
                  have hf := while_r hX5 hf
                  have hf := Option.some.inj hf
                  subst hf
                  subst hQ
                  exact g_iret C0 hG hr dX8_judge_73
      exact loop5 FUEL (0 : Int32) _ _ ls hG (lv_sub hl [1, 2, 3, 0] rfl) hf
    · have hf := gif_f c4 hf
      refine lv_aload_n hx hb dX8_judge_19 rfl (lv_at hl 0 rfl) ?_
      refine g_getSa (o := 43) (a := 125) C0 hG (L82 hG) rfl 73 (by decide) rfl rfl w_919 dX8_judge_20 ?_
      refine lv_iload_n hx hb dX8_judge_23 rfl (lv_at hl 1 rfl) ?_
      obtain ⟨h15, hf⟩ := gin_s hf
      refine g_iald C0 hG (L125 hG) h15 dX8_judge_24 ?_
      refine lv_iconst (v := (1 : Int32)) hx hb dX8_judge_25 (by decide) ?_
      refine lv_icmp_eq (tgt := 32) hx hb dX8_judge_26 (by decide) (fun c16 => ?_) (fun c16 => ?_)
      · have hf := gif_t c16 hf
        refine lv_iconst (v := (0 : Int32)) hx hb dX8_judge_32 (by decide) ?_
        refine lv_istore_n (lv' := [(3, .int (0 : Int32)), (0, .ref (base + 82)), (1, .int p1), (2, .int p2)]) hx hb dX8_judge_33 rfl hl (by decide) rfl (fun ls hl => ?_)
        have loop17 : ∀ (n17 : Nat) (x3_17 : Int32) (H : Heap) (locs : List Loc) (ls : Array Slot), gH D base s u H locs → lv_has ls 4 [(0, .ref (base + 82)), (1, .int p1), (2, .int p2), (3, .int x3_17)] → whileO (fun s => f_X8_judge_L34 u p1 p2 s) n17 x3_17 = some r → W p l e (gRm 3 0 0) s m ([.ref (base + 82), .int p1, .int p2] : List Value).toArray below meth c H locs 0 0 Q (F0 m 34 ls []) := by
          intro n17
          induction n17 with
          | zero => intro x3_17 H locs ls hG hl hf; cases hf
          | succ n17 ih17 =>
            intro x3_17 H locs ls hG hl hf
            obtain ⟨X17, hf, hX17⟩ := while_s hf
            have hf : f_X8_judge_L34 u p1 p2 x3_17 = some X17 := hf
            unfold f_X8_judge_L34 at hf
            refine lv_iload_n hx hb dX8_judge_34 rfl (lv_at hl 3 rfl) ?_
            refine lv_aload_n hx hb dX8_judge_35 rfl (lv_at hl 0 rfl) ?_
            refine g_getI C0 hG (L82 hG) rfl 0 (by decide) rfl w_846 dX8_judge_36 ?_
            refine lv_icmp_ge (tgt := 106) hx hb dX8_judge_39 (by decide) (fun c18 => ?_) (fun c18 => ?_)
            · have hf := gif_t c18 hf
              refine lv_bipush (v := (-5 : Int32)) hx hb dX8_judge_106 (by decide) ?_
              have hf := while_r hX17 hf
              have hf := Option.some.inj hf
              subst hf
              subst hQ
              exact g_iret C0 hG hr dX8_judge_108
            · have hf := gif_f c18 hf
              refine lv_aload_n hx hb dX8_judge_42 rfl (lv_at hl 0 rfl) ?_
              refine g_getSa (o := 43) (a := 125) C0 hG (L82 hG) rfl 73 (by decide) rfl rfl w_919 dX8_judge_43 ?_
              refine lv_iload_n hx hb dX8_judge_46 rfl (lv_at hl 1 rfl) ?_
              obtain ⟨h19, hf⟩ := gin_s hf
              refine g_iald C0 hG (L125 hG) h19 dX8_judge_47 ?_
              refine lv_if_lt (tgt := 69) hx hb dX8_judge_48 (by decide) (fun c20 => ?_) (fun c20 => ?_)
              · have hf := gif_t c20 hf
                refine lv_bipush (v := (100 : Int32)) hx hb dX8_judge_69 (by decide) ?_
                refine lv_iload_n hx hb dX8_judge_71 rfl (lv_at hl 3 rfl) ?_
                refine lv_iadd hx hb dX8_judge_72 ?_
                have hf := while_r hX17 hf
                have hf := Option.some.inj hf
                subst hf
                subst hQ
                exact g_iret C0 hG hr dX8_judge_73
              · have hf := gif_f c20 hf
                refine lv_iload_n hx hb dX8_judge_51 rfl (lv_at hl 2 rfl) ?_
                refine lv_if_lt (tgt := 69) hx hb dX8_judge_52 (by decide) (fun c21 => ?_) (fun c21 => ?_)
                · have hf := gif_t c21 hf
                  refine lv_bipush (v := (100 : Int32)) hx hb dX8_judge_69 (by decide) ?_
                  refine lv_iload_n hx hb dX8_judge_71 rfl (lv_at hl 3 rfl) ?_
                  refine lv_iadd hx hb dX8_judge_72 ?_
                  have hf := while_r hX17 hf
                  have hf := Option.some.inj hf
                  subst hf
                  subst hQ
                  exact g_iret C0 hG hr dX8_judge_73
                · have hf := gif_f c21 hf
                  refine lv_iload_n hx hb dX8_judge_55 rfl (lv_at hl 2 rfl) ?_
                  refine lv_aload_n hx hb dX8_judge_56 rfl (lv_at hl 0 rfl) ?_
                  refine g_getSa (o := 44) (a := 126) C0 hG (L82 hG) rfl 74 (by decide) rfl rfl w_920 dX8_judge_57 ?_
                  refine lv_iload_n hx hb dX8_judge_60 rfl (lv_at hl 1 rfl) ?_
                  obtain ⟨h22, hf⟩ := gin_s hf
                  refine g_iald C0 hG (L126 hG) h22 dX8_judge_61 ?_
                  refine lv_iload_n hx hb dX8_judge_62 rfl (lv_at hl 3 rfl) ?_
                  refine lv_isub hx hb dX8_judge_63 ?_
                  refine lv_iconst (v := (1 : Int32)) hx hb dX8_judge_64 (by decide) ?_
                  refine lv_isub hx hb dX8_judge_65 ?_
                  refine lv_icmp_le (tgt := 74) hx hb dX8_judge_66 (by decide) (fun c23 => ?_) (fun c23 => ?_)
                  · have hf := gif_t c23 hf
                    refine lv_aload_n hx hb dX8_judge_74 rfl (lv_at hl 0 rfl) ?_
                    refine g_getSa (o := 45) (a := 127) C0 hG (L82 hG) rfl 75 (by decide) rfl rfl w_921 dX8_judge_75 ?_
                    refine lv_bipush (v := (60 : Int32)) hx hb dX8_judge_78 (by decide) ?_
                    refine lv_iload_n hx hb dX8_judge_80 rfl (lv_at hl 1 rfl) ?_
                    refine lv_imul hx hb dX8_judge_81 ?_
                    refine lv_iload_n hx hb dX8_judge_82 rfl (lv_at hl 2 rfl) ?_
                    refine lv_iadd hx hb dX8_judge_83 ?_
                    refine lv_iload_n hx hb dX8_judge_84 rfl (lv_at hl 3 rfl) ?_
                    refine lv_iadd hx hb dX8_judge_85 ?_
                    obtain ⟨h24, hf⟩ := gin_s hf
                    refine g_lald C0 hG (L127 hG) h24 dX8_judge_86 ?_
                    refine lv_aload_n hx hb dX8_judge_87 rfl (lv_at hl 0 rfl) ?_
                    refine g_getSa (o := 4) (a := 86) C0 hG (L82 hG) rfl 8 (by decide) rfl rfl w_854 dX8_judge_88 ?_
                    refine lv_iload_n hx hb dX8_judge_91 rfl (lv_at hl 3 rfl) ?_
                    obtain ⟨h25, hf⟩ := gin_s hf
                    refine g_iald C0 hG (L86 hG) h25 dX8_judge_92 ?_
                    refine lv_i2l (v := (gA u 86 x3_17.toNatClampNeg).toInt64) hx hb dX8_judge_93 rfl ?_
                    refine W.lcmp hx hb dX8_judge_94 ?_
                    refine lv_if_eq (tgt := 100) hx hb dX8_judge_95 (by decide) (fun c26 => ?_) (fun c26 => ?_)
                    · have hf := gif_t c26 hf
                      refine lv_iinc (v := x3_17 + (1 : Int32)) (lv' := [(3, .int (x3_17 + (1 : Int32))), (0, .ref (base + 82)), (1, .int p1), (2, .int p2)]) hx hb dX8_judge_100 hl (k := 3) rfl rfl (by decide) rfl (fun ls hl => ?_)
                      refine lv_goto (tgt := 34) hx hb dX8_judge_103 (by decide) ?_
                      have hf := while_l hX17 hf
                      exact ih17 (x3_17 + (1 : Int32)) _ _ ls hG (lv_sub hl [1, 2, 3, 0] rfl) hf
                    · have hf := gif_f c26 hf
                      refine lv_iload_n hx hb dX8_judge_98 rfl (lv_at hl 3 rfl) ?_
                      have hf := while_r hX17 hf
                      have hf := Option.some.inj hf
                      subst hf
                      subst hQ
                      exact g_iret C0 hG hr dX8_judge_99
                  · have hf := gif_f c23 hf
                    refine lv_bipush (v := (100 : Int32)) hx hb dX8_judge_69 (by decide) ?_
                    refine lv_iload_n hx hb dX8_judge_71 rfl (lv_at hl 3 rfl) ?_
                    refine lv_iadd hx hb dX8_judge_72 ?_
                    have hf := while_r hX17 hf
                    have hf := Option.some.inj hf
                    subst hf
                    subst hQ
                    exact g_iret C0 hG hr dX8_judge_73
        exact loop17 FUEL (0 : Int32) _ _ ls hG (lv_sub hl [1, 2, 3, 0] rfl) hf
      · have hf := gif_f c16 hf
        refine lv_bipush (v := (-12 : Int32)) hx hb dX8_judge_29 (by decide) ?_
        have hf := Option.some.inj hf
        subst hf
        subst hQ
        exact g_iret C0 hG hr dX8_judge_31
  · have hf := gif_t c2 hf
    refine lv_iconst (v := (-1 : Int32)) hx hb dX8_judge_8 (by decide) ?_
    have hf := Option.some.inj hf
    subst hf
    subst hQ
    exact g_iret C0 hG hr dX8_judge_9
