theorem dX8_gets_0 : decode cX8_gets 0 = .ok (.aload_n 0, 1) := by decide +kernel
theorem dX8_gets_1 : decode cX8_gets 1 = .ok (.iload_n 1, 1) := by decide +kernel
theorem dX8_gets_2 : decode cX8_gets 2 = .ok (.iconst 0, 1) := by decide +kernel
theorem dX8_gets_3 : decode cX8_gets 3 = .ok (.bipush 99, 2) := by decide +kernel
theorem dX8_gets_5 : decode cX8_gets 5 = .ok (.invokevirtual 249, 3) := by decide +kernel
theorem dX8_gets_8 : decode cX8_gets 8 = .ok (.ifCond .ne 6, 3) := by decide +kernel
theorem dX8_gets_11 : decode cX8_gets 11 = .ok (.bipush (-2), 2) := by decide +kernel
theorem dX8_gets_13 : decode cX8_gets 13 = .ok (.ireturn, 1) := by decide +kernel
theorem dX8_gets_14 : decode cX8_gets 14 = .ok (.aload_n 0, 1) := by decide +kernel
theorem dX8_gets_15 : decode cX8_gets 15 = .ok (.invokevirtual 367, 3) := by decide +kernel
theorem dX8_gets_18 : decode cX8_gets 18 = .ok (.iconst 0, 1) := by decide +kernel
theorem dX8_gets_19 : decode cX8_gets 19 = .ok (.istore_n 2, 1) := by decide +kernel
theorem dX8_gets_20 : decode cX8_gets 20 = .ok (.iload_n 2, 1) := by decide +kernel
theorem dX8_gets_21 : decode cX8_gets 21 = .ok (.bipush 31, 2) := by decide +kernel
theorem dX8_gets_23 : decode cX8_gets 23 = .ok (.if_icmp .ge 24, 3) := by decide +kernel
theorem dX8_gets_26 : decode cX8_gets 26 = .ok (.aload_n 0, 1) := by decide +kernel
theorem dX8_gets_27 : decode cX8_gets 27 = .ok (.getfield 19, 3) := by decide +kernel
theorem dX8_gets_30 : decode cX8_gets 30 = .ok (.bipush 50, 2) := by decide +kernel
theorem dX8_gets_32 : decode cX8_gets 32 = .ok (.iload_n 1, 1) := by decide +kernel
theorem dX8_gets_33 : decode cX8_gets 33 = .ok (.imul, 1) := by decide +kernel
theorem dX8_gets_34 : decode cX8_gets 34 = .ok (.if_icmp .ge 13, 3) := by decide +kernel
theorem dX8_gets_37 : decode cX8_gets 37 = .ok (.aload_n 0, 1) := by decide +kernel
theorem dX8_gets_38 : decode cX8_gets 38 = .ok (.invokevirtual 352, 3) := by decide +kernel
theorem dX8_gets_41 : decode cX8_gets 41 = .ok (.iinc 2 1, 3) := by decide +kernel
theorem dX8_gets_44 : decode cX8_gets 44 = .ok (.goto (-24), 3) := by decide +kernel
theorem dX8_gets_47 : decode cX8_gets 47 = .ok (.aload_n 0, 1) := by decide +kernel
theorem dX8_gets_48 : decode cX8_gets 48 = .ok (.invokevirtual 370, 3) := by decide +kernel
theorem dX8_gets_51 : decode cX8_gets 51 = .ok (.iload_n 2, 1) := by decide +kernel
theorem dX8_gets_52 : decode cX8_gets 52 = .ok (.bipush 31, 2) := by decide +kernel
theorem dX8_gets_54 : decode cX8_gets 54 = .ok (.if_icmp .ge 7, 3) := by decide +kernel
theorem dX8_gets_57 : decode cX8_gets 57 = .ok (.iload_n 2, 1) := by decide +kernel
theorem dX8_gets_58 : decode cX8_gets 58 = .ok (.goto 5, 3) := by decide +kernel
theorem dX8_gets_61 : decode cX8_gets 61 = .ok (.bipush (-5), 2) := by decide +kernel
theorem dX8_gets_63 : decode cX8_gets 63 = .ok (.ireturn, 1) := by decide +kernel
def f_X8_gets_L20 (p1 : Int32) (x2_4 : Int32) (u4 : Mem) : Option ((Int32 × Mem) ⊕ (Int32 × Mem)) := (if (31 : Int32) ≤ x2_4 then obind (f_X8_putBack u4) (fun _ u6 => some (Sum.inr ((-5 : Int32), u6))) else (if ((50 : Int32) * p1) ≤ (gI u4 82 3) then obind (f_X8_putBack u4) (fun _ u8 => some (Sum.inr (x2_4, u8))) else obind (f_X8_goMinute u4) (fun _ u9 => some (Sum.inl (x2_4 + (1 : Int32), u9)))))
def f_X8_gets (p1 : Int32) (u : Mem) : Option (Int32 × Mem) := Option.bind (f_X8_in p1 (0 : Int32) (99 : Int32)) (fun r1 => (if r1 = 0 then some ((-2 : Int32), u) else obind (f_X8_save u) (fun _ u3 => whileO (fun s => f_X8_gets_L20 p1 s.1 s.2) FUEL ((0 : Int32), u3))))
set_option maxHeartbeats 4000000 in
set_option maxRecDepth 100000 in
theorem k_X8_gets (l : Launch) (D : gDt) (base : Nat) (Z : gZt) (u : Mem) (p1 : Int32) (r : Int32) (u' : Mem) (hf : f_X8_gets p1 u = some (r, u')) : Met l yX8_gets (gws yX8_gets cX8_gets 3 (some .int)) (gRm 7 0 0) (gPc D base Z u [.ref (base + 82), .int p1]) (gQi D base r u') 0 0 (gF base) := by
  refine Met.ofW (cc := cX8_gets) (maxL := 3) (ret := some .int) (by decide) rfl ?_
  intro p e s m args below meth c s₁ B hml hv
  obtain ⟨rfl, C0, hG⟩ := g_enter B hml hv
  have hr := B.returns
  have C0 : gC p s m meth c _ cX8_gets 3 RX8 D base Z := C0
  have hx := C0.1
  have hb := C0.2.1
  have hl := lv_entry ([.ref (base + 82), .int p1]) (n := 3) (Nat.le_of_ble_eq_true rfl)
  rw [lg_entry_eq]
  generalize (lg_sl ([.ref (base + 82), .int p1]) ++ List.replicate (3 - (lg_sl ([.ref (base + 82), .int p1])).length) Slot.unset).toArray = ls at hl ⊢
  have hl : lv_has ls 3 [(0, .ref (base + 82)), (1, .int p1)] := hl
  obtain ⟨Q, hQ⟩ : ∃ Q, Q = MQ below (gQi D base r u') ([.ref (base + 82), .int p1] : List Value).toArray s 0 0 (gF base) := ⟨_, rfl⟩
  rw [← hQ]
  change W p l e (gRm 7 0 0) s m _ below meth c _ _ _ _ _ _
  unfold f_X8_gets at hf
  refine lv_aload_n hx hb dX8_gets_0 rfl (lv_at hl 0 rfl) ?_
  refine lv_iload_n hx hb dX8_gets_1 rfl (lv_at hl 1 rfl) ?_
  refine lv_iconst (v := (0 : Int32)) hx hb dX8_gets_2 (by decide) ?_
  refine lv_bipush (v := (99 : Int32)) hx hb dX8_gets_3 (by decide) ?_
  obtain ⟨r1, hc1, hf⟩ := pb_s hf
  refine g_doI0 hG (g_runV C0 hG (k_X8_in l D base Z u p1 (0 : Int32) (99 : Int32) r1 hc1) m_X8_in v_X8_in w_1082 (by decide) (g_recv C0 hG (L82 hG) rfl) rfl hl.1 rfl (Nat.le_of_ble_eq_true rfl) dX8_gets_5 ⟨Nat.zero_le _, Nat.zero_le _⟩) (fun H locs hG hk => ?_)
  refine lv_if_ne (tgt := 14) hx hb dX8_gets_8 (by decide) (fun c2 => ?_) (fun c2 => ?_)
  · have hf := gif_f c2 hf
    refine lv_aload_n hx hb dX8_gets_14 rfl (lv_at hl 0 rfl) ?_
    obtain ⟨_, u3, hc3, hf⟩ := obind_s hf
    refine g_doV0 hG (g_runV C0 hG (k_X8_save l D base Z u u3 hc3) m_X8_save v_X8_save w_1274 (by decide) (g_recv C0 hG (L82 hG) rfl) rfl hl.1 rfl (Nat.le_of_ble_eq_true rfl) dX8_gets_15 ⟨Nat.zero_le _, Nat.zero_le _⟩) (fun H locs hG hk => ?_)
    refine lv_iconst (v := (0 : Int32)) hx hb dX8_gets_18 (by decide) ?_
    refine lv_istore_n (lv' := [(2, .int (0 : Int32)), (0, .ref (base + 82)), (1, .int p1)]) hx hb dX8_gets_19 rfl hl (by decide) rfl (fun ls hl => ?_)
    have loop4 : ∀ (n4 : Nat) (x2_4 : Int32) (u4 : Mem) (H : Heap) (locs : List Loc) (ls : Array Slot), gH D base s u4 H locs → lv_has ls 3 [(0, .ref (base + 82)), (1, .int p1), (2, .int x2_4)] → whileO (fun s => f_X8_gets_L20 p1 s.1 s.2) n4 (x2_4, u4) = some (r, u') → W p l e (gRm 7 0 0) s m ([.ref (base + 82), .int p1] : List Value).toArray below meth c H locs 0 0 Q (F0 m 20 ls []) := by
      intro n4
      induction n4 with
      | zero => intro x2_4 u4 H locs ls hG hl hf; cases hf
      | succ n4 ih4 =>
        intro x2_4 u4 H locs ls hG hl hf
        obtain ⟨X4, hf, hX4⟩ := while_s hf
        have hf : f_X8_gets_L20 p1 x2_4 u4 = some X4 := hf
        unfold f_X8_gets_L20 at hf
        refine lv_iload_n hx hb dX8_gets_20 rfl (lv_at hl 2 rfl) ?_
        refine lv_bipush (v := (31 : Int32)) hx hb dX8_gets_21 (by decide) ?_
        refine lv_icmp_ge (tgt := 47) hx hb dX8_gets_23 (by decide) (fun c5 => ?_) (fun c5 => ?_)
        · have hf := gif_t c5 hf
          refine lv_aload_n hx hb dX8_gets_47 rfl (lv_at hl 0 rfl) ?_
          obtain ⟨_, u6, hc6, hf⟩ := obind_s hf
          refine g_doV0 hG (g_runV C0 hG (k_X8_putBack l D base Z u4 u6 hc6) m_X8_putBack v_X8_putBack w_1278 (by decide) (g_recv C0 hG (L82 hG) rfl) rfl hl.1 rfl (Nat.le_of_ble_eq_true rfl) dX8_gets_48 ⟨Nat.zero_le _, Nat.zero_le _⟩) (fun H locs hG hk => ?_)
          refine lv_iload_n hx hb dX8_gets_51 rfl (lv_at hl 2 rfl) ?_
          refine lv_bipush (v := (31 : Int32)) hx hb dX8_gets_52 (by decide) ?_
          refine lv_icmp_ge (tgt := 61) hx hb dX8_gets_54 (by decide) (fun _ => ?_) (fun c => absurd c5 c)
          refine lv_bipush (v := (-5 : Int32)) hx hb dX8_gets_61 (by decide) ?_
          have hf := while_r hX4 hf
          obtain ⟨hr1, hu⟩ := gret_s hf
          subst hr1
          subst hu
          subst hQ
          exact g_iret C0 hG hr dX8_gets_63
        · have hf := gif_f c5 hf
          refine lv_aload_n hx hb dX8_gets_26 rfl (lv_at hl 0 rfl) ?_
          refine g_getI C0 hG (L82 hG) rfl 3 (by decide) rfl w_849 dX8_gets_27 ?_
          refine lv_bipush (v := (50 : Int32)) hx hb dX8_gets_30 (by decide) ?_
          refine lv_iload_n hx hb dX8_gets_32 rfl (lv_at hl 1 rfl) ?_
          refine lv_imul hx hb dX8_gets_33 ?_
          refine lv_icmp_ge (tgt := 47) hx hb dX8_gets_34 (by decide) (fun c7 => ?_) (fun c7 => ?_)
          · have hf := gif_t c7 hf
            refine lv_aload_n hx hb dX8_gets_47 rfl (lv_at hl 0 rfl) ?_
            obtain ⟨_, u8, hc8, hf⟩ := obind_s hf
            refine g_doV0 hG (g_runV C0 hG (k_X8_putBack l D base Z u4 u8 hc8) m_X8_putBack v_X8_putBack w_1278 (by decide) (g_recv C0 hG (L82 hG) rfl) rfl hl.1 rfl (Nat.le_of_ble_eq_true rfl) dX8_gets_48 ⟨Nat.zero_le _, Nat.zero_le _⟩) (fun H locs hG hk => ?_)
            refine lv_iload_n hx hb dX8_gets_51 rfl (lv_at hl 2 rfl) ?_
            refine lv_bipush (v := (31 : Int32)) hx hb dX8_gets_52 (by decide) ?_
            refine lv_icmp_ge (tgt := 61) hx hb dX8_gets_54 (by decide) (fun c => absurd c c5) (fun _ => ?_)
            refine lv_iload_n hx hb dX8_gets_57 rfl (lv_at hl 2 rfl) ?_
            refine lv_goto (tgt := 63) hx hb dX8_gets_58 (by decide) ?_
            have hf := while_r hX4 hf
            obtain ⟨hr1, hu⟩ := gret_s hf
            subst hr1
            subst hu
            subst hQ
            exact g_iret C0 hG hr dX8_gets_63
          · have hf := gif_f c7 hf
            refine lv_aload_n hx hb dX8_gets_37 rfl (lv_at hl 0 rfl) ?_
            obtain ⟨_, u9, hc9, hf⟩ := obind_s hf
            refine g_doV0 hG (g_runV C0 hG (k_X8_goMinute l D base Z u4 u9 hc9) m_X8_goMinute v_X8_goMinute w_1242 (by decide) (g_recv C0 hG (L82 hG) rfl) rfl hl.1 rfl (Nat.le_of_ble_eq_true rfl) dX8_gets_38 ⟨Nat.zero_le _, Nat.zero_le _⟩) (fun H locs hG hk => ?_)
            refine lv_iinc (v := x2_4 + (1 : Int32)) (lv' := [(2, .int (x2_4 + (1 : Int32))), (0, .ref (base + 82)), (1, .int p1)]) hx hb dX8_gets_41 hl (k := 2) rfl rfl (by decide) rfl (fun ls hl => ?_)
            refine lv_goto (tgt := 20) hx hb dX8_gets_44 (by decide) ?_
            have hf := while_l hX4 hf
            exact ih4 (x2_4 + (1 : Int32)) u9 _ _ ls hG (lv_sub hl [1, 2, 0] rfl) hf
    exact loop4 FUEL (0 : Int32) u3 _ _ ls hG (lv_sub hl [1, 2, 0] rfl) hf
  · have hf := gif_t c2 hf
    refine lv_bipush (v := (-2 : Int32)) hx hb dX8_gets_11 (by decide) ?_
    obtain ⟨hr1, hu⟩ := gret_s hf
    subst hr1
    subst hu
    subst hQ
    exact g_iret C0 hG hr dX8_gets_13
theorem dX8_hears_0 : decode cX8_hears 0 = .ok (.aload_n 0, 1) := by decide +kernel
theorem dX8_hears_1 : decode cX8_hears 1 = .ok (.iload_n 1, 1) := by decide +kernel
theorem dX8_hears_2 : decode cX8_hears 2 = .ok (.invokevirtual 260, 3) := by decide +kernel
theorem dX8_hears_5 : decode cX8_hears 5 = .ok (.ifCond .eq 11, 3) := by decide +kernel
theorem dX8_hears_8 : decode cX8_hears 8 = .ok (.aload_n 0, 1) := by decide +kernel
theorem dX8_hears_9 : decode cX8_hears 9 = .ok (.iload_n 2, 1) := by decide +kernel
theorem dX8_hears_10 : decode cX8_hears 10 = .ok (.invokevirtual 267, 3) := by decide +kernel
theorem dX8_hears_13 : decode cX8_hears 13 = .ok (.ifCond .ne 5, 3) := by decide +kernel
theorem dX8_hears_16 : decode cX8_hears 16 = .ok (.iconst (-1), 1) := by decide +kernel
theorem dX8_hears_17 : decode cX8_hears 17 = .ok (.ireturn, 1) := by decide +kernel
theorem dX8_hears_18 : decode cX8_hears 18 = .ok (.aload_n 0, 1) := by decide +kernel
theorem dX8_hears_19 : decode cX8_hears 19 = .ok (.invokevirtual 367, 3) := by decide +kernel
theorem dX8_hears_22 : decode cX8_hears 22 = .ok (.iconst 0, 1) := by decide +kernel
theorem dX8_hears_23 : decode cX8_hears 23 = .ok (.istore_n 3, 1) := by decide +kernel
theorem dX8_hears_24 : decode cX8_hears 24 = .ok (.iload_n 3, 1) := by decide +kernel
theorem dX8_hears_25 : decode cX8_hears 25 = .ok (.bipush 31, 2) := by decide +kernel
theorem dX8_hears_27 : decode cX8_hears 27 = .ok (.if_icmp .ge 27, 3) := by decide +kernel
theorem dX8_hears_30 : decode cX8_hears 30 = .ok (.aload_n 0, 1) := by decide +kernel
theorem dX8_hears_31 : decode cX8_hears 31 = .ok (.aload_n 0, 1) := by decide +kernel
theorem dX8_hears_32 : decode cX8_hears 32 = .ok (.getfield 35, 3) := by decide +kernel
theorem dX8_hears_35 : decode cX8_hears 35 = .ok (.iload_n 1, 1) := by decide +kernel
theorem dX8_hears_36 : decode cX8_hears 36 = .ok (.iaload, 1) := by decide +kernel
theorem dX8_hears_37 : decode cX8_hears 37 = .ok (.iload_n 2, 1) := by decide +kernel
theorem dX8_hears_38 : decode cX8_hears 38 = .ok (.invokevirtual 245, 3) := by decide +kernel
theorem dX8_hears_41 : decode cX8_hears 41 = .ok (.ifCond .ne 13, 3) := by decide +kernel
theorem dX8_hears_44 : decode cX8_hears 44 = .ok (.aload_n 0, 1) := by decide +kernel
theorem dX8_hears_45 : decode cX8_hears 45 = .ok (.invokevirtual 352, 3) := by decide +kernel
theorem dX8_hears_48 : decode cX8_hears 48 = .ok (.iinc 3 1, 3) := by decide +kernel
theorem dX8_hears_51 : decode cX8_hears 51 = .ok (.goto (-27), 3) := by decide +kernel
theorem dX8_hears_54 : decode cX8_hears 54 = .ok (.aload_n 0, 1) := by decide +kernel
theorem dX8_hears_55 : decode cX8_hears 55 = .ok (.invokevirtual 370, 3) := by decide +kernel
theorem dX8_hears_58 : decode cX8_hears 58 = .ok (.iload_n 3, 1) := by decide +kernel
theorem dX8_hears_59 : decode cX8_hears 59 = .ok (.bipush 31, 2) := by decide +kernel
theorem dX8_hears_61 : decode cX8_hears 61 = .ok (.if_icmp .ge 7, 3) := by decide +kernel
theorem dX8_hears_64 : decode cX8_hears 64 = .ok (.iload_n 3, 1) := by decide +kernel
theorem dX8_hears_65 : decode cX8_hears 65 = .ok (.goto 5, 3) := by decide +kernel
theorem dX8_hears_68 : decode cX8_hears 68 = .ok (.bipush (-5), 2) := by decide +kernel
theorem dX8_hears_70 : decode cX8_hears 70 = .ok (.ireturn, 1) := by decide +kernel
def f_X8_hears_L24 (p1 : Int32) (p2 : Int32) (x3_6 : Int32) (u6 : Mem) : Option ((Int32 × Mem) ⊕ (Int32 × Mem)) := (if (31 : Int32) ≤ x3_6 then obind (f_X8_putBack u6) (fun _ u8 => some (Sum.inr ((-5 : Int32), u8))) else gin p1 6 (Option.bind (f_X8_has (gA u6 86 p1.toNatClampNeg) p2) (fun r10 => (if r10 = 0 then obind (f_X8_goMinute u6) (fun _ u13 => some (Sum.inl (x3_6 + (1 : Int32), u13))) else obind (f_X8_putBack u6) (fun _ u12 => some (Sum.inr (x3_6, u12)))))))
def f_X8_hears (p1 : Int32) (p2 : Int32) (u : Mem) : Option (Int32 × Mem) := Option.bind (f_X8_isOne p1 u) (fun r1 => (if r1 = 0 then some ((-1 : Int32), u) else Option.bind (f_X8_isTale p2) (fun r3 => (if r3 = 0 then some ((-1 : Int32), u) else obind (f_X8_save u) (fun _ u5 => whileO (fun s => f_X8_hears_L24 p1 p2 s.1 s.2) FUEL ((0 : Int32), u5))))))
set_option maxHeartbeats 4000000 in
set_option maxRecDepth 100000 in
theorem k_X8_hears (l : Launch) (D : gDt) (base : Nat) (Z : gZt) (u : Mem) (p1 : Int32) (p2 : Int32) (r : Int32) (u' : Mem) (hf : f_X8_hears p1 p2 u = some (r, u')) : Met l yX8_hears (gws yX8_hears cX8_hears 4 (some .int)) (gRm 7 0 0) (gPc D base Z u [.ref (base + 82), .int p1, .int p2]) (gQi D base r u') 0 0 (gF base) := by
  refine Met.ofW (cc := cX8_hears) (maxL := 4) (ret := some .int) (by decide) rfl ?_
  intro p e s m args below meth c s₁ B hml hv
  obtain ⟨rfl, C0, hG⟩ := g_enter B hml hv
  have hr := B.returns
  have C0 : gC p s m meth c _ cX8_hears 4 RX8 D base Z := C0
  have hx := C0.1
  have hb := C0.2.1
  have hl := lv_entry ([.ref (base + 82), .int p1, .int p2]) (n := 4) (Nat.le_of_ble_eq_true rfl)
  rw [lg_entry_eq]
  generalize (lg_sl ([.ref (base + 82), .int p1, .int p2]) ++ List.replicate (4 - (lg_sl ([.ref (base + 82), .int p1, .int p2])).length) Slot.unset).toArray = ls at hl ⊢
  have hl : lv_has ls 4 [(0, .ref (base + 82)), (1, .int p1), (2, .int p2)] := hl
  obtain ⟨Q, hQ⟩ : ∃ Q, Q = MQ below (gQi D base r u') ([.ref (base + 82), .int p1, .int p2] : List Value).toArray s 0 0 (gF base) := ⟨_, rfl⟩
  rw [← hQ]
  change W p l e (gRm 7 0 0) s m _ below meth c _ _ _ _ _ _
  unfold f_X8_hears at hf
  refine lv_aload_n hx hb dX8_hears_0 rfl (lv_at hl 0 rfl) ?_
  refine lv_iload_n hx hb dX8_hears_1 rfl (lv_at hl 1 rfl) ?_
  obtain ⟨r1, hc1, hf⟩ := pb_s hf
  refine g_doI0 hG (g_runV C0 hG (k_X8_isOne l D base Z u p1 r1 hc1) m_X8_isOne v_X8_isOne w_1098 (by decide) (g_recv C0 hG (L82 hG) rfl) rfl hl.1 rfl (Nat.le_of_ble_eq_true rfl) dX8_hears_2 ⟨Nat.zero_le _, Nat.zero_le _⟩) (fun H locs hG hk => ?_)
  refine lv_if_eq (tgt := 16) hx hb dX8_hears_5 (by decide) (fun c2 => ?_) (fun c2 => ?_)
  · have hf := gif_t c2 hf
    refine lv_iconst (v := (-1 : Int32)) hx hb dX8_hears_16 (by decide) ?_
    obtain ⟨hr1, hu⟩ := gret_s hf
    subst hr1
    subst hu
    subst hQ
    exact g_iret C0 hG hr dX8_hears_17
  · have hf := gif_f c2 hf
    refine lv_aload_n hx hb dX8_hears_8 rfl (lv_at hl 0 rfl) ?_
    refine lv_iload_n hx hb dX8_hears_9 rfl (lv_at hl 2 rfl) ?_
    obtain ⟨r3, hc3, hf⟩ := pb_s hf
    refine g_doI0 hG (g_runV C0 hG (k_X8_isTale l D base Z u p2 r3 hc3) m_X8_isTale v_X8_isTale w_1122 (by decide) (g_recv C0 hG (L82 hG) rfl) rfl hl.1 rfl (Nat.le_of_ble_eq_true rfl) dX8_hears_10 ⟨Nat.zero_le _, Nat.zero_le _⟩) (fun H locs hG hk => ?_)
    refine lv_if_ne (tgt := 18) hx hb dX8_hears_13 (by decide) (fun c4 => ?_) (fun c4 => ?_)
    · have hf := gif_f c4 hf
      refine lv_aload_n hx hb dX8_hears_18 rfl (lv_at hl 0 rfl) ?_
      obtain ⟨_, u5, hc5, hf⟩ := obind_s hf
      refine g_doV0 hG (g_runV C0 hG (k_X8_save l D base Z u u5 hc5) m_X8_save v_X8_save w_1274 (by decide) (g_recv C0 hG (L82 hG) rfl) rfl hl.1 rfl (Nat.le_of_ble_eq_true rfl) dX8_hears_19 ⟨Nat.zero_le _, Nat.zero_le _⟩) (fun H locs hG hk => ?_)
      refine lv_iconst (v := (0 : Int32)) hx hb dX8_hears_22 (by decide) ?_
      refine lv_istore_n (lv' := [(3, .int (0 : Int32)), (0, .ref (base + 82)), (1, .int p1), (2, .int p2)]) hx hb dX8_hears_23 rfl hl (by decide) rfl (fun ls hl => ?_)
      have loop6 : ∀ (n6 : Nat) (x3_6 : Int32) (u6 : Mem) (H : Heap) (locs : List Loc) (ls : Array Slot), gH D base s u6 H locs → lv_has ls 4 [(0, .ref (base + 82)), (1, .int p1), (2, .int p2), (3, .int x3_6)] → whileO (fun s => f_X8_hears_L24 p1 p2 s.1 s.2) n6 (x3_6, u6) = some (r, u') → W p l e (gRm 7 0 0) s m ([.ref (base + 82), .int p1, .int p2] : List Value).toArray below meth c H locs 0 0 Q (F0 m 24 ls []) := by
        intro n6
        induction n6 with
        | zero => intro x3_6 u6 H locs ls hG hl hf; cases hf
        | succ n6 ih6 =>
          intro x3_6 u6 H locs ls hG hl hf
          obtain ⟨X6, hf, hX6⟩ := while_s hf
          have hf : f_X8_hears_L24 p1 p2 x3_6 u6 = some X6 := hf
          unfold f_X8_hears_L24 at hf
          refine lv_iload_n hx hb dX8_hears_24 rfl (lv_at hl 3 rfl) ?_
          refine lv_bipush (v := (31 : Int32)) hx hb dX8_hears_25 (by decide) ?_
          refine lv_icmp_ge (tgt := 54) hx hb dX8_hears_27 (by decide) (fun c7 => ?_) (fun c7 => ?_)
          · have hf := gif_t c7 hf
            refine lv_aload_n hx hb dX8_hears_54 rfl (lv_at hl 0 rfl) ?_
            obtain ⟨_, u8, hc8, hf⟩ := obind_s hf
            refine g_doV0 hG (g_runV C0 hG (k_X8_putBack l D base Z u6 u8 hc8) m_X8_putBack v_X8_putBack w_1278 (by decide) (g_recv C0 hG (L82 hG) rfl) rfl hl.1 rfl (Nat.le_of_ble_eq_true rfl) dX8_hears_55 ⟨Nat.zero_le _, Nat.zero_le _⟩) (fun H locs hG hk => ?_)
            refine lv_iload_n hx hb dX8_hears_58 rfl (lv_at hl 3 rfl) ?_
            refine lv_bipush (v := (31 : Int32)) hx hb dX8_hears_59 (by decide) ?_
            refine lv_icmp_ge (tgt := 68) hx hb dX8_hears_61 (by decide) (fun _ => ?_) (fun c => absurd c7 c)
            refine lv_bipush (v := (-5 : Int32)) hx hb dX8_hears_68 (by decide) ?_
            have hf := while_r hX6 hf
            obtain ⟨hr1, hu⟩ := gret_s hf
            subst hr1
            subst hu
            subst hQ
            exact g_iret C0 hG hr dX8_hears_70
          · have hf := gif_f c7 hf
            refine lv_aload_n hx hb dX8_hears_30 rfl (lv_at hl 0 rfl) ?_
            refine lv_aload_n hx hb dX8_hears_31 rfl (lv_at hl 0 rfl) ?_
            refine g_getSa (o := 4) (a := 86) C0 hG (L82 hG) rfl 8 (by decide) rfl rfl w_854 dX8_hears_32 ?_
            refine lv_iload_n hx hb dX8_hears_35 rfl (lv_at hl 1 rfl) ?_
            obtain ⟨h9, hf⟩ := gin_s hf
            refine g_iald C0 hG (L86 hG) h9 dX8_hears_36 ?_
            refine lv_iload_n hx hb dX8_hears_37 rfl (lv_at hl 2 rfl) ?_
            obtain ⟨r10, hc10, hf⟩ := pb_s hf
            refine g_doI0 hG (g_runV C0 hG (k_X8_has l D base Z u6 (gA u6 86 p1.toNatClampNeg) p2 r10 hc10) m_X8_has v_X8_has w_1110 (by decide) (g_recv C0 hG (L82 hG) rfl) rfl hl.1 rfl (Nat.le_of_ble_eq_true rfl) dX8_hears_38 ⟨Nat.zero_le _, Nat.zero_le _⟩) (fun H locs hG hk => ?_)
            refine lv_if_ne (tgt := 54) hx hb dX8_hears_41 (by decide) (fun c11 => ?_) (fun c11 => ?_)
            · have hf := gif_f c11 hf
              refine lv_aload_n hx hb dX8_hears_54 rfl (lv_at hl 0 rfl) ?_
              obtain ⟨_, u12, hc12, hf⟩ := obind_s hf
              refine g_doV0 hG (g_runV C0 hG (k_X8_putBack l D base Z u6 u12 hc12) m_X8_putBack v_X8_putBack w_1278 (by decide) (g_recv C0 hG (L82 hG) rfl) rfl hl.1 rfl (Nat.le_of_ble_eq_true rfl) dX8_hears_55 ⟨Nat.zero_le _, Nat.zero_le _⟩) (fun H locs hG hk => ?_)
              refine lv_iload_n hx hb dX8_hears_58 rfl (lv_at hl 3 rfl) ?_
              refine lv_bipush (v := (31 : Int32)) hx hb dX8_hears_59 (by decide) ?_
              refine lv_icmp_ge (tgt := 68) hx hb dX8_hears_61 (by decide) (fun c => absurd c c7) (fun _ => ?_)
              refine lv_iload_n hx hb dX8_hears_64 rfl (lv_at hl 3 rfl) ?_
              refine lv_goto (tgt := 70) hx hb dX8_hears_65 (by decide) ?_
              have hf := while_r hX6 hf
              obtain ⟨hr1, hu⟩ := gret_s hf
              subst hr1
              subst hu
              subst hQ
              exact g_iret C0 hG hr dX8_hears_70
            · have hf := gif_t c11 hf
              refine lv_aload_n hx hb dX8_hears_44 rfl (lv_at hl 0 rfl) ?_
              obtain ⟨_, u13, hc13, hf⟩ := obind_s hf
              refine g_doV0 hG (g_runV C0 hG (k_X8_goMinute l D base Z u6 u13 hc13) m_X8_goMinute v_X8_goMinute w_1242 (by decide) (g_recv C0 hG (L82 hG) rfl) rfl hl.1 rfl (Nat.le_of_ble_eq_true rfl) dX8_hears_45 ⟨Nat.zero_le _, Nat.zero_le _⟩) (fun H locs hG hk => ?_)
              refine lv_iinc (v := x3_6 + (1 : Int32)) (lv' := [(3, .int (x3_6 + (1 : Int32))), (0, .ref (base + 82)), (1, .int p1), (2, .int p2)]) hx hb dX8_hears_48 hl (k := 3) rfl rfl (by decide) rfl (fun ls hl => ?_)
              refine lv_goto (tgt := 24) hx hb dX8_hears_51 (by decide) ?_
              have hf := while_l hX6 hf
              exact ih6 (x3_6 + (1 : Int32)) u13 _ _ ls hG (lv_sub hl [1, 2, 3, 0] rfl) hf
      exact loop6 FUEL (0 : Int32) u5 _ _ ls hG (lv_sub hl [1, 2, 3, 0] rfl) hf
    · have hf := gif_t c4 hf
      refine lv_iconst (v := (-1 : Int32)) hx hb dX8_hears_16 (by decide) ?_
      obtain ⟨hr1, hu⟩ := gret_s hf
      subst hr1
      subst hu
      subst hQ
      exact g_iret C0 hG hr dX8_hears_17
theorem dX8_best_0 : decode cX8_best 0 = .ok (.aload_n 0, 1) := by decide +kernel
theorem dX8_best_1 : decode cX8_best 1 = .ok (.iload_n 1, 1) := by decide +kernel
theorem dX8_best_2 : decode cX8_best 2 = .ok (.invokevirtual 260, 3) := by decide +kernel
theorem dX8_best_5 : decode cX8_best 5 = .ok (.ifCond .ne 5, 3) := by decide +kernel
theorem dX8_best_8 : decode cX8_best 8 = .ok (.iconst (-1), 1) := by decide +kernel
theorem dX8_best_9 : decode cX8_best 9 = .ok (.ireturn, 1) := by decide +kernel
theorem dX8_best_10 : decode cX8_best 10 = .ok (.aload_n 0, 1) := by decide +kernel
theorem dX8_best_11 : decode cX8_best 11 = .ok (.iload_n 2, 1) := by decide +kernel
theorem dX8_best_12 : decode cX8_best 12 = .ok (.iconst 1, 1) := by decide +kernel
theorem dX8_best_13 : decode cX8_best 13 = .ok (.bipush 10, 2) := by decide +kernel
theorem dX8_best_15 : decode cX8_best 15 = .ok (.invokevirtual 249, 3) := by decide +kernel
theorem dX8_best_18 : decode cX8_best 18 = .ok (.ifCond .ne 6, 3) := by decide +kernel
theorem dX8_best_21 : decode cX8_best 21 = .ok (.bipush (-2), 2) := by decide +kernel
theorem dX8_best_23 : decode cX8_best 23 = .ok (.ireturn, 1) := by decide +kernel
theorem dX8_best_24 : decode cX8_best 24 = .ok (.bipush (-5), 2) := by decide +kernel
theorem dX8_best_26 : decode cX8_best 26 = .ok (.istore_n 3, 1) := by decide +kernel
theorem dX8_best_27 : decode cX8_best 27 = .ok (.iconst 0, 1) := by decide +kernel
theorem dX8_best_28 : decode cX8_best 28 = .ok (.istore 4, 2) := by decide +kernel
theorem dX8_best_30 : decode cX8_best 30 = .ok (.iconst 0, 1) := by decide +kernel
theorem dX8_best_31 : decode cX8_best 31 = .ok (.istore 5, 2) := by decide +kernel
theorem dX8_best_33 : decode cX8_best 33 = .ok (.iconst 0, 1) := by decide +kernel
theorem dX8_best_34 : decode cX8_best 34 = .ok (.istore 6, 2) := by decide +kernel
theorem dX8_best_36 : decode cX8_best 36 = .ok (.iload 6, 2) := by decide +kernel
theorem dX8_best_38 : decode cX8_best 38 = .ok (.iconst 4, 1) := by decide +kernel
theorem dX8_best_39 : decode cX8_best 39 = .ok (.if_icmp .ge 81, 3) := by decide +kernel
theorem dX8_best_42 : decode cX8_best 42 = .ok (.aload_n 0, 1) := by decide +kernel
theorem dX8_best_43 : decode cX8_best 43 = .ok (.invokevirtual 367, 3) := by decide +kernel
theorem dX8_best_46 : decode cX8_best 46 = .ok (.aload_n 0, 1) := by decide +kernel
theorem dX8_best_47 : decode cX8_best 47 = .ok (.getfield 32, 3) := by decide +kernel
theorem dX8_best_50 : decode cX8_best 50 = .ok (.iload_n 1, 1) := by decide +kernel
theorem dX8_best_51 : decode cX8_best 51 = .ok (.iload 6, 2) := by decide +kernel
theorem dX8_best_53 : decode cX8_best 53 = .ok (.iastore, 1) := by decide +kernel
theorem dX8_best_54 : decode cX8_best 54 = .ok (.aload_n 0, 1) := by decide +kernel
theorem dX8_best_55 : decode cX8_best 55 = .ok (.iload_n 2, 1) := by decide +kernel
theorem dX8_best_56 : decode cX8_best 56 = .ok (.invokevirtual 358, 3) := by decide +kernel
theorem dX8_best_59 : decode cX8_best 59 = .ok (.aload_n 0, 1) := by decide +kernel
theorem dX8_best_60 : decode cX8_best 60 = .ok (.getfield 19, 3) := by decide +kernel
theorem dX8_best_63 : decode cX8_best 63 = .ok (.istore 7, 2) := by decide +kernel
theorem dX8_best_65 : decode cX8_best 65 = .ok (.aload_n 0, 1) := by decide +kernel
theorem dX8_best_66 : decode cX8_best 66 = .ok (.getfield 16, 3) := by decide +kernel
theorem dX8_best_69 : decode cX8_best 69 = .ok (.istore 8, 2) := by decide +kernel
theorem dX8_best_71 : decode cX8_best 71 = .ok (.aload_n 0, 1) := by decide +kernel
theorem dX8_best_72 : decode cX8_best 72 = .ok (.invokevirtual 370, 3) := by decide +kernel
theorem dX8_best_75 : decode cX8_best 75 = .ok (.iload_n 3, 1) := by decide +kernel
theorem dX8_best_76 : decode cX8_best 76 = .ok (.ifCond .lt 27, 3) := by decide +kernel
theorem dX8_best_79 : decode cX8_best 79 = .ok (.iload 7, 2) := by decide +kernel
theorem dX8_best_81 : decode cX8_best 81 = .ok (.iload 4, 2) := by decide +kernel
theorem dX8_best_83 : decode cX8_best 83 = .ok (.if_icmp .lt 31, 3) := by decide +kernel
theorem dX8_best_86 : decode cX8_best 86 = .ok (.iload 7, 2) := by decide +kernel
theorem dX8_best_88 : decode cX8_best 88 = .ok (.iload 4, 2) := by decide +kernel
theorem dX8_best_90 : decode cX8_best 90 = .ok (.if_icmp .ne 13, 3) := by decide +kernel
theorem dX8_best_93 : decode cX8_best 93 = .ok (.iload 8, 2) := by decide +kernel
theorem dX8_best_95 : decode cX8_best 95 = .ok (.iload 5, 2) := by decide +kernel
theorem dX8_best_97 : decode cX8_best 97 = .ok (.if_icmp .gt 6, 3) := by decide +kernel
theorem dX8_best_100 : decode cX8_best 100 = .ok (.goto 14, 3) := by decide +kernel
theorem dX8_best_103 : decode cX8_best 103 = .ok (.iload 6, 2) := by decide +kernel
theorem dX8_best_105 : decode cX8_best 105 = .ok (.istore_n 3, 1) := by decide +kernel
theorem dX8_best_106 : decode cX8_best 106 = .ok (.iload 7, 2) := by decide +kernel
theorem dX8_best_108 : decode cX8_best 108 = .ok (.istore 4, 2) := by decide +kernel
theorem dX8_best_110 : decode cX8_best 110 = .ok (.iload 8, 2) := by decide +kernel
theorem dX8_best_112 : decode cX8_best 112 = .ok (.istore 5, 2) := by decide +kernel
theorem dX8_best_114 : decode cX8_best 114 = .ok (.iinc 6 1, 3) := by decide +kernel
theorem dX8_best_117 : decode cX8_best 117 = .ok (.goto (-81), 3) := by decide +kernel
theorem dX8_best_120 : decode cX8_best 120 = .ok (.iload_n 3, 1) := by decide +kernel
theorem dX8_best_121 : decode cX8_best 121 = .ok (.ireturn, 1) := by decide +kernel
def f_X8_best_L36 (p1 : Int32) (p2 : Int32) (x3_5 : Int32) (x4_5 : Int32) (x5_5 : Int32) (x6_5 : Int32) (u5 : Mem) : Option ((Int32 × Int32 × Int32 × Int32 × Mem) ⊕ (Int32 × Mem)) := (if (4 : Int32) ≤ x6_5 then some (Sum.inr (x3_5, u5)) else obind (f_X8_save u5) (fun _ u7 => gin p1 6 (obind (f_X8_goMinutes p2 (sA u7 85 p1.toNatClampNeg x6_5)) (fun _ u9 => obind (f_X8_putBack u9) (fun _ u10 => (if x3_5 < 0 then some (Sum.inl (x6_5, (gI u9 82 3, (gI u9 82 2, (x6_5 + (1 : Int32), u10))))) else (if (gI u9 82 3) < x4_5 then some (Sum.inl (x3_5, (x4_5, (x5_5, (x6_5 + (1 : Int32), u10))))) else (if (gI u9 82 3) = x4_5 then (if x5_5 < (gI u9 82 2) then some (Sum.inl (x6_5, (gI u9 82 3, (gI u9 82 2, (x6_5 + (1 : Int32), u10))))) else some (Sum.inl (x3_5, (x4_5, (x5_5, (x6_5 + (1 : Int32), u10)))))) else some (Sum.inl (x6_5, (gI u9 82 3, (gI u9 82 2, (x6_5 + (1 : Int32), u10)))))))))))))
def f_X8_best (p1 : Int32) (p2 : Int32) (u : Mem) : Option (Int32 × Mem) := Option.bind (f_X8_isOne p1 u) (fun r1 => (if r1 = 0 then some ((-1 : Int32), u) else Option.bind (f_X8_in p2 (1 : Int32) (10 : Int32)) (fun r3 => (if r3 = 0 then some ((-2 : Int32), u) else whileO (fun s => f_X8_best_L36 p1 p2 s.1 s.2.1 s.2.2.1 s.2.2.2.1 s.2.2.2.2) FUEL ((-5 : Int32), ((0 : Int32), ((0 : Int32), ((0 : Int32), u))))))))
set_option maxHeartbeats 4000000 in
set_option maxRecDepth 100000 in
theorem k_X8_best (l : Launch) (D : gDt) (base : Nat) (Z : gZt) (u : Mem) (p1 : Int32) (p2 : Int32) (r : Int32) (u' : Mem) (hf : f_X8_best p1 p2 u = some (r, u')) : Met l yX8_best (gws yX8_best cX8_best 9 (some .int)) (gRm 8 0 0) (gPc D base Z u [.ref (base + 82), .int p1, .int p2]) (gQi D base r u') 0 0 (gF base) := by
  refine Met.ofW (cc := cX8_best) (maxL := 9) (ret := some .int) (by decide) rfl ?_
  intro p e s m args below meth c s₁ B hml hv
  obtain ⟨rfl, C0, hG⟩ := g_enter B hml hv
  have hr := B.returns
  have C0 : gC p s m meth c _ cX8_best 9 RX8 D base Z := C0
  have hx := C0.1
  have hb := C0.2.1
  have hl := lv_entry ([.ref (base + 82), .int p1, .int p2]) (n := 9) (Nat.le_of_ble_eq_true rfl)
  rw [lg_entry_eq]
  generalize (lg_sl ([.ref (base + 82), .int p1, .int p2]) ++ List.replicate (9 - (lg_sl ([.ref (base + 82), .int p1, .int p2])).length) Slot.unset).toArray = ls at hl ⊢
  have hl : lv_has ls 9 [(0, .ref (base + 82)), (1, .int p1), (2, .int p2)] := hl
  obtain ⟨Q, hQ⟩ : ∃ Q, Q = MQ below (gQi D base r u') ([.ref (base + 82), .int p1, .int p2] : List Value).toArray s 0 0 (gF base) := ⟨_, rfl⟩
  rw [← hQ]
  change W p l e (gRm 8 0 0) s m _ below meth c _ _ _ _ _ _
  unfold f_X8_best at hf
  refine lv_aload_n hx hb dX8_best_0 rfl (lv_at hl 0 rfl) ?_
  refine lv_iload_n hx hb dX8_best_1 rfl (lv_at hl 1 rfl) ?_
  obtain ⟨r1, hc1, hf⟩ := pb_s hf
  refine g_doI0 hG (g_runV C0 hG (k_X8_isOne l D base Z u p1 r1 hc1) m_X8_isOne v_X8_isOne w_1098 (by decide) (g_recv C0 hG (L82 hG) rfl) rfl hl.1 rfl (Nat.le_of_ble_eq_true rfl) dX8_best_2 ⟨Nat.zero_le _, Nat.zero_le _⟩) (fun H locs hG hk => ?_)
  refine lv_if_ne (tgt := 10) hx hb dX8_best_5 (by decide) (fun c2 => ?_) (fun c2 => ?_)
  · have hf := gif_f c2 hf
    refine lv_aload_n hx hb dX8_best_10 rfl (lv_at hl 0 rfl) ?_
    refine lv_iload_n hx hb dX8_best_11 rfl (lv_at hl 2 rfl) ?_
    refine lv_iconst (v := (1 : Int32)) hx hb dX8_best_12 (by decide) ?_
    refine lv_bipush (v := (10 : Int32)) hx hb dX8_best_13 (by decide) ?_
    obtain ⟨r3, hc3, hf⟩ := pb_s hf
    refine g_doI0 hG (g_runV C0 hG (k_X8_in l D base Z u p2 (1 : Int32) (10 : Int32) r3 hc3) m_X8_in v_X8_in w_1082 (by decide) (g_recv C0 hG (L82 hG) rfl) rfl hl.1 rfl (Nat.le_of_ble_eq_true rfl) dX8_best_15 ⟨Nat.zero_le _, Nat.zero_le _⟩) (fun H locs hG hk => ?_)
    refine lv_if_ne (tgt := 24) hx hb dX8_best_18 (by decide) (fun c4 => ?_) (fun c4 => ?_)
    · have hf := gif_f c4 hf
      refine lv_bipush (v := (-5 : Int32)) hx hb dX8_best_24 (by decide) ?_
      refine lv_istore_n (lv' := [(3, .int (-5 : Int32)), (0, .ref (base + 82)), (1, .int p1), (2, .int p2)]) hx hb dX8_best_26 rfl hl (by decide) rfl (fun ls hl => ?_)
      refine lv_iconst (v := (0 : Int32)) hx hb dX8_best_27 (by decide) ?_
      refine lv_istore (lv' := [(4, .int (0 : Int32)), (3, .int (-5 : Int32)), (0, .ref (base + 82)), (1, .int p1), (2, .int p2)]) hx hb dX8_best_28 hl (by decide) rfl (fun ls hl => ?_)
      refine lv_iconst (v := (0 : Int32)) hx hb dX8_best_30 (by decide) ?_
      refine lv_istore (lv' := [(5, .int (0 : Int32)), (4, .int (0 : Int32)), (3, .int (-5 : Int32)), (0, .ref (base + 82)), (1, .int p1), (2, .int p2)]) hx hb dX8_best_31 hl (by decide) rfl (fun ls hl => ?_)
      refine lv_iconst (v := (0 : Int32)) hx hb dX8_best_33 (by decide) ?_
      refine lv_istore (lv' := [(6, .int (0 : Int32)), (5, .int (0 : Int32)), (4, .int (0 : Int32)), (3, .int (-5 : Int32)), (0, .ref (base + 82)), (1, .int p1), (2, .int p2)]) hx hb dX8_best_34 hl (by decide) rfl (fun ls hl => ?_)
      have loop5 : ∀ (n5 : Nat) (x3_5 : Int32) (x4_5 : Int32) (x5_5 : Int32) (x6_5 : Int32) (u5 : Mem) (H : Heap) (locs : List Loc) (ls : Array Slot), gH D base s u5 H locs → lv_has ls 9 [(0, .ref (base + 82)), (1, .int p1), (2, .int p2), (3, .int x3_5), (4, .int x4_5), (5, .int x5_5), (6, .int x6_5)] → whileO (fun s => f_X8_best_L36 p1 p2 s.1 s.2.1 s.2.2.1 s.2.2.2.1 s.2.2.2.2) n5 (x3_5, (x4_5, (x5_5, (x6_5, u5)))) = some (r, u') → W p l e (gRm 8 0 0) s m ([.ref (base + 82), .int p1, .int p2] : List Value).toArray below meth c H locs 0 0 Q (F0 m 36 ls []) := by
        intro n5
        induction n5 with
        | zero => intro x3_5 x4_5 x5_5 x6_5 u5 H locs ls hG hl hf; cases hf
        | succ n5 ih5 =>
          intro x3_5 x4_5 x5_5 x6_5 u5 H locs ls hG hl hf
          obtain ⟨X5, hf, hX5⟩ := while_s hf
          have hf : f_X8_best_L36 p1 p2 x3_5 x4_5 x5_5 x6_5 u5 = some X5 := hf
          unfold f_X8_best_L36 at hf
          refine lv_iload hx hb dX8_best_36 (lv_at hl 6 rfl) ?_
          refine lv_iconst (v := (4 : Int32)) hx hb dX8_best_38 (by decide) ?_
          refine lv_icmp_ge (tgt := 120) hx hb dX8_best_39 (by decide) (fun c6 => ?_) (fun c6 => ?_)
          · have hf := gif_t c6 hf
            refine lv_iload_n hx hb dX8_best_120 rfl (lv_at hl 3 rfl) ?_
            have hf := while_r hX5 hf
            obtain ⟨hr1, hu⟩ := gret_s hf
            subst hr1
            subst hu
            subst hQ
            exact g_iret C0 hG hr dX8_best_121
          · have hf := gif_f c6 hf
            refine lv_aload_n hx hb dX8_best_42 rfl (lv_at hl 0 rfl) ?_
            obtain ⟨_, u7, hc7, hf⟩ := obind_s hf
            refine g_doV0 hG (g_runV C0 hG (k_X8_save l D base Z u5 u7 hc7) m_X8_save v_X8_save w_1274 (by decide) (g_recv C0 hG (L82 hG) rfl) rfl hl.1 rfl (Nat.le_of_ble_eq_true rfl) dX8_best_43 ⟨Nat.zero_le _, Nat.zero_le _⟩) (fun H locs hG hk => ?_)
            refine lv_aload_n hx hb dX8_best_46 rfl (lv_at hl 0 rfl) ?_
            refine g_getSa (o := 3) (a := 85) C0 hG (L82 hG) rfl 7 (by decide) rfl rfl w_853 dX8_best_47 ?_
            refine lv_iload_n hx hb dX8_best_50 rfl (lv_at hl 1 rfl) ?_
            refine lv_iload hx hb dX8_best_51 (lv_at hl 6 rfl) ?_
            obtain ⟨h8, hf⟩ := gin_s hf
            refine g_iast C0 hG (L85 hG) h8 dX8_best_53 (fun H locs hG => ?_)
            refine lv_aload_n hx hb dX8_best_54 rfl (lv_at hl 0 rfl) ?_
            refine lv_iload_n hx hb dX8_best_55 rfl (lv_at hl 2 rfl) ?_
            obtain ⟨_, u9, hc9, hf⟩ := obind_s hf
            refine g_doV0 hG (g_runV C0 hG (k_X8_goMinutes l D base Z (sA u7 85 p1.toNatClampNeg x6_5) p2 u9 hc9) m_X8_goMinutes v_X8_goMinutes w_1238 (by decide) (g_recv C0 hG (L82 hG) rfl) rfl hl.1 rfl (Nat.le_of_ble_eq_true rfl) dX8_best_56 ⟨Nat.zero_le _, Nat.zero_le _⟩) (fun H locs hG hk => ?_)
            refine lv_aload_n hx hb dX8_best_59 rfl (lv_at hl 0 rfl) ?_
            refine g_getI C0 hG (L82 hG) rfl 3 (by decide) rfl w_849 dX8_best_60 ?_
            refine lv_istore (lv' := [(7, .int (gI u9 82 3)), (0, .ref (base + 82)), (1, .int p1), (2, .int p2), (3, .int x3_5), (4, .int x4_5), (5, .int x5_5), (6, .int x6_5)]) hx hb dX8_best_63 hl (by decide) rfl (fun ls hl => ?_)
            refine lv_aload_n hx hb dX8_best_65 rfl (lv_at hl 1 rfl) ?_
            refine g_getI C0 hG (L82 hG) rfl 2 (by decide) rfl w_848 dX8_best_66 ?_
            refine lv_istore (lv' := [(8, .int (gI u9 82 2)), (7, .int (gI u9 82 3)), (0, .ref (base + 82)), (1, .int p1), (2, .int p2), (3, .int x3_5), (4, .int x4_5), (5, .int x5_5), (6, .int x6_5)]) hx hb dX8_best_69 hl (by decide) rfl (fun ls hl => ?_)
            refine lv_aload_n hx hb dX8_best_71 rfl (lv_at hl 2 rfl) ?_
            obtain ⟨_, u10, hc10, hf⟩ := obind_s hf
            refine g_doV0 hG (g_runV C0 hG (k_X8_putBack l D base Z u9 u10 hc10) m_X8_putBack v_X8_putBack w_1278 (by decide) (g_recv C0 hG (L82 hG) rfl) rfl hl.1 rfl (Nat.le_of_ble_eq_true rfl) dX8_best_72 ⟨Nat.zero_le _, Nat.zero_le _⟩) (fun H locs hG hk => ?_)
            refine lv_iload_n hx hb dX8_best_75 rfl (lv_at hl 5 rfl) ?_
            refine lv_if_lt (tgt := 103) hx hb dX8_best_76 (by decide) (fun c11 => ?_) (fun c11 => ?_)
            · have hf := gif_t c11 hf
              refine lv_iload hx hb dX8_best_103 (lv_at hl 8 rfl) ?_
              refine lv_istore_n (lv' := [(3, .int x6_5), (8, .int (gI u9 82 2)), (7, .int (gI u9 82 3)), (0, .ref (base + 82)), (1, .int p1), (2, .int p2), (4, .int x4_5), (5, .int x5_5), (6, .int x6_5)]) hx hb dX8_best_105 rfl hl (by decide) rfl (fun ls hl => ?_)
              refine lv_iload hx hb dX8_best_106 (lv_at hl 2 rfl) ?_
              refine lv_istore (lv' := [(4, .int (gI u9 82 3)), (3, .int x6_5), (8, .int (gI u9 82 2)), (7, .int (gI u9 82 3)), (0, .ref (base + 82)), (1, .int p1), (2, .int p2), (5, .int x5_5), (6, .int x6_5)]) hx hb dX8_best_108 hl (by decide) rfl (fun ls hl => ?_)
              refine lv_iload hx hb dX8_best_110 (lv_at hl 2 rfl) ?_
              refine lv_istore (lv' := [(5, .int (gI u9 82 2)), (4, .int (gI u9 82 3)), (3, .int x6_5), (8, .int (gI u9 82 2)), (7, .int (gI u9 82 3)), (0, .ref (base + 82)), (1, .int p1), (2, .int p2), (6, .int x6_5)]) hx hb dX8_best_112 hl (by decide) rfl (fun ls hl => ?_)
              refine lv_iinc (v := x6_5 + (1 : Int32)) (lv' := [(6, .int (x6_5 + (1 : Int32))), (5, .int (gI u9 82 2)), (4, .int (gI u9 82 3)), (3, .int x6_5), (8, .int (gI u9 82 2)), (7, .int (gI u9 82 3)), (0, .ref (base + 82)), (1, .int p1), (2, .int p2)]) hx hb dX8_best_114 hl (k := 8) rfl rfl (by decide) rfl (fun ls hl => ?_)
              refine lv_goto (tgt := 36) hx hb dX8_best_117 (by decide) ?_
              have hf := while_l hX5 hf
              exact ih5 x6_5 (gI u9 82 3) (gI u9 82 2) (x6_5 + (1 : Int32)) u10 _ _ ls hG (lv_sub hl [6, 7, 8, 3, 2, 1, 0] rfl) hf
            · have hf := gif_f c11 hf
              refine lv_iload hx hb dX8_best_79 (lv_at hl 1 rfl) ?_
              refine lv_iload hx hb dX8_best_81 (lv_at hl 6 rfl) ?_
              refine lv_icmp_lt (tgt := 114) hx hb dX8_best_83 (by decide) (fun c12 => ?_) (fun c12 => ?_)
              · have hf := gif_t c12 hf
                refine lv_iinc (v := x6_5 + (1 : Int32)) (lv' := [(6, .int (x6_5 + (1 : Int32))), (8, .int (gI u9 82 2)), (7, .int (gI u9 82 3)), (0, .ref (base + 82)), (1, .int p1), (2, .int p2), (3, .int x3_5), (4, .int x4_5), (5, .int x5_5)]) hx hb dX8_best_114 hl (k := 8) rfl rfl (by decide) rfl (fun ls hl => ?_)
                refine lv_goto (tgt := 36) hx hb dX8_best_117 (by decide) ?_
                have hf := while_l hX5 hf
                exact ih5 x3_5 x4_5 x5_5 (x6_5 + (1 : Int32)) u10 _ _ ls hG (lv_sub hl [3, 4, 5, 6, 7, 8, 0] rfl) hf
              · have hf := gif_f c12 hf
                refine lv_iload hx hb dX8_best_86 (lv_at hl 1 rfl) ?_
                refine lv_iload hx hb dX8_best_88 (lv_at hl 6 rfl) ?_
                refine lv_icmp_ne (tgt := 103) hx hb dX8_best_90 (by decide) (fun c13 => ?_) (fun c13 => ?_)
                · have hf := gif_f c13 hf
                  refine lv_iload hx hb dX8_best_103 (lv_at hl 8 rfl) ?_
                  refine lv_istore_n (lv' := [(3, .int x6_5), (8, .int (gI u9 82 2)), (7, .int (gI u9 82 3)), (0, .ref (base + 82)), (1, .int p1), (2, .int p2), (4, .int x4_5), (5, .int x5_5), (6, .int x6_5)]) hx hb dX8_best_105 rfl hl (by decide) rfl (fun ls hl => ?_)
                  refine lv_iload hx hb dX8_best_106 (lv_at hl 2 rfl) ?_
                  refine lv_istore (lv' := [(4, .int (gI u9 82 3)), (3, .int x6_5), (8, .int (gI u9 82 2)), (7, .int (gI u9 82 3)), (0, .ref (base + 82)), (1, .int p1), (2, .int p2), (5, .int x5_5), (6, .int x6_5)]) hx hb dX8_best_108 hl (by decide) rfl (fun ls hl => ?_)
                  refine lv_iload hx hb dX8_best_110 (lv_at hl 2 rfl) ?_
                  refine lv_istore (lv' := [(5, .int (gI u9 82 2)), (4, .int (gI u9 82 3)), (3, .int x6_5), (8, .int (gI u9 82 2)), (7, .int (gI u9 82 3)), (0, .ref (base + 82)), (1, .int p1), (2, .int p2), (6, .int x6_5)]) hx hb dX8_best_112 hl (by decide) rfl (fun ls hl => ?_)
                  refine lv_iinc (v := x6_5 + (1 : Int32)) (lv' := [(6, .int (x6_5 + (1 : Int32))), (5, .int (gI u9 82 2)), (4, .int (gI u9 82 3)), (3, .int x6_5), (8, .int (gI u9 82 2)), (7, .int (gI u9 82 3)), (0, .ref (base + 82)), (1, .int p1), (2, .int p2)]) hx hb dX8_best_114 hl (k := 8) rfl rfl (by decide) rfl (fun ls hl => ?_)
                  refine lv_goto (tgt := 36) hx hb dX8_best_117 (by decide) ?_
                  have hf := while_l hX5 hf
                  exact ih5 x6_5 (gI u9 82 3) (gI u9 82 2) (x6_5 + (1 : Int32)) u10 _ _ ls hG (lv_sub hl [6, 7, 8, 3, 2, 1, 0] rfl) hf
                · have hf := gif_t c13 hf
                  refine lv_iload hx hb dX8_best_93 (lv_at hl 0 rfl) ?_
                  refine lv_iload hx hb dX8_best_95 (lv_at hl 7 rfl) ?_
                  refine lv_icmp_gt (tgt := 103) hx hb dX8_best_97 (by decide) (fun c14 => ?_) (fun c14 => ?_)
                  · have hf := gif_t c14 hf
                    refine lv_iload hx hb dX8_best_103 (lv_at hl 8 rfl) ?_
                    refine lv_istore_n (lv' := [(3, .int x6_5), (8, .int (gI u9 82 2)), (7, .int (gI u9 82 3)), (0, .ref (base + 82)), (1, .int p1), (2, .int p2), (4, .int x4_5), (5, .int x5_5), (6, .int x6_5)]) hx hb dX8_best_105 rfl hl (by decide) rfl (fun ls hl => ?_)
                    refine lv_iload hx hb dX8_best_106 (lv_at hl 2 rfl) ?_
                    refine lv_istore (lv' := [(4, .int (gI u9 82 3)), (3, .int x6_5), (8, .int (gI u9 82 2)), (7, .int (gI u9 82 3)), (0, .ref (base + 82)), (1, .int p1), (2, .int p2), (5, .int x5_5), (6, .int x6_5)]) hx hb dX8_best_108 hl (by decide) rfl (fun ls hl => ?_)
                    refine lv_iload hx hb dX8_best_110 (lv_at hl 2 rfl) ?_
                    refine lv_istore (lv' := [(5, .int (gI u9 82 2)), (4, .int (gI u9 82 3)), (3, .int x6_5), (8, .int (gI u9 82 2)), (7, .int (gI u9 82 3)), (0, .ref (base + 82)), (1, .int p1), (2, .int p2), (6, .int x6_5)]) hx hb dX8_best_112 hl (by decide) rfl (fun ls hl => ?_)
                    refine lv_iinc (v := x6_5 + (1 : Int32)) (lv' := [(6, .int (x6_5 + (1 : Int32))), (5, .int (gI u9 82 2)), (4, .int (gI u9 82 3)), (3, .int x6_5), (8, .int (gI u9 82 2)), (7, .int (gI u9 82 3)), (0, .ref (base + 82)), (1, .int p1), (2, .int p2)]) hx hb dX8_best_114 hl (k := 8) rfl rfl (by decide) rfl (fun ls hl => ?_)
                    refine lv_goto (tgt := 36) hx hb dX8_best_117 (by decide) ?_
                    have hf := while_l hX5 hf
                    exact ih5 x6_5 (gI u9 82 3) (gI u9 82 2) (x6_5 + (1 : Int32)) u10 _ _ ls hG (lv_sub hl [6, 7, 8, 3, 2, 1, 0] rfl) hf
                  · have hf := gif_f c14 hf
                    refine lv_goto (tgt := 114) hx hb dX8_best_100 (by decide) ?_
                    refine lv_iinc (v := x6_5 + (1 : Int32)) (lv' := [(6, .int (x6_5 + (1 : Int32))), (8, .int (gI u9 82 2)), (7, .int (gI u9 82 3)), (0, .ref (base + 82)), (1, .int p1), (2, .int p2), (3, .int x3_5), (4, .int x4_5), (5, .int x5_5)]) hx hb dX8_best_114 hl (k := 8) rfl rfl (by decide) rfl (fun ls hl => ?_)
                    refine lv_goto (tgt := 36) hx hb dX8_best_117 (by decide) ?_
                    have hf := while_l hX5 hf
                    exact ih5 x3_5 x4_5 x5_5 (x6_5 + (1 : Int32)) u10 _ _ ls hG (lv_sub hl [3, 4, 5, 6, 7, 8, 0] rfl) hf
      exact loop5 FUEL (-5 : Int32) (0 : Int32) (0 : Int32) (0 : Int32) u _ _ ls hG (lv_sub hl [4, 5, 6, 3, 2, 1, 0] rfl) hf
    · have hf := gif_t c4 hf
      refine lv_bipush (v := (-2 : Int32)) hx hb dX8_best_21 (by decide) ?_
      obtain ⟨hr1, hu⟩ := gret_s hf
      subst hr1
      subst hu
      subst hQ
      exact g_iret C0 hG hr dX8_best_23
  · have hf := gif_t c2 hf
    refine lv_iconst (v := (-1 : Int32)) hx hb dX8_best_8 (by decide) ?_
    obtain ⟨hr1, hu⟩ := gret_s hf
    subst hr1
    subst hu
    subst hQ
    exact g_iret C0 hG hr dX8_best_9
theorem dX8_spotSwapped_0 : decode cX8_spotSwapped 0 = .ok (.aload_n 0, 1) := by decide +kernel
theorem dX8_spotSwapped_1 : decode cX8_spotSwapped 1 = .ok (.invokevirtual 367, 3) := by decide +kernel
theorem dX8_spotSwapped_4 : decode cX8_spotSwapped 4 = .ok (.aload_n 0, 1) := by decide +kernel
theorem dX8_spotSwapped_5 : decode cX8_spotSwapped 5 = .ok (.getfield 32, 3) := by decide +kernel
theorem dX8_spotSwapped_8 : decode cX8_spotSwapped 8 = .ok (.iload_n 1, 1) := by decide +kernel
theorem dX8_spotSwapped_9 : decode cX8_spotSwapped 9 = .ok (.iaload, 1) := by decide +kernel
theorem dX8_spotSwapped_10 : decode cX8_spotSwapped 10 = .ok (.istore 4, 2) := by decide +kernel
theorem dX8_spotSwapped_12 : decode cX8_spotSwapped 12 = .ok (.aload_n 0, 1) := by decide +kernel
theorem dX8_spotSwapped_13 : decode cX8_spotSwapped 13 = .ok (.getfield 32, 3) := by decide +kernel
theorem dX8_spotSwapped_16 : decode cX8_spotSwapped 16 = .ok (.iload_n 1, 1) := by decide +kernel
theorem dX8_spotSwapped_17 : decode cX8_spotSwapped 17 = .ok (.aload_n 0, 1) := by decide +kernel
theorem dX8_spotSwapped_18 : decode cX8_spotSwapped 18 = .ok (.getfield 32, 3) := by decide +kernel
theorem dX8_spotSwapped_21 : decode cX8_spotSwapped 21 = .ok (.iload_n 2, 1) := by decide +kernel
theorem dX8_spotSwapped_22 : decode cX8_spotSwapped 22 = .ok (.iaload, 1) := by decide +kernel
theorem dX8_spotSwapped_23 : decode cX8_spotSwapped 23 = .ok (.iastore, 1) := by decide +kernel
theorem dX8_spotSwapped_24 : decode cX8_spotSwapped 24 = .ok (.aload_n 0, 1) := by decide +kernel
theorem dX8_spotSwapped_25 : decode cX8_spotSwapped 25 = .ok (.getfield 32, 3) := by decide +kernel
theorem dX8_spotSwapped_28 : decode cX8_spotSwapped 28 = .ok (.iload_n 2, 1) := by decide +kernel
theorem dX8_spotSwapped_29 : decode cX8_spotSwapped 29 = .ok (.iload 4, 2) := by decide +kernel
theorem dX8_spotSwapped_31 : decode cX8_spotSwapped 31 = .ok (.iastore, 1) := by decide +kernel
theorem dX8_spotSwapped_32 : decode cX8_spotSwapped 32 = .ok (.aload_n 0, 1) := by decide +kernel
theorem dX8_spotSwapped_33 : decode cX8_spotSwapped 33 = .ok (.iload_n 3, 1) := by decide +kernel
theorem dX8_spotSwapped_34 : decode cX8_spotSwapped 34 = .ok (.invokevirtual 358, 3) := by decide +kernel
theorem dX8_spotSwapped_37 : decode cX8_spotSwapped 37 = .ok (.aload_n 0, 1) := by decide +kernel
theorem dX8_spotSwapped_38 : decode cX8_spotSwapped 38 = .ok (.getfield 19, 3) := by decide +kernel
theorem dX8_spotSwapped_41 : decode cX8_spotSwapped 41 = .ok (.istore 5, 2) := by decide +kernel
theorem dX8_spotSwapped_43 : decode cX8_spotSwapped 43 = .ok (.aload_n 0, 1) := by decide +kernel
theorem dX8_spotSwapped_44 : decode cX8_spotSwapped 44 = .ok (.invokevirtual 370, 3) := by decide +kernel
theorem dX8_spotSwapped_47 : decode cX8_spotSwapped 47 = .ok (.iload 5, 2) := by decide +kernel
theorem dX8_spotSwapped_49 : decode cX8_spotSwapped 49 = .ok (.ireturn, 1) := by decide +kernel
def f_X8_spotSwapped (p1 : Int32) (p2 : Int32) (p3 : Int32) (u : Mem) : Option (Int32 × Mem) := obind (f_X8_save u) (fun _ u1 => gin p1 6 (gin p2 6 (gin p1 6 (gin p2 6 (obind (f_X8_goMinutes p3 (sA (sA u1 85 p1.toNatClampNeg (gA u1 85 p2.toNatClampNeg)) 85 p2.toNatClampNeg (gA u1 85 p1.toNatClampNeg))) (fun _ u6 => obind (f_X8_putBack u6) (fun _ u7 => some (gI u6 82 3, u7))))))))
set_option maxHeartbeats 4000000 in
set_option maxRecDepth 100000 in
theorem k_X8_spotSwapped (l : Launch) (D : gDt) (base : Nat) (Z : gZt) (u : Mem) (p1 : Int32) (p2 : Int32) (p3 : Int32) (r : Int32) (u' : Mem) (hf : f_X8_spotSwapped p1 p2 p3 u = some (r, u')) : Met l yX8_spotSwapped (gws yX8_spotSwapped cX8_spotSwapped 6 (some .int)) (gRm 8 0 0) (gPc D base Z u [.ref (base + 82), .int p1, .int p2, .int p3]) (gQi D base r u') 0 0 (gF base) := by
  refine Met.ofW (cc := cX8_spotSwapped) (maxL := 6) (ret := some .int) (by decide) rfl ?_
  intro p e s m args below meth c s₁ B hml hv
  obtain ⟨rfl, C0, hG⟩ := g_enter B hml hv
  have hr := B.returns
  have C0 : gC p s m meth c _ cX8_spotSwapped 6 RX8 D base Z := C0
  have hx := C0.1
  have hb := C0.2.1
  have hl := lv_entry ([.ref (base + 82), .int p1, .int p2, .int p3]) (n := 6) (Nat.le_of_ble_eq_true rfl)
  rw [lg_entry_eq]
  generalize (lg_sl ([.ref (base + 82), .int p1, .int p2, .int p3]) ++ List.replicate (6 - (lg_sl ([.ref (base + 82), .int p1, .int p2, .int p3])).length) Slot.unset).toArray = ls at hl ⊢
  have hl : lv_has ls 6 [(0, .ref (base + 82)), (1, .int p1), (2, .int p2), (3, .int p3)] := hl
  obtain ⟨Q, hQ⟩ : ∃ Q, Q = MQ below (gQi D base r u') ([.ref (base + 82), .int p1, .int p2, .int p3] : List Value).toArray s 0 0 (gF base) := ⟨_, rfl⟩
  rw [← hQ]
  change W p l e (gRm 8 0 0) s m _ below meth c _ _ _ _ _ _
  unfold f_X8_spotSwapped at hf
  refine lv_aload_n hx hb dX8_spotSwapped_0 rfl (lv_at hl 0 rfl) ?_
  obtain ⟨_, u1, hc1, hf⟩ := obind_s hf
  refine g_doV0 hG (g_runV C0 hG (k_X8_save l D base Z u u1 hc1) m_X8_save v_X8_save w_1274 (by decide) (g_recv C0 hG (L82 hG) rfl) rfl hl.1 rfl (Nat.le_of_ble_eq_true rfl) dX8_spotSwapped_1 ⟨Nat.zero_le _, Nat.zero_le _⟩) (fun H locs hG hk => ?_)
  refine lv_aload_n hx hb dX8_spotSwapped_4 rfl (lv_at hl 0 rfl) ?_
  refine g_getSa (o := 3) (a := 85) C0 hG (L82 hG) rfl 7 (by decide) rfl rfl w_853 dX8_spotSwapped_5 ?_
  refine lv_iload_n hx hb dX8_spotSwapped_8 rfl (lv_at hl 1 rfl) ?_
  obtain ⟨h2, hf⟩ := gin_s hf
  refine g_iald C0 hG (L85 hG) h2 dX8_spotSwapped_9 ?_
  refine lv_istore (lv' := [(4, .int (gA u1 85 p1.toNatClampNeg)), (0, .ref (base + 82)), (1, .int p1), (2, .int p2), (3, .int p3)]) hx hb dX8_spotSwapped_10 hl (by decide) rfl (fun ls hl => ?_)
  refine lv_aload_n hx hb dX8_spotSwapped_12 rfl (lv_at hl 1 rfl) ?_
  refine g_getSa (o := 3) (a := 85) C0 hG (L82 hG) rfl 7 (by decide) rfl rfl w_853 dX8_spotSwapped_13 ?_
  refine lv_iload_n hx hb dX8_spotSwapped_16 rfl (lv_at hl 2 rfl) ?_
  refine lv_aload_n hx hb dX8_spotSwapped_17 rfl (lv_at hl 1 rfl) ?_
  refine g_getSa (o := 3) (a := 85) C0 hG (L82 hG) rfl 7 (by decide) rfl rfl w_853 dX8_spotSwapped_18 ?_
  refine lv_iload_n hx hb dX8_spotSwapped_21 rfl (lv_at hl 3 rfl) ?_
  obtain ⟨h3, hf⟩ := gin_s hf
  refine g_iald C0 hG (L85 hG) h3 dX8_spotSwapped_22 ?_
  obtain ⟨h4, hf⟩ := gin_s hf
  refine g_iast C0 hG (L85 hG) h4 dX8_spotSwapped_23 (fun H locs hG => ?_)
  refine lv_aload_n hx hb dX8_spotSwapped_24 rfl (lv_at hl 1 rfl) ?_
  refine g_getSa (o := 3) (a := 85) C0 hG (L82 hG) rfl 7 (by decide) rfl rfl w_853 dX8_spotSwapped_25 ?_
  refine lv_iload_n hx hb dX8_spotSwapped_28 rfl (lv_at hl 3 rfl) ?_
  refine lv_iload hx hb dX8_spotSwapped_29 (lv_at hl 0 rfl) ?_
  obtain ⟨h5, hf⟩ := gin_s hf
  refine g_iast C0 hG (L85 hG) h5 dX8_spotSwapped_31 (fun H locs hG => ?_)
  refine lv_aload_n hx hb dX8_spotSwapped_32 rfl (lv_at hl 1 rfl) ?_
  refine lv_iload_n hx hb dX8_spotSwapped_33 rfl (lv_at hl 4 rfl) ?_
  obtain ⟨_, u6, hc6, hf⟩ := obind_s hf
  refine g_doV0 hG (g_runV C0 hG (k_X8_goMinutes l D base Z (sA (sA u1 85 p1.toNatClampNeg (gA u1 85 p2.toNatClampNeg)) 85 p2.toNatClampNeg (gA u1 85 p1.toNatClampNeg)) p3 u6 hc6) m_X8_goMinutes v_X8_goMinutes w_1238 (by decide) (g_recv C0 hG (L82 hG) rfl) rfl hl.1 rfl (Nat.le_of_ble_eq_true rfl) dX8_spotSwapped_34 ⟨Nat.zero_le _, Nat.zero_le _⟩) (fun H locs hG hk => ?_)
  refine lv_aload_n hx hb dX8_spotSwapped_37 rfl (lv_at hl 1 rfl) ?_
  refine g_getI C0 hG (L82 hG) rfl 3 (by decide) rfl w_849 dX8_spotSwapped_38 ?_
  refine lv_istore (lv' := [(5, .int (gI u6 82 3)), (4, .int (gA u1 85 p1.toNatClampNeg)), (0, .ref (base + 82)), (1, .int p1), (2, .int p2), (3, .int p3)]) hx hb dX8_spotSwapped_41 hl (by decide) rfl (fun ls hl => ?_)
  refine lv_aload_n hx hb dX8_spotSwapped_43 rfl (lv_at hl 2 rfl) ?_
  obtain ⟨_, u7, hc7, hf⟩ := obind_s hf
  refine g_doV0 hG (g_runV C0 hG (k_X8_putBack l D base Z u6 u7 hc7) m_X8_putBack v_X8_putBack w_1278 (by decide) (g_recv C0 hG (L82 hG) rfl) rfl hl.1 rfl (Nat.le_of_ble_eq_true rfl) dX8_spotSwapped_44 ⟨Nat.zero_le _, Nat.zero_le _⟩) (fun H locs hG hk => ?_)
  refine lv_iload hx hb dX8_spotSwapped_47 (lv_at hl 0 rfl) ?_
  obtain ⟨hr1, hu⟩ := gret_s hf
  subst hr1
  subst hu
  subst hQ
  exact g_iret C0 hG hr dX8_spotSwapped_49
theorem dX8_swap_0 : decode cX8_swap 0 = .ok (.aload_n 0, 1) := by decide +kernel
theorem dX8_swap_1 : decode cX8_swap 1 = .ok (.iload_n 1, 1) := by decide +kernel
theorem dX8_swap_2 : decode cX8_swap 2 = .ok (.iconst 1, 1) := by decide +kernel
theorem dX8_swap_3 : decode cX8_swap 3 = .ok (.bipush 10, 2) := by decide +kernel
theorem dX8_swap_5 : decode cX8_swap 5 = .ok (.invokevirtual 249, 3) := by decide +kernel
theorem dX8_swap_8 : decode cX8_swap 8 = .ok (.ifCond .ne 6, 3) := by decide +kernel
theorem dX8_swap_11 : decode cX8_swap 11 = .ok (.bipush (-2), 2) := by decide +kernel
theorem dX8_swap_13 : decode cX8_swap 13 = .ok (.ireturn, 1) := by decide +kernel
theorem dX8_swap_14 : decode cX8_swap 14 = .ok (.bipush (-5), 2) := by decide +kernel
theorem dX8_swap_16 : decode cX8_swap 16 = .ok (.istore_n 2, 1) := by decide +kernel
theorem dX8_swap_17 : decode cX8_swap 17 = .ok (.aload_n 0, 1) := by decide +kernel
theorem dX8_swap_18 : decode cX8_swap 18 = .ok (.iload_n 1, 1) := by decide +kernel
theorem dX8_swap_19 : decode cX8_swap 19 = .ok (.iconst 1, 1) := by decide +kernel
theorem dX8_swap_20 : decode cX8_swap 20 = .ok (.invokevirtual 373, 3) := by decide +kernel
theorem dX8_swap_23 : decode cX8_swap 23 = .ok (.istore_n 3, 1) := by decide +kernel
theorem dX8_swap_24 : decode cX8_swap 24 = .ok (.iconst 0, 1) := by decide +kernel
theorem dX8_swap_25 : decode cX8_swap 25 = .ok (.istore 4, 2) := by decide +kernel
theorem dX8_swap_27 : decode cX8_swap 27 = .ok (.iload 4, 2) := by decide +kernel
theorem dX8_swap_29 : decode cX8_swap 29 = .ok (.aload_n 0, 1) := by decide +kernel
theorem dX8_swap_30 : decode cX8_swap 30 = .ok (.getfield 7, 3) := by decide +kernel
theorem dX8_swap_33 : decode cX8_swap 33 = .ok (.if_icmp .ge 62, 3) := by decide +kernel
theorem dX8_swap_36 : decode cX8_swap 36 = .ok (.iload 4, 2) := by decide +kernel
theorem dX8_swap_38 : decode cX8_swap 38 = .ok (.iconst 1, 1) := by decide +kernel
theorem dX8_swap_39 : decode cX8_swap 39 = .ok (.iadd, 1) := by decide +kernel
theorem dX8_swap_40 : decode cX8_swap 40 = .ok (.istore 5, 2) := by decide +kernel
theorem dX8_swap_42 : decode cX8_swap 42 = .ok (.iload 5, 2) := by decide +kernel
theorem dX8_swap_44 : decode cX8_swap 44 = .ok (.aload_n 0, 1) := by decide +kernel
theorem dX8_swap_45 : decode cX8_swap 45 = .ok (.getfield 7, 3) := by decide +kernel
theorem dX8_swap_48 : decode cX8_swap 48 = .ok (.if_icmp .ge 41, 3) := by decide +kernel
theorem dX8_swap_51 : decode cX8_swap 51 = .ok (.aload_n 0, 1) := by decide +kernel
theorem dX8_swap_52 : decode cX8_swap 52 = .ok (.iload 4, 2) := by decide +kernel
theorem dX8_swap_54 : decode cX8_swap 54 = .ok (.iload 5, 2) := by decide +kernel
theorem dX8_swap_56 : decode cX8_swap 56 = .ok (.iload_n 1, 1) := by decide +kernel
theorem dX8_swap_57 : decode cX8_swap 57 = .ok (.invokevirtual 376, 3) := by decide +kernel
theorem dX8_swap_60 : decode cX8_swap 60 = .ok (.istore 6, 2) := by decide +kernel
theorem dX8_swap_62 : decode cX8_swap 62 = .ok (.iload 6, 2) := by decide +kernel
theorem dX8_swap_64 : decode cX8_swap 64 = .ok (.iload_n 3, 1) := by decide +kernel
theorem dX8_swap_65 : decode cX8_swap 65 = .ok (.if_icmp .gt 6, 3) := by decide +kernel
theorem dX8_swap_68 : decode cX8_swap 68 = .ok (.goto 15, 3) := by decide +kernel
theorem dX8_swap_71 : decode cX8_swap 71 = .ok (.bipush 10, 2) := by decide +kernel
theorem dX8_swap_73 : decode cX8_swap 73 = .ok (.iload 4, 2) := by decide +kernel
theorem dX8_swap_75 : decode cX8_swap 75 = .ok (.imul, 1) := by decide +kernel
theorem dX8_swap_76 : decode cX8_swap 76 = .ok (.iload 5, 2) := by decide +kernel
theorem dX8_swap_78 : decode cX8_swap 78 = .ok (.iadd, 1) := by decide +kernel
theorem dX8_swap_79 : decode cX8_swap 79 = .ok (.istore_n 2, 1) := by decide +kernel
theorem dX8_swap_80 : decode cX8_swap 80 = .ok (.iload 6, 2) := by decide +kernel
theorem dX8_swap_82 : decode cX8_swap 82 = .ok (.istore_n 3, 1) := by decide +kernel
theorem dX8_swap_83 : decode cX8_swap 83 = .ok (.iinc 5 1, 3) := by decide +kernel
theorem dX8_swap_86 : decode cX8_swap 86 = .ok (.goto (-44), 3) := by decide +kernel
theorem dX8_swap_89 : decode cX8_swap 89 = .ok (.iinc 4 1, 3) := by decide +kernel
theorem dX8_swap_92 : decode cX8_swap 92 = .ok (.goto (-65), 3) := by decide +kernel
theorem dX8_swap_95 : decode cX8_swap 95 = .ok (.iload_n 2, 1) := by decide +kernel
theorem dX8_swap_96 : decode cX8_swap 96 = .ok (.ireturn, 1) := by decide +kernel
def f_X8_swap_L42 (p1 : Int32) (x2_6 : Int32) (x3_6 : Int32) (x4_6 : Int32) (x5_6 : Int32) (u6 : Mem) : Option ((Int32 × Int32 × Int32 × Int32 × Mem) ⊕ ((Int32 × Int32 × Int32 × Mem) ⊕ (Int32 × Mem))) := (if (gI u6 82 0) ≤ x5_6 then some (Sum.inr (Sum.inl (x2_6, (x3_6, (x4_6 + (1 : Int32), u6))))) else obind (f_X8_spotSwapped x4_6 x5_6 p1 u6) (fun r8 u8 => (if x3_6 < r8 then some (Sum.inl (((10 : Int32) * x4_6) + x5_6, (r8, (x4_6, (x5_6 + (1 : Int32), u8))))) else some (Sum.inl (x2_6, (x3_6, (x4_6, (x5_6 + (1 : Int32), u8))))))))
def f_X8_swap_L27 (p1 : Int32) (x2_4 : Int32) (x3_4 : Int32) (x4_4 : Int32) (u4 : Mem) : Option ((Int32 × Int32 × Int32 × Mem) ⊕ (Int32 × Mem)) := (if (gI u4 82 0) ≤ x4_4 then some (Sum.inr (x2_4, u4)) else whileO (fun s => f_X8_swap_L42 p1 s.1 s.2.1 s.2.2.1 s.2.2.2.1 s.2.2.2.2) FUEL (x2_4, (x3_4, (x4_4, (x4_4 + (1 : Int32), u4)))))
def f_X8_swap (p1 : Int32) (u : Mem) : Option (Int32 × Mem) := Option.bind (f_X8_in p1 (1 : Int32) (10 : Int32)) (fun r1 => (if r1 = 0 then some ((-2 : Int32), u) else obind (f_X8_on p1 (1 : Int32) u) (fun r3 u3 => whileO (fun s => f_X8_swap_L27 p1 s.1 s.2.1 s.2.2.1 s.2.2.2) FUEL ((-5 : Int32), (r3, ((0 : Int32), u3))))))
set_option maxHeartbeats 4000000 in
set_option maxRecDepth 100000 in
theorem k_X8_swap (l : Launch) (D : gDt) (base : Nat) (Z : gZt) (u : Mem) (p1 : Int32) (r : Int32) (u' : Mem) (hf : f_X8_swap p1 u = some (r, u')) : Met l yX8_swap (gws yX8_swap cX8_swap 7 (some .int)) (gRm 9 0 0) (gPc D base Z u [.ref (base + 82), .int p1]) (gQi D base r u') 0 0 (gF base) := by
  refine Met.ofW (cc := cX8_swap) (maxL := 7) (ret := some .int) (by decide) rfl ?_
  intro p e s m args below meth c s₁ B hml hv
  obtain ⟨rfl, C0, hG⟩ := g_enter B hml hv
  have hr := B.returns
  have C0 : gC p s m meth c _ cX8_swap 7 RX8 D base Z := C0
  have hx := C0.1
  have hb := C0.2.1
  have hl := lv_entry ([.ref (base + 82), .int p1]) (n := 7) (Nat.le_of_ble_eq_true rfl)
  rw [lg_entry_eq]
  generalize (lg_sl ([.ref (base + 82), .int p1]) ++ List.replicate (7 - (lg_sl ([.ref (base + 82), .int p1])).length) Slot.unset).toArray = ls at hl ⊢
  have hl : lv_has ls 7 [(0, .ref (base + 82)), (1, .int p1)] := hl
  obtain ⟨Q, hQ⟩ : ∃ Q, Q = MQ below (gQi D base r u') ([.ref (base + 82), .int p1] : List Value).toArray s 0 0 (gF base) := ⟨_, rfl⟩
  rw [← hQ]
  change W p l e (gRm 9 0 0) s m _ below meth c _ _ _ _ _ _
  unfold f_X8_swap at hf
  refine lv_aload_n hx hb dX8_swap_0 rfl (lv_at hl 0 rfl) ?_
  refine lv_iload_n hx hb dX8_swap_1 rfl (lv_at hl 1 rfl) ?_
  refine lv_iconst (v := (1 : Int32)) hx hb dX8_swap_2 (by decide) ?_
  refine lv_bipush (v := (10 : Int32)) hx hb dX8_swap_3 (by decide) ?_
  obtain ⟨r1, hc1, hf⟩ := pb_s hf
  refine g_doI0 hG (g_runV C0 hG (k_X8_in l D base Z u p1 (1 : Int32) (10 : Int32) r1 hc1) m_X8_in v_X8_in w_1082 (by decide) (g_recv C0 hG (L82 hG) rfl) rfl hl.1 rfl (Nat.le_of_ble_eq_true rfl) dX8_swap_5 ⟨Nat.zero_le _, Nat.zero_le _⟩) (fun H locs hG hk => ?_)
  refine lv_if_ne (tgt := 14) hx hb dX8_swap_8 (by decide) (fun c2 => ?_) (fun c2 => ?_)
  · have hf := gif_f c2 hf
    refine lv_bipush (v := (-5 : Int32)) hx hb dX8_swap_14 (by decide) ?_
    refine lv_istore_n (lv' := [(2, .int (-5 : Int32)), (0, .ref (base + 82)), (1, .int p1)]) hx hb dX8_swap_16 rfl hl (by decide) rfl (fun ls hl => ?_)
    refine lv_aload_n hx hb dX8_swap_17 rfl (lv_at hl 1 rfl) ?_
    refine lv_iload_n hx hb dX8_swap_18 rfl (lv_at hl 2 rfl) ?_
    refine lv_iconst (v := (1 : Int32)) hx hb dX8_swap_19 (by decide) ?_
    obtain ⟨r3, u3, hc3, hf⟩ := obind_s hf
    refine g_doI0 hG (g_runV C0 hG (k_X8_on l D base Z u p1 (1 : Int32) r3 u3 hc3) m_X8_on v_X8_on w_1298 (by decide) (g_recv C0 hG (L82 hG) rfl) rfl hl.1 rfl (Nat.le_of_ble_eq_true rfl) dX8_swap_20 ⟨Nat.zero_le _, Nat.zero_le _⟩) (fun H locs hG hk => ?_)
    refine lv_istore_n (lv' := [(3, .int r3), (2, .int (-5 : Int32)), (0, .ref (base + 82)), (1, .int p1)]) hx hb dX8_swap_23 rfl hl (by decide) rfl (fun ls hl => ?_)
    refine lv_iconst (v := (0 : Int32)) hx hb dX8_swap_24 (by decide) ?_
    refine lv_istore (lv' := [(4, .int (0 : Int32)), (3, .int r3), (2, .int (-5 : Int32)), (0, .ref (base + 82)), (1, .int p1)]) hx hb dX8_swap_25 hl (by decide) rfl (fun ls hl => ?_)
    have loop4 : ∀ (n4 : Nat) (x2_4 : Int32) (x3_4 : Int32) (x4_4 : Int32) (u4 : Mem) (H : Heap) (locs : List Loc) (ls : Array Slot), gH D base s u4 H locs → lv_has ls 7 [(0, .ref (base + 82)), (1, .int p1), (2, .int x2_4), (3, .int x3_4), (4, .int x4_4)] → whileO (fun s => f_X8_swap_L27 p1 s.1 s.2.1 s.2.2.1 s.2.2.2) n4 (x2_4, (x3_4, (x4_4, u4))) = some (r, u') → W p l e (gRm 9 0 0) s m ([.ref (base + 82), .int p1] : List Value).toArray below meth c H locs 0 0 Q (F0 m 27 ls []) := by
      intro n4
      induction n4 with
      | zero => intro x2_4 x3_4 x4_4 u4 H locs ls hG hl hf; cases hf
      | succ n4 ih4 =>
        intro x2_4 x3_4 x4_4 u4 H locs ls hG hl hf
        obtain ⟨X4, hf, hX4⟩ := while_s hf
        have hf : f_X8_swap_L27 p1 x2_4 x3_4 x4_4 u4 = some X4 := hf
        unfold f_X8_swap_L27 at hf
        refine lv_iload hx hb dX8_swap_27 (lv_at hl 4 rfl) ?_
        refine lv_aload_n hx hb dX8_swap_29 rfl (lv_at hl 0 rfl) ?_
        refine g_getI C0 hG (L82 hG) rfl 0 (by decide) rfl w_846 dX8_swap_30 ?_
        refine lv_icmp_ge (tgt := 95) hx hb dX8_swap_33 (by decide) (fun c5 => ?_) (fun c5 => ?_)
        · have hf := gif_t c5 hf
          refine lv_iload_n hx hb dX8_swap_95 rfl (lv_at hl 2 rfl) ?_
          have hf := while_r hX4 hf
          obtain ⟨hr1, hu⟩ := gret_s hf
          subst hr1
          subst hu
          subst hQ
          exact g_iret C0 hG hr dX8_swap_96
        · have hf := gif_f c5 hf
          refine lv_iload hx hb dX8_swap_36 (lv_at hl 4 rfl) ?_
          refine lv_iconst (v := (1 : Int32)) hx hb dX8_swap_38 (by decide) ?_
          refine lv_iadd hx hb dX8_swap_39 ?_
          refine lv_istore (lv' := [(5, .int (x4_4 + (1 : Int32))), (0, .ref (base + 82)), (1, .int p1), (2, .int x2_4), (3, .int x3_4), (4, .int x4_4)]) hx hb dX8_swap_40 hl (by decide) rfl (fun ls hl => ?_)
          have loop6 : ∀ (n6 : Nat) (x2_6 : Int32) (x3_6 : Int32) (x4_6 : Int32) (x5_6 : Int32) (u6 : Mem) (H : Heap) (locs : List Loc) (ls : Array Slot), gH D base s u6 H locs → lv_has ls 7 [(0, .ref (base + 82)), (1, .int p1), (2, .int x2_6), (3, .int x3_6), (4, .int x4_6), (5, .int x5_6)] → whileO (fun s => f_X8_swap_L42 p1 s.1 s.2.1 s.2.2.1 s.2.2.2.1 s.2.2.2.2) n6 (x2_6, (x3_6, (x4_6, (x5_6, u6)))) = some X4 → W p l e (gRm 9 0 0) s m ([.ref (base + 82), .int p1] : List Value).toArray below meth c H locs 0 0 Q (F0 m 42 ls []) := by
            intro n6
            induction n6 with
            | zero => intro x2_6 x3_6 x4_6 x5_6 u6 H locs ls hG hl hf; cases hf
            | succ n6 ih6 =>
              intro x2_6 x3_6 x4_6 x5_6 u6 H locs ls hG hl hf
              obtain ⟨X6, hf, hX6⟩ := while_s hf
              have hf : f_X8_swap_L42 p1 x2_6 x3_6 x4_6 x5_6 u6 = some X6 := hf
              unfold f_X8_swap_L42 at hf
              refine lv_iload hx hb dX8_swap_42 (lv_at hl 5 rfl) ?_
              refine lv_aload_n hx hb dX8_swap_44 rfl (lv_at hl 0 rfl) ?_
              refine g_getI C0 hG (L82 hG) rfl 0 (by decide) rfl w_846 dX8_swap_45 ?_
              refine lv_icmp_ge (tgt := 89) hx hb dX8_swap_48 (by decide) (fun c7 => ?_) (fun c7 => ?_)
              · have hf := gif_t c7 hf
                refine lv_iinc (v := x4_6 + (1 : Int32)) (lv' := [(4, .int (x4_6 + (1 : Int32))), (0, .ref (base + 82)), (1, .int p1), (2, .int x2_6), (3, .int x3_6), (5, .int x5_6)]) hx hb dX8_swap_89 hl (k := 4) rfl rfl (by decide) rfl (fun ls hl => ?_)
                refine lv_goto (tgt := 27) hx hb dX8_swap_92 (by decide) ?_
                have hf := while_r hX6 hf
                have hf := while_l hX4 hf
                exact ih4 x2_6 x3_6 (x4_6 + (1 : Int32)) u6 _ _ ls hG (lv_sub hl [1, 2, 3, 4, 0] rfl) hf
              · have hf := gif_f c7 hf
                refine lv_aload_n hx hb dX8_swap_51 rfl (lv_at hl 0 rfl) ?_
                refine lv_iload hx hb dX8_swap_52 (lv_at hl 4 rfl) ?_
                refine lv_iload hx hb dX8_swap_54 (lv_at hl 5 rfl) ?_
                refine lv_iload_n hx hb dX8_swap_56 rfl (lv_at hl 1 rfl) ?_
                obtain ⟨r8, u8, hc8, hf⟩ := obind_s hf
                refine g_doI0 hG (g_runV C0 hG (k_X8_spotSwapped l D base Z u6 x4_6 x5_6 p1 r8 u8 hc8) m_X8_spotSwapped v_X8_spotSwapped w_1299 (by decide) (g_recv C0 hG (L82 hG) rfl) rfl hl.1 rfl (Nat.le_of_ble_eq_true rfl) dX8_swap_57 ⟨Nat.zero_le _, Nat.zero_le _⟩) (fun H locs hG hk => ?_)
                refine lv_istore (lv' := [(6, .int r8), (0, .ref (base + 82)), (1, .int p1), (2, .int x2_6), (3, .int x3_6), (4, .int x4_6), (5, .int x5_6)]) hx hb dX8_swap_60 hl (by decide) rfl (fun ls hl => ?_)
                refine lv_iload hx hb dX8_swap_62 (lv_at hl 0 rfl) ?_
                refine lv_iload_n hx hb dX8_swap_64 rfl (lv_at hl 4 rfl) ?_
                refine lv_icmp_gt (tgt := 71) hx hb dX8_swap_65 (by decide) (fun c9 => ?_) (fun c9 => ?_)
                · have hf := gif_t c9 hf
                  refine lv_bipush (v := (10 : Int32)) hx hb dX8_swap_71 (by decide) ?_
                  refine lv_iload hx hb dX8_swap_73 (lv_at hl 5 rfl) ?_
                  refine lv_imul hx hb dX8_swap_75 ?_
                  refine lv_iload hx hb dX8_swap_76 (lv_at hl 6 rfl) ?_
                  refine lv_iadd hx hb dX8_swap_78 ?_
                  refine lv_istore_n (lv' := [(2, .int (((10 : Int32) * x4_6) + x5_6)), (6, .int r8), (0, .ref (base + 82)), (1, .int p1), (3, .int x3_6), (4, .int x4_6), (5, .int x5_6)]) hx hb dX8_swap_79 rfl hl (by decide) rfl (fun ls hl => ?_)
                  refine lv_iload hx hb dX8_swap_80 (lv_at hl 1 rfl) ?_
                  refine lv_istore_n (lv' := [(3, .int r8), (2, .int (((10 : Int32) * x4_6) + x5_6)), (6, .int r8), (0, .ref (base + 82)), (1, .int p1), (4, .int x4_6), (5, .int x5_6)]) hx hb dX8_swap_82 rfl hl (by decide) rfl (fun ls hl => ?_)
                  refine lv_iinc (v := x5_6 + (1 : Int32)) (lv' := [(5, .int (x5_6 + (1 : Int32))), (3, .int r8), (2, .int (((10 : Int32) * x4_6) + x5_6)), (6, .int r8), (0, .ref (base + 82)), (1, .int p1), (4, .int x4_6)]) hx hb dX8_swap_83 hl (k := 6) rfl rfl (by decide) rfl (fun ls hl => ?_)
                  refine lv_goto (tgt := 42) hx hb dX8_swap_86 (by decide) ?_
                  have hf := while_l hX6 hf
                  exact ih6 (((10 : Int32) * x4_6) + x5_6) r8 x4_6 (x5_6 + (1 : Int32)) u8 _ _ ls hG (lv_sub hl [4, 5, 2, 1, 6, 0] rfl) hf
                · have hf := gif_f c9 hf
                  refine lv_goto (tgt := 83) hx hb dX8_swap_68 (by decide) ?_
                  refine lv_iinc (v := x5_6 + (1 : Int32)) (lv' := [(5, .int (x5_6 + (1 : Int32))), (6, .int r8), (0, .ref (base + 82)), (1, .int p1), (2, .int x2_6), (3, .int x3_6), (4, .int x4_6)]) hx hb dX8_swap_83 hl (k := 6) rfl rfl (by decide) rfl (fun ls hl => ?_)
                  refine lv_goto (tgt := 42) hx hb dX8_swap_86 (by decide) ?_
                  have hf := while_l hX6 hf
                  exact ih6 x2_6 x3_6 x4_6 (x5_6 + (1 : Int32)) u8 _ _ ls hG (lv_sub hl [2, 3, 4, 5, 6, 0] rfl) hf
          exact loop6 FUEL x2_4 x3_4 x4_4 (x4_4 + (1 : Int32)) u4 _ _ ls hG (lv_sub hl [1, 2, 3, 4, 5, 0] rfl) hf
    exact loop4 FUEL (-5 : Int32) r3 (0 : Int32) u3 _ _ ls hG (lv_sub hl [3, 4, 2, 1, 0] rfl) hf
  · have hf := gif_t c2 hf
    refine lv_bipush (v := (-2 : Int32)) hx hb dX8_swap_11 (by decide) ?_
    obtain ⟨hr1, hu⟩ := gret_s hf
    subst hr1
    subst hu
    subst hQ
    exact g_iret C0 hG hr dX8_swap_13
theorem dX8_see_0 : decode cX8_see 0 = .ok (.iload_n 1, 1) := by decide +kernel
theorem dX8_see_1 : decode cX8_see 1 = .ok (.iconst (-1), 1) := by decide +kernel
theorem dX8_see_2 : decode cX8_see 2 = .ok (.if_icmp .ne 10, 3) := by decide +kernel
theorem dX8_see_5 : decode cX8_see 5 = .ok (.aload_n 0, 1) := by decide +kernel
theorem dX8_see_6 : decode cX8_see 6 = .ok (.iconst 0, 1) := by decide +kernel
theorem dX8_see_7 : decode cX8_see 7 = .ok (.putfield 123, 3) := by decide +kernel
theorem dX8_see_10 : decode cX8_see 10 = .ok (.iconst 0, 1) := by decide +kernel
theorem dX8_see_11 : decode cX8_see 11 = .ok (.ireturn, 1) := by decide +kernel
theorem dX8_see_12 : decode cX8_see 12 = .ok (.aload_n 0, 1) := by decide +kernel
theorem dX8_see_13 : decode cX8_see 13 = .ok (.iload_n 1, 1) := by decide +kernel
theorem dX8_see_14 : decode cX8_see 14 = .ok (.invokevirtual 260, 3) := by decide +kernel
theorem dX8_see_17 : decode cX8_see 17 = .ok (.ifCond .eq 11, 3) := by decide +kernel
theorem dX8_see_20 : decode cX8_see 20 = .ok (.aload_n 0, 1) := by decide +kernel
theorem dX8_see_21 : decode cX8_see 21 = .ok (.iload_n 2, 1) := by decide +kernel
theorem dX8_see_22 : decode cX8_see 22 = .ok (.invokevirtual 267, 3) := by decide +kernel
theorem dX8_see_25 : decode cX8_see 25 = .ok (.ifCond .ne 5, 3) := by decide +kernel
theorem dX8_see_28 : decode cX8_see 28 = .ok (.iconst (-1), 1) := by decide +kernel
theorem dX8_see_29 : decode cX8_see 29 = .ok (.ireturn, 1) := by decide +kernel
theorem dX8_see_30 : decode cX8_see 30 = .ok (.aload_n 0, 1) := by decide +kernel
theorem dX8_see_31 : decode cX8_see 31 = .ok (.iload_n 3, 1) := by decide +kernel
theorem dX8_see_32 : decode cX8_see 32 = .ok (.iconst 0, 1) := by decide +kernel
theorem dX8_see_33 : decode cX8_see 33 = .ok (.bipush 99, 2) := by decide +kernel
theorem dX8_see_35 : decode cX8_see 35 = .ok (.invokevirtual 249, 3) := by decide +kernel
theorem dX8_see_38 : decode cX8_see 38 = .ok (.ifCond .ne 6, 3) := by decide +kernel
theorem dX8_see_41 : decode cX8_see 41 = .ok (.bipush (-2), 2) := by decide +kernel
theorem dX8_see_43 : decode cX8_see 43 = .ok (.ireturn, 1) := by decide +kernel
theorem dX8_see_44 : decode cX8_see 44 = .ok (.aload_n 0, 1) := by decide +kernel
theorem dX8_see_45 : decode cX8_see 45 = .ok (.getfield 123, 3) := by decide +kernel
theorem dX8_see_48 : decode cX8_see 48 = .ok (.iconst 5, 1) := by decide +kernel
theorem dX8_see_49 : decode cX8_see 49 = .ok (.if_icmp .ne 6, 3) := by decide +kernel
theorem dX8_see_52 : decode cX8_see 52 = .ok (.bipush (-4), 2) := by decide +kernel
theorem dX8_see_54 : decode cX8_see 54 = .ok (.ireturn, 1) := by decide +kernel
theorem dX8_see_55 : decode cX8_see 55 = .ok (.aload_n 0, 1) := by decide +kernel
theorem dX8_see_56 : decode cX8_see 56 = .ok (.getfield 126, 3) := by decide +kernel
theorem dX8_see_59 : decode cX8_see 59 = .ok (.aload_n 0, 1) := by decide +kernel
theorem dX8_see_60 : decode cX8_see 60 = .ok (.getfield 123, 3) := by decide +kernel
theorem dX8_see_63 : decode cX8_see 63 = .ok (.iload_n 1, 1) := by decide +kernel
theorem dX8_see_64 : decode cX8_see 64 = .ok (.iastore, 1) := by decide +kernel
theorem dX8_see_65 : decode cX8_see 65 = .ok (.aload_n 0, 1) := by decide +kernel
theorem dX8_see_66 : decode cX8_see 66 = .ok (.getfield 129, 3) := by decide +kernel
theorem dX8_see_69 : decode cX8_see 69 = .ok (.aload_n 0, 1) := by decide +kernel
theorem dX8_see_70 : decode cX8_see 70 = .ok (.getfield 123, 3) := by decide +kernel
theorem dX8_see_73 : decode cX8_see 73 = .ok (.iload_n 2, 1) := by decide +kernel
theorem dX8_see_74 : decode cX8_see 74 = .ok (.iastore, 1) := by decide +kernel
theorem dX8_see_75 : decode cX8_see 75 = .ok (.aload_n 0, 1) := by decide +kernel
theorem dX8_see_76 : decode cX8_see 76 = .ok (.getfield 132, 3) := by decide +kernel
theorem dX8_see_79 : decode cX8_see 79 = .ok (.aload_n 0, 1) := by decide +kernel
theorem dX8_see_80 : decode cX8_see 80 = .ok (.getfield 123, 3) := by decide +kernel
theorem dX8_see_83 : decode cX8_see 83 = .ok (.iload_n 3, 1) := by decide +kernel
theorem dX8_see_84 : decode cX8_see 84 = .ok (.iastore, 1) := by decide +kernel
theorem dX8_see_85 : decode cX8_see 85 = .ok (.aload_n 0, 1) := by decide +kernel
theorem dX8_see_86 : decode cX8_see 86 = .ok (.dup, 1) := by decide +kernel
theorem dX8_see_87 : decode cX8_see 87 = .ok (.getfield 123, 3) := by decide +kernel
theorem dX8_see_90 : decode cX8_see 90 = .ok (.iconst 1, 1) := by decide +kernel
theorem dX8_see_91 : decode cX8_see 91 = .ok (.iadd, 1) := by decide +kernel
theorem dX8_see_92 : decode cX8_see 92 = .ok (.putfield 123, 3) := by decide +kernel
theorem dX8_see_95 : decode cX8_see 95 = .ok (.aload_n 0, 1) := by decide +kernel
theorem dX8_see_96 : decode cX8_see 96 = .ok (.getfield 123, 3) := by decide +kernel
theorem dX8_see_99 : decode cX8_see 99 = .ok (.ireturn, 1) := by decide +kernel
def f_X8_see (p1 : Int32) (p2 : Int32) (p3 : Int32) (u : Mem) : Option (Int32 × Mem) := (if p1 = (-1 : Int32) then some ((0 : Int32), sI u 82 37 (0 : Int32)) else Option.bind (f_X8_isOne p1 u) (fun r2 => (if r2 = 0 then some ((-1 : Int32), u) else Option.bind (f_X8_isTale p2) (fun r4 => (if r4 = 0 then some ((-1 : Int32), u) else Option.bind (f_X8_in p3 (0 : Int32) (99 : Int32)) (fun r6 => (if r6 = 0 then some ((-2 : Int32), u) else (if (gI u 82 37) = (5 : Int32) then some ((-4 : Int32), u) else gin (gI u 82 37) 5 (gin (gI (sA u 103 (gI u 82 37).toNatClampNeg p1) 82 37) 5 (gin (gI (sA (sA u 103 (gI u 82 37).toNatClampNeg p1) 104 (gI (sA u 103 (gI u 82 37).toNatClampNeg p1) 82 37).toNatClampNeg p2) 82 37) 5 (some (gI (sI (sA (sA (sA u 103 (gI u 82 37).toNatClampNeg p1) 104 (gI (sA u 103 (gI u 82 37).toNatClampNeg p1) 82 37).toNatClampNeg p2) 105 (gI (sA (sA u 103 (gI u 82 37).toNatClampNeg p1) 104 (gI (sA u 103 (gI u 82 37).toNatClampNeg p1) 82 37).toNatClampNeg p2) 82 37).toNatClampNeg p3) 82 37 ((gI (sA (sA (sA u 103 (gI u 82 37).toNatClampNeg p1) 104 (gI (sA u 103 (gI u 82 37).toNatClampNeg p1) 82 37).toNatClampNeg p2) 105 (gI (sA (sA u 103 (gI u 82 37).toNatClampNeg p1) 104 (gI (sA u 103 (gI u 82 37).toNatClampNeg p1) 82 37).toNatClampNeg p2) 82 37).toNatClampNeg p3) 82 37) + (1 : Int32))) 82 37, sI (sA (sA (sA u 103 (gI u 82 37).toNatClampNeg p1) 104 (gI (sA u 103 (gI u 82 37).toNatClampNeg p1) 82 37).toNatClampNeg p2) 105 (gI (sA (sA u 103 (gI u 82 37).toNatClampNeg p1) 104 (gI (sA u 103 (gI u 82 37).toNatClampNeg p1) 82 37).toNatClampNeg p2) 82 37).toNatClampNeg p3) 82 37 ((gI (sA (sA (sA u 103 (gI u 82 37).toNatClampNeg p1) 104 (gI (sA u 103 (gI u 82 37).toNatClampNeg p1) 82 37).toNatClampNeg p2) 105 (gI (sA (sA u 103 (gI u 82 37).toNatClampNeg p1) 104 (gI (sA u 103 (gI u 82 37).toNatClampNeg p1) 82 37).toNatClampNeg p2) 82 37).toNatClampNeg p3) 82 37) + (1 : Int32))))))))))))))
set_option maxHeartbeats 4000000 in
set_option maxRecDepth 100000 in
theorem k_X8_see (l : Launch) (D : gDt) (base : Nat) (Z : gZt) (u : Mem) (p1 : Int32) (p2 : Int32) (p3 : Int32) (r : Int32) (u' : Mem) (hf : f_X8_see p1 p2 p3 u = some (r, u')) : Met l yX8_see (gws yX8_see cX8_see 4 (some .int)) (gRm 3 0 0) (gPc D base Z u [.ref (base + 82), .int p1, .int p2, .int p3]) (gQi D base r u') 0 0 (gF base) := by
  refine Met.ofW (cc := cX8_see) (maxL := 4) (ret := some .int) (by decide) rfl ?_
  intro p e s m args below meth c s₁ B hml hv
  obtain ⟨rfl, C0, hG⟩ := g_enter B hml hv
  have hr := B.returns
  have C0 : gC p s m meth c _ cX8_see 4 RX8 D base Z := C0
  have hx := C0.1
  have hb := C0.2.1
  have hl := lv_entry ([.ref (base + 82), .int p1, .int p2, .int p3]) (n := 4) (Nat.le_of_ble_eq_true rfl)
  rw [lg_entry_eq]
  generalize (lg_sl ([.ref (base + 82), .int p1, .int p2, .int p3]) ++ List.replicate (4 - (lg_sl ([.ref (base + 82), .int p1, .int p2, .int p3])).length) Slot.unset).toArray = ls at hl ⊢
  have hl : lv_has ls 4 [(0, .ref (base + 82)), (1, .int p1), (2, .int p2), (3, .int p3)] := hl
  obtain ⟨Q, hQ⟩ : ∃ Q, Q = MQ below (gQi D base r u') ([.ref (base + 82), .int p1, .int p2, .int p3] : List Value).toArray s 0 0 (gF base) := ⟨_, rfl⟩
  rw [← hQ]
  change W p l e (gRm 3 0 0) s m _ below meth c _ _ _ _ _ _
  unfold f_X8_see at hf
  refine lv_iload_n hx hb dX8_see_0 rfl (lv_at hl 1 rfl) ?_
  refine lv_iconst (v := (-1 : Int32)) hx hb dX8_see_1 (by decide) ?_
  refine lv_icmp_ne (tgt := 12) hx hb dX8_see_2 (by decide) (fun c1 => ?_) (fun c1 => ?_)
  · have hf := gif_f c1 hf
    refine lv_aload_n hx hb dX8_see_12 rfl (lv_at hl 0 rfl) ?_
    refine lv_iload_n hx hb dX8_see_13 rfl (lv_at hl 1 rfl) ?_
    obtain ⟨r2, hc2, hf⟩ := pb_s hf
    refine g_doI0 hG (g_runV C0 hG (k_X8_isOne l D base Z u p1 r2 hc2) m_X8_isOne v_X8_isOne w_1098 (by decide) (g_recv C0 hG (L82 hG) rfl) rfl hl.1 rfl (Nat.le_of_ble_eq_true rfl) dX8_see_14 ⟨Nat.zero_le _, Nat.zero_le _⟩) (fun H locs hG hk => ?_)
    refine lv_if_eq (tgt := 28) hx hb dX8_see_17 (by decide) (fun c3 => ?_) (fun c3 => ?_)
    · have hf := gif_t c3 hf
      refine lv_iconst (v := (-1 : Int32)) hx hb dX8_see_28 (by decide) ?_
      obtain ⟨hr1, hu⟩ := gret_s hf
      subst hr1
      subst hu
      subst hQ
      exact g_iret C0 hG hr dX8_see_29
    · have hf := gif_f c3 hf
      refine lv_aload_n hx hb dX8_see_20 rfl (lv_at hl 0 rfl) ?_
      refine lv_iload_n hx hb dX8_see_21 rfl (lv_at hl 2 rfl) ?_
      obtain ⟨r4, hc4, hf⟩ := pb_s hf
      refine g_doI0 hG (g_runV C0 hG (k_X8_isTale l D base Z u p2 r4 hc4) m_X8_isTale v_X8_isTale w_1122 (by decide) (g_recv C0 hG (L82 hG) rfl) rfl hl.1 rfl (Nat.le_of_ble_eq_true rfl) dX8_see_22 ⟨Nat.zero_le _, Nat.zero_le _⟩) (fun H locs hG hk => ?_)
      refine lv_if_ne (tgt := 30) hx hb dX8_see_25 (by decide) (fun c5 => ?_) (fun c5 => ?_)
      · have hf := gif_f c5 hf
        refine lv_aload_n hx hb dX8_see_30 rfl (lv_at hl 0 rfl) ?_
        refine lv_iload_n hx hb dX8_see_31 rfl (lv_at hl 3 rfl) ?_
        refine lv_iconst (v := (0 : Int32)) hx hb dX8_see_32 (by decide) ?_
        refine lv_bipush (v := (99 : Int32)) hx hb dX8_see_33 (by decide) ?_
        obtain ⟨r6, hc6, hf⟩ := pb_s hf
        refine g_doI0 hG (g_runV C0 hG (k_X8_in l D base Z u p3 (0 : Int32) (99 : Int32) r6 hc6) m_X8_in v_X8_in w_1082 (by decide) (g_recv C0 hG (L82 hG) rfl) rfl hl.1 rfl (Nat.le_of_ble_eq_true rfl) dX8_see_35 ⟨Nat.zero_le _, Nat.zero_le _⟩) (fun H locs hG hk => ?_)
        refine lv_if_ne (tgt := 44) hx hb dX8_see_38 (by decide) (fun c7 => ?_) (fun c7 => ?_)
        · have hf := gif_f c7 hf
          refine lv_aload_n hx hb dX8_see_44 rfl (lv_at hl 0 rfl) ?_
          refine g_getI C0 hG (L82 hG) rfl 37 (by decide) rfl w_883 dX8_see_45 ?_
          refine lv_iconst (v := (5 : Int32)) hx hb dX8_see_48 (by decide) ?_
          refine lv_icmp_ne (tgt := 55) hx hb dX8_see_49 (by decide) (fun c8 => ?_) (fun c8 => ?_)
          · have hf := gif_f c8 hf
            refine lv_aload_n hx hb dX8_see_55 rfl (lv_at hl 0 rfl) ?_
            refine g_getSa (o := 21) (a := 103) C0 hG (L82 hG) rfl 38 (by decide) rfl rfl w_884 dX8_see_56 ?_
            refine lv_aload_n hx hb dX8_see_59 rfl (lv_at hl 0 rfl) ?_
            refine g_getI C0 hG (L82 hG) rfl 37 (by decide) rfl w_883 dX8_see_60 ?_
            refine lv_iload_n hx hb dX8_see_63 rfl (lv_at hl 1 rfl) ?_
            obtain ⟨h9, hf⟩ := gin_s hf
            refine g_iast C0 hG (L103 hG) h9 dX8_see_64 (fun H locs hG => ?_)
            refine lv_aload_n hx hb dX8_see_65 rfl (lv_at hl 0 rfl) ?_
            refine g_getSa (o := 22) (a := 104) C0 hG (L82 hG) rfl 39 (by decide) rfl rfl w_885 dX8_see_66 ?_
            refine lv_aload_n hx hb dX8_see_69 rfl (lv_at hl 0 rfl) ?_
            refine g_getI C0 hG (L82 hG) rfl 37 (by decide) rfl w_883 dX8_see_70 ?_
            refine lv_iload_n hx hb dX8_see_73 rfl (lv_at hl 2 rfl) ?_
            obtain ⟨h10, hf⟩ := gin_s hf
            refine g_iast C0 hG (L104 hG) h10 dX8_see_74 (fun H locs hG => ?_)
            refine lv_aload_n hx hb dX8_see_75 rfl (lv_at hl 0 rfl) ?_
            refine g_getSa (o := 23) (a := 105) C0 hG (L82 hG) rfl 40 (by decide) rfl rfl w_886 dX8_see_76 ?_
            refine lv_aload_n hx hb dX8_see_79 rfl (lv_at hl 0 rfl) ?_
            refine g_getI C0 hG (L82 hG) rfl 37 (by decide) rfl w_883 dX8_see_80 ?_
            refine lv_iload_n hx hb dX8_see_83 rfl (lv_at hl 3 rfl) ?_
            obtain ⟨h11, hf⟩ := gin_s hf
            refine g_iast C0 hG (L105 hG) h11 dX8_see_84 (fun H locs hG => ?_)
            refine lv_aload_n hx hb dX8_see_85 rfl (lv_at hl 0 rfl) ?_
            refine lv_dup hx hb dX8_see_86 rfl ?_
            refine g_getI C0 hG (L82 hG) rfl 37 (by decide) rfl w_883 dX8_see_87 ?_
            refine lv_iconst (v := (1 : Int32)) hx hb dX8_see_90 (by decide) ?_
            refine lv_iadd hx hb dX8_see_91 ?_
            refine g_putI (ty := .int) C0 hG (L82 hG) rfl 37 (by decide) rfl w_883 rfl (by decide) rfl rfl dX8_see_92 (fun H locs hG => ?_)
            refine lv_aload_n hx hb dX8_see_95 rfl (lv_at hl 0 rfl) ?_
            refine g_getI C0 hG (L82 hG) rfl 37 (by decide) rfl w_883 dX8_see_96 ?_
            obtain ⟨hr1, hu⟩ := gret_s hf
            subst hr1
            subst hu
            subst hQ
            exact g_iret C0 hG hr dX8_see_99
          · have hf := gif_t c8 hf
            refine lv_bipush (v := (-4 : Int32)) hx hb dX8_see_52 (by decide) ?_
            obtain ⟨hr1, hu⟩ := gret_s hf
            subst hr1
            subst hu
            subst hQ
            exact g_iret C0 hG hr dX8_see_54
        · have hf := gif_t c7 hf
          refine lv_bipush (v := (-2 : Int32)) hx hb dX8_see_41 (by decide) ?_
          obtain ⟨hr1, hu⟩ := gret_s hf
          subst hr1
          subst hu
          subst hQ
          exact g_iret C0 hG hr dX8_see_43
      · have hf := gif_t c5 hf
        refine lv_iconst (v := (-1 : Int32)) hx hb dX8_see_28 (by decide) ?_
        obtain ⟨hr1, hu⟩ := gret_s hf
        subst hr1
        subst hu
        subst hQ
        exact g_iret C0 hG hr dX8_see_29
  · have hf := gif_t c1 hf
    refine lv_aload_n hx hb dX8_see_5 rfl (lv_at hl 0 rfl) ?_
    refine lv_iconst (v := (0 : Int32)) hx hb dX8_see_6 (by decide) ?_
    refine g_putI (ty := .int) C0 hG (L82 hG) rfl 37 (by decide) rfl w_883 rfl (by decide) rfl rfl dX8_see_7 (fun H locs hG => ?_)
    refine lv_iconst (v := (0 : Int32)) hx hb dX8_see_10 (by decide) ?_
    obtain ⟨hr1, hu⟩ := gret_s hf
    subst hr1
    subst hu
    subst hQ
    exact g_iret C0 hG hr dX8_see_11
theorem dX8_isSeen_0 : decode cX8_isSeen 0 = .ok (.iconst 0, 1) := by decide +kernel
theorem dX8_isSeen_1 : decode cX8_isSeen 1 = .ok (.istore_n 3, 1) := by decide +kernel
theorem dX8_isSeen_2 : decode cX8_isSeen 2 = .ok (.iload_n 3, 1) := by decide +kernel
theorem dX8_isSeen_3 : decode cX8_isSeen 3 = .ok (.aload_n 0, 1) := by decide +kernel
theorem dX8_isSeen_4 : decode cX8_isSeen 4 = .ok (.getfield 123, 3) := by decide +kernel
theorem dX8_isSeen_7 : decode cX8_isSeen 7 = .ok (.if_icmp .ge 75, 3) := by decide +kernel
theorem dX8_isSeen_10 : decode cX8_isSeen 10 = .ok (.iload_n 1, 1) := by decide +kernel
theorem dX8_isSeen_11 : decode cX8_isSeen 11 = .ok (.ifCond .eq 12, 3) := by decide +kernel
theorem dX8_isSeen_14 : decode cX8_isSeen 14 = .ok (.aload_n 0, 1) := by decide +kernel
theorem dX8_isSeen_15 : decode cX8_isSeen 15 = .ok (.getfield 126, 3) := by decide +kernel
theorem dX8_isSeen_18 : decode cX8_isSeen 18 = .ok (.iload_n 3, 1) := by decide +kernel
theorem dX8_isSeen_19 : decode cX8_isSeen 19 = .ok (.iaload, 1) := by decide +kernel
theorem dX8_isSeen_20 : decode cX8_isSeen 20 = .ok (.goto 9, 3) := by decide +kernel
theorem dX8_isSeen_23 : decode cX8_isSeen 23 = .ok (.aload_n 0, 1) := by decide +kernel
theorem dX8_isSeen_24 : decode cX8_isSeen 24 = .ok (.getfield 129, 3) := by decide +kernel
theorem dX8_isSeen_27 : decode cX8_isSeen 27 = .ok (.iload_n 3, 1) := by decide +kernel
theorem dX8_isSeen_28 : decode cX8_isSeen 28 = .ok (.iaload, 1) := by decide +kernel
theorem dX8_isSeen_29 : decode cX8_isSeen 29 = .ok (.iload_n 2, 1) := by decide +kernel
theorem dX8_isSeen_30 : decode cX8_isSeen 30 = .ok (.if_icmp .eq 6, 3) := by decide +kernel
theorem dX8_isSeen_33 : decode cX8_isSeen 33 = .ok (.goto 43, 3) := by decide +kernel
theorem dX8_isSeen_36 : decode cX8_isSeen 36 = .ok (.aload_n 0, 1) := by decide +kernel
theorem dX8_isSeen_37 : decode cX8_isSeen 37 = .ok (.aload_n 0, 1) := by decide +kernel
theorem dX8_isSeen_38 : decode cX8_isSeen 38 = .ok (.getfield 126, 3) := by decide +kernel
theorem dX8_isSeen_41 : decode cX8_isSeen 41 = .ok (.iload_n 3, 1) := by decide +kernel
theorem dX8_isSeen_42 : decode cX8_isSeen 42 = .ok (.iaload, 1) := by decide +kernel
theorem dX8_isSeen_43 : decode cX8_isSeen 43 = .ok (.aload_n 0, 1) := by decide +kernel
theorem dX8_isSeen_44 : decode cX8_isSeen 44 = .ok (.getfield 129, 3) := by decide +kernel
theorem dX8_isSeen_47 : decode cX8_isSeen 47 = .ok (.iload_n 3, 1) := by decide +kernel
theorem dX8_isSeen_48 : decode cX8_isSeen 48 = .ok (.iaload, 1) := by decide +kernel
theorem dX8_isSeen_49 : decode cX8_isSeen 49 = .ok (.invokevirtual 336, 3) := by decide +kernel
theorem dX8_isSeen_52 : decode cX8_isSeen 52 = .ok (.istore 4, 2) := by decide +kernel
theorem dX8_isSeen_54 : decode cX8_isSeen 54 = .ok (.iload 4, 2) := by decide +kernel
theorem dX8_isSeen_56 : decode cX8_isSeen 56 = .ok (.ifCond .ge 7, 3) := by decide +kernel
theorem dX8_isSeen_59 : decode cX8_isSeen 59 = .ok (.iconst 0, 1) := by decide +kernel
theorem dX8_isSeen_60 : decode cX8_isSeen 60 = .ok (.goto 5, 3) := by decide +kernel
theorem dX8_isSeen_63 : decode cX8_isSeen 63 = .ok (.iload 4, 2) := by decide +kernel
theorem dX8_isSeen_65 : decode cX8_isSeen 65 = .ok (.aload_n 0, 1) := by decide +kernel
theorem dX8_isSeen_66 : decode cX8_isSeen 66 = .ok (.getfield 132, 3) := by decide +kernel
theorem dX8_isSeen_69 : decode cX8_isSeen 69 = .ok (.iload_n 3, 1) := by decide +kernel
theorem dX8_isSeen_70 : decode cX8_isSeen 70 = .ok (.iaload, 1) := by decide +kernel
theorem dX8_isSeen_71 : decode cX8_isSeen 71 = .ok (.if_icmp .eq 5, 3) := by decide +kernel
theorem dX8_isSeen_74 : decode cX8_isSeen 74 = .ok (.iconst 0, 1) := by decide +kernel
theorem dX8_isSeen_75 : decode cX8_isSeen 75 = .ok (.ireturn, 1) := by decide +kernel
theorem dX8_isSeen_76 : decode cX8_isSeen 76 = .ok (.iinc 3 1, 3) := by decide +kernel
theorem dX8_isSeen_79 : decode cX8_isSeen 79 = .ok (.goto (-77), 3) := by decide +kernel
theorem dX8_isSeen_82 : decode cX8_isSeen 82 = .ok (.iconst 1, 1) := by decide +kernel
theorem dX8_isSeen_83 : decode cX8_isSeen 83 = .ok (.ireturn, 1) := by decide +kernel
def f_X8_isSeen_L2 (p1 : Int32) (p2 : Int32) (x3_1 : Int32) (u1 : Mem) : Option ((Int32 × Mem) ⊕ (Int32 × Mem)) := (if (gI u1 82 37) ≤ x3_1 then some (Sum.inr ((1 : Int32), u1)) else (if p1 = 0 then gin x3_1 5 ((if (gA u1 104 x3_1.toNatClampNeg) = p2 then gin x3_1 5 (gin x3_1 5 (obind (f_X8_glow (gA u1 103 x3_1.toNatClampNeg) (gA u1 104 x3_1.toNatClampNeg) u1) (fun r8 u8 => (if 0 ≤ r8 then gin x3_1 5 ((if r8 = (gA u8 105 x3_1.toNatClampNeg) then some (Sum.inl (x3_1 + (1 : Int32), u8)) else some (Sum.inr ((0 : Int32), u8)))) else gin x3_1 5 ((if (0 : Int32) = (gA u8 105 x3_1.toNatClampNeg) then some (Sum.inl (x3_1 + (1 : Int32), u8)) else some (Sum.inr ((0 : Int32), u8)))))))) else some (Sum.inl (x3_1 + (1 : Int32), u1)))) else gin x3_1 5 ((if (gA u1 103 x3_1.toNatClampNeg) = p2 then gin x3_1 5 (gin x3_1 5 (obind (f_X8_glow (gA u1 103 x3_1.toNatClampNeg) (gA u1 104 x3_1.toNatClampNeg) u1) (fun r18 u18 => (if 0 ≤ r18 then gin x3_1 5 ((if r18 = (gA u18 105 x3_1.toNatClampNeg) then some (Sum.inl (x3_1 + (1 : Int32), u18)) else some (Sum.inr ((0 : Int32), u18)))) else gin x3_1 5 ((if (0 : Int32) = (gA u18 105 x3_1.toNatClampNeg) then some (Sum.inl (x3_1 + (1 : Int32), u18)) else some (Sum.inr ((0 : Int32), u18)))))))) else some (Sum.inl (x3_1 + (1 : Int32), u1))))))
def f_X8_isSeen (p1 : Int32) (p2 : Int32) (u : Mem) : Option (Int32 × Mem) := whileO (fun s => f_X8_isSeen_L2 p1 p2 s.1 s.2) FUEL ((0 : Int32), u)
set_option maxHeartbeats 4000000 in
set_option maxRecDepth 100000 in
theorem k_X8_isSeen (l : Launch) (D : gDt) (base : Nat) (Z : gZt) (u : Mem) (p1 : Int32) (p2 : Int32) (r : Int32) (u' : Mem) (hf : f_X8_isSeen p1 p2 u = some (r, u')) : Met l yX8_isSeen (gws yX8_isSeen cX8_isSeen 5 (some .boolean)) (gRm 5 0 0) (gPc D base Z u [.ref (base + 82), .int p1, .int p2]) (gQi D base r u') 0 0 (gF base) := by
  refine Met.ofW (cc := cX8_isSeen) (maxL := 5) (ret := some .boolean) (by decide) rfl ?_
  intro p e s m args below meth c s₁ B hml hv
  obtain ⟨rfl, C0, hG⟩ := g_enter B hml hv
  have hr := B.returns
  have C0 : gC p s m meth c _ cX8_isSeen 5 RX8 D base Z := C0
  have hx := C0.1
  have hb := C0.2.1
  have hl := lv_entry ([.ref (base + 82), .int p1, .int p2]) (n := 5) (Nat.le_of_ble_eq_true rfl)
  rw [lg_entry_eq]
  generalize (lg_sl ([.ref (base + 82), .int p1, .int p2]) ++ List.replicate (5 - (lg_sl ([.ref (base + 82), .int p1, .int p2])).length) Slot.unset).toArray = ls at hl ⊢
  have hl : lv_has ls 5 [(0, .ref (base + 82)), (1, .int p1), (2, .int p2)] := hl
  obtain ⟨Q, hQ⟩ : ∃ Q, Q = MQ below (gQi D base r u') ([.ref (base + 82), .int p1, .int p2] : List Value).toArray s 0 0 (gF base) := ⟨_, rfl⟩
  rw [← hQ]
  change W p l e (gRm 5 0 0) s m _ below meth c _ _ _ _ _ _
  unfold f_X8_isSeen at hf
  refine lv_iconst (v := (0 : Int32)) hx hb dX8_isSeen_0 (by decide) ?_
  refine lv_istore_n (lv' := [(3, .int (0 : Int32)), (0, .ref (base + 82)), (1, .int p1), (2, .int p2)]) hx hb dX8_isSeen_1 rfl hl (by decide) rfl (fun ls hl => ?_)
  have loop1 : ∀ (n1 : Nat) (x3_1 : Int32) (u1 : Mem) (H : Heap) (locs : List Loc) (ls : Array Slot), gH D base s u1 H locs → lv_has ls 5 [(0, .ref (base + 82)), (1, .int p1), (2, .int p2), (3, .int x3_1)] → whileO (fun s => f_X8_isSeen_L2 p1 p2 s.1 s.2) n1 (x3_1, u1) = some (r, u') → W p l e (gRm 5 0 0) s m ([.ref (base + 82), .int p1, .int p2] : List Value).toArray below meth c H locs 0 0 Q (F0 m 2 ls []) := by
    intro n1
    induction n1 with
    | zero => intro x3_1 u1 H locs ls hG hl hf; cases hf
    | succ n1 ih1 =>
      intro x3_1 u1 H locs ls hG hl hf
      obtain ⟨X1, hf, hX1⟩ := while_s hf
      have hf : f_X8_isSeen_L2 p1 p2 x3_1 u1 = some X1 := hf
      unfold f_X8_isSeen_L2 at hf
      refine lv_iload_n hx hb dX8_isSeen_2 rfl (lv_at hl 3 rfl) ?_
      refine lv_aload_n hx hb dX8_isSeen_3 rfl (lv_at hl 0 rfl) ?_
      refine g_getI C0 hG (L82 hG) rfl 37 (by decide) rfl w_883 dX8_isSeen_4 ?_
      refine lv_icmp_ge (tgt := 82) hx hb dX8_isSeen_7 (by decide) (fun c2 => ?_) (fun c2 => ?_)
      · have hf := gif_t c2 hf
        refine lv_iconst (v := (1 : Int32)) hx hb dX8_isSeen_82 (by decide) ?_
        have hf := while_r hX1 hf
        obtain ⟨hr1, hu⟩ := gret_s hf
        subst hr1
        subst hu
        subst hQ
        exact g_zret C0 hG hr (by decide) dX8_isSeen_83
      · have hf := gif_f c2 hf
        refine lv_iload_n hx hb dX8_isSeen_10 rfl (lv_at hl 1 rfl) ?_
        refine lv_if_eq (tgt := 23) hx hb dX8_isSeen_11 (by decide) (fun c3 => ?_) (fun c3 => ?_)
        · have hf := gif_t c3 hf
          refine lv_aload_n hx hb dX8_isSeen_23 rfl (lv_at hl 0 rfl) ?_
          refine g_getSa (o := 22) (a := 104) C0 hG (L82 hG) rfl 39 (by decide) rfl rfl w_885 dX8_isSeen_24 ?_
          refine lv_iload_n hx hb dX8_isSeen_27 rfl (lv_at hl 3 rfl) ?_
          obtain ⟨h4, hf⟩ := gin_s hf
          refine g_iald C0 hG (L104 hG) h4 dX8_isSeen_28 ?_
          refine lv_iload_n hx hb dX8_isSeen_29 rfl (lv_at hl 2 rfl) ?_
          refine lv_icmp_eq (tgt := 36) hx hb dX8_isSeen_30 (by decide) (fun c5 => ?_) (fun c5 => ?_)
          · have hf := gif_t c5 hf
            refine lv_aload_n hx hb dX8_isSeen_36 rfl (lv_at hl 0 rfl) ?_
            refine lv_aload_n hx hb dX8_isSeen_37 rfl (lv_at hl 0 rfl) ?_
            refine g_getSa (o := 21) (a := 103) C0 hG (L82 hG) rfl 38 (by decide) rfl rfl w_884 dX8_isSeen_38 ?_
            refine lv_iload_n hx hb dX8_isSeen_41 rfl (lv_at hl 3 rfl) ?_
            obtain ⟨h6, hf⟩ := gin_s hf
            refine g_iald C0 hG (L103 hG) h6 dX8_isSeen_42 ?_
            refine lv_aload_n hx hb dX8_isSeen_43 rfl (lv_at hl 0 rfl) ?_
            refine g_getSa (o := 22) (a := 104) C0 hG (L82 hG) rfl 39 (by decide) rfl rfl w_885 dX8_isSeen_44 ?_
            refine lv_iload_n hx hb dX8_isSeen_47 rfl (lv_at hl 3 rfl) ?_
            obtain ⟨h7, hf⟩ := gin_s hf
            refine g_iald C0 hG (L104 hG) h7 dX8_isSeen_48 ?_
            obtain ⟨r8, u8, hc8, hf⟩ := obind_s hf
            refine g_doI0 hG (g_runV C0 hG (k_X8_glow l D base Z u1 (gA u1 103 x3_1.toNatClampNeg) (gA u1 104 x3_1.toNatClampNeg) r8 u8 hc8) m_X8_glow v_X8_glow w_1202 (by decide) (g_recv C0 hG (L82 hG) rfl) rfl hl.1 rfl (Nat.le_of_ble_eq_true rfl) dX8_isSeen_49 ⟨Nat.zero_le _, Nat.zero_le _⟩) (fun H locs hG hk => ?_)
            refine lv_istore (lv' := [(4, .int r8), (0, .ref (base + 82)), (1, .int p1), (2, .int p2), (3, .int x3_1)]) hx hb dX8_isSeen_52 hl (by decide) rfl (fun ls hl => ?_)
            refine lv_iload hx hb dX8_isSeen_54 (lv_at hl 0 rfl) ?_
            refine lv_if_ge (tgt := 63) hx hb dX8_isSeen_56 (by decide) (fun c9 => ?_) (fun c9 => ?_)
            · have hf := gif_t c9 hf
              refine lv_iload hx hb dX8_isSeen_63 (lv_at hl 0 rfl) ?_
              refine lv_aload_n hx hb dX8_isSeen_65 rfl (lv_at hl 1 rfl) ?_
              refine g_getSa (o := 23) (a := 105) C0 hG (L82 hG) rfl 40 (by decide) rfl rfl w_886 dX8_isSeen_66 ?_
              refine lv_iload_n hx hb dX8_isSeen_69 rfl (lv_at hl 4 rfl) ?_
              obtain ⟨h10, hf⟩ := gin_s hf
              refine g_iald C0 hG (L105 hG) h10 dX8_isSeen_70 ?_
              refine lv_icmp_eq (tgt := 76) hx hb dX8_isSeen_71 (by decide) (fun c11 => ?_) (fun c11 => ?_)
              · have hf := gif_t c11 hf
                refine lv_iinc (v := x3_1 + (1 : Int32)) (lv' := [(3, .int (x3_1 + (1 : Int32))), (4, .int r8), (0, .ref (base + 82)), (1, .int p1), (2, .int p2)]) hx hb dX8_isSeen_76 hl (k := 4) rfl rfl (by decide) rfl (fun ls hl => ?_)
                refine lv_goto (tgt := 2) hx hb dX8_isSeen_79 (by decide) ?_
                have hf := while_l hX1 hf
                exact ih1 (x3_1 + (1 : Int32)) u8 _ _ ls hG (lv_sub hl [2, 3, 4, 0] rfl) hf
              · have hf := gif_f c11 hf
                refine lv_iconst (v := (0 : Int32)) hx hb dX8_isSeen_74 (by decide) ?_
                have hf := while_r hX1 hf
                obtain ⟨hr1, hu⟩ := gret_s hf
                subst hr1
                subst hu
                subst hQ
                exact g_zret C0 hG hr (by decide) dX8_isSeen_75
            · have hf := gif_f c9 hf
              refine lv_iconst (v := (0 : Int32)) hx hb dX8_isSeen_59 (by decide) ?_
              refine lv_goto (tgt := 65) hx hb dX8_isSeen_60 (by decide) ?_
              refine lv_aload_n hx hb dX8_isSeen_65 rfl (lv_at hl 1 rfl) ?_
              refine g_getSa (o := 23) (a := 105) C0 hG (L82 hG) rfl 40 (by decide) rfl rfl w_886 dX8_isSeen_66 ?_
              refine lv_iload_n hx hb dX8_isSeen_69 rfl (lv_at hl 4 rfl) ?_
              obtain ⟨h12, hf⟩ := gin_s hf
              refine g_iald C0 hG (L105 hG) h12 dX8_isSeen_70 ?_
              refine lv_icmp_eq (tgt := 76) hx hb dX8_isSeen_71 (by decide) (fun c13 => ?_) (fun c13 => ?_)
              · have hf := gif_t c13 hf
                refine lv_iinc (v := x3_1 + (1 : Int32)) (lv' := [(3, .int (x3_1 + (1 : Int32))), (4, .int r8), (0, .ref (base + 82)), (1, .int p1), (2, .int p2)]) hx hb dX8_isSeen_76 hl (k := 4) rfl rfl (by decide) rfl (fun ls hl => ?_)
                refine lv_goto (tgt := 2) hx hb dX8_isSeen_79 (by decide) ?_
                have hf := while_l hX1 hf
                exact ih1 (x3_1 + (1 : Int32)) u8 _ _ ls hG (lv_sub hl [2, 3, 4, 0] rfl) hf
              · have hf := gif_f c13 hf
                refine lv_iconst (v := (0 : Int32)) hx hb dX8_isSeen_74 (by decide) ?_
                have hf := while_r hX1 hf
                obtain ⟨hr1, hu⟩ := gret_s hf
                subst hr1
                subst hu
                subst hQ
                exact g_zret C0 hG hr (by decide) dX8_isSeen_75
          · have hf := gif_f c5 hf
            refine lv_goto (tgt := 76) hx hb dX8_isSeen_33 (by decide) ?_
            refine lv_iinc (v := x3_1 + (1 : Int32)) (lv' := [(3, .int (x3_1 + (1 : Int32))), (0, .ref (base + 82)), (1, .int p1), (2, .int p2)]) hx hb dX8_isSeen_76 hl (k := 3) rfl rfl (by decide) rfl (fun ls hl => ?_)
            refine lv_goto (tgt := 2) hx hb dX8_isSeen_79 (by decide) ?_
            have hf := while_l hX1 hf
            exact ih1 (x3_1 + (1 : Int32)) u1 _ _ ls hG (lv_sub hl [1, 2, 3, 0] rfl) hf
        · have hf := gif_f c3 hf
          refine lv_aload_n hx hb dX8_isSeen_14 rfl (lv_at hl 0 rfl) ?_
          refine g_getSa (o := 21) (a := 103) C0 hG (L82 hG) rfl 38 (by decide) rfl rfl w_884 dX8_isSeen_15 ?_
          refine lv_iload_n hx hb dX8_isSeen_18 rfl (lv_at hl 3 rfl) ?_
          obtain ⟨h14, hf⟩ := gin_s hf
          refine g_iald C0 hG (L103 hG) h14 dX8_isSeen_19 ?_
          refine lv_goto (tgt := 29) hx hb dX8_isSeen_20 (by decide) ?_
          refine lv_iload_n hx hb dX8_isSeen_29 rfl (lv_at hl 2 rfl) ?_
          refine lv_icmp_eq (tgt := 36) hx hb dX8_isSeen_30 (by decide) (fun c15 => ?_) (fun c15 => ?_)
          · have hf := gif_t c15 hf
            refine lv_aload_n hx hb dX8_isSeen_36 rfl (lv_at hl 0 rfl) ?_
            refine lv_aload_n hx hb dX8_isSeen_37 rfl (lv_at hl 0 rfl) ?_
            refine g_getSa (o := 21) (a := 103) C0 hG (L82 hG) rfl 38 (by decide) rfl rfl w_884 dX8_isSeen_38 ?_
            refine lv_iload_n hx hb dX8_isSeen_41 rfl (lv_at hl 3 rfl) ?_
            obtain ⟨h16, hf⟩ := gin_s hf
            refine g_iald C0 hG (L103 hG) h16 dX8_isSeen_42 ?_
            refine lv_aload_n hx hb dX8_isSeen_43 rfl (lv_at hl 0 rfl) ?_
            refine g_getSa (o := 22) (a := 104) C0 hG (L82 hG) rfl 39 (by decide) rfl rfl w_885 dX8_isSeen_44 ?_
            refine lv_iload_n hx hb dX8_isSeen_47 rfl (lv_at hl 3 rfl) ?_
            obtain ⟨h17, hf⟩ := gin_s hf
            refine g_iald C0 hG (L104 hG) h17 dX8_isSeen_48 ?_
            obtain ⟨r18, u18, hc18, hf⟩ := obind_s hf
            refine g_doI0 hG (g_runV C0 hG (k_X8_glow l D base Z u1 (gA u1 103 x3_1.toNatClampNeg) (gA u1 104 x3_1.toNatClampNeg) r18 u18 hc18) m_X8_glow v_X8_glow w_1202 (by decide) (g_recv C0 hG (L82 hG) rfl) rfl hl.1 rfl (Nat.le_of_ble_eq_true rfl) dX8_isSeen_49 ⟨Nat.zero_le _, Nat.zero_le _⟩) (fun H locs hG hk => ?_)
            refine lv_istore (lv' := [(4, .int r18), (0, .ref (base + 82)), (1, .int p1), (2, .int p2), (3, .int x3_1)]) hx hb dX8_isSeen_52 hl (by decide) rfl (fun ls hl => ?_)
            refine lv_iload hx hb dX8_isSeen_54 (lv_at hl 0 rfl) ?_
            refine lv_if_ge (tgt := 63) hx hb dX8_isSeen_56 (by decide) (fun c19 => ?_) (fun c19 => ?_)
            · have hf := gif_t c19 hf
              refine lv_iload hx hb dX8_isSeen_63 (lv_at hl 0 rfl) ?_
              refine lv_aload_n hx hb dX8_isSeen_65 rfl (lv_at hl 1 rfl) ?_
              refine g_getSa (o := 23) (a := 105) C0 hG (L82 hG) rfl 40 (by decide) rfl rfl w_886 dX8_isSeen_66 ?_
              refine lv_iload_n hx hb dX8_isSeen_69 rfl (lv_at hl 4 rfl) ?_
              obtain ⟨h20, hf⟩ := gin_s hf
              refine g_iald C0 hG (L105 hG) h20 dX8_isSeen_70 ?_
              refine lv_icmp_eq (tgt := 76) hx hb dX8_isSeen_71 (by decide) (fun c21 => ?_) (fun c21 => ?_)
              · have hf := gif_t c21 hf
                refine lv_iinc (v := x3_1 + (1 : Int32)) (lv' := [(3, .int (x3_1 + (1 : Int32))), (4, .int r18), (0, .ref (base + 82)), (1, .int p1), (2, .int p2)]) hx hb dX8_isSeen_76 hl (k := 4) rfl rfl (by decide) rfl (fun ls hl => ?_)
                refine lv_goto (tgt := 2) hx hb dX8_isSeen_79 (by decide) ?_
                have hf := while_l hX1 hf
                exact ih1 (x3_1 + (1 : Int32)) u18 _ _ ls hG (lv_sub hl [2, 3, 4, 0] rfl) hf
              · have hf := gif_f c21 hf
                refine lv_iconst (v := (0 : Int32)) hx hb dX8_isSeen_74 (by decide) ?_
                have hf := while_r hX1 hf
                obtain ⟨hr1, hu⟩ := gret_s hf
                subst hr1
                subst hu
                subst hQ
                exact g_zret C0 hG hr (by decide) dX8_isSeen_75
            · have hf := gif_f c19 hf
              refine lv_iconst (v := (0 : Int32)) hx hb dX8_isSeen_59 (by decide) ?_
              refine lv_goto (tgt := 65) hx hb dX8_isSeen_60 (by decide) ?_
              refine lv_aload_n hx hb dX8_isSeen_65 rfl (lv_at hl 1 rfl) ?_
              refine g_getSa (o := 23) (a := 105) C0 hG (L82 hG) rfl 40 (by decide) rfl rfl w_886 dX8_isSeen_66 ?_
              refine lv_iload_n hx hb dX8_isSeen_69 rfl (lv_at hl 4 rfl) ?_
              obtain ⟨h22, hf⟩ := gin_s hf
              refine g_iald C0 hG (L105 hG) h22 dX8_isSeen_70 ?_
              refine lv_icmp_eq (tgt := 76) hx hb dX8_isSeen_71 (by decide) (fun c23 => ?_) (fun c23 => ?_)
              · have hf := gif_t c23 hf
                refine lv_iinc (v := x3_1 + (1 : Int32)) (lv' := [(3, .int (x3_1 + (1 : Int32))), (4, .int r18), (0, .ref (base + 82)), (1, .int p1), (2, .int p2)]) hx hb dX8_isSeen_76 hl (k := 4) rfl rfl (by decide) rfl (fun ls hl => ?_)
                refine lv_goto (tgt := 2) hx hb dX8_isSeen_79 (by decide) ?_
                have hf := while_l hX1 hf
                exact ih1 (x3_1 + (1 : Int32)) u18 _ _ ls hG (lv_sub hl [2, 3, 4, 0] rfl) hf
              · have hf := gif_f c23 hf
                refine lv_iconst (v := (0 : Int32)) hx hb dX8_isSeen_74 (by decide) ?_
                have hf := while_r hX1 hf
                obtain ⟨hr1, hu⟩ := gret_s hf
                subst hr1
                subst hu
                subst hQ
                exact g_zret C0 hG hr (by decide) dX8_isSeen_75
          · have hf := gif_f c15 hf
            refine lv_goto (tgt := 76) hx hb dX8_isSeen_33 (by decide) ?_
            refine lv_iinc (v := x3_1 + (1 : Int32)) (lv' := [(3, .int (x3_1 + (1 : Int32))), (0, .ref (base + 82)), (1, .int p1), (2, .int p2)]) hx hb dX8_isSeen_76 hl (k := 3) rfl rfl (by decide) rfl (fun ls hl => ?_)
            refine lv_goto (tgt := 2) hx hb dX8_isSeen_79 (by decide) ?_
            have hf := while_l hX1 hf
            exact ih1 (x3_1 + (1 : Int32)) u1 _ _ ls hG (lv_sub hl [1, 2, 3, 0] rfl) hf
  exact loop1 FUEL (0 : Int32) u _ _ ls hG (lv_sub hl [1, 2, 3, 0] rfl) hf
theorem dX8_canOne_0 : decode cX8_canOne 0 = .ok (.aload_n 0, 1) := by decide +kernel
theorem dX8_canOne_1 : decode cX8_canOne 1 = .ok (.getfield 29, 3) := by decide +kernel
theorem dX8_canOne_4 : decode cX8_canOne 4 = .ok (.iload_n 1, 1) := by decide +kernel
theorem dX8_canOne_5 : decode cX8_canOne 5 = .ok (.iaload, 1) := by decide +kernel
theorem dX8_canOne_6 : decode cX8_canOne 6 = .ok (.istore_n 3, 1) := by decide +kernel
theorem dX8_canOne_7 : decode cX8_canOne 7 = .ok (.iconst 0, 1) := by decide +kernel
theorem dX8_canOne_8 : decode cX8_canOne 8 = .ok (.istore 4, 2) := by decide +kernel
theorem dX8_canOne_10 : decode cX8_canOne 10 = .ok (.bipush (-5), 2) := by decide +kernel
theorem dX8_canOne_12 : decode cX8_canOne 12 = .ok (.istore 5, 2) := by decide +kernel
theorem dX8_canOne_14 : decode cX8_canOne 14 = .ok (.bipush 9, 2) := by decide +kernel
theorem dX8_canOne_16 : decode cX8_canOne 16 = .ok (.istore 6, 2) := by decide +kernel
theorem dX8_canOne_18 : decode cX8_canOne 18 = .ok (.iload 6, 2) := by decide +kernel
theorem dX8_canOne_20 : decode cX8_canOne 20 = .ok (.ifCond .lt 36, 3) := by decide +kernel
theorem dX8_canOne_23 : decode cX8_canOne 23 = .ok (.aload_n 0, 1) := by decide +kernel
theorem dX8_canOne_24 : decode cX8_canOne 24 = .ok (.getfield 29, 3) := by decide +kernel
theorem dX8_canOne_27 : decode cX8_canOne 27 = .ok (.iload_n 1, 1) := by decide +kernel
theorem dX8_canOne_28 : decode cX8_canOne 28 = .ok (.iload 6, 2) := by decide +kernel
theorem dX8_canOne_30 : decode cX8_canOne 30 = .ok (.iastore, 1) := by decide +kernel
theorem dX8_canOne_31 : decode cX8_canOne 31 = .ok (.aload_n 0, 1) := by decide +kernel
theorem dX8_canOne_32 : decode cX8_canOne 32 = .ok (.iconst 1, 1) := by decide +kernel
theorem dX8_canOne_33 : decode cX8_canOne 33 = .ok (.iload_n 1, 1) := by decide +kernel
theorem dX8_canOne_34 : decode cX8_canOne 34 = .ok (.invokevirtual 379, 3) := by decide +kernel
theorem dX8_canOne_37 : decode cX8_canOne 37 = .ok (.ifCond .ne 6, 3) := by decide +kernel
theorem dX8_canOne_40 : decode cX8_canOne 40 = .ok (.goto 10, 3) := by decide +kernel
theorem dX8_canOne_43 : decode cX8_canOne 43 = .ok (.iinc 4 1, 3) := by decide +kernel
theorem dX8_canOne_46 : decode cX8_canOne 46 = .ok (.iload 6, 2) := by decide +kernel
theorem dX8_canOne_48 : decode cX8_canOne 48 = .ok (.istore 5, 2) := by decide +kernel
theorem dX8_canOne_50 : decode cX8_canOne 50 = .ok (.iinc 6 (-1), 3) := by decide +kernel
theorem dX8_canOne_53 : decode cX8_canOne 53 = .ok (.goto (-35), 3) := by decide +kernel
theorem dX8_canOne_56 : decode cX8_canOne 56 = .ok (.aload_n 0, 1) := by decide +kernel
theorem dX8_canOne_57 : decode cX8_canOne 57 = .ok (.getfield 29, 3) := by decide +kernel
theorem dX8_canOne_60 : decode cX8_canOne 60 = .ok (.iload_n 1, 1) := by decide +kernel
theorem dX8_canOne_61 : decode cX8_canOne 61 = .ok (.iload_n 3, 1) := by decide +kernel
theorem dX8_canOne_62 : decode cX8_canOne 62 = .ok (.iastore, 1) := by decide +kernel
theorem dX8_canOne_63 : decode cX8_canOne 63 = .ok (.iload_n 2, 1) := by decide +kernel
theorem dX8_canOne_64 : decode cX8_canOne 64 = .ok (.ifCond .ne 8, 3) := by decide +kernel
theorem dX8_canOne_67 : decode cX8_canOne 67 = .ok (.iload 4, 2) := by decide +kernel
theorem dX8_canOne_69 : decode cX8_canOne 69 = .ok (.goto 5, 3) := by decide +kernel
theorem dX8_canOne_72 : decode cX8_canOne 72 = .ok (.iload 5, 2) := by decide +kernel
theorem dX8_canOne_74 : decode cX8_canOne 74 = .ok (.ireturn, 1) := by decide +kernel
def f_X8_canOne_L18 (p1 : Int32) (p2 : Int32) (u : Mem) (x4_2 : Int32) (x5_2 : Int32) (x6_2 : Int32) (u2 : Mem) : Option ((Int32 × Int32 × Int32 × Mem) ⊕ (Int32 × Mem)) := (if x6_2 < 0 then gin p1 6 ((if p2 = 0 then some (Sum.inr (x4_2, sA u2 84 p1.toNatClampNeg (gA u 84 p1.toNatClampNeg))) else some (Sum.inr (x5_2, sA u2 84 p1.toNatClampNeg (gA u 84 p1.toNatClampNeg))))) else gin p1 6 (obind (f_X8_isSeen (1 : Int32) p1 (sA u2 84 p1.toNatClampNeg x6_2)) (fun r7 u7 => (if r7 = 0 then some (Sum.inl (x4_2, (x5_2, (x6_2 + (-1 : Int32), u7)))) else some (Sum.inl (x4_2 + (1 : Int32), (x6_2, (x6_2 + (-1 : Int32), u7))))))))
def f_X8_canOne (p1 : Int32) (p2 : Int32) (u : Mem) : Option (Int32 × Mem) := gin p1 6 (whileO (fun s => f_X8_canOne_L18 p1 p2 u s.1 s.2.1 s.2.2.1 s.2.2.2) FUEL ((0 : Int32), ((-5 : Int32), ((9 : Int32), u))))
set_option maxHeartbeats 4000000 in
set_option maxRecDepth 100000 in
theorem k_X8_canOne (l : Launch) (D : gDt) (base : Nat) (Z : gZt) (u : Mem) (p1 : Int32) (p2 : Int32) (r : Int32) (u' : Mem) (hf : f_X8_canOne p1 p2 u = some (r, u')) : Met l yX8_canOne (gws yX8_canOne cX8_canOne 7 (some .int)) (gRm 6 0 0) (gPc D base Z u [.ref (base + 82), .int p1, .int p2]) (gQi D base r u') 0 0 (gF base) := by
  refine Met.ofW (cc := cX8_canOne) (maxL := 7) (ret := some .int) (by decide) rfl ?_
  intro p e s m args below meth c s₁ B hml hv
  obtain ⟨rfl, C0, hG⟩ := g_enter B hml hv
  have hr := B.returns
  have C0 : gC p s m meth c _ cX8_canOne 7 RX8 D base Z := C0
  have hx := C0.1
  have hb := C0.2.1
  have hl := lv_entry ([.ref (base + 82), .int p1, .int p2]) (n := 7) (Nat.le_of_ble_eq_true rfl)
  rw [lg_entry_eq]
  generalize (lg_sl ([.ref (base + 82), .int p1, .int p2]) ++ List.replicate (7 - (lg_sl ([.ref (base + 82), .int p1, .int p2])).length) Slot.unset).toArray = ls at hl ⊢
  have hl : lv_has ls 7 [(0, .ref (base + 82)), (1, .int p1), (2, .int p2)] := hl
  obtain ⟨Q, hQ⟩ : ∃ Q, Q = MQ below (gQi D base r u') ([.ref (base + 82), .int p1, .int p2] : List Value).toArray s 0 0 (gF base) := ⟨_, rfl⟩
  rw [← hQ]
  change W p l e (gRm 6 0 0) s m _ below meth c _ _ _ _ _ _
  unfold f_X8_canOne at hf
  refine lv_aload_n hx hb dX8_canOne_0 rfl (lv_at hl 0 rfl) ?_
  refine g_getSa (o := 2) (a := 84) C0 hG (L82 hG) rfl 6 (by decide) rfl rfl w_852 dX8_canOne_1 ?_
  refine lv_iload_n hx hb dX8_canOne_4 rfl (lv_at hl 1 rfl) ?_
  obtain ⟨h1, hf⟩ := gin_s hf
  refine g_iald C0 hG (L84 hG) h1 dX8_canOne_5 ?_
  refine lv_istore_n (lv' := [(3, .int (gA u 84 p1.toNatClampNeg)), (0, .ref (base + 82)), (1, .int p1), (2, .int p2)]) hx hb dX8_canOne_6 rfl hl (by decide) rfl (fun ls hl => ?_)
  refine lv_iconst (v := (0 : Int32)) hx hb dX8_canOne_7 (by decide) ?_
  refine lv_istore (lv' := [(4, .int (0 : Int32)), (3, .int (gA u 84 p1.toNatClampNeg)), (0, .ref (base + 82)), (1, .int p1), (2, .int p2)]) hx hb dX8_canOne_8 hl (by decide) rfl (fun ls hl => ?_)
  refine lv_bipush (v := (-5 : Int32)) hx hb dX8_canOne_10 (by decide) ?_
  refine lv_istore (lv' := [(5, .int (-5 : Int32)), (4, .int (0 : Int32)), (3, .int (gA u 84 p1.toNatClampNeg)), (0, .ref (base + 82)), (1, .int p1), (2, .int p2)]) hx hb dX8_canOne_12 hl (by decide) rfl (fun ls hl => ?_)
  refine lv_bipush (v := (9 : Int32)) hx hb dX8_canOne_14 (by decide) ?_
  refine lv_istore (lv' := [(6, .int (9 : Int32)), (5, .int (-5 : Int32)), (4, .int (0 : Int32)), (3, .int (gA u 84 p1.toNatClampNeg)), (0, .ref (base + 82)), (1, .int p1), (2, .int p2)]) hx hb dX8_canOne_16 hl (by decide) rfl (fun ls hl => ?_)
  have loop2 : ∀ (n2 : Nat) (x4_2 : Int32) (x5_2 : Int32) (x6_2 : Int32) (u2 : Mem) (H : Heap) (locs : List Loc) (ls : Array Slot), gH D base s u2 H locs → lv_has ls 7 [(0, .ref (base + 82)), (1, .int p1), (2, .int p2), (3, .int (gA u 84 p1.toNatClampNeg)), (4, .int x4_2), (5, .int x5_2), (6, .int x6_2)] → whileO (fun s => f_X8_canOne_L18 p1 p2 u s.1 s.2.1 s.2.2.1 s.2.2.2) n2 (x4_2, (x5_2, (x6_2, u2))) = some (r, u') → W p l e (gRm 6 0 0) s m ([.ref (base + 82), .int p1, .int p2] : List Value).toArray below meth c H locs 0 0 Q (F0 m 18 ls []) := by
    intro n2
    induction n2 with
    | zero => intro x4_2 x5_2 x6_2 u2 H locs ls hG hl hf; cases hf
    | succ n2 ih2 =>
      intro x4_2 x5_2 x6_2 u2 H locs ls hG hl hf
      obtain ⟨X2, hf, hX2⟩ := while_s hf
      have hf : f_X8_canOne_L18 p1 p2 u x4_2 x5_2 x6_2 u2 = some X2 := hf
      unfold f_X8_canOne_L18 at hf
      refine lv_iload hx hb dX8_canOne_18 (lv_at hl 6 rfl) ?_
      refine lv_if_lt (tgt := 56) hx hb dX8_canOne_20 (by decide) (fun c3 => ?_) (fun c3 => ?_)
      · have hf := gif_t c3 hf
        refine lv_aload_n hx hb dX8_canOne_56 rfl (lv_at hl 0 rfl) ?_
        refine g_getSa (o := 2) (a := 84) C0 hG (L82 hG) rfl 6 (by decide) rfl rfl w_852 dX8_canOne_57 ?_
        refine lv_iload_n hx hb dX8_canOne_60 rfl (lv_at hl 1 rfl) ?_
        refine lv_iload_n hx hb dX8_canOne_61 rfl (lv_at hl 3 rfl) ?_
        obtain ⟨h4, hf⟩ := gin_s hf
        refine g_iast C0 hG (L84 hG) h4 dX8_canOne_62 (fun H locs hG => ?_)
        refine lv_iload_n hx hb dX8_canOne_63 rfl (lv_at hl 2 rfl) ?_
        refine lv_if_ne (tgt := 72) hx hb dX8_canOne_64 (by decide) (fun c5 => ?_) (fun c5 => ?_)
        · have hf := gif_f c5 hf
          refine lv_iload hx hb dX8_canOne_72 (lv_at hl 5 rfl) ?_
          have hf := while_r hX2 hf
          obtain ⟨hr1, hu⟩ := gret_s hf
          subst hr1
          subst hu
          subst hQ
          exact g_iret C0 hG hr dX8_canOne_74
        · have hf := gif_t c5 hf
          refine lv_iload hx hb dX8_canOne_67 (lv_at hl 4 rfl) ?_
          refine lv_goto (tgt := 74) hx hb dX8_canOne_69 (by decide) ?_
          have hf := while_r hX2 hf
          obtain ⟨hr1, hu⟩ := gret_s hf
          subst hr1
          subst hu
          subst hQ
          exact g_iret C0 hG hr dX8_canOne_74
      · have hf := gif_f c3 hf
        refine lv_aload_n hx hb dX8_canOne_23 rfl (lv_at hl 0 rfl) ?_
        refine g_getSa (o := 2) (a := 84) C0 hG (L82 hG) rfl 6 (by decide) rfl rfl w_852 dX8_canOne_24 ?_
        refine lv_iload_n hx hb dX8_canOne_27 rfl (lv_at hl 1 rfl) ?_
        refine lv_iload hx hb dX8_canOne_28 (lv_at hl 6 rfl) ?_
        obtain ⟨h6, hf⟩ := gin_s hf
        refine g_iast C0 hG (L84 hG) h6 dX8_canOne_30 (fun H locs hG => ?_)
        refine lv_aload_n hx hb dX8_canOne_31 rfl (lv_at hl 0 rfl) ?_
        refine lv_iconst (v := (1 : Int32)) hx hb dX8_canOne_32 (by decide) ?_
        refine lv_iload_n hx hb dX8_canOne_33 rfl (lv_at hl 1 rfl) ?_
        obtain ⟨r7, u7, hc7, hf⟩ := obind_s hf
        refine g_doI0 hG (g_runV C0 hG (k_X8_isSeen l D base Z (sA u2 84 p1.toNatClampNeg x6_2) (1 : Int32) p1 r7 u7 hc7) m_X8_isSeen v_X8_isSeen w_1315 (by decide) (g_recv C0 hG (L82 hG) rfl) rfl hl.1 rfl (Nat.le_of_ble_eq_true rfl) dX8_canOne_34 ⟨Nat.zero_le _, Nat.zero_le _⟩) (fun H locs hG hk => ?_)
        refine lv_if_ne (tgt := 43) hx hb dX8_canOne_37 (by decide) (fun c8 => ?_) (fun c8 => ?_)
        · have hf := gif_f c8 hf
          refine lv_iinc (v := x4_2 + (1 : Int32)) (lv' := [(4, .int (x4_2 + (1 : Int32))), (0, .ref (base + 82)), (1, .int p1), (2, .int p2), (3, .int (gA u 84 p1.toNatClampNeg)), (5, .int x5_2), (6, .int x6_2)]) hx hb dX8_canOne_43 hl (k := 4) rfl rfl (by decide) rfl (fun ls hl => ?_)
          refine lv_iload hx hb dX8_canOne_46 (lv_at hl 6 rfl) ?_
          refine lv_istore (lv' := [(5, .int x6_2), (4, .int (x4_2 + (1 : Int32))), (0, .ref (base + 82)), (1, .int p1), (2, .int p2), (3, .int (gA u 84 p1.toNatClampNeg)), (6, .int x6_2)]) hx hb dX8_canOne_48 hl (by decide) rfl (fun ls hl => ?_)
          refine lv_iinc (v := x6_2 + (-1 : Int32)) (lv' := [(6, .int (x6_2 + (-1 : Int32))), (5, .int x6_2), (4, .int (x4_2 + (1 : Int32))), (0, .ref (base + 82)), (1, .int p1), (2, .int p2), (3, .int (gA u 84 p1.toNatClampNeg))]) hx hb dX8_canOne_50 hl (k := 6) rfl rfl (by decide) rfl (fun ls hl => ?_)
          refine lv_goto (tgt := 18) hx hb dX8_canOne_53 (by decide) ?_
          have hf := while_l hX2 hf
          exact ih2 (x4_2 + (1 : Int32)) x6_2 (x6_2 + (-1 : Int32)) u7 _ _ ls hG (lv_sub hl [3, 4, 5, 6, 2, 1, 0] rfl) hf
        · have hf := gif_t c8 hf
          refine lv_goto (tgt := 50) hx hb dX8_canOne_40 (by decide) ?_
          refine lv_iinc (v := x6_2 + (-1 : Int32)) (lv' := [(6, .int (x6_2 + (-1 : Int32))), (0, .ref (base + 82)), (1, .int p1), (2, .int p2), (3, .int (gA u 84 p1.toNatClampNeg)), (4, .int x4_2), (5, .int x5_2)]) hx hb dX8_canOne_50 hl (k := 6) rfl rfl (by decide) rfl (fun ls hl => ?_)
          refine lv_goto (tgt := 18) hx hb dX8_canOne_53 (by decide) ?_
          have hf := while_l hX2 hf
          exact ih2 x4_2 x5_2 (x6_2 + (-1 : Int32)) u7 _ _ ls hG (lv_sub hl [1, 2, 3, 4, 5, 6, 0] rfl) hf
  exact loop2 FUEL (0 : Int32) (-5 : Int32) (9 : Int32) u _ _ ls hG (lv_sub hl [4, 5, 6, 3, 2, 1, 0] rfl) hf
theorem dX8_stale_0 : decode cX8_stale 0 = .ok (.aload_n 0, 1) := by decide +kernel
theorem dX8_stale_1 : decode cX8_stale 1 = .ok (.getfield 41, 3) := by decide +kernel
theorem dX8_stale_4 : decode cX8_stale 4 = .ok (.iload_n 1, 1) := by decide +kernel
theorem dX8_stale_5 : decode cX8_stale 5 = .ok (.iaload, 1) := by decide +kernel
theorem dX8_stale_6 : decode cX8_stale 6 = .ok (.istore_n 3, 1) := by decide +kernel
theorem dX8_stale_7 : decode cX8_stale 7 = .ok (.iconst 0, 1) := by decide +kernel
theorem dX8_stale_8 : decode cX8_stale 8 = .ok (.istore 4, 2) := by decide +kernel
theorem dX8_stale_10 : decode cX8_stale 10 = .ok (.bipush (-5), 2) := by decide +kernel
theorem dX8_stale_12 : decode cX8_stale 12 = .ok (.istore 5, 2) := by decide +kernel
theorem dX8_stale_14 : decode cX8_stale 14 = .ok (.bipush 99, 2) := by decide +kernel
theorem dX8_stale_16 : decode cX8_stale 16 = .ok (.istore 6, 2) := by decide +kernel
theorem dX8_stale_18 : decode cX8_stale 18 = .ok (.iload 6, 2) := by decide +kernel
theorem dX8_stale_20 : decode cX8_stale 20 = .ok (.ifCond .lt 36, 3) := by decide +kernel
theorem dX8_stale_23 : decode cX8_stale 23 = .ok (.aload_n 0, 1) := by decide +kernel
theorem dX8_stale_24 : decode cX8_stale 24 = .ok (.getfield 41, 3) := by decide +kernel
theorem dX8_stale_27 : decode cX8_stale 27 = .ok (.iload_n 1, 1) := by decide +kernel
theorem dX8_stale_28 : decode cX8_stale 28 = .ok (.iload 6, 2) := by decide +kernel
theorem dX8_stale_30 : decode cX8_stale 30 = .ok (.iastore, 1) := by decide +kernel
theorem dX8_stale_31 : decode cX8_stale 31 = .ok (.aload_n 0, 1) := by decide +kernel
theorem dX8_stale_32 : decode cX8_stale 32 = .ok (.iconst 0, 1) := by decide +kernel
theorem dX8_stale_33 : decode cX8_stale 33 = .ok (.iload_n 1, 1) := by decide +kernel
theorem dX8_stale_34 : decode cX8_stale 34 = .ok (.invokevirtual 379, 3) := by decide +kernel
theorem dX8_stale_37 : decode cX8_stale 37 = .ok (.ifCond .ne 6, 3) := by decide +kernel
theorem dX8_stale_40 : decode cX8_stale 40 = .ok (.goto 10, 3) := by decide +kernel
theorem dX8_stale_43 : decode cX8_stale 43 = .ok (.iinc 4 1, 3) := by decide +kernel
theorem dX8_stale_46 : decode cX8_stale 46 = .ok (.iload 6, 2) := by decide +kernel
theorem dX8_stale_48 : decode cX8_stale 48 = .ok (.istore 5, 2) := by decide +kernel
theorem dX8_stale_50 : decode cX8_stale 50 = .ok (.iinc 6 (-1), 3) := by decide +kernel
theorem dX8_stale_53 : decode cX8_stale 53 = .ok (.goto (-35), 3) := by decide +kernel
theorem dX8_stale_56 : decode cX8_stale 56 = .ok (.aload_n 0, 1) := by decide +kernel
theorem dX8_stale_57 : decode cX8_stale 57 = .ok (.getfield 41, 3) := by decide +kernel
theorem dX8_stale_60 : decode cX8_stale 60 = .ok (.iload_n 1, 1) := by decide +kernel
theorem dX8_stale_61 : decode cX8_stale 61 = .ok (.iload_n 3, 1) := by decide +kernel
theorem dX8_stale_62 : decode cX8_stale 62 = .ok (.iastore, 1) := by decide +kernel
theorem dX8_stale_63 : decode cX8_stale 63 = .ok (.iload_n 2, 1) := by decide +kernel
theorem dX8_stale_64 : decode cX8_stale 64 = .ok (.ifCond .ne 8, 3) := by decide +kernel
theorem dX8_stale_67 : decode cX8_stale 67 = .ok (.iload 4, 2) := by decide +kernel
theorem dX8_stale_69 : decode cX8_stale 69 = .ok (.goto 5, 3) := by decide +kernel
theorem dX8_stale_72 : decode cX8_stale 72 = .ok (.iload 5, 2) := by decide +kernel
theorem dX8_stale_74 : decode cX8_stale 74 = .ok (.ireturn, 1) := by decide +kernel
def f_X8_stale_L18 (p1 : Int32) (p2 : Int32) (u : Mem) (x4_2 : Int32) (x5_2 : Int32) (x6_2 : Int32) (u2 : Mem) : Option ((Int32 × Int32 × Int32 × Mem) ⊕ (Int32 × Mem)) := (if x6_2 < 0 then gin p1 8 ((if p2 = 0 then some (Sum.inr (x4_2, sA u2 88 p1.toNatClampNeg (gA u 88 p1.toNatClampNeg))) else some (Sum.inr (x5_2, sA u2 88 p1.toNatClampNeg (gA u 88 p1.toNatClampNeg))))) else gin p1 8 (obind (f_X8_isSeen (0 : Int32) p1 (sA u2 88 p1.toNatClampNeg x6_2)) (fun r7 u7 => (if r7 = 0 then some (Sum.inl (x4_2, (x5_2, (x6_2 + (-1 : Int32), u7)))) else some (Sum.inl (x4_2 + (1 : Int32), (x6_2, (x6_2 + (-1 : Int32), u7))))))))
def f_X8_stale (p1 : Int32) (p2 : Int32) (u : Mem) : Option (Int32 × Mem) := gin p1 8 (whileO (fun s => f_X8_stale_L18 p1 p2 u s.1 s.2.1 s.2.2.1 s.2.2.2) FUEL ((0 : Int32), ((-5 : Int32), ((99 : Int32), u))))
set_option maxHeartbeats 4000000 in
set_option maxRecDepth 100000 in
theorem k_X8_stale (l : Launch) (D : gDt) (base : Nat) (Z : gZt) (u : Mem) (p1 : Int32) (p2 : Int32) (r : Int32) (u' : Mem) (hf : f_X8_stale p1 p2 u = some (r, u')) : Met l yX8_stale (gws yX8_stale cX8_stale 7 (some .int)) (gRm 6 0 0) (gPc D base Z u [.ref (base + 82), .int p1, .int p2]) (gQi D base r u') 0 0 (gF base) := by
  refine Met.ofW (cc := cX8_stale) (maxL := 7) (ret := some .int) (by decide) rfl ?_
  intro p e s m args below meth c s₁ B hml hv
  obtain ⟨rfl, C0, hG⟩ := g_enter B hml hv
  have hr := B.returns
  have C0 : gC p s m meth c _ cX8_stale 7 RX8 D base Z := C0
  have hx := C0.1
  have hb := C0.2.1
  have hl := lv_entry ([.ref (base + 82), .int p1, .int p2]) (n := 7) (Nat.le_of_ble_eq_true rfl)
  rw [lg_entry_eq]
  generalize (lg_sl ([.ref (base + 82), .int p1, .int p2]) ++ List.replicate (7 - (lg_sl ([.ref (base + 82), .int p1, .int p2])).length) Slot.unset).toArray = ls at hl ⊢
  have hl : lv_has ls 7 [(0, .ref (base + 82)), (1, .int p1), (2, .int p2)] := hl
  obtain ⟨Q, hQ⟩ : ∃ Q, Q = MQ below (gQi D base r u') ([.ref (base + 82), .int p1, .int p2] : List Value).toArray s 0 0 (gF base) := ⟨_, rfl⟩
  rw [← hQ]
  change W p l e (gRm 6 0 0) s m _ below meth c _ _ _ _ _ _
  unfold f_X8_stale at hf
  refine lv_aload_n hx hb dX8_stale_0 rfl (lv_at hl 0 rfl) ?_
  refine g_getSa (o := 6) (a := 88) C0 hG (L82 hG) rfl 10 (by decide) rfl rfl w_856 dX8_stale_1 ?_
  refine lv_iload_n hx hb dX8_stale_4 rfl (lv_at hl 1 rfl) ?_
  obtain ⟨h1, hf⟩ := gin_s hf
  refine g_iald C0 hG (L88 hG) h1 dX8_stale_5 ?_
  refine lv_istore_n (lv' := [(3, .int (gA u 88 p1.toNatClampNeg)), (0, .ref (base + 82)), (1, .int p1), (2, .int p2)]) hx hb dX8_stale_6 rfl hl (by decide) rfl (fun ls hl => ?_)
  refine lv_iconst (v := (0 : Int32)) hx hb dX8_stale_7 (by decide) ?_
  refine lv_istore (lv' := [(4, .int (0 : Int32)), (3, .int (gA u 88 p1.toNatClampNeg)), (0, .ref (base + 82)), (1, .int p1), (2, .int p2)]) hx hb dX8_stale_8 hl (by decide) rfl (fun ls hl => ?_)
  refine lv_bipush (v := (-5 : Int32)) hx hb dX8_stale_10 (by decide) ?_
  refine lv_istore (lv' := [(5, .int (-5 : Int32)), (4, .int (0 : Int32)), (3, .int (gA u 88 p1.toNatClampNeg)), (0, .ref (base + 82)), (1, .int p1), (2, .int p2)]) hx hb dX8_stale_12 hl (by decide) rfl (fun ls hl => ?_)
  refine lv_bipush (v := (99 : Int32)) hx hb dX8_stale_14 (by decide) ?_
  refine lv_istore (lv' := [(6, .int (99 : Int32)), (5, .int (-5 : Int32)), (4, .int (0 : Int32)), (3, .int (gA u 88 p1.toNatClampNeg)), (0, .ref (base + 82)), (1, .int p1), (2, .int p2)]) hx hb dX8_stale_16 hl (by decide) rfl (fun ls hl => ?_)
  have loop2 : ∀ (n2 : Nat) (x4_2 : Int32) (x5_2 : Int32) (x6_2 : Int32) (u2 : Mem) (H : Heap) (locs : List Loc) (ls : Array Slot), gH D base s u2 H locs → lv_has ls 7 [(0, .ref (base + 82)), (1, .int p1), (2, .int p2), (3, .int (gA u 88 p1.toNatClampNeg)), (4, .int x4_2), (5, .int x5_2), (6, .int x6_2)] → whileO (fun s => f_X8_stale_L18 p1 p2 u s.1 s.2.1 s.2.2.1 s.2.2.2) n2 (x4_2, (x5_2, (x6_2, u2))) = some (r, u') → W p l e (gRm 6 0 0) s m ([.ref (base + 82), .int p1, .int p2] : List Value).toArray below meth c H locs 0 0 Q (F0 m 18 ls []) := by
    intro n2
    induction n2 with
    | zero => intro x4_2 x5_2 x6_2 u2 H locs ls hG hl hf; cases hf
    | succ n2 ih2 =>
      intro x4_2 x5_2 x6_2 u2 H locs ls hG hl hf
      obtain ⟨X2, hf, hX2⟩ := while_s hf
      have hf : f_X8_stale_L18 p1 p2 u x4_2 x5_2 x6_2 u2 = some X2 := hf
      unfold f_X8_stale_L18 at hf
      refine lv_iload hx hb dX8_stale_18 (lv_at hl 6 rfl) ?_
      refine lv_if_lt (tgt := 56) hx hb dX8_stale_20 (by decide) (fun c3 => ?_) (fun c3 => ?_)
      · have hf := gif_t c3 hf
        refine lv_aload_n hx hb dX8_stale_56 rfl (lv_at hl 0 rfl) ?_
        refine g_getSa (o := 6) (a := 88) C0 hG (L82 hG) rfl 10 (by decide) rfl rfl w_856 dX8_stale_57 ?_
        refine lv_iload_n hx hb dX8_stale_60 rfl (lv_at hl 1 rfl) ?_
        refine lv_iload_n hx hb dX8_stale_61 rfl (lv_at hl 3 rfl) ?_
        obtain ⟨h4, hf⟩ := gin_s hf
        refine g_iast C0 hG (L88 hG) h4 dX8_stale_62 (fun H locs hG => ?_)
        refine lv_iload_n hx hb dX8_stale_63 rfl (lv_at hl 2 rfl) ?_
        refine lv_if_ne (tgt := 72) hx hb dX8_stale_64 (by decide) (fun c5 => ?_) (fun c5 => ?_)
        · have hf := gif_f c5 hf
          refine lv_iload hx hb dX8_stale_72 (lv_at hl 5 rfl) ?_
          have hf := while_r hX2 hf
          obtain ⟨hr1, hu⟩ := gret_s hf
          subst hr1
          subst hu
          subst hQ
          exact g_iret C0 hG hr dX8_stale_74
        · have hf := gif_t c5 hf
          refine lv_iload hx hb dX8_stale_67 (lv_at hl 4 rfl) ?_
          refine lv_goto (tgt := 74) hx hb dX8_stale_69 (by decide) ?_
          have hf := while_r hX2 hf
          obtain ⟨hr1, hu⟩ := gret_s hf
          subst hr1
          subst hu
          subst hQ
          exact g_iret C0 hG hr dX8_stale_74
      · have hf := gif_f c3 hf
        refine lv_aload_n hx hb dX8_stale_23 rfl (lv_at hl 0 rfl) ?_
        refine g_getSa (o := 6) (a := 88) C0 hG (L82 hG) rfl 10 (by decide) rfl rfl w_856 dX8_stale_24 ?_
        refine lv_iload_n hx hb dX8_stale_27 rfl (lv_at hl 1 rfl) ?_
        refine lv_iload hx hb dX8_stale_28 (lv_at hl 6 rfl) ?_
        obtain ⟨h6, hf⟩ := gin_s hf
        refine g_iast C0 hG (L88 hG) h6 dX8_stale_30 (fun H locs hG => ?_)
        refine lv_aload_n hx hb dX8_stale_31 rfl (lv_at hl 0 rfl) ?_
        refine lv_iconst (v := (0 : Int32)) hx hb dX8_stale_32 (by decide) ?_
        refine lv_iload_n hx hb dX8_stale_33 rfl (lv_at hl 1 rfl) ?_
        obtain ⟨r7, u7, hc7, hf⟩ := obind_s hf
        refine g_doI0 hG (g_runV C0 hG (k_X8_isSeen l D base Z (sA u2 88 p1.toNatClampNeg x6_2) (0 : Int32) p1 r7 u7 hc7) m_X8_isSeen v_X8_isSeen w_1315 (by decide) (g_recv C0 hG (L82 hG) rfl) rfl hl.1 rfl (Nat.le_of_ble_eq_true rfl) dX8_stale_34 ⟨Nat.zero_le _, Nat.zero_le _⟩) (fun H locs hG hk => ?_)
        refine lv_if_ne (tgt := 43) hx hb dX8_stale_37 (by decide) (fun c8 => ?_) (fun c8 => ?_)
        · have hf := gif_f c8 hf
          refine lv_iinc (v := x4_2 + (1 : Int32)) (lv' := [(4, .int (x4_2 + (1 : Int32))), (0, .ref (base + 82)), (1, .int p1), (2, .int p2), (3, .int (gA u 88 p1.toNatClampNeg)), (5, .int x5_2), (6, .int x6_2)]) hx hb dX8_stale_43 hl (k := 4) rfl rfl (by decide) rfl (fun ls hl => ?_)
          refine lv_iload hx hb dX8_stale_46 (lv_at hl 6 rfl) ?_
          refine lv_istore (lv' := [(5, .int x6_2), (4, .int (x4_2 + (1 : Int32))), (0, .ref (base + 82)), (1, .int p1), (2, .int p2), (3, .int (gA u 88 p1.toNatClampNeg)), (6, .int x6_2)]) hx hb dX8_stale_48 hl (by decide) rfl (fun ls hl => ?_)
          refine lv_iinc (v := x6_2 + (-1 : Int32)) (lv' := [(6, .int (x6_2 + (-1 : Int32))), (5, .int x6_2), (4, .int (x4_2 + (1 : Int32))), (0, .ref (base + 82)), (1, .int p1), (2, .int p2), (3, .int (gA u 88 p1.toNatClampNeg))]) hx hb dX8_stale_50 hl (k := 6) rfl rfl (by decide) rfl (fun ls hl => ?_)
          refine lv_goto (tgt := 18) hx hb dX8_stale_53 (by decide) ?_
          have hf := while_l hX2 hf
          exact ih2 (x4_2 + (1 : Int32)) x6_2 (x6_2 + (-1 : Int32)) u7 _ _ ls hG (lv_sub hl [3, 4, 5, 6, 2, 1, 0] rfl) hf
        · have hf := gif_t c8 hf
          refine lv_goto (tgt := 50) hx hb dX8_stale_40 (by decide) ?_
          refine lv_iinc (v := x6_2 + (-1 : Int32)) (lv' := [(6, .int (x6_2 + (-1 : Int32))), (0, .ref (base + 82)), (1, .int p1), (2, .int p2), (3, .int (gA u 88 p1.toNatClampNeg)), (4, .int x4_2), (5, .int x5_2)]) hx hb dX8_stale_50 hl (k := 6) rfl rfl (by decide) rfl (fun ls hl => ?_)
          refine lv_goto (tgt := 18) hx hb dX8_stale_53 (by decide) ?_
          have hf := while_l hX2 hf
          exact ih2 x4_2 x5_2 (x6_2 + (-1 : Int32)) u7 _ _ ls hG (lv_sub hl [1, 2, 3, 4, 5, 6, 0] rfl) hf
  exact loop2 FUEL (0 : Int32) (-5 : Int32) (99 : Int32) u _ _ ls hG (lv_sub hl [4, 5, 6, 3, 2, 1, 0] rfl) hf
theorem dX8_can_0 : decode cX8_can 0 = .ok (.aload_n 0, 1) := by decide +kernel
theorem dX8_can_1 : decode cX8_can 1 = .ok (.iload_n 1, 1) := by decide +kernel
theorem dX8_can_2 : decode cX8_can 2 = .ok (.iconst 0, 1) := by decide +kernel
theorem dX8_can_3 : decode cX8_can 3 = .ok (.iconst 1, 1) := by decide +kernel
theorem dX8_can_4 : decode cX8_can 4 = .ok (.invokevirtual 249, 3) := by decide +kernel
theorem dX8_can_7 : decode cX8_can 7 = .ok (.ifCond .eq 36, 3) := by decide +kernel
theorem dX8_can_10 : decode cX8_can 10 = .ok (.iload_n 1, 1) := by decide +kernel
theorem dX8_can_11 : decode cX8_can 11 = .ok (.ifCond .ne 14, 3) := by decide +kernel
theorem dX8_can_14 : decode cX8_can 14 = .ok (.aload_n 0, 1) := by decide +kernel
theorem dX8_can_15 : decode cX8_can 15 = .ok (.iload_n 2, 1) := by decide +kernel
theorem dX8_can_16 : decode cX8_can 16 = .ok (.invokevirtual 260, 3) := by decide +kernel
theorem dX8_can_19 : decode cX8_can 19 = .ok (.ifCond .eq 24, 3) := by decide +kernel
theorem dX8_can_22 : decode cX8_can 22 = .ok (.goto 11, 3) := by decide +kernel
theorem dX8_can_25 : decode cX8_can 25 = .ok (.aload_n 0, 1) := by decide +kernel
theorem dX8_can_26 : decode cX8_can 26 = .ok (.iload_n 2, 1) := by decide +kernel
theorem dX8_can_27 : decode cX8_can 27 = .ok (.invokevirtual 267, 3) := by decide +kernel
theorem dX8_can_30 : decode cX8_can 30 = .ok (.ifCond .eq 13, 3) := by decide +kernel
theorem dX8_can_33 : decode cX8_can 33 = .ok (.aload_n 0, 1) := by decide +kernel
theorem dX8_can_34 : decode cX8_can 34 = .ok (.iload_n 3, 1) := by decide +kernel
theorem dX8_can_35 : decode cX8_can 35 = .ok (.iconst 0, 1) := by decide +kernel
theorem dX8_can_36 : decode cX8_can 36 = .ok (.iconst 1, 1) := by decide +kernel
theorem dX8_can_37 : decode cX8_can 37 = .ok (.invokevirtual 249, 3) := by decide +kernel
theorem dX8_can_40 : decode cX8_can 40 = .ok (.ifCond .ne 5, 3) := by decide +kernel
theorem dX8_can_43 : decode cX8_can 43 = .ok (.iconst (-1), 1) := by decide +kernel
theorem dX8_can_44 : decode cX8_can 44 = .ok (.ireturn, 1) := by decide +kernel
theorem dX8_can_45 : decode cX8_can 45 = .ok (.iload_n 1, 1) := by decide +kernel
theorem dX8_can_46 : decode cX8_can 46 = .ok (.ifCond .ne 12, 3) := by decide +kernel
theorem dX8_can_49 : decode cX8_can 49 = .ok (.aload_n 0, 1) := by decide +kernel
theorem dX8_can_50 : decode cX8_can 50 = .ok (.iload_n 2, 1) := by decide +kernel
theorem dX8_can_51 : decode cX8_can 51 = .ok (.iload_n 3, 1) := by decide +kernel
theorem dX8_can_52 : decode cX8_can 52 = .ok (.invokevirtual 383, 3) := by decide +kernel
theorem dX8_can_55 : decode cX8_can 55 = .ok (.goto 9, 3) := by decide +kernel
theorem dX8_can_58 : decode cX8_can 58 = .ok (.aload_n 0, 1) := by decide +kernel
theorem dX8_can_59 : decode cX8_can 59 = .ok (.iload_n 2, 1) := by decide +kernel
theorem dX8_can_60 : decode cX8_can 60 = .ok (.iload_n 3, 1) := by decide +kernel
theorem dX8_can_61 : decode cX8_can 61 = .ok (.invokevirtual 386, 3) := by decide +kernel
theorem dX8_can_64 : decode cX8_can 64 = .ok (.ireturn, 1) := by decide +kernel
def f_X8_can (p1 : Int32) (p2 : Int32) (p3 : Int32) (u : Mem) : Option (Int32 × Mem) := Option.bind (f_X8_in p1 (0 : Int32) (1 : Int32)) (fun r1 => (if r1 = 0 then some ((-1 : Int32), u) else (if p1 = 0 then Option.bind (f_X8_isOne p2 u) (fun r9 => (if r9 = 0 then some ((-1 : Int32), u) else Option.bind (f_X8_in p3 (0 : Int32) (1 : Int32)) (fun r11 => (if r11 = 0 then some ((-1 : Int32), u) else obind (f_X8_canOne p2 p3 u) (fun r13 u13 => some (r13, u13)))))) else Option.bind (f_X8_isTale p2) (fun r4 => (if r4 = 0 then some ((-1 : Int32), u) else Option.bind (f_X8_in p3 (0 : Int32) (1 : Int32)) (fun r6 => (if r6 = 0 then some ((-1 : Int32), u) else obind (f_X8_stale p2 p3 u) (fun r8 u8 => some (r8, u8)))))))))
set_option maxHeartbeats 4000000 in
set_option maxRecDepth 100000 in
theorem k_X8_can (l : Launch) (D : gDt) (base : Nat) (Z : gZt) (u : Mem) (p1 : Int32) (p2 : Int32) (p3 : Int32) (r : Int32) (u' : Mem) (hf : f_X8_can p1 p2 p3 u = some (r, u')) : Met l yX8_can (gws yX8_can cX8_can 4 (some .int)) (gRm 7 0 0) (gPc D base Z u [.ref (base + 82), .int p1, .int p2, .int p3]) (gQi D base r u') 0 0 (gF base) := by
  refine Met.ofW (cc := cX8_can) (maxL := 4) (ret := some .int) (by decide) rfl ?_
  intro p e s m args below meth c s₁ B hml hv
  obtain ⟨rfl, C0, hG⟩ := g_enter B hml hv
  have hr := B.returns
  have C0 : gC p s m meth c _ cX8_can 4 RX8 D base Z := C0
  have hx := C0.1
  have hb := C0.2.1
  have hl := lv_entry ([.ref (base + 82), .int p1, .int p2, .int p3]) (n := 4) (Nat.le_of_ble_eq_true rfl)
  rw [lg_entry_eq]
  generalize (lg_sl ([.ref (base + 82), .int p1, .int p2, .int p3]) ++ List.replicate (4 - (lg_sl ([.ref (base + 82), .int p1, .int p2, .int p3])).length) Slot.unset).toArray = ls at hl ⊢
  have hl : lv_has ls 4 [(0, .ref (base + 82)), (1, .int p1), (2, .int p2), (3, .int p3)] := hl
  obtain ⟨Q, hQ⟩ : ∃ Q, Q = MQ below (gQi D base r u') ([.ref (base + 82), .int p1, .int p2, .int p3] : List Value).toArray s 0 0 (gF base) := ⟨_, rfl⟩
  rw [← hQ]
  change W p l e (gRm 7 0 0) s m _ below meth c _ _ _ _ _ _
  unfold f_X8_can at hf
  refine lv_aload_n hx hb dX8_can_0 rfl (lv_at hl 0 rfl) ?_
  refine lv_iload_n hx hb dX8_can_1 rfl (lv_at hl 1 rfl) ?_
  refine lv_iconst (v := (0 : Int32)) hx hb dX8_can_2 (by decide) ?_
  refine lv_iconst (v := (1 : Int32)) hx hb dX8_can_3 (by decide) ?_
  obtain ⟨r1, hc1, hf⟩ := pb_s hf
  refine g_doI0 hG (g_runV C0 hG (k_X8_in l D base Z u p1 (0 : Int32) (1 : Int32) r1 hc1) m_X8_in v_X8_in w_1082 (by decide) (g_recv C0 hG (L82 hG) rfl) rfl hl.1 rfl (Nat.le_of_ble_eq_true rfl) dX8_can_4 ⟨Nat.zero_le _, Nat.zero_le _⟩) (fun H locs hG hk => ?_)
  refine lv_if_eq (tgt := 43) hx hb dX8_can_7 (by decide) (fun c2 => ?_) (fun c2 => ?_)
  · have hf := gif_t c2 hf
    refine lv_iconst (v := (-1 : Int32)) hx hb dX8_can_43 (by decide) ?_
    obtain ⟨hr1, hu⟩ := gret_s hf
    subst hr1
    subst hu
    subst hQ
    exact g_iret C0 hG hr dX8_can_44
  · have hf := gif_f c2 hf
    refine lv_iload_n hx hb dX8_can_10 rfl (lv_at hl 1 rfl) ?_
    refine lv_if_ne (tgt := 25) hx hb dX8_can_11 (by decide) (fun c3 => ?_) (fun c3 => ?_)
    · have hf := gif_f c3 hf
      refine lv_aload_n hx hb dX8_can_25 rfl (lv_at hl 0 rfl) ?_
      refine lv_iload_n hx hb dX8_can_26 rfl (lv_at hl 2 rfl) ?_
      obtain ⟨r4, hc4, hf⟩ := pb_s hf
      refine g_doI0 hG (g_runV C0 hG (k_X8_isTale l D base Z u p2 r4 hc4) m_X8_isTale v_X8_isTale w_1122 (by decide) (g_recv C0 hG (L82 hG) rfl) rfl hl.1 rfl (Nat.le_of_ble_eq_true rfl) dX8_can_27 ⟨Nat.zero_le _, Nat.zero_le _⟩) (fun H locs hG hk => ?_)
      refine lv_if_eq (tgt := 43) hx hb dX8_can_30 (by decide) (fun c5 => ?_) (fun c5 => ?_)
      · have hf := gif_t c5 hf
        refine lv_iconst (v := (-1 : Int32)) hx hb dX8_can_43 (by decide) ?_
        obtain ⟨hr1, hu⟩ := gret_s hf
        subst hr1
        subst hu
        subst hQ
        exact g_iret C0 hG hr dX8_can_44
      · have hf := gif_f c5 hf
        refine lv_aload_n hx hb dX8_can_33 rfl (lv_at hl 0 rfl) ?_
        refine lv_iload_n hx hb dX8_can_34 rfl (lv_at hl 3 rfl) ?_
        refine lv_iconst (v := (0 : Int32)) hx hb dX8_can_35 (by decide) ?_
        refine lv_iconst (v := (1 : Int32)) hx hb dX8_can_36 (by decide) ?_
        obtain ⟨r6, hc6, hf⟩ := pb_s hf
        refine g_doI0 hG (g_runV C0 hG (k_X8_in l D base Z u p3 (0 : Int32) (1 : Int32) r6 hc6) m_X8_in v_X8_in w_1082 (by decide) (g_recv C0 hG (L82 hG) rfl) rfl hl.1 rfl (Nat.le_of_ble_eq_true rfl) dX8_can_37 ⟨Nat.zero_le _, Nat.zero_le _⟩) (fun H locs hG hk => ?_)
        refine lv_if_ne (tgt := 45) hx hb dX8_can_40 (by decide) (fun c7 => ?_) (fun c7 => ?_)
        · have hf := gif_f c7 hf
          refine lv_iload_n hx hb dX8_can_45 rfl (lv_at hl 1 rfl) ?_
          refine lv_if_ne (tgt := 58) hx hb dX8_can_46 (by decide) (fun _ => ?_) (fun c => absurd c c3)
          refine lv_aload_n hx hb dX8_can_58 rfl (lv_at hl 0 rfl) ?_
          refine lv_iload_n hx hb dX8_can_59 rfl (lv_at hl 2 rfl) ?_
          refine lv_iload_n hx hb dX8_can_60 rfl (lv_at hl 3 rfl) ?_
          obtain ⟨r8, u8, hc8, hf⟩ := obind_s hf
          refine g_doI0 hG (g_runV C0 hG (k_X8_stale l D base Z u p2 p3 r8 u8 hc8) m_X8_stale v_X8_stale w_1319 (by decide) (g_recv C0 hG (L82 hG) rfl) rfl hl.1 rfl (Nat.le_of_ble_eq_true rfl) dX8_can_61 ⟨Nat.zero_le _, Nat.zero_le _⟩) (fun H locs hG hk => ?_)
          obtain ⟨hr1, hu⟩ := gret_s hf
          subst hr1
          subst hu
          subst hQ
          exact g_iret C0 hG hr dX8_can_64
        · have hf := gif_t c7 hf
          refine lv_iconst (v := (-1 : Int32)) hx hb dX8_can_43 (by decide) ?_
          obtain ⟨hr1, hu⟩ := gret_s hf
          subst hr1
          subst hu
          subst hQ
          exact g_iret C0 hG hr dX8_can_44
    · have hf := gif_t c3 hf
      refine lv_aload_n hx hb dX8_can_14 rfl (lv_at hl 0 rfl) ?_
      refine lv_iload_n hx hb dX8_can_15 rfl (lv_at hl 2 rfl) ?_
      obtain ⟨r9, hc9, hf⟩ := pb_s hf
      refine g_doI0 hG (g_runV C0 hG (k_X8_isOne l D base Z u p2 r9 hc9) m_X8_isOne v_X8_isOne w_1098 (by decide) (g_recv C0 hG (L82 hG) rfl) rfl hl.1 rfl (Nat.le_of_ble_eq_true rfl) dX8_can_16 ⟨Nat.zero_le _, Nat.zero_le _⟩) (fun H locs hG hk => ?_)
      refine lv_if_eq (tgt := 43) hx hb dX8_can_19 (by decide) (fun c10 => ?_) (fun c10 => ?_)
      · have hf := gif_t c10 hf
        refine lv_iconst (v := (-1 : Int32)) hx hb dX8_can_43 (by decide) ?_
        obtain ⟨hr1, hu⟩ := gret_s hf
        subst hr1
        subst hu
        subst hQ
        exact g_iret C0 hG hr dX8_can_44
      · have hf := gif_f c10 hf
        refine lv_goto (tgt := 33) hx hb dX8_can_22 (by decide) ?_
        refine lv_aload_n hx hb dX8_can_33 rfl (lv_at hl 0 rfl) ?_
        refine lv_iload_n hx hb dX8_can_34 rfl (lv_at hl 3 rfl) ?_
        refine lv_iconst (v := (0 : Int32)) hx hb dX8_can_35 (by decide) ?_
        refine lv_iconst (v := (1 : Int32)) hx hb dX8_can_36 (by decide) ?_
        obtain ⟨r11, hc11, hf⟩ := pb_s hf
        refine g_doI0 hG (g_runV C0 hG (k_X8_in l D base Z u p3 (0 : Int32) (1 : Int32) r11 hc11) m_X8_in v_X8_in w_1082 (by decide) (g_recv C0 hG (L82 hG) rfl) rfl hl.1 rfl (Nat.le_of_ble_eq_true rfl) dX8_can_37 ⟨Nat.zero_le _, Nat.zero_le _⟩) (fun H locs hG hk => ?_)
        refine lv_if_ne (tgt := 45) hx hb dX8_can_40 (by decide) (fun c12 => ?_) (fun c12 => ?_)
        · have hf := gif_f c12 hf
          refine lv_iload_n hx hb dX8_can_45 rfl (lv_at hl 1 rfl) ?_
          refine lv_if_ne (tgt := 58) hx hb dX8_can_46 (by decide) (fun c => absurd c3 c) (fun _ => ?_)
          refine lv_aload_n hx hb dX8_can_49 rfl (lv_at hl 0 rfl) ?_
          refine lv_iload_n hx hb dX8_can_50 rfl (lv_at hl 2 rfl) ?_
          refine lv_iload_n hx hb dX8_can_51 rfl (lv_at hl 3 rfl) ?_
          obtain ⟨r13, u13, hc13, hf⟩ := obind_s hf
          refine g_doI0 hG (g_runV C0 hG (k_X8_canOne l D base Z u p2 p3 r13 u13 hc13) m_X8_canOne v_X8_canOne w_1311 (by decide) (g_recv C0 hG (L82 hG) rfl) rfl hl.1 rfl (Nat.le_of_ble_eq_true rfl) dX8_can_52 ⟨Nat.zero_le _, Nat.zero_le _⟩) (fun H locs hG hk => ?_)
          refine lv_goto (tgt := 64) hx hb dX8_can_55 (by decide) ?_
          obtain ⟨hr1, hu⟩ := gret_s hf
          subst hr1
          subst hu
          subst hQ
          exact g_iret C0 hG hr dX8_can_64
        · have hf := gif_t c12 hf
          refine lv_iconst (v := (-1 : Int32)) hx hb dX8_can_43 (by decide) ?_
          obtain ⟨hr1, hu⟩ := gret_s hf
          subst hr1
          subst hu
          subst hQ
          exact g_iret C0 hG hr dX8_can_44
theorem dX8_divisor_0 : decode cX8_divisor 0 = .ok (.iload_n 1, 1) := by decide +kernel
theorem dX8_divisor_1 : decode cX8_divisor 1 = .ok (.istore_n 3, 1) := by decide +kernel
theorem dX8_divisor_2 : decode cX8_divisor 2 = .ok (.iload_n 2, 1) := by decide +kernel
theorem dX8_divisor_3 : decode cX8_divisor 3 = .ok (.istore 4, 2) := by decide +kernel
theorem dX8_divisor_5 : decode cX8_divisor 5 = .ok (.iload 4, 2) := by decide +kernel
theorem dX8_divisor_7 : decode cX8_divisor 7 = .ok (.ifCond .eq 19, 3) := by decide +kernel
theorem dX8_divisor_10 : decode cX8_divisor 10 = .ok (.iload_n 3, 1) := by decide +kernel
theorem dX8_divisor_11 : decode cX8_divisor 11 = .ok (.iload 4, 2) := by decide +kernel
theorem dX8_divisor_13 : decode cX8_divisor 13 = .ok (.irem, 1) := by decide +kernel
theorem dX8_divisor_14 : decode cX8_divisor 14 = .ok (.istore 5, 2) := by decide +kernel
theorem dX8_divisor_16 : decode cX8_divisor 16 = .ok (.iload 4, 2) := by decide +kernel
theorem dX8_divisor_18 : decode cX8_divisor 18 = .ok (.istore_n 3, 1) := by decide +kernel
theorem dX8_divisor_19 : decode cX8_divisor 19 = .ok (.iload 5, 2) := by decide +kernel
theorem dX8_divisor_21 : decode cX8_divisor 21 = .ok (.istore 4, 2) := by decide +kernel
theorem dX8_divisor_23 : decode cX8_divisor 23 = .ok (.goto (-18), 3) := by decide +kernel
theorem dX8_divisor_26 : decode cX8_divisor 26 = .ok (.iload_n 3, 1) := by decide +kernel
theorem dX8_divisor_27 : decode cX8_divisor 27 = .ok (.ireturn, 1) := by decide +kernel
def f_X8_divisor_L5 (x3_1 : Int32) (x4_1 : Int32) : Option ((Int32 × Int32) ⊕ Int32) := (if x4_1 = 0 then some (Sum.inr (x3_1)) else gne x4_1 (some (Sum.inl (x4_1, x3_1 - x3_1 / x4_1 * x4_1))))
def f_X8_divisor (p1 : Int32) (p2 : Int32) : Option (Int32) := whileO (fun s => f_X8_divisor_L5 s.1 s.2) FUEL (p1, p2)
set_option maxHeartbeats 4000000 in
set_option maxRecDepth 100000 in
theorem k_X8_divisor (l : Launch) (D : gDt) (base : Nat) (Z : gZt) (u : Mem) (p1 : Int32) (p2 : Int32) (r : Int32) (hf : f_X8_divisor p1 p2 = some r) : Met l yX8_divisor (gws yX8_divisor cX8_divisor 6 (some .int)) (gRm 1 0 0) (gPc D base Z u [.ref (base + 82), .int p1, .int p2]) (gQi D base r u) 0 0 (gF base) := by
  refine Met.ofW (cc := cX8_divisor) (maxL := 6) (ret := some .int) (by decide) rfl ?_
  intro p e s m args below meth c s₁ B hml hv
  obtain ⟨rfl, C0, hG⟩ := g_enter B hml hv
  have hr := B.returns
  have C0 : gC p s m meth c _ cX8_divisor 6 RX8 D base Z := C0
  have hx := C0.1
  have hb := C0.2.1
  have hl := lv_entry ([.ref (base + 82), .int p1, .int p2]) (n := 6) (Nat.le_of_ble_eq_true rfl)
  rw [lg_entry_eq]
  generalize (lg_sl ([.ref (base + 82), .int p1, .int p2]) ++ List.replicate (6 - (lg_sl ([.ref (base + 82), .int p1, .int p2])).length) Slot.unset).toArray = ls at hl ⊢
  have hl : lv_has ls 6 [(0, .ref (base + 82)), (1, .int p1), (2, .int p2)] := hl
  obtain ⟨Q, hQ⟩ : ∃ Q, Q = MQ below (gQi D base r u) ([.ref (base + 82), .int p1, .int p2] : List Value).toArray s 0 0 (gF base) := ⟨_, rfl⟩
  rw [← hQ]
  change W p l e (gRm 1 0 0) s m _ below meth c _ _ _ _ _ _
  unfold f_X8_divisor at hf
  refine lv_iload_n hx hb dX8_divisor_0 rfl (lv_at hl 1 rfl) ?_
  refine lv_istore_n (lv' := [(3, .int p1), (0, .ref (base + 82)), (1, .int p1), (2, .int p2)]) hx hb dX8_divisor_1 rfl hl (by decide) rfl (fun ls hl => ?_)
  refine lv_iload_n hx hb dX8_divisor_2 rfl (lv_at hl 3 rfl) ?_
  refine lv_istore (lv' := [(4, .int p2), (3, .int p1), (0, .ref (base + 82)), (1, .int p1), (2, .int p2)]) hx hb dX8_divisor_3 hl (by decide) rfl (fun ls hl => ?_)
  have loop1 : ∀ (n1 : Nat) (x3_1 : Int32) (x4_1 : Int32) (H : Heap) (locs : List Loc) (ls : Array Slot), gH D base s u H locs → lv_has ls 6 [(3, .int x3_1), (4, .int x4_1)] → whileO (fun s => f_X8_divisor_L5 s.1 s.2) n1 (x3_1, x4_1) = some r → W p l e (gRm 1 0 0) s m ([.ref (base + 82), .int p1, .int p2] : List Value).toArray below meth c H locs 0 0 Q (F0 m 5 ls []) := by
    intro n1
    induction n1 with
    | zero => intro x3_1 x4_1 H locs ls hG hl hf; cases hf
    | succ n1 ih1 =>
      intro x3_1 x4_1 H locs ls hG hl hf
      obtain ⟨X1, hf, hX1⟩ := while_s hf
      have hf : f_X8_divisor_L5 x3_1 x4_1 = some X1 := hf
      unfold f_X8_divisor_L5 at hf
      refine lv_iload hx hb dX8_divisor_5 (lv_at hl 1 rfl) ?_
      refine lv_if_eq (tgt := 26) hx hb dX8_divisor_7 (by decide) (fun c2 => ?_) (fun c2 => ?_)
      · have hf := gif_t c2 hf
        refine lv_iload_n hx hb dX8_divisor_26 rfl (lv_at hl 0 rfl) ?_
        have hf := while_r hX1 hf
        have hf := Option.some.inj hf
        subst hf
        subst hQ
        exact g_iret C0 hG hr dX8_divisor_27
      · have hf := gif_f c2 hf
        refine lv_iload_n hx hb dX8_divisor_10 rfl (lv_at hl 0 rfl) ?_
        refine lv_iload hx hb dX8_divisor_11 (lv_at hl 1 rfl) ?_
        obtain ⟨h3, hf⟩ := gne_s hf
        refine lv_irem hx hb dX8_divisor_13 h3 ?_
        refine lv_istore (lv' := [(5, .int (x3_1 - x3_1 / x4_1 * x4_1)), (3, .int x3_1), (4, .int x4_1)]) hx hb dX8_divisor_14 hl (by decide) rfl (fun ls hl => ?_)
        refine lv_iload hx hb dX8_divisor_16 (lv_at hl 2 rfl) ?_
        refine lv_istore_n (lv' := [(3, .int x4_1), (5, .int (x3_1 - x3_1 / x4_1 * x4_1)), (4, .int x4_1)]) hx hb dX8_divisor_18 rfl hl (by decide) rfl (fun ls hl => ?_)
        refine lv_iload hx hb dX8_divisor_19 (lv_at hl 1 rfl) ?_
        refine lv_istore (lv' := [(4, .int (x3_1 - x3_1 / x4_1 * x4_1)), (3, .int x4_1), (5, .int (x3_1 - x3_1 / x4_1 * x4_1))]) hx hb dX8_divisor_21 hl (by decide) rfl (fun ls hl => ?_)
        refine lv_goto (tgt := 5) hx hb dX8_divisor_23 (by decide) ?_
        have hf := while_l hX1 hf
        exact ih1 x4_1 (x3_1 - x3_1 / x4_1 * x4_1) _ _ ls hG (lv_sub hl [1, 0] rfl) hf
  exact loop1 FUEL p1 p2 _ _ ls hG (lv_sub hl [1, 0] rfl) hf
theorem dX8_lowest_0 : decode cX8_lowest 0 = .ok (.aload_n 0, 1) := by decide +kernel
theorem dX8_lowest_1 : decode cX8_lowest 1 = .ok (.iload_n 1, 1) := by decide +kernel
theorem dX8_lowest_2 : decode cX8_lowest 2 = .ok (.iload_n 2, 1) := by decide +kernel
theorem dX8_lowest_3 : decode cX8_lowest 3 = .ok (.invokevirtual 389, 3) := by decide +kernel
theorem dX8_lowest_6 : decode cX8_lowest 6 = .ok (.istore 4, 2) := by decide +kernel
theorem dX8_lowest_8 : decode cX8_lowest 8 = .ok (.iload_n 3, 1) := by decide +kernel
theorem dX8_lowest_9 : decode cX8_lowest 9 = .ok (.ifCond .ne 11, 3) := by decide +kernel
theorem dX8_lowest_12 : decode cX8_lowest 12 = .ok (.iload_n 1, 1) := by decide +kernel
theorem dX8_lowest_13 : decode cX8_lowest 13 = .ok (.iload 4, 2) := by decide +kernel
theorem dX8_lowest_15 : decode cX8_lowest 15 = .ok (.idiv, 1) := by decide +kernel
theorem dX8_lowest_16 : decode cX8_lowest 16 = .ok (.i2l, 1) := by decide +kernel
theorem dX8_lowest_17 : decode cX8_lowest 17 = .ok (.goto 8, 3) := by decide +kernel
theorem dX8_lowest_20 : decode cX8_lowest 20 = .ok (.iload_n 2, 1) := by decide +kernel
theorem dX8_lowest_21 : decode cX8_lowest 21 = .ok (.iload 4, 2) := by decide +kernel
theorem dX8_lowest_23 : decode cX8_lowest 23 = .ok (.idiv, 1) := by decide +kernel
theorem dX8_lowest_24 : decode cX8_lowest 24 = .ok (.i2l, 1) := by decide +kernel
theorem dX8_lowest_25 : decode cX8_lowest 25 = .ok (.lreturn, 1) := by decide +kernel
def f_X8_lowest (p1 : Int32) (p2 : Int32) (p3 : Int32) : Option (Int64) := Option.bind (f_X8_divisor p1 p2) (fun r1 => (if p3 = 0 then gne r1 (some ((p1 / r1).toInt64)) else gne r1 (some ((p2 / r1).toInt64))))
set_option maxHeartbeats 4000000 in
set_option maxRecDepth 100000 in
theorem k_X8_lowest (l : Launch) (D : gDt) (base : Nat) (Z : gZt) (u : Mem) (p1 : Int32) (p2 : Int32) (p3 : Int32) (r : Int64) (hf : f_X8_lowest p1 p2 p3 = some r) : Met l yX8_lowest (gws yX8_lowest cX8_lowest 5 (some .long)) (gRm 2 0 0) (gPc D base Z u [.ref (base + 82), .int p1, .int p2, .int p3]) (gQl D base r u) 0 0 (gF base) := by
  refine Met.ofW (cc := cX8_lowest) (maxL := 5) (ret := some .long) (by decide) rfl ?_
  intro p e s m args below meth c s₁ B hml hv
  obtain ⟨rfl, C0, hG⟩ := g_enter B hml hv
  have hr := B.returns
  have C0 : gC p s m meth c _ cX8_lowest 5 RX8 D base Z := C0
  have hx := C0.1
  have hb := C0.2.1
  have hl := lv_entry ([.ref (base + 82), .int p1, .int p2, .int p3]) (n := 5) (Nat.le_of_ble_eq_true rfl)
  rw [lg_entry_eq]
  generalize (lg_sl ([.ref (base + 82), .int p1, .int p2, .int p3]) ++ List.replicate (5 - (lg_sl ([.ref (base + 82), .int p1, .int p2, .int p3])).length) Slot.unset).toArray = ls at hl ⊢
  have hl : lv_has ls 5 [(0, .ref (base + 82)), (1, .int p1), (2, .int p2), (3, .int p3)] := hl
  obtain ⟨Q, hQ⟩ : ∃ Q, Q = MQ below (gQl D base r u) ([.ref (base + 82), .int p1, .int p2, .int p3] : List Value).toArray s 0 0 (gF base) := ⟨_, rfl⟩
  rw [← hQ]
  change W p l e (gRm 2 0 0) s m _ below meth c _ _ _ _ _ _
  unfold f_X8_lowest at hf
  refine lv_aload_n hx hb dX8_lowest_0 rfl (lv_at hl 0 rfl) ?_
  refine lv_iload_n hx hb dX8_lowest_1 rfl (lv_at hl 1 rfl) ?_
  refine lv_iload_n hx hb dX8_lowest_2 rfl (lv_at hl 2 rfl) ?_
  obtain ⟨r1, hc1, hf⟩ := pb_s hf
  refine g_doI0 hG (g_runV C0 hG (k_X8_divisor l D base Z u p1 p2 r1 hc1) m_X8_divisor v_X8_divisor w_1332 (by decide) (g_recv C0 hG (L82 hG) rfl) rfl hl.1 rfl (Nat.le_of_ble_eq_true rfl) dX8_lowest_3 ⟨Nat.zero_le _, Nat.zero_le _⟩) (fun H locs hG hk => ?_)
  refine lv_istore (lv' := [(4, .int r1), (0, .ref (base + 82)), (1, .int p1), (2, .int p2), (3, .int p3)]) hx hb dX8_lowest_6 hl (by decide) rfl (fun ls hl => ?_)
  refine lv_iload_n hx hb dX8_lowest_8 rfl (lv_at hl 4 rfl) ?_
  refine lv_if_ne (tgt := 20) hx hb dX8_lowest_9 (by decide) (fun c2 => ?_) (fun c2 => ?_)
  · have hf := gif_f c2 hf
    refine lv_iload_n hx hb dX8_lowest_20 rfl (lv_at hl 3 rfl) ?_
    refine lv_iload hx hb dX8_lowest_21 (lv_at hl 0 rfl) ?_
    obtain ⟨h3, hf⟩ := gne_s hf
    refine lv_idiv hx hb dX8_lowest_23 h3 ?_
    refine lv_i2l (v := (p2 / r1).toInt64) hx hb dX8_lowest_24 rfl ?_
    have hf := Option.some.inj hf
    subst hf
    subst hQ
    exact g_lret C0 hG hr dX8_lowest_25
  · have hf := gif_t c2 hf
    refine lv_iload_n hx hb dX8_lowest_12 rfl (lv_at hl 2 rfl) ?_
    refine lv_iload hx hb dX8_lowest_13 (lv_at hl 0 rfl) ?_
    obtain ⟨h4, hf⟩ := gne_s hf
    refine lv_idiv hx hb dX8_lowest_15 h4 ?_
    refine lv_i2l (v := (p1 / r1).toInt64) hx hb dX8_lowest_16 rfl ?_
    refine lv_goto (tgt := 25) hx hb dX8_lowest_17 (by decide) ?_
    have hf := Option.some.inj hf
    subst hf
    subst hQ
    exact g_lret C0 hG hr dX8_lowest_25
theorem dX8_odds_0 : decode cX8_odds 0 = .ok (.aload_n 0, 1) := by decide +kernel
theorem dX8_odds_1 : decode cX8_odds 1 = .ok (.iload_n 1, 1) := by decide +kernel
theorem dX8_odds_2 : decode cX8_odds 2 = .ok (.invokevirtual 260, 3) := by decide +kernel
theorem dX8_odds_5 : decode cX8_odds 5 = .ok (.ifCond .eq 24, 3) := by decide +kernel
theorem dX8_odds_8 : decode cX8_odds 8 = .ok (.aload_n 0, 1) := by decide +kernel
theorem dX8_odds_9 : decode cX8_odds 9 = .ok (.iload_n 2, 1) := by decide +kernel
theorem dX8_odds_10 : decode cX8_odds 10 = .ok (.iconst 0, 1) := by decide +kernel
theorem dX8_odds_11 : decode cX8_odds 11 = .ok (.bipush 10, 2) := by decide +kernel
theorem dX8_odds_13 : decode cX8_odds 13 = .ok (.invokevirtual 249, 3) := by decide +kernel
theorem dX8_odds_16 : decode cX8_odds 16 = .ok (.ifCond .eq 13, 3) := by decide +kernel
theorem dX8_odds_19 : decode cX8_odds 19 = .ok (.aload_n 0, 1) := by decide +kernel
theorem dX8_odds_20 : decode cX8_odds 20 = .ok (.iload_n 3, 1) := by decide +kernel
theorem dX8_odds_21 : decode cX8_odds 21 = .ok (.iconst 0, 1) := by decide +kernel
theorem dX8_odds_22 : decode cX8_odds 22 = .ok (.iconst 1, 1) := by decide +kernel
theorem dX8_odds_23 : decode cX8_odds 23 = .ok (.invokevirtual 249, 3) := by decide +kernel
theorem dX8_odds_26 : decode cX8_odds 26 = .ok (.ifCond .ne 7, 3) := by decide +kernel
theorem dX8_odds_29 : decode cX8_odds 29 = .ok (.ldc2_w 392, 3) := by decide +kernel
theorem dX8_odds_32 : decode cX8_odds 32 = .ok (.lreturn, 1) := by decide +kernel
theorem dX8_odds_33 : decode cX8_odds 33 = .ok (.aload_n 0, 1) := by decide +kernel
theorem dX8_odds_34 : decode cX8_odds 34 = .ok (.iload_n 2, 1) := by decide +kernel
theorem dX8_odds_35 : decode cX8_odds 35 = .ok (.iconst 1, 1) := by decide +kernel
theorem dX8_odds_36 : decode cX8_odds 36 = .ok (.invokevirtual 373, 3) := by decide +kernel
theorem dX8_odds_39 : decode cX8_odds 39 = .ok (.istore 4, 2) := by decide +kernel
theorem dX8_odds_41 : decode cX8_odds 41 = .ok (.iconst 0, 1) := by decide +kernel
theorem dX8_odds_42 : decode cX8_odds 42 = .ok (.istore 5, 2) := by decide +kernel
theorem dX8_odds_44 : decode cX8_odds 44 = .ok (.iconst 0, 1) := by decide +kernel
theorem dX8_odds_45 : decode cX8_odds 45 = .ok (.istore 6, 2) := by decide +kernel
theorem dX8_odds_47 : decode cX8_odds 47 = .ok (.iload 6, 2) := by decide +kernel
theorem dX8_odds_49 : decode cX8_odds 49 = .ok (.bipush 8, 2) := by decide +kernel
theorem dX8_odds_51 : decode cX8_odds 51 = .ok (.if_icmp .ge 54, 3) := by decide +kernel
theorem dX8_odds_54 : decode cX8_odds 54 = .ok (.aload_n 0, 1) := by decide +kernel
theorem dX8_odds_55 : decode cX8_odds 55 = .ok (.invokevirtual 367, 3) := by decide +kernel
theorem dX8_odds_58 : decode cX8_odds 58 = .ok (.aload_n 0, 1) := by decide +kernel
theorem dX8_odds_59 : decode cX8_odds 59 = .ok (.getfield 35, 3) := by decide +kernel
theorem dX8_odds_62 : decode cX8_odds 62 = .ok (.iload_n 1, 1) := by decide +kernel
theorem dX8_odds_63 : decode cX8_odds 63 = .ok (.dup2, 1) := by decide +kernel
theorem dX8_odds_64 : decode cX8_odds 64 = .ok (.iaload, 1) := by decide +kernel
theorem dX8_odds_65 : decode cX8_odds 65 = .ok (.iconst 1, 1) := by decide +kernel
theorem dX8_odds_66 : decode cX8_odds 66 = .ok (.iload 6, 2) := by decide +kernel
theorem dX8_odds_68 : decode cX8_odds 68 = .ok (.ishl, 1) := by decide +kernel
theorem dX8_odds_69 : decode cX8_odds 69 = .ok (.ior, 1) := by decide +kernel
theorem dX8_odds_70 : decode cX8_odds 70 = .ok (.iastore, 1) := by decide +kernel
theorem dX8_odds_71 : decode cX8_odds 71 = .ok (.aload_n 0, 1) := by decide +kernel
theorem dX8_odds_72 : decode cX8_odds 72 = .ok (.iload_n 2, 1) := by decide +kernel
theorem dX8_odds_73 : decode cX8_odds 73 = .ok (.invokevirtual 358, 3) := by decide +kernel
theorem dX8_odds_76 : decode cX8_odds 76 = .ok (.iload 5, 2) := by decide +kernel
theorem dX8_odds_78 : decode cX8_odds 78 = .ok (.aload_n 0, 1) := by decide +kernel
theorem dX8_odds_79 : decode cX8_odds 79 = .ok (.getfield 19, 3) := by decide +kernel
theorem dX8_odds_82 : decode cX8_odds 82 = .ok (.iload 4, 2) := by decide +kernel
theorem dX8_odds_84 : decode cX8_odds 84 = .ok (.if_icmp .le 7, 3) := by decide +kernel
theorem dX8_odds_87 : decode cX8_odds 87 = .ok (.iconst 1, 1) := by decide +kernel
theorem dX8_odds_88 : decode cX8_odds 88 = .ok (.goto 4, 3) := by decide +kernel
theorem dX8_odds_91 : decode cX8_odds 91 = .ok (.iconst 0, 1) := by decide +kernel
theorem dX8_odds_92 : decode cX8_odds 92 = .ok (.iadd, 1) := by decide +kernel
theorem dX8_odds_93 : decode cX8_odds 93 = .ok (.istore 5, 2) := by decide +kernel
theorem dX8_odds_95 : decode cX8_odds 95 = .ok (.aload_n 0, 1) := by decide +kernel
theorem dX8_odds_96 : decode cX8_odds 96 = .ok (.invokevirtual 370, 3) := by decide +kernel
theorem dX8_odds_99 : decode cX8_odds 99 = .ok (.iinc 6 1, 3) := by decide +kernel
theorem dX8_odds_102 : decode cX8_odds 102 = .ok (.goto (-55), 3) := by decide +kernel
theorem dX8_odds_105 : decode cX8_odds 105 = .ok (.aload_n 0, 1) := by decide +kernel
theorem dX8_odds_106 : decode cX8_odds 106 = .ok (.iload 5, 2) := by decide +kernel
theorem dX8_odds_108 : decode cX8_odds 108 = .ok (.bipush 8, 2) := by decide +kernel
theorem dX8_odds_110 : decode cX8_odds 110 = .ok (.iload_n 3, 1) := by decide +kernel
theorem dX8_odds_111 : decode cX8_odds 111 = .ok (.invokevirtual 394, 3) := by decide +kernel
theorem dX8_odds_114 : decode cX8_odds 114 = .ok (.lreturn, 1) := by decide +kernel
def f_X8_odds_L47 (p3 : Int32) (p1 : Int32) (p2 : Int32) (r7 : Int32) (x5_8 : Int32) (x6_8 : Int32) (u8 : Mem) : Option ((Int32 × Int32 × Mem) ⊕ (Int64 × Mem)) := (if (8 : Int32) ≤ x6_8 then Option.bind (f_X8_lowest x5_8 (8 : Int32) p3) (fun r10 => some (Sum.inr (r10, u8))) else obind (f_X8_save u8) (fun _ u11 => gin p1 6 (gin p1 6 (obind (f_X8_goMinutes p2 (sA u11 86 p1.toNatClampNeg ((gA u11 86 p1.toNatClampNeg) ||| ((1 : Int32) <<< (x6_8 &&& 31))))) (fun _ u14 => (if (gI u14 82 3) ≤ r7 then obind (f_X8_putBack u14) (fun _ u16 => some (Sum.inl (x5_8 + (0 : Int32), (x6_8 + (1 : Int32), u16)))) else obind (f_X8_putBack u14) (fun _ u17 => some (Sum.inl (x5_8 + (1 : Int32), (x6_8 + (1 : Int32), u17))))))))))
def f_X8_odds (p1 : Int32) (p2 : Int32) (p3 : Int32) (u : Mem) : Option (Int64 × Mem) := Option.bind (f_X8_isOne p1 u) (fun r1 => (if r1 = 0 then some ((-9223372036854775808 : Int64), u) else Option.bind (f_X8_in p2 (0 : Int32) (10 : Int32)) (fun r3 => (if r3 = 0 then some ((-9223372036854775808 : Int64), u) else Option.bind (f_X8_in p3 (0 : Int32) (1 : Int32)) (fun r5 => (if r5 = 0 then some ((-9223372036854775808 : Int64), u) else obind (f_X8_on p2 (1 : Int32) u) (fun r7 u7 => whileO (fun s => f_X8_odds_L47 p3 p1 p2 r7 s.1 s.2.1 s.2.2) FUEL ((0 : Int32), ((0 : Int32), u7)))))))))
set_option maxHeartbeats 4000000 in
set_option maxRecDepth 100000 in
theorem k_X8_odds (l : Launch) (D : gDt) (base : Nat) (Z : gZt) (u : Mem) (p1 : Int32) (p2 : Int32) (p3 : Int32) (r : Int64) (u' : Mem) (hf : f_X8_odds p1 p2 p3 u = some (r, u')) : Met l yX8_odds (gws yX8_odds cX8_odds 7 (some .long)) (gRm 9 0 0) (gPc D base Z u [.ref (base + 82), .int p1, .int p2, .int p3]) (gQl D base r u') 0 0 (gF base) := by
  refine Met.ofW (cc := cX8_odds) (maxL := 7) (ret := some .long) (by decide) rfl ?_
  intro p e s m args below meth c s₁ B hml hv
  obtain ⟨rfl, C0, hG⟩ := g_enter B hml hv
  have hr := B.returns
  have C0 : gC p s m meth c _ cX8_odds 7 RX8 D base Z := C0
  have hx := C0.1
  have hb := C0.2.1
  have hl := lv_entry ([.ref (base + 82), .int p1, .int p2, .int p3]) (n := 7) (Nat.le_of_ble_eq_true rfl)
  rw [lg_entry_eq]
  generalize (lg_sl ([.ref (base + 82), .int p1, .int p2, .int p3]) ++ List.replicate (7 - (lg_sl ([.ref (base + 82), .int p1, .int p2, .int p3])).length) Slot.unset).toArray = ls at hl ⊢
  have hl : lv_has ls 7 [(0, .ref (base + 82)), (1, .int p1), (2, .int p2), (3, .int p3)] := hl
  obtain ⟨Q, hQ⟩ : ∃ Q, Q = MQ below (gQl D base r u') ([.ref (base + 82), .int p1, .int p2, .int p3] : List Value).toArray s 0 0 (gF base) := ⟨_, rfl⟩
  rw [← hQ]
  change W p l e (gRm 9 0 0) s m _ below meth c _ _ _ _ _ _
  unfold f_X8_odds at hf
  refine lv_aload_n hx hb dX8_odds_0 rfl (lv_at hl 0 rfl) ?_
  refine lv_iload_n hx hb dX8_odds_1 rfl (lv_at hl 1 rfl) ?_
  obtain ⟨r1, hc1, hf⟩ := pb_s hf
  refine g_doI0 hG (g_runV C0 hG (k_X8_isOne l D base Z u p1 r1 hc1) m_X8_isOne v_X8_isOne w_1098 (by decide) (g_recv C0 hG (L82 hG) rfl) rfl hl.1 rfl (Nat.le_of_ble_eq_true rfl) dX8_odds_2 ⟨Nat.zero_le _, Nat.zero_le _⟩) (fun H locs hG hk => ?_)
  refine lv_if_eq (tgt := 29) hx hb dX8_odds_5 (by decide) (fun c2 => ?_) (fun c2 => ?_)
  · have hf := gif_t c2 hf
    refine lv_ldc2 (v := (-9223372036854775808 : Int64)) hx hb C0.2.2.2.1 (C0.2.2.2.2.1 _ w_1327) dX8_odds_29 ?_
    obtain ⟨hr1, hu⟩ := gret_s hf
    subst hr1
    subst hu
    subst hQ
    exact g_lret C0 hG hr dX8_odds_32
  · have hf := gif_f c2 hf
    refine lv_aload_n hx hb dX8_odds_8 rfl (lv_at hl 0 rfl) ?_
    refine lv_iload_n hx hb dX8_odds_9 rfl (lv_at hl 2 rfl) ?_
    refine lv_iconst (v := (0 : Int32)) hx hb dX8_odds_10 (by decide) ?_
    refine lv_bipush (v := (10 : Int32)) hx hb dX8_odds_11 (by decide) ?_
    obtain ⟨r3, hc3, hf⟩ := pb_s hf
    refine g_doI0 hG (g_runV C0 hG (k_X8_in l D base Z u p2 (0 : Int32) (10 : Int32) r3 hc3) m_X8_in v_X8_in w_1082 (by decide) (g_recv C0 hG (L82 hG) rfl) rfl hl.1 rfl (Nat.le_of_ble_eq_true rfl) dX8_odds_13 ⟨Nat.zero_le _, Nat.zero_le _⟩) (fun H locs hG hk => ?_)
    refine lv_if_eq (tgt := 29) hx hb dX8_odds_16 (by decide) (fun c4 => ?_) (fun c4 => ?_)
    · have hf := gif_t c4 hf
      refine lv_ldc2 (v := (-9223372036854775808 : Int64)) hx hb C0.2.2.2.1 (C0.2.2.2.2.1 _ w_1327) dX8_odds_29 ?_
      obtain ⟨hr1, hu⟩ := gret_s hf
      subst hr1
      subst hu
      subst hQ
      exact g_lret C0 hG hr dX8_odds_32
    · have hf := gif_f c4 hf
      refine lv_aload_n hx hb dX8_odds_19 rfl (lv_at hl 0 rfl) ?_
      refine lv_iload_n hx hb dX8_odds_20 rfl (lv_at hl 3 rfl) ?_
      refine lv_iconst (v := (0 : Int32)) hx hb dX8_odds_21 (by decide) ?_
      refine lv_iconst (v := (1 : Int32)) hx hb dX8_odds_22 (by decide) ?_
      obtain ⟨r5, hc5, hf⟩ := pb_s hf
      refine g_doI0 hG (g_runV C0 hG (k_X8_in l D base Z u p3 (0 : Int32) (1 : Int32) r5 hc5) m_X8_in v_X8_in w_1082 (by decide) (g_recv C0 hG (L82 hG) rfl) rfl hl.1 rfl (Nat.le_of_ble_eq_true rfl) dX8_odds_23 ⟨Nat.zero_le _, Nat.zero_le _⟩) (fun H locs hG hk => ?_)
      refine lv_if_ne (tgt := 33) hx hb dX8_odds_26 (by decide) (fun c6 => ?_) (fun c6 => ?_)
      · have hf := gif_f c6 hf
        refine lv_aload_n hx hb dX8_odds_33 rfl (lv_at hl 0 rfl) ?_
        refine lv_iload_n hx hb dX8_odds_34 rfl (lv_at hl 2 rfl) ?_
        refine lv_iconst (v := (1 : Int32)) hx hb dX8_odds_35 (by decide) ?_
        obtain ⟨r7, u7, hc7, hf⟩ := obind_s hf
        refine g_doI0 hG (g_runV C0 hG (k_X8_on l D base Z u p2 (1 : Int32) r7 u7 hc7) m_X8_on v_X8_on w_1298 (by decide) (g_recv C0 hG (L82 hG) rfl) rfl hl.1 rfl (Nat.le_of_ble_eq_true rfl) dX8_odds_36 ⟨Nat.zero_le _, Nat.zero_le _⟩) (fun H locs hG hk => ?_)
        refine lv_istore (lv' := [(4, .int r7), (0, .ref (base + 82)), (1, .int p1), (2, .int p2), (3, .int p3)]) hx hb dX8_odds_39 hl (by decide) rfl (fun ls hl => ?_)
        refine lv_iconst (v := (0 : Int32)) hx hb dX8_odds_41 (by decide) ?_
        refine lv_istore (lv' := [(5, .int (0 : Int32)), (4, .int r7), (0, .ref (base + 82)), (1, .int p1), (2, .int p2), (3, .int p3)]) hx hb dX8_odds_42 hl (by decide) rfl (fun ls hl => ?_)
        refine lv_iconst (v := (0 : Int32)) hx hb dX8_odds_44 (by decide) ?_
        refine lv_istore (lv' := [(6, .int (0 : Int32)), (5, .int (0 : Int32)), (4, .int r7), (0, .ref (base + 82)), (1, .int p1), (2, .int p2), (3, .int p3)]) hx hb dX8_odds_45 hl (by decide) rfl (fun ls hl => ?_)
        have loop8 : ∀ (n8 : Nat) (x5_8 : Int32) (x6_8 : Int32) (u8 : Mem) (H : Heap) (locs : List Loc) (ls : Array Slot), gH D base s u8 H locs → lv_has ls 7 [(0, .ref (base + 82)), (1, .int p1), (2, .int p2), (3, .int p3), (4, .int r7), (5, .int x5_8), (6, .int x6_8)] → whileO (fun s => f_X8_odds_L47 p3 p1 p2 r7 s.1 s.2.1 s.2.2) n8 (x5_8, (x6_8, u8)) = some (r, u') → W p l e (gRm 9 0 0) s m ([.ref (base + 82), .int p1, .int p2, .int p3] : List Value).toArray below meth c H locs 0 0 Q (F0 m 47 ls []) := by
          intro n8
          induction n8 with
          | zero => intro x5_8 x6_8 u8 H locs ls hG hl hf; cases hf
          | succ n8 ih8 =>
            intro x5_8 x6_8 u8 H locs ls hG hl hf
            obtain ⟨X8, hf, hX8⟩ := while_s hf
            have hf : f_X8_odds_L47 p3 p1 p2 r7 x5_8 x6_8 u8 = some X8 := hf
            unfold f_X8_odds_L47 at hf
            refine lv_iload hx hb dX8_odds_47 (lv_at hl 6 rfl) ?_
            refine lv_bipush (v := (8 : Int32)) hx hb dX8_odds_49 (by decide) ?_
            refine lv_icmp_ge (tgt := 105) hx hb dX8_odds_51 (by decide) (fun c9 => ?_) (fun c9 => ?_)
            · have hf := gif_t c9 hf
              refine lv_aload_n hx hb dX8_odds_105 rfl (lv_at hl 0 rfl) ?_
              refine lv_iload hx hb dX8_odds_106 (lv_at hl 5 rfl) ?_
              refine lv_bipush (v := (8 : Int32)) hx hb dX8_odds_108 (by decide) ?_
              refine lv_iload_n hx hb dX8_odds_110 rfl (lv_at hl 3 rfl) ?_
              obtain ⟨r10, hc10, hf⟩ := pb_s hf
              refine g_doL0 hG (g_runV C0 hG (k_X8_lowest l D base Z u8 x5_8 (8 : Int32) p3 r10 hc10) m_X8_lowest v_X8_lowest w_1328 (by decide) (g_recv C0 hG (L82 hG) rfl) rfl hl.1 rfl (Nat.le_of_ble_eq_true rfl) dX8_odds_111 ⟨Nat.zero_le _, Nat.zero_le _⟩) (fun H locs hG hk => ?_)
              have hf := while_r hX8 hf
              obtain ⟨hr1, hu⟩ := gret_s hf
              subst hr1
              subst hu
              subst hQ
              exact g_lret C0 hG hr dX8_odds_114
            · have hf := gif_f c9 hf
              refine lv_aload_n hx hb dX8_odds_54 rfl (lv_at hl 0 rfl) ?_
              obtain ⟨_, u11, hc11, hf⟩ := obind_s hf
              refine g_doV0 hG (g_runV C0 hG (k_X8_save l D base Z u8 u11 hc11) m_X8_save v_X8_save w_1274 (by decide) (g_recv C0 hG (L82 hG) rfl) rfl hl.1 rfl (Nat.le_of_ble_eq_true rfl) dX8_odds_55 ⟨Nat.zero_le _, Nat.zero_le _⟩) (fun H locs hG hk => ?_)
              refine lv_aload_n hx hb dX8_odds_58 rfl (lv_at hl 0 rfl) ?_
              refine g_getSa (o := 4) (a := 86) C0 hG (L82 hG) rfl 8 (by decide) rfl rfl w_854 dX8_odds_59 ?_
              refine lv_iload_n hx hb dX8_odds_62 rfl (lv_at hl 1 rfl) ?_
              refine lv_dup2_11 hx hb dX8_odds_63 rfl rfl ?_
              obtain ⟨h12, hf⟩ := gin_s hf
              refine g_iald C0 hG (L86 hG) h12 dX8_odds_64 ?_
              refine lv_iconst (v := (1 : Int32)) hx hb dX8_odds_65 (by decide) ?_
              refine lv_iload hx hb dX8_odds_66 (lv_at hl 6 rfl) ?_
              refine lv_ishl hx hb dX8_odds_68 ?_
              refine lv_ior hx hb dX8_odds_69 ?_
              obtain ⟨h13, hf⟩ := gin_s hf
              refine g_iast C0 hG (L86 hG) h13 dX8_odds_70 (fun H locs hG => ?_)
              refine lv_aload_n hx hb dX8_odds_71 rfl (lv_at hl 0 rfl) ?_
              refine lv_iload_n hx hb dX8_odds_72 rfl (lv_at hl 2 rfl) ?_
              obtain ⟨_, u14, hc14, hf⟩ := obind_s hf
              refine g_doV0 hG (g_runV C0 hG (k_X8_goMinutes l D base Z (sA u11 86 p1.toNatClampNeg ((gA u11 86 p1.toNatClampNeg) ||| ((1 : Int32) <<< (x6_8 &&& 31)))) p2 u14 hc14) m_X8_goMinutes v_X8_goMinutes w_1238 (by decide) (g_recv C0 hG (L82 hG) rfl) rfl hl.1 rfl (Nat.le_of_ble_eq_true rfl) dX8_odds_73 ⟨Nat.zero_le _, Nat.zero_le _⟩) (fun H locs hG hk => ?_)
              refine lv_iload hx hb dX8_odds_76 (lv_at hl 5 rfl) ?_
              refine lv_aload_n hx hb dX8_odds_78 rfl (lv_at hl 0 rfl) ?_
              refine g_getI C0 hG (L82 hG) rfl 3 (by decide) rfl w_849 dX8_odds_79 ?_
              refine lv_iload hx hb dX8_odds_82 (lv_at hl 4 rfl) ?_
              refine lv_icmp_le (tgt := 91) hx hb dX8_odds_84 (by decide) (fun c15 => ?_) (fun c15 => ?_)
              · have hf := gif_t c15 hf
                refine lv_iconst (v := (0 : Int32)) hx hb dX8_odds_91 (by decide) ?_
                refine lv_iadd hx hb dX8_odds_92 ?_
                refine lv_istore (lv' := [(5, .int (x5_8 + (0 : Int32))), (0, .ref (base + 82)), (1, .int p1), (2, .int p2), (3, .int p3), (4, .int r7), (6, .int x6_8)]) hx hb dX8_odds_93 hl (by decide) rfl (fun ls hl => ?_)
                refine lv_aload_n hx hb dX8_odds_95 rfl (lv_at hl 1 rfl) ?_
                obtain ⟨_, u16, hc16, hf⟩ := obind_s hf
                refine g_doV0 hG (g_runV C0 hG (k_X8_putBack l D base Z u14 u16 hc16) m_X8_putBack v_X8_putBack w_1278 (by decide) (g_recv C0 hG (L82 hG) rfl) rfl hl.1 rfl (Nat.le_of_ble_eq_true rfl) dX8_odds_96 ⟨Nat.zero_le _, Nat.zero_le _⟩) (fun H locs hG hk => ?_)
                refine lv_iinc (v := x6_8 + (1 : Int32)) (lv' := [(6, .int (x6_8 + (1 : Int32))), (5, .int (x5_8 + (0 : Int32))), (0, .ref (base + 82)), (1, .int p1), (2, .int p2), (3, .int p3), (4, .int r7)]) hx hb dX8_odds_99 hl (k := 6) rfl rfl (by decide) rfl (fun ls hl => ?_)
                refine lv_goto (tgt := 47) hx hb dX8_odds_102 (by decide) ?_
                have hf := while_l hX8 hf
                exact ih8 (x5_8 + (0 : Int32)) (x6_8 + (1 : Int32)) u16 _ _ ls hG (lv_sub hl [2, 3, 4, 5, 6, 1, 0] rfl) hf
              · have hf := gif_f c15 hf
                refine lv_iconst (v := (1 : Int32)) hx hb dX8_odds_87 (by decide) ?_
                refine lv_goto (tgt := 92) hx hb dX8_odds_88 (by decide) ?_
                refine lv_iadd hx hb dX8_odds_92 ?_
                refine lv_istore (lv' := [(5, .int (x5_8 + (1 : Int32))), (0, .ref (base + 82)), (1, .int p1), (2, .int p2), (3, .int p3), (4, .int r7), (6, .int x6_8)]) hx hb dX8_odds_93 hl (by decide) rfl (fun ls hl => ?_)
                refine lv_aload_n hx hb dX8_odds_95 rfl (lv_at hl 1 rfl) ?_
                obtain ⟨_, u17, hc17, hf⟩ := obind_s hf
                refine g_doV0 hG (g_runV C0 hG (k_X8_putBack l D base Z u14 u17 hc17) m_X8_putBack v_X8_putBack w_1278 (by decide) (g_recv C0 hG (L82 hG) rfl) rfl hl.1 rfl (Nat.le_of_ble_eq_true rfl) dX8_odds_96 ⟨Nat.zero_le _, Nat.zero_le _⟩) (fun H locs hG hk => ?_)
                refine lv_iinc (v := x6_8 + (1 : Int32)) (lv' := [(6, .int (x6_8 + (1 : Int32))), (5, .int (x5_8 + (1 : Int32))), (0, .ref (base + 82)), (1, .int p1), (2, .int p2), (3, .int p3), (4, .int r7)]) hx hb dX8_odds_99 hl (k := 6) rfl rfl (by decide) rfl (fun ls hl => ?_)
                refine lv_goto (tgt := 47) hx hb dX8_odds_102 (by decide) ?_
                have hf := while_l hX8 hf
                exact ih8 (x5_8 + (1 : Int32)) (x6_8 + (1 : Int32)) u17 _ _ ls hG (lv_sub hl [2, 3, 4, 5, 6, 1, 0] rfl) hf
        exact loop8 FUEL (0 : Int32) (0 : Int32) u7 _ _ ls hG (lv_sub hl [3, 4, 5, 6, 2, 1, 0] rfl) hf
      · have hf := gif_t c6 hf
        refine lv_ldc2 (v := (-9223372036854775808 : Int64)) hx hb C0.2.2.2.1 (C0.2.2.2.2.1 _ w_1327) dX8_odds_29 ?_
        obtain ⟨hr1, hu⟩ := gret_s hf
        subst hr1
        subst hu
        subst hQ
        exact g_lret C0 hG hr dX8_odds_32
theorem dX8_mean_0 : decode cX8_mean 0 = .ok (.aload_n 0, 1) := by decide +kernel
theorem dX8_mean_1 : decode cX8_mean 1 = .ok (.iload_n 1, 1) := by decide +kernel
theorem dX8_mean_2 : decode cX8_mean 2 = .ok (.invokevirtual 355, 3) := by decide +kernel
theorem dX8_mean_5 : decode cX8_mean 5 = .ok (.ifCond .eq 20, 3) := by decide +kernel
theorem dX8_mean_8 : decode cX8_mean 8 = .ok (.aload_n 0, 1) := by decide +kernel
theorem dX8_mean_9 : decode cX8_mean 9 = .ok (.iload_n 2, 1) := by decide +kernel
theorem dX8_mean_10 : decode cX8_mean 10 = .ok (.iconst 0, 1) := by decide +kernel
theorem dX8_mean_11 : decode cX8_mean 11 = .ok (.iconst 1, 1) := by decide +kernel
theorem dX8_mean_12 : decode cX8_mean 12 = .ok (.invokevirtual 249, 3) := by decide +kernel
theorem dX8_mean_15 : decode cX8_mean 15 = .ok (.ifCond .eq 10, 3) := by decide +kernel
theorem dX8_mean_18 : decode cX8_mean 18 = .ok (.aload_n 0, 1) := by decide +kernel
theorem dX8_mean_19 : decode cX8_mean 19 = .ok (.getfield 7, 3) := by decide +kernel
theorem dX8_mean_22 : decode cX8_mean 22 = .ok (.ifCond .ne 7, 3) := by decide +kernel
theorem dX8_mean_25 : decode cX8_mean 25 = .ok (.ldc2_w 392, 3) := by decide +kernel
theorem dX8_mean_28 : decode cX8_mean 28 = .ok (.lreturn, 1) := by decide +kernel
theorem dX8_mean_29 : decode cX8_mean 29 = .ok (.aload_n 0, 1) := by decide +kernel
theorem dX8_mean_30 : decode cX8_mean 30 = .ok (.invokevirtual 367, 3) := by decide +kernel
theorem dX8_mean_33 : decode cX8_mean 33 = .ok (.aload_n 0, 1) := by decide +kernel
theorem dX8_mean_34 : decode cX8_mean 34 = .ok (.iload_n 1, 1) := by decide +kernel
theorem dX8_mean_35 : decode cX8_mean 35 = .ok (.invokevirtual 358, 3) := by decide +kernel
theorem dX8_mean_38 : decode cX8_mean 38 = .ok (.iconst 0, 1) := by decide +kernel
theorem dX8_mean_39 : decode cX8_mean 39 = .ok (.istore_n 3, 1) := by decide +kernel
theorem dX8_mean_40 : decode cX8_mean 40 = .ok (.iconst 0, 1) := by decide +kernel
theorem dX8_mean_41 : decode cX8_mean 41 = .ok (.istore 4, 2) := by decide +kernel
theorem dX8_mean_43 : decode cX8_mean 43 = .ok (.iload 4, 2) := by decide +kernel
theorem dX8_mean_45 : decode cX8_mean 45 = .ok (.aload_n 0, 1) := by decide +kernel
theorem dX8_mean_46 : decode cX8_mean 46 = .ok (.getfield 7, 3) := by decide +kernel
theorem dX8_mean_49 : decode cX8_mean 49 = .ok (.if_icmp .ge 23, 3) := by decide +kernel
theorem dX8_mean_52 : decode cX8_mean 52 = .ok (.iload_n 3, 1) := by decide +kernel
theorem dX8_mean_53 : decode cX8_mean 53 = .ok (.aload_n 0, 1) := by decide +kernel
theorem dX8_mean_54 : decode cX8_mean 54 = .ok (.aload_n 0, 1) := by decide +kernel
theorem dX8_mean_55 : decode cX8_mean 55 = .ok (.getfield 35, 3) := by decide +kernel
theorem dX8_mean_58 : decode cX8_mean 58 = .ok (.iload 4, 2) := by decide +kernel
theorem dX8_mean_60 : decode cX8_mean 60 = .ok (.iaload, 1) := by decide +kernel
theorem dX8_mean_61 : decode cX8_mean 61 = .ok (.invokevirtual 398, 3) := by decide +kernel
theorem dX8_mean_64 : decode cX8_mean 64 = .ok (.iadd, 1) := by decide +kernel
theorem dX8_mean_65 : decode cX8_mean 65 = .ok (.istore_n 3, 1) := by decide +kernel
theorem dX8_mean_66 : decode cX8_mean 66 = .ok (.iinc 4 1, 3) := by decide +kernel
theorem dX8_mean_69 : decode cX8_mean 69 = .ok (.goto (-26), 3) := by decide +kernel
theorem dX8_mean_72 : decode cX8_mean 72 = .ok (.aload_n 0, 1) := by decide +kernel
theorem dX8_mean_73 : decode cX8_mean 73 = .ok (.invokevirtual 370, 3) := by decide +kernel
theorem dX8_mean_76 : decode cX8_mean 76 = .ok (.aload_n 0, 1) := by decide +kernel
theorem dX8_mean_77 : decode cX8_mean 77 = .ok (.iload_n 3, 1) := by decide +kernel
theorem dX8_mean_78 : decode cX8_mean 78 = .ok (.aload_n 0, 1) := by decide +kernel
theorem dX8_mean_79 : decode cX8_mean 79 = .ok (.getfield 7, 3) := by decide +kernel
theorem dX8_mean_82 : decode cX8_mean 82 = .ok (.iload_n 2, 1) := by decide +kernel
theorem dX8_mean_83 : decode cX8_mean 83 = .ok (.invokevirtual 394, 3) := by decide +kernel
theorem dX8_mean_86 : decode cX8_mean 86 = .ok (.lreturn, 1) := by decide +kernel
def f_X8_mean_L43 (u7 : Mem) (p2 : Int32) (x3_8 : Int32) (x4_8 : Int32) : Option ((Int32 × Int32) ⊕ (Int64 × Mem)) := (if (gI u7 82 0) ≤ x4_8 then obind (f_X8_putBack u7) (fun _ u10 => Option.bind (f_X8_lowest x3_8 (gI u10 82 0) p2) (fun r11 => some (Sum.inr (r11, u10)))) else gin x4_8 6 (Option.bind (f_X8_bits (gA u7 86 x4_8.toNatClampNeg)) (fun r13 => some (Sum.inl (x3_8 + r13, x4_8 + (1 : Int32))))))
def f_X8_mean (p1 : Int32) (p2 : Int32) (u : Mem) : Option (Int64 × Mem) := Option.bind (f_X8_isMinutes p1) (fun r1 => (if r1 = 0 then some ((-9223372036854775808 : Int64), u) else Option.bind (f_X8_in p2 (0 : Int32) (1 : Int32)) (fun r3 => (if r3 = 0 then some ((-9223372036854775808 : Int64), u) else (if (gI u 82 0) = 0 then some ((-9223372036854775808 : Int64), u) else obind (f_X8_save u) (fun _ u6 => obind (f_X8_goMinutes p1 u6) (fun _ u7 => whileO (fun s => f_X8_mean_L43 u7 p2 s.1 s.2) FUEL ((0 : Int32), (0 : Int32)))))))))
set_option maxHeartbeats 4000000 in
set_option maxRecDepth 100000 in
theorem k_X8_mean (l : Launch) (D : gDt) (base : Nat) (Z : gZt) (u : Mem) (p1 : Int32) (p2 : Int32) (r : Int64) (u' : Mem) (hf : f_X8_mean p1 p2 u = some (r, u')) : Met l yX8_mean (gws yX8_mean cX8_mean 5 (some .long)) (gRm 8 0 0) (gPc D base Z u [.ref (base + 82), .int p1, .int p2]) (gQl D base r u') 0 0 (gF base) := by
  refine Met.ofW (cc := cX8_mean) (maxL := 5) (ret := some .long) (by decide) rfl ?_
  intro p e s m args below meth c s₁ B hml hv
  obtain ⟨rfl, C0, hG⟩ := g_enter B hml hv
  have hr := B.returns
  have C0 : gC p s m meth c _ cX8_mean 5 RX8 D base Z := C0
  have hx := C0.1
  have hb := C0.2.1
  have hl := lv_entry ([.ref (base + 82), .int p1, .int p2]) (n := 5) (Nat.le_of_ble_eq_true rfl)
  rw [lg_entry_eq]
  generalize (lg_sl ([.ref (base + 82), .int p1, .int p2]) ++ List.replicate (5 - (lg_sl ([.ref (base + 82), .int p1, .int p2])).length) Slot.unset).toArray = ls at hl ⊢
  have hl : lv_has ls 5 [(0, .ref (base + 82)), (1, .int p1), (2, .int p2)] := hl
  obtain ⟨Q, hQ⟩ : ∃ Q, Q = MQ below (gQl D base r u') ([.ref (base + 82), .int p1, .int p2] : List Value).toArray s 0 0 (gF base) := ⟨_, rfl⟩
  rw [← hQ]
  change W p l e (gRm 8 0 0) s m _ below meth c _ _ _ _ _ _
  unfold f_X8_mean at hf
  refine lv_aload_n hx hb dX8_mean_0 rfl (lv_at hl 0 rfl) ?_
  refine lv_iload_n hx hb dX8_mean_1 rfl (lv_at hl 1 rfl) ?_
  obtain ⟨r1, hc1, hf⟩ := pb_s hf
  refine g_doI0 hG (g_runV C0 hG (k_X8_isMinutes l D base Z u p1 r1 hc1) m_X8_isMinutes v_X8_isMinutes w_1234 (by decide) (g_recv C0 hG (L82 hG) rfl) rfl hl.1 rfl (Nat.le_of_ble_eq_true rfl) dX8_mean_2 ⟨Nat.zero_le _, Nat.zero_le _⟩) (fun H locs hG hk => ?_)
  refine lv_if_eq (tgt := 25) hx hb dX8_mean_5 (by decide) (fun c2 => ?_) (fun c2 => ?_)
  · have hf := gif_t c2 hf
    refine lv_ldc2 (v := (-9223372036854775808 : Int64)) hx hb C0.2.2.2.1 (C0.2.2.2.2.1 _ w_1327) dX8_mean_25 ?_
    obtain ⟨hr1, hu⟩ := gret_s hf
    subst hr1
    subst hu
    subst hQ
    exact g_lret C0 hG hr dX8_mean_28
  · have hf := gif_f c2 hf
    refine lv_aload_n hx hb dX8_mean_8 rfl (lv_at hl 0 rfl) ?_
    refine lv_iload_n hx hb dX8_mean_9 rfl (lv_at hl 2 rfl) ?_
    refine lv_iconst (v := (0 : Int32)) hx hb dX8_mean_10 (by decide) ?_
    refine lv_iconst (v := (1 : Int32)) hx hb dX8_mean_11 (by decide) ?_
    obtain ⟨r3, hc3, hf⟩ := pb_s hf
    refine g_doI0 hG (g_runV C0 hG (k_X8_in l D base Z u p2 (0 : Int32) (1 : Int32) r3 hc3) m_X8_in v_X8_in w_1082 (by decide) (g_recv C0 hG (L82 hG) rfl) rfl hl.1 rfl (Nat.le_of_ble_eq_true rfl) dX8_mean_12 ⟨Nat.zero_le _, Nat.zero_le _⟩) (fun H locs hG hk => ?_)
    refine lv_if_eq (tgt := 25) hx hb dX8_mean_15 (by decide) (fun c4 => ?_) (fun c4 => ?_)
    · have hf := gif_t c4 hf
      refine lv_ldc2 (v := (-9223372036854775808 : Int64)) hx hb C0.2.2.2.1 (C0.2.2.2.2.1 _ w_1327) dX8_mean_25 ?_
      obtain ⟨hr1, hu⟩ := gret_s hf
      subst hr1
      subst hu
      subst hQ
      exact g_lret C0 hG hr dX8_mean_28
    · have hf := gif_f c4 hf
      refine lv_aload_n hx hb dX8_mean_18 rfl (lv_at hl 0 rfl) ?_
      refine g_getI C0 hG (L82 hG) rfl 0 (by decide) rfl w_846 dX8_mean_19 ?_
      refine lv_if_ne (tgt := 29) hx hb dX8_mean_22 (by decide) (fun c5 => ?_) (fun c5 => ?_)
      · have hf := gif_f c5 hf
        refine lv_aload_n hx hb dX8_mean_29 rfl (lv_at hl 0 rfl) ?_
        obtain ⟨_, u6, hc6, hf⟩ := obind_s hf
        refine g_doV0 hG (g_runV C0 hG (k_X8_save l D base Z u u6 hc6) m_X8_save v_X8_save w_1274 (by decide) (g_recv C0 hG (L82 hG) rfl) rfl hl.1 rfl (Nat.le_of_ble_eq_true rfl) dX8_mean_30 ⟨Nat.zero_le _, Nat.zero_le _⟩) (fun H locs hG hk => ?_)
        refine lv_aload_n hx hb dX8_mean_33 rfl (lv_at hl 0 rfl) ?_
        refine lv_iload_n hx hb dX8_mean_34 rfl (lv_at hl 1 rfl) ?_
        obtain ⟨_, u7, hc7, hf⟩ := obind_s hf
        refine g_doV0 hG (g_runV C0 hG (k_X8_goMinutes l D base Z u6 p1 u7 hc7) m_X8_goMinutes v_X8_goMinutes w_1238 (by decide) (g_recv C0 hG (L82 hG) rfl) rfl hl.1 rfl (Nat.le_of_ble_eq_true rfl) dX8_mean_35 ⟨Nat.zero_le _, Nat.zero_le _⟩) (fun H locs hG hk => ?_)
        refine lv_iconst (v := (0 : Int32)) hx hb dX8_mean_38 (by decide) ?_
        refine lv_istore_n (lv' := [(3, .int (0 : Int32)), (0, .ref (base + 82)), (1, .int p1), (2, .int p2)]) hx hb dX8_mean_39 rfl hl (by decide) rfl (fun ls hl => ?_)
        refine lv_iconst (v := (0 : Int32)) hx hb dX8_mean_40 (by decide) ?_
        refine lv_istore (lv' := [(4, .int (0 : Int32)), (3, .int (0 : Int32)), (0, .ref (base + 82)), (1, .int p1), (2, .int p2)]) hx hb dX8_mean_41 hl (by decide) rfl (fun ls hl => ?_)
        have loop8 : ∀ (n8 : Nat) (x3_8 : Int32) (x4_8 : Int32) (H : Heap) (locs : List Loc) (ls : Array Slot), gH D base s u7 H locs → lv_has ls 5 [(0, .ref (base + 82)), (2, .int p2), (3, .int x3_8), (4, .int x4_8)] → whileO (fun s => f_X8_mean_L43 u7 p2 s.1 s.2) n8 (x3_8, x4_8) = some (r, u') → W p l e (gRm 8 0 0) s m ([.ref (base + 82), .int p1, .int p2] : List Value).toArray below meth c H locs 0 0 Q (F0 m 43 ls []) := by
          intro n8
          induction n8 with
          | zero => intro x3_8 x4_8 H locs ls hG hl hf; cases hf
          | succ n8 ih8 =>
            intro x3_8 x4_8 H locs ls hG hl hf
            obtain ⟨X8, hf, hX8⟩ := while_s hf
            have hf : f_X8_mean_L43 u7 p2 x3_8 x4_8 = some X8 := hf
            unfold f_X8_mean_L43 at hf
            refine lv_iload hx hb dX8_mean_43 (lv_at hl 3 rfl) ?_
            refine lv_aload_n hx hb dX8_mean_45 rfl (lv_at hl 0 rfl) ?_
            refine g_getI C0 hG (L82 hG) rfl 0 (by decide) rfl w_846 dX8_mean_46 ?_
            refine lv_icmp_ge (tgt := 72) hx hb dX8_mean_49 (by decide) (fun c9 => ?_) (fun c9 => ?_)
            · have hf := gif_t c9 hf
              refine lv_aload_n hx hb dX8_mean_72 rfl (lv_at hl 0 rfl) ?_
              obtain ⟨_, u10, hc10, hf⟩ := obind_s hf
              refine g_doV0 hG (g_runV C0 hG (k_X8_putBack l D base Z u7 u10 hc10) m_X8_putBack v_X8_putBack w_1278 (by decide) (g_recv C0 hG (L82 hG) rfl) rfl hl.1 rfl (Nat.le_of_ble_eq_true rfl) dX8_mean_73 ⟨Nat.zero_le _, Nat.zero_le _⟩) (fun H locs hG hk => ?_)
              refine lv_aload_n hx hb dX8_mean_76 rfl (lv_at hl 0 rfl) ?_
              refine lv_iload_n hx hb dX8_mean_77 rfl (lv_at hl 2 rfl) ?_
              refine lv_aload_n hx hb dX8_mean_78 rfl (lv_at hl 0 rfl) ?_
              refine g_getI C0 hG (L82 hG) rfl 0 (by decide) rfl w_846 dX8_mean_79 ?_
              refine lv_iload_n hx hb dX8_mean_82 rfl (lv_at hl 1 rfl) ?_
              obtain ⟨r11, hc11, hf⟩ := pb_s hf
              refine g_doL0 hG (g_runV C0 hG (k_X8_lowest l D base Z u10 x3_8 (gI u10 82 0) p2 r11 hc11) m_X8_lowest v_X8_lowest w_1328 (by decide) (g_recv C0 hG (L82 hG) rfl) rfl hl.1 rfl (Nat.le_of_ble_eq_true rfl) dX8_mean_83 ⟨Nat.zero_le _, Nat.zero_le _⟩) (fun H locs hG hk => ?_)
              have hf := while_r hX8 hf
              obtain ⟨hr1, hu⟩ := gret_s hf
              subst hr1
              subst hu
              subst hQ
              exact g_lret C0 hG hr dX8_mean_86
            · have hf := gif_f c9 hf
              refine lv_iload_n hx hb dX8_mean_52 rfl (lv_at hl 2 rfl) ?_
              refine lv_aload_n hx hb dX8_mean_53 rfl (lv_at hl 0 rfl) ?_
              refine lv_aload_n hx hb dX8_mean_54 rfl (lv_at hl 0 rfl) ?_
              refine g_getSa (o := 4) (a := 86) C0 hG (L82 hG) rfl 8 (by decide) rfl rfl w_854 dX8_mean_55 ?_
              refine lv_iload hx hb dX8_mean_58 (lv_at hl 3 rfl) ?_
              obtain ⟨h12, hf⟩ := gin_s hf
              refine g_iald C0 hG (L86 hG) h12 dX8_mean_60 ?_
              obtain ⟨r13, hc13, hf⟩ := pb_s hf
              refine g_doI0 hG (g_runV C0 hG (k_X8_bits l D base Z u7 (gA u7 86 x4_8.toNatClampNeg) r13 hc13) m_X8_bits v_X8_bits w_1340 (by decide) (g_recv C0 hG (L82 hG) rfl) rfl hl.1 rfl (Nat.le_of_ble_eq_true rfl) dX8_mean_61 ⟨Nat.zero_le _, Nat.zero_le _⟩) (fun H locs hG hk => ?_)
              refine lv_iadd hx hb dX8_mean_64 ?_
              refine lv_istore_n (lv' := [(3, .int (x3_8 + r13)), (0, .ref (base + 82)), (2, .int p2), (4, .int x4_8)]) hx hb dX8_mean_65 rfl hl (by decide) rfl (fun ls hl => ?_)
              refine lv_iinc (v := x4_8 + (1 : Int32)) (lv' := [(4, .int (x4_8 + (1 : Int32))), (3, .int (x3_8 + r13)), (0, .ref (base + 82)), (2, .int p2)]) hx hb dX8_mean_66 hl (k := 3) rfl rfl (by decide) rfl (fun ls hl => ?_)
              refine lv_goto (tgt := 43) hx hb dX8_mean_69 (by decide) ?_
              have hf := while_l hX8 hf
              exact ih8 (x3_8 + r13) (x4_8 + (1 : Int32)) _ _ ls hG (lv_sub hl [2, 3, 1, 0] rfl) hf
        exact loop8 FUEL (0 : Int32) (0 : Int32) _ _ ls hG (lv_sub hl [2, 4, 1, 0] rfl) hf
      · have hf := gif_t c5 hf
        refine lv_ldc2 (v := (-9223372036854775808 : Int64)) hx hb C0.2.2.2.1 (C0.2.2.2.2.1 _ w_1327) dX8_mean_25 ?_
        obtain ⟨hr1, hu⟩ := gret_s hf
        subst hr1
        subst hu
        subst hQ
        exact g_lret C0 hG hr dX8_mean_28
