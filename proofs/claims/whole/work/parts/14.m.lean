theorem dX7_see_0 : decode cX7_see 0 = .ok (.iload_n 1, 1) := by decide +kernel
theorem dX7_see_1 : decode cX7_see 1 = .ok (.iconst (-1), 1) := by decide +kernel
theorem dX7_see_2 : decode cX7_see 2 = .ok (.if_icmp .ne 14, 3) := by decide +kernel
theorem dX7_see_5 : decode cX7_see 5 = .ok (.aload_n 0, 1) := by decide +kernel
theorem dX7_see_6 : decode cX7_see 6 = .ok (.getfield 27, 3) := by decide +kernel
theorem dX7_see_9 : decode cX7_see 9 = .ok (.getfield 178, 3) := by decide +kernel
theorem dX7_see_12 : decode cX7_see 12 = .ok (.invokevirtual 182, 3) := by decide +kernel
theorem dX7_see_15 : decode cX7_see 15 = .ok (.ireturn, 1) := by decide +kernel
theorem dX7_see_16 : decode cX7_see 16 = .ok (.aload_n 0, 1) := by decide +kernel
theorem dX7_see_17 : decode cX7_see 17 = .ok (.iload_n 1, 1) := by decide +kernel
theorem dX7_see_18 : decode cX7_see 18 = .ok (.invokevirtual 74, 3) := by decide +kernel
theorem dX7_see_21 : decode cX7_see 21 = .ok (.ifCond .eq 10, 3) := by decide +kernel
theorem dX7_see_24 : decode cX7_see 24 = .ok (.iload_n 2, 1) := by decide +kernel
theorem dX7_see_25 : decode cX7_see 25 = .ok (.invokestatic 107, 3) := by decide +kernel
theorem dX7_see_28 : decode cX7_see 28 = .ok (.ifCond .ne 5, 3) := by decide +kernel
theorem dX7_see_31 : decode cX7_see 31 = .ok (.iconst (-1), 1) := by decide +kernel
theorem dX7_see_32 : decode cX7_see 32 = .ok (.ireturn, 1) := by decide +kernel
theorem dX7_see_33 : decode cX7_see 33 = .ok (.iload_n 3, 1) := by decide +kernel
theorem dX7_see_34 : decode cX7_see 34 = .ok (.bipush 99, 2) := by decide +kernel
theorem dX7_see_36 : decode cX7_see 36 = .ok (.invokestatic 67, 3) := by decide +kernel
theorem dX7_see_39 : decode cX7_see 39 = .ok (.ifCond .ne 6, 3) := by decide +kernel
theorem dX7_see_42 : decode cX7_see 42 = .ok (.bipush (-2), 2) := by decide +kernel
theorem dX7_see_44 : decode cX7_see 44 = .ok (.ireturn, 1) := by decide +kernel
theorem dX7_see_45 : decode cX7_see 45 = .ok (.aload_n 0, 1) := by decide +kernel
theorem dX7_see_46 : decode cX7_see 46 = .ok (.getfield 27, 3) := by decide +kernel
theorem dX7_see_49 : decode cX7_see 49 = .ok (.getfield 178, 3) := by decide +kernel
theorem dX7_see_52 : decode cX7_see 52 = .ok (.iload_n 1, 1) := by decide +kernel
theorem dX7_see_53 : decode cX7_see 53 = .ok (.iload_n 2, 1) := by decide +kernel
theorem dX7_see_54 : decode cX7_see 54 = .ok (.iload_n 3, 1) := by decide +kernel
theorem dX7_see_55 : decode cX7_see 55 = .ok (.invokevirtual 187, 3) := by decide +kernel
theorem dX7_see_58 : decode cX7_see 58 = .ok (.ireturn, 1) := by decide +kernel
def f_X7_see (p1 : Int32) (p2 : Int32) (p3 : Int32) (u : Mem) : Option (Int32 × Mem) := (if p1 = (-1 : Int32) then obind (f_X2_clear 38 u) (fun r9 u9 => some (r9, u9)) else Option.bind (f_X7_isPerson p1 u) (fun r2 => (if r2 = 0 then some ((-1 : Int32), u) else Option.bind (f_X7_isTale p2) (fun r4 => (if r4 = 0 then some ((-1 : Int32), u) else Option.bind (f_X7_isUpTo p3 (99 : Int32)) (fun r6 => (if r6 = 0 then some ((-2 : Int32), u) else obind (f_X2_append 38 p1 p2 p3 u) (fun r8 u8 => some (r8, u8)))))))))
set_option maxHeartbeats 4000000 in
set_option maxRecDepth 100000 in
theorem k_X7_see (l : Launch) (D : gDt) (base : Nat) (Z : gZt) (u : Mem) (p1 : Int32) (p2 : Int32) (p3 : Int32) (r : Int32) (u' : Mem) (hf : f_X7_see p1 p2 p3 u = some (r, u')) : Met l yX7_see (gws yX7_see cX7_see 4 (some .int)) (gRm 3 0 0) (gPc D base Z u [.ref (base + 0), .int p1, .int p2, .int p3]) (gQi D base r u') 0 0 (gF base) := by
  refine Met.ofW (cc := cX7_see) (maxL := 4) (ret := some .int) (by decide) rfl ?_
  intro p e s m args below meth c s₁ B hml hv
  obtain ⟨rfl, C0, hG⟩ := g_enter B hml hv
  have hr := B.returns
  have C0 : gC p s m meth c _ cX7_see 4 RX7 D base Z := C0
  have hx := C0.1
  have hb := C0.2.1
  have hl := lv_entry ([.ref (base + 0), .int p1, .int p2, .int p3]) (n := 4) (Nat.le_of_ble_eq_true rfl)
  rw [lg_entry_eq]
  generalize (lg_sl ([.ref (base + 0), .int p1, .int p2, .int p3]) ++ List.replicate (4 - (lg_sl ([.ref (base + 0), .int p1, .int p2, .int p3])).length) Slot.unset).toArray = ls at hl ⊢
  have hl : lv_has ls 4 [(0, .ref (base + 0)), (1, .int p1), (2, .int p2), (3, .int p3)] := hl
  obtain ⟨Q, hQ⟩ : ∃ Q, Q = MQ below (gQi D base r u') ([.ref (base + 0), .int p1, .int p2, .int p3] : List Value).toArray s 0 0 (gF base) := ⟨_, rfl⟩
  rw [← hQ]
  change W p l e (gRm 3 0 0) s m _ below meth c _ _ _ _ _ _
  unfold f_X7_see at hf
  refine lv_iload_n hx hb dX7_see_0 rfl (lv_at hl 1 rfl) ?_
  refine lv_iconst (v := (-1 : Int32)) hx hb dX7_see_1 (by decide) ?_
  refine lv_icmp_ne (tgt := 16) hx hb dX7_see_2 (by decide) (fun c1 => ?_) (fun c1 => ?_)
  · have hf := gif_f c1 hf
    refine lv_aload_n hx hb dX7_see_16 rfl (lv_at hl 0 rfl) ?_
    refine lv_iload_n hx hb dX7_see_17 rfl (lv_at hl 1 rfl) ?_
    obtain ⟨r2, hc2, hf⟩ := pb_s hf
    refine g_doI0 hG (g_runV C0 hG (k_X7_isPerson l D base Z u p1 r2 hc2) m_X7_isPerson v_X7_isPerson w_378 (by decide) (g_recv C0 hG (L0 hG) rfl) rfl hl.1 rfl (Nat.le_of_ble_eq_true rfl) dX7_see_18 ⟨Nat.zero_le _, Nat.zero_le _⟩) (fun H locs hG hk => ?_)
    refine lv_if_eq (tgt := 31) hx hb dX7_see_21 (by decide) (fun c3 => ?_) (fun c3 => ?_)
    · have hf := gif_t c3 hf
      refine lv_iconst (v := (-1 : Int32)) hx hb dX7_see_31 (by decide) ?_
      obtain ⟨hr1, hu⟩ := gret_s hf
      subst hr1
      subst hu
      subst hQ
      exact g_iret C0 hG hr dX7_see_32
    · have hf := gif_f c3 hf
      refine lv_iload_n hx hb dX7_see_24 rfl (lv_at hl 2 rfl) ?_
      obtain ⟨r4, hc4, hf⟩ := pb_s hf
      refine g_doI0 hG (g_runS C0 hG (k_X7_isTale l D base Z u p2 r4 hc4) m_X7_isTale s_X7_isTale w_415 (by decide) rfl hl.1 rfl (Nat.le_of_ble_eq_true rfl) dX7_see_25 ⟨Nat.zero_le _, Nat.zero_le _⟩) (fun H locs hG hk => ?_)
      refine lv_if_ne (tgt := 33) hx hb dX7_see_28 (by decide) (fun c5 => ?_) (fun c5 => ?_)
      · have hf := gif_f c5 hf
        refine lv_iload_n hx hb dX7_see_33 rfl (lv_at hl 3 rfl) ?_
        refine lv_bipush (v := (99 : Int32)) hx hb dX7_see_34 (by decide) ?_
        obtain ⟨r6, hc6, hf⟩ := pb_s hf
        refine g_doI0 hG (g_runS C0 hG (k_X7_isUpTo l D base Z u p3 (99 : Int32) r6 hc6) m_X7_isUpTo s_X7_isUpTo w_367 (by decide) rfl hl.1 rfl (Nat.le_of_ble_eq_true rfl) dX7_see_36 ⟨Nat.zero_le _, Nat.zero_le _⟩) (fun H locs hG hk => ?_)
        refine lv_if_ne (tgt := 45) hx hb dX7_see_39 (by decide) (fun c7 => ?_) (fun c7 => ?_)
        · have hf := gif_f c7 hf
          refine lv_aload_n hx hb dX7_see_45 rfl (lv_at hl 0 rfl) ?_
          refine g_getSa (o := 37) (a := 37) C0 hG (L0 hG) rfl 3 (by decide) rfl rfl w_332 dX7_see_46 ?_
          refine g_getSaN (o := 1) (a := 38) C0 hG (L37 hG) rfl 0 (by decide) rfl rfl w_246 dX7_see_49 ?_
          refine lv_iload_n hx hb dX7_see_52 rfl (lv_at hl 1 rfl) ?_
          refine lv_iload_n hx hb dX7_see_53 rfl (lv_at hl 2 rfl) ?_
          refine lv_iload_n hx hb dX7_see_54 rfl (lv_at hl 3 rfl) ?_
          obtain ⟨r8, u8, hc8, hf⟩ := obind_s hf
          refine g_doI0 hG (g_runVN C0 hG (k_X2_append l D base Z u 38 p1 p2 p3 r8 u8 O38 hc8) m_X2_append v_X2_append w_695 (by decide) (g_recv C0 hG (L38 hG) rfl) rfl hl.1 rfl (Nat.le_of_ble_eq_true rfl) dX7_see_55 ⟨Nat.zero_le _, Nat.zero_le _⟩) (fun H locs hG hk => ?_)
          obtain ⟨hr1, hu⟩ := gret_s hf
          subst hr1
          subst hu
          subst hQ
          exact g_iret C0 hG hr dX7_see_58
        · have hf := gif_t c7 hf
          refine lv_bipush (v := (-2 : Int32)) hx hb dX7_see_42 (by decide) ?_
          obtain ⟨hr1, hu⟩ := gret_s hf
          subst hr1
          subst hu
          subst hQ
          exact g_iret C0 hG hr dX7_see_44
      · have hf := gif_t c5 hf
        refine lv_iconst (v := (-1 : Int32)) hx hb dX7_see_31 (by decide) ?_
        obtain ⟨hr1, hu⟩ := gret_s hf
        subst hr1
        subst hu
        subst hQ
        exact g_iret C0 hG hr dX7_see_32
  · have hf := gif_t c1 hf
    refine lv_aload_n hx hb dX7_see_5 rfl (lv_at hl 0 rfl) ?_
    refine g_getSa (o := 37) (a := 37) C0 hG (L0 hG) rfl 3 (by decide) rfl rfl w_332 dX7_see_6 ?_
    refine g_getSaN (o := 1) (a := 38) C0 hG (L37 hG) rfl 0 (by decide) rfl rfl w_246 dX7_see_9 ?_
    obtain ⟨r9, u9, hc9, hf⟩ := obind_s hf
    refine g_doI0 hG (g_runVN C0 hG (k_X2_clear l D base Z u 38 r9 u9 O38 hc9) m_X2_clear v_X2_clear w_691 (by decide) (g_recv C0 hG (L38 hG) rfl) rfl hl.1 rfl (Nat.le_of_ble_eq_true rfl) dX7_see_12 ⟨Nat.zero_le _, Nat.zero_le _⟩) (fun H locs hG hk => ?_)
    obtain ⟨hr1, hu⟩ := gret_s hf
    subst hr1
    subst hu
    subst hQ
    exact g_iret C0 hG hr dX7_see_15
theorem dX7_isAllSeenSo_0 : decode cX7_isAllSeenSo 0 = .ok (.aload_n 0, 1) := by decide +kernel
theorem dX7_isAllSeenSo_1 : decode cX7_isAllSeenSo 1 = .ok (.getfield 27, 3) := by decide +kernel
theorem dX7_isAllSeenSo_4 : decode cX7_isAllSeenSo 4 = .ok (.getfield 178, 3) := by decide +kernel
theorem dX7_isAllSeenSo_7 : decode cX7_isAllSeenSo 7 = .ok (.astore_n 3, 1) := by decide +kernel
theorem dX7_isAllSeenSo_8 : decode cX7_isAllSeenSo 8 = .ok (.iconst 0, 1) := by decide +kernel
theorem dX7_isAllSeenSo_9 : decode cX7_isAllSeenSo 9 = .ok (.istore 4, 2) := by decide +kernel
theorem dX7_isAllSeenSo_11 : decode cX7_isAllSeenSo 11 = .ok (.iload 4, 2) := by decide +kernel
theorem dX7_isAllSeenSo_13 : decode cX7_isAllSeenSo 13 = .ok (.aload_n 3, 1) := by decide +kernel
theorem dX7_isAllSeenSo_14 : decode cX7_isAllSeenSo 14 = .ok (.getfield 208, 3) := by decide +kernel
theorem dX7_isAllSeenSo_17 : decode cX7_isAllSeenSo 17 = .ok (.if_icmp .ge 81, 3) := by decide +kernel
theorem dX7_isAllSeenSo_20 : decode cX7_isAllSeenSo 20 = .ok (.aload_n 3, 1) := by decide +kernel
theorem dX7_isAllSeenSo_21 : decode cX7_isAllSeenSo 21 = .ok (.getfield 211, 3) := by decide +kernel
theorem dX7_isAllSeenSo_24 : decode cX7_isAllSeenSo 24 = .ok (.iload 4, 2) := by decide +kernel
theorem dX7_isAllSeenSo_26 : decode cX7_isAllSeenSo 26 = .ok (.iaload, 1) := by decide +kernel
theorem dX7_isAllSeenSo_27 : decode cX7_isAllSeenSo 27 = .ok (.istore 5, 2) := by decide +kernel
theorem dX7_isAllSeenSo_29 : decode cX7_isAllSeenSo 29 = .ok (.aload_n 3, 1) := by decide +kernel
theorem dX7_isAllSeenSo_30 : decode cX7_isAllSeenSo 30 = .ok (.getfield 214, 3) := by decide +kernel
theorem dX7_isAllSeenSo_33 : decode cX7_isAllSeenSo 33 = .ok (.iload 4, 2) := by decide +kernel
theorem dX7_isAllSeenSo_35 : decode cX7_isAllSeenSo 35 = .ok (.iaload, 1) := by decide +kernel
theorem dX7_isAllSeenSo_36 : decode cX7_isAllSeenSo 36 = .ok (.istore 6, 2) := by decide +kernel
theorem dX7_isAllSeenSo_38 : decode cX7_isAllSeenSo 38 = .ok (.aload_n 0, 1) := by decide +kernel
theorem dX7_isAllSeenSo_39 : decode cX7_isAllSeenSo 39 = .ok (.iload 5, 2) := by decide +kernel
theorem dX7_isAllSeenSo_41 : decode cX7_isAllSeenSo 41 = .ok (.invokevirtual 74, 3) := by decide +kernel
theorem dX7_isAllSeenSo_44 : decode cX7_isAllSeenSo 44 = .ok (.ifCond .eq 48, 3) := by decide +kernel
theorem dX7_isAllSeenSo_47 : decode cX7_isAllSeenSo 47 = .ok (.iload_n 1, 1) := by decide +kernel
theorem dX7_isAllSeenSo_48 : decode cX7_isAllSeenSo 48 = .ok (.ifCond .ne 8, 3) := by decide +kernel
theorem dX7_isAllSeenSo_51 : decode cX7_isAllSeenSo 51 = .ok (.iload 5, 2) := by decide +kernel
theorem dX7_isAllSeenSo_53 : decode cX7_isAllSeenSo 53 = .ok (.goto 5, 3) := by decide +kernel
theorem dX7_isAllSeenSo_56 : decode cX7_isAllSeenSo 56 = .ok (.iload 6, 2) := by decide +kernel
theorem dX7_isAllSeenSo_58 : decode cX7_isAllSeenSo 58 = .ok (.iload_n 2, 1) := by decide +kernel
theorem dX7_isAllSeenSo_59 : decode cX7_isAllSeenSo 59 = .ok (.if_icmp .eq 6, 3) := by decide +kernel
theorem dX7_isAllSeenSo_62 : decode cX7_isAllSeenSo 62 = .ok (.goto 30, 3) := by decide +kernel
theorem dX7_isAllSeenSo_65 : decode cX7_isAllSeenSo 65 = .ok (.iconst 0, 1) := by decide +kernel
theorem dX7_isAllSeenSo_66 : decode cX7_isAllSeenSo 66 = .ok (.aload_n 0, 1) := by decide +kernel
theorem dX7_isAllSeenSo_67 : decode cX7_isAllSeenSo 67 = .ok (.getfield 18, 3) := by decide +kernel
theorem dX7_isAllSeenSo_70 : decode cX7_isAllSeenSo 70 = .ok (.iload 5, 2) := by decide +kernel
theorem dX7_isAllSeenSo_72 : decode cX7_isAllSeenSo 72 = .ok (.iload 6, 2) := by decide +kernel
theorem dX7_isAllSeenSo_74 : decode cX7_isAllSeenSo 74 = .ok (.invokevirtual 110, 3) := by decide +kernel
theorem dX7_isAllSeenSo_77 : decode cX7_isAllSeenSo 77 = .ok (.invokestatic 287, 3) := by decide +kernel
theorem dX7_isAllSeenSo_80 : decode cX7_isAllSeenSo 80 = .ok (.aload_n 3, 1) := by decide +kernel
theorem dX7_isAllSeenSo_81 : decode cX7_isAllSeenSo 81 = .ok (.getfield 217, 3) := by decide +kernel
theorem dX7_isAllSeenSo_84 : decode cX7_isAllSeenSo 84 = .ok (.iload 4, 2) := by decide +kernel
theorem dX7_isAllSeenSo_86 : decode cX7_isAllSeenSo 86 = .ok (.iaload, 1) := by decide +kernel
theorem dX7_isAllSeenSo_87 : decode cX7_isAllSeenSo 87 = .ok (.if_icmp .eq 5, 3) := by decide +kernel
theorem dX7_isAllSeenSo_90 : decode cX7_isAllSeenSo 90 = .ok (.iconst 0, 1) := by decide +kernel
theorem dX7_isAllSeenSo_91 : decode cX7_isAllSeenSo 91 = .ok (.ireturn, 1) := by decide +kernel
theorem dX7_isAllSeenSo_92 : decode cX7_isAllSeenSo 92 = .ok (.iinc 4 1, 3) := by decide +kernel
theorem dX7_isAllSeenSo_95 : decode cX7_isAllSeenSo 95 = .ok (.goto (-84), 3) := by decide +kernel
theorem dX7_isAllSeenSo_98 : decode cX7_isAllSeenSo 98 = .ok (.iconst 1, 1) := by decide +kernel
theorem dX7_isAllSeenSo_99 : decode cX7_isAllSeenSo 99 = .ok (.ireturn, 1) := by decide +kernel
def f_X7_isAllSeenSo_L11 (p1 : Int32) (p2 : Int32) (x4_1 : Int32) (u1 : Mem) : Option ((Int32 × Mem) ⊕ (Int32 × Mem)) := (if (gI u1 38 4) ≤ x4_1 then some (Sum.inr ((1 : Int32), u1)) else gin x4_1 10 (gin x4_1 10 (Option.bind (f_X7_isPerson (gA u1 39 x4_1.toNatClampNeg) u1) (fun r5 => (if r5 = 0 then some (Sum.inl (x4_1 + (1 : Int32), u1)) else (if p1 = 0 then (if (gA u1 39 x4_1.toNatClampNeg) = p2 then obind (f_X6_glow 13 (gA u1 39 x4_1.toNatClampNeg) (gA u1 40 x4_1.toNatClampNeg) u1) (fun r13 u13 => gin x4_1 10 ((if (imax (0 : Int32) r13) = (gA u13 41 x4_1.toNatClampNeg) then some (Sum.inl (x4_1 + (1 : Int32), u13)) else some (Sum.inr ((0 : Int32), u13))))) else some (Sum.inl (x4_1 + (1 : Int32), u1))) else (if (gA u1 40 x4_1.toNatClampNeg) = p2 then obind (f_X6_glow 13 (gA u1 39 x4_1.toNatClampNeg) (gA u1 40 x4_1.toNatClampNeg) u1) (fun r9 u9 => gin x4_1 10 ((if (imax (0 : Int32) r9) = (gA u9 41 x4_1.toNatClampNeg) then some (Sum.inl (x4_1 + (1 : Int32), u9)) else some (Sum.inr ((0 : Int32), u9))))) else some (Sum.inl (x4_1 + (1 : Int32), u1)))))))))
def f_X7_isAllSeenSo (p1 : Int32) (p2 : Int32) (u : Mem) : Option (Int32 × Mem) := whileO (fun s => f_X7_isAllSeenSo_L11 p1 p2 s.1 s.2) FUEL ((0 : Int32), u)
set_option maxHeartbeats 4000000 in
set_option maxRecDepth 100000 in
theorem k_X7_isAllSeenSo (l : Launch) (D : gDt) (base : Nat) (Z : gZt) (u : Mem) (p1 : Int32) (p2 : Int32) (r : Int32) (u' : Mem) (hf : f_X7_isAllSeenSo p1 p2 u = some (r, u')) : Met l yX7_isAllSeenSo (gws yX7_isAllSeenSo cX7_isAllSeenSo 7 (some .boolean)) (gRm 5 0 0) (gPc D base Z u [.ref (base + 0), .int p1, .int p2]) (gQi D base r u') 0 0 (gF base) := by
  refine Met.ofW (cc := cX7_isAllSeenSo) (maxL := 7) (ret := some .boolean) (by decide) rfl ?_
  intro p e s m args below meth c s₁ B hml hv
  obtain ⟨rfl, C0, hG⟩ := g_enter B hml hv
  have hr := B.returns
  have C0 : gC p s m meth c _ cX7_isAllSeenSo 7 RX7 D base Z := C0
  have hx := C0.1
  have hb := C0.2.1
  have hl := lv_entry ([.ref (base + 0), .int p1, .int p2]) (n := 7) (Nat.le_of_ble_eq_true rfl)
  rw [lg_entry_eq]
  generalize (lg_sl ([.ref (base + 0), .int p1, .int p2]) ++ List.replicate (7 - (lg_sl ([.ref (base + 0), .int p1, .int p2])).length) Slot.unset).toArray = ls at hl ⊢
  have hl : lv_has ls 7 [(0, .ref (base + 0)), (1, .int p1), (2, .int p2)] := hl
  obtain ⟨Q, hQ⟩ : ∃ Q, Q = MQ below (gQi D base r u') ([.ref (base + 0), .int p1, .int p2] : List Value).toArray s 0 0 (gF base) := ⟨_, rfl⟩
  rw [← hQ]
  change W p l e (gRm 5 0 0) s m _ below meth c _ _ _ _ _ _
  unfold f_X7_isAllSeenSo at hf
  refine lv_aload_n hx hb dX7_isAllSeenSo_0 rfl (lv_at hl 0 rfl) ?_
  refine g_getSa (o := 37) (a := 37) C0 hG (L0 hG) rfl 3 (by decide) rfl rfl w_332 dX7_isAllSeenSo_1 ?_
  refine g_getSaN (o := 1) (a := 38) C0 hG (L37 hG) rfl 0 (by decide) rfl rfl w_246 dX7_isAllSeenSo_4 ?_
  refine lv_astore_n (lv' := [(3, .ref (base + 38)), (0, .ref (base + 0)), (1, .int p1), (2, .int p2)]) hx hb dX7_isAllSeenSo_7 rfl hl (by decide) rfl (fun ls hl => ?_)
  refine lv_iconst (v := (0 : Int32)) hx hb dX7_isAllSeenSo_8 (by decide) ?_
  refine lv_istore (lv' := [(4, .int (0 : Int32)), (3, .ref (base + 38)), (0, .ref (base + 0)), (1, .int p1), (2, .int p2)]) hx hb dX7_isAllSeenSo_9 hl (by decide) rfl (fun ls hl => ?_)
  have loop1 : ∀ (n1 : Nat) (x4_1 : Int32) (u1 : Mem) (H : Heap) (locs : List Loc) (ls : Array Slot), gH D base s u1 H locs → lv_has ls 7 [(0, .ref (base + 0)), (1, .int p1), (2, .int p2), (3, .ref (base + 38)), (4, .int x4_1)] → whileO (fun s => f_X7_isAllSeenSo_L11 p1 p2 s.1 s.2) n1 (x4_1, u1) = some (r, u') → W p l e (gRm 5 0 0) s m ([.ref (base + 0), .int p1, .int p2] : List Value).toArray below meth c H locs 0 0 Q (F0 m 11 ls []) := by
    intro n1
    induction n1 with
    | zero => intro x4_1 u1 H locs ls hG hl hf; cases hf
    | succ n1 ih1 =>
      intro x4_1 u1 H locs ls hG hl hf
      obtain ⟨X1, hf, hX1⟩ := while_s hf
      have hf : f_X7_isAllSeenSo_L11 p1 p2 x4_1 u1 = some X1 := hf
      unfold f_X7_isAllSeenSo_L11 at hf
      refine lv_iload hx hb dX7_isAllSeenSo_11 (lv_at hl 4 rfl) ?_
      refine lv_aload_n hx hb dX7_isAllSeenSo_13 rfl (lv_at hl 3 rfl) ?_
      refine g_getIN C0 hG (L38 hG) rfl 4 (by decide) rfl w_233 dX7_isAllSeenSo_14 ?_
      refine lv_icmp_ge (tgt := 98) hx hb dX7_isAllSeenSo_17 (by decide) (fun c2 => ?_) (fun c2 => ?_)
      · have hf := gif_t c2 hf
        refine lv_iconst (v := (1 : Int32)) hx hb dX7_isAllSeenSo_98 (by decide) ?_
        have hf := while_r hX1 hf
        obtain ⟨hr1, hu⟩ := gret_s hf
        subst hr1
        subst hu
        subst hQ
        exact g_zret C0 hG hr (by decide) dX7_isAllSeenSo_99
      · have hf := gif_f c2 hf
        refine lv_aload_n hx hb dX7_isAllSeenSo_20 rfl (lv_at hl 3 rfl) ?_
        refine g_getSaN (o := 1) (a := 39) C0 hG (L38 hG) rfl 0 (by decide) rfl rfl w_226 dX7_isAllSeenSo_21 ?_
        refine lv_iload hx hb dX7_isAllSeenSo_24 (lv_at hl 4 rfl) ?_
        obtain ⟨h3, hf⟩ := gin_s hf
        refine g_iald C0 hG (L39 hG) h3 dX7_isAllSeenSo_26 ?_
        refine lv_istore (lv' := [(5, .int (gA u1 39 x4_1.toNatClampNeg)), (0, .ref (base + 0)), (1, .int p1), (2, .int p2), (3, .ref (base + 38)), (4, .int x4_1)]) hx hb dX7_isAllSeenSo_27 hl (by decide) rfl (fun ls hl => ?_)
        refine lv_aload_n hx hb dX7_isAllSeenSo_29 rfl (lv_at hl 4 rfl) ?_
        refine g_getSaN (o := 2) (a := 40) C0 hG (L38 hG) rfl 1 (by decide) rfl rfl w_228 dX7_isAllSeenSo_30 ?_
        refine lv_iload hx hb dX7_isAllSeenSo_33 (lv_at hl 5 rfl) ?_
        obtain ⟨h4, hf⟩ := gin_s hf
        refine g_iald C0 hG (L40 hG) h4 dX7_isAllSeenSo_35 ?_
        refine lv_istore (lv' := [(6, .int (gA u1 40 x4_1.toNatClampNeg)), (5, .int (gA u1 39 x4_1.toNatClampNeg)), (0, .ref (base + 0)), (1, .int p1), (2, .int p2), (3, .ref (base + 38)), (4, .int x4_1)]) hx hb dX7_isAllSeenSo_36 hl (by decide) rfl (fun ls hl => ?_)
        refine lv_aload_n hx hb dX7_isAllSeenSo_38 rfl (lv_at hl 2 rfl) ?_
        refine lv_iload hx hb dX7_isAllSeenSo_39 (lv_at hl 1 rfl) ?_
        obtain ⟨r5, hc5, hf⟩ := pb_s hf
        refine g_doI0 hG (g_runV C0 hG (k_X7_isPerson l D base Z u1 (gA u1 39 x4_1.toNatClampNeg) r5 hc5) m_X7_isPerson v_X7_isPerson w_378 (by decide) (g_recv C0 hG (L0 hG) rfl) rfl hl.1 rfl (Nat.le_of_ble_eq_true rfl) dX7_isAllSeenSo_41 ⟨Nat.zero_le _, Nat.zero_le _⟩) (fun H locs hG hk => ?_)
        refine lv_if_eq (tgt := 92) hx hb dX7_isAllSeenSo_44 (by decide) (fun c6 => ?_) (fun c6 => ?_)
        · have hf := gif_t c6 hf
          refine lv_iinc (v := x4_1 + (1 : Int32)) (lv' := [(4, .int (x4_1 + (1 : Int32))), (6, .int (gA u1 40 x4_1.toNatClampNeg)), (5, .int (gA u1 39 x4_1.toNatClampNeg)), (0, .ref (base + 0)), (1, .int p1), (2, .int p2), (3, .ref (base + 38))]) hx hb dX7_isAllSeenSo_92 hl (k := 6) rfl rfl (by decide) rfl (fun ls hl => ?_)
          refine lv_goto (tgt := 11) hx hb dX7_isAllSeenSo_95 (by decide) ?_
          have hf := while_l hX1 hf
          exact ih1 (x4_1 + (1 : Int32)) u1 _ _ ls hG (lv_sub hl [3, 4, 5, 6, 0] rfl) hf
        · have hf := gif_f c6 hf
          refine lv_iload_n hx hb dX7_isAllSeenSo_47 rfl (lv_at hl 3 rfl) ?_
          refine lv_if_ne (tgt := 56) hx hb dX7_isAllSeenSo_48 (by decide) (fun c7 => ?_) (fun c7 => ?_)
          · have hf := gif_f c7 hf
            refine lv_iload hx hb dX7_isAllSeenSo_56 (lv_at hl 0 rfl) ?_
            refine lv_iload_n hx hb dX7_isAllSeenSo_58 rfl (lv_at hl 4 rfl) ?_
            refine lv_icmp_eq (tgt := 65) hx hb dX7_isAllSeenSo_59 (by decide) (fun c8 => ?_) (fun c8 => ?_)
            · have hf := gif_t c8 hf
              refine lv_iconst (v := (0 : Int32)) hx hb dX7_isAllSeenSo_65 (by decide) ?_
              refine lv_aload_n hx hb dX7_isAllSeenSo_66 rfl (lv_at hl 2 rfl) ?_
              refine g_getSa (o := 13) (a := 13) C0 hG (L0 hG) rfl 1 (by decide) rfl rfl w_330 dX7_isAllSeenSo_67 ?_
              refine lv_iload hx hb dX7_isAllSeenSo_70 (lv_at hl 1 rfl) ?_
              refine lv_iload hx hb dX7_isAllSeenSo_72 (lv_at hl 0 rfl) ?_
              obtain ⟨r9, u9, hc9, hf⟩ := obind_s hf
              refine g_doI0 hG (g_runVN C0 hG (k_X6_glow l D base Z u1 13 (gA u1 39 x4_1.toNatClampNeg) (gA u1 40 x4_1.toNatClampNeg) r9 u9 O13 hc9) m_X6_glow v_X6_glow w_418 (by decide) (g_recv C0 hG (L13 hG) rfl) rfl hl.1 rfl (Nat.le_of_ble_eq_true rfl) dX7_isAllSeenSo_74 ⟨Nat.zero_le _, Nat.zero_le _⟩) (fun H locs hG hk => ?_)
              refine g_max C0 w_707 mt_max_s mt_i mt_max_c hl.1 ⟨Nat.le_of_ble_eq_true rfl, Nat.le_of_ble_eq_true rfl, Nat.zero_le _, Nat.zero_le _⟩ dX7_isAllSeenSo_77 ?_
              refine lv_aload_n hx hb dX7_isAllSeenSo_80 rfl (lv_at hl 5 rfl) ?_
              refine g_getSaN (o := 3) (a := 41) C0 hG (L38 hG) rfl 2 (by decide) rfl rfl w_230 dX7_isAllSeenSo_81 ?_
              refine lv_iload hx hb dX7_isAllSeenSo_84 (lv_at hl 6 rfl) ?_
              obtain ⟨h10, hf⟩ := gin_s hf
              refine g_iald C0 hG (L41 hG) h10 dX7_isAllSeenSo_86 ?_
              refine lv_icmp_eq (tgt := 92) hx hb dX7_isAllSeenSo_87 (by decide) (fun c11 => ?_) (fun c11 => ?_)
              · have hf := gif_t c11 hf
                refine lv_iinc (v := x4_1 + (1 : Int32)) (lv' := [(4, .int (x4_1 + (1 : Int32))), (6, .int (gA u1 40 x4_1.toNatClampNeg)), (5, .int (gA u1 39 x4_1.toNatClampNeg)), (0, .ref (base + 0)), (1, .int p1), (2, .int p2), (3, .ref (base + 38))]) hx hb dX7_isAllSeenSo_92 hl (k := 6) rfl rfl (by decide) rfl (fun ls hl => ?_)
                refine lv_goto (tgt := 11) hx hb dX7_isAllSeenSo_95 (by decide) ?_
                have hf := while_l hX1 hf
                exact ih1 (x4_1 + (1 : Int32)) u9 _ _ ls hG (lv_sub hl [3, 4, 5, 6, 0] rfl) hf
              · have hf := gif_f c11 hf
                refine lv_iconst (v := (0 : Int32)) hx hb dX7_isAllSeenSo_90 (by decide) ?_
                have hf := while_r hX1 hf
                obtain ⟨hr1, hu⟩ := gret_s hf
                subst hr1
                subst hu
                subst hQ
                exact g_zret C0 hG hr (by decide) dX7_isAllSeenSo_91
            · have hf := gif_f c8 hf
              refine lv_goto (tgt := 92) hx hb dX7_isAllSeenSo_62 (by decide) ?_
              refine lv_iinc (v := x4_1 + (1 : Int32)) (lv' := [(4, .int (x4_1 + (1 : Int32))), (6, .int (gA u1 40 x4_1.toNatClampNeg)), (5, .int (gA u1 39 x4_1.toNatClampNeg)), (0, .ref (base + 0)), (1, .int p1), (2, .int p2), (3, .ref (base + 38))]) hx hb dX7_isAllSeenSo_92 hl (k := 6) rfl rfl (by decide) rfl (fun ls hl => ?_)
              refine lv_goto (tgt := 11) hx hb dX7_isAllSeenSo_95 (by decide) ?_
              have hf := while_l hX1 hf
              exact ih1 (x4_1 + (1 : Int32)) u1 _ _ ls hG (lv_sub hl [3, 4, 5, 6, 0] rfl) hf
          · have hf := gif_t c7 hf
            refine lv_iload hx hb dX7_isAllSeenSo_51 (lv_at hl 1 rfl) ?_
            refine lv_goto (tgt := 58) hx hb dX7_isAllSeenSo_53 (by decide) ?_
            refine lv_iload_n hx hb dX7_isAllSeenSo_58 rfl (lv_at hl 4 rfl) ?_
            refine lv_icmp_eq (tgt := 65) hx hb dX7_isAllSeenSo_59 (by decide) (fun c12 => ?_) (fun c12 => ?_)
            · have hf := gif_t c12 hf
              refine lv_iconst (v := (0 : Int32)) hx hb dX7_isAllSeenSo_65 (by decide) ?_
              refine lv_aload_n hx hb dX7_isAllSeenSo_66 rfl (lv_at hl 2 rfl) ?_
              refine g_getSa (o := 13) (a := 13) C0 hG (L0 hG) rfl 1 (by decide) rfl rfl w_330 dX7_isAllSeenSo_67 ?_
              refine lv_iload hx hb dX7_isAllSeenSo_70 (lv_at hl 1 rfl) ?_
              refine lv_iload hx hb dX7_isAllSeenSo_72 (lv_at hl 0 rfl) ?_
              obtain ⟨r13, u13, hc13, hf⟩ := obind_s hf
              refine g_doI0 hG (g_runVN C0 hG (k_X6_glow l D base Z u1 13 (gA u1 39 x4_1.toNatClampNeg) (gA u1 40 x4_1.toNatClampNeg) r13 u13 O13 hc13) m_X6_glow v_X6_glow w_418 (by decide) (g_recv C0 hG (L13 hG) rfl) rfl hl.1 rfl (Nat.le_of_ble_eq_true rfl) dX7_isAllSeenSo_74 ⟨Nat.zero_le _, Nat.zero_le _⟩) (fun H locs hG hk => ?_)
              refine g_max C0 w_707 mt_max_s mt_i mt_max_c hl.1 ⟨Nat.le_of_ble_eq_true rfl, Nat.le_of_ble_eq_true rfl, Nat.zero_le _, Nat.zero_le _⟩ dX7_isAllSeenSo_77 ?_
              refine lv_aload_n hx hb dX7_isAllSeenSo_80 rfl (lv_at hl 5 rfl) ?_
              refine g_getSaN (o := 3) (a := 41) C0 hG (L38 hG) rfl 2 (by decide) rfl rfl w_230 dX7_isAllSeenSo_81 ?_
              refine lv_iload hx hb dX7_isAllSeenSo_84 (lv_at hl 6 rfl) ?_
              obtain ⟨h14, hf⟩ := gin_s hf
              refine g_iald C0 hG (L41 hG) h14 dX7_isAllSeenSo_86 ?_
              refine lv_icmp_eq (tgt := 92) hx hb dX7_isAllSeenSo_87 (by decide) (fun c15 => ?_) (fun c15 => ?_)
              · have hf := gif_t c15 hf
                refine lv_iinc (v := x4_1 + (1 : Int32)) (lv' := [(4, .int (x4_1 + (1 : Int32))), (6, .int (gA u1 40 x4_1.toNatClampNeg)), (5, .int (gA u1 39 x4_1.toNatClampNeg)), (0, .ref (base + 0)), (1, .int p1), (2, .int p2), (3, .ref (base + 38))]) hx hb dX7_isAllSeenSo_92 hl (k := 6) rfl rfl (by decide) rfl (fun ls hl => ?_)
                refine lv_goto (tgt := 11) hx hb dX7_isAllSeenSo_95 (by decide) ?_
                have hf := while_l hX1 hf
                exact ih1 (x4_1 + (1 : Int32)) u13 _ _ ls hG (lv_sub hl [3, 4, 5, 6, 0] rfl) hf
              · have hf := gif_f c15 hf
                refine lv_iconst (v := (0 : Int32)) hx hb dX7_isAllSeenSo_90 (by decide) ?_
                have hf := while_r hX1 hf
                obtain ⟨hr1, hu⟩ := gret_s hf
                subst hr1
                subst hu
                subst hQ
                exact g_zret C0 hG hr (by decide) dX7_isAllSeenSo_91
            · have hf := gif_f c12 hf
              refine lv_goto (tgt := 92) hx hb dX7_isAllSeenSo_62 (by decide) ?_
              refine lv_iinc (v := x4_1 + (1 : Int32)) (lv' := [(4, .int (x4_1 + (1 : Int32))), (6, .int (gA u1 40 x4_1.toNatClampNeg)), (5, .int (gA u1 39 x4_1.toNatClampNeg)), (0, .ref (base + 0)), (1, .int p1), (2, .int p2), (3, .ref (base + 38))]) hx hb dX7_isAllSeenSo_92 hl (k := 6) rfl rfl (by decide) rfl (fun ls hl => ?_)
              refine lv_goto (tgt := 11) hx hb dX7_isAllSeenSo_95 (by decide) ?_
              have hf := while_l hX1 hf
              exact ih1 (x4_1 + (1 : Int32)) u1 _ _ ls hG (lv_sub hl [3, 4, 5, 6, 0] rfl) hf
  exact loop1 FUEL (0 : Int32) u _ _ ls hG (lv_sub hl [2, 3, 4, 1, 0] rfl) hf
theorem dX7_can_0 : decode cX7_can 0 = .ok (.iload_n 1, 1) := by decide +kernel
theorem dX7_can_1 : decode cX7_can 1 = .ok (.iconst 2, 1) := by decide +kernel
theorem dX7_can_2 : decode cX7_can 2 = .ok (.invokestatic 63, 3) := by decide +kernel
theorem dX7_can_5 : decode cX7_can 5 = .ok (.ifCond .eq 11, 3) := by decide +kernel
theorem dX7_can_8 : decode cX7_can 8 = .ok (.iload_n 3, 1) := by decide +kernel
theorem dX7_can_9 : decode cX7_can 9 = .ok (.iconst 2, 1) := by decide +kernel
theorem dX7_can_10 : decode cX7_can 10 = .ok (.invokestatic 63, 3) := by decide +kernel
theorem dX7_can_13 : decode cX7_can 13 = .ok (.ifCond .ne 5, 3) := by decide +kernel
theorem dX7_can_16 : decode cX7_can 16 = .ok (.iconst (-1), 1) := by decide +kernel
theorem dX7_can_17 : decode cX7_can 17 = .ok (.ireturn, 1) := by decide +kernel
theorem dX7_can_18 : decode cX7_can 18 = .ok (.iload_n 1, 1) := by decide +kernel
theorem dX7_can_19 : decode cX7_can 19 = .ok (.ifCond .ne 14, 3) := by decide +kernel
theorem dX7_can_22 : decode cX7_can 22 = .ok (.aload_n 0, 1) := by decide +kernel
theorem dX7_can_23 : decode cX7_can 23 = .ok (.iload_n 2, 1) := by decide +kernel
theorem dX7_can_24 : decode cX7_can 24 = .ok (.invokevirtual 74, 3) := by decide +kernel
theorem dX7_can_27 : decode cX7_can 27 = .ok (.ifCond .ne 15, 3) := by decide +kernel
theorem dX7_can_30 : decode cX7_can 30 = .ok (.goto 10, 3) := by decide +kernel
theorem dX7_can_33 : decode cX7_can 33 = .ok (.iload_n 2, 1) := by decide +kernel
theorem dX7_can_34 : decode cX7_can 34 = .ok (.invokestatic 107, 3) := by decide +kernel
theorem dX7_can_37 : decode cX7_can 37 = .ok (.ifCond .ne 5, 3) := by decide +kernel
theorem dX7_can_40 : decode cX7_can 40 = .ok (.iconst (-1), 1) := by decide +kernel
theorem dX7_can_41 : decode cX7_can 41 = .ok (.ireturn, 1) := by decide +kernel
theorem dX7_can_42 : decode cX7_can 42 = .ok (.aload_n 0, 1) := by decide +kernel
theorem dX7_can_43 : decode cX7_can 43 = .ok (.getfield 18, 3) := by decide +kernel
theorem dX7_can_46 : decode cX7_can 46 = .ok (.aload_n 0, 1) := by decide +kernel
theorem dX7_can_47 : decode cX7_can 47 = .ok (.getfield 12, 3) := by decide +kernel
theorem dX7_can_50 : decode cX7_can 50 = .ok (.invokevirtual 168, 3) := by decide +kernel
theorem dX7_can_53 : decode cX7_can 53 = .ok (.iload_n 1, 1) := by decide +kernel
theorem dX7_can_54 : decode cX7_can 54 = .ok (.ifCond .ne 13, 3) := by decide +kernel
theorem dX7_can_57 : decode cX7_can 57 = .ok (.aload_n 0, 1) := by decide +kernel
theorem dX7_can_58 : decode cX7_can 58 = .ok (.getfield 18, 3) := by decide +kernel
theorem dX7_can_61 : decode cX7_can 61 = .ok (.getfield 82, 3) := by decide +kernel
theorem dX7_can_64 : decode cX7_can 64 = .ok (.goto 10, 3) := by decide +kernel
theorem dX7_can_67 : decode cX7_can 67 = .ok (.aload_n 0, 1) := by decide +kernel
theorem dX7_can_68 : decode cX7_can 68 = .ok (.getfield 18, 3) := by decide +kernel
theorem dX7_can_71 : decode cX7_can 71 = .ok (.getfield 116, 3) := by decide +kernel
theorem dX7_can_74 : decode cX7_can 74 = .ok (.astore 4, 2) := by decide +kernel
theorem dX7_can_76 : decode cX7_can 76 = .ok (.iload_n 1, 1) := by decide +kernel
theorem dX7_can_77 : decode cX7_can 77 = .ok (.ifCond .ne 8, 3) := by decide +kernel
theorem dX7_can_80 : decode cX7_can 80 = .ok (.bipush 9, 2) := by decide +kernel
theorem dX7_can_82 : decode cX7_can 82 = .ok (.goto 5, 3) := by decide +kernel
theorem dX7_can_85 : decode cX7_can 85 = .ok (.bipush 99, 2) := by decide +kernel
theorem dX7_can_87 : decode cX7_can 87 = .ok (.istore 5, 2) := by decide +kernel
theorem dX7_can_89 : decode cX7_can 89 = .ok (.iconst 0, 1) := by decide +kernel
theorem dX7_can_90 : decode cX7_can 90 = .ok (.istore 6, 2) := by decide +kernel
theorem dX7_can_92 : decode cX7_can 92 = .ok (.bipush (-5), 2) := by decide +kernel
theorem dX7_can_94 : decode cX7_can 94 = .ok (.istore 7, 2) := by decide +kernel
theorem dX7_can_96 : decode cX7_can 96 = .ok (.iload 5, 2) := by decide +kernel
theorem dX7_can_98 : decode cX7_can 98 = .ok (.istore 8, 2) := by decide +kernel
theorem dX7_can_100 : decode cX7_can 100 = .ok (.iload 8, 2) := by decide +kernel
theorem dX7_can_102 : decode cX7_can 102 = .ok (.ifCond .lt 31, 3) := by decide +kernel
theorem dX7_can_105 : decode cX7_can 105 = .ok (.aload 4, 2) := by decide +kernel
theorem dX7_can_107 : decode cX7_can 107 = .ok (.iload_n 2, 1) := by decide +kernel
theorem dX7_can_108 : decode cX7_can 108 = .ok (.iload 8, 2) := by decide +kernel
theorem dX7_can_110 : decode cX7_can 110 = .ok (.iastore, 1) := by decide +kernel
theorem dX7_can_111 : decode cX7_can 111 = .ok (.aload_n 0, 1) := by decide +kernel
theorem dX7_can_112 : decode cX7_can 112 = .ok (.iload_n 1, 1) := by decide +kernel
theorem dX7_can_113 : decode cX7_can 113 = .ok (.iload_n 2, 1) := by decide +kernel
theorem dX7_can_114 : decode cX7_can 114 = .ok (.invokevirtual 191, 3) := by decide +kernel
theorem dX7_can_117 : decode cX7_can 117 = .ok (.ifCond .eq 10, 3) := by decide +kernel
theorem dX7_can_120 : decode cX7_can 120 = .ok (.iinc 6 1, 3) := by decide +kernel
theorem dX7_can_123 : decode cX7_can 123 = .ok (.iload 8, 2) := by decide +kernel
theorem dX7_can_125 : decode cX7_can 125 = .ok (.istore 7, 2) := by decide +kernel
theorem dX7_can_127 : decode cX7_can 127 = .ok (.iinc 8 (-1), 3) := by decide +kernel
theorem dX7_can_130 : decode cX7_can 130 = .ok (.goto (-30), 3) := by decide +kernel
theorem dX7_can_133 : decode cX7_can 133 = .ok (.iload_n 3, 1) := by decide +kernel
theorem dX7_can_134 : decode cX7_can 134 = .ok (.ifCond .ne 8, 3) := by decide +kernel
theorem dX7_can_137 : decode cX7_can 137 = .ok (.iload 6, 2) := by decide +kernel
theorem dX7_can_139 : decode cX7_can 139 = .ok (.goto 5, 3) := by decide +kernel
theorem dX7_can_142 : decode cX7_can 142 = .ok (.iload 7, 2) := by decide +kernel
theorem dX7_can_144 : decode cX7_can 144 = .ok (.ireturn, 1) := by decide +kernel
def f_X7_can_L100 (p3 : Int32) (p2 : Int32) (p1 : Int32) (x6_9 : Int32) (x7_9 : Int32) (x8_9 : Int32) (u9 : Mem) : Option ((Int32 × Int32 × Int32 × Mem) ⊕ (Int32 × Mem)) := (if x8_9 < 0 then (if p3 = 0 then some (Sum.inr (x6_9, u9)) else some (Sum.inr (x7_9, u9))) else gin p2 8 (obind (f_X7_isAllSeenSo p1 p2 (sA u9 15 p2.toNatClampNeg x8_9)) (fun r13 u13 => (if r13 = 0 then some (Sum.inl (x6_9, (x7_9, (x8_9 + (-1 : Int32), u13)))) else some (Sum.inl (x6_9 + (1 : Int32), (x8_9, (x8_9 + (-1 : Int32), u13))))))))
def f_X7_can_L100b (p3 : Int32) (p2 : Int32) (p1 : Int32) (x6_18 : Int32) (x7_18 : Int32) (x8_18 : Int32) (u18 : Mem) : Option ((Int32 × Int32 × Int32 × Mem) ⊕ (Int32 × Mem)) := (if x8_18 < 0 then (if p3 = 0 then some (Sum.inr (x6_18, u18)) else some (Sum.inr (x7_18, u18))) else gin p2 6 (obind (f_X7_isAllSeenSo p1 p2 (sA u18 17 p2.toNatClampNeg x8_18)) (fun r22 u22 => (if r22 = 0 then some (Sum.inl (x6_18, (x7_18, (x8_18 + (-1 : Int32), u22)))) else some (Sum.inl (x6_18 + (1 : Int32), (x8_18, (x8_18 + (-1 : Int32), u22))))))))
def f_X7_can (p1 : Int32) (p2 : Int32) (p3 : Int32) (u : Mem) : Option (Int32 × Mem) := Option.bind (f_X7_isWithin p1 (2 : Int32)) (fun r1 => (if r1 = 0 then some ((-1 : Int32), u) else Option.bind (f_X7_isWithin p3 (2 : Int32)) (fun r3 => (if r3 = 0 then some ((-1 : Int32), u) else (if p1 = 0 then Option.bind (f_X7_isPerson p2 u) (fun r15 => (if r15 = 0 then some ((-1 : Int32), u) else obind (f_X6_becomeLike 13 1 u) (fun _ u17 => whileO (fun s => f_X7_can_L100b p3 p2 p1 s.1 s.2.1 s.2.2.1 s.2.2.2) FUEL ((0 : Int32), ((-5 : Int32), ((9 : Int32), u17)))))) else Option.bind (f_X7_isTale p2) (fun r6 => (if r6 = 0 then some ((-1 : Int32), u) else obind (f_X6_becomeLike 13 1 u) (fun _ u8 => whileO (fun s => f_X7_can_L100 p3 p2 p1 s.1 s.2.1 s.2.2.1 s.2.2.2) FUEL ((0 : Int32), ((-5 : Int32), ((99 : Int32), u8)))))))))))
set_option maxHeartbeats 4000000 in
set_option maxRecDepth 100000 in
theorem k_X7_can (l : Launch) (D : gDt) (base : Nat) (Z : gZt) (u : Mem) (p1 : Int32) (p2 : Int32) (p3 : Int32) (r : Int32) (u' : Mem) (hf : f_X7_can p1 p2 p3 u = some (r, u')) : Met l yX7_can (gws yX7_can cX7_can 9 (some .int)) (gRm 6 0 0) (gPc D base Z u [.ref (base + 0), .int p1, .int p2, .int p3]) (gQi D base r u') 0 0 (gF base) := by
  refine Met.ofW (cc := cX7_can) (maxL := 9) (ret := some .int) (by decide) rfl ?_
  intro p e s m args below meth c s₁ B hml hv
  obtain ⟨rfl, C0, hG⟩ := g_enter B hml hv
  have hr := B.returns
  have C0 : gC p s m meth c _ cX7_can 9 RX7 D base Z := C0
  have hx := C0.1
  have hb := C0.2.1
  have hl := lv_entry ([.ref (base + 0), .int p1, .int p2, .int p3]) (n := 9) (Nat.le_of_ble_eq_true rfl)
  rw [lg_entry_eq]
  generalize (lg_sl ([.ref (base + 0), .int p1, .int p2, .int p3]) ++ List.replicate (9 - (lg_sl ([.ref (base + 0), .int p1, .int p2, .int p3])).length) Slot.unset).toArray = ls at hl ⊢
  have hl : lv_has ls 9 [(0, .ref (base + 0)), (1, .int p1), (2, .int p2), (3, .int p3)] := hl
  obtain ⟨Q, hQ⟩ : ∃ Q, Q = MQ below (gQi D base r u') ([.ref (base + 0), .int p1, .int p2, .int p3] : List Value).toArray s 0 0 (gF base) := ⟨_, rfl⟩
  rw [← hQ]
  change W p l e (gRm 6 0 0) s m _ below meth c _ _ _ _ _ _
  unfold f_X7_can at hf
  refine lv_iload_n hx hb dX7_can_0 rfl (lv_at hl 1 rfl) ?_
  refine lv_iconst (v := (2 : Int32)) hx hb dX7_can_1 (by decide) ?_
  obtain ⟨r1, hc1, hf⟩ := pb_s hf
  refine g_doI0 hG (g_runS C0 hG (k_X7_isWithin l D base Z u p1 (2 : Int32) r1 hc1) m_X7_isWithin s_X7_isWithin w_364 (by decide) rfl hl.1 rfl (Nat.le_of_ble_eq_true rfl) dX7_can_2 ⟨Nat.zero_le _, Nat.zero_le _⟩) (fun H locs hG hk => ?_)
  refine lv_if_eq (tgt := 16) hx hb dX7_can_5 (by decide) (fun c2 => ?_) (fun c2 => ?_)
  · have hf := gif_t c2 hf
    refine lv_iconst (v := (-1 : Int32)) hx hb dX7_can_16 (by decide) ?_
    obtain ⟨hr1, hu⟩ := gret_s hf
    subst hr1
    subst hu
    subst hQ
    exact g_iret C0 hG hr dX7_can_17
  · have hf := gif_f c2 hf
    refine lv_iload_n hx hb dX7_can_8 rfl (lv_at hl 3 rfl) ?_
    refine lv_iconst (v := (2 : Int32)) hx hb dX7_can_9 (by decide) ?_
    obtain ⟨r3, hc3, hf⟩ := pb_s hf
    refine g_doI0 hG (g_runS C0 hG (k_X7_isWithin l D base Z u p3 (2 : Int32) r3 hc3) m_X7_isWithin s_X7_isWithin w_364 (by decide) rfl hl.1 rfl (Nat.le_of_ble_eq_true rfl) dX7_can_10 ⟨Nat.zero_le _, Nat.zero_le _⟩) (fun H locs hG hk => ?_)
    refine lv_if_ne (tgt := 18) hx hb dX7_can_13 (by decide) (fun c4 => ?_) (fun c4 => ?_)
    · have hf := gif_f c4 hf
      refine lv_iload_n hx hb dX7_can_18 rfl (lv_at hl 1 rfl) ?_
      refine lv_if_ne (tgt := 33) hx hb dX7_can_19 (by decide) (fun c5 => ?_) (fun c5 => ?_)
      · have hf := gif_f c5 hf
        refine lv_iload_n hx hb dX7_can_33 rfl (lv_at hl 2 rfl) ?_
        obtain ⟨r6, hc6, hf⟩ := pb_s hf
        refine g_doI0 hG (g_runS C0 hG (k_X7_isTale l D base Z u p2 r6 hc6) m_X7_isTale s_X7_isTale w_415 (by decide) rfl hl.1 rfl (Nat.le_of_ble_eq_true rfl) dX7_can_34 ⟨Nat.zero_le _, Nat.zero_le _⟩) (fun H locs hG hk => ?_)
        refine lv_if_ne (tgt := 42) hx hb dX7_can_37 (by decide) (fun c7 => ?_) (fun c7 => ?_)
        · have hf := gif_f c7 hf
          refine lv_aload_n hx hb dX7_can_42 rfl (lv_at hl 0 rfl) ?_
          refine g_getSa (o := 13) (a := 13) C0 hG (L0 hG) rfl 1 (by decide) rfl rfl w_330 dX7_can_43 ?_
          refine lv_aload_n hx hb dX7_can_46 rfl (lv_at hl 0 rfl) ?_
          refine g_getSa (o := 1) (a := 1) C0 hG (L0 hG) rfl 0 (by decide) rfl rfl w_329 dX7_can_47 ?_
          obtain ⟨_, u8, hc8, hf⟩ := obind_s hf
          refine g_doV0 hG (g_runVN C0 hG (k_X6_becomeLike l D base Z u 13 1 u8 O13 O1 hc8) m_X6_becomeLike v_X6_becomeLike w_663 (by decide) (g_recv C0 hG (L13 hG) rfl) rfl hl.1 rfl (Nat.le_of_ble_eq_true rfl) dX7_can_50 ⟨Nat.zero_le _, Nat.zero_le _⟩) (fun H locs hG hk => ?_)
          refine lv_iload_n hx hb dX7_can_53 rfl (lv_at hl 1 rfl) ?_
          refine lv_if_ne (tgt := 67) hx hb dX7_can_54 (by decide) (fun _ => ?_) (fun c => absurd c c5)
          refine lv_aload_n hx hb dX7_can_67 rfl (lv_at hl 0 rfl) ?_
          refine g_getSa (o := 13) (a := 13) C0 hG (L0 hG) rfl 1 (by decide) rfl rfl w_330 dX7_can_68 ?_
          refine g_getSaN (o := 2) (a := 15) C0 hG (L13 hG) rfl 1 (by decide) rfl rfl w_157 dX7_can_71 ?_
          refine lv_astore (lv' := [(4, .ref (base + 15)), (0, .ref (base + 0)), (1, .int p1), (2, .int p2), (3, .int p3)]) hx hb dX7_can_74 hl (by decide) rfl (fun ls hl => ?_)
          refine lv_iload_n hx hb dX7_can_76 rfl (lv_at hl 2 rfl) ?_
          refine lv_if_ne (tgt := 85) hx hb dX7_can_77 (by decide) (fun _ => ?_) (fun c => absurd c c5)
          refine lv_bipush (v := (99 : Int32)) hx hb dX7_can_85 (by decide) ?_
          refine lv_istore (lv' := [(5, .int (99 : Int32)), (4, .ref (base + 15)), (0, .ref (base + 0)), (1, .int p1), (2, .int p2), (3, .int p3)]) hx hb dX7_can_87 hl (by decide) rfl (fun ls hl => ?_)
          refine lv_iconst (v := (0 : Int32)) hx hb dX7_can_89 (by decide) ?_
          refine lv_istore (lv' := [(6, .int (0 : Int32)), (5, .int (99 : Int32)), (4, .ref (base + 15)), (0, .ref (base + 0)), (1, .int p1), (2, .int p2), (3, .int p3)]) hx hb dX7_can_90 hl (by decide) rfl (fun ls hl => ?_)
          refine lv_bipush (v := (-5 : Int32)) hx hb dX7_can_92 (by decide) ?_
          refine lv_istore (lv' := [(7, .int (-5 : Int32)), (6, .int (0 : Int32)), (5, .int (99 : Int32)), (4, .ref (base + 15)), (0, .ref (base + 0)), (1, .int p1), (2, .int p2), (3, .int p3)]) hx hb dX7_can_94 hl (by decide) rfl (fun ls hl => ?_)
          refine lv_iload hx hb dX7_can_96 (lv_at hl 2 rfl) ?_
          refine lv_istore (lv' := [(8, .int (99 : Int32)), (7, .int (-5 : Int32)), (6, .int (0 : Int32)), (5, .int (99 : Int32)), (4, .ref (base + 15)), (0, .ref (base + 0)), (1, .int p1), (2, .int p2), (3, .int p3)]) hx hb dX7_can_98 hl (by decide) rfl (fun ls hl => ?_)
          have loop9 : ∀ (n9 : Nat) (x6_9 : Int32) (x7_9 : Int32) (x8_9 : Int32) (u9 : Mem) (H : Heap) (locs : List Loc) (ls : Array Slot), gH D base s u9 H locs → lv_has ls 9 [(0, .ref (base + 0)), (1, .int p1), (2, .int p2), (3, .int p3), (4, .ref (base + 15)), (6, .int x6_9), (7, .int x7_9), (8, .int x8_9)] → whileO (fun s => f_X7_can_L100 p3 p2 p1 s.1 s.2.1 s.2.2.1 s.2.2.2) n9 (x6_9, (x7_9, (x8_9, u9))) = some (r, u') → W p l e (gRm 6 0 0) s m ([.ref (base + 0), .int p1, .int p2, .int p3] : List Value).toArray below meth c H locs 0 0 Q (F0 m 100 ls []) := by
            intro n9
            induction n9 with
            | zero => intro x6_9 x7_9 x8_9 u9 H locs ls hG hl hf; cases hf
            | succ n9 ih9 =>
              intro x6_9 x7_9 x8_9 u9 H locs ls hG hl hf
              obtain ⟨X9, hf, hX9⟩ := while_s hf
              have hf : f_X7_can_L100 p3 p2 p1 x6_9 x7_9 x8_9 u9 = some X9 := hf
              unfold f_X7_can_L100 at hf
              refine lv_iload hx hb dX7_can_100 (lv_at hl 7 rfl) ?_
              refine lv_if_lt (tgt := 133) hx hb dX7_can_102 (by decide) (fun c10 => ?_) (fun c10 => ?_)
              · have hf := gif_t c10 hf
                refine lv_iload_n hx hb dX7_can_133 rfl (lv_at hl 3 rfl) ?_
                refine lv_if_ne (tgt := 142) hx hb dX7_can_134 (by decide) (fun c11 => ?_) (fun c11 => ?_)
                · have hf := gif_f c11 hf
                  refine lv_iload hx hb dX7_can_142 (lv_at hl 6 rfl) ?_
                  have hf := while_r hX9 hf
                  obtain ⟨hr1, hu⟩ := gret_s hf
                  subst hr1
                  subst hu
                  subst hQ
                  exact g_iret C0 hG hr dX7_can_144
                · have hf := gif_t c11 hf
                  refine lv_iload hx hb dX7_can_137 (lv_at hl 5 rfl) ?_
                  refine lv_goto (tgt := 144) hx hb dX7_can_139 (by decide) ?_
                  have hf := while_r hX9 hf
                  obtain ⟨hr1, hu⟩ := gret_s hf
                  subst hr1
                  subst hu
                  subst hQ
                  exact g_iret C0 hG hr dX7_can_144
              · have hf := gif_f c10 hf
                refine lv_aload hx hb dX7_can_105 (lv_at hl 4 rfl) ?_
                refine lv_iload_n hx hb dX7_can_107 rfl (lv_at hl 2 rfl) ?_
                refine lv_iload hx hb dX7_can_108 (lv_at hl 7 rfl) ?_
                obtain ⟨h12, hf⟩ := gin_s hf
                refine g_iast C0 hG (L15 hG) h12 dX7_can_110 (fun H locs hG => ?_)
                refine lv_aload_n hx hb dX7_can_111 rfl (lv_at hl 0 rfl) ?_
                refine lv_iload_n hx hb dX7_can_112 rfl (lv_at hl 1 rfl) ?_
                refine lv_iload_n hx hb dX7_can_113 rfl (lv_at hl 2 rfl) ?_
                obtain ⟨r13, u13, hc13, hf⟩ := obind_s hf
                refine g_doI0 hG (g_runV C0 hG (k_X7_isAllSeenSo l D base Z (sA u9 15 p2.toNatClampNeg x8_9) p1 p2 r13 u13 hc13) m_X7_isAllSeenSo v_X7_isAllSeenSo w_703 (by decide) (g_recv C0 hG (L0 hG) rfl) rfl hl.1 rfl (Nat.le_of_ble_eq_true rfl) dX7_can_114 ⟨Nat.zero_le _, Nat.zero_le _⟩) (fun H locs hG hk => ?_)
                refine lv_if_eq (tgt := 127) hx hb dX7_can_117 (by decide) (fun c14 => ?_) (fun c14 => ?_)
                · have hf := gif_t c14 hf
                  refine lv_iinc (v := x8_9 + (-1 : Int32)) (lv' := [(8, .int (x8_9 + (-1 : Int32))), (0, .ref (base + 0)), (1, .int p1), (2, .int p2), (3, .int p3), (4, .ref (base + 15)), (6, .int x6_9), (7, .int x7_9)]) hx hb dX7_can_127 hl (k := 7) rfl rfl (by decide) rfl (fun ls hl => ?_)
                  refine lv_goto (tgt := 100) hx hb dX7_can_130 (by decide) ?_
                  have hf := while_l hX9 hf
                  exact ih9 x6_9 x7_9 (x8_9 + (-1 : Int32)) u13 _ _ ls hG (lv_sub hl [1, 2, 3, 4, 5, 6, 7, 0] rfl) hf
                · have hf := gif_f c14 hf
                  refine lv_iinc (v := x6_9 + (1 : Int32)) (lv' := [(6, .int (x6_9 + (1 : Int32))), (0, .ref (base + 0)), (1, .int p1), (2, .int p2), (3, .int p3), (4, .ref (base + 15)), (7, .int x7_9), (8, .int x8_9)]) hx hb dX7_can_120 hl (k := 5) rfl rfl (by decide) rfl (fun ls hl => ?_)
                  refine lv_iload hx hb dX7_can_123 (lv_at hl 7 rfl) ?_
                  refine lv_istore (lv' := [(7, .int x8_9), (6, .int (x6_9 + (1 : Int32))), (0, .ref (base + 0)), (1, .int p1), (2, .int p2), (3, .int p3), (4, .ref (base + 15)), (8, .int x8_9)]) hx hb dX7_can_125 hl (by decide) rfl (fun ls hl => ?_)
                  refine lv_iinc (v := x8_9 + (-1 : Int32)) (lv' := [(8, .int (x8_9 + (-1 : Int32))), (7, .int x8_9), (6, .int (x6_9 + (1 : Int32))), (0, .ref (base + 0)), (1, .int p1), (2, .int p2), (3, .int p3), (4, .ref (base + 15))]) hx hb dX7_can_127 hl (k := 7) rfl rfl (by decide) rfl (fun ls hl => ?_)
                  refine lv_goto (tgt := 100) hx hb dX7_can_130 (by decide) ?_
                  have hf := while_l hX9 hf
                  exact ih9 (x6_9 + (1 : Int32)) x8_9 (x8_9 + (-1 : Int32)) u13 _ _ ls hG (lv_sub hl [3, 4, 5, 6, 7, 2, 1, 0] rfl) hf
          exact loop9 FUEL (0 : Int32) (-5 : Int32) (99 : Int32) u8 _ _ ls hG (lv_sub hl [5, 6, 7, 8, 4, 2, 1, 0] rfl) hf
        · have hf := gif_t c7 hf
          refine lv_iconst (v := (-1 : Int32)) hx hb dX7_can_40 (by decide) ?_
          obtain ⟨hr1, hu⟩ := gret_s hf
          subst hr1
          subst hu
          subst hQ
          exact g_iret C0 hG hr dX7_can_41
      · have hf := gif_t c5 hf
        refine lv_aload_n hx hb dX7_can_22 rfl (lv_at hl 0 rfl) ?_
        refine lv_iload_n hx hb dX7_can_23 rfl (lv_at hl 2 rfl) ?_
        obtain ⟨r15, hc15, hf⟩ := pb_s hf
        refine g_doI0 hG (g_runV C0 hG (k_X7_isPerson l D base Z u p2 r15 hc15) m_X7_isPerson v_X7_isPerson w_378 (by decide) (g_recv C0 hG (L0 hG) rfl) rfl hl.1 rfl (Nat.le_of_ble_eq_true rfl) dX7_can_24 ⟨Nat.zero_le _, Nat.zero_le _⟩) (fun H locs hG hk => ?_)
        refine lv_if_ne (tgt := 42) hx hb dX7_can_27 (by decide) (fun c16 => ?_) (fun c16 => ?_)
        · have hf := gif_f c16 hf
          refine lv_aload_n hx hb dX7_can_42 rfl (lv_at hl 0 rfl) ?_
          refine g_getSa (o := 13) (a := 13) C0 hG (L0 hG) rfl 1 (by decide) rfl rfl w_330 dX7_can_43 ?_
          refine lv_aload_n hx hb dX7_can_46 rfl (lv_at hl 0 rfl) ?_
          refine g_getSa (o := 1) (a := 1) C0 hG (L0 hG) rfl 0 (by decide) rfl rfl w_329 dX7_can_47 ?_
          obtain ⟨_, u17, hc17, hf⟩ := obind_s hf
          refine g_doV0 hG (g_runVN C0 hG (k_X6_becomeLike l D base Z u 13 1 u17 O13 O1 hc17) m_X6_becomeLike v_X6_becomeLike w_663 (by decide) (g_recv C0 hG (L13 hG) rfl) rfl hl.1 rfl (Nat.le_of_ble_eq_true rfl) dX7_can_50 ⟨Nat.zero_le _, Nat.zero_le _⟩) (fun H locs hG hk => ?_)
          refine lv_iload_n hx hb dX7_can_53 rfl (lv_at hl 1 rfl) ?_
          refine lv_if_ne (tgt := 67) hx hb dX7_can_54 (by decide) (fun c => absurd c5 c) (fun _ => ?_)
          refine lv_aload_n hx hb dX7_can_57 rfl (lv_at hl 0 rfl) ?_
          refine g_getSa (o := 13) (a := 13) C0 hG (L0 hG) rfl 1 (by decide) rfl rfl w_330 dX7_can_58 ?_
          refine g_getSaN (o := 4) (a := 17) C0 hG (L13 hG) rfl 3 (by decide) rfl rfl w_161 dX7_can_61 ?_
          refine lv_goto (tgt := 74) hx hb dX7_can_64 (by decide) ?_
          refine lv_astore (lv' := [(4, .ref (base + 17)), (0, .ref (base + 0)), (1, .int p1), (2, .int p2), (3, .int p3)]) hx hb dX7_can_74 hl (by decide) rfl (fun ls hl => ?_)
          refine lv_iload_n hx hb dX7_can_76 rfl (lv_at hl 2 rfl) ?_
          refine lv_if_ne (tgt := 85) hx hb dX7_can_77 (by decide) (fun c => absurd c5 c) (fun _ => ?_)
          refine lv_bipush (v := (9 : Int32)) hx hb dX7_can_80 (by decide) ?_
          refine lv_goto (tgt := 87) hx hb dX7_can_82 (by decide) ?_
          refine lv_istore (lv' := [(5, .int (9 : Int32)), (4, .ref (base + 17)), (0, .ref (base + 0)), (1, .int p1), (2, .int p2), (3, .int p3)]) hx hb dX7_can_87 hl (by decide) rfl (fun ls hl => ?_)
          refine lv_iconst (v := (0 : Int32)) hx hb dX7_can_89 (by decide) ?_
          refine lv_istore (lv' := [(6, .int (0 : Int32)), (5, .int (9 : Int32)), (4, .ref (base + 17)), (0, .ref (base + 0)), (1, .int p1), (2, .int p2), (3, .int p3)]) hx hb dX7_can_90 hl (by decide) rfl (fun ls hl => ?_)
          refine lv_bipush (v := (-5 : Int32)) hx hb dX7_can_92 (by decide) ?_
          refine lv_istore (lv' := [(7, .int (-5 : Int32)), (6, .int (0 : Int32)), (5, .int (9 : Int32)), (4, .ref (base + 17)), (0, .ref (base + 0)), (1, .int p1), (2, .int p2), (3, .int p3)]) hx hb dX7_can_94 hl (by decide) rfl (fun ls hl => ?_)
          refine lv_iload hx hb dX7_can_96 (lv_at hl 2 rfl) ?_
          refine lv_istore (lv' := [(8, .int (9 : Int32)), (7, .int (-5 : Int32)), (6, .int (0 : Int32)), (5, .int (9 : Int32)), (4, .ref (base + 17)), (0, .ref (base + 0)), (1, .int p1), (2, .int p2), (3, .int p3)]) hx hb dX7_can_98 hl (by decide) rfl (fun ls hl => ?_)
          have loop18 : ∀ (n18 : Nat) (x6_18 : Int32) (x7_18 : Int32) (x8_18 : Int32) (u18 : Mem) (H : Heap) (locs : List Loc) (ls : Array Slot), gH D base s u18 H locs → lv_has ls 9 [(0, .ref (base + 0)), (1, .int p1), (2, .int p2), (3, .int p3), (4, .ref (base + 17)), (6, .int x6_18), (7, .int x7_18), (8, .int x8_18)] → whileO (fun s => f_X7_can_L100b p3 p2 p1 s.1 s.2.1 s.2.2.1 s.2.2.2) n18 (x6_18, (x7_18, (x8_18, u18))) = some (r, u') → W p l e (gRm 6 0 0) s m ([.ref (base + 0), .int p1, .int p2, .int p3] : List Value).toArray below meth c H locs 0 0 Q (F0 m 100 ls []) := by
            intro n18
            induction n18 with
            | zero => intro x6_18 x7_18 x8_18 u18 H locs ls hG hl hf; cases hf
            | succ n18 ih18 =>
              intro x6_18 x7_18 x8_18 u18 H locs ls hG hl hf
              obtain ⟨X18, hf, hX18⟩ := while_s hf
              have hf : f_X7_can_L100b p3 p2 p1 x6_18 x7_18 x8_18 u18 = some X18 := hf
              unfold f_X7_can_L100b at hf
              refine lv_iload hx hb dX7_can_100 (lv_at hl 7 rfl) ?_
              refine lv_if_lt (tgt := 133) hx hb dX7_can_102 (by decide) (fun c19 => ?_) (fun c19 => ?_)
              · have hf := gif_t c19 hf
                refine lv_iload_n hx hb dX7_can_133 rfl (lv_at hl 3 rfl) ?_
                refine lv_if_ne (tgt := 142) hx hb dX7_can_134 (by decide) (fun c20 => ?_) (fun c20 => ?_)
                · have hf := gif_f c20 hf
                  refine lv_iload hx hb dX7_can_142 (lv_at hl 6 rfl) ?_
                  have hf := while_r hX18 hf
                  obtain ⟨hr1, hu⟩ := gret_s hf
                  subst hr1
                  subst hu
                  subst hQ
                  exact g_iret C0 hG hr dX7_can_144
                · have hf := gif_t c20 hf
                  refine lv_iload hx hb dX7_can_137 (lv_at hl 5 rfl) ?_
                  refine lv_goto (tgt := 144) hx hb dX7_can_139 (by decide) ?_
                  have hf := while_r hX18 hf
                  obtain ⟨hr1, hu⟩ := gret_s hf
                  subst hr1
                  subst hu
                  subst hQ
                  exact g_iret C0 hG hr dX7_can_144
              · have hf := gif_f c19 hf
                refine lv_aload hx hb dX7_can_105 (lv_at hl 4 rfl) ?_
                refine lv_iload_n hx hb dX7_can_107 rfl (lv_at hl 2 rfl) ?_
                refine lv_iload hx hb dX7_can_108 (lv_at hl 7 rfl) ?_
                obtain ⟨h21, hf⟩ := gin_s hf
                refine g_iast C0 hG (L17 hG) h21 dX7_can_110 (fun H locs hG => ?_)
                refine lv_aload_n hx hb dX7_can_111 rfl (lv_at hl 0 rfl) ?_
                refine lv_iload_n hx hb dX7_can_112 rfl (lv_at hl 1 rfl) ?_
                refine lv_iload_n hx hb dX7_can_113 rfl (lv_at hl 2 rfl) ?_
                obtain ⟨r22, u22, hc22, hf⟩ := obind_s hf
                refine g_doI0 hG (g_runV C0 hG (k_X7_isAllSeenSo l D base Z (sA u18 17 p2.toNatClampNeg x8_18) p1 p2 r22 u22 hc22) m_X7_isAllSeenSo v_X7_isAllSeenSo w_703 (by decide) (g_recv C0 hG (L0 hG) rfl) rfl hl.1 rfl (Nat.le_of_ble_eq_true rfl) dX7_can_114 ⟨Nat.zero_le _, Nat.zero_le _⟩) (fun H locs hG hk => ?_)
                refine lv_if_eq (tgt := 127) hx hb dX7_can_117 (by decide) (fun c23 => ?_) (fun c23 => ?_)
                · have hf := gif_t c23 hf
                  refine lv_iinc (v := x8_18 + (-1 : Int32)) (lv' := [(8, .int (x8_18 + (-1 : Int32))), (0, .ref (base + 0)), (1, .int p1), (2, .int p2), (3, .int p3), (4, .ref (base + 17)), (6, .int x6_18), (7, .int x7_18)]) hx hb dX7_can_127 hl (k := 7) rfl rfl (by decide) rfl (fun ls hl => ?_)
                  refine lv_goto (tgt := 100) hx hb dX7_can_130 (by decide) ?_
                  have hf := while_l hX18 hf
                  exact ih18 x6_18 x7_18 (x8_18 + (-1 : Int32)) u22 _ _ ls hG (lv_sub hl [1, 2, 3, 4, 5, 6, 7, 0] rfl) hf
                · have hf := gif_f c23 hf
                  refine lv_iinc (v := x6_18 + (1 : Int32)) (lv' := [(6, .int (x6_18 + (1 : Int32))), (0, .ref (base + 0)), (1, .int p1), (2, .int p2), (3, .int p3), (4, .ref (base + 17)), (7, .int x7_18), (8, .int x8_18)]) hx hb dX7_can_120 hl (k := 5) rfl rfl (by decide) rfl (fun ls hl => ?_)
                  refine lv_iload hx hb dX7_can_123 (lv_at hl 7 rfl) ?_
                  refine lv_istore (lv' := [(7, .int x8_18), (6, .int (x6_18 + (1 : Int32))), (0, .ref (base + 0)), (1, .int p1), (2, .int p2), (3, .int p3), (4, .ref (base + 17)), (8, .int x8_18)]) hx hb dX7_can_125 hl (by decide) rfl (fun ls hl => ?_)
                  refine lv_iinc (v := x8_18 + (-1 : Int32)) (lv' := [(8, .int (x8_18 + (-1 : Int32))), (7, .int x8_18), (6, .int (x6_18 + (1 : Int32))), (0, .ref (base + 0)), (1, .int p1), (2, .int p2), (3, .int p3), (4, .ref (base + 17))]) hx hb dX7_can_127 hl (k := 7) rfl rfl (by decide) rfl (fun ls hl => ?_)
                  refine lv_goto (tgt := 100) hx hb dX7_can_130 (by decide) ?_
                  have hf := while_l hX18 hf
                  exact ih18 (x6_18 + (1 : Int32)) x8_18 (x8_18 + (-1 : Int32)) u22 _ _ ls hG (lv_sub hl [3, 4, 5, 6, 7, 2, 1, 0] rfl) hf
          exact loop18 FUEL (0 : Int32) (-5 : Int32) (9 : Int32) u17 _ _ ls hG (lv_sub hl [5, 6, 7, 8, 4, 2, 1, 0] rfl) hf
        · have hf := gif_t c16 hf
          refine lv_goto (tgt := 40) hx hb dX7_can_30 (by decide) ?_
          refine lv_iconst (v := (-1 : Int32)) hx hb dX7_can_40 (by decide) ?_
          obtain ⟨hr1, hu⟩ := gret_s hf
          subst hr1
          subst hu
          subst hQ
          exact g_iret C0 hG hr dX7_can_41
    · have hf := gif_t c4 hf
      refine lv_iconst (v := (-1 : Int32)) hx hb dX7_can_16 (by decide) ?_
      obtain ⟨hr1, hu⟩ := gret_s hf
      subst hr1
      subst hu
      subst hQ
      exact g_iret C0 hG hr dX7_can_17
theorem dX7_ofFraction_0 : decode cX7_ofFraction 0 = .ok (.iload_n 2, 1) := by decide +kernel
theorem dX7_ofFraction_1 : decode cX7_ofFraction 1 = .ok (.ifCond .ne 7, 3) := by decide +kernel
theorem dX7_ofFraction_4 : decode cX7_ofFraction 4 = .ok (.iload_n 0, 1) := by decide +kernel
theorem dX7_ofFraction_5 : decode cX7_ofFraction 5 = .ok (.goto 4, 3) := by decide +kernel
theorem dX7_ofFraction_8 : decode cX7_ofFraction 8 = .ok (.iload_n 1, 1) := by decide +kernel
theorem dX7_ofFraction_9 : decode cX7_ofFraction 9 = .ok (.istore_n 3, 1) := by decide +kernel
theorem dX7_ofFraction_10 : decode cX7_ofFraction 10 = .ok (.iload_n 1, 1) := by decide +kernel
theorem dX7_ofFraction_11 : decode cX7_ofFraction 11 = .ok (.istore 4, 2) := by decide +kernel
theorem dX7_ofFraction_13 : decode cX7_ofFraction 13 = .ok (.iload 4, 2) := by decide +kernel
theorem dX7_ofFraction_15 : decode cX7_ofFraction 15 = .ok (.iconst 1, 1) := by decide +kernel
theorem dX7_ofFraction_16 : decode cX7_ofFraction 16 = .ok (.if_icmp .le 29, 3) := by decide +kernel
theorem dX7_ofFraction_19 : decode cX7_ofFraction 19 = .ok (.iload_n 0, 1) := by decide +kernel
theorem dX7_ofFraction_20 : decode cX7_ofFraction 20 = .ok (.iload 4, 2) := by decide +kernel
theorem dX7_ofFraction_22 : decode cX7_ofFraction 22 = .ok (.irem, 1) := by decide +kernel
theorem dX7_ofFraction_23 : decode cX7_ofFraction 23 = .ok (.ifCond .ne 16, 3) := by decide +kernel
theorem dX7_ofFraction_26 : decode cX7_ofFraction 26 = .ok (.iload_n 1, 1) := by decide +kernel
theorem dX7_ofFraction_27 : decode cX7_ofFraction 27 = .ok (.iload 4, 2) := by decide +kernel
theorem dX7_ofFraction_29 : decode cX7_ofFraction 29 = .ok (.irem, 1) := by decide +kernel
theorem dX7_ofFraction_30 : decode cX7_ofFraction 30 = .ok (.ifCond .ne 9, 3) := by decide +kernel
theorem dX7_ofFraction_33 : decode cX7_ofFraction 33 = .ok (.iload_n 3, 1) := by decide +kernel
theorem dX7_ofFraction_34 : decode cX7_ofFraction 34 = .ok (.iload 4, 2) := by decide +kernel
theorem dX7_ofFraction_36 : decode cX7_ofFraction 36 = .ok (.idiv, 1) := by decide +kernel
theorem dX7_ofFraction_37 : decode cX7_ofFraction 37 = .ok (.i2l, 1) := by decide +kernel
theorem dX7_ofFraction_38 : decode cX7_ofFraction 38 = .ok (.lreturn, 1) := by decide +kernel
theorem dX7_ofFraction_39 : decode cX7_ofFraction 39 = .ok (.iinc 4 (-1), 3) := by decide +kernel
theorem dX7_ofFraction_42 : decode cX7_ofFraction 42 = .ok (.goto (-29), 3) := by decide +kernel
theorem dX7_ofFraction_45 : decode cX7_ofFraction 45 = .ok (.iload_n 3, 1) := by decide +kernel
theorem dX7_ofFraction_46 : decode cX7_ofFraction 46 = .ok (.i2l, 1) := by decide +kernel
theorem dX7_ofFraction_47 : decode cX7_ofFraction 47 = .ok (.lreturn, 1) := by decide +kernel
def f_X7_ofFraction_L13 (p1 : Int32) (p0 : Int32) (x4_2 : Int32) : Option (Int32 ⊕ Int64) := (if x4_2 ≤ (1 : Int32) then some (Sum.inr (p1.toInt64)) else gne x4_2 ((if (p0 - p0 / x4_2 * x4_2) = 0 then gne x4_2 ((if (p1 - p1 / x4_2 * x4_2) = 0 then gne x4_2 (some (Sum.inr ((p1 / x4_2).toInt64))) else some (Sum.inl (x4_2 + (-1 : Int32))))) else some (Sum.inl (x4_2 + (-1 : Int32))))))
def f_X7_ofFraction_L13b (p0 : Int32) (p1 : Int32) (x4_9 : Int32) : Option (Int32 ⊕ Int64) := (if x4_9 ≤ (1 : Int32) then some (Sum.inr (p0.toInt64)) else gne x4_9 ((if (p0 - p0 / x4_9 * x4_9) = 0 then gne x4_9 ((if (p1 - p1 / x4_9 * x4_9) = 0 then gne x4_9 (some (Sum.inr ((p0 / x4_9).toInt64))) else some (Sum.inl (x4_9 + (-1 : Int32))))) else some (Sum.inl (x4_9 + (-1 : Int32))))))
def f_X7_ofFraction (p0 : Int32) (p1 : Int32) (p2 : Int32) : Option (Int64) := (if p2 = 0 then whileO (fun s => f_X7_ofFraction_L13b p0 p1 s) FUEL p1 else whileO (fun s => f_X7_ofFraction_L13 p1 p0 s) FUEL p1)
set_option maxHeartbeats 4000000 in
set_option maxRecDepth 100000 in
theorem k_X7_ofFraction (l : Launch) (D : gDt) (base : Nat) (Z : gZt) (u : Mem) (p0 : Int32) (p1 : Int32) (p2 : Int32) (r : Int64) (hf : f_X7_ofFraction p0 p1 p2 = some r) : Met l yX7_ofFraction (gws yX7_ofFraction cX7_ofFraction 5 (some .long)) (gRm 1 0 0) (gPc D base Z u [.int p0, .int p1, .int p2]) (gQl D base r u) 0 0 (gF base) := by
  refine Met.ofW (cc := cX7_ofFraction) (maxL := 5) (ret := some .long) (by decide) rfl ?_
  intro p e s m args below meth c s₁ B hml hv
  obtain ⟨rfl, C0, hG⟩ := g_enter B hml hv
  have hr := B.returns
  have C0 : gC p s m meth c _ cX7_ofFraction 5 RX7 D base Z := C0
  have hx := C0.1
  have hb := C0.2.1
  have hl := lv_entry ([.int p0, .int p1, .int p2]) (n := 5) (Nat.le_of_ble_eq_true rfl)
  rw [lg_entry_eq]
  generalize (lg_sl ([.int p0, .int p1, .int p2]) ++ List.replicate (5 - (lg_sl ([.int p0, .int p1, .int p2])).length) Slot.unset).toArray = ls at hl ⊢
  have hl : lv_has ls 5 [(0, .int p0), (1, .int p1), (2, .int p2)] := hl
  obtain ⟨Q, hQ⟩ : ∃ Q, Q = MQ below (gQl D base r u) ([.int p0, .int p1, .int p2] : List Value).toArray s 0 0 (gF base) := ⟨_, rfl⟩
  rw [← hQ]
  change W p l e (gRm 1 0 0) s m _ below meth c _ _ _ _ _ _
  unfold f_X7_ofFraction at hf
  refine lv_iload_n hx hb dX7_ofFraction_0 rfl (lv_at hl 2 rfl) ?_
  refine lv_if_ne (tgt := 8) hx hb dX7_ofFraction_1 (by decide) (fun c1 => ?_) (fun c1 => ?_)
  · have hf := gif_f c1 hf
    refine lv_iload_n hx hb dX7_ofFraction_8 rfl (lv_at hl 1 rfl) ?_
    refine lv_istore_n (lv' := [(3, .int p1), (0, .int p0), (1, .int p1), (2, .int p2)]) hx hb dX7_ofFraction_9 rfl hl (by decide) rfl (fun ls hl => ?_)
    refine lv_iload_n hx hb dX7_ofFraction_10 rfl (lv_at hl 2 rfl) ?_
    refine lv_istore (lv' := [(4, .int p1), (3, .int p1), (0, .int p0), (1, .int p1), (2, .int p2)]) hx hb dX7_ofFraction_11 hl (by decide) rfl (fun ls hl => ?_)
    have loop2 : ∀ (n2 : Nat) (x4_2 : Int32) (H : Heap) (locs : List Loc) (ls : Array Slot), gH D base s u H locs → lv_has ls 5 [(0, .int p0), (1, .int p1), (3, .int p1), (4, .int x4_2)] → whileO (fun s => f_X7_ofFraction_L13 p1 p0 s) n2 x4_2 = some r → W p l e (gRm 1 0 0) s m ([.int p0, .int p1, .int p2] : List Value).toArray below meth c H locs 0 0 Q (F0 m 13 ls []) := by
      intro n2
      induction n2 with
      | zero => intro x4_2 H locs ls hG hl hf; cases hf
      | succ n2 ih2 =>
        intro x4_2 H locs ls hG hl hf
        obtain ⟨X2, hf, hX2⟩ := while_s hf
        have hf : f_X7_ofFraction_L13 p1 p0 x4_2 = some X2 := hf
        unfold f_X7_ofFraction_L13 at hf
        refine lv_iload hx hb dX7_ofFraction_13 (lv_at hl 3 rfl) ?_
        refine lv_iconst (v := (1 : Int32)) hx hb dX7_ofFraction_15 (by decide) ?_
        refine lv_icmp_le (tgt := 45) hx hb dX7_ofFraction_16 (by decide) (fun c3 => ?_) (fun c3 => ?_)
        · have hf := gif_t c3 hf
          refine lv_iload_n hx hb dX7_ofFraction_45 rfl (lv_at hl 2 rfl) ?_
          refine lv_i2l (v := p1.toInt64) hx hb dX7_ofFraction_46 rfl ?_
          have hf := while_r hX2 hf
          have hf := Option.some.inj hf
          subst hf
          subst hQ
          exact g_lret C0 hG hr dX7_ofFraction_47
        · have hf := gif_f c3 hf
          refine lv_iload_n hx hb dX7_ofFraction_19 rfl (lv_at hl 0 rfl) ?_
          refine lv_iload hx hb dX7_ofFraction_20 (lv_at hl 3 rfl) ?_
          obtain ⟨h4, hf⟩ := gne_s hf
          refine lv_irem hx hb dX7_ofFraction_22 h4 ?_
          refine lv_if_ne (tgt := 39) hx hb dX7_ofFraction_23 (by decide) (fun c5 => ?_) (fun c5 => ?_)
          · have hf := gif_f c5 hf
            refine lv_iinc (v := x4_2 + (-1 : Int32)) (lv' := [(4, .int (x4_2 + (-1 : Int32))), (0, .int p0), (1, .int p1), (3, .int p1)]) hx hb dX7_ofFraction_39 hl (k := 3) rfl rfl (by decide) rfl (fun ls hl => ?_)
            refine lv_goto (tgt := 13) hx hb dX7_ofFraction_42 (by decide) ?_
            have hf := while_l hX2 hf
            exact ih2 (x4_2 + (-1 : Int32)) _ _ ls hG (lv_sub hl [1, 2, 3, 0] rfl) hf
          · have hf := gif_t c5 hf
            refine lv_iload_n hx hb dX7_ofFraction_26 rfl (lv_at hl 1 rfl) ?_
            refine lv_iload hx hb dX7_ofFraction_27 (lv_at hl 3 rfl) ?_
            obtain ⟨h6, hf⟩ := gne_s hf
            refine lv_irem hx hb dX7_ofFraction_29 h6 ?_
            refine lv_if_ne (tgt := 39) hx hb dX7_ofFraction_30 (by decide) (fun c7 => ?_) (fun c7 => ?_)
            · have hf := gif_f c7 hf
              refine lv_iinc (v := x4_2 + (-1 : Int32)) (lv' := [(4, .int (x4_2 + (-1 : Int32))), (0, .int p0), (1, .int p1), (3, .int p1)]) hx hb dX7_ofFraction_39 hl (k := 3) rfl rfl (by decide) rfl (fun ls hl => ?_)
              refine lv_goto (tgt := 13) hx hb dX7_ofFraction_42 (by decide) ?_
              have hf := while_l hX2 hf
              exact ih2 (x4_2 + (-1 : Int32)) _ _ ls hG (lv_sub hl [1, 2, 3, 0] rfl) hf
            · have hf := gif_t c7 hf
              refine lv_iload_n hx hb dX7_ofFraction_33 rfl (lv_at hl 2 rfl) ?_
              refine lv_iload hx hb dX7_ofFraction_34 (lv_at hl 3 rfl) ?_
              obtain ⟨h8, hf⟩ := gne_s hf
              refine lv_idiv hx hb dX7_ofFraction_36 h8 ?_
              refine lv_i2l (v := (p1 / x4_2).toInt64) hx hb dX7_ofFraction_37 rfl ?_
              have hf := while_r hX2 hf
              have hf := Option.some.inj hf
              subst hf
              subst hQ
              exact g_lret C0 hG hr dX7_ofFraction_38
    exact loop2 FUEL p1 _ _ ls hG (lv_sub hl [2, 3, 1, 0] rfl) hf
  · have hf := gif_t c1 hf
    refine lv_iload_n hx hb dX7_ofFraction_4 rfl (lv_at hl 0 rfl) ?_
    refine lv_goto (tgt := 9) hx hb dX7_ofFraction_5 (by decide) ?_
    refine lv_istore_n (lv' := [(3, .int p0), (0, .int p0), (1, .int p1), (2, .int p2)]) hx hb dX7_ofFraction_9 rfl hl (by decide) rfl (fun ls hl => ?_)
    refine lv_iload_n hx hb dX7_ofFraction_10 rfl (lv_at hl 2 rfl) ?_
    refine lv_istore (lv' := [(4, .int p1), (3, .int p0), (0, .int p0), (1, .int p1), (2, .int p2)]) hx hb dX7_ofFraction_11 hl (by decide) rfl (fun ls hl => ?_)
    have loop9 : ∀ (n9 : Nat) (x4_9 : Int32) (H : Heap) (locs : List Loc) (ls : Array Slot), gH D base s u H locs → lv_has ls 5 [(0, .int p0), (1, .int p1), (3, .int p0), (4, .int x4_9)] → whileO (fun s => f_X7_ofFraction_L13b p0 p1 s) n9 x4_9 = some r → W p l e (gRm 1 0 0) s m ([.int p0, .int p1, .int p2] : List Value).toArray below meth c H locs 0 0 Q (F0 m 13 ls []) := by
      intro n9
      induction n9 with
      | zero => intro x4_9 H locs ls hG hl hf; cases hf
      | succ n9 ih9 =>
        intro x4_9 H locs ls hG hl hf
        obtain ⟨X9, hf, hX9⟩ := while_s hf
        have hf : f_X7_ofFraction_L13b p0 p1 x4_9 = some X9 := hf
        unfold f_X7_ofFraction_L13b at hf
        refine lv_iload hx hb dX7_ofFraction_13 (lv_at hl 3 rfl) ?_
        refine lv_iconst (v := (1 : Int32)) hx hb dX7_ofFraction_15 (by decide) ?_
        refine lv_icmp_le (tgt := 45) hx hb dX7_ofFraction_16 (by decide) (fun c10 => ?_) (fun c10 => ?_)
        · have hf := gif_t c10 hf
          refine lv_iload_n hx hb dX7_ofFraction_45 rfl (lv_at hl 2 rfl) ?_
          refine lv_i2l (v := p0.toInt64) hx hb dX7_ofFraction_46 rfl ?_
          have hf := while_r hX9 hf
          have hf := Option.some.inj hf
          subst hf
          subst hQ
          exact g_lret C0 hG hr dX7_ofFraction_47
        · have hf := gif_f c10 hf
          refine lv_iload_n hx hb dX7_ofFraction_19 rfl (lv_at hl 0 rfl) ?_
          refine lv_iload hx hb dX7_ofFraction_20 (lv_at hl 3 rfl) ?_
          obtain ⟨h11, hf⟩ := gne_s hf
          refine lv_irem hx hb dX7_ofFraction_22 h11 ?_
          refine lv_if_ne (tgt := 39) hx hb dX7_ofFraction_23 (by decide) (fun c12 => ?_) (fun c12 => ?_)
          · have hf := gif_f c12 hf
            refine lv_iinc (v := x4_9 + (-1 : Int32)) (lv' := [(4, .int (x4_9 + (-1 : Int32))), (0, .int p0), (1, .int p1), (3, .int p0)]) hx hb dX7_ofFraction_39 hl (k := 3) rfl rfl (by decide) rfl (fun ls hl => ?_)
            refine lv_goto (tgt := 13) hx hb dX7_ofFraction_42 (by decide) ?_
            have hf := while_l hX9 hf
            exact ih9 (x4_9 + (-1 : Int32)) _ _ ls hG (lv_sub hl [1, 2, 3, 0] rfl) hf
          · have hf := gif_t c12 hf
            refine lv_iload_n hx hb dX7_ofFraction_26 rfl (lv_at hl 1 rfl) ?_
            refine lv_iload hx hb dX7_ofFraction_27 (lv_at hl 3 rfl) ?_
            obtain ⟨h13, hf⟩ := gne_s hf
            refine lv_irem hx hb dX7_ofFraction_29 h13 ?_
            refine lv_if_ne (tgt := 39) hx hb dX7_ofFraction_30 (by decide) (fun c14 => ?_) (fun c14 => ?_)
            · have hf := gif_f c14 hf
              refine lv_iinc (v := x4_9 + (-1 : Int32)) (lv' := [(4, .int (x4_9 + (-1 : Int32))), (0, .int p0), (1, .int p1), (3, .int p0)]) hx hb dX7_ofFraction_39 hl (k := 3) rfl rfl (by decide) rfl (fun ls hl => ?_)
              refine lv_goto (tgt := 13) hx hb dX7_ofFraction_42 (by decide) ?_
              have hf := while_l hX9 hf
              exact ih9 (x4_9 + (-1 : Int32)) _ _ ls hG (lv_sub hl [1, 2, 3, 0] rfl) hf
            · have hf := gif_t c14 hf
              refine lv_iload_n hx hb dX7_ofFraction_33 rfl (lv_at hl 2 rfl) ?_
              refine lv_iload hx hb dX7_ofFraction_34 (lv_at hl 3 rfl) ?_
              obtain ⟨h15, hf⟩ := gne_s hf
              refine lv_idiv hx hb dX7_ofFraction_36 h15 ?_
              refine lv_i2l (v := (p0 / x4_9).toInt64) hx hb dX7_ofFraction_37 rfl ?_
              have hf := while_r hX9 hf
              have hf := Option.some.inj hf
              subst hf
              subst hQ
              exact g_lret C0 hG hr dX7_ofFraction_38
    exact loop9 FUEL p1 _ _ ls hG (lv_sub hl [2, 3, 1, 0] rfl) hf
theorem dX7_odds_0 : decode cX7_odds 0 = .ok (.aload_n 0, 1) := by decide +kernel
theorem dX7_odds_1 : decode cX7_odds 1 = .ok (.iload_n 1, 1) := by decide +kernel
theorem dX7_odds_2 : decode cX7_odds 2 = .ok (.invokevirtual 74, 3) := by decide +kernel
theorem dX7_odds_5 : decode cX7_odds 5 = .ok (.ifCond .eq 20, 3) := by decide +kernel
theorem dX7_odds_8 : decode cX7_odds 8 = .ok (.iload_n 2, 1) := by decide +kernel
theorem dX7_odds_9 : decode cX7_odds 9 = .ok (.bipush 10, 2) := by decide +kernel
theorem dX7_odds_11 : decode cX7_odds 11 = .ok (.invokestatic 67, 3) := by decide +kernel
theorem dX7_odds_14 : decode cX7_odds 14 = .ok (.ifCond .eq 11, 3) := by decide +kernel
theorem dX7_odds_17 : decode cX7_odds 17 = .ok (.iload_n 3, 1) := by decide +kernel
theorem dX7_odds_18 : decode cX7_odds 18 = .ok (.iconst 2, 1) := by decide +kernel
theorem dX7_odds_19 : decode cX7_odds 19 = .ok (.invokestatic 63, 3) := by decide +kernel
theorem dX7_odds_22 : decode cX7_odds 22 = .ok (.ifCond .ne 7, 3) := by decide +kernel
theorem dX7_odds_25 : decode cX7_odds 25 = .ok (.ldc2_w 194, 3) := by decide +kernel
theorem dX7_odds_28 : decode cX7_odds 28 = .ok (.lreturn, 1) := by decide +kernel
theorem dX7_odds_29 : decode cX7_odds 29 = .ok (.aload_n 0, 1) := by decide +kernel
theorem dX7_odds_30 : decode cX7_odds 30 = .ok (.getfield 18, 3) := by decide +kernel
theorem dX7_odds_33 : decode cX7_odds 33 = .ok (.aload_n 0, 1) := by decide +kernel
theorem dX7_odds_34 : decode cX7_odds 34 = .ok (.getfield 12, 3) := by decide +kernel
theorem dX7_odds_37 : decode cX7_odds 37 = .ok (.invokevirtual 168, 3) := by decide +kernel
theorem dX7_odds_40 : decode cX7_odds 40 = .ok (.aload_n 0, 1) := by decide +kernel
theorem dX7_odds_41 : decode cX7_odds 41 = .ok (.getfield 18, 3) := by decide +kernel
theorem dX7_odds_44 : decode cX7_odds 44 = .ok (.iload_n 2, 1) := by decide +kernel
theorem dX7_odds_45 : decode cX7_odds 45 = .ok (.invokevirtual 164, 3) := by decide +kernel
theorem dX7_odds_48 : decode cX7_odds 48 = .ok (.aload_n 0, 1) := by decide +kernel
theorem dX7_odds_49 : decode cX7_odds 49 = .ok (.getfield 18, 3) := by decide +kernel
theorem dX7_odds_52 : decode cX7_odds 52 = .ok (.getfield 154, 3) := by decide +kernel
theorem dX7_odds_55 : decode cX7_odds 55 = .ok (.istore 4, 2) := by decide +kernel
theorem dX7_odds_57 : decode cX7_odds 57 = .ok (.iconst 0, 1) := by decide +kernel
theorem dX7_odds_58 : decode cX7_odds 58 = .ok (.istore 5, 2) := by decide +kernel
theorem dX7_odds_60 : decode cX7_odds 60 = .ok (.iconst 0, 1) := by decide +kernel
theorem dX7_odds_61 : decode cX7_odds 61 = .ok (.istore 6, 2) := by decide +kernel
theorem dX7_odds_63 : decode cX7_odds 63 = .ok (.iload 6, 2) := by decide +kernel
theorem dX7_odds_65 : decode cX7_odds 65 = .ok (.bipush 8, 2) := by decide +kernel
theorem dX7_odds_67 : decode cX7_odds 67 = .ok (.if_icmp .ge 59, 3) := by decide +kernel
theorem dX7_odds_70 : decode cX7_odds 70 = .ok (.aload_n 0, 1) := by decide +kernel
theorem dX7_odds_71 : decode cX7_odds 71 = .ok (.getfield 18, 3) := by decide +kernel
theorem dX7_odds_74 : decode cX7_odds 74 = .ok (.aload_n 0, 1) := by decide +kernel
theorem dX7_odds_75 : decode cX7_odds 75 = .ok (.getfield 12, 3) := by decide +kernel
theorem dX7_odds_78 : decode cX7_odds 78 = .ok (.invokevirtual 168, 3) := by decide +kernel
theorem dX7_odds_81 : decode cX7_odds 81 = .ok (.aload_n 0, 1) := by decide +kernel
theorem dX7_odds_82 : decode cX7_odds 82 = .ok (.getfield 18, 3) := by decide +kernel
theorem dX7_odds_85 : decode cX7_odds 85 = .ok (.getfield 88, 3) := by decide +kernel
theorem dX7_odds_88 : decode cX7_odds 88 = .ok (.iload_n 1, 1) := by decide +kernel
theorem dX7_odds_89 : decode cX7_odds 89 = .ok (.dup2, 1) := by decide +kernel
theorem dX7_odds_90 : decode cX7_odds 90 = .ok (.iaload, 1) := by decide +kernel
theorem dX7_odds_91 : decode cX7_odds 91 = .ok (.iconst 1, 1) := by decide +kernel
theorem dX7_odds_92 : decode cX7_odds 92 = .ok (.iload 6, 2) := by decide +kernel
theorem dX7_odds_94 : decode cX7_odds 94 = .ok (.ishl, 1) := by decide +kernel
theorem dX7_odds_95 : decode cX7_odds 95 = .ok (.ior, 1) := by decide +kernel
theorem dX7_odds_96 : decode cX7_odds 96 = .ok (.iastore, 1) := by decide +kernel
theorem dX7_odds_97 : decode cX7_odds 97 = .ok (.aload_n 0, 1) := by decide +kernel
theorem dX7_odds_98 : decode cX7_odds 98 = .ok (.getfield 18, 3) := by decide +kernel
theorem dX7_odds_101 : decode cX7_odds 101 = .ok (.iload_n 2, 1) := by decide +kernel
theorem dX7_odds_102 : decode cX7_odds 102 = .ok (.invokevirtual 164, 3) := by decide +kernel
theorem dX7_odds_105 : decode cX7_odds 105 = .ok (.aload_n 0, 1) := by decide +kernel
theorem dX7_odds_106 : decode cX7_odds 106 = .ok (.getfield 18, 3) := by decide +kernel
theorem dX7_odds_109 : decode cX7_odds 109 = .ok (.getfield 154, 3) := by decide +kernel
theorem dX7_odds_112 : decode cX7_odds 112 = .ok (.iload 4, 2) := by decide +kernel
theorem dX7_odds_114 : decode cX7_odds 114 = .ok (.if_icmp .le 6, 3) := by decide +kernel
theorem dX7_odds_117 : decode cX7_odds 117 = .ok (.iinc 5 1, 3) := by decide +kernel
theorem dX7_odds_120 : decode cX7_odds 120 = .ok (.iinc 6 1, 3) := by decide +kernel
theorem dX7_odds_123 : decode cX7_odds 123 = .ok (.goto (-60), 3) := by decide +kernel
theorem dX7_odds_126 : decode cX7_odds 126 = .ok (.iload 5, 2) := by decide +kernel
theorem dX7_odds_128 : decode cX7_odds 128 = .ok (.bipush 8, 2) := by decide +kernel
theorem dX7_odds_130 : decode cX7_odds 130 = .ok (.iload_n 3, 1) := by decide +kernel
theorem dX7_odds_131 : decode cX7_odds 131 = .ok (.invokestatic 196, 3) := by decide +kernel
theorem dX7_odds_134 : decode cX7_odds 134 = .ok (.lreturn, 1) := by decide +kernel
def f_X7_odds_L63 (p3 : Int32) (p1 : Int32) (p2 : Int32) (u8 : Mem) (x5_9 : Int32) (x6_9 : Int32) (u9 : Mem) : Option ((Int32 × Int32 × Mem) ⊕ (Int64 × Mem)) := (if (8 : Int32) ≤ x6_9 then Option.bind (f_X7_ofFraction x5_9 (8 : Int32) p3) (fun r11 => some (Sum.inr (r11, u9))) else obind (f_X6_becomeLike 13 1 u9) (fun _ u12 => gin p1 6 (gin p1 6 (obind (f_X6_ride 13 p2 (sA u12 19 p1.toNatClampNeg ((gA u12 19 p1.toNatClampNeg) ||| ((1 : Int32) <<< (x6_9 &&& 31))))) (fun _ u15 => (if (gI u15 13 11) ≤ (gI u8 13 11) then some (Sum.inl (x5_9, (x6_9 + (1 : Int32), u15))) else some (Sum.inl (x5_9 + (1 : Int32), (x6_9 + (1 : Int32), u15)))))))))
def f_X7_odds (p1 : Int32) (p2 : Int32) (p3 : Int32) (u : Mem) : Option (Int64 × Mem) := Option.bind (f_X7_isPerson p1 u) (fun r1 => (if r1 = 0 then some ((-9223372036854775808 : Int64), u) else Option.bind (f_X7_isUpTo p2 (10 : Int32)) (fun r3 => (if r3 = 0 then some ((-9223372036854775808 : Int64), u) else Option.bind (f_X7_isWithin p3 (2 : Int32)) (fun r5 => (if r5 = 0 then some ((-9223372036854775808 : Int64), u) else obind (f_X6_becomeLike 13 1 u) (fun _ u7 => obind (f_X6_ride 13 p2 u7) (fun _ u8 => whileO (fun s => f_X7_odds_L63 p3 p1 p2 u8 s.1 s.2.1 s.2.2) FUEL ((0 : Int32), ((0 : Int32), u8))))))))))
set_option maxHeartbeats 4000000 in
set_option maxRecDepth 100000 in
theorem k_X7_odds (l : Launch) (D : gDt) (base : Nat) (Z : gZt) (u : Mem) (p1 : Int32) (p2 : Int32) (p3 : Int32) (r : Int64) (u' : Mem) (hf : f_X7_odds p1 p2 p3 u = some (r, u')) : Met l yX7_odds (gws yX7_odds cX7_odds 7 (some .long)) (gRm 7 0 0) (gPc D base Z u [.ref (base + 0), .int p1, .int p2, .int p3]) (gQl D base r u') 0 0 (gF base) := by
  refine Met.ofW (cc := cX7_odds) (maxL := 7) (ret := some .long) (by decide) rfl ?_
  intro p e s m args below meth c s₁ B hml hv
  obtain ⟨rfl, C0, hG⟩ := g_enter B hml hv
  have hr := B.returns
  have C0 : gC p s m meth c _ cX7_odds 7 RX7 D base Z := C0
  have hx := C0.1
  have hb := C0.2.1
  have hl := lv_entry ([.ref (base + 0), .int p1, .int p2, .int p3]) (n := 7) (Nat.le_of_ble_eq_true rfl)
  rw [lg_entry_eq]
  generalize (lg_sl ([.ref (base + 0), .int p1, .int p2, .int p3]) ++ List.replicate (7 - (lg_sl ([.ref (base + 0), .int p1, .int p2, .int p3])).length) Slot.unset).toArray = ls at hl ⊢
  have hl : lv_has ls 7 [(0, .ref (base + 0)), (1, .int p1), (2, .int p2), (3, .int p3)] := hl
  obtain ⟨Q, hQ⟩ : ∃ Q, Q = MQ below (gQl D base r u') ([.ref (base + 0), .int p1, .int p2, .int p3] : List Value).toArray s 0 0 (gF base) := ⟨_, rfl⟩
  rw [← hQ]
  change W p l e (gRm 7 0 0) s m _ below meth c _ _ _ _ _ _
  unfold f_X7_odds at hf
  refine lv_aload_n hx hb dX7_odds_0 rfl (lv_at hl 0 rfl) ?_
  refine lv_iload_n hx hb dX7_odds_1 rfl (lv_at hl 1 rfl) ?_
  obtain ⟨r1, hc1, hf⟩ := pb_s hf
  refine g_doI0 hG (g_runV C0 hG (k_X7_isPerson l D base Z u p1 r1 hc1) m_X7_isPerson v_X7_isPerson w_378 (by decide) (g_recv C0 hG (L0 hG) rfl) rfl hl.1 rfl (Nat.le_of_ble_eq_true rfl) dX7_odds_2 ⟨Nat.zero_le _, Nat.zero_le _⟩) (fun H locs hG hk => ?_)
  refine lv_if_eq (tgt := 25) hx hb dX7_odds_5 (by decide) (fun c2 => ?_) (fun c2 => ?_)
  · have hf := gif_t c2 hf
    refine lv_ldc2 (v := (-9223372036854775808 : Int64)) hx hb C0.2.2.2.1 (C0.2.2.2.2.1 _ w_712) dX7_odds_25 ?_
    obtain ⟨hr1, hu⟩ := gret_s hf
    subst hr1
    subst hu
    subst hQ
    exact g_lret C0 hG hr dX7_odds_28
  · have hf := gif_f c2 hf
    refine lv_iload_n hx hb dX7_odds_8 rfl (lv_at hl 2 rfl) ?_
    refine lv_bipush (v := (10 : Int32)) hx hb dX7_odds_9 (by decide) ?_
    obtain ⟨r3, hc3, hf⟩ := pb_s hf
    refine g_doI0 hG (g_runS C0 hG (k_X7_isUpTo l D base Z u p2 (10 : Int32) r3 hc3) m_X7_isUpTo s_X7_isUpTo w_367 (by decide) rfl hl.1 rfl (Nat.le_of_ble_eq_true rfl) dX7_odds_11 ⟨Nat.zero_le _, Nat.zero_le _⟩) (fun H locs hG hk => ?_)
    refine lv_if_eq (tgt := 25) hx hb dX7_odds_14 (by decide) (fun c4 => ?_) (fun c4 => ?_)
    · have hf := gif_t c4 hf
      refine lv_ldc2 (v := (-9223372036854775808 : Int64)) hx hb C0.2.2.2.1 (C0.2.2.2.2.1 _ w_712) dX7_odds_25 ?_
      obtain ⟨hr1, hu⟩ := gret_s hf
      subst hr1
      subst hu
      subst hQ
      exact g_lret C0 hG hr dX7_odds_28
    · have hf := gif_f c4 hf
      refine lv_iload_n hx hb dX7_odds_17 rfl (lv_at hl 3 rfl) ?_
      refine lv_iconst (v := (2 : Int32)) hx hb dX7_odds_18 (by decide) ?_
      obtain ⟨r5, hc5, hf⟩ := pb_s hf
      refine g_doI0 hG (g_runS C0 hG (k_X7_isWithin l D base Z u p3 (2 : Int32) r5 hc5) m_X7_isWithin s_X7_isWithin w_364 (by decide) rfl hl.1 rfl (Nat.le_of_ble_eq_true rfl) dX7_odds_19 ⟨Nat.zero_le _, Nat.zero_le _⟩) (fun H locs hG hk => ?_)
      refine lv_if_ne (tgt := 29) hx hb dX7_odds_22 (by decide) (fun c6 => ?_) (fun c6 => ?_)
      · have hf := gif_f c6 hf
        refine lv_aload_n hx hb dX7_odds_29 rfl (lv_at hl 0 rfl) ?_
        refine g_getSa (o := 13) (a := 13) C0 hG (L0 hG) rfl 1 (by decide) rfl rfl w_330 dX7_odds_30 ?_
        refine lv_aload_n hx hb dX7_odds_33 rfl (lv_at hl 0 rfl) ?_
        refine g_getSa (o := 1) (a := 1) C0 hG (L0 hG) rfl 0 (by decide) rfl rfl w_329 dX7_odds_34 ?_
        obtain ⟨_, u7, hc7, hf⟩ := obind_s hf
        refine g_doV0 hG (g_runVN C0 hG (k_X6_becomeLike l D base Z u 13 1 u7 O13 O1 hc7) m_X6_becomeLike v_X6_becomeLike w_663 (by decide) (g_recv C0 hG (L13 hG) rfl) rfl hl.1 rfl (Nat.le_of_ble_eq_true rfl) dX7_odds_37 ⟨Nat.zero_le _, Nat.zero_le _⟩) (fun H locs hG hk => ?_)
        refine lv_aload_n hx hb dX7_odds_40 rfl (lv_at hl 0 rfl) ?_
        refine g_getSa (o := 13) (a := 13) C0 hG (L0 hG) rfl 1 (by decide) rfl rfl w_330 dX7_odds_41 ?_
        refine lv_iload_n hx hb dX7_odds_44 rfl (lv_at hl 2 rfl) ?_
        obtain ⟨_, u8, hc8, hf⟩ := obind_s hf
        refine g_doV0 hG (g_runVN C0 hG (k_X6_ride l D base Z u7 13 p2 u8 O13 hc8) m_X6_ride v_X6_ride w_644 (by decide) (g_recv C0 hG (L13 hG) rfl) rfl hl.1 rfl (Nat.le_of_ble_eq_true rfl) dX7_odds_45 ⟨Nat.zero_le _, Nat.zero_le _⟩) (fun H locs hG hk => ?_)
        refine lv_aload_n hx hb dX7_odds_48 rfl (lv_at hl 0 rfl) ?_
        refine g_getSa (o := 13) (a := 13) C0 hG (L0 hG) rfl 1 (by decide) rfl rfl w_330 dX7_odds_49 ?_
        refine g_getIN C0 hG (L13 hG) rfl 11 (by decide) rfl w_176 dX7_odds_52 ?_
        refine lv_istore (lv' := [(4, .int (gI u8 13 11)), (0, .ref (base + 0)), (1, .int p1), (2, .int p2), (3, .int p3)]) hx hb dX7_odds_55 hl (by decide) rfl (fun ls hl => ?_)
        refine lv_iconst (v := (0 : Int32)) hx hb dX7_odds_57 (by decide) ?_
        refine lv_istore (lv' := [(5, .int (0 : Int32)), (4, .int (gI u8 13 11)), (0, .ref (base + 0)), (1, .int p1), (2, .int p2), (3, .int p3)]) hx hb dX7_odds_58 hl (by decide) rfl (fun ls hl => ?_)
        refine lv_iconst (v := (0 : Int32)) hx hb dX7_odds_60 (by decide) ?_
        refine lv_istore (lv' := [(6, .int (0 : Int32)), (5, .int (0 : Int32)), (4, .int (gI u8 13 11)), (0, .ref (base + 0)), (1, .int p1), (2, .int p2), (3, .int p3)]) hx hb dX7_odds_61 hl (by decide) rfl (fun ls hl => ?_)
        have loop9 : ∀ (n9 : Nat) (x5_9 : Int32) (x6_9 : Int32) (u9 : Mem) (H : Heap) (locs : List Loc) (ls : Array Slot), gH D base s u9 H locs → lv_has ls 7 [(0, .ref (base + 0)), (1, .int p1), (2, .int p2), (3, .int p3), (4, .int (gI u8 13 11)), (5, .int x5_9), (6, .int x6_9)] → whileO (fun s => f_X7_odds_L63 p3 p1 p2 u8 s.1 s.2.1 s.2.2) n9 (x5_9, (x6_9, u9)) = some (r, u') → W p l e (gRm 7 0 0) s m ([.ref (base + 0), .int p1, .int p2, .int p3] : List Value).toArray below meth c H locs 0 0 Q (F0 m 63 ls []) := by
          intro n9
          induction n9 with
          | zero => intro x5_9 x6_9 u9 H locs ls hG hl hf; cases hf
          | succ n9 ih9 =>
            intro x5_9 x6_9 u9 H locs ls hG hl hf
            obtain ⟨X9, hf, hX9⟩ := while_s hf
            have hf : f_X7_odds_L63 p3 p1 p2 u8 x5_9 x6_9 u9 = some X9 := hf
            unfold f_X7_odds_L63 at hf
            refine lv_iload hx hb dX7_odds_63 (lv_at hl 6 rfl) ?_
            refine lv_bipush (v := (8 : Int32)) hx hb dX7_odds_65 (by decide) ?_
            refine lv_icmp_ge (tgt := 126) hx hb dX7_odds_67 (by decide) (fun c10 => ?_) (fun c10 => ?_)
            · have hf := gif_t c10 hf
              refine lv_iload hx hb dX7_odds_126 (lv_at hl 5 rfl) ?_
              refine lv_bipush (v := (8 : Int32)) hx hb dX7_odds_128 (by decide) ?_
              refine lv_iload_n hx hb dX7_odds_130 rfl (lv_at hl 3 rfl) ?_
              obtain ⟨r11, hc11, hf⟩ := pb_s hf
              refine g_doL0 hG (g_runS C0 hG (k_X7_ofFraction l D base Z u9 x5_9 (8 : Int32) p3 r11 hc11) m_X7_ofFraction s_X7_ofFraction w_713 (by decide) rfl hl.1 rfl (Nat.le_of_ble_eq_true rfl) dX7_odds_131 ⟨Nat.zero_le _, Nat.zero_le _⟩) (fun H locs hG hk => ?_)
              have hf := while_r hX9 hf
              obtain ⟨hr1, hu⟩ := gret_s hf
              subst hr1
              subst hu
              subst hQ
              exact g_lret C0 hG hr dX7_odds_134
            · have hf := gif_f c10 hf
              refine lv_aload_n hx hb dX7_odds_70 rfl (lv_at hl 0 rfl) ?_
              refine g_getSa (o := 13) (a := 13) C0 hG (L0 hG) rfl 1 (by decide) rfl rfl w_330 dX7_odds_71 ?_
              refine lv_aload_n hx hb dX7_odds_74 rfl (lv_at hl 0 rfl) ?_
              refine g_getSa (o := 1) (a := 1) C0 hG (L0 hG) rfl 0 (by decide) rfl rfl w_329 dX7_odds_75 ?_
              obtain ⟨_, u12, hc12, hf⟩ := obind_s hf
              refine g_doV0 hG (g_runVN C0 hG (k_X6_becomeLike l D base Z u9 13 1 u12 O13 O1 hc12) m_X6_becomeLike v_X6_becomeLike w_663 (by decide) (g_recv C0 hG (L13 hG) rfl) rfl hl.1 rfl (Nat.le_of_ble_eq_true rfl) dX7_odds_78 ⟨Nat.zero_le _, Nat.zero_le _⟩) (fun H locs hG hk => ?_)
              refine lv_aload_n hx hb dX7_odds_81 rfl (lv_at hl 0 rfl) ?_
              refine g_getSa (o := 13) (a := 13) C0 hG (L0 hG) rfl 1 (by decide) rfl rfl w_330 dX7_odds_82 ?_
              refine g_getSaN (o := 6) (a := 19) C0 hG (L13 hG) rfl 5 (by decide) rfl rfl w_165 dX7_odds_85 ?_
              refine lv_iload_n hx hb dX7_odds_88 rfl (lv_at hl 1 rfl) ?_
              refine lv_dup2_11 hx hb dX7_odds_89 rfl rfl ?_
              obtain ⟨h13, hf⟩ := gin_s hf
              refine g_iald C0 hG (L19 hG) h13 dX7_odds_90 ?_
              refine lv_iconst (v := (1 : Int32)) hx hb dX7_odds_91 (by decide) ?_
              refine lv_iload hx hb dX7_odds_92 (lv_at hl 6 rfl) ?_
              refine lv_ishl hx hb dX7_odds_94 ?_
              refine lv_ior hx hb dX7_odds_95 ?_
              obtain ⟨h14, hf⟩ := gin_s hf
              refine g_iast C0 hG (L19 hG) h14 dX7_odds_96 (fun H locs hG => ?_)
              refine lv_aload_n hx hb dX7_odds_97 rfl (lv_at hl 0 rfl) ?_
              refine g_getSa (o := 13) (a := 13) C0 hG (L0 hG) rfl 1 (by decide) rfl rfl w_330 dX7_odds_98 ?_
              refine lv_iload_n hx hb dX7_odds_101 rfl (lv_at hl 2 rfl) ?_
              obtain ⟨_, u15, hc15, hf⟩ := obind_s hf
              refine g_doV0 hG (g_runVN C0 hG (k_X6_ride l D base Z (sA u12 19 p1.toNatClampNeg ((gA u12 19 p1.toNatClampNeg) ||| ((1 : Int32) <<< (x6_9 &&& 31)))) 13 p2 u15 O13 hc15) m_X6_ride v_X6_ride w_644 (by decide) (g_recv C0 hG (L13 hG) rfl) rfl hl.1 rfl (Nat.le_of_ble_eq_true rfl) dX7_odds_102 ⟨Nat.zero_le _, Nat.zero_le _⟩) (fun H locs hG hk => ?_)
              refine lv_aload_n hx hb dX7_odds_105 rfl (lv_at hl 0 rfl) ?_
              refine g_getSa (o := 13) (a := 13) C0 hG (L0 hG) rfl 1 (by decide) rfl rfl w_330 dX7_odds_106 ?_
              refine g_getIN C0 hG (L13 hG) rfl 11 (by decide) rfl w_176 dX7_odds_109 ?_
              refine lv_iload hx hb dX7_odds_112 (lv_at hl 4 rfl) ?_
              refine lv_icmp_le (tgt := 120) hx hb dX7_odds_114 (by decide) (fun c16 => ?_) (fun c16 => ?_)
              · have hf := gif_t c16 hf
                refine lv_iinc (v := x6_9 + (1 : Int32)) (lv' := [(6, .int (x6_9 + (1 : Int32))), (0, .ref (base + 0)), (1, .int p1), (2, .int p2), (3, .int p3), (4, .int (gI u8 13 11)), (5, .int x5_9)]) hx hb dX7_odds_120 hl (k := 6) rfl rfl (by decide) rfl (fun ls hl => ?_)
                refine lv_goto (tgt := 63) hx hb dX7_odds_123 (by decide) ?_
                have hf := while_l hX9 hf
                exact ih9 x5_9 (x6_9 + (1 : Int32)) u15 _ _ ls hG (lv_sub hl [1, 2, 3, 4, 5, 6, 0] rfl) hf
              · have hf := gif_f c16 hf
                refine lv_iinc (v := x5_9 + (1 : Int32)) (lv' := [(5, .int (x5_9 + (1 : Int32))), (0, .ref (base + 0)), (1, .int p1), (2, .int p2), (3, .int p3), (4, .int (gI u8 13 11)), (6, .int x6_9)]) hx hb dX7_odds_117 hl (k := 5) rfl rfl (by decide) rfl (fun ls hl => ?_)
                refine lv_iinc (v := x6_9 + (1 : Int32)) (lv' := [(6, .int (x6_9 + (1 : Int32))), (5, .int (x5_9 + (1 : Int32))), (0, .ref (base + 0)), (1, .int p1), (2, .int p2), (3, .int p3), (4, .int (gI u8 13 11))]) hx hb dX7_odds_120 hl (k := 6) rfl rfl (by decide) rfl (fun ls hl => ?_)
                refine lv_goto (tgt := 63) hx hb dX7_odds_123 (by decide) ?_
                have hf := while_l hX9 hf
                exact ih9 (x5_9 + (1 : Int32)) (x6_9 + (1 : Int32)) u15 _ _ ls hG (lv_sub hl [2, 3, 4, 5, 6, 1, 0] rfl) hf
        exact loop9 FUEL (0 : Int32) (0 : Int32) u8 _ _ ls hG (lv_sub hl [3, 4, 5, 6, 2, 1, 0] rfl) hf
      · have hf := gif_t c6 hf
        refine lv_ldc2 (v := (-9223372036854775808 : Int64)) hx hb C0.2.2.2.1 (C0.2.2.2.2.1 _ w_712) dX7_odds_25 ?_
        obtain ⟨hr1, hu⟩ := gret_s hf
        subst hr1
        subst hu
        subst hQ
        exact g_lret C0 hG hr dX7_odds_28
theorem dJ6_bitCount_0f7a4_0 : decode cJ6_bitCount_0f7a4 0 = .ok (.iload_n 0, 1) := by decide +kernel
theorem dJ6_bitCount_0f7a4_1 : decode cJ6_bitCount_0f7a4 1 = .ok (.iload_n 0, 1) := by decide +kernel
theorem dJ6_bitCount_0f7a4_2 : decode cJ6_bitCount_0f7a4 2 = .ok (.iconst 1, 1) := by decide +kernel
theorem dJ6_bitCount_0f7a4_3 : decode cJ6_bitCount_0f7a4 3 = .ok (.iushr, 1) := by decide +kernel
theorem dJ6_bitCount_0f7a4_4 : decode cJ6_bitCount_0f7a4 4 = .ok (.ldc_w 265, 3) := by decide +kernel
theorem dJ6_bitCount_0f7a4_7 : decode cJ6_bitCount_0f7a4 7 = .ok (.iand, 1) := by decide +kernel
theorem dJ6_bitCount_0f7a4_8 : decode cJ6_bitCount_0f7a4 8 = .ok (.isub, 1) := by decide +kernel
theorem dJ6_bitCount_0f7a4_9 : decode cJ6_bitCount_0f7a4 9 = .ok (.istore_n 0, 1) := by decide +kernel
theorem dJ6_bitCount_0f7a4_10 : decode cJ6_bitCount_0f7a4 10 = .ok (.iload_n 0, 1) := by decide +kernel
theorem dJ6_bitCount_0f7a4_11 : decode cJ6_bitCount_0f7a4 11 = .ok (.ldc_w 266, 3) := by decide +kernel
theorem dJ6_bitCount_0f7a4_14 : decode cJ6_bitCount_0f7a4 14 = .ok (.iand, 1) := by decide +kernel
theorem dJ6_bitCount_0f7a4_15 : decode cJ6_bitCount_0f7a4 15 = .ok (.iload_n 0, 1) := by decide +kernel
theorem dJ6_bitCount_0f7a4_16 : decode cJ6_bitCount_0f7a4 16 = .ok (.iconst 2, 1) := by decide +kernel
theorem dJ6_bitCount_0f7a4_17 : decode cJ6_bitCount_0f7a4 17 = .ok (.iushr, 1) := by decide +kernel
theorem dJ6_bitCount_0f7a4_18 : decode cJ6_bitCount_0f7a4 18 = .ok (.ldc_w 266, 3) := by decide +kernel
theorem dJ6_bitCount_0f7a4_21 : decode cJ6_bitCount_0f7a4 21 = .ok (.iand, 1) := by decide +kernel
theorem dJ6_bitCount_0f7a4_22 : decode cJ6_bitCount_0f7a4 22 = .ok (.iadd, 1) := by decide +kernel
theorem dJ6_bitCount_0f7a4_23 : decode cJ6_bitCount_0f7a4 23 = .ok (.istore_n 0, 1) := by decide +kernel
theorem dJ6_bitCount_0f7a4_24 : decode cJ6_bitCount_0f7a4 24 = .ok (.iload_n 0, 1) := by decide +kernel
theorem dJ6_bitCount_0f7a4_25 : decode cJ6_bitCount_0f7a4 25 = .ok (.iload_n 0, 1) := by decide +kernel
theorem dJ6_bitCount_0f7a4_26 : decode cJ6_bitCount_0f7a4 26 = .ok (.iconst 4, 1) := by decide +kernel
theorem dJ6_bitCount_0f7a4_27 : decode cJ6_bitCount_0f7a4 27 = .ok (.iushr, 1) := by decide +kernel
theorem dJ6_bitCount_0f7a4_28 : decode cJ6_bitCount_0f7a4 28 = .ok (.iadd, 1) := by decide +kernel
theorem dJ6_bitCount_0f7a4_29 : decode cJ6_bitCount_0f7a4 29 = .ok (.ldc_w 267, 3) := by decide +kernel
theorem dJ6_bitCount_0f7a4_32 : decode cJ6_bitCount_0f7a4 32 = .ok (.iand, 1) := by decide +kernel
theorem dJ6_bitCount_0f7a4_33 : decode cJ6_bitCount_0f7a4 33 = .ok (.istore_n 0, 1) := by decide +kernel
theorem dJ6_bitCount_0f7a4_34 : decode cJ6_bitCount_0f7a4 34 = .ok (.iload_n 0, 1) := by decide +kernel
theorem dJ6_bitCount_0f7a4_35 : decode cJ6_bitCount_0f7a4 35 = .ok (.iload_n 0, 1) := by decide +kernel
theorem dJ6_bitCount_0f7a4_36 : decode cJ6_bitCount_0f7a4 36 = .ok (.bipush 8, 2) := by decide +kernel
theorem dJ6_bitCount_0f7a4_38 : decode cJ6_bitCount_0f7a4 38 = .ok (.iushr, 1) := by decide +kernel
theorem dJ6_bitCount_0f7a4_39 : decode cJ6_bitCount_0f7a4 39 = .ok (.iadd, 1) := by decide +kernel
theorem dJ6_bitCount_0f7a4_40 : decode cJ6_bitCount_0f7a4 40 = .ok (.istore_n 0, 1) := by decide +kernel
theorem dJ6_bitCount_0f7a4_41 : decode cJ6_bitCount_0f7a4 41 = .ok (.iload_n 0, 1) := by decide +kernel
theorem dJ6_bitCount_0f7a4_42 : decode cJ6_bitCount_0f7a4 42 = .ok (.iload_n 0, 1) := by decide +kernel
theorem dJ6_bitCount_0f7a4_43 : decode cJ6_bitCount_0f7a4 43 = .ok (.bipush 16, 2) := by decide +kernel
theorem dJ6_bitCount_0f7a4_45 : decode cJ6_bitCount_0f7a4 45 = .ok (.iushr, 1) := by decide +kernel
theorem dJ6_bitCount_0f7a4_46 : decode cJ6_bitCount_0f7a4 46 = .ok (.iadd, 1) := by decide +kernel
theorem dJ6_bitCount_0f7a4_47 : decode cJ6_bitCount_0f7a4 47 = .ok (.istore_n 0, 1) := by decide +kernel
theorem dJ6_bitCount_0f7a4_48 : decode cJ6_bitCount_0f7a4 48 = .ok (.iload_n 0, 1) := by decide +kernel
theorem dJ6_bitCount_0f7a4_49 : decode cJ6_bitCount_0f7a4 49 = .ok (.bipush 63, 2) := by decide +kernel
theorem dJ6_bitCount_0f7a4_51 : decode cJ6_bitCount_0f7a4 51 = .ok (.iand, 1) := by decide +kernel
theorem dJ6_bitCount_0f7a4_52 : decode cJ6_bitCount_0f7a4 52 = .ok (.ireturn, 1) := by decide +kernel
def f_J6_bitCount_0f7a4 (p0 : Int32) : Option (Int32) := some ((((((((p0 - (((p0.toUInt32 >>> ((1 : Int32).toUInt32 &&& Int32.toUInt32 31)).toInt32) &&& (1431655765 : Int32))) &&& (858993459 : Int32)) + ((((p0 - (((p0.toUInt32 >>> ((1 : Int32).toUInt32 &&& Int32.toUInt32 31)).toInt32) &&& (1431655765 : Int32))).toUInt32 >>> ((2 : Int32).toUInt32 &&& Int32.toUInt32 31)).toInt32) &&& (858993459 : Int32))) + (((((p0 - (((p0.toUInt32 >>> ((1 : Int32).toUInt32 &&& Int32.toUInt32 31)).toInt32) &&& (1431655765 : Int32))) &&& (858993459 : Int32)) + ((((p0 - (((p0.toUInt32 >>> ((1 : Int32).toUInt32 &&& Int32.toUInt32 31)).toInt32) &&& (1431655765 : Int32))).toUInt32 >>> ((2 : Int32).toUInt32 &&& Int32.toUInt32 31)).toInt32) &&& (858993459 : Int32))).toUInt32 >>> ((4 : Int32).toUInt32 &&& Int32.toUInt32 31)).toInt32)) &&& (252645135 : Int32)) + (((((((p0 - (((p0.toUInt32 >>> ((1 : Int32).toUInt32 &&& Int32.toUInt32 31)).toInt32) &&& (1431655765 : Int32))) &&& (858993459 : Int32)) + ((((p0 - (((p0.toUInt32 >>> ((1 : Int32).toUInt32 &&& Int32.toUInt32 31)).toInt32) &&& (1431655765 : Int32))).toUInt32 >>> ((2 : Int32).toUInt32 &&& Int32.toUInt32 31)).toInt32) &&& (858993459 : Int32))) + (((((p0 - (((p0.toUInt32 >>> ((1 : Int32).toUInt32 &&& Int32.toUInt32 31)).toInt32) &&& (1431655765 : Int32))) &&& (858993459 : Int32)) + ((((p0 - (((p0.toUInt32 >>> ((1 : Int32).toUInt32 &&& Int32.toUInt32 31)).toInt32) &&& (1431655765 : Int32))).toUInt32 >>> ((2 : Int32).toUInt32 &&& Int32.toUInt32 31)).toInt32) &&& (858993459 : Int32))).toUInt32 >>> ((4 : Int32).toUInt32 &&& Int32.toUInt32 31)).toInt32)) &&& (252645135 : Int32)).toUInt32 >>> ((8 : Int32).toUInt32 &&& Int32.toUInt32 31)).toInt32)) + ((((((((p0 - (((p0.toUInt32 >>> ((1 : Int32).toUInt32 &&& Int32.toUInt32 31)).toInt32) &&& (1431655765 : Int32))) &&& (858993459 : Int32)) + ((((p0 - (((p0.toUInt32 >>> ((1 : Int32).toUInt32 &&& Int32.toUInt32 31)).toInt32) &&& (1431655765 : Int32))).toUInt32 >>> ((2 : Int32).toUInt32 &&& Int32.toUInt32 31)).toInt32) &&& (858993459 : Int32))) + (((((p0 - (((p0.toUInt32 >>> ((1 : Int32).toUInt32 &&& Int32.toUInt32 31)).toInt32) &&& (1431655765 : Int32))) &&& (858993459 : Int32)) + ((((p0 - (((p0.toUInt32 >>> ((1 : Int32).toUInt32 &&& Int32.toUInt32 31)).toInt32) &&& (1431655765 : Int32))).toUInt32 >>> ((2 : Int32).toUInt32 &&& Int32.toUInt32 31)).toInt32) &&& (858993459 : Int32))).toUInt32 >>> ((4 : Int32).toUInt32 &&& Int32.toUInt32 31)).toInt32)) &&& (252645135 : Int32)) + (((((((p0 - (((p0.toUInt32 >>> ((1 : Int32).toUInt32 &&& Int32.toUInt32 31)).toInt32) &&& (1431655765 : Int32))) &&& (858993459 : Int32)) + ((((p0 - (((p0.toUInt32 >>> ((1 : Int32).toUInt32 &&& Int32.toUInt32 31)).toInt32) &&& (1431655765 : Int32))).toUInt32 >>> ((2 : Int32).toUInt32 &&& Int32.toUInt32 31)).toInt32) &&& (858993459 : Int32))) + (((((p0 - (((p0.toUInt32 >>> ((1 : Int32).toUInt32 &&& Int32.toUInt32 31)).toInt32) &&& (1431655765 : Int32))) &&& (858993459 : Int32)) + ((((p0 - (((p0.toUInt32 >>> ((1 : Int32).toUInt32 &&& Int32.toUInt32 31)).toInt32) &&& (1431655765 : Int32))).toUInt32 >>> ((2 : Int32).toUInt32 &&& Int32.toUInt32 31)).toInt32) &&& (858993459 : Int32))).toUInt32 >>> ((4 : Int32).toUInt32 &&& Int32.toUInt32 31)).toInt32)) &&& (252645135 : Int32)).toUInt32 >>> ((8 : Int32).toUInt32 &&& Int32.toUInt32 31)).toInt32)).toUInt32 >>> ((16 : Int32).toUInt32 &&& Int32.toUInt32 31)).toInt32)) &&& (63 : Int32))
set_option maxHeartbeats 4000000 in
set_option maxRecDepth 100000 in
theorem k_J6_bitCount_0f7a4 (l : Launch) (D : gDt) (base : Nat) (Z : gZt) (u : Mem) (p0 : Int32) (r : Int32) (hf : f_J6_bitCount_0f7a4 p0 = some r) : Met l yJ6_bitCount_0f7a4 (gws yJ6_bitCount_0f7a4 cJ6_bitCount_0f7a4 1 (some .int)) (gRm 1 0 0) (gPc D base Z u [.int p0]) (gQi D base r u) 0 0 (gF base) := by
  refine Met.ofW (cc := cJ6_bitCount_0f7a4) (maxL := 1) (ret := some .int) (by decide) rfl ?_
  intro p e s m args below meth c s₁ B hml hv
  obtain ⟨rfl, C0, hG⟩ := g_enter B hml hv
  have hr := B.returns
  have C0 : gC p s m meth c _ cJ6_bitCount_0f7a4 1 RJ6 D base Z := C0
  have hx := C0.1
  have hb := C0.2.1
  have hl := lv_entry ([.int p0]) (n := 1) (Nat.le_of_ble_eq_true rfl)
  rw [lg_entry_eq]
  generalize (lg_sl ([.int p0]) ++ List.replicate (1 - (lg_sl ([.int p0])).length) Slot.unset).toArray = ls at hl ⊢
  have hl : lv_has ls 1 [(0, .int p0)] := hl
  obtain ⟨Q, hQ⟩ : ∃ Q, Q = MQ below (gQi D base r u) ([.int p0] : List Value).toArray s 0 0 (gF base) := ⟨_, rfl⟩
  rw [← hQ]
  change W p l e (gRm 1 0 0) s m _ below meth c _ _ _ _ _ _
  unfold f_J6_bitCount_0f7a4 at hf
  refine lv_iload_n hx hb dJ6_bitCount_0f7a4_0 rfl (lv_at hl 0 rfl) ?_
  refine lv_iload_n hx hb dJ6_bitCount_0f7a4_1 rfl (lv_at hl 0 rfl) ?_
  refine lv_iconst (v := (1 : Int32)) hx hb dJ6_bitCount_0f7a4_2 (by decide) ?_
  refine lv_iushr (v := (p0.toUInt32 >>> ((1 : Int32).toUInt32 &&& Int32.toUInt32 31)).toInt32) hx hb dJ6_bitCount_0f7a4_3 rfl ?_
  refine lv_ldcw (v := (1431655765 : Int32)) hx hb C0.2.2.2.1 (C0.2.2.2.2.1 _ w_723) dJ6_bitCount_0f7a4_4 ?_
  refine lv_iand hx hb dJ6_bitCount_0f7a4_7 ?_
  refine lv_isub hx hb dJ6_bitCount_0f7a4_8 ?_
  refine lv_istore_n (lv' := [(0, .int (p0 - (((p0.toUInt32 >>> ((1 : Int32).toUInt32 &&& Int32.toUInt32 31)).toInt32) &&& (1431655765 : Int32))))]) hx hb dJ6_bitCount_0f7a4_9 rfl hl (by decide) rfl (fun ls hl => ?_)
  refine lv_iload_n hx hb dJ6_bitCount_0f7a4_10 rfl (lv_at hl 0 rfl) ?_
  refine lv_ldcw (v := (858993459 : Int32)) hx hb C0.2.2.2.1 (C0.2.2.2.2.1 _ w_724) dJ6_bitCount_0f7a4_11 ?_
  refine lv_iand hx hb dJ6_bitCount_0f7a4_14 ?_
  refine lv_iload_n hx hb dJ6_bitCount_0f7a4_15 rfl (lv_at hl 0 rfl) ?_
  refine lv_iconst (v := (2 : Int32)) hx hb dJ6_bitCount_0f7a4_16 (by decide) ?_
  refine lv_iushr (v := ((p0 - (((p0.toUInt32 >>> ((1 : Int32).toUInt32 &&& Int32.toUInt32 31)).toInt32) &&& (1431655765 : Int32))).toUInt32 >>> ((2 : Int32).toUInt32 &&& Int32.toUInt32 31)).toInt32) hx hb dJ6_bitCount_0f7a4_17 rfl ?_
  refine lv_ldcw (v := (858993459 : Int32)) hx hb C0.2.2.2.1 (C0.2.2.2.2.1 _ w_724) dJ6_bitCount_0f7a4_18 ?_
  refine lv_iand hx hb dJ6_bitCount_0f7a4_21 ?_
  refine lv_iadd hx hb dJ6_bitCount_0f7a4_22 ?_
  refine lv_istore_n (lv' := [(0, .int (((p0 - (((p0.toUInt32 >>> ((1 : Int32).toUInt32 &&& Int32.toUInt32 31)).toInt32) &&& (1431655765 : Int32))) &&& (858993459 : Int32)) + ((((p0 - (((p0.toUInt32 >>> ((1 : Int32).toUInt32 &&& Int32.toUInt32 31)).toInt32) &&& (1431655765 : Int32))).toUInt32 >>> ((2 : Int32).toUInt32 &&& Int32.toUInt32 31)).toInt32) &&& (858993459 : Int32))))]) hx hb dJ6_bitCount_0f7a4_23 rfl hl (by decide) rfl (fun ls hl => ?_)
  refine lv_iload_n hx hb dJ6_bitCount_0f7a4_24 rfl (lv_at hl 0 rfl) ?_
  refine lv_iload_n hx hb dJ6_bitCount_0f7a4_25 rfl (lv_at hl 0 rfl) ?_
  refine lv_iconst (v := (4 : Int32)) hx hb dJ6_bitCount_0f7a4_26 (by decide) ?_
  refine lv_iushr (v := ((((p0 - (((p0.toUInt32 >>> ((1 : Int32).toUInt32 &&& Int32.toUInt32 31)).toInt32) &&& (1431655765 : Int32))) &&& (858993459 : Int32)) + ((((p0 - (((p0.toUInt32 >>> ((1 : Int32).toUInt32 &&& Int32.toUInt32 31)).toInt32) &&& (1431655765 : Int32))).toUInt32 >>> ((2 : Int32).toUInt32 &&& Int32.toUInt32 31)).toInt32) &&& (858993459 : Int32))).toUInt32 >>> ((4 : Int32).toUInt32 &&& Int32.toUInt32 31)).toInt32) hx hb dJ6_bitCount_0f7a4_27 rfl ?_
  refine lv_iadd hx hb dJ6_bitCount_0f7a4_28 ?_
  refine lv_ldcw (v := (252645135 : Int32)) hx hb C0.2.2.2.1 (C0.2.2.2.2.1 _ w_725) dJ6_bitCount_0f7a4_29 ?_
  refine lv_iand hx hb dJ6_bitCount_0f7a4_32 ?_
  refine lv_istore_n (lv' := [(0, .int (((((p0 - (((p0.toUInt32 >>> ((1 : Int32).toUInt32 &&& Int32.toUInt32 31)).toInt32) &&& (1431655765 : Int32))) &&& (858993459 : Int32)) + ((((p0 - (((p0.toUInt32 >>> ((1 : Int32).toUInt32 &&& Int32.toUInt32 31)).toInt32) &&& (1431655765 : Int32))).toUInt32 >>> ((2 : Int32).toUInt32 &&& Int32.toUInt32 31)).toInt32) &&& (858993459 : Int32))) + (((((p0 - (((p0.toUInt32 >>> ((1 : Int32).toUInt32 &&& Int32.toUInt32 31)).toInt32) &&& (1431655765 : Int32))) &&& (858993459 : Int32)) + ((((p0 - (((p0.toUInt32 >>> ((1 : Int32).toUInt32 &&& Int32.toUInt32 31)).toInt32) &&& (1431655765 : Int32))).toUInt32 >>> ((2 : Int32).toUInt32 &&& Int32.toUInt32 31)).toInt32) &&& (858993459 : Int32))).toUInt32 >>> ((4 : Int32).toUInt32 &&& Int32.toUInt32 31)).toInt32)) &&& (252645135 : Int32)))]) hx hb dJ6_bitCount_0f7a4_33 rfl hl (by decide) rfl (fun ls hl => ?_)
  refine lv_iload_n hx hb dJ6_bitCount_0f7a4_34 rfl (lv_at hl 0 rfl) ?_
  refine lv_iload_n hx hb dJ6_bitCount_0f7a4_35 rfl (lv_at hl 0 rfl) ?_
  refine lv_bipush (v := (8 : Int32)) hx hb dJ6_bitCount_0f7a4_36 (by decide) ?_
  refine lv_iushr (v := ((((((p0 - (((p0.toUInt32 >>> ((1 : Int32).toUInt32 &&& Int32.toUInt32 31)).toInt32) &&& (1431655765 : Int32))) &&& (858993459 : Int32)) + ((((p0 - (((p0.toUInt32 >>> ((1 : Int32).toUInt32 &&& Int32.toUInt32 31)).toInt32) &&& (1431655765 : Int32))).toUInt32 >>> ((2 : Int32).toUInt32 &&& Int32.toUInt32 31)).toInt32) &&& (858993459 : Int32))) + (((((p0 - (((p0.toUInt32 >>> ((1 : Int32).toUInt32 &&& Int32.toUInt32 31)).toInt32) &&& (1431655765 : Int32))) &&& (858993459 : Int32)) + ((((p0 - (((p0.toUInt32 >>> ((1 : Int32).toUInt32 &&& Int32.toUInt32 31)).toInt32) &&& (1431655765 : Int32))).toUInt32 >>> ((2 : Int32).toUInt32 &&& Int32.toUInt32 31)).toInt32) &&& (858993459 : Int32))).toUInt32 >>> ((4 : Int32).toUInt32 &&& Int32.toUInt32 31)).toInt32)) &&& (252645135 : Int32)).toUInt32 >>> ((8 : Int32).toUInt32 &&& Int32.toUInt32 31)).toInt32) hx hb dJ6_bitCount_0f7a4_38 rfl ?_
  refine lv_iadd hx hb dJ6_bitCount_0f7a4_39 ?_
  refine lv_istore_n (lv' := [(0, .int ((((((p0 - (((p0.toUInt32 >>> ((1 : Int32).toUInt32 &&& Int32.toUInt32 31)).toInt32) &&& (1431655765 : Int32))) &&& (858993459 : Int32)) + ((((p0 - (((p0.toUInt32 >>> ((1 : Int32).toUInt32 &&& Int32.toUInt32 31)).toInt32) &&& (1431655765 : Int32))).toUInt32 >>> ((2 : Int32).toUInt32 &&& Int32.toUInt32 31)).toInt32) &&& (858993459 : Int32))) + (((((p0 - (((p0.toUInt32 >>> ((1 : Int32).toUInt32 &&& Int32.toUInt32 31)).toInt32) &&& (1431655765 : Int32))) &&& (858993459 : Int32)) + ((((p0 - (((p0.toUInt32 >>> ((1 : Int32).toUInt32 &&& Int32.toUInt32 31)).toInt32) &&& (1431655765 : Int32))).toUInt32 >>> ((2 : Int32).toUInt32 &&& Int32.toUInt32 31)).toInt32) &&& (858993459 : Int32))).toUInt32 >>> ((4 : Int32).toUInt32 &&& Int32.toUInt32 31)).toInt32)) &&& (252645135 : Int32)) + (((((((p0 - (((p0.toUInt32 >>> ((1 : Int32).toUInt32 &&& Int32.toUInt32 31)).toInt32) &&& (1431655765 : Int32))) &&& (858993459 : Int32)) + ((((p0 - (((p0.toUInt32 >>> ((1 : Int32).toUInt32 &&& Int32.toUInt32 31)).toInt32) &&& (1431655765 : Int32))).toUInt32 >>> ((2 : Int32).toUInt32 &&& Int32.toUInt32 31)).toInt32) &&& (858993459 : Int32))) + (((((p0 - (((p0.toUInt32 >>> ((1 : Int32).toUInt32 &&& Int32.toUInt32 31)).toInt32) &&& (1431655765 : Int32))) &&& (858993459 : Int32)) + ((((p0 - (((p0.toUInt32 >>> ((1 : Int32).toUInt32 &&& Int32.toUInt32 31)).toInt32) &&& (1431655765 : Int32))).toUInt32 >>> ((2 : Int32).toUInt32 &&& Int32.toUInt32 31)).toInt32) &&& (858993459 : Int32))).toUInt32 >>> ((4 : Int32).toUInt32 &&& Int32.toUInt32 31)).toInt32)) &&& (252645135 : Int32)).toUInt32 >>> ((8 : Int32).toUInt32 &&& Int32.toUInt32 31)).toInt32)))]) hx hb dJ6_bitCount_0f7a4_40 rfl hl (by decide) rfl (fun ls hl => ?_)
  refine lv_iload_n hx hb dJ6_bitCount_0f7a4_41 rfl (lv_at hl 0 rfl) ?_
  refine lv_iload_n hx hb dJ6_bitCount_0f7a4_42 rfl (lv_at hl 0 rfl) ?_
  refine lv_bipush (v := (16 : Int32)) hx hb dJ6_bitCount_0f7a4_43 (by decide) ?_
  refine lv_iushr (v := (((((((p0 - (((p0.toUInt32 >>> ((1 : Int32).toUInt32 &&& Int32.toUInt32 31)).toInt32) &&& (1431655765 : Int32))) &&& (858993459 : Int32)) + ((((p0 - (((p0.toUInt32 >>> ((1 : Int32).toUInt32 &&& Int32.toUInt32 31)).toInt32) &&& (1431655765 : Int32))).toUInt32 >>> ((2 : Int32).toUInt32 &&& Int32.toUInt32 31)).toInt32) &&& (858993459 : Int32))) + (((((p0 - (((p0.toUInt32 >>> ((1 : Int32).toUInt32 &&& Int32.toUInt32 31)).toInt32) &&& (1431655765 : Int32))) &&& (858993459 : Int32)) + ((((p0 - (((p0.toUInt32 >>> ((1 : Int32).toUInt32 &&& Int32.toUInt32 31)).toInt32) &&& (1431655765 : Int32))).toUInt32 >>> ((2 : Int32).toUInt32 &&& Int32.toUInt32 31)).toInt32) &&& (858993459 : Int32))).toUInt32 >>> ((4 : Int32).toUInt32 &&& Int32.toUInt32 31)).toInt32)) &&& (252645135 : Int32)) + (((((((p0 - (((p0.toUInt32 >>> ((1 : Int32).toUInt32 &&& Int32.toUInt32 31)).toInt32) &&& (1431655765 : Int32))) &&& (858993459 : Int32)) + ((((p0 - (((p0.toUInt32 >>> ((1 : Int32).toUInt32 &&& Int32.toUInt32 31)).toInt32) &&& (1431655765 : Int32))).toUInt32 >>> ((2 : Int32).toUInt32 &&& Int32.toUInt32 31)).toInt32) &&& (858993459 : Int32))) + (((((p0 - (((p0.toUInt32 >>> ((1 : Int32).toUInt32 &&& Int32.toUInt32 31)).toInt32) &&& (1431655765 : Int32))) &&& (858993459 : Int32)) + ((((p0 - (((p0.toUInt32 >>> ((1 : Int32).toUInt32 &&& Int32.toUInt32 31)).toInt32) &&& (1431655765 : Int32))).toUInt32 >>> ((2 : Int32).toUInt32 &&& Int32.toUInt32 31)).toInt32) &&& (858993459 : Int32))).toUInt32 >>> ((4 : Int32).toUInt32 &&& Int32.toUInt32 31)).toInt32)) &&& (252645135 : Int32)).toUInt32 >>> ((8 : Int32).toUInt32 &&& Int32.toUInt32 31)).toInt32)).toUInt32 >>> ((16 : Int32).toUInt32 &&& Int32.toUInt32 31)).toInt32) hx hb dJ6_bitCount_0f7a4_45 rfl ?_
  refine lv_iadd hx hb dJ6_bitCount_0f7a4_46 ?_
  refine lv_istore_n (lv' := [(0, .int (((((((p0 - (((p0.toUInt32 >>> ((1 : Int32).toUInt32 &&& Int32.toUInt32 31)).toInt32) &&& (1431655765 : Int32))) &&& (858993459 : Int32)) + ((((p0 - (((p0.toUInt32 >>> ((1 : Int32).toUInt32 &&& Int32.toUInt32 31)).toInt32) &&& (1431655765 : Int32))).toUInt32 >>> ((2 : Int32).toUInt32 &&& Int32.toUInt32 31)).toInt32) &&& (858993459 : Int32))) + (((((p0 - (((p0.toUInt32 >>> ((1 : Int32).toUInt32 &&& Int32.toUInt32 31)).toInt32) &&& (1431655765 : Int32))) &&& (858993459 : Int32)) + ((((p0 - (((p0.toUInt32 >>> ((1 : Int32).toUInt32 &&& Int32.toUInt32 31)).toInt32) &&& (1431655765 : Int32))).toUInt32 >>> ((2 : Int32).toUInt32 &&& Int32.toUInt32 31)).toInt32) &&& (858993459 : Int32))).toUInt32 >>> ((4 : Int32).toUInt32 &&& Int32.toUInt32 31)).toInt32)) &&& (252645135 : Int32)) + (((((((p0 - (((p0.toUInt32 >>> ((1 : Int32).toUInt32 &&& Int32.toUInt32 31)).toInt32) &&& (1431655765 : Int32))) &&& (858993459 : Int32)) + ((((p0 - (((p0.toUInt32 >>> ((1 : Int32).toUInt32 &&& Int32.toUInt32 31)).toInt32) &&& (1431655765 : Int32))).toUInt32 >>> ((2 : Int32).toUInt32 &&& Int32.toUInt32 31)).toInt32) &&& (858993459 : Int32))) + (((((p0 - (((p0.toUInt32 >>> ((1 : Int32).toUInt32 &&& Int32.toUInt32 31)).toInt32) &&& (1431655765 : Int32))) &&& (858993459 : Int32)) + ((((p0 - (((p0.toUInt32 >>> ((1 : Int32).toUInt32 &&& Int32.toUInt32 31)).toInt32) &&& (1431655765 : Int32))).toUInt32 >>> ((2 : Int32).toUInt32 &&& Int32.toUInt32 31)).toInt32) &&& (858993459 : Int32))).toUInt32 >>> ((4 : Int32).toUInt32 &&& Int32.toUInt32 31)).toInt32)) &&& (252645135 : Int32)).toUInt32 >>> ((8 : Int32).toUInt32 &&& Int32.toUInt32 31)).toInt32)) + ((((((((p0 - (((p0.toUInt32 >>> ((1 : Int32).toUInt32 &&& Int32.toUInt32 31)).toInt32) &&& (1431655765 : Int32))) &&& (858993459 : Int32)) + ((((p0 - (((p0.toUInt32 >>> ((1 : Int32).toUInt32 &&& Int32.toUInt32 31)).toInt32) &&& (1431655765 : Int32))).toUInt32 >>> ((2 : Int32).toUInt32 &&& Int32.toUInt32 31)).toInt32) &&& (858993459 : Int32))) + (((((p0 - (((p0.toUInt32 >>> ((1 : Int32).toUInt32 &&& Int32.toUInt32 31)).toInt32) &&& (1431655765 : Int32))) &&& (858993459 : Int32)) + ((((p0 - (((p0.toUInt32 >>> ((1 : Int32).toUInt32 &&& Int32.toUInt32 31)).toInt32) &&& (1431655765 : Int32))).toUInt32 >>> ((2 : Int32).toUInt32 &&& Int32.toUInt32 31)).toInt32) &&& (858993459 : Int32))).toUInt32 >>> ((4 : Int32).toUInt32 &&& Int32.toUInt32 31)).toInt32)) &&& (252645135 : Int32)) + (((((((p0 - (((p0.toUInt32 >>> ((1 : Int32).toUInt32 &&& Int32.toUInt32 31)).toInt32) &&& (1431655765 : Int32))) &&& (858993459 : Int32)) + ((((p0 - (((p0.toUInt32 >>> ((1 : Int32).toUInt32 &&& Int32.toUInt32 31)).toInt32) &&& (1431655765 : Int32))).toUInt32 >>> ((2 : Int32).toUInt32 &&& Int32.toUInt32 31)).toInt32) &&& (858993459 : Int32))) + (((((p0 - (((p0.toUInt32 >>> ((1 : Int32).toUInt32 &&& Int32.toUInt32 31)).toInt32) &&& (1431655765 : Int32))) &&& (858993459 : Int32)) + ((((p0 - (((p0.toUInt32 >>> ((1 : Int32).toUInt32 &&& Int32.toUInt32 31)).toInt32) &&& (1431655765 : Int32))).toUInt32 >>> ((2 : Int32).toUInt32 &&& Int32.toUInt32 31)).toInt32) &&& (858993459 : Int32))).toUInt32 >>> ((4 : Int32).toUInt32 &&& Int32.toUInt32 31)).toInt32)) &&& (252645135 : Int32)).toUInt32 >>> ((8 : Int32).toUInt32 &&& Int32.toUInt32 31)).toInt32)).toUInt32 >>> ((16 : Int32).toUInt32 &&& Int32.toUInt32 31)).toInt32)))]) hx hb dJ6_bitCount_0f7a4_47 rfl hl (by decide) rfl (fun ls hl => ?_)
  refine lv_iload_n hx hb dJ6_bitCount_0f7a4_48 rfl (lv_at hl 0 rfl) ?_
  refine lv_bipush (v := (63 : Int32)) hx hb dJ6_bitCount_0f7a4_49 (by decide) ?_
  refine lv_iand hx hb dJ6_bitCount_0f7a4_51 ?_
  have hf := Option.some.inj hf
  subst hf
  subst hQ
  exact g_iret C0 hG hr dJ6_bitCount_0f7a4_52
theorem dX7_mean_0 : decode cX7_mean 0 = .ok (.iload_n 1, 1) := by decide +kernel
theorem dX7_mean_1 : decode cX7_mean 1 = .ok (.bipush 30, 2) := by decide +kernel
theorem dX7_mean_3 : decode cX7_mean 3 = .ok (.invokestatic 67, 3) := by decide +kernel
theorem dX7_mean_6 : decode cX7_mean 6 = .ok (.ifCond .eq 22, 3) := by decide +kernel
theorem dX7_mean_9 : decode cX7_mean 9 = .ok (.iload_n 2, 1) := by decide +kernel
theorem dX7_mean_10 : decode cX7_mean 10 = .ok (.iconst 2, 1) := by decide +kernel
theorem dX7_mean_11 : decode cX7_mean 11 = .ok (.invokestatic 63, 3) := by decide +kernel
theorem dX7_mean_14 : decode cX7_mean 14 = .ok (.ifCond .eq 14, 3) := by decide +kernel
theorem dX7_mean_17 : decode cX7_mean 17 = .ok (.aload_n 0, 1) := by decide +kernel
theorem dX7_mean_18 : decode cX7_mean 18 = .ok (.getfield 12, 3) := by decide +kernel
theorem dX7_mean_21 : decode cX7_mean 21 = .ok (.getfield 175, 3) := by decide +kernel
theorem dX7_mean_24 : decode cX7_mean 24 = .ok (.iconst 1, 1) := by decide +kernel
theorem dX7_mean_25 : decode cX7_mean 25 = .ok (.if_icmp .ge 7, 3) := by decide +kernel
theorem dX7_mean_28 : decode cX7_mean 28 = .ok (.ldc2_w 194, 3) := by decide +kernel
theorem dX7_mean_31 : decode cX7_mean 31 = .ok (.lreturn, 1) := by decide +kernel
theorem dX7_mean_32 : decode cX7_mean 32 = .ok (.aload_n 0, 1) := by decide +kernel
theorem dX7_mean_33 : decode cX7_mean 33 = .ok (.getfield 18, 3) := by decide +kernel
theorem dX7_mean_36 : decode cX7_mean 36 = .ok (.aload_n 0, 1) := by decide +kernel
theorem dX7_mean_37 : decode cX7_mean 37 = .ok (.getfield 12, 3) := by decide +kernel
theorem dX7_mean_40 : decode cX7_mean 40 = .ok (.invokevirtual 168, 3) := by decide +kernel
theorem dX7_mean_43 : decode cX7_mean 43 = .ok (.aload_n 0, 1) := by decide +kernel
theorem dX7_mean_44 : decode cX7_mean 44 = .ok (.getfield 18, 3) := by decide +kernel
theorem dX7_mean_47 : decode cX7_mean 47 = .ok (.iload_n 1, 1) := by decide +kernel
theorem dX7_mean_48 : decode cX7_mean 48 = .ok (.invokevirtual 164, 3) := by decide +kernel
theorem dX7_mean_51 : decode cX7_mean 51 = .ok (.iconst 0, 1) := by decide +kernel
theorem dX7_mean_52 : decode cX7_mean 52 = .ok (.istore_n 3, 1) := by decide +kernel
theorem dX7_mean_53 : decode cX7_mean 53 = .ok (.iconst 0, 1) := by decide +kernel
theorem dX7_mean_54 : decode cX7_mean 54 = .ok (.istore 4, 2) := by decide +kernel
theorem dX7_mean_56 : decode cX7_mean 56 = .ok (.iload 4, 2) := by decide +kernel
theorem dX7_mean_58 : decode cX7_mean 58 = .ok (.aload_n 0, 1) := by decide +kernel
theorem dX7_mean_59 : decode cX7_mean 59 = .ok (.getfield 18, 3) := by decide +kernel
theorem dX7_mean_62 : decode cX7_mean 62 = .ok (.getfield 175, 3) := by decide +kernel
theorem dX7_mean_65 : decode cX7_mean 65 = .ok (.if_icmp .ge 25, 3) := by decide +kernel
theorem dX7_mean_68 : decode cX7_mean 68 = .ok (.iload_n 3, 1) := by decide +kernel
theorem dX7_mean_69 : decode cX7_mean 69 = .ok (.aload_n 0, 1) := by decide +kernel
theorem dX7_mean_70 : decode cX7_mean 70 = .ok (.getfield 18, 3) := by decide +kernel
theorem dX7_mean_73 : decode cX7_mean 73 = .ok (.getfield 88, 3) := by decide +kernel
theorem dX7_mean_76 : decode cX7_mean 76 = .ok (.iload 4, 2) := by decide +kernel
theorem dX7_mean_78 : decode cX7_mean 78 = .ok (.iaload, 1) := by decide +kernel
theorem dX7_mean_79 : decode cX7_mean 79 = .ok (.invokestatic 200, 3) := by decide +kernel
theorem dX7_mean_82 : decode cX7_mean 82 = .ok (.iadd, 1) := by decide +kernel
theorem dX7_mean_83 : decode cX7_mean 83 = .ok (.istore_n 3, 1) := by decide +kernel
theorem dX7_mean_84 : decode cX7_mean 84 = .ok (.iinc 4 1, 3) := by decide +kernel
theorem dX7_mean_87 : decode cX7_mean 87 = .ok (.goto (-31), 3) := by decide +kernel
theorem dX7_mean_90 : decode cX7_mean 90 = .ok (.iload_n 3, 1) := by decide +kernel
theorem dX7_mean_91 : decode cX7_mean 91 = .ok (.aload_n 0, 1) := by decide +kernel
theorem dX7_mean_92 : decode cX7_mean 92 = .ok (.getfield 18, 3) := by decide +kernel
theorem dX7_mean_95 : decode cX7_mean 95 = .ok (.getfield 175, 3) := by decide +kernel
theorem dX7_mean_98 : decode cX7_mean 98 = .ok (.iload_n 2, 1) := by decide +kernel
theorem dX7_mean_99 : decode cX7_mean 99 = .ok (.invokestatic 196, 3) := by decide +kernel
theorem dX7_mean_102 : decode cX7_mean 102 = .ok (.lreturn, 1) := by decide +kernel
def f_X7_mean_L56 (u7 : Mem) (p2 : Int32) (x3_8 : Int32) (x4_8 : Int32) : Option ((Int32 × Int32) ⊕ (Int64 × Mem)) := (if (gI u7 13 9) ≤ x4_8 then Option.bind (f_X7_ofFraction x3_8 (gI u7 13 9) p2) (fun r10 => some (Sum.inr (r10, u7))) else gin x4_8 6 (Option.bind (f_J6_bitCount_0f7a4 (gA u7 19 x4_8.toNatClampNeg)) (fun r12 => some (Sum.inl (x3_8 + r12, x4_8 + (1 : Int32))))))
def f_X7_mean (p1 : Int32) (p2 : Int32) (u : Mem) : Option (Int64 × Mem) := Option.bind (f_X7_isUpTo p1 (30 : Int32)) (fun r1 => (if r1 = 0 then some ((-9223372036854775808 : Int64), u) else Option.bind (f_X7_isWithin p2 (2 : Int32)) (fun r3 => (if r3 = 0 then some ((-9223372036854775808 : Int64), u) else (if (1 : Int32) ≤ (gI u 1 9) then obind (f_X6_becomeLike 13 1 u) (fun _ u6 => obind (f_X6_ride 13 p1 u6) (fun _ u7 => whileO (fun s => f_X7_mean_L56 u7 p2 s.1 s.2) FUEL ((0 : Int32), (0 : Int32)))) else some ((-9223372036854775808 : Int64), u))))))
set_option maxHeartbeats 4000000 in
set_option maxRecDepth 100000 in
theorem k_X7_mean (l : Launch) (D : gDt) (base : Nat) (Z : gZt) (u : Mem) (p1 : Int32) (p2 : Int32) (r : Int64) (u' : Mem) (hf : f_X7_mean p1 p2 u = some (r, u')) : Met l yX7_mean (gws yX7_mean cX7_mean 5 (some .long)) (gRm 7 0 0) (gPc D base Z u [.ref (base + 0), .int p1, .int p2]) (gQl D base r u') 0 0 (gF base) := by
  refine Met.ofW (cc := cX7_mean) (maxL := 5) (ret := some .long) (by decide) rfl ?_
  intro p e s m args below meth c s₁ B hml hv
  obtain ⟨rfl, C0, hG⟩ := g_enter B hml hv
  have hr := B.returns
  have C0 : gC p s m meth c _ cX7_mean 5 RX7 D base Z := C0
  have hx := C0.1
  have hb := C0.2.1
  have hl := lv_entry ([.ref (base + 0), .int p1, .int p2]) (n := 5) (Nat.le_of_ble_eq_true rfl)
  rw [lg_entry_eq]
  generalize (lg_sl ([.ref (base + 0), .int p1, .int p2]) ++ List.replicate (5 - (lg_sl ([.ref (base + 0), .int p1, .int p2])).length) Slot.unset).toArray = ls at hl ⊢
  have hl : lv_has ls 5 [(0, .ref (base + 0)), (1, .int p1), (2, .int p2)] := hl
  obtain ⟨Q, hQ⟩ : ∃ Q, Q = MQ below (gQl D base r u') ([.ref (base + 0), .int p1, .int p2] : List Value).toArray s 0 0 (gF base) := ⟨_, rfl⟩
  rw [← hQ]
  change W p l e (gRm 7 0 0) s m _ below meth c _ _ _ _ _ _
  unfold f_X7_mean at hf
  refine lv_iload_n hx hb dX7_mean_0 rfl (lv_at hl 1 rfl) ?_
  refine lv_bipush (v := (30 : Int32)) hx hb dX7_mean_1 (by decide) ?_
  obtain ⟨r1, hc1, hf⟩ := pb_s hf
  refine g_doI0 hG (g_runS C0 hG (k_X7_isUpTo l D base Z u p1 (30 : Int32) r1 hc1) m_X7_isUpTo s_X7_isUpTo w_367 (by decide) rfl hl.1 rfl (Nat.le_of_ble_eq_true rfl) dX7_mean_3 ⟨Nat.zero_le _, Nat.zero_le _⟩) (fun H locs hG hk => ?_)
  refine lv_if_eq (tgt := 28) hx hb dX7_mean_6 (by decide) (fun c2 => ?_) (fun c2 => ?_)
  · have hf := gif_t c2 hf
    refine lv_ldc2 (v := (-9223372036854775808 : Int64)) hx hb C0.2.2.2.1 (C0.2.2.2.2.1 _ w_712) dX7_mean_28 ?_
    obtain ⟨hr1, hu⟩ := gret_s hf
    subst hr1
    subst hu
    subst hQ
    exact g_lret C0 hG hr dX7_mean_31
  · have hf := gif_f c2 hf
    refine lv_iload_n hx hb dX7_mean_9 rfl (lv_at hl 2 rfl) ?_
    refine lv_iconst (v := (2 : Int32)) hx hb dX7_mean_10 (by decide) ?_
    obtain ⟨r3, hc3, hf⟩ := pb_s hf
    refine g_doI0 hG (g_runS C0 hG (k_X7_isWithin l D base Z u p2 (2 : Int32) r3 hc3) m_X7_isWithin s_X7_isWithin w_364 (by decide) rfl hl.1 rfl (Nat.le_of_ble_eq_true rfl) dX7_mean_11 ⟨Nat.zero_le _, Nat.zero_le _⟩) (fun H locs hG hk => ?_)
    refine lv_if_eq (tgt := 28) hx hb dX7_mean_14 (by decide) (fun c4 => ?_) (fun c4 => ?_)
    · have hf := gif_t c4 hf
      refine lv_ldc2 (v := (-9223372036854775808 : Int64)) hx hb C0.2.2.2.1 (C0.2.2.2.2.1 _ w_712) dX7_mean_28 ?_
      obtain ⟨hr1, hu⟩ := gret_s hf
      subst hr1
      subst hu
      subst hQ
      exact g_lret C0 hG hr dX7_mean_31
    · have hf := gif_f c4 hf
      refine lv_aload_n hx hb dX7_mean_17 rfl (lv_at hl 0 rfl) ?_
      refine g_getSa (o := 1) (a := 1) C0 hG (L0 hG) rfl 0 (by decide) rfl rfl w_329 dX7_mean_18 ?_
      refine g_getIN C0 hG (L1 hG) rfl 9 (by decide) rfl w_172 dX7_mean_21 ?_
      refine lv_iconst (v := (1 : Int32)) hx hb dX7_mean_24 (by decide) ?_
      refine lv_icmp_ge (tgt := 32) hx hb dX7_mean_25 (by decide) (fun c5 => ?_) (fun c5 => ?_)
      · have hf := gif_t c5 hf
        refine lv_aload_n hx hb dX7_mean_32 rfl (lv_at hl 0 rfl) ?_
        refine g_getSa (o := 13) (a := 13) C0 hG (L0 hG) rfl 1 (by decide) rfl rfl w_330 dX7_mean_33 ?_
        refine lv_aload_n hx hb dX7_mean_36 rfl (lv_at hl 0 rfl) ?_
        refine g_getSa (o := 1) (a := 1) C0 hG (L0 hG) rfl 0 (by decide) rfl rfl w_329 dX7_mean_37 ?_
        obtain ⟨_, u6, hc6, hf⟩ := obind_s hf
        refine g_doV0 hG (g_runVN C0 hG (k_X6_becomeLike l D base Z u 13 1 u6 O13 O1 hc6) m_X6_becomeLike v_X6_becomeLike w_663 (by decide) (g_recv C0 hG (L13 hG) rfl) rfl hl.1 rfl (Nat.le_of_ble_eq_true rfl) dX7_mean_40 ⟨Nat.zero_le _, Nat.zero_le _⟩) (fun H locs hG hk => ?_)
        refine lv_aload_n hx hb dX7_mean_43 rfl (lv_at hl 0 rfl) ?_
        refine g_getSa (o := 13) (a := 13) C0 hG (L0 hG) rfl 1 (by decide) rfl rfl w_330 dX7_mean_44 ?_
        refine lv_iload_n hx hb dX7_mean_47 rfl (lv_at hl 1 rfl) ?_
        obtain ⟨_, u7, hc7, hf⟩ := obind_s hf
        refine g_doV0 hG (g_runVN C0 hG (k_X6_ride l D base Z u6 13 p1 u7 O13 hc7) m_X6_ride v_X6_ride w_644 (by decide) (g_recv C0 hG (L13 hG) rfl) rfl hl.1 rfl (Nat.le_of_ble_eq_true rfl) dX7_mean_48 ⟨Nat.zero_le _, Nat.zero_le _⟩) (fun H locs hG hk => ?_)
        refine lv_iconst (v := (0 : Int32)) hx hb dX7_mean_51 (by decide) ?_
        refine lv_istore_n (lv' := [(3, .int (0 : Int32)), (0, .ref (base + 0)), (1, .int p1), (2, .int p2)]) hx hb dX7_mean_52 rfl hl (by decide) rfl (fun ls hl => ?_)
        refine lv_iconst (v := (0 : Int32)) hx hb dX7_mean_53 (by decide) ?_
        refine lv_istore (lv' := [(4, .int (0 : Int32)), (3, .int (0 : Int32)), (0, .ref (base + 0)), (1, .int p1), (2, .int p2)]) hx hb dX7_mean_54 hl (by decide) rfl (fun ls hl => ?_)
        have loop8 : ∀ (n8 : Nat) (x3_8 : Int32) (x4_8 : Int32) (H : Heap) (locs : List Loc) (ls : Array Slot), gH D base s u7 H locs → lv_has ls 5 [(0, .ref (base + 0)), (2, .int p2), (3, .int x3_8), (4, .int x4_8)] → whileO (fun s => f_X7_mean_L56 u7 p2 s.1 s.2) n8 (x3_8, x4_8) = some (r, u') → W p l e (gRm 7 0 0) s m ([.ref (base + 0), .int p1, .int p2] : List Value).toArray below meth c H locs 0 0 Q (F0 m 56 ls []) := by
          intro n8
          induction n8 with
          | zero => intro x3_8 x4_8 H locs ls hG hl hf; cases hf
          | succ n8 ih8 =>
            intro x3_8 x4_8 H locs ls hG hl hf
            obtain ⟨X8, hf, hX8⟩ := while_s hf
            have hf : f_X7_mean_L56 u7 p2 x3_8 x4_8 = some X8 := hf
            unfold f_X7_mean_L56 at hf
            refine lv_iload hx hb dX7_mean_56 (lv_at hl 3 rfl) ?_
            refine lv_aload_n hx hb dX7_mean_58 rfl (lv_at hl 0 rfl) ?_
            refine g_getSa (o := 13) (a := 13) C0 hG (L0 hG) rfl 1 (by decide) rfl rfl w_330 dX7_mean_59 ?_
            refine g_getIN C0 hG (L13 hG) rfl 9 (by decide) rfl w_172 dX7_mean_62 ?_
            refine lv_icmp_ge (tgt := 90) hx hb dX7_mean_65 (by decide) (fun c9 => ?_) (fun c9 => ?_)
            · have hf := gif_t c9 hf
              refine lv_iload_n hx hb dX7_mean_90 rfl (lv_at hl 2 rfl) ?_
              refine lv_aload_n hx hb dX7_mean_91 rfl (lv_at hl 0 rfl) ?_
              refine g_getSa (o := 13) (a := 13) C0 hG (L0 hG) rfl 1 (by decide) rfl rfl w_330 dX7_mean_92 ?_
              refine g_getIN C0 hG (L13 hG) rfl 9 (by decide) rfl w_172 dX7_mean_95 ?_
              refine lv_iload_n hx hb dX7_mean_98 rfl (lv_at hl 1 rfl) ?_
              obtain ⟨r10, hc10, hf⟩ := pb_s hf
              refine g_doL0 hG (g_runS C0 hG (k_X7_ofFraction l D base Z u7 x3_8 (gI u7 13 9) p2 r10 hc10) m_X7_ofFraction s_X7_ofFraction w_713 (by decide) rfl hl.1 rfl (Nat.le_of_ble_eq_true rfl) dX7_mean_99 ⟨Nat.zero_le _, Nat.zero_le _⟩) (fun H locs hG hk => ?_)
              have hf := while_r hX8 hf
              obtain ⟨hr1, hu⟩ := gret_s hf
              subst hr1
              subst hu
              subst hQ
              exact g_lret C0 hG hr dX7_mean_102
            · have hf := gif_f c9 hf
              refine lv_iload_n hx hb dX7_mean_68 rfl (lv_at hl 2 rfl) ?_
              refine lv_aload_n hx hb dX7_mean_69 rfl (lv_at hl 0 rfl) ?_
              refine g_getSa (o := 13) (a := 13) C0 hG (L0 hG) rfl 1 (by decide) rfl rfl w_330 dX7_mean_70 ?_
              refine g_getSaN (o := 6) (a := 19) C0 hG (L13 hG) rfl 5 (by decide) rfl rfl w_165 dX7_mean_73 ?_
              refine lv_iload hx hb dX7_mean_76 (lv_at hl 3 rfl) ?_
              obtain ⟨h11, hf⟩ := gin_s hf
              refine g_iald C0 hG (L19 hG) h11 dX7_mean_78 ?_
              obtain ⟨r12, hc12, hf⟩ := pb_s hf
              refine g_doI0 hG (g_runS C0 hG (k_J6_bitCount_0f7a4 l D base Z u7 (gA u7 19 x4_8.toNatClampNeg) r12 hc12) m_J6_bitCount_0f7a4 s_J6_bitCount_0f7a4 w_720 (by decide) rfl hl.1 rfl (Nat.le_of_ble_eq_true rfl) dX7_mean_79 ⟨Nat.zero_le _, Nat.zero_le _⟩) (fun H locs hG hk => ?_)
              refine lv_iadd hx hb dX7_mean_82 ?_
              refine lv_istore_n (lv' := [(3, .int (x3_8 + r12)), (0, .ref (base + 0)), (2, .int p2), (4, .int x4_8)]) hx hb dX7_mean_83 rfl hl (by decide) rfl (fun ls hl => ?_)
              refine lv_iinc (v := x4_8 + (1 : Int32)) (lv' := [(4, .int (x4_8 + (1 : Int32))), (3, .int (x3_8 + r12)), (0, .ref (base + 0)), (2, .int p2)]) hx hb dX7_mean_84 hl (k := 3) rfl rfl (by decide) rfl (fun ls hl => ?_)
              refine lv_goto (tgt := 56) hx hb dX7_mean_87 (by decide) ?_
              have hf := while_l hX8 hf
              exact ih8 (x3_8 + r12) (x4_8 + (1 : Int32)) _ _ ls hG (lv_sub hl [2, 3, 1, 0] rfl) hf
        exact loop8 FUEL (0 : Int32) (0 : Int32) _ _ ls hG (lv_sub hl [2, 4, 1, 0] rfl) hf
      · have hf := gif_f c5 hf
        refine lv_ldc2 (v := (-9223372036854775808 : Int64)) hx hb C0.2.2.2.1 (C0.2.2.2.2.1 _ w_712) dX7_mean_28 ?_
        obtain ⟨hr1, hu⟩ := gret_s hf
        subst hr1
        subst hu
        subst hQ
        exact g_lret C0 hG hr dX7_mean_31
theorem dX7_plan_0 : decode cX7_plan 0 = .ok (.iload_n 1, 1) := by decide +kernel
theorem dX7_plan_1 : decode cX7_plan 1 = .ok (.iconst (-1), 1) := by decide +kernel
theorem dX7_plan_2 : decode cX7_plan 2 = .ok (.if_icmp .ne 14, 3) := by decide +kernel
theorem dX7_plan_5 : decode cX7_plan 5 = .ok (.aload_n 0, 1) := by decide +kernel
theorem dX7_plan_6 : decode cX7_plan 6 = .ok (.getfield 27, 3) := by decide +kernel
theorem dX7_plan_9 : decode cX7_plan 9 = .ok (.getfield 205, 3) := by decide +kernel
theorem dX7_plan_12 : decode cX7_plan 12 = .ok (.invokevirtual 182, 3) := by decide +kernel
theorem dX7_plan_15 : decode cX7_plan 15 = .ok (.ireturn, 1) := by decide +kernel
theorem dX7_plan_16 : decode cX7_plan 16 = .ok (.iload_n 2, 1) := by decide +kernel
theorem dX7_plan_17 : decode cX7_plan 17 = .ok (.istore_n 3, 1) := by decide +kernel
theorem dX7_plan_18 : decode cX7_plan 18 = .ok (.iconst 0, 1) := by decide +kernel
theorem dX7_plan_19 : decode cX7_plan 19 = .ok (.istore 4, 2) := by decide +kernel
theorem dX7_plan_21 : decode cX7_plan 21 = .ok (.iload_n 1, 1) := by decide +kernel
theorem dX7_plan_22 : decode cX7_plan 22 = .ok (.iconst 3, 1) := by decide +kernel
theorem dX7_plan_23 : decode cX7_plan 23 = .ok (.if_icmp .ne 18, 3) := by decide +kernel
theorem dX7_plan_26 : decode cX7_plan 26 = .ok (.iload_n 2, 1) := by decide +kernel
theorem dX7_plan_27 : decode cX7_plan 27 = .ok (.ifCond .lt 14, 3) := by decide +kernel
theorem dX7_plan_30 : decode cX7_plan 30 = .ok (.iload_n 2, 1) := by decide +kernel
theorem dX7_plan_31 : decode cX7_plan 31 = .ok (.bipush 10, 2) := by decide +kernel
theorem dX7_plan_33 : decode cX7_plan 33 = .ok (.idiv, 1) := by decide +kernel
theorem dX7_plan_34 : decode cX7_plan 34 = .ok (.istore_n 3, 1) := by decide +kernel
theorem dX7_plan_35 : decode cX7_plan 35 = .ok (.iload_n 2, 1) := by decide +kernel
theorem dX7_plan_36 : decode cX7_plan 36 = .ok (.bipush 10, 2) := by decide +kernel
theorem dX7_plan_38 : decode cX7_plan 38 = .ok (.irem, 1) := by decide +kernel
theorem dX7_plan_39 : decode cX7_plan 39 = .ok (.istore 4, 2) := by decide +kernel
theorem dX7_plan_41 : decode cX7_plan 41 = .ok (.iload_n 1, 1) := by decide +kernel
theorem dX7_plan_42 : decode cX7_plan 42 = .ok (.iconst 4, 1) := by decide +kernel
theorem dX7_plan_43 : decode cX7_plan 43 = .ok (.invokestatic 63, 3) := by decide +kernel
theorem dX7_plan_46 : decode cX7_plan 46 = .ok (.ifCond .eq 24, 3) := by decide +kernel
theorem dX7_plan_49 : decode cX7_plan 49 = .ok (.iload_n 1, 1) := by decide +kernel
theorem dX7_plan_50 : decode cX7_plan 50 = .ok (.ifCond .eq 11, 3) := by decide +kernel
theorem dX7_plan_53 : decode cX7_plan 53 = .ok (.aload_n 0, 1) := by decide +kernel
theorem dX7_plan_54 : decode cX7_plan 54 = .ok (.iload_n 3, 1) := by decide +kernel
theorem dX7_plan_55 : decode cX7_plan 55 = .ok (.invokevirtual 74, 3) := by decide +kernel
theorem dX7_plan_58 : decode cX7_plan 58 = .ok (.ifCond .eq 12, 3) := by decide +kernel
theorem dX7_plan_61 : decode cX7_plan 61 = .ok (.iload 4, 2) := by decide +kernel
theorem dX7_plan_63 : decode cX7_plan 63 = .ok (.iconst 4, 1) := by decide +kernel
theorem dX7_plan_64 : decode cX7_plan 64 = .ok (.invokestatic 63, 3) := by decide +kernel
theorem dX7_plan_67 : decode cX7_plan 67 = .ok (.ifCond .ne 5, 3) := by decide +kernel
theorem dX7_plan_70 : decode cX7_plan 70 = .ok (.iconst (-1), 1) := by decide +kernel
theorem dX7_plan_71 : decode cX7_plan 71 = .ok (.ireturn, 1) := by decide +kernel
theorem dX7_plan_72 : decode cX7_plan 72 = .ok (.aload_n 0, 1) := by decide +kernel
theorem dX7_plan_73 : decode cX7_plan 73 = .ok (.getfield 27, 3) := by decide +kernel
theorem dX7_plan_76 : decode cX7_plan 76 = .ok (.getfield 205, 3) := by decide +kernel
theorem dX7_plan_79 : decode cX7_plan 79 = .ok (.iload_n 1, 1) := by decide +kernel
theorem dX7_plan_80 : decode cX7_plan 80 = .ok (.iload_n 3, 1) := by decide +kernel
theorem dX7_plan_81 : decode cX7_plan 81 = .ok (.iload 4, 2) := by decide +kernel
theorem dX7_plan_83 : decode cX7_plan 83 = .ok (.invokevirtual 187, 3) := by decide +kernel
theorem dX7_plan_86 : decode cX7_plan 86 = .ok (.ireturn, 1) := by decide +kernel
def f_X7_plan (p1 : Int32) (p2 : Int32) (u : Mem) : Option (Int32 × Mem) := (if p1 = (-1 : Int32) then obind (f_X2_clear 42 u) (fun r37 u37 => some (r37, u37)) else (if p1 = (3 : Int32) then (if p2 < 0 then Option.bind (f_X7_isWithin p1 (4 : Int32)) (fun r15 => (if r15 = 0 then some ((-1 : Int32), u) else (if p1 = 0 then Option.bind (f_X7_isWithin (0 : Int32) (4 : Int32)) (fun r18 => (if r18 = 0 then some ((-1 : Int32), u) else obind (f_X2_append 42 p1 p2 (0 : Int32) u) (fun r20 u20 => some (r20, u20)))) else Option.bind (f_X7_isPerson p2 u) (fun r21 => (if r21 = 0 then some ((-1 : Int32), u) else Option.bind (f_X7_isWithin (0 : Int32) (4 : Int32)) (fun r23 => (if r23 = 0 then some ((-1 : Int32), u) else obind (f_X2_append 42 p1 p2 (0 : Int32) u) (fun r25 u25 => some (r25, u25))))))))) else Option.bind (f_X7_isWithin p1 (4 : Int32)) (fun r26 => (if r26 = 0 then some ((-1 : Int32), u) else (if p1 = 0 then Option.bind (f_X7_isWithin (p2 - p2 / (10 : Int32) * (10 : Int32)) (4 : Int32)) (fun r29 => (if r29 = 0 then some ((-1 : Int32), u) else obind (f_X2_append 42 p1 (p2 / (10 : Int32)) (p2 - p2 / (10 : Int32) * (10 : Int32)) u) (fun r31 u31 => some (r31, u31)))) else Option.bind (f_X7_isPerson (p2 / (10 : Int32)) u) (fun r32 => (if r32 = 0 then some ((-1 : Int32), u) else Option.bind (f_X7_isWithin (p2 - p2 / (10 : Int32) * (10 : Int32)) (4 : Int32)) (fun r34 => (if r34 = 0 then some ((-1 : Int32), u) else obind (f_X2_append 42 p1 (p2 / (10 : Int32)) (p2 - p2 / (10 : Int32) * (10 : Int32)) u) (fun r36 u36 => some (r36, u36)))))))))) else Option.bind (f_X7_isWithin p1 (4 : Int32)) (fun r3 => (if r3 = 0 then some ((-1 : Int32), u) else (if p1 = 0 then Option.bind (f_X7_isWithin (0 : Int32) (4 : Int32)) (fun r6 => (if r6 = 0 then some ((-1 : Int32), u) else obind (f_X2_append 42 p1 p2 (0 : Int32) u) (fun r8 u8 => some (r8, u8)))) else Option.bind (f_X7_isPerson p2 u) (fun r9 => (if r9 = 0 then some ((-1 : Int32), u) else Option.bind (f_X7_isWithin (0 : Int32) (4 : Int32)) (fun r11 => (if r11 = 0 then some ((-1 : Int32), u) else obind (f_X2_append 42 p1 p2 (0 : Int32) u) (fun r13 u13 => some (r13, u13)))))))))))
set_option maxHeartbeats 4000000 in
set_option maxRecDepth 100000 in
theorem k_X7_plan (l : Launch) (D : gDt) (base : Nat) (Z : gZt) (u : Mem) (p1 : Int32) (p2 : Int32) (r : Int32) (u' : Mem) (hf : f_X7_plan p1 p2 u = some (r, u')) : Met l yX7_plan (gws yX7_plan cX7_plan 5 (some .int)) (gRm 3 0 0) (gPc D base Z u [.ref (base + 0), .int p1, .int p2]) (gQi D base r u') 0 0 (gF base) := by
  refine Met.ofW (cc := cX7_plan) (maxL := 5) (ret := some .int) (by decide) rfl ?_
  intro p e s m args below meth c s₁ B hml hv
  obtain ⟨rfl, C0, hG⟩ := g_enter B hml hv
  have hr := B.returns
  have C0 : gC p s m meth c _ cX7_plan 5 RX7 D base Z := C0
  have hx := C0.1
  have hb := C0.2.1
  have hl := lv_entry ([.ref (base + 0), .int p1, .int p2]) (n := 5) (Nat.le_of_ble_eq_true rfl)
  rw [lg_entry_eq]
  generalize (lg_sl ([.ref (base + 0), .int p1, .int p2]) ++ List.replicate (5 - (lg_sl ([.ref (base + 0), .int p1, .int p2])).length) Slot.unset).toArray = ls at hl ⊢
  have hl : lv_has ls 5 [(0, .ref (base + 0)), (1, .int p1), (2, .int p2)] := hl
  obtain ⟨Q, hQ⟩ : ∃ Q, Q = MQ below (gQi D base r u') ([.ref (base + 0), .int p1, .int p2] : List Value).toArray s 0 0 (gF base) := ⟨_, rfl⟩
  rw [← hQ]
  change W p l e (gRm 3 0 0) s m _ below meth c _ _ _ _ _ _
  unfold f_X7_plan at hf
  refine lv_iload_n hx hb dX7_plan_0 rfl (lv_at hl 1 rfl) ?_
  refine lv_iconst (v := (-1 : Int32)) hx hb dX7_plan_1 (by decide) ?_
  refine lv_icmp_ne (tgt := 16) hx hb dX7_plan_2 (by decide) (fun c1 => ?_) (fun c1 => ?_)
  · have hf := gif_f c1 hf
    refine lv_iload_n hx hb dX7_plan_16 rfl (lv_at hl 2 rfl) ?_
    refine lv_istore_n (lv' := [(3, .int p2), (0, .ref (base + 0)), (1, .int p1), (2, .int p2)]) hx hb dX7_plan_17 rfl hl (by decide) rfl (fun ls hl => ?_)
    refine lv_iconst (v := (0 : Int32)) hx hb dX7_plan_18 (by decide) ?_
    refine lv_istore (lv' := [(4, .int (0 : Int32)), (3, .int p2), (0, .ref (base + 0)), (1, .int p1), (2, .int p2)]) hx hb dX7_plan_19 hl (by decide) rfl (fun ls hl => ?_)
    refine lv_iload_n hx hb dX7_plan_21 rfl (lv_at hl 3 rfl) ?_
    refine lv_iconst (v := (3 : Int32)) hx hb dX7_plan_22 (by decide) ?_
    refine lv_icmp_ne (tgt := 41) hx hb dX7_plan_23 (by decide) (fun c2 => ?_) (fun c2 => ?_)
    · have hf := gif_f c2 hf
      refine lv_iload_n hx hb dX7_plan_41 rfl (lv_at hl 3 rfl) ?_
      refine lv_iconst (v := (4 : Int32)) hx hb dX7_plan_42 (by decide) ?_
      obtain ⟨r3, hc3, hf⟩ := pb_s hf
      refine g_doI0 hG (g_runS C0 hG (k_X7_isWithin l D base Z u p1 (4 : Int32) r3 hc3) m_X7_isWithin s_X7_isWithin w_364 (by decide) rfl hl.1 rfl (Nat.le_of_ble_eq_true rfl) dX7_plan_43 ⟨Nat.zero_le _, Nat.zero_le _⟩) (fun H locs hG hk => ?_)
      refine lv_if_eq (tgt := 70) hx hb dX7_plan_46 (by decide) (fun c4 => ?_) (fun c4 => ?_)
      · have hf := gif_t c4 hf
        refine lv_iconst (v := (-1 : Int32)) hx hb dX7_plan_70 (by decide) ?_
        obtain ⟨hr1, hu⟩ := gret_s hf
        subst hr1
        subst hu
        subst hQ
        exact g_iret C0 hG hr dX7_plan_71
      · have hf := gif_f c4 hf
        refine lv_iload_n hx hb dX7_plan_49 rfl (lv_at hl 3 rfl) ?_
        refine lv_if_eq (tgt := 61) hx hb dX7_plan_50 (by decide) (fun c5 => ?_) (fun c5 => ?_)
        · have hf := gif_t c5 hf
          refine lv_iload hx hb dX7_plan_61 (lv_at hl 0 rfl) ?_
          refine lv_iconst (v := (4 : Int32)) hx hb dX7_plan_63 (by decide) ?_
          obtain ⟨r6, hc6, hf⟩ := pb_s hf
          refine g_doI0 hG (g_runS C0 hG (k_X7_isWithin l D base Z u (0 : Int32) (4 : Int32) r6 hc6) m_X7_isWithin s_X7_isWithin w_364 (by decide) rfl hl.1 rfl (Nat.le_of_ble_eq_true rfl) dX7_plan_64 ⟨Nat.zero_le _, Nat.zero_le _⟩) (fun H locs hG hk => ?_)
          refine lv_if_ne (tgt := 72) hx hb dX7_plan_67 (by decide) (fun c7 => ?_) (fun c7 => ?_)
          · have hf := gif_f c7 hf
            refine lv_aload_n hx hb dX7_plan_72 rfl (lv_at hl 2 rfl) ?_
            refine g_getSa (o := 37) (a := 37) C0 hG (L0 hG) rfl 3 (by decide) rfl rfl w_332 dX7_plan_73 ?_
            refine g_getSaN (o := 5) (a := 42) C0 hG (L37 hG) rfl 1 (by decide) rfl rfl w_248 dX7_plan_76 ?_
            refine lv_iload_n hx hb dX7_plan_79 rfl (lv_at hl 3 rfl) ?_
            refine lv_iload_n hx hb dX7_plan_80 rfl (lv_at hl 1 rfl) ?_
            refine lv_iload hx hb dX7_plan_81 (lv_at hl 0 rfl) ?_
            obtain ⟨r8, u8, hc8, hf⟩ := obind_s hf
            refine g_doI0 hG (g_runVN C0 hG (k_X2_append l D base Z u 42 p1 p2 (0 : Int32) r8 u8 O42 hc8) m_X2_append v_X2_append w_695 (by decide) (g_recv C0 hG (L42 hG) rfl) rfl hl.1 rfl (Nat.le_of_ble_eq_true rfl) dX7_plan_83 ⟨Nat.zero_le _, Nat.zero_le _⟩) (fun H locs hG hk => ?_)
            obtain ⟨hr1, hu⟩ := gret_s hf
            subst hr1
            subst hu
            subst hQ
            exact g_iret C0 hG hr dX7_plan_86
          · have hf := gif_t c7 hf
            refine lv_iconst (v := (-1 : Int32)) hx hb dX7_plan_70 (by decide) ?_
            obtain ⟨hr1, hu⟩ := gret_s hf
            subst hr1
            subst hu
            subst hQ
            exact g_iret C0 hG hr dX7_plan_71
        · have hf := gif_f c5 hf
          refine lv_aload_n hx hb dX7_plan_53 rfl (lv_at hl 2 rfl) ?_
          refine lv_iload_n hx hb dX7_plan_54 rfl (lv_at hl 1 rfl) ?_
          obtain ⟨r9, hc9, hf⟩ := pb_s hf
          refine g_doI0 hG (g_runV C0 hG (k_X7_isPerson l D base Z u p2 r9 hc9) m_X7_isPerson v_X7_isPerson w_378 (by decide) (g_recv C0 hG (L0 hG) rfl) rfl hl.1 rfl (Nat.le_of_ble_eq_true rfl) dX7_plan_55 ⟨Nat.zero_le _, Nat.zero_le _⟩) (fun H locs hG hk => ?_)
          refine lv_if_eq (tgt := 70) hx hb dX7_plan_58 (by decide) (fun c10 => ?_) (fun c10 => ?_)
          · have hf := gif_t c10 hf
            refine lv_iconst (v := (-1 : Int32)) hx hb dX7_plan_70 (by decide) ?_
            obtain ⟨hr1, hu⟩ := gret_s hf
            subst hr1
            subst hu
            subst hQ
            exact g_iret C0 hG hr dX7_plan_71
          · have hf := gif_f c10 hf
            refine lv_iload hx hb dX7_plan_61 (lv_at hl 0 rfl) ?_
            refine lv_iconst (v := (4 : Int32)) hx hb dX7_plan_63 (by decide) ?_
            obtain ⟨r11, hc11, hf⟩ := pb_s hf
            refine g_doI0 hG (g_runS C0 hG (k_X7_isWithin l D base Z u (0 : Int32) (4 : Int32) r11 hc11) m_X7_isWithin s_X7_isWithin w_364 (by decide) rfl hl.1 rfl (Nat.le_of_ble_eq_true rfl) dX7_plan_64 ⟨Nat.zero_le _, Nat.zero_le _⟩) (fun H locs hG hk => ?_)
            refine lv_if_ne (tgt := 72) hx hb dX7_plan_67 (by decide) (fun c12 => ?_) (fun c12 => ?_)
            · have hf := gif_f c12 hf
              refine lv_aload_n hx hb dX7_plan_72 rfl (lv_at hl 2 rfl) ?_
              refine g_getSa (o := 37) (a := 37) C0 hG (L0 hG) rfl 3 (by decide) rfl rfl w_332 dX7_plan_73 ?_
              refine g_getSaN (o := 5) (a := 42) C0 hG (L37 hG) rfl 1 (by decide) rfl rfl w_248 dX7_plan_76 ?_
              refine lv_iload_n hx hb dX7_plan_79 rfl (lv_at hl 3 rfl) ?_
              refine lv_iload_n hx hb dX7_plan_80 rfl (lv_at hl 1 rfl) ?_
              refine lv_iload hx hb dX7_plan_81 (lv_at hl 0 rfl) ?_
              obtain ⟨r13, u13, hc13, hf⟩ := obind_s hf
              refine g_doI0 hG (g_runVN C0 hG (k_X2_append l D base Z u 42 p1 p2 (0 : Int32) r13 u13 O42 hc13) m_X2_append v_X2_append w_695 (by decide) (g_recv C0 hG (L42 hG) rfl) rfl hl.1 rfl (Nat.le_of_ble_eq_true rfl) dX7_plan_83 ⟨Nat.zero_le _, Nat.zero_le _⟩) (fun H locs hG hk => ?_)
              obtain ⟨hr1, hu⟩ := gret_s hf
              subst hr1
              subst hu
              subst hQ
              exact g_iret C0 hG hr dX7_plan_86
            · have hf := gif_t c12 hf
              refine lv_iconst (v := (-1 : Int32)) hx hb dX7_plan_70 (by decide) ?_
              obtain ⟨hr1, hu⟩ := gret_s hf
              subst hr1
              subst hu
              subst hQ
              exact g_iret C0 hG hr dX7_plan_71
    · have hf := gif_t c2 hf
      refine lv_iload_n hx hb dX7_plan_26 rfl (lv_at hl 4 rfl) ?_
      refine lv_if_lt (tgt := 41) hx hb dX7_plan_27 (by decide) (fun c14 => ?_) (fun c14 => ?_)
      · have hf := gif_t c14 hf
        refine lv_iload_n hx hb dX7_plan_41 rfl (lv_at hl 3 rfl) ?_
        refine lv_iconst (v := (4 : Int32)) hx hb dX7_plan_42 (by decide) ?_
        obtain ⟨r15, hc15, hf⟩ := pb_s hf
        refine g_doI0 hG (g_runS C0 hG (k_X7_isWithin l D base Z u p1 (4 : Int32) r15 hc15) m_X7_isWithin s_X7_isWithin w_364 (by decide) rfl hl.1 rfl (Nat.le_of_ble_eq_true rfl) dX7_plan_43 ⟨Nat.zero_le _, Nat.zero_le _⟩) (fun H locs hG hk => ?_)
        refine lv_if_eq (tgt := 70) hx hb dX7_plan_46 (by decide) (fun c16 => ?_) (fun c16 => ?_)
        · have hf := gif_t c16 hf
          refine lv_iconst (v := (-1 : Int32)) hx hb dX7_plan_70 (by decide) ?_
          obtain ⟨hr1, hu⟩ := gret_s hf
          subst hr1
          subst hu
          subst hQ
          exact g_iret C0 hG hr dX7_plan_71
        · have hf := gif_f c16 hf
          refine lv_iload_n hx hb dX7_plan_49 rfl (lv_at hl 3 rfl) ?_
          refine lv_if_eq (tgt := 61) hx hb dX7_plan_50 (by decide) (fun c17 => ?_) (fun c17 => ?_)
          · have hf := gif_t c17 hf
            refine lv_iload hx hb dX7_plan_61 (lv_at hl 0 rfl) ?_
            refine lv_iconst (v := (4 : Int32)) hx hb dX7_plan_63 (by decide) ?_
            obtain ⟨r18, hc18, hf⟩ := pb_s hf
            refine g_doI0 hG (g_runS C0 hG (k_X7_isWithin l D base Z u (0 : Int32) (4 : Int32) r18 hc18) m_X7_isWithin s_X7_isWithin w_364 (by decide) rfl hl.1 rfl (Nat.le_of_ble_eq_true rfl) dX7_plan_64 ⟨Nat.zero_le _, Nat.zero_le _⟩) (fun H locs hG hk => ?_)
            refine lv_if_ne (tgt := 72) hx hb dX7_plan_67 (by decide) (fun c19 => ?_) (fun c19 => ?_)
            · have hf := gif_f c19 hf
              refine lv_aload_n hx hb dX7_plan_72 rfl (lv_at hl 2 rfl) ?_
              refine g_getSa (o := 37) (a := 37) C0 hG (L0 hG) rfl 3 (by decide) rfl rfl w_332 dX7_plan_73 ?_
              refine g_getSaN (o := 5) (a := 42) C0 hG (L37 hG) rfl 1 (by decide) rfl rfl w_248 dX7_plan_76 ?_
              refine lv_iload_n hx hb dX7_plan_79 rfl (lv_at hl 3 rfl) ?_
              refine lv_iload_n hx hb dX7_plan_80 rfl (lv_at hl 1 rfl) ?_
              refine lv_iload hx hb dX7_plan_81 (lv_at hl 0 rfl) ?_
              obtain ⟨r20, u20, hc20, hf⟩ := obind_s hf
              refine g_doI0 hG (g_runVN C0 hG (k_X2_append l D base Z u 42 p1 p2 (0 : Int32) r20 u20 O42 hc20) m_X2_append v_X2_append w_695 (by decide) (g_recv C0 hG (L42 hG) rfl) rfl hl.1 rfl (Nat.le_of_ble_eq_true rfl) dX7_plan_83 ⟨Nat.zero_le _, Nat.zero_le _⟩) (fun H locs hG hk => ?_)
              obtain ⟨hr1, hu⟩ := gret_s hf
              subst hr1
              subst hu
              subst hQ
              exact g_iret C0 hG hr dX7_plan_86
            · have hf := gif_t c19 hf
              refine lv_iconst (v := (-1 : Int32)) hx hb dX7_plan_70 (by decide) ?_
              obtain ⟨hr1, hu⟩ := gret_s hf
              subst hr1
              subst hu
              subst hQ
              exact g_iret C0 hG hr dX7_plan_71
          · have hf := gif_f c17 hf
            refine lv_aload_n hx hb dX7_plan_53 rfl (lv_at hl 2 rfl) ?_
            refine lv_iload_n hx hb dX7_plan_54 rfl (lv_at hl 1 rfl) ?_
            obtain ⟨r21, hc21, hf⟩ := pb_s hf
            refine g_doI0 hG (g_runV C0 hG (k_X7_isPerson l D base Z u p2 r21 hc21) m_X7_isPerson v_X7_isPerson w_378 (by decide) (g_recv C0 hG (L0 hG) rfl) rfl hl.1 rfl (Nat.le_of_ble_eq_true rfl) dX7_plan_55 ⟨Nat.zero_le _, Nat.zero_le _⟩) (fun H locs hG hk => ?_)
            refine lv_if_eq (tgt := 70) hx hb dX7_plan_58 (by decide) (fun c22 => ?_) (fun c22 => ?_)
            · have hf := gif_t c22 hf
              refine lv_iconst (v := (-1 : Int32)) hx hb dX7_plan_70 (by decide) ?_
              obtain ⟨hr1, hu⟩ := gret_s hf
              subst hr1
              subst hu
              subst hQ
              exact g_iret C0 hG hr dX7_plan_71
            · have hf := gif_f c22 hf
              refine lv_iload hx hb dX7_plan_61 (lv_at hl 0 rfl) ?_
              refine lv_iconst (v := (4 : Int32)) hx hb dX7_plan_63 (by decide) ?_
              obtain ⟨r23, hc23, hf⟩ := pb_s hf
              refine g_doI0 hG (g_runS C0 hG (k_X7_isWithin l D base Z u (0 : Int32) (4 : Int32) r23 hc23) m_X7_isWithin s_X7_isWithin w_364 (by decide) rfl hl.1 rfl (Nat.le_of_ble_eq_true rfl) dX7_plan_64 ⟨Nat.zero_le _, Nat.zero_le _⟩) (fun H locs hG hk => ?_)
              refine lv_if_ne (tgt := 72) hx hb dX7_plan_67 (by decide) (fun c24 => ?_) (fun c24 => ?_)
              · have hf := gif_f c24 hf
                refine lv_aload_n hx hb dX7_plan_72 rfl (lv_at hl 2 rfl) ?_
                refine g_getSa (o := 37) (a := 37) C0 hG (L0 hG) rfl 3 (by decide) rfl rfl w_332 dX7_plan_73 ?_
                refine g_getSaN (o := 5) (a := 42) C0 hG (L37 hG) rfl 1 (by decide) rfl rfl w_248 dX7_plan_76 ?_
                refine lv_iload_n hx hb dX7_plan_79 rfl (lv_at hl 3 rfl) ?_
                refine lv_iload_n hx hb dX7_plan_80 rfl (lv_at hl 1 rfl) ?_
                refine lv_iload hx hb dX7_plan_81 (lv_at hl 0 rfl) ?_
                obtain ⟨r25, u25, hc25, hf⟩ := obind_s hf
                refine g_doI0 hG (g_runVN C0 hG (k_X2_append l D base Z u 42 p1 p2 (0 : Int32) r25 u25 O42 hc25) m_X2_append v_X2_append w_695 (by decide) (g_recv C0 hG (L42 hG) rfl) rfl hl.1 rfl (Nat.le_of_ble_eq_true rfl) dX7_plan_83 ⟨Nat.zero_le _, Nat.zero_le _⟩) (fun H locs hG hk => ?_)
                obtain ⟨hr1, hu⟩ := gret_s hf
                subst hr1
                subst hu
                subst hQ
                exact g_iret C0 hG hr dX7_plan_86
              · have hf := gif_t c24 hf
                refine lv_iconst (v := (-1 : Int32)) hx hb dX7_plan_70 (by decide) ?_
                obtain ⟨hr1, hu⟩ := gret_s hf
                subst hr1
                subst hu
                subst hQ
                exact g_iret C0 hG hr dX7_plan_71
      · have hf := gif_f c14 hf
        refine lv_iload_n hx hb dX7_plan_30 rfl (lv_at hl 4 rfl) ?_
        refine lv_bipush (v := (10 : Int32)) hx hb dX7_plan_31 (by decide) ?_
        refine lv_idiv hx hb dX7_plan_33 (by decide) ?_
        refine lv_istore_n (lv' := [(3, .int (p2 / (10 : Int32))), (4, .int (0 : Int32)), (0, .ref (base + 0)), (1, .int p1), (2, .int p2)]) hx hb dX7_plan_34 rfl hl (by decide) rfl (fun ls hl => ?_)
        refine lv_iload_n hx hb dX7_plan_35 rfl (lv_at hl 4 rfl) ?_
        refine lv_bipush (v := (10 : Int32)) hx hb dX7_plan_36 (by decide) ?_
        refine lv_irem hx hb dX7_plan_38 (by decide) ?_
        refine lv_istore (lv' := [(4, .int (p2 - p2 / (10 : Int32) * (10 : Int32))), (3, .int (p2 / (10 : Int32))), (0, .ref (base + 0)), (1, .int p1), (2, .int p2)]) hx hb dX7_plan_39 hl (by decide) rfl (fun ls hl => ?_)
        refine lv_iload_n hx hb dX7_plan_41 rfl (lv_at hl 3 rfl) ?_
        refine lv_iconst (v := (4 : Int32)) hx hb dX7_plan_42 (by decide) ?_
        obtain ⟨r26, hc26, hf⟩ := pb_s hf
        refine g_doI0 hG (g_runS C0 hG (k_X7_isWithin l D base Z u p1 (4 : Int32) r26 hc26) m_X7_isWithin s_X7_isWithin w_364 (by decide) rfl hl.1 rfl (Nat.le_of_ble_eq_true rfl) dX7_plan_43 ⟨Nat.zero_le _, Nat.zero_le _⟩) (fun H locs hG hk => ?_)
        refine lv_if_eq (tgt := 70) hx hb dX7_plan_46 (by decide) (fun c27 => ?_) (fun c27 => ?_)
        · have hf := gif_t c27 hf
          refine lv_iconst (v := (-1 : Int32)) hx hb dX7_plan_70 (by decide) ?_
          obtain ⟨hr1, hu⟩ := gret_s hf
          subst hr1
          subst hu
          subst hQ
          exact g_iret C0 hG hr dX7_plan_71
        · have hf := gif_f c27 hf
          refine lv_iload_n hx hb dX7_plan_49 rfl (lv_at hl 3 rfl) ?_
          refine lv_if_eq (tgt := 61) hx hb dX7_plan_50 (by decide) (fun c28 => ?_) (fun c28 => ?_)
          · have hf := gif_t c28 hf
            refine lv_iload hx hb dX7_plan_61 (lv_at hl 0 rfl) ?_
            refine lv_iconst (v := (4 : Int32)) hx hb dX7_plan_63 (by decide) ?_
            obtain ⟨r29, hc29, hf⟩ := pb_s hf
            refine g_doI0 hG (g_runS C0 hG (k_X7_isWithin l D base Z u (p2 - p2 / (10 : Int32) * (10 : Int32)) (4 : Int32) r29 hc29) m_X7_isWithin s_X7_isWithin w_364 (by decide) rfl hl.1 rfl (Nat.le_of_ble_eq_true rfl) dX7_plan_64 ⟨Nat.zero_le _, Nat.zero_le _⟩) (fun H locs hG hk => ?_)
            refine lv_if_ne (tgt := 72) hx hb dX7_plan_67 (by decide) (fun c30 => ?_) (fun c30 => ?_)
            · have hf := gif_f c30 hf
              refine lv_aload_n hx hb dX7_plan_72 rfl (lv_at hl 2 rfl) ?_
              refine g_getSa (o := 37) (a := 37) C0 hG (L0 hG) rfl 3 (by decide) rfl rfl w_332 dX7_plan_73 ?_
              refine g_getSaN (o := 5) (a := 42) C0 hG (L37 hG) rfl 1 (by decide) rfl rfl w_248 dX7_plan_76 ?_
              refine lv_iload_n hx hb dX7_plan_79 rfl (lv_at hl 3 rfl) ?_
              refine lv_iload_n hx hb dX7_plan_80 rfl (lv_at hl 1 rfl) ?_
              refine lv_iload hx hb dX7_plan_81 (lv_at hl 0 rfl) ?_
              obtain ⟨r31, u31, hc31, hf⟩ := obind_s hf
              refine g_doI0 hG (g_runVN C0 hG (k_X2_append l D base Z u 42 p1 (p2 / (10 : Int32)) (p2 - p2 / (10 : Int32) * (10 : Int32)) r31 u31 O42 hc31) m_X2_append v_X2_append w_695 (by decide) (g_recv C0 hG (L42 hG) rfl) rfl hl.1 rfl (Nat.le_of_ble_eq_true rfl) dX7_plan_83 ⟨Nat.zero_le _, Nat.zero_le _⟩) (fun H locs hG hk => ?_)
              obtain ⟨hr1, hu⟩ := gret_s hf
              subst hr1
              subst hu
              subst hQ
              exact g_iret C0 hG hr dX7_plan_86
            · have hf := gif_t c30 hf
              refine lv_iconst (v := (-1 : Int32)) hx hb dX7_plan_70 (by decide) ?_
              obtain ⟨hr1, hu⟩ := gret_s hf
              subst hr1
              subst hu
              subst hQ
              exact g_iret C0 hG hr dX7_plan_71
          · have hf := gif_f c28 hf
            refine lv_aload_n hx hb dX7_plan_53 rfl (lv_at hl 2 rfl) ?_
            refine lv_iload_n hx hb dX7_plan_54 rfl (lv_at hl 1 rfl) ?_
            obtain ⟨r32, hc32, hf⟩ := pb_s hf
            refine g_doI0 hG (g_runV C0 hG (k_X7_isPerson l D base Z u (p2 / (10 : Int32)) r32 hc32) m_X7_isPerson v_X7_isPerson w_378 (by decide) (g_recv C0 hG (L0 hG) rfl) rfl hl.1 rfl (Nat.le_of_ble_eq_true rfl) dX7_plan_55 ⟨Nat.zero_le _, Nat.zero_le _⟩) (fun H locs hG hk => ?_)
            refine lv_if_eq (tgt := 70) hx hb dX7_plan_58 (by decide) (fun c33 => ?_) (fun c33 => ?_)
            · have hf := gif_t c33 hf
              refine lv_iconst (v := (-1 : Int32)) hx hb dX7_plan_70 (by decide) ?_
              obtain ⟨hr1, hu⟩ := gret_s hf
              subst hr1
              subst hu
              subst hQ
              exact g_iret C0 hG hr dX7_plan_71
            · have hf := gif_f c33 hf
              refine lv_iload hx hb dX7_plan_61 (lv_at hl 0 rfl) ?_
              refine lv_iconst (v := (4 : Int32)) hx hb dX7_plan_63 (by decide) ?_
              obtain ⟨r34, hc34, hf⟩ := pb_s hf
              refine g_doI0 hG (g_runS C0 hG (k_X7_isWithin l D base Z u (p2 - p2 / (10 : Int32) * (10 : Int32)) (4 : Int32) r34 hc34) m_X7_isWithin s_X7_isWithin w_364 (by decide) rfl hl.1 rfl (Nat.le_of_ble_eq_true rfl) dX7_plan_64 ⟨Nat.zero_le _, Nat.zero_le _⟩) (fun H locs hG hk => ?_)
              refine lv_if_ne (tgt := 72) hx hb dX7_plan_67 (by decide) (fun c35 => ?_) (fun c35 => ?_)
              · have hf := gif_f c35 hf
                refine lv_aload_n hx hb dX7_plan_72 rfl (lv_at hl 2 rfl) ?_
                refine g_getSa (o := 37) (a := 37) C0 hG (L0 hG) rfl 3 (by decide) rfl rfl w_332 dX7_plan_73 ?_
                refine g_getSaN (o := 5) (a := 42) C0 hG (L37 hG) rfl 1 (by decide) rfl rfl w_248 dX7_plan_76 ?_
                refine lv_iload_n hx hb dX7_plan_79 rfl (lv_at hl 3 rfl) ?_
                refine lv_iload_n hx hb dX7_plan_80 rfl (lv_at hl 1 rfl) ?_
                refine lv_iload hx hb dX7_plan_81 (lv_at hl 0 rfl) ?_
                obtain ⟨r36, u36, hc36, hf⟩ := obind_s hf
                refine g_doI0 hG (g_runVN C0 hG (k_X2_append l D base Z u 42 p1 (p2 / (10 : Int32)) (p2 - p2 / (10 : Int32) * (10 : Int32)) r36 u36 O42 hc36) m_X2_append v_X2_append w_695 (by decide) (g_recv C0 hG (L42 hG) rfl) rfl hl.1 rfl (Nat.le_of_ble_eq_true rfl) dX7_plan_83 ⟨Nat.zero_le _, Nat.zero_le _⟩) (fun H locs hG hk => ?_)
                obtain ⟨hr1, hu⟩ := gret_s hf
                subst hr1
                subst hu
                subst hQ
                exact g_iret C0 hG hr dX7_plan_86
              · have hf := gif_t c35 hf
                refine lv_iconst (v := (-1 : Int32)) hx hb dX7_plan_70 (by decide) ?_
                obtain ⟨hr1, hu⟩ := gret_s hf
                subst hr1
                subst hu
                subst hQ
                exact g_iret C0 hG hr dX7_plan_71
  · have hf := gif_t c1 hf
    refine lv_aload_n hx hb dX7_plan_5 rfl (lv_at hl 0 rfl) ?_
    refine g_getSa (o := 37) (a := 37) C0 hG (L0 hG) rfl 3 (by decide) rfl rfl w_332 dX7_plan_6 ?_
    refine g_getSaN (o := 5) (a := 42) C0 hG (L37 hG) rfl 1 (by decide) rfl rfl w_248 dX7_plan_9 ?_
    obtain ⟨r37, u37, hc37, hf⟩ := obind_s hf
    refine g_doI0 hG (g_runVN C0 hG (k_X2_clear l D base Z u 42 r37 u37 O42 hc37) m_X2_clear v_X2_clear w_691 (by decide) (g_recv C0 hG (L42 hG) rfl) rfl hl.1 rfl (Nat.le_of_ble_eq_true rfl) dX7_plan_12 ⟨Nat.zero_le _, Nat.zero_le _⟩) (fun H locs hG hk => ?_)
    obtain ⟨hr1, hu⟩ := gret_s hf
    subst hr1
    subst hu
    subst hQ
    exact g_iret C0 hG hr dX7_plan_15
theorem dX7_doPlanned_0 : decode cX7_doPlanned 0 = .ok (.iload_n 1, 1) := by decide +kernel
theorem dX7_doPlanned_1 : decode cX7_doPlanned 1 = .ok (.ifCond .ne 14, 3) := by decide +kernel
theorem dX7_doPlanned_4 : decode cX7_doPlanned 4 = .ok (.aload_n 0, 1) := by decide +kernel
theorem dX7_doPlanned_5 : decode cX7_doPlanned 5 = .ok (.getfield 18, 3) := by decide +kernel
theorem dX7_doPlanned_8 : decode cX7_doPlanned 8 = .ok (.iconst 1, 1) := by decide +kernel
theorem dX7_doPlanned_9 : decode cX7_doPlanned 9 = .ok (.invokevirtual 164, 3) := by decide +kernel
theorem dX7_doPlanned_12 : decode cX7_doPlanned 12 = .ok (.goto 56, 3) := by decide +kernel
theorem dX7_doPlanned_15 : decode cX7_doPlanned 15 = .ok (.aload_n 0, 1) := by decide +kernel
theorem dX7_doPlanned_16 : decode cX7_doPlanned 16 = .ok (.iload_n 2, 1) := by decide +kernel
theorem dX7_doPlanned_17 : decode cX7_doPlanned 17 = .ok (.invokevirtual 74, 3) := by decide +kernel
theorem dX7_doPlanned_20 : decode cX7_doPlanned 20 = .ok (.ifCond .eq 21, 3) := by decide +kernel
theorem dX7_doPlanned_23 : decode cX7_doPlanned 23 = .ok (.iload_n 1, 1) := by decide +kernel
theorem dX7_doPlanned_24 : decode cX7_doPlanned 24 = .ok (.iconst 3, 1) := by decide +kernel
theorem dX7_doPlanned_25 : decode cX7_doPlanned 25 = .ok (.if_icmp .ne 16, 3) := by decide +kernel
theorem dX7_doPlanned_28 : decode cX7_doPlanned 28 = .ok (.aload_n 0, 1) := by decide +kernel
theorem dX7_doPlanned_29 : decode cX7_doPlanned 29 = .ok (.getfield 18, 3) := by decide +kernel
theorem dX7_doPlanned_32 : decode cX7_doPlanned 32 = .ok (.getfield 85, 3) := by decide +kernel
theorem dX7_doPlanned_35 : decode cX7_doPlanned 35 = .ok (.iload_n 2, 1) := by decide +kernel
theorem dX7_doPlanned_36 : decode cX7_doPlanned 36 = .ok (.iload_n 3, 1) := by decide +kernel
theorem dX7_doPlanned_37 : decode cX7_doPlanned 37 = .ok (.iastore, 1) := by decide +kernel
theorem dX7_doPlanned_38 : decode cX7_doPlanned 38 = .ok (.goto 30, 3) := by decide +kernel
theorem dX7_doPlanned_41 : decode cX7_doPlanned 41 = .ok (.aload_n 0, 1) := by decide +kernel
theorem dX7_doPlanned_42 : decode cX7_doPlanned 42 = .ok (.iload_n 2, 1) := by decide +kernel
theorem dX7_doPlanned_43 : decode cX7_doPlanned 43 = .ok (.invokevirtual 74, 3) := by decide +kernel
theorem dX7_doPlanned_46 : decode cX7_doPlanned 46 = .ok (.ifCond .eq 22, 3) := by decide +kernel
theorem dX7_doPlanned_49 : decode cX7_doPlanned 49 = .ok (.aload_n 0, 1) := by decide +kernel
theorem dX7_doPlanned_50 : decode cX7_doPlanned 50 = .ok (.getfield 18, 3) := by decide +kernel
theorem dX7_doPlanned_53 : decode cX7_doPlanned 53 = .ok (.getfield 91, 3) := by decide +kernel
theorem dX7_doPlanned_56 : decode cX7_doPlanned 56 = .ok (.iload_n 2, 1) := by decide +kernel
theorem dX7_doPlanned_57 : decode cX7_doPlanned 57 = .ok (.iload_n 1, 1) := by decide +kernel
theorem dX7_doPlanned_58 : decode cX7_doPlanned 58 = .ok (.iconst 1, 1) := by decide +kernel
theorem dX7_doPlanned_59 : decode cX7_doPlanned 59 = .ok (.if_icmp .ne 7, 3) := by decide +kernel
theorem dX7_doPlanned_62 : decode cX7_doPlanned 62 = .ok (.iconst 1, 1) := by decide +kernel
theorem dX7_doPlanned_63 : decode cX7_doPlanned 63 = .ok (.goto 4, 3) := by decide +kernel
theorem dX7_doPlanned_66 : decode cX7_doPlanned 66 = .ok (.iconst 0, 1) := by decide +kernel
theorem dX7_doPlanned_67 : decode cX7_doPlanned 67 = .ok (.bastore, 1) := by decide +kernel
theorem dX7_doPlanned_68 : decode cX7_doPlanned 68 = .ok (.return_, 1) := by decide +kernel
def f_X7_doPlanned (p1 : Int32) (p2 : Int32) (p3 : Int32) (u : Mem) : Option (Unit × Mem) := (if p1 = 0 then obind (f_X6_ride 13 (1 : Int32) u) (fun _ u16 => some ((), u16)) else Option.bind (f_X7_isPerson p2 u) (fun r2 => (if r2 = 0 then Option.bind (f_X7_isPerson p2 u) (fun r4 => (if r4 = 0 then some ((), u) else (if p1 = (1 : Int32) then gin p2 6 (some ((), sA u 20 p2.toNatClampNeg (vp_nar .boolean (1 : Int32)))) else gin p2 6 (some ((), sA u 20 p2.toNatClampNeg (vp_nar .boolean (0 : Int32))))))) else (if p1 = (3 : Int32) then gin p2 6 (some ((), sA u 18 p2.toNatClampNeg p3)) else Option.bind (f_X7_isPerson p2 u) (fun r10 => (if r10 = 0 then some ((), u) else (if p1 = (1 : Int32) then gin p2 6 (some ((), sA u 20 p2.toNatClampNeg (vp_nar .boolean (1 : Int32)))) else gin p2 6 (some ((), sA u 20 p2.toNatClampNeg (vp_nar .boolean (0 : Int32)))))))))))
set_option maxHeartbeats 4000000 in
set_option maxRecDepth 100000 in
theorem k_X7_doPlanned (l : Launch) (D : gDt) (base : Nat) (Z : gZt) (u : Mem) (p1 : Int32) (p2 : Int32) (p3 : Int32) (u' : Mem) (hf : f_X7_doPlanned p1 p2 p3 u = some ((), u')) : Met l yX7_doPlanned (gws yX7_doPlanned cX7_doPlanned 4 (none)) (gRm 7 0 0) (gPc D base Z u [.ref (base + 0), .int p1, .int p2, .int p3]) (gQv D base u') 0 0 (gF base) := by
  refine Met.ofW (cc := cX7_doPlanned) (maxL := 4) (ret := none) (by decide) rfl ?_
  intro p e s m args below meth c s₁ B hml hv
  obtain ⟨rfl, C0, hG⟩ := g_enter B hml hv
  have hr := B.returns
  have C0 : gC p s m meth c _ cX7_doPlanned 4 RX7 D base Z := C0
  have hx := C0.1
  have hb := C0.2.1
  have hl := lv_entry ([.ref (base + 0), .int p1, .int p2, .int p3]) (n := 4) (Nat.le_of_ble_eq_true rfl)
  rw [lg_entry_eq]
  generalize (lg_sl ([.ref (base + 0), .int p1, .int p2, .int p3]) ++ List.replicate (4 - (lg_sl ([.ref (base + 0), .int p1, .int p2, .int p3])).length) Slot.unset).toArray = ls at hl ⊢
  have hl : lv_has ls 4 [(0, .ref (base + 0)), (1, .int p1), (2, .int p2), (3, .int p3)] := hl
  obtain ⟨Q, hQ⟩ : ∃ Q, Q = MQ below (gQv D base u') ([.ref (base + 0), .int p1, .int p2, .int p3] : List Value).toArray s 0 0 (gF base) := ⟨_, rfl⟩
  rw [← hQ]
  change W p l e (gRm 7 0 0) s m _ below meth c _ _ _ _ _ _
  unfold f_X7_doPlanned at hf
  refine lv_iload_n hx hb dX7_doPlanned_0 rfl (lv_at hl 1 rfl) ?_
  refine lv_if_ne (tgt := 15) hx hb dX7_doPlanned_1 (by decide) (fun c1 => ?_) (fun c1 => ?_)
  · have hf := gif_f c1 hf
    refine lv_aload_n hx hb dX7_doPlanned_15 rfl (lv_at hl 0 rfl) ?_
    refine lv_iload_n hx hb dX7_doPlanned_16 rfl (lv_at hl 2 rfl) ?_
    obtain ⟨r2, hc2, hf⟩ := pb_s hf
    refine g_doI0 hG (g_runV C0 hG (k_X7_isPerson l D base Z u p2 r2 hc2) m_X7_isPerson v_X7_isPerson w_378 (by decide) (g_recv C0 hG (L0 hG) rfl) rfl hl.1 rfl (Nat.le_of_ble_eq_true rfl) dX7_doPlanned_17 ⟨Nat.zero_le _, Nat.zero_le _⟩) (fun H locs hG hk => ?_)
    refine lv_if_eq (tgt := 41) hx hb dX7_doPlanned_20 (by decide) (fun c3 => ?_) (fun c3 => ?_)
    · have hf := gif_t c3 hf
      refine lv_aload_n hx hb dX7_doPlanned_41 rfl (lv_at hl 0 rfl) ?_
      refine lv_iload_n hx hb dX7_doPlanned_42 rfl (lv_at hl 2 rfl) ?_
      obtain ⟨r4, hc4, hf⟩ := pb_s hf
      refine g_doI0 hG (g_runV C0 hG (k_X7_isPerson l D base Z u p2 r4 hc4) m_X7_isPerson v_X7_isPerson w_378 (by decide) (g_recv C0 hG (L0 hG) rfl) rfl hl.1 rfl (Nat.le_of_ble_eq_true rfl) dX7_doPlanned_43 ⟨Nat.zero_le _, Nat.zero_le _⟩) (fun H locs hG hk => ?_)
      refine lv_if_eq (tgt := 68) hx hb dX7_doPlanned_46 (by decide) (fun c5 => ?_) (fun c5 => ?_)
      · have hf := gif_t c5 hf
        obtain ⟨-, hu⟩ := gret_s hf
        subst hu
        subst hQ
        exact g_vret C0 hG hr dX7_doPlanned_68
      · have hf := gif_f c5 hf
        refine lv_aload_n hx hb dX7_doPlanned_49 rfl (lv_at hl 0 rfl) ?_
        refine g_getSa (o := 13) (a := 13) C0 hG (L0 hG) rfl 1 (by decide) rfl rfl w_330 dX7_doPlanned_50 ?_
        refine g_getSaN (o := 7) (a := 20) C0 hG (L13 hG) rfl 6 (by decide) rfl rfl w_167 dX7_doPlanned_53 ?_
        refine lv_iload_n hx hb dX7_doPlanned_56 rfl (lv_at hl 2 rfl) ?_
        refine lv_iload_n hx hb dX7_doPlanned_57 rfl (lv_at hl 1 rfl) ?_
        refine lv_iconst (v := (1 : Int32)) hx hb dX7_doPlanned_58 (by decide) ?_
        refine lv_icmp_ne (tgt := 66) hx hb dX7_doPlanned_59 (by decide) (fun c6 => ?_) (fun c6 => ?_)
        · have hf := gif_f c6 hf
          refine lv_iconst (v := (0 : Int32)) hx hb dX7_doPlanned_66 (by decide) ?_
          obtain ⟨h7, hf⟩ := gin_s hf
          refine g_zast C0 hG (L20 hG) h7 dX7_doPlanned_67 (fun H locs hG => ?_)
          obtain ⟨-, hu⟩ := gret_s hf
          subst hu
          subst hQ
          exact g_vret C0 hG hr dX7_doPlanned_68
        · have hf := gif_t c6 hf
          refine lv_iconst (v := (1 : Int32)) hx hb dX7_doPlanned_62 (by decide) ?_
          refine lv_goto (tgt := 67) hx hb dX7_doPlanned_63 (by decide) ?_
          obtain ⟨h8, hf⟩ := gin_s hf
          refine g_zast C0 hG (L20 hG) h8 dX7_doPlanned_67 (fun H locs hG => ?_)
          obtain ⟨-, hu⟩ := gret_s hf
          subst hu
          subst hQ
          exact g_vret C0 hG hr dX7_doPlanned_68
    · have hf := gif_f c3 hf
      refine lv_iload_n hx hb dX7_doPlanned_23 rfl (lv_at hl 1 rfl) ?_
      refine lv_iconst (v := (3 : Int32)) hx hb dX7_doPlanned_24 (by decide) ?_
      refine lv_icmp_ne (tgt := 41) hx hb dX7_doPlanned_25 (by decide) (fun c9 => ?_) (fun c9 => ?_)
      · have hf := gif_f c9 hf
        refine lv_aload_n hx hb dX7_doPlanned_41 rfl (lv_at hl 0 rfl) ?_
        refine lv_iload_n hx hb dX7_doPlanned_42 rfl (lv_at hl 2 rfl) ?_
        obtain ⟨r10, hc10, hf⟩ := pb_s hf
        refine g_doI0 hG (g_runV C0 hG (k_X7_isPerson l D base Z u p2 r10 hc10) m_X7_isPerson v_X7_isPerson w_378 (by decide) (g_recv C0 hG (L0 hG) rfl) rfl hl.1 rfl (Nat.le_of_ble_eq_true rfl) dX7_doPlanned_43 ⟨Nat.zero_le _, Nat.zero_le _⟩) (fun H locs hG hk => ?_)
        refine lv_if_eq (tgt := 68) hx hb dX7_doPlanned_46 (by decide) (fun c11 => ?_) (fun c11 => ?_)
        · have hf := gif_t c11 hf
          obtain ⟨-, hu⟩ := gret_s hf
          subst hu
          subst hQ
          exact g_vret C0 hG hr dX7_doPlanned_68
        · have hf := gif_f c11 hf
          refine lv_aload_n hx hb dX7_doPlanned_49 rfl (lv_at hl 0 rfl) ?_
          refine g_getSa (o := 13) (a := 13) C0 hG (L0 hG) rfl 1 (by decide) rfl rfl w_330 dX7_doPlanned_50 ?_
          refine g_getSaN (o := 7) (a := 20) C0 hG (L13 hG) rfl 6 (by decide) rfl rfl w_167 dX7_doPlanned_53 ?_
          refine lv_iload_n hx hb dX7_doPlanned_56 rfl (lv_at hl 2 rfl) ?_
          refine lv_iload_n hx hb dX7_doPlanned_57 rfl (lv_at hl 1 rfl) ?_
          refine lv_iconst (v := (1 : Int32)) hx hb dX7_doPlanned_58 (by decide) ?_
          refine lv_icmp_ne (tgt := 66) hx hb dX7_doPlanned_59 (by decide) (fun c12 => ?_) (fun c12 => ?_)
          · have hf := gif_f c12 hf
            refine lv_iconst (v := (0 : Int32)) hx hb dX7_doPlanned_66 (by decide) ?_
            obtain ⟨h13, hf⟩ := gin_s hf
            refine g_zast C0 hG (L20 hG) h13 dX7_doPlanned_67 (fun H locs hG => ?_)
            obtain ⟨-, hu⟩ := gret_s hf
            subst hu
            subst hQ
            exact g_vret C0 hG hr dX7_doPlanned_68
          · have hf := gif_t c12 hf
            refine lv_iconst (v := (1 : Int32)) hx hb dX7_doPlanned_62 (by decide) ?_
            refine lv_goto (tgt := 67) hx hb dX7_doPlanned_63 (by decide) ?_
            obtain ⟨h14, hf⟩ := gin_s hf
            refine g_zast C0 hG (L20 hG) h14 dX7_doPlanned_67 (fun H locs hG => ?_)
            obtain ⟨-, hu⟩ := gret_s hf
            subst hu
            subst hQ
            exact g_vret C0 hG hr dX7_doPlanned_68
      · have hf := gif_t c9 hf
        refine lv_aload_n hx hb dX7_doPlanned_28 rfl (lv_at hl 0 rfl) ?_
        refine g_getSa (o := 13) (a := 13) C0 hG (L0 hG) rfl 1 (by decide) rfl rfl w_330 dX7_doPlanned_29 ?_
        refine g_getSaN (o := 5) (a := 18) C0 hG (L13 hG) rfl 4 (by decide) rfl rfl w_163 dX7_doPlanned_32 ?_
        refine lv_iload_n hx hb dX7_doPlanned_35 rfl (lv_at hl 2 rfl) ?_
        refine lv_iload_n hx hb dX7_doPlanned_36 rfl (lv_at hl 3 rfl) ?_
        obtain ⟨h15, hf⟩ := gin_s hf
        refine g_iast C0 hG (L18 hG) h15 dX7_doPlanned_37 (fun H locs hG => ?_)
        refine lv_goto (tgt := 68) hx hb dX7_doPlanned_38 (by decide) ?_
        obtain ⟨-, hu⟩ := gret_s hf
        subst hu
        subst hQ
        exact g_vret C0 hG hr dX7_doPlanned_68
  · have hf := gif_t c1 hf
    refine lv_aload_n hx hb dX7_doPlanned_4 rfl (lv_at hl 0 rfl) ?_
    refine g_getSa (o := 13) (a := 13) C0 hG (L0 hG) rfl 1 (by decide) rfl rfl w_330 dX7_doPlanned_5 ?_
    refine lv_iconst (v := (1 : Int32)) hx hb dX7_doPlanned_8 (by decide) ?_
    obtain ⟨_, u16, hc16, hf⟩ := obind_s hf
    refine g_doV0 hG (g_runVN C0 hG (k_X6_ride l D base Z u 13 (1 : Int32) u16 O13 hc16) m_X6_ride v_X6_ride w_644 (by decide) (g_recv C0 hG (L13 hG) rfl) rfl hl.1 rfl (Nat.le_of_ble_eq_true rfl) dX7_doPlanned_9 ⟨Nat.zero_le _, Nat.zero_le _⟩) (fun H locs hG hk => ?_)
    refine lv_goto (tgt := 68) hx hb dX7_doPlanned_12 (by decide) ?_
    obtain ⟨-, hu⟩ := gret_s hf
    subst hu
    subst hQ
    exact g_vret C0 hG hr dX7_doPlanned_68
theorem dX7_ends_0 : decode cX7_ends 0 = .ok (.iload_n 1, 1) := by decide +kernel
theorem dX7_ends_1 : decode cX7_ends 1 = .ok (.iconst 2, 1) := by decide +kernel
theorem dX7_ends_2 : decode cX7_ends 2 = .ok (.invokestatic 63, 3) := by decide +kernel
theorem dX7_ends_5 : decode cX7_ends 5 = .ok (.ifCond .ne 5, 3) := by decide +kernel
theorem dX7_ends_8 : decode cX7_ends 8 = .ok (.iconst (-1), 1) := by decide +kernel
theorem dX7_ends_9 : decode cX7_ends 9 = .ok (.ireturn, 1) := by decide +kernel
theorem dX7_ends_10 : decode cX7_ends 10 = .ok (.aload_n 0, 1) := by decide +kernel
theorem dX7_ends_11 : decode cX7_ends 11 = .ok (.getfield 18, 3) := by decide +kernel
theorem dX7_ends_14 : decode cX7_ends 14 = .ok (.aload_n 0, 1) := by decide +kernel
theorem dX7_ends_15 : decode cX7_ends 15 = .ok (.getfield 12, 3) := by decide +kernel
theorem dX7_ends_18 : decode cX7_ends 18 = .ok (.invokevirtual 168, 3) := by decide +kernel
theorem dX7_ends_21 : decode cX7_ends 21 = .ok (.iconst 0, 1) := by decide +kernel
theorem dX7_ends_22 : decode cX7_ends 22 = .ok (.istore_n 2, 1) := by decide +kernel
theorem dX7_ends_23 : decode cX7_ends 23 = .ok (.iload_n 2, 1) := by decide +kernel
theorem dX7_ends_24 : decode cX7_ends 24 = .ok (.aload_n 0, 1) := by decide +kernel
theorem dX7_ends_25 : decode cX7_ends 25 = .ok (.getfield 27, 3) := by decide +kernel
theorem dX7_ends_28 : decode cX7_ends 28 = .ok (.getfield 205, 3) := by decide +kernel
theorem dX7_ends_31 : decode cX7_ends 31 = .ok (.getfield 208, 3) := by decide +kernel
theorem dX7_ends_34 : decode cX7_ends 34 = .ok (.if_icmp .ge 49, 3) := by decide +kernel
theorem dX7_ends_37 : decode cX7_ends 37 = .ok (.aload_n 0, 1) := by decide +kernel
theorem dX7_ends_38 : decode cX7_ends 38 = .ok (.aload_n 0, 1) := by decide +kernel
theorem dX7_ends_39 : decode cX7_ends 39 = .ok (.getfield 27, 3) := by decide +kernel
theorem dX7_ends_42 : decode cX7_ends 42 = .ok (.getfield 205, 3) := by decide +kernel
theorem dX7_ends_45 : decode cX7_ends 45 = .ok (.getfield 211, 3) := by decide +kernel
theorem dX7_ends_48 : decode cX7_ends 48 = .ok (.iload_n 2, 1) := by decide +kernel
theorem dX7_ends_49 : decode cX7_ends 49 = .ok (.iaload, 1) := by decide +kernel
theorem dX7_ends_50 : decode cX7_ends 50 = .ok (.aload_n 0, 1) := by decide +kernel
theorem dX7_ends_51 : decode cX7_ends 51 = .ok (.getfield 27, 3) := by decide +kernel
theorem dX7_ends_54 : decode cX7_ends 54 = .ok (.getfield 205, 3) := by decide +kernel
theorem dX7_ends_57 : decode cX7_ends 57 = .ok (.getfield 214, 3) := by decide +kernel
theorem dX7_ends_60 : decode cX7_ends 60 = .ok (.iload_n 2, 1) := by decide +kernel
theorem dX7_ends_61 : decode cX7_ends 61 = .ok (.iaload, 1) := by decide +kernel
theorem dX7_ends_62 : decode cX7_ends 62 = .ok (.aload_n 0, 1) := by decide +kernel
theorem dX7_ends_63 : decode cX7_ends 63 = .ok (.getfield 27, 3) := by decide +kernel
theorem dX7_ends_66 : decode cX7_ends 66 = .ok (.getfield 205, 3) := by decide +kernel
theorem dX7_ends_69 : decode cX7_ends 69 = .ok (.getfield 217, 3) := by decide +kernel
theorem dX7_ends_72 : decode cX7_ends 72 = .ok (.iload_n 2, 1) := by decide +kernel
theorem dX7_ends_73 : decode cX7_ends 73 = .ok (.iaload, 1) := by decide +kernel
theorem dX7_ends_74 : decode cX7_ends 74 = .ok (.invokevirtual 220, 3) := by decide +kernel
theorem dX7_ends_77 : decode cX7_ends 77 = .ok (.iinc 2 1, 3) := by decide +kernel
theorem dX7_ends_80 : decode cX7_ends 80 = .ok (.goto (-57), 3) := by decide +kernel
theorem dX7_ends_83 : decode cX7_ends 83 = .ok (.iload_n 1, 1) := by decide +kernel
theorem dX7_ends_84 : decode cX7_ends 84 = .ok (.ifCond .ne 13, 3) := by decide +kernel
theorem dX7_ends_87 : decode cX7_ends 87 = .ok (.aload_n 0, 1) := by decide +kernel
theorem dX7_ends_88 : decode cX7_ends 88 = .ok (.getfield 18, 3) := by decide +kernel
theorem dX7_ends_91 : decode cX7_ends 91 = .ok (.getfield 154, 3) := by decide +kernel
theorem dX7_ends_94 : decode cX7_ends 94 = .ok (.goto 10, 3) := by decide +kernel
theorem dX7_ends_97 : decode cX7_ends 97 = .ok (.aload_n 0, 1) := by decide +kernel
theorem dX7_ends_98 : decode cX7_ends 98 = .ok (.getfield 18, 3) := by decide +kernel
theorem dX7_ends_101 : decode cX7_ends 101 = .ok (.getfield 151, 3) := by decide +kernel
theorem dX7_ends_104 : decode cX7_ends 104 = .ok (.ireturn, 1) := by decide +kernel
def f_X7_ends_L23 (p1 : Int32) (x2_4 : Int32) (u4 : Mem) : Option ((Int32 × Mem) ⊕ (Int32 × Mem)) := (if (gI u4 42 4) ≤ x2_4 then (if p1 = 0 then some (Sum.inr (gI u4 13 11, u4)) else some (Sum.inr (gI u4 13 10, u4))) else gin x2_4 10 (gin x2_4 10 (gin x2_4 10 (obind (f_X7_doPlanned (gA u4 43 x2_4.toNatClampNeg) (gA u4 44 x2_4.toNatClampNeg) (gA u4 45 x2_4.toNatClampNeg) u4) (fun _ u10 => some (Sum.inl (x2_4 + (1 : Int32), u10)))))))
def f_X7_ends (p1 : Int32) (u : Mem) : Option (Int32 × Mem) := Option.bind (f_X7_isWithin p1 (2 : Int32)) (fun r1 => (if r1 = 0 then some ((-1 : Int32), u) else obind (f_X6_becomeLike 13 1 u) (fun _ u3 => whileO (fun s => f_X7_ends_L23 p1 s.1 s.2) FUEL ((0 : Int32), u3))))
set_option maxHeartbeats 4000000 in
set_option maxRecDepth 100000 in
theorem k_X7_ends (l : Launch) (D : gDt) (base : Nat) (Z : gZt) (u : Mem) (p1 : Int32) (r : Int32) (u' : Mem) (hf : f_X7_ends p1 u = some (r, u')) : Met l yX7_ends (gws yX7_ends cX7_ends 3 (some .int)) (gRm 8 0 0) (gPc D base Z u [.ref (base + 0), .int p1]) (gQi D base r u') 0 0 (gF base) := by
  refine Met.ofW (cc := cX7_ends) (maxL := 3) (ret := some .int) (by decide) rfl ?_
  intro p e s m args below meth c s₁ B hml hv
  obtain ⟨rfl, C0, hG⟩ := g_enter B hml hv
  have hr := B.returns
  have C0 : gC p s m meth c _ cX7_ends 3 RX7 D base Z := C0
  have hx := C0.1
  have hb := C0.2.1
  have hl := lv_entry ([.ref (base + 0), .int p1]) (n := 3) (Nat.le_of_ble_eq_true rfl)
  rw [lg_entry_eq]
  generalize (lg_sl ([.ref (base + 0), .int p1]) ++ List.replicate (3 - (lg_sl ([.ref (base + 0), .int p1])).length) Slot.unset).toArray = ls at hl ⊢
  have hl : lv_has ls 3 [(0, .ref (base + 0)), (1, .int p1)] := hl
  obtain ⟨Q, hQ⟩ : ∃ Q, Q = MQ below (gQi D base r u') ([.ref (base + 0), .int p1] : List Value).toArray s 0 0 (gF base) := ⟨_, rfl⟩
  rw [← hQ]
  change W p l e (gRm 8 0 0) s m _ below meth c _ _ _ _ _ _
  unfold f_X7_ends at hf
  refine lv_iload_n hx hb dX7_ends_0 rfl (lv_at hl 1 rfl) ?_
  refine lv_iconst (v := (2 : Int32)) hx hb dX7_ends_1 (by decide) ?_
  obtain ⟨r1, hc1, hf⟩ := pb_s hf
  refine g_doI0 hG (g_runS C0 hG (k_X7_isWithin l D base Z u p1 (2 : Int32) r1 hc1) m_X7_isWithin s_X7_isWithin w_364 (by decide) rfl hl.1 rfl (Nat.le_of_ble_eq_true rfl) dX7_ends_2 ⟨Nat.zero_le _, Nat.zero_le _⟩) (fun H locs hG hk => ?_)
  refine lv_if_ne (tgt := 10) hx hb dX7_ends_5 (by decide) (fun c2 => ?_) (fun c2 => ?_)
  · have hf := gif_f c2 hf
    refine lv_aload_n hx hb dX7_ends_10 rfl (lv_at hl 0 rfl) ?_
    refine g_getSa (o := 13) (a := 13) C0 hG (L0 hG) rfl 1 (by decide) rfl rfl w_330 dX7_ends_11 ?_
    refine lv_aload_n hx hb dX7_ends_14 rfl (lv_at hl 0 rfl) ?_
    refine g_getSa (o := 1) (a := 1) C0 hG (L0 hG) rfl 0 (by decide) rfl rfl w_329 dX7_ends_15 ?_
    obtain ⟨_, u3, hc3, hf⟩ := obind_s hf
    refine g_doV0 hG (g_runVN C0 hG (k_X6_becomeLike l D base Z u 13 1 u3 O13 O1 hc3) m_X6_becomeLike v_X6_becomeLike w_663 (by decide) (g_recv C0 hG (L13 hG) rfl) rfl hl.1 rfl (Nat.le_of_ble_eq_true rfl) dX7_ends_18 ⟨Nat.zero_le _, Nat.zero_le _⟩) (fun H locs hG hk => ?_)
    refine lv_iconst (v := (0 : Int32)) hx hb dX7_ends_21 (by decide) ?_
    refine lv_istore_n (lv' := [(2, .int (0 : Int32)), (0, .ref (base + 0)), (1, .int p1)]) hx hb dX7_ends_22 rfl hl (by decide) rfl (fun ls hl => ?_)
    have loop4 : ∀ (n4 : Nat) (x2_4 : Int32) (u4 : Mem) (H : Heap) (locs : List Loc) (ls : Array Slot), gH D base s u4 H locs → lv_has ls 3 [(0, .ref (base + 0)), (1, .int p1), (2, .int x2_4)] → whileO (fun s => f_X7_ends_L23 p1 s.1 s.2) n4 (x2_4, u4) = some (r, u') → W p l e (gRm 8 0 0) s m ([.ref (base + 0), .int p1] : List Value).toArray below meth c H locs 0 0 Q (F0 m 23 ls []) := by
      intro n4
      induction n4 with
      | zero => intro x2_4 u4 H locs ls hG hl hf; cases hf
      | succ n4 ih4 =>
        intro x2_4 u4 H locs ls hG hl hf
        obtain ⟨X4, hf, hX4⟩ := while_s hf
        have hf : f_X7_ends_L23 p1 x2_4 u4 = some X4 := hf
        unfold f_X7_ends_L23 at hf
        refine lv_iload_n hx hb dX7_ends_23 rfl (lv_at hl 2 rfl) ?_
        refine lv_aload_n hx hb dX7_ends_24 rfl (lv_at hl 0 rfl) ?_
        refine g_getSa (o := 37) (a := 37) C0 hG (L0 hG) rfl 3 (by decide) rfl rfl w_332 dX7_ends_25 ?_
        refine g_getSaN (o := 5) (a := 42) C0 hG (L37 hG) rfl 1 (by decide) rfl rfl w_248 dX7_ends_28 ?_
        refine g_getIN C0 hG (L42 hG) rfl 4 (by decide) rfl w_233 dX7_ends_31 ?_
        refine lv_icmp_ge (tgt := 83) hx hb dX7_ends_34 (by decide) (fun c5 => ?_) (fun c5 => ?_)
        · have hf := gif_t c5 hf
          refine lv_iload_n hx hb dX7_ends_83 rfl (lv_at hl 1 rfl) ?_
          refine lv_if_ne (tgt := 97) hx hb dX7_ends_84 (by decide) (fun c6 => ?_) (fun c6 => ?_)
          · have hf := gif_f c6 hf
            refine lv_aload_n hx hb dX7_ends_97 rfl (lv_at hl 0 rfl) ?_
            refine g_getSa (o := 13) (a := 13) C0 hG (L0 hG) rfl 1 (by decide) rfl rfl w_330 dX7_ends_98 ?_
            refine g_getIN C0 hG (L13 hG) rfl 10 (by decide) rfl w_174 dX7_ends_101 ?_
            have hf := while_r hX4 hf
            obtain ⟨hr1, hu⟩ := gret_s hf
            subst hr1
            subst hu
            subst hQ
            exact g_iret C0 hG hr dX7_ends_104
          · have hf := gif_t c6 hf
            refine lv_aload_n hx hb dX7_ends_87 rfl (lv_at hl 0 rfl) ?_
            refine g_getSa (o := 13) (a := 13) C0 hG (L0 hG) rfl 1 (by decide) rfl rfl w_330 dX7_ends_88 ?_
            refine g_getIN C0 hG (L13 hG) rfl 11 (by decide) rfl w_176 dX7_ends_91 ?_
            refine lv_goto (tgt := 104) hx hb dX7_ends_94 (by decide) ?_
            have hf := while_r hX4 hf
            obtain ⟨hr1, hu⟩ := gret_s hf
            subst hr1
            subst hu
            subst hQ
            exact g_iret C0 hG hr dX7_ends_104
        · have hf := gif_f c5 hf
          refine lv_aload_n hx hb dX7_ends_37 rfl (lv_at hl 0 rfl) ?_
          refine lv_aload_n hx hb dX7_ends_38 rfl (lv_at hl 0 rfl) ?_
          refine g_getSa (o := 37) (a := 37) C0 hG (L0 hG) rfl 3 (by decide) rfl rfl w_332 dX7_ends_39 ?_
          refine g_getSaN (o := 5) (a := 42) C0 hG (L37 hG) rfl 1 (by decide) rfl rfl w_248 dX7_ends_42 ?_
          refine g_getSaN (o := 1) (a := 43) C0 hG (L42 hG) rfl 0 (by decide) rfl rfl w_226 dX7_ends_45 ?_
          refine lv_iload_n hx hb dX7_ends_48 rfl (lv_at hl 2 rfl) ?_
          obtain ⟨h7, hf⟩ := gin_s hf
          refine g_iald C0 hG (L43 hG) h7 dX7_ends_49 ?_
          refine lv_aload_n hx hb dX7_ends_50 rfl (lv_at hl 0 rfl) ?_
          refine g_getSa (o := 37) (a := 37) C0 hG (L0 hG) rfl 3 (by decide) rfl rfl w_332 dX7_ends_51 ?_
          refine g_getSaN (o := 5) (a := 42) C0 hG (L37 hG) rfl 1 (by decide) rfl rfl w_248 dX7_ends_54 ?_
          refine g_getSaN (o := 2) (a := 44) C0 hG (L42 hG) rfl 1 (by decide) rfl rfl w_228 dX7_ends_57 ?_
          refine lv_iload_n hx hb dX7_ends_60 rfl (lv_at hl 2 rfl) ?_
          obtain ⟨h8, hf⟩ := gin_s hf
          refine g_iald C0 hG (L44 hG) h8 dX7_ends_61 ?_
          refine lv_aload_n hx hb dX7_ends_62 rfl (lv_at hl 0 rfl) ?_
          refine g_getSa (o := 37) (a := 37) C0 hG (L0 hG) rfl 3 (by decide) rfl rfl w_332 dX7_ends_63 ?_
          refine g_getSaN (o := 5) (a := 42) C0 hG (L37 hG) rfl 1 (by decide) rfl rfl w_248 dX7_ends_66 ?_
          refine g_getSaN (o := 3) (a := 45) C0 hG (L42 hG) rfl 2 (by decide) rfl rfl w_230 dX7_ends_69 ?_
          refine lv_iload_n hx hb dX7_ends_72 rfl (lv_at hl 2 rfl) ?_
          obtain ⟨h9, hf⟩ := gin_s hf
          refine g_iald C0 hG (L45 hG) h9 dX7_ends_73 ?_
          obtain ⟨_, u10, hc10, hf⟩ := obind_s hf
          refine g_doV0 hG (g_runV C0 hG (k_X7_doPlanned l D base Z u4 (gA u4 43 x2_4.toNatClampNeg) (gA u4 44 x2_4.toNatClampNeg) (gA u4 45 x2_4.toNatClampNeg) u10 hc10) m_X7_doPlanned v_X7_doPlanned w_734 (by decide) (g_recv C0 hG (L0 hG) rfl) rfl hl.1 rfl (Nat.le_of_ble_eq_true rfl) dX7_ends_74 ⟨Nat.zero_le _, Nat.zero_le _⟩) (fun H locs hG hk => ?_)
          refine lv_iinc (v := x2_4 + (1 : Int32)) (lv' := [(2, .int (x2_4 + (1 : Int32))), (0, .ref (base + 0)), (1, .int p1)]) hx hb dX7_ends_77 hl (k := 2) rfl rfl (by decide) rfl (fun ls hl => ?_)
          refine lv_goto (tgt := 23) hx hb dX7_ends_80 (by decide) ?_
          have hf := while_l hX4 hf
          exact ih4 (x2_4 + (1 : Int32)) u10 _ _ ls hG (lv_sub hl [1, 2, 0] rfl) hf
    exact loop4 FUEL (0 : Int32) u3 _ _ ls hG (lv_sub hl [1, 2, 0] rfl) hf
  · have hf := gif_t c2 hf
    refine lv_iconst (v := (-1 : Int32)) hx hb dX7_ends_8 (by decide) ?_
    obtain ⟨hr1, hu⟩ := gret_s hf
    subst hr1
    subst hu
    subst hQ
    exact g_iret C0 hG hr dX7_ends_9
theorem dX7_book_0 : decode cX7_book 0 = .ok (.iload_n 1, 1) := by decide +kernel
theorem dX7_book_1 : decode cX7_book 1 = .ok (.iconst (-1), 1) := by decide +kernel
theorem dX7_book_2 : decode cX7_book 2 = .ok (.if_icmp .ne 14, 3) := by decide +kernel
theorem dX7_book_5 : decode cX7_book 5 = .ok (.aload_n 0, 1) := by decide +kernel
theorem dX7_book_6 : decode cX7_book 6 = .ok (.getfield 27, 3) := by decide +kernel
theorem dX7_book_9 : decode cX7_book 9 = .ok (.getfield 224, 3) := by decide +kernel
theorem dX7_book_12 : decode cX7_book 12 = .ok (.invokevirtual 182, 3) := by decide +kernel
theorem dX7_book_15 : decode cX7_book 15 = .ok (.ireturn, 1) := by decide +kernel
theorem dX7_book_16 : decode cX7_book 16 = .ok (.aload_n 0, 1) := by decide +kernel
theorem dX7_book_17 : decode cX7_book 17 = .ok (.iload_n 1, 1) := by decide +kernel
theorem dX7_book_18 : decode cX7_book 18 = .ok (.invokevirtual 74, 3) := by decide +kernel
theorem dX7_book_21 : decode cX7_book 21 = .ok (.ifCond .ne 5, 3) := by decide +kernel
theorem dX7_book_24 : decode cX7_book 24 = .ok (.iconst (-1), 1) := by decide +kernel
theorem dX7_book_25 : decode cX7_book 25 = .ok (.ireturn, 1) := by decide +kernel
theorem dX7_book_26 : decode cX7_book 26 = .ok (.iload_n 2, 1) := by decide +kernel
theorem dX7_book_27 : decode cX7_book 27 = .ok (.sipush 255, 3) := by decide +kernel
theorem dX7_book_30 : decode cX7_book 30 = .ok (.invokestatic 67, 3) := by decide +kernel
theorem dX7_book_33 : decode cX7_book 33 = .ok (.ifCond .ne 6, 3) := by decide +kernel
theorem dX7_book_36 : decode cX7_book 36 = .ok (.bipush (-2), 2) := by decide +kernel
theorem dX7_book_38 : decode cX7_book 38 = .ok (.ireturn, 1) := by decide +kernel
theorem dX7_book_39 : decode cX7_book 39 = .ok (.aload_n 0, 1) := by decide +kernel
theorem dX7_book_40 : decode cX7_book 40 = .ok (.getfield 27, 3) := by decide +kernel
theorem dX7_book_43 : decode cX7_book 43 = .ok (.getfield 224, 3) := by decide +kernel
theorem dX7_book_46 : decode cX7_book 46 = .ok (.iload_n 1, 1) := by decide +kernel
theorem dX7_book_47 : decode cX7_book 47 = .ok (.iload_n 2, 1) := by decide +kernel
theorem dX7_book_48 : decode cX7_book 48 = .ok (.iconst 0, 1) := by decide +kernel
theorem dX7_book_49 : decode cX7_book 49 = .ok (.invokevirtual 187, 3) := by decide +kernel
theorem dX7_book_52 : decode cX7_book 52 = .ok (.ireturn, 1) := by decide +kernel
def f_X7_book (p1 : Int32) (p2 : Int32) (u : Mem) : Option (Int32 × Mem) := (if p1 = (-1 : Int32) then obind (f_X2_clear 46 u) (fun r7 u7 => some (r7, u7)) else Option.bind (f_X7_isPerson p1 u) (fun r2 => (if r2 = 0 then some ((-1 : Int32), u) else Option.bind (f_X7_isUpTo p2 (255 : Int32)) (fun r4 => (if r4 = 0 then some ((-2 : Int32), u) else obind (f_X2_append 46 p1 p2 (0 : Int32) u) (fun r6 u6 => some (r6, u6)))))))
set_option maxHeartbeats 4000000 in
set_option maxRecDepth 100000 in
theorem k_X7_book (l : Launch) (D : gDt) (base : Nat) (Z : gZt) (u : Mem) (p1 : Int32) (p2 : Int32) (r : Int32) (u' : Mem) (hf : f_X7_book p1 p2 u = some (r, u')) : Met l yX7_book (gws yX7_book cX7_book 3 (some .int)) (gRm 3 0 0) (gPc D base Z u [.ref (base + 0), .int p1, .int p2]) (gQi D base r u') 0 0 (gF base) := by
  refine Met.ofW (cc := cX7_book) (maxL := 3) (ret := some .int) (by decide) rfl ?_
  intro p e s m args below meth c s₁ B hml hv
  obtain ⟨rfl, C0, hG⟩ := g_enter B hml hv
  have hr := B.returns
  have C0 : gC p s m meth c _ cX7_book 3 RX7 D base Z := C0
  have hx := C0.1
  have hb := C0.2.1
  have hl := lv_entry ([.ref (base + 0), .int p1, .int p2]) (n := 3) (Nat.le_of_ble_eq_true rfl)
  rw [lg_entry_eq]
  generalize (lg_sl ([.ref (base + 0), .int p1, .int p2]) ++ List.replicate (3 - (lg_sl ([.ref (base + 0), .int p1, .int p2])).length) Slot.unset).toArray = ls at hl ⊢
  have hl : lv_has ls 3 [(0, .ref (base + 0)), (1, .int p1), (2, .int p2)] := hl
  obtain ⟨Q, hQ⟩ : ∃ Q, Q = MQ below (gQi D base r u') ([.ref (base + 0), .int p1, .int p2] : List Value).toArray s 0 0 (gF base) := ⟨_, rfl⟩
  rw [← hQ]
  change W p l e (gRm 3 0 0) s m _ below meth c _ _ _ _ _ _
  unfold f_X7_book at hf
  refine lv_iload_n hx hb dX7_book_0 rfl (lv_at hl 1 rfl) ?_
  refine lv_iconst (v := (-1 : Int32)) hx hb dX7_book_1 (by decide) ?_
  refine lv_icmp_ne (tgt := 16) hx hb dX7_book_2 (by decide) (fun c1 => ?_) (fun c1 => ?_)
  · have hf := gif_f c1 hf
    refine lv_aload_n hx hb dX7_book_16 rfl (lv_at hl 0 rfl) ?_
    refine lv_iload_n hx hb dX7_book_17 rfl (lv_at hl 1 rfl) ?_
    obtain ⟨r2, hc2, hf⟩ := pb_s hf
    refine g_doI0 hG (g_runV C0 hG (k_X7_isPerson l D base Z u p1 r2 hc2) m_X7_isPerson v_X7_isPerson w_378 (by decide) (g_recv C0 hG (L0 hG) rfl) rfl hl.1 rfl (Nat.le_of_ble_eq_true rfl) dX7_book_18 ⟨Nat.zero_le _, Nat.zero_le _⟩) (fun H locs hG hk => ?_)
    refine lv_if_ne (tgt := 26) hx hb dX7_book_21 (by decide) (fun c3 => ?_) (fun c3 => ?_)
    · have hf := gif_f c3 hf
      refine lv_iload_n hx hb dX7_book_26 rfl (lv_at hl 2 rfl) ?_
      refine lv_sipush (v := (255 : Int32)) hx hb dX7_book_27 (by decide) ?_
      obtain ⟨r4, hc4, hf⟩ := pb_s hf
      refine g_doI0 hG (g_runS C0 hG (k_X7_isUpTo l D base Z u p2 (255 : Int32) r4 hc4) m_X7_isUpTo s_X7_isUpTo w_367 (by decide) rfl hl.1 rfl (Nat.le_of_ble_eq_true rfl) dX7_book_30 ⟨Nat.zero_le _, Nat.zero_le _⟩) (fun H locs hG hk => ?_)
      refine lv_if_ne (tgt := 39) hx hb dX7_book_33 (by decide) (fun c5 => ?_) (fun c5 => ?_)
      · have hf := gif_f c5 hf
        refine lv_aload_n hx hb dX7_book_39 rfl (lv_at hl 0 rfl) ?_
        refine g_getSa (o := 37) (a := 37) C0 hG (L0 hG) rfl 3 (by decide) rfl rfl w_332 dX7_book_40 ?_
        refine g_getSaN (o := 9) (a := 46) C0 hG (L37 hG) rfl 2 (by decide) rfl rfl w_250 dX7_book_43 ?_
        refine lv_iload_n hx hb dX7_book_46 rfl (lv_at hl 1 rfl) ?_
        refine lv_iload_n hx hb dX7_book_47 rfl (lv_at hl 2 rfl) ?_
        refine lv_iconst (v := (0 : Int32)) hx hb dX7_book_48 (by decide) ?_
        obtain ⟨r6, u6, hc6, hf⟩ := obind_s hf
        refine g_doI0 hG (g_runVN C0 hG (k_X2_append l D base Z u 46 p1 p2 (0 : Int32) r6 u6 O46 hc6) m_X2_append v_X2_append w_695 (by decide) (g_recv C0 hG (L46 hG) rfl) rfl hl.1 rfl (Nat.le_of_ble_eq_true rfl) dX7_book_49 ⟨Nat.zero_le _, Nat.zero_le _⟩) (fun H locs hG hk => ?_)
        obtain ⟨hr1, hu⟩ := gret_s hf
        subst hr1
        subst hu
        subst hQ
        exact g_iret C0 hG hr dX7_book_52
      · have hf := gif_t c5 hf
        refine lv_bipush (v := (-2 : Int32)) hx hb dX7_book_36 (by decide) ?_
        obtain ⟨hr1, hu⟩ := gret_s hf
        subst hr1
        subst hu
        subst hQ
        exact g_iret C0 hG hr dX7_book_38
    · have hf := gif_t c3 hf
      refine lv_iconst (v := (-1 : Int32)) hx hb dX7_book_24 (by decide) ?_
      obtain ⟨hr1, hu⟩ := gret_s hf
      subst hr1
      subst hu
      subst hQ
      exact g_iret C0 hG hr dX7_book_25
  · have hf := gif_t c1 hf
    refine lv_aload_n hx hb dX7_book_5 rfl (lv_at hl 0 rfl) ?_
    refine g_getSa (o := 37) (a := 37) C0 hG (L0 hG) rfl 3 (by decide) rfl rfl w_332 dX7_book_6 ?_
    refine g_getSaN (o := 9) (a := 46) C0 hG (L37 hG) rfl 2 (by decide) rfl rfl w_250 dX7_book_9 ?_
    obtain ⟨r7, u7, hc7, hf⟩ := obind_s hf
    refine g_doI0 hG (g_runVN C0 hG (k_X2_clear l D base Z u 46 r7 u7 O46 hc7) m_X2_clear v_X2_clear w_691 (by decide) (g_recv C0 hG (L46 hG) rfl) rfl hl.1 rfl (Nat.le_of_ble_eq_true rfl) dX7_book_12 ⟨Nat.zero_le _, Nat.zero_le _⟩) (fun H locs hG hk => ?_)
    obtain ⟨hr1, hu⟩ := gret_s hf
    subst hr1
    subst hu
    subst hQ
    exact g_iret C0 hG hr dX7_book_15
