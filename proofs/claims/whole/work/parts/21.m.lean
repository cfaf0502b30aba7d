theorem dX8_body_0 : decode cX8_body 0 = .ok (.aload_n 0, 1) := by decide +kernel
theorem dX8_body_1 : decode cX8_body 1 = .ok (.getfield 226, 3) := by decide +kernel
theorem dX8_body_4 : decode cX8_body 4 = .ok (.bipush 20, 2) := by decide +kernel
theorem dX8_body_6 : decode cX8_body 6 = .ok (.if_icmp .ge 13, 3) := by decide +kernel
theorem dX8_body_9 : decode cX8_body 9 = .ok (.aload_n 0, 1) := by decide +kernel
theorem dX8_body_10 : decode cX8_body 10 = .ok (.getfield 229, 3) := by decide +kernel
theorem dX8_body_13 : decode cX8_body 13 = .ok (.aload_n 0, 1) := by decide +kernel
theorem dX8_body_14 : decode cX8_body 14 = .ok (.getfield 226, 3) := by decide +kernel
theorem dX8_body_17 : decode cX8_body 17 = .ok (.iload_n 1, 1) := by decide +kernel
theorem dX8_body_18 : decode cX8_body 18 = .ok (.iastore, 1) := by decide +kernel
theorem dX8_body_19 : decode cX8_body 19 = .ok (.aload_n 0, 1) := by decide +kernel
theorem dX8_body_20 : decode cX8_body 20 = .ok (.dup, 1) := by decide +kernel
theorem dX8_body_21 : decode cX8_body 21 = .ok (.getfield 226, 3) := by decide +kernel
theorem dX8_body_24 : decode cX8_body 24 = .ok (.iconst 1, 1) := by decide +kernel
theorem dX8_body_25 : decode cX8_body 25 = .ok (.iadd, 1) := by decide +kernel
theorem dX8_body_26 : decode cX8_body 26 = .ok (.putfield 226, 3) := by decide +kernel
theorem dX8_body_29 : decode cX8_body 29 = .ok (.return_, 1) := by decide +kernel
def f_X8_body (p1 : Int32) (u : Mem) : Option (Unit × Mem) := (if (20 : Int32) ≤ (gI u 82 71) then some ((), sI u 82 71 ((gI u 82 71) + (1 : Int32))) else gin (gI u 82 71) 20 (some ((), sI (sA u 124 (gI u 82 71).toNatClampNeg p1) 82 71 ((gI (sA u 124 (gI u 82 71).toNatClampNeg p1) 82 71) + (1 : Int32)))))
set_option maxHeartbeats 4000000 in
set_option maxRecDepth 100000 in
theorem k_X8_body (l : Launch) (D : gDt) (base : Nat) (Z : gZt) (u : Mem) (p1 : Int32) (u' : Mem) (hf : f_X8_body p1 u = some ((), u')) : Met l yX8_body (gws yX8_body cX8_body 2 (none)) (gRm 1 0 0) (gPc D base Z u [.ref (base + 82), .int p1]) (gQv D base u') 0 0 (gF base) := by
  refine Met.ofW (cc := cX8_body) (maxL := 2) (ret := none) (by decide) rfl ?_
  intro p e s m args below meth c s₁ B hml hv
  obtain ⟨rfl, C0, hG⟩ := g_enter B hml hv
  have hr := B.returns
  have C0 : gC p s m meth c _ cX8_body 2 RX8 D base Z := C0
  have hx := C0.1
  have hb := C0.2.1
  have hl := lv_entry ([.ref (base + 82), .int p1]) (n := 2) (Nat.le_of_ble_eq_true rfl)
  rw [lg_entry_eq]
  generalize (lg_sl ([.ref (base + 82), .int p1]) ++ List.replicate (2 - (lg_sl ([.ref (base + 82), .int p1])).length) Slot.unset).toArray = ls at hl ⊢
  have hl : lv_has ls 2 [(0, .ref (base + 82)), (1, .int p1)] := hl
  obtain ⟨Q, hQ⟩ : ∃ Q, Q = MQ below (gQv D base u') ([.ref (base + 82), .int p1] : List Value).toArray s 0 0 (gF base) := ⟨_, rfl⟩
  rw [← hQ]
  change W p l e (gRm 1 0 0) s m _ below meth c _ _ _ _ _ _
  unfold f_X8_body at hf
  refine lv_aload_n hx hb dX8_body_0 rfl (lv_at hl 0 rfl) ?_
  refine g_getI C0 hG (L82 hG) rfl 71 (by decide) rfl w_917 dX8_body_1 ?_
  refine lv_bipush (v := (20 : Int32)) hx hb dX8_body_4 (by decide) ?_
  refine lv_icmp_ge (tgt := 19) hx hb dX8_body_6 (by decide) (fun c1 => ?_) (fun c1 => ?_)
  · have hf := gif_t c1 hf
    refine lv_aload_n hx hb dX8_body_19 rfl (lv_at hl 0 rfl) ?_
    refine lv_dup hx hb dX8_body_20 rfl ?_
    refine g_getI C0 hG (L82 hG) rfl 71 (by decide) rfl w_917 dX8_body_21 ?_
    refine lv_iconst (v := (1 : Int32)) hx hb dX8_body_24 (by decide) ?_
    refine lv_iadd hx hb dX8_body_25 ?_
    refine g_putI (ty := .int) C0 hG (L82 hG) rfl 71 (by decide) rfl w_917 rfl (by decide) rfl rfl dX8_body_26 (fun H locs hG => ?_)
    obtain ⟨-, hu⟩ := gret_s hf
    subst hu
    subst hQ
    exact g_vret C0 hG hr dX8_body_29
  · have hf := gif_f c1 hf
    refine lv_aload_n hx hb dX8_body_9 rfl (lv_at hl 0 rfl) ?_
    refine g_getSa (o := 42) (a := 124) C0 hG (L82 hG) rfl 72 (by decide) rfl rfl w_918 dX8_body_10 ?_
    refine lv_aload_n hx hb dX8_body_13 rfl (lv_at hl 0 rfl) ?_
    refine g_getI C0 hG (L82 hG) rfl 71 (by decide) rfl w_917 dX8_body_14 ?_
    refine lv_iload_n hx hb dX8_body_17 rfl (lv_at hl 1 rfl) ?_
    obtain ⟨h2, hf⟩ := gin_s hf
    refine g_iast C0 hG (L124 hG) h2 dX8_body_18 (fun H locs hG => ?_)
    refine lv_aload_n hx hb dX8_body_19 rfl (lv_at hl 0 rfl) ?_
    refine lv_dup hx hb dX8_body_20 rfl ?_
    refine g_getI C0 hG (L82 hG) rfl 71 (by decide) rfl w_917 dX8_body_21 ?_
    refine lv_iconst (v := (1 : Int32)) hx hb dX8_body_24 (by decide) ?_
    refine lv_iadd hx hb dX8_body_25 ?_
    refine g_putI (ty := .int) C0 hG (L82 hG) rfl 71 (by decide) rfl w_917 rfl (by decide) rfl rfl dX8_body_26 (fun H locs hG => ?_)
    obtain ⟨-, hu⟩ := gret_s hf
    subst hu
    subst hQ
    exact g_vret C0 hG hr dX8_body_29
theorem dX8_oneHums_0 : decode cX8_oneHums 0 = .ok (.aload_n 0, 1) := by decide +kernel
theorem dX8_oneHums_1 : decode cX8_oneHums 1 = .ok (.bipush 10, 2) := by decide +kernel
theorem dX8_oneHums_3 : decode cX8_oneHums 3 = .ok (.invokevirtual 410, 3) := by decide +kernel
theorem dX8_oneHums_6 : decode cX8_oneHums 6 = .ok (.iload_n 2, 1) := by decide +kernel
theorem dX8_oneHums_7 : decode cX8_oneHums 7 = .ok (.iload_n 1, 1) := by decide +kernel
theorem dX8_oneHums_8 : decode cX8_oneHums 8 = .ok (.iadd, 1) := by decide +kernel
theorem dX8_oneHums_9 : decode cX8_oneHums 9 = .ok (.ireturn, 1) := by decide +kernel
def f_X8_oneHums (p1 : Int32) (p2 : Int32) (u : Mem) : Option (Int32 × Mem) := obind (f_X8_body (10 : Int32) u) (fun _ u1 => some (p2 + p1, u1))
set_option maxHeartbeats 4000000 in
set_option maxRecDepth 100000 in
theorem k_X8_oneHums (l : Launch) (D : gDt) (base : Nat) (Z : gZt) (u : Mem) (p1 : Int32) (p2 : Int32) (r : Int32) (u' : Mem) (hf : f_X8_oneHums p1 p2 u = some (r, u')) : Met l yX8_oneHums (gws yX8_oneHums cX8_oneHums 3 (some .int)) (gRm 2 0 0) (gPc D base Z u [.ref (base + 82), .int p1, .int p2]) (gQi D base r u') 0 0 (gF base) := by
  refine Met.ofW (cc := cX8_oneHums) (maxL := 3) (ret := some .int) (by decide) rfl ?_
  intro p e s m args below meth c s₁ B hml hv
  obtain ⟨rfl, C0, hG⟩ := g_enter B hml hv
  have hr := B.returns
  have C0 : gC p s m meth c _ cX8_oneHums 3 RX8 D base Z := C0
  have hx := C0.1
  have hb := C0.2.1
  have hl := lv_entry ([.ref (base + 82), .int p1, .int p2]) (n := 3) (Nat.le_of_ble_eq_true rfl)
  rw [lg_entry_eq]
  generalize (lg_sl ([.ref (base + 82), .int p1, .int p2]) ++ List.replicate (3 - (lg_sl ([.ref (base + 82), .int p1, .int p2])).length) Slot.unset).toArray = ls at hl ⊢
  have hl : lv_has ls 3 [(0, .ref (base + 82)), (1, .int p1), (2, .int p2)] := hl
  obtain ⟨Q, hQ⟩ : ∃ Q, Q = MQ below (gQi D base r u') ([.ref (base + 82), .int p1, .int p2] : List Value).toArray s 0 0 (gF base) := ⟨_, rfl⟩
  rw [← hQ]
  change W p l e (gRm 2 0 0) s m _ below meth c _ _ _ _ _ _
  unfold f_X8_oneHums at hf
  refine lv_aload_n hx hb dX8_oneHums_0 rfl (lv_at hl 0 rfl) ?_
  refine lv_bipush (v := (10 : Int32)) hx hb dX8_oneHums_1 (by decide) ?_
  obtain ⟨_, u1, hc1, hf⟩ := obind_s hf
  refine g_doV0 hG (g_runV C0 hG (k_X8_body l D base Z u (10 : Int32) u1 hc1) m_X8_body v_X8_body w_1392 (by decide) (g_recv C0 hG (L82 hG) rfl) rfl hl.1 rfl (Nat.le_of_ble_eq_true rfl) dX8_oneHums_3 ⟨Nat.zero_le _, Nat.zero_le _⟩) (fun H locs hG hk => ?_)
  refine lv_iload_n hx hb dX8_oneHums_6 rfl (lv_at hl 2 rfl) ?_
  refine lv_iload_n hx hb dX8_oneHums_7 rfl (lv_at hl 1 rfl) ?_
  refine lv_iadd hx hb dX8_oneHums_8 ?_
  obtain ⟨hr1, hu⟩ := gret_s hf
  subst hr1
  subst hu
  subst hQ
  exact g_iret C0 hG hr dX8_oneHums_9
theorem dX8_humsAct_0 : decode cX8_humsAct 0 = .ok (.aload_n 0, 1) := by decide +kernel
theorem dX8_humsAct_1 : decode cX8_humsAct 1 = .ok (.getfield 25, 3) := by decide +kernel
theorem dX8_humsAct_4 : decode cX8_humsAct 4 = .ok (.iload_n 1, 1) := by decide +kernel
theorem dX8_humsAct_5 : decode cX8_humsAct 5 = .ok (.iaload, 1) := by decide +kernel
theorem dX8_humsAct_6 : decode cX8_humsAct 6 = .ok (.tableswitch 83 2 6 #[34, 83, 49, 34, 63], 34) := by decide +kernel
theorem dX8_humsAct_40 : decode cX8_humsAct 40 = .ok (.aload_n 0, 1) := by decide +kernel
theorem dX8_humsAct_41 : decode cX8_humsAct 41 = .ok (.bipush 30, 2) := by decide +kernel
theorem dX8_humsAct_43 : decode cX8_humsAct 43 = .ok (.invokevirtual 410, 3) := by decide +kernel
theorem dX8_humsAct_46 : decode cX8_humsAct 46 = .ok (.aload_n 0, 1) := by decide +kernel
theorem dX8_humsAct_47 : decode cX8_humsAct 47 = .ok (.iload_n 1, 1) := by decide +kernel
theorem dX8_humsAct_48 : decode cX8_humsAct 48 = .ok (.iload_n 2, 1) := by decide +kernel
theorem dX8_humsAct_49 : decode cX8_humsAct 49 = .ok (.iconst 3, 1) := by decide +kernel
theorem dX8_humsAct_50 : decode cX8_humsAct 50 = .ok (.imul, 1) := by decide +kernel
theorem dX8_humsAct_51 : decode cX8_humsAct 51 = .ok (.invokevirtual 413, 3) := by decide +kernel
theorem dX8_humsAct_54 : decode cX8_humsAct 54 = .ok (.ireturn, 1) := by decide +kernel
theorem dX8_humsAct_55 : decode cX8_humsAct 55 = .ok (.aload_n 0, 1) := by decide +kernel
theorem dX8_humsAct_56 : decode cX8_humsAct 56 = .ok (.bipush 50, 2) := by decide +kernel
theorem dX8_humsAct_58 : decode cX8_humsAct 58 = .ok (.invokevirtual 410, 3) := by decide +kernel
theorem dX8_humsAct_61 : decode cX8_humsAct 61 = .ok (.aload_n 0, 1) := by decide +kernel
theorem dX8_humsAct_62 : decode cX8_humsAct 62 = .ok (.iload_n 1, 1) := by decide +kernel
theorem dX8_humsAct_63 : decode cX8_humsAct 63 = .ok (.iload_n 2, 1) := by decide +kernel
theorem dX8_humsAct_64 : decode cX8_humsAct 64 = .ok (.invokevirtual 413, 3) := by decide +kernel
theorem dX8_humsAct_67 : decode cX8_humsAct 67 = .ok (.ineg, 1) := by decide +kernel
theorem dX8_humsAct_68 : decode cX8_humsAct 68 = .ok (.ireturn, 1) := by decide +kernel
theorem dX8_humsAct_69 : decode cX8_humsAct 69 = .ok (.aload_n 0, 1) := by decide +kernel
theorem dX8_humsAct_70 : decode cX8_humsAct 70 = .ok (.bipush 71, 2) := by decide +kernel
theorem dX8_humsAct_72 : decode cX8_humsAct 72 = .ok (.invokevirtual 410, 3) := by decide +kernel
theorem dX8_humsAct_75 : decode cX8_humsAct 75 = .ok (.aload_n 0, 1) := by decide +kernel
theorem dX8_humsAct_76 : decode cX8_humsAct 76 = .ok (.iload_n 1, 1) := by decide +kernel
theorem dX8_humsAct_77 : decode cX8_humsAct 77 = .ok (.iload_n 2, 1) := by decide +kernel
theorem dX8_humsAct_78 : decode cX8_humsAct 78 = .ok (.invokevirtual 413, 3) := by decide +kernel
theorem dX8_humsAct_81 : decode cX8_humsAct 81 = .ok (.aload_n 0, 1) := by decide +kernel
theorem dX8_humsAct_82 : decode cX8_humsAct 82 = .ok (.getfield 29, 3) := by decide +kernel
theorem dX8_humsAct_85 : decode cX8_humsAct 85 = .ok (.iload_n 1, 1) := by decide +kernel
theorem dX8_humsAct_86 : decode cX8_humsAct 86 = .ok (.iaload, 1) := by decide +kernel
theorem dX8_humsAct_87 : decode cX8_humsAct 87 = .ok (.ixor, 1) := by decide +kernel
theorem dX8_humsAct_88 : decode cX8_humsAct 88 = .ok (.ireturn, 1) := by decide +kernel
theorem dX8_humsAct_89 : decode cX8_humsAct 89 = .ok (.aload_n 0, 1) := by decide +kernel
theorem dX8_humsAct_90 : decode cX8_humsAct 90 = .ok (.iload_n 1, 1) := by decide +kernel
theorem dX8_humsAct_91 : decode cX8_humsAct 91 = .ok (.iload_n 2, 1) := by decide +kernel
theorem dX8_humsAct_92 : decode cX8_humsAct 92 = .ok (.invokevirtual 413, 3) := by decide +kernel
theorem dX8_humsAct_95 : decode cX8_humsAct 95 = .ok (.ireturn, 1) := by decide +kernel
def f_X8_humsAct (p1 : Int32) (p2 : Int32) (u : Mem) : Option (Int32 × Mem) := gin p1 6 ((if (gA u 83 p1.toNatClampNeg) = (2 : Int32) then obind (f_X8_body (30 : Int32) u) (fun _ u3 => obind (f_X8_oneHums p1 (p2 * (3 : Int32)) u3) (fun r4 u4 => some (r4, u4))) else (if (gA u 83 p1.toNatClampNeg) = (4 : Int32) then obind (f_X8_body (50 : Int32) u) (fun _ u6 => obind (f_X8_oneHums p1 p2 u6) (fun r7 u7 => some (-r7, u7))) else (if (gA u 83 p1.toNatClampNeg) = (5 : Int32) then obind (f_X8_body (30 : Int32) u) (fun _ u9 => obind (f_X8_oneHums p1 (p2 * (3 : Int32)) u9) (fun r10 u10 => some (r10, u10))) else (if (gA u 83 p1.toNatClampNeg) = (6 : Int32) then obind (f_X8_body (71 : Int32) u) (fun _ u12 => obind (f_X8_oneHums p1 p2 u12) (fun r13 u13 => gin p1 6 (some (r13 ^^^ (gA u13 84 p1.toNatClampNeg), u13)))) else obind (f_X8_oneHums p1 p2 u) (fun r15 u15 => some (r15, u15)))))))
set_option maxHeartbeats 4000000 in
set_option maxRecDepth 100000 in
theorem k_X8_humsAct (l : Launch) (D : gDt) (base : Nat) (Z : gZt) (u : Mem) (p1 : Int32) (p2 : Int32) (r : Int32) (u' : Mem) (hf : f_X8_humsAct p1 p2 u = some (r, u')) : Met l yX8_humsAct (gws yX8_humsAct cX8_humsAct 3 (some .int)) (gRm 3 0 0) (gPc D base Z u [.ref (base + 82), .int p1, .int p2]) (gQi D base r u') 0 0 (gF base) := by
  refine Met.ofW (cc := cX8_humsAct) (maxL := 3) (ret := some .int) (by decide) rfl ?_
  intro p e s m args below meth c s₁ B hml hv
  obtain ⟨rfl, C0, hG⟩ := g_enter B hml hv
  have hr := B.returns
  have C0 : gC p s m meth c _ cX8_humsAct 3 RX8 D base Z := C0
  have hx := C0.1
  have hb := C0.2.1
  have hl := lv_entry ([.ref (base + 82), .int p1, .int p2]) (n := 3) (Nat.le_of_ble_eq_true rfl)
  rw [lg_entry_eq]
  generalize (lg_sl ([.ref (base + 82), .int p1, .int p2]) ++ List.replicate (3 - (lg_sl ([.ref (base + 82), .int p1, .int p2])).length) Slot.unset).toArray = ls at hl ⊢
  have hl : lv_has ls 3 [(0, .ref (base + 82)), (1, .int p1), (2, .int p2)] := hl
  obtain ⟨Q, hQ⟩ : ∃ Q, Q = MQ below (gQi D base r u') ([.ref (base + 82), .int p1, .int p2] : List Value).toArray s 0 0 (gF base) := ⟨_, rfl⟩
  rw [← hQ]
  change W p l e (gRm 3 0 0) s m _ below meth c _ _ _ _ _ _
  unfold f_X8_humsAct at hf
  refine lv_aload_n hx hb dX8_humsAct_0 rfl (lv_at hl 0 rfl) ?_
  refine g_getSa (o := 1) (a := 83) C0 hG (L82 hG) rfl 5 (by decide) rfl rfl w_851 dX8_humsAct_1 ?_
  refine lv_iload_n hx hb dX8_humsAct_4 rfl (lv_at hl 1 rfl) ?_
  obtain ⟨h1, hf⟩ := gin_s hf
  refine g_iald C0 hG (L83 hG) h1 dX8_humsAct_5 ?_
  refine (Decidable.em ((gA u 83 p1.toNatClampNeg) = (2 : Int32))).elim (fun c2 => ?_) (fun c2 => ?_)
  · have hf := gif_t c2 hf
    refine lv_tableIn (off := 34) (tgt := 40) hx hb dX8_humsAct_6 (by rw [c2]; decide) (by rw [c2]; decide) (by rw [c2]; rfl) (by decide) ?_
    refine lv_aload_n hx hb dX8_humsAct_40 rfl (lv_at hl 0 rfl) ?_
    refine lv_bipush (v := (30 : Int32)) hx hb dX8_humsAct_41 (by decide) ?_
    obtain ⟨_, u3, hc3, hf⟩ := obind_s hf
    refine g_doV0 hG (g_runV C0 hG (k_X8_body l D base Z u (30 : Int32) u3 hc3) m_X8_body v_X8_body w_1392 (by decide) (g_recv C0 hG (L82 hG) rfl) rfl hl.1 rfl (Nat.le_of_ble_eq_true rfl) dX8_humsAct_43 ⟨Nat.zero_le _, Nat.zero_le _⟩) (fun H locs hG hk => ?_)
    refine lv_aload_n hx hb dX8_humsAct_46 rfl (lv_at hl 0 rfl) ?_
    refine lv_iload_n hx hb dX8_humsAct_47 rfl (lv_at hl 1 rfl) ?_
    refine lv_iload_n hx hb dX8_humsAct_48 rfl (lv_at hl 2 rfl) ?_
    refine lv_iconst (v := (3 : Int32)) hx hb dX8_humsAct_49 (by decide) ?_
    refine lv_imul hx hb dX8_humsAct_50 ?_
    obtain ⟨r4, u4, hc4, hf⟩ := obind_s hf
    refine g_doI0 hG (g_runV C0 hG (k_X8_oneHums l D base Z u3 p1 (p2 * (3 : Int32)) r4 u4 hc4) m_X8_oneHums v_X8_oneHums w_1396 (by decide) (g_recv C0 hG (L82 hG) rfl) rfl hl.1 rfl (Nat.le_of_ble_eq_true rfl) dX8_humsAct_51 ⟨Nat.zero_le _, Nat.zero_le _⟩) (fun H locs hG hk => ?_)
    obtain ⟨hr1, hu⟩ := gret_s hf
    subst hr1
    subst hu
    subst hQ
    exact g_iret C0 hG hr dX8_humsAct_54
  · have hf := gif_f c2 hf
    refine (Decidable.em ((gA u 83 p1.toNatClampNeg) = (4 : Int32))).elim (fun c5 => ?_) (fun c5 => ?_)
    · have hf := gif_t c5 hf
      refine lv_tableIn (off := 49) (tgt := 55) hx hb dX8_humsAct_6 (by rw [c5]; decide) (by rw [c5]; decide) (by rw [c5]; rfl) (by decide) ?_
      refine lv_aload_n hx hb dX8_humsAct_55 rfl (lv_at hl 0 rfl) ?_
      refine lv_bipush (v := (50 : Int32)) hx hb dX8_humsAct_56 (by decide) ?_
      obtain ⟨_, u6, hc6, hf⟩ := obind_s hf
      refine g_doV0 hG (g_runV C0 hG (k_X8_body l D base Z u (50 : Int32) u6 hc6) m_X8_body v_X8_body w_1392 (by decide) (g_recv C0 hG (L82 hG) rfl) rfl hl.1 rfl (Nat.le_of_ble_eq_true rfl) dX8_humsAct_58 ⟨Nat.zero_le _, Nat.zero_le _⟩) (fun H locs hG hk => ?_)
      refine lv_aload_n hx hb dX8_humsAct_61 rfl (lv_at hl 0 rfl) ?_
      refine lv_iload_n hx hb dX8_humsAct_62 rfl (lv_at hl 1 rfl) ?_
      refine lv_iload_n hx hb dX8_humsAct_63 rfl (lv_at hl 2 rfl) ?_
      obtain ⟨r7, u7, hc7, hf⟩ := obind_s hf
      refine g_doI0 hG (g_runV C0 hG (k_X8_oneHums l D base Z u6 p1 p2 r7 u7 hc7) m_X8_oneHums v_X8_oneHums w_1396 (by decide) (g_recv C0 hG (L82 hG) rfl) rfl hl.1 rfl (Nat.le_of_ble_eq_true rfl) dX8_humsAct_64 ⟨Nat.zero_le _, Nat.zero_le _⟩) (fun H locs hG hk => ?_)
      refine lv_ineg hx hb dX8_humsAct_67 ?_
      obtain ⟨hr1, hu⟩ := gret_s hf
      subst hr1
      subst hu
      subst hQ
      exact g_iret C0 hG hr dX8_humsAct_68
    · have hf := gif_f c5 hf
      refine (Decidable.em ((gA u 83 p1.toNatClampNeg) = (5 : Int32))).elim (fun c8 => ?_) (fun c8 => ?_)
      · have hf := gif_t c8 hf
        refine lv_tableIn (off := 34) (tgt := 40) hx hb dX8_humsAct_6 (by rw [c8]; decide) (by rw [c8]; decide) (by rw [c8]; rfl) (by decide) ?_
        refine lv_aload_n hx hb dX8_humsAct_40 rfl (lv_at hl 0 rfl) ?_
        refine lv_bipush (v := (30 : Int32)) hx hb dX8_humsAct_41 (by decide) ?_
        obtain ⟨_, u9, hc9, hf⟩ := obind_s hf
        refine g_doV0 hG (g_runV C0 hG (k_X8_body l D base Z u (30 : Int32) u9 hc9) m_X8_body v_X8_body w_1392 (by decide) (g_recv C0 hG (L82 hG) rfl) rfl hl.1 rfl (Nat.le_of_ble_eq_true rfl) dX8_humsAct_43 ⟨Nat.zero_le _, Nat.zero_le _⟩) (fun H locs hG hk => ?_)
        refine lv_aload_n hx hb dX8_humsAct_46 rfl (lv_at hl 0 rfl) ?_
        refine lv_iload_n hx hb dX8_humsAct_47 rfl (lv_at hl 1 rfl) ?_
        refine lv_iload_n hx hb dX8_humsAct_48 rfl (lv_at hl 2 rfl) ?_
        refine lv_iconst (v := (3 : Int32)) hx hb dX8_humsAct_49 (by decide) ?_
        refine lv_imul hx hb dX8_humsAct_50 ?_
        obtain ⟨r10, u10, hc10, hf⟩ := obind_s hf
        refine g_doI0 hG (g_runV C0 hG (k_X8_oneHums l D base Z u9 p1 (p2 * (3 : Int32)) r10 u10 hc10) m_X8_oneHums v_X8_oneHums w_1396 (by decide) (g_recv C0 hG (L82 hG) rfl) rfl hl.1 rfl (Nat.le_of_ble_eq_true rfl) dX8_humsAct_51 ⟨Nat.zero_le _, Nat.zero_le _⟩) (fun H locs hG hk => ?_)
        obtain ⟨hr1, hu⟩ := gret_s hf
        subst hr1
        subst hu
        subst hQ
        exact g_iret C0 hG hr dX8_humsAct_54
      · have hf := gif_f c8 hf
        refine (Decidable.em ((gA u 83 p1.toNatClampNeg) = (6 : Int32))).elim (fun c11 => ?_) (fun c11 => ?_)
        · have hf := gif_t c11 hf
          refine lv_tableIn (off := 63) (tgt := 69) hx hb dX8_humsAct_6 (by rw [c11]; decide) (by rw [c11]; decide) (by rw [c11]; rfl) (by decide) ?_
          refine lv_aload_n hx hb dX8_humsAct_69 rfl (lv_at hl 0 rfl) ?_
          refine lv_bipush (v := (71 : Int32)) hx hb dX8_humsAct_70 (by decide) ?_
          obtain ⟨_, u12, hc12, hf⟩ := obind_s hf
          refine g_doV0 hG (g_runV C0 hG (k_X8_body l D base Z u (71 : Int32) u12 hc12) m_X8_body v_X8_body w_1392 (by decide) (g_recv C0 hG (L82 hG) rfl) rfl hl.1 rfl (Nat.le_of_ble_eq_true rfl) dX8_humsAct_72 ⟨Nat.zero_le _, Nat.zero_le _⟩) (fun H locs hG hk => ?_)
          refine lv_aload_n hx hb dX8_humsAct_75 rfl (lv_at hl 0 rfl) ?_
          refine lv_iload_n hx hb dX8_humsAct_76 rfl (lv_at hl 1 rfl) ?_
          refine lv_iload_n hx hb dX8_humsAct_77 rfl (lv_at hl 2 rfl) ?_
          obtain ⟨r13, u13, hc13, hf⟩ := obind_s hf
          refine g_doI0 hG (g_runV C0 hG (k_X8_oneHums l D base Z u12 p1 p2 r13 u13 hc13) m_X8_oneHums v_X8_oneHums w_1396 (by decide) (g_recv C0 hG (L82 hG) rfl) rfl hl.1 rfl (Nat.le_of_ble_eq_true rfl) dX8_humsAct_78 ⟨Nat.zero_le _, Nat.zero_le _⟩) (fun H locs hG hk => ?_)
          refine lv_aload_n hx hb dX8_humsAct_81 rfl (lv_at hl 0 rfl) ?_
          refine g_getSa (o := 2) (a := 84) C0 hG (L82 hG) rfl 6 (by decide) rfl rfl w_852 dX8_humsAct_82 ?_
          refine lv_iload_n hx hb dX8_humsAct_85 rfl (lv_at hl 1 rfl) ?_
          obtain ⟨h14, hf⟩ := gin_s hf
          refine g_iald C0 hG (L84 hG) h14 dX8_humsAct_86 ?_
          refine lv_ixor hx hb dX8_humsAct_87 ?_
          obtain ⟨hr1, hu⟩ := gret_s hf
          subst hr1
          subst hu
          subst hQ
          exact g_iret C0 hG hr dX8_humsAct_88
        · have hf := gif_f c11 hf
          refine gsw_def (lo := 2) (hi := 6) (tgt := 89) hx hb dX8_humsAct_6 (by
              have n0 := lv_neT c2 (k := (2 : Int32)) (a := 2) (by decide)
              have n1 := lv_neT c5 (k := (4 : Int32)) (a := 4) (by decide)
              have n2 := lv_neT c8 (k := (5 : Int32)) (a := 5) (by decide)
              have n3 := lv_neT c11 (k := (6 : Int32)) (a := 6) (by decide)
              intro h1 h2
              have h3 : (gA u 83 p1.toNatClampNeg).toInt = 3 := by omega
              (rw [h3]; rfl)) (by decide) ?_
          refine lv_aload_n hx hb dX8_humsAct_89 rfl (lv_at hl 0 rfl) ?_
          refine lv_iload_n hx hb dX8_humsAct_90 rfl (lv_at hl 1 rfl) ?_
          refine lv_iload_n hx hb dX8_humsAct_91 rfl (lv_at hl 2 rfl) ?_
          obtain ⟨r15, u15, hc15, hf⟩ := obind_s hf
          refine g_doI0 hG (g_runV C0 hG (k_X8_oneHums l D base Z u p1 p2 r15 u15 hc15) m_X8_oneHums v_X8_oneHums w_1396 (by decide) (g_recv C0 hG (L82 hG) rfl) rfl hl.1 rfl (Nat.le_of_ble_eq_true rfl) dX8_humsAct_92 ⟨Nat.zero_le _, Nat.zero_le _⟩) (fun H locs hG hk => ?_)
          obtain ⟨hr1, hu⟩ := gret_s hf
          subst hr1
          subst hu
          subst hQ
          exact g_iret C0 hG hr dX8_humsAct_95
theorem dX8_oneLeans_0 : decode cX8_oneLeans 0 = .ok (.aload_n 0, 1) := by decide +kernel
theorem dX8_oneLeans_1 : decode cX8_oneLeans 1 = .ok (.bipush 11, 2) := by decide +kernel
theorem dX8_oneLeans_3 : decode cX8_oneLeans 3 = .ok (.invokevirtual 410, 3) := by decide +kernel
theorem dX8_oneLeans_6 : decode cX8_oneLeans 6 = .ok (.aload_n 0, 1) := by decide +kernel
theorem dX8_oneLeans_7 : decode cX8_oneLeans 7 = .ok (.iload_n 1, 1) := by decide +kernel
theorem dX8_oneLeans_8 : decode cX8_oneLeans 8 = .ok (.iload_n 2, 1) := by decide +kernel
theorem dX8_oneLeans_9 : decode cX8_oneLeans 9 = .ok (.invokevirtual 416, 3) := by decide +kernel
theorem dX8_oneLeans_12 : decode cX8_oneLeans 12 = .ok (.aload_n 0, 1) := by decide +kernel
theorem dX8_oneLeans_13 : decode cX8_oneLeans 13 = .ok (.getfield 29, 3) := by decide +kernel
theorem dX8_oneLeans_16 : decode cX8_oneLeans 16 = .ok (.iload_n 1, 1) := by decide +kernel
theorem dX8_oneLeans_17 : decode cX8_oneLeans 17 = .ok (.iaload, 1) := by decide +kernel
theorem dX8_oneLeans_18 : decode cX8_oneLeans 18 = .ok (.isub, 1) := by decide +kernel
theorem dX8_oneLeans_19 : decode cX8_oneLeans 19 = .ok (.ireturn, 1) := by decide +kernel
def f_X8_oneLeans (p1 : Int32) (p2 : Int32) (u : Mem) : Option (Int32 × Mem) := obind (f_X8_body (11 : Int32) u) (fun _ u1 => obind (f_X8_humsAct p1 p2 u1) (fun r2 u2 => gin p1 6 (some (r2 - (gA u2 84 p1.toNatClampNeg), u2))))
set_option maxHeartbeats 4000000 in
set_option maxRecDepth 100000 in
theorem k_X8_oneLeans (l : Launch) (D : gDt) (base : Nat) (Z : gZt) (u : Mem) (p1 : Int32) (p2 : Int32) (r : Int32) (u' : Mem) (hf : f_X8_oneLeans p1 p2 u = some (r, u')) : Met l yX8_oneLeans (gws yX8_oneLeans cX8_oneLeans 3 (some .int)) (gRm 4 0 0) (gPc D base Z u [.ref (base + 82), .int p1, .int p2]) (gQi D base r u') 0 0 (gF base) := by
  refine Met.ofW (cc := cX8_oneLeans) (maxL := 3) (ret := some .int) (by decide) rfl ?_
  intro p e s m args below meth c s₁ B hml hv
  obtain ⟨rfl, C0, hG⟩ := g_enter B hml hv
  have hr := B.returns
  have C0 : gC p s m meth c _ cX8_oneLeans 3 RX8 D base Z := C0
  have hx := C0.1
  have hb := C0.2.1
  have hl := lv_entry ([.ref (base + 82), .int p1, .int p2]) (n := 3) (Nat.le_of_ble_eq_true rfl)
  rw [lg_entry_eq]
  generalize (lg_sl ([.ref (base + 82), .int p1, .int p2]) ++ List.replicate (3 - (lg_sl ([.ref (base + 82), .int p1, .int p2])).length) Slot.unset).toArray = ls at hl ⊢
  have hl : lv_has ls 3 [(0, .ref (base + 82)), (1, .int p1), (2, .int p2)] := hl
  obtain ⟨Q, hQ⟩ : ∃ Q, Q = MQ below (gQi D base r u') ([.ref (base + 82), .int p1, .int p2] : List Value).toArray s 0 0 (gF base) := ⟨_, rfl⟩
  rw [← hQ]
  change W p l e (gRm 4 0 0) s m _ below meth c _ _ _ _ _ _
  unfold f_X8_oneLeans at hf
  refine lv_aload_n hx hb dX8_oneLeans_0 rfl (lv_at hl 0 rfl) ?_
  refine lv_bipush (v := (11 : Int32)) hx hb dX8_oneLeans_1 (by decide) ?_
  obtain ⟨_, u1, hc1, hf⟩ := obind_s hf
  refine g_doV0 hG (g_runV C0 hG (k_X8_body l D base Z u (11 : Int32) u1 hc1) m_X8_body v_X8_body w_1392 (by decide) (g_recv C0 hG (L82 hG) rfl) rfl hl.1 rfl (Nat.le_of_ble_eq_true rfl) dX8_oneLeans_3 ⟨Nat.zero_le _, Nat.zero_le _⟩) (fun H locs hG hk => ?_)
  refine lv_aload_n hx hb dX8_oneLeans_6 rfl (lv_at hl 0 rfl) ?_
  refine lv_iload_n hx hb dX8_oneLeans_7 rfl (lv_at hl 1 rfl) ?_
  refine lv_iload_n hx hb dX8_oneLeans_8 rfl (lv_at hl 2 rfl) ?_
  obtain ⟨r2, u2, hc2, hf⟩ := obind_s hf
  refine g_doI0 hG (g_runV C0 hG (k_X8_humsAct l D base Z u1 p1 p2 r2 u2 hc2) m_X8_humsAct v_X8_humsAct w_1388 (by decide) (g_recv C0 hG (L82 hG) rfl) rfl hl.1 rfl (Nat.le_of_ble_eq_true rfl) dX8_oneLeans_9 ⟨Nat.zero_le _, Nat.zero_le _⟩) (fun H locs hG hk => ?_)
  refine lv_aload_n hx hb dX8_oneLeans_12 rfl (lv_at hl 0 rfl) ?_
  refine g_getSa (o := 2) (a := 84) C0 hG (L82 hG) rfl 6 (by decide) rfl rfl w_852 dX8_oneLeans_13 ?_
  refine lv_iload_n hx hb dX8_oneLeans_16 rfl (lv_at hl 1 rfl) ?_
  obtain ⟨h3, hf⟩ := gin_s hf
  refine g_iald C0 hG (L84 hG) h3 dX8_oneLeans_17 ?_
  refine lv_isub hx hb dX8_oneLeans_18 ?_
  obtain ⟨hr1, hu⟩ := gret_s hf
  subst hr1
  subst hu
  subst hQ
  exact g_iret C0 hG hr dX8_oneLeans_19
theorem dX8_girlLeans_0 : decode cX8_girlLeans 0 = .ok (.aload_n 0, 1) := by decide +kernel
theorem dX8_girlLeans_1 : decode cX8_girlLeans 1 = .ok (.bipush 20, 2) := by decide +kernel
theorem dX8_girlLeans_3 : decode cX8_girlLeans 3 = .ok (.invokevirtual 410, 3) := by decide +kernel
theorem dX8_girlLeans_6 : decode cX8_girlLeans 6 = .ok (.aload_n 0, 1) := by decide +kernel
theorem dX8_girlLeans_7 : decode cX8_girlLeans 7 = .ok (.iload_n 1, 1) := by decide +kernel
theorem dX8_girlLeans_8 : decode cX8_girlLeans 8 = .ok (.iload_n 2, 1) := by decide +kernel
theorem dX8_girlLeans_9 : decode cX8_girlLeans 9 = .ok (.invokevirtual 419, 3) := by decide +kernel
theorem dX8_girlLeans_12 : decode cX8_girlLeans 12 = .ok (.bipush 6, 2) := by decide +kernel
theorem dX8_girlLeans_14 : decode cX8_girlLeans 14 = .ok (.ixor, 1) := by decide +kernel
theorem dX8_girlLeans_15 : decode cX8_girlLeans 15 = .ok (.ireturn, 1) := by decide +kernel
def f_X8_girlLeans (p1 : Int32) (p2 : Int32) (u : Mem) : Option (Int32 × Mem) := obind (f_X8_body (20 : Int32) u) (fun _ u1 => obind (f_X8_oneLeans p1 p2 u1) (fun r2 u2 => some (r2 ^^^ (6 : Int32), u2)))
set_option maxHeartbeats 4000000 in
set_option maxRecDepth 100000 in
theorem k_X8_girlLeans (l : Launch) (D : gDt) (base : Nat) (Z : gZt) (u : Mem) (p1 : Int32) (p2 : Int32) (r : Int32) (u' : Mem) (hf : f_X8_girlLeans p1 p2 u = some (r, u')) : Met l yX8_girlLeans (gws yX8_girlLeans cX8_girlLeans 3 (some .int)) (gRm 5 0 0) (gPc D base Z u [.ref (base + 82), .int p1, .int p2]) (gQi D base r u') 0 0 (gF base) := by
  refine Met.ofW (cc := cX8_girlLeans) (maxL := 3) (ret := some .int) (by decide) rfl ?_
  intro p e s m args below meth c s₁ B hml hv
  obtain ⟨rfl, C0, hG⟩ := g_enter B hml hv
  have hr := B.returns
  have C0 : gC p s m meth c _ cX8_girlLeans 3 RX8 D base Z := C0
  have hx := C0.1
  have hb := C0.2.1
  have hl := lv_entry ([.ref (base + 82), .int p1, .int p2]) (n := 3) (Nat.le_of_ble_eq_true rfl)
  rw [lg_entry_eq]
  generalize (lg_sl ([.ref (base + 82), .int p1, .int p2]) ++ List.replicate (3 - (lg_sl ([.ref (base + 82), .int p1, .int p2])).length) Slot.unset).toArray = ls at hl ⊢
  have hl : lv_has ls 3 [(0, .ref (base + 82)), (1, .int p1), (2, .int p2)] := hl
  obtain ⟨Q, hQ⟩ : ∃ Q, Q = MQ below (gQi D base r u') ([.ref (base + 82), .int p1, .int p2] : List Value).toArray s 0 0 (gF base) := ⟨_, rfl⟩
  rw [← hQ]
  change W p l e (gRm 5 0 0) s m _ below meth c _ _ _ _ _ _
  unfold f_X8_girlLeans at hf
  refine lv_aload_n hx hb dX8_girlLeans_0 rfl (lv_at hl 0 rfl) ?_
  refine lv_bipush (v := (20 : Int32)) hx hb dX8_girlLeans_1 (by decide) ?_
  obtain ⟨_, u1, hc1, hf⟩ := obind_s hf
  refine g_doV0 hG (g_runV C0 hG (k_X8_body l D base Z u (20 : Int32) u1 hc1) m_X8_body v_X8_body w_1392 (by decide) (g_recv C0 hG (L82 hG) rfl) rfl hl.1 rfl (Nat.le_of_ble_eq_true rfl) dX8_girlLeans_3 ⟨Nat.zero_le _, Nat.zero_le _⟩) (fun H locs hG hk => ?_)
  refine lv_aload_n hx hb dX8_girlLeans_6 rfl (lv_at hl 0 rfl) ?_
  refine lv_iload_n hx hb dX8_girlLeans_7 rfl (lv_at hl 1 rfl) ?_
  refine lv_iload_n hx hb dX8_girlLeans_8 rfl (lv_at hl 2 rfl) ?_
  obtain ⟨r2, u2, hc2, hf⟩ := obind_s hf
  refine g_doI0 hG (g_runV C0 hG (k_X8_oneLeans l D base Z u1 p1 p2 r2 u2 hc2) m_X8_oneLeans v_X8_oneLeans w_1408 (by decide) (g_recv C0 hG (L82 hG) rfl) rfl hl.1 rfl (Nat.le_of_ble_eq_true rfl) dX8_girlLeans_9 ⟨Nat.zero_le _, Nat.zero_le _⟩) (fun H locs hG hk => ?_)
  refine lv_bipush (v := (6 : Int32)) hx hb dX8_girlLeans_12 (by decide) ?_
  refine lv_ixor hx hb dX8_girlLeans_14 ?_
  obtain ⟨hr1, hu⟩ := gret_s hf
  subst hr1
  subst hu
  subst hQ
  exact g_iret C0 hG hr dX8_girlLeans_15
theorem dX8_leansAct_0 : decode cX8_leansAct 0 = .ok (.aload_n 0, 1) := by decide +kernel
theorem dX8_leansAct_1 : decode cX8_leansAct 1 = .ok (.getfield 25, 3) := by decide +kernel
theorem dX8_leansAct_4 : decode cX8_leansAct 4 = .ok (.iload_n 1, 1) := by decide +kernel
theorem dX8_leansAct_5 : decode cX8_leansAct 5 = .ok (.iaload, 1) := by decide +kernel
theorem dX8_leansAct_6 : decode cX8_leansAct 6 = .ok (.lookupswitch 78 #[(1, 34), (4, 41), (6, 56)], 34) := by decide +kernel
theorem dX8_leansAct_40 : decode cX8_leansAct 40 = .ok (.aload_n 0, 1) := by decide +kernel
theorem dX8_leansAct_41 : decode cX8_leansAct 41 = .ok (.iload_n 1, 1) := by decide +kernel
theorem dX8_leansAct_42 : decode cX8_leansAct 42 = .ok (.iload_n 2, 1) := by decide +kernel
theorem dX8_leansAct_43 : decode cX8_leansAct 43 = .ok (.invokevirtual 422, 3) := by decide +kernel
theorem dX8_leansAct_46 : decode cX8_leansAct 46 = .ok (.ireturn, 1) := by decide +kernel
theorem dX8_leansAct_47 : decode cX8_leansAct 47 = .ok (.aload_n 0, 1) := by decide +kernel
theorem dX8_leansAct_48 : decode cX8_leansAct 48 = .ok (.bipush 51, 2) := by decide +kernel
theorem dX8_leansAct_50 : decode cX8_leansAct 50 = .ok (.invokevirtual 410, 3) := by decide +kernel
theorem dX8_leansAct_53 : decode cX8_leansAct 53 = .ok (.aload_n 0, 1) := by decide +kernel
theorem dX8_leansAct_54 : decode cX8_leansAct 54 = .ok (.iload_n 1, 1) := by decide +kernel
theorem dX8_leansAct_55 : decode cX8_leansAct 55 = .ok (.iload_n 2, 1) := by decide +kernel
theorem dX8_leansAct_56 : decode cX8_leansAct 56 = .ok (.iconst 1, 1) := by decide +kernel
theorem dX8_leansAct_57 : decode cX8_leansAct 57 = .ok (.iadd, 1) := by decide +kernel
theorem dX8_leansAct_58 : decode cX8_leansAct 58 = .ok (.invokevirtual 422, 3) := by decide +kernel
theorem dX8_leansAct_61 : decode cX8_leansAct 61 = .ok (.ireturn, 1) := by decide +kernel
theorem dX8_leansAct_62 : decode cX8_leansAct 62 = .ok (.aload_n 0, 1) := by decide +kernel
theorem dX8_leansAct_63 : decode cX8_leansAct 63 = .ok (.bipush 70, 2) := by decide +kernel
theorem dX8_leansAct_65 : decode cX8_leansAct 65 = .ok (.invokevirtual 410, 3) := by decide +kernel
theorem dX8_leansAct_68 : decode cX8_leansAct 68 = .ok (.aload_n 0, 1) := by decide +kernel
theorem dX8_leansAct_69 : decode cX8_leansAct 69 = .ok (.iload_n 1, 1) := by decide +kernel
theorem dX8_leansAct_70 : decode cX8_leansAct 70 = .ok (.iload_n 2, 1) := by decide +kernel
theorem dX8_leansAct_71 : decode cX8_leansAct 71 = .ok (.invokevirtual 419, 3) := by decide +kernel
theorem dX8_leansAct_74 : decode cX8_leansAct 74 = .ok (.istore_n 3, 1) := by decide +kernel
theorem dX8_leansAct_75 : decode cX8_leansAct 75 = .ok (.iload_n 3, 1) := by decide +kernel
theorem dX8_leansAct_76 : decode cX8_leansAct 76 = .ok (.aload_n 0, 1) := by decide +kernel
theorem dX8_leansAct_77 : decode cX8_leansAct 77 = .ok (.iload_n 1, 1) := by decide +kernel
theorem dX8_leansAct_78 : decode cX8_leansAct 78 = .ok (.iconst 2, 1) := by decide +kernel
theorem dX8_leansAct_79 : decode cX8_leansAct 79 = .ok (.invokevirtual 413, 3) := by decide +kernel
theorem dX8_leansAct_82 : decode cX8_leansAct 82 = .ok (.iadd, 1) := by decide +kernel
theorem dX8_leansAct_83 : decode cX8_leansAct 83 = .ok (.ireturn, 1) := by decide +kernel
theorem dX8_leansAct_84 : decode cX8_leansAct 84 = .ok (.aload_n 0, 1) := by decide +kernel
theorem dX8_leansAct_85 : decode cX8_leansAct 85 = .ok (.iload_n 1, 1) := by decide +kernel
theorem dX8_leansAct_86 : decode cX8_leansAct 86 = .ok (.iload_n 2, 1) := by decide +kernel
theorem dX8_leansAct_87 : decode cX8_leansAct 87 = .ok (.invokevirtual 419, 3) := by decide +kernel
theorem dX8_leansAct_90 : decode cX8_leansAct 90 = .ok (.ireturn, 1) := by decide +kernel
def f_X8_leansAct (p1 : Int32) (p2 : Int32) (u : Mem) : Option (Int32 × Mem) := gin p1 6 ((if (gA u 83 p1.toNatClampNeg) = (1 : Int32) then obind (f_X8_girlLeans p1 p2 u) (fun r3 u3 => some (r3, u3)) else (if (gA u 83 p1.toNatClampNeg) = (4 : Int32) then obind (f_X8_body (51 : Int32) u) (fun _ u5 => obind (f_X8_girlLeans p1 (p2 + (1 : Int32)) u5) (fun r6 u6 => some (r6, u6))) else (if (gA u 83 p1.toNatClampNeg) = (6 : Int32) then obind (f_X8_body (70 : Int32) u) (fun _ u8 => obind (f_X8_oneLeans p1 p2 u8) (fun r9 u9 => obind (f_X8_oneHums p1 (2 : Int32) u9) (fun r10 u10 => some (r9 + r10, u10)))) else obind (f_X8_oneLeans p1 p2 u) (fun r11 u11 => some (r11, u11))))))
set_option maxHeartbeats 4000000 in
set_option maxRecDepth 100000 in
theorem k_X8_leansAct (l : Launch) (D : gDt) (base : Nat) (Z : gZt) (u : Mem) (p1 : Int32) (p2 : Int32) (r : Int32) (u' : Mem) (hf : f_X8_leansAct p1 p2 u = some (r, u')) : Met l yX8_leansAct (gws yX8_leansAct cX8_leansAct 4 (some .int)) (gRm 6 0 0) (gPc D base Z u [.ref (base + 82), .int p1, .int p2]) (gQi D base r u') 0 0 (gF base) := by
  refine Met.ofW (cc := cX8_leansAct) (maxL := 4) (ret := some .int) (by decide) rfl ?_
  intro p e s m args below meth c s₁ B hml hv
  obtain ⟨rfl, C0, hG⟩ := g_enter B hml hv
  have hr := B.returns
  have C0 : gC p s m meth c _ cX8_leansAct 4 RX8 D base Z := C0
  have hx := C0.1
  have hb := C0.2.1
  have hl := lv_entry ([.ref (base + 82), .int p1, .int p2]) (n := 4) (Nat.le_of_ble_eq_true rfl)
  rw [lg_entry_eq]
  generalize (lg_sl ([.ref (base + 82), .int p1, .int p2]) ++ List.replicate (4 - (lg_sl ([.ref (base + 82), .int p1, .int p2])).length) Slot.unset).toArray = ls at hl ⊢
  have hl : lv_has ls 4 [(0, .ref (base + 82)), (1, .int p1), (2, .int p2)] := hl
  obtain ⟨Q, hQ⟩ : ∃ Q, Q = MQ below (gQi D base r u') ([.ref (base + 82), .int p1, .int p2] : List Value).toArray s 0 0 (gF base) := ⟨_, rfl⟩
  rw [← hQ]
  change W p l e (gRm 6 0 0) s m _ below meth c _ _ _ _ _ _
  unfold f_X8_leansAct at hf
  refine lv_aload_n hx hb dX8_leansAct_0 rfl (lv_at hl 0 rfl) ?_
  refine g_getSa (o := 1) (a := 83) C0 hG (L82 hG) rfl 5 (by decide) rfl rfl w_851 dX8_leansAct_1 ?_
  refine lv_iload_n hx hb dX8_leansAct_4 rfl (lv_at hl 1 rfl) ?_
  obtain ⟨h1, hf⟩ := gin_s hf
  refine g_iald C0 hG (L83 hG) h1 dX8_leansAct_5 ?_
  refine (Decidable.em ((gA u 83 p1.toNatClampNeg) = (1 : Int32))).elim (fun c2 => ?_) (fun c2 => ?_)
  · have hf := gif_t c2 hf
    refine lv_lookup (off := 34) (tgt := 40) hx hb dX8_leansAct_6 (by decide) (by rw [c2]; rfl) (by decide) ?_
    refine lv_aload_n hx hb dX8_leansAct_40 rfl (lv_at hl 0 rfl) ?_
    refine lv_iload_n hx hb dX8_leansAct_41 rfl (lv_at hl 1 rfl) ?_
    refine lv_iload_n hx hb dX8_leansAct_42 rfl (lv_at hl 2 rfl) ?_
    obtain ⟨r3, u3, hc3, hf⟩ := obind_s hf
    refine g_doI0 hG (g_runV C0 hG (k_X8_girlLeans l D base Z u p1 p2 r3 u3 hc3) m_X8_girlLeans v_X8_girlLeans w_1404 (by decide) (g_recv C0 hG (L82 hG) rfl) rfl hl.1 rfl (Nat.le_of_ble_eq_true rfl) dX8_leansAct_43 ⟨Nat.zero_le _, Nat.zero_le _⟩) (fun H locs hG hk => ?_)
    obtain ⟨hr1, hu⟩ := gret_s hf
    subst hr1
    subst hu
    subst hQ
    exact g_iret C0 hG hr dX8_leansAct_46
  · have hf := gif_f c2 hf
    refine (Decidable.em ((gA u 83 p1.toNatClampNeg) = (4 : Int32))).elim (fun c4 => ?_) (fun c4 => ?_)
    · have hf := gif_t c4 hf
      refine lv_lookup (off := 41) (tgt := 47) hx hb dX8_leansAct_6 (by decide) (by rw [c4]; rfl) (by decide) ?_
      refine lv_aload_n hx hb dX8_leansAct_47 rfl (lv_at hl 0 rfl) ?_
      refine lv_bipush (v := (51 : Int32)) hx hb dX8_leansAct_48 (by decide) ?_
      obtain ⟨_, u5, hc5, hf⟩ := obind_s hf
      refine g_doV0 hG (g_runV C0 hG (k_X8_body l D base Z u (51 : Int32) u5 hc5) m_X8_body v_X8_body w_1392 (by decide) (g_recv C0 hG (L82 hG) rfl) rfl hl.1 rfl (Nat.le_of_ble_eq_true rfl) dX8_leansAct_50 ⟨Nat.zero_le _, Nat.zero_le _⟩) (fun H locs hG hk => ?_)
      refine lv_aload_n hx hb dX8_leansAct_53 rfl (lv_at hl 0 rfl) ?_
      refine lv_iload_n hx hb dX8_leansAct_54 rfl (lv_at hl 1 rfl) ?_
      refine lv_iload_n hx hb dX8_leansAct_55 rfl (lv_at hl 2 rfl) ?_
      refine lv_iconst (v := (1 : Int32)) hx hb dX8_leansAct_56 (by decide) ?_
      refine lv_iadd hx hb dX8_leansAct_57 ?_
      obtain ⟨r6, u6, hc6, hf⟩ := obind_s hf
      refine g_doI0 hG (g_runV C0 hG (k_X8_girlLeans l D base Z u5 p1 (p2 + (1 : Int32)) r6 u6 hc6) m_X8_girlLeans v_X8_girlLeans w_1404 (by decide) (g_recv C0 hG (L82 hG) rfl) rfl hl.1 rfl (Nat.le_of_ble_eq_true rfl) dX8_leansAct_58 ⟨Nat.zero_le _, Nat.zero_le _⟩) (fun H locs hG hk => ?_)
      obtain ⟨hr1, hu⟩ := gret_s hf
      subst hr1
      subst hu
      subst hQ
      exact g_iret C0 hG hr dX8_leansAct_61
    · have hf := gif_f c4 hf
      refine (Decidable.em ((gA u 83 p1.toNatClampNeg) = (6 : Int32))).elim (fun c7 => ?_) (fun c7 => ?_)
      · have hf := gif_t c7 hf
        refine lv_lookup (off := 56) (tgt := 62) hx hb dX8_leansAct_6 (by decide) (by rw [c7]; rfl) (by decide) ?_
        refine lv_aload_n hx hb dX8_leansAct_62 rfl (lv_at hl 0 rfl) ?_
        refine lv_bipush (v := (70 : Int32)) hx hb dX8_leansAct_63 (by decide) ?_
        obtain ⟨_, u8, hc8, hf⟩ := obind_s hf
        refine g_doV0 hG (g_runV C0 hG (k_X8_body l D base Z u (70 : Int32) u8 hc8) m_X8_body v_X8_body w_1392 (by decide) (g_recv C0 hG (L82 hG) rfl) rfl hl.1 rfl (Nat.le_of_ble_eq_true rfl) dX8_leansAct_65 ⟨Nat.zero_le _, Nat.zero_le _⟩) (fun H locs hG hk => ?_)
        refine lv_aload_n hx hb dX8_leansAct_68 rfl (lv_at hl 0 rfl) ?_
        refine lv_iload_n hx hb dX8_leansAct_69 rfl (lv_at hl 1 rfl) ?_
        refine lv_iload_n hx hb dX8_leansAct_70 rfl (lv_at hl 2 rfl) ?_
        obtain ⟨r9, u9, hc9, hf⟩ := obind_s hf
        refine g_doI0 hG (g_runV C0 hG (k_X8_oneLeans l D base Z u8 p1 p2 r9 u9 hc9) m_X8_oneLeans v_X8_oneLeans w_1408 (by decide) (g_recv C0 hG (L82 hG) rfl) rfl hl.1 rfl (Nat.le_of_ble_eq_true rfl) dX8_leansAct_71 ⟨Nat.zero_le _, Nat.zero_le _⟩) (fun H locs hG hk => ?_)
        refine lv_istore_n (lv' := [(3, .int r9), (0, .ref (base + 82)), (1, .int p1), (2, .int p2)]) hx hb dX8_leansAct_74 rfl hl (by decide) rfl (fun ls hl => ?_)
        refine lv_iload_n hx hb dX8_leansAct_75 rfl (lv_at hl 0 rfl) ?_
        refine lv_aload_n hx hb dX8_leansAct_76 rfl (lv_at hl 1 rfl) ?_
        refine lv_iload_n hx hb dX8_leansAct_77 rfl (lv_at hl 2 rfl) ?_
        refine lv_iconst (v := (2 : Int32)) hx hb dX8_leansAct_78 (by decide) ?_
        obtain ⟨r10, u10, hc10, hf⟩ := obind_s hf
        refine g_doI0 hG (g_runV C0 hG (k_X8_oneHums l D base Z u9 p1 (2 : Int32) r10 u10 hc10) m_X8_oneHums v_X8_oneHums w_1396 (by decide) (g_recv C0 hG (L82 hG) rfl) rfl hl.1 rfl (Nat.le_of_ble_eq_true rfl) dX8_leansAct_79 ⟨Nat.zero_le _, Nat.zero_le _⟩) (fun H locs hG hk => ?_)
        refine lv_iadd hx hb dX8_leansAct_82 ?_
        obtain ⟨hr1, hu⟩ := gret_s hf
        subst hr1
        subst hu
        subst hQ
        exact g_iret C0 hG hr dX8_leansAct_83
      · have hf := gif_f c7 hf
        refine lv_lookup (off := 78) (tgt := 84) hx hb dX8_leansAct_6 (by decide) (by
            show Op.lookupswitch.offset [(1, 34), (4, 41), (6, 56)] 78 (gA u 83 p1.toNatClampNeg).toInt = 78
            rw [lv_osw c2 (by decide), lv_osw c4 (by decide), lv_osw c7 (by decide)]; rfl) (by decide) ?_
        refine lv_aload_n hx hb dX8_leansAct_84 rfl (lv_at hl 0 rfl) ?_
        refine lv_iload_n hx hb dX8_leansAct_85 rfl (lv_at hl 1 rfl) ?_
        refine lv_iload_n hx hb dX8_leansAct_86 rfl (lv_at hl 2 rfl) ?_
        obtain ⟨r11, u11, hc11, hf⟩ := obind_s hf
        refine g_doI0 hG (g_runV C0 hG (k_X8_oneLeans l D base Z u p1 p2 r11 u11 hc11) m_X8_oneLeans v_X8_oneLeans w_1408 (by decide) (g_recv C0 hG (L82 hG) rfl) rfl hl.1 rfl (Nat.le_of_ble_eq_true rfl) dX8_leansAct_87 ⟨Nat.zero_le _, Nat.zero_le _⟩) (fun H locs hG hk => ?_)
        obtain ⟨hr1, hu⟩ := gret_s hf
        subst hr1
        subst hu
        subst hQ
        exact g_iret C0 hG hr dX8_leansAct_90
theorem dX8_oneTells_0 : decode cX8_oneTells 0 = .ok (.aload_n 0, 1) := by decide +kernel
theorem dX8_oneTells_1 : decode cX8_oneTells 1 = .ok (.bipush 12, 2) := by decide +kernel
theorem dX8_oneTells_3 : decode cX8_oneTells 3 = .ok (.invokevirtual 410, 3) := by decide +kernel
theorem dX8_oneTells_6 : decode cX8_oneTells 6 = .ok (.aload_n 0, 1) := by decide +kernel
theorem dX8_oneTells_7 : decode cX8_oneTells 7 = .ok (.iload_n 1, 1) := by decide +kernel
theorem dX8_oneTells_8 : decode cX8_oneTells 8 = .ok (.iload_n 2, 1) := by decide +kernel
theorem dX8_oneTells_9 : decode cX8_oneTells 9 = .ok (.invokevirtual 425, 3) := by decide +kernel
theorem dX8_oneTells_12 : decode cX8_oneTells 12 = .ok (.iconst 2, 1) := by decide +kernel
theorem dX8_oneTells_13 : decode cX8_oneTells 13 = .ok (.imul, 1) := by decide +kernel
theorem dX8_oneTells_14 : decode cX8_oneTells 14 = .ok (.ireturn, 1) := by decide +kernel
def f_X8_oneTells (p1 : Int32) (p2 : Int32) (u : Mem) : Option (Int32 × Mem) := obind (f_X8_body (12 : Int32) u) (fun _ u1 => obind (f_X8_leansAct p1 p2 u1) (fun r2 u2 => some (r2 * (2 : Int32), u2)))
set_option maxHeartbeats 4000000 in
set_option maxRecDepth 100000 in
theorem k_X8_oneTells (l : Launch) (D : gDt) (base : Nat) (Z : gZt) (u : Mem) (p1 : Int32) (p2 : Int32) (r : Int32) (u' : Mem) (hf : f_X8_oneTells p1 p2 u = some (r, u')) : Met l yX8_oneTells (gws yX8_oneTells cX8_oneTells 3 (some .int)) (gRm 7 0 0) (gPc D base Z u [.ref (base + 82), .int p1, .int p2]) (gQi D base r u') 0 0 (gF base) := by
  refine Met.ofW (cc := cX8_oneTells) (maxL := 3) (ret := some .int) (by decide) rfl ?_
  intro p e s m args below meth c s₁ B hml hv
  obtain ⟨rfl, C0, hG⟩ := g_enter B hml hv
  have hr := B.returns
  have C0 : gC p s m meth c _ cX8_oneTells 3 RX8 D base Z := C0
  have hx := C0.1
  have hb := C0.2.1
  have hl := lv_entry ([.ref (base + 82), .int p1, .int p2]) (n := 3) (Nat.le_of_ble_eq_true rfl)
  rw [lg_entry_eq]
  generalize (lg_sl ([.ref (base + 82), .int p1, .int p2]) ++ List.replicate (3 - (lg_sl ([.ref (base + 82), .int p1, .int p2])).length) Slot.unset).toArray = ls at hl ⊢
  have hl : lv_has ls 3 [(0, .ref (base + 82)), (1, .int p1), (2, .int p2)] := hl
  obtain ⟨Q, hQ⟩ : ∃ Q, Q = MQ below (gQi D base r u') ([.ref (base + 82), .int p1, .int p2] : List Value).toArray s 0 0 (gF base) := ⟨_, rfl⟩
  rw [← hQ]
  change W p l e (gRm 7 0 0) s m _ below meth c _ _ _ _ _ _
  unfold f_X8_oneTells at hf
  refine lv_aload_n hx hb dX8_oneTells_0 rfl (lv_at hl 0 rfl) ?_
  refine lv_bipush (v := (12 : Int32)) hx hb dX8_oneTells_1 (by decide) ?_
  obtain ⟨_, u1, hc1, hf⟩ := obind_s hf
  refine g_doV0 hG (g_runV C0 hG (k_X8_body l D base Z u (12 : Int32) u1 hc1) m_X8_body v_X8_body w_1392 (by decide) (g_recv C0 hG (L82 hG) rfl) rfl hl.1 rfl (Nat.le_of_ble_eq_true rfl) dX8_oneTells_3 ⟨Nat.zero_le _, Nat.zero_le _⟩) (fun H locs hG hk => ?_)
  refine lv_aload_n hx hb dX8_oneTells_6 rfl (lv_at hl 0 rfl) ?_
  refine lv_iload_n hx hb dX8_oneTells_7 rfl (lv_at hl 1 rfl) ?_
  refine lv_iload_n hx hb dX8_oneTells_8 rfl (lv_at hl 2 rfl) ?_
  obtain ⟨r2, u2, hc2, hf⟩ := obind_s hf
  refine g_doI0 hG (g_runV C0 hG (k_X8_leansAct l D base Z u1 p1 p2 r2 u2 hc2) m_X8_leansAct v_X8_leansAct w_1400 (by decide) (g_recv C0 hG (L82 hG) rfl) rfl hl.1 rfl (Nat.le_of_ble_eq_true rfl) dX8_oneTells_9 ⟨Nat.zero_le _, Nat.zero_le _⟩) (fun H locs hG hk => ?_)
  refine lv_iconst (v := (2 : Int32)) hx hb dX8_oneTells_12 (by decide) ?_
  refine lv_imul hx hb dX8_oneTells_13 ?_
  obtain ⟨hr1, hu⟩ := gret_s hf
  subst hr1
  subst hu
  subst hQ
  exact g_iret C0 hG hr dX8_oneTells_14
theorem dX8_tellsAct_0 : decode cX8_tellsAct 0 = .ok (.aload_n 0, 1) := by decide +kernel
theorem dX8_tellsAct_1 : decode cX8_tellsAct 1 = .ok (.getfield 25, 3) := by decide +kernel
theorem dX8_tellsAct_4 : decode cX8_tellsAct 4 = .ok (.iload_n 1, 1) := by decide +kernel
theorem dX8_tellsAct_5 : decode cX8_tellsAct 5 = .ok (.iaload, 1) := by decide +kernel
theorem dX8_tellsAct_6 : decode cX8_tellsAct 6 = .ok (.tableswitch 67 3 6 #[30, 67, 52, 30], 30) := by decide +kernel
theorem dX8_tellsAct_36 : decode cX8_tellsAct 36 = .ok (.aload_n 0, 1) := by decide +kernel
theorem dX8_tellsAct_37 : decode cX8_tellsAct 37 = .ok (.bipush 40, 2) := by decide +kernel
theorem dX8_tellsAct_39 : decode cX8_tellsAct 39 = .ok (.invokevirtual 410, 3) := by decide +kernel
theorem dX8_tellsAct_42 : decode cX8_tellsAct 42 = .ok (.aload_n 0, 1) := by decide +kernel
theorem dX8_tellsAct_43 : decode cX8_tellsAct 43 = .ok (.iload_n 1, 1) := by decide +kernel
theorem dX8_tellsAct_44 : decode cX8_tellsAct 44 = .ok (.iload_n 2, 1) := by decide +kernel
theorem dX8_tellsAct_45 : decode cX8_tellsAct 45 = .ok (.invokevirtual 428, 3) := by decide +kernel
theorem dX8_tellsAct_48 : decode cX8_tellsAct 48 = .ok (.istore_n 3, 1) := by decide +kernel
theorem dX8_tellsAct_49 : decode cX8_tellsAct 49 = .ok (.iload_n 3, 1) := by decide +kernel
theorem dX8_tellsAct_50 : decode cX8_tellsAct 50 = .ok (.aload_n 0, 1) := by decide +kernel
theorem dX8_tellsAct_51 : decode cX8_tellsAct 51 = .ok (.iload_n 1, 1) := by decide +kernel
theorem dX8_tellsAct_52 : decode cX8_tellsAct 52 = .ok (.iconst 1, 1) := by decide +kernel
theorem dX8_tellsAct_53 : decode cX8_tellsAct 53 = .ok (.invokevirtual 425, 3) := by decide +kernel
theorem dX8_tellsAct_56 : decode cX8_tellsAct 56 = .ok (.iadd, 1) := by decide +kernel
theorem dX8_tellsAct_57 : decode cX8_tellsAct 57 = .ok (.ireturn, 1) := by decide +kernel
theorem dX8_tellsAct_58 : decode cX8_tellsAct 58 = .ok (.aload_n 0, 1) := by decide +kernel
theorem dX8_tellsAct_59 : decode cX8_tellsAct 59 = .ok (.bipush 60, 2) := by decide +kernel
theorem dX8_tellsAct_61 : decode cX8_tellsAct 61 = .ok (.invokevirtual 410, 3) := by decide +kernel
theorem dX8_tellsAct_64 : decode cX8_tellsAct 64 = .ok (.aload_n 0, 1) := by decide +kernel
theorem dX8_tellsAct_65 : decode cX8_tellsAct 65 = .ok (.iload_n 1, 1) := by decide +kernel
theorem dX8_tellsAct_66 : decode cX8_tellsAct 66 = .ok (.iload_n 2, 1) := by decide +kernel
theorem dX8_tellsAct_67 : decode cX8_tellsAct 67 = .ok (.iload_n 1, 1) := by decide +kernel
theorem dX8_tellsAct_68 : decode cX8_tellsAct 68 = .ok (.isub, 1) := by decide +kernel
theorem dX8_tellsAct_69 : decode cX8_tellsAct 69 = .ok (.invokevirtual 428, 3) := by decide +kernel
theorem dX8_tellsAct_72 : decode cX8_tellsAct 72 = .ok (.ireturn, 1) := by decide +kernel
theorem dX8_tellsAct_73 : decode cX8_tellsAct 73 = .ok (.aload_n 0, 1) := by decide +kernel
theorem dX8_tellsAct_74 : decode cX8_tellsAct 74 = .ok (.iload_n 1, 1) := by decide +kernel
theorem dX8_tellsAct_75 : decode cX8_tellsAct 75 = .ok (.iload_n 2, 1) := by decide +kernel
theorem dX8_tellsAct_76 : decode cX8_tellsAct 76 = .ok (.invokevirtual 428, 3) := by decide +kernel
theorem dX8_tellsAct_79 : decode cX8_tellsAct 79 = .ok (.ireturn, 1) := by decide +kernel
def f_X8_tellsAct (p1 : Int32) (p2 : Int32) (u : Mem) : Option (Int32 × Mem) := gin p1 6 ((if (gA u 83 p1.toNatClampNeg) = (3 : Int32) then obind (f_X8_body (40 : Int32) u) (fun _ u3 => obind (f_X8_oneTells p1 p2 u3) (fun r4 u4 => obind (f_X8_leansAct p1 (1 : Int32) u4) (fun r5 u5 => some (r4 + r5, u5)))) else (if (gA u 83 p1.toNatClampNeg) = (5 : Int32) then obind (f_X8_body (60 : Int32) u) (fun _ u7 => obind (f_X8_oneTells p1 (p2 - p1) u7) (fun r8 u8 => some (r8, u8))) else (if (gA u 83 p1.toNatClampNeg) = (6 : Int32) then obind (f_X8_body (40 : Int32) u) (fun _ u10 => obind (f_X8_oneTells p1 p2 u10) (fun r11 u11 => obind (f_X8_leansAct p1 (1 : Int32) u11) (fun r12 u12 => some (r11 + r12, u12)))) else obind (f_X8_oneTells p1 p2 u) (fun r13 u13 => some (r13, u13))))))
set_option maxHeartbeats 4000000 in
set_option maxRecDepth 100000 in
theorem k_X8_tellsAct (l : Launch) (D : gDt) (base : Nat) (Z : gZt) (u : Mem) (p1 : Int32) (p2 : Int32) (r : Int32) (u' : Mem) (hf : f_X8_tellsAct p1 p2 u = some (r, u')) : Met l yX8_tellsAct (gws yX8_tellsAct cX8_tellsAct 4 (some .int)) (gRm 8 0 0) (gPc D base Z u [.ref (base + 82), .int p1, .int p2]) (gQi D base r u') 0 0 (gF base) := by
  refine Met.ofW (cc := cX8_tellsAct) (maxL := 4) (ret := some .int) (by decide) rfl ?_
  intro p e s m args below meth c s₁ B hml hv
  obtain ⟨rfl, C0, hG⟩ := g_enter B hml hv
  have hr := B.returns
  have C0 : gC p s m meth c _ cX8_tellsAct 4 RX8 D base Z := C0
  have hx := C0.1
  have hb := C0.2.1
  have hl := lv_entry ([.ref (base + 82), .int p1, .int p2]) (n := 4) (Nat.le_of_ble_eq_true rfl)
  rw [lg_entry_eq]
  generalize (lg_sl ([.ref (base + 82), .int p1, .int p2]) ++ List.replicate (4 - (lg_sl ([.ref (base + 82), .int p1, .int p2])).length) Slot.unset).toArray = ls at hl ⊢
  have hl : lv_has ls 4 [(0, .ref (base + 82)), (1, .int p1), (2, .int p2)] := hl
  obtain ⟨Q, hQ⟩ : ∃ Q, Q = MQ below (gQi D base r u') ([.ref (base + 82), .int p1, .int p2] : List Value).toArray s 0 0 (gF base) := ⟨_, rfl⟩
  rw [← hQ]
  change W p l e (gRm 8 0 0) s m _ below meth c _ _ _ _ _ _
  unfold f_X8_tellsAct at hf
  refine lv_aload_n hx hb dX8_tellsAct_0 rfl (lv_at hl 0 rfl) ?_
  refine g_getSa (o := 1) (a := 83) C0 hG (L82 hG) rfl 5 (by decide) rfl rfl w_851 dX8_tellsAct_1 ?_
  refine lv_iload_n hx hb dX8_tellsAct_4 rfl (lv_at hl 1 rfl) ?_
  obtain ⟨h1, hf⟩ := gin_s hf
  refine g_iald C0 hG (L83 hG) h1 dX8_tellsAct_5 ?_
  refine (Decidable.em ((gA u 83 p1.toNatClampNeg) = (3 : Int32))).elim (fun c2 => ?_) (fun c2 => ?_)
  · have hf := gif_t c2 hf
    refine lv_tableIn (off := 30) (tgt := 36) hx hb dX8_tellsAct_6 (by rw [c2]; decide) (by rw [c2]; decide) (by rw [c2]; rfl) (by decide) ?_
    refine lv_aload_n hx hb dX8_tellsAct_36 rfl (lv_at hl 0 rfl) ?_
    refine lv_bipush (v := (40 : Int32)) hx hb dX8_tellsAct_37 (by decide) ?_
    obtain ⟨_, u3, hc3, hf⟩ := obind_s hf
    refine g_doV0 hG (g_runV C0 hG (k_X8_body l D base Z u (40 : Int32) u3 hc3) m_X8_body v_X8_body w_1392 (by decide) (g_recv C0 hG (L82 hG) rfl) rfl hl.1 rfl (Nat.le_of_ble_eq_true rfl) dX8_tellsAct_39 ⟨Nat.zero_le _, Nat.zero_le _⟩) (fun H locs hG hk => ?_)
    refine lv_aload_n hx hb dX8_tellsAct_42 rfl (lv_at hl 0 rfl) ?_
    refine lv_iload_n hx hb dX8_tellsAct_43 rfl (lv_at hl 1 rfl) ?_
    refine lv_iload_n hx hb dX8_tellsAct_44 rfl (lv_at hl 2 rfl) ?_
    obtain ⟨r4, u4, hc4, hf⟩ := obind_s hf
    refine g_doI0 hG (g_runV C0 hG (k_X8_oneTells l D base Z u3 p1 p2 r4 u4 hc4) m_X8_oneTells v_X8_oneTells w_1416 (by decide) (g_recv C0 hG (L82 hG) rfl) rfl hl.1 rfl (Nat.le_of_ble_eq_true rfl) dX8_tellsAct_45 ⟨Nat.zero_le _, Nat.zero_le _⟩) (fun H locs hG hk => ?_)
    refine lv_istore_n (lv' := [(3, .int r4), (0, .ref (base + 82)), (1, .int p1), (2, .int p2)]) hx hb dX8_tellsAct_48 rfl hl (by decide) rfl (fun ls hl => ?_)
    refine lv_iload_n hx hb dX8_tellsAct_49 rfl (lv_at hl 0 rfl) ?_
    refine lv_aload_n hx hb dX8_tellsAct_50 rfl (lv_at hl 1 rfl) ?_
    refine lv_iload_n hx hb dX8_tellsAct_51 rfl (lv_at hl 2 rfl) ?_
    refine lv_iconst (v := (1 : Int32)) hx hb dX8_tellsAct_52 (by decide) ?_
    obtain ⟨r5, u5, hc5, hf⟩ := obind_s hf
    refine g_doI0 hG (g_runV C0 hG (k_X8_leansAct l D base Z u4 p1 (1 : Int32) r5 u5 hc5) m_X8_leansAct v_X8_leansAct w_1400 (by decide) (g_recv C0 hG (L82 hG) rfl) rfl hl.1 rfl (Nat.le_of_ble_eq_true rfl) dX8_tellsAct_53 ⟨Nat.zero_le _, Nat.zero_le _⟩) (fun H locs hG hk => ?_)
    refine lv_iadd hx hb dX8_tellsAct_56 ?_
    obtain ⟨hr1, hu⟩ := gret_s hf
    subst hr1
    subst hu
    subst hQ
    exact g_iret C0 hG hr dX8_tellsAct_57
  · have hf := gif_f c2 hf
    refine (Decidable.em ((gA u 83 p1.toNatClampNeg) = (5 : Int32))).elim (fun c6 => ?_) (fun c6 => ?_)
    · have hf := gif_t c6 hf
      refine lv_tableIn (off := 52) (tgt := 58) hx hb dX8_tellsAct_6 (by rw [c6]; decide) (by rw [c6]; decide) (by rw [c6]; rfl) (by decide) ?_
      refine lv_aload_n hx hb dX8_tellsAct_58 rfl (lv_at hl 0 rfl) ?_
      refine lv_bipush (v := (60 : Int32)) hx hb dX8_tellsAct_59 (by decide) ?_
      obtain ⟨_, u7, hc7, hf⟩ := obind_s hf
      refine g_doV0 hG (g_runV C0 hG (k_X8_body l D base Z u (60 : Int32) u7 hc7) m_X8_body v_X8_body w_1392 (by decide) (g_recv C0 hG (L82 hG) rfl) rfl hl.1 rfl (Nat.le_of_ble_eq_true rfl) dX8_tellsAct_61 ⟨Nat.zero_le _, Nat.zero_le _⟩) (fun H locs hG hk => ?_)
      refine lv_aload_n hx hb dX8_tellsAct_64 rfl (lv_at hl 0 rfl) ?_
      refine lv_iload_n hx hb dX8_tellsAct_65 rfl (lv_at hl 1 rfl) ?_
      refine lv_iload_n hx hb dX8_tellsAct_66 rfl (lv_at hl 2 rfl) ?_
      refine lv_iload_n hx hb dX8_tellsAct_67 rfl (lv_at hl 1 rfl) ?_
      refine lv_isub hx hb dX8_tellsAct_68 ?_
      obtain ⟨r8, u8, hc8, hf⟩ := obind_s hf
      refine g_doI0 hG (g_runV C0 hG (k_X8_oneTells l D base Z u7 p1 (p2 - p1) r8 u8 hc8) m_X8_oneTells v_X8_oneTells w_1416 (by decide) (g_recv C0 hG (L82 hG) rfl) rfl hl.1 rfl (Nat.le_of_ble_eq_true rfl) dX8_tellsAct_69 ⟨Nat.zero_le _, Nat.zero_le _⟩) (fun H locs hG hk => ?_)
      obtain ⟨hr1, hu⟩ := gret_s hf
      subst hr1
      subst hu
      subst hQ
      exact g_iret C0 hG hr dX8_tellsAct_72
    · have hf := gif_f c6 hf
      refine (Decidable.em ((gA u 83 p1.toNatClampNeg) = (6 : Int32))).elim (fun c9 => ?_) (fun c9 => ?_)
      · have hf := gif_t c9 hf
        refine lv_tableIn (off := 30) (tgt := 36) hx hb dX8_tellsAct_6 (by rw [c9]; decide) (by rw [c9]; decide) (by rw [c9]; rfl) (by decide) ?_
        refine lv_aload_n hx hb dX8_tellsAct_36 rfl (lv_at hl 0 rfl) ?_
        refine lv_bipush (v := (40 : Int32)) hx hb dX8_tellsAct_37 (by decide) ?_
        obtain ⟨_, u10, hc10, hf⟩ := obind_s hf
        refine g_doV0 hG (g_runV C0 hG (k_X8_body l D base Z u (40 : Int32) u10 hc10) m_X8_body v_X8_body w_1392 (by decide) (g_recv C0 hG (L82 hG) rfl) rfl hl.1 rfl (Nat.le_of_ble_eq_true rfl) dX8_tellsAct_39 ⟨Nat.zero_le _, Nat.zero_le _⟩) (fun H locs hG hk => ?_)
        refine lv_aload_n hx hb dX8_tellsAct_42 rfl (lv_at hl 0 rfl) ?_
        refine lv_iload_n hx hb dX8_tellsAct_43 rfl (lv_at hl 1 rfl) ?_
        refine lv_iload_n hx hb dX8_tellsAct_44 rfl (lv_at hl 2 rfl) ?_
        obtain ⟨r11, u11, hc11, hf⟩ := obind_s hf
        refine g_doI0 hG (g_runV C0 hG (k_X8_oneTells l D base Z u10 p1 p2 r11 u11 hc11) m_X8_oneTells v_X8_oneTells w_1416 (by decide) (g_recv C0 hG (L82 hG) rfl) rfl hl.1 rfl (Nat.le_of_ble_eq_true rfl) dX8_tellsAct_45 ⟨Nat.zero_le _, Nat.zero_le _⟩) (fun H locs hG hk => ?_)
        refine lv_istore_n (lv' := [(3, .int r11), (0, .ref (base + 82)), (1, .int p1), (2, .int p2)]) hx hb dX8_tellsAct_48 rfl hl (by decide) rfl (fun ls hl => ?_)
        refine lv_iload_n hx hb dX8_tellsAct_49 rfl (lv_at hl 0 rfl) ?_
        refine lv_aload_n hx hb dX8_tellsAct_50 rfl (lv_at hl 1 rfl) ?_
        refine lv_iload_n hx hb dX8_tellsAct_51 rfl (lv_at hl 2 rfl) ?_
        refine lv_iconst (v := (1 : Int32)) hx hb dX8_tellsAct_52 (by decide) ?_
        obtain ⟨r12, u12, hc12, hf⟩ := obind_s hf
        refine g_doI0 hG (g_runV C0 hG (k_X8_leansAct l D base Z u11 p1 (1 : Int32) r12 u12 hc12) m_X8_leansAct v_X8_leansAct w_1400 (by decide) (g_recv C0 hG (L82 hG) rfl) rfl hl.1 rfl (Nat.le_of_ble_eq_true rfl) dX8_tellsAct_53 ⟨Nat.zero_le _, Nat.zero_le _⟩) (fun H locs hG hk => ?_)
        refine lv_iadd hx hb dX8_tellsAct_56 ?_
        obtain ⟨hr1, hu⟩ := gret_s hf
        subst hr1
        subst hu
        subst hQ
        exact g_iret C0 hG hr dX8_tellsAct_57
      · have hf := gif_f c9 hf
        refine gsw_def (lo := 3) (hi := 6) (tgt := 73) hx hb dX8_tellsAct_6 (by
            have n0 := lv_neT c2 (k := (3 : Int32)) (a := 3) (by decide)
            have n1 := lv_neT c6 (k := (5 : Int32)) (a := 5) (by decide)
            have n2 := lv_neT c9 (k := (6 : Int32)) (a := 6) (by decide)
            intro h1 h2
            have h3 : (gA u 83 p1.toNatClampNeg).toInt = 4 := by omega
            (rw [h3]; rfl)) (by decide) ?_
        refine lv_aload_n hx hb dX8_tellsAct_73 rfl (lv_at hl 0 rfl) ?_
        refine lv_iload_n hx hb dX8_tellsAct_74 rfl (lv_at hl 1 rfl) ?_
        refine lv_iload_n hx hb dX8_tellsAct_75 rfl (lv_at hl 2 rfl) ?_
        obtain ⟨r13, u13, hc13, hf⟩ := obind_s hf
        refine g_doI0 hG (g_runV C0 hG (k_X8_oneTells l D base Z u p1 p2 r13 u13 hc13) m_X8_oneTells v_X8_oneTells w_1416 (by decide) (g_recv C0 hG (L82 hG) rfl) rfl hl.1 rfl (Nat.le_of_ble_eq_true rfl) dX8_tellsAct_76 ⟨Nat.zero_le _, Nat.zero_le _⟩) (fun H locs hG hk => ?_)
        obtain ⟨hr1, hu⟩ := gret_s hf
        subst hr1
        subst hu
        subst hQ
        exact g_iret C0 hG hr dX8_tellsAct_79
theorem dX8_act_0 : decode cX8_act 0 = .ok (.aload_n 0, 1) := by decide +kernel
theorem dX8_act_1 : decode cX8_act 1 = .ok (.iconst 0, 1) := by decide +kernel
theorem dX8_act_2 : decode cX8_act 2 = .ok (.putfield 226, 3) := by decide +kernel
theorem dX8_act_5 : decode cX8_act 5 = .ok (.aload_n 0, 1) := by decide +kernel
theorem dX8_act_6 : decode cX8_act 6 = .ok (.iload_n 1, 1) := by decide +kernel
theorem dX8_act_7 : decode cX8_act 7 = .ok (.invokevirtual 260, 3) := by decide +kernel
theorem dX8_act_10 : decode cX8_act 10 = .ok (.ifCond .eq 13, 3) := by decide +kernel
theorem dX8_act_13 : decode cX8_act 13 = .ok (.aload_n 0, 1) := by decide +kernel
theorem dX8_act_14 : decode cX8_act 14 = .ok (.iload_n 2, 1) := by decide +kernel
theorem dX8_act_15 : decode cX8_act 15 = .ok (.iconst 0, 1) := by decide +kernel
theorem dX8_act_16 : decode cX8_act 16 = .ok (.iconst 2, 1) := by decide +kernel
theorem dX8_act_17 : decode cX8_act 17 = .ok (.invokevirtual 249, 3) := by decide +kernel
theorem dX8_act_20 : decode cX8_act 20 = .ok (.ifCond .ne 5, 3) := by decide +kernel
theorem dX8_act_23 : decode cX8_act 23 = .ok (.iconst 0, 1) := by decide +kernel
theorem dX8_act_24 : decode cX8_act 24 = .ok (.ireturn, 1) := by decide +kernel
theorem dX8_act_25 : decode cX8_act 25 = .ok (.iload_n 2, 1) := by decide +kernel
theorem dX8_act_26 : decode cX8_act 26 = .ok (.ifCond .ne 12, 3) := by decide +kernel
theorem dX8_act_29 : decode cX8_act 29 = .ok (.aload_n 0, 1) := by decide +kernel
theorem dX8_act_30 : decode cX8_act 30 = .ok (.iload_n 1, 1) := by decide +kernel
theorem dX8_act_31 : decode cX8_act 31 = .ok (.iload_n 3, 1) := by decide +kernel
theorem dX8_act_32 : decode cX8_act 32 = .ok (.invokevirtual 416, 3) := by decide +kernel
theorem dX8_act_35 : decode cX8_act 35 = .ok (.goto 23, 3) := by decide +kernel
theorem dX8_act_38 : decode cX8_act 38 = .ok (.iload_n 2, 1) := by decide +kernel
theorem dX8_act_39 : decode cX8_act 39 = .ok (.iconst 1, 1) := by decide +kernel
theorem dX8_act_40 : decode cX8_act 40 = .ok (.if_icmp .ne 12, 3) := by decide +kernel
theorem dX8_act_43 : decode cX8_act 43 = .ok (.aload_n 0, 1) := by decide +kernel
theorem dX8_act_44 : decode cX8_act 44 = .ok (.iload_n 1, 1) := by decide +kernel
theorem dX8_act_45 : decode cX8_act 45 = .ok (.iload_n 3, 1) := by decide +kernel
theorem dX8_act_46 : decode cX8_act 46 = .ok (.invokevirtual 425, 3) := by decide +kernel
theorem dX8_act_49 : decode cX8_act 49 = .ok (.goto 9, 3) := by decide +kernel
theorem dX8_act_52 : decode cX8_act 52 = .ok (.aload_n 0, 1) := by decide +kernel
theorem dX8_act_53 : decode cX8_act 53 = .ok (.iload_n 1, 1) := by decide +kernel
theorem dX8_act_54 : decode cX8_act 54 = .ok (.iload_n 3, 1) := by decide +kernel
theorem dX8_act_55 : decode cX8_act 55 = .ok (.invokevirtual 431, 3) := by decide +kernel
theorem dX8_act_58 : decode cX8_act 58 = .ok (.ireturn, 1) := by decide +kernel
def f_X8_act (p1 : Int32) (p2 : Int32) (p3 : Int32) (u : Mem) : Option (Int32 × Mem) := Option.bind (f_X8_isOne p1 (sI u 82 71 (0 : Int32))) (fun r1 => (if r1 = 0 then some ((0 : Int32), sI u 82 71 (0 : Int32)) else Option.bind (f_X8_in p2 (0 : Int32) (2 : Int32)) (fun r3 => (if r3 = 0 then some ((0 : Int32), sI u 82 71 (0 : Int32)) else (if p2 = 0 then obind (f_X8_humsAct p1 p3 (sI u 82 71 (0 : Int32))) (fun r9 u9 => some (r9, u9)) else (if p2 = (1 : Int32) then obind (f_X8_leansAct p1 p3 (sI u 82 71 (0 : Int32))) (fun r8 u8 => some (r8, u8)) else obind (f_X8_tellsAct p1 p3 (sI u 82 71 (0 : Int32))) (fun r7 u7 => some (r7, u7))))))))
set_option maxHeartbeats 4000000 in
set_option maxRecDepth 100000 in
theorem k_X8_act (l : Launch) (D : gDt) (base : Nat) (Z : gZt) (u : Mem) (p1 : Int32) (p2 : Int32) (p3 : Int32) (r : Int32) (u' : Mem) (hf : f_X8_act p1 p2 p3 u = some (r, u')) : Met l yX8_act (gws yX8_act cX8_act 4 (some .int)) (gRm 9 0 0) (gPc D base Z u [.ref (base + 82), .int p1, .int p2, .int p3]) (gQi D base r u') 0 0 (gF base) := by
  refine Met.ofW (cc := cX8_act) (maxL := 4) (ret := some .int) (by decide) rfl ?_
  intro p e s m args below meth c s₁ B hml hv
  obtain ⟨rfl, C0, hG⟩ := g_enter B hml hv
  have hr := B.returns
  have C0 : gC p s m meth c _ cX8_act 4 RX8 D base Z := C0
  have hx := C0.1
  have hb := C0.2.1
  have hl := lv_entry ([.ref (base + 82), .int p1, .int p2, .int p3]) (n := 4) (Nat.le_of_ble_eq_true rfl)
  rw [lg_entry_eq]
  generalize (lg_sl ([.ref (base + 82), .int p1, .int p2, .int p3]) ++ List.replicate (4 - (lg_sl ([.ref (base + 82), .int p1, .int p2, .int p3])).length) Slot.unset).toArray = ls at hl ⊢
  have hl : lv_has ls 4 [(0, .ref (base + 82)), (1, .int p1), (2, .int p2), (3, .int p3)] := hl
  obtain ⟨Q, hQ⟩ : ∃ Q, Q = MQ below (gQi D base r u') ([.ref (base + 82), .int p1, .int p2, .int p3] : List Value).toArray s 0 0 (gF base) := ⟨_, rfl⟩
  rw [← hQ]
  change W p l e (gRm 9 0 0) s m _ below meth c _ _ _ _ _ _
  unfold f_X8_act at hf
  refine lv_aload_n hx hb dX8_act_0 rfl (lv_at hl 0 rfl) ?_
  refine lv_iconst (v := (0 : Int32)) hx hb dX8_act_1 (by decide) ?_
  refine g_putI (ty := .int) C0 hG (L82 hG) rfl 71 (by decide) rfl w_917 rfl (by decide) rfl rfl dX8_act_2 (fun H locs hG => ?_)
  refine lv_aload_n hx hb dX8_act_5 rfl (lv_at hl 0 rfl) ?_
  refine lv_iload_n hx hb dX8_act_6 rfl (lv_at hl 1 rfl) ?_
  obtain ⟨r1, hc1, hf⟩ := pb_s hf
  refine g_doI0 hG (g_runV C0 hG (k_X8_isOne l D base Z (sI u 82 71 (0 : Int32)) p1 r1 hc1) m_X8_isOne v_X8_isOne w_1098 (by decide) (g_recv C0 hG (L82 hG) rfl) rfl hl.1 rfl (Nat.le_of_ble_eq_true rfl) dX8_act_7 ⟨Nat.zero_le _, Nat.zero_le _⟩) (fun H locs hG hk => ?_)
  refine lv_if_eq (tgt := 23) hx hb dX8_act_10 (by decide) (fun c2 => ?_) (fun c2 => ?_)
  · have hf := gif_t c2 hf
    refine lv_iconst (v := (0 : Int32)) hx hb dX8_act_23 (by decide) ?_
    obtain ⟨hr1, hu⟩ := gret_s hf
    subst hr1
    subst hu
    subst hQ
    exact g_iret C0 hG hr dX8_act_24
  · have hf := gif_f c2 hf
    refine lv_aload_n hx hb dX8_act_13 rfl (lv_at hl 0 rfl) ?_
    refine lv_iload_n hx hb dX8_act_14 rfl (lv_at hl 2 rfl) ?_
    refine lv_iconst (v := (0 : Int32)) hx hb dX8_act_15 (by decide) ?_
    refine lv_iconst (v := (2 : Int32)) hx hb dX8_act_16 (by decide) ?_
    obtain ⟨r3, hc3, hf⟩ := pb_s hf
    refine g_doI0 hG (g_runV C0 hG (k_X8_in l D base Z (sI u 82 71 (0 : Int32)) p2 (0 : Int32) (2 : Int32) r3 hc3) m_X8_in v_X8_in w_1082 (by decide) (g_recv C0 hG (L82 hG) rfl) rfl hl.1 rfl (Nat.le_of_ble_eq_true rfl) dX8_act_17 ⟨Nat.zero_le _, Nat.zero_le _⟩) (fun H locs hG hk => ?_)
    refine lv_if_ne (tgt := 25) hx hb dX8_act_20 (by decide) (fun c4 => ?_) (fun c4 => ?_)
    · have hf := gif_f c4 hf
      refine lv_iload_n hx hb dX8_act_25 rfl (lv_at hl 2 rfl) ?_
      refine lv_if_ne (tgt := 38) hx hb dX8_act_26 (by decide) (fun c5 => ?_) (fun c5 => ?_)
      · have hf := gif_f c5 hf
        refine lv_iload_n hx hb dX8_act_38 rfl (lv_at hl 2 rfl) ?_
        refine lv_iconst (v := (1 : Int32)) hx hb dX8_act_39 (by decide) ?_
        refine lv_icmp_ne (tgt := 52) hx hb dX8_act_40 (by decide) (fun c6 => ?_) (fun c6 => ?_)
        · have hf := gif_f c6 hf
          refine lv_aload_n hx hb dX8_act_52 rfl (lv_at hl 0 rfl) ?_
          refine lv_iload_n hx hb dX8_act_53 rfl (lv_at hl 1 rfl) ?_
          refine lv_iload_n hx hb dX8_act_54 rfl (lv_at hl 3 rfl) ?_
          obtain ⟨r7, u7, hc7, hf⟩ := obind_s hf
          refine g_doI0 hG (g_runV C0 hG (k_X8_tellsAct l D base Z (sI u 82 71 (0 : Int32)) p1 p3 r7 u7 hc7) m_X8_tellsAct v_X8_tellsAct w_1412 (by decide) (g_recv C0 hG (L82 hG) rfl) rfl hl.1 rfl (Nat.le_of_ble_eq_true rfl) dX8_act_55 ⟨Nat.zero_le _, Nat.zero_le _⟩) (fun H locs hG hk => ?_)
          obtain ⟨hr1, hu⟩ := gret_s hf
          subst hr1
          subst hu
          subst hQ
          exact g_iret C0 hG hr dX8_act_58
        · have hf := gif_t c6 hf
          refine lv_aload_n hx hb dX8_act_43 rfl (lv_at hl 0 rfl) ?_
          refine lv_iload_n hx hb dX8_act_44 rfl (lv_at hl 1 rfl) ?_
          refine lv_iload_n hx hb dX8_act_45 rfl (lv_at hl 3 rfl) ?_
          obtain ⟨r8, u8, hc8, hf⟩ := obind_s hf
          refine g_doI0 hG (g_runV C0 hG (k_X8_leansAct l D base Z (sI u 82 71 (0 : Int32)) p1 p3 r8 u8 hc8) m_X8_leansAct v_X8_leansAct w_1400 (by decide) (g_recv C0 hG (L82 hG) rfl) rfl hl.1 rfl (Nat.le_of_ble_eq_true rfl) dX8_act_46 ⟨Nat.zero_le _, Nat.zero_le _⟩) (fun H locs hG hk => ?_)
          refine lv_goto (tgt := 58) hx hb dX8_act_49 (by decide) ?_
          obtain ⟨hr1, hu⟩ := gret_s hf
          subst hr1
          subst hu
          subst hQ
          exact g_iret C0 hG hr dX8_act_58
      · have hf := gif_t c5 hf
        refine lv_aload_n hx hb dX8_act_29 rfl (lv_at hl 0 rfl) ?_
        refine lv_iload_n hx hb dX8_act_30 rfl (lv_at hl 1 rfl) ?_
        refine lv_iload_n hx hb dX8_act_31 rfl (lv_at hl 3 rfl) ?_
        obtain ⟨r9, u9, hc9, hf⟩ := obind_s hf
        refine g_doI0 hG (g_runV C0 hG (k_X8_humsAct l D base Z (sI u 82 71 (0 : Int32)) p1 p3 r9 u9 hc9) m_X8_humsAct v_X8_humsAct w_1388 (by decide) (g_recv C0 hG (L82 hG) rfl) rfl hl.1 rfl (Nat.le_of_ble_eq_true rfl) dX8_act_32 ⟨Nat.zero_le _, Nat.zero_le _⟩) (fun H locs hG hk => ?_)
        refine lv_goto (tgt := 58) hx hb dX8_act_35 (by decide) ?_
        obtain ⟨hr1, hu⟩ := gret_s hf
        subst hr1
        subst hu
        subst hQ
        exact g_iret C0 hG hr dX8_act_58
    · have hf := gif_t c4 hf
      refine lv_iconst (v := (0 : Int32)) hx hb dX8_act_23 (by decide) ?_
      obtain ⟨hr1, hu⟩ := gret_s hf
      subst hr1
      subst hu
      subst hQ
      exact g_iret C0 hG hr dX8_act_24
theorem dX8_trace_0 : decode cX8_trace 0 = .ok (.aload_n 0, 1) := by decide +kernel
theorem dX8_trace_1 : decode cX8_trace 1 = .ok (.iload_n 1, 1) := by decide +kernel
theorem dX8_trace_2 : decode cX8_trace 2 = .ok (.iconst 0, 1) := by decide +kernel
theorem dX8_trace_3 : decode cX8_trace 3 = .ok (.bipush 19, 2) := by decide +kernel
theorem dX8_trace_5 : decode cX8_trace 5 = .ok (.invokevirtual 249, 3) := by decide +kernel
theorem dX8_trace_8 : decode cX8_trace 8 = .ok (.ifCond .eq 20, 3) := by decide +kernel
theorem dX8_trace_11 : decode cX8_trace 11 = .ok (.iload_n 1, 1) := by decide +kernel
theorem dX8_trace_12 : decode cX8_trace 12 = .ok (.aload_n 0, 1) := by decide +kernel
theorem dX8_trace_13 : decode cX8_trace 13 = .ok (.getfield 226, 3) := by decide +kernel
theorem dX8_trace_16 : decode cX8_trace 16 = .ok (.if_icmp .ge 12, 3) := by decide +kernel
theorem dX8_trace_19 : decode cX8_trace 19 = .ok (.aload_n 0, 1) := by decide +kernel
theorem dX8_trace_20 : decode cX8_trace 20 = .ok (.getfield 229, 3) := by decide +kernel
theorem dX8_trace_23 : decode cX8_trace 23 = .ok (.iload_n 1, 1) := by decide +kernel
theorem dX8_trace_24 : decode cX8_trace 24 = .ok (.iaload, 1) := by decide +kernel
theorem dX8_trace_25 : decode cX8_trace 25 = .ok (.goto 4, 3) := by decide +kernel
theorem dX8_trace_28 : decode cX8_trace 28 = .ok (.iconst (-1), 1) := by decide +kernel
theorem dX8_trace_29 : decode cX8_trace 29 = .ok (.ireturn, 1) := by decide +kernel
def f_X8_trace (p1 : Int32) (u : Mem) : Option (Int32) := Option.bind (f_X8_in p1 (0 : Int32) (19 : Int32)) (fun r1 => (if r1 = 0 then some (-1 : Int32) else (if (gI u 82 71) ≤ p1 then some (-1 : Int32) else gin p1 20 (some (gA u 124 p1.toNatClampNeg)))))
set_option maxHeartbeats 4000000 in
set_option maxRecDepth 100000 in
theorem k_X8_trace (l : Launch) (D : gDt) (base : Nat) (Z : gZt) (u : Mem) (p1 : Int32) (r : Int32) (hf : f_X8_trace p1 u = some r) : Met l yX8_trace (gws yX8_trace cX8_trace 2 (some .int)) (gRm 2 0 0) (gPc D base Z u [.ref (base + 82), .int p1]) (gQi D base r u) 0 0 (gF base) := by
  refine Met.ofW (cc := cX8_trace) (maxL := 2) (ret := some .int) (by decide) rfl ?_
  intro p e s m args below meth c s₁ B hml hv
  obtain ⟨rfl, C0, hG⟩ := g_enter B hml hv
  have hr := B.returns
  have C0 : gC p s m meth c _ cX8_trace 2 RX8 D base Z := C0
  have hx := C0.1
  have hb := C0.2.1
  have hl := lv_entry ([.ref (base + 82), .int p1]) (n := 2) (Nat.le_of_ble_eq_true rfl)
  rw [lg_entry_eq]
  generalize (lg_sl ([.ref (base + 82), .int p1]) ++ List.replicate (2 - (lg_sl ([.ref (base + 82), .int p1])).length) Slot.unset).toArray = ls at hl ⊢
  have hl : lv_has ls 2 [(0, .ref (base + 82)), (1, .int p1)] := hl
  obtain ⟨Q, hQ⟩ : ∃ Q, Q = MQ below (gQi D base r u) ([.ref (base + 82), .int p1] : List Value).toArray s 0 0 (gF base) := ⟨_, rfl⟩
  rw [← hQ]
  change W p l e (gRm 2 0 0) s m _ below meth c _ _ _ _ _ _
  unfold f_X8_trace at hf
  refine lv_aload_n hx hb dX8_trace_0 rfl (lv_at hl 0 rfl) ?_
  refine lv_iload_n hx hb dX8_trace_1 rfl (lv_at hl 1 rfl) ?_
  refine lv_iconst (v := (0 : Int32)) hx hb dX8_trace_2 (by decide) ?_
  refine lv_bipush (v := (19 : Int32)) hx hb dX8_trace_3 (by decide) ?_
  obtain ⟨r1, hc1, hf⟩ := pb_s hf
  refine g_doI0 hG (g_runV C0 hG (k_X8_in l D base Z u p1 (0 : Int32) (19 : Int32) r1 hc1) m_X8_in v_X8_in w_1082 (by decide) (g_recv C0 hG (L82 hG) rfl) rfl hl.1 rfl (Nat.le_of_ble_eq_true rfl) dX8_trace_5 ⟨Nat.zero_le _, Nat.zero_le _⟩) (fun H locs hG hk => ?_)
  refine lv_if_eq (tgt := 28) hx hb dX8_trace_8 (by decide) (fun c2 => ?_) (fun c2 => ?_)
  · have hf := gif_t c2 hf
    refine lv_iconst (v := (-1 : Int32)) hx hb dX8_trace_28 (by decide) ?_
    have hf := Option.some.inj hf
    subst hf
    subst hQ
    exact g_iret C0 hG hr dX8_trace_29
  · have hf := gif_f c2 hf
    refine lv_iload_n hx hb dX8_trace_11 rfl (lv_at hl 1 rfl) ?_
    refine lv_aload_n hx hb dX8_trace_12 rfl (lv_at hl 0 rfl) ?_
    refine g_getI C0 hG (L82 hG) rfl 71 (by decide) rfl w_917 dX8_trace_13 ?_
    refine lv_icmp_ge (tgt := 28) hx hb dX8_trace_16 (by decide) (fun c3 => ?_) (fun c3 => ?_)
    · have hf := gif_t c3 hf
      refine lv_iconst (v := (-1 : Int32)) hx hb dX8_trace_28 (by decide) ?_
      have hf := Option.some.inj hf
      subst hf
      subst hQ
      exact g_iret C0 hG hr dX8_trace_29
    · have hf := gif_f c3 hf
      refine lv_aload_n hx hb dX8_trace_19 rfl (lv_at hl 0 rfl) ?_
      refine g_getSa (o := 42) (a := 124) C0 hG (L82 hG) rfl 72 (by decide) rfl rfl w_918 dX8_trace_20 ?_
      refine lv_iload_n hx hb dX8_trace_23 rfl (lv_at hl 1 rfl) ?_
      obtain ⟨h4, hf⟩ := gin_s hf
      refine g_iald C0 hG (L124 hG) h4 dX8_trace_24 ?_
      refine lv_goto (tgt := 29) hx hb dX8_trace_25 (by decide) ?_
      have hf := Option.some.inj hf
      subst hf
      subst hQ
      exact g_iret C0 hG hr dX8_trace_29
theorem dX8_taken_0 : decode cX8_taken 0 = .ok (.aload_n 0, 1) := by decide +kernel
theorem dX8_taken_1 : decode cX8_taken 1 = .ok (.iload_n 2, 1) := by decide +kernel
theorem dX8_taken_2 : decode cX8_taken 2 = .ok (.iconst 0, 1) := by decide +kernel
theorem dX8_taken_3 : decode cX8_taken 3 = .ok (.bipush 6, 2) := by decide +kernel
theorem dX8_taken_5 : decode cX8_taken 5 = .ok (.invokevirtual 249, 3) := by decide +kernel
theorem dX8_taken_8 : decode cX8_taken 8 = .ok (.ifCond .ne 6, 3) := by decide +kernel
theorem dX8_taken_11 : decode cX8_taken 11 = .ok (.bipush (-2), 2) := by decide +kernel
theorem dX8_taken_13 : decode cX8_taken 13 = .ok (.ireturn, 1) := by decide +kernel
theorem dX8_taken_14 : decode cX8_taken 14 = .ok (.aload_n 0, 1) := by decide +kernel
theorem dX8_taken_15 : decode cX8_taken 15 = .ok (.iload_n 1, 1) := by decide +kernel
theorem dX8_taken_16 : decode cX8_taken 16 = .ok (.invokevirtual 260, 3) := by decide +kernel
theorem dX8_taken_19 : decode cX8_taken 19 = .ok (.ifCond .ne 6, 3) := by decide +kernel
theorem dX8_taken_22 : decode cX8_taken 22 = .ok (.bipush (-11), 2) := by decide +kernel
theorem dX8_taken_24 : decode cX8_taken 24 = .ok (.ireturn, 1) := by decide +kernel
theorem dX8_taken_25 : decode cX8_taken 25 = .ok (.aload_n 0, 1) := by decide +kernel
theorem dX8_taken_26 : decode cX8_taken 26 = .ok (.getfield 25, 3) := by decide +kernel
theorem dX8_taken_29 : decode cX8_taken 29 = .ok (.iload_n 1, 1) := by decide +kernel
theorem dX8_taken_30 : decode cX8_taken 30 = .ok (.iaload, 1) := by decide +kernel
theorem dX8_taken_31 : decode cX8_taken 31 = .ok (.istore_n 3, 1) := by decide +kernel
theorem dX8_taken_32 : decode cX8_taken 32 = .ok (.iload_n 2, 1) := by decide +kernel
theorem dX8_taken_33 : decode cX8_taken 33 = .ok (.ifCond .eq 39, 3) := by decide +kernel
theorem dX8_taken_36 : decode cX8_taken 36 = .ok (.iload_n 3, 1) := by decide +kernel
theorem dX8_taken_37 : decode cX8_taken 37 = .ok (.iload_n 2, 1) := by decide +kernel
theorem dX8_taken_38 : decode cX8_taken 38 = .ok (.if_icmp .eq 34, 3) := by decide +kernel
theorem dX8_taken_41 : decode cX8_taken 41 = .ok (.iload_n 2, 1) := by decide +kernel
theorem dX8_taken_42 : decode cX8_taken 42 = .ok (.iconst 1, 1) := by decide +kernel
theorem dX8_taken_43 : decode cX8_taken 43 = .ok (.if_icmp .ne 8, 3) := by decide +kernel
theorem dX8_taken_46 : decode cX8_taken 46 = .ok (.iload_n 3, 1) := by decide +kernel
theorem dX8_taken_47 : decode cX8_taken 47 = .ok (.iconst 4, 1) := by decide +kernel
theorem dX8_taken_48 : decode cX8_taken 48 = .ok (.if_icmp .eq 24, 3) := by decide +kernel
theorem dX8_taken_51 : decode cX8_taken 51 = .ok (.iload_n 2, 1) := by decide +kernel
theorem dX8_taken_52 : decode cX8_taken 52 = .ok (.iconst 2, 1) := by decide +kernel
theorem dX8_taken_53 : decode cX8_taken 53 = .ok (.if_icmp .ne 8, 3) := by decide +kernel
theorem dX8_taken_56 : decode cX8_taken 56 = .ok (.iload_n 3, 1) := by decide +kernel
theorem dX8_taken_57 : decode cX8_taken 57 = .ok (.iconst 5, 1) := by decide +kernel
theorem dX8_taken_58 : decode cX8_taken 58 = .ok (.if_icmp .eq 14, 3) := by decide +kernel
theorem dX8_taken_61 : decode cX8_taken 61 = .ok (.iload_n 2, 1) := by decide +kernel
theorem dX8_taken_62 : decode cX8_taken 62 = .ok (.iconst 3, 1) := by decide +kernel
theorem dX8_taken_63 : decode cX8_taken 63 = .ok (.if_icmp .ne 13, 3) := by decide +kernel
theorem dX8_taken_66 : decode cX8_taken 66 = .ok (.iload_n 3, 1) := by decide +kernel
theorem dX8_taken_67 : decode cX8_taken 67 = .ok (.bipush 6, 2) := by decide +kernel
theorem dX8_taken_69 : decode cX8_taken 69 = .ok (.if_icmp .ne 7, 3) := by decide +kernel
theorem dX8_taken_72 : decode cX8_taken 72 = .ok (.iload_n 3, 1) := by decide +kernel
theorem dX8_taken_73 : decode cX8_taken 73 = .ok (.goto 5, 3) := by decide +kernel
theorem dX8_taken_76 : decode cX8_taken 76 = .ok (.bipush (-12), 2) := by decide +kernel
theorem dX8_taken_78 : decode cX8_taken 78 = .ok (.ireturn, 1) := by decide +kernel
def f_X8_taken (p1 : Int32) (p2 : Int32) (u : Mem) : Option (Int32) := Option.bind (f_X8_in p2 (0 : Int32) (6 : Int32)) (fun r1 => (if r1 = 0 then some (-2 : Int32) else Option.bind (f_X8_isOne p1 u) (fun r3 => (if r3 = 0 then some (-11 : Int32) else gin p1 6 ((if p2 = 0 then some (gA u 83 p1.toNatClampNeg) else (if (gA u 83 p1.toNatClampNeg) = p2 then some (gA u 83 p1.toNatClampNeg) else (if p2 = (1 : Int32) then (if (gA u 83 p1.toNatClampNeg) = (4 : Int32) then some (gA u 83 p1.toNatClampNeg) else (if p2 = (2 : Int32) then (if (gA u 83 p1.toNatClampNeg) = (5 : Int32) then some (gA u 83 p1.toNatClampNeg) else (if p2 = (3 : Int32) then (if (gA u 83 p1.toNatClampNeg) = (6 : Int32) then some (gA u 83 p1.toNatClampNeg) else some (-12 : Int32)) else some (-12 : Int32))) else (if p2 = (3 : Int32) then (if (gA u 83 p1.toNatClampNeg) = (6 : Int32) then some (gA u 83 p1.toNatClampNeg) else some (-12 : Int32)) else some (-12 : Int32)))) else (if p2 = (2 : Int32) then (if (gA u 83 p1.toNatClampNeg) = (5 : Int32) then some (gA u 83 p1.toNatClampNeg) else (if p2 = (3 : Int32) then (if (gA u 83 p1.toNatClampNeg) = (6 : Int32) then some (gA u 83 p1.toNatClampNeg) else some (-12 : Int32)) else some (-12 : Int32))) else (if p2 = (3 : Int32) then (if (gA u 83 p1.toNatClampNeg) = (6 : Int32) then some (gA u 83 p1.toNatClampNeg) else some (-12 : Int32)) else some (-12 : Int32)))))))))))
set_option maxHeartbeats 4000000 in
set_option maxRecDepth 100000 in
theorem k_X8_taken (l : Launch) (D : gDt) (base : Nat) (Z : gZt) (u : Mem) (p1 : Int32) (p2 : Int32) (r : Int32) (hf : f_X8_taken p1 p2 u = some r) : Met l yX8_taken (gws yX8_taken cX8_taken 4 (some .int)) (gRm 3 0 0) (gPc D base Z u [.ref (base + 82), .int p1, .int p2]) (gQi D base r u) 0 0 (gF base) := by
  refine Met.ofW (cc := cX8_taken) (maxL := 4) (ret := some .int) (by decide) rfl ?_
  intro p e s m args below meth c s₁ B hml hv
  obtain ⟨rfl, C0, hG⟩ := g_enter B hml hv
  have hr := B.returns
  have C0 : gC p s m meth c _ cX8_taken 4 RX8 D base Z := C0
  have hx := C0.1
  have hb := C0.2.1
  have hl := lv_entry ([.ref (base + 82), .int p1, .int p2]) (n := 4) (Nat.le_of_ble_eq_true rfl)
  rw [lg_entry_eq]
  generalize (lg_sl ([.ref (base + 82), .int p1, .int p2]) ++ List.replicate (4 - (lg_sl ([.ref (base + 82), .int p1, .int p2])).length) Slot.unset).toArray = ls at hl ⊢
  have hl : lv_has ls 4 [(0, .ref (base + 82)), (1, .int p1), (2, .int p2)] := hl
  obtain ⟨Q, hQ⟩ : ∃ Q, Q = MQ below (gQi D base r u) ([.ref (base + 82), .int p1, .int p2] : List Value).toArray s 0 0 (gF base) := ⟨_, rfl⟩
  rw [← hQ]
  change W p l e (gRm 3 0 0) s m _ below meth c _ _ _ _ _ _
  unfold f_X8_taken at hf
  refine lv_aload_n hx hb dX8_taken_0 rfl (lv_at hl 0 rfl) ?_
  refine lv_iload_n hx hb dX8_taken_1 rfl (lv_at hl 2 rfl) ?_
  refine lv_iconst (v := (0 : Int32)) hx hb dX8_taken_2 (by decide) ?_
  refine lv_bipush (v := (6 : Int32)) hx hb dX8_taken_3 (by decide) ?_
  obtain ⟨r1, hc1, hf⟩ := pb_s hf
  refine g_doI0 hG (g_runV C0 hG (k_X8_in l D base Z u p2 (0 : Int32) (6 : Int32) r1 hc1) m_X8_in v_X8_in w_1082 (by decide) (g_recv C0 hG (L82 hG) rfl) rfl hl.1 rfl (Nat.le_of_ble_eq_true rfl) dX8_taken_5 ⟨Nat.zero_le _, Nat.zero_le _⟩) (fun H locs hG hk => ?_)
  refine lv_if_ne (tgt := 14) hx hb dX8_taken_8 (by decide) (fun c2 => ?_) (fun c2 => ?_)
  · have hf := gif_f c2 hf
    refine lv_aload_n hx hb dX8_taken_14 rfl (lv_at hl 0 rfl) ?_
    refine lv_iload_n hx hb dX8_taken_15 rfl (lv_at hl 1 rfl) ?_
    obtain ⟨r3, hc3, hf⟩ := pb_s hf
    refine g_doI0 hG (g_runV C0 hG (k_X8_isOne l D base Z u p1 r3 hc3) m_X8_isOne v_X8_isOne w_1098 (by decide) (g_recv C0 hG (L82 hG) rfl) rfl hl.1 rfl (Nat.le_of_ble_eq_true rfl) dX8_taken_16 ⟨Nat.zero_le _, Nat.zero_le _⟩) (fun H locs hG hk => ?_)
    refine lv_if_ne (tgt := 25) hx hb dX8_taken_19 (by decide) (fun c4 => ?_) (fun c4 => ?_)
    · have hf := gif_f c4 hf
      refine lv_aload_n hx hb dX8_taken_25 rfl (lv_at hl 0 rfl) ?_
      refine g_getSa (o := 1) (a := 83) C0 hG (L82 hG) rfl 5 (by decide) rfl rfl w_851 dX8_taken_26 ?_
      refine lv_iload_n hx hb dX8_taken_29 rfl (lv_at hl 1 rfl) ?_
      obtain ⟨h5, hf⟩ := gin_s hf
      refine g_iald C0 hG (L83 hG) h5 dX8_taken_30 ?_
      refine lv_istore_n (lv' := [(3, .int (gA u 83 p1.toNatClampNeg)), (0, .ref (base + 82)), (1, .int p1), (2, .int p2)]) hx hb dX8_taken_31 rfl hl (by decide) rfl (fun ls hl => ?_)
      refine lv_iload_n hx hb dX8_taken_32 rfl (lv_at hl 3 rfl) ?_
      refine lv_if_eq (tgt := 72) hx hb dX8_taken_33 (by decide) (fun c6 => ?_) (fun c6 => ?_)
      · have hf := gif_t c6 hf
        refine lv_iload_n hx hb dX8_taken_72 rfl (lv_at hl 0 rfl) ?_
        refine lv_goto (tgt := 78) hx hb dX8_taken_73 (by decide) ?_
        have hf := Option.some.inj hf
        subst hf
        subst hQ
        exact g_iret C0 hG hr dX8_taken_78
      · have hf := gif_f c6 hf
        refine lv_iload_n hx hb dX8_taken_36 rfl (lv_at hl 0 rfl) ?_
        refine lv_iload_n hx hb dX8_taken_37 rfl (lv_at hl 3 rfl) ?_
        refine lv_icmp_eq (tgt := 72) hx hb dX8_taken_38 (by decide) (fun c7 => ?_) (fun c7 => ?_)
        · have hf := gif_t c7 hf
          refine lv_iload_n hx hb dX8_taken_72 rfl (lv_at hl 0 rfl) ?_
          refine lv_goto (tgt := 78) hx hb dX8_taken_73 (by decide) ?_
          have hf := Option.some.inj hf
          subst hf
          subst hQ
          exact g_iret C0 hG hr dX8_taken_78
        · have hf := gif_f c7 hf
          refine lv_iload_n hx hb dX8_taken_41 rfl (lv_at hl 3 rfl) ?_
          refine lv_iconst (v := (1 : Int32)) hx hb dX8_taken_42 (by decide) ?_
          refine lv_icmp_ne (tgt := 51) hx hb dX8_taken_43 (by decide) (fun c8 => ?_) (fun c8 => ?_)
          · have hf := gif_f c8 hf
            refine lv_iload_n hx hb dX8_taken_51 rfl (lv_at hl 3 rfl) ?_
            refine lv_iconst (v := (2 : Int32)) hx hb dX8_taken_52 (by decide) ?_
            refine lv_icmp_ne (tgt := 61) hx hb dX8_taken_53 (by decide) (fun c9 => ?_) (fun c9 => ?_)
            · have hf := gif_f c9 hf
              refine lv_iload_n hx hb dX8_taken_61 rfl (lv_at hl 3 rfl) ?_
              refine lv_iconst (v := (3 : Int32)) hx hb dX8_taken_62 (by decide) ?_
              refine lv_icmp_ne (tgt := 76) hx hb dX8_taken_63 (by decide) (fun c10 => ?_) (fun c10 => ?_)
              · have hf := gif_f c10 hf
                refine lv_bipush (v := (-12 : Int32)) hx hb dX8_taken_76 (by decide) ?_
                have hf := Option.some.inj hf
                subst hf
                subst hQ
                exact g_iret C0 hG hr dX8_taken_78
              · have hf := gif_t c10 hf
                refine lv_iload_n hx hb dX8_taken_66 rfl (lv_at hl 0 rfl) ?_
                refine lv_bipush (v := (6 : Int32)) hx hb dX8_taken_67 (by decide) ?_
                refine lv_icmp_ne (tgt := 76) hx hb dX8_taken_69 (by decide) (fun c11 => ?_) (fun c11 => ?_)
                · have hf := gif_f c11 hf
                  refine lv_bipush (v := (-12 : Int32)) hx hb dX8_taken_76 (by decide) ?_
                  have hf := Option.some.inj hf
                  subst hf
                  subst hQ
                  exact g_iret C0 hG hr dX8_taken_78
                · have hf := gif_t c11 hf
                  refine lv_iload_n hx hb dX8_taken_72 rfl (lv_at hl 0 rfl) ?_
                  refine lv_goto (tgt := 78) hx hb dX8_taken_73 (by decide) ?_
                  have hf := Option.some.inj hf
                  subst hf
                  subst hQ
                  exact g_iret C0 hG hr dX8_taken_78
            · have hf := gif_t c9 hf
              refine lv_iload_n hx hb dX8_taken_56 rfl (lv_at hl 0 rfl) ?_
              refine lv_iconst (v := (5 : Int32)) hx hb dX8_taken_57 (by decide) ?_
              refine lv_icmp_eq (tgt := 72) hx hb dX8_taken_58 (by decide) (fun c12 => ?_) (fun c12 => ?_)
              · have hf := gif_t c12 hf
                refine lv_iload_n hx hb dX8_taken_72 rfl (lv_at hl 0 rfl) ?_
                refine lv_goto (tgt := 78) hx hb dX8_taken_73 (by decide) ?_
                have hf := Option.some.inj hf
                subst hf
                subst hQ
                exact g_iret C0 hG hr dX8_taken_78
              · have hf := gif_f c12 hf
                refine lv_iload_n hx hb dX8_taken_61 rfl (lv_at hl 3 rfl) ?_
                refine lv_iconst (v := (3 : Int32)) hx hb dX8_taken_62 (by decide) ?_
                refine lv_icmp_ne (tgt := 76) hx hb dX8_taken_63 (by decide) (fun c13 => ?_) (fun c13 => ?_)
                · have hf := gif_f c13 hf
                  refine lv_bipush (v := (-12 : Int32)) hx hb dX8_taken_76 (by decide) ?_
                  have hf := Option.some.inj hf
                  subst hf
                  subst hQ
                  exact g_iret C0 hG hr dX8_taken_78
                · have hf := gif_t c13 hf
                  refine lv_iload_n hx hb dX8_taken_66 rfl (lv_at hl 0 rfl) ?_
                  refine lv_bipush (v := (6 : Int32)) hx hb dX8_taken_67 (by decide) ?_
                  refine lv_icmp_ne (tgt := 76) hx hb dX8_taken_69 (by decide) (fun c14 => ?_) (fun c14 => ?_)
                  · have hf := gif_f c14 hf
                    refine lv_bipush (v := (-12 : Int32)) hx hb dX8_taken_76 (by decide) ?_
                    have hf := Option.some.inj hf
                    subst hf
                    subst hQ
                    exact g_iret C0 hG hr dX8_taken_78
                  · have hf := gif_t c14 hf
                    refine lv_iload_n hx hb dX8_taken_72 rfl (lv_at hl 0 rfl) ?_
                    refine lv_goto (tgt := 78) hx hb dX8_taken_73 (by decide) ?_
                    have hf := Option.some.inj hf
                    subst hf
                    subst hQ
                    exact g_iret C0 hG hr dX8_taken_78
          · have hf := gif_t c8 hf
            refine lv_iload_n hx hb dX8_taken_46 rfl (lv_at hl 0 rfl) ?_
            refine lv_iconst (v := (4 : Int32)) hx hb dX8_taken_47 (by decide) ?_
            refine lv_icmp_eq (tgt := 72) hx hb dX8_taken_48 (by decide) (fun c15 => ?_) (fun c15 => ?_)
            · have hf := gif_t c15 hf
              refine lv_iload_n hx hb dX8_taken_72 rfl (lv_at hl 0 rfl) ?_
              refine lv_goto (tgt := 78) hx hb dX8_taken_73 (by decide) ?_
              have hf := Option.some.inj hf
              subst hf
              subst hQ
              exact g_iret C0 hG hr dX8_taken_78
            · have hf := gif_f c15 hf
              refine lv_iload_n hx hb dX8_taken_51 rfl (lv_at hl 3 rfl) ?_
              refine lv_iconst (v := (2 : Int32)) hx hb dX8_taken_52 (by decide) ?_
              refine lv_icmp_ne (tgt := 61) hx hb dX8_taken_53 (by decide) (fun c16 => ?_) (fun c16 => ?_)
              · have hf := gif_f c16 hf
                refine lv_iload_n hx hb dX8_taken_61 rfl (lv_at hl 3 rfl) ?_
                refine lv_iconst (v := (3 : Int32)) hx hb dX8_taken_62 (by decide) ?_
                refine lv_icmp_ne (tgt := 76) hx hb dX8_taken_63 (by decide) (fun c17 => ?_) (fun c17 => ?_)
                · have hf := gif_f c17 hf
                  refine lv_bipush (v := (-12 : Int32)) hx hb dX8_taken_76 (by decide) ?_
                  have hf := Option.some.inj hf
                  subst hf
                  subst hQ
                  exact g_iret C0 hG hr dX8_taken_78
                · have hf := gif_t c17 hf
                  refine lv_iload_n hx hb dX8_taken_66 rfl (lv_at hl 0 rfl) ?_
                  refine lv_bipush (v := (6 : Int32)) hx hb dX8_taken_67 (by decide) ?_
                  refine lv_icmp_ne (tgt := 76) hx hb dX8_taken_69 (by decide) (fun c18 => ?_) (fun c18 => ?_)
                  · have hf := gif_f c18 hf
                    refine lv_bipush (v := (-12 : Int32)) hx hb dX8_taken_76 (by decide) ?_
                    have hf := Option.some.inj hf
                    subst hf
                    subst hQ
                    exact g_iret C0 hG hr dX8_taken_78
                  · have hf := gif_t c18 hf
                    refine lv_iload_n hx hb dX8_taken_72 rfl (lv_at hl 0 rfl) ?_
                    refine lv_goto (tgt := 78) hx hb dX8_taken_73 (by decide) ?_
                    have hf := Option.some.inj hf
                    subst hf
                    subst hQ
                    exact g_iret C0 hG hr dX8_taken_78
              · have hf := gif_t c16 hf
                refine lv_iload_n hx hb dX8_taken_56 rfl (lv_at hl 0 rfl) ?_
                refine lv_iconst (v := (5 : Int32)) hx hb dX8_taken_57 (by decide) ?_
                refine lv_icmp_eq (tgt := 72) hx hb dX8_taken_58 (by decide) (fun c19 => ?_) (fun c19 => ?_)
                · have hf := gif_t c19 hf
                  refine lv_iload_n hx hb dX8_taken_72 rfl (lv_at hl 0 rfl) ?_
                  refine lv_goto (tgt := 78) hx hb dX8_taken_73 (by decide) ?_
                  have hf := Option.some.inj hf
                  subst hf
                  subst hQ
                  exact g_iret C0 hG hr dX8_taken_78
                · have hf := gif_f c19 hf
                  refine lv_iload_n hx hb dX8_taken_61 rfl (lv_at hl 3 rfl) ?_
                  refine lv_iconst (v := (3 : Int32)) hx hb dX8_taken_62 (by decide) ?_
                  refine lv_icmp_ne (tgt := 76) hx hb dX8_taken_63 (by decide) (fun c20 => ?_) (fun c20 => ?_)
                  · have hf := gif_f c20 hf
                    refine lv_bipush (v := (-12 : Int32)) hx hb dX8_taken_76 (by decide) ?_
                    have hf := Option.some.inj hf
                    subst hf
                    subst hQ
                    exact g_iret C0 hG hr dX8_taken_78
                  · have hf := gif_t c20 hf
                    refine lv_iload_n hx hb dX8_taken_66 rfl (lv_at hl 0 rfl) ?_
                    refine lv_bipush (v := (6 : Int32)) hx hb dX8_taken_67 (by decide) ?_
                    refine lv_icmp_ne (tgt := 76) hx hb dX8_taken_69 (by decide) (fun c21 => ?_) (fun c21 => ?_)
                    · have hf := gif_f c21 hf
                      refine lv_bipush (v := (-12 : Int32)) hx hb dX8_taken_76 (by decide) ?_
                      have hf := Option.some.inj hf
                      subst hf
                      subst hQ
                      exact g_iret C0 hG hr dX8_taken_78
                    · have hf := gif_t c21 hf
                      refine lv_iload_n hx hb dX8_taken_72 rfl (lv_at hl 0 rfl) ?_
                      refine lv_goto (tgt := 78) hx hb dX8_taken_73 (by decide) ?_
                      have hf := Option.some.inj hf
                      subst hf
                      subst hQ
                      exact g_iret C0 hG hr dX8_taken_78
    · have hf := gif_t c4 hf
      refine lv_bipush (v := (-11 : Int32)) hx hb dX8_taken_22 (by decide) ?_
      have hf := Option.some.inj hf
      subst hf
      subst hQ
      exact g_iret C0 hG hr dX8_taken_24
  · have hf := gif_t c2 hf
    refine lv_bipush (v := (-2 : Int32)) hx hb dX8_taken_11 (by decide) ?_
    have hf := Option.some.inj hf
    subst hf
    subst hQ
    exact g_iret C0 hG hr dX8_taken_13
theorem dX8_count_0 : decode cX8_count 0 = .ok (.iload_n 1, 1) := by decide +kernel
theorem dX8_count_1 : decode cX8_count 1 = .ok (.tableswitch 78 0 6 #[43, 48, 53, 58, 63, 68, 73], 43) := by decide +kernel
theorem dX8_count_44 : decode cX8_count 44 = .ok (.aload_n 0, 1) := by decide +kernel
theorem dX8_count_45 : decode cX8_count 45 = .ok (.getfield 7, 3) := by decide +kernel
theorem dX8_count_48 : decode cX8_count 48 = .ok (.ireturn, 1) := by decide +kernel
theorem dX8_count_49 : decode cX8_count 49 = .ok (.aload_n 0, 1) := by decide +kernel
theorem dX8_count_50 : decode cX8_count 50 = .ok (.getfield 47, 3) := by decide +kernel
theorem dX8_count_53 : decode cX8_count 53 = .ok (.ireturn, 1) := by decide +kernel
theorem dX8_count_54 : decode cX8_count 54 = .ok (.aload_n 0, 1) := by decide +kernel
theorem dX8_count_55 : decode cX8_count 55 = .ok (.getfield 123, 3) := by decide +kernel
theorem dX8_count_58 : decode cX8_count 58 = .ok (.ireturn, 1) := by decide +kernel
theorem dX8_count_59 : decode cX8_count 59 = .ok (.aload_n 0, 1) := by decide +kernel
theorem dX8_count_60 : decode cX8_count 60 = .ok (.getfield 135, 3) := by decide +kernel
theorem dX8_count_63 : decode cX8_count 63 = .ok (.ireturn, 1) := by decide +kernel
theorem dX8_count_64 : decode cX8_count 64 = .ok (.aload_n 0, 1) := by decide +kernel
theorem dX8_count_65 : decode cX8_count 65 = .ok (.getfield 138, 3) := by decide +kernel
theorem dX8_count_68 : decode cX8_count 68 = .ok (.ireturn, 1) := by decide +kernel
theorem dX8_count_69 : decode cX8_count 69 = .ok (.aload_n 0, 1) := by decide +kernel
theorem dX8_count_70 : decode cX8_count 70 = .ok (.getfield 53, 3) := by decide +kernel
theorem dX8_count_73 : decode cX8_count 73 = .ok (.ireturn, 1) := by decide +kernel
theorem dX8_count_74 : decode cX8_count 74 = .ok (.aload_n 0, 1) := by decide +kernel
theorem dX8_count_75 : decode cX8_count 75 = .ok (.getfield 226, 3) := by decide +kernel
theorem dX8_count_78 : decode cX8_count 78 = .ok (.ireturn, 1) := by decide +kernel
theorem dX8_count_79 : decode cX8_count 79 = .ok (.bipush (-2), 2) := by decide +kernel
theorem dX8_count_81 : decode cX8_count 81 = .ok (.ireturn, 1) := by decide +kernel
def f_X8_count (p1 : Int32) (u : Mem) : Option (Int32) := (if p1 = (0 : Int32) then some (gI u 82 0) else (if p1 = (1 : Int32) then some (gI u 82 12) else (if p1 = (2 : Int32) then some (gI u 82 37) else (if p1 = (3 : Int32) then some (gI u 82 41) else (if p1 = (4 : Int32) then some (gI u 82 42) else (if p1 = (5 : Int32) then some (gI u 82 14) else (if p1 = (6 : Int32) then some (gI u 82 71) else some (-2 : Int32))))))))
set_option maxHeartbeats 4000000 in
set_option maxRecDepth 100000 in
theorem k_X8_count (l : Launch) (D : gDt) (base : Nat) (Z : gZt) (u : Mem) (p1 : Int32) (r : Int32) (hf : f_X8_count p1 u = some r) : Met l yX8_count (gws yX8_count cX8_count 2 (some .int)) (gRm 1 0 0) (gPc D base Z u [.ref (base + 82), .int p1]) (gQi D base r u) 0 0 (gF base) := by
  refine Met.ofW (cc := cX8_count) (maxL := 2) (ret := some .int) (by decide) rfl ?_
  intro p e s m args below meth c s₁ B hml hv
  obtain ⟨rfl, C0, hG⟩ := g_enter B hml hv
  have hr := B.returns
  have C0 : gC p s m meth c _ cX8_count 2 RX8 D base Z := C0
  have hx := C0.1
  have hb := C0.2.1
  have hl := lv_entry ([.ref (base + 82), .int p1]) (n := 2) (Nat.le_of_ble_eq_true rfl)
  rw [lg_entry_eq]
  generalize (lg_sl ([.ref (base + 82), .int p1]) ++ List.replicate (2 - (lg_sl ([.ref (base + 82), .int p1])).length) Slot.unset).toArray = ls at hl ⊢
  have hl : lv_has ls 2 [(0, .ref (base + 82)), (1, .int p1)] := hl
  obtain ⟨Q, hQ⟩ : ∃ Q, Q = MQ below (gQi D base r u) ([.ref (base + 82), .int p1] : List Value).toArray s 0 0 (gF base) := ⟨_, rfl⟩
  rw [← hQ]
  change W p l e (gRm 1 0 0) s m _ below meth c _ _ _ _ _ _
  unfold f_X8_count at hf
  refine lv_iload_n hx hb dX8_count_0 rfl (lv_at hl 1 rfl) ?_
  refine (Decidable.em (p1 = (0 : Int32))).elim (fun c1 => ?_) (fun c1 => ?_)
  · have hf := gif_t c1 hf
    refine lv_tableIn (off := 43) (tgt := 44) hx hb dX8_count_1 (by rw [c1]; decide) (by rw [c1]; decide) (by rw [c1]; rfl) (by decide) ?_
    refine lv_aload_n hx hb dX8_count_44 rfl (lv_at hl 0 rfl) ?_
    refine g_getI C0 hG (L82 hG) rfl 0 (by decide) rfl w_846 dX8_count_45 ?_
    have hf := Option.some.inj hf
    subst hf
    subst hQ
    exact g_iret C0 hG hr dX8_count_48
  · have hf := gif_f c1 hf
    refine (Decidable.em (p1 = (1 : Int32))).elim (fun c2 => ?_) (fun c2 => ?_)
    · have hf := gif_t c2 hf
      refine lv_tableIn (off := 48) (tgt := 49) hx hb dX8_count_1 (by rw [c2]; decide) (by rw [c2]; decide) (by rw [c2]; rfl) (by decide) ?_
      refine lv_aload_n hx hb dX8_count_49 rfl (lv_at hl 0 rfl) ?_
      refine g_getI C0 hG (L82 hG) rfl 12 (by decide) rfl w_858 dX8_count_50 ?_
      have hf := Option.some.inj hf
      subst hf
      subst hQ
      exact g_iret C0 hG hr dX8_count_53
    · have hf := gif_f c2 hf
      refine (Decidable.em (p1 = (2 : Int32))).elim (fun c3 => ?_) (fun c3 => ?_)
      · have hf := gif_t c3 hf
        refine lv_tableIn (off := 53) (tgt := 54) hx hb dX8_count_1 (by rw [c3]; decide) (by rw [c3]; decide) (by rw [c3]; rfl) (by decide) ?_
        refine lv_aload_n hx hb dX8_count_54 rfl (lv_at hl 0 rfl) ?_
        refine g_getI C0 hG (L82 hG) rfl 37 (by decide) rfl w_883 dX8_count_55 ?_
        have hf := Option.some.inj hf
        subst hf
        subst hQ
        exact g_iret C0 hG hr dX8_count_58
      · have hf := gif_f c3 hf
        refine (Decidable.em (p1 = (3 : Int32))).elim (fun c4 => ?_) (fun c4 => ?_)
        · have hf := gif_t c4 hf
          refine lv_tableIn (off := 58) (tgt := 59) hx hb dX8_count_1 (by rw [c4]; decide) (by rw [c4]; decide) (by rw [c4]; rfl) (by decide) ?_
          refine lv_aload_n hx hb dX8_count_59 rfl (lv_at hl 0 rfl) ?_
          refine g_getI C0 hG (L82 hG) rfl 41 (by decide) rfl w_887 dX8_count_60 ?_
          have hf := Option.some.inj hf
          subst hf
          subst hQ
          exact g_iret C0 hG hr dX8_count_63
        · have hf := gif_f c4 hf
          refine (Decidable.em (p1 = (4 : Int32))).elim (fun c5 => ?_) (fun c5 => ?_)
          · have hf := gif_t c5 hf
            refine lv_tableIn (off := 63) (tgt := 64) hx hb dX8_count_1 (by rw [c5]; decide) (by rw [c5]; decide) (by rw [c5]; rfl) (by decide) ?_
            refine lv_aload_n hx hb dX8_count_64 rfl (lv_at hl 0 rfl) ?_
            refine g_getI C0 hG (L82 hG) rfl 42 (by decide) rfl w_888 dX8_count_65 ?_
            have hf := Option.some.inj hf
            subst hf
            subst hQ
            exact g_iret C0 hG hr dX8_count_68
          · have hf := gif_f c5 hf
            refine (Decidable.em (p1 = (5 : Int32))).elim (fun c6 => ?_) (fun c6 => ?_)
            · have hf := gif_t c6 hf
              refine lv_tableIn (off := 68) (tgt := 69) hx hb dX8_count_1 (by rw [c6]; decide) (by rw [c6]; decide) (by rw [c6]; rfl) (by decide) ?_
              refine lv_aload_n hx hb dX8_count_69 rfl (lv_at hl 0 rfl) ?_
              refine g_getI C0 hG (L82 hG) rfl 14 (by decide) rfl w_860 dX8_count_70 ?_
              have hf := Option.some.inj hf
              subst hf
              subst hQ
              exact g_iret C0 hG hr dX8_count_73
            · have hf := gif_f c6 hf
              refine (Decidable.em (p1 = (6 : Int32))).elim (fun c7 => ?_) (fun c7 => ?_)
              · have hf := gif_t c7 hf
                refine lv_tableIn (off := 73) (tgt := 74) hx hb dX8_count_1 (by rw [c7]; decide) (by rw [c7]; decide) (by rw [c7]; rfl) (by decide) ?_
                refine lv_aload_n hx hb dX8_count_74 rfl (lv_at hl 0 rfl) ?_
                refine g_getI C0 hG (L82 hG) rfl 71 (by decide) rfl w_917 dX8_count_75 ?_
                have hf := Option.some.inj hf
                subst hf
                subst hQ
                exact g_iret C0 hG hr dX8_count_78
              · have hf := gif_f c7 hf
                refine lv_tableOut (tgt := 79) hx hb dX8_count_1 (by
                    have n0 := lv_neT c1 (k := (0 : Int32)) (a := 0) (by decide)
                    have n1 := lv_neT c2 (k := (1 : Int32)) (a := 1) (by decide)
                    have n2 := lv_neT c3 (k := (2 : Int32)) (a := 2) (by decide)
                    have n3 := lv_neT c4 (k := (3 : Int32)) (a := 3) (by decide)
                    have n4 := lv_neT c5 (k := (4 : Int32)) (a := 4) (by decide)
                    have n5 := lv_neT c6 (k := (5 : Int32)) (a := 5) (by decide)
                    have n6 := lv_neT c7 (k := (6 : Int32)) (a := 6) (by decide)
                    omega) (by decide) ?_
                refine lv_bipush (v := (-2 : Int32)) hx hb dX8_count_79 (by decide) ?_
                have hf := Option.some.inj hf
                subst hf
                subst hQ
                exact g_iret C0 hG hr dX8_count_81
theorem dX8_tape_0 : decode cX8_tape 0 = .ok (.aload_n 0, 1) := by decide +kernel
theorem dX8_tape_1 : decode cX8_tape 1 = .ok (.iload_n 1, 1) := by decide +kernel
theorem dX8_tape_2 : decode cX8_tape 2 = .ok (.invokevirtual 407, 3) := by decide +kernel
theorem dX8_tape_5 : decode cX8_tape 5 = .ok (.ifCond .ne 5, 3) := by decide +kernel
theorem dX8_tape_8 : decode cX8_tape 8 = .ok (.iconst (-1), 1) := by decide +kernel
theorem dX8_tape_9 : decode cX8_tape 9 = .ok (.ireturn, 1) := by decide +kernel
theorem dX8_tape_10 : decode cX8_tape 10 = .ok (.aload_n 0, 1) := by decide +kernel
theorem dX8_tape_11 : decode cX8_tape 11 = .ok (.iload_n 2, 1) := by decide +kernel
theorem dX8_tape_12 : decode cX8_tape 12 = .ok (.iconst (-1), 1) := by decide +kernel
theorem dX8_tape_13 : decode cX8_tape 13 = .ok (.iconst 4, 1) := by decide +kernel
theorem dX8_tape_14 : decode cX8_tape 14 = .ok (.invokevirtual 249, 3) := by decide +kernel
theorem dX8_tape_17 : decode cX8_tape 17 = .ok (.ifCond .eq 13, 3) := by decide +kernel
theorem dX8_tape_20 : decode cX8_tape 20 = .ok (.iload_n 2, 1) := by decide +kernel
theorem dX8_tape_21 : decode cX8_tape 21 = .ok (.ifCond .lt 12, 3) := by decide +kernel
theorem dX8_tape_24 : decode cX8_tape 24 = .ok (.iload_n 3, 1) := by decide +kernel
theorem dX8_tape_25 : decode cX8_tape 25 = .ok (.bipush 60, 2) := by decide +kernel
theorem dX8_tape_27 : decode cX8_tape 27 = .ok (.if_icmp .le 6, 3) := by decide +kernel
theorem dX8_tape_30 : decode cX8_tape 30 = .ok (.bipush (-2), 2) := by decide +kernel
theorem dX8_tape_32 : decode cX8_tape 32 = .ok (.ireturn, 1) := by decide +kernel
theorem dX8_tape_33 : decode cX8_tape 33 = .ok (.iload_n 2, 1) := by decide +kernel
theorem dX8_tape_34 : decode cX8_tape 34 = .ok (.ifCond .lt 10, 3) := by decide +kernel
theorem dX8_tape_37 : decode cX8_tape 37 = .ok (.iload_n 3, 1) := by decide +kernel
theorem dX8_tape_38 : decode cX8_tape 38 = .ok (.ifCond .ge 6, 3) := by decide +kernel
theorem dX8_tape_41 : decode cX8_tape 41 = .ok (.bipush (-14), 2) := by decide +kernel
theorem dX8_tape_43 : decode cX8_tape 43 = .ok (.ireturn, 1) := by decide +kernel
theorem dX8_tape_44 : decode cX8_tape 44 = .ok (.aload_n 0, 1) := by decide +kernel
theorem dX8_tape_45 : decode cX8_tape 45 = .ok (.getfield 232, 3) := by decide +kernel
theorem dX8_tape_48 : decode cX8_tape 48 = .ok (.iload_n 1, 1) := by decide +kernel
theorem dX8_tape_49 : decode cX8_tape 49 = .ok (.iload_n 2, 1) := by decide +kernel
theorem dX8_tape_50 : decode cX8_tape 50 = .ok (.iastore, 1) := by decide +kernel
theorem dX8_tape_51 : decode cX8_tape 51 = .ok (.aload_n 0, 1) := by decide +kernel
theorem dX8_tape_52 : decode cX8_tape 52 = .ok (.getfield 235, 3) := by decide +kernel
theorem dX8_tape_55 : decode cX8_tape 55 = .ok (.iload_n 1, 1) := by decide +kernel
theorem dX8_tape_56 : decode cX8_tape 56 = .ok (.iload_n 2, 1) := by decide +kernel
theorem dX8_tape_57 : decode cX8_tape 57 = .ok (.ifCond .ge 7, 3) := by decide +kernel
theorem dX8_tape_60 : decode cX8_tape 60 = .ok (.iconst 0, 1) := by decide +kernel
theorem dX8_tape_61 : decode cX8_tape 61 = .ok (.goto 4, 3) := by decide +kernel
theorem dX8_tape_64 : decode cX8_tape 64 = .ok (.iload_n 3, 1) := by decide +kernel
theorem dX8_tape_65 : decode cX8_tape 65 = .ok (.iastore, 1) := by decide +kernel
theorem dX8_tape_66 : decode cX8_tape 66 = .ok (.iconst 0, 1) := by decide +kernel
theorem dX8_tape_67 : decode cX8_tape 67 = .ok (.istore 4, 2) := by decide +kernel
theorem dX8_tape_69 : decode cX8_tape 69 = .ok (.iload 4, 2) := by decide +kernel
theorem dX8_tape_71 : decode cX8_tape 71 = .ok (.bipush 60, 2) := by decide +kernel
theorem dX8_tape_73 : decode cX8_tape 73 = .ok (.if_icmp .ge 22, 3) := by decide +kernel
theorem dX8_tape_76 : decode cX8_tape 76 = .ok (.aload_n 0, 1) := by decide +kernel
theorem dX8_tape_77 : decode cX8_tape 77 = .ok (.getfield 238, 3) := by decide +kernel
theorem dX8_tape_80 : decode cX8_tape 80 = .ok (.bipush 60, 2) := by decide +kernel
theorem dX8_tape_82 : decode cX8_tape 82 = .ok (.iload_n 1, 1) := by decide +kernel
theorem dX8_tape_83 : decode cX8_tape 83 = .ok (.imul, 1) := by decide +kernel
theorem dX8_tape_84 : decode cX8_tape 84 = .ok (.iload 4, 2) := by decide +kernel
theorem dX8_tape_86 : decode cX8_tape 86 = .ok (.iadd, 1) := by decide +kernel
theorem dX8_tape_87 : decode cX8_tape 87 = .ok (.lconst 0, 1) := by decide +kernel
theorem dX8_tape_88 : decode cX8_tape 88 = .ok (.lastore, 1) := by decide +kernel
theorem dX8_tape_89 : decode cX8_tape 89 = .ok (.iinc 4 1, 3) := by decide +kernel
theorem dX8_tape_92 : decode cX8_tape 92 = .ok (.goto (-23), 3) := by decide +kernel
theorem dX8_tape_95 : decode cX8_tape 95 = .ok (.iconst 1, 1) := by decide +kernel
theorem dX8_tape_96 : decode cX8_tape 96 = .ok (.ireturn, 1) := by decide +kernel
def f_X8_tape_L69 (p1 : Int32) (x4_9 : Int32) (u9 : Mem) : Option ((Int32 × Mem) ⊕ (Int32 × Mem)) := (if (60 : Int32) ≤ x4_9 then some (Sum.inr ((1 : Int32), u9)) else gin (((60 : Int32) * p1) + x4_9) 360 (some (Sum.inl (x4_9 + (1 : Int32), sL u9 127 (((60 : Int32) * p1) + x4_9).toNatClampNeg (0 : Int64)))))
def f_X8_tape_L69b (p1 : Int32) (x4_13 : Int32) (u13 : Mem) : Option ((Int32 × Mem) ⊕ (Int32 × Mem)) := (if (60 : Int32) ≤ x4_13 then some (Sum.inr ((1 : Int32), u13)) else gin (((60 : Int32) * p1) + x4_13) 360 (some (Sum.inl (x4_13 + (1 : Int32), sL u13 127 (((60 : Int32) * p1) + x4_13).toNatClampNeg (0 : Int64)))))
def f_X8_tape_L69bb (p1 : Int32) (x4_21 : Int32) (u21 : Mem) : Option ((Int32 × Mem) ⊕ (Int32 × Mem)) := (if (60 : Int32) ≤ x4_21 then some (Sum.inr ((1 : Int32), u21)) else gin (((60 : Int32) * p1) + x4_21) 360 (some (Sum.inl (x4_21 + (1 : Int32), sL u21 127 (((60 : Int32) * p1) + x4_21).toNatClampNeg (0 : Int64)))))
def f_X8_tape_L69bbb (p1 : Int32) (x4_25 : Int32) (u25 : Mem) : Option ((Int32 × Mem) ⊕ (Int32 × Mem)) := (if (60 : Int32) ≤ x4_25 then some (Sum.inr ((1 : Int32), u25)) else gin (((60 : Int32) * p1) + x4_25) 360 (some (Sum.inl (x4_25 + (1 : Int32), sL u25 127 (((60 : Int32) * p1) + x4_25).toNatClampNeg (0 : Int64)))))
def f_X8_tape (p1 : Int32) (p2 : Int32) (p3 : Int32) (u : Mem) : Option (Int32 × Mem) := Option.bind (f_X8_isTape p1) (fun r1 => (if r1 = 0 then some ((-1 : Int32), u) else Option.bind (f_X8_in p2 (-1 : Int32) (4 : Int32)) (fun r3 => (if r3 = 0 then some ((-2 : Int32), u) else (if p2 < 0 then gin p1 6 ((if 0 ≤ p2 then gin p1 6 (whileO (fun s => f_X8_tape_L69 p1 s.1 s.2) FUEL ((0 : Int32), sA (sA u 125 p1.toNatClampNeg p2) 126 p1.toNatClampNeg p3)) else gin p1 6 (whileO (fun s => f_X8_tape_L69b p1 s.1 s.2) FUEL ((0 : Int32), sA (sA u 125 p1.toNatClampNeg p2) 126 p1.toNatClampNeg (0 : Int32))))) else (if p3 ≤ (60 : Int32) then (if 0 ≤ p3 then gin p1 6 ((if 0 ≤ p2 then gin p1 6 (whileO (fun s => f_X8_tape_L69bb p1 s.1 s.2) FUEL ((0 : Int32), sA (sA u 125 p1.toNatClampNeg p2) 126 p1.toNatClampNeg p3)) else gin p1 6 (whileO (fun s => f_X8_tape_L69bbb p1 s.1 s.2) FUEL ((0 : Int32), sA (sA u 125 p1.toNatClampNeg p2) 126 p1.toNatClampNeg (0 : Int32))))) else some ((-14 : Int32), u)) else some ((-2 : Int32), u)))))))
set_option maxHeartbeats 4000000 in
set_option maxRecDepth 100000 in
theorem k_X8_tape (l : Launch) (D : gDt) (base : Nat) (Z : gZt) (u : Mem) (p1 : Int32) (p2 : Int32) (p3 : Int32) (r : Int32) (u' : Mem) (hf : f_X8_tape p1 p2 p3 u = some (r, u')) : Met l yX8_tape (gws yX8_tape cX8_tape 5 (some .int)) (gRm 3 0 0) (gPc D base Z u [.ref (base + 82), .int p1, .int p2, .int p3]) (gQi D base r u') 0 0 (gF base) := by
  refine Met.ofW (cc := cX8_tape) (maxL := 5) (ret := some .int) (by decide) rfl ?_
  intro p e s m args below meth c s₁ B hml hv
  obtain ⟨rfl, C0, hG⟩ := g_enter B hml hv
  have hr := B.returns
  have C0 : gC p s m meth c _ cX8_tape 5 RX8 D base Z := C0
  have hx := C0.1
  have hb := C0.2.1
  have hl := lv_entry ([.ref (base + 82), .int p1, .int p2, .int p3]) (n := 5) (Nat.le_of_ble_eq_true rfl)
  rw [lg_entry_eq]
  generalize (lg_sl ([.ref (base + 82), .int p1, .int p2, .int p3]) ++ List.replicate (5 - (lg_sl ([.ref (base + 82), .int p1, .int p2, .int p3])).length) Slot.unset).toArray = ls at hl ⊢
  have hl : lv_has ls 5 [(0, .ref (base + 82)), (1, .int p1), (2, .int p2), (3, .int p3)] := hl
  obtain ⟨Q, hQ⟩ : ∃ Q, Q = MQ below (gQi D base r u') ([.ref (base + 82), .int p1, .int p2, .int p3] : List Value).toArray s 0 0 (gF base) := ⟨_, rfl⟩
  rw [← hQ]
  change W p l e (gRm 3 0 0) s m _ below meth c _ _ _ _ _ _
  unfold f_X8_tape at hf
  refine lv_aload_n hx hb dX8_tape_0 rfl (lv_at hl 0 rfl) ?_
  refine lv_iload_n hx hb dX8_tape_1 rfl (lv_at hl 1 rfl) ?_
  obtain ⟨r1, hc1, hf⟩ := pb_s hf
  refine g_doI0 hG (g_runV C0 hG (k_X8_isTape l D base Z u p1 r1 hc1) m_X8_isTape v_X8_isTape w_1372 (by decide) (g_recv C0 hG (L82 hG) rfl) rfl hl.1 rfl (Nat.le_of_ble_eq_true rfl) dX8_tape_2 ⟨Nat.zero_le _, Nat.zero_le _⟩) (fun H locs hG hk => ?_)
  refine lv_if_ne (tgt := 10) hx hb dX8_tape_5 (by decide) (fun c2 => ?_) (fun c2 => ?_)
  · have hf := gif_f c2 hf
    refine lv_aload_n hx hb dX8_tape_10 rfl (lv_at hl 0 rfl) ?_
    refine lv_iload_n hx hb dX8_tape_11 rfl (lv_at hl 2 rfl) ?_
    refine lv_iconst (v := (-1 : Int32)) hx hb dX8_tape_12 (by decide) ?_
    refine lv_iconst (v := (4 : Int32)) hx hb dX8_tape_13 (by decide) ?_
    obtain ⟨r3, hc3, hf⟩ := pb_s hf
    refine g_doI0 hG (g_runV C0 hG (k_X8_in l D base Z u p2 (-1 : Int32) (4 : Int32) r3 hc3) m_X8_in v_X8_in w_1082 (by decide) (g_recv C0 hG (L82 hG) rfl) rfl hl.1 rfl (Nat.le_of_ble_eq_true rfl) dX8_tape_14 ⟨Nat.zero_le _, Nat.zero_le _⟩) (fun H locs hG hk => ?_)
    refine lv_if_eq (tgt := 30) hx hb dX8_tape_17 (by decide) (fun c4 => ?_) (fun c4 => ?_)
    · have hf := gif_t c4 hf
      refine lv_bipush (v := (-2 : Int32)) hx hb dX8_tape_30 (by decide) ?_
      obtain ⟨hr1, hu⟩ := gret_s hf
      subst hr1
      subst hu
      subst hQ
      exact g_iret C0 hG hr dX8_tape_32
    · have hf := gif_f c4 hf
      refine lv_iload_n hx hb dX8_tape_20 rfl (lv_at hl 2 rfl) ?_
      refine lv_if_lt (tgt := 33) hx hb dX8_tape_21 (by decide) (fun c5 => ?_) (fun c5 => ?_)
      · have hf := gif_t c5 hf
        refine lv_iload_n hx hb dX8_tape_33 rfl (lv_at hl 2 rfl) ?_
        refine lv_if_lt (tgt := 44) hx hb dX8_tape_34 (by decide) (fun _ => ?_) (fun c => absurd c5 c)
        refine lv_aload_n hx hb dX8_tape_44 rfl (lv_at hl 0 rfl) ?_
        refine g_getSa (o := 43) (a := 125) C0 hG (L82 hG) rfl 73 (by decide) rfl rfl w_919 dX8_tape_45 ?_
        refine lv_iload_n hx hb dX8_tape_48 rfl (lv_at hl 1 rfl) ?_
        refine lv_iload_n hx hb dX8_tape_49 rfl (lv_at hl 2 rfl) ?_
        obtain ⟨h6, hf⟩ := gin_s hf
        refine g_iast C0 hG (L125 hG) h6 dX8_tape_50 (fun H locs hG => ?_)
        refine lv_aload_n hx hb dX8_tape_51 rfl (lv_at hl 0 rfl) ?_
        refine g_getSa (o := 44) (a := 126) C0 hG (L82 hG) rfl 74 (by decide) rfl rfl w_920 dX8_tape_52 ?_
        refine lv_iload_n hx hb dX8_tape_55 rfl (lv_at hl 1 rfl) ?_
        refine lv_iload_n hx hb dX8_tape_56 rfl (lv_at hl 2 rfl) ?_
        refine lv_if_ge (tgt := 64) hx hb dX8_tape_57 (by decide) (fun c7 => ?_) (fun c7 => ?_)
        · have hf := gif_t c7 hf
          refine lv_iload_n hx hb dX8_tape_64 rfl (lv_at hl 3 rfl) ?_
          obtain ⟨h8, hf⟩ := gin_s hf
          refine g_iast C0 hG (L126 hG) h8 dX8_tape_65 (fun H locs hG => ?_)
          refine lv_iconst (v := (0 : Int32)) hx hb dX8_tape_66 (by decide) ?_
          refine lv_istore (lv' := [(4, .int (0 : Int32)), (0, .ref (base + 82)), (1, .int p1), (2, .int p2), (3, .int p3)]) hx hb dX8_tape_67 hl (by decide) rfl (fun ls hl => ?_)
          have loop9 : ∀ (n9 : Nat) (x4_9 : Int32) (u9 : Mem) (H : Heap) (locs : List Loc) (ls : Array Slot), gH D base s u9 H locs → lv_has ls 5 [(0, .ref (base + 82)), (1, .int p1), (4, .int x4_9)] → whileO (fun s => f_X8_tape_L69 p1 s.1 s.2) n9 (x4_9, u9) = some (r, u') → W p l e (gRm 3 0 0) s m ([.ref (base + 82), .int p1, .int p2, .int p3] : List Value).toArray below meth c H locs 0 0 Q (F0 m 69 ls []) := by
            intro n9
            induction n9 with
            | zero => intro x4_9 u9 H locs ls hG hl hf; cases hf
            | succ n9 ih9 =>
              intro x4_9 u9 H locs ls hG hl hf
              obtain ⟨X9, hf, hX9⟩ := while_s hf
              have hf : f_X8_tape_L69 p1 x4_9 u9 = some X9 := hf
              unfold f_X8_tape_L69 at hf
              refine lv_iload hx hb dX8_tape_69 (lv_at hl 2 rfl) ?_
              refine lv_bipush (v := (60 : Int32)) hx hb dX8_tape_71 (by decide) ?_
              refine lv_icmp_ge (tgt := 95) hx hb dX8_tape_73 (by decide) (fun c10 => ?_) (fun c10 => ?_)
              · have hf := gif_t c10 hf
                refine lv_iconst (v := (1 : Int32)) hx hb dX8_tape_95 (by decide) ?_
                have hf := while_r hX9 hf
                obtain ⟨hr1, hu⟩ := gret_s hf
                subst hr1
                subst hu
                subst hQ
                exact g_iret C0 hG hr dX8_tape_96
              · have hf := gif_f c10 hf
                refine lv_aload_n hx hb dX8_tape_76 rfl (lv_at hl 0 rfl) ?_
                refine g_getSa (o := 45) (a := 127) C0 hG (L82 hG) rfl 75 (by decide) rfl rfl w_921 dX8_tape_77 ?_
                refine lv_bipush (v := (60 : Int32)) hx hb dX8_tape_80 (by decide) ?_
                refine lv_iload_n hx hb dX8_tape_82 rfl (lv_at hl 1 rfl) ?_
                refine lv_imul hx hb dX8_tape_83 ?_
                refine lv_iload hx hb dX8_tape_84 (lv_at hl 2 rfl) ?_
                refine lv_iadd hx hb dX8_tape_86 ?_
                refine lv_lconst (v := (0 : Int64)) hx hb dX8_tape_87 rfl ?_
                obtain ⟨h11, hf⟩ := gin_s hf
                refine g_last C0 hG (L127 hG) h11 dX8_tape_88 (fun H locs hG => ?_)
                refine lv_iinc (v := x4_9 + (1 : Int32)) (lv' := [(4, .int (x4_9 + (1 : Int32))), (0, .ref (base + 82)), (1, .int p1)]) hx hb dX8_tape_89 hl (k := 2) rfl rfl (by decide) rfl (fun ls hl => ?_)
                refine lv_goto (tgt := 69) hx hb dX8_tape_92 (by decide) ?_
                have hf := while_l hX9 hf
                exact ih9 (x4_9 + (1 : Int32)) (sL u9 127 (((60 : Int32) * p1) + x4_9).toNatClampNeg (0 : Int64)) _ _ ls hG (lv_sub hl [1, 2, 0] rfl) hf
          exact loop9 FUEL (0 : Int32) (sA (sA u 125 p1.toNatClampNeg p2) 126 p1.toNatClampNeg p3) _ _ ls hG (lv_sub hl [1, 2, 0] rfl) hf
        · have hf := gif_f c7 hf
          refine lv_iconst (v := (0 : Int32)) hx hb dX8_tape_60 (by decide) ?_
          refine lv_goto (tgt := 65) hx hb dX8_tape_61 (by decide) ?_
          obtain ⟨h12, hf⟩ := gin_s hf
          refine g_iast C0 hG (L126 hG) h12 dX8_tape_65 (fun H locs hG => ?_)
          refine lv_iconst (v := (0 : Int32)) hx hb dX8_tape_66 (by decide) ?_
          refine lv_istore (lv' := [(4, .int (0 : Int32)), (0, .ref (base + 82)), (1, .int p1), (2, .int p2), (3, .int p3)]) hx hb dX8_tape_67 hl (by decide) rfl (fun ls hl => ?_)
          have loop13 : ∀ (n13 : Nat) (x4_13 : Int32) (u13 : Mem) (H : Heap) (locs : List Loc) (ls : Array Slot), gH D base s u13 H locs → lv_has ls 5 [(0, .ref (base + 82)), (1, .int p1), (4, .int x4_13)] → whileO (fun s => f_X8_tape_L69b p1 s.1 s.2) n13 (x4_13, u13) = some (r, u') → W p l e (gRm 3 0 0) s m ([.ref (base + 82), .int p1, .int p2, .int p3] : List Value).toArray below meth c H locs 0 0 Q (F0 m 69 ls []) := by
            intro n13
            induction n13 with
            | zero => intro x4_13 u13 H locs ls hG hl hf; cases hf
            | succ n13 ih13 =>
              intro x4_13 u13 H locs ls hG hl hf
              obtain ⟨X13, hf, hX13⟩ := while_s hf
              have hf : f_X8_tape_L69b p1 x4_13 u13 = some X13 := hf
              unfold f_X8_tape_L69b at hf
              refine lv_iload hx hb dX8_tape_69 (lv_at hl 2 rfl) ?_
              refine lv_bipush (v := (60 : Int32)) hx hb dX8_tape_71 (by decide) ?_
              refine lv_icmp_ge (tgt := 95) hx hb dX8_tape_73 (by decide) (fun c14 => ?_) (fun c14 => ?_)
              · have hf := gif_t c14 hf
                refine lv_iconst (v := (1 : Int32)) hx hb dX8_tape_95 (by decide) ?_
                have hf := while_r hX13 hf
                obtain ⟨hr1, hu⟩ := gret_s hf
                subst hr1
                subst hu
                subst hQ
                exact g_iret C0 hG hr dX8_tape_96
              · have hf := gif_f c14 hf
                refine lv_aload_n hx hb dX8_tape_76 rfl (lv_at hl 0 rfl) ?_
                refine g_getSa (o := 45) (a := 127) C0 hG (L82 hG) rfl 75 (by decide) rfl rfl w_921 dX8_tape_77 ?_
                refine lv_bipush (v := (60 : Int32)) hx hb dX8_tape_80 (by decide) ?_
                refine lv_iload_n hx hb dX8_tape_82 rfl (lv_at hl 1 rfl) ?_
                refine lv_imul hx hb dX8_tape_83 ?_
                refine lv_iload hx hb dX8_tape_84 (lv_at hl 2 rfl) ?_
                refine lv_iadd hx hb dX8_tape_86 ?_
                refine lv_lconst (v := (0 : Int64)) hx hb dX8_tape_87 rfl ?_
                obtain ⟨h15, hf⟩ := gin_s hf
                refine g_last C0 hG (L127 hG) h15 dX8_tape_88 (fun H locs hG => ?_)
                refine lv_iinc (v := x4_13 + (1 : Int32)) (lv' := [(4, .int (x4_13 + (1 : Int32))), (0, .ref (base + 82)), (1, .int p1)]) hx hb dX8_tape_89 hl (k := 2) rfl rfl (by decide) rfl (fun ls hl => ?_)
                refine lv_goto (tgt := 69) hx hb dX8_tape_92 (by decide) ?_
                have hf := while_l hX13 hf
                exact ih13 (x4_13 + (1 : Int32)) (sL u13 127 (((60 : Int32) * p1) + x4_13).toNatClampNeg (0 : Int64)) _ _ ls hG (lv_sub hl [1, 2, 0] rfl) hf
          exact loop13 FUEL (0 : Int32) (sA (sA u 125 p1.toNatClampNeg p2) 126 p1.toNatClampNeg (0 : Int32)) _ _ ls hG (lv_sub hl [1, 2, 0] rfl) hf
      · have hf := gif_f c5 hf
        refine lv_iload_n hx hb dX8_tape_24 rfl (lv_at hl 3 rfl) ?_
        refine lv_bipush (v := (60 : Int32)) hx hb dX8_tape_25 (by decide) ?_
        refine lv_icmp_le (tgt := 33) hx hb dX8_tape_27 (by decide) (fun c16 => ?_) (fun c16 => ?_)
        · have hf := gif_t c16 hf
          refine lv_iload_n hx hb dX8_tape_33 rfl (lv_at hl 2 rfl) ?_
          refine lv_if_lt (tgt := 44) hx hb dX8_tape_34 (by decide) (fun c => absurd c c5) (fun _ => ?_)
          refine lv_iload_n hx hb dX8_tape_37 rfl (lv_at hl 3 rfl) ?_
          refine lv_if_ge (tgt := 44) hx hb dX8_tape_38 (by decide) (fun c17 => ?_) (fun c17 => ?_)
          · have hf := gif_t c17 hf
            refine lv_aload_n hx hb dX8_tape_44 rfl (lv_at hl 0 rfl) ?_
            refine g_getSa (o := 43) (a := 125) C0 hG (L82 hG) rfl 73 (by decide) rfl rfl w_919 dX8_tape_45 ?_
            refine lv_iload_n hx hb dX8_tape_48 rfl (lv_at hl 1 rfl) ?_
            refine lv_iload_n hx hb dX8_tape_49 rfl (lv_at hl 2 rfl) ?_
            obtain ⟨h18, hf⟩ := gin_s hf
            refine g_iast C0 hG (L125 hG) h18 dX8_tape_50 (fun H locs hG => ?_)
            refine lv_aload_n hx hb dX8_tape_51 rfl (lv_at hl 0 rfl) ?_
            refine g_getSa (o := 44) (a := 126) C0 hG (L82 hG) rfl 74 (by decide) rfl rfl w_920 dX8_tape_52 ?_
            refine lv_iload_n hx hb dX8_tape_55 rfl (lv_at hl 1 rfl) ?_
            refine lv_iload_n hx hb dX8_tape_56 rfl (lv_at hl 2 rfl) ?_
            refine lv_if_ge (tgt := 64) hx hb dX8_tape_57 (by decide) (fun c19 => ?_) (fun c19 => ?_)
            · have hf := gif_t c19 hf
              refine lv_iload_n hx hb dX8_tape_64 rfl (lv_at hl 3 rfl) ?_
              obtain ⟨h20, hf⟩ := gin_s hf
              refine g_iast C0 hG (L126 hG) h20 dX8_tape_65 (fun H locs hG => ?_)
              refine lv_iconst (v := (0 : Int32)) hx hb dX8_tape_66 (by decide) ?_
              refine lv_istore (lv' := [(4, .int (0 : Int32)), (0, .ref (base + 82)), (1, .int p1), (2, .int p2), (3, .int p3)]) hx hb dX8_tape_67 hl (by decide) rfl (fun ls hl => ?_)
              have loop21 : ∀ (n21 : Nat) (x4_21 : Int32) (u21 : Mem) (H : Heap) (locs : List Loc) (ls : Array Slot), gH D base s u21 H locs → lv_has ls 5 [(0, .ref (base + 82)), (1, .int p1), (4, .int x4_21)] → whileO (fun s => f_X8_tape_L69bb p1 s.1 s.2) n21 (x4_21, u21) = some (r, u') → W p l e (gRm 3 0 0) s m ([.ref (base + 82), .int p1, .int p2, .int p3] : List Value).toArray below meth c H locs 0 0 Q (F0 m 69 ls []) := by
                intro n21
                induction n21 with
                | zero => intro x4_21 u21 H locs ls hG hl hf; cases hf
                | succ n21 ih21 =>
                  intro x4_21 u21 H locs ls hG hl hf
                  obtain ⟨X21, hf, hX21⟩ := while_s hf
                  have hf : f_X8_tape_L69bb p1 x4_21 u21 = some X21 := hf
                  unfold f_X8_tape_L69bb at hf
                  refine lv_iload hx hb dX8_tape_69 (lv_at hl 2 rfl) ?_
                  refine lv_bipush (v := (60 : Int32)) hx hb dX8_tape_71 (by decide) ?_
                  refine lv_icmp_ge (tgt := 95) hx hb dX8_tape_73 (by decide) (fun c22 => ?_) (fun c22 => ?_)
                  · have hf := gif_t c22 hf
                    refine lv_iconst (v := (1 : Int32)) hx hb dX8_tape_95 (by decide) ?_
                    have hf := while_r hX21 hf
                    obtain ⟨hr1, hu⟩ := gret_s hf
                    subst hr1
                    subst hu
                    subst hQ
                    exact g_iret C0 hG hr dX8_tape_96
                  · have hf := gif_f c22 hf
                    refine lv_aload_n hx hb dX8_tape_76 rfl (lv_at hl 0 rfl) ?_
                    refine g_getSa (o := 45) (a := 127) C0 hG (L82 hG) rfl 75 (by decide) rfl rfl w_921 dX8_tape_77 ?_
                    refine lv_bipush (v := (60 : Int32)) hx hb dX8_tape_80 (by decide) ?_
                    refine lv_iload_n hx hb dX8_tape_82 rfl (lv_at hl 1 rfl) ?_
                    refine lv_imul hx hb dX8_tape_83 ?_
                    refine lv_iload hx hb dX8_tape_84 (lv_at hl 2 rfl) ?_
                    refine lv_iadd hx hb dX8_tape_86 ?_
                    refine lv_lconst (v := (0 : Int64)) hx hb dX8_tape_87 rfl ?_
                    obtain ⟨h23, hf⟩ := gin_s hf
                    refine g_last C0 hG (L127 hG) h23 dX8_tape_88 (fun H locs hG => ?_)
                    refine lv_iinc (v := x4_21 + (1 : Int32)) (lv' := [(4, .int (x4_21 + (1 : Int32))), (0, .ref (base + 82)), (1, .int p1)]) hx hb dX8_tape_89 hl (k := 2) rfl rfl (by decide) rfl (fun ls hl => ?_)
                    refine lv_goto (tgt := 69) hx hb dX8_tape_92 (by decide) ?_
                    have hf := while_l hX21 hf
                    exact ih21 (x4_21 + (1 : Int32)) (sL u21 127 (((60 : Int32) * p1) + x4_21).toNatClampNeg (0 : Int64)) _ _ ls hG (lv_sub hl [1, 2, 0] rfl) hf
              exact loop21 FUEL (0 : Int32) (sA (sA u 125 p1.toNatClampNeg p2) 126 p1.toNatClampNeg p3) _ _ ls hG (lv_sub hl [1, 2, 0] rfl) hf
            · have hf := gif_f c19 hf
              refine lv_iconst (v := (0 : Int32)) hx hb dX8_tape_60 (by decide) ?_
              refine lv_goto (tgt := 65) hx hb dX8_tape_61 (by decide) ?_
              obtain ⟨h24, hf⟩ := gin_s hf
              refine g_iast C0 hG (L126 hG) h24 dX8_tape_65 (fun H locs hG => ?_)
              refine lv_iconst (v := (0 : Int32)) hx hb dX8_tape_66 (by decide) ?_
              refine lv_istore (lv' := [(4, .int (0 : Int32)), (0, .ref (base + 82)), (1, .int p1), (2, .int p2), (3, .int p3)]) hx hb dX8_tape_67 hl (by decide) rfl (fun ls hl => ?_)
              have loop25 : ∀ (n25 : Nat) (x4_25 : Int32) (u25 : Mem) (H : Heap) (locs : List Loc) (ls : Array Slot), gH D base s u25 H locs → lv_has ls 5 [(0, .ref (base + 82)), (1, .int p1), (4, .int x4_25)] → whileO (fun s => f_X8_tape_L69bbb p1 s.1 s.2) n25 (x4_25, u25) = some (r, u') → W p l e (gRm 3 0 0) s m ([.ref (base + 82), .int p1, .int p2, .int p3] : List Value).toArray below meth c H locs 0 0 Q (F0 m 69 ls []) := by
                intro n25
                induction n25 with
                | zero => intro x4_25 u25 H locs ls hG hl hf; cases hf
                | succ n25 ih25 =>
                  intro x4_25 u25 H locs ls hG hl hf
                  obtain ⟨X25, hf, hX25⟩ := while_s hf
                  have hf : f_X8_tape_L69bbb p1 x4_25 u25 = some X25 := hf
                  unfold f_X8_tape_L69bbb at hf
                  refine lv_iload hx hb dX8_tape_69 (lv_at hl 2 rfl) ?_
                  refine lv_bipush (v := (60 : Int32)) hx hb dX8_tape_71 (by decide) ?_
                  refine lv_icmp_ge (tgt := 95) hx hb dX8_tape_73 (by decide) (fun c26 => ?_) (fun c26 => ?_)
                  · have hf := gif_t c26 hf
                    refine lv_iconst (v := (1 : Int32)) hx hb dX8_tape_95 (by decide) ?_
                    have hf := while_r hX25 hf
                    obtain ⟨hr1, hu⟩ := gret_s hf
                    subst hr1
                    subst hu
                    subst hQ
                    exact g_iret C0 hG hr dX8_tape_96
                  · have hf := gif_f c26 hf
                    refine lv_aload_n hx hb dX8_tape_76 rfl (lv_at hl 0 rfl) ?_
                    refine g_getSa (o := 45) (a := 127) C0 hG (L82 hG) rfl 75 (by decide) rfl rfl w_921 dX8_tape_77 ?_
                    refine lv_bipush (v := (60 : Int32)) hx hb dX8_tape_80 (by decide) ?_
                    refine lv_iload_n hx hb dX8_tape_82 rfl (lv_at hl 1 rfl) ?_
                    refine lv_imul hx hb dX8_tape_83 ?_
                    refine lv_iload hx hb dX8_tape_84 (lv_at hl 2 rfl) ?_
                    refine lv_iadd hx hb dX8_tape_86 ?_
                    refine lv_lconst (v := (0 : Int64)) hx hb dX8_tape_87 rfl ?_
                    obtain ⟨h27, hf⟩ := gin_s hf
                    refine g_last C0 hG (L127 hG) h27 dX8_tape_88 (fun H locs hG => ?_)
                    refine lv_iinc (v := x4_25 + (1 : Int32)) (lv' := [(4, .int (x4_25 + (1 : Int32))), (0, .ref (base + 82)), (1, .int p1)]) hx hb dX8_tape_89 hl (k := 2) rfl rfl (by decide) rfl (fun ls hl => ?_)
                    refine lv_goto (tgt := 69) hx hb dX8_tape_92 (by decide) ?_
                    have hf := while_l hX25 hf
                    exact ih25 (x4_25 + (1 : Int32)) (sL u25 127 (((60 : Int32) * p1) + x4_25).toNatClampNeg (0 : Int64)) _ _ ls hG (lv_sub hl [1, 2, 0] rfl) hf
              exact loop25 FUEL (0 : Int32) (sA (sA u 125 p1.toNatClampNeg p2) 126 p1.toNatClampNeg (0 : Int32)) _ _ ls hG (lv_sub hl [1, 2, 0] rfl) hf
          · have hf := gif_f c17 hf
            refine lv_bipush (v := (-14 : Int32)) hx hb dX8_tape_41 (by decide) ?_
            obtain ⟨hr1, hu⟩ := gret_s hf
            subst hr1
            subst hu
            subst hQ
            exact g_iret C0 hG hr dX8_tape_43
        · have hf := gif_f c16 hf
          refine lv_bipush (v := (-2 : Int32)) hx hb dX8_tape_30 (by decide) ?_
          obtain ⟨hr1, hu⟩ := gret_s hf
          subst hr1
          subst hu
          subst hQ
          exact g_iret C0 hG hr dX8_tape_32
  · have hf := gif_t c2 hf
    refine lv_iconst (v := (-1 : Int32)) hx hb dX8_tape_8 (by decide) ?_
    obtain ⟨hr1, hu⟩ := gret_s hf
    subst hr1
    subst hu
    subst hQ
    exact g_iret C0 hG hr dX8_tape_9
theorem dX8_narrow_0 : decode cX8_narrow 0 = .ok (.iload_n 1, 1) := by decide +kernel
theorem dX8_narrow_1 : decode cX8_narrow 1 = .ok (.ifCond .ne 10, 3) := by decide +kernel
theorem dX8_narrow_4 : decode cX8_narrow 4 = .ok (.lload_n 2, 1) := by decide +kernel
theorem dX8_narrow_5 : decode cX8_narrow 5 = .ok (.l2i, 1) := by decide +kernel
theorem dX8_narrow_6 : decode cX8_narrow 6 = .ok (.i2b, 1) := by decide +kernel
theorem dX8_narrow_7 : decode cX8_narrow 7 = .ok (.i2l, 1) := by decide +kernel
theorem dX8_narrow_8 : decode cX8_narrow 8 = .ok (.goto 46, 3) := by decide +kernel
theorem dX8_narrow_11 : decode cX8_narrow 11 = .ok (.iload_n 1, 1) := by decide +kernel
theorem dX8_narrow_12 : decode cX8_narrow 12 = .ok (.iconst 1, 1) := by decide +kernel
theorem dX8_narrow_13 : decode cX8_narrow 13 = .ok (.if_icmp .ne 10, 3) := by decide +kernel
theorem dX8_narrow_16 : decode cX8_narrow 16 = .ok (.lload_n 2, 1) := by decide +kernel
theorem dX8_narrow_17 : decode cX8_narrow 17 = .ok (.l2i, 1) := by decide +kernel
theorem dX8_narrow_18 : decode cX8_narrow 18 = .ok (.i2s, 1) := by decide +kernel
theorem dX8_narrow_19 : decode cX8_narrow 19 = .ok (.i2l, 1) := by decide +kernel
theorem dX8_narrow_20 : decode cX8_narrow 20 = .ok (.goto 34, 3) := by decide +kernel
theorem dX8_narrow_23 : decode cX8_narrow 23 = .ok (.iload_n 1, 1) := by decide +kernel
theorem dX8_narrow_24 : decode cX8_narrow 24 = .ok (.iconst 2, 1) := by decide +kernel
theorem dX8_narrow_25 : decode cX8_narrow 25 = .ok (.if_icmp .ne 9, 3) := by decide +kernel
theorem dX8_narrow_28 : decode cX8_narrow 28 = .ok (.lload_n 2, 1) := by decide +kernel
theorem dX8_narrow_29 : decode cX8_narrow 29 = .ok (.l2i, 1) := by decide +kernel
theorem dX8_narrow_30 : decode cX8_narrow 30 = .ok (.i2l, 1) := by decide +kernel
theorem dX8_narrow_31 : decode cX8_narrow 31 = .ok (.goto 23, 3) := by decide +kernel
theorem dX8_narrow_34 : decode cX8_narrow 34 = .ok (.iload_n 1, 1) := by decide +kernel
theorem dX8_narrow_35 : decode cX8_narrow 35 = .ok (.iconst 4, 1) := by decide +kernel
theorem dX8_narrow_36 : decode cX8_narrow 36 = .ok (.if_icmp .ne 17, 3) := by decide +kernel
theorem dX8_narrow_39 : decode cX8_narrow 39 = .ok (.lload_n 2, 1) := by decide +kernel
theorem dX8_narrow_40 : decode cX8_narrow 40 = .ok (.lconst 0, 1) := by decide +kernel
theorem dX8_narrow_41 : decode cX8_narrow 41 = .ok (.lcmp, 1) := by decide +kernel
theorem dX8_narrow_42 : decode cX8_narrow 42 = .ok (.ifCond .eq 7, 3) := by decide +kernel
theorem dX8_narrow_45 : decode cX8_narrow 45 = .ok (.lconst 1, 1) := by decide +kernel
theorem dX8_narrow_46 : decode cX8_narrow 46 = .ok (.goto 8, 3) := by decide +kernel
theorem dX8_narrow_49 : decode cX8_narrow 49 = .ok (.lconst 0, 1) := by decide +kernel
theorem dX8_narrow_50 : decode cX8_narrow 50 = .ok (.goto 4, 3) := by decide +kernel
theorem dX8_narrow_53 : decode cX8_narrow 53 = .ok (.lload_n 2, 1) := by decide +kernel
theorem dX8_narrow_54 : decode cX8_narrow 54 = .ok (.lreturn, 1) := by decide +kernel
def f_X8_narrow (p1 : Int32) (p2 : Int64) : Option (Int64) := (if p1 = 0 then some p2.toInt32.toInt8.toInt32.toInt64 else (if p1 = (1 : Int32) then some p2.toInt32.toInt16.toInt32.toInt64 else (if p1 = (2 : Int32) then some p2.toInt32.toInt64 else (if p1 = (4 : Int32) then (if (lg_cmp p2 (0 : Int64)) = 0 then some (0 : Int64) else some (1 : Int64)) else some p2))))
set_option maxHeartbeats 4000000 in
set_option maxRecDepth 100000 in
theorem k_X8_narrow (l : Launch) (D : gDt) (base : Nat) (Z : gZt) (u : Mem) (p1 : Int32) (p2 : Int64) (r : Int64) (hf : f_X8_narrow p1 p2 = some r) : Met l yX8_narrow (gws yX8_narrow cX8_narrow 4 (some .long)) (gRm 1 0 0) (gPc D base Z u [.ref (base + 82), .int p1, .long p2]) (gQl D base r u) 0 0 (gF base) := by
  refine Met.ofW (cc := cX8_narrow) (maxL := 4) (ret := some .long) (by decide) rfl ?_
  intro p e s m args below meth c s₁ B hml hv
  obtain ⟨rfl, C0, hG⟩ := g_enter B hml hv
  have hr := B.returns
  have C0 : gC p s m meth c _ cX8_narrow 4 RX8 D base Z := C0
  have hx := C0.1
  have hb := C0.2.1
  have hl := lv_entry ([.ref (base + 82), .int p1, .long p2]) (n := 4) (Nat.le_of_ble_eq_true rfl)
  rw [lg_entry_eq]
  generalize (lg_sl ([.ref (base + 82), .int p1, .long p2]) ++ List.replicate (4 - (lg_sl ([.ref (base + 82), .int p1, .long p2])).length) Slot.unset).toArray = ls at hl ⊢
  have hl : lv_has ls 4 [(0, .ref (base + 82)), (1, .int p1), (2, .long p2)] := hl
  obtain ⟨Q, hQ⟩ : ∃ Q, Q = MQ below (gQl D base r u) ([.ref (base + 82), .int p1, .long p2] : List Value).toArray s 0 0 (gF base) := ⟨_, rfl⟩
  rw [← hQ]
  change W p l e (gRm 1 0 0) s m _ below meth c _ _ _ _ _ _
  unfold f_X8_narrow at hf
  refine lv_iload_n hx hb dX8_narrow_0 rfl (lv_at hl 1 rfl) ?_
  refine lv_if_ne (tgt := 11) hx hb dX8_narrow_1 (by decide) (fun c1 => ?_) (fun c1 => ?_)
  · have hf := gif_f c1 hf
    refine lv_iload_n hx hb dX8_narrow_11 rfl (lv_at hl 1 rfl) ?_
    refine lv_iconst (v := (1 : Int32)) hx hb dX8_narrow_12 (by decide) ?_
    refine lv_icmp_ne (tgt := 23) hx hb dX8_narrow_13 (by decide) (fun c2 => ?_) (fun c2 => ?_)
    · have hf := gif_f c2 hf
      refine lv_iload_n hx hb dX8_narrow_23 rfl (lv_at hl 1 rfl) ?_
      refine lv_iconst (v := (2 : Int32)) hx hb dX8_narrow_24 (by decide) ?_
      refine lv_icmp_ne (tgt := 34) hx hb dX8_narrow_25 (by decide) (fun c3 => ?_) (fun c3 => ?_)
      · have hf := gif_f c3 hf
        refine lv_iload_n hx hb dX8_narrow_34 rfl (lv_at hl 1 rfl) ?_
        refine lv_iconst (v := (4 : Int32)) hx hb dX8_narrow_35 (by decide) ?_
        refine lv_icmp_ne (tgt := 53) hx hb dX8_narrow_36 (by decide) (fun c4 => ?_) (fun c4 => ?_)
        · have hf := gif_f c4 hf
          refine lv_lload_n hx hb dX8_narrow_53 rfl (lv_at hl 2 rfl) ?_
          have hf := Option.some.inj hf
          subst hf
          subst hQ
          exact g_lret C0 hG hr dX8_narrow_54
        · have hf := gif_t c4 hf
          refine lv_lload_n hx hb dX8_narrow_39 rfl (lv_at hl 2 rfl) ?_
          refine lv_lconst (v := (0 : Int64)) hx hb dX8_narrow_40 rfl ?_
          refine W.lcmp hx hb dX8_narrow_41 ?_
          refine lv_if_eq (tgt := 49) hx hb dX8_narrow_42 (by decide) (fun c5 => ?_) (fun c5 => ?_)
          · have hf := gif_t c5 hf
            refine lv_lconst (v := (0 : Int64)) hx hb dX8_narrow_49 rfl ?_
            refine lv_goto (tgt := 54) hx hb dX8_narrow_50 (by decide) ?_
            have hf := Option.some.inj hf
            subst hf
            subst hQ
            exact g_lret C0 hG hr dX8_narrow_54
          · have hf := gif_f c5 hf
            refine lv_lconst (v := (1 : Int64)) hx hb dX8_narrow_45 rfl ?_
            refine lv_goto (tgt := 54) hx hb dX8_narrow_46 (by decide) ?_
            have hf := Option.some.inj hf
            subst hf
            subst hQ
            exact g_lret C0 hG hr dX8_narrow_54
      · have hf := gif_t c3 hf
        refine lv_lload_n hx hb dX8_narrow_28 rfl (lv_at hl 2 rfl) ?_
        refine lv_l2i (v := p2.toInt32) hx hb dX8_narrow_29 rfl ?_
        refine lv_i2l (v := p2.toInt32.toInt64) hx hb dX8_narrow_30 rfl ?_
        refine lv_goto (tgt := 54) hx hb dX8_narrow_31 (by decide) ?_
        have hf := Option.some.inj hf
        subst hf
        subst hQ
        exact g_lret C0 hG hr dX8_narrow_54
    · have hf := gif_t c2 hf
      refine lv_lload_n hx hb dX8_narrow_16 rfl (lv_at hl 2 rfl) ?_
      refine lv_l2i (v := p2.toInt32) hx hb dX8_narrow_17 rfl ?_
      refine lv_i2s (v := p2.toInt32.toInt16.toInt32) hx hb dX8_narrow_18 rfl ?_
      refine lv_i2l (v := p2.toInt32.toInt16.toInt32.toInt64) hx hb dX8_narrow_19 rfl ?_
      refine lv_goto (tgt := 54) hx hb dX8_narrow_20 (by decide) ?_
      have hf := Option.some.inj hf
      subst hf
      subst hQ
      exact g_lret C0 hG hr dX8_narrow_54
  · have hf := gif_t c1 hf
    refine lv_lload_n hx hb dX8_narrow_4 rfl (lv_at hl 2 rfl) ?_
    refine lv_l2i (v := p2.toInt32) hx hb dX8_narrow_5 rfl ?_
    refine lv_i2b (v := p2.toInt32.toInt8.toInt32) hx hb dX8_narrow_6 rfl ?_
    refine lv_i2l (v := p2.toInt32.toInt8.toInt32.toInt64) hx hb dX8_narrow_7 rfl ?_
    refine lv_goto (tgt := 54) hx hb dX8_narrow_8 (by decide) ?_
    have hf := Option.some.inj hf
    subst hf
    subst hQ
    exact g_lret C0 hG hr dX8_narrow_54
theorem dX8_item_0 : decode cX8_item 0 = .ok (.aload_n 0, 1) := by decide +kernel
theorem dX8_item_1 : decode cX8_item 1 = .ok (.iload_n 1, 1) := by decide +kernel
theorem dX8_item_2 : decode cX8_item 2 = .ok (.invokevirtual 407, 3) := by decide +kernel
theorem dX8_item_5 : decode cX8_item 5 = .ok (.ifCond .ne 5, 3) := by decide +kernel
theorem dX8_item_8 : decode cX8_item 8 = .ok (.iconst (-1), 1) := by decide +kernel
theorem dX8_item_9 : decode cX8_item 9 = .ok (.ireturn, 1) := by decide +kernel
theorem dX8_item_10 : decode cX8_item 10 = .ok (.aload_n 0, 1) := by decide +kernel
theorem dX8_item_11 : decode cX8_item 11 = .ok (.getfield 232, 3) := by decide +kernel
theorem dX8_item_14 : decode cX8_item 14 = .ok (.iload_n 1, 1) := by decide +kernel
theorem dX8_item_15 : decode cX8_item 15 = .ok (.iaload, 1) := by decide +kernel
theorem dX8_item_16 : decode cX8_item 16 = .ok (.ifCond .ge 6, 3) := by decide +kernel
theorem dX8_item_19 : decode cX8_item 19 = .ok (.bipush (-11), 2) := by decide +kernel
theorem dX8_item_21 : decode cX8_item 21 = .ok (.ireturn, 1) := by decide +kernel
theorem dX8_item_22 : decode cX8_item 22 = .ok (.aload_n 0, 1) := by decide +kernel
theorem dX8_item_23 : decode cX8_item 23 = .ok (.iload_n 2, 1) := by decide +kernel
theorem dX8_item_24 : decode cX8_item 24 = .ok (.iconst 0, 1) := by decide +kernel
theorem dX8_item_25 : decode cX8_item 25 = .ok (.aload_n 0, 1) := by decide +kernel
theorem dX8_item_26 : decode cX8_item 26 = .ok (.getfield 235, 3) := by decide +kernel
theorem dX8_item_29 : decode cX8_item 29 = .ok (.iload_n 1, 1) := by decide +kernel
theorem dX8_item_30 : decode cX8_item 30 = .ok (.iaload, 1) := by decide +kernel
theorem dX8_item_31 : decode cX8_item 31 = .ok (.iconst 1, 1) := by decide +kernel
theorem dX8_item_32 : decode cX8_item 32 = .ok (.isub, 1) := by decide +kernel
theorem dX8_item_33 : decode cX8_item 33 = .ok (.invokevirtual 249, 3) := by decide +kernel
theorem dX8_item_36 : decode cX8_item 36 = .ok (.ifCond .ne 6, 3) := by decide +kernel
theorem dX8_item_39 : decode cX8_item 39 = .ok (.bipush (-13), 2) := by decide +kernel
theorem dX8_item_41 : decode cX8_item 41 = .ok (.ireturn, 1) := by decide +kernel
theorem dX8_item_42 : decode cX8_item 42 = .ok (.aload_n 0, 1) := by decide +kernel
theorem dX8_item_43 : decode cX8_item 43 = .ok (.getfield 238, 3) := by decide +kernel
theorem dX8_item_46 : decode cX8_item 46 = .ok (.bipush 60, 2) := by decide +kernel
theorem dX8_item_48 : decode cX8_item 48 = .ok (.iload_n 1, 1) := by decide +kernel
theorem dX8_item_49 : decode cX8_item 49 = .ok (.imul, 1) := by decide +kernel
theorem dX8_item_50 : decode cX8_item 50 = .ok (.iload_n 2, 1) := by decide +kernel
theorem dX8_item_51 : decode cX8_item 51 = .ok (.iadd, 1) := by decide +kernel
theorem dX8_item_52 : decode cX8_item 52 = .ok (.aload_n 0, 1) := by decide +kernel
theorem dX8_item_53 : decode cX8_item 53 = .ok (.aload_n 0, 1) := by decide +kernel
theorem dX8_item_54 : decode cX8_item 54 = .ok (.getfield 232, 3) := by decide +kernel
theorem dX8_item_57 : decode cX8_item 57 = .ok (.iload_n 1, 1) := by decide +kernel
theorem dX8_item_58 : decode cX8_item 58 = .ok (.iaload, 1) := by decide +kernel
theorem dX8_item_59 : decode cX8_item 59 = .ok (.lload_n 3, 1) := by decide +kernel
theorem dX8_item_60 : decode cX8_item 60 = .ok (.invokevirtual 434, 3) := by decide +kernel
theorem dX8_item_63 : decode cX8_item 63 = .ok (.lastore, 1) := by decide +kernel
theorem dX8_item_64 : decode cX8_item 64 = .ok (.iconst 1, 1) := by decide +kernel
theorem dX8_item_65 : decode cX8_item 65 = .ok (.ireturn, 1) := by decide +kernel
def f_X8_item (p1 : Int32) (p2 : Int32) (p3 : Int64) (u : Mem) : Option (Int32 × Mem) := Option.bind (f_X8_isTape p1) (fun r1 => (if r1 = 0 then some ((-1 : Int32), u) else gin p1 6 ((if 0 ≤ (gA u 125 p1.toNatClampNeg) then gin p1 6 (Option.bind (f_X8_in p2 (0 : Int32) ((gA u 126 p1.toNatClampNeg) - (1 : Int32))) (fun r6 => (if r6 = 0 then some ((-13 : Int32), u) else gin p1 6 (Option.bind (f_X8_narrow (gA u 125 p1.toNatClampNeg) p3) (fun r9 => gin (((60 : Int32) * p1) + p2) 360 (some ((1 : Int32), sL u 127 (((60 : Int32) * p1) + p2).toNatClampNeg r9))))))) else some ((-11 : Int32), u)))))
set_option maxHeartbeats 4000000 in
set_option maxRecDepth 100000 in
theorem k_X8_item (l : Launch) (D : gDt) (base : Nat) (Z : gZt) (u : Mem) (p1 : Int32) (p2 : Int32) (p3 : Int64) (r : Int32) (u' : Mem) (hf : f_X8_item p1 p2 p3 u = some (r, u')) : Met l yX8_item (gws yX8_item cX8_item 5 (some .int)) (gRm 3 0 0) (gPc D base Z u [.ref (base + 82), .int p1, .int p2, .long p3]) (gQi D base r u') 0 0 (gF base) := by
  refine Met.ofW (cc := cX8_item) (maxL := 5) (ret := some .int) (by decide) rfl ?_
  intro p e s m args below meth c s₁ B hml hv
  obtain ⟨rfl, C0, hG⟩ := g_enter B hml hv
  have hr := B.returns
  have C0 : gC p s m meth c _ cX8_item 5 RX8 D base Z := C0
  have hx := C0.1
  have hb := C0.2.1
  have hl := lv_entry ([.ref (base + 82), .int p1, .int p2, .long p3]) (n := 5) (Nat.le_of_ble_eq_true rfl)
  rw [lg_entry_eq]
  generalize (lg_sl ([.ref (base + 82), .int p1, .int p2, .long p3]) ++ List.replicate (5 - (lg_sl ([.ref (base + 82), .int p1, .int p2, .long p3])).length) Slot.unset).toArray = ls at hl ⊢
  have hl : lv_has ls 5 [(0, .ref (base + 82)), (1, .int p1), (2, .int p2), (3, .long p3)] := hl
  obtain ⟨Q, hQ⟩ : ∃ Q, Q = MQ below (gQi D base r u') ([.ref (base + 82), .int p1, .int p2, .long p3] : List Value).toArray s 0 0 (gF base) := ⟨_, rfl⟩
  rw [← hQ]
  change W p l e (gRm 3 0 0) s m _ below meth c _ _ _ _ _ _
  unfold f_X8_item at hf
  refine lv_aload_n hx hb dX8_item_0 rfl (lv_at hl 0 rfl) ?_
  refine lv_iload_n hx hb dX8_item_1 rfl (lv_at hl 1 rfl) ?_
  obtain ⟨r1, hc1, hf⟩ := pb_s hf
  refine g_doI0 hG (g_runV C0 hG (k_X8_isTape l D base Z u p1 r1 hc1) m_X8_isTape v_X8_isTape w_1372 (by decide) (g_recv C0 hG (L82 hG) rfl) rfl hl.1 rfl (Nat.le_of_ble_eq_true rfl) dX8_item_2 ⟨Nat.zero_le _, Nat.zero_le _⟩) (fun H locs hG hk => ?_)
  refine lv_if_ne (tgt := 10) hx hb dX8_item_5 (by decide) (fun c2 => ?_) (fun c2 => ?_)
  · have hf := gif_f c2 hf
    refine lv_aload_n hx hb dX8_item_10 rfl (lv_at hl 0 rfl) ?_
    refine g_getSa (o := 43) (a := 125) C0 hG (L82 hG) rfl 73 (by decide) rfl rfl w_919 dX8_item_11 ?_
    refine lv_iload_n hx hb dX8_item_14 rfl (lv_at hl 1 rfl) ?_
    obtain ⟨h3, hf⟩ := gin_s hf
    refine g_iald C0 hG (L125 hG) h3 dX8_item_15 ?_
    refine lv_if_ge (tgt := 22) hx hb dX8_item_16 (by decide) (fun c4 => ?_) (fun c4 => ?_)
    · have hf := gif_t c4 hf
      refine lv_aload_n hx hb dX8_item_22 rfl (lv_at hl 0 rfl) ?_
      refine lv_iload_n hx hb dX8_item_23 rfl (lv_at hl 2 rfl) ?_
      refine lv_iconst (v := (0 : Int32)) hx hb dX8_item_24 (by decide) ?_
      refine lv_aload_n hx hb dX8_item_25 rfl (lv_at hl 0 rfl) ?_
      refine g_getSa (o := 44) (a := 126) C0 hG (L82 hG) rfl 74 (by decide) rfl rfl w_920 dX8_item_26 ?_
      refine lv_iload_n hx hb dX8_item_29 rfl (lv_at hl 1 rfl) ?_
      obtain ⟨h5, hf⟩ := gin_s hf
      refine g_iald C0 hG (L126 hG) h5 dX8_item_30 ?_
      refine lv_iconst (v := (1 : Int32)) hx hb dX8_item_31 (by decide) ?_
      refine lv_isub hx hb dX8_item_32 ?_
      obtain ⟨r6, hc6, hf⟩ := pb_s hf
      refine g_doI0 hG (g_runV C0 hG (k_X8_in l D base Z u p2 (0 : Int32) ((gA u 126 p1.toNatClampNeg) - (1 : Int32)) r6 hc6) m_X8_in v_X8_in w_1082 (by decide) (g_recv C0 hG (L82 hG) rfl) rfl hl.1 rfl (Nat.le_of_ble_eq_true rfl) dX8_item_33 ⟨Nat.zero_le _, Nat.zero_le _⟩) (fun H locs hG hk => ?_)
      refine lv_if_ne (tgt := 42) hx hb dX8_item_36 (by decide) (fun c7 => ?_) (fun c7 => ?_)
      · have hf := gif_f c7 hf
        refine lv_aload_n hx hb dX8_item_42 rfl (lv_at hl 0 rfl) ?_
        refine g_getSa (o := 45) (a := 127) C0 hG (L82 hG) rfl 75 (by decide) rfl rfl w_921 dX8_item_43 ?_
        refine lv_bipush (v := (60 : Int32)) hx hb dX8_item_46 (by decide) ?_
        refine lv_iload_n hx hb dX8_item_48 rfl (lv_at hl 1 rfl) ?_
        refine lv_imul hx hb dX8_item_49 ?_
        refine lv_iload_n hx hb dX8_item_50 rfl (lv_at hl 2 rfl) ?_
        refine lv_iadd hx hb dX8_item_51 ?_
        refine lv_aload_n hx hb dX8_item_52 rfl (lv_at hl 0 rfl) ?_
        refine lv_aload_n hx hb dX8_item_53 rfl (lv_at hl 0 rfl) ?_
        refine g_getSa (o := 43) (a := 125) C0 hG (L82 hG) rfl 73 (by decide) rfl rfl w_919 dX8_item_54 ?_
        refine lv_iload_n hx hb dX8_item_57 rfl (lv_at hl 1 rfl) ?_
        obtain ⟨h8, hf⟩ := gin_s hf
        refine g_iald C0 hG (L125 hG) h8 dX8_item_58 ?_
        refine lv_lload_n hx hb dX8_item_59 rfl (lv_at hl 3 rfl) ?_
        obtain ⟨r9, hc9, hf⟩ := pb_s hf
        refine g_doL0 hG (g_runV C0 hG (k_X8_narrow l D base Z u (gA u 125 p1.toNatClampNeg) p3 r9 hc9) m_X8_narrow v_X8_narrow w_1440 (by decide) (g_recv C0 hG (L82 hG) rfl) rfl hl.1 rfl (Nat.le_of_ble_eq_true rfl) dX8_item_60 ⟨Nat.zero_le _, Nat.zero_le _⟩) (fun H locs hG hk => ?_)
        obtain ⟨h10, hf⟩ := gin_s hf
        refine g_last C0 hG (L127 hG) h10 dX8_item_63 (fun H locs hG => ?_)
        refine lv_iconst (v := (1 : Int32)) hx hb dX8_item_64 (by decide) ?_
        obtain ⟨hr1, hu⟩ := gret_s hf
        subst hr1
        subst hu
        subst hQ
        exact g_iret C0 hG hr dX8_item_65
      · have hf := gif_t c7 hf
        refine lv_bipush (v := (-13 : Int32)) hx hb dX8_item_39 (by decide) ?_
        obtain ⟨hr1, hu⟩ := gret_s hf
        subst hr1
        subst hu
        subst hQ
        exact g_iret C0 hG hr dX8_item_41
    · have hf := gif_f c4 hf
      refine lv_bipush (v := (-11 : Int32)) hx hb dX8_item_19 (by decide) ?_
      obtain ⟨hr1, hu⟩ := gret_s hf
      subst hr1
      subst hu
      subst hQ
      exact g_iret C0 hG hr dX8_item_21
  · have hf := gif_t c2 hf
    refine lv_iconst (v := (-1 : Int32)) hx hb dX8_item_8 (by decide) ?_
    obtain ⟨hr1, hu⟩ := gret_s hf
    subst hr1
    subst hu
    subst hQ
    exact g_iret C0 hG hr dX8_item_9
theorem dX8_read_0 : decode cX8_read 0 = .ok (.aload_n 0, 1) := by decide +kernel
theorem dX8_read_1 : decode cX8_read 1 = .ok (.iload_n 1, 1) := by decide +kernel
theorem dX8_read_2 : decode cX8_read 2 = .ok (.invokevirtual 407, 3) := by decide +kernel
theorem dX8_read_5 : decode cX8_read 5 = .ok (.ifCond .eq 29, 3) := by decide +kernel
theorem dX8_read_8 : decode cX8_read 8 = .ok (.aload_n 0, 1) := by decide +kernel
theorem dX8_read_9 : decode cX8_read 9 = .ok (.getfield 232, 3) := by decide +kernel
theorem dX8_read_12 : decode cX8_read 12 = .ok (.iload_n 1, 1) := by decide +kernel
theorem dX8_read_13 : decode cX8_read 13 = .ok (.iaload, 1) := by decide +kernel
theorem dX8_read_14 : decode cX8_read 14 = .ok (.ifCond .lt 20, 3) := by decide +kernel
theorem dX8_read_17 : decode cX8_read 17 = .ok (.aload_n 0, 1) := by decide +kernel
theorem dX8_read_18 : decode cX8_read 18 = .ok (.iload_n 2, 1) := by decide +kernel
theorem dX8_read_19 : decode cX8_read 19 = .ok (.iconst 0, 1) := by decide +kernel
theorem dX8_read_20 : decode cX8_read 20 = .ok (.aload_n 0, 1) := by decide +kernel
theorem dX8_read_21 : decode cX8_read 21 = .ok (.getfield 235, 3) := by decide +kernel
theorem dX8_read_24 : decode cX8_read 24 = .ok (.iload_n 1, 1) := by decide +kernel
theorem dX8_read_25 : decode cX8_read 25 = .ok (.iaload, 1) := by decide +kernel
theorem dX8_read_26 : decode cX8_read 26 = .ok (.iconst 1, 1) := by decide +kernel
theorem dX8_read_27 : decode cX8_read 27 = .ok (.isub, 1) := by decide +kernel
theorem dX8_read_28 : decode cX8_read 28 = .ok (.invokevirtual 249, 3) := by decide +kernel
theorem dX8_read_31 : decode cX8_read 31 = .ok (.ifCond .ne 9, 3) := by decide +kernel
theorem dX8_read_34 : decode cX8_read 34 = .ok (.ldc2_w 392, 3) := by decide +kernel
theorem dX8_read_37 : decode cX8_read 37 = .ok (.goto 14, 3) := by decide +kernel
theorem dX8_read_40 : decode cX8_read 40 = .ok (.aload_n 0, 1) := by decide +kernel
theorem dX8_read_41 : decode cX8_read 41 = .ok (.getfield 238, 3) := by decide +kernel
theorem dX8_read_44 : decode cX8_read 44 = .ok (.bipush 60, 2) := by decide +kernel
theorem dX8_read_46 : decode cX8_read 46 = .ok (.iload_n 1, 1) := by decide +kernel
theorem dX8_read_47 : decode cX8_read 47 = .ok (.imul, 1) := by decide +kernel
theorem dX8_read_48 : decode cX8_read 48 = .ok (.iload_n 2, 1) := by decide +kernel
theorem dX8_read_49 : decode cX8_read 49 = .ok (.iadd, 1) := by decide +kernel
theorem dX8_read_50 : decode cX8_read 50 = .ok (.laload, 1) := by decide +kernel
theorem dX8_read_51 : decode cX8_read 51 = .ok (.lreturn, 1) := by decide +kernel
def f_X8_read (p1 : Int32) (p2 : Int32) (u : Mem) : Option (Int64) := Option.bind (f_X8_isTape p1) (fun r1 => (if r1 = 0 then some (-9223372036854775808 : Int64) else gin p1 6 ((if (gA u 125 p1.toNatClampNeg) < 0 then some (-9223372036854775808 : Int64) else gin p1 6 (Option.bind (f_X8_in p2 (0 : Int32) ((gA u 126 p1.toNatClampNeg) - (1 : Int32))) (fun r6 => (if r6 = 0 then some (-9223372036854775808 : Int64) else gin (((60 : Int32) * p1) + p2) 360 (some (gL u 127 (((60 : Int32) * p1) + p2).toNatClampNeg)))))))))
set_option maxHeartbeats 4000000 in
set_option maxRecDepth 100000 in
theorem k_X8_read (l : Launch) (D : gDt) (base : Nat) (Z : gZt) (u : Mem) (p1 : Int32) (p2 : Int32) (r : Int64) (hf : f_X8_read p1 p2 u = some r) : Met l yX8_read (gws yX8_read cX8_read 3 (some .long)) (gRm 3 0 0) (gPc D base Z u [.ref (base + 82), .int p1, .int p2]) (gQl D base r u) 0 0 (gF base) := by
  refine Met.ofW (cc := cX8_read) (maxL := 3) (ret := some .long) (by decide) rfl ?_
  intro p e s m args below meth c s₁ B hml hv
  obtain ⟨rfl, C0, hG⟩ := g_enter B hml hv
  have hr := B.returns
  have C0 : gC p s m meth c _ cX8_read 3 RX8 D base Z := C0
  have hx := C0.1
  have hb := C0.2.1
  have hl := lv_entry ([.ref (base + 82), .int p1, .int p2]) (n := 3) (Nat.le_of_ble_eq_true rfl)
  rw [lg_entry_eq]
  generalize (lg_sl ([.ref (base + 82), .int p1, .int p2]) ++ List.replicate (3 - (lg_sl ([.ref (base + 82), .int p1, .int p2])).length) Slot.unset).toArray = ls at hl ⊢
  have hl : lv_has ls 3 [(0, .ref (base + 82)), (1, .int p1), (2, .int p2)] := hl
  obtain ⟨Q, hQ⟩ : ∃ Q, Q = MQ below (gQl D base r u) ([.ref (base + 82), .int p1, .int p2] : List Value).toArray s 0 0 (gF base) := ⟨_, rfl⟩
  rw [← hQ]
  change W p l e (gRm 3 0 0) s m _ below meth c _ _ _ _ _ _
  unfold f_X8_read at hf
  refine lv_aload_n hx hb dX8_read_0 rfl (lv_at hl 0 rfl) ?_
  refine lv_iload_n hx hb dX8_read_1 rfl (lv_at hl 1 rfl) ?_
  obtain ⟨r1, hc1, hf⟩ := pb_s hf
  refine g_doI0 hG (g_runV C0 hG (k_X8_isTape l D base Z u p1 r1 hc1) m_X8_isTape v_X8_isTape w_1372 (by decide) (g_recv C0 hG (L82 hG) rfl) rfl hl.1 rfl (Nat.le_of_ble_eq_true rfl) dX8_read_2 ⟨Nat.zero_le _, Nat.zero_le _⟩) (fun H locs hG hk => ?_)
  refine lv_if_eq (tgt := 34) hx hb dX8_read_5 (by decide) (fun c2 => ?_) (fun c2 => ?_)
  · have hf := gif_t c2 hf
    refine lv_ldc2 (v := (-9223372036854775808 : Int64)) hx hb C0.2.2.2.1 (C0.2.2.2.2.1 _ w_1327) dX8_read_34 ?_
    refine lv_goto (tgt := 51) hx hb dX8_read_37 (by decide) ?_
    have hf := Option.some.inj hf
    subst hf
    subst hQ
    exact g_lret C0 hG hr dX8_read_51
  · have hf := gif_f c2 hf
    refine lv_aload_n hx hb dX8_read_8 rfl (lv_at hl 0 rfl) ?_
    refine g_getSa (o := 43) (a := 125) C0 hG (L82 hG) rfl 73 (by decide) rfl rfl w_919 dX8_read_9 ?_
    refine lv_iload_n hx hb dX8_read_12 rfl (lv_at hl 1 rfl) ?_
    obtain ⟨h3, hf⟩ := gin_s hf
    refine g_iald C0 hG (L125 hG) h3 dX8_read_13 ?_
    refine lv_if_lt (tgt := 34) hx hb dX8_read_14 (by decide) (fun c4 => ?_) (fun c4 => ?_)
    · have hf := gif_t c4 hf
      refine lv_ldc2 (v := (-9223372036854775808 : Int64)) hx hb C0.2.2.2.1 (C0.2.2.2.2.1 _ w_1327) dX8_read_34 ?_
      refine lv_goto (tgt := 51) hx hb dX8_read_37 (by decide) ?_
      have hf := Option.some.inj hf
      subst hf
      subst hQ
      exact g_lret C0 hG hr dX8_read_51
    · have hf := gif_f c4 hf
      refine lv_aload_n hx hb dX8_read_17 rfl (lv_at hl 0 rfl) ?_
      refine lv_iload_n hx hb dX8_read_18 rfl (lv_at hl 2 rfl) ?_
      refine lv_iconst (v := (0 : Int32)) hx hb dX8_read_19 (by decide) ?_
      refine lv_aload_n hx hb dX8_read_20 rfl (lv_at hl 0 rfl) ?_
      refine g_getSa (o := 44) (a := 126) C0 hG (L82 hG) rfl 74 (by decide) rfl rfl w_920 dX8_read_21 ?_
      refine lv_iload_n hx hb dX8_read_24 rfl (lv_at hl 1 rfl) ?_
      obtain ⟨h5, hf⟩ := gin_s hf
      refine g_iald C0 hG (L126 hG) h5 dX8_read_25 ?_
      refine lv_iconst (v := (1 : Int32)) hx hb dX8_read_26 (by decide) ?_
      refine lv_isub hx hb dX8_read_27 ?_
      obtain ⟨r6, hc6, hf⟩ := pb_s hf
      refine g_doI0 hG (g_runV C0 hG (k_X8_in l D base Z u p2 (0 : Int32) ((gA u 126 p1.toNatClampNeg) - (1 : Int32)) r6 hc6) m_X8_in v_X8_in w_1082 (by decide) (g_recv C0 hG (L82 hG) rfl) rfl hl.1 rfl (Nat.le_of_ble_eq_true rfl) dX8_read_28 ⟨Nat.zero_le _, Nat.zero_le _⟩) (fun H locs hG hk => ?_)
      refine lv_if_ne (tgt := 40) hx hb dX8_read_31 (by decide) (fun c7 => ?_) (fun c7 => ?_)
      · have hf := gif_f c7 hf
        refine lv_aload_n hx hb dX8_read_40 rfl (lv_at hl 0 rfl) ?_
        refine g_getSa (o := 45) (a := 127) C0 hG (L82 hG) rfl 75 (by decide) rfl rfl w_921 dX8_read_41 ?_
        refine lv_bipush (v := (60 : Int32)) hx hb dX8_read_44 (by decide) ?_
        refine lv_iload_n hx hb dX8_read_46 rfl (lv_at hl 1 rfl) ?_
        refine lv_imul hx hb dX8_read_47 ?_
        refine lv_iload_n hx hb dX8_read_48 rfl (lv_at hl 2 rfl) ?_
        refine lv_iadd hx hb dX8_read_49 ?_
        obtain ⟨h8, hf⟩ := gin_s hf
        refine g_lald C0 hG (L127 hG) h8 dX8_read_50 ?_
        have hf := Option.some.inj hf
        subst hf
        subst hQ
        exact g_lret C0 hG hr dX8_read_51
      · have hf := gif_t c7 hf
        refine lv_ldc2 (v := (-9223372036854775808 : Int64)) hx hb C0.2.2.2.1 (C0.2.2.2.2.1 _ w_1327) dX8_read_34 ?_
        refine lv_goto (tgt := 51) hx hb dX8_read_37 (by decide) ?_
        have hf := Option.some.inj hf
        subst hf
        subst hQ
        exact g_lret C0 hG hr dX8_read_51
