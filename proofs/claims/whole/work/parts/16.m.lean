theorem dX8_isTales_0 : decode cX8_isTales 0 = .ok (.aload_n 0, 1) := by decide +kernel
theorem dX8_isTales_1 : decode cX8_isTales 1 = .ok (.iload_n 1, 1) := by decide +kernel
theorem dX8_isTales_2 : decode cX8_isTales 2 = .ok (.iconst 0, 1) := by decide +kernel
theorem dX8_isTales_3 : decode cX8_isTales 3 = .ok (.sipush 255, 3) := by decide +kernel
theorem dX8_isTales_6 : decode cX8_isTales 6 = .ok (.invokevirtual 249, 3) := by decide +kernel
theorem dX8_isTales_9 : decode cX8_isTales 9 = .ok (.ireturn, 1) := by decide +kernel
def f_X8_isTales (p1 : Int32) : Option (Int32) := Option.bind (f_X8_in p1 (0 : Int32) (255 : Int32)) (fun r1 => gbo r1 (some r1))
set_option maxHeartbeats 4000000 in
set_option maxRecDepth 100000 in
theorem k_X8_isTales (l : Launch) (D : gDt) (base : Nat) (Z : gZt) (u : Mem) (p1 : Int32) (r : Int32) (hf : f_X8_isTales p1 = some r) : Met l yX8_isTales (gws yX8_isTales cX8_isTales 2 (some .boolean)) (gRm 2 0 0) (gPc D base Z u [.ref (base + 82), .int p1]) (gQi D base r u) 0 0 (gF base) := by
  refine Met.ofW (cc := cX8_isTales) (maxL := 2) (ret := some .boolean) (by decide) rfl ?_
  intro p e s m args below meth c s₁ B hml hv
  obtain ⟨rfl, C0, hG⟩ := g_enter B hml hv
  have hr := B.returns
  have C0 : gC p s m meth c _ cX8_isTales 2 RX8 D base Z := C0
  have hx := C0.1
  have hb := C0.2.1
  have hl := lv_entry ([.ref (base + 82), .int p1]) (n := 2) (Nat.le_of_ble_eq_true rfl)
  rw [lg_entry_eq]
  generalize (lg_sl ([.ref (base + 82), .int p1]) ++ List.replicate (2 - (lg_sl ([.ref (base + 82), .int p1])).length) Slot.unset).toArray = ls at hl ⊢
  have hl : lv_has ls 2 [(0, .ref (base + 82)), (1, .int p1)] := hl
  obtain ⟨Q, hQ⟩ : ∃ Q, Q = MQ below (gQi D base r u) ([.ref (base + 82), .int p1] : List Value).toArray s 0 0 (gF base) := ⟨_, rfl⟩
  rw [← hQ]
  change W p l e (gRm 2 0 0) s m _ below meth c _ _ _ _ _ _
  unfold f_X8_isTales at hf
  refine lv_aload_n hx hb dX8_isTales_0 rfl (lv_at hl 0 rfl) ?_
  refine lv_iload_n hx hb dX8_isTales_1 rfl (lv_at hl 1 rfl) ?_
  refine lv_iconst (v := (0 : Int32)) hx hb dX8_isTales_2 (by decide) ?_
  refine lv_sipush (v := (255 : Int32)) hx hb dX8_isTales_3 (by decide) ?_
  obtain ⟨r1, hc1, hf⟩ := pb_s hf
  refine g_doI0 hG (g_runV C0 hG (k_X8_in l D base Z u p1 (0 : Int32) (255 : Int32) r1 hc1) m_X8_in v_X8_in w_1082 (by decide) (g_recv C0 hG (L82 hG) rfl) rfl hl.1 rfl (Nat.le_of_ble_eq_true rfl) dX8_isTales_6 ⟨Nat.zero_le _, Nat.zero_le _⟩) (fun H locs hG hk => ?_)
  obtain ⟨h2, hf⟩ := gbo_s hf
  have hf := Option.some.inj hf
  subst hf
  subst hQ
  exact g_zret C0 hG hr h2 dX8_isTales_9
theorem dX8_isCarriage_0 : decode cX8_isCarriage 0 = .ok (.aload_n 0, 1) := by decide +kernel
theorem dX8_isCarriage_1 : decode cX8_isCarriage 1 = .ok (.iload_n 1, 1) := by decide +kernel
theorem dX8_isCarriage_2 : decode cX8_isCarriage 2 = .ok (.iconst 0, 1) := by decide +kernel
theorem dX8_isCarriage_3 : decode cX8_isCarriage 3 = .ok (.iconst 3, 1) := by decide +kernel
theorem dX8_isCarriage_4 : decode cX8_isCarriage 4 = .ok (.invokevirtual 249, 3) := by decide +kernel
theorem dX8_isCarriage_7 : decode cX8_isCarriage 7 = .ok (.ireturn, 1) := by decide +kernel
def f_X8_isCarriage (p1 : Int32) : Option (Int32) := Option.bind (f_X8_in p1 (0 : Int32) (3 : Int32)) (fun r1 => gbo r1 (some r1))
set_option maxHeartbeats 4000000 in
set_option maxRecDepth 100000 in
theorem k_X8_isCarriage (l : Launch) (D : gDt) (base : Nat) (Z : gZt) (u : Mem) (p1 : Int32) (r : Int32) (hf : f_X8_isCarriage p1 = some r) : Met l yX8_isCarriage (gws yX8_isCarriage cX8_isCarriage 2 (some .boolean)) (gRm 2 0 0) (gPc D base Z u [.ref (base + 82), .int p1]) (gQi D base r u) 0 0 (gF base) := by
  refine Met.ofW (cc := cX8_isCarriage) (maxL := 2) (ret := some .boolean) (by decide) rfl ?_
  intro p e s m args below meth c s₁ B hml hv
  obtain ⟨rfl, C0, hG⟩ := g_enter B hml hv
  have hr := B.returns
  have C0 : gC p s m meth c _ cX8_isCarriage 2 RX8 D base Z := C0
  have hx := C0.1
  have hb := C0.2.1
  have hl := lv_entry ([.ref (base + 82), .int p1]) (n := 2) (Nat.le_of_ble_eq_true rfl)
  rw [lg_entry_eq]
  generalize (lg_sl ([.ref (base + 82), .int p1]) ++ List.replicate (2 - (lg_sl ([.ref (base + 82), .int p1])).length) Slot.unset).toArray = ls at hl ⊢
  have hl : lv_has ls 2 [(0, .ref (base + 82)), (1, .int p1)] := hl
  obtain ⟨Q, hQ⟩ : ∃ Q, Q = MQ below (gQi D base r u) ([.ref (base + 82), .int p1] : List Value).toArray s 0 0 (gF base) := ⟨_, rfl⟩
  rw [← hQ]
  change W p l e (gRm 2 0 0) s m _ below meth c _ _ _ _ _ _
  unfold f_X8_isCarriage at hf
  refine lv_aload_n hx hb dX8_isCarriage_0 rfl (lv_at hl 0 rfl) ?_
  refine lv_iload_n hx hb dX8_isCarriage_1 rfl (lv_at hl 1 rfl) ?_
  refine lv_iconst (v := (0 : Int32)) hx hb dX8_isCarriage_2 (by decide) ?_
  refine lv_iconst (v := (3 : Int32)) hx hb dX8_isCarriage_3 (by decide) ?_
  obtain ⟨r1, hc1, hf⟩ := pb_s hf
  refine g_doI0 hG (g_runV C0 hG (k_X8_in l D base Z u p1 (0 : Int32) (3 : Int32) r1 hc1) m_X8_in v_X8_in w_1082 (by decide) (g_recv C0 hG (L82 hG) rfl) rfl hl.1 rfl (Nat.le_of_ble_eq_true rfl) dX8_isCarriage_4 ⟨Nat.zero_le _, Nat.zero_le _⟩) (fun H locs hG hk => ?_)
  obtain ⟨h2, hf⟩ := gbo_s hf
  have hf := Option.some.inj hf
  subst hf
  subst hQ
  exact g_zret C0 hG hr h2 dX8_isCarriage_7
theorem dX8_isMinutes_0 : decode cX8_isMinutes 0 = .ok (.aload_n 0, 1) := by decide +kernel
theorem dX8_isMinutes_1 : decode cX8_isMinutes 1 = .ok (.iload_n 1, 1) := by decide +kernel
theorem dX8_isMinutes_2 : decode cX8_isMinutes 2 = .ok (.iconst 0, 1) := by decide +kernel
theorem dX8_isMinutes_3 : decode cX8_isMinutes 3 = .ok (.bipush 30, 2) := by decide +kernel
theorem dX8_isMinutes_5 : decode cX8_isMinutes 5 = .ok (.invokevirtual 249, 3) := by decide +kernel
theorem dX8_isMinutes_8 : decode cX8_isMinutes 8 = .ok (.ireturn, 1) := by decide +kernel
def f_X8_isMinutes (p1 : Int32) : Option (Int32) := Option.bind (f_X8_in p1 (0 : Int32) (30 : Int32)) (fun r1 => gbo r1 (some r1))
set_option maxHeartbeats 4000000 in
set_option maxRecDepth 100000 in
theorem k_X8_isMinutes (l : Launch) (D : gDt) (base : Nat) (Z : gZt) (u : Mem) (p1 : Int32) (r : Int32) (hf : f_X8_isMinutes p1 = some r) : Met l yX8_isMinutes (gws yX8_isMinutes cX8_isMinutes 2 (some .boolean)) (gRm 2 0 0) (gPc D base Z u [.ref (base + 82), .int p1]) (gQi D base r u) 0 0 (gF base) := by
  refine Met.ofW (cc := cX8_isMinutes) (maxL := 2) (ret := some .boolean) (by decide) rfl ?_
  intro p e s m args below meth c s₁ B hml hv
  obtain ⟨rfl, C0, hG⟩ := g_enter B hml hv
  have hr := B.returns
  have C0 : gC p s m meth c _ cX8_isMinutes 2 RX8 D base Z := C0
  have hx := C0.1
  have hb := C0.2.1
  have hl := lv_entry ([.ref (base + 82), .int p1]) (n := 2) (Nat.le_of_ble_eq_true rfl)
  rw [lg_entry_eq]
  generalize (lg_sl ([.ref (base + 82), .int p1]) ++ List.replicate (2 - (lg_sl ([.ref (base + 82), .int p1])).length) Slot.unset).toArray = ls at hl ⊢
  have hl : lv_has ls 2 [(0, .ref (base + 82)), (1, .int p1)] := hl
  obtain ⟨Q, hQ⟩ : ∃ Q, Q = MQ below (gQi D base r u) ([.ref (base + 82), .int p1] : List Value).toArray s 0 0 (gF base) := ⟨_, rfl⟩
  rw [← hQ]
  change W p l e (gRm 2 0 0) s m _ below meth c _ _ _ _ _ _
  unfold f_X8_isMinutes at hf
  refine lv_aload_n hx hb dX8_isMinutes_0 rfl (lv_at hl 0 rfl) ?_
  refine lv_iload_n hx hb dX8_isMinutes_1 rfl (lv_at hl 1 rfl) ?_
  refine lv_iconst (v := (0 : Int32)) hx hb dX8_isMinutes_2 (by decide) ?_
  refine lv_bipush (v := (30 : Int32)) hx hb dX8_isMinutes_3 (by decide) ?_
  obtain ⟨r1, hc1, hf⟩ := pb_s hf
  refine g_doI0 hG (g_runV C0 hG (k_X8_in l D base Z u p1 (0 : Int32) (30 : Int32) r1 hc1) m_X8_in v_X8_in w_1082 (by decide) (g_recv C0 hG (L82 hG) rfl) rfl hl.1 rfl (Nat.le_of_ble_eq_true rfl) dX8_isMinutes_5 ⟨Nat.zero_le _, Nat.zero_le _⟩) (fun H locs hG hk => ?_)
  obtain ⟨h2, hf⟩ := gbo_s hf
  have hf := Option.some.inj hf
  subst hf
  subst hQ
  exact g_zret C0 hG hr h2 dX8_isMinutes_8
theorem dX8_one_0 : decode cX8_one 0 = .ok (.aload_n 0, 1) := by decide +kernel
theorem dX8_one_1 : decode cX8_one 1 = .ok (.iload_n 1, 1) := by decide +kernel
theorem dX8_one_2 : decode cX8_one 2 = .ok (.iconst 0, 1) := by decide +kernel
theorem dX8_one_3 : decode cX8_one 3 = .ok (.bipush 6, 2) := by decide +kernel
theorem dX8_one_5 : decode cX8_one 5 = .ok (.invokevirtual 249, 3) := by decide +kernel
theorem dX8_one_8 : decode cX8_one 8 = .ok (.ifCond .eq 11, 3) := by decide +kernel
theorem dX8_one_11 : decode cX8_one 11 = .ok (.aload_n 0, 1) := by decide +kernel
theorem dX8_one_12 : decode cX8_one 12 = .ok (.iload_n 3, 1) := by decide +kernel
theorem dX8_one_13 : decode cX8_one 13 = .ok (.invokevirtual 253, 3) := by decide +kernel
theorem dX8_one_16 : decode cX8_one 16 = .ok (.ifCond .ne 5, 3) := by decide +kernel
theorem dX8_one_19 : decode cX8_one 19 = .ok (.iconst (-1), 1) := by decide +kernel
theorem dX8_one_20 : decode cX8_one 20 = .ok (.ireturn, 1) := by decide +kernel
theorem dX8_one_21 : decode cX8_one 21 = .ok (.aload_n 0, 1) := by decide +kernel
theorem dX8_one_22 : decode cX8_one 22 = .ok (.iload_n 2, 1) := by decide +kernel
theorem dX8_one_23 : decode cX8_one 23 = .ok (.iconst 0, 1) := by decide +kernel
theorem dX8_one_24 : decode cX8_one 24 = .ok (.bipush 9, 2) := by decide +kernel
theorem dX8_one_26 : decode cX8_one 26 = .ok (.invokevirtual 249, 3) := by decide +kernel
theorem dX8_one_29 : decode cX8_one 29 = .ok (.ifCond .eq 12, 3) := by decide +kernel
theorem dX8_one_32 : decode cX8_one 32 = .ok (.aload_n 0, 1) := by decide +kernel
theorem dX8_one_33 : decode cX8_one 33 = .ok (.iload 4, 2) := by decide +kernel
theorem dX8_one_35 : decode cX8_one 35 = .ok (.invokevirtual 257, 3) := by decide +kernel
theorem dX8_one_38 : decode cX8_one 38 = .ok (.ifCond .ne 6, 3) := by decide +kernel
theorem dX8_one_41 : decode cX8_one 41 = .ok (.bipush (-2), 2) := by decide +kernel
theorem dX8_one_43 : decode cX8_one 43 = .ok (.ireturn, 1) := by decide +kernel
theorem dX8_one_44 : decode cX8_one 44 = .ok (.aload_n 0, 1) := by decide +kernel
theorem dX8_one_45 : decode cX8_one 45 = .ok (.getfield 7, 3) := by decide +kernel
theorem dX8_one_48 : decode cX8_one 48 = .ok (.bipush 6, 2) := by decide +kernel
theorem dX8_one_50 : decode cX8_one 50 = .ok (.if_icmp .ne 6, 3) := by decide +kernel
theorem dX8_one_53 : decode cX8_one 53 = .ok (.bipush (-4), 2) := by decide +kernel
theorem dX8_one_55 : decode cX8_one 55 = .ok (.ireturn, 1) := by decide +kernel
theorem dX8_one_56 : decode cX8_one 56 = .ok (.aload_n 0, 1) := by decide +kernel
theorem dX8_one_57 : decode cX8_one 57 = .ok (.getfield 25, 3) := by decide +kernel
theorem dX8_one_60 : decode cX8_one 60 = .ok (.aload_n 0, 1) := by decide +kernel
theorem dX8_one_61 : decode cX8_one 61 = .ok (.getfield 7, 3) := by decide +kernel
theorem dX8_one_64 : decode cX8_one 64 = .ok (.iload_n 1, 1) := by decide +kernel
theorem dX8_one_65 : decode cX8_one 65 = .ok (.iastore, 1) := by decide +kernel
theorem dX8_one_66 : decode cX8_one 66 = .ok (.aload_n 0, 1) := by decide +kernel
theorem dX8_one_67 : decode cX8_one 67 = .ok (.getfield 29, 3) := by decide +kernel
theorem dX8_one_70 : decode cX8_one 70 = .ok (.aload_n 0, 1) := by decide +kernel
theorem dX8_one_71 : decode cX8_one 71 = .ok (.getfield 7, 3) := by decide +kernel
theorem dX8_one_74 : decode cX8_one 74 = .ok (.iload_n 2, 1) := by decide +kernel
theorem dX8_one_75 : decode cX8_one 75 = .ok (.iastore, 1) := by decide +kernel
theorem dX8_one_76 : decode cX8_one 76 = .ok (.aload_n 0, 1) := by decide +kernel
theorem dX8_one_77 : decode cX8_one 77 = .ok (.getfield 32, 3) := by decide +kernel
theorem dX8_one_80 : decode cX8_one 80 = .ok (.aload_n 0, 1) := by decide +kernel
theorem dX8_one_81 : decode cX8_one 81 = .ok (.getfield 7, 3) := by decide +kernel
theorem dX8_one_84 : decode cX8_one 84 = .ok (.iload_n 3, 1) := by decide +kernel
theorem dX8_one_85 : decode cX8_one 85 = .ok (.iastore, 1) := by decide +kernel
theorem dX8_one_86 : decode cX8_one 86 = .ok (.aload_n 0, 1) := by decide +kernel
theorem dX8_one_87 : decode cX8_one 87 = .ok (.getfield 35, 3) := by decide +kernel
theorem dX8_one_90 : decode cX8_one 90 = .ok (.aload_n 0, 1) := by decide +kernel
theorem dX8_one_91 : decode cX8_one 91 = .ok (.getfield 7, 3) := by decide +kernel
theorem dX8_one_94 : decode cX8_one 94 = .ok (.iload 4, 2) := by decide +kernel
theorem dX8_one_96 : decode cX8_one 96 = .ok (.iastore, 1) := by decide +kernel
theorem dX8_one_97 : decode cX8_one 97 = .ok (.aload_n 0, 1) := by decide +kernel
theorem dX8_one_98 : decode cX8_one 98 = .ok (.dup, 1) := by decide +kernel
theorem dX8_one_99 : decode cX8_one 99 = .ok (.getfield 13, 3) := by decide +kernel
theorem dX8_one_102 : decode cX8_one 102 = .ok (.iconst 1, 1) := by decide +kernel
theorem dX8_one_103 : decode cX8_one 103 = .ok (.aload_n 0, 1) := by decide +kernel
theorem dX8_one_104 : decode cX8_one 104 = .ok (.getfield 7, 3) := by decide +kernel
theorem dX8_one_107 : decode cX8_one 107 = .ok (.ishl, 1) := by decide +kernel
theorem dX8_one_108 : decode cX8_one 108 = .ok (.iconst (-1), 1) := by decide +kernel
theorem dX8_one_109 : decode cX8_one 109 = .ok (.ixor, 1) := by decide +kernel
theorem dX8_one_110 : decode cX8_one 110 = .ok (.iand, 1) := by decide +kernel
theorem dX8_one_111 : decode cX8_one 111 = .ok (.putfield 13, 3) := by decide +kernel
theorem dX8_one_114 : decode cX8_one 114 = .ok (.iconst 0, 1) := by decide +kernel
theorem dX8_one_115 : decode cX8_one 115 = .ok (.istore 5, 2) := by decide +kernel
theorem dX8_one_117 : decode cX8_one 117 = .ok (.iload 5, 2) := by decide +kernel
theorem dX8_one_119 : decode cX8_one 119 = .ok (.iconst 4, 1) := by decide +kernel
theorem dX8_one_120 : decode cX8_one 120 = .ok (.if_icmp .ge 24, 3) := by decide +kernel
theorem dX8_one_123 : decode cX8_one 123 = .ok (.aload_n 0, 1) := by decide +kernel
theorem dX8_one_124 : decode cX8_one 124 = .ok (.getfield 38, 3) := by decide +kernel
theorem dX8_one_127 : decode cX8_one 127 = .ok (.iconst 4, 1) := by decide +kernel
theorem dX8_one_128 : decode cX8_one 128 = .ok (.aload_n 0, 1) := by decide +kernel
theorem dX8_one_129 : decode cX8_one 129 = .ok (.getfield 7, 3) := by decide +kernel
theorem dX8_one_132 : decode cX8_one 132 = .ok (.imul, 1) := by decide +kernel
theorem dX8_one_133 : decode cX8_one 133 = .ok (.iload 5, 2) := by decide +kernel
theorem dX8_one_135 : decode cX8_one 135 = .ok (.iadd, 1) := by decide +kernel
theorem dX8_one_136 : decode cX8_one 136 = .ok (.iconst 0, 1) := by decide +kernel
theorem dX8_one_137 : decode cX8_one 137 = .ok (.iastore, 1) := by decide +kernel
theorem dX8_one_138 : decode cX8_one 138 = .ok (.iinc 5 1, 3) := by decide +kernel
theorem dX8_one_141 : decode cX8_one 141 = .ok (.goto (-24), 3) := by decide +kernel
theorem dX8_one_144 : decode cX8_one 144 = .ok (.aload_n 0, 1) := by decide +kernel
theorem dX8_one_145 : decode cX8_one 145 = .ok (.dup, 1) := by decide +kernel
theorem dX8_one_146 : decode cX8_one 146 = .ok (.getfield 7, 3) := by decide +kernel
theorem dX8_one_149 : decode cX8_one 149 = .ok (.iconst 1, 1) := by decide +kernel
theorem dX8_one_150 : decode cX8_one 150 = .ok (.iadd, 1) := by decide +kernel
theorem dX8_one_151 : decode cX8_one 151 = .ok (.putfield 7, 3) := by decide +kernel
theorem dX8_one_154 : decode cX8_one 154 = .ok (.aload_n 0, 1) := by decide +kernel
theorem dX8_one_155 : decode cX8_one 155 = .ok (.getfield 7, 3) := by decide +kernel
theorem dX8_one_158 : decode cX8_one 158 = .ok (.iconst 1, 1) := by decide +kernel
theorem dX8_one_159 : decode cX8_one 159 = .ok (.isub, 1) := by decide +kernel
theorem dX8_one_160 : decode cX8_one 160 = .ok (.ireturn, 1) := by decide +kernel
def f_X8_one_L117 (x5_14 : Int32) (u14 : Mem) : Option ((Int32 × Mem) ⊕ (Int32 × Mem)) := (if (4 : Int32) ≤ x5_14 then some (Sum.inr ((gI (sI u14 82 0 ((gI u14 82 0) + (1 : Int32))) 82 0) - (1 : Int32), sI u14 82 0 ((gI u14 82 0) + (1 : Int32)))) else gin (((4 : Int32) * (gI u14 82 0)) + x5_14) 24 (some (Sum.inl (x5_14 + (1 : Int32), sA u14 87 (((4 : Int32) * (gI u14 82 0)) + x5_14).toNatClampNeg (0 : Int32)))))
def f_X8_one (p1 : Int32) (p2 : Int32) (p3 : Int32) (p4 : Int32) (u : Mem) : Option (Int32 × Mem) := Option.bind (f_X8_in p1 (0 : Int32) (6 : Int32)) (fun r1 => (if r1 = 0 then some ((-1 : Int32), u) else Option.bind (f_X8_isCarriage p3) (fun r3 => (if r3 = 0 then some ((-1 : Int32), u) else Option.bind (f_X8_in p2 (0 : Int32) (9 : Int32)) (fun r5 => (if r5 = 0 then some ((-2 : Int32), u) else Option.bind (f_X8_isTales p4) (fun r7 => (if r7 = 0 then some ((-2 : Int32), u) else (if (gI u 82 0) = (6 : Int32) then some ((-4 : Int32), u) else gin (gI u 82 0) 6 (gin (gI (sA u 83 (gI u 82 0).toNatClampNeg p1) 82 0) 6 (gin (gI (sA (sA u 83 (gI u 82 0).toNatClampNeg p1) 84 (gI (sA u 83 (gI u 82 0).toNatClampNeg p1) 82 0).toNatClampNeg p2) 82 0) 6 (gin (gI (sA (sA (sA u 83 (gI u 82 0).toNatClampNeg p1) 84 (gI (sA u 83 (gI u 82 0).toNatClampNeg p1) 82 0).toNatClampNeg p2) 85 (gI (sA (sA u 83 (gI u 82 0).toNatClampNeg p1) 84 (gI (sA u 83 (gI u 82 0).toNatClampNeg p1) 82 0).toNatClampNeg p2) 82 0).toNatClampNeg p3) 82 0) 6 (whileO (fun s => f_X8_one_L117 s.1 s.2) FUEL ((0 : Int32), sI (sA (sA (sA (sA u 83 (gI u 82 0).toNatClampNeg p1) 84 (gI (sA u 83 (gI u 82 0).toNatClampNeg p1) 82 0).toNatClampNeg p2) 85 (gI (sA (sA u 83 (gI u 82 0).toNatClampNeg p1) 84 (gI (sA u 83 (gI u 82 0).toNatClampNeg p1) 82 0).toNatClampNeg p2) 82 0).toNatClampNeg p3) 86 (gI (sA (sA (sA u 83 (gI u 82 0).toNatClampNeg p1) 84 (gI (sA u 83 (gI u 82 0).toNatClampNeg p1) 82 0).toNatClampNeg p2) 85 (gI (sA (sA u 83 (gI u 82 0).toNatClampNeg p1) 84 (gI (sA u 83 (gI u 82 0).toNatClampNeg p1) 82 0).toNatClampNeg p2) 82 0).toNatClampNeg p3) 82 0).toNatClampNeg p4) 82 1 ((gI (sA (sA (sA (sA u 83 (gI u 82 0).toNatClampNeg p1) 84 (gI (sA u 83 (gI u 82 0).toNatClampNeg p1) 82 0).toNatClampNeg p2) 85 (gI (sA (sA u 83 (gI u 82 0).toNatClampNeg p1) 84 (gI (sA u 83 (gI u 82 0).toNatClampNeg p1) 82 0).toNatClampNeg p2) 82 0).toNatClampNeg p3) 86 (gI (sA (sA (sA u 83 (gI u 82 0).toNatClampNeg p1) 84 (gI (sA u 83 (gI u 82 0).toNatClampNeg p1) 82 0).toNatClampNeg p2) 85 (gI (sA (sA u 83 (gI u 82 0).toNatClampNeg p1) 84 (gI (sA u 83 (gI u 82 0).toNatClampNeg p1) 82 0).toNatClampNeg p2) 82 0).toNatClampNeg p3) 82 0).toNatClampNeg p4) 82 1) &&& (((1 : Int32) <<< ((gI (sA (sA (sA (sA u 83 (gI u 82 0).toNatClampNeg p1) 84 (gI (sA u 83 (gI u 82 0).toNatClampNeg p1) 82 0).toNatClampNeg p2) 85 (gI (sA (sA u 83 (gI u 82 0).toNatClampNeg p1) 84 (gI (sA u 83 (gI u 82 0).toNatClampNeg p1) 82 0).toNatClampNeg p2) 82 0).toNatClampNeg p3) 86 (gI (sA (sA (sA u 83 (gI u 82 0).toNatClampNeg p1) 84 (gI (sA u 83 (gI u 82 0).toNatClampNeg p1) 82 0).toNatClampNeg p2) 85 (gI (sA (sA u 83 (gI u 82 0).toNatClampNeg p1) 84 (gI (sA u 83 (gI u 82 0).toNatClampNeg p1) 82 0).toNatClampNeg p2) 82 0).toNatClampNeg p3) 82 0).toNatClampNeg p4) 82 0) &&& 31)) ^^^ (-1 : Int32)))))))))))))))))
set_option maxHeartbeats 4000000 in
set_option maxRecDepth 100000 in
theorem k_X8_one (l : Launch) (D : gDt) (base : Nat) (Z : gZt) (u : Mem) (p1 : Int32) (p2 : Int32) (p3 : Int32) (p4 : Int32) (r : Int32) (u' : Mem) (hf : f_X8_one p1 p2 p3 p4 u = some (r, u')) : Met l yX8_one (gws yX8_one cX8_one 6 (some .int)) (gRm 3 0 0) (gPc D base Z u [.ref (base + 82), .int p1, .int p2, .int p3, .int p4]) (gQi D base r u') 0 0 (gF base) := by
  refine Met.ofW (cc := cX8_one) (maxL := 6) (ret := some .int) (by decide) rfl ?_
  intro p e s m args below meth c s₁ B hml hv
  obtain ⟨rfl, C0, hG⟩ := g_enter B hml hv
  have hr := B.returns
  have C0 : gC p s m meth c _ cX8_one 6 RX8 D base Z := C0
  have hx := C0.1
  have hb := C0.2.1
  have hl := lv_entry ([.ref (base + 82), .int p1, .int p2, .int p3, .int p4]) (n := 6) (Nat.le_of_ble_eq_true rfl)
  rw [lg_entry_eq]
  generalize (lg_sl ([.ref (base + 82), .int p1, .int p2, .int p3, .int p4]) ++ List.replicate (6 - (lg_sl ([.ref (base + 82), .int p1, .int p2, .int p3, .int p4])).length) Slot.unset).toArray = ls at hl ⊢
  have hl : lv_has ls 6 [(0, .ref (base + 82)), (1, .int p1), (2, .int p2), (3, .int p3), (4, .int p4)] := hl
  obtain ⟨Q, hQ⟩ : ∃ Q, Q = MQ below (gQi D base r u') ([.ref (base + 82), .int p1, .int p2, .int p3, .int p4] : List Value).toArray s 0 0 (gF base) := ⟨_, rfl⟩
  rw [← hQ]
  change W p l e (gRm 3 0 0) s m _ below meth c _ _ _ _ _ _
  unfold f_X8_one at hf
  refine lv_aload_n hx hb dX8_one_0 rfl (lv_at hl 0 rfl) ?_
  refine lv_iload_n hx hb dX8_one_1 rfl (lv_at hl 1 rfl) ?_
  refine lv_iconst (v := (0 : Int32)) hx hb dX8_one_2 (by decide) ?_
  refine lv_bipush (v := (6 : Int32)) hx hb dX8_one_3 (by decide) ?_
  obtain ⟨r1, hc1, hf⟩ := pb_s hf
  refine g_doI0 hG (g_runV C0 hG (k_X8_in l D base Z u p1 (0 : Int32) (6 : Int32) r1 hc1) m_X8_in v_X8_in w_1082 (by decide) (g_recv C0 hG (L82 hG) rfl) rfl hl.1 rfl (Nat.le_of_ble_eq_true rfl) dX8_one_5 ⟨Nat.zero_le _, Nat.zero_le _⟩) (fun H locs hG hk => ?_)
  refine lv_if_eq (tgt := 19) hx hb dX8_one_8 (by decide) (fun c2 => ?_) (fun c2 => ?_)
  · have hf := gif_t c2 hf
    refine lv_iconst (v := (-1 : Int32)) hx hb dX8_one_19 (by decide) ?_
    obtain ⟨hr1, hu⟩ := gret_s hf
    subst hr1
    subst hu
    subst hQ
    exact g_iret C0 hG hr dX8_one_20
  · have hf := gif_f c2 hf
    refine lv_aload_n hx hb dX8_one_11 rfl (lv_at hl 0 rfl) ?_
    refine lv_iload_n hx hb dX8_one_12 rfl (lv_at hl 3 rfl) ?_
    obtain ⟨r3, hc3, hf⟩ := pb_s hf
    refine g_doI0 hG (g_runV C0 hG (k_X8_isCarriage l D base Z u p3 r3 hc3) m_X8_isCarriage v_X8_isCarriage w_1086 (by decide) (g_recv C0 hG (L82 hG) rfl) rfl hl.1 rfl (Nat.le_of_ble_eq_true rfl) dX8_one_13 ⟨Nat.zero_le _, Nat.zero_le _⟩) (fun H locs hG hk => ?_)
    refine lv_if_ne (tgt := 21) hx hb dX8_one_16 (by decide) (fun c4 => ?_) (fun c4 => ?_)
    · have hf := gif_f c4 hf
      refine lv_aload_n hx hb dX8_one_21 rfl (lv_at hl 0 rfl) ?_
      refine lv_iload_n hx hb dX8_one_22 rfl (lv_at hl 2 rfl) ?_
      refine lv_iconst (v := (0 : Int32)) hx hb dX8_one_23 (by decide) ?_
      refine lv_bipush (v := (9 : Int32)) hx hb dX8_one_24 (by decide) ?_
      obtain ⟨r5, hc5, hf⟩ := pb_s hf
      refine g_doI0 hG (g_runV C0 hG (k_X8_in l D base Z u p2 (0 : Int32) (9 : Int32) r5 hc5) m_X8_in v_X8_in w_1082 (by decide) (g_recv C0 hG (L82 hG) rfl) rfl hl.1 rfl (Nat.le_of_ble_eq_true rfl) dX8_one_26 ⟨Nat.zero_le _, Nat.zero_le _⟩) (fun H locs hG hk => ?_)
      refine lv_if_eq (tgt := 41) hx hb dX8_one_29 (by decide) (fun c6 => ?_) (fun c6 => ?_)
      · have hf := gif_t c6 hf
        refine lv_bipush (v := (-2 : Int32)) hx hb dX8_one_41 (by decide) ?_
        obtain ⟨hr1, hu⟩ := gret_s hf
        subst hr1
        subst hu
        subst hQ
        exact g_iret C0 hG hr dX8_one_43
      · have hf := gif_f c6 hf
        refine lv_aload_n hx hb dX8_one_32 rfl (lv_at hl 0 rfl) ?_
        refine lv_iload hx hb dX8_one_33 (lv_at hl 4 rfl) ?_
        obtain ⟨r7, hc7, hf⟩ := pb_s hf
        refine g_doI0 hG (g_runV C0 hG (k_X8_isTales l D base Z u p4 r7 hc7) m_X8_isTales v_X8_isTales w_1090 (by decide) (g_recv C0 hG (L82 hG) rfl) rfl hl.1 rfl (Nat.le_of_ble_eq_true rfl) dX8_one_35 ⟨Nat.zero_le _, Nat.zero_le _⟩) (fun H locs hG hk => ?_)
        refine lv_if_ne (tgt := 44) hx hb dX8_one_38 (by decide) (fun c8 => ?_) (fun c8 => ?_)
        · have hf := gif_f c8 hf
          refine lv_aload_n hx hb dX8_one_44 rfl (lv_at hl 0 rfl) ?_
          refine g_getI C0 hG (L82 hG) rfl 0 (by decide) rfl w_846 dX8_one_45 ?_
          refine lv_bipush (v := (6 : Int32)) hx hb dX8_one_48 (by decide) ?_
          refine lv_icmp_ne (tgt := 56) hx hb dX8_one_50 (by decide) (fun c9 => ?_) (fun c9 => ?_)
          · have hf := gif_f c9 hf
            refine lv_aload_n hx hb dX8_one_56 rfl (lv_at hl 0 rfl) ?_
            refine g_getSa (o := 1) (a := 83) C0 hG (L82 hG) rfl 5 (by decide) rfl rfl w_851 dX8_one_57 ?_
            refine lv_aload_n hx hb dX8_one_60 rfl (lv_at hl 0 rfl) ?_
            refine g_getI C0 hG (L82 hG) rfl 0 (by decide) rfl w_846 dX8_one_61 ?_
            refine lv_iload_n hx hb dX8_one_64 rfl (lv_at hl 1 rfl) ?_
            obtain ⟨h10, hf⟩ := gin_s hf
            refine g_iast C0 hG (L83 hG) h10 dX8_one_65 (fun H locs hG => ?_)
            refine lv_aload_n hx hb dX8_one_66 rfl (lv_at hl 0 rfl) ?_
            refine g_getSa (o := 2) (a := 84) C0 hG (L82 hG) rfl 6 (by decide) rfl rfl w_852 dX8_one_67 ?_
            refine lv_aload_n hx hb dX8_one_70 rfl (lv_at hl 0 rfl) ?_
            refine g_getI C0 hG (L82 hG) rfl 0 (by decide) rfl w_846 dX8_one_71 ?_
            refine lv_iload_n hx hb dX8_one_74 rfl (lv_at hl 2 rfl) ?_
            obtain ⟨h11, hf⟩ := gin_s hf
            refine g_iast C0 hG (L84 hG) h11 dX8_one_75 (fun H locs hG => ?_)
            refine lv_aload_n hx hb dX8_one_76 rfl (lv_at hl 0 rfl) ?_
            refine g_getSa (o := 3) (a := 85) C0 hG (L82 hG) rfl 7 (by decide) rfl rfl w_853 dX8_one_77 ?_
            refine lv_aload_n hx hb dX8_one_80 rfl (lv_at hl 0 rfl) ?_
            refine g_getI C0 hG (L82 hG) rfl 0 (by decide) rfl w_846 dX8_one_81 ?_
            refine lv_iload_n hx hb dX8_one_84 rfl (lv_at hl 3 rfl) ?_
            obtain ⟨h12, hf⟩ := gin_s hf
            refine g_iast C0 hG (L85 hG) h12 dX8_one_85 (fun H locs hG => ?_)
            refine lv_aload_n hx hb dX8_one_86 rfl (lv_at hl 0 rfl) ?_
            refine g_getSa (o := 4) (a := 86) C0 hG (L82 hG) rfl 8 (by decide) rfl rfl w_854 dX8_one_87 ?_
            refine lv_aload_n hx hb dX8_one_90 rfl (lv_at hl 0 rfl) ?_
            refine g_getI C0 hG (L82 hG) rfl 0 (by decide) rfl w_846 dX8_one_91 ?_
            refine lv_iload hx hb dX8_one_94 (lv_at hl 4 rfl) ?_
            obtain ⟨h13, hf⟩ := gin_s hf
            refine g_iast C0 hG (L86 hG) h13 dX8_one_96 (fun H locs hG => ?_)
            refine lv_aload_n hx hb dX8_one_97 rfl (lv_at hl 0 rfl) ?_
            refine lv_dup hx hb dX8_one_98 rfl ?_
            refine g_getI C0 hG (L82 hG) rfl 1 (by decide) rfl w_847 dX8_one_99 ?_
            refine lv_iconst (v := (1 : Int32)) hx hb dX8_one_102 (by decide) ?_
            refine lv_aload_n hx hb dX8_one_103 rfl (lv_at hl 0 rfl) ?_
            refine g_getI C0 hG (L82 hG) rfl 0 (by decide) rfl w_846 dX8_one_104 ?_
            refine lv_ishl hx hb dX8_one_107 ?_
            refine lv_iconst (v := (-1 : Int32)) hx hb dX8_one_108 (by decide) ?_
            refine lv_ixor hx hb dX8_one_109 ?_
            refine lv_iand hx hb dX8_one_110 ?_
            refine g_putI (ty := .int) C0 hG (L82 hG) rfl 1 (by decide) rfl w_847 rfl (by decide) rfl rfl dX8_one_111 (fun H locs hG => ?_)
            refine lv_iconst (v := (0 : Int32)) hx hb dX8_one_114 (by decide) ?_
            refine lv_istore (lv' := [(5, .int (0 : Int32)), (0, .ref (base + 82)), (1, .int p1), (2, .int p2), (3, .int p3), (4, .int p4)]) hx hb dX8_one_115 hl (by decide) rfl (fun ls hl => ?_)
            have loop14 : ∀ (n14 : Nat) (x5_14 : Int32) (u14 : Mem) (H : Heap) (locs : List Loc) (ls : Array Slot), gH D base s u14 H locs → lv_has ls 6 [(0, .ref (base + 82)), (5, .int x5_14)] → whileO (fun s => f_X8_one_L117 s.1 s.2) n14 (x5_14, u14) = some (r, u') → W p l e (gRm 3 0 0) s m ([.ref (base + 82), .int p1, .int p2, .int p3, .int p4] : List Value).toArray below meth c H locs 0 0 Q (F0 m 117 ls []) := by
              intro n14
              induction n14 with
              | zero => intro x5_14 u14 H locs ls hG hl hf; cases hf
              | succ n14 ih14 =>
                intro x5_14 u14 H locs ls hG hl hf
                obtain ⟨X14, hf, hX14⟩ := while_s hf
                have hf : f_X8_one_L117 x5_14 u14 = some X14 := hf
                unfold f_X8_one_L117 at hf
                refine lv_iload hx hb dX8_one_117 (lv_at hl 1 rfl) ?_
                refine lv_iconst (v := (4 : Int32)) hx hb dX8_one_119 (by decide) ?_
                refine lv_icmp_ge (tgt := 144) hx hb dX8_one_120 (by decide) (fun c15 => ?_) (fun c15 => ?_)
                · have hf := gif_t c15 hf
                  refine lv_aload_n hx hb dX8_one_144 rfl (lv_at hl 0 rfl) ?_
                  refine lv_dup hx hb dX8_one_145 rfl ?_
                  refine g_getI C0 hG (L82 hG) rfl 0 (by decide) rfl w_846 dX8_one_146 ?_
                  refine lv_iconst (v := (1 : Int32)) hx hb dX8_one_149 (by decide) ?_
                  refine lv_iadd hx hb dX8_one_150 ?_
                  refine g_putI (ty := .int) C0 hG (L82 hG) rfl 0 (by decide) rfl w_846 rfl (by decide) rfl rfl dX8_one_151 (fun H locs hG => ?_)
                  refine lv_aload_n hx hb dX8_one_154 rfl (lv_at hl 0 rfl) ?_
                  refine g_getI C0 hG (L82 hG) rfl 0 (by decide) rfl w_846 dX8_one_155 ?_
                  refine lv_iconst (v := (1 : Int32)) hx hb dX8_one_158 (by decide) ?_
                  refine lv_isub hx hb dX8_one_159 ?_
                  have hf := while_r hX14 hf
                  obtain ⟨hr1, hu⟩ := gret_s hf
                  subst hr1
                  subst hu
                  subst hQ
                  exact g_iret C0 hG hr dX8_one_160
                · have hf := gif_f c15 hf
                  refine lv_aload_n hx hb dX8_one_123 rfl (lv_at hl 0 rfl) ?_
                  refine g_getSa (o := 5) (a := 87) C0 hG (L82 hG) rfl 9 (by decide) rfl rfl w_855 dX8_one_124 ?_
                  refine lv_iconst (v := (4 : Int32)) hx hb dX8_one_127 (by decide) ?_
                  refine lv_aload_n hx hb dX8_one_128 rfl (lv_at hl 0 rfl) ?_
                  refine g_getI C0 hG (L82 hG) rfl 0 (by decide) rfl w_846 dX8_one_129 ?_
                  refine lv_imul hx hb dX8_one_132 ?_
                  refine lv_iload hx hb dX8_one_133 (lv_at hl 1 rfl) ?_
                  refine lv_iadd hx hb dX8_one_135 ?_
                  refine lv_iconst (v := (0 : Int32)) hx hb dX8_one_136 (by decide) ?_
                  obtain ⟨h16, hf⟩ := gin_s hf
                  refine g_iast C0 hG (L87 hG) h16 dX8_one_137 (fun H locs hG => ?_)
                  refine lv_iinc (v := x5_14 + (1 : Int32)) (lv' := [(5, .int (x5_14 + (1 : Int32))), (0, .ref (base + 82))]) hx hb dX8_one_138 hl (k := 1) rfl rfl (by decide) rfl (fun ls hl => ?_)
                  refine lv_goto (tgt := 117) hx hb dX8_one_141 (by decide) ?_
                  have hf := while_l hX14 hf
                  exact ih14 (x5_14 + (1 : Int32)) (sA u14 87 (((4 : Int32) * (gI u14 82 0)) + x5_14).toNatClampNeg (0 : Int32)) _ _ ls hG (lv_sub hl [1, 0] rfl) hf
            exact loop14 FUEL (0 : Int32) (sI (sA (sA (sA (sA u 83 (gI u 82 0).toNatClampNeg p1) 84 (gI (sA u 83 (gI u 82 0).toNatClampNeg p1) 82 0).toNatClampNeg p2) 85 (gI (sA (sA u 83 (gI u 82 0).toNatClampNeg p1) 84 (gI (sA u 83 (gI u 82 0).toNatClampNeg p1) 82 0).toNatClampNeg p2) 82 0).toNatClampNeg p3) 86 (gI (sA (sA (sA u 83 (gI u 82 0).toNatClampNeg p1) 84 (gI (sA u 83 (gI u 82 0).toNatClampNeg p1) 82 0).toNatClampNeg p2) 85 (gI (sA (sA u 83 (gI u 82 0).toNatClampNeg p1) 84 (gI (sA u 83 (gI u 82 0).toNatClampNeg p1) 82 0).toNatClampNeg p2) 82 0).toNatClampNeg p3) 82 0).toNatClampNeg p4) 82 1 ((gI (sA (sA (sA (sA u 83 (gI u 82 0).toNatClampNeg p1) 84 (gI (sA u 83 (gI u 82 0).toNatClampNeg p1) 82 0).toNatClampNeg p2) 85 (gI (sA (sA u 83 (gI u 82 0).toNatClampNeg p1) 84 (gI (sA u 83 (gI u 82 0).toNatClampNeg p1) 82 0).toNatClampNeg p2) 82 0).toNatClampNeg p3) 86 (gI (sA (sA (sA u 83 (gI u 82 0).toNatClampNeg p1) 84 (gI (sA u 83 (gI u 82 0).toNatClampNeg p1) 82 0).toNatClampNeg p2) 85 (gI (sA (sA u 83 (gI u 82 0).toNatClampNeg p1) 84 (gI (sA u 83 (gI u 82 0).toNatClampNeg p1) 82 0).toNatClampNeg p2) 82 0).toNatClampNeg p3) 82 0).toNatClampNeg p4) 82 1) &&& (((1 : Int32) <<< ((gI (sA (sA (sA (sA u 83 (gI u 82 0).toNatClampNeg p1) 84 (gI (sA u 83 (gI u 82 0).toNatClampNeg p1) 82 0).toNatClampNeg p2) 85 (gI (sA (sA u 83 (gI u 82 0).toNatClampNeg p1) 84 (gI (sA u 83 (gI u 82 0).toNatClampNeg p1) 82 0).toNatClampNeg p2) 82 0).toNatClampNeg p3) 86 (gI (sA (sA (sA u 83 (gI u 82 0).toNatClampNeg p1) 84 (gI (sA u 83 (gI u 82 0).toNatClampNeg p1) 82 0).toNatClampNeg p2) 85 (gI (sA (sA u 83 (gI u 82 0).toNatClampNeg p1) 84 (gI (sA u 83 (gI u 82 0).toNatClampNeg p1) 82 0).toNatClampNeg p2) 82 0).toNatClampNeg p3) 82 0).toNatClampNeg p4) 82 0) &&& 31)) ^^^ (-1 : Int32)))) _ _ ls hG (lv_sub hl [1, 0] rfl) hf
          · have hf := gif_t c9 hf
            refine lv_bipush (v := (-4 : Int32)) hx hb dX8_one_53 (by decide) ?_
            obtain ⟨hr1, hu⟩ := gret_s hf
            subst hr1
            subst hu
            subst hQ
            exact g_iret C0 hG hr dX8_one_55
        · have hf := gif_t c8 hf
          refine lv_bipush (v := (-2 : Int32)) hx hb dX8_one_41 (by decide) ?_
          obtain ⟨hr1, hu⟩ := gret_s hf
          subst hr1
          subst hu
          subst hQ
          exact g_iret C0 hG hr dX8_one_43
    · have hf := gif_t c4 hf
      refine lv_iconst (v := (-1 : Int32)) hx hb dX8_one_19 (by decide) ?_
      obtain ⟨hr1, hu⟩ := gret_s hf
      subst hr1
      subst hu
      subst hQ
      exact g_iret C0 hG hr dX8_one_20
theorem dX8_seat_0 : decode cX8_seat 0 = .ok (.aload_n 0, 1) := by decide +kernel
theorem dX8_seat_1 : decode cX8_seat 1 = .ok (.iload_n 1, 1) := by decide +kernel
theorem dX8_seat_2 : decode cX8_seat 2 = .ok (.invokevirtual 260, 3) := by decide +kernel
theorem dX8_seat_5 : decode cX8_seat 5 = .ok (.ifCond .eq 11, 3) := by decide +kernel
theorem dX8_seat_8 : decode cX8_seat 8 = .ok (.aload_n 0, 1) := by decide +kernel
theorem dX8_seat_9 : decode cX8_seat 9 = .ok (.iload_n 2, 1) := by decide +kernel
theorem dX8_seat_10 : decode cX8_seat 10 = .ok (.invokevirtual 253, 3) := by decide +kernel
theorem dX8_seat_13 : decode cX8_seat 13 = .ok (.ifCond .ne 5, 3) := by decide +kernel
theorem dX8_seat_16 : decode cX8_seat 16 = .ok (.iconst (-1), 1) := by decide +kernel
theorem dX8_seat_17 : decode cX8_seat 17 = .ok (.ireturn, 1) := by decide +kernel
theorem dX8_seat_18 : decode cX8_seat 18 = .ok (.aload_n 0, 1) := by decide +kernel
theorem dX8_seat_19 : decode cX8_seat 19 = .ok (.getfield 32, 3) := by decide +kernel
theorem dX8_seat_22 : decode cX8_seat 22 = .ok (.iload_n 1, 1) := by decide +kernel
theorem dX8_seat_23 : decode cX8_seat 23 = .ok (.iaload, 1) := by decide +kernel
theorem dX8_seat_24 : decode cX8_seat 24 = .ok (.istore_n 3, 1) := by decide +kernel
theorem dX8_seat_25 : decode cX8_seat 25 = .ok (.aload_n 0, 1) := by decide +kernel
theorem dX8_seat_26 : decode cX8_seat 26 = .ok (.getfield 32, 3) := by decide +kernel
theorem dX8_seat_29 : decode cX8_seat 29 = .ok (.iload_n 1, 1) := by decide +kernel
theorem dX8_seat_30 : decode cX8_seat 30 = .ok (.iload_n 2, 1) := by decide +kernel
theorem dX8_seat_31 : decode cX8_seat 31 = .ok (.iastore, 1) := by decide +kernel
theorem dX8_seat_32 : decode cX8_seat 32 = .ok (.iload_n 3, 1) := by decide +kernel
theorem dX8_seat_33 : decode cX8_seat 33 = .ok (.ireturn, 1) := by decide +kernel
def f_X8_seat (p1 : Int32) (p2 : Int32) (u : Mem) : Option (Int32 × Mem) := Option.bind (f_X8_isOne p1 u) (fun r1 => (if r1 = 0 then some ((-1 : Int32), u) else Option.bind (f_X8_isCarriage p2) (fun r3 => (if r3 = 0 then some ((-1 : Int32), u) else gin p1 6 (gin p1 6 (some (gA u 85 p1.toNatClampNeg, sA u 85 p1.toNatClampNeg p2)))))))
set_option maxHeartbeats 4000000 in
set_option maxRecDepth 100000 in
theorem k_X8_seat (l : Launch) (D : gDt) (base : Nat) (Z : gZt) (u : Mem) (p1 : Int32) (p2 : Int32) (r : Int32) (u' : Mem) (hf : f_X8_seat p1 p2 u = some (r, u')) : Met l yX8_seat (gws yX8_seat cX8_seat 4 (some .int)) (gRm 3 0 0) (gPc D base Z u [.ref (base + 82), .int p1, .int p2]) (gQi D base r u') 0 0 (gF base) := by
  refine Met.ofW (cc := cX8_seat) (maxL := 4) (ret := some .int) (by decide) rfl ?_
  intro p e s m args below meth c s₁ B hml hv
  obtain ⟨rfl, C0, hG⟩ := g_enter B hml hv
  have hr := B.returns
  have C0 : gC p s m meth c _ cX8_seat 4 RX8 D base Z := C0
  have hx := C0.1
  have hb := C0.2.1
  have hl := lv_entry ([.ref (base + 82), .int p1, .int p2]) (n := 4) (Nat.le_of_ble_eq_true rfl)
  rw [lg_entry_eq]
  generalize (lg_sl ([.ref (base + 82), .int p1, .int p2]) ++ List.replicate (4 - (lg_sl ([.ref (base + 82), .int p1, .int p2])).length) Slot.unset).toArray = ls at hl ⊢
  have hl : lv_has ls 4 [(0, .ref (base + 82)), (1, .int p1), (2, .int p2)] := hl
  obtain ⟨Q, hQ⟩ : ∃ Q, Q = MQ below (gQi D base r u') ([.ref (base + 82), .int p1, .int p2] : List Value).toArray s 0 0 (gF base) := ⟨_, rfl⟩
  rw [← hQ]
  change W p l e (gRm 3 0 0) s m _ below meth c _ _ _ _ _ _
  unfold f_X8_seat at hf
  refine lv_aload_n hx hb dX8_seat_0 rfl (lv_at hl 0 rfl) ?_
  refine lv_iload_n hx hb dX8_seat_1 rfl (lv_at hl 1 rfl) ?_
  obtain ⟨r1, hc1, hf⟩ := pb_s hf
  refine g_doI0 hG (g_runV C0 hG (k_X8_isOne l D base Z u p1 r1 hc1) m_X8_isOne v_X8_isOne w_1098 (by decide) (g_recv C0 hG (L82 hG) rfl) rfl hl.1 rfl (Nat.le_of_ble_eq_true rfl) dX8_seat_2 ⟨Nat.zero_le _, Nat.zero_le _⟩) (fun H locs hG hk => ?_)
  refine lv_if_eq (tgt := 16) hx hb dX8_seat_5 (by decide) (fun c2 => ?_) (fun c2 => ?_)
  · have hf := gif_t c2 hf
    refine lv_iconst (v := (-1 : Int32)) hx hb dX8_seat_16 (by decide) ?_
    obtain ⟨hr1, hu⟩ := gret_s hf
    subst hr1
    subst hu
    subst hQ
    exact g_iret C0 hG hr dX8_seat_17
  · have hf := gif_f c2 hf
    refine lv_aload_n hx hb dX8_seat_8 rfl (lv_at hl 0 rfl) ?_
    refine lv_iload_n hx hb dX8_seat_9 rfl (lv_at hl 2 rfl) ?_
    obtain ⟨r3, hc3, hf⟩ := pb_s hf
    refine g_doI0 hG (g_runV C0 hG (k_X8_isCarriage l D base Z u p2 r3 hc3) m_X8_isCarriage v_X8_isCarriage w_1086 (by decide) (g_recv C0 hG (L82 hG) rfl) rfl hl.1 rfl (Nat.le_of_ble_eq_true rfl) dX8_seat_10 ⟨Nat.zero_le _, Nat.zero_le _⟩) (fun H locs hG hk => ?_)
    refine lv_if_ne (tgt := 18) hx hb dX8_seat_13 (by decide) (fun c4 => ?_) (fun c4 => ?_)
    · have hf := gif_f c4 hf
      refine lv_aload_n hx hb dX8_seat_18 rfl (lv_at hl 0 rfl) ?_
      refine g_getSa (o := 3) (a := 85) C0 hG (L82 hG) rfl 7 (by decide) rfl rfl w_853 dX8_seat_19 ?_
      refine lv_iload_n hx hb dX8_seat_22 rfl (lv_at hl 1 rfl) ?_
      obtain ⟨h5, hf⟩ := gin_s hf
      refine g_iald C0 hG (L85 hG) h5 dX8_seat_23 ?_
      refine lv_istore_n (lv' := [(3, .int (gA u 85 p1.toNatClampNeg)), (0, .ref (base + 82)), (1, .int p1), (2, .int p2)]) hx hb dX8_seat_24 rfl hl (by decide) rfl (fun ls hl => ?_)
      refine lv_aload_n hx hb dX8_seat_25 rfl (lv_at hl 1 rfl) ?_
      refine g_getSa (o := 3) (a := 85) C0 hG (L82 hG) rfl 7 (by decide) rfl rfl w_853 dX8_seat_26 ?_
      refine lv_iload_n hx hb dX8_seat_29 rfl (lv_at hl 2 rfl) ?_
      refine lv_iload_n hx hb dX8_seat_30 rfl (lv_at hl 3 rfl) ?_
      obtain ⟨h6, hf⟩ := gin_s hf
      refine g_iast C0 hG (L85 hG) h6 dX8_seat_31 (fun H locs hG => ?_)
      refine lv_iload_n hx hb dX8_seat_32 rfl (lv_at hl 0 rfl) ?_
      obtain ⟨hr1, hu⟩ := gret_s hf
      subst hr1
      subst hu
      subst hQ
      exact g_iret C0 hG hr dX8_seat_33
    · have hf := gif_t c4 hf
      refine lv_iconst (v := (-1 : Int32)) hx hb dX8_seat_16 (by decide) ?_
      obtain ⟨hr1, hu⟩ := gret_s hf
      subst hr1
      subst hu
      subst hQ
      exact g_iret C0 hG hr dX8_seat_17
theorem dX8_know_0 : decode cX8_know 0 = .ok (.aload_n 0, 1) := by decide +kernel
theorem dX8_know_1 : decode cX8_know 1 = .ok (.iload_n 1, 1) := by decide +kernel
theorem dX8_know_2 : decode cX8_know 2 = .ok (.invokevirtual 260, 3) := by decide +kernel
theorem dX8_know_5 : decode cX8_know 5 = .ok (.ifCond .ne 5, 3) := by decide +kernel
theorem dX8_know_8 : decode cX8_know 8 = .ok (.iconst (-1), 1) := by decide +kernel
theorem dX8_know_9 : decode cX8_know 9 = .ok (.ireturn, 1) := by decide +kernel
theorem dX8_know_10 : decode cX8_know 10 = .ok (.aload_n 0, 1) := by decide +kernel
theorem dX8_know_11 : decode cX8_know 11 = .ok (.iload_n 2, 1) := by decide +kernel
theorem dX8_know_12 : decode cX8_know 12 = .ok (.invokevirtual 257, 3) := by decide +kernel
theorem dX8_know_15 : decode cX8_know 15 = .ok (.ifCond .ne 6, 3) := by decide +kernel
theorem dX8_know_18 : decode cX8_know 18 = .ok (.bipush (-2), 2) := by decide +kernel
theorem dX8_know_20 : decode cX8_know 20 = .ok (.ireturn, 1) := by decide +kernel
theorem dX8_know_21 : decode cX8_know 21 = .ok (.aload_n 0, 1) := by decide +kernel
theorem dX8_know_22 : decode cX8_know 22 = .ok (.getfield 35, 3) := by decide +kernel
theorem dX8_know_25 : decode cX8_know 25 = .ok (.iload_n 1, 1) := by decide +kernel
theorem dX8_know_26 : decode cX8_know 26 = .ok (.iaload, 1) := by decide +kernel
theorem dX8_know_27 : decode cX8_know 27 = .ok (.istore_n 3, 1) := by decide +kernel
theorem dX8_know_28 : decode cX8_know 28 = .ok (.aload_n 0, 1) := by decide +kernel
theorem dX8_know_29 : decode cX8_know 29 = .ok (.getfield 35, 3) := by decide +kernel
theorem dX8_know_32 : decode cX8_know 32 = .ok (.iload_n 1, 1) := by decide +kernel
theorem dX8_know_33 : decode cX8_know 33 = .ok (.iload_n 2, 1) := by decide +kernel
theorem dX8_know_34 : decode cX8_know 34 = .ok (.iastore, 1) := by decide +kernel
theorem dX8_know_35 : decode cX8_know 35 = .ok (.iload_n 3, 1) := by decide +kernel
theorem dX8_know_36 : decode cX8_know 36 = .ok (.ireturn, 1) := by decide +kernel
def f_X8_know (p1 : Int32) (p2 : Int32) (u : Mem) : Option (Int32 × Mem) := Option.bind (f_X8_isOne p1 u) (fun r1 => (if r1 = 0 then some ((-1 : Int32), u) else Option.bind (f_X8_isTales p2) (fun r3 => (if r3 = 0 then some ((-2 : Int32), u) else gin p1 6 (gin p1 6 (some (gA u 86 p1.toNatClampNeg, sA u 86 p1.toNatClampNeg p2)))))))
set_option maxHeartbeats 4000000 in
set_option maxRecDepth 100000 in
theorem k_X8_know (l : Launch) (D : gDt) (base : Nat) (Z : gZt) (u : Mem) (p1 : Int32) (p2 : Int32) (r : Int32) (u' : Mem) (hf : f_X8_know p1 p2 u = some (r, u')) : Met l yX8_know (gws yX8_know cX8_know 4 (some .int)) (gRm 3 0 0) (gPc D base Z u [.ref (base + 82), .int p1, .int p2]) (gQi D base r u') 0 0 (gF base) := by
  refine Met.ofW (cc := cX8_know) (maxL := 4) (ret := some .int) (by decide) rfl ?_
  intro p e s m args below meth c s₁ B hml hv
  obtain ⟨rfl, C0, hG⟩ := g_enter B hml hv
  have hr := B.returns
  have C0 : gC p s m meth c _ cX8_know 4 RX8 D base Z := C0
  have hx := C0.1
  have hb := C0.2.1
  have hl := lv_entry ([.ref (base + 82), .int p1, .int p2]) (n := 4) (Nat.le_of_ble_eq_true rfl)
  rw [lg_entry_eq]
  generalize (lg_sl ([.ref (base + 82), .int p1, .int p2]) ++ List.replicate (4 - (lg_sl ([.ref (base + 82), .int p1, .int p2])).length) Slot.unset).toArray = ls at hl ⊢
  have hl : lv_has ls 4 [(0, .ref (base + 82)), (1, .int p1), (2, .int p2)] := hl
  obtain ⟨Q, hQ⟩ : ∃ Q, Q = MQ below (gQi D base r u') ([.ref (base + 82), .int p1, .int p2] : List Value).toArray s 0 0 (gF base) := ⟨_, rfl⟩
  rw [← hQ]
  change W p l e (gRm 3 0 0) s m _ below meth c _ _ _ _ _ _
  unfold f_X8_know at hf
  refine lv_aload_n hx hb dX8_know_0 rfl (lv_at hl 0 rfl) ?_
  refine lv_iload_n hx hb dX8_know_1 rfl (lv_at hl 1 rfl) ?_
  obtain ⟨r1, hc1, hf⟩ := pb_s hf
  refine g_doI0 hG (g_runV C0 hG (k_X8_isOne l D base Z u p1 r1 hc1) m_X8_isOne v_X8_isOne w_1098 (by decide) (g_recv C0 hG (L82 hG) rfl) rfl hl.1 rfl (Nat.le_of_ble_eq_true rfl) dX8_know_2 ⟨Nat.zero_le _, Nat.zero_le _⟩) (fun H locs hG hk => ?_)
  refine lv_if_ne (tgt := 10) hx hb dX8_know_5 (by decide) (fun c2 => ?_) (fun c2 => ?_)
  · have hf := gif_f c2 hf
    refine lv_aload_n hx hb dX8_know_10 rfl (lv_at hl 0 rfl) ?_
    refine lv_iload_n hx hb dX8_know_11 rfl (lv_at hl 2 rfl) ?_
    obtain ⟨r3, hc3, hf⟩ := pb_s hf
    refine g_doI0 hG (g_runV C0 hG (k_X8_isTales l D base Z u p2 r3 hc3) m_X8_isTales v_X8_isTales w_1090 (by decide) (g_recv C0 hG (L82 hG) rfl) rfl hl.1 rfl (Nat.le_of_ble_eq_true rfl) dX8_know_12 ⟨Nat.zero_le _, Nat.zero_le _⟩) (fun H locs hG hk => ?_)
    refine lv_if_ne (tgt := 21) hx hb dX8_know_15 (by decide) (fun c4 => ?_) (fun c4 => ?_)
    · have hf := gif_f c4 hf
      refine lv_aload_n hx hb dX8_know_21 rfl (lv_at hl 0 rfl) ?_
      refine g_getSa (o := 4) (a := 86) C0 hG (L82 hG) rfl 8 (by decide) rfl rfl w_854 dX8_know_22 ?_
      refine lv_iload_n hx hb dX8_know_25 rfl (lv_at hl 1 rfl) ?_
      obtain ⟨h5, hf⟩ := gin_s hf
      refine g_iald C0 hG (L86 hG) h5 dX8_know_26 ?_
      refine lv_istore_n (lv' := [(3, .int (gA u 86 p1.toNatClampNeg)), (0, .ref (base + 82)), (1, .int p1), (2, .int p2)]) hx hb dX8_know_27 rfl hl (by decide) rfl (fun ls hl => ?_)
      refine lv_aload_n hx hb dX8_know_28 rfl (lv_at hl 1 rfl) ?_
      refine g_getSa (o := 4) (a := 86) C0 hG (L82 hG) rfl 8 (by decide) rfl rfl w_854 dX8_know_29 ?_
      refine lv_iload_n hx hb dX8_know_32 rfl (lv_at hl 2 rfl) ?_
      refine lv_iload_n hx hb dX8_know_33 rfl (lv_at hl 3 rfl) ?_
      obtain ⟨h6, hf⟩ := gin_s hf
      refine g_iast C0 hG (L86 hG) h6 dX8_know_34 (fun H locs hG => ?_)
      refine lv_iload_n hx hb dX8_know_35 rfl (lv_at hl 0 rfl) ?_
      obtain ⟨hr1, hu⟩ := gret_s hf
      subst hr1
      subst hu
      subst hQ
      exact g_iret C0 hG hr dX8_know_36
    · have hf := gif_t c4 hf
      refine lv_bipush (v := (-2 : Int32)) hx hb dX8_know_18 (by decide) ?_
      obtain ⟨hr1, hu⟩ := gret_s hf
      subst hr1
      subst hu
      subst hQ
      exact g_iret C0 hG hr dX8_know_20
  · have hf := gif_t c2 hf
    refine lv_iconst (v := (-1 : Int32)) hx hb dX8_know_8 (by decide) ?_
    obtain ⟨hr1, hu⟩ := gret_s hf
    subst hr1
    subst hu
    subst hQ
    exact g_iret C0 hG hr dX8_know_9
theorem dX8_goes_0 : decode cX8_goes 0 = .ok (.aload_n 0, 1) := by decide +kernel
theorem dX8_goes_1 : decode cX8_goes 1 = .ok (.iload_n 2, 1) := by decide +kernel
theorem dX8_goes_2 : decode cX8_goes 2 = .ok (.ifCond .eq 14, 3) := by decide +kernel
theorem dX8_goes_5 : decode cX8_goes 5 = .ok (.aload_n 0, 1) := by decide +kernel
theorem dX8_goes_6 : decode cX8_goes 6 = .ok (.getfield 13, 3) := by decide +kernel
theorem dX8_goes_9 : decode cX8_goes 9 = .ok (.iconst 1, 1) := by decide +kernel
theorem dX8_goes_10 : decode cX8_goes 10 = .ok (.iload_n 1, 1) := by decide +kernel
theorem dX8_goes_11 : decode cX8_goes 11 = .ok (.ishl, 1) := by decide +kernel
theorem dX8_goes_12 : decode cX8_goes 12 = .ok (.ior, 1) := by decide +kernel
theorem dX8_goes_13 : decode cX8_goes 13 = .ok (.goto 13, 3) := by decide +kernel
theorem dX8_goes_16 : decode cX8_goes 16 = .ok (.aload_n 0, 1) := by decide +kernel
theorem dX8_goes_17 : decode cX8_goes 17 = .ok (.getfield 13, 3) := by decide +kernel
theorem dX8_goes_20 : decode cX8_goes 20 = .ok (.iconst 1, 1) := by decide +kernel
theorem dX8_goes_21 : decode cX8_goes 21 = .ok (.iload_n 1, 1) := by decide +kernel
theorem dX8_goes_22 : decode cX8_goes 22 = .ok (.ishl, 1) := by decide +kernel
theorem dX8_goes_23 : decode cX8_goes 23 = .ok (.iconst (-1), 1) := by decide +kernel
theorem dX8_goes_24 : decode cX8_goes 24 = .ok (.ixor, 1) := by decide +kernel
theorem dX8_goes_25 : decode cX8_goes 25 = .ok (.iand, 1) := by decide +kernel
theorem dX8_goes_26 : decode cX8_goes 26 = .ok (.putfield 13, 3) := by decide +kernel
theorem dX8_goes_29 : decode cX8_goes 29 = .ok (.return_, 1) := by decide +kernel
def f_X8_goes (p1 : Int32) (p2 : Int32) (u : Mem) : Option (Unit × Mem) := (if p2 = 0 then some ((), sI u 82 1 ((gI u 82 1) &&& (((1 : Int32) <<< (p1 &&& 31)) ^^^ (-1 : Int32)))) else some ((), sI u 82 1 ((gI u 82 1) ||| ((1 : Int32) <<< (p1 &&& 31)))))
set_option maxHeartbeats 4000000 in
set_option maxRecDepth 100000 in
theorem k_X8_goes (l : Launch) (D : gDt) (base : Nat) (Z : gZt) (u : Mem) (p1 : Int32) (p2 : Int32) (u' : Mem) (hf : f_X8_goes p1 p2 u = some ((), u')) : Met l yX8_goes (gws yX8_goes cX8_goes 3 (none)) (gRm 1 0 0) (gPc D base Z u [.ref (base + 82), .int p1, .int p2]) (gQv D base u') 0 0 (gF base) := by
  refine Met.ofW (cc := cX8_goes) (maxL := 3) (ret := none) (by decide) rfl ?_
  intro p e s m args below meth c s₁ B hml hv
  obtain ⟨rfl, C0, hG⟩ := g_enter B hml hv
  have hr := B.returns
  have C0 : gC p s m meth c _ cX8_goes 3 RX8 D base Z := C0
  have hx := C0.1
  have hb := C0.2.1
  have hl := lv_entry ([.ref (base + 82), .int p1, .int p2]) (n := 3) (Nat.le_of_ble_eq_true rfl)
  rw [lg_entry_eq]
  generalize (lg_sl ([.ref (base + 82), .int p1, .int p2]) ++ List.replicate (3 - (lg_sl ([.ref (base + 82), .int p1, .int p2])).length) Slot.unset).toArray = ls at hl ⊢
  have hl : lv_has ls 3 [(0, .ref (base + 82)), (1, .int p1), (2, .int p2)] := hl
  obtain ⟨Q, hQ⟩ : ∃ Q, Q = MQ below (gQv D base u') ([.ref (base + 82), .int p1, .int p2] : List Value).toArray s 0 0 (gF base) := ⟨_, rfl⟩
  rw [← hQ]
  change W p l e (gRm 1 0 0) s m _ below meth c _ _ _ _ _ _
  unfold f_X8_goes at hf
  refine lv_aload_n hx hb dX8_goes_0 rfl (lv_at hl 0 rfl) ?_
  refine lv_iload_n hx hb dX8_goes_1 rfl (lv_at hl 2 rfl) ?_
  refine lv_if_eq (tgt := 16) hx hb dX8_goes_2 (by decide) (fun c1 => ?_) (fun c1 => ?_)
  · have hf := gif_t c1 hf
    refine lv_aload_n hx hb dX8_goes_16 rfl (lv_at hl 0 rfl) ?_
    refine g_getI C0 hG (L82 hG) rfl 1 (by decide) rfl w_847 dX8_goes_17 ?_
    refine lv_iconst (v := (1 : Int32)) hx hb dX8_goes_20 (by decide) ?_
    refine lv_iload_n hx hb dX8_goes_21 rfl (lv_at hl 1 rfl) ?_
    refine lv_ishl hx hb dX8_goes_22 ?_
    refine lv_iconst (v := (-1 : Int32)) hx hb dX8_goes_23 (by decide) ?_
    refine lv_ixor hx hb dX8_goes_24 ?_
    refine lv_iand hx hb dX8_goes_25 ?_
    refine g_putI (ty := .int) C0 hG (L82 hG) rfl 1 (by decide) rfl w_847 rfl (by decide) rfl rfl dX8_goes_26 (fun H locs hG => ?_)
    obtain ⟨-, hu⟩ := gret_s hf
    subst hu
    subst hQ
    exact g_vret C0 hG hr dX8_goes_29
  · have hf := gif_f c1 hf
    refine lv_aload_n hx hb dX8_goes_5 rfl (lv_at hl 0 rfl) ?_
    refine g_getI C0 hG (L82 hG) rfl 1 (by decide) rfl w_847 dX8_goes_6 ?_
    refine lv_iconst (v := (1 : Int32)) hx hb dX8_goes_9 (by decide) ?_
    refine lv_iload_n hx hb dX8_goes_10 rfl (lv_at hl 1 rfl) ?_
    refine lv_ishl hx hb dX8_goes_11 ?_
    refine lv_ior hx hb dX8_goes_12 ?_
    refine lv_goto (tgt := 26) hx hb dX8_goes_13 (by decide) ?_
    refine g_putI (ty := .int) C0 hG (L82 hG) rfl 1 (by decide) rfl w_847 rfl (by decide) rfl rfl dX8_goes_26 (fun H locs hG => ?_)
    obtain ⟨-, hu⟩ := gret_s hf
    subst hu
    subst hQ
    exact g_vret C0 hG hr dX8_goes_29
theorem dX8_leave_0 : decode cX8_leave 0 = .ok (.aload_n 0, 1) := by decide +kernel
theorem dX8_leave_1 : decode cX8_leave 1 = .ok (.iload_n 1, 1) := by decide +kernel
theorem dX8_leave_2 : decode cX8_leave 2 = .ok (.invokevirtual 260, 3) := by decide +kernel
theorem dX8_leave_5 : decode cX8_leave 5 = .ok (.ifCond .ne 5, 3) := by decide +kernel
theorem dX8_leave_8 : decode cX8_leave 8 = .ok (.iconst (-1), 1) := by decide +kernel
theorem dX8_leave_9 : decode cX8_leave 9 = .ok (.ireturn, 1) := by decide +kernel
theorem dX8_leave_10 : decode cX8_leave 10 = .ok (.aload_n 0, 1) := by decide +kernel
theorem dX8_leave_11 : decode cX8_leave 11 = .ok (.aload_n 0, 1) := by decide +kernel
theorem dX8_leave_12 : decode cX8_leave 12 = .ok (.getfield 13, 3) := by decide +kernel
theorem dX8_leave_15 : decode cX8_leave 15 = .ok (.iload_n 1, 1) := by decide +kernel
theorem dX8_leave_16 : decode cX8_leave 16 = .ok (.invokevirtual 245, 3) := by decide +kernel
theorem dX8_leave_19 : decode cX8_leave 19 = .ok (.ifCond .eq 7, 3) := by decide +kernel
theorem dX8_leave_22 : decode cX8_leave 22 = .ok (.iconst 1, 1) := by decide +kernel
theorem dX8_leave_23 : decode cX8_leave 23 = .ok (.goto 4, 3) := by decide +kernel
theorem dX8_leave_26 : decode cX8_leave 26 = .ok (.iconst 0, 1) := by decide +kernel
theorem dX8_leave_27 : decode cX8_leave 27 = .ok (.istore_n 3, 1) := by decide +kernel
theorem dX8_leave_28 : decode cX8_leave 28 = .ok (.aload_n 0, 1) := by decide +kernel
theorem dX8_leave_29 : decode cX8_leave 29 = .ok (.iload_n 1, 1) := by decide +kernel
theorem dX8_leave_30 : decode cX8_leave 30 = .ok (.iload_n 2, 1) := by decide +kernel
theorem dX8_leave_31 : decode cX8_leave 31 = .ok (.invokevirtual 263, 3) := by decide +kernel
theorem dX8_leave_34 : decode cX8_leave 34 = .ok (.iload_n 3, 1) := by decide +kernel
theorem dX8_leave_35 : decode cX8_leave 35 = .ok (.ireturn, 1) := by decide +kernel
def f_X8_leave (p1 : Int32) (p2 : Int32) (u : Mem) : Option (Int32 × Mem) := Option.bind (f_X8_isOne p1 u) (fun r1 => (if r1 = 0 then some ((-1 : Int32), u) else Option.bind (f_X8_has (gI u 82 1) p1) (fun r3 => (if r3 = 0 then obind (f_X8_goes p1 p2 u) (fun _ u5 => some ((0 : Int32), u5)) else obind (f_X8_goes p1 p2 u) (fun _ u6 => some ((1 : Int32), u6))))))
set_option maxHeartbeats 4000000 in
set_option maxRecDepth 100000 in
theorem k_X8_leave (l : Launch) (D : gDt) (base : Nat) (Z : gZt) (u : Mem) (p1 : Int32) (p2 : Int32) (r : Int32) (u' : Mem) (hf : f_X8_leave p1 p2 u = some (r, u')) : Met l yX8_leave (gws yX8_leave cX8_leave 4 (some .int)) (gRm 3 0 0) (gPc D base Z u [.ref (base + 82), .int p1, .int p2]) (gQi D base r u') 0 0 (gF base) := by
  refine Met.ofW (cc := cX8_leave) (maxL := 4) (ret := some .int) (by decide) rfl ?_
  intro p e s m args below meth c s₁ B hml hv
  obtain ⟨rfl, C0, hG⟩ := g_enter B hml hv
  have hr := B.returns
  have C0 : gC p s m meth c _ cX8_leave 4 RX8 D base Z := C0
  have hx := C0.1
  have hb := C0.2.1
  have hl := lv_entry ([.ref (base + 82), .int p1, .int p2]) (n := 4) (Nat.le_of_ble_eq_true rfl)
  rw [lg_entry_eq]
  generalize (lg_sl ([.ref (base + 82), .int p1, .int p2]) ++ List.replicate (4 - (lg_sl ([.ref (base + 82), .int p1, .int p2])).length) Slot.unset).toArray = ls at hl ⊢
  have hl : lv_has ls 4 [(0, .ref (base + 82)), (1, .int p1), (2, .int p2)] := hl
  obtain ⟨Q, hQ⟩ : ∃ Q, Q = MQ below (gQi D base r u') ([.ref (base + 82), .int p1, .int p2] : List Value).toArray s 0 0 (gF base) := ⟨_, rfl⟩
  rw [← hQ]
  change W p l e (gRm 3 0 0) s m _ below meth c _ _ _ _ _ _
  unfold f_X8_leave at hf
  refine lv_aload_n hx hb dX8_leave_0 rfl (lv_at hl 0 rfl) ?_
  refine lv_iload_n hx hb dX8_leave_1 rfl (lv_at hl 1 rfl) ?_
  obtain ⟨r1, hc1, hf⟩ := pb_s hf
  refine g_doI0 hG (g_runV C0 hG (k_X8_isOne l D base Z u p1 r1 hc1) m_X8_isOne v_X8_isOne w_1098 (by decide) (g_recv C0 hG (L82 hG) rfl) rfl hl.1 rfl (Nat.le_of_ble_eq_true rfl) dX8_leave_2 ⟨Nat.zero_le _, Nat.zero_le _⟩) (fun H locs hG hk => ?_)
  refine lv_if_ne (tgt := 10) hx hb dX8_leave_5 (by decide) (fun c2 => ?_) (fun c2 => ?_)
  · have hf := gif_f c2 hf
    refine lv_aload_n hx hb dX8_leave_10 rfl (lv_at hl 0 rfl) ?_
    refine lv_aload_n hx hb dX8_leave_11 rfl (lv_at hl 0 rfl) ?_
    refine g_getI C0 hG (L82 hG) rfl 1 (by decide) rfl w_847 dX8_leave_12 ?_
    refine lv_iload_n hx hb dX8_leave_15 rfl (lv_at hl 1 rfl) ?_
    obtain ⟨r3, hc3, hf⟩ := pb_s hf
    refine g_doI0 hG (g_runV C0 hG (k_X8_has l D base Z u (gI u 82 1) p1 r3 hc3) m_X8_has v_X8_has w_1110 (by decide) (g_recv C0 hG (L82 hG) rfl) rfl hl.1 rfl (Nat.le_of_ble_eq_true rfl) dX8_leave_16 ⟨Nat.zero_le _, Nat.zero_le _⟩) (fun H locs hG hk => ?_)
    refine lv_if_eq (tgt := 26) hx hb dX8_leave_19 (by decide) (fun c4 => ?_) (fun c4 => ?_)
    · have hf := gif_t c4 hf
      refine lv_iconst (v := (0 : Int32)) hx hb dX8_leave_26 (by decide) ?_
      refine lv_istore_n (lv' := [(3, .int (0 : Int32)), (0, .ref (base + 82)), (1, .int p1), (2, .int p2)]) hx hb dX8_leave_27 rfl hl (by decide) rfl (fun ls hl => ?_)
      refine lv_aload_n hx hb dX8_leave_28 rfl (lv_at hl 1 rfl) ?_
      refine lv_iload_n hx hb dX8_leave_29 rfl (lv_at hl 2 rfl) ?_
      refine lv_iload_n hx hb dX8_leave_30 rfl (lv_at hl 3 rfl) ?_
      obtain ⟨_, u5, hc5, hf⟩ := obind_s hf
      refine g_doV0 hG (g_runV C0 hG (k_X8_goes l D base Z u p1 p2 u5 hc5) m_X8_goes v_X8_goes w_1114 (by decide) (g_recv C0 hG (L82 hG) rfl) rfl hl.1 rfl (Nat.le_of_ble_eq_true rfl) dX8_leave_31 ⟨Nat.zero_le _, Nat.zero_le _⟩) (fun H locs hG hk => ?_)
      refine lv_iload_n hx hb dX8_leave_34 rfl (lv_at hl 0 rfl) ?_
      obtain ⟨hr1, hu⟩ := gret_s hf
      subst hr1
      subst hu
      subst hQ
      exact g_iret C0 hG hr dX8_leave_35
    · have hf := gif_f c4 hf
      refine lv_iconst (v := (1 : Int32)) hx hb dX8_leave_22 (by decide) ?_
      refine lv_goto (tgt := 27) hx hb dX8_leave_23 (by decide) ?_
      refine lv_istore_n (lv' := [(3, .int (1 : Int32)), (0, .ref (base + 82)), (1, .int p1), (2, .int p2)]) hx hb dX8_leave_27 rfl hl (by decide) rfl (fun ls hl => ?_)
      refine lv_aload_n hx hb dX8_leave_28 rfl (lv_at hl 1 rfl) ?_
      refine lv_iload_n hx hb dX8_leave_29 rfl (lv_at hl 2 rfl) ?_
      refine lv_iload_n hx hb dX8_leave_30 rfl (lv_at hl 3 rfl) ?_
      obtain ⟨_, u6, hc6, hf⟩ := obind_s hf
      refine g_doV0 hG (g_runV C0 hG (k_X8_goes l D base Z u p1 p2 u6 hc6) m_X8_goes v_X8_goes w_1114 (by decide) (g_recv C0 hG (L82 hG) rfl) rfl hl.1 rfl (Nat.le_of_ble_eq_true rfl) dX8_leave_31 ⟨Nat.zero_le _, Nat.zero_le _⟩) (fun H locs hG hk => ?_)
      refine lv_iload_n hx hb dX8_leave_34 rfl (lv_at hl 0 rfl) ?_
      obtain ⟨hr1, hu⟩ := gret_s hf
      subst hr1
      subst hu
      subst hQ
      exact g_iret C0 hG hr dX8_leave_35
  · have hf := gif_t c2 hf
    refine lv_iconst (v := (-1 : Int32)) hx hb dX8_leave_8 (by decide) ?_
    obtain ⟨hr1, hu⟩ := gret_s hf
    subst hr1
    subst hu
    subst hQ
    exact g_iret C0 hG hr dX8_leave_9
theorem dX8_set_0 : decode cX8_set 0 = .ok (.aload_n 0, 1) := by decide +kernel
theorem dX8_set_1 : decode cX8_set 1 = .ok (.iload_n 1, 1) := by decide +kernel
theorem dX8_set_2 : decode cX8_set 2 = .ok (.invokevirtual 267, 3) := by decide +kernel
theorem dX8_set_5 : decode cX8_set 5 = .ok (.ifCond .eq 13, 3) := by decide +kernel
theorem dX8_set_8 : decode cX8_set 8 = .ok (.aload_n 0, 1) := by decide +kernel
theorem dX8_set_9 : decode cX8_set 9 = .ok (.iload_n 2, 1) := by decide +kernel
theorem dX8_set_10 : decode cX8_set 10 = .ok (.iconst 0, 1) := by decide +kernel
theorem dX8_set_11 : decode cX8_set 11 = .ok (.iconst 1, 1) := by decide +kernel
theorem dX8_set_12 : decode cX8_set 12 = .ok (.invokevirtual 249, 3) := by decide +kernel
theorem dX8_set_15 : decode cX8_set 15 = .ok (.ifCond .ne 5, 3) := by decide +kernel
theorem dX8_set_18 : decode cX8_set 18 = .ok (.iconst (-1), 1) := by decide +kernel
theorem dX8_set_19 : decode cX8_set 19 = .ok (.ireturn, 1) := by decide +kernel
theorem dX8_set_20 : decode cX8_set 20 = .ok (.aload_n 0, 1) := by decide +kernel
theorem dX8_set_21 : decode cX8_set 21 = .ok (.iload_n 3, 1) := by decide +kernel
theorem dX8_set_22 : decode cX8_set 22 = .ok (.iconst 0, 1) := by decide +kernel
theorem dX8_set_23 : decode cX8_set 23 = .ok (.iload_n 2, 1) := by decide +kernel
theorem dX8_set_24 : decode cX8_set 24 = .ok (.ifCond .ne 8, 3) := by decide +kernel
theorem dX8_set_27 : decode cX8_set 27 = .ok (.bipush 9, 2) := by decide +kernel
theorem dX8_set_29 : decode cX8_set 29 = .ok (.goto 5, 3) := by decide +kernel
theorem dX8_set_32 : decode cX8_set 32 = .ok (.bipush 99, 2) := by decide +kernel
theorem dX8_set_34 : decode cX8_set 34 = .ok (.invokevirtual 249, 3) := by decide +kernel
theorem dX8_set_37 : decode cX8_set 37 = .ok (.ifCond .ne 6, 3) := by decide +kernel
theorem dX8_set_40 : decode cX8_set 40 = .ok (.bipush (-2), 2) := by decide +kernel
theorem dX8_set_42 : decode cX8_set 42 = .ok (.ireturn, 1) := by decide +kernel
theorem dX8_set_43 : decode cX8_set 43 = .ok (.iload_n 2, 1) := by decide +kernel
theorem dX8_set_44 : decode cX8_set 44 = .ok (.ifCond .ne 12, 3) := by decide +kernel
theorem dX8_set_47 : decode cX8_set 47 = .ok (.aload_n 0, 1) := by decide +kernel
theorem dX8_set_48 : decode cX8_set 48 = .ok (.getfield 44, 3) := by decide +kernel
theorem dX8_set_51 : decode cX8_set 51 = .ok (.iload_n 1, 1) := by decide +kernel
theorem dX8_set_52 : decode cX8_set 52 = .ok (.iaload, 1) := by decide +kernel
theorem dX8_set_53 : decode cX8_set 53 = .ok (.goto 9, 3) := by decide +kernel
theorem dX8_set_56 : decode cX8_set 56 = .ok (.aload_n 0, 1) := by decide +kernel
theorem dX8_set_57 : decode cX8_set 57 = .ok (.getfield 41, 3) := by decide +kernel
theorem dX8_set_60 : decode cX8_set 60 = .ok (.iload_n 1, 1) := by decide +kernel
theorem dX8_set_61 : decode cX8_set 61 = .ok (.iaload, 1) := by decide +kernel
theorem dX8_set_62 : decode cX8_set 62 = .ok (.istore 4, 2) := by decide +kernel
theorem dX8_set_64 : decode cX8_set 64 = .ok (.iload_n 2, 1) := by decide +kernel
theorem dX8_set_65 : decode cX8_set 65 = .ok (.ifCond .ne 13, 3) := by decide +kernel
theorem dX8_set_68 : decode cX8_set 68 = .ok (.aload_n 0, 1) := by decide +kernel
theorem dX8_set_69 : decode cX8_set 69 = .ok (.getfield 44, 3) := by decide +kernel
theorem dX8_set_72 : decode cX8_set 72 = .ok (.iload_n 1, 1) := by decide +kernel
theorem dX8_set_73 : decode cX8_set 73 = .ok (.iload_n 3, 1) := by decide +kernel
theorem dX8_set_74 : decode cX8_set 74 = .ok (.iastore, 1) := by decide +kernel
theorem dX8_set_75 : decode cX8_set 75 = .ok (.goto 10, 3) := by decide +kernel
theorem dX8_set_78 : decode cX8_set 78 = .ok (.aload_n 0, 1) := by decide +kernel
theorem dX8_set_79 : decode cX8_set 79 = .ok (.getfield 41, 3) := by decide +kernel
theorem dX8_set_82 : decode cX8_set 82 = .ok (.iload_n 1, 1) := by decide +kernel
theorem dX8_set_83 : decode cX8_set 83 = .ok (.iload_n 3, 1) := by decide +kernel
theorem dX8_set_84 : decode cX8_set 84 = .ok (.iastore, 1) := by decide +kernel
theorem dX8_set_85 : decode cX8_set 85 = .ok (.iload 4, 2) := by decide +kernel
theorem dX8_set_87 : decode cX8_set 87 = .ok (.ireturn, 1) := by decide +kernel
def f_X8_set (p1 : Int32) (p2 : Int32) (p3 : Int32) (u : Mem) : Option (Int32 × Mem) := Option.bind (f_X8_isTale p1) (fun r1 => (if r1 = 0 then some ((-1 : Int32), u) else Option.bind (f_X8_in p2 (0 : Int32) (1 : Int32)) (fun r3 => (if r3 = 0 then some ((-1 : Int32), u) else (if p2 = 0 then Option.bind (f_X8_in p3 (0 : Int32) (9 : Int32)) (fun r10 => (if r10 = 0 then some ((-2 : Int32), u) else gin p1 8 (gin p1 8 (some (gA u 89 p1.toNatClampNeg, sA u 89 p1.toNatClampNeg p3))))) else Option.bind (f_X8_in p3 (0 : Int32) (99 : Int32)) (fun r6 => (if r6 = 0 then some ((-2 : Int32), u) else gin p1 8 (gin p1 8 (some (gA u 88 p1.toNatClampNeg, sA u 88 p1.toNatClampNeg p3))))))))))
set_option maxHeartbeats 4000000 in
set_option maxRecDepth 100000 in
theorem k_X8_set (l : Launch) (D : gDt) (base : Nat) (Z : gZt) (u : Mem) (p1 : Int32) (p2 : Int32) (p3 : Int32) (r : Int32) (u' : Mem) (hf : f_X8_set p1 p2 p3 u = some (r, u')) : Met l yX8_set (gws yX8_set cX8_set 5 (some .int)) (gRm 3 0 0) (gPc D base Z u [.ref (base + 82), .int p1, .int p2, .int p3]) (gQi D base r u') 0 0 (gF base) := by
  refine Met.ofW (cc := cX8_set) (maxL := 5) (ret := some .int) (by decide) rfl ?_
  intro p e s m args below meth c s₁ B hml hv
  obtain ⟨rfl, C0, hG⟩ := g_enter B hml hv
  have hr := B.returns
  have C0 : gC p s m meth c _ cX8_set 5 RX8 D base Z := C0
  have hx := C0.1
  have hb := C0.2.1
  have hl := lv_entry ([.ref (base + 82), .int p1, .int p2, .int p3]) (n := 5) (Nat.le_of_ble_eq_true rfl)
  rw [lg_entry_eq]
  generalize (lg_sl ([.ref (base + 82), .int p1, .int p2, .int p3]) ++ List.replicate (5 - (lg_sl ([.ref (base + 82), .int p1, .int p2, .int p3])).length) Slot.unset).toArray = ls at hl ⊢
  have hl : lv_has ls 5 [(0, .ref (base + 82)), (1, .int p1), (2, .int p2), (3, .int p3)] := hl
  obtain ⟨Q, hQ⟩ : ∃ Q, Q = MQ below (gQi D base r u') ([.ref (base + 82), .int p1, .int p2, .int p3] : List Value).toArray s 0 0 (gF base) := ⟨_, rfl⟩
  rw [← hQ]
  change W p l e (gRm 3 0 0) s m _ below meth c _ _ _ _ _ _
  unfold f_X8_set at hf
  refine lv_aload_n hx hb dX8_set_0 rfl (lv_at hl 0 rfl) ?_
  refine lv_iload_n hx hb dX8_set_1 rfl (lv_at hl 1 rfl) ?_
  obtain ⟨r1, hc1, hf⟩ := pb_s hf
  refine g_doI0 hG (g_runV C0 hG (k_X8_isTale l D base Z u p1 r1 hc1) m_X8_isTale v_X8_isTale w_1122 (by decide) (g_recv C0 hG (L82 hG) rfl) rfl hl.1 rfl (Nat.le_of_ble_eq_true rfl) dX8_set_2 ⟨Nat.zero_le _, Nat.zero_le _⟩) (fun H locs hG hk => ?_)
  refine lv_if_eq (tgt := 18) hx hb dX8_set_5 (by decide) (fun c2 => ?_) (fun c2 => ?_)
  · have hf := gif_t c2 hf
    refine lv_iconst (v := (-1 : Int32)) hx hb dX8_set_18 (by decide) ?_
    obtain ⟨hr1, hu⟩ := gret_s hf
    subst hr1
    subst hu
    subst hQ
    exact g_iret C0 hG hr dX8_set_19
  · have hf := gif_f c2 hf
    refine lv_aload_n hx hb dX8_set_8 rfl (lv_at hl 0 rfl) ?_
    refine lv_iload_n hx hb dX8_set_9 rfl (lv_at hl 2 rfl) ?_
    refine lv_iconst (v := (0 : Int32)) hx hb dX8_set_10 (by decide) ?_
    refine lv_iconst (v := (1 : Int32)) hx hb dX8_set_11 (by decide) ?_
    obtain ⟨r3, hc3, hf⟩ := pb_s hf
    refine g_doI0 hG (g_runV C0 hG (k_X8_in l D base Z u p2 (0 : Int32) (1 : Int32) r3 hc3) m_X8_in v_X8_in w_1082 (by decide) (g_recv C0 hG (L82 hG) rfl) rfl hl.1 rfl (Nat.le_of_ble_eq_true rfl) dX8_set_12 ⟨Nat.zero_le _, Nat.zero_le _⟩) (fun H locs hG hk => ?_)
    refine lv_if_ne (tgt := 20) hx hb dX8_set_15 (by decide) (fun c4 => ?_) (fun c4 => ?_)
    · have hf := gif_f c4 hf
      refine lv_aload_n hx hb dX8_set_20 rfl (lv_at hl 0 rfl) ?_
      refine lv_iload_n hx hb dX8_set_21 rfl (lv_at hl 3 rfl) ?_
      refine lv_iconst (v := (0 : Int32)) hx hb dX8_set_22 (by decide) ?_
      refine lv_iload_n hx hb dX8_set_23 rfl (lv_at hl 2 rfl) ?_
      refine lv_if_ne (tgt := 32) hx hb dX8_set_24 (by decide) (fun c5 => ?_) (fun c5 => ?_)
      · have hf := gif_f c5 hf
        refine lv_bipush (v := (99 : Int32)) hx hb dX8_set_32 (by decide) ?_
        obtain ⟨r6, hc6, hf⟩ := pb_s hf
        refine g_doI0 hG (g_runV C0 hG (k_X8_in l D base Z u p3 (0 : Int32) (99 : Int32) r6 hc6) m_X8_in v_X8_in w_1082 (by decide) (g_recv C0 hG (L82 hG) rfl) rfl hl.1 rfl (Nat.le_of_ble_eq_true rfl) dX8_set_34 ⟨Nat.zero_le _, Nat.zero_le _⟩) (fun H locs hG hk => ?_)
        refine lv_if_ne (tgt := 43) hx hb dX8_set_37 (by decide) (fun c7 => ?_) (fun c7 => ?_)
        · have hf := gif_f c7 hf
          refine lv_iload_n hx hb dX8_set_43 rfl (lv_at hl 2 rfl) ?_
          refine lv_if_ne (tgt := 56) hx hb dX8_set_44 (by decide) (fun _ => ?_) (fun c => absurd c c5)
          refine lv_aload_n hx hb dX8_set_56 rfl (lv_at hl 0 rfl) ?_
          refine g_getSa (o := 6) (a := 88) C0 hG (L82 hG) rfl 10 (by decide) rfl rfl w_856 dX8_set_57 ?_
          refine lv_iload_n hx hb dX8_set_60 rfl (lv_at hl 1 rfl) ?_
          obtain ⟨h8, hf⟩ := gin_s hf
          refine g_iald C0 hG (L88 hG) h8 dX8_set_61 ?_
          refine lv_istore (lv' := [(4, .int (gA u 88 p1.toNatClampNeg)), (0, .ref (base + 82)), (1, .int p1), (2, .int p2), (3, .int p3)]) hx hb dX8_set_62 hl (by decide) rfl (fun ls hl => ?_)
          refine lv_iload_n hx hb dX8_set_64 rfl (lv_at hl 3 rfl) ?_
          refine lv_if_ne (tgt := 78) hx hb dX8_set_65 (by decide) (fun _ => ?_) (fun c => absurd c c5)
          refine lv_aload_n hx hb dX8_set_78 rfl (lv_at hl 1 rfl) ?_
          refine g_getSa (o := 6) (a := 88) C0 hG (L82 hG) rfl 10 (by decide) rfl rfl w_856 dX8_set_79 ?_
          refine lv_iload_n hx hb dX8_set_82 rfl (lv_at hl 2 rfl) ?_
          refine lv_iload_n hx hb dX8_set_83 rfl (lv_at hl 4 rfl) ?_
          obtain ⟨h9, hf⟩ := gin_s hf
          refine g_iast C0 hG (L88 hG) h9 dX8_set_84 (fun H locs hG => ?_)
          refine lv_iload hx hb dX8_set_85 (lv_at hl 0 rfl) ?_
          obtain ⟨hr1, hu⟩ := gret_s hf
          subst hr1
          subst hu
          subst hQ
          exact g_iret C0 hG hr dX8_set_87
        · have hf := gif_t c7 hf
          refine lv_bipush (v := (-2 : Int32)) hx hb dX8_set_40 (by decide) ?_
          obtain ⟨hr1, hu⟩ := gret_s hf
          subst hr1
          subst hu
          subst hQ
          exact g_iret C0 hG hr dX8_set_42
      · have hf := gif_t c5 hf
        refine lv_bipush (v := (9 : Int32)) hx hb dX8_set_27 (by decide) ?_
        refine lv_goto (tgt := 34) hx hb dX8_set_29 (by decide) ?_
        obtain ⟨r10, hc10, hf⟩ := pb_s hf
        refine g_doI0 hG (g_runV C0 hG (k_X8_in l D base Z u p3 (0 : Int32) (9 : Int32) r10 hc10) m_X8_in v_X8_in w_1082 (by decide) (g_recv C0 hG (L82 hG) rfl) rfl hl.1 rfl (Nat.le_of_ble_eq_true rfl) dX8_set_34 ⟨Nat.zero_le _, Nat.zero_le _⟩) (fun H locs hG hk => ?_)
        refine lv_if_ne (tgt := 43) hx hb dX8_set_37 (by decide) (fun c11 => ?_) (fun c11 => ?_)
        · have hf := gif_f c11 hf
          refine lv_iload_n hx hb dX8_set_43 rfl (lv_at hl 2 rfl) ?_
          refine lv_if_ne (tgt := 56) hx hb dX8_set_44 (by decide) (fun c => absurd c5 c) (fun _ => ?_)
          refine lv_aload_n hx hb dX8_set_47 rfl (lv_at hl 0 rfl) ?_
          refine g_getSa (o := 7) (a := 89) C0 hG (L82 hG) rfl 11 (by decide) rfl rfl w_857 dX8_set_48 ?_
          refine lv_iload_n hx hb dX8_set_51 rfl (lv_at hl 1 rfl) ?_
          obtain ⟨h12, hf⟩ := gin_s hf
          refine g_iald C0 hG (L89 hG) h12 dX8_set_52 ?_
          refine lv_goto (tgt := 62) hx hb dX8_set_53 (by decide) ?_
          refine lv_istore (lv' := [(4, .int (gA u 89 p1.toNatClampNeg)), (0, .ref (base + 82)), (1, .int p1), (2, .int p2), (3, .int p3)]) hx hb dX8_set_62 hl (by decide) rfl (fun ls hl => ?_)
          refine lv_iload_n hx hb dX8_set_64 rfl (lv_at hl 3 rfl) ?_
          refine lv_if_ne (tgt := 78) hx hb dX8_set_65 (by decide) (fun c => absurd c5 c) (fun _ => ?_)
          refine lv_aload_n hx hb dX8_set_68 rfl (lv_at hl 1 rfl) ?_
          refine g_getSa (o := 7) (a := 89) C0 hG (L82 hG) rfl 11 (by decide) rfl rfl w_857 dX8_set_69 ?_
          refine lv_iload_n hx hb dX8_set_72 rfl (lv_at hl 2 rfl) ?_
          refine lv_iload_n hx hb dX8_set_73 rfl (lv_at hl 4 rfl) ?_
          obtain ⟨h13, hf⟩ := gin_s hf
          refine g_iast C0 hG (L89 hG) h13 dX8_set_74 (fun H locs hG => ?_)
          refine lv_goto (tgt := 85) hx hb dX8_set_75 (by decide) ?_
          refine lv_iload hx hb dX8_set_85 (lv_at hl 0 rfl) ?_
          obtain ⟨hr1, hu⟩ := gret_s hf
          subst hr1
          subst hu
          subst hQ
          exact g_iret C0 hG hr dX8_set_87
        · have hf := gif_t c11 hf
          refine lv_bipush (v := (-2 : Int32)) hx hb dX8_set_40 (by decide) ?_
          obtain ⟨hr1, hu⟩ := gret_s hf
          subst hr1
          subst hu
          subst hQ
          exact g_iret C0 hG hr dX8_set_42
    · have hf := gif_t c4 hf
      refine lv_iconst (v := (-1 : Int32)) hx hb dX8_set_18 (by decide) ?_
      obtain ⟨hr1, hu⟩ := gret_s hf
      subst hr1
      subst hu
      subst hQ
      exact g_iret C0 hG hr dX8_set_19
theorem dX8_row_0 : decode cX8_row 0 = .ok (.aload_n 0, 1) := by decide +kernel
theorem dX8_row_1 : decode cX8_row 1 = .ok (.iload_n 1, 1) := by decide +kernel
theorem dX8_row_2 : decode cX8_row 2 = .ok (.invokevirtual 260, 3) := by decide +kernel
theorem dX8_row_5 : decode cX8_row 5 = .ok (.ifCond .eq 13, 3) := by decide +kernel
theorem dX8_row_8 : decode cX8_row 8 = .ok (.aload_n 0, 1) := by decide +kernel
theorem dX8_row_9 : decode cX8_row 9 = .ok (.iload_n 2, 1) := by decide +kernel
theorem dX8_row_10 : decode cX8_row 10 = .ok (.iconst 0, 1) := by decide +kernel
theorem dX8_row_11 : decode cX8_row 11 = .ok (.iconst 3, 1) := by decide +kernel
theorem dX8_row_12 : decode cX8_row 12 = .ok (.invokevirtual 249, 3) := by decide +kernel
theorem dX8_row_15 : decode cX8_row 15 = .ok (.ifCond .ne 5, 3) := by decide +kernel
theorem dX8_row_18 : decode cX8_row 18 = .ok (.iconst (-1), 1) := by decide +kernel
theorem dX8_row_19 : decode cX8_row 19 = .ok (.ireturn, 1) := by decide +kernel
theorem dX8_row_20 : decode cX8_row 20 = .ok (.aload_n 0, 1) := by decide +kernel
theorem dX8_row_21 : decode cX8_row 21 = .ok (.iload_n 3, 1) := by decide +kernel
theorem dX8_row_22 : decode cX8_row 22 = .ok (.iconst 0, 1) := by decide +kernel
theorem dX8_row_23 : decode cX8_row 23 = .ok (.bipush 9, 2) := by decide +kernel
theorem dX8_row_25 : decode cX8_row 25 = .ok (.invokevirtual 249, 3) := by decide +kernel
theorem dX8_row_28 : decode cX8_row 28 = .ok (.ifCond .ne 6, 3) := by decide +kernel
theorem dX8_row_31 : decode cX8_row 31 = .ok (.bipush (-2), 2) := by decide +kernel
theorem dX8_row_33 : decode cX8_row 33 = .ok (.ireturn, 1) := by decide +kernel
theorem dX8_row_34 : decode cX8_row 34 = .ok (.aload_n 0, 1) := by decide +kernel
theorem dX8_row_35 : decode cX8_row 35 = .ok (.getfield 25, 3) := by decide +kernel
theorem dX8_row_38 : decode cX8_row 38 = .ok (.iload_n 1, 1) := by decide +kernel
theorem dX8_row_39 : decode cX8_row 39 = .ok (.iaload, 1) := by decide +kernel
theorem dX8_row_40 : decode cX8_row 40 = .ok (.bipush 6, 2) := by decide +kernel
theorem dX8_row_42 : decode cX8_row 42 = .ok (.if_icmp .eq 6, 3) := by decide +kernel
theorem dX8_row_45 : decode cX8_row 45 = .ok (.bipush (-3), 2) := by decide +kernel
theorem dX8_row_47 : decode cX8_row 47 = .ok (.ireturn, 1) := by decide +kernel
theorem dX8_row_48 : decode cX8_row 48 = .ok (.aload_n 0, 1) := by decide +kernel
theorem dX8_row_49 : decode cX8_row 49 = .ok (.getfield 38, 3) := by decide +kernel
theorem dX8_row_52 : decode cX8_row 52 = .ok (.iconst 4, 1) := by decide +kernel
theorem dX8_row_53 : decode cX8_row 53 = .ok (.iload_n 1, 1) := by decide +kernel
theorem dX8_row_54 : decode cX8_row 54 = .ok (.imul, 1) := by decide +kernel
theorem dX8_row_55 : decode cX8_row 55 = .ok (.iload_n 2, 1) := by decide +kernel
theorem dX8_row_56 : decode cX8_row 56 = .ok (.iadd, 1) := by decide +kernel
theorem dX8_row_57 : decode cX8_row 57 = .ok (.iaload, 1) := by decide +kernel
theorem dX8_row_58 : decode cX8_row 58 = .ok (.istore 4, 2) := by decide +kernel
theorem dX8_row_60 : decode cX8_row 60 = .ok (.aload_n 0, 1) := by decide +kernel
theorem dX8_row_61 : decode cX8_row 61 = .ok (.getfield 38, 3) := by decide +kernel
theorem dX8_row_64 : decode cX8_row 64 = .ok (.iconst 4, 1) := by decide +kernel
theorem dX8_row_65 : decode cX8_row 65 = .ok (.iload_n 1, 1) := by decide +kernel
theorem dX8_row_66 : decode cX8_row 66 = .ok (.imul, 1) := by decide +kernel
theorem dX8_row_67 : decode cX8_row 67 = .ok (.iload_n 2, 1) := by decide +kernel
theorem dX8_row_68 : decode cX8_row 68 = .ok (.iadd, 1) := by decide +kernel
theorem dX8_row_69 : decode cX8_row 69 = .ok (.iload_n 3, 1) := by decide +kernel
theorem dX8_row_70 : decode cX8_row 70 = .ok (.iastore, 1) := by decide +kernel
theorem dX8_row_71 : decode cX8_row 71 = .ok (.iload 4, 2) := by decide +kernel
theorem dX8_row_73 : decode cX8_row 73 = .ok (.ireturn, 1) := by decide +kernel
def f_X8_row (p1 : Int32) (p2 : Int32) (p3 : Int32) (u : Mem) : Option (Int32 × Mem) := Option.bind (f_X8_isOne p1 u) (fun r1 => (if r1 = 0 then some ((-1 : Int32), u) else Option.bind (f_X8_in p2 (0 : Int32) (3 : Int32)) (fun r3 => (if r3 = 0 then some ((-1 : Int32), u) else Option.bind (f_X8_in p3 (0 : Int32) (9 : Int32)) (fun r5 => (if r5 = 0 then some ((-2 : Int32), u) else gin p1 6 ((if (gA u 83 p1.toNatClampNeg) = (6 : Int32) then gin (((4 : Int32) * p1) + p2) 24 (gin (((4 : Int32) * p1) + p2) 24 (some (gA u 87 (((4 : Int32) * p1) + p2).toNatClampNeg, sA u 87 (((4 : Int32) * p1) + p2).toNatClampNeg p3))) else some ((-3 : Int32), u)))))))))
set_option maxHeartbeats 4000000 in
set_option maxRecDepth 100000 in
theorem k_X8_row (l : Launch) (D : gDt) (base : Nat) (Z : gZt) (u : Mem) (p1 : Int32) (p2 : Int32) (p3 : Int32) (r : Int32) (u' : Mem) (hf : f_X8_row p1 p2 p3 u = some (r, u')) : Met l yX8_row (gws yX8_row cX8_row 5 (some .int)) (gRm 3 0 0) (gPc D base Z u [.ref (base + 82), .int p1, .int p2, .int p3]) (gQi D base r u') 0 0 (gF base) := by
  refine Met.ofW (cc := cX8_row) (maxL := 5) (ret := some .int) (by decide) rfl ?_
  intro p e s m args below meth c s₁ B hml hv
  obtain ⟨rfl, C0, hG⟩ := g_enter B hml hv
  have hr := B.returns
  have C0 : gC p s m meth c _ cX8_row 5 RX8 D base Z := C0
  have hx := C0.1
  have hb := C0.2.1
  have hl := lv_entry ([.ref (base + 82), .int p1, .int p2, .int p3]) (n := 5) (Nat.le_of_ble_eq_true rfl)
  rw [lg_entry_eq]
  generalize (lg_sl ([.ref (base + 82), .int p1, .int p2, .int p3]) ++ List.replicate (5 - (lg_sl ([.ref (base + 82), .int p1, .int p2, .int p3])).length) Slot.unset).toArray = ls at hl ⊢
  have hl : lv_has ls 5 [(0, .ref (base + 82)), (1, .int p1), (2, .int p2), (3, .int p3)] := hl
  obtain ⟨Q, hQ⟩ : ∃ Q, Q = MQ below (gQi D base r u') ([.ref (base + 82), .int p1, .int p2, .int p3] : List Value).toArray s 0 0 (gF base) := ⟨_, rfl⟩
  rw [← hQ]
  change W p l e (gRm 3 0 0) s m _ below meth c _ _ _ _ _ _
  unfold f_X8_row at hf
  refine lv_aload_n hx hb dX8_row_0 rfl (lv_at hl 0 rfl) ?_
  refine lv_iload_n hx hb dX8_row_1 rfl (lv_at hl 1 rfl) ?_
  obtain ⟨r1, hc1, hf⟩ := pb_s hf
  refine g_doI0 hG (g_runV C0 hG (k_X8_isOne l D base Z u p1 r1 hc1) m_X8_isOne v_X8_isOne w_1098 (by decide) (g_recv C0 hG (L82 hG) rfl) rfl hl.1 rfl (Nat.le_of_ble_eq_true rfl) dX8_row_2 ⟨Nat.zero_le _, Nat.zero_le _⟩) (fun H locs hG hk => ?_)
  refine lv_if_eq (tgt := 18) hx hb dX8_row_5 (by decide) (fun c2 => ?_) (fun c2 => ?_)
  · have hf := gif_t c2 hf
    refine lv_iconst (v := (-1 : Int32)) hx hb dX8_row_18 (by decide) ?_
    obtain ⟨hr1, hu⟩ := gret_s hf
    subst hr1
    subst hu
    subst hQ
    exact g_iret C0 hG hr dX8_row_19
  · have hf := gif_f c2 hf
    refine lv_aload_n hx hb dX8_row_8 rfl (lv_at hl 0 rfl) ?_
    refine lv_iload_n hx hb dX8_row_9 rfl (lv_at hl 2 rfl) ?_
    refine lv_iconst (v := (0 : Int32)) hx hb dX8_row_10 (by decide) ?_
    refine lv_iconst (v := (3 : Int32)) hx hb dX8_row_11 (by decide) ?_
    obtain ⟨r3, hc3, hf⟩ := pb_s hf
    refine g_doI0 hG (g_runV C0 hG (k_X8_in l D base Z u p2 (0 : Int32) (3 : Int32) r3 hc3) m_X8_in v_X8_in w_1082 (by decide) (g_recv C0 hG (L82 hG) rfl) rfl hl.1 rfl (Nat.le_of_ble_eq_true rfl) dX8_row_12 ⟨Nat.zero_le _, Nat.zero_le _⟩) (fun H locs hG hk => ?_)
    refine lv_if_ne (tgt := 20) hx hb dX8_row_15 (by decide) (fun c4 => ?_) (fun c4 => ?_)
    · have hf := gif_f c4 hf
      refine lv_aload_n hx hb dX8_row_20 rfl (lv_at hl 0 rfl) ?_
      refine lv_iload_n hx hb dX8_row_21 rfl (lv_at hl 3 rfl) ?_
      refine lv_iconst (v := (0 : Int32)) hx hb dX8_row_22 (by decide) ?_
      refine lv_bipush (v := (9 : Int32)) hx hb dX8_row_23 (by decide) ?_
      obtain ⟨r5, hc5, hf⟩ := pb_s hf
      refine g_doI0 hG (g_runV C0 hG (k_X8_in l D base Z u p3 (0 : Int32) (9 : Int32) r5 hc5) m_X8_in v_X8_in w_1082 (by decide) (g_recv C0 hG (L82 hG) rfl) rfl hl.1 rfl (Nat.le_of_ble_eq_true rfl) dX8_row_25 ⟨Nat.zero_le _, Nat.zero_le _⟩) (fun H locs hG hk => ?_)
      refine lv_if_ne (tgt := 34) hx hb dX8_row_28 (by decide) (fun c6 => ?_) (fun c6 => ?_)
      · have hf := gif_f c6 hf
        refine lv_aload_n hx hb dX8_row_34 rfl (lv_at hl 0 rfl) ?_
        refine g_getSa (o := 1) (a := 83) C0 hG (L82 hG) rfl 5 (by decide) rfl rfl w_851 dX8_row_35 ?_
        refine lv_iload_n hx hb dX8_row_38 rfl (lv_at hl 1 rfl) ?_
        obtain ⟨h7, hf⟩ := gin_s hf
        refine g_iald C0 hG (L83 hG) h7 dX8_row_39 ?_
        refine lv_bipush (v := (6 : Int32)) hx hb dX8_row_40 (by decide) ?_
        refine lv_icmp_eq (tgt := 48) hx hb dX8_row_42 (by decide) (fun c8 => ?_) (fun c8 => ?_)
        · have hf := gif_t c8 hf
          refine lv_aload_n hx hb dX8_row_48 rfl (lv_at hl 0 rfl) ?_
          refine g_getSa (o := 5) (a := 87) C0 hG (L82 hG) rfl 9 (by decide) rfl rfl w_855 dX8_row_49 ?_
          refine lv_iconst (v := (4 : Int32)) hx hb dX8_row_52 (by decide) ?_
          refine lv_iload_n hx hb dX8_row_53 rfl (lv_at hl 1 rfl) ?_
          refine lv_imul hx hb dX8_row_54 ?_
          refine lv_iload_n hx hb dX8_row_55 rfl (lv_at hl 2 rfl) ?_
          refine lv_iadd hx hb dX8_row_56 ?_
          obtain ⟨h9, hf⟩ := gin_s hf
          refine g_iald C0 hG (L87 hG) h9 dX8_row_57 ?_
          refine lv_istore (lv' := [(4, .int (gA u 87 (((4 : Int32) * p1) + p2).toNatClampNeg)), (0, .ref (base + 82)), (1, .int p1), (2, .int p2), (3, .int p3)]) hx hb dX8_row_58 hl (by decide) rfl (fun ls hl => ?_)
          refine lv_aload_n hx hb dX8_row_60 rfl (lv_at hl 1 rfl) ?_
          refine g_getSa (o := 5) (a := 87) C0 hG (L82 hG) rfl 9 (by decide) rfl rfl w_855 dX8_row_61 ?_
          refine lv_iconst (v := (4 : Int32)) hx hb dX8_row_64 (by decide) ?_
          refine lv_iload_n hx hb dX8_row_65 rfl (lv_at hl 2 rfl) ?_
          refine lv_imul hx hb dX8_row_66 ?_
          refine lv_iload_n hx hb dX8_row_67 rfl (lv_at hl 3 rfl) ?_
          refine lv_iadd hx hb dX8_row_68 ?_
          refine lv_iload_n hx hb dX8_row_69 rfl (lv_at hl 4 rfl) ?_
          obtain ⟨h10, hf⟩ := gin_s hf
          refine g_iast C0 hG (L87 hG) h10 dX8_row_70 (fun H locs hG => ?_)
          refine lv_iload hx hb dX8_row_71 (lv_at hl 0 rfl) ?_
          obtain ⟨hr1, hu⟩ := gret_s hf
          subst hr1
          subst hu
          subst hQ
          exact g_iret C0 hG hr dX8_row_73
        · have hf := gif_f c8 hf
          refine lv_bipush (v := (-3 : Int32)) hx hb dX8_row_45 (by decide) ?_
          obtain ⟨hr1, hu⟩ := gret_s hf
          subst hr1
          subst hu
          subst hQ
          exact g_iret C0 hG hr dX8_row_47
      · have hf := gif_t c6 hf
        refine lv_bipush (v := (-2 : Int32)) hx hb dX8_row_31 (by decide) ?_
        obtain ⟨hr1, hu⟩ := gret_s hf
        subst hr1
        subst hu
        subst hQ
        exact g_iret C0 hG hr dX8_row_33
    · have hf := gif_t c4 hf
      refine lv_iconst (v := (-1 : Int32)) hx hb dX8_row_18 (by decide) ?_
      obtain ⟨hr1, hu⟩ := gret_s hf
      subst hr1
      subst hu
      subst hQ
      exact g_iret C0 hG hr dX8_row_19
theorem dX8_feed_0 : decode cX8_feed 0 = .ok (.aload_n 0, 1) := by decide +kernel
theorem dX8_feed_1 : decode cX8_feed 1 = .ok (.iload_n 1, 1) := by decide +kernel
theorem dX8_feed_2 : decode cX8_feed 2 = .ok (.iconst 0, 1) := by decide +kernel
theorem dX8_feed_3 : decode cX8_feed 3 = .ok (.bipush 127, 2) := by decide +kernel
theorem dX8_feed_5 : decode cX8_feed 5 = .ok (.invokevirtual 249, 3) := by decide +kernel
theorem dX8_feed_8 : decode cX8_feed 8 = .ok (.ifCond .ne 6, 3) := by decide +kernel
theorem dX8_feed_11 : decode cX8_feed 11 = .ok (.bipush (-2), 2) := by decide +kernel
theorem dX8_feed_13 : decode cX8_feed 13 = .ok (.ireturn, 1) := by decide +kernel
theorem dX8_feed_14 : decode cX8_feed 14 = .ok (.aload_n 0, 1) := by decide +kernel
theorem dX8_feed_15 : decode cX8_feed 15 = .ok (.getfield 53, 3) := by decide +kernel
theorem dX8_feed_18 : decode cX8_feed 18 = .ok (.bipush 100, 2) := by decide +kernel
theorem dX8_feed_20 : decode cX8_feed 20 = .ok (.if_icmp .ne 6, 3) := by decide +kernel
theorem dX8_feed_23 : decode cX8_feed 23 = .ok (.bipush (-4), 2) := by decide +kernel
theorem dX8_feed_25 : decode cX8_feed 25 = .ok (.ireturn, 1) := by decide +kernel
theorem dX8_feed_26 : decode cX8_feed 26 = .ok (.aload_n 0, 1) := by decide +kernel
theorem dX8_feed_27 : decode cX8_feed 27 = .ok (.getfield 62, 3) := by decide +kernel
theorem dX8_feed_30 : decode cX8_feed 30 = .ok (.aload_n 0, 1) := by decide +kernel
theorem dX8_feed_31 : decode cX8_feed 31 = .ok (.getfield 53, 3) := by decide +kernel
theorem dX8_feed_34 : decode cX8_feed 34 = .ok (.iload_n 1, 1) := by decide +kernel
theorem dX8_feed_35 : decode cX8_feed 35 = .ok (.iastore, 1) := by decide +kernel
theorem dX8_feed_36 : decode cX8_feed 36 = .ok (.aload_n 0, 1) := by decide +kernel
theorem dX8_feed_37 : decode cX8_feed 37 = .ok (.dup, 1) := by decide +kernel
theorem dX8_feed_38 : decode cX8_feed 38 = .ok (.getfield 53, 3) := by decide +kernel
theorem dX8_feed_41 : decode cX8_feed 41 = .ok (.iconst 1, 1) := by decide +kernel
theorem dX8_feed_42 : decode cX8_feed 42 = .ok (.iadd, 1) := by decide +kernel
theorem dX8_feed_43 : decode cX8_feed 43 = .ok (.putfield 53, 3) := by decide +kernel
theorem dX8_feed_46 : decode cX8_feed 46 = .ok (.aload_n 0, 1) := by decide +kernel
theorem dX8_feed_47 : decode cX8_feed 47 = .ok (.getfield 53, 3) := by decide +kernel
theorem dX8_feed_50 : decode cX8_feed 50 = .ok (.ireturn, 1) := by decide +kernel
def f_X8_feed (p1 : Int32) (u : Mem) : Option (Int32 × Mem) := Option.bind (f_X8_in p1 (0 : Int32) (127 : Int32)) (fun r1 => (if r1 = 0 then some ((-2 : Int32), u) else (if (gI u 82 14) = (100 : Int32) then some ((-4 : Int32), u) else gin (gI u 82 14) 100 (some (gI (sI (sA u 90 (gI u 82 14).toNatClampNeg p1) 82 14 ((gI (sA u 90 (gI u 82 14).toNatClampNeg p1) 82 14) + (1 : Int32))) 82 14, sI (sA u 90 (gI u 82 14).toNatClampNeg p1) 82 14 ((gI (sA u 90 (gI u 82 14).toNatClampNeg p1) 82 14) + (1 : Int32)))))))
set_option maxHeartbeats 4000000 in
set_option maxRecDepth 100000 in
theorem k_X8_feed (l : Launch) (D : gDt) (base : Nat) (Z : gZt) (u : Mem) (p1 : Int32) (r : Int32) (u' : Mem) (hf : f_X8_feed p1 u = some (r, u')) : Met l yX8_feed (gws yX8_feed cX8_feed 2 (some .int)) (gRm 2 0 0) (gPc D base Z u [.ref (base + 82), .int p1]) (gQi D base r u') 0 0 (gF base) := by
  refine Met.ofW (cc := cX8_feed) (maxL := 2) (ret := some .int) (by decide) rfl ?_
  intro p e s m args below meth c s₁ B hml hv
  obtain ⟨rfl, C0, hG⟩ := g_enter B hml hv
  have hr := B.returns
  have C0 : gC p s m meth c _ cX8_feed 2 RX8 D base Z := C0
  have hx := C0.1
  have hb := C0.2.1
  have hl := lv_entry ([.ref (base + 82), .int p1]) (n := 2) (Nat.le_of_ble_eq_true rfl)
  rw [lg_entry_eq]
  generalize (lg_sl ([.ref (base + 82), .int p1]) ++ List.replicate (2 - (lg_sl ([.ref (base + 82), .int p1])).length) Slot.unset).toArray = ls at hl ⊢
  have hl : lv_has ls 2 [(0, .ref (base + 82)), (1, .int p1)] := hl
  obtain ⟨Q, hQ⟩ : ∃ Q, Q = MQ below (gQi D base r u') ([.ref (base + 82), .int p1] : List Value).toArray s 0 0 (gF base) := ⟨_, rfl⟩
  rw [← hQ]
  change W p l e (gRm 2 0 0) s m _ below meth c _ _ _ _ _ _
  unfold f_X8_feed at hf
  refine lv_aload_n hx hb dX8_feed_0 rfl (lv_at hl 0 rfl) ?_
  refine lv_iload_n hx hb dX8_feed_1 rfl (lv_at hl 1 rfl) ?_
  refine lv_iconst (v := (0 : Int32)) hx hb dX8_feed_2 (by decide) ?_
  refine lv_bipush (v := (127 : Int32)) hx hb dX8_feed_3 (by decide) ?_
  obtain ⟨r1, hc1, hf⟩ := pb_s hf
  refine g_doI0 hG (g_runV C0 hG (k_X8_in l D base Z u p1 (0 : Int32) (127 : Int32) r1 hc1) m_X8_in v_X8_in w_1082 (by decide) (g_recv C0 hG (L82 hG) rfl) rfl hl.1 rfl (Nat.le_of_ble_eq_true rfl) dX8_feed_5 ⟨Nat.zero_le _, Nat.zero_le _⟩) (fun H locs hG hk => ?_)
  refine lv_if_ne (tgt := 14) hx hb dX8_feed_8 (by decide) (fun c2 => ?_) (fun c2 => ?_)
  · have hf := gif_f c2 hf
    refine lv_aload_n hx hb dX8_feed_14 rfl (lv_at hl 0 rfl) ?_
    refine g_getI C0 hG (L82 hG) rfl 14 (by decide) rfl w_860 dX8_feed_15 ?_
    refine lv_bipush (v := (100 : Int32)) hx hb dX8_feed_18 (by decide) ?_
    refine lv_icmp_ne (tgt := 26) hx hb dX8_feed_20 (by decide) (fun c3 => ?_) (fun c3 => ?_)
    · have hf := gif_f c3 hf
      refine lv_aload_n hx hb dX8_feed_26 rfl (lv_at hl 0 rfl) ?_
      refine g_getSa (o := 8) (a := 90) C0 hG (L82 hG) rfl 17 (by decide) rfl rfl w_863 dX8_feed_27 ?_
      refine lv_aload_n hx hb dX8_feed_30 rfl (lv_at hl 0 rfl) ?_
      refine g_getI C0 hG (L82 hG) rfl 14 (by decide) rfl w_860 dX8_feed_31 ?_
      refine lv_iload_n hx hb dX8_feed_34 rfl (lv_at hl 1 rfl) ?_
      obtain ⟨h4, hf⟩ := gin_s hf
      refine g_iast C0 hG (L90 hG) h4 dX8_feed_35 (fun H locs hG => ?_)
      refine lv_aload_n hx hb dX8_feed_36 rfl (lv_at hl 0 rfl) ?_
      refine lv_dup hx hb dX8_feed_37 rfl ?_
      refine g_getI C0 hG (L82 hG) rfl 14 (by decide) rfl w_860 dX8_feed_38 ?_
      refine lv_iconst (v := (1 : Int32)) hx hb dX8_feed_41 (by decide) ?_
      refine lv_iadd hx hb dX8_feed_42 ?_
      refine g_putI (ty := .int) C0 hG (L82 hG) rfl 14 (by decide) rfl w_860 rfl (by decide) rfl rfl dX8_feed_43 (fun H locs hG => ?_)
      refine lv_aload_n hx hb dX8_feed_46 rfl (lv_at hl 0 rfl) ?_
      refine g_getI C0 hG (L82 hG) rfl 14 (by decide) rfl w_860 dX8_feed_47 ?_
      obtain ⟨hr1, hu⟩ := gret_s hf
      subst hr1
      subst hu
      subst hQ
      exact g_iret C0 hG hr dX8_feed_50
    · have hf := gif_t c3 hf
      refine lv_bipush (v := (-4 : Int32)) hx hb dX8_feed_23 (by decide) ?_
      obtain ⟨hr1, hu⟩ := gret_s hf
      subst hr1
      subst hu
      subst hQ
      exact g_iret C0 hG hr dX8_feed_25
  · have hf := gif_t c2 hf
    refine lv_bipush (v := (-2 : Int32)) hx hb dX8_feed_11 (by decide) ?_
    obtain ⟨hr1, hu⟩ := gret_s hf
    subst hr1
    subst hu
    subst hQ
    exact g_iret C0 hG hr dX8_feed_13
theorem dX8_next_0 : decode cX8_next 0 = .ok (.aload_n 0, 1) := by decide +kernel
theorem dX8_next_1 : decode cX8_next 1 = .ok (.getfield 56, 3) := by decide +kernel
theorem dX8_next_4 : decode cX8_next 4 = .ok (.aload_n 0, 1) := by decide +kernel
theorem dX8_next_5 : decode cX8_next 5 = .ok (.getfield 53, 3) := by decide +kernel
theorem dX8_next_8 : decode cX8_next 8 = .ok (.if_icmp .ge 15, 3) := by decide +kernel
theorem dX8_next_11 : decode cX8_next 11 = .ok (.aload_n 0, 1) := by decide +kernel
theorem dX8_next_12 : decode cX8_next 12 = .ok (.getfield 62, 3) := by decide +kernel
theorem dX8_next_15 : decode cX8_next 15 = .ok (.aload_n 0, 1) := by decide +kernel
theorem dX8_next_16 : decode cX8_next 16 = .ok (.getfield 56, 3) := by decide +kernel
theorem dX8_next_19 : decode cX8_next 19 = .ok (.iaload, 1) := by decide +kernel
theorem dX8_next_20 : decode cX8_next 20 = .ok (.goto 4, 3) := by decide +kernel
theorem dX8_next_23 : decode cX8_next 23 = .ok (.iconst (-1), 1) := by decide +kernel
theorem dX8_next_24 : decode cX8_next 24 = .ok (.ireturn, 1) := by decide +kernel
def f_X8_next (u : Mem) : Option (Int32) := (if (gI u 82 14) ≤ (gI u 82 15) then some (-1 : Int32) else gin (gI u 82 15) 100 (some (gA u 90 (gI u 82 15).toNatClampNeg)))
set_option maxHeartbeats 4000000 in
set_option maxRecDepth 100000 in
theorem k_X8_next (l : Launch) (D : gDt) (base : Nat) (Z : gZt) (u : Mem) (r : Int32) (hf : f_X8_next u = some r) : Met l yX8_next (gws yX8_next cX8_next 1 (some .int)) (gRm 1 0 0) (gPc D base Z u [.ref (base + 82)]) (gQi D base r u) 0 0 (gF base) := by
  refine Met.ofW (cc := cX8_next) (maxL := 1) (ret := some .int) (by decide) rfl ?_
  intro p e s m args below meth c s₁ B hml hv
  obtain ⟨rfl, C0, hG⟩ := g_enter B hml hv
  have hr := B.returns
  have C0 : gC p s m meth c _ cX8_next 1 RX8 D base Z := C0
  have hx := C0.1
  have hb := C0.2.1
  have hl := lv_entry ([.ref (base + 82)]) (n := 1) (Nat.le_of_ble_eq_true rfl)
  rw [lg_entry_eq]
  generalize (lg_sl ([.ref (base + 82)]) ++ List.replicate (1 - (lg_sl ([.ref (base + 82)])).length) Slot.unset).toArray = ls at hl ⊢
  have hl : lv_has ls 1 [(0, .ref (base + 82))] := hl
  obtain ⟨Q, hQ⟩ : ∃ Q, Q = MQ below (gQi D base r u) ([.ref (base + 82)] : List Value).toArray s 0 0 (gF base) := ⟨_, rfl⟩
  rw [← hQ]
  change W p l e (gRm 1 0 0) s m _ below meth c _ _ _ _ _ _
  unfold f_X8_next at hf
  refine lv_aload_n hx hb dX8_next_0 rfl (lv_at hl 0 rfl) ?_
  refine g_getI C0 hG (L82 hG) rfl 15 (by decide) rfl w_861 dX8_next_1 ?_
  refine lv_aload_n hx hb dX8_next_4 rfl (lv_at hl 0 rfl) ?_
  refine g_getI C0 hG (L82 hG) rfl 14 (by decide) rfl w_860 dX8_next_5 ?_
  refine lv_icmp_ge (tgt := 23) hx hb dX8_next_8 (by decide) (fun c1 => ?_) (fun c1 => ?_)
  · have hf := gif_t c1 hf
    refine lv_iconst (v := (-1 : Int32)) hx hb dX8_next_23 (by decide) ?_
    have hf := Option.some.inj hf
    subst hf
    subst hQ
    exact g_iret C0 hG hr dX8_next_24
  · have hf := gif_f c1 hf
    refine lv_aload_n hx hb dX8_next_11 rfl (lv_at hl 0 rfl) ?_
    refine g_getSa (o := 8) (a := 90) C0 hG (L82 hG) rfl 17 (by decide) rfl rfl w_863 dX8_next_12 ?_
    refine lv_aload_n hx hb dX8_next_15 rfl (lv_at hl 0 rfl) ?_
    refine g_getI C0 hG (L82 hG) rfl 15 (by decide) rfl w_861 dX8_next_16 ?_
    obtain ⟨h2, hf⟩ := gin_s hf
    refine g_iald C0 hG (L90 hG) h2 dX8_next_19 ?_
    refine lv_goto (tgt := 24) hx hb dX8_next_20 (by decide) ?_
    have hf := Option.some.inj hf
    subst hf
    subst hQ
    exact g_iret C0 hG hr dX8_next_24
theorem dX8_second_0 : decode cX8_second 0 = .ok (.aload_n 0, 1) := by decide +kernel
theorem dX8_second_1 : decode cX8_second 1 = .ok (.getfield 56, 3) := by decide +kernel
theorem dX8_second_4 : decode cX8_second 4 = .ok (.iconst 1, 1) := by decide +kernel
theorem dX8_second_5 : decode cX8_second 5 = .ok (.iadd, 1) := by decide +kernel
theorem dX8_second_6 : decode cX8_second 6 = .ok (.aload_n 0, 1) := by decide +kernel
theorem dX8_second_7 : decode cX8_second 7 = .ok (.getfield 53, 3) := by decide +kernel
theorem dX8_second_10 : decode cX8_second 10 = .ok (.if_icmp .ge 17, 3) := by decide +kernel
theorem dX8_second_13 : decode cX8_second 13 = .ok (.aload_n 0, 1) := by decide +kernel
theorem dX8_second_14 : decode cX8_second 14 = .ok (.getfield 62, 3) := by decide +kernel
theorem dX8_second_17 : decode cX8_second 17 = .ok (.aload_n 0, 1) := by decide +kernel
theorem dX8_second_18 : decode cX8_second 18 = .ok (.getfield 56, 3) := by decide +kernel
theorem dX8_second_21 : decode cX8_second 21 = .ok (.iconst 1, 1) := by decide +kernel
theorem dX8_second_22 : decode cX8_second 22 = .ok (.iadd, 1) := by decide +kernel
theorem dX8_second_23 : decode cX8_second 23 = .ok (.iaload, 1) := by decide +kernel
theorem dX8_second_24 : decode cX8_second 24 = .ok (.goto 4, 3) := by decide +kernel
theorem dX8_second_27 : decode cX8_second 27 = .ok (.iconst (-1), 1) := by decide +kernel
theorem dX8_second_28 : decode cX8_second 28 = .ok (.ireturn, 1) := by decide +kernel
def f_X8_second (u : Mem) : Option (Int32) := (if (gI u 82 14) ≤ ((gI u 82 15) + (1 : Int32)) then some (-1 : Int32) else gin ((gI u 82 15) + (1 : Int32)) 100 (some (gA u 90 ((gI u 82 15) + (1 : Int32)).toNatClampNeg)))
set_option maxHeartbeats 4000000 in
set_option maxRecDepth 100000 in
theorem k_X8_second (l : Launch) (D : gDt) (base : Nat) (Z : gZt) (u : Mem) (r : Int32) (hf : f_X8_second u = some r) : Met l yX8_second (gws yX8_second cX8_second 1 (some .int)) (gRm 1 0 0) (gPc D base Z u [.ref (base + 82)]) (gQi D base r u) 0 0 (gF base) := by
  refine Met.ofW (cc := cX8_second) (maxL := 1) (ret := some .int) (by decide) rfl ?_
  intro p e s m args below meth c s₁ B hml hv
  obtain ⟨rfl, C0, hG⟩ := g_enter B hml hv
  have hr := B.returns
  have C0 : gC p s m meth c _ cX8_second 1 RX8 D base Z := C0
  have hx := C0.1
  have hb := C0.2.1
  have hl := lv_entry ([.ref (base + 82)]) (n := 1) (Nat.le_of_ble_eq_true rfl)
  rw [lg_entry_eq]
  generalize (lg_sl ([.ref (base + 82)]) ++ List.replicate (1 - (lg_sl ([.ref (base + 82)])).length) Slot.unset).toArray = ls at hl ⊢
  have hl : lv_has ls 1 [(0, .ref (base + 82))] := hl
  obtain ⟨Q, hQ⟩ : ∃ Q, Q = MQ below (gQi D base r u) ([.ref (base + 82)] : List Value).toArray s 0 0 (gF base) := ⟨_, rfl⟩
  rw [← hQ]
  change W p l e (gRm 1 0 0) s m _ below meth c _ _ _ _ _ _
  unfold f_X8_second at hf
  refine lv_aload_n hx hb dX8_second_0 rfl (lv_at hl 0 rfl) ?_
  refine g_getI C0 hG (L82 hG) rfl 15 (by decide) rfl w_861 dX8_second_1 ?_
  refine lv_iconst (v := (1 : Int32)) hx hb dX8_second_4 (by decide) ?_
  refine lv_iadd hx hb dX8_second_5 ?_
  refine lv_aload_n hx hb dX8_second_6 rfl (lv_at hl 0 rfl) ?_
  refine g_getI C0 hG (L82 hG) rfl 14 (by decide) rfl w_860 dX8_second_7 ?_
  refine lv_icmp_ge (tgt := 27) hx hb dX8_second_10 (by decide) (fun c1 => ?_) (fun c1 => ?_)
  · have hf := gif_t c1 hf
    refine lv_iconst (v := (-1 : Int32)) hx hb dX8_second_27 (by decide) ?_
    have hf := Option.some.inj hf
    subst hf
    subst hQ
    exact g_iret C0 hG hr dX8_second_28
  · have hf := gif_f c1 hf
    refine lv_aload_n hx hb dX8_second_13 rfl (lv_at hl 0 rfl) ?_
    refine g_getSa (o := 8) (a := 90) C0 hG (L82 hG) rfl 17 (by decide) rfl rfl w_863 dX8_second_14 ?_
    refine lv_aload_n hx hb dX8_second_17 rfl (lv_at hl 0 rfl) ?_
    refine g_getI C0 hG (L82 hG) rfl 15 (by decide) rfl w_861 dX8_second_18 ?_
    refine lv_iconst (v := (1 : Int32)) hx hb dX8_second_21 (by decide) ?_
    refine lv_iadd hx hb dX8_second_22 ?_
    obtain ⟨h2, hf⟩ := gin_s hf
    refine g_iald C0 hG (L90 hG) h2 dX8_second_23 ?_
    refine lv_goto (tgt := 28) hx hb dX8_second_24 (by decide) ?_
    have hf := Option.some.inj hf
    subst hf
    subst hQ
    exact g_iret C0 hG hr dX8_second_28
theorem dX8_takes_0 : decode cX8_takes 0 = .ok (.aload_n 0, 1) := by decide +kernel
theorem dX8_takes_1 : decode cX8_takes 1 = .ok (.invokevirtual 270, 3) := by decide +kernel
theorem dX8_takes_4 : decode cX8_takes 4 = .ok (.iload_n 1, 1) := by decide +kernel
theorem dX8_takes_5 : decode cX8_takes 5 = .ok (.if_icmp .eq 5, 3) := by decide +kernel
theorem dX8_takes_8 : decode cX8_takes 8 = .ok (.iconst 0, 1) := by decide +kernel
theorem dX8_takes_9 : decode cX8_takes 9 = .ok (.ireturn, 1) := by decide +kernel
theorem dX8_takes_10 : decode cX8_takes 10 = .ok (.aload_n 0, 1) := by decide +kernel
theorem dX8_takes_11 : decode cX8_takes 11 = .ok (.dup, 1) := by decide +kernel
theorem dX8_takes_12 : decode cX8_takes 12 = .ok (.getfield 56, 3) := by decide +kernel
theorem dX8_takes_15 : decode cX8_takes 15 = .ok (.iconst 1, 1) := by decide +kernel
theorem dX8_takes_16 : decode cX8_takes 16 = .ok (.iadd, 1) := by decide +kernel
theorem dX8_takes_17 : decode cX8_takes 17 = .ok (.putfield 56, 3) := by decide +kernel
theorem dX8_takes_20 : decode cX8_takes 20 = .ok (.iconst 1, 1) := by decide +kernel
theorem dX8_takes_21 : decode cX8_takes 21 = .ok (.ireturn, 1) := by decide +kernel
def f_X8_takes (p1 : Int32) (u : Mem) : Option (Int32 × Mem) := Option.bind (f_X8_next u) (fun r1 => (if r1 = p1 then some ((1 : Int32), sI u 82 15 ((gI u 82 15) + (1 : Int32))) else some ((0 : Int32), u)))
set_option maxHeartbeats 4000000 in
set_option maxRecDepth 100000 in
theorem k_X8_takes (l : Launch) (D : gDt) (base : Nat) (Z : gZt) (u : Mem) (p1 : Int32) (r : Int32) (u' : Mem) (hf : f_X8_takes p1 u = some (r, u')) : Met l yX8_takes (gws yX8_takes cX8_takes 2 (some .boolean)) (gRm 2 0 0) (gPc D base Z u [.ref (base + 82), .int p1]) (gQi D base r u') 0 0 (gF base) := by
  refine Met.ofW (cc := cX8_takes) (maxL := 2) (ret := some .boolean) (by decide) rfl ?_
  intro p e s m args below meth c s₁ B hml hv
  obtain ⟨rfl, C0, hG⟩ := g_enter B hml hv
  have hr := B.returns
  have C0 : gC p s m meth c _ cX8_takes 2 RX8 D base Z := C0
  have hx := C0.1
  have hb := C0.2.1
  have hl := lv_entry ([.ref (base + 82), .int p1]) (n := 2) (Nat.le_of_ble_eq_true rfl)
  rw [lg_entry_eq]
  generalize (lg_sl ([.ref (base + 82), .int p1]) ++ List.replicate (2 - (lg_sl ([.ref (base + 82), .int p1])).length) Slot.unset).toArray = ls at hl ⊢
  have hl : lv_has ls 2 [(0, .ref (base + 82)), (1, .int p1)] := hl
  obtain ⟨Q, hQ⟩ : ∃ Q, Q = MQ below (gQi D base r u') ([.ref (base + 82), .int p1] : List Value).toArray s 0 0 (gF base) := ⟨_, rfl⟩
  rw [← hQ]
  change W p l e (gRm 2 0 0) s m _ below meth c _ _ _ _ _ _
  unfold f_X8_takes at hf
  refine lv_aload_n hx hb dX8_takes_0 rfl (lv_at hl 0 rfl) ?_
  obtain ⟨r1, hc1, hf⟩ := pb_s hf
  refine g_doI0 hG (g_runV C0 hG (k_X8_next l D base Z u r1 hc1) m_X8_next v_X8_next w_1150 (by decide) (g_recv C0 hG (L82 hG) rfl) rfl hl.1 rfl (Nat.le_of_ble_eq_true rfl) dX8_takes_1 ⟨Nat.zero_le _, Nat.zero_le _⟩) (fun H locs hG hk => ?_)
  refine lv_iload_n hx hb dX8_takes_4 rfl (lv_at hl 1 rfl) ?_
  refine lv_icmp_eq (tgt := 10) hx hb dX8_takes_5 (by decide) (fun c2 => ?_) (fun c2 => ?_)
  · have hf := gif_t c2 hf
    refine lv_aload_n hx hb dX8_takes_10 rfl (lv_at hl 0 rfl) ?_
    refine lv_dup hx hb dX8_takes_11 rfl ?_
    refine g_getI C0 hG (L82 hG) rfl 15 (by decide) rfl w_861 dX8_takes_12 ?_
    refine lv_iconst (v := (1 : Int32)) hx hb dX8_takes_15 (by decide) ?_
    refine lv_iadd hx hb dX8_takes_16 ?_
    refine g_putI (ty := .int) C0 hG (L82 hG) rfl 15 (by decide) rfl w_861 rfl (by decide) rfl rfl dX8_takes_17 (fun H locs hG => ?_)
    refine lv_iconst (v := (1 : Int32)) hx hb dX8_takes_20 (by decide) ?_
    obtain ⟨hr1, hu⟩ := gret_s hf
    subst hr1
    subst hu
    subst hQ
    exact g_zret C0 hG hr (by decide) dX8_takes_21
  · have hf := gif_f c2 hf
    refine lv_iconst (v := (0 : Int32)) hx hb dX8_takes_8 (by decide) ?_
    obtain ⟨hr1, hu⟩ := gret_s hf
    subst hr1
    subst hu
    subst hQ
    exact g_zret C0 hG hr (by decide) dX8_takes_9
theorem dX8_takesWord_0 : decode cX8_takesWord 0 = .ok (.iconst 0, 1) := by decide +kernel
theorem dX8_takesWord_1 : decode cX8_takesWord 1 = .ok (.istore_n 3, 1) := by decide +kernel
theorem dX8_takesWord_2 : decode cX8_takesWord 2 = .ok (.iload_n 3, 1) := by decide +kernel
theorem dX8_takesWord_3 : decode cX8_takesWord 3 = .ok (.iload_n 2, 1) := by decide +kernel
theorem dX8_takesWord_4 : decode cX8_takesWord 4 = .ok (.if_icmp .ge 26, 3) := by decide +kernel
theorem dX8_takesWord_7 : decode cX8_takesWord 7 = .ok (.aload_n 0, 1) := by decide +kernel
theorem dX8_takesWord_8 : decode cX8_takesWord 8 = .ok (.aload_n 0, 1) := by decide +kernel
theorem dX8_takesWord_9 : decode cX8_takesWord 9 = .ok (.getfield 95, 3) := by decide +kernel
theorem dX8_takesWord_12 : decode cX8_takesWord 12 = .ok (.iload_n 1, 1) := by decide +kernel
theorem dX8_takesWord_13 : decode cX8_takesWord 13 = .ok (.iload_n 3, 1) := by decide +kernel
theorem dX8_takesWord_14 : decode cX8_takesWord 14 = .ok (.iadd, 1) := by decide +kernel
theorem dX8_takesWord_15 : decode cX8_takesWord 15 = .ok (.iaload, 1) := by decide +kernel
theorem dX8_takesWord_16 : decode cX8_takesWord 16 = .ok (.invokevirtual 274, 3) := by decide +kernel
theorem dX8_takesWord_19 : decode cX8_takesWord 19 = .ok (.ifCond .ne 5, 3) := by decide +kernel
theorem dX8_takesWord_22 : decode cX8_takesWord 22 = .ok (.iconst 0, 1) := by decide +kernel
theorem dX8_takesWord_23 : decode cX8_takesWord 23 = .ok (.ireturn, 1) := by decide +kernel
theorem dX8_takesWord_24 : decode cX8_takesWord 24 = .ok (.iinc 3 1, 3) := by decide +kernel
theorem dX8_takesWord_27 : decode cX8_takesWord 27 = .ok (.goto (-25), 3) := by decide +kernel
theorem dX8_takesWord_30 : decode cX8_takesWord 30 = .ok (.aload_n 0, 1) := by decide +kernel
theorem dX8_takesWord_31 : decode cX8_takesWord 31 = .ok (.bipush 32, 2) := by decide +kernel
theorem dX8_takesWord_33 : decode cX8_takesWord 33 = .ok (.invokevirtual 274, 3) := by decide +kernel
theorem dX8_takesWord_36 : decode cX8_takesWord 36 = .ok (.ireturn, 1) := by decide +kernel
def f_X8_takesWord_L2 (p2 : Int32) (p1 : Int32) (x3_1 : Int32) (u1 : Mem) : Option ((Int32 × Mem) ⊕ (Int32 × Mem)) := (if p2 ≤ x3_1 then obind (f_X8_takes (32 : Int32) u1) (fun r3 u3 => gbo r3 (some (Sum.inr (r3, u3)))) else gin (p1 + x3_1) 14 (obind (f_X8_takes (gA u1 98 (p1 + x3_1).toNatClampNeg) u1) (fun r6 u6 => (if r6 = 0 then some (Sum.inr ((0 : Int32), u6)) else some (Sum.inl (x3_1 + (1 : Int32), u6))))))
def f_X8_takesWord (p1 : Int32) (p2 : Int32) (u : Mem) : Option (Int32 × Mem) := whileO (fun s => f_X8_takesWord_L2 p2 p1 s.1 s.2) FUEL ((0 : Int32), u)
set_option maxHeartbeats 4000000 in
set_option maxRecDepth 100000 in
theorem k_X8_takesWord (l : Launch) (D : gDt) (base : Nat) (Z : gZt) (u : Mem) (p1 : Int32) (p2 : Int32) (r : Int32) (u' : Mem) (hf : f_X8_takesWord p1 p2 u = some (r, u')) : Met l yX8_takesWord (gws yX8_takesWord cX8_takesWord 4 (some .boolean)) (gRm 3 0 0) (gPc D base Z u [.ref (base + 82), .int p1, .int p2]) (gQi D base r u') 0 0 (gF base) := by
  refine Met.ofW (cc := cX8_takesWord) (maxL := 4) (ret := some .boolean) (by decide) rfl ?_
  intro p e s m args below meth c s₁ B hml hv
  obtain ⟨rfl, C0, hG⟩ := g_enter B hml hv
  have hr := B.returns
  have C0 : gC p s m meth c _ cX8_takesWord 4 RX8 D base Z := C0
  have hx := C0.1
  have hb := C0.2.1
  have hl := lv_entry ([.ref (base + 82), .int p1, .int p2]) (n := 4) (Nat.le_of_ble_eq_true rfl)
  rw [lg_entry_eq]
  generalize (lg_sl ([.ref (base + 82), .int p1, .int p2]) ++ List.replicate (4 - (lg_sl ([.ref (base + 82), .int p1, .int p2])).length) Slot.unset).toArray = ls at hl ⊢
  have hl : lv_has ls 4 [(0, .ref (base + 82)), (1, .int p1), (2, .int p2)] := hl
  obtain ⟨Q, hQ⟩ : ∃ Q, Q = MQ below (gQi D base r u') ([.ref (base + 82), .int p1, .int p2] : List Value).toArray s 0 0 (gF base) := ⟨_, rfl⟩
  rw [← hQ]
  change W p l e (gRm 3 0 0) s m _ below meth c _ _ _ _ _ _
  unfold f_X8_takesWord at hf
  refine lv_iconst (v := (0 : Int32)) hx hb dX8_takesWord_0 (by decide) ?_
  refine lv_istore_n (lv' := [(3, .int (0 : Int32)), (0, .ref (base + 82)), (1, .int p1), (2, .int p2)]) hx hb dX8_takesWord_1 rfl hl (by decide) rfl (fun ls hl => ?_)
  have loop1 : ∀ (n1 : Nat) (x3_1 : Int32) (u1 : Mem) (H : Heap) (locs : List Loc) (ls : Array Slot), gH D base s u1 H locs → lv_has ls 4 [(0, .ref (base + 82)), (1, .int p1), (2, .int p2), (3, .int x3_1)] → whileO (fun s => f_X8_takesWord_L2 p2 p1 s.1 s.2) n1 (x3_1, u1) = some (r, u') → W p l e (gRm 3 0 0) s m ([.ref (base + 82), .int p1, .int p2] : List Value).toArray below meth c H locs 0 0 Q (F0 m 2 ls []) := by
    intro n1
    induction n1 with
    | zero => intro x3_1 u1 H locs ls hG hl hf; cases hf
    | succ n1 ih1 =>
      intro x3_1 u1 H locs ls hG hl hf
      obtain ⟨X1, hf, hX1⟩ := while_s hf
      have hf : f_X8_takesWord_L2 p2 p1 x3_1 u1 = some X1 := hf
      unfold f_X8_takesWord_L2 at hf
      refine lv_iload_n hx hb dX8_takesWord_2 rfl (lv_at hl 3 rfl) ?_
      refine lv_iload_n hx hb dX8_takesWord_3 rfl (lv_at hl 2 rfl) ?_
      refine lv_icmp_ge (tgt := 30) hx hb dX8_takesWord_4 (by decide) (fun c2 => ?_) (fun c2 => ?_)
      · have hf := gif_t c2 hf
        refine lv_aload_n hx hb dX8_takesWord_30 rfl (lv_at hl 0 rfl) ?_
        refine lv_bipush (v := (32 : Int32)) hx hb dX8_takesWord_31 (by decide) ?_
        obtain ⟨r3, u3, hc3, hf⟩ := obind_s hf
        refine g_doI0 hG (g_runV C0 hG (k_X8_takes l D base Z u1 (32 : Int32) r3 u3 hc3) m_X8_takes v_X8_takes w_1158 (by decide) (g_recv C0 hG (L82 hG) rfl) rfl hl.1 rfl (Nat.le_of_ble_eq_true rfl) dX8_takesWord_33 ⟨Nat.zero_le _, Nat.zero_le _⟩) (fun H locs hG hk => ?_)
        obtain ⟨h4, hf⟩ := gbo_s hf
        have hf := while_r hX1 hf
        obtain ⟨hr1, hu⟩ := gret_s hf
        subst hr1
        subst hu
        subst hQ
        exact g_zret C0 hG hr h4 dX8_takesWord_36
      · have hf := gif_f c2 hf
        refine lv_aload_n hx hb dX8_takesWord_7 rfl (lv_at hl 0 rfl) ?_
        refine lv_aload_n hx hb dX8_takesWord_8 rfl (lv_at hl 0 rfl) ?_
        refine g_getSa (o := 16) (a := 98) C0 hG (L82 hG) rfl 28 (by decide) rfl rfl w_874 dX8_takesWord_9 ?_
        refine lv_iload_n hx hb dX8_takesWord_12 rfl (lv_at hl 1 rfl) ?_
        refine lv_iload_n hx hb dX8_takesWord_13 rfl (lv_at hl 3 rfl) ?_
        refine lv_iadd hx hb dX8_takesWord_14 ?_
        obtain ⟨h5, hf⟩ := gin_s hf
        refine g_iald C0 hG (L98 hG) h5 dX8_takesWord_15 ?_
        obtain ⟨r6, u6, hc6, hf⟩ := obind_s hf
        refine g_doI0 hG (g_runV C0 hG (k_X8_takes l D base Z u1 (gA u1 98 (p1 + x3_1).toNatClampNeg) r6 u6 hc6) m_X8_takes v_X8_takes w_1158 (by decide) (g_recv C0 hG (L82 hG) rfl) rfl hl.1 rfl (Nat.le_of_ble_eq_true rfl) dX8_takesWord_16 ⟨Nat.zero_le _, Nat.zero_le _⟩) (fun H locs hG hk => ?_)
        refine lv_if_ne (tgt := 24) hx hb dX8_takesWord_19 (by decide) (fun c7 => ?_) (fun c7 => ?_)
        · have hf := gif_f c7 hf
          refine lv_iinc (v := x3_1 + (1 : Int32)) (lv' := [(3, .int (x3_1 + (1 : Int32))), (0, .ref (base + 82)), (1, .int p1), (2, .int p2)]) hx hb dX8_takesWord_24 hl (k := 3) rfl rfl (by decide) rfl (fun ls hl => ?_)
          refine lv_goto (tgt := 2) hx hb dX8_takesWord_27 (by decide) ?_
          have hf := while_l hX1 hf
          exact ih1 (x3_1 + (1 : Int32)) u6 _ _ ls hG (lv_sub hl [1, 2, 3, 0] rfl) hf
        · have hf := gif_t c7 hf
          refine lv_iconst (v := (0 : Int32)) hx hb dX8_takesWord_22 (by decide) ?_
          have hf := while_r hX1 hf
          obtain ⟨hr1, hu⟩ := gret_s hf
          subst hr1
          subst hu
          subst hQ
          exact g_zret C0 hG hr (by decide) dX8_takesWord_23
  exact loop1 FUEL (0 : Int32) u _ _ ls hG (lv_sub hl [1, 2, 3, 0] rfl) hf
theorem dX8_isDigit_0 : decode cX8_isDigit 0 = .ok (.aload_n 0, 1) := by decide +kernel
theorem dX8_isDigit_1 : decode cX8_isDigit 1 = .ok (.aload_n 0, 1) := by decide +kernel
theorem dX8_isDigit_2 : decode cX8_isDigit 2 = .ok (.invokevirtual 270, 3) := by decide +kernel
theorem dX8_isDigit_5 : decode cX8_isDigit 5 = .ok (.bipush 48, 2) := by decide +kernel
theorem dX8_isDigit_7 : decode cX8_isDigit 7 = .ok (.bipush 57, 2) := by decide +kernel
theorem dX8_isDigit_9 : decode cX8_isDigit 9 = .ok (.invokevirtual 249, 3) := by decide +kernel
theorem dX8_isDigit_12 : decode cX8_isDigit 12 = .ok (.ireturn, 1) := by decide +kernel
def f_X8_isDigit (u : Mem) : Option (Int32) := Option.bind (f_X8_next u) (fun r1 => Option.bind (f_X8_in r1 (48 : Int32) (57 : Int32)) (fun r2 => gbo r2 (some r2)))
set_option maxHeartbeats 4000000 in
set_option maxRecDepth 100000 in
theorem k_X8_isDigit (l : Launch) (D : gDt) (base : Nat) (Z : gZt) (u : Mem) (r : Int32) (hf : f_X8_isDigit u = some r) : Met l yX8_isDigit (gws yX8_isDigit cX8_isDigit 1 (some .boolean)) (gRm 2 0 0) (gPc D base Z u [.ref (base + 82)]) (gQi D base r u) 0 0 (gF base) := by
  refine Met.ofW (cc := cX8_isDigit) (maxL := 1) (ret := some .boolean) (by decide) rfl ?_
  intro p e s m args below meth c s₁ B hml hv
  obtain ⟨rfl, C0, hG⟩ := g_enter B hml hv
  have hr := B.returns
  have C0 : gC p s m meth c _ cX8_isDigit 1 RX8 D base Z := C0
  have hx := C0.1
  have hb := C0.2.1
  have hl := lv_entry ([.ref (base + 82)]) (n := 1) (Nat.le_of_ble_eq_true rfl)
  rw [lg_entry_eq]
  generalize (lg_sl ([.ref (base + 82)]) ++ List.replicate (1 - (lg_sl ([.ref (base + 82)])).length) Slot.unset).toArray = ls at hl ⊢
  have hl : lv_has ls 1 [(0, .ref (base + 82))] := hl
  obtain ⟨Q, hQ⟩ : ∃ Q, Q = MQ below (gQi D base r u) ([.ref (base + 82)] : List Value).toArray s 0 0 (gF base) := ⟨_, rfl⟩
  rw [← hQ]
  change W p l e (gRm 2 0 0) s m _ below meth c _ _ _ _ _ _
  unfold f_X8_isDigit at hf
  refine lv_aload_n hx hb dX8_isDigit_0 rfl (lv_at hl 0 rfl) ?_
  refine lv_aload_n hx hb dX8_isDigit_1 rfl (lv_at hl 0 rfl) ?_
  obtain ⟨r1, hc1, hf⟩ := pb_s hf
  refine g_doI0 hG (g_runV C0 hG (k_X8_next l D base Z u r1 hc1) m_X8_next v_X8_next w_1150 (by decide) (g_recv C0 hG (L82 hG) rfl) rfl hl.1 rfl (Nat.le_of_ble_eq_true rfl) dX8_isDigit_2 ⟨Nat.zero_le _, Nat.zero_le _⟩) (fun H locs hG hk => ?_)
  refine lv_bipush (v := (48 : Int32)) hx hb dX8_isDigit_5 (by decide) ?_
  refine lv_bipush (v := (57 : Int32)) hx hb dX8_isDigit_7 (by decide) ?_
  obtain ⟨r2, hc2, hf⟩ := pb_s hf
  refine g_doI0 hG (g_runV C0 hG (k_X8_in l D base Z u r1 (48 : Int32) (57 : Int32) r2 hc2) m_X8_in v_X8_in w_1082 (by decide) (g_recv C0 hG (L82 hG) rfl) rfl hl.1 rfl (Nat.le_of_ble_eq_true rfl) dX8_isDigit_9 ⟨Nat.zero_le _, Nat.zero_le _⟩) (fun H locs hG hk => ?_)
  obtain ⟨h3, hf⟩ := gbo_s hf
  have hf := Option.some.inj hf
  subst hf
  subst hQ
  exact g_zret C0 hG hr h3 dX8_isDigit_12
theorem dX8_takesNumber_0 : decode cX8_takesNumber 0 = .ok (.aload_n 0, 1) := by decide +kernel
theorem dX8_takesNumber_1 : decode cX8_takesNumber 1 = .ok (.invokevirtual 277, 3) := by decide +kernel
theorem dX8_takesNumber_4 : decode cX8_takesNumber 4 = .ok (.ifCond .ne 5, 3) := by decide +kernel
theorem dX8_takesNumber_7 : decode cX8_takesNumber 7 = .ok (.iconst 0, 1) := by decide +kernel
theorem dX8_takesNumber_8 : decode cX8_takesNumber 8 = .ok (.ireturn, 1) := by decide +kernel
theorem dX8_takesNumber_9 : decode cX8_takesNumber 9 = .ok (.aload_n 0, 1) := by decide +kernel
theorem dX8_takesNumber_10 : decode cX8_takesNumber 10 = .ok (.iconst 0, 1) := by decide +kernel
theorem dX8_takesNumber_11 : decode cX8_takesNumber 11 = .ok (.putfield 59, 3) := by decide +kernel
theorem dX8_takesNumber_14 : decode cX8_takesNumber 14 = .ok (.iconst 0, 1) := by decide +kernel
theorem dX8_takesNumber_15 : decode cX8_takesNumber 15 = .ok (.istore_n 1, 1) := by decide +kernel
theorem dX8_takesNumber_16 : decode cX8_takesNumber 16 = .ok (.iload_n 1, 1) := by decide +kernel
theorem dX8_takesNumber_17 : decode cX8_takesNumber 17 = .ok (.iconst 2, 1) := by decide +kernel
theorem dX8_takesNumber_18 : decode cX8_takesNumber 18 = .ok (.if_icmp .ge 45, 3) := by decide +kernel
theorem dX8_takesNumber_21 : decode cX8_takesNumber 21 = .ok (.aload_n 0, 1) := by decide +kernel
theorem dX8_takesNumber_22 : decode cX8_takesNumber 22 = .ok (.invokevirtual 277, 3) := by decide +kernel
theorem dX8_takesNumber_25 : decode cX8_takesNumber 25 = .ok (.ifCond .eq 38, 3) := by decide +kernel
theorem dX8_takesNumber_28 : decode cX8_takesNumber 28 = .ok (.aload_n 0, 1) := by decide +kernel
theorem dX8_takesNumber_29 : decode cX8_takesNumber 29 = .ok (.bipush 10, 2) := by decide +kernel
theorem dX8_takesNumber_31 : decode cX8_takesNumber 31 = .ok (.aload_n 0, 1) := by decide +kernel
theorem dX8_takesNumber_32 : decode cX8_takesNumber 32 = .ok (.getfield 59, 3) := by decide +kernel
theorem dX8_takesNumber_35 : decode cX8_takesNumber 35 = .ok (.imul, 1) := by decide +kernel
theorem dX8_takesNumber_36 : decode cX8_takesNumber 36 = .ok (.aload_n 0, 1) := by decide +kernel
theorem dX8_takesNumber_37 : decode cX8_takesNumber 37 = .ok (.invokevirtual 270, 3) := by decide +kernel
theorem dX8_takesNumber_40 : decode cX8_takesNumber 40 = .ok (.iadd, 1) := by decide +kernel
theorem dX8_takesNumber_41 : decode cX8_takesNumber 41 = .ok (.bipush 48, 2) := by decide +kernel
theorem dX8_takesNumber_43 : decode cX8_takesNumber 43 = .ok (.isub, 1) := by decide +kernel
theorem dX8_takesNumber_44 : decode cX8_takesNumber 44 = .ok (.putfield 59, 3) := by decide +kernel
theorem dX8_takesNumber_47 : decode cX8_takesNumber 47 = .ok (.aload_n 0, 1) := by decide +kernel
theorem dX8_takesNumber_48 : decode cX8_takesNumber 48 = .ok (.dup, 1) := by decide +kernel
theorem dX8_takesNumber_49 : decode cX8_takesNumber 49 = .ok (.getfield 56, 3) := by decide +kernel
theorem dX8_takesNumber_52 : decode cX8_takesNumber 52 = .ok (.iconst 1, 1) := by decide +kernel
theorem dX8_takesNumber_53 : decode cX8_takesNumber 53 = .ok (.iadd, 1) := by decide +kernel
theorem dX8_takesNumber_54 : decode cX8_takesNumber 54 = .ok (.putfield 56, 3) := by decide +kernel
theorem dX8_takesNumber_57 : decode cX8_takesNumber 57 = .ok (.iinc 1 1, 3) := by decide +kernel
theorem dX8_takesNumber_60 : decode cX8_takesNumber 60 = .ok (.goto (-44), 3) := by decide +kernel
theorem dX8_takesNumber_63 : decode cX8_takesNumber 63 = .ok (.iconst 1, 1) := by decide +kernel
theorem dX8_takesNumber_64 : decode cX8_takesNumber 64 = .ok (.ireturn, 1) := by decide +kernel
def f_X8_takesNumber_L16 (x1_3 : Int32) (u3 : Mem) : Option ((Int32 × Mem) ⊕ (Int32 × Mem)) := (if (2 : Int32) ≤ x1_3 then some (Sum.inr ((1 : Int32), u3)) else Option.bind (f_X8_isDigit u3) (fun r5 => (if r5 = 0 then some (Sum.inr ((1 : Int32), u3)) else Option.bind (f_X8_next u3) (fun r7 => some (Sum.inl (x1_3 + (1 : Int32), sI (sI u3 82 16 ((((10 : Int32) * (gI u3 82 16)) + r7) - (48 : Int32))) 82 15 ((gI (sI u3 82 16 ((((10 : Int32) * (gI u3 82 16)) + r7) - (48 : Int32))) 82 15) + (1 : Int32))))))))
def f_X8_takesNumber (u : Mem) : Option (Int32 × Mem) := Option.bind (f_X8_isDigit u) (fun r1 => (if r1 = 0 then some ((0 : Int32), u) else whileO (fun s => f_X8_takesNumber_L16 s.1 s.2) FUEL ((0 : Int32), sI u 82 16 (0 : Int32))))
set_option maxHeartbeats 4000000 in
set_option maxRecDepth 100000 in
theorem k_X8_takesNumber (l : Launch) (D : gDt) (base : Nat) (Z : gZt) (u : Mem) (r : Int32) (u' : Mem) (hf : f_X8_takesNumber u = some (r, u')) : Met l yX8_takesNumber (gws yX8_takesNumber cX8_takesNumber 2 (some .boolean)) (gRm 3 0 0) (gPc D base Z u [.ref (base + 82)]) (gQi D base r u') 0 0 (gF base) := by
  refine Met.ofW (cc := cX8_takesNumber) (maxL := 2) (ret := some .boolean) (by decide) rfl ?_
  intro p e s m args below meth c s₁ B hml hv
  obtain ⟨rfl, C0, hG⟩ := g_enter B hml hv
  have hr := B.returns
  have C0 : gC p s m meth c _ cX8_takesNumber 2 RX8 D base Z := C0
  have hx := C0.1
  have hb := C0.2.1
  have hl := lv_entry ([.ref (base + 82)]) (n := 2) (Nat.le_of_ble_eq_true rfl)
  rw [lg_entry_eq]
  generalize (lg_sl ([.ref (base + 82)]) ++ List.replicate (2 - (lg_sl ([.ref (base + 82)])).length) Slot.unset).toArray = ls at hl ⊢
  have hl : lv_has ls 2 [(0, .ref (base + 82))] := hl
  obtain ⟨Q, hQ⟩ : ∃ Q, Q = MQ below (gQi D base r u') ([.ref (base + 82)] : List Value).toArray s 0 0 (gF base) := ⟨_, rfl⟩
  rw [← hQ]
  change W p l e (gRm 3 0 0) s m _ below meth c _ _ _ _ _ _
  unfold f_X8_takesNumber at hf
  refine lv_aload_n hx hb dX8_takesNumber_0 rfl (lv_at hl 0 rfl) ?_
  obtain ⟨r1, hc1, hf⟩ := pb_s hf
  refine g_doI0 hG (g_runV C0 hG (k_X8_isDigit l D base Z u r1 hc1) m_X8_isDigit v_X8_isDigit w_1170 (by decide) (g_recv C0 hG (L82 hG) rfl) rfl hl.1 rfl (Nat.le_of_ble_eq_true rfl) dX8_takesNumber_1 ⟨Nat.zero_le _, Nat.zero_le _⟩) (fun H locs hG hk => ?_)
  refine lv_if_ne (tgt := 9) hx hb dX8_takesNumber_4 (by decide) (fun c2 => ?_) (fun c2 => ?_)
  · have hf := gif_f c2 hf
    refine lv_aload_n hx hb dX8_takesNumber_9 rfl (lv_at hl 0 rfl) ?_
    refine lv_iconst (v := (0 : Int32)) hx hb dX8_takesNumber_10 (by decide) ?_
    refine g_putI (ty := .int) C0 hG (L82 hG) rfl 16 (by decide) rfl w_862 rfl (by decide) rfl rfl dX8_takesNumber_11 (fun H locs hG => ?_)
    refine lv_iconst (v := (0 : Int32)) hx hb dX8_takesNumber_14 (by decide) ?_
    refine lv_istore_n (lv' := [(1, .int (0 : Int32)), (0, .ref (base + 82))]) hx hb dX8_takesNumber_15 rfl hl (by decide) rfl (fun ls hl => ?_)
    have loop3 : ∀ (n3 : Nat) (x1_3 : Int32) (u3 : Mem) (H : Heap) (locs : List Loc) (ls : Array Slot), gH D base s u3 H locs → lv_has ls 2 [(0, .ref (base + 82)), (1, .int x1_3)] → whileO (fun s => f_X8_takesNumber_L16 s.1 s.2) n3 (x1_3, u3) = some (r, u') → W p l e (gRm 3 0 0) s m ([.ref (base + 82)] : List Value).toArray below meth c H locs 0 0 Q (F0 m 16 ls []) := by
      intro n3
      induction n3 with
      | zero => intro x1_3 u3 H locs ls hG hl hf; cases hf
      | succ n3 ih3 =>
        intro x1_3 u3 H locs ls hG hl hf
        obtain ⟨X3, hf, hX3⟩ := while_s hf
        have hf : f_X8_takesNumber_L16 x1_3 u3 = some X3 := hf
        unfold f_X8_takesNumber_L16 at hf
        refine lv_iload_n hx hb dX8_takesNumber_16 rfl (lv_at hl 1 rfl) ?_
        refine lv_iconst (v := (2 : Int32)) hx hb dX8_takesNumber_17 (by decide) ?_
        refine lv_icmp_ge (tgt := 63) hx hb dX8_takesNumber_18 (by decide) (fun c4 => ?_) (fun c4 => ?_)
        · have hf := gif_t c4 hf
          refine lv_iconst (v := (1 : Int32)) hx hb dX8_takesNumber_63 (by decide) ?_
          have hf := while_r hX3 hf
          obtain ⟨hr1, hu⟩ := gret_s hf
          subst hr1
          subst hu
          subst hQ
          exact g_zret C0 hG hr (by decide) dX8_takesNumber_64
        · have hf := gif_f c4 hf
          refine lv_aload_n hx hb dX8_takesNumber_21 rfl (lv_at hl 0 rfl) ?_
          obtain ⟨r5, hc5, hf⟩ := pb_s hf
          refine g_doI0 hG (g_runV C0 hG (k_X8_isDigit l D base Z u3 r5 hc5) m_X8_isDigit v_X8_isDigit w_1170 (by decide) (g_recv C0 hG (L82 hG) rfl) rfl hl.1 rfl (Nat.le_of_ble_eq_true rfl) dX8_takesNumber_22 ⟨Nat.zero_le _, Nat.zero_le _⟩) (fun H locs hG hk => ?_)
          refine lv_if_eq (tgt := 63) hx hb dX8_takesNumber_25 (by decide) (fun c6 => ?_) (fun c6 => ?_)
          · have hf := gif_t c6 hf
            refine lv_iconst (v := (1 : Int32)) hx hb dX8_takesNumber_63 (by decide) ?_
            have hf := while_r hX3 hf
            obtain ⟨hr1, hu⟩ := gret_s hf
            subst hr1
            subst hu
            subst hQ
            exact g_zret C0 hG hr (by decide) dX8_takesNumber_64
          · have hf := gif_f c6 hf
            refine lv_aload_n hx hb dX8_takesNumber_28 rfl (lv_at hl 0 rfl) ?_
            refine lv_bipush (v := (10 : Int32)) hx hb dX8_takesNumber_29 (by decide) ?_
            refine lv_aload_n hx hb dX8_takesNumber_31 rfl (lv_at hl 0 rfl) ?_
            refine g_getI C0 hG (L82 hG) rfl 16 (by decide) rfl w_862 dX8_takesNumber_32 ?_
            refine lv_imul hx hb dX8_takesNumber_35 ?_
            refine lv_aload_n hx hb dX8_takesNumber_36 rfl (lv_at hl 0 rfl) ?_
            obtain ⟨r7, hc7, hf⟩ := pb_s hf
            refine g_doI0 hG (g_runV C0 hG (k_X8_next l D base Z u3 r7 hc7) m_X8_next v_X8_next w_1150 (by decide) (g_recv C0 hG (L82 hG) rfl) rfl hl.1 rfl (Nat.le_of_ble_eq_true rfl) dX8_takesNumber_37 ⟨Nat.zero_le _, Nat.zero_le _⟩) (fun H locs hG hk => ?_)
            refine lv_iadd hx hb dX8_takesNumber_40 ?_
            refine lv_bipush (v := (48 : Int32)) hx hb dX8_takesNumber_41 (by decide) ?_
            refine lv_isub hx hb dX8_takesNumber_43 ?_
            refine g_putI (ty := .int) C0 hG (L82 hG) rfl 16 (by decide) rfl w_862 rfl (by decide) rfl rfl dX8_takesNumber_44 (fun H locs hG => ?_)
            refine lv_aload_n hx hb dX8_takesNumber_47 rfl (lv_at hl 0 rfl) ?_
            refine lv_dup hx hb dX8_takesNumber_48 rfl ?_
            refine g_getI C0 hG (L82 hG) rfl 15 (by decide) rfl w_861 dX8_takesNumber_49 ?_
            refine lv_iconst (v := (1 : Int32)) hx hb dX8_takesNumber_52 (by decide) ?_
            refine lv_iadd hx hb dX8_takesNumber_53 ?_
            refine g_putI (ty := .int) C0 hG (L82 hG) rfl 15 (by decide) rfl w_861 rfl (by decide) rfl rfl dX8_takesNumber_54 (fun H locs hG => ?_)
            refine lv_iinc (v := x1_3 + (1 : Int32)) (lv' := [(1, .int (x1_3 + (1 : Int32))), (0, .ref (base + 82))]) hx hb dX8_takesNumber_57 hl (k := 1) rfl rfl (by decide) rfl (fun ls hl => ?_)
            refine lv_goto (tgt := 16) hx hb dX8_takesNumber_60 (by decide) ?_
            have hf := while_l hX3 hf
            exact ih3 (x1_3 + (1 : Int32)) (sI (sI u3 82 16 ((((10 : Int32) * (gI u3 82 16)) + r7) - (48 : Int32))) 82 15 ((gI (sI u3 82 16 ((((10 : Int32) * (gI u3 82 16)) + r7) - (48 : Int32))) 82 15) + (1 : Int32))) _ _ ls hG (lv_sub hl [1, 0] rfl) hf
    exact loop3 FUEL (0 : Int32) (sI u 82 16 (0 : Int32)) _ _ ls hG (lv_sub hl [1, 0] rfl) hf
  · have hf := gif_t c2 hf
    refine lv_iconst (v := (0 : Int32)) hx hb dX8_takesNumber_7 (by decide) ?_
    obtain ⟨hr1, hu⟩ := gret_s hf
    subst hr1
    subst hu
    subst hQ
    exact g_zret C0 hG hr (by decide) dX8_takesNumber_8
theorem dX8_emits_0 : decode cX8_emits 0 = .ok (.aload_n 0, 1) := by decide +kernel
theorem dX8_emits_1 : decode cX8_emits 1 = .ok (.getfield 80, 3) := by decide +kernel
theorem dX8_emits_4 : decode cX8_emits 4 = .ok (.aload_n 0, 1) := by decide +kernel
theorem dX8_emits_5 : decode cX8_emits 5 = .ok (.getfield 86, 3) := by decide +kernel
theorem dX8_emits_8 : decode cX8_emits 8 = .ok (.iload_n 1, 1) := by decide +kernel
theorem dX8_emits_9 : decode cX8_emits 9 = .ok (.iastore, 1) := by decide +kernel
theorem dX8_emits_10 : decode cX8_emits 10 = .ok (.aload_n 0, 1) := by decide +kernel
theorem dX8_emits_11 : decode cX8_emits 11 = .ok (.dup, 1) := by decide +kernel
theorem dX8_emits_12 : decode cX8_emits 12 = .ok (.getfield 86, 3) := by decide +kernel
theorem dX8_emits_15 : decode cX8_emits 15 = .ok (.iconst 1, 1) := by decide +kernel
theorem dX8_emits_16 : decode cX8_emits 16 = .ok (.iadd, 1) := by decide +kernel
theorem dX8_emits_17 : decode cX8_emits 17 = .ok (.putfield 86, 3) := by decide +kernel
theorem dX8_emits_20 : decode cX8_emits 20 = .ok (.return_, 1) := by decide +kernel
def f_X8_emits (p1 : Int32) (u : Mem) : Option (Unit × Mem) := gin (gI u 82 25) 600 (some ((), sI (sA u 96 (gI u 82 25).toNatClampNeg p1) 82 25 ((gI (sA u 96 (gI u 82 25).toNatClampNeg p1) 82 25) + (1 : Int32))))
set_option maxHeartbeats 4000000 in
set_option maxRecDepth 100000 in
theorem k_X8_emits (l : Launch) (D : gDt) (base : Nat) (Z : gZt) (u : Mem) (p1 : Int32) (u' : Mem) (hf : f_X8_emits p1 u = some ((), u')) : Met l yX8_emits (gws yX8_emits cX8_emits 2 (none)) (gRm 1 0 0) (gPc D base Z u [.ref (base + 82), .int p1]) (gQv D base u') 0 0 (gF base) := by
  refine Met.ofW (cc := cX8_emits) (maxL := 2) (ret := none) (by decide) rfl ?_
  intro p e s m args below meth c s₁ B hml hv
  obtain ⟨rfl, C0, hG⟩ := g_enter B hml hv
  have hr := B.returns
  have C0 : gC p s m meth c _ cX8_emits 2 RX8 D base Z := C0
  have hx := C0.1
  have hb := C0.2.1
  have hl := lv_entry ([.ref (base + 82), .int p1]) (n := 2) (Nat.le_of_ble_eq_true rfl)
  rw [lg_entry_eq]
  generalize (lg_sl ([.ref (base + 82), .int p1]) ++ List.replicate (2 - (lg_sl ([.ref (base + 82), .int p1])).length) Slot.unset).toArray = ls at hl ⊢
  have hl : lv_has ls 2 [(0, .ref (base + 82)), (1, .int p1)] := hl
  obtain ⟨Q, hQ⟩ : ∃ Q, Q = MQ below (gQv D base u') ([.ref (base + 82), .int p1] : List Value).toArray s 0 0 (gF base) := ⟨_, rfl⟩
  rw [← hQ]
  change W p l e (gRm 1 0 0) s m _ below meth c _ _ _ _ _ _
  unfold f_X8_emits at hf
  refine lv_aload_n hx hb dX8_emits_0 rfl (lv_at hl 0 rfl) ?_
  refine g_getSa (o := 14) (a := 96) C0 hG (L82 hG) rfl 23 (by decide) rfl rfl w_869 dX8_emits_1 ?_
  refine lv_aload_n hx hb dX8_emits_4 rfl (lv_at hl 0 rfl) ?_
  refine g_getI C0 hG (L82 hG) rfl 25 (by decide) rfl w_871 dX8_emits_5 ?_
  refine lv_iload_n hx hb dX8_emits_8 rfl (lv_at hl 1 rfl) ?_
  obtain ⟨h1, hf⟩ := gin_s hf
  refine g_iast C0 hG (L96 hG) h1 dX8_emits_9 (fun H locs hG => ?_)
  refine lv_aload_n hx hb dX8_emits_10 rfl (lv_at hl 0 rfl) ?_
  refine lv_dup hx hb dX8_emits_11 rfl ?_
  refine g_getI C0 hG (L82 hG) rfl 25 (by decide) rfl w_871 dX8_emits_12 ?_
  refine lv_iconst (v := (1 : Int32)) hx hb dX8_emits_15 (by decide) ?_
  refine lv_iadd hx hb dX8_emits_16 ?_
  refine g_putI (ty := .int) C0 hG (L82 hG) rfl 25 (by decide) rfl w_871 rfl (by decide) rfl rfl dX8_emits_17 (fun H locs hG => ?_)
  obtain ⟨-, hu⟩ := gret_s hf
  subst hu
  subst hQ
  exact g_vret C0 hG hr dX8_emits_20
theorem dX8_whole_0 : decode cX8_whole 0 = .ok (.aload_n 0, 1) := by decide +kernel
theorem dX8_whole_1 : decode cX8_whole 1 = .ok (.getfield 89, 3) := by decide +kernel
theorem dX8_whole_4 : decode cX8_whole 4 = .ok (.ifCond .le 48, 3) := by decide +kernel
theorem dX8_whole_7 : decode cX8_whole 7 = .ok (.aload_n 0, 1) := by decide +kernel
theorem dX8_whole_8 : decode cX8_whole 8 = .ok (.getfield 83, 3) := by decide +kernel
theorem dX8_whole_11 : decode cX8_whole 11 = .ok (.aload_n 0, 1) := by decide +kernel
theorem dX8_whole_12 : decode cX8_whole 12 = .ok (.getfield 89, 3) := by decide +kernel
theorem dX8_whole_15 : decode cX8_whole 15 = .ok (.iconst 1, 1) := by decide +kernel
theorem dX8_whole_16 : decode cX8_whole 16 = .ok (.isub, 1) := by decide +kernel
theorem dX8_whole_17 : decode cX8_whole 17 = .ok (.iaload, 1) := by decide +kernel
theorem dX8_whole_18 : decode cX8_whole 18 = .ok (.bipush 33, 2) := by decide +kernel
theorem dX8_whole_20 : decode cX8_whole 20 = .ok (.if_icmp .ne 32, 3) := by decide +kernel
theorem dX8_whole_23 : decode cX8_whole 23 = .ok (.aload_n 0, 1) := by decide +kernel
theorem dX8_whole_24 : decode cX8_whole 24 = .ok (.bipush (-33), 2) := by decide +kernel
theorem dX8_whole_26 : decode cX8_whole 26 = .ok (.invokevirtual 281, 3) := by decide +kernel
theorem dX8_whole_29 : decode cX8_whole 29 = .ok (.aload_n 0, 1) := by decide +kernel
theorem dX8_whole_30 : decode cX8_whole 30 = .ok (.dup, 1) := by decide +kernel
theorem dX8_whole_31 : decode cX8_whole 31 = .ok (.getfield 89, 3) := by decide +kernel
theorem dX8_whole_34 : decode cX8_whole 34 = .ok (.iconst 1, 1) := by decide +kernel
theorem dX8_whole_35 : decode cX8_whole 35 = .ok (.isub, 1) := by decide +kernel
theorem dX8_whole_36 : decode cX8_whole 36 = .ok (.putfield 89, 3) := by decide +kernel
theorem dX8_whole_39 : decode cX8_whole 39 = .ok (.aload_n 0, 1) := by decide +kernel
theorem dX8_whole_40 : decode cX8_whole 40 = .ok (.dup, 1) := by decide +kernel
theorem dX8_whole_41 : decode cX8_whole 41 = .ok (.getfield 92, 3) := by decide +kernel
theorem dX8_whole_44 : decode cX8_whole 44 = .ok (.iconst 1, 1) := by decide +kernel
theorem dX8_whole_45 : decode cX8_whole 45 = .ok (.isub, 1) := by decide +kernel
theorem dX8_whole_46 : decode cX8_whole 46 = .ok (.putfield 92, 3) := by decide +kernel
theorem dX8_whole_49 : decode cX8_whole 49 = .ok (.goto (-49), 3) := by decide +kernel
theorem dX8_whole_52 : decode cX8_whole 52 = .ok (.return_, 1) := by decide +kernel
def f_X8_whole_L0 (u1 : Mem) : Option (Mem ⊕ (Unit × Mem)) := (if (gI u1 82 26) ≤ 0 then some (Sum.inr ((), u1)) else gin ((gI u1 82 26) - (1 : Int32)) 101 ((if (gA u1 97 ((gI u1 82 26) - (1 : Int32)).toNatClampNeg) = (33 : Int32) then obind (f_X8_emits (-33 : Int32) u1) (fun _ u5 => some (Sum.inl (sI (sI u5 82 26 ((gI u5 82 26) - (1 : Int32))) 82 27 ((gI (sI u5 82 26 ((gI u5 82 26) - (1 : Int32))) 82 27) - (1 : Int32))))) else some (Sum.inr ((), u1)))))
def f_X8_whole (u : Mem) : Option (Unit × Mem) := whileO (fun s => f_X8_whole_L0 s) FUEL u
set_option maxHeartbeats 4000000 in
set_option maxRecDepth 100000 in
theorem k_X8_whole (l : Launch) (D : gDt) (base : Nat) (Z : gZt) (u : Mem) (u' : Mem) (hf : f_X8_whole u = some ((), u')) : Met l yX8_whole (gws yX8_whole cX8_whole 1 (none)) (gRm 2 0 0) (gPc D base Z u [.ref (base + 82)]) (gQv D base u') 0 0 (gF base) := by
  refine Met.ofW (cc := cX8_whole) (maxL := 1) (ret := none) (by decide) rfl ?_
  intro p e s m args below meth c s₁ B hml hv
  obtain ⟨rfl, C0, hG⟩ := g_enter B hml hv
  have hr := B.returns
  have C0 : gC p s m meth c _ cX8_whole 1 RX8 D base Z := C0
  have hx := C0.1
  have hb := C0.2.1
  have hl := lv_entry ([.ref (base + 82)]) (n := 1) (Nat.le_of_ble_eq_true rfl)
  rw [lg_entry_eq]
  generalize (lg_sl ([.ref (base + 82)]) ++ List.replicate (1 - (lg_sl ([.ref (base + 82)])).length) Slot.unset).toArray = ls at hl ⊢
  have hl : lv_has ls 1 [(0, .ref (base + 82))] := hl
  obtain ⟨Q, hQ⟩ : ∃ Q, Q = MQ below (gQv D base u') ([.ref (base + 82)] : List Value).toArray s 0 0 (gF base) := ⟨_, rfl⟩
  rw [← hQ]
  change W p l e (gRm 2 0 0) s m _ below meth c _ _ _ _ _ _
  unfold f_X8_whole at hf
  have loop1 : ∀ (n1 : Nat) (u1 : Mem) (H : Heap) (locs : List Loc) (ls : Array Slot), gH D base s u1 H locs → lv_has ls 1 [(0, .ref (base + 82))] → whileO (fun s => f_X8_whole_L0 s) n1 u1 = some ((), u') → W p l e (gRm 2 0 0) s m ([.ref (base + 82)] : List Value).toArray below meth c H locs 0 0 Q (F0 m 0 ls []) := by
    intro n1
    induction n1 with
    | zero => intro u1 H locs ls hG hl hf; cases hf
    | succ n1 ih1 =>
      intro u1 H locs ls hG hl hf
      obtain ⟨X1, hf, hX1⟩ := while_s hf
      have hf : f_X8_whole_L0 u1 = some X1 := hf
      unfold f_X8_whole_L0 at hf
      refine lv_aload_n hx hb dX8_whole_0 rfl (lv_at hl 0 rfl) ?_
      refine g_getI C0 hG (L82 hG) rfl 26 (by decide) rfl w_872 dX8_whole_1 ?_
      refine lv_if_le (tgt := 52) hx hb dX8_whole_4 (by decide) (fun c2 => ?_) (fun c2 => ?_)
      · have hf := gif_t c2 hf
        have hf := while_r hX1 hf
        obtain ⟨-, hu⟩ := gret_s hf
        subst hu
        subst hQ
        exact g_vret C0 hG hr dX8_whole_52
      · have hf := gif_f c2 hf
        refine lv_aload_n hx hb dX8_whole_7 rfl (lv_at hl 0 rfl) ?_
        refine g_getSa (o := 15) (a := 97) C0 hG (L82 hG) rfl 24 (by decide) rfl rfl w_870 dX8_whole_8 ?_
        refine lv_aload_n hx hb dX8_whole_11 rfl (lv_at hl 0 rfl) ?_
        refine g_getI C0 hG (L82 hG) rfl 26 (by decide) rfl w_872 dX8_whole_12 ?_
        refine lv_iconst (v := (1 : Int32)) hx hb dX8_whole_15 (by decide) ?_
        refine lv_isub hx hb dX8_whole_16 ?_
        obtain ⟨h3, hf⟩ := gin_s hf
        refine g_iald C0 hG (L97 hG) h3 dX8_whole_17 ?_
        refine lv_bipush (v := (33 : Int32)) hx hb dX8_whole_18 (by decide) ?_
        refine lv_icmp_ne (tgt := 52) hx hb dX8_whole_20 (by decide) (fun c4 => ?_) (fun c4 => ?_)
        · have hf := gif_f c4 hf
          have hf := while_r hX1 hf
          obtain ⟨-, hu⟩ := gret_s hf
          subst hu
          subst hQ
          exact g_vret C0 hG hr dX8_whole_52
        · have hf := gif_t c4 hf
          refine lv_aload_n hx hb dX8_whole_23 rfl (lv_at hl 0 rfl) ?_
          refine lv_bipush (v := (-33 : Int32)) hx hb dX8_whole_24 (by decide) ?_
          obtain ⟨_, u5, hc5, hf⟩ := obind_s hf
          refine g_doV0 hG (g_runV C0 hG (k_X8_emits l D base Z u1 (-33 : Int32) u5 hc5) m_X8_emits v_X8_emits w_1186 (by decide) (g_recv C0 hG (L82 hG) rfl) rfl hl.1 rfl (Nat.le_of_ble_eq_true rfl) dX8_whole_26 ⟨Nat.zero_le _, Nat.zero_le _⟩) (fun H locs hG hk => ?_)
          refine lv_aload_n hx hb dX8_whole_29 rfl (lv_at hl 0 rfl) ?_
          refine lv_dup hx hb dX8_whole_30 rfl ?_
          refine g_getI C0 hG (L82 hG) rfl 26 (by decide) rfl w_872 dX8_whole_31 ?_
          refine lv_iconst (v := (1 : Int32)) hx hb dX8_whole_34 (by decide) ?_
          refine lv_isub hx hb dX8_whole_35 ?_
          refine g_putI (ty := .int) C0 hG (L82 hG) rfl 26 (by decide) rfl w_872 rfl (by decide) rfl rfl dX8_whole_36 (fun H locs hG => ?_)
          refine lv_aload_n hx hb dX8_whole_39 rfl (lv_at hl 0 rfl) ?_
          refine lv_dup hx hb dX8_whole_40 rfl ?_
          refine g_getI C0 hG (L82 hG) rfl 27 (by decide) rfl w_873 dX8_whole_41 ?_
          refine lv_iconst (v := (1 : Int32)) hx hb dX8_whole_44 (by decide) ?_
          refine lv_isub hx hb dX8_whole_45 ?_
          refine g_putI (ty := .int) C0 hG (L82 hG) rfl 27 (by decide) rfl w_873 rfl (by decide) rfl rfl dX8_whole_46 (fun H locs hG => ?_)
          refine lv_goto (tgt := 0) hx hb dX8_whole_49 (by decide) ?_
          have hf := while_l hX1 hf
          exact ih1 (sI (sI u5 82 26 ((gI u5 82 26) - (1 : Int32))) 82 27 ((gI (sI u5 82 26 ((gI u5 82 26) - (1 : Int32))) 82 27) - (1 : Int32))) _ _ ls hG (lv_sub hl [0] rfl) hf
  exact loop1 FUEL u _ _ ls hG (lv_sub hl [0] rfl) hf
theorem dX8_settle_0 : decode cX8_settle 0 = .ok (.aload_n 0, 1) := by decide +kernel
theorem dX8_settle_1 : decode cX8_settle 1 = .ok (.getfield 89, 3) := by decide +kernel
theorem dX8_settle_4 : decode cX8_settle 4 = .ok (.ifCond .le 68, 3) := by decide +kernel
theorem dX8_settle_7 : decode cX8_settle 7 = .ok (.aload_n 0, 1) := by decide +kernel
theorem dX8_settle_8 : decode cX8_settle 8 = .ok (.getfield 83, 3) := by decide +kernel
theorem dX8_settle_11 : decode cX8_settle 11 = .ok (.aload_n 0, 1) := by decide +kernel
theorem dX8_settle_12 : decode cX8_settle 12 = .ok (.getfield 89, 3) := by decide +kernel
theorem dX8_settle_15 : decode cX8_settle 15 = .ok (.iconst 1, 1) := by decide +kernel
theorem dX8_settle_16 : decode cX8_settle 16 = .ok (.isub, 1) := by decide +kernel
theorem dX8_settle_17 : decode cX8_settle 17 = .ok (.iaload, 1) := by decide +kernel
theorem dX8_settle_18 : decode cX8_settle 18 = .ok (.bipush 38, 2) := by decide +kernel
theorem dX8_settle_20 : decode cX8_settle 20 = .ok (.if_icmp .eq 25, 3) := by decide +kernel
theorem dX8_settle_23 : decode cX8_settle 23 = .ok (.aload_n 0, 1) := by decide +kernel
theorem dX8_settle_24 : decode cX8_settle 24 = .ok (.getfield 83, 3) := by decide +kernel
theorem dX8_settle_27 : decode cX8_settle 27 = .ok (.aload_n 0, 1) := by decide +kernel
theorem dX8_settle_28 : decode cX8_settle 28 = .ok (.getfield 89, 3) := by decide +kernel
theorem dX8_settle_31 : decode cX8_settle 31 = .ok (.iconst 1, 1) := by decide +kernel
theorem dX8_settle_32 : decode cX8_settle 32 = .ok (.isub, 1) := by decide +kernel
theorem dX8_settle_33 : decode cX8_settle 33 = .ok (.iaload, 1) := by decide +kernel
theorem dX8_settle_34 : decode cX8_settle 34 = .ok (.bipush 124, 2) := by decide +kernel
theorem dX8_settle_36 : decode cX8_settle 36 = .ok (.if_icmp .ne 36, 3) := by decide +kernel
theorem dX8_settle_39 : decode cX8_settle 39 = .ok (.iload_n 1, 1) := by decide +kernel
theorem dX8_settle_40 : decode cX8_settle 40 = .ok (.bipush 38, 2) := by decide +kernel
theorem dX8_settle_42 : decode cX8_settle 42 = .ok (.if_icmp .eq 30, 3) := by decide +kernel
theorem dX8_settle_45 : decode cX8_settle 45 = .ok (.aload_n 0, 1) := by decide +kernel
theorem dX8_settle_46 : decode cX8_settle 46 = .ok (.dup, 1) := by decide +kernel
theorem dX8_settle_47 : decode cX8_settle 47 = .ok (.getfield 89, 3) := by decide +kernel
theorem dX8_settle_50 : decode cX8_settle 50 = .ok (.iconst 1, 1) := by decide +kernel
theorem dX8_settle_51 : decode cX8_settle 51 = .ok (.isub, 1) := by decide +kernel
theorem dX8_settle_52 : decode cX8_settle 52 = .ok (.putfield 89, 3) := by decide +kernel
theorem dX8_settle_55 : decode cX8_settle 55 = .ok (.aload_n 0, 1) := by decide +kernel
theorem dX8_settle_56 : decode cX8_settle 56 = .ok (.aload_n 0, 1) := by decide +kernel
theorem dX8_settle_57 : decode cX8_settle 57 = .ok (.getfield 83, 3) := by decide +kernel
theorem dX8_settle_60 : decode cX8_settle 60 = .ok (.aload_n 0, 1) := by decide +kernel
theorem dX8_settle_61 : decode cX8_settle 61 = .ok (.getfield 89, 3) := by decide +kernel
theorem dX8_settle_64 : decode cX8_settle 64 = .ok (.iaload, 1) := by decide +kernel
theorem dX8_settle_65 : decode cX8_settle 65 = .ok (.ineg, 1) := by decide +kernel
theorem dX8_settle_66 : decode cX8_settle 66 = .ok (.invokevirtual 281, 3) := by decide +kernel
theorem dX8_settle_69 : decode cX8_settle 69 = .ok (.goto (-69), 3) := by decide +kernel
theorem dX8_settle_72 : decode cX8_settle 72 = .ok (.return_, 1) := by decide +kernel
def f_X8_settle_L0 (p1 : Int32) (u1 : Mem) : Option (Mem ⊕ (Unit × Mem)) := (if (gI u1 82 26) ≤ 0 then some (Sum.inr ((), u1)) else gin ((gI u1 82 26) - (1 : Int32)) 101 ((if (gA u1 97 ((gI u1 82 26) - (1 : Int32)).toNatClampNeg) = (38 : Int32) then gin (gI (sI u1 82 26 ((gI u1 82 26) - (1 : Int32))) 82 26) 101 (obind (f_X8_emits (-(gA (sI u1 82 26 ((gI u1 82 26) - (1 : Int32))) 97 (gI (sI u1 82 26 ((gI u1 82 26) - (1 : Int32))) 82 26).toNatClampNeg)) (sI u1 82 26 ((gI u1 82 26) - (1 : Int32)))) (fun _ u6 => some (Sum.inl u6))) else gin ((gI u1 82 26) - (1 : Int32)) 101 ((if (gA u1 97 ((gI u1 82 26) - (1 : Int32)).toNatClampNeg) = (124 : Int32) then (if p1 = (38 : Int32) then some (Sum.inr ((), u1)) else gin (gI (sI u1 82 26 ((gI u1 82 26) - (1 : Int32))) 82 26) 101 (obind (f_X8_emits (-(gA (sI u1 82 26 ((gI u1 82 26) - (1 : Int32))) 97 (gI (sI u1 82 26 ((gI u1 82 26) - (1 : Int32))) 82 26).toNatClampNeg)) (sI u1 82 26 ((gI u1 82 26) - (1 : Int32)))) (fun _ u11 => some (Sum.inl u11)))) else some (Sum.inr ((), u1)))))))
def f_X8_settle (p1 : Int32) (u : Mem) : Option (Unit × Mem) := whileO (fun s => f_X8_settle_L0 p1 s) FUEL u
set_option maxHeartbeats 4000000 in
set_option maxRecDepth 100000 in
theorem k_X8_settle (l : Launch) (D : gDt) (base : Nat) (Z : gZt) (u : Mem) (p1 : Int32) (u' : Mem) (hf : f_X8_settle p1 u = some ((), u')) : Met l yX8_settle (gws yX8_settle cX8_settle 2 (none)) (gRm 2 0 0) (gPc D base Z u [.ref (base + 82), .int p1]) (gQv D base u') 0 0 (gF base) := by
  refine Met.ofW (cc := cX8_settle) (maxL := 2) (ret := none) (by decide) rfl ?_
  intro p e s m args below meth c s₁ B hml hv
  obtain ⟨rfl, C0, hG⟩ := g_enter B hml hv
  have hr := B.returns
  have C0 : gC p s m meth c _ cX8_settle 2 RX8 D base Z := C0
  have hx := C0.1
  have hb := C0.2.1
  have hl := lv_entry ([.ref (base + 82), .int p1]) (n := 2) (Nat.le_of_ble_eq_true rfl)
  rw [lg_entry_eq]
  generalize (lg_sl ([.ref (base + 82), .int p1]) ++ List.replicate (2 - (lg_sl ([.ref (base + 82), .int p1])).length) Slot.unset).toArray = ls at hl ⊢
  have hl : lv_has ls 2 [(0, .ref (base + 82)), (1, .int p1)] := hl
  obtain ⟨Q, hQ⟩ : ∃ Q, Q = MQ below (gQv D base u') ([.ref (base + 82), .int p1] : List Value).toArray s 0 0 (gF base) := ⟨_, rfl⟩
  rw [← hQ]
  change W p l e (gRm 2 0 0) s m _ below meth c _ _ _ _ _ _
  unfold f_X8_settle at hf
  have loop1 : ∀ (n1 : Nat) (u1 : Mem) (H : Heap) (locs : List Loc) (ls : Array Slot), gH D base s u1 H locs → lv_has ls 2 [(0, .ref (base + 82)), (1, .int p1)] → whileO (fun s => f_X8_settle_L0 p1 s) n1 u1 = some ((), u') → W p l e (gRm 2 0 0) s m ([.ref (base + 82), .int p1] : List Value).toArray below meth c H locs 0 0 Q (F0 m 0 ls []) := by
    intro n1
    induction n1 with
    | zero => intro u1 H locs ls hG hl hf; cases hf
    | succ n1 ih1 =>
      intro u1 H locs ls hG hl hf
      obtain ⟨X1, hf, hX1⟩ := while_s hf
      have hf : f_X8_settle_L0 p1 u1 = some X1 := hf
      unfold f_X8_settle_L0 at hf
      refine lv_aload_n hx hb dX8_settle_0 rfl (lv_at hl 0 rfl) ?_
      refine g_getI C0 hG (L82 hG) rfl 26 (by decide) rfl w_872 dX8_settle_1 ?_
      refine lv_if_le (tgt := 72) hx hb dX8_settle_4 (by decide) (fun c2 => ?_) (fun c2 => ?_)
      · have hf := gif_t c2 hf
        have hf := while_r hX1 hf
        obtain ⟨-, hu⟩ := gret_s hf
        subst hu
        subst hQ
        exact g_vret C0 hG hr dX8_settle_72
      · have hf := gif_f c2 hf
        refine lv_aload_n hx hb dX8_settle_7 rfl (lv_at hl 0 rfl) ?_
        refine g_getSa (o := 15) (a := 97) C0 hG (L82 hG) rfl 24 (by decide) rfl rfl w_870 dX8_settle_8 ?_
        refine lv_aload_n hx hb dX8_settle_11 rfl (lv_at hl 0 rfl) ?_
        refine g_getI C0 hG (L82 hG) rfl 26 (by decide) rfl w_872 dX8_settle_12 ?_
        refine lv_iconst (v := (1 : Int32)) hx hb dX8_settle_15 (by decide) ?_
        refine lv_isub hx hb dX8_settle_16 ?_
        obtain ⟨h3, hf⟩ := gin_s hf
        refine g_iald C0 hG (L97 hG) h3 dX8_settle_17 ?_
        refine lv_bipush (v := (38 : Int32)) hx hb dX8_settle_18 (by decide) ?_
        refine lv_icmp_eq (tgt := 45) hx hb dX8_settle_20 (by decide) (fun c4 => ?_) (fun c4 => ?_)
        · have hf := gif_t c4 hf
          refine lv_aload_n hx hb dX8_settle_45 rfl (lv_at hl 0 rfl) ?_
          refine lv_dup hx hb dX8_settle_46 rfl ?_
          refine g_getI C0 hG (L82 hG) rfl 26 (by decide) rfl w_872 dX8_settle_47 ?_
          refine lv_iconst (v := (1 : Int32)) hx hb dX8_settle_50 (by decide) ?_
          refine lv_isub hx hb dX8_settle_51 ?_
          refine g_putI (ty := .int) C0 hG (L82 hG) rfl 26 (by decide) rfl w_872 rfl (by decide) rfl rfl dX8_settle_52 (fun H locs hG => ?_)
          refine lv_aload_n hx hb dX8_settle_55 rfl (lv_at hl 0 rfl) ?_
          refine lv_aload_n hx hb dX8_settle_56 rfl (lv_at hl 0 rfl) ?_
          refine g_getSa (o := 15) (a := 97) C0 hG (L82 hG) rfl 24 (by decide) rfl rfl w_870 dX8_settle_57 ?_
          refine lv_aload_n hx hb dX8_settle_60 rfl (lv_at hl 0 rfl) ?_
          refine g_getI C0 hG (L82 hG) rfl 26 (by decide) rfl w_872 dX8_settle_61 ?_
          obtain ⟨h5, hf⟩ := gin_s hf
          refine g_iald C0 hG (L97 hG) h5 dX8_settle_64 ?_
          refine lv_ineg hx hb dX8_settle_65 ?_
          obtain ⟨_, u6, hc6, hf⟩ := obind_s hf
          refine g_doV0 hG (g_runV C0 hG (k_X8_emits l D base Z (sI u1 82 26 ((gI u1 82 26) - (1 : Int32))) (-(gA (sI u1 82 26 ((gI u1 82 26) - (1 : Int32))) 97 (gI (sI u1 82 26 ((gI u1 82 26) - (1 : Int32))) 82 26).toNatClampNeg)) u6 hc6) m_X8_emits v_X8_emits w_1186 (by decide) (g_recv C0 hG (L82 hG) rfl) rfl hl.1 rfl (Nat.le_of_ble_eq_true rfl) dX8_settle_66 ⟨Nat.zero_le _, Nat.zero_le _⟩) (fun H locs hG hk => ?_)
          refine lv_goto (tgt := 0) hx hb dX8_settle_69 (by decide) ?_
          have hf := while_l hX1 hf
          exact ih1 u6 _ _ ls hG (lv_sub hl [0, 1] rfl) hf
        · have hf := gif_f c4 hf
          refine lv_aload_n hx hb dX8_settle_23 rfl (lv_at hl 0 rfl) ?_
          refine g_getSa (o := 15) (a := 97) C0 hG (L82 hG) rfl 24 (by decide) rfl rfl w_870 dX8_settle_24 ?_
          refine lv_aload_n hx hb dX8_settle_27 rfl (lv_at hl 0 rfl) ?_
          refine g_getI C0 hG (L82 hG) rfl 26 (by decide) rfl w_872 dX8_settle_28 ?_
          refine lv_iconst (v := (1 : Int32)) hx hb dX8_settle_31 (by decide) ?_
          refine lv_isub hx hb dX8_settle_32 ?_
          obtain ⟨h7, hf⟩ := gin_s hf
          refine g_iald C0 hG (L97 hG) h7 dX8_settle_33 ?_
          refine lv_bipush (v := (124 : Int32)) hx hb dX8_settle_34 (by decide) ?_
          refine lv_icmp_ne (tgt := 72) hx hb dX8_settle_36 (by decide) (fun c8 => ?_) (fun c8 => ?_)
          · have hf := gif_f c8 hf
            have hf := while_r hX1 hf
            obtain ⟨-, hu⟩ := gret_s hf
            subst hu
            subst hQ
            exact g_vret C0 hG hr dX8_settle_72
          · have hf := gif_t c8 hf
            refine lv_iload_n hx hb dX8_settle_39 rfl (lv_at hl 1 rfl) ?_
            refine lv_bipush (v := (38 : Int32)) hx hb dX8_settle_40 (by decide) ?_
            refine lv_icmp_eq (tgt := 72) hx hb dX8_settle_42 (by decide) (fun c9 => ?_) (fun c9 => ?_)
            · have hf := gif_t c9 hf
              have hf := while_r hX1 hf
              obtain ⟨-, hu⟩ := gret_s hf
              subst hu
              subst hQ
              exact g_vret C0 hG hr dX8_settle_72
            · have hf := gif_f c9 hf
              refine lv_aload_n hx hb dX8_settle_45 rfl (lv_at hl 0 rfl) ?_
              refine lv_dup hx hb dX8_settle_46 rfl ?_
              refine g_getI C0 hG (L82 hG) rfl 26 (by decide) rfl w_872 dX8_settle_47 ?_
              refine lv_iconst (v := (1 : Int32)) hx hb dX8_settle_50 (by decide) ?_
              refine lv_isub hx hb dX8_settle_51 ?_
              refine g_putI (ty := .int) C0 hG (L82 hG) rfl 26 (by decide) rfl w_872 rfl (by decide) rfl rfl dX8_settle_52 (fun H locs hG => ?_)
              refine lv_aload_n hx hb dX8_settle_55 rfl (lv_at hl 0 rfl) ?_
              refine lv_aload_n hx hb dX8_settle_56 rfl (lv_at hl 0 rfl) ?_
              refine g_getSa (o := 15) (a := 97) C0 hG (L82 hG) rfl 24 (by decide) rfl rfl w_870 dX8_settle_57 ?_
              refine lv_aload_n hx hb dX8_settle_60 rfl (lv_at hl 0 rfl) ?_
              refine g_getI C0 hG (L82 hG) rfl 26 (by decide) rfl w_872 dX8_settle_61 ?_
              obtain ⟨h10, hf⟩ := gin_s hf
              refine g_iald C0 hG (L97 hG) h10 dX8_settle_64 ?_
              refine lv_ineg hx hb dX8_settle_65 ?_
              obtain ⟨_, u11, hc11, hf⟩ := obind_s hf
              refine g_doV0 hG (g_runV C0 hG (k_X8_emits l D base Z (sI u1 82 26 ((gI u1 82 26) - (1 : Int32))) (-(gA (sI u1 82 26 ((gI u1 82 26) - (1 : Int32))) 97 (gI (sI u1 82 26 ((gI u1 82 26) - (1 : Int32))) 82 26).toNatClampNeg)) u11 hc11) m_X8_emits v_X8_emits w_1186 (by decide) (g_recv C0 hG (L82 hG) rfl) rfl hl.1 rfl (Nat.le_of_ble_eq_true rfl) dX8_settle_66 ⟨Nat.zero_le _, Nat.zero_le _⟩) (fun H locs hG hk => ?_)
              refine lv_goto (tgt := 0) hx hb dX8_settle_69 (by decide) ?_
              have hf := while_l hX1 hf
              exact ih1 u11 _ _ ls hG (lv_sub hl [0, 1] rfl) hf
  exact loop1 FUEL u _ _ ls hG (lv_sub hl [0, 1] rfl) hf
theorem dX8_place_0 : decode cX8_place 0 = .ok (.iload_n 1, 1) := by decide +kernel
theorem dX8_place_1 : decode cX8_place 1 = .ok (.tableswitch 75 107 118 #[65, 75, 73, 75, 71, 63, 75, 75, 75, 69, 75, 67], 63) := by decide +kernel
theorem dX8_place_64 : decode cX8_place 64 = .ok (.iconst 0, 1) := by decide +kernel
theorem dX8_place_65 : decode cX8_place 65 = .ok (.ireturn, 1) := by decide +kernel
theorem dX8_place_66 : decode cX8_place 66 = .ok (.iconst 1, 1) := by decide +kernel
theorem dX8_place_67 : decode cX8_place 67 = .ok (.ireturn, 1) := by decide +kernel
theorem dX8_place_68 : decode cX8_place 68 = .ok (.iconst 2, 1) := by decide +kernel
theorem dX8_place_69 : decode cX8_place 69 = .ok (.ireturn, 1) := by decide +kernel
theorem dX8_place_70 : decode cX8_place 70 = .ok (.iconst 3, 1) := by decide +kernel
theorem dX8_place_71 : decode cX8_place 71 = .ok (.ireturn, 1) := by decide +kernel
theorem dX8_place_72 : decode cX8_place 72 = .ok (.iconst 4, 1) := by decide +kernel
theorem dX8_place_73 : decode cX8_place 73 = .ok (.ireturn, 1) := by decide +kernel
theorem dX8_place_74 : decode cX8_place 74 = .ok (.iconst 5, 1) := by decide +kernel
theorem dX8_place_75 : decode cX8_place 75 = .ok (.ireturn, 1) := by decide +kernel
theorem dX8_place_76 : decode cX8_place 76 = .ok (.iconst (-1), 1) := by decide +kernel
theorem dX8_place_77 : decode cX8_place 77 = .ok (.ireturn, 1) := by decide +kernel
def f_X8_place (p1 : Int32) : Option (Int32) := (if p1 = (107 : Int32) then some (1 : Int32) else (if p1 = (109 : Int32) then some (5 : Int32) else (if p1 = (111 : Int32) then some (4 : Int32) else (if p1 = (112 : Int32) then some (0 : Int32) else (if p1 = (116 : Int32) then some (3 : Int32) else (if p1 = (118 : Int32) then some (2 : Int32) else some (-1 : Int32)))))))
set_option maxHeartbeats 4000000 in
set_option maxRecDepth 100000 in
theorem k_X8_place (l : Launch) (D : gDt) (base : Nat) (Z : gZt) (u : Mem) (p1 : Int32) (r : Int32) (hf : f_X8_place p1 = some r) : Met l yX8_place (gws yX8_place cX8_place 2 (some .int)) (gRm 1 0 0) (gPc D base Z u [.ref (base + 82), .int p1]) (gQi D base r u) 0 0 (gF base) := by
  refine Met.ofW (cc := cX8_place) (maxL := 2) (ret := some .int) (by decide) rfl ?_
  intro p e s m args below meth c s₁ B hml hv
  obtain ⟨rfl, C0, hG⟩ := g_enter B hml hv
  have hr := B.returns
  have C0 : gC p s m meth c _ cX8_place 2 RX8 D base Z := C0
  have hx := C0.1
  have hb := C0.2.1
  have hl := lv_entry ([.ref (base + 82), .int p1]) (n := 2) (Nat.le_of_ble_eq_true rfl)
  rw [lg_entry_eq]
  generalize (lg_sl ([.ref (base + 82), .int p1]) ++ List.replicate (2 - (lg_sl ([.ref (base + 82), .int p1])).length) Slot.unset).toArray = ls at hl ⊢
  have hl : lv_has ls 2 [(0, .ref (base + 82)), (1, .int p1)] := hl
  obtain ⟨Q, hQ⟩ : ∃ Q, Q = MQ below (gQi D base r u) ([.ref (base + 82), .int p1] : List Value).toArray s 0 0 (gF base) := ⟨_, rfl⟩
  rw [← hQ]
  change W p l e (gRm 1 0 0) s m _ below meth c _ _ _ _ _ _
  unfold f_X8_place at hf
  refine lv_iload_n hx hb dX8_place_0 rfl (lv_at hl 1 rfl) ?_
  refine (Decidable.em (p1 = (107 : Int32))).elim (fun c1 => ?_) (fun c1 => ?_)
  · have hf := gif_t c1 hf
    refine lv_tableIn (off := 65) (tgt := 66) hx hb dX8_place_1 (by rw [c1]; decide) (by rw [c1]; decide) (by rw [c1]; rfl) (by decide) ?_
    refine lv_iconst (v := (1 : Int32)) hx hb dX8_place_66 (by decide) ?_
    have hf := Option.some.inj hf
    subst hf
    subst hQ
    exact g_iret C0 hG hr dX8_place_67
  · have hf := gif_f c1 hf
    refine (Decidable.em (p1 = (109 : Int32))).elim (fun c2 => ?_) (fun c2 => ?_)
    · have hf := gif_t c2 hf
      refine lv_tableIn (off := 73) (tgt := 74) hx hb dX8_place_1 (by rw [c2]; decide) (by rw [c2]; decide) (by rw [c2]; rfl) (by decide) ?_
      refine lv_iconst (v := (5 : Int32)) hx hb dX8_place_74 (by decide) ?_
      have hf := Option.some.inj hf
      subst hf
      subst hQ
      exact g_iret C0 hG hr dX8_place_75
    · have hf := gif_f c2 hf
      refine (Decidable.em (p1 = (111 : Int32))).elim (fun c3 => ?_) (fun c3 => ?_)
      · have hf := gif_t c3 hf
        refine lv_tableIn (off := 71) (tgt := 72) hx hb dX8_place_1 (by rw [c3]; decide) (by rw [c3]; decide) (by rw [c3]; rfl) (by decide) ?_
        refine lv_iconst (v := (4 : Int32)) hx hb dX8_place_72 (by decide) ?_
        have hf := Option.some.inj hf
        subst hf
        subst hQ
        exact g_iret C0 hG hr dX8_place_73
      · have hf := gif_f c3 hf
        refine (Decidable.em (p1 = (112 : Int32))).elim (fun c4 => ?_) (fun c4 => ?_)
        · have hf := gif_t c4 hf
          refine lv_tableIn (off := 63) (tgt := 64) hx hb dX8_place_1 (by rw [c4]; decide) (by rw [c4]; decide) (by rw [c4]; rfl) (by decide) ?_
          refine lv_iconst (v := (0 : Int32)) hx hb dX8_place_64 (by decide) ?_
          have hf := Option.some.inj hf
          subst hf
          subst hQ
          exact g_iret C0 hG hr dX8_place_65
        · have hf := gif_f c4 hf
          refine (Decidable.em (p1 = (116 : Int32))).elim (fun c5 => ?_) (fun c5 => ?_)
          · have hf := gif_t c5 hf
            refine lv_tableIn (off := 69) (tgt := 70) hx hb dX8_place_1 (by rw [c5]; decide) (by rw [c5]; decide) (by rw [c5]; rfl) (by decide) ?_
            refine lv_iconst (v := (3 : Int32)) hx hb dX8_place_70 (by decide) ?_
            have hf := Option.some.inj hf
            subst hf
            subst hQ
            exact g_iret C0 hG hr dX8_place_71
          · have hf := gif_f c5 hf
            refine (Decidable.em (p1 = (118 : Int32))).elim (fun c6 => ?_) (fun c6 => ?_)
            · have hf := gif_t c6 hf
              refine lv_tableIn (off := 67) (tgt := 68) hx hb dX8_place_1 (by rw [c6]; decide) (by rw [c6]; decide) (by rw [c6]; rfl) (by decide) ?_
              refine lv_iconst (v := (2 : Int32)) hx hb dX8_place_68 (by decide) ?_
              have hf := Option.some.inj hf
              subst hf
              subst hQ
              exact g_iret C0 hG hr dX8_place_69
            · have hf := gif_f c6 hf
              refine gsw_def (lo := 107) (hi := 118) (tgt := 76) hx hb dX8_place_1 (by
                  have n0 := lv_neT c1 (k := (107 : Int32)) (a := 107) (by decide)
                  have n1 := lv_neT c2 (k := (109 : Int32)) (a := 109) (by decide)
                  have n2 := lv_neT c3 (k := (111 : Int32)) (a := 111) (by decide)
                  have n3 := lv_neT c4 (k := (112 : Int32)) (a := 112) (by decide)
                  have n4 := lv_neT c5 (k := (116 : Int32)) (a := 116) (by decide)
                  have n5 := lv_neT c6 (k := (118 : Int32)) (a := 118) (by decide)
                  intro h1 h2
                  have h3 : p1.toInt = 108 ∨ p1.toInt = 110 ∨ p1.toInt = 113 ∨ p1.toInt = 114 ∨ p1.toInt = 115 ∨ p1.toInt = 117 := by omega
                  rcases h3 with h3 | h3 | h3 | h3 | h3 | h3 <;> (rw [h3]; rfl)) (by decide) ?_
              refine lv_iconst (v := (-1 : Int32)) hx hb dX8_place_76 (by decide) ?_
              have hf := Option.some.inj hf
              subst hf
              subst hQ
              exact g_iret C0 hG hr dX8_place_77
theorem dX8_takesTest_0 : decode cX8_takesTest 0 = .ok (.aload_n 0, 1) := by decide +kernel
theorem dX8_takesTest_1 : decode cX8_takesTest 1 = .ok (.aload_n 0, 1) := by decide +kernel
theorem dX8_takesTest_2 : decode cX8_takesTest 2 = .ok (.invokevirtual 270, 3) := by decide +kernel
theorem dX8_takesTest_5 : decode cX8_takesTest 5 = .ok (.invokevirtual 285, 3) := by decide +kernel
theorem dX8_takesTest_8 : decode cX8_takesTest 8 = .ok (.istore_n 1, 1) := by decide +kernel
theorem dX8_takesTest_9 : decode cX8_takesTest 9 = .ok (.iload_n 1, 1) := by decide +kernel
theorem dX8_takesTest_10 : decode cX8_takesTest 10 = .ok (.ifCond .ge 5, 3) := by decide +kernel
theorem dX8_takesTest_13 : decode cX8_takesTest 13 = .ok (.iconst 0, 1) := by decide +kernel
theorem dX8_takesTest_14 : decode cX8_takesTest 14 = .ok (.ireturn, 1) := by decide +kernel
theorem dX8_takesTest_15 : decode cX8_takesTest 15 = .ok (.aload_n 0, 1) := by decide +kernel
theorem dX8_takesTest_16 : decode cX8_takesTest 16 = .ok (.dup, 1) := by decide +kernel
theorem dX8_takesTest_17 : decode cX8_takesTest 17 = .ok (.getfield 56, 3) := by decide +kernel
theorem dX8_takesTest_20 : decode cX8_takesTest 20 = .ok (.iconst 1, 1) := by decide +kernel
theorem dX8_takesTest_21 : decode cX8_takesTest 21 = .ok (.iadd, 1) := by decide +kernel
theorem dX8_takesTest_22 : decode cX8_takesTest 22 = .ok (.putfield 56, 3) := by decide +kernel
theorem dX8_takesTest_25 : decode cX8_takesTest 25 = .ok (.aload_n 0, 1) := by decide +kernel
theorem dX8_takesTest_26 : decode cX8_takesTest 26 = .ok (.invokevirtual 270, 3) := by decide +kernel
theorem dX8_takesTest_29 : decode cX8_takesTest 29 = .ok (.istore_n 2, 1) := by decide +kernel
theorem dX8_takesTest_30 : decode cX8_takesTest 30 = .ok (.aload_n 0, 1) := by decide +kernel
theorem dX8_takesTest_31 : decode cX8_takesTest 31 = .ok (.iload_n 2, 1) := by decide +kernel
theorem dX8_takesTest_32 : decode cX8_takesTest 32 = .ok (.bipush 60, 2) := by decide +kernel
theorem dX8_takesTest_34 : decode cX8_takesTest 34 = .ok (.bipush 62, 2) := by decide +kernel
theorem dX8_takesTest_36 : decode cX8_takesTest 36 = .ok (.invokevirtual 249, 3) := by decide +kernel
theorem dX8_takesTest_39 : decode cX8_takesTest 39 = .ok (.ifCond .ne 5, 3) := by decide +kernel
theorem dX8_takesTest_42 : decode cX8_takesTest 42 = .ok (.iconst 0, 1) := by decide +kernel
theorem dX8_takesTest_43 : decode cX8_takesTest 43 = .ok (.ireturn, 1) := by decide +kernel
theorem dX8_takesTest_44 : decode cX8_takesTest 44 = .ok (.aload_n 0, 1) := by decide +kernel
theorem dX8_takesTest_45 : decode cX8_takesTest 45 = .ok (.dup, 1) := by decide +kernel
theorem dX8_takesTest_46 : decode cX8_takesTest 46 = .ok (.getfield 56, 3) := by decide +kernel
theorem dX8_takesTest_49 : decode cX8_takesTest 49 = .ok (.iconst 1, 1) := by decide +kernel
theorem dX8_takesTest_50 : decode cX8_takesTest 50 = .ok (.iadd, 1) := by decide +kernel
theorem dX8_takesTest_51 : decode cX8_takesTest 51 = .ok (.putfield 56, 3) := by decide +kernel
theorem dX8_takesTest_54 : decode cX8_takesTest 54 = .ok (.aload_n 0, 1) := by decide +kernel
theorem dX8_takesTest_55 : decode cX8_takesTest 55 = .ok (.invokevirtual 289, 3) := by decide +kernel
theorem dX8_takesTest_58 : decode cX8_takesTest 58 = .ok (.ifCond .ne 5, 3) := by decide +kernel
theorem dX8_takesTest_61 : decode cX8_takesTest 61 = .ok (.iconst 0, 1) := by decide +kernel
theorem dX8_takesTest_62 : decode cX8_takesTest 62 = .ok (.ireturn, 1) := by decide +kernel
theorem dX8_takesTest_63 : decode cX8_takesTest 63 = .ok (.aload_n 0, 1) := by decide +kernel
theorem dX8_takesTest_64 : decode cX8_takesTest 64 = .ok (.sipush 1000, 3) := by decide +kernel
theorem dX8_takesTest_67 : decode cX8_takesTest 67 = .ok (.iload_n 1, 1) := by decide +kernel
theorem dX8_takesTest_68 : decode cX8_takesTest 68 = .ok (.imul, 1) := by decide +kernel
theorem dX8_takesTest_69 : decode cX8_takesTest 69 = .ok (.bipush 100, 2) := by decide +kernel
theorem dX8_takesTest_71 : decode cX8_takesTest 71 = .ok (.iload_n 2, 1) := by decide +kernel
theorem dX8_takesTest_72 : decode cX8_takesTest 72 = .ok (.bipush 60, 2) := by decide +kernel
theorem dX8_takesTest_74 : decode cX8_takesTest 74 = .ok (.isub, 1) := by decide +kernel
theorem dX8_takesTest_75 : decode cX8_takesTest 75 = .ok (.imul, 1) := by decide +kernel
theorem dX8_takesTest_76 : decode cX8_takesTest 76 = .ok (.iadd, 1) := by decide +kernel
theorem dX8_takesTest_77 : decode cX8_takesTest 77 = .ok (.aload_n 0, 1) := by decide +kernel
theorem dX8_takesTest_78 : decode cX8_takesTest 78 = .ok (.getfield 59, 3) := by decide +kernel
theorem dX8_takesTest_81 : decode cX8_takesTest 81 = .ok (.iadd, 1) := by decide +kernel
theorem dX8_takesTest_82 : decode cX8_takesTest 82 = .ok (.invokevirtual 281, 3) := by decide +kernel
theorem dX8_takesTest_85 : decode cX8_takesTest 85 = .ok (.aload_n 0, 1) := by decide +kernel
theorem dX8_takesTest_86 : decode cX8_takesTest 86 = .ok (.invokevirtual 292, 3) := by decide +kernel
theorem dX8_takesTest_89 : decode cX8_takesTest 89 = .ok (.iconst 1, 1) := by decide +kernel
theorem dX8_takesTest_90 : decode cX8_takesTest 90 = .ok (.ireturn, 1) := by decide +kernel
def f_X8_takesTest (u : Mem) : Option (Int32 × Mem) := Option.bind (f_X8_next u) (fun r1 => Option.bind (f_X8_place r1) (fun r2 => (if 0 ≤ r2 then Option.bind (f_X8_next (sI u 82 15 ((gI u 82 15) + (1 : Int32)))) (fun r4 => Option.bind (f_X8_in r4 (60 : Int32) (62 : Int32)) (fun r5 => (if r5 = 0 then some ((0 : Int32), sI u 82 15 ((gI u 82 15) + (1 : Int32))) else obind (f_X8_takesNumber (sI (sI u 82 15 ((gI u 82 15) + (1 : Int32))) 82 15 ((gI (sI u 82 15 ((gI u 82 15) + (1 : Int32))) 82 15) + (1 : Int32)))) (fun r7 u7 => (if r7 = 0 then some ((0 : Int32), u7) else obind (f_X8_emits ((((1000 : Int32) * r2) + ((100 : Int32) * (r4 - (60 : Int32)))) + (gI u7 82 16)) u7) (fun _ u9 => obind (f_X8_whole u9) (fun _ u10 => some ((1 : Int32), u10)))))))) else some ((0 : Int32), u))))
set_option maxHeartbeats 4000000 in
set_option maxRecDepth 100000 in
theorem k_X8_takesTest (l : Launch) (D : gDt) (base : Nat) (Z : gZt) (u : Mem) (r : Int32) (u' : Mem) (hf : f_X8_takesTest u = some (r, u')) : Met l yX8_takesTest (gws yX8_takesTest cX8_takesTest 3 (some .boolean)) (gRm 4 0 0) (gPc D base Z u [.ref (base + 82)]) (gQi D base r u') 0 0 (gF base) := by
  refine Met.ofW (cc := cX8_takesTest) (maxL := 3) (ret := some .boolean) (by decide) rfl ?_
  intro p e s m args below meth c s₁ B hml hv
  obtain ⟨rfl, C0, hG⟩ := g_enter B hml hv
  have hr := B.returns
  have C0 : gC p s m meth c _ cX8_takesTest 3 RX8 D base Z := C0
  have hx := C0.1
  have hb := C0.2.1
  have hl := lv_entry ([.ref (base + 82)]) (n := 3) (Nat.le_of_ble_eq_true rfl)
  rw [lg_entry_eq]
  generalize (lg_sl ([.ref (base + 82)]) ++ List.replicate (3 - (lg_sl ([.ref (base + 82)])).length) Slot.unset).toArray = ls at hl ⊢
  have hl : lv_has ls 3 [(0, .ref (base + 82))] := hl
  obtain ⟨Q, hQ⟩ : ∃ Q, Q = MQ below (gQi D base r u') ([.ref (base + 82)] : List Value).toArray s 0 0 (gF base) := ⟨_, rfl⟩
  rw [← hQ]
  change W p l e (gRm 4 0 0) s m _ below meth c _ _ _ _ _ _
  unfold f_X8_takesTest at hf
  refine lv_aload_n hx hb dX8_takesTest_0 rfl (lv_at hl 0 rfl) ?_
  refine lv_aload_n hx hb dX8_takesTest_1 rfl (lv_at hl 0 rfl) ?_
  obtain ⟨r1, hc1, hf⟩ := pb_s hf
  refine g_doI0 hG (g_runV C0 hG (k_X8_next l D base Z u r1 hc1) m_X8_next v_X8_next w_1150 (by decide) (g_recv C0 hG (L82 hG) rfl) rfl hl.1 rfl (Nat.le_of_ble_eq_true rfl) dX8_takesTest_2 ⟨Nat.zero_le _, Nat.zero_le _⟩) (fun H locs hG hk => ?_)
  obtain ⟨r2, hc2, hf⟩ := pb_s hf
  refine g_doI0 hG (g_runV C0 hG (k_X8_place l D base Z u r1 r2 hc2) m_X8_place v_X8_place w_1182 (by decide) (g_recv C0 hG (L82 hG) rfl) rfl hl.1 rfl (Nat.le_of_ble_eq_true rfl) dX8_takesTest_5 ⟨Nat.zero_le _, Nat.zero_le _⟩) (fun H locs hG hk => ?_)
  refine lv_istore_n (lv' := [(1, .int r2), (0, .ref (base + 82))]) hx hb dX8_takesTest_8 rfl hl (by decide) rfl (fun ls hl => ?_)
  refine lv_iload_n hx hb dX8_takesTest_9 rfl (lv_at hl 0 rfl) ?_
  refine lv_if_ge (tgt := 15) hx hb dX8_takesTest_10 (by decide) (fun c3 => ?_) (fun c3 => ?_)
  · have hf := gif_t c3 hf
    refine lv_aload_n hx hb dX8_takesTest_15 rfl (lv_at hl 1 rfl) ?_
    refine lv_dup hx hb dX8_takesTest_16 rfl ?_
    refine g_getI C0 hG (L82 hG) rfl 15 (by decide) rfl w_861 dX8_takesTest_17 ?_
    refine lv_iconst (v := (1 : Int32)) hx hb dX8_takesTest_20 (by decide) ?_
    refine lv_iadd hx hb dX8_takesTest_21 ?_
    refine g_putI (ty := .int) C0 hG (L82 hG) rfl 15 (by decide) rfl w_861 rfl (by decide) rfl rfl dX8_takesTest_22 (fun H locs hG => ?_)
    refine lv_aload_n hx hb dX8_takesTest_25 rfl (lv_at hl 1 rfl) ?_
    obtain ⟨r4, hc4, hf⟩ := pb_s hf
    refine g_doI0 hG (g_runV C0 hG (k_X8_next l D base Z (sI u 82 15 ((gI u 82 15) + (1 : Int32))) r4 hc4) m_X8_next v_X8_next w_1150 (by decide) (g_recv C0 hG (L82 hG) rfl) rfl hl.1 rfl (Nat.le_of_ble_eq_true rfl) dX8_takesTest_26 ⟨Nat.zero_le _, Nat.zero_le _⟩) (fun H locs hG hk => ?_)
    refine lv_istore_n (lv' := [(2, .int r4), (1, .int r2), (0, .ref (base + 82))]) hx hb dX8_takesTest_29 rfl hl (by decide) rfl (fun ls hl => ?_)
    refine lv_aload_n hx hb dX8_takesTest_30 rfl (lv_at hl 2 rfl) ?_
    refine lv_iload_n hx hb dX8_takesTest_31 rfl (lv_at hl 0 rfl) ?_
    refine lv_bipush (v := (60 : Int32)) hx hb dX8_takesTest_32 (by decide) ?_
    refine lv_bipush (v := (62 : Int32)) hx hb dX8_takesTest_34 (by decide) ?_
    obtain ⟨r5, hc5, hf⟩ := pb_s hf
    refine g_doI0 hG (g_runV C0 hG (k_X8_in l D base Z (sI u 82 15 ((gI u 82 15) + (1 : Int32))) r4 (60 : Int32) (62 : Int32) r5 hc5) m_X8_in v_X8_in w_1082 (by decide) (g_recv C0 hG (L82 hG) rfl) rfl hl.1 rfl (Nat.le_of_ble_eq_true rfl) dX8_takesTest_36 ⟨Nat.zero_le _, Nat.zero_le _⟩) (fun H locs hG hk => ?_)
    refine lv_if_ne (tgt := 44) hx hb dX8_takesTest_39 (by decide) (fun c6 => ?_) (fun c6 => ?_)
    · have hf := gif_f c6 hf
      refine lv_aload_n hx hb dX8_takesTest_44 rfl (lv_at hl 2 rfl) ?_
      refine lv_dup hx hb dX8_takesTest_45 rfl ?_
      refine g_getI C0 hG (L82 hG) rfl 15 (by decide) rfl w_861 dX8_takesTest_46 ?_
      refine lv_iconst (v := (1 : Int32)) hx hb dX8_takesTest_49 (by decide) ?_
      refine lv_iadd hx hb dX8_takesTest_50 ?_
      refine g_putI (ty := .int) C0 hG (L82 hG) rfl 15 (by decide) rfl w_861 rfl (by decide) rfl rfl dX8_takesTest_51 (fun H locs hG => ?_)
      refine lv_aload_n hx hb dX8_takesTest_54 rfl (lv_at hl 2 rfl) ?_
      obtain ⟨r7, u7, hc7, hf⟩ := obind_s hf
      refine g_doI0 hG (g_runV C0 hG (k_X8_takesNumber l D base Z (sI (sI u 82 15 ((gI u 82 15) + (1 : Int32))) 82 15 ((gI (sI u 82 15 ((gI u 82 15) + (1 : Int32))) 82 15) + (1 : Int32))) r7 u7 hc7) m_X8_takesNumber v_X8_takesNumber w_1166 (by decide) (g_recv C0 hG (L82 hG) rfl) rfl hl.1 rfl (Nat.le_of_ble_eq_true rfl) dX8_takesTest_55 ⟨Nat.zero_le _, Nat.zero_le _⟩) (fun H locs hG hk => ?_)
      refine lv_if_ne (tgt := 63) hx hb dX8_takesTest_58 (by decide) (fun c8 => ?_) (fun c8 => ?_)
      · have hf := gif_f c8 hf
        refine lv_aload_n hx hb dX8_takesTest_63 rfl (lv_at hl 2 rfl) ?_
        refine lv_sipush (v := (1000 : Int32)) hx hb dX8_takesTest_64 (by decide) ?_
        refine lv_iload_n hx hb dX8_takesTest_67 rfl (lv_at hl 1 rfl) ?_
        refine lv_imul hx hb dX8_takesTest_68 ?_
        refine lv_bipush (v := (100 : Int32)) hx hb dX8_takesTest_69 (by decide) ?_
        refine lv_iload_n hx hb dX8_takesTest_71 rfl (lv_at hl 0 rfl) ?_
        refine lv_bipush (v := (60 : Int32)) hx hb dX8_takesTest_72 (by decide) ?_
        refine lv_isub hx hb dX8_takesTest_74 ?_
        refine lv_imul hx hb dX8_takesTest_75 ?_
        refine lv_iadd hx hb dX8_takesTest_76 ?_
        refine lv_aload_n hx hb dX8_takesTest_77 rfl (lv_at hl 2 rfl) ?_
        refine g_getI C0 hG (L82 hG) rfl 16 (by decide) rfl w_862 dX8_takesTest_78 ?_
        refine lv_iadd hx hb dX8_takesTest_81 ?_
        obtain ⟨_, u9, hc9, hf⟩ := obind_s hf
        refine g_doV0 hG (g_runV C0 hG (k_X8_emits l D base Z u7 ((((1000 : Int32) * r2) + ((100 : Int32) * (r4 - (60 : Int32)))) + (gI u7 82 16)) u9 hc9) m_X8_emits v_X8_emits w_1186 (by decide) (g_recv C0 hG (L82 hG) rfl) rfl hl.1 rfl (Nat.le_of_ble_eq_true rfl) dX8_takesTest_82 ⟨Nat.zero_le _, Nat.zero_le _⟩) (fun H locs hG hk => ?_)
        refine lv_aload_n hx hb dX8_takesTest_85 rfl (lv_at hl 2 rfl) ?_
        obtain ⟨_, u10, hc10, hf⟩ := obind_s hf
        refine g_doV0 hG (g_runV C0 hG (k_X8_whole l D base Z u9 u10 hc10) m_X8_whole v_X8_whole w_1190 (by decide) (g_recv C0 hG (L82 hG) rfl) rfl hl.1 rfl (Nat.le_of_ble_eq_true rfl) dX8_takesTest_86 ⟨Nat.zero_le _, Nat.zero_le _⟩) (fun H locs hG hk => ?_)
        refine lv_iconst (v := (1 : Int32)) hx hb dX8_takesTest_89 (by decide) ?_
        obtain ⟨hr1, hu⟩ := gret_s hf
        subst hr1
        subst hu
        subst hQ
        exact g_zret C0 hG hr (by decide) dX8_takesTest_90
      · have hf := gif_t c8 hf
        refine lv_iconst (v := (0 : Int32)) hx hb dX8_takesTest_61 (by decide) ?_
        obtain ⟨hr1, hu⟩ := gret_s hf
        subst hr1
        subst hu
        subst hQ
        exact g_zret C0 hG hr (by decide) dX8_takesTest_62
    · have hf := gif_t c6 hf
      refine lv_iconst (v := (0 : Int32)) hx hb dX8_takesTest_42 (by decide) ?_
      obtain ⟨hr1, hu⟩ := gret_s hf
      subst hr1
      subst hu
      subst hQ
      exact g_zret C0 hG hr (by decide) dX8_takesTest_43
  · have hf := gif_f c3 hf
    refine lv_iconst (v := (0 : Int32)) hx hb dX8_takesTest_13 (by decide) ?_
    obtain ⟨hr1, hu⟩ := gret_s hf
    subst hr1
    subst hu
    subst hQ
    exact g_zret C0 hG hr (by decide) dX8_takesTest_14
