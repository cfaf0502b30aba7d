theorem dX8_tells_0 : decode cX8_tells 0 = .ok (.bipush (-5), 2) := by decide +kernel
theorem dX8_tells_2 : decode cX8_tells 2 = .ok (.istore_n 2, 1) := by decide +kernel
theorem dX8_tells_3 : decode cX8_tells 3 = .ok (.iconst 0, 1) := by decide +kernel
theorem dX8_tells_4 : decode cX8_tells 4 = .ok (.istore_n 3, 1) := by decide +kernel
theorem dX8_tells_5 : decode cX8_tells 5 = .ok (.iconst 0, 1) := by decide +kernel
theorem dX8_tells_6 : decode cX8_tells 6 = .ok (.istore 4, 2) := by decide +kernel
theorem dX8_tells_8 : decode cX8_tells 8 = .ok (.iload 4, 2) := by decide +kernel
theorem dX8_tells_10 : decode cX8_tells 10 = .ok (.bipush 8, 2) := by decide +kernel
theorem dX8_tells_12 : decode cX8_tells 12 = .ok (.if_icmp .ge 51, 3) := by decide +kernel
theorem dX8_tells_15 : decode cX8_tells 15 = .ok (.aload_n 0, 1) := by decide +kernel
theorem dX8_tells_16 : decode cX8_tells 16 = .ok (.aload_n 0, 1) := by decide +kernel
theorem dX8_tells_17 : decode cX8_tells 17 = .ok (.getfield 35, 3) := by decide +kernel
theorem dX8_tells_20 : decode cX8_tells 20 = .ok (.iload_n 1, 1) := by decide +kernel
theorem dX8_tells_21 : decode cX8_tells 21 = .ok (.iaload, 1) := by decide +kernel
theorem dX8_tells_22 : decode cX8_tells 22 = .ok (.iload 4, 2) := by decide +kernel
theorem dX8_tells_24 : decode cX8_tells 24 = .ok (.invokevirtual 245, 3) := by decide +kernel
theorem dX8_tells_27 : decode cX8_tells 27 = .ok (.ifCond .ne 6, 3) := by decide +kernel
theorem dX8_tells_30 : decode cX8_tells 30 = .ok (.goto 27, 3) := by decide +kernel
theorem dX8_tells_33 : decode cX8_tells 33 = .ok (.aload_n 0, 1) := by decide +kernel
theorem dX8_tells_34 : decode cX8_tells 34 = .ok (.iload_n 1, 1) := by decide +kernel
theorem dX8_tells_35 : decode cX8_tells 35 = .ok (.iload 4, 2) := by decide +kernel
theorem dX8_tells_37 : decode cX8_tells 37 = .ok (.invokevirtual 336, 3) := by decide +kernel
theorem dX8_tells_40 : decode cX8_tells 40 = .ok (.istore 5, 2) := by decide +kernel
theorem dX8_tells_42 : decode cX8_tells 42 = .ok (.iload 5, 2) := by decide +kernel
theorem dX8_tells_44 : decode cX8_tells 44 = .ok (.iload_n 3, 1) := by decide +kernel
theorem dX8_tells_45 : decode cX8_tells 45 = .ok (.if_icmp .gt 6, 3) := by decide +kernel
theorem dX8_tells_48 : decode cX8_tells 48 = .ok (.goto 9, 3) := by decide +kernel
theorem dX8_tells_51 : decode cX8_tells 51 = .ok (.iload 4, 2) := by decide +kernel
theorem dX8_tells_53 : decode cX8_tells 53 = .ok (.istore_n 2, 1) := by decide +kernel
theorem dX8_tells_54 : decode cX8_tells 54 = .ok (.iload 5, 2) := by decide +kernel
theorem dX8_tells_56 : decode cX8_tells 56 = .ok (.istore_n 3, 1) := by decide +kernel
theorem dX8_tells_57 : decode cX8_tells 57 = .ok (.iinc 4 1, 3) := by decide +kernel
theorem dX8_tells_60 : decode cX8_tells 60 = .ok (.goto (-52), 3) := by decide +kernel
theorem dX8_tells_63 : decode cX8_tells 63 = .ok (.iload_n 2, 1) := by decide +kernel
theorem dX8_tells_64 : decode cX8_tells 64 = .ok (.ireturn, 1) := by decide +kernel
def f_X8_tells_L8 (p1 : Int32) (x2_1 : Int32) (x3_1 : Int32) (x4_1 : Int32) (u1 : Mem) : Option ((Int32 × Int32 × Int32 × Mem) ⊕ (Int32 × Mem)) := (if (8 : Int32) ≤ x4_1 then some (Sum.inr (x2_1, u1)) else gin p1 6 (Option.bind (f_X8_has (gA u1 86 p1.toNatClampNeg) x4_1) (fun r4 => (if r4 = 0 then some (Sum.inl (x2_1, (x3_1, (x4_1 + (1 : Int32), u1)))) else obind (f_X8_glow p1 x4_1 u1) (fun r6 u6 => (if x3_1 < r6 then some (Sum.inl (x4_1, (r6, (x4_1 + (1 : Int32), u6)))) else some (Sum.inl (x2_1, (x3_1, (x4_1 + (1 : Int32), u6))))))))))
def f_X8_tells (p1 : Int32) (u : Mem) : Option (Int32 × Mem) := whileO (fun s => f_X8_tells_L8 p1 s.1 s.2.1 s.2.2.1 s.2.2.2) FUEL ((-5 : Int32), ((0 : Int32), ((0 : Int32), u)))
set_option maxHeartbeats 4000000 in
set_option maxRecDepth 100000 in
theorem k_X8_tells (l : Launch) (D : gDt) (base : Nat) (Z : gZt) (u : Mem) (p1 : Int32) (r : Int32) (u' : Mem) (hf : f_X8_tells p1 u = some (r, u')) : Met l yX8_tells (gws yX8_tells cX8_tells 6 (some .int)) (gRm 5 0 0) (gPc D base Z u [.ref (base + 82), .int p1]) (gQi D base r u') 0 0 (gF base) := by
  refine Met.ofW (cc := cX8_tells) (maxL := 6) (ret := some .int) (by decide) rfl ?_
  intro p e s m args below meth c s₁ B hml hv
  obtain ⟨rfl, C0, hG⟩ := g_enter B hml hv
  have hr := B.returns
  have C0 : gC p s m meth c _ cX8_tells 6 RX8 D base Z := C0
  have hx := C0.1
  have hb := C0.2.1
  have hl := lv_entry ([.ref (base + 82), .int p1]) (n := 6) (Nat.le_of_ble_eq_true rfl)
  rw [lg_entry_eq]
  generalize (lg_sl ([.ref (base + 82), .int p1]) ++ List.replicate (6 - (lg_sl ([.ref (base + 82), .int p1])).length) Slot.unset).toArray = ls at hl ⊢
  have hl : lv_has ls 6 [(0, .ref (base + 82)), (1, .int p1)] := hl
  obtain ⟨Q, hQ⟩ : ∃ Q, Q = MQ below (gQi D base r u') ([.ref (base + 82), .int p1] : List Value).toArray s 0 0 (gF base) := ⟨_, rfl⟩
  rw [← hQ]
  change W p l e (gRm 5 0 0) s m _ below meth c _ _ _ _ _ _
  unfold f_X8_tells at hf
  refine lv_bipush (v := (-5 : Int32)) hx hb dX8_tells_0 (by decide) ?_
  refine lv_istore_n (lv' := [(2, .int (-5 : Int32)), (0, .ref (base + 82)), (1, .int p1)]) hx hb dX8_tells_2 rfl hl (by decide) rfl (fun ls hl => ?_)
  refine lv_iconst (v := (0 : Int32)) hx hb dX8_tells_3 (by decide) ?_
  refine lv_istore_n (lv' := [(3, .int (0 : Int32)), (2, .int (-5 : Int32)), (0, .ref (base + 82)), (1, .int p1)]) hx hb dX8_tells_4 rfl hl (by decide) rfl (fun ls hl => ?_)
  refine lv_iconst (v := (0 : Int32)) hx hb dX8_tells_5 (by decide) ?_
  refine lv_istore (lv' := [(4, .int (0 : Int32)), (3, .int (0 : Int32)), (2, .int (-5 : Int32)), (0, .ref (base + 82)), (1, .int p1)]) hx hb dX8_tells_6 hl (by decide) rfl (fun ls hl => ?_)
  have loop1 : ∀ (n1 : Nat) (x2_1 : Int32) (x3_1 : Int32) (x4_1 : Int32) (u1 : Mem) (H : Heap) (locs : List Loc) (ls : Array Slot), gH D base s u1 H locs → lv_has ls 6 [(0, .ref (base + 82)), (1, .int p1), (2, .int x2_1), (3, .int x3_1), (4, .int x4_1)] → whileO (fun s => f_X8_tells_L8 p1 s.1 s.2.1 s.2.2.1 s.2.2.2) n1 (x2_1, (x3_1, (x4_1, u1))) = some (r, u') → W p l e (gRm 5 0 0) s m ([.ref (base + 82), .int p1] : List Value).toArray below meth c H locs 0 0 Q (F0 m 8 ls []) := by
    intro n1
    induction n1 with
    | zero => intro x2_1 x3_1 x4_1 u1 H locs ls hG hl hf; cases hf
    | succ n1 ih1 =>
      intro x2_1 x3_1 x4_1 u1 H locs ls hG hl hf
      obtain ⟨X1, hf, hX1⟩ := while_s hf
      have hf : f_X8_tells_L8 p1 x2_1 x3_1 x4_1 u1 = some X1 := hf
      unfold f_X8_tells_L8 at hf
      refine lv_iload hx hb dX8_tells_8 (lv_at hl 4 rfl) ?_
      refine lv_bipush (v := (8 : Int32)) hx hb dX8_tells_10 (by decide) ?_
      refine lv_icmp_ge (tgt := 63) hx hb dX8_tells_12 (by decide) (fun c2 => ?_) (fun c2 => ?_)
      · have hf := gif_t c2 hf
        refine lv_iload_n hx hb dX8_tells_63 rfl (lv_at hl 2 rfl) ?_
        have hf := while_r hX1 hf
        obtain ⟨hr1, hu⟩ := gret_s hf
        subst hr1
        subst hu
        subst hQ
        exact g_iret C0 hG hr dX8_tells_64
      · have hf := gif_f c2 hf
        refine lv_aload_n hx hb dX8_tells_15 rfl (lv_at hl 0 rfl) ?_
        refine lv_aload_n hx hb dX8_tells_16 rfl (lv_at hl 0 rfl) ?_
        refine g_getSa (o := 4) (a := 86) C0 hG (L82 hG) rfl 8 (by decide) rfl rfl w_854 dX8_tells_17 ?_
        refine lv_iload_n hx hb dX8_tells_20 rfl (lv_at hl 1 rfl) ?_
        obtain ⟨h3, hf⟩ := gin_s hf
        refine g_iald C0 hG (L86 hG) h3 dX8_tells_21 ?_
        refine lv_iload hx hb dX8_tells_22 (lv_at hl 4 rfl) ?_
        obtain ⟨r4, hc4, hf⟩ := pb_s hf
        refine g_doI0 hG (g_runV C0 hG (k_X8_has l D base Z u1 (gA u1 86 p1.toNatClampNeg) x4_1 r4 hc4) m_X8_has v_X8_has w_1110 (by decide) (g_recv C0 hG (L82 hG) rfl) rfl hl.1 rfl (Nat.le_of_ble_eq_true rfl) dX8_tells_24 ⟨Nat.zero_le _, Nat.zero_le _⟩) (fun H locs hG hk => ?_)
        refine lv_if_ne (tgt := 33) hx hb dX8_tells_27 (by decide) (fun c5 => ?_) (fun c5 => ?_)
        · have hf := gif_f c5 hf
          refine lv_aload_n hx hb dX8_tells_33 rfl (lv_at hl 0 rfl) ?_
          refine lv_iload_n hx hb dX8_tells_34 rfl (lv_at hl 1 rfl) ?_
          refine lv_iload hx hb dX8_tells_35 (lv_at hl 4 rfl) ?_
          obtain ⟨r6, u6, hc6, hf⟩ := obind_s hf
          refine g_doI0 hG (g_runV C0 hG (k_X8_glow l D base Z u1 p1 x4_1 r6 u6 hc6) m_X8_glow v_X8_glow w_1202 (by decide) (g_recv C0 hG (L82 hG) rfl) rfl hl.1 rfl (Nat.le_of_ble_eq_true rfl) dX8_tells_37 ⟨Nat.zero_le _, Nat.zero_le _⟩) (fun H locs hG hk => ?_)
          refine lv_istore (lv' := [(5, .int r6), (0, .ref (base + 82)), (1, .int p1), (2, .int x2_1), (3, .int x3_1), (4, .int x4_1)]) hx hb dX8_tells_40 hl (by decide) rfl (fun ls hl => ?_)
          refine lv_iload hx hb dX8_tells_42 (lv_at hl 0 rfl) ?_
          refine lv_iload_n hx hb dX8_tells_44 rfl (lv_at hl 4 rfl) ?_
          refine lv_icmp_gt (tgt := 51) hx hb dX8_tells_45 (by decide) (fun c7 => ?_) (fun c7 => ?_)
          · have hf := gif_t c7 hf
            refine lv_iload hx hb dX8_tells_51 (lv_at hl 5 rfl) ?_
            refine lv_istore_n (lv' := [(2, .int x4_1), (5, .int r6), (0, .ref (base + 82)), (1, .int p1), (3, .int x3_1), (4, .int x4_1)]) hx hb dX8_tells_53 rfl hl (by decide) rfl (fun ls hl => ?_)
            refine lv_iload hx hb dX8_tells_54 (lv_at hl 1 rfl) ?_
            refine lv_istore_n (lv' := [(3, .int r6), (2, .int x4_1), (5, .int r6), (0, .ref (base + 82)), (1, .int p1), (4, .int x4_1)]) hx hb dX8_tells_56 rfl hl (by decide) rfl (fun ls hl => ?_)
            refine lv_iinc (v := x4_1 + (1 : Int32)) (lv' := [(4, .int (x4_1 + (1 : Int32))), (3, .int r6), (2, .int x4_1), (5, .int r6), (0, .ref (base + 82)), (1, .int p1)]) hx hb dX8_tells_57 hl (k := 5) rfl rfl (by decide) rfl (fun ls hl => ?_)
            refine lv_goto (tgt := 8) hx hb dX8_tells_60 (by decide) ?_
            have hf := while_l hX1 hf
            exact ih1 x4_1 r6 (x4_1 + (1 : Int32)) u6 _ _ ls hG (lv_sub hl [4, 5, 2, 1, 0] rfl) hf
          · have hf := gif_f c7 hf
            refine lv_goto (tgt := 57) hx hb dX8_tells_48 (by decide) ?_
            refine lv_iinc (v := x4_1 + (1 : Int32)) (lv' := [(4, .int (x4_1 + (1 : Int32))), (5, .int r6), (0, .ref (base + 82)), (1, .int p1), (2, .int x2_1), (3, .int x3_1)]) hx hb dX8_tells_57 hl (k := 5) rfl rfl (by decide) rfl (fun ls hl => ?_)
            refine lv_goto (tgt := 8) hx hb dX8_tells_60 (by decide) ?_
            have hf := while_l hX1 hf
            exact ih1 x2_1 x3_1 (x4_1 + (1 : Int32)) u6 _ _ ls hG (lv_sub hl [2, 3, 4, 5, 0] rfl) hf
        · have hf := gif_t c5 hf
          refine lv_goto (tgt := 57) hx hb dX8_tells_30 (by decide) ?_
          refine lv_iinc (v := x4_1 + (1 : Int32)) (lv' := [(4, .int (x4_1 + (1 : Int32))), (0, .ref (base + 82)), (1, .int p1), (2, .int x2_1), (3, .int x3_1)]) hx hb dX8_tells_57 hl (k := 4) rfl rfl (by decide) rfl (fun ls hl => ?_)
          refine lv_goto (tgt := 8) hx hb dX8_tells_60 (by decide) ?_
          have hf := while_l hX1 hf
          exact ih1 x2_1 x3_1 (x4_1 + (1 : Int32)) u1 _ _ ls hG (lv_sub hl [1, 2, 3, 4, 0] rfl) hf
  exact loop1 FUEL (-5 : Int32) (0 : Int32) (0 : Int32) u _ _ ls hG (lv_sub hl [3, 4, 2, 1, 0] rfl) hf
theorem dX8_of_0 : decode cX8_of 0 = .ok (.aload_n 0, 1) := by decide +kernel
theorem dX8_of_1 : decode cX8_of 1 = .ok (.iload_n 1, 1) := by decide +kernel
theorem dX8_of_2 : decode cX8_of 2 = .ok (.invokevirtual 260, 3) := by decide +kernel
theorem dX8_of_5 : decode cX8_of 5 = .ok (.ifCond .ne 7, 3) := by decide +kernel
theorem dX8_of_8 : decode cX8_of 8 = .ok (.sipush (-10001), 3) := by decide +kernel
theorem dX8_of_11 : decode cX8_of 11 = .ok (.ireturn, 1) := by decide +kernel
theorem dX8_of_12 : decode cX8_of 12 = .ok (.aload_n 0, 1) := by decide +kernel
theorem dX8_of_13 : decode cX8_of 13 = .ok (.iload_n 2, 1) := by decide +kernel
theorem dX8_of_14 : decode cX8_of 14 = .ok (.bipush 10, 2) := by decide +kernel
theorem dX8_of_16 : decode cX8_of 16 = .ok (.bipush 17, 2) := by decide +kernel
theorem dX8_of_18 : decode cX8_of 18 = .ok (.invokevirtual 249, 3) := by decide +kernel
theorem dX8_of_21 : decode cX8_of 21 = .ok (.ifCond .eq 13, 3) := by decide +kernel
theorem dX8_of_24 : decode cX8_of 24 = .ok (.aload_n 0, 1) := by decide +kernel
theorem dX8_of_25 : decode cX8_of 25 = .ok (.iload_n 1, 1) := by decide +kernel
theorem dX8_of_26 : decode cX8_of 26 = .ok (.iload_n 2, 1) := by decide +kernel
theorem dX8_of_27 : decode cX8_of 27 = .ok (.bipush 10, 2) := by decide +kernel
theorem dX8_of_29 : decode cX8_of 29 = .ok (.isub, 1) := by decide +kernel
theorem dX8_of_30 : decode cX8_of 30 = .ok (.invokevirtual 336, 3) := by decide +kernel
theorem dX8_of_33 : decode cX8_of 33 = .ok (.ireturn, 1) := by decide +kernel
theorem dX8_of_34 : decode cX8_of 34 = .ok (.iload_n 2, 1) := by decide +kernel
theorem dX8_of_35 : decode cX8_of 35 = .ok (.tableswitch 89 0 5 #[37, 44, 51, 58, 65, 83], 37) := by decide +kernel
theorem dX8_of_72 : decode cX8_of 72 = .ok (.aload_n 0, 1) := by decide +kernel
theorem dX8_of_73 : decode cX8_of 73 = .ok (.getfield 25, 3) := by decide +kernel
theorem dX8_of_76 : decode cX8_of 76 = .ok (.iload_n 1, 1) := by decide +kernel
theorem dX8_of_77 : decode cX8_of 77 = .ok (.iaload, 1) := by decide +kernel
theorem dX8_of_78 : decode cX8_of 78 = .ok (.ireturn, 1) := by decide +kernel
theorem dX8_of_79 : decode cX8_of 79 = .ok (.aload_n 0, 1) := by decide +kernel
theorem dX8_of_80 : decode cX8_of 80 = .ok (.getfield 29, 3) := by decide +kernel
theorem dX8_of_83 : decode cX8_of 83 = .ok (.iload_n 1, 1) := by decide +kernel
theorem dX8_of_84 : decode cX8_of 84 = .ok (.iaload, 1) := by decide +kernel
theorem dX8_of_85 : decode cX8_of 85 = .ok (.ireturn, 1) := by decide +kernel
theorem dX8_of_86 : decode cX8_of 86 = .ok (.aload_n 0, 1) := by decide +kernel
theorem dX8_of_87 : decode cX8_of 87 = .ok (.getfield 32, 3) := by decide +kernel
theorem dX8_of_90 : decode cX8_of 90 = .ok (.iload_n 1, 1) := by decide +kernel
theorem dX8_of_91 : decode cX8_of 91 = .ok (.iaload, 1) := by decide +kernel
theorem dX8_of_92 : decode cX8_of 92 = .ok (.ireturn, 1) := by decide +kernel
theorem dX8_of_93 : decode cX8_of 93 = .ok (.aload_n 0, 1) := by decide +kernel
theorem dX8_of_94 : decode cX8_of 94 = .ok (.getfield 35, 3) := by decide +kernel
theorem dX8_of_97 : decode cX8_of 97 = .ok (.iload_n 1, 1) := by decide +kernel
theorem dX8_of_98 : decode cX8_of 98 = .ok (.iaload, 1) := by decide +kernel
theorem dX8_of_99 : decode cX8_of 99 = .ok (.ireturn, 1) := by decide +kernel
theorem dX8_of_100 : decode cX8_of 100 = .ok (.aload_n 0, 1) := by decide +kernel
theorem dX8_of_101 : decode cX8_of 101 = .ok (.aload_n 0, 1) := by decide +kernel
theorem dX8_of_102 : decode cX8_of 102 = .ok (.getfield 13, 3) := by decide +kernel
theorem dX8_of_105 : decode cX8_of 105 = .ok (.iload_n 1, 1) := by decide +kernel
theorem dX8_of_106 : decode cX8_of 106 = .ok (.invokevirtual 245, 3) := by decide +kernel
theorem dX8_of_109 : decode cX8_of 109 = .ok (.ifCond .eq 7, 3) := by decide +kernel
theorem dX8_of_112 : decode cX8_of 112 = .ok (.iconst 1, 1) := by decide +kernel
theorem dX8_of_113 : decode cX8_of 113 = .ok (.goto 4, 3) := by decide +kernel
theorem dX8_of_116 : decode cX8_of 116 = .ok (.iconst 0, 1) := by decide +kernel
theorem dX8_of_117 : decode cX8_of 117 = .ok (.ireturn, 1) := by decide +kernel
theorem dX8_of_118 : decode cX8_of 118 = .ok (.aload_n 0, 1) := by decide +kernel
theorem dX8_of_119 : decode cX8_of 119 = .ok (.iload_n 1, 1) := by decide +kernel
theorem dX8_of_120 : decode cX8_of 120 = .ok (.invokevirtual 339, 3) := by decide +kernel
theorem dX8_of_123 : decode cX8_of 123 = .ok (.ireturn, 1) := by decide +kernel
theorem dX8_of_124 : decode cX8_of 124 = .ok (.sipush (-10001), 3) := by decide +kernel
theorem dX8_of_127 : decode cX8_of 127 = .ok (.ireturn, 1) := by decide +kernel
def f_X8_of (p1 : Int32) (p2 : Int32) (u : Mem) : Option (Int32 × Mem) := Option.bind (f_X8_isOne p1 u) (fun r1 => (if r1 = 0 then some ((-10001 : Int32), u) else Option.bind (f_X8_in p2 (10 : Int32) (17 : Int32)) (fun r3 => (if r3 = 0 then (if p2 = (0 : Int32) then gin p1 6 (some (gA u 83 p1.toNatClampNeg, u)) else (if p2 = (1 : Int32) then gin p1 6 (some (gA u 84 p1.toNatClampNeg, u)) else (if p2 = (2 : Int32) then gin p1 6 (some (gA u 85 p1.toNatClampNeg, u)) else (if p2 = (3 : Int32) then gin p1 6 (some (gA u 86 p1.toNatClampNeg, u)) else (if p2 = (4 : Int32) then Option.bind (f_X8_has (gI u 82 1) p1) (fun r14 => (if r14 = 0 then some ((0 : Int32), u) else some ((1 : Int32), u))) else (if p2 = (5 : Int32) then obind (f_X8_tells p1 u) (fun r17 u17 => some (r17, u17)) else some ((-10001 : Int32), u))))))) else obind (f_X8_glow p1 (p2 - (10 : Int32)) u) (fun r18 u18 => some (r18, u18))))))
set_option maxHeartbeats 4000000 in
set_option maxRecDepth 100000 in
theorem k_X8_of (l : Launch) (D : gDt) (base : Nat) (Z : gZt) (u : Mem) (p1 : Int32) (p2 : Int32) (r : Int32) (u' : Mem) (hf : f_X8_of p1 p2 u = some (r, u')) : Met l yX8_of (gws yX8_of cX8_of 3 (some .int)) (gRm 6 0 0) (gPc D base Z u [.ref (base + 82), .int p1, .int p2]) (gQi D base r u') 0 0 (gF base) := by
  refine Met.ofW (cc := cX8_of) (maxL := 3) (ret := some .int) (by decide) rfl ?_
  intro p e s m args below meth c s₁ B hml hv
  obtain ⟨rfl, C0, hG⟩ := g_enter B hml hv
  have hr := B.returns
  have C0 : gC p s m meth c _ cX8_of 3 RX8 D base Z := C0
  have hx := C0.1
  have hb := C0.2.1
  have hl := lv_entry ([.ref (base + 82), .int p1, .int p2]) (n := 3) (Nat.le_of_ble_eq_true rfl)
  rw [lg_entry_eq]
  generalize (lg_sl ([.ref (base + 82), .int p1, .int p2]) ++ List.replicate (3 - (lg_sl ([.ref (base + 82), .int p1, .int p2])).length) Slot.unset).toArray = ls at hl ⊢
  have hl : lv_has ls 3 [(0, .ref (base + 82)), (1, .int p1), (2, .int p2)] := hl
  obtain ⟨Q, hQ⟩ : ∃ Q, Q = MQ below (gQi D base r u') ([.ref (base + 82), .int p1, .int p2] : List Value).toArray s 0 0 (gF base) := ⟨_, rfl⟩
  rw [← hQ]
  change W p l e (gRm 6 0 0) s m _ below meth c _ _ _ _ _ _
  unfold f_X8_of at hf
  refine lv_aload_n hx hb dX8_of_0 rfl (lv_at hl 0 rfl) ?_
  refine lv_iload_n hx hb dX8_of_1 rfl (lv_at hl 1 rfl) ?_
  obtain ⟨r1, hc1, hf⟩ := pb_s hf
  refine g_doI0 hG (g_runV C0 hG (k_X8_isOne l D base Z u p1 r1 hc1) m_X8_isOne v_X8_isOne w_1098 (by decide) (g_recv C0 hG (L82 hG) rfl) rfl hl.1 rfl (Nat.le_of_ble_eq_true rfl) dX8_of_2 ⟨Nat.zero_le _, Nat.zero_le _⟩) (fun H locs hG hk => ?_)
  refine lv_if_ne (tgt := 12) hx hb dX8_of_5 (by decide) (fun c2 => ?_) (fun c2 => ?_)
  · have hf := gif_f c2 hf
    refine lv_aload_n hx hb dX8_of_12 rfl (lv_at hl 0 rfl) ?_
    refine lv_iload_n hx hb dX8_of_13 rfl (lv_at hl 2 rfl) ?_
    refine lv_bipush (v := (10 : Int32)) hx hb dX8_of_14 (by decide) ?_
    refine lv_bipush (v := (17 : Int32)) hx hb dX8_of_16 (by decide) ?_
    obtain ⟨r3, hc3, hf⟩ := pb_s hf
    refine g_doI0 hG (g_runV C0 hG (k_X8_in l D base Z u p2 (10 : Int32) (17 : Int32) r3 hc3) m_X8_in v_X8_in w_1082 (by decide) (g_recv C0 hG (L82 hG) rfl) rfl hl.1 rfl (Nat.le_of_ble_eq_true rfl) dX8_of_18 ⟨Nat.zero_le _, Nat.zero_le _⟩) (fun H locs hG hk => ?_)
    refine lv_if_eq (tgt := 34) hx hb dX8_of_21 (by decide) (fun c4 => ?_) (fun c4 => ?_)
    · have hf := gif_t c4 hf
      refine lv_iload_n hx hb dX8_of_34 rfl (lv_at hl 2 rfl) ?_
      refine (Decidable.em (p2 = (0 : Int32))).elim (fun c5 => ?_) (fun c5 => ?_)
      · have hf := gif_t c5 hf
        refine lv_tableIn (off := 37) (tgt := 72) hx hb dX8_of_35 (by rw [c5]; decide) (by rw [c5]; decide) (by rw [c5]; rfl) (by decide) ?_
        refine lv_aload_n hx hb dX8_of_72 rfl (lv_at hl 0 rfl) ?_
        refine g_getSa (o := 1) (a := 83) C0 hG (L82 hG) rfl 5 (by decide) rfl rfl w_851 dX8_of_73 ?_
        refine lv_iload_n hx hb dX8_of_76 rfl (lv_at hl 1 rfl) ?_
        obtain ⟨h6, hf⟩ := gin_s hf
        refine g_iald C0 hG (L83 hG) h6 dX8_of_77 ?_
        obtain ⟨hr1, hu⟩ := gret_s hf
        subst hr1
        subst hu
        subst hQ
        exact g_iret C0 hG hr dX8_of_78
      · have hf := gif_f c5 hf
        refine (Decidable.em (p2 = (1 : Int32))).elim (fun c7 => ?_) (fun c7 => ?_)
        · have hf := gif_t c7 hf
          refine lv_tableIn (off := 44) (tgt := 79) hx hb dX8_of_35 (by rw [c7]; decide) (by rw [c7]; decide) (by rw [c7]; rfl) (by decide) ?_
          refine lv_aload_n hx hb dX8_of_79 rfl (lv_at hl 0 rfl) ?_
          refine g_getSa (o := 2) (a := 84) C0 hG (L82 hG) rfl 6 (by decide) rfl rfl w_852 dX8_of_80 ?_
          refine lv_iload_n hx hb dX8_of_83 rfl (lv_at hl 1 rfl) ?_
          obtain ⟨h8, hf⟩ := gin_s hf
          refine g_iald C0 hG (L84 hG) h8 dX8_of_84 ?_
          obtain ⟨hr1, hu⟩ := gret_s hf
          subst hr1
          subst hu
          subst hQ
          exact g_iret C0 hG hr dX8_of_85
        · have hf := gif_f c7 hf
          refine (Decidable.em (p2 = (2 : Int32))).elim (fun c9 => ?_) (fun c9 => ?_)
          · have hf := gif_t c9 hf
            refine lv_tableIn (off := 51) (tgt := 86) hx hb dX8_of_35 (by rw [c9]; decide) (by rw [c9]; decide) (by rw [c9]; rfl) (by decide) ?_
            refine lv_aload_n hx hb dX8_of_86 rfl (lv_at hl 0 rfl) ?_
            refine g_getSa (o := 3) (a := 85) C0 hG (L82 hG) rfl 7 (by decide) rfl rfl w_853 dX8_of_87 ?_
            refine lv_iload_n hx hb dX8_of_90 rfl (lv_at hl 1 rfl) ?_
            obtain ⟨h10, hf⟩ := gin_s hf
            refine g_iald C0 hG (L85 hG) h10 dX8_of_91 ?_
            obtain ⟨hr1, hu⟩ := gret_s hf
            subst hr1
            subst hu
            subst hQ
            exact g_iret C0 hG hr dX8_of_92
          · have hf := gif_f c9 hf
            refine (Decidable.em (p2 = (3 : Int32))).elim (fun c11 => ?_) (fun c11 => ?_)
            · have hf := gif_t c11 hf
              refine lv_tableIn (off := 58) (tgt := 93) hx hb dX8_of_35 (by rw [c11]; decide) (by rw [c11]; decide) (by rw [c11]; rfl) (by decide) ?_
              refine lv_aload_n hx hb dX8_of_93 rfl (lv_at hl 0 rfl) ?_
              refine g_getSa (o := 4) (a := 86) C0 hG (L82 hG) rfl 8 (by decide) rfl rfl w_854 dX8_of_94 ?_
              refine lv_iload_n hx hb dX8_of_97 rfl (lv_at hl 1 rfl) ?_
              obtain ⟨h12, hf⟩ := gin_s hf
              refine g_iald C0 hG (L86 hG) h12 dX8_of_98 ?_
              obtain ⟨hr1, hu⟩ := gret_s hf
              subst hr1
              subst hu
              subst hQ
              exact g_iret C0 hG hr dX8_of_99
            · have hf := gif_f c11 hf
              refine (Decidable.em (p2 = (4 : Int32))).elim (fun c13 => ?_) (fun c13 => ?_)
              · have hf := gif_t c13 hf
                refine lv_tableIn (off := 65) (tgt := 100) hx hb dX8_of_35 (by rw [c13]; decide) (by rw [c13]; decide) (by rw [c13]; rfl) (by decide) ?_
                refine lv_aload_n hx hb dX8_of_100 rfl (lv_at hl 0 rfl) ?_
                refine lv_aload_n hx hb dX8_of_101 rfl (lv_at hl 0 rfl) ?_
                refine g_getI C0 hG (L82 hG) rfl 1 (by decide) rfl w_847 dX8_of_102 ?_
                refine lv_iload_n hx hb dX8_of_105 rfl (lv_at hl 1 rfl) ?_
                obtain ⟨r14, hc14, hf⟩ := pb_s hf
                refine g_doI0 hG (g_runV C0 hG (k_X8_has l D base Z u (gI u 82 1) p1 r14 hc14) m_X8_has v_X8_has w_1110 (by decide) (g_recv C0 hG (L82 hG) rfl) rfl hl.1 rfl (Nat.le_of_ble_eq_true rfl) dX8_of_106 ⟨Nat.zero_le _, Nat.zero_le _⟩) (fun H locs hG hk => ?_)
                refine lv_if_eq (tgt := 116) hx hb dX8_of_109 (by decide) (fun c15 => ?_) (fun c15 => ?_)
                · have hf := gif_t c15 hf
                  refine lv_iconst (v := (0 : Int32)) hx hb dX8_of_116 (by decide) ?_
                  obtain ⟨hr1, hu⟩ := gret_s hf
                  subst hr1
                  subst hu
                  subst hQ
                  exact g_iret C0 hG hr dX8_of_117
                · have hf := gif_f c15 hf
                  refine lv_iconst (v := (1 : Int32)) hx hb dX8_of_112 (by decide) ?_
                  refine lv_goto (tgt := 117) hx hb dX8_of_113 (by decide) ?_
                  obtain ⟨hr1, hu⟩ := gret_s hf
                  subst hr1
                  subst hu
                  subst hQ
                  exact g_iret C0 hG hr dX8_of_117
              · have hf := gif_f c13 hf
                refine (Decidable.em (p2 = (5 : Int32))).elim (fun c16 => ?_) (fun c16 => ?_)
                · have hf := gif_t c16 hf
                  refine lv_tableIn (off := 83) (tgt := 118) hx hb dX8_of_35 (by rw [c16]; decide) (by rw [c16]; decide) (by rw [c16]; rfl) (by decide) ?_
                  refine lv_aload_n hx hb dX8_of_118 rfl (lv_at hl 0 rfl) ?_
                  refine lv_iload_n hx hb dX8_of_119 rfl (lv_at hl 1 rfl) ?_
                  obtain ⟨r17, u17, hc17, hf⟩ := obind_s hf
                  refine g_doI0 hG (g_runV C0 hG (k_X8_tells l D base Z u p1 r17 u17 hc17) m_X8_tells v_X8_tells w_1226 (by decide) (g_recv C0 hG (L82 hG) rfl) rfl hl.1 rfl (Nat.le_of_ble_eq_true rfl) dX8_of_120 ⟨Nat.zero_le _, Nat.zero_le _⟩) (fun H locs hG hk => ?_)
                  obtain ⟨hr1, hu⟩ := gret_s hf
                  subst hr1
                  subst hu
                  subst hQ
                  exact g_iret C0 hG hr dX8_of_123
                · have hf := gif_f c16 hf
                  refine lv_tableOut (tgt := 124) hx hb dX8_of_35 (by
                      have n0 := lv_neT c5 (k := (0 : Int32)) (a := 0) (by decide)
                      have n1 := lv_neT c7 (k := (1 : Int32)) (a := 1) (by decide)
                      have n2 := lv_neT c9 (k := (2 : Int32)) (a := 2) (by decide)
                      have n3 := lv_neT c11 (k := (3 : Int32)) (a := 3) (by decide)
                      have n4 := lv_neT c13 (k := (4 : Int32)) (a := 4) (by decide)
                      have n5 := lv_neT c16 (k := (5 : Int32)) (a := 5) (by decide)
                      omega) (by decide) ?_
                  refine lv_sipush (v := (-10001 : Int32)) hx hb dX8_of_124 (by decide) ?_
                  obtain ⟨hr1, hu⟩ := gret_s hf
                  subst hr1
                  subst hu
                  subst hQ
                  exact g_iret C0 hG hr dX8_of_127
    · have hf := gif_f c4 hf
      refine lv_aload_n hx hb dX8_of_24 rfl (lv_at hl 0 rfl) ?_
      refine lv_iload_n hx hb dX8_of_25 rfl (lv_at hl 1 rfl) ?_
      refine lv_iload_n hx hb dX8_of_26 rfl (lv_at hl 2 rfl) ?_
      refine lv_bipush (v := (10 : Int32)) hx hb dX8_of_27 (by decide) ?_
      refine lv_isub hx hb dX8_of_29 ?_
      obtain ⟨r18, u18, hc18, hf⟩ := obind_s hf
      refine g_doI0 hG (g_runV C0 hG (k_X8_glow l D base Z u p1 (p2 - (10 : Int32)) r18 u18 hc18) m_X8_glow v_X8_glow w_1202 (by decide) (g_recv C0 hG (L82 hG) rfl) rfl hl.1 rfl (Nat.le_of_ble_eq_true rfl) dX8_of_30 ⟨Nat.zero_le _, Nat.zero_le _⟩) (fun H locs hG hk => ?_)
      obtain ⟨hr1, hu⟩ := gret_s hf
      subst hr1
      subst hu
      subst hQ
      exact g_iret C0 hG hr dX8_of_33
  · have hf := gif_t c2 hf
    refine lv_sipush (v := (-10001 : Int32)) hx hb dX8_of_8 (by decide) ?_
    obtain ⟨hr1, hu⟩ := gret_s hf
    subst hr1
    subst hu
    subst hQ
    exact g_iret C0 hG hr dX8_of_11
theorem dX8_tell_0 : decode cX8_tell 0 = .ok (.aload_n 0, 1) := by decide +kernel
theorem dX8_tell_1 : decode cX8_tell 1 = .ok (.dup, 1) := by decide +kernel
theorem dX8_tell_2 : decode cX8_tell 2 = .ok (.getfield 16, 3) := by decide +kernel
theorem dX8_tell_5 : decode cX8_tell 5 = .ok (.aload_n 0, 1) := by decide +kernel
theorem dX8_tell_6 : decode cX8_tell 6 = .ok (.iload_n 1, 1) := by decide +kernel
theorem dX8_tell_7 : decode cX8_tell 7 = .ok (.iload_n 2, 1) := by decide +kernel
theorem dX8_tell_8 : decode cX8_tell 8 = .ok (.invokevirtual 336, 3) := by decide +kernel
theorem dX8_tell_11 : decode cX8_tell 11 = .ok (.iadd, 1) := by decide +kernel
theorem dX8_tell_12 : decode cX8_tell 12 = .ok (.putfield 16, 3) := by decide +kernel
theorem dX8_tell_15 : decode cX8_tell 15 = .ok (.aload_n 0, 1) := by decide +kernel
theorem dX8_tell_16 : decode cX8_tell 16 = .ok (.getfield 41, 3) := by decide +kernel
theorem dX8_tell_19 : decode cX8_tell 19 = .ok (.iload_n 2, 1) := by decide +kernel
theorem dX8_tell_20 : decode cX8_tell 20 = .ok (.aload_n 0, 1) := by decide +kernel
theorem dX8_tell_21 : decode cX8_tell 21 = .ok (.aload_n 0, 1) := by decide +kernel
theorem dX8_tell_22 : decode cX8_tell 22 = .ok (.getfield 41, 3) := by decide +kernel
theorem dX8_tell_25 : decode cX8_tell 25 = .ok (.iload_n 2, 1) := by decide +kernel
theorem dX8_tell_26 : decode cX8_tell 26 = .ok (.iaload, 1) := by decide +kernel
theorem dX8_tell_27 : decode cX8_tell 27 = .ok (.iconst 1, 1) := by decide +kernel
theorem dX8_tell_28 : decode cX8_tell 28 = .ok (.iadd, 1) := by decide +kernel
theorem dX8_tell_29 : decode cX8_tell 29 = .ok (.bipush 99, 2) := by decide +kernel
theorem dX8_tell_31 : decode cX8_tell 31 = .ok (.invokevirtual 342, 3) := by decide +kernel
theorem dX8_tell_34 : decode cX8_tell 34 = .ok (.iastore, 1) := by decide +kernel
theorem dX8_tell_35 : decode cX8_tell 35 = .ok (.iconst 0, 1) := by decide +kernel
theorem dX8_tell_36 : decode cX8_tell 36 = .ok (.istore_n 3, 1) := by decide +kernel
theorem dX8_tell_37 : decode cX8_tell 37 = .ok (.iload_n 3, 1) := by decide +kernel
theorem dX8_tell_38 : decode cX8_tell 38 = .ok (.aload_n 0, 1) := by decide +kernel
theorem dX8_tell_39 : decode cX8_tell 39 = .ok (.getfield 7, 3) := by decide +kernel
theorem dX8_tell_42 : decode cX8_tell 42 = .ok (.if_icmp .ge 48, 3) := by decide +kernel
theorem dX8_tell_45 : decode cX8_tell 45 = .ok (.aload_n 0, 1) := by decide +kernel
theorem dX8_tell_46 : decode cX8_tell 46 = .ok (.aload_n 0, 1) := by decide +kernel
theorem dX8_tell_47 : decode cX8_tell 47 = .ok (.getfield 13, 3) := by decide +kernel
theorem dX8_tell_50 : decode cX8_tell 50 = .ok (.iload_n 3, 1) := by decide +kernel
theorem dX8_tell_51 : decode cX8_tell 51 = .ok (.invokevirtual 245, 3) := by decide +kernel
theorem dX8_tell_54 : decode cX8_tell 54 = .ok (.ifCond .ne 30, 3) := by decide +kernel
theorem dX8_tell_57 : decode cX8_tell 57 = .ok (.aload_n 0, 1) := by decide +kernel
theorem dX8_tell_58 : decode cX8_tell 58 = .ok (.getfield 32, 3) := by decide +kernel
theorem dX8_tell_61 : decode cX8_tell 61 = .ok (.iload_n 3, 1) := by decide +kernel
theorem dX8_tell_62 : decode cX8_tell 62 = .ok (.iaload, 1) := by decide +kernel
theorem dX8_tell_63 : decode cX8_tell 63 = .ok (.aload_n 0, 1) := by decide +kernel
theorem dX8_tell_64 : decode cX8_tell 64 = .ok (.getfield 32, 3) := by decide +kernel
theorem dX8_tell_67 : decode cX8_tell 67 = .ok (.iload_n 1, 1) := by decide +kernel
theorem dX8_tell_68 : decode cX8_tell 68 = .ok (.iaload, 1) := by decide +kernel
theorem dX8_tell_69 : decode cX8_tell 69 = .ok (.if_icmp .ne 15, 3) := by decide +kernel
theorem dX8_tell_72 : decode cX8_tell 72 = .ok (.aload_n 0, 1) := by decide +kernel
theorem dX8_tell_73 : decode cX8_tell 73 = .ok (.getfield 35, 3) := by decide +kernel
theorem dX8_tell_76 : decode cX8_tell 76 = .ok (.iload_n 3, 1) := by decide +kernel
theorem dX8_tell_77 : decode cX8_tell 77 = .ok (.dup2, 1) := by decide +kernel
theorem dX8_tell_78 : decode cX8_tell 78 = .ok (.iaload, 1) := by decide +kernel
theorem dX8_tell_79 : decode cX8_tell 79 = .ok (.iconst 1, 1) := by decide +kernel
theorem dX8_tell_80 : decode cX8_tell 80 = .ok (.iload_n 2, 1) := by decide +kernel
theorem dX8_tell_81 : decode cX8_tell 81 = .ok (.ishl, 1) := by decide +kernel
theorem dX8_tell_82 : decode cX8_tell 82 = .ok (.ior, 1) := by decide +kernel
theorem dX8_tell_83 : decode cX8_tell 83 = .ok (.iastore, 1) := by decide +kernel
theorem dX8_tell_84 : decode cX8_tell 84 = .ok (.iinc 3 1, 3) := by decide +kernel
theorem dX8_tell_87 : decode cX8_tell 87 = .ok (.goto (-50), 3) := by decide +kernel
theorem dX8_tell_90 : decode cX8_tell 90 = .ok (.return_, 1) := by decide +kernel
def f_X8_tell_L37 (p1 : Int32) (p2 : Int32) (x3_5 : Int32) (u5 : Mem) : Option ((Int32 × Mem) ⊕ (Unit × Mem)) := (if (gI u5 82 0) ≤ x3_5 then some (Sum.inr ((), u5)) else Option.bind (f_X8_has (gI u5 82 1) x3_5) (fun r7 => (if r7 = 0 then gin x3_5 6 (gin p1 6 ((if (gA u5 85 x3_5.toNatClampNeg) = (gA u5 85 p1.toNatClampNeg) then gin x3_5 6 (gin x3_5 6 (some (Sum.inl (x3_5 + (1 : Int32), sA u5 86 x3_5.toNatClampNeg ((gA u5 86 x3_5.toNatClampNeg) ||| ((1 : Int32) <<< (p2 &&& 31))))))) else some (Sum.inl (x3_5 + (1 : Int32), u5))))) else some (Sum.inl (x3_5 + (1 : Int32), u5)))))
def f_X8_tell (p1 : Int32) (p2 : Int32) (u : Mem) : Option (Unit × Mem) := obind (f_X8_glow p1 p2 u) (fun r1 u1 => gin p2 8 (Option.bind (f_X8_least ((gA (sI u1 82 2 ((gI u 82 2) + r1)) 88 p2.toNatClampNeg) + (1 : Int32)) (99 : Int32)) (fun r3 => gin p2 8 (whileO (fun s => f_X8_tell_L37 p1 p2 s.1 s.2) FUEL ((0 : Int32), sA (sI u1 82 2 ((gI u 82 2) + r1)) 88 p2.toNatClampNeg r3)))))
set_option maxHeartbeats 4000000 in
set_option maxRecDepth 100000 in
theorem k_X8_tell (l : Launch) (D : gDt) (base : Nat) (Z : gZt) (u : Mem) (p1 : Int32) (p2 : Int32) (u' : Mem) (hf : f_X8_tell p1 p2 u = some ((), u')) : Met l yX8_tell (gws yX8_tell cX8_tell 4 (none)) (gRm 5 0 0) (gPc D base Z u [.ref (base + 82), .int p1, .int p2]) (gQv D base u') 0 0 (gF base) := by
  refine Met.ofW (cc := cX8_tell) (maxL := 4) (ret := none) (by decide) rfl ?_
  intro p e s m args below meth c s₁ B hml hv
  obtain ⟨rfl, C0, hG⟩ := g_enter B hml hv
  have hr := B.returns
  have C0 : gC p s m meth c _ cX8_tell 4 RX8 D base Z := C0
  have hx := C0.1
  have hb := C0.2.1
  have hl := lv_entry ([.ref (base + 82), .int p1, .int p2]) (n := 4) (Nat.le_of_ble_eq_true rfl)
  rw [lg_entry_eq]
  generalize (lg_sl ([.ref (base + 82), .int p1, .int p2]) ++ List.replicate (4 - (lg_sl ([.ref (base + 82), .int p1, .int p2])).length) Slot.unset).toArray = ls at hl ⊢
  have hl : lv_has ls 4 [(0, .ref (base + 82)), (1, .int p1), (2, .int p2)] := hl
  obtain ⟨Q, hQ⟩ : ∃ Q, Q = MQ below (gQv D base u') ([.ref (base + 82), .int p1, .int p2] : List Value).toArray s 0 0 (gF base) := ⟨_, rfl⟩
  rw [← hQ]
  change W p l e (gRm 5 0 0) s m _ below meth c _ _ _ _ _ _
  unfold f_X8_tell at hf
  refine lv_aload_n hx hb dX8_tell_0 rfl (lv_at hl 0 rfl) ?_
  refine lv_dup hx hb dX8_tell_1 rfl ?_
  refine g_getI C0 hG (L82 hG) rfl 2 (by decide) rfl w_848 dX8_tell_2 ?_
  refine lv_aload_n hx hb dX8_tell_5 rfl (lv_at hl 0 rfl) ?_
  refine lv_iload_n hx hb dX8_tell_6 rfl (lv_at hl 1 rfl) ?_
  refine lv_iload_n hx hb dX8_tell_7 rfl (lv_at hl 2 rfl) ?_
  obtain ⟨r1, u1, hc1, hf⟩ := obind_s hf
  refine g_doI0 hG (g_runV C0 hG (k_X8_glow l D base Z u p1 p2 r1 u1 hc1) m_X8_glow v_X8_glow w_1202 (by decide) (g_recv C0 hG (L82 hG) rfl) rfl hl.1 rfl (Nat.le_of_ble_eq_true rfl) dX8_tell_8 ⟨Nat.zero_le _, Nat.zero_le _⟩) (fun H locs hG hk => ?_)
  refine lv_iadd hx hb dX8_tell_11 ?_
  refine g_putI (ty := .int) C0 hG (L82 hG) rfl 2 (by decide) rfl w_848 rfl (by decide) rfl rfl dX8_tell_12 (fun H locs hG => ?_)
  refine lv_aload_n hx hb dX8_tell_15 rfl (lv_at hl 0 rfl) ?_
  refine g_getSa (o := 6) (a := 88) C0 hG (L82 hG) rfl 10 (by decide) rfl rfl w_856 dX8_tell_16 ?_
  refine lv_iload_n hx hb dX8_tell_19 rfl (lv_at hl 2 rfl) ?_
  refine lv_aload_n hx hb dX8_tell_20 rfl (lv_at hl 0 rfl) ?_
  refine lv_aload_n hx hb dX8_tell_21 rfl (lv_at hl 0 rfl) ?_
  refine g_getSa (o := 6) (a := 88) C0 hG (L82 hG) rfl 10 (by decide) rfl rfl w_856 dX8_tell_22 ?_
  refine lv_iload_n hx hb dX8_tell_25 rfl (lv_at hl 2 rfl) ?_
  obtain ⟨h2, hf⟩ := gin_s hf
  refine g_iald C0 hG (L88 hG) h2 dX8_tell_26 ?_
  refine lv_iconst (v := (1 : Int32)) hx hb dX8_tell_27 (by decide) ?_
  refine lv_iadd hx hb dX8_tell_28 ?_
  refine lv_bipush (v := (99 : Int32)) hx hb dX8_tell_29 (by decide) ?_
  obtain ⟨r3, hc3, hf⟩ := pb_s hf
  refine g_doI0 hG (g_runV C0 hG (k_X8_least l D base Z (sI u1 82 2 ((gI u 82 2) + r1)) ((gA (sI u1 82 2 ((gI u 82 2) + r1)) 88 p2.toNatClampNeg) + (1 : Int32)) (99 : Int32) r3 hc3) m_X8_least v_X8_least w_1250 (by decide) (g_recv C0 hG (L82 hG) rfl) rfl hl.1 rfl (Nat.le_of_ble_eq_true rfl) dX8_tell_31 ⟨Nat.zero_le _, Nat.zero_le _⟩) (fun H locs hG hk => ?_)
  obtain ⟨h4, hf⟩ := gin_s hf
  refine g_iast C0 hG (L88 hG) h4 dX8_tell_34 (fun H locs hG => ?_)
  refine lv_iconst (v := (0 : Int32)) hx hb dX8_tell_35 (by decide) ?_
  refine lv_istore_n (lv' := [(3, .int (0 : Int32)), (0, .ref (base + 82)), (1, .int p1), (2, .int p2)]) hx hb dX8_tell_36 rfl hl (by decide) rfl (fun ls hl => ?_)
  have loop5 : ∀ (n5 : Nat) (x3_5 : Int32) (u5 : Mem) (H : Heap) (locs : List Loc) (ls : Array Slot), gH D base s u5 H locs → lv_has ls 4 [(0, .ref (base + 82)), (1, .int p1), (2, .int p2), (3, .int x3_5)] → whileO (fun s => f_X8_tell_L37 p1 p2 s.1 s.2) n5 (x3_5, u5) = some ((), u') → W p l e (gRm 5 0 0) s m ([.ref (base + 82), .int p1, .int p2] : List Value).toArray below meth c H locs 0 0 Q (F0 m 37 ls []) := by
    intro n5
    induction n5 with
    | zero => intro x3_5 u5 H locs ls hG hl hf; cases hf
    | succ n5 ih5 =>
      intro x3_5 u5 H locs ls hG hl hf
      obtain ⟨X5, hf, hX5⟩ := while_s hf
      have hf : f_X8_tell_L37 p1 p2 x3_5 u5 = some X5 := hf
      unfold f_X8_tell_L37 at hf
      refine lv_iload_n hx hb dX8_tell_37 rfl (lv_at hl 3 rfl) ?_
      refine lv_aload_n hx hb dX8_tell_38 rfl (lv_at hl 0 rfl) ?_
      refine g_getI C0 hG (L82 hG) rfl 0 (by decide) rfl w_846 dX8_tell_39 ?_
      refine lv_icmp_ge (tgt := 90) hx hb dX8_tell_42 (by decide) (fun c6 => ?_) (fun c6 => ?_)
      · have hf := gif_t c6 hf
        have hf := while_r hX5 hf
        obtain ⟨-, hu⟩ := gret_s hf
        subst hu
        subst hQ
        exact g_vret C0 hG hr dX8_tell_90
      · have hf := gif_f c6 hf
        refine lv_aload_n hx hb dX8_tell_45 rfl (lv_at hl 0 rfl) ?_
        refine lv_aload_n hx hb dX8_tell_46 rfl (lv_at hl 0 rfl) ?_
        refine g_getI C0 hG (L82 hG) rfl 1 (by decide) rfl w_847 dX8_tell_47 ?_
        refine lv_iload_n hx hb dX8_tell_50 rfl (lv_at hl 3 rfl) ?_
        obtain ⟨r7, hc7, hf⟩ := pb_s hf
        refine g_doI0 hG (g_runV C0 hG (k_X8_has l D base Z u5 (gI u5 82 1) x3_5 r7 hc7) m_X8_has v_X8_has w_1110 (by decide) (g_recv C0 hG (L82 hG) rfl) rfl hl.1 rfl (Nat.le_of_ble_eq_true rfl) dX8_tell_51 ⟨Nat.zero_le _, Nat.zero_le _⟩) (fun H locs hG hk => ?_)
        refine lv_if_ne (tgt := 84) hx hb dX8_tell_54 (by decide) (fun c8 => ?_) (fun c8 => ?_)
        · have hf := gif_f c8 hf
          refine lv_iinc (v := x3_5 + (1 : Int32)) (lv' := [(3, .int (x3_5 + (1 : Int32))), (0, .ref (base + 82)), (1, .int p1), (2, .int p2)]) hx hb dX8_tell_84 hl (k := 3) rfl rfl (by decide) rfl (fun ls hl => ?_)
          refine lv_goto (tgt := 37) hx hb dX8_tell_87 (by decide) ?_
          have hf := while_l hX5 hf
          exact ih5 (x3_5 + (1 : Int32)) u5 _ _ ls hG (lv_sub hl [1, 2, 3, 0] rfl) hf
        · have hf := gif_t c8 hf
          refine lv_aload_n hx hb dX8_tell_57 rfl (lv_at hl 0 rfl) ?_
          refine g_getSa (o := 3) (a := 85) C0 hG (L82 hG) rfl 7 (by decide) rfl rfl w_853 dX8_tell_58 ?_
          refine lv_iload_n hx hb dX8_tell_61 rfl (lv_at hl 3 rfl) ?_
          obtain ⟨h9, hf⟩ := gin_s hf
          refine g_iald C0 hG (L85 hG) h9 dX8_tell_62 ?_
          refine lv_aload_n hx hb dX8_tell_63 rfl (lv_at hl 0 rfl) ?_
          refine g_getSa (o := 3) (a := 85) C0 hG (L82 hG) rfl 7 (by decide) rfl rfl w_853 dX8_tell_64 ?_
          refine lv_iload_n hx hb dX8_tell_67 rfl (lv_at hl 1 rfl) ?_
          obtain ⟨h10, hf⟩ := gin_s hf
          refine g_iald C0 hG (L85 hG) h10 dX8_tell_68 ?_
          refine lv_icmp_ne (tgt := 84) hx hb dX8_tell_69 (by decide) (fun c11 => ?_) (fun c11 => ?_)
          · have hf := gif_f c11 hf
            refine lv_iinc (v := x3_5 + (1 : Int32)) (lv' := [(3, .int (x3_5 + (1 : Int32))), (0, .ref (base + 82)), (1, .int p1), (2, .int p2)]) hx hb dX8_tell_84 hl (k := 3) rfl rfl (by decide) rfl (fun ls hl => ?_)
            refine lv_goto (tgt := 37) hx hb dX8_tell_87 (by decide) ?_
            have hf := while_l hX5 hf
            exact ih5 (x3_5 + (1 : Int32)) u5 _ _ ls hG (lv_sub hl [1, 2, 3, 0] rfl) hf
          · have hf := gif_t c11 hf
            refine lv_aload_n hx hb dX8_tell_72 rfl (lv_at hl 0 rfl) ?_
            refine g_getSa (o := 4) (a := 86) C0 hG (L82 hG) rfl 8 (by decide) rfl rfl w_854 dX8_tell_73 ?_
            refine lv_iload_n hx hb dX8_tell_76 rfl (lv_at hl 3 rfl) ?_
            refine lv_dup2_11 hx hb dX8_tell_77 rfl rfl ?_
            obtain ⟨h12, hf⟩ := gin_s hf
            refine g_iald C0 hG (L86 hG) h12 dX8_tell_78 ?_
            refine lv_iconst (v := (1 : Int32)) hx hb dX8_tell_79 (by decide) ?_
            refine lv_iload_n hx hb dX8_tell_80 rfl (lv_at hl 2 rfl) ?_
            refine lv_ishl hx hb dX8_tell_81 ?_
            refine lv_ior hx hb dX8_tell_82 ?_
            obtain ⟨h13, hf⟩ := gin_s hf
            refine g_iast C0 hG (L86 hG) h13 dX8_tell_83 (fun H locs hG => ?_)
            refine lv_iinc (v := x3_5 + (1 : Int32)) (lv' := [(3, .int (x3_5 + (1 : Int32))), (0, .ref (base + 82)), (1, .int p1), (2, .int p2)]) hx hb dX8_tell_84 hl (k := 3) rfl rfl (by decide) rfl (fun ls hl => ?_)
            refine lv_goto (tgt := 37) hx hb dX8_tell_87 (by decide) ?_
            have hf := while_l hX5 hf
            exact ih5 (x3_5 + (1 : Int32)) (sA u5 86 x3_5.toNatClampNeg ((gA u5 86 x3_5.toNatClampNeg) ||| ((1 : Int32) <<< (p2 &&& 31)))) _ _ ls hG (lv_sub hl [1, 2, 3, 0] rfl) hf
  exact loop5 FUEL (0 : Int32) (sA (sI u1 82 2 ((gI u 82 2) + r1)) 88 p2.toNatClampNeg r3) _ _ ls hG (lv_sub hl [1, 2, 3, 0] rfl) hf
theorem dX8_goMinute_0 : decode cX8_goMinute 0 = .ok (.iconst 0, 1) := by decide +kernel
theorem dX8_goMinute_1 : decode cX8_goMinute 1 = .ok (.istore_n 1, 1) := by decide +kernel
theorem dX8_goMinute_2 : decode cX8_goMinute 2 = .ok (.iload_n 1, 1) := by decide +kernel
theorem dX8_goMinute_3 : decode cX8_goMinute 3 = .ok (.aload_n 0, 1) := by decide +kernel
theorem dX8_goMinute_4 : decode cX8_goMinute 4 = .ok (.getfield 7, 3) := by decide +kernel
theorem dX8_goMinute_7 : decode cX8_goMinute 7 = .ok (.if_icmp .ge 40, 3) := by decide +kernel
theorem dX8_goMinute_10 : decode cX8_goMinute 10 = .ok (.aload_n 0, 1) := by decide +kernel
theorem dX8_goMinute_11 : decode cX8_goMinute 11 = .ok (.aload_n 0, 1) := by decide +kernel
theorem dX8_goMinute_12 : decode cX8_goMinute 12 = .ok (.getfield 13, 3) := by decide +kernel
theorem dX8_goMinute_15 : decode cX8_goMinute 15 = .ok (.iload_n 1, 1) := by decide +kernel
theorem dX8_goMinute_16 : decode cX8_goMinute 16 = .ok (.invokevirtual 245, 3) := by decide +kernel
theorem dX8_goMinute_19 : decode cX8_goMinute 19 = .ok (.ifCond .eq 6, 3) := by decide +kernel
theorem dX8_goMinute_22 : decode cX8_goMinute 22 = .ok (.goto 19, 3) := by decide +kernel
theorem dX8_goMinute_25 : decode cX8_goMinute 25 = .ok (.aload_n 0, 1) := by decide +kernel
theorem dX8_goMinute_26 : decode cX8_goMinute 26 = .ok (.iload_n 1, 1) := by decide +kernel
theorem dX8_goMinute_27 : decode cX8_goMinute 27 = .ok (.invokevirtual 339, 3) := by decide +kernel
theorem dX8_goMinute_30 : decode cX8_goMinute 30 = .ok (.istore_n 2, 1) := by decide +kernel
theorem dX8_goMinute_31 : decode cX8_goMinute 31 = .ok (.iload_n 2, 1) := by decide +kernel
theorem dX8_goMinute_32 : decode cX8_goMinute 32 = .ok (.ifCond .lt 9, 3) := by decide +kernel
theorem dX8_goMinute_35 : decode cX8_goMinute 35 = .ok (.aload_n 0, 1) := by decide +kernel
theorem dX8_goMinute_36 : decode cX8_goMinute 36 = .ok (.iload_n 1, 1) := by decide +kernel
theorem dX8_goMinute_37 : decode cX8_goMinute 37 = .ok (.iload_n 2, 1) := by decide +kernel
theorem dX8_goMinute_38 : decode cX8_goMinute 38 = .ok (.invokevirtual 345, 3) := by decide +kernel
theorem dX8_goMinute_41 : decode cX8_goMinute 41 = .ok (.iinc 1 1, 3) := by decide +kernel
theorem dX8_goMinute_44 : decode cX8_goMinute 44 = .ok (.goto (-42), 3) := by decide +kernel
theorem dX8_goMinute_47 : decode cX8_goMinute 47 = .ok (.aload_n 0, 1) := by decide +kernel
theorem dX8_goMinute_48 : decode cX8_goMinute 48 = .ok (.invokevirtual 349, 3) := by decide +kernel
theorem dX8_goMinute_51 : decode cX8_goMinute 51 = .ok (.ifCond .ne 7, 3) := by decide +kernel
theorem dX8_goMinute_54 : decode cX8_goMinute 54 = .ok (.iconst 1, 1) := by decide +kernel
theorem dX8_goMinute_55 : decode cX8_goMinute 55 = .ok (.goto 7, 3) := by decide +kernel
theorem dX8_goMinute_58 : decode cX8_goMinute 58 = .ok (.aload_n 0, 1) := by decide +kernel
theorem dX8_goMinute_59 : decode cX8_goMinute 59 = .ok (.invokevirtual 349, 3) := by decide +kernel
theorem dX8_goMinute_62 : decode cX8_goMinute 62 = .ok (.istore_n 1, 1) := by decide +kernel
theorem dX8_goMinute_63 : decode cX8_goMinute 63 = .ok (.aload_n 0, 1) := by decide +kernel
theorem dX8_goMinute_64 : decode cX8_goMinute 64 = .ok (.bipush 20, 2) := by decide +kernel
theorem dX8_goMinute_66 : decode cX8_goMinute 66 = .ok (.aload_n 0, 1) := by decide +kernel
theorem dX8_goMinute_67 : decode cX8_goMinute 67 = .ok (.getfield 16, 3) := by decide +kernel
theorem dX8_goMinute_70 : decode cX8_goMinute 70 = .ok (.iload_n 1, 1) := by decide +kernel
theorem dX8_goMinute_71 : decode cX8_goMinute 71 = .ok (.idiv, 1) := by decide +kernel
theorem dX8_goMinute_72 : decode cX8_goMinute 72 = .ok (.invokevirtual 342, 3) := by decide +kernel
theorem dX8_goMinute_75 : decode cX8_goMinute 75 = .ok (.istore_n 2, 1) := by decide +kernel
theorem dX8_goMinute_76 : decode cX8_goMinute 76 = .ok (.aload_n 0, 1) := by decide +kernel
theorem dX8_goMinute_77 : decode cX8_goMinute 77 = .ok (.aload_n 0, 1) := by decide +kernel
theorem dX8_goMinute_78 : decode cX8_goMinute 78 = .ok (.aload_n 0, 1) := by decide +kernel
theorem dX8_goMinute_79 : decode cX8_goMinute 79 = .ok (.getfield 16, 3) := by decide +kernel
theorem dX8_goMinute_82 : decode cX8_goMinute 82 = .ok (.iload_n 2, 1) := by decide +kernel
theorem dX8_goMinute_83 : decode cX8_goMinute 83 = .ok (.iload_n 1, 1) := by decide +kernel
theorem dX8_goMinute_84 : decode cX8_goMinute 84 = .ok (.imul, 1) := by decide +kernel
theorem dX8_goMinute_85 : decode cX8_goMinute 85 = .ok (.isub, 1) := by decide +kernel
theorem dX8_goMinute_86 : decode cX8_goMinute 86 = .ok (.sipush 9999, 3) := by decide +kernel
theorem dX8_goMinute_89 : decode cX8_goMinute 89 = .ok (.invokevirtual 342, 3) := by decide +kernel
theorem dX8_goMinute_92 : decode cX8_goMinute 92 = .ok (.putfield 16, 3) := by decide +kernel
theorem dX8_goMinute_95 : decode cX8_goMinute 95 = .ok (.aload_n 0, 1) := by decide +kernel
theorem dX8_goMinute_96 : decode cX8_goMinute 96 = .ok (.aload_n 0, 1) := by decide +kernel
theorem dX8_goMinute_97 : decode cX8_goMinute 97 = .ok (.aload_n 0, 1) := by decide +kernel
theorem dX8_goMinute_98 : decode cX8_goMinute 98 = .ok (.getfield 19, 3) := by decide +kernel
theorem dX8_goMinute_101 : decode cX8_goMinute 101 = .ok (.iload_n 2, 1) := by decide +kernel
theorem dX8_goMinute_102 : decode cX8_goMinute 102 = .ok (.iadd, 1) := by decide +kernel
theorem dX8_goMinute_103 : decode cX8_goMinute 103 = .ok (.sipush 9999, 3) := by decide +kernel
theorem dX8_goMinute_106 : decode cX8_goMinute 106 = .ok (.invokevirtual 342, 3) := by decide +kernel
theorem dX8_goMinute_109 : decode cX8_goMinute 109 = .ok (.putfield 19, 3) := by decide +kernel
theorem dX8_goMinute_112 : decode cX8_goMinute 112 = .ok (.aload_n 0, 1) := by decide +kernel
theorem dX8_goMinute_113 : decode cX8_goMinute 113 = .ok (.dup, 1) := by decide +kernel
theorem dX8_goMinute_114 : decode cX8_goMinute 114 = .ok (.getfield 22, 3) := by decide +kernel
theorem dX8_goMinute_117 : decode cX8_goMinute 117 = .ok (.iconst 1, 1) := by decide +kernel
theorem dX8_goMinute_118 : decode cX8_goMinute 118 = .ok (.iadd, 1) := by decide +kernel
theorem dX8_goMinute_119 : decode cX8_goMinute 119 = .ok (.putfield 22, 3) := by decide +kernel
theorem dX8_goMinute_122 : decode cX8_goMinute 122 = .ok (.return_, 1) := by decide +kernel
def f_X8_goMinute_L2 (x1_1 : Int32) (u1 : Mem) : Option ((Int32 × Mem) ⊕ (Unit × Mem)) := (if (gI u1 82 0) ≤ x1_1 then Option.bind (f_X8_slope u1) (fun r3 => (if r3 = 0 then Option.bind (f_X8_least (20 : Int32) ((gI u1 82 2) / (1 : Int32))) (fun r10 => Option.bind (f_X8_least ((gI u1 82 2) - (r10 * (1 : Int32))) (9999 : Int32)) (fun r11 => Option.bind (f_X8_least ((gI (sI u1 82 2 r11) 82 3) + r10) (9999 : Int32)) (fun r12 => some (Sum.inr ((), sI (sI (sI u1 82 2 r11) 82 3 r12) 82 4 ((gI (sI (sI u1 82 2 r11) 82 3 r12) 82 4) + (1 : Int32))))))) else Option.bind (f_X8_slope u1) (fun r5 => gne r5 (Option.bind (f_X8_least (20 : Int32) ((gI u1 82 2) / r5)) (fun r7 => Option.bind (f_X8_least ((gI u1 82 2) - (r7 * r5)) (9999 : Int32)) (fun r8 => Option.bind (f_X8_least ((gI (sI u1 82 2 r8) 82 3) + r7) (9999 : Int32)) (fun r9 => some (Sum.inr ((), sI (sI (sI u1 82 2 r8) 82 3 r9) 82 4 ((gI (sI (sI u1 82 2 r8) 82 3 r9) 82 4) + (1 : Int32))))))))))) else Option.bind (f_X8_has (gI u1 82 1) x1_1) (fun r13 => (if r13 = 0 then obind (f_X8_tells x1_1 u1) (fun r15 u15 => (if r15 < 0 then some (Sum.inl (x1_1 + (1 : Int32), u15)) else obind (f_X8_tell x1_1 r15 u15) (fun _ u17 => some (Sum.inl (x1_1 + (1 : Int32), u17))))) else some (Sum.inl (x1_1 + (1 : Int32), u1)))))
def f_X8_goMinute (u : Mem) : Option (Unit × Mem) := whileO (fun s => f_X8_goMinute_L2 s.1 s.2) FUEL ((0 : Int32), u)
set_option maxHeartbeats 4000000 in
set_option maxRecDepth 100000 in
theorem k_X8_goMinute (l : Launch) (D : gDt) (base : Nat) (Z : gZt) (u : Mem) (u' : Mem) (hf : f_X8_goMinute u = some ((), u')) : Met l yX8_goMinute (gws yX8_goMinute cX8_goMinute 3 (none)) (gRm 6 0 0) (gPc D base Z u [.ref (base + 82)]) (gQv D base u') 0 0 (gF base) := by
  refine Met.ofW (cc := cX8_goMinute) (maxL := 3) (ret := none) (by decide) rfl ?_
  intro p e s m args below meth c s₁ B hml hv
  obtain ⟨rfl, C0, hG⟩ := g_enter B hml hv
  have hr := B.returns
  have C0 : gC p s m meth c _ cX8_goMinute 3 RX8 D base Z := C0
  have hx := C0.1
  have hb := C0.2.1
  have hl := lv_entry ([.ref (base + 82)]) (n := 3) (Nat.le_of_ble_eq_true rfl)
  rw [lg_entry_eq]
  generalize (lg_sl ([.ref (base + 82)]) ++ List.replicate (3 - (lg_sl ([.ref (base + 82)])).length) Slot.unset).toArray = ls at hl ⊢
  have hl : lv_has ls 3 [(0, .ref (base + 82))] := hl
  obtain ⟨Q, hQ⟩ : ∃ Q, Q = MQ below (gQv D base u') ([.ref (base + 82)] : List Value).toArray s 0 0 (gF base) := ⟨_, rfl⟩
  rw [← hQ]
  change W p l e (gRm 6 0 0) s m _ below meth c _ _ _ _ _ _
  unfold f_X8_goMinute at hf
  refine lv_iconst (v := (0 : Int32)) hx hb dX8_goMinute_0 (by decide) ?_
  refine lv_istore_n (lv' := [(1, .int (0 : Int32)), (0, .ref (base + 82))]) hx hb dX8_goMinute_1 rfl hl (by decide) rfl (fun ls hl => ?_)
  have loop1 : ∀ (n1 : Nat) (x1_1 : Int32) (u1 : Mem) (H : Heap) (locs : List Loc) (ls : Array Slot), gH D base s u1 H locs → lv_has ls 3 [(0, .ref (base + 82)), (1, .int x1_1)] → whileO (fun s => f_X8_goMinute_L2 s.1 s.2) n1 (x1_1, u1) = some ((), u') → W p l e (gRm 6 0 0) s m ([.ref (base + 82)] : List Value).toArray below meth c H locs 0 0 Q (F0 m 2 ls []) := by
    intro n1
    induction n1 with
    | zero => intro x1_1 u1 H locs ls hG hl hf; cases hf
    | succ n1 ih1 =>
      intro x1_1 u1 H locs ls hG hl hf
      obtain ⟨X1, hf, hX1⟩ := while_s hf
      have hf : f_X8_goMinute_L2 x1_1 u1 = some X1 := hf
      unfold f_X8_goMinute_L2 at hf
      refine lv_iload_n hx hb dX8_goMinute_2 rfl (lv_at hl 1 rfl) ?_
      refine lv_aload_n hx hb dX8_goMinute_3 rfl (lv_at hl 0 rfl) ?_
      refine g_getI C0 hG (L82 hG) rfl 0 (by decide) rfl w_846 dX8_goMinute_4 ?_
      refine lv_icmp_ge (tgt := 47) hx hb dX8_goMinute_7 (by decide) (fun c2 => ?_) (fun c2 => ?_)
      · have hf := gif_t c2 hf
        refine lv_aload_n hx hb dX8_goMinute_47 rfl (lv_at hl 0 rfl) ?_
        obtain ⟨r3, hc3, hf⟩ := pb_s hf
        refine g_doI0 hG (g_runV C0 hG (k_X8_slope l D base Z u1 r3 hc3) m_X8_slope v_X8_slope w_1254 (by decide) (g_recv C0 hG (L82 hG) rfl) rfl hl.1 rfl (Nat.le_of_ble_eq_true rfl) dX8_goMinute_48 ⟨Nat.zero_le _, Nat.zero_le _⟩) (fun H locs hG hk => ?_)
        refine lv_if_ne (tgt := 58) hx hb dX8_goMinute_51 (by decide) (fun c4 => ?_) (fun c4 => ?_)
        · have hf := gif_f c4 hf
          refine lv_aload_n hx hb dX8_goMinute_58 rfl (lv_at hl 0 rfl) ?_
          obtain ⟨r5, hc5, hf⟩ := pb_s hf
          refine g_doI0 hG (g_runV C0 hG (k_X8_slope l D base Z u1 r5 hc5) m_X8_slope v_X8_slope w_1254 (by decide) (g_recv C0 hG (L82 hG) rfl) rfl hl.1 rfl (Nat.le_of_ble_eq_true rfl) dX8_goMinute_59 ⟨Nat.zero_le _, Nat.zero_le _⟩) (fun H locs hG hk => ?_)
          refine lv_istore_n (lv' := [(1, .int r5), (0, .ref (base + 82))]) hx hb dX8_goMinute_62 rfl hl (by decide) rfl (fun ls hl => ?_)
          refine lv_aload_n hx hb dX8_goMinute_63 rfl (lv_at hl 1 rfl) ?_
          refine lv_bipush (v := (20 : Int32)) hx hb dX8_goMinute_64 (by decide) ?_
          refine lv_aload_n hx hb dX8_goMinute_66 rfl (lv_at hl 1 rfl) ?_
          refine g_getI C0 hG (L82 hG) rfl 2 (by decide) rfl w_848 dX8_goMinute_67 ?_
          refine lv_iload_n hx hb dX8_goMinute_70 rfl (lv_at hl 0 rfl) ?_
          obtain ⟨h6, hf⟩ := gne_s hf
          refine lv_idiv hx hb dX8_goMinute_71 h6 ?_
          obtain ⟨r7, hc7, hf⟩ := pb_s hf
          refine g_doI0 hG (g_runV C0 hG (k_X8_least l D base Z u1 (20 : Int32) ((gI u1 82 2) / r5) r7 hc7) m_X8_least v_X8_least w_1250 (by decide) (g_recv C0 hG (L82 hG) rfl) rfl hl.1 rfl (Nat.le_of_ble_eq_true rfl) dX8_goMinute_72 ⟨Nat.zero_le _, Nat.zero_le _⟩) (fun H locs hG hk => ?_)
          refine lv_istore_n (lv' := [(2, .int r7), (1, .int r5), (0, .ref (base + 82))]) hx hb dX8_goMinute_75 rfl hl (by decide) rfl (fun ls hl => ?_)
          refine lv_aload_n hx hb dX8_goMinute_76 rfl (lv_at hl 2 rfl) ?_
          refine lv_aload_n hx hb dX8_goMinute_77 rfl (lv_at hl 2 rfl) ?_
          refine lv_aload_n hx hb dX8_goMinute_78 rfl (lv_at hl 2 rfl) ?_
          refine g_getI C0 hG (L82 hG) rfl 2 (by decide) rfl w_848 dX8_goMinute_79 ?_
          refine lv_iload_n hx hb dX8_goMinute_82 rfl (lv_at hl 0 rfl) ?_
          refine lv_iload_n hx hb dX8_goMinute_83 rfl (lv_at hl 1 rfl) ?_
          refine lv_imul hx hb dX8_goMinute_84 ?_
          refine lv_isub hx hb dX8_goMinute_85 ?_
          refine lv_sipush (v := (9999 : Int32)) hx hb dX8_goMinute_86 (by decide) ?_
          obtain ⟨r8, hc8, hf⟩ := pb_s hf
          refine g_doI0 hG (g_runV C0 hG (k_X8_least l D base Z u1 ((gI u1 82 2) - (r7 * r5)) (9999 : Int32) r8 hc8) m_X8_least v_X8_least w_1250 (by decide) (g_recv C0 hG (L82 hG) rfl) rfl hl.1 rfl (Nat.le_of_ble_eq_true rfl) dX8_goMinute_89 ⟨Nat.zero_le _, Nat.zero_le _⟩) (fun H locs hG hk => ?_)
          refine g_putI (ty := .int) C0 hG (L82 hG) rfl 2 (by decide) rfl w_848 rfl (by decide) rfl rfl dX8_goMinute_92 (fun H locs hG => ?_)
          refine lv_aload_n hx hb dX8_goMinute_95 rfl (lv_at hl 2 rfl) ?_
          refine lv_aload_n hx hb dX8_goMinute_96 rfl (lv_at hl 2 rfl) ?_
          refine lv_aload_n hx hb dX8_goMinute_97 rfl (lv_at hl 2 rfl) ?_
          refine g_getI C0 hG (L82 hG) rfl 3 (by decide) rfl w_849 dX8_goMinute_98 ?_
          refine lv_iload_n hx hb dX8_goMinute_101 rfl (lv_at hl 0 rfl) ?_
          refine lv_iadd hx hb dX8_goMinute_102 ?_
          refine lv_sipush (v := (9999 : Int32)) hx hb dX8_goMinute_103 (by decide) ?_
          obtain ⟨r9, hc9, hf⟩ := pb_s hf
          refine g_doI0 hG (g_runV C0 hG (k_X8_least l D base Z (sI u1 82 2 r8) ((gI (sI u1 82 2 r8) 82 3) + r7) (9999 : Int32) r9 hc9) m_X8_least v_X8_least w_1250 (by decide) (g_recv C0 hG (L82 hG) rfl) rfl hl.1 rfl (Nat.le_of_ble_eq_true rfl) dX8_goMinute_106 ⟨Nat.zero_le _, Nat.zero_le _⟩) (fun H locs hG hk => ?_)
          refine g_putI (ty := .int) C0 hG (L82 hG) rfl 3 (by decide) rfl w_849 rfl (by decide) rfl rfl dX8_goMinute_109 (fun H locs hG => ?_)
          refine lv_aload_n hx hb dX8_goMinute_112 rfl (lv_at hl 2 rfl) ?_
          refine lv_dup hx hb dX8_goMinute_113 rfl ?_
          refine g_getI C0 hG (L82 hG) rfl 4 (by decide) rfl w_850 dX8_goMinute_114 ?_
          refine lv_iconst (v := (1 : Int32)) hx hb dX8_goMinute_117 (by decide) ?_
          refine lv_iadd hx hb dX8_goMinute_118 ?_
          refine g_putI (ty := .int) C0 hG (L82 hG) rfl 4 (by decide) rfl w_850 rfl (by decide) rfl rfl dX8_goMinute_119 (fun H locs hG => ?_)
          have hf := while_r hX1 hf
          obtain ⟨-, hu⟩ := gret_s hf
          subst hu
          subst hQ
          exact g_vret C0 hG hr dX8_goMinute_122
        · have hf := gif_t c4 hf
          refine lv_iconst (v := (1 : Int32)) hx hb dX8_goMinute_54 (by decide) ?_
          refine lv_goto (tgt := 62) hx hb dX8_goMinute_55 (by decide) ?_
          refine lv_istore_n (lv' := [(1, .int (1 : Int32)), (0, .ref (base + 82))]) hx hb dX8_goMinute_62 rfl hl (by decide) rfl (fun ls hl => ?_)
          refine lv_aload_n hx hb dX8_goMinute_63 rfl (lv_at hl 1 rfl) ?_
          refine lv_bipush (v := (20 : Int32)) hx hb dX8_goMinute_64 (by decide) ?_
          refine lv_aload_n hx hb dX8_goMinute_66 rfl (lv_at hl 1 rfl) ?_
          refine g_getI C0 hG (L82 hG) rfl 2 (by decide) rfl w_848 dX8_goMinute_67 ?_
          refine lv_iload_n hx hb dX8_goMinute_70 rfl (lv_at hl 0 rfl) ?_
          refine lv_idiv hx hb dX8_goMinute_71 (by decide) ?_
          obtain ⟨r10, hc10, hf⟩ := pb_s hf
          refine g_doI0 hG (g_runV C0 hG (k_X8_least l D base Z u1 (20 : Int32) ((gI u1 82 2) / (1 : Int32)) r10 hc10) m_X8_least v_X8_least w_1250 (by decide) (g_recv C0 hG (L82 hG) rfl) rfl hl.1 rfl (Nat.le_of_ble_eq_true rfl) dX8_goMinute_72 ⟨Nat.zero_le _, Nat.zero_le _⟩) (fun H locs hG hk => ?_)
          refine lv_istore_n (lv' := [(2, .int r10), (1, .int (1 : Int32)), (0, .ref (base + 82))]) hx hb dX8_goMinute_75 rfl hl (by decide) rfl (fun ls hl => ?_)
          refine lv_aload_n hx hb dX8_goMinute_76 rfl (lv_at hl 2 rfl) ?_
          refine lv_aload_n hx hb dX8_goMinute_77 rfl (lv_at hl 2 rfl) ?_
          refine lv_aload_n hx hb dX8_goMinute_78 rfl (lv_at hl 2 rfl) ?_
          refine g_getI C0 hG (L82 hG) rfl 2 (by decide) rfl w_848 dX8_goMinute_79 ?_
          refine lv_iload_n hx hb dX8_goMinute_82 rfl (lv_at hl 0 rfl) ?_
          refine lv_iload_n hx hb dX8_goMinute_83 rfl (lv_at hl 1 rfl) ?_
          refine lv_imul hx hb dX8_goMinute_84 ?_
          refine lv_isub hx hb dX8_goMinute_85 ?_
          refine lv_sipush (v := (9999 : Int32)) hx hb dX8_goMinute_86 (by decide) ?_
          obtain ⟨r11, hc11, hf⟩ := pb_s hf
          refine g_doI0 hG (g_runV C0 hG (k_X8_least l D base Z u1 ((gI u1 82 2) - (r10 * (1 : Int32))) (9999 : Int32) r11 hc11) m_X8_least v_X8_least w_1250 (by decide) (g_recv C0 hG (L82 hG) rfl) rfl hl.1 rfl (Nat.le_of_ble_eq_true rfl) dX8_goMinute_89 ⟨Nat.zero_le _, Nat.zero_le _⟩) (fun H locs hG hk => ?_)
          refine g_putI (ty := .int) C0 hG (L82 hG) rfl 2 (by decide) rfl w_848 rfl (by decide) rfl rfl dX8_goMinute_92 (fun H locs hG => ?_)
          refine lv_aload_n hx hb dX8_goMinute_95 rfl (lv_at hl 2 rfl) ?_
          refine lv_aload_n hx hb dX8_goMinute_96 rfl (lv_at hl 2 rfl) ?_
          refine lv_aload_n hx hb dX8_goMinute_97 rfl (lv_at hl 2 rfl) ?_
          refine g_getI C0 hG (L82 hG) rfl 3 (by decide) rfl w_849 dX8_goMinute_98 ?_
          refine lv_iload_n hx hb dX8_goMinute_101 rfl (lv_at hl 0 rfl) ?_
          refine lv_iadd hx hb dX8_goMinute_102 ?_
          refine lv_sipush (v := (9999 : Int32)) hx hb dX8_goMinute_103 (by decide) ?_
          obtain ⟨r12, hc12, hf⟩ := pb_s hf
          refine g_doI0 hG (g_runV C0 hG (k_X8_least l D base Z (sI u1 82 2 r11) ((gI (sI u1 82 2 r11) 82 3) + r10) (9999 : Int32) r12 hc12) m_X8_least v_X8_least w_1250 (by decide) (g_recv C0 hG (L82 hG) rfl) rfl hl.1 rfl (Nat.le_of_ble_eq_true rfl) dX8_goMinute_106 ⟨Nat.zero_le _, Nat.zero_le _⟩) (fun H locs hG hk => ?_)
          refine g_putI (ty := .int) C0 hG (L82 hG) rfl 3 (by decide) rfl w_849 rfl (by decide) rfl rfl dX8_goMinute_109 (fun H locs hG => ?_)
          refine lv_aload_n hx hb dX8_goMinute_112 rfl (lv_at hl 2 rfl) ?_
          refine lv_dup hx hb dX8_goMinute_113 rfl ?_
          refine g_getI C0 hG (L82 hG) rfl 4 (by decide) rfl w_850 dX8_goMinute_114 ?_
          refine lv_iconst (v := (1 : Int32)) hx hb dX8_goMinute_117 (by decide) ?_
          refine lv_iadd hx hb dX8_goMinute_118 ?_
          refine g_putI (ty := .int) C0 hG (L82 hG) rfl 4 (by decide) rfl w_850 rfl (by decide) rfl rfl dX8_goMinute_119 (fun H locs hG => ?_)
          have hf := while_r hX1 hf
          obtain ⟨-, hu⟩ := gret_s hf
          subst hu
          subst hQ
          exact g_vret C0 hG hr dX8_goMinute_122
      · have hf := gif_f c2 hf
        refine lv_aload_n hx hb dX8_goMinute_10 rfl (lv_at hl 0 rfl) ?_
        refine lv_aload_n hx hb dX8_goMinute_11 rfl (lv_at hl 0 rfl) ?_
        refine g_getI C0 hG (L82 hG) rfl 1 (by decide) rfl w_847 dX8_goMinute_12 ?_
        refine lv_iload_n hx hb dX8_goMinute_15 rfl (lv_at hl 1 rfl) ?_
        obtain ⟨r13, hc13, hf⟩ := pb_s hf
        refine g_doI0 hG (g_runV C0 hG (k_X8_has l D base Z u1 (gI u1 82 1) x1_1 r13 hc13) m_X8_has v_X8_has w_1110 (by decide) (g_recv C0 hG (L82 hG) rfl) rfl hl.1 rfl (Nat.le_of_ble_eq_true rfl) dX8_goMinute_16 ⟨Nat.zero_le _, Nat.zero_le _⟩) (fun H locs hG hk => ?_)
        refine lv_if_eq (tgt := 25) hx hb dX8_goMinute_19 (by decide) (fun c14 => ?_) (fun c14 => ?_)
        · have hf := gif_t c14 hf
          refine lv_aload_n hx hb dX8_goMinute_25 rfl (lv_at hl 0 rfl) ?_
          refine lv_iload_n hx hb dX8_goMinute_26 rfl (lv_at hl 1 rfl) ?_
          obtain ⟨r15, u15, hc15, hf⟩ := obind_s hf
          refine g_doI0 hG (g_runV C0 hG (k_X8_tells l D base Z u1 x1_1 r15 u15 hc15) m_X8_tells v_X8_tells w_1226 (by decide) (g_recv C0 hG (L82 hG) rfl) rfl hl.1 rfl (Nat.le_of_ble_eq_true rfl) dX8_goMinute_27 ⟨Nat.zero_le _, Nat.zero_le _⟩) (fun H locs hG hk => ?_)
          refine lv_istore_n (lv' := [(2, .int r15), (0, .ref (base + 82)), (1, .int x1_1)]) hx hb dX8_goMinute_30 rfl hl (by decide) rfl (fun ls hl => ?_)
          refine lv_iload_n hx hb dX8_goMinute_31 rfl (lv_at hl 0 rfl) ?_
          refine lv_if_lt (tgt := 41) hx hb dX8_goMinute_32 (by decide) (fun c16 => ?_) (fun c16 => ?_)
          · have hf := gif_t c16 hf
            refine lv_iinc (v := x1_1 + (1 : Int32)) (lv' := [(1, .int (x1_1 + (1 : Int32))), (2, .int r15), (0, .ref (base + 82))]) hx hb dX8_goMinute_41 hl (k := 2) rfl rfl (by decide) rfl (fun ls hl => ?_)
            refine lv_goto (tgt := 2) hx hb dX8_goMinute_44 (by decide) ?_
            have hf := while_l hX1 hf
            exact ih1 (x1_1 + (1 : Int32)) u15 _ _ ls hG (lv_sub hl [2, 0] rfl) hf
          · have hf := gif_f c16 hf
            refine lv_aload_n hx hb dX8_goMinute_35 rfl (lv_at hl 1 rfl) ?_
            refine lv_iload_n hx hb dX8_goMinute_36 rfl (lv_at hl 2 rfl) ?_
            refine lv_iload_n hx hb dX8_goMinute_37 rfl (lv_at hl 0 rfl) ?_
            obtain ⟨_, u17, hc17, hf⟩ := obind_s hf
            refine g_doV0 hG (g_runV C0 hG (k_X8_tell l D base Z u15 x1_1 r15 u17 hc17) m_X8_tell v_X8_tell w_1246 (by decide) (g_recv C0 hG (L82 hG) rfl) rfl hl.1 rfl (Nat.le_of_ble_eq_true rfl) dX8_goMinute_38 ⟨Nat.zero_le _, Nat.zero_le _⟩) (fun H locs hG hk => ?_)
            refine lv_iinc (v := x1_1 + (1 : Int32)) (lv' := [(1, .int (x1_1 + (1 : Int32))), (2, .int r15), (0, .ref (base + 82))]) hx hb dX8_goMinute_41 hl (k := 2) rfl rfl (by decide) rfl (fun ls hl => ?_)
            refine lv_goto (tgt := 2) hx hb dX8_goMinute_44 (by decide) ?_
            have hf := while_l hX1 hf
            exact ih1 (x1_1 + (1 : Int32)) u17 _ _ ls hG (lv_sub hl [2, 0] rfl) hf
        · have hf := gif_f c14 hf
          refine lv_goto (tgt := 41) hx hb dX8_goMinute_22 (by decide) ?_
          refine lv_iinc (v := x1_1 + (1 : Int32)) (lv' := [(1, .int (x1_1 + (1 : Int32))), (0, .ref (base + 82))]) hx hb dX8_goMinute_41 hl (k := 1) rfl rfl (by decide) rfl (fun ls hl => ?_)
          refine lv_goto (tgt := 2) hx hb dX8_goMinute_44 (by decide) ?_
          have hf := while_l hX1 hf
          exact ih1 (x1_1 + (1 : Int32)) u1 _ _ ls hG (lv_sub hl [1, 0] rfl) hf
  exact loop1 FUEL (0 : Int32) u _ _ ls hG (lv_sub hl [1, 0] rfl) hf
theorem dX8_goMinutes_0 : decode cX8_goMinutes 0 = .ok (.iconst 0, 1) := by decide +kernel
theorem dX8_goMinutes_1 : decode cX8_goMinutes 1 = .ok (.istore_n 2, 1) := by decide +kernel
theorem dX8_goMinutes_2 : decode cX8_goMinutes 2 = .ok (.iload_n 2, 1) := by decide +kernel
theorem dX8_goMinutes_3 : decode cX8_goMinutes 3 = .ok (.iload_n 1, 1) := by decide +kernel
theorem dX8_goMinutes_4 : decode cX8_goMinutes 4 = .ok (.if_icmp .ge 13, 3) := by decide +kernel
theorem dX8_goMinutes_7 : decode cX8_goMinutes 7 = .ok (.aload_n 0, 1) := by decide +kernel
theorem dX8_goMinutes_8 : decode cX8_goMinutes 8 = .ok (.invokevirtual 352, 3) := by decide +kernel
theorem dX8_goMinutes_11 : decode cX8_goMinutes 11 = .ok (.iinc 2 1, 3) := by decide +kernel
theorem dX8_goMinutes_14 : decode cX8_goMinutes 14 = .ok (.goto (-12), 3) := by decide +kernel
theorem dX8_goMinutes_17 : decode cX8_goMinutes 17 = .ok (.return_, 1) := by decide +kernel
def f_X8_goMinutes_L2 (p1 : Int32) (x2_1 : Int32) (u1 : Mem) : Option ((Int32 × Mem) ⊕ (Unit × Mem)) := (if p1 ≤ x2_1 then some (Sum.inr ((), u1)) else obind (f_X8_goMinute u1) (fun _ u3 => some (Sum.inl (x2_1 + (1 : Int32), u3))))
def f_X8_goMinutes (p1 : Int32) (u : Mem) : Option (Unit × Mem) := whileO (fun s => f_X8_goMinutes_L2 p1 s.1 s.2) FUEL ((0 : Int32), u)
set_option maxHeartbeats 4000000 in
set_option maxRecDepth 100000 in
theorem k_X8_goMinutes (l : Launch) (D : gDt) (base : Nat) (Z : gZt) (u : Mem) (p1 : Int32) (u' : Mem) (hf : f_X8_goMinutes p1 u = some ((), u')) : Met l yX8_goMinutes (gws yX8_goMinutes cX8_goMinutes 3 (none)) (gRm 7 0 0) (gPc D base Z u [.ref (base + 82), .int p1]) (gQv D base u') 0 0 (gF base) := by
  refine Met.ofW (cc := cX8_goMinutes) (maxL := 3) (ret := none) (by decide) rfl ?_
  intro p e s m args below meth c s₁ B hml hv
  obtain ⟨rfl, C0, hG⟩ := g_enter B hml hv
  have hr := B.returns
  have C0 : gC p s m meth c _ cX8_goMinutes 3 RX8 D base Z := C0
  have hx := C0.1
  have hb := C0.2.1
  have hl := lv_entry ([.ref (base + 82), .int p1]) (n := 3) (Nat.le_of_ble_eq_true rfl)
  rw [lg_entry_eq]
  generalize (lg_sl ([.ref (base + 82), .int p1]) ++ List.replicate (3 - (lg_sl ([.ref (base + 82), .int p1])).length) Slot.unset).toArray = ls at hl ⊢
  have hl : lv_has ls 3 [(0, .ref (base + 82)), (1, .int p1)] := hl
  obtain ⟨Q, hQ⟩ : ∃ Q, Q = MQ below (gQv D base u') ([.ref (base + 82), .int p1] : List Value).toArray s 0 0 (gF base) := ⟨_, rfl⟩
  rw [← hQ]
  change W p l e (gRm 7 0 0) s m _ below meth c _ _ _ _ _ _
  unfold f_X8_goMinutes at hf
  refine lv_iconst (v := (0 : Int32)) hx hb dX8_goMinutes_0 (by decide) ?_
  refine lv_istore_n (lv' := [(2, .int (0 : Int32)), (0, .ref (base + 82)), (1, .int p1)]) hx hb dX8_goMinutes_1 rfl hl (by decide) rfl (fun ls hl => ?_)
  have loop1 : ∀ (n1 : Nat) (x2_1 : Int32) (u1 : Mem) (H : Heap) (locs : List Loc) (ls : Array Slot), gH D base s u1 H locs → lv_has ls 3 [(0, .ref (base + 82)), (1, .int p1), (2, .int x2_1)] → whileO (fun s => f_X8_goMinutes_L2 p1 s.1 s.2) n1 (x2_1, u1) = some ((), u') → W p l e (gRm 7 0 0) s m ([.ref (base + 82), .int p1] : List Value).toArray below meth c H locs 0 0 Q (F0 m 2 ls []) := by
    intro n1
    induction n1 with
    | zero => intro x2_1 u1 H locs ls hG hl hf; cases hf
    | succ n1 ih1 =>
      intro x2_1 u1 H locs ls hG hl hf
      obtain ⟨X1, hf, hX1⟩ := while_s hf
      have hf : f_X8_goMinutes_L2 p1 x2_1 u1 = some X1 := hf
      unfold f_X8_goMinutes_L2 at hf
      refine lv_iload_n hx hb dX8_goMinutes_2 rfl (lv_at hl 2 rfl) ?_
      refine lv_iload_n hx hb dX8_goMinutes_3 rfl (lv_at hl 1 rfl) ?_
      refine lv_icmp_ge (tgt := 17) hx hb dX8_goMinutes_4 (by decide) (fun c2 => ?_) (fun c2 => ?_)
      · have hf := gif_t c2 hf
        have hf := while_r hX1 hf
        obtain ⟨-, hu⟩ := gret_s hf
        subst hu
        subst hQ
        exact g_vret C0 hG hr dX8_goMinutes_17
      · have hf := gif_f c2 hf
        refine lv_aload_n hx hb dX8_goMinutes_7 rfl (lv_at hl 0 rfl) ?_
        obtain ⟨_, u3, hc3, hf⟩ := obind_s hf
        refine g_doV0 hG (g_runV C0 hG (k_X8_goMinute l D base Z u1 u3 hc3) m_X8_goMinute v_X8_goMinute w_1242 (by decide) (g_recv C0 hG (L82 hG) rfl) rfl hl.1 rfl (Nat.le_of_ble_eq_true rfl) dX8_goMinutes_8 ⟨Nat.zero_le _, Nat.zero_le _⟩) (fun H locs hG hk => ?_)
        refine lv_iinc (v := x2_1 + (1 : Int32)) (lv' := [(2, .int (x2_1 + (1 : Int32))), (0, .ref (base + 82)), (1, .int p1)]) hx hb dX8_goMinutes_11 hl (k := 2) rfl rfl (by decide) rfl (fun ls hl => ?_)
        refine lv_goto (tgt := 2) hx hb dX8_goMinutes_14 (by decide) ?_
        have hf := while_l hX1 hf
        exact ih1 (x2_1 + (1 : Int32)) u3 _ _ ls hG (lv_sub hl [1, 2, 0] rfl) hf
  exact loop1 FUEL (0 : Int32) u _ _ ls hG (lv_sub hl [1, 2, 0] rfl) hf
theorem dX8_pass_0 : decode cX8_pass 0 = .ok (.aload_n 0, 1) := by decide +kernel
theorem dX8_pass_1 : decode cX8_pass 1 = .ok (.iload_n 1, 1) := by decide +kernel
theorem dX8_pass_2 : decode cX8_pass 2 = .ok (.invokevirtual 355, 3) := by decide +kernel
theorem dX8_pass_5 : decode cX8_pass 5 = .ok (.ifCond .ne 6, 3) := by decide +kernel
theorem dX8_pass_8 : decode cX8_pass 8 = .ok (.bipush (-2), 2) := by decide +kernel
theorem dX8_pass_10 : decode cX8_pass 10 = .ok (.ireturn, 1) := by decide +kernel
theorem dX8_pass_11 : decode cX8_pass 11 = .ok (.aload_n 0, 1) := by decide +kernel
theorem dX8_pass_12 : decode cX8_pass 12 = .ok (.getfield 22, 3) := by decide +kernel
theorem dX8_pass_15 : decode cX8_pass 15 = .ok (.iload_n 1, 1) := by decide +kernel
theorem dX8_pass_16 : decode cX8_pass 16 = .ok (.iadd, 1) := by decide +kernel
theorem dX8_pass_17 : decode cX8_pass 17 = .ok (.sipush 9999, 3) := by decide +kernel
theorem dX8_pass_20 : decode cX8_pass 20 = .ok (.if_icmp .le 6, 3) := by decide +kernel
theorem dX8_pass_23 : decode cX8_pass 23 = .ok (.bipush (-3), 2) := by decide +kernel
theorem dX8_pass_25 : decode cX8_pass 25 = .ok (.ireturn, 1) := by decide +kernel
theorem dX8_pass_26 : decode cX8_pass 26 = .ok (.aload_n 0, 1) := by decide +kernel
theorem dX8_pass_27 : decode cX8_pass 27 = .ok (.iload_n 1, 1) := by decide +kernel
theorem dX8_pass_28 : decode cX8_pass 28 = .ok (.invokevirtual 358, 3) := by decide +kernel
theorem dX8_pass_31 : decode cX8_pass 31 = .ok (.aload_n 0, 1) := by decide +kernel
theorem dX8_pass_32 : decode cX8_pass 32 = .ok (.getfield 22, 3) := by decide +kernel
theorem dX8_pass_35 : decode cX8_pass 35 = .ok (.ireturn, 1) := by decide +kernel
def f_X8_pass (p1 : Int32) (u : Mem) : Option (Int32 × Mem) := Option.bind (f_X8_isMinutes p1) (fun r1 => (if r1 = 0 then some ((-2 : Int32), u) else (if ((gI u 82 4) + p1) ≤ (9999 : Int32) then obind (f_X8_goMinutes p1 u) (fun _ u4 => some (gI u4 82 4, u4)) else some ((-3 : Int32), u))))
set_option maxHeartbeats 4000000 in
set_option maxRecDepth 100000 in
theorem k_X8_pass (l : Launch) (D : gDt) (base : Nat) (Z : gZt) (u : Mem) (p1 : Int32) (r : Int32) (u' : Mem) (hf : f_X8_pass p1 u = some (r, u')) : Met l yX8_pass (gws yX8_pass cX8_pass 2 (some .int)) (gRm 8 0 0) (gPc D base Z u [.ref (base + 82), .int p1]) (gQi D base r u') 0 0 (gF base) := by
  refine Met.ofW (cc := cX8_pass) (maxL := 2) (ret := some .int) (by decide) rfl ?_
  intro p e s m args below meth c s₁ B hml hv
  obtain ⟨rfl, C0, hG⟩ := g_enter B hml hv
  have hr := B.returns
  have C0 : gC p s m meth c _ cX8_pass 2 RX8 D base Z := C0
  have hx := C0.1
  have hb := C0.2.1
  have hl := lv_entry ([.ref (base + 82), .int p1]) (n := 2) (Nat.le_of_ble_eq_true rfl)
  rw [lg_entry_eq]
  generalize (lg_sl ([.ref (base + 82), .int p1]) ++ List.replicate (2 - (lg_sl ([.ref (base + 82), .int p1])).length) Slot.unset).toArray = ls at hl ⊢
  have hl : lv_has ls 2 [(0, .ref (base + 82)), (1, .int p1)] := hl
  obtain ⟨Q, hQ⟩ : ∃ Q, Q = MQ below (gQi D base r u') ([.ref (base + 82), .int p1] : List Value).toArray s 0 0 (gF base) := ⟨_, rfl⟩
  rw [← hQ]
  change W p l e (gRm 8 0 0) s m _ below meth c _ _ _ _ _ _
  unfold f_X8_pass at hf
  refine lv_aload_n hx hb dX8_pass_0 rfl (lv_at hl 0 rfl) ?_
  refine lv_iload_n hx hb dX8_pass_1 rfl (lv_at hl 1 rfl) ?_
  obtain ⟨r1, hc1, hf⟩ := pb_s hf
  refine g_doI0 hG (g_runV C0 hG (k_X8_isMinutes l D base Z u p1 r1 hc1) m_X8_isMinutes v_X8_isMinutes w_1234 (by decide) (g_recv C0 hG (L82 hG) rfl) rfl hl.1 rfl (Nat.le_of_ble_eq_true rfl) dX8_pass_2 ⟨Nat.zero_le _, Nat.zero_le _⟩) (fun H locs hG hk => ?_)
  refine lv_if_ne (tgt := 11) hx hb dX8_pass_5 (by decide) (fun c2 => ?_) (fun c2 => ?_)
  · have hf := gif_f c2 hf
    refine lv_aload_n hx hb dX8_pass_11 rfl (lv_at hl 0 rfl) ?_
    refine g_getI C0 hG (L82 hG) rfl 4 (by decide) rfl w_850 dX8_pass_12 ?_
    refine lv_iload_n hx hb dX8_pass_15 rfl (lv_at hl 1 rfl) ?_
    refine lv_iadd hx hb dX8_pass_16 ?_
    refine lv_sipush (v := (9999 : Int32)) hx hb dX8_pass_17 (by decide) ?_
    refine lv_icmp_le (tgt := 26) hx hb dX8_pass_20 (by decide) (fun c3 => ?_) (fun c3 => ?_)
    · have hf := gif_t c3 hf
      refine lv_aload_n hx hb dX8_pass_26 rfl (lv_at hl 0 rfl) ?_
      refine lv_iload_n hx hb dX8_pass_27 rfl (lv_at hl 1 rfl) ?_
      obtain ⟨_, u4, hc4, hf⟩ := obind_s hf
      refine g_doV0 hG (g_runV C0 hG (k_X8_goMinutes l D base Z u p1 u4 hc4) m_X8_goMinutes v_X8_goMinutes w_1238 (by decide) (g_recv C0 hG (L82 hG) rfl) rfl hl.1 rfl (Nat.le_of_ble_eq_true rfl) dX8_pass_28 ⟨Nat.zero_le _, Nat.zero_le _⟩) (fun H locs hG hk => ?_)
      refine lv_aload_n hx hb dX8_pass_31 rfl (lv_at hl 0 rfl) ?_
      refine g_getI C0 hG (L82 hG) rfl 4 (by decide) rfl w_850 dX8_pass_32 ?_
      obtain ⟨hr1, hu⟩ := gret_s hf
      subst hr1
      subst hu
      subst hQ
      exact g_iret C0 hG hr dX8_pass_35
    · have hf := gif_f c3 hf
      refine lv_bipush (v := (-3 : Int32)) hx hb dX8_pass_23 (by decide) ?_
      obtain ⟨hr1, hu⟩ := gret_s hf
      subst hr1
      subst hu
      subst hQ
      exact g_iret C0 hG hr dX8_pass_25
  · have hf := gif_t c2 hf
    refine lv_bipush (v := (-2 : Int32)) hx hb dX8_pass_8 (by decide) ?_
    obtain ⟨hr1, hu⟩ := gret_s hf
    subst hr1
    subst hu
    subst hQ
    exact g_iret C0 hG hr dX8_pass_10
theorem dX8_save_0 : decode cX8_save 0 = .ok (.aload_n 0, 1) := by decide +kernel
theorem dX8_save_1 : decode cX8_save 1 = .ok (.aload_n 0, 1) := by decide +kernel
theorem dX8_save_2 : decode cX8_save 2 = .ok (.getfield 13, 3) := by decide +kernel
theorem dX8_save_5 : decode cX8_save 5 = .ok (.putfield 102, 3) := by decide +kernel
theorem dX8_save_8 : decode cX8_save 8 = .ok (.aload_n 0, 1) := by decide +kernel
theorem dX8_save_9 : decode cX8_save 9 = .ok (.aload_n 0, 1) := by decide +kernel
theorem dX8_save_10 : decode cX8_save 10 = .ok (.getfield 16, 3) := by decide +kernel
theorem dX8_save_13 : decode cX8_save 13 = .ok (.putfield 105, 3) := by decide +kernel
theorem dX8_save_16 : decode cX8_save 16 = .ok (.aload_n 0, 1) := by decide +kernel
theorem dX8_save_17 : decode cX8_save 17 = .ok (.aload_n 0, 1) := by decide +kernel
theorem dX8_save_18 : decode cX8_save 18 = .ok (.getfield 19, 3) := by decide +kernel
theorem dX8_save_21 : decode cX8_save 21 = .ok (.putfield 108, 3) := by decide +kernel
theorem dX8_save_24 : decode cX8_save 24 = .ok (.aload_n 0, 1) := by decide +kernel
theorem dX8_save_25 : decode cX8_save 25 = .ok (.aload_n 0, 1) := by decide +kernel
theorem dX8_save_26 : decode cX8_save 26 = .ok (.getfield 22, 3) := by decide +kernel
theorem dX8_save_29 : decode cX8_save 29 = .ok (.putfield 111, 3) := by decide +kernel
theorem dX8_save_32 : decode cX8_save 32 = .ok (.iconst 0, 1) := by decide +kernel
theorem dX8_save_33 : decode cX8_save 33 = .ok (.istore_n 1, 1) := by decide +kernel
theorem dX8_save_34 : decode cX8_save 34 = .ok (.iload_n 1, 1) := by decide +kernel
theorem dX8_save_35 : decode cX8_save 35 = .ok (.bipush 6, 2) := by decide +kernel
theorem dX8_save_37 : decode cX8_save 37 = .ok (.if_icmp .ge 33, 3) := by decide +kernel
theorem dX8_save_40 : decode cX8_save 40 = .ok (.aload_n 0, 1) := by decide +kernel
theorem dX8_save_41 : decode cX8_save 41 = .ok (.getfield 114, 3) := by decide +kernel
theorem dX8_save_44 : decode cX8_save 44 = .ok (.iload_n 1, 1) := by decide +kernel
theorem dX8_save_45 : decode cX8_save 45 = .ok (.aload_n 0, 1) := by decide +kernel
theorem dX8_save_46 : decode cX8_save 46 = .ok (.getfield 32, 3) := by decide +kernel
theorem dX8_save_49 : decode cX8_save 49 = .ok (.iload_n 1, 1) := by decide +kernel
theorem dX8_save_50 : decode cX8_save 50 = .ok (.iaload, 1) := by decide +kernel
theorem dX8_save_51 : decode cX8_save 51 = .ok (.iastore, 1) := by decide +kernel
theorem dX8_save_52 : decode cX8_save 52 = .ok (.aload_n 0, 1) := by decide +kernel
theorem dX8_save_53 : decode cX8_save 53 = .ok (.getfield 117, 3) := by decide +kernel
theorem dX8_save_56 : decode cX8_save 56 = .ok (.iload_n 1, 1) := by decide +kernel
theorem dX8_save_57 : decode cX8_save 57 = .ok (.aload_n 0, 1) := by decide +kernel
theorem dX8_save_58 : decode cX8_save 58 = .ok (.getfield 35, 3) := by decide +kernel
theorem dX8_save_61 : decode cX8_save 61 = .ok (.iload_n 1, 1) := by decide +kernel
theorem dX8_save_62 : decode cX8_save 62 = .ok (.iaload, 1) := by decide +kernel
theorem dX8_save_63 : decode cX8_save 63 = .ok (.iastore, 1) := by decide +kernel
theorem dX8_save_64 : decode cX8_save 64 = .ok (.iinc 1 1, 3) := by decide +kernel
theorem dX8_save_67 : decode cX8_save 67 = .ok (.goto (-33), 3) := by decide +kernel
theorem dX8_save_70 : decode cX8_save 70 = .ok (.iconst 0, 1) := by decide +kernel
theorem dX8_save_71 : decode cX8_save 71 = .ok (.istore_n 1, 1) := by decide +kernel
theorem dX8_save_72 : decode cX8_save 72 = .ok (.iload_n 1, 1) := by decide +kernel
theorem dX8_save_73 : decode cX8_save 73 = .ok (.bipush 8, 2) := by decide +kernel
theorem dX8_save_75 : decode cX8_save 75 = .ok (.if_icmp .ge 21, 3) := by decide +kernel
theorem dX8_save_78 : decode cX8_save 78 = .ok (.aload_n 0, 1) := by decide +kernel
theorem dX8_save_79 : decode cX8_save 79 = .ok (.getfield 120, 3) := by decide +kernel
theorem dX8_save_82 : decode cX8_save 82 = .ok (.iload_n 1, 1) := by decide +kernel
theorem dX8_save_83 : decode cX8_save 83 = .ok (.aload_n 0, 1) := by decide +kernel
theorem dX8_save_84 : decode cX8_save 84 = .ok (.getfield 41, 3) := by decide +kernel
theorem dX8_save_87 : decode cX8_save 87 = .ok (.iload_n 1, 1) := by decide +kernel
theorem dX8_save_88 : decode cX8_save 88 = .ok (.iaload, 1) := by decide +kernel
theorem dX8_save_89 : decode cX8_save 89 = .ok (.iastore, 1) := by decide +kernel
theorem dX8_save_90 : decode cX8_save 90 = .ok (.iinc 1 1, 3) := by decide +kernel
theorem dX8_save_93 : decode cX8_save 93 = .ok (.goto (-21), 3) := by decide +kernel
theorem dX8_save_96 : decode cX8_save 96 = .ok (.return_, 1) := by decide +kernel
def f_X8_save_L72 (x1_3 : Int32) (u3 : Mem) : Option ((Int32 × Mem) ⊕ ((Int32 × Mem) ⊕ (Unit × Mem))) := (if (8 : Int32) ≤ x1_3 then some (Sum.inr (Sum.inr ((), u3))) else gin x1_3 8 (gin x1_3 8 (some (Sum.inl (x1_3 + (1 : Int32), sA u3 102 x1_3.toNatClampNeg (gA u3 88 x1_3.toNatClampNeg))))))
def f_X8_save_L34 (x1_1 : Int32) (u1 : Mem) : Option ((Int32 × Mem) ⊕ (Unit × Mem)) := (if (6 : Int32) ≤ x1_1 then whileO (fun s => f_X8_save_L72 s.1 s.2) FUEL ((0 : Int32), u1) else gin x1_1 6 (gin x1_1 6 (gin x1_1 6 (gin x1_1 6 (some (Sum.inl (x1_1 + (1 : Int32), sA (sA u1 100 x1_1.toNatClampNeg (gA u1 85 x1_1.toNatClampNeg)) 101 x1_1.toNatClampNeg (gA (sA u1 100 x1_1.toNatClampNeg (gA u1 85 x1_1.toNatClampNeg)) 86 x1_1.toNatClampNeg))))))))
def f_X8_save (u : Mem) : Option (Unit × Mem) := whileO (fun s => f_X8_save_L34 s.1 s.2) FUEL ((0 : Int32), sI (sI (sI (sI u 82 30 (gI u 82 1)) 82 31 (gI (sI u 82 30 (gI u 82 1)) 82 2)) 82 32 (gI (sI (sI u 82 30 (gI u 82 1)) 82 31 (gI (sI u 82 30 (gI u 82 1)) 82 2)) 82 3)) 82 33 (gI (sI (sI (sI u 82 30 (gI u 82 1)) 82 31 (gI (sI u 82 30 (gI u 82 1)) 82 2)) 82 32 (gI (sI (sI u 82 30 (gI u 82 1)) 82 31 (gI (sI u 82 30 (gI u 82 1)) 82 2)) 82 3)) 82 4))
set_option maxHeartbeats 4000000 in
set_option maxRecDepth 100000 in
theorem k_X8_save (l : Launch) (D : gDt) (base : Nat) (Z : gZt) (u : Mem) (u' : Mem) (hf : f_X8_save u = some ((), u')) : Met l yX8_save (gws yX8_save cX8_save 2 (none)) (gRm 1 0 0) (gPc D base Z u [.ref (base + 82)]) (gQv D base u') 0 0 (gF base) := by
  refine Met.ofW (cc := cX8_save) (maxL := 2) (ret := none) (by decide) rfl ?_
  intro p e s m args below meth c s₁ B hml hv
  obtain ⟨rfl, C0, hG⟩ := g_enter B hml hv
  have hr := B.returns
  have C0 : gC p s m meth c _ cX8_save 2 RX8 D base Z := C0
  have hx := C0.1
  have hb := C0.2.1
  have hl := lv_entry ([.ref (base + 82)]) (n := 2) (Nat.le_of_ble_eq_true rfl)
  rw [lg_entry_eq]
  generalize (lg_sl ([.ref (base + 82)]) ++ List.replicate (2 - (lg_sl ([.ref (base + 82)])).length) Slot.unset).toArray = ls at hl ⊢
  have hl : lv_has ls 2 [(0, .ref (base + 82))] := hl
  obtain ⟨Q, hQ⟩ : ∃ Q, Q = MQ below (gQv D base u') ([.ref (base + 82)] : List Value).toArray s 0 0 (gF base) := ⟨_, rfl⟩
  rw [← hQ]
  change W p l e (gRm 1 0 0) s m _ below meth c _ _ _ _ _ _
  unfold f_X8_save at hf
  refine lv_aload_n hx hb dX8_save_0 rfl (lv_at hl 0 rfl) ?_
  refine lv_aload_n hx hb dX8_save_1 rfl (lv_at hl 0 rfl) ?_
  refine g_getI C0 hG (L82 hG) rfl 1 (by decide) rfl w_847 dX8_save_2 ?_
  refine g_putI (ty := .int) C0 hG (L82 hG) rfl 30 (by decide) rfl w_876 rfl (by decide) rfl rfl dX8_save_5 (fun H locs hG => ?_)
  refine lv_aload_n hx hb dX8_save_8 rfl (lv_at hl 0 rfl) ?_
  refine lv_aload_n hx hb dX8_save_9 rfl (lv_at hl 0 rfl) ?_
  refine g_getI C0 hG (L82 hG) rfl 2 (by decide) rfl w_848 dX8_save_10 ?_
  refine g_putI (ty := .int) C0 hG (L82 hG) rfl 31 (by decide) rfl w_877 rfl (by decide) rfl rfl dX8_save_13 (fun H locs hG => ?_)
  refine lv_aload_n hx hb dX8_save_16 rfl (lv_at hl 0 rfl) ?_
  refine lv_aload_n hx hb dX8_save_17 rfl (lv_at hl 0 rfl) ?_
  refine g_getI C0 hG (L82 hG) rfl 3 (by decide) rfl w_849 dX8_save_18 ?_
  refine g_putI (ty := .int) C0 hG (L82 hG) rfl 32 (by decide) rfl w_878 rfl (by decide) rfl rfl dX8_save_21 (fun H locs hG => ?_)
  refine lv_aload_n hx hb dX8_save_24 rfl (lv_at hl 0 rfl) ?_
  refine lv_aload_n hx hb dX8_save_25 rfl (lv_at hl 0 rfl) ?_
  refine g_getI C0 hG (L82 hG) rfl 4 (by decide) rfl w_850 dX8_save_26 ?_
  refine g_putI (ty := .int) C0 hG (L82 hG) rfl 33 (by decide) rfl w_879 rfl (by decide) rfl rfl dX8_save_29 (fun H locs hG => ?_)
  refine lv_iconst (v := (0 : Int32)) hx hb dX8_save_32 (by decide) ?_
  refine lv_istore_n (lv' := [(1, .int (0 : Int32)), (0, .ref (base + 82))]) hx hb dX8_save_33 rfl hl (by decide) rfl (fun ls hl => ?_)
  have loop1 : ∀ (n1 : Nat) (x1_1 : Int32) (u1 : Mem) (H : Heap) (locs : List Loc) (ls : Array Slot), gH D base s u1 H locs → lv_has ls 2 [(0, .ref (base + 82)), (1, .int x1_1)] → whileO (fun s => f_X8_save_L34 s.1 s.2) n1 (x1_1, u1) = some ((), u') → W p l e (gRm 1 0 0) s m ([.ref (base + 82)] : List Value).toArray below meth c H locs 0 0 Q (F0 m 34 ls []) := by
    intro n1
    induction n1 with
    | zero => intro x1_1 u1 H locs ls hG hl hf; cases hf
    | succ n1 ih1 =>
      intro x1_1 u1 H locs ls hG hl hf
      obtain ⟨X1, hf, hX1⟩ := while_s hf
      have hf : f_X8_save_L34 x1_1 u1 = some X1 := hf
      unfold f_X8_save_L34 at hf
      refine lv_iload_n hx hb dX8_save_34 rfl (lv_at hl 1 rfl) ?_
      refine lv_bipush (v := (6 : Int32)) hx hb dX8_save_35 (by decide) ?_
      refine lv_icmp_ge (tgt := 70) hx hb dX8_save_37 (by decide) (fun c2 => ?_) (fun c2 => ?_)
      · have hf := gif_t c2 hf
        refine lv_iconst (v := (0 : Int32)) hx hb dX8_save_70 (by decide) ?_
        refine lv_istore_n (lv' := [(1, .int (0 : Int32)), (0, .ref (base + 82))]) hx hb dX8_save_71 rfl hl (by decide) rfl (fun ls hl => ?_)
        have loop3 : ∀ (n3 : Nat) (x1_3 : Int32) (u3 : Mem) (H : Heap) (locs : List Loc) (ls : Array Slot), gH D base s u3 H locs → lv_has ls 2 [(0, .ref (base + 82)), (1, .int x1_3)] → whileO (fun s => f_X8_save_L72 s.1 s.2) n3 (x1_3, u3) = some X1 → W p l e (gRm 1 0 0) s m ([.ref (base + 82)] : List Value).toArray below meth c H locs 0 0 Q (F0 m 72 ls []) := by
          intro n3
          induction n3 with
          | zero => intro x1_3 u3 H locs ls hG hl hf; cases hf
          | succ n3 ih3 =>
            intro x1_3 u3 H locs ls hG hl hf
            obtain ⟨X3, hf, hX3⟩ := while_s hf
            have hf : f_X8_save_L72 x1_3 u3 = some X3 := hf
            unfold f_X8_save_L72 at hf
            refine lv_iload_n hx hb dX8_save_72 rfl (lv_at hl 1 rfl) ?_
            refine lv_bipush (v := (8 : Int32)) hx hb dX8_save_73 (by decide) ?_
            refine lv_icmp_ge (tgt := 96) hx hb dX8_save_75 (by decide) (fun c4 => ?_) (fun c4 => ?_)
            · have hf := gif_t c4 hf
              have hf := while_r hX3 hf
              have hf := while_r hX1 hf
              obtain ⟨-, hu⟩ := gret_s hf
              subst hu
              subst hQ
              exact g_vret C0 hG hr dX8_save_96
            · have hf := gif_f c4 hf
              refine lv_aload_n hx hb dX8_save_78 rfl (lv_at hl 0 rfl) ?_
              refine g_getSa (o := 20) (a := 102) C0 hG (L82 hG) rfl 36 (by decide) rfl rfl w_882 dX8_save_79 ?_
              refine lv_iload_n hx hb dX8_save_82 rfl (lv_at hl 1 rfl) ?_
              refine lv_aload_n hx hb dX8_save_83 rfl (lv_at hl 0 rfl) ?_
              refine g_getSa (o := 6) (a := 88) C0 hG (L82 hG) rfl 10 (by decide) rfl rfl w_856 dX8_save_84 ?_
              refine lv_iload_n hx hb dX8_save_87 rfl (lv_at hl 1 rfl) ?_
              obtain ⟨h5, hf⟩ := gin_s hf
              refine g_iald C0 hG (L88 hG) h5 dX8_save_88 ?_
              obtain ⟨h6, hf⟩ := gin_s hf
              refine g_iast C0 hG (L102 hG) h6 dX8_save_89 (fun H locs hG => ?_)
              refine lv_iinc (v := x1_3 + (1 : Int32)) (lv' := [(1, .int (x1_3 + (1 : Int32))), (0, .ref (base + 82))]) hx hb dX8_save_90 hl (k := 1) rfl rfl (by decide) rfl (fun ls hl => ?_)
              refine lv_goto (tgt := 72) hx hb dX8_save_93 (by decide) ?_
              have hf := while_l hX3 hf
              exact ih3 (x1_3 + (1 : Int32)) (sA u3 102 x1_3.toNatClampNeg (gA u3 88 x1_3.toNatClampNeg)) _ _ ls hG (lv_sub hl [1, 0] rfl) hf
        exact loop3 FUEL (0 : Int32) u1 _ _ ls hG (lv_sub hl [1, 0] rfl) hf
      · have hf := gif_f c2 hf
        refine lv_aload_n hx hb dX8_save_40 rfl (lv_at hl 0 rfl) ?_
        refine g_getSa (o := 18) (a := 100) C0 hG (L82 hG) rfl 34 (by decide) rfl rfl w_880 dX8_save_41 ?_
        refine lv_iload_n hx hb dX8_save_44 rfl (lv_at hl 1 rfl) ?_
        refine lv_aload_n hx hb dX8_save_45 rfl (lv_at hl 0 rfl) ?_
        refine g_getSa (o := 3) (a := 85) C0 hG (L82 hG) rfl 7 (by decide) rfl rfl w_853 dX8_save_46 ?_
        refine lv_iload_n hx hb dX8_save_49 rfl (lv_at hl 1 rfl) ?_
        obtain ⟨h7, hf⟩ := gin_s hf
        refine g_iald C0 hG (L85 hG) h7 dX8_save_50 ?_
        obtain ⟨h8, hf⟩ := gin_s hf
        refine g_iast C0 hG (L100 hG) h8 dX8_save_51 (fun H locs hG => ?_)
        refine lv_aload_n hx hb dX8_save_52 rfl (lv_at hl 0 rfl) ?_
        refine g_getSa (o := 19) (a := 101) C0 hG (L82 hG) rfl 35 (by decide) rfl rfl w_881 dX8_save_53 ?_
        refine lv_iload_n hx hb dX8_save_56 rfl (lv_at hl 1 rfl) ?_
        refine lv_aload_n hx hb dX8_save_57 rfl (lv_at hl 0 rfl) ?_
        refine g_getSa (o := 4) (a := 86) C0 hG (L82 hG) rfl 8 (by decide) rfl rfl w_854 dX8_save_58 ?_
        refine lv_iload_n hx hb dX8_save_61 rfl (lv_at hl 1 rfl) ?_
        obtain ⟨h9, hf⟩ := gin_s hf
        refine g_iald C0 hG (L86 hG) h9 dX8_save_62 ?_
        obtain ⟨h10, hf⟩ := gin_s hf
        refine g_iast C0 hG (L101 hG) h10 dX8_save_63 (fun H locs hG => ?_)
        refine lv_iinc (v := x1_1 + (1 : Int32)) (lv' := [(1, .int (x1_1 + (1 : Int32))), (0, .ref (base + 82))]) hx hb dX8_save_64 hl (k := 1) rfl rfl (by decide) rfl (fun ls hl => ?_)
        refine lv_goto (tgt := 34) hx hb dX8_save_67 (by decide) ?_
        have hf := while_l hX1 hf
        exact ih1 (x1_1 + (1 : Int32)) (sA (sA u1 100 x1_1.toNatClampNeg (gA u1 85 x1_1.toNatClampNeg)) 101 x1_1.toNatClampNeg (gA (sA u1 100 x1_1.toNatClampNeg (gA u1 85 x1_1.toNatClampNeg)) 86 x1_1.toNatClampNeg)) _ _ ls hG (lv_sub hl [1, 0] rfl) hf
  exact loop1 FUEL (0 : Int32) (sI (sI (sI (sI u 82 30 (gI u 82 1)) 82 31 (gI (sI u 82 30 (gI u 82 1)) 82 2)) 82 32 (gI (sI (sI u 82 30 (gI u 82 1)) 82 31 (gI (sI u 82 30 (gI u 82 1)) 82 2)) 82 3)) 82 33 (gI (sI (sI (sI u 82 30 (gI u 82 1)) 82 31 (gI (sI u 82 30 (gI u 82 1)) 82 2)) 82 32 (gI (sI (sI u 82 30 (gI u 82 1)) 82 31 (gI (sI u 82 30 (gI u 82 1)) 82 2)) 82 3)) 82 4)) _ _ ls hG (lv_sub hl [1, 0] rfl) hf
theorem dX8_putBack_0 : decode cX8_putBack 0 = .ok (.aload_n 0, 1) := by decide +kernel
theorem dX8_putBack_1 : decode cX8_putBack 1 = .ok (.aload_n 0, 1) := by decide +kernel
theorem dX8_putBack_2 : decode cX8_putBack 2 = .ok (.getfield 102, 3) := by decide +kernel
theorem dX8_putBack_5 : decode cX8_putBack 5 = .ok (.putfield 13, 3) := by decide +kernel
theorem dX8_putBack_8 : decode cX8_putBack 8 = .ok (.aload_n 0, 1) := by decide +kernel
theorem dX8_putBack_9 : decode cX8_putBack 9 = .ok (.aload_n 0, 1) := by decide +kernel
theorem dX8_putBack_10 : decode cX8_putBack 10 = .ok (.getfield 105, 3) := by decide +kernel
theorem dX8_putBack_13 : decode cX8_putBack 13 = .ok (.putfield 16, 3) := by decide +kernel
theorem dX8_putBack_16 : decode cX8_putBack 16 = .ok (.aload_n 0, 1) := by decide +kernel
theorem dX8_putBack_17 : decode cX8_putBack 17 = .ok (.aload_n 0, 1) := by decide +kernel
theorem dX8_putBack_18 : decode cX8_putBack 18 = .ok (.getfield 108, 3) := by decide +kernel
theorem dX8_putBack_21 : decode cX8_putBack 21 = .ok (.putfield 19, 3) := by decide +kernel
theorem dX8_putBack_24 : decode cX8_putBack 24 = .ok (.aload_n 0, 1) := by decide +kernel
theorem dX8_putBack_25 : decode cX8_putBack 25 = .ok (.aload_n 0, 1) := by decide +kernel
theorem dX8_putBack_26 : decode cX8_putBack 26 = .ok (.getfield 111, 3) := by decide +kernel
theorem dX8_putBack_29 : decode cX8_putBack 29 = .ok (.putfield 22, 3) := by decide +kernel
theorem dX8_putBack_32 : decode cX8_putBack 32 = .ok (.iconst 0, 1) := by decide +kernel
theorem dX8_putBack_33 : decode cX8_putBack 33 = .ok (.istore_n 1, 1) := by decide +kernel
theorem dX8_putBack_34 : decode cX8_putBack 34 = .ok (.iload_n 1, 1) := by decide +kernel
theorem dX8_putBack_35 : decode cX8_putBack 35 = .ok (.bipush 6, 2) := by decide +kernel
theorem dX8_putBack_37 : decode cX8_putBack 37 = .ok (.if_icmp .ge 33, 3) := by decide +kernel
theorem dX8_putBack_40 : decode cX8_putBack 40 = .ok (.aload_n 0, 1) := by decide +kernel
theorem dX8_putBack_41 : decode cX8_putBack 41 = .ok (.getfield 32, 3) := by decide +kernel
theorem dX8_putBack_44 : decode cX8_putBack 44 = .ok (.iload_n 1, 1) := by decide +kernel
theorem dX8_putBack_45 : decode cX8_putBack 45 = .ok (.aload_n 0, 1) := by decide +kernel
theorem dX8_putBack_46 : decode cX8_putBack 46 = .ok (.getfield 114, 3) := by decide +kernel
theorem dX8_putBack_49 : decode cX8_putBack 49 = .ok (.iload_n 1, 1) := by decide +kernel
theorem dX8_putBack_50 : decode cX8_putBack 50 = .ok (.iaload, 1) := by decide +kernel
theorem dX8_putBack_51 : decode cX8_putBack 51 = .ok (.iastore, 1) := by decide +kernel
theorem dX8_putBack_52 : decode cX8_putBack 52 = .ok (.aload_n 0, 1) := by decide +kernel
theorem dX8_putBack_53 : decode cX8_putBack 53 = .ok (.getfield 35, 3) := by decide +kernel
theorem dX8_putBack_56 : decode cX8_putBack 56 = .ok (.iload_n 1, 1) := by decide +kernel
theorem dX8_putBack_57 : decode cX8_putBack 57 = .ok (.aload_n 0, 1) := by decide +kernel
theorem dX8_putBack_58 : decode cX8_putBack 58 = .ok (.getfield 117, 3) := by decide +kernel
theorem dX8_putBack_61 : decode cX8_putBack 61 = .ok (.iload_n 1, 1) := by decide +kernel
theorem dX8_putBack_62 : decode cX8_putBack 62 = .ok (.iaload, 1) := by decide +kernel
theorem dX8_putBack_63 : decode cX8_putBack 63 = .ok (.iastore, 1) := by decide +kernel
theorem dX8_putBack_64 : decode cX8_putBack 64 = .ok (.iinc 1 1, 3) := by decide +kernel
theorem dX8_putBack_67 : decode cX8_putBack 67 = .ok (.goto (-33), 3) := by decide +kernel
theorem dX8_putBack_70 : decode cX8_putBack 70 = .ok (.iconst 0, 1) := by decide +kernel
theorem dX8_putBack_71 : decode cX8_putBack 71 = .ok (.istore_n 1, 1) := by decide +kernel
theorem dX8_putBack_72 : decode cX8_putBack 72 = .ok (.iload_n 1, 1) := by decide +kernel
theorem dX8_putBack_73 : decode cX8_putBack 73 = .ok (.bipush 8, 2) := by decide +kernel
theorem dX8_putBack_75 : decode cX8_putBack 75 = .ok (.if_icmp .ge 21, 3) := by decide +kernel
theorem dX8_putBack_78 : decode cX8_putBack 78 = .ok (.aload_n 0, 1) := by decide +kernel
theorem dX8_putBack_79 : decode cX8_putBack 79 = .ok (.getfield 41, 3) := by decide +kernel
theorem dX8_putBack_82 : decode cX8_putBack 82 = .ok (.iload_n 1, 1) := by decide +kernel
theorem dX8_putBack_83 : decode cX8_putBack 83 = .ok (.aload_n 0, 1) := by decide +kernel
theorem dX8_putBack_84 : decode cX8_putBack 84 = .ok (.getfield 120, 3) := by decide +kernel
theorem dX8_putBack_87 : decode cX8_putBack 87 = .ok (.iload_n 1, 1) := by decide +kernel
theorem dX8_putBack_88 : decode cX8_putBack 88 = .ok (.iaload, 1) := by decide +kernel
theorem dX8_putBack_89 : decode cX8_putBack 89 = .ok (.iastore, 1) := by decide +kernel
theorem dX8_putBack_90 : decode cX8_putBack 90 = .ok (.iinc 1 1, 3) := by decide +kernel
theorem dX8_putBack_93 : decode cX8_putBack 93 = .ok (.goto (-21), 3) := by decide +kernel
theorem dX8_putBack_96 : decode cX8_putBack 96 = .ok (.return_, 1) := by decide +kernel
def f_X8_putBack_L72 (x1_3 : Int32) (u3 : Mem) : Option ((Int32 × Mem) ⊕ ((Int32 × Mem) ⊕ (Unit × Mem))) := (if (8 : Int32) ≤ x1_3 then some (Sum.inr (Sum.inr ((), u3))) else gin x1_3 8 (gin x1_3 8 (some (Sum.inl (x1_3 + (1 : Int32), sA u3 88 x1_3.toNatClampNeg (gA u3 102 x1_3.toNatClampNeg))))))
def f_X8_putBack_L34 (x1_1 : Int32) (u1 : Mem) : Option ((Int32 × Mem) ⊕ (Unit × Mem)) := (if (6 : Int32) ≤ x1_1 then whileO (fun s => f_X8_putBack_L72 s.1 s.2) FUEL ((0 : Int32), u1) else gin x1_1 6 (gin x1_1 6 (gin x1_1 6 (gin x1_1 6 (some (Sum.inl (x1_1 + (1 : Int32), sA (sA u1 85 x1_1.toNatClampNeg (gA u1 100 x1_1.toNatClampNeg)) 86 x1_1.toNatClampNeg (gA (sA u1 85 x1_1.toNatClampNeg (gA u1 100 x1_1.toNatClampNeg)) 101 x1_1.toNatClampNeg))))))))
def f_X8_putBack (u : Mem) : Option (Unit × Mem) := whileO (fun s => f_X8_putBack_L34 s.1 s.2) FUEL ((0 : Int32), sI (sI (sI (sI u 82 1 (gI u 82 30)) 82 2 (gI (sI u 82 1 (gI u 82 30)) 82 31)) 82 3 (gI (sI (sI u 82 1 (gI u 82 30)) 82 2 (gI (sI u 82 1 (gI u 82 30)) 82 31)) 82 32)) 82 4 (gI (sI (sI (sI u 82 1 (gI u 82 30)) 82 2 (gI (sI u 82 1 (gI u 82 30)) 82 31)) 82 3 (gI (sI (sI u 82 1 (gI u 82 30)) 82 2 (gI (sI u 82 1 (gI u 82 30)) 82 31)) 82 32)) 82 33))
set_option maxHeartbeats 4000000 in
set_option maxRecDepth 100000 in
theorem k_X8_putBack (l : Launch) (D : gDt) (base : Nat) (Z : gZt) (u : Mem) (u' : Mem) (hf : f_X8_putBack u = some ((), u')) : Met l yX8_putBack (gws yX8_putBack cX8_putBack 2 (none)) (gRm 1 0 0) (gPc D base Z u [.ref (base + 82)]) (gQv D base u') 0 0 (gF base) := by
  refine Met.ofW (cc := cX8_putBack) (maxL := 2) (ret := none) (by decide) rfl ?_
  intro p e s m args below meth c s₁ B hml hv
  obtain ⟨rfl, C0, hG⟩ := g_enter B hml hv
  have hr := B.returns
  have C0 : gC p s m meth c _ cX8_putBack 2 RX8 D base Z := C0
  have hx := C0.1
  have hb := C0.2.1
  have hl := lv_entry ([.ref (base + 82)]) (n := 2) (Nat.le_of_ble_eq_true rfl)
  rw [lg_entry_eq]
  generalize (lg_sl ([.ref (base + 82)]) ++ List.replicate (2 - (lg_sl ([.ref (base + 82)])).length) Slot.unset).toArray = ls at hl ⊢
  have hl : lv_has ls 2 [(0, .ref (base + 82))] := hl
  obtain ⟨Q, hQ⟩ : ∃ Q, Q = MQ below (gQv D base u') ([.ref (base + 82)] : List Value).toArray s 0 0 (gF base) := ⟨_, rfl⟩
  rw [← hQ]
  change W p l e (gRm 1 0 0) s m _ below meth c _ _ _ _ _ _
  unfold f_X8_putBack at hf
  refine lv_aload_n hx hb dX8_putBack_0 rfl (lv_at hl 0 rfl) ?_
  refine lv_aload_n hx hb dX8_putBack_1 rfl (lv_at hl 0 rfl) ?_
  refine g_getI C0 hG (L82 hG) rfl 30 (by decide) rfl w_876 dX8_putBack_2 ?_
  refine g_putI (ty := .int) C0 hG (L82 hG) rfl 1 (by decide) rfl w_847 rfl (by decide) rfl rfl dX8_putBack_5 (fun H locs hG => ?_)
  refine lv_aload_n hx hb dX8_putBack_8 rfl (lv_at hl 0 rfl) ?_
  refine lv_aload_n hx hb dX8_putBack_9 rfl (lv_at hl 0 rfl) ?_
  refine g_getI C0 hG (L82 hG) rfl 31 (by decide) rfl w_877 dX8_putBack_10 ?_
  refine g_putI (ty := .int) C0 hG (L82 hG) rfl 2 (by decide) rfl w_848 rfl (by decide) rfl rfl dX8_putBack_13 (fun H locs hG => ?_)
  refine lv_aload_n hx hb dX8_putBack_16 rfl (lv_at hl 0 rfl) ?_
  refine lv_aload_n hx hb dX8_putBack_17 rfl (lv_at hl 0 rfl) ?_
  refine g_getI C0 hG (L82 hG) rfl 32 (by decide) rfl w_878 dX8_putBack_18 ?_
  refine g_putI (ty := .int) C0 hG (L82 hG) rfl 3 (by decide) rfl w_849 rfl (by decide) rfl rfl dX8_putBack_21 (fun H locs hG => ?_)
  refine lv_aload_n hx hb dX8_putBack_24 rfl (lv_at hl 0 rfl) ?_
  refine lv_aload_n hx hb dX8_putBack_25 rfl (lv_at hl 0 rfl) ?_
  refine g_getI C0 hG (L82 hG) rfl 33 (by decide) rfl w_879 dX8_putBack_26 ?_
  refine g_putI (ty := .int) C0 hG (L82 hG) rfl 4 (by decide) rfl w_850 rfl (by decide) rfl rfl dX8_putBack_29 (fun H locs hG => ?_)
  refine lv_iconst (v := (0 : Int32)) hx hb dX8_putBack_32 (by decide) ?_
  refine lv_istore_n (lv' := [(1, .int (0 : Int32)), (0, .ref (base + 82))]) hx hb dX8_putBack_33 rfl hl (by decide) rfl (fun ls hl => ?_)
  have loop1 : ∀ (n1 : Nat) (x1_1 : Int32) (u1 : Mem) (H : Heap) (locs : List Loc) (ls : Array Slot), gH D base s u1 H locs → lv_has ls 2 [(0, .ref (base + 82)), (1, .int x1_1)] → whileO (fun s => f_X8_putBack_L34 s.1 s.2) n1 (x1_1, u1) = some ((), u') → W p l e (gRm 1 0 0) s m ([.ref (base + 82)] : List Value).toArray below meth c H locs 0 0 Q (F0 m 34 ls []) := by
    intro n1
    induction n1 with
    | zero => intro x1_1 u1 H locs ls hG hl hf; cases hf
    | succ n1 ih1 =>
      intro x1_1 u1 H locs ls hG hl hf
      obtain ⟨X1, hf, hX1⟩ := while_s hf
      have hf : f_X8_putBack_L34 x1_1 u1 = some X1 := hf
      unfold f_X8_putBack_L34 at hf
      refine lv_iload_n hx hb dX8_putBack_34 rfl (lv_at hl 1 rfl) ?_
      refine lv_bipush (v := (6 : Int32)) hx hb dX8_putBack_35 (by decide) ?_
      refine lv_icmp_ge (tgt := 70) hx hb dX8_putBack_37 (by decide) (fun c2 => ?_) (fun c2 => ?_)
      · have hf := gif_t c2 hf
        refine lv_iconst (v := (0 : Int32)) hx hb dX8_putBack_70 (by decide) ?_
        refine lv_istore_n (lv' := [(1, .int (0 : Int32)), (0, .ref (base + 82))]) hx hb dX8_putBack_71 rfl hl (by decide) rfl (fun ls hl => ?_)
        have loop3 : ∀ (n3 : Nat) (x1_3 : Int32) (u3 : Mem) (H : Heap) (locs : List Loc) (ls : Array Slot), gH D base s u3 H locs → lv_has ls 2 [(0, .ref (base + 82)), (1, .int x1_3)] → whileO (fun s => f_X8_putBack_L72 s.1 s.2) n3 (x1_3, u3) = some X1 → W p l e (gRm 1 0 0) s m ([.ref (base + 82)] : List Value).toArray below meth c H locs 0 0 Q (F0 m 72 ls []) := by
          intro n3
          induction n3 with
          | zero => intro x1_3 u3 H locs ls hG hl hf; cases hf
          | succ n3 ih3 =>
            intro x1_3 u3 H locs ls hG hl hf
            obtain ⟨X3, hf, hX3⟩ := while_s hf
            have hf : f_X8_putBack_L72 x1_3 u3 = some X3 := hf
            unfold f_X8_putBack_L72 at hf
            refine lv_iload_n hx hb dX8_putBack_72 rfl (lv_at hl 1 rfl) ?_
            refine lv_bipush (v := (8 : Int32)) hx hb dX8_putBack_73 (by decide) ?_
            refine lv_icmp_ge (tgt := 96) hx hb dX8_putBack_75 (by decide) (fun c4 => ?_) (fun c4 => ?_)
            · have hf := gif_t c4 hf
              have hf := while_r hX3 hf
              have hf := while_r hX1 hf
              obtain ⟨-, hu⟩ := gret_s hf
              subst hu
              subst hQ
              exact g_vret C0 hG hr dX8_putBack_96
            · have hf := gif_f c4 hf
              refine lv_aload_n hx hb dX8_putBack_78 rfl (lv_at hl 0 rfl) ?_
              refine g_getSa (o := 6) (a := 88) C0 hG (L82 hG) rfl 10 (by decide) rfl rfl w_856 dX8_putBack_79 ?_
              refine lv_iload_n hx hb dX8_putBack_82 rfl (lv_at hl 1 rfl) ?_
              refine lv_aload_n hx hb dX8_putBack_83 rfl (lv_at hl 0 rfl) ?_
              refine g_getSa (o := 20) (a := 102) C0 hG (L82 hG) rfl 36 (by decide) rfl rfl w_882 dX8_putBack_84 ?_
              refine lv_iload_n hx hb dX8_putBack_87 rfl (lv_at hl 1 rfl) ?_
              obtain ⟨h5, hf⟩ := gin_s hf
              refine g_iald C0 hG (L102 hG) h5 dX8_putBack_88 ?_
              obtain ⟨h6, hf⟩ := gin_s hf
              refine g_iast C0 hG (L88 hG) h6 dX8_putBack_89 (fun H locs hG => ?_)
              refine lv_iinc (v := x1_3 + (1 : Int32)) (lv' := [(1, .int (x1_3 + (1 : Int32))), (0, .ref (base + 82))]) hx hb dX8_putBack_90 hl (k := 1) rfl rfl (by decide) rfl (fun ls hl => ?_)
              refine lv_goto (tgt := 72) hx hb dX8_putBack_93 (by decide) ?_
              have hf := while_l hX3 hf
              exact ih3 (x1_3 + (1 : Int32)) (sA u3 88 x1_3.toNatClampNeg (gA u3 102 x1_3.toNatClampNeg)) _ _ ls hG (lv_sub hl [1, 0] rfl) hf
        exact loop3 FUEL (0 : Int32) u1 _ _ ls hG (lv_sub hl [1, 0] rfl) hf
      · have hf := gif_f c2 hf
        refine lv_aload_n hx hb dX8_putBack_40 rfl (lv_at hl 0 rfl) ?_
        refine g_getSa (o := 3) (a := 85) C0 hG (L82 hG) rfl 7 (by decide) rfl rfl w_853 dX8_putBack_41 ?_
        refine lv_iload_n hx hb dX8_putBack_44 rfl (lv_at hl 1 rfl) ?_
        refine lv_aload_n hx hb dX8_putBack_45 rfl (lv_at hl 0 rfl) ?_
        refine g_getSa (o := 18) (a := 100) C0 hG (L82 hG) rfl 34 (by decide) rfl rfl w_880 dX8_putBack_46 ?_
        refine lv_iload_n hx hb dX8_putBack_49 rfl (lv_at hl 1 rfl) ?_
        obtain ⟨h7, hf⟩ := gin_s hf
        refine g_iald C0 hG (L100 hG) h7 dX8_putBack_50 ?_
        obtain ⟨h8, hf⟩ := gin_s hf
        refine g_iast C0 hG (L85 hG) h8 dX8_putBack_51 (fun H locs hG => ?_)
        refine lv_aload_n hx hb dX8_putBack_52 rfl (lv_at hl 0 rfl) ?_
        refine g_getSa (o := 4) (a := 86) C0 hG (L82 hG) rfl 8 (by decide) rfl rfl w_854 dX8_putBack_53 ?_
        refine lv_iload_n hx hb dX8_putBack_56 rfl (lv_at hl 1 rfl) ?_
        refine lv_aload_n hx hb dX8_putBack_57 rfl (lv_at hl 0 rfl) ?_
        refine g_getSa (o := 19) (a := 101) C0 hG (L82 hG) rfl 35 (by decide) rfl rfl w_881 dX8_putBack_58 ?_
        refine lv_iload_n hx hb dX8_putBack_61 rfl (lv_at hl 1 rfl) ?_
        obtain ⟨h9, hf⟩ := gin_s hf
        refine g_iald C0 hG (L101 hG) h9 dX8_putBack_62 ?_
        obtain ⟨h10, hf⟩ := gin_s hf
        refine g_iast C0 hG (L86 hG) h10 dX8_putBack_63 (fun H locs hG => ?_)
        refine lv_iinc (v := x1_1 + (1 : Int32)) (lv' := [(1, .int (x1_1 + (1 : Int32))), (0, .ref (base + 82))]) hx hb dX8_putBack_64 hl (k := 1) rfl rfl (by decide) rfl (fun ls hl => ?_)
        refine lv_goto (tgt := 34) hx hb dX8_putBack_67 (by decide) ?_
        have hf := while_l hX1 hf
        exact ih1 (x1_1 + (1 : Int32)) (sA (sA u1 85 x1_1.toNatClampNeg (gA u1 100 x1_1.toNatClampNeg)) 86 x1_1.toNatClampNeg (gA (sA u1 85 x1_1.toNatClampNeg (gA u1 100 x1_1.toNatClampNeg)) 101 x1_1.toNatClampNeg)) _ _ ls hG (lv_sub hl [1, 0] rfl) hf
  exact loop1 FUEL (0 : Int32) (sI (sI (sI (sI u 82 1 (gI u 82 30)) 82 2 (gI (sI u 82 1 (gI u 82 30)) 82 31)) 82 3 (gI (sI (sI u 82 1 (gI u 82 30)) 82 2 (gI (sI u 82 1 (gI u 82 30)) 82 31)) 82 32)) 82 4 (gI (sI (sI (sI u 82 1 (gI u 82 30)) 82 2 (gI (sI u 82 1 (gI u 82 30)) 82 31)) 82 3 (gI (sI (sI u 82 1 (gI u 82 30)) 82 2 (gI (sI u 82 1 (gI u 82 30)) 82 31)) 82 32)) 82 33)) _ _ ls hG (lv_sub hl [1, 0] rfl) hf
theorem dX8_ash_0 : decode cX8_ash 0 = .ok (.sipush 255, 3) := by decide +kernel
theorem dX8_ash_3 : decode cX8_ash 3 = .ok (.istore_n 1, 1) := by decide +kernel
theorem dX8_ash_4 : decode cX8_ash 4 = .ok (.iconst 0, 1) := by decide +kernel
theorem dX8_ash_5 : decode cX8_ash 5 = .ok (.istore_n 2, 1) := by decide +kernel
theorem dX8_ash_6 : decode cX8_ash 6 = .ok (.iload_n 2, 1) := by decide +kernel
theorem dX8_ash_7 : decode cX8_ash 7 = .ok (.aload_n 0, 1) := by decide +kernel
theorem dX8_ash_8 : decode cX8_ash 8 = .ok (.getfield 7, 3) := by decide +kernel
theorem dX8_ash_11 : decode cX8_ash 11 = .ok (.if_icmp .ge 69, 3) := by decide +kernel
theorem dX8_ash_14 : decode cX8_ash 14 = .ok (.aload_n 0, 1) := by decide +kernel
theorem dX8_ash_15 : decode cX8_ash 15 = .ok (.aload_n 0, 1) := by decide +kernel
theorem dX8_ash_16 : decode cX8_ash 16 = .ok (.getfield 13, 3) := by decide +kernel
theorem dX8_ash_19 : decode cX8_ash 19 = .ok (.iload_n 2, 1) := by decide +kernel
theorem dX8_ash_20 : decode cX8_ash 20 = .ok (.invokevirtual 245, 3) := by decide +kernel
theorem dX8_ash_23 : decode cX8_ash 23 = .ok (.ifCond .eq 6, 3) := by decide +kernel
theorem dX8_ash_26 : decode cX8_ash 26 = .ok (.goto 48, 3) := by decide +kernel
theorem dX8_ash_29 : decode cX8_ash 29 = .ok (.iconst 0, 1) := by decide +kernel
theorem dX8_ash_30 : decode cX8_ash 30 = .ok (.istore_n 3, 1) := by decide +kernel
theorem dX8_ash_31 : decode cX8_ash 31 = .ok (.iload_n 3, 1) := by decide +kernel
theorem dX8_ash_32 : decode cX8_ash 32 = .ok (.bipush 8, 2) := by decide +kernel
theorem dX8_ash_34 : decode cX8_ash 34 = .ok (.if_icmp .ge 40, 3) := by decide +kernel
theorem dX8_ash_37 : decode cX8_ash 37 = .ok (.aload_n 0, 1) := by decide +kernel
theorem dX8_ash_38 : decode cX8_ash 38 = .ok (.aload_n 0, 1) := by decide +kernel
theorem dX8_ash_39 : decode cX8_ash 39 = .ok (.getfield 35, 3) := by decide +kernel
theorem dX8_ash_42 : decode cX8_ash 42 = .ok (.iload_n 2, 1) := by decide +kernel
theorem dX8_ash_43 : decode cX8_ash 43 = .ok (.iaload, 1) := by decide +kernel
theorem dX8_ash_44 : decode cX8_ash 44 = .ok (.iload_n 3, 1) := by decide +kernel
theorem dX8_ash_45 : decode cX8_ash 45 = .ok (.invokevirtual 245, 3) := by decide +kernel
theorem dX8_ash_48 : decode cX8_ash 48 = .ok (.ifCond .eq 20, 3) := by decide +kernel
theorem dX8_ash_51 : decode cX8_ash 51 = .ok (.aload_n 0, 1) := by decide +kernel
theorem dX8_ash_52 : decode cX8_ash 52 = .ok (.iload_n 2, 1) := by decide +kernel
theorem dX8_ash_53 : decode cX8_ash 53 = .ok (.iload_n 3, 1) := by decide +kernel
theorem dX8_ash_54 : decode cX8_ash 54 = .ok (.invokevirtual 336, 3) := by decide +kernel
theorem dX8_ash_57 : decode cX8_ash 57 = .ok (.ifCond .le 11, 3) := by decide +kernel
theorem dX8_ash_60 : decode cX8_ash 60 = .ok (.iload_n 1, 1) := by decide +kernel
theorem dX8_ash_61 : decode cX8_ash 61 = .ok (.iconst 1, 1) := by decide +kernel
theorem dX8_ash_62 : decode cX8_ash 62 = .ok (.iload_n 3, 1) := by decide +kernel
theorem dX8_ash_63 : decode cX8_ash 63 = .ok (.ishl, 1) := by decide +kernel
theorem dX8_ash_64 : decode cX8_ash 64 = .ok (.iconst (-1), 1) := by decide +kernel
theorem dX8_ash_65 : decode cX8_ash 65 = .ok (.ixor, 1) := by decide +kernel
theorem dX8_ash_66 : decode cX8_ash 66 = .ok (.iand, 1) := by decide +kernel
theorem dX8_ash_67 : decode cX8_ash 67 = .ok (.istore_n 1, 1) := by decide +kernel
theorem dX8_ash_68 : decode cX8_ash 68 = .ok (.iinc 3 1, 3) := by decide +kernel
theorem dX8_ash_71 : decode cX8_ash 71 = .ok (.goto (-40), 3) := by decide +kernel
theorem dX8_ash_74 : decode cX8_ash 74 = .ok (.iinc 2 1, 3) := by decide +kernel
theorem dX8_ash_77 : decode cX8_ash 77 = .ok (.goto (-71), 3) := by decide +kernel
theorem dX8_ash_80 : decode cX8_ash 80 = .ok (.iload_n 1, 1) := by decide +kernel
theorem dX8_ash_81 : decode cX8_ash 81 = .ok (.ireturn, 1) := by decide +kernel
def f_X8_ash_L31 (x1_5 : Int32) (x2_5 : Int32) (x3_5 : Int32) (u5 : Mem) : Option ((Int32 × Int32 × Int32 × Mem) ⊕ ((Int32 × Int32 × Mem) ⊕ (Int32 × Mem))) := (if (8 : Int32) ≤ x3_5 then some (Sum.inr (Sum.inl (x1_5, (x2_5 + (1 : Int32), u5)))) else gin x2_5 6 (Option.bind (f_X8_has (gA u5 86 x2_5.toNatClampNeg) x3_5) (fun r8 => (if r8 = 0 then some (Sum.inl (x1_5, (x2_5, (x3_5 + (1 : Int32), u5)))) else obind (f_X8_glow x2_5 x3_5 u5) (fun r10 u10 => (if r10 ≤ 0 then some (Sum.inl (x1_5, (x2_5, (x3_5 + (1 : Int32), u10)))) else some (Sum.inl (x1_5 &&& (((1 : Int32) <<< (x3_5 &&& 31)) ^^^ (-1 : Int32)), (x2_5, (x3_5 + (1 : Int32), u10))))))))))
def f_X8_ash_L6 (x1_1 : Int32) (x2_1 : Int32) (u1 : Mem) : Option ((Int32 × Int32 × Mem) ⊕ (Int32 × Mem)) := (if (gI u1 82 0) ≤ x2_1 then some (Sum.inr (x1_1, u1)) else Option.bind (f_X8_has (gI u1 82 1) x2_1) (fun r3 => (if r3 = 0 then whileO (fun s => f_X8_ash_L31 s.1 s.2.1 s.2.2.1 s.2.2.2) FUEL (x1_1, (x2_1, ((0 : Int32), u1))) else some (Sum.inl (x1_1, (x2_1 + (1 : Int32), u1))))))
def f_X8_ash (u : Mem) : Option (Int32 × Mem) := whileO (fun s => f_X8_ash_L6 s.1 s.2.1 s.2.2) FUEL ((255 : Int32), ((0 : Int32), u))
set_option maxHeartbeats 4000000 in
set_option maxRecDepth 100000 in
theorem k_X8_ash (l : Launch) (D : gDt) (base : Nat) (Z : gZt) (u : Mem) (r : Int32) (u' : Mem) (hf : f_X8_ash u = some (r, u')) : Met l yX8_ash (gws yX8_ash cX8_ash 4 (some .int)) (gRm 5 0 0) (gPc D base Z u [.ref (base + 82)]) (gQi D base r u') 0 0 (gF base) := by
  refine Met.ofW (cc := cX8_ash) (maxL := 4) (ret := some .int) (by decide) rfl ?_
  intro p e s m args below meth c s₁ B hml hv
  obtain ⟨rfl, C0, hG⟩ := g_enter B hml hv
  have hr := B.returns
  have C0 : gC p s m meth c _ cX8_ash 4 RX8 D base Z := C0
  have hx := C0.1
  have hb := C0.2.1
  have hl := lv_entry ([.ref (base + 82)]) (n := 4) (Nat.le_of_ble_eq_true rfl)
  rw [lg_entry_eq]
  generalize (lg_sl ([.ref (base + 82)]) ++ List.replicate (4 - (lg_sl ([.ref (base + 82)])).length) Slot.unset).toArray = ls at hl ⊢
  have hl : lv_has ls 4 [(0, .ref (base + 82))] := hl
  obtain ⟨Q, hQ⟩ : ∃ Q, Q = MQ below (gQi D base r u') ([.ref (base + 82)] : List Value).toArray s 0 0 (gF base) := ⟨_, rfl⟩
  rw [← hQ]
  change W p l e (gRm 5 0 0) s m _ below meth c _ _ _ _ _ _
  unfold f_X8_ash at hf
  refine lv_sipush (v := (255 : Int32)) hx hb dX8_ash_0 (by decide) ?_
  refine lv_istore_n (lv' := [(1, .int (255 : Int32)), (0, .ref (base + 82))]) hx hb dX8_ash_3 rfl hl (by decide) rfl (fun ls hl => ?_)
  refine lv_iconst (v := (0 : Int32)) hx hb dX8_ash_4 (by decide) ?_
  refine lv_istore_n (lv' := [(2, .int (0 : Int32)), (1, .int (255 : Int32)), (0, .ref (base + 82))]) hx hb dX8_ash_5 rfl hl (by decide) rfl (fun ls hl => ?_)
  have loop1 : ∀ (n1 : Nat) (x1_1 : Int32) (x2_1 : Int32) (u1 : Mem) (H : Heap) (locs : List Loc) (ls : Array Slot), gH D base s u1 H locs → lv_has ls 4 [(0, .ref (base + 82)), (1, .int x1_1), (2, .int x2_1)] → whileO (fun s => f_X8_ash_L6 s.1 s.2.1 s.2.2) n1 (x1_1, (x2_1, u1)) = some (r, u') → W p l e (gRm 5 0 0) s m ([.ref (base + 82)] : List Value).toArray below meth c H locs 0 0 Q (F0 m 6 ls []) := by
    intro n1
    induction n1 with
    | zero => intro x1_1 x2_1 u1 H locs ls hG hl hf; cases hf
    | succ n1 ih1 =>
      intro x1_1 x2_1 u1 H locs ls hG hl hf
      obtain ⟨X1, hf, hX1⟩ := while_s hf
      have hf : f_X8_ash_L6 x1_1 x2_1 u1 = some X1 := hf
      unfold f_X8_ash_L6 at hf
      refine lv_iload_n hx hb dX8_ash_6 rfl (lv_at hl 2 rfl) ?_
      refine lv_aload_n hx hb dX8_ash_7 rfl (lv_at hl 0 rfl) ?_
      refine g_getI C0 hG (L82 hG) rfl 0 (by decide) rfl w_846 dX8_ash_8 ?_
      refine lv_icmp_ge (tgt := 80) hx hb dX8_ash_11 (by decide) (fun c2 => ?_) (fun c2 => ?_)
      · have hf := gif_t c2 hf
        refine lv_iload_n hx hb dX8_ash_80 rfl (lv_at hl 1 rfl) ?_
        have hf := while_r hX1 hf
        obtain ⟨hr1, hu⟩ := gret_s hf
        subst hr1
        subst hu
        subst hQ
        exact g_iret C0 hG hr dX8_ash_81
      · have hf := gif_f c2 hf
        refine lv_aload_n hx hb dX8_ash_14 rfl (lv_at hl 0 rfl) ?_
        refine lv_aload_n hx hb dX8_ash_15 rfl (lv_at hl 0 rfl) ?_
        refine g_getI C0 hG (L82 hG) rfl 1 (by decide) rfl w_847 dX8_ash_16 ?_
        refine lv_iload_n hx hb dX8_ash_19 rfl (lv_at hl 2 rfl) ?_
        obtain ⟨r3, hc3, hf⟩ := pb_s hf
        refine g_doI0 hG (g_runV C0 hG (k_X8_has l D base Z u1 (gI u1 82 1) x2_1 r3 hc3) m_X8_has v_X8_has w_1110 (by decide) (g_recv C0 hG (L82 hG) rfl) rfl hl.1 rfl (Nat.le_of_ble_eq_true rfl) dX8_ash_20 ⟨Nat.zero_le _, Nat.zero_le _⟩) (fun H locs hG hk => ?_)
        refine lv_if_eq (tgt := 29) hx hb dX8_ash_23 (by decide) (fun c4 => ?_) (fun c4 => ?_)
        · have hf := gif_t c4 hf
          refine lv_iconst (v := (0 : Int32)) hx hb dX8_ash_29 (by decide) ?_
          refine lv_istore_n (lv' := [(3, .int (0 : Int32)), (0, .ref (base + 82)), (1, .int x1_1), (2, .int x2_1)]) hx hb dX8_ash_30 rfl hl (by decide) rfl (fun ls hl => ?_)
          have loop5 : ∀ (n5 : Nat) (x1_5 : Int32) (x2_5 : Int32) (x3_5 : Int32) (u5 : Mem) (H : Heap) (locs : List Loc) (ls : Array Slot), gH D base s u5 H locs → lv_has ls 4 [(0, .ref (base + 82)), (1, .int x1_5), (2, .int x2_5), (3, .int x3_5)] → whileO (fun s => f_X8_ash_L31 s.1 s.2.1 s.2.2.1 s.2.2.2) n5 (x1_5, (x2_5, (x3_5, u5))) = some X1 → W p l e (gRm 5 0 0) s m ([.ref (base + 82)] : List Value).toArray below meth c H locs 0 0 Q (F0 m 31 ls []) := by
            intro n5
            induction n5 with
            | zero => intro x1_5 x2_5 x3_5 u5 H locs ls hG hl hf; cases hf
            | succ n5 ih5 =>
              intro x1_5 x2_5 x3_5 u5 H locs ls hG hl hf
              obtain ⟨X5, hf, hX5⟩ := while_s hf
              have hf : f_X8_ash_L31 x1_5 x2_5 x3_5 u5 = some X5 := hf
              unfold f_X8_ash_L31 at hf
              refine lv_iload_n hx hb dX8_ash_31 rfl (lv_at hl 3 rfl) ?_
              refine lv_bipush (v := (8 : Int32)) hx hb dX8_ash_32 (by decide) ?_
              refine lv_icmp_ge (tgt := 74) hx hb dX8_ash_34 (by decide) (fun c6 => ?_) (fun c6 => ?_)
              · have hf := gif_t c6 hf
                refine lv_iinc (v := x2_5 + (1 : Int32)) (lv' := [(2, .int (x2_5 + (1 : Int32))), (0, .ref (base + 82)), (1, .int x1_5), (3, .int x3_5)]) hx hb dX8_ash_74 hl (k := 2) rfl rfl (by decide) rfl (fun ls hl => ?_)
                refine lv_goto (tgt := 6) hx hb dX8_ash_77 (by decide) ?_
                have hf := while_r hX5 hf
                have hf := while_l hX1 hf
                exact ih1 x1_5 (x2_5 + (1 : Int32)) u5 _ _ ls hG (lv_sub hl [1, 2, 0] rfl) hf
              · have hf := gif_f c6 hf
                refine lv_aload_n hx hb dX8_ash_37 rfl (lv_at hl 0 rfl) ?_
                refine lv_aload_n hx hb dX8_ash_38 rfl (lv_at hl 0 rfl) ?_
                refine g_getSa (o := 4) (a := 86) C0 hG (L82 hG) rfl 8 (by decide) rfl rfl w_854 dX8_ash_39 ?_
                refine lv_iload_n hx hb dX8_ash_42 rfl (lv_at hl 2 rfl) ?_
                obtain ⟨h7, hf⟩ := gin_s hf
                refine g_iald C0 hG (L86 hG) h7 dX8_ash_43 ?_
                refine lv_iload_n hx hb dX8_ash_44 rfl (lv_at hl 3 rfl) ?_
                obtain ⟨r8, hc8, hf⟩ := pb_s hf
                refine g_doI0 hG (g_runV C0 hG (k_X8_has l D base Z u5 (gA u5 86 x2_5.toNatClampNeg) x3_5 r8 hc8) m_X8_has v_X8_has w_1110 (by decide) (g_recv C0 hG (L82 hG) rfl) rfl hl.1 rfl (Nat.le_of_ble_eq_true rfl) dX8_ash_45 ⟨Nat.zero_le _, Nat.zero_le _⟩) (fun H locs hG hk => ?_)
                refine lv_if_eq (tgt := 68) hx hb dX8_ash_48 (by decide) (fun c9 => ?_) (fun c9 => ?_)
                · have hf := gif_t c9 hf
                  refine lv_iinc (v := x3_5 + (1 : Int32)) (lv' := [(3, .int (x3_5 + (1 : Int32))), (0, .ref (base + 82)), (1, .int x1_5), (2, .int x2_5)]) hx hb dX8_ash_68 hl (k := 3) rfl rfl (by decide) rfl (fun ls hl => ?_)
                  refine lv_goto (tgt := 31) hx hb dX8_ash_71 (by decide) ?_
                  have hf := while_l hX5 hf
                  exact ih5 x1_5 x2_5 (x3_5 + (1 : Int32)) u5 _ _ ls hG (lv_sub hl [1, 2, 3, 0] rfl) hf
                · have hf := gif_f c9 hf
                  refine lv_aload_n hx hb dX8_ash_51 rfl (lv_at hl 0 rfl) ?_
                  refine lv_iload_n hx hb dX8_ash_52 rfl (lv_at hl 2 rfl) ?_
                  refine lv_iload_n hx hb dX8_ash_53 rfl (lv_at hl 3 rfl) ?_
                  obtain ⟨r10, u10, hc10, hf⟩ := obind_s hf
                  refine g_doI0 hG (g_runV C0 hG (k_X8_glow l D base Z u5 x2_5 x3_5 r10 u10 hc10) m_X8_glow v_X8_glow w_1202 (by decide) (g_recv C0 hG (L82 hG) rfl) rfl hl.1 rfl (Nat.le_of_ble_eq_true rfl) dX8_ash_54 ⟨Nat.zero_le _, Nat.zero_le _⟩) (fun H locs hG hk => ?_)
                  refine lv_if_le (tgt := 68) hx hb dX8_ash_57 (by decide) (fun c11 => ?_) (fun c11 => ?_)
                  · have hf := gif_t c11 hf
                    refine lv_iinc (v := x3_5 + (1 : Int32)) (lv' := [(3, .int (x3_5 + (1 : Int32))), (0, .ref (base + 82)), (1, .int x1_5), (2, .int x2_5)]) hx hb dX8_ash_68 hl (k := 3) rfl rfl (by decide) rfl (fun ls hl => ?_)
                    refine lv_goto (tgt := 31) hx hb dX8_ash_71 (by decide) ?_
                    have hf := while_l hX5 hf
                    exact ih5 x1_5 x2_5 (x3_5 + (1 : Int32)) u10 _ _ ls hG (lv_sub hl [1, 2, 3, 0] rfl) hf
                  · have hf := gif_f c11 hf
                    refine lv_iload_n hx hb dX8_ash_60 rfl (lv_at hl 1 rfl) ?_
                    refine lv_iconst (v := (1 : Int32)) hx hb dX8_ash_61 (by decide) ?_
                    refine lv_iload_n hx hb dX8_ash_62 rfl (lv_at hl 3 rfl) ?_
                    refine lv_ishl hx hb dX8_ash_63 ?_
                    refine lv_iconst (v := (-1 : Int32)) hx hb dX8_ash_64 (by decide) ?_
                    refine lv_ixor hx hb dX8_ash_65 ?_
                    refine lv_iand hx hb dX8_ash_66 ?_
                    refine lv_istore_n (lv' := [(1, .int (x1_5 &&& (((1 : Int32) <<< (x3_5 &&& 31)) ^^^ (-1 : Int32)))), (0, .ref (base + 82)), (2, .int x2_5), (3, .int x3_5)]) hx hb dX8_ash_67 rfl hl (by decide) rfl (fun ls hl => ?_)
                    refine lv_iinc (v := x3_5 + (1 : Int32)) (lv' := [(3, .int (x3_5 + (1 : Int32))), (1, .int (x1_5 &&& (((1 : Int32) <<< (x3_5 &&& 31)) ^^^ (-1 : Int32)))), (0, .ref (base + 82)), (2, .int x2_5)]) hx hb dX8_ash_68 hl (k := 3) rfl rfl (by decide) rfl (fun ls hl => ?_)
                    refine lv_goto (tgt := 31) hx hb dX8_ash_71 (by decide) ?_
                    have hf := while_l hX5 hf
                    exact ih5 (x1_5 &&& (((1 : Int32) <<< (x3_5 &&& 31)) ^^^ (-1 : Int32))) x2_5 (x3_5 + (1 : Int32)) u10 _ _ ls hG (lv_sub hl [2, 1, 3, 0] rfl) hf
          exact loop5 FUEL x1_1 x2_1 (0 : Int32) u1 _ _ ls hG (lv_sub hl [1, 2, 3, 0] rfl) hf
        · have hf := gif_f c4 hf
          refine lv_goto (tgt := 74) hx hb dX8_ash_26 (by decide) ?_
          refine lv_iinc (v := x2_1 + (1 : Int32)) (lv' := [(2, .int (x2_1 + (1 : Int32))), (0, .ref (base + 82)), (1, .int x1_1)]) hx hb dX8_ash_74 hl (k := 2) rfl rfl (by decide) rfl (fun ls hl => ?_)
          refine lv_goto (tgt := 6) hx hb dX8_ash_77 (by decide) ?_
          have hf := while_l hX1 hf
          exact ih1 x1_1 (x2_1 + (1 : Int32)) u1 _ _ ls hG (lv_sub hl [1, 2, 0] rfl) hf
  exact loop1 FUEL (255 : Int32) (0 : Int32) u _ _ ls hG (lv_sub hl [2, 1, 0] rfl) hf
theorem dX8_spread_0 : decode cX8_spread 0 = .ok (.iconst 0, 1) := by decide +kernel
theorem dX8_spread_1 : decode cX8_spread 1 = .ok (.istore_n 2, 1) := by decide +kernel
theorem dX8_spread_2 : decode cX8_spread 2 = .ok (.iconst 0, 1) := by decide +kernel
theorem dX8_spread_3 : decode cX8_spread 3 = .ok (.istore_n 3, 1) := by decide +kernel
theorem dX8_spread_4 : decode cX8_spread 4 = .ok (.iconst 0, 1) := by decide +kernel
theorem dX8_spread_5 : decode cX8_spread 5 = .ok (.istore 4, 2) := by decide +kernel
theorem dX8_spread_7 : decode cX8_spread 7 = .ok (.iload 4, 2) := by decide +kernel
theorem dX8_spread_9 : decode cX8_spread 9 = .ok (.aload_n 0, 1) := by decide +kernel
theorem dX8_spread_10 : decode cX8_spread 10 = .ok (.getfield 7, 3) := by decide +kernel
theorem dX8_spread_13 : decode cX8_spread 13 = .ok (.if_icmp .ge 63, 3) := by decide +kernel
theorem dX8_spread_16 : decode cX8_spread 16 = .ok (.aload_n 0, 1) := by decide +kernel
theorem dX8_spread_17 : decode cX8_spread 17 = .ok (.aload_n 0, 1) := by decide +kernel
theorem dX8_spread_18 : decode cX8_spread 18 = .ok (.getfield 35, 3) := by decide +kernel
theorem dX8_spread_21 : decode cX8_spread 21 = .ok (.iload 4, 2) := by decide +kernel
theorem dX8_spread_23 : decode cX8_spread 23 = .ok (.iaload, 1) := by decide +kernel
theorem dX8_spread_24 : decode cX8_spread 24 = .ok (.iload_n 1, 1) := by decide +kernel
theorem dX8_spread_25 : decode cX8_spread 25 = .ok (.invokevirtual 245, 3) := by decide +kernel
theorem dX8_spread_28 : decode cX8_spread 28 = .ok (.ifCond .ne 6, 3) := by decide +kernel
theorem dX8_spread_31 : decode cX8_spread 31 = .ok (.goto 39, 3) := by decide +kernel
theorem dX8_spread_34 : decode cX8_spread 34 = .ok (.iload_n 2, 1) := by decide +kernel
theorem dX8_spread_35 : decode cX8_spread 35 = .ok (.iconst 1, 1) := by decide +kernel
theorem dX8_spread_36 : decode cX8_spread 36 = .ok (.iload 4, 2) := by decide +kernel
theorem dX8_spread_38 : decode cX8_spread 38 = .ok (.ishl, 1) := by decide +kernel
theorem dX8_spread_39 : decode cX8_spread 39 = .ok (.ior, 1) := by decide +kernel
theorem dX8_spread_40 : decode cX8_spread 40 = .ok (.istore_n 2, 1) := by decide +kernel
theorem dX8_spread_41 : decode cX8_spread 41 = .ok (.iload_n 3, 1) := by decide +kernel
theorem dX8_spread_42 : decode cX8_spread 42 = .ok (.aload_n 0, 1) := by decide +kernel
theorem dX8_spread_43 : decode cX8_spread 43 = .ok (.aload_n 0, 1) := by decide +kernel
theorem dX8_spread_44 : decode cX8_spread 44 = .ok (.getfield 13, 3) := by decide +kernel
theorem dX8_spread_47 : decode cX8_spread 47 = .ok (.iload 4, 2) := by decide +kernel
theorem dX8_spread_49 : decode cX8_spread 49 = .ok (.invokevirtual 245, 3) := by decide +kernel
theorem dX8_spread_52 : decode cX8_spread 52 = .ok (.ifCond .eq 7, 3) := by decide +kernel
theorem dX8_spread_55 : decode cX8_spread 55 = .ok (.iconst 0, 1) := by decide +kernel
theorem dX8_spread_56 : decode cX8_spread 56 = .ok (.goto 12, 3) := by decide +kernel
theorem dX8_spread_59 : decode cX8_spread 59 = .ok (.iconst 1, 1) := by decide +kernel
theorem dX8_spread_60 : decode cX8_spread 60 = .ok (.aload_n 0, 1) := by decide +kernel
theorem dX8_spread_61 : decode cX8_spread 61 = .ok (.getfield 32, 3) := by decide +kernel
theorem dX8_spread_64 : decode cX8_spread 64 = .ok (.iload 4, 2) := by decide +kernel
theorem dX8_spread_66 : decode cX8_spread 66 = .ok (.iaload, 1) := by decide +kernel
theorem dX8_spread_67 : decode cX8_spread 67 = .ok (.ishl, 1) := by decide +kernel
theorem dX8_spread_68 : decode cX8_spread 68 = .ok (.ior, 1) := by decide +kernel
theorem dX8_spread_69 : decode cX8_spread 69 = .ok (.istore_n 3, 1) := by decide +kernel
theorem dX8_spread_70 : decode cX8_spread 70 = .ok (.iinc 4 1, 3) := by decide +kernel
theorem dX8_spread_73 : decode cX8_spread 73 = .ok (.goto (-66), 3) := by decide +kernel
theorem dX8_spread_76 : decode cX8_spread 76 = .ok (.iconst 0, 1) := by decide +kernel
theorem dX8_spread_77 : decode cX8_spread 77 = .ok (.istore 4, 2) := by decide +kernel
theorem dX8_spread_79 : decode cX8_spread 79 = .ok (.iload 4, 2) := by decide +kernel
theorem dX8_spread_81 : decode cX8_spread 81 = .ok (.aload_n 0, 1) := by decide +kernel
theorem dX8_spread_82 : decode cX8_spread 82 = .ok (.getfield 7, 3) := by decide +kernel
theorem dX8_spread_85 : decode cX8_spread 85 = .ok (.if_icmp .ge 48, 3) := by decide +kernel
theorem dX8_spread_88 : decode cX8_spread 88 = .ok (.iload_n 2, 1) := by decide +kernel
theorem dX8_spread_89 : decode cX8_spread 89 = .ok (.aload_n 0, 1) := by decide +kernel
theorem dX8_spread_90 : decode cX8_spread 90 = .ok (.aload_n 0, 1) := by decide +kernel
theorem dX8_spread_91 : decode cX8_spread 91 = .ok (.getfield 13, 3) := by decide +kernel
theorem dX8_spread_94 : decode cX8_spread 94 = .ok (.iload 4, 2) := by decide +kernel
theorem dX8_spread_96 : decode cX8_spread 96 = .ok (.invokevirtual 245, 3) := by decide +kernel
theorem dX8_spread_99 : decode cX8_spread 99 = .ok (.ifCond .ne 25, 3) := by decide +kernel
theorem dX8_spread_102 : decode cX8_spread 102 = .ok (.aload_n 0, 1) := by decide +kernel
theorem dX8_spread_103 : decode cX8_spread 103 = .ok (.iload_n 3, 1) := by decide +kernel
theorem dX8_spread_104 : decode cX8_spread 104 = .ok (.aload_n 0, 1) := by decide +kernel
theorem dX8_spread_105 : decode cX8_spread 105 = .ok (.getfield 32, 3) := by decide +kernel
theorem dX8_spread_108 : decode cX8_spread 108 = .ok (.iload 4, 2) := by decide +kernel
theorem dX8_spread_110 : decode cX8_spread 110 = .ok (.iaload, 1) := by decide +kernel
theorem dX8_spread_111 : decode cX8_spread 111 = .ok (.invokevirtual 245, 3) := by decide +kernel
theorem dX8_spread_114 : decode cX8_spread 114 = .ok (.ifCond .eq 10, 3) := by decide +kernel
theorem dX8_spread_117 : decode cX8_spread 117 = .ok (.iconst 1, 1) := by decide +kernel
theorem dX8_spread_118 : decode cX8_spread 118 = .ok (.iload 4, 2) := by decide +kernel
theorem dX8_spread_120 : decode cX8_spread 120 = .ok (.ishl, 1) := by decide +kernel
theorem dX8_spread_121 : decode cX8_spread 121 = .ok (.goto 4, 3) := by decide +kernel
theorem dX8_spread_124 : decode cX8_spread 124 = .ok (.iconst 0, 1) := by decide +kernel
theorem dX8_spread_125 : decode cX8_spread 125 = .ok (.ior, 1) := by decide +kernel
theorem dX8_spread_126 : decode cX8_spread 126 = .ok (.istore_n 2, 1) := by decide +kernel
theorem dX8_spread_127 : decode cX8_spread 127 = .ok (.iinc 4 1, 3) := by decide +kernel
theorem dX8_spread_130 : decode cX8_spread 130 = .ok (.goto (-51), 3) := by decide +kernel
theorem dX8_spread_133 : decode cX8_spread 133 = .ok (.iload_n 2, 1) := by decide +kernel
theorem dX8_spread_134 : decode cX8_spread 134 = .ok (.ireturn, 1) := by decide +kernel
def f_X8_spread_L79 (u : Mem) (x3_1 : Int32) (x2_3 : Int32) (x4_3 : Int32) : Option ((Int32 × Int32) ⊕ ((Int32 × Int32 × Int32) ⊕ Int32)) := (if (gI u 82 0) ≤ x4_3 then some (Sum.inr (Sum.inr (x2_3))) else Option.bind (f_X8_has (gI u 82 1) x4_3) (fun r5 => (if r5 = 0 then gin x4_3 6 (Option.bind (f_X8_has x3_1 (gA u 85 x4_3.toNatClampNeg)) (fun r8 => (if r8 = 0 then some (Sum.inl (x2_3 ||| (0 : Int32), x4_3 + (1 : Int32))) else some (Sum.inl (x2_3 ||| ((1 : Int32) <<< (x4_3 &&& 31)), x4_3 + (1 : Int32)))))) else some (Sum.inl (x2_3 ||| (0 : Int32), x4_3 + (1 : Int32))))))
def f_X8_spread_L7 (u : Mem) (p1 : Int32) (x2_1 : Int32) (x3_1 : Int32) (x4_1 : Int32) : Option ((Int32 × Int32 × Int32) ⊕ Int32) := (if (gI u 82 0) ≤ x4_1 then whileO (fun s => f_X8_spread_L79 u x3_1 s.1 s.2) FUEL (x2_1, (0 : Int32)) else gin x4_1 6 (Option.bind (f_X8_has (gA u 86 x4_1.toNatClampNeg) p1) (fun r11 => (if r11 = 0 then some (Sum.inl (x2_1, (x3_1, x4_1 + (1 : Int32)))) else Option.bind (f_X8_has (gI u 82 1) x4_1) (fun r13 => (if r13 = 0 then gin x4_1 6 (some (Sum.inl (x2_1 ||| ((1 : Int32) <<< (x4_1 &&& 31)), (x3_1 ||| ((1 : Int32) <<< ((gA u 85 x4_1.toNatClampNeg) &&& 31)), x4_1 + (1 : Int32))))) else some (Sum.inl (x2_1 ||| ((1 : Int32) <<< (x4_1 &&& 31)), (x3_1 ||| (0 : Int32), x4_1 + (1 : Int32))))))))))
def f_X8_spread (p1 : Int32) (u : Mem) : Option (Int32) := whileO (fun s => f_X8_spread_L7 u p1 s.1 s.2.1 s.2.2) FUEL ((0 : Int32), ((0 : Int32), (0 : Int32)))
set_option maxHeartbeats 4000000 in
set_option maxRecDepth 100000 in
theorem k_X8_spread (l : Launch) (D : gDt) (base : Nat) (Z : gZt) (u : Mem) (p1 : Int32) (r : Int32) (hf : f_X8_spread p1 u = some r) : Met l yX8_spread (gws yX8_spread cX8_spread 5 (some .int)) (gRm 2 0 0) (gPc D base Z u [.ref (base + 82), .int p1]) (gQi D base r u) 0 0 (gF base) := by
  refine Met.ofW (cc := cX8_spread) (maxL := 5) (ret := some .int) (by decide) rfl ?_
  intro p e s m args below meth c s₁ B hml hv
  obtain ⟨rfl, C0, hG⟩ := g_enter B hml hv
  have hr := B.returns
  have C0 : gC p s m meth c _ cX8_spread 5 RX8 D base Z := C0
  have hx := C0.1
  have hb := C0.2.1
  have hl := lv_entry ([.ref (base + 82), .int p1]) (n := 5) (Nat.le_of_ble_eq_true rfl)
  rw [lg_entry_eq]
  generalize (lg_sl ([.ref (base + 82), .int p1]) ++ List.replicate (5 - (lg_sl ([.ref (base + 82), .int p1])).length) Slot.unset).toArray = ls at hl ⊢
  have hl : lv_has ls 5 [(0, .ref (base + 82)), (1, .int p1)] := hl
  obtain ⟨Q, hQ⟩ : ∃ Q, Q = MQ below (gQi D base r u) ([.ref (base + 82), .int p1] : List Value).toArray s 0 0 (gF base) := ⟨_, rfl⟩
  rw [← hQ]
  change W p l e (gRm 2 0 0) s m _ below meth c _ _ _ _ _ _
  unfold f_X8_spread at hf
  refine lv_iconst (v := (0 : Int32)) hx hb dX8_spread_0 (by decide) ?_
  refine lv_istore_n (lv' := [(2, .int (0 : Int32)), (0, .ref (base + 82)), (1, .int p1)]) hx hb dX8_spread_1 rfl hl (by decide) rfl (fun ls hl => ?_)
  refine lv_iconst (v := (0 : Int32)) hx hb dX8_spread_2 (by decide) ?_
  refine lv_istore_n (lv' := [(3, .int (0 : Int32)), (2, .int (0 : Int32)), (0, .ref (base + 82)), (1, .int p1)]) hx hb dX8_spread_3 rfl hl (by decide) rfl (fun ls hl => ?_)
  refine lv_iconst (v := (0 : Int32)) hx hb dX8_spread_4 (by decide) ?_
  refine lv_istore (lv' := [(4, .int (0 : Int32)), (3, .int (0 : Int32)), (2, .int (0 : Int32)), (0, .ref (base + 82)), (1, .int p1)]) hx hb dX8_spread_5 hl (by decide) rfl (fun ls hl => ?_)
  have loop1 : ∀ (n1 : Nat) (x2_1 : Int32) (x3_1 : Int32) (x4_1 : Int32) (H : Heap) (locs : List Loc) (ls : Array Slot), gH D base s u H locs → lv_has ls 5 [(0, .ref (base + 82)), (1, .int p1), (2, .int x2_1), (3, .int x3_1), (4, .int x4_1)] → whileO (fun s => f_X8_spread_L7 u p1 s.1 s.2.1 s.2.2) n1 (x2_1, (x3_1, x4_1)) = some r → W p l e (gRm 2 0 0) s m ([.ref (base + 82), .int p1] : List Value).toArray below meth c H locs 0 0 Q (F0 m 7 ls []) := by
    intro n1
    induction n1 with
    | zero => intro x2_1 x3_1 x4_1 H locs ls hG hl hf; cases hf
    | succ n1 ih1 =>
      intro x2_1 x3_1 x4_1 H locs ls hG hl hf
      obtain ⟨X1, hf, hX1⟩ := while_s hf
      have hf : f_X8_spread_L7 u p1 x2_1 x3_1 x4_1 = some X1 := hf
      unfold f_X8_spread_L7 at hf
      refine lv_iload hx hb dX8_spread_7 (lv_at hl 4 rfl) ?_
      refine lv_aload_n hx hb dX8_spread_9 rfl (lv_at hl 0 rfl) ?_
      refine g_getI C0 hG (L82 hG) rfl 0 (by decide) rfl w_846 dX8_spread_10 ?_
      refine lv_icmp_ge (tgt := 76) hx hb dX8_spread_13 (by decide) (fun c2 => ?_) (fun c2 => ?_)
      · have hf := gif_t c2 hf
        refine lv_iconst (v := (0 : Int32)) hx hb dX8_spread_76 (by decide) ?_
        refine lv_istore (lv' := [(4, .int (0 : Int32)), (0, .ref (base + 82)), (1, .int p1), (2, .int x2_1), (3, .int x3_1)]) hx hb dX8_spread_77 hl (by decide) rfl (fun ls hl => ?_)
        have loop3 : ∀ (n3 : Nat) (x2_3 : Int32) (x4_3 : Int32) (H : Heap) (locs : List Loc) (ls : Array Slot), gH D base s u H locs → lv_has ls 5 [(0, .ref (base + 82)), (2, .int x2_3), (3, .int x3_1), (4, .int x4_3)] → whileO (fun s => f_X8_spread_L79 u x3_1 s.1 s.2) n3 (x2_3, x4_3) = some X1 → W p l e (gRm 2 0 0) s m ([.ref (base + 82), .int p1] : List Value).toArray below meth c H locs 0 0 Q (F0 m 79 ls []) := by
          intro n3
          induction n3 with
          | zero => intro x2_3 x4_3 H locs ls hG hl hf; cases hf
          | succ n3 ih3 =>
            intro x2_3 x4_3 H locs ls hG hl hf
            obtain ⟨X3, hf, hX3⟩ := while_s hf
            have hf : f_X8_spread_L79 u x3_1 x2_3 x4_3 = some X3 := hf
            unfold f_X8_spread_L79 at hf
            refine lv_iload hx hb dX8_spread_79 (lv_at hl 3 rfl) ?_
            refine lv_aload_n hx hb dX8_spread_81 rfl (lv_at hl 0 rfl) ?_
            refine g_getI C0 hG (L82 hG) rfl 0 (by decide) rfl w_846 dX8_spread_82 ?_
            refine lv_icmp_ge (tgt := 133) hx hb dX8_spread_85 (by decide) (fun c4 => ?_) (fun c4 => ?_)
            · have hf := gif_t c4 hf
              refine lv_iload_n hx hb dX8_spread_133 rfl (lv_at hl 1 rfl) ?_
              have hf := while_r hX3 hf
              have hf := while_r hX1 hf
              have hf := Option.some.inj hf
              subst hf
              subst hQ
              exact g_iret C0 hG hr dX8_spread_134
            · have hf := gif_f c4 hf
              refine lv_iload_n hx hb dX8_spread_88 rfl (lv_at hl 1 rfl) ?_
              refine lv_aload_n hx hb dX8_spread_89 rfl (lv_at hl 0 rfl) ?_
              refine lv_aload_n hx hb dX8_spread_90 rfl (lv_at hl 0 rfl) ?_
              refine g_getI C0 hG (L82 hG) rfl 1 (by decide) rfl w_847 dX8_spread_91 ?_
              refine lv_iload hx hb dX8_spread_94 (lv_at hl 3 rfl) ?_
              obtain ⟨r5, hc5, hf⟩ := pb_s hf
              refine g_doI0 hG (g_runV C0 hG (k_X8_has l D base Z u (gI u 82 1) x4_3 r5 hc5) m_X8_has v_X8_has w_1110 (by decide) (g_recv C0 hG (L82 hG) rfl) rfl hl.1 rfl (Nat.le_of_ble_eq_true rfl) dX8_spread_96 ⟨Nat.zero_le _, Nat.zero_le _⟩) (fun H locs hG hk => ?_)
              refine lv_if_ne (tgt := 124) hx hb dX8_spread_99 (by decide) (fun c6 => ?_) (fun c6 => ?_)
              · have hf := gif_f c6 hf
                refine lv_iconst (v := (0 : Int32)) hx hb dX8_spread_124 (by decide) ?_
                refine lv_ior hx hb dX8_spread_125 ?_
                refine lv_istore_n (lv' := [(2, .int (x2_3 ||| (0 : Int32))), (0, .ref (base + 82)), (3, .int x3_1), (4, .int x4_3)]) hx hb dX8_spread_126 rfl hl (by decide) rfl (fun ls hl => ?_)
                refine lv_iinc (v := x4_3 + (1 : Int32)) (lv' := [(4, .int (x4_3 + (1 : Int32))), (2, .int (x2_3 ||| (0 : Int32))), (0, .ref (base + 82)), (3, .int x3_1)]) hx hb dX8_spread_127 hl (k := 3) rfl rfl (by decide) rfl (fun ls hl => ?_)
                refine lv_goto (tgt := 79) hx hb dX8_spread_130 (by decide) ?_
                have hf := while_l hX3 hf
                exact ih3 (x2_3 ||| (0 : Int32)) (x4_3 + (1 : Int32)) _ _ ls hG (lv_sub hl [2, 1, 3, 0] rfl) hf
              · have hf := gif_t c6 hf
                refine lv_aload_n hx hb dX8_spread_102 rfl (lv_at hl 0 rfl) ?_
                refine lv_iload_n hx hb dX8_spread_103 rfl (lv_at hl 2 rfl) ?_
                refine lv_aload_n hx hb dX8_spread_104 rfl (lv_at hl 0 rfl) ?_
                refine g_getSa (o := 3) (a := 85) C0 hG (L82 hG) rfl 7 (by decide) rfl rfl w_853 dX8_spread_105 ?_
                refine lv_iload hx hb dX8_spread_108 (lv_at hl 3 rfl) ?_
                obtain ⟨h7, hf⟩ := gin_s hf
                refine g_iald C0 hG (L85 hG) h7 dX8_spread_110 ?_
                obtain ⟨r8, hc8, hf⟩ := pb_s hf
                refine g_doI0 hG (g_runV C0 hG (k_X8_has l D base Z u x3_1 (gA u 85 x4_3.toNatClampNeg) r8 hc8) m_X8_has v_X8_has w_1110 (by decide) (g_recv C0 hG (L82 hG) rfl) rfl hl.1 rfl (Nat.le_of_ble_eq_true rfl) dX8_spread_111 ⟨Nat.zero_le _, Nat.zero_le _⟩) (fun H locs hG hk => ?_)
                refine lv_if_eq (tgt := 124) hx hb dX8_spread_114 (by decide) (fun c9 => ?_) (fun c9 => ?_)
                · have hf := gif_t c9 hf
                  refine lv_iconst (v := (0 : Int32)) hx hb dX8_spread_124 (by decide) ?_
                  refine lv_ior hx hb dX8_spread_125 ?_
                  refine lv_istore_n (lv' := [(2, .int (x2_3 ||| (0 : Int32))), (0, .ref (base + 82)), (3, .int x3_1), (4, .int x4_3)]) hx hb dX8_spread_126 rfl hl (by decide) rfl (fun ls hl => ?_)
                  refine lv_iinc (v := x4_3 + (1 : Int32)) (lv' := [(4, .int (x4_3 + (1 : Int32))), (2, .int (x2_3 ||| (0 : Int32))), (0, .ref (base + 82)), (3, .int x3_1)]) hx hb dX8_spread_127 hl (k := 3) rfl rfl (by decide) rfl (fun ls hl => ?_)
                  refine lv_goto (tgt := 79) hx hb dX8_spread_130 (by decide) ?_
                  have hf := while_l hX3 hf
                  exact ih3 (x2_3 ||| (0 : Int32)) (x4_3 + (1 : Int32)) _ _ ls hG (lv_sub hl [2, 1, 3, 0] rfl) hf
                · have hf := gif_f c9 hf
                  refine lv_iconst (v := (1 : Int32)) hx hb dX8_spread_117 (by decide) ?_
                  refine lv_iload hx hb dX8_spread_118 (lv_at hl 3 rfl) ?_
                  refine lv_ishl hx hb dX8_spread_120 ?_
                  refine lv_goto (tgt := 125) hx hb dX8_spread_121 (by decide) ?_
                  refine lv_ior hx hb dX8_spread_125 ?_
                  refine lv_istore_n (lv' := [(2, .int (x2_3 ||| ((1 : Int32) <<< (x4_3 &&& 31)))), (0, .ref (base + 82)), (3, .int x3_1), (4, .int x4_3)]) hx hb dX8_spread_126 rfl hl (by decide) rfl (fun ls hl => ?_)
                  refine lv_iinc (v := x4_3 + (1 : Int32)) (lv' := [(4, .int (x4_3 + (1 : Int32))), (2, .int (x2_3 ||| ((1 : Int32) <<< (x4_3 &&& 31)))), (0, .ref (base + 82)), (3, .int x3_1)]) hx hb dX8_spread_127 hl (k := 3) rfl rfl (by decide) rfl (fun ls hl => ?_)
                  refine lv_goto (tgt := 79) hx hb dX8_spread_130 (by decide) ?_
                  have hf := while_l hX3 hf
                  exact ih3 (x2_3 ||| ((1 : Int32) <<< (x4_3 &&& 31))) (x4_3 + (1 : Int32)) _ _ ls hG (lv_sub hl [2, 1, 3, 0] rfl) hf
        exact loop3 FUEL x2_1 (0 : Int32) _ _ ls hG (lv_sub hl [1, 3, 4, 0] rfl) hf
      · have hf := gif_f c2 hf
        refine lv_aload_n hx hb dX8_spread_16 rfl (lv_at hl 0 rfl) ?_
        refine lv_aload_n hx hb dX8_spread_17 rfl (lv_at hl 0 rfl) ?_
        refine g_getSa (o := 4) (a := 86) C0 hG (L82 hG) rfl 8 (by decide) rfl rfl w_854 dX8_spread_18 ?_
        refine lv_iload hx hb dX8_spread_21 (lv_at hl 4 rfl) ?_
        obtain ⟨h10, hf⟩ := gin_s hf
        refine g_iald C0 hG (L86 hG) h10 dX8_spread_23 ?_
        refine lv_iload_n hx hb dX8_spread_24 rfl (lv_at hl 1 rfl) ?_
        obtain ⟨r11, hc11, hf⟩ := pb_s hf
        refine g_doI0 hG (g_runV C0 hG (k_X8_has l D base Z u (gA u 86 x4_1.toNatClampNeg) p1 r11 hc11) m_X8_has v_X8_has w_1110 (by decide) (g_recv C0 hG (L82 hG) rfl) rfl hl.1 rfl (Nat.le_of_ble_eq_true rfl) dX8_spread_25 ⟨Nat.zero_le _, Nat.zero_le _⟩) (fun H locs hG hk => ?_)
        refine lv_if_ne (tgt := 34) hx hb dX8_spread_28 (by decide) (fun c12 => ?_) (fun c12 => ?_)
        · have hf := gif_f c12 hf
          refine lv_iload_n hx hb dX8_spread_34 rfl (lv_at hl 2 rfl) ?_
          refine lv_iconst (v := (1 : Int32)) hx hb dX8_spread_35 (by decide) ?_
          refine lv_iload hx hb dX8_spread_36 (lv_at hl 4 rfl) ?_
          refine lv_ishl hx hb dX8_spread_38 ?_
          refine lv_ior hx hb dX8_spread_39 ?_
          refine lv_istore_n (lv' := [(2, .int (x2_1 ||| ((1 : Int32) <<< (x4_1 &&& 31)))), (0, .ref (base + 82)), (1, .int p1), (3, .int x3_1), (4, .int x4_1)]) hx hb dX8_spread_40 rfl hl (by decide) rfl (fun ls hl => ?_)
          refine lv_iload_n hx hb dX8_spread_41 rfl (lv_at hl 3 rfl) ?_
          refine lv_aload_n hx hb dX8_spread_42 rfl (lv_at hl 1 rfl) ?_
          refine lv_aload_n hx hb dX8_spread_43 rfl (lv_at hl 1 rfl) ?_
          refine g_getI C0 hG (L82 hG) rfl 1 (by decide) rfl w_847 dX8_spread_44 ?_
          refine lv_iload hx hb dX8_spread_47 (lv_at hl 4 rfl) ?_
          obtain ⟨r13, hc13, hf⟩ := pb_s hf
          refine g_doI0 hG (g_runV C0 hG (k_X8_has l D base Z u (gI u 82 1) x4_1 r13 hc13) m_X8_has v_X8_has w_1110 (by decide) (g_recv C0 hG (L82 hG) rfl) rfl hl.1 rfl (Nat.le_of_ble_eq_true rfl) dX8_spread_49 ⟨Nat.zero_le _, Nat.zero_le _⟩) (fun H locs hG hk => ?_)
          refine lv_if_eq (tgt := 59) hx hb dX8_spread_52 (by decide) (fun c14 => ?_) (fun c14 => ?_)
          · have hf := gif_t c14 hf
            refine lv_iconst (v := (1 : Int32)) hx hb dX8_spread_59 (by decide) ?_
            refine lv_aload_n hx hb dX8_spread_60 rfl (lv_at hl 1 rfl) ?_
            refine g_getSa (o := 3) (a := 85) C0 hG (L82 hG) rfl 7 (by decide) rfl rfl w_853 dX8_spread_61 ?_
            refine lv_iload hx hb dX8_spread_64 (lv_at hl 4 rfl) ?_
            obtain ⟨h15, hf⟩ := gin_s hf
            refine g_iald C0 hG (L85 hG) h15 dX8_spread_66 ?_
            refine lv_ishl hx hb dX8_spread_67 ?_
            refine lv_ior hx hb dX8_spread_68 ?_
            refine lv_istore_n (lv' := [(3, .int (x3_1 ||| ((1 : Int32) <<< ((gA u 85 x4_1.toNatClampNeg) &&& 31)))), (2, .int (x2_1 ||| ((1 : Int32) <<< (x4_1 &&& 31)))), (0, .ref (base + 82)), (1, .int p1), (4, .int x4_1)]) hx hb dX8_spread_69 rfl hl (by decide) rfl (fun ls hl => ?_)
            refine lv_iinc (v := x4_1 + (1 : Int32)) (lv' := [(4, .int (x4_1 + (1 : Int32))), (3, .int (x3_1 ||| ((1 : Int32) <<< ((gA u 85 x4_1.toNatClampNeg) &&& 31)))), (2, .int (x2_1 ||| ((1 : Int32) <<< (x4_1 &&& 31)))), (0, .ref (base + 82)), (1, .int p1)]) hx hb dX8_spread_70 hl (k := 4) rfl rfl (by decide) rfl (fun ls hl => ?_)
            refine lv_goto (tgt := 7) hx hb dX8_spread_73 (by decide) ?_
            have hf := while_l hX1 hf
            exact ih1 (x2_1 ||| ((1 : Int32) <<< (x4_1 &&& 31))) (x3_1 ||| ((1 : Int32) <<< ((gA u 85 x4_1.toNatClampNeg) &&& 31))) (x4_1 + (1 : Int32)) _ _ ls hG (lv_sub hl [3, 4, 2, 1, 0] rfl) hf
          · have hf := gif_f c14 hf
            refine lv_iconst (v := (0 : Int32)) hx hb dX8_spread_55 (by decide) ?_
            refine lv_goto (tgt := 68) hx hb dX8_spread_56 (by decide) ?_
            refine lv_ior hx hb dX8_spread_68 ?_
            refine lv_istore_n (lv' := [(3, .int (x3_1 ||| (0 : Int32))), (2, .int (x2_1 ||| ((1 : Int32) <<< (x4_1 &&& 31)))), (0, .ref (base + 82)), (1, .int p1), (4, .int x4_1)]) hx hb dX8_spread_69 rfl hl (by decide) rfl (fun ls hl => ?_)
            refine lv_iinc (v := x4_1 + (1 : Int32)) (lv' := [(4, .int (x4_1 + (1 : Int32))), (3, .int (x3_1 ||| (0 : Int32))), (2, .int (x2_1 ||| ((1 : Int32) <<< (x4_1 &&& 31)))), (0, .ref (base + 82)), (1, .int p1)]) hx hb dX8_spread_70 hl (k := 4) rfl rfl (by decide) rfl (fun ls hl => ?_)
            refine lv_goto (tgt := 7) hx hb dX8_spread_73 (by decide) ?_
            have hf := while_l hX1 hf
            exact ih1 (x2_1 ||| ((1 : Int32) <<< (x4_1 &&& 31))) (x3_1 ||| (0 : Int32)) (x4_1 + (1 : Int32)) _ _ ls hG (lv_sub hl [3, 4, 2, 1, 0] rfl) hf
        · have hf := gif_t c12 hf
          refine lv_goto (tgt := 70) hx hb dX8_spread_31 (by decide) ?_
          refine lv_iinc (v := x4_1 + (1 : Int32)) (lv' := [(4, .int (x4_1 + (1 : Int32))), (0, .ref (base + 82)), (1, .int p1), (2, .int x2_1), (3, .int x3_1)]) hx hb dX8_spread_70 hl (k := 4) rfl rfl (by decide) rfl (fun ls hl => ?_)
          refine lv_goto (tgt := 7) hx hb dX8_spread_73 (by decide) ?_
          have hf := while_l hX1 hf
          exact ih1 x2_1 x3_1 (x4_1 + (1 : Int32)) _ _ ls hG (lv_sub hl [1, 2, 3, 4, 0] rfl) hf
  exact loop1 FUEL (0 : Int32) (0 : Int32) (0 : Int32) _ _ ls hG (lv_sub hl [3, 4, 2, 1, 0] rfl) hf
theorem dX8_told_0 : decode cX8_told 0 = .ok (.aload_n 0, 1) := by decide +kernel
theorem dX8_told_1 : decode cX8_told 1 = .ok (.iload_n 1, 1) := by decide +kernel
theorem dX8_told_2 : decode cX8_told 2 = .ok (.bipush 10, 2) := by decide +kernel
theorem dX8_told_4 : decode cX8_told 4 = .ok (.bipush 17, 2) := by decide +kernel
theorem dX8_told_6 : decode cX8_told 6 = .ok (.invokevirtual 249, 3) := by decide +kernel
theorem dX8_told_9 : decode cX8_told 9 = .ok (.ifCond .eq 13, 3) := by decide +kernel
theorem dX8_told_12 : decode cX8_told 12 = .ok (.aload_n 0, 1) := by decide +kernel
theorem dX8_told_13 : decode cX8_told 13 = .ok (.getfield 44, 3) := by decide +kernel
theorem dX8_told_16 : decode cX8_told 16 = .ok (.iload_n 1, 1) := by decide +kernel
theorem dX8_told_17 : decode cX8_told 17 = .ok (.bipush 10, 2) := by decide +kernel
theorem dX8_told_19 : decode cX8_told 19 = .ok (.isub, 1) := by decide +kernel
theorem dX8_told_20 : decode cX8_told 20 = .ok (.iaload, 1) := by decide +kernel
theorem dX8_told_21 : decode cX8_told 21 = .ok (.ireturn, 1) := by decide +kernel
theorem dX8_told_22 : decode cX8_told 22 = .ok (.aload_n 0, 1) := by decide +kernel
theorem dX8_told_23 : decode cX8_told 23 = .ok (.iload_n 1, 1) := by decide +kernel
theorem dX8_told_24 : decode cX8_told 24 = .ok (.bipush 20, 2) := by decide +kernel
theorem dX8_told_26 : decode cX8_told 26 = .ok (.bipush 27, 2) := by decide +kernel
theorem dX8_told_28 : decode cX8_told 28 = .ok (.invokevirtual 249, 3) := by decide +kernel
theorem dX8_told_31 : decode cX8_told 31 = .ok (.ifCond .eq 13, 3) := by decide +kernel
theorem dX8_told_34 : decode cX8_told 34 = .ok (.aload_n 0, 1) := by decide +kernel
theorem dX8_told_35 : decode cX8_told 35 = .ok (.getfield 41, 3) := by decide +kernel
theorem dX8_told_38 : decode cX8_told 38 = .ok (.iload_n 1, 1) := by decide +kernel
theorem dX8_told_39 : decode cX8_told 39 = .ok (.bipush 20, 2) := by decide +kernel
theorem dX8_told_41 : decode cX8_told 41 = .ok (.isub, 1) := by decide +kernel
theorem dX8_told_42 : decode cX8_told 42 = .ok (.iaload, 1) := by decide +kernel
theorem dX8_told_43 : decode cX8_told 43 = .ok (.ireturn, 1) := by decide +kernel
theorem dX8_told_44 : decode cX8_told 44 = .ok (.aload_n 0, 1) := by decide +kernel
theorem dX8_told_45 : decode cX8_told 45 = .ok (.iload_n 1, 1) := by decide +kernel
theorem dX8_told_46 : decode cX8_told 46 = .ok (.bipush 30, 2) := by decide +kernel
theorem dX8_told_48 : decode cX8_told 48 = .ok (.bipush 37, 2) := by decide +kernel
theorem dX8_told_50 : decode cX8_told 50 = .ok (.invokevirtual 249, 3) := by decide +kernel
theorem dX8_told_53 : decode cX8_told 53 = .ok (.ifCond .eq 12, 3) := by decide +kernel
theorem dX8_told_56 : decode cX8_told 56 = .ok (.aload_n 0, 1) := by decide +kernel
theorem dX8_told_57 : decode cX8_told 57 = .ok (.iload_n 1, 1) := by decide +kernel
theorem dX8_told_58 : decode cX8_told 58 = .ok (.bipush 30, 2) := by decide +kernel
theorem dX8_told_60 : decode cX8_told 60 = .ok (.isub, 1) := by decide +kernel
theorem dX8_told_61 : decode cX8_told 61 = .ok (.invokevirtual 361, 3) := by decide +kernel
theorem dX8_told_64 : decode cX8_told 64 = .ok (.ireturn, 1) := by decide +kernel
theorem dX8_told_65 : decode cX8_told 65 = .ok (.iload_n 1, 1) := by decide +kernel
theorem dX8_told_66 : decode cX8_told 66 = .ok (.tableswitch 59 0 4 #[34, 39, 44, 49, 54], 34) := by decide +kernel
theorem dX8_told_100 : decode cX8_told 100 = .ok (.aload_n 0, 1) := by decide +kernel
theorem dX8_told_101 : decode cX8_told 101 = .ok (.getfield 22, 3) := by decide +kernel
theorem dX8_told_104 : decode cX8_told 104 = .ok (.ireturn, 1) := by decide +kernel
theorem dX8_told_105 : decode cX8_told 105 = .ok (.aload_n 0, 1) := by decide +kernel
theorem dX8_told_106 : decode cX8_told 106 = .ok (.invokevirtual 349, 3) := by decide +kernel
theorem dX8_told_109 : decode cX8_told 109 = .ok (.ireturn, 1) := by decide +kernel
theorem dX8_told_110 : decode cX8_told 110 = .ok (.aload_n 0, 1) := by decide +kernel
theorem dX8_told_111 : decode cX8_told 111 = .ok (.getfield 16, 3) := by decide +kernel
theorem dX8_told_114 : decode cX8_told 114 = .ok (.ireturn, 1) := by decide +kernel
theorem dX8_told_115 : decode cX8_told 115 = .ok (.aload_n 0, 1) := by decide +kernel
theorem dX8_told_116 : decode cX8_told 116 = .ok (.getfield 19, 3) := by decide +kernel
theorem dX8_told_119 : decode cX8_told 119 = .ok (.ireturn, 1) := by decide +kernel
theorem dX8_told_120 : decode cX8_told 120 = .ok (.aload_n 0, 1) := by decide +kernel
theorem dX8_told_121 : decode cX8_told 121 = .ok (.invokevirtual 364, 3) := by decide +kernel
theorem dX8_told_124 : decode cX8_told 124 = .ok (.ireturn, 1) := by decide +kernel
theorem dX8_told_125 : decode cX8_told 125 = .ok (.iconst (-1), 1) := by decide +kernel
theorem dX8_told_126 : decode cX8_told 126 = .ok (.ireturn, 1) := by decide +kernel
def f_X8_told (p1 : Int32) (u : Mem) : Option (Int32 × Mem) := Option.bind (f_X8_in p1 (10 : Int32) (17 : Int32)) (fun r1 => (if r1 = 0 then Option.bind (f_X8_in p1 (20 : Int32) (27 : Int32)) (fun r3 => (if r3 = 0 then Option.bind (f_X8_in p1 (30 : Int32) (37 : Int32)) (fun r5 => (if r5 = 0 then (if p1 = (0 : Int32) then some (gI u 82 4, u) else (if p1 = (1 : Int32) then Option.bind (f_X8_slope u) (fun r9 => some (r9, u)) else (if p1 = (2 : Int32) then some (gI u 82 2, u) else (if p1 = (3 : Int32) then some (gI u 82 3, u) else (if p1 = (4 : Int32) then obind (f_X8_ash u) (fun r13 u13 => some (r13, u13)) else some ((-1 : Int32), u)))))) else Option.bind (f_X8_spread (p1 - (30 : Int32)) u) (fun r14 => some (r14, u)))) else gin (p1 - (20 : Int32)) 8 (some (gA u 88 (p1 - (20 : Int32)).toNatClampNeg, u)))) else gin (p1 - (10 : Int32)) 8 (some (gA u 89 (p1 - (10 : Int32)).toNatClampNeg, u))))
set_option maxHeartbeats 4000000 in
set_option maxRecDepth 100000 in
theorem k_X8_told (l : Launch) (D : gDt) (base : Nat) (Z : gZt) (u : Mem) (p1 : Int32) (r : Int32) (u' : Mem) (hf : f_X8_told p1 u = some (r, u')) : Met l yX8_told (gws yX8_told cX8_told 2 (some .int)) (gRm 6 0 0) (gPc D base Z u [.ref (base + 82), .int p1]) (gQi D base r u') 0 0 (gF base) := by
  refine Met.ofW (cc := cX8_told) (maxL := 2) (ret := some .int) (by decide) rfl ?_
  intro p e s m args below meth c s₁ B hml hv
  obtain ⟨rfl, C0, hG⟩ := g_enter B hml hv
  have hr := B.returns
  have C0 : gC p s m meth c _ cX8_told 2 RX8 D base Z := C0
  have hx := C0.1
  have hb := C0.2.1
  have hl := lv_entry ([.ref (base + 82), .int p1]) (n := 2) (Nat.le_of_ble_eq_true rfl)
  rw [lg_entry_eq]
  generalize (lg_sl ([.ref (base + 82), .int p1]) ++ List.replicate (2 - (lg_sl ([.ref (base + 82), .int p1])).length) Slot.unset).toArray = ls at hl ⊢
  have hl : lv_has ls 2 [(0, .ref (base + 82)), (1, .int p1)] := hl
  obtain ⟨Q, hQ⟩ : ∃ Q, Q = MQ below (gQi D base r u') ([.ref (base + 82), .int p1] : List Value).toArray s 0 0 (gF base) := ⟨_, rfl⟩
  rw [← hQ]
  change W p l e (gRm 6 0 0) s m _ below meth c _ _ _ _ _ _
  unfold f_X8_told at hf
  refine lv_aload_n hx hb dX8_told_0 rfl (lv_at hl 0 rfl) ?_
  refine lv_iload_n hx hb dX8_told_1 rfl (lv_at hl 1 rfl) ?_
  refine lv_bipush (v := (10 : Int32)) hx hb dX8_told_2 (by decide) ?_
  refine lv_bipush (v := (17 : Int32)) hx hb dX8_told_4 (by decide) ?_
  obtain ⟨r1, hc1, hf⟩ := pb_s hf
  refine g_doI0 hG (g_runV C0 hG (k_X8_in l D base Z u p1 (10 : Int32) (17 : Int32) r1 hc1) m_X8_in v_X8_in w_1082 (by decide) (g_recv C0 hG (L82 hG) rfl) rfl hl.1 rfl (Nat.le_of_ble_eq_true rfl) dX8_told_6 ⟨Nat.zero_le _, Nat.zero_le _⟩) (fun H locs hG hk => ?_)
  refine lv_if_eq (tgt := 22) hx hb dX8_told_9 (by decide) (fun c2 => ?_) (fun c2 => ?_)
  · have hf := gif_t c2 hf
    refine lv_aload_n hx hb dX8_told_22 rfl (lv_at hl 0 rfl) ?_
    refine lv_iload_n hx hb dX8_told_23 rfl (lv_at hl 1 rfl) ?_
    refine lv_bipush (v := (20 : Int32)) hx hb dX8_told_24 (by decide) ?_
    refine lv_bipush (v := (27 : Int32)) hx hb dX8_told_26 (by decide) ?_
    obtain ⟨r3, hc3, hf⟩ := pb_s hf
    refine g_doI0 hG (g_runV C0 hG (k_X8_in l D base Z u p1 (20 : Int32) (27 : Int32) r3 hc3) m_X8_in v_X8_in w_1082 (by decide) (g_recv C0 hG (L82 hG) rfl) rfl hl.1 rfl (Nat.le_of_ble_eq_true rfl) dX8_told_28 ⟨Nat.zero_le _, Nat.zero_le _⟩) (fun H locs hG hk => ?_)
    refine lv_if_eq (tgt := 44) hx hb dX8_told_31 (by decide) (fun c4 => ?_) (fun c4 => ?_)
    · have hf := gif_t c4 hf
      refine lv_aload_n hx hb dX8_told_44 rfl (lv_at hl 0 rfl) ?_
      refine lv_iload_n hx hb dX8_told_45 rfl (lv_at hl 1 rfl) ?_
      refine lv_bipush (v := (30 : Int32)) hx hb dX8_told_46 (by decide) ?_
      refine lv_bipush (v := (37 : Int32)) hx hb dX8_told_48 (by decide) ?_
      obtain ⟨r5, hc5, hf⟩ := pb_s hf
      refine g_doI0 hG (g_runV C0 hG (k_X8_in l D base Z u p1 (30 : Int32) (37 : Int32) r5 hc5) m_X8_in v_X8_in w_1082 (by decide) (g_recv C0 hG (L82 hG) rfl) rfl hl.1 rfl (Nat.le_of_ble_eq_true rfl) dX8_told_50 ⟨Nat.zero_le _, Nat.zero_le _⟩) (fun H locs hG hk => ?_)
      refine lv_if_eq (tgt := 65) hx hb dX8_told_53 (by decide) (fun c6 => ?_) (fun c6 => ?_)
      · have hf := gif_t c6 hf
        refine lv_iload_n hx hb dX8_told_65 rfl (lv_at hl 1 rfl) ?_
        refine (Decidable.em (p1 = (0 : Int32))).elim (fun c7 => ?_) (fun c7 => ?_)
        · have hf := gif_t c7 hf
          refine lv_tableIn (off := 34) (tgt := 100) hx hb dX8_told_66 (by rw [c7]; decide) (by rw [c7]; decide) (by rw [c7]; rfl) (by decide) ?_
          refine lv_aload_n hx hb dX8_told_100 rfl (lv_at hl 0 rfl) ?_
          refine g_getI C0 hG (L82 hG) rfl 4 (by decide) rfl w_850 dX8_told_101 ?_
          obtain ⟨hr1, hu⟩ := gret_s hf
          subst hr1
          subst hu
          subst hQ
          exact g_iret C0 hG hr dX8_told_104
        · have hf := gif_f c7 hf
          refine (Decidable.em (p1 = (1 : Int32))).elim (fun c8 => ?_) (fun c8 => ?_)
          · have hf := gif_t c8 hf
            refine lv_tableIn (off := 39) (tgt := 105) hx hb dX8_told_66 (by rw [c8]; decide) (by rw [c8]; decide) (by rw [c8]; rfl) (by decide) ?_
            refine lv_aload_n hx hb dX8_told_105 rfl (lv_at hl 0 rfl) ?_
            obtain ⟨r9, hc9, hf⟩ := pb_s hf
            refine g_doI0 hG (g_runV C0 hG (k_X8_slope l D base Z u r9 hc9) m_X8_slope v_X8_slope w_1254 (by decide) (g_recv C0 hG (L82 hG) rfl) rfl hl.1 rfl (Nat.le_of_ble_eq_true rfl) dX8_told_106 ⟨Nat.zero_le _, Nat.zero_le _⟩) (fun H locs hG hk => ?_)
            obtain ⟨hr1, hu⟩ := gret_s hf
            subst hr1
            subst hu
            subst hQ
            exact g_iret C0 hG hr dX8_told_109
          · have hf := gif_f c8 hf
            refine (Decidable.em (p1 = (2 : Int32))).elim (fun c10 => ?_) (fun c10 => ?_)
            · have hf := gif_t c10 hf
              refine lv_tableIn (off := 44) (tgt := 110) hx hb dX8_told_66 (by rw [c10]; decide) (by rw [c10]; decide) (by rw [c10]; rfl) (by decide) ?_
              refine lv_aload_n hx hb dX8_told_110 rfl (lv_at hl 0 rfl) ?_
              refine g_getI C0 hG (L82 hG) rfl 2 (by decide) rfl w_848 dX8_told_111 ?_
              obtain ⟨hr1, hu⟩ := gret_s hf
              subst hr1
              subst hu
              subst hQ
              exact g_iret C0 hG hr dX8_told_114
            · have hf := gif_f c10 hf
              refine (Decidable.em (p1 = (3 : Int32))).elim (fun c11 => ?_) (fun c11 => ?_)
              · have hf := gif_t c11 hf
                refine lv_tableIn (off := 49) (tgt := 115) hx hb dX8_told_66 (by rw [c11]; decide) (by rw [c11]; decide) (by rw [c11]; rfl) (by decide) ?_
                refine lv_aload_n hx hb dX8_told_115 rfl (lv_at hl 0 rfl) ?_
                refine g_getI C0 hG (L82 hG) rfl 3 (by decide) rfl w_849 dX8_told_116 ?_
                obtain ⟨hr1, hu⟩ := gret_s hf
                subst hr1
                subst hu
                subst hQ
                exact g_iret C0 hG hr dX8_told_119
              · have hf := gif_f c11 hf
                refine (Decidable.em (p1 = (4 : Int32))).elim (fun c12 => ?_) (fun c12 => ?_)
                · have hf := gif_t c12 hf
                  refine lv_tableIn (off := 54) (tgt := 120) hx hb dX8_told_66 (by rw [c12]; decide) (by rw [c12]; decide) (by rw [c12]; rfl) (by decide) ?_
                  refine lv_aload_n hx hb dX8_told_120 rfl (lv_at hl 0 rfl) ?_
                  obtain ⟨r13, u13, hc13, hf⟩ := obind_s hf
                  refine g_doI0 hG (g_runV C0 hG (k_X8_ash l D base Z u r13 u13 hc13) m_X8_ash v_X8_ash w_1266 (by decide) (g_recv C0 hG (L82 hG) rfl) rfl hl.1 rfl (Nat.le_of_ble_eq_true rfl) dX8_told_121 ⟨Nat.zero_le _, Nat.zero_le _⟩) (fun H locs hG hk => ?_)
                  obtain ⟨hr1, hu⟩ := gret_s hf
                  subst hr1
                  subst hu
                  subst hQ
                  exact g_iret C0 hG hr dX8_told_124
                · have hf := gif_f c12 hf
                  refine lv_tableOut (tgt := 125) hx hb dX8_told_66 (by
                      have n0 := lv_neT c7 (k := (0 : Int32)) (a := 0) (by decide)
                      have n1 := lv_neT c8 (k := (1 : Int32)) (a := 1) (by decide)
                      have n2 := lv_neT c10 (k := (2 : Int32)) (a := 2) (by decide)
                      have n3 := lv_neT c11 (k := (3 : Int32)) (a := 3) (by decide)
                      have n4 := lv_neT c12 (k := (4 : Int32)) (a := 4) (by decide)
                      omega) (by decide) ?_
                  refine lv_iconst (v := (-1 : Int32)) hx hb dX8_told_125 (by decide) ?_
                  obtain ⟨hr1, hu⟩ := gret_s hf
                  subst hr1
                  subst hu
                  subst hQ
                  exact g_iret C0 hG hr dX8_told_126
      · have hf := gif_f c6 hf
        refine lv_aload_n hx hb dX8_told_56 rfl (lv_at hl 0 rfl) ?_
        refine lv_iload_n hx hb dX8_told_57 rfl (lv_at hl 1 rfl) ?_
        refine lv_bipush (v := (30 : Int32)) hx hb dX8_told_58 (by decide) ?_
        refine lv_isub hx hb dX8_told_60 ?_
        obtain ⟨r14, hc14, hf⟩ := pb_s hf
        refine g_doI0 hG (g_runV C0 hG (k_X8_spread l D base Z u (p1 - (30 : Int32)) r14 hc14) m_X8_spread v_X8_spread w_1262 (by decide) (g_recv C0 hG (L82 hG) rfl) rfl hl.1 rfl (Nat.le_of_ble_eq_true rfl) dX8_told_61 ⟨Nat.zero_le _, Nat.zero_le _⟩) (fun H locs hG hk => ?_)
        obtain ⟨hr1, hu⟩ := gret_s hf
        subst hr1
        subst hu
        subst hQ
        exact g_iret C0 hG hr dX8_told_64
    · have hf := gif_f c4 hf
      refine lv_aload_n hx hb dX8_told_34 rfl (lv_at hl 0 rfl) ?_
      refine g_getSa (o := 6) (a := 88) C0 hG (L82 hG) rfl 10 (by decide) rfl rfl w_856 dX8_told_35 ?_
      refine lv_iload_n hx hb dX8_told_38 rfl (lv_at hl 1 rfl) ?_
      refine lv_bipush (v := (20 : Int32)) hx hb dX8_told_39 (by decide) ?_
      refine lv_isub hx hb dX8_told_41 ?_
      obtain ⟨h15, hf⟩ := gin_s hf
      refine g_iald C0 hG (L88 hG) h15 dX8_told_42 ?_
      obtain ⟨hr1, hu⟩ := gret_s hf
      subst hr1
      subst hu
      subst hQ
      exact g_iret C0 hG hr dX8_told_43
  · have hf := gif_f c2 hf
    refine lv_aload_n hx hb dX8_told_12 rfl (lv_at hl 0 rfl) ?_
    refine g_getSa (o := 7) (a := 89) C0 hG (L82 hG) rfl 11 (by decide) rfl rfl w_857 dX8_told_13 ?_
    refine lv_iload_n hx hb dX8_told_16 rfl (lv_at hl 1 rfl) ?_
    refine lv_bipush (v := (10 : Int32)) hx hb dX8_told_17 (by decide) ?_
    refine lv_isub hx hb dX8_told_19 ?_
    obtain ⟨h16, hf⟩ := gin_s hf
    refine g_iald C0 hG (L89 hG) h16 dX8_told_20 ?_
    obtain ⟨hr1, hu⟩ := gret_s hf
    subst hr1
    subst hu
    subst hQ
    exact g_iret C0 hG hr dX8_told_21
theorem dX8_on_0 : decode cX8_on 0 = .ok (.aload_n 0, 1) := by decide +kernel
theorem dX8_on_1 : decode cX8_on 1 = .ok (.iload_n 2, 1) := by decide +kernel
theorem dX8_on_2 : decode cX8_on 2 = .ok (.iconst 0, 1) := by decide +kernel
theorem dX8_on_3 : decode cX8_on 3 = .ok (.iconst 1, 1) := by decide +kernel
theorem dX8_on_4 : decode cX8_on 4 = .ok (.invokevirtual 249, 3) := by decide +kernel
theorem dX8_on_7 : decode cX8_on 7 = .ok (.ifCond .ne 34, 3) := by decide +kernel
theorem dX8_on_10 : decode cX8_on 10 = .ok (.aload_n 0, 1) := by decide +kernel
theorem dX8_on_11 : decode cX8_on 11 = .ok (.iload_n 2, 1) := by decide +kernel
theorem dX8_on_12 : decode cX8_on 12 = .ok (.bipush 10, 2) := by decide +kernel
theorem dX8_on_14 : decode cX8_on 14 = .ok (.bipush 9, 2) := by decide +kernel
theorem dX8_on_16 : decode cX8_on 16 = .ok (.aload_n 0, 1) := by decide +kernel
theorem dX8_on_17 : decode cX8_on 17 = .ok (.getfield 7, 3) := by decide +kernel
theorem dX8_on_20 : decode cX8_on 20 = .ok (.iadd, 1) := by decide +kernel
theorem dX8_on_21 : decode cX8_on 21 = .ok (.invokevirtual 249, 3) := by decide +kernel
theorem dX8_on_24 : decode cX8_on 24 = .ok (.ifCond .ne 17, 3) := by decide +kernel
theorem dX8_on_27 : decode cX8_on 27 = .ok (.aload_n 0, 1) := by decide +kernel
theorem dX8_on_28 : decode cX8_on 28 = .ok (.iload_n 2, 1) := by decide +kernel
theorem dX8_on_29 : decode cX8_on 29 = .ok (.bipush 20, 2) := by decide +kernel
theorem dX8_on_31 : decode cX8_on 31 = .ok (.bipush 27, 2) := by decide +kernel
theorem dX8_on_33 : decode cX8_on 33 = .ok (.invokevirtual 249, 3) := by decide +kernel
theorem dX8_on_36 : decode cX8_on 36 = .ok (.ifCond .ne 5, 3) := by decide +kernel
theorem dX8_on_39 : decode cX8_on 39 = .ok (.iconst (-1), 1) := by decide +kernel
theorem dX8_on_40 : decode cX8_on 40 = .ok (.ireturn, 1) := by decide +kernel
theorem dX8_on_41 : decode cX8_on 41 = .ok (.aload_n 0, 1) := by decide +kernel
theorem dX8_on_42 : decode cX8_on 42 = .ok (.iload_n 1, 1) := by decide +kernel
theorem dX8_on_43 : decode cX8_on 43 = .ok (.invokevirtual 355, 3) := by decide +kernel
theorem dX8_on_46 : decode cX8_on 46 = .ok (.ifCond .ne 6, 3) := by decide +kernel
theorem dX8_on_49 : decode cX8_on 49 = .ok (.bipush (-2), 2) := by decide +kernel
theorem dX8_on_51 : decode cX8_on 51 = .ok (.ireturn, 1) := by decide +kernel
theorem dX8_on_52 : decode cX8_on 52 = .ok (.aload_n 0, 1) := by decide +kernel
theorem dX8_on_53 : decode cX8_on 53 = .ok (.invokevirtual 367, 3) := by decide +kernel
theorem dX8_on_56 : decode cX8_on 56 = .ok (.aload_n 0, 1) := by decide +kernel
theorem dX8_on_57 : decode cX8_on 57 = .ok (.iload_n 1, 1) := by decide +kernel
theorem dX8_on_58 : decode cX8_on 58 = .ok (.invokevirtual 358, 3) := by decide +kernel
theorem dX8_on_61 : decode cX8_on 61 = .ok (.iload_n 2, 1) := by decide +kernel
theorem dX8_on_62 : decode cX8_on 62 = .ok (.ifCond .ne 10, 3) := by decide +kernel
theorem dX8_on_65 : decode cX8_on 65 = .ok (.aload_n 0, 1) := by decide +kernel
theorem dX8_on_66 : decode cX8_on 66 = .ok (.getfield 16, 3) := by decide +kernel
theorem dX8_on_69 : decode cX8_on 69 = .ok (.goto 42, 3) := by decide +kernel
theorem dX8_on_72 : decode cX8_on 72 = .ok (.iload_n 2, 1) := by decide +kernel
theorem dX8_on_73 : decode cX8_on 73 = .ok (.iconst 1, 1) := by decide +kernel
theorem dX8_on_74 : decode cX8_on 74 = .ok (.if_icmp .ne 10, 3) := by decide +kernel
theorem dX8_on_77 : decode cX8_on 77 = .ok (.aload_n 0, 1) := by decide +kernel
theorem dX8_on_78 : decode cX8_on 78 = .ok (.getfield 19, 3) := by decide +kernel
theorem dX8_on_81 : decode cX8_on 81 = .ok (.goto 30, 3) := by decide +kernel
theorem dX8_on_84 : decode cX8_on 84 = .ok (.iload_n 2, 1) := by decide +kernel
theorem dX8_on_85 : decode cX8_on 85 = .ok (.bipush 20, 2) := by decide +kernel
theorem dX8_on_87 : decode cX8_on 87 = .ok (.if_icmp .ge 15, 3) := by decide +kernel
theorem dX8_on_90 : decode cX8_on 90 = .ok (.aload_n 0, 1) := by decide +kernel
theorem dX8_on_91 : decode cX8_on 91 = .ok (.getfield 35, 3) := by decide +kernel
theorem dX8_on_94 : decode cX8_on 94 = .ok (.iload_n 2, 1) := by decide +kernel
theorem dX8_on_95 : decode cX8_on 95 = .ok (.bipush 10, 2) := by decide +kernel
theorem dX8_on_97 : decode cX8_on 97 = .ok (.isub, 1) := by decide +kernel
theorem dX8_on_98 : decode cX8_on 98 = .ok (.iaload, 1) := by decide +kernel
theorem dX8_on_99 : decode cX8_on 99 = .ok (.goto 12, 3) := by decide +kernel
theorem dX8_on_102 : decode cX8_on 102 = .ok (.aload_n 0, 1) := by decide +kernel
theorem dX8_on_103 : decode cX8_on 103 = .ok (.getfield 41, 3) := by decide +kernel
theorem dX8_on_106 : decode cX8_on 106 = .ok (.iload_n 2, 1) := by decide +kernel
theorem dX8_on_107 : decode cX8_on 107 = .ok (.bipush 20, 2) := by decide +kernel
theorem dX8_on_109 : decode cX8_on 109 = .ok (.isub, 1) := by decide +kernel
theorem dX8_on_110 : decode cX8_on 110 = .ok (.iaload, 1) := by decide +kernel
theorem dX8_on_111 : decode cX8_on 111 = .ok (.istore_n 3, 1) := by decide +kernel
theorem dX8_on_112 : decode cX8_on 112 = .ok (.aload_n 0, 1) := by decide +kernel
theorem dX8_on_113 : decode cX8_on 113 = .ok (.invokevirtual 370, 3) := by decide +kernel
theorem dX8_on_116 : decode cX8_on 116 = .ok (.iload_n 3, 1) := by decide +kernel
theorem dX8_on_117 : decode cX8_on 117 = .ok (.ireturn, 1) := by decide +kernel
def f_X8_on (p1 : Int32) (p2 : Int32) (u : Mem) : Option (Int32 × Mem) := Option.bind (f_X8_in p2 (0 : Int32) (1 : Int32)) (fun r1 => (if r1 = 0 then Option.bind (f_X8_in p2 (10 : Int32) ((9 : Int32) + (gI u 82 0))) (fun r16 => (if r16 = 0 then Option.bind (f_X8_in p2 (20 : Int32) (27 : Int32)) (fun r31 => (if r31 = 0 then some ((-1 : Int32), u) else Option.bind (f_X8_isMinutes p1) (fun r33 => (if r33 = 0 then some ((-2 : Int32), u) else obind (f_X8_save u) (fun _ u35 => obind (f_X8_goMinutes p1 u35) (fun _ u36 => (if p2 = 0 then obind (f_X8_putBack u36) (fun _ u45 => some (gI u36 82 2, u45)) else (if p2 = (1 : Int32) then obind (f_X8_putBack u36) (fun _ u44 => some (gI u36 82 3, u44)) else (if (20 : Int32) ≤ p2 then gin (p2 - (20 : Int32)) 8 (obind (f_X8_putBack u36) (fun _ u41 => some (gA u36 88 (p2 - (20 : Int32)).toNatClampNeg, u41))) else gin (p2 - (10 : Int32)) 6 (obind (f_X8_putBack u36) (fun _ u43 => some (gA u36 86 (p2 - (10 : Int32)).toNatClampNeg, u43)))))))))))) else Option.bind (f_X8_isMinutes p1) (fun r18 => (if r18 = 0 then some ((-2 : Int32), u) else obind (f_X8_save u) (fun _ u20 => obind (f_X8_goMinutes p1 u20) (fun _ u21 => (if p2 = 0 then obind (f_X8_putBack u21) (fun _ u30 => some (gI u21 82 2, u30)) else (if p2 = (1 : Int32) then obind (f_X8_putBack u21) (fun _ u29 => some (gI u21 82 3, u29)) else (if (20 : Int32) ≤ p2 then gin (p2 - (20 : Int32)) 8 (obind (f_X8_putBack u21) (fun _ u26 => some (gA u21 88 (p2 - (20 : Int32)).toNatClampNeg, u26))) else gin (p2 - (10 : Int32)) 6 (obind (f_X8_putBack u21) (fun _ u28 => some (gA u21 86 (p2 - (10 : Int32)).toNatClampNeg, u28)))))))))))) else Option.bind (f_X8_isMinutes p1) (fun r3 => (if r3 = 0 then some ((-2 : Int32), u) else obind (f_X8_save u) (fun _ u5 => obind (f_X8_goMinutes p1 u5) (fun _ u6 => (if p2 = 0 then obind (f_X8_putBack u6) (fun _ u15 => some (gI u6 82 2, u15)) else (if p2 = (1 : Int32) then obind (f_X8_putBack u6) (fun _ u14 => some (gI u6 82 3, u14)) else (if (20 : Int32) ≤ p2 then gin (p2 - (20 : Int32)) 8 (obind (f_X8_putBack u6) (fun _ u11 => some (gA u6 88 (p2 - (20 : Int32)).toNatClampNeg, u11))) else gin (p2 - (10 : Int32)) 6 (obind (f_X8_putBack u6) (fun _ u13 => some (gA u6 86 (p2 - (10 : Int32)).toNatClampNeg, u13))))))))))))
set_option maxHeartbeats 4000000 in
set_option maxRecDepth 100000 in
theorem k_X8_on (l : Launch) (D : gDt) (base : Nat) (Z : gZt) (u : Mem) (p1 : Int32) (p2 : Int32) (r : Int32) (u' : Mem) (hf : f_X8_on p1 p2 u = some (r, u')) : Met l yX8_on (gws yX8_on cX8_on 4 (some .int)) (gRm 8 0 0) (gPc D base Z u [.ref (base + 82), .int p1, .int p2]) (gQi D base r u') 0 0 (gF base) := by
  refine Met.ofW (cc := cX8_on) (maxL := 4) (ret := some .int) (by decide) rfl ?_
  intro p e s m args below meth c s₁ B hml hv
  obtain ⟨rfl, C0, hG⟩ := g_enter B hml hv
  have hr := B.returns
  have C0 : gC p s m meth c _ cX8_on 4 RX8 D base Z := C0
  have hx := C0.1
  have hb := C0.2.1
  have hl := lv_entry ([.ref (base + 82), .int p1, .int p2]) (n := 4) (Nat.le_of_ble_eq_true rfl)
  rw [lg_entry_eq]
  generalize (lg_sl ([.ref (base + 82), .int p1, .int p2]) ++ List.replicate (4 - (lg_sl ([.ref (base + 82), .int p1, .int p2])).length) Slot.unset).toArray = ls at hl ⊢
  have hl : lv_has ls 4 [(0, .ref (base + 82)), (1, .int p1), (2, .int p2)] := hl
  obtain ⟨Q, hQ⟩ : ∃ Q, Q = MQ below (gQi D base r u') ([.ref (base + 82), .int p1, .int p2] : List Value).toArray s 0 0 (gF base) := ⟨_, rfl⟩
  rw [← hQ]
  change W p l e (gRm 8 0 0) s m _ below meth c _ _ _ _ _ _
  unfold f_X8_on at hf
  refine lv_aload_n hx hb dX8_on_0 rfl (lv_at hl 0 rfl) ?_
  refine lv_iload_n hx hb dX8_on_1 rfl (lv_at hl 2 rfl) ?_
  refine lv_iconst (v := (0 : Int32)) hx hb dX8_on_2 (by decide) ?_
  refine lv_iconst (v := (1 : Int32)) hx hb dX8_on_3 (by decide) ?_
  obtain ⟨r1, hc1, hf⟩ := pb_s hf
  refine g_doI0 hG (g_runV C0 hG (k_X8_in l D base Z u p2 (0 : Int32) (1 : Int32) r1 hc1) m_X8_in v_X8_in w_1082 (by decide) (g_recv C0 hG (L82 hG) rfl) rfl hl.1 rfl (Nat.le_of_ble_eq_true rfl) dX8_on_4 ⟨Nat.zero_le _, Nat.zero_le _⟩) (fun H locs hG hk => ?_)
  refine lv_if_ne (tgt := 41) hx hb dX8_on_7 (by decide) (fun c2 => ?_) (fun c2 => ?_)
  · have hf := gif_f c2 hf
    refine lv_aload_n hx hb dX8_on_41 rfl (lv_at hl 0 rfl) ?_
    refine lv_iload_n hx hb dX8_on_42 rfl (lv_at hl 1 rfl) ?_
    obtain ⟨r3, hc3, hf⟩ := pb_s hf
    refine g_doI0 hG (g_runV C0 hG (k_X8_isMinutes l D base Z u p1 r3 hc3) m_X8_isMinutes v_X8_isMinutes w_1234 (by decide) (g_recv C0 hG (L82 hG) rfl) rfl hl.1 rfl (Nat.le_of_ble_eq_true rfl) dX8_on_43 ⟨Nat.zero_le _, Nat.zero_le _⟩) (fun H locs hG hk => ?_)
    refine lv_if_ne (tgt := 52) hx hb dX8_on_46 (by decide) (fun c4 => ?_) (fun c4 => ?_)
    · have hf := gif_f c4 hf
      refine lv_aload_n hx hb dX8_on_52 rfl (lv_at hl 0 rfl) ?_
      obtain ⟨_, u5, hc5, hf⟩ := obind_s hf
      refine g_doV0 hG (g_runV C0 hG (k_X8_save l D base Z u u5 hc5) m_X8_save v_X8_save w_1274 (by decide) (g_recv C0 hG (L82 hG) rfl) rfl hl.1 rfl (Nat.le_of_ble_eq_true rfl) dX8_on_53 ⟨Nat.zero_le _, Nat.zero_le _⟩) (fun H locs hG hk => ?_)
      refine lv_aload_n hx hb dX8_on_56 rfl (lv_at hl 0 rfl) ?_
      refine lv_iload_n hx hb dX8_on_57 rfl (lv_at hl 1 rfl) ?_
      obtain ⟨_, u6, hc6, hf⟩ := obind_s hf
      refine g_doV0 hG (g_runV C0 hG (k_X8_goMinutes l D base Z u5 p1 u6 hc6) m_X8_goMinutes v_X8_goMinutes w_1238 (by decide) (g_recv C0 hG (L82 hG) rfl) rfl hl.1 rfl (Nat.le_of_ble_eq_true rfl) dX8_on_58 ⟨Nat.zero_le _, Nat.zero_le _⟩) (fun H locs hG hk => ?_)
      refine lv_iload_n hx hb dX8_on_61 rfl (lv_at hl 2 rfl) ?_
      refine lv_if_ne (tgt := 72) hx hb dX8_on_62 (by decide) (fun c7 => ?_) (fun c7 => ?_)
      · have hf := gif_f c7 hf
        refine lv_iload_n hx hb dX8_on_72 rfl (lv_at hl 2 rfl) ?_
        refine lv_iconst (v := (1 : Int32)) hx hb dX8_on_73 (by decide) ?_
        refine lv_icmp_ne (tgt := 84) hx hb dX8_on_74 (by decide) (fun c8 => ?_) (fun c8 => ?_)
        · have hf := gif_f c8 hf
          refine lv_iload_n hx hb dX8_on_84 rfl (lv_at hl 2 rfl) ?_
          refine lv_bipush (v := (20 : Int32)) hx hb dX8_on_85 (by decide) ?_
          refine lv_icmp_ge (tgt := 102) hx hb dX8_on_87 (by decide) (fun c9 => ?_) (fun c9 => ?_)
          · have hf := gif_t c9 hf
            refine lv_aload_n hx hb dX8_on_102 rfl (lv_at hl 0 rfl) ?_
            refine g_getSa (o := 6) (a := 88) C0 hG (L82 hG) rfl 10 (by decide) rfl rfl w_856 dX8_on_103 ?_
            refine lv_iload_n hx hb dX8_on_106 rfl (lv_at hl 2 rfl) ?_
            refine lv_bipush (v := (20 : Int32)) hx hb dX8_on_107 (by decide) ?_
            refine lv_isub hx hb dX8_on_109 ?_
            obtain ⟨h10, hf⟩ := gin_s hf
            refine g_iald C0 hG (L88 hG) h10 dX8_on_110 ?_
            refine lv_istore_n (lv' := [(3, .int (gA u6 88 (p2 - (20 : Int32)).toNatClampNeg)), (0, .ref (base + 82)), (1, .int p1), (2, .int p2)]) hx hb dX8_on_111 rfl hl (by decide) rfl (fun ls hl => ?_)
            refine lv_aload_n hx hb dX8_on_112 rfl (lv_at hl 1 rfl) ?_
            obtain ⟨_, u11, hc11, hf⟩ := obind_s hf
            refine g_doV0 hG (g_runV C0 hG (k_X8_putBack l D base Z u6 u11 hc11) m_X8_putBack v_X8_putBack w_1278 (by decide) (g_recv C0 hG (L82 hG) rfl) rfl hl.1 rfl (Nat.le_of_ble_eq_true rfl) dX8_on_113 ⟨Nat.zero_le _, Nat.zero_le _⟩) (fun H locs hG hk => ?_)
            refine lv_iload_n hx hb dX8_on_116 rfl (lv_at hl 0 rfl) ?_
            obtain ⟨hr1, hu⟩ := gret_s hf
            subst hr1
            subst hu
            subst hQ
            exact g_iret C0 hG hr dX8_on_117
          · have hf := gif_f c9 hf
            refine lv_aload_n hx hb dX8_on_90 rfl (lv_at hl 0 rfl) ?_
            refine g_getSa (o := 4) (a := 86) C0 hG (L82 hG) rfl 8 (by decide) rfl rfl w_854 dX8_on_91 ?_
            refine lv_iload_n hx hb dX8_on_94 rfl (lv_at hl 2 rfl) ?_
            refine lv_bipush (v := (10 : Int32)) hx hb dX8_on_95 (by decide) ?_
            refine lv_isub hx hb dX8_on_97 ?_
            obtain ⟨h12, hf⟩ := gin_s hf
            refine g_iald C0 hG (L86 hG) h12 dX8_on_98 ?_
            refine lv_goto (tgt := 111) hx hb dX8_on_99 (by decide) ?_
            refine lv_istore_n (lv' := [(3, .int (gA u6 86 (p2 - (10 : Int32)).toNatClampNeg)), (0, .ref (base + 82)), (1, .int p1), (2, .int p2)]) hx hb dX8_on_111 rfl hl (by decide) rfl (fun ls hl => ?_)
            refine lv_aload_n hx hb dX8_on_112 rfl (lv_at hl 1 rfl) ?_
            obtain ⟨_, u13, hc13, hf⟩ := obind_s hf
            refine g_doV0 hG (g_runV C0 hG (k_X8_putBack l D base Z u6 u13 hc13) m_X8_putBack v_X8_putBack w_1278 (by decide) (g_recv C0 hG (L82 hG) rfl) rfl hl.1 rfl (Nat.le_of_ble_eq_true rfl) dX8_on_113 ⟨Nat.zero_le _, Nat.zero_le _⟩) (fun H locs hG hk => ?_)
            refine lv_iload_n hx hb dX8_on_116 rfl (lv_at hl 0 rfl) ?_
            obtain ⟨hr1, hu⟩ := gret_s hf
            subst hr1
            subst hu
            subst hQ
            exact g_iret C0 hG hr dX8_on_117
        · have hf := gif_t c8 hf
          refine lv_aload_n hx hb dX8_on_77 rfl (lv_at hl 0 rfl) ?_
          refine g_getI C0 hG (L82 hG) rfl 3 (by decide) rfl w_849 dX8_on_78 ?_
          refine lv_goto (tgt := 111) hx hb dX8_on_81 (by decide) ?_
          refine lv_istore_n (lv' := [(3, .int (gI u6 82 3)), (0, .ref (base + 82)), (1, .int p1), (2, .int p2)]) hx hb dX8_on_111 rfl hl (by decide) rfl (fun ls hl => ?_)
          refine lv_aload_n hx hb dX8_on_112 rfl (lv_at hl 1 rfl) ?_
          obtain ⟨_, u14, hc14, hf⟩ := obind_s hf
          refine g_doV0 hG (g_runV C0 hG (k_X8_putBack l D base Z u6 u14 hc14) m_X8_putBack v_X8_putBack w_1278 (by decide) (g_recv C0 hG (L82 hG) rfl) rfl hl.1 rfl (Nat.le_of_ble_eq_true rfl) dX8_on_113 ⟨Nat.zero_le _, Nat.zero_le _⟩) (fun H locs hG hk => ?_)
          refine lv_iload_n hx hb dX8_on_116 rfl (lv_at hl 0 rfl) ?_
          obtain ⟨hr1, hu⟩ := gret_s hf
          subst hr1
          subst hu
          subst hQ
          exact g_iret C0 hG hr dX8_on_117
      · have hf := gif_t c7 hf
        refine lv_aload_n hx hb dX8_on_65 rfl (lv_at hl 0 rfl) ?_
        refine g_getI C0 hG (L82 hG) rfl 2 (by decide) rfl w_848 dX8_on_66 ?_
        refine lv_goto (tgt := 111) hx hb dX8_on_69 (by decide) ?_
        refine lv_istore_n (lv' := [(3, .int (gI u6 82 2)), (0, .ref (base + 82)), (1, .int p1), (2, .int p2)]) hx hb dX8_on_111 rfl hl (by decide) rfl (fun ls hl => ?_)
        refine lv_aload_n hx hb dX8_on_112 rfl (lv_at hl 1 rfl) ?_
        obtain ⟨_, u15, hc15, hf⟩ := obind_s hf
        refine g_doV0 hG (g_runV C0 hG (k_X8_putBack l D base Z u6 u15 hc15) m_X8_putBack v_X8_putBack w_1278 (by decide) (g_recv C0 hG (L82 hG) rfl) rfl hl.1 rfl (Nat.le_of_ble_eq_true rfl) dX8_on_113 ⟨Nat.zero_le _, Nat.zero_le _⟩) (fun H locs hG hk => ?_)
        refine lv_iload_n hx hb dX8_on_116 rfl (lv_at hl 0 rfl) ?_
        obtain ⟨hr1, hu⟩ := gret_s hf
        subst hr1
        subst hu
        subst hQ
        exact g_iret C0 hG hr dX8_on_117
    · have hf := gif_t c4 hf
      refine lv_bipush (v := (-2 : Int32)) hx hb dX8_on_49 (by decide) ?_
      obtain ⟨hr1, hu⟩ := gret_s hf
      subst hr1
      subst hu
      subst hQ
      exact g_iret C0 hG hr dX8_on_51
  · have hf := gif_t c2 hf
    refine lv_aload_n hx hb dX8_on_10 rfl (lv_at hl 0 rfl) ?_
    refine lv_iload_n hx hb dX8_on_11 rfl (lv_at hl 2 rfl) ?_
    refine lv_bipush (v := (10 : Int32)) hx hb dX8_on_12 (by decide) ?_
    refine lv_bipush (v := (9 : Int32)) hx hb dX8_on_14 (by decide) ?_
    refine lv_aload_n hx hb dX8_on_16 rfl (lv_at hl 0 rfl) ?_
    refine g_getI C0 hG (L82 hG) rfl 0 (by decide) rfl w_846 dX8_on_17 ?_
    refine lv_iadd hx hb dX8_on_20 ?_
    obtain ⟨r16, hc16, hf⟩ := pb_s hf
    refine g_doI0 hG (g_runV C0 hG (k_X8_in l D base Z u p2 (10 : Int32) ((9 : Int32) + (gI u 82 0)) r16 hc16) m_X8_in v_X8_in w_1082 (by decide) (g_recv C0 hG (L82 hG) rfl) rfl hl.1 rfl (Nat.le_of_ble_eq_true rfl) dX8_on_21 ⟨Nat.zero_le _, Nat.zero_le _⟩) (fun H locs hG hk => ?_)
    refine lv_if_ne (tgt := 41) hx hb dX8_on_24 (by decide) (fun c17 => ?_) (fun c17 => ?_)
    · have hf := gif_f c17 hf
      refine lv_aload_n hx hb dX8_on_41 rfl (lv_at hl 0 rfl) ?_
      refine lv_iload_n hx hb dX8_on_42 rfl (lv_at hl 1 rfl) ?_
      obtain ⟨r18, hc18, hf⟩ := pb_s hf
      refine g_doI0 hG (g_runV C0 hG (k_X8_isMinutes l D base Z u p1 r18 hc18) m_X8_isMinutes v_X8_isMinutes w_1234 (by decide) (g_recv C0 hG (L82 hG) rfl) rfl hl.1 rfl (Nat.le_of_ble_eq_true rfl) dX8_on_43 ⟨Nat.zero_le _, Nat.zero_le _⟩) (fun H locs hG hk => ?_)
      refine lv_if_ne (tgt := 52) hx hb dX8_on_46 (by decide) (fun c19 => ?_) (fun c19 => ?_)
      · have hf := gif_f c19 hf
        refine lv_aload_n hx hb dX8_on_52 rfl (lv_at hl 0 rfl) ?_
        obtain ⟨_, u20, hc20, hf⟩ := obind_s hf
        refine g_doV0 hG (g_runV C0 hG (k_X8_save l D base Z u u20 hc20) m_X8_save v_X8_save w_1274 (by decide) (g_recv C0 hG (L82 hG) rfl) rfl hl.1 rfl (Nat.le_of_ble_eq_true rfl) dX8_on_53 ⟨Nat.zero_le _, Nat.zero_le _⟩) (fun H locs hG hk => ?_)
        refine lv_aload_n hx hb dX8_on_56 rfl (lv_at hl 0 rfl) ?_
        refine lv_iload_n hx hb dX8_on_57 rfl (lv_at hl 1 rfl) ?_
        obtain ⟨_, u21, hc21, hf⟩ := obind_s hf
        refine g_doV0 hG (g_runV C0 hG (k_X8_goMinutes l D base Z u20 p1 u21 hc21) m_X8_goMinutes v_X8_goMinutes w_1238 (by decide) (g_recv C0 hG (L82 hG) rfl) rfl hl.1 rfl (Nat.le_of_ble_eq_true rfl) dX8_on_58 ⟨Nat.zero_le _, Nat.zero_le _⟩) (fun H locs hG hk => ?_)
        refine lv_iload_n hx hb dX8_on_61 rfl (lv_at hl 2 rfl) ?_
        refine lv_if_ne (tgt := 72) hx hb dX8_on_62 (by decide) (fun c22 => ?_) (fun c22 => ?_)
        · have hf := gif_f c22 hf
          refine lv_iload_n hx hb dX8_on_72 rfl (lv_at hl 2 rfl) ?_
          refine lv_iconst (v := (1 : Int32)) hx hb dX8_on_73 (by decide) ?_
          refine lv_icmp_ne (tgt := 84) hx hb dX8_on_74 (by decide) (fun c23 => ?_) (fun c23 => ?_)
          · have hf := gif_f c23 hf
            refine lv_iload_n hx hb dX8_on_84 rfl (lv_at hl 2 rfl) ?_
            refine lv_bipush (v := (20 : Int32)) hx hb dX8_on_85 (by decide) ?_
            refine lv_icmp_ge (tgt := 102) hx hb dX8_on_87 (by decide) (fun c24 => ?_) (fun c24 => ?_)
            · have hf := gif_t c24 hf
              refine lv_aload_n hx hb dX8_on_102 rfl (lv_at hl 0 rfl) ?_
              refine g_getSa (o := 6) (a := 88) C0 hG (L82 hG) rfl 10 (by decide) rfl rfl w_856 dX8_on_103 ?_
              refine lv_iload_n hx hb dX8_on_106 rfl (lv_at hl 2 rfl) ?_
              refine lv_bipush (v := (20 : Int32)) hx hb dX8_on_107 (by decide) ?_
              refine lv_isub hx hb dX8_on_109 ?_
              obtain ⟨h25, hf⟩ := gin_s hf
              refine g_iald C0 hG (L88 hG) h25 dX8_on_110 ?_
              refine lv_istore_n (lv' := [(3, .int (gA u21 88 (p2 - (20 : Int32)).toNatClampNeg)), (0, .ref (base + 82)), (1, .int p1), (2, .int p2)]) hx hb dX8_on_111 rfl hl (by decide) rfl (fun ls hl => ?_)
              refine lv_aload_n hx hb dX8_on_112 rfl (lv_at hl 1 rfl) ?_
              obtain ⟨_, u26, hc26, hf⟩ := obind_s hf
              refine g_doV0 hG (g_runV C0 hG (k_X8_putBack l D base Z u21 u26 hc26) m_X8_putBack v_X8_putBack w_1278 (by decide) (g_recv C0 hG (L82 hG) rfl) rfl hl.1 rfl (Nat.le_of_ble_eq_true rfl) dX8_on_113 ⟨Nat.zero_le _, Nat.zero_le _⟩) (fun H locs hG hk => ?_)
              refine lv_iload_n hx hb dX8_on_116 rfl (lv_at hl 0 rfl) ?_
              obtain ⟨hr1, hu⟩ := gret_s hf
              subst hr1
              subst hu
              subst hQ
              exact g_iret C0 hG hr dX8_on_117
            · have hf := gif_f c24 hf
              refine lv_aload_n hx hb dX8_on_90 rfl (lv_at hl 0 rfl) ?_
              refine g_getSa (o := 4) (a := 86) C0 hG (L82 hG) rfl 8 (by decide) rfl rfl w_854 dX8_on_91 ?_
              refine lv_iload_n hx hb dX8_on_94 rfl (lv_at hl 2 rfl) ?_
              refine lv_bipush (v := (10 : Int32)) hx hb dX8_on_95 (by decide) ?_
              refine lv_isub hx hb dX8_on_97 ?_
              obtain ⟨h27, hf⟩ := gin_s hf
              refine g_iald C0 hG (L86 hG) h27 dX8_on_98 ?_
              refine lv_goto (tgt := 111) hx hb dX8_on_99 (by decide) ?_
              refine lv_istore_n (lv' := [(3, .int (gA u21 86 (p2 - (10 : Int32)).toNatClampNeg)), (0, .ref (base + 82)), (1, .int p1), (2, .int p2)]) hx hb dX8_on_111 rfl hl (by decide) rfl (fun ls hl => ?_)
              refine lv_aload_n hx hb dX8_on_112 rfl (lv_at hl 1 rfl) ?_
              obtain ⟨_, u28, hc28, hf⟩ := obind_s hf
              refine g_doV0 hG (g_runV C0 hG (k_X8_putBack l D base Z u21 u28 hc28) m_X8_putBack v_X8_putBack w_1278 (by decide) (g_recv C0 hG (L82 hG) rfl) rfl hl.1 rfl (Nat.le_of_ble_eq_true rfl) dX8_on_113 ⟨Nat.zero_le _, Nat.zero_le _⟩) (fun H locs hG hk => ?_)
              refine lv_iload_n hx hb dX8_on_116 rfl (lv_at hl 0 rfl) ?_
              obtain ⟨hr1, hu⟩ := gret_s hf
              subst hr1
              subst hu
              subst hQ
              exact g_iret C0 hG hr dX8_on_117
          · have hf := gif_t c23 hf
            refine lv_aload_n hx hb dX8_on_77 rfl (lv_at hl 0 rfl) ?_
            refine g_getI C0 hG (L82 hG) rfl 3 (by decide) rfl w_849 dX8_on_78 ?_
            refine lv_goto (tgt := 111) hx hb dX8_on_81 (by decide) ?_
            refine lv_istore_n (lv' := [(3, .int (gI u21 82 3)), (0, .ref (base + 82)), (1, .int p1), (2, .int p2)]) hx hb dX8_on_111 rfl hl (by decide) rfl (fun ls hl => ?_)
            refine lv_aload_n hx hb dX8_on_112 rfl (lv_at hl 1 rfl) ?_
            obtain ⟨_, u29, hc29, hf⟩ := obind_s hf
            refine g_doV0 hG (g_runV C0 hG (k_X8_putBack l D base Z u21 u29 hc29) m_X8_putBack v_X8_putBack w_1278 (by decide) (g_recv C0 hG (L82 hG) rfl) rfl hl.1 rfl (Nat.le_of_ble_eq_true rfl) dX8_on_113 ⟨Nat.zero_le _, Nat.zero_le _⟩) (fun H locs hG hk => ?_)
            refine lv_iload_n hx hb dX8_on_116 rfl (lv_at hl 0 rfl) ?_
            obtain ⟨hr1, hu⟩ := gret_s hf
            subst hr1
            subst hu
            subst hQ
            exact g_iret C0 hG hr dX8_on_117
        · have hf := gif_t c22 hf
          refine lv_aload_n hx hb dX8_on_65 rfl (lv_at hl 0 rfl) ?_
          refine g_getI C0 hG (L82 hG) rfl 2 (by decide) rfl w_848 dX8_on_66 ?_
          refine lv_goto (tgt := 111) hx hb dX8_on_69 (by decide) ?_
          refine lv_istore_n (lv' := [(3, .int (gI u21 82 2)), (0, .ref (base + 82)), (1, .int p1), (2, .int p2)]) hx hb dX8_on_111 rfl hl (by decide) rfl (fun ls hl => ?_)
          refine lv_aload_n hx hb dX8_on_112 rfl (lv_at hl 1 rfl) ?_
          obtain ⟨_, u30, hc30, hf⟩ := obind_s hf
          refine g_doV0 hG (g_runV C0 hG (k_X8_putBack l D base Z u21 u30 hc30) m_X8_putBack v_X8_putBack w_1278 (by decide) (g_recv C0 hG (L82 hG) rfl) rfl hl.1 rfl (Nat.le_of_ble_eq_true rfl) dX8_on_113 ⟨Nat.zero_le _, Nat.zero_le _⟩) (fun H locs hG hk => ?_)
          refine lv_iload_n hx hb dX8_on_116 rfl (lv_at hl 0 rfl) ?_
          obtain ⟨hr1, hu⟩ := gret_s hf
          subst hr1
          subst hu
          subst hQ
          exact g_iret C0 hG hr dX8_on_117
      · have hf := gif_t c19 hf
        refine lv_bipush (v := (-2 : Int32)) hx hb dX8_on_49 (by decide) ?_
        obtain ⟨hr1, hu⟩ := gret_s hf
        subst hr1
        subst hu
        subst hQ
        exact g_iret C0 hG hr dX8_on_51
    · have hf := gif_t c17 hf
      refine lv_aload_n hx hb dX8_on_27 rfl (lv_at hl 0 rfl) ?_
      refine lv_iload_n hx hb dX8_on_28 rfl (lv_at hl 2 rfl) ?_
      refine lv_bipush (v := (20 : Int32)) hx hb dX8_on_29 (by decide) ?_
      refine lv_bipush (v := (27 : Int32)) hx hb dX8_on_31 (by decide) ?_
      obtain ⟨r31, hc31, hf⟩ := pb_s hf
      refine g_doI0 hG (g_runV C0 hG (k_X8_in l D base Z u p2 (20 : Int32) (27 : Int32) r31 hc31) m_X8_in v_X8_in w_1082 (by decide) (g_recv C0 hG (L82 hG) rfl) rfl hl.1 rfl (Nat.le_of_ble_eq_true rfl) dX8_on_33 ⟨Nat.zero_le _, Nat.zero_le _⟩) (fun H locs hG hk => ?_)
      refine lv_if_ne (tgt := 41) hx hb dX8_on_36 (by decide) (fun c32 => ?_) (fun c32 => ?_)
      · have hf := gif_f c32 hf
        refine lv_aload_n hx hb dX8_on_41 rfl (lv_at hl 0 rfl) ?_
        refine lv_iload_n hx hb dX8_on_42 rfl (lv_at hl 1 rfl) ?_
        obtain ⟨r33, hc33, hf⟩ := pb_s hf
        refine g_doI0 hG (g_runV C0 hG (k_X8_isMinutes l D base Z u p1 r33 hc33) m_X8_isMinutes v_X8_isMinutes w_1234 (by decide) (g_recv C0 hG (L82 hG) rfl) rfl hl.1 rfl (Nat.le_of_ble_eq_true rfl) dX8_on_43 ⟨Nat.zero_le _, Nat.zero_le _⟩) (fun H locs hG hk => ?_)
        refine lv_if_ne (tgt := 52) hx hb dX8_on_46 (by decide) (fun c34 => ?_) (fun c34 => ?_)
        · have hf := gif_f c34 hf
          refine lv_aload_n hx hb dX8_on_52 rfl (lv_at hl 0 rfl) ?_
          obtain ⟨_, u35, hc35, hf⟩ := obind_s hf
          refine g_doV0 hG (g_runV C0 hG (k_X8_save l D base Z u u35 hc35) m_X8_save v_X8_save w_1274 (by decide) (g_recv C0 hG (L82 hG) rfl) rfl hl.1 rfl (Nat.le_of_ble_eq_true rfl) dX8_on_53 ⟨Nat.zero_le _, Nat.zero_le _⟩) (fun H locs hG hk => ?_)
          refine lv_aload_n hx hb dX8_on_56 rfl (lv_at hl 0 rfl) ?_
          refine lv_iload_n hx hb dX8_on_57 rfl (lv_at hl 1 rfl) ?_
          obtain ⟨_, u36, hc36, hf⟩ := obind_s hf
          refine g_doV0 hG (g_runV C0 hG (k_X8_goMinutes l D base Z u35 p1 u36 hc36) m_X8_goMinutes v_X8_goMinutes w_1238 (by decide) (g_recv C0 hG (L82 hG) rfl) rfl hl.1 rfl (Nat.le_of_ble_eq_true rfl) dX8_on_58 ⟨Nat.zero_le _, Nat.zero_le _⟩) (fun H locs hG hk => ?_)
          refine lv_iload_n hx hb dX8_on_61 rfl (lv_at hl 2 rfl) ?_
          refine lv_if_ne (tgt := 72) hx hb dX8_on_62 (by decide) (fun c37 => ?_) (fun c37 => ?_)
          · have hf := gif_f c37 hf
            refine lv_iload_n hx hb dX8_on_72 rfl (lv_at hl 2 rfl) ?_
            refine lv_iconst (v := (1 : Int32)) hx hb dX8_on_73 (by decide) ?_
            refine lv_icmp_ne (tgt := 84) hx hb dX8_on_74 (by decide) (fun c38 => ?_) (fun c38 => ?_)
            · have hf := gif_f c38 hf
              refine lv_iload_n hx hb dX8_on_84 rfl (lv_at hl 2 rfl) ?_
              refine lv_bipush (v := (20 : Int32)) hx hb dX8_on_85 (by decide) ?_
              refine lv_icmp_ge (tgt := 102) hx hb dX8_on_87 (by decide) (fun c39 => ?_) (fun c39 => ?_)
              · have hf := gif_t c39 hf
                refine lv_aload_n hx hb dX8_on_102 rfl (lv_at hl 0 rfl) ?_
                refine g_getSa (o := 6) (a := 88) C0 hG (L82 hG) rfl 10 (by decide) rfl rfl w_856 dX8_on_103 ?_
                refine lv_iload_n hx hb dX8_on_106 rfl (lv_at hl 2 rfl) ?_
                refine lv_bipush (v := (20 : Int32)) hx hb dX8_on_107 (by decide) ?_
                refine lv_isub hx hb dX8_on_109 ?_
                obtain ⟨h40, hf⟩ := gin_s hf
                refine g_iald C0 hG (L88 hG) h40 dX8_on_110 ?_
                refine lv_istore_n (lv' := [(3, .int (gA u36 88 (p2 - (20 : Int32)).toNatClampNeg)), (0, .ref (base + 82)), (1, .int p1), (2, .int p2)]) hx hb dX8_on_111 rfl hl (by decide) rfl (fun ls hl => ?_)
                refine lv_aload_n hx hb dX8_on_112 rfl (lv_at hl 1 rfl) ?_
                obtain ⟨_, u41, hc41, hf⟩ := obind_s hf
                refine g_doV0 hG (g_runV C0 hG (k_X8_putBack l D base Z u36 u41 hc41) m_X8_putBack v_X8_putBack w_1278 (by decide) (g_recv C0 hG (L82 hG) rfl) rfl hl.1 rfl (Nat.le_of_ble_eq_true rfl) dX8_on_113 ⟨Nat.zero_le _, Nat.zero_le _⟩) (fun H locs hG hk => ?_)
                refine lv_iload_n hx hb dX8_on_116 rfl (lv_at hl 0 rfl) ?_
                obtain ⟨hr1, hu⟩ := gret_s hf
                subst hr1
                subst hu
                subst hQ
                exact g_iret C0 hG hr dX8_on_117
              · have hf := gif_f c39 hf
                refine lv_aload_n hx hb dX8_on_90 rfl (lv_at hl 0 rfl) ?_
                refine g_getSa (o := 4) (a := 86) C0 hG (L82 hG) rfl 8 (by decide) rfl rfl w_854 dX8_on_91 ?_
                refine lv_iload_n hx hb dX8_on_94 rfl (lv_at hl 2 rfl) ?_
                refine lv_bipush (v := (10 : Int32)) hx hb dX8_on_95 (by decide) ?_
                refine lv_isub hx hb dX8_on_97 ?_
                obtain ⟨h42, hf⟩ := gin_s hf
                refine g_iald C0 hG (L86 hG) h42 dX8_on_98 ?_
                refine lv_goto (tgt := 111) hx hb dX8_on_99 (by decide) ?_
                refine lv_istore_n (lv' := [(3, .int (gA u36 86 (p2 - (10 : Int32)).toNatClampNeg)), (0, .ref (base + 82)), (1, .int p1), (2, .int p2)]) hx hb dX8_on_111 rfl hl (by decide) rfl (fun ls hl => ?_)
                refine lv_aload_n hx hb dX8_on_112 rfl (lv_at hl 1 rfl) ?_
                obtain ⟨_, u43, hc43, hf⟩ := obind_s hf
                refine g_doV0 hG (g_runV C0 hG (k_X8_putBack l D base Z u36 u43 hc43) m_X8_putBack v_X8_putBack w_1278 (by decide) (g_recv C0 hG (L82 hG) rfl) rfl hl.1 rfl (Nat.le_of_ble_eq_true rfl) dX8_on_113 ⟨Nat.zero_le _, Nat.zero_le _⟩) (fun H locs hG hk => ?_)
                refine lv_iload_n hx hb dX8_on_116 rfl (lv_at hl 0 rfl) ?_
                obtain ⟨hr1, hu⟩ := gret_s hf
                subst hr1
                subst hu
                subst hQ
                exact g_iret C0 hG hr dX8_on_117
            · have hf := gif_t c38 hf
              refine lv_aload_n hx hb dX8_on_77 rfl (lv_at hl 0 rfl) ?_
              refine g_getI C0 hG (L82 hG) rfl 3 (by decide) rfl w_849 dX8_on_78 ?_
              refine lv_goto (tgt := 111) hx hb dX8_on_81 (by decide) ?_
              refine lv_istore_n (lv' := [(3, .int (gI u36 82 3)), (0, .ref (base + 82)), (1, .int p1), (2, .int p2)]) hx hb dX8_on_111 rfl hl (by decide) rfl (fun ls hl => ?_)
              refine lv_aload_n hx hb dX8_on_112 rfl (lv_at hl 1 rfl) ?_
              obtain ⟨_, u44, hc44, hf⟩ := obind_s hf
              refine g_doV0 hG (g_runV C0 hG (k_X8_putBack l D base Z u36 u44 hc44) m_X8_putBack v_X8_putBack w_1278 (by decide) (g_recv C0 hG (L82 hG) rfl) rfl hl.1 rfl (Nat.le_of_ble_eq_true rfl) dX8_on_113 ⟨Nat.zero_le _, Nat.zero_le _⟩) (fun H locs hG hk => ?_)
              refine lv_iload_n hx hb dX8_on_116 rfl (lv_at hl 0 rfl) ?_
              obtain ⟨hr1, hu⟩ := gret_s hf
              subst hr1
              subst hu
              subst hQ
              exact g_iret C0 hG hr dX8_on_117
          · have hf := gif_t c37 hf
            refine lv_aload_n hx hb dX8_on_65 rfl (lv_at hl 0 rfl) ?_
            refine g_getI C0 hG (L82 hG) rfl 2 (by decide) rfl w_848 dX8_on_66 ?_
            refine lv_goto (tgt := 111) hx hb dX8_on_69 (by decide) ?_
            refine lv_istore_n (lv' := [(3, .int (gI u36 82 2)), (0, .ref (base + 82)), (1, .int p1), (2, .int p2)]) hx hb dX8_on_111 rfl hl (by decide) rfl (fun ls hl => ?_)
            refine lv_aload_n hx hb dX8_on_112 rfl (lv_at hl 1 rfl) ?_
            obtain ⟨_, u45, hc45, hf⟩ := obind_s hf
            refine g_doV0 hG (g_runV C0 hG (k_X8_putBack l D base Z u36 u45 hc45) m_X8_putBack v_X8_putBack w_1278 (by decide) (g_recv C0 hG (L82 hG) rfl) rfl hl.1 rfl (Nat.le_of_ble_eq_true rfl) dX8_on_113 ⟨Nat.zero_le _, Nat.zero_le _⟩) (fun H locs hG hk => ?_)
            refine lv_iload_n hx hb dX8_on_116 rfl (lv_at hl 0 rfl) ?_
            obtain ⟨hr1, hu⟩ := gret_s hf
            subst hr1
            subst hu
            subst hQ
            exact g_iret C0 hG hr dX8_on_117
        · have hf := gif_t c34 hf
          refine lv_bipush (v := (-2 : Int32)) hx hb dX8_on_49 (by decide) ?_
          obtain ⟨hr1, hu⟩ := gret_s hf
          subst hr1
          subst hu
          subst hQ
          exact g_iret C0 hG hr dX8_on_51
      · have hf := gif_t c32 hf
        refine lv_iconst (v := (-1 : Int32)) hx hb dX8_on_39 (by decide) ?_
        obtain ⟨hr1, hu⟩ := gret_s hf
        subst hr1
        subst hu
        subst hQ
        exact g_iret C0 hG hr dX8_on_40
