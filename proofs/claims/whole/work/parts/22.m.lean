theorem dX8_shift_0 : decode cX8_shift 0 = .ok (.aload_n 0, 1) := by decide +kernel
theorem dX8_shift_1 : decode cX8_shift 1 = .ok (.iload_n 1, 1) := by decide +kernel
theorem dX8_shift_2 : decode cX8_shift 2 = .ok (.invokevirtual 407, 3) := by decide +kernel
theorem dX8_shift_5 : decode cX8_shift 5 = .ok (.ifCond .eq 11, 3) := by decide +kernel
theorem dX8_shift_8 : decode cX8_shift 8 = .ok (.aload_n 0, 1) := by decide +kernel
theorem dX8_shift_9 : decode cX8_shift 9 = .ok (.iload_n 3, 1) := by decide +kernel
theorem dX8_shift_10 : decode cX8_shift 10 = .ok (.invokevirtual 407, 3) := by decide +kernel
theorem dX8_shift_13 : decode cX8_shift 13 = .ok (.ifCond .ne 5, 3) := by decide +kernel
theorem dX8_shift_16 : decode cX8_shift 16 = .ok (.iconst (-1), 1) := by decide +kernel
theorem dX8_shift_17 : decode cX8_shift 17 = .ok (.ireturn, 1) := by decide +kernel
theorem dX8_shift_18 : decode cX8_shift 18 = .ok (.aload_n 0, 1) := by decide +kernel
theorem dX8_shift_19 : decode cX8_shift 19 = .ok (.getfield 232, 3) := by decide +kernel
theorem dX8_shift_22 : decode cX8_shift 22 = .ok (.iload_n 1, 1) := by decide +kernel
theorem dX8_shift_23 : decode cX8_shift 23 = .ok (.iaload, 1) := by decide +kernel
theorem dX8_shift_24 : decode cX8_shift 24 = .ok (.ifCond .lt 12, 3) := by decide +kernel
theorem dX8_shift_27 : decode cX8_shift 27 = .ok (.aload_n 0, 1) := by decide +kernel
theorem dX8_shift_28 : decode cX8_shift 28 = .ok (.getfield 232, 3) := by decide +kernel
theorem dX8_shift_31 : decode cX8_shift 31 = .ok (.iload_n 3, 1) := by decide +kernel
theorem dX8_shift_32 : decode cX8_shift 32 = .ok (.iaload, 1) := by decide +kernel
theorem dX8_shift_33 : decode cX8_shift 33 = .ok (.ifCond .ge 6, 3) := by decide +kernel
theorem dX8_shift_36 : decode cX8_shift 36 = .ok (.bipush (-11), 2) := by decide +kernel
theorem dX8_shift_38 : decode cX8_shift 38 = .ok (.ireturn, 1) := by decide +kernel
theorem dX8_shift_39 : decode cX8_shift 39 = .ok (.aload_n 0, 1) := by decide +kernel
theorem dX8_shift_40 : decode cX8_shift 40 = .ok (.getfield 232, 3) := by decide +kernel
theorem dX8_shift_43 : decode cX8_shift 43 = .ok (.iload_n 1, 1) := by decide +kernel
theorem dX8_shift_44 : decode cX8_shift 44 = .ok (.iaload, 1) := by decide +kernel
theorem dX8_shift_45 : decode cX8_shift 45 = .ok (.aload_n 0, 1) := by decide +kernel
theorem dX8_shift_46 : decode cX8_shift 46 = .ok (.getfield 232, 3) := by decide +kernel
theorem dX8_shift_49 : decode cX8_shift 49 = .ok (.iload_n 3, 1) := by decide +kernel
theorem dX8_shift_50 : decode cX8_shift 50 = .ok (.iaload, 1) := by decide +kernel
theorem dX8_shift_51 : decode cX8_shift 51 = .ok (.if_icmp .eq 6, 3) := by decide +kernel
theorem dX8_shift_54 : decode cX8_shift 54 = .ok (.bipush (-12), 2) := by decide +kernel
theorem dX8_shift_56 : decode cX8_shift 56 = .ok (.ireturn, 1) := by decide +kernel
theorem dX8_shift_57 : decode cX8_shift 57 = .ok (.iload 5, 2) := by decide +kernel
theorem dX8_shift_59 : decode cX8_shift 59 = .ok (.ifCond .lt 39, 3) := by decide +kernel
theorem dX8_shift_62 : decode cX8_shift 62 = .ok (.iload_n 2, 1) := by decide +kernel
theorem dX8_shift_63 : decode cX8_shift 63 = .ok (.ifCond .lt 35, 3) := by decide +kernel
theorem dX8_shift_66 : decode cX8_shift 66 = .ok (.iload 4, 2) := by decide +kernel
theorem dX8_shift_68 : decode cX8_shift 68 = .ok (.ifCond .lt 30, 3) := by decide +kernel
theorem dX8_shift_71 : decode cX8_shift 71 = .ok (.iload_n 2, 1) := by decide +kernel
theorem dX8_shift_72 : decode cX8_shift 72 = .ok (.aload_n 0, 1) := by decide +kernel
theorem dX8_shift_73 : decode cX8_shift 73 = .ok (.getfield 235, 3) := by decide +kernel
theorem dX8_shift_76 : decode cX8_shift 76 = .ok (.iload_n 1, 1) := by decide +kernel
theorem dX8_shift_77 : decode cX8_shift 77 = .ok (.iaload, 1) := by decide +kernel
theorem dX8_shift_78 : decode cX8_shift 78 = .ok (.iload 5, 2) := by decide +kernel
theorem dX8_shift_80 : decode cX8_shift 80 = .ok (.isub, 1) := by decide +kernel
theorem dX8_shift_81 : decode cX8_shift 81 = .ok (.if_icmp .gt 17, 3) := by decide +kernel
theorem dX8_shift_84 : decode cX8_shift 84 = .ok (.iload 4, 2) := by decide +kernel
theorem dX8_shift_86 : decode cX8_shift 86 = .ok (.aload_n 0, 1) := by decide +kernel
theorem dX8_shift_87 : decode cX8_shift 87 = .ok (.getfield 235, 3) := by decide +kernel
theorem dX8_shift_90 : decode cX8_shift 90 = .ok (.iload_n 3, 1) := by decide +kernel
theorem dX8_shift_91 : decode cX8_shift 91 = .ok (.iaload, 1) := by decide +kernel
theorem dX8_shift_92 : decode cX8_shift 92 = .ok (.iload 5, 2) := by decide +kernel
theorem dX8_shift_94 : decode cX8_shift 94 = .ok (.isub, 1) := by decide +kernel
theorem dX8_shift_95 : decode cX8_shift 95 = .ok (.if_icmp .le 6, 3) := by decide +kernel
theorem dX8_shift_98 : decode cX8_shift 98 = .ok (.bipush (-13), 2) := by decide +kernel
theorem dX8_shift_100 : decode cX8_shift 100 = .ok (.ireturn, 1) := by decide +kernel
theorem dX8_shift_101 : decode cX8_shift 101 = .ok (.iconst 0, 1) := by decide +kernel
theorem dX8_shift_102 : decode cX8_shift 102 = .ok (.istore 6, 2) := by decide +kernel
theorem dX8_shift_104 : decode cX8_shift 104 = .ok (.iload 6, 2) := by decide +kernel
theorem dX8_shift_106 : decode cX8_shift 106 = .ok (.iload 5, 2) := by decide +kernel
theorem dX8_shift_108 : decode cX8_shift 108 = .ok (.if_icmp .ge 30, 3) := by decide +kernel
theorem dX8_shift_111 : decode cX8_shift 111 = .ok (.aload_n 0, 1) := by decide +kernel
theorem dX8_shift_112 : decode cX8_shift 112 = .ok (.getfield 242, 3) := by decide +kernel
theorem dX8_shift_115 : decode cX8_shift 115 = .ok (.iload 6, 2) := by decide +kernel
theorem dX8_shift_117 : decode cX8_shift 117 = .ok (.aload_n 0, 1) := by decide +kernel
theorem dX8_shift_118 : decode cX8_shift 118 = .ok (.getfield 238, 3) := by decide +kernel
theorem dX8_shift_121 : decode cX8_shift 121 = .ok (.bipush 60, 2) := by decide +kernel
theorem dX8_shift_123 : decode cX8_shift 123 = .ok (.iload_n 1, 1) := by decide +kernel
theorem dX8_shift_124 : decode cX8_shift 124 = .ok (.imul, 1) := by decide +kernel
theorem dX8_shift_125 : decode cX8_shift 125 = .ok (.iload_n 2, 1) := by decide +kernel
theorem dX8_shift_126 : decode cX8_shift 126 = .ok (.iadd, 1) := by decide +kernel
theorem dX8_shift_127 : decode cX8_shift 127 = .ok (.iload 6, 2) := by decide +kernel
theorem dX8_shift_129 : decode cX8_shift 129 = .ok (.iadd, 1) := by decide +kernel
theorem dX8_shift_130 : decode cX8_shift 130 = .ok (.laload, 1) := by decide +kernel
theorem dX8_shift_131 : decode cX8_shift 131 = .ok (.lastore, 1) := by decide +kernel
theorem dX8_shift_132 : decode cX8_shift 132 = .ok (.iinc 6 1, 3) := by decide +kernel
theorem dX8_shift_135 : decode cX8_shift 135 = .ok (.goto (-31), 3) := by decide +kernel
theorem dX8_shift_138 : decode cX8_shift 138 = .ok (.iconst 0, 1) := by decide +kernel
theorem dX8_shift_139 : decode cX8_shift 139 = .ok (.istore 6, 2) := by decide +kernel
theorem dX8_shift_141 : decode cX8_shift 141 = .ok (.iload 6, 2) := by decide +kernel
theorem dX8_shift_143 : decode cX8_shift 143 = .ok (.iload 5, 2) := by decide +kernel
theorem dX8_shift_145 : decode cX8_shift 145 = .ok (.if_icmp .ge 31, 3) := by decide +kernel
theorem dX8_shift_148 : decode cX8_shift 148 = .ok (.aload_n 0, 1) := by decide +kernel
theorem dX8_shift_149 : decode cX8_shift 149 = .ok (.getfield 238, 3) := by decide +kernel
theorem dX8_shift_152 : decode cX8_shift 152 = .ok (.bipush 60, 2) := by decide +kernel
theorem dX8_shift_154 : decode cX8_shift 154 = .ok (.iload_n 3, 1) := by decide +kernel
theorem dX8_shift_155 : decode cX8_shift 155 = .ok (.imul, 1) := by decide +kernel
theorem dX8_shift_156 : decode cX8_shift 156 = .ok (.iload 4, 2) := by decide +kernel
theorem dX8_shift_158 : decode cX8_shift 158 = .ok (.iadd, 1) := by decide +kernel
theorem dX8_shift_159 : decode cX8_shift 159 = .ok (.iload 6, 2) := by decide +kernel
theorem dX8_shift_161 : decode cX8_shift 161 = .ok (.iadd, 1) := by decide +kernel
theorem dX8_shift_162 : decode cX8_shift 162 = .ok (.aload_n 0, 1) := by decide +kernel
theorem dX8_shift_163 : decode cX8_shift 163 = .ok (.getfield 242, 3) := by decide +kernel
theorem dX8_shift_166 : decode cX8_shift 166 = .ok (.iload 6, 2) := by decide +kernel
theorem dX8_shift_168 : decode cX8_shift 168 = .ok (.laload, 1) := by decide +kernel
theorem dX8_shift_169 : decode cX8_shift 169 = .ok (.lastore, 1) := by decide +kernel
theorem dX8_shift_170 : decode cX8_shift 170 = .ok (.iinc 6 1, 3) := by decide +kernel
theorem dX8_shift_173 : decode cX8_shift 173 = .ok (.goto (-32), 3) := by decide +kernel
theorem dX8_shift_176 : decode cX8_shift 176 = .ok (.iload 5, 2) := by decide +kernel
theorem dX8_shift_178 : decode cX8_shift 178 = .ok (.ireturn, 1) := by decide +kernel
def f_X8_shift_L141 (p5 : Int32) (p3 : Int32) (p4 : Int32) (x6_21 : Int32) (u21 : Mem) : Option ((Int32 × Mem) ⊕ ((Int32 × Mem) ⊕ (Int32 × Mem))) := (if p5 ≤ x6_21 then some (Sum.inr (Sum.inr (p5, u21))) else gin x6_21 60 (gin ((((60 : Int32) * p3) + p4) + x6_21) 360 (some (Sum.inl (x6_21 + (1 : Int32), sL u21 127 ((((60 : Int32) * p3) + p4) + x6_21).toNatClampNeg (gL u21 128 x6_21.toNatClampNeg))))))
def f_X8_shift_L104 (p5 : Int32) (p3 : Int32) (p4 : Int32) (p1 : Int32) (p2 : Int32) (x6_19 : Int32) (u19 : Mem) : Option ((Int32 × Mem) ⊕ (Int32 × Mem)) := (if p5 ≤ x6_19 then whileO (fun s => f_X8_shift_L141 p5 p3 p4 s.1 s.2) FUEL ((0 : Int32), u19) else gin ((((60 : Int32) * p1) + p2) + x6_19) 360 (gin x6_19 60 (some (Sum.inl (x6_19 + (1 : Int32), sL u19 128 x6_19.toNatClampNeg (gL u19 127 ((((60 : Int32) * p1) + p2) + x6_19).toNatClampNeg))))))
def f_X8_shift (p1 : Int32) (p2 : Int32) (p3 : Int32) (p4 : Int32) (p5 : Int32) (u : Mem) : Option (Int32 × Mem) := Option.bind (f_X8_isTape p1) (fun r1 => (if r1 = 0 then some ((-1 : Int32), u) else Option.bind (f_X8_isTape p3) (fun r3 => (if r3 = 0 then some ((-1 : Int32), u) else gin p1 6 ((if (gA u 125 p1.toNatClampNeg) < 0 then some ((-11 : Int32), u) else gin p3 6 ((if 0 ≤ (gA u 125 p3.toNatClampNeg) then gin p1 6 (gin p3 6 ((if (gA u 125 p1.toNatClampNeg) = (gA u 125 p3.toNatClampNeg) then (if p5 < 0 then some ((-13 : Int32), u) else (if p2 < 0 then some ((-13 : Int32), u) else (if p4 < 0 then some ((-13 : Int32), u) else gin p1 6 ((if ((gA u 126 p1.toNatClampNeg) - p5) < p2 then some ((-13 : Int32), u) else gin p3 6 ((if p4 ≤ ((gA u 126 p3.toNatClampNeg) - p5) then whileO (fun s => f_X8_shift_L104 p5 p3 p4 p1 p2 s.1 s.2) FUEL ((0 : Int32), u) else some ((-13 : Int32), u)))))))) else some ((-12 : Int32), u)))) else some ((-11 : Int32), u)))))))))
set_option maxHeartbeats 4000000 in
set_option maxRecDepth 100000 in
theorem k_X8_shift (l : Launch) (D : gDt) (base : Nat) (Z : gZt) (u : Mem) (p1 : Int32) (p2 : Int32) (p3 : Int32) (p4 : Int32) (p5 : Int32) (r : Int32) (u' : Mem) (hf : f_X8_shift p1 p2 p3 p4 p5 u = some (r, u')) : Met l yX8_shift (gws yX8_shift cX8_shift 7 (some .int)) (gRm 3 0 0) (gPc D base Z u [.ref (base + 82), .int p1, .int p2, .int p3, .int p4, .int p5]) (gQi D base r u') 0 0 (gF base) := by
  refine Met.ofW (cc := cX8_shift) (maxL := 7) (ret := some .int) (by decide) rfl ?_
  intro p e s m args below meth c s₁ B hml hv
  obtain ⟨rfl, C0, hG⟩ := g_enter B hml hv
  have hr := B.returns
  have C0 : gC p s m meth c _ cX8_shift 7 RX8 D base Z := C0
  have hx := C0.1
  have hb := C0.2.1
  have hl := lv_entry ([.ref (base + 82), .int p1, .int p2, .int p3, .int p4, .int p5]) (n := 7) (Nat.le_of_ble_eq_true rfl)
  rw [lg_entry_eq]
  generalize (lg_sl ([.ref (base + 82), .int p1, .int p2, .int p3, .int p4, .int p5]) ++ List.replicate (7 - (lg_sl ([.ref (base + 82), .int p1, .int p2, .int p3, .int p4, .int p5])).length) Slot.unset).toArray = ls at hl ⊢
  have hl : lv_has ls 7 [(0, .ref (base + 82)), (1, .int p1), (2, .int p2), (3, .int p3), (4, .int p4), (5, .int p5)] := hl
  obtain ⟨Q, hQ⟩ : ∃ Q, Q = MQ below (gQi D base r u') ([.ref (base + 82), .int p1, .int p2, .int p3, .int p4, .int p5] : List Value).toArray s 0 0 (gF base) := ⟨_, rfl⟩
  rw [← hQ]
  change W p l e (gRm 3 0 0) s m _ below meth c _ _ _ _ _ _
  unfold f_X8_shift at hf
  refine lv_aload_n hx hb dX8_shift_0 rfl (lv_at hl 0 rfl) ?_
  refine lv_iload_n hx hb dX8_shift_1 rfl (lv_at hl 1 rfl) ?_
  obtain ⟨r1, hc1, hf⟩ := pb_s hf
  refine g_doI0 hG (g_runV C0 hG (k_X8_isTape l D base Z u p1 r1 hc1) m_X8_isTape v_X8_isTape w_1372 (by decide) (g_recv C0 hG (L82 hG) rfl) rfl hl.1 rfl (Nat.le_of_ble_eq_true rfl) dX8_shift_2 ⟨Nat.zero_le _, Nat.zero_le _⟩) (fun H locs hG hk => ?_)
  refine lv_if_eq (tgt := 16) hx hb dX8_shift_5 (by decide) (fun c2 => ?_) (fun c2 => ?_)
  · have hf := gif_t c2 hf
    refine lv_iconst (v := (-1 : Int32)) hx hb dX8_shift_16 (by decide) ?_
    obtain ⟨hr1, hu⟩ := gret_s hf
    subst hr1
    subst hu
    subst hQ
    exact g_iret C0 hG hr dX8_shift_17
  · have hf := gif_f c2 hf
    refine lv_aload_n hx hb dX8_shift_8 rfl (lv_at hl 0 rfl) ?_
    refine lv_iload_n hx hb dX8_shift_9 rfl (lv_at hl 3 rfl) ?_
    obtain ⟨r3, hc3, hf⟩ := pb_s hf
    refine g_doI0 hG (g_runV C0 hG (k_X8_isTape l D base Z u p3 r3 hc3) m_X8_isTape v_X8_isTape w_1372 (by decide) (g_recv C0 hG (L82 hG) rfl) rfl hl.1 rfl (Nat.le_of_ble_eq_true rfl) dX8_shift_10 ⟨Nat.zero_le _, Nat.zero_le _⟩) (fun H locs hG hk => ?_)
    refine lv_if_ne (tgt := 18) hx hb dX8_shift_13 (by decide) (fun c4 => ?_) (fun c4 => ?_)
    · have hf := gif_f c4 hf
      refine lv_aload_n hx hb dX8_shift_18 rfl (lv_at hl 0 rfl) ?_
      refine g_getSa (o := 43) (a := 125) C0 hG (L82 hG) rfl 73 (by decide) rfl rfl w_919 dX8_shift_19 ?_
      refine lv_iload_n hx hb dX8_shift_22 rfl (lv_at hl 1 rfl) ?_
      obtain ⟨h5, hf⟩ := gin_s hf
      refine g_iald C0 hG (L125 hG) h5 dX8_shift_23 ?_
      refine lv_if_lt (tgt := 36) hx hb dX8_shift_24 (by decide) (fun c6 => ?_) (fun c6 => ?_)
      · have hf := gif_t c6 hf
        refine lv_bipush (v := (-11 : Int32)) hx hb dX8_shift_36 (by decide) ?_
        obtain ⟨hr1, hu⟩ := gret_s hf
        subst hr1
        subst hu
        subst hQ
        exact g_iret C0 hG hr dX8_shift_38
      · have hf := gif_f c6 hf
        refine lv_aload_n hx hb dX8_shift_27 rfl (lv_at hl 0 rfl) ?_
        refine g_getSa (o := 43) (a := 125) C0 hG (L82 hG) rfl 73 (by decide) rfl rfl w_919 dX8_shift_28 ?_
        refine lv_iload_n hx hb dX8_shift_31 rfl (lv_at hl 3 rfl) ?_
        obtain ⟨h7, hf⟩ := gin_s hf
        refine g_iald C0 hG (L125 hG) h7 dX8_shift_32 ?_
        refine lv_if_ge (tgt := 39) hx hb dX8_shift_33 (by decide) (fun c8 => ?_) (fun c8 => ?_)
        · have hf := gif_t c8 hf
          refine lv_aload_n hx hb dX8_shift_39 rfl (lv_at hl 0 rfl) ?_
          refine g_getSa (o := 43) (a := 125) C0 hG (L82 hG) rfl 73 (by decide) rfl rfl w_919 dX8_shift_40 ?_
          refine lv_iload_n hx hb dX8_shift_43 rfl (lv_at hl 1 rfl) ?_
          obtain ⟨h9, hf⟩ := gin_s hf
          refine g_iald C0 hG (L125 hG) h9 dX8_shift_44 ?_
          refine lv_aload_n hx hb dX8_shift_45 rfl (lv_at hl 0 rfl) ?_
          refine g_getSa (o := 43) (a := 125) C0 hG (L82 hG) rfl 73 (by decide) rfl rfl w_919 dX8_shift_46 ?_
          refine lv_iload_n hx hb dX8_shift_49 rfl (lv_at hl 3 rfl) ?_
          obtain ⟨h10, hf⟩ := gin_s hf
          refine g_iald C0 hG (L125 hG) h10 dX8_shift_50 ?_
          refine lv_icmp_eq (tgt := 57) hx hb dX8_shift_51 (by decide) (fun c11 => ?_) (fun c11 => ?_)
          · have hf := gif_t c11 hf
            refine lv_iload hx hb dX8_shift_57 (lv_at hl 5 rfl) ?_
            refine lv_if_lt (tgt := 98) hx hb dX8_shift_59 (by decide) (fun c12 => ?_) (fun c12 => ?_)
            · have hf := gif_t c12 hf
              refine lv_bipush (v := (-13 : Int32)) hx hb dX8_shift_98 (by decide) ?_
              obtain ⟨hr1, hu⟩ := gret_s hf
              subst hr1
              subst hu
              subst hQ
              exact g_iret C0 hG hr dX8_shift_100
            · have hf := gif_f c12 hf
              refine lv_iload_n hx hb dX8_shift_62 rfl (lv_at hl 2 rfl) ?_
              refine lv_if_lt (tgt := 98) hx hb dX8_shift_63 (by decide) (fun c13 => ?_) (fun c13 => ?_)
              · have hf := gif_t c13 hf
                refine lv_bipush (v := (-13 : Int32)) hx hb dX8_shift_98 (by decide) ?_
                obtain ⟨hr1, hu⟩ := gret_s hf
                subst hr1
                subst hu
                subst hQ
                exact g_iret C0 hG hr dX8_shift_100
              · have hf := gif_f c13 hf
                refine lv_iload hx hb dX8_shift_66 (lv_at hl 4 rfl) ?_
                refine lv_if_lt (tgt := 98) hx hb dX8_shift_68 (by decide) (fun c14 => ?_) (fun c14 => ?_)
                · have hf := gif_t c14 hf
                  refine lv_bipush (v := (-13 : Int32)) hx hb dX8_shift_98 (by decide) ?_
                  obtain ⟨hr1, hu⟩ := gret_s hf
                  subst hr1
                  subst hu
                  subst hQ
                  exact g_iret C0 hG hr dX8_shift_100
                · have hf := gif_f c14 hf
                  refine lv_iload_n hx hb dX8_shift_71 rfl (lv_at hl 2 rfl) ?_
                  refine lv_aload_n hx hb dX8_shift_72 rfl (lv_at hl 0 rfl) ?_
                  refine g_getSa (o := 44) (a := 126) C0 hG (L82 hG) rfl 74 (by decide) rfl rfl w_920 dX8_shift_73 ?_
                  refine lv_iload_n hx hb dX8_shift_76 rfl (lv_at hl 1 rfl) ?_
                  obtain ⟨h15, hf⟩ := gin_s hf
                  refine g_iald C0 hG (L126 hG) h15 dX8_shift_77 ?_
                  refine lv_iload hx hb dX8_shift_78 (lv_at hl 5 rfl) ?_
                  refine lv_isub hx hb dX8_shift_80 ?_
                  refine lv_icmp_gt (tgt := 98) hx hb dX8_shift_81 (by decide) (fun c16 => ?_) (fun c16 => ?_)
                  · have hf := gif_t c16 hf
                    refine lv_bipush (v := (-13 : Int32)) hx hb dX8_shift_98 (by decide) ?_
                    obtain ⟨hr1, hu⟩ := gret_s hf
                    subst hr1
                    subst hu
                    subst hQ
                    exact g_iret C0 hG hr dX8_shift_100
                  · have hf := gif_f c16 hf
                    refine lv_iload hx hb dX8_shift_84 (lv_at hl 4 rfl) ?_
                    refine lv_aload_n hx hb dX8_shift_86 rfl (lv_at hl 0 rfl) ?_
                    refine g_getSa (o := 44) (a := 126) C0 hG (L82 hG) rfl 74 (by decide) rfl rfl w_920 dX8_shift_87 ?_
                    refine lv_iload_n hx hb dX8_shift_90 rfl (lv_at hl 3 rfl) ?_
                    obtain ⟨h17, hf⟩ := gin_s hf
                    refine g_iald C0 hG (L126 hG) h17 dX8_shift_91 ?_
                    refine lv_iload hx hb dX8_shift_92 (lv_at hl 5 rfl) ?_
                    refine lv_isub hx hb dX8_shift_94 ?_
                    refine lv_icmp_le (tgt := 101) hx hb dX8_shift_95 (by decide) (fun c18 => ?_) (fun c18 => ?_)
                    · have hf := gif_t c18 hf
                      refine lv_iconst (v := (0 : Int32)) hx hb dX8_shift_101 (by decide) ?_
                      refine lv_istore (lv' := [(6, .int (0 : Int32)), (0, .ref (base + 82)), (1, .int p1), (2, .int p2), (3, .int p3), (4, .int p4), (5, .int p5)]) hx hb dX8_shift_102 hl (by decide) rfl (fun ls hl => ?_)
                      have loop19 : ∀ (n19 : Nat) (x6_19 : Int32) (u19 : Mem) (H : Heap) (locs : List Loc) (ls : Array Slot), gH D base s u19 H locs → lv_has ls 7 [(0, .ref (base + 82)), (1, .int p1), (2, .int p2), (3, .int p3), (4, .int p4), (5, .int p5), (6, .int x6_19)] → whileO (fun s => f_X8_shift_L104 p5 p3 p4 p1 p2 s.1 s.2) n19 (x6_19, u19) = some (r, u') → W p l e (gRm 3 0 0) s m ([.ref (base + 82), .int p1, .int p2, .int p3, .int p4, .int p5] : List Value).toArray below meth c H locs 0 0 Q (F0 m 104 ls []) := by
                        intro n19
                        induction n19 with
                        | zero => intro x6_19 u19 H locs ls hG hl hf; cases hf
                        | succ n19 ih19 =>
                          intro x6_19 u19 H locs ls hG hl hf
                          obtain ⟨X19, hf, hX19⟩ := while_s hf
                          have hf : f_X8_shift_L104 p5 p3 p4 p1 p2 x6_19 u19 = some X19 := hf
                          unfold f_X8_shift_L104 at hf
                          refine lv_iload hx hb dX8_shift_104 (lv_at hl 6 rfl) ?_
                          refine lv_iload hx hb dX8_shift_106 (lv_at hl 5 rfl) ?_
                          refine lv_icmp_ge (tgt := 138) hx hb dX8_shift_108 (by decide) (fun c20 => ?_) (fun c20 => ?_)
                          · have hf := gif_t c20 hf
                            refine lv_iconst (v := (0 : Int32)) hx hb dX8_shift_138 (by decide) ?_
                            refine lv_istore (lv' := [(6, .int (0 : Int32)), (0, .ref (base + 82)), (1, .int p1), (2, .int p2), (3, .int p3), (4, .int p4), (5, .int p5)]) hx hb dX8_shift_139 hl (by decide) rfl (fun ls hl => ?_)
                            have loop21 : ∀ (n21 : Nat) (x6_21 : Int32) (u21 : Mem) (H : Heap) (locs : List Loc) (ls : Array Slot), gH D base s u21 H locs → lv_has ls 7 [(0, .ref (base + 82)), (3, .int p3), (4, .int p4), (5, .int p5), (6, .int x6_21)] → whileO (fun s => f_X8_shift_L141 p5 p3 p4 s.1 s.2) n21 (x6_21, u21) = some X19 → W p l e (gRm 3 0 0) s m ([.ref (base + 82), .int p1, .int p2, .int p3, .int p4, .int p5] : List Value).toArray below meth c H locs 0 0 Q (F0 m 141 ls []) := by
                              intro n21
                              induction n21 with
                              | zero => intro x6_21 u21 H locs ls hG hl hf; cases hf
                              | succ n21 ih21 =>
                                intro x6_21 u21 H locs ls hG hl hf
                                obtain ⟨X21, hf, hX21⟩ := while_s hf
                                have hf : f_X8_shift_L141 p5 p3 p4 x6_21 u21 = some X21 := hf
                                unfold f_X8_shift_L141 at hf
                                refine lv_iload hx hb dX8_shift_141 (lv_at hl 4 rfl) ?_
                                refine lv_iload hx hb dX8_shift_143 (lv_at hl 3 rfl) ?_
                                refine lv_icmp_ge (tgt := 176) hx hb dX8_shift_145 (by decide) (fun c22 => ?_) (fun c22 => ?_)
                                · have hf := gif_t c22 hf
                                  refine lv_iload hx hb dX8_shift_176 (lv_at hl 3 rfl) ?_
                                  have hf := while_r hX21 hf
                                  have hf := while_r hX19 hf
                                  obtain ⟨hr1, hu⟩ := gret_s hf
                                  subst hr1
                                  subst hu
                                  subst hQ
                                  exact g_iret C0 hG hr dX8_shift_178
                                · have hf := gif_f c22 hf
                                  refine lv_aload_n hx hb dX8_shift_148 rfl (lv_at hl 0 rfl) ?_
                                  refine g_getSa (o := 45) (a := 127) C0 hG (L82 hG) rfl 75 (by decide) rfl rfl w_921 dX8_shift_149 ?_
                                  refine lv_bipush (v := (60 : Int32)) hx hb dX8_shift_152 (by decide) ?_
                                  refine lv_iload_n hx hb dX8_shift_154 rfl (lv_at hl 1 rfl) ?_
                                  refine lv_imul hx hb dX8_shift_155 ?_
                                  refine lv_iload hx hb dX8_shift_156 (lv_at hl 2 rfl) ?_
                                  refine lv_iadd hx hb dX8_shift_158 ?_
                                  refine lv_iload hx hb dX8_shift_159 (lv_at hl 4 rfl) ?_
                                  refine lv_iadd hx hb dX8_shift_161 ?_
                                  refine lv_aload_n hx hb dX8_shift_162 rfl (lv_at hl 0 rfl) ?_
                                  refine g_getSa (o := 46) (a := 128) C0 hG (L82 hG) rfl 76 (by decide) rfl rfl w_922 dX8_shift_163 ?_
                                  refine lv_iload hx hb dX8_shift_166 (lv_at hl 4 rfl) ?_
                                  obtain ⟨h23, hf⟩ := gin_s hf
                                  refine g_lald C0 hG (L128 hG) h23 dX8_shift_168 ?_
                                  obtain ⟨h24, hf⟩ := gin_s hf
                                  refine g_last C0 hG (L127 hG) h24 dX8_shift_169 (fun H locs hG => ?_)
                                  refine lv_iinc (v := x6_21 + (1 : Int32)) (lv' := [(6, .int (x6_21 + (1 : Int32))), (0, .ref (base + 82)), (3, .int p3), (4, .int p4), (5, .int p5)]) hx hb dX8_shift_170 hl (k := 4) rfl rfl (by decide) rfl (fun ls hl => ?_)
                                  refine lv_goto (tgt := 141) hx hb dX8_shift_173 (by decide) ?_
                                  have hf := while_l hX21 hf
                                  exact ih21 (x6_21 + (1 : Int32)) (sL u21 127 ((((60 : Int32) * p3) + p4) + x6_21).toNatClampNeg (gL u21 128 x6_21.toNatClampNeg)) _ _ ls hG (lv_sub hl [1, 2, 3, 4, 0] rfl) hf
                            exact loop21 FUEL (0 : Int32) u19 _ _ ls hG (lv_sub hl [1, 4, 5, 6, 0] rfl) hf
                          · have hf := gif_f c20 hf
                            refine lv_aload_n hx hb dX8_shift_111 rfl (lv_at hl 0 rfl) ?_
                            refine g_getSa (o := 46) (a := 128) C0 hG (L82 hG) rfl 76 (by decide) rfl rfl w_922 dX8_shift_112 ?_
                            refine lv_iload hx hb dX8_shift_115 (lv_at hl 6 rfl) ?_
                            refine lv_aload_n hx hb dX8_shift_117 rfl (lv_at hl 0 rfl) ?_
                            refine g_getSa (o := 45) (a := 127) C0 hG (L82 hG) rfl 75 (by decide) rfl rfl w_921 dX8_shift_118 ?_
                            refine lv_bipush (v := (60 : Int32)) hx hb dX8_shift_121 (by decide) ?_
                            refine lv_iload_n hx hb dX8_shift_123 rfl (lv_at hl 1 rfl) ?_
                            refine lv_imul hx hb dX8_shift_124 ?_
                            refine lv_iload_n hx hb dX8_shift_125 rfl (lv_at hl 2 rfl) ?_
                            refine lv_iadd hx hb dX8_shift_126 ?_
                            refine lv_iload hx hb dX8_shift_127 (lv_at hl 6 rfl) ?_
                            refine lv_iadd hx hb dX8_shift_129 ?_
                            obtain ⟨h25, hf⟩ := gin_s hf
                            refine g_lald C0 hG (L127 hG) h25 dX8_shift_130 ?_
                            obtain ⟨h26, hf⟩ := gin_s hf
                            refine g_last C0 hG (L128 hG) h26 dX8_shift_131 (fun H locs hG => ?_)
                            refine lv_iinc (v := x6_19 + (1 : Int32)) (lv' := [(6, .int (x6_19 + (1 : Int32))), (0, .ref (base + 82)), (1, .int p1), (2, .int p2), (3, .int p3), (4, .int p4), (5, .int p5)]) hx hb dX8_shift_132 hl (k := 6) rfl rfl (by decide) rfl (fun ls hl => ?_)
                            refine lv_goto (tgt := 104) hx hb dX8_shift_135 (by decide) ?_
                            have hf := while_l hX19 hf
                            exact ih19 (x6_19 + (1 : Int32)) (sL u19 128 x6_19.toNatClampNeg (gL u19 127 ((((60 : Int32) * p1) + p2) + x6_19).toNatClampNeg)) _ _ ls hG (lv_sub hl [1, 2, 3, 4, 5, 6, 0] rfl) hf
                      exact loop19 FUEL (0 : Int32) u _ _ ls hG (lv_sub hl [1, 2, 3, 4, 5, 6, 0] rfl) hf
                    · have hf := gif_f c18 hf
                      refine lv_bipush (v := (-13 : Int32)) hx hb dX8_shift_98 (by decide) ?_
                      obtain ⟨hr1, hu⟩ := gret_s hf
                      subst hr1
                      subst hu
                      subst hQ
                      exact g_iret C0 hG hr dX8_shift_100
          · have hf := gif_f c11 hf
            refine lv_bipush (v := (-12 : Int32)) hx hb dX8_shift_54 (by decide) ?_
            obtain ⟨hr1, hu⟩ := gret_s hf
            subst hr1
            subst hu
            subst hQ
            exact g_iret C0 hG hr dX8_shift_56
        · have hf := gif_f c8 hf
          refine lv_bipush (v := (-11 : Int32)) hx hb dX8_shift_36 (by decide) ?_
          obtain ⟨hr1, hu⟩ := gret_s hf
          subst hr1
          subst hu
          subst hQ
          exact g_iret C0 hG hr dX8_shift_38
    · have hf := gif_t c4 hf
      refine lv_iconst (v := (-1 : Int32)) hx hb dX8_shift_16 (by decide) ?_
      obtain ⟨hr1, hu⟩ := gret_s hf
      subst hr1
      subst hu
      subst hQ
      exact g_iret C0 hG hr dX8_shift_17
