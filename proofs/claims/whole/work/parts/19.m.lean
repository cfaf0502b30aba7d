theorem dX8_told_0 : decode cX8_told 0 = .ok (.aload_n 0, 1) := by decide +kernel
theorem dX8_told_1 : decode cX8_told 1 = .ok (.iload_n 1, 1) := by decide +kernel
theorem dX8_told_2 : decode cX8_told 2 = .ok (.bipush 10, 2) := by decide +kernel
theorem dX8_told_4 : decode cX8_told 4 = .ok (.bipush 17, 2) := by decide +kernel
theorem dX8_told_6 : decode cX8_told 6 = .ok (.invokevirtual 249, 3) := by decide +kernel
theorem dX8_told_9 : decode cX8_told 9 = .ok (.ifCond .eq 13, 3) := by decide +kernel
theorem dX8_told_12 : decode cX8_told 12 = .ok (.aload_n 0, 1) := by decide +kernel
theorem dX8_told_13 : decode cX8_told 13 = .ok (.getfield 44, 3) := by decide +kernel
theorem dX8_told_16 : decode cX8_told 16 = .ok (.iload_n 1, 1) := by decide +kernel
theorem dX8_told_17 : decode cX8_told 17 = .ok (.bipush 10, 2) := by decide +kernel
theorem dX8_told_19 : decode cX8_told 19 = .ok (.isub, 1) := by decide +kernel
theorem dX8_told_20 : decode cX8_told 20 = .ok (.iaload, 1) := by decide +kernel
theorem dX8_told_21 : decode cX8_told 21 = .ok (.ireturn, 1) := by decide +kernel
theorem dX8_told_22 : decode cX8_told 22 = .ok (.aload_n 0, 1) := by decide +kernel
theorem dX8_told_23 : decode cX8_told 23 = .ok (.iload_n 1, 1) := by decide +kernel
theorem dX8_told_24 : decode cX8_told 24 = .ok (.bipush 20, 2) := by decide +kernel
theorem dX8_told_26 : decode cX8_told 26 = .ok (.bipush 27, 2) := by decide +kernel
theorem dX8_told_28 : decode cX8_told 28 = .ok (.invokevirtual 249, 3) := by decide +kernel
theorem dX8_told_31 : decode cX8_told 31 = .ok (.ifCond .eq 13, 3) := by decide +kernel
theorem dX8_told_34 : decode cX8_told 34 = .ok (.aload_n 0, 1) := by decide +kernel
theorem dX8_told_35 : decode cX8_told 35 = .ok (.getfield 41, 3) := by decide +kernel
theorem dX8_told_38 : decode cX8_told 38 = .ok (.iload_n 1, 1) := by decide +kernel
theorem dX8_told_39 : decode cX8_told 39 = .ok (.bipush 20, 2) := by decide +kernel
theorem dX8_told_41 : decode cX8_told 41 = .ok (.isub, 1) := by decide +kernel
theorem dX8_told_42 : decode cX8_told 42 = .ok (.iaload, 1) := by decide +kernel
theorem dX8_told_43 : decode cX8_told 43 = .ok (.ireturn, 1) := by decide +kernel
theorem dX8_told_44 : decode cX8_told 44 = .ok (.aload_n 0, 1) := by decide +kernel
theorem dX8_told_45 : decode cX8_told 45 = .ok (.iload_n 1, 1) := by decide +kernel
theorem dX8_told_46 : decode cX8_told 46 = .ok (.bipush 30, 2) := by decide +kernel
theorem dX8_told_48 : decode cX8_told 48 = .ok (.bipush 37, 2) := by decide +kernel
theorem dX8_told_50 : decode cX8_told 50 = .ok (.invokevirtual 249, 3) := by decide +kernel
theorem dX8_told_53 : decode cX8_told 53 = .ok (.ifCond .eq 12, 3) := by decide +kernel
theorem dX8_told_56 : decode cX8_told 56 = .ok (.aload_n 0, 1) := by decide +kernel
theorem dX8_told_57 : decode cX8_told 57 = .ok (.iload_n 1, 1) := by decide +kernel
theorem dX8_told_58 : decode cX8_told 58 = .ok (.bipush 30, 2) := by decide +kernel
theorem dX8_told_60 : decode cX8_told 60 = .ok (.isub, 1) := by decide +kernel
theorem dX8_told_61 : decode cX8_told 61 = .ok (.invokevirtual 361, 3) := by decide +kernel
theorem dX8_told_64 : decode cX8_told 64 = .ok (.ireturn, 1) := by decide +kernel
theorem dX8_told_65 : decode cX8_told 65 = .ok (.iload_n 1, 1) := by decide +kernel
theorem dX8_told_66 : decode cX8_told 66 = .ok (.tableswitch 59 0 4 #[34, 39, 44, 49, 54], 34) := by decide +kernel
theorem dX8_told_100 : decode cX8_told 100 = .ok (.aload_n 0, 1) := by decide +kernel
theorem dX8_told_101 : decode cX8_told 101 = .ok (.getfield 22, 3) := by decide +kernel
theorem dX8_told_104 : decode cX8_told 104 = .ok (.ireturn, 1) := by decide +kernel
theorem dX8_told_105 : decode cX8_told 105 = .ok (.aload_n 0, 1) := by decide +kernel
theorem dX8_told_106 : decode cX8_told 106 = .ok (.invokevirtual 349, 3) := by decide +kernel
theorem dX8_told_109 : decode cX8_told 109 = .ok (.ireturn, 1) := by decide +kernel
theorem dX8_told_110 : decode cX8_told 110 = .ok (.aload_n 0, 1) := by decide +kernel
theorem dX8_told_111 : decode cX8_told 111 = .ok (.getfield 16, 3) := by decide +kernel
theorem dX8_told_114 : decode cX8_told 114 = .ok (.ireturn, 1) := by decide +kernel
theorem dX8_told_115 : decode cX8_told 115 = .ok (.aload_n 0, 1) := by decide +kernel
theorem dX8_told_116 : decode cX8_told 116 = .ok (.getfield 19, 3) := by decide +kernel
theorem dX8_told_119 : decode cX8_told 119 = .ok (.ireturn, 1) := by decide +kernel
theorem dX8_told_120 : decode cX8_told 120 = .ok (.aload_n 0, 1) := by decide +kernel
theorem dX8_told_121 : decode cX8_told 121 = .ok (.invokevirtual 364, 3) := by decide +kernel
theorem dX8_told_124 : decode cX8_told 124 = .ok (.ireturn, 1) := by decide +kernel
theorem dX8_told_125 : decode cX8_told 125 = .ok (.iconst (-1), 1) := by decide +kernel
theorem dX8_told_126 : decode cX8_told 126 = .ok (.ireturn, 1) := by decide +kernel
def f_X8_told (p1 : Int32) (u : Mem) : Option (Int32 × Mem) := Option.bind (f_X8_in p1 (10 : Int32) (17 : Int32)) (fun r1 => (if r1 = 0 then Option.bind (f_X8_in p1 (20 : Int32) (27 : Int32)) (fun r3 => (if r3 = 0 then Option.bind (f_X8_in p1 (30 : Int32) (37 : Int32)) (fun r5 => (if r5 = 0 then (if p1 = (0 : Int32) then some (gI u 82 4, u) else (if p1 = (1 : Int32) then Option.bind (f_X8_slope u) (fun r9 => some (r9, u)) else (if p1 = (2 : Int32) then some (gI u 82 2, u) else (if p1 = (3 : Int32) then some (gI u 82 3, u) else (if p1 = (4 : Int32) then obind (f_X8_ash u) (fun r13 u13 => some (r13, u13)) else some ((-1 : Int32), u)))))) else Option.bind (f_X8_spread (p1 - (30 : Int32)) u) (fun r14 => some (r14, u)))) else gin (p1 - (20 : Int32)) 8 (some (gA u 88 (p1 - (20 : Int32)).toNatClampNeg, u)))) else gin (p1 - (10 : Int32)) 8 (some (gA u 89 (p1 - (10 : Int32)).toNatClampNeg, u))))
set_option maxHeartbeats 4000000 in
set_option maxRecDepth 100000 in
theorem k_X8_told (l : Launch) (D : gDt) (base : Nat) (Z : gZt) (u : Mem) (p1 : Int32) (r : Int32) (u' : Mem) (hf : f_X8_told p1 u = some (r, u')) : Met l yX8_told (gws yX8_told cX8_told 2 (some .int)) (gRm 6 0 0) (gPc D base Z u [.ref (base + 82), .int p1]) (gQi D base r u') 0 0 (gF base) := by
  refine Met.ofW (cc := cX8_told) (maxL := 2) (ret := some .int) (by decide) rfl ?_
  intro p e s m args below meth c s₁ B hml hv
  obtain ⟨rfl, C0, hG⟩ := g_enter B hml hv
  have hr := B.returns
  have C0 : gC p s m meth c _ cX8_told 2 RX8 D base Z := C0
  have hx := C0.1
  have hb := C0.2.1
  have hl := lv_entry ([.ref (base + 82), .int p1]) (n := 2) (Nat.le_of_ble_eq_true rfl)
  rw [lg_entry_eq]
  generalize (lg_sl ([.ref (base + 82), .int p1]) ++ List.replicate (2 - (lg_sl ([.ref (base + 82), .int p1])).length) Slot.unset).toArray = ls at hl ⊢
  have hl : lv_has ls 2 [(0, .ref (base + 82)), (1, .int p1)] := hl
  obtain ⟨Q, hQ⟩ : ∃ Q, Q = MQ below (gQi D base r u') ([.ref (base + 82), .int p1] : List Value).toArray s 0 0 (gF base) := ⟨_, rfl⟩
  rw [← hQ]
  change W p l e (gRm 6 0 0) s m _ below meth c _ _ _ _ _ _
  unfold f_X8_told at hf
  refine lv_aload_n hx hb dX8_told_0 rfl (lv_at hl 0 rfl) ?_
  refine lv_iload_n hx hb dX8_told_1 rfl (lv_at hl 1 rfl) ?_
  refine lv_bipush (v := (10 : Int32)) hx hb dX8_told_2 (by decide) ?_
  refine lv_bipush (v := (17 : Int32)) hx hb dX8_told_4 (by decide) ?_
  obtain ⟨r1, hc1, hf⟩ := pb_s hf
  refine g_doI0 hG (g_runV C0 hG (k_X8_in l D base Z u p1 (10 : Int32) (17 : Int32) r1 hc1) m_X8_in v_X8_in w_1082 (by decide) (g_recv C0 hG (L82 hG) rfl) rfl hl.1 rfl (Nat.le_of_ble_eq_true rfl) dX8_told_6 ⟨Nat.zero_le _, Nat.zero_le _⟩) (fun H locs hG hk => ?_)
  refine lv_if_eq (tgt := 22) hx hb dX8_told_9 (by decide) (fun c2 => ?_) (fun c2 => ?_)
  · have hf := gif_t c2 hf
    refine lv_aload_n hx hb dX8_told_22 rfl (lv_at hl 0 rfl) ?_
    refine lv_iload_n hx hb dX8_told_23 rfl (lv_at hl 1 rfl) ?_
    refine lv_bipush (v := (20 : Int32)) hx hb dX8_told_24 (by decide) ?_
    refine lv_bipush (v := (27 : Int32)) hx hb dX8_told_26 (by decide) ?_
    obtain ⟨r3, hc3, hf⟩ := pb_s hf
    refine g_doI0 hG (g_runV C0 hG (k_X8_in l D base Z u p1 (20 : Int32) (27 : Int32) r3 hc3) m_X8_in v_X8_in w_1082 (by decide) (g_recv C0 hG (L82 hG) rfl) rfl hl.1 rfl (Nat.le_of_ble_eq_true rfl) dX8_told_28 ⟨Nat.zero_le _, Nat.zero_le _⟩) (fun H locs hG hk => ?_)
    refine lv_if_eq (tgt := 44) hx hb dX8_told_31 (by decide) (fun c4 => ?_) (fun c4 => ?_)
    · have hf := gif_t c4 hf
      refine lv_aload_n hx hb dX8_told_44 rfl (lv_at hl 0 rfl) ?_
      refine lv_iload_n hx hb dX8_told_45 rfl (lv_at hl 1 rfl) ?_
      refine lv_bipush (v := (30 : Int32)) hx hb dX8_told_46 (by decide) ?_
      refine lv_bipush (v := (37 : Int32)) hx hb dX8_told_48 (by decide) ?_
      obtain ⟨r5, hc5, hf⟩ := pb_s hf
      refine g_doI0 hG (g_runV C0 hG (k_X8_in l D base Z u p1 (30 : Int32) (37 : Int32) r5 hc5) m_X8_in v_X8_in w_1082 (by decide) (g_recv C0 hG (L82 hG) rfl) rfl hl.1 rfl (Nat.le_of_ble_eq_true rfl) dX8_told_50 ⟨Nat.zero_le _, Nat.zero_le _⟩) (fun H locs hG hk => ?_)
      refine lv_if_eq (tgt := 65) hx hb dX8_told_53 (by decide) (fun c6 => ?_) (fun c6 => ?_)
      · have hf := gif_t c6 hf
        refine lv_iload_n hx hb dX8_told_65 rfl (lv_at hl 1 rfl) ?_
        refine (Decidable.em (p1 = (0 : Int32))).elim (fun c7 => ?_) (fun c7 => ?_)
        · have hf := gif_t c7 hf
          refine lv_tableIn (off := 34) (tgt := 100) hx hb dX8_told_66 (by rw [c7]; decide) (by rw [c7]; decide) (by rw [c7]; rfl) (by decide) ?_
          refine lv_aload_n hx hb dX8_told_100 rfl (lv_at hl 0 rfl) ?_
          refine g_getI C0 hG (L82 hG) rfl 4 (by decide) rfl w_850 dX8_told_101 ?_
          obtain ⟨hr1, hu⟩ := gret_s hf
          subst hr1
          subst hu
          subst hQ
          exact g_iret C0 hG hr dX8_told_104
        · have hf := gif_f c7 hf
          refine (Decidable.em (p1 = (1 : Int32))).elim (fun c8 => ?_) (fun c8 => ?_)
          · have hf := gif_t c8 hf
            refine lv_tableIn (off := 39) (tgt := 105) hx hb dX8_told_66 (by rw [c8]; decide) (by rw [c8]; decide) (by rw [c8]; rfl) (by decide) ?_
            refine lv_aload_n hx hb dX8_told_105 rfl (lv_at hl 0 rfl) ?_
            obtain ⟨r9, hc9, hf⟩ := pb_s hf
            refine g_doI0 hG (g_runV C0 hG (k_X8_slope l D base Z u r9 hc9) m_X8_slope v_X8_slope w_1254 (by decide) (g_recv C0 hG (L82 hG) rfl) rfl hl.1 rfl (Nat.le_of_ble_eq_true rfl) dX8_told_106 ⟨Nat.zero_le _, Nat.zero_le _⟩) (fun H locs hG hk => ?_)
            obtain ⟨hr1, hu⟩ := gret_s hf
            subst hr1
            subst hu
            subst hQ
            exact g_iret C0 hG hr dX8_told_109
          · have hf := gif_f c8 hf
            refine (Decidable.em (p1 = (2 : Int32))).elim (fun c10 => ?_) (fun c10 => ?_)
            · have hf := gif_t c10 hf
              refine lv_tableIn (off := 44) (tgt := 110) hx hb dX8_told_66 (by rw [c10]; decide) (by rw [c10]; decide) (by rw [c10]; rfl) (by decide) ?_
              refine lv_aload_n hx hb dX8_told_110 rfl (lv_at hl 0 rfl) ?_
              refine g_getI C0 hG (L82 hG) rfl 2 (by decide) rfl w_848 dX8_told_111 ?_
              obtain ⟨hr1, hu⟩ := gret_s hf
              subst hr1
              subst hu
              subst hQ
              exact g_iret C0 hG hr dX8_told_114
            · have hf := gif_f c10 hf
              refine (Decidable.em (p1 = (3 : Int32))).elim (fun c11 => ?_) (fun c11 => ?_)
              · have hf := gif_t c11 hf
                refine lv_tableIn (off := 49) (tgt := 115) hx hb dX8_told_66 (by rw [c11]; decide) (by rw [c11]; decide) (by rw [c11]; rfl) (by decide) ?_
                refine lv_aload_n hx hb dX8_told_115 rfl (lv_at hl 0 rfl) ?_
                refine g_getI C0 hG (L82 hG) rfl 3 (by decide) rfl w_849 dX8_told_116 ?_
                obtain ⟨hr1, hu⟩ := gret_s hf
                subst hr1
                subst hu
                subst hQ
                exact g_iret C0 hG hr dX8_told_119
              · have hf := gif_f c11 hf
                refine (Decidable.em (p1 = (4 : Int32))).elim (fun c12 => ?_) (fun c12 => ?_)
                · have hf := gif_t c12 hf
                  refine lv_tableIn (off := 54) (tgt := 120) hx hb dX8_told_66 (by rw [c12]; decide) (by rw [c12]; decide) (by rw [c12]; rfl) (by decide) ?_
                  refine lv_aload_n hx hb dX8_told_120 rfl (lv_at hl 0 rfl) ?_
                  obtain ⟨r13, u13, hc13, hf⟩ := obind_s hf
                  refine g_doI0 hG (g_runV C0 hG (k_X8_ash l D base Z u r13 u13 hc13) m_X8_ash v_X8_ash w_1266 (by decide) (g_recv C0 hG (L82 hG) rfl) rfl hl.1 rfl (Nat.le_of_ble_eq_true rfl) dX8_told_121 ⟨Nat.zero_le _, Nat.zero_le _⟩) (fun H locs hG hk => ?_)
                  obtain ⟨hr1, hu⟩ := gret_s hf
                  subst hr1
                  subst hu
                  subst hQ
                  exact g_iret C0 hG hr dX8_told_124
                · have hf := gif_f c12 hf
                  refine lv_tableOut (tgt := 125) hx hb dX8_told_66 (by
                      have n0 := lv_neT c7 (k := (0 : Int32)) (a := 0) (by decide)
                      have n1 := lv_neT c8 (k := (1 : Int32)) (a := 1) (by decide)
                      have n2 := lv_neT c10 (k := (2 : Int32)) (a := 2) (by decide)
                      have n3 := lv_neT c11 (k := (3 : Int32)) (a := 3) (by decide)
                      have n4 := lv_neT c12 (k := (4 : Int32)) (a := 4) (by decide)
                      omega) (by decide) ?_
                  refine lv_iconst (v := (-1 : Int32)) hx hb dX8_told_125 (by decide) ?_
                  obtain ⟨hr1, hu⟩ := gret_s hf
                  subst hr1
                  subst hu
                  subst hQ
                  exact g_iret C0 hG hr dX8_told_126
      · have hf := gif_f c6 hf
        refine lv_aload_n hx hb dX8_told_56 rfl (lv_at hl 0 rfl) ?_
        refine lv_iload_n hx hb dX8_told_57 rfl (lv_at hl 1 rfl) ?_
        refine lv_bipush (v := (30 : Int32)) hx hb dX8_told_58 (by decide) ?_
        refine lv_isub hx hb dX8_told_60 ?_
        obtain ⟨r14, hc14, hf⟩ := pb_s hf
        refine g_doI0 hG (g_runV C0 hG (k_X8_spread l D base Z u (p1 - (30 : Int32)) r14 hc14) m_X8_spread v_X8_spread w_1262 (by decide) (g_recv C0 hG (L82 hG) rfl) rfl hl.1 rfl (Nat.le_of_ble_eq_true rfl) dX8_told_61 ⟨Nat.zero_le _, Nat.zero_le _⟩) (fun H locs hG hk => ?_)
        obtain ⟨hr1, hu⟩ := gret_s hf
        subst hr1
        subst hu
        subst hQ
        exact g_iret C0 hG hr dX8_told_64
    · have hf := gif_f c4 hf
      refine lv_aload_n hx hb dX8_told_34 rfl (lv_at hl 0 rfl) ?_
      refine g_getSa (o := 6) (a := 88) C0 hG (L82 hG) rfl 10 (by decide) rfl rfl w_856 dX8_told_35 ?_
      refine lv_iload_n hx hb dX8_told_38 rfl (lv_at hl 1 rfl) ?_
      refine lv_bipush (v := (20 : Int32)) hx hb dX8_told_39 (by decide) ?_
      refine lv_isub hx hb dX8_told_41 ?_
      obtain ⟨h15, hf⟩ := gin_s hf
      refine g_iald C0 hG (L88 hG) h15 dX8_told_42 ?_
      obtain ⟨hr1, hu⟩ := gret_s hf
      subst hr1
      subst hu
      subst hQ
      exact g_iret C0 hG hr dX8_told_43
  · have hf := gif_f c2 hf
    refine lv_aload_n hx hb dX8_told_12 rfl (lv_at hl 0 rfl) ?_
    refine g_getSa (o := 7) (a := 89) C0 hG (L82 hG) rfl 11 (by decide) rfl rfl w_857 dX8_told_13 ?_
    refine lv_iload_n hx hb dX8_told_16 rfl (lv_at hl 1 rfl) ?_
    refine lv_bipush (v := (10 : Int32)) hx hb dX8_told_17 (by decide) ?_
    refine lv_isub hx hb dX8_told_19 ?_
    obtain ⟨h16, hf⟩ := gin_s hf
    refine g_iald C0 hG (L89 hG) h16 dX8_told_20 ?_
    obtain ⟨hr1, hu⟩ := gret_s hf
    subst hr1
    subst hu
    subst hQ
    exact g_iret C0 hG hr dX8_told_21
theorem dX8_on_0 : decode cX8_on 0 = .ok (.aload_n 0, 1) := by decide +kernel
theorem dX8_on_1 : decode cX8_on 1 = .ok (.iload_n 2, 1) := by decide +kernel
theorem dX8_on_2 : decode cX8_on 2 = .ok (.iconst 0, 1) := by decide +kernel
theorem dX8_on_3 : decode cX8_on 3 = .ok (.iconst 1, 1) := by decide +kernel
theorem dX8_on_4 : decode cX8_on 4 = .ok (.invokevirtual 249, 3) := by decide +kernel
theorem dX8_on_7 : decode cX8_on 7 = .ok (.ifCond .ne 34, 3) := by decide +kernel
theorem dX8_on_10 : decode cX8_on 10 = .ok (.aload_n 0, 1) := by decide +kernel
theorem dX8_on_11 : decode cX8_on 11 = .ok (.iload_n 2, 1) := by decide +kernel
theorem dX8_on_12 : decode cX8_on 12 = .ok (.bipush 10, 2) := by decide +kernel
theorem dX8_on_14 : decode cX8_on 14 = .ok (.bipush 9, 2) := by decide +kernel
theorem dX8_on_16 : decode cX8_on 16 = .ok (.aload_n 0, 1) := by decide +kernel
theorem dX8_on_17 : decode cX8_on 17 = .ok (.getfield 7, 3) := by decide +kernel
theorem dX8_on_20 : decode cX8_on 20 = .ok (.iadd, 1) := by decide +kernel
theorem dX8_on_21 : decode cX8_on 21 = .ok (.invokevirtual 249, 3) := by decide +kernel
theorem dX8_on_24 : decode cX8_on 24 = .ok (.ifCond .ne 17, 3) := by decide +kernel
theorem dX8_on_27 : decode cX8_on 27 = .ok (.aload_n 0, 1) := by decide +kernel
theorem dX8_on_28 : decode cX8_on 28 = .ok (.iload_n 2, 1) := by decide +kernel
theorem dX8_on_29 : decode cX8_on 29 = .ok (.bipush 20, 2) := by decide +kernel
theorem dX8_on_31 : decode cX8_on 31 = .ok (.bipush 27, 2) := by decide +kernel
theorem dX8_on_33 : decode cX8_on 33 = .ok (.invokevirtual 249, 3) := by decide +kernel
theorem dX8_on_36 : decode cX8_on 36 = .ok (.ifCond .ne 5, 3) := by decide +kernel
theorem dX8_on_39 : decode cX8_on 39 = .ok (.iconst (-1), 1) := by decide +kernel
theorem dX8_on_40 : decode cX8_on 40 = .ok (.ireturn, 1) := by decide +kernel
theorem dX8_on_41 : decode cX8_on 41 = .ok (.aload_n 0, 1) := by decide +kernel
theorem dX8_on_42 : decode cX8_on 42 = .ok (.iload_n 1, 1) := by decide +kernel
theorem dX8_on_43 : decode cX8_on 43 = .ok (.invokevirtual 355, 3) := by decide +kernel
theorem dX8_on_46 : decode cX8_on 46 = .ok (.ifCond .ne 6, 3) := by decide +kernel
theorem dX8_on_49 : decode cX8_on 49 = .ok (.bipush (-2), 2) := by decide +kernel
theorem dX8_on_51 : decode cX8_on 51 = .ok (.ireturn, 1) := by decide +kernel
theorem dX8_on_52 : decode cX8_on 52 = .ok (.aload_n 0, 1) := by decide +kernel
theorem dX8_on_53 : decode cX8_on 53 = .ok (.invokevirtual 367, 3) := by decide +kernel
theorem dX8_on_56 : decode cX8_on 56 = .ok (.aload_n 0, 1) := by decide +kernel
theorem dX8_on_57 : decode cX8_on 57 = .ok (.iload_n 1, 1) := by decide +kernel
theorem dX8_on_58 : decode cX8_on 58 = .ok (.invokevirtual 358, 3) := by decide +kernel
theorem dX8_on_61 : decode cX8_on 61 = .ok (.iload_n 2, 1) := by decide +kernel
theorem dX8_on_62 : decode cX8_on 62 = .ok (.ifCond .ne 10, 3) := by decide +kernel
theorem dX8_on_65 : decode cX8_on 65 = .ok (.aload_n 0, 1) := by decide +kernel
theorem dX8_on_66 : decode cX8_on 66 = .ok (.getfield 16, 3) := by decide +kernel
theorem dX8_on_69 : decode cX8_on 69 = .ok (.goto 42, 3) := by decide +kernel
theorem dX8_on_72 : decode cX8_on 72 = .ok (.iload_n 2, 1) := by decide +kernel
theorem dX8_on_73 : decode cX8_on 73 = .ok (.iconst 1, 1) := by decide +kernel
theorem dX8_on_74 : decode cX8_on 74 = .ok (.if_icmp .ne 10, 3) := by decide +kernel
theorem dX8_on_77 : decode cX8_on 77 = .ok (.aload_n 0, 1) := by decide +kernel
theorem dX8_on_78 : decode cX8_on 78 = .ok (.getfield 19, 3) := by decide +kernel
theorem dX8_on_81 : decode cX8_on 81 = .ok (.goto 30, 3) := by decide +kernel
theorem dX8_on_84 : decode cX8_on 84 = .ok (.iload_n 2, 1) := by decide +kernel
theorem dX8_on_85 : decode cX8_on 85 = .ok (.bipush 20, 2) := by decide +kernel
theorem dX8_on_87 : decode cX8_on 87 = .ok (.if_icmp .ge 15, 3) := by decide +kernel
theorem dX8_on_90 : decode cX8_on 90 = .ok (.aload_n 0, 1) := by decide +kernel
theorem dX8_on_91 : decode cX8_on 91 = .ok (.getfield 35, 3) := by decide +kernel
theorem dX8_on_94 : decode cX8_on 94 = .ok (.iload_n 2, 1) := by decide +kernel
theorem dX8_on_95 : decode cX8_on 95 = .ok (.bipush 10, 2) := by decide +kernel
theorem dX8_on_97 : decode cX8_on 97 = .ok (.isub, 1) := by decide +kernel
theorem dX8_on_98 : decode cX8_on 98 = .ok (.iaload, 1) := by decide +kernel
theorem dX8_on_99 : decode cX8_on 99 = .ok (.goto 12, 3) := by decide +kernel
theorem dX8_on_102 : decode cX8_on 102 = .ok (.aload_n 0, 1) := by decide +kernel
theorem dX8_on_103 : decode cX8_on 103 = .ok (.getfield 41, 3) := by decide +kernel
theorem dX8_on_106 : decode cX8_on 106 = .ok (.iload_n 2, 1) := by decide +kernel
theorem dX8_on_107 : decode cX8_on 107 = .ok (.bipush 20, 2) := by decide +kernel
theorem dX8_on_109 : decode cX8_on 109 = .ok (.isub, 1) := by decide +kernel
theorem dX8_on_110 : decode cX8_on 110 = .ok (.iaload, 1) := by decide +kernel
theorem dX8_on_111 : decode cX8_on 111 = .ok (.istore_n 3, 1) := by decide +kernel
theorem dX8_on_112 : decode cX8_on 112 = .ok (.aload_n 0, 1) := by decide +kernel
theorem dX8_on_113 : decode cX8_on 113 = .ok (.invokevirtual 370, 3) := by decide +kernel
theorem dX8_on_116 : decode cX8_on 116 = .ok (.iload_n 3, 1) := by decide +kernel
theorem dX8_on_117 : decode cX8_on 117 = .ok (.ireturn, 1) := by decide +kernel
def f_X8_on (p1 : Int32) (p2 : Int32) (u : Mem) : Option (Int32 × Mem) := Option.bind (f_X8_in p2 (0 : Int32) (1 : Int32)) (fun r1 => (if r1 = 0 then Option.bind (f_X8_in p2 (10 : Int32) ((9 : Int32) + (gI u 82 0))) (fun r16 => (if r16 = 0 then Option.bind (f_X8_in p2 (20 : Int32) (27 : Int32)) (fun r31 => (if r31 = 0 then some ((-1 : Int32), u) else Option.bind (f_X8_isMinutes p1) (fun r33 => (if r33 = 0 then some ((-2 : Int32), u) else obind (f_X8_save u) (fun _ u35 => obind (f_X8_goMinutes p1 u35) (fun _ u36 => (if p2 = 0 then obind (f_X8_putBack u36) (fun _ u45 => some (gI u36 82 2, u45)) else (if p2 = (1 : Int32) then obind (f_X8_putBack u36) (fun _ u44 => some (gI u36 82 3, u44)) else (if (20 : Int32) ≤ p2 then gin (p2 - (20 : Int32)) 8 (obind (f_X8_putBack u36) (fun _ u41 => some (gA u36 88 (p2 - (20 : Int32)).toNatClampNeg, u41))) else gin (p2 - (10 : Int32)) 6 (obind (f_X8_putBack u36) (fun _ u43 => some (gA u36 86 (p2 - (10 : Int32)).toNatClampNeg, u43)))))))))))) else Option.bind (f_X8_isMinutes p1) (fun r18 => (if r18 = 0 then some ((-2 : Int32), u) else obind (f_X8_save u) (fun _ u20 => obind (f_X8_goMinutes p1 u20) (fun _ u21 => (if p2 = 0 then obind (f_X8_putBack u21) (fun _ u30 => some (gI u21 82 2, u30)) else (if p2 = (1 : Int32) then obind (f_X8_putBack u21) (fun _ u29 => some (gI u21 82 3, u29)) else (if (20 : Int32) ≤ p2 then gin (p2 - (20 : Int32)) 8 (obind (f_X8_putBack u21) (fun _ u26 => some (gA u21 88 (p2 - (20 : Int32)).toNatClampNeg, u26))) else gin (p2 - (10 : Int32)) 6 (obind (f_X8_putBack u21) (fun _ u28 => some (gA u21 86 (p2 - (10 : Int32)).toNatClampNeg, u28)))))))))))) else Option.bind (f_X8_isMinutes p1) (fun r3 => (if r3 = 0 then some ((-2 : Int32), u) else obind (f_X8_save u) (fun _ u5 => obind (f_X8_goMinutes p1 u5) (fun _ u6 => (if p2 = 0 then obind (f_X8_putBack u6) (fun _ u15 => some (gI u6 82 2, u15)) else (if p2 = (1 : Int32) then obind (f_X8_putBack u6) (fun _ u14 => some (gI u6 82 3, u14)) else (if (20 : Int32) ≤ p2 then gin (p2 - (20 : Int32)) 8 (obind (f_X8_putBack u6) (fun _ u11 => some (gA u6 88 (p2 - (20 : Int32)).toNatClampNeg, u11))) else gin (p2 - (10 : Int32)) 6 (obind (f_X8_putBack u6) (fun _ u13 => some (gA u6 86 (p2 - (10 : Int32)).toNatClampNeg, u13))))))))))))
set_option maxHeartbeats 4000000 in
set_option maxRecDepth 100000 in
theorem k_X8_on (l : Launch) (D : gDt) (base : Nat) (Z : gZt) (u : Mem) (p1 : Int32) (p2 : Int32) (r : Int32) (u' : Mem) (hf : f_X8_on p1 p2 u = some (r, u')) : Met l yX8_on (gws yX8_on cX8_on 4 (some .int)) (gRm 8 0 0) (gPc D base Z u [.ref (base + 82), .int p1, .int p2]) (gQi D base r u') 0 0 (gF base) := by
  refine Met.ofW (cc := cX8_on) (maxL := 4) (ret := some .int) (by decide) rfl ?_
  intro p e s m args below meth c s₁ B hml hv
  obtain ⟨rfl, C0, hG⟩ := g_enter B hml hv
  have hr := B.returns
  have C0 : gC p s m meth c _ cX8_on 4 RX8 D base Z := C0
  have hx := C0.1
  have hb := C0.2.1
  have hl := lv_entry ([.ref (base + 82), .int p1, .int p2]) (n := 4) (Nat.le_of_ble_eq_true rfl)
  rw [lg_entry_eq]
  generalize (lg_sl ([.ref (base + 82), .int p1, .int p2]) ++ List.replicate (4 - (lg_sl ([.ref (base + 82), .int p1, .int p2])).length) Slot.unset).toArray = ls at hl ⊢
  have hl : lv_has ls 4 [(0, .ref (base + 82)), (1, .int p1), (2, .int p2)] := hl
  obtain ⟨Q, hQ⟩ : ∃ Q, Q = MQ below (gQi D base r u') ([.ref (base + 82), .int p1, .int p2] : List Value).toArray s 0 0 (gF base) := ⟨_, rfl⟩
  rw [← hQ]
  change W p l e (gRm 8 0 0) s m _ below meth c _ _ _ _ _ _
  unfold f_X8_on at hf
  refine lv_aload_n hx hb dX8_on_0 rfl (lv_at hl 0 rfl) ?_
  refine lv_iload_n hx hb dX8_on_1 rfl (lv_at hl 2 rfl) ?_
  refine lv_iconst (v := (0 : Int32)) hx hb dX8_on_2 (by decide) ?_
  refine lv_iconst (v := (1 : Int32)) hx hb dX8_on_3 (by decide) ?_
  obtain ⟨r1, hc1, hf⟩ := pb_s hf
  refine g_doI0 hG (g_runV C0 hG (k_X8_in l D base Z u p2 (0 : Int32) (1 : Int32) r1 hc1) m_X8_in v_X8_in w_1082 (by decide) (g_recv C0 hG (L82 hG) rfl) rfl hl.1 rfl (Nat.le_of_ble_eq_true rfl) dX8_on_4 ⟨Nat.zero_le _, Nat.zero_le _⟩) (fun H locs hG hk => ?_)
  refine lv_if_ne (tgt := 41) hx hb dX8_on_7 (by decide) (fun c2 => ?_) (fun c2 => ?_)
  · have hf := gif_f c2 hf
    refine lv_aload_n hx hb dX8_on_41 rfl (lv_at hl 0 rfl) ?_
    refine lv_iload_n hx hb dX8_on_42 rfl (lv_at hl 1 rfl) ?_
    obtain ⟨r3, hc3, hf⟩ := pb_s hf
    refine g_doI0 hG (g_runV C0 hG (k_X8_isMinutes l D base Z u p1 r3 hc3) m_X8_isMinutes v_X8_isMinutes w_1234 (by decide) (g_recv C0 hG (L82 hG) rfl) rfl hl.1 rfl (Nat.le_of_ble_eq_true rfl) dX8_on_43 ⟨Nat.zero_le _, Nat.zero_le _⟩) (fun H locs hG hk => ?_)
    refine lv_if_ne (tgt := 52) hx hb dX8_on_46 (by decide) (fun c4 => ?_) (fun c4 => ?_)
    · have hf := gif_f c4 hf
      refine lv_aload_n hx hb dX8_on_52 rfl (lv_at hl 0 rfl) ?_
      obtain ⟨_, u5, hc5, hf⟩ := obind_s hf
      refine g_doV0 hG (g_runV C0 hG (k_X8_save l D base Z u u5 hc5) m_X8_save v_X8_save w_1274 (by decide) (g_recv C0 hG (L82 hG) rfl) rfl hl.1 rfl (Nat.le_of_ble_eq_true rfl) dX8_on_53 ⟨Nat.zero_le _, Nat.zero_le _⟩) (fun H locs hG hk => ?_)
      refine lv_aload_n hx hb dX8_on_56 rfl (lv_at hl 0 rfl) ?_
      refine lv_iload_n hx hb dX8_on_57 rfl (lv_at hl 1 rfl) ?_
      obtain ⟨_, u6, hc6, hf⟩ := obind_s hf
      refine g_doV0 hG (g_runV C0 hG (k_X8_goMinutes l D base Z u5 p1 u6 hc6) m_X8_goMinutes v_X8_goMinutes w_1238 (by decide) (g_recv C0 hG (L82 hG) rfl) rfl hl.1 rfl (Nat.le_of_ble_eq_true rfl) dX8_on_58 ⟨Nat.zero_le _, Nat.zero_le _⟩) (fun H locs hG hk => ?_)
      refine lv_iload_n hx hb dX8_on_61 rfl (lv_at hl 2 rfl) ?_
      refine lv_if_ne (tgt := 72) hx hb dX8_on_62 (by decide) (fun c7 => ?_) (fun c7 => ?_)
      · have hf := gif_f c7 hf
        refine lv_iload_n hx hb dX8_on_72 rfl (lv_at hl 2 rfl) ?_
        refine lv_iconst (v := (1 : Int32)) hx hb dX8_on_73 (by decide) ?_
        refine lv_icmp_ne (tgt := 84) hx hb dX8_on_74 (by decide) (fun c8 => ?_) (fun c8 => ?_)
        · have hf := gif_f c8 hf
          refine lv_iload_n hx hb dX8_on_84 rfl (lv_at hl 2 rfl) ?_
          refine lv_bipush (v := (20 : Int32)) hx hb dX8_on_85 (by decide) ?_
          refine lv_icmp_ge (tgt := 102) hx hb dX8_on_87 (by decide) (fun c9 => ?_) (fun c9 => ?_)
          · have hf := gif_t c9 hf
            refine lv_aload_n hx hb dX8_on_102 rfl (lv_at hl 0 rfl) ?_
            refine g_getSa (o := 6) (a := 88) C0 hG (L82 hG) rfl 10 (by decide) rfl rfl w_856 dX8_on_103 ?_
            refine lv_iload_n hx hb dX8_on_106 rfl (lv_at hl 2 rfl) ?_
            refine lv_bipush (v := (20 : Int32)) hx hb dX8_on_107 (by decide) ?_
            refine lv_isub hx hb dX8_on_109 ?_
            obtain ⟨h10, hf⟩ := gin_s hf
            refine g_iald C0 hG (L88 hG) h10 dX8_on_110 ?_
            refine lv_istore_n (lv' := [(3, .int (gA u6 88 (p2 - (20 : Int32)).toNatClampNeg)), (0, .ref (base + 82)), (1, .int p1), (2, .int p2)]) hx hb dX8_on_111 rfl hl (by decide) rfl (fun ls hl => ?_)
            refine lv_aload_n hx hb dX8_on_112 rfl (lv_at hl 1 rfl) ?_
            obtain ⟨_, u11, hc11, hf⟩ := obind_s hf
            refine g_doV0 hG (g_runV C0 hG (k_X8_putBack l D base Z u6 u11 hc11) m_X8_putBack v_X8_putBack w_1278 (by decide) (g_recv C0 hG (L82 hG) rfl) rfl hl.1 rfl (Nat.le_of_ble_eq_true rfl) dX8_on_113 ⟨Nat.zero_le _, Nat.zero_le _⟩) (fun H locs hG hk => ?_)
            refine lv_iload_n hx hb dX8_on_116 rfl (lv_at hl 0 rfl) ?_
            obtain ⟨hr1, hu⟩ := gret_s hf
            subst hr1
            subst hu
            subst hQ
            exact g_iret C0 hG hr dX8_on_117
          · have hf := gif_f c9 hf
            refine lv_aload_n hx hb dX8_on_90 rfl (lv_at hl 0 rfl) ?_
            refine g_getSa (o := 4) (a := 86) C0 hG (L82 hG) rfl 8 (by decide) rfl rfl w_854 dX8_on_91 ?_
            refine lv_iload_n hx hb dX8_on_94 rfl (lv_at hl 2 rfl) ?_
            refine lv_bipush (v := (10 : Int32)) hx hb dX8_on_95 (by decide) ?_
            refine lv_isub hx hb dX8_on_97 ?_
            obtain ⟨h12, hf⟩ := gin_s hf
            refine g_iald C0 hG (L86 hG) h12 dX8_on_98 ?_
            refine lv_goto (tgt := 111) hx hb dX8_on_99 (by decide) ?_
            refine lv_istore_n (lv' := [(3, .int (gA u6 86 (p2 - (10 : Int32)).toNatClampNeg)), (0, .ref (base + 82)), (1, .int p1), (2, .int p2)]) hx hb dX8_on_111 rfl hl (by decide) rfl (fun ls hl => ?_)
            refine lv_aload_n hx hb dX8_on_112 rfl (lv_at hl 1 rfl) ?_
            obtain ⟨_, u13, hc13, hf⟩ := obind_s hf
            refine g_doV0 hG (g_runV C0 hG (k_X8_putBack l D base Z u6 u13 hc13) m_X8_putBack v_X8_putBack w_1278 (by decide) (g_recv C0 hG (L82 hG) rfl) rfl hl.1 rfl (Nat.le_of_ble_eq_true rfl) dX8_on_113 ⟨Nat.zero_le _, Nat.zero_le _⟩) (fun H locs hG hk => ?_)
            refine lv_iload_n hx hb dX8_on_116 rfl (lv_at hl 0 rfl) ?_
            obtain ⟨hr1, hu⟩ := gret_s hf
            subst hr1
            subst hu
            subst hQ
            exact g_iret C0 hG hr dX8_on_117
        · have hf := gif_t c8 hf
          refine lv_aload_n hx hb dX8_on_77 rfl (lv_at hl 0 rfl) ?_
          refine g_getI C0 hG (L82 hG) rfl 3 (by decide) rfl w_849 dX8_on_78 ?_
          refine lv_goto (tgt := 111) hx hb dX8_on_81 (by decide) ?_
          refine lv_istore_n (lv' := [(3, .int (gI u6 82 3)), (0, .ref (base + 82)), (1, .int p1), (2, .int p2)]) hx hb dX8_on_111 rfl hl (by decide) rfl (fun ls hl => ?_)
          refine lv_aload_n hx hb dX8_on_112 rfl (lv_at hl 1 rfl) ?_
          obtain ⟨_, u14, hc14, hf⟩ := obind_s hf
          refine g_doV0 hG (g_runV C0 hG (k_X8_putBack l D base Z u6 u14 hc14) m_X8_putBack v_X8_putBack w_1278 (by decide) (g_recv C0 hG (L82 hG) rfl) rfl hl.1 rfl (Nat.le_of_ble_eq_true rfl) dX8_on_113 ⟨Nat.zero_le _, Nat.zero_le _⟩) (fun H locs hG hk => ?_)
          refine lv_iload_n hx hb dX8_on_116 rfl (lv_at hl 0 rfl) ?_
          obtain ⟨hr1, hu⟩ := gret_s hf
          subst hr1
          subst hu
          subst hQ
          exact g_iret C0 hG hr dX8_on_117
      · have hf := gif_t c7 hf
        refine lv_aload_n hx hb dX8_on_65 rfl (lv_at hl 0 rfl) ?_
        refine g_getI C0 hG (L82 hG) rfl 2 (by decide) rfl w_848 dX8_on_66 ?_
        refine lv_goto (tgt := 111) hx hb dX8_on_69 (by decide) ?_
        refine lv_istore_n (lv' := [(3, .int (gI u6 82 2)), (0, .ref (base + 82)), (1, .int p1), (2, .int p2)]) hx hb dX8_on_111 rfl hl (by decide) rfl (fun ls hl => ?_)
        refine lv_aload_n hx hb dX8_on_112 rfl (lv_at hl 1 rfl) ?_
        obtain ⟨_, u15, hc15, hf⟩ := obind_s hf
        refine g_doV0 hG (g_runV C0 hG (k_X8_putBack l D base Z u6 u15 hc15) m_X8_putBack v_X8_putBack w_1278 (by decide) (g_recv C0 hG (L82 hG) rfl) rfl hl.1 rfl (Nat.le_of_ble_eq_true rfl) dX8_on_113 ⟨Nat.zero_le _, Nat.zero_le _⟩) (fun H locs hG hk => ?_)
        refine lv_iload_n hx hb dX8_on_116 rfl (lv_at hl 0 rfl) ?_
        obtain ⟨hr1, hu⟩ := gret_s hf
        subst hr1
        subst hu
        subst hQ
        exact g_iret C0 hG hr dX8_on_117
    · have hf := gif_t c4 hf
      refine lv_bipush (v := (-2 : Int32)) hx hb dX8_on_49 (by decide) ?_
      obtain ⟨hr1, hu⟩ := gret_s hf
      subst hr1
      subst hu
      subst hQ
      exact g_iret C0 hG hr dX8_on_51
  · have hf := gif_t c2 hf
    refine lv_aload_n hx hb dX8_on_10 rfl (lv_at hl 0 rfl) ?_
    refine lv_iload_n hx hb dX8_on_11 rfl (lv_at hl 2 rfl) ?_
    refine lv_bipush (v := (10 : Int32)) hx hb dX8_on_12 (by decide) ?_
    refine lv_bipush (v := (9 : Int32)) hx hb dX8_on_14 (by decide) ?_
    refine lv_aload_n hx hb dX8_on_16 rfl (lv_at hl 0 rfl) ?_
    refine g_getI C0 hG (L82 hG) rfl 0 (by decide) rfl w_846 dX8_on_17 ?_
    refine lv_iadd hx hb dX8_on_20 ?_
    obtain ⟨r16, hc16, hf⟩ := pb_s hf
    refine g_doI0 hG (g_runV C0 hG (k_X8_in l D base Z u p2 (10 : Int32) ((9 : Int32) + (gI u 82 0)) r16 hc16) m_X8_in v_X8_in w_1082 (by decide) (g_recv C0 hG (L82 hG) rfl) rfl hl.1 rfl (Nat.le_of_ble_eq_true rfl) dX8_on_21 ⟨Nat.zero_le _, Nat.zero_le _⟩) (fun H locs hG hk => ?_)
    refine lv_if_ne (tgt := 41) hx hb dX8_on_24 (by decide) (fun c17 => ?_) (fun c17 => ?_)
    · have hf := gif_f c17 hf
      refine lv_aload_n hx hb dX8_on_41 rfl (lv_at hl 0 rfl) ?_
      refine lv_iload_n hx hb dX8_on_42 rfl (lv_at hl 1 rfl) ?_
      obtain ⟨r18, hc18, hf⟩ := pb_s hf
      refine g_doI0 hG (g_runV C0 hG (k_X8_isMinutes l D base Z u p1 r18 hc18) m_X8_isMinutes v_X8_isMinutes w_1234 (by decide) (g_recv C0 hG (L82 hG) rfl) rfl hl.1 rfl (Nat.le_of_ble_eq_true rfl) dX8_on_43 ⟨Nat.zero_le _, Nat.zero_le _⟩) (fun H locs hG hk => ?_)
      refine lv_if_ne (tgt := 52) hx hb dX8_on_46 (by decide) (fun c19 => ?_) (fun c19 => ?_)
      · have hf := gif_f c19 hf
        refine lv_aload_n hx hb dX8_on_52 rfl (lv_at hl 0 rfl) ?_
        obtain ⟨_, u20, hc20, hf⟩ := obind_s hf
        refine g_doV0 hG (g_runV C0 hG (k_X8_save l D base Z u u20 hc20) m_X8_save v_X8_save w_1274 (by decide) (g_recv C0 hG (L82 hG) rfl) rfl hl.1 rfl (Nat.le_of_ble_eq_true rfl) dX8_on_53 ⟨Nat.zero_le _, Nat.zero_le _⟩) (fun H locs hG hk => ?_)
        refine lv_aload_n hx hb dX8_on_56 rfl (lv_at hl 0 rfl) ?_
        refine lv_iload_n hx hb dX8_on_57 rfl (lv_at hl 1 rfl) ?_
        obtain ⟨_, u21, hc21, hf⟩ := obind_s hf
        refine g_doV0 hG (g_runV C0 hG (k_X8_goMinutes l D base Z u20 p1 u21 hc21) m_X8_goMinutes v_X8_goMinutes w_1238 (by decide) (g_recv C0 hG (L82 hG) rfl) rfl hl.1 rfl (Nat.le_of_ble_eq_true rfl) dX8_on_58 ⟨Nat.zero_le _, Nat.zero_le _⟩) (fun H locs hG hk => ?_)
        refine lv_iload_n hx hb dX8_on_61 rfl (lv_at hl 2 rfl) ?_
        refine lv_if_ne (tgt := 72) hx hb dX8_on_62 (by decide) (fun c22 => ?_) (fun c22 => ?_)
        · have hf := gif_f c22 hf
          refine lv_iload_n hx hb dX8_on_72 rfl (lv_at hl 2 rfl) ?_
          refine lv_iconst (v := (1 : Int32)) hx hb dX8_on_73 (by decide) ?_
          refine lv_icmp_ne (tgt := 84) hx hb dX8_on_74 (by decide) (fun c23 => ?_) (fun c23 => ?_)
          · have hf := gif_f c23 hf
            refine lv_iload_n hx hb dX8_on_84 rfl (lv_at hl 2 rfl) ?_
            refine lv_bipush (v := (20 : Int32)) hx hb dX8_on_85 (by decide) ?_
            refine lv_icmp_ge (tgt := 102) hx hb dX8_on_87 (by decide) (fun c24 => ?_) (fun c24 => ?_)
            · have hf := gif_t c24 hf
              refine lv_aload_n hx hb dX8_on_102 rfl (lv_at hl 0 rfl) ?_
              refine g_getSa (o := 6) (a := 88) C0 hG (L82 hG) rfl 10 (by decide) rfl rfl w_856 dX8_on_103 ?_
              refine lv_iload_n hx hb dX8_on_106 rfl (lv_at hl 2 rfl) ?_
              refine lv_bipush (v := (20 : Int32)) hx hb dX8_on_107 (by decide) ?_
              refine lv_isub hx hb dX8_on_109 ?_
              obtain ⟨h25, hf⟩ := gin_s hf
              refine g_iald C0 hG (L88 hG) h25 dX8_on_110 ?_
              refine lv_istore_n (lv' := [(3, .int (gA u21 88 (p2 - (20 : Int32)).toNatClampNeg)), (0, .ref (base + 82)), (1, .int p1), (2, .int p2)]) hx hb dX8_on_111 rfl hl (by decide) rfl (fun ls hl => ?_)
              refine lv_aload_n hx hb dX8_on_112 rfl (lv_at hl 1 rfl) ?_
              obtain ⟨_, u26, hc26, hf⟩ := obind_s hf
              refine g_doV0 hG (g_runV C0 hG (k_X8_putBack l D base Z u21 u26 hc26) m_X8_putBack v_X8_putBack w_1278 (by decide) (g_recv C0 hG (L82 hG) rfl) rfl hl.1 rfl (Nat.le_of_ble_eq_true rfl) dX8_on_113 ⟨Nat.zero_le _, Nat.zero_le _⟩) (fun H locs hG hk => ?_)
              refine lv_iload_n hx hb dX8_on_116 rfl (lv_at hl 0 rfl) ?_
              obtain ⟨hr1, hu⟩ := gret_s hf
              subst hr1
              subst hu
              subst hQ
              exact g_iret C0 hG hr dX8_on_117
            · have hf := gif_f c24 hf
              refine lv_aload_n hx hb dX8_on_90 rfl (lv_at hl 0 rfl) ?_
              refine g_getSa (o := 4) (a := 86) C0 hG (L82 hG) rfl 8 (by decide) rfl rfl w_854 dX8_on_91 ?_
              refine lv_iload_n hx hb dX8_on_94 rfl (lv_at hl 2 rfl) ?_
              refine lv_bipush (v := (10 : Int32)) hx hb dX8_on_95 (by decide) ?_
              refine lv_isub hx hb dX8_on_97 ?_
              obtain ⟨h27, hf⟩ := gin_s hf
              refine g_iald C0 hG (L86 hG) h27 dX8_on_98 ?_
              refine lv_goto (tgt := 111) hx hb dX8_on_99 (by decide) ?_
              refine lv_istore_n (lv' := [(3, .int (gA u21 86 (p2 - (10 : Int32)).toNatClampNeg)), (0, .ref (base + 82)), (1, .int p1), (2, .int p2)]) hx hb dX8_on_111 rfl hl (by decide) rfl (fun ls hl => ?_)
              refine lv_aload_n hx hb dX8_on_112 rfl (lv_at hl 1 rfl) ?_
              obtain ⟨_, u28, hc28, hf⟩ := obind_s hf
              refine g_doV0 hG (g_runV C0 hG (k_X8_putBack l D base Z u21 u28 hc28) m_X8_putBack v_X8_putBack w_1278 (by decide) (g_recv C0 hG (L82 hG) rfl) rfl hl.1 rfl (Nat.le_of_ble_eq_true rfl) dX8_on_113 ⟨Nat.zero_le _, Nat.zero_le _⟩) (fun H locs hG hk => ?_)
              refine lv_iload_n hx hb dX8_on_116 rfl (lv_at hl 0 rfl) ?_
              obtain ⟨hr1, hu⟩ := gret_s hf
              subst hr1
              subst hu
              subst hQ
              exact g_iret C0 hG hr dX8_on_117
          · have hf := gif_t c23 hf
            refine lv_aload_n hx hb dX8_on_77 rfl (lv_at hl 0 rfl) ?_
            refine g_getI C0 hG (L82 hG) rfl 3 (by decide) rfl w_849 dX8_on_78 ?_
            refine lv_goto (tgt := 111) hx hb dX8_on_81 (by decide) ?_
            refine lv_istore_n (lv' := [(3, .int (gI u21 82 3)), (0, .ref (base + 82)), (1, .int p1), (2, .int p2)]) hx hb dX8_on_111 rfl hl (by decide) rfl (fun ls hl => ?_)
            refine lv_aload_n hx hb dX8_on_112 rfl (lv_at hl 1 rfl) ?_
            obtain ⟨_, u29, hc29, hf⟩ := obind_s hf
            refine g_doV0 hG (g_runV C0 hG (k_X8_putBack l D base Z u21 u29 hc29) m_X8_putBack v_X8_putBack w_1278 (by decide) (g_recv C0 hG (L82 hG) rfl) rfl hl.1 rfl (Nat.le_of_ble_eq_true rfl) dX8_on_113 ⟨Nat.zero_le _, Nat.zero_le _⟩) (fun H locs hG hk => ?_)
            refine lv_iload_n hx hb dX8_on_116 rfl (lv_at hl 0 rfl) ?_
            obtain ⟨hr1, hu⟩ := gret_s hf
            subst hr1
            subst hu
            subst hQ
            exact g_iret C0 hG hr dX8_on_117
        · have hf := gif_t c22 hf
          refine lv_aload_n hx hb dX8_on_65 rfl (lv_at hl 0 rfl) ?_
          refine g_getI C0 hG (L82 hG) rfl 2 (by decide) rfl w_848 dX8_on_66 ?_
          refine lv_goto (tgt := 111) hx hb dX8_on_69 (by decide) ?_
          refine lv_istore_n (lv' := [(3, .int (gI u21 82 2)), (0, .ref (base + 82)), (1, .int p1), (2, .int p2)]) hx hb dX8_on_111 rfl hl (by decide) rfl (fun ls hl => ?_)
          refine lv_aload_n hx hb dX8_on_112 rfl (lv_at hl 1 rfl) ?_
          obtain ⟨_, u30, hc30, hf⟩ := obind_s hf
          refine g_doV0 hG (g_runV C0 hG (k_X8_putBack l D base Z u21 u30 hc30) m_X8_putBack v_X8_putBack w_1278 (by decide) (g_recv C0 hG (L82 hG) rfl) rfl hl.1 rfl (Nat.le_of_ble_eq_true rfl) dX8_on_113 ⟨Nat.zero_le _, Nat.zero_le _⟩) (fun H locs hG hk => ?_)
          refine lv_iload_n hx hb dX8_on_116 rfl (lv_at hl 0 rfl) ?_
          obtain ⟨hr1, hu⟩ := gret_s hf
          subst hr1
          subst hu
          subst hQ
          exact g_iret C0 hG hr dX8_on_117
      · have hf := gif_t c19 hf
        refine lv_bipush (v := (-2 : Int32)) hx hb dX8_on_49 (by decide) ?_
        obtain ⟨hr1, hu⟩ := gret_s hf
        subst hr1
        subst hu
        subst hQ
        exact g_iret C0 hG hr dX8_on_51
    · have hf := gif_t c17 hf
      refine lv_aload_n hx hb dX8_on_27 rfl (lv_at hl 0 rfl) ?_
      refine lv_iload_n hx hb dX8_on_28 rfl (lv_at hl 2 rfl) ?_
      refine lv_bipush (v := (20 : Int32)) hx hb dX8_on_29 (by decide) ?_
      refine lv_bipush (v := (27 : Int32)) hx hb dX8_on_31 (by decide) ?_
      obtain ⟨r31, hc31, hf⟩ := pb_s hf
      refine g_doI0 hG (g_runV C0 hG (k_X8_in l D base Z u p2 (20 : Int32) (27 : Int32) r31 hc31) m_X8_in v_X8_in w_1082 (by decide) (g_recv C0 hG (L82 hG) rfl) rfl hl.1 rfl (Nat.le_of_ble_eq_true rfl) dX8_on_33 ⟨Nat.zero_le _, Nat.zero_le _⟩) (fun H locs hG hk => ?_)
      refine lv_if_ne (tgt := 41) hx hb dX8_on_36 (by decide) (fun c32 => ?_) (fun c32 => ?_)
      · have hf := gif_f c32 hf
        refine lv_aload_n hx hb dX8_on_41 rfl (lv_at hl 0 rfl) ?_
        refine lv_iload_n hx hb dX8_on_42 rfl (lv_at hl 1 rfl) ?_
        obtain ⟨r33, hc33, hf⟩ := pb_s hf
        refine g_doI0 hG (g_runV C0 hG (k_X8_isMinutes l D base Z u p1 r33 hc33) m_X8_isMinutes v_X8_isMinutes w_1234 (by decide) (g_recv C0 hG (L82 hG) rfl) rfl hl.1 rfl (Nat.le_of_ble_eq_true rfl) dX8_on_43 ⟨Nat.zero_le _, Nat.zero_le _⟩) (fun H locs hG hk => ?_)
        refine lv_if_ne (tgt := 52) hx hb dX8_on_46 (by decide) (fun c34 => ?_) (fun c34 => ?_)
        · have hf := gif_f c34 hf
          refine lv_aload_n hx hb dX8_on_52 rfl (lv_at hl 0 rfl) ?_
          obtain ⟨_, u35, hc35, hf⟩ := obind_s hf
          refine g_doV0 hG (g_runV C0 hG (k_X8_save l D base Z u u35 hc35) m_X8_save v_X8_save w_1274 (by decide) (g_recv C0 hG (L82 hG) rfl) rfl hl.1 rfl (Nat.le_of_ble_eq_true rfl) dX8_on_53 ⟨Nat.zero_le _, Nat.zero_le _⟩) (fun H locs hG hk => ?_)
          refine lv_aload_n hx hb dX8_on_56 rfl (lv_at hl 0 rfl) ?_
          refine lv_iload_n hx hb dX8_on_57 rfl (lv_at hl 1 rfl) ?_
          obtain ⟨_, u36, hc36, hf⟩ := obind_s hf
          refine g_doV0 hG (g_runV C0 hG (k_X8_goMinutes l D base Z u35 p1 u36 hc36) m_X8_goMinutes v_X8_goMinutes w_1238 (by decide) (g_recv C0 hG (L82 hG) rfl) rfl hl.1 rfl (Nat.le_of_ble_eq_true rfl) dX8_on_58 ⟨Nat.zero_le _, Nat.zero_le _⟩) (fun H locs hG hk => ?_)
          refine lv_iload_n hx hb dX8_on_61 rfl (lv_at hl 2 rfl) ?_
          refine lv_if_ne (tgt := 72) hx hb dX8_on_62 (by decide) (fun c37 => ?_) (fun c37 => ?_)
          · have hf := gif_f c37 hf
            refine lv_iload_n hx hb dX8_on_72 rfl (lv_at hl 2 rfl) ?_
            refine lv_iconst (v := (1 : Int32)) hx hb dX8_on_73 (by decide) ?_
            refine lv_icmp_ne (tgt := 84) hx hb dX8_on_74 (by decide) (fun c38 => ?_) (fun c38 => ?_)
            · have hf := gif_f c38 hf
              refine lv_iload_n hx hb dX8_on_84 rfl (lv_at hl 2 rfl) ?_
              refine lv_bipush (v := (20 : Int32)) hx hb dX8_on_85 (by decide) ?_
              refine lv_icmp_ge (tgt := 102) hx hb dX8_on_87 (by decide) (fun c39 => ?_) (fun c39 => ?_)
              · have hf := gif_t c39 hf
                refine lv_aload_n hx hb dX8_on_102 rfl (lv_at hl 0 rfl) ?_
                refine g_getSa (o := 6) (a := 88) C0 hG (L82 hG) rfl 10 (by decide) rfl rfl w_856 dX8_on_103 ?_
                refine lv_iload_n hx hb dX8_on_106 rfl (lv_at hl 2 rfl) ?_
                refine lv_bipush (v := (20 : Int32)) hx hb dX8_on_107 (by decide) ?_
                refine lv_isub hx hb dX8_on_109 ?_
                obtain ⟨h40, hf⟩ := gin_s hf
                refine g_iald C0 hG (L88 hG) h40 dX8_on_110 ?_
                refine lv_istore_n (lv' := [(3, .int (gA u36 88 (p2 - (20 : Int32)).toNatClampNeg)), (0, .ref (base + 82)), (1, .int p1), (2, .int p2)]) hx hb dX8_on_111 rfl hl (by decide) rfl (fun ls hl => ?_)
                refine lv_aload_n hx hb dX8_on_112 rfl (lv_at hl 1 rfl) ?_
                obtain ⟨_, u41, hc41, hf⟩ := obind_s hf
                refine g_doV0 hG (g_runV C0 hG (k_X8_putBack l D base Z u36 u41 hc41) m_X8_putBack v_X8_putBack w_1278 (by decide) (g_recv C0 hG (L82 hG) rfl) rfl hl.1 rfl (Nat.le_of_ble_eq_true rfl) dX8_on_113 ⟨Nat.zero_le _, Nat.zero_le _⟩) (fun H locs hG hk => ?_)
                refine lv_iload_n hx hb dX8_on_116 rfl (lv_at hl 0 rfl) ?_
                obtain ⟨hr1, hu⟩ := gret_s hf
                subst hr1
                subst hu
                subst hQ
                exact g_iret C0 hG hr dX8_on_117
              · have hf := gif_f c39 hf
                refine lv_aload_n hx hb dX8_on_90 rfl (lv_at hl 0 rfl) ?_
                refine g_getSa (o := 4) (a := 86) C0 hG (L82 hG) rfl 8 (by decide) rfl rfl w_854 dX8_on_91 ?_
                refine lv_iload_n hx hb dX8_on_94 rfl (lv_at hl 2 rfl) ?_
                refine lv_bipush (v := (10 : Int32)) hx hb dX8_on_95 (by decide) ?_
                refine lv_isub hx hb dX8_on_97 ?_
                obtain ⟨h42, hf⟩ := gin_s hf
                refine g_iald C0 hG (L86 hG) h42 dX8_on_98 ?_
                refine lv_goto (tgt := 111) hx hb dX8_on_99 (by decide) ?_
                refine lv_istore_n (lv' := [(3, .int (gA u36 86 (p2 - (10 : Int32)).toNatClampNeg)), (0, .ref (base + 82)), (1, .int p1), (2, .int p2)]) hx hb dX8_on_111 rfl hl (by decide) rfl (fun ls hl => ?_)
                refine lv_aload_n hx hb dX8_on_112 rfl (lv_at hl 1 rfl) ?_
                obtain ⟨_, u43, hc43, hf⟩ := obind_s hf
                refine g_doV0 hG (g_runV C0 hG (k_X8_putBack l D base Z u36 u43 hc43) m_X8_putBack v_X8_putBack w_1278 (by decide) (g_recv C0 hG (L82 hG) rfl) rfl hl.1 rfl (Nat.le_of_ble_eq_true rfl) dX8_on_113 ⟨Nat.zero_le _, Nat.zero_le _⟩) (fun H locs hG hk => ?_)
                refine lv_iload_n hx hb dX8_on_116 rfl (lv_at hl 0 rfl) ?_
                obtain ⟨hr1, hu⟩ := gret_s hf
                subst hr1
                subst hu
                subst hQ
                exact g_iret C0 hG hr dX8_on_117
            · have hf := gif_t c38 hf
              refine lv_aload_n hx hb dX8_on_77 rfl (lv_at hl 0 rfl) ?_
              refine g_getI C0 hG (L82 hG) rfl 3 (by decide) rfl w_849 dX8_on_78 ?_
              refine lv_goto (tgt := 111) hx hb dX8_on_81 (by decide) ?_
              refine lv_istore_n (lv' := [(3, .int (gI u36 82 3)), (0, .ref (base + 82)), (1, .int p1), (2, .int p2)]) hx hb dX8_on_111 rfl hl (by decide) rfl (fun ls hl => ?_)
              refine lv_aload_n hx hb dX8_on_112 rfl (lv_at hl 1 rfl) ?_
              obtain ⟨_, u44, hc44, hf⟩ := obind_s hf
              refine g_doV0 hG (g_runV C0 hG (k_X8_putBack l D base Z u36 u44 hc44) m_X8_putBack v_X8_putBack w_1278 (by decide) (g_recv C0 hG (L82 hG) rfl) rfl hl.1 rfl (Nat.le_of_ble_eq_true rfl) dX8_on_113 ⟨Nat.zero_le _, Nat.zero_le _⟩) (fun H locs hG hk => ?_)
              refine lv_iload_n hx hb dX8_on_116 rfl (lv_at hl 0 rfl) ?_
              obtain ⟨hr1, hu⟩ := gret_s hf
              subst hr1
              subst hu
              subst hQ
              exact g_iret C0 hG hr dX8_on_117
          · have hf := gif_t c37 hf
            refine lv_aload_n hx hb dX8_on_65 rfl (lv_at hl 0 rfl) ?_
            refine g_getI C0 hG (L82 hG) rfl 2 (by decide) rfl w_848 dX8_on_66 ?_
            refine lv_goto (tgt := 111) hx hb dX8_on_69 (by decide) ?_
            refine lv_istore_n (lv' := [(3, .int (gI u36 82 2)), (0, .ref (base + 82)), (1, .int p1), (2, .int p2)]) hx hb dX8_on_111 rfl hl (by decide) rfl (fun ls hl => ?_)
            refine lv_aload_n hx hb dX8_on_112 rfl (lv_at hl 1 rfl) ?_
            obtain ⟨_, u45, hc45, hf⟩ := obind_s hf
            refine g_doV0 hG (g_runV C0 hG (k_X8_putBack l D base Z u36 u45 hc45) m_X8_putBack v_X8_putBack w_1278 (by decide) (g_recv C0 hG (L82 hG) rfl) rfl hl.1 rfl (Nat.le_of_ble_eq_true rfl) dX8_on_113 ⟨Nat.zero_le _, Nat.zero_le _⟩) (fun H locs hG hk => ?_)
            refine lv_iload_n hx hb dX8_on_116 rfl (lv_at hl 0 rfl) ?_
            obtain ⟨hr1, hu⟩ := gret_s hf
            subst hr1
            subst hu
            subst hQ
            exact g_iret C0 hG hr dX8_on_117
        · have hf := gif_t c34 hf
          refine lv_bipush (v := (-2 : Int32)) hx hb dX8_on_49 (by decide) ?_
          obtain ⟨hr1, hu⟩ := gret_s hf
          subst hr1
          subst hu
          subst hQ
          exact g_iret C0 hG hr dX8_on_51
      · have hf := gif_t c32 hf
        refine lv_iconst (v := (-1 : Int32)) hx hb dX8_on_39 (by decide) ?_
        obtain ⟨hr1, hu⟩ := gret_s hf
        subst hr1
        subst hu
        subst hQ
        exact g_iret C0 hG hr dX8_on_40
theorem dX8_gets_0 : decode cX8_gets 0 = .ok (.aload_n 0, 1) := by decide +kernel
theorem dX8_gets_1 : decode cX8_gets 1 = .ok (.iload_n 1, 1) := by decide +kernel
theorem dX8_gets_2 : decode cX8_gets 2 = .ok (.iconst 0, 1) := by decide +kernel
theorem dX8_gets_3 : decode cX8_gets 3 = .ok (.bipush 99, 2) := by decide +kernel
theorem dX8_gets_5 : decode cX8_gets 5 = .ok (.invokevirtual 249, 3) := by decide +kernel
theorem dX8_gets_8 : decode cX8_gets 8 = .ok (.ifCond .ne 6, 3) := by decide +kernel
theorem dX8_gets_11 : decode cX8_gets 11 = .ok (.bipush (-2), 2) := by decide +kernel
theorem dX8_gets_13 : decode cX8_gets 13 = .ok (.ireturn, 1) := by decide +kernel
theorem dX8_gets_14 : decode cX8_gets 14 = .ok (.aload_n 0, 1) := by decide +kernel
theorem dX8_gets_15 : decode cX8_gets 15 = .ok (.invokevirtual 367, 3) := by decide +kernel
theorem dX8_gets_18 : decode cX8_gets 18 = .ok (.iconst 0, 1) := by decide +kernel
theorem dX8_gets_19 : decode cX8_gets 19 = .ok (.istore_n 2, 1) := by decide +kernel
theorem dX8_gets_20 : decode cX8_gets 20 = .ok (.iload_n 2, 1) := by decide +kernel
theorem dX8_gets_21 : decode cX8_gets 21 = .ok (.bipush 31, 2) := by decide +kernel
theorem dX8_gets_23 : decode cX8_gets 23 = .ok (.if_icmp .ge 24, 3) := by decide +kernel
theorem dX8_gets_26 : decode cX8_gets 26 = .ok (.aload_n 0, 1) := by decide +kernel
theorem dX8_gets_27 : decode cX8_gets 27 = .ok (.getfield 19, 3) := by decide +kernel
theorem dX8_gets_30 : decode cX8_gets 30 = .ok (.bipush 50, 2) := by decide +kernel
theorem dX8_gets_32 : decode cX8_gets 32 = .ok (.iload_n 1, 1) := by decide +kernel
theorem dX8_gets_33 : decode cX8_gets 33 = .ok (.imul, 1) := by decide +kernel
theorem dX8_gets_34 : decode cX8_gets 34 = .ok (.if_icmp .ge 13, 3) := by decide +kernel
theorem dX8_gets_37 : decode cX8_gets 37 = .ok (.aload_n 0, 1) := by decide +kernel
theorem dX8_gets_38 : decode cX8_gets 38 = .ok (.invokevirtual 352, 3) := by decide +kernel
theorem dX8_gets_41 : decode cX8_gets 41 = .ok (.iinc 2 1, 3) := by decide +kernel
theorem dX8_gets_44 : decode cX8_gets 44 = .ok (.goto (-24), 3) := by decide +kernel
theorem dX8_gets_47 : decode cX8_gets 47 = .ok (.aload_n 0, 1) := by decide +kernel
theorem dX8_gets_48 : decode cX8_gets 48 = .ok (.invokevirtual 370, 3) := by decide +kernel
theorem dX8_gets_51 : decode cX8_gets 51 = .ok (.iload_n 2, 1) := by decide +kernel
theorem dX8_gets_52 : decode cX8_gets 52 = .ok (.bipush 31, 2) := by decide +kernel
theorem dX8_gets_54 : decode cX8_gets 54 = .ok (.if_icmp .ge 7, 3) := by decide +kernel
theorem dX8_gets_57 : decode cX8_gets 57 = .ok (.iload_n 2, 1) := by decide +kernel
theorem dX8_gets_58 : decode cX8_gets 58 = .ok (.goto 5, 3) := by decide +kernel
theorem dX8_gets_61 : decode cX8_gets 61 = .ok (.bipush (-5), 2) := by decide +kernel
theorem dX8_gets_63 : decode cX8_gets 63 = .ok (.ireturn, 1) := by decide +kernel
def f_X8_gets_L20 (p1 : Int32) (x2_4 : Int32) (u4 : Mem) : Option ((Int32 × Mem) ⊕ (Int32 × Mem)) := (if (31 : Int32) ≤ x2_4 then obind (f_X8_putBack u4) (fun _ u6 => (if (31 : Int32) ≤ x2_4 then some (Sum.inr ((-5 : Int32), u6)) else some (Sum.inr (x2_4, u6)))) else (if ((50 : Int32) * p1) ≤ (gI u4 82 3) then obind (f_X8_putBack u4) (fun _ u9 => (if (31 : Int32) ≤ x2_4 then some (Sum.inr ((-5 : Int32), u9)) else some (Sum.inr (x2_4, u9)))) else obind (f_X8_goMinute u4) (fun _ u11 => some (Sum.inl (x2_4 + (1 : Int32), u11)))))
def f_X8_gets (p1 : Int32) (u : Mem) : Option (Int32 × Mem) := Option.bind (f_X8_in p1 (0 : Int32) (99 : Int32)) (fun r1 => (if r1 = 0 then some ((-2 : Int32), u) else obind (f_X8_save u) (fun _ u3 => whileO (fun s => f_X8_gets_L20 p1 s.1 s.2) FUEL ((0 : Int32), u3))))
set_option maxHeartbeats 4000000 in
set_option maxRecDepth 100000 in
theorem k_X8_gets (l : Launch) (D : gDt) (base : Nat) (Z : gZt) (u : Mem) (p1 : Int32) (r : Int32) (u' : Mem) (hf : f_X8_gets p1 u = some (r, u')) : Met l yX8_gets (gws yX8_gets cX8_gets 3 (some .int)) (gRm 7 0 0) (gPc D base Z u [.ref (base + 82), .int p1]) (gQi D base r u') 0 0 (gF base) := by
  refine Met.ofW (cc := cX8_gets) (maxL := 3) (ret := some .int) (by decide) rfl ?_
  intro p e s m args below meth c s₁ B hml hv
  obtain ⟨rfl, C0, hG⟩ := g_enter B hml hv
  have hr := B.returns
  have C0 : gC p s m meth c _ cX8_gets 3 RX8 D base Z := C0
  have hx := C0.1
  have hb := C0.2.1
  have hl := lv_entry ([.ref (base + 82), .int p1]) (n := 3) (Nat.le_of_ble_eq_true rfl)
  rw [lg_entry_eq]
  generalize (lg_sl ([.ref (base + 82), .int p1]) ++ List.replicate (3 - (lg_sl ([.ref (base + 82), .int p1])).length) Slot.unset).toArray = ls at hl ⊢
  have hl : lv_has ls 3 [(0, .ref (base + 82)), (1, .int p1)] := hl
  obtain ⟨Q, hQ⟩ : ∃ Q, Q = MQ below (gQi D base r u') ([.ref (base + 82), .int p1] : List Value).toArray s 0 0 (gF base) := ⟨_, rfl⟩
  rw [← hQ]
  change W p l e (gRm 7 0 0) s m _ below meth c _ _ _ _ _ _
  unfold f_X8_gets at hf
  refine lv_aload_n hx hb dX8_gets_0 rfl (lv_at hl 0 rfl) ?_
  refine lv_iload_n hx hb dX8_gets_1 rfl (lv_at hl 1 rfl) ?_
  refine lv_iconst (v := (0 : Int32)) hx hb dX8_gets_2 (by decide) ?_
  refine lv_bipush (v := (99 : Int32)) hx hb dX8_gets_3 (by decide) ?_
  obtain ⟨r1, hc1, hf⟩ := pb_s hf
  refine g_doI0 hG (g_runV C0 hG (k_X8_in l D base Z u p1 (0 : Int32) (99 : Int32) r1 hc1) m_X8_in v_X8_in w_1082 (by decide) (g_recv C0 hG (L82 hG) rfl) rfl hl.1 rfl (Nat.le_of_ble_eq_true rfl) dX8_gets_5 ⟨Nat.zero_le _, Nat.zero_le _⟩) (fun H locs hG hk => ?_)
  refine lv_if_ne (tgt := 14) hx hb dX8_gets_8 (by decide) (fun c2 => ?_) (fun c2 => ?_)
  · have hf := gif_f c2 hf
    refine lv_aload_n hx hb dX8_gets_14 rfl (lv_at hl 0 rfl) ?_
    obtain ⟨_, u3, hc3, hf⟩ := obind_s hf
    refine g_doV0 hG (g_runV C0 hG (k_X8_save l D base Z u u3 hc3) m_X8_save v_X8_save w_1274 (by decide) (g_recv C0 hG (L82 hG) rfl) rfl hl.1 rfl (Nat.le_of_ble_eq_true rfl) dX8_gets_15 ⟨Nat.zero_le _, Nat.zero_le _⟩) (fun H locs hG hk => ?_)
    refine lv_iconst (v := (0 : Int32)) hx hb dX8_gets_18 (by decide) ?_
    refine lv_istore_n (lv' := [(2, .int (0 : Int32)), (0, .ref (base + 82)), (1, .int p1)]) hx hb dX8_gets_19 rfl hl (by decide) rfl (fun ls hl => ?_)
    have loop4 : ∀ (n4 : Nat) (x2_4 : Int32) (u4 : Mem) (H : Heap) (locs : List Loc) (ls : Array Slot), gH D base s u4 H locs → lv_has ls 3 [(0, .ref (base + 82)), (1, .int p1), (2, .int x2_4)] → whileO (fun s => f_X8_gets_L20 p1 s.1 s.2) n4 (x2_4, u4) = some (r, u') → W p l e (gRm 7 0 0) s m ([.ref (base + 82), .int p1] : List Value).toArray below meth c H locs 0 0 Q (F0 m 20 ls []) := by
      intro n4
      induction n4 with
      | zero => intro x2_4 u4 H locs ls hG hl hf; cases hf
      | succ n4 ih4 =>
        intro x2_4 u4 H locs ls hG hl hf
        obtain ⟨X4, hf, hX4⟩ := while_s hf
        have hf : f_X8_gets_L20 p1 x2_4 u4 = some X4 := hf
        unfold f_X8_gets_L20 at hf
        refine lv_iload_n hx hb dX8_gets_20 rfl (lv_at hl 2 rfl) ?_
        refine lv_bipush (v := (31 : Int32)) hx hb dX8_gets_21 (by decide) ?_
        refine lv_icmp_ge (tgt := 47) hx hb dX8_gets_23 (by decide) (fun c5 => ?_) (fun c5 => ?_)
        · have hf := gif_t c5 hf
          refine lv_aload_n hx hb dX8_gets_47 rfl (lv_at hl 0 rfl) ?_
          obtain ⟨_, u6, hc6, hf⟩ := obind_s hf
          refine g_doV0 hG (g_runV C0 hG (k_X8_putBack l D base Z u4 u6 hc6) m_X8_putBack v_X8_putBack w_1278 (by decide) (g_recv C0 hG (L82 hG) rfl) rfl hl.1 rfl (Nat.le_of_ble_eq_true rfl) dX8_gets_48 ⟨Nat.zero_le _, Nat.zero_le _⟩) (fun H locs hG hk => ?_)
          refine lv_iload_n hx hb dX8_gets_51 rfl (lv_at hl 2 rfl) ?_
          refine lv_bipush (v := (31 : Int32)) hx hb dX8_gets_52 (by decide) ?_
          refine lv_icmp_ge (tgt := 61) hx hb dX8_gets_54 (by decide) (fun c7 => ?_) (fun c7 => ?_)
          · have hf := gif_t c7 hf
            refine lv_bipush (v := (-5 : Int32)) hx hb dX8_gets_61 (by decide) ?_
            have hf := while_r hX4 hf
            obtain ⟨hr1, hu⟩ := gret_s hf
            subst hr1
            subst hu
            subst hQ
            exact g_iret C0 hG hr dX8_gets_63
          · have hf := gif_f c7 hf
            refine lv_iload_n hx hb dX8_gets_57 rfl (lv_at hl 2 rfl) ?_
            refine lv_goto (tgt := 63) hx hb dX8_gets_58 (by decide) ?_
            have hf := while_r hX4 hf
            obtain ⟨hr1, hu⟩ := gret_s hf
            subst hr1
            subst hu
            subst hQ
            exact g_iret C0 hG hr dX8_gets_63
        · have hf := gif_f c5 hf
          refine lv_aload_n hx hb dX8_gets_26 rfl (lv_at hl 0 rfl) ?_
          refine g_getI C0 hG (L82 hG) rfl 3 (by decide) rfl w_849 dX8_gets_27 ?_
          refine lv_bipush (v := (50 : Int32)) hx hb dX8_gets_30 (by decide) ?_
          refine lv_iload_n hx hb dX8_gets_32 rfl (lv_at hl 1 rfl) ?_
          refine lv_imul hx hb dX8_gets_33 ?_
          refine lv_icmp_ge (tgt := 47) hx hb dX8_gets_34 (by decide) (fun c8 => ?_) (fun c8 => ?_)
          · have hf := gif_t c8 hf
            refine lv_aload_n hx hb dX8_gets_47 rfl (lv_at hl 0 rfl) ?_
            obtain ⟨_, u9, hc9, hf⟩ := obind_s hf
            refine g_doV0 hG (g_runV C0 hG (k_X8_putBack l D base Z u4 u9 hc9) m_X8_putBack v_X8_putBack w_1278 (by decide) (g_recv C0 hG (L82 hG) rfl) rfl hl.1 rfl (Nat.le_of_ble_eq_true rfl) dX8_gets_48 ⟨Nat.zero_le _, Nat.zero_le _⟩) (fun H locs hG hk => ?_)
            refine lv_iload_n hx hb dX8_gets_51 rfl (lv_at hl 2 rfl) ?_
            refine lv_bipush (v := (31 : Int32)) hx hb dX8_gets_52 (by decide) ?_
            refine lv_icmp_ge (tgt := 61) hx hb dX8_gets_54 (by decide) (fun c10 => ?_) (fun c10 => ?_)
            · have hf := gif_t c10 hf
              refine lv_bipush (v := (-5 : Int32)) hx hb dX8_gets_61 (by decide) ?_
              have hf := while_r hX4 hf
              obtain ⟨hr1, hu⟩ := gret_s hf
              subst hr1
              subst hu
              subst hQ
              exact g_iret C0 hG hr dX8_gets_63
            · have hf := gif_f c10 hf
              refine lv_iload_n hx hb dX8_gets_57 rfl (lv_at hl 2 rfl) ?_
              refine lv_goto (tgt := 63) hx hb dX8_gets_58 (by decide) ?_
              have hf := while_r hX4 hf
              obtain ⟨hr1, hu⟩ := gret_s hf
              subst hr1
              subst hu
              subst hQ
              exact g_iret C0 hG hr dX8_gets_63
          · have hf := gif_f c8 hf
            refine lv_aload_n hx hb dX8_gets_37 rfl (lv_at hl 0 rfl) ?_
            obtain ⟨_, u11, hc11, hf⟩ := obind_s hf
            refine g_doV0 hG (g_runV C0 hG (k_X8_goMinute l D base Z u4 u11 hc11) m_X8_goMinute v_X8_goMinute w_1242 (by decide) (g_recv C0 hG (L82 hG) rfl) rfl hl.1 rfl (Nat.le_of_ble_eq_true rfl) dX8_gets_38 ⟨Nat.zero_le _, Nat.zero_le _⟩) (fun H locs hG hk => ?_)
            refine lv_iinc (v := x2_4 + (1 : Int32)) (lv' := [(2, .int (x2_4 + (1 : Int32))), (0, .ref (base + 82)), (1, .int p1)]) hx hb dX8_gets_41 hl (k := 2) rfl rfl (by decide) rfl (fun ls hl => ?_)
            refine lv_goto (tgt := 20) hx hb dX8_gets_44 (by decide) ?_
            have hf := while_l hX4 hf
            exact ih4 (x2_4 + (1 : Int32)) u11 _ _ ls hG (lv_sub hl [1, 2, 0] rfl) hf
    exact loop4 FUEL (0 : Int32) u3 _ _ ls hG (lv_sub hl [1, 2, 0] rfl) hf
  · have hf := gif_t c2 hf
    refine lv_bipush (v := (-2 : Int32)) hx hb dX8_gets_11 (by decide) ?_
    obtain ⟨hr1, hu⟩ := gret_s hf
    subst hr1
    subst hu
    subst hQ
    exact g_iret C0 hG hr dX8_gets_13
theorem dX8_hears_0 : decode cX8_hears 0 = .ok (.aload_n 0, 1) := by decide +kernel
theorem dX8_hears_1 : decode cX8_hears 1 = .ok (.iload_n 1, 1) := by decide +kernel
theorem dX8_hears_2 : decode cX8_hears 2 = .ok (.invokevirtual 260, 3) := by decide +kernel
theorem dX8_hears_5 : decode cX8_hears 5 = .ok (.ifCond .eq 11, 3) := by decide +kernel
theorem dX8_hears_8 : decode cX8_hears 8 = .ok (.aload_n 0, 1) := by decide +kernel
theorem dX8_hears_9 : decode cX8_hears 9 = .ok (.iload_n 2, 1) := by decide +kernel
theorem dX8_hears_10 : decode cX8_hears 10 = .ok (.invokevirtual 267, 3) := by decide +kernel
theorem dX8_hears_13 : decode cX8_hears 13 = .ok (.ifCond .ne 5, 3) := by decide +kernel
theorem dX8_hears_16 : decode cX8_hears 16 = .ok (.iconst (-1), 1) := by decide +kernel
theorem dX8_hears_17 : decode cX8_hears 17 = .ok (.ireturn, 1) := by decide +kernel
theorem dX8_hears_18 : decode cX8_hears 18 = .ok (.aload_n 0, 1) := by decide +kernel
theorem dX8_hears_19 : decode cX8_hears 19 = .ok (.invokevirtual 367, 3) := by decide +kernel
theorem dX8_hears_22 : decode cX8_hears 22 = .ok (.iconst 0, 1) := by decide +kernel
theorem dX8_hears_23 : decode cX8_hears 23 = .ok (.istore_n 3, 1) := by decide +kernel
theorem dX8_hears_24 : decode cX8_hears 24 = .ok (.iload_n 3, 1) := by decide +kernel
theorem dX8_hears_25 : decode cX8_hears 25 = .ok (.bipush 31, 2) := by decide +kernel
theorem dX8_hears_27 : decode cX8_hears 27 = .ok (.if_icmp .ge 27, 3) := by decide +kernel
theorem dX8_hears_30 : decode cX8_hears 30 = .ok (.aload_n 0, 1) := by decide +kernel
theorem dX8_hears_31 : decode cX8_hears 31 = .ok (.aload_n 0, 1) := by decide +kernel
theorem dX8_hears_32 : decode cX8_hears 32 = .ok (.getfield 35, 3) := by decide +kernel
theorem dX8_hears_35 : decode cX8_hears 35 = .ok (.iload_n 1, 1) := by decide +kernel
theorem dX8_hears_36 : decode cX8_hears 36 = .ok (.iaload, 1) := by decide +kernel
theorem dX8_hears_37 : decode cX8_hears 37 = .ok (.iload_n 2, 1) := by decide +kernel
theorem dX8_hears_38 : decode cX8_hears 38 = .ok (.invokevirtual 245, 3) := by decide +kernel
theorem dX8_hears_41 : decode cX8_hears 41 = .ok (.ifCond .ne 13, 3) := by decide +kernel
theorem dX8_hears_44 : decode cX8_hears 44 = .ok (.aload_n 0, 1) := by decide +kernel
theorem dX8_hears_45 : decode cX8_hears 45 = .ok (.invokevirtual 352, 3) := by decide +kernel
theorem dX8_hears_48 : decode cX8_hears 48 = .ok (.iinc 3 1, 3) := by decide +kernel
theorem dX8_hears_51 : decode cX8_hears 51 = .ok (.goto (-27), 3) := by decide +kernel
theorem dX8_hears_54 : decode cX8_hears 54 = .ok (.aload_n 0, 1) := by decide +kernel
theorem dX8_hears_55 : decode cX8_hears 55 = .ok (.invokevirtual 370, 3) := by decide +kernel
theorem dX8_hears_58 : decode cX8_hears 58 = .ok (.iload_n 3, 1) := by decide +kernel
theorem dX8_hears_59 : decode cX8_hears 59 = .ok (.bipush 31, 2) := by decide +kernel
theorem dX8_hears_61 : decode cX8_hears 61 = .ok (.if_icmp .ge 7, 3) := by decide +kernel
theorem dX8_hears_64 : decode cX8_hears 64 = .ok (.iload_n 3, 1) := by decide +kernel
theorem dX8_hears_65 : decode cX8_hears 65 = .ok (.goto 5, 3) := by decide +kernel
theorem dX8_hears_68 : decode cX8_hears 68 = .ok (.bipush (-5), 2) := by decide +kernel
theorem dX8_hears_70 : decode cX8_hears 70 = .ok (.ireturn, 1) := by decide +kernel
def f_X8_hears_L24 (p1 : Int32) (p2 : Int32) (x3_6 : Int32) (u6 : Mem) : Option ((Int32 × Mem) ⊕ (Int32 × Mem)) := (if (31 : Int32) ≤ x3_6 then obind (f_X8_putBack u6) (fun _ u8 => (if (31 : Int32) ≤ x3_6 then some (Sum.inr ((-5 : Int32), u8)) else some (Sum.inr (x3_6, u8)))) else gin p1 6 (Option.bind (f_X8_has (gA u6 86 p1.toNatClampNeg) p2) (fun r11 => (if r11 = 0 then obind (f_X8_goMinute u6) (fun _ u15 => some (Sum.inl (x3_6 + (1 : Int32), u15))) else obind (f_X8_putBack u6) (fun _ u13 => (if (31 : Int32) ≤ x3_6 then some (Sum.inr ((-5 : Int32), u13)) else some (Sum.inr (x3_6, u13))))))))
def f_X8_hears (p1 : Int32) (p2 : Int32) (u : Mem) : Option (Int32 × Mem) := Option.bind (f_X8_isOne p1 u) (fun r1 => (if r1 = 0 then some ((-1 : Int32), u) else Option.bind (f_X8_isTale p2) (fun r3 => (if r3 = 0 then some ((-1 : Int32), u) else obind (f_X8_save u) (fun _ u5 => whileO (fun s => f_X8_hears_L24 p1 p2 s.1 s.2) FUEL ((0 : Int32), u5))))))
set_option maxHeartbeats 4000000 in
set_option maxRecDepth 100000 in
theorem k_X8_hears (l : Launch) (D : gDt) (base : Nat) (Z : gZt) (u : Mem) (p1 : Int32) (p2 : Int32) (r : Int32) (u' : Mem) (hf : f_X8_hears p1 p2 u = some (r, u')) : Met l yX8_hears (gws yX8_hears cX8_hears 4 (some .int)) (gRm 7 0 0) (gPc D base Z u [.ref (base + 82), .int p1, .int p2]) (gQi D base r u') 0 0 (gF base) := by
  refine Met.ofW (cc := cX8_hears) (maxL := 4) (ret := some .int) (by decide) rfl ?_
  intro p e s m args below meth c s₁ B hml hv
  obtain ⟨rfl, C0, hG⟩ := g_enter B hml hv
  have hr := B.returns
  have C0 : gC p s m meth c _ cX8_hears 4 RX8 D base Z := C0
  have hx := C0.1
  have hb := C0.2.1
  have hl := lv_entry ([.ref (base + 82), .int p1, .int p2]) (n := 4) (Nat.le_of_ble_eq_true rfl)
  rw [lg_entry_eq]
  generalize (lg_sl ([.ref (base + 82), .int p1, .int p2]) ++ List.replicate (4 - (lg_sl ([.ref (base + 82), .int p1, .int p2])).length) Slot.unset).toArray = ls at hl ⊢
  have hl : lv_has ls 4 [(0, .ref (base + 82)), (1, .int p1), (2, .int p2)] := hl
  obtain ⟨Q, hQ⟩ : ∃ Q, Q = MQ below (gQi D base r u') ([.ref (base + 82), .int p1, .int p2] : List Value).toArray s 0 0 (gF base) := ⟨_, rfl⟩
  rw [← hQ]
  change W p l e (gRm 7 0 0) s m _ below meth c _ _ _ _ _ _
  unfold f_X8_hears at hf
  refine lv_aload_n hx hb dX8_hears_0 rfl (lv_at hl 0 rfl) ?_
  refine lv_iload_n hx hb dX8_hears_1 rfl (lv_at hl 1 rfl) ?_
  obtain ⟨r1, hc1, hf⟩ := pb_s hf
  refine g_doI0 hG (g_runV C0 hG (k_X8_isOne l D base Z u p1 r1 hc1) m_X8_isOne v_X8_isOne w_1098 (by decide) (g_recv C0 hG (L82 hG) rfl) rfl hl.1 rfl (Nat.le_of_ble_eq_true rfl) dX8_hears_2 ⟨Nat.zero_le _, Nat.zero_le _⟩) (fun H locs hG hk => ?_)
  refine lv_if_eq (tgt := 16) hx hb dX8_hears_5 (by decide) (fun c2 => ?_) (fun c2 => ?_)
  · have hf := gif_t c2 hf
    refine lv_iconst (v := (-1 : Int32)) hx hb dX8_hears_16 (by decide) ?_
    obtain ⟨hr1, hu⟩ := gret_s hf
    subst hr1
    subst hu
    subst hQ
    exact g_iret C0 hG hr dX8_hears_17
  · have hf := gif_f c2 hf
    refine lv_aload_n hx hb dX8_hears_8 rfl (lv_at hl 0 rfl) ?_
    refine lv_iload_n hx hb dX8_hears_9 rfl (lv_at hl 2 rfl) ?_
    obtain ⟨r3, hc3, hf⟩ := pb_s hf
    refine g_doI0 hG (g_runV C0 hG (k_X8_isTale l D base Z u p2 r3 hc3) m_X8_isTale v_X8_isTale w_1122 (by decide) (g_recv C0 hG (L82 hG) rfl) rfl hl.1 rfl (Nat.le_of_ble_eq_true rfl) dX8_hears_10 ⟨Nat.zero_le _, Nat.zero_le _⟩) (fun H locs hG hk => ?_)
    refine lv_if_ne (tgt := 18) hx hb dX8_hears_13 (by decide) (fun c4 => ?_) (fun c4 => ?_)
    · have hf := gif_f c4 hf
      refine lv_aload_n hx hb dX8_hears_18 rfl (lv_at hl 0 rfl) ?_
      obtain ⟨_, u5, hc5, hf⟩ := obind_s hf
      refine g_doV0 hG (g_runV C0 hG (k_X8_save l D base Z u u5 hc5) m_X8_save v_X8_save w_1274 (by decide) (g_recv C0 hG (L82 hG) rfl) rfl hl.1 rfl (Nat.le_of_ble_eq_true rfl) dX8_hears_19 ⟨Nat.zero_le _, Nat.zero_le _⟩) (fun H locs hG hk => ?_)
      refine lv_iconst (v := (0 : Int32)) hx hb dX8_hears_22 (by decide) ?_
      refine lv_istore_n (lv' := [(3, .int (0 : Int32)), (0, .ref (base + 82)), (1, .int p1), (2, .int p2)]) hx hb dX8_hears_23 rfl hl (by decide) rfl (fun ls hl => ?_)
      have loop6 : ∀ (n6 : Nat) (x3_6 : Int32) (u6 : Mem) (H : Heap) (locs : List Loc) (ls : Array Slot), gH D base s u6 H locs → lv_has ls 4 [(0, .ref (base + 82)), (1, .int p1), (2, .int p2), (3, .int x3_6)] → whileO (fun s => f_X8_hears_L24 p1 p2 s.1 s.2) n6 (x3_6, u6) = some (r, u') → W p l e (gRm 7 0 0) s m ([.ref (base + 82), .int p1, .int p2] : List Value).toArray below meth c H locs 0 0 Q (F0 m 24 ls []) := by
        intro n6
        induction n6 with
        | zero => intro x3_6 u6 H locs ls hG hl hf; cases hf
        | succ n6 ih6 =>
          intro x3_6 u6 H locs ls hG hl hf
          obtain ⟨X6, hf, hX6⟩ := while_s hf
          have hf : f_X8_hears_L24 p1 p2 x3_6 u6 = some X6 := hf
          unfold f_X8_hears_L24 at hf
          refine lv_iload_n hx hb dX8_hears_24 rfl (lv_at hl 3 rfl) ?_
          refine lv_bipush (v := (31 : Int32)) hx hb dX8_hears_25 (by decide) ?_
          refine lv_icmp_ge (tgt := 54) hx hb dX8_hears_27 (by decide) (fun c7 => ?_) (fun c7 => ?_)
          · have hf := gif_t c7 hf
            refine lv_aload_n hx hb dX8_hears_54 rfl (lv_at hl 0 rfl) ?_
            obtain ⟨_, u8, hc8, hf⟩ := obind_s hf
            refine g_doV0 hG (g_runV C0 hG (k_X8_putBack l D base Z u6 u8 hc8) m_X8_putBack v_X8_putBack w_1278 (by decide) (g_recv C0 hG (L82 hG) rfl) rfl hl.1 rfl (Nat.le_of_ble_eq_true rfl) dX8_hears_55 ⟨Nat.zero_le _, Nat.zero_le _⟩) (fun H locs hG hk => ?_)
            refine lv_iload_n hx hb dX8_hears_58 rfl (lv_at hl 3 rfl) ?_
            refine lv_bipush (v := (31 : Int32)) hx hb dX8_hears_59 (by decide) ?_
            refine lv_icmp_ge (tgt := 68) hx hb dX8_hears_61 (by decide) (fun c9 => ?_) (fun c9 => ?_)
            · have hf := gif_t c9 hf
              refine lv_bipush (v := (-5 : Int32)) hx hb dX8_hears_68 (by decide) ?_
              have hf := while_r hX6 hf
              obtain ⟨hr1, hu⟩ := gret_s hf
              subst hr1
              subst hu
              subst hQ
              exact g_iret C0 hG hr dX8_hears_70
            · have hf := gif_f c9 hf
              refine lv_iload_n hx hb dX8_hears_64 rfl (lv_at hl 3 rfl) ?_
              refine lv_goto (tgt := 70) hx hb dX8_hears_65 (by decide) ?_
              have hf := while_r hX6 hf
              obtain ⟨hr1, hu⟩ := gret_s hf
              subst hr1
              subst hu
              subst hQ
              exact g_iret C0 hG hr dX8_hears_70
          · have hf := gif_f c7 hf
            refine lv_aload_n hx hb dX8_hears_30 rfl (lv_at hl 0 rfl) ?_
            refine lv_aload_n hx hb dX8_hears_31 rfl (lv_at hl 0 rfl) ?_
            refine g_getSa (o := 4) (a := 86) C0 hG (L82 hG) rfl 8 (by decide) rfl rfl w_854 dX8_hears_32 ?_
            refine lv_iload_n hx hb dX8_hears_35 rfl (lv_at hl 1 rfl) ?_
            obtain ⟨h10, hf⟩ := gin_s hf
            refine g_iald C0 hG (L86 hG) h10 dX8_hears_36 ?_
            refine lv_iload_n hx hb dX8_hears_37 rfl (lv_at hl 2 rfl) ?_
            obtain ⟨r11, hc11, hf⟩ := pb_s hf
            refine g_doI0 hG (g_runV C0 hG (k_X8_has l D base Z u6 (gA u6 86 p1.toNatClampNeg) p2 r11 hc11) m_X8_has v_X8_has w_1110 (by decide) (g_recv C0 hG (L82 hG) rfl) rfl hl.1 rfl (Nat.le_of_ble_eq_true rfl) dX8_hears_38 ⟨Nat.zero_le _, Nat.zero_le _⟩) (fun H locs hG hk => ?_)
            refine lv_if_ne (tgt := 54) hx hb dX8_hears_41 (by decide) (fun c12 => ?_) (fun c12 => ?_)
            · have hf := gif_f c12 hf
              refine lv_aload_n hx hb dX8_hears_54 rfl (lv_at hl 0 rfl) ?_
              obtain ⟨_, u13, hc13, hf⟩ := obind_s hf
              refine g_doV0 hG (g_runV C0 hG (k_X8_putBack l D base Z u6 u13 hc13) m_X8_putBack v_X8_putBack w_1278 (by decide) (g_recv C0 hG (L82 hG) rfl) rfl hl.1 rfl (Nat.le_of_ble_eq_true rfl) dX8_hears_55 ⟨Nat.zero_le _, Nat.zero_le _⟩) (fun H locs hG hk => ?_)
              refine lv_iload_n hx hb dX8_hears_58 rfl (lv_at hl 3 rfl) ?_
              refine lv_bipush (v := (31 : Int32)) hx hb dX8_hears_59 (by decide) ?_
              refine lv_icmp_ge (tgt := 68) hx hb dX8_hears_61 (by decide) (fun c14 => ?_) (fun c14 => ?_)
              · have hf := gif_t c14 hf
                refine lv_bipush (v := (-5 : Int32)) hx hb dX8_hears_68 (by decide) ?_
                have hf := while_r hX6 hf
                obtain ⟨hr1, hu⟩ := gret_s hf
                subst hr1
                subst hu
                subst hQ
                exact g_iret C0 hG hr dX8_hears_70
              · have hf := gif_f c14 hf
                refine lv_iload_n hx hb dX8_hears_64 rfl (lv_at hl 3 rfl) ?_
                refine lv_goto (tgt := 70) hx hb dX8_hears_65 (by decide) ?_
                have hf := while_r hX6 hf
                obtain ⟨hr1, hu⟩ := gret_s hf
                subst hr1
                subst hu
                subst hQ
                exact g_iret C0 hG hr dX8_hears_70
            · have hf := gif_t c12 hf
              refine lv_aload_n hx hb dX8_hears_44 rfl (lv_at hl 0 rfl) ?_
              obtain ⟨_, u15, hc15, hf⟩ := obind_s hf
              refine g_doV0 hG (g_runV C0 hG (k_X8_goMinute l D base Z u6 u15 hc15) m_X8_goMinute v_X8_goMinute w_1242 (by decide) (g_recv C0 hG (L82 hG) rfl) rfl hl.1 rfl (Nat.le_of_ble_eq_true rfl) dX8_hears_45 ⟨Nat.zero_le _, Nat.zero_le _⟩) (fun H locs hG hk => ?_)
              refine lv_iinc (v := x3_6 + (1 : Int32)) (lv' := [(3, .int (x3_6 + (1 : Int32))), (0, .ref (base + 82)), (1, .int p1), (2, .int p2)]) hx hb dX8_hears_48 hl (k := 3) rfl rfl (by decide) rfl (fun ls hl => ?_)
              refine lv_goto (tgt := 24) hx hb dX8_hears_51 (by decide) ?_
              have hf := while_l hX6 hf
              exact ih6 (x3_6 + (1 : Int32)) u15 _ _ ls hG (lv_sub hl [1, 2, 3, 0] rfl) hf
      exact loop6 FUEL (0 : Int32) u5 _ _ ls hG (lv_sub hl [1, 2, 3, 0] rfl) hf
    · have hf := gif_t c4 hf
      refine lv_iconst (v := (-1 : Int32)) hx hb dX8_hears_16 (by decide) ?_
      obtain ⟨hr1, hu⟩ := gret_s hf
      subst hr1
      subst hu
      subst hQ
      exact g_iret C0 hG hr dX8_hears_17
theorem dX8_best_0 : decode cX8_best 0 = .ok (.aload_n 0, 1) := by decide +kernel
theorem dX8_best_1 : decode cX8_best 1 = .ok (.iload_n 1, 1) := by decide +kernel
theorem dX8_best_2 : decode cX8_best 2 = .ok (.invokevirtual 260, 3) := by decide +kernel
theorem dX8_best_5 : decode cX8_best 5 = .ok (.ifCond .ne 5, 3) := by decide +kernel
theorem dX8_best_8 : decode cX8_best 8 = .ok (.iconst (-1), 1) := by decide +kernel
theorem dX8_best_9 : decode cX8_best 9 = .ok (.ireturn, 1) := by decide +kernel
theorem dX8_best_10 : decode cX8_best 10 = .ok (.aload_n 0, 1) := by decide +kernel
theorem dX8_best_11 : decode cX8_best 11 = .ok (.iload_n 2, 1) := by decide +kernel
theorem dX8_best_12 : decode cX8_best 12 = .ok (.iconst 1, 1) := by decide +kernel
theorem dX8_best_13 : decode cX8_best 13 = .ok (.bipush 10, 2) := by decide +kernel
theorem dX8_best_15 : decode cX8_best 15 = .ok (.invokevirtual 249, 3) := by decide +kernel
theorem dX8_best_18 : decode cX8_best 18 = .ok (.ifCond .ne 6, 3) := by decide +kernel
theorem dX8_best_21 : decode cX8_best 21 = .ok (.bipush (-2), 2) := by decide +kernel
theorem dX8_best_23 : decode cX8_best 23 = .ok (.ireturn, 1) := by decide +kernel
theorem dX8_best_24 : decode cX8_best 24 = .ok (.bipush (-5), 2) := by decide +kernel
theorem dX8_best_26 : decode cX8_best 26 = .ok (.istore_n 3, 1) := by decide +kernel
theorem dX8_best_27 : decode cX8_best 27 = .ok (.iconst 0, 1) := by decide +kernel
theorem dX8_best_28 : decode cX8_best 28 = .ok (.istore 4, 2) := by decide +kernel
theorem dX8_best_30 : decode cX8_best 30 = .ok (.iconst 0, 1) := by decide +kernel
theorem dX8_best_31 : decode cX8_best 31 = .ok (.istore 5, 2) := by decide +kernel
theorem dX8_best_33 : decode cX8_best 33 = .ok (.iconst 0, 1) := by decide +kernel
theorem dX8_best_34 : decode cX8_best 34 = .ok (.istore 6, 2) := by decide +kernel
theorem dX8_best_36 : decode cX8_best 36 = .ok (.iload 6, 2) := by decide +kernel
theorem dX8_best_38 : decode cX8_best 38 = .ok (.iconst 4, 1) := by decide +kernel
theorem dX8_best_39 : decode cX8_best 39 = .ok (.if_icmp .ge 81, 3) := by decide +kernel
theorem dX8_best_42 : decode cX8_best 42 = .ok (.aload_n 0, 1) := by decide +kernel
theorem dX8_best_43 : decode cX8_best 43 = .ok (.invokevirtual 367, 3) := by decide +kernel
theorem dX8_best_46 : decode cX8_best 46 = .ok (.aload_n 0, 1) := by decide +kernel
theorem dX8_best_47 : decode cX8_best 47 = .ok (.getfield 32, 3) := by decide +kernel
theorem dX8_best_50 : decode cX8_best 50 = .ok (.iload_n 1, 1) := by decide +kernel
theorem dX8_best_51 : decode cX8_best 51 = .ok (.iload 6, 2) := by decide +kernel
theorem dX8_best_53 : decode cX8_best 53 = .ok (.iastore, 1) := by decide +kernel
theorem dX8_best_54 : decode cX8_best 54 = .ok (.aload_n 0, 1) := by decide +kernel
theorem dX8_best_55 : decode cX8_best 55 = .ok (.iload_n 2, 1) := by decide +kernel
theorem dX8_best_56 : decode cX8_best 56 = .ok (.invokevirtual 358, 3) := by decide +kernel
theorem dX8_best_59 : decode cX8_best 59 = .ok (.aload_n 0, 1) := by decide +kernel
theorem dX8_best_60 : decode cX8_best 60 = .ok (.getfield 19, 3) := by decide +kernel
theorem dX8_best_63 : decode cX8_best 63 = .ok (.istore 7, 2) := by decide +kernel
theorem dX8_best_65 : decode cX8_best 65 = .ok (.aload_n 0, 1) := by decide +kernel
theorem dX8_best_66 : decode cX8_best 66 = .ok (.getfield 16, 3) := by decide +kernel
theorem dX8_best_69 : decode cX8_best 69 = .ok (.istore 8, 2) := by decide +kernel
theorem dX8_best_71 : decode cX8_best 71 = .ok (.aload_n 0, 1) := by decide +kernel
theorem dX8_best_72 : decode cX8_best 72 = .ok (.invokevirtual 370, 3) := by decide +kernel
theorem dX8_best_75 : decode cX8_best 75 = .ok (.iload_n 3, 1) := by decide +kernel
theorem dX8_best_76 : decode cX8_best 76 = .ok (.ifCond .lt 27, 3) := by decide +kernel
theorem dX8_best_79 : decode cX8_best 79 = .ok (.iload 7, 2) := by decide +kernel
theorem dX8_best_81 : decode cX8_best 81 = .ok (.iload 4, 2) := by decide +kernel
theorem dX8_best_83 : decode cX8_best 83 = .ok (.if_icmp .lt 31, 3) := by decide +kernel
theorem dX8_best_86 : decode cX8_best 86 = .ok (.iload 7, 2) := by decide +kernel
theorem dX8_best_88 : decode cX8_best 88 = .ok (.iload 4, 2) := by decide +kernel
theorem dX8_best_90 : decode cX8_best 90 = .ok (.if_icmp .ne 13, 3) := by decide +kernel
theorem dX8_best_93 : decode cX8_best 93 = .ok (.iload 8, 2) := by decide +kernel
theorem dX8_best_95 : decode cX8_best 95 = .ok (.iload 5, 2) := by decide +kernel
theorem dX8_best_97 : decode cX8_best 97 = .ok (.if_icmp .gt 6, 3) := by decide +kernel
theorem dX8_best_100 : decode cX8_best 100 = .ok (.goto 14, 3) := by decide +kernel
theorem dX8_best_103 : decode cX8_best 103 = .ok (.iload 6, 2) := by decide +kernel
theorem dX8_best_105 : decode cX8_best 105 = .ok (.istore_n 3, 1) := by decide +kernel
theorem dX8_best_106 : decode cX8_best 106 = .ok (.iload 7, 2) := by decide +kernel
theorem dX8_best_108 : decode cX8_best 108 = .ok (.istore 4, 2) := by decide +kernel
theorem dX8_best_110 : decode cX8_best 110 = .ok (.iload 8, 2) := by decide +kernel
theorem dX8_best_112 : decode cX8_best 112 = .ok (.istore 5, 2) := by decide +kernel
theorem dX8_best_114 : decode cX8_best 114 = .ok (.iinc 6 1, 3) := by decide +kernel
theorem dX8_best_117 : decode cX8_best 117 = .ok (.goto (-81), 3) := by decide +kernel
theorem dX8_best_120 : decode cX8_best 120 = .ok (.iload_n 3, 1) := by decide +kernel
theorem dX8_best_121 : decode cX8_best 121 = .ok (.ireturn, 1) := by decide +kernel
def f_X8_best_L36 (p1 : Int32) (p2 : Int32) (x3_5 : Int32) (x4_5 : Int32) (x5_5 : Int32) (x6_5 : Int32) (u5 : Mem) : Option ((Int32 × Int32 × Int32 × Int32 × Mem) ⊕ (Int32 × Mem)) := (if (4 : Int32) ≤ x6_5 then some (Sum.inr (x3_5, u5)) else obind (f_X8_save u5) (fun _ u7 => gin p1 6 (obind (f_X8_goMinutes p2 (sA u7 85 p1.toNatClampNeg x6_5)) (fun _ u9 => obind (f_X8_putBack u9) (fun _ u10 => (if x3_5 < 0 then some (Sum.inl (x6_5, (gI u9 82 3, (gI u9 82 2, (x6_5 + (1 : Int32), u10))))) else (if (gI u9 82 3) < x4_5 then some (Sum.inl (x3_5, (x4_5, (x5_5, (x6_5 + (1 : Int32), u10))))) else (if (gI u9 82 3) = x4_5 then (if x5_5 < (gI u9 82 2) then some (Sum.inl (x6_5, (gI u9 82 3, (gI u9 82 2, (x6_5 + (1 : Int32), u10))))) else some (Sum.inl (x3_5, (x4_5, (x5_5, (x6_5 + (1 : Int32), u10)))))) else some (Sum.inl (x6_5, (gI u9 82 3, (gI u9 82 2, (x6_5 + (1 : Int32), u10)))))))))))))
def f_X8_best (p1 : Int32) (p2 : Int32) (u : Mem) : Option (Int32 × Mem) := Option.bind (f_X8_isOne p1 u) (fun r1 => (if r1 = 0 then some ((-1 : Int32), u) else Option.bind (f_X8_in p2 (1 : Int32) (10 : Int32)) (fun r3 => (if r3 = 0 then some ((-2 : Int32), u) else whileO (fun s => f_X8_best_L36 p1 p2 s.1 s.2.1 s.2.2.1 s.2.2.2.1 s.2.2.2.2) FUEL ((-5 : Int32), ((0 : Int32), ((0 : Int32), ((0 : Int32), u))))))))
set_option maxHeartbeats 4000000 in
set_option maxRecDepth 100000 in
theorem k_X8_best (l : Launch) (D : gDt) (base : Nat) (Z : gZt) (u : Mem) (p1 : Int32) (p2 : Int32) (r : Int32) (u' : Mem) (hf : f_X8_best p1 p2 u = some (r, u')) : Met l yX8_best (gws yX8_best cX8_best 9 (some .int)) (gRm 8 0 0) (gPc D base Z u [.ref (base + 82), .int p1, .int p2]) (gQi D base r u') 0 0 (gF base) := by
  refine Met.ofW (cc := cX8_best) (maxL := 9) (ret := some .int) (by decide) rfl ?_
  intro p e s m args below meth c s₁ B hml hv
  obtain ⟨rfl, C0, hG⟩ := g_enter B hml hv
  have hr := B.returns
  have C0 : gC p s m meth c _ cX8_best 9 RX8 D base Z := C0
  have hx := C0.1
  have hb := C0.2.1
  have hl := lv_entry ([.ref (base + 82), .int p1, .int p2]) (n := 9) (Nat.le_of_ble_eq_true rfl)
  rw [lg_entry_eq]
  generalize (lg_sl ([.ref (base + 82), .int p1, .int p2]) ++ List.replicate (9 - (lg_sl ([.ref (base + 82), .int p1, .int p2])).length) Slot.unset).toArray = ls at hl ⊢
  have hl : lv_has ls 9 [(0, .ref (base + 82)), (1, .int p1), (2, .int p2)] := hl
  obtain ⟨Q, hQ⟩ : ∃ Q, Q = MQ below (gQi D base r u') ([.ref (base + 82), .int p1, .int p2] : List Value).toArray s 0 0 (gF base) := ⟨_, rfl⟩
  rw [← hQ]
  change W p l e (gRm 8 0 0) s m _ below meth c _ _ _ _ _ _
  unfold f_X8_best at hf
  refine lv_aload_n hx hb dX8_best_0 rfl (lv_at hl 0 rfl) ?_
  refine lv_iload_n hx hb dX8_best_1 rfl (lv_at hl 1 rfl) ?_
  obtain ⟨r1, hc1, hf⟩ := pb_s hf
  refine g_doI0 hG (g_runV C0 hG (k_X8_isOne l D base Z u p1 r1 hc1) m_X8_isOne v_X8_isOne w_1098 (by decide) (g_recv C0 hG (L82 hG) rfl) rfl hl.1 rfl (Nat.le_of_ble_eq_true rfl) dX8_best_2 ⟨Nat.zero_le _, Nat.zero_le _⟩) (fun H locs hG hk => ?_)
  refine lv_if_ne (tgt := 10) hx hb dX8_best_5 (by decide) (fun c2 => ?_) (fun c2 => ?_)
  · have hf := gif_f c2 hf
    refine lv_aload_n hx hb dX8_best_10 rfl (lv_at hl 0 rfl) ?_
    refine lv_iload_n hx hb dX8_best_11 rfl (lv_at hl 2 rfl) ?_
    refine lv_iconst (v := (1 : Int32)) hx hb dX8_best_12 (by decide) ?_
    refine lv_bipush (v := (10 : Int32)) hx hb dX8_best_13 (by decide) ?_
    obtain ⟨r3, hc3, hf⟩ := pb_s hf
    refine g_doI0 hG (g_runV C0 hG (k_X8_in l D base Z u p2 (1 : Int32) (10 : Int32) r3 hc3) m_X8_in v_X8_in w_1082 (by decide) (g_recv C0 hG (L82 hG) rfl) rfl hl.1 rfl (Nat.le_of_ble_eq_true rfl) dX8_best_15 ⟨Nat.zero_le _, Nat.zero_le _⟩) (fun H locs hG hk => ?_)
    refine lv_if_ne (tgt := 24) hx hb dX8_best_18 (by decide) (fun c4 => ?_) (fun c4 => ?_)
    · have hf := gif_f c4 hf
      refine lv_bipush (v := (-5 : Int32)) hx hb dX8_best_24 (by decide) ?_
      refine lv_istore_n (lv' := [(3, .int (-5 : Int32)), (0, .ref (base + 82)), (1, .int p1), (2, .int p2)]) hx hb dX8_best_26 rfl hl (by decide) rfl (fun ls hl => ?_)
      refine lv_iconst (v := (0 : Int32)) hx hb dX8_best_27 (by decide) ?_
      refine lv_istore (lv' := [(4, .int (0 : Int32)), (3, .int (-5 : Int32)), (0, .ref (base + 82)), (1, .int p1), (2, .int p2)]) hx hb dX8_best_28 hl (by decide) rfl (fun ls hl => ?_)
      refine lv_iconst (v := (0 : Int32)) hx hb dX8_best_30 (by decide) ?_
      refine lv_istore (lv' := [(5, .int (0 : Int32)), (4, .int (0 : Int32)), (3, .int (-5 : Int32)), (0, .ref (base + 82)), (1, .int p1), (2, .int p2)]) hx hb dX8_best_31 hl (by decide) rfl (fun ls hl => ?_)
      refine lv_iconst (v := (0 : Int32)) hx hb dX8_best_33 (by decide) ?_
      refine lv_istore (lv' := [(6, .int (0 : Int32)), (5, .int (0 : Int32)), (4, .int (0 : Int32)), (3, .int (-5 : Int32)), (0, .ref (base + 82)), (1, .int p1), (2, .int p2)]) hx hb dX8_best_34 hl (by decide) rfl (fun ls hl => ?_)
      have loop5 : ∀ (n5 : Nat) (x3_5 : Int32) (x4_5 : Int32) (x5_5 : Int32) (x6_5 : Int32) (u5 : Mem) (H : Heap) (locs : List Loc) (ls : Array Slot), gH D base s u5 H locs → lv_has ls 9 [(0, .ref (base + 82)), (1, .int p1), (2, .int p2), (3, .int x3_5), (4, .int x4_5), (5, .int x5_5), (6, .int x6_5)] → whileO (fun s => f_X8_best_L36 p1 p2 s.1 s.2.1 s.2.2.1 s.2.2.2.1 s.2.2.2.2) n5 (x3_5, (x4_5, (x5_5, (x6_5, u5)))) = some (r, u') → W p l e (gRm 8 0 0) s m ([.ref (base + 82), .int p1, .int p2] : List Value).toArray below meth c H locs 0 0 Q (F0 m 36 ls []) := by
        intro n5
        induction n5 with
        | zero => intro x3_5 x4_5 x5_5 x6_5 u5 H locs ls hG hl hf; cases hf
        | succ n5 ih5 =>
          intro x3_5 x4_5 x5_5 x6_5 u5 H locs ls hG hl hf
          obtain ⟨X5, hf, hX5⟩ := while_s hf
          have hf : f_X8_best_L36 p1 p2 x3_5 x4_5 x5_5 x6_5 u5 = some X5 := hf
          unfold f_X8_best_L36 at hf
          refine lv_iload hx hb dX8_best_36 (lv_at hl 6 rfl) ?_
          refine lv_iconst (v := (4 : Int32)) hx hb dX8_best_38 (by decide) ?_
          refine lv_icmp_ge (tgt := 120) hx hb dX8_best_39 (by decide) (fun c6 => ?_) (fun c6 => ?_)
          · have hf := gif_t c6 hf
            refine lv_iload_n hx hb dX8_best_120 rfl (lv_at hl 3 rfl) ?_
            have hf := while_r hX5 hf
            obtain ⟨hr1, hu⟩ := gret_s hf
            subst hr1
            subst hu
            subst hQ
            exact g_iret C0 hG hr dX8_best_121
          · have hf := gif_f c6 hf
            refine lv_aload_n hx hb dX8_best_42 rfl (lv_at hl 0 rfl) ?_
            obtain ⟨_, u7, hc7, hf⟩ := obind_s hf
            refine g_doV0 hG (g_runV C0 hG (k_X8_save l D base Z u5 u7 hc7) m_X8_save v_X8_save w_1274 (by decide) (g_recv C0 hG (L82 hG) rfl) rfl hl.1 rfl (Nat.le_of_ble_eq_true rfl) dX8_best_43 ⟨Nat.zero_le _, Nat.zero_le _⟩) (fun H locs hG hk => ?_)
            refine lv_aload_n hx hb dX8_best_46 rfl (lv_at hl 0 rfl) ?_
            refine g_getSa (o := 3) (a := 85) C0 hG (L82 hG) rfl 7 (by decide) rfl rfl w_853 dX8_best_47 ?_
            refine lv_iload_n hx hb dX8_best_50 rfl (lv_at hl 1 rfl) ?_
            refine lv_iload hx hb dX8_best_51 (lv_at hl 6 rfl) ?_
            obtain ⟨h8, hf⟩ := gin_s hf
            refine g_iast C0 hG (L85 hG) h8 dX8_best_53 (fun H locs hG => ?_)
            refine lv_aload_n hx hb dX8_best_54 rfl (lv_at hl 0 rfl) ?_
            refine lv_iload_n hx hb dX8_best_55 rfl (lv_at hl 2 rfl) ?_
            obtain ⟨_, u9, hc9, hf⟩ := obind_s hf
            refine g_doV0 hG (g_runV C0 hG (k_X8_goMinutes l D base Z (sA u7 85 p1.toNatClampNeg x6_5) p2 u9 hc9) m_X8_goMinutes v_X8_goMinutes w_1238 (by decide) (g_recv C0 hG (L82 hG) rfl) rfl hl.1 rfl (Nat.le_of_ble_eq_true rfl) dX8_best_56 ⟨Nat.zero_le _, Nat.zero_le _⟩) (fun H locs hG hk => ?_)
            refine lv_aload_n hx hb dX8_best_59 rfl (lv_at hl 0 rfl) ?_
            refine g_getI C0 hG (L82 hG) rfl 3 (by decide) rfl w_849 dX8_best_60 ?_
            refine lv_istore (lv' := [(7, .int (gI u9 82 3)), (0, .ref (base + 82)), (1, .int p1), (2, .int p2), (3, .int x3_5), (4, .int x4_5), (5, .int x5_5), (6, .int x6_5)]) hx hb dX8_best_63 hl (by decide) rfl (fun ls hl => ?_)
            refine lv_aload_n hx hb dX8_best_65 rfl (lv_at hl 1 rfl) ?_
            refine g_getI C0 hG (L82 hG) rfl 2 (by decide) rfl w_848 dX8_best_66 ?_
            refine lv_istore (lv' := [(8, .int (gI u9 82 2)), (7, .int (gI u9 82 3)), (0, .ref (base + 82)), (1, .int p1), (2, .int p2), (3, .int x3_5), (4, .int x4_5), (5, .int x5_5), (6, .int x6_5)]) hx hb dX8_best_69 hl (by decide) rfl (fun ls hl => ?_)
            refine lv_aload_n hx hb dX8_best_71 rfl (lv_at hl 2 rfl) ?_
            obtain ⟨_, u10, hc10, hf⟩ := obind_s hf
            refine g_doV0 hG (g_runV C0 hG (k_X8_putBack l D base Z u9 u10 hc10) m_X8_putBack v_X8_putBack w_1278 (by decide) (g_recv C0 hG (L82 hG) rfl) rfl hl.1 rfl (Nat.le_of_ble_eq_true rfl) dX8_best_72 ⟨Nat.zero_le _, Nat.zero_le _⟩) (fun H locs hG hk => ?_)
            refine lv_iload_n hx hb dX8_best_75 rfl (lv_at hl 5 rfl) ?_
            refine lv_if_lt (tgt := 103) hx hb dX8_best_76 (by decide) (fun c11 => ?_) (fun c11 => ?_)
            · have hf := gif_t c11 hf
              refine lv_iload hx hb dX8_best_103 (lv_at hl 8 rfl) ?_
              refine lv_istore_n (lv' := [(3, .int x6_5), (8, .int (gI u9 82 2)), (7, .int (gI u9 82 3)), (0, .ref (base + 82)), (1, .int p1), (2, .int p2), (4, .int x4_5), (5, .int x5_5), (6, .int x6_5)]) hx hb dX8_best_105 rfl hl (by decide) rfl (fun ls hl => ?_)
              refine lv_iload hx hb dX8_best_106 (lv_at hl 2 rfl) ?_
              refine lv_istore (lv' := [(4, .int (gI u9 82 3)), (3, .int x6_5), (8, .int (gI u9 82 2)), (7, .int (gI u9 82 3)), (0, .ref (base + 82)), (1, .int p1), (2, .int p2), (5, .int x5_5), (6, .int x6_5)]) hx hb dX8_best_108 hl (by decide) rfl (fun ls hl => ?_)
              refine lv_iload hx hb dX8_best_110 (lv_at hl 2 rfl) ?_
              refine lv_istore (lv' := [(5, .int (gI u9 82 2)), (4, .int (gI u9 82 3)), (3, .int x6_5), (8, .int (gI u9 82 2)), (7, .int (gI u9 82 3)), (0, .ref (base + 82)), (1, .int p1), (2, .int p2), (6, .int x6_5)]) hx hb dX8_best_112 hl (by decide) rfl (fun ls hl => ?_)
              refine lv_iinc (v := x6_5 + (1 : Int32)) (lv' := [(6, .int (x6_5 + (1 : Int32))), (5, .int (gI u9 82 2)), (4, .int (gI u9 82 3)), (3, .int x6_5), (8, .int (gI u9 82 2)), (7, .int (gI u9 82 3)), (0, .ref (base + 82)), (1, .int p1), (2, .int p2)]) hx hb dX8_best_114 hl (k := 8) rfl rfl (by decide) rfl (fun ls hl => ?_)
              refine lv_goto (tgt := 36) hx hb dX8_best_117 (by decide) ?_
              have hf := while_l hX5 hf
              exact ih5 x6_5 (gI u9 82 3) (gI u9 82 2) (x6_5 + (1 : Int32)) u10 _ _ ls hG (lv_sub hl [6, 7, 8, 3, 2, 1, 0] rfl) hf
            · have hf := gif_f c11 hf
              refine lv_iload hx hb dX8_best_79 (lv_at hl 1 rfl) ?_
              refine lv_iload hx hb dX8_best_81 (lv_at hl 6 rfl) ?_
              refine lv_icmp_lt (tgt := 114) hx hb dX8_best_83 (by decide) (fun c12 => ?_) (fun c12 => ?_)
              · have hf := gif_t c12 hf
                refine lv_iinc (v := x6_5 + (1 : Int32)) (lv' := [(6, .int (x6_5 + (1 : Int32))), (8, .int (gI u9 82 2)), (7, .int (gI u9 82 3)), (0, .ref (base + 82)), (1, .int p1), (2, .int p2), (3, .int x3_5), (4, .int x4_5), (5, .int x5_5)]) hx hb dX8_best_114 hl (k := 8) rfl rfl (by decide) rfl (fun ls hl => ?_)
                refine lv_goto (tgt := 36) hx hb dX8_best_117 (by decide) ?_
                have hf := while_l hX5 hf
                exact ih5 x3_5 x4_5 x5_5 (x6_5 + (1 : Int32)) u10 _ _ ls hG (lv_sub hl [3, 4, 5, 6, 7, 8, 0] rfl) hf
              · have hf := gif_f c12 hf
                refine lv_iload hx hb dX8_best_86 (lv_at hl 1 rfl) ?_
                refine lv_iload hx hb dX8_best_88 (lv_at hl 6 rfl) ?_
                refine lv_icmp_ne (tgt := 103) hx hb dX8_best_90 (by decide) (fun c13 => ?_) (fun c13 => ?_)
                · have hf := gif_f c13 hf
                  refine lv_iload hx hb dX8_best_103 (lv_at hl 8 rfl) ?_
                  refine lv_istore_n (lv' := [(3, .int x6_5), (8, .int (gI u9 82 2)), (7, .int (gI u9 82 3)), (0, .ref (base + 82)), (1, .int p1), (2, .int p2), (4, .int x4_5), (5, .int x5_5), (6, .int x6_5)]) hx hb dX8_best_105 rfl hl (by decide) rfl (fun ls hl => ?_)
                  refine lv_iload hx hb dX8_best_106 (lv_at hl 2 rfl) ?_
                  refine lv_istore (lv' := [(4, .int (gI u9 82 3)), (3, .int x6_5), (8, .int (gI u9 82 2)), (7, .int (gI u9 82 3)), (0, .ref (base + 82)), (1, .int p1), (2, .int p2), (5, .int x5_5), (6, .int x6_5)]) hx hb dX8_best_108 hl (by decide) rfl (fun ls hl => ?_)
                  refine lv_iload hx hb dX8_best_110 (lv_at hl 2 rfl) ?_
                  refine lv_istore (lv' := [(5, .int (gI u9 82 2)), (4, .int (gI u9 82 3)), (3, .int x6_5), (8, .int (gI u9 82 2)), (7, .int (gI u9 82 3)), (0, .ref (base + 82)), (1, .int p1), (2, .int p2), (6, .int x6_5)]) hx hb dX8_best_112 hl (by decide) rfl (fun ls hl => ?_)
                  refine lv_iinc (v := x6_5 + (1 : Int32)) (lv' := [(6, .int (x6_5 + (1 : Int32))), (5, .int (gI u9 82 2)), (4, .int (gI u9 82 3)), (3, .int x6_5), (8, .int (gI u9 82 2)), (7, .int (gI u9 82 3)), (0, .ref (base + 82)), (1, .int p1), (2, .int p2)]) hx hb dX8_best_114 hl (k := 8) rfl rfl (by decide) rfl (fun ls hl => ?_)
                  refine lv_goto (tgt := 36) hx hb dX8_best_117 (by decide) ?_
                  have hf := while_l hX5 hf
                  exact ih5 x6_5 (gI u9 82 3) (gI u9 82 2) (x6_5 + (1 : Int32)) u10 _ _ ls hG (lv_sub hl [6, 7, 8, 3, 2, 1, 0] rfl) hf
                · have hf := gif_t c13 hf
                  refine lv_iload hx hb dX8_best_93 (lv_at hl 0 rfl) ?_
                  refine lv_iload hx hb dX8_best_95 (lv_at hl 7 rfl) ?_
                  refine lv_icmp_gt (tgt := 103) hx hb dX8_best_97 (by decide) (fun c14 => ?_) (fun c14 => ?_)
                  · have hf := gif_t c14 hf
                    refine lv_iload hx hb dX8_best_103 (lv_at hl 8 rfl) ?_
                    refine lv_istore_n (lv' := [(3, .int x6_5), (8, .int (gI u9 82 2)), (7, .int (gI u9 82 3)), (0, .ref (base + 82)), (1, .int p1), (2, .int p2), (4, .int x4_5), (5, .int x5_5), (6, .int x6_5)]) hx hb dX8_best_105 rfl hl (by decide) rfl (fun ls hl => ?_)
                    refine lv_iload hx hb dX8_best_106 (lv_at hl 2 rfl) ?_
                    refine lv_istore (lv' := [(4, .int (gI u9 82 3)), (3, .int x6_5), (8, .int (gI u9 82 2)), (7, .int (gI u9 82 3)), (0, .ref (base + 82)), (1, .int p1), (2, .int p2), (5, .int x5_5), (6, .int x6_5)]) hx hb dX8_best_108 hl (by decide) rfl (fun ls hl => ?_)
                    refine lv_iload hx hb dX8_best_110 (lv_at hl 2 rfl) ?_
                    refine lv_istore (lv' := [(5, .int (gI u9 82 2)), (4, .int (gI u9 82 3)), (3, .int x6_5), (8, .int (gI u9 82 2)), (7, .int (gI u9 82 3)), (0, .ref (base + 82)), (1, .int p1), (2, .int p2), (6, .int x6_5)]) hx hb dX8_best_112 hl (by decide) rfl (fun ls hl => ?_)
                    refine lv_iinc (v := x6_5 + (1 : Int32)) (lv' := [(6, .int (x6_5 + (1 : Int32))), (5, .int (gI u9 82 2)), (4, .int (gI u9 82 3)), (3, .int x6_5), (8, .int (gI u9 82 2)), (7, .int (gI u9 82 3)), (0, .ref (base + 82)), (1, .int p1), (2, .int p2)]) hx hb dX8_best_114 hl (k := 8) rfl rfl (by decide) rfl (fun ls hl => ?_)
                    refine lv_goto (tgt := 36) hx hb dX8_best_117 (by decide) ?_
                    have hf := while_l hX5 hf
                    exact ih5 x6_5 (gI u9 82 3) (gI u9 82 2) (x6_5 + (1 : Int32)) u10 _ _ ls hG (lv_sub hl [6, 7, 8, 3, 2, 1, 0] rfl) hf
                  · have hf := gif_f c14 hf
                    refine lv_goto (tgt := 114) hx hb dX8_best_100 (by decide) ?_
                    refine lv_iinc (v := x6_5 + (1 : Int32)) (lv' := [(6, .int (x6_5 + (1 : Int32))), (8, .int (gI u9 82 2)), (7, .int (gI u9 82 3)), (0, .ref (base + 82)), (1, .int p1), (2, .int p2), (3, .int x3_5), (4, .int x4_5), (5, .int x5_5)]) hx hb dX8_best_114 hl (k := 8) rfl rfl (by decide) rfl (fun ls hl => ?_)
                    refine lv_goto (tgt := 36) hx hb dX8_best_117 (by decide) ?_
                    have hf := while_l hX5 hf
                    exact ih5 x3_5 x4_5 x5_5 (x6_5 + (1 : Int32)) u10 _ _ ls hG (lv_sub hl [3, 4, 5, 6, 7, 8, 0] rfl) hf
      exact loop5 FUEL (-5 : Int32) (0 : Int32) (0 : Int32) (0 : Int32) u _ _ ls hG (lv_sub hl [4, 5, 6, 3, 2, 1, 0] rfl) hf
    · have hf := gif_t c4 hf
      refine lv_bipush (v := (-2 : Int32)) hx hb dX8_best_21 (by decide) ?_
      obtain ⟨hr1, hu⟩ := gret_s hf
      subst hr1
      subst hu
      subst hQ
      exact g_iret C0 hG hr dX8_best_23
  · have hf := gif_t c2 hf
    refine lv_iconst (v := (-1 : Int32)) hx hb dX8_best_8 (by decide) ?_
    obtain ⟨hr1, hu⟩ := gret_s hf
    subst hr1
    subst hu
    subst hQ
    exact g_iret C0 hG hr dX8_best_9
theorem dX8_spotSwapped_0 : decode cX8_spotSwapped 0 = .ok (.aload_n 0, 1) := by decide +kernel
theorem dX8_spotSwapped_1 : decode cX8_spotSwapped 1 = .ok (.invokevirtual 367, 3) := by decide +kernel
theorem dX8_spotSwapped_4 : decode cX8_spotSwapped 4 = .ok (.aload_n 0, 1) := by decide +kernel
theorem dX8_spotSwapped_5 : decode cX8_spotSwapped 5 = .ok (.getfield 32, 3) := by decide +kernel
theorem dX8_spotSwapped_8 : decode cX8_spotSwapped 8 = .ok (.iload_n 1, 1) := by decide +kernel
theorem dX8_spotSwapped_9 : decode cX8_spotSwapped 9 = .ok (.iaload, 1) := by decide +kernel
theorem dX8_spotSwapped_10 : decode cX8_spotSwapped 10 = .ok (.istore 4, 2) := by decide +kernel
theorem dX8_spotSwapped_12 : decode cX8_spotSwapped 12 = .ok (.aload_n 0, 1) := by decide +kernel
theorem dX8_spotSwapped_13 : decode cX8_spotSwapped 13 = .ok (.getfield 32, 3) := by decide +kernel
theorem dX8_spotSwapped_16 : decode cX8_spotSwapped 16 = .ok (.iload_n 1, 1) := by decide +kernel
theorem dX8_spotSwapped_17 : decode cX8_spotSwapped 17 = .ok (.aload_n 0, 1) := by decide +kernel
theorem dX8_spotSwapped_18 : decode cX8_spotSwapped 18 = .ok (.getfield 32, 3) := by decide +kernel
theorem dX8_spotSwapped_21 : decode cX8_spotSwapped 21 = .ok (.iload_n 2, 1) := by decide +kernel
theorem dX8_spotSwapped_22 : decode cX8_spotSwapped 22 = .ok (.iaload, 1) := by decide +kernel
theorem dX8_spotSwapped_23 : decode cX8_spotSwapped 23 = .ok (.iastore, 1) := by decide +kernel
theorem dX8_spotSwapped_24 : decode cX8_spotSwapped 24 = .ok (.aload_n 0, 1) := by decide +kernel
theorem dX8_spotSwapped_25 : decode cX8_spotSwapped 25 = .ok (.getfield 32, 3) := by decide +kernel
theorem dX8_spotSwapped_28 : decode cX8_spotSwapped 28 = .ok (.iload_n 2, 1) := by decide +kernel
theorem dX8_spotSwapped_29 : decode cX8_spotSwapped 29 = .ok (.iload 4, 2) := by decide +kernel
theorem dX8_spotSwapped_31 : decode cX8_spotSwapped 31 = .ok (.iastore, 1) := by decide +kernel
theorem dX8_spotSwapped_32 : decode cX8_spotSwapped 32 = .ok (.aload_n 0, 1) := by decide +kernel
theorem dX8_spotSwapped_33 : decode cX8_spotSwapped 33 = .ok (.iload_n 3, 1) := by decide +kernel
theorem dX8_spotSwapped_34 : decode cX8_spotSwapped 34 = .ok (.invokevirtual 358, 3) := by decide +kernel
theorem dX8_spotSwapped_37 : decode cX8_spotSwapped 37 = .ok (.aload_n 0, 1) := by decide +kernel
theorem dX8_spotSwapped_38 : decode cX8_spotSwapped 38 = .ok (.getfield 19, 3) := by decide +kernel
theorem dX8_spotSwapped_41 : decode cX8_spotSwapped 41 = .ok (.istore 5, 2) := by decide +kernel
theorem dX8_spotSwapped_43 : decode cX8_spotSwapped 43 = .ok (.aload_n 0, 1) := by decide +kernel
theorem dX8_spotSwapped_44 : decode cX8_spotSwapped 44 = .ok (.invokevirtual 370, 3) := by decide +kernel
theorem dX8_spotSwapped_47 : decode cX8_spotSwapped 47 = .ok (.iload 5, 2) := by decide +kernel
theorem dX8_spotSwapped_49 : decode cX8_spotSwapped 49 = .ok (.ireturn, 1) := by decide +kernel
def f_X8_spotSwapped (p1 : Int32) (p2 : Int32) (p3 : Int32) (u : Mem) : Option (Int32 × Mem) := obind (f_X8_save u) (fun _ u1 => gin p1 6 (gin p2 6 (gin p1 6 (gin p2 6 (obind (f_X8_goMinutes p3 (sA (sA u1 85 p1.toNatClampNeg (gA u1 85 p2.toNatClampNeg)) 85 p2.toNatClampNeg (gA u1 85 p1.toNatClampNeg))) (fun _ u6 => obind (f_X8_putBack u6) (fun _ u7 => some (gI u6 82 3, u7))))))))
set_option maxHeartbeats 4000000 in
set_option maxRecDepth 100000 in
theorem k_X8_spotSwapped (l : Launch) (D : gDt) (base : Nat) (Z : gZt) (u : Mem) (p1 : Int32) (p2 : Int32) (p3 : Int32) (r : Int32) (u' : Mem) (hf : f_X8_spotSwapped p1 p2 p3 u = some (r, u')) : Met l yX8_spotSwapped (gws yX8_spotSwapped cX8_spotSwapped 6 (some .int)) (gRm 8 0 0) (gPc D base Z u [.ref (base + 82), .int p1, .int p2, .int p3]) (gQi D base r u') 0 0 (gF base) := by
  refine Met.ofW (cc := cX8_spotSwapped) (maxL := 6) (ret := some .int) (by decide) rfl ?_
  intro p e s m args below meth c s₁ B hml hv
  obtain ⟨rfl, C0, hG⟩ := g_enter B hml hv
  have hr := B.returns
  have C0 : gC p s m meth c _ cX8_spotSwapped 6 RX8 D base Z := C0
  have hx := C0.1
  have hb := C0.2.1
  have hl := lv_entry ([.ref (base + 82), .int p1, .int p2, .int p3]) (n := 6) (Nat.le_of_ble_eq_true rfl)
  rw [lg_entry_eq]
  generalize (lg_sl ([.ref (base + 82), .int p1, .int p2, .int p3]) ++ List.replicate (6 - (lg_sl ([.ref (base + 82), .int p1, .int p2, .int p3])).length) Slot.unset).toArray = ls at hl ⊢
  have hl : lv_has ls 6 [(0, .ref (base + 82)), (1, .int p1), (2, .int p2), (3, .int p3)] := hl
  obtain ⟨Q, hQ⟩ : ∃ Q, Q = MQ below (gQi D base r u') ([.ref (base + 82), .int p1, .int p2, .int p3] : List Value).toArray s 0 0 (gF base) := ⟨_, rfl⟩
  rw [← hQ]
  change W p l e (gRm 8 0 0) s m _ below meth c _ _ _ _ _ _
  unfold f_X8_spotSwapped at hf
  refine lv_aload_n hx hb dX8_spotSwapped_0 rfl (lv_at hl 0 rfl) ?_
  obtain ⟨_, u1, hc1, hf⟩ := obind_s hf
  refine g_doV0 hG (g_runV C0 hG (k_X8_save l D base Z u u1 hc1) m_X8_save v_X8_save w_1274 (by decide) (g_recv C0 hG (L82 hG) rfl) rfl hl.1 rfl (Nat.le_of_ble_eq_true rfl) dX8_spotSwapped_1 ⟨Nat.zero_le _, Nat.zero_le _⟩) (fun H locs hG hk => ?_)
  refine lv_aload_n hx hb dX8_spotSwapped_4 rfl (lv_at hl 0 rfl) ?_
  refine g_getSa (o := 3) (a := 85) C0 hG (L82 hG) rfl 7 (by decide) rfl rfl w_853 dX8_spotSwapped_5 ?_
  refine lv_iload_n hx hb dX8_spotSwapped_8 rfl (lv_at hl 1 rfl) ?_
  obtain ⟨h2, hf⟩ := gin_s hf
  refine g_iald C0 hG (L85 hG) h2 dX8_spotSwapped_9 ?_
  refine lv_istore (lv' := [(4, .int (gA u1 85 p1.toNatClampNeg)), (0, .ref (base + 82)), (1, .int p1), (2, .int p2), (3, .int p3)]) hx hb dX8_spotSwapped_10 hl (by decide) rfl (fun ls hl => ?_)
  refine lv_aload_n hx hb dX8_spotSwapped_12 rfl (lv_at hl 1 rfl) ?_
  refine g_getSa (o := 3) (a := 85) C0 hG (L82 hG) rfl 7 (by decide) rfl rfl w_853 dX8_spotSwapped_13 ?_
  refine lv_iload_n hx hb dX8_spotSwapped_16 rfl (lv_at hl 2 rfl) ?_
  refine lv_aload_n hx hb dX8_spotSwapped_17 rfl (lv_at hl 1 rfl) ?_
  refine g_getSa (o := 3) (a := 85) C0 hG (L82 hG) rfl 7 (by decide) rfl rfl w_853 dX8_spotSwapped_18 ?_
  refine lv_iload_n hx hb dX8_spotSwapped_21 rfl (lv_at hl 3 rfl) ?_
  obtain ⟨h3, hf⟩ := gin_s hf
  refine g_iald C0 hG (L85 hG) h3 dX8_spotSwapped_22 ?_
  obtain ⟨h4, hf⟩ := gin_s hf
  refine g_iast C0 hG (L85 hG) h4 dX8_spotSwapped_23 (fun H locs hG => ?_)
  refine lv_aload_n hx hb dX8_spotSwapped_24 rfl (lv_at hl 1 rfl) ?_
  refine g_getSa (o := 3) (a := 85) C0 hG (L82 hG) rfl 7 (by decide) rfl rfl w_853 dX8_spotSwapped_25 ?_
  refine lv_iload_n hx hb dX8_spotSwapped_28 rfl (lv_at hl 3 rfl) ?_
  refine lv_iload hx hb dX8_spotSwapped_29 (lv_at hl 0 rfl) ?_
  obtain ⟨h5, hf⟩ := gin_s hf
  refine g_iast C0 hG (L85 hG) h5 dX8_spotSwapped_31 (fun H locs hG => ?_)
  refine lv_aload_n hx hb dX8_spotSwapped_32 rfl (lv_at hl 1 rfl) ?_
  refine lv_iload_n hx hb dX8_spotSwapped_33 rfl (lv_at hl 4 rfl) ?_
  obtain ⟨_, u6, hc6, hf⟩ := obind_s hf
  refine g_doV0 hG (g_runV C0 hG (k_X8_goMinutes l D base Z (sA (sA u1 85 p1.toNatClampNeg (gA u1 85 p2.toNatClampNeg)) 85 p2.toNatClampNeg (gA u1 85 p1.toNatClampNeg)) p3 u6 hc6) m_X8_goMinutes v_X8_goMinutes w_1238 (by decide) (g_recv C0 hG (L82 hG) rfl) rfl hl.1 rfl (Nat.le_of_ble_eq_true rfl) dX8_spotSwapped_34 ⟨Nat.zero_le _, Nat.zero_le _⟩) (fun H locs hG hk => ?_)
  refine lv_aload_n hx hb dX8_spotSwapped_37 rfl (lv_at hl 1 rfl) ?_
  refine g_getI C0 hG (L82 hG) rfl 3 (by decide) rfl w_849 dX8_spotSwapped_38 ?_
  refine lv_istore (lv' := [(5, .int (gI u6 82 3)), (4, .int (gA u1 85 p1.toNatClampNeg)), (0, .ref (base + 82)), (1, .int p1), (2, .int p2), (3, .int p3)]) hx hb dX8_spotSwapped_41 hl (by decide) rfl (fun ls hl => ?_)
  refine lv_aload_n hx hb dX8_spotSwapped_43 rfl (lv_at hl 2 rfl) ?_
  obtain ⟨_, u7, hc7, hf⟩ := obind_s hf
  refine g_doV0 hG (g_runV C0 hG (k_X8_putBack l D base Z u6 u7 hc7) m_X8_putBack v_X8_putBack w_1278 (by decide) (g_recv C0 hG (L82 hG) rfl) rfl hl.1 rfl (Nat.le_of_ble_eq_true rfl) dX8_spotSwapped_44 ⟨Nat.zero_le _, Nat.zero_le _⟩) (fun H locs hG hk => ?_)
  refine lv_iload hx hb dX8_spotSwapped_47 (lv_at hl 0 rfl) ?_
  obtain ⟨hr1, hu⟩ := gret_s hf
  subst hr1
  subst hu
  subst hQ
  exact g_iret C0 hG hr dX8_spotSwapped_49
theorem dX8_swap_0 : decode cX8_swap 0 = .ok (.aload_n 0, 1) := by decide +kernel
theorem dX8_swap_1 : decode cX8_swap 1 = .ok (.iload_n 1, 1) := by decide +kernel
theorem dX8_swap_2 : decode cX8_swap 2 = .ok (.iconst 1, 1) := by decide +kernel
theorem dX8_swap_3 : decode cX8_swap 3 = .ok (.bipush 10, 2) := by decide +kernel
theorem dX8_swap_5 : decode cX8_swap 5 = .ok (.invokevirtual 249, 3) := by decide +kernel
theorem dX8_swap_8 : decode cX8_swap 8 = .ok (.ifCond .ne 6, 3) := by decide +kernel
theorem dX8_swap_11 : decode cX8_swap 11 = .ok (.bipush (-2), 2) := by decide +kernel
theorem dX8_swap_13 : decode cX8_swap 13 = .ok (.ireturn, 1) := by decide +kernel
theorem dX8_swap_14 : decode cX8_swap 14 = .ok (.bipush (-5), 2) := by decide +kernel
theorem dX8_swap_16 : decode cX8_swap 16 = .ok (.istore_n 2, 1) := by decide +kernel
theorem dX8_swap_17 : decode cX8_swap 17 = .ok (.aload_n 0, 1) := by decide +kernel
theorem dX8_swap_18 : decode cX8_swap 18 = .ok (.iload_n 1, 1) := by decide +kernel
theorem dX8_swap_19 : decode cX8_swap 19 = .ok (.iconst 1, 1) := by decide +kernel
theorem dX8_swap_20 : decode cX8_swap 20 = .ok (.invokevirtual 373, 3) := by decide +kernel
theorem dX8_swap_23 : decode cX8_swap 23 = .ok (.istore_n 3, 1) := by decide +kernel
theorem dX8_swap_24 : decode cX8_swap 24 = .ok (.iconst 0, 1) := by decide +kernel
theorem dX8_swap_25 : decode cX8_swap 25 = .ok (.istore 4, 2) := by decide +kernel
theorem dX8_swap_27 : decode cX8_swap 27 = .ok (.iload 4, 2) := by decide +kernel
theorem dX8_swap_29 : decode cX8_swap 29 = .ok (.aload_n 0, 1) := by decide +kernel
theorem dX8_swap_30 : decode cX8_swap 30 = .ok (.getfield 7, 3) := by decide +kernel
theorem dX8_swap_33 : decode cX8_swap 33 = .ok (.if_icmp .ge 62, 3) := by decide +kernel
theorem dX8_swap_36 : decode cX8_swap 36 = .ok (.iload 4, 2) := by decide +kernel
theorem dX8_swap_38 : decode cX8_swap 38 = .ok (.iconst 1, 1) := by decide +kernel
theorem dX8_swap_39 : decode cX8_swap 39 = .ok (.iadd, 1) := by decide +kernel
theorem dX8_swap_40 : decode cX8_swap 40 = .ok (.istore 5, 2) := by decide +kernel
theorem dX8_swap_42 : decode cX8_swap 42 = .ok (.iload 5, 2) := by decide +kernel
theorem dX8_swap_44 : decode cX8_swap 44 = .ok (.aload_n 0, 1) := by decide +kernel
theorem dX8_swap_45 : decode cX8_swap 45 = .ok (.getfield 7, 3) := by decide +kernel
theorem dX8_swap_48 : decode cX8_swap 48 = .ok (.if_icmp .ge 41, 3) := by decide +kernel
theorem dX8_swap_51 : decode cX8_swap 51 = .ok (.aload_n 0, 1) := by decide +kernel
theorem dX8_swap_52 : decode cX8_swap 52 = .ok (.iload 4, 2) := by decide +kernel
theorem dX8_swap_54 : decode cX8_swap 54 = .ok (.iload 5, 2) := by decide +kernel
theorem dX8_swap_56 : decode cX8_swap 56 = .ok (.iload_n 1, 1) := by decide +kernel
theorem dX8_swap_57 : decode cX8_swap 57 = .ok (.invokevirtual 376, 3) := by decide +kernel
theorem dX8_swap_60 : decode cX8_swap 60 = .ok (.istore 6, 2) := by decide +kernel
theorem dX8_swap_62 : decode cX8_swap 62 = .ok (.iload 6, 2) := by decide +kernel
theorem dX8_swap_64 : decode cX8_swap 64 = .ok (.iload_n 3, 1) := by decide +kernel
theorem dX8_swap_65 : decode cX8_swap 65 = .ok (.if_icmp .gt 6, 3) := by decide +kernel
theorem dX8_swap_68 : decode cX8_swap 68 = .ok (.goto 15, 3) := by decide +kernel
theorem dX8_swap_71 : decode cX8_swap 71 = .ok (.bipush 10, 2) := by decide +kernel
theorem dX8_swap_73 : decode cX8_swap 73 = .ok (.iload 4, 2) := by decide +kernel
theorem dX8_swap_75 : decode cX8_swap 75 = .ok (.imul, 1) := by decide +kernel
theorem dX8_swap_76 : decode cX8_swap 76 = .ok (.iload 5, 2) := by decide +kernel
theorem dX8_swap_78 : decode cX8_swap 78 = .ok (.iadd, 1) := by decide +kernel
theorem dX8_swap_79 : decode cX8_swap 79 = .ok (.istore_n 2, 1) := by decide +kernel
theorem dX8_swap_80 : decode cX8_swap 80 = .ok (.iload 6, 2) := by decide +kernel
theorem dX8_swap_82 : decode cX8_swap 82 = .ok (.istore_n 3, 1) := by decide +kernel
theorem dX8_swap_83 : decode cX8_swap 83 = .ok (.iinc 5 1, 3) := by decide +kernel
theorem dX8_swap_86 : decode cX8_swap 86 = .ok (.goto (-44), 3) := by decide +kernel
theorem dX8_swap_89 : decode cX8_swap 89 = .ok (.iinc 4 1, 3) := by decide +kernel
theorem dX8_swap_92 : decode cX8_swap 92 = .ok (.goto (-65), 3) := by decide +kernel
theorem dX8_swap_95 : decode cX8_swap 95 = .ok (.iload_n 2, 1) := by decide +kernel
theorem dX8_swap_96 : decode cX8_swap 96 = .ok (.ireturn, 1) := by decide +kernel
def f_X8_swap_L42 (p1 : Int32) (x2_6 : Int32) (x3_6 : Int32) (x4_6 : Int32) (x5_6 : Int32) (u6 : Mem) : Option ((Int32 × Int32 × Int32 × Int32 × Mem) ⊕ ((Int32 × Int32 × Int32 × Mem) ⊕ (Int32 × Mem))) := (if (gI u6 82 0) ≤ x5_6 then some (Sum.inr (Sum.inl (x2_6, (x3_6, (x4_6 + (1 : Int32), u6))))) else obind (f_X8_spotSwapped x4_6 x5_6 p1 u6) (fun r8 u8 => (if x3_6 < r8 then some (Sum.inl (((10 : Int32) * x4_6) + x5_6, (r8, (x4_6, (x5_6 + (1 : Int32), u8))))) else some (Sum.inl (x2_6, (x3_6, (x4_6, (x5_6 + (1 : Int32), u8))))))))
def f_X8_swap_L27 (p1 : Int32) (x2_4 : Int32) (x3_4 : Int32) (x4_4 : Int32) (u4 : Mem) : Option ((Int32 × Int32 × Int32 × Mem) ⊕ (Int32 × Mem)) := (if (gI u4 82 0) ≤ x4_4 then some (Sum.inr (x2_4, u4)) else whileO (fun s => f_X8_swap_L42 p1 s.1 s.2.1 s.2.2.1 s.2.2.2.1 s.2.2.2.2) FUEL (x2_4, (x3_4, (x4_4, (x4_4 + (1 : Int32), u4)))))
def f_X8_swap (p1 : Int32) (u : Mem) : Option (Int32 × Mem) := Option.bind (f_X8_in p1 (1 : Int32) (10 : Int32)) (fun r1 => (if r1 = 0 then some ((-2 : Int32), u) else obind (f_X8_on p1 (1 : Int32) u) (fun r3 u3 => whileO (fun s => f_X8_swap_L27 p1 s.1 s.2.1 s.2.2.1 s.2.2.2) FUEL ((-5 : Int32), (r3, ((0 : Int32), u3))))))
set_option maxHeartbeats 4000000 in
set_option maxRecDepth 100000 in
theorem k_X8_swap (l : Launch) (D : gDt) (base : Nat) (Z : gZt) (u : Mem) (p1 : Int32) (r : Int32) (u' : Mem) (hf : f_X8_swap p1 u = some (r, u')) : Met l yX8_swap (gws yX8_swap cX8_swap 7 (some .int)) (gRm 9 0 0) (gPc D base Z u [.ref (base + 82), .int p1]) (gQi D base r u') 0 0 (gF base) := by
  refine Met.ofW (cc := cX8_swap) (maxL := 7) (ret := some .int) (by decide) rfl ?_
  intro p e s m args below meth c s₁ B hml hv
  obtain ⟨rfl, C0, hG⟩ := g_enter B hml hv
  have hr := B.returns
  have C0 : gC p s m meth c _ cX8_swap 7 RX8 D base Z := C0
  have hx := C0.1
  have hb := C0.2.1
  have hl := lv_entry ([.ref (base + 82), .int p1]) (n := 7) (Nat.le_of_ble_eq_true rfl)
  rw [lg_entry_eq]
  generalize (lg_sl ([.ref (base + 82), .int p1]) ++ List.replicate (7 - (lg_sl ([.ref (base + 82), .int p1])).length) Slot.unset).toArray = ls at hl ⊢
  have hl : lv_has ls 7 [(0, .ref (base + 82)), (1, .int p1)] := hl
  obtain ⟨Q, hQ⟩ : ∃ Q, Q = MQ below (gQi D base r u') ([.ref (base + 82), .int p1] : List Value).toArray s 0 0 (gF base) := ⟨_, rfl⟩
  rw [← hQ]
  change W p l e (gRm 9 0 0) s m _ below meth c _ _ _ _ _ _
  unfold f_X8_swap at hf
  refine lv_aload_n hx hb dX8_swap_0 rfl (lv_at hl 0 rfl) ?_
  refine lv_iload_n hx hb dX8_swap_1 rfl (lv_at hl 1 rfl) ?_
  refine lv_iconst (v := (1 : Int32)) hx hb dX8_swap_2 (by decide) ?_
  refine lv_bipush (v := (10 : Int32)) hx hb dX8_swap_3 (by decide) ?_
  obtain ⟨r1, hc1, hf⟩ := pb_s hf
  refine g_doI0 hG (g_runV C0 hG (k_X8_in l D base Z u p1 (1 : Int32) (10 : Int32) r1 hc1) m_X8_in v_X8_in w_1082 (by decide) (g_recv C0 hG (L82 hG) rfl) rfl hl.1 rfl (Nat.le_of_ble_eq_true rfl) dX8_swap_5 ⟨Nat.zero_le _, Nat.zero_le _⟩) (fun H locs hG hk => ?_)
  refine lv_if_ne (tgt := 14) hx hb dX8_swap_8 (by decide) (fun c2 => ?_) (fun c2 => ?_)
  · have hf := gif_f c2 hf
    refine lv_bipush (v := (-5 : Int32)) hx hb dX8_swap_14 (by decide) ?_
    refine lv_istore_n (lv' := [(2, .int (-5 : Int32)), (0, .ref (base + 82)), (1, .int p1)]) hx hb dX8_swap_16 rfl hl (by decide) rfl (fun ls hl => ?_)
    refine lv_aload_n hx hb dX8_swap_17 rfl (lv_at hl 1 rfl) ?_
    refine lv_iload_n hx hb dX8_swap_18 rfl (lv_at hl 2 rfl) ?_
    refine lv_iconst (v := (1 : Int32)) hx hb dX8_swap_19 (by decide) ?_
    obtain ⟨r3, u3, hc3, hf⟩ := obind_s hf
    refine g_doI0 hG (g_runV C0 hG (k_X8_on l D base Z u p1 (1 : Int32) r3 u3 hc3) m_X8_on v_X8_on w_1298 (by decide) (g_recv C0 hG (L82 hG) rfl) rfl hl.1 rfl (Nat.le_of_ble_eq_true rfl) dX8_swap_20 ⟨Nat.zero_le _, Nat.zero_le _⟩) (fun H locs hG hk => ?_)
    refine lv_istore_n (lv' := [(3, .int r3), (2, .int (-5 : Int32)), (0, .ref (base + 82)), (1, .int p1)]) hx hb dX8_swap_23 rfl hl (by decide) rfl (fun ls hl => ?_)
    refine lv_iconst (v := (0 : Int32)) hx hb dX8_swap_24 (by decide) ?_
    refine lv_istore (lv' := [(4, .int (0 : Int32)), (3, .int r3), (2, .int (-5 : Int32)), (0, .ref (base + 82)), (1, .int p1)]) hx hb dX8_swap_25 hl (by decide) rfl (fun ls hl => ?_)
    have loop4 : ∀ (n4 : Nat) (x2_4 : Int32) (x3_4 : Int32) (x4_4 : Int32) (u4 : Mem) (H : Heap) (locs : List Loc) (ls : Array Slot), gH D base s u4 H locs → lv_has ls 7 [(0, .ref (base + 82)), (1, .int p1), (2, .int x2_4), (3, .int x3_4), (4, .int x4_4)] → whileO (fun s => f_X8_swap_L27 p1 s.1 s.2.1 s.2.2.1 s.2.2.2) n4 (x2_4, (x3_4, (x4_4, u4))) = some (r, u') → W p l e (gRm 9 0 0) s m ([.ref (base + 82), .int p1] : List Value).toArray below meth c H locs 0 0 Q (F0 m 27 ls []) := by
      intro n4
      induction n4 with
      | zero => intro x2_4 x3_4 x4_4 u4 H locs ls hG hl hf; cases hf
      | succ n4 ih4 =>
        intro x2_4 x3_4 x4_4 u4 H locs ls hG hl hf
        obtain ⟨X4, hf, hX4⟩ := while_s hf
        have hf : f_X8_swap_L27 p1 x2_4 x3_4 x4_4 u4 = some X4 := hf
        unfold f_X8_swap_L27 at hf
        refine lv_iload hx hb dX8_swap_27 (lv_at hl 4 rfl) ?_
        refine lv_aload_n hx hb dX8_swap_29 rfl (lv_at hl 0 rfl) ?_
        refine g_getI C0 hG (L82 hG) rfl 0 (by decide) rfl w_846 dX8_swap_30 ?_
        refine lv_icmp_ge (tgt := 95) hx hb dX8_swap_33 (by decide) (fun c5 => ?_) (fun c5 => ?_)
        · have hf := gif_t c5 hf
          refine lv_iload_n hx hb dX8_swap_95 rfl (lv_at hl 2 rfl) ?_
          have hf := while_r hX4 hf
          obtain ⟨hr1, hu⟩ := gret_s hf
          subst hr1
          subst hu
          subst hQ
          exact g_iret C0 hG hr dX8_swap_96
        · have hf := gif_f c5 hf
          refine lv_iload hx hb dX8_swap_36 (lv_at hl 4 rfl) ?_
          refine lv_iconst (v := (1 : Int32)) hx hb dX8_swap_38 (by decide) ?_
          refine lv_iadd hx hb dX8_swap_39 ?_
          refine lv_istore (lv' := [(5, .int (x4_4 + (1 : Int32))), (0, .ref (base + 82)), (1, .int p1), (2, .int x2_4), (3, .int x3_4), (4, .int x4_4)]) hx hb dX8_swap_40 hl (by decide) rfl (fun ls hl => ?_)
          have loop6 : ∀ (n6 : Nat) (x2_6 : Int32) (x3_6 : Int32) (x4_6 : Int32) (x5_6 : Int32) (u6 : Mem) (H : Heap) (locs : List Loc) (ls : Array Slot), gH D base s u6 H locs → lv_has ls 7 [(0, .ref (base + 82)), (1, .int p1), (2, .int x2_6), (3, .int x3_6), (4, .int x4_6), (5, .int x5_6)] → whileO (fun s => f_X8_swap_L42 p1 s.1 s.2.1 s.2.2.1 s.2.2.2.1 s.2.2.2.2) n6 (x2_6, (x3_6, (x4_6, (x5_6, u6)))) = some X4 → W p l e (gRm 9 0 0) s m ([.ref (base + 82), .int p1] : List Value).toArray below meth c H locs 0 0 Q (F0 m 42 ls []) := by
            intro n6
            induction n6 with
            | zero => intro x2_6 x3_6 x4_6 x5_6 u6 H locs ls hG hl hf; cases hf
            | succ n6 ih6 =>
              intro x2_6 x3_6 x4_6 x5_6 u6 H locs ls hG hl hf
              obtain ⟨X6, hf, hX6⟩ := while_s hf
              have hf : f_X8_swap_L42 p1 x2_6 x3_6 x4_6 x5_6 u6 = some X6 := hf
              unfold f_X8_swap_L42 at hf
              refine lv_iload hx hb dX8_swap_42 (lv_at hl 5 rfl) ?_
              refine lv_aload_n hx hb dX8_swap_44 rfl (lv_at hl 0 rfl) ?_
              refine g_getI C0 hG (L82 hG) rfl 0 (by decide) rfl w_846 dX8_swap_45 ?_
              refine lv_icmp_ge (tgt := 89) hx hb dX8_swap_48 (by decide) (fun c7 => ?_) (fun c7 => ?_)
              · have hf := gif_t c7 hf
                refine lv_iinc (v := x4_6 + (1 : Int32)) (lv' := [(4, .int (x4_6 + (1 : Int32))), (0, .ref (base + 82)), (1, .int p1), (2, .int x2_6), (3, .int x3_6), (5, .int x5_6)]) hx hb dX8_swap_89 hl (k := 4) rfl rfl (by decide) rfl (fun ls hl => ?_)
                refine lv_goto (tgt := 27) hx hb dX8_swap_92 (by decide) ?_
                have hf := while_r hX6 hf
                have hf := while_l hX4 hf
                exact ih4 x2_6 x3_6 (x4_6 + (1 : Int32)) u6 _ _ ls hG (lv_sub hl [1, 2, 3, 4, 0] rfl) hf
              · have hf := gif_f c7 hf
                refine lv_aload_n hx hb dX8_swap_51 rfl (lv_at hl 0 rfl) ?_
                refine lv_iload hx hb dX8_swap_52 (lv_at hl 4 rfl) ?_
                refine lv_iload hx hb dX8_swap_54 (lv_at hl 5 rfl) ?_
                refine lv_iload_n hx hb dX8_swap_56 rfl (lv_at hl 1 rfl) ?_
                obtain ⟨r8, u8, hc8, hf⟩ := obind_s hf
                refine g_doI0 hG (g_runV C0 hG (k_X8_spotSwapped l D base Z u6 x4_6 x5_6 p1 r8 u8 hc8) m_X8_spotSwapped v_X8_spotSwapped w_1299 (by decide) (g_recv C0 hG (L82 hG) rfl) rfl hl.1 rfl (Nat.le_of_ble_eq_true rfl) dX8_swap_57 ⟨Nat.zero_le _, Nat.zero_le _⟩) (fun H locs hG hk => ?_)
                refine lv_istore (lv' := [(6, .int r8), (0, .ref (base + 82)), (1, .int p1), (2, .int x2_6), (3, .int x3_6), (4, .int x4_6), (5, .int x5_6)]) hx hb dX8_swap_60 hl (by decide) rfl (fun ls hl => ?_)
                refine lv_iload hx hb dX8_swap_62 (lv_at hl 0 rfl) ?_
                refine lv_iload_n hx hb dX8_swap_64 rfl (lv_at hl 4 rfl) ?_
                refine lv_icmp_gt (tgt := 71) hx hb dX8_swap_65 (by decide) (fun c9 => ?_) (fun c9 => ?_)
                · have hf := gif_t c9 hf
                  refine lv_bipush (v := (10 : Int32)) hx hb dX8_swap_71 (by decide) ?_
                  refine lv_iload hx hb dX8_swap_73 (lv_at hl 5 rfl) ?_
                  refine lv_imul hx hb dX8_swap_75 ?_
                  refine lv_iload hx hb dX8_swap_76 (lv_at hl 6 rfl) ?_
                  refine lv_iadd hx hb dX8_swap_78 ?_
                  refine lv_istore_n (lv' := [(2, .int (((10 : Int32) * x4_6) + x5_6)), (6, .int r8), (0, .ref (base + 82)), (1, .int p1), (3, .int x3_6), (4, .int x4_6), (5, .int x5_6)]) hx hb dX8_swap_79 rfl hl (by decide) rfl (fun ls hl => ?_)
                  refine lv_iload hx hb dX8_swap_80 (lv_at hl 1 rfl) ?_
                  refine lv_istore_n (lv' := [(3, .int r8), (2, .int (((10 : Int32) * x4_6) + x5_6)), (6, .int r8), (0, .ref (base + 82)), (1, .int p1), (4, .int x4_6), (5, .int x5_6)]) hx hb dX8_swap_82 rfl hl (by decide) rfl (fun ls hl => ?_)
                  refine lv_iinc (v := x5_6 + (1 : Int32)) (lv' := [(5, .int (x5_6 + (1 : Int32))), (3, .int r8), (2, .int (((10 : Int32) * x4_6) + x5_6)), (6, .int r8), (0, .ref (base + 82)), (1, .int p1), (4, .int x4_6)]) hx hb dX8_swap_83 hl (k := 6) rfl rfl (by decide) rfl (fun ls hl => ?_)
                  refine lv_goto (tgt := 42) hx hb dX8_swap_86 (by decide) ?_
                  have hf := while_l hX6 hf
                  exact ih6 (((10 : Int32) * x4_6) + x5_6) r8 x4_6 (x5_6 + (1 : Int32)) u8 _ _ ls hG (lv_sub hl [4, 5, 2, 1, 6, 0] rfl) hf
                · have hf := gif_f c9 hf
                  refine lv_goto (tgt := 83) hx hb dX8_swap_68 (by decide) ?_
                  refine lv_iinc (v := x5_6 + (1 : Int32)) (lv' := [(5, .int (x5_6 + (1 : Int32))), (6, .int r8), (0, .ref (base + 82)), (1, .int p1), (2, .int x2_6), (3, .int x3_6), (4, .int x4_6)]) hx hb dX8_swap_83 hl (k := 6) rfl rfl (by decide) rfl (fun ls hl => ?_)
                  refine lv_goto (tgt := 42) hx hb dX8_swap_86 (by decide) ?_
                  have hf := while_l hX6 hf
                  exact ih6 x2_6 x3_6 x4_6 (x5_6 + (1 : Int32)) u8 _ _ ls hG (lv_sub hl [2, 3, 4, 5, 6, 0] rfl) hf
          exact loop6 FUEL x2_4 x3_4 x4_4 (x4_4 + (1 : Int32)) u4 _ _ ls hG (lv_sub hl [1, 2, 3, 4, 5, 0] rfl) hf
    exact loop4 FUEL (-5 : Int32) r3 (0 : Int32) u3 _ _ ls hG (lv_sub hl [3, 4, 2, 1, 0] rfl) hf
  · have hf := gif_t c2 hf
    refine lv_bipush (v := (-2 : Int32)) hx hb dX8_swap_11 (by decide) ?_
    obtain ⟨hr1, hu⟩ := gret_s hf
    subst hr1
    subst hu
    subst hQ
    exact g_iret C0 hG hr dX8_swap_13
theorem dX8_see_0 : decode cX8_see 0 = .ok (.iload_n 1, 1) := by decide +kernel
theorem dX8_see_1 : decode cX8_see 1 = .ok (.iconst (-1), 1) := by decide +kernel
theorem dX8_see_2 : decode cX8_see 2 = .ok (.if_icmp .ne 10, 3) := by decide +kernel
theorem dX8_see_5 : decode cX8_see 5 = .ok (.aload_n 0, 1) := by decide +kernel
theorem dX8_see_6 : decode cX8_see 6 = .ok (.iconst 0, 1) := by decide +kernel
theorem dX8_see_7 : decode cX8_see 7 = .ok (.putfield 123, 3) := by decide +kernel
theorem dX8_see_10 : decode cX8_see 10 = .ok (.iconst 0, 1) := by decide +kernel
theorem dX8_see_11 : decode cX8_see 11 = .ok (.ireturn, 1) := by decide +kernel
theorem dX8_see_12 : decode cX8_see 12 = .ok (.aload_n 0, 1) := by decide +kernel
theorem dX8_see_13 : decode cX8_see 13 = .ok (.iload_n 1, 1) := by decide +kernel
theorem dX8_see_14 : decode cX8_see 14 = .ok (.invokevirtual 260, 3) := by decide +kernel
theorem dX8_see_17 : decode cX8_see 17 = .ok (.ifCond .eq 11, 3) := by decide +kernel
theorem dX8_see_20 : decode cX8_see 20 = .ok (.aload_n 0, 1) := by decide +kernel
theorem dX8_see_21 : decode cX8_see 21 = .ok (.iload_n 2, 1) := by decide +kernel
theorem dX8_see_22 : decode cX8_see 22 = .ok (.invokevirtual 267, 3) := by decide +kernel
theorem dX8_see_25 : decode cX8_see 25 = .ok (.ifCond .ne 5, 3) := by decide +kernel
theorem dX8_see_28 : decode cX8_see 28 = .ok (.iconst (-1), 1) := by decide +kernel
theorem dX8_see_29 : decode cX8_see 29 = .ok (.ireturn, 1) := by decide +kernel
theorem dX8_see_30 : decode cX8_see 30 = .ok (.aload_n 0, 1) := by decide +kernel
theorem dX8_see_31 : decode cX8_see 31 = .ok (.iload_n 3, 1) := by decide +kernel
theorem dX8_see_32 : decode cX8_see 32 = .ok (.iconst 0, 1) := by decide +kernel
theorem dX8_see_33 : decode cX8_see 33 = .ok (.bipush 99, 2) := by decide +kernel
theorem dX8_see_35 : decode cX8_see 35 = .ok (.invokevirtual 249, 3) := by decide +kernel
theorem dX8_see_38 : decode cX8_see 38 = .ok (.ifCond .ne 6, 3) := by decide +kernel
theorem dX8_see_41 : decode cX8_see 41 = .ok (.bipush (-2), 2) := by decide +kernel
theorem dX8_see_43 : decode cX8_see 43 = .ok (.ireturn, 1) := by decide +kernel
theorem dX8_see_44 : decode cX8_see 44 = .ok (.aload_n 0, 1) := by decide +kernel
theorem dX8_see_45 : decode cX8_see 45 = .ok (.getfield 123, 3) := by decide +kernel
theorem dX8_see_48 : decode cX8_see 48 = .ok (.iconst 5, 1) := by decide +kernel
theorem dX8_see_49 : decode cX8_see 49 = .ok (.if_icmp .ne 6, 3) := by decide +kernel
theorem dX8_see_52 : decode cX8_see 52 = .ok (.bipush (-4), 2) := by decide +kernel
theorem dX8_see_54 : decode cX8_see 54 = .ok (.ireturn, 1) := by decide +kernel
theorem dX8_see_55 : decode cX8_see 55 = .ok (.aload_n 0, 1) := by decide +kernel
theorem dX8_see_56 : decode cX8_see 56 = .ok (.getfield 126, 3) := by decide +kernel
theorem dX8_see_59 : decode cX8_see 59 = .ok (.aload_n 0, 1) := by decide +kernel
theorem dX8_see_60 : decode cX8_see 60 = .ok (.getfield 123, 3) := by decide +kernel
theorem dX8_see_63 : decode cX8_see 63 = .ok (.iload_n 1, 1) := by decide +kernel
theorem dX8_see_64 : decode cX8_see 64 = .ok (.iastore, 1) := by decide +kernel
theorem dX8_see_65 : decode cX8_see 65 = .ok (.aload_n 0, 1) := by decide +kernel
theorem dX8_see_66 : decode cX8_see 66 = .ok (.getfield 129, 3) := by decide +kernel
theorem dX8_see_69 : decode cX8_see 69 = .ok (.aload_n 0, 1) := by decide +kernel
theorem dX8_see_70 : decode cX8_see 70 = .ok (.getfield 123, 3) := by decide +kernel
theorem dX8_see_73 : decode cX8_see 73 = .ok (.iload_n 2, 1) := by decide +kernel
theorem dX8_see_74 : decode cX8_see 74 = .ok (.iastore, 1) := by decide +kernel
theorem dX8_see_75 : decode cX8_see 75 = .ok (.aload_n 0, 1) := by decide +kernel
theorem dX8_see_76 : decode cX8_see 76 = .ok (.getfield 132, 3) := by decide +kernel
theorem dX8_see_79 : decode cX8_see 79 = .ok (.aload_n 0, 1) := by decide +kernel
theorem dX8_see_80 : decode cX8_see 80 = .ok (.getfield 123, 3) := by decide +kernel
theorem dX8_see_83 : decode cX8_see 83 = .ok (.iload_n 3, 1) := by decide +kernel
theorem dX8_see_84 : decode cX8_see 84 = .ok (.iastore, 1) := by decide +kernel
theorem dX8_see_85 : decode cX8_see 85 = .ok (.aload_n 0, 1) := by decide +kernel
theorem dX8_see_86 : decode cX8_see 86 = .ok (.dup, 1) := by decide +kernel
theorem dX8_see_87 : decode cX8_see 87 = .ok (.getfield 123, 3) := by decide +kernel
theorem dX8_see_90 : decode cX8_see 90 = .ok (.iconst 1, 1) := by decide +kernel
theorem dX8_see_91 : decode cX8_see 91 = .ok (.iadd, 1) := by decide +kernel
theorem dX8_see_92 : decode cX8_see 92 = .ok (.putfield 123, 3) := by decide +kernel
theorem dX8_see_95 : decode cX8_see 95 = .ok (.aload_n 0, 1) := by decide +kernel
theorem dX8_see_96 : decode cX8_see 96 = .ok (.getfield 123, 3) := by decide +kernel
theorem dX8_see_99 : decode cX8_see 99 = .ok (.ireturn, 1) := by decide +kernel
def f_X8_see (p1 : Int32) (p2 : Int32) (p3 : Int32) (u : Mem) : Option (Int32 × Mem) := (if p1 = (-1 : Int32) then some ((0 : Int32), sI u 82 37 (0 : Int32)) else Option.bind (f_X8_isOne p1 u) (fun r2 => (if r2 = 0 then some ((-1 : Int32), u) else Option.bind (f_X8_isTale p2) (fun r4 => (if r4 = 0 then some ((-1 : Int32), u) else Option.bind (f_X8_in p3 (0 : Int32) (99 : Int32)) (fun r6 => (if r6 = 0 then some ((-2 : Int32), u) else (if (gI u 82 37) = (5 : Int32) then some ((-4 : Int32), u) else gin (gI u 82 37) 5 (gin (gI (sA u 103 (gI u 82 37).toNatClampNeg p1) 82 37) 5 (gin (gI (sA (sA u 103 (gI u 82 37).toNatClampNeg p1) 104 (gI (sA u 103 (gI u 82 37).toNatClampNeg p1) 82 37).toNatClampNeg p2) 82 37) 5 (some (gI (sI (sA (sA (sA u 103 (gI u 82 37).toNatClampNeg p1) 104 (gI (sA u 103 (gI u 82 37).toNatClampNeg p1) 82 37).toNatClampNeg p2) 105 (gI (sA (sA u 103 (gI u 82 37).toNatClampNeg p1) 104 (gI (sA u 103 (gI u 82 37).toNatClampNeg p1) 82 37).toNatClampNeg p2) 82 37).toNatClampNeg p3) 82 37 ((gI (sA (sA (sA u 103 (gI u 82 37).toNatClampNeg p1) 104 (gI (sA u 103 (gI u 82 37).toNatClampNeg p1) 82 37).toNatClampNeg p2) 105 (gI (sA (sA u 103 (gI u 82 37).toNatClampNeg p1) 104 (gI (sA u 103 (gI u 82 37).toNatClampNeg p1) 82 37).toNatClampNeg p2) 82 37).toNatClampNeg p3) 82 37) + (1 : Int32))) 82 37, sI (sA (sA (sA u 103 (gI u 82 37).toNatClampNeg p1) 104 (gI (sA u 103 (gI u 82 37).toNatClampNeg p1) 82 37).toNatClampNeg p2) 105 (gI (sA (sA u 103 (gI u 82 37).toNatClampNeg p1) 104 (gI (sA u 103 (gI u 82 37).toNatClampNeg p1) 82 37).toNatClampNeg p2) 82 37).toNatClampNeg p3) 82 37 ((gI (sA (sA (sA u 103 (gI u 82 37).toNatClampNeg p1) 104 (gI (sA u 103 (gI u 82 37).toNatClampNeg p1) 82 37).toNatClampNeg p2) 105 (gI (sA (sA u 103 (gI u 82 37).toNatClampNeg p1) 104 (gI (sA u 103 (gI u 82 37).toNatClampNeg p1) 82 37).toNatClampNeg p2) 82 37).toNatClampNeg p3) 82 37) + (1 : Int32))))))))))))))
set_option maxHeartbeats 4000000 in
set_option maxRecDepth 100000 in
theorem k_X8_see (l : Launch) (D : gDt) (base : Nat) (Z : gZt) (u : Mem) (p1 : Int32) (p2 : Int32) (p3 : Int32) (r : Int32) (u' : Mem) (hf : f_X8_see p1 p2 p3 u = some (r, u')) : Met l yX8_see (gws yX8_see cX8_see 4 (some .int)) (gRm 3 0 0) (gPc D base Z u [.ref (base + 82), .int p1, .int p2, .int p3]) (gQi D base r u') 0 0 (gF base) := by
  refine Met.ofW (cc := cX8_see) (maxL := 4) (ret := some .int) (by decide) rfl ?_
  intro p e s m args below meth c s₁ B hml hv
  obtain ⟨rfl, C0, hG⟩ := g_enter B hml hv
  have hr := B.returns
  have C0 : gC p s m meth c _ cX8_see 4 RX8 D base Z := C0
  have hx := C0.1
  have hb := C0.2.1
  have hl := lv_entry ([.ref (base + 82), .int p1, .int p2, .int p3]) (n := 4) (Nat.le_of_ble_eq_true rfl)
  rw [lg_entry_eq]
  generalize (lg_sl ([.ref (base + 82), .int p1, .int p2, .int p3]) ++ List.replicate (4 - (lg_sl ([.ref (base + 82), .int p1, .int p2, .int p3])).length) Slot.unset).toArray = ls at hl ⊢
  have hl : lv_has ls 4 [(0, .ref (base + 82)), (1, .int p1), (2, .int p2), (3, .int p3)] := hl
  obtain ⟨Q, hQ⟩ : ∃ Q, Q = MQ below (gQi D base r u') ([.ref (base + 82), .int p1, .int p2, .int p3] : List Value).toArray s 0 0 (gF base) := ⟨_, rfl⟩
  rw [← hQ]
  change W p l e (gRm 3 0 0) s m _ below meth c _ _ _ _ _ _
  unfold f_X8_see at hf
  refine lv_iload_n hx hb dX8_see_0 rfl (lv_at hl 1 rfl) ?_
  refine lv_iconst (v := (-1 : Int32)) hx hb dX8_see_1 (by decide) ?_
  refine lv_icmp_ne (tgt := 12) hx hb dX8_see_2 (by decide) (fun c1 => ?_) (fun c1 => ?_)
  · have hf := gif_f c1 hf
    refine lv_aload_n hx hb dX8_see_12 rfl (lv_at hl 0 rfl) ?_
    refine lv_iload_n hx hb dX8_see_13 rfl (lv_at hl 1 rfl) ?_
    obtain ⟨r2, hc2, hf⟩ := pb_s hf
    refine g_doI0 hG (g_runV C0 hG (k_X8_isOne l D base Z u p1 r2 hc2) m_X8_isOne v_X8_isOne w_1098 (by decide) (g_recv C0 hG (L82 hG) rfl) rfl hl.1 rfl (Nat.le_of_ble_eq_true rfl) dX8_see_14 ⟨Nat.zero_le _, Nat.zero_le _⟩) (fun H locs hG hk => ?_)
    refine lv_if_eq (tgt := 28) hx hb dX8_see_17 (by decide) (fun c3 => ?_) (fun c3 => ?_)
    · have hf := gif_t c3 hf
      refine lv_iconst (v := (-1 : Int32)) hx hb dX8_see_28 (by decide) ?_
      obtain ⟨hr1, hu⟩ := gret_s hf
      subst hr1
      subst hu
      subst hQ
      exact g_iret C0 hG hr dX8_see_29
    · have hf := gif_f c3 hf
      refine lv_aload_n hx hb dX8_see_20 rfl (lv_at hl 0 rfl) ?_
      refine lv_iload_n hx hb dX8_see_21 rfl (lv_at hl 2 rfl) ?_
      obtain ⟨r4, hc4, hf⟩ := pb_s hf
      refine g_doI0 hG (g_runV C0 hG (k_X8_isTale l D base Z u p2 r4 hc4) m_X8_isTale v_X8_isTale w_1122 (by decide) (g_recv C0 hG (L82 hG) rfl) rfl hl.1 rfl (Nat.le_of_ble_eq_true rfl) dX8_see_22 ⟨Nat.zero_le _, Nat.zero_le _⟩) (fun H locs hG hk => ?_)
      refine lv_if_ne (tgt := 30) hx hb dX8_see_25 (by decide) (fun c5 => ?_) (fun c5 => ?_)
      · have hf := gif_f c5 hf
        refine lv_aload_n hx hb dX8_see_30 rfl (lv_at hl 0 rfl) ?_
        refine lv_iload_n hx hb dX8_see_31 rfl (lv_at hl 3 rfl) ?_
        refine lv_iconst (v := (0 : Int32)) hx hb dX8_see_32 (by decide) ?_
        refine lv_bipush (v := (99 : Int32)) hx hb dX8_see_33 (by decide) ?_
        obtain ⟨r6, hc6, hf⟩ := pb_s hf
        refine g_doI0 hG (g_runV C0 hG (k_X8_in l D base Z u p3 (0 : Int32) (99 : Int32) r6 hc6) m_X8_in v_X8_in w_1082 (by decide) (g_recv C0 hG (L82 hG) rfl) rfl hl.1 rfl (Nat.le_of_ble_eq_true rfl) dX8_see_35 ⟨Nat.zero_le _, Nat.zero_le _⟩) (fun H locs hG hk => ?_)
        refine lv_if_ne (tgt := 44) hx hb dX8_see_38 (by decide) (fun c7 => ?_) (fun c7 => ?_)
        · have hf := gif_f c7 hf
          refine lv_aload_n hx hb dX8_see_44 rfl (lv_at hl 0 rfl) ?_
          refine g_getI C0 hG (L82 hG) rfl 37 (by decide) rfl w_883 dX8_see_45 ?_
          refine lv_iconst (v := (5 : Int32)) hx hb dX8_see_48 (by decide) ?_
          refine lv_icmp_ne (tgt := 55) hx hb dX8_see_49 (by decide) (fun c8 => ?_) (fun c8 => ?_)
          · have hf := gif_f c8 hf
            refine lv_aload_n hx hb dX8_see_55 rfl (lv_at hl 0 rfl) ?_
            refine g_getSa (o := 21) (a := 103) C0 hG (L82 hG) rfl 38 (by decide) rfl rfl w_884 dX8_see_56 ?_
            refine lv_aload_n hx hb dX8_see_59 rfl (lv_at hl 0 rfl) ?_
            refine g_getI C0 hG (L82 hG) rfl 37 (by decide) rfl w_883 dX8_see_60 ?_
            refine lv_iload_n hx hb dX8_see_63 rfl (lv_at hl 1 rfl) ?_
            obtain ⟨h9, hf⟩ := gin_s hf
            refine g_iast C0 hG (L103 hG) h9 dX8_see_64 (fun H locs hG => ?_)
            refine lv_aload_n hx hb dX8_see_65 rfl (lv_at hl 0 rfl) ?_
            refine g_getSa (o := 22) (a := 104) C0 hG (L82 hG) rfl 39 (by decide) rfl rfl w_885 dX8_see_66 ?_
            refine lv_aload_n hx hb dX8_see_69 rfl (lv_at hl 0 rfl) ?_
            refine g_getI C0 hG (L82 hG) rfl 37 (by decide) rfl w_883 dX8_see_70 ?_
            refine lv_iload_n hx hb dX8_see_73 rfl (lv_at hl 2 rfl) ?_
            obtain ⟨h10, hf⟩ := gin_s hf
            refine g_iast C0 hG (L104 hG) h10 dX8_see_74 (fun H locs hG => ?_)
            refine lv_aload_n hx hb dX8_see_75 rfl (lv_at hl 0 rfl) ?_
            refine g_getSa (o := 23) (a := 105) C0 hG (L82 hG) rfl 40 (by decide) rfl rfl w_886 dX8_see_76 ?_
            refine lv_aload_n hx hb dX8_see_79 rfl (lv_at hl 0 rfl) ?_
            refine g_getI C0 hG (L82 hG) rfl 37 (by decide) rfl w_883 dX8_see_80 ?_
            refine lv_iload_n hx hb dX8_see_83 rfl (lv_at hl 3 rfl) ?_
            obtain ⟨h11, hf⟩ := gin_s hf
            refine g_iast C0 hG (L105 hG) h11 dX8_see_84 (fun H locs hG => ?_)
            refine lv_aload_n hx hb dX8_see_85 rfl (lv_at hl 0 rfl) ?_
            refine lv_dup hx hb dX8_see_86 rfl ?_
            refine g_getI C0 hG (L82 hG) rfl 37 (by decide) rfl w_883 dX8_see_87 ?_
            refine lv_iconst (v := (1 : Int32)) hx hb dX8_see_90 (by decide) ?_
            refine lv_iadd hx hb dX8_see_91 ?_
            refine g_putI (ty := .int) C0 hG (L82 hG) rfl 37 (by decide) rfl w_883 rfl (by decide) rfl rfl dX8_see_92 (fun H locs hG => ?_)
            refine lv_aload_n hx hb dX8_see_95 rfl (lv_at hl 0 rfl) ?_
            refine g_getI C0 hG (L82 hG) rfl 37 (by decide) rfl w_883 dX8_see_96 ?_
            obtain ⟨hr1, hu⟩ := gret_s hf
            subst hr1
            subst hu
            subst hQ
            exact g_iret C0 hG hr dX8_see_99
          · have hf := gif_t c8 hf
            refine lv_bipush (v := (-4 : Int32)) hx hb dX8_see_52 (by decide) ?_
            obtain ⟨hr1, hu⟩ := gret_s hf
            subst hr1
            subst hu
            subst hQ
            exact g_iret C0 hG hr dX8_see_54
        · have hf := gif_t c7 hf
          refine lv_bipush (v := (-2 : Int32)) hx hb dX8_see_41 (by decide) ?_
          obtain ⟨hr1, hu⟩ := gret_s hf
          subst hr1
          subst hu
          subst hQ
          exact g_iret C0 hG hr dX8_see_43
      · have hf := gif_t c5 hf
        refine lv_iconst (v := (-1 : Int32)) hx hb dX8_see_28 (by decide) ?_
        obtain ⟨hr1, hu⟩ := gret_s hf
        subst hr1
        subst hu
        subst hQ
        exact g_iret C0 hG hr dX8_see_29
  · have hf := gif_t c1 hf
    refine lv_aload_n hx hb dX8_see_5 rfl (lv_at hl 0 rfl) ?_
    refine lv_iconst (v := (0 : Int32)) hx hb dX8_see_6 (by decide) ?_
    refine g_putI (ty := .int) C0 hG (L82 hG) rfl 37 (by decide) rfl w_883 rfl (by decide) rfl rfl dX8_see_7 (fun H locs hG => ?_)
    refine lv_iconst (v := (0 : Int32)) hx hb dX8_see_10 (by decide) ?_
    obtain ⟨hr1, hu⟩ := gret_s hf
    subst hr1
    subst hu
    subst hQ
    exact g_iret C0 hG hr dX8_see_11
theorem dX8_isSeen_0 : decode cX8_isSeen 0 = .ok (.iconst 0, 1) := by decide +kernel
theorem dX8_isSeen_1 : decode cX8_isSeen 1 = .ok (.istore_n 3, 1) := by decide +kernel
theorem dX8_isSeen_2 : decode cX8_isSeen 2 = .ok (.iload_n 3, 1) := by decide +kernel
theorem dX8_isSeen_3 : decode cX8_isSeen 3 = .ok (.aload_n 0, 1) := by decide +kernel
theorem dX8_isSeen_4 : decode cX8_isSeen 4 = .ok (.getfield 123, 3) := by decide +kernel
theorem dX8_isSeen_7 : decode cX8_isSeen 7 = .ok (.if_icmp .ge 75, 3) := by decide +kernel
theorem dX8_isSeen_10 : decode cX8_isSeen 10 = .ok (.iload_n 1, 1) := by decide +kernel
theorem dX8_isSeen_11 : decode cX8_isSeen 11 = .ok (.ifCond .eq 12, 3) := by decide +kernel
theorem dX8_isSeen_14 : decode cX8_isSeen 14 = .ok (.aload_n 0, 1) := by decide +kernel
theorem dX8_isSeen_15 : decode cX8_isSeen 15 = .ok (.getfield 126, 3) := by decide +kernel
theorem dX8_isSeen_18 : decode cX8_isSeen 18 = .ok (.iload_n 3, 1) := by decide +kernel
theorem dX8_isSeen_19 : decode cX8_isSeen 19 = .ok (.iaload, 1) := by decide +kernel
theorem dX8_isSeen_20 : decode cX8_isSeen 20 = .ok (.goto 9, 3) := by decide +kernel
theorem dX8_isSeen_23 : decode cX8_isSeen 23 = .ok (.aload_n 0, 1) := by decide +kernel
theorem dX8_isSeen_24 : decode cX8_isSeen 24 = .ok (.getfield 129, 3) := by decide +kernel
theorem dX8_isSeen_27 : decode cX8_isSeen 27 = .ok (.iload_n 3, 1) := by decide +kernel
theorem dX8_isSeen_28 : decode cX8_isSeen 28 = .ok (.iaload, 1) := by decide +kernel
theorem dX8_isSeen_29 : decode cX8_isSeen 29 = .ok (.iload_n 2, 1) := by decide +kernel
theorem dX8_isSeen_30 : decode cX8_isSeen 30 = .ok (.if_icmp .eq 6, 3) := by decide +kernel
theorem dX8_isSeen_33 : decode cX8_isSeen 33 = .ok (.goto 43, 3) := by decide +kernel
theorem dX8_isSeen_36 : decode cX8_isSeen 36 = .ok (.aload_n 0, 1) := by decide +kernel
theorem dX8_isSeen_37 : decode cX8_isSeen 37 = .ok (.aload_n 0, 1) := by decide +kernel
theorem dX8_isSeen_38 : decode cX8_isSeen 38 = .ok (.getfield 126, 3) := by decide +kernel
theorem dX8_isSeen_41 : decode cX8_isSeen 41 = .ok (.iload_n 3, 1) := by decide +kernel
theorem dX8_isSeen_42 : decode cX8_isSeen 42 = .ok (.iaload, 1) := by decide +kernel
theorem dX8_isSeen_43 : decode cX8_isSeen 43 = .ok (.aload_n 0, 1) := by decide +kernel
theorem dX8_isSeen_44 : decode cX8_isSeen 44 = .ok (.getfield 129, 3) := by decide +kernel
theorem dX8_isSeen_47 : decode cX8_isSeen 47 = .ok (.iload_n 3, 1) := by decide +kernel
theorem dX8_isSeen_48 : decode cX8_isSeen 48 = .ok (.iaload, 1) := by decide +kernel
theorem dX8_isSeen_49 : decode cX8_isSeen 49 = .ok (.invokevirtual 336, 3) := by decide +kernel
theorem dX8_isSeen_52 : decode cX8_isSeen 52 = .ok (.istore 4, 2) := by decide +kernel
theorem dX8_isSeen_54 : decode cX8_isSeen 54 = .ok (.iload 4, 2) := by decide +kernel
theorem dX8_isSeen_56 : decode cX8_isSeen 56 = .ok (.ifCond .ge 7, 3) := by decide +kernel
theorem dX8_isSeen_59 : decode cX8_isSeen 59 = .ok (.iconst 0, 1) := by decide +kernel
theorem dX8_isSeen_60 : decode cX8_isSeen 60 = .ok (.goto 5, 3) := by decide +kernel
theorem dX8_isSeen_63 : decode cX8_isSeen 63 = .ok (.iload 4, 2) := by decide +kernel
theorem dX8_isSeen_65 : decode cX8_isSeen 65 = .ok (.aload_n 0, 1) := by decide +kernel
theorem dX8_isSeen_66 : decode cX8_isSeen 66 = .ok (.getfield 132, 3) := by decide +kernel
theorem dX8_isSeen_69 : decode cX8_isSeen 69 = .ok (.iload_n 3, 1) := by decide +kernel
theorem dX8_isSeen_70 : decode cX8_isSeen 70 = .ok (.iaload, 1) := by decide +kernel
theorem dX8_isSeen_71 : decode cX8_isSeen 71 = .ok (.if_icmp .eq 5, 3) := by decide +kernel
theorem dX8_isSeen_74 : decode cX8_isSeen 74 = .ok (.iconst 0, 1) := by decide +kernel
theorem dX8_isSeen_75 : decode cX8_isSeen 75 = .ok (.ireturn, 1) := by decide +kernel
theorem dX8_isSeen_76 : decode cX8_isSeen 76 = .ok (.iinc 3 1, 3) := by decide +kernel
theorem dX8_isSeen_79 : decode cX8_isSeen 79 = .ok (.goto (-77), 3) := by decide +kernel
theorem dX8_isSeen_82 : decode cX8_isSeen 82 = .ok (.iconst 1, 1) := by decide +kernel
theorem dX8_isSeen_83 : decode cX8_isSeen 83 = .ok (.ireturn, 1) := by decide +kernel
def f_X8_isSeen_L2 (p1 : Int32) (p2 : Int32) (x3_1 : Int32) (u1 : Mem) : Option ((Int32 × Mem) ⊕ (Int32 × Mem)) := (if (gI u1 82 37) ≤ x3_1 then some (Sum.inr ((1 : Int32), u1)) else (if p1 = 0 then gin x3_1 5 ((if (gA u1 104 x3_1.toNatClampNeg) = p2 then gin x3_1 5 (gin x3_1 5 (obind (f_X8_glow (gA u1 103 x3_1.toNatClampNeg) (gA u1 104 x3_1.toNatClampNeg) u1) (fun r8 u8 => (if 0 ≤ r8 then gin x3_1 5 ((if r8 = (gA u8 105 x3_1.toNatClampNeg) then some (Sum.inl (x3_1 + (1 : Int32), u8)) else some (Sum.inr ((0 : Int32), u8)))) else gin x3_1 5 ((if (0 : Int32) = (gA u8 105 x3_1.toNatClampNeg) then some (Sum.inl (x3_1 + (1 : Int32), u8)) else some (Sum.inr ((0 : Int32), u8)))))))) else some (Sum.inl (x3_1 + (1 : Int32), u1)))) else gin x3_1 5 ((if (gA u1 103 x3_1.toNatClampNeg) = p2 then gin x3_1 5 (gin x3_1 5 (obind (f_X8_glow (gA u1 103 x3_1.toNatClampNeg) (gA u1 104 x3_1.toNatClampNeg) u1) (fun r18 u18 => (if 0 ≤ r18 then gin x3_1 5 ((if r18 = (gA u18 105 x3_1.toNatClampNeg) then some (Sum.inl (x3_1 + (1 : Int32), u18)) else some (Sum.inr ((0 : Int32), u18)))) else gin x3_1 5 ((if (0 : Int32) = (gA u18 105 x3_1.toNatClampNeg) then some (Sum.inl (x3_1 + (1 : Int32), u18)) else some (Sum.inr ((0 : Int32), u18)))))))) else some (Sum.inl (x3_1 + (1 : Int32), u1))))))
def f_X8_isSeen (p1 : Int32) (p2 : Int32) (u : Mem) : Option (Int32 × Mem) := whileO (fun s => f_X8_isSeen_L2 p1 p2 s.1 s.2) FUEL ((0 : Int32), u)
set_option maxHeartbeats 4000000 in
set_option maxRecDepth 100000 in
theorem k_X8_isSeen (l : Launch) (D : gDt) (base : Nat) (Z : gZt) (u : Mem) (p1 : Int32) (p2 : Int32) (r : Int32) (u' : Mem) (hf : f_X8_isSeen p1 p2 u = some (r, u')) : Met l yX8_isSeen (gws yX8_isSeen cX8_isSeen 5 (some .boolean)) (gRm 5 0 0) (gPc D base Z u [.ref (base + 82), .int p1, .int p2]) (gQi D base r u') 0 0 (gF base) := by
  refine Met.ofW (cc := cX8_isSeen) (maxL := 5) (ret := some .boolean) (by decide) rfl ?_
  intro p e s m args below meth c s₁ B hml hv
  obtain ⟨rfl, C0, hG⟩ := g_enter B hml hv
  have hr := B.returns
  have C0 : gC p s m meth c _ cX8_isSeen 5 RX8 D base Z := C0
  have hx := C0.1
  have hb := C0.2.1
  have hl := lv_entry ([.ref (base + 82), .int p1, .int p2]) (n := 5) (Nat.le_of_ble_eq_true rfl)
  rw [lg_entry_eq]
  generalize (lg_sl ([.ref (base + 82), .int p1, .int p2]) ++ List.replicate (5 - (lg_sl ([.ref (base + 82), .int p1, .int p2])).length) Slot.unset).toArray = ls at hl ⊢
  have hl : lv_has ls 5 [(0, .ref (base + 82)), (1, .int p1), (2, .int p2)] := hl
  obtain ⟨Q, hQ⟩ : ∃ Q, Q = MQ below (gQi D base r u') ([.ref (base + 82), .int p1, .int p2] : List Value).toArray s 0 0 (gF base) := ⟨_, rfl⟩
  rw [← hQ]
  change W p l e (gRm 5 0 0) s m _ below meth c _ _ _ _ _ _
  unfold f_X8_isSeen at hf
  refine lv_iconst (v := (0 : Int32)) hx hb dX8_isSeen_0 (by decide) ?_
  refine lv_istore_n (lv' := [(3, .int (0 : Int32)), (0, .ref (base + 82)), (1, .int p1), (2, .int p2)]) hx hb dX8_isSeen_1 rfl hl (by decide) rfl (fun ls hl => ?_)
  have loop1 : ∀ (n1 : Nat) (x3_1 : Int32) (u1 : Mem) (H : Heap) (locs : List Loc) (ls : Array Slot), gH D base s u1 H locs → lv_has ls 5 [(0, .ref (base + 82)), (1, .int p1), (2, .int p2), (3, .int x3_1)] → whileO (fun s => f_X8_isSeen_L2 p1 p2 s.1 s.2) n1 (x3_1, u1) = some (r, u') → W p l e (gRm 5 0 0) s m ([.ref (base + 82), .int p1, .int p2] : List Value).toArray below meth c H locs 0 0 Q (F0 m 2 ls []) := by
    intro n1
    induction n1 with
    | zero => intro x3_1 u1 H locs ls hG hl hf; cases hf
    | succ n1 ih1 =>
      intro x3_1 u1 H locs ls hG hl hf
      obtain ⟨X1, hf, hX1⟩ := while_s hf
      have hf : f_X8_isSeen_L2 p1 p2 x3_1 u1 = some X1 := hf
      unfold f_X8_isSeen_L2 at hf
      refine lv_iload_n hx hb dX8_isSeen_2 rfl (lv_at hl 3 rfl) ?_
      refine lv_aload_n hx hb dX8_isSeen_3 rfl (lv_at hl 0 rfl) ?_
      refine g_getI C0 hG (L82 hG) rfl 37 (by decide) rfl w_883 dX8_isSeen_4 ?_
      refine lv_icmp_ge (tgt := 82) hx hb dX8_isSeen_7 (by decide) (fun c2 => ?_) (fun c2 => ?_)
      · have hf := gif_t c2 hf
        refine lv_iconst (v := (1 : Int32)) hx hb dX8_isSeen_82 (by decide) ?_
        have hf := while_r hX1 hf
        obtain ⟨hr1, hu⟩ := gret_s hf
        subst hr1
        subst hu
        subst hQ
        exact g_zret C0 hG hr (by decide) dX8_isSeen_83
      · have hf := gif_f c2 hf
        refine lv_iload_n hx hb dX8_isSeen_10 rfl (lv_at hl 1 rfl) ?_
        refine lv_if_eq (tgt := 23) hx hb dX8_isSeen_11 (by decide) (fun c3 => ?_) (fun c3 => ?_)
        · have hf := gif_t c3 hf
          refine lv_aload_n hx hb dX8_isSeen_23 rfl (lv_at hl 0 rfl) ?_
          refine g_getSa (o := 22) (a := 104) C0 hG (L82 hG) rfl 39 (by decide) rfl rfl w_885 dX8_isSeen_24 ?_
          refine lv_iload_n hx hb dX8_isSeen_27 rfl (lv_at hl 3 rfl) ?_
          obtain ⟨h4, hf⟩ := gin_s hf
          refine g_iald C0 hG (L104 hG) h4 dX8_isSeen_28 ?_
          refine lv_iload_n hx hb dX8_isSeen_29 rfl (lv_at hl 2 rfl) ?_
          refine lv_icmp_eq (tgt := 36) hx hb dX8_isSeen_30 (by decide) (fun c5 => ?_) (fun c5 => ?_)
          · have hf := gif_t c5 hf
            refine lv_aload_n hx hb dX8_isSeen_36 rfl (lv_at hl 0 rfl) ?_
            refine lv_aload_n hx hb dX8_isSeen_37 rfl (lv_at hl 0 rfl) ?_
            refine g_getSa (o := 21) (a := 103) C0 hG (L82 hG) rfl 38 (by decide) rfl rfl w_884 dX8_isSeen_38 ?_
            refine lv_iload_n hx hb dX8_isSeen_41 rfl (lv_at hl 3 rfl) ?_
            obtain ⟨h6, hf⟩ := gin_s hf
            refine g_iald C0 hG (L103 hG) h6 dX8_isSeen_42 ?_
            refine lv_aload_n hx hb dX8_isSeen_43 rfl (lv_at hl 0 rfl) ?_
            refine g_getSa (o := 22) (a := 104) C0 hG (L82 hG) rfl 39 (by decide) rfl rfl w_885 dX8_isSeen_44 ?_
            refine lv_iload_n hx hb dX8_isSeen_47 rfl (lv_at hl 3 rfl) ?_
            obtain ⟨h7, hf⟩ := gin_s hf
            refine g_iald C0 hG (L104 hG) h7 dX8_isSeen_48 ?_
            obtain ⟨r8, u8, hc8, hf⟩ := obind_s hf
            refine g_doI0 hG (g_runV C0 hG (k_X8_glow l D base Z u1 (gA u1 103 x3_1.toNatClampNeg) (gA u1 104 x3_1.toNatClampNeg) r8 u8 hc8) m_X8_glow v_X8_glow w_1202 (by decide) (g_recv C0 hG (L82 hG) rfl) rfl hl.1 rfl (Nat.le_of_ble_eq_true rfl) dX8_isSeen_49 ⟨Nat.zero_le _, Nat.zero_le _⟩) (fun H locs hG hk => ?_)
            refine lv_istore (lv' := [(4, .int r8), (0, .ref (base + 82)), (1, .int p1), (2, .int p2), (3, .int x3_1)]) hx hb dX8_isSeen_52 hl (by decide) rfl (fun ls hl => ?_)
            refine lv_iload hx hb dX8_isSeen_54 (lv_at hl 0 rfl) ?_
            refine lv_if_ge (tgt := 63) hx hb dX8_isSeen_56 (by decide) (fun c9 => ?_) (fun c9 => ?_)
            · have hf := gif_t c9 hf
              refine lv_iload hx hb dX8_isSeen_63 (lv_at hl 0 rfl) ?_
              refine lv_aload_n hx hb dX8_isSeen_65 rfl (lv_at hl 1 rfl) ?_
              refine g_getSa (o := 23) (a := 105) C0 hG (L82 hG) rfl 40 (by decide) rfl rfl w_886 dX8_isSeen_66 ?_
              refine lv_iload_n hx hb dX8_isSeen_69 rfl (lv_at hl 4 rfl) ?_
              obtain ⟨h10, hf⟩ := gin_s hf
              refine g_iald C0 hG (L105 hG) h10 dX8_isSeen_70 ?_
              refine lv_icmp_eq (tgt := 76) hx hb dX8_isSeen_71 (by decide) (fun c11 => ?_) (fun c11 => ?_)
              · have hf := gif_t c11 hf
                refine lv_iinc (v := x3_1 + (1 : Int32)) (lv' := [(3, .int (x3_1 + (1 : Int32))), (4, .int r8), (0, .ref (base + 82)), (1, .int p1), (2, .int p2)]) hx hb dX8_isSeen_76 hl (k := 4) rfl rfl (by decide) rfl (fun ls hl => ?_)
                refine lv_goto (tgt := 2) hx hb dX8_isSeen_79 (by decide) ?_
                have hf := while_l hX1 hf
                exact ih1 (x3_1 + (1 : Int32)) u8 _ _ ls hG (lv_sub hl [2, 3, 4, 0] rfl) hf
              · have hf := gif_f c11 hf
                refine lv_iconst (v := (0 : Int32)) hx hb dX8_isSeen_74 (by decide) ?_
                have hf := while_r hX1 hf
                obtain ⟨hr1, hu⟩ := gret_s hf
                subst hr1
                subst hu
                subst hQ
                exact g_zret C0 hG hr (by decide) dX8_isSeen_75
            · have hf := gif_f c9 hf
              refine lv_iconst (v := (0 : Int32)) hx hb dX8_isSeen_59 (by decide) ?_
              refine lv_goto (tgt := 65) hx hb dX8_isSeen_60 (by decide) ?_
              refine lv_aload_n hx hb dX8_isSeen_65 rfl (lv_at hl 1 rfl) ?_
              refine g_getSa (o := 23) (a := 105) C0 hG (L82 hG) rfl 40 (by decide) rfl rfl w_886 dX8_isSeen_66 ?_
              refine lv_iload_n hx hb dX8_isSeen_69 rfl (lv_at hl 4 rfl) ?_
              obtain ⟨h12, hf⟩ := gin_s hf
              refine g_iald C0 hG (L105 hG) h12 dX8_isSeen_70 ?_
              refine lv_icmp_eq (tgt := 76) hx hb dX8_isSeen_71 (by decide) (fun c13 => ?_) (fun c13 => ?_)
              · have hf := gif_t c13 hf
                refine lv_iinc (v := x3_1 + (1 : Int32)) (lv' := [(3, .int (x3_1 + (1 : Int32))), (4, .int r8), (0, .ref (base + 82)), (1, .int p1), (2, .int p2)]) hx hb dX8_isSeen_76 hl (k := 4) rfl rfl (by decide) rfl (fun ls hl => ?_)
                refine lv_goto (tgt := 2) hx hb dX8_isSeen_79 (by decide) ?_
                have hf := while_l hX1 hf
                exact ih1 (x3_1 + (1 : Int32)) u8 _ _ ls hG (lv_sub hl [2, 3, 4, 0] rfl) hf
              · have hf := gif_f c13 hf
                refine lv_iconst (v := (0 : Int32)) hx hb dX8_isSeen_74 (by decide) ?_
                have hf := while_r hX1 hf
                obtain ⟨hr1, hu⟩ := gret_s hf
                subst hr1
                subst hu
                subst hQ
                exact g_zret C0 hG hr (by decide) dX8_isSeen_75
          · have hf := gif_f c5 hf
            refine lv_goto (tgt := 76) hx hb dX8_isSeen_33 (by decide) ?_
            refine lv_iinc (v := x3_1 + (1 : Int32)) (lv' := [(3, .int (x3_1 + (1 : Int32))), (0, .ref (base + 82)), (1, .int p1), (2, .int p2)]) hx hb dX8_isSeen_76 hl (k := 3) rfl rfl (by decide) rfl (fun ls hl => ?_)
            refine lv_goto (tgt := 2) hx hb dX8_isSeen_79 (by decide) ?_
            have hf := while_l hX1 hf
            exact ih1 (x3_1 + (1 : Int32)) u1 _ _ ls hG (lv_sub hl [1, 2, 3, 0] rfl) hf
        · have hf := gif_f c3 hf
          refine lv_aload_n hx hb dX8_isSeen_14 rfl (lv_at hl 0 rfl) ?_
          refine g_getSa (o := 21) (a := 103) C0 hG (L82 hG) rfl 38 (by decide) rfl rfl w_884 dX8_isSeen_15 ?_
          refine lv_iload_n hx hb dX8_isSeen_18 rfl (lv_at hl 3 rfl) ?_
          obtain ⟨h14, hf⟩ := gin_s hf
          refine g_iald C0 hG (L103 hG) h14 dX8_isSeen_19 ?_
          refine lv_goto (tgt := 29) hx hb dX8_isSeen_20 (by decide) ?_
          refine lv_iload_n hx hb dX8_isSeen_29 rfl (lv_at hl 2 rfl) ?_
          refine lv_icmp_eq (tgt := 36) hx hb dX8_isSeen_30 (by decide) (fun c15 => ?_) (fun c15 => ?_)
          · have hf := gif_t c15 hf
            refine lv_aload_n hx hb dX8_isSeen_36 rfl (lv_at hl 0 rfl) ?_
            refine lv_aload_n hx hb dX8_isSeen_37 rfl (lv_at hl 0 rfl) ?_
            refine g_getSa (o := 21) (a := 103) C0 hG (L82 hG) rfl 38 (by decide) rfl rfl w_884 dX8_isSeen_38 ?_
            refine lv_iload_n hx hb dX8_isSeen_41 rfl (lv_at hl 3 rfl) ?_
            obtain ⟨h16, hf⟩ := gin_s hf
            refine g_iald C0 hG (L103 hG) h16 dX8_isSeen_42 ?_
            refine lv_aload_n hx hb dX8_isSeen_43 rfl (lv_at hl 0 rfl) ?_
            refine g_getSa (o := 22) (a := 104) C0 hG (L82 hG) rfl 39 (by decide) rfl rfl w_885 dX8_isSeen_44 ?_
            refine lv_iload_n hx hb dX8_isSeen_47 rfl (lv_at hl 3 rfl) ?_
            obtain ⟨h17, hf⟩ := gin_s hf
            refine g_iald C0 hG (L104 hG) h17 dX8_isSeen_48 ?_
            obtain ⟨r18, u18, hc18, hf⟩ := obind_s hf
            refine g_doI0 hG (g_runV C0 hG (k_X8_glow l D base Z u1 (gA u1 103 x3_1.toNatClampNeg) (gA u1 104 x3_1.toNatClampNeg) r18 u18 hc18) m_X8_glow v_X8_glow w_1202 (by decide) (g_recv C0 hG (L82 hG) rfl) rfl hl.1 rfl (Nat.le_of_ble_eq_true rfl) dX8_isSeen_49 ⟨Nat.zero_le _, Nat.zero_le _⟩) (fun H locs hG hk => ?_)
            refine lv_istore (lv' := [(4, .int r18), (0, .ref (base + 82)), (1, .int p1), (2, .int p2), (3, .int x3_1)]) hx hb dX8_isSeen_52 hl (by decide) rfl (fun ls hl => ?_)
            refine lv_iload hx hb dX8_isSeen_54 (lv_at hl 0 rfl) ?_
            refine lv_if_ge (tgt := 63) hx hb dX8_isSeen_56 (by decide) (fun c19 => ?_) (fun c19 => ?_)
            · have hf := gif_t c19 hf
              refine lv_iload hx hb dX8_isSeen_63 (lv_at hl 0 rfl) ?_
              refine lv_aload_n hx hb dX8_isSeen_65 rfl (lv_at hl 1 rfl) ?_
              refine g_getSa (o := 23) (a := 105) C0 hG (L82 hG) rfl 40 (by decide) rfl rfl w_886 dX8_isSeen_66 ?_
              refine lv_iload_n hx hb dX8_isSeen_69 rfl (lv_at hl 4 rfl) ?_
              obtain ⟨h20, hf⟩ := gin_s hf
              refine g_iald C0 hG (L105 hG) h20 dX8_isSeen_70 ?_
              refine lv_icmp_eq (tgt := 76) hx hb dX8_isSeen_71 (by decide) (fun c21 => ?_) (fun c21 => ?_)
              · have hf := gif_t c21 hf
                refine lv_iinc (v := x3_1 + (1 : Int32)) (lv' := [(3, .int (x3_1 + (1 : Int32))), (4, .int r18), (0, .ref (base + 82)), (1, .int p1), (2, .int p2)]) hx hb dX8_isSeen_76 hl (k := 4) rfl rfl (by decide) rfl (fun ls hl => ?_)
                refine lv_goto (tgt := 2) hx hb dX8_isSeen_79 (by decide) ?_
                have hf := while_l hX1 hf
                exact ih1 (x3_1 + (1 : Int32)) u18 _ _ ls hG (lv_sub hl [2, 3, 4, 0] rfl) hf
              · have hf := gif_f c21 hf
                refine lv_iconst (v := (0 : Int32)) hx hb dX8_isSeen_74 (by decide) ?_
                have hf := while_r hX1 hf
                obtain ⟨hr1, hu⟩ := gret_s hf
                subst hr1
                subst hu
                subst hQ
                exact g_zret C0 hG hr (by decide) dX8_isSeen_75
            · have hf := gif_f c19 hf
              refine lv_iconst (v := (0 : Int32)) hx hb dX8_isSeen_59 (by decide) ?_
              refine lv_goto (tgt := 65) hx hb dX8_isSeen_60 (by decide) ?_
              refine lv_aload_n hx hb dX8_isSeen_65 rfl (lv_at hl 1 rfl) ?_
              refine g_getSa (o := 23) (a := 105) C0 hG (L82 hG) rfl 40 (by decide) rfl rfl w_886 dX8_isSeen_66 ?_
              refine lv_iload_n hx hb dX8_isSeen_69 rfl (lv_at hl 4 rfl) ?_
              obtain ⟨h22, hf⟩ := gin_s hf
              refine g_iald C0 hG (L105 hG) h22 dX8_isSeen_70 ?_
              refine lv_icmp_eq (tgt := 76) hx hb dX8_isSeen_71 (by decide) (fun c23 => ?_) (fun c23 => ?_)
              · have hf := gif_t c23 hf
                refine lv_iinc (v := x3_1 + (1 : Int32)) (lv' := [(3, .int (x3_1 + (1 : Int32))), (4, .int r18), (0, .ref (base + 82)), (1, .int p1), (2, .int p2)]) hx hb dX8_isSeen_76 hl (k := 4) rfl rfl (by decide) rfl (fun ls hl => ?_)
                refine lv_goto (tgt := 2) hx hb dX8_isSeen_79 (by decide) ?_
                have hf := while_l hX1 hf
                exact ih1 (x3_1 + (1 : Int32)) u18 _ _ ls hG (lv_sub hl [2, 3, 4, 0] rfl) hf
              · have hf := gif_f c23 hf
                refine lv_iconst (v := (0 : Int32)) hx hb dX8_isSeen_74 (by decide) ?_
                have hf := while_r hX1 hf
                obtain ⟨hr1, hu⟩ := gret_s hf
                subst hr1
                subst hu
                subst hQ
                exact g_zret C0 hG hr (by decide) dX8_isSeen_75
          · have hf := gif_f c15 hf
            refine lv_goto (tgt := 76) hx hb dX8_isSeen_33 (by decide) ?_
            refine lv_iinc (v := x3_1 + (1 : Int32)) (lv' := [(3, .int (x3_1 + (1 : Int32))), (0, .ref (base + 82)), (1, .int p1), (2, .int p2)]) hx hb dX8_isSeen_76 hl (k := 3) rfl rfl (by decide) rfl (fun ls hl => ?_)
            refine lv_goto (tgt := 2) hx hb dX8_isSeen_79 (by decide) ?_
            have hf := while_l hX1 hf
            exact ih1 (x3_1 + (1 : Int32)) u1 _ _ ls hG (lv_sub hl [1, 2, 3, 0] rfl) hf
  exact loop1 FUEL (0 : Int32) u _ _ ls hG (lv_sub hl [1, 2, 3, 0] rfl) hf
theorem dX8_canOne_0 : decode cX8_canOne 0 = .ok (.aload_n 0, 1) := by decide +kernel
theorem dX8_canOne_1 : decode cX8_canOne 1 = .ok (.getfield 29, 3) := by decide +kernel
theorem dX8_canOne_4 : decode cX8_canOne 4 = .ok (.iload_n 1, 1) := by decide +kernel
theorem dX8_canOne_5 : decode cX8_canOne 5 = .ok (.iaload, 1) := by decide +kernel
theorem dX8_canOne_6 : decode cX8_canOne 6 = .ok (.istore_n 3, 1) := by decide +kernel
theorem dX8_canOne_7 : decode cX8_canOne 7 = .ok (.iconst 0, 1) := by decide +kernel
theorem dX8_canOne_8 : decode cX8_canOne 8 = .ok (.istore 4, 2) := by decide +kernel
theorem dX8_canOne_10 : decode cX8_canOne 10 = .ok (.bipush (-5), 2) := by decide +kernel
theorem dX8_canOne_12 : decode cX8_canOne 12 = .ok (.istore 5, 2) := by decide +kernel
theorem dX8_canOne_14 : decode cX8_canOne 14 = .ok (.bipush 9, 2) := by decide +kernel
theorem dX8_canOne_16 : decode cX8_canOne 16 = .ok (.istore 6, 2) := by decide +kernel
theorem dX8_canOne_18 : decode cX8_canOne 18 = .ok (.iload 6, 2) := by decide +kernel
theorem dX8_canOne_20 : decode cX8_canOne 20 = .ok (.ifCond .lt 36, 3) := by decide +kernel
theorem dX8_canOne_23 : decode cX8_canOne 23 = .ok (.aload_n 0, 1) := by decide +kernel
theorem dX8_canOne_24 : decode cX8_canOne 24 = .ok (.getfield 29, 3) := by decide +kernel
theorem dX8_canOne_27 : decode cX8_canOne 27 = .ok (.iload_n 1, 1) := by decide +kernel
theorem dX8_canOne_28 : decode cX8_canOne 28 = .ok (.iload 6, 2) := by decide +kernel
theorem dX8_canOne_30 : decode cX8_canOne 30 = .ok (.iastore, 1) := by decide +kernel
theorem dX8_canOne_31 : decode cX8_canOne 31 = .ok (.aload_n 0, 1) := by decide +kernel
theorem dX8_canOne_32 : decode cX8_canOne 32 = .ok (.iconst 1, 1) := by decide +kernel
theorem dX8_canOne_33 : decode cX8_canOne 33 = .ok (.iload_n 1, 1) := by decide +kernel
theorem dX8_canOne_34 : decode cX8_canOne 34 = .ok (.invokevirtual 379, 3) := by decide +kernel
theorem dX8_canOne_37 : decode cX8_canOne 37 = .ok (.ifCond .ne 6, 3) := by decide +kernel
theorem dX8_canOne_40 : decode cX8_canOne 40 = .ok (.goto 10, 3) := by decide +kernel
theorem dX8_canOne_43 : decode cX8_canOne 43 = .ok (.iinc 4 1, 3) := by decide +kernel
theorem dX8_canOne_46 : decode cX8_canOne 46 = .ok (.iload 6, 2) := by decide +kernel
theorem dX8_canOne_48 : decode cX8_canOne 48 = .ok (.istore 5, 2) := by decide +kernel
theorem dX8_canOne_50 : decode cX8_canOne 50 = .ok (.iinc 6 (-1), 3) := by decide +kernel
theorem dX8_canOne_53 : decode cX8_canOne 53 = .ok (.goto (-35), 3) := by decide +kernel
theorem dX8_canOne_56 : decode cX8_canOne 56 = .ok (.aload_n 0, 1) := by decide +kernel
theorem dX8_canOne_57 : decode cX8_canOne 57 = .ok (.getfield 29, 3) := by decide +kernel
theorem dX8_canOne_60 : decode cX8_canOne 60 = .ok (.iload_n 1, 1) := by decide +kernel
theorem dX8_canOne_61 : decode cX8_canOne 61 = .ok (.iload_n 3, 1) := by decide +kernel
theorem dX8_canOne_62 : decode cX8_canOne 62 = .ok (.iastore, 1) := by decide +kernel
theorem dX8_canOne_63 : decode cX8_canOne 63 = .ok (.iload_n 2, 1) := by decide +kernel
theorem dX8_canOne_64 : decode cX8_canOne 64 = .ok (.ifCond .ne 8, 3) := by decide +kernel
theorem dX8_canOne_67 : decode cX8_canOne 67 = .ok (.iload 4, 2) := by decide +kernel
theorem dX8_canOne_69 : decode cX8_canOne 69 = .ok (.goto 5, 3) := by decide +kernel
theorem dX8_canOne_72 : decode cX8_canOne 72 = .ok (.iload 5, 2) := by decide +kernel
theorem dX8_canOne_74 : decode cX8_canOne 74 = .ok (.ireturn, 1) := by decide +kernel
def f_X8_canOne_L18 (p1 : Int32) (p2 : Int32) (u : Mem) (x4_2 : Int32) (x5_2 : Int32) (x6_2 : Int32) (u2 : Mem) : Option ((Int32 × Int32 × Int32 × Mem) ⊕ (Int32 × Mem)) := (if x6_2 < 0 then gin p1 6 ((if p2 = 0 then some (Sum.inr (x4_2, sA u2 84 p1.toNatClampNeg (gA u 84 p1.toNatClampNeg))) else some (Sum.inr (x5_2, sA u2 84 p1.toNatClampNeg (gA u 84 p1.toNatClampNeg))))) else gin p1 6 (obind (f_X8_isSeen (1 : Int32) p1 (sA u2 84 p1.toNatClampNeg x6_2)) (fun r7 u7 => (if r7 = 0 then some (Sum.inl (x4_2, (x5_2, (x6_2 + (-1 : Int32), u7)))) else some (Sum.inl (x4_2 + (1 : Int32), (x6_2, (x6_2 + (-1 : Int32), u7))))))))
def f_X8_canOne (p1 : Int32) (p2 : Int32) (u : Mem) : Option (Int32 × Mem) := gin p1 6 (whileO (fun s => f_X8_canOne_L18 p1 p2 u s.1 s.2.1 s.2.2.1 s.2.2.2) FUEL ((0 : Int32), ((-5 : Int32), ((9 : Int32), u))))
set_option maxHeartbeats 4000000 in
set_option maxRecDepth 100000 in
theorem k_X8_canOne (l : Launch) (D : gDt) (base : Nat) (Z : gZt) (u : Mem) (p1 : Int32) (p2 : Int32) (r : Int32) (u' : Mem) (hf : f_X8_canOne p1 p2 u = some (r, u')) : Met l yX8_canOne (gws yX8_canOne cX8_canOne 7 (some .int)) (gRm 6 0 0) (gPc D base Z u [.ref (base + 82), .int p1, .int p2]) (gQi D base r u') 0 0 (gF base) := by
  refine Met.ofW (cc := cX8_canOne) (maxL := 7) (ret := some .int) (by decide) rfl ?_
  intro p e s m args below meth c s₁ B hml hv
  obtain ⟨rfl, C0, hG⟩ := g_enter B hml hv
  have hr := B.returns
  have C0 : gC p s m meth c _ cX8_canOne 7 RX8 D base Z := C0
  have hx := C0.1
  have hb := C0.2.1
  have hl := lv_entry ([.ref (base + 82), .int p1, .int p2]) (n := 7) (Nat.le_of_ble_eq_true rfl)
  rw [lg_entry_eq]
  generalize (lg_sl ([.ref (base + 82), .int p1, .int p2]) ++ List.replicate (7 - (lg_sl ([.ref (base + 82), .int p1, .int p2])).length) Slot.unset).toArray = ls at hl ⊢
  have hl : lv_has ls 7 [(0, .ref (base + 82)), (1, .int p1), (2, .int p2)] := hl
  obtain ⟨Q, hQ⟩ : ∃ Q, Q = MQ below (gQi D base r u') ([.ref (base + 82), .int p1, .int p2] : List Value).toArray s 0 0 (gF base) := ⟨_, rfl⟩
  rw [← hQ]
  change W p l e (gRm 6 0 0) s m _ below meth c _ _ _ _ _ _
  unfold f_X8_canOne at hf
  refine lv_aload_n hx hb dX8_canOne_0 rfl (lv_at hl 0 rfl) ?_
  refine g_getSa (o := 2) (a := 84) C0 hG (L82 hG) rfl 6 (by decide) rfl rfl w_852 dX8_canOne_1 ?_
  refine lv_iload_n hx hb dX8_canOne_4 rfl (lv_at hl 1 rfl) ?_
  obtain ⟨h1, hf⟩ := gin_s hf
  refine g_iald C0 hG (L84 hG) h1 dX8_canOne_5 ?_
  refine lv_istore_n (lv' := [(3, .int (gA u 84 p1.toNatClampNeg)), (0, .ref (base + 82)), (1, .int p1), (2, .int p2)]) hx hb dX8_canOne_6 rfl hl (by decide) rfl (fun ls hl => ?_)
  refine lv_iconst (v := (0 : Int32)) hx hb dX8_canOne_7 (by decide) ?_
  refine lv_istore (lv' := [(4, .int (0 : Int32)), (3, .int (gA u 84 p1.toNatClampNeg)), (0, .ref (base + 82)), (1, .int p1), (2, .int p2)]) hx hb dX8_canOne_8 hl (by decide) rfl (fun ls hl => ?_)
  refine lv_bipush (v := (-5 : Int32)) hx hb dX8_canOne_10 (by decide) ?_
  refine lv_istore (lv' := [(5, .int (-5 : Int32)), (4, .int (0 : Int32)), (3, .int (gA u 84 p1.toNatClampNeg)), (0, .ref (base + 82)), (1, .int p1), (2, .int p2)]) hx hb dX8_canOne_12 hl (by decide) rfl (fun ls hl => ?_)
  refine lv_bipush (v := (9 : Int32)) hx hb dX8_canOne_14 (by decide) ?_
  refine lv_istore (lv' := [(6, .int (9 : Int32)), (5, .int (-5 : Int32)), (4, .int (0 : Int32)), (3, .int (gA u 84 p1.toNatClampNeg)), (0, .ref (base + 82)), (1, .int p1), (2, .int p2)]) hx hb dX8_canOne_16 hl (by decide) rfl (fun ls hl => ?_)
  have loop2 : ∀ (n2 : Nat) (x4_2 : Int32) (x5_2 : Int32) (x6_2 : Int32) (u2 : Mem) (H : Heap) (locs : List Loc) (ls : Array Slot), gH D base s u2 H locs → lv_has ls 7 [(0, .ref (base + 82)), (1, .int p1), (2, .int p2), (3, .int (gA u 84 p1.toNatClampNeg)), (4, .int x4_2), (5, .int x5_2), (6, .int x6_2)] → whileO (fun s => f_X8_canOne_L18 p1 p2 u s.1 s.2.1 s.2.2.1 s.2.2.2) n2 (x4_2, (x5_2, (x6_2, u2))) = some (r, u') → W p l e (gRm 6 0 0) s m ([.ref (base + 82), .int p1, .int p2] : List Value).toArray below meth c H locs 0 0 Q (F0 m 18 ls []) := by
    intro n2
    induction n2 with
    | zero => intro x4_2 x5_2 x6_2 u2 H locs ls hG hl hf; cases hf
    | succ n2 ih2 =>
      intro x4_2 x5_2 x6_2 u2 H locs ls hG hl hf
      obtain ⟨X2, hf, hX2⟩ := while_s hf
      have hf : f_X8_canOne_L18 p1 p2 u x4_2 x5_2 x6_2 u2 = some X2 := hf
      unfold f_X8_canOne_L18 at hf
      refine lv_iload hx hb dX8_canOne_18 (lv_at hl 6 rfl) ?_
      refine lv_if_lt (tgt := 56) hx hb dX8_canOne_20 (by decide) (fun c3 => ?_) (fun c3 => ?_)
      · have hf := gif_t c3 hf
        refine lv_aload_n hx hb dX8_canOne_56 rfl (lv_at hl 0 rfl) ?_
        refine g_getSa (o := 2) (a := 84) C0 hG (L82 hG) rfl 6 (by decide) rfl rfl w_852 dX8_canOne_57 ?_
        refine lv_iload_n hx hb dX8_canOne_60 rfl (lv_at hl 1 rfl) ?_
        refine lv_iload_n hx hb dX8_canOne_61 rfl (lv_at hl 3 rfl) ?_
        obtain ⟨h4, hf⟩ := gin_s hf
        refine g_iast C0 hG (L84 hG) h4 dX8_canOne_62 (fun H locs hG => ?_)
        refine lv_iload_n hx hb dX8_canOne_63 rfl (lv_at hl 2 rfl) ?_
        refine lv_if_ne (tgt := 72) hx hb dX8_canOne_64 (by decide) (fun c5 => ?_) (fun c5 => ?_)
        · have hf := gif_f c5 hf
          refine lv_iload hx hb dX8_canOne_72 (lv_at hl 5 rfl) ?_
          have hf := while_r hX2 hf
          obtain ⟨hr1, hu⟩ := gret_s hf
          subst hr1
          subst hu
          subst hQ
          exact g_iret C0 hG hr dX8_canOne_74
        · have hf := gif_t c5 hf
          refine lv_iload hx hb dX8_canOne_67 (lv_at hl 4 rfl) ?_
          refine lv_goto (tgt := 74) hx hb dX8_canOne_69 (by decide) ?_
          have hf := while_r hX2 hf
          obtain ⟨hr1, hu⟩ := gret_s hf
          subst hr1
          subst hu
          subst hQ
          exact g_iret C0 hG hr dX8_canOne_74
      · have hf := gif_f c3 hf
        refine lv_aload_n hx hb dX8_canOne_23 rfl (lv_at hl 0 rfl) ?_
        refine g_getSa (o := 2) (a := 84) C0 hG (L82 hG) rfl 6 (by decide) rfl rfl w_852 dX8_canOne_24 ?_
        refine lv_iload_n hx hb dX8_canOne_27 rfl (lv_at hl 1 rfl) ?_
        refine lv_iload hx hb dX8_canOne_28 (lv_at hl 6 rfl) ?_
        obtain ⟨h6, hf⟩ := gin_s hf
        refine g_iast C0 hG (L84 hG) h6 dX8_canOne_30 (fun H locs hG => ?_)
        refine lv_aload_n hx hb dX8_canOne_31 rfl (lv_at hl 0 rfl) ?_
        refine lv_iconst (v := (1 : Int32)) hx hb dX8_canOne_32 (by decide) ?_
        refine lv_iload_n hx hb dX8_canOne_33 rfl (lv_at hl 1 rfl) ?_
        obtain ⟨r7, u7, hc7, hf⟩ := obind_s hf
        refine g_doI0 hG (g_runV C0 hG (k_X8_isSeen l D base Z (sA u2 84 p1.toNatClampNeg x6_2) (1 : Int32) p1 r7 u7 hc7) m_X8_isSeen v_X8_isSeen w_1315 (by decide) (g_recv C0 hG (L82 hG) rfl) rfl hl.1 rfl (Nat.le_of_ble_eq_true rfl) dX8_canOne_34 ⟨Nat.zero_le _, Nat.zero_le _⟩) (fun H locs hG hk => ?_)
        refine lv_if_ne (tgt := 43) hx hb dX8_canOne_37 (by decide) (fun c8 => ?_) (fun c8 => ?_)
        · have hf := gif_f c8 hf
          refine lv_iinc (v := x4_2 + (1 : Int32)) (lv' := [(4, .int (x4_2 + (1 : Int32))), (0, .ref (base + 82)), (1, .int p1), (2, .int p2), (3, .int (gA u 84 p1.toNatClampNeg)), (5, .int x5_2), (6, .int x6_2)]) hx hb dX8_canOne_43 hl (k := 4) rfl rfl (by decide) rfl (fun ls hl => ?_)
          refine lv_iload hx hb dX8_canOne_46 (lv_at hl 6 rfl) ?_
          refine lv_istore (lv' := [(5, .int x6_2), (4, .int (x4_2 + (1 : Int32))), (0, .ref (base + 82)), (1, .int p1), (2, .int p2), (3, .int (gA u 84 p1.toNatClampNeg)), (6, .int x6_2)]) hx hb dX8_canOne_48 hl (by decide) rfl (fun ls hl => ?_)
          refine lv_iinc (v := x6_2 + (-1 : Int32)) (lv' := [(6, .int (x6_2 + (-1 : Int32))), (5, .int x6_2), (4, .int (x4_2 + (1 : Int32))), (0, .ref (base + 82)), (1, .int p1), (2, .int p2), (3, .int (gA u 84 p1.toNatClampNeg))]) hx hb dX8_canOne_50 hl (k := 6) rfl rfl (by decide) rfl (fun ls hl => ?_)
          refine lv_goto (tgt := 18) hx hb dX8_canOne_53 (by decide) ?_
          have hf := while_l hX2 hf
          exact ih2 (x4_2 + (1 : Int32)) x6_2 (x6_2 + (-1 : Int32)) u7 _ _ ls hG (lv_sub hl [3, 4, 5, 6, 2, 1, 0] rfl) hf
        · have hf := gif_t c8 hf
          refine lv_goto (tgt := 50) hx hb dX8_canOne_40 (by decide) ?_
          refine lv_iinc (v := x6_2 + (-1 : Int32)) (lv' := [(6, .int (x6_2 + (-1 : Int32))), (0, .ref (base + 82)), (1, .int p1), (2, .int p2), (3, .int (gA u 84 p1.toNatClampNeg)), (4, .int x4_2), (5, .int x5_2)]) hx hb dX8_canOne_50 hl (k := 6) rfl rfl (by decide) rfl (fun ls hl => ?_)
          refine lv_goto (tgt := 18) hx hb dX8_canOne_53 (by decide) ?_
          have hf := while_l hX2 hf
          exact ih2 x4_2 x5_2 (x6_2 + (-1 : Int32)) u7 _ _ ls hG (lv_sub hl [1, 2, 3, 4, 5, 6, 0] rfl) hf
  exact loop2 FUEL (0 : Int32) (-5 : Int32) (9 : Int32) u _ _ ls hG (lv_sub hl [4, 5, 6, 3, 2, 1, 0] rfl) hf
theorem dX8_stale_0 : decode cX8_stale 0 = .ok (.aload_n 0, 1) := by decide +kernel
theorem dX8_stale_1 : decode cX8_stale 1 = .ok (.getfield 41, 3) := by decide +kernel
theorem dX8_stale_4 : decode cX8_stale 4 = .ok (.iload_n 1, 1) := by decide +kernel
theorem dX8_stale_5 : decode cX8_stale 5 = .ok (.iaload, 1) := by decide +kernel
theorem dX8_stale_6 : decode cX8_stale 6 = .ok (.istore_n 3, 1) := by decide +kernel
theorem dX8_stale_7 : decode cX8_stale 7 = .ok (.iconst 0, 1) := by decide +kernel
theorem dX8_stale_8 : decode cX8_stale 8 = .ok (.istore 4, 2) := by decide +kernel
theorem dX8_stale_10 : decode cX8_stale 10 = .ok (.bipush (-5), 2) := by decide +kernel
theorem dX8_stale_12 : decode cX8_stale 12 = .ok (.istore 5, 2) := by decide +kernel
theorem dX8_stale_14 : decode cX8_stale 14 = .ok (.bipush 99, 2) := by decide +kernel
theorem dX8_stale_16 : decode cX8_stale 16 = .ok (.istore 6, 2) := by decide +kernel
theorem dX8_stale_18 : decode cX8_stale 18 = .ok (.iload 6, 2) := by decide +kernel
theorem dX8_stale_20 : decode cX8_stale 20 = .ok (.ifCond .lt 36, 3) := by decide +kernel
theorem dX8_stale_23 : decode cX8_stale 23 = .ok (.aload_n 0, 1) := by decide +kernel
theorem dX8_stale_24 : decode cX8_stale 24 = .ok (.getfield 41, 3) := by decide +kernel
theorem dX8_stale_27 : decode cX8_stale 27 = .ok (.iload_n 1, 1) := by decide +kernel
theorem dX8_stale_28 : decode cX8_stale 28 = .ok (.iload 6, 2) := by decide +kernel
theorem dX8_stale_30 : decode cX8_stale 30 = .ok (.iastore, 1) := by decide +kernel
theorem dX8_stale_31 : decode cX8_stale 31 = .ok (.aload_n 0, 1) := by decide +kernel
theorem dX8_stale_32 : decode cX8_stale 32 = .ok (.iconst 0, 1) := by decide +kernel
theorem dX8_stale_33 : decode cX8_stale 33 = .ok (.iload_n 1, 1) := by decide +kernel
theorem dX8_stale_34 : decode cX8_stale 34 = .ok (.invokevirtual 379, 3) := by decide +kernel
theorem dX8_stale_37 : decode cX8_stale 37 = .ok (.ifCond .ne 6, 3) := by decide +kernel
theorem dX8_stale_40 : decode cX8_stale 40 = .ok (.goto 10, 3) := by decide +kernel
theorem dX8_stale_43 : decode cX8_stale 43 = .ok (.iinc 4 1, 3) := by decide +kernel
theorem dX8_stale_46 : decode cX8_stale 46 = .ok (.iload 6, 2) := by decide +kernel
theorem dX8_stale_48 : decode cX8_stale 48 = .ok (.istore 5, 2) := by decide +kernel
theorem dX8_stale_50 : decode cX8_stale 50 = .ok (.iinc 6 (-1), 3) := by decide +kernel
theorem dX8_stale_53 : decode cX8_stale 53 = .ok (.goto (-35), 3) := by decide +kernel
theorem dX8_stale_56 : decode cX8_stale 56 = .ok (.aload_n 0, 1) := by decide +kernel
theorem dX8_stale_57 : decode cX8_stale 57 = .ok (.getfield 41, 3) := by decide +kernel
theorem dX8_stale_60 : decode cX8_stale 60 = .ok (.iload_n 1, 1) := by decide +kernel
theorem dX8_stale_61 : decode cX8_stale 61 = .ok (.iload_n 3, 1) := by decide +kernel
theorem dX8_stale_62 : decode cX8_stale 62 = .ok (.iastore, 1) := by decide +kernel
theorem dX8_stale_63 : decode cX8_stale 63 = .ok (.iload_n 2, 1) := by decide +kernel
theorem dX8_stale_64 : decode cX8_stale 64 = .ok (.ifCond .ne 8, 3) := by decide +kernel
theorem dX8_stale_67 : decode cX8_stale 67 = .ok (.iload 4, 2) := by decide +kernel
theorem dX8_stale_69 : decode cX8_stale 69 = .ok (.goto 5, 3) := by decide +kernel
theorem dX8_stale_72 : decode cX8_stale 72 = .ok (.iload 5, 2) := by decide +kernel
theorem dX8_stale_74 : decode cX8_stale 74 = .ok (.ireturn, 1) := by decide +kernel
def f_X8_stale_L18 (p1 : Int32) (p2 : Int32) (u : Mem) (x4_2 : Int32) (x5_2 : Int32) (x6_2 : Int32) (u2 : Mem) : Option ((Int32 × Int32 × Int32 × Mem) ⊕ (Int32 × Mem)) := (if x6_2 < 0 then gin p1 8 ((if p2 = 0 then some (Sum.inr (x4_2, sA u2 88 p1.toNatClampNeg (gA u 88 p1.toNatClampNeg))) else some (Sum.inr (x5_2, sA u2 88 p1.toNatClampNeg (gA u 88 p1.toNatClampNeg))))) else gin p1 8 (obind (f_X8_isSeen (0 : Int32) p1 (sA u2 88 p1.toNatClampNeg x6_2)) (fun r7 u7 => (if r7 = 0 then some (Sum.inl (x4_2, (x5_2, (x6_2 + (-1 : Int32), u7)))) else some (Sum.inl (x4_2 + (1 : Int32), (x6_2, (x6_2 + (-1 : Int32), u7))))))))
def f_X8_stale (p1 : Int32) (p2 : Int32) (u : Mem) : Option (Int32 × Mem) := gin p1 8 (whileO (fun s => f_X8_stale_L18 p1 p2 u s.1 s.2.1 s.2.2.1 s.2.2.2) FUEL ((0 : Int32), ((-5 : Int32), ((99 : Int32), u))))
set_option maxHeartbeats 4000000 in
set_option maxRecDepth 100000 in
theorem k_X8_stale (l : Launch) (D : gDt) (base : Nat) (Z : gZt) (u : Mem) (p1 : Int32) (p2 : Int32) (r : Int32) (u' : Mem) (hf : f_X8_stale p1 p2 u = some (r, u')) : Met l yX8_stale (gws yX8_stale cX8_stale 7 (some .int)) (gRm 6 0 0) (gPc D base Z u [.ref (base + 82), .int p1, .int p2]) (gQi D base r u') 0 0 (gF base) := by
  refine Met.ofW (cc := cX8_stale) (maxL := 7) (ret := some .int) (by decide) rfl ?_
  intro p e s m args below meth c s₁ B hml hv
  obtain ⟨rfl, C0, hG⟩ := g_enter B hml hv
  have hr := B.returns
  have C0 : gC p s m meth c _ cX8_stale 7 RX8 D base Z := C0
  have hx := C0.1
  have hb := C0.2.1
  have hl := lv_entry ([.ref (base + 82), .int p1, .int p2]) (n := 7) (Nat.le_of_ble_eq_true rfl)
  rw [lg_entry_eq]
  generalize (lg_sl ([.ref (base + 82), .int p1, .int p2]) ++ List.replicate (7 - (lg_sl ([.ref (base + 82), .int p1, .int p2])).length) Slot.unset).toArray = ls at hl ⊢
  have hl : lv_has ls 7 [(0, .ref (base + 82)), (1, .int p1), (2, .int p2)] := hl
  obtain ⟨Q, hQ⟩ : ∃ Q, Q = MQ below (gQi D base r u') ([.ref (base + 82), .int p1, .int p2] : List Value).toArray s 0 0 (gF base) := ⟨_, rfl⟩
  rw [← hQ]
  change W p l e (gRm 6 0 0) s m _ below meth c _ _ _ _ _ _
  unfold f_X8_stale at hf
  refine lv_aload_n hx hb dX8_stale_0 rfl (lv_at hl 0 rfl) ?_
  refine g_getSa (o := 6) (a := 88) C0 hG (L82 hG) rfl 10 (by decide) rfl rfl w_856 dX8_stale_1 ?_
  refine lv_iload_n hx hb dX8_stale_4 rfl (lv_at hl 1 rfl) ?_
  obtain ⟨h1, hf⟩ := gin_s hf
  refine g_iald C0 hG (L88 hG) h1 dX8_stale_5 ?_
  refine lv_istore_n (lv' := [(3, .int (gA u 88 p1.toNatClampNeg)), (0, .ref (base + 82)), (1, .int p1), (2, .int p2)]) hx hb dX8_stale_6 rfl hl (by decide) rfl (fun ls hl => ?_)
  refine lv_iconst (v := (0 : Int32)) hx hb dX8_stale_7 (by decide) ?_
  refine lv_istore (lv' := [(4, .int (0 : Int32)), (3, .int (gA u 88 p1.toNatClampNeg)), (0, .ref (base + 82)), (1, .int p1), (2, .int p2)]) hx hb dX8_stale_8 hl (by decide) rfl (fun ls hl => ?_)
  refine lv_bipush (v := (-5 : Int32)) hx hb dX8_stale_10 (by decide) ?_
  refine lv_istore (lv' := [(5, .int (-5 : Int32)), (4, .int (0 : Int32)), (3, .int (gA u 88 p1.toNatClampNeg)), (0, .ref (base + 82)), (1, .int p1), (2, .int p2)]) hx hb dX8_stale_12 hl (by decide) rfl (fun ls hl => ?_)
  refine lv_bipush (v := (99 : Int32)) hx hb dX8_stale_14 (by decide) ?_
  refine lv_istore (lv' := [(6, .int (99 : Int32)), (5, .int (-5 : Int32)), (4, .int (0 : Int32)), (3, .int (gA u 88 p1.toNatClampNeg)), (0, .ref (base + 82)), (1, .int p1), (2, .int p2)]) hx hb dX8_stale_16 hl (by decide) rfl (fun ls hl => ?_)
  have loop2 : ∀ (n2 : Nat) (x4_2 : Int32) (x5_2 : Int32) (x6_2 : Int32) (u2 : Mem) (H : Heap) (locs : List Loc) (ls : Array Slot), gH D base s u2 H locs → lv_has ls 7 [(0, .ref (base + 82)), (1, .int p1), (2, .int p2), (3, .int (gA u 88 p1.toNatClampNeg)), (4, .int x4_2), (5, .int x5_2), (6, .int x6_2)] → whileO (fun s => f_X8_stale_L18 p1 p2 u s.1 s.2.1 s.2.2.1 s.2.2.2) n2 (x4_2, (x5_2, (x6_2, u2))) = some (r, u') → W p l e (gRm 6 0 0) s m ([.ref (base + 82), .int p1, .int p2] : List Value).toArray below meth c H locs 0 0 Q (F0 m 18 ls []) := by
    intro n2
    induction n2 with
    | zero => intro x4_2 x5_2 x6_2 u2 H locs ls hG hl hf; cases hf
    | succ n2 ih2 =>
      intro x4_2 x5_2 x6_2 u2 H locs ls hG hl hf
      obtain ⟨X2, hf, hX2⟩ := while_s hf
      have hf : f_X8_stale_L18 p1 p2 u x4_2 x5_2 x6_2 u2 = some X2 := hf
      unfold f_X8_stale_L18 at hf
      refine lv_iload hx hb dX8_stale_18 (lv_at hl 6 rfl) ?_
      refine lv_if_lt (tgt := 56) hx hb dX8_stale_20 (by decide) (fun c3 => ?_) (fun c3 => ?_)
      · have hf := gif_t c3 hf
        refine lv_aload_n hx hb dX8_stale_56 rfl (lv_at hl 0 rfl) ?_
        refine g_getSa (o := 6) (a := 88) C0 hG (L82 hG) rfl 10 (by decide) rfl rfl w_856 dX8_stale_57 ?_
        refine lv_iload_n hx hb dX8_stale_60 rfl (lv_at hl 1 rfl) ?_
        refine lv_iload_n hx hb dX8_stale_61 rfl (lv_at hl 3 rfl) ?_
        obtain ⟨h4, hf⟩ := gin_s hf
        refine g_iast C0 hG (L88 hG) h4 dX8_stale_62 (fun H locs hG => ?_)
        refine lv_iload_n hx hb dX8_stale_63 rfl (lv_at hl 2 rfl) ?_
        refine lv_if_ne (tgt := 72) hx hb dX8_stale_64 (by decide) (fun c5 => ?_) (fun c5 => ?_)
        · have hf := gif_f c5 hf
          refine lv_iload hx hb dX8_stale_72 (lv_at hl 5 rfl) ?_
          have hf := while_r hX2 hf
          obtain ⟨hr1, hu⟩ := gret_s hf
          subst hr1
          subst hu
          subst hQ
          exact g_iret C0 hG hr dX8_stale_74
        · have hf := gif_t c5 hf
          refine lv_iload hx hb dX8_stale_67 (lv_at hl 4 rfl) ?_
          refine lv_goto (tgt := 74) hx hb dX8_stale_69 (by decide) ?_
          have hf := while_r hX2 hf
          obtain ⟨hr1, hu⟩ := gret_s hf
          subst hr1
          subst hu
          subst hQ
          exact g_iret C0 hG hr dX8_stale_74
      · have hf := gif_f c3 hf
        refine lv_aload_n hx hb dX8_stale_23 rfl (lv_at hl 0 rfl) ?_
        refine g_getSa (o := 6) (a := 88) C0 hG (L82 hG) rfl 10 (by decide) rfl rfl w_856 dX8_stale_24 ?_
        refine lv_iload_n hx hb dX8_stale_27 rfl (lv_at hl 1 rfl) ?_
        refine lv_iload hx hb dX8_stale_28 (lv_at hl 6 rfl) ?_
        obtain ⟨h6, hf⟩ := gin_s hf
        refine g_iast C0 hG (L88 hG) h6 dX8_stale_30 (fun H locs hG => ?_)
        refine lv_aload_n hx hb dX8_stale_31 rfl (lv_at hl 0 rfl) ?_
        refine lv_iconst (v := (0 : Int32)) hx hb dX8_stale_32 (by decide) ?_
        refine lv_iload_n hx hb dX8_stale_33 rfl (lv_at hl 1 rfl) ?_
        obtain ⟨r7, u7, hc7, hf⟩ := obind_s hf
        refine g_doI0 hG (g_runV C0 hG (k_X8_isSeen l D base Z (sA u2 88 p1.toNatClampNeg x6_2) (0 : Int32) p1 r7 u7 hc7) m_X8_isSeen v_X8_isSeen w_1315 (by decide) (g_recv C0 hG (L82 hG) rfl) rfl hl.1 rfl (Nat.le_of_ble_eq_true rfl) dX8_stale_34 ⟨Nat.zero_le _, Nat.zero_le _⟩) (fun H locs hG hk => ?_)
        refine lv_if_ne (tgt := 43) hx hb dX8_stale_37 (by decide) (fun c8 => ?_) (fun c8 => ?_)
        · have hf := gif_f c8 hf
          refine lv_iinc (v := x4_2 + (1 : Int32)) (lv' := [(4, .int (x4_2 + (1 : Int32))), (0, .ref (base + 82)), (1, .int p1), (2, .int p2), (3, .int (gA u 88 p1.toNatClampNeg)), (5, .int x5_2), (6, .int x6_2)]) hx hb dX8_stale_43 hl (k := 4) rfl rfl (by decide) rfl (fun ls hl => ?_)
          refine lv_iload hx hb dX8_stale_46 (lv_at hl 6 rfl) ?_
          refine lv_istore (lv' := [(5, .int x6_2), (4, .int (x4_2 + (1 : Int32))), (0, .ref (base + 82)), (1, .int p1), (2, .int p2), (3, .int (gA u 88 p1.toNatClampNeg)), (6, .int x6_2)]) hx hb dX8_stale_48 hl (by decide) rfl (fun ls hl => ?_)
          refine lv_iinc (v := x6_2 + (-1 : Int32)) (lv' := [(6, .int (x6_2 + (-1 : Int32))), (5, .int x6_2), (4, .int (x4_2 + (1 : Int32))), (0, .ref (base + 82)), (1, .int p1), (2, .int p2), (3, .int (gA u 88 p1.toNatClampNeg))]) hx hb dX8_stale_50 hl (k := 6) rfl rfl (by decide) rfl (fun ls hl => ?_)
          refine lv_goto (tgt := 18) hx hb dX8_stale_53 (by decide) ?_
          have hf := while_l hX2 hf
          exact ih2 (x4_2 + (1 : Int32)) x6_2 (x6_2 + (-1 : Int32)) u7 _ _ ls hG (lv_sub hl [3, 4, 5, 6, 2, 1, 0] rfl) hf
        · have hf := gif_t c8 hf
          refine lv_goto (tgt := 50) hx hb dX8_stale_40 (by decide) ?_
          refine lv_iinc (v := x6_2 + (-1 : Int32)) (lv' := [(6, .int (x6_2 + (-1 : Int32))), (0, .ref (base + 82)), (1, .int p1), (2, .int p2), (3, .int (gA u 88 p1.toNatClampNeg)), (4, .int x4_2), (5, .int x5_2)]) hx hb dX8_stale_50 hl (k := 6) rfl rfl (by decide) rfl (fun ls hl => ?_)
          refine lv_goto (tgt := 18) hx hb dX8_stale_53 (by decide) ?_
          have hf := while_l hX2 hf
          exact ih2 x4_2 x5_2 (x6_2 + (-1 : Int32)) u7 _ _ ls hG (lv_sub hl [1, 2, 3, 4, 5, 6, 0] rfl) hf
  exact loop2 FUEL (0 : Int32) (-5 : Int32) (99 : Int32) u _ _ ls hG (lv_sub hl [4, 5, 6, 3, 2, 1, 0] rfl) hf
