theorem dX8_count_0 : decode cX8_count 0 = .ok (.iload_n 1, 1) := by decide +kernel
theorem dX8_count_1 : decode cX8_count 1 = .ok (.tableswitch 78 0 6 #[43, 48, 53, 58, 63, 68, 73], 43) := by decide +kernel
theorem dX8_count_44 : decode cX8_count 44 = .ok (.aload_n 0, 1) := by decide +kernel
theorem dX8_count_45 : decode cX8_count 45 = .ok (.getfield 7, 3) := by decide +kernel
theorem dX8_count_48 : decode cX8_count 48 = .ok (.ireturn, 1) := by decide +kernel
theorem dX8_count_49 : decode cX8_count 49 = .ok (.aload_n 0, 1) := by decide +kernel
theorem dX8_count_50 : decode cX8_count 50 = .ok (.getfield 47, 3) := by decide +kernel
theorem dX8_count_53 : decode cX8_count 53 = .ok (.ireturn, 1) := by decide +kernel
theorem dX8_count_54 : decode cX8_count 54 = .ok (.aload_n 0, 1) := by decide +kernel
theorem dX8_count_55 : decode cX8_count 55 = .ok (.getfield 123, 3) := by decide +kernel
theorem dX8_count_58 : decode cX8_count 58 = .ok (.ireturn, 1) := by decide +kernel
theorem dX8_count_59 : decode cX8_count 59 = .ok (.aload_n 0, 1) := by decide +kernel
theorem dX8_count_60 : decode cX8_count 60 = .ok (.getfield 135, 3) := by decide +kernel
theorem dX8_count_63 : decode cX8_count 63 = .ok (.ireturn, 1) := by decide +kernel
theorem dX8_count_64 : decode cX8_count 64 = .ok (.aload_n 0, 1) := by decide +kernel
theorem dX8_count_65 : decode cX8_count 65 = .ok (.getfield 138, 3) := by decide +kernel
theorem dX8_count_68 : decode cX8_count 68 = .ok (.ireturn, 1) := by decide +kernel
theorem dX8_count_69 : decode cX8_count 69 = .ok (.aload_n 0, 1) := by decide +kernel
theorem dX8_count_70 : decode cX8_count 70 = .ok (.getfield 53, 3) := by decide +kernel
theorem dX8_count_73 : decode cX8_count 73 = .ok (.ireturn, 1) := by decide +kernel
theorem dX8_count_74 : decode cX8_count 74 = .ok (.aload_n 0, 1) := by decide +kernel
theorem dX8_count_75 : decode cX8_count 75 = .ok (.getfield 226, 3) := by decide +kernel
theorem dX8_count_78 : decode cX8_count 78 = .ok (.ireturn, 1) := by decide +kernel
theorem dX8_count_79 : decode cX8_count 79 = .ok (.bipush (-2), 2) := by decide +kernel
theorem dX8_count_81 : decode cX8_count 81 = .ok (.ireturn, 1) := by decide +kernel
def f_X8_count (p1 : Int32) (u : Mem) : Option (Int32) := (if p1 = (0 : Int32) then some (gI u 82 0) else (if p1 = (1 : Int32) then some (gI u 82 12) else (if p1 = (2 : Int32) then some (gI u 82 37) else (if p1 = (3 : Int32) then some (gI u 82 41) else (if p1 = (4 : Int32) then some (gI u 82 42) else (if p1 = (5 : Int32) then some (gI u 82 14) else (if p1 = (6 : Int32) then some (gI u 82 71) else some (-2 : Int32))))))))
set_option maxHeartbeats 4000000 in
set_option maxRecDepth 100000 in
theorem k_X8_count (l : Launch) (D : gDt) (base : Nat) (Z : gZt) (u : Mem) (p1 : Int32) (r : Int32) (hf : f_X8_count p1 u = some r) : Met l yX8_count (gws yX8_count cX8_count 2 (some .int)) (gRm 1 0 0) (gPc D base Z u [.ref (base + 82), .int p1]) (gQi D base r u) 0 0 (gF base) := by
  refine Met.ofW (cc := cX8_count) (maxL := 2) (ret := some .int) (by decide) rfl ?_
  intro p e s m args below meth c s₁ B hml hv
  obtain ⟨rfl, C0, hG⟩ := g_enter B hml hv
  have hr := B.returns
  have C0 : gC p s m meth c _ cX8_count 2 RX8 D base Z := C0
  have hx := C0.1
  have hb := C0.2.1
  have hl := lv_entry ([.ref (base + 82), .int p1]) (n := 2) (Nat.le_of_ble_eq_true rfl)
  rw [lg_entry_eq]
  generalize (lg_sl ([.ref (base + 82), .int p1]) ++ List.replicate (2 - (lg_sl ([.ref (base + 82), .int p1])).length) Slot.unset).toArray = ls at hl ⊢
  have hl : lv_has ls 2 [(0, .ref (base + 82)), (1, .int p1)] := hl
  obtain ⟨Q, hQ⟩ : ∃ Q, Q = MQ below (gQi D base r u) ([.ref (base + 82), .int p1] : List Value).toArray s 0 0 (gF base) := ⟨_, rfl⟩
  rw [← hQ]
  change W p l e (gRm 1 0 0) s m _ below meth c _ _ _ _ _ _
  unfold f_X8_count at hf
  refine lv_iload_n hx hb dX8_count_0 rfl (lv_at hl 1 rfl) ?_
  refine (Decidable.em (p1 = (0 : Int32))).elim (fun c1 => ?_) (fun c1 => ?_)
  · have hf := gif_t c1 hf
    refine lv_tableIn (off := 43) (tgt := 44) hx hb dX8_count_1 (by rw [c1]; decide) (by rw [c1]; decide) (by rw [c1]; rfl) (by decide) ?_
    refine lv_aload_n hx hb dX8_count_44 rfl (lv_at hl 0 rfl) ?_
    refine g_getI C0 hG (L82 hG) rfl 0 (by decide) rfl w_846 dX8_count_45 ?_
    have hf := Option.some.inj hf
    subst hf
    subst hQ
    exact g_iret C0 hG hr dX8_count_48
  · have hf := gif_f c1 hf
    refine (Decidable.em (p1 = (1 : Int32))).elim (fun c2 => ?_) (fun c2 => ?_)
    · have hf := gif_t c2 hf
      refine lv_tableIn (off := 48) (tgt := 49) hx hb dX8_count_1 (by rw [c2]; decide) (by rw [c2]; decide) (by rw [c2]; rfl) (by decide) ?_
      refine lv_aload_n hx hb dX8_count_49 rfl (lv_at hl 0 rfl) ?_
      refine g_getI C0 hG (L82 hG) rfl 12 (by decide) rfl w_858 dX8_count_50 ?_
      have hf := Option.some.inj hf
      subst hf
      subst hQ
      exact g_iret C0 hG hr dX8_count_53
    · have hf := gif_f c2 hf
      refine (Decidable.em (p1 = (2 : Int32))).elim (fun c3 => ?_) (fun c3 => ?_)
      · have hf := gif_t c3 hf
        refine lv_tableIn (off := 53) (tgt := 54) hx hb dX8_count_1 (by rw [c3]; decide) (by rw [c3]; decide) (by rw [c3]; rfl) (by decide) ?_
        refine lv_aload_n hx hb dX8_count_54 rfl (lv_at hl 0 rfl) ?_
        refine g_getI C0 hG (L82 hG) rfl 37 (by decide) rfl w_883 dX8_count_55 ?_
        have hf := Option.some.inj hf
        subst hf
        subst hQ
        exact g_iret C0 hG hr dX8_count_58
      · have hf := gif_f c3 hf
        refine (Decidable.em (p1 = (3 : Int32))).elim (fun c4 => ?_) (fun c4 => ?_)
        · have hf := gif_t c4 hf
          refine lv_tableIn (off := 58) (tgt := 59) hx hb dX8_count_1 (by rw [c4]; decide) (by rw [c4]; decide) (by rw [c4]; rfl) (by decide) ?_
          refine lv_aload_n hx hb dX8_count_59 rfl (lv_at hl 0 rfl) ?_
          refine g_getI C0 hG (L82 hG) rfl 41 (by decide) rfl w_887 dX8_count_60 ?_
          have hf := Option.some.inj hf
          subst hf
          subst hQ
          exact g_iret C0 hG hr dX8_count_63
        · have hf := gif_f c4 hf
          refine (Decidable.em (p1 = (4 : Int32))).elim (fun c5 => ?_) (fun c5 => ?_)
          · have hf := gif_t c5 hf
            refine lv_tableIn (off := 63) (tgt := 64) hx hb dX8_count_1 (by rw [c5]; decide) (by rw [c5]; decide) (by rw [c5]; rfl) (by decide) ?_
            refine lv_aload_n hx hb dX8_count_64 rfl (lv_at hl 0 rfl) ?_
            refine g_getI C0 hG (L82 hG) rfl 42 (by decide) rfl w_888 dX8_count_65 ?_
            have hf := Option.some.inj hf
            subst hf
            subst hQ
            exact g_iret C0 hG hr dX8_count_68
          · have hf := gif_f c5 hf
            refine (Decidable.em (p1 = (5 : Int32))).elim (fun c6 => ?_) (fun c6 => ?_)
            · have hf := gif_t c6 hf
              refine lv_tableIn (off := 68) (tgt := 69) hx hb dX8_count_1 (by rw [c6]; decide) (by rw [c6]; decide) (by rw [c6]; rfl) (by decide) ?_
              refine lv_aload_n hx hb dX8_count_69 rfl (lv_at hl 0 rfl) ?_
              refine g_getI C0 hG (L82 hG) rfl 14 (by decide) rfl w_860 dX8_count_70 ?_
              have hf := Option.some.inj hf
              subst hf
              subst hQ
              exact g_iret C0 hG hr dX8_count_73
            · have hf := gif_f c6 hf
              refine (Decidable.em (p1 = (6 : Int32))).elim (fun c7 => ?_) (fun c7 => ?_)
              · have hf := gif_t c7 hf
                refine lv_tableIn (off := 73) (tgt := 74) hx hb dX8_count_1 (by rw [c7]; decide) (by rw [c7]; decide) (by rw [c7]; rfl) (by decide) ?_
                refine lv_aload_n hx hb dX8_count_74 rfl (lv_at hl 0 rfl) ?_
                refine g_getI C0 hG (L82 hG) rfl 71 (by decide) rfl w_917 dX8_count_75 ?_
                have hf := Option.some.inj hf
                subst hf
                subst hQ
                exact g_iret C0 hG hr dX8_count_78
              · have hf := gif_f c7 hf
                refine lv_tableOut (tgt := 79) hx hb dX8_count_1 (by
                    have n0 := lv_neT c1 (k := (0 : Int32)) (a := 0) (by decide)
                    have n1 := lv_neT c2 (k := (1 : Int32)) (a := 1) (by decide)
                    have n2 := lv_neT c3 (k := (2 : Int32)) (a := 2) (by decide)
                    have n3 := lv_neT c4 (k := (3 : Int32)) (a := 3) (by decide)
                    have n4 := lv_neT c5 (k := (4 : Int32)) (a := 4) (by decide)
                    have n5 := lv_neT c6 (k := (5 : Int32)) (a := 5) (by decide)
                    have n6 := lv_neT c7 (k := (6 : Int32)) (a := 6) (by decide)
                    omega) (by decide) ?_
                refine lv_bipush (v := (-2 : Int32)) hx hb dX8_count_79 (by decide) ?_
                have hf := Option.some.inj hf
                subst hf
                subst hQ
                exact g_iret C0 hG hr dX8_count_81
theorem dX8_tape_0 : decode cX8_tape 0 = .ok (.aload_n 0, 1) := by decide +kernel
theorem dX8_tape_1 : decode cX8_tape 1 = .ok (.iload_n 1, 1) := by decide +kernel
theorem dX8_tape_2 : decode cX8_tape 2 = .ok (.invokevirtual 407, 3) := by decide +kernel
theorem dX8_tape_5 : decode cX8_tape 5 = .ok (.ifCond .ne 5, 3) := by decide +kernel
theorem dX8_tape_8 : decode cX8_tape 8 = .ok (.iconst (-1), 1) := by decide +kernel
theorem dX8_tape_9 : decode cX8_tape 9 = .ok (.ireturn, 1) := by decide +kernel
theorem dX8_tape_10 : decode cX8_tape 10 = .ok (.aload_n 0, 1) := by decide +kernel
theorem dX8_tape_11 : decode cX8_tape 11 = .ok (.iload_n 2, 1) := by decide +kernel
theorem dX8_tape_12 : decode cX8_tape 12 = .ok (.iconst (-1), 1) := by decide +kernel
theorem dX8_tape_13 : decode cX8_tape 13 = .ok (.iconst 4, 1) := by decide +kernel
theorem dX8_tape_14 : decode cX8_tape 14 = .ok (.invokevirtual 249, 3) := by decide +kernel
theorem dX8_tape_17 : decode cX8_tape 17 = .ok (.ifCond .eq 13, 3) := by decide +kernel
theorem dX8_tape_20 : decode cX8_tape 20 = .ok (.iload_n 2, 1) := by decide +kernel
theorem dX8_tape_21 : decode cX8_tape 21 = .ok (.ifCond .lt 12, 3) := by decide +kernel
theorem dX8_tape_24 : decode cX8_tape 24 = .ok (.iload_n 3, 1) := by decide +kernel
theorem dX8_tape_25 : decode cX8_tape 25 = .ok (.bipush 60, 2) := by decide +kernel
theorem dX8_tape_27 : decode cX8_tape 27 = .ok (.if_icmp .le 6, 3) := by decide +kernel
theorem dX8_tape_30 : decode cX8_tape 30 = .ok (.bipush (-2), 2) := by decide +kernel
theorem dX8_tape_32 : decode cX8_tape 32 = .ok (.ireturn, 1) := by decide +kernel
theorem dX8_tape_33 : decode cX8_tape 33 = .ok (.iload_n 2, 1) := by decide +kernel
theorem dX8_tape_34 : decode cX8_tape 34 = .ok (.ifCond .lt 10, 3) := by decide +kernel
theorem dX8_tape_37 : decode cX8_tape 37 = .ok (.iload_n 3, 1) := by decide +kernel
theorem dX8_tape_38 : decode cX8_tape 38 = .ok (.ifCond .ge 6, 3) := by decide +kernel
theorem dX8_tape_41 : decode cX8_tape 41 = .ok (.bipush (-14), 2) := by decide +kernel
theorem dX8_tape_43 : decode cX8_tape 43 = .ok (.ireturn, 1) := by decide +kernel
theorem dX8_tape_44 : decode cX8_tape 44 = .ok (.aload_n 0, 1) := by decide +kernel
theorem dX8_tape_45 : decode cX8_tape 45 = .ok (.getfield 232, 3) := by decide +kernel
theorem dX8_tape_48 : decode cX8_tape 48 = .ok (.iload_n 1, 1) := by decide +kernel
theorem dX8_tape_49 : decode cX8_tape 49 = .ok (.iload_n 2, 1) := by decide +kernel
theorem dX8_tape_50 : decode cX8_tape 50 = .ok (.iastore, 1) := by decide +kernel
theorem dX8_tape_51 : decode cX8_tape 51 = .ok (.aload_n 0, 1) := by decide +kernel
theorem dX8_tape_52 : decode cX8_tape 52 = .ok (.getfield 235, 3) := by decide +kernel
theorem dX8_tape_55 : decode cX8_tape 55 = .ok (.iload_n 1, 1) := by decide +kernel
theorem dX8_tape_56 : decode cX8_tape 56 = .ok (.iload_n 2, 1) := by decide +kernel
theorem dX8_tape_57 : decode cX8_tape 57 = .ok (.ifCond .ge 7, 3) := by decide +kernel
theorem dX8_tape_60 : decode cX8_tape 60 = .ok (.iconst 0, 1) := by decide +kernel
theorem dX8_tape_61 : decode cX8_tape 61 = .ok (.goto 4, 3) := by decide +kernel
theorem dX8_tape_64 : decode cX8_tape 64 = .ok (.iload_n 3, 1) := by decide +kernel
theorem dX8_tape_65 : decode cX8_tape 65 = .ok (.iastore, 1) := by decide +kernel
theorem dX8_tape_66 : decode cX8_tape 66 = .ok (.iconst 0, 1) := by decide +kernel
theorem dX8_tape_67 : decode cX8_tape 67 = .ok (.istore 4, 2) := by decide +kernel
theorem dX8_tape_69 : decode cX8_tape 69 = .ok (.iload 4, 2) := by decide +kernel
theorem dX8_tape_71 : decode cX8_tape 71 = .ok (.bipush 60, 2) := by decide +kernel
theorem dX8_tape_73 : decode cX8_tape 73 = .ok (.if_icmp .ge 22, 3) := by decide +kernel
theorem dX8_tape_76 : decode cX8_tape 76 = .ok (.aload_n 0, 1) := by decide +kernel
theorem dX8_tape_77 : decode cX8_tape 77 = .ok (.getfield 238, 3) := by decide +kernel
theorem dX8_tape_80 : decode cX8_tape 80 = .ok (.bipush 60, 2) := by decide +kernel
theorem dX8_tape_82 : decode cX8_tape 82 = .ok (.iload_n 1, 1) := by decide +kernel
theorem dX8_tape_83 : decode cX8_tape 83 = .ok (.imul, 1) := by decide +kernel
theorem dX8_tape_84 : decode cX8_tape 84 = .ok (.iload 4, 2) := by decide +kernel
theorem dX8_tape_86 : decode cX8_tape 86 = .ok (.iadd, 1) := by decide +kernel
theorem dX8_tape_87 : decode cX8_tape 87 = .ok (.lconst 0, 1) := by decide +kernel
theorem dX8_tape_88 : decode cX8_tape 88 = .ok (.lastore, 1) := by decide +kernel
theorem dX8_tape_89 : decode cX8_tape 89 = .ok (.iinc 4 1, 3) := by decide +kernel
theorem dX8_tape_92 : decode cX8_tape 92 = .ok (.goto (-23), 3) := by decide +kernel
theorem dX8_tape_95 : decode cX8_tape 95 = .ok (.iconst 1, 1) := by decide +kernel
theorem dX8_tape_96 : decode cX8_tape 96 = .ok (.ireturn, 1) := by decide +kernel
def f_X8_tape_L69 (p1 : Int32) (x4_10 : Int32) (u10 : Mem) : Option ((Int32 × Mem) ⊕ (Int32 × Mem)) := (if (60 : Int32) ≤ x4_10 then some (Sum.inr ((1 : Int32), u10)) else gin (((60 : Int32) * p1) + x4_10) 360 (some (Sum.inl (x4_10 + (1 : Int32), sL u10 127 (((60 : Int32) * p1) + x4_10).toNatClampNeg (0 : Int64)))))
def f_X8_tape_L69 (p1 : Int32) (x4_14 : Int32) (u14 : Mem) : Option ((Int32 × Mem) ⊕ (Int32 × Mem)) := (if (60 : Int32) ≤ x4_14 then some (Sum.inr ((1 : Int32), u14)) else gin (((60 : Int32) * p1) + x4_14) 360 (some (Sum.inl (x4_14 + (1 : Int32), sL u14 127 (((60 : Int32) * p1) + x4_14).toNatClampNeg (0 : Int64)))))
def f_X8_tape_L69 (p1 : Int32) (x4_21 : Int32) (u21 : Mem) : Option ((Int32 × Mem) ⊕ (Int32 × Mem)) := (if (60 : Int32) ≤ x4_21 then some (Sum.inr ((1 : Int32), u21)) else gin (((60 : Int32) * p1) + x4_21) 360 (some (Sum.inl (x4_21 + (1 : Int32), sL u21 127 (((60 : Int32) * p1) + x4_21).toNatClampNeg (0 : Int64)))))
def f_X8_tape_L69 (p1 : Int32) (x4_25 : Int32) (u25 : Mem) : Option ((Int32 × Mem) ⊕ (Int32 × Mem)) := (if (60 : Int32) ≤ x4_25 then some (Sum.inr ((1 : Int32), u25)) else gin (((60 : Int32) * p1) + x4_25) 360 (some (Sum.inl (x4_25 + (1 : Int32), sL u25 127 (((60 : Int32) * p1) + x4_25).toNatClampNeg (0 : Int64)))))
def f_X8_tape_L69 (p1 : Int32) (x4_33 : Int32) (u33 : Mem) : Option ((Int32 × Mem) ⊕ (Int32 × Mem)) := (if (60 : Int32) ≤ x4_33 then some (Sum.inr ((1 : Int32), u33)) else gin (((60 : Int32) * p1) + x4_33) 360 (some (Sum.inl (x4_33 + (1 : Int32), sL u33 127 (((60 : Int32) * p1) + x4_33).toNatClampNeg (0 : Int64)))))
def f_X8_tape_L69 (p1 : Int32) (x4_37 : Int32) (u37 : Mem) : Option ((Int32 × Mem) ⊕ (Int32 × Mem)) := (if (60 : Int32) ≤ x4_37 then some (Sum.inr ((1 : Int32), u37)) else gin (((60 : Int32) * p1) + x4_37) 360 (some (Sum.inl (x4_37 + (1 : Int32), sL u37 127 (((60 : Int32) * p1) + x4_37).toNatClampNeg (0 : Int64)))))
def f_X8_tape_L69 (p1 : Int32) (x4_44 : Int32) (u44 : Mem) : Option ((Int32 × Mem) ⊕ (Int32 × Mem)) := (if (60 : Int32) ≤ x4_44 then some (Sum.inr ((1 : Int32), u44)) else gin (((60 : Int32) * p1) + x4_44) 360 (some (Sum.inl (x4_44 + (1 : Int32), sL u44 127 (((60 : Int32) * p1) + x4_44).toNatClampNeg (0 : Int64)))))
def f_X8_tape_L69 (p1 : Int32) (x4_48 : Int32) (u48 : Mem) : Option ((Int32 × Mem) ⊕ (Int32 × Mem)) := (if (60 : Int32) ≤ x4_48 then some (Sum.inr ((1 : Int32), u48)) else gin (((60 : Int32) * p1) + x4_48) 360 (some (Sum.inl (x4_48 + (1 : Int32), sL u48 127 (((60 : Int32) * p1) + x4_48).toNatClampNeg (0 : Int64)))))
def f_X8_tape (p1 : Int32) (p2 : Int32) (p3 : Int32) (u : Mem) : Option (Int32 × Mem) := Option.bind (f_X8_isTape p1) (fun r1 => (if r1 = 0 then some ((-1 : Int32), u) else Option.bind (f_X8_in p2 (-1 : Int32) (4 : Int32)) (fun r3 => (if r3 = 0 then some ((-2 : Int32), u) else (if p2 < 0 then (if p2 < 0 then gin p1 6 ((if 0 ≤ p2 then gin p1 6 (whileO (fun s => f_X8_tape_L69 p1 s.1 s.2) FUEL ((0 : Int32), sA (sA u 125 p1.toNatClampNeg p2) 126 p1.toNatClampNeg p3)) else gin p1 6 (whileO (fun s => f_X8_tape_L69 p1 s.1 s.2) FUEL ((0 : Int32), sA (sA u 125 p1.toNatClampNeg p2) 126 p1.toNatClampNeg (0 : Int32))))) else (if 0 ≤ p3 then gin p1 6 ((if 0 ≤ p2 then gin p1 6 (whileO (fun s => f_X8_tape_L69 p1 s.1 s.2) FUEL ((0 : Int32), sA (sA u 125 p1.toNatClampNeg p2) 126 p1.toNatClampNeg p3)) else gin p1 6 (whileO (fun s => f_X8_tape_L69 p1 s.1 s.2) FUEL ((0 : Int32), sA (sA u 125 p1.toNatClampNeg p2) 126 p1.toNatClampNeg (0 : Int32))))) else some ((-14 : Int32), u))) else (if p3 ≤ (60 : Int32) then (if p2 < 0 then gin p1 6 ((if 0 ≤ p2 then gin p1 6 (whileO (fun s => f_X8_tape_L69 p1 s.1 s.2) FUEL ((0 : Int32), sA (sA u 125 p1.toNatClampNeg p2) 126 p1.toNatClampNeg p3)) else gin p1 6 (whileO (fun s => f_X8_tape_L69 p1 s.1 s.2) FUEL ((0 : Int32), sA (sA u 125 p1.toNatClampNeg p2) 126 p1.toNatClampNeg (0 : Int32))))) else (if 0 ≤ p3 then gin p1 6 ((if 0 ≤ p2 then gin p1 6 (whileO (fun s => f_X8_tape_L69 p1 s.1 s.2) FUEL ((0 : Int32), sA (sA u 125 p1.toNatClampNeg p2) 126 p1.toNatClampNeg p3)) else gin p1 6 (whileO (fun s => f_X8_tape_L69 p1 s.1 s.2) FUEL ((0 : Int32), sA (sA u 125 p1.toNatClampNeg p2) 126 p1.toNatClampNeg (0 : Int32))))) else some ((-14 : Int32), u))) else some ((-2 : Int32), u)))))))
set_option maxHeartbeats 4000000 in
set_option maxRecDepth 100000 in
theorem k_X8_tape (l : Launch) (D : gDt) (base : Nat) (Z : gZt) (u : Mem) (p1 : Int32) (p2 : Int32) (p3 : Int32) (r : Int32) (u' : Mem) (hf : f_X8_tape p1 p2 p3 u = some (r, u')) : Met l yX8_tape (gws yX8_tape cX8_tape 5 (some .int)) (gRm 3 0 0) (gPc D base Z u [.ref (base + 82), .int p1, .int p2, .int p3]) (gQi D base r u') 0 0 (gF base) := by
  refine Met.ofW (cc := cX8_tape) (maxL := 5) (ret := some .int) (by decide) rfl ?_
  intro p e s m args below meth c s₁ B hml hv
  obtain ⟨rfl, C0, hG⟩ := g_enter B hml hv
  have hr := B.returns
  have C0 : gC p s m meth c _ cX8_tape 5 RX8 D base Z := C0
  have hx := C0.1
  have hb := C0.2.1
  have hl := lv_entry ([.ref (base + 82), .int p1, .int p2, .int p3]) (n := 5) (Nat.le_of_ble_eq_true rfl)
  rw [lg_entry_eq]
  generalize (lg_sl ([.ref (base + 82), .int p1, .int p2, .int p3]) ++ List.replicate (5 - (lg_sl ([.ref (base + 82), .int p1, .int p2, .int p3])).length) Slot.unset).toArray = ls at hl ⊢
  have hl : lv_has ls 5 [(0, .ref (base + 82)), (1, .int p1), (2, .int p2), (3, .int p3)] := hl
  obtain ⟨Q, hQ⟩ : ∃ Q, Q = MQ below (gQi D base r u') ([.ref (base + 82), .int p1, .int p2, .int p3] : List Value).toArray s 0 0 (gF base) := ⟨_, rfl⟩
  rw [← hQ]
  change W p l e (gRm 3 0 0) s m _ below meth c _ _ _ _ _ _
  unfold f_X8_tape at hf
  refine lv_aload_n hx hb dX8_tape_0 rfl (lv_at hl 0 rfl) ?_
  refine lv_iload_n hx hb dX8_tape_1 rfl (lv_at hl 1 rfl) ?_
  obtain ⟨r1, hc1, hf⟩ := pb_s hf
  refine g_doI0 hG (g_runV C0 hG (k_X8_isTape l D base Z u p1 r1 hc1) m_X8_isTape v_X8_isTape w_1372 (by decide) (g_recv C0 hG (L82 hG) rfl) rfl hl.1 rfl (Nat.le_of_ble_eq_true rfl) dX8_tape_2 ⟨Nat.zero_le _, Nat.zero_le _⟩) (fun H locs hG hk => ?_)
  refine lv_if_ne (tgt := 10) hx hb dX8_tape_5 (by decide) (fun c2 => ?_) (fun c2 => ?_)
  · have hf := gif_f c2 hf
    refine lv_aload_n hx hb dX8_tape_10 rfl (lv_at hl 0 rfl) ?_
    refine lv_iload_n hx hb dX8_tape_11 rfl (lv_at hl 2 rfl) ?_
    refine lv_iconst (v := (-1 : Int32)) hx hb dX8_tape_12 (by decide) ?_
    refine lv_iconst (v := (4 : Int32)) hx hb dX8_tape_13 (by decide) ?_
    obtain ⟨r3, hc3, hf⟩ := pb_s hf
    refine g_doI0 hG (g_runV C0 hG (k_X8_in l D base Z u p2 (-1 : Int32) (4 : Int32) r3 hc3) m_X8_in v_X8_in w_1082 (by decide) (g_recv C0 hG (L82 hG) rfl) rfl hl.1 rfl (Nat.le_of_ble_eq_true rfl) dX8_tape_14 ⟨Nat.zero_le _, Nat.zero_le _⟩) (fun H locs hG hk => ?_)
    refine lv_if_eq (tgt := 30) hx hb dX8_tape_17 (by decide) (fun c4 => ?_) (fun c4 => ?_)
    · have hf := gif_t c4 hf
      refine lv_bipush (v := (-2 : Int32)) hx hb dX8_tape_30 (by decide) ?_
      obtain ⟨hr1, hu⟩ := gret_s hf
      subst hr1
      subst hu
      subst hQ
      exact g_iret C0 hG hr dX8_tape_32
    · have hf := gif_f c4 hf
      refine lv_iload_n hx hb dX8_tape_20 rfl (lv_at hl 2 rfl) ?_
      refine lv_if_lt (tgt := 33) hx hb dX8_tape_21 (by decide) (fun c5 => ?_) (fun c5 => ?_)
      · have hf := gif_t c5 hf
        refine lv_iload_n hx hb dX8_tape_33 rfl (lv_at hl 2 rfl) ?_
        refine lv_if_lt (tgt := 44) hx hb dX8_tape_34 (by decide) (fun c6 => ?_) (fun c6 => ?_)
        · have hf := gif_t c6 hf
          refine lv_aload_n hx hb dX8_tape_44 rfl (lv_at hl 0 rfl) ?_
          refine g_getSa (o := 43) (a := 125) C0 hG (L82 hG) rfl 73 (by decide) rfl rfl w_919 dX8_tape_45 ?_
          refine lv_iload_n hx hb dX8_tape_48 rfl (lv_at hl 1 rfl) ?_
          refine lv_iload_n hx hb dX8_tape_49 rfl (lv_at hl 2 rfl) ?_
          obtain ⟨h7, hf⟩ := gin_s hf
          refine g_iast C0 hG (L125 hG) h7 dX8_tape_50 (fun H locs hG => ?_)
          refine lv_aload_n hx hb dX8_tape_51 rfl (lv_at hl 0 rfl) ?_
          refine g_getSa (o := 44) (a := 126) C0 hG (L82 hG) rfl 74 (by decide) rfl rfl w_920 dX8_tape_52 ?_
          refine lv_iload_n hx hb dX8_tape_55 rfl (lv_at hl 1 rfl) ?_
          refine lv_iload_n hx hb dX8_tape_56 rfl (lv_at hl 2 rfl) ?_
          refine lv_if_ge (tgt := 64) hx hb dX8_tape_57 (by decide) (fun c8 => ?_) (fun c8 => ?_)
          · have hf := gif_t c8 hf
            refine lv_iload_n hx hb dX8_tape_64 rfl (lv_at hl 3 rfl) ?_
            obtain ⟨h9, hf⟩ := gin_s hf
            refine g_iast C0 hG (L126 hG) h9 dX8_tape_65 (fun H locs hG => ?_)
            refine lv_iconst (v := (0 : Int32)) hx hb dX8_tape_66 (by decide) ?_
            refine lv_istore (lv' := [(4, .int (0 : Int32)), (0, .ref (base + 82)), (1, .int p1), (2, .int p2), (3, .int p3)]) hx hb dX8_tape_67 hl (by decide) rfl (fun ls hl => ?_)
            have loop10 : ∀ (n10 : Nat) (x4_10 : Int32) (u10 : Mem) (H : Heap) (locs : List Loc) (ls : Array Slot), gH D base s u10 H locs → lv_has ls 5 [(0, .ref (base + 82)), (1, .int p1), (4, .int x4_10)] → whileO (fun s => f_X8_tape_L69 p1 s.1 s.2) n10 (x4_10, u10) = some (r, u') → W p l e (gRm 3 0 0) s m ([.ref (base + 82), .int p1, .int p2, .int p3] : List Value).toArray below meth c H locs 0 0 Q (F0 m 69 ls []) := by
              intro n10
              induction n10 with
              | zero => intro x4_10 u10 H locs ls hG hl hf; cases hf
              | succ n10 ih10 =>
                intro x4_10 u10 H locs ls hG hl hf
                obtain ⟨X10, hf, hX10⟩ := while_s hf
                have hf : f_X8_tape_L69 p1 x4_10 u10 = some X10 := hf
                unfold f_X8_tape_L69 at hf
                refine lv_iload hx hb dX8_tape_69 (lv_at hl 2 rfl) ?_
                refine lv_bipush (v := (60 : Int32)) hx hb dX8_tape_71 (by decide) ?_
                refine lv_icmp_ge (tgt := 95) hx hb dX8_tape_73 (by decide) (fun c11 => ?_) (fun c11 => ?_)
                · have hf := gif_t c11 hf
                  refine lv_iconst (v := (1 : Int32)) hx hb dX8_tape_95 (by decide) ?_
                  have hf := while_r hX10 hf
                  obtain ⟨hr1, hu⟩ := gret_s hf
                  subst hr1
                  subst hu
                  subst hQ
                  exact g_iret C0 hG hr dX8_tape_96
                · have hf := gif_f c11 hf
                  refine lv_aload_n hx hb dX8_tape_76 rfl (lv_at hl 0 rfl) ?_
                  refine g_getSa (o := 45) (a := 127) C0 hG (L82 hG) rfl 75 (by decide) rfl rfl w_921 dX8_tape_77 ?_
                  refine lv_bipush (v := (60 : Int32)) hx hb dX8_tape_80 (by decide) ?_
                  refine lv_iload_n hx hb dX8_tape_82 rfl (lv_at hl 1 rfl) ?_
                  refine lv_imul hx hb dX8_tape_83 ?_
                  refine lv_iload hx hb dX8_tape_84 (lv_at hl 2 rfl) ?_
                  refine lv_iadd hx hb dX8_tape_86 ?_
                  refine lv_lconst (v := (0 : Int64)) hx hb dX8_tape_87 rfl ?_
                  obtain ⟨h12, hf⟩ := gin_s hf
                  refine g_last C0 hG (L127 hG) h12 dX8_tape_88 (fun H locs hG => ?_)
                  refine lv_iinc (v := x4_10 + (1 : Int32)) (lv' := [(4, .int (x4_10 + (1 : Int32))), (0, .ref (base + 82)), (1, .int p1)]) hx hb dX8_tape_89 hl (k := 2) rfl rfl (by decide) rfl (fun ls hl => ?_)
                  refine lv_goto (tgt := 69) hx hb dX8_tape_92 (by decide) ?_
                  have hf := while_l hX10 hf
                  exact ih10 (x4_10 + (1 : Int32)) (sL u10 127 (((60 : Int32) * p1) + x4_10).toNatClampNeg (0 : Int64)) _ _ ls hG (lv_sub hl [1, 2, 0] rfl) hf
            exact loop10 FUEL (0 : Int32) (sA (sA u 125 p1.toNatClampNeg p2) 126 p1.toNatClampNeg p3) _ _ ls hG (lv_sub hl [1, 2, 0] rfl) hf
          · have hf := gif_f c8 hf
            refine lv_iconst (v := (0 : Int32)) hx hb dX8_tape_60 (by decide) ?_
            refine lv_goto (tgt := 65) hx hb dX8_tape_61 (by decide) ?_
            obtain ⟨h13, hf⟩ := gin_s hf
            refine g_iast C0 hG (L126 hG) h13 dX8_tape_65 (fun H locs hG => ?_)
            refine lv_iconst (v := (0 : Int32)) hx hb dX8_tape_66 (by decide) ?_
            refine lv_istore (lv' := [(4, .int (0 : Int32)), (0, .ref (base + 82)), (1, .int p1), (2, .int p2), (3, .int p3)]) hx hb dX8_tape_67 hl (by decide) rfl (fun ls hl => ?_)
            have loop14 : ∀ (n14 : Nat) (x4_14 : Int32) (u14 : Mem) (H : Heap) (locs : List Loc) (ls : Array Slot), gH D base s u14 H locs → lv_has ls 5 [(0, .ref (base + 82)), (1, .int p1), (4, .int x4_14)] → whileO (fun s => f_X8_tape_L69 p1 s.1 s.2) n14 (x4_14, u14) = some (r, u') → W p l e (gRm 3 0 0) s m ([.ref (base + 82), .int p1, .int p2, .int p3] : List Value).toArray below meth c H locs 0 0 Q (F0 m 69 ls []) := by
              intro n14
              induction n14 with
              | zero => intro x4_14 u14 H locs ls hG hl hf; cases hf
              | succ n14 ih14 =>
                intro x4_14 u14 H locs ls hG hl hf
                obtain ⟨X14, hf, hX14⟩ := while_s hf
                have hf : f_X8_tape_L69 p1 x4_14 u14 = some X14 := hf
                unfold f_X8_tape_L69 at hf
                refine lv_iload hx hb dX8_tape_69 (lv_at hl 2 rfl) ?_
                refine lv_bipush (v := (60 : Int32)) hx hb dX8_tape_71 (by decide) ?_
                refine lv_icmp_ge (tgt := 95) hx hb dX8_tape_73 (by decide) (fun c15 => ?_) (fun c15 => ?_)
                · have hf := gif_t c15 hf
                  refine lv_iconst (v := (1 : Int32)) hx hb dX8_tape_95 (by decide) ?_
                  have hf := while_r hX14 hf
                  obtain ⟨hr1, hu⟩ := gret_s hf
                  subst hr1
                  subst hu
                  subst hQ
                  exact g_iret C0 hG hr dX8_tape_96
                · have hf := gif_f c15 hf
                  refine lv_aload_n hx hb dX8_tape_76 rfl (lv_at hl 0 rfl) ?_
                  refine g_getSa (o := 45) (a := 127) C0 hG (L82 hG) rfl 75 (by decide) rfl rfl w_921 dX8_tape_77 ?_
                  refine lv_bipush (v := (60 : Int32)) hx hb dX8_tape_80 (by decide) ?_
                  refine lv_iload_n hx hb dX8_tape_82 rfl (lv_at hl 1 rfl) ?_
                  refine lv_imul hx hb dX8_tape_83 ?_
                  refine lv_iload hx hb dX8_tape_84 (lv_at hl 2 rfl) ?_
                  refine lv_iadd hx hb dX8_tape_86 ?_
                  refine lv_lconst (v := (0 : Int64)) hx hb dX8_tape_87 rfl ?_
                  obtain ⟨h16, hf⟩ := gin_s hf
                  refine g_last C0 hG (L127 hG) h16 dX8_tape_88 (fun H locs hG => ?_)
                  refine lv_iinc (v := x4_14 + (1 : Int32)) (lv' := [(4, .int (x4_14 + (1 : Int32))), (0, .ref (base + 82)), (1, .int p1)]) hx hb dX8_tape_89 hl (k := 2) rfl rfl (by decide) rfl (fun ls hl => ?_)
                  refine lv_goto (tgt := 69) hx hb dX8_tape_92 (by decide) ?_
                  have hf := while_l hX14 hf
                  exact ih14 (x4_14 + (1 : Int32)) (sL u14 127 (((60 : Int32) * p1) + x4_14).toNatClampNeg (0 : Int64)) _ _ ls hG (lv_sub hl [1, 2, 0] rfl) hf
            exact loop14 FUEL (0 : Int32) (sA (sA u 125 p1.toNatClampNeg p2) 126 p1.toNatClampNeg (0 : Int32)) _ _ ls hG (lv_sub hl [1, 2, 0] rfl) hf
        · have hf := gif_f c6 hf
          refine lv_iload_n hx hb dX8_tape_37 rfl (lv_at hl 3 rfl) ?_
          refine lv_if_ge (tgt := 44) hx hb dX8_tape_38 (by decide) (fun c17 => ?_) (fun c17 => ?_)
          · have hf := gif_t c17 hf
            refine lv_aload_n hx hb dX8_tape_44 rfl (lv_at hl 0 rfl) ?_
            refine g_getSa (o := 43) (a := 125) C0 hG (L82 hG) rfl 73 (by decide) rfl rfl w_919 dX8_tape_45 ?_
            refine lv_iload_n hx hb dX8_tape_48 rfl (lv_at hl 1 rfl) ?_
            refine lv_iload_n hx hb dX8_tape_49 rfl (lv_at hl 2 rfl) ?_
            obtain ⟨h18, hf⟩ := gin_s hf
            refine g_iast C0 hG (L125 hG) h18 dX8_tape_50 (fun H locs hG => ?_)
            refine lv_aload_n hx hb dX8_tape_51 rfl (lv_at hl 0 rfl) ?_
            refine g_getSa (o := 44) (a := 126) C0 hG (L82 hG) rfl 74 (by decide) rfl rfl w_920 dX8_tape_52 ?_
            refine lv_iload_n hx hb dX8_tape_55 rfl (lv_at hl 1 rfl) ?_
            refine lv_iload_n hx hb dX8_tape_56 rfl (lv_at hl 2 rfl) ?_
            refine lv_if_ge (tgt := 64) hx hb dX8_tape_57 (by decide) (fun c19 => ?_) (fun c19 => ?_)
            · have hf := gif_t c19 hf
              refine lv_iload_n hx hb dX8_tape_64 rfl (lv_at hl 3 rfl) ?_
              obtain ⟨h20, hf⟩ := gin_s hf
              refine g_iast C0 hG (L126 hG) h20 dX8_tape_65 (fun H locs hG => ?_)
              refine lv_iconst (v := (0 : Int32)) hx hb dX8_tape_66 (by decide) ?_
              refine lv_istore (lv' := [(4, .int (0 : Int32)), (0, .ref (base + 82)), (1, .int p1), (2, .int p2), (3, .int p3)]) hx hb dX8_tape_67 hl (by decide) rfl (fun ls hl => ?_)
              have loop21 : ∀ (n21 : Nat) (x4_21 : Int32) (u21 : Mem) (H : Heap) (locs : List Loc) (ls : Array Slot), gH D base s u21 H locs → lv_has ls 5 [(0, .ref (base + 82)), (1, .int p1), (4, .int x4_21)] → whileO (fun s => f_X8_tape_L69 p1 s.1 s.2) n21 (x4_21, u21) = some (r, u') → W p l e (gRm 3 0 0) s m ([.ref (base + 82), .int p1, .int p2, .int p3] : List Value).toArray below meth c H locs 0 0 Q (F0 m 69 ls []) := by
                intro n21
                induction n21 with
                | zero => intro x4_21 u21 H locs ls hG hl hf; cases hf
                | succ n21 ih21 =>
                  intro x4_21 u21 H locs ls hG hl hf
                  obtain ⟨X21, hf, hX21⟩ := while_s hf
                  have hf : f_X8_tape_L69 p1 x4_21 u21 = some X21 := hf
                  unfold f_X8_tape_L69 at hf
                  refine lv_iload hx hb dX8_tape_69 (lv_at hl 2 rfl) ?_
                  refine lv_bipush (v := (60 : Int32)) hx hb dX8_tape_71 (by decide) ?_
                  refine lv_icmp_ge (tgt := 95) hx hb dX8_tape_73 (by decide) (fun c22 => ?_) (fun c22 => ?_)
                  · have hf := gif_t c22 hf
                    refine lv_iconst (v := (1 : Int32)) hx hb dX8_tape_95 (by decide) ?_
                    have hf := while_r hX21 hf
                    obtain ⟨hr1, hu⟩ := gret_s hf
                    subst hr1
                    subst hu
                    subst hQ
                    exact g_iret C0 hG hr dX8_tape_96
                  · have hf := gif_f c22 hf
                    refine lv_aload_n hx hb dX8_tape_76 rfl (lv_at hl 0 rfl) ?_
                    refine g_getSa (o := 45) (a := 127) C0 hG (L82 hG) rfl 75 (by decide) rfl rfl w_921 dX8_tape_77 ?_
                    refine lv_bipush (v := (60 : Int32)) hx hb dX8_tape_80 (by decide) ?_
                    refine lv_iload_n hx hb dX8_tape_82 rfl (lv_at hl 1 rfl) ?_
                    refine lv_imul hx hb dX8_tape_83 ?_
                    refine lv_iload hx hb dX8_tape_84 (lv_at hl 2 rfl) ?_
                    refine lv_iadd hx hb dX8_tape_86 ?_
                    refine lv_lconst (v := (0 : Int64)) hx hb dX8_tape_87 rfl ?_
                    obtain ⟨h23, hf⟩ := gin_s hf
                    refine g_last C0 hG (L127 hG) h23 dX8_tape_88 (fun H locs hG => ?_)
                    refine lv_iinc (v := x4_21 + (1 : Int32)) (lv' := [(4, .int (x4_21 + (1 : Int32))), (0, .ref (base + 82)), (1, .int p1)]) hx hb dX8_tape_89 hl (k := 2) rfl rfl (by decide) rfl (fun ls hl => ?_)
                    refine lv_goto (tgt := 69) hx hb dX8_tape_92 (by decide) ?_
                    have hf := while_l hX21 hf
                    exact ih21 (x4_21 + (1 : Int32)) (sL u21 127 (((60 : Int32) * p1) + x4_21).toNatClampNeg (0 : Int64)) _ _ ls hG (lv_sub hl [1, 2, 0] rfl) hf
              exact loop21 FUEL (0 : Int32) (sA (sA u 125 p1.toNatClampNeg p2) 126 p1.toNatClampNeg p3) _ _ ls hG (lv_sub hl [1, 2, 0] rfl) hf
            · have hf := gif_f c19 hf
              refine lv_iconst (v := (0 : Int32)) hx hb dX8_tape_60 (by decide) ?_
              refine lv_goto (tgt := 65) hx hb dX8_tape_61 (by decide) ?_
              obtain ⟨h24, hf⟩ := gin_s hf
              refine g_iast C0 hG (L126 hG) h24 dX8_tape_65 (fun H locs hG => ?_)
              refine lv_iconst (v := (0 : Int32)) hx hb dX8_tape_66 (by decide) ?_
              refine lv_istore (lv' := [(4, .int (0 : Int32)), (0, .ref (base + 82)), (1, .int p1), (2, .int p2), (3, .int p3)]) hx hb dX8_tape_67 hl (by decide) rfl (fun ls hl => ?_)
              have loop25 : ∀ (n25 : Nat) (x4_25 : Int32) (u25 : Mem) (H : Heap) (locs : List Loc) (ls : Array Slot), gH D base s u25 H locs → lv_has ls 5 [(0, .ref (base + 82)), (1, .int p1), (4, .int x4_25)] → whileO (fun s => f_X8_tape_L69 p1 s.1 s.2) n25 (x4_25, u25) = some (r, u') → W p l e (gRm 3 0 0) s m ([.ref (base + 82), .int p1, .int p2, .int p3] : List Value).toArray below meth c H locs 0 0 Q (F0 m 69 ls []) := by
                intro n25
                induction n25 with
                | zero => intro x4_25 u25 H locs ls hG hl hf; cases hf
                | succ n25 ih25 =>
                  intro x4_25 u25 H locs ls hG hl hf
                  obtain ⟨X25, hf, hX25⟩ := while_s hf
                  have hf : f_X8_tape_L69 p1 x4_25 u25 = some X25 := hf
                  unfold f_X8_tape_L69 at hf
                  refine lv_iload hx hb dX8_tape_69 (lv_at hl 2 rfl) ?_
                  refine lv_bipush (v := (60 : Int32)) hx hb dX8_tape_71 (by decide) ?_
                  refine lv_icmp_ge (tgt := 95) hx hb dX8_tape_73 (by decide) (fun c26 => ?_) (fun c26 => ?_)
                  · have hf := gif_t c26 hf
                    refine lv_iconst (v := (1 : Int32)) hx hb dX8_tape_95 (by decide) ?_
                    have hf := while_r hX25 hf
                    obtain ⟨hr1, hu⟩ := gret_s hf
                    subst hr1
                    subst hu
                    subst hQ
                    exact g_iret C0 hG hr dX8_tape_96
                  · have hf := gif_f c26 hf
                    refine lv_aload_n hx hb dX8_tape_76 rfl (lv_at hl 0 rfl) ?_
                    refine g_getSa (o := 45) (a := 127) C0 hG (L82 hG) rfl 75 (by decide) rfl rfl w_921 dX8_tape_77 ?_
                    refine lv_bipush (v := (60 : Int32)) hx hb dX8_tape_80 (by decide) ?_
                    refine lv_iload_n hx hb dX8_tape_82 rfl (lv_at hl 1 rfl) ?_
                    refine lv_imul hx hb dX8_tape_83 ?_
                    refine lv_iload hx hb dX8_tape_84 (lv_at hl 2 rfl) ?_
                    refine lv_iadd hx hb dX8_tape_86 ?_
                    refine lv_lconst (v := (0 : Int64)) hx hb dX8_tape_87 rfl ?_
                    obtain ⟨h27, hf⟩ := gin_s hf
                    refine g_last C0 hG (L127 hG) h27 dX8_tape_88 (fun H locs hG => ?_)
                    refine lv_iinc (v := x4_25 + (1 : Int32)) (lv' := [(4, .int (x4_25 + (1 : Int32))), (0, .ref (base + 82)), (1, .int p1)]) hx hb dX8_tape_89 hl (k := 2) rfl rfl (by decide) rfl (fun ls hl => ?_)
                    refine lv_goto (tgt := 69) hx hb dX8_tape_92 (by decide) ?_
                    have hf := while_l hX25 hf
                    exact ih25 (x4_25 + (1 : Int32)) (sL u25 127 (((60 : Int32) * p1) + x4_25).toNatClampNeg (0 : Int64)) _ _ ls hG (lv_sub hl [1, 2, 0] rfl) hf
              exact loop25 FUEL (0 : Int32) (sA (sA u 125 p1.toNatClampNeg p2) 126 p1.toNatClampNeg (0 : Int32)) _ _ ls hG (lv_sub hl [1, 2, 0] rfl) hf
          · have hf := gif_f c17 hf
            refine lv_bipush (v := (-14 : Int32)) hx hb dX8_tape_41 (by decide) ?_
            obtain ⟨hr1, hu⟩ := gret_s hf
            subst hr1
            subst hu
            subst hQ
            exact g_iret C0 hG hr dX8_tape_43
      · have hf := gif_f c5 hf
        refine lv_iload_n hx hb dX8_tape_24 rfl (lv_at hl 3 rfl) ?_
        refine lv_bipush (v := (60 : Int32)) hx hb dX8_tape_25 (by decide) ?_
        refine lv_icmp_le (tgt := 33) hx hb dX8_tape_27 (by decide) (fun c28 => ?_) (fun c28 => ?_)
        · have hf := gif_t c28 hf
          refine lv_iload_n hx hb dX8_tape_33 rfl (lv_at hl 2 rfl) ?_
          refine lv_if_lt (tgt := 44) hx hb dX8_tape_34 (by decide) (fun c29 => ?_) (fun c29 => ?_)
          · have hf := gif_t c29 hf
            refine lv_aload_n hx hb dX8_tape_44 rfl (lv_at hl 0 rfl) ?_
            refine g_getSa (o := 43) (a := 125) C0 hG (L82 hG) rfl 73 (by decide) rfl rfl w_919 dX8_tape_45 ?_
            refine lv_iload_n hx hb dX8_tape_48 rfl (lv_at hl 1 rfl) ?_
            refine lv_iload_n hx hb dX8_tape_49 rfl (lv_at hl 2 rfl) ?_
            obtain ⟨h30, hf⟩ := gin_s hf
            refine g_iast C0 hG (L125 hG) h30 dX8_tape_50 (fun H locs hG => ?_)
            refine lv_aload_n hx hb dX8_tape_51 rfl (lv_at hl 0 rfl) ?_
            refine g_getSa (o := 44) (a := 126) C0 hG (L82 hG) rfl 74 (by decide) rfl rfl w_920 dX8_tape_52 ?_
            refine lv_iload_n hx hb dX8_tape_55 rfl (lv_at hl 1 rfl) ?_
            refine lv_iload_n hx hb dX8_tape_56 rfl (lv_at hl 2 rfl) ?_
            refine lv_if_ge (tgt := 64) hx hb dX8_tape_57 (by decide) (fun c31 => ?_) (fun c31 => ?_)
            · have hf := gif_t c31 hf
              refine lv_iload_n hx hb dX8_tape_64 rfl (lv_at hl 3 rfl) ?_
              obtain ⟨h32, hf⟩ := gin_s hf
              refine g_iast C0 hG (L126 hG) h32 dX8_tape_65 (fun H locs hG => ?_)
              refine lv_iconst (v := (0 : Int32)) hx hb dX8_tape_66 (by decide) ?_
              refine lv_istore (lv' := [(4, .int (0 : Int32)), (0, .ref (base + 82)), (1, .int p1), (2, .int p2), (3, .int p3)]) hx hb dX8_tape_67 hl (by decide) rfl (fun ls hl => ?_)
              have loop33 : ∀ (n33 : Nat) (x4_33 : Int32) (u33 : Mem) (H : Heap) (locs : List Loc) (ls : Array Slot), gH D base s u33 H locs → lv_has ls 5 [(0, .ref (base + 82)), (1, .int p1), (4, .int x4_33)] → whileO (fun s => f_X8_tape_L69 p1 s.1 s.2) n33 (x4_33, u33) = some (r, u') → W p l e (gRm 3 0 0) s m ([.ref (base + 82), .int p1, .int p2, .int p3] : List Value).toArray below meth c H locs 0 0 Q (F0 m 69 ls []) := by
                intro n33
                induction n33 with
                | zero => intro x4_33 u33 H locs ls hG hl hf; cases hf
                | succ n33 ih33 =>
                  intro x4_33 u33 H locs ls hG hl hf
                  obtain ⟨X33, hf, hX33⟩ := while_s hf
                  have hf : f_X8_tape_L69 p1 x4_33 u33 = some X33 := hf
                  unfold f_X8_tape_L69 at hf
                  refine lv_iload hx hb dX8_tape_69 (lv_at hl 2 rfl) ?_
                  refine lv_bipush (v := (60 : Int32)) hx hb dX8_tape_71 (by decide) ?_
                  refine lv_icmp_ge (tgt := 95) hx hb dX8_tape_73 (by decide) (fun c34 => ?_) (fun c34 => ?_)
                  · have hf := gif_t c34 hf
                    refine lv_iconst (v := (1 : Int32)) hx hb dX8_tape_95 (by decide) ?_
                    have hf := while_r hX33 hf
                    obtain ⟨hr1, hu⟩ := gret_s hf
                    subst hr1
                    subst hu
                    subst hQ
                    exact g_iret C0 hG hr dX8_tape_96
                  · have hf := gif_f c34 hf
                    refine lv_aload_n hx hb dX8_tape_76 rfl (lv_at hl 0 rfl) ?_
                    refine g_getSa (o := 45) (a := 127) C0 hG (L82 hG) rfl 75 (by decide) rfl rfl w_921 dX8_tape_77 ?_
                    refine lv_bipush (v := (60 : Int32)) hx hb dX8_tape_80 (by decide) ?_
                    refine lv_iload_n hx hb dX8_tape_82 rfl (lv_at hl 1 rfl) ?_
                    refine lv_imul hx hb dX8_tape_83 ?_
                    refine lv_iload hx hb dX8_tape_84 (lv_at hl 2 rfl) ?_
                    refine lv_iadd hx hb dX8_tape_86 ?_
                    refine lv_lconst (v := (0 : Int64)) hx hb dX8_tape_87 rfl ?_
                    obtain ⟨h35, hf⟩ := gin_s hf
                    refine g_last C0 hG (L127 hG) h35 dX8_tape_88 (fun H locs hG => ?_)
                    refine lv_iinc (v := x4_33 + (1 : Int32)) (lv' := [(4, .int (x4_33 + (1 : Int32))), (0, .ref (base + 82)), (1, .int p1)]) hx hb dX8_tape_89 hl (k := 2) rfl rfl (by decide) rfl (fun ls hl => ?_)
                    refine lv_goto (tgt := 69) hx hb dX8_tape_92 (by decide) ?_
                    have hf := while_l hX33 hf
                    exact ih33 (x4_33 + (1 : Int32)) (sL u33 127 (((60 : Int32) * p1) + x4_33).toNatClampNeg (0 : Int64)) _ _ ls hG (lv_sub hl [1, 2, 0] rfl) hf
              exact loop33 FUEL (0 : Int32) (sA (sA u 125 p1.toNatClampNeg p2) 126 p1.toNatClampNeg p3) _ _ ls hG (lv_sub hl [1, 2, 0] rfl) hf
            · have hf := gif_f c31 hf
              refine lv_iconst (v := (0 : Int32)) hx hb dX8_tape_60 (by decide) ?_
              refine lv_goto (tgt := 65) hx hb dX8_tape_61 (by decide) ?_
              obtain ⟨h36, hf⟩ := gin_s hf
              refine g_iast C0 hG (L126 hG) h36 dX8_tape_65 (fun H locs hG => ?_)
              refine lv_iconst (v := (0 : Int32)) hx hb dX8_tape_66 (by decide) ?_
              refine lv_istore (lv' := [(4, .int (0 : Int32)), (0, .ref (base + 82)), (1, .int p1), (2, .int p2), (3, .int p3)]) hx hb dX8_tape_67 hl (by decide) rfl (fun ls hl => ?_)
              have loop37 : ∀ (n37 : Nat) (x4_37 : Int32) (u37 : Mem) (H : Heap) (locs : List Loc) (ls : Array Slot), gH D base s u37 H locs → lv_has ls 5 [(0, .ref (base + 82)), (1, .int p1), (4, .int x4_37)] → whileO (fun s => f_X8_tape_L69 p1 s.1 s.2) n37 (x4_37, u37) = some (r, u') → W p l e (gRm 3 0 0) s m ([.ref (base + 82), .int p1, .int p2, .int p3] : List Value).toArray below meth c H locs 0 0 Q (F0 m 69 ls []) := by
                intro n37
                induction n37 with
                | zero => intro x4_37 u37 H locs ls hG hl hf; cases hf
                | succ n37 ih37 =>
                  intro x4_37 u37 H locs ls hG hl hf
                  obtain ⟨X37, hf, hX37⟩ := while_s hf
                  have hf : f_X8_tape_L69 p1 x4_37 u37 = some X37 := hf
                  unfold f_X8_tape_L69 at hf
                  refine lv_iload hx hb dX8_tape_69 (lv_at hl 2 rfl) ?_
                  refine lv_bipush (v := (60 : Int32)) hx hb dX8_tape_71 (by decide) ?_
                  refine lv_icmp_ge (tgt := 95) hx hb dX8_tape_73 (by decide) (fun c38 => ?_) (fun c38 => ?_)
                  · have hf := gif_t c38 hf
                    refine lv_iconst (v := (1 : Int32)) hx hb dX8_tape_95 (by decide) ?_
                    have hf := while_r hX37 hf
                    obtain ⟨hr1, hu⟩ := gret_s hf
                    subst hr1
                    subst hu
                    subst hQ
                    exact g_iret C0 hG hr dX8_tape_96
                  · have hf := gif_f c38 hf
                    refine lv_aload_n hx hb dX8_tape_76 rfl (lv_at hl 0 rfl) ?_
                    refine g_getSa (o := 45) (a := 127) C0 hG (L82 hG) rfl 75 (by decide) rfl rfl w_921 dX8_tape_77 ?_
                    refine lv_bipush (v := (60 : Int32)) hx hb dX8_tape_80 (by decide) ?_
                    refine lv_iload_n hx hb dX8_tape_82 rfl (lv_at hl 1 rfl) ?_
                    refine lv_imul hx hb dX8_tape_83 ?_
                    refine lv_iload hx hb dX8_tape_84 (lv_at hl 2 rfl) ?_
                    refine lv_iadd hx hb dX8_tape_86 ?_
                    refine lv_lconst (v := (0 : Int64)) hx hb dX8_tape_87 rfl ?_
                    obtain ⟨h39, hf⟩ := gin_s hf
                    refine g_last C0 hG (L127 hG) h39 dX8_tape_88 (fun H locs hG => ?_)
                    refine lv_iinc (v := x4_37 + (1 : Int32)) (lv' := [(4, .int (x4_37 + (1 : Int32))), (0, .ref (base + 82)), (1, .int p1)]) hx hb dX8_tape_89 hl (k := 2) rfl rfl (by decide) rfl (fun ls hl => ?_)
                    refine lv_goto (tgt := 69) hx hb dX8_tape_92 (by decide) ?_
                    have hf := while_l hX37 hf
                    exact ih37 (x4_37 + (1 : Int32)) (sL u37 127 (((60 : Int32) * p1) + x4_37).toNatClampNeg (0 : Int64)) _ _ ls hG (lv_sub hl [1, 2, 0] rfl) hf
              exact loop37 FUEL (0 : Int32) (sA (sA u 125 p1.toNatClampNeg p2) 126 p1.toNatClampNeg (0 : Int32)) _ _ ls hG (lv_sub hl [1, 2, 0] rfl) hf
          · have hf := gif_f c29 hf
            refine lv_iload_n hx hb dX8_tape_37 rfl (lv_at hl 3 rfl) ?_
            refine lv_if_ge (tgt := 44) hx hb dX8_tape_38 (by decide) (fun c40 => ?_) (fun c40 => ?_)
            · have hf := gif_t c40 hf
              refine lv_aload_n hx hb dX8_tape_44 rfl (lv_at hl 0 rfl) ?_
              refine g_getSa (o := 43) (a := 125) C0 hG (L82 hG) rfl 73 (by decide) rfl rfl w_919 dX8_tape_45 ?_
              refine lv_iload_n hx hb dX8_tape_48 rfl (lv_at hl 1 rfl) ?_
              refine lv_iload_n hx hb dX8_tape_49 rfl (lv_at hl 2 rfl) ?_
              obtain ⟨h41, hf⟩ := gin_s hf
              refine g_iast C0 hG (L125 hG) h41 dX8_tape_50 (fun H locs hG => ?_)
              refine lv_aload_n hx hb dX8_tape_51 rfl (lv_at hl 0 rfl) ?_
              refine g_getSa (o := 44) (a := 126) C0 hG (L82 hG) rfl 74 (by decide) rfl rfl w_920 dX8_tape_52 ?_
              refine lv_iload_n hx hb dX8_tape_55 rfl (lv_at hl 1 rfl) ?_
              refine lv_iload_n hx hb dX8_tape_56 rfl (lv_at hl 2 rfl) ?_
              refine lv_if_ge (tgt := 64) hx hb dX8_tape_57 (by decide) (fun c42 => ?_) (fun c42 => ?_)
              · have hf := gif_t c42 hf
                refine lv_iload_n hx hb dX8_tape_64 rfl (lv_at hl 3 rfl) ?_
                obtain ⟨h43, hf⟩ := gin_s hf
                refine g_iast C0 hG (L126 hG) h43 dX8_tape_65 (fun H locs hG => ?_)
                refine lv_iconst (v := (0 : Int32)) hx hb dX8_tape_66 (by decide) ?_
                refine lv_istore (lv' := [(4, .int (0 : Int32)), (0, .ref (base + 82)), (1, .int p1), (2, .int p2), (3, .int p3)]) hx hb dX8_tape_67 hl (by decide) rfl (fun ls hl => ?_)
                have loop44 : ∀ (n44 : Nat) (x4_44 : Int32) (u44 : Mem) (H : Heap) (locs : List Loc) (ls : Array Slot), gH D base s u44 H locs → lv_has ls 5 [(0, .ref (base + 82)), (1, .int p1), (4, .int x4_44)] → whileO (fun s => f_X8_tape_L69 p1 s.1 s.2) n44 (x4_44, u44) = some (r, u') → W p l e (gRm 3 0 0) s m ([.ref (base + 82), .int p1, .int p2, .int p3] : List Value).toArray below meth c H locs 0 0 Q (F0 m 69 ls []) := by
                  intro n44
                  induction n44 with
                  | zero => intro x4_44 u44 H locs ls hG hl hf; cases hf
                  | succ n44 ih44 =>
                    intro x4_44 u44 H locs ls hG hl hf
                    obtain ⟨X44, hf, hX44⟩ := while_s hf
                    have hf : f_X8_tape_L69 p1 x4_44 u44 = some X44 := hf
                    unfold f_X8_tape_L69 at hf
                    refine lv_iload hx hb dX8_tape_69 (lv_at hl 2 rfl) ?_
                    refine lv_bipush (v := (60 : Int32)) hx hb dX8_tape_71 (by decide) ?_
                    refine lv_icmp_ge (tgt := 95) hx hb dX8_tape_73 (by decide) (fun c45 => ?_) (fun c45 => ?_)
                    · have hf := gif_t c45 hf
                      refine lv_iconst (v := (1 : Int32)) hx hb dX8_tape_95 (by decide) ?_
                      have hf := while_r hX44 hf
                      obtain ⟨hr1, hu⟩ := gret_s hf
                      subst hr1
                      subst hu
                      subst hQ
                      exact g_iret C0 hG hr dX8_tape_96
                    · have hf := gif_f c45 hf
                      refine lv_aload_n hx hb dX8_tape_76 rfl (lv_at hl 0 rfl) ?_
                      refine g_getSa (o := 45) (a := 127) C0 hG (L82 hG) rfl 75 (by decide) rfl rfl w_921 dX8_tape_77 ?_
                      refine lv_bipush (v := (60 : Int32)) hx hb dX8_tape_80 (by decide) ?_
                      refine lv_iload_n hx hb dX8_tape_82 rfl (lv_at hl 1 rfl) ?_
                      refine lv_imul hx hb dX8_tape_83 ?_
                      refine lv_iload hx hb dX8_tape_84 (lv_at hl 2 rfl) ?_
                      refine lv_iadd hx hb dX8_tape_86 ?_
                      refine lv_lconst (v := (0 : Int64)) hx hb dX8_tape_87 rfl ?_
                      obtain ⟨h46, hf⟩ := gin_s hf
                      refine g_last C0 hG (L127 hG) h46 dX8_tape_88 (fun H locs hG => ?_)
                      refine lv_iinc (v := x4_44 + (1 : Int32)) (lv' := [(4, .int (x4_44 + (1 : Int32))), (0, .ref (base + 82)), (1, .int p1)]) hx hb dX8_tape_89 hl (k := 2) rfl rfl (by decide) rfl (fun ls hl => ?_)
                      refine lv_goto (tgt := 69) hx hb dX8_tape_92 (by decide) ?_
                      have hf := while_l hX44 hf
                      exact ih44 (x4_44 + (1 : Int32)) (sL u44 127 (((60 : Int32) * p1) + x4_44).toNatClampNeg (0 : Int64)) _ _ ls hG (lv_sub hl [1, 2, 0] rfl) hf
                exact loop44 FUEL (0 : Int32) (sA (sA u 125 p1.toNatClampNeg p2) 126 p1.toNatClampNeg p3) _ _ ls hG (lv_sub hl [1, 2, 0] rfl) hf
              · have hf := gif_f c42 hf
                refine lv_iconst (v := (0 : Int32)) hx hb dX8_tape_60 (by decide) ?_
                refine lv_goto (tgt := 65) hx hb dX8_tape_61 (by decide) ?_
                obtain ⟨h47, hf⟩ := gin_s hf
                refine g_iast C0 hG (L126 hG) h47 dX8_tape_65 (fun H locs hG => ?_)
                refine lv_iconst (v := (0 : Int32)) hx hb dX8_tape_66 (by decide) ?_
                refine lv_istore (lv' := [(4, .int (0 : Int32)), (0, .ref (base + 82)), (1, .int p1), (2, .int p2), (3, .int p3)]) hx hb dX8_tape_67 hl (by decide) rfl (fun ls hl => ?_)
                have loop48 : ∀ (n48 : Nat) (x4_48 : Int32) (u48 : Mem) (H : Heap) (locs : List Loc) (ls : Array Slot), gH D base s u48 H locs → lv_has ls 5 [(0, .ref (base + 82)), (1, .int p1), (4, .int x4_48)] → whileO (fun s => f_X8_tape_L69 p1 s.1 s.2) n48 (x4_48, u48) = some (r, u') → W p l e (gRm 3 0 0) s m ([.ref (base + 82), .int p1, .int p2, .int p3] : List Value).toArray below meth c H locs 0 0 Q (F0 m 69 ls []) := by
                  intro n48
                  induction n48 with
                  | zero => intro x4_48 u48 H locs ls hG hl hf; cases hf
                  | succ n48 ih48 =>
                    intro x4_48 u48 H locs ls hG hl hf
                    obtain ⟨X48, hf, hX48⟩ := while_s hf
                    have hf : f_X8_tape_L69 p1 x4_48 u48 = some X48 := hf
                    unfold f_X8_tape_L69 at hf
                    refine lv_iload hx hb dX8_tape_69 (lv_at hl 2 rfl) ?_
                    refine lv_bipush (v := (60 : Int32)) hx hb dX8_tape_71 (by decide) ?_
                    refine lv_icmp_ge (tgt := 95) hx hb dX8_tape_73 (by decide) (fun c49 => ?_) (fun c49 => ?_)
                    · have hf := gif_t c49 hf
                      refine lv_iconst (v := (1 : Int32)) hx hb dX8_tape_95 (by decide) ?_
                      have hf := while_r hX48 hf
                      obtain ⟨hr1, hu⟩ := gret_s hf
                      subst hr1
                      subst hu
                      subst hQ
                      exact g_iret C0 hG hr dX8_tape_96
                    · have hf := gif_f c49 hf
                      refine lv_aload_n hx hb dX8_tape_76 rfl (lv_at hl 0 rfl) ?_
                      refine g_getSa (o := 45) (a := 127) C0 hG (L82 hG) rfl 75 (by decide) rfl rfl w_921 dX8_tape_77 ?_
                      refine lv_bipush (v := (60 : Int32)) hx hb dX8_tape_80 (by decide) ?_
                      refine lv_iload_n hx hb dX8_tape_82 rfl (lv_at hl 1 rfl) ?_
                      refine lv_imul hx hb dX8_tape_83 ?_
                      refine lv_iload hx hb dX8_tape_84 (lv_at hl 2 rfl) ?_
                      refine lv_iadd hx hb dX8_tape_86 ?_
                      refine lv_lconst (v := (0 : Int64)) hx hb dX8_tape_87 rfl ?_
                      obtain ⟨h50, hf⟩ := gin_s hf
                      refine g_last C0 hG (L127 hG) h50 dX8_tape_88 (fun H locs hG => ?_)
                      refine lv_iinc (v := x4_48 + (1 : Int32)) (lv' := [(4, .int (x4_48 + (1 : Int32))), (0, .ref (base + 82)), (1, .int p1)]) hx hb dX8_tape_89 hl (k := 2) rfl rfl (by decide) rfl (fun ls hl => ?_)
                      refine lv_goto (tgt := 69) hx hb dX8_tape_92 (by decide) ?_
                      have hf := while_l hX48 hf
                      exact ih48 (x4_48 + (1 : Int32)) (sL u48 127 (((60 : Int32) * p1) + x4_48).toNatClampNeg (0 : Int64)) _ _ ls hG (lv_sub hl [1, 2, 0] rfl) hf
                exact loop48 FUEL (0 : Int32) (sA (sA u 125 p1.toNatClampNeg p2) 126 p1.toNatClampNeg (0 : Int32)) _ _ ls hG (lv_sub hl [1, 2, 0] rfl) hf
            · have hf := gif_f c40 hf
              refine lv_bipush (v := (-14 : Int32)) hx hb dX8_tape_41 (by decide) ?_
              obtain ⟨hr1, hu⟩ := gret_s hf
              subst hr1
              subst hu
              subst hQ
              exact g_iret C0 hG hr dX8_tape_43
        · have hf := gif_f c28 hf
          refine lv_bipush (v := (-2 : Int32)) hx hb dX8_tape_30 (by decide) ?_
          obtain ⟨hr1, hu⟩ := gret_s hf
          subst hr1
          subst hu
          subst hQ
          exact g_iret C0 hG hr dX8_tape_32
  · have hf := gif_t c2 hf
    refine lv_iconst (v := (-1 : Int32)) hx hb dX8_tape_8 (by decide) ?_
    obtain ⟨hr1, hu⟩ := gret_s hf
    subst hr1
    subst hu
    subst hQ
    exact g_iret C0 hG hr dX8_tape_9
theorem dX8_narrow_0 : decode cX8_narrow 0 = .ok (.iload_n 1, 1) := by decide +kernel
theorem dX8_narrow_1 : decode cX8_narrow 1 = .ok (.ifCond .ne 10, 3) := by decide +kernel
theorem dX8_narrow_4 : decode cX8_narrow 4 = .ok (.lload_n 2, 1) := by decide +kernel
theorem dX8_narrow_5 : decode cX8_narrow 5 = .ok (.l2i, 1) := by decide +kernel
theorem dX8_narrow_6 : decode cX8_narrow 6 = .ok (.i2b, 1) := by decide +kernel
theorem dX8_narrow_7 : decode cX8_narrow 7 = .ok (.i2l, 1) := by decide +kernel
theorem dX8_narrow_8 : decode cX8_narrow 8 = .ok (.goto 46, 3) := by decide +kernel
theorem dX8_narrow_11 : decode cX8_narrow 11 = .ok (.iload_n 1, 1) := by decide +kernel
theorem dX8_narrow_12 : decode cX8_narrow 12 = .ok (.iconst 1, 1) := by decide +kernel
theorem dX8_narrow_13 : decode cX8_narrow 13 = .ok (.if_icmp .ne 10, 3) := by decide +kernel
theorem dX8_narrow_16 : decode cX8_narrow 16 = .ok (.lload_n 2, 1) := by decide +kernel
theorem dX8_narrow_17 : decode cX8_narrow 17 = .ok (.l2i, 1) := by decide +kernel
theorem dX8_narrow_18 : decode cX8_narrow 18 = .ok (.i2s, 1) := by decide +kernel
theorem dX8_narrow_19 : decode cX8_narrow 19 = .ok (.i2l, 1) := by decide +kernel
theorem dX8_narrow_20 : decode cX8_narrow 20 = .ok (.goto 34, 3) := by decide +kernel
theorem dX8_narrow_23 : decode cX8_narrow 23 = .ok (.iload_n 1, 1) := by decide +kernel
theorem dX8_narrow_24 : decode cX8_narrow 24 = .ok (.iconst 2, 1) := by decide +kernel
theorem dX8_narrow_25 : decode cX8_narrow 25 = .ok (.if_icmp .ne 9, 3) := by decide +kernel
theorem dX8_narrow_28 : decode cX8_narrow 28 = .ok (.lload_n 2, 1) := by decide +kernel
theorem dX8_narrow_29 : decode cX8_narrow 29 = .ok (.l2i, 1) := by decide +kernel
theorem dX8_narrow_30 : decode cX8_narrow 30 = .ok (.i2l, 1) := by decide +kernel
theorem dX8_narrow_31 : decode cX8_narrow 31 = .ok (.goto 23, 3) := by decide +kernel
theorem dX8_narrow_34 : decode cX8_narrow 34 = .ok (.iload_n 1, 1) := by decide +kernel
theorem dX8_narrow_35 : decode cX8_narrow 35 = .ok (.iconst 4, 1) := by decide +kernel
theorem dX8_narrow_36 : decode cX8_narrow 36 = .ok (.if_icmp .ne 17, 3) := by decide +kernel
theorem dX8_narrow_39 : decode cX8_narrow 39 = .ok (.lload_n 2, 1) := by decide +kernel
theorem dX8_narrow_40 : decode cX8_narrow 40 = .ok (.lconst 0, 1) := by decide +kernel
theorem dX8_narrow_41 : decode cX8_narrow 41 = .ok (.lcmp, 1) := by decide +kernel
theorem dX8_narrow_42 : decode cX8_narrow 42 = .ok (.ifCond .eq 7, 3) := by decide +kernel
theorem dX8_narrow_45 : decode cX8_narrow 45 = .ok (.lconst 1, 1) := by decide +kernel
theorem dX8_narrow_46 : decode cX8_narrow 46 = .ok (.goto 8, 3) := by decide +kernel
theorem dX8_narrow_49 : decode cX8_narrow 49 = .ok (.lconst 0, 1) := by decide +kernel
theorem dX8_narrow_50 : decode cX8_narrow 50 = .ok (.goto 4, 3) := by decide +kernel
theorem dX8_narrow_53 : decode cX8_narrow 53 = .ok (.lload_n 2, 1) := by decide +kernel
theorem dX8_narrow_54 : decode cX8_narrow 54 = .ok (.lreturn, 1) := by decide +kernel
def f_X8_narrow (p1 : Int32) (p2 : Int64) : Option (Int64) := (if p1 = 0 then some p2.toInt32.toInt8.toInt32.toInt64 else (if p1 = (1 : Int32) then some p2.toInt32.toInt16.toInt32.toInt64 else (if p1 = (2 : Int32) then some p2.toInt32.toInt64 else (if p1 = (4 : Int32) then (if (lg_cmp p2 (0 : Int64)) = 0 then some (0 : Int64) else some (1 : Int64)) else some p2))))
set_option maxHeartbeats 4000000 in
set_option maxRecDepth 100000 in
theorem k_X8_narrow (l : Launch) (D : gDt) (base : Nat) (Z : gZt) (u : Mem) (p1 : Int32) (p2 : Int64) (r : Int64) (hf : f_X8_narrow p1 p2 = some r) : Met l yX8_narrow (gws yX8_narrow cX8_narrow 4 (some .long)) (gRm 1 0 0) (gPc D base Z u [.ref (base + 82), .int p1, .long p2]) (gQl D base r u) 0 0 (gF base) := by
  refine Met.ofW (cc := cX8_narrow) (maxL := 4) (ret := some .long) (by decide) rfl ?_
  intro p e s m args below meth c s₁ B hml hv
  obtain ⟨rfl, C0, hG⟩ := g_enter B hml hv
  have hr := B.returns
  have C0 : gC p s m meth c _ cX8_narrow 4 RX8 D base Z := C0
  have hx := C0.1
  have hb := C0.2.1
  have hl := lv_entry ([.ref (base + 82), .int p1, .long p2]) (n := 4) (Nat.le_of_ble_eq_true rfl)
  rw [lg_entry_eq]
  generalize (lg_sl ([.ref (base + 82), .int p1, .long p2]) ++ List.replicate (4 - (lg_sl ([.ref (base + 82), .int p1, .long p2])).length) Slot.unset).toArray = ls at hl ⊢
  have hl : lv_has ls 4 [(0, .ref (base + 82)), (1, .int p1), (2, .long p2)] := hl
  obtain ⟨Q, hQ⟩ : ∃ Q, Q = MQ below (gQl D base r u) ([.ref (base + 82), .int p1, .long p2] : List Value).toArray s 0 0 (gF base) := ⟨_, rfl⟩
  rw [← hQ]
  change W p l e (gRm 1 0 0) s m _ below meth c _ _ _ _ _ _
  unfold f_X8_narrow at hf
  refine lv_iload_n hx hb dX8_narrow_0 rfl (lv_at hl 1 rfl) ?_
  refine lv_if_ne (tgt := 11) hx hb dX8_narrow_1 (by decide) (fun c1 => ?_) (fun c1 => ?_)
  · have hf := gif_f c1 hf
    refine lv_iload_n hx hb dX8_narrow_11 rfl (lv_at hl 1 rfl) ?_
    refine lv_iconst (v := (1 : Int32)) hx hb dX8_narrow_12 (by decide) ?_
    refine lv_icmp_ne (tgt := 23) hx hb dX8_narrow_13 (by decide) (fun c2 => ?_) (fun c2 => ?_)
    · have hf := gif_f c2 hf
      refine lv_iload_n hx hb dX8_narrow_23 rfl (lv_at hl 1 rfl) ?_
      refine lv_iconst (v := (2 : Int32)) hx hb dX8_narrow_24 (by decide) ?_
      refine lv_icmp_ne (tgt := 34) hx hb dX8_narrow_25 (by decide) (fun c3 => ?_) (fun c3 => ?_)
      · have hf := gif_f c3 hf
        refine lv_iload_n hx hb dX8_narrow_34 rfl (lv_at hl 1 rfl) ?_
        refine lv_iconst (v := (4 : Int32)) hx hb dX8_narrow_35 (by decide) ?_
        refine lv_icmp_ne (tgt := 53) hx hb dX8_narrow_36 (by decide) (fun c4 => ?_) (fun c4 => ?_)
        · have hf := gif_f c4 hf
          refine lv_lload_n hx hb dX8_narrow_53 rfl (lv_at hl 2 rfl) ?_
          have hf := Option.some.inj hf
          subst hf
          subst hQ
          exact g_lret C0 hG hr dX8_narrow_54
        · have hf := gif_t c4 hf
          refine lv_lload_n hx hb dX8_narrow_39 rfl (lv_at hl 2 rfl) ?_
          refine lv_lconst (v := (0 : Int64)) hx hb dX8_narrow_40 rfl ?_
          refine W.lcmp hx hb dX8_narrow_41 ?_
          refine lv_if_eq (tgt := 49) hx hb dX8_narrow_42 (by decide) (fun c5 => ?_) (fun c5 => ?_)
          · have hf := gif_t c5 hf
            refine lv_lconst (v := (0 : Int64)) hx hb dX8_narrow_49 rfl ?_
            refine lv_goto (tgt := 54) hx hb dX8_narrow_50 (by decide) ?_
            have hf := Option.some.inj hf
            subst hf
            subst hQ
            exact g_lret C0 hG hr dX8_narrow_54
          · have hf := gif_f c5 hf
            refine lv_lconst (v := (1 : Int64)) hx hb dX8_narrow_45 rfl ?_
            refine lv_goto (tgt := 54) hx hb dX8_narrow_46 (by decide) ?_
            have hf := Option.some.inj hf
            subst hf
            subst hQ
            exact g_lret C0 hG hr dX8_narrow_54
      · have hf := gif_t c3 hf
        refine lv_lload_n hx hb dX8_narrow_28 rfl (lv_at hl 2 rfl) ?_
        refine lv_l2i (v := p2.toInt32) hx hb dX8_narrow_29 rfl ?_
        refine lv_i2l (v := p2.toInt32.toInt64) hx hb dX8_narrow_30 rfl ?_
        refine lv_goto (tgt := 54) hx hb dX8_narrow_31 (by decide) ?_
        have hf := Option.some.inj hf
        subst hf
        subst hQ
        exact g_lret C0 hG hr dX8_narrow_54
    · have hf := gif_t c2 hf
      refine lv_lload_n hx hb dX8_narrow_16 rfl (lv_at hl 2 rfl) ?_
      refine lv_l2i (v := p2.toInt32) hx hb dX8_narrow_17 rfl ?_
      refine lv_i2s (v := p2.toInt32.toInt16.toInt32) hx hb dX8_narrow_18 rfl ?_
      refine lv_i2l (v := p2.toInt32.toInt16.toInt32.toInt64) hx hb dX8_narrow_19 rfl ?_
      refine lv_goto (tgt := 54) hx hb dX8_narrow_20 (by decide) ?_
      have hf := Option.some.inj hf
      subst hf
      subst hQ
      exact g_lret C0 hG hr dX8_narrow_54
  · have hf := gif_t c1 hf
    refine lv_lload_n hx hb dX8_narrow_4 rfl (lv_at hl 2 rfl) ?_
    refine lv_l2i (v := p2.toInt32) hx hb dX8_narrow_5 rfl ?_
    refine lv_i2b (v := p2.toInt32.toInt8.toInt32) hx hb dX8_narrow_6 rfl ?_
    refine lv_i2l (v := p2.toInt32.toInt8.toInt32.toInt64) hx hb dX8_narrow_7 rfl ?_
    refine lv_goto (tgt := 54) hx hb dX8_narrow_8 (by decide) ?_
    have hf := Option.some.inj hf
    subst hf
    subst hQ
    exact g_lret C0 hG hr dX8_narrow_54
theorem dX8_item_0 : decode cX8_item 0 = .ok (.aload_n 0, 1) := by decide +kernel
theorem dX8_item_1 : decode cX8_item 1 = .ok (.iload_n 1, 1) := by decide +kernel
theorem dX8_item_2 : decode cX8_item 2 = .ok (.invokevirtual 407, 3) := by decide +kernel
theorem dX8_item_5 : decode cX8_item 5 = .ok (.ifCond .ne 5, 3) := by decide +kernel
theorem dX8_item_8 : decode cX8_item 8 = .ok (.iconst (-1), 1) := by decide +kernel
theorem dX8_item_9 : decode cX8_item 9 = .ok (.ireturn, 1) := by decide +kernel
theorem dX8_item_10 : decode cX8_item 10 = .ok (.aload_n 0, 1) := by decide +kernel
theorem dX8_item_11 : decode cX8_item 11 = .ok (.getfield 232, 3) := by decide +kernel
theorem dX8_item_14 : decode cX8_item 14 = .ok (.iload_n 1, 1) := by decide +kernel
theorem dX8_item_15 : decode cX8_item 15 = .ok (.iaload, 1) := by decide +kernel
theorem dX8_item_16 : decode cX8_item 16 = .ok (.ifCond .ge 6, 3) := by decide +kernel
theorem dX8_item_19 : decode cX8_item 19 = .ok (.bipush (-11), 2) := by decide +kernel
theorem dX8_item_21 : decode cX8_item 21 = .ok (.ireturn, 1) := by decide +kernel
theorem dX8_item_22 : decode cX8_item 22 = .ok (.aload_n 0, 1) := by decide +kernel
theorem dX8_item_23 : decode cX8_item 23 = .ok (.iload_n 2, 1) := by decide +kernel
theorem dX8_item_24 : decode cX8_item 24 = .ok (.iconst 0, 1) := by decide +kernel
theorem dX8_item_25 : decode cX8_item 25 = .ok (.aload_n 0, 1) := by decide +kernel
theorem dX8_item_26 : decode cX8_item 26 = .ok (.getfield 235, 3) := by decide +kernel
theorem dX8_item_29 : decode cX8_item 29 = .ok (.iload_n 1, 1) := by decide +kernel
theorem dX8_item_30 : decode cX8_item 30 = .ok (.iaload, 1) := by decide +kernel
theorem dX8_item_31 : decode cX8_item 31 = .ok (.iconst 1, 1) := by decide +kernel
theorem dX8_item_32 : decode cX8_item 32 = .ok (.isub, 1) := by decide +kernel
theorem dX8_item_33 : decode cX8_item 33 = .ok (.invokevirtual 249, 3) := by decide +kernel
theorem dX8_item_36 : decode cX8_item 36 = .ok (.ifCond .ne 6, 3) := by decide +kernel
theorem dX8_item_39 : decode cX8_item 39 = .ok (.bipush (-13), 2) := by decide +kernel
theorem dX8_item_41 : decode cX8_item 41 = .ok (.ireturn, 1) := by decide +kernel
theorem dX8_item_42 : decode cX8_item 42 = .ok (.aload_n 0, 1) := by decide +kernel
theorem dX8_item_43 : decode cX8_item 43 = .ok (.getfield 238, 3) := by decide +kernel
theorem dX8_item_46 : decode cX8_item 46 = .ok (.bipush 60, 2) := by decide +kernel
theorem dX8_item_48 : decode cX8_item 48 = .ok (.iload_n 1, 1) := by decide +kernel
theorem dX8_item_49 : decode cX8_item 49 = .ok (.imul, 1) := by decide +kernel
theorem dX8_item_50 : decode cX8_item 50 = .ok (.iload_n 2, 1) := by decide +kernel
theorem dX8_item_51 : decode cX8_item 51 = .ok (.iadd, 1) := by decide +kernel
theorem dX8_item_52 : decode cX8_item 52 = .ok (.aload_n 0, 1) := by decide +kernel
theorem dX8_item_53 : decode cX8_item 53 = .ok (.aload_n 0, 1) := by decide +kernel
theorem dX8_item_54 : decode cX8_item 54 = .ok (.getfield 232, 3) := by decide +kernel
theorem dX8_item_57 : decode cX8_item 57 = .ok (.iload_n 1, 1) := by decide +kernel
theorem dX8_item_58 : decode cX8_item 58 = .ok (.iaload, 1) := by decide +kernel
theorem dX8_item_59 : decode cX8_item 59 = .ok (.lload_n 3, 1) := by decide +kernel
theorem dX8_item_60 : decode cX8_item 60 = .ok (.invokevirtual 434, 3) := by decide +kernel
theorem dX8_item_63 : decode cX8_item 63 = .ok (.lastore, 1) := by decide +kernel
theorem dX8_item_64 : decode cX8_item 64 = .ok (.iconst 1, 1) := by decide +kernel
theorem dX8_item_65 : decode cX8_item 65 = .ok (.ireturn, 1) := by decide +kernel
def f_X8_item (p1 : Int32) (p2 : Int32) (p3 : Int64) (u : Mem) : Option (Int32 × Mem) := Option.bind (f_X8_isTape p1) (fun r1 => (if r1 = 0 then some ((-1 : Int32), u) else gin p1 6 ((if 0 ≤ (gA u 125 p1.toNatClampNeg) then gin p1 6 (Option.bind (f_X8_in p2 (0 : Int32) ((gA u 126 p1.toNatClampNeg) - (1 : Int32))) (fun r6 => (if r6 = 0 then some ((-13 : Int32), u) else gin p1 6 (Option.bind (f_X8_narrow (gA u 125 p1.toNatClampNeg) p3) (fun r9 => gin (((60 : Int32) * p1) + p2) 360 (some ((1 : Int32), sL u 127 (((60 : Int32) * p1) + p2).toNatClampNeg r9))))))) else some ((-11 : Int32), u)))))
set_option maxHeartbeats 4000000 in
set_option maxRecDepth 100000 in
theorem k_X8_item (l : Launch) (D : gDt) (base : Nat) (Z : gZt) (u : Mem) (p1 : Int32) (p2 : Int32) (p3 : Int64) (r : Int32) (u' : Mem) (hf : f_X8_item p1 p2 p3 u = some (r, u')) : Met l yX8_item (gws yX8_item cX8_item 5 (some .int)) (gRm 3 0 0) (gPc D base Z u [.ref (base + 82), .int p1, .int p2, .long p3]) (gQi D base r u') 0 0 (gF base) := by
  refine Met.ofW (cc := cX8_item) (maxL := 5) (ret := some .int) (by decide) rfl ?_
  intro p e s m args below meth c s₁ B hml hv
  obtain ⟨rfl, C0, hG⟩ := g_enter B hml hv
  have hr := B.returns
  have C0 : gC p s m meth c _ cX8_item 5 RX8 D base Z := C0
  have hx := C0.1
  have hb := C0.2.1
  have hl := lv_entry ([.ref (base + 82), .int p1, .int p2, .long p3]) (n := 5) (Nat.le_of_ble_eq_true rfl)
  rw [lg_entry_eq]
  generalize (lg_sl ([.ref (base + 82), .int p1, .int p2, .long p3]) ++ List.replicate (5 - (lg_sl ([.ref (base + 82), .int p1, .int p2, .long p3])).length) Slot.unset).toArray = ls at hl ⊢
  have hl : lv_has ls 5 [(0, .ref (base + 82)), (1, .int p1), (2, .int p2), (3, .long p3)] := hl
  obtain ⟨Q, hQ⟩ : ∃ Q, Q = MQ below (gQi D base r u') ([.ref (base + 82), .int p1, .int p2, .long p3] : List Value).toArray s 0 0 (gF base) := ⟨_, rfl⟩
  rw [← hQ]
  change W p l e (gRm 3 0 0) s m _ below meth c _ _ _ _ _ _
  unfold f_X8_item at hf
  refine lv_aload_n hx hb dX8_item_0 rfl (lv_at hl 0 rfl) ?_
  refine lv_iload_n hx hb dX8_item_1 rfl (lv_at hl 1 rfl) ?_
  obtain ⟨r1, hc1, hf⟩ := pb_s hf
  refine g_doI0 hG (g_runV C0 hG (k_X8_isTape l D base Z u p1 r1 hc1) m_X8_isTape v_X8_isTape w_1372 (by decide) (g_recv C0 hG (L82 hG) rfl) rfl hl.1 rfl (Nat.le_of_ble_eq_true rfl) dX8_item_2 ⟨Nat.zero_le _, Nat.zero_le _⟩) (fun H locs hG hk => ?_)
  refine lv_if_ne (tgt := 10) hx hb dX8_item_5 (by decide) (fun c2 => ?_) (fun c2 => ?_)
  · have hf := gif_f c2 hf
    refine lv_aload_n hx hb dX8_item_10 rfl (lv_at hl 0 rfl) ?_
    refine g_getSa (o := 43) (a := 125) C0 hG (L82 hG) rfl 73 (by decide) rfl rfl w_919 dX8_item_11 ?_
    refine lv_iload_n hx hb dX8_item_14 rfl (lv_at hl 1 rfl) ?_
    obtain ⟨h3, hf⟩ := gin_s hf
    refine g_iald C0 hG (L125 hG) h3 dX8_item_15 ?_
    refine lv_if_ge (tgt := 22) hx hb dX8_item_16 (by decide) (fun c4 => ?_) (fun c4 => ?_)
    · have hf := gif_t c4 hf
      refine lv_aload_n hx hb dX8_item_22 rfl (lv_at hl 0 rfl) ?_
      refine lv_iload_n hx hb dX8_item_23 rfl (lv_at hl 2 rfl) ?_
      refine lv_iconst (v := (0 : Int32)) hx hb dX8_item_24 (by decide) ?_
      refine lv_aload_n hx hb dX8_item_25 rfl (lv_at hl 0 rfl) ?_
      refine g_getSa (o := 44) (a := 126) C0 hG (L82 hG) rfl 74 (by decide) rfl rfl w_920 dX8_item_26 ?_
      refine lv_iload_n hx hb dX8_item_29 rfl (lv_at hl 1 rfl) ?_
      obtain ⟨h5, hf⟩ := gin_s hf
      refine g_iald C0 hG (L126 hG) h5 dX8_item_30 ?_
      refine lv_iconst (v := (1 : Int32)) hx hb dX8_item_31 (by decide) ?_
      refine lv_isub hx hb dX8_item_32 ?_
      obtain ⟨r6, hc6, hf⟩ := pb_s hf
      refine g_doI0 hG (g_runV C0 hG (k_X8_in l D base Z u p2 (0 : Int32) ((gA u 126 p1.toNatClampNeg) - (1 : Int32)) r6 hc6) m_X8_in v_X8_in w_1082 (by decide) (g_recv C0 hG (L82 hG) rfl) rfl hl.1 rfl (Nat.le_of_ble_eq_true rfl) dX8_item_33 ⟨Nat.zero_le _, Nat.zero_le _⟩) (fun H locs hG hk => ?_)
      refine lv_if_ne (tgt := 42) hx hb dX8_item_36 (by decide) (fun c7 => ?_) (fun c7 => ?_)
      · have hf := gif_f c7 hf
        refine lv_aload_n hx hb dX8_item_42 rfl (lv_at hl 0 rfl) ?_
        refine g_getSa (o := 45) (a := 127) C0 hG (L82 hG) rfl 75 (by decide) rfl rfl w_921 dX8_item_43 ?_
        refine lv_bipush (v := (60 : Int32)) hx hb dX8_item_46 (by decide) ?_
        refine lv_iload_n hx hb dX8_item_48 rfl (lv_at hl 1 rfl) ?_
        refine lv_imul hx hb dX8_item_49 ?_
        refine lv_iload_n hx hb dX8_item_50 rfl (lv_at hl 2 rfl) ?_
        refine lv_iadd hx hb dX8_item_51 ?_
        refine lv_aload_n hx hb dX8_item_52 rfl (lv_at hl 0 rfl) ?_
        refine lv_aload_n hx hb dX8_item_53 rfl (lv_at hl 0 rfl) ?_
        refine g_getSa (o := 43) (a := 125) C0 hG (L82 hG) rfl 73 (by decide) rfl rfl w_919 dX8_item_54 ?_
        refine lv_iload_n hx hb dX8_item_57 rfl (lv_at hl 1 rfl) ?_
        obtain ⟨h8, hf⟩ := gin_s hf
        refine g_iald C0 hG (L125 hG) h8 dX8_item_58 ?_
        refine lv_lload_n hx hb dX8_item_59 rfl (lv_at hl 3 rfl) ?_
        obtain ⟨r9, hc9, hf⟩ := pb_s hf
        refine g_doL0 hG (g_runV C0 hG (k_X8_narrow l D base Z u (gA u 125 p1.toNatClampNeg) p3 r9 hc9) m_X8_narrow v_X8_narrow w_1440 (by decide) (g_recv C0 hG (L82 hG) rfl) rfl hl.1 rfl (Nat.le_of_ble_eq_true rfl) dX8_item_60 ⟨Nat.zero_le _, Nat.zero_le _⟩) (fun H locs hG hk => ?_)
        obtain ⟨h10, hf⟩ := gin_s hf
        refine g_last C0 hG (L127 hG) h10 dX8_item_63 (fun H locs hG => ?_)
        refine lv_iconst (v := (1 : Int32)) hx hb dX8_item_64 (by decide) ?_
        obtain ⟨hr1, hu⟩ := gret_s hf
        subst hr1
        subst hu
        subst hQ
        exact g_iret C0 hG hr dX8_item_65
      · have hf := gif_t c7 hf
        refine lv_bipush (v := (-13 : Int32)) hx hb dX8_item_39 (by decide) ?_
        obtain ⟨hr1, hu⟩ := gret_s hf
        subst hr1
        subst hu
        subst hQ
        exact g_iret C0 hG hr dX8_item_41
    · have hf := gif_f c4 hf
      refine lv_bipush (v := (-11 : Int32)) hx hb dX8_item_19 (by decide) ?_
      obtain ⟨hr1, hu⟩ := gret_s hf
      subst hr1
      subst hu
      subst hQ
      exact g_iret C0 hG hr dX8_item_21
  · have hf := gif_t c2 hf
    refine lv_iconst (v := (-1 : Int32)) hx hb dX8_item_8 (by decide) ?_
    obtain ⟨hr1, hu⟩ := gret_s hf
    subst hr1
    subst hu
    subst hQ
    exact g_iret C0 hG hr dX8_item_9
theorem dX8_read_0 : decode cX8_read 0 = .ok (.aload_n 0, 1) := by decide +kernel
theorem dX8_read_1 : decode cX8_read 1 = .ok (.iload_n 1, 1) := by decide +kernel
theorem dX8_read_2 : decode cX8_read 2 = .ok (.invokevirtual 407, 3) := by decide +kernel
theorem dX8_read_5 : decode cX8_read 5 = .ok (.ifCond .eq 29, 3) := by decide +kernel
theorem dX8_read_8 : decode cX8_read 8 = .ok (.aload_n 0, 1) := by decide +kernel
theorem dX8_read_9 : decode cX8_read 9 = .ok (.getfield 232, 3) := by decide +kernel
theorem dX8_read_12 : decode cX8_read 12 = .ok (.iload_n 1, 1) := by decide +kernel
theorem dX8_read_13 : decode cX8_read 13 = .ok (.iaload, 1) := by decide +kernel
theorem dX8_read_14 : decode cX8_read 14 = .ok (.ifCond .lt 20, 3) := by decide +kernel
theorem dX8_read_17 : decode cX8_read 17 = .ok (.aload_n 0, 1) := by decide +kernel
theorem dX8_read_18 : decode cX8_read 18 = .ok (.iload_n 2, 1) := by decide +kernel
theorem dX8_read_19 : decode cX8_read 19 = .ok (.iconst 0, 1) := by decide +kernel
theorem dX8_read_20 : decode cX8_read 20 = .ok (.aload_n 0, 1) := by decide +kernel
theorem dX8_read_21 : decode cX8_read 21 = .ok (.getfield 235, 3) := by decide +kernel
theorem dX8_read_24 : decode cX8_read 24 = .ok (.iload_n 1, 1) := by decide +kernel
theorem dX8_read_25 : decode cX8_read 25 = .ok (.iaload, 1) := by decide +kernel
theorem dX8_read_26 : decode cX8_read 26 = .ok (.iconst 1, 1) := by decide +kernel
theorem dX8_read_27 : decode cX8_read 27 = .ok (.isub, 1) := by decide +kernel
theorem dX8_read_28 : decode cX8_read 28 = .ok (.invokevirtual 249, 3) := by decide +kernel
theorem dX8_read_31 : decode cX8_read 31 = .ok (.ifCond .ne 9, 3) := by decide +kernel
theorem dX8_read_34 : decode cX8_read 34 = .ok (.ldc2_w 392, 3) := by decide +kernel
theorem dX8_read_37 : decode cX8_read 37 = .ok (.goto 14, 3) := by decide +kernel
theorem dX8_read_40 : decode cX8_read 40 = .ok (.aload_n 0, 1) := by decide +kernel
theorem dX8_read_41 : decode cX8_read 41 = .ok (.getfield 238, 3) := by decide +kernel
theorem dX8_read_44 : decode cX8_read 44 = .ok (.bipush 60, 2) := by decide +kernel
theorem dX8_read_46 : decode cX8_read 46 = .ok (.iload_n 1, 1) := by decide +kernel
theorem dX8_read_47 : decode cX8_read 47 = .ok (.imul, 1) := by decide +kernel
theorem dX8_read_48 : decode cX8_read 48 = .ok (.iload_n 2, 1) := by decide +kernel
theorem dX8_read_49 : decode cX8_read 49 = .ok (.iadd, 1) := by decide +kernel
theorem dX8_read_50 : decode cX8_read 50 = .ok (.laload, 1) := by decide +kernel
theorem dX8_read_51 : decode cX8_read 51 = .ok (.lreturn, 1) := by decide +kernel
def f_X8_read (p1 : Int32) (p2 : Int32) (u : Mem) : Option (Int64) := Option.bind (f_X8_isTape p1) (fun r1 => (if r1 = 0 then some (-9223372036854775808 : Int64) else gin p1 6 ((if (gA u 125 p1.toNatClampNeg) < 0 then some (-9223372036854775808 : Int64) else gin p1 6 (Option.bind (f_X8_in p2 (0 : Int32) ((gA u 126 p1.toNatClampNeg) - (1 : Int32))) (fun r6 => (if r6 = 0 then some (-9223372036854775808 : Int64) else gin (((60 : Int32) * p1) + p2) 360 (some (gL u 127 (((60 : Int32) * p1) + p2).toNatClampNeg)))))))))
set_option maxHeartbeats 4000000 in
set_option maxRecDepth 100000 in
theorem k_X8_read (l : Launch) (D : gDt) (base : Nat) (Z : gZt) (u : Mem) (p1 : Int32) (p2 : Int32) (r : Int64) (hf : f_X8_read p1 p2 u = some r) : Met l yX8_read (gws yX8_read cX8_read 3 (some .long)) (gRm 3 0 0) (gPc D base Z u [.ref (base + 82), .int p1, .int p2]) (gQl D base r u) 0 0 (gF base) := by
  refine Met.ofW (cc := cX8_read) (maxL := 3) (ret := some .long) (by decide) rfl ?_
  intro p e s m args below meth c s₁ B hml hv
  obtain ⟨rfl, C0, hG⟩ := g_enter B hml hv
  have hr := B.returns
  have C0 : gC p s m meth c _ cX8_read 3 RX8 D base Z := C0
  have hx := C0.1
  have hb := C0.2.1
  have hl := lv_entry ([.ref (base + 82), .int p1, .int p2]) (n := 3) (Nat.le_of_ble_eq_true rfl)
  rw [lg_entry_eq]
  generalize (lg_sl ([.ref (base + 82), .int p1, .int p2]) ++ List.replicate (3 - (lg_sl ([.ref (base + 82), .int p1, .int p2])).length) Slot.unset).toArray = ls at hl ⊢
  have hl : lv_has ls 3 [(0, .ref (base + 82)), (1, .int p1), (2, .int p2)] := hl
  obtain ⟨Q, hQ⟩ : ∃ Q, Q = MQ below (gQl D base r u) ([.ref (base + 82), .int p1, .int p2] : List Value).toArray s 0 0 (gF base) := ⟨_, rfl⟩
  rw [← hQ]
  change W p l e (gRm 3 0 0) s m _ below meth c _ _ _ _ _ _
  unfold f_X8_read at hf
  refine lv_aload_n hx hb dX8_read_0 rfl (lv_at hl 0 rfl) ?_
  refine lv_iload_n hx hb dX8_read_1 rfl (lv_at hl 1 rfl) ?_
  obtain ⟨r1, hc1, hf⟩ := pb_s hf
  refine g_doI0 hG (g_runV C0 hG (k_X8_isTape l D base Z u p1 r1 hc1) m_X8_isTape v_X8_isTape w_1372 (by decide) (g_recv C0 hG (L82 hG) rfl) rfl hl.1 rfl (Nat.le_of_ble_eq_true rfl) dX8_read_2 ⟨Nat.zero_le _, Nat.zero_le _⟩) (fun H locs hG hk => ?_)
  refine lv_if_eq (tgt := 34) hx hb dX8_read_5 (by decide) (fun c2 => ?_) (fun c2 => ?_)
  · have hf := gif_t c2 hf
    refine lv_ldc2 (v := (-9223372036854775808 : Int64)) hx hb C0.2.2.2.1 (C0.2.2.2.2.1 _ w_1327) dX8_read_34 ?_
    refine lv_goto (tgt := 51) hx hb dX8_read_37 (by decide) ?_
    have hf := Option.some.inj hf
    subst hf
    subst hQ
    exact g_lret C0 hG hr dX8_read_51
  · have hf := gif_f c2 hf
    refine lv_aload_n hx hb dX8_read_8 rfl (lv_at hl 0 rfl) ?_
    refine g_getSa (o := 43) (a := 125) C0 hG (L82 hG) rfl 73 (by decide) rfl rfl w_919 dX8_read_9 ?_
    refine lv_iload_n hx hb dX8_read_12 rfl (lv_at hl 1 rfl) ?_
    obtain ⟨h3, hf⟩ := gin_s hf
    refine g_iald C0 hG (L125 hG) h3 dX8_read_13 ?_
    refine lv_if_lt (tgt := 34) hx hb dX8_read_14 (by decide) (fun c4 => ?_) (fun c4 => ?_)
    · have hf := gif_t c4 hf
      refine lv_ldc2 (v := (-9223372036854775808 : Int64)) hx hb C0.2.2.2.1 (C0.2.2.2.2.1 _ w_1327) dX8_read_34 ?_
      refine lv_goto (tgt := 51) hx hb dX8_read_37 (by decide) ?_
      have hf := Option.some.inj hf
      subst hf
      subst hQ
      exact g_lret C0 hG hr dX8_read_51
    · have hf := gif_f c4 hf
      refine lv_aload_n hx hb dX8_read_17 rfl (lv_at hl 0 rfl) ?_
      refine lv_iload_n hx hb dX8_read_18 rfl (lv_at hl 2 rfl) ?_
      refine lv_iconst (v := (0 : Int32)) hx hb dX8_read_19 (by decide) ?_
      refine lv_aload_n hx hb dX8_read_20 rfl (lv_at hl 0 rfl) ?_
      refine g_getSa (o := 44) (a := 126) C0 hG (L82 hG) rfl 74 (by decide) rfl rfl w_920 dX8_read_21 ?_
      refine lv_iload_n hx hb dX8_read_24 rfl (lv_at hl 1 rfl) ?_
      obtain ⟨h5, hf⟩ := gin_s hf
      refine g_iald C0 hG (L126 hG) h5 dX8_read_25 ?_
      refine lv_iconst (v := (1 : Int32)) hx hb dX8_read_26 (by decide) ?_
      refine lv_isub hx hb dX8_read_27 ?_
      obtain ⟨r6, hc6, hf⟩ := pb_s hf
      refine g_doI0 hG (g_runV C0 hG (k_X8_in l D base Z u p2 (0 : Int32) ((gA u 126 p1.toNatClampNeg) - (1 : Int32)) r6 hc6) m_X8_in v_X8_in w_1082 (by decide) (g_recv C0 hG (L82 hG) rfl) rfl hl.1 rfl (Nat.le_of_ble_eq_true rfl) dX8_read_28 ⟨Nat.zero_le _, Nat.zero_le _⟩) (fun H locs hG hk => ?_)
      refine lv_if_ne (tgt := 40) hx hb dX8_read_31 (by decide) (fun c7 => ?_) (fun c7 => ?_)
      · have hf := gif_f c7 hf
        refine lv_aload_n hx hb dX8_read_40 rfl (lv_at hl 0 rfl) ?_
        refine g_getSa (o := 45) (a := 127) C0 hG (L82 hG) rfl 75 (by decide) rfl rfl w_921 dX8_read_41 ?_
        refine lv_bipush (v := (60 : Int32)) hx hb dX8_read_44 (by decide) ?_
        refine lv_iload_n hx hb dX8_read_46 rfl (lv_at hl 1 rfl) ?_
        refine lv_imul hx hb dX8_read_47 ?_
        refine lv_iload_n hx hb dX8_read_48 rfl (lv_at hl 2 rfl) ?_
        refine lv_iadd hx hb dX8_read_49 ?_
        obtain ⟨h8, hf⟩ := gin_s hf
        refine g_lald C0 hG (L127 hG) h8 dX8_read_50 ?_
        have hf := Option.some.inj hf
        subst hf
        subst hQ
        exact g_lret C0 hG hr dX8_read_51
      · have hf := gif_t c7 hf
        refine lv_ldc2 (v := (-9223372036854775808 : Int64)) hx hb C0.2.2.2.1 (C0.2.2.2.2.1 _ w_1327) dX8_read_34 ?_
        refine lv_goto (tgt := 51) hx hb dX8_read_37 (by decide) ?_
        have hf := Option.some.inj hf
        subst hf
        subst hQ
        exact g_lret C0 hG hr dX8_read_51
theorem dX8_shift_0 : decode cX8_shift 0 = .ok (.aload_n 0, 1) := by decide +kernel
theorem dX8_shift_1 : decode cX8_shift 1 = .ok (.iload_n 1, 1) := by decide +kernel
theorem dX8_shift_2 : decode cX8_shift 2 = .ok (.invokevirtual 407, 3) := by decide +kernel
theorem dX8_shift_5 : decode cX8_shift 5 = .ok (.ifCond .eq 11, 3) := by decide +kernel
theorem dX8_shift_8 : decode cX8_shift 8 = .ok (.aload_n 0, 1) := by decide +kernel
theorem dX8_shift_9 : decode cX8_shift 9 = .ok (.iload_n 3, 1) := by decide +kernel
theorem dX8_shift_10 : decode cX8_shift 10 = .ok (.invokevirtual 407, 3) := by decide +kernel
theorem dX8_shift_13 : decode cX8_shift 13 = .ok (.ifCond .ne 5, 3) := by decide +kernel
theorem dX8_shift_16 : decode cX8_shift 16 = .ok (.iconst (-1), 1) := by decide +kernel
theorem dX8_shift_17 : decode cX8_shift 17 = .ok (.ireturn, 1) := by decide +kernel
theorem dX8_shift_18 : decode cX8_shift 18 = .ok (.aload_n 0, 1) := by decide +kernel
theorem dX8_shift_19 : decode cX8_shift 19 = .ok (.getfield 232, 3) := by decide +kernel
theorem dX8_shift_22 : decode cX8_shift 22 = .ok (.iload_n 1, 1) := by decide +kernel
theorem dX8_shift_23 : decode cX8_shift 23 = .ok (.iaload, 1) := by decide +kernel
theorem dX8_shift_24 : decode cX8_shift 24 = .ok (.ifCond .lt 12, 3) := by decide +kernel
theorem dX8_shift_27 : decode cX8_shift 27 = .ok (.aload_n 0, 1) := by decide +kernel
theorem dX8_shift_28 : decode cX8_shift 28 = .ok (.getfield 232, 3) := by decide +kernel
theorem dX8_shift_31 : decode cX8_shift 31 = .ok (.iload_n 3, 1) := by decide +kernel
theorem dX8_shift_32 : decode cX8_shift 32 = .ok (.iaload, 1) := by decide +kernel
theorem dX8_shift_33 : decode cX8_shift 33 = .ok (.ifCond .ge 6, 3) := by decide +kernel
theorem dX8_shift_36 : decode cX8_shift 36 = .ok (.bipush (-11), 2) := by decide +kernel
theorem dX8_shift_38 : decode cX8_shift 38 = .ok (.ireturn, 1) := by decide +kernel
theorem dX8_shift_39 : decode cX8_shift 39 = .ok (.aload_n 0, 1) := by decide +kernel
theorem dX8_shift_40 : decode cX8_shift 40 = .ok (.getfield 232, 3) := by decide +kernel
theorem dX8_shift_43 : decode cX8_shift 43 = .ok (.iload_n 1, 1) := by decide +kernel
theorem dX8_shift_44 : decode cX8_shift 44 = .ok (.iaload, 1) := by decide +kernel
theorem dX8_shift_45 : decode cX8_shift 45 = .ok (.aload_n 0, 1) := by decide +kernel
theorem dX8_shift_46 : decode cX8_shift 46 = .ok (.getfield 232, 3) := by decide +kernel
theorem dX8_shift_49 : decode cX8_shift 49 = .ok (.iload_n 3, 1) := by decide +kernel
theorem dX8_shift_50 : decode cX8_shift 50 = .ok (.iaload, 1) := by decide +kernel
theorem dX8_shift_51 : decode cX8_shift 51 = .ok (.if_icmp .eq 6, 3) := by decide +kernel
theorem dX8_shift_54 : decode cX8_shift 54 = .ok (.bipush (-12), 2) := by decide +kernel
theorem dX8_shift_56 : decode cX8_shift 56 = .ok (.ireturn, 1) := by decide +kernel
theorem dX8_shift_57 : decode cX8_shift 57 = .ok (.iload 5, 2) := by decide +kernel
theorem dX8_shift_59 : decode cX8_shift 59 = .ok (.ifCond .lt 39, 3) := by decide +kernel
theorem dX8_shift_62 : decode cX8_shift 62 = .ok (.iload_n 2, 1) := by decide +kernel
theorem dX8_shift_63 : decode cX8_shift 63 = .ok (.ifCond .lt 35, 3) := by decide +kernel
theorem dX8_shift_66 : decode cX8_shift 66 = .ok (.iload 4, 2) := by decide +kernel
theorem dX8_shift_68 : decode cX8_shift 68 = .ok (.ifCond .lt 30, 3) := by decide +kernel
theorem dX8_shift_71 : decode cX8_shift 71 = .ok (.iload_n 2, 1) := by decide +kernel
theorem dX8_shift_72 : decode cX8_shift 72 = .ok (.aload_n 0, 1) := by decide +kernel
theorem dX8_shift_73 : decode cX8_shift 73 = .ok (.getfield 235, 3) := by decide +kernel
theorem dX8_shift_76 : decode cX8_shift 76 = .ok (.iload_n 1, 1) := by decide +kernel
theorem dX8_shift_77 : decode cX8_shift 77 = .ok (.iaload, 1) := by decide +kernel
theorem dX8_shift_78 : decode cX8_shift 78 = .ok (.iload 5, 2) := by decide +kernel
theorem dX8_shift_80 : decode cX8_shift 80 = .ok (.isub, 1) := by decide +kernel
theorem dX8_shift_81 : decode cX8_shift 81 = .ok (.if_icmp .gt 17, 3) := by decide +kernel
theorem dX8_shift_84 : decode cX8_shift 84 = .ok (.iload 4, 2) := by decide +kernel
theorem dX8_shift_86 : decode cX8_shift 86 = .ok (.aload_n 0, 1) := by decide +kernel
theorem dX8_shift_87 : decode cX8_shift 87 = .ok (.getfield 235, 3) := by decide +kernel
theorem dX8_shift_90 : decode cX8_shift 90 = .ok (.iload_n 3, 1) := by decide +kernel
theorem dX8_shift_91 : decode cX8_shift 91 = .ok (.iaload, 1) := by decide +kernel
theorem dX8_shift_92 : decode cX8_shift 92 = .ok (.iload 5, 2) := by decide +kernel
theorem dX8_shift_94 : decode cX8_shift 94 = .ok (.isub, 1) := by decide +kernel
theorem dX8_shift_95 : decode cX8_shift 95 = .ok (.if_icmp .le 6, 3) := by decide +kernel
theorem dX8_shift_98 : decode cX8_shift 98 = .ok (.bipush (-13), 2) := by decide +kernel
theorem dX8_shift_100 : decode cX8_shift 100 = .ok (.ireturn, 1) := by decide +kernel
theorem dX8_shift_101 : decode cX8_shift 101 = .ok (.iconst 0, 1) := by decide +kernel
theorem dX8_shift_102 : decode cX8_shift 102 = .ok (.istore 6, 2) := by decide +kernel
theorem dX8_shift_104 : decode cX8_shift 104 = .ok (.iload 6, 2) := by decide +kernel
theorem dX8_shift_106 : decode cX8_shift 106 = .ok (.iload 5, 2) := by decide +kernel
theorem dX8_shift_108 : decode cX8_shift 108 = .ok (.if_icmp .ge 30, 3) := by decide +kernel
theorem dX8_shift_111 : decode cX8_shift 111 = .ok (.aload_n 0, 1) := by decide +kernel
theorem dX8_shift_112 : decode cX8_shift 112 = .ok (.getfield 242, 3) := by decide +kernel
theorem dX8_shift_115 : decode cX8_shift 115 = .ok (.iload 6, 2) := by decide +kernel
theorem dX8_shift_117 : decode cX8_shift 117 = .ok (.aload_n 0, 1) := by decide +kernel
theorem dX8_shift_118 : decode cX8_shift 118 = .ok (.getfield 238, 3) := by decide +kernel
theorem dX8_shift_121 : decode cX8_shift 121 = .ok (.bipush 60, 2) := by decide +kernel
theorem dX8_shift_123 : decode cX8_shift 123 = .ok (.iload_n 1, 1) := by decide +kernel
theorem dX8_shift_124 : decode cX8_shift 124 = .ok (.imul, 1) := by decide +kernel
theorem dX8_shift_125 : decode cX8_shift 125 = .ok (.iload_n 2, 1) := by decide +kernel
theorem dX8_shift_126 : decode cX8_shift 126 = .ok (.iadd, 1) := by decide +kernel
theorem dX8_shift_127 : decode cX8_shift 127 = .ok (.iload 6, 2) := by decide +kernel
theorem dX8_shift_129 : decode cX8_shift 129 = .ok (.iadd, 1) := by decide +kernel
theorem dX8_shift_130 : decode cX8_shift 130 = .ok (.laload, 1) := by decide +kernel
theorem dX8_shift_131 : decode cX8_shift 131 = .ok (.lastore, 1) := by decide +kernel
theorem dX8_shift_132 : decode cX8_shift 132 = .ok (.iinc 6 1, 3) := by decide +kernel
theorem dX8_shift_135 : decode cX8_shift 135 = .ok (.goto (-31), 3) := by decide +kernel
theorem dX8_shift_138 : decode cX8_shift 138 = .ok (.iconst 0, 1) := by decide +kernel
theorem dX8_shift_139 : decode cX8_shift 139 = .ok (.istore 6, 2) := by decide +kernel
theorem dX8_shift_141 : decode cX8_shift 141 = .ok (.iload 6, 2) := by decide +kernel
theorem dX8_shift_143 : decode cX8_shift 143 = .ok (.iload 5, 2) := by decide +kernel
theorem dX8_shift_145 : decode cX8_shift 145 = .ok (.if_icmp .ge 31, 3) := by decide +kernel
theorem dX8_shift_148 : decode cX8_shift 148 = .ok (.aload_n 0, 1) := by decide +kernel
theorem dX8_shift_149 : decode cX8_shift 149 = .ok (.getfield 238, 3) := by decide +kernel
theorem dX8_shift_152 : decode cX8_shift 152 = .ok (.bipush 60, 2) := by decide +kernel
theorem dX8_shift_154 : decode cX8_shift 154 = .ok (.iload_n 3, 1) := by decide +kernel
theorem dX8_shift_155 : decode cX8_shift 155 = .ok (.imul, 1) := by decide +kernel
theorem dX8_shift_156 : decode cX8_shift 156 = .ok (.iload 4, 2) := by decide +kernel
theorem dX8_shift_158 : decode cX8_shift 158 = .ok (.iadd, 1) := by decide +kernel
theorem dX8_shift_159 : decode cX8_shift 159 = .ok (.iload 6, 2) := by decide +kernel
theorem dX8_shift_161 : decode cX8_shift 161 = .ok (.iadd, 1) := by decide +kernel
theorem dX8_shift_162 : decode cX8_shift 162 = .ok (.aload_n 0, 1) := by decide +kernel
theorem dX8_shift_163 : decode cX8_shift 163 = .ok (.getfield 242, 3) := by decide +kernel
theorem dX8_shift_166 : decode cX8_shift 166 = .ok (.iload 6, 2) := by decide +kernel
theorem dX8_shift_168 : decode cX8_shift 168 = .ok (.laload, 1) := by decide +kernel
theorem dX8_shift_169 : decode cX8_shift 169 = .ok (.lastore, 1) := by decide +kernel
theorem dX8_shift_170 : decode cX8_shift 170 = .ok (.iinc 6 1, 3) := by decide +kernel
theorem dX8_shift_173 : decode cX8_shift 173 = .ok (.goto (-32), 3) := by decide +kernel
theorem dX8_shift_176 : decode cX8_shift 176 = .ok (.iload 5, 2) := by decide +kernel
theorem dX8_shift_178 : decode cX8_shift 178 = .ok (.ireturn, 1) := by decide +kernel
def f_X8_shift_L141 (p5 : Int32) (p3 : Int32) (p4 : Int32) (x6_21 : Int32) (u21 : Mem) : Option ((Int32 × Mem) ⊕ ((Int32 × Mem) ⊕ (Int32 × Mem))) := (if p5 ≤ x6_21 then some (Sum.inr Sum.inr (p5, u21)) else gin x6_21 60 (gin ((((60 : Int32) * p3) + p4) + x6_21) 360 (some (Sum.inl (x6_21 + (1 : Int32), sL u21 127 ((((60 : Int32) * p3) + p4) + x6_21).toNatClampNeg (gL u21 128 x6_21.toNatClampNeg))))))
def f_X8_shift_L104 (p5 : Int32) (p3 : Int32) (p4 : Int32) (p1 : Int32) (p2 : Int32) (x6_19 : Int32) (u19 : Mem) : Option ((Int32 × Mem) ⊕ (Int32 × Mem)) := (if p5 ≤ x6_19 then whileO (fun s => f_X8_shift_L141 p5 p3 p4 s.1 s.2) FUEL ((0 : Int32), u19) else gin ((((60 : Int32) * p1) + p2) + x6_19) 360 (gin x6_19 60 (some (Sum.inl (x6_19 + (1 : Int32), sL u19 128 x6_19.toNatClampNeg (gL u19 127 ((((60 : Int32) * p1) + p2) + x6_19).toNatClampNeg))))))
def f_X8_shift (p1 : Int32) (p2 : Int32) (p3 : Int32) (p4 : Int32) (p5 : Int32) (u : Mem) : Option (Int32 × Mem) := Option.bind (f_X8_isTape p1) (fun r1 => (if r1 = 0 then some ((-1 : Int32), u) else Option.bind (f_X8_isTape p3) (fun r3 => (if r3 = 0 then some ((-1 : Int32), u) else gin p1 6 ((if (gA u 125 p1.toNatClampNeg) < 0 then some ((-11 : Int32), u) else gin p3 6 ((if 0 ≤ (gA u 125 p3.toNatClampNeg) then gin p1 6 (gin p3 6 ((if (gA u 125 p1.toNatClampNeg) = (gA u 125 p3.toNatClampNeg) then (if p5 < 0 then some ((-13 : Int32), u) else (if p2 < 0 then some ((-13 : Int32), u) else (if p4 < 0 then some ((-13 : Int32), u) else gin p1 6 ((if ((gA u 126 p1.toNatClampNeg) - p5) < p2 then some ((-13 : Int32), u) else gin p3 6 ((if p4 ≤ ((gA u 126 p3.toNatClampNeg) - p5) then whileO (fun s => f_X8_shift_L104 p5 p3 p4 p1 p2 s.1 s.2) FUEL ((0 : Int32), u) else some ((-13 : Int32), u)))))))) else some ((-12 : Int32), u)))) else some ((-11 : Int32), u)))))))))
set_option maxHeartbeats 4000000 in
set_option maxRecDepth 100000 in
theorem k_X8_shift (l : Launch) (D : gDt) (base : Nat) (Z : gZt) (u : Mem) (p1 : Int32) (p2 : Int32) (p3 : Int32) (p4 : Int32) (p5 : Int32) (r : Int32) (u' : Mem) (hf : f_X8_shift p1 p2 p3 p4 p5 u = some (r, u')) : Met l yX8_shift (gws yX8_shift cX8_shift 7 (some .int)) (gRm 3 0 0) (gPc D base Z u [.ref (base + 82), .int p1, .int p2, .int p3, .int p4, .int p5]) (gQi D base r u') 0 0 (gF base) := by
  refine Met.ofW (cc := cX8_shift) (maxL := 7) (ret := some .int) (by decide) rfl ?_
  intro p e s m args below meth c s₁ B hml hv
  obtain ⟨rfl, C0, hG⟩ := g_enter B hml hv
  have hr := B.returns
  have C0 : gC p s m meth c _ cX8_shift 7 RX8 D base Z := C0
  have hx := C0.1
  have hb := C0.2.1
  have hl := lv_entry ([.ref (base + 82), .int p1, .int p2, .int p3, .int p4, .int p5]) (n := 7) (Nat.le_of_ble_eq_true rfl)
  rw [lg_entry_eq]
  generalize (lg_sl ([.ref (base + 82), .int p1, .int p2, .int p3, .int p4, .int p5]) ++ List.replicate (7 - (lg_sl ([.ref (base + 82), .int p1, .int p2, .int p3, .int p4, .int p5])).length) Slot.unset).toArray = ls at hl ⊢
  have hl : lv_has ls 7 [(0, .ref (base + 82)), (1, .int p1), (2, .int p2), (3, .int p3), (4, .int p4), (5, .int p5)] := hl
  obtain ⟨Q, hQ⟩ : ∃ Q, Q = MQ below (gQi D base r u') ([.ref (base + 82), .int p1, .int p2, .int p3, .int p4, .int p5] : List Value).toArray s 0 0 (gF base) := ⟨_, rfl⟩
  rw [← hQ]
  change W p l e (gRm 3 0 0) s m _ below meth c _ _ _ _ _ _
  unfold f_X8_shift at hf
  refine lv_aload_n hx hb dX8_shift_0 rfl (lv_at hl 0 rfl) ?_
  refine lv_iload_n hx hb dX8_shift_1 rfl (lv_at hl 1 rfl) ?_
  obtain ⟨r1, hc1, hf⟩ := pb_s hf
  refine g_doI0 hG (g_runV C0 hG (k_X8_isTape l D base Z u p1 r1 hc1) m_X8_isTape v_X8_isTape w_1372 (by decide) (g_recv C0 hG (L82 hG) rfl) rfl hl.1 rfl (Nat.le_of_ble_eq_true rfl) dX8_shift_2 ⟨Nat.zero_le _, Nat.zero_le _⟩) (fun H locs hG hk => ?_)
  refine lv_if_eq (tgt := 16) hx hb dX8_shift_5 (by decide) (fun c2 => ?_) (fun c2 => ?_)
  · have hf := gif_t c2 hf
    refine lv_iconst (v := (-1 : Int32)) hx hb dX8_shift_16 (by decide) ?_
    obtain ⟨hr1, hu⟩ := gret_s hf
    subst hr1
    subst hu
    subst hQ
    exact g_iret C0 hG hr dX8_shift_17
  · have hf := gif_f c2 hf
    refine lv_aload_n hx hb dX8_shift_8 rfl (lv_at hl 0 rfl) ?_
    refine lv_iload_n hx hb dX8_shift_9 rfl (lv_at hl 3 rfl) ?_
    obtain ⟨r3, hc3, hf⟩ := pb_s hf
    refine g_doI0 hG (g_runV C0 hG (k_X8_isTape l D base Z u p3 r3 hc3) m_X8_isTape v_X8_isTape w_1372 (by decide) (g_recv C0 hG (L82 hG) rfl) rfl hl.1 rfl (Nat.le_of_ble_eq_true rfl) dX8_shift_10 ⟨Nat.zero_le _, Nat.zero_le _⟩) (fun H locs hG hk => ?_)
    refine lv_if_ne (tgt := 18) hx hb dX8_shift_13 (by decide) (fun c4 => ?_) (fun c4 => ?_)
    · have hf := gif_f c4 hf
      refine lv_aload_n hx hb dX8_shift_18 rfl (lv_at hl 0 rfl) ?_
      refine g_getSa (o := 43) (a := 125) C0 hG (L82 hG) rfl 73 (by decide) rfl rfl w_919 dX8_shift_19 ?_
      refine lv_iload_n hx hb dX8_shift_22 rfl (lv_at hl 1 rfl) ?_
      obtain ⟨h5, hf⟩ := gin_s hf
      refine g_iald C0 hG (L125 hG) h5 dX8_shift_23 ?_
      refine lv_if_lt (tgt := 36) hx hb dX8_shift_24 (by decide) (fun c6 => ?_) (fun c6 => ?_)
      · have hf := gif_t c6 hf
        refine lv_bipush (v := (-11 : Int32)) hx hb dX8_shift_36 (by decide) ?_
        obtain ⟨hr1, hu⟩ := gret_s hf
        subst hr1
        subst hu
        subst hQ
        exact g_iret C0 hG hr dX8_shift_38
      · have hf := gif_f c6 hf
        refine lv_aload_n hx hb dX8_shift_27 rfl (lv_at hl 0 rfl) ?_
        refine g_getSa (o := 43) (a := 125) C0 hG (L82 hG) rfl 73 (by decide) rfl rfl w_919 dX8_shift_28 ?_
        refine lv_iload_n hx hb dX8_shift_31 rfl (lv_at hl 3 rfl) ?_
        obtain ⟨h7, hf⟩ := gin_s hf
        refine g_iald C0 hG (L125 hG) h7 dX8_shift_32 ?_
        refine lv_if_ge (tgt := 39) hx hb dX8_shift_33 (by decide) (fun c8 => ?_) (fun c8 => ?_)
        · have hf := gif_t c8 hf
          refine lv_aload_n hx hb dX8_shift_39 rfl (lv_at hl 0 rfl) ?_
          refine g_getSa (o := 43) (a := 125) C0 hG (L82 hG) rfl 73 (by decide) rfl rfl w_919 dX8_shift_40 ?_
          refine lv_iload_n hx hb dX8_shift_43 rfl (lv_at hl 1 rfl) ?_
          obtain ⟨h9, hf⟩ := gin_s hf
          refine g_iald C0 hG (L125 hG) h9 dX8_shift_44 ?_
          refine lv_aload_n hx hb dX8_shift_45 rfl (lv_at hl 0 rfl) ?_
          refine g_getSa (o := 43) (a := 125) C0 hG (L82 hG) rfl 73 (by decide) rfl rfl w_919 dX8_shift_46 ?_
          refine lv_iload_n hx hb dX8_shift_49 rfl (lv_at hl 3 rfl) ?_
          obtain ⟨h10, hf⟩ := gin_s hf
          refine g_iald C0 hG (L125 hG) h10 dX8_shift_50 ?_
          refine lv_icmp_eq (tgt := 57) hx hb dX8_shift_51 (by decide) (fun c11 => ?_) (fun c11 => ?_)
          · have hf := gif_t c11 hf
            refine lv_iload hx hb dX8_shift_57 (lv_at hl 5 rfl) ?_
            refine lv_if_lt (tgt := 98) hx hb dX8_shift_59 (by decide) (fun c12 => ?_) (fun c12 => ?_)
            · have hf := gif_t c12 hf
              refine lv_bipush (v := (-13 : Int32)) hx hb dX8_shift_98 (by decide) ?_
              obtain ⟨hr1, hu⟩ := gret_s hf
              subst hr1
              subst hu
              subst hQ
              exact g_iret C0 hG hr dX8_shift_100
            · have hf := gif_f c12 hf
              refine lv_iload_n hx hb dX8_shift_62 rfl (lv_at hl 2 rfl) ?_
              refine lv_if_lt (tgt := 98) hx hb dX8_shift_63 (by decide) (fun c13 => ?_) (fun c13 => ?_)
              · have hf := gif_t c13 hf
                refine lv_bipush (v := (-13 : Int32)) hx hb dX8_shift_98 (by decide) ?_
                obtain ⟨hr1, hu⟩ := gret_s hf
                subst hr1
                subst hu
                subst hQ
                exact g_iret C0 hG hr dX8_shift_100
              · have hf := gif_f c13 hf
                refine lv_iload hx hb dX8_shift_66 (lv_at hl 4 rfl) ?_
                refine lv_if_lt (tgt := 98) hx hb dX8_shift_68 (by decide) (fun c14 => ?_) (fun c14 => ?_)
                · have hf := gif_t c14 hf
                  refine lv_bipush (v := (-13 : Int32)) hx hb dX8_shift_98 (by decide) ?_
                  obtain ⟨hr1, hu⟩ := gret_s hf
                  subst hr1
                  subst hu
                  subst hQ
                  exact g_iret C0 hG hr dX8_shift_100
                · have hf := gif_f c14 hf
                  refine lv_iload_n hx hb dX8_shift_71 rfl (lv_at hl 2 rfl) ?_
                  refine lv_aload_n hx hb dX8_shift_72 rfl (lv_at hl 0 rfl) ?_
                  refine g_getSa (o := 44) (a := 126) C0 hG (L82 hG) rfl 74 (by decide) rfl rfl w_920 dX8_shift_73 ?_
                  refine lv_iload_n hx hb dX8_shift_76 rfl (lv_at hl 1 rfl) ?_
                  obtain ⟨h15, hf⟩ := gin_s hf
                  refine g_iald C0 hG (L126 hG) h15 dX8_shift_77 ?_
                  refine lv_iload hx hb dX8_shift_78 (lv_at hl 5 rfl) ?_
                  refine lv_isub hx hb dX8_shift_80 ?_
                  refine lv_icmp_gt (tgt := 98) hx hb dX8_shift_81 (by decide) (fun c16 => ?_) (fun c16 => ?_)
                  · have hf := gif_t c16 hf
                    refine lv_bipush (v := (-13 : Int32)) hx hb dX8_shift_98 (by decide) ?_
                    obtain ⟨hr1, hu⟩ := gret_s hf
                    subst hr1
                    subst hu
                    subst hQ
                    exact g_iret C0 hG hr dX8_shift_100
                  · have hf := gif_f c16 hf
                    refine lv_iload hx hb dX8_shift_84 (lv_at hl 4 rfl) ?_
                    refine lv_aload_n hx hb dX8_shift_86 rfl (lv_at hl 0 rfl) ?_
                    refine g_getSa (o := 44) (a := 126) C0 hG (L82 hG) rfl 74 (by decide) rfl rfl w_920 dX8_shift_87 ?_
                    refine lv_iload_n hx hb dX8_shift_90 rfl (lv_at hl 3 rfl) ?_
                    obtain ⟨h17, hf⟩ := gin_s hf
                    refine g_iald C0 hG (L126 hG) h17 dX8_shift_91 ?_
                    refine lv_iload hx hb dX8_shift_92 (lv_at hl 5 rfl) ?_
                    refine lv_isub hx hb dX8_shift_94 ?_
                    refine lv_icmp_le (tgt := 101) hx hb dX8_shift_95 (by decide) (fun c18 => ?_) (fun c18 => ?_)
                    · have hf := gif_t c18 hf
                      refine lv_iconst (v := (0 : Int32)) hx hb dX8_shift_101 (by decide) ?_
                      refine lv_istore (lv' := [(6, .int (0 : Int32)), (0, .ref (base + 82)), (1, .int p1), (2, .int p2), (3, .int p3), (4, .int p4), (5, .int p5)]) hx hb dX8_shift_102 hl (by decide) rfl (fun ls hl => ?_)
                      have loop19 : ∀ (n19 : Nat) (x6_19 : Int32) (u19 : Mem) (H : Heap) (locs : List Loc) (ls : Array Slot), gH D base s u19 H locs → lv_has ls 7 [(0, .ref (base + 82)), (1, .int p1), (2, .int p2), (3, .int p3), (4, .int p4), (5, .int p5), (6, .int x6_19)] → whileO (fun s => f_X8_shift_L104 p5 p3 p4 p1 p2 s.1 s.2) n19 (x6_19, u19) = some (r, u') → W p l e (gRm 3 0 0) s m ([.ref (base + 82), .int p1, .int p2, .int p3, .int p4, .int p5] : List Value).toArray below meth c H locs 0 0 Q (F0 m 104 ls []) := by
                        intro n19
                        induction n19 with
                        | zero => intro x6_19 u19 H locs ls hG hl hf; cases hf
                        | succ n19 ih19 =>
                          intro x6_19 u19 H locs ls hG hl hf
                          obtain ⟨X19, hf, hX19⟩ := while_s hf
                          have hf : f_X8_shift_L104 p5 p3 p4 p1 p2 x6_19 u19 = some X19 := hf
                          unfold f_X8_shift_L104 at hf
                          refine lv_iload hx hb dX8_shift_104 (lv_at hl 6 rfl) ?_
                          refine lv_iload hx hb dX8_shift_106 (lv_at hl 5 rfl) ?_
                          refine lv_icmp_ge (tgt := 138) hx hb dX8_shift_108 (by decide) (fun c20 => ?_) (fun c20 => ?_)
                          · have hf := gif_t c20 hf
                            refine lv_iconst (v := (0 : Int32)) hx hb dX8_shift_138 (by decide) ?_
                            refine lv_istore (lv' := [(6, .int (0 : Int32)), (0, .ref (base + 82)), (1, .int p1), (2, .int p2), (3, .int p3), (4, .int p4), (5, .int p5)]) hx hb dX8_shift_139 hl (by decide) rfl (fun ls hl => ?_)
                            have loop21 : ∀ (n21 : Nat) (x6_21 : Int32) (u21 : Mem) (H : Heap) (locs : List Loc) (ls : Array Slot), gH D base s u21 H locs → lv_has ls 7 [(0, .ref (base + 82)), (3, .int p3), (4, .int p4), (5, .int p5), (6, .int x6_21)] → whileO (fun s => f_X8_shift_L141 p5 p3 p4 s.1 s.2) n21 (x6_21, u21) = some X19 → W p l e (gRm 3 0 0) s m ([.ref (base + 82), .int p1, .int p2, .int p3, .int p4, .int p5] : List Value).toArray below meth c H locs 0 0 Q (F0 m 141 ls []) := by
                              intro n21
                              induction n21 with
                              | zero => intro x6_21 u21 H locs ls hG hl hf; cases hf
                              | succ n21 ih21 =>
                                intro x6_21 u21 H locs ls hG hl hf
                                obtain ⟨X21, hf, hX21⟩ := while_s hf
                                have hf : f_X8_shift_L141 p5 p3 p4 x6_21 u21 = some X21 := hf
                                unfold f_X8_shift_L141 at hf
                                refine lv_iload hx hb dX8_shift_141 (lv_at hl 4 rfl) ?_
                                refine lv_iload hx hb dX8_shift_143 (lv_at hl 3 rfl) ?_
                                refine lv_icmp_ge (tgt := 176) hx hb dX8_shift_145 (by decide) (fun c22 => ?_) (fun c22 => ?_)
                                · have hf := gif_t c22 hf
                                  refine lv_iload hx hb dX8_shift_176 (lv_at hl 3 rfl) ?_
                                  have hf := while_r hX21 hf
                                  have hf := while_r hX19 hf
                                  obtain ⟨hr1, hu⟩ := gret_s hf
                                  subst hr1
                                  subst hu
                                  subst hQ
                                  exact g_iret C0 hG hr dX8_shift_178
                                · have hf := gif_f c22 hf
                                  refine lv_aload_n hx hb dX8_shift_148 rfl (lv_at hl 0 rfl) ?_
                                  refine g_getSa (o := 45) (a := 127) C0 hG (L82 hG) rfl 75 (by decide) rfl rfl w_921 dX8_shift_149 ?_
                                  refine lv_bipush (v := (60 : Int32)) hx hb dX8_shift_152 (by decide) ?_
                                  refine lv_iload_n hx hb dX8_shift_154 rfl (lv_at hl 1 rfl) ?_
                                  refine lv_imul hx hb dX8_shift_155 ?_
                                  refine lv_iload hx hb dX8_shift_156 (lv_at hl 2 rfl) ?_
                                  refine lv_iadd hx hb dX8_shift_158 ?_
                                  refine lv_iload hx hb dX8_shift_159 (lv_at hl 4 rfl) ?_
                                  refine lv_iadd hx hb dX8_shift_161 ?_
                                  refine lv_aload_n hx hb dX8_shift_162 rfl (lv_at hl 0 rfl) ?_
                                  refine g_getSa (o := 46) (a := 128) C0 hG (L82 hG) rfl 76 (by decide) rfl rfl w_922 dX8_shift_163 ?_
                                  refine lv_iload hx hb dX8_shift_166 (lv_at hl 4 rfl) ?_
                                  obtain ⟨h23, hf⟩ := gin_s hf
                                  refine g_lald C0 hG (L128 hG) h23 dX8_shift_168 ?_
                                  obtain ⟨h24, hf⟩ := gin_s hf
                                  refine g_last C0 hG (L127 hG) h24 dX8_shift_169 (fun H locs hG => ?_)
                                  refine lv_iinc (v := x6_21 + (1 : Int32)) (lv' := [(6, .int (x6_21 + (1 : Int32))), (0, .ref (base + 82)), (3, .int p3), (4, .int p4), (5, .int p5)]) hx hb dX8_shift_170 hl (k := 4) rfl rfl (by decide) rfl (fun ls hl => ?_)
                                  refine lv_goto (tgt := 141) hx hb dX8_shift_173 (by decide) ?_
                                  have hf := while_l hX21 hf
                                  exact ih21 (x6_21 + (1 : Int32)) (sL u21 127 ((((60 : Int32) * p3) + p4) + x6_21).toNatClampNeg (gL u21 128 x6_21.toNatClampNeg)) _ _ ls hG (lv_sub hl [1, 2, 3, 4, 0] rfl) hf
                            exact loop21 FUEL (0 : Int32) u19 _ _ ls hG (lv_sub hl [1, 4, 5, 6, 0] rfl) hf
                          · have hf := gif_f c20 hf
                            refine lv_aload_n hx hb dX8_shift_111 rfl (lv_at hl 0 rfl) ?_
                            refine g_getSa (o := 46) (a := 128) C0 hG (L82 hG) rfl 76 (by decide) rfl rfl w_922 dX8_shift_112 ?_
                            refine lv_iload hx hb dX8_shift_115 (lv_at hl 6 rfl) ?_
                            refine lv_aload_n hx hb dX8_shift_117 rfl (lv_at hl 0 rfl) ?_
                            refine g_getSa (o := 45) (a := 127) C0 hG (L82 hG) rfl 75 (by decide) rfl rfl w_921 dX8_shift_118 ?_
                            refine lv_bipush (v := (60 : Int32)) hx hb dX8_shift_121 (by decide) ?_
                            refine lv_iload_n hx hb dX8_shift_123 rfl (lv_at hl 1 rfl) ?_
                            refine lv_imul hx hb dX8_shift_124 ?_
                            refine lv_iload_n hx hb dX8_shift_125 rfl (lv_at hl 2 rfl) ?_
                            refine lv_iadd hx hb dX8_shift_126 ?_
                            refine lv_iload hx hb dX8_shift_127 (lv_at hl 6 rfl) ?_
                            refine lv_iadd hx hb dX8_shift_129 ?_
                            obtain ⟨h25, hf⟩ := gin_s hf
                            refine g_lald C0 hG (L127 hG) h25 dX8_shift_130 ?_
                            obtain ⟨h26, hf⟩ := gin_s hf
                            refine g_last C0 hG (L128 hG) h26 dX8_shift_131 (fun H locs hG => ?_)
                            refine lv_iinc (v := x6_19 + (1 : Int32)) (lv' := [(6, .int (x6_19 + (1 : Int32))), (0, .ref (base + 82)), (1, .int p1), (2, .int p2), (3, .int p3), (4, .int p4), (5, .int p5)]) hx hb dX8_shift_132 hl (k := 6) rfl rfl (by decide) rfl (fun ls hl => ?_)
                            refine lv_goto (tgt := 104) hx hb dX8_shift_135 (by decide) ?_
                            have hf := while_l hX19 hf
                            exact ih19 (x6_19 + (1 : Int32)) (sL u19 128 x6_19.toNatClampNeg (gL u19 127 ((((60 : Int32) * p1) + p2) + x6_19).toNatClampNeg)) _ _ ls hG (lv_sub hl [1, 2, 3, 4, 5, 6, 0] rfl) hf
                      exact loop19 FUEL (0 : Int32) u _ _ ls hG (lv_sub hl [1, 2, 3, 4, 5, 6, 0] rfl) hf
                    · have hf := gif_f c18 hf
                      refine lv_bipush (v := (-13 : Int32)) hx hb dX8_shift_98 (by decide) ?_
                      obtain ⟨hr1, hu⟩ := gret_s hf
                      subst hr1
                      subst hu
                      subst hQ
                      exact g_iret C0 hG hr dX8_shift_100
          · have hf := gif_f c11 hf
            refine lv_bipush (v := (-12 : Int32)) hx hb dX8_shift_54 (by decide) ?_
            obtain ⟨hr1, hu⟩ := gret_s hf
            subst hr1
            subst hu
            subst hQ
            exact g_iret C0 hG hr dX8_shift_56
        · have hf := gif_f c8 hf
          refine lv_bipush (v := (-11 : Int32)) hx hb dX8_shift_36 (by decide) ?_
          obtain ⟨hr1, hu⟩ := gret_s hf
          subst hr1
          subst hu
          subst hQ
          exact g_iret C0 hG hr dX8_shift_38
    · have hf := gif_t c4 hf
      refine lv_iconst (v := (-1 : Int32)) hx hb dX8_shift_16 (by decide) ?_
      obtain ⟨hr1, hu⟩ := gret_s hf
      subst hr1
      subst hu
      subst hQ
      exact g_iret C0 hG hr dX8_shift_17
