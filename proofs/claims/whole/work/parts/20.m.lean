theorem dX8_isSeat_0 : decode cX8_isSeat 0 = .ok (.iload_n 1, 1) := by decide +kernel
theorem dX8_isSeat_1 : decode cX8_isSeat 1 = .ok (.ifCond .lt 29, 3) := by decide +kernel
theorem dX8_isSeat_4 : decode cX8_isSeat 4 = .ok (.aload_n 0, 1) := by decide +kernel
theorem dX8_isSeat_5 : decode cX8_isSeat 5 = .ok (.iload_n 1, 1) := by decide +kernel
theorem dX8_isSeat_6 : decode cX8_isSeat 6 = .ok (.bipush 10, 2) := by decide +kernel
theorem dX8_isSeat_8 : decode cX8_isSeat 8 = .ok (.idiv, 1) := by decide +kernel
theorem dX8_isSeat_9 : decode cX8_isSeat 9 = .ok (.invokevirtual 260, 3) := by decide +kernel
theorem dX8_isSeat_12 : decode cX8_isSeat 12 = .ok (.ifCond .eq 18, 3) := by decide +kernel
theorem dX8_isSeat_15 : decode cX8_isSeat 15 = .ok (.aload_n 0, 1) := by decide +kernel
theorem dX8_isSeat_16 : decode cX8_isSeat 16 = .ok (.iload_n 1, 1) := by decide +kernel
theorem dX8_isSeat_17 : decode cX8_isSeat 17 = .ok (.bipush 10, 2) := by decide +kernel
theorem dX8_isSeat_19 : decode cX8_isSeat 19 = .ok (.irem, 1) := by decide +kernel
theorem dX8_isSeat_20 : decode cX8_isSeat 20 = .ok (.invokevirtual 253, 3) := by decide +kernel
theorem dX8_isSeat_23 : decode cX8_isSeat 23 = .ok (.ifCond .eq 7, 3) := by decide +kernel
theorem dX8_isSeat_26 : decode cX8_isSeat 26 = .ok (.iconst 1, 1) := by decide +kernel
theorem dX8_isSeat_27 : decode cX8_isSeat 27 = .ok (.goto 4, 3) := by decide +kernel
theorem dX8_isSeat_30 : decode cX8_isSeat 30 = .ok (.iconst 0, 1) := by decide +kernel
theorem dX8_isSeat_31 : decode cX8_isSeat 31 = .ok (.ireturn, 1) := by decide +kernel
def f_X8_isSeat (p1 : Int32) (u : Mem) : Option (Int32) := (if p1 < 0 then some (0 : Int32) else Option.bind (f_X8_isOne (p1 / (10 : Int32)) u) (fun r2 => (if r2 = 0 then some (0 : Int32) else Option.bind (f_X8_isCarriage (p1 - p1 / (10 : Int32) * (10 : Int32))) (fun r4 => (if r4 = 0 then some (0 : Int32) else some (1 : Int32))))))
set_option maxHeartbeats 4000000 in
set_option maxRecDepth 100000 in
theorem k_X8_isSeat (l : Launch) (D : gDt) (base : Nat) (Z : gZt) (u : Mem) (p1 : Int32) (r : Int32) (hf : f_X8_isSeat p1 u = some r) : Met l yX8_isSeat (gws yX8_isSeat cX8_isSeat 2 (some .boolean)) (gRm 3 0 0) (gPc D base Z u [.ref (base + 82), .int p1]) (gQi D base r u) 0 0 (gF base) := by
  refine Met.ofW (cc := cX8_isSeat) (maxL := 2) (ret := some .boolean) (by decide) rfl ?_
  intro p e s m args below meth c s₁ B hml hv
  obtain ⟨rfl, C0, hG⟩ := g_enter B hml hv
  have hr := B.returns
  have C0 : gC p s m meth c _ cX8_isSeat 2 RX8 D base Z := C0
  have hx := C0.1
  have hb := C0.2.1
  have hl := lv_entry ([.ref (base + 82), .int p1]) (n := 2) (Nat.le_of_ble_eq_true rfl)
  rw [lg_entry_eq]
  generalize (lg_sl ([.ref (base + 82), .int p1]) ++ List.replicate (2 - (lg_sl ([.ref (base + 82), .int p1])).length) Slot.unset).toArray = ls at hl ⊢
  have hl : lv_has ls 2 [(0, .ref (base + 82)), (1, .int p1)] := hl
  obtain ⟨Q, hQ⟩ : ∃ Q, Q = MQ below (gQi D base r u) ([.ref (base + 82), .int p1] : List Value).toArray s 0 0 (gF base) := ⟨_, rfl⟩
  rw [← hQ]
  change W p l e (gRm 3 0 0) s m _ below meth c _ _ _ _ _ _
  unfold f_X8_isSeat at hf
  refine lv_iload_n hx hb dX8_isSeat_0 rfl (lv_at hl 1 rfl) ?_
  refine lv_if_lt (tgt := 30) hx hb dX8_isSeat_1 (by decide) (fun c1 => ?_) (fun c1 => ?_)
  · have hf := gif_t c1 hf
    refine lv_iconst (v := (0 : Int32)) hx hb dX8_isSeat_30 (by decide) ?_
    have hf := Option.some.inj hf
    subst hf
    subst hQ
    exact g_zret C0 hG hr (by decide) dX8_isSeat_31
  · have hf := gif_f c1 hf
    refine lv_aload_n hx hb dX8_isSeat_4 rfl (lv_at hl 0 rfl) ?_
    refine lv_iload_n hx hb dX8_isSeat_5 rfl (lv_at hl 1 rfl) ?_
    refine lv_bipush (v := (10 : Int32)) hx hb dX8_isSeat_6 (by decide) ?_
    refine lv_idiv hx hb dX8_isSeat_8 (by decide) ?_
    obtain ⟨r2, hc2, hf⟩ := pb_s hf
    refine g_doI0 hG (g_runV C0 hG (k_X8_isOne l D base Z u (p1 / (10 : Int32)) r2 hc2) m_X8_isOne v_X8_isOne w_1098 (by decide) (g_recv C0 hG (L82 hG) rfl) rfl hl.1 rfl (Nat.le_of_ble_eq_true rfl) dX8_isSeat_9 ⟨Nat.zero_le _, Nat.zero_le _⟩) (fun H locs hG hk => ?_)
    refine lv_if_eq (tgt := 30) hx hb dX8_isSeat_12 (by decide) (fun c3 => ?_) (fun c3 => ?_)
    · have hf := gif_t c3 hf
      refine lv_iconst (v := (0 : Int32)) hx hb dX8_isSeat_30 (by decide) ?_
      have hf := Option.some.inj hf
      subst hf
      subst hQ
      exact g_zret C0 hG hr (by decide) dX8_isSeat_31
    · have hf := gif_f c3 hf
      refine lv_aload_n hx hb dX8_isSeat_15 rfl (lv_at hl 0 rfl) ?_
      refine lv_iload_n hx hb dX8_isSeat_16 rfl (lv_at hl 1 rfl) ?_
      refine lv_bipush (v := (10 : Int32)) hx hb dX8_isSeat_17 (by decide) ?_
      refine lv_irem hx hb dX8_isSeat_19 (by decide) ?_
      obtain ⟨r4, hc4, hf⟩ := pb_s hf
      refine g_doI0 hG (g_runV C0 hG (k_X8_isCarriage l D base Z u (p1 - p1 / (10 : Int32) * (10 : Int32)) r4 hc4) m_X8_isCarriage v_X8_isCarriage w_1086 (by decide) (g_recv C0 hG (L82 hG) rfl) rfl hl.1 rfl (Nat.le_of_ble_eq_true rfl) dX8_isSeat_20 ⟨Nat.zero_le _, Nat.zero_le _⟩) (fun H locs hG hk => ?_)
      refine lv_if_eq (tgt := 30) hx hb dX8_isSeat_23 (by decide) (fun c5 => ?_) (fun c5 => ?_)
      · have hf := gif_t c5 hf
        refine lv_iconst (v := (0 : Int32)) hx hb dX8_isSeat_30 (by decide) ?_
        have hf := Option.some.inj hf
        subst hf
        subst hQ
        exact g_zret C0 hG hr (by decide) dX8_isSeat_31
      · have hf := gif_f c5 hf
        refine lv_iconst (v := (1 : Int32)) hx hb dX8_isSeat_26 (by decide) ?_
        refine lv_goto (tgt := 31) hx hb dX8_isSeat_27 (by decide) ?_
        have hf := Option.some.inj hf
        subst hf
        subst hQ
        exact g_zret C0 hG hr (by decide) dX8_isSeat_31
theorem dX8_plan_0 : decode cX8_plan 0 = .ok (.iload_n 1, 1) := by decide +kernel
theorem dX8_plan_1 : decode cX8_plan 1 = .ok (.iconst (-1), 1) := by decide +kernel
theorem dX8_plan_2 : decode cX8_plan 2 = .ok (.if_icmp .ne 10, 3) := by decide +kernel
theorem dX8_plan_5 : decode cX8_plan 5 = .ok (.aload_n 0, 1) := by decide +kernel
theorem dX8_plan_6 : decode cX8_plan 6 = .ok (.iconst 0, 1) := by decide +kernel
theorem dX8_plan_7 : decode cX8_plan 7 = .ok (.putfield 135, 3) := by decide +kernel
theorem dX8_plan_10 : decode cX8_plan 10 = .ok (.iconst 0, 1) := by decide +kernel
theorem dX8_plan_11 : decode cX8_plan 11 = .ok (.ireturn, 1) := by decide +kernel
theorem dX8_plan_12 : decode cX8_plan 12 = .ok (.aload_n 0, 1) := by decide +kernel
theorem dX8_plan_13 : decode cX8_plan 13 = .ok (.iload_n 1, 1) := by decide +kernel
theorem dX8_plan_14 : decode cX8_plan 14 = .ok (.iconst 0, 1) := by decide +kernel
theorem dX8_plan_15 : decode cX8_plan 15 = .ok (.iconst 3, 1) := by decide +kernel
theorem dX8_plan_16 : decode cX8_plan 16 = .ok (.invokevirtual 249, 3) := by decide +kernel
theorem dX8_plan_19 : decode cX8_plan 19 = .ok (.ifCond .eq 34, 3) := by decide +kernel
theorem dX8_plan_22 : decode cX8_plan 22 = .ok (.aload_n 0, 1) := by decide +kernel
theorem dX8_plan_23 : decode cX8_plan 23 = .ok (.iload_n 1, 1) := by decide +kernel
theorem dX8_plan_24 : decode cX8_plan 24 = .ok (.iconst 1, 1) := by decide +kernel
theorem dX8_plan_25 : decode cX8_plan 25 = .ok (.iconst 2, 1) := by decide +kernel
theorem dX8_plan_26 : decode cX8_plan 26 = .ok (.invokevirtual 249, 3) := by decide +kernel
theorem dX8_plan_29 : decode cX8_plan 29 = .ok (.ifCond .eq 11, 3) := by decide +kernel
theorem dX8_plan_32 : decode cX8_plan 32 = .ok (.aload_n 0, 1) := by decide +kernel
theorem dX8_plan_33 : decode cX8_plan 33 = .ok (.iload_n 2, 1) := by decide +kernel
theorem dX8_plan_34 : decode cX8_plan 34 = .ok (.invokevirtual 260, 3) := by decide +kernel
theorem dX8_plan_37 : decode cX8_plan 37 = .ok (.ifCond .eq 16, 3) := by decide +kernel
theorem dX8_plan_40 : decode cX8_plan 40 = .ok (.iload_n 1, 1) := by decide +kernel
theorem dX8_plan_41 : decode cX8_plan 41 = .ok (.iconst 3, 1) := by decide +kernel
theorem dX8_plan_42 : decode cX8_plan 42 = .ok (.if_icmp .ne 13, 3) := by decide +kernel
theorem dX8_plan_45 : decode cX8_plan 45 = .ok (.aload_n 0, 1) := by decide +kernel
theorem dX8_plan_46 : decode cX8_plan 46 = .ok (.iload_n 2, 1) := by decide +kernel
theorem dX8_plan_47 : decode cX8_plan 47 = .ok (.invokevirtual 401, 3) := by decide +kernel
theorem dX8_plan_50 : decode cX8_plan 50 = .ok (.ifCond .ne 5, 3) := by decide +kernel
theorem dX8_plan_53 : decode cX8_plan 53 = .ok (.iconst (-1), 1) := by decide +kernel
theorem dX8_plan_54 : decode cX8_plan 54 = .ok (.ireturn, 1) := by decide +kernel
theorem dX8_plan_55 : decode cX8_plan 55 = .ok (.aload_n 0, 1) := by decide +kernel
theorem dX8_plan_56 : decode cX8_plan 56 = .ok (.getfield 135, 3) := by decide +kernel
theorem dX8_plan_59 : decode cX8_plan 59 = .ok (.bipush 10, 2) := by decide +kernel
theorem dX8_plan_61 : decode cX8_plan 61 = .ok (.if_icmp .ne 6, 3) := by decide +kernel
theorem dX8_plan_64 : decode cX8_plan 64 = .ok (.bipush (-4), 2) := by decide +kernel
theorem dX8_plan_66 : decode cX8_plan 66 = .ok (.ireturn, 1) := by decide +kernel
theorem dX8_plan_67 : decode cX8_plan 67 = .ok (.aload_n 0, 1) := by decide +kernel
theorem dX8_plan_68 : decode cX8_plan 68 = .ok (.getfield 141, 3) := by decide +kernel
theorem dX8_plan_71 : decode cX8_plan 71 = .ok (.aload_n 0, 1) := by decide +kernel
theorem dX8_plan_72 : decode cX8_plan 72 = .ok (.getfield 135, 3) := by decide +kernel
theorem dX8_plan_75 : decode cX8_plan 75 = .ok (.iload_n 1, 1) := by decide +kernel
theorem dX8_plan_76 : decode cX8_plan 76 = .ok (.iastore, 1) := by decide +kernel
theorem dX8_plan_77 : decode cX8_plan 77 = .ok (.aload_n 0, 1) := by decide +kernel
theorem dX8_plan_78 : decode cX8_plan 78 = .ok (.getfield 144, 3) := by decide +kernel
theorem dX8_plan_81 : decode cX8_plan 81 = .ok (.aload_n 0, 1) := by decide +kernel
theorem dX8_plan_82 : decode cX8_plan 82 = .ok (.getfield 135, 3) := by decide +kernel
theorem dX8_plan_85 : decode cX8_plan 85 = .ok (.iload_n 1, 1) := by decide +kernel
theorem dX8_plan_86 : decode cX8_plan 86 = .ok (.ifCond .le 7, 3) := by decide +kernel
theorem dX8_plan_89 : decode cX8_plan 89 = .ok (.iload_n 2, 1) := by decide +kernel
theorem dX8_plan_90 : decode cX8_plan 90 = .ok (.goto 4, 3) := by decide +kernel
theorem dX8_plan_93 : decode cX8_plan 93 = .ok (.iconst 0, 1) := by decide +kernel
theorem dX8_plan_94 : decode cX8_plan 94 = .ok (.iastore, 1) := by decide +kernel
theorem dX8_plan_95 : decode cX8_plan 95 = .ok (.aload_n 0, 1) := by decide +kernel
theorem dX8_plan_96 : decode cX8_plan 96 = .ok (.dup, 1) := by decide +kernel
theorem dX8_plan_97 : decode cX8_plan 97 = .ok (.getfield 135, 3) := by decide +kernel
theorem dX8_plan_100 : decode cX8_plan 100 = .ok (.iconst 1, 1) := by decide +kernel
theorem dX8_plan_101 : decode cX8_plan 101 = .ok (.iadd, 1) := by decide +kernel
theorem dX8_plan_102 : decode cX8_plan 102 = .ok (.putfield 135, 3) := by decide +kernel
theorem dX8_plan_105 : decode cX8_plan 105 = .ok (.aload_n 0, 1) := by decide +kernel
theorem dX8_plan_106 : decode cX8_plan 106 = .ok (.getfield 135, 3) := by decide +kernel
theorem dX8_plan_109 : decode cX8_plan 109 = .ok (.ireturn, 1) := by decide +kernel
def f_X8_plan (p1 : Int32) (p2 : Int32) (u : Mem) : Option (Int32 × Mem) := (if p1 = (-1 : Int32) then some ((0 : Int32), sI u 82 41 (0 : Int32)) else Option.bind (f_X8_in p1 (0 : Int32) (3 : Int32)) (fun r2 => (if r2 = 0 then some ((-1 : Int32), u) else Option.bind (f_X8_in p1 (1 : Int32) (2 : Int32)) (fun r4 => (if r4 = 0 then (if p1 = (3 : Int32) then Option.bind (f_X8_isSeat p2 u) (fun r12 => (if r12 = 0 then some ((-1 : Int32), u) else (if (gI u 82 41) = (10 : Int32) then some ((-4 : Int32), u) else gin (gI u 82 41) 10 ((if p1 ≤ 0 then gin (gI (sA u 106 (gI u 82 41).toNatClampNeg p1) 82 41) 10 (some (gI (sI (sA (sA u 106 (gI u 82 41).toNatClampNeg p1) 107 (gI (sA u 106 (gI u 82 41).toNatClampNeg p1) 82 41).toNatClampNeg (0 : Int32)) 82 41 ((gI (sA (sA u 106 (gI u 82 41).toNatClampNeg p1) 107 (gI (sA u 106 (gI u 82 41).toNatClampNeg p1) 82 41).toNatClampNeg (0 : Int32)) 82 41) + (1 : Int32))) 82 41, sI (sA (sA u 106 (gI u 82 41).toNatClampNeg p1) 107 (gI (sA u 106 (gI u 82 41).toNatClampNeg p1) 82 41).toNatClampNeg (0 : Int32)) 82 41 ((gI (sA (sA u 106 (gI u 82 41).toNatClampNeg p1) 107 (gI (sA u 106 (gI u 82 41).toNatClampNeg p1) 82 41).toNatClampNeg (0 : Int32)) 82 41) + (1 : Int32)))) else gin (gI (sA u 106 (gI u 82 41).toNatClampNeg p1) 82 41) 10 (some (gI (sI (sA (sA u 106 (gI u 82 41).toNatClampNeg p1) 107 (gI (sA u 106 (gI u 82 41).toNatClampNeg p1) 82 41).toNatClampNeg p2) 82 41 ((gI (sA (sA u 106 (gI u 82 41).toNatClampNeg p1) 107 (gI (sA u 106 (gI u 82 41).toNatClampNeg p1) 82 41).toNatClampNeg p2) 82 41) + (1 : Int32))) 82 41, sI (sA (sA u 106 (gI u 82 41).toNatClampNeg p1) 107 (gI (sA u 106 (gI u 82 41).toNatClampNeg p1) 82 41).toNatClampNeg p2) 82 41 ((gI (sA (sA u 106 (gI u 82 41).toNatClampNeg p1) 107 (gI (sA u 106 (gI u 82 41).toNatClampNeg p1) 82 41).toNatClampNeg p2) 82 41) + (1 : Int32))))))))) else (if (gI u 82 41) = (10 : Int32) then some ((-4 : Int32), u) else gin (gI u 82 41) 10 ((if p1 ≤ 0 then gin (gI (sA u 106 (gI u 82 41).toNatClampNeg p1) 82 41) 10 (some (gI (sI (sA (sA u 106 (gI u 82 41).toNatClampNeg p1) 107 (gI (sA u 106 (gI u 82 41).toNatClampNeg p1) 82 41).toNatClampNeg (0 : Int32)) 82 41 ((gI (sA (sA u 106 (gI u 82 41).toNatClampNeg p1) 107 (gI (sA u 106 (gI u 82 41).toNatClampNeg p1) 82 41).toNatClampNeg (0 : Int32)) 82 41) + (1 : Int32))) 82 41, sI (sA (sA u 106 (gI u 82 41).toNatClampNeg p1) 107 (gI (sA u 106 (gI u 82 41).toNatClampNeg p1) 82 41).toNatClampNeg (0 : Int32)) 82 41 ((gI (sA (sA u 106 (gI u 82 41).toNatClampNeg p1) 107 (gI (sA u 106 (gI u 82 41).toNatClampNeg p1) 82 41).toNatClampNeg (0 : Int32)) 82 41) + (1 : Int32)))) else gin (gI (sA u 106 (gI u 82 41).toNatClampNeg p1) 82 41) 10 (some (gI (sI (sA (sA u 106 (gI u 82 41).toNatClampNeg p1) 107 (gI (sA u 106 (gI u 82 41).toNatClampNeg p1) 82 41).toNatClampNeg p2) 82 41 ((gI (sA (sA u 106 (gI u 82 41).toNatClampNeg p1) 107 (gI (sA u 106 (gI u 82 41).toNatClampNeg p1) 82 41).toNatClampNeg p2) 82 41) + (1 : Int32))) 82 41, sI (sA (sA u 106 (gI u 82 41).toNatClampNeg p1) 107 (gI (sA u 106 (gI u 82 41).toNatClampNeg p1) 82 41).toNatClampNeg p2) 82 41 ((gI (sA (sA u 106 (gI u 82 41).toNatClampNeg p1) 107 (gI (sA u 106 (gI u 82 41).toNatClampNeg p1) 82 41).toNatClampNeg p2) 82 41) + (1 : Int32)))))))) else Option.bind (f_X8_isOne p2 u) (fun r19 => (if r19 = 0 then some ((-1 : Int32), u) else (if p1 = (3 : Int32) then Option.bind (f_X8_isSeat p2 u) (fun r27 => (if r27 = 0 then some ((-1 : Int32), u) else (if (gI u 82 41) = (10 : Int32) then some ((-4 : Int32), u) else gin (gI u 82 41) 10 ((if p1 ≤ 0 then gin (gI (sA u 106 (gI u 82 41).toNatClampNeg p1) 82 41) 10 (some (gI (sI (sA (sA u 106 (gI u 82 41).toNatClampNeg p1) 107 (gI (sA u 106 (gI u 82 41).toNatClampNeg p1) 82 41).toNatClampNeg (0 : Int32)) 82 41 ((gI (sA (sA u 106 (gI u 82 41).toNatClampNeg p1) 107 (gI (sA u 106 (gI u 82 41).toNatClampNeg p1) 82 41).toNatClampNeg (0 : Int32)) 82 41) + (1 : Int32))) 82 41, sI (sA (sA u 106 (gI u 82 41).toNatClampNeg p1) 107 (gI (sA u 106 (gI u 82 41).toNatClampNeg p1) 82 41).toNatClampNeg (0 : Int32)) 82 41 ((gI (sA (sA u 106 (gI u 82 41).toNatClampNeg p1) 107 (gI (sA u 106 (gI u 82 41).toNatClampNeg p1) 82 41).toNatClampNeg (0 : Int32)) 82 41) + (1 : Int32)))) else gin (gI (sA u 106 (gI u 82 41).toNatClampNeg p1) 82 41) 10 (some (gI (sI (sA (sA u 106 (gI u 82 41).toNatClampNeg p1) 107 (gI (sA u 106 (gI u 82 41).toNatClampNeg p1) 82 41).toNatClampNeg p2) 82 41 ((gI (sA (sA u 106 (gI u 82 41).toNatClampNeg p1) 107 (gI (sA u 106 (gI u 82 41).toNatClampNeg p1) 82 41).toNatClampNeg p2) 82 41) + (1 : Int32))) 82 41, sI (sA (sA u 106 (gI u 82 41).toNatClampNeg p1) 107 (gI (sA u 106 (gI u 82 41).toNatClampNeg p1) 82 41).toNatClampNeg p2) 82 41 ((gI (sA (sA u 106 (gI u 82 41).toNatClampNeg p1) 107 (gI (sA u 106 (gI u 82 41).toNatClampNeg p1) 82 41).toNatClampNeg p2) 82 41) + (1 : Int32))))))))) else (if (gI u 82 41) = (10 : Int32) then some ((-4 : Int32), u) else gin (gI u 82 41) 10 ((if p1 ≤ 0 then gin (gI (sA u 106 (gI u 82 41).toNatClampNeg p1) 82 41) 10 (some (gI (sI (sA (sA u 106 (gI u 82 41).toNatClampNeg p1) 107 (gI (sA u 106 (gI u 82 41).toNatClampNeg p1) 82 41).toNatClampNeg (0 : Int32)) 82 41 ((gI (sA (sA u 106 (gI u 82 41).toNatClampNeg p1) 107 (gI (sA u 106 (gI u 82 41).toNatClampNeg p1) 82 41).toNatClampNeg (0 : Int32)) 82 41) + (1 : Int32))) 82 41, sI (sA (sA u 106 (gI u 82 41).toNatClampNeg p1) 107 (gI (sA u 106 (gI u 82 41).toNatClampNeg p1) 82 41).toNatClampNeg (0 : Int32)) 82 41 ((gI (sA (sA u 106 (gI u 82 41).toNatClampNeg p1) 107 (gI (sA u 106 (gI u 82 41).toNatClampNeg p1) 82 41).toNatClampNeg (0 : Int32)) 82 41) + (1 : Int32)))) else gin (gI (sA u 106 (gI u 82 41).toNatClampNeg p1) 82 41) 10 (some (gI (sI (sA (sA u 106 (gI u 82 41).toNatClampNeg p1) 107 (gI (sA u 106 (gI u 82 41).toNatClampNeg p1) 82 41).toNatClampNeg p2) 82 41 ((gI (sA (sA u 106 (gI u 82 41).toNatClampNeg p1) 107 (gI (sA u 106 (gI u 82 41).toNatClampNeg p1) 82 41).toNatClampNeg p2) 82 41) + (1 : Int32))) 82 41, sI (sA (sA u 106 (gI u 82 41).toNatClampNeg p1) 107 (gI (sA u 106 (gI u 82 41).toNatClampNeg p1) 82 41).toNatClampNeg p2) 82 41 ((gI (sA (sA u 106 (gI u 82 41).toNatClampNeg p1) 107 (gI (sA u 106 (gI u 82 41).toNatClampNeg p1) 82 41).toNatClampNeg p2) 82 41) + (1 : Int32)))))))))))))))
set_option maxHeartbeats 4000000 in
set_option maxRecDepth 100000 in
theorem k_X8_plan (l : Launch) (D : gDt) (base : Nat) (Z : gZt) (u : Mem) (p1 : Int32) (p2 : Int32) (r : Int32) (u' : Mem) (hf : f_X8_plan p1 p2 u = some (r, u')) : Met l yX8_plan (gws yX8_plan cX8_plan 3 (some .int)) (gRm 4 0 0) (gPc D base Z u [.ref (base + 82), .int p1, .int p2]) (gQi D base r u') 0 0 (gF base) := by
  refine Met.ofW (cc := cX8_plan) (maxL := 3) (ret := some .int) (by decide) rfl ?_
  intro p e s m args below meth c s₁ B hml hv
  obtain ⟨rfl, C0, hG⟩ := g_enter B hml hv
  have hr := B.returns
  have C0 : gC p s m meth c _ cX8_plan 3 RX8 D base Z := C0
  have hx := C0.1
  have hb := C0.2.1
  have hl := lv_entry ([.ref (base + 82), .int p1, .int p2]) (n := 3) (Nat.le_of_ble_eq_true rfl)
  rw [lg_entry_eq]
  generalize (lg_sl ([.ref (base + 82), .int p1, .int p2]) ++ List.replicate (3 - (lg_sl ([.ref (base + 82), .int p1, .int p2])).length) Slot.unset).toArray = ls at hl ⊢
  have hl : lv_has ls 3 [(0, .ref (base + 82)), (1, .int p1), (2, .int p2)] := hl
  obtain ⟨Q, hQ⟩ : ∃ Q, Q = MQ below (gQi D base r u') ([.ref (base + 82), .int p1, .int p2] : List Value).toArray s 0 0 (gF base) := ⟨_, rfl⟩
  rw [← hQ]
  change W p l e (gRm 4 0 0) s m _ below meth c _ _ _ _ _ _
  unfold f_X8_plan at hf
  refine lv_iload_n hx hb dX8_plan_0 rfl (lv_at hl 1 rfl) ?_
  refine lv_iconst (v := (-1 : Int32)) hx hb dX8_plan_1 (by decide) ?_
  refine lv_icmp_ne (tgt := 12) hx hb dX8_plan_2 (by decide) (fun c1 => ?_) (fun c1 => ?_)
  · have hf := gif_f c1 hf
    refine lv_aload_n hx hb dX8_plan_12 rfl (lv_at hl 0 rfl) ?_
    refine lv_iload_n hx hb dX8_plan_13 rfl (lv_at hl 1 rfl) ?_
    refine lv_iconst (v := (0 : Int32)) hx hb dX8_plan_14 (by decide) ?_
    refine lv_iconst (v := (3 : Int32)) hx hb dX8_plan_15 (by decide) ?_
    obtain ⟨r2, hc2, hf⟩ := pb_s hf
    refine g_doI0 hG (g_runV C0 hG (k_X8_in l D base Z u p1 (0 : Int32) (3 : Int32) r2 hc2) m_X8_in v_X8_in w_1082 (by decide) (g_recv C0 hG (L82 hG) rfl) rfl hl.1 rfl (Nat.le_of_ble_eq_true rfl) dX8_plan_16 ⟨Nat.zero_le _, Nat.zero_le _⟩) (fun H locs hG hk => ?_)
    refine lv_if_eq (tgt := 53) hx hb dX8_plan_19 (by decide) (fun c3 => ?_) (fun c3 => ?_)
    · have hf := gif_t c3 hf
      refine lv_iconst (v := (-1 : Int32)) hx hb dX8_plan_53 (by decide) ?_
      obtain ⟨hr1, hu⟩ := gret_s hf
      subst hr1
      subst hu
      subst hQ
      exact g_iret C0 hG hr dX8_plan_54
    · have hf := gif_f c3 hf
      refine lv_aload_n hx hb dX8_plan_22 rfl (lv_at hl 0 rfl) ?_
      refine lv_iload_n hx hb dX8_plan_23 rfl (lv_at hl 1 rfl) ?_
      refine lv_iconst (v := (1 : Int32)) hx hb dX8_plan_24 (by decide) ?_
      refine lv_iconst (v := (2 : Int32)) hx hb dX8_plan_25 (by decide) ?_
      obtain ⟨r4, hc4, hf⟩ := pb_s hf
      refine g_doI0 hG (g_runV C0 hG (k_X8_in l D base Z u p1 (1 : Int32) (2 : Int32) r4 hc4) m_X8_in v_X8_in w_1082 (by decide) (g_recv C0 hG (L82 hG) rfl) rfl hl.1 rfl (Nat.le_of_ble_eq_true rfl) dX8_plan_26 ⟨Nat.zero_le _, Nat.zero_le _⟩) (fun H locs hG hk => ?_)
      refine lv_if_eq (tgt := 40) hx hb dX8_plan_29 (by decide) (fun c5 => ?_) (fun c5 => ?_)
      · have hf := gif_t c5 hf
        refine lv_iload_n hx hb dX8_plan_40 rfl (lv_at hl 1 rfl) ?_
        refine lv_iconst (v := (3 : Int32)) hx hb dX8_plan_41 (by decide) ?_
        refine lv_icmp_ne (tgt := 55) hx hb dX8_plan_42 (by decide) (fun c6 => ?_) (fun c6 => ?_)
        · have hf := gif_f c6 hf
          refine lv_aload_n hx hb dX8_plan_55 rfl (lv_at hl 0 rfl) ?_
          refine g_getI C0 hG (L82 hG) rfl 41 (by decide) rfl w_887 dX8_plan_56 ?_
          refine lv_bipush (v := (10 : Int32)) hx hb dX8_plan_59 (by decide) ?_
          refine lv_icmp_ne (tgt := 67) hx hb dX8_plan_61 (by decide) (fun c7 => ?_) (fun c7 => ?_)
          · have hf := gif_f c7 hf
            refine lv_aload_n hx hb dX8_plan_67 rfl (lv_at hl 0 rfl) ?_
            refine g_getSa (o := 24) (a := 106) C0 hG (L82 hG) rfl 43 (by decide) rfl rfl w_889 dX8_plan_68 ?_
            refine lv_aload_n hx hb dX8_plan_71 rfl (lv_at hl 0 rfl) ?_
            refine g_getI C0 hG (L82 hG) rfl 41 (by decide) rfl w_887 dX8_plan_72 ?_
            refine lv_iload_n hx hb dX8_plan_75 rfl (lv_at hl 1 rfl) ?_
            obtain ⟨h8, hf⟩ := gin_s hf
            refine g_iast C0 hG (L106 hG) h8 dX8_plan_76 (fun H locs hG => ?_)
            refine lv_aload_n hx hb dX8_plan_77 rfl (lv_at hl 0 rfl) ?_
            refine g_getSa (o := 25) (a := 107) C0 hG (L82 hG) rfl 44 (by decide) rfl rfl w_890 dX8_plan_78 ?_
            refine lv_aload_n hx hb dX8_plan_81 rfl (lv_at hl 0 rfl) ?_
            refine g_getI C0 hG (L82 hG) rfl 41 (by decide) rfl w_887 dX8_plan_82 ?_
            refine lv_iload_n hx hb dX8_plan_85 rfl (lv_at hl 1 rfl) ?_
            refine lv_if_le (tgt := 93) hx hb dX8_plan_86 (by decide) (fun c9 => ?_) (fun c9 => ?_)
            · have hf := gif_t c9 hf
              refine lv_iconst (v := (0 : Int32)) hx hb dX8_plan_93 (by decide) ?_
              obtain ⟨h10, hf⟩ := gin_s hf
              refine g_iast C0 hG (L107 hG) h10 dX8_plan_94 (fun H locs hG => ?_)
              refine lv_aload_n hx hb dX8_plan_95 rfl (lv_at hl 0 rfl) ?_
              refine lv_dup hx hb dX8_plan_96 rfl ?_
              refine g_getI C0 hG (L82 hG) rfl 41 (by decide) rfl w_887 dX8_plan_97 ?_
              refine lv_iconst (v := (1 : Int32)) hx hb dX8_plan_100 (by decide) ?_
              refine lv_iadd hx hb dX8_plan_101 ?_
              refine g_putI (ty := .int) C0 hG (L82 hG) rfl 41 (by decide) rfl w_887 rfl (by decide) rfl rfl dX8_plan_102 (fun H locs hG => ?_)
              refine lv_aload_n hx hb dX8_plan_105 rfl (lv_at hl 0 rfl) ?_
              refine g_getI C0 hG (L82 hG) rfl 41 (by decide) rfl w_887 dX8_plan_106 ?_
              obtain ⟨hr1, hu⟩ := gret_s hf
              subst hr1
              subst hu
              subst hQ
              exact g_iret C0 hG hr dX8_plan_109
            · have hf := gif_f c9 hf
              refine lv_iload_n hx hb dX8_plan_89 rfl (lv_at hl 2 rfl) ?_
              refine lv_goto (tgt := 94) hx hb dX8_plan_90 (by decide) ?_
              obtain ⟨h11, hf⟩ := gin_s hf
              refine g_iast C0 hG (L107 hG) h11 dX8_plan_94 (fun H locs hG => ?_)
              refine lv_aload_n hx hb dX8_plan_95 rfl (lv_at hl 0 rfl) ?_
              refine lv_dup hx hb dX8_plan_96 rfl ?_
              refine g_getI C0 hG (L82 hG) rfl 41 (by decide) rfl w_887 dX8_plan_97 ?_
              refine lv_iconst (v := (1 : Int32)) hx hb dX8_plan_100 (by decide) ?_
              refine lv_iadd hx hb dX8_plan_101 ?_
              refine g_putI (ty := .int) C0 hG (L82 hG) rfl 41 (by decide) rfl w_887 rfl (by decide) rfl rfl dX8_plan_102 (fun H locs hG => ?_)
              refine lv_aload_n hx hb dX8_plan_105 rfl (lv_at hl 0 rfl) ?_
              refine g_getI C0 hG (L82 hG) rfl 41 (by decide) rfl w_887 dX8_plan_106 ?_
              obtain ⟨hr1, hu⟩ := gret_s hf
              subst hr1
              subst hu
              subst hQ
              exact g_iret C0 hG hr dX8_plan_109
          · have hf := gif_t c7 hf
            refine lv_bipush (v := (-4 : Int32)) hx hb dX8_plan_64 (by decide) ?_
            obtain ⟨hr1, hu⟩ := gret_s hf
            subst hr1
            subst hu
            subst hQ
            exact g_iret C0 hG hr dX8_plan_66
        · have hf := gif_t c6 hf
          refine lv_aload_n hx hb dX8_plan_45 rfl (lv_at hl 0 rfl) ?_
          refine lv_iload_n hx hb dX8_plan_46 rfl (lv_at hl 2 rfl) ?_
          obtain ⟨r12, hc12, hf⟩ := pb_s hf
          refine g_doI0 hG (g_runV C0 hG (k_X8_isSeat l D base Z u p2 r12 hc12) m_X8_isSeat v_X8_isSeat w_1348 (by decide) (g_recv C0 hG (L82 hG) rfl) rfl hl.1 rfl (Nat.le_of_ble_eq_true rfl) dX8_plan_47 ⟨Nat.zero_le _, Nat.zero_le _⟩) (fun H locs hG hk => ?_)
          refine lv_if_ne (tgt := 55) hx hb dX8_plan_50 (by decide) (fun c13 => ?_) (fun c13 => ?_)
          · have hf := gif_f c13 hf
            refine lv_aload_n hx hb dX8_plan_55 rfl (lv_at hl 0 rfl) ?_
            refine g_getI C0 hG (L82 hG) rfl 41 (by decide) rfl w_887 dX8_plan_56 ?_
            refine lv_bipush (v := (10 : Int32)) hx hb dX8_plan_59 (by decide) ?_
            refine lv_icmp_ne (tgt := 67) hx hb dX8_plan_61 (by decide) (fun c14 => ?_) (fun c14 => ?_)
            · have hf := gif_f c14 hf
              refine lv_aload_n hx hb dX8_plan_67 rfl (lv_at hl 0 rfl) ?_
              refine g_getSa (o := 24) (a := 106) C0 hG (L82 hG) rfl 43 (by decide) rfl rfl w_889 dX8_plan_68 ?_
              refine lv_aload_n hx hb dX8_plan_71 rfl (lv_at hl 0 rfl) ?_
              refine g_getI C0 hG (L82 hG) rfl 41 (by decide) rfl w_887 dX8_plan_72 ?_
              refine lv_iload_n hx hb dX8_plan_75 rfl (lv_at hl 1 rfl) ?_
              obtain ⟨h15, hf⟩ := gin_s hf
              refine g_iast C0 hG (L106 hG) h15 dX8_plan_76 (fun H locs hG => ?_)
              refine lv_aload_n hx hb dX8_plan_77 rfl (lv_at hl 0 rfl) ?_
              refine g_getSa (o := 25) (a := 107) C0 hG (L82 hG) rfl 44 (by decide) rfl rfl w_890 dX8_plan_78 ?_
              refine lv_aload_n hx hb dX8_plan_81 rfl (lv_at hl 0 rfl) ?_
              refine g_getI C0 hG (L82 hG) rfl 41 (by decide) rfl w_887 dX8_plan_82 ?_
              refine lv_iload_n hx hb dX8_plan_85 rfl (lv_at hl 1 rfl) ?_
              refine lv_if_le (tgt := 93) hx hb dX8_plan_86 (by decide) (fun c16 => ?_) (fun c16 => ?_)
              · have hf := gif_t c16 hf
                refine lv_iconst (v := (0 : Int32)) hx hb dX8_plan_93 (by decide) ?_
                obtain ⟨h17, hf⟩ := gin_s hf
                refine g_iast C0 hG (L107 hG) h17 dX8_plan_94 (fun H locs hG => ?_)
                refine lv_aload_n hx hb dX8_plan_95 rfl (lv_at hl 0 rfl) ?_
                refine lv_dup hx hb dX8_plan_96 rfl ?_
                refine g_getI C0 hG (L82 hG) rfl 41 (by decide) rfl w_887 dX8_plan_97 ?_
                refine lv_iconst (v := (1 : Int32)) hx hb dX8_plan_100 (by decide) ?_
                refine lv_iadd hx hb dX8_plan_101 ?_
                refine g_putI (ty := .int) C0 hG (L82 hG) rfl 41 (by decide) rfl w_887 rfl (by decide) rfl rfl dX8_plan_102 (fun H locs hG => ?_)
                refine lv_aload_n hx hb dX8_plan_105 rfl (lv_at hl 0 rfl) ?_
                refine g_getI C0 hG (L82 hG) rfl 41 (by decide) rfl w_887 dX8_plan_106 ?_
                obtain ⟨hr1, hu⟩ := gret_s hf
                subst hr1
                subst hu
                subst hQ
                exact g_iret C0 hG hr dX8_plan_109
              · have hf := gif_f c16 hf
                refine lv_iload_n hx hb dX8_plan_89 rfl (lv_at hl 2 rfl) ?_
                refine lv_goto (tgt := 94) hx hb dX8_plan_90 (by decide) ?_
                obtain ⟨h18, hf⟩ := gin_s hf
                refine g_iast C0 hG (L107 hG) h18 dX8_plan_94 (fun H locs hG => ?_)
                refine lv_aload_n hx hb dX8_plan_95 rfl (lv_at hl 0 rfl) ?_
                refine lv_dup hx hb dX8_plan_96 rfl ?_
                refine g_getI C0 hG (L82 hG) rfl 41 (by decide) rfl w_887 dX8_plan_97 ?_
                refine lv_iconst (v := (1 : Int32)) hx hb dX8_plan_100 (by decide) ?_
                refine lv_iadd hx hb dX8_plan_101 ?_
                refine g_putI (ty := .int) C0 hG (L82 hG) rfl 41 (by decide) rfl w_887 rfl (by decide) rfl rfl dX8_plan_102 (fun H locs hG => ?_)
                refine lv_aload_n hx hb dX8_plan_105 rfl (lv_at hl 0 rfl) ?_
                refine g_getI C0 hG (L82 hG) rfl 41 (by decide) rfl w_887 dX8_plan_106 ?_
                obtain ⟨hr1, hu⟩ := gret_s hf
                subst hr1
                subst hu
                subst hQ
                exact g_iret C0 hG hr dX8_plan_109
            · have hf := gif_t c14 hf
              refine lv_bipush (v := (-4 : Int32)) hx hb dX8_plan_64 (by decide) ?_
              obtain ⟨hr1, hu⟩ := gret_s hf
              subst hr1
              subst hu
              subst hQ
              exact g_iret C0 hG hr dX8_plan_66
          · have hf := gif_t c13 hf
            refine lv_iconst (v := (-1 : Int32)) hx hb dX8_plan_53 (by decide) ?_
            obtain ⟨hr1, hu⟩ := gret_s hf
            subst hr1
            subst hu
            subst hQ
            exact g_iret C0 hG hr dX8_plan_54
      · have hf := gif_f c5 hf
        refine lv_aload_n hx hb dX8_plan_32 rfl (lv_at hl 0 rfl) ?_
        refine lv_iload_n hx hb dX8_plan_33 rfl (lv_at hl 2 rfl) ?_
        obtain ⟨r19, hc19, hf⟩ := pb_s hf
        refine g_doI0 hG (g_runV C0 hG (k_X8_isOne l D base Z u p2 r19 hc19) m_X8_isOne v_X8_isOne w_1098 (by decide) (g_recv C0 hG (L82 hG) rfl) rfl hl.1 rfl (Nat.le_of_ble_eq_true rfl) dX8_plan_34 ⟨Nat.zero_le _, Nat.zero_le _⟩) (fun H locs hG hk => ?_)
        refine lv_if_eq (tgt := 53) hx hb dX8_plan_37 (by decide) (fun c20 => ?_) (fun c20 => ?_)
        · have hf := gif_t c20 hf
          refine lv_iconst (v := (-1 : Int32)) hx hb dX8_plan_53 (by decide) ?_
          obtain ⟨hr1, hu⟩ := gret_s hf
          subst hr1
          subst hu
          subst hQ
          exact g_iret C0 hG hr dX8_plan_54
        · have hf := gif_f c20 hf
          refine lv_iload_n hx hb dX8_plan_40 rfl (lv_at hl 1 rfl) ?_
          refine lv_iconst (v := (3 : Int32)) hx hb dX8_plan_41 (by decide) ?_
          refine lv_icmp_ne (tgt := 55) hx hb dX8_plan_42 (by decide) (fun c21 => ?_) (fun c21 => ?_)
          · have hf := gif_f c21 hf
            refine lv_aload_n hx hb dX8_plan_55 rfl (lv_at hl 0 rfl) ?_
            refine g_getI C0 hG (L82 hG) rfl 41 (by decide) rfl w_887 dX8_plan_56 ?_
            refine lv_bipush (v := (10 : Int32)) hx hb dX8_plan_59 (by decide) ?_
            refine lv_icmp_ne (tgt := 67) hx hb dX8_plan_61 (by decide) (fun c22 => ?_) (fun c22 => ?_)
            · have hf := gif_f c22 hf
              refine lv_aload_n hx hb dX8_plan_67 rfl (lv_at hl 0 rfl) ?_
              refine g_getSa (o := 24) (a := 106) C0 hG (L82 hG) rfl 43 (by decide) rfl rfl w_889 dX8_plan_68 ?_
              refine lv_aload_n hx hb dX8_plan_71 rfl (lv_at hl 0 rfl) ?_
              refine g_getI C0 hG (L82 hG) rfl 41 (by decide) rfl w_887 dX8_plan_72 ?_
              refine lv_iload_n hx hb dX8_plan_75 rfl (lv_at hl 1 rfl) ?_
              obtain ⟨h23, hf⟩ := gin_s hf
              refine g_iast C0 hG (L106 hG) h23 dX8_plan_76 (fun H locs hG => ?_)
              refine lv_aload_n hx hb dX8_plan_77 rfl (lv_at hl 0 rfl) ?_
              refine g_getSa (o := 25) (a := 107) C0 hG (L82 hG) rfl 44 (by decide) rfl rfl w_890 dX8_plan_78 ?_
              refine lv_aload_n hx hb dX8_plan_81 rfl (lv_at hl 0 rfl) ?_
              refine g_getI C0 hG (L82 hG) rfl 41 (by decide) rfl w_887 dX8_plan_82 ?_
              refine lv_iload_n hx hb dX8_plan_85 rfl (lv_at hl 1 rfl) ?_
              refine lv_if_le (tgt := 93) hx hb dX8_plan_86 (by decide) (fun c24 => ?_) (fun c24 => ?_)
              · have hf := gif_t c24 hf
                refine lv_iconst (v := (0 : Int32)) hx hb dX8_plan_93 (by decide) ?_
                obtain ⟨h25, hf⟩ := gin_s hf
                refine g_iast C0 hG (L107 hG) h25 dX8_plan_94 (fun H locs hG => ?_)
                refine lv_aload_n hx hb dX8_plan_95 rfl (lv_at hl 0 rfl) ?_
                refine lv_dup hx hb dX8_plan_96 rfl ?_
                refine g_getI C0 hG (L82 hG) rfl 41 (by decide) rfl w_887 dX8_plan_97 ?_
                refine lv_iconst (v := (1 : Int32)) hx hb dX8_plan_100 (by decide) ?_
                refine lv_iadd hx hb dX8_plan_101 ?_
                refine g_putI (ty := .int) C0 hG (L82 hG) rfl 41 (by decide) rfl w_887 rfl (by decide) rfl rfl dX8_plan_102 (fun H locs hG => ?_)
                refine lv_aload_n hx hb dX8_plan_105 rfl (lv_at hl 0 rfl) ?_
                refine g_getI C0 hG (L82 hG) rfl 41 (by decide) rfl w_887 dX8_plan_106 ?_
                obtain ⟨hr1, hu⟩ := gret_s hf
                subst hr1
                subst hu
                subst hQ
                exact g_iret C0 hG hr dX8_plan_109
              · have hf := gif_f c24 hf
                refine lv_iload_n hx hb dX8_plan_89 rfl (lv_at hl 2 rfl) ?_
                refine lv_goto (tgt := 94) hx hb dX8_plan_90 (by decide) ?_
                obtain ⟨h26, hf⟩ := gin_s hf
                refine g_iast C0 hG (L107 hG) h26 dX8_plan_94 (fun H locs hG => ?_)
                refine lv_aload_n hx hb dX8_plan_95 rfl (lv_at hl 0 rfl) ?_
                refine lv_dup hx hb dX8_plan_96 rfl ?_
                refine g_getI C0 hG (L82 hG) rfl 41 (by decide) rfl w_887 dX8_plan_97 ?_
                refine lv_iconst (v := (1 : Int32)) hx hb dX8_plan_100 (by decide) ?_
                refine lv_iadd hx hb dX8_plan_101 ?_
                refine g_putI (ty := .int) C0 hG (L82 hG) rfl 41 (by decide) rfl w_887 rfl (by decide) rfl rfl dX8_plan_102 (fun H locs hG => ?_)
                refine lv_aload_n hx hb dX8_plan_105 rfl (lv_at hl 0 rfl) ?_
                refine g_getI C0 hG (L82 hG) rfl 41 (by decide) rfl w_887 dX8_plan_106 ?_
                obtain ⟨hr1, hu⟩ := gret_s hf
                subst hr1
                subst hu
                subst hQ
                exact g_iret C0 hG hr dX8_plan_109
            · have hf := gif_t c22 hf
              refine lv_bipush (v := (-4 : Int32)) hx hb dX8_plan_64 (by decide) ?_
              obtain ⟨hr1, hu⟩ := gret_s hf
              subst hr1
              subst hu
              subst hQ
              exact g_iret C0 hG hr dX8_plan_66
          · have hf := gif_t c21 hf
            refine lv_aload_n hx hb dX8_plan_45 rfl (lv_at hl 0 rfl) ?_
            refine lv_iload_n hx hb dX8_plan_46 rfl (lv_at hl 2 rfl) ?_
            obtain ⟨r27, hc27, hf⟩ := pb_s hf
            refine g_doI0 hG (g_runV C0 hG (k_X8_isSeat l D base Z u p2 r27 hc27) m_X8_isSeat v_X8_isSeat w_1348 (by decide) (g_recv C0 hG (L82 hG) rfl) rfl hl.1 rfl (Nat.le_of_ble_eq_true rfl) dX8_plan_47 ⟨Nat.zero_le _, Nat.zero_le _⟩) (fun H locs hG hk => ?_)
            refine lv_if_ne (tgt := 55) hx hb dX8_plan_50 (by decide) (fun c28 => ?_) (fun c28 => ?_)
            · have hf := gif_f c28 hf
              refine lv_aload_n hx hb dX8_plan_55 rfl (lv_at hl 0 rfl) ?_
              refine g_getI C0 hG (L82 hG) rfl 41 (by decide) rfl w_887 dX8_plan_56 ?_
              refine lv_bipush (v := (10 : Int32)) hx hb dX8_plan_59 (by decide) ?_
              refine lv_icmp_ne (tgt := 67) hx hb dX8_plan_61 (by decide) (fun c29 => ?_) (fun c29 => ?_)
              · have hf := gif_f c29 hf
                refine lv_aload_n hx hb dX8_plan_67 rfl (lv_at hl 0 rfl) ?_
                refine g_getSa (o := 24) (a := 106) C0 hG (L82 hG) rfl 43 (by decide) rfl rfl w_889 dX8_plan_68 ?_
                refine lv_aload_n hx hb dX8_plan_71 rfl (lv_at hl 0 rfl) ?_
                refine g_getI C0 hG (L82 hG) rfl 41 (by decide) rfl w_887 dX8_plan_72 ?_
                refine lv_iload_n hx hb dX8_plan_75 rfl (lv_at hl 1 rfl) ?_
                obtain ⟨h30, hf⟩ := gin_s hf
                refine g_iast C0 hG (L106 hG) h30 dX8_plan_76 (fun H locs hG => ?_)
                refine lv_aload_n hx hb dX8_plan_77 rfl (lv_at hl 0 rfl) ?_
                refine g_getSa (o := 25) (a := 107) C0 hG (L82 hG) rfl 44 (by decide) rfl rfl w_890 dX8_plan_78 ?_
                refine lv_aload_n hx hb dX8_plan_81 rfl (lv_at hl 0 rfl) ?_
                refine g_getI C0 hG (L82 hG) rfl 41 (by decide) rfl w_887 dX8_plan_82 ?_
                refine lv_iload_n hx hb dX8_plan_85 rfl (lv_at hl 1 rfl) ?_
                refine lv_if_le (tgt := 93) hx hb dX8_plan_86 (by decide) (fun c31 => ?_) (fun c31 => ?_)
                · have hf := gif_t c31 hf
                  refine lv_iconst (v := (0 : Int32)) hx hb dX8_plan_93 (by decide) ?_
                  obtain ⟨h32, hf⟩ := gin_s hf
                  refine g_iast C0 hG (L107 hG) h32 dX8_plan_94 (fun H locs hG => ?_)
                  refine lv_aload_n hx hb dX8_plan_95 rfl (lv_at hl 0 rfl) ?_
                  refine lv_dup hx hb dX8_plan_96 rfl ?_
                  refine g_getI C0 hG (L82 hG) rfl 41 (by decide) rfl w_887 dX8_plan_97 ?_
                  refine lv_iconst (v := (1 : Int32)) hx hb dX8_plan_100 (by decide) ?_
                  refine lv_iadd hx hb dX8_plan_101 ?_
                  refine g_putI (ty := .int) C0 hG (L82 hG) rfl 41 (by decide) rfl w_887 rfl (by decide) rfl rfl dX8_plan_102 (fun H locs hG => ?_)
                  refine lv_aload_n hx hb dX8_plan_105 rfl (lv_at hl 0 rfl) ?_
                  refine g_getI C0 hG (L82 hG) rfl 41 (by decide) rfl w_887 dX8_plan_106 ?_
                  obtain ⟨hr1, hu⟩ := gret_s hf
                  subst hr1
                  subst hu
                  subst hQ
                  exact g_iret C0 hG hr dX8_plan_109
                · have hf := gif_f c31 hf
                  refine lv_iload_n hx hb dX8_plan_89 rfl (lv_at hl 2 rfl) ?_
                  refine lv_goto (tgt := 94) hx hb dX8_plan_90 (by decide) ?_
                  obtain ⟨h33, hf⟩ := gin_s hf
                  refine g_iast C0 hG (L107 hG) h33 dX8_plan_94 (fun H locs hG => ?_)
                  refine lv_aload_n hx hb dX8_plan_95 rfl (lv_at hl 0 rfl) ?_
                  refine lv_dup hx hb dX8_plan_96 rfl ?_
                  refine g_getI C0 hG (L82 hG) rfl 41 (by decide) rfl w_887 dX8_plan_97 ?_
                  refine lv_iconst (v := (1 : Int32)) hx hb dX8_plan_100 (by decide) ?_
                  refine lv_iadd hx hb dX8_plan_101 ?_
                  refine g_putI (ty := .int) C0 hG (L82 hG) rfl 41 (by decide) rfl w_887 rfl (by decide) rfl rfl dX8_plan_102 (fun H locs hG => ?_)
                  refine lv_aload_n hx hb dX8_plan_105 rfl (lv_at hl 0 rfl) ?_
                  refine g_getI C0 hG (L82 hG) rfl 41 (by decide) rfl w_887 dX8_plan_106 ?_
                  obtain ⟨hr1, hu⟩ := gret_s hf
                  subst hr1
                  subst hu
                  subst hQ
                  exact g_iret C0 hG hr dX8_plan_109
              · have hf := gif_t c29 hf
                refine lv_bipush (v := (-4 : Int32)) hx hb dX8_plan_64 (by decide) ?_
                obtain ⟨hr1, hu⟩ := gret_s hf
                subst hr1
                subst hu
                subst hQ
                exact g_iret C0 hG hr dX8_plan_66
            · have hf := gif_t c28 hf
              refine lv_iconst (v := (-1 : Int32)) hx hb dX8_plan_53 (by decide) ?_
              obtain ⟨hr1, hu⟩ := gret_s hf
              subst hr1
              subst hu
              subst hQ
              exact g_iret C0 hG hr dX8_plan_54
  · have hf := gif_t c1 hf
    refine lv_aload_n hx hb dX8_plan_5 rfl (lv_at hl 0 rfl) ?_
    refine lv_iconst (v := (0 : Int32)) hx hb dX8_plan_6 (by decide) ?_
    refine g_putI (ty := .int) C0 hG (L82 hG) rfl 41 (by decide) rfl w_887 rfl (by decide) rfl rfl dX8_plan_7 (fun H locs hG => ?_)
    refine lv_iconst (v := (0 : Int32)) hx hb dX8_plan_10 (by decide) ?_
    obtain ⟨hr1, hu⟩ := gret_s hf
    subst hr1
    subst hu
    subst hQ
    exact g_iret C0 hG hr dX8_plan_11
theorem dX8_goPlan_0 : decode cX8_goPlan 0 = .ok (.iload_n 1, 1) := by decide +kernel
theorem dX8_goPlan_1 : decode cX8_goPlan 1 = .ok (.ifCond .ne 7, 3) := by decide +kernel
theorem dX8_goPlan_4 : decode cX8_goPlan 4 = .ok (.aload_n 0, 1) := by decide +kernel
theorem dX8_goPlan_5 : decode cX8_goPlan 5 = .ok (.invokevirtual 352, 3) := by decide +kernel
theorem dX8_goPlan_8 : decode cX8_goPlan 8 = .ok (.aload_n 0, 1) := by decide +kernel
theorem dX8_goPlan_9 : decode cX8_goPlan 9 = .ok (.iload_n 1, 1) := by decide +kernel
theorem dX8_goPlan_10 : decode cX8_goPlan 10 = .ok (.iconst 1, 1) := by decide +kernel
theorem dX8_goPlan_11 : decode cX8_goPlan 11 = .ok (.iconst 2, 1) := by decide +kernel
theorem dX8_goPlan_12 : decode cX8_goPlan 12 = .ok (.invokevirtual 249, 3) := by decide +kernel
theorem dX8_goPlan_15 : decode cX8_goPlan 15 = .ok (.ifCond .eq 18, 3) := by decide +kernel
theorem dX8_goPlan_18 : decode cX8_goPlan 18 = .ok (.aload_n 0, 1) := by decide +kernel
theorem dX8_goPlan_19 : decode cX8_goPlan 19 = .ok (.iload_n 2, 1) := by decide +kernel
theorem dX8_goPlan_20 : decode cX8_goPlan 20 = .ok (.iload_n 1, 1) := by decide +kernel
theorem dX8_goPlan_21 : decode cX8_goPlan 21 = .ok (.iconst 1, 1) := by decide +kernel
theorem dX8_goPlan_22 : decode cX8_goPlan 22 = .ok (.if_icmp .ne 7, 3) := by decide +kernel
theorem dX8_goPlan_25 : decode cX8_goPlan 25 = .ok (.iconst 1, 1) := by decide +kernel
theorem dX8_goPlan_26 : decode cX8_goPlan 26 = .ok (.goto 4, 3) := by decide +kernel
theorem dX8_goPlan_29 : decode cX8_goPlan 29 = .ok (.iconst 0, 1) := by decide +kernel
theorem dX8_goPlan_30 : decode cX8_goPlan 30 = .ok (.invokevirtual 263, 3) := by decide +kernel
theorem dX8_goPlan_33 : decode cX8_goPlan 33 = .ok (.iload_n 1, 1) := by decide +kernel
theorem dX8_goPlan_34 : decode cX8_goPlan 34 = .ok (.iconst 3, 1) := by decide +kernel
theorem dX8_goPlan_35 : decode cX8_goPlan 35 = .ok (.if_icmp .ne 16, 3) := by decide +kernel
theorem dX8_goPlan_38 : decode cX8_goPlan 38 = .ok (.aload_n 0, 1) := by decide +kernel
theorem dX8_goPlan_39 : decode cX8_goPlan 39 = .ok (.getfield 32, 3) := by decide +kernel
theorem dX8_goPlan_42 : decode cX8_goPlan 42 = .ok (.iload_n 2, 1) := by decide +kernel
theorem dX8_goPlan_43 : decode cX8_goPlan 43 = .ok (.bipush 10, 2) := by decide +kernel
theorem dX8_goPlan_45 : decode cX8_goPlan 45 = .ok (.idiv, 1) := by decide +kernel
theorem dX8_goPlan_46 : decode cX8_goPlan 46 = .ok (.iload_n 2, 1) := by decide +kernel
theorem dX8_goPlan_47 : decode cX8_goPlan 47 = .ok (.bipush 10, 2) := by decide +kernel
theorem dX8_goPlan_49 : decode cX8_goPlan 49 = .ok (.irem, 1) := by decide +kernel
theorem dX8_goPlan_50 : decode cX8_goPlan 50 = .ok (.iastore, 1) := by decide +kernel
theorem dX8_goPlan_51 : decode cX8_goPlan 51 = .ok (.return_, 1) := by decide +kernel
def f_X8_goPlan (p1 : Int32) (p2 : Int32) (u : Mem) : Option (Unit × Mem) := (if p1 = 0 then obind (f_X8_goMinute u) (fun _ u13 => Option.bind (f_X8_in p1 (1 : Int32) (2 : Int32)) (fun r14 => (if r14 = 0 then (if p1 = (3 : Int32) then gin (p2 / (10 : Int32)) 6 (some ((), sA u13 85 (p2 / (10 : Int32)).toNatClampNeg (p2 - p2 / (10 : Int32) * (10 : Int32)))) else some ((), u13)) else (if p1 = (1 : Int32) then obind (f_X8_goes p2 (1 : Int32) u13) (fun _ u22 => (if p1 = (3 : Int32) then gin (p2 / (10 : Int32)) 6 (some ((), sA u22 85 (p2 / (10 : Int32)).toNatClampNeg (p2 - p2 / (10 : Int32) * (10 : Int32)))) else some ((), u22))) else obind (f_X8_goes p2 (0 : Int32) u13) (fun _ u19 => (if p1 = (3 : Int32) then gin (p2 / (10 : Int32)) 6 (some ((), sA u19 85 (p2 / (10 : Int32)).toNatClampNeg (p2 - p2 / (10 : Int32) * (10 : Int32)))) else some ((), u19))))))) else Option.bind (f_X8_in p1 (1 : Int32) (2 : Int32)) (fun r2 => (if r2 = 0 then (if p1 = (3 : Int32) then gin (p2 / (10 : Int32)) 6 (some ((), sA u 85 (p2 / (10 : Int32)).toNatClampNeg (p2 - p2 / (10 : Int32) * (10 : Int32)))) else some ((), u)) else (if p1 = (1 : Int32) then obind (f_X8_goes p2 (1 : Int32) u) (fun _ u10 => (if p1 = (3 : Int32) then gin (p2 / (10 : Int32)) 6 (some ((), sA u10 85 (p2 / (10 : Int32)).toNatClampNeg (p2 - p2 / (10 : Int32) * (10 : Int32)))) else some ((), u10))) else obind (f_X8_goes p2 (0 : Int32) u) (fun _ u7 => (if p1 = (3 : Int32) then gin (p2 / (10 : Int32)) 6 (some ((), sA u7 85 (p2 / (10 : Int32)).toNatClampNeg (p2 - p2 / (10 : Int32) * (10 : Int32)))) else some ((), u7)))))))
set_option maxHeartbeats 4000000 in
set_option maxRecDepth 100000 in
theorem k_X8_goPlan (l : Launch) (D : gDt) (base : Nat) (Z : gZt) (u : Mem) (p1 : Int32) (p2 : Int32) (u' : Mem) (hf : f_X8_goPlan p1 p2 u = some ((), u')) : Met l yX8_goPlan (gws yX8_goPlan cX8_goPlan 3 (none)) (gRm 7 0 0) (gPc D base Z u [.ref (base + 82), .int p1, .int p2]) (gQv D base u') 0 0 (gF base) := by
  refine Met.ofW (cc := cX8_goPlan) (maxL := 3) (ret := none) (by decide) rfl ?_
  intro p e s m args below meth c s₁ B hml hv
  obtain ⟨rfl, C0, hG⟩ := g_enter B hml hv
  have hr := B.returns
  have C0 : gC p s m meth c _ cX8_goPlan 3 RX8 D base Z := C0
  have hx := C0.1
  have hb := C0.2.1
  have hl := lv_entry ([.ref (base + 82), .int p1, .int p2]) (n := 3) (Nat.le_of_ble_eq_true rfl)
  rw [lg_entry_eq]
  generalize (lg_sl ([.ref (base + 82), .int p1, .int p2]) ++ List.replicate (3 - (lg_sl ([.ref (base + 82), .int p1, .int p2])).length) Slot.unset).toArray = ls at hl ⊢
  have hl : lv_has ls 3 [(0, .ref (base + 82)), (1, .int p1), (2, .int p2)] := hl
  obtain ⟨Q, hQ⟩ : ∃ Q, Q = MQ below (gQv D base u') ([.ref (base + 82), .int p1, .int p2] : List Value).toArray s 0 0 (gF base) := ⟨_, rfl⟩
  rw [← hQ]
  change W p l e (gRm 7 0 0) s m _ below meth c _ _ _ _ _ _
  unfold f_X8_goPlan at hf
  refine lv_iload_n hx hb dX8_goPlan_0 rfl (lv_at hl 1 rfl) ?_
  refine lv_if_ne (tgt := 8) hx hb dX8_goPlan_1 (by decide) (fun c1 => ?_) (fun c1 => ?_)
  · have hf := gif_f c1 hf
    refine lv_aload_n hx hb dX8_goPlan_8 rfl (lv_at hl 0 rfl) ?_
    refine lv_iload_n hx hb dX8_goPlan_9 rfl (lv_at hl 1 rfl) ?_
    refine lv_iconst (v := (1 : Int32)) hx hb dX8_goPlan_10 (by decide) ?_
    refine lv_iconst (v := (2 : Int32)) hx hb dX8_goPlan_11 (by decide) ?_
    obtain ⟨r2, hc2, hf⟩ := pb_s hf
    refine g_doI0 hG (g_runV C0 hG (k_X8_in l D base Z u p1 (1 : Int32) (2 : Int32) r2 hc2) m_X8_in v_X8_in w_1082 (by decide) (g_recv C0 hG (L82 hG) rfl) rfl hl.1 rfl (Nat.le_of_ble_eq_true rfl) dX8_goPlan_12 ⟨Nat.zero_le _, Nat.zero_le _⟩) (fun H locs hG hk => ?_)
    refine lv_if_eq (tgt := 33) hx hb dX8_goPlan_15 (by decide) (fun c3 => ?_) (fun c3 => ?_)
    · have hf := gif_t c3 hf
      refine lv_iload_n hx hb dX8_goPlan_33 rfl (lv_at hl 1 rfl) ?_
      refine lv_iconst (v := (3 : Int32)) hx hb dX8_goPlan_34 (by decide) ?_
      refine lv_icmp_ne (tgt := 51) hx hb dX8_goPlan_35 (by decide) (fun c4 => ?_) (fun c4 => ?_)
      · have hf := gif_f c4 hf
        obtain ⟨-, hu⟩ := gret_s hf
        subst hu
        subst hQ
        exact g_vret C0 hG hr dX8_goPlan_51
      · have hf := gif_t c4 hf
        refine lv_aload_n hx hb dX8_goPlan_38 rfl (lv_at hl 0 rfl) ?_
        refine g_getSa (o := 3) (a := 85) C0 hG (L82 hG) rfl 7 (by decide) rfl rfl w_853 dX8_goPlan_39 ?_
        refine lv_iload_n hx hb dX8_goPlan_42 rfl (lv_at hl 2 rfl) ?_
        refine lv_bipush (v := (10 : Int32)) hx hb dX8_goPlan_43 (by decide) ?_
        refine lv_idiv hx hb dX8_goPlan_45 (by decide) ?_
        refine lv_iload_n hx hb dX8_goPlan_46 rfl (lv_at hl 2 rfl) ?_
        refine lv_bipush (v := (10 : Int32)) hx hb dX8_goPlan_47 (by decide) ?_
        refine lv_irem hx hb dX8_goPlan_49 (by decide) ?_
        obtain ⟨h5, hf⟩ := gin_s hf
        refine g_iast C0 hG (L85 hG) h5 dX8_goPlan_50 (fun H locs hG => ?_)
        obtain ⟨-, hu⟩ := gret_s hf
        subst hu
        subst hQ
        exact g_vret C0 hG hr dX8_goPlan_51
    · have hf := gif_f c3 hf
      refine lv_aload_n hx hb dX8_goPlan_18 rfl (lv_at hl 0 rfl) ?_
      refine lv_iload_n hx hb dX8_goPlan_19 rfl (lv_at hl 2 rfl) ?_
      refine lv_iload_n hx hb dX8_goPlan_20 rfl (lv_at hl 1 rfl) ?_
      refine lv_iconst (v := (1 : Int32)) hx hb dX8_goPlan_21 (by decide) ?_
      refine lv_icmp_ne (tgt := 29) hx hb dX8_goPlan_22 (by decide) (fun c6 => ?_) (fun c6 => ?_)
      · have hf := gif_f c6 hf
        refine lv_iconst (v := (0 : Int32)) hx hb dX8_goPlan_29 (by decide) ?_
        obtain ⟨_, u7, hc7, hf⟩ := obind_s hf
        refine g_doV0 hG (g_runV C0 hG (k_X8_goes l D base Z u p2 (0 : Int32) u7 hc7) m_X8_goes v_X8_goes w_1114 (by decide) (g_recv C0 hG (L82 hG) rfl) rfl hl.1 rfl (Nat.le_of_ble_eq_true rfl) dX8_goPlan_30 ⟨Nat.zero_le _, Nat.zero_le _⟩) (fun H locs hG hk => ?_)
        refine lv_iload_n hx hb dX8_goPlan_33 rfl (lv_at hl 1 rfl) ?_
        refine lv_iconst (v := (3 : Int32)) hx hb dX8_goPlan_34 (by decide) ?_
        refine lv_icmp_ne (tgt := 51) hx hb dX8_goPlan_35 (by decide) (fun c8 => ?_) (fun c8 => ?_)
        · have hf := gif_f c8 hf
          obtain ⟨-, hu⟩ := gret_s hf
          subst hu
          subst hQ
          exact g_vret C0 hG hr dX8_goPlan_51
        · have hf := gif_t c8 hf
          refine lv_aload_n hx hb dX8_goPlan_38 rfl (lv_at hl 0 rfl) ?_
          refine g_getSa (o := 3) (a := 85) C0 hG (L82 hG) rfl 7 (by decide) rfl rfl w_853 dX8_goPlan_39 ?_
          refine lv_iload_n hx hb dX8_goPlan_42 rfl (lv_at hl 2 rfl) ?_
          refine lv_bipush (v := (10 : Int32)) hx hb dX8_goPlan_43 (by decide) ?_
          refine lv_idiv hx hb dX8_goPlan_45 (by decide) ?_
          refine lv_iload_n hx hb dX8_goPlan_46 rfl (lv_at hl 2 rfl) ?_
          refine lv_bipush (v := (10 : Int32)) hx hb dX8_goPlan_47 (by decide) ?_
          refine lv_irem hx hb dX8_goPlan_49 (by decide) ?_
          obtain ⟨h9, hf⟩ := gin_s hf
          refine g_iast C0 hG (L85 hG) h9 dX8_goPlan_50 (fun H locs hG => ?_)
          obtain ⟨-, hu⟩ := gret_s hf
          subst hu
          subst hQ
          exact g_vret C0 hG hr dX8_goPlan_51
      · have hf := gif_t c6 hf
        refine lv_iconst (v := (1 : Int32)) hx hb dX8_goPlan_25 (by decide) ?_
        refine lv_goto (tgt := 30) hx hb dX8_goPlan_26 (by decide) ?_
        obtain ⟨_, u10, hc10, hf⟩ := obind_s hf
        refine g_doV0 hG (g_runV C0 hG (k_X8_goes l D base Z u p2 (1 : Int32) u10 hc10) m_X8_goes v_X8_goes w_1114 (by decide) (g_recv C0 hG (L82 hG) rfl) rfl hl.1 rfl (Nat.le_of_ble_eq_true rfl) dX8_goPlan_30 ⟨Nat.zero_le _, Nat.zero_le _⟩) (fun H locs hG hk => ?_)
        refine lv_iload_n hx hb dX8_goPlan_33 rfl (lv_at hl 1 rfl) ?_
        refine lv_iconst (v := (3 : Int32)) hx hb dX8_goPlan_34 (by decide) ?_
        refine lv_icmp_ne (tgt := 51) hx hb dX8_goPlan_35 (by decide) (fun c11 => ?_) (fun c11 => ?_)
        · have hf := gif_f c11 hf
          obtain ⟨-, hu⟩ := gret_s hf
          subst hu
          subst hQ
          exact g_vret C0 hG hr dX8_goPlan_51
        · have hf := gif_t c11 hf
          refine lv_aload_n hx hb dX8_goPlan_38 rfl (lv_at hl 0 rfl) ?_
          refine g_getSa (o := 3) (a := 85) C0 hG (L82 hG) rfl 7 (by decide) rfl rfl w_853 dX8_goPlan_39 ?_
          refine lv_iload_n hx hb dX8_goPlan_42 rfl (lv_at hl 2 rfl) ?_
          refine lv_bipush (v := (10 : Int32)) hx hb dX8_goPlan_43 (by decide) ?_
          refine lv_idiv hx hb dX8_goPlan_45 (by decide) ?_
          refine lv_iload_n hx hb dX8_goPlan_46 rfl (lv_at hl 2 rfl) ?_
          refine lv_bipush (v := (10 : Int32)) hx hb dX8_goPlan_47 (by decide) ?_
          refine lv_irem hx hb dX8_goPlan_49 (by decide) ?_
          obtain ⟨h12, hf⟩ := gin_s hf
          refine g_iast C0 hG (L85 hG) h12 dX8_goPlan_50 (fun H locs hG => ?_)
          obtain ⟨-, hu⟩ := gret_s hf
          subst hu
          subst hQ
          exact g_vret C0 hG hr dX8_goPlan_51
  · have hf := gif_t c1 hf
    refine lv_aload_n hx hb dX8_goPlan_4 rfl (lv_at hl 0 rfl) ?_
    obtain ⟨_, u13, hc13, hf⟩ := obind_s hf
    refine g_doV0 hG (g_runV C0 hG (k_X8_goMinute l D base Z u u13 hc13) m_X8_goMinute v_X8_goMinute w_1242 (by decide) (g_recv C0 hG (L82 hG) rfl) rfl hl.1 rfl (Nat.le_of_ble_eq_true rfl) dX8_goPlan_5 ⟨Nat.zero_le _, Nat.zero_le _⟩) (fun H locs hG hk => ?_)
    refine lv_aload_n hx hb dX8_goPlan_8 rfl (lv_at hl 0 rfl) ?_
    refine lv_iload_n hx hb dX8_goPlan_9 rfl (lv_at hl 1 rfl) ?_
    refine lv_iconst (v := (1 : Int32)) hx hb dX8_goPlan_10 (by decide) ?_
    refine lv_iconst (v := (2 : Int32)) hx hb dX8_goPlan_11 (by decide) ?_
    obtain ⟨r14, hc14, hf⟩ := pb_s hf
    refine g_doI0 hG (g_runV C0 hG (k_X8_in l D base Z u13 p1 (1 : Int32) (2 : Int32) r14 hc14) m_X8_in v_X8_in w_1082 (by decide) (g_recv C0 hG (L82 hG) rfl) rfl hl.1 rfl (Nat.le_of_ble_eq_true rfl) dX8_goPlan_12 ⟨Nat.zero_le _, Nat.zero_le _⟩) (fun H locs hG hk => ?_)
    refine lv_if_eq (tgt := 33) hx hb dX8_goPlan_15 (by decide) (fun c15 => ?_) (fun c15 => ?_)
    · have hf := gif_t c15 hf
      refine lv_iload_n hx hb dX8_goPlan_33 rfl (lv_at hl 1 rfl) ?_
      refine lv_iconst (v := (3 : Int32)) hx hb dX8_goPlan_34 (by decide) ?_
      refine lv_icmp_ne (tgt := 51) hx hb dX8_goPlan_35 (by decide) (fun c16 => ?_) (fun c16 => ?_)
      · have hf := gif_f c16 hf
        obtain ⟨-, hu⟩ := gret_s hf
        subst hu
        subst hQ
        exact g_vret C0 hG hr dX8_goPlan_51
      · have hf := gif_t c16 hf
        refine lv_aload_n hx hb dX8_goPlan_38 rfl (lv_at hl 0 rfl) ?_
        refine g_getSa (o := 3) (a := 85) C0 hG (L82 hG) rfl 7 (by decide) rfl rfl w_853 dX8_goPlan_39 ?_
        refine lv_iload_n hx hb dX8_goPlan_42 rfl (lv_at hl 2 rfl) ?_
        refine lv_bipush (v := (10 : Int32)) hx hb dX8_goPlan_43 (by decide) ?_
        refine lv_idiv hx hb dX8_goPlan_45 (by decide) ?_
        refine lv_iload_n hx hb dX8_goPlan_46 rfl (lv_at hl 2 rfl) ?_
        refine lv_bipush (v := (10 : Int32)) hx hb dX8_goPlan_47 (by decide) ?_
        refine lv_irem hx hb dX8_goPlan_49 (by decide) ?_
        obtain ⟨h17, hf⟩ := gin_s hf
        refine g_iast C0 hG (L85 hG) h17 dX8_goPlan_50 (fun H locs hG => ?_)
        obtain ⟨-, hu⟩ := gret_s hf
        subst hu
        subst hQ
        exact g_vret C0 hG hr dX8_goPlan_51
    · have hf := gif_f c15 hf
      refine lv_aload_n hx hb dX8_goPlan_18 rfl (lv_at hl 0 rfl) ?_
      refine lv_iload_n hx hb dX8_goPlan_19 rfl (lv_at hl 2 rfl) ?_
      refine lv_iload_n hx hb dX8_goPlan_20 rfl (lv_at hl 1 rfl) ?_
      refine lv_iconst (v := (1 : Int32)) hx hb dX8_goPlan_21 (by decide) ?_
      refine lv_icmp_ne (tgt := 29) hx hb dX8_goPlan_22 (by decide) (fun c18 => ?_) (fun c18 => ?_)
      · have hf := gif_f c18 hf
        refine lv_iconst (v := (0 : Int32)) hx hb dX8_goPlan_29 (by decide) ?_
        obtain ⟨_, u19, hc19, hf⟩ := obind_s hf
        refine g_doV0 hG (g_runV C0 hG (k_X8_goes l D base Z u13 p2 (0 : Int32) u19 hc19) m_X8_goes v_X8_goes w_1114 (by decide) (g_recv C0 hG (L82 hG) rfl) rfl hl.1 rfl (Nat.le_of_ble_eq_true rfl) dX8_goPlan_30 ⟨Nat.zero_le _, Nat.zero_le _⟩) (fun H locs hG hk => ?_)
        refine lv_iload_n hx hb dX8_goPlan_33 rfl (lv_at hl 1 rfl) ?_
        refine lv_iconst (v := (3 : Int32)) hx hb dX8_goPlan_34 (by decide) ?_
        refine lv_icmp_ne (tgt := 51) hx hb dX8_goPlan_35 (by decide) (fun c20 => ?_) (fun c20 => ?_)
        · have hf := gif_f c20 hf
          obtain ⟨-, hu⟩ := gret_s hf
          subst hu
          subst hQ
          exact g_vret C0 hG hr dX8_goPlan_51
        · have hf := gif_t c20 hf
          refine lv_aload_n hx hb dX8_goPlan_38 rfl (lv_at hl 0 rfl) ?_
          refine g_getSa (o := 3) (a := 85) C0 hG (L82 hG) rfl 7 (by decide) rfl rfl w_853 dX8_goPlan_39 ?_
          refine lv_iload_n hx hb dX8_goPlan_42 rfl (lv_at hl 2 rfl) ?_
          refine lv_bipush (v := (10 : Int32)) hx hb dX8_goPlan_43 (by decide) ?_
          refine lv_idiv hx hb dX8_goPlan_45 (by decide) ?_
          refine lv_iload_n hx hb dX8_goPlan_46 rfl (lv_at hl 2 rfl) ?_
          refine lv_bipush (v := (10 : Int32)) hx hb dX8_goPlan_47 (by decide) ?_
          refine lv_irem hx hb dX8_goPlan_49 (by decide) ?_
          obtain ⟨h21, hf⟩ := gin_s hf
          refine g_iast C0 hG (L85 hG) h21 dX8_goPlan_50 (fun H locs hG => ?_)
          obtain ⟨-, hu⟩ := gret_s hf
          subst hu
          subst hQ
          exact g_vret C0 hG hr dX8_goPlan_51
      · have hf := gif_t c18 hf
        refine lv_iconst (v := (1 : Int32)) hx hb dX8_goPlan_25 (by decide) ?_
        refine lv_goto (tgt := 30) hx hb dX8_goPlan_26 (by decide) ?_
        obtain ⟨_, u22, hc22, hf⟩ := obind_s hf
        refine g_doV0 hG (g_runV C0 hG (k_X8_goes l D base Z u13 p2 (1 : Int32) u22 hc22) m_X8_goes v_X8_goes w_1114 (by decide) (g_recv C0 hG (L82 hG) rfl) rfl hl.1 rfl (Nat.le_of_ble_eq_true rfl) dX8_goPlan_30 ⟨Nat.zero_le _, Nat.zero_le _⟩) (fun H locs hG hk => ?_)
        refine lv_iload_n hx hb dX8_goPlan_33 rfl (lv_at hl 1 rfl) ?_
        refine lv_iconst (v := (3 : Int32)) hx hb dX8_goPlan_34 (by decide) ?_
        refine lv_icmp_ne (tgt := 51) hx hb dX8_goPlan_35 (by decide) (fun c23 => ?_) (fun c23 => ?_)
        · have hf := gif_f c23 hf
          obtain ⟨-, hu⟩ := gret_s hf
          subst hu
          subst hQ
          exact g_vret C0 hG hr dX8_goPlan_51
        · have hf := gif_t c23 hf
          refine lv_aload_n hx hb dX8_goPlan_38 rfl (lv_at hl 0 rfl) ?_
          refine g_getSa (o := 3) (a := 85) C0 hG (L82 hG) rfl 7 (by decide) rfl rfl w_853 dX8_goPlan_39 ?_
          refine lv_iload_n hx hb dX8_goPlan_42 rfl (lv_at hl 2 rfl) ?_
          refine lv_bipush (v := (10 : Int32)) hx hb dX8_goPlan_43 (by decide) ?_
          refine lv_idiv hx hb dX8_goPlan_45 (by decide) ?_
          refine lv_iload_n hx hb dX8_goPlan_46 rfl (lv_at hl 2 rfl) ?_
          refine lv_bipush (v := (10 : Int32)) hx hb dX8_goPlan_47 (by decide) ?_
          refine lv_irem hx hb dX8_goPlan_49 (by decide) ?_
          obtain ⟨h24, hf⟩ := gin_s hf
          refine g_iast C0 hG (L85 hG) h24 dX8_goPlan_50 (fun H locs hG => ?_)
          obtain ⟨-, hu⟩ := gret_s hf
          subst hu
          subst hQ
          exact g_vret C0 hG hr dX8_goPlan_51
theorem dX8_ends_0 : decode cX8_ends 0 = .ok (.aload_n 0, 1) := by decide +kernel
theorem dX8_ends_1 : decode cX8_ends 1 = .ok (.iload_n 1, 1) := by decide +kernel
theorem dX8_ends_2 : decode cX8_ends 2 = .ok (.iconst 0, 1) := by decide +kernel
theorem dX8_ends_3 : decode cX8_ends 3 = .ok (.iconst 1, 1) := by decide +kernel
theorem dX8_ends_4 : decode cX8_ends 4 = .ok (.invokevirtual 249, 3) := by decide +kernel
theorem dX8_ends_7 : decode cX8_ends 7 = .ok (.ifCond .ne 5, 3) := by decide +kernel
theorem dX8_ends_10 : decode cX8_ends 10 = .ok (.iconst (-1), 1) := by decide +kernel
theorem dX8_ends_11 : decode cX8_ends 11 = .ok (.ireturn, 1) := by decide +kernel
theorem dX8_ends_12 : decode cX8_ends 12 = .ok (.aload_n 0, 1) := by decide +kernel
theorem dX8_ends_13 : decode cX8_ends 13 = .ok (.invokevirtual 367, 3) := by decide +kernel
theorem dX8_ends_16 : decode cX8_ends 16 = .ok (.iconst 0, 1) := by decide +kernel
theorem dX8_ends_17 : decode cX8_ends 17 = .ok (.istore_n 2, 1) := by decide +kernel
theorem dX8_ends_18 : decode cX8_ends 18 = .ok (.iload_n 2, 1) := by decide +kernel
theorem dX8_ends_19 : decode cX8_ends 19 = .ok (.aload_n 0, 1) := by decide +kernel
theorem dX8_ends_20 : decode cX8_ends 20 = .ok (.getfield 135, 3) := by decide +kernel
theorem dX8_ends_23 : decode cX8_ends 23 = .ok (.if_icmp .ge 25, 3) := by decide +kernel
theorem dX8_ends_26 : decode cX8_ends 26 = .ok (.aload_n 0, 1) := by decide +kernel
theorem dX8_ends_27 : decode cX8_ends 27 = .ok (.aload_n 0, 1) := by decide +kernel
theorem dX8_ends_28 : decode cX8_ends 28 = .ok (.getfield 141, 3) := by decide +kernel
theorem dX8_ends_31 : decode cX8_ends 31 = .ok (.iload_n 2, 1) := by decide +kernel
theorem dX8_ends_32 : decode cX8_ends 32 = .ok (.iaload, 1) := by decide +kernel
theorem dX8_ends_33 : decode cX8_ends 33 = .ok (.aload_n 0, 1) := by decide +kernel
theorem dX8_ends_34 : decode cX8_ends 34 = .ok (.getfield 144, 3) := by decide +kernel
theorem dX8_ends_37 : decode cX8_ends 37 = .ok (.iload_n 2, 1) := by decide +kernel
theorem dX8_ends_38 : decode cX8_ends 38 = .ok (.iaload, 1) := by decide +kernel
theorem dX8_ends_39 : decode cX8_ends 39 = .ok (.invokevirtual 404, 3) := by decide +kernel
theorem dX8_ends_42 : decode cX8_ends 42 = .ok (.iinc 2 1, 3) := by decide +kernel
theorem dX8_ends_45 : decode cX8_ends 45 = .ok (.goto (-27), 3) := by decide +kernel
theorem dX8_ends_48 : decode cX8_ends 48 = .ok (.iload_n 1, 1) := by decide +kernel
theorem dX8_ends_49 : decode cX8_ends 49 = .ok (.ifCond .ne 10, 3) := by decide +kernel
theorem dX8_ends_52 : decode cX8_ends 52 = .ok (.aload_n 0, 1) := by decide +kernel
theorem dX8_ends_53 : decode cX8_ends 53 = .ok (.getfield 19, 3) := by decide +kernel
theorem dX8_ends_56 : decode cX8_ends 56 = .ok (.goto 7, 3) := by decide +kernel
theorem dX8_ends_59 : decode cX8_ends 59 = .ok (.aload_n 0, 1) := by decide +kernel
theorem dX8_ends_60 : decode cX8_ends 60 = .ok (.getfield 16, 3) := by decide +kernel
theorem dX8_ends_63 : decode cX8_ends 63 = .ok (.istore_n 2, 1) := by decide +kernel
theorem dX8_ends_64 : decode cX8_ends 64 = .ok (.aload_n 0, 1) := by decide +kernel
theorem dX8_ends_65 : decode cX8_ends 65 = .ok (.invokevirtual 370, 3) := by decide +kernel
theorem dX8_ends_68 : decode cX8_ends 68 = .ok (.iload_n 2, 1) := by decide +kernel
theorem dX8_ends_69 : decode cX8_ends 69 = .ok (.ireturn, 1) := by decide +kernel
def f_X8_ends_L18 (p1 : Int32) (x2_4 : Int32) (u4 : Mem) : Option ((Int32 × Mem) ⊕ (Int32 × Mem)) := (if (gI u4 82 41) ≤ x2_4 then (if p1 = 0 then obind (f_X8_putBack u4) (fun _ u8 => some (Sum.inr (gI u4 82 3, u8))) else obind (f_X8_putBack u4) (fun _ u7 => some (Sum.inr (gI u4 82 2, u7)))) else gin x2_4 10 (gin x2_4 10 (obind (f_X8_goPlan (gA u4 106 x2_4.toNatClampNeg) (gA u4 107 x2_4.toNatClampNeg) u4) (fun _ u11 => some (Sum.inl (x2_4 + (1 : Int32), u11))))))
def f_X8_ends (p1 : Int32) (u : Mem) : Option (Int32 × Mem) := Option.bind (f_X8_in p1 (0 : Int32) (1 : Int32)) (fun r1 => (if r1 = 0 then some ((-1 : Int32), u) else obind (f_X8_save u) (fun _ u3 => whileO (fun s => f_X8_ends_L18 p1 s.1 s.2) FUEL ((0 : Int32), u3))))
set_option maxHeartbeats 4000000 in
set_option maxRecDepth 100000 in
theorem k_X8_ends (l : Launch) (D : gDt) (base : Nat) (Z : gZt) (u : Mem) (p1 : Int32) (r : Int32) (u' : Mem) (hf : f_X8_ends p1 u = some (r, u')) : Met l yX8_ends (gws yX8_ends cX8_ends 3 (some .int)) (gRm 8 0 0) (gPc D base Z u [.ref (base + 82), .int p1]) (gQi D base r u') 0 0 (gF base) := by
  refine Met.ofW (cc := cX8_ends) (maxL := 3) (ret := some .int) (by decide) rfl ?_
  intro p e s m args below meth c s₁ B hml hv
  obtain ⟨rfl, C0, hG⟩ := g_enter B hml hv
  have hr := B.returns
  have C0 : gC p s m meth c _ cX8_ends 3 RX8 D base Z := C0
  have hx := C0.1
  have hb := C0.2.1
  have hl := lv_entry ([.ref (base + 82), .int p1]) (n := 3) (Nat.le_of_ble_eq_true rfl)
  rw [lg_entry_eq]
  generalize (lg_sl ([.ref (base + 82), .int p1]) ++ List.replicate (3 - (lg_sl ([.ref (base + 82), .int p1])).length) Slot.unset).toArray = ls at hl ⊢
  have hl : lv_has ls 3 [(0, .ref (base + 82)), (1, .int p1)] := hl
  obtain ⟨Q, hQ⟩ : ∃ Q, Q = MQ below (gQi D base r u') ([.ref (base + 82), .int p1] : List Value).toArray s 0 0 (gF base) := ⟨_, rfl⟩
  rw [← hQ]
  change W p l e (gRm 8 0 0) s m _ below meth c _ _ _ _ _ _
  unfold f_X8_ends at hf
  refine lv_aload_n hx hb dX8_ends_0 rfl (lv_at hl 0 rfl) ?_
  refine lv_iload_n hx hb dX8_ends_1 rfl (lv_at hl 1 rfl) ?_
  refine lv_iconst (v := (0 : Int32)) hx hb dX8_ends_2 (by decide) ?_
  refine lv_iconst (v := (1 : Int32)) hx hb dX8_ends_3 (by decide) ?_
  obtain ⟨r1, hc1, hf⟩ := pb_s hf
  refine g_doI0 hG (g_runV C0 hG (k_X8_in l D base Z u p1 (0 : Int32) (1 : Int32) r1 hc1) m_X8_in v_X8_in w_1082 (by decide) (g_recv C0 hG (L82 hG) rfl) rfl hl.1 rfl (Nat.le_of_ble_eq_true rfl) dX8_ends_4 ⟨Nat.zero_le _, Nat.zero_le _⟩) (fun H locs hG hk => ?_)
  refine lv_if_ne (tgt := 12) hx hb dX8_ends_7 (by decide) (fun c2 => ?_) (fun c2 => ?_)
  · have hf := gif_f c2 hf
    refine lv_aload_n hx hb dX8_ends_12 rfl (lv_at hl 0 rfl) ?_
    obtain ⟨_, u3, hc3, hf⟩ := obind_s hf
    refine g_doV0 hG (g_runV C0 hG (k_X8_save l D base Z u u3 hc3) m_X8_save v_X8_save w_1274 (by decide) (g_recv C0 hG (L82 hG) rfl) rfl hl.1 rfl (Nat.le_of_ble_eq_true rfl) dX8_ends_13 ⟨Nat.zero_le _, Nat.zero_le _⟩) (fun H locs hG hk => ?_)
    refine lv_iconst (v := (0 : Int32)) hx hb dX8_ends_16 (by decide) ?_
    refine lv_istore_n (lv' := [(2, .int (0 : Int32)), (0, .ref (base + 82)), (1, .int p1)]) hx hb dX8_ends_17 rfl hl (by decide) rfl (fun ls hl => ?_)
    have loop4 : ∀ (n4 : Nat) (x2_4 : Int32) (u4 : Mem) (H : Heap) (locs : List Loc) (ls : Array Slot), gH D base s u4 H locs → lv_has ls 3 [(0, .ref (base + 82)), (1, .int p1), (2, .int x2_4)] → whileO (fun s => f_X8_ends_L18 p1 s.1 s.2) n4 (x2_4, u4) = some (r, u') → W p l e (gRm 8 0 0) s m ([.ref (base + 82), .int p1] : List Value).toArray below meth c H locs 0 0 Q (F0 m 18 ls []) := by
      intro n4
      induction n4 with
      | zero => intro x2_4 u4 H locs ls hG hl hf; cases hf
      | succ n4 ih4 =>
        intro x2_4 u4 H locs ls hG hl hf
        obtain ⟨X4, hf, hX4⟩ := while_s hf
        have hf : f_X8_ends_L18 p1 x2_4 u4 = some X4 := hf
        unfold f_X8_ends_L18 at hf
        refine lv_iload_n hx hb dX8_ends_18 rfl (lv_at hl 2 rfl) ?_
        refine lv_aload_n hx hb dX8_ends_19 rfl (lv_at hl 0 rfl) ?_
        refine g_getI C0 hG (L82 hG) rfl 41 (by decide) rfl w_887 dX8_ends_20 ?_
        refine lv_icmp_ge (tgt := 48) hx hb dX8_ends_23 (by decide) (fun c5 => ?_) (fun c5 => ?_)
        · have hf := gif_t c5 hf
          refine lv_iload_n hx hb dX8_ends_48 rfl (lv_at hl 1 rfl) ?_
          refine lv_if_ne (tgt := 59) hx hb dX8_ends_49 (by decide) (fun c6 => ?_) (fun c6 => ?_)
          · have hf := gif_f c6 hf
            refine lv_aload_n hx hb dX8_ends_59 rfl (lv_at hl 0 rfl) ?_
            refine g_getI C0 hG (L82 hG) rfl 2 (by decide) rfl w_848 dX8_ends_60 ?_
            refine lv_istore_n (lv' := [(2, .int (gI u4 82 2)), (0, .ref (base + 82)), (1, .int p1)]) hx hb dX8_ends_63 rfl hl (by decide) rfl (fun ls hl => ?_)
            refine lv_aload_n hx hb dX8_ends_64 rfl (lv_at hl 1 rfl) ?_
            obtain ⟨_, u7, hc7, hf⟩ := obind_s hf
            refine g_doV0 hG (g_runV C0 hG (k_X8_putBack l D base Z u4 u7 hc7) m_X8_putBack v_X8_putBack w_1278 (by decide) (g_recv C0 hG (L82 hG) rfl) rfl hl.1 rfl (Nat.le_of_ble_eq_true rfl) dX8_ends_65 ⟨Nat.zero_le _, Nat.zero_le _⟩) (fun H locs hG hk => ?_)
            refine lv_iload_n hx hb dX8_ends_68 rfl (lv_at hl 0 rfl) ?_
            have hf := while_r hX4 hf
            obtain ⟨hr1, hu⟩ := gret_s hf
            subst hr1
            subst hu
            subst hQ
            exact g_iret C0 hG hr dX8_ends_69
          · have hf := gif_t c6 hf
            refine lv_aload_n hx hb dX8_ends_52 rfl (lv_at hl 0 rfl) ?_
            refine g_getI C0 hG (L82 hG) rfl 3 (by decide) rfl w_849 dX8_ends_53 ?_
            refine lv_goto (tgt := 63) hx hb dX8_ends_56 (by decide) ?_
            refine lv_istore_n (lv' := [(2, .int (gI u4 82 3)), (0, .ref (base + 82)), (1, .int p1)]) hx hb dX8_ends_63 rfl hl (by decide) rfl (fun ls hl => ?_)
            refine lv_aload_n hx hb dX8_ends_64 rfl (lv_at hl 1 rfl) ?_
            obtain ⟨_, u8, hc8, hf⟩ := obind_s hf
            refine g_doV0 hG (g_runV C0 hG (k_X8_putBack l D base Z u4 u8 hc8) m_X8_putBack v_X8_putBack w_1278 (by decide) (g_recv C0 hG (L82 hG) rfl) rfl hl.1 rfl (Nat.le_of_ble_eq_true rfl) dX8_ends_65 ⟨Nat.zero_le _, Nat.zero_le _⟩) (fun H locs hG hk => ?_)
            refine lv_iload_n hx hb dX8_ends_68 rfl (lv_at hl 0 rfl) ?_
            have hf := while_r hX4 hf
            obtain ⟨hr1, hu⟩ := gret_s hf
            subst hr1
            subst hu
            subst hQ
            exact g_iret C0 hG hr dX8_ends_69
        · have hf := gif_f c5 hf
          refine lv_aload_n hx hb dX8_ends_26 rfl (lv_at hl 0 rfl) ?_
          refine lv_aload_n hx hb dX8_ends_27 rfl (lv_at hl 0 rfl) ?_
          refine g_getSa (o := 24) (a := 106) C0 hG (L82 hG) rfl 43 (by decide) rfl rfl w_889 dX8_ends_28 ?_
          refine lv_iload_n hx hb dX8_ends_31 rfl (lv_at hl 2 rfl) ?_
          obtain ⟨h9, hf⟩ := gin_s hf
          refine g_iald C0 hG (L106 hG) h9 dX8_ends_32 ?_
          refine lv_aload_n hx hb dX8_ends_33 rfl (lv_at hl 0 rfl) ?_
          refine g_getSa (o := 25) (a := 107) C0 hG (L82 hG) rfl 44 (by decide) rfl rfl w_890 dX8_ends_34 ?_
          refine lv_iload_n hx hb dX8_ends_37 rfl (lv_at hl 2 rfl) ?_
          obtain ⟨h10, hf⟩ := gin_s hf
          refine g_iald C0 hG (L107 hG) h10 dX8_ends_38 ?_
          obtain ⟨_, u11, hc11, hf⟩ := obind_s hf
          refine g_doV0 hG (g_runV C0 hG (k_X8_goPlan l D base Z u4 (gA u4 106 x2_4.toNatClampNeg) (gA u4 107 x2_4.toNatClampNeg) u11 hc11) m_X8_goPlan v_X8_goPlan w_1356 (by decide) (g_recv C0 hG (L82 hG) rfl) rfl hl.1 rfl (Nat.le_of_ble_eq_true rfl) dX8_ends_39 ⟨Nat.zero_le _, Nat.zero_le _⟩) (fun H locs hG hk => ?_)
          refine lv_iinc (v := x2_4 + (1 : Int32)) (lv' := [(2, .int (x2_4 + (1 : Int32))), (0, .ref (base + 82)), (1, .int p1)]) hx hb dX8_ends_42 hl (k := 2) rfl rfl (by decide) rfl (fun ls hl => ?_)
          refine lv_goto (tgt := 18) hx hb dX8_ends_45 (by decide) ?_
          have hf := while_l hX4 hf
          exact ih4 (x2_4 + (1 : Int32)) u11 _ _ ls hG (lv_sub hl [1, 2, 0] rfl) hf
    exact loop4 FUEL (0 : Int32) u3 _ _ ls hG (lv_sub hl [1, 2, 0] rfl) hf
  · have hf := gif_t c2 hf
    refine lv_iconst (v := (-1 : Int32)) hx hb dX8_ends_10 (by decide) ?_
    obtain ⟨hr1, hu⟩ := gret_s hf
    subst hr1
    subst hu
    subst hQ
    exact g_iret C0 hG hr dX8_ends_11
theorem dX8_book_0 : decode cX8_book 0 = .ok (.iload_n 1, 1) := by decide +kernel
theorem dX8_book_1 : decode cX8_book 1 = .ok (.iconst (-1), 1) := by decide +kernel
theorem dX8_book_2 : decode cX8_book 2 = .ok (.if_icmp .ne 10, 3) := by decide +kernel
theorem dX8_book_5 : decode cX8_book 5 = .ok (.aload_n 0, 1) := by decide +kernel
theorem dX8_book_6 : decode cX8_book 6 = .ok (.iconst 0, 1) := by decide +kernel
theorem dX8_book_7 : decode cX8_book 7 = .ok (.putfield 138, 3) := by decide +kernel
theorem dX8_book_10 : decode cX8_book 10 = .ok (.iconst 0, 1) := by decide +kernel
theorem dX8_book_11 : decode cX8_book 11 = .ok (.ireturn, 1) := by decide +kernel
theorem dX8_book_12 : decode cX8_book 12 = .ok (.aload_n 0, 1) := by decide +kernel
theorem dX8_book_13 : decode cX8_book 13 = .ok (.iload_n 1, 1) := by decide +kernel
theorem dX8_book_14 : decode cX8_book 14 = .ok (.invokevirtual 260, 3) := by decide +kernel
theorem dX8_book_17 : decode cX8_book 17 = .ok (.ifCond .ne 5, 3) := by decide +kernel
theorem dX8_book_20 : decode cX8_book 20 = .ok (.iconst (-1), 1) := by decide +kernel
theorem dX8_book_21 : decode cX8_book 21 = .ok (.ireturn, 1) := by decide +kernel
theorem dX8_book_22 : decode cX8_book 22 = .ok (.aload_n 0, 1) := by decide +kernel
theorem dX8_book_23 : decode cX8_book 23 = .ok (.iload_n 2, 1) := by decide +kernel
theorem dX8_book_24 : decode cX8_book 24 = .ok (.invokevirtual 257, 3) := by decide +kernel
theorem dX8_book_27 : decode cX8_book 27 = .ok (.ifCond .ne 6, 3) := by decide +kernel
theorem dX8_book_30 : decode cX8_book 30 = .ok (.bipush (-2), 2) := by decide +kernel
theorem dX8_book_32 : decode cX8_book 32 = .ok (.ireturn, 1) := by decide +kernel
theorem dX8_book_33 : decode cX8_book 33 = .ok (.aload_n 0, 1) := by decide +kernel
theorem dX8_book_34 : decode cX8_book 34 = .ok (.getfield 138, 3) := by decide +kernel
theorem dX8_book_37 : decode cX8_book 37 = .ok (.bipush 8, 2) := by decide +kernel
theorem dX8_book_39 : decode cX8_book 39 = .ok (.if_icmp .ne 6, 3) := by decide +kernel
theorem dX8_book_42 : decode cX8_book 42 = .ok (.bipush (-4), 2) := by decide +kernel
theorem dX8_book_44 : decode cX8_book 44 = .ok (.ireturn, 1) := by decide +kernel
theorem dX8_book_45 : decode cX8_book 45 = .ok (.aload_n 0, 1) := by decide +kernel
theorem dX8_book_46 : decode cX8_book 46 = .ok (.getfield 147, 3) := by decide +kernel
theorem dX8_book_49 : decode cX8_book 49 = .ok (.aload_n 0, 1) := by decide +kernel
theorem dX8_book_50 : decode cX8_book 50 = .ok (.getfield 138, 3) := by decide +kernel
theorem dX8_book_53 : decode cX8_book 53 = .ok (.iload_n 1, 1) := by decide +kernel
theorem dX8_book_54 : decode cX8_book 54 = .ok (.iastore, 1) := by decide +kernel
theorem dX8_book_55 : decode cX8_book 55 = .ok (.aload_n 0, 1) := by decide +kernel
theorem dX8_book_56 : decode cX8_book 56 = .ok (.getfield 150, 3) := by decide +kernel
theorem dX8_book_59 : decode cX8_book 59 = .ok (.aload_n 0, 1) := by decide +kernel
theorem dX8_book_60 : decode cX8_book 60 = .ok (.getfield 138, 3) := by decide +kernel
theorem dX8_book_63 : decode cX8_book 63 = .ok (.iload_n 2, 1) := by decide +kernel
theorem dX8_book_64 : decode cX8_book 64 = .ok (.iastore, 1) := by decide +kernel
theorem dX8_book_65 : decode cX8_book 65 = .ok (.aload_n 0, 1) := by decide +kernel
theorem dX8_book_66 : decode cX8_book 66 = .ok (.dup, 1) := by decide +kernel
theorem dX8_book_67 : decode cX8_book 67 = .ok (.getfield 138, 3) := by decide +kernel
theorem dX8_book_70 : decode cX8_book 70 = .ok (.iconst 1, 1) := by decide +kernel
theorem dX8_book_71 : decode cX8_book 71 = .ok (.iadd, 1) := by decide +kernel
theorem dX8_book_72 : decode cX8_book 72 = .ok (.putfield 138, 3) := by decide +kernel
theorem dX8_book_75 : decode cX8_book 75 = .ok (.aload_n 0, 1) := by decide +kernel
theorem dX8_book_76 : decode cX8_book 76 = .ok (.getfield 138, 3) := by decide +kernel
theorem dX8_book_79 : decode cX8_book 79 = .ok (.ireturn, 1) := by decide +kernel
def f_X8_book (p1 : Int32) (p2 : Int32) (u : Mem) : Option (Int32 × Mem) := (if p1 = (-1 : Int32) then some ((0 : Int32), sI u 82 42 (0 : Int32)) else Option.bind (f_X8_isOne p1 u) (fun r2 => (if r2 = 0 then some ((-1 : Int32), u) else Option.bind (f_X8_isTales p2) (fun r4 => (if r4 = 0 then some ((-2 : Int32), u) else (if (gI u 82 42) = (8 : Int32) then some ((-4 : Int32), u) else gin (gI u 82 42) 8 (gin (gI (sA u 108 (gI u 82 42).toNatClampNeg p1) 82 42) 8 (some (gI (sI (sA (sA u 108 (gI u 82 42).toNatClampNeg p1) 109 (gI (sA u 108 (gI u 82 42).toNatClampNeg p1) 82 42).toNatClampNeg p2) 82 42 ((gI (sA (sA u 108 (gI u 82 42).toNatClampNeg p1) 109 (gI (sA u 108 (gI u 82 42).toNatClampNeg p1) 82 42).toNatClampNeg p2) 82 42) + (1 : Int32))) 82 42, sI (sA (sA u 108 (gI u 82 42).toNatClampNeg p1) 109 (gI (sA u 108 (gI u 82 42).toNatClampNeg p1) 82 42).toNatClampNeg p2) 82 42 ((gI (sA (sA u 108 (gI u 82 42).toNatClampNeg p1) 109 (gI (sA u 108 (gI u 82 42).toNatClampNeg p1) 82 42).toNatClampNeg p2) 82 42) + (1 : Int32)))))))))))
set_option maxHeartbeats 4000000 in
set_option maxRecDepth 100000 in
theorem k_X8_book (l : Launch) (D : gDt) (base : Nat) (Z : gZt) (u : Mem) (p1 : Int32) (p2 : Int32) (r : Int32) (u' : Mem) (hf : f_X8_book p1 p2 u = some (r, u')) : Met l yX8_book (gws yX8_book cX8_book 3 (some .int)) (gRm 3 0 0) (gPc D base Z u [.ref (base + 82), .int p1, .int p2]) (gQi D base r u') 0 0 (gF base) := by
  refine Met.ofW (cc := cX8_book) (maxL := 3) (ret := some .int) (by decide) rfl ?_
  intro p e s m args below meth c s₁ B hml hv
  obtain ⟨rfl, C0, hG⟩ := g_enter B hml hv
  have hr := B.returns
  have C0 : gC p s m meth c _ cX8_book 3 RX8 D base Z := C0
  have hx := C0.1
  have hb := C0.2.1
  have hl := lv_entry ([.ref (base + 82), .int p1, .int p2]) (n := 3) (Nat.le_of_ble_eq_true rfl)
  rw [lg_entry_eq]
  generalize (lg_sl ([.ref (base + 82), .int p1, .int p2]) ++ List.replicate (3 - (lg_sl ([.ref (base + 82), .int p1, .int p2])).length) Slot.unset).toArray = ls at hl ⊢
  have hl : lv_has ls 3 [(0, .ref (base + 82)), (1, .int p1), (2, .int p2)] := hl
  obtain ⟨Q, hQ⟩ : ∃ Q, Q = MQ below (gQi D base r u') ([.ref (base + 82), .int p1, .int p2] : List Value).toArray s 0 0 (gF base) := ⟨_, rfl⟩
  rw [← hQ]
  change W p l e (gRm 3 0 0) s m _ below meth c _ _ _ _ _ _
  unfold f_X8_book at hf
  refine lv_iload_n hx hb dX8_book_0 rfl (lv_at hl 1 rfl) ?_
  refine lv_iconst (v := (-1 : Int32)) hx hb dX8_book_1 (by decide) ?_
  refine lv_icmp_ne (tgt := 12) hx hb dX8_book_2 (by decide) (fun c1 => ?_) (fun c1 => ?_)
  · have hf := gif_f c1 hf
    refine lv_aload_n hx hb dX8_book_12 rfl (lv_at hl 0 rfl) ?_
    refine lv_iload_n hx hb dX8_book_13 rfl (lv_at hl 1 rfl) ?_
    obtain ⟨r2, hc2, hf⟩ := pb_s hf
    refine g_doI0 hG (g_runV C0 hG (k_X8_isOne l D base Z u p1 r2 hc2) m_X8_isOne v_X8_isOne w_1098 (by decide) (g_recv C0 hG (L82 hG) rfl) rfl hl.1 rfl (Nat.le_of_ble_eq_true rfl) dX8_book_14 ⟨Nat.zero_le _, Nat.zero_le _⟩) (fun H locs hG hk => ?_)
    refine lv_if_ne (tgt := 22) hx hb dX8_book_17 (by decide) (fun c3 => ?_) (fun c3 => ?_)
    · have hf := gif_f c3 hf
      refine lv_aload_n hx hb dX8_book_22 rfl (lv_at hl 0 rfl) ?_
      refine lv_iload_n hx hb dX8_book_23 rfl (lv_at hl 2 rfl) ?_
      obtain ⟨r4, hc4, hf⟩ := pb_s hf
      refine g_doI0 hG (g_runV C0 hG (k_X8_isTales l D base Z u p2 r4 hc4) m_X8_isTales v_X8_isTales w_1090 (by decide) (g_recv C0 hG (L82 hG) rfl) rfl hl.1 rfl (Nat.le_of_ble_eq_true rfl) dX8_book_24 ⟨Nat.zero_le _, Nat.zero_le _⟩) (fun H locs hG hk => ?_)
      refine lv_if_ne (tgt := 33) hx hb dX8_book_27 (by decide) (fun c5 => ?_) (fun c5 => ?_)
      · have hf := gif_f c5 hf
        refine lv_aload_n hx hb dX8_book_33 rfl (lv_at hl 0 rfl) ?_
        refine g_getI C0 hG (L82 hG) rfl 42 (by decide) rfl w_888 dX8_book_34 ?_
        refine lv_bipush (v := (8 : Int32)) hx hb dX8_book_37 (by decide) ?_
        refine lv_icmp_ne (tgt := 45) hx hb dX8_book_39 (by decide) (fun c6 => ?_) (fun c6 => ?_)
        · have hf := gif_f c6 hf
          refine lv_aload_n hx hb dX8_book_45 rfl (lv_at hl 0 rfl) ?_
          refine g_getSa (o := 26) (a := 108) C0 hG (L82 hG) rfl 45 (by decide) rfl rfl w_891 dX8_book_46 ?_
          refine lv_aload_n hx hb dX8_book_49 rfl (lv_at hl 0 rfl) ?_
          refine g_getI C0 hG (L82 hG) rfl 42 (by decide) rfl w_888 dX8_book_50 ?_
          refine lv_iload_n hx hb dX8_book_53 rfl (lv_at hl 1 rfl) ?_
          obtain ⟨h7, hf⟩ := gin_s hf
          refine g_iast C0 hG (L108 hG) h7 dX8_book_54 (fun H locs hG => ?_)
          refine lv_aload_n hx hb dX8_book_55 rfl (lv_at hl 0 rfl) ?_
          refine g_getSa (o := 27) (a := 109) C0 hG (L82 hG) rfl 46 (by decide) rfl rfl w_892 dX8_book_56 ?_
          refine lv_aload_n hx hb dX8_book_59 rfl (lv_at hl 0 rfl) ?_
          refine g_getI C0 hG (L82 hG) rfl 42 (by decide) rfl w_888 dX8_book_60 ?_
          refine lv_iload_n hx hb dX8_book_63 rfl (lv_at hl 2 rfl) ?_
          obtain ⟨h8, hf⟩ := gin_s hf
          refine g_iast C0 hG (L109 hG) h8 dX8_book_64 (fun H locs hG => ?_)
          refine lv_aload_n hx hb dX8_book_65 rfl (lv_at hl 0 rfl) ?_
          refine lv_dup hx hb dX8_book_66 rfl ?_
          refine g_getI C0 hG (L82 hG) rfl 42 (by decide) rfl w_888 dX8_book_67 ?_
          refine lv_iconst (v := (1 : Int32)) hx hb dX8_book_70 (by decide) ?_
          refine lv_iadd hx hb dX8_book_71 ?_
          refine g_putI (ty := .int) C0 hG (L82 hG) rfl 42 (by decide) rfl w_888 rfl (by decide) rfl rfl dX8_book_72 (fun H locs hG => ?_)
          refine lv_aload_n hx hb dX8_book_75 rfl (lv_at hl 0 rfl) ?_
          refine g_getI C0 hG (L82 hG) rfl 42 (by decide) rfl w_888 dX8_book_76 ?_
          obtain ⟨hr1, hu⟩ := gret_s hf
          subst hr1
          subst hu
          subst hQ
          exact g_iret C0 hG hr dX8_book_79
        · have hf := gif_t c6 hf
          refine lv_bipush (v := (-4 : Int32)) hx hb dX8_book_42 (by decide) ?_
          obtain ⟨hr1, hu⟩ := gret_s hf
          subst hr1
          subst hu
          subst hQ
          exact g_iret C0 hG hr dX8_book_44
      · have hf := gif_t c5 hf
        refine lv_bipush (v := (-2 : Int32)) hx hb dX8_book_30 (by decide) ?_
        obtain ⟨hr1, hu⟩ := gret_s hf
        subst hr1
        subst hu
        subst hQ
        exact g_iret C0 hG hr dX8_book_32
    · have hf := gif_t c3 hf
      refine lv_iconst (v := (-1 : Int32)) hx hb dX8_book_20 (by decide) ?_
      obtain ⟨hr1, hu⟩ := gret_s hf
      subst hr1
      subst hu
      subst hQ
      exact g_iret C0 hG hr dX8_book_21
  · have hf := gif_t c1 hf
    refine lv_aload_n hx hb dX8_book_5 rfl (lv_at hl 0 rfl) ?_
    refine lv_iconst (v := (0 : Int32)) hx hb dX8_book_6 (by decide) ?_
    refine g_putI (ty := .int) C0 hG (L82 hG) rfl 42 (by decide) rfl w_888 rfl (by decide) rfl rfl dX8_book_7 (fun H locs hG => ?_)
    refine lv_iconst (v := (0 : Int32)) hx hb dX8_book_10 (by decide) ?_
    obtain ⟨hr1, hu⟩ := gret_s hf
    subst hr1
    subst hu
    subst hQ
    exact g_iret C0 hG hr dX8_book_11
theorem dX8_looked_0 : decode cX8_looked 0 = .ok (.iconst 0, 1) := by decide +kernel
theorem dX8_looked_1 : decode cX8_looked 1 = .ok (.istore_n 1, 1) := by decide +kernel
theorem dX8_looked_2 : decode cX8_looked 2 = .ok (.iload_n 1, 1) := by decide +kernel
theorem dX8_looked_3 : decode cX8_looked 3 = .ok (.aload_n 0, 1) := by decide +kernel
theorem dX8_looked_4 : decode cX8_looked 4 = .ok (.getfield 138, 3) := by decide +kernel
theorem dX8_looked_7 : decode cX8_looked 7 = .ok (.if_icmp .ge 31, 3) := by decide +kernel
theorem dX8_looked_10 : decode cX8_looked 10 = .ok (.aload_n 0, 1) := by decide +kernel
theorem dX8_looked_11 : decode cX8_looked 11 = .ok (.getfield 35, 3) := by decide +kernel
theorem dX8_looked_14 : decode cX8_looked 14 = .ok (.aload_n 0, 1) := by decide +kernel
theorem dX8_looked_15 : decode cX8_looked 15 = .ok (.getfield 147, 3) := by decide +kernel
theorem dX8_looked_18 : decode cX8_looked 18 = .ok (.iload_n 1, 1) := by decide +kernel
theorem dX8_looked_19 : decode cX8_looked 19 = .ok (.iaload, 1) := by decide +kernel
theorem dX8_looked_20 : decode cX8_looked 20 = .ok (.iaload, 1) := by decide +kernel
theorem dX8_looked_21 : decode cX8_looked 21 = .ok (.aload_n 0, 1) := by decide +kernel
theorem dX8_looked_22 : decode cX8_looked 22 = .ok (.getfield 150, 3) := by decide +kernel
theorem dX8_looked_25 : decode cX8_looked 25 = .ok (.iload_n 1, 1) := by decide +kernel
theorem dX8_looked_26 : decode cX8_looked 26 = .ok (.iaload, 1) := by decide +kernel
theorem dX8_looked_27 : decode cX8_looked 27 = .ok (.if_icmp .eq 5, 3) := by decide +kernel
theorem dX8_looked_30 : decode cX8_looked 30 = .ok (.iload_n 1, 1) := by decide +kernel
theorem dX8_looked_31 : decode cX8_looked 31 = .ok (.ireturn, 1) := by decide +kernel
theorem dX8_looked_32 : decode cX8_looked 32 = .ok (.iinc 1 1, 3) := by decide +kernel
theorem dX8_looked_35 : decode cX8_looked 35 = .ok (.goto (-33), 3) := by decide +kernel
theorem dX8_looked_38 : decode cX8_looked 38 = .ok (.bipush (-5), 2) := by decide +kernel
theorem dX8_looked_40 : decode cX8_looked 40 = .ok (.ireturn, 1) := by decide +kernel
def f_X8_looked_L2 (u : Mem) (x1_1 : Int32) : Option (Int32 ⊕ Int32) := (if (gI u 82 42) ≤ x1_1 then some (Sum.inr (-5 : Int32)) else gin x1_1 8 (gin (gA u 108 x1_1.toNatClampNeg) 6 (gin x1_1 8 ((if (gA u 86 (gA u 108 x1_1.toNatClampNeg).toNatClampNeg) = (gA u 109 x1_1.toNatClampNeg) then some (Sum.inl (x1_1 + (1 : Int32))) else some (Sum.inr (x1_1)))))))
def f_X8_looked (u : Mem) : Option (Int32) := whileO (fun s => f_X8_looked_L2 u s) FUEL (0 : Int32)
set_option maxHeartbeats 4000000 in
set_option maxRecDepth 100000 in
theorem k_X8_looked (l : Launch) (D : gDt) (base : Nat) (Z : gZt) (u : Mem) (r : Int32) (hf : f_X8_looked u = some r) : Met l yX8_looked (gws yX8_looked cX8_looked 2 (some .int)) (gRm 1 0 0) (gPc D base Z u [.ref (base + 82)]) (gQi D base r u) 0 0 (gF base) := by
  refine Met.ofW (cc := cX8_looked) (maxL := 2) (ret := some .int) (by decide) rfl ?_
  intro p e s m args below meth c s₁ B hml hv
  obtain ⟨rfl, C0, hG⟩ := g_enter B hml hv
  have hr := B.returns
  have C0 : gC p s m meth c _ cX8_looked 2 RX8 D base Z := C0
  have hx := C0.1
  have hb := C0.2.1
  have hl := lv_entry ([.ref (base + 82)]) (n := 2) (Nat.le_of_ble_eq_true rfl)
  rw [lg_entry_eq]
  generalize (lg_sl ([.ref (base + 82)]) ++ List.replicate (2 - (lg_sl ([.ref (base + 82)])).length) Slot.unset).toArray = ls at hl ⊢
  have hl : lv_has ls 2 [(0, .ref (base + 82))] := hl
  obtain ⟨Q, hQ⟩ : ∃ Q, Q = MQ below (gQi D base r u) ([.ref (base + 82)] : List Value).toArray s 0 0 (gF base) := ⟨_, rfl⟩
  rw [← hQ]
  change W p l e (gRm 1 0 0) s m _ below meth c _ _ _ _ _ _
  unfold f_X8_looked at hf
  refine lv_iconst (v := (0 : Int32)) hx hb dX8_looked_0 (by decide) ?_
  refine lv_istore_n (lv' := [(1, .int (0 : Int32)), (0, .ref (base + 82))]) hx hb dX8_looked_1 rfl hl (by decide) rfl (fun ls hl => ?_)
  have loop1 : ∀ (n1 : Nat) (x1_1 : Int32) (H : Heap) (locs : List Loc) (ls : Array Slot), gH D base s u H locs → lv_has ls 2 [(0, .ref (base + 82)), (1, .int x1_1)] → whileO (fun s => f_X8_looked_L2 u s) n1 x1_1 = some r → W p l e (gRm 1 0 0) s m ([.ref (base + 82)] : List Value).toArray below meth c H locs 0 0 Q (F0 m 2 ls []) := by
    intro n1
    induction n1 with
    | zero => intro x1_1 H locs ls hG hl hf; cases hf
    | succ n1 ih1 =>
      intro x1_1 H locs ls hG hl hf
      obtain ⟨X1, hf, hX1⟩ := while_s hf
      have hf : f_X8_looked_L2 u x1_1 = some X1 := hf
      unfold f_X8_looked_L2 at hf
      refine lv_iload_n hx hb dX8_looked_2 rfl (lv_at hl 1 rfl) ?_
      refine lv_aload_n hx hb dX8_looked_3 rfl (lv_at hl 0 rfl) ?_
      refine g_getI C0 hG (L82 hG) rfl 42 (by decide) rfl w_888 dX8_looked_4 ?_
      refine lv_icmp_ge (tgt := 38) hx hb dX8_looked_7 (by decide) (fun c2 => ?_) (fun c2 => ?_)
      · have hf := gif_t c2 hf
        refine lv_bipush (v := (-5 : Int32)) hx hb dX8_looked_38 (by decide) ?_
        have hf := while_r hX1 hf
        have hf := Option.some.inj hf
        subst hf
        subst hQ
        exact g_iret C0 hG hr dX8_looked_40
      · have hf := gif_f c2 hf
        refine lv_aload_n hx hb dX8_looked_10 rfl (lv_at hl 0 rfl) ?_
        refine g_getSa (o := 4) (a := 86) C0 hG (L82 hG) rfl 8 (by decide) rfl rfl w_854 dX8_looked_11 ?_
        refine lv_aload_n hx hb dX8_looked_14 rfl (lv_at hl 0 rfl) ?_
        refine g_getSa (o := 26) (a := 108) C0 hG (L82 hG) rfl 45 (by decide) rfl rfl w_891 dX8_looked_15 ?_
        refine lv_iload_n hx hb dX8_looked_18 rfl (lv_at hl 1 rfl) ?_
        obtain ⟨h3, hf⟩ := gin_s hf
        refine g_iald C0 hG (L108 hG) h3 dX8_looked_19 ?_
        obtain ⟨h4, hf⟩ := gin_s hf
        refine g_iald C0 hG (L86 hG) h4 dX8_looked_20 ?_
        refine lv_aload_n hx hb dX8_looked_21 rfl (lv_at hl 0 rfl) ?_
        refine g_getSa (o := 27) (a := 109) C0 hG (L82 hG) rfl 46 (by decide) rfl rfl w_892 dX8_looked_22 ?_
        refine lv_iload_n hx hb dX8_looked_25 rfl (lv_at hl 1 rfl) ?_
        obtain ⟨h5, hf⟩ := gin_s hf
        refine g_iald C0 hG (L109 hG) h5 dX8_looked_26 ?_
        refine lv_icmp_eq (tgt := 32) hx hb dX8_looked_27 (by decide) (fun c6 => ?_) (fun c6 => ?_)
        · have hf := gif_t c6 hf
          refine lv_iinc (v := x1_1 + (1 : Int32)) (lv' := [(1, .int (x1_1 + (1 : Int32))), (0, .ref (base + 82))]) hx hb dX8_looked_32 hl (k := 1) rfl rfl (by decide) rfl (fun ls hl => ?_)
          refine lv_goto (tgt := 2) hx hb dX8_looked_35 (by decide) ?_
          have hf := while_l hX1 hf
          exact ih1 (x1_1 + (1 : Int32)) _ _ ls hG (lv_sub hl [1, 0] rfl) hf
        · have hf := gif_f c6 hf
          refine lv_iload_n hx hb dX8_looked_30 rfl (lv_at hl 1 rfl) ?_
          have hf := while_r hX1 hf
          have hf := Option.some.inj hf
          subst hf
          subst hQ
          exact g_iret C0 hG hr dX8_looked_31
  exact loop1 FUEL (0 : Int32) _ _ ls hG (lv_sub hl [1, 0] rfl) hf
theorem dX8_isTape_0 : decode cX8_isTape 0 = .ok (.aload_n 0, 1) := by decide +kernel
theorem dX8_isTape_1 : decode cX8_isTape 1 = .ok (.iload_n 1, 1) := by decide +kernel
theorem dX8_isTape_2 : decode cX8_isTape 2 = .ok (.iconst 0, 1) := by decide +kernel
theorem dX8_isTape_3 : decode cX8_isTape 3 = .ok (.iconst 5, 1) := by decide +kernel
theorem dX8_isTape_4 : decode cX8_isTape 4 = .ok (.invokevirtual 249, 3) := by decide +kernel
theorem dX8_isTape_7 : decode cX8_isTape 7 = .ok (.ireturn, 1) := by decide +kernel
def f_X8_isTape (p1 : Int32) : Option (Int32) := Option.bind (f_X8_in p1 (0 : Int32) (5 : Int32)) (fun r1 => gbo r1 (some r1))
set_option maxHeartbeats 4000000 in
set_option maxRecDepth 100000 in
theorem k_X8_isTape (l : Launch) (D : gDt) (base : Nat) (Z : gZt) (u : Mem) (p1 : Int32) (r : Int32) (hf : f_X8_isTape p1 = some r) : Met l yX8_isTape (gws yX8_isTape cX8_isTape 2 (some .boolean)) (gRm 2 0 0) (gPc D base Z u [.ref (base + 82), .int p1]) (gQi D base r u) 0 0 (gF base) := by
  refine Met.ofW (cc := cX8_isTape) (maxL := 2) (ret := some .boolean) (by decide) rfl ?_
  intro p e s m args below meth c s₁ B hml hv
  obtain ⟨rfl, C0, hG⟩ := g_enter B hml hv
  have hr := B.returns
  have C0 : gC p s m meth c _ cX8_isTape 2 RX8 D base Z := C0
  have hx := C0.1
  have hb := C0.2.1
  have hl := lv_entry ([.ref (base + 82), .int p1]) (n := 2) (Nat.le_of_ble_eq_true rfl)
  rw [lg_entry_eq]
  generalize (lg_sl ([.ref (base + 82), .int p1]) ++ List.replicate (2 - (lg_sl ([.ref (base + 82), .int p1])).length) Slot.unset).toArray = ls at hl ⊢
  have hl : lv_has ls 2 [(0, .ref (base + 82)), (1, .int p1)] := hl
  obtain ⟨Q, hQ⟩ : ∃ Q, Q = MQ below (gQi D base r u) ([.ref (base + 82), .int p1] : List Value).toArray s 0 0 (gF base) := ⟨_, rfl⟩
  rw [← hQ]
  change W p l e (gRm 2 0 0) s m _ below meth c _ _ _ _ _ _
  unfold f_X8_isTape at hf
  refine lv_aload_n hx hb dX8_isTape_0 rfl (lv_at hl 0 rfl) ?_
  refine lv_iload_n hx hb dX8_isTape_1 rfl (lv_at hl 1 rfl) ?_
  refine lv_iconst (v := (0 : Int32)) hx hb dX8_isTape_2 (by decide) ?_
  refine lv_iconst (v := (5 : Int32)) hx hb dX8_isTape_3 (by decide) ?_
  obtain ⟨r1, hc1, hf⟩ := pb_s hf
  refine g_doI0 hG (g_runV C0 hG (k_X8_in l D base Z u p1 (0 : Int32) (5 : Int32) r1 hc1) m_X8_in v_X8_in w_1082 (by decide) (g_recv C0 hG (L82 hG) rfl) rfl hl.1 rfl (Nat.le_of_ble_eq_true rfl) dX8_isTape_4 ⟨Nat.zero_le _, Nat.zero_le _⟩) (fun H locs hG hk => ?_)
  obtain ⟨h2, hf⟩ := gbo_s hf
  have hf := Option.some.inj hf
  subst hf
  subst hQ
  exact g_zret C0 hG hr h2 dX8_isTape_7
theorem dX8_judge_0 : decode cX8_judge 0 = .ok (.aload_n 0, 1) := by decide +kernel
theorem dX8_judge_1 : decode cX8_judge 1 = .ok (.iload_n 1, 1) := by decide +kernel
theorem dX8_judge_2 : decode cX8_judge 2 = .ok (.invokevirtual 407, 3) := by decide +kernel
theorem dX8_judge_5 : decode cX8_judge 5 = .ok (.ifCond .ne 5, 3) := by decide +kernel
theorem dX8_judge_8 : decode cX8_judge 8 = .ok (.iconst (-1), 1) := by decide +kernel
theorem dX8_judge_9 : decode cX8_judge 9 = .ok (.ireturn, 1) := by decide +kernel
theorem dX8_judge_10 : decode cX8_judge 10 = .ok (.aload_n 0, 1) := by decide +kernel
theorem dX8_judge_11 : decode cX8_judge 11 = .ok (.getfield 232, 3) := by decide +kernel
theorem dX8_judge_14 : decode cX8_judge 14 = .ok (.iload_n 1, 1) := by decide +kernel
theorem dX8_judge_15 : decode cX8_judge 15 = .ok (.iaload, 1) := by decide +kernel
theorem dX8_judge_16 : decode cX8_judge 16 = .ok (.ifCond .lt 16, 3) := by decide +kernel
theorem dX8_judge_19 : decode cX8_judge 19 = .ok (.aload_n 0, 1) := by decide +kernel
theorem dX8_judge_20 : decode cX8_judge 20 = .ok (.getfield 232, 3) := by decide +kernel
theorem dX8_judge_23 : decode cX8_judge 23 = .ok (.iload_n 1, 1) := by decide +kernel
theorem dX8_judge_24 : decode cX8_judge 24 = .ok (.iaload, 1) := by decide +kernel
theorem dX8_judge_25 : decode cX8_judge 25 = .ok (.iconst 1, 1) := by decide +kernel
theorem dX8_judge_26 : decode cX8_judge 26 = .ok (.if_icmp .eq 6, 3) := by decide +kernel
theorem dX8_judge_29 : decode cX8_judge 29 = .ok (.bipush (-12), 2) := by decide +kernel
theorem dX8_judge_31 : decode cX8_judge 31 = .ok (.ireturn, 1) := by decide +kernel
theorem dX8_judge_32 : decode cX8_judge 32 = .ok (.iconst 0, 1) := by decide +kernel
theorem dX8_judge_33 : decode cX8_judge 33 = .ok (.istore_n 3, 1) := by decide +kernel
theorem dX8_judge_34 : decode cX8_judge 34 = .ok (.iload_n 3, 1) := by decide +kernel
theorem dX8_judge_35 : decode cX8_judge 35 = .ok (.aload_n 0, 1) := by decide +kernel
theorem dX8_judge_36 : decode cX8_judge 36 = .ok (.getfield 7, 3) := by decide +kernel
theorem dX8_judge_39 : decode cX8_judge 39 = .ok (.if_icmp .ge 67, 3) := by decide +kernel
theorem dX8_judge_42 : decode cX8_judge 42 = .ok (.aload_n 0, 1) := by decide +kernel
theorem dX8_judge_43 : decode cX8_judge 43 = .ok (.getfield 232, 3) := by decide +kernel
theorem dX8_judge_46 : decode cX8_judge 46 = .ok (.iload_n 1, 1) := by decide +kernel
theorem dX8_judge_47 : decode cX8_judge 47 = .ok (.iaload, 1) := by decide +kernel
theorem dX8_judge_48 : decode cX8_judge 48 = .ok (.ifCond .lt 21, 3) := by decide +kernel
theorem dX8_judge_51 : decode cX8_judge 51 = .ok (.iload_n 2, 1) := by decide +kernel
theorem dX8_judge_52 : decode cX8_judge 52 = .ok (.ifCond .lt 17, 3) := by decide +kernel
theorem dX8_judge_55 : decode cX8_judge 55 = .ok (.iload_n 2, 1) := by decide +kernel
theorem dX8_judge_56 : decode cX8_judge 56 = .ok (.aload_n 0, 1) := by decide +kernel
theorem dX8_judge_57 : decode cX8_judge 57 = .ok (.getfield 235, 3) := by decide +kernel
theorem dX8_judge_60 : decode cX8_judge 60 = .ok (.iload_n 1, 1) := by decide +kernel
theorem dX8_judge_61 : decode cX8_judge 61 = .ok (.iaload, 1) := by decide +kernel
theorem dX8_judge_62 : decode cX8_judge 62 = .ok (.iload_n 3, 1) := by decide +kernel
theorem dX8_judge_63 : decode cX8_judge 63 = .ok (.isub, 1) := by decide +kernel
theorem dX8_judge_64 : decode cX8_judge 64 = .ok (.iconst 1, 1) := by decide +kernel
theorem dX8_judge_65 : decode cX8_judge 65 = .ok (.isub, 1) := by decide +kernel
theorem dX8_judge_66 : decode cX8_judge 66 = .ok (.if_icmp .le 8, 3) := by decide +kernel
theorem dX8_judge_69 : decode cX8_judge 69 = .ok (.bipush 100, 2) := by decide +kernel
theorem dX8_judge_71 : decode cX8_judge 71 = .ok (.iload_n 3, 1) := by decide +kernel
theorem dX8_judge_72 : decode cX8_judge 72 = .ok (.iadd, 1) := by decide +kernel
theorem dX8_judge_73 : decode cX8_judge 73 = .ok (.ireturn, 1) := by decide +kernel
theorem dX8_judge_74 : decode cX8_judge 74 = .ok (.aload_n 0, 1) := by decide +kernel
theorem dX8_judge_75 : decode cX8_judge 75 = .ok (.getfield 238, 3) := by decide +kernel
theorem dX8_judge_78 : decode cX8_judge 78 = .ok (.bipush 60, 2) := by decide +kernel
theorem dX8_judge_80 : decode cX8_judge 80 = .ok (.iload_n 1, 1) := by decide +kernel
theorem dX8_judge_81 : decode cX8_judge 81 = .ok (.imul, 1) := by decide +kernel
theorem dX8_judge_82 : decode cX8_judge 82 = .ok (.iload_n 2, 1) := by decide +kernel
theorem dX8_judge_83 : decode cX8_judge 83 = .ok (.iadd, 1) := by decide +kernel
theorem dX8_judge_84 : decode cX8_judge 84 = .ok (.iload_n 3, 1) := by decide +kernel
theorem dX8_judge_85 : decode cX8_judge 85 = .ok (.iadd, 1) := by decide +kernel
theorem dX8_judge_86 : decode cX8_judge 86 = .ok (.laload, 1) := by decide +kernel
theorem dX8_judge_87 : decode cX8_judge 87 = .ok (.aload_n 0, 1) := by decide +kernel
theorem dX8_judge_88 : decode cX8_judge 88 = .ok (.getfield 35, 3) := by decide +kernel
theorem dX8_judge_91 : decode cX8_judge 91 = .ok (.iload_n 3, 1) := by decide +kernel
theorem dX8_judge_92 : decode cX8_judge 92 = .ok (.iaload, 1) := by decide +kernel
theorem dX8_judge_93 : decode cX8_judge 93 = .ok (.i2l, 1) := by decide +kernel
theorem dX8_judge_94 : decode cX8_judge 94 = .ok (.lcmp, 1) := by decide +kernel
theorem dX8_judge_95 : decode cX8_judge 95 = .ok (.ifCond .eq 5, 3) := by decide +kernel
theorem dX8_judge_98 : decode cX8_judge 98 = .ok (.iload_n 3, 1) := by decide +kernel
theorem dX8_judge_99 : decode cX8_judge 99 = .ok (.ireturn, 1) := by decide +kernel
theorem dX8_judge_100 : decode cX8_judge 100 = .ok (.iinc 3 1, 3) := by decide +kernel
theorem dX8_judge_103 : decode cX8_judge 103 = .ok (.goto (-69), 3) := by decide +kernel
theorem dX8_judge_106 : decode cX8_judge 106 = .ok (.bipush (-5), 2) := by decide +kernel
theorem dX8_judge_108 : decode cX8_judge 108 = .ok (.ireturn, 1) := by decide +kernel
def f_X8_judge_L34 (u : Mem) (p1 : Int32) (x3_5 : Int32) : Option (Int32 ⊕ Int32) := (if (gI u 82 0) ≤ x3_5 then some (Sum.inr (-5 : Int32)) else gin p1 6 (some (Sum.inr ((100 : Int32) + x3_5))))
def f_X8_judge_L34b (u : Mem) (p1 : Int32) (p2 : Int32) (x3_10 : Int32) : Option (Int32 ⊕ Int32) := (if (gI u 82 0) ≤ x3_10 then some (Sum.inr (-5 : Int32)) else gin p1 6 ((if p2 < 0 then some (Sum.inr ((100 : Int32) + x3_10)) else gin p1 6 ((if p2 ≤ (((gA u 126 p1.toNatClampNeg) - x3_10) - (1 : Int32)) then gin ((((60 : Int32) * p1) + p2) + x3_10) 360 (gin x3_10 6 ((if (lg_cmp (gL u 127 ((((60 : Int32) * p1) + p2) + x3_10).toNatClampNeg) ((gA u 86 x3_10.toNatClampNeg).toInt64)) = 0 then some (Sum.inl (x3_10 + (1 : Int32))) else some (Sum.inr (x3_10))))) else some (Sum.inr ((100 : Int32) + x3_10)))))))
def f_X8_judge (p1 : Int32) (p2 : Int32) (u : Mem) : Option (Int32) := Option.bind (f_X8_isTape p1) (fun r1 => (if r1 = 0 then some (-1 : Int32) else gin p1 6 ((if (gA u 125 p1.toNatClampNeg) < 0 then whileO (fun s => f_X8_judge_L34 u p1 s) FUEL (0 : Int32) else gin p1 6 ((if (gA u 125 p1.toNatClampNeg) = (1 : Int32) then whileO (fun s => f_X8_judge_L34b u p1 p2 s) FUEL (0 : Int32) else some (-12 : Int32)))))))
set_option maxHeartbeats 4000000 in
set_option maxRecDepth 100000 in
theorem k_X8_judge (l : Launch) (D : gDt) (base : Nat) (Z : gZt) (u : Mem) (p1 : Int32) (p2 : Int32) (r : Int32) (hf : f_X8_judge p1 p2 u = some r) : Met l yX8_judge (gws yX8_judge cX8_judge 4 (some .int)) (gRm 3 0 0) (gPc D base Z u [.ref (base + 82), .int p1, .int p2]) (gQi D base r u) 0 0 (gF base) := by
  refine Met.ofW (cc := cX8_judge) (maxL := 4) (ret := some .int) (by decide) rfl ?_
  intro p e s m args below meth c s₁ B hml hv
  obtain ⟨rfl, C0, hG⟩ := g_enter B hml hv
  have hr := B.returns
  have C0 : gC p s m meth c _ cX8_judge 4 RX8 D base Z := C0
  have hx := C0.1
  have hb := C0.2.1
  have hl := lv_entry ([.ref (base + 82), .int p1, .int p2]) (n := 4) (Nat.le_of_ble_eq_true rfl)
  rw [lg_entry_eq]
  generalize (lg_sl ([.ref (base + 82), .int p1, .int p2]) ++ List.replicate (4 - (lg_sl ([.ref (base + 82), .int p1, .int p2])).length) Slot.unset).toArray = ls at hl ⊢
  have hl : lv_has ls 4 [(0, .ref (base + 82)), (1, .int p1), (2, .int p2)] := hl
  obtain ⟨Q, hQ⟩ : ∃ Q, Q = MQ below (gQi D base r u) ([.ref (base + 82), .int p1, .int p2] : List Value).toArray s 0 0 (gF base) := ⟨_, rfl⟩
  rw [← hQ]
  change W p l e (gRm 3 0 0) s m _ below meth c _ _ _ _ _ _
  unfold f_X8_judge at hf
  refine lv_aload_n hx hb dX8_judge_0 rfl (lv_at hl 0 rfl) ?_
  refine lv_iload_n hx hb dX8_judge_1 rfl (lv_at hl 1 rfl) ?_
  obtain ⟨r1, hc1, hf⟩ := pb_s hf
  refine g_doI0 hG (g_runV C0 hG (k_X8_isTape l D base Z u p1 r1 hc1) m_X8_isTape v_X8_isTape w_1372 (by decide) (g_recv C0 hG (L82 hG) rfl) rfl hl.1 rfl (Nat.le_of_ble_eq_true rfl) dX8_judge_2 ⟨Nat.zero_le _, Nat.zero_le _⟩) (fun H locs hG hk => ?_)
  refine lv_if_ne (tgt := 10) hx hb dX8_judge_5 (by decide) (fun c2 => ?_) (fun c2 => ?_)
  · have hf := gif_f c2 hf
    refine lv_aload_n hx hb dX8_judge_10 rfl (lv_at hl 0 rfl) ?_
    refine g_getSa (o := 43) (a := 125) C0 hG (L82 hG) rfl 73 (by decide) rfl rfl w_919 dX8_judge_11 ?_
    refine lv_iload_n hx hb dX8_judge_14 rfl (lv_at hl 1 rfl) ?_
    obtain ⟨h3, hf⟩ := gin_s hf
    refine g_iald C0 hG (L125 hG) h3 dX8_judge_15 ?_
    refine lv_if_lt (tgt := 32) hx hb dX8_judge_16 (by decide) (fun c4 => ?_) (fun c4 => ?_)
    · have hf := gif_t c4 hf
      refine lv_iconst (v := (0 : Int32)) hx hb dX8_judge_32 (by decide) ?_
      refine lv_istore_n (lv' := [(3, .int (0 : Int32)), (0, .ref (base + 82)), (1, .int p1), (2, .int p2)]) hx hb dX8_judge_33 rfl hl (by decide) rfl (fun ls hl => ?_)
      have loop5 : ∀ (n5 : Nat) (x3_5 : Int32) (H : Heap) (locs : List Loc) (ls : Array Slot), gH D base s u H locs → lv_has ls 4 [(0, .ref (base + 82)), (1, .int p1), (2, .int p2), (3, .int x3_5)] → whileO (fun s => f_X8_judge_L34 u p1 s) n5 x3_5 = some r → W p l e (gRm 3 0 0) s m ([.ref (base + 82), .int p1, .int p2] : List Value).toArray below meth c H locs 0 0 Q (F0 m 34 ls []) := by
        intro n5
        induction n5 with
        | zero => intro x3_5 H locs ls hG hl hf; cases hf
        | succ n5 ih5 =>
          intro x3_5 H locs ls hG hl hf
          obtain ⟨X5, hf, hX5⟩ := while_s hf
          have hf : f_X8_judge_L34 u p1 x3_5 = some X5 := hf
          unfold f_X8_judge_L34 at hf
          refine lv_iload_n hx hb dX8_judge_34 rfl (lv_at hl 3 rfl) ?_
          refine lv_aload_n hx hb dX8_judge_35 rfl (lv_at hl 0 rfl) ?_
          refine g_getI C0 hG (L82 hG) rfl 0 (by decide) rfl w_846 dX8_judge_36 ?_
          refine lv_icmp_ge (tgt := 106) hx hb dX8_judge_39 (by decide) (fun c6 => ?_) (fun c6 => ?_)
          · have hf := gif_t c6 hf
            refine lv_bipush (v := (-5 : Int32)) hx hb dX8_judge_106 (by decide) ?_
            have hf := while_r hX5 hf
            have hf := Option.some.inj hf
            subst hf
            subst hQ
            exact g_iret C0 hG hr dX8_judge_108
          · have hf := gif_f c6 hf
            refine lv_aload_n hx hb dX8_judge_42 rfl (lv_at hl 0 rfl) ?_
            refine g_getSa (o := 43) (a := 125) C0 hG (L82 hG) rfl 73 (by decide) rfl rfl w_919 dX8_judge_43 ?_
            refine lv_iload_n hx hb dX8_judge_46 rfl (lv_at hl 1 rfl) ?_
            obtain ⟨h7, hf⟩ := gin_s hf
            refine g_iald C0 hG (L125 hG) h7 dX8_judge_47 ?_
            refine lv_if_lt (tgt := 69) hx hb dX8_judge_48 (by decide) (fun _ => ?_) (fun c => absurd c4 c)
            refine lv_bipush (v := (100 : Int32)) hx hb dX8_judge_69 (by decide) ?_
            refine lv_iload_n hx hb dX8_judge_71 rfl (lv_at hl 3 rfl) ?_
            refine lv_iadd hx hb dX8_judge_72 ?_
            have hf := while_r hX5 hf
            have hf := Option.some.inj hf
            subst hf
            subst hQ
            exact g_iret C0 hG hr dX8_judge_73
      exact loop5 FUEL (0 : Int32) _ _ ls hG (lv_sub hl [1, 2, 3, 0] rfl) hf
    · have hf := gif_f c4 hf
      refine lv_aload_n hx hb dX8_judge_19 rfl (lv_at hl 0 rfl) ?_
      refine g_getSa (o := 43) (a := 125) C0 hG (L82 hG) rfl 73 (by decide) rfl rfl w_919 dX8_judge_20 ?_
      refine lv_iload_n hx hb dX8_judge_23 rfl (lv_at hl 1 rfl) ?_
      obtain ⟨h8, hf⟩ := gin_s hf
      refine g_iald C0 hG (L125 hG) h8 dX8_judge_24 ?_
      refine lv_iconst (v := (1 : Int32)) hx hb dX8_judge_25 (by decide) ?_
      refine lv_icmp_eq (tgt := 32) hx hb dX8_judge_26 (by decide) (fun c9 => ?_) (fun c9 => ?_)
      · have hf := gif_t c9 hf
        refine lv_iconst (v := (0 : Int32)) hx hb dX8_judge_32 (by decide) ?_
        refine lv_istore_n (lv' := [(3, .int (0 : Int32)), (0, .ref (base + 82)), (1, .int p1), (2, .int p2)]) hx hb dX8_judge_33 rfl hl (by decide) rfl (fun ls hl => ?_)
        have loop10 : ∀ (n10 : Nat) (x3_10 : Int32) (H : Heap) (locs : List Loc) (ls : Array Slot), gH D base s u H locs → lv_has ls 4 [(0, .ref (base + 82)), (1, .int p1), (2, .int p2), (3, .int x3_10)] → whileO (fun s => f_X8_judge_L34b u p1 p2 s) n10 x3_10 = some r → W p l e (gRm 3 0 0) s m ([.ref (base + 82), .int p1, .int p2] : List Value).toArray below meth c H locs 0 0 Q (F0 m 34 ls []) := by
          intro n10
          induction n10 with
          | zero => intro x3_10 H locs ls hG hl hf; cases hf
          | succ n10 ih10 =>
            intro x3_10 H locs ls hG hl hf
            obtain ⟨X10, hf, hX10⟩ := while_s hf
            have hf : f_X8_judge_L34b u p1 p2 x3_10 = some X10 := hf
            unfold f_X8_judge_L34b at hf
            refine lv_iload_n hx hb dX8_judge_34 rfl (lv_at hl 3 rfl) ?_
            refine lv_aload_n hx hb dX8_judge_35 rfl (lv_at hl 0 rfl) ?_
            refine g_getI C0 hG (L82 hG) rfl 0 (by decide) rfl w_846 dX8_judge_36 ?_
            refine lv_icmp_ge (tgt := 106) hx hb dX8_judge_39 (by decide) (fun c11 => ?_) (fun c11 => ?_)
            · have hf := gif_t c11 hf
              refine lv_bipush (v := (-5 : Int32)) hx hb dX8_judge_106 (by decide) ?_
              have hf := while_r hX10 hf
              have hf := Option.some.inj hf
              subst hf
              subst hQ
              exact g_iret C0 hG hr dX8_judge_108
            · have hf := gif_f c11 hf
              refine lv_aload_n hx hb dX8_judge_42 rfl (lv_at hl 0 rfl) ?_
              refine g_getSa (o := 43) (a := 125) C0 hG (L82 hG) rfl 73 (by decide) rfl rfl w_919 dX8_judge_43 ?_
              refine lv_iload_n hx hb dX8_judge_46 rfl (lv_at hl 1 rfl) ?_
              obtain ⟨h12, hf⟩ := gin_s hf
              refine g_iald C0 hG (L125 hG) h12 dX8_judge_47 ?_
              refine lv_if_lt (tgt := 69) hx hb dX8_judge_48 (by decide) (fun c => absurd c c4) (fun _ => ?_)
              refine lv_iload_n hx hb dX8_judge_51 rfl (lv_at hl 2 rfl) ?_
              refine lv_if_lt (tgt := 69) hx hb dX8_judge_52 (by decide) (fun c13 => ?_) (fun c13 => ?_)
              · have hf := gif_t c13 hf
                refine lv_bipush (v := (100 : Int32)) hx hb dX8_judge_69 (by decide) ?_
                refine lv_iload_n hx hb dX8_judge_71 rfl (lv_at hl 3 rfl) ?_
                refine lv_iadd hx hb dX8_judge_72 ?_
                have hf := while_r hX10 hf
                have hf := Option.some.inj hf
                subst hf
                subst hQ
                exact g_iret C0 hG hr dX8_judge_73
              · have hf := gif_f c13 hf
                refine lv_iload_n hx hb dX8_judge_55 rfl (lv_at hl 2 rfl) ?_
                refine lv_aload_n hx hb dX8_judge_56 rfl (lv_at hl 0 rfl) ?_
                refine g_getSa (o := 44) (a := 126) C0 hG (L82 hG) rfl 74 (by decide) rfl rfl w_920 dX8_judge_57 ?_
                refine lv_iload_n hx hb dX8_judge_60 rfl (lv_at hl 1 rfl) ?_
                obtain ⟨h14, hf⟩ := gin_s hf
                refine g_iald C0 hG (L126 hG) h14 dX8_judge_61 ?_
                refine lv_iload_n hx hb dX8_judge_62 rfl (lv_at hl 3 rfl) ?_
                refine lv_isub hx hb dX8_judge_63 ?_
                refine lv_iconst (v := (1 : Int32)) hx hb dX8_judge_64 (by decide) ?_
                refine lv_isub hx hb dX8_judge_65 ?_
                refine lv_icmp_le (tgt := 74) hx hb dX8_judge_66 (by decide) (fun c15 => ?_) (fun c15 => ?_)
                · have hf := gif_t c15 hf
                  refine lv_aload_n hx hb dX8_judge_74 rfl (lv_at hl 0 rfl) ?_
                  refine g_getSa (o := 45) (a := 127) C0 hG (L82 hG) rfl 75 (by decide) rfl rfl w_921 dX8_judge_75 ?_
                  refine lv_bipush (v := (60 : Int32)) hx hb dX8_judge_78 (by decide) ?_
                  refine lv_iload_n hx hb dX8_judge_80 rfl (lv_at hl 1 rfl) ?_
                  refine lv_imul hx hb dX8_judge_81 ?_
                  refine lv_iload_n hx hb dX8_judge_82 rfl (lv_at hl 2 rfl) ?_
                  refine lv_iadd hx hb dX8_judge_83 ?_
                  refine lv_iload_n hx hb dX8_judge_84 rfl (lv_at hl 3 rfl) ?_
                  refine lv_iadd hx hb dX8_judge_85 ?_
                  obtain ⟨h16, hf⟩ := gin_s hf
                  refine g_lald C0 hG (L127 hG) h16 dX8_judge_86 ?_
                  refine lv_aload_n hx hb dX8_judge_87 rfl (lv_at hl 0 rfl) ?_
                  refine g_getSa (o := 4) (a := 86) C0 hG (L82 hG) rfl 8 (by decide) rfl rfl w_854 dX8_judge_88 ?_
                  refine lv_iload_n hx hb dX8_judge_91 rfl (lv_at hl 3 rfl) ?_
                  obtain ⟨h17, hf⟩ := gin_s hf
                  refine g_iald C0 hG (L86 hG) h17 dX8_judge_92 ?_
                  refine lv_i2l (v := (gA u 86 x3_10.toNatClampNeg).toInt64) hx hb dX8_judge_93 rfl ?_
                  refine W.lcmp hx hb dX8_judge_94 ?_
                  refine lv_if_eq (tgt := 100) hx hb dX8_judge_95 (by decide) (fun c18 => ?_) (fun c18 => ?_)
                  · have hf := gif_t c18 hf
                    refine lv_iinc (v := x3_10 + (1 : Int32)) (lv' := [(3, .int (x3_10 + (1 : Int32))), (0, .ref (base + 82)), (1, .int p1), (2, .int p2)]) hx hb dX8_judge_100 hl (k := 3) rfl rfl (by decide) rfl (fun ls hl => ?_)
                    refine lv_goto (tgt := 34) hx hb dX8_judge_103 (by decide) ?_
                    have hf := while_l hX10 hf
                    exact ih10 (x3_10 + (1 : Int32)) _ _ ls hG (lv_sub hl [1, 2, 3, 0] rfl) hf
                  · have hf := gif_f c18 hf
                    refine lv_iload_n hx hb dX8_judge_98 rfl (lv_at hl 3 rfl) ?_
                    have hf := while_r hX10 hf
                    have hf := Option.some.inj hf
                    subst hf
                    subst hQ
                    exact g_iret C0 hG hr dX8_judge_99
                · have hf := gif_f c15 hf
                  refine lv_bipush (v := (100 : Int32)) hx hb dX8_judge_69 (by decide) ?_
                  refine lv_iload_n hx hb dX8_judge_71 rfl (lv_at hl 3 rfl) ?_
                  refine lv_iadd hx hb dX8_judge_72 ?_
                  have hf := while_r hX10 hf
                  have hf := Option.some.inj hf
                  subst hf
                  subst hQ
                  exact g_iret C0 hG hr dX8_judge_73
        exact loop10 FUEL (0 : Int32) _ _ ls hG (lv_sub hl [1, 2, 3, 0] rfl) hf
      · have hf := gif_f c9 hf
        refine lv_bipush (v := (-12 : Int32)) hx hb dX8_judge_29 (by decide) ?_
        have hf := Option.some.inj hf
        subst hf
        subst hQ
        exact g_iret C0 hG hr dX8_judge_31
  · have hf := gif_t c2 hf
    refine lv_iconst (v := (-1 : Int32)) hx hb dX8_judge_8 (by decide) ?_
    have hf := Option.some.inj hf
    subst hf
    subst hQ
    exact g_iret C0 hG hr dX8_judge_9
theorem dX8_image_0 : decode cX8_image 0 = .ok (.aload_n 0, 1) := by decide +kernel
theorem dX8_image_1 : decode cX8_image 1 = .ok (.iconst 1, 1) := by decide +kernel
theorem dX8_image_2 : decode cX8_image 2 = .ok (.putfield 153, 3) := by decide +kernel
theorem dX8_image_5 : decode cX8_image 5 = .ok (.aload_n 0, 1) := by decide +kernel
theorem dX8_image_6 : decode cX8_image 6 = .ok (.aload_n 0, 1) := by decide +kernel
theorem dX8_image_7 : decode cX8_image 7 = .ok (.getfield 50, 3) := by decide +kernel
theorem dX8_image_10 : decode cX8_image 10 = .ok (.putfield 157, 3) := by decide +kernel
theorem dX8_image_13 : decode cX8_image 13 = .ok (.aload_n 0, 1) := by decide +kernel
theorem dX8_image_14 : decode cX8_image 14 = .ok (.aload_n 0, 1) := by decide +kernel
theorem dX8_image_15 : decode cX8_image 15 = .ok (.getfield 7, 3) := by decide +kernel
theorem dX8_image_18 : decode cX8_image 18 = .ok (.putfield 160, 3) := by decide +kernel
theorem dX8_image_21 : decode cX8_image 21 = .ok (.aload_n 0, 1) := by decide +kernel
theorem dX8_image_22 : decode cX8_image 22 = .ok (.aload_n 0, 1) := by decide +kernel
theorem dX8_image_23 : decode cX8_image 23 = .ok (.getfield 13, 3) := by decide +kernel
theorem dX8_image_26 : decode cX8_image 26 = .ok (.putfield 163, 3) := by decide +kernel
theorem dX8_image_29 : decode cX8_image 29 = .ok (.aload_n 0, 1) := by decide +kernel
theorem dX8_image_30 : decode cX8_image 30 = .ok (.aload_n 0, 1) := by decide +kernel
theorem dX8_image_31 : decode cX8_image 31 = .ok (.getfield 16, 3) := by decide +kernel
theorem dX8_image_34 : decode cX8_image 34 = .ok (.putfield 166, 3) := by decide +kernel
theorem dX8_image_37 : decode cX8_image 37 = .ok (.aload_n 0, 1) := by decide +kernel
theorem dX8_image_38 : decode cX8_image 38 = .ok (.aload_n 0, 1) := by decide +kernel
theorem dX8_image_39 : decode cX8_image 39 = .ok (.getfield 19, 3) := by decide +kernel
theorem dX8_image_42 : decode cX8_image 42 = .ok (.putfield 169, 3) := by decide +kernel
theorem dX8_image_45 : decode cX8_image 45 = .ok (.aload_n 0, 1) := by decide +kernel
theorem dX8_image_46 : decode cX8_image 46 = .ok (.aload_n 0, 1) := by decide +kernel
theorem dX8_image_47 : decode cX8_image 47 = .ok (.getfield 22, 3) := by decide +kernel
theorem dX8_image_50 : decode cX8_image 50 = .ok (.putfield 172, 3) := by decide +kernel
theorem dX8_image_53 : decode cX8_image 53 = .ok (.aload_n 0, 1) := by decide +kernel
theorem dX8_image_54 : decode cX8_image 54 = .ok (.aload_n 0, 1) := by decide +kernel
theorem dX8_image_55 : decode cX8_image 55 = .ok (.getfield 123, 3) := by decide +kernel
theorem dX8_image_58 : decode cX8_image 58 = .ok (.putfield 175, 3) := by decide +kernel
theorem dX8_image_61 : decode cX8_image 61 = .ok (.aload_n 0, 1) := by decide +kernel
theorem dX8_image_62 : decode cX8_image 62 = .ok (.aload_n 0, 1) := by decide +kernel
theorem dX8_image_63 : decode cX8_image 63 = .ok (.getfield 135, 3) := by decide +kernel
theorem dX8_image_66 : decode cX8_image 66 = .ok (.putfield 178, 3) := by decide +kernel
theorem dX8_image_69 : decode cX8_image 69 = .ok (.aload_n 0, 1) := by decide +kernel
theorem dX8_image_70 : decode cX8_image 70 = .ok (.aload_n 0, 1) := by decide +kernel
theorem dX8_image_71 : decode cX8_image 71 = .ok (.getfield 138, 3) := by decide +kernel
theorem dX8_image_74 : decode cX8_image 74 = .ok (.putfield 181, 3) := by decide +kernel
theorem dX8_image_77 : decode cX8_image 77 = .ok (.iconst 0, 1) := by decide +kernel
theorem dX8_image_78 : decode cX8_image 78 = .ok (.istore_n 1, 1) := by decide +kernel
theorem dX8_image_79 : decode cX8_image 79 = .ok (.iload_n 1, 1) := by decide +kernel
theorem dX8_image_80 : decode cX8_image 80 = .ok (.bipush 6, 2) := by decide +kernel
theorem dX8_image_82 : decode cX8_image 82 = .ok (.if_icmp .ge 57, 3) := by decide +kernel
theorem dX8_image_85 : decode cX8_image 85 = .ok (.aload_n 0, 1) := by decide +kernel
theorem dX8_image_86 : decode cX8_image 86 = .ok (.getfield 184, 3) := by decide +kernel
theorem dX8_image_89 : decode cX8_image 89 = .ok (.iload_n 1, 1) := by decide +kernel
theorem dX8_image_90 : decode cX8_image 90 = .ok (.aload_n 0, 1) := by decide +kernel
theorem dX8_image_91 : decode cX8_image 91 = .ok (.getfield 25, 3) := by decide +kernel
theorem dX8_image_94 : decode cX8_image 94 = .ok (.iload_n 1, 1) := by decide +kernel
theorem dX8_image_95 : decode cX8_image 95 = .ok (.iaload, 1) := by decide +kernel
theorem dX8_image_96 : decode cX8_image 96 = .ok (.iastore, 1) := by decide +kernel
theorem dX8_image_97 : decode cX8_image 97 = .ok (.aload_n 0, 1) := by decide +kernel
theorem dX8_image_98 : decode cX8_image 98 = .ok (.getfield 187, 3) := by decide +kernel
theorem dX8_image_101 : decode cX8_image 101 = .ok (.iload_n 1, 1) := by decide +kernel
theorem dX8_image_102 : decode cX8_image 102 = .ok (.aload_n 0, 1) := by decide +kernel
theorem dX8_image_103 : decode cX8_image 103 = .ok (.getfield 29, 3) := by decide +kernel
theorem dX8_image_106 : decode cX8_image 106 = .ok (.iload_n 1, 1) := by decide +kernel
theorem dX8_image_107 : decode cX8_image 107 = .ok (.iaload, 1) := by decide +kernel
theorem dX8_image_108 : decode cX8_image 108 = .ok (.iastore, 1) := by decide +kernel
theorem dX8_image_109 : decode cX8_image 109 = .ok (.aload_n 0, 1) := by decide +kernel
theorem dX8_image_110 : decode cX8_image 110 = .ok (.getfield 190, 3) := by decide +kernel
theorem dX8_image_113 : decode cX8_image 113 = .ok (.iload_n 1, 1) := by decide +kernel
theorem dX8_image_114 : decode cX8_image 114 = .ok (.aload_n 0, 1) := by decide +kernel
theorem dX8_image_115 : decode cX8_image 115 = .ok (.getfield 32, 3) := by decide +kernel
theorem dX8_image_118 : decode cX8_image 118 = .ok (.iload_n 1, 1) := by decide +kernel
theorem dX8_image_119 : decode cX8_image 119 = .ok (.iaload, 1) := by decide +kernel
theorem dX8_image_120 : decode cX8_image 120 = .ok (.iastore, 1) := by decide +kernel
theorem dX8_image_121 : decode cX8_image 121 = .ok (.aload_n 0, 1) := by decide +kernel
theorem dX8_image_122 : decode cX8_image 122 = .ok (.getfield 193, 3) := by decide +kernel
theorem dX8_image_125 : decode cX8_image 125 = .ok (.iload_n 1, 1) := by decide +kernel
theorem dX8_image_126 : decode cX8_image 126 = .ok (.aload_n 0, 1) := by decide +kernel
theorem dX8_image_127 : decode cX8_image 127 = .ok (.getfield 35, 3) := by decide +kernel
theorem dX8_image_130 : decode cX8_image 130 = .ok (.iload_n 1, 1) := by decide +kernel
theorem dX8_image_131 : decode cX8_image 131 = .ok (.iaload, 1) := by decide +kernel
theorem dX8_image_132 : decode cX8_image 132 = .ok (.iastore, 1) := by decide +kernel
theorem dX8_image_133 : decode cX8_image 133 = .ok (.iinc 1 1, 3) := by decide +kernel
theorem dX8_image_136 : decode cX8_image 136 = .ok (.goto (-57), 3) := by decide +kernel
theorem dX8_image_139 : decode cX8_image 139 = .ok (.iconst 0, 1) := by decide +kernel
theorem dX8_image_140 : decode cX8_image 140 = .ok (.istore_n 1, 1) := by decide +kernel
theorem dX8_image_141 : decode cX8_image 141 = .ok (.iload_n 1, 1) := by decide +kernel
theorem dX8_image_142 : decode cX8_image 142 = .ok (.bipush 24, 2) := by decide +kernel
theorem dX8_image_144 : decode cX8_image 144 = .ok (.if_icmp .ge 21, 3) := by decide +kernel
theorem dX8_image_147 : decode cX8_image 147 = .ok (.aload_n 0, 1) := by decide +kernel
theorem dX8_image_148 : decode cX8_image 148 = .ok (.getfield 196, 3) := by decide +kernel
theorem dX8_image_151 : decode cX8_image 151 = .ok (.iload_n 1, 1) := by decide +kernel
theorem dX8_image_152 : decode cX8_image 152 = .ok (.aload_n 0, 1) := by decide +kernel
theorem dX8_image_153 : decode cX8_image 153 = .ok (.getfield 38, 3) := by decide +kernel
theorem dX8_image_156 : decode cX8_image 156 = .ok (.iload_n 1, 1) := by decide +kernel
theorem dX8_image_157 : decode cX8_image 157 = .ok (.iaload, 1) := by decide +kernel
theorem dX8_image_158 : decode cX8_image 158 = .ok (.iastore, 1) := by decide +kernel
theorem dX8_image_159 : decode cX8_image 159 = .ok (.iinc 1 1, 3) := by decide +kernel
theorem dX8_image_162 : decode cX8_image 162 = .ok (.goto (-21), 3) := by decide +kernel
theorem dX8_image_165 : decode cX8_image 165 = .ok (.iconst 0, 1) := by decide +kernel
theorem dX8_image_166 : decode cX8_image 166 = .ok (.istore_n 1, 1) := by decide +kernel
theorem dX8_image_167 : decode cX8_image 167 = .ok (.iload_n 1, 1) := by decide +kernel
theorem dX8_image_168 : decode cX8_image 168 = .ok (.iconst 5, 1) := by decide +kernel
theorem dX8_image_169 : decode cX8_image 169 = .ok (.if_icmp .ge 45, 3) := by decide +kernel
theorem dX8_image_172 : decode cX8_image 172 = .ok (.aload_n 0, 1) := by decide +kernel
theorem dX8_image_173 : decode cX8_image 173 = .ok (.getfield 205, 3) := by decide +kernel
theorem dX8_image_176 : decode cX8_image 176 = .ok (.iload_n 1, 1) := by decide +kernel
theorem dX8_image_177 : decode cX8_image 177 = .ok (.aload_n 0, 1) := by decide +kernel
theorem dX8_image_178 : decode cX8_image 178 = .ok (.getfield 126, 3) := by decide +kernel
theorem dX8_image_181 : decode cX8_image 181 = .ok (.iload_n 1, 1) := by decide +kernel
theorem dX8_image_182 : decode cX8_image 182 = .ok (.iaload, 1) := by decide +kernel
theorem dX8_image_183 : decode cX8_image 183 = .ok (.iastore, 1) := by decide +kernel
theorem dX8_image_184 : decode cX8_image 184 = .ok (.aload_n 0, 1) := by decide +kernel
theorem dX8_image_185 : decode cX8_image 185 = .ok (.getfield 208, 3) := by decide +kernel
theorem dX8_image_188 : decode cX8_image 188 = .ok (.iload_n 1, 1) := by decide +kernel
theorem dX8_image_189 : decode cX8_image 189 = .ok (.aload_n 0, 1) := by decide +kernel
theorem dX8_image_190 : decode cX8_image 190 = .ok (.getfield 129, 3) := by decide +kernel
theorem dX8_image_193 : decode cX8_image 193 = .ok (.iload_n 1, 1) := by decide +kernel
theorem dX8_image_194 : decode cX8_image 194 = .ok (.iaload, 1) := by decide +kernel
theorem dX8_image_195 : decode cX8_image 195 = .ok (.iastore, 1) := by decide +kernel
theorem dX8_image_196 : decode cX8_image 196 = .ok (.aload_n 0, 1) := by decide +kernel
theorem dX8_image_197 : decode cX8_image 197 = .ok (.getfield 211, 3) := by decide +kernel
theorem dX8_image_200 : decode cX8_image 200 = .ok (.iload_n 1, 1) := by decide +kernel
theorem dX8_image_201 : decode cX8_image 201 = .ok (.aload_n 0, 1) := by decide +kernel
theorem dX8_image_202 : decode cX8_image 202 = .ok (.getfield 132, 3) := by decide +kernel
theorem dX8_image_205 : decode cX8_image 205 = .ok (.iload_n 1, 1) := by decide +kernel
theorem dX8_image_206 : decode cX8_image 206 = .ok (.iaload, 1) := by decide +kernel
theorem dX8_image_207 : decode cX8_image 207 = .ok (.iastore, 1) := by decide +kernel
theorem dX8_image_208 : decode cX8_image 208 = .ok (.iinc 1 1, 3) := by decide +kernel
theorem dX8_image_211 : decode cX8_image 211 = .ok (.goto (-44), 3) := by decide +kernel
theorem dX8_image_214 : decode cX8_image 214 = .ok (.iconst 0, 1) := by decide +kernel
theorem dX8_image_215 : decode cX8_image 215 = .ok (.istore_n 1, 1) := by decide +kernel
theorem dX8_image_216 : decode cX8_image 216 = .ok (.iload_n 1, 1) := by decide +kernel
theorem dX8_image_217 : decode cX8_image 217 = .ok (.bipush 10, 2) := by decide +kernel
theorem dX8_image_219 : decode cX8_image 219 = .ok (.if_icmp .ge 33, 3) := by decide +kernel
theorem dX8_image_222 : decode cX8_image 222 = .ok (.aload_n 0, 1) := by decide +kernel
theorem dX8_image_223 : decode cX8_image 223 = .ok (.getfield 214, 3) := by decide +kernel
theorem dX8_image_226 : decode cX8_image 226 = .ok (.iload_n 1, 1) := by decide +kernel
theorem dX8_image_227 : decode cX8_image 227 = .ok (.aload_n 0, 1) := by decide +kernel
theorem dX8_image_228 : decode cX8_image 228 = .ok (.getfield 141, 3) := by decide +kernel
theorem dX8_image_231 : decode cX8_image 231 = .ok (.iload_n 1, 1) := by decide +kernel
theorem dX8_image_232 : decode cX8_image 232 = .ok (.iaload, 1) := by decide +kernel
theorem dX8_image_233 : decode cX8_image 233 = .ok (.iastore, 1) := by decide +kernel
theorem dX8_image_234 : decode cX8_image 234 = .ok (.aload_n 0, 1) := by decide +kernel
theorem dX8_image_235 : decode cX8_image 235 = .ok (.getfield 217, 3) := by decide +kernel
theorem dX8_image_238 : decode cX8_image 238 = .ok (.iload_n 1, 1) := by decide +kernel
theorem dX8_image_239 : decode cX8_image 239 = .ok (.aload_n 0, 1) := by decide +kernel
theorem dX8_image_240 : decode cX8_image 240 = .ok (.getfield 144, 3) := by decide +kernel
theorem dX8_image_243 : decode cX8_image 243 = .ok (.iload_n 1, 1) := by decide +kernel
theorem dX8_image_244 : decode cX8_image 244 = .ok (.iaload, 1) := by decide +kernel
theorem dX8_image_245 : decode cX8_image 245 = .ok (.iastore, 1) := by decide +kernel
theorem dX8_image_246 : decode cX8_image 246 = .ok (.iinc 1 1, 3) := by decide +kernel
theorem dX8_image_249 : decode cX8_image 249 = .ok (.goto (-33), 3) := by decide +kernel
theorem dX8_image_252 : decode cX8_image 252 = .ok (.iconst 0, 1) := by decide +kernel
theorem dX8_image_253 : decode cX8_image 253 = .ok (.istore_n 1, 1) := by decide +kernel
theorem dX8_image_254 : decode cX8_image 254 = .ok (.iload_n 1, 1) := by decide +kernel
theorem dX8_image_255 : decode cX8_image 255 = .ok (.bipush 8, 2) := by decide +kernel
theorem dX8_image_257 : decode cX8_image 257 = .ok (.if_icmp .ge 57, 3) := by decide +kernel
theorem dX8_image_260 : decode cX8_image 260 = .ok (.aload_n 0, 1) := by decide +kernel
theorem dX8_image_261 : decode cX8_image 261 = .ok (.getfield 199, 3) := by decide +kernel
theorem dX8_image_264 : decode cX8_image 264 = .ok (.iload_n 1, 1) := by decide +kernel
theorem dX8_image_265 : decode cX8_image 265 = .ok (.aload_n 0, 1) := by decide +kernel
theorem dX8_image_266 : decode cX8_image 266 = .ok (.getfield 44, 3) := by decide +kernel
theorem dX8_image_269 : decode cX8_image 269 = .ok (.iload_n 1, 1) := by decide +kernel
theorem dX8_image_270 : decode cX8_image 270 = .ok (.iaload, 1) := by decide +kernel
theorem dX8_image_271 : decode cX8_image 271 = .ok (.iastore, 1) := by decide +kernel
theorem dX8_image_272 : decode cX8_image 272 = .ok (.aload_n 0, 1) := by decide +kernel
theorem dX8_image_273 : decode cX8_image 273 = .ok (.getfield 202, 3) := by decide +kernel
theorem dX8_image_276 : decode cX8_image 276 = .ok (.iload_n 1, 1) := by decide +kernel
theorem dX8_image_277 : decode cX8_image 277 = .ok (.aload_n 0, 1) := by decide +kernel
theorem dX8_image_278 : decode cX8_image 278 = .ok (.getfield 41, 3) := by decide +kernel
theorem dX8_image_281 : decode cX8_image 281 = .ok (.iload_n 1, 1) := by decide +kernel
theorem dX8_image_282 : decode cX8_image 282 = .ok (.iaload, 1) := by decide +kernel
theorem dX8_image_283 : decode cX8_image 283 = .ok (.iastore, 1) := by decide +kernel
theorem dX8_image_284 : decode cX8_image 284 = .ok (.aload_n 0, 1) := by decide +kernel
theorem dX8_image_285 : decode cX8_image 285 = .ok (.getfield 220, 3) := by decide +kernel
theorem dX8_image_288 : decode cX8_image 288 = .ok (.iload_n 1, 1) := by decide +kernel
theorem dX8_image_289 : decode cX8_image 289 = .ok (.aload_n 0, 1) := by decide +kernel
theorem dX8_image_290 : decode cX8_image 290 = .ok (.getfield 147, 3) := by decide +kernel
theorem dX8_image_293 : decode cX8_image 293 = .ok (.iload_n 1, 1) := by decide +kernel
theorem dX8_image_294 : decode cX8_image 294 = .ok (.iaload, 1) := by decide +kernel
theorem dX8_image_295 : decode cX8_image 295 = .ok (.iastore, 1) := by decide +kernel
theorem dX8_image_296 : decode cX8_image 296 = .ok (.aload_n 0, 1) := by decide +kernel
theorem dX8_image_297 : decode cX8_image 297 = .ok (.getfield 223, 3) := by decide +kernel
theorem dX8_image_300 : decode cX8_image 300 = .ok (.iload_n 1, 1) := by decide +kernel
theorem dX8_image_301 : decode cX8_image 301 = .ok (.aload_n 0, 1) := by decide +kernel
theorem dX8_image_302 : decode cX8_image 302 = .ok (.getfield 150, 3) := by decide +kernel
theorem dX8_image_305 : decode cX8_image 305 = .ok (.iload_n 1, 1) := by decide +kernel
theorem dX8_image_306 : decode cX8_image 306 = .ok (.iaload, 1) := by decide +kernel
theorem dX8_image_307 : decode cX8_image 307 = .ok (.iastore, 1) := by decide +kernel
theorem dX8_image_308 : decode cX8_image 308 = .ok (.iinc 1 1, 3) := by decide +kernel
theorem dX8_image_311 : decode cX8_image 311 = .ok (.goto (-57), 3) := by decide +kernel
theorem dX8_image_314 : decode cX8_image 314 = .ok (.aload_n 0, 1) := by decide +kernel
theorem dX8_image_315 : decode cX8_image 315 = .ok (.getfield 7, 3) := by decide +kernel
theorem dX8_image_318 : decode cX8_image 318 = .ok (.ireturn, 1) := by decide +kernel
def f_X8_image_L254 (x1_9 : Int32) (u9 : Mem) : Option ((Int32 × Mem) ⊕ ((Int32 × Mem) ⊕ ((Int32 × Mem) ⊕ ((Int32 × Mem) ⊕ ((Int32 × Mem) ⊕ (Int32 × Mem)))))) := (if (8 : Int32) ≤ x1_9 then some (Sum.inr (Sum.inr (Sum.inr (Sum.inr (Sum.inr (gI u9 82 0, u9)))))) else gin x1_9 8 (gin x1_9 8 (gin x1_9 8 (gin x1_9 8 (gin x1_9 8 (gin x1_9 8 (gin x1_9 8 (gin x1_9 8 (some (Sum.inl (x1_9 + (1 : Int32), sA (sA (sA (sA u9 115 x1_9.toNatClampNeg (gA u9 89 x1_9.toNatClampNeg)) 116 x1_9.toNatClampNeg (gA (sA u9 115 x1_9.toNatClampNeg (gA u9 89 x1_9.toNatClampNeg)) 88 x1_9.toNatClampNeg)) 122 x1_9.toNatClampNeg (gA (sA (sA u9 115 x1_9.toNatClampNeg (gA u9 89 x1_9.toNatClampNeg)) 116 x1_9.toNatClampNeg (gA (sA u9 115 x1_9.toNatClampNeg (gA u9 89 x1_9.toNatClampNeg)) 88 x1_9.toNatClampNeg)) 108 x1_9.toNatClampNeg)) 123 x1_9.toNatClampNeg (gA (sA (sA (sA u9 115 x1_9.toNatClampNeg (gA u9 89 x1_9.toNatClampNeg)) 116 x1_9.toNatClampNeg (gA (sA u9 115 x1_9.toNatClampNeg (gA u9 89 x1_9.toNatClampNeg)) 88 x1_9.toNatClampNeg)) 122 x1_9.toNatClampNeg (gA (sA (sA u9 115 x1_9.toNatClampNeg (gA u9 89 x1_9.toNatClampNeg)) 116 x1_9.toNatClampNeg (gA (sA u9 115 x1_9.toNatClampNeg (gA u9 89 x1_9.toNatClampNeg)) 88 x1_9.toNatClampNeg)) 108 x1_9.toNatClampNeg)) 109 x1_9.toNatClampNeg))))))))))))
def f_X8_image_L216 (x1_7 : Int32) (u7 : Mem) : Option ((Int32 × Mem) ⊕ ((Int32 × Mem) ⊕ ((Int32 × Mem) ⊕ ((Int32 × Mem) ⊕ (Int32 × Mem))))) := (if (10 : Int32) ≤ x1_7 then whileO (fun s => f_X8_image_L254 s.1 s.2) FUEL ((0 : Int32), u7) else gin x1_7 10 (gin x1_7 10 (gin x1_7 10 (gin x1_7 10 (some (Sum.inl (x1_7 + (1 : Int32), sA (sA u7 120 x1_7.toNatClampNeg (gA u7 106 x1_7.toNatClampNeg)) 121 x1_7.toNatClampNeg (gA (sA u7 120 x1_7.toNatClampNeg (gA u7 106 x1_7.toNatClampNeg)) 107 x1_7.toNatClampNeg))))))))
def f_X8_image_L167 (x1_5 : Int32) (u5 : Mem) : Option ((Int32 × Mem) ⊕ ((Int32 × Mem) ⊕ ((Int32 × Mem) ⊕ (Int32 × Mem)))) := (if (5 : Int32) ≤ x1_5 then whileO (fun s => f_X8_image_L216 s.1 s.2) FUEL ((0 : Int32), u5) else gin x1_5 5 (gin x1_5 5 (gin x1_5 5 (gin x1_5 5 (gin x1_5 5 (gin x1_5 5 (some (Sum.inl (x1_5 + (1 : Int32), sA (sA (sA u5 117 x1_5.toNatClampNeg (gA u5 103 x1_5.toNatClampNeg)) 118 x1_5.toNatClampNeg (gA (sA u5 117 x1_5.toNatClampNeg (gA u5 103 x1_5.toNatClampNeg)) 104 x1_5.toNatClampNeg)) 119 x1_5.toNatClampNeg (gA (sA (sA u5 117 x1_5.toNatClampNeg (gA u5 103 x1_5.toNatClampNeg)) 118 x1_5.toNatClampNeg (gA (sA u5 117 x1_5.toNatClampNeg (gA u5 103 x1_5.toNatClampNeg)) 104 x1_5.toNatClampNeg)) 105 x1_5.toNatClampNeg))))))))))
def f_X8_image_L141 (x1_3 : Int32) (u3 : Mem) : Option ((Int32 × Mem) ⊕ ((Int32 × Mem) ⊕ (Int32 × Mem))) := (if (24 : Int32) ≤ x1_3 then whileO (fun s => f_X8_image_L167 s.1 s.2) FUEL ((0 : Int32), u3) else gin x1_3 24 (gin x1_3 24 (some (Sum.inl (x1_3 + (1 : Int32), sA u3 114 x1_3.toNatClampNeg (gA u3 87 x1_3.toNatClampNeg))))))
def f_X8_image_L79 (x1_1 : Int32) (u1 : Mem) : Option ((Int32 × Mem) ⊕ (Int32 × Mem)) := (if (6 : Int32) ≤ x1_1 then whileO (fun s => f_X8_image_L141 s.1 s.2) FUEL ((0 : Int32), u1) else gin x1_1 6 (gin x1_1 6 (gin x1_1 6 (gin x1_1 6 (gin x1_1 6 (gin x1_1 6 (gin x1_1 6 (gin x1_1 6 (some (Sum.inl (x1_1 + (1 : Int32), sA (sA (sA (sA u1 110 x1_1.toNatClampNeg (gA u1 83 x1_1.toNatClampNeg)) 111 x1_1.toNatClampNeg (gA (sA u1 110 x1_1.toNatClampNeg (gA u1 83 x1_1.toNatClampNeg)) 84 x1_1.toNatClampNeg)) 112 x1_1.toNatClampNeg (gA (sA (sA u1 110 x1_1.toNatClampNeg (gA u1 83 x1_1.toNatClampNeg)) 111 x1_1.toNatClampNeg (gA (sA u1 110 x1_1.toNatClampNeg (gA u1 83 x1_1.toNatClampNeg)) 84 x1_1.toNatClampNeg)) 85 x1_1.toNatClampNeg)) 113 x1_1.toNatClampNeg (gA (sA (sA (sA u1 110 x1_1.toNatClampNeg (gA u1 83 x1_1.toNatClampNeg)) 111 x1_1.toNatClampNeg (gA (sA u1 110 x1_1.toNatClampNeg (gA u1 83 x1_1.toNatClampNeg)) 84 x1_1.toNatClampNeg)) 112 x1_1.toNatClampNeg (gA (sA (sA u1 110 x1_1.toNatClampNeg (gA u1 83 x1_1.toNatClampNeg)) 111 x1_1.toNatClampNeg (gA (sA u1 110 x1_1.toNatClampNeg (gA u1 83 x1_1.toNatClampNeg)) 84 x1_1.toNatClampNeg)) 85 x1_1.toNatClampNeg)) 86 x1_1.toNatClampNeg))))))))))))
def f_X8_image (u : Mem) : Option (Int32 × Mem) := whileO (fun s => f_X8_image_L79 s.1 s.2) FUEL ((0 : Int32), sI (sI (sI (sI (sI (sI (sI (sI (sI (sI u 82 47 (1 : Int32)) 82 48 (gI (sI u 82 47 (1 : Int32)) 82 13)) 82 49 (gI (sI (sI u 82 47 (1 : Int32)) 82 48 (gI (sI u 82 47 (1 : Int32)) 82 13)) 82 0)) 82 50 (gI (sI (sI (sI u 82 47 (1 : Int32)) 82 48 (gI (sI u 82 47 (1 : Int32)) 82 13)) 82 49 (gI (sI (sI u 82 47 (1 : Int32)) 82 48 (gI (sI u 82 47 (1 : Int32)) 82 13)) 82 0)) 82 1)) 82 51 (gI (sI (sI (sI (sI u 82 47 (1 : Int32)) 82 48 (gI (sI u 82 47 (1 : Int32)) 82 13)) 82 49 (gI (sI (sI u 82 47 (1 : Int32)) 82 48 (gI (sI u 82 47 (1 : Int32)) 82 13)) 82 0)) 82 50 (gI (sI (sI (sI u 82 47 (1 : Int32)) 82 48 (gI (sI u 82 47 (1 : Int32)) 82 13)) 82 49 (gI (sI (sI u 82 47 (1 : Int32)) 82 48 (gI (sI u 82 47 (1 : Int32)) 82 13)) 82 0)) 82 1)) 82 2)) 82 52 (gI (sI (sI (sI (sI (sI u 82 47 (1 : Int32)) 82 48 (gI (sI u 82 47 (1 : Int32)) 82 13)) 82 49 (gI (sI (sI u 82 47 (1 : Int32)) 82 48 (gI (sI u 82 47 (1 : Int32)) 82 13)) 82 0)) 82 50 (gI (sI (sI (sI u 82 47 (1 : Int32)) 82 48 (gI (sI u 82 47 (1 : Int32)) 82 13)) 82 49 (gI (sI (sI u 82 47 (1 : Int32)) 82 48 (gI (sI u 82 47 (1 : Int32)) 82 13)) 82 0)) 82 1)) 82 51 (gI (sI (sI (sI (sI u 82 47 (1 : Int32)) 82 48 (gI (sI u 82 47 (1 : Int32)) 82 13)) 82 49 (gI (sI (sI u 82 47 (1 : Int32)) 82 48 (gI (sI u 82 47 (1 : Int32)) 82 13)) 82 0)) 82 50 (gI (sI (sI (sI u 82 47 (1 : Int32)) 82 48 (gI (sI u 82 47 (1 : Int32)) 82 13)) 82 49 (gI (sI (sI u 82 47 (1 : Int32)) 82 48 (gI (sI u 82 47 (1 : Int32)) 82 13)) 82 0)) 82 1)) 82 2)) 82 3)) 82 53 (gI (sI (sI (sI (sI (sI (sI u 82 47 (1 : Int32)) 82 48 (gI (sI u 82 47 (1 : Int32)) 82 13)) 82 49 (gI (sI (sI u 82 47 (1 : Int32)) 82 48 (gI (sI u 82 47 (1 : Int32)) 82 13)) 82 0)) 82 50 (gI (sI (sI (sI u 82 47 (1 : Int32)) 82 48 (gI (sI u 82 47 (1 : Int32)) 82 13)) 82 49 (gI (sI (sI u 82 47 (1 : Int32)) 82 48 (gI (sI u 82 47 (1 : Int32)) 82 13)) 82 0)) 82 1)) 82 51 (gI (sI (sI (sI (sI u 82 47 (1 : Int32)) 82 48 (gI (sI u 82 47 (1 : Int32)) 82 13)) 82 49 (gI (sI (sI u 82 47 (1 : Int32)) 82 48 (gI (sI u 82 47 (1 : Int32)) 82 13)) 82 0)) 82 50 (gI (sI (sI (sI u 82 47 (1 : Int32)) 82 48 (gI (sI u 82 47 (1 : Int32)) 82 13)) 82 49 (gI (sI (sI u 82 47 (1 : Int32)) 82 48 (gI (sI u 82 47 (1 : Int32)) 82 13)) 82 0)) 82 1)) 82 2)) 82 52 (gI (sI (sI (sI (sI (sI u 82 47 (1 : Int32)) 82 48 (gI (sI u 82 47 (1 : Int32)) 82 13)) 82 49 (gI (sI (sI u 82 47 (1 : Int32)) 82 48 (gI (sI u 82 47 (1 : Int32)) 82 13)) 82 0)) 82 50 (gI (sI (sI (sI u 82 47 (1 : Int32)) 82 48 (gI (sI u 82 47 (1 : Int32)) 82 13)) 82 49 (gI (sI (sI u 82 47 (1 : Int32)) 82 48 (gI (sI u 82 47 (1 : Int32)) 82 13)) 82 0)) 82 1)) 82 51 (gI (sI (sI (sI (sI u 82 47 (1 : Int32)) 82 48 (gI (sI u 82 47 (1 : Int32)) 82 13)) 82 49 (gI (sI (sI u 82 47 (1 : Int32)) 82 48 (gI (sI u 82 47 (1 : Int32)) 82 13)) 82 0)) 82 50 (gI (sI (sI (sI u 82 47 (1 : Int32)) 82 48 (gI (sI u 82 47 (1 : Int32)) 82 13)) 82 49 (gI (sI (sI u 82 47 (1 : Int32)) 82 48 (gI (sI u 82 47 (1 : Int32)) 82 13)) 82 0)) 82 1)) 82 2)) 82 3)) 82 4)) 82 54 (gI (sI (sI (sI (sI (sI (sI (sI u 82 47 (1 : Int32)) 82 48 (gI (sI u 82 47 (1 : Int32)) 82 13)) 82 49 (gI (sI (sI u 82 47 (1 : Int32)) 82 48 (gI (sI u 82 47 (1 : Int32)) 82 13)) 82 0)) 82 50 (gI (sI (sI (sI u 82 47 (1 : Int32)) 82 48 (gI (sI u 82 47 (1 : Int32)) 82 13)) 82 49 (gI (sI (sI u 82 47 (1 : Int32)) 82 48 (gI (sI u 82 47 (1 : Int32)) 82 13)) 82 0)) 82 1)) 82 51 (gI (sI (sI (sI (sI u 82 47 (1 : Int32)) 82 48 (gI (sI u 82 47 (1 : Int32)) 82 13)) 82 49 (gI (sI (sI u 82 47 (1 : Int32)) 82 48 (gI (sI u 82 47 (1 : Int32)) 82 13)) 82 0)) 82 50 (gI (sI (sI (sI u 82 47 (1 : Int32)) 82 48 (gI (sI u 82 47 (1 : Int32)) 82 13)) 82 49 (gI (sI (sI u 82 47 (1 : Int32)) 82 48 (gI (sI u 82 47 (1 : Int32)) 82 13)) 82 0)) 82 1)) 82 2)) 82 52 (gI (sI (sI (sI (sI (sI u 82 47 (1 : Int32)) 82 48 (gI (sI u 82 47 (1 : Int32)) 82 13)) 82 49 (gI (sI (sI u 82 47 (1 : Int32)) 82 48 (gI (sI u 82 47 (1 : Int32)) 82 13)) 82 0)) 82 50 (gI (sI (sI (sI u 82 47 (1 : Int32)) 82 48 (gI (sI u 82 47 (1 : Int32)) 82 13)) 82 49 (gI (sI (sI u 82 47 (1 : Int32)) 82 48 (gI (sI u 82 47 (1 : Int32)) 82 13)) 82 0)) 82 1)) 82 51 (gI (sI (sI (sI (sI u 82 47 (1 : Int32)) 82 48 (gI (sI u 82 47 (1 : Int32)) 82 13)) 82 49 (gI (sI (sI u 82 47 (1 : Int32)) 82 48 (gI (sI u 82 47 (1 : Int32)) 82 13)) 82 0)) 82 50 (gI (sI (sI (sI u 82 47 (1 : Int32)) 82 48 (gI (sI u 82 47 (1 : Int32)) 82 13)) 82 49 (gI (sI (sI u 82 47 (1 : Int32)) 82 48 (gI (sI u 82 47 (1 : Int32)) 82 13)) 82 0)) 82 1)) 82 2)) 82 3)) 82 53 (gI (sI (sI (sI (sI (sI (sI u 82 47 (1 : Int32)) 82 48 (gI (sI u 82 47 (1 : Int32)) 82 13)) 82 49 (gI (sI (sI u 82 47 (1 : Int32)) 82 48 (gI (sI u 82 47 (1 : Int32)) 82 13)) 82 0)) 82 50 (gI (sI (sI (sI u 82 47 (1 : Int32)) 82 48 (gI (sI u 82 47 (1 : Int32)) 82 13)) 82 49 (gI (sI (sI u 82 47 (1 : Int32)) 82 48 (gI (sI u 82 47 (1 : Int32)) 82 13)) 82 0)) 82 1)) 82 51 (gI (sI (sI (sI (sI u 82 47 (1 : Int32)) 82 48 (gI (sI u 82 47 (1 : Int32)) 82 13)) 82 49 (gI (sI (sI u 82 47 (1 : Int32)) 82 48 (gI (sI u 82 47 (1 : Int32)) 82 13)) 82 0)) 82 50 (gI (sI (sI (sI u 82 47 (1 : Int32)) 82 48 (gI (sI u 82 47 (1 : Int32)) 82 13)) 82 49 (gI (sI (sI u 82 47 (1 : Int32)) 82 48 (gI (sI u 82 47 (1 : Int32)) 82 13)) 82 0)) 82 1)) 82 2)) 82 52 (gI (sI (sI (sI (sI (sI u 82 47 (1 : Int32)) 82 48 (gI (sI u 82 47 (1 : Int32)) 82 13)) 82 49 (gI (sI (sI u 82 47 (1 : Int32)) 82 48 (gI (sI u 82 47 (1 : Int32)) 82 13)) 82 0)) 82 50 (gI (sI (sI (sI u 82 47 (1 : Int32)) 82 48 (gI (sI u 82 47 (1 : Int32)) 82 13)) 82 49 (gI (sI (sI u 82 47 (1 : Int32)) 82 48 (gI (sI u 82 47 (1 : Int32)) 82 13)) 82 0)) 82 1)) 82 51 (gI (sI (sI (sI (sI u 82 47 (1 : Int32)) 82 48 (gI (sI u 82 47 (1 : Int32)) 82 13)) 82 49 (gI (sI (sI u 82 47 (1 : Int32)) 82 48 (gI (sI u 82 47 (1 : Int32)) 82 13)) 82 0)) 82 50 (gI (sI (sI (sI u 82 47 (1 : Int32)) 82 48 (gI (sI u 82 47 (1 : Int32)) 82 13)) 82 49 (gI (sI (sI u 82 47 (1 : Int32)) 82 48 (gI (sI u 82 47 (1 : Int32)) 82 13)) 82 0)) 82 1)) 82 2)) 82 3)) 82 4)) 82 37)) 82 55 (gI (sI (sI (sI (sI (sI (sI (sI (sI u 82 47 (1 : Int32)) 82 48 (gI (sI u 82 47 (1 : Int32)) 82 13)) 82 49 (gI (sI (sI u 82 47 (1 : Int32)) 82 48 (gI (sI u 82 47 (1 : Int32)) 82 13)) 82 0)) 82 50 (gI (sI (sI (sI u 82 47 (1 : Int32)) 82 48 (gI (sI u 82 47 (1 : Int32)) 82 13)) 82 49 (gI (sI (sI u 82 47 (1 : Int32)) 82 48 (gI (sI u 82 47 (1 : Int32)) 82 13)) 82 0)) 82 1)) 82 51 (gI (sI (sI (sI (sI u 82 47 (1 : Int32)) 82 48 (gI (sI u 82 47 (1 : Int32)) 82 13)) 82 49 (gI (sI (sI u 82 47 (1 : Int32)) 82 48 (gI (sI u 82 47 (1 : Int32)) 82 13)) 82 0)) 82 50 (gI (sI (sI (sI u 82 47 (1 : Int32)) 82 48 (gI (sI u 82 47 (1 : Int32)) 82 13)) 82 49 (gI (sI (sI u 82 47 (1 : Int32)) 82 48 (gI (sI u 82 47 (1 : Int32)) 82 13)) 82 0)) 82 1)) 82 2)) 82 52 (gI (sI (sI (sI (sI (sI u 82 47 (1 : Int32)) 82 48 (gI (sI u 82 47 (1 : Int32)) 82 13)) 82 49 (gI (sI (sI u 82 47 (1 : Int32)) 82 48 (gI (sI u 82 47 (1 : Int32)) 82 13)) 82 0)) 82 50 (gI (sI (sI (sI u 82 47 (1 : Int32)) 82 48 (gI (sI u 82 47 (1 : Int32)) 82 13)) 82 49 (gI (sI (sI u 82 47 (1 : Int32)) 82 48 (gI (sI u 82 47 (1 : Int32)) 82 13)) 82 0)) 82 1)) 82 51 (gI (sI (sI (sI (sI u 82 47 (1 : Int32)) 82 48 (gI (sI u 82 47 (1 : Int32)) 82 13)) 82 49 (gI (sI (sI u 82 47 (1 : Int32)) 82 48 (gI (sI u 82 47 (1 : Int32)) 82 13)) 82 0)) 82 50 (gI (sI (sI (sI u 82 47 (1 : Int32)) 82 48 (gI (sI u 82 47 (1 : Int32)) 82 13)) 82 49 (gI (sI (sI u 82 47 (1 : Int32)) 82 48 (gI (sI u 82 47 (1 : Int32)) 82 13)) 82 0)) 82 1)) 82 2)) 82 3)) 82 53 (gI (sI (sI (sI (sI (sI (sI u 82 47 (1 : Int32)) 82 48 (gI (sI u 82 47 (1 : Int32)) 82 13)) 82 49 (gI (sI (sI u 82 47 (1 : Int32)) 82 48 (gI (sI u 82 47 (1 : Int32)) 82 13)) 82 0)) 82 50 (gI (sI (sI (sI u 82 47 (1 : Int32)) 82 48 (gI (sI u 82 47 (1 : Int32)) 82 13)) 82 49 (gI (sI (sI u 82 47 (1 : Int32)) 82 48 (gI (sI u 82 47 (1 : Int32)) 82 13)) 82 0)) 82 1)) 82 51 (gI (sI (sI (sI (sI u 82 47 (1 : Int32)) 82 48 (gI (sI u 82 47 (1 : Int32)) 82 13)) 82 49 (gI (sI (sI u 82 47 (1 : Int32)) 82 48 (gI (sI u 82 47 (1 : Int32)) 82 13)) 82 0)) 82 50 (gI (sI (sI (sI u 82 47 (1 : Int32)) 82 48 (gI (sI u 82 47 (1 : Int32)) 82 13)) 82 49 (gI (sI (sI u 82 47 (1 : Int32)) 82 48 (gI (sI u 82 47 (1 : Int32)) 82 13)) 82 0)) 82 1)) 82 2)) 82 52 (gI (sI (sI (sI (sI (sI u 82 47 (1 : Int32)) 82 48 (gI (sI u 82 47 (1 : Int32)) 82 13)) 82 49 (gI (sI (sI u 82 47 (1 : Int32)) 82 48 (gI (sI u 82 47 (1 : Int32)) 82 13)) 82 0)) 82 50 (gI (sI (sI (sI u 82 47 (1 : Int32)) 82 48 (gI (sI u 82 47 (1 : Int32)) 82 13)) 82 49 (gI (sI (sI u 82 47 (1 : Int32)) 82 48 (gI (sI u 82 47 (1 : Int32)) 82 13)) 82 0)) 82 1)) 82 51 (gI (sI (sI (sI (sI u 82 47 (1 : Int32)) 82 48 (gI (sI u 82 47 (1 : Int32)) 82 13)) 82 49 (gI (sI (sI u 82 47 (1 : Int32)) 82 48 (gI (sI u 82 47 (1 : Int32)) 82 13)) 82 0)) 82 50 (gI (sI (sI (sI u 82 47 (1 : Int32)) 82 48 (gI (sI u 82 47 (1 : Int32)) 82 13)) 82 49 (gI (sI (sI u 82 47 (1 : Int32)) 82 48 (gI (sI u 82 47 (1 : Int32)) 82 13)) 82 0)) 82 1)) 82 2)) 82 3)) 82 4)) 82 54 (gI (sI (sI (sI (sI (sI (sI (sI u 82 47 (1 : Int32)) 82 48 (gI (sI u 82 47 (1 : Int32)) 82 13)) 82 49 (gI (sI (sI u 82 47 (1 : Int32)) 82 48 (gI (sI u 82 47 (1 : Int32)) 82 13)) 82 0)) 82 50 (gI (sI (sI (sI u 82 47 (1 : Int32)) 82 48 (gI (sI u 82 47 (1 : Int32)) 82 13)) 82 49 (gI (sI (sI u 82 47 (1 : Int32)) 82 48 (gI (sI u 82 47 (1 : Int32)) 82 13)) 82 0)) 82 1)) 82 51 (gI (sI (sI (sI (sI u 82 47 (1 : Int32)) 82 48 (gI (sI u 82 47 (1 : Int32)) 82 13)) 82 49 (gI (sI (sI u 82 47 (1 : Int32)) 82 48 (gI (sI u 82 47 (1 : Int32)) 82 13)) 82 0)) 82 50 (gI (sI (sI (sI u 82 47 (1 : Int32)) 82 48 (gI (sI u 82 47 (1 : Int32)) 82 13)) 82 49 (gI (sI (sI u 82 47 (1 : Int32)) 82 48 (gI (sI u 82 47 (1 : Int32)) 82 13)) 82 0)) 82 1)) 82 2)) 82 52 (gI (sI (sI (sI (sI (sI u 82 47 (1 : Int32)) 82 48 (gI (sI u 82 47 (1 : Int32)) 82 13)) 82 49 (gI (sI (sI u 82 47 (1 : Int32)) 82 48 (gI (sI u 82 47 (1 : Int32)) 82 13)) 82 0)) 82 50 (gI (sI (sI (sI u 82 47 (1 : Int32)) 82 48 (gI (sI u 82 47 (1 : Int32)) 82 13)) 82 49 (gI (sI (sI u 82 47 (1 : Int32)) 82 48 (gI (sI u 82 47 (1 : Int32)) 82 13)) 82 0)) 82 1)) 82 51 (gI (sI (sI (sI (sI u 82 47 (1 : Int32)) 82 48 (gI (sI u 82 47 (1 : Int32)) 82 13)) 82 49 (gI (sI (sI u 82 47 (1 : Int32)) 82 48 (gI (sI u 82 47 (1 : Int32)) 82 13)) 82 0)) 82 50 (gI (sI (sI (sI u 82 47 (1 : Int32)) 82 48 (gI (sI u 82 47 (1 : Int32)) 82 13)) 82 49 (gI (sI (sI u 82 47 (1 : Int32)) 82 48 (gI (sI u 82 47 (1 : Int32)) 82 13)) 82 0)) 82 1)) 82 2)) 82 3)) 82 53 (gI (sI (sI (sI (sI (sI (sI u 82 47 (1 : Int32)) 82 48 (gI (sI u 82 47 (1 : Int32)) 82 13)) 82 49 (gI (sI (sI u 82 47 (1 : Int32)) 82 48 (gI (sI u 82 47 (1 : Int32)) 82 13)) 82 0)) 82 50 (gI (sI (sI (sI u 82 47 (1 : Int32)) 82 48 (gI (sI u 82 47 (1 : Int32)) 82 13)) 82 49 (gI (sI (sI u 82 47 (1 : Int32)) 82 48 (gI (sI u 82 47 (1 : Int32)) 82 13)) 82 0)) 82 1)) 82 51 (gI (sI (sI (sI (sI u 82 47 (1 : Int32)) 82 48 (gI (sI u 82 47 (1 : Int32)) 82 13)) 82 49 (gI (sI (sI u 82 47 (1 : Int32)) 82 48 (gI (sI u 82 47 (1 : Int32)) 82 13)) 82 0)) 82 50 (gI (sI (sI (sI u 82 47 (1 : Int32)) 82 48 (gI (sI u 82 47 (1 : Int32)) 82 13)) 82 49 (gI (sI (sI u 82 47 (1 : Int32)) 82 48 (gI (sI u 82 47 (1 : Int32)) 82 13)) 82 0)) 82 1)) 82 2)) 82 52 (gI (sI (sI (sI (sI (sI u 82 47 (1 : Int32)) 82 48 (gI (sI u 82 47 (1 : Int32)) 82 13)) 82 49 (gI (sI (sI u 82 47 (1 : Int32)) 82 48 (gI (sI u 82 47 (1 : Int32)) 82 13)) 82 0)) 82 50 (gI (sI (sI (sI u 82 47 (1 : Int32)) 82 48 (gI (sI u 82 47 (1 : Int32)) 82 13)) 82 49 (gI (sI (sI u 82 47 (1 : Int32)) 82 48 (gI (sI u 82 47 (1 : Int32)) 82 13)) 82 0)) 82 1)) 82 51 (gI (sI (sI (sI (sI u 82 47 (1 : Int32)) 82 48 (gI (sI u 82 47 (1 : Int32)) 82 13)) 82 49 (gI (sI (sI u 82 47 (1 : Int32)) 82 48 (gI (sI u 82 47 (1 : Int32)) 82 13)) 82 0)) 82 50 (gI (sI (sI (sI u 82 47 (1 : Int32)) 82 48 (gI (sI u 82 47 (1 : Int32)) 82 13)) 82 49 (gI (sI (sI u 82 47 (1 : Int32)) 82 48 (gI (sI u 82 47 (1 : Int32)) 82 13)) 82 0)) 82 1)) 82 2)) 82 3)) 82 4)) 82 37)) 82 41)) 82 56 (gI (sI (sI (sI (sI (sI (sI (sI (sI (sI u 82 47 (1 : Int32)) 82 48 (gI (sI u 82 47 (1 : Int32)) 82 13)) 82 49 (gI (sI (sI u 82 47 (1 : Int32)) 82 48 (gI (sI u 82 47 (1 : Int32)) 82 13)) 82 0)) 82 50 (gI (sI (sI (sI u 82 47 (1 : Int32)) 82 48 (gI (sI u 82 47 (1 : Int32)) 82 13)) 82 49 (gI (sI (sI u 82 47 (1 : Int32)) 82 48 (gI (sI u 82 47 (1 : Int32)) 82 13)) 82 0)) 82 1)) 82 51 (gI (sI (sI (sI (sI u 82 47 (1 : Int32)) 82 48 (gI (sI u 82 47 (1 : Int32)) 82 13)) 82 49 (gI (sI (sI u 82 47 (1 : Int32)) 82 48 (gI (sI u 82 47 (1 : Int32)) 82 13)) 82 0)) 82 50 (gI (sI (sI (sI u 82 47 (1 : Int32)) 82 48 (gI (sI u 82 47 (1 : Int32)) 82 13)) 82 49 (gI (sI (sI u 82 47 (1 : Int32)) 82 48 (gI (sI u 82 47 (1 : Int32)) 82 13)) 82 0)) 82 1)) 82 2)) 82 52 (gI (sI (sI (sI (sI (sI u 82 47 (1 : Int32)) 82 48 (gI (sI u 82 47 (1 : Int32)) 82 13)) 82 49 (gI (sI (sI u 82 47 (1 : Int32)) 82 48 (gI (sI u 82 47 (1 : Int32)) 82 13)) 82 0)) 82 50 (gI (sI (sI (sI u 82 47 (1 : Int32)) 82 48 (gI (sI u 82 47 (1 : Int32)) 82 13)) 82 49 (gI (sI (sI u 82 47 (1 : Int32)) 82 48 (gI (sI u 82 47 (1 : Int32)) 82 13)) 82 0)) 82 1)) 82 51 (gI (sI (sI (sI (sI u 82 47 (1 : Int32)) 82 48 (gI (sI u 82 47 (1 : Int32)) 82 13)) 82 49 (gI (sI (sI u 82 47 (1 : Int32)) 82 48 (gI (sI u 82 47 (1 : Int32)) 82 13)) 82 0)) 82 50 (gI (sI (sI (sI u 82 47 (1 : Int32)) 82 48 (gI (sI u 82 47 (1 : Int32)) 82 13)) 82 49 (gI (sI (sI u 82 47 (1 : Int32)) 82 48 (gI (sI u 82 47 (1 : Int32)) 82 13)) 82 0)) 82 1)) 82 2)) 82 3)) 82 53 (gI (sI (sI (sI (sI (sI (sI u 82 47 (1 : Int32)) 82 48 (gI (sI u 82 47 (1 : Int32)) 82 13)) 82 49 (gI (sI (sI u 82 47 (1 : Int32)) 82 48 (gI (sI u 82 47 (1 : Int32)) 82 13)) 82 0)) 82 50 (gI (sI (sI (sI u 82 47 (1 : Int32)) 82 48 (gI (sI u 82 47 (1 : Int32)) 82 13)) 82 49 (gI (sI (sI u 82 47 (1 : Int32)) 82 48 (gI (sI u 82 47 (1 : Int32)) 82 13)) 82 0)) 82 1)) 82 51 (gI (sI (sI (sI (sI u 82 47 (1 : Int32)) 82 48 (gI (sI u 82 47 (1 : Int32)) 82 13)) 82 49 (gI (sI (sI u 82 47 (1 : Int32)) 82 48 (gI (sI u 82 47 (1 : Int32)) 82 13)) 82 0)) 82 50 (gI (sI (sI (sI u 82 47 (1 : Int32)) 82 48 (gI (sI u 82 47 (1 : Int32)) 82 13)) 82 49 (gI (sI (sI u 82 47 (1 : Int32)) 82 48 (gI (sI u 82 47 (1 : Int32)) 82 13)) 82 0)) 82 1)) 82 2)) 82 52 (gI (sI (sI (sI (sI (sI u 82 47 (1 : Int32)) 82 48 (gI (sI u 82 47 (1 : Int32)) 82 13)) 82 49 (gI (sI (sI u 82 47 (1 : Int32)) 82 48 (gI (sI u 82 47 (1 : Int32)) 82 13)) 82 0)) 82 50 (gI (sI (sI (sI u 82 47 (1 : Int32)) 82 48 (gI (sI u 82 47 (1 : Int32)) 82 13)) 82 49 (gI (sI (sI u 82 47 (1 : Int32)) 82 48 (gI (sI u 82 47 (1 : Int32)) 82 13)) 82 0)) 82 1)) 82 51 (gI (sI (sI (sI (sI u 82 47 (1 : Int32)) 82 48 (gI (sI u 82 47 (1 : Int32)) 82 13)) 82 49 (gI (sI (sI u 82 47 (1 : Int32)) 82 48 (gI (sI u 82 47 (1 : Int32)) 82 13)) 82 0)) 82 50 (gI (sI (sI (sI u 82 47 (1 : Int32)) 82 48 (gI (sI u 82 47 (1 : Int32)) 82 13)) 82 49 (gI (sI (sI u 82 47 (1 : Int32)) 82 48 (gI (sI u 82 47 (1 : Int32)) 82 13)) 82 0)) 82 1)) 82 2)) 82 3)) 82 4)) 82 54 (gI (sI (sI (sI (sI (sI (sI (sI u 82 47 (1 : Int32)) 82 48 (gI (sI u 82 47 (1 : Int32)) 82 13)) 82 49 (gI (sI (sI u 82 47 (1 : Int32)) 82 48 (gI (sI u 82 47 (1 : Int32)) 82 13)) 82 0)) 82 50 (gI (sI (sI (sI u 82 47 (1 : Int32)) 82 48 (gI (sI u 82 47 (1 : Int32)) 82 13)) 82 49 (gI (sI (sI u 82 47 (1 : Int32)) 82 48 (gI (sI u 82 47 (1 : Int32)) 82 13)) 82 0)) 82 1)) 82 51 (gI (sI (sI (sI (sI u 82 47 (1 : Int32)) 82 48 (gI (sI u 82 47 (1 : Int32)) 82 13)) 82 49 (gI (sI (sI u 82 47 (1 : Int32)) 82 48 (gI (sI u 82 47 (1 : Int32)) 82 13)) 82 0)) 82 50 (gI (sI (sI (sI u 82 47 (1 : Int32)) 82 48 (gI (sI u 82 47 (1 : Int32)) 82 13)) 82 49 (gI (sI (sI u 82 47 (1 : Int32)) 82 48 (gI (sI u 82 47 (1 : Int32)) 82 13)) 82 0)) 82 1)) 82 2)) 82 52 (gI (sI (sI (sI (sI (sI u 82 47 (1 : Int32)) 82 48 (gI (sI u 82 47 (1 : Int32)) 82 13)) 82 49 (gI (sI (sI u 82 47 (1 : Int32)) 82 48 (gI (sI u 82 47 (1 : Int32)) 82 13)) 82 0)) 82 50 (gI (sI (sI (sI u 82 47 (1 : Int32)) 82 48 (gI (sI u 82 47 (1 : Int32)) 82 13)) 82 49 (gI (sI (sI u 82 47 (1 : Int32)) 82 48 (gI (sI u 82 47 (1 : Int32)) 82 13)) 82 0)) 82 1)) 82 51 (gI (sI (sI (sI (sI u 82 47 (1 : Int32)) 82 48 (gI (sI u 82 47 (1 : Int32)) 82 13)) 82 49 (gI (sI (sI u 82 47 (1 : Int32)) 82 48 (gI (sI u 82 47 (1 : Int32)) 82 13)) 82 0)) 82 50 (gI (sI (sI (sI u 82 47 (1 : Int32)) 82 48 (gI (sI u 82 47 (1 : Int32)) 82 13)) 82 49 (gI (sI (sI u 82 47 (1 : Int32)) 82 48 (gI (sI u 82 47 (1 : Int32)) 82 13)) 82 0)) 82 1)) 82 2)) 82 3)) 82 53 (gI (sI (sI (sI (sI (sI (sI u 82 47 (1 : Int32)) 82 48 (gI (sI u 82 47 (1 : Int32)) 82 13)) 82 49 (gI (sI (sI u 82 47 (1 : Int32)) 82 48 (gI (sI u 82 47 (1 : Int32)) 82 13)) 82 0)) 82 50 (gI (sI (sI (sI u 82 47 (1 : Int32)) 82 48 (gI (sI u 82 47 (1 : Int32)) 82 13)) 82 49 (gI (sI (sI u 82 47 (1 : Int32)) 82 48 (gI (sI u 82 47 (1 : Int32)) 82 13)) 82 0)) 82 1)) 82 51 (gI (sI (sI (sI (sI u 82 47 (1 : Int32)) 82 48 (gI (sI u 82 47 (1 : Int32)) 82 13)) 82 49 (gI (sI (sI u 82 47 (1 : Int32)) 82 48 (gI (sI u 82 47 (1 : Int32)) 82 13)) 82 0)) 82 50 (gI (sI (sI (sI u 82 47 (1 : Int32)) 82 48 (gI (sI u 82 47 (1 : Int32)) 82 13)) 82 49 (gI (sI (sI u 82 47 (1 : Int32)) 82 48 (gI (sI u 82 47 (1 : Int32)) 82 13)) 82 0)) 82 1)) 82 2)) 82 52 (gI (sI (sI (sI (sI (sI u 82 47 (1 : Int32)) 82 48 (gI (sI u 82 47 (1 : Int32)) 82 13)) 82 49 (gI (sI (sI u 82 47 (1 : Int32)) 82 48 (gI (sI u 82 47 (1 : Int32)) 82 13)) 82 0)) 82 50 (gI (sI (sI (sI u 82 47 (1 : Int32)) 82 48 (gI (sI u 82 47 (1 : Int32)) 82 13)) 82 49 (gI (sI (sI u 82 47 (1 : Int32)) 82 48 (gI (sI u 82 47 (1 : Int32)) 82 13)) 82 0)) 82 1)) 82 51 (gI (sI (sI (sI (sI u 82 47 (1 : Int32)) 82 48 (gI (sI u 82 47 (1 : Int32)) 82 13)) 82 49 (gI (sI (sI u 82 47 (1 : Int32)) 82 48 (gI (sI u 82 47 (1 : Int32)) 82 13)) 82 0)) 82 50 (gI (sI (sI (sI u 82 47 (1 : Int32)) 82 48 (gI (sI u 82 47 (1 : Int32)) 82 13)) 82 49 (gI (sI (sI u 82 47 (1 : Int32)) 82 48 (gI (sI u 82 47 (1 : Int32)) 82 13)) 82 0)) 82 1)) 82 2)) 82 3)) 82 4)) 82 37)) 82 55 (gI (sI (sI (sI (sI (sI (sI (sI (sI u 82 47 (1 : Int32)) 82 48 (gI (sI u 82 47 (1 : Int32)) 82 13)) 82 49 (gI (sI (sI u 82 47 (1 : Int32)) 82 48 (gI (sI u 82 47 (1 : Int32)) 82 13)) 82 0)) 82 50 (gI (sI (sI (sI u 82 47 (1 : Int32)) 82 48 (gI (sI u 82 47 (1 : Int32)) 82 13)) 82 49 (gI (sI (sI u 82 47 (1 : Int32)) 82 48 (gI (sI u 82 47 (1 : Int32)) 82 13)) 82 0)) 82 1)) 82 51 (gI (sI (sI (sI (sI u 82 47 (1 : Int32)) 82 48 (gI (sI u 82 47 (1 : Int32)) 82 13)) 82 49 (gI (sI (sI u 82 47 (1 : Int32)) 82 48 (gI (sI u 82 47 (1 : Int32)) 82 13)) 82 0)) 82 50 (gI (sI (sI (sI u 82 47 (1 : Int32)) 82 48 (gI (sI u 82 47 (1 : Int32)) 82 13)) 82 49 (gI (sI (sI u 82 47 (1 : Int32)) 82 48 (gI (sI u 82 47 (1 : Int32)) 82 13)) 82 0)) 82 1)) 82 2)) 82 52 (gI (sI (sI (sI (sI (sI u 82 47 (1 : Int32)) 82 48 (gI (sI u 82 47 (1 : Int32)) 82 13)) 82 49 (gI (sI (sI u 82 47 (1 : Int32)) 82 48 (gI (sI u 82 47 (1 : Int32)) 82 13)) 82 0)) 82 50 (gI (sI (sI (sI u 82 47 (1 : Int32)) 82 48 (gI (sI u 82 47 (1 : Int32)) 82 13)) 82 49 (gI (sI (sI u 82 47 (1 : Int32)) 82 48 (gI (sI u 82 47 (1 : Int32)) 82 13)) 82 0)) 82 1)) 82 51 (gI (sI (sI (sI (sI u 82 47 (1 : Int32)) 82 48 (gI (sI u 82 47 (1 : Int32)) 82 13)) 82 49 (gI (sI (sI u 82 47 (1 : Int32)) 82 48 (gI (sI u 82 47 (1 : Int32)) 82 13)) 82 0)) 82 50 (gI (sI (sI (sI u 82 47 (1 : Int32)) 82 48 (gI (sI u 82 47 (1 : Int32)) 82 13)) 82 49 (gI (sI (sI u 82 47 (1 : Int32)) 82 48 (gI (sI u 82 47 (1 : Int32)) 82 13)) 82 0)) 82 1)) 82 2)) 82 3)) 82 53 (gI (sI (sI (sI (sI (sI (sI u 82 47 (1 : Int32)) 82 48 (gI (sI u 82 47 (1 : Int32)) 82 13)) 82 49 (gI (sI (sI u 82 47 (1 : Int32)) 82 48 (gI (sI u 82 47 (1 : Int32)) 82 13)) 82 0)) 82 50 (gI (sI (sI (sI u 82 47 (1 : Int32)) 82 48 (gI (sI u 82 47 (1 : Int32)) 82 13)) 82 49 (gI (sI (sI u 82 47 (1 : Int32)) 82 48 (gI (sI u 82 47 (1 : Int32)) 82 13)) 82 0)) 82 1)) 82 51 (gI (sI (sI (sI (sI u 82 47 (1 : Int32)) 82 48 (gI (sI u 82 47 (1 : Int32)) 82 13)) 82 49 (gI (sI (sI u 82 47 (1 : Int32)) 82 48 (gI (sI u 82 47 (1 : Int32)) 82 13)) 82 0)) 82 50 (gI (sI (sI (sI u 82 47 (1 : Int32)) 82 48 (gI (sI u 82 47 (1 : Int32)) 82 13)) 82 49 (gI (sI (sI u 82 47 (1 : Int32)) 82 48 (gI (sI u 82 47 (1 : Int32)) 82 13)) 82 0)) 82 1)) 82 2)) 82 52 (gI (sI (sI (sI (sI (sI u 82 47 (1 : Int32)) 82 48 (gI (sI u 82 47 (1 : Int32)) 82 13)) 82 49 (gI (sI (sI u 82 47 (1 : Int32)) 82 48 (gI (sI u 82 47 (1 : Int32)) 82 13)) 82 0)) 82 50 (gI (sI (sI (sI u 82 47 (1 : Int32)) 82 48 (gI (sI u 82 47 (1 : Int32)) 82 13)) 82 49 (gI (sI (sI u 82 47 (1 : Int32)) 82 48 (gI (sI u 82 47 (1 : Int32)) 82 13)) 82 0)) 82 1)) 82 51 (gI (sI (sI (sI (sI u 82 47 (1 : Int32)) 82 48 (gI (sI u 82 47 (1 : Int32)) 82 13)) 82 49 (gI (sI (sI u 82 47 (1 : Int32)) 82 48 (gI (sI u 82 47 (1 : Int32)) 82 13)) 82 0)) 82 50 (gI (sI (sI (sI u 82 47 (1 : Int32)) 82 48 (gI (sI u 82 47 (1 : Int32)) 82 13)) 82 49 (gI (sI (sI u 82 47 (1 : Int32)) 82 48 (gI (sI u 82 47 (1 : Int32)) 82 13)) 82 0)) 82 1)) 82 2)) 82 3)) 82 4)) 82 54 (gI (sI (sI (sI (sI (sI (sI (sI u 82 47 (1 : Int32)) 82 48 (gI (sI u 82 47 (1 : Int32)) 82 13)) 82 49 (gI (sI (sI u 82 47 (1 : Int32)) 82 48 (gI (sI u 82 47 (1 : Int32)) 82 13)) 82 0)) 82 50 (gI (sI (sI (sI u 82 47 (1 : Int32)) 82 48 (gI (sI u 82 47 (1 : Int32)) 82 13)) 82 49 (gI (sI (sI u 82 47 (1 : Int32)) 82 48 (gI (sI u 82 47 (1 : Int32)) 82 13)) 82 0)) 82 1)) 82 51 (gI (sI (sI (sI (sI u 82 47 (1 : Int32)) 82 48 (gI (sI u 82 47 (1 : Int32)) 82 13)) 82 49 (gI (sI (sI u 82 47 (1 : Int32)) 82 48 (gI (sI u 82 47 (1 : Int32)) 82 13)) 82 0)) 82 50 (gI (sI (sI (sI u 82 47 (1 : Int32)) 82 48 (gI (sI u 82 47 (1 : Int32)) 82 13)) 82 49 (gI (sI (sI u 82 47 (1 : Int32)) 82 48 (gI (sI u 82 47 (1 : Int32)) 82 13)) 82 0)) 82 1)) 82 2)) 82 52 (gI (sI (sI (sI (sI (sI u 82 47 (1 : Int32)) 82 48 (gI (sI u 82 47 (1 : Int32)) 82 13)) 82 49 (gI (sI (sI u 82 47 (1 : Int32)) 82 48 (gI (sI u 82 47 (1 : Int32)) 82 13)) 82 0)) 82 50 (gI (sI (sI (sI u 82 47 (1 : Int32)) 82 48 (gI (sI u 82 47 (1 : Int32)) 82 13)) 82 49 (gI (sI (sI u 82 47 (1 : Int32)) 82 48 (gI (sI u 82 47 (1 : Int32)) 82 13)) 82 0)) 82 1)) 82 51 (gI (sI (sI (sI (sI u 82 47 (1 : Int32)) 82 48 (gI (sI u 82 47 (1 : Int32)) 82 13)) 82 49 (gI (sI (sI u 82 47 (1 : Int32)) 82 48 (gI (sI u 82 47 (1 : Int32)) 82 13)) 82 0)) 82 50 (gI (sI (sI (sI u 82 47 (1 : Int32)) 82 48 (gI (sI u 82 47 (1 : Int32)) 82 13)) 82 49 (gI (sI (sI u 82 47 (1 : Int32)) 82 48 (gI (sI u 82 47 (1 : Int32)) 82 13)) 82 0)) 82 1)) 82 2)) 82 3)) 82 53 (gI (sI (sI (sI (sI (sI (sI u 82 47 (1 : Int32)) 82 48 (gI (sI u 82 47 (1 : Int32)) 82 13)) 82 49 (gI (sI (sI u 82 47 (1 : Int32)) 82 48 (gI (sI u 82 47 (1 : Int32)) 82 13)) 82 0)) 82 50 (gI (sI (sI (sI u 82 47 (1 : Int32)) 82 48 (gI (sI u 82 47 (1 : Int32)) 82 13)) 82 49 (gI (sI (sI u 82 47 (1 : Int32)) 82 48 (gI (sI u 82 47 (1 : Int32)) 82 13)) 82 0)) 82 1)) 82 51 (gI (sI (sI (sI (sI u 82 47 (1 : Int32)) 82 48 (gI (sI u 82 47 (1 : Int32)) 82 13)) 82 49 (gI (sI (sI u 82 47 (1 : Int32)) 82 48 (gI (sI u 82 47 (1 : Int32)) 82 13)) 82 0)) 82 50 (gI (sI (sI (sI u 82 47 (1 : Int32)) 82 48 (gI (sI u 82 47 (1 : Int32)) 82 13)) 82 49 (gI (sI (sI u 82 47 (1 : Int32)) 82 48 (gI (sI u 82 47 (1 : Int32)) 82 13)) 82 0)) 82 1)) 82 2)) 82 52 (gI (sI (sI (sI (sI (sI u 82 47 (1 : Int32)) 82 48 (gI (sI u 82 47 (1 : Int32)) 82 13)) 82 49 (gI (sI (sI u 82 47 (1 : Int32)) 82 48 (gI (sI u 82 47 (1 : Int32)) 82 13)) 82 0)) 82 50 (gI (sI (sI (sI u 82 47 (1 : Int32)) 82 48 (gI (sI u 82 47 (1 : Int32)) 82 13)) 82 49 (gI (sI (sI u 82 47 (1 : Int32)) 82 48 (gI (sI u 82 47 (1 : Int32)) 82 13)) 82 0)) 82 1)) 82 51 (gI (sI (sI (sI (sI u 82 47 (1 : Int32)) 82 48 (gI (sI u 82 47 (1 : Int32)) 82 13)) 82 49 (gI (sI (sI u 82 47 (1 : Int32)) 82 48 (gI (sI u 82 47 (1 : Int32)) 82 13)) 82 0)) 82 50 (gI (sI (sI (sI u 82 47 (1 : Int32)) 82 48 (gI (sI u 82 47 (1 : Int32)) 82 13)) 82 49 (gI (sI (sI u 82 47 (1 : Int32)) 82 48 (gI (sI u 82 47 (1 : Int32)) 82 13)) 82 0)) 82 1)) 82 2)) 82 3)) 82 4)) 82 37)) 82 41)) 82 42))
set_option maxHeartbeats 4000000 in
set_option maxRecDepth 100000 in
theorem k_X8_image (l : Launch) (D : gDt) (base : Nat) (Z : gZt) (u : Mem) (r : Int32) (u' : Mem) (hf : f_X8_image u = some (r, u')) : Met l yX8_image (gws yX8_image cX8_image 2 (some .int)) (gRm 1 0 0) (gPc D base Z u [.ref (base + 82)]) (gQi D base r u') 0 0 (gF base) := by
  refine Met.ofW (cc := cX8_image) (maxL := 2) (ret := some .int) (by decide) rfl ?_
  intro p e s m args below meth c s₁ B hml hv
  obtain ⟨rfl, C0, hG⟩ := g_enter B hml hv
  have hr := B.returns
  have C0 : gC p s m meth c _ cX8_image 2 RX8 D base Z := C0
  have hx := C0.1
  have hb := C0.2.1
  have hl := lv_entry ([.ref (base + 82)]) (n := 2) (Nat.le_of_ble_eq_true rfl)
  rw [lg_entry_eq]
  generalize (lg_sl ([.ref (base + 82)]) ++ List.replicate (2 - (lg_sl ([.ref (base + 82)])).length) Slot.unset).toArray = ls at hl ⊢
  have hl : lv_has ls 2 [(0, .ref (base + 82))] := hl
  obtain ⟨Q, hQ⟩ : ∃ Q, Q = MQ below (gQi D base r u') ([.ref (base + 82)] : List Value).toArray s 0 0 (gF base) := ⟨_, rfl⟩
  rw [← hQ]
  change W p l e (gRm 1 0 0) s m _ below meth c _ _ _ _ _ _
  unfold f_X8_image at hf
  refine lv_aload_n hx hb dX8_image_0 rfl (lv_at hl 0 rfl) ?_
  refine lv_iconst (v := (1 : Int32)) hx hb dX8_image_1 (by decide) ?_
  refine g_putI (ty := .boolean) C0 hG (L82 hG) rfl 47 (by decide) rfl w_893 rfl (by decide) (by decide) rfl dX8_image_2 (fun H locs hG => ?_)
  refine lv_aload_n hx hb dX8_image_5 rfl (lv_at hl 0 rfl) ?_
  refine lv_aload_n hx hb dX8_image_6 rfl (lv_at hl 0 rfl) ?_
  refine g_getI C0 hG (L82 hG) rfl 13 (by decide) rfl w_859 dX8_image_7 ?_
  refine g_putI (ty := .int) C0 hG (L82 hG) rfl 48 (by decide) rfl w_894 rfl (by decide) rfl rfl dX8_image_10 (fun H locs hG => ?_)
  refine lv_aload_n hx hb dX8_image_13 rfl (lv_at hl 0 rfl) ?_
  refine lv_aload_n hx hb dX8_image_14 rfl (lv_at hl 0 rfl) ?_
  refine g_getI C0 hG (L82 hG) rfl 0 (by decide) rfl w_846 dX8_image_15 ?_
  refine g_putI (ty := .int) C0 hG (L82 hG) rfl 49 (by decide) rfl w_895 rfl (by decide) rfl rfl dX8_image_18 (fun H locs hG => ?_)
  refine lv_aload_n hx hb dX8_image_21 rfl (lv_at hl 0 rfl) ?_
  refine lv_aload_n hx hb dX8_image_22 rfl (lv_at hl 0 rfl) ?_
  refine g_getI C0 hG (L82 hG) rfl 1 (by decide) rfl w_847 dX8_image_23 ?_
  refine g_putI (ty := .int) C0 hG (L82 hG) rfl 50 (by decide) rfl w_896 rfl (by decide) rfl rfl dX8_image_26 (fun H locs hG => ?_)
  refine lv_aload_n hx hb dX8_image_29 rfl (lv_at hl 0 rfl) ?_
  refine lv_aload_n hx hb dX8_image_30 rfl (lv_at hl 0 rfl) ?_
  refine g_getI C0 hG (L82 hG) rfl 2 (by decide) rfl w_848 dX8_image_31 ?_
  refine g_putI (ty := .int) C0 hG (L82 hG) rfl 51 (by decide) rfl w_897 rfl (by decide) rfl rfl dX8_image_34 (fun H locs hG => ?_)
  refine lv_aload_n hx hb dX8_image_37 rfl (lv_at hl 0 rfl) ?_
  refine lv_aload_n hx hb dX8_image_38 rfl (lv_at hl 0 rfl) ?_
  refine g_getI C0 hG (L82 hG) rfl 3 (by decide) rfl w_849 dX8_image_39 ?_
  refine g_putI (ty := .int) C0 hG (L82 hG) rfl 52 (by decide) rfl w_898 rfl (by decide) rfl rfl dX8_image_42 (fun H locs hG => ?_)
  refine lv_aload_n hx hb dX8_image_45 rfl (lv_at hl 0 rfl) ?_
  refine lv_aload_n hx hb dX8_image_46 rfl (lv_at hl 0 rfl) ?_
  refine g_getI C0 hG (L82 hG) rfl 4 (by decide) rfl w_850 dX8_image_47 ?_
  refine g_putI (ty := .int) C0 hG (L82 hG) rfl 53 (by decide) rfl w_899 rfl (by decide) rfl rfl dX8_image_50 (fun H locs hG => ?_)
  refine lv_aload_n hx hb dX8_image_53 rfl (lv_at hl 0 rfl) ?_
  refine lv_aload_n hx hb dX8_image_54 rfl (lv_at hl 0 rfl) ?_
  refine g_getI C0 hG (L82 hG) rfl 37 (by decide) rfl w_883 dX8_image_55 ?_
  refine g_putI (ty := .int) C0 hG (L82 hG) rfl 54 (by decide) rfl w_900 rfl (by decide) rfl rfl dX8_image_58 (fun H locs hG => ?_)
  refine lv_aload_n hx hb dX8_image_61 rfl (lv_at hl 0 rfl) ?_
  refine lv_aload_n hx hb dX8_image_62 rfl (lv_at hl 0 rfl) ?_
  refine g_getI C0 hG (L82 hG) rfl 41 (by decide) rfl w_887 dX8_image_63 ?_
  refine g_putI (ty := .int) C0 hG (L82 hG) rfl 55 (by decide) rfl w_901 rfl (by decide) rfl rfl dX8_image_66 (fun H locs hG => ?_)
  refine lv_aload_n hx hb dX8_image_69 rfl (lv_at hl 0 rfl) ?_
  refine lv_aload_n hx hb dX8_image_70 rfl (lv_at hl 0 rfl) ?_
  refine g_getI C0 hG (L82 hG) rfl 42 (by decide) rfl w_888 dX8_image_71 ?_
  refine g_putI (ty := .int) C0 hG (L82 hG) rfl 56 (by decide) rfl w_902 rfl (by decide) rfl rfl dX8_image_74 (fun H locs hG => ?_)
  refine lv_iconst (v := (0 : Int32)) hx hb dX8_image_77 (by decide) ?_
  refine lv_istore_n (lv' := [(1, .int (0 : Int32)), (0, .ref (base + 82))]) hx hb dX8_image_78 rfl hl (by decide) rfl (fun ls hl => ?_)
  have loop1 : ∀ (n1 : Nat) (x1_1 : Int32) (u1 : Mem) (H : Heap) (locs : List Loc) (ls : Array Slot), gH D base s u1 H locs → lv_has ls 2 [(0, .ref (base + 82)), (1, .int x1_1)] → whileO (fun s => f_X8_image_L79 s.1 s.2) n1 (x1_1, u1) = some (r, u') → W p l e (gRm 1 0 0) s m ([.ref (base + 82)] : List Value).toArray below meth c H locs 0 0 Q (F0 m 79 ls []) := by
    intro n1
    induction n1 with
    | zero => intro x1_1 u1 H locs ls hG hl hf; cases hf
    | succ n1 ih1 =>
      intro x1_1 u1 H locs ls hG hl hf
      obtain ⟨X1, hf, hX1⟩ := while_s hf
      have hf : f_X8_image_L79 x1_1 u1 = some X1 := hf
      unfold f_X8_image_L79 at hf
      refine lv_iload_n hx hb dX8_image_79 rfl (lv_at hl 1 rfl) ?_
      refine lv_bipush (v := (6 : Int32)) hx hb dX8_image_80 (by decide) ?_
      refine lv_icmp_ge (tgt := 139) hx hb dX8_image_82 (by decide) (fun c2 => ?_) (fun c2 => ?_)
      · have hf := gif_t c2 hf
        refine lv_iconst (v := (0 : Int32)) hx hb dX8_image_139 (by decide) ?_
        refine lv_istore_n (lv' := [(1, .int (0 : Int32)), (0, .ref (base + 82))]) hx hb dX8_image_140 rfl hl (by decide) rfl (fun ls hl => ?_)
        have loop3 : ∀ (n3 : Nat) (x1_3 : Int32) (u3 : Mem) (H : Heap) (locs : List Loc) (ls : Array Slot), gH D base s u3 H locs → lv_has ls 2 [(0, .ref (base + 82)), (1, .int x1_3)] → whileO (fun s => f_X8_image_L141 s.1 s.2) n3 (x1_3, u3) = some X1 → W p l e (gRm 1 0 0) s m ([.ref (base + 82)] : List Value).toArray below meth c H locs 0 0 Q (F0 m 141 ls []) := by
          intro n3
          induction n3 with
          | zero => intro x1_3 u3 H locs ls hG hl hf; cases hf
          | succ n3 ih3 =>
            intro x1_3 u3 H locs ls hG hl hf
            obtain ⟨X3, hf, hX3⟩ := while_s hf
            have hf : f_X8_image_L141 x1_3 u3 = some X3 := hf
            unfold f_X8_image_L141 at hf
            refine lv_iload_n hx hb dX8_image_141 rfl (lv_at hl 1 rfl) ?_
            refine lv_bipush (v := (24 : Int32)) hx hb dX8_image_142 (by decide) ?_
            refine lv_icmp_ge (tgt := 165) hx hb dX8_image_144 (by decide) (fun c4 => ?_) (fun c4 => ?_)
            · have hf := gif_t c4 hf
              refine lv_iconst (v := (0 : Int32)) hx hb dX8_image_165 (by decide) ?_
              refine lv_istore_n (lv' := [(1, .int (0 : Int32)), (0, .ref (base + 82))]) hx hb dX8_image_166 rfl hl (by decide) rfl (fun ls hl => ?_)
              have loop5 : ∀ (n5 : Nat) (x1_5 : Int32) (u5 : Mem) (H : Heap) (locs : List Loc) (ls : Array Slot), gH D base s u5 H locs → lv_has ls 2 [(0, .ref (base + 82)), (1, .int x1_5)] → whileO (fun s => f_X8_image_L167 s.1 s.2) n5 (x1_5, u5) = some X3 → W p l e (gRm 1 0 0) s m ([.ref (base + 82)] : List Value).toArray below meth c H locs 0 0 Q (F0 m 167 ls []) := by
                intro n5
                induction n5 with
                | zero => intro x1_5 u5 H locs ls hG hl hf; cases hf
                | succ n5 ih5 =>
                  intro x1_5 u5 H locs ls hG hl hf
                  obtain ⟨X5, hf, hX5⟩ := while_s hf
                  have hf : f_X8_image_L167 x1_5 u5 = some X5 := hf
                  unfold f_X8_image_L167 at hf
                  refine lv_iload_n hx hb dX8_image_167 rfl (lv_at hl 1 rfl) ?_
                  refine lv_iconst (v := (5 : Int32)) hx hb dX8_image_168 (by decide) ?_
                  refine lv_icmp_ge (tgt := 214) hx hb dX8_image_169 (by decide) (fun c6 => ?_) (fun c6 => ?_)
                  · have hf := gif_t c6 hf
                    refine lv_iconst (v := (0 : Int32)) hx hb dX8_image_214 (by decide) ?_
                    refine lv_istore_n (lv' := [(1, .int (0 : Int32)), (0, .ref (base + 82))]) hx hb dX8_image_215 rfl hl (by decide) rfl (fun ls hl => ?_)
                    have loop7 : ∀ (n7 : Nat) (x1_7 : Int32) (u7 : Mem) (H : Heap) (locs : List Loc) (ls : Array Slot), gH D base s u7 H locs → lv_has ls 2 [(0, .ref (base + 82)), (1, .int x1_7)] → whileO (fun s => f_X8_image_L216 s.1 s.2) n7 (x1_7, u7) = some X5 → W p l e (gRm 1 0 0) s m ([.ref (base + 82)] : List Value).toArray below meth c H locs 0 0 Q (F0 m 216 ls []) := by
                      intro n7
                      induction n7 with
                      | zero => intro x1_7 u7 H locs ls hG hl hf; cases hf
                      | succ n7 ih7 =>
                        intro x1_7 u7 H locs ls hG hl hf
                        obtain ⟨X7, hf, hX7⟩ := while_s hf
                        have hf : f_X8_image_L216 x1_7 u7 = some X7 := hf
                        unfold f_X8_image_L216 at hf
                        refine lv_iload_n hx hb dX8_image_216 rfl (lv_at hl 1 rfl) ?_
                        refine lv_bipush (v := (10 : Int32)) hx hb dX8_image_217 (by decide) ?_
                        refine lv_icmp_ge (tgt := 252) hx hb dX8_image_219 (by decide) (fun c8 => ?_) (fun c8 => ?_)
                        · have hf := gif_t c8 hf
                          refine lv_iconst (v := (0 : Int32)) hx hb dX8_image_252 (by decide) ?_
                          refine lv_istore_n (lv' := [(1, .int (0 : Int32)), (0, .ref (base + 82))]) hx hb dX8_image_253 rfl hl (by decide) rfl (fun ls hl => ?_)
                          have loop9 : ∀ (n9 : Nat) (x1_9 : Int32) (u9 : Mem) (H : Heap) (locs : List Loc) (ls : Array Slot), gH D base s u9 H locs → lv_has ls 2 [(0, .ref (base + 82)), (1, .int x1_9)] → whileO (fun s => f_X8_image_L254 s.1 s.2) n9 (x1_9, u9) = some X7 → W p l e (gRm 1 0 0) s m ([.ref (base + 82)] : List Value).toArray below meth c H locs 0 0 Q (F0 m 254 ls []) := by
                            intro n9
                            induction n9 with
                            | zero => intro x1_9 u9 H locs ls hG hl hf; cases hf
                            | succ n9 ih9 =>
                              intro x1_9 u9 H locs ls hG hl hf
                              obtain ⟨X9, hf, hX9⟩ := while_s hf
                              have hf : f_X8_image_L254 x1_9 u9 = some X9 := hf
                              unfold f_X8_image_L254 at hf
                              refine lv_iload_n hx hb dX8_image_254 rfl (lv_at hl 1 rfl) ?_
                              refine lv_bipush (v := (8 : Int32)) hx hb dX8_image_255 (by decide) ?_
                              refine lv_icmp_ge (tgt := 314) hx hb dX8_image_257 (by decide) (fun c10 => ?_) (fun c10 => ?_)
                              · have hf := gif_t c10 hf
                                refine lv_aload_n hx hb dX8_image_314 rfl (lv_at hl 0 rfl) ?_
                                refine g_getI C0 hG (L82 hG) rfl 0 (by decide) rfl w_846 dX8_image_315 ?_
                                have hf := while_r hX9 hf
                                have hf := while_r hX7 hf
                                have hf := while_r hX5 hf
                                have hf := while_r hX3 hf
                                have hf := while_r hX1 hf
                                obtain ⟨hr1, hu⟩ := gret_s hf
                                subst hr1
                                subst hu
                                subst hQ
                                exact g_iret C0 hG hr dX8_image_318
                              · have hf := gif_f c10 hf
                                refine lv_aload_n hx hb dX8_image_260 rfl (lv_at hl 0 rfl) ?_
                                refine g_getSa (o := 33) (a := 115) C0 hG (L82 hG) rfl 62 (by decide) rfl rfl w_908 dX8_image_261 ?_
                                refine lv_iload_n hx hb dX8_image_264 rfl (lv_at hl 1 rfl) ?_
                                refine lv_aload_n hx hb dX8_image_265 rfl (lv_at hl 0 rfl) ?_
                                refine g_getSa (o := 7) (a := 89) C0 hG (L82 hG) rfl 11 (by decide) rfl rfl w_857 dX8_image_266 ?_
                                refine lv_iload_n hx hb dX8_image_269 rfl (lv_at hl 1 rfl) ?_
                                obtain ⟨h11, hf⟩ := gin_s hf
                                refine g_iald C0 hG (L89 hG) h11 dX8_image_270 ?_
                                obtain ⟨h12, hf⟩ := gin_s hf
                                refine g_iast C0 hG (L115 hG) h12 dX8_image_271 (fun H locs hG => ?_)
                                refine lv_aload_n hx hb dX8_image_272 rfl (lv_at hl 0 rfl) ?_
                                refine g_getSa (o := 34) (a := 116) C0 hG (L82 hG) rfl 63 (by decide) rfl rfl w_909 dX8_image_273 ?_
                                refine lv_iload_n hx hb dX8_image_276 rfl (lv_at hl 1 rfl) ?_
                                refine lv_aload_n hx hb dX8_image_277 rfl (lv_at hl 0 rfl) ?_
                                refine g_getSa (o := 6) (a := 88) C0 hG (L82 hG) rfl 10 (by decide) rfl rfl w_856 dX8_image_278 ?_
                                refine lv_iload_n hx hb dX8_image_281 rfl (lv_at hl 1 rfl) ?_
                                obtain ⟨h13, hf⟩ := gin_s hf
                                refine g_iald C0 hG (L88 hG) h13 dX8_image_282 ?_
                                obtain ⟨h14, hf⟩ := gin_s hf
                                refine g_iast C0 hG (L116 hG) h14 dX8_image_283 (fun H locs hG => ?_)
                                refine lv_aload_n hx hb dX8_image_284 rfl (lv_at hl 0 rfl) ?_
                                refine g_getSa (o := 40) (a := 122) C0 hG (L82 hG) rfl 69 (by decide) rfl rfl w_915 dX8_image_285 ?_
                                refine lv_iload_n hx hb dX8_image_288 rfl (lv_at hl 1 rfl) ?_
                                refine lv_aload_n hx hb dX8_image_289 rfl (lv_at hl 0 rfl) ?_
                                refine g_getSa (o := 26) (a := 108) C0 hG (L82 hG) rfl 45 (by decide) rfl rfl w_891 dX8_image_290 ?_
                                refine lv_iload_n hx hb dX8_image_293 rfl (lv_at hl 1 rfl) ?_
                                obtain ⟨h15, hf⟩ := gin_s hf
                                refine g_iald C0 hG (L108 hG) h15 dX8_image_294 ?_
                                obtain ⟨h16, hf⟩ := gin_s hf
                                refine g_iast C0 hG (L122 hG) h16 dX8_image_295 (fun H locs hG => ?_)
                                refine lv_aload_n hx hb dX8_image_296 rfl (lv_at hl 0 rfl) ?_
                                refine g_getSa (o := 41) (a := 123) C0 hG (L82 hG) rfl 70 (by decide) rfl rfl w_916 dX8_image_297 ?_
                                refine lv_iload_n hx hb dX8_image_300 rfl (lv_at hl 1 rfl) ?_
                                refine lv_aload_n hx hb dX8_image_301 rfl (lv_at hl 0 rfl) ?_
                                refine g_getSa (o := 27) (a := 109) C0 hG (L82 hG) rfl 46 (by decide) rfl rfl w_892 dX8_image_302 ?_
                                refine lv_iload_n hx hb dX8_image_305 rfl (lv_at hl 1 rfl) ?_
                                obtain ⟨h17, hf⟩ := gin_s hf
                                refine g_iald C0 hG (L109 hG) h17 dX8_image_306 ?_
                                obtain ⟨h18, hf⟩ := gin_s hf
                                refine g_iast C0 hG (L123 hG) h18 dX8_image_307 (fun H locs hG => ?_)
                                refine lv_iinc (v := x1_9 + (1 : Int32)) (lv' := [(1, .int (x1_9 + (1 : Int32))), (0, .ref (base + 82))]) hx hb dX8_image_308 hl (k := 1) rfl rfl (by decide) rfl (fun ls hl => ?_)
                                refine lv_goto (tgt := 254) hx hb dX8_image_311 (by decide) ?_
                                have hf := while_l hX9 hf
                                exact ih9 (x1_9 + (1 : Int32)) (sA (sA (sA (sA u9 115 x1_9.toNatClampNeg (gA u9 89 x1_9.toNatClampNeg)) 116 x1_9.toNatClampNeg (gA (sA u9 115 x1_9.toNatClampNeg (gA u9 89 x1_9.toNatClampNeg)) 88 x1_9.toNatClampNeg)) 122 x1_9.toNatClampNeg (gA (sA (sA u9 115 x1_9.toNatClampNeg (gA u9 89 x1_9.toNatClampNeg)) 116 x1_9.toNatClampNeg (gA (sA u9 115 x1_9.toNatClampNeg (gA u9 89 x1_9.toNatClampNeg)) 88 x1_9.toNatClampNeg)) 108 x1_9.toNatClampNeg)) 123 x1_9.toNatClampNeg (gA (sA (sA (sA u9 115 x1_9.toNatClampNeg (gA u9 89 x1_9.toNatClampNeg)) 116 x1_9.toNatClampNeg (gA (sA u9 115 x1_9.toNatClampNeg (gA u9 89 x1_9.toNatClampNeg)) 88 x1_9.toNatClampNeg)) 122 x1_9.toNatClampNeg (gA (sA (sA u9 115 x1_9.toNatClampNeg (gA u9 89 x1_9.toNatClampNeg)) 116 x1_9.toNatClampNeg (gA (sA u9 115 x1_9.toNatClampNeg (gA u9 89 x1_9.toNatClampNeg)) 88 x1_9.toNatClampNeg)) 108 x1_9.toNatClampNeg)) 109 x1_9.toNatClampNeg)) _ _ ls hG (lv_sub hl [1, 0] rfl) hf
                          exact loop9 FUEL (0 : Int32) u7 _ _ ls hG (lv_sub hl [1, 0] rfl) hf
                        · have hf := gif_f c8 hf
                          refine lv_aload_n hx hb dX8_image_222 rfl (lv_at hl 0 rfl) ?_
                          refine g_getSa (o := 38) (a := 120) C0 hG (L82 hG) rfl 67 (by decide) rfl rfl w_913 dX8_image_223 ?_
                          refine lv_iload_n hx hb dX8_image_226 rfl (lv_at hl 1 rfl) ?_
                          refine lv_aload_n hx hb dX8_image_227 rfl (lv_at hl 0 rfl) ?_
                          refine g_getSa (o := 24) (a := 106) C0 hG (L82 hG) rfl 43 (by decide) rfl rfl w_889 dX8_image_228 ?_
                          refine lv_iload_n hx hb dX8_image_231 rfl (lv_at hl 1 rfl) ?_
                          obtain ⟨h19, hf⟩ := gin_s hf
                          refine g_iald C0 hG (L106 hG) h19 dX8_image_232 ?_
                          obtain ⟨h20, hf⟩ := gin_s hf
                          refine g_iast C0 hG (L120 hG) h20 dX8_image_233 (fun H locs hG => ?_)
                          refine lv_aload_n hx hb dX8_image_234 rfl (lv_at hl 0 rfl) ?_
                          refine g_getSa (o := 39) (a := 121) C0 hG (L82 hG) rfl 68 (by decide) rfl rfl w_914 dX8_image_235 ?_
                          refine lv_iload_n hx hb dX8_image_238 rfl (lv_at hl 1 rfl) ?_
                          refine lv_aload_n hx hb dX8_image_239 rfl (lv_at hl 0 rfl) ?_
                          refine g_getSa (o := 25) (a := 107) C0 hG (L82 hG) rfl 44 (by decide) rfl rfl w_890 dX8_image_240 ?_
                          refine lv_iload_n hx hb dX8_image_243 rfl (lv_at hl 1 rfl) ?_
                          obtain ⟨h21, hf⟩ := gin_s hf
                          refine g_iald C0 hG (L107 hG) h21 dX8_image_244 ?_
                          obtain ⟨h22, hf⟩ := gin_s hf
                          refine g_iast C0 hG (L121 hG) h22 dX8_image_245 (fun H locs hG => ?_)
                          refine lv_iinc (v := x1_7 + (1 : Int32)) (lv' := [(1, .int (x1_7 + (1 : Int32))), (0, .ref (base + 82))]) hx hb dX8_image_246 hl (k := 1) rfl rfl (by decide) rfl (fun ls hl => ?_)
                          refine lv_goto (tgt := 216) hx hb dX8_image_249 (by decide) ?_
                          have hf := while_l hX7 hf
                          exact ih7 (x1_7 + (1 : Int32)) (sA (sA u7 120 x1_7.toNatClampNeg (gA u7 106 x1_7.toNatClampNeg)) 121 x1_7.toNatClampNeg (gA (sA u7 120 x1_7.toNatClampNeg (gA u7 106 x1_7.toNatClampNeg)) 107 x1_7.toNatClampNeg)) _ _ ls hG (lv_sub hl [1, 0] rfl) hf
                    exact loop7 FUEL (0 : Int32) u5 _ _ ls hG (lv_sub hl [1, 0] rfl) hf
                  · have hf := gif_f c6 hf
                    refine lv_aload_n hx hb dX8_image_172 rfl (lv_at hl 0 rfl) ?_
                    refine g_getSa (o := 35) (a := 117) C0 hG (L82 hG) rfl 64 (by decide) rfl rfl w_910 dX8_image_173 ?_
                    refine lv_iload_n hx hb dX8_image_176 rfl (lv_at hl 1 rfl) ?_
                    refine lv_aload_n hx hb dX8_image_177 rfl (lv_at hl 0 rfl) ?_
                    refine g_getSa (o := 21) (a := 103) C0 hG (L82 hG) rfl 38 (by decide) rfl rfl w_884 dX8_image_178 ?_
                    refine lv_iload_n hx hb dX8_image_181 rfl (lv_at hl 1 rfl) ?_
                    obtain ⟨h23, hf⟩ := gin_s hf
                    refine g_iald C0 hG (L103 hG) h23 dX8_image_182 ?_
                    obtain ⟨h24, hf⟩ := gin_s hf
                    refine g_iast C0 hG (L117 hG) h24 dX8_image_183 (fun H locs hG => ?_)
                    refine lv_aload_n hx hb dX8_image_184 rfl (lv_at hl 0 rfl) ?_
                    refine g_getSa (o := 36) (a := 118) C0 hG (L82 hG) rfl 65 (by decide) rfl rfl w_911 dX8_image_185 ?_
                    refine lv_iload_n hx hb dX8_image_188 rfl (lv_at hl 1 rfl) ?_
                    refine lv_aload_n hx hb dX8_image_189 rfl (lv_at hl 0 rfl) ?_
                    refine g_getSa (o := 22) (a := 104) C0 hG (L82 hG) rfl 39 (by decide) rfl rfl w_885 dX8_image_190 ?_
                    refine lv_iload_n hx hb dX8_image_193 rfl (lv_at hl 1 rfl) ?_
                    obtain ⟨h25, hf⟩ := gin_s hf
                    refine g_iald C0 hG (L104 hG) h25 dX8_image_194 ?_
                    obtain ⟨h26, hf⟩ := gin_s hf
                    refine g_iast C0 hG (L118 hG) h26 dX8_image_195 (fun H locs hG => ?_)
                    refine lv_aload_n hx hb dX8_image_196 rfl (lv_at hl 0 rfl) ?_
                    refine g_getSa (o := 37) (a := 119) C0 hG (L82 hG) rfl 66 (by decide) rfl rfl w_912 dX8_image_197 ?_
                    refine lv_iload_n hx hb dX8_image_200 rfl (lv_at hl 1 rfl) ?_
                    refine lv_aload_n hx hb dX8_image_201 rfl (lv_at hl 0 rfl) ?_
                    refine g_getSa (o := 23) (a := 105) C0 hG (L82 hG) rfl 40 (by decide) rfl rfl w_886 dX8_image_202 ?_
                    refine lv_iload_n hx hb dX8_image_205 rfl (lv_at hl 1 rfl) ?_
                    obtain ⟨h27, hf⟩ := gin_s hf
                    refine g_iald C0 hG (L105 hG) h27 dX8_image_206 ?_
                    obtain ⟨h28, hf⟩ := gin_s hf
                    refine g_iast C0 hG (L119 hG) h28 dX8_image_207 (fun H locs hG => ?_)
                    refine lv_iinc (v := x1_5 + (1 : Int32)) (lv' := [(1, .int (x1_5 + (1 : Int32))), (0, .ref (base + 82))]) hx hb dX8_image_208 hl (k := 1) rfl rfl (by decide) rfl (fun ls hl => ?_)
                    refine lv_goto (tgt := 167) hx hb dX8_image_211 (by decide) ?_
                    have hf := while_l hX5 hf
                    exact ih5 (x1_5 + (1 : Int32)) (sA (sA (sA u5 117 x1_5.toNatClampNeg (gA u5 103 x1_5.toNatClampNeg)) 118 x1_5.toNatClampNeg (gA (sA u5 117 x1_5.toNatClampNeg (gA u5 103 x1_5.toNatClampNeg)) 104 x1_5.toNatClampNeg)) 119 x1_5.toNatClampNeg (gA (sA (sA u5 117 x1_5.toNatClampNeg (gA u5 103 x1_5.toNatClampNeg)) 118 x1_5.toNatClampNeg (gA (sA u5 117 x1_5.toNatClampNeg (gA u5 103 x1_5.toNatClampNeg)) 104 x1_5.toNatClampNeg)) 105 x1_5.toNatClampNeg)) _ _ ls hG (lv_sub hl [1, 0] rfl) hf
              exact loop5 FUEL (0 : Int32) u3 _ _ ls hG (lv_sub hl [1, 0] rfl) hf
            · have hf := gif_f c4 hf
              refine lv_aload_n hx hb dX8_image_147 rfl (lv_at hl 0 rfl) ?_
              refine g_getSa (o := 32) (a := 114) C0 hG (L82 hG) rfl 61 (by decide) rfl rfl w_907 dX8_image_148 ?_
              refine lv_iload_n hx hb dX8_image_151 rfl (lv_at hl 1 rfl) ?_
              refine lv_aload_n hx hb dX8_image_152 rfl (lv_at hl 0 rfl) ?_
              refine g_getSa (o := 5) (a := 87) C0 hG (L82 hG) rfl 9 (by decide) rfl rfl w_855 dX8_image_153 ?_
              refine lv_iload_n hx hb dX8_image_156 rfl (lv_at hl 1 rfl) ?_
              obtain ⟨h29, hf⟩ := gin_s hf
              refine g_iald C0 hG (L87 hG) h29 dX8_image_157 ?_
              obtain ⟨h30, hf⟩ := gin_s hf
              refine g_iast C0 hG (L114 hG) h30 dX8_image_158 (fun H locs hG => ?_)
              refine lv_iinc (v := x1_3 + (1 : Int32)) (lv' := [(1, .int (x1_3 + (1 : Int32))), (0, .ref (base + 82))]) hx hb dX8_image_159 hl (k := 1) rfl rfl (by decide) rfl (fun ls hl => ?_)
              refine lv_goto (tgt := 141) hx hb dX8_image_162 (by decide) ?_
              have hf := while_l hX3 hf
              exact ih3 (x1_3 + (1 : Int32)) (sA u3 114 x1_3.toNatClampNeg (gA u3 87 x1_3.toNatClampNeg)) _ _ ls hG (lv_sub hl [1, 0] rfl) hf
        exact loop3 FUEL (0 : Int32) u1 _ _ ls hG (lv_sub hl [1, 0] rfl) hf
      · have hf := gif_f c2 hf
        refine lv_aload_n hx hb dX8_image_85 rfl (lv_at hl 0 rfl) ?_
        refine g_getSa (o := 28) (a := 110) C0 hG (L82 hG) rfl 57 (by decide) rfl rfl w_903 dX8_image_86 ?_
        refine lv_iload_n hx hb dX8_image_89 rfl (lv_at hl 1 rfl) ?_
        refine lv_aload_n hx hb dX8_image_90 rfl (lv_at hl 0 rfl) ?_
        refine g_getSa (o := 1) (a := 83) C0 hG (L82 hG) rfl 5 (by decide) rfl rfl w_851 dX8_image_91 ?_
        refine lv_iload_n hx hb dX8_image_94 rfl (lv_at hl 1 rfl) ?_
        obtain ⟨h31, hf⟩ := gin_s hf
        refine g_iald C0 hG (L83 hG) h31 dX8_image_95 ?_
        obtain ⟨h32, hf⟩ := gin_s hf
        refine g_iast C0 hG (L110 hG) h32 dX8_image_96 (fun H locs hG => ?_)
        refine lv_aload_n hx hb dX8_image_97 rfl (lv_at hl 0 rfl) ?_
        refine g_getSa (o := 29) (a := 111) C0 hG (L82 hG) rfl 58 (by decide) rfl rfl w_904 dX8_image_98 ?_
        refine lv_iload_n hx hb dX8_image_101 rfl (lv_at hl 1 rfl) ?_
        refine lv_aload_n hx hb dX8_image_102 rfl (lv_at hl 0 rfl) ?_
        refine g_getSa (o := 2) (a := 84) C0 hG (L82 hG) rfl 6 (by decide) rfl rfl w_852 dX8_image_103 ?_
        refine lv_iload_n hx hb dX8_image_106 rfl (lv_at hl 1 rfl) ?_
        obtain ⟨h33, hf⟩ := gin_s hf
        refine g_iald C0 hG (L84 hG) h33 dX8_image_107 ?_
        obtain ⟨h34, hf⟩ := gin_s hf
        refine g_iast C0 hG (L111 hG) h34 dX8_image_108 (fun H locs hG => ?_)
        refine lv_aload_n hx hb dX8_image_109 rfl (lv_at hl 0 rfl) ?_
        refine g_getSa (o := 30) (a := 112) C0 hG (L82 hG) rfl 59 (by decide) rfl rfl w_905 dX8_image_110 ?_
        refine lv_iload_n hx hb dX8_image_113 rfl (lv_at hl 1 rfl) ?_
        refine lv_aload_n hx hb dX8_image_114 rfl (lv_at hl 0 rfl) ?_
        refine g_getSa (o := 3) (a := 85) C0 hG (L82 hG) rfl 7 (by decide) rfl rfl w_853 dX8_image_115 ?_
        refine lv_iload_n hx hb dX8_image_118 rfl (lv_at hl 1 rfl) ?_
        obtain ⟨h35, hf⟩ := gin_s hf
        refine g_iald C0 hG (L85 hG) h35 dX8_image_119 ?_
        obtain ⟨h36, hf⟩ := gin_s hf
        refine g_iast C0 hG (L112 hG) h36 dX8_image_120 (fun H locs hG => ?_)
        refine lv_aload_n hx hb dX8_image_121 rfl (lv_at hl 0 rfl) ?_
        refine g_getSa (o := 31) (a := 113) C0 hG (L82 hG) rfl 60 (by decide) rfl rfl w_906 dX8_image_122 ?_
        refine lv_iload_n hx hb dX8_image_125 rfl (lv_at hl 1 rfl) ?_
        refine lv_aload_n hx hb dX8_image_126 rfl (lv_at hl 0 rfl) ?_
        refine g_getSa (o := 4) (a := 86) C0 hG (L82 hG) rfl 8 (by decide) rfl rfl w_854 dX8_image_127 ?_
        refine lv_iload_n hx hb dX8_image_130 rfl (lv_at hl 1 rfl) ?_
        obtain ⟨h37, hf⟩ := gin_s hf
        refine g_iald C0 hG (L86 hG) h37 dX8_image_131 ?_
        obtain ⟨h38, hf⟩ := gin_s hf
        refine g_iast C0 hG (L113 hG) h38 dX8_image_132 (fun H locs hG => ?_)
        refine lv_iinc (v := x1_1 + (1 : Int32)) (lv' := [(1, .int (x1_1 + (1 : Int32))), (0, .ref (base + 82))]) hx hb dX8_image_133 hl (k := 1) rfl rfl (by decide) rfl (fun ls hl => ?_)
        refine lv_goto (tgt := 79) hx hb dX8_image_136 (by decide) ?_
        have hf := while_l hX1 hf
        exact ih1 (x1_1 + (1 : Int32)) (sA (sA (sA (sA u1 110 x1_1.toNatClampNeg (gA u1 83 x1_1.toNatClampNeg)) 111 x1_1.toNatClampNeg (gA (sA u1 110 x1_1.toNatClampNeg (gA u1 83 x1_1.toNatClampNeg)) 84 x1_1.toNatClampNeg)) 112 x1_1.toNatClampNeg (gA (sA (sA u1 110 x1_1.toNatClampNeg (gA u1 83 x1_1.toNatClampNeg)) 111 x1_1.toNatClampNeg (gA (sA u1 110 x1_1.toNatClampNeg (gA u1 83 x1_1.toNatClampNeg)) 84 x1_1.toNatClampNeg)) 85 x1_1.toNatClampNeg)) 113 x1_1.toNatClampNeg (gA (sA (sA (sA u1 110 x1_1.toNatClampNeg (gA u1 83 x1_1.toNatClampNeg)) 111 x1_1.toNatClampNeg (gA (sA u1 110 x1_1.toNatClampNeg (gA u1 83 x1_1.toNatClampNeg)) 84 x1_1.toNatClampNeg)) 112 x1_1.toNatClampNeg (gA (sA (sA u1 110 x1_1.toNatClampNeg (gA u1 83 x1_1.toNatClampNeg)) 111 x1_1.toNatClampNeg (gA (sA u1 110 x1_1.toNatClampNeg (gA u1 83 x1_1.toNatClampNeg)) 84 x1_1.toNatClampNeg)) 85 x1_1.toNatClampNeg)) 86 x1_1.toNatClampNeg)) _ _ ls hG (lv_sub hl [1, 0] rfl) hf
  exact loop1 FUEL (0 : Int32) (sI (sI (sI (sI (sI (sI (sI (sI (sI (sI u 82 47 (1 : Int32)) 82 48 (gI (sI u 82 47 (1 : Int32)) 82 13)) 82 49 (gI (sI (sI u 82 47 (1 : Int32)) 82 48 (gI (sI u 82 47 (1 : Int32)) 82 13)) 82 0)) 82 50 (gI (sI (sI (sI u 82 47 (1 : Int32)) 82 48 (gI (sI u 82 47 (1 : Int32)) 82 13)) 82 49 (gI (sI (sI u 82 47 (1 : Int32)) 82 48 (gI (sI u 82 47 (1 : Int32)) 82 13)) 82 0)) 82 1)) 82 51 (gI (sI (sI (sI (sI u 82 47 (1 : Int32)) 82 48 (gI (sI u 82 47 (1 : Int32)) 82 13)) 82 49 (gI (sI (sI u 82 47 (1 : Int32)) 82 48 (gI (sI u 82 47 (1 : Int32)) 82 13)) 82 0)) 82 50 (gI (sI (sI (sI u 82 47 (1 : Int32)) 82 48 (gI (sI u 82 47 (1 : Int32)) 82 13)) 82 49 (gI (sI (sI u 82 47 (1 : Int32)) 82 48 (gI (sI u 82 47 (1 : Int32)) 82 13)) 82 0)) 82 1)) 82 2)) 82 52 (gI (sI (sI (sI (sI (sI u 82 47 (1 : Int32)) 82 48 (gI (sI u 82 47 (1 : Int32)) 82 13)) 82 49 (gI (sI (sI u 82 47 (1 : Int32)) 82 48 (gI (sI u 82 47 (1 : Int32)) 82 13)) 82 0)) 82 50 (gI (sI (sI (sI u 82 47 (1 : Int32)) 82 48 (gI (sI u 82 47 (1 : Int32)) 82 13)) 82 49 (gI (sI (sI u 82 47 (1 : Int32)) 82 48 (gI (sI u 82 47 (1 : Int32)) 82 13)) 82 0)) 82 1)) 82 51 (gI (sI (sI (sI (sI u 82 47 (1 : Int32)) 82 48 (gI (sI u 82 47 (1 : Int32)) 82 13)) 82 49 (gI (sI (sI u 82 47 (1 : Int32)) 82 48 (gI (sI u 82 47 (1 : Int32)) 82 13)) 82 0)) 82 50 (gI (sI (sI (sI u 82 47 (1 : Int32)) 82 48 (gI (sI u 82 47 (1 : Int32)) 82 13)) 82 49 (gI (sI (sI u 82 47 (1 : Int32)) 82 48 (gI (sI u 82 47 (1 : Int32)) 82 13)) 82 0)) 82 1)) 82 2)) 82 3)) 82 53 (gI (sI (sI (sI (sI (sI (sI u 82 47 (1 : Int32)) 82 48 (gI (sI u 82 47 (1 : Int32)) 82 13)) 82 49 (gI (sI (sI u 82 47 (1 : Int32)) 82 48 (gI (sI u 82 47 (1 : Int32)) 82 13)) 82 0)) 82 50 (gI (sI (sI (sI u 82 47 (1 : Int32)) 82 48 (gI (sI u 82 47 (1 : Int32)) 82 13)) 82 49 (gI (sI (sI u 82 47 (1 : Int32)) 82 48 (gI (sI u 82 47 (1 : Int32)) 82 13)) 82 0)) 82 1)) 82 51 (gI (sI (sI (sI (sI u 82 47 (1 : Int32)) 82 48 (gI (sI u 82 47 (1 : Int32)) 82 13)) 82 49 (gI (sI (sI u 82 47 (1 : Int32)) 82 48 (gI (sI u 82 47 (1 : Int32)) 82 13)) 82 0)) 82 50 (gI (sI (sI (sI u 82 47 (1 : Int32)) 82 48 (gI (sI u 82 47 (1 : Int32)) 82 13)) 82 49 (gI (sI (sI u 82 47 (1 : Int32)) 82 48 (gI (sI u 82 47 (1 : Int32)) 82 13)) 82 0)) 82 1)) 82 2)) 82 52 (gI (sI (sI (sI (sI (sI u 82 47 (1 : Int32)) 82 48 (gI (sI u 82 47 (1 : Int32)) 82 13)) 82 49 (gI (sI (sI u 82 47 (1 : Int32)) 82 48 (gI (sI u 82 47 (1 : Int32)) 82 13)) 82 0)) 82 50 (gI (sI (sI (sI u 82 47 (1 : Int32)) 82 48 (gI (sI u 82 47 (1 : Int32)) 82 13)) 82 49 (gI (sI (sI u 82 47 (1 : Int32)) 82 48 (gI (sI u 82 47 (1 : Int32)) 82 13)) 82 0)) 82 1)) 82 51 (gI (sI (sI (sI (sI u 82 47 (1 : Int32)) 82 48 (gI (sI u 82 47 (1 : Int32)) 82 13)) 82 49 (gI (sI (sI u 82 47 (1 : Int32)) 82 48 (gI (sI u 82 47 (1 : Int32)) 82 13)) 82 0)) 82 50 (gI (sI (sI (sI u 82 47 (1 : Int32)) 82 48 (gI (sI u 82 47 (1 : Int32)) 82 13)) 82 49 (gI (sI (sI u 82 47 (1 : Int32)) 82 48 (gI (sI u 82 47 (1 : Int32)) 82 13)) 82 0)) 82 1)) 82 2)) 82 3)) 82 4)) 82 54 (gI (sI (sI (sI (sI (sI (sI (sI u 82 47 (1 : Int32)) 82 48 (gI (sI u 82 47 (1 : Int32)) 82 13)) 82 49 (gI (sI (sI u 82 47 (1 : Int32)) 82 48 (gI (sI u 82 47 (1 : Int32)) 82 13)) 82 0)) 82 50 (gI (sI (sI (sI u 82 47 (1 : Int32)) 82 48 (gI (sI u 82 47 (1 : Int32)) 82 13)) 82 49 (gI (sI (sI u 82 47 (1 : Int32)) 82 48 (gI (sI u 82 47 (1 : Int32)) 82 13)) 82 0)) 82 1)) 82 51 (gI (sI (sI (sI (sI u 82 47 (1 : Int32)) 82 48 (gI (sI u 82 47 (1 : Int32)) 82 13)) 82 49 (gI (sI (sI u 82 47 (1 : Int32)) 82 48 (gI (sI u 82 47 (1 : Int32)) 82 13)) 82 0)) 82 50 (gI (sI (sI (sI u 82 47 (1 : Int32)) 82 48 (gI (sI u 82 47 (1 : Int32)) 82 13)) 82 49 (gI (sI (sI u 82 47 (1 : Int32)) 82 48 (gI (sI u 82 47 (1 : Int32)) 82 13)) 82 0)) 82 1)) 82 2)) 82 52 (gI (sI (sI (sI (sI (sI u 82 47 (1 : Int32)) 82 48 (gI (sI u 82 47 (1 : Int32)) 82 13)) 82 49 (gI (sI (sI u 82 47 (1 : Int32)) 82 48 (gI (sI u 82 47 (1 : Int32)) 82 13)) 82 0)) 82 50 (gI (sI (sI (sI u 82 47 (1 : Int32)) 82 48 (gI (sI u 82 47 (1 : Int32)) 82 13)) 82 49 (gI (sI (sI u 82 47 (1 : Int32)) 82 48 (gI (sI u 82 47 (1 : Int32)) 82 13)) 82 0)) 82 1)) 82 51 (gI (sI (sI (sI (sI u 82 47 (1 : Int32)) 82 48 (gI (sI u 82 47 (1 : Int32)) 82 13)) 82 49 (gI (sI (sI u 82 47 (1 : Int32)) 82 48 (gI (sI u 82 47 (1 : Int32)) 82 13)) 82 0)) 82 50 (gI (sI (sI (sI u 82 47 (1 : Int32)) 82 48 (gI (sI u 82 47 (1 : Int32)) 82 13)) 82 49 (gI (sI (sI u 82 47 (1 : Int32)) 82 48 (gI (sI u 82 47 (1 : Int32)) 82 13)) 82 0)) 82 1)) 82 2)) 82 3)) 82 53 (gI (sI (sI (sI (sI (sI (sI u 82 47 (1 : Int32)) 82 48 (gI (sI u 82 47 (1 : Int32)) 82 13)) 82 49 (gI (sI (sI u 82 47 (1 : Int32)) 82 48 (gI (sI u 82 47 (1 : Int32)) 82 13)) 82 0)) 82 50 (gI (sI (sI (sI u 82 47 (1 : Int32)) 82 48 (gI (sI u 82 47 (1 : Int32)) 82 13)) 82 49 (gI (sI (sI u 82 47 (1 : Int32)) 82 48 (gI (sI u 82 47 (1 : Int32)) 82 13)) 82 0)) 82 1)) 82 51 (gI (sI (sI (sI (sI u 82 47 (1 : Int32)) 82 48 (gI (sI u 82 47 (1 : Int32)) 82 13)) 82 49 (gI (sI (sI u 82 47 (1 : Int32)) 82 48 (gI (sI u 82 47 (1 : Int32)) 82 13)) 82 0)) 82 50 (gI (sI (sI (sI u 82 47 (1 : Int32)) 82 48 (gI (sI u 82 47 (1 : Int32)) 82 13)) 82 49 (gI (sI (sI u 82 47 (1 : Int32)) 82 48 (gI (sI u 82 47 (1 : Int32)) 82 13)) 82 0)) 82 1)) 82 2)) 82 52 (gI (sI (sI (sI (sI (sI u 82 47 (1 : Int32)) 82 48 (gI (sI u 82 47 (1 : Int32)) 82 13)) 82 49 (gI (sI (sI u 82 47 (1 : Int32)) 82 48 (gI (sI u 82 47 (1 : Int32)) 82 13)) 82 0)) 82 50 (gI (sI (sI (sI u 82 47 (1 : Int32)) 82 48 (gI (sI u 82 47 (1 : Int32)) 82 13)) 82 49 (gI (sI (sI u 82 47 (1 : Int32)) 82 48 (gI (sI u 82 47 (1 : Int32)) 82 13)) 82 0)) 82 1)) 82 51 (gI (sI (sI (sI (sI u 82 47 (1 : Int32)) 82 48 (gI (sI u 82 47 (1 : Int32)) 82 13)) 82 49 (gI (sI (sI u 82 47 (1 : Int32)) 82 48 (gI (sI u 82 47 (1 : Int32)) 82 13)) 82 0)) 82 50 (gI (sI (sI (sI u 82 47 (1 : Int32)) 82 48 (gI (sI u 82 47 (1 : Int32)) 82 13)) 82 49 (gI (sI (sI u 82 47 (1 : Int32)) 82 48 (gI (sI u 82 47 (1 : Int32)) 82 13)) 82 0)) 82 1)) 82 2)) 82 3)) 82 4)) 82 37)) 82 55 (gI (sI (sI (sI (sI (sI (sI (sI (sI u 82 47 (1 : Int32)) 82 48 (gI (sI u 82 47 (1 : Int32)) 82 13)) 82 49 (gI (sI (sI u 82 47 (1 : Int32)) 82 48 (gI (sI u 82 47 (1 : Int32)) 82 13)) 82 0)) 82 50 (gI (sI (sI (sI u 82 47 (1 : Int32)) 82 48 (gI (sI u 82 47 (1 : Int32)) 82 13)) 82 49 (gI (sI (sI u 82 47 (1 : Int32)) 82 48 (gI (sI u 82 47 (1 : Int32)) 82 13)) 82 0)) 82 1)) 82 51 (gI (sI (sI (sI (sI u 82 47 (1 : Int32)) 82 48 (gI (sI u 82 47 (1 : Int32)) 82 13)) 82 49 (gI (sI (sI u 82 47 (1 : Int32)) 82 48 (gI (sI u 82 47 (1 : Int32)) 82 13)) 82 0)) 82 50 (gI (sI (sI (sI u 82 47 (1 : Int32)) 82 48 (gI (sI u 82 47 (1 : Int32)) 82 13)) 82 49 (gI (sI (sI u 82 47 (1 : Int32)) 82 48 (gI (sI u 82 47 (1 : Int32)) 82 13)) 82 0)) 82 1)) 82 2)) 82 52 (gI (sI (sI (sI (sI (sI u 82 47 (1 : Int32)) 82 48 (gI (sI u 82 47 (1 : Int32)) 82 13)) 82 49 (gI (sI (sI u 82 47 (1 : Int32)) 82 48 (gI (sI u 82 47 (1 : Int32)) 82 13)) 82 0)) 82 50 (gI (sI (sI (sI u 82 47 (1 : Int32)) 82 48 (gI (sI u 82 47 (1 : Int32)) 82 13)) 82 49 (gI (sI (sI u 82 47 (1 : Int32)) 82 48 (gI (sI u 82 47 (1 : Int32)) 82 13)) 82 0)) 82 1)) 82 51 (gI (sI (sI (sI (sI u 82 47 (1 : Int32)) 82 48 (gI (sI u 82 47 (1 : Int32)) 82 13)) 82 49 (gI (sI (sI u 82 47 (1 : Int32)) 82 48 (gI (sI u 82 47 (1 : Int32)) 82 13)) 82 0)) 82 50 (gI (sI (sI (sI u 82 47 (1 : Int32)) 82 48 (gI (sI u 82 47 (1 : Int32)) 82 13)) 82 49 (gI (sI (sI u 82 47 (1 : Int32)) 82 48 (gI (sI u 82 47 (1 : Int32)) 82 13)) 82 0)) 82 1)) 82 2)) 82 3)) 82 53 (gI (sI (sI (sI (sI (sI (sI u 82 47 (1 : Int32)) 82 48 (gI (sI u 82 47 (1 : Int32)) 82 13)) 82 49 (gI (sI (sI u 82 47 (1 : Int32)) 82 48 (gI (sI u 82 47 (1 : Int32)) 82 13)) 82 0)) 82 50 (gI (sI (sI (sI u 82 47 (1 : Int32)) 82 48 (gI (sI u 82 47 (1 : Int32)) 82 13)) 82 49 (gI (sI (sI u 82 47 (1 : Int32)) 82 48 (gI (sI u 82 47 (1 : Int32)) 82 13)) 82 0)) 82 1)) 82 51 (gI (sI (sI (sI (sI u 82 47 (1 : Int32)) 82 48 (gI (sI u 82 47 (1 : Int32)) 82 13)) 82 49 (gI (sI (sI u 82 47 (1 : Int32)) 82 48 (gI (sI u 82 47 (1 : Int32)) 82 13)) 82 0)) 82 50 (gI (sI (sI (sI u 82 47 (1 : Int32)) 82 48 (gI (sI u 82 47 (1 : Int32)) 82 13)) 82 49 (gI (sI (sI u 82 47 (1 : Int32)) 82 48 (gI (sI u 82 47 (1 : Int32)) 82 13)) 82 0)) 82 1)) 82 2)) 82 52 (gI (sI (sI (sI (sI (sI u 82 47 (1 : Int32)) 82 48 (gI (sI u 82 47 (1 : Int32)) 82 13)) 82 49 (gI (sI (sI u 82 47 (1 : Int32)) 82 48 (gI (sI u 82 47 (1 : Int32)) 82 13)) 82 0)) 82 50 (gI (sI (sI (sI u 82 47 (1 : Int32)) 82 48 (gI (sI u 82 47 (1 : Int32)) 82 13)) 82 49 (gI (sI (sI u 82 47 (1 : Int32)) 82 48 (gI (sI u 82 47 (1 : Int32)) 82 13)) 82 0)) 82 1)) 82 51 (gI (sI (sI (sI (sI u 82 47 (1 : Int32)) 82 48 (gI (sI u 82 47 (1 : Int32)) 82 13)) 82 49 (gI (sI (sI u 82 47 (1 : Int32)) 82 48 (gI (sI u 82 47 (1 : Int32)) 82 13)) 82 0)) 82 50 (gI (sI (sI (sI u 82 47 (1 : Int32)) 82 48 (gI (sI u 82 47 (1 : Int32)) 82 13)) 82 49 (gI (sI (sI u 82 47 (1 : Int32)) 82 48 (gI (sI u 82 47 (1 : Int32)) 82 13)) 82 0)) 82 1)) 82 2)) 82 3)) 82 4)) 82 54 (gI (sI (sI (sI (sI (sI (sI (sI u 82 47 (1 : Int32)) 82 48 (gI (sI u 82 47 (1 : Int32)) 82 13)) 82 49 (gI (sI (sI u 82 47 (1 : Int32)) 82 48 (gI (sI u 82 47 (1 : Int32)) 82 13)) 82 0)) 82 50 (gI (sI (sI (sI u 82 47 (1 : Int32)) 82 48 (gI (sI u 82 47 (1 : Int32)) 82 13)) 82 49 (gI (sI (sI u 82 47 (1 : Int32)) 82 48 (gI (sI u 82 47 (1 : Int32)) 82 13)) 82 0)) 82 1)) 82 51 (gI (sI (sI (sI (sI u 82 47 (1 : Int32)) 82 48 (gI (sI u 82 47 (1 : Int32)) 82 13)) 82 49 (gI (sI (sI u 82 47 (1 : Int32)) 82 48 (gI (sI u 82 47 (1 : Int32)) 82 13)) 82 0)) 82 50 (gI (sI (sI (sI u 82 47 (1 : Int32)) 82 48 (gI (sI u 82 47 (1 : Int32)) 82 13)) 82 49 (gI (sI (sI u 82 47 (1 : Int32)) 82 48 (gI (sI u 82 47 (1 : Int32)) 82 13)) 82 0)) 82 1)) 82 2)) 82 52 (gI (sI (sI (sI (sI (sI u 82 47 (1 : Int32)) 82 48 (gI (sI u 82 47 (1 : Int32)) 82 13)) 82 49 (gI (sI (sI u 82 47 (1 : Int32)) 82 48 (gI (sI u 82 47 (1 : Int32)) 82 13)) 82 0)) 82 50 (gI (sI (sI (sI u 82 47 (1 : Int32)) 82 48 (gI (sI u 82 47 (1 : Int32)) 82 13)) 82 49 (gI (sI (sI u 82 47 (1 : Int32)) 82 48 (gI (sI u 82 47 (1 : Int32)) 82 13)) 82 0)) 82 1)) 82 51 (gI (sI (sI (sI (sI u 82 47 (1 : Int32)) 82 48 (gI (sI u 82 47 (1 : Int32)) 82 13)) 82 49 (gI (sI (sI u 82 47 (1 : Int32)) 82 48 (gI (sI u 82 47 (1 : Int32)) 82 13)) 82 0)) 82 50 (gI (sI (sI (sI u 82 47 (1 : Int32)) 82 48 (gI (sI u 82 47 (1 : Int32)) 82 13)) 82 49 (gI (sI (sI u 82 47 (1 : Int32)) 82 48 (gI (sI u 82 47 (1 : Int32)) 82 13)) 82 0)) 82 1)) 82 2)) 82 3)) 82 53 (gI (sI (sI (sI (sI (sI (sI u 82 47 (1 : Int32)) 82 48 (gI (sI u 82 47 (1 : Int32)) 82 13)) 82 49 (gI (sI (sI u 82 47 (1 : Int32)) 82 48 (gI (sI u 82 47 (1 : Int32)) 82 13)) 82 0)) 82 50 (gI (sI (sI (sI u 82 47 (1 : Int32)) 82 48 (gI (sI u 82 47 (1 : Int32)) 82 13)) 82 49 (gI (sI (sI u 82 47 (1 : Int32)) 82 48 (gI (sI u 82 47 (1 : Int32)) 82 13)) 82 0)) 82 1)) 82 51 (gI (sI (sI (sI (sI u 82 47 (1 : Int32)) 82 48 (gI (sI u 82 47 (1 : Int32)) 82 13)) 82 49 (gI (sI (sI u 82 47 (1 : Int32)) 82 48 (gI (sI u 82 47 (1 : Int32)) 82 13)) 82 0)) 82 50 (gI (sI (sI (sI u 82 47 (1 : Int32)) 82 48 (gI (sI u 82 47 (1 : Int32)) 82 13)) 82 49 (gI (sI (sI u 82 47 (1 : Int32)) 82 48 (gI (sI u 82 47 (1 : Int32)) 82 13)) 82 0)) 82 1)) 82 2)) 82 52 (gI (sI (sI (sI (sI (sI u 82 47 (1 : Int32)) 82 48 (gI (sI u 82 47 (1 : Int32)) 82 13)) 82 49 (gI (sI (sI u 82 47 (1 : Int32)) 82 48 (gI (sI u 82 47 (1 : Int32)) 82 13)) 82 0)) 82 50 (gI (sI (sI (sI u 82 47 (1 : Int32)) 82 48 (gI (sI u 82 47 (1 : Int32)) 82 13)) 82 49 (gI (sI (sI u 82 47 (1 : Int32)) 82 48 (gI (sI u 82 47 (1 : Int32)) 82 13)) 82 0)) 82 1)) 82 51 (gI (sI (sI (sI (sI u 82 47 (1 : Int32)) 82 48 (gI (sI u 82 47 (1 : Int32)) 82 13)) 82 49 (gI (sI (sI u 82 47 (1 : Int32)) 82 48 (gI (sI u 82 47 (1 : Int32)) 82 13)) 82 0)) 82 50 (gI (sI (sI (sI u 82 47 (1 : Int32)) 82 48 (gI (sI u 82 47 (1 : Int32)) 82 13)) 82 49 (gI (sI (sI u 82 47 (1 : Int32)) 82 48 (gI (sI u 82 47 (1 : Int32)) 82 13)) 82 0)) 82 1)) 82 2)) 82 3)) 82 4)) 82 37)) 82 41)) 82 56 (gI (sI (sI (sI (sI (sI (sI (sI (sI (sI u 82 47 (1 : Int32)) 82 48 (gI (sI u 82 47 (1 : Int32)) 82 13)) 82 49 (gI (sI (sI u 82 47 (1 : Int32)) 82 48 (gI (sI u 82 47 (1 : Int32)) 82 13)) 82 0)) 82 50 (gI (sI (sI (sI u 82 47 (1 : Int32)) 82 48 (gI (sI u 82 47 (1 : Int32)) 82 13)) 82 49 (gI (sI (sI u 82 47 (1 : Int32)) 82 48 (gI (sI u 82 47 (1 : Int32)) 82 13)) 82 0)) 82 1)) 82 51 (gI (sI (sI (sI (sI u 82 47 (1 : Int32)) 82 48 (gI (sI u 82 47 (1 : Int32)) 82 13)) 82 49 (gI (sI (sI u 82 47 (1 : Int32)) 82 48 (gI (sI u 82 47 (1 : Int32)) 82 13)) 82 0)) 82 50 (gI (sI (sI (sI u 82 47 (1 : Int32)) 82 48 (gI (sI u 82 47 (1 : Int32)) 82 13)) 82 49 (gI (sI (sI u 82 47 (1 : Int32)) 82 48 (gI (sI u 82 47 (1 : Int32)) 82 13)) 82 0)) 82 1)) 82 2)) 82 52 (gI (sI (sI (sI (sI (sI u 82 47 (1 : Int32)) 82 48 (gI (sI u 82 47 (1 : Int32)) 82 13)) 82 49 (gI (sI (sI u 82 47 (1 : Int32)) 82 48 (gI (sI u 82 47 (1 : Int32)) 82 13)) 82 0)) 82 50 (gI (sI (sI (sI u 82 47 (1 : Int32)) 82 48 (gI (sI u 82 47 (1 : Int32)) 82 13)) 82 49 (gI (sI (sI u 82 47 (1 : Int32)) 82 48 (gI (sI u 82 47 (1 : Int32)) 82 13)) 82 0)) 82 1)) 82 51 (gI (sI (sI (sI (sI u 82 47 (1 : Int32)) 82 48 (gI (sI u 82 47 (1 : Int32)) 82 13)) 82 49 (gI (sI (sI u 82 47 (1 : Int32)) 82 48 (gI (sI u 82 47 (1 : Int32)) 82 13)) 82 0)) 82 50 (gI (sI (sI (sI u 82 47 (1 : Int32)) 82 48 (gI (sI u 82 47 (1 : Int32)) 82 13)) 82 49 (gI (sI (sI u 82 47 (1 : Int32)) 82 48 (gI (sI u 82 47 (1 : Int32)) 82 13)) 82 0)) 82 1)) 82 2)) 82 3)) 82 53 (gI (sI (sI (sI (sI (sI (sI u 82 47 (1 : Int32)) 82 48 (gI (sI u 82 47 (1 : Int32)) 82 13)) 82 49 (gI (sI (sI u 82 47 (1 : Int32)) 82 48 (gI (sI u 82 47 (1 : Int32)) 82 13)) 82 0)) 82 50 (gI (sI (sI (sI u 82 47 (1 : Int32)) 82 48 (gI (sI u 82 47 (1 : Int32)) 82 13)) 82 49 (gI (sI (sI u 82 47 (1 : Int32)) 82 48 (gI (sI u 82 47 (1 : Int32)) 82 13)) 82 0)) 82 1)) 82 51 (gI (sI (sI (sI (sI u 82 47 (1 : Int32)) 82 48 (gI (sI u 82 47 (1 : Int32)) 82 13)) 82 49 (gI (sI (sI u 82 47 (1 : Int32)) 82 48 (gI (sI u 82 47 (1 : Int32)) 82 13)) 82 0)) 82 50 (gI (sI (sI (sI u 82 47 (1 : Int32)) 82 48 (gI (sI u 82 47 (1 : Int32)) 82 13)) 82 49 (gI (sI (sI u 82 47 (1 : Int32)) 82 48 (gI (sI u 82 47 (1 : Int32)) 82 13)) 82 0)) 82 1)) 82 2)) 82 52 (gI (sI (sI (sI (sI (sI u 82 47 (1 : Int32)) 82 48 (gI (sI u 82 47 (1 : Int32)) 82 13)) 82 49 (gI (sI (sI u 82 47 (1 : Int32)) 82 48 (gI (sI u 82 47 (1 : Int32)) 82 13)) 82 0)) 82 50 (gI (sI (sI (sI u 82 47 (1 : Int32)) 82 48 (gI (sI u 82 47 (1 : Int32)) 82 13)) 82 49 (gI (sI (sI u 82 47 (1 : Int32)) 82 48 (gI (sI u 82 47 (1 : Int32)) 82 13)) 82 0)) 82 1)) 82 51 (gI (sI (sI (sI (sI u 82 47 (1 : Int32)) 82 48 (gI (sI u 82 47 (1 : Int32)) 82 13)) 82 49 (gI (sI (sI u 82 47 (1 : Int32)) 82 48 (gI (sI u 82 47 (1 : Int32)) 82 13)) 82 0)) 82 50 (gI (sI (sI (sI u 82 47 (1 : Int32)) 82 48 (gI (sI u 82 47 (1 : Int32)) 82 13)) 82 49 (gI (sI (sI u 82 47 (1 : Int32)) 82 48 (gI (sI u 82 47 (1 : Int32)) 82 13)) 82 0)) 82 1)) 82 2)) 82 3)) 82 4)) 82 54 (gI (sI (sI (sI (sI (sI (sI (sI u 82 47 (1 : Int32)) 82 48 (gI (sI u 82 47 (1 : Int32)) 82 13)) 82 49 (gI (sI (sI u 82 47 (1 : Int32)) 82 48 (gI (sI u 82 47 (1 : Int32)) 82 13)) 82 0)) 82 50 (gI (sI (sI (sI u 82 47 (1 : Int32)) 82 48 (gI (sI u 82 47 (1 : Int32)) 82 13)) 82 49 (gI (sI (sI u 82 47 (1 : Int32)) 82 48 (gI (sI u 82 47 (1 : Int32)) 82 13)) 82 0)) 82 1)) 82 51 (gI (sI (sI (sI (sI u 82 47 (1 : Int32)) 82 48 (gI (sI u 82 47 (1 : Int32)) 82 13)) 82 49 (gI (sI (sI u 82 47 (1 : Int32)) 82 48 (gI (sI u 82 47 (1 : Int32)) 82 13)) 82 0)) 82 50 (gI (sI (sI (sI u 82 47 (1 : Int32)) 82 48 (gI (sI u 82 47 (1 : Int32)) 82 13)) 82 49 (gI (sI (sI u 82 47 (1 : Int32)) 82 48 (gI (sI u 82 47 (1 : Int32)) 82 13)) 82 0)) 82 1)) 82 2)) 82 52 (gI (sI (sI (sI (sI (sI u 82 47 (1 : Int32)) 82 48 (gI (sI u 82 47 (1 : Int32)) 82 13)) 82 49 (gI (sI (sI u 82 47 (1 : Int32)) 82 48 (gI (sI u 82 47 (1 : Int32)) 82 13)) 82 0)) 82 50 (gI (sI (sI (sI u 82 47 (1 : Int32)) 82 48 (gI (sI u 82 47 (1 : Int32)) 82 13)) 82 49 (gI (sI (sI u 82 47 (1 : Int32)) 82 48 (gI (sI u 82 47 (1 : Int32)) 82 13)) 82 0)) 82 1)) 82 51 (gI (sI (sI (sI (sI u 82 47 (1 : Int32)) 82 48 (gI (sI u 82 47 (1 : Int32)) 82 13)) 82 49 (gI (sI (sI u 82 47 (1 : Int32)) 82 48 (gI (sI u 82 47 (1 : Int32)) 82 13)) 82 0)) 82 50 (gI (sI (sI (sI u 82 47 (1 : Int32)) 82 48 (gI (sI u 82 47 (1 : Int32)) 82 13)) 82 49 (gI (sI (sI u 82 47 (1 : Int32)) 82 48 (gI (sI u 82 47 (1 : Int32)) 82 13)) 82 0)) 82 1)) 82 2)) 82 3)) 82 53 (gI (sI (sI (sI (sI (sI (sI u 82 47 (1 : Int32)) 82 48 (gI (sI u 82 47 (1 : Int32)) 82 13)) 82 49 (gI (sI (sI u 82 47 (1 : Int32)) 82 48 (gI (sI u 82 47 (1 : Int32)) 82 13)) 82 0)) 82 50 (gI (sI (sI (sI u 82 47 (1 : Int32)) 82 48 (gI (sI u 82 47 (1 : Int32)) 82 13)) 82 49 (gI (sI (sI u 82 47 (1 : Int32)) 82 48 (gI (sI u 82 47 (1 : Int32)) 82 13)) 82 0)) 82 1)) 82 51 (gI (sI (sI (sI (sI u 82 47 (1 : Int32)) 82 48 (gI (sI u 82 47 (1 : Int32)) 82 13)) 82 49 (gI (sI (sI u 82 47 (1 : Int32)) 82 48 (gI (sI u 82 47 (1 : Int32)) 82 13)) 82 0)) 82 50 (gI (sI (sI (sI u 82 47 (1 : Int32)) 82 48 (gI (sI u 82 47 (1 : Int32)) 82 13)) 82 49 (gI (sI (sI u 82 47 (1 : Int32)) 82 48 (gI (sI u 82 47 (1 : Int32)) 82 13)) 82 0)) 82 1)) 82 2)) 82 52 (gI (sI (sI (sI (sI (sI u 82 47 (1 : Int32)) 82 48 (gI (sI u 82 47 (1 : Int32)) 82 13)) 82 49 (gI (sI (sI u 82 47 (1 : Int32)) 82 48 (gI (sI u 82 47 (1 : Int32)) 82 13)) 82 0)) 82 50 (gI (sI (sI (sI u 82 47 (1 : Int32)) 82 48 (gI (sI u 82 47 (1 : Int32)) 82 13)) 82 49 (gI (sI (sI u 82 47 (1 : Int32)) 82 48 (gI (sI u 82 47 (1 : Int32)) 82 13)) 82 0)) 82 1)) 82 51 (gI (sI (sI (sI (sI u 82 47 (1 : Int32)) 82 48 (gI (sI u 82 47 (1 : Int32)) 82 13)) 82 49 (gI (sI (sI u 82 47 (1 : Int32)) 82 48 (gI (sI u 82 47 (1 : Int32)) 82 13)) 82 0)) 82 50 (gI (sI (sI (sI u 82 47 (1 : Int32)) 82 48 (gI (sI u 82 47 (1 : Int32)) 82 13)) 82 49 (gI (sI (sI u 82 47 (1 : Int32)) 82 48 (gI (sI u 82 47 (1 : Int32)) 82 13)) 82 0)) 82 1)) 82 2)) 82 3)) 82 4)) 82 37)) 82 55 (gI (sI (sI (sI (sI (sI (sI (sI (sI u 82 47 (1 : Int32)) 82 48 (gI (sI u 82 47 (1 : Int32)) 82 13)) 82 49 (gI (sI (sI u 82 47 (1 : Int32)) 82 48 (gI (sI u 82 47 (1 : Int32)) 82 13)) 82 0)) 82 50 (gI (sI (sI (sI u 82 47 (1 : Int32)) 82 48 (gI (sI u 82 47 (1 : Int32)) 82 13)) 82 49 (gI (sI (sI u 82 47 (1 : Int32)) 82 48 (gI (sI u 82 47 (1 : Int32)) 82 13)) 82 0)) 82 1)) 82 51 (gI (sI (sI (sI (sI u 82 47 (1 : Int32)) 82 48 (gI (sI u 82 47 (1 : Int32)) 82 13)) 82 49 (gI (sI (sI u 82 47 (1 : Int32)) 82 48 (gI (sI u 82 47 (1 : Int32)) 82 13)) 82 0)) 82 50 (gI (sI (sI (sI u 82 47 (1 : Int32)) 82 48 (gI (sI u 82 47 (1 : Int32)) 82 13)) 82 49 (gI (sI (sI u 82 47 (1 : Int32)) 82 48 (gI (sI u 82 47 (1 : Int32)) 82 13)) 82 0)) 82 1)) 82 2)) 82 52 (gI (sI (sI (sI (sI (sI u 82 47 (1 : Int32)) 82 48 (gI (sI u 82 47 (1 : Int32)) 82 13)) 82 49 (gI (sI (sI u 82 47 (1 : Int32)) 82 48 (gI (sI u 82 47 (1 : Int32)) 82 13)) 82 0)) 82 50 (gI (sI (sI (sI u 82 47 (1 : Int32)) 82 48 (gI (sI u 82 47 (1 : Int32)) 82 13)) 82 49 (gI (sI (sI u 82 47 (1 : Int32)) 82 48 (gI (sI u 82 47 (1 : Int32)) 82 13)) 82 0)) 82 1)) 82 51 (gI (sI (sI (sI (sI u 82 47 (1 : Int32)) 82 48 (gI (sI u 82 47 (1 : Int32)) 82 13)) 82 49 (gI (sI (sI u 82 47 (1 : Int32)) 82 48 (gI (sI u 82 47 (1 : Int32)) 82 13)) 82 0)) 82 50 (gI (sI (sI (sI u 82 47 (1 : Int32)) 82 48 (gI (sI u 82 47 (1 : Int32)) 82 13)) 82 49 (gI (sI (sI u 82 47 (1 : Int32)) 82 48 (gI (sI u 82 47 (1 : Int32)) 82 13)) 82 0)) 82 1)) 82 2)) 82 3)) 82 53 (gI (sI (sI (sI (sI (sI (sI u 82 47 (1 : Int32)) 82 48 (gI (sI u 82 47 (1 : Int32)) 82 13)) 82 49 (gI (sI (sI u 82 47 (1 : Int32)) 82 48 (gI (sI u 82 47 (1 : Int32)) 82 13)) 82 0)) 82 50 (gI (sI (sI (sI u 82 47 (1 : Int32)) 82 48 (gI (sI u 82 47 (1 : Int32)) 82 13)) 82 49 (gI (sI (sI u 82 47 (1 : Int32)) 82 48 (gI (sI u 82 47 (1 : Int32)) 82 13)) 82 0)) 82 1)) 82 51 (gI (sI (sI (sI (sI u 82 47 (1 : Int32)) 82 48 (gI (sI u 82 47 (1 : Int32)) 82 13)) 82 49 (gI (sI (sI u 82 47 (1 : Int32)) 82 48 (gI (sI u 82 47 (1 : Int32)) 82 13)) 82 0)) 82 50 (gI (sI (sI (sI u 82 47 (1 : Int32)) 82 48 (gI (sI u 82 47 (1 : Int32)) 82 13)) 82 49 (gI (sI (sI u 82 47 (1 : Int32)) 82 48 (gI (sI u 82 47 (1 : Int32)) 82 13)) 82 0)) 82 1)) 82 2)) 82 52 (gI (sI (sI (sI (sI (sI u 82 47 (1 : Int32)) 82 48 (gI (sI u 82 47 (1 : Int32)) 82 13)) 82 49 (gI (sI (sI u 82 47 (1 : Int32)) 82 48 (gI (sI u 82 47 (1 : Int32)) 82 13)) 82 0)) 82 50 (gI (sI (sI (sI u 82 47 (1 : Int32)) 82 48 (gI (sI u 82 47 (1 : Int32)) 82 13)) 82 49 (gI (sI (sI u 82 47 (1 : Int32)) 82 48 (gI (sI u 82 47 (1 : Int32)) 82 13)) 82 0)) 82 1)) 82 51 (gI (sI (sI (sI (sI u 82 47 (1 : Int32)) 82 48 (gI (sI u 82 47 (1 : Int32)) 82 13)) 82 49 (gI (sI (sI u 82 47 (1 : Int32)) 82 48 (gI (sI u 82 47 (1 : Int32)) 82 13)) 82 0)) 82 50 (gI (sI (sI (sI u 82 47 (1 : Int32)) 82 48 (gI (sI u 82 47 (1 : Int32)) 82 13)) 82 49 (gI (sI (sI u 82 47 (1 : Int32)) 82 48 (gI (sI u 82 47 (1 : Int32)) 82 13)) 82 0)) 82 1)) 82 2)) 82 3)) 82 4)) 82 54 (gI (sI (sI (sI (sI (sI (sI (sI u 82 47 (1 : Int32)) 82 48 (gI (sI u 82 47 (1 : Int32)) 82 13)) 82 49 (gI (sI (sI u 82 47 (1 : Int32)) 82 48 (gI (sI u 82 47 (1 : Int32)) 82 13)) 82 0)) 82 50 (gI (sI (sI (sI u 82 47 (1 : Int32)) 82 48 (gI (sI u 82 47 (1 : Int32)) 82 13)) 82 49 (gI (sI (sI u 82 47 (1 : Int32)) 82 48 (gI (sI u 82 47 (1 : Int32)) 82 13)) 82 0)) 82 1)) 82 51 (gI (sI (sI (sI (sI u 82 47 (1 : Int32)) 82 48 (gI (sI u 82 47 (1 : Int32)) 82 13)) 82 49 (gI (sI (sI u 82 47 (1 : Int32)) 82 48 (gI (sI u 82 47 (1 : Int32)) 82 13)) 82 0)) 82 50 (gI (sI (sI (sI u 82 47 (1 : Int32)) 82 48 (gI (sI u 82 47 (1 : Int32)) 82 13)) 82 49 (gI (sI (sI u 82 47 (1 : Int32)) 82 48 (gI (sI u 82 47 (1 : Int32)) 82 13)) 82 0)) 82 1)) 82 2)) 82 52 (gI (sI (sI (sI (sI (sI u 82 47 (1 : Int32)) 82 48 (gI (sI u 82 47 (1 : Int32)) 82 13)) 82 49 (gI (sI (sI u 82 47 (1 : Int32)) 82 48 (gI (sI u 82 47 (1 : Int32)) 82 13)) 82 0)) 82 50 (gI (sI (sI (sI u 82 47 (1 : Int32)) 82 48 (gI (sI u 82 47 (1 : Int32)) 82 13)) 82 49 (gI (sI (sI u 82 47 (1 : Int32)) 82 48 (gI (sI u 82 47 (1 : Int32)) 82 13)) 82 0)) 82 1)) 82 51 (gI (sI (sI (sI (sI u 82 47 (1 : Int32)) 82 48 (gI (sI u 82 47 (1 : Int32)) 82 13)) 82 49 (gI (sI (sI u 82 47 (1 : Int32)) 82 48 (gI (sI u 82 47 (1 : Int32)) 82 13)) 82 0)) 82 50 (gI (sI (sI (sI u 82 47 (1 : Int32)) 82 48 (gI (sI u 82 47 (1 : Int32)) 82 13)) 82 49 (gI (sI (sI u 82 47 (1 : Int32)) 82 48 (gI (sI u 82 47 (1 : Int32)) 82 13)) 82 0)) 82 1)) 82 2)) 82 3)) 82 53 (gI (sI (sI (sI (sI (sI (sI u 82 47 (1 : Int32)) 82 48 (gI (sI u 82 47 (1 : Int32)) 82 13)) 82 49 (gI (sI (sI u 82 47 (1 : Int32)) 82 48 (gI (sI u 82 47 (1 : Int32)) 82 13)) 82 0)) 82 50 (gI (sI (sI (sI u 82 47 (1 : Int32)) 82 48 (gI (sI u 82 47 (1 : Int32)) 82 13)) 82 49 (gI (sI (sI u 82 47 (1 : Int32)) 82 48 (gI (sI u 82 47 (1 : Int32)) 82 13)) 82 0)) 82 1)) 82 51 (gI (sI (sI (sI (sI u 82 47 (1 : Int32)) 82 48 (gI (sI u 82 47 (1 : Int32)) 82 13)) 82 49 (gI (sI (sI u 82 47 (1 : Int32)) 82 48 (gI (sI u 82 47 (1 : Int32)) 82 13)) 82 0)) 82 50 (gI (sI (sI (sI u 82 47 (1 : Int32)) 82 48 (gI (sI u 82 47 (1 : Int32)) 82 13)) 82 49 (gI (sI (sI u 82 47 (1 : Int32)) 82 48 (gI (sI u 82 47 (1 : Int32)) 82 13)) 82 0)) 82 1)) 82 2)) 82 52 (gI (sI (sI (sI (sI (sI u 82 47 (1 : Int32)) 82 48 (gI (sI u 82 47 (1 : Int32)) 82 13)) 82 49 (gI (sI (sI u 82 47 (1 : Int32)) 82 48 (gI (sI u 82 47 (1 : Int32)) 82 13)) 82 0)) 82 50 (gI (sI (sI (sI u 82 47 (1 : Int32)) 82 48 (gI (sI u 82 47 (1 : Int32)) 82 13)) 82 49 (gI (sI (sI u 82 47 (1 : Int32)) 82 48 (gI (sI u 82 47 (1 : Int32)) 82 13)) 82 0)) 82 1)) 82 51 (gI (sI (sI (sI (sI u 82 47 (1 : Int32)) 82 48 (gI (sI u 82 47 (1 : Int32)) 82 13)) 82 49 (gI (sI (sI u 82 47 (1 : Int32)) 82 48 (gI (sI u 82 47 (1 : Int32)) 82 13)) 82 0)) 82 50 (gI (sI (sI (sI u 82 47 (1 : Int32)) 82 48 (gI (sI u 82 47 (1 : Int32)) 82 13)) 82 49 (gI (sI (sI u 82 47 (1 : Int32)) 82 48 (gI (sI u 82 47 (1 : Int32)) 82 13)) 82 0)) 82 1)) 82 2)) 82 3)) 82 4)) 82 37)) 82 41)) 82 42)) _ _ ls hG (lv_sub hl [1, 0] rfl) hf
theorem dX8_undo_0 : decode cX8_undo 0 = .ok (.aload_n 0, 1) := by decide +kernel
theorem dX8_undo_1 : decode cX8_undo 1 = .ok (.getfield 153, 3) := by decide +kernel
theorem dX8_undo_4 : decode cX8_undo 4 = .ok (.ifCond .ne 6, 3) := by decide +kernel
theorem dX8_undo_7 : decode cX8_undo 7 = .ok (.bipush (-3), 2) := by decide +kernel
theorem dX8_undo_9 : decode cX8_undo 9 = .ok (.ireturn, 1) := by decide +kernel
theorem dX8_undo_10 : decode cX8_undo 10 = .ok (.aload_n 0, 1) := by decide +kernel
theorem dX8_undo_11 : decode cX8_undo 11 = .ok (.aload_n 0, 1) := by decide +kernel
theorem dX8_undo_12 : decode cX8_undo 12 = .ok (.getfield 157, 3) := by decide +kernel
theorem dX8_undo_15 : decode cX8_undo 15 = .ok (.putfield 50, 3) := by decide +kernel
theorem dX8_undo_18 : decode cX8_undo 18 = .ok (.aload_n 0, 1) := by decide +kernel
theorem dX8_undo_19 : decode cX8_undo 19 = .ok (.aload_n 0, 1) := by decide +kernel
theorem dX8_undo_20 : decode cX8_undo 20 = .ok (.getfield 160, 3) := by decide +kernel
theorem dX8_undo_23 : decode cX8_undo 23 = .ok (.putfield 7, 3) := by decide +kernel
theorem dX8_undo_26 : decode cX8_undo 26 = .ok (.aload_n 0, 1) := by decide +kernel
theorem dX8_undo_27 : decode cX8_undo 27 = .ok (.aload_n 0, 1) := by decide +kernel
theorem dX8_undo_28 : decode cX8_undo 28 = .ok (.getfield 163, 3) := by decide +kernel
theorem dX8_undo_31 : decode cX8_undo 31 = .ok (.putfield 13, 3) := by decide +kernel
theorem dX8_undo_34 : decode cX8_undo 34 = .ok (.aload_n 0, 1) := by decide +kernel
theorem dX8_undo_35 : decode cX8_undo 35 = .ok (.aload_n 0, 1) := by decide +kernel
theorem dX8_undo_36 : decode cX8_undo 36 = .ok (.getfield 166, 3) := by decide +kernel
theorem dX8_undo_39 : decode cX8_undo 39 = .ok (.putfield 16, 3) := by decide +kernel
theorem dX8_undo_42 : decode cX8_undo 42 = .ok (.aload_n 0, 1) := by decide +kernel
theorem dX8_undo_43 : decode cX8_undo 43 = .ok (.aload_n 0, 1) := by decide +kernel
theorem dX8_undo_44 : decode cX8_undo 44 = .ok (.getfield 169, 3) := by decide +kernel
theorem dX8_undo_47 : decode cX8_undo 47 = .ok (.putfield 19, 3) := by decide +kernel
theorem dX8_undo_50 : decode cX8_undo 50 = .ok (.aload_n 0, 1) := by decide +kernel
theorem dX8_undo_51 : decode cX8_undo 51 = .ok (.aload_n 0, 1) := by decide +kernel
theorem dX8_undo_52 : decode cX8_undo 52 = .ok (.getfield 172, 3) := by decide +kernel
theorem dX8_undo_55 : decode cX8_undo 55 = .ok (.putfield 22, 3) := by decide +kernel
theorem dX8_undo_58 : decode cX8_undo 58 = .ok (.aload_n 0, 1) := by decide +kernel
theorem dX8_undo_59 : decode cX8_undo 59 = .ok (.aload_n 0, 1) := by decide +kernel
theorem dX8_undo_60 : decode cX8_undo 60 = .ok (.getfield 175, 3) := by decide +kernel
theorem dX8_undo_63 : decode cX8_undo 63 = .ok (.putfield 123, 3) := by decide +kernel
theorem dX8_undo_66 : decode cX8_undo 66 = .ok (.aload_n 0, 1) := by decide +kernel
theorem dX8_undo_67 : decode cX8_undo 67 = .ok (.aload_n 0, 1) := by decide +kernel
theorem dX8_undo_68 : decode cX8_undo 68 = .ok (.getfield 178, 3) := by decide +kernel
theorem dX8_undo_71 : decode cX8_undo 71 = .ok (.putfield 135, 3) := by decide +kernel
theorem dX8_undo_74 : decode cX8_undo 74 = .ok (.aload_n 0, 1) := by decide +kernel
theorem dX8_undo_75 : decode cX8_undo 75 = .ok (.aload_n 0, 1) := by decide +kernel
theorem dX8_undo_76 : decode cX8_undo 76 = .ok (.getfield 181, 3) := by decide +kernel
theorem dX8_undo_79 : decode cX8_undo 79 = .ok (.putfield 138, 3) := by decide +kernel
theorem dX8_undo_82 : decode cX8_undo 82 = .ok (.iconst 0, 1) := by decide +kernel
theorem dX8_undo_83 : decode cX8_undo 83 = .ok (.istore_n 1, 1) := by decide +kernel
theorem dX8_undo_84 : decode cX8_undo 84 = .ok (.iload_n 1, 1) := by decide +kernel
theorem dX8_undo_85 : decode cX8_undo 85 = .ok (.bipush 6, 2) := by decide +kernel
theorem dX8_undo_87 : decode cX8_undo 87 = .ok (.if_icmp .ge 57, 3) := by decide +kernel
theorem dX8_undo_90 : decode cX8_undo 90 = .ok (.aload_n 0, 1) := by decide +kernel
theorem dX8_undo_91 : decode cX8_undo 91 = .ok (.getfield 25, 3) := by decide +kernel
theorem dX8_undo_94 : decode cX8_undo 94 = .ok (.iload_n 1, 1) := by decide +kernel
theorem dX8_undo_95 : decode cX8_undo 95 = .ok (.aload_n 0, 1) := by decide +kernel
theorem dX8_undo_96 : decode cX8_undo 96 = .ok (.getfield 184, 3) := by decide +kernel
theorem dX8_undo_99 : decode cX8_undo 99 = .ok (.iload_n 1, 1) := by decide +kernel
theorem dX8_undo_100 : decode cX8_undo 100 = .ok (.iaload, 1) := by decide +kernel
theorem dX8_undo_101 : decode cX8_undo 101 = .ok (.iastore, 1) := by decide +kernel
theorem dX8_undo_102 : decode cX8_undo 102 = .ok (.aload_n 0, 1) := by decide +kernel
theorem dX8_undo_103 : decode cX8_undo 103 = .ok (.getfield 29, 3) := by decide +kernel
theorem dX8_undo_106 : decode cX8_undo 106 = .ok (.iload_n 1, 1) := by decide +kernel
theorem dX8_undo_107 : decode cX8_undo 107 = .ok (.aload_n 0, 1) := by decide +kernel
theorem dX8_undo_108 : decode cX8_undo 108 = .ok (.getfield 187, 3) := by decide +kernel
theorem dX8_undo_111 : decode cX8_undo 111 = .ok (.iload_n 1, 1) := by decide +kernel
theorem dX8_undo_112 : decode cX8_undo 112 = .ok (.iaload, 1) := by decide +kernel
theorem dX8_undo_113 : decode cX8_undo 113 = .ok (.iastore, 1) := by decide +kernel
theorem dX8_undo_114 : decode cX8_undo 114 = .ok (.aload_n 0, 1) := by decide +kernel
theorem dX8_undo_115 : decode cX8_undo 115 = .ok (.getfield 32, 3) := by decide +kernel
theorem dX8_undo_118 : decode cX8_undo 118 = .ok (.iload_n 1, 1) := by decide +kernel
theorem dX8_undo_119 : decode cX8_undo 119 = .ok (.aload_n 0, 1) := by decide +kernel
theorem dX8_undo_120 : decode cX8_undo 120 = .ok (.getfield 190, 3) := by decide +kernel
theorem dX8_undo_123 : decode cX8_undo 123 = .ok (.iload_n 1, 1) := by decide +kernel
theorem dX8_undo_124 : decode cX8_undo 124 = .ok (.iaload, 1) := by decide +kernel
theorem dX8_undo_125 : decode cX8_undo 125 = .ok (.iastore, 1) := by decide +kernel
theorem dX8_undo_126 : decode cX8_undo 126 = .ok (.aload_n 0, 1) := by decide +kernel
theorem dX8_undo_127 : decode cX8_undo 127 = .ok (.getfield 35, 3) := by decide +kernel
theorem dX8_undo_130 : decode cX8_undo 130 = .ok (.iload_n 1, 1) := by decide +kernel
theorem dX8_undo_131 : decode cX8_undo 131 = .ok (.aload_n 0, 1) := by decide +kernel
theorem dX8_undo_132 : decode cX8_undo 132 = .ok (.getfield 193, 3) := by decide +kernel
theorem dX8_undo_135 : decode cX8_undo 135 = .ok (.iload_n 1, 1) := by decide +kernel
theorem dX8_undo_136 : decode cX8_undo 136 = .ok (.iaload, 1) := by decide +kernel
theorem dX8_undo_137 : decode cX8_undo 137 = .ok (.iastore, 1) := by decide +kernel
theorem dX8_undo_138 : decode cX8_undo 138 = .ok (.iinc 1 1, 3) := by decide +kernel
theorem dX8_undo_141 : decode cX8_undo 141 = .ok (.goto (-57), 3) := by decide +kernel
theorem dX8_undo_144 : decode cX8_undo 144 = .ok (.iconst 0, 1) := by decide +kernel
theorem dX8_undo_145 : decode cX8_undo 145 = .ok (.istore_n 1, 1) := by decide +kernel
theorem dX8_undo_146 : decode cX8_undo 146 = .ok (.iload_n 1, 1) := by decide +kernel
theorem dX8_undo_147 : decode cX8_undo 147 = .ok (.bipush 24, 2) := by decide +kernel
theorem dX8_undo_149 : decode cX8_undo 149 = .ok (.if_icmp .ge 21, 3) := by decide +kernel
theorem dX8_undo_152 : decode cX8_undo 152 = .ok (.aload_n 0, 1) := by decide +kernel
theorem dX8_undo_153 : decode cX8_undo 153 = .ok (.getfield 38, 3) := by decide +kernel
theorem dX8_undo_156 : decode cX8_undo 156 = .ok (.iload_n 1, 1) := by decide +kernel
theorem dX8_undo_157 : decode cX8_undo 157 = .ok (.aload_n 0, 1) := by decide +kernel
theorem dX8_undo_158 : decode cX8_undo 158 = .ok (.getfield 196, 3) := by decide +kernel
theorem dX8_undo_161 : decode cX8_undo 161 = .ok (.iload_n 1, 1) := by decide +kernel
theorem dX8_undo_162 : decode cX8_undo 162 = .ok (.iaload, 1) := by decide +kernel
theorem dX8_undo_163 : decode cX8_undo 163 = .ok (.iastore, 1) := by decide +kernel
theorem dX8_undo_164 : decode cX8_undo 164 = .ok (.iinc 1 1, 3) := by decide +kernel
theorem dX8_undo_167 : decode cX8_undo 167 = .ok (.goto (-21), 3) := by decide +kernel
theorem dX8_undo_170 : decode cX8_undo 170 = .ok (.iconst 0, 1) := by decide +kernel
theorem dX8_undo_171 : decode cX8_undo 171 = .ok (.istore_n 1, 1) := by decide +kernel
theorem dX8_undo_172 : decode cX8_undo 172 = .ok (.iload_n 1, 1) := by decide +kernel
theorem dX8_undo_173 : decode cX8_undo 173 = .ok (.iconst 5, 1) := by decide +kernel
theorem dX8_undo_174 : decode cX8_undo 174 = .ok (.if_icmp .ge 45, 3) := by decide +kernel
theorem dX8_undo_177 : decode cX8_undo 177 = .ok (.aload_n 0, 1) := by decide +kernel
theorem dX8_undo_178 : decode cX8_undo 178 = .ok (.getfield 126, 3) := by decide +kernel
theorem dX8_undo_181 : decode cX8_undo 181 = .ok (.iload_n 1, 1) := by decide +kernel
theorem dX8_undo_182 : decode cX8_undo 182 = .ok (.aload_n 0, 1) := by decide +kernel
theorem dX8_undo_183 : decode cX8_undo 183 = .ok (.getfield 205, 3) := by decide +kernel
theorem dX8_undo_186 : decode cX8_undo 186 = .ok (.iload_n 1, 1) := by decide +kernel
theorem dX8_undo_187 : decode cX8_undo 187 = .ok (.iaload, 1) := by decide +kernel
theorem dX8_undo_188 : decode cX8_undo 188 = .ok (.iastore, 1) := by decide +kernel
theorem dX8_undo_189 : decode cX8_undo 189 = .ok (.aload_n 0, 1) := by decide +kernel
theorem dX8_undo_190 : decode cX8_undo 190 = .ok (.getfield 129, 3) := by decide +kernel
theorem dX8_undo_193 : decode cX8_undo 193 = .ok (.iload_n 1, 1) := by decide +kernel
theorem dX8_undo_194 : decode cX8_undo 194 = .ok (.aload_n 0, 1) := by decide +kernel
theorem dX8_undo_195 : decode cX8_undo 195 = .ok (.getfield 208, 3) := by decide +kernel
theorem dX8_undo_198 : decode cX8_undo 198 = .ok (.iload_n 1, 1) := by decide +kernel
theorem dX8_undo_199 : decode cX8_undo 199 = .ok (.iaload, 1) := by decide +kernel
theorem dX8_undo_200 : decode cX8_undo 200 = .ok (.iastore, 1) := by decide +kernel
theorem dX8_undo_201 : decode cX8_undo 201 = .ok (.aload_n 0, 1) := by decide +kernel
theorem dX8_undo_202 : decode cX8_undo 202 = .ok (.getfield 132, 3) := by decide +kernel
theorem dX8_undo_205 : decode cX8_undo 205 = .ok (.iload_n 1, 1) := by decide +kernel
theorem dX8_undo_206 : decode cX8_undo 206 = .ok (.aload_n 0, 1) := by decide +kernel
theorem dX8_undo_207 : decode cX8_undo 207 = .ok (.getfield 211, 3) := by decide +kernel
theorem dX8_undo_210 : decode cX8_undo 210 = .ok (.iload_n 1, 1) := by decide +kernel
theorem dX8_undo_211 : decode cX8_undo 211 = .ok (.iaload, 1) := by decide +kernel
theorem dX8_undo_212 : decode cX8_undo 212 = .ok (.iastore, 1) := by decide +kernel
theorem dX8_undo_213 : decode cX8_undo 213 = .ok (.iinc 1 1, 3) := by decide +kernel
theorem dX8_undo_216 : decode cX8_undo 216 = .ok (.goto (-44), 3) := by decide +kernel
theorem dX8_undo_219 : decode cX8_undo 219 = .ok (.iconst 0, 1) := by decide +kernel
theorem dX8_undo_220 : decode cX8_undo 220 = .ok (.istore_n 1, 1) := by decide +kernel
theorem dX8_undo_221 : decode cX8_undo 221 = .ok (.iload_n 1, 1) := by decide +kernel
theorem dX8_undo_222 : decode cX8_undo 222 = .ok (.bipush 10, 2) := by decide +kernel
theorem dX8_undo_224 : decode cX8_undo 224 = .ok (.if_icmp .ge 33, 3) := by decide +kernel
theorem dX8_undo_227 : decode cX8_undo 227 = .ok (.aload_n 0, 1) := by decide +kernel
theorem dX8_undo_228 : decode cX8_undo 228 = .ok (.getfield 141, 3) := by decide +kernel
theorem dX8_undo_231 : decode cX8_undo 231 = .ok (.iload_n 1, 1) := by decide +kernel
theorem dX8_undo_232 : decode cX8_undo 232 = .ok (.aload_n 0, 1) := by decide +kernel
theorem dX8_undo_233 : decode cX8_undo 233 = .ok (.getfield 214, 3) := by decide +kernel
theorem dX8_undo_236 : decode cX8_undo 236 = .ok (.iload_n 1, 1) := by decide +kernel
theorem dX8_undo_237 : decode cX8_undo 237 = .ok (.iaload, 1) := by decide +kernel
theorem dX8_undo_238 : decode cX8_undo 238 = .ok (.iastore, 1) := by decide +kernel
theorem dX8_undo_239 : decode cX8_undo 239 = .ok (.aload_n 0, 1) := by decide +kernel
theorem dX8_undo_240 : decode cX8_undo 240 = .ok (.getfield 144, 3) := by decide +kernel
theorem dX8_undo_243 : decode cX8_undo 243 = .ok (.iload_n 1, 1) := by decide +kernel
theorem dX8_undo_244 : decode cX8_undo 244 = .ok (.aload_n 0, 1) := by decide +kernel
theorem dX8_undo_245 : decode cX8_undo 245 = .ok (.getfield 217, 3) := by decide +kernel
theorem dX8_undo_248 : decode cX8_undo 248 = .ok (.iload_n 1, 1) := by decide +kernel
theorem dX8_undo_249 : decode cX8_undo 249 = .ok (.iaload, 1) := by decide +kernel
theorem dX8_undo_250 : decode cX8_undo 250 = .ok (.iastore, 1) := by decide +kernel
theorem dX8_undo_251 : decode cX8_undo 251 = .ok (.iinc 1 1, 3) := by decide +kernel
theorem dX8_undo_254 : decode cX8_undo 254 = .ok (.goto (-33), 3) := by decide +kernel
theorem dX8_undo_257 : decode cX8_undo 257 = .ok (.iconst 0, 1) := by decide +kernel
theorem dX8_undo_258 : decode cX8_undo 258 = .ok (.istore_n 1, 1) := by decide +kernel
theorem dX8_undo_259 : decode cX8_undo 259 = .ok (.iload_n 1, 1) := by decide +kernel
theorem dX8_undo_260 : decode cX8_undo 260 = .ok (.bipush 8, 2) := by decide +kernel
theorem dX8_undo_262 : decode cX8_undo 262 = .ok (.if_icmp .ge 57, 3) := by decide +kernel
theorem dX8_undo_265 : decode cX8_undo 265 = .ok (.aload_n 0, 1) := by decide +kernel
theorem dX8_undo_266 : decode cX8_undo 266 = .ok (.getfield 44, 3) := by decide +kernel
theorem dX8_undo_269 : decode cX8_undo 269 = .ok (.iload_n 1, 1) := by decide +kernel
theorem dX8_undo_270 : decode cX8_undo 270 = .ok (.aload_n 0, 1) := by decide +kernel
theorem dX8_undo_271 : decode cX8_undo 271 = .ok (.getfield 199, 3) := by decide +kernel
theorem dX8_undo_274 : decode cX8_undo 274 = .ok (.iload_n 1, 1) := by decide +kernel
theorem dX8_undo_275 : decode cX8_undo 275 = .ok (.iaload, 1) := by decide +kernel
theorem dX8_undo_276 : decode cX8_undo 276 = .ok (.iastore, 1) := by decide +kernel
theorem dX8_undo_277 : decode cX8_undo 277 = .ok (.aload_n 0, 1) := by decide +kernel
theorem dX8_undo_278 : decode cX8_undo 278 = .ok (.getfield 41, 3) := by decide +kernel
theorem dX8_undo_281 : decode cX8_undo 281 = .ok (.iload_n 1, 1) := by decide +kernel
theorem dX8_undo_282 : decode cX8_undo 282 = .ok (.aload_n 0, 1) := by decide +kernel
theorem dX8_undo_283 : decode cX8_undo 283 = .ok (.getfield 202, 3) := by decide +kernel
theorem dX8_undo_286 : decode cX8_undo 286 = .ok (.iload_n 1, 1) := by decide +kernel
theorem dX8_undo_287 : decode cX8_undo 287 = .ok (.iaload, 1) := by decide +kernel
theorem dX8_undo_288 : decode cX8_undo 288 = .ok (.iastore, 1) := by decide +kernel
theorem dX8_undo_289 : decode cX8_undo 289 = .ok (.aload_n 0, 1) := by decide +kernel
theorem dX8_undo_290 : decode cX8_undo 290 = .ok (.getfield 147, 3) := by decide +kernel
theorem dX8_undo_293 : decode cX8_undo 293 = .ok (.iload_n 1, 1) := by decide +kernel
theorem dX8_undo_294 : decode cX8_undo 294 = .ok (.aload_n 0, 1) := by decide +kernel
theorem dX8_undo_295 : decode cX8_undo 295 = .ok (.getfield 220, 3) := by decide +kernel
theorem dX8_undo_298 : decode cX8_undo 298 = .ok (.iload_n 1, 1) := by decide +kernel
theorem dX8_undo_299 : decode cX8_undo 299 = .ok (.iaload, 1) := by decide +kernel
theorem dX8_undo_300 : decode cX8_undo 300 = .ok (.iastore, 1) := by decide +kernel
theorem dX8_undo_301 : decode cX8_undo 301 = .ok (.aload_n 0, 1) := by decide +kernel
theorem dX8_undo_302 : decode cX8_undo 302 = .ok (.getfield 150, 3) := by decide +kernel
theorem dX8_undo_305 : decode cX8_undo 305 = .ok (.iload_n 1, 1) := by decide +kernel
theorem dX8_undo_306 : decode cX8_undo 306 = .ok (.aload_n 0, 1) := by decide +kernel
theorem dX8_undo_307 : decode cX8_undo 307 = .ok (.getfield 223, 3) := by decide +kernel
theorem dX8_undo_310 : decode cX8_undo 310 = .ok (.iload_n 1, 1) := by decide +kernel
theorem dX8_undo_311 : decode cX8_undo 311 = .ok (.iaload, 1) := by decide +kernel
theorem dX8_undo_312 : decode cX8_undo 312 = .ok (.iastore, 1) := by decide +kernel
theorem dX8_undo_313 : decode cX8_undo 313 = .ok (.iinc 1 1, 3) := by decide +kernel
theorem dX8_undo_316 : decode cX8_undo 316 = .ok (.goto (-57), 3) := by decide +kernel
theorem dX8_undo_319 : decode cX8_undo 319 = .ok (.aload_n 0, 1) := by decide +kernel
theorem dX8_undo_320 : decode cX8_undo 320 = .ok (.getfield 7, 3) := by decide +kernel
theorem dX8_undo_323 : decode cX8_undo 323 = .ok (.ireturn, 1) := by decide +kernel
def f_X8_undo_L259 (x1_10 : Int32) (u10 : Mem) : Option ((Int32 × Mem) ⊕ ((Int32 × Mem) ⊕ ((Int32 × Mem) ⊕ ((Int32 × Mem) ⊕ ((Int32 × Mem) ⊕ (Int32 × Mem)))))) := (if (8 : Int32) ≤ x1_10 then some (Sum.inr (Sum.inr (Sum.inr (Sum.inr (Sum.inr (gI u10 82 0, u10)))))) else gin x1_10 8 (gin x1_10 8 (gin x1_10 8 (gin x1_10 8 (gin x1_10 8 (gin x1_10 8 (gin x1_10 8 (gin x1_10 8 (some (Sum.inl (x1_10 + (1 : Int32), sA (sA (sA (sA u10 89 x1_10.toNatClampNeg (gA u10 115 x1_10.toNatClampNeg)) 88 x1_10.toNatClampNeg (gA (sA u10 89 x1_10.toNatClampNeg (gA u10 115 x1_10.toNatClampNeg)) 116 x1_10.toNatClampNeg)) 108 x1_10.toNatClampNeg (gA (sA (sA u10 89 x1_10.toNatClampNeg (gA u10 115 x1_10.toNatClampNeg)) 88 x1_10.toNatClampNeg (gA (sA u10 89 x1_10.toNatClampNeg (gA u10 115 x1_10.toNatClampNeg)) 116 x1_10.toNatClampNeg)) 122 x1_10.toNatClampNeg)) 109 x1_10.toNatClampNeg (gA (sA (sA (sA u10 89 x1_10.toNatClampNeg (gA u10 115 x1_10.toNatClampNeg)) 88 x1_10.toNatClampNeg (gA (sA u10 89 x1_10.toNatClampNeg (gA u10 115 x1_10.toNatClampNeg)) 116 x1_10.toNatClampNeg)) 108 x1_10.toNatClampNeg (gA (sA (sA u10 89 x1_10.toNatClampNeg (gA u10 115 x1_10.toNatClampNeg)) 88 x1_10.toNatClampNeg (gA (sA u10 89 x1_10.toNatClampNeg (gA u10 115 x1_10.toNatClampNeg)) 116 x1_10.toNatClampNeg)) 122 x1_10.toNatClampNeg)) 123 x1_10.toNatClampNeg))))))))))))
def f_X8_undo_L221 (x1_8 : Int32) (u8 : Mem) : Option ((Int32 × Mem) ⊕ ((Int32 × Mem) ⊕ ((Int32 × Mem) ⊕ ((Int32 × Mem) ⊕ (Int32 × Mem))))) := (if (10 : Int32) ≤ x1_8 then whileO (fun s => f_X8_undo_L259 s.1 s.2) FUEL ((0 : Int32), u8) else gin x1_8 10 (gin x1_8 10 (gin x1_8 10 (gin x1_8 10 (some (Sum.inl (x1_8 + (1 : Int32), sA (sA u8 106 x1_8.toNatClampNeg (gA u8 120 x1_8.toNatClampNeg)) 107 x1_8.toNatClampNeg (gA (sA u8 106 x1_8.toNatClampNeg (gA u8 120 x1_8.toNatClampNeg)) 121 x1_8.toNatClampNeg))))))))
def f_X8_undo_L172 (x1_6 : Int32) (u6 : Mem) : Option ((Int32 × Mem) ⊕ ((Int32 × Mem) ⊕ ((Int32 × Mem) ⊕ (Int32 × Mem)))) := (if (5 : Int32) ≤ x1_6 then whileO (fun s => f_X8_undo_L221 s.1 s.2) FUEL ((0 : Int32), u6) else gin x1_6 5 (gin x1_6 5 (gin x1_6 5 (gin x1_6 5 (gin x1_6 5 (gin x1_6 5 (some (Sum.inl (x1_6 + (1 : Int32), sA (sA (sA u6 103 x1_6.toNatClampNeg (gA u6 117 x1_6.toNatClampNeg)) 104 x1_6.toNatClampNeg (gA (sA u6 103 x1_6.toNatClampNeg (gA u6 117 x1_6.toNatClampNeg)) 118 x1_6.toNatClampNeg)) 105 x1_6.toNatClampNeg (gA (sA (sA u6 103 x1_6.toNatClampNeg (gA u6 117 x1_6.toNatClampNeg)) 104 x1_6.toNatClampNeg (gA (sA u6 103 x1_6.toNatClampNeg (gA u6 117 x1_6.toNatClampNeg)) 118 x1_6.toNatClampNeg)) 119 x1_6.toNatClampNeg))))))))))
def f_X8_undo_L146 (x1_4 : Int32) (u4 : Mem) : Option ((Int32 × Mem) ⊕ ((Int32 × Mem) ⊕ (Int32 × Mem))) := (if (24 : Int32) ≤ x1_4 then whileO (fun s => f_X8_undo_L172 s.1 s.2) FUEL ((0 : Int32), u4) else gin x1_4 24 (gin x1_4 24 (some (Sum.inl (x1_4 + (1 : Int32), sA u4 87 x1_4.toNatClampNeg (gA u4 114 x1_4.toNatClampNeg))))))
def f_X8_undo_L84 (x1_2 : Int32) (u2 : Mem) : Option ((Int32 × Mem) ⊕ (Int32 × Mem)) := (if (6 : Int32) ≤ x1_2 then whileO (fun s => f_X8_undo_L146 s.1 s.2) FUEL ((0 : Int32), u2) else gin x1_2 6 (gin x1_2 6 (gin x1_2 6 (gin x1_2 6 (gin x1_2 6 (gin x1_2 6 (gin x1_2 6 (gin x1_2 6 (some (Sum.inl (x1_2 + (1 : Int32), sA (sA (sA (sA u2 83 x1_2.toNatClampNeg (gA u2 110 x1_2.toNatClampNeg)) 84 x1_2.toNatClampNeg (gA (sA u2 83 x1_2.toNatClampNeg (gA u2 110 x1_2.toNatClampNeg)) 111 x1_2.toNatClampNeg)) 85 x1_2.toNatClampNeg (gA (sA (sA u2 83 x1_2.toNatClampNeg (gA u2 110 x1_2.toNatClampNeg)) 84 x1_2.toNatClampNeg (gA (sA u2 83 x1_2.toNatClampNeg (gA u2 110 x1_2.toNatClampNeg)) 111 x1_2.toNatClampNeg)) 112 x1_2.toNatClampNeg)) 86 x1_2.toNatClampNeg (gA (sA (sA (sA u2 83 x1_2.toNatClampNeg (gA u2 110 x1_2.toNatClampNeg)) 84 x1_2.toNatClampNeg (gA (sA u2 83 x1_2.toNatClampNeg (gA u2 110 x1_2.toNatClampNeg)) 111 x1_2.toNatClampNeg)) 85 x1_2.toNatClampNeg (gA (sA (sA u2 83 x1_2.toNatClampNeg (gA u2 110 x1_2.toNatClampNeg)) 84 x1_2.toNatClampNeg (gA (sA u2 83 x1_2.toNatClampNeg (gA u2 110 x1_2.toNatClampNeg)) 111 x1_2.toNatClampNeg)) 112 x1_2.toNatClampNeg)) 113 x1_2.toNatClampNeg))))))))))))
def f_X8_undo (u : Mem) : Option (Int32 × Mem) := (if (gI u 82 47) = 0 then some ((-3 : Int32), u) else whileO (fun s => f_X8_undo_L84 s.1 s.2) FUEL ((0 : Int32), sI (sI (sI (sI (sI (sI (sI (sI (sI u 82 13 (gI u 82 48)) 82 0 (gI (sI u 82 13 (gI u 82 48)) 82 49)) 82 1 (gI (sI (sI u 82 13 (gI u 82 48)) 82 0 (gI (sI u 82 13 (gI u 82 48)) 82 49)) 82 50)) 82 2 (gI (sI (sI (sI u 82 13 (gI u 82 48)) 82 0 (gI (sI u 82 13 (gI u 82 48)) 82 49)) 82 1 (gI (sI (sI u 82 13 (gI u 82 48)) 82 0 (gI (sI u 82 13 (gI u 82 48)) 82 49)) 82 50)) 82 51)) 82 3 (gI (sI (sI (sI (sI u 82 13 (gI u 82 48)) 82 0 (gI (sI u 82 13 (gI u 82 48)) 82 49)) 82 1 (gI (sI (sI u 82 13 (gI u 82 48)) 82 0 (gI (sI u 82 13 (gI u 82 48)) 82 49)) 82 50)) 82 2 (gI (sI (sI (sI u 82 13 (gI u 82 48)) 82 0 (gI (sI u 82 13 (gI u 82 48)) 82 49)) 82 1 (gI (sI (sI u 82 13 (gI u 82 48)) 82 0 (gI (sI u 82 13 (gI u 82 48)) 82 49)) 82 50)) 82 51)) 82 52)) 82 4 (gI (sI (sI (sI (sI (sI u 82 13 (gI u 82 48)) 82 0 (gI (sI u 82 13 (gI u 82 48)) 82 49)) 82 1 (gI (sI (sI u 82 13 (gI u 82 48)) 82 0 (gI (sI u 82 13 (gI u 82 48)) 82 49)) 82 50)) 82 2 (gI (sI (sI (sI u 82 13 (gI u 82 48)) 82 0 (gI (sI u 82 13 (gI u 82 48)) 82 49)) 82 1 (gI (sI (sI u 82 13 (gI u 82 48)) 82 0 (gI (sI u 82 13 (gI u 82 48)) 82 49)) 82 50)) 82 51)) 82 3 (gI (sI (sI (sI (sI u 82 13 (gI u 82 48)) 82 0 (gI (sI u 82 13 (gI u 82 48)) 82 49)) 82 1 (gI (sI (sI u 82 13 (gI u 82 48)) 82 0 (gI (sI u 82 13 (gI u 82 48)) 82 49)) 82 50)) 82 2 (gI (sI (sI (sI u 82 13 (gI u 82 48)) 82 0 (gI (sI u 82 13 (gI u 82 48)) 82 49)) 82 1 (gI (sI (sI u 82 13 (gI u 82 48)) 82 0 (gI (sI u 82 13 (gI u 82 48)) 82 49)) 82 50)) 82 51)) 82 52)) 82 53)) 82 37 (gI (sI (sI (sI (sI (sI (sI u 82 13 (gI u 82 48)) 82 0 (gI (sI u 82 13 (gI u 82 48)) 82 49)) 82 1 (gI (sI (sI u 82 13 (gI u 82 48)) 82 0 (gI (sI u 82 13 (gI u 82 48)) 82 49)) 82 50)) 82 2 (gI (sI (sI (sI u 82 13 (gI u 82 48)) 82 0 (gI (sI u 82 13 (gI u 82 48)) 82 49)) 82 1 (gI (sI (sI u 82 13 (gI u 82 48)) 82 0 (gI (sI u 82 13 (gI u 82 48)) 82 49)) 82 50)) 82 51)) 82 3 (gI (sI (sI (sI (sI u 82 13 (gI u 82 48)) 82 0 (gI (sI u 82 13 (gI u 82 48)) 82 49)) 82 1 (gI (sI (sI u 82 13 (gI u 82 48)) 82 0 (gI (sI u 82 13 (gI u 82 48)) 82 49)) 82 50)) 82 2 (gI (sI (sI (sI u 82 13 (gI u 82 48)) 82 0 (gI (sI u 82 13 (gI u 82 48)) 82 49)) 82 1 (gI (sI (sI u 82 13 (gI u 82 48)) 82 0 (gI (sI u 82 13 (gI u 82 48)) 82 49)) 82 50)) 82 51)) 82 52)) 82 4 (gI (sI (sI (sI (sI (sI u 82 13 (gI u 82 48)) 82 0 (gI (sI u 82 13 (gI u 82 48)) 82 49)) 82 1 (gI (sI (sI u 82 13 (gI u 82 48)) 82 0 (gI (sI u 82 13 (gI u 82 48)) 82 49)) 82 50)) 82 2 (gI (sI (sI (sI u 82 13 (gI u 82 48)) 82 0 (gI (sI u 82 13 (gI u 82 48)) 82 49)) 82 1 (gI (sI (sI u 82 13 (gI u 82 48)) 82 0 (gI (sI u 82 13 (gI u 82 48)) 82 49)) 82 50)) 82 51)) 82 3 (gI (sI (sI (sI (sI u 82 13 (gI u 82 48)) 82 0 (gI (sI u 82 13 (gI u 82 48)) 82 49)) 82 1 (gI (sI (sI u 82 13 (gI u 82 48)) 82 0 (gI (sI u 82 13 (gI u 82 48)) 82 49)) 82 50)) 82 2 (gI (sI (sI (sI u 82 13 (gI u 82 48)) 82 0 (gI (sI u 82 13 (gI u 82 48)) 82 49)) 82 1 (gI (sI (sI u 82 13 (gI u 82 48)) 82 0 (gI (sI u 82 13 (gI u 82 48)) 82 49)) 82 50)) 82 51)) 82 52)) 82 53)) 82 54)) 82 41 (gI (sI (sI (sI (sI (sI (sI (sI u 82 13 (gI u 82 48)) 82 0 (gI (sI u 82 13 (gI u 82 48)) 82 49)) 82 1 (gI (sI (sI u 82 13 (gI u 82 48)) 82 0 (gI (sI u 82 13 (gI u 82 48)) 82 49)) 82 50)) 82 2 (gI (sI (sI (sI u 82 13 (gI u 82 48)) 82 0 (gI (sI u 82 13 (gI u 82 48)) 82 49)) 82 1 (gI (sI (sI u 82 13 (gI u 82 48)) 82 0 (gI (sI u 82 13 (gI u 82 48)) 82 49)) 82 50)) 82 51)) 82 3 (gI (sI (sI (sI (sI u 82 13 (gI u 82 48)) 82 0 (gI (sI u 82 13 (gI u 82 48)) 82 49)) 82 1 (gI (sI (sI u 82 13 (gI u 82 48)) 82 0 (gI (sI u 82 13 (gI u 82 48)) 82 49)) 82 50)) 82 2 (gI (sI (sI (sI u 82 13 (gI u 82 48)) 82 0 (gI (sI u 82 13 (gI u 82 48)) 82 49)) 82 1 (gI (sI (sI u 82 13 (gI u 82 48)) 82 0 (gI (sI u 82 13 (gI u 82 48)) 82 49)) 82 50)) 82 51)) 82 52)) 82 4 (gI (sI (sI (sI (sI (sI u 82 13 (gI u 82 48)) 82 0 (gI (sI u 82 13 (gI u 82 48)) 82 49)) 82 1 (gI (sI (sI u 82 13 (gI u 82 48)) 82 0 (gI (sI u 82 13 (gI u 82 48)) 82 49)) 82 50)) 82 2 (gI (sI (sI (sI u 82 13 (gI u 82 48)) 82 0 (gI (sI u 82 13 (gI u 82 48)) 82 49)) 82 1 (gI (sI (sI u 82 13 (gI u 82 48)) 82 0 (gI (sI u 82 13 (gI u 82 48)) 82 49)) 82 50)) 82 51)) 82 3 (gI (sI (sI (sI (sI u 82 13 (gI u 82 48)) 82 0 (gI (sI u 82 13 (gI u 82 48)) 82 49)) 82 1 (gI (sI (sI u 82 13 (gI u 82 48)) 82 0 (gI (sI u 82 13 (gI u 82 48)) 82 49)) 82 50)) 82 2 (gI (sI (sI (sI u 82 13 (gI u 82 48)) 82 0 (gI (sI u 82 13 (gI u 82 48)) 82 49)) 82 1 (gI (sI (sI u 82 13 (gI u 82 48)) 82 0 (gI (sI u 82 13 (gI u 82 48)) 82 49)) 82 50)) 82 51)) 82 52)) 82 53)) 82 37 (gI (sI (sI (sI (sI (sI (sI u 82 13 (gI u 82 48)) 82 0 (gI (sI u 82 13 (gI u 82 48)) 82 49)) 82 1 (gI (sI (sI u 82 13 (gI u 82 48)) 82 0 (gI (sI u 82 13 (gI u 82 48)) 82 49)) 82 50)) 82 2 (gI (sI (sI (sI u 82 13 (gI u 82 48)) 82 0 (gI (sI u 82 13 (gI u 82 48)) 82 49)) 82 1 (gI (sI (sI u 82 13 (gI u 82 48)) 82 0 (gI (sI u 82 13 (gI u 82 48)) 82 49)) 82 50)) 82 51)) 82 3 (gI (sI (sI (sI (sI u 82 13 (gI u 82 48)) 82 0 (gI (sI u 82 13 (gI u 82 48)) 82 49)) 82 1 (gI (sI (sI u 82 13 (gI u 82 48)) 82 0 (gI (sI u 82 13 (gI u 82 48)) 82 49)) 82 50)) 82 2 (gI (sI (sI (sI u 82 13 (gI u 82 48)) 82 0 (gI (sI u 82 13 (gI u 82 48)) 82 49)) 82 1 (gI (sI (sI u 82 13 (gI u 82 48)) 82 0 (gI (sI u 82 13 (gI u 82 48)) 82 49)) 82 50)) 82 51)) 82 52)) 82 4 (gI (sI (sI (sI (sI (sI u 82 13 (gI u 82 48)) 82 0 (gI (sI u 82 13 (gI u 82 48)) 82 49)) 82 1 (gI (sI (sI u 82 13 (gI u 82 48)) 82 0 (gI (sI u 82 13 (gI u 82 48)) 82 49)) 82 50)) 82 2 (gI (sI (sI (sI u 82 13 (gI u 82 48)) 82 0 (gI (sI u 82 13 (gI u 82 48)) 82 49)) 82 1 (gI (sI (sI u 82 13 (gI u 82 48)) 82 0 (gI (sI u 82 13 (gI u 82 48)) 82 49)) 82 50)) 82 51)) 82 3 (gI (sI (sI (sI (sI u 82 13 (gI u 82 48)) 82 0 (gI (sI u 82 13 (gI u 82 48)) 82 49)) 82 1 (gI (sI (sI u 82 13 (gI u 82 48)) 82 0 (gI (sI u 82 13 (gI u 82 48)) 82 49)) 82 50)) 82 2 (gI (sI (sI (sI u 82 13 (gI u 82 48)) 82 0 (gI (sI u 82 13 (gI u 82 48)) 82 49)) 82 1 (gI (sI (sI u 82 13 (gI u 82 48)) 82 0 (gI (sI u 82 13 (gI u 82 48)) 82 49)) 82 50)) 82 51)) 82 52)) 82 53)) 82 54)) 82 55)) 82 42 (gI (sI (sI (sI (sI (sI (sI (sI (sI u 82 13 (gI u 82 48)) 82 0 (gI (sI u 82 13 (gI u 82 48)) 82 49)) 82 1 (gI (sI (sI u 82 13 (gI u 82 48)) 82 0 (gI (sI u 82 13 (gI u 82 48)) 82 49)) 82 50)) 82 2 (gI (sI (sI (sI u 82 13 (gI u 82 48)) 82 0 (gI (sI u 82 13 (gI u 82 48)) 82 49)) 82 1 (gI (sI (sI u 82 13 (gI u 82 48)) 82 0 (gI (sI u 82 13 (gI u 82 48)) 82 49)) 82 50)) 82 51)) 82 3 (gI (sI (sI (sI (sI u 82 13 (gI u 82 48)) 82 0 (gI (sI u 82 13 (gI u 82 48)) 82 49)) 82 1 (gI (sI (sI u 82 13 (gI u 82 48)) 82 0 (gI (sI u 82 13 (gI u 82 48)) 82 49)) 82 50)) 82 2 (gI (sI (sI (sI u 82 13 (gI u 82 48)) 82 0 (gI (sI u 82 13 (gI u 82 48)) 82 49)) 82 1 (gI (sI (sI u 82 13 (gI u 82 48)) 82 0 (gI (sI u 82 13 (gI u 82 48)) 82 49)) 82 50)) 82 51)) 82 52)) 82 4 (gI (sI (sI (sI (sI (sI u 82 13 (gI u 82 48)) 82 0 (gI (sI u 82 13 (gI u 82 48)) 82 49)) 82 1 (gI (sI (sI u 82 13 (gI u 82 48)) 82 0 (gI (sI u 82 13 (gI u 82 48)) 82 49)) 82 50)) 82 2 (gI (sI (sI (sI u 82 13 (gI u 82 48)) 82 0 (gI (sI u 82 13 (gI u 82 48)) 82 49)) 82 1 (gI (sI (sI u 82 13 (gI u 82 48)) 82 0 (gI (sI u 82 13 (gI u 82 48)) 82 49)) 82 50)) 82 51)) 82 3 (gI (sI (sI (sI (sI u 82 13 (gI u 82 48)) 82 0 (gI (sI u 82 13 (gI u 82 48)) 82 49)) 82 1 (gI (sI (sI u 82 13 (gI u 82 48)) 82 0 (gI (sI u 82 13 (gI u 82 48)) 82 49)) 82 50)) 82 2 (gI (sI (sI (sI u 82 13 (gI u 82 48)) 82 0 (gI (sI u 82 13 (gI u 82 48)) 82 49)) 82 1 (gI (sI (sI u 82 13 (gI u 82 48)) 82 0 (gI (sI u 82 13 (gI u 82 48)) 82 49)) 82 50)) 82 51)) 82 52)) 82 53)) 82 37 (gI (sI (sI (sI (sI (sI (sI u 82 13 (gI u 82 48)) 82 0 (gI (sI u 82 13 (gI u 82 48)) 82 49)) 82 1 (gI (sI (sI u 82 13 (gI u 82 48)) 82 0 (gI (sI u 82 13 (gI u 82 48)) 82 49)) 82 50)) 82 2 (gI (sI (sI (sI u 82 13 (gI u 82 48)) 82 0 (gI (sI u 82 13 (gI u 82 48)) 82 49)) 82 1 (gI (sI (sI u 82 13 (gI u 82 48)) 82 0 (gI (sI u 82 13 (gI u 82 48)) 82 49)) 82 50)) 82 51)) 82 3 (gI (sI (sI (sI (sI u 82 13 (gI u 82 48)) 82 0 (gI (sI u 82 13 (gI u 82 48)) 82 49)) 82 1 (gI (sI (sI u 82 13 (gI u 82 48)) 82 0 (gI (sI u 82 13 (gI u 82 48)) 82 49)) 82 50)) 82 2 (gI (sI (sI (sI u 82 13 (gI u 82 48)) 82 0 (gI (sI u 82 13 (gI u 82 48)) 82 49)) 82 1 (gI (sI (sI u 82 13 (gI u 82 48)) 82 0 (gI (sI u 82 13 (gI u 82 48)) 82 49)) 82 50)) 82 51)) 82 52)) 82 4 (gI (sI (sI (sI (sI (sI u 82 13 (gI u 82 48)) 82 0 (gI (sI u 82 13 (gI u 82 48)) 82 49)) 82 1 (gI (sI (sI u 82 13 (gI u 82 48)) 82 0 (gI (sI u 82 13 (gI u 82 48)) 82 49)) 82 50)) 82 2 (gI (sI (sI (sI u 82 13 (gI u 82 48)) 82 0 (gI (sI u 82 13 (gI u 82 48)) 82 49)) 82 1 (gI (sI (sI u 82 13 (gI u 82 48)) 82 0 (gI (sI u 82 13 (gI u 82 48)) 82 49)) 82 50)) 82 51)) 82 3 (gI (sI (sI (sI (sI u 82 13 (gI u 82 48)) 82 0 (gI (sI u 82 13 (gI u 82 48)) 82 49)) 82 1 (gI (sI (sI u 82 13 (gI u 82 48)) 82 0 (gI (sI u 82 13 (gI u 82 48)) 82 49)) 82 50)) 82 2 (gI (sI (sI (sI u 82 13 (gI u 82 48)) 82 0 (gI (sI u 82 13 (gI u 82 48)) 82 49)) 82 1 (gI (sI (sI u 82 13 (gI u 82 48)) 82 0 (gI (sI u 82 13 (gI u 82 48)) 82 49)) 82 50)) 82 51)) 82 52)) 82 53)) 82 54)) 82 41 (gI (sI (sI (sI (sI (sI (sI (sI u 82 13 (gI u 82 48)) 82 0 (gI (sI u 82 13 (gI u 82 48)) 82 49)) 82 1 (gI (sI (sI u 82 13 (gI u 82 48)) 82 0 (gI (sI u 82 13 (gI u 82 48)) 82 49)) 82 50)) 82 2 (gI (sI (sI (sI u 82 13 (gI u 82 48)) 82 0 (gI (sI u 82 13 (gI u 82 48)) 82 49)) 82 1 (gI (sI (sI u 82 13 (gI u 82 48)) 82 0 (gI (sI u 82 13 (gI u 82 48)) 82 49)) 82 50)) 82 51)) 82 3 (gI (sI (sI (sI (sI u 82 13 (gI u 82 48)) 82 0 (gI (sI u 82 13 (gI u 82 48)) 82 49)) 82 1 (gI (sI (sI u 82 13 (gI u 82 48)) 82 0 (gI (sI u 82 13 (gI u 82 48)) 82 49)) 82 50)) 82 2 (gI (sI (sI (sI u 82 13 (gI u 82 48)) 82 0 (gI (sI u 82 13 (gI u 82 48)) 82 49)) 82 1 (gI (sI (sI u 82 13 (gI u 82 48)) 82 0 (gI (sI u 82 13 (gI u 82 48)) 82 49)) 82 50)) 82 51)) 82 52)) 82 4 (gI (sI (sI (sI (sI (sI u 82 13 (gI u 82 48)) 82 0 (gI (sI u 82 13 (gI u 82 48)) 82 49)) 82 1 (gI (sI (sI u 82 13 (gI u 82 48)) 82 0 (gI (sI u 82 13 (gI u 82 48)) 82 49)) 82 50)) 82 2 (gI (sI (sI (sI u 82 13 (gI u 82 48)) 82 0 (gI (sI u 82 13 (gI u 82 48)) 82 49)) 82 1 (gI (sI (sI u 82 13 (gI u 82 48)) 82 0 (gI (sI u 82 13 (gI u 82 48)) 82 49)) 82 50)) 82 51)) 82 3 (gI (sI (sI (sI (sI u 82 13 (gI u 82 48)) 82 0 (gI (sI u 82 13 (gI u 82 48)) 82 49)) 82 1 (gI (sI (sI u 82 13 (gI u 82 48)) 82 0 (gI (sI u 82 13 (gI u 82 48)) 82 49)) 82 50)) 82 2 (gI (sI (sI (sI u 82 13 (gI u 82 48)) 82 0 (gI (sI u 82 13 (gI u 82 48)) 82 49)) 82 1 (gI (sI (sI u 82 13 (gI u 82 48)) 82 0 (gI (sI u 82 13 (gI u 82 48)) 82 49)) 82 50)) 82 51)) 82 52)) 82 53)) 82 37 (gI (sI (sI (sI (sI (sI (sI u 82 13 (gI u 82 48)) 82 0 (gI (sI u 82 13 (gI u 82 48)) 82 49)) 82 1 (gI (sI (sI u 82 13 (gI u 82 48)) 82 0 (gI (sI u 82 13 (gI u 82 48)) 82 49)) 82 50)) 82 2 (gI (sI (sI (sI u 82 13 (gI u 82 48)) 82 0 (gI (sI u 82 13 (gI u 82 48)) 82 49)) 82 1 (gI (sI (sI u 82 13 (gI u 82 48)) 82 0 (gI (sI u 82 13 (gI u 82 48)) 82 49)) 82 50)) 82 51)) 82 3 (gI (sI (sI (sI (sI u 82 13 (gI u 82 48)) 82 0 (gI (sI u 82 13 (gI u 82 48)) 82 49)) 82 1 (gI (sI (sI u 82 13 (gI u 82 48)) 82 0 (gI (sI u 82 13 (gI u 82 48)) 82 49)) 82 50)) 82 2 (gI (sI (sI (sI u 82 13 (gI u 82 48)) 82 0 (gI (sI u 82 13 (gI u 82 48)) 82 49)) 82 1 (gI (sI (sI u 82 13 (gI u 82 48)) 82 0 (gI (sI u 82 13 (gI u 82 48)) 82 49)) 82 50)) 82 51)) 82 52)) 82 4 (gI (sI (sI (sI (sI (sI u 82 13 (gI u 82 48)) 82 0 (gI (sI u 82 13 (gI u 82 48)) 82 49)) 82 1 (gI (sI (sI u 82 13 (gI u 82 48)) 82 0 (gI (sI u 82 13 (gI u 82 48)) 82 49)) 82 50)) 82 2 (gI (sI (sI (sI u 82 13 (gI u 82 48)) 82 0 (gI (sI u 82 13 (gI u 82 48)) 82 49)) 82 1 (gI (sI (sI u 82 13 (gI u 82 48)) 82 0 (gI (sI u 82 13 (gI u 82 48)) 82 49)) 82 50)) 82 51)) 82 3 (gI (sI (sI (sI (sI u 82 13 (gI u 82 48)) 82 0 (gI (sI u 82 13 (gI u 82 48)) 82 49)) 82 1 (gI (sI (sI u 82 13 (gI u 82 48)) 82 0 (gI (sI u 82 13 (gI u 82 48)) 82 49)) 82 50)) 82 2 (gI (sI (sI (sI u 82 13 (gI u 82 48)) 82 0 (gI (sI u 82 13 (gI u 82 48)) 82 49)) 82 1 (gI (sI (sI u 82 13 (gI u 82 48)) 82 0 (gI (sI u 82 13 (gI u 82 48)) 82 49)) 82 50)) 82 51)) 82 52)) 82 53)) 82 54)) 82 55)) 82 56)))
set_option maxHeartbeats 4000000 in
set_option maxRecDepth 100000 in
theorem k_X8_undo (l : Launch) (D : gDt) (base : Nat) (Z : gZt) (u : Mem) (r : Int32) (u' : Mem) (hf : f_X8_undo u = some (r, u')) : Met l yX8_undo (gws yX8_undo cX8_undo 2 (some .int)) (gRm 1 0 0) (gPc D base Z u [.ref (base + 82)]) (gQi D base r u') 0 0 (gF base) := by
  refine Met.ofW (cc := cX8_undo) (maxL := 2) (ret := some .int) (by decide) rfl ?_
  intro p e s m args below meth c s₁ B hml hv
  obtain ⟨rfl, C0, hG⟩ := g_enter B hml hv
  have hr := B.returns
  have C0 : gC p s m meth c _ cX8_undo 2 RX8 D base Z := C0
  have hx := C0.1
  have hb := C0.2.1
  have hl := lv_entry ([.ref (base + 82)]) (n := 2) (Nat.le_of_ble_eq_true rfl)
  rw [lg_entry_eq]
  generalize (lg_sl ([.ref (base + 82)]) ++ List.replicate (2 - (lg_sl ([.ref (base + 82)])).length) Slot.unset).toArray = ls at hl ⊢
  have hl : lv_has ls 2 [(0, .ref (base + 82))] := hl
  obtain ⟨Q, hQ⟩ : ∃ Q, Q = MQ below (gQi D base r u') ([.ref (base + 82)] : List Value).toArray s 0 0 (gF base) := ⟨_, rfl⟩
  rw [← hQ]
  change W p l e (gRm 1 0 0) s m _ below meth c _ _ _ _ _ _
  unfold f_X8_undo at hf
  refine lv_aload_n hx hb dX8_undo_0 rfl (lv_at hl 0 rfl) ?_
  refine g_getI C0 hG (L82 hG) rfl 47 (by decide) rfl w_893 dX8_undo_1 ?_
  refine lv_if_ne (tgt := 10) hx hb dX8_undo_4 (by decide) (fun c1 => ?_) (fun c1 => ?_)
  · have hf := gif_f c1 hf
    refine lv_aload_n hx hb dX8_undo_10 rfl (lv_at hl 0 rfl) ?_
    refine lv_aload_n hx hb dX8_undo_11 rfl (lv_at hl 0 rfl) ?_
    refine g_getI C0 hG (L82 hG) rfl 48 (by decide) rfl w_894 dX8_undo_12 ?_
    refine g_putI (ty := .int) C0 hG (L82 hG) rfl 13 (by decide) rfl w_859 rfl (by decide) rfl rfl dX8_undo_15 (fun H locs hG => ?_)
    refine lv_aload_n hx hb dX8_undo_18 rfl (lv_at hl 0 rfl) ?_
    refine lv_aload_n hx hb dX8_undo_19 rfl (lv_at hl 0 rfl) ?_
    refine g_getI C0 hG (L82 hG) rfl 49 (by decide) rfl w_895 dX8_undo_20 ?_
    refine g_putI (ty := .int) C0 hG (L82 hG) rfl 0 (by decide) rfl w_846 rfl (by decide) rfl rfl dX8_undo_23 (fun H locs hG => ?_)
    refine lv_aload_n hx hb dX8_undo_26 rfl (lv_at hl 0 rfl) ?_
    refine lv_aload_n hx hb dX8_undo_27 rfl (lv_at hl 0 rfl) ?_
    refine g_getI C0 hG (L82 hG) rfl 50 (by decide) rfl w_896 dX8_undo_28 ?_
    refine g_putI (ty := .int) C0 hG (L82 hG) rfl 1 (by decide) rfl w_847 rfl (by decide) rfl rfl dX8_undo_31 (fun H locs hG => ?_)
    refine lv_aload_n hx hb dX8_undo_34 rfl (lv_at hl 0 rfl) ?_
    refine lv_aload_n hx hb dX8_undo_35 rfl (lv_at hl 0 rfl) ?_
    refine g_getI C0 hG (L82 hG) rfl 51 (by decide) rfl w_897 dX8_undo_36 ?_
    refine g_putI (ty := .int) C0 hG (L82 hG) rfl 2 (by decide) rfl w_848 rfl (by decide) rfl rfl dX8_undo_39 (fun H locs hG => ?_)
    refine lv_aload_n hx hb dX8_undo_42 rfl (lv_at hl 0 rfl) ?_
    refine lv_aload_n hx hb dX8_undo_43 rfl (lv_at hl 0 rfl) ?_
    refine g_getI C0 hG (L82 hG) rfl 52 (by decide) rfl w_898 dX8_undo_44 ?_
    refine g_putI (ty := .int) C0 hG (L82 hG) rfl 3 (by decide) rfl w_849 rfl (by decide) rfl rfl dX8_undo_47 (fun H locs hG => ?_)
    refine lv_aload_n hx hb dX8_undo_50 rfl (lv_at hl 0 rfl) ?_
    refine lv_aload_n hx hb dX8_undo_51 rfl (lv_at hl 0 rfl) ?_
    refine g_getI C0 hG (L82 hG) rfl 53 (by decide) rfl w_899 dX8_undo_52 ?_
    refine g_putI (ty := .int) C0 hG (L82 hG) rfl 4 (by decide) rfl w_850 rfl (by decide) rfl rfl dX8_undo_55 (fun H locs hG => ?_)
    refine lv_aload_n hx hb dX8_undo_58 rfl (lv_at hl 0 rfl) ?_
    refine lv_aload_n hx hb dX8_undo_59 rfl (lv_at hl 0 rfl) ?_
    refine g_getI C0 hG (L82 hG) rfl 54 (by decide) rfl w_900 dX8_undo_60 ?_
    refine g_putI (ty := .int) C0 hG (L82 hG) rfl 37 (by decide) rfl w_883 rfl (by decide) rfl rfl dX8_undo_63 (fun H locs hG => ?_)
    refine lv_aload_n hx hb dX8_undo_66 rfl (lv_at hl 0 rfl) ?_
    refine lv_aload_n hx hb dX8_undo_67 rfl (lv_at hl 0 rfl) ?_
    refine g_getI C0 hG (L82 hG) rfl 55 (by decide) rfl w_901 dX8_undo_68 ?_
    refine g_putI (ty := .int) C0 hG (L82 hG) rfl 41 (by decide) rfl w_887 rfl (by decide) rfl rfl dX8_undo_71 (fun H locs hG => ?_)
    refine lv_aload_n hx hb dX8_undo_74 rfl (lv_at hl 0 rfl) ?_
    refine lv_aload_n hx hb dX8_undo_75 rfl (lv_at hl 0 rfl) ?_
    refine g_getI C0 hG (L82 hG) rfl 56 (by decide) rfl w_902 dX8_undo_76 ?_
    refine g_putI (ty := .int) C0 hG (L82 hG) rfl 42 (by decide) rfl w_888 rfl (by decide) rfl rfl dX8_undo_79 (fun H locs hG => ?_)
    refine lv_iconst (v := (0 : Int32)) hx hb dX8_undo_82 (by decide) ?_
    refine lv_istore_n (lv' := [(1, .int (0 : Int32)), (0, .ref (base + 82))]) hx hb dX8_undo_83 rfl hl (by decide) rfl (fun ls hl => ?_)
    have loop2 : ∀ (n2 : Nat) (x1_2 : Int32) (u2 : Mem) (H : Heap) (locs : List Loc) (ls : Array Slot), gH D base s u2 H locs → lv_has ls 2 [(0, .ref (base + 82)), (1, .int x1_2)] → whileO (fun s => f_X8_undo_L84 s.1 s.2) n2 (x1_2, u2) = some (r, u') → W p l e (gRm 1 0 0) s m ([.ref (base + 82)] : List Value).toArray below meth c H locs 0 0 Q (F0 m 84 ls []) := by
      intro n2
      induction n2 with
      | zero => intro x1_2 u2 H locs ls hG hl hf; cases hf
      | succ n2 ih2 =>
        intro x1_2 u2 H locs ls hG hl hf
        obtain ⟨X2, hf, hX2⟩ := while_s hf
        have hf : f_X8_undo_L84 x1_2 u2 = some X2 := hf
        unfold f_X8_undo_L84 at hf
        refine lv_iload_n hx hb dX8_undo_84 rfl (lv_at hl 1 rfl) ?_
        refine lv_bipush (v := (6 : Int32)) hx hb dX8_undo_85 (by decide) ?_
        refine lv_icmp_ge (tgt := 144) hx hb dX8_undo_87 (by decide) (fun c3 => ?_) (fun c3 => ?_)
        · have hf := gif_t c3 hf
          refine lv_iconst (v := (0 : Int32)) hx hb dX8_undo_144 (by decide) ?_
          refine lv_istore_n (lv' := [(1, .int (0 : Int32)), (0, .ref (base + 82))]) hx hb dX8_undo_145 rfl hl (by decide) rfl (fun ls hl => ?_)
          have loop4 : ∀ (n4 : Nat) (x1_4 : Int32) (u4 : Mem) (H : Heap) (locs : List Loc) (ls : Array Slot), gH D base s u4 H locs → lv_has ls 2 [(0, .ref (base + 82)), (1, .int x1_4)] → whileO (fun s => f_X8_undo_L146 s.1 s.2) n4 (x1_4, u4) = some X2 → W p l e (gRm 1 0 0) s m ([.ref (base + 82)] : List Value).toArray below meth c H locs 0 0 Q (F0 m 146 ls []) := by
            intro n4
            induction n4 with
            | zero => intro x1_4 u4 H locs ls hG hl hf; cases hf
            | succ n4 ih4 =>
              intro x1_4 u4 H locs ls hG hl hf
              obtain ⟨X4, hf, hX4⟩ := while_s hf
              have hf : f_X8_undo_L146 x1_4 u4 = some X4 := hf
              unfold f_X8_undo_L146 at hf
              refine lv_iload_n hx hb dX8_undo_146 rfl (lv_at hl 1 rfl) ?_
              refine lv_bipush (v := (24 : Int32)) hx hb dX8_undo_147 (by decide) ?_
              refine lv_icmp_ge (tgt := 170) hx hb dX8_undo_149 (by decide) (fun c5 => ?_) (fun c5 => ?_)
              · have hf := gif_t c5 hf
                refine lv_iconst (v := (0 : Int32)) hx hb dX8_undo_170 (by decide) ?_
                refine lv_istore_n (lv' := [(1, .int (0 : Int32)), (0, .ref (base + 82))]) hx hb dX8_undo_171 rfl hl (by decide) rfl (fun ls hl => ?_)
                have loop6 : ∀ (n6 : Nat) (x1_6 : Int32) (u6 : Mem) (H : Heap) (locs : List Loc) (ls : Array Slot), gH D base s u6 H locs → lv_has ls 2 [(0, .ref (base + 82)), (1, .int x1_6)] → whileO (fun s => f_X8_undo_L172 s.1 s.2) n6 (x1_6, u6) = some X4 → W p l e (gRm 1 0 0) s m ([.ref (base + 82)] : List Value).toArray below meth c H locs 0 0 Q (F0 m 172 ls []) := by
                  intro n6
                  induction n6 with
                  | zero => intro x1_6 u6 H locs ls hG hl hf; cases hf
                  | succ n6 ih6 =>
                    intro x1_6 u6 H locs ls hG hl hf
                    obtain ⟨X6, hf, hX6⟩ := while_s hf
                    have hf : f_X8_undo_L172 x1_6 u6 = some X6 := hf
                    unfold f_X8_undo_L172 at hf
                    refine lv_iload_n hx hb dX8_undo_172 rfl (lv_at hl 1 rfl) ?_
                    refine lv_iconst (v := (5 : Int32)) hx hb dX8_undo_173 (by decide) ?_
                    refine lv_icmp_ge (tgt := 219) hx hb dX8_undo_174 (by decide) (fun c7 => ?_) (fun c7 => ?_)
                    · have hf := gif_t c7 hf
                      refine lv_iconst (v := (0 : Int32)) hx hb dX8_undo_219 (by decide) ?_
                      refine lv_istore_n (lv' := [(1, .int (0 : Int32)), (0, .ref (base + 82))]) hx hb dX8_undo_220 rfl hl (by decide) rfl (fun ls hl => ?_)
                      have loop8 : ∀ (n8 : Nat) (x1_8 : Int32) (u8 : Mem) (H : Heap) (locs : List Loc) (ls : Array Slot), gH D base s u8 H locs → lv_has ls 2 [(0, .ref (base + 82)), (1, .int x1_8)] → whileO (fun s => f_X8_undo_L221 s.1 s.2) n8 (x1_8, u8) = some X6 → W p l e (gRm 1 0 0) s m ([.ref (base + 82)] : List Value).toArray below meth c H locs 0 0 Q (F0 m 221 ls []) := by
                        intro n8
                        induction n8 with
                        | zero => intro x1_8 u8 H locs ls hG hl hf; cases hf
                        | succ n8 ih8 =>
                          intro x1_8 u8 H locs ls hG hl hf
                          obtain ⟨X8, hf, hX8⟩ := while_s hf
                          have hf : f_X8_undo_L221 x1_8 u8 = some X8 := hf
                          unfold f_X8_undo_L221 at hf
                          refine lv_iload_n hx hb dX8_undo_221 rfl (lv_at hl 1 rfl) ?_
                          refine lv_bipush (v := (10 : Int32)) hx hb dX8_undo_222 (by decide) ?_
                          refine lv_icmp_ge (tgt := 257) hx hb dX8_undo_224 (by decide) (fun c9 => ?_) (fun c9 => ?_)
                          · have hf := gif_t c9 hf
                            refine lv_iconst (v := (0 : Int32)) hx hb dX8_undo_257 (by decide) ?_
                            refine lv_istore_n (lv' := [(1, .int (0 : Int32)), (0, .ref (base + 82))]) hx hb dX8_undo_258 rfl hl (by decide) rfl (fun ls hl => ?_)
                            have loop10 : ∀ (n10 : Nat) (x1_10 : Int32) (u10 : Mem) (H : Heap) (locs : List Loc) (ls : Array Slot), gH D base s u10 H locs → lv_has ls 2 [(0, .ref (base + 82)), (1, .int x1_10)] → whileO (fun s => f_X8_undo_L259 s.1 s.2) n10 (x1_10, u10) = some X8 → W p l e (gRm 1 0 0) s m ([.ref (base + 82)] : List Value).toArray below meth c H locs 0 0 Q (F0 m 259 ls []) := by
                              intro n10
                              induction n10 with
                              | zero => intro x1_10 u10 H locs ls hG hl hf; cases hf
                              | succ n10 ih10 =>
                                intro x1_10 u10 H locs ls hG hl hf
                                obtain ⟨X10, hf, hX10⟩ := while_s hf
                                have hf : f_X8_undo_L259 x1_10 u10 = some X10 := hf
                                unfold f_X8_undo_L259 at hf
                                refine lv_iload_n hx hb dX8_undo_259 rfl (lv_at hl 1 rfl) ?_
                                refine lv_bipush (v := (8 : Int32)) hx hb dX8_undo_260 (by decide) ?_
                                refine lv_icmp_ge (tgt := 319) hx hb dX8_undo_262 (by decide) (fun c11 => ?_) (fun c11 => ?_)
                                · have hf := gif_t c11 hf
                                  refine lv_aload_n hx hb dX8_undo_319 rfl (lv_at hl 0 rfl) ?_
                                  refine g_getI C0 hG (L82 hG) rfl 0 (by decide) rfl w_846 dX8_undo_320 ?_
                                  have hf := while_r hX10 hf
                                  have hf := while_r hX8 hf
                                  have hf := while_r hX6 hf
                                  have hf := while_r hX4 hf
                                  have hf := while_r hX2 hf
                                  obtain ⟨hr1, hu⟩ := gret_s hf
                                  subst hr1
                                  subst hu
                                  subst hQ
                                  exact g_iret C0 hG hr dX8_undo_323
                                · have hf := gif_f c11 hf
                                  refine lv_aload_n hx hb dX8_undo_265 rfl (lv_at hl 0 rfl) ?_
                                  refine g_getSa (o := 7) (a := 89) C0 hG (L82 hG) rfl 11 (by decide) rfl rfl w_857 dX8_undo_266 ?_
                                  refine lv_iload_n hx hb dX8_undo_269 rfl (lv_at hl 1 rfl) ?_
                                  refine lv_aload_n hx hb dX8_undo_270 rfl (lv_at hl 0 rfl) ?_
                                  refine g_getSa (o := 33) (a := 115) C0 hG (L82 hG) rfl 62 (by decide) rfl rfl w_908 dX8_undo_271 ?_
                                  refine lv_iload_n hx hb dX8_undo_274 rfl (lv_at hl 1 rfl) ?_
                                  obtain ⟨h12, hf⟩ := gin_s hf
                                  refine g_iald C0 hG (L115 hG) h12 dX8_undo_275 ?_
                                  obtain ⟨h13, hf⟩ := gin_s hf
                                  refine g_iast C0 hG (L89 hG) h13 dX8_undo_276 (fun H locs hG => ?_)
                                  refine lv_aload_n hx hb dX8_undo_277 rfl (lv_at hl 0 rfl) ?_
                                  refine g_getSa (o := 6) (a := 88) C0 hG (L82 hG) rfl 10 (by decide) rfl rfl w_856 dX8_undo_278 ?_
                                  refine lv_iload_n hx hb dX8_undo_281 rfl (lv_at hl 1 rfl) ?_
                                  refine lv_aload_n hx hb dX8_undo_282 rfl (lv_at hl 0 rfl) ?_
                                  refine g_getSa (o := 34) (a := 116) C0 hG (L82 hG) rfl 63 (by decide) rfl rfl w_909 dX8_undo_283 ?_
                                  refine lv_iload_n hx hb dX8_undo_286 rfl (lv_at hl 1 rfl) ?_
                                  obtain ⟨h14, hf⟩ := gin_s hf
                                  refine g_iald C0 hG (L116 hG) h14 dX8_undo_287 ?_
                                  obtain ⟨h15, hf⟩ := gin_s hf
                                  refine g_iast C0 hG (L88 hG) h15 dX8_undo_288 (fun H locs hG => ?_)
                                  refine lv_aload_n hx hb dX8_undo_289 rfl (lv_at hl 0 rfl) ?_
                                  refine g_getSa (o := 26) (a := 108) C0 hG (L82 hG) rfl 45 (by decide) rfl rfl w_891 dX8_undo_290 ?_
                                  refine lv_iload_n hx hb dX8_undo_293 rfl (lv_at hl 1 rfl) ?_
                                  refine lv_aload_n hx hb dX8_undo_294 rfl (lv_at hl 0 rfl) ?_
                                  refine g_getSa (o := 40) (a := 122) C0 hG (L82 hG) rfl 69 (by decide) rfl rfl w_915 dX8_undo_295 ?_
                                  refine lv_iload_n hx hb dX8_undo_298 rfl (lv_at hl 1 rfl) ?_
                                  obtain ⟨h16, hf⟩ := gin_s hf
                                  refine g_iald C0 hG (L122 hG) h16 dX8_undo_299 ?_
                                  obtain ⟨h17, hf⟩ := gin_s hf
                                  refine g_iast C0 hG (L108 hG) h17 dX8_undo_300 (fun H locs hG => ?_)
                                  refine lv_aload_n hx hb dX8_undo_301 rfl (lv_at hl 0 rfl) ?_
                                  refine g_getSa (o := 27) (a := 109) C0 hG (L82 hG) rfl 46 (by decide) rfl rfl w_892 dX8_undo_302 ?_
                                  refine lv_iload_n hx hb dX8_undo_305 rfl (lv_at hl 1 rfl) ?_
                                  refine lv_aload_n hx hb dX8_undo_306 rfl (lv_at hl 0 rfl) ?_
                                  refine g_getSa (o := 41) (a := 123) C0 hG (L82 hG) rfl 70 (by decide) rfl rfl w_916 dX8_undo_307 ?_
                                  refine lv_iload_n hx hb dX8_undo_310 rfl (lv_at hl 1 rfl) ?_
                                  obtain ⟨h18, hf⟩ := gin_s hf
                                  refine g_iald C0 hG (L123 hG) h18 dX8_undo_311 ?_
                                  obtain ⟨h19, hf⟩ := gin_s hf
                                  refine g_iast C0 hG (L109 hG) h19 dX8_undo_312 (fun H locs hG => ?_)
                                  refine lv_iinc (v := x1_10 + (1 : Int32)) (lv' := [(1, .int (x1_10 + (1 : Int32))), (0, .ref (base + 82))]) hx hb dX8_undo_313 hl (k := 1) rfl rfl (by decide) rfl (fun ls hl => ?_)
                                  refine lv_goto (tgt := 259) hx hb dX8_undo_316 (by decide) ?_
                                  have hf := while_l hX10 hf
                                  exact ih10 (x1_10 + (1 : Int32)) (sA (sA (sA (sA u10 89 x1_10.toNatClampNeg (gA u10 115 x1_10.toNatClampNeg)) 88 x1_10.toNatClampNeg (gA (sA u10 89 x1_10.toNatClampNeg (gA u10 115 x1_10.toNatClampNeg)) 116 x1_10.toNatClampNeg)) 108 x1_10.toNatClampNeg (gA (sA (sA u10 89 x1_10.toNatClampNeg (gA u10 115 x1_10.toNatClampNeg)) 88 x1_10.toNatClampNeg (gA (sA u10 89 x1_10.toNatClampNeg (gA u10 115 x1_10.toNatClampNeg)) 116 x1_10.toNatClampNeg)) 122 x1_10.toNatClampNeg)) 109 x1_10.toNatClampNeg (gA (sA (sA (sA u10 89 x1_10.toNatClampNeg (gA u10 115 x1_10.toNatClampNeg)) 88 x1_10.toNatClampNeg (gA (sA u10 89 x1_10.toNatClampNeg (gA u10 115 x1_10.toNatClampNeg)) 116 x1_10.toNatClampNeg)) 108 x1_10.toNatClampNeg (gA (sA (sA u10 89 x1_10.toNatClampNeg (gA u10 115 x1_10.toNatClampNeg)) 88 x1_10.toNatClampNeg (gA (sA u10 89 x1_10.toNatClampNeg (gA u10 115 x1_10.toNatClampNeg)) 116 x1_10.toNatClampNeg)) 122 x1_10.toNatClampNeg)) 123 x1_10.toNatClampNeg)) _ _ ls hG (lv_sub hl [1, 0] rfl) hf
                            exact loop10 FUEL (0 : Int32) u8 _ _ ls hG (lv_sub hl [1, 0] rfl) hf
                          · have hf := gif_f c9 hf
                            refine lv_aload_n hx hb dX8_undo_227 rfl (lv_at hl 0 rfl) ?_
                            refine g_getSa (o := 24) (a := 106) C0 hG (L82 hG) rfl 43 (by decide) rfl rfl w_889 dX8_undo_228 ?_
                            refine lv_iload_n hx hb dX8_undo_231 rfl (lv_at hl 1 rfl) ?_
                            refine lv_aload_n hx hb dX8_undo_232 rfl (lv_at hl 0 rfl) ?_
                            refine g_getSa (o := 38) (a := 120) C0 hG (L82 hG) rfl 67 (by decide) rfl rfl w_913 dX8_undo_233 ?_
                            refine lv_iload_n hx hb dX8_undo_236 rfl (lv_at hl 1 rfl) ?_
                            obtain ⟨h20, hf⟩ := gin_s hf
                            refine g_iald C0 hG (L120 hG) h20 dX8_undo_237 ?_
                            obtain ⟨h21, hf⟩ := gin_s hf
                            refine g_iast C0 hG (L106 hG) h21 dX8_undo_238 (fun H locs hG => ?_)
                            refine lv_aload_n hx hb dX8_undo_239 rfl (lv_at hl 0 rfl) ?_
                            refine g_getSa (o := 25) (a := 107) C0 hG (L82 hG) rfl 44 (by decide) rfl rfl w_890 dX8_undo_240 ?_
                            refine lv_iload_n hx hb dX8_undo_243 rfl (lv_at hl 1 rfl) ?_
                            refine lv_aload_n hx hb dX8_undo_244 rfl (lv_at hl 0 rfl) ?_
                            refine g_getSa (o := 39) (a := 121) C0 hG (L82 hG) rfl 68 (by decide) rfl rfl w_914 dX8_undo_245 ?_
                            refine lv_iload_n hx hb dX8_undo_248 rfl (lv_at hl 1 rfl) ?_
                            obtain ⟨h22, hf⟩ := gin_s hf
                            refine g_iald C0 hG (L121 hG) h22 dX8_undo_249 ?_
                            obtain ⟨h23, hf⟩ := gin_s hf
                            refine g_iast C0 hG (L107 hG) h23 dX8_undo_250 (fun H locs hG => ?_)
                            refine lv_iinc (v := x1_8 + (1 : Int32)) (lv' := [(1, .int (x1_8 + (1 : Int32))), (0, .ref (base + 82))]) hx hb dX8_undo_251 hl (k := 1) rfl rfl (by decide) rfl (fun ls hl => ?_)
                            refine lv_goto (tgt := 221) hx hb dX8_undo_254 (by decide) ?_
                            have hf := while_l hX8 hf
                            exact ih8 (x1_8 + (1 : Int32)) (sA (sA u8 106 x1_8.toNatClampNeg (gA u8 120 x1_8.toNatClampNeg)) 107 x1_8.toNatClampNeg (gA (sA u8 106 x1_8.toNatClampNeg (gA u8 120 x1_8.toNatClampNeg)) 121 x1_8.toNatClampNeg)) _ _ ls hG (lv_sub hl [1, 0] rfl) hf
                      exact loop8 FUEL (0 : Int32) u6 _ _ ls hG (lv_sub hl [1, 0] rfl) hf
                    · have hf := gif_f c7 hf
                      refine lv_aload_n hx hb dX8_undo_177 rfl (lv_at hl 0 rfl) ?_
                      refine g_getSa (o := 21) (a := 103) C0 hG (L82 hG) rfl 38 (by decide) rfl rfl w_884 dX8_undo_178 ?_
                      refine lv_iload_n hx hb dX8_undo_181 rfl (lv_at hl 1 rfl) ?_
                      refine lv_aload_n hx hb dX8_undo_182 rfl (lv_at hl 0 rfl) ?_
                      refine g_getSa (o := 35) (a := 117) C0 hG (L82 hG) rfl 64 (by decide) rfl rfl w_910 dX8_undo_183 ?_
                      refine lv_iload_n hx hb dX8_undo_186 rfl (lv_at hl 1 rfl) ?_
                      obtain ⟨h24, hf⟩ := gin_s hf
                      refine g_iald C0 hG (L117 hG) h24 dX8_undo_187 ?_
                      obtain ⟨h25, hf⟩ := gin_s hf
                      refine g_iast C0 hG (L103 hG) h25 dX8_undo_188 (fun H locs hG => ?_)
                      refine lv_aload_n hx hb dX8_undo_189 rfl (lv_at hl 0 rfl) ?_
                      refine g_getSa (o := 22) (a := 104) C0 hG (L82 hG) rfl 39 (by decide) rfl rfl w_885 dX8_undo_190 ?_
                      refine lv_iload_n hx hb dX8_undo_193 rfl (lv_at hl 1 rfl) ?_
                      refine lv_aload_n hx hb dX8_undo_194 rfl (lv_at hl 0 rfl) ?_
                      refine g_getSa (o := 36) (a := 118) C0 hG (L82 hG) rfl 65 (by decide) rfl rfl w_911 dX8_undo_195 ?_
                      refine lv_iload_n hx hb dX8_undo_198 rfl (lv_at hl 1 rfl) ?_
                      obtain ⟨h26, hf⟩ := gin_s hf
                      refine g_iald C0 hG (L118 hG) h26 dX8_undo_199 ?_
                      obtain ⟨h27, hf⟩ := gin_s hf
                      refine g_iast C0 hG (L104 hG) h27 dX8_undo_200 (fun H locs hG => ?_)
                      refine lv_aload_n hx hb dX8_undo_201 rfl (lv_at hl 0 rfl) ?_
                      refine g_getSa (o := 23) (a := 105) C0 hG (L82 hG) rfl 40 (by decide) rfl rfl w_886 dX8_undo_202 ?_
                      refine lv_iload_n hx hb dX8_undo_205 rfl (lv_at hl 1 rfl) ?_
                      refine lv_aload_n hx hb dX8_undo_206 rfl (lv_at hl 0 rfl) ?_
                      refine g_getSa (o := 37) (a := 119) C0 hG (L82 hG) rfl 66 (by decide) rfl rfl w_912 dX8_undo_207 ?_
                      refine lv_iload_n hx hb dX8_undo_210 rfl (lv_at hl 1 rfl) ?_
                      obtain ⟨h28, hf⟩ := gin_s hf
                      refine g_iald C0 hG (L119 hG) h28 dX8_undo_211 ?_
                      obtain ⟨h29, hf⟩ := gin_s hf
                      refine g_iast C0 hG (L105 hG) h29 dX8_undo_212 (fun H locs hG => ?_)
                      refine lv_iinc (v := x1_6 + (1 : Int32)) (lv' := [(1, .int (x1_6 + (1 : Int32))), (0, .ref (base + 82))]) hx hb dX8_undo_213 hl (k := 1) rfl rfl (by decide) rfl (fun ls hl => ?_)
                      refine lv_goto (tgt := 172) hx hb dX8_undo_216 (by decide) ?_
                      have hf := while_l hX6 hf
                      exact ih6 (x1_6 + (1 : Int32)) (sA (sA (sA u6 103 x1_6.toNatClampNeg (gA u6 117 x1_6.toNatClampNeg)) 104 x1_6.toNatClampNeg (gA (sA u6 103 x1_6.toNatClampNeg (gA u6 117 x1_6.toNatClampNeg)) 118 x1_6.toNatClampNeg)) 105 x1_6.toNatClampNeg (gA (sA (sA u6 103 x1_6.toNatClampNeg (gA u6 117 x1_6.toNatClampNeg)) 104 x1_6.toNatClampNeg (gA (sA u6 103 x1_6.toNatClampNeg (gA u6 117 x1_6.toNatClampNeg)) 118 x1_6.toNatClampNeg)) 119 x1_6.toNatClampNeg)) _ _ ls hG (lv_sub hl [1, 0] rfl) hf
                exact loop6 FUEL (0 : Int32) u4 _ _ ls hG (lv_sub hl [1, 0] rfl) hf
              · have hf := gif_f c5 hf
                refine lv_aload_n hx hb dX8_undo_152 rfl (lv_at hl 0 rfl) ?_
                refine g_getSa (o := 5) (a := 87) C0 hG (L82 hG) rfl 9 (by decide) rfl rfl w_855 dX8_undo_153 ?_
                refine lv_iload_n hx hb dX8_undo_156 rfl (lv_at hl 1 rfl) ?_
                refine lv_aload_n hx hb dX8_undo_157 rfl (lv_at hl 0 rfl) ?_
                refine g_getSa (o := 32) (a := 114) C0 hG (L82 hG) rfl 61 (by decide) rfl rfl w_907 dX8_undo_158 ?_
                refine lv_iload_n hx hb dX8_undo_161 rfl (lv_at hl 1 rfl) ?_
                obtain ⟨h30, hf⟩ := gin_s hf
                refine g_iald C0 hG (L114 hG) h30 dX8_undo_162 ?_
                obtain ⟨h31, hf⟩ := gin_s hf
                refine g_iast C0 hG (L87 hG) h31 dX8_undo_163 (fun H locs hG => ?_)
                refine lv_iinc (v := x1_4 + (1 : Int32)) (lv' := [(1, .int (x1_4 + (1 : Int32))), (0, .ref (base + 82))]) hx hb dX8_undo_164 hl (k := 1) rfl rfl (by decide) rfl (fun ls hl => ?_)
                refine lv_goto (tgt := 146) hx hb dX8_undo_167 (by decide) ?_
                have hf := while_l hX4 hf
                exact ih4 (x1_4 + (1 : Int32)) (sA u4 87 x1_4.toNatClampNeg (gA u4 114 x1_4.toNatClampNeg)) _ _ ls hG (lv_sub hl [1, 0] rfl) hf
          exact loop4 FUEL (0 : Int32) u2 _ _ ls hG (lv_sub hl [1, 0] rfl) hf
        · have hf := gif_f c3 hf
          refine lv_aload_n hx hb dX8_undo_90 rfl (lv_at hl 0 rfl) ?_
          refine g_getSa (o := 1) (a := 83) C0 hG (L82 hG) rfl 5 (by decide) rfl rfl w_851 dX8_undo_91 ?_
          refine lv_iload_n hx hb dX8_undo_94 rfl (lv_at hl 1 rfl) ?_
          refine lv_aload_n hx hb dX8_undo_95 rfl (lv_at hl 0 rfl) ?_
          refine g_getSa (o := 28) (a := 110) C0 hG (L82 hG) rfl 57 (by decide) rfl rfl w_903 dX8_undo_96 ?_
          refine lv_iload_n hx hb dX8_undo_99 rfl (lv_at hl 1 rfl) ?_
          obtain ⟨h32, hf⟩ := gin_s hf
          refine g_iald C0 hG (L110 hG) h32 dX8_undo_100 ?_
          obtain ⟨h33, hf⟩ := gin_s hf
          refine g_iast C0 hG (L83 hG) h33 dX8_undo_101 (fun H locs hG => ?_)
          refine lv_aload_n hx hb dX8_undo_102 rfl (lv_at hl 0 rfl) ?_
          refine g_getSa (o := 2) (a := 84) C0 hG (L82 hG) rfl 6 (by decide) rfl rfl w_852 dX8_undo_103 ?_
          refine lv_iload_n hx hb dX8_undo_106 rfl (lv_at hl 1 rfl) ?_
          refine lv_aload_n hx hb dX8_undo_107 rfl (lv_at hl 0 rfl) ?_
          refine g_getSa (o := 29) (a := 111) C0 hG (L82 hG) rfl 58 (by decide) rfl rfl w_904 dX8_undo_108 ?_
          refine lv_iload_n hx hb dX8_undo_111 rfl (lv_at hl 1 rfl) ?_
          obtain ⟨h34, hf⟩ := gin_s hf
          refine g_iald C0 hG (L111 hG) h34 dX8_undo_112 ?_
          obtain ⟨h35, hf⟩ := gin_s hf
          refine g_iast C0 hG (L84 hG) h35 dX8_undo_113 (fun H locs hG => ?_)
          refine lv_aload_n hx hb dX8_undo_114 rfl (lv_at hl 0 rfl) ?_
          refine g_getSa (o := 3) (a := 85) C0 hG (L82 hG) rfl 7 (by decide) rfl rfl w_853 dX8_undo_115 ?_
          refine lv_iload_n hx hb dX8_undo_118 rfl (lv_at hl 1 rfl) ?_
          refine lv_aload_n hx hb dX8_undo_119 rfl (lv_at hl 0 rfl) ?_
          refine g_getSa (o := 30) (a := 112) C0 hG (L82 hG) rfl 59 (by decide) rfl rfl w_905 dX8_undo_120 ?_
          refine lv_iload_n hx hb dX8_undo_123 rfl (lv_at hl 1 rfl) ?_
          obtain ⟨h36, hf⟩ := gin_s hf
          refine g_iald C0 hG (L112 hG) h36 dX8_undo_124 ?_
          obtain ⟨h37, hf⟩ := gin_s hf
          refine g_iast C0 hG (L85 hG) h37 dX8_undo_125 (fun H locs hG => ?_)
          refine lv_aload_n hx hb dX8_undo_126 rfl (lv_at hl 0 rfl) ?_
          refine g_getSa (o := 4) (a := 86) C0 hG (L82 hG) rfl 8 (by decide) rfl rfl w_854 dX8_undo_127 ?_
          refine lv_iload_n hx hb dX8_undo_130 rfl (lv_at hl 1 rfl) ?_
          refine lv_aload_n hx hb dX8_undo_131 rfl (lv_at hl 0 rfl) ?_
          refine g_getSa (o := 31) (a := 113) C0 hG (L82 hG) rfl 60 (by decide) rfl rfl w_906 dX8_undo_132 ?_
          refine lv_iload_n hx hb dX8_undo_135 rfl (lv_at hl 1 rfl) ?_
          obtain ⟨h38, hf⟩ := gin_s hf
          refine g_iald C0 hG (L113 hG) h38 dX8_undo_136 ?_
          obtain ⟨h39, hf⟩ := gin_s hf
          refine g_iast C0 hG (L86 hG) h39 dX8_undo_137 (fun H locs hG => ?_)
          refine lv_iinc (v := x1_2 + (1 : Int32)) (lv' := [(1, .int (x1_2 + (1 : Int32))), (0, .ref (base + 82))]) hx hb dX8_undo_138 hl (k := 1) rfl rfl (by decide) rfl (fun ls hl => ?_)
          refine lv_goto (tgt := 84) hx hb dX8_undo_141 (by decide) ?_
          have hf := while_l hX2 hf
          exact ih2 (x1_2 + (1 : Int32)) (sA (sA (sA (sA u2 83 x1_2.toNatClampNeg (gA u2 110 x1_2.toNatClampNeg)) 84 x1_2.toNatClampNeg (gA (sA u2 83 x1_2.toNatClampNeg (gA u2 110 x1_2.toNatClampNeg)) 111 x1_2.toNatClampNeg)) 85 x1_2.toNatClampNeg (gA (sA (sA u2 83 x1_2.toNatClampNeg (gA u2 110 x1_2.toNatClampNeg)) 84 x1_2.toNatClampNeg (gA (sA u2 83 x1_2.toNatClampNeg (gA u2 110 x1_2.toNatClampNeg)) 111 x1_2.toNatClampNeg)) 112 x1_2.toNatClampNeg)) 86 x1_2.toNatClampNeg (gA (sA (sA (sA u2 83 x1_2.toNatClampNeg (gA u2 110 x1_2.toNatClampNeg)) 84 x1_2.toNatClampNeg (gA (sA u2 83 x1_2.toNatClampNeg (gA u2 110 x1_2.toNatClampNeg)) 111 x1_2.toNatClampNeg)) 85 x1_2.toNatClampNeg (gA (sA (sA u2 83 x1_2.toNatClampNeg (gA u2 110 x1_2.toNatClampNeg)) 84 x1_2.toNatClampNeg (gA (sA u2 83 x1_2.toNatClampNeg (gA u2 110 x1_2.toNatClampNeg)) 111 x1_2.toNatClampNeg)) 112 x1_2.toNatClampNeg)) 113 x1_2.toNatClampNeg)) _ _ ls hG (lv_sub hl [1, 0] rfl) hf
    exact loop2 FUEL (0 : Int32) (sI (sI (sI (sI (sI (sI (sI (sI (sI u 82 13 (gI u 82 48)) 82 0 (gI (sI u 82 13 (gI u 82 48)) 82 49)) 82 1 (gI (sI (sI u 82 13 (gI u 82 48)) 82 0 (gI (sI u 82 13 (gI u 82 48)) 82 49)) 82 50)) 82 2 (gI (sI (sI (sI u 82 13 (gI u 82 48)) 82 0 (gI (sI u 82 13 (gI u 82 48)) 82 49)) 82 1 (gI (sI (sI u 82 13 (gI u 82 48)) 82 0 (gI (sI u 82 13 (gI u 82 48)) 82 49)) 82 50)) 82 51)) 82 3 (gI (sI (sI (sI (sI u 82 13 (gI u 82 48)) 82 0 (gI (sI u 82 13 (gI u 82 48)) 82 49)) 82 1 (gI (sI (sI u 82 13 (gI u 82 48)) 82 0 (gI (sI u 82 13 (gI u 82 48)) 82 49)) 82 50)) 82 2 (gI (sI (sI (sI u 82 13 (gI u 82 48)) 82 0 (gI (sI u 82 13 (gI u 82 48)) 82 49)) 82 1 (gI (sI (sI u 82 13 (gI u 82 48)) 82 0 (gI (sI u 82 13 (gI u 82 48)) 82 49)) 82 50)) 82 51)) 82 52)) 82 4 (gI (sI (sI (sI (sI (sI u 82 13 (gI u 82 48)) 82 0 (gI (sI u 82 13 (gI u 82 48)) 82 49)) 82 1 (gI (sI (sI u 82 13 (gI u 82 48)) 82 0 (gI (sI u 82 13 (gI u 82 48)) 82 49)) 82 50)) 82 2 (gI (sI (sI (sI u 82 13 (gI u 82 48)) 82 0 (gI (sI u 82 13 (gI u 82 48)) 82 49)) 82 1 (gI (sI (sI u 82 13 (gI u 82 48)) 82 0 (gI (sI u 82 13 (gI u 82 48)) 82 49)) 82 50)) 82 51)) 82 3 (gI (sI (sI (sI (sI u 82 13 (gI u 82 48)) 82 0 (gI (sI u 82 13 (gI u 82 48)) 82 49)) 82 1 (gI (sI (sI u 82 13 (gI u 82 48)) 82 0 (gI (sI u 82 13 (gI u 82 48)) 82 49)) 82 50)) 82 2 (gI (sI (sI (sI u 82 13 (gI u 82 48)) 82 0 (gI (sI u 82 13 (gI u 82 48)) 82 49)) 82 1 (gI (sI (sI u 82 13 (gI u 82 48)) 82 0 (gI (sI u 82 13 (gI u 82 48)) 82 49)) 82 50)) 82 51)) 82 52)) 82 53)) 82 37 (gI (sI (sI (sI (sI (sI (sI u 82 13 (gI u 82 48)) 82 0 (gI (sI u 82 13 (gI u 82 48)) 82 49)) 82 1 (gI (sI (sI u 82 13 (gI u 82 48)) 82 0 (gI (sI u 82 13 (gI u 82 48)) 82 49)) 82 50)) 82 2 (gI (sI (sI (sI u 82 13 (gI u 82 48)) 82 0 (gI (sI u 82 13 (gI u 82 48)) 82 49)) 82 1 (gI (sI (sI u 82 13 (gI u 82 48)) 82 0 (gI (sI u 82 13 (gI u 82 48)) 82 49)) 82 50)) 82 51)) 82 3 (gI (sI (sI (sI (sI u 82 13 (gI u 82 48)) 82 0 (gI (sI u 82 13 (gI u 82 48)) 82 49)) 82 1 (gI (sI (sI u 82 13 (gI u 82 48)) 82 0 (gI (sI u 82 13 (gI u 82 48)) 82 49)) 82 50)) 82 2 (gI (sI (sI (sI u 82 13 (gI u 82 48)) 82 0 (gI (sI u 82 13 (gI u 82 48)) 82 49)) 82 1 (gI (sI (sI u 82 13 (gI u 82 48)) 82 0 (gI (sI u 82 13 (gI u 82 48)) 82 49)) 82 50)) 82 51)) 82 52)) 82 4 (gI (sI (sI (sI (sI (sI u 82 13 (gI u 82 48)) 82 0 (gI (sI u 82 13 (gI u 82 48)) 82 49)) 82 1 (gI (sI (sI u 82 13 (gI u 82 48)) 82 0 (gI (sI u 82 13 (gI u 82 48)) 82 49)) 82 50)) 82 2 (gI (sI (sI (sI u 82 13 (gI u 82 48)) 82 0 (gI (sI u 82 13 (gI u 82 48)) 82 49)) 82 1 (gI (sI (sI u 82 13 (gI u 82 48)) 82 0 (gI (sI u 82 13 (gI u 82 48)) 82 49)) 82 50)) 82 51)) 82 3 (gI (sI (sI (sI (sI u 82 13 (gI u 82 48)) 82 0 (gI (sI u 82 13 (gI u 82 48)) 82 49)) 82 1 (gI (sI (sI u 82 13 (gI u 82 48)) 82 0 (gI (sI u 82 13 (gI u 82 48)) 82 49)) 82 50)) 82 2 (gI (sI (sI (sI u 82 13 (gI u 82 48)) 82 0 (gI (sI u 82 13 (gI u 82 48)) 82 49)) 82 1 (gI (sI (sI u 82 13 (gI u 82 48)) 82 0 (gI (sI u 82 13 (gI u 82 48)) 82 49)) 82 50)) 82 51)) 82 52)) 82 53)) 82 54)) 82 41 (gI (sI (sI (sI (sI (sI (sI (sI u 82 13 (gI u 82 48)) 82 0 (gI (sI u 82 13 (gI u 82 48)) 82 49)) 82 1 (gI (sI (sI u 82 13 (gI u 82 48)) 82 0 (gI (sI u 82 13 (gI u 82 48)) 82 49)) 82 50)) 82 2 (gI (sI (sI (sI u 82 13 (gI u 82 48)) 82 0 (gI (sI u 82 13 (gI u 82 48)) 82 49)) 82 1 (gI (sI (sI u 82 13 (gI u 82 48)) 82 0 (gI (sI u 82 13 (gI u 82 48)) 82 49)) 82 50)) 82 51)) 82 3 (gI (sI (sI (sI (sI u 82 13 (gI u 82 48)) 82 0 (gI (sI u 82 13 (gI u 82 48)) 82 49)) 82 1 (gI (sI (sI u 82 13 (gI u 82 48)) 82 0 (gI (sI u 82 13 (gI u 82 48)) 82 49)) 82 50)) 82 2 (gI (sI (sI (sI u 82 13 (gI u 82 48)) 82 0 (gI (sI u 82 13 (gI u 82 48)) 82 49)) 82 1 (gI (sI (sI u 82 13 (gI u 82 48)) 82 0 (gI (sI u 82 13 (gI u 82 48)) 82 49)) 82 50)) 82 51)) 82 52)) 82 4 (gI (sI (sI (sI (sI (sI u 82 13 (gI u 82 48)) 82 0 (gI (sI u 82 13 (gI u 82 48)) 82 49)) 82 1 (gI (sI (sI u 82 13 (gI u 82 48)) 82 0 (gI (sI u 82 13 (gI u 82 48)) 82 49)) 82 50)) 82 2 (gI (sI (sI (sI u 82 13 (gI u 82 48)) 82 0 (gI (sI u 82 13 (gI u 82 48)) 82 49)) 82 1 (gI (sI (sI u 82 13 (gI u 82 48)) 82 0 (gI (sI u 82 13 (gI u 82 48)) 82 49)) 82 50)) 82 51)) 82 3 (gI (sI (sI (sI (sI u 82 13 (gI u 82 48)) 82 0 (gI (sI u 82 13 (gI u 82 48)) 82 49)) 82 1 (gI (sI (sI u 82 13 (gI u 82 48)) 82 0 (gI (sI u 82 13 (gI u 82 48)) 82 49)) 82 50)) 82 2 (gI (sI (sI (sI u 82 13 (gI u 82 48)) 82 0 (gI (sI u 82 13 (gI u 82 48)) 82 49)) 82 1 (gI (sI (sI u 82 13 (gI u 82 48)) 82 0 (gI (sI u 82 13 (gI u 82 48)) 82 49)) 82 50)) 82 51)) 82 52)) 82 53)) 82 37 (gI (sI (sI (sI (sI (sI (sI u 82 13 (gI u 82 48)) 82 0 (gI (sI u 82 13 (gI u 82 48)) 82 49)) 82 1 (gI (sI (sI u 82 13 (gI u 82 48)) 82 0 (gI (sI u 82 13 (gI u 82 48)) 82 49)) 82 50)) 82 2 (gI (sI (sI (sI u 82 13 (gI u 82 48)) 82 0 (gI (sI u 82 13 (gI u 82 48)) 82 49)) 82 1 (gI (sI (sI u 82 13 (gI u 82 48)) 82 0 (gI (sI u 82 13 (gI u 82 48)) 82 49)) 82 50)) 82 51)) 82 3 (gI (sI (sI (sI (sI u 82 13 (gI u 82 48)) 82 0 (gI (sI u 82 13 (gI u 82 48)) 82 49)) 82 1 (gI (sI (sI u 82 13 (gI u 82 48)) 82 0 (gI (sI u 82 13 (gI u 82 48)) 82 49)) 82 50)) 82 2 (gI (sI (sI (sI u 82 13 (gI u 82 48)) 82 0 (gI (sI u 82 13 (gI u 82 48)) 82 49)) 82 1 (gI (sI (sI u 82 13 (gI u 82 48)) 82 0 (gI (sI u 82 13 (gI u 82 48)) 82 49)) 82 50)) 82 51)) 82 52)) 82 4 (gI (sI (sI (sI (sI (sI u 82 13 (gI u 82 48)) 82 0 (gI (sI u 82 13 (gI u 82 48)) 82 49)) 82 1 (gI (sI (sI u 82 13 (gI u 82 48)) 82 0 (gI (sI u 82 13 (gI u 82 48)) 82 49)) 82 50)) 82 2 (gI (sI (sI (sI u 82 13 (gI u 82 48)) 82 0 (gI (sI u 82 13 (gI u 82 48)) 82 49)) 82 1 (gI (sI (sI u 82 13 (gI u 82 48)) 82 0 (gI (sI u 82 13 (gI u 82 48)) 82 49)) 82 50)) 82 51)) 82 3 (gI (sI (sI (sI (sI u 82 13 (gI u 82 48)) 82 0 (gI (sI u 82 13 (gI u 82 48)) 82 49)) 82 1 (gI (sI (sI u 82 13 (gI u 82 48)) 82 0 (gI (sI u 82 13 (gI u 82 48)) 82 49)) 82 50)) 82 2 (gI (sI (sI (sI u 82 13 (gI u 82 48)) 82 0 (gI (sI u 82 13 (gI u 82 48)) 82 49)) 82 1 (gI (sI (sI u 82 13 (gI u 82 48)) 82 0 (gI (sI u 82 13 (gI u 82 48)) 82 49)) 82 50)) 82 51)) 82 52)) 82 53)) 82 54)) 82 55)) 82 42 (gI (sI (sI (sI (sI (sI (sI (sI (sI u 82 13 (gI u 82 48)) 82 0 (gI (sI u 82 13 (gI u 82 48)) 82 49)) 82 1 (gI (sI (sI u 82 13 (gI u 82 48)) 82 0 (gI (sI u 82 13 (gI u 82 48)) 82 49)) 82 50)) 82 2 (gI (sI (sI (sI u 82 13 (gI u 82 48)) 82 0 (gI (sI u 82 13 (gI u 82 48)) 82 49)) 82 1 (gI (sI (sI u 82 13 (gI u 82 48)) 82 0 (gI (sI u 82 13 (gI u 82 48)) 82 49)) 82 50)) 82 51)) 82 3 (gI (sI (sI (sI (sI u 82 13 (gI u 82 48)) 82 0 (gI (sI u 82 13 (gI u 82 48)) 82 49)) 82 1 (gI (sI (sI u 82 13 (gI u 82 48)) 82 0 (gI (sI u 82 13 (gI u 82 48)) 82 49)) 82 50)) 82 2 (gI (sI (sI (sI u 82 13 (gI u 82 48)) 82 0 (gI (sI u 82 13 (gI u 82 48)) 82 49)) 82 1 (gI (sI (sI u 82 13 (gI u 82 48)) 82 0 (gI (sI u 82 13 (gI u 82 48)) 82 49)) 82 50)) 82 51)) 82 52)) 82 4 (gI (sI (sI (sI (sI (sI u 82 13 (gI u 82 48)) 82 0 (gI (sI u 82 13 (gI u 82 48)) 82 49)) 82 1 (gI (sI (sI u 82 13 (gI u 82 48)) 82 0 (gI (sI u 82 13 (gI u 82 48)) 82 49)) 82 50)) 82 2 (gI (sI (sI (sI u 82 13 (gI u 82 48)) 82 0 (gI (sI u 82 13 (gI u 82 48)) 82 49)) 82 1 (gI (sI (sI u 82 13 (gI u 82 48)) 82 0 (gI (sI u 82 13 (gI u 82 48)) 82 49)) 82 50)) 82 51)) 82 3 (gI (sI (sI (sI (sI u 82 13 (gI u 82 48)) 82 0 (gI (sI u 82 13 (gI u 82 48)) 82 49)) 82 1 (gI (sI (sI u 82 13 (gI u 82 48)) 82 0 (gI (sI u 82 13 (gI u 82 48)) 82 49)) 82 50)) 82 2 (gI (sI (sI (sI u 82 13 (gI u 82 48)) 82 0 (gI (sI u 82 13 (gI u 82 48)) 82 49)) 82 1 (gI (sI (sI u 82 13 (gI u 82 48)) 82 0 (gI (sI u 82 13 (gI u 82 48)) 82 49)) 82 50)) 82 51)) 82 52)) 82 53)) 82 37 (gI (sI (sI (sI (sI (sI (sI u 82 13 (gI u 82 48)) 82 0 (gI (sI u 82 13 (gI u 82 48)) 82 49)) 82 1 (gI (sI (sI u 82 13 (gI u 82 48)) 82 0 (gI (sI u 82 13 (gI u 82 48)) 82 49)) 82 50)) 82 2 (gI (sI (sI (sI u 82 13 (gI u 82 48)) 82 0 (gI (sI u 82 13 (gI u 82 48)) 82 49)) 82 1 (gI (sI (sI u 82 13 (gI u 82 48)) 82 0 (gI (sI u 82 13 (gI u 82 48)) 82 49)) 82 50)) 82 51)) 82 3 (gI (sI (sI (sI (sI u 82 13 (gI u 82 48)) 82 0 (gI (sI u 82 13 (gI u 82 48)) 82 49)) 82 1 (gI (sI (sI u 82 13 (gI u 82 48)) 82 0 (gI (sI u 82 13 (gI u 82 48)) 82 49)) 82 50)) 82 2 (gI (sI (sI (sI u 82 13 (gI u 82 48)) 82 0 (gI (sI u 82 13 (gI u 82 48)) 82 49)) 82 1 (gI (sI (sI u 82 13 (gI u 82 48)) 82 0 (gI (sI u 82 13 (gI u 82 48)) 82 49)) 82 50)) 82 51)) 82 52)) 82 4 (gI (sI (sI (sI (sI (sI u 82 13 (gI u 82 48)) 82 0 (gI (sI u 82 13 (gI u 82 48)) 82 49)) 82 1 (gI (sI (sI u 82 13 (gI u 82 48)) 82 0 (gI (sI u 82 13 (gI u 82 48)) 82 49)) 82 50)) 82 2 (gI (sI (sI (sI u 82 13 (gI u 82 48)) 82 0 (gI (sI u 82 13 (gI u 82 48)) 82 49)) 82 1 (gI (sI (sI u 82 13 (gI u 82 48)) 82 0 (gI (sI u 82 13 (gI u 82 48)) 82 49)) 82 50)) 82 51)) 82 3 (gI (sI (sI (sI (sI u 82 13 (gI u 82 48)) 82 0 (gI (sI u 82 13 (gI u 82 48)) 82 49)) 82 1 (gI (sI (sI u 82 13 (gI u 82 48)) 82 0 (gI (sI u 82 13 (gI u 82 48)) 82 49)) 82 50)) 82 2 (gI (sI (sI (sI u 82 13 (gI u 82 48)) 82 0 (gI (sI u 82 13 (gI u 82 48)) 82 49)) 82 1 (gI (sI (sI u 82 13 (gI u 82 48)) 82 0 (gI (sI u 82 13 (gI u 82 48)) 82 49)) 82 50)) 82 51)) 82 52)) 82 53)) 82 54)) 82 41 (gI (sI (sI (sI (sI (sI (sI (sI u 82 13 (gI u 82 48)) 82 0 (gI (sI u 82 13 (gI u 82 48)) 82 49)) 82 1 (gI (sI (sI u 82 13 (gI u 82 48)) 82 0 (gI (sI u 82 13 (gI u 82 48)) 82 49)) 82 50)) 82 2 (gI (sI (sI (sI u 82 13 (gI u 82 48)) 82 0 (gI (sI u 82 13 (gI u 82 48)) 82 49)) 82 1 (gI (sI (sI u 82 13 (gI u 82 48)) 82 0 (gI (sI u 82 13 (gI u 82 48)) 82 49)) 82 50)) 82 51)) 82 3 (gI (sI (sI (sI (sI u 82 13 (gI u 82 48)) 82 0 (gI (sI u 82 13 (gI u 82 48)) 82 49)) 82 1 (gI (sI (sI u 82 13 (gI u 82 48)) 82 0 (gI (sI u 82 13 (gI u 82 48)) 82 49)) 82 50)) 82 2 (gI (sI (sI (sI u 82 13 (gI u 82 48)) 82 0 (gI (sI u 82 13 (gI u 82 48)) 82 49)) 82 1 (gI (sI (sI u 82 13 (gI u 82 48)) 82 0 (gI (sI u 82 13 (gI u 82 48)) 82 49)) 82 50)) 82 51)) 82 52)) 82 4 (gI (sI (sI (sI (sI (sI u 82 13 (gI u 82 48)) 82 0 (gI (sI u 82 13 (gI u 82 48)) 82 49)) 82 1 (gI (sI (sI u 82 13 (gI u 82 48)) 82 0 (gI (sI u 82 13 (gI u 82 48)) 82 49)) 82 50)) 82 2 (gI (sI (sI (sI u 82 13 (gI u 82 48)) 82 0 (gI (sI u 82 13 (gI u 82 48)) 82 49)) 82 1 (gI (sI (sI u 82 13 (gI u 82 48)) 82 0 (gI (sI u 82 13 (gI u 82 48)) 82 49)) 82 50)) 82 51)) 82 3 (gI (sI (sI (sI (sI u 82 13 (gI u 82 48)) 82 0 (gI (sI u 82 13 (gI u 82 48)) 82 49)) 82 1 (gI (sI (sI u 82 13 (gI u 82 48)) 82 0 (gI (sI u 82 13 (gI u 82 48)) 82 49)) 82 50)) 82 2 (gI (sI (sI (sI u 82 13 (gI u 82 48)) 82 0 (gI (sI u 82 13 (gI u 82 48)) 82 49)) 82 1 (gI (sI (sI u 82 13 (gI u 82 48)) 82 0 (gI (sI u 82 13 (gI u 82 48)) 82 49)) 82 50)) 82 51)) 82 52)) 82 53)) 82 37 (gI (sI (sI (sI (sI (sI (sI u 82 13 (gI u 82 48)) 82 0 (gI (sI u 82 13 (gI u 82 48)) 82 49)) 82 1 (gI (sI (sI u 82 13 (gI u 82 48)) 82 0 (gI (sI u 82 13 (gI u 82 48)) 82 49)) 82 50)) 82 2 (gI (sI (sI (sI u 82 13 (gI u 82 48)) 82 0 (gI (sI u 82 13 (gI u 82 48)) 82 49)) 82 1 (gI (sI (sI u 82 13 (gI u 82 48)) 82 0 (gI (sI u 82 13 (gI u 82 48)) 82 49)) 82 50)) 82 51)) 82 3 (gI (sI (sI (sI (sI u 82 13 (gI u 82 48)) 82 0 (gI (sI u 82 13 (gI u 82 48)) 82 49)) 82 1 (gI (sI (sI u 82 13 (gI u 82 48)) 82 0 (gI (sI u 82 13 (gI u 82 48)) 82 49)) 82 50)) 82 2 (gI (sI (sI (sI u 82 13 (gI u 82 48)) 82 0 (gI (sI u 82 13 (gI u 82 48)) 82 49)) 82 1 (gI (sI (sI u 82 13 (gI u 82 48)) 82 0 (gI (sI u 82 13 (gI u 82 48)) 82 49)) 82 50)) 82 51)) 82 52)) 82 4 (gI (sI (sI (sI (sI (sI u 82 13 (gI u 82 48)) 82 0 (gI (sI u 82 13 (gI u 82 48)) 82 49)) 82 1 (gI (sI (sI u 82 13 (gI u 82 48)) 82 0 (gI (sI u 82 13 (gI u 82 48)) 82 49)) 82 50)) 82 2 (gI (sI (sI (sI u 82 13 (gI u 82 48)) 82 0 (gI (sI u 82 13 (gI u 82 48)) 82 49)) 82 1 (gI (sI (sI u 82 13 (gI u 82 48)) 82 0 (gI (sI u 82 13 (gI u 82 48)) 82 49)) 82 50)) 82 51)) 82 3 (gI (sI (sI (sI (sI u 82 13 (gI u 82 48)) 82 0 (gI (sI u 82 13 (gI u 82 48)) 82 49)) 82 1 (gI (sI (sI u 82 13 (gI u 82 48)) 82 0 (gI (sI u 82 13 (gI u 82 48)) 82 49)) 82 50)) 82 2 (gI (sI (sI (sI u 82 13 (gI u 82 48)) 82 0 (gI (sI u 82 13 (gI u 82 48)) 82 49)) 82 1 (gI (sI (sI u 82 13 (gI u 82 48)) 82 0 (gI (sI u 82 13 (gI u 82 48)) 82 49)) 82 50)) 82 51)) 82 52)) 82 53)) 82 54)) 82 55)) 82 56)) _ _ ls hG (lv_sub hl [1, 0] rfl) hf
  · have hf := gif_t c1 hf
    refine lv_bipush (v := (-3 : Int32)) hx hb dX8_undo_7 (by decide) ?_
    obtain ⟨hr1, hu⟩ := gret_s hf
    subst hr1
    subst hu
    subst hQ
    exact g_iret C0 hG hr dX8_undo_9
