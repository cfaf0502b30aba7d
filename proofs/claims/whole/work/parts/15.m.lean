theorem dX7_looked_0 : decode cX7_looked 0 = .ok (.iconst 0, 1) := by decide +kernel
theorem dX7_looked_1 : decode cX7_looked 1 = .ok (.istore_n 1, 1) := by decide +kernel
theorem dX7_looked_2 : decode cX7_looked 2 = .ok (.iload_n 1, 1) := by decide +kernel
theorem dX7_looked_3 : decode cX7_looked 3 = .ok (.aload_n 0, 1) := by decide +kernel
theorem dX7_looked_4 : decode cX7_looked 4 = .ok (.getfield 27, 3) := by decide +kernel
theorem dX7_looked_7 : decode cX7_looked 7 = .ok (.getfield 224, 3) := by decide +kernel
theorem dX7_looked_10 : decode cX7_looked 10 = .ok (.getfield 208, 3) := by decide +kernel
theorem dX7_looked_13 : decode cX7_looked 13 = .ok (.if_icmp .ge 56, 3) := by decide +kernel
theorem dX7_looked_16 : decode cX7_looked 16 = .ok (.aload_n 0, 1) := by decide +kernel
theorem dX7_looked_17 : decode cX7_looked 17 = .ok (.getfield 27, 3) := by decide +kernel
theorem dX7_looked_20 : decode cX7_looked 20 = .ok (.getfield 224, 3) := by decide +kernel
theorem dX7_looked_23 : decode cX7_looked 23 = .ok (.getfield 211, 3) := by decide +kernel
theorem dX7_looked_26 : decode cX7_looked 26 = .ok (.iload_n 1, 1) := by decide +kernel
theorem dX7_looked_27 : decode cX7_looked 27 = .ok (.iaload, 1) := by decide +kernel
theorem dX7_looked_28 : decode cX7_looked 28 = .ok (.istore_n 2, 1) := by decide +kernel
theorem dX7_looked_29 : decode cX7_looked 29 = .ok (.aload_n 0, 1) := by decide +kernel
theorem dX7_looked_30 : decode cX7_looked 30 = .ok (.iload_n 2, 1) := by decide +kernel
theorem dX7_looked_31 : decode cX7_looked 31 = .ok (.invokevirtual 74, 3) := by decide +kernel
theorem dX7_looked_34 : decode cX7_looked 34 = .ok (.ifCond .eq 27, 3) := by decide +kernel
theorem dX7_looked_37 : decode cX7_looked 37 = .ok (.aload_n 0, 1) := by decide +kernel
theorem dX7_looked_38 : decode cX7_looked 38 = .ok (.getfield 12, 3) := by decide +kernel
theorem dX7_looked_41 : decode cX7_looked 41 = .ok (.getfield 88, 3) := by decide +kernel
theorem dX7_looked_44 : decode cX7_looked 44 = .ok (.iload_n 2, 1) := by decide +kernel
theorem dX7_looked_45 : decode cX7_looked 45 = .ok (.iaload, 1) := by decide +kernel
theorem dX7_looked_46 : decode cX7_looked 46 = .ok (.aload_n 0, 1) := by decide +kernel
theorem dX7_looked_47 : decode cX7_looked 47 = .ok (.getfield 27, 3) := by decide +kernel
theorem dX7_looked_50 : decode cX7_looked 50 = .ok (.getfield 224, 3) := by decide +kernel
theorem dX7_looked_53 : decode cX7_looked 53 = .ok (.getfield 214, 3) := by decide +kernel
theorem dX7_looked_56 : decode cX7_looked 56 = .ok (.iload_n 1, 1) := by decide +kernel
theorem dX7_looked_57 : decode cX7_looked 57 = .ok (.iaload, 1) := by decide +kernel
theorem dX7_looked_58 : decode cX7_looked 58 = .ok (.if_icmp .eq 5, 3) := by decide +kernel
theorem dX7_looked_61 : decode cX7_looked 61 = .ok (.iload_n 1, 1) := by decide +kernel
theorem dX7_looked_62 : decode cX7_looked 62 = .ok (.ireturn, 1) := by decide +kernel
theorem dX7_looked_63 : decode cX7_looked 63 = .ok (.iinc 1 1, 3) := by decide +kernel
theorem dX7_looked_66 : decode cX7_looked 66 = .ok (.goto (-64), 3) := by decide +kernel
theorem dX7_looked_69 : decode cX7_looked 69 = .ok (.bipush (-5), 2) := by decide +kernel
theorem dX7_looked_71 : decode cX7_looked 71 = .ok (.ireturn, 1) := by decide +kernel
def f_X7_looked_L2 (u : Mem) (x1_1 : Int32) : Option (Int32 ⊕ Int32) := (if (gI u 46 4) ≤ x1_1 then some (Sum.inr (-5 : Int32)) else gin x1_1 10 (Option.bind (f_X7_isPerson (gA u 47 x1_1.toNatClampNeg) u) (fun r4 => (if r4 = 0 then some (Sum.inr (x1_1)) else gin (gA u 47 x1_1.toNatClampNeg) 6 (gin x1_1 10 ((if (gA u 7 (gA u 47 x1_1.toNatClampNeg).toNatClampNeg) = (gA u 48 x1_1.toNatClampNeg) then some (Sum.inl (x1_1 + (1 : Int32))) else some (Sum.inr (x1_1)))))))))
def f_X7_looked (u : Mem) : Option (Int32) := whileO (fun s => f_X7_looked_L2 u s) FUEL (0 : Int32)
set_option maxHeartbeats 4000000 in
set_option maxRecDepth 100000 in
theorem k_X7_looked (l : Launch) (D : gDt) (base : Nat) (Z : gZt) (u : Mem) (r : Int32) (hf : f_X7_looked u = some r) : Met l yX7_looked (gws yX7_looked cX7_looked 3 (some .int)) (gRm 3 0 0) (gPc D base Z u [.ref (base + 0)]) (gQi D base r u) 0 0 (gF base) := by
  refine Met.ofW (cc := cX7_looked) (maxL := 3) (ret := some .int) (by decide) rfl ?_
  intro p e s m args below meth c s₁ B hml hv
  obtain ⟨rfl, C0, hG⟩ := g_enter B hml hv
  have hr := B.returns
  have C0 : gC p s m meth c _ cX7_looked 3 RX7 D base Z := C0
  have hx := C0.1
  have hb := C0.2.1
  have hl := lv_entry ([.ref (base + 0)]) (n := 3) (Nat.le_of_ble_eq_true rfl)
  rw [lg_entry_eq]
  generalize (lg_sl ([.ref (base + 0)]) ++ List.replicate (3 - (lg_sl ([.ref (base + 0)])).length) Slot.unset).toArray = ls at hl ⊢
  have hl : lv_has ls 3 [(0, .ref (base + 0))] := hl
  obtain ⟨Q, hQ⟩ : ∃ Q, Q = MQ below (gQi D base r u) ([.ref (base + 0)] : List Value).toArray s 0 0 (gF base) := ⟨_, rfl⟩
  rw [← hQ]
  change W p l e (gRm 3 0 0) s m _ below meth c _ _ _ _ _ _
  unfold f_X7_looked at hf
  refine lv_iconst (v := (0 : Int32)) hx hb dX7_looked_0 (by decide) ?_
  refine lv_istore_n (lv' := [(1, .int (0 : Int32)), (0, .ref (base + 0))]) hx hb dX7_looked_1 rfl hl (by decide) rfl (fun ls hl => ?_)
  have loop1 : ∀ (n1 : Nat) (x1_1 : Int32) (H : Heap) (locs : List Loc) (ls : Array Slot), gH D base s u H locs → lv_has ls 3 [(0, .ref (base + 0)), (1, .int x1_1)] → whileO (fun s => f_X7_looked_L2 u s) n1 x1_1 = some r → W p l e (gRm 3 0 0) s m ([.ref (base + 0)] : List Value).toArray below meth c H locs 0 0 Q (F0 m 2 ls []) := by
    intro n1
    induction n1 with
    | zero => intro x1_1 H locs ls hG hl hf; cases hf
    | succ n1 ih1 =>
      intro x1_1 H locs ls hG hl hf
      obtain ⟨X1, hf, hX1⟩ := while_s hf
      have hf : f_X7_looked_L2 u x1_1 = some X1 := hf
      unfold f_X7_looked_L2 at hf
      refine lv_iload_n hx hb dX7_looked_2 rfl (lv_at hl 1 rfl) ?_
      refine lv_aload_n hx hb dX7_looked_3 rfl (lv_at hl 0 rfl) ?_
      refine g_getSa (o := 37) (a := 37) C0 hG (L0 hG) rfl 3 (by decide) rfl rfl w_332 dX7_looked_4 ?_
      refine g_getSaN (o := 9) (a := 46) C0 hG (L37 hG) rfl 2 (by decide) rfl rfl w_250 dX7_looked_7 ?_
      refine g_getIN C0 hG (L46 hG) rfl 4 (by decide) rfl w_233 dX7_looked_10 ?_
      refine lv_icmp_ge (tgt := 69) hx hb dX7_looked_13 (by decide) (fun c2 => ?_) (fun c2 => ?_)
      · have hf := gif_t c2 hf
        refine lv_bipush (v := (-5 : Int32)) hx hb dX7_looked_69 (by decide) ?_
        have hf := while_r hX1 hf
        have hf := Option.some.inj hf
        subst hf
        subst hQ
        exact g_iret C0 hG hr dX7_looked_71
      · have hf := gif_f c2 hf
        refine lv_aload_n hx hb dX7_looked_16 rfl (lv_at hl 0 rfl) ?_
        refine g_getSa (o := 37) (a := 37) C0 hG (L0 hG) rfl 3 (by decide) rfl rfl w_332 dX7_looked_17 ?_
        refine g_getSaN (o := 9) (a := 46) C0 hG (L37 hG) rfl 2 (by decide) rfl rfl w_250 dX7_looked_20 ?_
        refine g_getSaN (o := 1) (a := 47) C0 hG (L46 hG) rfl 0 (by decide) rfl rfl w_226 dX7_looked_23 ?_
        refine lv_iload_n hx hb dX7_looked_26 rfl (lv_at hl 1 rfl) ?_
        obtain ⟨h3, hf⟩ := gin_s hf
        refine g_iald C0 hG (L47 hG) h3 dX7_looked_27 ?_
        refine lv_istore_n (lv' := [(2, .int (gA u 47 x1_1.toNatClampNeg)), (0, .ref (base + 0)), (1, .int x1_1)]) hx hb dX7_looked_28 rfl hl (by decide) rfl (fun ls hl => ?_)
        refine lv_aload_n hx hb dX7_looked_29 rfl (lv_at hl 1 rfl) ?_
        refine lv_iload_n hx hb dX7_looked_30 rfl (lv_at hl 0 rfl) ?_
        obtain ⟨r4, hc4, hf⟩ := pb_s hf
        refine g_doI0 hG (g_runV C0 hG (k_X7_isPerson l D base Z u (gA u 47 x1_1.toNatClampNeg) r4 hc4) m_X7_isPerson v_X7_isPerson w_378 (by decide) (g_recv C0 hG (L0 hG) rfl) rfl hl.1 rfl (Nat.le_of_ble_eq_true rfl) dX7_looked_31 ⟨Nat.zero_le _, Nat.zero_le _⟩) (fun H locs hG hk => ?_)
        refine lv_if_eq (tgt := 61) hx hb dX7_looked_34 (by decide) (fun c5 => ?_) (fun c5 => ?_)
        · have hf := gif_t c5 hf
          refine lv_iload_n hx hb dX7_looked_61 rfl (lv_at hl 2 rfl) ?_
          have hf := while_r hX1 hf
          have hf := Option.some.inj hf
          subst hf
          subst hQ
          exact g_iret C0 hG hr dX7_looked_62
        · have hf := gif_f c5 hf
          refine lv_aload_n hx hb dX7_looked_37 rfl (lv_at hl 1 rfl) ?_
          refine g_getSa (o := 1) (a := 1) C0 hG (L0 hG) rfl 0 (by decide) rfl rfl w_329 dX7_looked_38 ?_
          refine g_getSaN (o := 6) (a := 7) C0 hG (L1 hG) rfl 5 (by decide) rfl rfl w_165 dX7_looked_41 ?_
          refine lv_iload_n hx hb dX7_looked_44 rfl (lv_at hl 0 rfl) ?_
          obtain ⟨h6, hf⟩ := gin_s hf
          refine g_iald C0 hG (L7 hG) h6 dX7_looked_45 ?_
          refine lv_aload_n hx hb dX7_looked_46 rfl (lv_at hl 1 rfl) ?_
          refine g_getSa (o := 37) (a := 37) C0 hG (L0 hG) rfl 3 (by decide) rfl rfl w_332 dX7_looked_47 ?_
          refine g_getSaN (o := 9) (a := 46) C0 hG (L37 hG) rfl 2 (by decide) rfl rfl w_250 dX7_looked_50 ?_
          refine g_getSaN (o := 2) (a := 48) C0 hG (L46 hG) rfl 1 (by decide) rfl rfl w_228 dX7_looked_53 ?_
          refine lv_iload_n hx hb dX7_looked_56 rfl (lv_at hl 2 rfl) ?_
          obtain ⟨h7, hf⟩ := gin_s hf
          refine g_iald C0 hG (L48 hG) h7 dX7_looked_57 ?_
          refine lv_icmp_eq (tgt := 63) hx hb dX7_looked_58 (by decide) (fun c8 => ?_) (fun c8 => ?_)
          · have hf := gif_t c8 hf
            refine lv_iinc (v := x1_1 + (1 : Int32)) (lv' := [(1, .int (x1_1 + (1 : Int32))), (2, .int (gA u 47 x1_1.toNatClampNeg)), (0, .ref (base + 0))]) hx hb dX7_looked_63 hl (k := 2) rfl rfl (by decide) rfl (fun ls hl => ?_)
            refine lv_goto (tgt := 2) hx hb dX7_looked_66 (by decide) ?_
            have hf := while_l hX1 hf
            exact ih1 (x1_1 + (1 : Int32)) _ _ ls hG (lv_sub hl [2, 0] rfl) hf
          · have hf := gif_f c8 hf
            refine lv_iload_n hx hb dX7_looked_61 rfl (lv_at hl 2 rfl) ?_
            have hf := while_r hX1 hf
            have hf := Option.some.inj hf
            subst hf
            subst hQ
            exact g_iret C0 hG hr dX7_looked_62
  exact loop1 FUEL (0 : Int32) _ _ ls hG (lv_sub hl [1, 0] rfl) hf
theorem dX7_tapeAt_0 : decode cX7_tapeAt 0 = .ok (.iload_n 1, 1) := by decide +kernel
theorem dX7_tapeAt_1 : decode cX7_tapeAt 1 = .ok (.bipush 6, 2) := by decide +kernel
theorem dX7_tapeAt_3 : decode cX7_tapeAt 3 = .ok (.invokestatic 63, 3) := by decide +kernel
theorem dX7_tapeAt_6 : decode cX7_tapeAt 6 = .ok (.ifCond .eq 12, 3) := by decide +kernel
theorem dX7_tapeAt_9 : decode cX7_tapeAt 9 = .ok (.aload_n 0, 1) := by decide +kernel
theorem dX7_tapeAt_10 : decode cX7_tapeAt 10 = .ok (.getfield 58, 3) := by decide +kernel
theorem dX7_tapeAt_13 : decode cX7_tapeAt 13 = .ok (.iload_n 1, 1) := by decide +kernel
theorem dX7_tapeAt_14 : decode cX7_tapeAt 14 = .ok (.aaload, 1) := by decide +kernel
theorem dX7_tapeAt_15 : decode cX7_tapeAt 15 = .ok (.goto 4, 3) := by decide +kernel
theorem dX7_tapeAt_18 : decode cX7_tapeAt 18 = .ok (.aconst_null, 1) := by decide +kernel
theorem dX7_tapeAt_19 : decode cX7_tapeAt 19 = .ok (.areturn, 1) := by decide +kernel
def f_X7_tapeAt (p1 : Int32) (u : Mem) : Option (Option Nat) := Option.bind (f_X7_isWithin p1 (6 : Int32)) (fun r1 => (if r1 = 0 then some none else gin p1 6 (some (some (69 + 1 + 2 * p1.toNatClampNeg)))))
set_option maxHeartbeats 4000000 in
set_option maxRecDepth 100000 in
theorem k_X7_tapeAt (l : Launch) (D : gDt) (base : Nat) (Z : gZt) (u : Mem) (p1 : Int32) (r : Option Nat) (hf : f_X7_tapeAt p1 u = some r) : Met l yX7_tapeAt (gws yX7_tapeAt cX7_tapeAt 2 (some (.object "GossipTrain$Tape"))) (gRm 2 0 0) (gPc D base Z u [.ref (base + 0), .int p1]) (gQq D base r u) 0 0 (gF base) := by
  refine Met.ofW (cc := cX7_tapeAt) (maxL := 2) (ret := some (.object "GossipTrain$Tape")) (by decide) rfl ?_
  intro p e s m args below meth c s₁ B hml hv
  obtain ⟨rfl, C0, hG⟩ := g_enter B hml hv
  have hr := B.returns
  have C0 : gC p s m meth c _ cX7_tapeAt 2 RX7 D base Z := C0
  have hx := C0.1
  have hb := C0.2.1
  have hl := lv_entry ([.ref (base + 0), .int p1]) (n := 2) (Nat.le_of_ble_eq_true rfl)
  rw [lg_entry_eq]
  generalize (lg_sl ([.ref (base + 0), .int p1]) ++ List.replicate (2 - (lg_sl ([.ref (base + 0), .int p1])).length) Slot.unset).toArray = ls at hl ⊢
  have hl : lv_has ls 2 [(0, .ref (base + 0)), (1, .int p1)] := hl
  obtain ⟨Q, hQ⟩ : ∃ Q, Q = MQ below (gQq D base r u) ([.ref (base + 0), .int p1] : List Value).toArray s 0 0 (gF base) := ⟨_, rfl⟩
  rw [← hQ]
  change W p l e (gRm 2 0 0) s m _ below meth c _ _ _ _ _ _
  unfold f_X7_tapeAt at hf
  refine lv_iload_n hx hb dX7_tapeAt_0 rfl (lv_at hl 1 rfl) ?_
  refine lv_bipush (v := (6 : Int32)) hx hb dX7_tapeAt_1 (by decide) ?_
  obtain ⟨r1, hc1, hf⟩ := pb_s hf
  refine g_doI0 hG (g_runS C0 hG (k_X7_isWithin l D base Z u p1 (6 : Int32) r1 hc1) m_X7_isWithin s_X7_isWithin w_364 (by decide) rfl hl.1 rfl (Nat.le_of_ble_eq_true rfl) dX7_tapeAt_3 ⟨Nat.zero_le _, Nat.zero_le _⟩) (fun H locs hG hk => ?_)
  refine lv_if_eq (tgt := 18) hx hb dX7_tapeAt_6 (by decide) (fun c2 => ?_) (fun c2 => ?_)
  · have hf := gif_t c2 hf
    refine lv_null hx hb dX7_tapeAt_18 ?_
    have hf := Option.some.inj hf
    subst hf
    subst hQ
    exact g_nret C0 hG hr dX7_tapeAt_19
  · have hf := gif_f c2 hf
    refine lv_aload_n hx hb dX7_tapeAt_9 rfl (lv_at hl 0 rfl) ?_
    refine g_getSa (o := 69) (a := 69) C0 hG (L0 hG) rfl 9 (by decide) rfl rfl w_338 dX7_tapeAt_10 ?_
    refine lv_iload_n hx hb dX7_tapeAt_13 rfl (lv_at hl 1 rfl) ?_
    obtain ⟨h3, hf⟩ := gin_s hf
    refine g_aald C0 hG (L69 hG) h3 dX7_tapeAt_14 ?_
    refine lv_goto (tgt := 19) hx hb dX7_tapeAt_15 (by decide) ?_
    have hf := Option.some.inj hf
    subst hf
    subst hQ
    exact g_aret C0 hG hr dX7_tapeAt_19
theorem dX7_judge_0 : decode cX7_judge 0 = .ok (.aload_n 0, 1) := by decide +kernel
theorem dX7_judge_1 : decode cX7_judge 1 = .ok (.iload_n 1, 1) := by decide +kernel
theorem dX7_judge_2 : decode cX7_judge 2 = .ok (.invokevirtual 227, 3) := by decide +kernel
theorem dX7_judge_5 : decode cX7_judge 5 = .ok (.astore_n 3, 1) := by decide +kernel
theorem dX7_judge_6 : decode cX7_judge 6 = .ok (.aload_n 3, 1) := by decide +kernel
theorem dX7_judge_7 : decode cX7_judge 7 = .ok (.ifnonnull 5, 3) := by decide +kernel
theorem dX7_judge_10 : decode cX7_judge 10 = .ok (.iconst (-1), 1) := by decide +kernel
theorem dX7_judge_11 : decode cX7_judge 11 = .ok (.ireturn, 1) := by decide +kernel
theorem dX7_judge_12 : decode cX7_judge 12 = .ok (.aload_n 3, 1) := by decide +kernel
theorem dX7_judge_13 : decode cX7_judge 13 = .ok (.getfield 231, 3) := by decide +kernel
theorem dX7_judge_16 : decode cX7_judge 16 = .ok (.iconst (-1), 1) := by decide +kernel
theorem dX7_judge_17 : decode cX7_judge 17 = .ok (.if_icmp .eq 14, 3) := by decide +kernel
theorem dX7_judge_20 : decode cX7_judge 20 = .ok (.aload_n 3, 1) := by decide +kernel
theorem dX7_judge_21 : decode cX7_judge 21 = .ok (.getfield 231, 3) := by decide +kernel
theorem dX7_judge_24 : decode cX7_judge 24 = .ok (.iconst 1, 1) := by decide +kernel
theorem dX7_judge_25 : decode cX7_judge 25 = .ok (.if_icmp .eq 6, 3) := by decide +kernel
theorem dX7_judge_28 : decode cX7_judge 28 = .ok (.bipush (-12), 2) := by decide +kernel
theorem dX7_judge_30 : decode cX7_judge 30 = .ok (.ireturn, 1) := by decide +kernel
theorem dX7_judge_31 : decode cX7_judge 31 = .ok (.aload_n 0, 1) := by decide +kernel
theorem dX7_judge_32 : decode cX7_judge 32 = .ok (.getfield 12, 3) := by decide +kernel
theorem dX7_judge_35 : decode cX7_judge 35 = .ok (.getfield 175, 3) := by decide +kernel
theorem dX7_judge_38 : decode cX7_judge 38 = .ok (.ifCond .ne 6, 3) := by decide +kernel
theorem dX7_judge_41 : decode cX7_judge 41 = .ok (.bipush (-5), 2) := by decide +kernel
theorem dX7_judge_43 : decode cX7_judge 43 = .ok (.ireturn, 1) := by decide +kernel
theorem dX7_judge_44 : decode cX7_judge 44 = .ok (.aload_n 3, 1) := by decide +kernel
theorem dX7_judge_45 : decode cX7_judge 45 = .ok (.iload_n 2, 1) := by decide +kernel
theorem dX7_judge_46 : decode cX7_judge 46 = .ok (.invokevirtual 234, 3) := by decide +kernel
theorem dX7_judge_49 : decode cX7_judge 49 = .ok (.istore 4, 2) := by decide +kernel
theorem dX7_judge_51 : decode cX7_judge 51 = .ok (.iconst 0, 1) := by decide +kernel
theorem dX7_judge_52 : decode cX7_judge 52 = .ok (.istore 5, 2) := by decide +kernel
theorem dX7_judge_54 : decode cX7_judge 54 = .ok (.iload 5, 2) := by decide +kernel
theorem dX7_judge_56 : decode cX7_judge 56 = .ok (.aload_n 0, 1) := by decide +kernel
theorem dX7_judge_57 : decode cX7_judge 57 = .ok (.getfield 12, 3) := by decide +kernel
theorem dX7_judge_60 : decode cX7_judge 60 = .ok (.getfield 175, 3) := by decide +kernel
theorem dX7_judge_63 : decode cX7_judge 63 = .ok (.if_icmp .ge 49, 3) := by decide +kernel
theorem dX7_judge_66 : decode cX7_judge 66 = .ok (.iload 5, 2) := by decide +kernel
theorem dX7_judge_68 : decode cX7_judge 68 = .ok (.iload 4, 2) := by decide +kernel
theorem dX7_judge_70 : decode cX7_judge 70 = .ok (.if_icmp .lt 9, 3) := by decide +kernel
theorem dX7_judge_73 : decode cX7_judge 73 = .ok (.bipush 100, 2) := by decide +kernel
theorem dX7_judge_75 : decode cX7_judge 75 = .ok (.iload 5, 2) := by decide +kernel
theorem dX7_judge_77 : decode cX7_judge 77 = .ok (.iadd, 1) := by decide +kernel
theorem dX7_judge_78 : decode cX7_judge 78 = .ok (.ireturn, 1) := by decide +kernel
theorem dX7_judge_79 : decode cX7_judge 79 = .ok (.aload_n 3, 1) := by decide +kernel
theorem dX7_judge_80 : decode cX7_judge 80 = .ok (.getfield 237, 3) := by decide +kernel
theorem dX7_judge_83 : decode cX7_judge 83 = .ok (.iload_n 2, 1) := by decide +kernel
theorem dX7_judge_84 : decode cX7_judge 84 = .ok (.iload 5, 2) := by decide +kernel
theorem dX7_judge_86 : decode cX7_judge 86 = .ok (.iadd, 1) := by decide +kernel
theorem dX7_judge_87 : decode cX7_judge 87 = .ok (.laload, 1) := by decide +kernel
theorem dX7_judge_88 : decode cX7_judge 88 = .ok (.aload_n 0, 1) := by decide +kernel
theorem dX7_judge_89 : decode cX7_judge 89 = .ok (.getfield 12, 3) := by decide +kernel
theorem dX7_judge_92 : decode cX7_judge 92 = .ok (.getfield 88, 3) := by decide +kernel
theorem dX7_judge_95 : decode cX7_judge 95 = .ok (.iload 5, 2) := by decide +kernel
theorem dX7_judge_97 : decode cX7_judge 97 = .ok (.iaload, 1) := by decide +kernel
theorem dX7_judge_98 : decode cX7_judge 98 = .ok (.i2l, 1) := by decide +kernel
theorem dX7_judge_99 : decode cX7_judge 99 = .ok (.lcmp, 1) := by decide +kernel
theorem dX7_judge_100 : decode cX7_judge 100 = .ok (.ifCond .eq 6, 3) := by decide +kernel
theorem dX7_judge_103 : decode cX7_judge 103 = .ok (.iload 5, 2) := by decide +kernel
theorem dX7_judge_105 : decode cX7_judge 105 = .ok (.ireturn, 1) := by decide +kernel
theorem dX7_judge_106 : decode cX7_judge 106 = .ok (.iinc 5 1, 3) := by decide +kernel
theorem dX7_judge_109 : decode cX7_judge 109 = .ok (.goto (-55), 3) := by decide +kernel
theorem dX7_judge_112 : decode cX7_judge 112 = .ok (.bipush (-5), 2) := by decide +kernel
theorem dX7_judge_114 : decode cX7_judge 114 = .ok (.ireturn, 1) := by decide +kernel
def f_X7_judge_L54 (u : Mem) (r4 : Int32) (p2 : Int32) (b1 : Nat) (x5_5 : Int32) : Option (Int32 ⊕ Int32) := (if (gI u 1 9) ≤ x5_5 then some (Sum.inr (-5 : Int32)) else (if x5_5 < r4 then gin (p2 + x5_5) 60 (gin x5_5 6 ((if (lg_cmp (gL u (b1 + 1) (p2 + x5_5).toNatClampNeg) ((gA u 7 x5_5.toNatClampNeg).toInt64)) = 0 then some (Sum.inl (x5_5 + (1 : Int32))) else some (Sum.inr (x5_5))))) else some (Sum.inr ((100 : Int32) + x5_5))))
def f_X7_judge_L54b (u : Mem) (r13 : Int32) (p2 : Int32) (b1 : Nat) (x5_14 : Int32) : Option (Int32 ⊕ Int32) := (if (gI u 1 9) ≤ x5_14 then some (Sum.inr (-5 : Int32)) else (if x5_14 < r13 then gin (p2 + x5_14) 60 (gin x5_14 6 ((if (lg_cmp (gL u (b1 + 1) (p2 + x5_14).toNatClampNeg) ((gA u 7 x5_14.toNatClampNeg).toInt64)) = 0 then some (Sum.inl (x5_14 + (1 : Int32))) else some (Sum.inr (x5_14))))) else some (Sum.inr ((100 : Int32) + x5_14))))
def f_X7_judge (p1 : Int32) (p2 : Int32) (u : Mem) : Option (Int32) := Option.bind (f_X7_tapeAt p1 u) (fun r1 => omat r1 (some (-1 : Int32)) (fun b1 => gob 129 b1 l5 ((if (gI u b1 1) = (-1 : Int32) then (if (gI u 1 9) = 0 then some (-5 : Int32) else Option.bind (f_X5_countFrom b1 p2 u) (fun r4 => whileO (fun s => f_X7_judge_L54 u r4 p2 b1 s) FUEL (0 : Int32))) else (if (gI u b1 1) = (1 : Int32) then (if (gI u 1 9) = 0 then some (-5 : Int32) else Option.bind (f_X5_countFrom b1 p2 u) (fun r13 => whileO (fun s => f_X7_judge_L54b u r13 p2 b1 s) FUEL (0 : Int32))) else some (-12 : Int32))))))
set_option maxHeartbeats 4000000 in
set_option maxRecDepth 100000 in
theorem k_X7_judge (l : Launch) (D : gDt) (base : Nat) (Z : gZt) (u : Mem) (p1 : Int32) (p2 : Int32) (r : Int32) (hf : f_X7_judge p1 p2 u = some r) : Met l yX7_judge (gws yX7_judge cX7_judge 6 (some .int)) (gRm 3 0 0) (gPc D base Z u [.ref (base + 0), .int p1, .int p2]) (gQi D base r u) 0 0 (gF base) := by
  refine Met.ofW (cc := cX7_judge) (maxL := 6) (ret := some .int) (by decide) rfl ?_
  intro p e s m args below meth c s₁ B hml hv
  obtain ⟨rfl, C0, hG⟩ := g_enter B hml hv
  have hr := B.returns
  have C0 : gC p s m meth c _ cX7_judge 6 RX7 D base Z := C0
  have hx := C0.1
  have hb := C0.2.1
  have hl := lv_entry ([.ref (base + 0), .int p1, .int p2]) (n := 6) (Nat.le_of_ble_eq_true rfl)
  rw [lg_entry_eq]
  generalize (lg_sl ([.ref (base + 0), .int p1, .int p2]) ++ List.replicate (6 - (lg_sl ([.ref (base + 0), .int p1, .int p2])).length) Slot.unset).toArray = ls at hl ⊢
  have hl : lv_has ls 6 [(0, .ref (base + 0)), (1, .int p1), (2, .int p2)] := hl
  obtain ⟨Q, hQ⟩ : ∃ Q, Q = MQ below (gQi D base r u) ([.ref (base + 0), .int p1, .int p2] : List Value).toArray s 0 0 (gF base) := ⟨_, rfl⟩
  rw [← hQ]
  change W p l e (gRm 3 0 0) s m _ below meth c _ _ _ _ _ _
  unfold f_X7_judge at hf
  refine lv_aload_n hx hb dX7_judge_0 rfl (lv_at hl 0 rfl) ?_
  refine lv_iload_n hx hb dX7_judge_1 rfl (lv_at hl 1 rfl) ?_
  obtain ⟨r1, hc1, hf⟩ := pb_s hf
  refine g_doQ0 hG (g_runV C0 hG (k_X7_tapeAt l D base Z u p1 r1 hc1) m_X7_tapeAt v_X7_tapeAt w_750 (by decide) (g_recv C0 hG (L0 hG) rfl) rfl hl.1 rfl (Nat.le_of_ble_eq_true rfl) dX7_judge_2 ⟨Nat.zero_le _, Nat.zero_le _⟩) (fun H locs hG hk => ?_)
  cases r1 with
  | none =>
    have hf := omat_n hf
    change W p l e (gRm 3 0 0) s m _ below meth c _ _ _ _ _ (F0 m _ ls (.null :: _))
    refine lv_astore_nN (lv' := [(3, .null), (0, .ref (base + 0)), (1, .int p1), (2, .int p2)]) hx hb dX7_judge_5 rfl hl (by decide) rfl (fun ls hl => ?_)
    refine lv_aload_nN hx hb dX7_judge_6 rfl (lv_at hl 0 rfl) ?_
    refine lv_ifnonnullN hx hb dX7_judge_7 ?_
    refine lv_iconst (v := (-1 : Int32)) hx hb dX7_judge_10 (by decide) ?_
    have hf := Option.some.inj hf
    subst hf
    subst hQ
    exact g_iret C0 hG hr dX7_judge_11
  | some b1 =>
    have hf := omat_v hf
    obtain ⟨ho1, hf⟩ := gob_s hf
    change W p l e (gRm 3 0 0) s m _ below meth c _ _ _ _ _ (F0 m _ ls (.ref (base + b1) :: _))
    refine lv_astore_n (lv' := [(3, .ref (base + b1)), (0, .ref (base + 0)), (1, .int p1), (2, .int p2)]) hx hb dX7_judge_5 rfl hl (by decide) rfl (fun ls hl => ?_)
    refine lv_aload_n hx hb dX7_judge_6 rfl (lv_at hl 0 rfl) ?_
    refine lv_ifnonnull (tgt := 12) hx hb dX7_judge_7 (by decide) ?_
    refine lv_aload_n hx hb dX7_judge_12 rfl (lv_at hl 0 rfl) ?_
    refine g_getIN C0 hG (T5_0 hG ho1) rfl 1 (by decide) rfl w_318 dX7_judge_13 ?_
    refine lv_iconst (v := (-1 : Int32)) hx hb dX7_judge_16 (by decide) ?_
    refine lv_icmp_eq (tgt := 31) hx hb dX7_judge_17 (by decide) (fun c2 => ?_) (fun c2 => ?_)
    · have hf := gif_t c2 hf
      refine lv_aload_n hx hb dX7_judge_31 rfl (lv_at hl 1 rfl) ?_
      refine g_getSa (o := 1) (a := 1) C0 hG (L0 hG) rfl 0 (by decide) rfl rfl w_329 dX7_judge_32 ?_
      refine g_getIN C0 hG (L1 hG) rfl 9 (by decide) rfl w_172 dX7_judge_35 ?_
      refine lv_if_ne (tgt := 44) hx hb dX7_judge_38 (by decide) (fun c3 => ?_) (fun c3 => ?_)
      · have hf := gif_f c3 hf
        refine lv_aload_n hx hb dX7_judge_44 rfl (lv_at hl 0 rfl) ?_
        refine lv_iload_n hx hb dX7_judge_45 rfl (lv_at hl 3 rfl) ?_
        obtain ⟨r4, hc4, hf⟩ := pb_s hf
        refine g_doI0 hG (g_runVN C0 hG (k_X5_countFrom l D base Z u b1 p2 r4 ho1 hc4) m_X5_countFrom v_X5_countFrom w_754 (by decide) (g_recv C0 hG (T5_0 hG ho1) rfl) rfl hl.1 rfl (Nat.le_of_ble_eq_true rfl) dX7_judge_46 ⟨Nat.zero_le _, Nat.zero_le _⟩) (fun H locs hG hk => ?_)
        refine lv_istore (lv' := [(4, .int r4), (3, .ref (base + b1)), (0, .ref (base + 0)), (1, .int p1), (2, .int p2)]) hx hb dX7_judge_49 hl (by decide) rfl (fun ls hl => ?_)
        refine lv_iconst (v := (0 : Int32)) hx hb dX7_judge_51 (by decide) ?_
        refine lv_istore (lv' := [(5, .int (0 : Int32)), (4, .int r4), (3, .ref (base + b1)), (0, .ref (base + 0)), (1, .int p1), (2, .int p2)]) hx hb dX7_judge_52 hl (by decide) rfl (fun ls hl => ?_)
        have loop5 : ∀ (n5 : Nat) (x5_5 : Int32) (H : Heap) (locs : List Loc) (ls : Array Slot), gH D base s u H locs → lv_has ls 6 [(0, .ref (base + 0)), (2, .int p2), (3, .ref (base + b1)), (4, .int r4), (5, .int x5_5)] → whileO (fun s => f_X7_judge_L54 u r4 p2 b1 s) n5 x5_5 = some r → W p l e (gRm 3 0 0) s m ([.ref (base + 0), .int p1, .int p2] : List Value).toArray below meth c H locs 0 0 Q (F0 m 54 ls []) := by
          intro n5
          induction n5 with
          | zero => intro x5_5 H locs ls hG hl hf; cases hf
          | succ n5 ih5 =>
            intro x5_5 H locs ls hG hl hf
            obtain ⟨X5, hf, hX5⟩ := while_s hf
            have hf : f_X7_judge_L54 u r4 p2 b1 x5_5 = some X5 := hf
            unfold f_X7_judge_L54 at hf
            refine lv_iload hx hb dX7_judge_54 (lv_at hl 4 rfl) ?_
            refine lv_aload_n hx hb dX7_judge_56 rfl (lv_at hl 0 rfl) ?_
            refine g_getSa (o := 1) (a := 1) C0 hG (L0 hG) rfl 0 (by decide) rfl rfl w_329 dX7_judge_57 ?_
            refine g_getIN C0 hG (L1 hG) rfl 9 (by decide) rfl w_172 dX7_judge_60 ?_
            refine lv_icmp_ge (tgt := 112) hx hb dX7_judge_63 (by decide) (fun c6 => ?_) (fun c6 => ?_)
            · have hf := gif_t c6 hf
              refine lv_bipush (v := (-5 : Int32)) hx hb dX7_judge_112 (by decide) ?_
              have hf := while_r hX5 hf
              have hf := Option.some.inj hf
              subst hf
              subst hQ
              exact g_iret C0 hG hr dX7_judge_114
            · have hf := gif_f c6 hf
              refine lv_iload hx hb dX7_judge_66 (lv_at hl 4 rfl) ?_
              refine lv_iload hx hb dX7_judge_68 (lv_at hl 3 rfl) ?_
              refine lv_icmp_lt (tgt := 79) hx hb dX7_judge_70 (by decide) (fun c7 => ?_) (fun c7 => ?_)
              · have hf := gif_t c7 hf
                refine lv_aload_n hx hb dX7_judge_79 rfl (lv_at hl 2 rfl) ?_
                refine g_getSaN (o := 1) (a := (b1 + 1)) C0 hG (T5_0 hG ho1) rfl 0 (by decide) rfl rfl w_316 dX7_judge_80 ?_
                refine lv_iload_n hx hb dX7_judge_83 rfl (lv_at hl 1 rfl) ?_
                refine lv_iload hx hb dX7_judge_84 (lv_at hl 4 rfl) ?_
                refine lv_iadd hx hb dX7_judge_86 ?_
                obtain ⟨h8, hf⟩ := gin_s hf
                refine g_lald C0 hG (T5_1 hG ho1) h8 dX7_judge_87 ?_
                refine lv_aload_n hx hb dX7_judge_88 rfl (lv_at hl 0 rfl) ?_
                refine g_getSa (o := 1) (a := 1) C0 hG (L0 hG) rfl 0 (by decide) rfl rfl w_329 dX7_judge_89 ?_
                refine g_getSaN (o := 6) (a := 7) C0 hG (L1 hG) rfl 5 (by decide) rfl rfl w_165 dX7_judge_92 ?_
                refine lv_iload hx hb dX7_judge_95 (lv_at hl 4 rfl) ?_
                obtain ⟨h9, hf⟩ := gin_s hf
                refine g_iald C0 hG (L7 hG) h9 dX7_judge_97 ?_
                refine lv_i2l (v := (gA u 7 x5_5.toNatClampNeg).toInt64) hx hb dX7_judge_98 rfl ?_
                refine W.lcmp hx hb dX7_judge_99 ?_
                refine lv_if_eq (tgt := 106) hx hb dX7_judge_100 (by decide) (fun c10 => ?_) (fun c10 => ?_)
                · have hf := gif_t c10 hf
                  refine lv_iinc (v := x5_5 + (1 : Int32)) (lv' := [(5, .int (x5_5 + (1 : Int32))), (0, .ref (base + 0)), (2, .int p2), (3, .ref (base + b1)), (4, .int r4)]) hx hb dX7_judge_106 hl (k := 4) rfl rfl (by decide) rfl (fun ls hl => ?_)
                  refine lv_goto (tgt := 54) hx hb dX7_judge_109 (by decide) ?_
                  have hf := while_l hX5 hf
                  exact ih5 (x5_5 + (1 : Int32)) _ _ ls hG (lv_sub hl [1, 2, 3, 4, 0] rfl) hf
                · have hf := gif_f c10 hf
                  refine lv_iload hx hb dX7_judge_103 (lv_at hl 4 rfl) ?_
                  have hf := while_r hX5 hf
                  have hf := Option.some.inj hf
                  subst hf
                  subst hQ
                  exact g_iret C0 hG hr dX7_judge_105
              · have hf := gif_f c7 hf
                refine lv_bipush (v := (100 : Int32)) hx hb dX7_judge_73 (by decide) ?_
                refine lv_iload hx hb dX7_judge_75 (lv_at hl 4 rfl) ?_
                refine lv_iadd hx hb dX7_judge_77 ?_
                have hf := while_r hX5 hf
                have hf := Option.some.inj hf
                subst hf
                subst hQ
                exact g_iret C0 hG hr dX7_judge_78
        exact loop5 FUEL (0 : Int32) _ _ ls hG (lv_sub hl [3, 5, 2, 1, 0] rfl) hf
      · have hf := gif_t c3 hf
        refine lv_bipush (v := (-5 : Int32)) hx hb dX7_judge_41 (by decide) ?_
        have hf := Option.some.inj hf
        subst hf
        subst hQ
        exact g_iret C0 hG hr dX7_judge_43
    · have hf := gif_f c2 hf
      refine lv_aload_n hx hb dX7_judge_20 rfl (lv_at hl 0 rfl) ?_
      refine g_getIN C0 hG (T5_0 hG ho1) rfl 1 (by decide) rfl w_318 dX7_judge_21 ?_
      refine lv_iconst (v := (1 : Int32)) hx hb dX7_judge_24 (by decide) ?_
      refine lv_icmp_eq (tgt := 31) hx hb dX7_judge_25 (by decide) (fun c11 => ?_) (fun c11 => ?_)
      · have hf := gif_t c11 hf
        refine lv_aload_n hx hb dX7_judge_31 rfl (lv_at hl 1 rfl) ?_
        refine g_getSa (o := 1) (a := 1) C0 hG (L0 hG) rfl 0 (by decide) rfl rfl w_329 dX7_judge_32 ?_
        refine g_getIN C0 hG (L1 hG) rfl 9 (by decide) rfl w_172 dX7_judge_35 ?_
        refine lv_if_ne (tgt := 44) hx hb dX7_judge_38 (by decide) (fun c12 => ?_) (fun c12 => ?_)
        · have hf := gif_f c12 hf
          refine lv_aload_n hx hb dX7_judge_44 rfl (lv_at hl 0 rfl) ?_
          refine lv_iload_n hx hb dX7_judge_45 rfl (lv_at hl 3 rfl) ?_
          obtain ⟨r13, hc13, hf⟩ := pb_s hf
          refine g_doI0 hG (g_runVN C0 hG (k_X5_countFrom l D base Z u b1 p2 r13 ho1 hc13) m_X5_countFrom v_X5_countFrom w_754 (by decide) (g_recv C0 hG (T5_0 hG ho1) rfl) rfl hl.1 rfl (Nat.le_of_ble_eq_true rfl) dX7_judge_46 ⟨Nat.zero_le _, Nat.zero_le _⟩) (fun H locs hG hk => ?_)
          refine lv_istore (lv' := [(4, .int r13), (3, .ref (base + b1)), (0, .ref (base + 0)), (1, .int p1), (2, .int p2)]) hx hb dX7_judge_49 hl (by decide) rfl (fun ls hl => ?_)
          refine lv_iconst (v := (0 : Int32)) hx hb dX7_judge_51 (by decide) ?_
          refine lv_istore (lv' := [(5, .int (0 : Int32)), (4, .int r13), (3, .ref (base + b1)), (0, .ref (base + 0)), (1, .int p1), (2, .int p2)]) hx hb dX7_judge_52 hl (by decide) rfl (fun ls hl => ?_)
          have loop14 : ∀ (n14 : Nat) (x5_14 : Int32) (H : Heap) (locs : List Loc) (ls : Array Slot), gH D base s u H locs → lv_has ls 6 [(0, .ref (base + 0)), (2, .int p2), (3, .ref (base + b1)), (4, .int r13), (5, .int x5_14)] → whileO (fun s => f_X7_judge_L54b u r13 p2 b1 s) n14 x5_14 = some r → W p l e (gRm 3 0 0) s m ([.ref (base + 0), .int p1, .int p2] : List Value).toArray below meth c H locs 0 0 Q (F0 m 54 ls []) := by
            intro n14
            induction n14 with
            | zero => intro x5_14 H locs ls hG hl hf; cases hf
            | succ n14 ih14 =>
              intro x5_14 H locs ls hG hl hf
              obtain ⟨X14, hf, hX14⟩ := while_s hf
              have hf : f_X7_judge_L54b u r13 p2 b1 x5_14 = some X14 := hf
              unfold f_X7_judge_L54b at hf
              refine lv_iload hx hb dX7_judge_54 (lv_at hl 4 rfl) ?_
              refine lv_aload_n hx hb dX7_judge_56 rfl (lv_at hl 0 rfl) ?_
              refine g_getSa (o := 1) (a := 1) C0 hG (L0 hG) rfl 0 (by decide) rfl rfl w_329 dX7_judge_57 ?_
              refine g_getIN C0 hG (L1 hG) rfl 9 (by decide) rfl w_172 dX7_judge_60 ?_
              refine lv_icmp_ge (tgt := 112) hx hb dX7_judge_63 (by decide) (fun c15 => ?_) (fun c15 => ?_)
              · have hf := gif_t c15 hf
                refine lv_bipush (v := (-5 : Int32)) hx hb dX7_judge_112 (by decide) ?_
                have hf := while_r hX14 hf
                have hf := Option.some.inj hf
                subst hf
                subst hQ
                exact g_iret C0 hG hr dX7_judge_114
              · have hf := gif_f c15 hf
                refine lv_iload hx hb dX7_judge_66 (lv_at hl 4 rfl) ?_
                refine lv_iload hx hb dX7_judge_68 (lv_at hl 3 rfl) ?_
                refine lv_icmp_lt (tgt := 79) hx hb dX7_judge_70 (by decide) (fun c16 => ?_) (fun c16 => ?_)
                · have hf := gif_t c16 hf
                  refine lv_aload_n hx hb dX7_judge_79 rfl (lv_at hl 2 rfl) ?_
                  refine g_getSaN (o := 1) (a := (b1 + 1)) C0 hG (T5_0 hG ho1) rfl 0 (by decide) rfl rfl w_316 dX7_judge_80 ?_
                  refine lv_iload_n hx hb dX7_judge_83 rfl (lv_at hl 1 rfl) ?_
                  refine lv_iload hx hb dX7_judge_84 (lv_at hl 4 rfl) ?_
                  refine lv_iadd hx hb dX7_judge_86 ?_
                  obtain ⟨h17, hf⟩ := gin_s hf
                  refine g_lald C0 hG (T5_1 hG ho1) h17 dX7_judge_87 ?_
                  refine lv_aload_n hx hb dX7_judge_88 rfl (lv_at hl 0 rfl) ?_
                  refine g_getSa (o := 1) (a := 1) C0 hG (L0 hG) rfl 0 (by decide) rfl rfl w_329 dX7_judge_89 ?_
                  refine g_getSaN (o := 6) (a := 7) C0 hG (L1 hG) rfl 5 (by decide) rfl rfl w_165 dX7_judge_92 ?_
                  refine lv_iload hx hb dX7_judge_95 (lv_at hl 4 rfl) ?_
                  obtain ⟨h18, hf⟩ := gin_s hf
                  refine g_iald C0 hG (L7 hG) h18 dX7_judge_97 ?_
                  refine lv_i2l (v := (gA u 7 x5_14.toNatClampNeg).toInt64) hx hb dX7_judge_98 rfl ?_
                  refine W.lcmp hx hb dX7_judge_99 ?_
                  refine lv_if_eq (tgt := 106) hx hb dX7_judge_100 (by decide) (fun c19 => ?_) (fun c19 => ?_)
                  · have hf := gif_t c19 hf
                    refine lv_iinc (v := x5_14 + (1 : Int32)) (lv' := [(5, .int (x5_14 + (1 : Int32))), (0, .ref (base + 0)), (2, .int p2), (3, .ref (base + b1)), (4, .int r13)]) hx hb dX7_judge_106 hl (k := 4) rfl rfl (by decide) rfl (fun ls hl => ?_)
                    refine lv_goto (tgt := 54) hx hb dX7_judge_109 (by decide) ?_
                    have hf := while_l hX14 hf
                    exact ih14 (x5_14 + (1 : Int32)) _ _ ls hG (lv_sub hl [1, 2, 3, 4, 0] rfl) hf
                  · have hf := gif_f c19 hf
                    refine lv_iload hx hb dX7_judge_103 (lv_at hl 4 rfl) ?_
                    have hf := while_r hX14 hf
                    have hf := Option.some.inj hf
                    subst hf
                    subst hQ
                    exact g_iret C0 hG hr dX7_judge_105
                · have hf := gif_f c16 hf
                  refine lv_bipush (v := (100 : Int32)) hx hb dX7_judge_73 (by decide) ?_
                  refine lv_iload hx hb dX7_judge_75 (lv_at hl 4 rfl) ?_
                  refine lv_iadd hx hb dX7_judge_77 ?_
                  have hf := while_r hX14 hf
                  have hf := Option.some.inj hf
                  subst hf
                  subst hQ
                  exact g_iret C0 hG hr dX7_judge_78
          exact loop14 FUEL (0 : Int32) _ _ ls hG (lv_sub hl [3, 5, 2, 1, 0] rfl) hf
        · have hf := gif_t c12 hf
          refine lv_bipush (v := (-5 : Int32)) hx hb dX7_judge_41 (by decide) ?_
          have hf := Option.some.inj hf
          subst hf
          subst hQ
          exact g_iret C0 hG hr dX7_judge_43
      · have hf := gif_f c11 hf
        refine lv_bipush (v := (-12 : Int32)) hx hb dX7_judge_28 (by decide) ?_
        have hf := Option.some.inj hf
        subst hf
        subst hQ
        exact g_iret C0 hG hr dX7_judge_30
theorem dX7_image_0 : decode cX7_image 0 = .ok (.aload_n 0, 1) := by decide +kernel
theorem dX7_image_1 : decode cX7_image 1 = .ok (.getfield 21, 3) := by decide +kernel
theorem dX7_image_4 : decode cX7_image 4 = .ok (.aload_n 0, 1) := by decide +kernel
theorem dX7_image_5 : decode cX7_image 5 = .ok (.getfield 12, 3) := by decide +kernel
theorem dX7_image_8 : decode cX7_image 8 = .ok (.invokevirtual 168, 3) := by decide +kernel
theorem dX7_image_11 : decode cX7_image 11 = .ok (.aload_n 0, 1) := by decide +kernel
theorem dX7_image_12 : decode cX7_image 12 = .ok (.getfield 31, 3) := by decide +kernel
theorem dX7_image_15 : decode cX7_image 15 = .ok (.aload_n 0, 1) := by decide +kernel
theorem dX7_image_16 : decode cX7_image 16 = .ok (.getfield 27, 3) := by decide +kernel
theorem dX7_image_19 : decode cX7_image 19 = .ok (.invokevirtual 241, 3) := by decide +kernel
theorem dX7_image_22 : decode cX7_image 22 = .ok (.aload_n 0, 1) := by decide +kernel
theorem dX7_image_23 : decode cX7_image 23 = .ok (.iconst 1, 1) := by decide +kernel
theorem dX7_image_24 : decode cX7_image 24 = .ok (.putfield 34, 3) := by decide +kernel
theorem dX7_image_27 : decode cX7_image 27 = .ok (.aload_n 0, 1) := by decide +kernel
theorem dX7_image_28 : decode cX7_image 28 = .ok (.getfield 12, 3) := by decide +kernel
theorem dX7_image_31 : decode cX7_image 31 = .ok (.getfield 175, 3) := by decide +kernel
theorem dX7_image_34 : decode cX7_image 34 = .ok (.ireturn, 1) := by decide +kernel
def f_X7_image (u : Mem) : Option (Int32 × Mem) := obind (f_X6_becomeLike 25 1 u) (fun _ u1 => obind (f_X1_becomeLike 50 37 u1) (fun _ u2 => some (gI (sI u2 0 5 (1 : Int32)) 1 9, sI u2 0 5 (1 : Int32))))
set_option maxHeartbeats 4000000 in
set_option maxRecDepth 100000 in
theorem k_X7_image (l : Launch) (D : gDt) (base : Nat) (Z : gZt) (u : Mem) (r : Int32) (u' : Mem) (hf : f_X7_image u = some (r, u')) : Met l yX7_image (gws yX7_image cX7_image 1 (some .int)) (gRm 3 0 0) (gPc D base Z u [.ref (base + 0)]) (gQi D base r u') 0 0 (gF base) := by
  refine Met.ofW (cc := cX7_image) (maxL := 1) (ret := some .int) (by decide) rfl ?_
  intro p e s m args below meth c s₁ B hml hv
  obtain ⟨rfl, C0, hG⟩ := g_enter B hml hv
  have hr := B.returns
  have C0 : gC p s m meth c _ cX7_image 1 RX7 D base Z := C0
  have hx := C0.1
  have hb := C0.2.1
  have hl := lv_entry ([.ref (base + 0)]) (n := 1) (Nat.le_of_ble_eq_true rfl)
  rw [lg_entry_eq]
  generalize (lg_sl ([.ref (base + 0)]) ++ List.replicate (1 - (lg_sl ([.ref (base + 0)])).length) Slot.unset).toArray = ls at hl ⊢
  have hl : lv_has ls 1 [(0, .ref (base + 0))] := hl
  obtain ⟨Q, hQ⟩ : ∃ Q, Q = MQ below (gQi D base r u') ([.ref (base + 0)] : List Value).toArray s 0 0 (gF base) := ⟨_, rfl⟩
  rw [← hQ]
  change W p l e (gRm 3 0 0) s m _ below meth c _ _ _ _ _ _
  unfold f_X7_image at hf
  refine lv_aload_n hx hb dX7_image_0 rfl (lv_at hl 0 rfl) ?_
  refine g_getSa (o := 25) (a := 25) C0 hG (L0 hG) rfl 2 (by decide) rfl rfl w_331 dX7_image_1 ?_
  refine lv_aload_n hx hb dX7_image_4 rfl (lv_at hl 0 rfl) ?_
  refine g_getSa (o := 1) (a := 1) C0 hG (L0 hG) rfl 0 (by decide) rfl rfl w_329 dX7_image_5 ?_
  obtain ⟨_, u1, hc1, hf⟩ := obind_s hf
  refine g_doV0 hG (g_runVN C0 hG (k_X6_becomeLike l D base Z u 25 1 u1 O25 O1 hc1) m_X6_becomeLike v_X6_becomeLike w_663 (by decide) (g_recv C0 hG (L25 hG) rfl) rfl hl.1 rfl (Nat.le_of_ble_eq_true rfl) dX7_image_8 ⟨Nat.zero_le _, Nat.zero_le _⟩) (fun H locs hG hk => ?_)
  refine lv_aload_n hx hb dX7_image_11 rfl (lv_at hl 0 rfl) ?_
  refine g_getSa (o := 50) (a := 50) C0 hG (L0 hG) rfl 4 (by decide) rfl rfl w_333 dX7_image_12 ?_
  refine lv_aload_n hx hb dX7_image_15 rfl (lv_at hl 0 rfl) ?_
  refine g_getSa (o := 37) (a := 37) C0 hG (L0 hG) rfl 3 (by decide) rfl rfl w_332 dX7_image_16 ?_
  obtain ⟨_, u2, hc2, hf⟩ := obind_s hf
  refine g_doV0 hG (g_runVN C0 hG (k_X1_becomeLike l D base Z u1 50 37 u2 O50 O37 hc2) m_X1_becomeLike v_X1_becomeLike w_762 (by decide) (g_recv C0 hG (L50 hG) rfl) rfl hl.1 rfl (Nat.le_of_ble_eq_true rfl) dX7_image_19 ⟨Nat.zero_le _, Nat.zero_le _⟩) (fun H locs hG hk => ?_)
  refine lv_aload_n hx hb dX7_image_22 rfl (lv_at hl 0 rfl) ?_
  refine lv_iconst (v := (1 : Int32)) hx hb dX7_image_23 (by decide) ?_
  refine g_putI (ty := .boolean) C0 hG (L0 hG) rfl 5 (by decide) rfl w_334 rfl (by decide) (by decide) rfl dX7_image_24 (fun H locs hG => ?_)
  refine lv_aload_n hx hb dX7_image_27 rfl (lv_at hl 0 rfl) ?_
  refine g_getSa (o := 1) (a := 1) C0 hG (L0 hG) rfl 0 (by decide) rfl rfl w_329 dX7_image_28 ?_
  refine g_getIN C0 hG (L1 hG) rfl 9 (by decide) rfl w_172 dX7_image_31 ?_
  obtain ⟨hr1, hu⟩ := gret_s hf
  subst hr1
  subst hu
  subst hQ
  exact g_iret C0 hG hr dX7_image_34
theorem dX7_undo_0 : decode cX7_undo 0 = .ok (.aload_n 0, 1) := by decide +kernel
theorem dX7_undo_1 : decode cX7_undo 1 = .ok (.getfield 34, 3) := by decide +kernel
theorem dX7_undo_4 : decode cX7_undo 4 = .ok (.ifCond .ne 6, 3) := by decide +kernel
theorem dX7_undo_7 : decode cX7_undo 7 = .ok (.bipush (-3), 2) := by decide +kernel
theorem dX7_undo_9 : decode cX7_undo 9 = .ok (.ireturn, 1) := by decide +kernel
theorem dX7_undo_10 : decode cX7_undo 10 = .ok (.aload_n 0, 1) := by decide +kernel
theorem dX7_undo_11 : decode cX7_undo 11 = .ok (.getfield 12, 3) := by decide +kernel
theorem dX7_undo_14 : decode cX7_undo 14 = .ok (.aload_n 0, 1) := by decide +kernel
theorem dX7_undo_15 : decode cX7_undo 15 = .ok (.getfield 21, 3) := by decide +kernel
theorem dX7_undo_18 : decode cX7_undo 18 = .ok (.invokevirtual 168, 3) := by decide +kernel
theorem dX7_undo_21 : decode cX7_undo 21 = .ok (.aload_n 0, 1) := by decide +kernel
theorem dX7_undo_22 : decode cX7_undo 22 = .ok (.getfield 27, 3) := by decide +kernel
theorem dX7_undo_25 : decode cX7_undo 25 = .ok (.aload_n 0, 1) := by decide +kernel
theorem dX7_undo_26 : decode cX7_undo 26 = .ok (.getfield 31, 3) := by decide +kernel
theorem dX7_undo_29 : decode cX7_undo 29 = .ok (.invokevirtual 241, 3) := by decide +kernel
theorem dX7_undo_32 : decode cX7_undo 32 = .ok (.aload_n 0, 1) := by decide +kernel
theorem dX7_undo_33 : decode cX7_undo 33 = .ok (.getfield 12, 3) := by decide +kernel
theorem dX7_undo_36 : decode cX7_undo 36 = .ok (.getfield 175, 3) := by decide +kernel
theorem dX7_undo_39 : decode cX7_undo 39 = .ok (.ireturn, 1) := by decide +kernel
def f_X7_undo (u : Mem) : Option (Int32 × Mem) := (if (gI u 0 5) = 0 then some ((-3 : Int32), u) else obind (f_X6_becomeLike 1 25 u) (fun _ u2 => obind (f_X1_becomeLike 37 50 u2) (fun _ u3 => some (gI u3 1 9, u3))))
set_option maxHeartbeats 4000000 in
set_option maxRecDepth 100000 in
theorem k_X7_undo (l : Launch) (D : gDt) (base : Nat) (Z : gZt) (u : Mem) (r : Int32) (u' : Mem) (hf : f_X7_undo u = some (r, u')) : Met l yX7_undo (gws yX7_undo cX7_undo 1 (some .int)) (gRm 3 0 0) (gPc D base Z u [.ref (base + 0)]) (gQi D base r u') 0 0 (gF base) := by
  refine Met.ofW (cc := cX7_undo) (maxL := 1) (ret := some .int) (by decide) rfl ?_
  intro p e s m args below meth c s₁ B hml hv
  obtain ⟨rfl, C0, hG⟩ := g_enter B hml hv
  have hr := B.returns
  have C0 : gC p s m meth c _ cX7_undo 1 RX7 D base Z := C0
  have hx := C0.1
  have hb := C0.2.1
  have hl := lv_entry ([.ref (base + 0)]) (n := 1) (Nat.le_of_ble_eq_true rfl)
  rw [lg_entry_eq]
  generalize (lg_sl ([.ref (base + 0)]) ++ List.replicate (1 - (lg_sl ([.ref (base + 0)])).length) Slot.unset).toArray = ls at hl ⊢
  have hl : lv_has ls 1 [(0, .ref (base + 0))] := hl
  obtain ⟨Q, hQ⟩ : ∃ Q, Q = MQ below (gQi D base r u') ([.ref (base + 0)] : List Value).toArray s 0 0 (gF base) := ⟨_, rfl⟩
  rw [← hQ]
  change W p l e (gRm 3 0 0) s m _ below meth c _ _ _ _ _ _
  unfold f_X7_undo at hf
  refine lv_aload_n hx hb dX7_undo_0 rfl (lv_at hl 0 rfl) ?_
  refine g_getI C0 hG (L0 hG) rfl 5 (by decide) rfl w_334 dX7_undo_1 ?_
  refine lv_if_ne (tgt := 10) hx hb dX7_undo_4 (by decide) (fun c1 => ?_) (fun c1 => ?_)
  · have hf := gif_f c1 hf
    refine lv_aload_n hx hb dX7_undo_10 rfl (lv_at hl 0 rfl) ?_
    refine g_getSa (o := 1) (a := 1) C0 hG (L0 hG) rfl 0 (by decide) rfl rfl w_329 dX7_undo_11 ?_
    refine lv_aload_n hx hb dX7_undo_14 rfl (lv_at hl 0 rfl) ?_
    refine g_getSa (o := 25) (a := 25) C0 hG (L0 hG) rfl 2 (by decide) rfl rfl w_331 dX7_undo_15 ?_
    obtain ⟨_, u2, hc2, hf⟩ := obind_s hf
    refine g_doV0 hG (g_runVN C0 hG (k_X6_becomeLike l D base Z u 1 25 u2 O1 O25 hc2) m_X6_becomeLike v_X6_becomeLike w_663 (by decide) (g_recv C0 hG (L1 hG) rfl) rfl hl.1 rfl (Nat.le_of_ble_eq_true rfl) dX7_undo_18 ⟨Nat.zero_le _, Nat.zero_le _⟩) (fun H locs hG hk => ?_)
    refine lv_aload_n hx hb dX7_undo_21 rfl (lv_at hl 0 rfl) ?_
    refine g_getSa (o := 37) (a := 37) C0 hG (L0 hG) rfl 3 (by decide) rfl rfl w_332 dX7_undo_22 ?_
    refine lv_aload_n hx hb dX7_undo_25 rfl (lv_at hl 0 rfl) ?_
    refine g_getSa (o := 50) (a := 50) C0 hG (L0 hG) rfl 4 (by decide) rfl rfl w_333 dX7_undo_26 ?_
    obtain ⟨_, u3, hc3, hf⟩ := obind_s hf
    refine g_doV0 hG (g_runVN C0 hG (k_X1_becomeLike l D base Z u2 37 50 u3 O37 O50 hc3) m_X1_becomeLike v_X1_becomeLike w_762 (by decide) (g_recv C0 hG (L37 hG) rfl) rfl hl.1 rfl (Nat.le_of_ble_eq_true rfl) dX7_undo_29 ⟨Nat.zero_le _, Nat.zero_le _⟩) (fun H locs hG hk => ?_)
    refine lv_aload_n hx hb dX7_undo_32 rfl (lv_at hl 0 rfl) ?_
    refine g_getSa (o := 1) (a := 1) C0 hG (L0 hG) rfl 0 (by decide) rfl rfl w_329 dX7_undo_33 ?_
    refine g_getIN C0 hG (L1 hG) rfl 9 (by decide) rfl w_172 dX7_undo_36 ?_
    obtain ⟨hr1, hu⟩ := gret_s hf
    subst hr1
    subst hu
    subst hQ
    exact g_iret C0 hG hr dX7_undo_39
  · have hf := gif_t c1 hf
    refine lv_bipush (v := (-3 : Int32)) hx hb dX7_undo_7 (by decide) ?_
    obtain ⟨hr1, hu⟩ := gret_s hf
    subst hr1
    subst hu
    subst hQ
    exact g_iret C0 hG hr dX7_undo_9
theorem dX7_act_0 : decode cX7_act 0 = .ok (.aload_n 0, 1) := by decide +kernel
theorem dX7_act_1 : decode cX7_act 1 = .ok (.getfield 52, 3) := by decide +kernel
theorem dX7_act_4 : decode cX7_act 4 = .ok (.iconst 0, 1) := by decide +kernel
theorem dX7_act_5 : decode cX7_act 5 = .ok (.putfield 244, 3) := by decide +kernel
theorem dX7_act_8 : decode cX7_act 8 = .ok (.aload_n 0, 1) := by decide +kernel
theorem dX7_act_9 : decode cX7_act 9 = .ok (.iload_n 1, 1) := by decide +kernel
theorem dX7_act_10 : decode cX7_act 10 = .ok (.invokevirtual 74, 3) := by decide +kernel
theorem dX7_act_13 : decode cX7_act 13 = .ok (.ifCond .eq 11, 3) := by decide +kernel
theorem dX7_act_16 : decode cX7_act 16 = .ok (.iload_n 2, 1) := by decide +kernel
theorem dX7_act_17 : decode cX7_act 17 = .ok (.iconst 3, 1) := by decide +kernel
theorem dX7_act_18 : decode cX7_act 18 = .ok (.invokestatic 63, 3) := by decide +kernel
theorem dX7_act_21 : decode cX7_act 21 = .ok (.ifCond .ne 5, 3) := by decide +kernel
theorem dX7_act_24 : decode cX7_act 24 = .ok (.iconst 0, 1) := by decide +kernel
theorem dX7_act_25 : decode cX7_act 25 = .ok (.ireturn, 1) := by decide +kernel
theorem dX7_act_26 : decode cX7_act 26 = .ok (.aload_n 0, 1) := by decide +kernel
theorem dX7_act_27 : decode cX7_act 27 = .ok (.getfield 52, 3) := by decide +kernel
theorem dX7_act_30 : decode cX7_act 30 = .ok (.iload_n 1, 1) := by decide +kernel
theorem dX7_act_31 : decode cX7_act 31 = .ok (.putfield 247, 3) := by decide +kernel
theorem dX7_act_34 : decode cX7_act 34 = .ok (.aload_n 0, 1) := by decide +kernel
theorem dX7_act_35 : decode cX7_act 35 = .ok (.getfield 52, 3) := by decide +kernel
theorem dX7_act_38 : decode cX7_act 38 = .ok (.aload_n 0, 1) := by decide +kernel
theorem dX7_act_39 : decode cX7_act 39 = .ok (.getfield 12, 3) := by decide +kernel
theorem dX7_act_42 : decode cX7_act 42 = .ok (.getfield 78, 3) := by decide +kernel
theorem dX7_act_45 : decode cX7_act 45 = .ok (.iload_n 1, 1) := by decide +kernel
theorem dX7_act_46 : decode cX7_act 46 = .ok (.iaload, 1) := by decide +kernel
theorem dX7_act_47 : decode cX7_act 47 = .ok (.putfield 250, 3) := by decide +kernel
theorem dX7_act_50 : decode cX7_act 50 = .ok (.aload_n 0, 1) := by decide +kernel
theorem dX7_act_51 : decode cX7_act 51 = .ok (.getfield 52, 3) := by decide +kernel
theorem dX7_act_54 : decode cX7_act 54 = .ok (.aload_n 0, 1) := by decide +kernel
theorem dX7_act_55 : decode cX7_act 55 = .ok (.getfield 12, 3) := by decide +kernel
theorem dX7_act_58 : decode cX7_act 58 = .ok (.getfield 82, 3) := by decide +kernel
theorem dX7_act_61 : decode cX7_act 61 = .ok (.iload_n 1, 1) := by decide +kernel
theorem dX7_act_62 : decode cX7_act 62 = .ok (.iaload, 1) := by decide +kernel
theorem dX7_act_63 : decode cX7_act 63 = .ok (.putfield 253, 3) := by decide +kernel
theorem dX7_act_66 : decode cX7_act 66 = .ok (.aload_n 0, 1) := by decide +kernel
theorem dX7_act_67 : decode cX7_act 67 = .ok (.getfield 52, 3) := by decide +kernel
theorem dX7_act_70 : decode cX7_act 70 = .ok (.aload_n 0, 1) := by decide +kernel
theorem dX7_act_71 : decode cX7_act 71 = .ok (.getfield 52, 3) := by decide +kernel
theorem dX7_act_74 : decode cX7_act 74 = .ok (.getfield 250, 3) := by decide +kernel
theorem dX7_act_77 : decode cX7_act 77 = .ok (.iload_n 2, 1) := by decide +kernel
theorem dX7_act_78 : decode cX7_act 78 = .ok (.iload_n 3, 1) := by decide +kernel
theorem dX7_act_79 : decode cX7_act 79 = .ok (.iconst 0, 1) := by decide +kernel
theorem dX7_act_80 : decode cX7_act 80 = .ok (.invokevirtual 256, 3) := by decide +kernel
theorem dX7_act_83 : decode cX7_act 83 = .ok (.ireturn, 1) := by decide +kernel
def f_X7_act (p1 : Int32) (p2 : Int32) (p3 : Int32) (u : Mem) : Option (Int32 × Mem) := Option.bind (f_X7_isPerson p1 (sI u 67 1 (0 : Int32))) (fun r1 => (if r1 = 0 then some ((0 : Int32), sI u 67 1 (0 : Int32)) else Option.bind (f_X7_isWithin p2 (3 : Int32)) (fun r3 => (if r3 = 0 then some ((0 : Int32), sI u 67 1 (0 : Int32)) else gin p1 6 (gin p1 6 (obind (f_X4_play (gI (sI (sI (sI (sI u 67 1 (0 : Int32)) 67 2 p1) 67 3 (gA (sI (sI u 67 1 (0 : Int32)) 67 2 p1) 4 p1.toNatClampNeg)) 67 4 (gA (sI (sI (sI u 67 1 (0 : Int32)) 67 2 p1) 67 3 (gA (sI (sI u 67 1 (0 : Int32)) 67 2 p1) 4 p1.toNatClampNeg)) 5 p1.toNatClampNeg)) 67 3) p2 p3 (0 : Int32) (sI (sI (sI (sI u 67 1 (0 : Int32)) 67 2 p1) 67 3 (gA (sI (sI u 67 1 (0 : Int32)) 67 2 p1) 4 p1.toNatClampNeg)) 67 4 (gA (sI (sI (sI u 67 1 (0 : Int32)) 67 2 p1) 67 3 (gA (sI (sI u 67 1 (0 : Int32)) 67 2 p1) 4 p1.toNatClampNeg)) 5 p1.toNatClampNeg))) (fun r7 u7 => some (r7, u7))))))))
set_option maxHeartbeats 4000000 in
set_option maxRecDepth 100000 in
theorem k_X7_act (l : Launch) (D : gDt) (base : Nat) (Z : gZt) (u : Mem) (p1 : Int32) (p2 : Int32) (p3 : Int32) (r : Int32) (u' : Mem) (hf : f_X7_act p1 p2 p3 u = some (r, u')) : Met l yX7_act (gws yX7_act cX7_act 4 (some .int)) (gRm 64 0 0) (gPc D base Z u [.ref (base + 0), .int p1, .int p2, .int p3]) (gQi D base r u') 0 0 (gF base) := by
  refine Met.ofW (cc := cX7_act) (maxL := 4) (ret := some .int) (by decide) rfl ?_
  intro p e s m args below meth c s₁ B hml hv
  obtain ⟨rfl, C0, hG⟩ := g_enter B hml hv
  have hr := B.returns
  have C0 : gC p s m meth c _ cX7_act 4 RX7 D base Z := C0
  have hx := C0.1
  have hb := C0.2.1
  have hl := lv_entry ([.ref (base + 0), .int p1, .int p2, .int p3]) (n := 4) (Nat.le_of_ble_eq_true rfl)
  rw [lg_entry_eq]
  generalize (lg_sl ([.ref (base + 0), .int p1, .int p2, .int p3]) ++ List.replicate (4 - (lg_sl ([.ref (base + 0), .int p1, .int p2, .int p3])).length) Slot.unset).toArray = ls at hl ⊢
  have hl : lv_has ls 4 [(0, .ref (base + 0)), (1, .int p1), (2, .int p2), (3, .int p3)] := hl
  obtain ⟨Q, hQ⟩ : ∃ Q, Q = MQ below (gQi D base r u') ([.ref (base + 0), .int p1, .int p2, .int p3] : List Value).toArray s 0 0 (gF base) := ⟨_, rfl⟩
  rw [← hQ]
  change W p l e (gRm 64 0 0) s m _ below meth c _ _ _ _ _ _
  unfold f_X7_act at hf
  refine lv_aload_n hx hb dX7_act_0 rfl (lv_at hl 0 rfl) ?_
  refine g_getSa (o := 67) (a := 67) C0 hG (L0 hG) rfl 8 (by decide) rfl rfl w_337 dX7_act_1 ?_
  refine lv_iconst (v := (0 : Int32)) hx hb dX7_act_4 (by decide) ?_
  refine g_putIN (ty := .int) C0 hG (L67 hG) rfl 1 (by decide) rfl w_290 rfl (by decide) rfl rfl dX7_act_5 (fun H locs hG => ?_)
  refine lv_aload_n hx hb dX7_act_8 rfl (lv_at hl 0 rfl) ?_
  refine lv_iload_n hx hb dX7_act_9 rfl (lv_at hl 1 rfl) ?_
  obtain ⟨r1, hc1, hf⟩ := pb_s hf
  refine g_doI0 hG (g_runV C0 hG (k_X7_isPerson l D base Z (sI u 67 1 (0 : Int32)) p1 r1 hc1) m_X7_isPerson v_X7_isPerson w_378 (by decide) (g_recv C0 hG (L0 hG) rfl) rfl hl.1 rfl (Nat.le_of_ble_eq_true rfl) dX7_act_10 ⟨Nat.zero_le _, Nat.zero_le _⟩) (fun H locs hG hk => ?_)
  refine lv_if_eq (tgt := 24) hx hb dX7_act_13 (by decide) (fun c2 => ?_) (fun c2 => ?_)
  · have hf := gif_t c2 hf
    refine lv_iconst (v := (0 : Int32)) hx hb dX7_act_24 (by decide) ?_
    obtain ⟨hr1, hu⟩ := gret_s hf
    subst hr1
    subst hu
    subst hQ
    exact g_iret C0 hG hr dX7_act_25
  · have hf := gif_f c2 hf
    refine lv_iload_n hx hb dX7_act_16 rfl (lv_at hl 2 rfl) ?_
    refine lv_iconst (v := (3 : Int32)) hx hb dX7_act_17 (by decide) ?_
    obtain ⟨r3, hc3, hf⟩ := pb_s hf
    refine g_doI0 hG (g_runS C0 hG (k_X7_isWithin l D base Z (sI u 67 1 (0 : Int32)) p2 (3 : Int32) r3 hc3) m_X7_isWithin s_X7_isWithin w_364 (by decide) rfl hl.1 rfl (Nat.le_of_ble_eq_true rfl) dX7_act_18 ⟨Nat.zero_le _, Nat.zero_le _⟩) (fun H locs hG hk => ?_)
    refine lv_if_ne (tgt := 26) hx hb dX7_act_21 (by decide) (fun c4 => ?_) (fun c4 => ?_)
    · have hf := gif_f c4 hf
      refine lv_aload_n hx hb dX7_act_26 rfl (lv_at hl 0 rfl) ?_
      refine g_getSa (o := 67) (a := 67) C0 hG (L0 hG) rfl 8 (by decide) rfl rfl w_337 dX7_act_27 ?_
      refine lv_iload_n hx hb dX7_act_30 rfl (lv_at hl 1 rfl) ?_
      refine g_putIN (ty := .int) C0 hG (L67 hG) rfl 2 (by decide) rfl w_292 rfl (by decide) rfl rfl dX7_act_31 (fun H locs hG => ?_)
      refine lv_aload_n hx hb dX7_act_34 rfl (lv_at hl 0 rfl) ?_
      refine g_getSa (o := 67) (a := 67) C0 hG (L0 hG) rfl 8 (by decide) rfl rfl w_337 dX7_act_35 ?_
      refine lv_aload_n hx hb dX7_act_38 rfl (lv_at hl 0 rfl) ?_
      refine g_getSa (o := 1) (a := 1) C0 hG (L0 hG) rfl 0 (by decide) rfl rfl w_329 dX7_act_39 ?_
      refine g_getSaN (o := 3) (a := 4) C0 hG (L1 hG) rfl 2 (by decide) rfl rfl w_159 dX7_act_42 ?_
      refine lv_iload_n hx hb dX7_act_45 rfl (lv_at hl 1 rfl) ?_
      obtain ⟨h5, hf⟩ := gin_s hf
      refine g_iald C0 hG (L4 hG) h5 dX7_act_46 ?_
      refine g_putIN (ty := .int) C0 hG (L67 hG) rfl 3 (by decide) rfl w_294 rfl (by decide) rfl rfl dX7_act_47 (fun H locs hG => ?_)
      refine lv_aload_n hx hb dX7_act_50 rfl (lv_at hl 0 rfl) ?_
      refine g_getSa (o := 67) (a := 67) C0 hG (L0 hG) rfl 8 (by decide) rfl rfl w_337 dX7_act_51 ?_
      refine lv_aload_n hx hb dX7_act_54 rfl (lv_at hl 0 rfl) ?_
      refine g_getSa (o := 1) (a := 1) C0 hG (L0 hG) rfl 0 (by decide) rfl rfl w_329 dX7_act_55 ?_
      refine g_getSaN (o := 4) (a := 5) C0 hG (L1 hG) rfl 3 (by decide) rfl rfl w_161 dX7_act_58 ?_
      refine lv_iload_n hx hb dX7_act_61 rfl (lv_at hl 1 rfl) ?_
      obtain ⟨h6, hf⟩ := gin_s hf
      refine g_iald C0 hG (L5 hG) h6 dX7_act_62 ?_
      refine g_putIN (ty := .int) C0 hG (L67 hG) rfl 4 (by decide) rfl w_296 rfl (by decide) rfl rfl dX7_act_63 (fun H locs hG => ?_)
      refine lv_aload_n hx hb dX7_act_66 rfl (lv_at hl 0 rfl) ?_
      refine g_getSa (o := 67) (a := 67) C0 hG (L0 hG) rfl 8 (by decide) rfl rfl w_337 dX7_act_67 ?_
      refine lv_aload_n hx hb dX7_act_70 rfl (lv_at hl 0 rfl) ?_
      refine g_getSa (o := 67) (a := 67) C0 hG (L0 hG) rfl 8 (by decide) rfl rfl w_337 dX7_act_71 ?_
      refine g_getIN C0 hG (L67 hG) rfl 3 (by decide) rfl w_294 dX7_act_74 ?_
      refine lv_iload_n hx hb dX7_act_77 rfl (lv_at hl 2 rfl) ?_
      refine lv_iload_n hx hb dX7_act_78 rfl (lv_at hl 3 rfl) ?_
      refine lv_iconst (v := (0 : Int32)) hx hb dX7_act_79 (by decide) ?_
      obtain ⟨r7, u7, hc7, hf⟩ := obind_s hf
      refine g_doI0 hG (g_runVN C0 hG (k_X4_play l D base Z (sI (sI (sI (sI u 67 1 (0 : Int32)) 67 2 p1) 67 3 (gA (sI (sI u 67 1 (0 : Int32)) 67 2 p1) 4 p1.toNatClampNeg)) 67 4 (gA (sI (sI (sI u 67 1 (0 : Int32)) 67 2 p1) 67 3 (gA (sI (sI u 67 1 (0 : Int32)) 67 2 p1) 4 p1.toNatClampNeg)) 5 p1.toNatClampNeg)) (gI (sI (sI (sI (sI u 67 1 (0 : Int32)) 67 2 p1) 67 3 (gA (sI (sI u 67 1 (0 : Int32)) 67 2 p1) 4 p1.toNatClampNeg)) 67 4 (gA (sI (sI (sI u 67 1 (0 : Int32)) 67 2 p1) 67 3 (gA (sI (sI u 67 1 (0 : Int32)) 67 2 p1) 4 p1.toNatClampNeg)) 5 p1.toNatClampNeg)) 67 3) p2 p3 (0 : Int32) r7 u7 hc7) m_X4_play v_X4_play w_779 (by decide) (g_recv C0 hG (L67 hG) rfl) rfl hl.1 rfl (Nat.le_of_ble_eq_true rfl) dX7_act_80 ⟨Nat.zero_le _, Nat.zero_le _⟩) (fun H locs hG hk => ?_)
      obtain ⟨hr1, hu⟩ := gret_s hf
      subst hr1
      subst hu
      subst hQ
      exact g_iret C0 hG hr dX7_act_83
    · have hf := gif_t c4 hf
      refine lv_iconst (v := (0 : Int32)) hx hb dX7_act_24 (by decide) ?_
      obtain ⟨hr1, hu⟩ := gret_s hf
      subst hr1
      subst hu
      subst hQ
      exact g_iret C0 hG hr dX7_act_25
theorem dX7_trace_0 : decode cX7_trace 0 = .ok (.iload_n 1, 1) := by decide +kernel
theorem dX7_trace_1 : decode cX7_trace 1 = .ok (.aload_n 0, 1) := by decide +kernel
theorem dX7_trace_2 : decode cX7_trace 2 = .ok (.getfield 52, 3) := by decide +kernel
theorem dX7_trace_5 : decode cX7_trace 5 = .ok (.getfield 244, 3) := by decide +kernel
theorem dX7_trace_8 : decode cX7_trace 8 = .ok (.bipush 20, 2) := by decide +kernel
theorem dX7_trace_10 : decode cX7_trace 10 = .ok (.invokestatic 259, 3) := by decide +kernel
theorem dX7_trace_13 : decode cX7_trace 13 = .ok (.invokestatic 63, 3) := by decide +kernel
theorem dX7_trace_16 : decode cX7_trace 16 = .ok (.ifCond .eq 15, 3) := by decide +kernel
theorem dX7_trace_19 : decode cX7_trace 19 = .ok (.aload_n 0, 1) := by decide +kernel
theorem dX7_trace_20 : decode cX7_trace 20 = .ok (.getfield 52, 3) := by decide +kernel
theorem dX7_trace_23 : decode cX7_trace 23 = .ok (.getfield 264, 3) := by decide +kernel
theorem dX7_trace_26 : decode cX7_trace 26 = .ok (.iload_n 1, 1) := by decide +kernel
theorem dX7_trace_27 : decode cX7_trace 27 = .ok (.iaload, 1) := by decide +kernel
theorem dX7_trace_28 : decode cX7_trace 28 = .ok (.goto 4, 3) := by decide +kernel
theorem dX7_trace_31 : decode cX7_trace 31 = .ok (.iconst (-1), 1) := by decide +kernel
theorem dX7_trace_32 : decode cX7_trace 32 = .ok (.ireturn, 1) := by decide +kernel
def f_X7_trace (p1 : Int32) (u : Mem) : Option (Int32) := Option.bind (f_X7_isWithin p1 (imin (gI u 67 1) (20 : Int32))) (fun r1 => (if r1 = 0 then some (-1 : Int32) else gin p1 20 (some (gA u 68 p1.toNatClampNeg))))
set_option maxHeartbeats 4000000 in
set_option maxRecDepth 100000 in
theorem k_X7_trace (l : Launch) (D : gDt) (base : Nat) (Z : gZt) (u : Mem) (p1 : Int32) (r : Int32) (hf : f_X7_trace p1 u = some r) : Met l yX7_trace (gws yX7_trace cX7_trace 2 (some .int)) (gRm 2 0 0) (gPc D base Z u [.ref (base + 0), .int p1]) (gQi D base r u) 0 0 (gF base) := by
  refine Met.ofW (cc := cX7_trace) (maxL := 2) (ret := some .int) (by decide) rfl ?_
  intro p e s m args below meth c s₁ B hml hv
  obtain ⟨rfl, C0, hG⟩ := g_enter B hml hv
  have hr := B.returns
  have C0 : gC p s m meth c _ cX7_trace 2 RX7 D base Z := C0
  have hx := C0.1
  have hb := C0.2.1
  have hl := lv_entry ([.ref (base + 0), .int p1]) (n := 2) (Nat.le_of_ble_eq_true rfl)
  rw [lg_entry_eq]
  generalize (lg_sl ([.ref (base + 0), .int p1]) ++ List.replicate (2 - (lg_sl ([.ref (base + 0), .int p1])).length) Slot.unset).toArray = ls at hl ⊢
  have hl : lv_has ls 2 [(0, .ref (base + 0)), (1, .int p1)] := hl
  obtain ⟨Q, hQ⟩ : ∃ Q, Q = MQ below (gQi D base r u) ([.ref (base + 0), .int p1] : List Value).toArray s 0 0 (gF base) := ⟨_, rfl⟩
  rw [← hQ]
  change W p l e (gRm 2 0 0) s m _ below meth c _ _ _ _ _ _
  unfold f_X7_trace at hf
  refine lv_iload_n hx hb dX7_trace_0 rfl (lv_at hl 1 rfl) ?_
  refine lv_aload_n hx hb dX7_trace_1 rfl (lv_at hl 0 rfl) ?_
  refine g_getSa (o := 67) (a := 67) C0 hG (L0 hG) rfl 8 (by decide) rfl rfl w_337 dX7_trace_2 ?_
  refine g_getIN C0 hG (L67 hG) rfl 1 (by decide) rfl w_290 dX7_trace_5 ?_
  refine lv_bipush (v := (20 : Int32)) hx hb dX7_trace_8 (by decide) ?_
  refine g_min C0 w_800 mt_min_s mt_i mt_min_c hl.1 ⟨Nat.le_of_ble_eq_true rfl, Nat.le_of_ble_eq_true rfl, Nat.zero_le _, Nat.zero_le _⟩ dX7_trace_10 ?_
  obtain ⟨r1, hc1, hf⟩ := pb_s hf
  refine g_doI0 hG (g_runS C0 hG (k_X7_isWithin l D base Z u p1 (imin (gI u 67 1) (20 : Int32)) r1 hc1) m_X7_isWithin s_X7_isWithin w_364 (by decide) rfl hl.1 rfl (Nat.le_of_ble_eq_true rfl) dX7_trace_13 ⟨Nat.zero_le _, Nat.zero_le _⟩) (fun H locs hG hk => ?_)
  refine lv_if_eq (tgt := 31) hx hb dX7_trace_16 (by decide) (fun c2 => ?_) (fun c2 => ?_)
  · have hf := gif_t c2 hf
    refine lv_iconst (v := (-1 : Int32)) hx hb dX7_trace_31 (by decide) ?_
    have hf := Option.some.inj hf
    subst hf
    subst hQ
    exact g_iret C0 hG hr dX7_trace_32
  · have hf := gif_f c2 hf
    refine lv_aload_n hx hb dX7_trace_19 rfl (lv_at hl 0 rfl) ?_
    refine g_getSa (o := 67) (a := 67) C0 hG (L0 hG) rfl 8 (by decide) rfl rfl w_337 dX7_trace_20 ?_
    refine g_getSaN (o := 1) (a := 68) C0 hG (L67 hG) rfl 0 (by decide) rfl rfl w_288 dX7_trace_23 ?_
    refine lv_iload_n hx hb dX7_trace_26 rfl (lv_at hl 1 rfl) ?_
    obtain ⟨h3, hf⟩ := gin_s hf
    refine g_iald C0 hG (L68 hG) h3 dX7_trace_27 ?_
    refine lv_goto (tgt := 32) hx hb dX7_trace_28 (by decide) ?_
    have hf := Option.some.inj hf
    subst hf
    subst hQ
    exact g_iret C0 hG hr dX7_trace_32
theorem dX7_isKindUnder_0 : decode cX7_isKindUnder 0 = .ok (.iload_n 0, 1) := by decide +kernel
theorem dX7_isKindUnder_1 : decode cX7_isKindUnder 1 = .ok (.istore_n 2, 1) := by decide +kernel
theorem dX7_isKindUnder_2 : decode cX7_isKindUnder 2 = .ok (.iconst 0, 1) := by decide +kernel
theorem dX7_isKindUnder_3 : decode cX7_isKindUnder 3 = .ok (.istore_n 3, 1) := by decide +kernel
theorem dX7_isKindUnder_4 : decode cX7_isKindUnder 4 = .ok (.iload_n 3, 1) := by decide +kernel
theorem dX7_isKindUnder_5 : decode cX7_isKindUnder 5 = .ok (.bipush 7, 2) := by decide +kernel
theorem dX7_isKindUnder_7 : decode cX7_isKindUnder 7 = .ok (.if_icmp .ge 31, 3) := by decide +kernel
theorem dX7_isKindUnder_10 : decode cX7_isKindUnder 10 = .ok (.iload_n 2, 1) := by decide +kernel
theorem dX7_isKindUnder_11 : decode cX7_isKindUnder 11 = .ok (.bipush 7, 2) := by decide +kernel
theorem dX7_isKindUnder_13 : decode cX7_isKindUnder 13 = .ok (.invokestatic 63, 3) := by decide +kernel
theorem dX7_isKindUnder_16 : decode cX7_isKindUnder 16 = .ok (.ifCond .eq 22, 3) := by decide +kernel
theorem dX7_isKindUnder_19 : decode cX7_isKindUnder 19 = .ok (.iload_n 2, 1) := by decide +kernel
theorem dX7_isKindUnder_20 : decode cX7_isKindUnder 20 = .ok (.iload_n 1, 1) := by decide +kernel
theorem dX7_isKindUnder_21 : decode cX7_isKindUnder 21 = .ok (.if_icmp .ne 5, 3) := by decide +kernel
theorem dX7_isKindUnder_24 : decode cX7_isKindUnder 24 = .ok (.iconst 1, 1) := by decide +kernel
theorem dX7_isKindUnder_25 : decode cX7_isKindUnder 25 = .ok (.ireturn, 1) := by decide +kernel
theorem dX7_isKindUnder_26 : decode cX7_isKindUnder 26 = .ok (.getstatic 284, 3) := by decide +kernel
theorem dX7_isKindUnder_29 : decode cX7_isKindUnder 29 = .ok (.iload_n 2, 1) := by decide +kernel
theorem dX7_isKindUnder_30 : decode cX7_isKindUnder 30 = .ok (.iaload, 1) := by decide +kernel
theorem dX7_isKindUnder_31 : decode cX7_isKindUnder 31 = .ok (.istore_n 2, 1) := by decide +kernel
theorem dX7_isKindUnder_32 : decode cX7_isKindUnder 32 = .ok (.iinc 3 1, 3) := by decide +kernel
theorem dX7_isKindUnder_35 : decode cX7_isKindUnder 35 = .ok (.goto (-31), 3) := by decide +kernel
theorem dX7_isKindUnder_38 : decode cX7_isKindUnder 38 = .ok (.iconst 0, 1) := by decide +kernel
theorem dX7_isKindUnder_39 : decode cX7_isKindUnder 39 = .ok (.ireturn, 1) := by decide +kernel
def f_X7_isKindUnder_L4 (p1 : Int32) (x2_1 : Int32) (x3_1 : Int32) : Option ((Int32 × Int32) ⊕ Int32) := (if (7 : Int32) ≤ x3_1 then some (Sum.inr (0 : Int32)) else Option.bind (f_X7_isWithin x2_1 (7 : Int32)) (fun r3 => (if r3 = 0 then some (Sum.inr (0 : Int32)) else (if x2_1 = p1 then some (Sum.inr (1 : Int32)) else gin x2_1 7 (some (Sum.inl (tKA.getD x2_1.toNatClampNeg 0, x3_1 + (1 : Int32))))))))
def f_X7_isKindUnder (p0 : Int32) (p1 : Int32) (u : Mem) : Option (Int32) := whileO (fun s => f_X7_isKindUnder_L4 p1 s.1 s.2) FUEL (p0, (0 : Int32))
set_option maxHeartbeats 4000000 in
set_option maxRecDepth 100000 in
theorem k_X7_isKindUnder (l : Launch) (D : gDt) (base : Nat) (Z : gZt) (u : Mem) (p0 : Int32) (p1 : Int32) (r : Int32) (hf : f_X7_isKindUnder p0 p1 u = some r) : Met l yX7_isKindUnder (gws yX7_isKindUnder cX7_isKindUnder 4 (some .boolean)) (gRm 2 0 0) (gPc D base Z u [.int p0, .int p1]) (gQi D base r u) 0 0 (gF base) := by
  refine Met.ofW (cc := cX7_isKindUnder) (maxL := 4) (ret := some .boolean) (by decide) rfl ?_
  intro p e s m args below meth c s₁ B hml hv
  obtain ⟨rfl, C0, hG⟩ := g_enter B hml hv
  have hr := B.returns
  have C0 : gC p s m meth c _ cX7_isKindUnder 4 RX7 D base Z := C0
  have hx := C0.1
  have hb := C0.2.1
  have hl := lv_entry ([.int p0, .int p1]) (n := 4) (Nat.le_of_ble_eq_true rfl)
  rw [lg_entry_eq]
  generalize (lg_sl ([.int p0, .int p1]) ++ List.replicate (4 - (lg_sl ([.int p0, .int p1])).length) Slot.unset).toArray = ls at hl ⊢
  have hl : lv_has ls 4 [(0, .int p0), (1, .int p1)] := hl
  obtain ⟨Q, hQ⟩ : ∃ Q, Q = MQ below (gQi D base r u) ([.int p0, .int p1] : List Value).toArray s 0 0 (gF base) := ⟨_, rfl⟩
  rw [← hQ]
  change W p l e (gRm 2 0 0) s m _ below meth c _ _ _ _ _ _
  unfold f_X7_isKindUnder at hf
  refine lv_iload_n hx hb dX7_isKindUnder_0 rfl (lv_at hl 0 rfl) ?_
  refine lv_istore_n (lv' := [(2, .int p0), (0, .int p0), (1, .int p1)]) hx hb dX7_isKindUnder_1 rfl hl (by decide) rfl (fun ls hl => ?_)
  refine lv_iconst (v := (0 : Int32)) hx hb dX7_isKindUnder_2 (by decide) ?_
  refine lv_istore_n (lv' := [(3, .int (0 : Int32)), (2, .int p0), (0, .int p0), (1, .int p1)]) hx hb dX7_isKindUnder_3 rfl hl (by decide) rfl (fun ls hl => ?_)
  have loop1 : ∀ (n1 : Nat) (x2_1 : Int32) (x3_1 : Int32) (H : Heap) (locs : List Loc) (ls : Array Slot), gH D base s u H locs → lv_has ls 4 [(1, .int p1), (2, .int x2_1), (3, .int x3_1)] → whileO (fun s => f_X7_isKindUnder_L4 p1 s.1 s.2) n1 (x2_1, x3_1) = some r → W p l e (gRm 2 0 0) s m ([.int p0, .int p1] : List Value).toArray below meth c H locs 0 0 Q (F0 m 4 ls []) := by
    intro n1
    induction n1 with
    | zero => intro x2_1 x3_1 H locs ls hG hl hf; cases hf
    | succ n1 ih1 =>
      intro x2_1 x3_1 H locs ls hG hl hf
      obtain ⟨X1, hf, hX1⟩ := while_s hf
      have hf : f_X7_isKindUnder_L4 p1 x2_1 x3_1 = some X1 := hf
      unfold f_X7_isKindUnder_L4 at hf
      refine lv_iload_n hx hb dX7_isKindUnder_4 rfl (lv_at hl 2 rfl) ?_
      refine lv_bipush (v := (7 : Int32)) hx hb dX7_isKindUnder_5 (by decide) ?_
      refine lv_icmp_ge (tgt := 38) hx hb dX7_isKindUnder_7 (by decide) (fun c2 => ?_) (fun c2 => ?_)
      · have hf := gif_t c2 hf
        refine lv_iconst (v := (0 : Int32)) hx hb dX7_isKindUnder_38 (by decide) ?_
        have hf := while_r hX1 hf
        have hf := Option.some.inj hf
        subst hf
        subst hQ
        exact g_zret C0 hG hr (by decide) dX7_isKindUnder_39
      · have hf := gif_f c2 hf
        refine lv_iload_n hx hb dX7_isKindUnder_10 rfl (lv_at hl 1 rfl) ?_
        refine lv_bipush (v := (7 : Int32)) hx hb dX7_isKindUnder_11 (by decide) ?_
        obtain ⟨r3, hc3, hf⟩ := pb_s hf
        refine g_doI0 hG (g_runS C0 hG (k_X7_isWithin l D base Z u x2_1 (7 : Int32) r3 hc3) m_X7_isWithin s_X7_isWithin w_364 (by decide) rfl hl.1 rfl (Nat.le_of_ble_eq_true rfl) dX7_isKindUnder_13 ⟨Nat.zero_le _, Nat.zero_le _⟩) (fun H locs hG hk => ?_)
        refine lv_if_eq (tgt := 38) hx hb dX7_isKindUnder_16 (by decide) (fun c4 => ?_) (fun c4 => ?_)
        · have hf := gif_t c4 hf
          refine lv_iconst (v := (0 : Int32)) hx hb dX7_isKindUnder_38 (by decide) ?_
          have hf := while_r hX1 hf
          have hf := Option.some.inj hf
          subst hf
          subst hQ
          exact g_zret C0 hG hr (by decide) dX7_isKindUnder_39
        · have hf := gif_f c4 hf
          refine lv_iload_n hx hb dX7_isKindUnder_19 rfl (lv_at hl 1 rfl) ?_
          refine lv_iload_n hx hb dX7_isKindUnder_20 rfl (lv_at hl 0 rfl) ?_
          refine lv_icmp_ne (tgt := 26) hx hb dX7_isKindUnder_21 (by decide) (fun c5 => ?_) (fun c5 => ?_)
          · have hf := gif_f c5 hf
            refine g_sKA C0 hG w_808 dX7_isKindUnder_26 ?_
            refine lv_iload_n hx hb dX7_isKindUnder_29 rfl (lv_at hl 1 rfl) ?_
            obtain ⟨h6, hf⟩ := gin_s hf
            refine g_tKA C0 hG h6 dX7_isKindUnder_30 ?_
            refine lv_istore_n (lv' := [(2, .int (tKA.getD x2_1.toNatClampNeg 0)), (1, .int p1), (3, .int x3_1)]) hx hb dX7_isKindUnder_31 rfl hl (by decide) rfl (fun ls hl => ?_)
            refine lv_iinc (v := x3_1 + (1 : Int32)) (lv' := [(3, .int (x3_1 + (1 : Int32))), (2, .int (tKA.getD x2_1.toNatClampNeg 0)), (1, .int p1)]) hx hb dX7_isKindUnder_32 hl (k := 2) rfl rfl (by decide) rfl (fun ls hl => ?_)
            refine lv_goto (tgt := 4) hx hb dX7_isKindUnder_35 (by decide) ?_
            have hf := while_l hX1 hf
            exact ih1 (tKA.getD x2_1.toNatClampNeg 0) (x3_1 + (1 : Int32)) _ _ ls hG (lv_sub hl [2, 1, 0] rfl) hf
          · have hf := gif_t c5 hf
            refine lv_iconst (v := (1 : Int32)) hx hb dX7_isKindUnder_24 (by decide) ?_
            have hf := while_r hX1 hf
            have hf := Option.some.inj hf
            subst hf
            subst hQ
            exact g_zret C0 hG hr (by decide) dX7_isKindUnder_25
  exact loop1 FUEL p0 (0 : Int32) _ _ ls hG (lv_sub hl [3, 1, 0] rfl) hf
theorem dX7_taken_0 : decode cX7_taken 0 = .ok (.iload_n 2, 1) := by decide +kernel
theorem dX7_taken_1 : decode cX7_taken 1 = .ok (.bipush 7, 2) := by decide +kernel
theorem dX7_taken_3 : decode cX7_taken 3 = .ok (.invokestatic 63, 3) := by decide +kernel
theorem dX7_taken_6 : decode cX7_taken 6 = .ok (.ifCond .ne 6, 3) := by decide +kernel
theorem dX7_taken_9 : decode cX7_taken 9 = .ok (.bipush (-2), 2) := by decide +kernel
theorem dX7_taken_11 : decode cX7_taken 11 = .ok (.ireturn, 1) := by decide +kernel
theorem dX7_taken_12 : decode cX7_taken 12 = .ok (.aload_n 0, 1) := by decide +kernel
theorem dX7_taken_13 : decode cX7_taken 13 = .ok (.iload_n 1, 1) := by decide +kernel
theorem dX7_taken_14 : decode cX7_taken 14 = .ok (.invokevirtual 74, 3) := by decide +kernel
theorem dX7_taken_17 : decode cX7_taken 17 = .ok (.ifCond .ne 6, 3) := by decide +kernel
theorem dX7_taken_20 : decode cX7_taken 20 = .ok (.bipush (-11), 2) := by decide +kernel
theorem dX7_taken_22 : decode cX7_taken 22 = .ok (.ireturn, 1) := by decide +kernel
theorem dX7_taken_23 : decode cX7_taken 23 = .ok (.aload_n 0, 1) := by decide +kernel
theorem dX7_taken_24 : decode cX7_taken 24 = .ok (.getfield 12, 3) := by decide +kernel
theorem dX7_taken_27 : decode cX7_taken 27 = .ok (.getfield 78, 3) := by decide +kernel
theorem dX7_taken_30 : decode cX7_taken 30 = .ok (.iload_n 1, 1) := by decide +kernel
theorem dX7_taken_31 : decode cX7_taken 31 = .ok (.iaload, 1) := by decide +kernel
theorem dX7_taken_32 : decode cX7_taken 32 = .ok (.istore_n 3, 1) := by decide +kernel
theorem dX7_taken_33 : decode cX7_taken 33 = .ok (.iload_n 3, 1) := by decide +kernel
theorem dX7_taken_34 : decode cX7_taken 34 = .ok (.iload_n 2, 1) := by decide +kernel
theorem dX7_taken_35 : decode cX7_taken 35 = .ok (.invokestatic 267, 3) := by decide +kernel
theorem dX7_taken_38 : decode cX7_taken 38 = .ok (.ifCond .eq 7, 3) := by decide +kernel
theorem dX7_taken_41 : decode cX7_taken 41 = .ok (.iload_n 3, 1) := by decide +kernel
theorem dX7_taken_42 : decode cX7_taken 42 = .ok (.goto 5, 3) := by decide +kernel
theorem dX7_taken_45 : decode cX7_taken 45 = .ok (.bipush (-12), 2) := by decide +kernel
theorem dX7_taken_47 : decode cX7_taken 47 = .ok (.ireturn, 1) := by decide +kernel
def f_X7_taken (p1 : Int32) (p2 : Int32) (u : Mem) : Option (Int32) := Option.bind (f_X7_isWithin p2 (7 : Int32)) (fun r1 => (if r1 = 0 then some (-2 : Int32) else Option.bind (f_X7_isPerson p1 u) (fun r3 => (if r3 = 0 then some (-11 : Int32) else gin p1 6 (Option.bind (f_X7_isKindUnder (gA u 4 p1.toNatClampNeg) p2 u) (fun r6 => (if r6 = 0 then some (-12 : Int32) else some (gA u 4 p1.toNatClampNeg))))))))
set_option maxHeartbeats 4000000 in
set_option maxRecDepth 100000 in
theorem k_X7_taken (l : Launch) (D : gDt) (base : Nat) (Z : gZt) (u : Mem) (p1 : Int32) (p2 : Int32) (r : Int32) (hf : f_X7_taken p1 p2 u = some r) : Met l yX7_taken (gws yX7_taken cX7_taken 4 (some .int)) (gRm 3 0 0) (gPc D base Z u [.ref (base + 0), .int p1, .int p2]) (gQi D base r u) 0 0 (gF base) := by
  refine Met.ofW (cc := cX7_taken) (maxL := 4) (ret := some .int) (by decide) rfl ?_
  intro p e s m args below meth c s₁ B hml hv
  obtain ⟨rfl, C0, hG⟩ := g_enter B hml hv
  have hr := B.returns
  have C0 : gC p s m meth c _ cX7_taken 4 RX7 D base Z := C0
  have hx := C0.1
  have hb := C0.2.1
  have hl := lv_entry ([.ref (base + 0), .int p1, .int p2]) (n := 4) (Nat.le_of_ble_eq_true rfl)
  rw [lg_entry_eq]
  generalize (lg_sl ([.ref (base + 0), .int p1, .int p2]) ++ List.replicate (4 - (lg_sl ([.ref (base + 0), .int p1, .int p2])).length) Slot.unset).toArray = ls at hl ⊢
  have hl : lv_has ls 4 [(0, .ref (base + 0)), (1, .int p1), (2, .int p2)] := hl
  obtain ⟨Q, hQ⟩ : ∃ Q, Q = MQ below (gQi D base r u) ([.ref (base + 0), .int p1, .int p2] : List Value).toArray s 0 0 (gF base) := ⟨_, rfl⟩
  rw [← hQ]
  change W p l e (gRm 3 0 0) s m _ below meth c _ _ _ _ _ _
  unfold f_X7_taken at hf
  refine lv_iload_n hx hb dX7_taken_0 rfl (lv_at hl 2 rfl) ?_
  refine lv_bipush (v := (7 : Int32)) hx hb dX7_taken_1 (by decide) ?_
  obtain ⟨r1, hc1, hf⟩ := pb_s hf
  refine g_doI0 hG (g_runS C0 hG (k_X7_isWithin l D base Z u p2 (7 : Int32) r1 hc1) m_X7_isWithin s_X7_isWithin w_364 (by decide) rfl hl.1 rfl (Nat.le_of_ble_eq_true rfl) dX7_taken_3 ⟨Nat.zero_le _, Nat.zero_le _⟩) (fun H locs hG hk => ?_)
  refine lv_if_ne (tgt := 12) hx hb dX7_taken_6 (by decide) (fun c2 => ?_) (fun c2 => ?_)
  · have hf := gif_f c2 hf
    refine lv_aload_n hx hb dX7_taken_12 rfl (lv_at hl 0 rfl) ?_
    refine lv_iload_n hx hb dX7_taken_13 rfl (lv_at hl 1 rfl) ?_
    obtain ⟨r3, hc3, hf⟩ := pb_s hf
    refine g_doI0 hG (g_runV C0 hG (k_X7_isPerson l D base Z u p1 r3 hc3) m_X7_isPerson v_X7_isPerson w_378 (by decide) (g_recv C0 hG (L0 hG) rfl) rfl hl.1 rfl (Nat.le_of_ble_eq_true rfl) dX7_taken_14 ⟨Nat.zero_le _, Nat.zero_le _⟩) (fun H locs hG hk => ?_)
    refine lv_if_ne (tgt := 23) hx hb dX7_taken_17 (by decide) (fun c4 => ?_) (fun c4 => ?_)
    · have hf := gif_f c4 hf
      refine lv_aload_n hx hb dX7_taken_23 rfl (lv_at hl 0 rfl) ?_
      refine g_getSa (o := 1) (a := 1) C0 hG (L0 hG) rfl 0 (by decide) rfl rfl w_329 dX7_taken_24 ?_
      refine g_getSaN (o := 3) (a := 4) C0 hG (L1 hG) rfl 2 (by decide) rfl rfl w_159 dX7_taken_27 ?_
      refine lv_iload_n hx hb dX7_taken_30 rfl (lv_at hl 1 rfl) ?_
      obtain ⟨h5, hf⟩ := gin_s hf
      refine g_iald C0 hG (L4 hG) h5 dX7_taken_31 ?_
      refine lv_istore_n (lv' := [(3, .int (gA u 4 p1.toNatClampNeg)), (0, .ref (base + 0)), (1, .int p1), (2, .int p2)]) hx hb dX7_taken_32 rfl hl (by decide) rfl (fun ls hl => ?_)
      refine lv_iload_n hx hb dX7_taken_33 rfl (lv_at hl 0 rfl) ?_
      refine lv_iload_n hx hb dX7_taken_34 rfl (lv_at hl 3 rfl) ?_
      obtain ⟨r6, hc6, hf⟩ := pb_s hf
      refine g_doI0 hG (g_runS C0 hG (k_X7_isKindUnder l D base Z u (gA u 4 p1.toNatClampNeg) p2 r6 hc6) m_X7_isKindUnder s_X7_isKindUnder w_805 (by decide) rfl hl.1 rfl (Nat.le_of_ble_eq_true rfl) dX7_taken_35 ⟨Nat.zero_le _, Nat.zero_le _⟩) (fun H locs hG hk => ?_)
      refine lv_if_eq (tgt := 45) hx hb dX7_taken_38 (by decide) (fun c7 => ?_) (fun c7 => ?_)
      · have hf := gif_t c7 hf
        refine lv_bipush (v := (-12 : Int32)) hx hb dX7_taken_45 (by decide) ?_
        have hf := Option.some.inj hf
        subst hf
        subst hQ
        exact g_iret C0 hG hr dX7_taken_47
      · have hf := gif_f c7 hf
        refine lv_iload_n hx hb dX7_taken_41 rfl (lv_at hl 0 rfl) ?_
        refine lv_goto (tgt := 47) hx hb dX7_taken_42 (by decide) ?_
        have hf := Option.some.inj hf
        subst hf
        subst hQ
        exact g_iret C0 hG hr dX7_taken_47
    · have hf := gif_t c4 hf
      refine lv_bipush (v := (-11 : Int32)) hx hb dX7_taken_20 (by decide) ?_
      have hf := Option.some.inj hf
      subst hf
      subst hQ
      exact g_iret C0 hG hr dX7_taken_22
  · have hf := gif_t c2 hf
    refine lv_bipush (v := (-2 : Int32)) hx hb dX7_taken_9 (by decide) ?_
    have hf := Option.some.inj hf
    subst hf
    subst hQ
    exact g_iret C0 hG hr dX7_taken_11
theorem dX7_count_0 : decode cX7_count 0 = .ok (.iload_n 1, 1) := by decide +kernel
theorem dX7_count_1 : decode cX7_count 1 = .ok (.tableswitch 105 0 6 #[43, 51, 56, 67, 78, 89, 97], 43) := by decide +kernel
theorem dX7_count_44 : decode cX7_count 44 = .ok (.aload_n 0, 1) := by decide +kernel
theorem dX7_count_45 : decode cX7_count 45 = .ok (.getfield 12, 3) := by decide +kernel
theorem dX7_count_48 : decode cX7_count 48 = .ok (.getfield 175, 3) := by decide +kernel
theorem dX7_count_51 : decode cX7_count 51 = .ok (.ireturn, 1) := by decide +kernel
theorem dX7_count_52 : decode cX7_count 52 = .ok (.aload_n 0, 1) := by decide +kernel
theorem dX7_count_53 : decode cX7_count 53 = .ok (.getfield 45, 3) := by decide +kernel
theorem dX7_count_56 : decode cX7_count 56 = .ok (.ireturn, 1) := by decide +kernel
theorem dX7_count_57 : decode cX7_count 57 = .ok (.aload_n 0, 1) := by decide +kernel
theorem dX7_count_58 : decode cX7_count 58 = .ok (.getfield 27, 3) := by decide +kernel
theorem dX7_count_61 : decode cX7_count 61 = .ok (.getfield 178, 3) := by decide +kernel
theorem dX7_count_64 : decode cX7_count 64 = .ok (.getfield 208, 3) := by decide +kernel
theorem dX7_count_67 : decode cX7_count 67 = .ok (.ireturn, 1) := by decide +kernel
theorem dX7_count_68 : decode cX7_count 68 = .ok (.aload_n 0, 1) := by decide +kernel
theorem dX7_count_69 : decode cX7_count 69 = .ok (.getfield 27, 3) := by decide +kernel
theorem dX7_count_72 : decode cX7_count 72 = .ok (.getfield 205, 3) := by decide +kernel
theorem dX7_count_75 : decode cX7_count 75 = .ok (.getfield 208, 3) := by decide +kernel
theorem dX7_count_78 : decode cX7_count 78 = .ok (.ireturn, 1) := by decide +kernel
theorem dX7_count_79 : decode cX7_count 79 = .ok (.aload_n 0, 1) := by decide +kernel
theorem dX7_count_80 : decode cX7_count 80 = .ok (.getfield 27, 3) := by decide +kernel
theorem dX7_count_83 : decode cX7_count 83 = .ok (.getfield 224, 3) := by decide +kernel
theorem dX7_count_86 : decode cX7_count 86 = .ok (.getfield 208, 3) := by decide +kernel
theorem dX7_count_89 : decode cX7_count 89 = .ok (.ireturn, 1) := by decide +kernel
theorem dX7_count_90 : decode cX7_count 90 = .ok (.aload_n 0, 1) := by decide +kernel
theorem dX7_count_91 : decode cX7_count 91 = .ok (.getfield 41, 3) := by decide +kernel
theorem dX7_count_94 : decode cX7_count 94 = .ok (.getfield 129, 3) := by decide +kernel
theorem dX7_count_97 : decode cX7_count 97 = .ok (.ireturn, 1) := by decide +kernel
theorem dX7_count_98 : decode cX7_count 98 = .ok (.aload_n 0, 1) := by decide +kernel
theorem dX7_count_99 : decode cX7_count 99 = .ok (.getfield 52, 3) := by decide +kernel
theorem dX7_count_102 : decode cX7_count 102 = .ok (.getfield 244, 3) := by decide +kernel
theorem dX7_count_105 : decode cX7_count 105 = .ok (.ireturn, 1) := by decide +kernel
theorem dX7_count_106 : decode cX7_count 106 = .ok (.bipush (-2), 2) := by decide +kernel
theorem dX7_count_108 : decode cX7_count 108 = .ok (.ireturn, 1) := by decide +kernel
def f_X7_count (p1 : Int32) (u : Mem) : Option (Int32) := (if p1 = (0 : Int32) then some (gI u 1 9) else (if p1 = (1 : Int32) then some (gI u 0 7) else (if p1 = (2 : Int32) then some (gI u 38 4) else (if p1 = (3 : Int32) then some (gI u 42 4) else (if p1 = (4 : Int32) then some (gI u 46 4) else (if p1 = (5 : Int32) then some (gI u 63 1) else (if p1 = (6 : Int32) then some (gI u 67 1) else some (-2 : Int32))))))))
set_option maxHeartbeats 4000000 in
set_option maxRecDepth 100000 in
theorem k_X7_count (l : Launch) (D : gDt) (base : Nat) (Z : gZt) (u : Mem) (p1 : Int32) (r : Int32) (hf : f_X7_count p1 u = some r) : Met l yX7_count (gws yX7_count cX7_count 2 (some .int)) (gRm 1 0 0) (gPc D base Z u [.ref (base + 0), .int p1]) (gQi D base r u) 0 0 (gF base) := by
  refine Met.ofW (cc := cX7_count) (maxL := 2) (ret := some .int) (by decide) rfl ?_
  intro p e s m args below meth c s₁ B hml hv
  obtain ⟨rfl, C0, hG⟩ := g_enter B hml hv
  have hr := B.returns
  have C0 : gC p s m meth c _ cX7_count 2 RX7 D base Z := C0
  have hx := C0.1
  have hb := C0.2.1
  have hl := lv_entry ([.ref (base + 0), .int p1]) (n := 2) (Nat.le_of_ble_eq_true rfl)
  rw [lg_entry_eq]
  generalize (lg_sl ([.ref (base + 0), .int p1]) ++ List.replicate (2 - (lg_sl ([.ref (base + 0), .int p1])).length) Slot.unset).toArray = ls at hl ⊢
  have hl : lv_has ls 2 [(0, .ref (base + 0)), (1, .int p1)] := hl
  obtain ⟨Q, hQ⟩ : ∃ Q, Q = MQ below (gQi D base r u) ([.ref (base + 0), .int p1] : List Value).toArray s 0 0 (gF base) := ⟨_, rfl⟩
  rw [← hQ]
  change W p l e (gRm 1 0 0) s m _ below meth c _ _ _ _ _ _
  unfold f_X7_count at hf
  refine lv_iload_n hx hb dX7_count_0 rfl (lv_at hl 1 rfl) ?_
  refine (Decidable.em (p1 = (0 : Int32))).elim (fun c1 => ?_) (fun c1 => ?_)
  · have hf := gif_t c1 hf
    refine lv_tableIn (off := 43) (tgt := 44) hx hb dX7_count_1 (by rw [c1]; decide) (by rw [c1]; decide) (by rw [c1]; rfl) (by decide) ?_
    refine lv_aload_n hx hb dX7_count_44 rfl (lv_at hl 0 rfl) ?_
    refine g_getSa (o := 1) (a := 1) C0 hG (L0 hG) rfl 0 (by decide) rfl rfl w_329 dX7_count_45 ?_
    refine g_getIN C0 hG (L1 hG) rfl 9 (by decide) rfl w_172 dX7_count_48 ?_
    have hf := Option.some.inj hf
    subst hf
    subst hQ
    exact g_iret C0 hG hr dX7_count_51
  · have hf := gif_f c1 hf
    refine (Decidable.em (p1 = (1 : Int32))).elim (fun c2 => ?_) (fun c2 => ?_)
    · have hf := gif_t c2 hf
      refine lv_tableIn (off := 51) (tgt := 52) hx hb dX7_count_1 (by rw [c2]; decide) (by rw [c2]; decide) (by rw [c2]; rfl) (by decide) ?_
      refine lv_aload_n hx hb dX7_count_52 rfl (lv_at hl 0 rfl) ?_
      refine g_getI C0 hG (L0 hG) rfl 7 (by decide) rfl w_336 dX7_count_53 ?_
      have hf := Option.some.inj hf
      subst hf
      subst hQ
      exact g_iret C0 hG hr dX7_count_56
    · have hf := gif_f c2 hf
      refine (Decidable.em (p1 = (2 : Int32))).elim (fun c3 => ?_) (fun c3 => ?_)
      · have hf := gif_t c3 hf
        refine lv_tableIn (off := 56) (tgt := 57) hx hb dX7_count_1 (by rw [c3]; decide) (by rw [c3]; decide) (by rw [c3]; rfl) (by decide) ?_
        refine lv_aload_n hx hb dX7_count_57 rfl (lv_at hl 0 rfl) ?_
        refine g_getSa (o := 37) (a := 37) C0 hG (L0 hG) rfl 3 (by decide) rfl rfl w_332 dX7_count_58 ?_
        refine g_getSaN (o := 1) (a := 38) C0 hG (L37 hG) rfl 0 (by decide) rfl rfl w_246 dX7_count_61 ?_
        refine g_getIN C0 hG (L38 hG) rfl 4 (by decide) rfl w_233 dX7_count_64 ?_
        have hf := Option.some.inj hf
        subst hf
        subst hQ
        exact g_iret C0 hG hr dX7_count_67
      · have hf := gif_f c3 hf
        refine (Decidable.em (p1 = (3 : Int32))).elim (fun c4 => ?_) (fun c4 => ?_)
        · have hf := gif_t c4 hf
          refine lv_tableIn (off := 67) (tgt := 68) hx hb dX7_count_1 (by rw [c4]; decide) (by rw [c4]; decide) (by rw [c4]; rfl) (by decide) ?_
          refine lv_aload_n hx hb dX7_count_68 rfl (lv_at hl 0 rfl) ?_
          refine g_getSa (o := 37) (a := 37) C0 hG (L0 hG) rfl 3 (by decide) rfl rfl w_332 dX7_count_69 ?_
          refine g_getSaN (o := 5) (a := 42) C0 hG (L37 hG) rfl 1 (by decide) rfl rfl w_248 dX7_count_72 ?_
          refine g_getIN C0 hG (L42 hG) rfl 4 (by decide) rfl w_233 dX7_count_75 ?_
          have hf := Option.some.inj hf
          subst hf
          subst hQ
          exact g_iret C0 hG hr dX7_count_78
        · have hf := gif_f c4 hf
          refine (Decidable.em (p1 = (4 : Int32))).elim (fun c5 => ?_) (fun c5 => ?_)
          · have hf := gif_t c5 hf
            refine lv_tableIn (off := 78) (tgt := 79) hx hb dX7_count_1 (by rw [c5]; decide) (by rw [c5]; decide) (by rw [c5]; rfl) (by decide) ?_
            refine lv_aload_n hx hb dX7_count_79 rfl (lv_at hl 0 rfl) ?_
            refine g_getSa (o := 37) (a := 37) C0 hG (L0 hG) rfl 3 (by decide) rfl rfl w_332 dX7_count_80 ?_
            refine g_getSaN (o := 9) (a := 46) C0 hG (L37 hG) rfl 2 (by decide) rfl rfl w_250 dX7_count_83 ?_
            refine g_getIN C0 hG (L46 hG) rfl 4 (by decide) rfl w_233 dX7_count_86 ?_
            have hf := Option.some.inj hf
            subst hf
            subst hQ
            exact g_iret C0 hG hr dX7_count_89
          · have hf := gif_f c5 hf
            refine (Decidable.em (p1 = (5 : Int32))).elim (fun c6 => ?_) (fun c6 => ?_)
            · have hf := gif_t c6 hf
              refine lv_tableIn (off := 89) (tgt := 90) hx hb dX7_count_1 (by rw [c6]; decide) (by rw [c6]; decide) (by rw [c6]; rfl) (by decide) ?_
              refine lv_aload_n hx hb dX7_count_90 rfl (lv_at hl 0 rfl) ?_
              refine g_getSa (o := 63) (a := 63) C0 hG (L0 hG) rfl 6 (by decide) rfl rfl w_335 dX7_count_91 ?_
              refine g_getIN C0 hG (L63 hG) rfl 1 (by decide) rfl w_268 dX7_count_94 ?_
              have hf := Option.some.inj hf
              subst hf
              subst hQ
              exact g_iret C0 hG hr dX7_count_97
            · have hf := gif_f c6 hf
              refine (Decidable.em (p1 = (6 : Int32))).elim (fun c7 => ?_) (fun c7 => ?_)
              · have hf := gif_t c7 hf
                refine lv_tableIn (off := 97) (tgt := 98) hx hb dX7_count_1 (by rw [c7]; decide) (by rw [c7]; decide) (by rw [c7]; rfl) (by decide) ?_
                refine lv_aload_n hx hb dX7_count_98 rfl (lv_at hl 0 rfl) ?_
                refine g_getSa (o := 67) (a := 67) C0 hG (L0 hG) rfl 8 (by decide) rfl rfl w_337 dX7_count_99 ?_
                refine g_getIN C0 hG (L67 hG) rfl 1 (by decide) rfl w_290 dX7_count_102 ?_
                have hf := Option.some.inj hf
                subst hf
                subst hQ
                exact g_iret C0 hG hr dX7_count_105
              · have hf := gif_f c7 hf
                refine lv_tableOut (tgt := 106) hx hb dX7_count_1 (by
                    have n0 := lv_neT c1 (k := (0 : Int32)) (a := 0) (by decide)
                    have n1 := lv_neT c2 (k := (1 : Int32)) (a := 1) (by decide)
                    have n2 := lv_neT c3 (k := (2 : Int32)) (a := 2) (by decide)
                    have n3 := lv_neT c4 (k := (3 : Int32)) (a := 3) (by decide)
                    have n4 := lv_neT c5 (k := (4 : Int32)) (a := 4) (by decide)
                    have n5 := lv_neT c6 (k := (5 : Int32)) (a := 5) (by decide)
                    have n6 := lv_neT c7 (k := (6 : Int32)) (a := 6) (by decide)
                    omega) (by decide) ?_
                refine lv_bipush (v := (-2 : Int32)) hx hb dX7_count_106 (by decide) ?_
                have hf := Option.some.inj hf
                subst hf
                subst hQ
                exact g_iret C0 hG hr dX7_count_108
theorem dX7_tape_0 : decode cX7_tape 0 = .ok (.aload_n 0, 1) := by decide +kernel
theorem dX7_tape_1 : decode cX7_tape 1 = .ok (.iload_n 1, 1) := by decide +kernel
theorem dX7_tape_2 : decode cX7_tape 2 = .ok (.invokevirtual 227, 3) := by decide +kernel
theorem dX7_tape_5 : decode cX7_tape 5 = .ok (.astore 4, 2) := by decide +kernel
theorem dX7_tape_7 : decode cX7_tape 7 = .ok (.aload 4, 2) := by decide +kernel
theorem dX7_tape_9 : decode cX7_tape 9 = .ok (.ifnonnull 5, 3) := by decide +kernel
theorem dX7_tape_12 : decode cX7_tape 12 = .ok (.iconst (-1), 1) := by decide +kernel
theorem dX7_tape_13 : decode cX7_tape 13 = .ok (.ireturn, 1) := by decide +kernel
theorem dX7_tape_14 : decode cX7_tape 14 = .ok (.iload_n 2, 1) := by decide +kernel
theorem dX7_tape_15 : decode cX7_tape 15 = .ok (.iconst (-1), 1) := by decide +kernel
theorem dX7_tape_16 : decode cX7_tape 16 = .ok (.if_icmp .ne 11, 3) := by decide +kernel
theorem dX7_tape_19 : decode cX7_tape 19 = .ok (.aload 4, 2) := by decide +kernel
theorem dX7_tape_21 : decode cX7_tape 21 = .ok (.iconst (-1), 1) := by decide +kernel
theorem dX7_tape_22 : decode cX7_tape 22 = .ok (.iconst 0, 1) := by decide +kernel
theorem dX7_tape_23 : decode cX7_tape 23 = .ok (.invokevirtual 270, 3) := by decide +kernel
theorem dX7_tape_26 : decode cX7_tape 26 = .ok (.ireturn, 1) := by decide +kernel
theorem dX7_tape_27 : decode cX7_tape 27 = .ok (.iload_n 2, 1) := by decide +kernel
theorem dX7_tape_28 : decode cX7_tape 28 = .ok (.iconst 5, 1) := by decide +kernel
theorem dX7_tape_29 : decode cX7_tape 29 = .ok (.invokestatic 63, 3) := by decide +kernel
theorem dX7_tape_32 : decode cX7_tape 32 = .ok (.ifCond .eq 9, 3) := by decide +kernel
theorem dX7_tape_35 : decode cX7_tape 35 = .ok (.iload_n 3, 1) := by decide +kernel
theorem dX7_tape_36 : decode cX7_tape 36 = .ok (.bipush 60, 2) := by decide +kernel
theorem dX7_tape_38 : decode cX7_tape 38 = .ok (.if_icmp .le 6, 3) := by decide +kernel
theorem dX7_tape_41 : decode cX7_tape 41 = .ok (.bipush (-2), 2) := by decide +kernel
theorem dX7_tape_43 : decode cX7_tape 43 = .ok (.ireturn, 1) := by decide +kernel
theorem dX7_tape_44 : decode cX7_tape 44 = .ok (.iload_n 3, 1) := by decide +kernel
theorem dX7_tape_45 : decode cX7_tape 45 = .ok (.ifCond .ge 8, 3) := by decide +kernel
theorem dX7_tape_48 : decode cX7_tape 48 = .ok (.bipush (-14), 2) := by decide +kernel
theorem dX7_tape_50 : decode cX7_tape 50 = .ok (.goto 10, 3) := by decide +kernel
theorem dX7_tape_53 : decode cX7_tape 53 = .ok (.aload 4, 2) := by decide +kernel
theorem dX7_tape_55 : decode cX7_tape 55 = .ok (.iload_n 2, 1) := by decide +kernel
theorem dX7_tape_56 : decode cX7_tape 56 = .ok (.iload_n 3, 1) := by decide +kernel
theorem dX7_tape_57 : decode cX7_tape 57 = .ok (.invokevirtual 270, 3) := by decide +kernel
theorem dX7_tape_60 : decode cX7_tape 60 = .ok (.ireturn, 1) := by decide +kernel
def f_X7_tape (p1 : Int32) (p2 : Int32) (p3 : Int32) (u : Mem) : Option (Int32 × Mem) := Option.bind (f_X7_tapeAt p1 u) (fun r1 => omat r1 (some ((-1 : Int32), u)) (fun b1 => gob 129 b1 l5 ((if p2 = (-1 : Int32) then obind (f_X5_become b1 (-1 : Int32) (0 : Int32) u) (fun r8 u8 => some (r8, u8)) else Option.bind (f_X7_isWithin p2 (5 : Int32)) (fun r3 => (if r3 = 0 then some ((-2 : Int32), u) else (if p3 ≤ (60 : Int32) then (if 0 ≤ p3 then obind (f_X5_become b1 p2 p3 u) (fun r7 u7 => some (r7, u7)) else some ((-14 : Int32), u)) else some ((-2 : Int32), u))))))))
set_option maxHeartbeats 4000000 in
set_option maxRecDepth 100000 in
theorem k_X7_tape (l : Launch) (D : gDt) (base : Nat) (Z : gZt) (u : Mem) (p1 : Int32) (p2 : Int32) (p3 : Int32) (r : Int32) (u' : Mem) (hf : f_X7_tape p1 p2 p3 u = some (r, u')) : Met l yX7_tape (gws yX7_tape cX7_tape 5 (some .int)) (gRm 3 0 0) (gPc D base Z u [.ref (base + 0), .int p1, .int p2, .int p3]) (gQi D base r u') 0 0 (gF base) := by
  refine Met.ofW (cc := cX7_tape) (maxL := 5) (ret := some .int) (by decide) rfl ?_
  intro p e s m args below meth c s₁ B hml hv
  obtain ⟨rfl, C0, hG⟩ := g_enter B hml hv
  have hr := B.returns
  have C0 : gC p s m meth c _ cX7_tape 5 RX7 D base Z := C0
  have hx := C0.1
  have hb := C0.2.1
  have hl := lv_entry ([.ref (base + 0), .int p1, .int p2, .int p3]) (n := 5) (Nat.le_of_ble_eq_true rfl)
  rw [lg_entry_eq]
  generalize (lg_sl ([.ref (base + 0), .int p1, .int p2, .int p3]) ++ List.replicate (5 - (lg_sl ([.ref (base + 0), .int p1, .int p2, .int p3])).length) Slot.unset).toArray = ls at hl ⊢
  have hl : lv_has ls 5 [(0, .ref (base + 0)), (1, .int p1), (2, .int p2), (3, .int p3)] := hl
  obtain ⟨Q, hQ⟩ : ∃ Q, Q = MQ below (gQi D base r u') ([.ref (base + 0), .int p1, .int p2, .int p3] : List Value).toArray s 0 0 (gF base) := ⟨_, rfl⟩
  rw [← hQ]
  change W p l e (gRm 3 0 0) s m _ below meth c _ _ _ _ _ _
  unfold f_X7_tape at hf
  refine lv_aload_n hx hb dX7_tape_0 rfl (lv_at hl 0 rfl) ?_
  refine lv_iload_n hx hb dX7_tape_1 rfl (lv_at hl 1 rfl) ?_
  obtain ⟨r1, hc1, hf⟩ := pb_s hf
  refine g_doQ0 hG (g_runV C0 hG (k_X7_tapeAt l D base Z u p1 r1 hc1) m_X7_tapeAt v_X7_tapeAt w_750 (by decide) (g_recv C0 hG (L0 hG) rfl) rfl hl.1 rfl (Nat.le_of_ble_eq_true rfl) dX7_tape_2 ⟨Nat.zero_le _, Nat.zero_le _⟩) (fun H locs hG hk => ?_)
  cases r1 with
  | none =>
    have hf := omat_n hf
    change W p l e (gRm 3 0 0) s m _ below meth c _ _ _ _ _ (F0 m _ ls (.null :: _))
    refine lv_astoreN (lv' := [(4, .null), (0, .ref (base + 0)), (1, .int p1), (2, .int p2), (3, .int p3)]) hx hb dX7_tape_5 hl (by decide) rfl (fun ls hl => ?_)
    refine lv_aloadN hx hb dX7_tape_7 (lv_at hl 0 rfl) ?_
    refine lv_ifnonnullN hx hb dX7_tape_9 ?_
    refine lv_iconst (v := (-1 : Int32)) hx hb dX7_tape_12 (by decide) ?_
    obtain ⟨hr1, hu⟩ := gret_s hf
    subst hr1
    subst hu
    subst hQ
    exact g_iret C0 hG hr dX7_tape_13
  | some b1 =>
    have hf := omat_v hf
    obtain ⟨ho1, hf⟩ := gob_s hf
    change W p l e (gRm 3 0 0) s m _ below meth c _ _ _ _ _ (F0 m _ ls (.ref (base + b1) :: _))
    refine lv_astore (lv' := [(4, .ref (base + b1)), (0, .ref (base + 0)), (1, .int p1), (2, .int p2), (3, .int p3)]) hx hb dX7_tape_5 hl (by decide) rfl (fun ls hl => ?_)
    refine lv_aload hx hb dX7_tape_7 (lv_at hl 0 rfl) ?_
    refine lv_ifnonnull (tgt := 14) hx hb dX7_tape_9 (by decide) ?_
    refine lv_iload_n hx hb dX7_tape_14 rfl (lv_at hl 3 rfl) ?_
    refine lv_iconst (v := (-1 : Int32)) hx hb dX7_tape_15 (by decide) ?_
    refine lv_icmp_ne (tgt := 27) hx hb dX7_tape_16 (by decide) (fun c2 => ?_) (fun c2 => ?_)
    · have hf := gif_f c2 hf
      refine lv_iload_n hx hb dX7_tape_27 rfl (lv_at hl 3 rfl) ?_
      refine lv_iconst (v := (5 : Int32)) hx hb dX7_tape_28 (by decide) ?_
      obtain ⟨r3, hc3, hf⟩ := pb_s hf
      refine g_doI0 hG (g_runS C0 hG (k_X7_isWithin l D base Z u p2 (5 : Int32) r3 hc3) m_X7_isWithin s_X7_isWithin w_364 (by decide) rfl hl.1 rfl (Nat.le_of_ble_eq_true rfl) dX7_tape_29 ⟨Nat.zero_le _, Nat.zero_le _⟩) (fun H locs hG hk => ?_)
      refine lv_if_eq (tgt := 41) hx hb dX7_tape_32 (by decide) (fun c4 => ?_) (fun c4 => ?_)
      · have hf := gif_t c4 hf
        refine lv_bipush (v := (-2 : Int32)) hx hb dX7_tape_41 (by decide) ?_
        obtain ⟨hr1, hu⟩ := gret_s hf
        subst hr1
        subst hu
        subst hQ
        exact g_iret C0 hG hr dX7_tape_43
      · have hf := gif_f c4 hf
        refine lv_iload_n hx hb dX7_tape_35 rfl (lv_at hl 4 rfl) ?_
        refine lv_bipush (v := (60 : Int32)) hx hb dX7_tape_36 (by decide) ?_
        refine lv_icmp_le (tgt := 44) hx hb dX7_tape_38 (by decide) (fun c5 => ?_) (fun c5 => ?_)
        · have hf := gif_t c5 hf
          refine lv_iload_n hx hb dX7_tape_44 rfl (lv_at hl 4 rfl) ?_
          refine lv_if_ge (tgt := 53) hx hb dX7_tape_45 (by decide) (fun c6 => ?_) (fun c6 => ?_)
          · have hf := gif_t c6 hf
            refine lv_aload hx hb dX7_tape_53 (lv_at hl 0 rfl) ?_
            refine lv_iload_n hx hb dX7_tape_55 rfl (lv_at hl 3 rfl) ?_
            refine lv_iload_n hx hb dX7_tape_56 rfl (lv_at hl 4 rfl) ?_
            obtain ⟨r7, u7, hc7, hf⟩ := obind_s hf
            refine g_doI0 hG (g_runVN C0 hG (k_X5_become l D base Z u b1 p2 p3 r7 u7 ho1 hc7) m_X5_become v_X5_become w_817 (by decide) (g_recv C0 hG (T5_0 hG ho1) rfl) rfl hl.1 rfl (Nat.le_of_ble_eq_true rfl) dX7_tape_57 ⟨Nat.zero_le _, Nat.zero_le _⟩) (fun H locs hG hk => ?_)
            obtain ⟨hr1, hu⟩ := gret_s hf
            subst hr1
            subst hu
            subst hQ
            exact g_iret C0 hG hr dX7_tape_60
          · have hf := gif_f c6 hf
            refine lv_bipush (v := (-14 : Int32)) hx hb dX7_tape_48 (by decide) ?_
            refine lv_goto (tgt := 60) hx hb dX7_tape_50 (by decide) ?_
            obtain ⟨hr1, hu⟩ := gret_s hf
            subst hr1
            subst hu
            subst hQ
            exact g_iret C0 hG hr dX7_tape_60
        · have hf := gif_f c5 hf
          refine lv_bipush (v := (-2 : Int32)) hx hb dX7_tape_41 (by decide) ?_
          obtain ⟨hr1, hu⟩ := gret_s hf
          subst hr1
          subst hu
          subst hQ
          exact g_iret C0 hG hr dX7_tape_43
    · have hf := gif_t c2 hf
      refine lv_aload hx hb dX7_tape_19 (lv_at hl 0 rfl) ?_
      refine lv_iconst (v := (-1 : Int32)) hx hb dX7_tape_21 (by decide) ?_
      refine lv_iconst (v := (0 : Int32)) hx hb dX7_tape_22 (by decide) ?_
      obtain ⟨r8, u8, hc8, hf⟩ := obind_s hf
      refine g_doI0 hG (g_runVN C0 hG (k_X5_become l D base Z u b1 (-1 : Int32) (0 : Int32) r8 u8 ho1 hc8) m_X5_become v_X5_become w_817 (by decide) (g_recv C0 hG (T5_0 hG ho1) rfl) rfl hl.1 rfl (Nat.le_of_ble_eq_true rfl) dX7_tape_23 ⟨Nat.zero_le _, Nat.zero_le _⟩) (fun H locs hG hk => ?_)
      obtain ⟨hr1, hu⟩ := gret_s hf
      subst hr1
      subst hu
      subst hQ
      exact g_iret C0 hG hr dX7_tape_26
theorem dX7_item_0 : decode cX7_item 0 = .ok (.aload_n 0, 1) := by decide +kernel
theorem dX7_item_1 : decode cX7_item 1 = .ok (.iload_n 1, 1) := by decide +kernel
theorem dX7_item_2 : decode cX7_item 2 = .ok (.invokevirtual 227, 3) := by decide +kernel
theorem dX7_item_5 : decode cX7_item 5 = .ok (.astore 5, 2) := by decide +kernel
theorem dX7_item_7 : decode cX7_item 7 = .ok (.aload 5, 2) := by decide +kernel
theorem dX7_item_9 : decode cX7_item 9 = .ok (.ifnonnull 5, 3) := by decide +kernel
theorem dX7_item_12 : decode cX7_item 12 = .ok (.iconst (-1), 1) := by decide +kernel
theorem dX7_item_13 : decode cX7_item 13 = .ok (.ireturn, 1) := by decide +kernel
theorem dX7_item_14 : decode cX7_item 14 = .ok (.aload 5, 2) := by decide +kernel
theorem dX7_item_16 : decode cX7_item 16 = .ok (.getfield 231, 3) := by decide +kernel
theorem dX7_item_19 : decode cX7_item 19 = .ok (.iconst (-1), 1) := by decide +kernel
theorem dX7_item_20 : decode cX7_item 20 = .ok (.if_icmp .ne 6, 3) := by decide +kernel
theorem dX7_item_23 : decode cX7_item 23 = .ok (.bipush (-11), 2) := by decide +kernel
theorem dX7_item_25 : decode cX7_item 25 = .ok (.ireturn, 1) := by decide +kernel
theorem dX7_item_26 : decode cX7_item 26 = .ok (.iload_n 2, 1) := by decide +kernel
theorem dX7_item_27 : decode cX7_item 27 = .ok (.aload 5, 2) := by decide +kernel
theorem dX7_item_29 : decode cX7_item 29 = .ok (.getfield 273, 3) := by decide +kernel
theorem dX7_item_32 : decode cX7_item 32 = .ok (.invokestatic 63, 3) := by decide +kernel
theorem dX7_item_35 : decode cX7_item 35 = .ok (.ifCond .ne 6, 3) := by decide +kernel
theorem dX7_item_38 : decode cX7_item 38 = .ok (.bipush (-13), 2) := by decide +kernel
theorem dX7_item_40 : decode cX7_item 40 = .ok (.ireturn, 1) := by decide +kernel
theorem dX7_item_41 : decode cX7_item 41 = .ok (.aload 5, 2) := by decide +kernel
theorem dX7_item_43 : decode cX7_item 43 = .ok (.getfield 237, 3) := by decide +kernel
theorem dX7_item_46 : decode cX7_item 46 = .ok (.iload_n 2, 1) := by decide +kernel
theorem dX7_item_47 : decode cX7_item 47 = .ok (.aload 5, 2) := by decide +kernel
theorem dX7_item_49 : decode cX7_item 49 = .ok (.lload_n 3, 1) := by decide +kernel
theorem dX7_item_50 : decode cX7_item 50 = .ok (.invokevirtual 274, 3) := by decide +kernel
theorem dX7_item_53 : decode cX7_item 53 = .ok (.lastore, 1) := by decide +kernel
theorem dX7_item_54 : decode cX7_item 54 = .ok (.iconst 1, 1) := by decide +kernel
theorem dX7_item_55 : decode cX7_item 55 = .ok (.ireturn, 1) := by decide +kernel
def f_X7_item (p1 : Int32) (p2 : Int32) (p3 : Int64) (u : Mem) : Option (Int32 × Mem) := Option.bind (f_X7_tapeAt p1 u) (fun r1 => omat r1 (some ((-1 : Int32), u)) (fun b1 => gob 129 b1 l5 ((if (gI u b1 1) = (-1 : Int32) then some ((-11 : Int32), u) else Option.bind (f_X7_isWithin p2 (gI u b1 2)) (fun r3 => (if r3 = 0 then some ((-13 : Int32), u) else Option.bind (f_X5_lowestBits b1 p3 u) (fun r5 => gin p2 60 (some ((1 : Int32), sL u (b1 + 1) p2.toNatClampNeg r5)))))))))
set_option maxHeartbeats 4000000 in
set_option maxRecDepth 100000 in
theorem k_X7_item (l : Launch) (D : gDt) (base : Nat) (Z : gZt) (u : Mem) (p1 : Int32) (p2 : Int32) (p3 : Int64) (r : Int32) (u' : Mem) (hf : f_X7_item p1 p2 p3 u = some (r, u')) : Met l yX7_item (gws yX7_item cX7_item 6 (some .int)) (gRm 3 0 0) (gPc D base Z u [.ref (base + 0), .int p1, .int p2, .long p3]) (gQi D base r u') 0 0 (gF base) := by
  refine Met.ofW (cc := cX7_item) (maxL := 6) (ret := some .int) (by decide) rfl ?_
  intro p e s m args below meth c s₁ B hml hv
  obtain ⟨rfl, C0, hG⟩ := g_enter B hml hv
  have hr := B.returns
  have C0 : gC p s m meth c _ cX7_item 6 RX7 D base Z := C0
  have hx := C0.1
  have hb := C0.2.1
  have hl := lv_entry ([.ref (base + 0), .int p1, .int p2, .long p3]) (n := 6) (Nat.le_of_ble_eq_true rfl)
  rw [lg_entry_eq]
  generalize (lg_sl ([.ref (base + 0), .int p1, .int p2, .long p3]) ++ List.replicate (6 - (lg_sl ([.ref (base + 0), .int p1, .int p2, .long p3])).length) Slot.unset).toArray = ls at hl ⊢
  have hl : lv_has ls 6 [(0, .ref (base + 0)), (1, .int p1), (2, .int p2), (3, .long p3)] := hl
  obtain ⟨Q, hQ⟩ : ∃ Q, Q = MQ below (gQi D base r u') ([.ref (base + 0), .int p1, .int p2, .long p3] : List Value).toArray s 0 0 (gF base) := ⟨_, rfl⟩
  rw [← hQ]
  change W p l e (gRm 3 0 0) s m _ below meth c _ _ _ _ _ _
  unfold f_X7_item at hf
  refine lv_aload_n hx hb dX7_item_0 rfl (lv_at hl 0 rfl) ?_
  refine lv_iload_n hx hb dX7_item_1 rfl (lv_at hl 1 rfl) ?_
  obtain ⟨r1, hc1, hf⟩ := pb_s hf
  refine g_doQ0 hG (g_runV C0 hG (k_X7_tapeAt l D base Z u p1 r1 hc1) m_X7_tapeAt v_X7_tapeAt w_750 (by decide) (g_recv C0 hG (L0 hG) rfl) rfl hl.1 rfl (Nat.le_of_ble_eq_true rfl) dX7_item_2 ⟨Nat.zero_le _, Nat.zero_le _⟩) (fun H locs hG hk => ?_)
  cases r1 with
  | none =>
    have hf := omat_n hf
    change W p l e (gRm 3 0 0) s m _ below meth c _ _ _ _ _ (F0 m _ ls (.null :: _))
    refine lv_astoreN (lv' := [(5, .null), (0, .ref (base + 0)), (1, .int p1), (2, .int p2), (3, .long p3)]) hx hb dX7_item_5 hl (by decide) rfl (fun ls hl => ?_)
    refine lv_aloadN hx hb dX7_item_7 (lv_at hl 0 rfl) ?_
    refine lv_ifnonnullN hx hb dX7_item_9 ?_
    refine lv_iconst (v := (-1 : Int32)) hx hb dX7_item_12 (by decide) ?_
    obtain ⟨hr1, hu⟩ := gret_s hf
    subst hr1
    subst hu
    subst hQ
    exact g_iret C0 hG hr dX7_item_13
  | some b1 =>
    have hf := omat_v hf
    obtain ⟨ho1, hf⟩ := gob_s hf
    change W p l e (gRm 3 0 0) s m _ below meth c _ _ _ _ _ (F0 m _ ls (.ref (base + b1) :: _))
    refine lv_astore (lv' := [(5, .ref (base + b1)), (0, .ref (base + 0)), (1, .int p1), (2, .int p2), (3, .long p3)]) hx hb dX7_item_5 hl (by decide) rfl (fun ls hl => ?_)
    refine lv_aload hx hb dX7_item_7 (lv_at hl 0 rfl) ?_
    refine lv_ifnonnull (tgt := 14) hx hb dX7_item_9 (by decide) ?_
    refine lv_aload hx hb dX7_item_14 (lv_at hl 0 rfl) ?_
    refine g_getIN C0 hG (T5_0 hG ho1) rfl 1 (by decide) rfl w_318 dX7_item_16 ?_
    refine lv_iconst (v := (-1 : Int32)) hx hb dX7_item_19 (by decide) ?_
    refine lv_icmp_ne (tgt := 26) hx hb dX7_item_20 (by decide) (fun c2 => ?_) (fun c2 => ?_)
    · have hf := gif_f c2 hf
      refine lv_iload_n hx hb dX7_item_26 rfl (lv_at hl 3 rfl) ?_
      refine lv_aload hx hb dX7_item_27 (lv_at hl 0 rfl) ?_
      refine g_getIN C0 hG (T5_0 hG ho1) rfl 2 (by decide) rfl w_320 dX7_item_29 ?_
      obtain ⟨r3, hc3, hf⟩ := pb_s hf
      refine g_doI0 hG (g_runS C0 hG (k_X7_isWithin l D base Z u p2 (gI u b1 2) r3 hc3) m_X7_isWithin s_X7_isWithin w_364 (by decide) rfl hl.1 rfl (Nat.le_of_ble_eq_true rfl) dX7_item_32 ⟨Nat.zero_le _, Nat.zero_le _⟩) (fun H locs hG hk => ?_)
      refine lv_if_ne (tgt := 41) hx hb dX7_item_35 (by decide) (fun c4 => ?_) (fun c4 => ?_)
      · have hf := gif_f c4 hf
        refine lv_aload hx hb dX7_item_41 (lv_at hl 0 rfl) ?_
        refine g_getSaN (o := 1) (a := (b1 + 1)) C0 hG (T5_0 hG ho1) rfl 0 (by decide) rfl rfl w_316 dX7_item_43 ?_
        refine lv_iload_n hx hb dX7_item_46 rfl (lv_at hl 3 rfl) ?_
        refine lv_aload hx hb dX7_item_47 (lv_at hl 0 rfl) ?_
        refine lv_lload_n hx hb dX7_item_49 rfl (lv_at hl 4 rfl) ?_
        obtain ⟨r5, hc5, hf⟩ := pb_s hf
        refine g_doL0 hG (g_runVN C0 hG (k_X5_lowestBits l D base Z u b1 p3 r5 ho1 hc5) m_X5_lowestBits v_X5_lowestBits w_827 (by decide) (g_recv C0 hG (T5_0 hG ho1) rfl) rfl hl.1 rfl (Nat.le_of_ble_eq_true rfl) dX7_item_50 ⟨Nat.zero_le _, Nat.zero_le _⟩) (fun H locs hG hk => ?_)
        obtain ⟨h6, hf⟩ := gin_s hf
        refine g_last C0 hG (T5_1 hG ho1) h6 dX7_item_53 (fun H locs hG => ?_)
        refine lv_iconst (v := (1 : Int32)) hx hb dX7_item_54 (by decide) ?_
        obtain ⟨hr1, hu⟩ := gret_s hf
        subst hr1
        subst hu
        subst hQ
        exact g_iret C0 hG hr dX7_item_55
      · have hf := gif_t c4 hf
        refine lv_bipush (v := (-13 : Int32)) hx hb dX7_item_38 (by decide) ?_
        obtain ⟨hr1, hu⟩ := gret_s hf
        subst hr1
        subst hu
        subst hQ
        exact g_iret C0 hG hr dX7_item_40
    · have hf := gif_t c2 hf
      refine lv_bipush (v := (-11 : Int32)) hx hb dX7_item_23 (by decide) ?_
      obtain ⟨hr1, hu⟩ := gret_s hf
      subst hr1
      subst hu
      subst hQ
      exact g_iret C0 hG hr dX7_item_25
theorem dX7_read_0 : decode cX7_read 0 = .ok (.aload_n 0, 1) := by decide +kernel
theorem dX7_read_1 : decode cX7_read 1 = .ok (.iload_n 1, 1) := by decide +kernel
theorem dX7_read_2 : decode cX7_read 2 = .ok (.invokevirtual 227, 3) := by decide +kernel
theorem dX7_read_5 : decode cX7_read 5 = .ok (.astore_n 3, 1) := by decide +kernel
theorem dX7_read_6 : decode cX7_read 6 = .ok (.aload_n 3, 1) := by decide +kernel
theorem dX7_read_7 : decode cX7_read 7 = .ok (.ifnull 14, 3) := by decide +kernel
theorem dX7_read_10 : decode cX7_read 10 = .ok (.iload_n 2, 1) := by decide +kernel
theorem dX7_read_11 : decode cX7_read 11 = .ok (.aload_n 3, 1) := by decide +kernel
theorem dX7_read_12 : decode cX7_read 12 = .ok (.getfield 273, 3) := by decide +kernel
theorem dX7_read_15 : decode cX7_read 15 = .ok (.invokestatic 63, 3) := by decide +kernel
theorem dX7_read_18 : decode cX7_read 18 = .ok (.ifCond .ne 9, 3) := by decide +kernel
theorem dX7_read_21 : decode cX7_read 21 = .ok (.ldc2_w 194, 3) := by decide +kernel
theorem dX7_read_24 : decode cX7_read 24 = .ok (.goto 9, 3) := by decide +kernel
theorem dX7_read_27 : decode cX7_read 27 = .ok (.aload_n 3, 1) := by decide +kernel
theorem dX7_read_28 : decode cX7_read 28 = .ok (.getfield 237, 3) := by decide +kernel
theorem dX7_read_31 : decode cX7_read 31 = .ok (.iload_n 2, 1) := by decide +kernel
theorem dX7_read_32 : decode cX7_read 32 = .ok (.laload, 1) := by decide +kernel
theorem dX7_read_33 : decode cX7_read 33 = .ok (.lreturn, 1) := by decide +kernel
def f_X7_read (p1 : Int32) (p2 : Int32) (u : Mem) : Option (Int64) := Option.bind (f_X7_tapeAt p1 u) (fun r1 => omat r1 (some (-9223372036854775808 : Int64)) (fun b1 => gob 129 b1 l5 (Option.bind (f_X7_isWithin p2 (gI u b1 2)) (fun r2 => (if r2 = 0 then some (-9223372036854775808 : Int64) else gin p2 60 (some (gL u (b1 + 1) p2.toNatClampNeg)))))))
set_option maxHeartbeats 4000000 in
set_option maxRecDepth 100000 in
theorem k_X7_read (l : Launch) (D : gDt) (base : Nat) (Z : gZt) (u : Mem) (p1 : Int32) (p2 : Int32) (r : Int64) (hf : f_X7_read p1 p2 u = some r) : Met l yX7_read (gws yX7_read cX7_read 4 (some .long)) (gRm 3 0 0) (gPc D base Z u [.ref (base + 0), .int p1, .int p2]) (gQl D base r u) 0 0 (gF base) := by
  refine Met.ofW (cc := cX7_read) (maxL := 4) (ret := some .long) (by decide) rfl ?_
  intro p e s m args below meth c s₁ B hml hv
  obtain ⟨rfl, C0, hG⟩ := g_enter B hml hv
  have hr := B.returns
  have C0 : gC p s m meth c _ cX7_read 4 RX7 D base Z := C0
  have hx := C0.1
  have hb := C0.2.1
  have hl := lv_entry ([.ref (base + 0), .int p1, .int p2]) (n := 4) (Nat.le_of_ble_eq_true rfl)
  rw [lg_entry_eq]
  generalize (lg_sl ([.ref (base + 0), .int p1, .int p2]) ++ List.replicate (4 - (lg_sl ([.ref (base + 0), .int p1, .int p2])).length) Slot.unset).toArray = ls at hl ⊢
  have hl : lv_has ls 4 [(0, .ref (base + 0)), (1, .int p1), (2, .int p2)] := hl
  obtain ⟨Q, hQ⟩ : ∃ Q, Q = MQ below (gQl D base r u) ([.ref (base + 0), .int p1, .int p2] : List Value).toArray s 0 0 (gF base) := ⟨_, rfl⟩
  rw [← hQ]
  change W p l e (gRm 3 0 0) s m _ below meth c _ _ _ _ _ _
  unfold f_X7_read at hf
  refine lv_aload_n hx hb dX7_read_0 rfl (lv_at hl 0 rfl) ?_
  refine lv_iload_n hx hb dX7_read_1 rfl (lv_at hl 1 rfl) ?_
  obtain ⟨r1, hc1, hf⟩ := pb_s hf
  refine g_doQ0 hG (g_runV C0 hG (k_X7_tapeAt l D base Z u p1 r1 hc1) m_X7_tapeAt v_X7_tapeAt w_750 (by decide) (g_recv C0 hG (L0 hG) rfl) rfl hl.1 rfl (Nat.le_of_ble_eq_true rfl) dX7_read_2 ⟨Nat.zero_le _, Nat.zero_le _⟩) (fun H locs hG hk => ?_)
  cases r1 with
  | none =>
    have hf := omat_n hf
    change W p l e (gRm 3 0 0) s m _ below meth c _ _ _ _ _ (F0 m _ ls (.null :: _))
    refine lv_astore_nN (lv' := [(3, .null), (0, .ref (base + 0)), (1, .int p1), (2, .int p2)]) hx hb dX7_read_5 rfl hl (by decide) rfl (fun ls hl => ?_)
    refine lv_aload_nN hx hb dX7_read_6 rfl (lv_at hl 0 rfl) ?_
    refine lv_ifnullN (tgt := 21) hx hb dX7_read_7 (by decide) ?_
    refine lv_ldc2 (v := (-9223372036854775808 : Int64)) hx hb C0.2.2.2.1 (C0.2.2.2.2.1 _ w_712) dX7_read_21 ?_
    refine lv_goto (tgt := 33) hx hb dX7_read_24 (by decide) ?_
    have hf := Option.some.inj hf
    subst hf
    subst hQ
    exact g_lret C0 hG hr dX7_read_33
  | some b1 =>
    have hf := omat_v hf
    obtain ⟨ho1, hf⟩ := gob_s hf
    change W p l e (gRm 3 0 0) s m _ below meth c _ _ _ _ _ (F0 m _ ls (.ref (base + b1) :: _))
    refine lv_astore_n (lv' := [(3, .ref (base + b1)), (0, .ref (base + 0)), (1, .int p1), (2, .int p2)]) hx hb dX7_read_5 rfl hl (by decide) rfl (fun ls hl => ?_)
    refine lv_aload_n hx hb dX7_read_6 rfl (lv_at hl 0 rfl) ?_
    refine lv_ifnull hx hb dX7_read_7 ?_
    refine lv_iload_n hx hb dX7_read_10 rfl (lv_at hl 3 rfl) ?_
    refine lv_aload_n hx hb dX7_read_11 rfl (lv_at hl 0 rfl) ?_
    refine g_getIN C0 hG (T5_0 hG ho1) rfl 2 (by decide) rfl w_320 dX7_read_12 ?_
    obtain ⟨r2, hc2, hf⟩ := pb_s hf
    refine g_doI0 hG (g_runS C0 hG (k_X7_isWithin l D base Z u p2 (gI u b1 2) r2 hc2) m_X7_isWithin s_X7_isWithin w_364 (by decide) rfl hl.1 rfl (Nat.le_of_ble_eq_true rfl) dX7_read_15 ⟨Nat.zero_le _, Nat.zero_le _⟩) (fun H locs hG hk => ?_)
    refine lv_if_ne (tgt := 27) hx hb dX7_read_18 (by decide) (fun c3 => ?_) (fun c3 => ?_)
    · have hf := gif_f c3 hf
      refine lv_aload_n hx hb dX7_read_27 rfl (lv_at hl 0 rfl) ?_
      refine g_getSaN (o := 1) (a := (b1 + 1)) C0 hG (T5_0 hG ho1) rfl 0 (by decide) rfl rfl w_316 dX7_read_28 ?_
      refine lv_iload_n hx hb dX7_read_31 rfl (lv_at hl 3 rfl) ?_
      obtain ⟨h4, hf⟩ := gin_s hf
      refine g_lald C0 hG (T5_1 hG ho1) h4 dX7_read_32 ?_
      have hf := Option.some.inj hf
      subst hf
      subst hQ
      exact g_lret C0 hG hr dX7_read_33
    · have hf := gif_t c3 hf
      refine lv_ldc2 (v := (-9223372036854775808 : Int64)) hx hb C0.2.2.2.1 (C0.2.2.2.2.1 _ w_712) dX7_read_21 ?_
      refine lv_goto (tgt := 33) hx hb dX7_read_24 (by decide) ?_
      have hf := Option.some.inj hf
      subst hf
      subst hQ
      exact g_lret C0 hG hr dX7_read_33
theorem dX7_shift_0 : decode cX7_shift 0 = .ok (.aload_n 0, 1) := by decide +kernel
theorem dX7_shift_1 : decode cX7_shift 1 = .ok (.iload_n 1, 1) := by decide +kernel
theorem dX7_shift_2 : decode cX7_shift 2 = .ok (.invokevirtual 227, 3) := by decide +kernel
theorem dX7_shift_5 : decode cX7_shift 5 = .ok (.astore 6, 2) := by decide +kernel
theorem dX7_shift_7 : decode cX7_shift 7 = .ok (.aload_n 0, 1) := by decide +kernel
theorem dX7_shift_8 : decode cX7_shift 8 = .ok (.iload_n 3, 1) := by decide +kernel
theorem dX7_shift_9 : decode cX7_shift 9 = .ok (.invokevirtual 227, 3) := by decide +kernel
theorem dX7_shift_12 : decode cX7_shift 12 = .ok (.astore 7, 2) := by decide +kernel
theorem dX7_shift_14 : decode cX7_shift 14 = .ok (.aload 6, 2) := by decide +kernel
theorem dX7_shift_16 : decode cX7_shift 16 = .ok (.ifnull 8, 3) := by decide +kernel
theorem dX7_shift_19 : decode cX7_shift 19 = .ok (.aload 7, 2) := by decide +kernel
theorem dX7_shift_21 : decode cX7_shift 21 = .ok (.ifnonnull 5, 3) := by decide +kernel
theorem dX7_shift_24 : decode cX7_shift 24 = .ok (.iconst (-1), 1) := by decide +kernel
theorem dX7_shift_25 : decode cX7_shift 25 = .ok (.ireturn, 1) := by decide +kernel
theorem dX7_shift_26 : decode cX7_shift 26 = .ok (.aload 6, 2) := by decide +kernel
theorem dX7_shift_28 : decode cX7_shift 28 = .ok (.getfield 231, 3) := by decide +kernel
theorem dX7_shift_31 : decode cX7_shift 31 = .ok (.iconst (-1), 1) := by decide +kernel
theorem dX7_shift_32 : decode cX7_shift 32 = .ok (.if_icmp .eq 12, 3) := by decide +kernel
theorem dX7_shift_35 : decode cX7_shift 35 = .ok (.aload 7, 2) := by decide +kernel
theorem dX7_shift_37 : decode cX7_shift 37 = .ok (.getfield 231, 3) := by decide +kernel
theorem dX7_shift_40 : decode cX7_shift 40 = .ok (.iconst (-1), 1) := by decide +kernel
theorem dX7_shift_41 : decode cX7_shift 41 = .ok (.if_icmp .ne 6, 3) := by decide +kernel
theorem dX7_shift_44 : decode cX7_shift 44 = .ok (.bipush (-11), 2) := by decide +kernel
theorem dX7_shift_46 : decode cX7_shift 46 = .ok (.ireturn, 1) := by decide +kernel
theorem dX7_shift_47 : decode cX7_shift 47 = .ok (.aload 6, 2) := by decide +kernel
theorem dX7_shift_49 : decode cX7_shift 49 = .ok (.getfield 231, 3) := by decide +kernel
theorem dX7_shift_52 : decode cX7_shift 52 = .ok (.aload 7, 2) := by decide +kernel
theorem dX7_shift_54 : decode cX7_shift 54 = .ok (.getfield 231, 3) := by decide +kernel
theorem dX7_shift_57 : decode cX7_shift 57 = .ok (.if_icmp .eq 6, 3) := by decide +kernel
theorem dX7_shift_60 : decode cX7_shift 60 = .ok (.bipush (-12), 2) := by decide +kernel
theorem dX7_shift_62 : decode cX7_shift 62 = .ok (.ireturn, 1) := by decide +kernel
theorem dX7_shift_63 : decode cX7_shift 63 = .ok (.iload 5, 2) := by decide +kernel
theorem dX7_shift_65 : decode cX7_shift 65 = .ok (.ifCond .lt 26, 3) := by decide +kernel
theorem dX7_shift_68 : decode cX7_shift 68 = .ok (.aload 6, 2) := by decide +kernel
theorem dX7_shift_70 : decode cX7_shift 70 = .ok (.iload_n 2, 1) := by decide +kernel
theorem dX7_shift_71 : decode cX7_shift 71 = .ok (.invokevirtual 234, 3) := by decide +kernel
theorem dX7_shift_74 : decode cX7_shift 74 = .ok (.iload 5, 2) := by decide +kernel
theorem dX7_shift_76 : decode cX7_shift 76 = .ok (.if_icmp .lt 15, 3) := by decide +kernel
theorem dX7_shift_79 : decode cX7_shift 79 = .ok (.aload 7, 2) := by decide +kernel
theorem dX7_shift_81 : decode cX7_shift 81 = .ok (.iload 4, 2) := by decide +kernel
theorem dX7_shift_83 : decode cX7_shift 83 = .ok (.invokevirtual 234, 3) := by decide +kernel
theorem dX7_shift_86 : decode cX7_shift 86 = .ok (.iload 5, 2) := by decide +kernel
theorem dX7_shift_88 : decode cX7_shift 88 = .ok (.if_icmp .ge 6, 3) := by decide +kernel
theorem dX7_shift_91 : decode cX7_shift 91 = .ok (.bipush (-13), 2) := by decide +kernel
theorem dX7_shift_93 : decode cX7_shift 93 = .ok (.ireturn, 1) := by decide +kernel
theorem dX7_shift_94 : decode cX7_shift 94 = .ok (.aload 6, 2) := by decide +kernel
theorem dX7_shift_96 : decode cX7_shift 96 = .ok (.getfield 237, 3) := by decide +kernel
theorem dX7_shift_99 : decode cX7_shift 99 = .ok (.iload_n 2, 1) := by decide +kernel
theorem dX7_shift_100 : decode cX7_shift 100 = .ok (.aload 7, 2) := by decide +kernel
theorem dX7_shift_102 : decode cX7_shift 102 = .ok (.getfield 237, 3) := by decide +kernel
theorem dX7_shift_105 : decode cX7_shift 105 = .ok (.iload 4, 2) := by decide +kernel
theorem dX7_shift_107 : decode cX7_shift 107 = .ok (.iload 5, 2) := by decide +kernel
theorem dX7_shift_109 : decode cX7_shift 109 = .ok (.invokestatic 278, 3) := by decide +kernel
theorem dX7_shift_112 : decode cX7_shift 112 = .ok (.iload 5, 2) := by decide +kernel
theorem dX7_shift_114 : decode cX7_shift 114 = .ok (.ireturn, 1) := by decide +kernel
def f_X7_shift (p1 : Int32) (p2 : Int32) (p3 : Int32) (p4 : Int32) (p5 : Int32) (u : Mem) : Option (Int32 × Mem) := Option.bind (f_X7_tapeAt p1 u) (fun r1 => omat r1 (Option.bind (f_X7_tapeAt p3 u) (fun r2 => omat r2 (some ((-1 : Int32), u)) (fun b2 => gob 129 b2 l5 (some ((-1 : Int32), u))))) (fun b1 => gob 129 b1 l5 (Option.bind (f_X7_tapeAt p3 u) (fun r3 => omat r3 (some ((-1 : Int32), u)) (fun b3 => gob 129 b3 l5 ((if (gI u b1 1) = (-1 : Int32) then some ((-11 : Int32), u) else (if (gI u b3 1) = (-1 : Int32) then some ((-11 : Int32), u) else (if (gI u b1 1) = (gI u b3 1) then (if p5 < 0 then some ((-13 : Int32), u) else Option.bind (f_X5_countFrom b1 p2 u) (fun r8 => (if r8 < p5 then some ((-13 : Int32), u) else Option.bind (f_X5_countFrom b3 p4 u) (fun r10 => (if p5 ≤ r10 then gcp p2 p4 p5 60 60 (some (p5, sCL u (b1 + 1) p2.toNatClampNeg (b3 + 1) p4.toNatClampNeg p5.toNatClampNeg)) else some ((-13 : Int32), u)))))) else some ((-12 : Int32), u))))))))))
set_option maxHeartbeats 4000000 in
set_option maxRecDepth 100000 in
theorem k_X7_shift (l : Launch) (D : gDt) (base : Nat) (Z : gZt) (u : Mem) (p1 : Int32) (p2 : Int32) (p3 : Int32) (p4 : Int32) (p5 : Int32) (r : Int32) (u' : Mem) (hf : f_X7_shift p1 p2 p3 p4 p5 u = some (r, u')) : Met l yX7_shift (gws yX7_shift cX7_shift 8 (some .int)) (gRm 3 0 0) (gPc D base Z u [.ref (base + 0), .int p1, .int p2, .int p3, .int p4, .int p5]) (gQi D base r u') 0 0 (gF base) := by
  refine Met.ofW (cc := cX7_shift) (maxL := 8) (ret := some .int) (by decide) rfl ?_
  intro p e s m args below meth c s₁ B hml hv
  obtain ⟨rfl, C0, hG⟩ := g_enter B hml hv
  have hr := B.returns
  have C0 : gC p s m meth c _ cX7_shift 8 RX7 D base Z := C0
  have hx := C0.1
  have hb := C0.2.1
  have hl := lv_entry ([.ref (base + 0), .int p1, .int p2, .int p3, .int p4, .int p5]) (n := 8) (Nat.le_of_ble_eq_true rfl)
  rw [lg_entry_eq]
  generalize (lg_sl ([.ref (base + 0), .int p1, .int p2, .int p3, .int p4, .int p5]) ++ List.replicate (8 - (lg_sl ([.ref (base + 0), .int p1, .int p2, .int p3, .int p4, .int p5])).length) Slot.unset).toArray = ls at hl ⊢
  have hl : lv_has ls 8 [(0, .ref (base + 0)), (1, .int p1), (2, .int p2), (3, .int p3), (4, .int p4), (5, .int p5)] := hl
  obtain ⟨Q, hQ⟩ : ∃ Q, Q = MQ below (gQi D base r u') ([.ref (base + 0), .int p1, .int p2, .int p3, .int p4, .int p5] : List Value).toArray s 0 0 (gF base) := ⟨_, rfl⟩
  rw [← hQ]
  change W p l e (gRm 3 0 0) s m _ below meth c _ _ _ _ _ _
  unfold f_X7_shift at hf
  refine lv_aload_n hx hb dX7_shift_0 rfl (lv_at hl 0 rfl) ?_
  refine lv_iload_n hx hb dX7_shift_1 rfl (lv_at hl 1 rfl) ?_
  obtain ⟨r1, hc1, hf⟩ := pb_s hf
  refine g_doQ0 hG (g_runV C0 hG (k_X7_tapeAt l D base Z u p1 r1 hc1) m_X7_tapeAt v_X7_tapeAt w_750 (by decide) (g_recv C0 hG (L0 hG) rfl) rfl hl.1 rfl (Nat.le_of_ble_eq_true rfl) dX7_shift_2 ⟨Nat.zero_le _, Nat.zero_le _⟩) (fun H locs hG hk => ?_)
  cases r1 with
  | none =>
    have hf := omat_n hf
    change W p l e (gRm 3 0 0) s m _ below meth c _ _ _ _ _ (F0 m _ ls (.null :: _))
    refine lv_astoreN (lv' := [(6, .null), (0, .ref (base + 0)), (1, .int p1), (2, .int p2), (3, .int p3), (4, .int p4), (5, .int p5)]) hx hb dX7_shift_5 hl (by decide) rfl (fun ls hl => ?_)
    refine lv_aload_n hx hb dX7_shift_7 rfl (lv_at hl 1 rfl) ?_
    refine lv_iload_n hx hb dX7_shift_8 rfl (lv_at hl 4 rfl) ?_
    obtain ⟨r2, hc2, hf⟩ := pb_s hf
    refine g_doQ0 hG (g_runV C0 hG (k_X7_tapeAt l D base Z u p3 r2 hc2) m_X7_tapeAt v_X7_tapeAt w_750 (by decide) (g_recv C0 hG (L0 hG) rfl) rfl hl.1 rfl (Nat.le_of_ble_eq_true rfl) dX7_shift_9 ⟨Nat.zero_le _, Nat.zero_le _⟩) (fun H locs hG hk => ?_)
    cases r2 with
    | none =>
      have hf := omat_n hf
      change W p l e (gRm 3 0 0) s m _ below meth c _ _ _ _ _ (F0 m _ ls (.null :: _))
      refine lv_astoreN (lv' := [(7, .null), (6, .null), (0, .ref (base + 0)), (1, .int p1), (2, .int p2), (3, .int p3), (4, .int p4), (5, .int p5)]) hx hb dX7_shift_12 hl (by decide) rfl (fun ls hl => ?_)
      refine lv_aloadN hx hb dX7_shift_14 (lv_at hl 1 rfl) ?_
      refine lv_ifnullN (tgt := 24) hx hb dX7_shift_16 (by decide) ?_
      refine lv_iconst (v := (-1 : Int32)) hx hb dX7_shift_24 (by decide) ?_
      obtain ⟨hr1, hu⟩ := gret_s hf
      subst hr1
      subst hu
      subst hQ
      exact g_iret C0 hG hr dX7_shift_25
    | some b2 =>
      have hf := omat_v hf
      obtain ⟨ho2, hf⟩ := gob_s hf
      change W p l e (gRm 3 0 0) s m _ below meth c _ _ _ _ _ (F0 m _ ls (.ref (base + b2) :: _))
      refine lv_astore (lv' := [(7, .ref (base + b2)), (6, .null), (0, .ref (base + 0)), (1, .int p1), (2, .int p2), (3, .int p3), (4, .int p4), (5, .int p5)]) hx hb dX7_shift_12 hl (by decide) rfl (fun ls hl => ?_)
      refine lv_aloadN hx hb dX7_shift_14 (lv_at hl 1 rfl) ?_
      refine lv_ifnullN (tgt := 24) hx hb dX7_shift_16 (by decide) ?_
      refine lv_iconst (v := (-1 : Int32)) hx hb dX7_shift_24 (by decide) ?_
      obtain ⟨hr1, hu⟩ := gret_s hf
      subst hr1
      subst hu
      subst hQ
      exact g_iret C0 hG hr dX7_shift_25
  | some b1 =>
    have hf := omat_v hf
    obtain ⟨ho1, hf⟩ := gob_s hf
    change W p l e (gRm 3 0 0) s m _ below meth c _ _ _ _ _ (F0 m _ ls (.ref (base + b1) :: _))
    refine lv_astore (lv' := [(6, .ref (base + b1)), (0, .ref (base + 0)), (1, .int p1), (2, .int p2), (3, .int p3), (4, .int p4), (5, .int p5)]) hx hb dX7_shift_5 hl (by decide) rfl (fun ls hl => ?_)
    refine lv_aload_n hx hb dX7_shift_7 rfl (lv_at hl 1 rfl) ?_
    refine lv_iload_n hx hb dX7_shift_8 rfl (lv_at hl 4 rfl) ?_
    obtain ⟨r3, hc3, hf⟩ := pb_s hf
    refine g_doQ0 hG (g_runV C0 hG (k_X7_tapeAt l D base Z u p3 r3 hc3) m_X7_tapeAt v_X7_tapeAt w_750 (by decide) (g_recv C0 hG (L0 hG) rfl) rfl hl.1 rfl (Nat.le_of_ble_eq_true rfl) dX7_shift_9 ⟨Nat.zero_le _, Nat.zero_le _⟩) (fun H locs hG hk => ?_)
    cases r3 with
    | none =>
      have hf := omat_n hf
      change W p l e (gRm 3 0 0) s m _ below meth c _ _ _ _ _ (F0 m _ ls (.null :: _))
      refine lv_astoreN (lv' := [(7, .null), (6, .ref (base + b1)), (0, .ref (base + 0)), (1, .int p1), (2, .int p2), (3, .int p3), (4, .int p4), (5, .int p5)]) hx hb dX7_shift_12 hl (by decide) rfl (fun ls hl => ?_)
      refine lv_aload hx hb dX7_shift_14 (lv_at hl 1 rfl) ?_
      refine lv_ifnull hx hb dX7_shift_16 ?_
      refine lv_aloadN hx hb dX7_shift_19 (lv_at hl 0 rfl) ?_
      refine lv_ifnonnullN hx hb dX7_shift_21 ?_
      refine lv_iconst (v := (-1 : Int32)) hx hb dX7_shift_24 (by decide) ?_
      obtain ⟨hr1, hu⟩ := gret_s hf
      subst hr1
      subst hu
      subst hQ
      exact g_iret C0 hG hr dX7_shift_25
    | some b3 =>
      have hf := omat_v hf
      obtain ⟨ho3, hf⟩ := gob_s hf
      change W p l e (gRm 3 0 0) s m _ below meth c _ _ _ _ _ (F0 m _ ls (.ref (base + b3) :: _))
      refine lv_astore (lv' := [(7, .ref (base + b3)), (6, .ref (base + b1)), (0, .ref (base + 0)), (1, .int p1), (2, .int p2), (3, .int p3), (4, .int p4), (5, .int p5)]) hx hb dX7_shift_12 hl (by decide) rfl (fun ls hl => ?_)
      refine lv_aload hx hb dX7_shift_14 (lv_at hl 1 rfl) ?_
      refine lv_ifnull hx hb dX7_shift_16 ?_
      refine lv_aload hx hb dX7_shift_19 (lv_at hl 0 rfl) ?_
      refine lv_ifnonnull (tgt := 26) hx hb dX7_shift_21 (by decide) ?_
      refine lv_aload hx hb dX7_shift_26 (lv_at hl 1 rfl) ?_
      refine g_getIN C0 hG (T5_0 hG ho1) rfl 1 (by decide) rfl w_318 dX7_shift_28 ?_
      refine lv_iconst (v := (-1 : Int32)) hx hb dX7_shift_31 (by decide) ?_
      refine lv_icmp_eq (tgt := 44) hx hb dX7_shift_32 (by decide) (fun c4 => ?_) (fun c4 => ?_)
      · have hf := gif_t c4 hf
        refine lv_bipush (v := (-11 : Int32)) hx hb dX7_shift_44 (by decide) ?_
        obtain ⟨hr1, hu⟩ := gret_s hf
        subst hr1
        subst hu
        subst hQ
        exact g_iret C0 hG hr dX7_shift_46
      · have hf := gif_f c4 hf
        refine lv_aload hx hb dX7_shift_35 (lv_at hl 0 rfl) ?_
        refine g_getIN C0 hG (T5_0 hG ho3) rfl 1 (by decide) rfl w_318 dX7_shift_37 ?_
        refine lv_iconst (v := (-1 : Int32)) hx hb dX7_shift_40 (by decide) ?_
        refine lv_icmp_ne (tgt := 47) hx hb dX7_shift_41 (by decide) (fun c5 => ?_) (fun c5 => ?_)
        · have hf := gif_f c5 hf
          refine lv_aload hx hb dX7_shift_47 (lv_at hl 1 rfl) ?_
          refine g_getIN C0 hG (T5_0 hG ho1) rfl 1 (by decide) rfl w_318 dX7_shift_49 ?_
          refine lv_aload hx hb dX7_shift_52 (lv_at hl 0 rfl) ?_
          refine g_getIN C0 hG (T5_0 hG ho3) rfl 1 (by decide) rfl w_318 dX7_shift_54 ?_
          refine lv_icmp_eq (tgt := 63) hx hb dX7_shift_57 (by decide) (fun c6 => ?_) (fun c6 => ?_)
          · have hf := gif_t c6 hf
            refine lv_iload hx hb dX7_shift_63 (lv_at hl 7 rfl) ?_
            refine lv_if_lt (tgt := 91) hx hb dX7_shift_65 (by decide) (fun c7 => ?_) (fun c7 => ?_)
            · have hf := gif_t c7 hf
              refine lv_bipush (v := (-13 : Int32)) hx hb dX7_shift_91 (by decide) ?_
              obtain ⟨hr1, hu⟩ := gret_s hf
              subst hr1
              subst hu
              subst hQ
              exact g_iret C0 hG hr dX7_shift_93
            · have hf := gif_f c7 hf
              refine lv_aload hx hb dX7_shift_68 (lv_at hl 1 rfl) ?_
              refine lv_iload_n hx hb dX7_shift_70 rfl (lv_at hl 4 rfl) ?_
              obtain ⟨r8, hc8, hf⟩ := pb_s hf
              refine g_doI0 hG (g_runVN C0 hG (k_X5_countFrom l D base Z u b1 p2 r8 ho1 hc8) m_X5_countFrom v_X5_countFrom w_754 (by decide) (g_recv C0 hG (T5_0 hG ho1) rfl) rfl hl.1 rfl (Nat.le_of_ble_eq_true rfl) dX7_shift_71 ⟨Nat.zero_le _, Nat.zero_le _⟩) (fun H locs hG hk => ?_)
              refine lv_iload hx hb dX7_shift_74 (lv_at hl 7 rfl) ?_
              refine lv_icmp_lt (tgt := 91) hx hb dX7_shift_76 (by decide) (fun c9 => ?_) (fun c9 => ?_)
              · have hf := gif_t c9 hf
                refine lv_bipush (v := (-13 : Int32)) hx hb dX7_shift_91 (by decide) ?_
                obtain ⟨hr1, hu⟩ := gret_s hf
                subst hr1
                subst hu
                subst hQ
                exact g_iret C0 hG hr dX7_shift_93
              · have hf := gif_f c9 hf
                refine lv_aload hx hb dX7_shift_79 (lv_at hl 0 rfl) ?_
                refine lv_iload hx hb dX7_shift_81 (lv_at hl 6 rfl) ?_
                obtain ⟨r10, hc10, hf⟩ := pb_s hf
                refine g_doI0 hG (g_runVN C0 hG (k_X5_countFrom l D base Z u b3 p4 r10 ho3 hc10) m_X5_countFrom v_X5_countFrom w_754 (by decide) (g_recv C0 hG (T5_0 hG ho3) rfl) rfl hl.1 rfl (Nat.le_of_ble_eq_true rfl) dX7_shift_83 ⟨Nat.zero_le _, Nat.zero_le _⟩) (fun H locs hG hk => ?_)
                refine lv_iload hx hb dX7_shift_86 (lv_at hl 7 rfl) ?_
                refine lv_icmp_ge (tgt := 94) hx hb dX7_shift_88 (by decide) (fun c11 => ?_) (fun c11 => ?_)
                · have hf := gif_t c11 hf
                  refine lv_aload hx hb dX7_shift_94 (lv_at hl 1 rfl) ?_
                  refine g_getSaN (o := 1) (a := (b1 + 1)) C0 hG (T5_0 hG ho1) rfl 0 (by decide) rfl rfl w_316 dX7_shift_96 ?_
                  refine lv_iload_n hx hb dX7_shift_99 rfl (lv_at hl 4 rfl) ?_
                  refine lv_aload hx hb dX7_shift_100 (lv_at hl 0 rfl) ?_
                  refine g_getSaN (o := 1) (a := (b3 + 1)) C0 hG (T5_0 hG ho3) rfl 0 (by decide) rfl rfl w_316 dX7_shift_102 ?_
                  refine lv_iload hx hb dX7_shift_105 (lv_at hl 6 rfl) ?_
                  refine lv_iload hx hb dX7_shift_107 (lv_at hl 7 rfl) ?_
                  obtain ⟨h12, hf⟩ := gcp_s hf
                  refine g_copyL C0 hG w_839 ac_n ac_s ac_i hl.1 (T5_1 hG ho1) (T5_1 hG ho3) h12 ⟨Nat.le_of_ble_eq_true rfl, Nat.le_of_ble_eq_true rfl⟩ dX7_shift_109 (fun H locs hG => ?_)
                  refine lv_iload hx hb dX7_shift_112 (lv_at hl 7 rfl) ?_
                  obtain ⟨hr1, hu⟩ := gret_s hf
                  subst hr1
                  subst hu
                  subst hQ
                  exact g_iret C0 hG hr dX7_shift_114
                · have hf := gif_f c11 hf
                  refine lv_bipush (v := (-13 : Int32)) hx hb dX7_shift_91 (by decide) ?_
                  obtain ⟨hr1, hu⟩ := gret_s hf
                  subst hr1
                  subst hu
                  subst hQ
                  exact g_iret C0 hG hr dX7_shift_93
          · have hf := gif_f c6 hf
            refine lv_bipush (v := (-12 : Int32)) hx hb dX7_shift_60 (by decide) ?_
            obtain ⟨hr1, hu⟩ := gret_s hf
            subst hr1
            subst hu
            subst hQ
            exact g_iret C0 hG hr dX7_shift_62
        · have hf := gif_t c5 hf
          refine lv_bipush (v := (-11 : Int32)) hx hb dX7_shift_44 (by decide) ?_
          obtain ⟨hr1, hu⟩ := gret_s hf
          subst hr1
          subst hu
          subst hQ
          exact g_iret C0 hG hr dX7_shift_46
theorem dX8_in_0 : decode cX8_in 0 = .ok (.iload_n 1, 1) := by decide +kernel
theorem dX8_in_1 : decode cX8_in 1 = .ok (.iload_n 2, 1) := by decide +kernel
theorem dX8_in_2 : decode cX8_in 2 = .ok (.if_icmp .lt 12, 3) := by decide +kernel
theorem dX8_in_5 : decode cX8_in 5 = .ok (.iload_n 1, 1) := by decide +kernel
theorem dX8_in_6 : decode cX8_in 6 = .ok (.iload_n 3, 1) := by decide +kernel
theorem dX8_in_7 : decode cX8_in 7 = .ok (.if_icmp .gt 7, 3) := by decide +kernel
theorem dX8_in_10 : decode cX8_in 10 = .ok (.iconst 1, 1) := by decide +kernel
theorem dX8_in_11 : decode cX8_in 11 = .ok (.goto 4, 3) := by decide +kernel
theorem dX8_in_14 : decode cX8_in 14 = .ok (.iconst 0, 1) := by decide +kernel
theorem dX8_in_15 : decode cX8_in 15 = .ok (.ireturn, 1) := by decide +kernel
def f_X8_in (p1 : Int32) (p2 : Int32) (p3 : Int32) : Option (Int32) := (if p1 < p2 then some (0 : Int32) else (if p3 < p1 then some (0 : Int32) else some (1 : Int32)))
set_option maxHeartbeats 4000000 in
set_option maxRecDepth 100000 in
theorem k_X8_in (l : Launch) (D : gDt) (base : Nat) (Z : gZt) (u : Mem) (p1 : Int32) (p2 : Int32) (p3 : Int32) (r : Int32) (hf : f_X8_in p1 p2 p3 = some r) : Met l yX8_in (gws yX8_in cX8_in 4 (some .boolean)) (gRm 1 0 0) (gPc D base Z u [.ref (base + 82), .int p1, .int p2, .int p3]) (gQi D base r u) 0 0 (gF base) := by
  refine Met.ofW (cc := cX8_in) (maxL := 4) (ret := some .boolean) (by decide) rfl ?_
  intro p e s m args below meth c s₁ B hml hv
  obtain ⟨rfl, C0, hG⟩ := g_enter B hml hv
  have hr := B.returns
  have C0 : gC p s m meth c _ cX8_in 4 RX8 D base Z := C0
  have hx := C0.1
  have hb := C0.2.1
  have hl := lv_entry ([.ref (base + 82), .int p1, .int p2, .int p3]) (n := 4) (Nat.le_of_ble_eq_true rfl)
  rw [lg_entry_eq]
  generalize (lg_sl ([.ref (base + 82), .int p1, .int p2, .int p3]) ++ List.replicate (4 - (lg_sl ([.ref (base + 82), .int p1, .int p2, .int p3])).length) Slot.unset).toArray = ls at hl ⊢
  have hl : lv_has ls 4 [(0, .ref (base + 82)), (1, .int p1), (2, .int p2), (3, .int p3)] := hl
  obtain ⟨Q, hQ⟩ : ∃ Q, Q = MQ below (gQi D base r u) ([.ref (base + 82), .int p1, .int p2, .int p3] : List Value).toArray s 0 0 (gF base) := ⟨_, rfl⟩
  rw [← hQ]
  change W p l e (gRm 1 0 0) s m _ below meth c _ _ _ _ _ _
  unfold f_X8_in at hf
  refine lv_iload_n hx hb dX8_in_0 rfl (lv_at hl 1 rfl) ?_
  refine lv_iload_n hx hb dX8_in_1 rfl (lv_at hl 2 rfl) ?_
  refine lv_icmp_lt (tgt := 14) hx hb dX8_in_2 (by decide) (fun c1 => ?_) (fun c1 => ?_)
  · have hf := gif_t c1 hf
    refine lv_iconst (v := (0 : Int32)) hx hb dX8_in_14 (by decide) ?_
    have hf := Option.some.inj hf
    subst hf
    subst hQ
    exact g_zret C0 hG hr (by decide) dX8_in_15
  · have hf := gif_f c1 hf
    refine lv_iload_n hx hb dX8_in_5 rfl (lv_at hl 1 rfl) ?_
    refine lv_iload_n hx hb dX8_in_6 rfl (lv_at hl 3 rfl) ?_
    refine lv_icmp_gt (tgt := 14) hx hb dX8_in_7 (by decide) (fun c2 => ?_) (fun c2 => ?_)
    · have hf := gif_t c2 hf
      refine lv_iconst (v := (0 : Int32)) hx hb dX8_in_14 (by decide) ?_
      have hf := Option.some.inj hf
      subst hf
      subst hQ
      exact g_zret C0 hG hr (by decide) dX8_in_15
    · have hf := gif_f c2 hf
      refine lv_iconst (v := (1 : Int32)) hx hb dX8_in_10 (by decide) ?_
      refine lv_goto (tgt := 15) hx hb dX8_in_11 (by decide) ?_
      have hf := Option.some.inj hf
      subst hf
      subst hQ
      exact g_zret C0 hG hr (by decide) dX8_in_15
theorem dX8_has_0 : decode cX8_has 0 = .ok (.iload_n 1, 1) := by decide +kernel
theorem dX8_has_1 : decode cX8_has 1 = .ok (.iload_n 2, 1) := by decide +kernel
theorem dX8_has_2 : decode cX8_has 2 = .ok (.ishr, 1) := by decide +kernel
theorem dX8_has_3 : decode cX8_has 3 = .ok (.iconst 1, 1) := by decide +kernel
theorem dX8_has_4 : decode cX8_has 4 = .ok (.iand, 1) := by decide +kernel
theorem dX8_has_5 : decode cX8_has 5 = .ok (.iconst 1, 1) := by decide +kernel
theorem dX8_has_6 : decode cX8_has 6 = .ok (.if_icmp .ne 7, 3) := by decide +kernel
theorem dX8_has_9 : decode cX8_has 9 = .ok (.iconst 1, 1) := by decide +kernel
theorem dX8_has_10 : decode cX8_has 10 = .ok (.goto 4, 3) := by decide +kernel
theorem dX8_has_13 : decode cX8_has 13 = .ok (.iconst 0, 1) := by decide +kernel
theorem dX8_has_14 : decode cX8_has 14 = .ok (.ireturn, 1) := by decide +kernel
def f_X8_has (p1 : Int32) (p2 : Int32) : Option (Int32) := (if ((p1 >>> (p2 &&& 31)) &&& (1 : Int32)) = (1 : Int32) then some (1 : Int32) else some (0 : Int32))
set_option maxHeartbeats 4000000 in
set_option maxRecDepth 100000 in
theorem k_X8_has (l : Launch) (D : gDt) (base : Nat) (Z : gZt) (u : Mem) (p1 : Int32) (p2 : Int32) (r : Int32) (hf : f_X8_has p1 p2 = some r) : Met l yX8_has (gws yX8_has cX8_has 3 (some .boolean)) (gRm 1 0 0) (gPc D base Z u [.ref (base + 82), .int p1, .int p2]) (gQi D base r u) 0 0 (gF base) := by
  refine Met.ofW (cc := cX8_has) (maxL := 3) (ret := some .boolean) (by decide) rfl ?_
  intro p e s m args below meth c s₁ B hml hv
  obtain ⟨rfl, C0, hG⟩ := g_enter B hml hv
  have hr := B.returns
  have C0 : gC p s m meth c _ cX8_has 3 RX8 D base Z := C0
  have hx := C0.1
  have hb := C0.2.1
  have hl := lv_entry ([.ref (base + 82), .int p1, .int p2]) (n := 3) (Nat.le_of_ble_eq_true rfl)
  rw [lg_entry_eq]
  generalize (lg_sl ([.ref (base + 82), .int p1, .int p2]) ++ List.replicate (3 - (lg_sl ([.ref (base + 82), .int p1, .int p2])).length) Slot.unset).toArray = ls at hl ⊢
  have hl : lv_has ls 3 [(0, .ref (base + 82)), (1, .int p1), (2, .int p2)] := hl
  obtain ⟨Q, hQ⟩ : ∃ Q, Q = MQ below (gQi D base r u) ([.ref (base + 82), .int p1, .int p2] : List Value).toArray s 0 0 (gF base) := ⟨_, rfl⟩
  rw [← hQ]
  change W p l e (gRm 1 0 0) s m _ below meth c _ _ _ _ _ _
  unfold f_X8_has at hf
  refine lv_iload_n hx hb dX8_has_0 rfl (lv_at hl 1 rfl) ?_
  refine lv_iload_n hx hb dX8_has_1 rfl (lv_at hl 2 rfl) ?_
  refine lv_ishr hx hb dX8_has_2 ?_
  refine lv_iconst (v := (1 : Int32)) hx hb dX8_has_3 (by decide) ?_
  refine lv_iand hx hb dX8_has_4 ?_
  refine lv_iconst (v := (1 : Int32)) hx hb dX8_has_5 (by decide) ?_
  refine lv_icmp_ne (tgt := 13) hx hb dX8_has_6 (by decide) (fun c1 => ?_) (fun c1 => ?_)
  · have hf := gif_f c1 hf
    refine lv_iconst (v := (0 : Int32)) hx hb dX8_has_13 (by decide) ?_
    have hf := Option.some.inj hf
    subst hf
    subst hQ
    exact g_zret C0 hG hr (by decide) dX8_has_14
  · have hf := gif_t c1 hf
    refine lv_iconst (v := (1 : Int32)) hx hb dX8_has_9 (by decide) ?_
    refine lv_goto (tgt := 14) hx hb dX8_has_10 (by decide) ?_
    have hf := Option.some.inj hf
    subst hf
    subst hQ
    exact g_zret C0 hG hr (by decide) dX8_has_14
theorem dX8_least_0 : decode cX8_least 0 = .ok (.iload_n 1, 1) := by decide +kernel
theorem dX8_least_1 : decode cX8_least 1 = .ok (.iload_n 2, 1) := by decide +kernel
theorem dX8_least_2 : decode cX8_least 2 = .ok (.if_icmp .ge 7, 3) := by decide +kernel
theorem dX8_least_5 : decode cX8_least 5 = .ok (.iload_n 1, 1) := by decide +kernel
theorem dX8_least_6 : decode cX8_least 6 = .ok (.goto 4, 3) := by decide +kernel
theorem dX8_least_9 : decode cX8_least 9 = .ok (.iload_n 2, 1) := by decide +kernel
theorem dX8_least_10 : decode cX8_least 10 = .ok (.ireturn, 1) := by decide +kernel
def f_X8_least (p1 : Int32) (p2 : Int32) : Option (Int32) := (if p2 ≤ p1 then some p2 else some p1)
set_option maxHeartbeats 4000000 in
set_option maxRecDepth 100000 in
theorem k_X8_least (l : Launch) (D : gDt) (base : Nat) (Z : gZt) (u : Mem) (p1 : Int32) (p2 : Int32) (r : Int32) (hf : f_X8_least p1 p2 = some r) : Met l yX8_least (gws yX8_least cX8_least 3 (some .int)) (gRm 1 0 0) (gPc D base Z u [.ref (base + 82), .int p1, .int p2]) (gQi D base r u) 0 0 (gF base) := by
  refine Met.ofW (cc := cX8_least) (maxL := 3) (ret := some .int) (by decide) rfl ?_
  intro p e s m args below meth c s₁ B hml hv
  obtain ⟨rfl, C0, hG⟩ := g_enter B hml hv
  have hr := B.returns
  have C0 : gC p s m meth c _ cX8_least 3 RX8 D base Z := C0
  have hx := C0.1
  have hb := C0.2.1
  have hl := lv_entry ([.ref (base + 82), .int p1, .int p2]) (n := 3) (Nat.le_of_ble_eq_true rfl)
  rw [lg_entry_eq]
  generalize (lg_sl ([.ref (base + 82), .int p1, .int p2]) ++ List.replicate (3 - (lg_sl ([.ref (base + 82), .int p1, .int p2])).length) Slot.unset).toArray = ls at hl ⊢
  have hl : lv_has ls 3 [(0, .ref (base + 82)), (1, .int p1), (2, .int p2)] := hl
  obtain ⟨Q, hQ⟩ : ∃ Q, Q = MQ below (gQi D base r u) ([.ref (base + 82), .int p1, .int p2] : List Value).toArray s 0 0 (gF base) := ⟨_, rfl⟩
  rw [← hQ]
  change W p l e (gRm 1 0 0) s m _ below meth c _ _ _ _ _ _
  unfold f_X8_least at hf
  refine lv_iload_n hx hb dX8_least_0 rfl (lv_at hl 1 rfl) ?_
  refine lv_iload_n hx hb dX8_least_1 rfl (lv_at hl 2 rfl) ?_
  refine lv_icmp_ge (tgt := 9) hx hb dX8_least_2 (by decide) (fun c1 => ?_) (fun c1 => ?_)
  · have hf := gif_t c1 hf
    refine lv_iload_n hx hb dX8_least_9 rfl (lv_at hl 2 rfl) ?_
    have hf := Option.some.inj hf
    subst hf
    subst hQ
    exact g_iret C0 hG hr dX8_least_10
  · have hf := gif_f c1 hf
    refine lv_iload_n hx hb dX8_least_5 rfl (lv_at hl 1 rfl) ?_
    refine lv_goto (tgt := 10) hx hb dX8_least_6 (by decide) ?_
    have hf := Option.some.inj hf
    subst hf
    subst hQ
    exact g_iret C0 hG hr dX8_least_10
theorem dX8_bits_0 : decode cX8_bits 0 = .ok (.iconst 0, 1) := by decide +kernel
theorem dX8_bits_1 : decode cX8_bits 1 = .ok (.istore_n 2, 1) := by decide +kernel
theorem dX8_bits_2 : decode cX8_bits 2 = .ok (.iconst 0, 1) := by decide +kernel
theorem dX8_bits_3 : decode cX8_bits 3 = .ok (.istore_n 3, 1) := by decide +kernel
theorem dX8_bits_4 : decode cX8_bits 4 = .ok (.iload_n 3, 1) := by decide +kernel
theorem dX8_bits_5 : decode cX8_bits 5 = .ok (.bipush 8, 2) := by decide +kernel
theorem dX8_bits_7 : decode cX8_bits 7 = .ok (.if_icmp .ge 26, 3) := by decide +kernel
theorem dX8_bits_10 : decode cX8_bits 10 = .ok (.iload_n 2, 1) := by decide +kernel
theorem dX8_bits_11 : decode cX8_bits 11 = .ok (.aload_n 0, 1) := by decide +kernel
theorem dX8_bits_12 : decode cX8_bits 12 = .ok (.iload_n 1, 1) := by decide +kernel
theorem dX8_bits_13 : decode cX8_bits 13 = .ok (.iload_n 3, 1) := by decide +kernel
theorem dX8_bits_14 : decode cX8_bits 14 = .ok (.invokevirtual 245, 3) := by decide +kernel
theorem dX8_bits_17 : decode cX8_bits 17 = .ok (.ifCond .eq 7, 3) := by decide +kernel
theorem dX8_bits_20 : decode cX8_bits 20 = .ok (.iconst 1, 1) := by decide +kernel
theorem dX8_bits_21 : decode cX8_bits 21 = .ok (.goto 4, 3) := by decide +kernel
theorem dX8_bits_24 : decode cX8_bits 24 = .ok (.iconst 0, 1) := by decide +kernel
theorem dX8_bits_25 : decode cX8_bits 25 = .ok (.iadd, 1) := by decide +kernel
theorem dX8_bits_26 : decode cX8_bits 26 = .ok (.istore_n 2, 1) := by decide +kernel
theorem dX8_bits_27 : decode cX8_bits 27 = .ok (.iinc 3 1, 3) := by decide +kernel
theorem dX8_bits_30 : decode cX8_bits 30 = .ok (.goto (-26), 3) := by decide +kernel
theorem dX8_bits_33 : decode cX8_bits 33 = .ok (.iload_n 2, 1) := by decide +kernel
theorem dX8_bits_34 : decode cX8_bits 34 = .ok (.ireturn, 1) := by decide +kernel
def f_X8_bits_L4 (p1 : Int32) (x2_1 : Int32) (x3_1 : Int32) : Option ((Int32 × Int32) ⊕ Int32) := (if (8 : Int32) ≤ x3_1 then some (Sum.inr (x2_1)) else Option.bind (f_X8_has p1 x3_1) (fun r3 => (if r3 = 0 then some (Sum.inl (x2_1 + (0 : Int32), x3_1 + (1 : Int32))) else some (Sum.inl (x2_1 + (1 : Int32), x3_1 + (1 : Int32))))))
def f_X8_bits (p1 : Int32) : Option (Int32) := whileO (fun s => f_X8_bits_L4 p1 s.1 s.2) FUEL ((0 : Int32), (0 : Int32))
set_option maxHeartbeats 4000000 in
set_option maxRecDepth 100000 in
theorem k_X8_bits (l : Launch) (D : gDt) (base : Nat) (Z : gZt) (u : Mem) (p1 : Int32) (r : Int32) (hf : f_X8_bits p1 = some r) : Met l yX8_bits (gws yX8_bits cX8_bits 4 (some .int)) (gRm 2 0 0) (gPc D base Z u [.ref (base + 82), .int p1]) (gQi D base r u) 0 0 (gF base) := by
  refine Met.ofW (cc := cX8_bits) (maxL := 4) (ret := some .int) (by decide) rfl ?_
  intro p e s m args below meth c s₁ B hml hv
  obtain ⟨rfl, C0, hG⟩ := g_enter B hml hv
  have hr := B.returns
  have C0 : gC p s m meth c _ cX8_bits 4 RX8 D base Z := C0
  have hx := C0.1
  have hb := C0.2.1
  have hl := lv_entry ([.ref (base + 82), .int p1]) (n := 4) (Nat.le_of_ble_eq_true rfl)
  rw [lg_entry_eq]
  generalize (lg_sl ([.ref (base + 82), .int p1]) ++ List.replicate (4 - (lg_sl ([.ref (base + 82), .int p1])).length) Slot.unset).toArray = ls at hl ⊢
  have hl : lv_has ls 4 [(0, .ref (base + 82)), (1, .int p1)] := hl
  obtain ⟨Q, hQ⟩ : ∃ Q, Q = MQ below (gQi D base r u) ([.ref (base + 82), .int p1] : List Value).toArray s 0 0 (gF base) := ⟨_, rfl⟩
  rw [← hQ]
  change W p l e (gRm 2 0 0) s m _ below meth c _ _ _ _ _ _
  unfold f_X8_bits at hf
  refine lv_iconst (v := (0 : Int32)) hx hb dX8_bits_0 (by decide) ?_
  refine lv_istore_n (lv' := [(2, .int (0 : Int32)), (0, .ref (base + 82)), (1, .int p1)]) hx hb dX8_bits_1 rfl hl (by decide) rfl (fun ls hl => ?_)
  refine lv_iconst (v := (0 : Int32)) hx hb dX8_bits_2 (by decide) ?_
  refine lv_istore_n (lv' := [(3, .int (0 : Int32)), (2, .int (0 : Int32)), (0, .ref (base + 82)), (1, .int p1)]) hx hb dX8_bits_3 rfl hl (by decide) rfl (fun ls hl => ?_)
  have loop1 : ∀ (n1 : Nat) (x2_1 : Int32) (x3_1 : Int32) (H : Heap) (locs : List Loc) (ls : Array Slot), gH D base s u H locs → lv_has ls 4 [(0, .ref (base + 82)), (1, .int p1), (2, .int x2_1), (3, .int x3_1)] → whileO (fun s => f_X8_bits_L4 p1 s.1 s.2) n1 (x2_1, x3_1) = some r → W p l e (gRm 2 0 0) s m ([.ref (base + 82), .int p1] : List Value).toArray below meth c H locs 0 0 Q (F0 m 4 ls []) := by
    intro n1
    induction n1 with
    | zero => intro x2_1 x3_1 H locs ls hG hl hf; cases hf
    | succ n1 ih1 =>
      intro x2_1 x3_1 H locs ls hG hl hf
      obtain ⟨X1, hf, hX1⟩ := while_s hf
      have hf : f_X8_bits_L4 p1 x2_1 x3_1 = some X1 := hf
      unfold f_X8_bits_L4 at hf
      refine lv_iload_n hx hb dX8_bits_4 rfl (lv_at hl 3 rfl) ?_
      refine lv_bipush (v := (8 : Int32)) hx hb dX8_bits_5 (by decide) ?_
      refine lv_icmp_ge (tgt := 33) hx hb dX8_bits_7 (by decide) (fun c2 => ?_) (fun c2 => ?_)
      · have hf := gif_t c2 hf
        refine lv_iload_n hx hb dX8_bits_33 rfl (lv_at hl 2 rfl) ?_
        have hf := while_r hX1 hf
        have hf := Option.some.inj hf
        subst hf
        subst hQ
        exact g_iret C0 hG hr dX8_bits_34
      · have hf := gif_f c2 hf
        refine lv_iload_n hx hb dX8_bits_10 rfl (lv_at hl 2 rfl) ?_
        refine lv_aload_n hx hb dX8_bits_11 rfl (lv_at hl 0 rfl) ?_
        refine lv_iload_n hx hb dX8_bits_12 rfl (lv_at hl 1 rfl) ?_
        refine lv_iload_n hx hb dX8_bits_13 rfl (lv_at hl 3 rfl) ?_
        obtain ⟨r3, hc3, hf⟩ := pb_s hf
        refine g_doI0 hG (g_runV C0 hG (k_X8_has l D base Z u p1 x3_1 r3 hc3) m_X8_has v_X8_has w_1110 (by decide) (g_recv C0 hG (L82 hG) rfl) rfl hl.1 rfl (Nat.le_of_ble_eq_true rfl) dX8_bits_14 ⟨Nat.zero_le _, Nat.zero_le _⟩) (fun H locs hG hk => ?_)
        refine lv_if_eq (tgt := 24) hx hb dX8_bits_17 (by decide) (fun c4 => ?_) (fun c4 => ?_)
        · have hf := gif_t c4 hf
          refine lv_iconst (v := (0 : Int32)) hx hb dX8_bits_24 (by decide) ?_
          refine lv_iadd hx hb dX8_bits_25 ?_
          refine lv_istore_n (lv' := [(2, .int (x2_1 + (0 : Int32))), (0, .ref (base + 82)), (1, .int p1), (3, .int x3_1)]) hx hb dX8_bits_26 rfl hl (by decide) rfl (fun ls hl => ?_)
          refine lv_iinc (v := x3_1 + (1 : Int32)) (lv' := [(3, .int (x3_1 + (1 : Int32))), (2, .int (x2_1 + (0 : Int32))), (0, .ref (base + 82)), (1, .int p1)]) hx hb dX8_bits_27 hl (k := 3) rfl rfl (by decide) rfl (fun ls hl => ?_)
          refine lv_goto (tgt := 4) hx hb dX8_bits_30 (by decide) ?_
          have hf := while_l hX1 hf
          exact ih1 (x2_1 + (0 : Int32)) (x3_1 + (1 : Int32)) _ _ ls hG (lv_sub hl [2, 3, 1, 0] rfl) hf
        · have hf := gif_f c4 hf
          refine lv_iconst (v := (1 : Int32)) hx hb dX8_bits_20 (by decide) ?_
          refine lv_goto (tgt := 25) hx hb dX8_bits_21 (by decide) ?_
          refine lv_iadd hx hb dX8_bits_25 ?_
          refine lv_istore_n (lv' := [(2, .int (x2_1 + (1 : Int32))), (0, .ref (base + 82)), (1, .int p1), (3, .int x3_1)]) hx hb dX8_bits_26 rfl hl (by decide) rfl (fun ls hl => ?_)
          refine lv_iinc (v := x3_1 + (1 : Int32)) (lv' := [(3, .int (x3_1 + (1 : Int32))), (2, .int (x2_1 + (1 : Int32))), (0, .ref (base + 82)), (1, .int p1)]) hx hb dX8_bits_27 hl (k := 3) rfl rfl (by decide) rfl (fun ls hl => ?_)
          refine lv_goto (tgt := 4) hx hb dX8_bits_30 (by decide) ?_
          have hf := while_l hX1 hf
          exact ih1 (x2_1 + (1 : Int32)) (x3_1 + (1 : Int32)) _ _ ls hG (lv_sub hl [2, 3, 1, 0] rfl) hf
  exact loop1 FUEL (0 : Int32) (0 : Int32) _ _ ls hG (lv_sub hl [2, 3, 1, 0] rfl) hf
theorem dX8_isOne_0 : decode cX8_isOne 0 = .ok (.aload_n 0, 1) := by decide +kernel
theorem dX8_isOne_1 : decode cX8_isOne 1 = .ok (.iload_n 1, 1) := by decide +kernel
theorem dX8_isOne_2 : decode cX8_isOne 2 = .ok (.iconst 0, 1) := by decide +kernel
theorem dX8_isOne_3 : decode cX8_isOne 3 = .ok (.aload_n 0, 1) := by decide +kernel
theorem dX8_isOne_4 : decode cX8_isOne 4 = .ok (.getfield 7, 3) := by decide +kernel
theorem dX8_isOne_7 : decode cX8_isOne 7 = .ok (.iconst 1, 1) := by decide +kernel
theorem dX8_isOne_8 : decode cX8_isOne 8 = .ok (.isub, 1) := by decide +kernel
theorem dX8_isOne_9 : decode cX8_isOne 9 = .ok (.invokevirtual 249, 3) := by decide +kernel
theorem dX8_isOne_12 : decode cX8_isOne 12 = .ok (.ireturn, 1) := by decide +kernel
def f_X8_isOne (p1 : Int32) (u : Mem) : Option (Int32) := Option.bind (f_X8_in p1 (0 : Int32) ((gI u 82 0) - (1 : Int32))) (fun r1 => gbo r1 (some r1))
set_option maxHeartbeats 4000000 in
set_option maxRecDepth 100000 in
theorem k_X8_isOne (l : Launch) (D : gDt) (base : Nat) (Z : gZt) (u : Mem) (p1 : Int32) (r : Int32) (hf : f_X8_isOne p1 u = some r) : Met l yX8_isOne (gws yX8_isOne cX8_isOne 2 (some .boolean)) (gRm 2 0 0) (gPc D base Z u [.ref (base + 82), .int p1]) (gQi D base r u) 0 0 (gF base) := by
  refine Met.ofW (cc := cX8_isOne) (maxL := 2) (ret := some .boolean) (by decide) rfl ?_
  intro p e s m args below meth c s₁ B hml hv
  obtain ⟨rfl, C0, hG⟩ := g_enter B hml hv
  have hr := B.returns
  have C0 : gC p s m meth c _ cX8_isOne 2 RX8 D base Z := C0
  have hx := C0.1
  have hb := C0.2.1
  have hl := lv_entry ([.ref (base + 82), .int p1]) (n := 2) (Nat.le_of_ble_eq_true rfl)
  rw [lg_entry_eq]
  generalize (lg_sl ([.ref (base + 82), .int p1]) ++ List.replicate (2 - (lg_sl ([.ref (base + 82), .int p1])).length) Slot.unset).toArray = ls at hl ⊢
  have hl : lv_has ls 2 [(0, .ref (base + 82)), (1, .int p1)] := hl
  obtain ⟨Q, hQ⟩ : ∃ Q, Q = MQ below (gQi D base r u) ([.ref (base + 82), .int p1] : List Value).toArray s 0 0 (gF base) := ⟨_, rfl⟩
  rw [← hQ]
  change W p l e (gRm 2 0 0) s m _ below meth c _ _ _ _ _ _
  unfold f_X8_isOne at hf
  refine lv_aload_n hx hb dX8_isOne_0 rfl (lv_at hl 0 rfl) ?_
  refine lv_iload_n hx hb dX8_isOne_1 rfl (lv_at hl 1 rfl) ?_
  refine lv_iconst (v := (0 : Int32)) hx hb dX8_isOne_2 (by decide) ?_
  refine lv_aload_n hx hb dX8_isOne_3 rfl (lv_at hl 0 rfl) ?_
  refine g_getI C0 hG (L82 hG) rfl 0 (by decide) rfl w_846 dX8_isOne_4 ?_
  refine lv_iconst (v := (1 : Int32)) hx hb dX8_isOne_7 (by decide) ?_
  refine lv_isub hx hb dX8_isOne_8 ?_
  obtain ⟨r1, hc1, hf⟩ := pb_s hf
  refine g_doI0 hG (g_runV C0 hG (k_X8_in l D base Z u p1 (0 : Int32) ((gI u 82 0) - (1 : Int32)) r1 hc1) m_X8_in v_X8_in w_1082 (by decide) (g_recv C0 hG (L82 hG) rfl) rfl hl.1 rfl (Nat.le_of_ble_eq_true rfl) dX8_isOne_9 ⟨Nat.zero_le _, Nat.zero_le _⟩) (fun H locs hG hk => ?_)
  obtain ⟨h2, hf⟩ := gbo_s hf
  have hf := Option.some.inj hf
  subst hf
  subst hQ
  exact g_zret C0 hG hr h2 dX8_isOne_12
theorem dX8_isTale_0 : decode cX8_isTale 0 = .ok (.aload_n 0, 1) := by decide +kernel
theorem dX8_isTale_1 : decode cX8_isTale 1 = .ok (.iload_n 1, 1) := by decide +kernel
theorem dX8_isTale_2 : decode cX8_isTale 2 = .ok (.iconst 0, 1) := by decide +kernel
theorem dX8_isTale_3 : decode cX8_isTale 3 = .ok (.bipush 7, 2) := by decide +kernel
theorem dX8_isTale_5 : decode cX8_isTale 5 = .ok (.invokevirtual 249, 3) := by decide +kernel
theorem dX8_isTale_8 : decode cX8_isTale 8 = .ok (.ireturn, 1) := by decide +kernel
def f_X8_isTale (p1 : Int32) : Option (Int32) := Option.bind (f_X8_in p1 (0 : Int32) (7 : Int32)) (fun r1 => gbo r1 (some r1))
set_option maxHeartbeats 4000000 in
set_option maxRecDepth 100000 in
theorem k_X8_isTale (l : Launch) (D : gDt) (base : Nat) (Z : gZt) (u : Mem) (p1 : Int32) (r : Int32) (hf : f_X8_isTale p1 = some r) : Met l yX8_isTale (gws yX8_isTale cX8_isTale 2 (some .boolean)) (gRm 2 0 0) (gPc D base Z u [.ref (base + 82), .int p1]) (gQi D base r u) 0 0 (gF base) := by
  refine Met.ofW (cc := cX8_isTale) (maxL := 2) (ret := some .boolean) (by decide) rfl ?_
  intro p e s m args below meth c s₁ B hml hv
  obtain ⟨rfl, C0, hG⟩ := g_enter B hml hv
  have hr := B.returns
  have C0 : gC p s m meth c _ cX8_isTale 2 RX8 D base Z := C0
  have hx := C0.1
  have hb := C0.2.1
  have hl := lv_entry ([.ref (base + 82), .int p1]) (n := 2) (Nat.le_of_ble_eq_true rfl)
  rw [lg_entry_eq]
  generalize (lg_sl ([.ref (base + 82), .int p1]) ++ List.replicate (2 - (lg_sl ([.ref (base + 82), .int p1])).length) Slot.unset).toArray = ls at hl ⊢
  have hl : lv_has ls 2 [(0, .ref (base + 82)), (1, .int p1)] := hl
  obtain ⟨Q, hQ⟩ : ∃ Q, Q = MQ below (gQi D base r u) ([.ref (base + 82), .int p1] : List Value).toArray s 0 0 (gF base) := ⟨_, rfl⟩
  rw [← hQ]
  change W p l e (gRm 2 0 0) s m _ below meth c _ _ _ _ _ _
  unfold f_X8_isTale at hf
  refine lv_aload_n hx hb dX8_isTale_0 rfl (lv_at hl 0 rfl) ?_
  refine lv_iload_n hx hb dX8_isTale_1 rfl (lv_at hl 1 rfl) ?_
  refine lv_iconst (v := (0 : Int32)) hx hb dX8_isTale_2 (by decide) ?_
  refine lv_bipush (v := (7 : Int32)) hx hb dX8_isTale_3 (by decide) ?_
  obtain ⟨r1, hc1, hf⟩ := pb_s hf
  refine g_doI0 hG (g_runV C0 hG (k_X8_in l D base Z u p1 (0 : Int32) (7 : Int32) r1 hc1) m_X8_in v_X8_in w_1082 (by decide) (g_recv C0 hG (L82 hG) rfl) rfl hl.1 rfl (Nat.le_of_ble_eq_true rfl) dX8_isTale_5 ⟨Nat.zero_le _, Nat.zero_le _⟩) (fun H locs hG hk => ?_)
  obtain ⟨h2, hf⟩ := gbo_s hf
  have hf := Option.some.inj hf
  subst hf
  subst hQ
  exact g_zret C0 hG hr h2 dX8_isTale_8
