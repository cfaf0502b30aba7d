theorem dX3_readChoice_0 : decode cX3_readChoice 0 = .ok (.aload_n 0, 1) := by decide +kernel
theorem dX3_readChoice_1 : decode cX3_readChoice 1 = .ok (.iload_n 1, 1) := by decide +kernel
theorem dX3_readChoice_2 : decode cX3_readChoice 2 = .ok (.invokevirtual 74, 3) := by decide +kernel
theorem dX3_readChoice_5 : decode cX3_readChoice 5 = .ok (.ifCond .ne 5, 3) := by decide +kernel
theorem dX3_readChoice_8 : decode cX3_readChoice 8 = .ok (.iconst 0, 1) := by decide +kernel
theorem dX3_readChoice_9 : decode cX3_readChoice 9 = .ok (.ireturn, 1) := by decide +kernel
theorem dX3_readChoice_10 : decode cX3_readChoice 10 = .ok (.iconst 0, 1) := by decide +kernel
theorem dX3_readChoice_11 : decode cX3_readChoice 11 = .ok (.istore_n 2, 1) := by decide +kernel
theorem dX3_readChoice_12 : decode cX3_readChoice 12 = .ok (.iload_n 2, 1) := by decide +kernel
theorem dX3_readChoice_13 : decode cX3_readChoice 13 = .ok (.bipush 100, 2) := by decide +kernel
theorem dX3_readChoice_15 : decode cX3_readChoice 15 = .ok (.if_icmp .ge 39, 3) := by decide +kernel
theorem dX3_readChoice_18 : decode cX3_readChoice 18 = .ok (.aload_n 0, 1) := by decide +kernel
theorem dX3_readChoice_19 : decode cX3_readChoice 19 = .ok (.bipush 124, 2) := by decide +kernel
theorem dX3_readChoice_21 : decode cX3_readChoice 21 = .ok (.invokevirtual 36, 3) := by decide +kernel
theorem dX3_readChoice_24 : decode cX3_readChoice 24 = .ok (.ifCond .eq 30, 3) := by decide +kernel
theorem dX3_readChoice_27 : decode cX3_readChoice 27 = .ok (.aload_n 0, 1) := by decide +kernel
theorem dX3_readChoice_28 : decode cX3_readChoice 28 = .ok (.iload_n 1, 1) := by decide +kernel
theorem dX3_readChoice_29 : decode cX3_readChoice 29 = .ok (.invokevirtual 74, 3) := by decide +kernel
theorem dX3_readChoice_32 : decode cX3_readChoice 32 = .ok (.ifCond .ne 5, 3) := by decide +kernel
theorem dX3_readChoice_35 : decode cX3_readChoice 35 = .ok (.iconst 0, 1) := by decide +kernel
theorem dX3_readChoice_36 : decode cX3_readChoice 36 = .ok (.ireturn, 1) := by decide +kernel
theorem dX3_readChoice_37 : decode cX3_readChoice 37 = .ok (.aload_n 0, 1) := by decide +kernel
theorem dX3_readChoice_38 : decode cX3_readChoice 38 = .ok (.getfield 25, 3) := by decide +kernel
theorem dX3_readChoice_41 : decode cX3_readChoice 41 = .ok (.bipush 7, 2) := by decide +kernel
theorem dX3_readChoice_43 : decode cX3_readChoice 43 = .ok (.iconst 0, 1) := by decide +kernel
theorem dX3_readChoice_44 : decode cX3_readChoice 44 = .ok (.iconst 0, 1) := by decide +kernel
theorem dX3_readChoice_45 : decode cX3_readChoice 45 = .ok (.invokevirtual 70, 3) := by decide +kernel
theorem dX3_readChoice_48 : decode cX3_readChoice 48 = .ok (.iinc 2 1, 3) := by decide +kernel
theorem dX3_readChoice_51 : decode cX3_readChoice 51 = .ok (.goto (-39), 3) := by decide +kernel
theorem dX3_readChoice_54 : decode cX3_readChoice 54 = .ok (.iconst 1, 1) := by decide +kernel
theorem dX3_readChoice_55 : decode cX3_readChoice 55 = .ok (.ireturn, 1) := by decide +kernel
theorem dX3_readChain_0 : decode cX3_readChain 0 = .ok (.aload_n 0, 1) := by decide +kernel
theorem dX3_readChain_1 : decode cX3_readChain 1 = .ok (.iload_n 1, 1) := by decide +kernel
theorem dX3_readChain_2 : decode cX3_readChain 2 = .ok (.invokevirtual 77, 3) := by decide +kernel
theorem dX3_readChain_5 : decode cX3_readChain 5 = .ok (.ifCond .ne 5, 3) := by decide +kernel
theorem dX3_readChain_8 : decode cX3_readChain 8 = .ok (.iconst 0, 1) := by decide +kernel
theorem dX3_readChain_9 : decode cX3_readChain 9 = .ok (.ireturn, 1) := by decide +kernel
theorem dX3_readChain_10 : decode cX3_readChain 10 = .ok (.iconst 0, 1) := by decide +kernel
theorem dX3_readChain_11 : decode cX3_readChain 11 = .ok (.istore_n 2, 1) := by decide +kernel
theorem dX3_readChain_12 : decode cX3_readChain 12 = .ok (.iload_n 2, 1) := by decide +kernel
theorem dX3_readChain_13 : decode cX3_readChain 13 = .ok (.bipush 100, 2) := by decide +kernel
theorem dX3_readChain_15 : decode cX3_readChain 15 = .ok (.if_icmp .ge 39, 3) := by decide +kernel
theorem dX3_readChain_18 : decode cX3_readChain 18 = .ok (.aload_n 0, 1) := by decide +kernel
theorem dX3_readChain_19 : decode cX3_readChain 19 = .ok (.bipush 38, 2) := by decide +kernel
theorem dX3_readChain_21 : decode cX3_readChain 21 = .ok (.invokevirtual 36, 3) := by decide +kernel
theorem dX3_readChain_24 : decode cX3_readChain 24 = .ok (.ifCond .eq 30, 3) := by decide +kernel
theorem dX3_readChain_27 : decode cX3_readChain 27 = .ok (.aload_n 0, 1) := by decide +kernel
theorem dX3_readChain_28 : decode cX3_readChain 28 = .ok (.iload_n 1, 1) := by decide +kernel
theorem dX3_readChain_29 : decode cX3_readChain 29 = .ok (.invokevirtual 77, 3) := by decide +kernel
theorem dX3_readChain_32 : decode cX3_readChain 32 = .ok (.ifCond .ne 5, 3) := by decide +kernel
theorem dX3_readChain_35 : decode cX3_readChain 35 = .ok (.iconst 0, 1) := by decide +kernel
theorem dX3_readChain_36 : decode cX3_readChain 36 = .ok (.ireturn, 1) := by decide +kernel
theorem dX3_readChain_37 : decode cX3_readChain 37 = .ok (.aload_n 0, 1) := by decide +kernel
theorem dX3_readChain_38 : decode cX3_readChain 38 = .ok (.getfield 25, 3) := by decide +kernel
theorem dX3_readChain_41 : decode cX3_readChain 41 = .ok (.bipush 6, 2) := by decide +kernel
theorem dX3_readChain_43 : decode cX3_readChain 43 = .ok (.iconst 0, 1) := by decide +kernel
theorem dX3_readChain_44 : decode cX3_readChain 44 = .ok (.iconst 0, 1) := by decide +kernel
theorem dX3_readChain_45 : decode cX3_readChain 45 = .ok (.invokevirtual 70, 3) := by decide +kernel
theorem dX3_readChain_48 : decode cX3_readChain 48 = .ok (.iinc 2 1, 3) := by decide +kernel
theorem dX3_readChain_51 : decode cX3_readChain 51 = .ok (.goto (-39), 3) := by decide +kernel
theorem dX3_readChain_54 : decode cX3_readChain 54 = .ok (.iconst 1, 1) := by decide +kernel
theorem dX3_readChain_55 : decode cX3_readChain 55 = .ok (.ireturn, 1) := by decide +kernel
theorem dX3_readFactor_0 : decode cX3_readFactor 0 = .ok (.iload_n 1, 1) := by decide +kernel
theorem dX3_readFactor_1 : decode cX3_readFactor 1 = .ok (.iconst 4, 1) := by decide +kernel
theorem dX3_readFactor_2 : decode cX3_readFactor 2 = .ok (.if_icmp .ge 37, 3) := by decide +kernel
theorem dX3_readFactor_5 : decode cX3_readFactor 5 = .ok (.aload_n 0, 1) := by decide +kernel
theorem dX3_readFactor_6 : decode cX3_readFactor 6 = .ok (.bipush 40, 2) := by decide +kernel
theorem dX3_readFactor_8 : decode cX3_readFactor 8 = .ok (.invokevirtual 36, 3) := by decide +kernel
theorem dX3_readFactor_11 : decode cX3_readFactor 11 = .ok (.ifCond .eq 28, 3) := by decide +kernel
theorem dX3_readFactor_14 : decode cX3_readFactor 14 = .ok (.aload_n 0, 1) := by decide +kernel
theorem dX3_readFactor_15 : decode cX3_readFactor 15 = .ok (.iload_n 1, 1) := by decide +kernel
theorem dX3_readFactor_16 : decode cX3_readFactor 16 = .ok (.iconst 1, 1) := by decide +kernel
theorem dX3_readFactor_17 : decode cX3_readFactor 17 = .ok (.iadd, 1) := by decide +kernel
theorem dX3_readFactor_18 : decode cX3_readFactor 18 = .ok (.invokevirtual 67, 3) := by decide +kernel
theorem dX3_readFactor_21 : decode cX3_readFactor 21 = .ok (.ifCond .eq 16, 3) := by decide +kernel
theorem dX3_readFactor_24 : decode cX3_readFactor 24 = .ok (.aload_n 0, 1) := by decide +kernel
theorem dX3_readFactor_25 : decode cX3_readFactor 25 = .ok (.bipush 41, 2) := by decide +kernel
theorem dX3_readFactor_27 : decode cX3_readFactor 27 = .ok (.invokevirtual 36, 3) := by decide +kernel
theorem dX3_readFactor_30 : decode cX3_readFactor 30 = .ok (.ifCond .eq 7, 3) := by decide +kernel
theorem dX3_readFactor_33 : decode cX3_readFactor 33 = .ok (.iconst 1, 1) := by decide +kernel
theorem dX3_readFactor_34 : decode cX3_readFactor 34 = .ok (.goto 4, 3) := by decide +kernel
theorem dX3_readFactor_37 : decode cX3_readFactor 37 = .ok (.iconst 0, 1) := by decide +kernel
theorem dX3_readFactor_38 : decode cX3_readFactor 38 = .ok (.ireturn, 1) := by decide +kernel
theorem dX3_readFactor_39 : decode cX3_readFactor 39 = .ok (.iload_n 1, 1) := by decide +kernel
theorem dX3_readFactor_40 : decode cX3_readFactor 40 = .ok (.iconst 4, 1) := by decide +kernel
theorem dX3_readFactor_41 : decode cX3_readFactor 41 = .ok (.if_icmp .ge 33, 3) := by decide +kernel
theorem dX3_readFactor_44 : decode cX3_readFactor 44 = .ok (.aload_n 0, 1) := by decide +kernel
theorem dX3_readFactor_45 : decode cX3_readFactor 45 = .ok (.bipush 33, 2) := by decide +kernel
theorem dX3_readFactor_47 : decode cX3_readFactor 47 = .ok (.invokevirtual 36, 3) := by decide +kernel
theorem dX3_readFactor_50 : decode cX3_readFactor 50 = .ok (.ifCond .eq 24, 3) := by decide +kernel
theorem dX3_readFactor_53 : decode cX3_readFactor 53 = .ok (.aload_n 0, 1) := by decide +kernel
theorem dX3_readFactor_54 : decode cX3_readFactor 54 = .ok (.iload_n 1, 1) := by decide +kernel
theorem dX3_readFactor_55 : decode cX3_readFactor 55 = .ok (.iconst 1, 1) := by decide +kernel
theorem dX3_readFactor_56 : decode cX3_readFactor 56 = .ok (.iadd, 1) := by decide +kernel
theorem dX3_readFactor_57 : decode cX3_readFactor 57 = .ok (.invokevirtual 77, 3) := by decide +kernel
theorem dX3_readFactor_60 : decode cX3_readFactor 60 = .ok (.istore_n 2, 1) := by decide +kernel
theorem dX3_readFactor_61 : decode cX3_readFactor 61 = .ok (.aload_n 0, 1) := by decide +kernel
theorem dX3_readFactor_62 : decode cX3_readFactor 62 = .ok (.getfield 25, 3) := by decide +kernel
theorem dX3_readFactor_65 : decode cX3_readFactor 65 = .ok (.bipush 8, 2) := by decide +kernel
theorem dX3_readFactor_67 : decode cX3_readFactor 67 = .ok (.iconst 0, 1) := by decide +kernel
theorem dX3_readFactor_68 : decode cX3_readFactor 68 = .ok (.iconst 0, 1) := by decide +kernel
theorem dX3_readFactor_69 : decode cX3_readFactor 69 = .ok (.invokevirtual 70, 3) := by decide +kernel
theorem dX3_readFactor_72 : decode cX3_readFactor 72 = .ok (.iload_n 2, 1) := by decide +kernel
theorem dX3_readFactor_73 : decode cX3_readFactor 73 = .ok (.ireturn, 1) := by decide +kernel
theorem dX3_readFactor_74 : decode cX3_readFactor 74 = .ok (.aload_n 0, 1) := by decide +kernel
theorem dX3_readFactor_75 : decode cX3_readFactor 75 = .ok (.invokevirtual 80, 3) := by decide +kernel
theorem dX3_readFactor_78 : decode cX3_readFactor 78 = .ok (.ireturn, 1) := by decide +kernel
def f_X3_readChoice_L12 (rec : Nat → Int32 → Mem → Option (Int32 × Mem)) (p1 : Int32) (x2_3 : Int32) (u3 : Mem) : Option ((Int32 × Mem) ⊕ (Int32 × Mem)) := (if (100 : Int32) ≤ x2_3 then some (Sum.inr ((1 : Int32), u3)) else obind (f_X3_skip (124 : Int32) u3) (fun r5 u5 => (if r5 = 0 then some (Sum.inr ((1 : Int32), u5)) else obind (rec 1 p1 u5) (fun r7 u7 => (if r7 = 0 then some (Sum.inr ((0 : Int32), u7)) else gob u7.1 (gR u7 63 3) l0 (obind (f_X0_add (gR u7 63 3) (7 : Int32) (0 : Int32) (0 : Int32) u7) (fun _ u10 => some (Sum.inl (x2_3 + (1 : Int32), u10)))))))))
def f_X3_readChoice_S (rec : Nat → Int32 → Mem → Option (Int32 × Mem)) (p1 : Int32) (u : Mem) : Option (Int32 × Mem) := obind (rec 1 p1 u) (fun r1 u1 => (if r1 = 0 then some ((0 : Int32), u1) else whileO (fun s => f_X3_readChoice_L12 rec p1 s.1 s.2) FUEL ((0 : Int32), u1)))
def f_X3_readChain_L12 (rec : Nat → Int32 → Mem → Option (Int32 × Mem)) (p1 : Int32) (x2_3 : Int32) (u3 : Mem) : Option ((Int32 × Mem) ⊕ (Int32 × Mem)) := (if (100 : Int32) ≤ x2_3 then some (Sum.inr ((1 : Int32), u3)) else obind (f_X3_skip (38 : Int32) u3) (fun r5 u5 => (if r5 = 0 then some (Sum.inr ((1 : Int32), u5)) else obind (rec 2 p1 u5) (fun r7 u7 => (if r7 = 0 then some (Sum.inr ((0 : Int32), u7)) else gob u7.1 (gR u7 63 3) l0 (obind (f_X0_add (gR u7 63 3) (6 : Int32) (0 : Int32) (0 : Int32) u7) (fun _ u10 => some (Sum.inl (x2_3 + (1 : Int32), u10)))))))))
def f_X3_readChain_S (rec : Nat → Int32 → Mem → Option (Int32 × Mem)) (p1 : Int32) (u : Mem) : Option (Int32 × Mem) := obind (rec 2 p1 u) (fun r1 u1 => (if r1 = 0 then some ((0 : Int32), u1) else whileO (fun s => f_X3_readChain_L12 rec p1 s.1 s.2) FUEL ((0 : Int32), u1)))
def f_X3_readFactor_S (rec : Nat → Int32 → Mem → Option (Int32 × Mem)) (p1 : Int32) (u : Mem) : Option (Int32 × Mem) := (if (4 : Int32) ≤ p1 then obind (f_X3_readTest u) (fun r2 u2 => gbo r2 (some (r2, u2))) else obind (f_X3_skip (40 : Int32) u) (fun r4 u4 => (if r4 = 0 then obind (f_X3_skip (33 : Int32) u4) (fun r6 u6 => (if r6 = 0 then obind (f_X3_readTest u6) (fun r8 u8 => gbo r8 (some (r8, u8))) else obind (rec 2 (p1 + (1 : Int32)) u6) (fun r10 u10 => gob u10.1 (gR u10 63 3) l0 (obind (f_X0_add (gR u10 63 3) (8 : Int32) (0 : Int32) (0 : Int32) u10) (fun _ u12 => gbo r10 (some (r10, u12))))))) else obind (rec 0 (p1 + (1 : Int32)) u4) (fun r14 u14 => (if r14 = 0 then some ((0 : Int32), u14) else obind (f_X3_skip (41 : Int32) u14) (fun r16 u16 => (if r16 = 0 then some ((0 : Int32), u16) else some ((1 : Int32), u16))))))))
def f_X3_rec : Nat → Nat → Int32 → Mem → Option (Int32 × Mem)
  | 0, _, _, _ => none
  | n + 1, k, p1, u => if k = 0 then f_X3_readChoice_S (f_X3_rec n) p1 u else if k = 1 then f_X3_readChain_S (f_X3_rec n) p1 u else f_X3_readFactor_S (f_X3_rec n) p1 u
set_option maxHeartbeats 4000000 in
set_option maxRecDepth 100000 in
theorem k_X3_rec (l : Launch) (D : gDt) (base : Nat) (Z : gZt) : ∀ (n : Nat), (∀ (u : Mem) (p1 : Int32) (r : Int32) (u' : Mem), f_X3_rec n 0 p1 u = some (r, u') → Met l yX3_readChoice (gws yX3_readChoice cX3_readChoice 3 (some .boolean)) (gRm (6 + n) 0 0) (gPc D base Z u [.ref (base + 63), .int p1]) (gQi D base r u') 0 0 (gF base)) ∧ (∀ (u : Mem) (p1 : Int32) (r : Int32) (u' : Mem), f_X3_rec n 1 p1 u = some (r, u') → Met l yX3_readChain (gws yX3_readChain cX3_readChain 3 (some .boolean)) (gRm (6 + n) 0 0) (gPc D base Z u [.ref (base + 63), .int p1]) (gQi D base r u') 0 0 (gF base)) ∧ (∀ (u : Mem) (p1 : Int32) (r : Int32) (u' : Mem), f_X3_rec n 2 p1 u = some (r, u') → Met l yX3_readFactor (gws yX3_readFactor cX3_readFactor 3 (some .boolean)) (gRm (6 + n) 0 0) (gPc D base Z u [.ref (base + 63), .int p1]) (gQi D base r u') 0 0 (gF base)) := by
  intro n
  induction n with
  | zero => exact ⟨(fun u p1 r u' hf => by cases hf), (fun u p1 r u' hf => by cases hf), (fun u p1 r u' hf => by cases hf)⟩
  | succ n ih =>
    refine ⟨?_, ?_, ?_⟩
    · intro u p1 r u' hf
      have hf : f_X3_readChoice_S (f_X3_rec n) p1 u = some (r, u') := hf
      generalize f_X3_rec n = rec at hf ih
      refine Met.ofW (cc := cX3_readChoice) (maxL := 3) (ret := some .boolean) (by decide) rfl ?_
      intro p e s m args below meth c s₁ B hml hv
      obtain ⟨rfl, C0, hG⟩ := g_enter B hml hv
      have hr := B.returns
      have C0 : gC p s m meth c _ cX3_readChoice 3 RX3 D base Z := C0
      have hx := C0.1
      have hb := C0.2.1
      have hl := lv_entry ([.ref (base + 63), .int p1]) (n := 3) (Nat.le_of_ble_eq_true rfl)
      rw [lg_entry_eq]
      generalize (lg_sl ([.ref (base + 63), .int p1]) ++ List.replicate (3 - (lg_sl ([.ref (base + 63), .int p1])).length) Slot.unset).toArray = ls at hl ⊢
      have hl : lv_has ls 3 [(0, .ref (base + 63)), (1, .int p1)] := hl
      obtain ⟨Q, hQ⟩ : ∃ Q, Q = MQ below (gQi D base r u') ([.ref (base + 63), .int p1] : List Value).toArray s 0 0 (gF base) := ⟨_, rfl⟩
      rw [← hQ]
      change W p l e (gRm (6 + (n + 1)) 0 0) s m _ below meth c _ _ _ _ _ _
      unfold f_X3_readChoice_S at hf
      refine lv_aload_n hx hb dX3_readChoice_0 rfl (lv_at hl 0 rfl) ?_
      refine lv_iload_n hx hb dX3_readChoice_1 rfl (lv_at hl 1 rfl) ?_
      obtain ⟨r1, u1, hc1, hf⟩ := obind_s hf
      refine g_doI0 hG (g_runV C0 hG (ih.2.1 u p1 r1 u1 hc1) m_X3_readChain v_X3_readChain w_539 ⟨by show (6 + n) + 1 ≤ (6 + (n + 1)); omega, by show 8 + (3 + 11) + 40 * (6 + n) ≤ 40 * (6 + (n + 1)); omega⟩ (g_recv C0 hG (L63 hG) rfl) rfl hl.1 rfl (Nat.le_of_ble_eq_true rfl) dX3_readChoice_2 ⟨Nat.zero_le _, Nat.zero_le _⟩) (fun H locs hG hk => ?_)
      refine lv_if_ne (tgt := 10) hx hb dX3_readChoice_5 (by decide) (fun c2 => ?_) (fun c2 => ?_)
      · have hf := gif_f c2 hf
        refine lv_iconst (v := (0 : Int32)) hx hb dX3_readChoice_10 (by decide) ?_
        refine lv_istore_n (lv' := [(2, .int (0 : Int32)), (0, .ref (base + 63)), (1, .int p1)]) hx hb dX3_readChoice_11 rfl hl (by decide) rfl (fun ls hl => ?_)
        have loop3 : ∀ (n3 : Nat) (x2_3 : Int32) (u3 : Mem) (H : Heap) (locs : List Loc) (ls : Array Slot), gH D base s u3 H locs → lv_has ls 3 [(0, .ref (base + 63)), (1, .int p1), (2, .int x2_3)] → whileO (fun s => f_X3_readChoice_L12 rec p1 s.1 s.2) n3 (x2_3, u3) = some (r, u') → W p l e (gRm (6 + (n + 1)) 0 0) s m ([.ref (base + 63), .int p1] : List Value).toArray below meth c H locs 0 0 Q (F0 m 12 ls []) := by
          intro n3
          induction n3 with
          | zero => intro x2_3 u3 H locs ls hG hl hf; cases hf
          | succ n3 ih3 =>
            intro x2_3 u3 H locs ls hG hl hf
            obtain ⟨X3, hf, hX3⟩ := while_s hf
            have hf : f_X3_readChoice_L12 rec p1 x2_3 u3 = some X3 := hf
            unfold f_X3_readChoice_L12 at hf
            refine lv_iload_n hx hb dX3_readChoice_12 rfl (lv_at hl 2 rfl) ?_
            refine lv_bipush (v := (100 : Int32)) hx hb dX3_readChoice_13 (by decide) ?_
            refine lv_icmp_ge (tgt := 54) hx hb dX3_readChoice_15 (by decide) (fun c4 => ?_) (fun c4 => ?_)
            · have hf := gif_t c4 hf
              refine lv_iconst (v := (1 : Int32)) hx hb dX3_readChoice_54 (by decide) ?_
              have hf := while_r hX3 hf
              obtain ⟨hr1, hu⟩ := gret_s hf
              subst hr1
              subst hu
              subst hQ
              exact g_zret C0 hG hr (by decide) dX3_readChoice_55
            · have hf := gif_f c4 hf
              refine lv_aload_n hx hb dX3_readChoice_18 rfl (lv_at hl 0 rfl) ?_
              refine lv_bipush (v := (124 : Int32)) hx hb dX3_readChoice_19 (by decide) ?_
              obtain ⟨r5, u5, hc5, hf⟩ := obind_s hf
              refine g_doI0 hG (g_runV C0 hG (k_X3_skip l D base Z u3 (124 : Int32) r5 u5 hc5) m_X3_skip v_X3_skip w_520 ⟨by show 2 + 1 ≤ (6 + (n + 1)); omega, by show 8 + (2 + 11) + 40 * 2 ≤ 40 * (6 + (n + 1)); omega⟩ (g_recv C0 hG (L63 hG) rfl) rfl hl.1 rfl (Nat.le_of_ble_eq_true rfl) dX3_readChoice_21 ⟨Nat.zero_le _, Nat.zero_le _⟩) (fun H locs hG hk => ?_)
              refine lv_if_eq (tgt := 54) hx hb dX3_readChoice_24 (by decide) (fun c6 => ?_) (fun c6 => ?_)
              · have hf := gif_t c6 hf
                refine lv_iconst (v := (1 : Int32)) hx hb dX3_readChoice_54 (by decide) ?_
                have hf := while_r hX3 hf
                obtain ⟨hr1, hu⟩ := gret_s hf
                subst hr1
                subst hu
                subst hQ
                exact g_zret C0 hG hr (by decide) dX3_readChoice_55
              · have hf := gif_f c6 hf
                refine lv_aload_n hx hb dX3_readChoice_27 rfl (lv_at hl 0 rfl) ?_
                refine lv_iload_n hx hb dX3_readChoice_28 rfl (lv_at hl 1 rfl) ?_
                obtain ⟨r7, u7, hc7, hf⟩ := obind_s hf
                refine g_doI0 hG (g_runV C0 hG (ih.2.1 u5 p1 r7 u7 hc7) m_X3_readChain v_X3_readChain w_539 ⟨by show (6 + n) + 1 ≤ (6 + (n + 1)); omega, by show 8 + (3 + 11) + 40 * (6 + n) ≤ 40 * (6 + (n + 1)); omega⟩ (g_recv C0 hG (L63 hG) rfl) rfl hl.1 rfl (Nat.le_of_ble_eq_true rfl) dX3_readChoice_29 ⟨Nat.zero_le _, Nat.zero_le _⟩) (fun H locs hG hk => ?_)
                refine lv_if_ne (tgt := 37) hx hb dX3_readChoice_32 (by decide) (fun c8 => ?_) (fun c8 => ?_)
                · have hf := gif_f c8 hf
                  refine lv_aload_n hx hb dX3_readChoice_37 rfl (lv_at hl 0 rfl) ?_
                  refine g_getD C0 hG (L63 hG) rfl 3 (by decide) rfl w_271 dX3_readChoice_38 ?_
                  refine lv_bipush (v := (7 : Int32)) hx hb dX3_readChoice_41 (by decide) ?_
                  refine lv_iconst (v := (0 : Int32)) hx hb dX3_readChoice_43 (by decide) ?_
                  refine lv_iconst (v := (0 : Int32)) hx hb dX3_readChoice_44 (by decide) ?_
                  obtain ⟨ho9, hf⟩ := gob_s hf
                  have hb9 := Nat.le_refl u7.1
                  obtain ⟨_, u10, hc10, hf⟩ := obind_s hf
                  refine g_doV0 hG (g_runVN C0 hG (k_X0_add l D base Z u7 (gR u7 63 3) (7 : Int32) (0 : Int32) (0 : Int32) u10 (gok.mono ho9 hb9) hc10) m_X0_add v_X0_add w_547 ⟨by show 1 + 1 ≤ (6 + (n + 1)); omega, by show 8 + (4 + 11) + 40 * 1 ≤ 40 * (6 + (n + 1)); omega⟩ (g_recv C0 hG (D0_0 ho9 hb9) rfl) rfl hl.1 rfl (Nat.le_of_ble_eq_true rfl) dX3_readChoice_45 ⟨Nat.zero_le _, Nat.zero_le _⟩) (fun H locs hG hk => ?_)
                  have hb9 := Nat.le_trans hb9 hk
                  refine lv_iinc (v := x2_3 + (1 : Int32)) (lv' := [(2, .int (x2_3 + (1 : Int32))), (0, .ref (base + 63)), (1, .int p1)]) hx hb dX3_readChoice_48 hl (k := 2) rfl rfl (by decide) rfl (fun ls hl => ?_)
                  refine lv_goto (tgt := 12) hx hb dX3_readChoice_51 (by decide) ?_
                  have hf := while_l hX3 hf
                  exact ih3 (x2_3 + (1 : Int32)) u10 _ _ ls hG (lv_sub hl [1, 2, 0] rfl) hf
                · have hf := gif_t c8 hf
                  refine lv_iconst (v := (0 : Int32)) hx hb dX3_readChoice_35 (by decide) ?_
                  have hf := while_r hX3 hf
                  obtain ⟨hr1, hu⟩ := gret_s hf
                  subst hr1
                  subst hu
                  subst hQ
                  exact g_zret C0 hG hr (by decide) dX3_readChoice_36
        exact loop3 FUEL (0 : Int32) u1 _ _ ls hG (lv_sub hl [1, 2, 0] rfl) hf
      · have hf := gif_t c2 hf
        refine lv_iconst (v := (0 : Int32)) hx hb dX3_readChoice_8 (by decide) ?_
        obtain ⟨hr1, hu⟩ := gret_s hf
        subst hr1
        subst hu
        subst hQ
        exact g_zret C0 hG hr (by decide) dX3_readChoice_9
    · intro u p1 r u' hf
      have hf : f_X3_readChain_S (f_X3_rec n) p1 u = some (r, u') := hf
      generalize f_X3_rec n = rec at hf ih
      refine Met.ofW (cc := cX3_readChain) (maxL := 3) (ret := some .boolean) (by decide) rfl ?_
      intro p e s m args below meth c s₁ B hml hv
      obtain ⟨rfl, C0, hG⟩ := g_enter B hml hv
      have hr := B.returns
      have C0 : gC p s m meth c _ cX3_readChain 3 RX3 D base Z := C0
      have hx := C0.1
      have hb := C0.2.1
      have hl := lv_entry ([.ref (base + 63), .int p1]) (n := 3) (Nat.le_of_ble_eq_true rfl)
      rw [lg_entry_eq]
      generalize (lg_sl ([.ref (base + 63), .int p1]) ++ List.replicate (3 - (lg_sl ([.ref (base + 63), .int p1])).length) Slot.unset).toArray = ls at hl ⊢
      have hl : lv_has ls 3 [(0, .ref (base + 63)), (1, .int p1)] := hl
      obtain ⟨Q, hQ⟩ : ∃ Q, Q = MQ below (gQi D base r u') ([.ref (base + 63), .int p1] : List Value).toArray s 0 0 (gF base) := ⟨_, rfl⟩
      rw [← hQ]
      change W p l e (gRm (6 + (n + 1)) 0 0) s m _ below meth c _ _ _ _ _ _
      unfold f_X3_readChain_S at hf
      refine lv_aload_n hx hb dX3_readChain_0 rfl (lv_at hl 0 rfl) ?_
      refine lv_iload_n hx hb dX3_readChain_1 rfl (lv_at hl 1 rfl) ?_
      obtain ⟨r1, u1, hc1, hf⟩ := obind_s hf
      refine g_doI0 hG (g_runV C0 hG (ih.2.2 u p1 r1 u1 hc1) m_X3_readFactor v_X3_readFactor w_543 ⟨by show (6 + n) + 1 ≤ (6 + (n + 1)); omega, by show 8 + (3 + 11) + 40 * (6 + n) ≤ 40 * (6 + (n + 1)); omega⟩ (g_recv C0 hG (L63 hG) rfl) rfl hl.1 rfl (Nat.le_of_ble_eq_true rfl) dX3_readChain_2 ⟨Nat.zero_le _, Nat.zero_le _⟩) (fun H locs hG hk => ?_)
      refine lv_if_ne (tgt := 10) hx hb dX3_readChain_5 (by decide) (fun c2 => ?_) (fun c2 => ?_)
      · have hf := gif_f c2 hf
        refine lv_iconst (v := (0 : Int32)) hx hb dX3_readChain_10 (by decide) ?_
        refine lv_istore_n (lv' := [(2, .int (0 : Int32)), (0, .ref (base + 63)), (1, .int p1)]) hx hb dX3_readChain_11 rfl hl (by decide) rfl (fun ls hl => ?_)
        have loop3 : ∀ (n3 : Nat) (x2_3 : Int32) (u3 : Mem) (H : Heap) (locs : List Loc) (ls : Array Slot), gH D base s u3 H locs → lv_has ls 3 [(0, .ref (base + 63)), (1, .int p1), (2, .int x2_3)] → whileO (fun s => f_X3_readChain_L12 rec p1 s.1 s.2) n3 (x2_3, u3) = some (r, u') → W p l e (gRm (6 + (n + 1)) 0 0) s m ([.ref (base + 63), .int p1] : List Value).toArray below meth c H locs 0 0 Q (F0 m 12 ls []) := by
          intro n3
          induction n3 with
          | zero => intro x2_3 u3 H locs ls hG hl hf; cases hf
          | succ n3 ih3 =>
            intro x2_3 u3 H locs ls hG hl hf
            obtain ⟨X3, hf, hX3⟩ := while_s hf
            have hf : f_X3_readChain_L12 rec p1 x2_3 u3 = some X3 := hf
            unfold f_X3_readChain_L12 at hf
            refine lv_iload_n hx hb dX3_readChain_12 rfl (lv_at hl 2 rfl) ?_
            refine lv_bipush (v := (100 : Int32)) hx hb dX3_readChain_13 (by decide) ?_
            refine lv_icmp_ge (tgt := 54) hx hb dX3_readChain_15 (by decide) (fun c4 => ?_) (fun c4 => ?_)
            · have hf := gif_t c4 hf
              refine lv_iconst (v := (1 : Int32)) hx hb dX3_readChain_54 (by decide) ?_
              have hf := while_r hX3 hf
              obtain ⟨hr1, hu⟩ := gret_s hf
              subst hr1
              subst hu
              subst hQ
              exact g_zret C0 hG hr (by decide) dX3_readChain_55
            · have hf := gif_f c4 hf
              refine lv_aload_n hx hb dX3_readChain_18 rfl (lv_at hl 0 rfl) ?_
              refine lv_bipush (v := (38 : Int32)) hx hb dX3_readChain_19 (by decide) ?_
              obtain ⟨r5, u5, hc5, hf⟩ := obind_s hf
              refine g_doI0 hG (g_runV C0 hG (k_X3_skip l D base Z u3 (38 : Int32) r5 u5 hc5) m_X3_skip v_X3_skip w_520 ⟨by show 2 + 1 ≤ (6 + (n + 1)); omega, by show 8 + (2 + 11) + 40 * 2 ≤ 40 * (6 + (n + 1)); omega⟩ (g_recv C0 hG (L63 hG) rfl) rfl hl.1 rfl (Nat.le_of_ble_eq_true rfl) dX3_readChain_21 ⟨Nat.zero_le _, Nat.zero_le _⟩) (fun H locs hG hk => ?_)
              refine lv_if_eq (tgt := 54) hx hb dX3_readChain_24 (by decide) (fun c6 => ?_) (fun c6 => ?_)
              · have hf := gif_t c6 hf
                refine lv_iconst (v := (1 : Int32)) hx hb dX3_readChain_54 (by decide) ?_
                have hf := while_r hX3 hf
                obtain ⟨hr1, hu⟩ := gret_s hf
                subst hr1
                subst hu
                subst hQ
                exact g_zret C0 hG hr (by decide) dX3_readChain_55
              · have hf := gif_f c6 hf
                refine lv_aload_n hx hb dX3_readChain_27 rfl (lv_at hl 0 rfl) ?_
                refine lv_iload_n hx hb dX3_readChain_28 rfl (lv_at hl 1 rfl) ?_
                obtain ⟨r7, u7, hc7, hf⟩ := obind_s hf
                refine g_doI0 hG (g_runV C0 hG (ih.2.2 u5 p1 r7 u7 hc7) m_X3_readFactor v_X3_readFactor w_543 ⟨by show (6 + n) + 1 ≤ (6 + (n + 1)); omega, by show 8 + (3 + 11) + 40 * (6 + n) ≤ 40 * (6 + (n + 1)); omega⟩ (g_recv C0 hG (L63 hG) rfl) rfl hl.1 rfl (Nat.le_of_ble_eq_true rfl) dX3_readChain_29 ⟨Nat.zero_le _, Nat.zero_le _⟩) (fun H locs hG hk => ?_)
                refine lv_if_ne (tgt := 37) hx hb dX3_readChain_32 (by decide) (fun c8 => ?_) (fun c8 => ?_)
                · have hf := gif_f c8 hf
                  refine lv_aload_n hx hb dX3_readChain_37 rfl (lv_at hl 0 rfl) ?_
                  refine g_getD C0 hG (L63 hG) rfl 3 (by decide) rfl w_271 dX3_readChain_38 ?_
                  refine lv_bipush (v := (6 : Int32)) hx hb dX3_readChain_41 (by decide) ?_
                  refine lv_iconst (v := (0 : Int32)) hx hb dX3_readChain_43 (by decide) ?_
                  refine lv_iconst (v := (0 : Int32)) hx hb dX3_readChain_44 (by decide) ?_
                  obtain ⟨ho9, hf⟩ := gob_s hf
                  have hb9 := Nat.le_refl u7.1
                  obtain ⟨_, u10, hc10, hf⟩ := obind_s hf
                  refine g_doV0 hG (g_runVN C0 hG (k_X0_add l D base Z u7 (gR u7 63 3) (6 : Int32) (0 : Int32) (0 : Int32) u10 (gok.mono ho9 hb9) hc10) m_X0_add v_X0_add w_547 ⟨by show 1 + 1 ≤ (6 + (n + 1)); omega, by show 8 + (4 + 11) + 40 * 1 ≤ 40 * (6 + (n + 1)); omega⟩ (g_recv C0 hG (D0_0 ho9 hb9) rfl) rfl hl.1 rfl (Nat.le_of_ble_eq_true rfl) dX3_readChain_45 ⟨Nat.zero_le _, Nat.zero_le _⟩) (fun H locs hG hk => ?_)
                  have hb9 := Nat.le_trans hb9 hk
                  refine lv_iinc (v := x2_3 + (1 : Int32)) (lv' := [(2, .int (x2_3 + (1 : Int32))), (0, .ref (base + 63)), (1, .int p1)]) hx hb dX3_readChain_48 hl (k := 2) rfl rfl (by decide) rfl (fun ls hl => ?_)
                  refine lv_goto (tgt := 12) hx hb dX3_readChain_51 (by decide) ?_
                  have hf := while_l hX3 hf
                  exact ih3 (x2_3 + (1 : Int32)) u10 _ _ ls hG (lv_sub hl [1, 2, 0] rfl) hf
                · have hf := gif_t c8 hf
                  refine lv_iconst (v := (0 : Int32)) hx hb dX3_readChain_35 (by decide) ?_
                  have hf := while_r hX3 hf
                  obtain ⟨hr1, hu⟩ := gret_s hf
                  subst hr1
                  subst hu
                  subst hQ
                  exact g_zret C0 hG hr (by decide) dX3_readChain_36
        exact loop3 FUEL (0 : Int32) u1 _ _ ls hG (lv_sub hl [1, 2, 0] rfl) hf
      · have hf := gif_t c2 hf
        refine lv_iconst (v := (0 : Int32)) hx hb dX3_readChain_8 (by decide) ?_
        obtain ⟨hr1, hu⟩ := gret_s hf
        subst hr1
        subst hu
        subst hQ
        exact g_zret C0 hG hr (by decide) dX3_readChain_9
    · intro u p1 r u' hf
      have hf : f_X3_readFactor_S (f_X3_rec n) p1 u = some (r, u') := hf
      generalize f_X3_rec n = rec at hf ih
      refine Met.ofW (cc := cX3_readFactor) (maxL := 3) (ret := some .boolean) (by decide) rfl ?_
      intro p e s m args below meth c s₁ B hml hv
      obtain ⟨rfl, C0, hG⟩ := g_enter B hml hv
      have hr := B.returns
      have C0 : gC p s m meth c _ cX3_readFactor 3 RX3 D base Z := C0
      have hx := C0.1
      have hb := C0.2.1
      have hl := lv_entry ([.ref (base + 63), .int p1]) (n := 3) (Nat.le_of_ble_eq_true rfl)
      rw [lg_entry_eq]
      generalize (lg_sl ([.ref (base + 63), .int p1]) ++ List.replicate (3 - (lg_sl ([.ref (base + 63), .int p1])).length) Slot.unset).toArray = ls at hl ⊢
      have hl : lv_has ls 3 [(0, .ref (base + 63)), (1, .int p1)] := hl
      obtain ⟨Q, hQ⟩ : ∃ Q, Q = MQ below (gQi D base r u') ([.ref (base + 63), .int p1] : List Value).toArray s 0 0 (gF base) := ⟨_, rfl⟩
      rw [← hQ]
      change W p l e (gRm (6 + (n + 1)) 0 0) s m _ below meth c _ _ _ _ _ _
      unfold f_X3_readFactor_S at hf
      refine lv_iload_n hx hb dX3_readFactor_0 rfl (lv_at hl 1 rfl) ?_
      refine lv_iconst (v := (4 : Int32)) hx hb dX3_readFactor_1 (by decide) ?_
      refine lv_icmp_ge (tgt := 39) hx hb dX3_readFactor_2 (by decide) (fun c1 => ?_) (fun c1 => ?_)
      · have hf := gif_t c1 hf
        refine lv_iload_n hx hb dX3_readFactor_39 rfl (lv_at hl 1 rfl) ?_
        refine lv_iconst (v := (4 : Int32)) hx hb dX3_readFactor_40 (by decide) ?_
        refine lv_icmp_ge (tgt := 74) hx hb dX3_readFactor_41 (by decide) (fun _ => ?_) (fun c => absurd c1 c)
        refine lv_aload_n hx hb dX3_readFactor_74 rfl (lv_at hl 0 rfl) ?_
        obtain ⟨r2, u2, hc2, hf⟩ := obind_s hf
        refine g_doI0 hG (g_runV C0 hG (k_X3_readTest l D base Z u r2 u2 hc2) m_X3_readTest v_X3_readTest w_551 ⟨by show 5 + 1 ≤ (6 + (n + 1)); omega, by show 8 + (4 + 11) + 40 * 5 ≤ 40 * (6 + (n + 1)); omega⟩ (g_recv C0 hG (L63 hG) rfl) rfl hl.1 rfl (Nat.le_of_ble_eq_true rfl) dX3_readFactor_75 ⟨Nat.zero_le _, Nat.zero_le _⟩) (fun H locs hG hk => ?_)
        obtain ⟨h3, hf⟩ := gbo_s hf
        obtain ⟨hr1, hu⟩ := gret_s hf
        subst hr1
        subst hu
        subst hQ
        exact g_zret C0 hG hr h3 dX3_readFactor_78
      · have hf := gif_f c1 hf
        refine lv_aload_n hx hb dX3_readFactor_5 rfl (lv_at hl 0 rfl) ?_
        refine lv_bipush (v := (40 : Int32)) hx hb dX3_readFactor_6 (by decide) ?_
        obtain ⟨r4, u4, hc4, hf⟩ := obind_s hf
        refine g_doI0 hG (g_runV C0 hG (k_X3_skip l D base Z u (40 : Int32) r4 u4 hc4) m_X3_skip v_X3_skip w_520 ⟨by show 2 + 1 ≤ (6 + (n + 1)); omega, by show 8 + (2 + 11) + 40 * 2 ≤ 40 * (6 + (n + 1)); omega⟩ (g_recv C0 hG (L63 hG) rfl) rfl hl.1 rfl (Nat.le_of_ble_eq_true rfl) dX3_readFactor_8 ⟨Nat.zero_le _, Nat.zero_le _⟩) (fun H locs hG hk => ?_)
        refine lv_if_eq (tgt := 39) hx hb dX3_readFactor_11 (by decide) (fun c5 => ?_) (fun c5 => ?_)
        · have hf := gif_t c5 hf
          refine lv_iload_n hx hb dX3_readFactor_39 rfl (lv_at hl 1 rfl) ?_
          refine lv_iconst (v := (4 : Int32)) hx hb dX3_readFactor_40 (by decide) ?_
          refine lv_icmp_ge (tgt := 74) hx hb dX3_readFactor_41 (by decide) (fun c => absurd c c1) (fun _ => ?_)
          refine lv_aload_n hx hb dX3_readFactor_44 rfl (lv_at hl 0 rfl) ?_
          refine lv_bipush (v := (33 : Int32)) hx hb dX3_readFactor_45 (by decide) ?_
          obtain ⟨r6, u6, hc6, hf⟩ := obind_s hf
          refine g_doI0 hG (g_runV C0 hG (k_X3_skip l D base Z u4 (33 : Int32) r6 u6 hc6) m_X3_skip v_X3_skip w_520 ⟨by show 2 + 1 ≤ (6 + (n + 1)); omega, by show 8 + (2 + 11) + 40 * 2 ≤ 40 * (6 + (n + 1)); omega⟩ (g_recv C0 hG (L63 hG) rfl) rfl hl.1 rfl (Nat.le_of_ble_eq_true rfl) dX3_readFactor_47 ⟨Nat.zero_le _, Nat.zero_le _⟩) (fun H locs hG hk => ?_)
          refine lv_if_eq (tgt := 74) hx hb dX3_readFactor_50 (by decide) (fun c7 => ?_) (fun c7 => ?_)
          · have hf := gif_t c7 hf
            refine lv_aload_n hx hb dX3_readFactor_74 rfl (lv_at hl 0 rfl) ?_
            obtain ⟨r8, u8, hc8, hf⟩ := obind_s hf
            refine g_doI0 hG (g_runV C0 hG (k_X3_readTest l D base Z u6 r8 u8 hc8) m_X3_readTest v_X3_readTest w_551 ⟨by show 5 + 1 ≤ (6 + (n + 1)); omega, by show 8 + (4 + 11) + 40 * 5 ≤ 40 * (6 + (n + 1)); omega⟩ (g_recv C0 hG (L63 hG) rfl) rfl hl.1 rfl (Nat.le_of_ble_eq_true rfl) dX3_readFactor_75 ⟨Nat.zero_le _, Nat.zero_le _⟩) (fun H locs hG hk => ?_)
            obtain ⟨h9, hf⟩ := gbo_s hf
            obtain ⟨hr1, hu⟩ := gret_s hf
            subst hr1
            subst hu
            subst hQ
            exact g_zret C0 hG hr h9 dX3_readFactor_78
          · have hf := gif_f c7 hf
            refine lv_aload_n hx hb dX3_readFactor_53 rfl (lv_at hl 0 rfl) ?_
            refine lv_iload_n hx hb dX3_readFactor_54 rfl (lv_at hl 1 rfl) ?_
            refine lv_iconst (v := (1 : Int32)) hx hb dX3_readFactor_55 (by decide) ?_
            refine lv_iadd hx hb dX3_readFactor_56 ?_
            obtain ⟨r10, u10, hc10, hf⟩ := obind_s hf
            refine g_doI0 hG (g_runV C0 hG (ih.2.2 u6 (p1 + (1 : Int32)) r10 u10 hc10) m_X3_readFactor v_X3_readFactor w_543 ⟨by show (6 + n) + 1 ≤ (6 + (n + 1)); omega, by show 8 + (3 + 11) + 40 * (6 + n) ≤ 40 * (6 + (n + 1)); omega⟩ (g_recv C0 hG (L63 hG) rfl) rfl hl.1 rfl (Nat.le_of_ble_eq_true rfl) dX3_readFactor_57 ⟨Nat.zero_le _, Nat.zero_le _⟩) (fun H locs hG hk => ?_)
            refine lv_istore_n (lv' := [(2, .int r10), (0, .ref (base + 63)), (1, .int p1)]) hx hb dX3_readFactor_60 rfl hl (by decide) rfl (fun ls hl => ?_)
            refine lv_aload_n hx hb dX3_readFactor_61 rfl (lv_at hl 1 rfl) ?_
            refine g_getD C0 hG (L63 hG) rfl 3 (by decide) rfl w_271 dX3_readFactor_62 ?_
            refine lv_bipush (v := (8 : Int32)) hx hb dX3_readFactor_65 (by decide) ?_
            refine lv_iconst (v := (0 : Int32)) hx hb dX3_readFactor_67 (by decide) ?_
            refine lv_iconst (v := (0 : Int32)) hx hb dX3_readFactor_68 (by decide) ?_
            obtain ⟨ho11, hf⟩ := gob_s hf
            have hb11 := Nat.le_refl u10.1
            obtain ⟨_, u12, hc12, hf⟩ := obind_s hf
            refine g_doV0 hG (g_runVN C0 hG (k_X0_add l D base Z u10 (gR u10 63 3) (8 : Int32) (0 : Int32) (0 : Int32) u12 (gok.mono ho11 hb11) hc12) m_X0_add v_X0_add w_547 ⟨by show 1 + 1 ≤ (6 + (n + 1)); omega, by show 8 + (4 + 11) + 40 * 1 ≤ 40 * (6 + (n + 1)); omega⟩ (g_recv C0 hG (D0_0 ho11 hb11) rfl) rfl hl.1 rfl (Nat.le_of_ble_eq_true rfl) dX3_readFactor_69 ⟨Nat.zero_le _, Nat.zero_le _⟩) (fun H locs hG hk => ?_)
            have hb11 := Nat.le_trans hb11 hk
            refine lv_iload_n hx hb dX3_readFactor_72 rfl (lv_at hl 0 rfl) ?_
            obtain ⟨h13, hf⟩ := gbo_s hf
            obtain ⟨hr1, hu⟩ := gret_s hf
            subst hr1
            subst hu
            subst hQ
            exact g_zret C0 hG hr h13 dX3_readFactor_73
        · have hf := gif_f c5 hf
          refine lv_aload_n hx hb dX3_readFactor_14 rfl (lv_at hl 0 rfl) ?_
          refine lv_iload_n hx hb dX3_readFactor_15 rfl (lv_at hl 1 rfl) ?_
          refine lv_iconst (v := (1 : Int32)) hx hb dX3_readFactor_16 (by decide) ?_
          refine lv_iadd hx hb dX3_readFactor_17 ?_
          obtain ⟨r14, u14, hc14, hf⟩ := obind_s hf
          refine g_doI0 hG (g_runV C0 hG (ih.1 u4 (p1 + (1 : Int32)) r14 u14 hc14) m_X3_readChoice v_X3_readChoice w_535 ⟨by show (6 + n) + 1 ≤ (6 + (n + 1)); omega, by show 8 + (3 + 11) + 40 * (6 + n) ≤ 40 * (6 + (n + 1)); omega⟩ (g_recv C0 hG (L63 hG) rfl) rfl hl.1 rfl (Nat.le_of_ble_eq_true rfl) dX3_readFactor_18 ⟨Nat.zero_le _, Nat.zero_le _⟩) (fun H locs hG hk => ?_)
          refine lv_if_eq (tgt := 37) hx hb dX3_readFactor_21 (by decide) (fun c15 => ?_) (fun c15 => ?_)
          · have hf := gif_t c15 hf
            refine lv_iconst (v := (0 : Int32)) hx hb dX3_readFactor_37 (by decide) ?_
            obtain ⟨hr1, hu⟩ := gret_s hf
            subst hr1
            subst hu
            subst hQ
            exact g_zret C0 hG hr (by decide) dX3_readFactor_38
          · have hf := gif_f c15 hf
            refine lv_aload_n hx hb dX3_readFactor_24 rfl (lv_at hl 0 rfl) ?_
            refine lv_bipush (v := (41 : Int32)) hx hb dX3_readFactor_25 (by decide) ?_
            obtain ⟨r16, u16, hc16, hf⟩ := obind_s hf
            refine g_doI0 hG (g_runV C0 hG (k_X3_skip l D base Z u14 (41 : Int32) r16 u16 hc16) m_X3_skip v_X3_skip w_520 ⟨by show 2 + 1 ≤ (6 + (n + 1)); omega, by show 8 + (2 + 11) + 40 * 2 ≤ 40 * (6 + (n + 1)); omega⟩ (g_recv C0 hG (L63 hG) rfl) rfl hl.1 rfl (Nat.le_of_ble_eq_true rfl) dX3_readFactor_27 ⟨Nat.zero_le _, Nat.zero_le _⟩) (fun H locs hG hk => ?_)
            refine lv_if_eq (tgt := 37) hx hb dX3_readFactor_30 (by decide) (fun c17 => ?_) (fun c17 => ?_)
            · have hf := gif_t c17 hf
              refine lv_iconst (v := (0 : Int32)) hx hb dX3_readFactor_37 (by decide) ?_
              obtain ⟨hr1, hu⟩ := gret_s hf
              subst hr1
              subst hu
              subst hQ
              exact g_zret C0 hG hr (by decide) dX3_readFactor_38
            · have hf := gif_f c17 hf
              refine lv_iconst (v := (1 : Int32)) hx hb dX3_readFactor_33 (by decide) ?_
              refine lv_goto (tgt := 38) hx hb dX3_readFactor_34 (by decide) ?_
              obtain ⟨hr1, hu⟩ := gret_s hf
              subst hr1
              subst hu
              subst hQ
              exact g_zret C0 hG hr (by decide) dX3_readFactor_38
def f_X3_readChoice (p1 : Int32) (u : Mem) : Option (Int32 × Mem) := f_X3_rec 20 0 p1 u
theorem k_X3_readChoice (l : Launch) (D : gDt) (base : Nat) (Z : gZt) (u : Mem) (p1 : Int32) (r : Int32) (u' : Mem) (hf : f_X3_readChoice p1 u = some (r, u')) : Met l yX3_readChoice (gws yX3_readChoice cX3_readChoice 3 (some .boolean)) (gRm 26 0 0) (gPc D base Z u [.ref (base + 63), .int p1]) (gQi D base r u') 0 0 (gF base) := (k_X3_rec l D base Z 20).1 u p1 r u' hf
def f_X3_readChain (p1 : Int32) (u : Mem) : Option (Int32 × Mem) := f_X3_rec 20 1 p1 u
theorem k_X3_readChain (l : Launch) (D : gDt) (base : Nat) (Z : gZt) (u : Mem) (p1 : Int32) (r : Int32) (u' : Mem) (hf : f_X3_readChain p1 u = some (r, u')) : Met l yX3_readChain (gws yX3_readChain cX3_readChain 3 (some .boolean)) (gRm 26 0 0) (gPc D base Z u [.ref (base + 63), .int p1]) (gQi D base r u') 0 0 (gF base) := (k_X3_rec l D base Z 20).2.1 u p1 r u' hf
def f_X3_readFactor (p1 : Int32) (u : Mem) : Option (Int32 × Mem) := f_X3_rec 20 2 p1 u
theorem k_X3_readFactor (l : Launch) (D : gDt) (base : Nat) (Z : gZt) (u : Mem) (p1 : Int32) (r : Int32) (u' : Mem) (hf : f_X3_readFactor p1 u = some (r, u')) : Met l yX3_readFactor (gws yX3_readFactor cX3_readFactor 3 (some .boolean)) (gRm 26 0 0) (gPc D base Z u [.ref (base + 63), .int p1]) (gQi D base r u') 0 0 (gF base) := (k_X3_rec l D base Z 20).2.2 u p1 r u' hf
theorem dX3_readWarmth_0 : decode cX3_readWarmth 0 = .ok (.aload_n 0, 1) := by decide +kernel
theorem dX3_readWarmth_1 : decode cX3_readWarmth 1 = .ok (.invokevirtual 61, 3) := by decide +kernel
theorem dX3_readWarmth_4 : decode cX3_readWarmth 4 = .ok (.istore_n 2, 1) := by decide +kernel
theorem dX3_readWarmth_5 : decode cX3_readWarmth 5 = .ok (.iload_n 2, 1) := by decide +kernel
theorem dX3_readWarmth_6 : decode cX3_readWarmth 6 = .ok (.ifCond .lt 20, 3) := by decide +kernel
theorem dX3_readWarmth_9 : decode cX3_readWarmth 9 = .ok (.aload_n 0, 1) := by decide +kernel
theorem dX3_readWarmth_10 : decode cX3_readWarmth 10 = .ok (.bipush 32, 2) := by decide +kernel
theorem dX3_readWarmth_12 : decode cX3_readWarmth 12 = .ok (.invokevirtual 36, 3) := by decide +kernel
theorem dX3_readWarmth_15 : decode cX3_readWarmth 15 = .ok (.ifCond .eq 11, 3) := by decide +kernel
theorem dX3_readWarmth_18 : decode cX3_readWarmth 18 = .ok (.aload_n 0, 1) := by decide +kernel
theorem dX3_readWarmth_19 : decode cX3_readWarmth 19 = .ok (.iconst 0, 1) := by decide +kernel
theorem dX3_readWarmth_20 : decode cX3_readWarmth 20 = .ok (.invokevirtual 67, 3) := by decide +kernel
theorem dX3_readWarmth_23 : decode cX3_readWarmth 23 = .ok (.ifCond .ne 5, 3) := by decide +kernel
theorem dX3_readWarmth_26 : decode cX3_readWarmth 26 = .ok (.iconst 0, 1) := by decide +kernel
theorem dX3_readWarmth_27 : decode cX3_readWarmth 27 = .ok (.ireturn, 1) := by decide +kernel
theorem dX3_readWarmth_28 : decode cX3_readWarmth 28 = .ok (.aload_n 0, 1) := by decide +kernel
theorem dX3_readWarmth_29 : decode cX3_readWarmth 29 = .ok (.getfield 25, 3) := by decide +kernel
theorem dX3_readWarmth_32 : decode cX3_readWarmth 32 = .ok (.iload_n 1, 1) := by decide +kernel
theorem dX3_readWarmth_33 : decode cX3_readWarmth 33 = .ok (.iconst 0, 1) := by decide +kernel
theorem dX3_readWarmth_34 : decode cX3_readWarmth 34 = .ok (.iload_n 2, 1) := by decide +kernel
theorem dX3_readWarmth_35 : decode cX3_readWarmth 35 = .ok (.invokevirtual 70, 3) := by decide +kernel
theorem dX3_readWarmth_38 : decode cX3_readWarmth 38 = .ok (.iconst 1, 1) := by decide +kernel
theorem dX3_readWarmth_39 : decode cX3_readWarmth 39 = .ok (.ireturn, 1) := by decide +kernel
def f_X3_readWarmth (p1 : Int32) (u : Mem) : Option (Int32 × Mem) := obind (f_X3_readNumber u) (fun r1 u1 => (if r1 < 0 then some ((0 : Int32), u1) else obind (f_X3_skip (32 : Int32) u1) (fun r3 u3 => (if r3 = 0 then some ((0 : Int32), u3) else obind (f_X3_readChoice (0 : Int32) u3) (fun r5 u5 => (if r5 = 0 then some ((0 : Int32), u5) else gob u5.1 (gR u5 63 3) l0 (obind (f_X0_add (gR u5 63 3) p1 (0 : Int32) r1 u5) (fun _ u8 => some ((1 : Int32), u8)))))))))
set_option maxHeartbeats 4000000 in
set_option maxRecDepth 100000 in
theorem k_X3_readWarmth (l : Launch) (D : gDt) (base : Nat) (Z : gZt) (u : Mem) (p1 : Int32) (r : Int32) (u' : Mem) (hf : f_X3_readWarmth p1 u = some (r, u')) : Met l yX3_readWarmth (gws yX3_readWarmth cX3_readWarmth 3 (some .boolean)) (gRm 27 0 0) (gPc D base Z u [.ref (base + 63), .int p1]) (gQi D base r u') 0 0 (gF base) := by
  refine Met.ofW (cc := cX3_readWarmth) (maxL := 3) (ret := some .boolean) (by decide) rfl ?_
  intro p e s m args below meth c s₁ B hml hv
  obtain ⟨rfl, C0, hG⟩ := g_enter B hml hv
  have hr := B.returns
  have C0 : gC p s m meth c _ cX3_readWarmth 3 RX3 D base Z := C0
  have hx := C0.1
  have hb := C0.2.1
  have hl := lv_entry ([.ref (base + 63), .int p1]) (n := 3) (Nat.le_of_ble_eq_true rfl)
  rw [lg_entry_eq]
  generalize (lg_sl ([.ref (base + 63), .int p1]) ++ List.replicate (3 - (lg_sl ([.ref (base + 63), .int p1])).length) Slot.unset).toArray = ls at hl ⊢
  have hl : lv_has ls 3 [(0, .ref (base + 63)), (1, .int p1)] := hl
  obtain ⟨Q, hQ⟩ : ∃ Q, Q = MQ below (gQi D base r u') ([.ref (base + 63), .int p1] : List Value).toArray s 0 0 (gF base) := ⟨_, rfl⟩
  rw [← hQ]
  change W p l e (gRm 27 0 0) s m _ below meth c _ _ _ _ _ _
  unfold f_X3_readWarmth at hf
  refine lv_aload_n hx hb dX3_readWarmth_0 rfl (lv_at hl 0 rfl) ?_
  obtain ⟨r1, u1, hc1, hf⟩ := obind_s hf
  refine g_doI0 hG (g_runV C0 hG (k_X3_readNumber l D base Z u r1 u1 hc1) m_X3_readNumber v_X3_readNumber w_528 (by decide) (g_recv C0 hG (L63 hG) rfl) rfl hl.1 rfl (Nat.le_of_ble_eq_true rfl) dX3_readWarmth_1 ⟨Nat.zero_le _, Nat.zero_le _⟩) (fun H locs hG hk => ?_)
  refine lv_istore_n (lv' := [(2, .int r1), (0, .ref (base + 63)), (1, .int p1)]) hx hb dX3_readWarmth_4 rfl hl (by decide) rfl (fun ls hl => ?_)
  refine lv_iload_n hx hb dX3_readWarmth_5 rfl (lv_at hl 0 rfl) ?_
  refine lv_if_lt (tgt := 26) hx hb dX3_readWarmth_6 (by decide) (fun c2 => ?_) (fun c2 => ?_)
  · have hf := gif_t c2 hf
    refine lv_iconst (v := (0 : Int32)) hx hb dX3_readWarmth_26 (by decide) ?_
    obtain ⟨hr1, hu⟩ := gret_s hf
    subst hr1
    subst hu
    subst hQ
    exact g_zret C0 hG hr (by decide) dX3_readWarmth_27
  · have hf := gif_f c2 hf
    refine lv_aload_n hx hb dX3_readWarmth_9 rfl (lv_at hl 1 rfl) ?_
    refine lv_bipush (v := (32 : Int32)) hx hb dX3_readWarmth_10 (by decide) ?_
    obtain ⟨r3, u3, hc3, hf⟩ := obind_s hf
    refine g_doI0 hG (g_runV C0 hG (k_X3_skip l D base Z u1 (32 : Int32) r3 u3 hc3) m_X3_skip v_X3_skip w_520 (by decide) (g_recv C0 hG (L63 hG) rfl) rfl hl.1 rfl (Nat.le_of_ble_eq_true rfl) dX3_readWarmth_12 ⟨Nat.zero_le _, Nat.zero_le _⟩) (fun H locs hG hk => ?_)
    refine lv_if_eq (tgt := 26) hx hb dX3_readWarmth_15 (by decide) (fun c4 => ?_) (fun c4 => ?_)
    · have hf := gif_t c4 hf
      refine lv_iconst (v := (0 : Int32)) hx hb dX3_readWarmth_26 (by decide) ?_
      obtain ⟨hr1, hu⟩ := gret_s hf
      subst hr1
      subst hu
      subst hQ
      exact g_zret C0 hG hr (by decide) dX3_readWarmth_27
    · have hf := gif_f c4 hf
      refine lv_aload_n hx hb dX3_readWarmth_18 rfl (lv_at hl 1 rfl) ?_
      refine lv_iconst (v := (0 : Int32)) hx hb dX3_readWarmth_19 (by decide) ?_
      obtain ⟨r5, u5, hc5, hf⟩ := obind_s hf
      refine g_doI0 hG (g_runV C0 hG (k_X3_readChoice l D base Z u3 (0 : Int32) r5 u5 hc5) m_X3_readChoice v_X3_readChoice w_535 (by decide) (g_recv C0 hG (L63 hG) rfl) rfl hl.1 rfl (Nat.le_of_ble_eq_true rfl) dX3_readWarmth_20 ⟨Nat.zero_le _, Nat.zero_le _⟩) (fun H locs hG hk => ?_)
      refine lv_if_ne (tgt := 28) hx hb dX3_readWarmth_23 (by decide) (fun c6 => ?_) (fun c6 => ?_)
      · have hf := gif_f c6 hf
        refine lv_aload_n hx hb dX3_readWarmth_28 rfl (lv_at hl 1 rfl) ?_
        refine g_getD C0 hG (L63 hG) rfl 3 (by decide) rfl w_271 dX3_readWarmth_29 ?_
        refine lv_iload_n hx hb dX3_readWarmth_32 rfl (lv_at hl 2 rfl) ?_
        refine lv_iconst (v := (0 : Int32)) hx hb dX3_readWarmth_33 (by decide) ?_
        refine lv_iload_n hx hb dX3_readWarmth_34 rfl (lv_at hl 0 rfl) ?_
        obtain ⟨ho7, hf⟩ := gob_s hf
        have hb7 := Nat.le_refl u5.1
        obtain ⟨_, u8, hc8, hf⟩ := obind_s hf
        refine g_doV0 hG (g_runVN C0 hG (k_X0_add l D base Z u5 (gR u5 63 3) p1 (0 : Int32) r1 u8 (gok.mono ho7 hb7) hc8) m_X0_add v_X0_add w_547 (by decide) (g_recv C0 hG (D0_0 ho7 hb7) rfl) rfl hl.1 rfl (Nat.le_of_ble_eq_true rfl) dX3_readWarmth_35 ⟨Nat.zero_le _, Nat.zero_le _⟩) (fun H locs hG hk => ?_)
        have hb7 := Nat.le_trans hb7 hk
        refine lv_iconst (v := (1 : Int32)) hx hb dX3_readWarmth_38 (by decide) ?_
        obtain ⟨hr1, hu⟩ := gret_s hf
        subst hr1
        subst hu
        subst hQ
        exact g_zret C0 hG hr (by decide) dX3_readWarmth_39
      · have hf := gif_t c6 hf
        refine lv_iconst (v := (0 : Int32)) hx hb dX3_readWarmth_26 (by decide) ?_
        obtain ⟨hr1, hu⟩ := gret_s hf
        subst hr1
        subst hu
        subst hQ
        exact g_zret C0 hG hr (by decide) dX3_readWarmth_27
theorem dX3_readSlope_0 : decode cX3_readSlope 0 = .ok (.aload_n 0, 1) := by decide +kernel
theorem dX3_readSlope_1 : decode cX3_readSlope 1 = .ok (.invokevirtual 61, 3) := by decide +kernel
theorem dX3_readSlope_4 : decode cX3_readSlope 4 = .ok (.istore_n 1, 1) := by decide +kernel
theorem dX3_readSlope_5 : decode cX3_readSlope 5 = .ok (.iload_n 1, 1) := by decide +kernel
theorem dX3_readSlope_6 : decode cX3_readSlope 6 = .ok (.ifCond .ge 5, 3) := by decide +kernel
theorem dX3_readSlope_9 : decode cX3_readSlope 9 = .ok (.iconst 0, 1) := by decide +kernel
theorem dX3_readSlope_10 : decode cX3_readSlope 10 = .ok (.ireturn, 1) := by decide +kernel
theorem dX3_readSlope_11 : decode cX3_readSlope 11 = .ok (.aload_n 0, 1) := by decide +kernel
theorem dX3_readSlope_12 : decode cX3_readSlope 12 = .ok (.getfield 25, 3) := by decide +kernel
theorem dX3_readSlope_15 : decode cX3_readSlope 15 = .ok (.iload_n 1, 1) := by decide +kernel
theorem dX3_readSlope_16 : decode cX3_readSlope 16 = .ok (.putfield 64, 3) := by decide +kernel
theorem dX3_readSlope_19 : decode cX3_readSlope 19 = .ok (.iconst 1, 1) := by decide +kernel
theorem dX3_readSlope_20 : decode cX3_readSlope 20 = .ok (.ireturn, 1) := by decide +kernel
def f_X3_readSlope (u : Mem) : Option (Int32 × Mem) := obind (f_X3_readNumber u) (fun r1 u1 => (if 0 ≤ r1 then gob u1.1 (gR u1 63 3) l0 (some ((1 : Int32), sI u1 (gR u1 63 3) 2 r1)) else some ((0 : Int32), u1)))
set_option maxHeartbeats 4000000 in
set_option maxRecDepth 100000 in
theorem k_X3_readSlope (l : Launch) (D : gDt) (base : Nat) (Z : gZt) (u : Mem) (r : Int32) (u' : Mem) (hf : f_X3_readSlope u = some (r, u')) : Met l yX3_readSlope (gws yX3_readSlope cX3_readSlope 2 (some .boolean)) (gRm 3 0 0) (gPc D base Z u [.ref (base + 63)]) (gQi D base r u') 0 0 (gF base) := by
  refine Met.ofW (cc := cX3_readSlope) (maxL := 2) (ret := some .boolean) (by decide) rfl ?_
  intro p e s m args below meth c s₁ B hml hv
  obtain ⟨rfl, C0, hG⟩ := g_enter B hml hv
  have hr := B.returns
  have C0 : gC p s m meth c _ cX3_readSlope 2 RX3 D base Z := C0
  have hx := C0.1
  have hb := C0.2.1
  have hl := lv_entry ([.ref (base + 63)]) (n := 2) (Nat.le_of_ble_eq_true rfl)
  rw [lg_entry_eq]
  generalize (lg_sl ([.ref (base + 63)]) ++ List.replicate (2 - (lg_sl ([.ref (base + 63)])).length) Slot.unset).toArray = ls at hl ⊢
  have hl : lv_has ls 2 [(0, .ref (base + 63))] := hl
  obtain ⟨Q, hQ⟩ : ∃ Q, Q = MQ below (gQi D base r u') ([.ref (base + 63)] : List Value).toArray s 0 0 (gF base) := ⟨_, rfl⟩
  rw [← hQ]
  change W p l e (gRm 3 0 0) s m _ below meth c _ _ _ _ _ _
  unfold f_X3_readSlope at hf
  refine lv_aload_n hx hb dX3_readSlope_0 rfl (lv_at hl 0 rfl) ?_
  obtain ⟨r1, u1, hc1, hf⟩ := obind_s hf
  refine g_doI0 hG (g_runV C0 hG (k_X3_readNumber l D base Z u r1 u1 hc1) m_X3_readNumber v_X3_readNumber w_528 (by decide) (g_recv C0 hG (L63 hG) rfl) rfl hl.1 rfl (Nat.le_of_ble_eq_true rfl) dX3_readSlope_1 ⟨Nat.zero_le _, Nat.zero_le _⟩) (fun H locs hG hk => ?_)
  refine lv_istore_n (lv' := [(1, .int r1), (0, .ref (base + 63))]) hx hb dX3_readSlope_4 rfl hl (by decide) rfl (fun ls hl => ?_)
  refine lv_iload_n hx hb dX3_readSlope_5 rfl (lv_at hl 0 rfl) ?_
  refine lv_if_ge (tgt := 11) hx hb dX3_readSlope_6 (by decide) (fun c2 => ?_) (fun c2 => ?_)
  · have hf := gif_t c2 hf
    refine lv_aload_n hx hb dX3_readSlope_11 rfl (lv_at hl 1 rfl) ?_
    refine g_getD C0 hG (L63 hG) rfl 3 (by decide) rfl w_271 dX3_readSlope_12 ?_
    refine lv_iload_n hx hb dX3_readSlope_15 rfl (lv_at hl 0 rfl) ?_
    obtain ⟨ho3, hf⟩ := gob_s hf
    have hb3 := Nat.le_refl u1.1
    refine g_putIN (ty := .int) C0 hG (D0_0 ho3 hb3) rfl 2 (by decide) rfl w_142 rfl (by decide) rfl rfl dX3_readSlope_16 (fun H locs hG => ?_)
    refine lv_iconst (v := (1 : Int32)) hx hb dX3_readSlope_19 (by decide) ?_
    obtain ⟨hr1, hu⟩ := gret_s hf
    subst hr1
    subst hu
    subst hQ
    exact g_zret C0 hG hr (by decide) dX3_readSlope_20
  · have hf := gif_f c2 hf
    refine lv_iconst (v := (0 : Int32)) hx hb dX3_readSlope_9 (by decide) ?_
    obtain ⟨hr1, hu⟩ := gret_s hf
    subst hr1
    subst hu
    subst hQ
    exact g_zret C0 hG hr (by decide) dX3_readSlope_10
theorem dX3_readClause_0 : decode cX3_readClause 0 = .ok (.aload_n 0, 1) := by decide +kernel
theorem dX3_readClause_1 : decode cX3_readClause 1 = .ok (.invokevirtual 40, 3) := by decide +kernel
theorem dX3_readClause_4 : decode cX3_readClause 4 = .ok (.bipush 119, 2) := by decide +kernel
theorem dX3_readClause_6 : decode cX3_readClause 6 = .ok (.if_icmp .ne 27, 3) := by decide +kernel
theorem dX3_readClause_9 : decode cX3_readClause 9 = .ok (.aload_n 0, 1) := by decide +kernel
theorem dX3_readClause_10 : decode cX3_readClause 10 = .ok (.ldc 44, 2) := by decide +kernel
theorem dX3_readClause_12 : decode cX3_readClause 12 = .ok (.invokevirtual 46, 3) := by decide +kernel
theorem dX3_readClause_15 : decode cX3_readClause 15 = .ok (.ifCond .eq 16, 3) := by decide +kernel
theorem dX3_readClause_18 : decode cX3_readClause 18 = .ok (.aload_n 0, 1) := by decide +kernel
theorem dX3_readClause_19 : decode cX3_readClause 19 = .ok (.bipush 9, 2) := by decide +kernel
theorem dX3_readClause_21 : decode cX3_readClause 21 = .ok (.invokevirtual 50, 3) := by decide +kernel
theorem dX3_readClause_24 : decode cX3_readClause 24 = .ok (.ifCond .eq 7, 3) := by decide +kernel
theorem dX3_readClause_27 : decode cX3_readClause 27 = .ok (.iconst 1, 1) := by decide +kernel
theorem dX3_readClause_28 : decode cX3_readClause 28 = .ok (.goto 4, 3) := by decide +kernel
theorem dX3_readClause_31 : decode cX3_readClause 31 = .ok (.iconst 0, 1) := by decide +kernel
theorem dX3_readClause_32 : decode cX3_readClause 32 = .ok (.ireturn, 1) := by decide +kernel
theorem dX3_readClause_33 : decode cX3_readClause 33 = .ok (.aload_n 0, 1) := by decide +kernel
theorem dX3_readClause_34 : decode cX3_readClause 34 = .ok (.bipush 115, 2) := by decide +kernel
theorem dX3_readClause_36 : decode cX3_readClause 36 = .ok (.invokevirtual 36, 3) := by decide +kernel
theorem dX3_readClause_39 : decode cX3_readClause 39 = .ok (.ifCond .ne 5, 3) := by decide +kernel
theorem dX3_readClause_42 : decode cX3_readClause 42 = .ok (.iconst 0, 1) := by decide +kernel
theorem dX3_readClause_43 : decode cX3_readClause 43 = .ok (.ireturn, 1) := by decide +kernel
theorem dX3_readClause_44 : decode cX3_readClause 44 = .ok (.aload_n 0, 1) := by decide +kernel
theorem dX3_readClause_45 : decode cX3_readClause 45 = .ok (.invokevirtual 40, 3) := by decide +kernel
theorem dX3_readClause_48 : decode cX3_readClause 48 = .ok (.bipush 108, 2) := by decide +kernel
theorem dX3_readClause_50 : decode cX3_readClause 50 = .ok (.if_icmp .ne 25, 3) := by decide +kernel
theorem dX3_readClause_53 : decode cX3_readClause 53 = .ok (.aload_n 0, 1) := by decide +kernel
theorem dX3_readClause_54 : decode cX3_readClause 54 = .ok (.ldc 54, 2) := by decide +kernel
theorem dX3_readClause_56 : decode cX3_readClause 56 = .ok (.invokevirtual 46, 3) := by decide +kernel
theorem dX3_readClause_59 : decode cX3_readClause 59 = .ok (.ifCond .eq 14, 3) := by decide +kernel
theorem dX3_readClause_62 : decode cX3_readClause 62 = .ok (.aload_n 0, 1) := by decide +kernel
theorem dX3_readClause_63 : decode cX3_readClause 63 = .ok (.invokevirtual 56, 3) := by decide +kernel
theorem dX3_readClause_66 : decode cX3_readClause 66 = .ok (.ifCond .eq 7, 3) := by decide +kernel
theorem dX3_readClause_69 : decode cX3_readClause 69 = .ok (.iconst 1, 1) := by decide +kernel
theorem dX3_readClause_70 : decode cX3_readClause 70 = .ok (.goto 4, 3) := by decide +kernel
theorem dX3_readClause_73 : decode cX3_readClause 73 = .ok (.iconst 0, 1) := by decide +kernel
theorem dX3_readClause_74 : decode cX3_readClause 74 = .ok (.ireturn, 1) := by decide +kernel
theorem dX3_readClause_75 : decode cX3_readClause 75 = .ok (.aload_n 0, 1) := by decide +kernel
theorem dX3_readClause_76 : decode cX3_readClause 76 = .ok (.ldc 59, 2) := by decide +kernel
theorem dX3_readClause_78 : decode cX3_readClause 78 = .ok (.invokevirtual 46, 3) := by decide +kernel
theorem dX3_readClause_81 : decode cX3_readClause 81 = .ok (.ifCond .eq 16, 3) := by decide +kernel
theorem dX3_readClause_84 : decode cX3_readClause 84 = .ok (.aload_n 0, 1) := by decide +kernel
theorem dX3_readClause_85 : decode cX3_readClause 85 = .ok (.bipush 10, 2) := by decide +kernel
theorem dX3_readClause_87 : decode cX3_readClause 87 = .ok (.invokevirtual 50, 3) := by decide +kernel
theorem dX3_readClause_90 : decode cX3_readClause 90 = .ok (.ifCond .eq 7, 3) := by decide +kernel
theorem dX3_readClause_93 : decode cX3_readClause 93 = .ok (.iconst 1, 1) := by decide +kernel
theorem dX3_readClause_94 : decode cX3_readClause 94 = .ok (.goto 4, 3) := by decide +kernel
theorem dX3_readClause_97 : decode cX3_readClause 97 = .ok (.iconst 0, 1) := by decide +kernel
theorem dX3_readClause_98 : decode cX3_readClause 98 = .ok (.ireturn, 1) := by decide +kernel
def f_X3_readClause (u : Mem) : Option (Int32 × Mem) := Option.bind (f_X3_next u) (fun r1 => (if r1 = (119 : Int32) then obind (f_X3_skipWord 0 u) (fun r15 u15 => (if r15 = 0 then some ((0 : Int32), u15) else obind (f_X3_readWarmth (9 : Int32) u15) (fun r17 u17 => (if r17 = 0 then some ((0 : Int32), u17) else some ((1 : Int32), u17))))) else obind (f_X3_skip (115 : Int32) u) (fun r3 u3 => (if r3 = 0 then some ((0 : Int32), u3) else Option.bind (f_X3_next u3) (fun r5 => (if r5 = (108 : Int32) then obind (f_X3_skipWord 1 u3) (fun r11 u11 => (if r11 = 0 then some ((0 : Int32), u11) else obind (f_X3_readSlope u11) (fun r13 u13 => (if r13 = 0 then some ((0 : Int32), u13) else some ((1 : Int32), u13))))) else obind (f_X3_skipWord 2 u3) (fun r7 u7 => (if r7 = 0 then some ((0 : Int32), u7) else obind (f_X3_readWarmth (10 : Int32) u7) (fun r9 u9 => (if r9 = 0 then some ((0 : Int32), u9) else some ((1 : Int32), u9)))))))))))
set_option maxHeartbeats 4000000 in
set_option maxRecDepth 100000 in
theorem k_X3_readClause (l : Launch) (D : gDt) (base : Nat) (Z : gZt) (u : Mem) (r : Int32) (u' : Mem) (hf : f_X3_readClause u = some (r, u')) : Met l yX3_readClause (gws yX3_readClause cX3_readClause 1 (some .boolean)) (gRm 28 0 0) (gPc D base Z u [.ref (base + 63)]) (gQi D base r u') 0 0 (gF base) := by
  refine Met.ofW (cc := cX3_readClause) (maxL := 1) (ret := some .boolean) (by decide) rfl ?_
  intro p e s m args below meth c s₁ B hml hv
  obtain ⟨rfl, C0, hG⟩ := g_enter B hml hv
  have hr := B.returns
  have C0 : gC p s m meth c _ cX3_readClause 1 RX3 D base Z := C0
  have hx := C0.1
  have hb := C0.2.1
  have hl := lv_entry ([.ref (base + 63)]) (n := 1) (Nat.le_of_ble_eq_true rfl)
  rw [lg_entry_eq]
  generalize (lg_sl ([.ref (base + 63)]) ++ List.replicate (1 - (lg_sl ([.ref (base + 63)])).length) Slot.unset).toArray = ls at hl ⊢
  have hl : lv_has ls 1 [(0, .ref (base + 63))] := hl
  obtain ⟨Q, hQ⟩ : ∃ Q, Q = MQ below (gQi D base r u') ([.ref (base + 63)] : List Value).toArray s 0 0 (gF base) := ⟨_, rfl⟩
  rw [← hQ]
  change W p l e (gRm 28 0 0) s m _ below meth c _ _ _ _ _ _
  unfold f_X3_readClause at hf
  refine lv_aload_n hx hb dX3_readClause_0 rfl (lv_at hl 0 rfl) ?_
  obtain ⟨r1, hc1, hf⟩ := pb_s hf
  refine g_doI0 hG (g_runV C0 hG (k_X3_next l D base Z u r1 hc1) m_X3_next v_X3_next w_463 (by decide) (g_recv C0 hG (L63 hG) rfl) rfl hl.1 rfl (Nat.le_of_ble_eq_true rfl) dX3_readClause_1 ⟨Nat.zero_le _, Nat.zero_le _⟩) (fun H locs hG hk => ?_)
  refine lv_bipush (v := (119 : Int32)) hx hb dX3_readClause_4 (by decide) ?_
  refine lv_icmp_ne (tgt := 33) hx hb dX3_readClause_6 (by decide) (fun c2 => ?_) (fun c2 => ?_)
  · have hf := gif_f c2 hf
    refine lv_aload_n hx hb dX3_readClause_33 rfl (lv_at hl 0 rfl) ?_
    refine lv_bipush (v := (115 : Int32)) hx hb dX3_readClause_34 (by decide) ?_
    obtain ⟨r3, u3, hc3, hf⟩ := obind_s hf
    refine g_doI0 hG (g_runV C0 hG (k_X3_skip l D base Z u (115 : Int32) r3 u3 hc3) m_X3_skip v_X3_skip w_520 (by decide) (g_recv C0 hG (L63 hG) rfl) rfl hl.1 rfl (Nat.le_of_ble_eq_true rfl) dX3_readClause_36 ⟨Nat.zero_le _, Nat.zero_le _⟩) (fun H locs hG hk => ?_)
    refine lv_if_ne (tgt := 44) hx hb dX3_readClause_39 (by decide) (fun c4 => ?_) (fun c4 => ?_)
    · have hf := gif_f c4 hf
      refine lv_aload_n hx hb dX3_readClause_44 rfl (lv_at hl 0 rfl) ?_
      obtain ⟨r5, hc5, hf⟩ := pb_s hf
      refine g_doI0 hG (g_runV C0 hG (k_X3_next l D base Z u3 r5 hc5) m_X3_next v_X3_next w_463 (by decide) (g_recv C0 hG (L63 hG) rfl) rfl hl.1 rfl (Nat.le_of_ble_eq_true rfl) dX3_readClause_45 ⟨Nat.zero_le _, Nat.zero_le _⟩) (fun H locs hG hk => ?_)
      refine lv_bipush (v := (108 : Int32)) hx hb dX3_readClause_48 (by decide) ?_
      refine lv_icmp_ne (tgt := 75) hx hb dX3_readClause_50 (by decide) (fun c6 => ?_) (fun c6 => ?_)
      · have hf := gif_f c6 hf
        refine lv_aload_n hx hb dX3_readClause_75 rfl (lv_at hl 0 rfl) ?_
        refine g_ldcS (i := 2) C0 rfl (by decide) rfl dX3_readClause_76 ?_
        obtain ⟨r7, u7, hc7, hf⟩ := obind_s hf
        refine g_doI0 hG (g_runV C0 hG (k_X3_skipWord l D base Z u3 2 r7 u7 (by decide) hc7) m_X3_skipWord v_X3_skipWord w_468 (by decide) (g_recv C0 hG (L63 hG) rfl) rfl hl.1 rfl (Nat.le_of_ble_eq_true rfl) dX3_readClause_78 ⟨Nat.zero_le _, Nat.zero_le _⟩) (fun H locs hG hk => ?_)
        refine lv_if_eq (tgt := 97) hx hb dX3_readClause_81 (by decide) (fun c8 => ?_) (fun c8 => ?_)
        · have hf := gif_t c8 hf
          refine lv_iconst (v := (0 : Int32)) hx hb dX3_readClause_97 (by decide) ?_
          obtain ⟨hr1, hu⟩ := gret_s hf
          subst hr1
          subst hu
          subst hQ
          exact g_zret C0 hG hr (by decide) dX3_readClause_98
        · have hf := gif_f c8 hf
          refine lv_aload_n hx hb dX3_readClause_84 rfl (lv_at hl 0 rfl) ?_
          refine lv_bipush (v := (10 : Int32)) hx hb dX3_readClause_85 (by decide) ?_
          obtain ⟨r9, u9, hc9, hf⟩ := obind_s hf
          refine g_doI0 hG (g_runV C0 hG (k_X3_readWarmth l D base Z u7 (10 : Int32) r9 u9 hc9) m_X3_readWarmth v_X3_readWarmth w_524 (by decide) (g_recv C0 hG (L63 hG) rfl) rfl hl.1 rfl (Nat.le_of_ble_eq_true rfl) dX3_readClause_87 ⟨Nat.zero_le _, Nat.zero_le _⟩) (fun H locs hG hk => ?_)
          refine lv_if_eq (tgt := 97) hx hb dX3_readClause_90 (by decide) (fun c10 => ?_) (fun c10 => ?_)
          · have hf := gif_t c10 hf
            refine lv_iconst (v := (0 : Int32)) hx hb dX3_readClause_97 (by decide) ?_
            obtain ⟨hr1, hu⟩ := gret_s hf
            subst hr1
            subst hu
            subst hQ
            exact g_zret C0 hG hr (by decide) dX3_readClause_98
          · have hf := gif_f c10 hf
            refine lv_iconst (v := (1 : Int32)) hx hb dX3_readClause_93 (by decide) ?_
            refine lv_goto (tgt := 98) hx hb dX3_readClause_94 (by decide) ?_
            obtain ⟨hr1, hu⟩ := gret_s hf
            subst hr1
            subst hu
            subst hQ
            exact g_zret C0 hG hr (by decide) dX3_readClause_98
      · have hf := gif_t c6 hf
        refine lv_aload_n hx hb dX3_readClause_53 rfl (lv_at hl 0 rfl) ?_
        refine g_ldcS (i := 1) C0 rfl (by decide) rfl dX3_readClause_54 ?_
        obtain ⟨r11, u11, hc11, hf⟩ := obind_s hf
        refine g_doI0 hG (g_runV C0 hG (k_X3_skipWord l D base Z u3 1 r11 u11 (by decide) hc11) m_X3_skipWord v_X3_skipWord w_468 (by decide) (g_recv C0 hG (L63 hG) rfl) rfl hl.1 rfl (Nat.le_of_ble_eq_true rfl) dX3_readClause_56 ⟨Nat.zero_le _, Nat.zero_le _⟩) (fun H locs hG hk => ?_)
        refine lv_if_eq (tgt := 73) hx hb dX3_readClause_59 (by decide) (fun c12 => ?_) (fun c12 => ?_)
        · have hf := gif_t c12 hf
          refine lv_iconst (v := (0 : Int32)) hx hb dX3_readClause_73 (by decide) ?_
          obtain ⟨hr1, hu⟩ := gret_s hf
          subst hr1
          subst hu
          subst hQ
          exact g_zret C0 hG hr (by decide) dX3_readClause_74
        · have hf := gif_f c12 hf
          refine lv_aload_n hx hb dX3_readClause_62 rfl (lv_at hl 0 rfl) ?_
          obtain ⟨r13, u13, hc13, hf⟩ := obind_s hf
          refine g_doI0 hG (g_runV C0 hG (k_X3_readSlope l D base Z u11 r13 u13 hc13) m_X3_readSlope v_X3_readSlope w_614 (by decide) (g_recv C0 hG (L63 hG) rfl) rfl hl.1 rfl (Nat.le_of_ble_eq_true rfl) dX3_readClause_63 ⟨Nat.zero_le _, Nat.zero_le _⟩) (fun H locs hG hk => ?_)
          refine lv_if_eq (tgt := 73) hx hb dX3_readClause_66 (by decide) (fun c14 => ?_) (fun c14 => ?_)
          · have hf := gif_t c14 hf
            refine lv_iconst (v := (0 : Int32)) hx hb dX3_readClause_73 (by decide) ?_
            obtain ⟨hr1, hu⟩ := gret_s hf
            subst hr1
            subst hu
            subst hQ
            exact g_zret C0 hG hr (by decide) dX3_readClause_74
          · have hf := gif_f c14 hf
            refine lv_iconst (v := (1 : Int32)) hx hb dX3_readClause_69 (by decide) ?_
            refine lv_goto (tgt := 74) hx hb dX3_readClause_70 (by decide) ?_
            obtain ⟨hr1, hu⟩ := gret_s hf
            subst hr1
            subst hu
            subst hQ
            exact g_zret C0 hG hr (by decide) dX3_readClause_74
    · have hf := gif_t c4 hf
      refine lv_iconst (v := (0 : Int32)) hx hb dX3_readClause_42 (by decide) ?_
      obtain ⟨hr1, hu⟩ := gret_s hf
      subst hr1
      subst hu
      subst hQ
      exact g_zret C0 hG hr (by decide) dX3_readClause_43
  · have hf := gif_t c2 hf
    refine lv_aload_n hx hb dX3_readClause_9 rfl (lv_at hl 0 rfl) ?_
    refine g_ldcS (i := 0) C0 rfl (by decide) rfl dX3_readClause_10 ?_
    obtain ⟨r15, u15, hc15, hf⟩ := obind_s hf
    refine g_doI0 hG (g_runV C0 hG (k_X3_skipWord l D base Z u 0 r15 u15 (by decide) hc15) m_X3_skipWord v_X3_skipWord w_468 (by decide) (g_recv C0 hG (L63 hG) rfl) rfl hl.1 rfl (Nat.le_of_ble_eq_true rfl) dX3_readClause_12 ⟨Nat.zero_le _, Nat.zero_le _⟩) (fun H locs hG hk => ?_)
    refine lv_if_eq (tgt := 31) hx hb dX3_readClause_15 (by decide) (fun c16 => ?_) (fun c16 => ?_)
    · have hf := gif_t c16 hf
      refine lv_iconst (v := (0 : Int32)) hx hb dX3_readClause_31 (by decide) ?_
      obtain ⟨hr1, hu⟩ := gret_s hf
      subst hr1
      subst hu
      subst hQ
      exact g_zret C0 hG hr (by decide) dX3_readClause_32
    · have hf := gif_f c16 hf
      refine lv_aload_n hx hb dX3_readClause_18 rfl (lv_at hl 0 rfl) ?_
      refine lv_bipush (v := (9 : Int32)) hx hb dX3_readClause_19 (by decide) ?_
      obtain ⟨r17, u17, hc17, hf⟩ := obind_s hf
      refine g_doI0 hG (g_runV C0 hG (k_X3_readWarmth l D base Z u15 (9 : Int32) r17 u17 hc17) m_X3_readWarmth v_X3_readWarmth w_524 (by decide) (g_recv C0 hG (L63 hG) rfl) rfl hl.1 rfl (Nat.le_of_ble_eq_true rfl) dX3_readClause_21 ⟨Nat.zero_le _, Nat.zero_le _⟩) (fun H locs hG hk => ?_)
      refine lv_if_eq (tgt := 31) hx hb dX3_readClause_24 (by decide) (fun c18 => ?_) (fun c18 => ?_)
      · have hf := gif_t c18 hf
        refine lv_iconst (v := (0 : Int32)) hx hb dX3_readClause_31 (by decide) ?_
        obtain ⟨hr1, hu⟩ := gret_s hf
        subst hr1
        subst hu
        subst hQ
        exact g_zret C0 hG hr (by decide) dX3_readClause_32
      · have hf := gif_f c18 hf
        refine lv_iconst (v := (1 : Int32)) hx hb dX3_readClause_27 (by decide) ?_
        refine lv_goto (tgt := 32) hx hb dX3_readClause_28 (by decide) ?_
        obtain ⟨hr1, hu⟩ := gret_s hf
        subst hr1
        subst hu
        subst hQ
        exact g_zret C0 hG hr (by decide) dX3_readClause_32
theorem dX3_readText_0 : decode cX3_readText 0 = .ok (.aload_n 0, 1) := by decide +kernel
theorem dX3_readText_1 : decode cX3_readText 1 = .ok (.iconst 0, 1) := by decide +kernel
theorem dX3_readText_2 : decode cX3_readText 2 = .ok (.putfield 19, 3) := by decide +kernel
theorem dX3_readText_5 : decode cX3_readText 5 = .ok (.aload_n 0, 1) := by decide +kernel
theorem dX3_readText_6 : decode cX3_readText 6 = .ok (.getfield 25, 3) := by decide +kernel
theorem dX3_readText_9 : decode cX3_readText 9 = .ok (.invokevirtual 29, 3) := by decide +kernel
theorem dX3_readText_12 : decode cX3_readText 12 = .ok (.iconst 1, 1) := by decide +kernel
theorem dX3_readText_13 : decode cX3_readText 13 = .ok (.istore_n 1, 1) := by decide +kernel
theorem dX3_readText_14 : decode cX3_readText 14 = .ok (.iload_n 1, 1) := by decide +kernel
theorem dX3_readText_15 : decode cX3_readText 15 = .ok (.bipush 10, 2) := by decide +kernel
theorem dX3_readText_17 : decode cX3_readText 17 = .ok (.if_icmp .gt 48, 3) := by decide +kernel
theorem dX3_readText_20 : decode cX3_readText 20 = .ok (.aload_n 0, 1) := by decide +kernel
theorem dX3_readText_21 : decode cX3_readText 21 = .ok (.invokevirtual 32, 3) := by decide +kernel
theorem dX3_readText_24 : decode cX3_readText 24 = .ok (.ifCond .ne 5, 3) := by decide +kernel
theorem dX3_readText_27 : decode cX3_readText 27 = .ok (.iconst 0, 1) := by decide +kernel
theorem dX3_readText_28 : decode cX3_readText 28 = .ok (.ireturn, 1) := by decide +kernel
theorem dX3_readText_29 : decode cX3_readText 29 = .ok (.aload_n 0, 1) := by decide +kernel
theorem dX3_readText_30 : decode cX3_readText 30 = .ok (.getfield 19, 3) := by decide +kernel
theorem dX3_readText_33 : decode cX3_readText 33 = .ok (.aload_n 0, 1) := by decide +kernel
theorem dX3_readText_34 : decode cX3_readText 34 = .ok (.getfield 15, 3) := by decide +kernel
theorem dX3_readText_37 : decode cX3_readText 37 = .ok (.if_icmp .ne 5, 3) := by decide +kernel
theorem dX3_readText_40 : decode cX3_readText 40 = .ok (.iconst 1, 1) := by decide +kernel
theorem dX3_readText_41 : decode cX3_readText 41 = .ok (.ireturn, 1) := by decide +kernel
theorem dX3_readText_42 : decode cX3_readText 42 = .ok (.iload_n 1, 1) := by decide +kernel
theorem dX3_readText_43 : decode cX3_readText 43 = .ok (.bipush 10, 2) := by decide +kernel
theorem dX3_readText_45 : decode cX3_readText 45 = .ok (.if_icmp .eq 12, 3) := by decide +kernel
theorem dX3_readText_48 : decode cX3_readText 48 = .ok (.aload_n 0, 1) := by decide +kernel
theorem dX3_readText_49 : decode cX3_readText 49 = .ok (.bipush 59, 2) := by decide +kernel
theorem dX3_readText_51 : decode cX3_readText 51 = .ok (.invokevirtual 36, 3) := by decide +kernel
theorem dX3_readText_54 : decode cX3_readText 54 = .ok (.ifCond .ne 5, 3) := by decide +kernel
theorem dX3_readText_57 : decode cX3_readText 57 = .ok (.iconst 0, 1) := by decide +kernel
theorem dX3_readText_58 : decode cX3_readText 58 = .ok (.ireturn, 1) := by decide +kernel
theorem dX3_readText_59 : decode cX3_readText 59 = .ok (.iinc 1 1, 3) := by decide +kernel
theorem dX3_readText_62 : decode cX3_readText 62 = .ok (.goto (-48), 3) := by decide +kernel
theorem dX3_readText_65 : decode cX3_readText 65 = .ok (.iconst 0, 1) := by decide +kernel
theorem dX3_readText_66 : decode cX3_readText 66 = .ok (.ireturn, 1) := by decide +kernel
def f_X3_readText_L14 (x1_3 : Int32) (u3 : Mem) : Option ((Int32 × Mem) ⊕ (Int32 × Mem)) := (if (10 : Int32) < x1_3 then some (Sum.inr ((0 : Int32), u3)) else obind (f_X3_readClause u3) (fun r5 u5 => (if r5 = 0 then some (Sum.inr ((0 : Int32), u5)) else (if (gI u5 63 2) = (gI u5 63 1) then some (Sum.inr ((1 : Int32), u5)) else (if x1_3 = (10 : Int32) then some (Sum.inr ((0 : Int32), u5)) else obind (f_X3_skip (59 : Int32) u5) (fun r9 u9 => (if r9 = 0 then some (Sum.inr ((0 : Int32), u9)) else some (Sum.inl (x1_3 + (1 : Int32), u9)))))))))
def f_X3_readText (u : Mem) : Option (Int32 × Mem) := gob (sI u 63 2 (0 : Int32)).1 (gR (sI u 63 2 (0 : Int32)) 63 3) l0 (obind (f_X0_clear (gR (sI u 63 2 (0 : Int32)) 63 3) (sI u 63 2 (0 : Int32))) (fun _ u2 => whileO (fun s => f_X3_readText_L14 s.1 s.2) FUEL ((1 : Int32), u2)))
set_option maxHeartbeats 4000000 in
set_option maxRecDepth 100000 in
theorem k_X3_readText (l : Launch) (D : gDt) (base : Nat) (Z : gZt) (u : Mem) (r : Int32) (u' : Mem) (hf : f_X3_readText u = some (r, u')) : Met l yX3_readText (gws yX3_readText cX3_readText 2 (some .boolean)) (gRm 29 0 0) (gPc D base Z u [.ref (base + 63)]) (gQi D base r u') 0 0 (gF base) := by
  refine Met.ofW (cc := cX3_readText) (maxL := 2) (ret := some .boolean) (by decide) rfl ?_
  intro p e s m args below meth c s₁ B hml hv
  obtain ⟨rfl, C0, hG⟩ := g_enter B hml hv
  have hr := B.returns
  have C0 : gC p s m meth c _ cX3_readText 2 RX3 D base Z := C0
  have hx := C0.1
  have hb := C0.2.1
  have hl := lv_entry ([.ref (base + 63)]) (n := 2) (Nat.le_of_ble_eq_true rfl)
  rw [lg_entry_eq]
  generalize (lg_sl ([.ref (base + 63)]) ++ List.replicate (2 - (lg_sl ([.ref (base + 63)])).length) Slot.unset).toArray = ls at hl ⊢
  have hl : lv_has ls 2 [(0, .ref (base + 63))] := hl
  obtain ⟨Q, hQ⟩ : ∃ Q, Q = MQ below (gQi D base r u') ([.ref (base + 63)] : List Value).toArray s 0 0 (gF base) := ⟨_, rfl⟩
  rw [← hQ]
  change W p l e (gRm 29 0 0) s m _ below meth c _ _ _ _ _ _
  unfold f_X3_readText at hf
  refine lv_aload_n hx hb dX3_readText_0 rfl (lv_at hl 0 rfl) ?_
  refine lv_iconst (v := (0 : Int32)) hx hb dX3_readText_1 (by decide) ?_
  refine g_putI (ty := .int) C0 hG (L63 hG) rfl 2 (by decide) rfl w_269 rfl (by decide) rfl rfl dX3_readText_2 (fun H locs hG => ?_)
  refine lv_aload_n hx hb dX3_readText_5 rfl (lv_at hl 0 rfl) ?_
  refine g_getD C0 hG (L63 hG) rfl 3 (by decide) rfl w_271 dX3_readText_6 ?_
  obtain ⟨ho1, hf⟩ := gob_s hf
  have hb1 := Nat.le_refl (sI u 63 2 (0 : Int32)).1
  obtain ⟨_, u2, hc2, hf⟩ := obind_s hf
  refine g_doV0 hG (g_runVN C0 hG (k_X0_clear l D base Z (sI u 63 2 (0 : Int32)) (gR (sI u 63 2 (0 : Int32)) 63 3) u2 (gok.mono ho1 hb1) hc2) m_X0_clear v_X0_clear w_455 (by decide) (g_recv C0 hG (D0_0 ho1 hb1) rfl) rfl hl.1 rfl (Nat.le_of_ble_eq_true rfl) dX3_readText_9 ⟨Nat.zero_le _, Nat.zero_le _⟩) (fun H locs hG hk => ?_)
  have hb1 := Nat.le_trans hb1 hk
  refine lv_iconst (v := (1 : Int32)) hx hb dX3_readText_12 (by decide) ?_
  refine lv_istore_n (lv' := [(1, .int (1 : Int32)), (0, .ref (base + 63))]) hx hb dX3_readText_13 rfl hl (by decide) rfl (fun ls hl => ?_)
  have loop3 : ∀ (n3 : Nat) (x1_3 : Int32) (u3 : Mem) (H : Heap) (locs : List Loc) (ls : Array Slot), gH D base s u3 H locs → (sI u 63 2 (0 : Int32)).1 ≤ u3.1 → lv_has ls 2 [(0, .ref (base + 63)), (1, .int x1_3)] → whileO (fun s => f_X3_readText_L14 s.1 s.2) n3 (x1_3, u3) = some (r, u') → W p l e (gRm 29 0 0) s m ([.ref (base + 63)] : List Value).toArray below meth c H locs 0 0 Q (F0 m 14 ls []) := by
    intro n3
    induction n3 with
    | zero => intro x1_3 u3 H locs ls hG hb1 hl hf; cases hf
    | succ n3 ih3 =>
      intro x1_3 u3 H locs ls hG hb1 hl hf
      obtain ⟨X3, hf, hX3⟩ := while_s hf
      have hf : f_X3_readText_L14 x1_3 u3 = some X3 := hf
      unfold f_X3_readText_L14 at hf
      refine lv_iload_n hx hb dX3_readText_14 rfl (lv_at hl 1 rfl) ?_
      refine lv_bipush (v := (10 : Int32)) hx hb dX3_readText_15 (by decide) ?_
      refine lv_icmp_gt (tgt := 65) hx hb dX3_readText_17 (by decide) (fun c4 => ?_) (fun c4 => ?_)
      · have hf := gif_t c4 hf
        refine lv_iconst (v := (0 : Int32)) hx hb dX3_readText_65 (by decide) ?_
        have hf := while_r hX3 hf
        obtain ⟨hr1, hu⟩ := gret_s hf
        subst hr1
        subst hu
        subst hQ
        exact g_zret C0 hG hr (by decide) dX3_readText_66
      · have hf := gif_f c4 hf
        refine lv_aload_n hx hb dX3_readText_20 rfl (lv_at hl 0 rfl) ?_
        obtain ⟨r5, u5, hc5, hf⟩ := obind_s hf
        refine g_doI0 hG (g_runV C0 hG (k_X3_readClause l D base Z u3 r5 u5 hc5) m_X3_readClause v_X3_readClause w_459 (by decide) (g_recv C0 hG (L63 hG) rfl) rfl hl.1 rfl (Nat.le_of_ble_eq_true rfl) dX3_readText_21 ⟨Nat.zero_le _, Nat.zero_le _⟩) (fun H locs hG hk => ?_)
        have hb1 := Nat.le_trans hb1 hk
        refine lv_if_ne (tgt := 29) hx hb dX3_readText_24 (by decide) (fun c6 => ?_) (fun c6 => ?_)
        · have hf := gif_f c6 hf
          refine lv_aload_n hx hb dX3_readText_29 rfl (lv_at hl 0 rfl) ?_
          refine g_getI C0 hG (L63 hG) rfl 2 (by decide) rfl w_269 dX3_readText_30 ?_
          refine lv_aload_n hx hb dX3_readText_33 rfl (lv_at hl 0 rfl) ?_
          refine g_getI C0 hG (L63 hG) rfl 1 (by decide) rfl w_267 dX3_readText_34 ?_
          refine lv_icmp_ne (tgt := 42) hx hb dX3_readText_37 (by decide) (fun c7 => ?_) (fun c7 => ?_)
          · have hf := gif_f c7 hf
            refine lv_iload_n hx hb dX3_readText_42 rfl (lv_at hl 1 rfl) ?_
            refine lv_bipush (v := (10 : Int32)) hx hb dX3_readText_43 (by decide) ?_
            refine lv_icmp_eq (tgt := 57) hx hb dX3_readText_45 (by decide) (fun c8 => ?_) (fun c8 => ?_)
            · have hf := gif_t c8 hf
              refine lv_iconst (v := (0 : Int32)) hx hb dX3_readText_57 (by decide) ?_
              have hf := while_r hX3 hf
              obtain ⟨hr1, hu⟩ := gret_s hf
              subst hr1
              subst hu
              subst hQ
              exact g_zret C0 hG hr (by decide) dX3_readText_58
            · have hf := gif_f c8 hf
              refine lv_aload_n hx hb dX3_readText_48 rfl (lv_at hl 0 rfl) ?_
              refine lv_bipush (v := (59 : Int32)) hx hb dX3_readText_49 (by decide) ?_
              obtain ⟨r9, u9, hc9, hf⟩ := obind_s hf
              refine g_doI0 hG (g_runV C0 hG (k_X3_skip l D base Z u5 (59 : Int32) r9 u9 hc9) m_X3_skip v_X3_skip w_520 (by decide) (g_recv C0 hG (L63 hG) rfl) rfl hl.1 rfl (Nat.le_of_ble_eq_true rfl) dX3_readText_51 ⟨Nat.zero_le _, Nat.zero_le _⟩) (fun H locs hG hk => ?_)
              have hb1 := Nat.le_trans hb1 hk
              refine lv_if_ne (tgt := 59) hx hb dX3_readText_54 (by decide) (fun c10 => ?_) (fun c10 => ?_)
              · have hf := gif_f c10 hf
                refine lv_iinc (v := x1_3 + (1 : Int32)) (lv' := [(1, .int (x1_3 + (1 : Int32))), (0, .ref (base + 63))]) hx hb dX3_readText_59 hl (k := 1) rfl rfl (by decide) rfl (fun ls hl => ?_)
                refine lv_goto (tgt := 14) hx hb dX3_readText_62 (by decide) ?_
                have hf := while_l hX3 hf
                exact ih3 (x1_3 + (1 : Int32)) u9 _ _ ls hG hb1 (lv_sub hl [1, 0] rfl) hf
              · have hf := gif_t c10 hf
                refine lv_iconst (v := (0 : Int32)) hx hb dX3_readText_57 (by decide) ?_
                have hf := while_r hX3 hf
                obtain ⟨hr1, hu⟩ := gret_s hf
                subst hr1
                subst hu
                subst hQ
                exact g_zret C0 hG hr (by decide) dX3_readText_58
          · have hf := gif_t c7 hf
            refine lv_iconst (v := (1 : Int32)) hx hb dX3_readText_40 (by decide) ?_
            have hf := while_r hX3 hf
            obtain ⟨hr1, hu⟩ := gret_s hf
            subst hr1
            subst hu
            subst hQ
            exact g_zret C0 hG hr (by decide) dX3_readText_41
        · have hf := gif_t c6 hf
          refine lv_iconst (v := (0 : Int32)) hx hb dX3_readText_27 (by decide) ?_
          have hf := while_r hX3 hf
          obtain ⟨hr1, hu⟩ := gret_s hf
          subst hr1
          subst hu
          subst hQ
          exact g_zret C0 hG hr (by decide) dX3_readText_28
  exact loop3 FUEL (1 : Int32) u2 _ _ ls hG hb1 (lv_sub hl [1, 0] rfl) hf
theorem dX7_isWithin_0 : decode cX7_isWithin 0 = .ok (.iload_n 0, 1) := by decide +kernel
theorem dX7_isWithin_1 : decode cX7_isWithin 1 = .ok (.ifCond .lt 12, 3) := by decide +kernel
theorem dX7_isWithin_4 : decode cX7_isWithin 4 = .ok (.iload_n 0, 1) := by decide +kernel
theorem dX7_isWithin_5 : decode cX7_isWithin 5 = .ok (.iload_n 1, 1) := by decide +kernel
theorem dX7_isWithin_6 : decode cX7_isWithin 6 = .ok (.if_icmp .ge 7, 3) := by decide +kernel
theorem dX7_isWithin_9 : decode cX7_isWithin 9 = .ok (.iconst 1, 1) := by decide +kernel
theorem dX7_isWithin_10 : decode cX7_isWithin 10 = .ok (.goto 4, 3) := by decide +kernel
theorem dX7_isWithin_13 : decode cX7_isWithin 13 = .ok (.iconst 0, 1) := by decide +kernel
theorem dX7_isWithin_14 : decode cX7_isWithin 14 = .ok (.ireturn, 1) := by decide +kernel
def f_X7_isWithin (p0 : Int32) (p1 : Int32) : Option (Int32) := (if p0 < 0 then some (0 : Int32) else (if p1 ≤ p0 then some (0 : Int32) else some (1 : Int32)))
set_option maxHeartbeats 4000000 in
set_option maxRecDepth 100000 in
theorem k_X7_isWithin (l : Launch) (D : gDt) (base : Nat) (Z : gZt) (u : Mem) (p0 : Int32) (p1 : Int32) (r : Int32) (hf : f_X7_isWithin p0 p1 = some r) : Met l yX7_isWithin (gws yX7_isWithin cX7_isWithin 2 (some .boolean)) (gRm 1 0 0) (gPc D base Z u [.int p0, .int p1]) (gQi D base r u) 0 0 (gF base) := by
  refine Met.ofW (cc := cX7_isWithin) (maxL := 2) (ret := some .boolean) (by decide) rfl ?_
  intro p e s m args below meth c s₁ B hml hv
  obtain ⟨rfl, C0, hG⟩ := g_enter B hml hv
  have hr := B.returns
  have C0 : gC p s m meth c _ cX7_isWithin 2 RX7 D base Z := C0
  have hx := C0.1
  have hb := C0.2.1
  have hl := lv_entry ([.int p0, .int p1]) (n := 2) (Nat.le_of_ble_eq_true rfl)
  rw [lg_entry_eq]
  generalize (lg_sl ([.int p0, .int p1]) ++ List.replicate (2 - (lg_sl ([.int p0, .int p1])).length) Slot.unset).toArray = ls at hl ⊢
  have hl : lv_has ls 2 [(0, .int p0), (1, .int p1)] := hl
  obtain ⟨Q, hQ⟩ : ∃ Q, Q = MQ below (gQi D base r u) ([.int p0, .int p1] : List Value).toArray s 0 0 (gF base) := ⟨_, rfl⟩
  rw [← hQ]
  change W p l e (gRm 1 0 0) s m _ below meth c _ _ _ _ _ _
  unfold f_X7_isWithin at hf
  refine lv_iload_n hx hb dX7_isWithin_0 rfl (lv_at hl 0 rfl) ?_
  refine lv_if_lt (tgt := 13) hx hb dX7_isWithin_1 (by decide) (fun c1 => ?_) (fun c1 => ?_)
  · have hf := gif_t c1 hf
    refine lv_iconst (v := (0 : Int32)) hx hb dX7_isWithin_13 (by decide) ?_
    have hf := Option.some.inj hf
    subst hf
    subst hQ
    exact g_zret C0 hG hr (by decide) dX7_isWithin_14
  · have hf := gif_f c1 hf
    refine lv_iload_n hx hb dX7_isWithin_4 rfl (lv_at hl 0 rfl) ?_
    refine lv_iload_n hx hb dX7_isWithin_5 rfl (lv_at hl 1 rfl) ?_
    refine lv_icmp_ge (tgt := 13) hx hb dX7_isWithin_6 (by decide) (fun c2 => ?_) (fun c2 => ?_)
    · have hf := gif_t c2 hf
      refine lv_iconst (v := (0 : Int32)) hx hb dX7_isWithin_13 (by decide) ?_
      have hf := Option.some.inj hf
      subst hf
      subst hQ
      exact g_zret C0 hG hr (by decide) dX7_isWithin_14
    · have hf := gif_f c2 hf
      refine lv_iconst (v := (1 : Int32)) hx hb dX7_isWithin_9 (by decide) ?_
      refine lv_goto (tgt := 14) hx hb dX7_isWithin_10 (by decide) ?_
      have hf := Option.some.inj hf
      subst hf
      subst hQ
      exact g_zret C0 hG hr (by decide) dX7_isWithin_14
theorem dX4_ownerOf_0 : decode cX4_ownerOf 0 = .ok (.iload_n 0, 1) := by decide +kernel
theorem dX4_ownerOf_1 : decode cX4_ownerOf 1 = .ok (.istore_n 2, 1) := by decide +kernel
theorem dX4_ownerOf_2 : decode cX4_ownerOf 2 = .ok (.iconst 0, 1) := by decide +kernel
theorem dX4_ownerOf_3 : decode cX4_ownerOf 3 = .ok (.istore_n 3, 1) := by decide +kernel
theorem dX4_ownerOf_4 : decode cX4_ownerOf 4 = .ok (.iload_n 3, 1) := by decide +kernel
theorem dX4_ownerOf_5 : decode cX4_ownerOf 5 = .ok (.bipush 7, 2) := by decide +kernel
theorem dX4_ownerOf_7 : decode cX4_ownerOf 7 = .ok (.if_icmp .ge 46, 3) := by decide +kernel
theorem dX4_ownerOf_10 : decode cX4_ownerOf 10 = .ok (.iload_n 2, 1) := by decide +kernel
theorem dX4_ownerOf_11 : decode cX4_ownerOf 11 = .ok (.bipush 7, 2) := by decide +kernel
theorem dX4_ownerOf_13 : decode cX4_ownerOf 13 = .ok (.invokestatic 45, 3) := by decide +kernel
theorem dX4_ownerOf_16 : decode cX4_ownerOf 16 = .ok (.ifCond .eq 37, 3) := by decide +kernel
theorem dX4_ownerOf_19 : decode cX4_ownerOf 19 = .ok (.iload_n 1, 1) := by decide +kernel
theorem dX4_ownerOf_20 : decode cX4_ownerOf 20 = .ok (.iconst 3, 1) := by decide +kernel
theorem dX4_ownerOf_21 : decode cX4_ownerOf 21 = .ok (.invokestatic 45, 3) := by decide +kernel
theorem dX4_ownerOf_24 : decode cX4_ownerOf 24 = .ok (.ifCond .eq 29, 3) := by decide +kernel
theorem dX4_ownerOf_27 : decode cX4_ownerOf 27 = .ok (.getstatic 32, 3) := by decide +kernel
theorem dX4_ownerOf_30 : decode cX4_ownerOf 30 = .ok (.iload_n 2, 1) := by decide +kernel
theorem dX4_ownerOf_31 : decode cX4_ownerOf 31 = .ok (.iconst 3, 1) := by decide +kernel
theorem dX4_ownerOf_32 : decode cX4_ownerOf 32 = .ok (.imul, 1) := by decide +kernel
theorem dX4_ownerOf_33 : decode cX4_ownerOf 33 = .ok (.iload_n 1, 1) := by decide +kernel
theorem dX4_ownerOf_34 : decode cX4_ownerOf 34 = .ok (.iadd, 1) := by decide +kernel
theorem dX4_ownerOf_35 : decode cX4_ownerOf 35 = .ok (.iaload, 1) := by decide +kernel
theorem dX4_ownerOf_36 : decode cX4_ownerOf 36 = .ok (.ifCond .eq 5, 3) := by decide +kernel
theorem dX4_ownerOf_39 : decode cX4_ownerOf 39 = .ok (.iload_n 2, 1) := by decide +kernel
theorem dX4_ownerOf_40 : decode cX4_ownerOf 40 = .ok (.ireturn, 1) := by decide +kernel
theorem dX4_ownerOf_41 : decode cX4_ownerOf 41 = .ok (.getstatic 35, 3) := by decide +kernel
theorem dX4_ownerOf_44 : decode cX4_ownerOf 44 = .ok (.iload_n 2, 1) := by decide +kernel
theorem dX4_ownerOf_45 : decode cX4_ownerOf 45 = .ok (.iaload, 1) := by decide +kernel
theorem dX4_ownerOf_46 : decode cX4_ownerOf 46 = .ok (.istore_n 2, 1) := by decide +kernel
theorem dX4_ownerOf_47 : decode cX4_ownerOf 47 = .ok (.iinc 3 1, 3) := by decide +kernel
theorem dX4_ownerOf_50 : decode cX4_ownerOf 50 = .ok (.goto (-46), 3) := by decide +kernel
theorem dX4_ownerOf_53 : decode cX4_ownerOf 53 = .ok (.iconst (-1), 1) := by decide +kernel
theorem dX4_ownerOf_54 : decode cX4_ownerOf 54 = .ok (.ireturn, 1) := by decide +kernel
def f_X4_ownerOf_L4 (p1 : Int32) (x2_1 : Int32) (x3_1 : Int32) : Option ((Int32 × Int32) ⊕ Int32) := (if (7 : Int32) ≤ x3_1 then some (Sum.inr (-1 : Int32)) else Option.bind (f_X7_isWithin x2_1 (7 : Int32)) (fun r3 => (if r3 = 0 then some (Sum.inr (-1 : Int32)) else Option.bind (f_X7_isWithin p1 (3 : Int32)) (fun r5 => (if r5 = 0 then some (Sum.inr (-1 : Int32)) else gin ((x2_1 * (3 : Int32)) + p1) 21 ((if (tBO.getD ((x2_1 * (3 : Int32)) + p1).toNatClampNeg 0) = 0 then gin x2_1 7 (some (Sum.inl (tKA.getD x2_1.toNatClampNeg 0, x3_1 + (1 : Int32)))) else some (Sum.inr (x2_1)))))))))
def f_X4_ownerOf (p0 : Int32) (p1 : Int32) (u : Mem) : Option (Int32) := whileO (fun s => f_X4_ownerOf_L4 p1 s.1 s.2) FUEL (p0, (0 : Int32))
set_option maxHeartbeats 4000000 in
set_option maxRecDepth 100000 in
theorem k_X4_ownerOf (l : Launch) (D : gDt) (base : Nat) (Z : gZt) (u : Mem) (p0 : Int32) (p1 : Int32) (r : Int32) (hf : f_X4_ownerOf p0 p1 u = some r) : Met l yX4_ownerOf (gws yX4_ownerOf cX4_ownerOf 4 (some .int)) (gRm 2 0 0) (gPc D base Z u [.int p0, .int p1]) (gQi D base r u) 0 0 (gF base) := by
  refine Met.ofW (cc := cX4_ownerOf) (maxL := 4) (ret := some .int) (by decide) rfl ?_
  intro p e s m args below meth c s₁ B hml hv
  obtain ⟨rfl, C0, hG⟩ := g_enter B hml hv
  have hr := B.returns
  have C0 : gC p s m meth c _ cX4_ownerOf 4 RX4 D base Z := C0
  have hx := C0.1
  have hb := C0.2.1
  have hl := lv_entry ([.int p0, .int p1]) (n := 4) (Nat.le_of_ble_eq_true rfl)
  rw [lg_entry_eq]
  generalize (lg_sl ([.int p0, .int p1]) ++ List.replicate (4 - (lg_sl ([.int p0, .int p1])).length) Slot.unset).toArray = ls at hl ⊢
  have hl : lv_has ls 4 [(0, .int p0), (1, .int p1)] := hl
  obtain ⟨Q, hQ⟩ : ∃ Q, Q = MQ below (gQi D base r u) ([.int p0, .int p1] : List Value).toArray s 0 0 (gF base) := ⟨_, rfl⟩
  rw [← hQ]
  change W p l e (gRm 2 0 0) s m _ below meth c _ _ _ _ _ _
  unfold f_X4_ownerOf at hf
  refine lv_iload_n hx hb dX4_ownerOf_0 rfl (lv_at hl 0 rfl) ?_
  refine lv_istore_n (lv' := [(2, .int p0), (0, .int p0), (1, .int p1)]) hx hb dX4_ownerOf_1 rfl hl (by decide) rfl (fun ls hl => ?_)
  refine lv_iconst (v := (0 : Int32)) hx hb dX4_ownerOf_2 (by decide) ?_
  refine lv_istore_n (lv' := [(3, .int (0 : Int32)), (2, .int p0), (0, .int p0), (1, .int p1)]) hx hb dX4_ownerOf_3 rfl hl (by decide) rfl (fun ls hl => ?_)
  have loop1 : ∀ (n1 : Nat) (x2_1 : Int32) (x3_1 : Int32) (H : Heap) (locs : List Loc) (ls : Array Slot), gH D base s u H locs → lv_has ls 4 [(1, .int p1), (2, .int x2_1), (3, .int x3_1)] → whileO (fun s => f_X4_ownerOf_L4 p1 s.1 s.2) n1 (x2_1, x3_1) = some r → W p l e (gRm 2 0 0) s m ([.int p0, .int p1] : List Value).toArray below meth c H locs 0 0 Q (F0 m 4 ls []) := by
    intro n1
    induction n1 with
    | zero => intro x2_1 x3_1 H locs ls hG hl hf; cases hf
    | succ n1 ih1 =>
      intro x2_1 x3_1 H locs ls hG hl hf
      obtain ⟨X1, hf, hX1⟩ := while_s hf
      have hf : f_X4_ownerOf_L4 p1 x2_1 x3_1 = some X1 := hf
      unfold f_X4_ownerOf_L4 at hf
      refine lv_iload_n hx hb dX4_ownerOf_4 rfl (lv_at hl 2 rfl) ?_
      refine lv_bipush (v := (7 : Int32)) hx hb dX4_ownerOf_5 (by decide) ?_
      refine lv_icmp_ge (tgt := 53) hx hb dX4_ownerOf_7 (by decide) (fun c2 => ?_) (fun c2 => ?_)
      · have hf := gif_t c2 hf
        refine lv_iconst (v := (-1 : Int32)) hx hb dX4_ownerOf_53 (by decide) ?_
        have hf := while_r hX1 hf
        have hf := Option.some.inj hf
        subst hf
        subst hQ
        exact g_iret C0 hG hr dX4_ownerOf_54
      · have hf := gif_f c2 hf
        refine lv_iload_n hx hb dX4_ownerOf_10 rfl (lv_at hl 1 rfl) ?_
        refine lv_bipush (v := (7 : Int32)) hx hb dX4_ownerOf_11 (by decide) ?_
        obtain ⟨r3, hc3, hf⟩ := pb_s hf
        refine g_doI0 hG (g_runSN C0 hG (k_X7_isWithin l D base Z u x2_1 (7 : Int32) r3 hc3) m_X7_isWithin s_X7_isWithin w_786 (by decide) rfl hl.1 rfl (Nat.le_of_ble_eq_true rfl) dX4_ownerOf_13 ⟨Nat.zero_le _, Nat.zero_le _⟩) (fun H locs hG hk => ?_)
        refine lv_if_eq (tgt := 53) hx hb dX4_ownerOf_16 (by decide) (fun c4 => ?_) (fun c4 => ?_)
        · have hf := gif_t c4 hf
          refine lv_iconst (v := (-1 : Int32)) hx hb dX4_ownerOf_53 (by decide) ?_
          have hf := while_r hX1 hf
          have hf := Option.some.inj hf
          subst hf
          subst hQ
          exact g_iret C0 hG hr dX4_ownerOf_54
        · have hf := gif_f c4 hf
          refine lv_iload_n hx hb dX4_ownerOf_19 rfl (lv_at hl 0 rfl) ?_
          refine lv_iconst (v := (3 : Int32)) hx hb dX4_ownerOf_20 (by decide) ?_
          obtain ⟨r5, hc5, hf⟩ := pb_s hf
          refine g_doI0 hG (g_runSN C0 hG (k_X7_isWithin l D base Z u p1 (3 : Int32) r5 hc5) m_X7_isWithin s_X7_isWithin w_786 (by decide) rfl hl.1 rfl (Nat.le_of_ble_eq_true rfl) dX4_ownerOf_21 ⟨Nat.zero_le _, Nat.zero_le _⟩) (fun H locs hG hk => ?_)
          refine lv_if_eq (tgt := 53) hx hb dX4_ownerOf_24 (by decide) (fun c6 => ?_) (fun c6 => ?_)
          · have hf := gif_t c6 hf
            refine lv_iconst (v := (-1 : Int32)) hx hb dX4_ownerOf_53 (by decide) ?_
            have hf := while_r hX1 hf
            have hf := Option.some.inj hf
            subst hf
            subst hQ
            exact g_iret C0 hG hr dX4_ownerOf_54
          · have hf := gif_f c6 hf
            refine g_sBON C0 hG w_787 dX4_ownerOf_27 ?_
            refine lv_iload_n hx hb dX4_ownerOf_30 rfl (lv_at hl 1 rfl) ?_
            refine lv_iconst (v := (3 : Int32)) hx hb dX4_ownerOf_31 (by decide) ?_
            refine lv_imul hx hb dX4_ownerOf_32 ?_
            refine lv_iload_n hx hb dX4_ownerOf_33 rfl (lv_at hl 0 rfl) ?_
            refine lv_iadd hx hb dX4_ownerOf_34 ?_
            obtain ⟨h7, hf⟩ := gin_s hf
            refine g_tBO C0 hG h7 dX4_ownerOf_35 ?_
            refine lv_if_eq (tgt := 41) hx hb dX4_ownerOf_36 (by decide) (fun c8 => ?_) (fun c8 => ?_)
            · have hf := gif_t c8 hf
              refine g_sKAN C0 hG w_789 dX4_ownerOf_41 ?_
              refine lv_iload_n hx hb dX4_ownerOf_44 rfl (lv_at hl 1 rfl) ?_
              obtain ⟨h9, hf⟩ := gin_s hf
              refine g_tKA C0 hG h9 dX4_ownerOf_45 ?_
              refine lv_istore_n (lv' := [(2, .int (tKA.getD x2_1.toNatClampNeg 0)), (1, .int p1), (3, .int x3_1)]) hx hb dX4_ownerOf_46 rfl hl (by decide) rfl (fun ls hl => ?_)
              refine lv_iinc (v := x3_1 + (1 : Int32)) (lv' := [(3, .int (x3_1 + (1 : Int32))), (2, .int (tKA.getD x2_1.toNatClampNeg 0)), (1, .int p1)]) hx hb dX4_ownerOf_47 hl (k := 2) rfl rfl (by decide) rfl (fun ls hl => ?_)
              refine lv_goto (tgt := 4) hx hb dX4_ownerOf_50 (by decide) ?_
              have hf := while_l hX1 hf
              exact ih1 (tKA.getD x2_1.toNatClampNeg 0) (x3_1 + (1 : Int32)) _ _ ls hG (lv_sub hl [2, 1, 0] rfl) hf
            · have hf := gif_f c8 hf
              refine lv_iload_n hx hb dX4_ownerOf_39 rfl (lv_at hl 1 rfl) ?_
              have hf := while_r hX1 hf
              have hf := Option.some.inj hf
              subst hf
              subst hQ
              exact g_iret C0 hG hr dX4_ownerOf_40
  exact loop1 FUEL p0 (0 : Int32) _ _ ls hG (lv_sub hl [3, 1, 0] rfl) hf
theorem dX4_play_0 : decode cX4_play 0 = .ok (.iload_n 1, 1) := by decide +kernel
theorem dX4_play_1 : decode cX4_play 1 = .ok (.iload_n 2, 1) := by decide +kernel
theorem dX4_play_2 : decode cX4_play 2 = .ok (.invokestatic 28, 3) := by decide +kernel
theorem dX4_play_5 : decode cX4_play 5 = .ok (.istore 5, 2) := by decide +kernel
theorem dX4_play_7 : decode cX4_play 7 = .ok (.iload 5, 2) := by decide +kernel
theorem dX4_play_9 : decode cX4_play 9 = .ok (.ifCond .lt 10, 3) := by decide +kernel
theorem dX4_play_12 : decode cX4_play 12 = .ok (.iload 4, 2) := by decide +kernel
theorem dX4_play_14 : decode cX4_play 14 = .ok (.bipush 20, 2) := by decide +kernel
theorem dX4_play_16 : decode cX4_play 16 = .ok (.if_icmp .le 5, 3) := by decide +kernel
theorem dX4_play_19 : decode cX4_play 19 = .ok (.iconst 0, 1) := by decide +kernel
theorem dX4_play_20 : decode cX4_play 20 = .ok (.ireturn, 1) := by decide +kernel
theorem dX4_play_21 : decode cX4_play 21 = .ok (.getstatic 32, 3) := by decide +kernel
theorem dX4_play_24 : decode cX4_play 24 = .ok (.iload 5, 2) := by decide +kernel
theorem dX4_play_26 : decode cX4_play 26 = .ok (.iconst 3, 1) := by decide +kernel
theorem dX4_play_27 : decode cX4_play 27 = .ok (.imul, 1) := by decide +kernel
theorem dX4_play_28 : decode cX4_play 28 = .ok (.iload_n 2, 1) := by decide +kernel
theorem dX4_play_29 : decode cX4_play 29 = .ok (.iadd, 1) := by decide +kernel
theorem dX4_play_30 : decode cX4_play 30 = .ok (.iaload, 1) := by decide +kernel
theorem dX4_play_31 : decode cX4_play 31 = .ok (.istore 6, 2) := by decide +kernel
theorem dX4_play_33 : decode cX4_play 33 = .ok (.aload_n 0, 1) := by decide +kernel
theorem dX4_play_34 : decode cX4_play 34 = .ok (.getfield 15, 3) := by decide +kernel
theorem dX4_play_37 : decode cX4_play 37 = .ok (.bipush 20, 2) := by decide +kernel
theorem dX4_play_39 : decode cX4_play 39 = .ok (.if_icmp .ge 14, 3) := by decide +kernel
theorem dX4_play_42 : decode cX4_play 42 = .ok (.aload_n 0, 1) := by decide +kernel
theorem dX4_play_43 : decode cX4_play 43 = .ok (.getfield 9, 3) := by decide +kernel
theorem dX4_play_46 : decode cX4_play 46 = .ok (.aload_n 0, 1) := by decide +kernel
theorem dX4_play_47 : decode cX4_play 47 = .ok (.getfield 15, 3) := by decide +kernel
theorem dX4_play_50 : decode cX4_play 50 = .ok (.iload 6, 2) := by decide +kernel
theorem dX4_play_52 : decode cX4_play 52 = .ok (.iastore, 1) := by decide +kernel
theorem dX4_play_53 : decode cX4_play 53 = .ok (.aload_n 0, 1) := by decide +kernel
theorem dX4_play_54 : decode cX4_play 54 = .ok (.dup, 1) := by decide +kernel
theorem dX4_play_55 : decode cX4_play 55 = .ok (.getfield 15, 3) := by decide +kernel
theorem dX4_play_58 : decode cX4_play 58 = .ok (.iconst 1, 1) := by decide +kernel
theorem dX4_play_59 : decode cX4_play 59 = .ok (.iadd, 1) := by decide +kernel
theorem dX4_play_60 : decode cX4_play 60 = .ok (.putfield 15, 3) := by decide +kernel
theorem dX4_play_63 : decode cX4_play 63 = .ok (.aload_n 0, 1) := by decide +kernel
theorem dX4_play_64 : decode cX4_play 64 = .ok (.iload 6, 2) := by decide +kernel
theorem dX4_play_66 : decode cX4_play 66 = .ok (.getstatic 35, 3) := by decide +kernel
theorem dX4_play_69 : decode cX4_play 69 = .ok (.iload 5, 2) := by decide +kernel
theorem dX4_play_71 : decode cX4_play 71 = .ok (.iaload, 1) := by decide +kernel
theorem dX4_play_72 : decode cX4_play 72 = .ok (.iload_n 3, 1) := by decide +kernel
theorem dX4_play_73 : decode cX4_play 73 = .ok (.iload 4, 2) := by decide +kernel
theorem dX4_play_75 : decode cX4_play 75 = .ok (.iconst 1, 1) := by decide +kernel
theorem dX4_play_76 : decode cX4_play 76 = .ok (.iadd, 1) := by decide +kernel
theorem dX4_play_77 : decode cX4_play 77 = .ok (.invokevirtual 38, 3) := by decide +kernel
theorem dX4_play_80 : decode cX4_play 80 = .ok (.ireturn, 1) := by decide +kernel
theorem dX4_run_0 : decode cX4_run 0 = .ok (.iload_n 1, 1) := by decide +kernel
theorem dX4_run_1 : decode cX4_run 1 = .ok (.lookupswitch 260 #[(10, 99), (11, 106), (12, 124), (20, 139), (30, 152), (40, 164), (50, 187), (51, 198), (60, 210), (70, 225), (71, 245)], 99) := by decide +kernel
theorem dX4_run_100 : decode cX4_run 100 = .ok (.iload_n 3, 1) := by decide +kernel
theorem dX4_run_101 : decode cX4_run 101 = .ok (.aload_n 0, 1) := by decide +kernel
theorem dX4_run_102 : decode cX4_run 102 = .ok (.getfield 19, 3) := by decide +kernel
theorem dX4_run_105 : decode cX4_run 105 = .ok (.iadd, 1) := by decide +kernel
theorem dX4_run_106 : decode cX4_run 106 = .ok (.ireturn, 1) := by decide +kernel
theorem dX4_run_107 : decode cX4_run 107 = .ok (.aload_n 0, 1) := by decide +kernel
theorem dX4_run_108 : decode cX4_run 108 = .ok (.aload_n 0, 1) := by decide +kernel
theorem dX4_run_109 : decode cX4_run 109 = .ok (.getfield 22, 3) := by decide +kernel
theorem dX4_run_112 : decode cX4_run 112 = .ok (.iconst 0, 1) := by decide +kernel
theorem dX4_run_113 : decode cX4_run 113 = .ok (.iload_n 3, 1) := by decide +kernel
theorem dX4_run_114 : decode cX4_run 114 = .ok (.iload 4, 2) := by decide +kernel
theorem dX4_run_116 : decode cX4_run 116 = .ok (.invokevirtual 42, 3) := by decide +kernel
theorem dX4_run_119 : decode cX4_run 119 = .ok (.aload_n 0, 1) := by decide +kernel
theorem dX4_run_120 : decode cX4_run 120 = .ok (.getfield 25, 3) := by decide +kernel
theorem dX4_run_123 : decode cX4_run 123 = .ok (.isub, 1) := by decide +kernel
theorem dX4_run_124 : decode cX4_run 124 = .ok (.ireturn, 1) := by decide +kernel
theorem dX4_run_125 : decode cX4_run 125 = .ok (.aload_n 0, 1) := by decide +kernel
theorem dX4_run_126 : decode cX4_run 126 = .ok (.aload_n 0, 1) := by decide +kernel
theorem dX4_run_127 : decode cX4_run 127 = .ok (.getfield 22, 3) := by decide +kernel
theorem dX4_run_130 : decode cX4_run 130 = .ok (.iconst 1, 1) := by decide +kernel
theorem dX4_run_131 : decode cX4_run 131 = .ok (.iload_n 3, 1) := by decide +kernel
theorem dX4_run_132 : decode cX4_run 132 = .ok (.iload 4, 2) := by decide +kernel
theorem dX4_run_134 : decode cX4_run 134 = .ok (.invokevirtual 42, 3) := by decide +kernel
theorem dX4_run_137 : decode cX4_run 137 = .ok (.iconst 2, 1) := by decide +kernel
theorem dX4_run_138 : decode cX4_run 138 = .ok (.imul, 1) := by decide +kernel
theorem dX4_run_139 : decode cX4_run 139 = .ok (.ireturn, 1) := by decide +kernel
theorem dX4_run_140 : decode cX4_run 140 = .ok (.aload_n 0, 1) := by decide +kernel
theorem dX4_run_141 : decode cX4_run 141 = .ok (.iload_n 2, 1) := by decide +kernel
theorem dX4_run_142 : decode cX4_run 142 = .ok (.iconst 1, 1) := by decide +kernel
theorem dX4_run_143 : decode cX4_run 143 = .ok (.iload_n 3, 1) := by decide +kernel
theorem dX4_run_144 : decode cX4_run 144 = .ok (.iload 4, 2) := by decide +kernel
theorem dX4_run_146 : decode cX4_run 146 = .ok (.invokevirtual 42, 3) := by decide +kernel
theorem dX4_run_149 : decode cX4_run 149 = .ok (.bipush 6, 2) := by decide +kernel
theorem dX4_run_151 : decode cX4_run 151 = .ok (.ixor, 1) := by decide +kernel
theorem dX4_run_152 : decode cX4_run 152 = .ok (.ireturn, 1) := by decide +kernel
theorem dX4_run_153 : decode cX4_run 153 = .ok (.aload_n 0, 1) := by decide +kernel
theorem dX4_run_154 : decode cX4_run 154 = .ok (.iload_n 2, 1) := by decide +kernel
theorem dX4_run_155 : decode cX4_run 155 = .ok (.iconst 0, 1) := by decide +kernel
theorem dX4_run_156 : decode cX4_run 156 = .ok (.iload_n 3, 1) := by decide +kernel
theorem dX4_run_157 : decode cX4_run 157 = .ok (.iconst 3, 1) := by decide +kernel
theorem dX4_run_158 : decode cX4_run 158 = .ok (.imul, 1) := by decide +kernel
theorem dX4_run_159 : decode cX4_run 159 = .ok (.iload 4, 2) := by decide +kernel
theorem dX4_run_161 : decode cX4_run 161 = .ok (.invokevirtual 42, 3) := by decide +kernel
theorem dX4_run_164 : decode cX4_run 164 = .ok (.ireturn, 1) := by decide +kernel
theorem dX4_run_165 : decode cX4_run 165 = .ok (.aload_n 0, 1) := by decide +kernel
theorem dX4_run_166 : decode cX4_run 166 = .ok (.iload_n 2, 1) := by decide +kernel
theorem dX4_run_167 : decode cX4_run 167 = .ok (.iconst 2, 1) := by decide +kernel
theorem dX4_run_168 : decode cX4_run 168 = .ok (.iload_n 3, 1) := by decide +kernel
theorem dX4_run_169 : decode cX4_run 169 = .ok (.iload 4, 2) := by decide +kernel
theorem dX4_run_171 : decode cX4_run 171 = .ok (.invokevirtual 42, 3) := by decide +kernel
theorem dX4_run_174 : decode cX4_run 174 = .ok (.aload_n 0, 1) := by decide +kernel
theorem dX4_run_175 : decode cX4_run 175 = .ok (.aload_n 0, 1) := by decide +kernel
theorem dX4_run_176 : decode cX4_run 176 = .ok (.getfield 22, 3) := by decide +kernel
theorem dX4_run_179 : decode cX4_run 179 = .ok (.iconst 1, 1) := by decide +kernel
theorem dX4_run_180 : decode cX4_run 180 = .ok (.iconst 1, 1) := by decide +kernel
theorem dX4_run_181 : decode cX4_run 181 = .ok (.iload 4, 2) := by decide +kernel
theorem dX4_run_183 : decode cX4_run 183 = .ok (.invokevirtual 42, 3) := by decide +kernel
theorem dX4_run_186 : decode cX4_run 186 = .ok (.iadd, 1) := by decide +kernel
theorem dX4_run_187 : decode cX4_run 187 = .ok (.ireturn, 1) := by decide +kernel
theorem dX4_run_188 : decode cX4_run 188 = .ok (.aload_n 0, 1) := by decide +kernel
theorem dX4_run_189 : decode cX4_run 189 = .ok (.iload_n 2, 1) := by decide +kernel
theorem dX4_run_190 : decode cX4_run 190 = .ok (.iconst 0, 1) := by decide +kernel
theorem dX4_run_191 : decode cX4_run 191 = .ok (.iload_n 3, 1) := by decide +kernel
theorem dX4_run_192 : decode cX4_run 192 = .ok (.iload 4, 2) := by decide +kernel
theorem dX4_run_194 : decode cX4_run 194 = .ok (.invokevirtual 42, 3) := by decide +kernel
theorem dX4_run_197 : decode cX4_run 197 = .ok (.ineg, 1) := by decide +kernel
theorem dX4_run_198 : decode cX4_run 198 = .ok (.ireturn, 1) := by decide +kernel
theorem dX4_run_199 : decode cX4_run 199 = .ok (.aload_n 0, 1) := by decide +kernel
theorem dX4_run_200 : decode cX4_run 200 = .ok (.iload_n 2, 1) := by decide +kernel
theorem dX4_run_201 : decode cX4_run 201 = .ok (.iconst 1, 1) := by decide +kernel
theorem dX4_run_202 : decode cX4_run 202 = .ok (.iload_n 3, 1) := by decide +kernel
theorem dX4_run_203 : decode cX4_run 203 = .ok (.iconst 1, 1) := by decide +kernel
theorem dX4_run_204 : decode cX4_run 204 = .ok (.iadd, 1) := by decide +kernel
theorem dX4_run_205 : decode cX4_run 205 = .ok (.iload 4, 2) := by decide +kernel
theorem dX4_run_207 : decode cX4_run 207 = .ok (.invokevirtual 42, 3) := by decide +kernel
theorem dX4_run_210 : decode cX4_run 210 = .ok (.ireturn, 1) := by decide +kernel
theorem dX4_run_211 : decode cX4_run 211 = .ok (.aload_n 0, 1) := by decide +kernel
theorem dX4_run_212 : decode cX4_run 212 = .ok (.iload_n 2, 1) := by decide +kernel
theorem dX4_run_213 : decode cX4_run 213 = .ok (.iconst 2, 1) := by decide +kernel
theorem dX4_run_214 : decode cX4_run 214 = .ok (.iload_n 3, 1) := by decide +kernel
theorem dX4_run_215 : decode cX4_run 215 = .ok (.aload_n 0, 1) := by decide +kernel
theorem dX4_run_216 : decode cX4_run 216 = .ok (.getfield 19, 3) := by decide +kernel
theorem dX4_run_219 : decode cX4_run 219 = .ok (.isub, 1) := by decide +kernel
theorem dX4_run_220 : decode cX4_run 220 = .ok (.iload 4, 2) := by decide +kernel
theorem dX4_run_222 : decode cX4_run 222 = .ok (.invokevirtual 42, 3) := by decide +kernel
theorem dX4_run_225 : decode cX4_run 225 = .ok (.ireturn, 1) := by decide +kernel
theorem dX4_run_226 : decode cX4_run 226 = .ok (.aload_n 0, 1) := by decide +kernel
theorem dX4_run_227 : decode cX4_run 227 = .ok (.iload_n 2, 1) := by decide +kernel
theorem dX4_run_228 : decode cX4_run 228 = .ok (.iconst 1, 1) := by decide +kernel
theorem dX4_run_229 : decode cX4_run 229 = .ok (.iload_n 3, 1) := by decide +kernel
theorem dX4_run_230 : decode cX4_run 230 = .ok (.iload 4, 2) := by decide +kernel
theorem dX4_run_232 : decode cX4_run 232 = .ok (.invokevirtual 42, 3) := by decide +kernel
theorem dX4_run_235 : decode cX4_run 235 = .ok (.aload_n 0, 1) := by decide +kernel
theorem dX4_run_236 : decode cX4_run 236 = .ok (.iload_n 2, 1) := by decide +kernel
theorem dX4_run_237 : decode cX4_run 237 = .ok (.iconst 0, 1) := by decide +kernel
theorem dX4_run_238 : decode cX4_run 238 = .ok (.iconst 2, 1) := by decide +kernel
theorem dX4_run_239 : decode cX4_run 239 = .ok (.iload 4, 2) := by decide +kernel
theorem dX4_run_241 : decode cX4_run 241 = .ok (.invokevirtual 42, 3) := by decide +kernel
theorem dX4_run_244 : decode cX4_run 244 = .ok (.iadd, 1) := by decide +kernel
theorem dX4_run_245 : decode cX4_run 245 = .ok (.ireturn, 1) := by decide +kernel
theorem dX4_run_246 : decode cX4_run 246 = .ok (.aload_n 0, 1) := by decide +kernel
theorem dX4_run_247 : decode cX4_run 247 = .ok (.iload_n 2, 1) := by decide +kernel
theorem dX4_run_248 : decode cX4_run 248 = .ok (.iconst 0, 1) := by decide +kernel
theorem dX4_run_249 : decode cX4_run 249 = .ok (.iload_n 3, 1) := by decide +kernel
theorem dX4_run_250 : decode cX4_run 250 = .ok (.iload 4, 2) := by decide +kernel
theorem dX4_run_252 : decode cX4_run 252 = .ok (.invokevirtual 42, 3) := by decide +kernel
theorem dX4_run_255 : decode cX4_run 255 = .ok (.aload_n 0, 1) := by decide +kernel
theorem dX4_run_256 : decode cX4_run 256 = .ok (.getfield 25, 3) := by decide +kernel
theorem dX4_run_259 : decode cX4_run 259 = .ok (.ixor, 1) := by decide +kernel
theorem dX4_run_260 : decode cX4_run 260 = .ok (.ireturn, 1) := by decide +kernel
theorem dX4_run_261 : decode cX4_run 261 = .ok (.iconst 0, 1) := by decide +kernel
theorem dX4_run_262 : decode cX4_run 262 = .ok (.ireturn, 1) := by decide +kernel
def f_X4_play_S (rec : Nat → Int32 → Int32 → Int32 → Int32 → Mem → Option (Int32 × Mem)) (p1 : Int32) (p2 : Int32) (p3 : Int32) (p4 : Int32) (u : Mem) : Option (Int32 × Mem) := Option.bind (f_X4_ownerOf p1 p2 u) (fun r1 => (if r1 < 0 then some ((0 : Int32), u) else (if p4 ≤ (20 : Int32) then gin ((r1 * (3 : Int32)) + p2) 21 ((if (20 : Int32) ≤ (gI u 67 1) then gin r1 7 (obind (rec 1 (tBO.getD ((r1 * (3 : Int32)) + p2).toNatClampNeg 0) (tKA.getD r1.toNatClampNeg 0) p3 (p4 + (1 : Int32)) (sI u 67 1 ((gI u 67 1) + (1 : Int32)))) (fun r7 u7 => some (r7, u7))) else gin (gI u 67 1) 20 (gin r1 7 (obind (rec 1 (tBO.getD ((r1 * (3 : Int32)) + p2).toNatClampNeg 0) (tKA.getD r1.toNatClampNeg 0) p3 (p4 + (1 : Int32)) (sI (sA u 68 (gI u 67 1).toNatClampNeg (tBO.getD ((r1 * (3 : Int32)) + p2).toNatClampNeg 0)) 67 1 ((gI (sA u 68 (gI u 67 1).toNatClampNeg (tBO.getD ((r1 * (3 : Int32)) + p2).toNatClampNeg 0)) 67 1) + (1 : Int32)))) (fun r10 u10 => some (r10, u10)))))) else some ((0 : Int32), u))))
def f_X4_run_S (rec : Nat → Int32 → Int32 → Int32 → Int32 → Mem → Option (Int32 × Mem)) (p1 : Int32) (p2 : Int32) (p3 : Int32) (p4 : Int32) (u : Mem) : Option (Int32 × Mem) := (if p1 = (10 : Int32) then some (p3 + (gI u 67 2), u) else (if p1 = (11 : Int32) then obind (rec 0 (gI u 67 3) (0 : Int32) p3 p4 u) (fun r3 u3 => some (r3 - (gI u3 67 4), u3)) else (if p1 = (12 : Int32) then obind (rec 0 (gI u 67 3) (1 : Int32) p3 p4 u) (fun r5 u5 => some (r5 * (2 : Int32), u5)) else (if p1 = (20 : Int32) then obind (rec 0 p2 (1 : Int32) p3 p4 u) (fun r7 u7 => some (r7 ^^^ (6 : Int32), u7)) else (if p1 = (30 : Int32) then obind (rec 0 p2 (0 : Int32) (p3 * (3 : Int32)) p4 u) (fun r9 u9 => some (r9, u9)) else (if p1 = (40 : Int32) then obind (rec 0 p2 (2 : Int32) p3 p4 u) (fun r11 u11 => obind (rec 0 (gI u11 67 3) (1 : Int32) (1 : Int32) p4 u11) (fun r12 u12 => some (r11 + r12, u12))) else (if p1 = (50 : Int32) then obind (rec 0 p2 (0 : Int32) p3 p4 u) (fun r14 u14 => some (-r14, u14)) else (if p1 = (51 : Int32) then obind (rec 0 p2 (1 : Int32) (p3 + (1 : Int32)) p4 u) (fun r16 u16 => some (r16, u16)) else (if p1 = (60 : Int32) then obind (rec 0 p2 (2 : Int32) (p3 - (gI u 67 2)) p4 u) (fun r18 u18 => some (r18, u18)) else (if p1 = (70 : Int32) then obind (rec 0 p2 (1 : Int32) p3 p4 u) (fun r20 u20 => obind (rec 0 p2 (0 : Int32) (2 : Int32) p4 u20) (fun r21 u21 => some (r20 + r21, u21))) else (if p1 = (71 : Int32) then obind (rec 0 p2 (0 : Int32) p3 p4 u) (fun r23 u23 => some (r23 ^^^ (gI u23 67 4), u23)) else some ((0 : Int32), u))))))))))))
def f_X4_rec : Nat → Nat → Int32 → Int32 → Int32 → Int32 → Mem → Option (Int32 × Mem)
  | 0, _, _, _, _, _, _ => none
  | n + 1, k, p1, p2, p3, p4, u => if k = 0 then f_X4_play_S (f_X4_rec n) p1 p2 p3 p4 u else f_X4_run_S (f_X4_rec n) p1 p2 p3 p4 u
set_option maxHeartbeats 4000000 in
set_option maxRecDepth 100000 in
theorem k_X4_rec (l : Launch) (D : gDt) (base : Nat) (Z : gZt) : ∀ (n : Nat), (∀ (u : Mem) (p1 : Int32) (p2 : Int32) (p3 : Int32) (p4 : Int32) (r : Int32) (u' : Mem), f_X4_rec n 0 p1 p2 p3 p4 u = some (r, u') → Met l yX4_play (gws yX4_play cX4_play 7 (some .int)) (gRm (3 + n) 0 0) (gPc D base Z u [.ref (base + 67), .int p1, .int p2, .int p3, .int p4]) (gQi D base r u') 0 0 (gF base)) ∧ (∀ (u : Mem) (p1 : Int32) (p2 : Int32) (p3 : Int32) (p4 : Int32) (r : Int32) (u' : Mem), f_X4_rec n 1 p1 p2 p3 p4 u = some (r, u') → Met l yX4_run (gws yX4_run cX4_run 5 (some .int)) (gRm (3 + n) 0 0) (gPc D base Z u [.ref (base + 67), .int p1, .int p2, .int p3, .int p4]) (gQi D base r u') 0 0 (gF base)) := by
  intro n
  induction n with
  | zero => exact ⟨(fun u p1 p2 p3 p4 r u' hf => by cases hf), (fun u p1 p2 p3 p4 r u' hf => by cases hf)⟩
  | succ n ih =>
    refine ⟨?_, ?_⟩
    · intro u p1 p2 p3 p4 r u' hf
      have hf : f_X4_play_S (f_X4_rec n) p1 p2 p3 p4 u = some (r, u') := hf
      generalize f_X4_rec n = rec at hf ih
      refine Met.ofW (cc := cX4_play) (maxL := 7) (ret := some .int) (by decide) rfl ?_
      intro p e s m args below meth c s₁ B hml hv
      obtain ⟨rfl, C0, hG⟩ := g_enter B hml hv
      have hr := B.returns
      have C0 : gC p s m meth c _ cX4_play 7 RX4 D base Z := C0
      have hx := C0.1
      have hb := C0.2.1
      have hl := lv_entry ([.ref (base + 67), .int p1, .int p2, .int p3, .int p4]) (n := 7) (Nat.le_of_ble_eq_true rfl)
      rw [lg_entry_eq]
      generalize (lg_sl ([.ref (base + 67), .int p1, .int p2, .int p3, .int p4]) ++ List.replicate (7 - (lg_sl ([.ref (base + 67), .int p1, .int p2, .int p3, .int p4])).length) Slot.unset).toArray = ls at hl ⊢
      have hl : lv_has ls 7 [(0, .ref (base + 67)), (1, .int p1), (2, .int p2), (3, .int p3), (4, .int p4)] := hl
      obtain ⟨Q, hQ⟩ : ∃ Q, Q = MQ below (gQi D base r u') ([.ref (base + 67), .int p1, .int p2, .int p3, .int p4] : List Value).toArray s 0 0 (gF base) := ⟨_, rfl⟩
      rw [← hQ]
      change W p l e (gRm (3 + (n + 1)) 0 0) s m _ below meth c _ _ _ _ _ _
      unfold f_X4_play_S at hf
      refine lv_iload_n hx hb dX4_play_0 rfl (lv_at hl 1 rfl) ?_
      refine lv_iload_n hx hb dX4_play_1 rfl (lv_at hl 2 rfl) ?_
      obtain ⟨r1, hc1, hf⟩ := pb_s hf
      refine g_doI0 hG (g_runS C0 hG (k_X4_ownerOf l D base Z u p1 p2 r1 hc1) m_X4_ownerOf s_X4_ownerOf w_783 ⟨by show 2 + 1 ≤ (3 + (n + 1)); omega, by show 8 + (4 + 11) + 40 * 2 ≤ 40 * (3 + (n + 1)); omega⟩ rfl hl.1 rfl (Nat.le_of_ble_eq_true rfl) dX4_play_2 ⟨Nat.zero_le _, Nat.zero_le _⟩) (fun H locs hG hk => ?_)
      refine lv_istore (lv' := [(5, .int r1), (0, .ref (base + 67)), (1, .int p1), (2, .int p2), (3, .int p3), (4, .int p4)]) hx hb dX4_play_5 hl (by decide) rfl (fun ls hl => ?_)
      refine lv_iload hx hb dX4_play_7 (lv_at hl 0 rfl) ?_
      refine lv_if_lt (tgt := 19) hx hb dX4_play_9 (by decide) (fun c2 => ?_) (fun c2 => ?_)
      · have hf := gif_t c2 hf
        refine lv_iconst (v := (0 : Int32)) hx hb dX4_play_19 (by decide) ?_
        obtain ⟨hr1, hu⟩ := gret_s hf
        subst hr1
        subst hu
        subst hQ
        exact g_iret C0 hG hr dX4_play_20
      · have hf := gif_f c2 hf
        refine lv_iload hx hb dX4_play_12 (lv_at hl 5 rfl) ?_
        refine lv_bipush (v := (20 : Int32)) hx hb dX4_play_14 (by decide) ?_
        refine lv_icmp_le (tgt := 21) hx hb dX4_play_16 (by decide) (fun c3 => ?_) (fun c3 => ?_)
        · have hf := gif_t c3 hf
          refine g_sBON C0 hG w_787 dX4_play_21 ?_
          refine lv_iload hx hb dX4_play_24 (lv_at hl 0 rfl) ?_
          refine lv_iconst (v := (3 : Int32)) hx hb dX4_play_26 (by decide) ?_
          refine lv_imul hx hb dX4_play_27 ?_
          refine lv_iload_n hx hb dX4_play_28 rfl (lv_at hl 3 rfl) ?_
          refine lv_iadd hx hb dX4_play_29 ?_
          obtain ⟨h4, hf⟩ := gin_s hf
          refine g_tBO C0 hG h4 dX4_play_30 ?_
          refine lv_istore (lv' := [(6, .int (tBO.getD ((r1 * (3 : Int32)) + p2).toNatClampNeg 0)), (5, .int r1), (0, .ref (base + 67)), (1, .int p1), (2, .int p2), (3, .int p3), (4, .int p4)]) hx hb dX4_play_31 hl (by decide) rfl (fun ls hl => ?_)
          refine lv_aload_n hx hb dX4_play_33 rfl (lv_at hl 2 rfl) ?_
          refine g_getI C0 hG (L67 hG) rfl 1 (by decide) rfl w_289 dX4_play_34 ?_
          refine lv_bipush (v := (20 : Int32)) hx hb dX4_play_37 (by decide) ?_
          refine lv_icmp_ge (tgt := 53) hx hb dX4_play_39 (by decide) (fun c5 => ?_) (fun c5 => ?_)
          · have hf := gif_t c5 hf
            refine lv_aload_n hx hb dX4_play_53 rfl (lv_at hl 2 rfl) ?_
            refine lv_dup hx hb dX4_play_54 rfl ?_
            refine g_getI C0 hG (L67 hG) rfl 1 (by decide) rfl w_289 dX4_play_55 ?_
            refine lv_iconst (v := (1 : Int32)) hx hb dX4_play_58 (by decide) ?_
            refine lv_iadd hx hb dX4_play_59 ?_
            refine g_putI (ty := .int) C0 hG (L67 hG) rfl 1 (by decide) rfl w_289 rfl (by decide) rfl rfl dX4_play_60 (fun H locs hG => ?_)
            refine lv_aload_n hx hb dX4_play_63 rfl (lv_at hl 2 rfl) ?_
            refine lv_iload hx hb dX4_play_64 (lv_at hl 0 rfl) ?_
            refine g_sKAN C0 hG w_789 dX4_play_66 ?_
            refine lv_iload hx hb dX4_play_69 (lv_at hl 1 rfl) ?_
            obtain ⟨h6, hf⟩ := gin_s hf
            refine g_tKA C0 hG h6 dX4_play_71 ?_
            refine lv_iload_n hx hb dX4_play_72 rfl (lv_at hl 5 rfl) ?_
            refine lv_iload hx hb dX4_play_73 (lv_at hl 6 rfl) ?_
            refine lv_iconst (v := (1 : Int32)) hx hb dX4_play_75 (by decide) ?_
            refine lv_iadd hx hb dX4_play_76 ?_
            obtain ⟨r7, u7, hc7, hf⟩ := obind_s hf
            refine g_doI0 hG (g_runV C0 hG (ih.2 (sI u 67 1 ((gI u 67 1) + (1 : Int32))) (tBO.getD ((r1 * (3 : Int32)) + p2).toNatClampNeg 0) (tKA.getD r1.toNatClampNeg 0) p3 (p4 + (1 : Int32)) r7 u7 hc7) m_X4_run v_X4_run w_791 ⟨by show (3 + n) + 1 ≤ (3 + (n + 1)); omega, by show 8 + (5 + 11) + 40 * (3 + n) ≤ 40 * (3 + (n + 1)); omega⟩ (g_recv C0 hG (L67 hG) rfl) rfl hl.1 rfl (Nat.le_of_ble_eq_true rfl) dX4_play_77 ⟨Nat.zero_le _, Nat.zero_le _⟩) (fun H locs hG hk => ?_)
            obtain ⟨hr1, hu⟩ := gret_s hf
            subst hr1
            subst hu
            subst hQ
            exact g_iret C0 hG hr dX4_play_80
          · have hf := gif_f c5 hf
            refine lv_aload_n hx hb dX4_play_42 rfl (lv_at hl 2 rfl) ?_
            refine g_getSa (o := 1) (a := 68) C0 hG (L67 hG) rfl 0 (by decide) rfl rfl w_287 dX4_play_43 ?_
            refine lv_aload_n hx hb dX4_play_46 rfl (lv_at hl 2 rfl) ?_
            refine g_getI C0 hG (L67 hG) rfl 1 (by decide) rfl w_289 dX4_play_47 ?_
            refine lv_iload hx hb dX4_play_50 (lv_at hl 0 rfl) ?_
            obtain ⟨h8, hf⟩ := gin_s hf
            refine g_iast C0 hG (L68 hG) h8 dX4_play_52 (fun H locs hG => ?_)
            refine lv_aload_n hx hb dX4_play_53 rfl (lv_at hl 2 rfl) ?_
            refine lv_dup hx hb dX4_play_54 rfl ?_
            refine g_getI C0 hG (L67 hG) rfl 1 (by decide) rfl w_289 dX4_play_55 ?_
            refine lv_iconst (v := (1 : Int32)) hx hb dX4_play_58 (by decide) ?_
            refine lv_iadd hx hb dX4_play_59 ?_
            refine g_putI (ty := .int) C0 hG (L67 hG) rfl 1 (by decide) rfl w_289 rfl (by decide) rfl rfl dX4_play_60 (fun H locs hG => ?_)
            refine lv_aload_n hx hb dX4_play_63 rfl (lv_at hl 2 rfl) ?_
            refine lv_iload hx hb dX4_play_64 (lv_at hl 0 rfl) ?_
            refine g_sKAN C0 hG w_789 dX4_play_66 ?_
            refine lv_iload hx hb dX4_play_69 (lv_at hl 1 rfl) ?_
            obtain ⟨h9, hf⟩ := gin_s hf
            refine g_tKA C0 hG h9 dX4_play_71 ?_
            refine lv_iload_n hx hb dX4_play_72 rfl (lv_at hl 5 rfl) ?_
            refine lv_iload hx hb dX4_play_73 (lv_at hl 6 rfl) ?_
            refine lv_iconst (v := (1 : Int32)) hx hb dX4_play_75 (by decide) ?_
            refine lv_iadd hx hb dX4_play_76 ?_
            obtain ⟨r10, u10, hc10, hf⟩ := obind_s hf
            refine g_doI0 hG (g_runV C0 hG (ih.2 (sI (sA u 68 (gI u 67 1).toNatClampNeg (tBO.getD ((r1 * (3 : Int32)) + p2).toNatClampNeg 0)) 67 1 ((gI (sA u 68 (gI u 67 1).toNatClampNeg (tBO.getD ((r1 * (3 : Int32)) + p2).toNatClampNeg 0)) 67 1) + (1 : Int32))) (tBO.getD ((r1 * (3 : Int32)) + p2).toNatClampNeg 0) (tKA.getD r1.toNatClampNeg 0) p3 (p4 + (1 : Int32)) r10 u10 hc10) m_X4_run v_X4_run w_791 ⟨by show (3 + n) + 1 ≤ (3 + (n + 1)); omega, by show 8 + (5 + 11) + 40 * (3 + n) ≤ 40 * (3 + (n + 1)); omega⟩ (g_recv C0 hG (L67 hG) rfl) rfl hl.1 rfl (Nat.le_of_ble_eq_true rfl) dX4_play_77 ⟨Nat.zero_le _, Nat.zero_le _⟩) (fun H locs hG hk => ?_)
            obtain ⟨hr1, hu⟩ := gret_s hf
            subst hr1
            subst hu
            subst hQ
            exact g_iret C0 hG hr dX4_play_80
        · have hf := gif_f c3 hf
          refine lv_iconst (v := (0 : Int32)) hx hb dX4_play_19 (by decide) ?_
          obtain ⟨hr1, hu⟩ := gret_s hf
          subst hr1
          subst hu
          subst hQ
          exact g_iret C0 hG hr dX4_play_20
    · intro u p1 p2 p3 p4 r u' hf
      have hf : f_X4_run_S (f_X4_rec n) p1 p2 p3 p4 u = some (r, u') := hf
      generalize f_X4_rec n = rec at hf ih
      refine Met.ofW (cc := cX4_run) (maxL := 5) (ret := some .int) (by decide) rfl ?_
      intro p e s m args below meth c s₁ B hml hv
      obtain ⟨rfl, C0, hG⟩ := g_enter B hml hv
      have hr := B.returns
      have C0 : gC p s m meth c _ cX4_run 5 RX4 D base Z := C0
      have hx := C0.1
      have hb := C0.2.1
      have hl := lv_entry ([.ref (base + 67), .int p1, .int p2, .int p3, .int p4]) (n := 5) (Nat.le_of_ble_eq_true rfl)
      rw [lg_entry_eq]
      generalize (lg_sl ([.ref (base + 67), .int p1, .int p2, .int p3, .int p4]) ++ List.replicate (5 - (lg_sl ([.ref (base + 67), .int p1, .int p2, .int p3, .int p4])).length) Slot.unset).toArray = ls at hl ⊢
      have hl : lv_has ls 5 [(0, .ref (base + 67)), (1, .int p1), (2, .int p2), (3, .int p3), (4, .int p4)] := hl
      obtain ⟨Q, hQ⟩ : ∃ Q, Q = MQ below (gQi D base r u') ([.ref (base + 67), .int p1, .int p2, .int p3, .int p4] : List Value).toArray s 0 0 (gF base) := ⟨_, rfl⟩
      rw [← hQ]
      change W p l e (gRm (3 + (n + 1)) 0 0) s m _ below meth c _ _ _ _ _ _
      unfold f_X4_run_S at hf
      refine lv_iload_n hx hb dX4_run_0 rfl (lv_at hl 1 rfl) ?_
      refine (Decidable.em (p1 = (10 : Int32))).elim (fun c1 => ?_) (fun c1 => ?_)
      · have hf := gif_t c1 hf
        refine lv_lookup (off := 99) (tgt := 100) hx hb dX4_run_1 (by decide) (by rw [c1]; rfl) (by decide) ?_
        refine lv_iload_n hx hb dX4_run_100 rfl (lv_at hl 3 rfl) ?_
        refine lv_aload_n hx hb dX4_run_101 rfl (lv_at hl 0 rfl) ?_
        refine g_getI C0 hG (L67 hG) rfl 2 (by decide) rfl w_291 dX4_run_102 ?_
        refine lv_iadd hx hb dX4_run_105 ?_
        obtain ⟨hr1, hu⟩ := gret_s hf
        subst hr1
        subst hu
        subst hQ
        exact g_iret C0 hG hr dX4_run_106
      · have hf := gif_f c1 hf
        refine (Decidable.em (p1 = (11 : Int32))).elim (fun c2 => ?_) (fun c2 => ?_)
        · have hf := gif_t c2 hf
          refine lv_lookup (off := 106) (tgt := 107) hx hb dX4_run_1 (by decide) (by rw [c2]; rfl) (by decide) ?_
          refine lv_aload_n hx hb dX4_run_107 rfl (lv_at hl 0 rfl) ?_
          refine lv_aload_n hx hb dX4_run_108 rfl (lv_at hl 0 rfl) ?_
          refine g_getI C0 hG (L67 hG) rfl 3 (by decide) rfl w_293 dX4_run_109 ?_
          refine lv_iconst (v := (0 : Int32)) hx hb dX4_run_112 (by decide) ?_
          refine lv_iload_n hx hb dX4_run_113 rfl (lv_at hl 3 rfl) ?_
          refine lv_iload hx hb dX4_run_114 (lv_at hl 4 rfl) ?_
          obtain ⟨r3, u3, hc3, hf⟩ := obind_s hf
          refine g_doI0 hG (g_runV C0 hG (ih.1 u (gI u 67 3) (0 : Int32) p3 p4 r3 u3 hc3) m_X4_play v_X4_play w_795 ⟨by show (3 + n) + 1 ≤ (3 + (n + 1)); omega, by show 8 + (7 + 11) + 40 * (3 + n) ≤ 40 * (3 + (n + 1)); omega⟩ (g_recv C0 hG (L67 hG) rfl) rfl hl.1 rfl (Nat.le_of_ble_eq_true rfl) dX4_run_116 ⟨Nat.zero_le _, Nat.zero_le _⟩) (fun H locs hG hk => ?_)
          refine lv_aload_n hx hb dX4_run_119 rfl (lv_at hl 0 rfl) ?_
          refine g_getI C0 hG (L67 hG) rfl 4 (by decide) rfl w_295 dX4_run_120 ?_
          refine lv_isub hx hb dX4_run_123 ?_
          obtain ⟨hr1, hu⟩ := gret_s hf
          subst hr1
          subst hu
          subst hQ
          exact g_iret C0 hG hr dX4_run_124
        · have hf := gif_f c2 hf
          refine (Decidable.em (p1 = (12 : Int32))).elim (fun c4 => ?_) (fun c4 => ?_)
          · have hf := gif_t c4 hf
            refine lv_lookup (off := 124) (tgt := 125) hx hb dX4_run_1 (by decide) (by rw [c4]; rfl) (by decide) ?_
            refine lv_aload_n hx hb dX4_run_125 rfl (lv_at hl 0 rfl) ?_
            refine lv_aload_n hx hb dX4_run_126 rfl (lv_at hl 0 rfl) ?_
            refine g_getI C0 hG (L67 hG) rfl 3 (by decide) rfl w_293 dX4_run_127 ?_
            refine lv_iconst (v := (1 : Int32)) hx hb dX4_run_130 (by decide) ?_
            refine lv_iload_n hx hb dX4_run_131 rfl (lv_at hl 3 rfl) ?_
            refine lv_iload hx hb dX4_run_132 (lv_at hl 4 rfl) ?_
            obtain ⟨r5, u5, hc5, hf⟩ := obind_s hf
            refine g_doI0 hG (g_runV C0 hG (ih.1 u (gI u 67 3) (1 : Int32) p3 p4 r5 u5 hc5) m_X4_play v_X4_play w_795 ⟨by show (3 + n) + 1 ≤ (3 + (n + 1)); omega, by show 8 + (7 + 11) + 40 * (3 + n) ≤ 40 * (3 + (n + 1)); omega⟩ (g_recv C0 hG (L67 hG) rfl) rfl hl.1 rfl (Nat.le_of_ble_eq_true rfl) dX4_run_134 ⟨Nat.zero_le _, Nat.zero_le _⟩) (fun H locs hG hk => ?_)
            refine lv_iconst (v := (2 : Int32)) hx hb dX4_run_137 (by decide) ?_
            refine lv_imul hx hb dX4_run_138 ?_
            obtain ⟨hr1, hu⟩ := gret_s hf
            subst hr1
            subst hu
            subst hQ
            exact g_iret C0 hG hr dX4_run_139
          · have hf := gif_f c4 hf
            refine (Decidable.em (p1 = (20 : Int32))).elim (fun c6 => ?_) (fun c6 => ?_)
            · have hf := gif_t c6 hf
              refine lv_lookup (off := 139) (tgt := 140) hx hb dX4_run_1 (by decide) (by rw [c6]; rfl) (by decide) ?_
              refine lv_aload_n hx hb dX4_run_140 rfl (lv_at hl 0 rfl) ?_
              refine lv_iload_n hx hb dX4_run_141 rfl (lv_at hl 2 rfl) ?_
              refine lv_iconst (v := (1 : Int32)) hx hb dX4_run_142 (by decide) ?_
              refine lv_iload_n hx hb dX4_run_143 rfl (lv_at hl 3 rfl) ?_
              refine lv_iload hx hb dX4_run_144 (lv_at hl 4 rfl) ?_
              obtain ⟨r7, u7, hc7, hf⟩ := obind_s hf
              refine g_doI0 hG (g_runV C0 hG (ih.1 u p2 (1 : Int32) p3 p4 r7 u7 hc7) m_X4_play v_X4_play w_795 ⟨by show (3 + n) + 1 ≤ (3 + (n + 1)); omega, by show 8 + (7 + 11) + 40 * (3 + n) ≤ 40 * (3 + (n + 1)); omega⟩ (g_recv C0 hG (L67 hG) rfl) rfl hl.1 rfl (Nat.le_of_ble_eq_true rfl) dX4_run_146 ⟨Nat.zero_le _, Nat.zero_le _⟩) (fun H locs hG hk => ?_)
              refine lv_bipush (v := (6 : Int32)) hx hb dX4_run_149 (by decide) ?_
              refine lv_ixor hx hb dX4_run_151 ?_
              obtain ⟨hr1, hu⟩ := gret_s hf
              subst hr1
              subst hu
              subst hQ
              exact g_iret C0 hG hr dX4_run_152
            · have hf := gif_f c6 hf
              refine (Decidable.em (p1 = (30 : Int32))).elim (fun c8 => ?_) (fun c8 => ?_)
              · have hf := gif_t c8 hf
                refine lv_lookup (off := 152) (tgt := 153) hx hb dX4_run_1 (by decide) (by rw [c8]; rfl) (by decide) ?_
                refine lv_aload_n hx hb dX4_run_153 rfl (lv_at hl 0 rfl) ?_
                refine lv_iload_n hx hb dX4_run_154 rfl (lv_at hl 2 rfl) ?_
                refine lv_iconst (v := (0 : Int32)) hx hb dX4_run_155 (by decide) ?_
                refine lv_iload_n hx hb dX4_run_156 rfl (lv_at hl 3 rfl) ?_
                refine lv_iconst (v := (3 : Int32)) hx hb dX4_run_157 (by decide) ?_
                refine lv_imul hx hb dX4_run_158 ?_
                refine lv_iload hx hb dX4_run_159 (lv_at hl 4 rfl) ?_
                obtain ⟨r9, u9, hc9, hf⟩ := obind_s hf
                refine g_doI0 hG (g_runV C0 hG (ih.1 u p2 (0 : Int32) (p3 * (3 : Int32)) p4 r9 u9 hc9) m_X4_play v_X4_play w_795 ⟨by show (3 + n) + 1 ≤ (3 + (n + 1)); omega, by show 8 + (7 + 11) + 40 * (3 + n) ≤ 40 * (3 + (n + 1)); omega⟩ (g_recv C0 hG (L67 hG) rfl) rfl hl.1 rfl (Nat.le_of_ble_eq_true rfl) dX4_run_161 ⟨Nat.zero_le _, Nat.zero_le _⟩) (fun H locs hG hk => ?_)
                obtain ⟨hr1, hu⟩ := gret_s hf
                subst hr1
                subst hu
                subst hQ
                exact g_iret C0 hG hr dX4_run_164
              · have hf := gif_f c8 hf
                refine (Decidable.em (p1 = (40 : Int32))).elim (fun c10 => ?_) (fun c10 => ?_)
                · have hf := gif_t c10 hf
                  refine lv_lookup (off := 164) (tgt := 165) hx hb dX4_run_1 (by decide) (by rw [c10]; rfl) (by decide) ?_
                  refine lv_aload_n hx hb dX4_run_165 rfl (lv_at hl 0 rfl) ?_
                  refine lv_iload_n hx hb dX4_run_166 rfl (lv_at hl 2 rfl) ?_
                  refine lv_iconst (v := (2 : Int32)) hx hb dX4_run_167 (by decide) ?_
                  refine lv_iload_n hx hb dX4_run_168 rfl (lv_at hl 3 rfl) ?_
                  refine lv_iload hx hb dX4_run_169 (lv_at hl 4 rfl) ?_
                  obtain ⟨r11, u11, hc11, hf⟩ := obind_s hf
                  refine g_doI0 hG (g_runV C0 hG (ih.1 u p2 (2 : Int32) p3 p4 r11 u11 hc11) m_X4_play v_X4_play w_795 ⟨by show (3 + n) + 1 ≤ (3 + (n + 1)); omega, by show 8 + (7 + 11) + 40 * (3 + n) ≤ 40 * (3 + (n + 1)); omega⟩ (g_recv C0 hG (L67 hG) rfl) rfl hl.1 rfl (Nat.le_of_ble_eq_true rfl) dX4_run_171 ⟨Nat.zero_le _, Nat.zero_le _⟩) (fun H locs hG hk => ?_)
                  refine lv_aload_n hx hb dX4_run_174 rfl (lv_at hl 0 rfl) ?_
                  refine lv_aload_n hx hb dX4_run_175 rfl (lv_at hl 0 rfl) ?_
                  refine g_getI C0 hG (L67 hG) rfl 3 (by decide) rfl w_293 dX4_run_176 ?_
                  refine lv_iconst (v := (1 : Int32)) hx hb dX4_run_179 (by decide) ?_
                  refine lv_iconst (v := (1 : Int32)) hx hb dX4_run_180 (by decide) ?_
                  refine lv_iload hx hb dX4_run_181 (lv_at hl 4 rfl) ?_
                  obtain ⟨r12, u12, hc12, hf⟩ := obind_s hf
                  refine g_doI0 hG (g_runV C0 hG (ih.1 u11 (gI u11 67 3) (1 : Int32) (1 : Int32) p4 r12 u12 hc12) m_X4_play v_X4_play w_795 ⟨by show (3 + n) + 1 ≤ (3 + (n + 1)); omega, by show 8 + (7 + 11) + 40 * (3 + n) ≤ 40 * (3 + (n + 1)); omega⟩ (g_recv C0 hG (L67 hG) rfl) rfl hl.1 rfl (Nat.le_of_ble_eq_true rfl) dX4_run_183 ⟨Nat.zero_le _, Nat.zero_le _⟩) (fun H locs hG hk => ?_)
                  refine lv_iadd hx hb dX4_run_186 ?_
                  obtain ⟨hr1, hu⟩ := gret_s hf
                  subst hr1
                  subst hu
                  subst hQ
                  exact g_iret C0 hG hr dX4_run_187
                · have hf := gif_f c10 hf
                  refine (Decidable.em (p1 = (50 : Int32))).elim (fun c13 => ?_) (fun c13 => ?_)
                  · have hf := gif_t c13 hf
                    refine lv_lookup (off := 187) (tgt := 188) hx hb dX4_run_1 (by decide) (by rw [c13]; rfl) (by decide) ?_
                    refine lv_aload_n hx hb dX4_run_188 rfl (lv_at hl 0 rfl) ?_
                    refine lv_iload_n hx hb dX4_run_189 rfl (lv_at hl 2 rfl) ?_
                    refine lv_iconst (v := (0 : Int32)) hx hb dX4_run_190 (by decide) ?_
                    refine lv_iload_n hx hb dX4_run_191 rfl (lv_at hl 3 rfl) ?_
                    refine lv_iload hx hb dX4_run_192 (lv_at hl 4 rfl) ?_
                    obtain ⟨r14, u14, hc14, hf⟩ := obind_s hf
                    refine g_doI0 hG (g_runV C0 hG (ih.1 u p2 (0 : Int32) p3 p4 r14 u14 hc14) m_X4_play v_X4_play w_795 ⟨by show (3 + n) + 1 ≤ (3 + (n + 1)); omega, by show 8 + (7 + 11) + 40 * (3 + n) ≤ 40 * (3 + (n + 1)); omega⟩ (g_recv C0 hG (L67 hG) rfl) rfl hl.1 rfl (Nat.le_of_ble_eq_true rfl) dX4_run_194 ⟨Nat.zero_le _, Nat.zero_le _⟩) (fun H locs hG hk => ?_)
                    refine lv_ineg hx hb dX4_run_197 ?_
                    obtain ⟨hr1, hu⟩ := gret_s hf
                    subst hr1
                    subst hu
                    subst hQ
                    exact g_iret C0 hG hr dX4_run_198
                  · have hf := gif_f c13 hf
                    refine (Decidable.em (p1 = (51 : Int32))).elim (fun c15 => ?_) (fun c15 => ?_)
                    · have hf := gif_t c15 hf
                      refine lv_lookup (off := 198) (tgt := 199) hx hb dX4_run_1 (by decide) (by rw [c15]; rfl) (by decide) ?_
                      refine lv_aload_n hx hb dX4_run_199 rfl (lv_at hl 0 rfl) ?_
                      refine lv_iload_n hx hb dX4_run_200 rfl (lv_at hl 2 rfl) ?_
                      refine lv_iconst (v := (1 : Int32)) hx hb dX4_run_201 (by decide) ?_
                      refine lv_iload_n hx hb dX4_run_202 rfl (lv_at hl 3 rfl) ?_
                      refine lv_iconst (v := (1 : Int32)) hx hb dX4_run_203 (by decide) ?_
                      refine lv_iadd hx hb dX4_run_204 ?_
                      refine lv_iload hx hb dX4_run_205 (lv_at hl 4 rfl) ?_
                      obtain ⟨r16, u16, hc16, hf⟩ := obind_s hf
                      refine g_doI0 hG (g_runV C0 hG (ih.1 u p2 (1 : Int32) (p3 + (1 : Int32)) p4 r16 u16 hc16) m_X4_play v_X4_play w_795 ⟨by show (3 + n) + 1 ≤ (3 + (n + 1)); omega, by show 8 + (7 + 11) + 40 * (3 + n) ≤ 40 * (3 + (n + 1)); omega⟩ (g_recv C0 hG (L67 hG) rfl) rfl hl.1 rfl (Nat.le_of_ble_eq_true rfl) dX4_run_207 ⟨Nat.zero_le _, Nat.zero_le _⟩) (fun H locs hG hk => ?_)
                      obtain ⟨hr1, hu⟩ := gret_s hf
                      subst hr1
                      subst hu
                      subst hQ
                      exact g_iret C0 hG hr dX4_run_210
                    · have hf := gif_f c15 hf
                      refine (Decidable.em (p1 = (60 : Int32))).elim (fun c17 => ?_) (fun c17 => ?_)
                      · have hf := gif_t c17 hf
                        refine lv_lookup (off := 210) (tgt := 211) hx hb dX4_run_1 (by decide) (by rw [c17]; rfl) (by decide) ?_
                        refine lv_aload_n hx hb dX4_run_211 rfl (lv_at hl 0 rfl) ?_
                        refine lv_iload_n hx hb dX4_run_212 rfl (lv_at hl 2 rfl) ?_
                        refine lv_iconst (v := (2 : Int32)) hx hb dX4_run_213 (by decide) ?_
                        refine lv_iload_n hx hb dX4_run_214 rfl (lv_at hl 3 rfl) ?_
                        refine lv_aload_n hx hb dX4_run_215 rfl (lv_at hl 0 rfl) ?_
                        refine g_getI C0 hG (L67 hG) rfl 2 (by decide) rfl w_291 dX4_run_216 ?_
                        refine lv_isub hx hb dX4_run_219 ?_
                        refine lv_iload hx hb dX4_run_220 (lv_at hl 4 rfl) ?_
                        obtain ⟨r18, u18, hc18, hf⟩ := obind_s hf
                        refine g_doI0 hG (g_runV C0 hG (ih.1 u p2 (2 : Int32) (p3 - (gI u 67 2)) p4 r18 u18 hc18) m_X4_play v_X4_play w_795 ⟨by show (3 + n) + 1 ≤ (3 + (n + 1)); omega, by show 8 + (7 + 11) + 40 * (3 + n) ≤ 40 * (3 + (n + 1)); omega⟩ (g_recv C0 hG (L67 hG) rfl) rfl hl.1 rfl (Nat.le_of_ble_eq_true rfl) dX4_run_222 ⟨Nat.zero_le _, Nat.zero_le _⟩) (fun H locs hG hk => ?_)
                        obtain ⟨hr1, hu⟩ := gret_s hf
                        subst hr1
                        subst hu
                        subst hQ
                        exact g_iret C0 hG hr dX4_run_225
                      · have hf := gif_f c17 hf
                        refine (Decidable.em (p1 = (70 : Int32))).elim (fun c19 => ?_) (fun c19 => ?_)
                        · have hf := gif_t c19 hf
                          refine lv_lookup (off := 225) (tgt := 226) hx hb dX4_run_1 (by decide) (by rw [c19]; rfl) (by decide) ?_
                          refine lv_aload_n hx hb dX4_run_226 rfl (lv_at hl 0 rfl) ?_
                          refine lv_iload_n hx hb dX4_run_227 rfl (lv_at hl 2 rfl) ?_
                          refine lv_iconst (v := (1 : Int32)) hx hb dX4_run_228 (by decide) ?_
                          refine lv_iload_n hx hb dX4_run_229 rfl (lv_at hl 3 rfl) ?_
                          refine lv_iload hx hb dX4_run_230 (lv_at hl 4 rfl) ?_
                          obtain ⟨r20, u20, hc20, hf⟩ := obind_s hf
                          refine g_doI0 hG (g_runV C0 hG (ih.1 u p2 (1 : Int32) p3 p4 r20 u20 hc20) m_X4_play v_X4_play w_795 ⟨by show (3 + n) + 1 ≤ (3 + (n + 1)); omega, by show 8 + (7 + 11) + 40 * (3 + n) ≤ 40 * (3 + (n + 1)); omega⟩ (g_recv C0 hG (L67 hG) rfl) rfl hl.1 rfl (Nat.le_of_ble_eq_true rfl) dX4_run_232 ⟨Nat.zero_le _, Nat.zero_le _⟩) (fun H locs hG hk => ?_)
                          refine lv_aload_n hx hb dX4_run_235 rfl (lv_at hl 0 rfl) ?_
                          refine lv_iload_n hx hb dX4_run_236 rfl (lv_at hl 2 rfl) ?_
                          refine lv_iconst (v := (0 : Int32)) hx hb dX4_run_237 (by decide) ?_
                          refine lv_iconst (v := (2 : Int32)) hx hb dX4_run_238 (by decide) ?_
                          refine lv_iload hx hb dX4_run_239 (lv_at hl 4 rfl) ?_
                          obtain ⟨r21, u21, hc21, hf⟩ := obind_s hf
                          refine g_doI0 hG (g_runV C0 hG (ih.1 u20 p2 (0 : Int32) (2 : Int32) p4 r21 u21 hc21) m_X4_play v_X4_play w_795 ⟨by show (3 + n) + 1 ≤ (3 + (n + 1)); omega, by show 8 + (7 + 11) + 40 * (3 + n) ≤ 40 * (3 + (n + 1)); omega⟩ (g_recv C0 hG (L67 hG) rfl) rfl hl.1 rfl (Nat.le_of_ble_eq_true rfl) dX4_run_241 ⟨Nat.zero_le _, Nat.zero_le _⟩) (fun H locs hG hk => ?_)
                          refine lv_iadd hx hb dX4_run_244 ?_
                          obtain ⟨hr1, hu⟩ := gret_s hf
                          subst hr1
                          subst hu
                          subst hQ
                          exact g_iret C0 hG hr dX4_run_245
                        · have hf := gif_f c19 hf
                          refine (Decidable.em (p1 = (71 : Int32))).elim (fun c22 => ?_) (fun c22 => ?_)
                          · have hf := gif_t c22 hf
                            refine lv_lookup (off := 245) (tgt := 246) hx hb dX4_run_1 (by decide) (by rw [c22]; rfl) (by decide) ?_
                            refine lv_aload_n hx hb dX4_run_246 rfl (lv_at hl 0 rfl) ?_
                            refine lv_iload_n hx hb dX4_run_247 rfl (lv_at hl 2 rfl) ?_
                            refine lv_iconst (v := (0 : Int32)) hx hb dX4_run_248 (by decide) ?_
                            refine lv_iload_n hx hb dX4_run_249 rfl (lv_at hl 3 rfl) ?_
                            refine lv_iload hx hb dX4_run_250 (lv_at hl 4 rfl) ?_
                            obtain ⟨r23, u23, hc23, hf⟩ := obind_s hf
                            refine g_doI0 hG (g_runV C0 hG (ih.1 u p2 (0 : Int32) p3 p4 r23 u23 hc23) m_X4_play v_X4_play w_795 ⟨by show (3 + n) + 1 ≤ (3 + (n + 1)); omega, by show 8 + (7 + 11) + 40 * (3 + n) ≤ 40 * (3 + (n + 1)); omega⟩ (g_recv C0 hG (L67 hG) rfl) rfl hl.1 rfl (Nat.le_of_ble_eq_true rfl) dX4_run_252 ⟨Nat.zero_le _, Nat.zero_le _⟩) (fun H locs hG hk => ?_)
                            refine lv_aload_n hx hb dX4_run_255 rfl (lv_at hl 0 rfl) ?_
                            refine g_getI C0 hG (L67 hG) rfl 4 (by decide) rfl w_295 dX4_run_256 ?_
                            refine lv_ixor hx hb dX4_run_259 ?_
                            obtain ⟨hr1, hu⟩ := gret_s hf
                            subst hr1
                            subst hu
                            subst hQ
                            exact g_iret C0 hG hr dX4_run_260
                          · have hf := gif_f c22 hf
                            refine lv_lookup (off := 260) (tgt := 261) hx hb dX4_run_1 (by decide) (by
                                show Op.lookupswitch.offset [(10, 99), (11, 106), (12, 124), (20, 139), (30, 152), (40, 164), (50, 187), (51, 198), (60, 210), (70, 225), (71, 245)] 260 (p1).toInt = 260
                                rw [lv_osw c1 (by decide), lv_osw c2 (by decide), lv_osw c4 (by decide), lv_osw c6 (by decide), lv_osw c8 (by decide), lv_osw c10 (by decide), lv_osw c13 (by decide), lv_osw c15 (by decide), lv_osw c17 (by decide), lv_osw c19 (by decide), lv_osw c22 (by decide)]; rfl) (by decide) ?_
                            refine lv_iconst (v := (0 : Int32)) hx hb dX4_run_261 (by decide) ?_
                            obtain ⟨hr1, hu⟩ := gret_s hf
                            subst hr1
                            subst hu
                            subst hQ
                            exact g_iret C0 hG hr dX4_run_262
def f_X4_play (p1 : Int32) (p2 : Int32) (p3 : Int32) (p4 : Int32) (u : Mem) : Option (Int32 × Mem) := f_X4_rec 60 0 p1 p2 p3 p4 u
theorem k_X4_play (l : Launch) (D : gDt) (base : Nat) (Z : gZt) (u : Mem) (p1 : Int32) (p2 : Int32) (p3 : Int32) (p4 : Int32) (r : Int32) (u' : Mem) (hf : f_X4_play p1 p2 p3 p4 u = some (r, u')) : Met l yX4_play (gws yX4_play cX4_play 7 (some .int)) (gRm 63 0 0) (gPc D base Z u [.ref (base + 67), .int p1, .int p2, .int p3, .int p4]) (gQi D base r u') 0 0 (gF base) := (k_X4_rec l D base Z 60).1 u p1 p2 p3 p4 r u' hf
def f_X4_run (p1 : Int32) (p2 : Int32) (p3 : Int32) (p4 : Int32) (u : Mem) : Option (Int32 × Mem) := f_X4_rec 60 1 p1 p2 p3 p4 u
theorem k_X4_run (l : Launch) (D : gDt) (base : Nat) (Z : gZt) (u : Mem) (p1 : Int32) (p2 : Int32) (p3 : Int32) (p4 : Int32) (r : Int32) (u' : Mem) (hf : f_X4_run p1 p2 p3 p4 u = some (r, u')) : Met l yX4_run (gws yX4_run cX4_run 5 (some .int)) (gRm 63 0 0) (gPc D base Z u [.ref (base + 67), .int p1, .int p2, .int p3, .int p4]) (gQi D base r u') 0 0 (gF base) := (k_X4_rec l D base Z 60).2 u p1 p2 p3 p4 r u' hf
theorem dX5_become_0 : decode cX5_become 0 = .ok (.aload_n 0, 1) := by decide +kernel
theorem dX5_become_1 : decode cX5_become 1 = .ok (.iload_n 1, 1) := by decide +kernel
theorem dX5_become_2 : decode cX5_become 2 = .ok (.putfield 15, 3) := by decide +kernel
theorem dX5_become_5 : decode cX5_become 5 = .ok (.aload_n 0, 1) := by decide +kernel
theorem dX5_become_6 : decode cX5_become 6 = .ok (.iconst 0, 1) := by decide +kernel
theorem dX5_become_7 : decode cX5_become 7 = .ok (.iload_n 2, 1) := by decide +kernel
theorem dX5_become_8 : decode cX5_become 8 = .ok (.bipush 60, 2) := by decide +kernel
theorem dX5_become_10 : decode cX5_become 10 = .ok (.invokestatic 22, 3) := by decide +kernel
theorem dX5_become_13 : decode cX5_become 13 = .ok (.invokestatic 28, 3) := by decide +kernel
theorem dX5_become_16 : decode cX5_become 16 = .ok (.putfield 19, 3) := by decide +kernel
theorem dX5_become_19 : decode cX5_become 19 = .ok (.iconst 0, 1) := by decide +kernel
theorem dX5_become_20 : decode cX5_become 20 = .ok (.istore_n 3, 1) := by decide +kernel
theorem dX5_become_21 : decode cX5_become 21 = .ok (.iload_n 3, 1) := by decide +kernel
theorem dX5_become_22 : decode cX5_become 22 = .ok (.bipush 60, 2) := by decide +kernel
theorem dX5_become_24 : decode cX5_become 24 = .ok (.if_icmp .ge 16, 3) := by decide +kernel
theorem dX5_become_27 : decode cX5_become 27 = .ok (.aload_n 0, 1) := by decide +kernel
theorem dX5_become_28 : decode cX5_become 28 = .ok (.getfield 9, 3) := by decide +kernel
theorem dX5_become_31 : decode cX5_become 31 = .ok (.iload_n 3, 1) := by decide +kernel
theorem dX5_become_32 : decode cX5_become 32 = .ok (.lconst 0, 1) := by decide +kernel
theorem dX5_become_33 : decode cX5_become 33 = .ok (.lastore, 1) := by decide +kernel
theorem dX5_become_34 : decode cX5_become 34 = .ok (.iinc 3 1, 3) := by decide +kernel
theorem dX5_become_37 : decode cX5_become 37 = .ok (.goto (-16), 3) := by decide +kernel
theorem dX5_become_40 : decode cX5_become 40 = .ok (.iconst 1, 1) := by decide +kernel
theorem dX5_become_41 : decode cX5_become 41 = .ok (.ireturn, 1) := by decide +kernel
def f_X5_become_L21 (t : Nat) (x3_1 : Int32) (u1 : Mem) : Option ((Int32 × Mem) ⊕ (Int32 × Mem)) := (if (60 : Int32) ≤ x3_1 then some (Sum.inr ((1 : Int32), u1)) else gin x3_1 60 (some (Sum.inl (x3_1 + (1 : Int32), sL u1 (t + 1) x3_1.toNatClampNeg (0 : Int64)))))
def f_X5_become (t : Nat) (p1 : Int32) (p2 : Int32) (u : Mem) : Option (Int32 × Mem) := whileO (fun s => f_X5_become_L21 t s.1 s.2) FUEL ((0 : Int32), sI (sI u t 1 p1) t 2 (imax (0 : Int32) (imin p2 (60 : Int32))))
set_option maxHeartbeats 4000000 in
set_option maxRecDepth 100000 in
theorem k_X5_become (l : Launch) (D : gDt) (base : Nat) (Z : gZt) (u : Mem) (t : Nat) (p1 : Int32) (p2 : Int32) (r : Int32) (u' : Mem) (ho : gok 129 t l5) (hf : f_X5_become t p1 p2 u = some (r, u')) : Met l yX5_become (gws yX5_become cX5_become 4 (some .int)) (gRm 1 0 0) (gPc D base Z u [.ref (base + t), .int p1, .int p2]) (gQi D base r u') 0 0 (gF base) := by
  refine Met.ofW (cc := cX5_become) (maxL := 4) (ret := some .int) (by decide) rfl ?_
  intro p e s m args below meth c s₁ B hml hv
  obtain ⟨rfl, C0, hG⟩ := g_enter B hml hv
  have hr := B.returns
  have C0 : gC p s m meth c _ cX5_become 4 RX5 D base Z := C0
  have hx := C0.1
  have hb := C0.2.1
  have hl := lv_entry ([.ref (base + t), .int p1, .int p2]) (n := 4) (Nat.le_of_ble_eq_true rfl)
  rw [lg_entry_eq]
  generalize (lg_sl ([.ref (base + t), .int p1, .int p2]) ++ List.replicate (4 - (lg_sl ([.ref (base + t), .int p1, .int p2])).length) Slot.unset).toArray = ls at hl ⊢
  have hl : lv_has ls 4 [(0, .ref (base + t)), (1, .int p1), (2, .int p2)] := hl
  obtain ⟨Q, hQ⟩ : ∃ Q, Q = MQ below (gQi D base r u') ([.ref (base + t), .int p1, .int p2] : List Value).toArray s 0 0 (gF base) := ⟨_, rfl⟩
  rw [← hQ]
  change W p l e (gRm 1 0 0) s m _ below meth c _ _ _ _ _ _
  unfold f_X5_become at hf
  refine lv_aload_n hx hb dX5_become_0 rfl (lv_at hl 0 rfl) ?_
  refine lv_iload_n hx hb dX5_become_1 rfl (lv_at hl 1 rfl) ?_
  refine g_putI (ty := .int) C0 hG (T5_0 hG ho) rfl 1 (by decide) rfl w_317 rfl (by decide) rfl rfl dX5_become_2 (fun H locs hG => ?_)
  refine lv_aload_n hx hb dX5_become_5 rfl (lv_at hl 0 rfl) ?_
  refine lv_iconst (v := (0 : Int32)) hx hb dX5_become_6 (by decide) ?_
  refine lv_iload_n hx hb dX5_become_7 rfl (lv_at hl 2 rfl) ?_
  refine lv_bipush (v := (60 : Int32)) hx hb dX5_become_8 (by decide) ?_
  refine g_min C0 w_821 mt_min_s mt_i mt_min_c hl.1 ⟨Nat.le_of_ble_eq_true rfl, Nat.le_of_ble_eq_true rfl, Nat.zero_le _, Nat.zero_le _⟩ dX5_become_10 ?_
  refine g_max C0 w_822 mt_max_s mt_i mt_max_c hl.1 ⟨Nat.le_of_ble_eq_true rfl, Nat.le_of_ble_eq_true rfl, Nat.zero_le _, Nat.zero_le _⟩ dX5_become_13 ?_
  refine g_putI (ty := .int) C0 hG (T5_0 hG ho) rfl 2 (by decide) rfl w_319 rfl (by decide) rfl rfl dX5_become_16 (fun H locs hG => ?_)
  refine lv_iconst (v := (0 : Int32)) hx hb dX5_become_19 (by decide) ?_
  refine lv_istore_n (lv' := [(3, .int (0 : Int32)), (0, .ref (base + t)), (1, .int p1), (2, .int p2)]) hx hb dX5_become_20 rfl hl (by decide) rfl (fun ls hl => ?_)
  have loop1 : ∀ (n1 : Nat) (x3_1 : Int32) (u1 : Mem) (H : Heap) (locs : List Loc) (ls : Array Slot), gH D base s u1 H locs → lv_has ls 4 [(0, .ref (base + t)), (3, .int x3_1)] → whileO (fun s => f_X5_become_L21 t s.1 s.2) n1 (x3_1, u1) = some (r, u') → W p l e (gRm 1 0 0) s m ([.ref (base + t), .int p1, .int p2] : List Value).toArray below meth c H locs 0 0 Q (F0 m 21 ls []) := by
    intro n1
    induction n1 with
    | zero => intro x3_1 u1 H locs ls hG hl hf; cases hf
    | succ n1 ih1 =>
      intro x3_1 u1 H locs ls hG hl hf
      obtain ⟨X1, hf, hX1⟩ := while_s hf
      have hf : f_X5_become_L21 t x3_1 u1 = some X1 := hf
      unfold f_X5_become_L21 at hf
      refine lv_iload_n hx hb dX5_become_21 rfl (lv_at hl 1 rfl) ?_
      refine lv_bipush (v := (60 : Int32)) hx hb dX5_become_22 (by decide) ?_
      refine lv_icmp_ge (tgt := 40) hx hb dX5_become_24 (by decide) (fun c2 => ?_) (fun c2 => ?_)
      · have hf := gif_t c2 hf
        refine lv_iconst (v := (1 : Int32)) hx hb dX5_become_40 (by decide) ?_
        have hf := while_r hX1 hf
        obtain ⟨hr1, hu⟩ := gret_s hf
        subst hr1
        subst hu
        subst hQ
        exact g_iret C0 hG hr dX5_become_41
      · have hf := gif_f c2 hf
        refine lv_aload_n hx hb dX5_become_27 rfl (lv_at hl 0 rfl) ?_
        refine g_getSa (o := 1) (a := (t + 1)) C0 hG (T5_0 hG ho) rfl 0 (by decide) rfl rfl w_315 dX5_become_28 ?_
        refine lv_iload_n hx hb dX5_become_31 rfl (lv_at hl 1 rfl) ?_
        refine lv_lconst (v := (0 : Int64)) hx hb dX5_become_32 rfl ?_
        obtain ⟨h3, hf⟩ := gin_s hf
        refine g_last C0 hG (T5_1 hG ho) h3 dX5_become_33 (fun H locs hG => ?_)
        refine lv_iinc (v := x3_1 + (1 : Int32)) (lv' := [(3, .int (x3_1 + (1 : Int32))), (0, .ref (base + t))]) hx hb dX5_become_34 hl (k := 1) rfl rfl (by decide) rfl (fun ls hl => ?_)
        refine lv_goto (tgt := 21) hx hb dX5_become_37 (by decide) ?_
        have hf := while_l hX1 hf
        exact ih1 (x3_1 + (1 : Int32)) (sL u1 (t + 1) x3_1.toNatClampNeg (0 : Int64)) _ _ ls hG (lv_sub hl [1, 0] rfl) hf
  exact loop1 FUEL (0 : Int32) (sI (sI u t 1 p1) t 2 (imax (0 : Int32) (imin p2 (60 : Int32)))) _ _ ls hG (lv_sub hl [1, 0] rfl) hf
theorem dX5_countFrom_0 : decode cX5_countFrom 0 = .ok (.iload_n 1, 1) := by decide +kernel
theorem dX5_countFrom_1 : decode cX5_countFrom 1 = .ok (.ifCond .lt 11, 3) := by decide +kernel
theorem dX5_countFrom_4 : decode cX5_countFrom 4 = .ok (.iload_n 1, 1) := by decide +kernel
theorem dX5_countFrom_5 : decode cX5_countFrom 5 = .ok (.aload_n 0, 1) := by decide +kernel
theorem dX5_countFrom_6 : decode cX5_countFrom 6 = .ok (.getfield 19, 3) := by decide +kernel
theorem dX5_countFrom_9 : decode cX5_countFrom 9 = .ok (.if_icmp .le 7, 3) := by decide +kernel
theorem dX5_countFrom_12 : decode cX5_countFrom 12 = .ok (.iconst (-1), 1) := by decide +kernel
theorem dX5_countFrom_13 : decode cX5_countFrom 13 = .ok (.goto 9, 3) := by decide +kernel
theorem dX5_countFrom_16 : decode cX5_countFrom 16 = .ok (.aload_n 0, 1) := by decide +kernel
theorem dX5_countFrom_17 : decode cX5_countFrom 17 = .ok (.getfield 19, 3) := by decide +kernel
theorem dX5_countFrom_20 : decode cX5_countFrom 20 = .ok (.iload_n 1, 1) := by decide +kernel
theorem dX5_countFrom_21 : decode cX5_countFrom 21 = .ok (.isub, 1) := by decide +kernel
theorem dX5_countFrom_22 : decode cX5_countFrom 22 = .ok (.ireturn, 1) := by decide +kernel
def f_X5_countFrom (t : Nat) (p1 : Int32) (u : Mem) : Option (Int32) := (if p1 < 0 then some (-1 : Int32) else (if p1 ≤ (gI u t 2) then some ((gI u t 2) - p1) else some (-1 : Int32)))
set_option maxHeartbeats 4000000 in
set_option maxRecDepth 100000 in
theorem k_X5_countFrom (l : Launch) (D : gDt) (base : Nat) (Z : gZt) (u : Mem) (t : Nat) (p1 : Int32) (r : Int32) (ho : gok 129 t l5) (hf : f_X5_countFrom t p1 u = some r) : Met l yX5_countFrom (gws yX5_countFrom cX5_countFrom 2 (some .int)) (gRm 1 0 0) (gPc D base Z u [.ref (base + t), .int p1]) (gQi D base r u) 0 0 (gF base) := by
  refine Met.ofW (cc := cX5_countFrom) (maxL := 2) (ret := some .int) (by decide) rfl ?_
  intro p e s m args below meth c s₁ B hml hv
  obtain ⟨rfl, C0, hG⟩ := g_enter B hml hv
  have hr := B.returns
  have C0 : gC p s m meth c _ cX5_countFrom 2 RX5 D base Z := C0
  have hx := C0.1
  have hb := C0.2.1
  have hl := lv_entry ([.ref (base + t), .int p1]) (n := 2) (Nat.le_of_ble_eq_true rfl)
  rw [lg_entry_eq]
  generalize (lg_sl ([.ref (base + t), .int p1]) ++ List.replicate (2 - (lg_sl ([.ref (base + t), .int p1])).length) Slot.unset).toArray = ls at hl ⊢
  have hl : lv_has ls 2 [(0, .ref (base + t)), (1, .int p1)] := hl
  obtain ⟨Q, hQ⟩ : ∃ Q, Q = MQ below (gQi D base r u) ([.ref (base + t), .int p1] : List Value).toArray s 0 0 (gF base) := ⟨_, rfl⟩
  rw [← hQ]
  change W p l e (gRm 1 0 0) s m _ below meth c _ _ _ _ _ _
  unfold f_X5_countFrom at hf
  refine lv_iload_n hx hb dX5_countFrom_0 rfl (lv_at hl 1 rfl) ?_
  refine lv_if_lt (tgt := 12) hx hb dX5_countFrom_1 (by decide) (fun c1 => ?_) (fun c1 => ?_)
  · have hf := gif_t c1 hf
    refine lv_iconst (v := (-1 : Int32)) hx hb dX5_countFrom_12 (by decide) ?_
    refine lv_goto (tgt := 22) hx hb dX5_countFrom_13 (by decide) ?_
    have hf := Option.some.inj hf
    subst hf
    subst hQ
    exact g_iret C0 hG hr dX5_countFrom_22
  · have hf := gif_f c1 hf
    refine lv_iload_n hx hb dX5_countFrom_4 rfl (lv_at hl 1 rfl) ?_
    refine lv_aload_n hx hb dX5_countFrom_5 rfl (lv_at hl 0 rfl) ?_
    refine g_getI C0 hG (T5_0 hG ho) rfl 2 (by decide) rfl w_319 dX5_countFrom_6 ?_
    refine lv_icmp_le (tgt := 16) hx hb dX5_countFrom_9 (by decide) (fun c2 => ?_) (fun c2 => ?_)
    · have hf := gif_t c2 hf
      refine lv_aload_n hx hb dX5_countFrom_16 rfl (lv_at hl 0 rfl) ?_
      refine g_getI C0 hG (T5_0 hG ho) rfl 2 (by decide) rfl w_319 dX5_countFrom_17 ?_
      refine lv_iload_n hx hb dX5_countFrom_20 rfl (lv_at hl 1 rfl) ?_
      refine lv_isub hx hb dX5_countFrom_21 ?_
      have hf := Option.some.inj hf
      subst hf
      subst hQ
      exact g_iret C0 hG hr dX5_countFrom_22
    · have hf := gif_f c2 hf
      refine lv_iconst (v := (-1 : Int32)) hx hb dX5_countFrom_12 (by decide) ?_
      refine lv_goto (tgt := 22) hx hb dX5_countFrom_13 (by decide) ?_
      have hf := Option.some.inj hf
      subst hf
      subst hQ
      exact g_iret C0 hG hr dX5_countFrom_22
theorem dX5_lowestBits_0 : decode cX5_lowestBits 0 = .ok (.aload_n 0, 1) := by decide +kernel
theorem dX5_lowestBits_1 : decode cX5_lowestBits 1 = .ok (.getfield 15, 3) := by decide +kernel
theorem dX5_lowestBits_4 : decode cX5_lowestBits 4 = .ok (.tableswitch 62 0 4 #[36, 41, 46, 62, 50], 36) := by decide +kernel
theorem dX5_lowestBits_40 : decode cX5_lowestBits 40 = .ok (.lload_n 1, 1) := by decide +kernel
theorem dX5_lowestBits_41 : decode cX5_lowestBits 41 = .ok (.l2i, 1) := by decide +kernel
theorem dX5_lowestBits_42 : decode cX5_lowestBits 42 = .ok (.i2b, 1) := by decide +kernel
theorem dX5_lowestBits_43 : decode cX5_lowestBits 43 = .ok (.i2l, 1) := by decide +kernel
theorem dX5_lowestBits_44 : decode cX5_lowestBits 44 = .ok (.lreturn, 1) := by decide +kernel
theorem dX5_lowestBits_45 : decode cX5_lowestBits 45 = .ok (.lload_n 1, 1) := by decide +kernel
theorem dX5_lowestBits_46 : decode cX5_lowestBits 46 = .ok (.l2i, 1) := by decide +kernel
theorem dX5_lowestBits_47 : decode cX5_lowestBits 47 = .ok (.i2s, 1) := by decide +kernel
theorem dX5_lowestBits_48 : decode cX5_lowestBits 48 = .ok (.i2l, 1) := by decide +kernel
theorem dX5_lowestBits_49 : decode cX5_lowestBits 49 = .ok (.lreturn, 1) := by decide +kernel
theorem dX5_lowestBits_50 : decode cX5_lowestBits 50 = .ok (.lload_n 1, 1) := by decide +kernel
theorem dX5_lowestBits_51 : decode cX5_lowestBits 51 = .ok (.l2i, 1) := by decide +kernel
theorem dX5_lowestBits_52 : decode cX5_lowestBits 52 = .ok (.i2l, 1) := by decide +kernel
theorem dX5_lowestBits_53 : decode cX5_lowestBits 53 = .ok (.lreturn, 1) := by decide +kernel
theorem dX5_lowestBits_54 : decode cX5_lowestBits 54 = .ok (.lload_n 1, 1) := by decide +kernel
theorem dX5_lowestBits_55 : decode cX5_lowestBits 55 = .ok (.lconst 0, 1) := by decide +kernel
theorem dX5_lowestBits_56 : decode cX5_lowestBits 56 = .ok (.lcmp, 1) := by decide +kernel
theorem dX5_lowestBits_57 : decode cX5_lowestBits 57 = .ok (.ifCond .eq 7, 3) := by decide +kernel
theorem dX5_lowestBits_60 : decode cX5_lowestBits 60 = .ok (.lconst 1, 1) := by decide +kernel
theorem dX5_lowestBits_61 : decode cX5_lowestBits 61 = .ok (.goto 4, 3) := by decide +kernel
theorem dX5_lowestBits_64 : decode cX5_lowestBits 64 = .ok (.lconst 0, 1) := by decide +kernel
theorem dX5_lowestBits_65 : decode cX5_lowestBits 65 = .ok (.lreturn, 1) := by decide +kernel
theorem dX5_lowestBits_66 : decode cX5_lowestBits 66 = .ok (.lload_n 1, 1) := by decide +kernel
theorem dX5_lowestBits_67 : decode cX5_lowestBits 67 = .ok (.lreturn, 1) := by decide +kernel
def f_X5_lowestBits (t : Nat) (p1 : Int64) (u : Mem) : Option (Int64) := (if (gI u t 1) = (0 : Int32) then some p1.toInt32.toInt8.toInt32.toInt64 else (if (gI u t 1) = (1 : Int32) then some p1.toInt32.toInt16.toInt32.toInt64 else (if (gI u t 1) = (2 : Int32) then some p1.toInt32.toInt64 else (if (gI u t 1) = (4 : Int32) then (if (lg_cmp p1 (0 : Int64)) = 0 then some (0 : Int64) else some (1 : Int64)) else some p1))))
set_option maxHeartbeats 4000000 in
set_option maxRecDepth 100000 in
theorem k_X5_lowestBits (l : Launch) (D : gDt) (base : Nat) (Z : gZt) (u : Mem) (t : Nat) (p1 : Int64) (r : Int64) (ho : gok 129 t l5) (hf : f_X5_lowestBits t p1 u = some r) : Met l yX5_lowestBits (gws yX5_lowestBits cX5_lowestBits 3 (some .long)) (gRm 1 0 0) (gPc D base Z u [.ref (base + t), .long p1]) (gQl D base r u) 0 0 (gF base) := by
  refine Met.ofW (cc := cX5_lowestBits) (maxL := 3) (ret := some .long) (by decide) rfl ?_
  intro p e s m args below meth c s₁ B hml hv
  obtain ⟨rfl, C0, hG⟩ := g_enter B hml hv
  have hr := B.returns
  have C0 : gC p s m meth c _ cX5_lowestBits 3 RX5 D base Z := C0
  have hx := C0.1
  have hb := C0.2.1
  have hl := lv_entry ([.ref (base + t), .long p1]) (n := 3) (Nat.le_of_ble_eq_true rfl)
  rw [lg_entry_eq]
  generalize (lg_sl ([.ref (base + t), .long p1]) ++ List.replicate (3 - (lg_sl ([.ref (base + t), .long p1])).length) Slot.unset).toArray = ls at hl ⊢
  have hl : lv_has ls 3 [(0, .ref (base + t)), (1, .long p1)] := hl
  obtain ⟨Q, hQ⟩ : ∃ Q, Q = MQ below (gQl D base r u) ([.ref (base + t), .long p1] : List Value).toArray s 0 0 (gF base) := ⟨_, rfl⟩
  rw [← hQ]
  change W p l e (gRm 1 0 0) s m _ below meth c _ _ _ _ _ _
  unfold f_X5_lowestBits at hf
  refine lv_aload_n hx hb dX5_lowestBits_0 rfl (lv_at hl 0 rfl) ?_
  refine g_getI C0 hG (T5_0 hG ho) rfl 1 (by decide) rfl w_317 dX5_lowestBits_1 ?_
  refine (Decidable.em ((gI u t 1) = (0 : Int32))).elim (fun c1 => ?_) (fun c1 => ?_)
  · have hf := gif_t c1 hf
    refine lv_tableIn (off := 36) (tgt := 40) hx hb dX5_lowestBits_4 (by rw [c1]; decide) (by rw [c1]; decide) (by rw [c1]; rfl) (by decide) ?_
    refine lv_lload_n hx hb dX5_lowestBits_40 rfl (lv_at hl 1 rfl) ?_
    refine lv_l2i (v := p1.toInt32) hx hb dX5_lowestBits_41 rfl ?_
    refine lv_i2b (v := p1.toInt32.toInt8.toInt32) hx hb dX5_lowestBits_42 rfl ?_
    refine lv_i2l (v := p1.toInt32.toInt8.toInt32.toInt64) hx hb dX5_lowestBits_43 rfl ?_
    have hf := Option.some.inj hf
    subst hf
    subst hQ
    exact g_lret C0 hG hr dX5_lowestBits_44
  · have hf := gif_f c1 hf
    refine (Decidable.em ((gI u t 1) = (1 : Int32))).elim (fun c2 => ?_) (fun c2 => ?_)
    · have hf := gif_t c2 hf
      refine lv_tableIn (off := 41) (tgt := 45) hx hb dX5_lowestBits_4 (by rw [c2]; decide) (by rw [c2]; decide) (by rw [c2]; rfl) (by decide) ?_
      refine lv_lload_n hx hb dX5_lowestBits_45 rfl (lv_at hl 1 rfl) ?_
      refine lv_l2i (v := p1.toInt32) hx hb dX5_lowestBits_46 rfl ?_
      refine lv_i2s (v := p1.toInt32.toInt16.toInt32) hx hb dX5_lowestBits_47 rfl ?_
      refine lv_i2l (v := p1.toInt32.toInt16.toInt32.toInt64) hx hb dX5_lowestBits_48 rfl ?_
      have hf := Option.some.inj hf
      subst hf
      subst hQ
      exact g_lret C0 hG hr dX5_lowestBits_49
    · have hf := gif_f c2 hf
      refine (Decidable.em ((gI u t 1) = (2 : Int32))).elim (fun c3 => ?_) (fun c3 => ?_)
      · have hf := gif_t c3 hf
        refine lv_tableIn (off := 46) (tgt := 50) hx hb dX5_lowestBits_4 (by rw [c3]; decide) (by rw [c3]; decide) (by rw [c3]; rfl) (by decide) ?_
        refine lv_lload_n hx hb dX5_lowestBits_50 rfl (lv_at hl 1 rfl) ?_
        refine lv_l2i (v := p1.toInt32) hx hb dX5_lowestBits_51 rfl ?_
        refine lv_i2l (v := p1.toInt32.toInt64) hx hb dX5_lowestBits_52 rfl ?_
        have hf := Option.some.inj hf
        subst hf
        subst hQ
        exact g_lret C0 hG hr dX5_lowestBits_53
      · have hf := gif_f c3 hf
        refine (Decidable.em ((gI u t 1) = (4 : Int32))).elim (fun c4 => ?_) (fun c4 => ?_)
        · have hf := gif_t c4 hf
          refine lv_tableIn (off := 50) (tgt := 54) hx hb dX5_lowestBits_4 (by rw [c4]; decide) (by rw [c4]; decide) (by rw [c4]; rfl) (by decide) ?_
          refine lv_lload_n hx hb dX5_lowestBits_54 rfl (lv_at hl 1 rfl) ?_
          refine lv_lconst (v := (0 : Int64)) hx hb dX5_lowestBits_55 rfl ?_
          refine W.lcmp hx hb dX5_lowestBits_56 ?_
          refine lv_if_eq (tgt := 64) hx hb dX5_lowestBits_57 (by decide) (fun c5 => ?_) (fun c5 => ?_)
          · have hf := gif_t c5 hf
            refine lv_lconst (v := (0 : Int64)) hx hb dX5_lowestBits_64 rfl ?_
            have hf := Option.some.inj hf
            subst hf
            subst hQ
            exact g_lret C0 hG hr dX5_lowestBits_65
          · have hf := gif_f c5 hf
            refine lv_lconst (v := (1 : Int64)) hx hb dX5_lowestBits_60 rfl ?_
            refine lv_goto (tgt := 65) hx hb dX5_lowestBits_61 (by decide) ?_
            have hf := Option.some.inj hf
            subst hf
            subst hQ
            exact g_lret C0 hG hr dX5_lowestBits_65
        · have hf := gif_f c4 hf
          refine gsw_def (lo := 0) (hi := 4) (tgt := 66) hx hb dX5_lowestBits_4 (by
              have n0 := lv_neT c1 (k := (0 : Int32)) (a := 0) (by decide)
              have n1 := lv_neT c2 (k := (1 : Int32)) (a := 1) (by decide)
              have n2 := lv_neT c3 (k := (2 : Int32)) (a := 2) (by decide)
              have n3 := lv_neT c4 (k := (4 : Int32)) (a := 4) (by decide)
              intro h1 h2
              have h3 : (gI u t 1).toInt = 3 := by omega
              (rw [h3]; rfl)) (by decide) ?_
          refine lv_lload_n hx hb dX5_lowestBits_66 rfl (lv_at hl 1 rfl) ?_
          have hf := Option.some.inj hf
          subst hf
          subst hQ
          exact g_lret C0 hG hr dX5_lowestBits_67
theorem dX6_becomeLike_0 : decode cX6_becomeLike 0 = .ok (.aload_n 1, 1) := by decide +kernel
theorem dX6_becomeLike_1 : decode cX6_becomeLike 1 = .ok (.getfield 9, 3) := by decide +kernel
theorem dX6_becomeLike_4 : decode cX6_becomeLike 4 = .ok (.iconst 0, 1) := by decide +kernel
theorem dX6_becomeLike_5 : decode cX6_becomeLike 5 = .ok (.aload_n 0, 1) := by decide +kernel
theorem dX6_becomeLike_6 : decode cX6_becomeLike 6 = .ok (.getfield 9, 3) := by decide +kernel
theorem dX6_becomeLike_9 : decode cX6_becomeLike 9 = .ok (.iconst 0, 1) := by decide +kernel
theorem dX6_becomeLike_10 : decode cX6_becomeLike 10 = .ok (.bipush 8, 2) := by decide +kernel
theorem dX6_becomeLike_12 : decode cX6_becomeLike 12 = .ok (.invokestatic 60, 3) := by decide +kernel
theorem dX6_becomeLike_15 : decode cX6_becomeLike 15 = .ok (.aload_n 1, 1) := by decide +kernel
theorem dX6_becomeLike_16 : decode cX6_becomeLike 16 = .ok (.getfield 15, 3) := by decide +kernel
theorem dX6_becomeLike_19 : decode cX6_becomeLike 19 = .ok (.iconst 0, 1) := by decide +kernel
theorem dX6_becomeLike_20 : decode cX6_becomeLike 20 = .ok (.aload_n 0, 1) := by decide +kernel
theorem dX6_becomeLike_21 : decode cX6_becomeLike 21 = .ok (.getfield 15, 3) := by decide +kernel
theorem dX6_becomeLike_24 : decode cX6_becomeLike 24 = .ok (.iconst 0, 1) := by decide +kernel
theorem dX6_becomeLike_25 : decode cX6_becomeLike 25 = .ok (.bipush 8, 2) := by decide +kernel
theorem dX6_becomeLike_27 : decode cX6_becomeLike 27 = .ok (.invokestatic 60, 3) := by decide +kernel
theorem dX6_becomeLike_30 : decode cX6_becomeLike 30 = .ok (.aload_n 1, 1) := by decide +kernel
theorem dX6_becomeLike_31 : decode cX6_becomeLike 31 = .ok (.getfield 18, 3) := by decide +kernel
theorem dX6_becomeLike_34 : decode cX6_becomeLike 34 = .ok (.iconst 0, 1) := by decide +kernel
theorem dX6_becomeLike_35 : decode cX6_becomeLike 35 = .ok (.aload_n 0, 1) := by decide +kernel
theorem dX6_becomeLike_36 : decode cX6_becomeLike 36 = .ok (.getfield 18, 3) := by decide +kernel
theorem dX6_becomeLike_39 : decode cX6_becomeLike 39 = .ok (.iconst 0, 1) := by decide +kernel
theorem dX6_becomeLike_40 : decode cX6_becomeLike 40 = .ok (.bipush 6, 2) := by decide +kernel
theorem dX6_becomeLike_42 : decode cX6_becomeLike 42 = .ok (.invokestatic 60, 3) := by decide +kernel
theorem dX6_becomeLike_45 : decode cX6_becomeLike 45 = .ok (.aload_n 1, 1) := by decide +kernel
theorem dX6_becomeLike_46 : decode cX6_becomeLike 46 = .ok (.getfield 21, 3) := by decide +kernel
theorem dX6_becomeLike_49 : decode cX6_becomeLike 49 = .ok (.iconst 0, 1) := by decide +kernel
theorem dX6_becomeLike_50 : decode cX6_becomeLike 50 = .ok (.aload_n 0, 1) := by decide +kernel
theorem dX6_becomeLike_51 : decode cX6_becomeLike 51 = .ok (.getfield 21, 3) := by decide +kernel
theorem dX6_becomeLike_54 : decode cX6_becomeLike 54 = .ok (.iconst 0, 1) := by decide +kernel
theorem dX6_becomeLike_55 : decode cX6_becomeLike 55 = .ok (.bipush 6, 2) := by decide +kernel
theorem dX6_becomeLike_57 : decode cX6_becomeLike 57 = .ok (.invokestatic 60, 3) := by decide +kernel
theorem dX6_becomeLike_60 : decode cX6_becomeLike 60 = .ok (.aload_n 1, 1) := by decide +kernel
theorem dX6_becomeLike_61 : decode cX6_becomeLike 61 = .ok (.getfield 24, 3) := by decide +kernel
theorem dX6_becomeLike_64 : decode cX6_becomeLike 64 = .ok (.iconst 0, 1) := by decide +kernel
theorem dX6_becomeLike_65 : decode cX6_becomeLike 65 = .ok (.aload_n 0, 1) := by decide +kernel
theorem dX6_becomeLike_66 : decode cX6_becomeLike 66 = .ok (.getfield 24, 3) := by decide +kernel
theorem dX6_becomeLike_69 : decode cX6_becomeLike 69 = .ok (.iconst 0, 1) := by decide +kernel
theorem dX6_becomeLike_70 : decode cX6_becomeLike 70 = .ok (.bipush 6, 2) := by decide +kernel
theorem dX6_becomeLike_72 : decode cX6_becomeLike 72 = .ok (.invokestatic 60, 3) := by decide +kernel
theorem dX6_becomeLike_75 : decode cX6_becomeLike 75 = .ok (.aload_n 1, 1) := by decide +kernel
theorem dX6_becomeLike_76 : decode cX6_becomeLike 76 = .ok (.getfield 27, 3) := by decide +kernel
theorem dX6_becomeLike_79 : decode cX6_becomeLike 79 = .ok (.iconst 0, 1) := by decide +kernel
theorem dX6_becomeLike_80 : decode cX6_becomeLike 80 = .ok (.aload_n 0, 1) := by decide +kernel
theorem dX6_becomeLike_81 : decode cX6_becomeLike 81 = .ok (.getfield 27, 3) := by decide +kernel
theorem dX6_becomeLike_84 : decode cX6_becomeLike 84 = .ok (.iconst 0, 1) := by decide +kernel
theorem dX6_becomeLike_85 : decode cX6_becomeLike 85 = .ok (.bipush 6, 2) := by decide +kernel
theorem dX6_becomeLike_87 : decode cX6_becomeLike 87 = .ok (.invokestatic 60, 3) := by decide +kernel
theorem dX6_becomeLike_90 : decode cX6_becomeLike 90 = .ok (.aload_n 1, 1) := by decide +kernel
theorem dX6_becomeLike_91 : decode cX6_becomeLike 91 = .ok (.getfield 34, 3) := by decide +kernel
theorem dX6_becomeLike_94 : decode cX6_becomeLike 94 = .ok (.iconst 0, 1) := by decide +kernel
theorem dX6_becomeLike_95 : decode cX6_becomeLike 95 = .ok (.aload_n 0, 1) := by decide +kernel
theorem dX6_becomeLike_96 : decode cX6_becomeLike 96 = .ok (.getfield 34, 3) := by decide +kernel
theorem dX6_becomeLike_99 : decode cX6_becomeLike 99 = .ok (.iconst 0, 1) := by decide +kernel
theorem dX6_becomeLike_100 : decode cX6_becomeLike 100 = .ok (.bipush 24, 2) := by decide +kernel
theorem dX6_becomeLike_102 : decode cX6_becomeLike 102 = .ok (.invokestatic 60, 3) := by decide +kernel
theorem dX6_becomeLike_105 : decode cX6_becomeLike 105 = .ok (.iconst 0, 1) := by decide +kernel
theorem dX6_becomeLike_106 : decode cX6_becomeLike 106 = .ok (.istore_n 2, 1) := by decide +kernel
theorem dX6_becomeLike_107 : decode cX6_becomeLike 107 = .ok (.iload_n 2, 1) := by decide +kernel
theorem dX6_becomeLike_108 : decode cX6_becomeLike 108 = .ok (.bipush 6, 2) := by decide +kernel
theorem dX6_becomeLike_110 : decode cX6_becomeLike 110 = .ok (.if_icmp .ge 21, 3) := by decide +kernel
theorem dX6_becomeLike_113 : decode cX6_becomeLike 113 = .ok (.aload_n 0, 1) := by decide +kernel
theorem dX6_becomeLike_114 : decode cX6_becomeLike 114 = .ok (.getfield 30, 3) := by decide +kernel
theorem dX6_becomeLike_117 : decode cX6_becomeLike 117 = .ok (.iload_n 2, 1) := by decide +kernel
theorem dX6_becomeLike_118 : decode cX6_becomeLike 118 = .ok (.aload_n 1, 1) := by decide +kernel
theorem dX6_becomeLike_119 : decode cX6_becomeLike 119 = .ok (.getfield 30, 3) := by decide +kernel
theorem dX6_becomeLike_122 : decode cX6_becomeLike 122 = .ok (.iload_n 2, 1) := by decide +kernel
theorem dX6_becomeLike_123 : decode cX6_becomeLike 123 = .ok (.baload, 1) := by decide +kernel
theorem dX6_becomeLike_124 : decode cX6_becomeLike 124 = .ok (.bastore, 1) := by decide +kernel
theorem dX6_becomeLike_125 : decode cX6_becomeLike 125 = .ok (.iinc 2 1, 3) := by decide +kernel
theorem dX6_becomeLike_128 : decode cX6_becomeLike 128 = .ok (.goto (-21), 3) := by decide +kernel
theorem dX6_becomeLike_131 : decode cX6_becomeLike 131 = .ok (.aload_n 0, 1) := by decide +kernel
theorem dX6_becomeLike_132 : decode cX6_becomeLike 132 = .ok (.aload_n 1, 1) := by decide +kernel
theorem dX6_becomeLike_133 : decode cX6_becomeLike 133 = .ok (.getfield 40, 3) := by decide +kernel
theorem dX6_becomeLike_136 : decode cX6_becomeLike 136 = .ok (.putfield 40, 3) := by decide +kernel
theorem dX6_becomeLike_139 : decode cX6_becomeLike 139 = .ok (.aload_n 0, 1) := by decide +kernel
theorem dX6_becomeLike_140 : decode cX6_becomeLike 140 = .ok (.aload_n 1, 1) := by decide +kernel
theorem dX6_becomeLike_141 : decode cX6_becomeLike 141 = .ok (.getfield 44, 3) := by decide +kernel
theorem dX6_becomeLike_144 : decode cX6_becomeLike 144 = .ok (.putfield 44, 3) := by decide +kernel
theorem dX6_becomeLike_147 : decode cX6_becomeLike 147 = .ok (.aload_n 0, 1) := by decide +kernel
theorem dX6_becomeLike_148 : decode cX6_becomeLike 148 = .ok (.aload_n 1, 1) := by decide +kernel
theorem dX6_becomeLike_149 : decode cX6_becomeLike 149 = .ok (.getfield 47, 3) := by decide +kernel
theorem dX6_becomeLike_152 : decode cX6_becomeLike 152 = .ok (.putfield 47, 3) := by decide +kernel
theorem dX6_becomeLike_155 : decode cX6_becomeLike 155 = .ok (.aload_n 0, 1) := by decide +kernel
theorem dX6_becomeLike_156 : decode cX6_becomeLike 156 = .ok (.aload_n 1, 1) := by decide +kernel
theorem dX6_becomeLike_157 : decode cX6_becomeLike 157 = .ok (.getfield 50, 3) := by decide +kernel
theorem dX6_becomeLike_160 : decode cX6_becomeLike 160 = .ok (.putfield 50, 3) := by decide +kernel
theorem dX6_becomeLike_163 : decode cX6_becomeLike 163 = .ok (.aload_n 0, 1) := by decide +kernel
theorem dX6_becomeLike_164 : decode cX6_becomeLike 164 = .ok (.aload_n 1, 1) := by decide +kernel
theorem dX6_becomeLike_165 : decode cX6_becomeLike 165 = .ok (.getfield 56, 3) := by decide +kernel
theorem dX6_becomeLike_168 : decode cX6_becomeLike 168 = .ok (.putfield 56, 3) := by decide +kernel
theorem dX6_becomeLike_171 : decode cX6_becomeLike 171 = .ok (.return_, 1) := by decide +kernel
def f_X6_becomeLike_L107 (t : Nat) (p1 : Nat) (x2_8 : Int32) (u8 : Mem) : Option ((Int32 × Mem) ⊕ (Unit × Mem)) := (if (6 : Int32) ≤ x2_8 then some (Sum.inr ((), sR (sI (sI (sI (sI u8 t 9 (gI u8 p1 9)) t 10 (gI (sI u8 t 9 (gI u8 p1 9)) p1 10)) t 11 (gI (sI (sI u8 t 9 (gI u8 p1 9)) t 10 (gI (sI u8 t 9 (gI u8 p1 9)) p1 10)) p1 11)) t 12 (gI (sI (sI (sI u8 t 9 (gI u8 p1 9)) t 10 (gI (sI u8 t 9 (gI u8 p1 9)) p1 10)) t 11 (gI (sI (sI u8 t 9 (gI u8 p1 9)) t 10 (gI (sI u8 t 9 (gI u8 p1 9)) p1 10)) p1 11)) p1 12)) t 13 (gR (sI (sI (sI (sI u8 t 9 (gI u8 p1 9)) t 10 (gI (sI u8 t 9 (gI u8 p1 9)) p1 10)) t 11 (gI (sI (sI u8 t 9 (gI u8 p1 9)) t 10 (gI (sI u8 t 9 (gI u8 p1 9)) p1 10)) p1 11)) t 12 (gI (sI (sI (sI u8 t 9 (gI u8 p1 9)) t 10 (gI (sI u8 t 9 (gI u8 p1 9)) p1 10)) t 11 (gI (sI (sI u8 t 9 (gI u8 p1 9)) t 10 (gI (sI u8 t 9 (gI u8 p1 9)) p1 10)) p1 11)) p1 12)) p1 13))) else gin x2_8 6 (gin x2_8 6 (some (Sum.inl (x2_8 + (1 : Int32), sA u8 (t + 7) x2_8.toNatClampNeg (vp_nar .boolean (gA u8 (p1 + 7) x2_8.toNatClampNeg)))))))
def f_X6_becomeLike (t : Nat) (p1 : Nat) (u : Mem) : Option (Unit × Mem) := gcp (0 : Int32) (0 : Int32) (8 : Int32) 8 8 (gcp (0 : Int32) (0 : Int32) (8 : Int32) 8 8 (gcp (0 : Int32) (0 : Int32) (6 : Int32) 6 6 (gcp (0 : Int32) (0 : Int32) (6 : Int32) 6 6 (gcp (0 : Int32) (0 : Int32) (6 : Int32) 6 6 (gcp (0 : Int32) (0 : Int32) (6 : Int32) 6 6 (gcp (0 : Int32) (0 : Int32) (24 : Int32) 24 24 (whileO (fun s => f_X6_becomeLike_L107 t p1 s.1 s.2) FUEL ((0 : Int32), sCA (sCA (sCA (sCA (sCA (sCA (sCA u (p1 + 1) (0 : Int32).toNatClampNeg (t + 1) (0 : Int32).toNatClampNeg (8 : Int32).toNatClampNeg) (p1 + 2) (0 : Int32).toNatClampNeg (t + 2) (0 : Int32).toNatClampNeg (8 : Int32).toNatClampNeg) (p1 + 3) (0 : Int32).toNatClampNeg (t + 3) (0 : Int32).toNatClampNeg (6 : Int32).toNatClampNeg) (p1 + 4) (0 : Int32).toNatClampNeg (t + 4) (0 : Int32).toNatClampNeg (6 : Int32).toNatClampNeg) (p1 + 5) (0 : Int32).toNatClampNeg (t + 5) (0 : Int32).toNatClampNeg (6 : Int32).toNatClampNeg) (p1 + 6) (0 : Int32).toNatClampNeg (t + 6) (0 : Int32).toNatClampNeg (6 : Int32).toNatClampNeg) (p1 + 8) (0 : Int32).toNatClampNeg (t + 8) (0 : Int32).toNatClampNeg (24 : Int32).toNatClampNeg))))))))
set_option maxHeartbeats 4000000 in
set_option maxRecDepth 100000 in
theorem k_X6_becomeLike (l : Launch) (D : gDt) (base : Nat) (Z : gZt) (u : Mem) (t : Nat) (p1 : Nat) (u' : Mem) (ho : gok 129 t l6) (hop1 : gok 129 p1 l6) (hf : f_X6_becomeLike t p1 u = some ((), u')) : Met l yX6_becomeLike (gws yX6_becomeLike cX6_becomeLike 3 (none)) (gRm 1 0 0) (gPc D base Z u [.ref (base + t), .ref (base + p1)]) (gQv D base u') 0 0 (gF base) := by
  refine Met.ofW (cc := cX6_becomeLike) (maxL := 3) (ret := none) (by decide) rfl ?_
  intro p e s m args below meth c s₁ B hml hv
  obtain ⟨rfl, C0, hG⟩ := g_enter B hml hv
  have hr := B.returns
  have C0 : gC p s m meth c _ cX6_becomeLike 3 RX6 D base Z := C0
  have hx := C0.1
  have hb := C0.2.1
  have hl := lv_entry ([.ref (base + t), .ref (base + p1)]) (n := 3) (Nat.le_of_ble_eq_true rfl)
  rw [lg_entry_eq]
  generalize (lg_sl ([.ref (base + t), .ref (base + p1)]) ++ List.replicate (3 - (lg_sl ([.ref (base + t), .ref (base + p1)])).length) Slot.unset).toArray = ls at hl ⊢
  have hl : lv_has ls 3 [(0, .ref (base + t)), (1, .ref (base + p1))] := hl
  obtain ⟨Q, hQ⟩ : ∃ Q, Q = MQ below (gQv D base u') ([.ref (base + t), .ref (base + p1)] : List Value).toArray s 0 0 (gF base) := ⟨_, rfl⟩
  rw [← hQ]
  change W p l e (gRm 1 0 0) s m _ below meth c _ _ _ _ _ _
  unfold f_X6_becomeLike at hf
  refine lv_aload_n hx hb dX6_becomeLike_0 rfl (lv_at hl 1 rfl) ?_
  refine g_getSa (o := 1) (a := (p1 + 1)) C0 hG (T6_0 hG hop1) rfl 0 (by decide) rfl rfl w_154 dX6_becomeLike_1 ?_
  refine lv_iconst (v := (0 : Int32)) hx hb dX6_becomeLike_4 (by decide) ?_
  refine lv_aload_n hx hb dX6_becomeLike_5 rfl (lv_at hl 0 rfl) ?_
  refine g_getSa (o := 1) (a := (t + 1)) C0 hG (T6_0 hG ho) rfl 0 (by decide) rfl rfl w_154 dX6_becomeLike_6 ?_
  refine lv_iconst (v := (0 : Int32)) hx hb dX6_becomeLike_9 (by decide) ?_
  refine lv_bipush (v := (8 : Int32)) hx hb dX6_becomeLike_10 (by decide) ?_
  obtain ⟨h1, hf⟩ := gcp_s hf
  refine g_copyA C0 hG w_667 ac_n ac_s ac_i hl.1 (T6_1 hG hop1) (T6_1 hG ho) h1 ⟨Nat.le_of_ble_eq_true rfl, Nat.le_of_ble_eq_true rfl⟩ dX6_becomeLike_12 (fun H locs hG => ?_)
  refine lv_aload_n hx hb dX6_becomeLike_15 rfl (lv_at hl 1 rfl) ?_
  refine g_getSa (o := 2) (a := (p1 + 2)) C0 hG (T6_0 hG hop1) rfl 1 (by decide) rfl rfl w_156 dX6_becomeLike_16 ?_
  refine lv_iconst (v := (0 : Int32)) hx hb dX6_becomeLike_19 (by decide) ?_
  refine lv_aload_n hx hb dX6_becomeLike_20 rfl (lv_at hl 0 rfl) ?_
  refine g_getSa (o := 2) (a := (t + 2)) C0 hG (T6_0 hG ho) rfl 1 (by decide) rfl rfl w_156 dX6_becomeLike_21 ?_
  refine lv_iconst (v := (0 : Int32)) hx hb dX6_becomeLike_24 (by decide) ?_
  refine lv_bipush (v := (8 : Int32)) hx hb dX6_becomeLike_25 (by decide) ?_
  obtain ⟨h2, hf⟩ := gcp_s hf
  refine g_copyA C0 hG w_667 ac_n ac_s ac_i hl.1 (T6_2 hG hop1) (T6_2 hG ho) h2 ⟨Nat.le_of_ble_eq_true rfl, Nat.le_of_ble_eq_true rfl⟩ dX6_becomeLike_27 (fun H locs hG => ?_)
  refine lv_aload_n hx hb dX6_becomeLike_30 rfl (lv_at hl 1 rfl) ?_
  refine g_getSa (o := 3) (a := (p1 + 3)) C0 hG (T6_0 hG hop1) rfl 2 (by decide) rfl rfl w_158 dX6_becomeLike_31 ?_
  refine lv_iconst (v := (0 : Int32)) hx hb dX6_becomeLike_34 (by decide) ?_
  refine lv_aload_n hx hb dX6_becomeLike_35 rfl (lv_at hl 0 rfl) ?_
  refine g_getSa (o := 3) (a := (t + 3)) C0 hG (T6_0 hG ho) rfl 2 (by decide) rfl rfl w_158 dX6_becomeLike_36 ?_
  refine lv_iconst (v := (0 : Int32)) hx hb dX6_becomeLike_39 (by decide) ?_
  refine lv_bipush (v := (6 : Int32)) hx hb dX6_becomeLike_40 (by decide) ?_
  obtain ⟨h3, hf⟩ := gcp_s hf
  refine g_copyA C0 hG w_667 ac_n ac_s ac_i hl.1 (T6_3 hG hop1) (T6_3 hG ho) h3 ⟨Nat.le_of_ble_eq_true rfl, Nat.le_of_ble_eq_true rfl⟩ dX6_becomeLike_42 (fun H locs hG => ?_)
  refine lv_aload_n hx hb dX6_becomeLike_45 rfl (lv_at hl 1 rfl) ?_
  refine g_getSa (o := 4) (a := (p1 + 4)) C0 hG (T6_0 hG hop1) rfl 3 (by decide) rfl rfl w_160 dX6_becomeLike_46 ?_
  refine lv_iconst (v := (0 : Int32)) hx hb dX6_becomeLike_49 (by decide) ?_
  refine lv_aload_n hx hb dX6_becomeLike_50 rfl (lv_at hl 0 rfl) ?_
  refine g_getSa (o := 4) (a := (t + 4)) C0 hG (T6_0 hG ho) rfl 3 (by decide) rfl rfl w_160 dX6_becomeLike_51 ?_
  refine lv_iconst (v := (0 : Int32)) hx hb dX6_becomeLike_54 (by decide) ?_
  refine lv_bipush (v := (6 : Int32)) hx hb dX6_becomeLike_55 (by decide) ?_
  obtain ⟨h4, hf⟩ := gcp_s hf
  refine g_copyA C0 hG w_667 ac_n ac_s ac_i hl.1 (T6_4 hG hop1) (T6_4 hG ho) h4 ⟨Nat.le_of_ble_eq_true rfl, Nat.le_of_ble_eq_true rfl⟩ dX6_becomeLike_57 (fun H locs hG => ?_)
  refine lv_aload_n hx hb dX6_becomeLike_60 rfl (lv_at hl 1 rfl) ?_
  refine g_getSa (o := 5) (a := (p1 + 5)) C0 hG (T6_0 hG hop1) rfl 4 (by decide) rfl rfl w_162 dX6_becomeLike_61 ?_
  refine lv_iconst (v := (0 : Int32)) hx hb dX6_becomeLike_64 (by decide) ?_
  refine lv_aload_n hx hb dX6_becomeLike_65 rfl (lv_at hl 0 rfl) ?_
  refine g_getSa (o := 5) (a := (t + 5)) C0 hG (T6_0 hG ho) rfl 4 (by decide) rfl rfl w_162 dX6_becomeLike_66 ?_
  refine lv_iconst (v := (0 : Int32)) hx hb dX6_becomeLike_69 (by decide) ?_
  refine lv_bipush (v := (6 : Int32)) hx hb dX6_becomeLike_70 (by decide) ?_
  obtain ⟨h5, hf⟩ := gcp_s hf
  refine g_copyA C0 hG w_667 ac_n ac_s ac_i hl.1 (T6_5 hG hop1) (T6_5 hG ho) h5 ⟨Nat.le_of_ble_eq_true rfl, Nat.le_of_ble_eq_true rfl⟩ dX6_becomeLike_72 (fun H locs hG => ?_)
  refine lv_aload_n hx hb dX6_becomeLike_75 rfl (lv_at hl 1 rfl) ?_
  refine g_getSa (o := 6) (a := (p1 + 6)) C0 hG (T6_0 hG hop1) rfl 5 (by decide) rfl rfl w_164 dX6_becomeLike_76 ?_
  refine lv_iconst (v := (0 : Int32)) hx hb dX6_becomeLike_79 (by decide) ?_
  refine lv_aload_n hx hb dX6_becomeLike_80 rfl (lv_at hl 0 rfl) ?_
  refine g_getSa (o := 6) (a := (t + 6)) C0 hG (T6_0 hG ho) rfl 5 (by decide) rfl rfl w_164 dX6_becomeLike_81 ?_
  refine lv_iconst (v := (0 : Int32)) hx hb dX6_becomeLike_84 (by decide) ?_
  refine lv_bipush (v := (6 : Int32)) hx hb dX6_becomeLike_85 (by decide) ?_
  obtain ⟨h6, hf⟩ := gcp_s hf
  refine g_copyA C0 hG w_667 ac_n ac_s ac_i hl.1 (T6_6 hG hop1) (T6_6 hG ho) h6 ⟨Nat.le_of_ble_eq_true rfl, Nat.le_of_ble_eq_true rfl⟩ dX6_becomeLike_87 (fun H locs hG => ?_)
  refine lv_aload_n hx hb dX6_becomeLike_90 rfl (lv_at hl 1 rfl) ?_
  refine g_getSa (o := 8) (a := (p1 + 8)) C0 hG (T6_0 hG hop1) rfl 7 (by decide) rfl rfl w_168 dX6_becomeLike_91 ?_
  refine lv_iconst (v := (0 : Int32)) hx hb dX6_becomeLike_94 (by decide) ?_
  refine lv_aload_n hx hb dX6_becomeLike_95 rfl (lv_at hl 0 rfl) ?_
  refine g_getSa (o := 8) (a := (t + 8)) C0 hG (T6_0 hG ho) rfl 7 (by decide) rfl rfl w_168 dX6_becomeLike_96 ?_
  refine lv_iconst (v := (0 : Int32)) hx hb dX6_becomeLike_99 (by decide) ?_
  refine lv_bipush (v := (24 : Int32)) hx hb dX6_becomeLike_100 (by decide) ?_
  obtain ⟨h7, hf⟩ := gcp_s hf
  refine g_copyA C0 hG w_667 ac_n ac_s ac_i hl.1 (T6_8 hG hop1) (T6_8 hG ho) h7 ⟨Nat.le_of_ble_eq_true rfl, Nat.le_of_ble_eq_true rfl⟩ dX6_becomeLike_102 (fun H locs hG => ?_)
  refine lv_iconst (v := (0 : Int32)) hx hb dX6_becomeLike_105 (by decide) ?_
  refine lv_istore_n (lv' := [(2, .int (0 : Int32)), (0, .ref (base + t)), (1, .ref (base + p1))]) hx hb dX6_becomeLike_106 rfl hl (by decide) rfl (fun ls hl => ?_)
  have loop8 : ∀ (n8 : Nat) (x2_8 : Int32) (u8 : Mem) (H : Heap) (locs : List Loc) (ls : Array Slot), gH D base s u8 H locs → lv_has ls 3 [(0, .ref (base + t)), (1, .ref (base + p1)), (2, .int x2_8)] → whileO (fun s => f_X6_becomeLike_L107 t p1 s.1 s.2) n8 (x2_8, u8) = some ((), u') → W p l e (gRm 1 0 0) s m ([.ref (base + t), .ref (base + p1)] : List Value).toArray below meth c H locs 0 0 Q (F0 m 107 ls []) := by
    intro n8
    induction n8 with
    | zero => intro x2_8 u8 H locs ls hG hl hf; cases hf
    | succ n8 ih8 =>
      intro x2_8 u8 H locs ls hG hl hf
      obtain ⟨X8, hf, hX8⟩ := while_s hf
      have hf : f_X6_becomeLike_L107 t p1 x2_8 u8 = some X8 := hf
      unfold f_X6_becomeLike_L107 at hf
      refine lv_iload_n hx hb dX6_becomeLike_107 rfl (lv_at hl 2 rfl) ?_
      refine lv_bipush (v := (6 : Int32)) hx hb dX6_becomeLike_108 (by decide) ?_
      refine lv_icmp_ge (tgt := 131) hx hb dX6_becomeLike_110 (by decide) (fun c9 => ?_) (fun c9 => ?_)
      · have hf := gif_t c9 hf
        refine lv_aload_n hx hb dX6_becomeLike_131 rfl (lv_at hl 0 rfl) ?_
        refine lv_aload_n hx hb dX6_becomeLike_132 rfl (lv_at hl 1 rfl) ?_
        refine g_getI C0 hG (T6_0 hG hop1) rfl 9 (by decide) rfl w_171 dX6_becomeLike_133 ?_
        refine g_putI (ty := .int) C0 hG (T6_0 hG ho) rfl 9 (by decide) rfl w_171 rfl (by decide) rfl rfl dX6_becomeLike_136 (fun H locs hG => ?_)
        refine lv_aload_n hx hb dX6_becomeLike_139 rfl (lv_at hl 0 rfl) ?_
        refine lv_aload_n hx hb dX6_becomeLike_140 rfl (lv_at hl 1 rfl) ?_
        refine g_getI C0 hG (T6_0 hG hop1) rfl 10 (by decide) rfl w_173 dX6_becomeLike_141 ?_
        refine g_putI (ty := .int) C0 hG (T6_0 hG ho) rfl 10 (by decide) rfl w_173 rfl (by decide) rfl rfl dX6_becomeLike_144 (fun H locs hG => ?_)
        refine lv_aload_n hx hb dX6_becomeLike_147 rfl (lv_at hl 0 rfl) ?_
        refine lv_aload_n hx hb dX6_becomeLike_148 rfl (lv_at hl 1 rfl) ?_
        refine g_getI C0 hG (T6_0 hG hop1) rfl 11 (by decide) rfl w_175 dX6_becomeLike_149 ?_
        refine g_putI (ty := .int) C0 hG (T6_0 hG ho) rfl 11 (by decide) rfl w_175 rfl (by decide) rfl rfl dX6_becomeLike_152 (fun H locs hG => ?_)
        refine lv_aload_n hx hb dX6_becomeLike_155 rfl (lv_at hl 0 rfl) ?_
        refine lv_aload_n hx hb dX6_becomeLike_156 rfl (lv_at hl 1 rfl) ?_
        refine g_getI C0 hG (T6_0 hG hop1) rfl 12 (by decide) rfl w_177 dX6_becomeLike_157 ?_
        refine g_putI (ty := .int) C0 hG (T6_0 hG ho) rfl 12 (by decide) rfl w_177 rfl (by decide) rfl rfl dX6_becomeLike_160 (fun H locs hG => ?_)
        refine lv_aload_n hx hb dX6_becomeLike_163 rfl (lv_at hl 0 rfl) ?_
        refine lv_aload_n hx hb dX6_becomeLike_164 rfl (lv_at hl 1 rfl) ?_
        refine g_getD C0 hG (T6_0 hG hop1) rfl 13 (by decide) rfl w_179 dX6_becomeLike_165 ?_
        refine g_putR (ty := .object "GossipTrain$Branch") C0 hG (T6_0 hG ho) rfl 13 (by decide) rfl w_179 rfl (by decide) (fun _ => rfl) (fun _ => rfl) dX6_becomeLike_168 (fun H locs hG => ?_)
        have hf := while_r hX8 hf
        obtain ⟨-, hu⟩ := gret_s hf
        subst hu
        subst hQ
        exact g_vret C0 hG hr dX6_becomeLike_171
      · have hf := gif_f c9 hf
        refine lv_aload_n hx hb dX6_becomeLike_113 rfl (lv_at hl 0 rfl) ?_
        refine g_getSa (o := 7) (a := (t + 7)) C0 hG (T6_0 hG ho) rfl 6 (by decide) rfl rfl w_166 dX6_becomeLike_114 ?_
        refine lv_iload_n hx hb dX6_becomeLike_117 rfl (lv_at hl 2 rfl) ?_
        refine lv_aload_n hx hb dX6_becomeLike_118 rfl (lv_at hl 1 rfl) ?_
        refine g_getSa (o := 7) (a := (p1 + 7)) C0 hG (T6_0 hG hop1) rfl 6 (by decide) rfl rfl w_166 dX6_becomeLike_119 ?_
        refine lv_iload_n hx hb dX6_becomeLike_122 rfl (lv_at hl 2 rfl) ?_
        obtain ⟨h10, hf⟩ := gin_s hf
        refine g_zald C0 hG (T6_7 hG hop1) h10 dX6_becomeLike_123 ?_
        obtain ⟨h11, hf⟩ := gin_s hf
        refine g_zast C0 hG (T6_7 hG ho) h11 dX6_becomeLike_124 (fun H locs hG => ?_)
        refine lv_iinc (v := x2_8 + (1 : Int32)) (lv' := [(2, .int (x2_8 + (1 : Int32))), (0, .ref (base + t)), (1, .ref (base + p1))]) hx hb dX6_becomeLike_125 hl (k := 2) rfl rfl (by decide) rfl (fun ls hl => ?_)
        refine lv_goto (tgt := 107) hx hb dX6_becomeLike_128 (by decide) ?_
        have hf := while_l hX8 hf
        exact ih8 (x2_8 + (1 : Int32)) (sA u8 (t + 7) x2_8.toNatClampNeg (vp_nar .boolean (gA u8 (p1 + 7) x2_8.toNatClampNeg))) _ _ ls hG (lv_sub hl [1, 2, 0] rfl) hf
  exact loop8 FUEL (0 : Int32) (sCA (sCA (sCA (sCA (sCA (sCA (sCA u (p1 + 1) (0 : Int32).toNatClampNeg (t + 1) (0 : Int32).toNatClampNeg (8 : Int32).toNatClampNeg) (p1 + 2) (0 : Int32).toNatClampNeg (t + 2) (0 : Int32).toNatClampNeg (8 : Int32).toNatClampNeg) (p1 + 3) (0 : Int32).toNatClampNeg (t + 3) (0 : Int32).toNatClampNeg (6 : Int32).toNatClampNeg) (p1 + 4) (0 : Int32).toNatClampNeg (t + 4) (0 : Int32).toNatClampNeg (6 : Int32).toNatClampNeg) (p1 + 5) (0 : Int32).toNatClampNeg (t + 5) (0 : Int32).toNatClampNeg (6 : Int32).toNatClampNeg) (p1 + 6) (0 : Int32).toNatClampNeg (t + 6) (0 : Int32).toNatClampNeg (6 : Int32).toNatClampNeg) (p1 + 8) (0 : Int32).toNatClampNeg (t + 8) (0 : Int32).toNatClampNeg (24 : Int32).toNatClampNeg) _ _ ls hG (lv_sub hl [1, 2, 0] rfl) hf
