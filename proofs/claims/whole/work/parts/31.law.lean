def f_L_18 (xs : Nat → Int32) (L : Nat) (i : Int32) (u : Mem) : Option Mem := gin (i + (1 : Int32)) L (gin (i + (2 : Int32)) L (gin (i + (3 : Int32)) L (obind (f_X7_odds (xs (i + (1 : Int32)).toNatClampNeg) (xs (i + (2 : Int32)).toNatClampNeg) (xs (i + (3 : Int32)).toNatClampNeg) u) (fun r4 u4 => gin (i + (1 : Int32)) L (gin (i + (2 : Int32)) L (gin (i + (3 : Int32)) L (obind (f_X8_odds (xs (i + (1 : Int32)).toNatClampNeg) (xs (i + (2 : Int32)).toNatClampNeg) (xs (i + (3 : Int32)).toNatClampNeg) u4) (fun r8 u8 => (if (lg_cmp r4 r8) = 0 then some u8 else none)))))))))
set_option maxHeartbeats 4000000 in
set_option maxRecDepth 100000 in
theorem k_L_18 {p : Program} {l : Launch} {e : Env} {s : State} {m : MethodId} {below : List Frame} {meth : Method} {c : Code} {H : Heap} {locs : List Loc} {cells slots : Nat} {Q : State → Prop} {ls : Array Slot} {D : gDt} {base : Nat} {Z : gZt} {b L : Nat} {xs : Nat → Int32} {i : Int32} {u u2 : Mem} (C0 : gC p s m meth c (#[Value.ref b] : Array Value) code 4 R_law D base Z) (hX : va_X b L xs s s.heap) (hbl : b < s.heap.size) (hbA : ¬ gF base b) (hcl : cells + 2 ≤ 600000 ∧ slots + 103 ≤ 7302250) (hl : lv_has ls 4 [(0, .ref b), (1, .ref (base + 0)), (2, .ref (base + 82)), (3, .int i)]) (hG : gH D base s u H locs) (hf : f_L_18 xs L i u = some u2) (kk : ∀ (H : Heap) (locs : List Loc), gH D base s u2 H locs → W p l e room_1 s m (#[Value.ref b] : Array Value) below meth c H locs (cells + 2) (slots + 103) Q (F0 m 1362 ls [])) : W p l e room_1 s m (#[Value.ref b] : Array Value) below meth c H locs cells slots Q (F0 m 788 ls []) := by
  have hx := C0.1
  have hb := C0.2.1
  unfold f_L_18 at hf
  refine lv_aload_n hx hb dL_law_788 rfl (lv_at hl 1 rfl) ?_
  refine lv_aload_n hx hb dL_law_789 rfl (lv_at hl 0 rfl) ?_
  refine lv_iload_n hx hb dL_law_790 rfl (lv_at hl 3 rfl) ?_
  refine lv_iconst (v := (1 : Int32)) hx hb dL_law_791 (by decide) ?_
  refine lv_iadd hx hb dL_law_792 ?_
  obtain ⟨h1, hf⟩ := gin_s hf
  refine va_sld hx hb hX hbl hbA hG.2 h1 dL_law_793 ?_
  refine lv_aload_n hx hb dL_law_794 rfl (lv_at hl 0 rfl) ?_
  refine lv_iload_n hx hb dL_law_795 rfl (lv_at hl 3 rfl) ?_
  refine lv_iconst (v := (2 : Int32)) hx hb dL_law_796 (by decide) ?_
  refine lv_iadd hx hb dL_law_797 ?_
  obtain ⟨h2, hf⟩ := gin_s hf
  refine va_sld hx hb hX hbl hbA hG.2 h2 dL_law_798 ?_
  refine lv_aload_n hx hb dL_law_799 rfl (lv_at hl 0 rfl) ?_
  refine lv_iload_n hx hb dL_law_800 rfl (lv_at hl 3 rfl) ?_
  refine lv_iconst (v := (3 : Int32)) hx hb dL_law_801 (by decide) ?_
  refine lv_iadd hx hb dL_law_802 ?_
  obtain ⟨h3, hf⟩ := gin_s hf
  refine va_sld hx hb hX hbl hbA hG.2 h3 dL_law_803 ?_
  obtain ⟨r4, u4, hc4, hf⟩ := obind_s hf
  refine g_doL0 hG (g_runV C0 hG (k_X7_odds l D base Z u (xs (i + (1 : Int32)).toNatClampNeg) (xs (i + (2 : Int32)).toNatClampNeg) (xs (i + (3 : Int32)).toNatClampNeg) r4 u4 hc4) m_X7_odds v_X7_odds w_708 ⟨by decide, by decide⟩ (g_recv C0 hG (L0 hG) rfl) rfl hl.1 rfl (Nat.le_of_ble_eq_true rfl) dL_law_804 ⟨by have := hcl.1; show _ ≤ 600000; omega, by have := hcl.2; show _ ≤ 7302250; omega⟩) (fun H locs hG hk => ?_)
  refine lv_aload_n hx hb dL_law_807 rfl (lv_at hl 2 rfl) ?_
  refine lv_aload_n hx hb dL_law_808 rfl (lv_at hl 0 rfl) ?_
  refine lv_iload_n hx hb dL_law_809 rfl (lv_at hl 3 rfl) ?_
  refine lv_iconst (v := (1 : Int32)) hx hb dL_law_810 (by decide) ?_
  refine lv_iadd hx hb dL_law_811 ?_
  obtain ⟨h5, hf⟩ := gin_s hf
  refine va_sld hx hb hX hbl hbA hG.2 h5 dL_law_812 ?_
  refine lv_aload_n hx hb dL_law_813 rfl (lv_at hl 0 rfl) ?_
  refine lv_iload_n hx hb dL_law_814 rfl (lv_at hl 3 rfl) ?_
  refine lv_iconst (v := (2 : Int32)) hx hb dL_law_815 (by decide) ?_
  refine lv_iadd hx hb dL_law_816 ?_
  obtain ⟨h6, hf⟩ := gin_s hf
  refine va_sld hx hb hX hbl hbA hG.2 h6 dL_law_817 ?_
  refine lv_aload_n hx hb dL_law_818 rfl (lv_at hl 0 rfl) ?_
  refine lv_iload_n hx hb dL_law_819 rfl (lv_at hl 3 rfl) ?_
  refine lv_iconst (v := (3 : Int32)) hx hb dL_law_820 (by decide) ?_
  refine lv_iadd hx hb dL_law_821 ?_
  obtain ⟨h7, hf⟩ := gin_s hf
  refine va_sld hx hb hX hbl hbA hG.2 h7 dL_law_822 ?_
  obtain ⟨r8, u8, hc8, hf⟩ := obind_s hf
  refine g_doL0 hG (g_runV C0 hG (k_X8_odds l D base Z u4 (xs (i + (1 : Int32)).toNatClampNeg) (xs (i + (2 : Int32)).toNatClampNeg) (xs (i + (3 : Int32)).toNatClampNeg) r8 u8 hc8) m_X8_odds v_X8_odds w_1323 ⟨by decide, by decide⟩ (g_recv C0 hG (L82 hG) rfl) rfl hl.1 rfl (Nat.le_of_ble_eq_true rfl) dL_law_823 ⟨by have := hcl.1; show _ ≤ 600000; omega, by have := hcl.2; show _ ≤ 7302250; omega⟩) (fun H locs hG hk => ?_)
  refine W.lcmp hx hb dL_law_826 ?_
  refine lv_if_eq (tgt := 1362) hx hb dL_law_827 (by decide) (fun c9 => ?_) (fun c9 => ?_)
  · have hf := gif_t c9 hf
    obtain rfl := Option.some.inj hf
    refine W.widen (k := cells + 2) (n := slots + 103) (by omega) (by omega) ?_
    exact kk _ _ hG
  · have hf := gif_f c9 hf
    cases hf
def f_L_19 (xs : Nat → Int32) (L : Nat) (i : Int32) (u : Mem) : Option Mem := gin (i + (1 : Int32)) L (gin (i + (2 : Int32)) L (obind (f_X7_mean (xs (i + (1 : Int32)).toNatClampNeg) (xs (i + (2 : Int32)).toNatClampNeg) u) (fun r3 u3 => gin (i + (1 : Int32)) L (gin (i + (2 : Int32)) L (obind (f_X8_mean (xs (i + (1 : Int32)).toNatClampNeg) (xs (i + (2 : Int32)).toNatClampNeg) u3) (fun r6 u6 => (if (lg_cmp r3 r6) = 0 then some u6 else none)))))))
set_option maxHeartbeats 4000000 in
set_option maxRecDepth 100000 in
theorem k_L_19 {p : Program} {l : Launch} {e : Env} {s : State} {m : MethodId} {below : List Frame} {meth : Method} {c : Code} {H : Heap} {locs : List Loc} {cells slots : Nat} {Q : State → Prop} {ls : Array Slot} {D : gDt} {base : Nat} {Z : gZt} {b L : Nat} {xs : Nat → Int32} {i : Int32} {u u2 : Mem} (C0 : gC p s m meth c (#[Value.ref b] : Array Value) code 4 R_law D base Z) (hX : va_X b L xs s s.heap) (hbl : b < s.heap.size) (hbA : ¬ gF base b) (hcl : cells + 2 ≤ 600000 ∧ slots + 103 ≤ 7302250) (hl : lv_has ls 4 [(0, .ref b), (1, .ref (base + 0)), (2, .ref (base + 82)), (3, .int i)]) (hG : gH D base s u H locs) (hf : f_L_19 xs L i u = some u2) (kk : ∀ (H : Heap) (locs : List Loc), gH D base s u2 H locs → W p l e room_1 s m (#[Value.ref b] : Array Value) below meth c H locs (cells + 2) (slots + 103) Q (F0 m 1362 ls [])) : W p l e room_1 s m (#[Value.ref b] : Array Value) below meth c H locs cells slots Q (F0 m 832 ls []) := by
  have hx := C0.1
  have hb := C0.2.1
  unfold f_L_19 at hf
  refine lv_aload_n hx hb dL_law_832 rfl (lv_at hl 1 rfl) ?_
  refine lv_aload_n hx hb dL_law_833 rfl (lv_at hl 0 rfl) ?_
  refine lv_iload_n hx hb dL_law_834 rfl (lv_at hl 3 rfl) ?_
  refine lv_iconst (v := (1 : Int32)) hx hb dL_law_835 (by decide) ?_
  refine lv_iadd hx hb dL_law_836 ?_
  obtain ⟨h1, hf⟩ := gin_s hf
  refine va_sld hx hb hX hbl hbA hG.2 h1 dL_law_837 ?_
  refine lv_aload_n hx hb dL_law_838 rfl (lv_at hl 0 rfl) ?_
  refine lv_iload_n hx hb dL_law_839 rfl (lv_at hl 3 rfl) ?_
  refine lv_iconst (v := (2 : Int32)) hx hb dL_law_840 (by decide) ?_
  refine lv_iadd hx hb dL_law_841 ?_
  obtain ⟨h2, hf⟩ := gin_s hf
  refine va_sld hx hb hX hbl hbA hG.2 h2 dL_law_842 ?_
  obtain ⟨r3, u3, hc3, hf⟩ := obind_s hf
  refine g_doL0 hG (g_runV C0 hG (k_X7_mean l D base Z u (xs (i + (1 : Int32)).toNatClampNeg) (xs (i + (2 : Int32)).toNatClampNeg) r3 u3 hc3) m_X7_mean v_X7_mean w_716 ⟨by decide, by decide⟩ (g_recv C0 hG (L0 hG) rfl) rfl hl.1 rfl (Nat.le_of_ble_eq_true rfl) dL_law_843 ⟨by have := hcl.1; show _ ≤ 600000; omega, by have := hcl.2; show _ ≤ 7302250; omega⟩) (fun H locs hG hk => ?_)
  refine lv_aload_n hx hb dL_law_846 rfl (lv_at hl 2 rfl) ?_
  refine lv_aload_n hx hb dL_law_847 rfl (lv_at hl 0 rfl) ?_
  refine lv_iload_n hx hb dL_law_848 rfl (lv_at hl 3 rfl) ?_
  refine lv_iconst (v := (1 : Int32)) hx hb dL_law_849 (by decide) ?_
  refine lv_iadd hx hb dL_law_850 ?_
  obtain ⟨h4, hf⟩ := gin_s hf
  refine va_sld hx hb hX hbl hbA hG.2 h4 dL_law_851 ?_
  refine lv_aload_n hx hb dL_law_852 rfl (lv_at hl 0 rfl) ?_
  refine lv_iload_n hx hb dL_law_853 rfl (lv_at hl 3 rfl) ?_
  refine lv_iconst (v := (2 : Int32)) hx hb dL_law_854 (by decide) ?_
  refine lv_iadd hx hb dL_law_855 ?_
  obtain ⟨h5, hf⟩ := gin_s hf
  refine va_sld hx hb hX hbl hbA hG.2 h5 dL_law_856 ?_
  obtain ⟨r6, u6, hc6, hf⟩ := obind_s hf
  refine g_doL0 hG (g_runV C0 hG (k_X8_mean l D base Z u3 (xs (i + (1 : Int32)).toNatClampNeg) (xs (i + (2 : Int32)).toNatClampNeg) r6 u6 hc6) m_X8_mean v_X8_mean w_1336 ⟨by decide, by decide⟩ (g_recv C0 hG (L82 hG) rfl) rfl hl.1 rfl (Nat.le_of_ble_eq_true rfl) dL_law_857 ⟨by have := hcl.1; show _ ≤ 600000; omega, by have := hcl.2; show _ ≤ 7302250; omega⟩) (fun H locs hG hk => ?_)
  refine W.lcmp hx hb dL_law_860 ?_
  refine lv_if_eq (tgt := 1362) hx hb dL_law_861 (by decide) (fun c7 => ?_) (fun c7 => ?_)
  · have hf := gif_t c7 hf
    obtain rfl := Option.some.inj hf
    refine W.widen (k := cells + 2) (n := slots + 103) (by omega) (by omega) ?_
    exact kk _ _ hG
  · have hf := gif_f c7 hf
    cases hf
def f_L_20 (xs : Nat → Int32) (L : Nat) (i : Int32) (u : Mem) : Option Mem := gin (i + (1 : Int32)) L (gin (i + (2 : Int32)) L (obind (f_X7_plan (xs (i + (1 : Int32)).toNatClampNeg) (xs (i + (2 : Int32)).toNatClampNeg) u) (fun r3 u3 => gin (i + (1 : Int32)) L (gin (i + (2 : Int32)) L (obind (f_X8_plan (xs (i + (1 : Int32)).toNatClampNeg) (xs (i + (2 : Int32)).toNatClampNeg) u3) (fun r6 u6 => (if r3 = r6 then some u6 else none)))))))
set_option maxHeartbeats 4000000 in
set_option maxRecDepth 100000 in
theorem k_L_20 {p : Program} {l : Launch} {e : Env} {s : State} {m : MethodId} {below : List Frame} {meth : Method} {c : Code} {H : Heap} {locs : List Loc} {cells slots : Nat} {Q : State → Prop} {ls : Array Slot} {D : gDt} {base : Nat} {Z : gZt} {b L : Nat} {xs : Nat → Int32} {i : Int32} {u u2 : Mem} (C0 : gC p s m meth c (#[Value.ref b] : Array Value) code 4 R_law D base Z) (hX : va_X b L xs s s.heap) (hbl : b < s.heap.size) (hbA : ¬ gF base b) (hcl : cells + 2 ≤ 600000 ∧ slots + 103 ≤ 7302250) (hl : lv_has ls 4 [(0, .ref b), (1, .ref (base + 0)), (2, .ref (base + 82)), (3, .int i)]) (hG : gH D base s u H locs) (hf : f_L_20 xs L i u = some u2) (kk : ∀ (H : Heap) (locs : List Loc), gH D base s u2 H locs → W p l e room_1 s m (#[Value.ref b] : Array Value) below meth c H locs (cells + 2) (slots + 103) Q (F0 m 1362 ls [])) : W p l e room_1 s m (#[Value.ref b] : Array Value) below meth c H locs cells slots Q (F0 m 866 ls []) := by
  have hx := C0.1
  have hb := C0.2.1
  unfold f_L_20 at hf
  refine lv_aload_n hx hb dL_law_866 rfl (lv_at hl 1 rfl) ?_
  refine lv_aload_n hx hb dL_law_867 rfl (lv_at hl 0 rfl) ?_
  refine lv_iload_n hx hb dL_law_868 rfl (lv_at hl 3 rfl) ?_
  refine lv_iconst (v := (1 : Int32)) hx hb dL_law_869 (by decide) ?_
  refine lv_iadd hx hb dL_law_870 ?_
  obtain ⟨h1, hf⟩ := gin_s hf
  refine va_sld hx hb hX hbl hbA hG.2 h1 dL_law_871 ?_
  refine lv_aload_n hx hb dL_law_872 rfl (lv_at hl 0 rfl) ?_
  refine lv_iload_n hx hb dL_law_873 rfl (lv_at hl 3 rfl) ?_
  refine lv_iconst (v := (2 : Int32)) hx hb dL_law_874 (by decide) ?_
  refine lv_iadd hx hb dL_law_875 ?_
  obtain ⟨h2, hf⟩ := gin_s hf
  refine va_sld hx hb hX hbl hbA hG.2 h2 dL_law_876 ?_
  obtain ⟨r3, u3, hc3, hf⟩ := obind_s hf
  refine g_doI0 hG (g_runV C0 hG (k_X7_plan l D base Z u (xs (i + (1 : Int32)).toNatClampNeg) (xs (i + (2 : Int32)).toNatClampNeg) r3 u3 hc3) m_X7_plan v_X7_plan w_726 ⟨by decide, by decide⟩ (g_recv C0 hG (L0 hG) rfl) rfl hl.1 rfl (Nat.le_of_ble_eq_true rfl) dL_law_877 ⟨by have := hcl.1; show _ ≤ 600000; omega, by have := hcl.2; show _ ≤ 7302250; omega⟩) (fun H locs hG hk => ?_)
  refine lv_aload_n hx hb dL_law_880 rfl (lv_at hl 2 rfl) ?_
  refine lv_aload_n hx hb dL_law_881 rfl (lv_at hl 0 rfl) ?_
  refine lv_iload_n hx hb dL_law_882 rfl (lv_at hl 3 rfl) ?_
  refine lv_iconst (v := (1 : Int32)) hx hb dL_law_883 (by decide) ?_
  refine lv_iadd hx hb dL_law_884 ?_
  obtain ⟨h4, hf⟩ := gin_s hf
  refine va_sld hx hb hX hbl hbA hG.2 h4 dL_law_885 ?_
  refine lv_aload_n hx hb dL_law_886 rfl (lv_at hl 0 rfl) ?_
  refine lv_iload_n hx hb dL_law_887 rfl (lv_at hl 3 rfl) ?_
  refine lv_iconst (v := (2 : Int32)) hx hb dL_law_888 (by decide) ?_
  refine lv_iadd hx hb dL_law_889 ?_
  obtain ⟨h5, hf⟩ := gin_s hf
  refine va_sld hx hb hX hbl hbA hG.2 h5 dL_law_890 ?_
  obtain ⟨r6, u6, hc6, hf⟩ := obind_s hf
  refine g_doI0 hG (g_runV C0 hG (k_X8_plan l D base Z u3 (xs (i + (1 : Int32)).toNatClampNeg) (xs (i + (2 : Int32)).toNatClampNeg) r6 u6 hc6) m_X8_plan v_X8_plan w_1344 ⟨by decide, by decide⟩ (g_recv C0 hG (L82 hG) rfl) rfl hl.1 rfl (Nat.le_of_ble_eq_true rfl) dL_law_891 ⟨by have := hcl.1; show _ ≤ 600000; omega, by have := hcl.2; show _ ≤ 7302250; omega⟩) (fun H locs hG hk => ?_)
  refine lv_icmp_eq (tgt := 1362) hx hb dL_law_894 (by decide) (fun c7 => ?_) (fun c7 => ?_)
  · have hf := gif_t c7 hf
    obtain rfl := Option.some.inj hf
    refine W.widen (k := cells + 2) (n := slots + 103) (by omega) (by omega) ?_
    exact kk _ _ hG
  · have hf := gif_f c7 hf
    cases hf
def f_L_21 (xs : Nat → Int32) (L : Nat) (i : Int32) (u : Mem) : Option Mem := gin (i + (1 : Int32)) L (obind (f_X7_ends (xs (i + (1 : Int32)).toNatClampNeg) u) (fun r2 u2 => gin (i + (1 : Int32)) L (obind (f_X8_ends (xs (i + (1 : Int32)).toNatClampNeg) u2) (fun r4 u4 => (if r2 = r4 then some u4 else none)))))
set_option maxHeartbeats 4000000 in
set_option maxRecDepth 100000 in
theorem k_L_21 {p : Program} {l : Launch} {e : Env} {s : State} {m : MethodId} {below : List Frame} {meth : Method} {c : Code} {H : Heap} {locs : List Loc} {cells slots : Nat} {Q : State → Prop} {ls : Array Slot} {D : gDt} {base : Nat} {Z : gZt} {b L : Nat} {xs : Nat → Int32} {i : Int32} {u u2 : Mem} (C0 : gC p s m meth c (#[Value.ref b] : Array Value) code 4 R_law D base Z) (hX : va_X b L xs s s.heap) (hbl : b < s.heap.size) (hbA : ¬ gF base b) (hcl : cells + 2 ≤ 600000 ∧ slots + 103 ≤ 7302250) (hl : lv_has ls 4 [(0, .ref b), (1, .ref (base + 0)), (2, .ref (base + 82)), (3, .int i)]) (hG : gH D base s u H locs) (hf : f_L_21 xs L i u = some u2) (kk : ∀ (H : Heap) (locs : List Loc), gH D base s u2 H locs → W p l e room_1 s m (#[Value.ref b] : Array Value) below meth c H locs (cells + 2) (slots + 103) Q (F0 m 1362 ls [])) : W p l e room_1 s m (#[Value.ref b] : Array Value) below meth c H locs cells slots Q (F0 m 899 ls []) := by
  have hx := C0.1
  have hb := C0.2.1
  unfold f_L_21 at hf
  refine lv_aload_n hx hb dL_law_899 rfl (lv_at hl 1 rfl) ?_
  refine lv_aload_n hx hb dL_law_900 rfl (lv_at hl 0 rfl) ?_
  refine lv_iload_n hx hb dL_law_901 rfl (lv_at hl 3 rfl) ?_
  refine lv_iconst (v := (1 : Int32)) hx hb dL_law_902 (by decide) ?_
  refine lv_iadd hx hb dL_law_903 ?_
  obtain ⟨h1, hf⟩ := gin_s hf
  refine va_sld hx hb hX hbl hbA hG.2 h1 dL_law_904 ?_
  obtain ⟨r2, u2, hc2, hf⟩ := obind_s hf
  refine g_doI0 hG (g_runV C0 hG (k_X7_ends l D base Z u (xs (i + (1 : Int32)).toNatClampNeg) r2 u2 hc2) m_X7_ends v_X7_ends w_730 ⟨by decide, by decide⟩ (g_recv C0 hG (L0 hG) rfl) rfl hl.1 rfl (Nat.le_of_ble_eq_true rfl) dL_law_905 ⟨by have := hcl.1; show _ ≤ 600000; omega, by have := hcl.2; show _ ≤ 7302250; omega⟩) (fun H locs hG hk => ?_)
  refine lv_aload_n hx hb dL_law_908 rfl (lv_at hl 2 rfl) ?_
  refine lv_aload_n hx hb dL_law_909 rfl (lv_at hl 0 rfl) ?_
  refine lv_iload_n hx hb dL_law_910 rfl (lv_at hl 3 rfl) ?_
  refine lv_iconst (v := (1 : Int32)) hx hb dL_law_911 (by decide) ?_
  refine lv_iadd hx hb dL_law_912 ?_
  obtain ⟨h3, hf⟩ := gin_s hf
  refine va_sld hx hb hX hbl hbA hG.2 h3 dL_law_913 ?_
  obtain ⟨r4, u4, hc4, hf⟩ := obind_s hf
  refine g_doI0 hG (g_runV C0 hG (k_X8_ends l D base Z u2 (xs (i + (1 : Int32)).toNatClampNeg) r4 u4 hc4) m_X8_ends v_X8_ends w_1352 ⟨by decide, by decide⟩ (g_recv C0 hG (L82 hG) rfl) rfl hl.1 rfl (Nat.le_of_ble_eq_true rfl) dL_law_914 ⟨by have := hcl.1; show _ ≤ 600000; omega, by have := hcl.2; show _ ≤ 7302250; omega⟩) (fun H locs hG hk => ?_)
  refine lv_icmp_eq (tgt := 1362) hx hb dL_law_917 (by decide) (fun c5 => ?_) (fun c5 => ?_)
  · have hf := gif_t c5 hf
    obtain rfl := Option.some.inj hf
    refine W.widen (k := cells + 2) (n := slots + 103) (by omega) (by omega) ?_
    exact kk _ _ hG
  · have hf := gif_f c5 hf
    cases hf
def f_L_22 (xs : Nat → Int32) (L : Nat) (i : Int32) (u : Mem) : Option Mem := gin (i + (1 : Int32)) L (gin (i + (2 : Int32)) L (obind (f_X7_book (xs (i + (1 : Int32)).toNatClampNeg) (xs (i + (2 : Int32)).toNatClampNeg) u) (fun r3 u3 => gin (i + (1 : Int32)) L (gin (i + (2 : Int32)) L (obind (f_X8_book (xs (i + (1 : Int32)).toNatClampNeg) (xs (i + (2 : Int32)).toNatClampNeg) u3) (fun r6 u6 => (if r3 = r6 then some u6 else none)))))))
set_option maxHeartbeats 4000000 in
set_option maxRecDepth 100000 in
theorem k_L_22 {p : Program} {l : Launch} {e : Env} {s : State} {m : MethodId} {below : List Frame} {meth : Method} {c : Code} {H : Heap} {locs : List Loc} {cells slots : Nat} {Q : State → Prop} {ls : Array Slot} {D : gDt} {base : Nat} {Z : gZt} {b L : Nat} {xs : Nat → Int32} {i : Int32} {u u2 : Mem} (C0 : gC p s m meth c (#[Value.ref b] : Array Value) code 4 R_law D base Z) (hX : va_X b L xs s s.heap) (hbl : b < s.heap.size) (hbA : ¬ gF base b) (hcl : cells + 2 ≤ 600000 ∧ slots + 103 ≤ 7302250) (hl : lv_has ls 4 [(0, .ref b), (1, .ref (base + 0)), (2, .ref (base + 82)), (3, .int i)]) (hG : gH D base s u H locs) (hf : f_L_22 xs L i u = some u2) (kk : ∀ (H : Heap) (locs : List Loc), gH D base s u2 H locs → W p l e room_1 s m (#[Value.ref b] : Array Value) below meth c H locs (cells + 2) (slots + 103) Q (F0 m 1362 ls [])) : W p l e room_1 s m (#[Value.ref b] : Array Value) below meth c H locs cells slots Q (F0 m 922 ls []) := by
  have hx := C0.1
  have hb := C0.2.1
  unfold f_L_22 at hf
  refine lv_aload_n hx hb dL_law_922 rfl (lv_at hl 1 rfl) ?_
  refine lv_aload_n hx hb dL_law_923 rfl (lv_at hl 0 rfl) ?_
  refine lv_iload_n hx hb dL_law_924 rfl (lv_at hl 3 rfl) ?_
  refine lv_iconst (v := (1 : Int32)) hx hb dL_law_925 (by decide) ?_
  refine lv_iadd hx hb dL_law_926 ?_
  obtain ⟨h1, hf⟩ := gin_s hf
  refine va_sld hx hb hX hbl hbA hG.2 h1 dL_law_927 ?_
  refine lv_aload_n hx hb dL_law_928 rfl (lv_at hl 0 rfl) ?_
  refine lv_iload_n hx hb dL_law_929 rfl (lv_at hl 3 rfl) ?_
  refine lv_iconst (v := (2 : Int32)) hx hb dL_law_930 (by decide) ?_
  refine lv_iadd hx hb dL_law_931 ?_
  obtain ⟨h2, hf⟩ := gin_s hf
  refine va_sld hx hb hX hbl hbA hG.2 h2 dL_law_932 ?_
  obtain ⟨r3, u3, hc3, hf⟩ := obind_s hf
  refine g_doI0 hG (g_runV C0 hG (k_X7_book l D base Z u (xs (i + (1 : Int32)).toNatClampNeg) (xs (i + (2 : Int32)).toNatClampNeg) r3 u3 hc3) m_X7_book v_X7_book w_738 ⟨by decide, by decide⟩ (g_recv C0 hG (L0 hG) rfl) rfl hl.1 rfl (Nat.le_of_ble_eq_true rfl) dL_law_933 ⟨by have := hcl.1; show _ ≤ 600000; omega, by have := hcl.2; show _ ≤ 7302250; omega⟩) (fun H locs hG hk => ?_)
  refine lv_aload_n hx hb dL_law_936 rfl (lv_at hl 2 rfl) ?_
  refine lv_aload_n hx hb dL_law_937 rfl (lv_at hl 0 rfl) ?_
  refine lv_iload_n hx hb dL_law_938 rfl (lv_at hl 3 rfl) ?_
  refine lv_iconst (v := (1 : Int32)) hx hb dL_law_939 (by decide) ?_
  refine lv_iadd hx hb dL_law_940 ?_
  obtain ⟨h4, hf⟩ := gin_s hf
  refine va_sld hx hb hX hbl hbA hG.2 h4 dL_law_941 ?_
  refine lv_aload_n hx hb dL_law_942 rfl (lv_at hl 0 rfl) ?_
  refine lv_iload_n hx hb dL_law_943 rfl (lv_at hl 3 rfl) ?_
  refine lv_iconst (v := (2 : Int32)) hx hb dL_law_944 (by decide) ?_
  refine lv_iadd hx hb dL_law_945 ?_
  obtain ⟨h5, hf⟩ := gin_s hf
  refine va_sld hx hb hX hbl hbA hG.2 h5 dL_law_946 ?_
  obtain ⟨r6, u6, hc6, hf⟩ := obind_s hf
  refine g_doI0 hG (g_runV C0 hG (k_X8_book l D base Z u3 (xs (i + (1 : Int32)).toNatClampNeg) (xs (i + (2 : Int32)).toNatClampNeg) r6 u6 hc6) m_X8_book v_X8_book w_1360 ⟨by decide, by decide⟩ (g_recv C0 hG (L82 hG) rfl) rfl hl.1 rfl (Nat.le_of_ble_eq_true rfl) dL_law_947 ⟨by have := hcl.1; show _ ≤ 600000; omega, by have := hcl.2; show _ ≤ 7302250; omega⟩) (fun H locs hG hk => ?_)
  refine lv_icmp_eq (tgt := 1362) hx hb dL_law_950 (by decide) (fun c7 => ?_) (fun c7 => ?_)
  · have hf := gif_t c7 hf
    obtain rfl := Option.some.inj hf
    refine W.widen (k := cells + 2) (n := slots + 103) (by omega) (by omega) ?_
    exact kk _ _ hG
  · have hf := gif_f c7 hf
    cases hf
def f_L_23 (xs : Nat → Int32) (L : Nat) (i : Int32) (u : Mem) : Option Mem := Option.bind (f_X7_looked u) (fun r1 => Option.bind (f_X8_looked u) (fun r2 => (if r1 = r2 then some u else none)))
set_option maxHeartbeats 4000000 in
set_option maxRecDepth 100000 in
theorem k_L_23 {p : Program} {l : Launch} {e : Env} {s : State} {m : MethodId} {below : List Frame} {meth : Method} {c : Code} {H : Heap} {locs : List Loc} {cells slots : Nat} {Q : State → Prop} {ls : Array Slot} {D : gDt} {base : Nat} {Z : gZt} {b L : Nat} {xs : Nat → Int32} {i : Int32} {u u2 : Mem} (C0 : gC p s m meth c (#[Value.ref b] : Array Value) code 4 R_law D base Z) (hX : va_X b L xs s s.heap) (hbl : b < s.heap.size) (hbA : ¬ gF base b) (hcl : cells + 2 ≤ 600000 ∧ slots + 103 ≤ 7302250) (hl : lv_has ls 4 [(0, .ref b), (1, .ref (base + 0)), (2, .ref (base + 82)), (3, .int i)]) (hG : gH D base s u H locs) (hf : f_L_23 xs L i u = some u2) (kk : ∀ (H : Heap) (locs : List Loc), gH D base s u2 H locs → W p l e room_1 s m (#[Value.ref b] : Array Value) below meth c H locs (cells + 2) (slots + 103) Q (F0 m 1362 ls [])) : W p l e room_1 s m (#[Value.ref b] : Array Value) below meth c H locs cells slots Q (F0 m 955 ls []) := by
  have hx := C0.1
  have hb := C0.2.1
  unfold f_L_23 at hf
  refine lv_aload_n hx hb dL_law_955 rfl (lv_at hl 1 rfl) ?_
  obtain ⟨r1, hc1, hf⟩ := pb_s hf
  refine g_doI0 hG (g_runV C0 hG (k_X7_looked l D base Z u r1 hc1) m_X7_looked v_X7_looked w_742 ⟨by decide, by decide⟩ (g_recv C0 hG (L0 hG) rfl) rfl hl.1 rfl (Nat.le_of_ble_eq_true rfl) dL_law_956 ⟨by have := hcl.1; show _ ≤ 600000; omega, by have := hcl.2; show _ ≤ 7302250; omega⟩) (fun H locs hG hk => ?_)
  refine lv_aload_n hx hb dL_law_959 rfl (lv_at hl 2 rfl) ?_
  obtain ⟨r2, hc2, hf⟩ := pb_s hf
  refine g_doI0 hG (g_runV C0 hG (k_X8_looked l D base Z u r2 hc2) m_X8_looked v_X8_looked w_1364 ⟨by decide, by decide⟩ (g_recv C0 hG (L82 hG) rfl) rfl hl.1 rfl (Nat.le_of_ble_eq_true rfl) dL_law_960 ⟨by have := hcl.1; show _ ≤ 600000; omega, by have := hcl.2; show _ ≤ 7302250; omega⟩) (fun H locs hG hk => ?_)
  refine lv_icmp_eq (tgt := 1362) hx hb dL_law_963 (by decide) (fun c3 => ?_) (fun c3 => ?_)
  · have hf := gif_t c3 hf
    obtain rfl := Option.some.inj hf
    refine W.widen (k := cells + 2) (n := slots + 103) (by omega) (by omega) ?_
    exact kk _ _ hG
  · have hf := gif_f c3 hf
    cases hf
def f_L_24 (xs : Nat → Int32) (L : Nat) (i : Int32) (u : Mem) : Option Mem := gin (i + (1 : Int32)) L (gin (i + (2 : Int32)) L (Option.bind (f_X7_judge (xs (i + (1 : Int32)).toNatClampNeg) (xs (i + (2 : Int32)).toNatClampNeg) u) (fun r3 => gin (i + (1 : Int32)) L (gin (i + (2 : Int32)) L (Option.bind (f_X8_judge (xs (i + (1 : Int32)).toNatClampNeg) (xs (i + (2 : Int32)).toNatClampNeg) u) (fun r6 => (if r3 = r6 then some u else none)))))))
set_option maxHeartbeats 4000000 in
set_option maxRecDepth 100000 in
theorem k_L_24 {p : Program} {l : Launch} {e : Env} {s : State} {m : MethodId} {below : List Frame} {meth : Method} {c : Code} {H : Heap} {locs : List Loc} {cells slots : Nat} {Q : State → Prop} {ls : Array Slot} {D : gDt} {base : Nat} {Z : gZt} {b L : Nat} {xs : Nat → Int32} {i : Int32} {u u2 : Mem} (C0 : gC p s m meth c (#[Value.ref b] : Array Value) code 4 R_law D base Z) (hX : va_X b L xs s s.heap) (hbl : b < s.heap.size) (hbA : ¬ gF base b) (hcl : cells + 2 ≤ 600000 ∧ slots + 103 ≤ 7302250) (hl : lv_has ls 4 [(0, .ref b), (1, .ref (base + 0)), (2, .ref (base + 82)), (3, .int i)]) (hG : gH D base s u H locs) (hf : f_L_24 xs L i u = some u2) (kk : ∀ (H : Heap) (locs : List Loc), gH D base s u2 H locs → W p l e room_1 s m (#[Value.ref b] : Array Value) below meth c H locs (cells + 2) (slots + 103) Q (F0 m 1362 ls [])) : W p l e room_1 s m (#[Value.ref b] : Array Value) below meth c H locs cells slots Q (F0 m 968 ls []) := by
  have hx := C0.1
  have hb := C0.2.1
  unfold f_L_24 at hf
  refine lv_aload_n hx hb dL_law_968 rfl (lv_at hl 1 rfl) ?_
  refine lv_aload_n hx hb dL_law_969 rfl (lv_at hl 0 rfl) ?_
  refine lv_iload_n hx hb dL_law_970 rfl (lv_at hl 3 rfl) ?_
  refine lv_iconst (v := (1 : Int32)) hx hb dL_law_971 (by decide) ?_
  refine lv_iadd hx hb dL_law_972 ?_
  obtain ⟨h1, hf⟩ := gin_s hf
  refine va_sld hx hb hX hbl hbA hG.2 h1 dL_law_973 ?_
  refine lv_aload_n hx hb dL_law_974 rfl (lv_at hl 0 rfl) ?_
  refine lv_iload_n hx hb dL_law_975 rfl (lv_at hl 3 rfl) ?_
  refine lv_iconst (v := (2 : Int32)) hx hb dL_law_976 (by decide) ?_
  refine lv_iadd hx hb dL_law_977 ?_
  obtain ⟨h2, hf⟩ := gin_s hf
  refine va_sld hx hb hX hbl hbA hG.2 h2 dL_law_978 ?_
  obtain ⟨r3, hc3, hf⟩ := pb_s hf
  refine g_doI0 hG (g_runV C0 hG (k_X7_judge l D base Z u (xs (i + (1 : Int32)).toNatClampNeg) (xs (i + (2 : Int32)).toNatClampNeg) r3 hc3) m_X7_judge v_X7_judge w_746 ⟨by decide, by decide⟩ (g_recv C0 hG (L0 hG) rfl) rfl hl.1 rfl (Nat.le_of_ble_eq_true rfl) dL_law_979 ⟨by have := hcl.1; show _ ≤ 600000; omega, by have := hcl.2; show _ ≤ 7302250; omega⟩) (fun H locs hG hk => ?_)
  refine lv_aload_n hx hb dL_law_982 rfl (lv_at hl 2 rfl) ?_
  refine lv_aload_n hx hb dL_law_983 rfl (lv_at hl 0 rfl) ?_
  refine lv_iload_n hx hb dL_law_984 rfl (lv_at hl 3 rfl) ?_
  refine lv_iconst (v := (1 : Int32)) hx hb dL_law_985 (by decide) ?_
  refine lv_iadd hx hb dL_law_986 ?_
  obtain ⟨h4, hf⟩ := gin_s hf
  refine va_sld hx hb hX hbl hbA hG.2 h4 dL_law_987 ?_
  refine lv_aload_n hx hb dL_law_988 rfl (lv_at hl 0 rfl) ?_
  refine lv_iload_n hx hb dL_law_989 rfl (lv_at hl 3 rfl) ?_
  refine lv_iconst (v := (2 : Int32)) hx hb dL_law_990 (by decide) ?_
  refine lv_iadd hx hb dL_law_991 ?_
  obtain ⟨h5, hf⟩ := gin_s hf
  refine va_sld hx hb hX hbl hbA hG.2 h5 dL_law_992 ?_
  obtain ⟨r6, hc6, hf⟩ := pb_s hf
  refine g_doI0 hG (g_runV C0 hG (k_X8_judge l D base Z u (xs (i + (1 : Int32)).toNatClampNeg) (xs (i + (2 : Int32)).toNatClampNeg) r6 hc6) m_X8_judge v_X8_judge w_1368 ⟨by decide, by decide⟩ (g_recv C0 hG (L82 hG) rfl) rfl hl.1 rfl (Nat.le_of_ble_eq_true rfl) dL_law_993 ⟨by have := hcl.1; show _ ≤ 600000; omega, by have := hcl.2; show _ ≤ 7302250; omega⟩) (fun H locs hG hk => ?_)
  refine lv_icmp_eq (tgt := 1362) hx hb dL_law_996 (by decide) (fun c7 => ?_) (fun c7 => ?_)
  · have hf := gif_t c7 hf
    obtain rfl := Option.some.inj hf
    refine W.widen (k := cells + 2) (n := slots + 103) (by omega) (by omega) ?_
    exact kk _ _ hG
  · have hf := gif_f c7 hf
    cases hf
def f_L_25 (xs : Nat → Int32) (L : Nat) (i : Int32) (u : Mem) : Option Mem := obind (f_X7_image u) (fun r1 u1 => obind (f_X8_image u1) (fun r2 u2 => (if r1 = r2 then some u2 else none)))
set_option maxHeartbeats 4000000 in
set_option maxRecDepth 100000 in
theorem k_L_25 {p : Program} {l : Launch} {e : Env} {s : State} {m : MethodId} {below : List Frame} {meth : Method} {c : Code} {H : Heap} {locs : List Loc} {cells slots : Nat} {Q : State → Prop} {ls : Array Slot} {D : gDt} {base : Nat} {Z : gZt} {b L : Nat} {xs : Nat → Int32} {i : Int32} {u u2 : Mem} (C0 : gC p s m meth c (#[Value.ref b] : Array Value) code 4 R_law D base Z) (hX : va_X b L xs s s.heap) (hbl : b < s.heap.size) (hbA : ¬ gF base b) (hcl : cells + 2 ≤ 600000 ∧ slots + 103 ≤ 7302250) (hl : lv_has ls 4 [(0, .ref b), (1, .ref (base + 0)), (2, .ref (base + 82)), (3, .int i)]) (hG : gH D base s u H locs) (hf : f_L_25 xs L i u = some u2) (kk : ∀ (H : Heap) (locs : List Loc), gH D base s u2 H locs → W p l e room_1 s m (#[Value.ref b] : Array Value) below meth c H locs (cells + 2) (slots + 103) Q (F0 m 1362 ls [])) : W p l e room_1 s m (#[Value.ref b] : Array Value) below meth c H locs cells slots Q (F0 m 1001 ls []) := by
  have hx := C0.1
  have hb := C0.2.1
  unfold f_L_25 at hf
  refine lv_aload_n hx hb dL_law_1001 rfl (lv_at hl 1 rfl) ?_
  obtain ⟨r1, u1, hc1, hf⟩ := obind_s hf
  refine g_doI0 hG (g_runV C0 hG (k_X7_image l D base Z u r1 u1 hc1) m_X7_image v_X7_image w_758 ⟨by decide, by decide⟩ (g_recv C0 hG (L0 hG) rfl) rfl hl.1 rfl (Nat.le_of_ble_eq_true rfl) dL_law_1002 ⟨by have := hcl.1; show _ ≤ 600000; omega, by have := hcl.2; show _ ≤ 7302250; omega⟩) (fun H locs hG hk => ?_)
  refine lv_aload_n hx hb dL_law_1005 rfl (lv_at hl 2 rfl) ?_
  obtain ⟨r2, u2, hc2, hf⟩ := obind_s hf
  refine g_doI0 hG (g_runV C0 hG (k_X8_image l D base Z u1 r2 u2 hc2) m_X8_image v_X8_image w_1376 ⟨by decide, by decide⟩ (g_recv C0 hG (L82 hG) rfl) rfl hl.1 rfl (Nat.le_of_ble_eq_true rfl) dL_law_1006 ⟨by have := hcl.1; show _ ≤ 600000; omega, by have := hcl.2; show _ ≤ 7302250; omega⟩) (fun H locs hG hk => ?_)
  refine lv_icmp_eq (tgt := 1362) hx hb dL_law_1009 (by decide) (fun c3 => ?_) (fun c3 => ?_)
  · have hf := gif_t c3 hf
    obtain rfl := Option.some.inj hf
    refine W.widen (k := cells + 2) (n := slots + 103) (by omega) (by omega) ?_
    exact kk _ _ hG
  · have hf := gif_f c3 hf
    cases hf
def f_L_26 (xs : Nat → Int32) (L : Nat) (i : Int32) (u : Mem) : Option Mem := obind (f_X7_undo u) (fun r1 u1 => obind (f_X8_undo u1) (fun r2 u2 => (if r1 = r2 then some u2 else none)))
set_option maxHeartbeats 4000000 in
set_option maxRecDepth 100000 in
theorem k_L_26 {p : Program} {l : Launch} {e : Env} {s : State} {m : MethodId} {below : List Frame} {meth : Method} {c : Code} {H : Heap} {locs : List Loc} {cells slots : Nat} {Q : State → Prop} {ls : Array Slot} {D : gDt} {base : Nat} {Z : gZt} {b L : Nat} {xs : Nat → Int32} {i : Int32} {u u2 : Mem} (C0 : gC p s m meth c (#[Value.ref b] : Array Value) code 4 R_law D base Z) (hX : va_X b L xs s s.heap) (hbl : b < s.heap.size) (hbA : ¬ gF base b) (hcl : cells + 2 ≤ 600000 ∧ slots + 103 ≤ 7302250) (hl : lv_has ls 4 [(0, .ref b), (1, .ref (base + 0)), (2, .ref (base + 82)), (3, .int i)]) (hG : gH D base s u H locs) (hf : f_L_26 xs L i u = some u2) (kk : ∀ (H : Heap) (locs : List Loc), gH D base s u2 H locs → W p l e room_1 s m (#[Value.ref b] : Array Value) below meth c H locs (cells + 2) (slots + 103) Q (F0 m 1362 ls [])) : W p l e room_1 s m (#[Value.ref b] : Array Value) below meth c H locs cells slots Q (F0 m 1014 ls []) := by
  have hx := C0.1
  have hb := C0.2.1
  unfold f_L_26 at hf
  refine lv_aload_n hx hb dL_law_1014 rfl (lv_at hl 1 rfl) ?_
  obtain ⟨r1, u1, hc1, hf⟩ := obind_s hf
  refine g_doI0 hG (g_runV C0 hG (k_X7_undo l D base Z u r1 u1 hc1) m_X7_undo v_X7_undo w_771 ⟨by decide, by decide⟩ (g_recv C0 hG (L0 hG) rfl) rfl hl.1 rfl (Nat.le_of_ble_eq_true rfl) dL_law_1015 ⟨by have := hcl.1; show _ ≤ 600000; omega, by have := hcl.2; show _ ≤ 7302250; omega⟩) (fun H locs hG hk => ?_)
  refine lv_aload_n hx hb dL_law_1018 rfl (lv_at hl 2 rfl) ?_
  obtain ⟨r2, u2, hc2, hf⟩ := obind_s hf
  refine g_doI0 hG (g_runV C0 hG (k_X8_undo l D base Z u1 r2 u2 hc2) m_X8_undo v_X8_undo w_1380 ⟨by decide, by decide⟩ (g_recv C0 hG (L82 hG) rfl) rfl hl.1 rfl (Nat.le_of_ble_eq_true rfl) dL_law_1019 ⟨by have := hcl.1; show _ ≤ 600000; omega, by have := hcl.2; show _ ≤ 7302250; omega⟩) (fun H locs hG hk => ?_)
  refine lv_icmp_eq (tgt := 1362) hx hb dL_law_1022 (by decide) (fun c3 => ?_) (fun c3 => ?_)
  · have hf := gif_t c3 hf
    obtain rfl := Option.some.inj hf
    refine W.widen (k := cells + 2) (n := slots + 103) (by omega) (by omega) ?_
    exact kk _ _ hG
  · have hf := gif_f c3 hf
    cases hf
def f_L_27 (xs : Nat → Int32) (L : Nat) (i : Int32) (u : Mem) : Option Mem := gin (i + (1 : Int32)) L (gin (i + (2 : Int32)) L (gin (i + (3 : Int32)) L (obind (f_X7_act (xs (i + (1 : Int32)).toNatClampNeg) (xs (i + (2 : Int32)).toNatClampNeg) (xs (i + (3 : Int32)).toNatClampNeg) u) (fun r4 u4 => gin (i + (1 : Int32)) L (gin (i + (2 : Int32)) L (gin (i + (3 : Int32)) L (obind (f_X8_act (xs (i + (1 : Int32)).toNatClampNeg) (xs (i + (2 : Int32)).toNatClampNeg) (xs (i + (3 : Int32)).toNatClampNeg) u4) (fun r8 u8 => (if r4 = r8 then some u8 else none)))))))))
set_option maxHeartbeats 4000000 in
set_option maxRecDepth 100000 in
theorem k_L_27 {p : Program} {l : Launch} {e : Env} {s : State} {m : MethodId} {below : List Frame} {meth : Method} {c : Code} {H : Heap} {locs : List Loc} {cells slots : Nat} {Q : State → Prop} {ls : Array Slot} {D : gDt} {base : Nat} {Z : gZt} {b L : Nat} {xs : Nat → Int32} {i : Int32} {u u2 : Mem} (C0 : gC p s m meth c (#[Value.ref b] : Array Value) code 4 R_law D base Z) (hX : va_X b L xs s s.heap) (hbl : b < s.heap.size) (hbA : ¬ gF base b) (hcl : cells + 2 ≤ 600000 ∧ slots + 103 ≤ 7302250) (hl : lv_has ls 4 [(0, .ref b), (1, .ref (base + 0)), (2, .ref (base + 82)), (3, .int i)]) (hG : gH D base s u H locs) (hf : f_L_27 xs L i u = some u2) (kk : ∀ (H : Heap) (locs : List Loc), gH D base s u2 H locs → W p l e room_1 s m (#[Value.ref b] : Array Value) below meth c H locs (cells + 2) (slots + 103) Q (F0 m 1362 ls [])) : W p l e room_1 s m (#[Value.ref b] : Array Value) below meth c H locs cells slots Q (F0 m 1027 ls []) := by
  have hx := C0.1
  have hb := C0.2.1
  unfold f_L_27 at hf
  refine lv_aload_n hx hb dL_law_1027 rfl (lv_at hl 1 rfl) ?_
  refine lv_aload_n hx hb dL_law_1028 rfl (lv_at hl 0 rfl) ?_
  refine lv_iload_n hx hb dL_law_1029 rfl (lv_at hl 3 rfl) ?_
  refine lv_iconst (v := (1 : Int32)) hx hb dL_law_1030 (by decide) ?_
  refine lv_iadd hx hb dL_law_1031 ?_
  obtain ⟨h1, hf⟩ := gin_s hf
  refine va_sld hx hb hX hbl hbA hG.2 h1 dL_law_1032 ?_
  refine lv_aload_n hx hb dL_law_1033 rfl (lv_at hl 0 rfl) ?_
  refine lv_iload_n hx hb dL_law_1034 rfl (lv_at hl 3 rfl) ?_
  refine lv_iconst (v := (2 : Int32)) hx hb dL_law_1035 (by decide) ?_
  refine lv_iadd hx hb dL_law_1036 ?_
  obtain ⟨h2, hf⟩ := gin_s hf
  refine va_sld hx hb hX hbl hbA hG.2 h2 dL_law_1037 ?_
  refine lv_aload_n hx hb dL_law_1038 rfl (lv_at hl 0 rfl) ?_
  refine lv_iload_n hx hb dL_law_1039 rfl (lv_at hl 3 rfl) ?_
  refine lv_iconst (v := (3 : Int32)) hx hb dL_law_1040 (by decide) ?_
  refine lv_iadd hx hb dL_law_1041 ?_
  obtain ⟨h3, hf⟩ := gin_s hf
  refine va_sld hx hb hX hbl hbA hG.2 h3 dL_law_1042 ?_
  obtain ⟨r4, u4, hc4, hf⟩ := obind_s hf
  refine g_doI0 hG (g_runV C0 hG (k_X7_act l D base Z u (xs (i + (1 : Int32)).toNatClampNeg) (xs (i + (2 : Int32)).toNatClampNeg) (xs (i + (3 : Int32)).toNatClampNeg) r4 u4 hc4) m_X7_act v_X7_act w_775 ⟨by decide, by decide⟩ (g_recv C0 hG (L0 hG) rfl) rfl hl.1 rfl (Nat.le_of_ble_eq_true rfl) dL_law_1043 ⟨by have := hcl.1; show _ ≤ 600000; omega, by have := hcl.2; show _ ≤ 7302250; omega⟩) (fun H locs hG hk => ?_)
  refine lv_aload_n hx hb dL_law_1046 rfl (lv_at hl 2 rfl) ?_
  refine lv_aload_n hx hb dL_law_1047 rfl (lv_at hl 0 rfl) ?_
  refine lv_iload_n hx hb dL_law_1048 rfl (lv_at hl 3 rfl) ?_
  refine lv_iconst (v := (1 : Int32)) hx hb dL_law_1049 (by decide) ?_
  refine lv_iadd hx hb dL_law_1050 ?_
  obtain ⟨h5, hf⟩ := gin_s hf
  refine va_sld hx hb hX hbl hbA hG.2 h5 dL_law_1051 ?_
  refine lv_aload_n hx hb dL_law_1052 rfl (lv_at hl 0 rfl) ?_
  refine lv_iload_n hx hb dL_law_1053 rfl (lv_at hl 3 rfl) ?_
  refine lv_iconst (v := (2 : Int32)) hx hb dL_law_1054 (by decide) ?_
  refine lv_iadd hx hb dL_law_1055 ?_
  obtain ⟨h6, hf⟩ := gin_s hf
  refine va_sld hx hb hX hbl hbA hG.2 h6 dL_law_1056 ?_
  refine lv_aload_n hx hb dL_law_1057 rfl (lv_at hl 0 rfl) ?_
  refine lv_iload_n hx hb dL_law_1058 rfl (lv_at hl 3 rfl) ?_
  refine lv_iconst (v := (3 : Int32)) hx hb dL_law_1059 (by decide) ?_
  refine lv_iadd hx hb dL_law_1060 ?_
  obtain ⟨h7, hf⟩ := gin_s hf
  refine va_sld hx hb hX hbl hbA hG.2 h7 dL_law_1061 ?_
  obtain ⟨r8, u8, hc8, hf⟩ := obind_s hf
  refine g_doI0 hG (g_runV C0 hG (k_X8_act l D base Z u4 (xs (i + (1 : Int32)).toNatClampNeg) (xs (i + (2 : Int32)).toNatClampNeg) (xs (i + (3 : Int32)).toNatClampNeg) r8 u8 hc8) m_X8_act v_X8_act w_1384 ⟨by decide, by decide⟩ (g_recv C0 hG (L82 hG) rfl) rfl hl.1 rfl (Nat.le_of_ble_eq_true rfl) dL_law_1062 ⟨by have := hcl.1; show _ ≤ 600000; omega, by have := hcl.2; show _ ≤ 7302250; omega⟩) (fun H locs hG hk => ?_)
  refine lv_icmp_eq (tgt := 1362) hx hb dL_law_1065 (by decide) (fun c9 => ?_) (fun c9 => ?_)
  · have hf := gif_t c9 hf
    obtain rfl := Option.some.inj hf
    refine W.widen (k := cells + 2) (n := slots + 103) (by omega) (by omega) ?_
    exact kk _ _ hG
  · have hf := gif_f c9 hf
    cases hf
def f_L_28 (xs : Nat → Int32) (L : Nat) (i : Int32) (u : Mem) : Option Mem := gin (i + (1 : Int32)) L (Option.bind (f_X7_trace (xs (i + (1 : Int32)).toNatClampNeg) u) (fun r2 => gin (i + (1 : Int32)) L (Option.bind (f_X8_trace (xs (i + (1 : Int32)).toNatClampNeg) u) (fun r4 => (if r2 = r4 then some u else none)))))
set_option maxHeartbeats 4000000 in
set_option maxRecDepth 100000 in
theorem k_L_28 {p : Program} {l : Launch} {e : Env} {s : State} {m : MethodId} {below : List Frame} {meth : Method} {c : Code} {H : Heap} {locs : List Loc} {cells slots : Nat} {Q : State → Prop} {ls : Array Slot} {D : gDt} {base : Nat} {Z : gZt} {b L : Nat} {xs : Nat → Int32} {i : Int32} {u u2 : Mem} (C0 : gC p s m meth c (#[Value.ref b] : Array Value) code 4 R_law D base Z) (hX : va_X b L xs s s.heap) (hbl : b < s.heap.size) (hbA : ¬ gF base b) (hcl : cells + 2 ≤ 600000 ∧ slots + 103 ≤ 7302250) (hl : lv_has ls 4 [(0, .ref b), (1, .ref (base + 0)), (2, .ref (base + 82)), (3, .int i)]) (hG : gH D base s u H locs) (hf : f_L_28 xs L i u = some u2) (kk : ∀ (H : Heap) (locs : List Loc), gH D base s u2 H locs → W p l e room_1 s m (#[Value.ref b] : Array Value) below meth c H locs (cells + 2) (slots + 103) Q (F0 m 1362 ls [])) : W p l e room_1 s m (#[Value.ref b] : Array Value) below meth c H locs cells slots Q (F0 m 1070 ls []) := by
  have hx := C0.1
  have hb := C0.2.1
  unfold f_L_28 at hf
  refine lv_aload_n hx hb dL_law_1070 rfl (lv_at hl 1 rfl) ?_
  refine lv_aload_n hx hb dL_law_1071 rfl (lv_at hl 0 rfl) ?_
  refine lv_iload_n hx hb dL_law_1072 rfl (lv_at hl 3 rfl) ?_
  refine lv_iconst (v := (1 : Int32)) hx hb dL_law_1073 (by decide) ?_
  refine lv_iadd hx hb dL_law_1074 ?_
  obtain ⟨h1, hf⟩ := gin_s hf
  refine va_sld hx hb hX hbl hbA hG.2 h1 dL_law_1075 ?_
  obtain ⟨r2, hc2, hf⟩ := pb_s hf
  refine g_doI0 hG (g_runV C0 hG (k_X7_trace l D base Z u (xs (i + (1 : Int32)).toNatClampNeg) r2 hc2) m_X7_trace v_X7_trace w_796 ⟨by decide, by decide⟩ (g_recv C0 hG (L0 hG) rfl) rfl hl.1 rfl (Nat.le_of_ble_eq_true rfl) dL_law_1076 ⟨by have := hcl.1; show _ ≤ 600000; omega, by have := hcl.2; show _ ≤ 7302250; omega⟩) (fun H locs hG hk => ?_)
  refine lv_aload_n hx hb dL_law_1079 rfl (lv_at hl 2 rfl) ?_
  refine lv_aload_n hx hb dL_law_1080 rfl (lv_at hl 0 rfl) ?_
  refine lv_iload_n hx hb dL_law_1081 rfl (lv_at hl 3 rfl) ?_
  refine lv_iconst (v := (1 : Int32)) hx hb dL_law_1082 (by decide) ?_
  refine lv_iadd hx hb dL_law_1083 ?_
  obtain ⟨h3, hf⟩ := gin_s hf
  refine va_sld hx hb hX hbl hbA hG.2 h3 dL_law_1084 ?_
  obtain ⟨r4, hc4, hf⟩ := pb_s hf
  refine g_doI0 hG (g_runV C0 hG (k_X8_trace l D base Z u (xs (i + (1 : Int32)).toNatClampNeg) r4 hc4) m_X8_trace v_X8_trace w_1420 ⟨by decide, by decide⟩ (g_recv C0 hG (L82 hG) rfl) rfl hl.1 rfl (Nat.le_of_ble_eq_true rfl) dL_law_1085 ⟨by have := hcl.1; show _ ≤ 600000; omega, by have := hcl.2; show _ ≤ 7302250; omega⟩) (fun H locs hG hk => ?_)
  refine lv_icmp_eq (tgt := 1362) hx hb dL_law_1088 (by decide) (fun c5 => ?_) (fun c5 => ?_)
  · have hf := gif_t c5 hf
    obtain rfl := Option.some.inj hf
    refine W.widen (k := cells + 2) (n := slots + 103) (by omega) (by omega) ?_
    exact kk _ _ hG
  · have hf := gif_f c5 hf
    cases hf
def f_L_29 (xs : Nat → Int32) (L : Nat) (i : Int32) (u : Mem) : Option Mem := gin (i + (1 : Int32)) L (gin (i + (2 : Int32)) L (Option.bind (f_X7_taken (xs (i + (1 : Int32)).toNatClampNeg) (xs (i + (2 : Int32)).toNatClampNeg) u) (fun r3 => gin (i + (1 : Int32)) L (gin (i + (2 : Int32)) L (Option.bind (f_X8_taken (xs (i + (1 : Int32)).toNatClampNeg) (xs (i + (2 : Int32)).toNatClampNeg) u) (fun r6 => (if r3 = r6 then some u else none)))))))
set_option maxHeartbeats 4000000 in
set_option maxRecDepth 100000 in
theorem k_L_29 {p : Program} {l : Launch} {e : Env} {s : State} {m : MethodId} {below : List Frame} {meth : Method} {c : Code} {H : Heap} {locs : List Loc} {cells slots : Nat} {Q : State → Prop} {ls : Array Slot} {D : gDt} {base : Nat} {Z : gZt} {b L : Nat} {xs : Nat → Int32} {i : Int32} {u u2 : Mem} (C0 : gC p s m meth c (#[Value.ref b] : Array Value) code 4 R_law D base Z) (hX : va_X b L xs s s.heap) (hbl : b < s.heap.size) (hbA : ¬ gF base b) (hcl : cells + 2 ≤ 600000 ∧ slots + 103 ≤ 7302250) (hl : lv_has ls 4 [(0, .ref b), (1, .ref (base + 0)), (2, .ref (base + 82)), (3, .int i)]) (hG : gH D base s u H locs) (hf : f_L_29 xs L i u = some u2) (kk : ∀ (H : Heap) (locs : List Loc), gH D base s u2 H locs → W p l e room_1 s m (#[Value.ref b] : Array Value) below meth c H locs (cells + 2) (slots + 103) Q (F0 m 1362 ls [])) : W p l e room_1 s m (#[Value.ref b] : Array Value) below meth c H locs cells slots Q (F0 m 1093 ls []) := by
  have hx := C0.1
  have hb := C0.2.1
  unfold f_L_29 at hf
  refine lv_aload_n hx hb dL_law_1093 rfl (lv_at hl 1 rfl) ?_
  refine lv_aload_n hx hb dL_law_1094 rfl (lv_at hl 0 rfl) ?_
  refine lv_iload_n hx hb dL_law_1095 rfl (lv_at hl 3 rfl) ?_
  refine lv_iconst (v := (1 : Int32)) hx hb dL_law_1096 (by decide) ?_
  refine lv_iadd hx hb dL_law_1097 ?_
  obtain ⟨h1, hf⟩ := gin_s hf
  refine va_sld hx hb hX hbl hbA hG.2 h1 dL_law_1098 ?_
  refine lv_aload_n hx hb dL_law_1099 rfl (lv_at hl 0 rfl) ?_
  refine lv_iload_n hx hb dL_law_1100 rfl (lv_at hl 3 rfl) ?_
  refine lv_iconst (v := (2 : Int32)) hx hb dL_law_1101 (by decide) ?_
  refine lv_iadd hx hb dL_law_1102 ?_
  obtain ⟨h2, hf⟩ := gin_s hf
  refine va_sld hx hb hX hbl hbA hG.2 h2 dL_law_1103 ?_
  obtain ⟨r3, hc3, hf⟩ := pb_s hf
  refine g_doI0 hG (g_runV C0 hG (k_X7_taken l D base Z u (xs (i + (1 : Int32)).toNatClampNeg) (xs (i + (2 : Int32)).toNatClampNeg) r3 hc3) m_X7_taken v_X7_taken w_801 ⟨by decide, by decide⟩ (g_recv C0 hG (L0 hG) rfl) rfl hl.1 rfl (Nat.le_of_ble_eq_true rfl) dL_law_1104 ⟨by have := hcl.1; show _ ≤ 600000; omega, by have := hcl.2; show _ ≤ 7302250; omega⟩) (fun H locs hG hk => ?_)
  refine lv_aload_n hx hb dL_law_1107 rfl (lv_at hl 2 rfl) ?_
  refine lv_aload_n hx hb dL_law_1108 rfl (lv_at hl 0 rfl) ?_
  refine lv_iload_n hx hb dL_law_1109 rfl (lv_at hl 3 rfl) ?_
  refine lv_iconst (v := (1 : Int32)) hx hb dL_law_1110 (by decide) ?_
  refine lv_iadd hx hb dL_law_1111 ?_
  obtain ⟨h4, hf⟩ := gin_s hf
  refine va_sld hx hb hX hbl hbA hG.2 h4 dL_law_1112 ?_
  refine lv_aload_n hx hb dL_law_1113 rfl (lv_at hl 0 rfl) ?_
  refine lv_iload_n hx hb dL_law_1114 rfl (lv_at hl 3 rfl) ?_
  refine lv_iconst (v := (2 : Int32)) hx hb dL_law_1115 (by decide) ?_
  refine lv_iadd hx hb dL_law_1116 ?_
  obtain ⟨h5, hf⟩ := gin_s hf
  refine va_sld hx hb hX hbl hbA hG.2 h5 dL_law_1117 ?_
  obtain ⟨r6, hc6, hf⟩ := pb_s hf
  refine g_doI0 hG (g_runV C0 hG (k_X8_taken l D base Z u (xs (i + (1 : Int32)).toNatClampNeg) (xs (i + (2 : Int32)).toNatClampNeg) r6 hc6) m_X8_taken v_X8_taken w_1424 ⟨by decide, by decide⟩ (g_recv C0 hG (L82 hG) rfl) rfl hl.1 rfl (Nat.le_of_ble_eq_true rfl) dL_law_1118 ⟨by have := hcl.1; show _ ≤ 600000; omega, by have := hcl.2; show _ ≤ 7302250; omega⟩) (fun H locs hG hk => ?_)
  refine lv_icmp_eq (tgt := 1362) hx hb dL_law_1121 (by decide) (fun c7 => ?_) (fun c7 => ?_)
  · have hf := gif_t c7 hf
    obtain rfl := Option.some.inj hf
    refine W.widen (k := cells + 2) (n := slots + 103) (by omega) (by omega) ?_
    exact kk _ _ hG
  · have hf := gif_f c7 hf
    cases hf
def f_L_30 (xs : Nat → Int32) (L : Nat) (i : Int32) (u : Mem) : Option Mem := gin (i + (1 : Int32)) L (Option.bind (f_X7_count (xs (i + (1 : Int32)).toNatClampNeg) u) (fun r2 => gin (i + (1 : Int32)) L (Option.bind (f_X8_count (xs (i + (1 : Int32)).toNatClampNeg) u) (fun r4 => (if r2 = r4 then some u else none)))))
set_option maxHeartbeats 4000000 in
set_option maxRecDepth 100000 in
theorem k_L_30 {p : Program} {l : Launch} {e : Env} {s : State} {m : MethodId} {below : List Frame} {meth : Method} {c : Code} {H : Heap} {locs : List Loc} {cells slots : Nat} {Q : State → Prop} {ls : Array Slot} {D : gDt} {base : Nat} {Z : gZt} {b L : Nat} {xs : Nat → Int32} {i : Int32} {u u2 : Mem} (C0 : gC p s m meth c (#[Value.ref b] : Array Value) code 4 R_law D base Z) (hX : va_X b L xs s s.heap) (hbl : b < s.heap.size) (hbA : ¬ gF base b) (hcl : cells + 2 ≤ 600000 ∧ slots + 103 ≤ 7302250) (hl : lv_has ls 4 [(0, .ref b), (1, .ref (base + 0)), (2, .ref (base + 82)), (3, .int i)]) (hG : gH D base s u H locs) (hf : f_L_30 xs L i u = some u2) (kk : ∀ (H : Heap) (locs : List Loc), gH D base s u2 H locs → W p l e room_1 s m (#[Value.ref b] : Array Value) below meth c H locs (cells + 2) (slots + 103) Q (F0 m 1362 ls [])) : W p l e room_1 s m (#[Value.ref b] : Array Value) below meth c H locs cells slots Q (F0 m 1126 ls []) := by
  have hx := C0.1
  have hb := C0.2.1
  unfold f_L_30 at hf
  refine lv_aload_n hx hb dL_law_1126 rfl (lv_at hl 1 rfl) ?_
  refine lv_aload_n hx hb dL_law_1127 rfl (lv_at hl 0 rfl) ?_
  refine lv_iload_n hx hb dL_law_1128 rfl (lv_at hl 3 rfl) ?_
  refine lv_iconst (v := (1 : Int32)) hx hb dL_law_1129 (by decide) ?_
  refine lv_iadd hx hb dL_law_1130 ?_
  obtain ⟨h1, hf⟩ := gin_s hf
  refine va_sld hx hb hX hbl hbA hG.2 h1 dL_law_1131 ?_
  obtain ⟨r2, hc2, hf⟩ := pb_s hf
  refine g_doI0 hG (g_runV C0 hG (k_X7_count l D base Z u (xs (i + (1 : Int32)).toNatClampNeg) r2 hc2) m_X7_count v_X7_count w_809 ⟨by decide, by decide⟩ (g_recv C0 hG (L0 hG) rfl) rfl hl.1 rfl (Nat.le_of_ble_eq_true rfl) dL_law_1132 ⟨by have := hcl.1; show _ ≤ 600000; omega, by have := hcl.2; show _ ≤ 7302250; omega⟩) (fun H locs hG hk => ?_)
  refine lv_aload_n hx hb dL_law_1135 rfl (lv_at hl 2 rfl) ?_
  refine lv_aload_n hx hb dL_law_1136 rfl (lv_at hl 0 rfl) ?_
  refine lv_iload_n hx hb dL_law_1137 rfl (lv_at hl 3 rfl) ?_
  refine lv_iconst (v := (1 : Int32)) hx hb dL_law_1138 (by decide) ?_
  refine lv_iadd hx hb dL_law_1139 ?_
  obtain ⟨h3, hf⟩ := gin_s hf
  refine va_sld hx hb hX hbl hbA hG.2 h3 dL_law_1140 ?_
  obtain ⟨r4, hc4, hf⟩ := pb_s hf
  refine g_doI0 hG (g_runV C0 hG (k_X8_count l D base Z u (xs (i + (1 : Int32)).toNatClampNeg) r4 hc4) m_X8_count v_X8_count w_1428 ⟨by decide, by decide⟩ (g_recv C0 hG (L82 hG) rfl) rfl hl.1 rfl (Nat.le_of_ble_eq_true rfl) dL_law_1141 ⟨by have := hcl.1; show _ ≤ 600000; omega, by have := hcl.2; show _ ≤ 7302250; omega⟩) (fun H locs hG hk => ?_)
  refine lv_icmp_eq (tgt := 1362) hx hb dL_law_1144 (by decide) (fun c5 => ?_) (fun c5 => ?_)
  · have hf := gif_t c5 hf
    obtain rfl := Option.some.inj hf
    refine W.widen (k := cells + 2) (n := slots + 103) (by omega) (by omega) ?_
    exact kk _ _ hG
  · have hf := gif_f c5 hf
    cases hf
def f_L_31 (xs : Nat → Int32) (L : Nat) (i : Int32) (u : Mem) : Option Mem := gin (i + (1 : Int32)) L (gin (i + (2 : Int32)) L (gin (i + (3 : Int32)) L (obind (f_X7_tape (xs (i + (1 : Int32)).toNatClampNeg) (xs (i + (2 : Int32)).toNatClampNeg) (xs (i + (3 : Int32)).toNatClampNeg) u) (fun r4 u4 => gin (i + (1 : Int32)) L (gin (i + (2 : Int32)) L (gin (i + (3 : Int32)) L (obind (f_X8_tape (xs (i + (1 : Int32)).toNatClampNeg) (xs (i + (2 : Int32)).toNatClampNeg) (xs (i + (3 : Int32)).toNatClampNeg) u4) (fun r8 u8 => (if r4 = r8 then some u8 else none)))))))))
set_option maxHeartbeats 4000000 in
set_option maxRecDepth 100000 in
theorem k_L_31 {p : Program} {l : Launch} {e : Env} {s : State} {m : MethodId} {below : List Frame} {meth : Method} {c : Code} {H : Heap} {locs : List Loc} {cells slots : Nat} {Q : State → Prop} {ls : Array Slot} {D : gDt} {base : Nat} {Z : gZt} {b L : Nat} {xs : Nat → Int32} {i : Int32} {u u2 : Mem} (C0 : gC p s m meth c (#[Value.ref b] : Array Value) code 4 R_law D base Z) (hX : va_X b L xs s s.heap) (hbl : b < s.heap.size) (hbA : ¬ gF base b) (hcl : cells + 2 ≤ 600000 ∧ slots + 103 ≤ 7302250) (hl : lv_has ls 4 [(0, .ref b), (1, .ref (base + 0)), (2, .ref (base + 82)), (3, .int i)]) (hG : gH D base s u H locs) (hf : f_L_31 xs L i u = some u2) (kk : ∀ (H : Heap) (locs : List Loc), gH D base s u2 H locs → W p l e room_1 s m (#[Value.ref b] : Array Value) below meth c H locs (cells + 2) (slots + 103) Q (F0 m 1362 ls [])) : W p l e room_1 s m (#[Value.ref b] : Array Value) below meth c H locs cells slots Q (F0 m 1149 ls []) := by
  have hx := C0.1
  have hb := C0.2.1
  unfold f_L_31 at hf
  refine lv_aload_n hx hb dL_law_1149 rfl (lv_at hl 1 rfl) ?_
  refine lv_aload_n hx hb dL_law_1150 rfl (lv_at hl 0 rfl) ?_
  refine lv_iload_n hx hb dL_law_1151 rfl (lv_at hl 3 rfl) ?_
  refine lv_iconst (v := (1 : Int32)) hx hb dL_law_1152 (by decide) ?_
  refine lv_iadd hx hb dL_law_1153 ?_
  obtain ⟨h1, hf⟩ := gin_s hf
  refine va_sld hx hb hX hbl hbA hG.2 h1 dL_law_1154 ?_
  refine lv_aload_n hx hb dL_law_1155 rfl (lv_at hl 0 rfl) ?_
  refine lv_iload_n hx hb dL_law_1156 rfl (lv_at hl 3 rfl) ?_
  refine lv_iconst (v := (2 : Int32)) hx hb dL_law_1157 (by decide) ?_
  refine lv_iadd hx hb dL_law_1158 ?_
  obtain ⟨h2, hf⟩ := gin_s hf
  refine va_sld hx hb hX hbl hbA hG.2 h2 dL_law_1159 ?_
  refine lv_aload_n hx hb dL_law_1160 rfl (lv_at hl 0 rfl) ?_
  refine lv_iload_n hx hb dL_law_1161 rfl (lv_at hl 3 rfl) ?_
  refine lv_iconst (v := (3 : Int32)) hx hb dL_law_1162 (by decide) ?_
  refine lv_iadd hx hb dL_law_1163 ?_
  obtain ⟨h3, hf⟩ := gin_s hf
  refine va_sld hx hb hX hbl hbA hG.2 h3 dL_law_1164 ?_
  obtain ⟨r4, u4, hc4, hf⟩ := obind_s hf
  refine g_doI0 hG (g_runV C0 hG (k_X7_tape l D base Z u (xs (i + (1 : Int32)).toNatClampNeg) (xs (i + (2 : Int32)).toNatClampNeg) (xs (i + (3 : Int32)).toNatClampNeg) r4 u4 hc4) m_X7_tape v_X7_tape w_813 ⟨by decide, by decide⟩ (g_recv C0 hG (L0 hG) rfl) rfl hl.1 rfl (Nat.le_of_ble_eq_true rfl) dL_law_1165 ⟨by have := hcl.1; show _ ≤ 600000; omega, by have := hcl.2; show _ ≤ 7302250; omega⟩) (fun H locs hG hk => ?_)
  refine lv_aload_n hx hb dL_law_1168 rfl (lv_at hl 2 rfl) ?_
  refine lv_aload_n hx hb dL_law_1169 rfl (lv_at hl 0 rfl) ?_
  refine lv_iload_n hx hb dL_law_1170 rfl (lv_at hl 3 rfl) ?_
  refine lv_iconst (v := (1 : Int32)) hx hb dL_law_1171 (by decide) ?_
  refine lv_iadd hx hb dL_law_1172 ?_
  obtain ⟨h5, hf⟩ := gin_s hf
  refine va_sld hx hb hX hbl hbA hG.2 h5 dL_law_1173 ?_
  refine lv_aload_n hx hb dL_law_1174 rfl (lv_at hl 0 rfl) ?_
  refine lv_iload_n hx hb dL_law_1175 rfl (lv_at hl 3 rfl) ?_
  refine lv_iconst (v := (2 : Int32)) hx hb dL_law_1176 (by decide) ?_
  refine lv_iadd hx hb dL_law_1177 ?_
  obtain ⟨h6, hf⟩ := gin_s hf
  refine va_sld hx hb hX hbl hbA hG.2 h6 dL_law_1178 ?_
  refine lv_aload_n hx hb dL_law_1179 rfl (lv_at hl 0 rfl) ?_
  refine lv_iload_n hx hb dL_law_1180 rfl (lv_at hl 3 rfl) ?_
  refine lv_iconst (v := (3 : Int32)) hx hb dL_law_1181 (by decide) ?_
  refine lv_iadd hx hb dL_law_1182 ?_
  obtain ⟨h7, hf⟩ := gin_s hf
  refine va_sld hx hb hX hbl hbA hG.2 h7 dL_law_1183 ?_
  obtain ⟨r8, u8, hc8, hf⟩ := obind_s hf
  refine g_doI0 hG (g_runV C0 hG (k_X8_tape l D base Z u4 (xs (i + (1 : Int32)).toNatClampNeg) (xs (i + (2 : Int32)).toNatClampNeg) (xs (i + (3 : Int32)).toNatClampNeg) r8 u8 hc8) m_X8_tape v_X8_tape w_1432 ⟨by decide, by decide⟩ (g_recv C0 hG (L82 hG) rfl) rfl hl.1 rfl (Nat.le_of_ble_eq_true rfl) dL_law_1184 ⟨by have := hcl.1; show _ ≤ 600000; omega, by have := hcl.2; show _ ≤ 7302250; omega⟩) (fun H locs hG hk => ?_)
  refine lv_icmp_eq (tgt := 1362) hx hb dL_law_1187 (by decide) (fun c9 => ?_) (fun c9 => ?_)
  · have hf := gif_t c9 hf
    obtain rfl := Option.some.inj hf
    refine W.widen (k := cells + 2) (n := slots + 103) (by omega) (by omega) ?_
    exact kk _ _ hG
  · have hf := gif_f c9 hf
    cases hf
def f_L_32 (xs : Nat → Int32) (L : Nat) (i : Int32) (u : Mem) : Option Mem := gin (i + (1 : Int32)) L (gin (i + (2 : Int32)) L (gin (i + (3 : Int32)) L (gin (i + (4 : Int32)) L (obind (f_X7_item (xs (i + (1 : Int32)).toNatClampNeg) (xs (i + (2 : Int32)).toNatClampNeg) ((((xs (i + (3 : Int32)).toNatClampNeg).toInt64) <<< ((32 : Int32).toInt64 &&& 63)) ||| (((xs (i + (4 : Int32)).toNatClampNeg).toInt64) &&& (4294967295 : Int64))) u) (fun r5 u5 => gin (i + (1 : Int32)) L (gin (i + (2 : Int32)) L (gin (i + (3 : Int32)) L (gin (i + (4 : Int32)) L (obind (f_X8_item (xs (i + (1 : Int32)).toNatClampNeg) (xs (i + (2 : Int32)).toNatClampNeg) ((((xs (i + (3 : Int32)).toNatClampNeg).toInt64) <<< ((32 : Int32).toInt64 &&& 63)) ||| (((xs (i + (4 : Int32)).toNatClampNeg).toInt64) &&& (4294967295 : Int64))) u5) (fun r10 u10 => (if r5 = r10 then some u10 else none)))))))))))
set_option maxHeartbeats 4000000 in
set_option maxRecDepth 100000 in
theorem k_L_32 {p : Program} {l : Launch} {e : Env} {s : State} {m : MethodId} {below : List Frame} {meth : Method} {c : Code} {H : Heap} {locs : List Loc} {cells slots : Nat} {Q : State → Prop} {ls : Array Slot} {D : gDt} {base : Nat} {Z : gZt} {b L : Nat} {xs : Nat → Int32} {i : Int32} {u u2 : Mem} (C0 : gC p s m meth c (#[Value.ref b] : Array Value) code 4 R_law D base Z) (hX : va_X b L xs s s.heap) (hbl : b < s.heap.size) (hbA : ¬ gF base b) (hcl : cells + 2 ≤ 600000 ∧ slots + 103 ≤ 7302250) (hl : lv_has ls 4 [(0, .ref b), (1, .ref (base + 0)), (2, .ref (base + 82)), (3, .int i)]) (hG : gH D base s u H locs) (hf : f_L_32 xs L i u = some u2) (kk : ∀ (H : Heap) (locs : List Loc), gH D base s u2 H locs → W p l e room_1 s m (#[Value.ref b] : Array Value) below meth c H locs (cells + 2) (slots + 103) Q (F0 m 1362 ls [])) : W p l e room_1 s m (#[Value.ref b] : Array Value) below meth c H locs cells slots Q (F0 m 1192 ls []) := by
  have hx := C0.1
  have hb := C0.2.1
  unfold f_L_32 at hf
  refine lv_aload_n hx hb dL_law_1192 rfl (lv_at hl 1 rfl) ?_
  refine lv_aload_n hx hb dL_law_1193 rfl (lv_at hl 0 rfl) ?_
  refine lv_iload_n hx hb dL_law_1194 rfl (lv_at hl 3 rfl) ?_
  refine lv_iconst (v := (1 : Int32)) hx hb dL_law_1195 (by decide) ?_
  refine lv_iadd hx hb dL_law_1196 ?_
  obtain ⟨h1, hf⟩ := gin_s hf
  refine va_sld hx hb hX hbl hbA hG.2 h1 dL_law_1197 ?_
  refine lv_aload_n hx hb dL_law_1198 rfl (lv_at hl 0 rfl) ?_
  refine lv_iload_n hx hb dL_law_1199 rfl (lv_at hl 3 rfl) ?_
  refine lv_iconst (v := (2 : Int32)) hx hb dL_law_1200 (by decide) ?_
  refine lv_iadd hx hb dL_law_1201 ?_
  obtain ⟨h2, hf⟩ := gin_s hf
  refine va_sld hx hb hX hbl hbA hG.2 h2 dL_law_1202 ?_
  refine lv_aload_n hx hb dL_law_1203 rfl (lv_at hl 0 rfl) ?_
  refine lv_iload_n hx hb dL_law_1204 rfl (lv_at hl 3 rfl) ?_
  refine lv_iconst (v := (3 : Int32)) hx hb dL_law_1205 (by decide) ?_
  refine lv_iadd hx hb dL_law_1206 ?_
  obtain ⟨h3, hf⟩ := gin_s hf
  refine va_sld hx hb hX hbl hbA hG.2 h3 dL_law_1207 ?_
  refine lv_i2l (v := (xs (i + (3 : Int32)).toNatClampNeg).toInt64) hx hb dL_law_1208 rfl ?_
  refine lv_bipush (v := (32 : Int32)) hx hb dL_law_1209 (by decide) ?_
  refine lv_lshl (v := ((xs (i + (3 : Int32)).toNatClampNeg).toInt64) <<< ((32 : Int32).toInt64 &&& 63)) hx hb dL_law_1211 rfl ?_
  refine lv_aload_n hx hb dL_law_1212 rfl (lv_at hl 0 rfl) ?_
  refine lv_iload_n hx hb dL_law_1213 rfl (lv_at hl 3 rfl) ?_
  refine lv_iconst (v := (4 : Int32)) hx hb dL_law_1214 (by decide) ?_
  refine lv_iadd hx hb dL_law_1215 ?_
  obtain ⟨h4, hf⟩ := gin_s hf
  refine va_sld hx hb hX hbl hbA hG.2 h4 dL_law_1216 ?_
  refine lv_i2l (v := (xs (i + (4 : Int32)).toNatClampNeg).toInt64) hx hb dL_law_1217 rfl ?_
  refine lv_ldc2 (v := (4294967295 : Int64)) hx hb C0.2.2.2.1 (C0.2.2.2.2.1 _ w_1452) dL_law_1218 ?_
  refine lv_land hx hb dL_law_1221 ?_
  refine lv_lor hx hb dL_law_1222 ?_
  obtain ⟨r5, u5, hc5, hf⟩ := obind_s hf
  refine g_doI0 hG (g_runV C0 hG (k_X7_item l D base Z u (xs (i + (1 : Int32)).toNatClampNeg) (xs (i + (2 : Int32)).toNatClampNeg) ((((xs (i + (3 : Int32)).toNatClampNeg).toInt64) <<< ((32 : Int32).toInt64 &&& 63)) ||| (((xs (i + (4 : Int32)).toNatClampNeg).toInt64) &&& (4294967295 : Int64))) r5 u5 hc5) m_X7_item v_X7_item w_823 ⟨by decide, by decide⟩ (g_recv C0 hG (L0 hG) rfl) rfl hl.1 rfl (Nat.le_of_ble_eq_true rfl) dL_law_1223 ⟨by have := hcl.1; show _ ≤ 600000; omega, by have := hcl.2; show _ ≤ 7302250; omega⟩) (fun H locs hG hk => ?_)
  refine lv_aload_n hx hb dL_law_1226 rfl (lv_at hl 2 rfl) ?_
  refine lv_aload_n hx hb dL_law_1227 rfl (lv_at hl 0 rfl) ?_
  refine lv_iload_n hx hb dL_law_1228 rfl (lv_at hl 3 rfl) ?_
  refine lv_iconst (v := (1 : Int32)) hx hb dL_law_1229 (by decide) ?_
  refine lv_iadd hx hb dL_law_1230 ?_
  obtain ⟨h6, hf⟩ := gin_s hf
  refine va_sld hx hb hX hbl hbA hG.2 h6 dL_law_1231 ?_
  refine lv_aload_n hx hb dL_law_1232 rfl (lv_at hl 0 rfl) ?_
  refine lv_iload_n hx hb dL_law_1233 rfl (lv_at hl 3 rfl) ?_
  refine lv_iconst (v := (2 : Int32)) hx hb dL_law_1234 (by decide) ?_
  refine lv_iadd hx hb dL_law_1235 ?_
  obtain ⟨h7, hf⟩ := gin_s hf
  refine va_sld hx hb hX hbl hbA hG.2 h7 dL_law_1236 ?_
  refine lv_aload_n hx hb dL_law_1237 rfl (lv_at hl 0 rfl) ?_
  refine lv_iload_n hx hb dL_law_1238 rfl (lv_at hl 3 rfl) ?_
  refine lv_iconst (v := (3 : Int32)) hx hb dL_law_1239 (by decide) ?_
  refine lv_iadd hx hb dL_law_1240 ?_
  obtain ⟨h8, hf⟩ := gin_s hf
  refine va_sld hx hb hX hbl hbA hG.2 h8 dL_law_1241 ?_
  refine lv_i2l (v := (xs (i + (3 : Int32)).toNatClampNeg).toInt64) hx hb dL_law_1242 rfl ?_
  refine lv_bipush (v := (32 : Int32)) hx hb dL_law_1243 (by decide) ?_
  refine lv_lshl (v := ((xs (i + (3 : Int32)).toNatClampNeg).toInt64) <<< ((32 : Int32).toInt64 &&& 63)) hx hb dL_law_1245 rfl ?_
  refine lv_aload_n hx hb dL_law_1246 rfl (lv_at hl 0 rfl) ?_
  refine lv_iload_n hx hb dL_law_1247 rfl (lv_at hl 3 rfl) ?_
  refine lv_iconst (v := (4 : Int32)) hx hb dL_law_1248 (by decide) ?_
  refine lv_iadd hx hb dL_law_1249 ?_
  obtain ⟨h9, hf⟩ := gin_s hf
  refine va_sld hx hb hX hbl hbA hG.2 h9 dL_law_1250 ?_
  refine lv_i2l (v := (xs (i + (4 : Int32)).toNatClampNeg).toInt64) hx hb dL_law_1251 rfl ?_
  refine lv_ldc2 (v := (4294967295 : Int64)) hx hb C0.2.2.2.1 (C0.2.2.2.2.1 _ w_1452) dL_law_1252 ?_
  refine lv_land hx hb dL_law_1255 ?_
  refine lv_lor hx hb dL_law_1256 ?_
  obtain ⟨r10, u10, hc10, hf⟩ := obind_s hf
  refine g_doI0 hG (g_runV C0 hG (k_X8_item l D base Z u5 (xs (i + (1 : Int32)).toNatClampNeg) (xs (i + (2 : Int32)).toNatClampNeg) ((((xs (i + (3 : Int32)).toNatClampNeg).toInt64) <<< ((32 : Int32).toInt64 &&& 63)) ||| (((xs (i + (4 : Int32)).toNatClampNeg).toInt64) &&& (4294967295 : Int64))) r10 u10 hc10) m_X8_item v_X8_item w_1436 ⟨by decide, by decide⟩ (g_recv C0 hG (L82 hG) rfl) rfl hl.1 rfl (Nat.le_of_ble_eq_true rfl) dL_law_1257 ⟨by have := hcl.1; show _ ≤ 600000; omega, by have := hcl.2; show _ ≤ 7302250; omega⟩) (fun H locs hG hk => ?_)
  refine lv_icmp_eq (tgt := 1362) hx hb dL_law_1260 (by decide) (fun c11 => ?_) (fun c11 => ?_)
  · have hf := gif_t c11 hf
    obtain rfl := Option.some.inj hf
    refine W.widen (k := cells + 2) (n := slots + 103) (by omega) (by omega) ?_
    exact kk _ _ hG
  · have hf := gif_f c11 hf
    cases hf
def f_L_33 (xs : Nat → Int32) (L : Nat) (i : Int32) (u : Mem) : Option Mem := gin (i + (1 : Int32)) L (gin (i + (2 : Int32)) L (Option.bind (f_X7_read (xs (i + (1 : Int32)).toNatClampNeg) (xs (i + (2 : Int32)).toNatClampNeg) u) (fun r3 => gin (i + (1 : Int32)) L (gin (i + (2 : Int32)) L (Option.bind (f_X8_read (xs (i + (1 : Int32)).toNatClampNeg) (xs (i + (2 : Int32)).toNatClampNeg) u) (fun r6 => (if (lg_cmp r3 r6) = 0 then some u else none)))))))
set_option maxHeartbeats 4000000 in
set_option maxRecDepth 100000 in
theorem k_L_33 {p : Program} {l : Launch} {e : Env} {s : State} {m : MethodId} {below : List Frame} {meth : Method} {c : Code} {H : Heap} {locs : List Loc} {cells slots : Nat} {Q : State → Prop} {ls : Array Slot} {D : gDt} {base : Nat} {Z : gZt} {b L : Nat} {xs : Nat → Int32} {i : Int32} {u u2 : Mem} (C0 : gC p s m meth c (#[Value.ref b] : Array Value) code 4 R_law D base Z) (hX : va_X b L xs s s.heap) (hbl : b < s.heap.size) (hbA : ¬ gF base b) (hcl : cells + 2 ≤ 600000 ∧ slots + 103 ≤ 7302250) (hl : lv_has ls 4 [(0, .ref b), (1, .ref (base + 0)), (2, .ref (base + 82)), (3, .int i)]) (hG : gH D base s u H locs) (hf : f_L_33 xs L i u = some u2) (kk : ∀ (H : Heap) (locs : List Loc), gH D base s u2 H locs → W p l e room_1 s m (#[Value.ref b] : Array Value) below meth c H locs (cells + 2) (slots + 103) Q (F0 m 1362 ls [])) : W p l e room_1 s m (#[Value.ref b] : Array Value) below meth c H locs cells slots Q (F0 m 1265 ls []) := by
  have hx := C0.1
  have hb := C0.2.1
  unfold f_L_33 at hf
  refine lv_aload_n hx hb dL_law_1265 rfl (lv_at hl 1 rfl) ?_
  refine lv_aload_n hx hb dL_law_1266 rfl (lv_at hl 0 rfl) ?_
  refine lv_iload_n hx hb dL_law_1267 rfl (lv_at hl 3 rfl) ?_
  refine lv_iconst (v := (1 : Int32)) hx hb dL_law_1268 (by decide) ?_
  refine lv_iadd hx hb dL_law_1269 ?_
  obtain ⟨h1, hf⟩ := gin_s hf
  refine va_sld hx hb hX hbl hbA hG.2 h1 dL_law_1270 ?_
  refine lv_aload_n hx hb dL_law_1271 rfl (lv_at hl 0 rfl) ?_
  refine lv_iload_n hx hb dL_law_1272 rfl (lv_at hl 3 rfl) ?_
  refine lv_iconst (v := (2 : Int32)) hx hb dL_law_1273 (by decide) ?_
  refine lv_iadd hx hb dL_law_1274 ?_
  obtain ⟨h2, hf⟩ := gin_s hf
  refine va_sld hx hb hX hbl hbA hG.2 h2 dL_law_1275 ?_
  obtain ⟨r3, hc3, hf⟩ := pb_s hf
  refine g_doL0 hG (g_runV C0 hG (k_X7_read l D base Z u (xs (i + (1 : Int32)).toNatClampNeg) (xs (i + (2 : Int32)).toNatClampNeg) r3 hc3) m_X7_read v_X7_read w_831 ⟨by decide, by decide⟩ (g_recv C0 hG (L0 hG) rfl) rfl hl.1 rfl (Nat.le_of_ble_eq_true rfl) dL_law_1276 ⟨by have := hcl.1; show _ ≤ 600000; omega, by have := hcl.2; show _ ≤ 7302250; omega⟩) (fun H locs hG hk => ?_)
  refine lv_aload_n hx hb dL_law_1279 rfl (lv_at hl 2 rfl) ?_
  refine lv_aload_n hx hb dL_law_1280 rfl (lv_at hl 0 rfl) ?_
  refine lv_iload_n hx hb dL_law_1281 rfl (lv_at hl 3 rfl) ?_
  refine lv_iconst (v := (1 : Int32)) hx hb dL_law_1282 (by decide) ?_
  refine lv_iadd hx hb dL_law_1283 ?_
  obtain ⟨h4, hf⟩ := gin_s hf
  refine va_sld hx hb hX hbl hbA hG.2 h4 dL_law_1284 ?_
  refine lv_aload_n hx hb dL_law_1285 rfl (lv_at hl 0 rfl) ?_
  refine lv_iload_n hx hb dL_law_1286 rfl (lv_at hl 3 rfl) ?_
  refine lv_iconst (v := (2 : Int32)) hx hb dL_law_1287 (by decide) ?_
  refine lv_iadd hx hb dL_law_1288 ?_
  obtain ⟨h5, hf⟩ := gin_s hf
  refine va_sld hx hb hX hbl hbA hG.2 h5 dL_law_1289 ?_
  obtain ⟨r6, hc6, hf⟩ := pb_s hf
  refine g_doL0 hG (g_runV C0 hG (k_X8_read l D base Z u (xs (i + (1 : Int32)).toNatClampNeg) (xs (i + (2 : Int32)).toNatClampNeg) r6 hc6) m_X8_read v_X8_read w_1444 ⟨by decide, by decide⟩ (g_recv C0 hG (L82 hG) rfl) rfl hl.1 rfl (Nat.le_of_ble_eq_true rfl) dL_law_1290 ⟨by have := hcl.1; show _ ≤ 600000; omega, by have := hcl.2; show _ ≤ 7302250; omega⟩) (fun H locs hG hk => ?_)
  refine W.lcmp hx hb dL_law_1293 ?_
  refine lv_if_eq (tgt := 1362) hx hb dL_law_1294 (by decide) (fun c7 => ?_) (fun c7 => ?_)
  · have hf := gif_t c7 hf
    obtain rfl := Option.some.inj hf
    refine W.widen (k := cells + 2) (n := slots + 103) (by omega) (by omega) ?_
    exact kk _ _ hG
  · have hf := gif_f c7 hf
    cases hf
def f_L_34 (xs : Nat → Int32) (L : Nat) (i : Int32) (u : Mem) : Option Mem := gin (i + (1 : Int32)) L (gin (i + (2 : Int32)) L (gin (i + (3 : Int32)) L (gin (i + (4 : Int32)) L (gin (i + (5 : Int32)) L (obind (f_X7_shift (xs (i + (1 : Int32)).toNatClampNeg) (xs (i + (2 : Int32)).toNatClampNeg) (xs (i + (3 : Int32)).toNatClampNeg) (xs (i + (4 : Int32)).toNatClampNeg) (xs (i + (5 : Int32)).toNatClampNeg) u) (fun r6 u6 => gin (i + (1 : Int32)) L (gin (i + (2 : Int32)) L (gin (i + (3 : Int32)) L (gin (i + (4 : Int32)) L (gin (i + (5 : Int32)) L (obind (f_X8_shift (xs (i + (1 : Int32)).toNatClampNeg) (xs (i + (2 : Int32)).toNatClampNeg) (xs (i + (3 : Int32)).toNatClampNeg) (xs (i + (4 : Int32)).toNatClampNeg) (xs (i + (5 : Int32)).toNatClampNeg) u6) (fun r12 u12 => (if r6 = r12 then some u12 else none)))))))))))))
set_option maxHeartbeats 4000000 in
set_option maxRecDepth 100000 in
theorem k_L_34 {p : Program} {l : Launch} {e : Env} {s : State} {m : MethodId} {below : List Frame} {meth : Method} {c : Code} {H : Heap} {locs : List Loc} {cells slots : Nat} {Q : State → Prop} {ls : Array Slot} {D : gDt} {base : Nat} {Z : gZt} {b L : Nat} {xs : Nat → Int32} {i : Int32} {u u2 : Mem} (C0 : gC p s m meth c (#[Value.ref b] : Array Value) code 4 R_law D base Z) (hX : va_X b L xs s s.heap) (hbl : b < s.heap.size) (hbA : ¬ gF base b) (hcl : cells + 2 ≤ 600000 ∧ slots + 103 ≤ 7302250) (hl : lv_has ls 4 [(0, .ref b), (1, .ref (base + 0)), (2, .ref (base + 82)), (3, .int i)]) (hG : gH D base s u H locs) (hf : f_L_34 xs L i u = some u2) (kk : ∀ (H : Heap) (locs : List Loc), gH D base s u2 H locs → W p l e room_1 s m (#[Value.ref b] : Array Value) below meth c H locs (cells + 2) (slots + 103) Q (F0 m 1362 ls [])) : W p l e room_1 s m (#[Value.ref b] : Array Value) below meth c H locs cells slots Q (F0 m 1299 ls []) := by
  have hx := C0.1
  have hb := C0.2.1
  unfold f_L_34 at hf
  refine lv_aload_n hx hb dL_law_1299 rfl (lv_at hl 1 rfl) ?_
  refine lv_aload_n hx hb dL_law_1300 rfl (lv_at hl 0 rfl) ?_
  refine lv_iload_n hx hb dL_law_1301 rfl (lv_at hl 3 rfl) ?_
  refine lv_iconst (v := (1 : Int32)) hx hb dL_law_1302 (by decide) ?_
  refine lv_iadd hx hb dL_law_1303 ?_
  obtain ⟨h1, hf⟩ := gin_s hf
  refine va_sld hx hb hX hbl hbA hG.2 h1 dL_law_1304 ?_
  refine lv_aload_n hx hb dL_law_1305 rfl (lv_at hl 0 rfl) ?_
  refine lv_iload_n hx hb dL_law_1306 rfl (lv_at hl 3 rfl) ?_
  refine lv_iconst (v := (2 : Int32)) hx hb dL_law_1307 (by decide) ?_
  refine lv_iadd hx hb dL_law_1308 ?_
  obtain ⟨h2, hf⟩ := gin_s hf
  refine va_sld hx hb hX hbl hbA hG.2 h2 dL_law_1309 ?_
  refine lv_aload_n hx hb dL_law_1310 rfl (lv_at hl 0 rfl) ?_
  refine lv_iload_n hx hb dL_law_1311 rfl (lv_at hl 3 rfl) ?_
  refine lv_iconst (v := (3 : Int32)) hx hb dL_law_1312 (by decide) ?_
  refine lv_iadd hx hb dL_law_1313 ?_
  obtain ⟨h3, hf⟩ := gin_s hf
  refine va_sld hx hb hX hbl hbA hG.2 h3 dL_law_1314 ?_
  refine lv_aload_n hx hb dL_law_1315 rfl (lv_at hl 0 rfl) ?_
  refine lv_iload_n hx hb dL_law_1316 rfl (lv_at hl 3 rfl) ?_
  refine lv_iconst (v := (4 : Int32)) hx hb dL_law_1317 (by decide) ?_
  refine lv_iadd hx hb dL_law_1318 ?_
  obtain ⟨h4, hf⟩ := gin_s hf
  refine va_sld hx hb hX hbl hbA hG.2 h4 dL_law_1319 ?_
  refine lv_aload_n hx hb dL_law_1320 rfl (lv_at hl 0 rfl) ?_
  refine lv_iload_n hx hb dL_law_1321 rfl (lv_at hl 3 rfl) ?_
  refine lv_iconst (v := (5 : Int32)) hx hb dL_law_1322 (by decide) ?_
  refine lv_iadd hx hb dL_law_1323 ?_
  obtain ⟨h5, hf⟩ := gin_s hf
  refine va_sld hx hb hX hbl hbA hG.2 h5 dL_law_1324 ?_
  obtain ⟨r6, u6, hc6, hf⟩ := obind_s hf
  refine g_doI0 hG (g_runV C0 hG (k_X7_shift l D base Z u (xs (i + (1 : Int32)).toNatClampNeg) (xs (i + (2 : Int32)).toNatClampNeg) (xs (i + (3 : Int32)).toNatClampNeg) (xs (i + (4 : Int32)).toNatClampNeg) (xs (i + (5 : Int32)).toNatClampNeg) r6 u6 hc6) m_X7_shift v_X7_shift w_835 ⟨by decide, by decide⟩ (g_recv C0 hG (L0 hG) rfl) rfl hl.1 rfl (Nat.le_of_ble_eq_true rfl) dL_law_1325 ⟨by have := hcl.1; show _ ≤ 600000; omega, by have := hcl.2; show _ ≤ 7302250; omega⟩) (fun H locs hG hk => ?_)
  refine lv_aload_n hx hb dL_law_1328 rfl (lv_at hl 2 rfl) ?_
  refine lv_aload_n hx hb dL_law_1329 rfl (lv_at hl 0 rfl) ?_
  refine lv_iload_n hx hb dL_law_1330 rfl (lv_at hl 3 rfl) ?_
  refine lv_iconst (v := (1 : Int32)) hx hb dL_law_1331 (by decide) ?_
  refine lv_iadd hx hb dL_law_1332 ?_
  obtain ⟨h7, hf⟩ := gin_s hf
  refine va_sld hx hb hX hbl hbA hG.2 h7 dL_law_1333 ?_
  refine lv_aload_n hx hb dL_law_1334 rfl (lv_at hl 0 rfl) ?_
  refine lv_iload_n hx hb dL_law_1335 rfl (lv_at hl 3 rfl) ?_
  refine lv_iconst (v := (2 : Int32)) hx hb dL_law_1336 (by decide) ?_
  refine lv_iadd hx hb dL_law_1337 ?_
  obtain ⟨h8, hf⟩ := gin_s hf
  refine va_sld hx hb hX hbl hbA hG.2 h8 dL_law_1338 ?_
  refine lv_aload_n hx hb dL_law_1339 rfl (lv_at hl 0 rfl) ?_
  refine lv_iload_n hx hb dL_law_1340 rfl (lv_at hl 3 rfl) ?_
  refine lv_iconst (v := (3 : Int32)) hx hb dL_law_1341 (by decide) ?_
  refine lv_iadd hx hb dL_law_1342 ?_
  obtain ⟨h9, hf⟩ := gin_s hf
  refine va_sld hx hb hX hbl hbA hG.2 h9 dL_law_1343 ?_
  refine lv_aload_n hx hb dL_law_1344 rfl (lv_at hl 0 rfl) ?_
  refine lv_iload_n hx hb dL_law_1345 rfl (lv_at hl 3 rfl) ?_
  refine lv_iconst (v := (4 : Int32)) hx hb dL_law_1346 (by decide) ?_
  refine lv_iadd hx hb dL_law_1347 ?_
  obtain ⟨h10, hf⟩ := gin_s hf
  refine va_sld hx hb hX hbl hbA hG.2 h10 dL_law_1348 ?_
  refine lv_aload_n hx hb dL_law_1349 rfl (lv_at hl 0 rfl) ?_
  refine lv_iload_n hx hb dL_law_1350 rfl (lv_at hl 3 rfl) ?_
  refine lv_iconst (v := (5 : Int32)) hx hb dL_law_1351 (by decide) ?_
  refine lv_iadd hx hb dL_law_1352 ?_
  obtain ⟨h11, hf⟩ := gin_s hf
  refine va_sld hx hb hX hbl hbA hG.2 h11 dL_law_1353 ?_
  obtain ⟨r12, u12, hc12, hf⟩ := obind_s hf
  refine g_doI0 hG (g_runV C0 hG (k_X8_shift l D base Z u6 (xs (i + (1 : Int32)).toNatClampNeg) (xs (i + (2 : Int32)).toNatClampNeg) (xs (i + (3 : Int32)).toNatClampNeg) (xs (i + (4 : Int32)).toNatClampNeg) (xs (i + (5 : Int32)).toNatClampNeg) r12 u12 hc12) m_X8_shift v_X8_shift w_1448 ⟨by decide, by decide⟩ (g_recv C0 hG (L82 hG) rfl) rfl hl.1 rfl (Nat.le_of_ble_eq_true rfl) dL_law_1354 ⟨by have := hcl.1; show _ ≤ 600000; omega, by have := hcl.2; show _ ≤ 7302250; omega⟩) (fun H locs hG hk => ?_)
  refine lv_icmp_eq (tgt := 1362) hx hb dL_law_1357 (by decide) (fun c13 => ?_) (fun c13 => ?_)
  · have hf := gif_t c13 hf
    obtain rfl := Option.some.inj hf
    refine W.widen (k := cells + 2) (n := slots + 103) (by omega) (by omega) ?_
    exact kk _ _ hG
  · have hf := gif_f c13 hf
    cases hf
def f_L_step (xs : Nat → Int32) (L : Nat) (i : Int32) (u : Mem) : Option Mem := gin i L ((if ((xs i.toNatClampNeg) &&& (63 : Int32)) = (0 : Int32) then f_L_0 xs L i u else (if ((xs i.toNatClampNeg) &&& (63 : Int32)) = (1 : Int32) then f_L_1 xs L i u else (if ((xs i.toNatClampNeg) &&& (63 : Int32)) = (2 : Int32) then f_L_2 xs L i u else (if ((xs i.toNatClampNeg) &&& (63 : Int32)) = (3 : Int32) then f_L_3 xs L i u else (if ((xs i.toNatClampNeg) &&& (63 : Int32)) = (4 : Int32) then f_L_4 xs L i u else (if ((xs i.toNatClampNeg) &&& (63 : Int32)) = (5 : Int32) then f_L_5 xs L i u else (if ((xs i.toNatClampNeg) &&& (63 : Int32)) = (6 : Int32) then f_L_6 xs L i u else (if ((xs i.toNatClampNeg) &&& (63 : Int32)) = (7 : Int32) then f_L_7 xs L i u else (if ((xs i.toNatClampNeg) &&& (63 : Int32)) = (8 : Int32) then f_L_8 xs L i u else (if ((xs i.toNatClampNeg) &&& (63 : Int32)) = (9 : Int32) then f_L_9 xs L i u else (if ((xs i.toNatClampNeg) &&& (63 : Int32)) = (10 : Int32) then f_L_10 xs L i u else (if ((xs i.toNatClampNeg) &&& (63 : Int32)) = (11 : Int32) then f_L_11 xs L i u else (if ((xs i.toNatClampNeg) &&& (63 : Int32)) = (12 : Int32) then f_L_12 xs L i u else (if ((xs i.toNatClampNeg) &&& (63 : Int32)) = (13 : Int32) then f_L_13 xs L i u else (if ((xs i.toNatClampNeg) &&& (63 : Int32)) = (14 : Int32) then f_L_14 xs L i u else (if ((xs i.toNatClampNeg) &&& (63 : Int32)) = (15 : Int32) then f_L_15 xs L i u else (if ((xs i.toNatClampNeg) &&& (63 : Int32)) = (16 : Int32) then f_L_16 xs L i u else (if ((xs i.toNatClampNeg) &&& (63 : Int32)) = (17 : Int32) then f_L_17 xs L i u else (if ((xs i.toNatClampNeg) &&& (63 : Int32)) = (18 : Int32) then f_L_18 xs L i u else (if ((xs i.toNatClampNeg) &&& (63 : Int32)) = (19 : Int32) then f_L_19 xs L i u else (if ((xs i.toNatClampNeg) &&& (63 : Int32)) = (20 : Int32) then f_L_20 xs L i u else (if ((xs i.toNatClampNeg) &&& (63 : Int32)) = (21 : Int32) then f_L_21 xs L i u else (if ((xs i.toNatClampNeg) &&& (63 : Int32)) = (22 : Int32) then f_L_22 xs L i u else (if ((xs i.toNatClampNeg) &&& (63 : Int32)) = (23 : Int32) then f_L_23 xs L i u else (if ((xs i.toNatClampNeg) &&& (63 : Int32)) = (24 : Int32) then f_L_24 xs L i u else (if ((xs i.toNatClampNeg) &&& (63 : Int32)) = (25 : Int32) then f_L_25 xs L i u else (if ((xs i.toNatClampNeg) &&& (63 : Int32)) = (26 : Int32) then f_L_26 xs L i u else (if ((xs i.toNatClampNeg) &&& (63 : Int32)) = (27 : Int32) then f_L_27 xs L i u else (if ((xs i.toNatClampNeg) &&& (63 : Int32)) = (28 : Int32) then f_L_28 xs L i u else (if ((xs i.toNatClampNeg) &&& (63 : Int32)) = (29 : Int32) then f_L_29 xs L i u else (if ((xs i.toNatClampNeg) &&& (63 : Int32)) = (30 : Int32) then f_L_30 xs L i u else (if ((xs i.toNatClampNeg) &&& (63 : Int32)) = (31 : Int32) then f_L_31 xs L i u else (if ((xs i.toNatClampNeg) &&& (63 : Int32)) = (32 : Int32) then f_L_32 xs L i u else (if ((xs i.toNatClampNeg) &&& (63 : Int32)) = (33 : Int32) then f_L_33 xs L i u else (if ((xs i.toNatClampNeg) &&& (63 : Int32)) = (34 : Int32) then f_L_34 xs L i u else some u))))))))))))))))))))))))))))))))))))
set_option maxHeartbeats 4000000 in
set_option maxRecDepth 100000 in
theorem k_L_step {p : Program} {l : Launch} {e : Env} {s : State} {m : MethodId} {below : List Frame} {meth : Method} {c : Code} {H : Heap} {locs : List Loc} {cells slots : Nat} {Q : State → Prop} {ls : Array Slot} {D : gDt} {base : Nat} {Z : gZt} {b L : Nat} {xs : Nat → Int32} {i : Int32} {u u2 : Mem} (C0 : gC p s m meth c (#[Value.ref b] : Array Value) code 4 R_law D base Z) (hX : va_X b L xs s s.heap) (hbl : b < s.heap.size) (hbA : ¬ gF base b) (hcl : cells + 2 ≤ 600000 ∧ slots + 103 ≤ 7302250) (hl : lv_has ls 4 [(0, .ref b), (1, .ref (base + 0)), (2, .ref (base + 82)), (3, .int i)]) (hG : gH D base s u H locs) (hf : f_L_step xs L i u = some u2) (kk : ∀ (H : Heap) (locs : List Loc), gH D base s u2 H locs → W p l e room_1 s m (#[Value.ref b] : Array Value) below meth c H locs (cells + 2) (slots + 103) Q (F0 m 1362 ls [])) : W p l e room_1 s m (#[Value.ref b] : Array Value) below meth c H locs cells slots Q (F0 m 27 ls []) := by
  have hx := C0.1
  have hb := C0.2.1
  unfold f_L_step at hf
  refine lv_aload_n hx hb dL_law_27 rfl (lv_at hl 0 rfl) ?_
  refine lv_iload_n hx hb dL_law_28 rfl (lv_at hl 3 rfl) ?_
  obtain ⟨h1, hf⟩ := gin_s hf
  refine va_sld hx hb hX hbl hbA hG.2 h1 dL_law_29 ?_
  refine lv_bipush (v := (63 : Int32)) hx hb dL_law_30 (by decide) ?_
  refine lv_iand hx hb dL_law_32 ?_
  refine (Decidable.em (((xs i.toNatClampNeg) &&& (63 : Int32)) = (0 : Int32))).elim (fun c2 => ?_) (fun c2 => ?_)
  · have hf := gif_t c2 hf
    refine lv_tableIn (off := 155) (tgt := 188) hx hb dL_law_33 (by rw [c2]; decide) (by rw [c2]; decide) (by rw [c2]; rfl) (by decide) ?_
    exact k_L_0 C0 hX hbl hbA hcl hl hG hf kk
  · have hf := gif_f c2 hf
    refine (Decidable.em (((xs i.toNatClampNeg) &&& (63 : Int32)) = (1 : Int32))).elim (fun c3 => ?_) (fun c3 => ?_)
    · have hf := gif_t c3 hf
      refine lv_tableIn (off := 208) (tgt := 241) hx hb dL_law_33 (by rw [c3]; decide) (by rw [c3]; decide) (by rw [c3]; rfl) (by decide) ?_
      exact k_L_1 C0 hX hbl hbA hcl hl hG hf kk
    · have hf := gif_f c3 hf
      refine (Decidable.em (((xs i.toNatClampNeg) &&& (63 : Int32)) = (2 : Int32))).elim (fun c4 => ?_) (fun c4 => ?_)
      · have hf := gif_t c4 hf
        refine lv_tableIn (off := 241) (tgt := 274) hx hb dL_law_33 (by rw [c4]; decide) (by rw [c4]; decide) (by rw [c4]; rfl) (by decide) ?_
        exact k_L_2 C0 hX hbl hbA hcl hl hG hf kk
      · have hf := gif_f c4 hf
        refine (Decidable.em (((xs i.toNatClampNeg) &&& (63 : Int32)) = (3 : Int32))).elim (fun c5 => ?_) (fun c5 => ?_)
        · have hf := gif_t c5 hf
          refine lv_tableIn (off := 274) (tgt := 307) hx hb dL_law_33 (by rw [c5]; decide) (by rw [c5]; decide) (by rw [c5]; rfl) (by decide) ?_
          exact k_L_3 C0 hX hbl hbA hcl hl hG hf kk
        · have hf := gif_f c5 hf
          refine (Decidable.em (((xs i.toNatClampNeg) &&& (63 : Int32)) = (4 : Int32))).elim (fun c6 => ?_) (fun c6 => ?_)
          · have hf := gif_t c6 hf
            refine lv_tableIn (off := 307) (tgt := 340) hx hb dL_law_33 (by rw [c6]; decide) (by rw [c6]; decide) (by rw [c6]; rfl) (by decide) ?_
            exact k_L_4 C0 hX hbl hbA hcl hl hG hf kk
          · have hf := gif_f c6 hf
            refine (Decidable.em (((xs i.toNatClampNeg) &&& (63 : Int32)) = (5 : Int32))).elim (fun c7 => ?_) (fun c7 => ?_)
            · have hf := gif_t c7 hf
              refine lv_tableIn (off := 356) (tgt := 389) hx hb dL_law_33 (by rw [c7]; decide) (by rw [c7]; decide) (by rw [c7]; rfl) (by decide) ?_
              exact k_L_5 C0 hX hbl hbA hcl hl hG hf kk
            · have hf := gif_f c7 hf
              refine (Decidable.em (((xs i.toNatClampNeg) &&& (63 : Int32)) = (6 : Int32))).elim (fun c8 => ?_) (fun c8 => ?_)
              · have hf := gif_t c8 hf
                refine lv_tableIn (off := 399) (tgt := 432) hx hb dL_law_33 (by rw [c8]; decide) (by rw [c8]; decide) (by rw [c8]; rfl) (by decide) ?_
                exact k_L_6 C0 hX hbl hbA hcl hl hG hf kk
              · have hf := gif_f c8 hf
                refine (Decidable.em (((xs i.toNatClampNeg) &&& (63 : Int32)) = (7 : Int32))).elim (fun c9 => ?_) (fun c9 => ?_)
                · have hf := gif_t c9 hf
                  refine lv_tableIn (off := 442) (tgt := 475) hx hb dL_law_33 (by rw [c9]; decide) (by rw [c9]; decide) (by rw [c9]; rfl) (by decide) ?_
                  exact k_L_7 C0 hX hbl hbA hcl hl hG hf kk
                · have hf := gif_f c9 hf
                  refine (Decidable.em (((xs i.toNatClampNeg) &&& (63 : Int32)) = (8 : Int32))).elim (fun c10 => ?_) (fun c10 => ?_)
                  · have hf := gif_t c10 hf
                    refine lv_tableIn (off := 465) (tgt := 498) hx hb dL_law_33 (by rw [c10]; decide) (by rw [c10]; decide) (by rw [c10]; rfl) (by decide) ?_
                    exact k_L_8 C0 hX hbl hbA hcl hl hG hf kk
                  · have hf := gif_f c10 hf
                    refine (Decidable.em (((xs i.toNatClampNeg) &&& (63 : Int32)) = (9 : Int32))).elim (fun c11 => ?_) (fun c11 => ?_)
                    · have hf := gif_t c11 hf
                      refine lv_tableIn (off := 478) (tgt := 511) hx hb dL_law_33 (by rw [c11]; decide) (by rw [c11]; decide) (by rw [c11]; rfl) (by decide) ?_
                      exact k_L_9 C0 hX hbl hbA hcl hl hG hf kk
                    · have hf := gif_f c11 hf
                      refine (Decidable.em (((xs i.toNatClampNeg) &&& (63 : Int32)) = (10 : Int32))).elim (fun c12 => ?_) (fun c12 => ?_)
                      · have hf := gif_t c12 hf
                        refine lv_tableIn (off := 501) (tgt := 534) hx hb dL_law_33 (by rw [c12]; decide) (by rw [c12]; decide) (by rw [c12]; rfl) (by decide) ?_
                        exact k_L_10 C0 hX hbl hbA hcl hl hG hf kk
                      · have hf := gif_f c12 hf
                        refine (Decidable.em (((xs i.toNatClampNeg) &&& (63 : Int32)) = (11 : Int32))).elim (fun c13 => ?_) (fun c13 => ?_)
                        · have hf := gif_t c13 hf
                          refine lv_tableIn (off := 524) (tgt := 557) hx hb dL_law_33 (by rw [c13]; decide) (by rw [c13]; decide) (by rw [c13]; rfl) (by decide) ?_
                          exact k_L_11 C0 hX hbl hbA hcl hl hG hf kk
                        · have hf := gif_f c13 hf
                          refine (Decidable.em (((xs i.toNatClampNeg) &&& (63 : Int32)) = (12 : Int32))).elim (fun c14 => ?_) (fun c14 => ?_)
                          · have hf := gif_t c14 hf
                            refine lv_tableIn (off := 557) (tgt := 590) hx hb dL_law_33 (by rw [c14]; decide) (by rw [c14]; decide) (by rw [c14]; rfl) (by decide) ?_
                            exact k_L_12 C0 hX hbl hbA hcl hl hG hf kk
                          · have hf := gif_f c14 hf
                            refine (Decidable.em (((xs i.toNatClampNeg) &&& (63 : Int32)) = (13 : Int32))).elim (fun c15 => ?_) (fun c15 => ?_)
                            · have hf := gif_t c15 hf
                              refine lv_tableIn (off := 580) (tgt := 613) hx hb dL_law_33 (by rw [c15]; decide) (by rw [c15]; decide) (by rw [c15]; rfl) (by decide) ?_
                              exact k_L_13 C0 hX hbl hbA hcl hl hG hf kk
                            · have hf := gif_f c15 hf
                              refine (Decidable.em (((xs i.toNatClampNeg) &&& (63 : Int32)) = (14 : Int32))).elim (fun c16 => ?_) (fun c16 => ?_)
                              · have hf := gif_t c16 hf
                                refine lv_tableIn (off := 613) (tgt := 646) hx hb dL_law_33 (by rw [c16]; decide) (by rw [c16]; decide) (by rw [c16]; rfl) (by decide) ?_
                                exact k_L_14 C0 hX hbl hbA hcl hl hG hf kk
                              · have hf := gif_f c16 hf
                                refine (Decidable.em (((xs i.toNatClampNeg) &&& (63 : Int32)) = (15 : Int32))).elim (fun c17 => ?_) (fun c17 => ?_)
                                · have hf := gif_t c17 hf
                                  refine lv_tableIn (off := 646) (tgt := 679) hx hb dL_law_33 (by rw [c17]; decide) (by rw [c17]; decide) (by rw [c17]; rfl) (by decide) ?_
                                  exact k_L_15 C0 hX hbl hbA hcl hl hG hf kk
                                · have hf := gif_f c17 hf
                                  refine (Decidable.em (((xs i.toNatClampNeg) &&& (63 : Int32)) = (16 : Int32))).elim (fun c18 => ?_) (fun c18 => ?_)
                                  · have hf := gif_t c18 hf
                                    refine lv_tableIn (off := 669) (tgt := 702) hx hb dL_law_33 (by rw [c18]; decide) (by rw [c18]; decide) (by rw [c18]; rfl) (by decide) ?_
                                    exact k_L_16 C0 hX hbl hbA hcl hl hG hf kk
                                  · have hf := gif_f c18 hf
                                    refine (Decidable.em (((xs i.toNatClampNeg) &&& (63 : Int32)) = (17 : Int32))).elim (fun c19 => ?_) (fun c19 => ?_)
                                    · have hf := gif_t c19 hf
                                      refine lv_tableIn (off := 712) (tgt := 745) hx hb dL_law_33 (by rw [c19]; decide) (by rw [c19]; decide) (by rw [c19]; rfl) (by decide) ?_
                                      exact k_L_17 C0 hX hbl hbA hcl hl hG hf kk
                                    · have hf := gif_f c19 hf
                                      refine (Decidable.em (((xs i.toNatClampNeg) &&& (63 : Int32)) = (18 : Int32))).elim (fun c20 => ?_) (fun c20 => ?_)
                                      · have hf := gif_t c20 hf
                                        refine lv_tableIn (off := 755) (tgt := 788) hx hb dL_law_33 (by rw [c20]; decide) (by rw [c20]; decide) (by rw [c20]; rfl) (by decide) ?_
                                        exact k_L_18 C0 hX hbl hbA hcl hl hG hf kk
                                      · have hf := gif_f c20 hf
                                        refine (Decidable.em (((xs i.toNatClampNeg) &&& (63 : Int32)) = (19 : Int32))).elim (fun c21 => ?_) (fun c21 => ?_)
                                        · have hf := gif_t c21 hf
                                          refine lv_tableIn (off := 799) (tgt := 832) hx hb dL_law_33 (by rw [c21]; decide) (by rw [c21]; decide) (by rw [c21]; rfl) (by decide) ?_
                                          exact k_L_19 C0 hX hbl hbA hcl hl hG hf kk
                                        · have hf := gif_f c21 hf
                                          refine (Decidable.em (((xs i.toNatClampNeg) &&& (63 : Int32)) = (20 : Int32))).elim (fun c22 => ?_) (fun c22 => ?_)
                                          · have hf := gif_t c22 hf
                                            refine lv_tableIn (off := 833) (tgt := 866) hx hb dL_law_33 (by rw [c22]; decide) (by rw [c22]; decide) (by rw [c22]; rfl) (by decide) ?_
                                            exact k_L_20 C0 hX hbl hbA hcl hl hG hf kk
                                          · have hf := gif_f c22 hf
                                            refine (Decidable.em (((xs i.toNatClampNeg) &&& (63 : Int32)) = (21 : Int32))).elim (fun c23 => ?_) (fun c23 => ?_)
                                            · have hf := gif_t c23 hf
                                              refine lv_tableIn (off := 866) (tgt := 899) hx hb dL_law_33 (by rw [c23]; decide) (by rw [c23]; decide) (by rw [c23]; rfl) (by decide) ?_
                                              exact k_L_21 C0 hX hbl hbA hcl hl hG hf kk
                                            · have hf := gif_f c23 hf
                                              refine (Decidable.em (((xs i.toNatClampNeg) &&& (63 : Int32)) = (22 : Int32))).elim (fun c24 => ?_) (fun c24 => ?_)
                                              · have hf := gif_t c24 hf
                                                refine lv_tableIn (off := 889) (tgt := 922) hx hb dL_law_33 (by rw [c24]; decide) (by rw [c24]; decide) (by rw [c24]; rfl) (by decide) ?_
                                                exact k_L_22 C0 hX hbl hbA hcl hl hG hf kk
                                              · have hf := gif_f c24 hf
                                                refine (Decidable.em (((xs i.toNatClampNeg) &&& (63 : Int32)) = (23 : Int32))).elim (fun c25 => ?_) (fun c25 => ?_)
                                                · have hf := gif_t c25 hf
                                                  refine lv_tableIn (off := 922) (tgt := 955) hx hb dL_law_33 (by rw [c25]; decide) (by rw [c25]; decide) (by rw [c25]; rfl) (by decide) ?_
                                                  exact k_L_23 C0 hX hbl hbA hcl hl hG hf kk
                                                · have hf := gif_f c25 hf
                                                  refine (Decidable.em (((xs i.toNatClampNeg) &&& (63 : Int32)) = (24 : Int32))).elim (fun c26 => ?_) (fun c26 => ?_)
                                                  · have hf := gif_t c26 hf
                                                    refine lv_tableIn (off := 935) (tgt := 968) hx hb dL_law_33 (by rw [c26]; decide) (by rw [c26]; decide) (by rw [c26]; rfl) (by decide) ?_
                                                    exact k_L_24 C0 hX hbl hbA hcl hl hG hf kk
                                                  · have hf := gif_f c26 hf
                                                    refine (Decidable.em (((xs i.toNatClampNeg) &&& (63 : Int32)) = (25 : Int32))).elim (fun c27 => ?_) (fun c27 => ?_)
                                                    · have hf := gif_t c27 hf
                                                      refine lv_tableIn (off := 968) (tgt := 1001) hx hb dL_law_33 (by rw [c27]; decide) (by rw [c27]; decide) (by rw [c27]; rfl) (by decide) ?_
                                                      exact k_L_25 C0 hX hbl hbA hcl hl hG hf kk
                                                    · have hf := gif_f c27 hf
                                                      refine (Decidable.em (((xs i.toNatClampNeg) &&& (63 : Int32)) = (26 : Int32))).elim (fun c28 => ?_) (fun c28 => ?_)
                                                      · have hf := gif_t c28 hf
                                                        refine lv_tableIn (off := 981) (tgt := 1014) hx hb dL_law_33 (by rw [c28]; decide) (by rw [c28]; decide) (by rw [c28]; rfl) (by decide) ?_
                                                        exact k_L_26 C0 hX hbl hbA hcl hl hG hf kk
                                                      · have hf := gif_f c28 hf
                                                        refine (Decidable.em (((xs i.toNatClampNeg) &&& (63 : Int32)) = (27 : Int32))).elim (fun c29 => ?_) (fun c29 => ?_)
                                                        · have hf := gif_t c29 hf
                                                          refine lv_tableIn (off := 994) (tgt := 1027) hx hb dL_law_33 (by rw [c29]; decide) (by rw [c29]; decide) (by rw [c29]; rfl) (by decide) ?_
                                                          exact k_L_27 C0 hX hbl hbA hcl hl hG hf kk
                                                        · have hf := gif_f c29 hf
                                                          refine (Decidable.em (((xs i.toNatClampNeg) &&& (63 : Int32)) = (28 : Int32))).elim (fun c30 => ?_) (fun c30 => ?_)
                                                          · have hf := gif_t c30 hf
                                                            refine lv_tableIn (off := 1037) (tgt := 1070) hx hb dL_law_33 (by rw [c30]; decide) (by rw [c30]; decide) (by rw [c30]; rfl) (by decide) ?_
                                                            exact k_L_28 C0 hX hbl hbA hcl hl hG hf kk
                                                          · have hf := gif_f c30 hf
                                                            refine (Decidable.em (((xs i.toNatClampNeg) &&& (63 : Int32)) = (29 : Int32))).elim (fun c31 => ?_) (fun c31 => ?_)
                                                            · have hf := gif_t c31 hf
                                                              refine lv_tableIn (off := 1060) (tgt := 1093) hx hb dL_law_33 (by rw [c31]; decide) (by rw [c31]; decide) (by rw [c31]; rfl) (by decide) ?_
                                                              exact k_L_29 C0 hX hbl hbA hcl hl hG hf kk
                                                            · have hf := gif_f c31 hf
                                                              refine (Decidable.em (((xs i.toNatClampNeg) &&& (63 : Int32)) = (30 : Int32))).elim (fun c32 => ?_) (fun c32 => ?_)
                                                              · have hf := gif_t c32 hf
                                                                refine lv_tableIn (off := 1093) (tgt := 1126) hx hb dL_law_33 (by rw [c32]; decide) (by rw [c32]; decide) (by rw [c32]; rfl) (by decide) ?_
                                                                exact k_L_30 C0 hX hbl hbA hcl hl hG hf kk
                                                              · have hf := gif_f c32 hf
                                                                refine (Decidable.em (((xs i.toNatClampNeg) &&& (63 : Int32)) = (31 : Int32))).elim (fun c33 => ?_) (fun c33 => ?_)
                                                                · have hf := gif_t c33 hf
                                                                  refine lv_tableIn (off := 1116) (tgt := 1149) hx hb dL_law_33 (by rw [c33]; decide) (by rw [c33]; decide) (by rw [c33]; rfl) (by decide) ?_
                                                                  exact k_L_31 C0 hX hbl hbA hcl hl hG hf kk
                                                                · have hf := gif_f c33 hf
                                                                  refine (Decidable.em (((xs i.toNatClampNeg) &&& (63 : Int32)) = (32 : Int32))).elim (fun c34 => ?_) (fun c34 => ?_)
                                                                  · have hf := gif_t c34 hf
                                                                    refine lv_tableIn (off := 1159) (tgt := 1192) hx hb dL_law_33 (by rw [c34]; decide) (by rw [c34]; decide) (by rw [c34]; rfl) (by decide) ?_
                                                                    exact k_L_32 C0 hX hbl hbA hcl hl hG hf kk
                                                                  · have hf := gif_f c34 hf
                                                                    refine (Decidable.em (((xs i.toNatClampNeg) &&& (63 : Int32)) = (33 : Int32))).elim (fun c35 => ?_) (fun c35 => ?_)
                                                                    · have hf := gif_t c35 hf
                                                                      refine lv_tableIn (off := 1232) (tgt := 1265) hx hb dL_law_33 (by rw [c35]; decide) (by rw [c35]; decide) (by rw [c35]; rfl) (by decide) ?_
                                                                      exact k_L_33 C0 hX hbl hbA hcl hl hG hf kk
                                                                    · have hf := gif_f c35 hf
                                                                      refine (Decidable.em (((xs i.toNatClampNeg) &&& (63 : Int32)) = (34 : Int32))).elim (fun c36 => ?_) (fun c36 => ?_)
                                                                      · have hf := gif_t c36 hf
                                                                        refine lv_tableIn (off := 1266) (tgt := 1299) hx hb dL_law_33 (by rw [c36]; decide) (by rw [c36]; decide) (by rw [c36]; rfl) (by decide) ?_
                                                                        exact k_L_34 C0 hX hbl hbA hcl hl hG hf kk
                                                                      · have hf := gif_f c36 hf
                                                                        refine lv_tableOut (tgt := 1362) hx hb dL_law_33 (by
                                                                            have n0 := lv_neT c2 (k := (0 : Int32)) (a := 0) (by decide)
                                                                            have n1 := lv_neT c3 (k := (1 : Int32)) (a := 1) (by decide)
                                                                            have n2 := lv_neT c4 (k := (2 : Int32)) (a := 2) (by decide)
                                                                            have n3 := lv_neT c5 (k := (3 : Int32)) (a := 3) (by decide)
                                                                            have n4 := lv_neT c6 (k := (4 : Int32)) (a := 4) (by decide)
                                                                            have n5 := lv_neT c7 (k := (5 : Int32)) (a := 5) (by decide)
                                                                            have n6 := lv_neT c8 (k := (6 : Int32)) (a := 6) (by decide)
                                                                            have n7 := lv_neT c9 (k := (7 : Int32)) (a := 7) (by decide)
                                                                            have n8 := lv_neT c10 (k := (8 : Int32)) (a := 8) (by decide)
                                                                            have n9 := lv_neT c11 (k := (9 : Int32)) (a := 9) (by decide)
                                                                            have n10 := lv_neT c12 (k := (10 : Int32)) (a := 10) (by decide)
                                                                            have n11 := lv_neT c13 (k := (11 : Int32)) (a := 11) (by decide)
                                                                            have n12 := lv_neT c14 (k := (12 : Int32)) (a := 12) (by decide)
                                                                            have n13 := lv_neT c15 (k := (13 : Int32)) (a := 13) (by decide)
                                                                            have n14 := lv_neT c16 (k := (14 : Int32)) (a := 14) (by decide)
                                                                            have n15 := lv_neT c17 (k := (15 : Int32)) (a := 15) (by decide)
                                                                            have n16 := lv_neT c18 (k := (16 : Int32)) (a := 16) (by decide)
                                                                            have n17 := lv_neT c19 (k := (17 : Int32)) (a := 17) (by decide)
                                                                            have n18 := lv_neT c20 (k := (18 : Int32)) (a := 18) (by decide)
                                                                            have n19 := lv_neT c21 (k := (19 : Int32)) (a := 19) (by decide)
                                                                            have n20 := lv_neT c22 (k := (20 : Int32)) (a := 20) (by decide)
                                                                            have n21 := lv_neT c23 (k := (21 : Int32)) (a := 21) (by decide)
                                                                            have n22 := lv_neT c24 (k := (22 : Int32)) (a := 22) (by decide)
                                                                            have n23 := lv_neT c25 (k := (23 : Int32)) (a := 23) (by decide)
                                                                            have n24 := lv_neT c26 (k := (24 : Int32)) (a := 24) (by decide)
                                                                            have n25 := lv_neT c27 (k := (25 : Int32)) (a := 25) (by decide)
                                                                            have n26 := lv_neT c28 (k := (26 : Int32)) (a := 26) (by decide)
                                                                            have n27 := lv_neT c29 (k := (27 : Int32)) (a := 27) (by decide)
                                                                            have n28 := lv_neT c30 (k := (28 : Int32)) (a := 28) (by decide)
                                                                            have n29 := lv_neT c31 (k := (29 : Int32)) (a := 29) (by decide)
                                                                            have n30 := lv_neT c32 (k := (30 : Int32)) (a := 30) (by decide)
                                                                            have n31 := lv_neT c33 (k := (31 : Int32)) (a := 31) (by decide)
                                                                            have n32 := lv_neT c34 (k := (32 : Int32)) (a := 32) (by decide)
                                                                            have n33 := lv_neT c35 (k := (33 : Int32)) (a := 33) (by decide)
                                                                            have n34 := lv_neT c36 (k := (34 : Int32)) (a := 34) (by decide)
                                                                            omega) (by decide) ?_
                                                                        obtain rfl := Option.some.inj hf
                                                                        refine W.widen (k := cells + 2) (n := slots + 103) (by omega) (by omega) ?_
                                                                        exact kk _ _ hG
