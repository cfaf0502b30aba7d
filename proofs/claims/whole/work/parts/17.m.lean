theorem dX8_takesE_0 : decode cX8_takesE 0 = .ok (.aload_n 0, 1) := by decide +kernel
theorem dX8_takesE_1 : decode cX8_takesE 1 = .ok (.iconst 0, 1) := by decide +kernel
theorem dX8_takesE_2 : decode cX8_takesE 2 = .ok (.putfield 89, 3) := by decide +kernel
theorem dX8_takesE_5 : decode cX8_takesE 5 = .ok (.aload_n 0, 1) := by decide +kernel
theorem dX8_takesE_6 : decode cX8_takesE 6 = .ok (.iconst 0, 1) := by decide +kernel
theorem dX8_takesE_7 : decode cX8_takesE 7 = .ok (.putfield 92, 3) := by decide +kernel
theorem dX8_takesE_10 : decode cX8_takesE 10 = .ok (.aload_n 0, 1) := by decide +kernel
theorem dX8_takesE_11 : decode cX8_takesE 11 = .ok (.getfield 74, 3) := by decide +kernel
theorem dX8_takesE_14 : decode cX8_takesE 14 = .ok (.iload_n 1, 1) := by decide +kernel
theorem dX8_takesE_15 : decode cX8_takesE 15 = .ok (.aload_n 0, 1) := by decide +kernel
theorem dX8_takesE_16 : decode cX8_takesE 16 = .ok (.getfield 86, 3) := by decide +kernel
theorem dX8_takesE_19 : decode cX8_takesE 19 = .ok (.iastore, 1) := by decide +kernel
theorem dX8_takesE_20 : decode cX8_takesE 20 = .ok (.iconst 1, 1) := by decide +kernel
theorem dX8_takesE_21 : decode cX8_takesE 21 = .ok (.istore_n 2, 1) := by decide +kernel
theorem dX8_takesE_22 : decode cX8_takesE 22 = .ok (.aload_n 0, 1) := by decide +kernel
theorem dX8_takesE_23 : decode cX8_takesE 23 = .ok (.invokevirtual 270, 3) := by decide +kernel
theorem dX8_takesE_26 : decode cX8_takesE 26 = .ok (.istore_n 3, 1) := by decide +kernel
theorem dX8_takesE_27 : decode cX8_takesE 27 = .ok (.iload_n 2, 1) := by decide +kernel
theorem dX8_takesE_28 : decode cX8_takesE 28 = .ok (.ifCond .eq 82, 3) := by decide +kernel
theorem dX8_takesE_31 : decode cX8_takesE 31 = .ok (.iload_n 3, 1) := by decide +kernel
theorem dX8_takesE_32 : decode cX8_takesE 32 = .ok (.bipush 33, 2) := by decide +kernel
theorem dX8_takesE_34 : decode cX8_takesE 34 = .ok (.if_icmp .eq 9, 3) := by decide +kernel
theorem dX8_takesE_37 : decode cX8_takesE 37 = .ok (.iload_n 3, 1) := by decide +kernel
theorem dX8_takesE_38 : decode cX8_takesE 38 = .ok (.bipush 40, 2) := by decide +kernel
theorem dX8_takesE_40 : decode cX8_takesE 40 = .ok (.if_icmp .ne 56, 3) := by decide +kernel
theorem dX8_takesE_43 : decode cX8_takesE 43 = .ok (.aload_n 0, 1) := by decide +kernel
theorem dX8_takesE_44 : decode cX8_takesE 44 = .ok (.getfield 92, 3) := by decide +kernel
theorem dX8_takesE_47 : decode cX8_takesE 47 = .ok (.iconst 4, 1) := by decide +kernel
theorem dX8_takesE_48 : decode cX8_takesE 48 = .ok (.if_icmp .ne 5, 3) := by decide +kernel
theorem dX8_takesE_51 : decode cX8_takesE 51 = .ok (.iconst 0, 1) := by decide +kernel
theorem dX8_takesE_52 : decode cX8_takesE 52 = .ok (.ireturn, 1) := by decide +kernel
theorem dX8_takesE_53 : decode cX8_takesE 53 = .ok (.aload_n 0, 1) := by decide +kernel
theorem dX8_takesE_54 : decode cX8_takesE 54 = .ok (.dup, 1) := by decide +kernel
theorem dX8_takesE_55 : decode cX8_takesE 55 = .ok (.getfield 92, 3) := by decide +kernel
theorem dX8_takesE_58 : decode cX8_takesE 58 = .ok (.iconst 1, 1) := by decide +kernel
theorem dX8_takesE_59 : decode cX8_takesE 59 = .ok (.iadd, 1) := by decide +kernel
theorem dX8_takesE_60 : decode cX8_takesE 60 = .ok (.putfield 92, 3) := by decide +kernel
theorem dX8_takesE_63 : decode cX8_takesE 63 = .ok (.aload_n 0, 1) := by decide +kernel
theorem dX8_takesE_64 : decode cX8_takesE 64 = .ok (.getfield 83, 3) := by decide +kernel
theorem dX8_takesE_67 : decode cX8_takesE 67 = .ok (.aload_n 0, 1) := by decide +kernel
theorem dX8_takesE_68 : decode cX8_takesE 68 = .ok (.getfield 89, 3) := by decide +kernel
theorem dX8_takesE_71 : decode cX8_takesE 71 = .ok (.iload_n 3, 1) := by decide +kernel
theorem dX8_takesE_72 : decode cX8_takesE 72 = .ok (.iastore, 1) := by decide +kernel
theorem dX8_takesE_73 : decode cX8_takesE 73 = .ok (.aload_n 0, 1) := by decide +kernel
theorem dX8_takesE_74 : decode cX8_takesE 74 = .ok (.dup, 1) := by decide +kernel
theorem dX8_takesE_75 : decode cX8_takesE 75 = .ok (.getfield 89, 3) := by decide +kernel
theorem dX8_takesE_78 : decode cX8_takesE 78 = .ok (.iconst 1, 1) := by decide +kernel
theorem dX8_takesE_79 : decode cX8_takesE 79 = .ok (.iadd, 1) := by decide +kernel
theorem dX8_takesE_80 : decode cX8_takesE 80 = .ok (.putfield 89, 3) := by decide +kernel
theorem dX8_takesE_83 : decode cX8_takesE 83 = .ok (.aload_n 0, 1) := by decide +kernel
theorem dX8_takesE_84 : decode cX8_takesE 84 = .ok (.dup, 1) := by decide +kernel
theorem dX8_takesE_85 : decode cX8_takesE 85 = .ok (.getfield 56, 3) := by decide +kernel
theorem dX8_takesE_88 : decode cX8_takesE 88 = .ok (.iconst 1, 1) := by decide +kernel
theorem dX8_takesE_89 : decode cX8_takesE 89 = .ok (.iadd, 1) := by decide +kernel
theorem dX8_takesE_90 : decode cX8_takesE 90 = .ok (.putfield 56, 3) := by decide +kernel
theorem dX8_takesE_93 : decode cX8_takesE 93 = .ok (.goto (-71), 3) := by decide +kernel
theorem dX8_takesE_96 : decode cX8_takesE 96 = .ok (.aload_n 0, 1) := by decide +kernel
theorem dX8_takesE_97 : decode cX8_takesE 97 = .ok (.invokevirtual 295, 3) := by decide +kernel
theorem dX8_takesE_100 : decode cX8_takesE 100 = .ok (.ifCond .eq 8, 3) := by decide +kernel
theorem dX8_takesE_103 : decode cX8_takesE 103 = .ok (.iconst 0, 1) := by decide +kernel
theorem dX8_takesE_104 : decode cX8_takesE 104 = .ok (.istore_n 2, 1) := by decide +kernel
theorem dX8_takesE_105 : decode cX8_takesE 105 = .ok (.goto (-83), 3) := by decide +kernel
theorem dX8_takesE_108 : decode cX8_takesE 108 = .ok (.iconst 0, 1) := by decide +kernel
theorem dX8_takesE_109 : decode cX8_takesE 109 = .ok (.ireturn, 1) := by decide +kernel
theorem dX8_takesE_110 : decode cX8_takesE 110 = .ok (.iload_n 3, 1) := by decide +kernel
theorem dX8_takesE_111 : decode cX8_takesE 111 = .ok (.bipush 38, 2) := by decide +kernel
theorem dX8_takesE_113 : decode cX8_takesE 113 = .ok (.if_icmp .eq 9, 3) := by decide +kernel
theorem dX8_takesE_116 : decode cX8_takesE 116 = .ok (.iload_n 3, 1) := by decide +kernel
theorem dX8_takesE_117 : decode cX8_takesE 117 = .ok (.bipush 124, 2) := by decide +kernel
theorem dX8_takesE_119 : decode cX8_takesE 119 = .ok (.if_icmp .ne 43, 3) := by decide +kernel
theorem dX8_takesE_122 : decode cX8_takesE 122 = .ok (.aload_n 0, 1) := by decide +kernel
theorem dX8_takesE_123 : decode cX8_takesE 123 = .ok (.iload_n 3, 1) := by decide +kernel
theorem dX8_takesE_124 : decode cX8_takesE 124 = .ok (.invokevirtual 298, 3) := by decide +kernel
theorem dX8_takesE_127 : decode cX8_takesE 127 = .ok (.aload_n 0, 1) := by decide +kernel
theorem dX8_takesE_128 : decode cX8_takesE 128 = .ok (.getfield 83, 3) := by decide +kernel
theorem dX8_takesE_131 : decode cX8_takesE 131 = .ok (.aload_n 0, 1) := by decide +kernel
theorem dX8_takesE_132 : decode cX8_takesE 132 = .ok (.getfield 89, 3) := by decide +kernel
theorem dX8_takesE_135 : decode cX8_takesE 135 = .ok (.iload_n 3, 1) := by decide +kernel
theorem dX8_takesE_136 : decode cX8_takesE 136 = .ok (.iastore, 1) := by decide +kernel
theorem dX8_takesE_137 : decode cX8_takesE 137 = .ok (.aload_n 0, 1) := by decide +kernel
theorem dX8_takesE_138 : decode cX8_takesE 138 = .ok (.dup, 1) := by decide +kernel
theorem dX8_takesE_139 : decode cX8_takesE 139 = .ok (.getfield 89, 3) := by decide +kernel
theorem dX8_takesE_142 : decode cX8_takesE 142 = .ok (.iconst 1, 1) := by decide +kernel
theorem dX8_takesE_143 : decode cX8_takesE 143 = .ok (.iadd, 1) := by decide +kernel
theorem dX8_takesE_144 : decode cX8_takesE 144 = .ok (.putfield 89, 3) := by decide +kernel
theorem dX8_takesE_147 : decode cX8_takesE 147 = .ok (.iconst 1, 1) := by decide +kernel
theorem dX8_takesE_148 : decode cX8_takesE 148 = .ok (.istore_n 2, 1) := by decide +kernel
theorem dX8_takesE_149 : decode cX8_takesE 149 = .ok (.aload_n 0, 1) := by decide +kernel
theorem dX8_takesE_150 : decode cX8_takesE 150 = .ok (.dup, 1) := by decide +kernel
theorem dX8_takesE_151 : decode cX8_takesE 151 = .ok (.getfield 56, 3) := by decide +kernel
theorem dX8_takesE_154 : decode cX8_takesE 154 = .ok (.iconst 1, 1) := by decide +kernel
theorem dX8_takesE_155 : decode cX8_takesE 155 = .ok (.iadd, 1) := by decide +kernel
theorem dX8_takesE_156 : decode cX8_takesE 156 = .ok (.putfield 56, 3) := by decide +kernel
theorem dX8_takesE_159 : decode cX8_takesE 159 = .ok (.goto (-137), 3) := by decide +kernel
theorem dX8_takesE_162 : decode cX8_takesE 162 = .ok (.aload_n 0, 1) := by decide +kernel
theorem dX8_takesE_163 : decode cX8_takesE 163 = .ok (.bipush 124, 2) := by decide +kernel
theorem dX8_takesE_165 : decode cX8_takesE 165 = .ok (.invokevirtual 298, 3) := by decide +kernel
theorem dX8_takesE_168 : decode cX8_takesE 168 = .ok (.aload_n 0, 1) := by decide +kernel
theorem dX8_takesE_169 : decode cX8_takesE 169 = .ok (.getfield 77, 3) := by decide +kernel
theorem dX8_takesE_172 : decode cX8_takesE 172 = .ok (.iload_n 1, 1) := by decide +kernel
theorem dX8_takesE_173 : decode cX8_takesE 173 = .ok (.aload_n 0, 1) := by decide +kernel
theorem dX8_takesE_174 : decode cX8_takesE 174 = .ok (.getfield 86, 3) := by decide +kernel
theorem dX8_takesE_177 : decode cX8_takesE 177 = .ok (.iastore, 1) := by decide +kernel
theorem dX8_takesE_178 : decode cX8_takesE 178 = .ok (.aload_n 0, 1) := by decide +kernel
theorem dX8_takesE_179 : decode cX8_takesE 179 = .ok (.getfield 89, 3) := by decide +kernel
theorem dX8_takesE_182 : decode cX8_takesE 182 = .ok (.ifCond .ne 5, 3) := by decide +kernel
theorem dX8_takesE_185 : decode cX8_takesE 185 = .ok (.iconst 1, 1) := by decide +kernel
theorem dX8_takesE_186 : decode cX8_takesE 186 = .ok (.ireturn, 1) := by decide +kernel
theorem dX8_takesE_187 : decode cX8_takesE 187 = .ok (.iload_n 3, 1) := by decide +kernel
theorem dX8_takesE_188 : decode cX8_takesE 188 = .ok (.bipush 41, 2) := by decide +kernel
theorem dX8_takesE_190 : decode cX8_takesE 190 = .ok (.if_icmp .eq 5, 3) := by decide +kernel
theorem dX8_takesE_193 : decode cX8_takesE 193 = .ok (.iconst 0, 1) := by decide +kernel
theorem dX8_takesE_194 : decode cX8_takesE 194 = .ok (.ireturn, 1) := by decide +kernel
theorem dX8_takesE_195 : decode cX8_takesE 195 = .ok (.aload_n 0, 1) := by decide +kernel
theorem dX8_takesE_196 : decode cX8_takesE 196 = .ok (.dup, 1) := by decide +kernel
theorem dX8_takesE_197 : decode cX8_takesE 197 = .ok (.getfield 89, 3) := by decide +kernel
theorem dX8_takesE_200 : decode cX8_takesE 200 = .ok (.iconst 1, 1) := by decide +kernel
theorem dX8_takesE_201 : decode cX8_takesE 201 = .ok (.isub, 1) := by decide +kernel
theorem dX8_takesE_202 : decode cX8_takesE 202 = .ok (.putfield 89, 3) := by decide +kernel
theorem dX8_takesE_205 : decode cX8_takesE 205 = .ok (.aload_n 0, 1) := by decide +kernel
theorem dX8_takesE_206 : decode cX8_takesE 206 = .ok (.dup, 1) := by decide +kernel
theorem dX8_takesE_207 : decode cX8_takesE 207 = .ok (.getfield 92, 3) := by decide +kernel
theorem dX8_takesE_210 : decode cX8_takesE 210 = .ok (.iconst 1, 1) := by decide +kernel
theorem dX8_takesE_211 : decode cX8_takesE 211 = .ok (.isub, 1) := by decide +kernel
theorem dX8_takesE_212 : decode cX8_takesE 212 = .ok (.putfield 92, 3) := by decide +kernel
theorem dX8_takesE_215 : decode cX8_takesE 215 = .ok (.aload_n 0, 1) := by decide +kernel
theorem dX8_takesE_216 : decode cX8_takesE 216 = .ok (.dup, 1) := by decide +kernel
theorem dX8_takesE_217 : decode cX8_takesE 217 = .ok (.getfield 56, 3) := by decide +kernel
theorem dX8_takesE_220 : decode cX8_takesE 220 = .ok (.iconst 1, 1) := by decide +kernel
theorem dX8_takesE_221 : decode cX8_takesE 221 = .ok (.iadd, 1) := by decide +kernel
theorem dX8_takesE_222 : decode cX8_takesE 222 = .ok (.putfield 56, 3) := by decide +kernel
theorem dX8_takesE_225 : decode cX8_takesE 225 = .ok (.aload_n 0, 1) := by decide +kernel
theorem dX8_takesE_226 : decode cX8_takesE 226 = .ok (.invokevirtual 292, 3) := by decide +kernel
theorem dX8_takesE_229 : decode cX8_takesE 229 = .ok (.goto (-207), 3) := by decide +kernel
def f_X8_takesE_L22 (p1 : Int32) (x2_2 : Int32) (u2 : Mem) : Option ((Int32 × Mem) ⊕ (Int32 × Mem)) := Option.bind (f_X8_next u2) (fun r3 => (if x2_2 = 0 then (if r3 = (38 : Int32) then obind (f_X8_settle r3 u2) (fun _ u6 => gin (gI u6 82 26) 101 (some (Sum.inl ((1 : Int32), sI (sI (sA u6 97 (gI u6 82 26).toNatClampNeg r3) 82 26 ((gI (sA u6 97 (gI u6 82 26).toNatClampNeg r3) 82 26) + (1 : Int32))) 82 15 ((gI (sI (sA u6 97 (gI u6 82 26).toNatClampNeg r3) 82 26 ((gI (sA u6 97 (gI u6 82 26).toNatClampNeg r3) 82 26) + (1 : Int32))) 82 15) + (1 : Int32)))))) else (if r3 = (124 : Int32) then obind (f_X8_settle r3 u2) (fun _ u14 => gin (gI u14 82 26) 101 (some (Sum.inl ((1 : Int32), sI (sI (sA u14 97 (gI u14 82 26).toNatClampNeg r3) 82 26 ((gI (sA u14 97 (gI u14 82 26).toNatClampNeg r3) 82 26) + (1 : Int32))) 82 15 ((gI (sI (sA u14 97 (gI u14 82 26).toNatClampNeg r3) 82 26 ((gI (sA u14 97 (gI u14 82 26).toNatClampNeg r3) 82 26) + (1 : Int32))) 82 15) + (1 : Int32)))))) else obind (f_X8_settle (124 : Int32) u2) (fun _ u9 => gin p1 60 ((if (gI (sA u9 95 p1.toNatClampNeg (gI u9 82 25)) 82 26) = 0 then some (Sum.inr ((1 : Int32), sA u9 95 p1.toNatClampNeg (gI u9 82 25))) else (if r3 = (41 : Int32) then obind (f_X8_whole (sI (sI (sI (sA u9 95 p1.toNatClampNeg (gI u9 82 25)) 82 26 ((gI (sA u9 95 p1.toNatClampNeg (gI u9 82 25)) 82 26) - (1 : Int32))) 82 27 ((gI (sI (sA u9 95 p1.toNatClampNeg (gI u9 82 25)) 82 26 ((gI (sA u9 95 p1.toNatClampNeg (gI u9 82 25)) 82 26) - (1 : Int32))) 82 27) - (1 : Int32))) 82 15 ((gI (sI (sI (sA u9 95 p1.toNatClampNeg (gI u9 82 25)) 82 26 ((gI (sA u9 95 p1.toNatClampNeg (gI u9 82 25)) 82 26) - (1 : Int32))) 82 27 ((gI (sI (sA u9 95 p1.toNatClampNeg (gI u9 82 25)) 82 26 ((gI (sA u9 95 p1.toNatClampNeg (gI u9 82 25)) 82 26) - (1 : Int32))) 82 27) - (1 : Int32))) 82 15) + (1 : Int32)))) (fun _ u13 => some (Sum.inl (x2_2, u13))) else some (Sum.inr ((0 : Int32), sA u9 95 p1.toNatClampNeg (gI u9 82 25))))))))) else (if r3 = (33 : Int32) then (if (gI u2 82 27) = (4 : Int32) then some (Sum.inr ((0 : Int32), u2)) else gin (gI (sI u2 82 27 ((gI u2 82 27) + (1 : Int32))) 82 26) 101 (some (Sum.inl (x2_2, sI (sI (sA (sI u2 82 27 ((gI u2 82 27) + (1 : Int32))) 97 (gI (sI u2 82 27 ((gI u2 82 27) + (1 : Int32))) 82 26).toNatClampNeg r3) 82 26 ((gI (sA (sI u2 82 27 ((gI u2 82 27) + (1 : Int32))) 97 (gI (sI u2 82 27 ((gI u2 82 27) + (1 : Int32))) 82 26).toNatClampNeg r3) 82 26) + (1 : Int32))) 82 15 ((gI (sI (sA (sI u2 82 27 ((gI u2 82 27) + (1 : Int32))) 97 (gI (sI u2 82 27 ((gI u2 82 27) + (1 : Int32))) 82 26).toNatClampNeg r3) 82 26 ((gI (sA (sI u2 82 27 ((gI u2 82 27) + (1 : Int32))) 97 (gI (sI u2 82 27 ((gI u2 82 27) + (1 : Int32))) 82 26).toNatClampNeg r3) 82 26) + (1 : Int32))) 82 15) + (1 : Int32)))))) else (if r3 = (40 : Int32) then (if (gI u2 82 27) = (4 : Int32) then some (Sum.inr ((0 : Int32), u2)) else gin (gI (sI u2 82 27 ((gI u2 82 27) + (1 : Int32))) 82 26) 101 (some (Sum.inl (x2_2, sI (sI (sA (sI u2 82 27 ((gI u2 82 27) + (1 : Int32))) 97 (gI (sI u2 82 27 ((gI u2 82 27) + (1 : Int32))) 82 26).toNatClampNeg r3) 82 26 ((gI (sA (sI u2 82 27 ((gI u2 82 27) + (1 : Int32))) 97 (gI (sI u2 82 27 ((gI u2 82 27) + (1 : Int32))) 82 26).toNatClampNeg r3) 82 26) + (1 : Int32))) 82 15 ((gI (sI (sA (sI u2 82 27 ((gI u2 82 27) + (1 : Int32))) 97 (gI (sI u2 82 27 ((gI u2 82 27) + (1 : Int32))) 82 26).toNatClampNeg r3) 82 26 ((gI (sA (sI u2 82 27 ((gI u2 82 27) + (1 : Int32))) 97 (gI (sI u2 82 27 ((gI u2 82 27) + (1 : Int32))) 82 26).toNatClampNeg r3) 82 26) + (1 : Int32))) 82 15) + (1 : Int32)))))) else obind (f_X8_takesTest u2) (fun r20 u20 => (if r20 = 0 then some (Sum.inr ((0 : Int32), u20)) else some (Sum.inl ((0 : Int32), u20))))))))
def f_X8_takesE (p1 : Int32) (u : Mem) : Option (Int32 × Mem) := gin p1 60 (whileO (fun s => f_X8_takesE_L22 p1 s.1 s.2) FUEL ((1 : Int32), sA (sI (sI u 82 26 (0 : Int32)) 82 27 (0 : Int32)) 94 p1.toNatClampNeg (gI (sI (sI u 82 26 (0 : Int32)) 82 27 (0 : Int32)) 82 25)))
set_option maxHeartbeats 4000000 in
set_option maxRecDepth 100000 in
theorem k_X8_takesE (l : Launch) (D : gDt) (base : Nat) (Z : gZt) (u : Mem) (p1 : Int32) (r : Int32) (u' : Mem) (hf : f_X8_takesE p1 u = some (r, u')) : Met l yX8_takesE (gws yX8_takesE cX8_takesE 4 (some .boolean)) (gRm 5 0 0) (gPc D base Z u [.ref (base + 82), .int p1]) (gQi D base r u') 0 0 (gF base) := by
  refine Met.ofW (cc := cX8_takesE) (maxL := 4) (ret := some .boolean) (by decide) rfl ?_
  intro p e s m args below meth c s₁ B hml hv
  obtain ⟨rfl, C0, hG⟩ := g_enter B hml hv
  have hr := B.returns
  have C0 : gC p s m meth c _ cX8_takesE 4 RX8 D base Z := C0
  have hx := C0.1
  have hb := C0.2.1
  have hl := lv_entry ([.ref (base + 82), .int p1]) (n := 4) (Nat.le_of_ble_eq_true rfl)
  rw [lg_entry_eq]
  generalize (lg_sl ([.ref (base + 82), .int p1]) ++ List.replicate (4 - (lg_sl ([.ref (base + 82), .int p1])).length) Slot.unset).toArray = ls at hl ⊢
  have hl : lv_has ls 4 [(0, .ref (base + 82)), (1, .int p1)] := hl
  obtain ⟨Q, hQ⟩ : ∃ Q, Q = MQ below (gQi D base r u') ([.ref (base + 82), .int p1] : List Value).toArray s 0 0 (gF base) := ⟨_, rfl⟩
  rw [← hQ]
  change W p l e (gRm 5 0 0) s m _ below meth c _ _ _ _ _ _
  unfold f_X8_takesE at hf
  refine lv_aload_n hx hb dX8_takesE_0 rfl (lv_at hl 0 rfl) ?_
  refine lv_iconst (v := (0 : Int32)) hx hb dX8_takesE_1 (by decide) ?_
  refine g_putI (ty := .int) C0 hG (L82 hG) rfl 26 (by decide) rfl w_872 rfl (by decide) rfl rfl dX8_takesE_2 (fun H locs hG => ?_)
  refine lv_aload_n hx hb dX8_takesE_5 rfl (lv_at hl 0 rfl) ?_
  refine lv_iconst (v := (0 : Int32)) hx hb dX8_takesE_6 (by decide) ?_
  refine g_putI (ty := .int) C0 hG (L82 hG) rfl 27 (by decide) rfl w_873 rfl (by decide) rfl rfl dX8_takesE_7 (fun H locs hG => ?_)
  refine lv_aload_n hx hb dX8_takesE_10 rfl (lv_at hl 0 rfl) ?_
  refine g_getSa (o := 12) (a := 94) C0 hG (L82 hG) rfl 21 (by decide) rfl rfl w_867 dX8_takesE_11 ?_
  refine lv_iload_n hx hb dX8_takesE_14 rfl (lv_at hl 1 rfl) ?_
  refine lv_aload_n hx hb dX8_takesE_15 rfl (lv_at hl 0 rfl) ?_
  refine g_getI C0 hG (L82 hG) rfl 25 (by decide) rfl w_871 dX8_takesE_16 ?_
  obtain ⟨h1, hf⟩ := gin_s hf
  refine g_iast C0 hG (L94 hG) h1 dX8_takesE_19 (fun H locs hG => ?_)
  refine lv_iconst (v := (1 : Int32)) hx hb dX8_takesE_20 (by decide) ?_
  refine lv_istore_n (lv' := [(2, .int (1 : Int32)), (0, .ref (base + 82)), (1, .int p1)]) hx hb dX8_takesE_21 rfl hl (by decide) rfl (fun ls hl => ?_)
  have loop2 : ∀ (n2 : Nat) (x2_2 : Int32) (u2 : Mem) (H : Heap) (locs : List Loc) (ls : Array Slot), gH D base s u2 H locs → lv_has ls 4 [(0, .ref (base + 82)), (1, .int p1), (2, .int x2_2)] → whileO (fun s => f_X8_takesE_L22 p1 s.1 s.2) n2 (x2_2, u2) = some (r, u') → W p l e (gRm 5 0 0) s m ([.ref (base + 82), .int p1] : List Value).toArray below meth c H locs 0 0 Q (F0 m 22 ls []) := by
    intro n2
    induction n2 with
    | zero => intro x2_2 u2 H locs ls hG hl hf; cases hf
    | succ n2 ih2 =>
      intro x2_2 u2 H locs ls hG hl hf
      obtain ⟨X2, hf, hX2⟩ := while_s hf
      have hf : f_X8_takesE_L22 p1 x2_2 u2 = some X2 := hf
      unfold f_X8_takesE_L22 at hf
      refine lv_aload_n hx hb dX8_takesE_22 rfl (lv_at hl 0 rfl) ?_
      obtain ⟨r3, hc3, hf⟩ := pb_s hf
      refine g_doI0 hG (g_runV C0 hG (k_X8_next l D base Z u2 r3 hc3) m_X8_next v_X8_next w_1150 (by decide) (g_recv C0 hG (L82 hG) rfl) rfl hl.1 rfl (Nat.le_of_ble_eq_true rfl) dX8_takesE_23 ⟨Nat.zero_le _, Nat.zero_le _⟩) (fun H locs hG hk => ?_)
      refine lv_istore_n (lv' := [(3, .int r3), (0, .ref (base + 82)), (1, .int p1), (2, .int x2_2)]) hx hb dX8_takesE_26 rfl hl (by decide) rfl (fun ls hl => ?_)
      refine lv_iload_n hx hb dX8_takesE_27 rfl (lv_at hl 3 rfl) ?_
      refine lv_if_eq (tgt := 110) hx hb dX8_takesE_28 (by decide) (fun c4 => ?_) (fun c4 => ?_)
      · have hf := gif_t c4 hf
        refine lv_iload_n hx hb dX8_takesE_110 rfl (lv_at hl 0 rfl) ?_
        refine lv_bipush (v := (38 : Int32)) hx hb dX8_takesE_111 (by decide) ?_
        refine lv_icmp_eq (tgt := 122) hx hb dX8_takesE_113 (by decide) (fun c5 => ?_) (fun c5 => ?_)
        · have hf := gif_t c5 hf
          refine lv_aload_n hx hb dX8_takesE_122 rfl (lv_at hl 1 rfl) ?_
          refine lv_iload_n hx hb dX8_takesE_123 rfl (lv_at hl 0 rfl) ?_
          obtain ⟨_, u6, hc6, hf⟩ := obind_s hf
          refine g_doV0 hG (g_runV C0 hG (k_X8_settle l D base Z u2 r3 u6 hc6) m_X8_settle v_X8_settle w_1194 (by decide) (g_recv C0 hG (L82 hG) rfl) rfl hl.1 rfl (Nat.le_of_ble_eq_true rfl) dX8_takesE_124 ⟨Nat.zero_le _, Nat.zero_le _⟩) (fun H locs hG hk => ?_)
          refine lv_aload_n hx hb dX8_takesE_127 rfl (lv_at hl 1 rfl) ?_
          refine g_getSa (o := 15) (a := 97) C0 hG (L82 hG) rfl 24 (by decide) rfl rfl w_870 dX8_takesE_128 ?_
          refine lv_aload_n hx hb dX8_takesE_131 rfl (lv_at hl 1 rfl) ?_
          refine g_getI C0 hG (L82 hG) rfl 26 (by decide) rfl w_872 dX8_takesE_132 ?_
          refine lv_iload_n hx hb dX8_takesE_135 rfl (lv_at hl 0 rfl) ?_
          obtain ⟨h7, hf⟩ := gin_s hf
          refine g_iast C0 hG (L97 hG) h7 dX8_takesE_136 (fun H locs hG => ?_)
          refine lv_aload_n hx hb dX8_takesE_137 rfl (lv_at hl 1 rfl) ?_
          refine lv_dup hx hb dX8_takesE_138 rfl ?_
          refine g_getI C0 hG (L82 hG) rfl 26 (by decide) rfl w_872 dX8_takesE_139 ?_
          refine lv_iconst (v := (1 : Int32)) hx hb dX8_takesE_142 (by decide) ?_
          refine lv_iadd hx hb dX8_takesE_143 ?_
          refine g_putI (ty := .int) C0 hG (L82 hG) rfl 26 (by decide) rfl w_872 rfl (by decide) rfl rfl dX8_takesE_144 (fun H locs hG => ?_)
          refine lv_iconst (v := (1 : Int32)) hx hb dX8_takesE_147 (by decide) ?_
          refine lv_istore_n (lv' := [(2, .int (1 : Int32)), (3, .int r3), (0, .ref (base + 82)), (1, .int p1)]) hx hb dX8_takesE_148 rfl hl (by decide) rfl (fun ls hl => ?_)
          refine lv_aload_n hx hb dX8_takesE_149 rfl (lv_at hl 2 rfl) ?_
          refine lv_dup hx hb dX8_takesE_150 rfl ?_
          refine g_getI C0 hG (L82 hG) rfl 15 (by decide) rfl w_861 dX8_takesE_151 ?_
          refine lv_iconst (v := (1 : Int32)) hx hb dX8_takesE_154 (by decide) ?_
          refine lv_iadd hx hb dX8_takesE_155 ?_
          refine g_putI (ty := .int) C0 hG (L82 hG) rfl 15 (by decide) rfl w_861 rfl (by decide) rfl rfl dX8_takesE_156 (fun H locs hG => ?_)
          refine lv_goto (tgt := 22) hx hb dX8_takesE_159 (by decide) ?_
          have hf := while_l hX2 hf
          exact ih2 (1 : Int32) (sI (sI (sA u6 97 (gI u6 82 26).toNatClampNeg r3) 82 26 ((gI (sA u6 97 (gI u6 82 26).toNatClampNeg r3) 82 26) + (1 : Int32))) 82 15 ((gI (sI (sA u6 97 (gI u6 82 26).toNatClampNeg r3) 82 26 ((gI (sA u6 97 (gI u6 82 26).toNatClampNeg r3) 82 26) + (1 : Int32))) 82 15) + (1 : Int32))) _ _ ls hG (lv_sub hl [2, 3, 0] rfl) hf
        · have hf := gif_f c5 hf
          refine lv_iload_n hx hb dX8_takesE_116 rfl (lv_at hl 0 rfl) ?_
          refine lv_bipush (v := (124 : Int32)) hx hb dX8_takesE_117 (by decide) ?_
          refine lv_icmp_ne (tgt := 162) hx hb dX8_takesE_119 (by decide) (fun c8 => ?_) (fun c8 => ?_)
          · have hf := gif_f c8 hf
            refine lv_aload_n hx hb dX8_takesE_162 rfl (lv_at hl 1 rfl) ?_
            refine lv_bipush (v := (124 : Int32)) hx hb dX8_takesE_163 (by decide) ?_
            obtain ⟨_, u9, hc9, hf⟩ := obind_s hf
            refine g_doV0 hG (g_runV C0 hG (k_X8_settle l D base Z u2 (124 : Int32) u9 hc9) m_X8_settle v_X8_settle w_1194 (by decide) (g_recv C0 hG (L82 hG) rfl) rfl hl.1 rfl (Nat.le_of_ble_eq_true rfl) dX8_takesE_165 ⟨Nat.zero_le _, Nat.zero_le _⟩) (fun H locs hG hk => ?_)
            refine lv_aload_n hx hb dX8_takesE_168 rfl (lv_at hl 1 rfl) ?_
            refine g_getSa (o := 13) (a := 95) C0 hG (L82 hG) rfl 22 (by decide) rfl rfl w_868 dX8_takesE_169 ?_
            refine lv_iload_n hx hb dX8_takesE_172 rfl (lv_at hl 2 rfl) ?_
            refine lv_aload_n hx hb dX8_takesE_173 rfl (lv_at hl 1 rfl) ?_
            refine g_getI C0 hG (L82 hG) rfl 25 (by decide) rfl w_871 dX8_takesE_174 ?_
            obtain ⟨h10, hf⟩ := gin_s hf
            refine g_iast C0 hG (L95 hG) h10 dX8_takesE_177 (fun H locs hG => ?_)
            refine lv_aload_n hx hb dX8_takesE_178 rfl (lv_at hl 1 rfl) ?_
            refine g_getI C0 hG (L82 hG) rfl 26 (by decide) rfl w_872 dX8_takesE_179 ?_
            refine lv_if_ne (tgt := 187) hx hb dX8_takesE_182 (by decide) (fun c11 => ?_) (fun c11 => ?_)
            · have hf := gif_f c11 hf
              refine lv_iload_n hx hb dX8_takesE_187 rfl (lv_at hl 0 rfl) ?_
              refine lv_bipush (v := (41 : Int32)) hx hb dX8_takesE_188 (by decide) ?_
              refine lv_icmp_eq (tgt := 195) hx hb dX8_takesE_190 (by decide) (fun c12 => ?_) (fun c12 => ?_)
              · have hf := gif_t c12 hf
                refine lv_aload_n hx hb dX8_takesE_195 rfl (lv_at hl 1 rfl) ?_
                refine lv_dup hx hb dX8_takesE_196 rfl ?_
                refine g_getI C0 hG (L82 hG) rfl 26 (by decide) rfl w_872 dX8_takesE_197 ?_
                refine lv_iconst (v := (1 : Int32)) hx hb dX8_takesE_200 (by decide) ?_
                refine lv_isub hx hb dX8_takesE_201 ?_
                refine g_putI (ty := .int) C0 hG (L82 hG) rfl 26 (by decide) rfl w_872 rfl (by decide) rfl rfl dX8_takesE_202 (fun H locs hG => ?_)
                refine lv_aload_n hx hb dX8_takesE_205 rfl (lv_at hl 1 rfl) ?_
                refine lv_dup hx hb dX8_takesE_206 rfl ?_
                refine g_getI C0 hG (L82 hG) rfl 27 (by decide) rfl w_873 dX8_takesE_207 ?_
                refine lv_iconst (v := (1 : Int32)) hx hb dX8_takesE_210 (by decide) ?_
                refine lv_isub hx hb dX8_takesE_211 ?_
                refine g_putI (ty := .int) C0 hG (L82 hG) rfl 27 (by decide) rfl w_873 rfl (by decide) rfl rfl dX8_takesE_212 (fun H locs hG => ?_)
                refine lv_aload_n hx hb dX8_takesE_215 rfl (lv_at hl 1 rfl) ?_
                refine lv_dup hx hb dX8_takesE_216 rfl ?_
                refine g_getI C0 hG (L82 hG) rfl 15 (by decide) rfl w_861 dX8_takesE_217 ?_
                refine lv_iconst (v := (1 : Int32)) hx hb dX8_takesE_220 (by decide) ?_
                refine lv_iadd hx hb dX8_takesE_221 ?_
                refine g_putI (ty := .int) C0 hG (L82 hG) rfl 15 (by decide) rfl w_861 rfl (by decide) rfl rfl dX8_takesE_222 (fun H locs hG => ?_)
                refine lv_aload_n hx hb dX8_takesE_225 rfl (lv_at hl 1 rfl) ?_
                obtain ⟨_, u13, hc13, hf⟩ := obind_s hf
                refine g_doV0 hG (g_runV C0 hG (k_X8_whole l D base Z (sI (sI (sI (sA u9 95 p1.toNatClampNeg (gI u9 82 25)) 82 26 ((gI (sA u9 95 p1.toNatClampNeg (gI u9 82 25)) 82 26) - (1 : Int32))) 82 27 ((gI (sI (sA u9 95 p1.toNatClampNeg (gI u9 82 25)) 82 26 ((gI (sA u9 95 p1.toNatClampNeg (gI u9 82 25)) 82 26) - (1 : Int32))) 82 27) - (1 : Int32))) 82 15 ((gI (sI (sI (sA u9 95 p1.toNatClampNeg (gI u9 82 25)) 82 26 ((gI (sA u9 95 p1.toNatClampNeg (gI u9 82 25)) 82 26) - (1 : Int32))) 82 27 ((gI (sI (sA u9 95 p1.toNatClampNeg (gI u9 82 25)) 82 26 ((gI (sA u9 95 p1.toNatClampNeg (gI u9 82 25)) 82 26) - (1 : Int32))) 82 27) - (1 : Int32))) 82 15) + (1 : Int32))) u13 hc13) m_X8_whole v_X8_whole w_1190 (by decide) (g_recv C0 hG (L82 hG) rfl) rfl hl.1 rfl (Nat.le_of_ble_eq_true rfl) dX8_takesE_226 ⟨Nat.zero_le _, Nat.zero_le _⟩) (fun H locs hG hk => ?_)
                refine lv_goto (tgt := 22) hx hb dX8_takesE_229 (by decide) ?_
                have hf := while_l hX2 hf
                exact ih2 x2_2 u13 _ _ ls hG (lv_sub hl [1, 2, 3] rfl) hf
              · have hf := gif_f c12 hf
                refine lv_iconst (v := (0 : Int32)) hx hb dX8_takesE_193 (by decide) ?_
                have hf := while_r hX2 hf
                obtain ⟨hr1, hu⟩ := gret_s hf
                subst hr1
                subst hu
                subst hQ
                exact g_zret C0 hG hr (by decide) dX8_takesE_194
            · have hf := gif_t c11 hf
              refine lv_iconst (v := (1 : Int32)) hx hb dX8_takesE_185 (by decide) ?_
              have hf := while_r hX2 hf
              obtain ⟨hr1, hu⟩ := gret_s hf
              subst hr1
              subst hu
              subst hQ
              exact g_zret C0 hG hr (by decide) dX8_takesE_186
          · have hf := gif_t c8 hf
            refine lv_aload_n hx hb dX8_takesE_122 rfl (lv_at hl 1 rfl) ?_
            refine lv_iload_n hx hb dX8_takesE_123 rfl (lv_at hl 0 rfl) ?_
            obtain ⟨_, u14, hc14, hf⟩ := obind_s hf
            refine g_doV0 hG (g_runV C0 hG (k_X8_settle l D base Z u2 r3 u14 hc14) m_X8_settle v_X8_settle w_1194 (by decide) (g_recv C0 hG (L82 hG) rfl) rfl hl.1 rfl (Nat.le_of_ble_eq_true rfl) dX8_takesE_124 ⟨Nat.zero_le _, Nat.zero_le _⟩) (fun H locs hG hk => ?_)
            refine lv_aload_n hx hb dX8_takesE_127 rfl (lv_at hl 1 rfl) ?_
            refine g_getSa (o := 15) (a := 97) C0 hG (L82 hG) rfl 24 (by decide) rfl rfl w_870 dX8_takesE_128 ?_
            refine lv_aload_n hx hb dX8_takesE_131 rfl (lv_at hl 1 rfl) ?_
            refine g_getI C0 hG (L82 hG) rfl 26 (by decide) rfl w_872 dX8_takesE_132 ?_
            refine lv_iload_n hx hb dX8_takesE_135 rfl (lv_at hl 0 rfl) ?_
            obtain ⟨h15, hf⟩ := gin_s hf
            refine g_iast C0 hG (L97 hG) h15 dX8_takesE_136 (fun H locs hG => ?_)
            refine lv_aload_n hx hb dX8_takesE_137 rfl (lv_at hl 1 rfl) ?_
            refine lv_dup hx hb dX8_takesE_138 rfl ?_
            refine g_getI C0 hG (L82 hG) rfl 26 (by decide) rfl w_872 dX8_takesE_139 ?_
            refine lv_iconst (v := (1 : Int32)) hx hb dX8_takesE_142 (by decide) ?_
            refine lv_iadd hx hb dX8_takesE_143 ?_
            refine g_putI (ty := .int) C0 hG (L82 hG) rfl 26 (by decide) rfl w_872 rfl (by decide) rfl rfl dX8_takesE_144 (fun H locs hG => ?_)
            refine lv_iconst (v := (1 : Int32)) hx hb dX8_takesE_147 (by decide) ?_
            refine lv_istore_n (lv' := [(2, .int (1 : Int32)), (3, .int r3), (0, .ref (base + 82)), (1, .int p1)]) hx hb dX8_takesE_148 rfl hl (by decide) rfl (fun ls hl => ?_)
            refine lv_aload_n hx hb dX8_takesE_149 rfl (lv_at hl 2 rfl) ?_
            refine lv_dup hx hb dX8_takesE_150 rfl ?_
            refine g_getI C0 hG (L82 hG) rfl 15 (by decide) rfl w_861 dX8_takesE_151 ?_
            refine lv_iconst (v := (1 : Int32)) hx hb dX8_takesE_154 (by decide) ?_
            refine lv_iadd hx hb dX8_takesE_155 ?_
            refine g_putI (ty := .int) C0 hG (L82 hG) rfl 15 (by decide) rfl w_861 rfl (by decide) rfl rfl dX8_takesE_156 (fun H locs hG => ?_)
            refine lv_goto (tgt := 22) hx hb dX8_takesE_159 (by decide) ?_
            have hf := while_l hX2 hf
            exact ih2 (1 : Int32) (sI (sI (sA u14 97 (gI u14 82 26).toNatClampNeg r3) 82 26 ((gI (sA u14 97 (gI u14 82 26).toNatClampNeg r3) 82 26) + (1 : Int32))) 82 15 ((gI (sI (sA u14 97 (gI u14 82 26).toNatClampNeg r3) 82 26 ((gI (sA u14 97 (gI u14 82 26).toNatClampNeg r3) 82 26) + (1 : Int32))) 82 15) + (1 : Int32))) _ _ ls hG (lv_sub hl [2, 3, 0] rfl) hf
      · have hf := gif_f c4 hf
        refine lv_iload_n hx hb dX8_takesE_31 rfl (lv_at hl 0 rfl) ?_
        refine lv_bipush (v := (33 : Int32)) hx hb dX8_takesE_32 (by decide) ?_
        refine lv_icmp_eq (tgt := 43) hx hb dX8_takesE_34 (by decide) (fun c16 => ?_) (fun c16 => ?_)
        · have hf := gif_t c16 hf
          refine lv_aload_n hx hb dX8_takesE_43 rfl (lv_at hl 1 rfl) ?_
          refine g_getI C0 hG (L82 hG) rfl 27 (by decide) rfl w_873 dX8_takesE_44 ?_
          refine lv_iconst (v := (4 : Int32)) hx hb dX8_takesE_47 (by decide) ?_
          refine lv_icmp_ne (tgt := 53) hx hb dX8_takesE_48 (by decide) (fun c17 => ?_) (fun c17 => ?_)
          · have hf := gif_f c17 hf
            refine lv_aload_n hx hb dX8_takesE_53 rfl (lv_at hl 1 rfl) ?_
            refine lv_dup hx hb dX8_takesE_54 rfl ?_
            refine g_getI C0 hG (L82 hG) rfl 27 (by decide) rfl w_873 dX8_takesE_55 ?_
            refine lv_iconst (v := (1 : Int32)) hx hb dX8_takesE_58 (by decide) ?_
            refine lv_iadd hx hb dX8_takesE_59 ?_
            refine g_putI (ty := .int) C0 hG (L82 hG) rfl 27 (by decide) rfl w_873 rfl (by decide) rfl rfl dX8_takesE_60 (fun H locs hG => ?_)
            refine lv_aload_n hx hb dX8_takesE_63 rfl (lv_at hl 1 rfl) ?_
            refine g_getSa (o := 15) (a := 97) C0 hG (L82 hG) rfl 24 (by decide) rfl rfl w_870 dX8_takesE_64 ?_
            refine lv_aload_n hx hb dX8_takesE_67 rfl (lv_at hl 1 rfl) ?_
            refine g_getI C0 hG (L82 hG) rfl 26 (by decide) rfl w_872 dX8_takesE_68 ?_
            refine lv_iload_n hx hb dX8_takesE_71 rfl (lv_at hl 0 rfl) ?_
            obtain ⟨h18, hf⟩ := gin_s hf
            refine g_iast C0 hG (L97 hG) h18 dX8_takesE_72 (fun H locs hG => ?_)
            refine lv_aload_n hx hb dX8_takesE_73 rfl (lv_at hl 1 rfl) ?_
            refine lv_dup hx hb dX8_takesE_74 rfl ?_
            refine g_getI C0 hG (L82 hG) rfl 26 (by decide) rfl w_872 dX8_takesE_75 ?_
            refine lv_iconst (v := (1 : Int32)) hx hb dX8_takesE_78 (by decide) ?_
            refine lv_iadd hx hb dX8_takesE_79 ?_
            refine g_putI (ty := .int) C0 hG (L82 hG) rfl 26 (by decide) rfl w_872 rfl (by decide) rfl rfl dX8_takesE_80 (fun H locs hG => ?_)
            refine lv_aload_n hx hb dX8_takesE_83 rfl (lv_at hl 1 rfl) ?_
            refine lv_dup hx hb dX8_takesE_84 rfl ?_
            refine g_getI C0 hG (L82 hG) rfl 15 (by decide) rfl w_861 dX8_takesE_85 ?_
            refine lv_iconst (v := (1 : Int32)) hx hb dX8_takesE_88 (by decide) ?_
            refine lv_iadd hx hb dX8_takesE_89 ?_
            refine g_putI (ty := .int) C0 hG (L82 hG) rfl 15 (by decide) rfl w_861 rfl (by decide) rfl rfl dX8_takesE_90 (fun H locs hG => ?_)
            refine lv_goto (tgt := 22) hx hb dX8_takesE_93 (by decide) ?_
            have hf := while_l hX2 hf
            exact ih2 x2_2 (sI (sI (sA (sI u2 82 27 ((gI u2 82 27) + (1 : Int32))) 97 (gI (sI u2 82 27 ((gI u2 82 27) + (1 : Int32))) 82 26).toNatClampNeg r3) 82 26 ((gI (sA (sI u2 82 27 ((gI u2 82 27) + (1 : Int32))) 97 (gI (sI u2 82 27 ((gI u2 82 27) + (1 : Int32))) 82 26).toNatClampNeg r3) 82 26) + (1 : Int32))) 82 15 ((gI (sI (sA (sI u2 82 27 ((gI u2 82 27) + (1 : Int32))) 97 (gI (sI u2 82 27 ((gI u2 82 27) + (1 : Int32))) 82 26).toNatClampNeg r3) 82 26 ((gI (sA (sI u2 82 27 ((gI u2 82 27) + (1 : Int32))) 97 (gI (sI u2 82 27 ((gI u2 82 27) + (1 : Int32))) 82 26).toNatClampNeg r3) 82 26) + (1 : Int32))) 82 15) + (1 : Int32))) _ _ ls hG (lv_sub hl [1, 2, 3] rfl) hf
          · have hf := gif_t c17 hf
            refine lv_iconst (v := (0 : Int32)) hx hb dX8_takesE_51 (by decide) ?_
            have hf := while_r hX2 hf
            obtain ⟨hr1, hu⟩ := gret_s hf
            subst hr1
            subst hu
            subst hQ
            exact g_zret C0 hG hr (by decide) dX8_takesE_52
        · have hf := gif_f c16 hf
          refine lv_iload_n hx hb dX8_takesE_37 rfl (lv_at hl 0 rfl) ?_
          refine lv_bipush (v := (40 : Int32)) hx hb dX8_takesE_38 (by decide) ?_
          refine lv_icmp_ne (tgt := 96) hx hb dX8_takesE_40 (by decide) (fun c19 => ?_) (fun c19 => ?_)
          · have hf := gif_f c19 hf
            refine lv_aload_n hx hb dX8_takesE_96 rfl (lv_at hl 1 rfl) ?_
            obtain ⟨r20, u20, hc20, hf⟩ := obind_s hf
            refine g_doI0 hG (g_runV C0 hG (k_X8_takesTest l D base Z u2 r20 u20 hc20) m_X8_takesTest v_X8_takesTest w_1178 (by decide) (g_recv C0 hG (L82 hG) rfl) rfl hl.1 rfl (Nat.le_of_ble_eq_true rfl) dX8_takesE_97 ⟨Nat.zero_le _, Nat.zero_le _⟩) (fun H locs hG hk => ?_)
            refine lv_if_eq (tgt := 108) hx hb dX8_takesE_100 (by decide) (fun c21 => ?_) (fun c21 => ?_)
            · have hf := gif_t c21 hf
              refine lv_iconst (v := (0 : Int32)) hx hb dX8_takesE_108 (by decide) ?_
              have hf := while_r hX2 hf
              obtain ⟨hr1, hu⟩ := gret_s hf
              subst hr1
              subst hu
              subst hQ
              exact g_zret C0 hG hr (by decide) dX8_takesE_109
            · have hf := gif_f c21 hf
              refine lv_iconst (v := (0 : Int32)) hx hb dX8_takesE_103 (by decide) ?_
              refine lv_istore_n (lv' := [(2, .int (0 : Int32)), (3, .int r3), (0, .ref (base + 82)), (1, .int p1)]) hx hb dX8_takesE_104 rfl hl (by decide) rfl (fun ls hl => ?_)
              refine lv_goto (tgt := 22) hx hb dX8_takesE_105 (by decide) ?_
              have hf := while_l hX2 hf
              exact ih2 (0 : Int32) u20 _ _ ls hG (lv_sub hl [2, 3, 0] rfl) hf
          · have hf := gif_t c19 hf
            refine lv_aload_n hx hb dX8_takesE_43 rfl (lv_at hl 1 rfl) ?_
            refine g_getI C0 hG (L82 hG) rfl 27 (by decide) rfl w_873 dX8_takesE_44 ?_
            refine lv_iconst (v := (4 : Int32)) hx hb dX8_takesE_47 (by decide) ?_
            refine lv_icmp_ne (tgt := 53) hx hb dX8_takesE_48 (by decide) (fun c22 => ?_) (fun c22 => ?_)
            · have hf := gif_f c22 hf
              refine lv_aload_n hx hb dX8_takesE_53 rfl (lv_at hl 1 rfl) ?_
              refine lv_dup hx hb dX8_takesE_54 rfl ?_
              refine g_getI C0 hG (L82 hG) rfl 27 (by decide) rfl w_873 dX8_takesE_55 ?_
              refine lv_iconst (v := (1 : Int32)) hx hb dX8_takesE_58 (by decide) ?_
              refine lv_iadd hx hb dX8_takesE_59 ?_
              refine g_putI (ty := .int) C0 hG (L82 hG) rfl 27 (by decide) rfl w_873 rfl (by decide) rfl rfl dX8_takesE_60 (fun H locs hG => ?_)
              refine lv_aload_n hx hb dX8_takesE_63 rfl (lv_at hl 1 rfl) ?_
              refine g_getSa (o := 15) (a := 97) C0 hG (L82 hG) rfl 24 (by decide) rfl rfl w_870 dX8_takesE_64 ?_
              refine lv_aload_n hx hb dX8_takesE_67 rfl (lv_at hl 1 rfl) ?_
              refine g_getI C0 hG (L82 hG) rfl 26 (by decide) rfl w_872 dX8_takesE_68 ?_
              refine lv_iload_n hx hb dX8_takesE_71 rfl (lv_at hl 0 rfl) ?_
              obtain ⟨h23, hf⟩ := gin_s hf
              refine g_iast C0 hG (L97 hG) h23 dX8_takesE_72 (fun H locs hG => ?_)
              refine lv_aload_n hx hb dX8_takesE_73 rfl (lv_at hl 1 rfl) ?_
              refine lv_dup hx hb dX8_takesE_74 rfl ?_
              refine g_getI C0 hG (L82 hG) rfl 26 (by decide) rfl w_872 dX8_takesE_75 ?_
              refine lv_iconst (v := (1 : Int32)) hx hb dX8_takesE_78 (by decide) ?_
              refine lv_iadd hx hb dX8_takesE_79 ?_
              refine g_putI (ty := .int) C0 hG (L82 hG) rfl 26 (by decide) rfl w_872 rfl (by decide) rfl rfl dX8_takesE_80 (fun H locs hG => ?_)
              refine lv_aload_n hx hb dX8_takesE_83 rfl (lv_at hl 1 rfl) ?_
              refine lv_dup hx hb dX8_takesE_84 rfl ?_
              refine g_getI C0 hG (L82 hG) rfl 15 (by decide) rfl w_861 dX8_takesE_85 ?_
              refine lv_iconst (v := (1 : Int32)) hx hb dX8_takesE_88 (by decide) ?_
              refine lv_iadd hx hb dX8_takesE_89 ?_
              refine g_putI (ty := .int) C0 hG (L82 hG) rfl 15 (by decide) rfl w_861 rfl (by decide) rfl rfl dX8_takesE_90 (fun H locs hG => ?_)
              refine lv_goto (tgt := 22) hx hb dX8_takesE_93 (by decide) ?_
              have hf := while_l hX2 hf
              exact ih2 x2_2 (sI (sI (sA (sI u2 82 27 ((gI u2 82 27) + (1 : Int32))) 97 (gI (sI u2 82 27 ((gI u2 82 27) + (1 : Int32))) 82 26).toNatClampNeg r3) 82 26 ((gI (sA (sI u2 82 27 ((gI u2 82 27) + (1 : Int32))) 97 (gI (sI u2 82 27 ((gI u2 82 27) + (1 : Int32))) 82 26).toNatClampNeg r3) 82 26) + (1 : Int32))) 82 15 ((gI (sI (sA (sI u2 82 27 ((gI u2 82 27) + (1 : Int32))) 97 (gI (sI u2 82 27 ((gI u2 82 27) + (1 : Int32))) 82 26).toNatClampNeg r3) 82 26 ((gI (sA (sI u2 82 27 ((gI u2 82 27) + (1 : Int32))) 97 (gI (sI u2 82 27 ((gI u2 82 27) + (1 : Int32))) 82 26).toNatClampNeg r3) 82 26) + (1 : Int32))) 82 15) + (1 : Int32))) _ _ ls hG (lv_sub hl [1, 2, 3] rfl) hf
            · have hf := gif_t c22 hf
              refine lv_iconst (v := (0 : Int32)) hx hb dX8_takesE_51 (by decide) ?_
              have hf := while_r hX2 hf
              obtain ⟨hr1, hu⟩ := gret_s hf
              subst hr1
              subst hu
              subst hQ
              exact g_zret C0 hG hr (by decide) dX8_takesE_52
  exact loop2 FUEL (1 : Int32) (sA (sI (sI u 82 26 (0 : Int32)) 82 27 (0 : Int32)) 94 p1.toNatClampNeg (gI (sI (sI u 82 26 (0 : Int32)) 82 27 (0 : Int32)) 82 25)) _ _ ls hG (lv_sub hl [1, 2, 0] rfl) hf
theorem dX8_takesHead_0 : decode cX8_takesHead 0 = .ok (.aload_n 0, 1) := by decide +kernel
theorem dX8_takesHead_1 : decode cX8_takesHead 1 = .ok (.invokevirtual 270, 3) := by decide +kernel
theorem dX8_takesHead_4 : decode cX8_takesHead 4 = .ok (.bipush 119, 2) := by decide +kernel
theorem dX8_takesHead_6 : decode cX8_takesHead 6 = .ok (.if_icmp .ne 17, 3) := by decide +kernel
theorem dX8_takesHead_9 : decode cX8_takesHead 9 = .ok (.aload_n 0, 1) := by decide +kernel
theorem dX8_takesHead_10 : decode cX8_takesHead 10 = .ok (.getfield 68, 3) := by decide +kernel
theorem dX8_takesHead_13 : decode cX8_takesHead 13 = .ok (.iload_n 1, 1) := by decide +kernel
theorem dX8_takesHead_14 : decode cX8_takesHead 14 = .ok (.iconst 0, 1) := by decide +kernel
theorem dX8_takesHead_15 : decode cX8_takesHead 15 = .ok (.iastore, 1) := by decide +kernel
theorem dX8_takesHead_16 : decode cX8_takesHead 16 = .ok (.aload_n 0, 1) := by decide +kernel
theorem dX8_takesHead_17 : decode cX8_takesHead 17 = .ok (.iconst 0, 1) := by decide +kernel
theorem dX8_takesHead_18 : decode cX8_takesHead 18 = .ok (.iconst 4, 1) := by decide +kernel
theorem dX8_takesHead_19 : decode cX8_takesHead 19 = .ok (.invokevirtual 301, 3) := by decide +kernel
theorem dX8_takesHead_22 : decode cX8_takesHead 22 = .ok (.ireturn, 1) := by decide +kernel
theorem dX8_takesHead_23 : decode cX8_takesHead 23 = .ok (.aload_n 0, 1) := by decide +kernel
theorem dX8_takesHead_24 : decode cX8_takesHead 24 = .ok (.getfield 68, 3) := by decide +kernel
theorem dX8_takesHead_27 : decode cX8_takesHead 27 = .ok (.iload_n 1, 1) := by decide +kernel
theorem dX8_takesHead_28 : decode cX8_takesHead 28 = .ok (.aload_n 0, 1) := by decide +kernel
theorem dX8_takesHead_29 : decode cX8_takesHead 29 = .ok (.invokevirtual 304, 3) := by decide +kernel
theorem dX8_takesHead_32 : decode cX8_takesHead 32 = .ok (.bipush 108, 2) := by decide +kernel
theorem dX8_takesHead_34 : decode cX8_takesHead 34 = .ok (.if_icmp .ne 7, 3) := by decide +kernel
theorem dX8_takesHead_37 : decode cX8_takesHead 37 = .ok (.iconst 2, 1) := by decide +kernel
theorem dX8_takesHead_38 : decode cX8_takesHead 38 = .ok (.goto 4, 3) := by decide +kernel
theorem dX8_takesHead_41 : decode cX8_takesHead 41 = .ok (.iconst 1, 1) := by decide +kernel
theorem dX8_takesHead_42 : decode cX8_takesHead 42 = .ok (.iastore, 1) := by decide +kernel
theorem dX8_takesHead_43 : decode cX8_takesHead 43 = .ok (.aload_n 0, 1) := by decide +kernel
theorem dX8_takesHead_44 : decode cX8_takesHead 44 = .ok (.getfield 68, 3) := by decide +kernel
theorem dX8_takesHead_47 : decode cX8_takesHead 47 = .ok (.iload_n 1, 1) := by decide +kernel
theorem dX8_takesHead_48 : decode cX8_takesHead 48 = .ok (.iaload, 1) := by decide +kernel
theorem dX8_takesHead_49 : decode cX8_takesHead 49 = .ok (.iconst 2, 1) := by decide +kernel
theorem dX8_takesHead_50 : decode cX8_takesHead 50 = .ok (.if_icmp .ne 13, 3) := by decide +kernel
theorem dX8_takesHead_53 : decode cX8_takesHead 53 = .ok (.aload_n 0, 1) := by decide +kernel
theorem dX8_takesHead_54 : decode cX8_takesHead 54 = .ok (.bipush 9, 2) := by decide +kernel
theorem dX8_takesHead_56 : decode cX8_takesHead 56 = .ok (.iconst 5, 1) := by decide +kernel
theorem dX8_takesHead_57 : decode cX8_takesHead 57 = .ok (.invokevirtual 301, 3) := by decide +kernel
theorem dX8_takesHead_60 : decode cX8_takesHead 60 = .ok (.goto 9, 3) := by decide +kernel
theorem dX8_takesHead_63 : decode cX8_takesHead 63 = .ok (.aload_n 0, 1) := by decide +kernel
theorem dX8_takesHead_64 : decode cX8_takesHead 64 = .ok (.iconst 4, 1) := by decide +kernel
theorem dX8_takesHead_65 : decode cX8_takesHead 65 = .ok (.iconst 5, 1) := by decide +kernel
theorem dX8_takesHead_66 : decode cX8_takesHead 66 = .ok (.invokevirtual 301, 3) := by decide +kernel
theorem dX8_takesHead_69 : decode cX8_takesHead 69 = .ok (.ireturn, 1) := by decide +kernel
def f_X8_takesHead (p1 : Int32) (u : Mem) : Option (Int32 × Mem) := Option.bind (f_X8_next u) (fun r1 => (if r1 = (119 : Int32) then gin p1 60 (obind (f_X8_takesWord (0 : Int32) (4 : Int32) (sA u 92 p1.toNatClampNeg (0 : Int32))) (fun r20 u20 => gbo r20 (some (r20, u20)))) else Option.bind (f_X8_second u) (fun r3 => (if r3 = (108 : Int32) then gin p1 60 (gin p1 60 ((if (gA (sA u 92 p1.toNatClampNeg (2 : Int32)) 92 p1.toNatClampNeg) = (2 : Int32) then obind (f_X8_takesWord (9 : Int32) (5 : Int32) (sA u 92 p1.toNatClampNeg (2 : Int32))) (fun r17 u17 => gbo r17 (some (r17, u17))) else obind (f_X8_takesWord (4 : Int32) (5 : Int32) (sA u 92 p1.toNatClampNeg (2 : Int32))) (fun r15 u15 => gbo r15 (some (r15, u15)))))) else gin p1 60 (gin p1 60 ((if (gA (sA u 92 p1.toNatClampNeg (1 : Int32)) 92 p1.toNatClampNeg) = (2 : Int32) then obind (f_X8_takesWord (9 : Int32) (5 : Int32) (sA u 92 p1.toNatClampNeg (1 : Int32))) (fun r10 u10 => gbo r10 (some (r10, u10))) else obind (f_X8_takesWord (4 : Int32) (5 : Int32) (sA u 92 p1.toNatClampNeg (1 : Int32))) (fun r8 u8 => gbo r8 (some (r8, u8))))))))))
set_option maxHeartbeats 4000000 in
set_option maxRecDepth 100000 in
theorem k_X8_takesHead (l : Launch) (D : gDt) (base : Nat) (Z : gZt) (u : Mem) (p1 : Int32) (r : Int32) (u' : Mem) (hf : f_X8_takesHead p1 u = some (r, u')) : Met l yX8_takesHead (gws yX8_takesHead cX8_takesHead 2 (some .boolean)) (gRm 4 0 0) (gPc D base Z u [.ref (base + 82), .int p1]) (gQi D base r u') 0 0 (gF base) := by
  refine Met.ofW (cc := cX8_takesHead) (maxL := 2) (ret := some .boolean) (by decide) rfl ?_
  intro p e s m args below meth c s₁ B hml hv
  obtain ⟨rfl, C0, hG⟩ := g_enter B hml hv
  have hr := B.returns
  have C0 : gC p s m meth c _ cX8_takesHead 2 RX8 D base Z := C0
  have hx := C0.1
  have hb := C0.2.1
  have hl := lv_entry ([.ref (base + 82), .int p1]) (n := 2) (Nat.le_of_ble_eq_true rfl)
  rw [lg_entry_eq]
  generalize (lg_sl ([.ref (base + 82), .int p1]) ++ List.replicate (2 - (lg_sl ([.ref (base + 82), .int p1])).length) Slot.unset).toArray = ls at hl ⊢
  have hl : lv_has ls 2 [(0, .ref (base + 82)), (1, .int p1)] := hl
  obtain ⟨Q, hQ⟩ : ∃ Q, Q = MQ below (gQi D base r u') ([.ref (base + 82), .int p1] : List Value).toArray s 0 0 (gF base) := ⟨_, rfl⟩
  rw [← hQ]
  change W p l e (gRm 4 0 0) s m _ below meth c _ _ _ _ _ _
  unfold f_X8_takesHead at hf
  refine lv_aload_n hx hb dX8_takesHead_0 rfl (lv_at hl 0 rfl) ?_
  obtain ⟨r1, hc1, hf⟩ := pb_s hf
  refine g_doI0 hG (g_runV C0 hG (k_X8_next l D base Z u r1 hc1) m_X8_next v_X8_next w_1150 (by decide) (g_recv C0 hG (L82 hG) rfl) rfl hl.1 rfl (Nat.le_of_ble_eq_true rfl) dX8_takesHead_1 ⟨Nat.zero_le _, Nat.zero_le _⟩) (fun H locs hG hk => ?_)
  refine lv_bipush (v := (119 : Int32)) hx hb dX8_takesHead_4 (by decide) ?_
  refine lv_icmp_ne (tgt := 23) hx hb dX8_takesHead_6 (by decide) (fun c2 => ?_) (fun c2 => ?_)
  · have hf := gif_f c2 hf
    refine lv_aload_n hx hb dX8_takesHead_23 rfl (lv_at hl 0 rfl) ?_
    refine g_getSa (o := 10) (a := 92) C0 hG (L82 hG) rfl 19 (by decide) rfl rfl w_865 dX8_takesHead_24 ?_
    refine lv_iload_n hx hb dX8_takesHead_27 rfl (lv_at hl 1 rfl) ?_
    refine lv_aload_n hx hb dX8_takesHead_28 rfl (lv_at hl 0 rfl) ?_
    obtain ⟨r3, hc3, hf⟩ := pb_s hf
    refine g_doI0 hG (g_runV C0 hG (k_X8_second l D base Z u r3 hc3) m_X8_second v_X8_second w_1162 (by decide) (g_recv C0 hG (L82 hG) rfl) rfl hl.1 rfl (Nat.le_of_ble_eq_true rfl) dX8_takesHead_29 ⟨Nat.zero_le _, Nat.zero_le _⟩) (fun H locs hG hk => ?_)
    refine lv_bipush (v := (108 : Int32)) hx hb dX8_takesHead_32 (by decide) ?_
    refine lv_icmp_ne (tgt := 41) hx hb dX8_takesHead_34 (by decide) (fun c4 => ?_) (fun c4 => ?_)
    · have hf := gif_f c4 hf
      refine lv_iconst (v := (1 : Int32)) hx hb dX8_takesHead_41 (by decide) ?_
      obtain ⟨h5, hf⟩ := gin_s hf
      refine g_iast C0 hG (L92 hG) h5 dX8_takesHead_42 (fun H locs hG => ?_)
      refine lv_aload_n hx hb dX8_takesHead_43 rfl (lv_at hl 0 rfl) ?_
      refine g_getSa (o := 10) (a := 92) C0 hG (L82 hG) rfl 19 (by decide) rfl rfl w_865 dX8_takesHead_44 ?_
      refine lv_iload_n hx hb dX8_takesHead_47 rfl (lv_at hl 1 rfl) ?_
      obtain ⟨h6, hf⟩ := gin_s hf
      refine g_iald C0 hG (L92 hG) h6 dX8_takesHead_48 ?_
      refine lv_iconst (v := (2 : Int32)) hx hb dX8_takesHead_49 (by decide) ?_
      refine lv_icmp_ne (tgt := 63) hx hb dX8_takesHead_50 (by decide) (fun c7 => ?_) (fun c7 => ?_)
      · have hf := gif_f c7 hf
        refine lv_aload_n hx hb dX8_takesHead_63 rfl (lv_at hl 0 rfl) ?_
        refine lv_iconst (v := (4 : Int32)) hx hb dX8_takesHead_64 (by decide) ?_
        refine lv_iconst (v := (5 : Int32)) hx hb dX8_takesHead_65 (by decide) ?_
        obtain ⟨r8, u8, hc8, hf⟩ := obind_s hf
        refine g_doI0 hG (g_runV C0 hG (k_X8_takesWord l D base Z (sA u 92 p1.toNatClampNeg (1 : Int32)) (4 : Int32) (5 : Int32) r8 u8 hc8) m_X8_takesWord v_X8_takesWord w_1154 (by decide) (g_recv C0 hG (L82 hG) rfl) rfl hl.1 rfl (Nat.le_of_ble_eq_true rfl) dX8_takesHead_66 ⟨Nat.zero_le _, Nat.zero_le _⟩) (fun H locs hG hk => ?_)
        obtain ⟨h9, hf⟩ := gbo_s hf
        obtain ⟨hr1, hu⟩ := gret_s hf
        subst hr1
        subst hu
        subst hQ
        exact g_zret C0 hG hr h9 dX8_takesHead_69
      · have hf := gif_t c7 hf
        refine lv_aload_n hx hb dX8_takesHead_53 rfl (lv_at hl 0 rfl) ?_
        refine lv_bipush (v := (9 : Int32)) hx hb dX8_takesHead_54 (by decide) ?_
        refine lv_iconst (v := (5 : Int32)) hx hb dX8_takesHead_56 (by decide) ?_
        obtain ⟨r10, u10, hc10, hf⟩ := obind_s hf
        refine g_doI0 hG (g_runV C0 hG (k_X8_takesWord l D base Z (sA u 92 p1.toNatClampNeg (1 : Int32)) (9 : Int32) (5 : Int32) r10 u10 hc10) m_X8_takesWord v_X8_takesWord w_1154 (by decide) (g_recv C0 hG (L82 hG) rfl) rfl hl.1 rfl (Nat.le_of_ble_eq_true rfl) dX8_takesHead_57 ⟨Nat.zero_le _, Nat.zero_le _⟩) (fun H locs hG hk => ?_)
        refine lv_goto (tgt := 69) hx hb dX8_takesHead_60 (by decide) ?_
        obtain ⟨h11, hf⟩ := gbo_s hf
        obtain ⟨hr1, hu⟩ := gret_s hf
        subst hr1
        subst hu
        subst hQ
        exact g_zret C0 hG hr h11 dX8_takesHead_69
    · have hf := gif_t c4 hf
      refine lv_iconst (v := (2 : Int32)) hx hb dX8_takesHead_37 (by decide) ?_
      refine lv_goto (tgt := 42) hx hb dX8_takesHead_38 (by decide) ?_
      obtain ⟨h12, hf⟩ := gin_s hf
      refine g_iast C0 hG (L92 hG) h12 dX8_takesHead_42 (fun H locs hG => ?_)
      refine lv_aload_n hx hb dX8_takesHead_43 rfl (lv_at hl 0 rfl) ?_
      refine g_getSa (o := 10) (a := 92) C0 hG (L82 hG) rfl 19 (by decide) rfl rfl w_865 dX8_takesHead_44 ?_
      refine lv_iload_n hx hb dX8_takesHead_47 rfl (lv_at hl 1 rfl) ?_
      obtain ⟨h13, hf⟩ := gin_s hf
      refine g_iald C0 hG (L92 hG) h13 dX8_takesHead_48 ?_
      refine lv_iconst (v := (2 : Int32)) hx hb dX8_takesHead_49 (by decide) ?_
      refine lv_icmp_ne (tgt := 63) hx hb dX8_takesHead_50 (by decide) (fun c14 => ?_) (fun c14 => ?_)
      · have hf := gif_f c14 hf
        refine lv_aload_n hx hb dX8_takesHead_63 rfl (lv_at hl 0 rfl) ?_
        refine lv_iconst (v := (4 : Int32)) hx hb dX8_takesHead_64 (by decide) ?_
        refine lv_iconst (v := (5 : Int32)) hx hb dX8_takesHead_65 (by decide) ?_
        obtain ⟨r15, u15, hc15, hf⟩ := obind_s hf
        refine g_doI0 hG (g_runV C0 hG (k_X8_takesWord l D base Z (sA u 92 p1.toNatClampNeg (2 : Int32)) (4 : Int32) (5 : Int32) r15 u15 hc15) m_X8_takesWord v_X8_takesWord w_1154 (by decide) (g_recv C0 hG (L82 hG) rfl) rfl hl.1 rfl (Nat.le_of_ble_eq_true rfl) dX8_takesHead_66 ⟨Nat.zero_le _, Nat.zero_le _⟩) (fun H locs hG hk => ?_)
        obtain ⟨h16, hf⟩ := gbo_s hf
        obtain ⟨hr1, hu⟩ := gret_s hf
        subst hr1
        subst hu
        subst hQ
        exact g_zret C0 hG hr h16 dX8_takesHead_69
      · have hf := gif_t c14 hf
        refine lv_aload_n hx hb dX8_takesHead_53 rfl (lv_at hl 0 rfl) ?_
        refine lv_bipush (v := (9 : Int32)) hx hb dX8_takesHead_54 (by decide) ?_
        refine lv_iconst (v := (5 : Int32)) hx hb dX8_takesHead_56 (by decide) ?_
        obtain ⟨r17, u17, hc17, hf⟩ := obind_s hf
        refine g_doI0 hG (g_runV C0 hG (k_X8_takesWord l D base Z (sA u 92 p1.toNatClampNeg (2 : Int32)) (9 : Int32) (5 : Int32) r17 u17 hc17) m_X8_takesWord v_X8_takesWord w_1154 (by decide) (g_recv C0 hG (L82 hG) rfl) rfl hl.1 rfl (Nat.le_of_ble_eq_true rfl) dX8_takesHead_57 ⟨Nat.zero_le _, Nat.zero_le _⟩) (fun H locs hG hk => ?_)
        refine lv_goto (tgt := 69) hx hb dX8_takesHead_60 (by decide) ?_
        obtain ⟨h18, hf⟩ := gbo_s hf
        obtain ⟨hr1, hu⟩ := gret_s hf
        subst hr1
        subst hu
        subst hQ
        exact g_zret C0 hG hr h18 dX8_takesHead_69
  · have hf := gif_t c2 hf
    refine lv_aload_n hx hb dX8_takesHead_9 rfl (lv_at hl 0 rfl) ?_
    refine g_getSa (o := 10) (a := 92) C0 hG (L82 hG) rfl 19 (by decide) rfl rfl w_865 dX8_takesHead_10 ?_
    refine lv_iload_n hx hb dX8_takesHead_13 rfl (lv_at hl 1 rfl) ?_
    refine lv_iconst (v := (0 : Int32)) hx hb dX8_takesHead_14 (by decide) ?_
    obtain ⟨h19, hf⟩ := gin_s hf
    refine g_iast C0 hG (L92 hG) h19 dX8_takesHead_15 (fun H locs hG => ?_)
    refine lv_aload_n hx hb dX8_takesHead_16 rfl (lv_at hl 0 rfl) ?_
    refine lv_iconst (v := (0 : Int32)) hx hb dX8_takesHead_17 (by decide) ?_
    refine lv_iconst (v := (4 : Int32)) hx hb dX8_takesHead_18 (by decide) ?_
    obtain ⟨r20, u20, hc20, hf⟩ := obind_s hf
    refine g_doI0 hG (g_runV C0 hG (k_X8_takesWord l D base Z (sA u 92 p1.toNatClampNeg (0 : Int32)) (0 : Int32) (4 : Int32) r20 u20 hc20) m_X8_takesWord v_X8_takesWord w_1154 (by decide) (g_recv C0 hG (L82 hG) rfl) rfl hl.1 rfl (Nat.le_of_ble_eq_true rfl) dX8_takesHead_19 ⟨Nat.zero_le _, Nat.zero_le _⟩) (fun H locs hG hk => ?_)
    obtain ⟨h21, hf⟩ := gbo_s hf
    obtain ⟨hr1, hu⟩ := gret_s hf
    subst hr1
    subst hu
    subst hQ
    exact g_zret C0 hG hr h21 dX8_takesHead_22
theorem dX8_takesClause_0 : decode cX8_takesClause 0 = .ok (.aload_n 0, 1) := by decide +kernel
theorem dX8_takesClause_1 : decode cX8_takesClause 1 = .ok (.iload_n 1, 1) := by decide +kernel
theorem dX8_takesClause_2 : decode cX8_takesClause 2 = .ok (.invokevirtual 307, 3) := by decide +kernel
theorem dX8_takesClause_5 : decode cX8_takesClause 5 = .ok (.ifCond .eq 10, 3) := by decide +kernel
theorem dX8_takesClause_8 : decode cX8_takesClause 8 = .ok (.aload_n 0, 1) := by decide +kernel
theorem dX8_takesClause_9 : decode cX8_takesClause 9 = .ok (.invokevirtual 289, 3) := by decide +kernel
theorem dX8_takesClause_12 : decode cX8_takesClause 12 = .ok (.ifCond .ne 5, 3) := by decide +kernel
theorem dX8_takesClause_15 : decode cX8_takesClause 15 = .ok (.iconst 0, 1) := by decide +kernel
theorem dX8_takesClause_16 : decode cX8_takesClause 16 = .ok (.ireturn, 1) := by decide +kernel
theorem dX8_takesClause_17 : decode cX8_takesClause 17 = .ok (.aload_n 0, 1) := by decide +kernel
theorem dX8_takesClause_18 : decode cX8_takesClause 18 = .ok (.getfield 71, 3) := by decide +kernel
theorem dX8_takesClause_21 : decode cX8_takesClause 21 = .ok (.iload_n 1, 1) := by decide +kernel
theorem dX8_takesClause_22 : decode cX8_takesClause 22 = .ok (.aload_n 0, 1) := by decide +kernel
theorem dX8_takesClause_23 : decode cX8_takesClause 23 = .ok (.getfield 59, 3) := by decide +kernel
theorem dX8_takesClause_26 : decode cX8_takesClause 26 = .ok (.iastore, 1) := by decide +kernel
theorem dX8_takesClause_27 : decode cX8_takesClause 27 = .ok (.aload_n 0, 1) := by decide +kernel
theorem dX8_takesClause_28 : decode cX8_takesClause 28 = .ok (.getfield 68, 3) := by decide +kernel
theorem dX8_takesClause_31 : decode cX8_takesClause 31 = .ok (.iload_n 1, 1) := by decide +kernel
theorem dX8_takesClause_32 : decode cX8_takesClause 32 = .ok (.iaload, 1) := by decide +kernel
theorem dX8_takesClause_33 : decode cX8_takesClause 33 = .ok (.iconst 2, 1) := by decide +kernel
theorem dX8_takesClause_34 : decode cX8_takesClause 34 = .ok (.if_icmp .eq 20, 3) := by decide +kernel
theorem dX8_takesClause_37 : decode cX8_takesClause 37 = .ok (.aload_n 0, 1) := by decide +kernel
theorem dX8_takesClause_38 : decode cX8_takesClause 38 = .ok (.bipush 32, 2) := by decide +kernel
theorem dX8_takesClause_40 : decode cX8_takesClause 40 = .ok (.invokevirtual 274, 3) := by decide +kernel
theorem dX8_takesClause_43 : decode cX8_takesClause 43 = .ok (.ifCond .eq 15, 3) := by decide +kernel
theorem dX8_takesClause_46 : decode cX8_takesClause 46 = .ok (.aload_n 0, 1) := by decide +kernel
theorem dX8_takesClause_47 : decode cX8_takesClause 47 = .ok (.iload_n 1, 1) := by decide +kernel
theorem dX8_takesClause_48 : decode cX8_takesClause 48 = .ok (.invokevirtual 310, 3) := by decide +kernel
theorem dX8_takesClause_51 : decode cX8_takesClause 51 = .ok (.ifCond .eq 7, 3) := by decide +kernel
theorem dX8_takesClause_54 : decode cX8_takesClause 54 = .ok (.iconst 1, 1) := by decide +kernel
theorem dX8_takesClause_55 : decode cX8_takesClause 55 = .ok (.goto 4, 3) := by decide +kernel
theorem dX8_takesClause_58 : decode cX8_takesClause 58 = .ok (.iconst 0, 1) := by decide +kernel
theorem dX8_takesClause_59 : decode cX8_takesClause 59 = .ok (.ireturn, 1) := by decide +kernel
def f_X8_takesClause (p1 : Int32) (u : Mem) : Option (Int32 × Mem) := obind (f_X8_takesHead p1 u) (fun r1 u1 => (if r1 = 0 then some ((0 : Int32), u1) else obind (f_X8_takesNumber u1) (fun r3 u3 => (if r3 = 0 then some ((0 : Int32), u3) else gin p1 60 (gin p1 60 ((if (gA (sA u3 93 p1.toNatClampNeg (gI u3 82 16)) 92 p1.toNatClampNeg) = (2 : Int32) then some ((1 : Int32), sA u3 93 p1.toNatClampNeg (gI u3 82 16)) else obind (f_X8_takes (32 : Int32) (sA u3 93 p1.toNatClampNeg (gI u3 82 16))) (fun r8 u8 => (if r8 = 0 then some ((0 : Int32), u8) else obind (f_X8_takesE p1 u8) (fun r10 u10 => (if r10 = 0 then some ((0 : Int32), u10) else some ((1 : Int32), u10))))))))))))
set_option maxHeartbeats 4000000 in
set_option maxRecDepth 100000 in
theorem k_X8_takesClause (l : Launch) (D : gDt) (base : Nat) (Z : gZt) (u : Mem) (p1 : Int32) (r : Int32) (u' : Mem) (hf : f_X8_takesClause p1 u = some (r, u')) : Met l yX8_takesClause (gws yX8_takesClause cX8_takesClause 2 (some .boolean)) (gRm 6 0 0) (gPc D base Z u [.ref (base + 82), .int p1]) (gQi D base r u') 0 0 (gF base) := by
  refine Met.ofW (cc := cX8_takesClause) (maxL := 2) (ret := some .boolean) (by decide) rfl ?_
  intro p e s m args below meth c s₁ B hml hv
  obtain ⟨rfl, C0, hG⟩ := g_enter B hml hv
  have hr := B.returns
  have C0 : gC p s m meth c _ cX8_takesClause 2 RX8 D base Z := C0
  have hx := C0.1
  have hb := C0.2.1
  have hl := lv_entry ([.ref (base + 82), .int p1]) (n := 2) (Nat.le_of_ble_eq_true rfl)
  rw [lg_entry_eq]
  generalize (lg_sl ([.ref (base + 82), .int p1]) ++ List.replicate (2 - (lg_sl ([.ref (base + 82), .int p1])).length) Slot.unset).toArray = ls at hl ⊢
  have hl : lv_has ls 2 [(0, .ref (base + 82)), (1, .int p1)] := hl
  obtain ⟨Q, hQ⟩ : ∃ Q, Q = MQ below (gQi D base r u') ([.ref (base + 82), .int p1] : List Value).toArray s 0 0 (gF base) := ⟨_, rfl⟩
  rw [← hQ]
  change W p l e (gRm 6 0 0) s m _ below meth c _ _ _ _ _ _
  unfold f_X8_takesClause at hf
  refine lv_aload_n hx hb dX8_takesClause_0 rfl (lv_at hl 0 rfl) ?_
  refine lv_iload_n hx hb dX8_takesClause_1 rfl (lv_at hl 1 rfl) ?_
  obtain ⟨r1, u1, hc1, hf⟩ := obind_s hf
  refine g_doI0 hG (g_runV C0 hG (k_X8_takesHead l D base Z u p1 r1 u1 hc1) m_X8_takesHead v_X8_takesHead w_1146 (by decide) (g_recv C0 hG (L82 hG) rfl) rfl hl.1 rfl (Nat.le_of_ble_eq_true rfl) dX8_takesClause_2 ⟨Nat.zero_le _, Nat.zero_le _⟩) (fun H locs hG hk => ?_)
  refine lv_if_eq (tgt := 15) hx hb dX8_takesClause_5 (by decide) (fun c2 => ?_) (fun c2 => ?_)
  · have hf := gif_t c2 hf
    refine lv_iconst (v := (0 : Int32)) hx hb dX8_takesClause_15 (by decide) ?_
    obtain ⟨hr1, hu⟩ := gret_s hf
    subst hr1
    subst hu
    subst hQ
    exact g_zret C0 hG hr (by decide) dX8_takesClause_16
  · have hf := gif_f c2 hf
    refine lv_aload_n hx hb dX8_takesClause_8 rfl (lv_at hl 0 rfl) ?_
    obtain ⟨r3, u3, hc3, hf⟩ := obind_s hf
    refine g_doI0 hG (g_runV C0 hG (k_X8_takesNumber l D base Z u1 r3 u3 hc3) m_X8_takesNumber v_X8_takesNumber w_1166 (by decide) (g_recv C0 hG (L82 hG) rfl) rfl hl.1 rfl (Nat.le_of_ble_eq_true rfl) dX8_takesClause_9 ⟨Nat.zero_le _, Nat.zero_le _⟩) (fun H locs hG hk => ?_)
    refine lv_if_ne (tgt := 17) hx hb dX8_takesClause_12 (by decide) (fun c4 => ?_) (fun c4 => ?_)
    · have hf := gif_f c4 hf
      refine lv_aload_n hx hb dX8_takesClause_17 rfl (lv_at hl 0 rfl) ?_
      refine g_getSa (o := 11) (a := 93) C0 hG (L82 hG) rfl 20 (by decide) rfl rfl w_866 dX8_takesClause_18 ?_
      refine lv_iload_n hx hb dX8_takesClause_21 rfl (lv_at hl 1 rfl) ?_
      refine lv_aload_n hx hb dX8_takesClause_22 rfl (lv_at hl 0 rfl) ?_
      refine g_getI C0 hG (L82 hG) rfl 16 (by decide) rfl w_862 dX8_takesClause_23 ?_
      obtain ⟨h5, hf⟩ := gin_s hf
      refine g_iast C0 hG (L93 hG) h5 dX8_takesClause_26 (fun H locs hG => ?_)
      refine lv_aload_n hx hb dX8_takesClause_27 rfl (lv_at hl 0 rfl) ?_
      refine g_getSa (o := 10) (a := 92) C0 hG (L82 hG) rfl 19 (by decide) rfl rfl w_865 dX8_takesClause_28 ?_
      refine lv_iload_n hx hb dX8_takesClause_31 rfl (lv_at hl 1 rfl) ?_
      obtain ⟨h6, hf⟩ := gin_s hf
      refine g_iald C0 hG (L92 hG) h6 dX8_takesClause_32 ?_
      refine lv_iconst (v := (2 : Int32)) hx hb dX8_takesClause_33 (by decide) ?_
      refine lv_icmp_eq (tgt := 54) hx hb dX8_takesClause_34 (by decide) (fun c7 => ?_) (fun c7 => ?_)
      · have hf := gif_t c7 hf
        refine lv_iconst (v := (1 : Int32)) hx hb dX8_takesClause_54 (by decide) ?_
        refine lv_goto (tgt := 59) hx hb dX8_takesClause_55 (by decide) ?_
        obtain ⟨hr1, hu⟩ := gret_s hf
        subst hr1
        subst hu
        subst hQ
        exact g_zret C0 hG hr (by decide) dX8_takesClause_59
      · have hf := gif_f c7 hf
        refine lv_aload_n hx hb dX8_takesClause_37 rfl (lv_at hl 0 rfl) ?_
        refine lv_bipush (v := (32 : Int32)) hx hb dX8_takesClause_38 (by decide) ?_
        obtain ⟨r8, u8, hc8, hf⟩ := obind_s hf
        refine g_doI0 hG (g_runV C0 hG (k_X8_takes l D base Z (sA u3 93 p1.toNatClampNeg (gI u3 82 16)) (32 : Int32) r8 u8 hc8) m_X8_takes v_X8_takes w_1158 (by decide) (g_recv C0 hG (L82 hG) rfl) rfl hl.1 rfl (Nat.le_of_ble_eq_true rfl) dX8_takesClause_40 ⟨Nat.zero_le _, Nat.zero_le _⟩) (fun H locs hG hk => ?_)
        refine lv_if_eq (tgt := 58) hx hb dX8_takesClause_43 (by decide) (fun c9 => ?_) (fun c9 => ?_)
        · have hf := gif_t c9 hf
          refine lv_iconst (v := (0 : Int32)) hx hb dX8_takesClause_58 (by decide) ?_
          obtain ⟨hr1, hu⟩ := gret_s hf
          subst hr1
          subst hu
          subst hQ
          exact g_zret C0 hG hr (by decide) dX8_takesClause_59
        · have hf := gif_f c9 hf
          refine lv_aload_n hx hb dX8_takesClause_46 rfl (lv_at hl 0 rfl) ?_
          refine lv_iload_n hx hb dX8_takesClause_47 rfl (lv_at hl 1 rfl) ?_
          obtain ⟨r10, u10, hc10, hf⟩ := obind_s hf
          refine g_doI0 hG (g_runV C0 hG (k_X8_takesE l D base Z u8 p1 r10 u10 hc10) m_X8_takesE v_X8_takesE w_1174 (by decide) (g_recv C0 hG (L82 hG) rfl) rfl hl.1 rfl (Nat.le_of_ble_eq_true rfl) dX8_takesClause_48 ⟨Nat.zero_le _, Nat.zero_le _⟩) (fun H locs hG hk => ?_)
          refine lv_if_eq (tgt := 58) hx hb dX8_takesClause_51 (by decide) (fun c11 => ?_) (fun c11 => ?_)
          · have hf := gif_t c11 hf
            refine lv_iconst (v := (0 : Int32)) hx hb dX8_takesClause_58 (by decide) ?_
            obtain ⟨hr1, hu⟩ := gret_s hf
            subst hr1
            subst hu
            subst hQ
            exact g_zret C0 hG hr (by decide) dX8_takesClause_59
          · have hf := gif_f c11 hf
            refine lv_iconst (v := (1 : Int32)) hx hb dX8_takesClause_54 (by decide) ?_
            refine lv_goto (tgt := 59) hx hb dX8_takesClause_55 (by decide) ?_
            obtain ⟨hr1, hu⟩ := gret_s hf
            subst hr1
            subst hu
            subst hQ
            exact g_zret C0 hG hr (by decide) dX8_takesClause_59
    · have hf := gif_t c4 hf
      refine lv_iconst (v := (0 : Int32)) hx hb dX8_takesClause_15 (by decide) ?_
      obtain ⟨hr1, hu⟩ := gret_s hf
      subst hr1
      subst hu
      subst hQ
      exact g_zret C0 hG hr (by decide) dX8_takesClause_16
theorem dX8_goesText_0 : decode cX8_goesText 0 = .ok (.aload_n 0, 1) := by decide +kernel
theorem dX8_goesText_1 : decode cX8_goesText 1 = .ok (.iconst 0, 1) := by decide +kernel
theorem dX8_goesText_2 : decode cX8_goesText 2 = .ok (.putfield 56, 3) := by decide +kernel
theorem dX8_goesText_5 : decode cX8_goesText 5 = .ok (.aload_n 0, 1) := by decide +kernel
theorem dX8_goesText_6 : decode cX8_goesText 6 = .ok (.bipush 100, 2) := by decide +kernel
theorem dX8_goesText_8 : decode cX8_goesText 8 = .ok (.iload_n 1, 1) := by decide +kernel
theorem dX8_goesText_9 : decode cX8_goesText 9 = .ok (.imul, 1) := by decide +kernel
theorem dX8_goesText_10 : decode cX8_goesText 10 = .ok (.putfield 86, 3) := by decide +kernel
theorem dX8_goesText_13 : decode cX8_goesText 13 = .ok (.iconst 0, 1) := by decide +kernel
theorem dX8_goesText_14 : decode cX8_goesText 14 = .ok (.istore_n 2, 1) := by decide +kernel
theorem dX8_goesText_15 : decode cX8_goesText 15 = .ok (.aload_n 0, 1) := by decide +kernel
theorem dX8_goesText_16 : decode cX8_goesText 16 = .ok (.bipush 10, 2) := by decide +kernel
theorem dX8_goesText_18 : decode cX8_goesText 18 = .ok (.iload_n 1, 1) := by decide +kernel
theorem dX8_goesText_19 : decode cX8_goesText 19 = .ok (.imul, 1) := by decide +kernel
theorem dX8_goesText_20 : decode cX8_goesText 20 = .ok (.iload_n 2, 1) := by decide +kernel
theorem dX8_goesText_21 : decode cX8_goesText 21 = .ok (.iadd, 1) := by decide +kernel
theorem dX8_goesText_22 : decode cX8_goesText 22 = .ok (.invokevirtual 313, 3) := by decide +kernel
theorem dX8_goesText_25 : decode cX8_goesText 25 = .ok (.ifCond .ne 5, 3) := by decide +kernel
theorem dX8_goesText_28 : decode cX8_goesText 28 = .ok (.iconst 0, 1) := by decide +kernel
theorem dX8_goesText_29 : decode cX8_goesText 29 = .ok (.ireturn, 1) := by decide +kernel
theorem dX8_goesText_30 : decode cX8_goesText 30 = .ok (.iinc 2 1, 3) := by decide +kernel
theorem dX8_goesText_33 : decode cX8_goesText 33 = .ok (.aload_n 0, 1) := by decide +kernel
theorem dX8_goesText_34 : decode cX8_goesText 34 = .ok (.getfield 65, 3) := by decide +kernel
theorem dX8_goesText_37 : decode cX8_goesText 37 = .ok (.iload_n 1, 1) := by decide +kernel
theorem dX8_goesText_38 : decode cX8_goesText 38 = .ok (.iload_n 2, 1) := by decide +kernel
theorem dX8_goesText_39 : decode cX8_goesText 39 = .ok (.iastore, 1) := by decide +kernel
theorem dX8_goesText_40 : decode cX8_goesText 40 = .ok (.aload_n 0, 1) := by decide +kernel
theorem dX8_goesText_41 : decode cX8_goesText 41 = .ok (.getfield 56, 3) := by decide +kernel
theorem dX8_goesText_44 : decode cX8_goesText 44 = .ok (.aload_n 0, 1) := by decide +kernel
theorem dX8_goesText_45 : decode cX8_goesText 45 = .ok (.getfield 53, 3) := by decide +kernel
theorem dX8_goesText_48 : decode cX8_goesText 48 = .ok (.if_icmp .ne 5, 3) := by decide +kernel
theorem dX8_goesText_51 : decode cX8_goesText 51 = .ok (.iconst 1, 1) := by decide +kernel
theorem dX8_goesText_52 : decode cX8_goesText 52 = .ok (.ireturn, 1) := by decide +kernel
theorem dX8_goesText_53 : decode cX8_goesText 53 = .ok (.iload_n 2, 1) := by decide +kernel
theorem dX8_goesText_54 : decode cX8_goesText 54 = .ok (.bipush 10, 2) := by decide +kernel
theorem dX8_goesText_56 : decode cX8_goesText 56 = .ok (.if_icmp .eq 12, 3) := by decide +kernel
theorem dX8_goesText_59 : decode cX8_goesText 59 = .ok (.aload_n 0, 1) := by decide +kernel
theorem dX8_goesText_60 : decode cX8_goesText 60 = .ok (.bipush 59, 2) := by decide +kernel
theorem dX8_goesText_62 : decode cX8_goesText 62 = .ok (.invokevirtual 274, 3) := by decide +kernel
theorem dX8_goesText_65 : decode cX8_goesText 65 = .ok (.ifCond .ne (-50), 3) := by decide +kernel
theorem dX8_goesText_68 : decode cX8_goesText 68 = .ok (.iconst 0, 1) := by decide +kernel
theorem dX8_goesText_69 : decode cX8_goesText 69 = .ok (.ireturn, 1) := by decide +kernel
def f_X8_goesText_L15 (p1 : Int32) (x2_1 : Int32) (u1 : Mem) : Option ((Int32 × Mem) ⊕ (Int32 × Mem)) := obind (f_X8_takesClause (((10 : Int32) * p1) + x2_1) u1) (fun r2 u2 => (if r2 = 0 then some (Sum.inr ((0 : Int32), u2)) else gin p1 6 ((if (gI (sA u2 91 p1.toNatClampNeg (x2_1 + (1 : Int32))) 82 15) = (gI (sA u2 91 p1.toNatClampNeg (x2_1 + (1 : Int32))) 82 14) then some (Sum.inr ((1 : Int32), sA u2 91 p1.toNatClampNeg (x2_1 + (1 : Int32)))) else (if (x2_1 + (1 : Int32)) = (10 : Int32) then some (Sum.inr ((0 : Int32), sA u2 91 p1.toNatClampNeg (x2_1 + (1 : Int32)))) else obind (f_X8_takes (59 : Int32) (sA u2 91 p1.toNatClampNeg (x2_1 + (1 : Int32)))) (fun r7 u7 => (if r7 = 0 then some (Sum.inr ((0 : Int32), u7)) else some (Sum.inl (x2_1 + (1 : Int32), u7)))))))))
def f_X8_goesText (p1 : Int32) (u : Mem) : Option (Int32 × Mem) := whileO (fun s => f_X8_goesText_L15 p1 s.1 s.2) FUEL ((0 : Int32), sI (sI u 82 15 (0 : Int32)) 82 25 ((100 : Int32) * p1))
set_option maxHeartbeats 4000000 in
set_option maxRecDepth 100000 in
theorem k_X8_goesText (l : Launch) (D : gDt) (base : Nat) (Z : gZt) (u : Mem) (p1 : Int32) (r : Int32) (u' : Mem) (hf : f_X8_goesText p1 u = some (r, u')) : Met l yX8_goesText (gws yX8_goesText cX8_goesText 3 (some .boolean)) (gRm 7 0 0) (gPc D base Z u [.ref (base + 82), .int p1]) (gQi D base r u') 0 0 (gF base) := by
  refine Met.ofW (cc := cX8_goesText) (maxL := 3) (ret := some .boolean) (by decide) rfl ?_
  intro p e s m args below meth c s₁ B hml hv
  obtain ⟨rfl, C0, hG⟩ := g_enter B hml hv
  have hr := B.returns
  have C0 : gC p s m meth c _ cX8_goesText 3 RX8 D base Z := C0
  have hx := C0.1
  have hb := C0.2.1
  have hl := lv_entry ([.ref (base + 82), .int p1]) (n := 3) (Nat.le_of_ble_eq_true rfl)
  rw [lg_entry_eq]
  generalize (lg_sl ([.ref (base + 82), .int p1]) ++ List.replicate (3 - (lg_sl ([.ref (base + 82), .int p1])).length) Slot.unset).toArray = ls at hl ⊢
  have hl : lv_has ls 3 [(0, .ref (base + 82)), (1, .int p1)] := hl
  obtain ⟨Q, hQ⟩ : ∃ Q, Q = MQ below (gQi D base r u') ([.ref (base + 82), .int p1] : List Value).toArray s 0 0 (gF base) := ⟨_, rfl⟩
  rw [← hQ]
  change W p l e (gRm 7 0 0) s m _ below meth c _ _ _ _ _ _
  unfold f_X8_goesText at hf
  refine lv_aload_n hx hb dX8_goesText_0 rfl (lv_at hl 0 rfl) ?_
  refine lv_iconst (v := (0 : Int32)) hx hb dX8_goesText_1 (by decide) ?_
  refine g_putI (ty := .int) C0 hG (L82 hG) rfl 15 (by decide) rfl w_861 rfl (by decide) rfl rfl dX8_goesText_2 (fun H locs hG => ?_)
  refine lv_aload_n hx hb dX8_goesText_5 rfl (lv_at hl 0 rfl) ?_
  refine lv_bipush (v := (100 : Int32)) hx hb dX8_goesText_6 (by decide) ?_
  refine lv_iload_n hx hb dX8_goesText_8 rfl (lv_at hl 1 rfl) ?_
  refine lv_imul hx hb dX8_goesText_9 ?_
  refine g_putI (ty := .int) C0 hG (L82 hG) rfl 25 (by decide) rfl w_871 rfl (by decide) rfl rfl dX8_goesText_10 (fun H locs hG => ?_)
  refine lv_iconst (v := (0 : Int32)) hx hb dX8_goesText_13 (by decide) ?_
  refine lv_istore_n (lv' := [(2, .int (0 : Int32)), (0, .ref (base + 82)), (1, .int p1)]) hx hb dX8_goesText_14 rfl hl (by decide) rfl (fun ls hl => ?_)
  have loop1 : ∀ (n1 : Nat) (x2_1 : Int32) (u1 : Mem) (H : Heap) (locs : List Loc) (ls : Array Slot), gH D base s u1 H locs → lv_has ls 3 [(0, .ref (base + 82)), (1, .int p1), (2, .int x2_1)] → whileO (fun s => f_X8_goesText_L15 p1 s.1 s.2) n1 (x2_1, u1) = some (r, u') → W p l e (gRm 7 0 0) s m ([.ref (base + 82), .int p1] : List Value).toArray below meth c H locs 0 0 Q (F0 m 15 ls []) := by
    intro n1
    induction n1 with
    | zero => intro x2_1 u1 H locs ls hG hl hf; cases hf
    | succ n1 ih1 =>
      intro x2_1 u1 H locs ls hG hl hf
      obtain ⟨X1, hf, hX1⟩ := while_s hf
      have hf : f_X8_goesText_L15 p1 x2_1 u1 = some X1 := hf
      unfold f_X8_goesText_L15 at hf
      refine lv_aload_n hx hb dX8_goesText_15 rfl (lv_at hl 0 rfl) ?_
      refine lv_bipush (v := (10 : Int32)) hx hb dX8_goesText_16 (by decide) ?_
      refine lv_iload_n hx hb dX8_goesText_18 rfl (lv_at hl 1 rfl) ?_
      refine lv_imul hx hb dX8_goesText_19 ?_
      refine lv_iload_n hx hb dX8_goesText_20 rfl (lv_at hl 2 rfl) ?_
      refine lv_iadd hx hb dX8_goesText_21 ?_
      obtain ⟨r2, u2, hc2, hf⟩ := obind_s hf
      refine g_doI0 hG (g_runV C0 hG (k_X8_takesClause l D base Z u1 (((10 : Int32) * p1) + x2_1) r2 u2 hc2) m_X8_takesClause v_X8_takesClause w_1142 (by decide) (g_recv C0 hG (L82 hG) rfl) rfl hl.1 rfl (Nat.le_of_ble_eq_true rfl) dX8_goesText_22 ⟨Nat.zero_le _, Nat.zero_le _⟩) (fun H locs hG hk => ?_)
      refine lv_if_ne (tgt := 30) hx hb dX8_goesText_25 (by decide) (fun c3 => ?_) (fun c3 => ?_)
      · have hf := gif_f c3 hf
        refine lv_iinc (v := x2_1 + (1 : Int32)) (lv' := [(2, .int (x2_1 + (1 : Int32))), (0, .ref (base + 82)), (1, .int p1)]) hx hb dX8_goesText_30 hl (k := 2) rfl rfl (by decide) rfl (fun ls hl => ?_)
        refine lv_aload_n hx hb dX8_goesText_33 rfl (lv_at hl 1 rfl) ?_
        refine g_getSa (o := 9) (a := 91) C0 hG (L82 hG) rfl 18 (by decide) rfl rfl w_864 dX8_goesText_34 ?_
        refine lv_iload_n hx hb dX8_goesText_37 rfl (lv_at hl 2 rfl) ?_
        refine lv_iload_n hx hb dX8_goesText_38 rfl (lv_at hl 0 rfl) ?_
        obtain ⟨h4, hf⟩ := gin_s hf
        refine g_iast C0 hG (L91 hG) h4 dX8_goesText_39 (fun H locs hG => ?_)
        refine lv_aload_n hx hb dX8_goesText_40 rfl (lv_at hl 1 rfl) ?_
        refine g_getI C0 hG (L82 hG) rfl 15 (by decide) rfl w_861 dX8_goesText_41 ?_
        refine lv_aload_n hx hb dX8_goesText_44 rfl (lv_at hl 1 rfl) ?_
        refine g_getI C0 hG (L82 hG) rfl 14 (by decide) rfl w_860 dX8_goesText_45 ?_
        refine lv_icmp_ne (tgt := 53) hx hb dX8_goesText_48 (by decide) (fun c5 => ?_) (fun c5 => ?_)
        · have hf := gif_f c5 hf
          refine lv_iload_n hx hb dX8_goesText_53 rfl (lv_at hl 0 rfl) ?_
          refine lv_bipush (v := (10 : Int32)) hx hb dX8_goesText_54 (by decide) ?_
          refine lv_icmp_eq (tgt := 68) hx hb dX8_goesText_56 (by decide) (fun c6 => ?_) (fun c6 => ?_)
          · have hf := gif_t c6 hf
            refine lv_iconst (v := (0 : Int32)) hx hb dX8_goesText_68 (by decide) ?_
            have hf := while_r hX1 hf
            obtain ⟨hr1, hu⟩ := gret_s hf
            subst hr1
            subst hu
            subst hQ
            exact g_zret C0 hG hr (by decide) dX8_goesText_69
          · have hf := gif_f c6 hf
            refine lv_aload_n hx hb dX8_goesText_59 rfl (lv_at hl 1 rfl) ?_
            refine lv_bipush (v := (59 : Int32)) hx hb dX8_goesText_60 (by decide) ?_
            obtain ⟨r7, u7, hc7, hf⟩ := obind_s hf
            refine g_doI0 hG (g_runV C0 hG (k_X8_takes l D base Z (sA u2 91 p1.toNatClampNeg (x2_1 + (1 : Int32))) (59 : Int32) r7 u7 hc7) m_X8_takes v_X8_takes w_1158 (by decide) (g_recv C0 hG (L82 hG) rfl) rfl hl.1 rfl (Nat.le_of_ble_eq_true rfl) dX8_goesText_62 ⟨Nat.zero_le _, Nat.zero_le _⟩) (fun H locs hG hk => ?_)
            refine lv_if_ne (tgt := 15) hx hb dX8_goesText_65 (by decide) (fun c8 => ?_) (fun c8 => ?_)
            · have hf := gif_f c8 hf
              have hf := while_l hX1 hf
              exact ih1 (x2_1 + (1 : Int32)) u7 _ _ ls hG (lv_sub hl [1, 2, 0] rfl) hf
            · have hf := gif_t c8 hf
              refine lv_iconst (v := (0 : Int32)) hx hb dX8_goesText_68 (by decide) ?_
              have hf := while_r hX1 hf
              obtain ⟨hr1, hu⟩ := gret_s hf
              subst hr1
              subst hu
              subst hQ
              exact g_zret C0 hG hr (by decide) dX8_goesText_69
        · have hf := gif_t c5 hf
          refine lv_iconst (v := (1 : Int32)) hx hb dX8_goesText_51 (by decide) ?_
          have hf := while_r hX1 hf
          obtain ⟨hr1, hu⟩ := gret_s hf
          subst hr1
          subst hu
          subst hQ
          exact g_zret C0 hG hr (by decide) dX8_goesText_52
      · have hf := gif_t c3 hf
        refine lv_iconst (v := (0 : Int32)) hx hb dX8_goesText_28 (by decide) ?_
        have hf := while_r hX1 hf
        obtain ⟨hr1, hu⟩ := gret_s hf
        subst hr1
        subst hu
        subst hQ
        exact g_zret C0 hG hr (by decide) dX8_goesText_29
  exact loop1 FUEL (0 : Int32) (sI (sI u 82 15 (0 : Int32)) 82 25 ((100 : Int32) * p1)) _ _ ls hG (lv_sub hl [1, 2, 0] rfl) hf
theorem dX8_branch_0 : decode cX8_branch 0 = .ok (.aload_n 0, 1) := by decide +kernel
theorem dX8_branch_1 : decode cX8_branch 1 = .ok (.getfield 47, 3) := by decide +kernel
theorem dX8_branch_4 : decode cX8_branch 4 = .ok (.bipush 6, 2) := by decide +kernel
theorem dX8_branch_6 : decode cX8_branch 6 = .ok (.if_icmp .ne 6, 3) := by decide +kernel
theorem dX8_branch_9 : decode cX8_branch 9 = .ok (.bipush (-4), 2) := by decide +kernel
theorem dX8_branch_11 : decode cX8_branch 11 = .ok (.ireturn, 1) := by decide +kernel
theorem dX8_branch_12 : decode cX8_branch 12 = .ok (.aload_n 0, 1) := by decide +kernel
theorem dX8_branch_13 : decode cX8_branch 13 = .ok (.aload_n 0, 1) := by decide +kernel
theorem dX8_branch_14 : decode cX8_branch 14 = .ok (.getfield 47, 3) := by decide +kernel
theorem dX8_branch_17 : decode cX8_branch 17 = .ok (.invokevirtual 316, 3) := by decide +kernel
theorem dX8_branch_20 : decode cX8_branch 20 = .ok (.istore_n 1, 1) := by decide +kernel
theorem dX8_branch_21 : decode cX8_branch 21 = .ok (.aload_n 0, 1) := by decide +kernel
theorem dX8_branch_22 : decode cX8_branch 22 = .ok (.iconst 0, 1) := by decide +kernel
theorem dX8_branch_23 : decode cX8_branch 23 = .ok (.putfield 53, 3) := by decide +kernel
theorem dX8_branch_26 : decode cX8_branch 26 = .ok (.iload_n 1, 1) := by decide +kernel
theorem dX8_branch_27 : decode cX8_branch 27 = .ok (.ifCond .ne 11, 3) := by decide +kernel
theorem dX8_branch_30 : decode cX8_branch 30 = .ok (.bipush (-10), 2) := by decide +kernel
theorem dX8_branch_32 : decode cX8_branch 32 = .ok (.aload_n 0, 1) := by decide +kernel
theorem dX8_branch_33 : decode cX8_branch 33 = .ok (.getfield 56, 3) := by decide +kernel
theorem dX8_branch_36 : decode cX8_branch 36 = .ok (.isub, 1) := by decide +kernel
theorem dX8_branch_37 : decode cX8_branch 37 = .ok (.ireturn, 1) := by decide +kernel
theorem dX8_branch_38 : decode cX8_branch 38 = .ok (.aload_n 0, 1) := by decide +kernel
theorem dX8_branch_39 : decode cX8_branch 39 = .ok (.aload_n 0, 1) := by decide +kernel
theorem dX8_branch_40 : decode cX8_branch 40 = .ok (.getfield 47, 3) := by decide +kernel
theorem dX8_branch_43 : decode cX8_branch 43 = .ok (.putfield 50, 3) := by decide +kernel
theorem dX8_branch_46 : decode cX8_branch 46 = .ok (.aload_n 0, 1) := by decide +kernel
theorem dX8_branch_47 : decode cX8_branch 47 = .ok (.dup, 1) := by decide +kernel
theorem dX8_branch_48 : decode cX8_branch 48 = .ok (.getfield 47, 3) := by decide +kernel
theorem dX8_branch_51 : decode cX8_branch 51 = .ok (.iconst 1, 1) := by decide +kernel
theorem dX8_branch_52 : decode cX8_branch 52 = .ok (.iadd, 1) := by decide +kernel
theorem dX8_branch_53 : decode cX8_branch 53 = .ok (.putfield 47, 3) := by decide +kernel
theorem dX8_branch_56 : decode cX8_branch 56 = .ok (.aload_n 0, 1) := by decide +kernel
theorem dX8_branch_57 : decode cX8_branch 57 = .ok (.getfield 50, 3) := by decide +kernel
theorem dX8_branch_60 : decode cX8_branch 60 = .ok (.ireturn, 1) := by decide +kernel
def f_X8_branch (u : Mem) : Option (Int32 × Mem) := (if (gI u 82 12) = (6 : Int32) then some ((-4 : Int32), u) else obind (f_X8_goesText (gI u 82 12) u) (fun r2 u2 => (if r2 = 0 then some ((-10 : Int32) - (gI (sI u2 82 14 (0 : Int32)) 82 15), sI u2 82 14 (0 : Int32)) else some (gI (sI (sI (sI u2 82 14 (0 : Int32)) 82 13 (gI (sI u2 82 14 (0 : Int32)) 82 12)) 82 12 ((gI (sI (sI u2 82 14 (0 : Int32)) 82 13 (gI (sI u2 82 14 (0 : Int32)) 82 12)) 82 12) + (1 : Int32))) 82 13, sI (sI (sI u2 82 14 (0 : Int32)) 82 13 (gI (sI u2 82 14 (0 : Int32)) 82 12)) 82 12 ((gI (sI (sI u2 82 14 (0 : Int32)) 82 13 (gI (sI u2 82 14 (0 : Int32)) 82 12)) 82 12) + (1 : Int32))))))
set_option maxHeartbeats 4000000 in
set_option maxRecDepth 100000 in
theorem k_X8_branch (l : Launch) (D : gDt) (base : Nat) (Z : gZt) (u : Mem) (r : Int32) (u' : Mem) (hf : f_X8_branch u = some (r, u')) : Met l yX8_branch (gws yX8_branch cX8_branch 2 (some .int)) (gRm 8 0 0) (gPc D base Z u [.ref (base + 82)]) (gQi D base r u') 0 0 (gF base) := by
  refine Met.ofW (cc := cX8_branch) (maxL := 2) (ret := some .int) (by decide) rfl ?_
  intro p e s m args below meth c s₁ B hml hv
  obtain ⟨rfl, C0, hG⟩ := g_enter B hml hv
  have hr := B.returns
  have C0 : gC p s m meth c _ cX8_branch 2 RX8 D base Z := C0
  have hx := C0.1
  have hb := C0.2.1
  have hl := lv_entry ([.ref (base + 82)]) (n := 2) (Nat.le_of_ble_eq_true rfl)
  rw [lg_entry_eq]
  generalize (lg_sl ([.ref (base + 82)]) ++ List.replicate (2 - (lg_sl ([.ref (base + 82)])).length) Slot.unset).toArray = ls at hl ⊢
  have hl : lv_has ls 2 [(0, .ref (base + 82))] := hl
  obtain ⟨Q, hQ⟩ : ∃ Q, Q = MQ below (gQi D base r u') ([.ref (base + 82)] : List Value).toArray s 0 0 (gF base) := ⟨_, rfl⟩
  rw [← hQ]
  change W p l e (gRm 8 0 0) s m _ below meth c _ _ _ _ _ _
  unfold f_X8_branch at hf
  refine lv_aload_n hx hb dX8_branch_0 rfl (lv_at hl 0 rfl) ?_
  refine g_getI C0 hG (L82 hG) rfl 12 (by decide) rfl w_858 dX8_branch_1 ?_
  refine lv_bipush (v := (6 : Int32)) hx hb dX8_branch_4 (by decide) ?_
  refine lv_icmp_ne (tgt := 12) hx hb dX8_branch_6 (by decide) (fun c1 => ?_) (fun c1 => ?_)
  · have hf := gif_f c1 hf
    refine lv_aload_n hx hb dX8_branch_12 rfl (lv_at hl 0 rfl) ?_
    refine lv_aload_n hx hb dX8_branch_13 rfl (lv_at hl 0 rfl) ?_
    refine g_getI C0 hG (L82 hG) rfl 12 (by decide) rfl w_858 dX8_branch_14 ?_
    obtain ⟨r2, u2, hc2, hf⟩ := obind_s hf
    refine g_doI0 hG (g_runV C0 hG (k_X8_goesText l D base Z u (gI u 82 12) r2 u2 hc2) m_X8_goesText v_X8_goesText w_1138 (by decide) (g_recv C0 hG (L82 hG) rfl) rfl hl.1 rfl (Nat.le_of_ble_eq_true rfl) dX8_branch_17 ⟨Nat.zero_le _, Nat.zero_le _⟩) (fun H locs hG hk => ?_)
    refine lv_istore_n (lv' := [(1, .int r2), (0, .ref (base + 82))]) hx hb dX8_branch_20 rfl hl (by decide) rfl (fun ls hl => ?_)
    refine lv_aload_n hx hb dX8_branch_21 rfl (lv_at hl 1 rfl) ?_
    refine lv_iconst (v := (0 : Int32)) hx hb dX8_branch_22 (by decide) ?_
    refine g_putI (ty := .int) C0 hG (L82 hG) rfl 14 (by decide) rfl w_860 rfl (by decide) rfl rfl dX8_branch_23 (fun H locs hG => ?_)
    refine lv_iload_n hx hb dX8_branch_26 rfl (lv_at hl 0 rfl) ?_
    refine lv_if_ne (tgt := 38) hx hb dX8_branch_27 (by decide) (fun c3 => ?_) (fun c3 => ?_)
    · have hf := gif_f c3 hf
      refine lv_aload_n hx hb dX8_branch_38 rfl (lv_at hl 1 rfl) ?_
      refine lv_aload_n hx hb dX8_branch_39 rfl (lv_at hl 1 rfl) ?_
      refine g_getI C0 hG (L82 hG) rfl 12 (by decide) rfl w_858 dX8_branch_40 ?_
      refine g_putI (ty := .int) C0 hG (L82 hG) rfl 13 (by decide) rfl w_859 rfl (by decide) rfl rfl dX8_branch_43 (fun H locs hG => ?_)
      refine lv_aload_n hx hb dX8_branch_46 rfl (lv_at hl 1 rfl) ?_
      refine lv_dup hx hb dX8_branch_47 rfl ?_
      refine g_getI C0 hG (L82 hG) rfl 12 (by decide) rfl w_858 dX8_branch_48 ?_
      refine lv_iconst (v := (1 : Int32)) hx hb dX8_branch_51 (by decide) ?_
      refine lv_iadd hx hb dX8_branch_52 ?_
      refine g_putI (ty := .int) C0 hG (L82 hG) rfl 12 (by decide) rfl w_858 rfl (by decide) rfl rfl dX8_branch_53 (fun H locs hG => ?_)
      refine lv_aload_n hx hb dX8_branch_56 rfl (lv_at hl 1 rfl) ?_
      refine g_getI C0 hG (L82 hG) rfl 13 (by decide) rfl w_859 dX8_branch_57 ?_
      obtain ⟨hr1, hu⟩ := gret_s hf
      subst hr1
      subst hu
      subst hQ
      exact g_iret C0 hG hr dX8_branch_60
    · have hf := gif_t c3 hf
      refine lv_bipush (v := (-10 : Int32)) hx hb dX8_branch_30 (by decide) ?_
      refine lv_aload_n hx hb dX8_branch_32 rfl (lv_at hl 1 rfl) ?_
      refine g_getI C0 hG (L82 hG) rfl 15 (by decide) rfl w_861 dX8_branch_33 ?_
      refine lv_isub hx hb dX8_branch_36 ?_
      obtain ⟨hr1, hu⟩ := gret_s hf
      subst hr1
      subst hu
      subst hQ
      exact g_iret C0 hG hr dX8_branch_37
  · have hf := gif_t c1 hf
    refine lv_bipush (v := (-4 : Int32)) hx hb dX8_branch_9 (by decide) ?_
    obtain ⟨hr1, hu⟩ := gret_s hf
    subst hr1
    subst hu
    subst hQ
    exact g_iret C0 hG hr dX8_branch_11
theorem dX8_begin_0 : decode cX8_begin 0 = .ok (.aload_n 0, 1) := by decide +kernel
theorem dX8_begin_1 : decode cX8_begin 1 = .ok (.getfield 50, 3) := by decide +kernel
theorem dX8_begin_4 : decode cX8_begin 4 = .ok (.ifCond .ge 7, 3) := by decide +kernel
theorem dX8_begin_7 : decode cX8_begin 7 = .ok (.iconst 0, 1) := by decide +kernel
theorem dX8_begin_8 : decode cX8_begin 8 = .ok (.goto 10, 3) := by decide +kernel
theorem dX8_begin_11 : decode cX8_begin 11 = .ok (.bipush 10, 2) := by decide +kernel
theorem dX8_begin_13 : decode cX8_begin 13 = .ok (.aload_n 0, 1) := by decide +kernel
theorem dX8_begin_14 : decode cX8_begin 14 = .ok (.getfield 50, 3) := by decide +kernel
theorem dX8_begin_17 : decode cX8_begin 17 = .ok (.imul, 1) := by decide +kernel
theorem dX8_begin_18 : decode cX8_begin 18 = .ok (.ireturn, 1) := by decide +kernel
def f_X8_begin (u : Mem) : Option (Int32) := (if 0 ≤ (gI u 82 13) then some ((10 : Int32) * (gI u 82 13)) else some (0 : Int32))
set_option maxHeartbeats 4000000 in
set_option maxRecDepth 100000 in
theorem k_X8_begin (l : Launch) (D : gDt) (base : Nat) (Z : gZt) (u : Mem) (r : Int32) (hf : f_X8_begin u = some r) : Met l yX8_begin (gws yX8_begin cX8_begin 1 (some .int)) (gRm 1 0 0) (gPc D base Z u [.ref (base + 82)]) (gQi D base r u) 0 0 (gF base) := by
  refine Met.ofW (cc := cX8_begin) (maxL := 1) (ret := some .int) (by decide) rfl ?_
  intro p e s m args below meth c s₁ B hml hv
  obtain ⟨rfl, C0, hG⟩ := g_enter B hml hv
  have hr := B.returns
  have C0 : gC p s m meth c _ cX8_begin 1 RX8 D base Z := C0
  have hx := C0.1
  have hb := C0.2.1
  have hl := lv_entry ([.ref (base + 82)]) (n := 1) (Nat.le_of_ble_eq_true rfl)
  rw [lg_entry_eq]
  generalize (lg_sl ([.ref (base + 82)]) ++ List.replicate (1 - (lg_sl ([.ref (base + 82)])).length) Slot.unset).toArray = ls at hl ⊢
  have hl : lv_has ls 1 [(0, .ref (base + 82))] := hl
  obtain ⟨Q, hQ⟩ : ∃ Q, Q = MQ below (gQi D base r u) ([.ref (base + 82)] : List Value).toArray s 0 0 (gF base) := ⟨_, rfl⟩
  rw [← hQ]
  change W p l e (gRm 1 0 0) s m _ below meth c _ _ _ _ _ _
  unfold f_X8_begin at hf
  refine lv_aload_n hx hb dX8_begin_0 rfl (lv_at hl 0 rfl) ?_
  refine g_getI C0 hG (L82 hG) rfl 13 (by decide) rfl w_859 dX8_begin_1 ?_
  refine lv_if_ge (tgt := 11) hx hb dX8_begin_4 (by decide) (fun c1 => ?_) (fun c1 => ?_)
  · have hf := gif_t c1 hf
    refine lv_bipush (v := (10 : Int32)) hx hb dX8_begin_11 (by decide) ?_
    refine lv_aload_n hx hb dX8_begin_13 rfl (lv_at hl 0 rfl) ?_
    refine g_getI C0 hG (L82 hG) rfl 13 (by decide) rfl w_859 dX8_begin_14 ?_
    refine lv_imul hx hb dX8_begin_17 ?_
    have hf := Option.some.inj hf
    subst hf
    subst hQ
    exact g_iret C0 hG hr dX8_begin_18
  · have hf := gif_f c1 hf
    refine lv_iconst (v := (0 : Int32)) hx hb dX8_begin_7 (by decide) ?_
    refine lv_goto (tgt := 18) hx hb dX8_begin_8 (by decide) ?_
    have hf := Option.some.inj hf
    subst hf
    subst hQ
    exact g_iret C0 hG hr dX8_begin_18
theorem dX8_behind_0 : decode cX8_behind 0 = .ok (.aload_n 0, 1) := by decide +kernel
theorem dX8_behind_1 : decode cX8_behind 1 = .ok (.getfield 50, 3) := by decide +kernel
theorem dX8_behind_4 : decode cX8_behind 4 = .ok (.ifCond .ge 7, 3) := by decide +kernel
theorem dX8_behind_7 : decode cX8_behind 7 = .ok (.iconst 0, 1) := by decide +kernel
theorem dX8_behind_8 : decode cX8_behind 8 = .ok (.goto 20, 3) := by decide +kernel
theorem dX8_behind_11 : decode cX8_behind 11 = .ok (.bipush 10, 2) := by decide +kernel
theorem dX8_behind_13 : decode cX8_behind 13 = .ok (.aload_n 0, 1) := by decide +kernel
theorem dX8_behind_14 : decode cX8_behind 14 = .ok (.getfield 50, 3) := by decide +kernel
theorem dX8_behind_17 : decode cX8_behind 17 = .ok (.imul, 1) := by decide +kernel
theorem dX8_behind_18 : decode cX8_behind 18 = .ok (.aload_n 0, 1) := by decide +kernel
theorem dX8_behind_19 : decode cX8_behind 19 = .ok (.getfield 65, 3) := by decide +kernel
theorem dX8_behind_22 : decode cX8_behind 22 = .ok (.aload_n 0, 1) := by decide +kernel
theorem dX8_behind_23 : decode cX8_behind 23 = .ok (.getfield 50, 3) := by decide +kernel
theorem dX8_behind_26 : decode cX8_behind 26 = .ok (.iaload, 1) := by decide +kernel
theorem dX8_behind_27 : decode cX8_behind 27 = .ok (.iadd, 1) := by decide +kernel
theorem dX8_behind_28 : decode cX8_behind 28 = .ok (.ireturn, 1) := by decide +kernel
def f_X8_behind (u : Mem) : Option (Int32) := (if 0 ≤ (gI u 82 13) then gin (gI u 82 13) 6 (some (((10 : Int32) * (gI u 82 13)) + (gA u 91 (gI u 82 13).toNatClampNeg))) else some (0 : Int32))
set_option maxHeartbeats 4000000 in
set_option maxRecDepth 100000 in
theorem k_X8_behind (l : Launch) (D : gDt) (base : Nat) (Z : gZt) (u : Mem) (r : Int32) (hf : f_X8_behind u = some r) : Met l yX8_behind (gws yX8_behind cX8_behind 1 (some .int)) (gRm 1 0 0) (gPc D base Z u [.ref (base + 82)]) (gQi D base r u) 0 0 (gF base) := by
  refine Met.ofW (cc := cX8_behind) (maxL := 1) (ret := some .int) (by decide) rfl ?_
  intro p e s m args below meth c s₁ B hml hv
  obtain ⟨rfl, C0, hG⟩ := g_enter B hml hv
  have hr := B.returns
  have C0 : gC p s m meth c _ cX8_behind 1 RX8 D base Z := C0
  have hx := C0.1
  have hb := C0.2.1
  have hl := lv_entry ([.ref (base + 82)]) (n := 1) (Nat.le_of_ble_eq_true rfl)
  rw [lg_entry_eq]
  generalize (lg_sl ([.ref (base + 82)]) ++ List.replicate (1 - (lg_sl ([.ref (base + 82)])).length) Slot.unset).toArray = ls at hl ⊢
  have hl : lv_has ls 1 [(0, .ref (base + 82))] := hl
  obtain ⟨Q, hQ⟩ : ∃ Q, Q = MQ below (gQi D base r u) ([.ref (base + 82)] : List Value).toArray s 0 0 (gF base) := ⟨_, rfl⟩
  rw [← hQ]
  change W p l e (gRm 1 0 0) s m _ below meth c _ _ _ _ _ _
  unfold f_X8_behind at hf
  refine lv_aload_n hx hb dX8_behind_0 rfl (lv_at hl 0 rfl) ?_
  refine g_getI C0 hG (L82 hG) rfl 13 (by decide) rfl w_859 dX8_behind_1 ?_
  refine lv_if_ge (tgt := 11) hx hb dX8_behind_4 (by decide) (fun c1 => ?_) (fun c1 => ?_)
  · have hf := gif_t c1 hf
    refine lv_bipush (v := (10 : Int32)) hx hb dX8_behind_11 (by decide) ?_
    refine lv_aload_n hx hb dX8_behind_13 rfl (lv_at hl 0 rfl) ?_
    refine g_getI C0 hG (L82 hG) rfl 13 (by decide) rfl w_859 dX8_behind_14 ?_
    refine lv_imul hx hb dX8_behind_17 ?_
    refine lv_aload_n hx hb dX8_behind_18 rfl (lv_at hl 0 rfl) ?_
    refine g_getSa (o := 9) (a := 91) C0 hG (L82 hG) rfl 18 (by decide) rfl rfl w_864 dX8_behind_19 ?_
    refine lv_aload_n hx hb dX8_behind_22 rfl (lv_at hl 0 rfl) ?_
    refine g_getI C0 hG (L82 hG) rfl 13 (by decide) rfl w_859 dX8_behind_23 ?_
    obtain ⟨h2, hf⟩ := gin_s hf
    refine g_iald C0 hG (L91 hG) h2 dX8_behind_26 ?_
    refine lv_iadd hx hb dX8_behind_27 ?_
    have hf := Option.some.inj hf
    subst hf
    subst hQ
    exact g_iret C0 hG hr dX8_behind_28
  · have hf := gif_f c1 hf
    refine lv_iconst (v := (0 : Int32)) hx hb dX8_behind_7 (by decide) ?_
    refine lv_goto (tgt := 28) hx hb dX8_behind_8 (by decide) ?_
    have hf := Option.some.inj hf
    subst hf
    subst hQ
    exact g_iret C0 hG hr dX8_behind_28
theorem dX8_slope_0 : decode cX8_slope 0 = .ok (.iconst 5, 1) := by decide +kernel
theorem dX8_slope_1 : decode cX8_slope 1 = .ok (.istore_n 1, 1) := by decide +kernel
theorem dX8_slope_2 : decode cX8_slope 2 = .ok (.aload_n 0, 1) := by decide +kernel
theorem dX8_slope_3 : decode cX8_slope 3 = .ok (.invokevirtual 319, 3) := by decide +kernel
theorem dX8_slope_6 : decode cX8_slope 6 = .ok (.istore_n 2, 1) := by decide +kernel
theorem dX8_slope_7 : decode cX8_slope 7 = .ok (.iload_n 2, 1) := by decide +kernel
theorem dX8_slope_8 : decode cX8_slope 8 = .ok (.aload_n 0, 1) := by decide +kernel
theorem dX8_slope_9 : decode cX8_slope 9 = .ok (.invokevirtual 322, 3) := by decide +kernel
theorem dX8_slope_12 : decode cX8_slope 12 = .ok (.if_icmp .ge 30, 3) := by decide +kernel
theorem dX8_slope_15 : decode cX8_slope 15 = .ok (.aload_n 0, 1) := by decide +kernel
theorem dX8_slope_16 : decode cX8_slope 16 = .ok (.getfield 68, 3) := by decide +kernel
theorem dX8_slope_19 : decode cX8_slope 19 = .ok (.iload_n 2, 1) := by decide +kernel
theorem dX8_slope_20 : decode cX8_slope 20 = .ok (.iaload, 1) := by decide +kernel
theorem dX8_slope_21 : decode cX8_slope 21 = .ok (.iconst 2, 1) := by decide +kernel
theorem dX8_slope_22 : decode cX8_slope 22 = .ok (.if_icmp .ne 12, 3) := by decide +kernel
theorem dX8_slope_25 : decode cX8_slope 25 = .ok (.aload_n 0, 1) := by decide +kernel
theorem dX8_slope_26 : decode cX8_slope 26 = .ok (.getfield 71, 3) := by decide +kernel
theorem dX8_slope_29 : decode cX8_slope 29 = .ok (.iload_n 2, 1) := by decide +kernel
theorem dX8_slope_30 : decode cX8_slope 30 = .ok (.iaload, 1) := by decide +kernel
theorem dX8_slope_31 : decode cX8_slope 31 = .ok (.goto 4, 3) := by decide +kernel
theorem dX8_slope_34 : decode cX8_slope 34 = .ok (.iload_n 1, 1) := by decide +kernel
theorem dX8_slope_35 : decode cX8_slope 35 = .ok (.istore_n 1, 1) := by decide +kernel
theorem dX8_slope_36 : decode cX8_slope 36 = .ok (.iinc 2 1, 3) := by decide +kernel
theorem dX8_slope_39 : decode cX8_slope 39 = .ok (.goto (-32), 3) := by decide +kernel
theorem dX8_slope_42 : decode cX8_slope 42 = .ok (.iload_n 1, 1) := by decide +kernel
theorem dX8_slope_43 : decode cX8_slope 43 = .ok (.ireturn, 1) := by decide +kernel
def f_X8_slope_L7 (u : Mem) (x1_2 : Int32) (x2_2 : Int32) : Option ((Int32 × Int32) ⊕ Int32) := Option.bind (f_X8_behind u) (fun r3 => (if r3 ≤ x2_2 then some (Sum.inr (x1_2)) else gin x2_2 60 ((if (gA u 92 x2_2.toNatClampNeg) = (2 : Int32) then gin x2_2 60 (some (Sum.inl (gA u 93 x2_2.toNatClampNeg, x2_2 + (1 : Int32)))) else some (Sum.inl (x1_2, x2_2 + (1 : Int32)))))))
def f_X8_slope (u : Mem) : Option (Int32) := Option.bind (f_X8_begin u) (fun r1 => whileO (fun s => f_X8_slope_L7 u s.1 s.2) FUEL ((5 : Int32), r1))
set_option maxHeartbeats 4000000 in
set_option maxRecDepth 100000 in
theorem k_X8_slope (l : Launch) (D : gDt) (base : Nat) (Z : gZt) (u : Mem) (r : Int32) (hf : f_X8_slope u = some r) : Met l yX8_slope (gws yX8_slope cX8_slope 3 (some .int)) (gRm 2 0 0) (gPc D base Z u [.ref (base + 82)]) (gQi D base r u) 0 0 (gF base) := by
  refine Met.ofW (cc := cX8_slope) (maxL := 3) (ret := some .int) (by decide) rfl ?_
  intro p e s m args below meth c s₁ B hml hv
  obtain ⟨rfl, C0, hG⟩ := g_enter B hml hv
  have hr := B.returns
  have C0 : gC p s m meth c _ cX8_slope 3 RX8 D base Z := C0
  have hx := C0.1
  have hb := C0.2.1
  have hl := lv_entry ([.ref (base + 82)]) (n := 3) (Nat.le_of_ble_eq_true rfl)
  rw [lg_entry_eq]
  generalize (lg_sl ([.ref (base + 82)]) ++ List.replicate (3 - (lg_sl ([.ref (base + 82)])).length) Slot.unset).toArray = ls at hl ⊢
  have hl : lv_has ls 3 [(0, .ref (base + 82))] := hl
  obtain ⟨Q, hQ⟩ : ∃ Q, Q = MQ below (gQi D base r u) ([.ref (base + 82)] : List Value).toArray s 0 0 (gF base) := ⟨_, rfl⟩
  rw [← hQ]
  change W p l e (gRm 2 0 0) s m _ below meth c _ _ _ _ _ _
  unfold f_X8_slope at hf
  refine lv_iconst (v := (5 : Int32)) hx hb dX8_slope_0 (by decide) ?_
  refine lv_istore_n (lv' := [(1, .int (5 : Int32)), (0, .ref (base + 82))]) hx hb dX8_slope_1 rfl hl (by decide) rfl (fun ls hl => ?_)
  refine lv_aload_n hx hb dX8_slope_2 rfl (lv_at hl 1 rfl) ?_
  obtain ⟨r1, hc1, hf⟩ := pb_s hf
  refine g_doI0 hG (g_runV C0 hG (k_X8_begin l D base Z u r1 hc1) m_X8_begin v_X8_begin w_1210 (by decide) (g_recv C0 hG (L82 hG) rfl) rfl hl.1 rfl (Nat.le_of_ble_eq_true rfl) dX8_slope_3 ⟨Nat.zero_le _, Nat.zero_le _⟩) (fun H locs hG hk => ?_)
  refine lv_istore_n (lv' := [(2, .int r1), (1, .int (5 : Int32)), (0, .ref (base + 82))]) hx hb dX8_slope_6 rfl hl (by decide) rfl (fun ls hl => ?_)
  have loop2 : ∀ (n2 : Nat) (x1_2 : Int32) (x2_2 : Int32) (H : Heap) (locs : List Loc) (ls : Array Slot), gH D base s u H locs → lv_has ls 3 [(0, .ref (base + 82)), (1, .int x1_2), (2, .int x2_2)] → whileO (fun s => f_X8_slope_L7 u s.1 s.2) n2 (x1_2, x2_2) = some r → W p l e (gRm 2 0 0) s m ([.ref (base + 82)] : List Value).toArray below meth c H locs 0 0 Q (F0 m 7 ls []) := by
    intro n2
    induction n2 with
    | zero => intro x1_2 x2_2 H locs ls hG hl hf; cases hf
    | succ n2 ih2 =>
      intro x1_2 x2_2 H locs ls hG hl hf
      obtain ⟨X2, hf, hX2⟩ := while_s hf
      have hf : f_X8_slope_L7 u x1_2 x2_2 = some X2 := hf
      unfold f_X8_slope_L7 at hf
      refine lv_iload_n hx hb dX8_slope_7 rfl (lv_at hl 2 rfl) ?_
      refine lv_aload_n hx hb dX8_slope_8 rfl (lv_at hl 0 rfl) ?_
      obtain ⟨r3, hc3, hf⟩ := pb_s hf
      refine g_doI0 hG (g_runV C0 hG (k_X8_behind l D base Z u r3 hc3) m_X8_behind v_X8_behind w_1214 (by decide) (g_recv C0 hG (L82 hG) rfl) rfl hl.1 rfl (Nat.le_of_ble_eq_true rfl) dX8_slope_9 ⟨Nat.zero_le _, Nat.zero_le _⟩) (fun H locs hG hk => ?_)
      refine lv_icmp_ge (tgt := 42) hx hb dX8_slope_12 (by decide) (fun c4 => ?_) (fun c4 => ?_)
      · have hf := gif_t c4 hf
        refine lv_iload_n hx hb dX8_slope_42 rfl (lv_at hl 1 rfl) ?_
        have hf := while_r hX2 hf
        have hf := Option.some.inj hf
        subst hf
        subst hQ
        exact g_iret C0 hG hr dX8_slope_43
      · have hf := gif_f c4 hf
        refine lv_aload_n hx hb dX8_slope_15 rfl (lv_at hl 0 rfl) ?_
        refine g_getSa (o := 10) (a := 92) C0 hG (L82 hG) rfl 19 (by decide) rfl rfl w_865 dX8_slope_16 ?_
        refine lv_iload_n hx hb dX8_slope_19 rfl (lv_at hl 2 rfl) ?_
        obtain ⟨h5, hf⟩ := gin_s hf
        refine g_iald C0 hG (L92 hG) h5 dX8_slope_20 ?_
        refine lv_iconst (v := (2 : Int32)) hx hb dX8_slope_21 (by decide) ?_
        refine lv_icmp_ne (tgt := 34) hx hb dX8_slope_22 (by decide) (fun c6 => ?_) (fun c6 => ?_)
        · have hf := gif_f c6 hf
          refine lv_iload_n hx hb dX8_slope_34 rfl (lv_at hl 1 rfl) ?_
          refine lv_istore_n (lv' := [(1, .int x1_2), (0, .ref (base + 82)), (2, .int x2_2)]) hx hb dX8_slope_35 rfl hl (by decide) rfl (fun ls hl => ?_)
          refine lv_iinc (v := x2_2 + (1 : Int32)) (lv' := [(2, .int (x2_2 + (1 : Int32))), (1, .int x1_2), (0, .ref (base + 82))]) hx hb dX8_slope_36 hl (k := 2) rfl rfl (by decide) rfl (fun ls hl => ?_)
          refine lv_goto (tgt := 7) hx hb dX8_slope_39 (by decide) ?_
          have hf := while_l hX2 hf
          exact ih2 x1_2 (x2_2 + (1 : Int32)) _ _ ls hG (lv_sub hl [2, 1, 0] rfl) hf
        · have hf := gif_t c6 hf
          refine lv_aload_n hx hb dX8_slope_25 rfl (lv_at hl 0 rfl) ?_
          refine g_getSa (o := 11) (a := 93) C0 hG (L82 hG) rfl 20 (by decide) rfl rfl w_866 dX8_slope_26 ?_
          refine lv_iload_n hx hb dX8_slope_29 rfl (lv_at hl 2 rfl) ?_
          obtain ⟨h7, hf⟩ := gin_s hf
          refine g_iald C0 hG (L93 hG) h7 dX8_slope_30 ?_
          refine lv_goto (tgt := 35) hx hb dX8_slope_31 (by decide) ?_
          refine lv_istore_n (lv' := [(1, .int (gA u 93 x2_2.toNatClampNeg)), (0, .ref (base + 82)), (2, .int x2_2)]) hx hb dX8_slope_35 rfl hl (by decide) rfl (fun ls hl => ?_)
          refine lv_iinc (v := x2_2 + (1 : Int32)) (lv' := [(2, .int (x2_2 + (1 : Int32))), (1, .int (gA u 93 x2_2.toNatClampNeg)), (0, .ref (base + 82))]) hx hb dX8_slope_36 hl (k := 2) rfl rfl (by decide) rfl (fun ls hl => ?_)
          refine lv_goto (tgt := 7) hx hb dX8_slope_39 (by decide) ?_
          have hf := while_l hX2 hf
          exact ih2 (gA u 93 x2_2.toNatClampNeg) (x2_2 + (1 : Int32)) _ _ ls hG (lv_sub hl [2, 1, 0] rfl) hf
  exact loop2 FUEL (5 : Int32) r1 _ _ ls hG (lv_sub hl [2, 1, 0] rfl) hf
theorem dX8_factOf_0 : decode cX8_factOf 0 = .ok (.iload_n 1, 1) := by decide +kernel
theorem dX8_factOf_1 : decode cX8_factOf 1 = .ok (.tableswitch 60 0 4 #[35, 37, 44, 51, 53], 35) := by decide +kernel
theorem dX8_factOf_36 : decode cX8_factOf 36 = .ok (.iload_n 2, 1) := by decide +kernel
theorem dX8_factOf_37 : decode cX8_factOf 37 = .ok (.ireturn, 1) := by decide +kernel
theorem dX8_factOf_38 : decode cX8_factOf 38 = .ok (.aload_n 0, 1) := by decide +kernel
theorem dX8_factOf_39 : decode cX8_factOf 39 = .ok (.getfield 25, 3) := by decide +kernel
theorem dX8_factOf_42 : decode cX8_factOf 42 = .ok (.iload_n 2, 1) := by decide +kernel
theorem dX8_factOf_43 : decode cX8_factOf 43 = .ok (.iaload, 1) := by decide +kernel
theorem dX8_factOf_44 : decode cX8_factOf 44 = .ok (.ireturn, 1) := by decide +kernel
theorem dX8_factOf_45 : decode cX8_factOf 45 = .ok (.aload_n 0, 1) := by decide +kernel
theorem dX8_factOf_46 : decode cX8_factOf 46 = .ok (.getfield 29, 3) := by decide +kernel
theorem dX8_factOf_49 : decode cX8_factOf 49 = .ok (.iload_n 2, 1) := by decide +kernel
theorem dX8_factOf_50 : decode cX8_factOf 50 = .ok (.iaload, 1) := by decide +kernel
theorem dX8_factOf_51 : decode cX8_factOf 51 = .ok (.ireturn, 1) := by decide +kernel
theorem dX8_factOf_52 : decode cX8_factOf 52 = .ok (.iload_n 3, 1) := by decide +kernel
theorem dX8_factOf_53 : decode cX8_factOf 53 = .ok (.ireturn, 1) := by decide +kernel
theorem dX8_factOf_54 : decode cX8_factOf 54 = .ok (.aload_n 0, 1) := by decide +kernel
theorem dX8_factOf_55 : decode cX8_factOf 55 = .ok (.getfield 41, 3) := by decide +kernel
theorem dX8_factOf_58 : decode cX8_factOf 58 = .ok (.iload_n 3, 1) := by decide +kernel
theorem dX8_factOf_59 : decode cX8_factOf 59 = .ok (.iaload, 1) := by decide +kernel
theorem dX8_factOf_60 : decode cX8_factOf 60 = .ok (.ireturn, 1) := by decide +kernel
theorem dX8_factOf_61 : decode cX8_factOf 61 = .ok (.aload_n 0, 1) := by decide +kernel
theorem dX8_factOf_62 : decode cX8_factOf 62 = .ok (.getfield 22, 3) := by decide +kernel
theorem dX8_factOf_65 : decode cX8_factOf 65 = .ok (.bipush 10, 2) := by decide +kernel
theorem dX8_factOf_67 : decode cX8_factOf 67 = .ok (.irem, 1) := by decide +kernel
theorem dX8_factOf_68 : decode cX8_factOf 68 = .ok (.ireturn, 1) := by decide +kernel
def f_X8_factOf (p1 : Int32) (p2 : Int32) (p3 : Int32) (u : Mem) : Option (Int32) := (if p1 = (0 : Int32) then some p2 else (if p1 = (1 : Int32) then gin p2 6 (some (gA u 83 p2.toNatClampNeg)) else (if p1 = (2 : Int32) then gin p2 6 (some (gA u 84 p2.toNatClampNeg)) else (if p1 = (3 : Int32) then some p3 else (if p1 = (4 : Int32) then gin p3 8 (some (gA u 88 p3.toNatClampNeg)) else some ((gI u 82 4) - (gI u 82 4) / (10 : Int32) * (10 : Int32)))))))
set_option maxHeartbeats 4000000 in
set_option maxRecDepth 100000 in
theorem k_X8_factOf (l : Launch) (D : gDt) (base : Nat) (Z : gZt) (u : Mem) (p1 : Int32) (p2 : Int32) (p3 : Int32) (r : Int32) (hf : f_X8_factOf p1 p2 p3 u = some r) : Met l yX8_factOf (gws yX8_factOf cX8_factOf 4 (some .int)) (gRm 1 0 0) (gPc D base Z u [.ref (base + 82), .int p1, .int p2, .int p3]) (gQi D base r u) 0 0 (gF base) := by
  refine Met.ofW (cc := cX8_factOf) (maxL := 4) (ret := some .int) (by decide) rfl ?_
  intro p e s m args below meth c s₁ B hml hv
  obtain ⟨rfl, C0, hG⟩ := g_enter B hml hv
  have hr := B.returns
  have C0 : gC p s m meth c _ cX8_factOf 4 RX8 D base Z := C0
  have hx := C0.1
  have hb := C0.2.1
  have hl := lv_entry ([.ref (base + 82), .int p1, .int p2, .int p3]) (n := 4) (Nat.le_of_ble_eq_true rfl)
  rw [lg_entry_eq]
  generalize (lg_sl ([.ref (base + 82), .int p1, .int p2, .int p3]) ++ List.replicate (4 - (lg_sl ([.ref (base + 82), .int p1, .int p2, .int p3])).length) Slot.unset).toArray = ls at hl ⊢
  have hl : lv_has ls 4 [(0, .ref (base + 82)), (1, .int p1), (2, .int p2), (3, .int p3)] := hl
  obtain ⟨Q, hQ⟩ : ∃ Q, Q = MQ below (gQi D base r u) ([.ref (base + 82), .int p1, .int p2, .int p3] : List Value).toArray s 0 0 (gF base) := ⟨_, rfl⟩
  rw [← hQ]
  change W p l e (gRm 1 0 0) s m _ below meth c _ _ _ _ _ _
  unfold f_X8_factOf at hf
  refine lv_iload_n hx hb dX8_factOf_0 rfl (lv_at hl 1 rfl) ?_
  refine (Decidable.em (p1 = (0 : Int32))).elim (fun c1 => ?_) (fun c1 => ?_)
  · have hf := gif_t c1 hf
    refine lv_tableIn (off := 35) (tgt := 36) hx hb dX8_factOf_1 (by rw [c1]; decide) (by rw [c1]; decide) (by rw [c1]; rfl) (by decide) ?_
    refine lv_iload_n hx hb dX8_factOf_36 rfl (lv_at hl 2 rfl) ?_
    have hf := Option.some.inj hf
    subst hf
    subst hQ
    exact g_iret C0 hG hr dX8_factOf_37
  · have hf := gif_f c1 hf
    refine (Decidable.em (p1 = (1 : Int32))).elim (fun c2 => ?_) (fun c2 => ?_)
    · have hf := gif_t c2 hf
      refine lv_tableIn (off := 37) (tgt := 38) hx hb dX8_factOf_1 (by rw [c2]; decide) (by rw [c2]; decide) (by rw [c2]; rfl) (by decide) ?_
      refine lv_aload_n hx hb dX8_factOf_38 rfl (lv_at hl 0 rfl) ?_
      refine g_getSa (o := 1) (a := 83) C0 hG (L82 hG) rfl 5 (by decide) rfl rfl w_851 dX8_factOf_39 ?_
      refine lv_iload_n hx hb dX8_factOf_42 rfl (lv_at hl 2 rfl) ?_
      obtain ⟨h3, hf⟩ := gin_s hf
      refine g_iald C0 hG (L83 hG) h3 dX8_factOf_43 ?_
      have hf := Option.some.inj hf
      subst hf
      subst hQ
      exact g_iret C0 hG hr dX8_factOf_44
    · have hf := gif_f c2 hf
      refine (Decidable.em (p1 = (2 : Int32))).elim (fun c4 => ?_) (fun c4 => ?_)
      · have hf := gif_t c4 hf
        refine lv_tableIn (off := 44) (tgt := 45) hx hb dX8_factOf_1 (by rw [c4]; decide) (by rw [c4]; decide) (by rw [c4]; rfl) (by decide) ?_
        refine lv_aload_n hx hb dX8_factOf_45 rfl (lv_at hl 0 rfl) ?_
        refine g_getSa (o := 2) (a := 84) C0 hG (L82 hG) rfl 6 (by decide) rfl rfl w_852 dX8_factOf_46 ?_
        refine lv_iload_n hx hb dX8_factOf_49 rfl (lv_at hl 2 rfl) ?_
        obtain ⟨h5, hf⟩ := gin_s hf
        refine g_iald C0 hG (L84 hG) h5 dX8_factOf_50 ?_
        have hf := Option.some.inj hf
        subst hf
        subst hQ
        exact g_iret C0 hG hr dX8_factOf_51
      · have hf := gif_f c4 hf
        refine (Decidable.em (p1 = (3 : Int32))).elim (fun c6 => ?_) (fun c6 => ?_)
        · have hf := gif_t c6 hf
          refine lv_tableIn (off := 51) (tgt := 52) hx hb dX8_factOf_1 (by rw [c6]; decide) (by rw [c6]; decide) (by rw [c6]; rfl) (by decide) ?_
          refine lv_iload_n hx hb dX8_factOf_52 rfl (lv_at hl 3 rfl) ?_
          have hf := Option.some.inj hf
          subst hf
          subst hQ
          exact g_iret C0 hG hr dX8_factOf_53
        · have hf := gif_f c6 hf
          refine (Decidable.em (p1 = (4 : Int32))).elim (fun c7 => ?_) (fun c7 => ?_)
          · have hf := gif_t c7 hf
            refine lv_tableIn (off := 53) (tgt := 54) hx hb dX8_factOf_1 (by rw [c7]; decide) (by rw [c7]; decide) (by rw [c7]; rfl) (by decide) ?_
            refine lv_aload_n hx hb dX8_factOf_54 rfl (lv_at hl 0 rfl) ?_
            refine g_getSa (o := 6) (a := 88) C0 hG (L82 hG) rfl 10 (by decide) rfl rfl w_856 dX8_factOf_55 ?_
            refine lv_iload_n hx hb dX8_factOf_58 rfl (lv_at hl 3 rfl) ?_
            obtain ⟨h8, hf⟩ := gin_s hf
            refine g_iald C0 hG (L88 hG) h8 dX8_factOf_59 ?_
            have hf := Option.some.inj hf
            subst hf
            subst hQ
            exact g_iret C0 hG hr dX8_factOf_60
          · have hf := gif_f c7 hf
            refine lv_tableOut (tgt := 61) hx hb dX8_factOf_1 (by
                have n0 := lv_neT c1 (k := (0 : Int32)) (a := 0) (by decide)
                have n1 := lv_neT c2 (k := (1 : Int32)) (a := 1) (by decide)
                have n2 := lv_neT c4 (k := (2 : Int32)) (a := 2) (by decide)
                have n3 := lv_neT c6 (k := (3 : Int32)) (a := 3) (by decide)
                have n4 := lv_neT c7 (k := (4 : Int32)) (a := 4) (by decide)
                omega) (by decide) ?_
            refine lv_aload_n hx hb dX8_factOf_61 rfl (lv_at hl 0 rfl) ?_
            refine g_getI C0 hG (L82 hG) rfl 4 (by decide) rfl w_850 dX8_factOf_62 ?_
            refine lv_bipush (v := (10 : Int32)) hx hb dX8_factOf_65 (by decide) ?_
            refine lv_irem hx hb dX8_factOf_67 (by decide) ?_
            have hf := Option.some.inj hf
            subst hf
            subst hQ
            exact g_iret C0 hG hr dX8_factOf_68
theorem dX8_holds_0 : decode cX8_holds 0 = .ok (.iconst 0, 1) := by decide +kernel
theorem dX8_holds_1 : decode cX8_holds 1 = .ok (.istore 4, 2) := by decide +kernel
theorem dX8_holds_3 : decode cX8_holds 3 = .ok (.aload_n 0, 1) := by decide +kernel
theorem dX8_holds_4 : decode cX8_holds 4 = .ok (.getfield 74, 3) := by decide +kernel
theorem dX8_holds_7 : decode cX8_holds 7 = .ok (.iload_n 1, 1) := by decide +kernel
theorem dX8_holds_8 : decode cX8_holds 8 = .ok (.iaload, 1) := by decide +kernel
theorem dX8_holds_9 : decode cX8_holds 9 = .ok (.istore 5, 2) := by decide +kernel
theorem dX8_holds_11 : decode cX8_holds 11 = .ok (.iload 5, 2) := by decide +kernel
theorem dX8_holds_13 : decode cX8_holds 13 = .ok (.aload_n 0, 1) := by decide +kernel
theorem dX8_holds_14 : decode cX8_holds 14 = .ok (.getfield 77, 3) := by decide +kernel
theorem dX8_holds_17 : decode cX8_holds 17 = .ok (.iload_n 1, 1) := by decide +kernel
theorem dX8_holds_18 : decode cX8_holds 18 = .ok (.iaload, 1) := by decide +kernel
theorem dX8_holds_19 : decode cX8_holds 19 = .ok (.if_icmp .ge 234, 3) := by decide +kernel
theorem dX8_holds_22 : decode cX8_holds 22 = .ok (.aload_n 0, 1) := by decide +kernel
theorem dX8_holds_23 : decode cX8_holds 23 = .ok (.getfield 80, 3) := by decide +kernel
theorem dX8_holds_26 : decode cX8_holds 26 = .ok (.iload 5, 2) := by decide +kernel
theorem dX8_holds_28 : decode cX8_holds 28 = .ok (.iaload, 1) := by decide +kernel
theorem dX8_holds_29 : decode cX8_holds 29 = .ok (.istore 6, 2) := by decide +kernel
theorem dX8_holds_31 : decode cX8_holds 31 = .ok (.iload 6, 2) := by decide +kernel
theorem dX8_holds_33 : decode cX8_holds 33 = .ok (.bipush (-33), 2) := by decide +kernel
theorem dX8_holds_35 : decode cX8_holds 35 = .ok (.if_icmp .ne 32, 3) := by decide +kernel
theorem dX8_holds_38 : decode cX8_holds 38 = .ok (.aload_n 0, 1) := by decide +kernel
theorem dX8_holds_39 : decode cX8_holds 39 = .ok (.getfield 98, 3) := by decide +kernel
theorem dX8_holds_42 : decode cX8_holds 42 = .ok (.iload 4, 2) := by decide +kernel
theorem dX8_holds_44 : decode cX8_holds 44 = .ok (.iconst 1, 1) := by decide +kernel
theorem dX8_holds_45 : decode cX8_holds 45 = .ok (.isub, 1) := by decide +kernel
theorem dX8_holds_46 : decode cX8_holds 46 = .ok (.aload_n 0, 1) := by decide +kernel
theorem dX8_holds_47 : decode cX8_holds 47 = .ok (.getfield 98, 3) := by decide +kernel
theorem dX8_holds_50 : decode cX8_holds 50 = .ok (.iload 4, 2) := by decide +kernel
theorem dX8_holds_52 : decode cX8_holds 52 = .ok (.iconst 1, 1) := by decide +kernel
theorem dX8_holds_53 : decode cX8_holds 53 = .ok (.isub, 1) := by decide +kernel
theorem dX8_holds_54 : decode cX8_holds 54 = .ok (.baload, 1) := by decide +kernel
theorem dX8_holds_55 : decode cX8_holds 55 = .ok (.ifCond .ne 7, 3) := by decide +kernel
theorem dX8_holds_58 : decode cX8_holds 58 = .ok (.iconst 1, 1) := by decide +kernel
theorem dX8_holds_59 : decode cX8_holds 59 = .ok (.goto 4, 3) := by decide +kernel
theorem dX8_holds_62 : decode cX8_holds 62 = .ok (.iconst 0, 1) := by decide +kernel
theorem dX8_holds_63 : decode cX8_holds 63 = .ok (.bastore, 1) := by decide +kernel
theorem dX8_holds_64 : decode cX8_holds 64 = .ok (.goto 183, 3) := by decide +kernel
theorem dX8_holds_67 : decode cX8_holds 67 = .ok (.iload 6, 2) := by decide +kernel
theorem dX8_holds_69 : decode cX8_holds 69 = .ok (.ifCond .ge 82, 3) := by decide +kernel
theorem dX8_holds_72 : decode cX8_holds 72 = .ok (.iinc 4 (-1), 3) := by decide +kernel
theorem dX8_holds_75 : decode cX8_holds 75 = .ok (.aload_n 0, 1) := by decide +kernel
theorem dX8_holds_76 : decode cX8_holds 76 = .ok (.getfield 98, 3) := by decide +kernel
theorem dX8_holds_79 : decode cX8_holds 79 = .ok (.iload 4, 2) := by decide +kernel
theorem dX8_holds_81 : decode cX8_holds 81 = .ok (.iconst 1, 1) := by decide +kernel
theorem dX8_holds_82 : decode cX8_holds 82 = .ok (.isub, 1) := by decide +kernel
theorem dX8_holds_83 : decode cX8_holds 83 = .ok (.iload 6, 2) := by decide +kernel
theorem dX8_holds_85 : decode cX8_holds 85 = .ok (.bipush (-38), 2) := by decide +kernel
theorem dX8_holds_87 : decode cX8_holds 87 = .ok (.if_icmp .ne 33, 3) := by decide +kernel
theorem dX8_holds_90 : decode cX8_holds 90 = .ok (.aload_n 0, 1) := by decide +kernel
theorem dX8_holds_91 : decode cX8_holds 91 = .ok (.getfield 98, 3) := by decide +kernel
theorem dX8_holds_94 : decode cX8_holds 94 = .ok (.iload 4, 2) := by decide +kernel
theorem dX8_holds_96 : decode cX8_holds 96 = .ok (.iconst 1, 1) := by decide +kernel
theorem dX8_holds_97 : decode cX8_holds 97 = .ok (.isub, 1) := by decide +kernel
theorem dX8_holds_98 : decode cX8_holds 98 = .ok (.baload, 1) := by decide +kernel
theorem dX8_holds_99 : decode cX8_holds 99 = .ok (.ifCond .eq 17, 3) := by decide +kernel
theorem dX8_holds_102 : decode cX8_holds 102 = .ok (.aload_n 0, 1) := by decide +kernel
theorem dX8_holds_103 : decode cX8_holds 103 = .ok (.getfield 98, 3) := by decide +kernel
theorem dX8_holds_106 : decode cX8_holds 106 = .ok (.iload 4, 2) := by decide +kernel
theorem dX8_holds_108 : decode cX8_holds 108 = .ok (.baload, 1) := by decide +kernel
theorem dX8_holds_109 : decode cX8_holds 109 = .ok (.ifCond .eq 7, 3) := by decide +kernel
theorem dX8_holds_112 : decode cX8_holds 112 = .ok (.iconst 1, 1) := by decide +kernel
theorem dX8_holds_113 : decode cX8_holds 113 = .ok (.goto 34, 3) := by decide +kernel
theorem dX8_holds_116 : decode cX8_holds 116 = .ok (.iconst 0, 1) := by decide +kernel
theorem dX8_holds_117 : decode cX8_holds 117 = .ok (.goto 30, 3) := by decide +kernel
theorem dX8_holds_120 : decode cX8_holds 120 = .ok (.aload_n 0, 1) := by decide +kernel
theorem dX8_holds_121 : decode cX8_holds 121 = .ok (.getfield 98, 3) := by decide +kernel
theorem dX8_holds_124 : decode cX8_holds 124 = .ok (.iload 4, 2) := by decide +kernel
theorem dX8_holds_126 : decode cX8_holds 126 = .ok (.iconst 1, 1) := by decide +kernel
theorem dX8_holds_127 : decode cX8_holds 127 = .ok (.isub, 1) := by decide +kernel
theorem dX8_holds_128 : decode cX8_holds 128 = .ok (.baload, 1) := by decide +kernel
theorem dX8_holds_129 : decode cX8_holds 129 = .ok (.ifCond .ne 13, 3) := by decide +kernel
theorem dX8_holds_132 : decode cX8_holds 132 = .ok (.aload_n 0, 1) := by decide +kernel
theorem dX8_holds_133 : decode cX8_holds 133 = .ok (.getfield 98, 3) := by decide +kernel
theorem dX8_holds_136 : decode cX8_holds 136 = .ok (.iload 4, 2) := by decide +kernel
theorem dX8_holds_138 : decode cX8_holds 138 = .ok (.baload, 1) := by decide +kernel
theorem dX8_holds_139 : decode cX8_holds 139 = .ok (.ifCond .eq 7, 3) := by decide +kernel
theorem dX8_holds_142 : decode cX8_holds 142 = .ok (.iconst 1, 1) := by decide +kernel
theorem dX8_holds_143 : decode cX8_holds 143 = .ok (.goto 4, 3) := by decide +kernel
theorem dX8_holds_146 : decode cX8_holds 146 = .ok (.iconst 0, 1) := by decide +kernel
theorem dX8_holds_147 : decode cX8_holds 147 = .ok (.bastore, 1) := by decide +kernel
theorem dX8_holds_148 : decode cX8_holds 148 = .ok (.goto 99, 3) := by decide +kernel
theorem dX8_holds_151 : decode cX8_holds 151 = .ok (.aload_n 0, 1) := by decide +kernel
theorem dX8_holds_152 : decode cX8_holds 152 = .ok (.iload 6, 2) := by decide +kernel
theorem dX8_holds_154 : decode cX8_holds 154 = .ok (.sipush 1000, 3) := by decide +kernel
theorem dX8_holds_157 : decode cX8_holds 157 = .ok (.idiv, 1) := by decide +kernel
theorem dX8_holds_158 : decode cX8_holds 158 = .ok (.iload_n 2, 1) := by decide +kernel
theorem dX8_holds_159 : decode cX8_holds 159 = .ok (.iload_n 3, 1) := by decide +kernel
theorem dX8_holds_160 : decode cX8_holds 160 = .ok (.invokevirtual 325, 3) := by decide +kernel
theorem dX8_holds_163 : decode cX8_holds 163 = .ok (.istore 7, 2) := by decide +kernel
theorem dX8_holds_165 : decode cX8_holds 165 = .ok (.iload 6, 2) := by decide +kernel
theorem dX8_holds_167 : decode cX8_holds 167 = .ok (.bipush 100, 2) := by decide +kernel
theorem dX8_holds_169 : decode cX8_holds 169 = .ok (.idiv, 1) := by decide +kernel
theorem dX8_holds_170 : decode cX8_holds 170 = .ok (.bipush 10, 2) := by decide +kernel
theorem dX8_holds_172 : decode cX8_holds 172 = .ok (.irem, 1) := by decide +kernel
theorem dX8_holds_173 : decode cX8_holds 173 = .ok (.istore 8, 2) := by decide +kernel
theorem dX8_holds_175 : decode cX8_holds 175 = .ok (.aload_n 0, 1) := by decide +kernel
theorem dX8_holds_176 : decode cX8_holds 176 = .ok (.getfield 98, 3) := by decide +kernel
theorem dX8_holds_179 : decode cX8_holds 179 = .ok (.iload 4, 2) := by decide +kernel
theorem dX8_holds_181 : decode cX8_holds 181 = .ok (.iload 8, 2) := by decide +kernel
theorem dX8_holds_183 : decode cX8_holds 183 = .ok (.ifCond .ne 21, 3) := by decide +kernel
theorem dX8_holds_186 : decode cX8_holds 186 = .ok (.iload 7, 2) := by decide +kernel
theorem dX8_holds_188 : decode cX8_holds 188 = .ok (.iload 6, 2) := by decide +kernel
theorem dX8_holds_190 : decode cX8_holds 190 = .ok (.bipush 100, 2) := by decide +kernel
theorem dX8_holds_192 : decode cX8_holds 192 = .ok (.irem, 1) := by decide +kernel
theorem dX8_holds_193 : decode cX8_holds 193 = .ok (.if_icmp .ge 7, 3) := by decide +kernel
theorem dX8_holds_196 : decode cX8_holds 196 = .ok (.iconst 1, 1) := by decide +kernel
theorem dX8_holds_197 : decode cX8_holds 197 = .ok (.goto 46, 3) := by decide +kernel
theorem dX8_holds_200 : decode cX8_holds 200 = .ok (.iconst 0, 1) := by decide +kernel
theorem dX8_holds_201 : decode cX8_holds 201 = .ok (.goto 42, 3) := by decide +kernel
theorem dX8_holds_204 : decode cX8_holds 204 = .ok (.iload 8, 2) := by decide +kernel
theorem dX8_holds_206 : decode cX8_holds 206 = .ok (.iconst 1, 1) := by decide +kernel
theorem dX8_holds_207 : decode cX8_holds 207 = .ok (.if_icmp .ne 21, 3) := by decide +kernel
theorem dX8_holds_210 : decode cX8_holds 210 = .ok (.iload 7, 2) := by decide +kernel
theorem dX8_holds_212 : decode cX8_holds 212 = .ok (.iload 6, 2) := by decide +kernel
theorem dX8_holds_214 : decode cX8_holds 214 = .ok (.bipush 100, 2) := by decide +kernel
theorem dX8_holds_216 : decode cX8_holds 216 = .ok (.irem, 1) := by decide +kernel
theorem dX8_holds_217 : decode cX8_holds 217 = .ok (.if_icmp .ne 7, 3) := by decide +kernel
theorem dX8_holds_220 : decode cX8_holds 220 = .ok (.iconst 1, 1) := by decide +kernel
theorem dX8_holds_221 : decode cX8_holds 221 = .ok (.goto 22, 3) := by decide +kernel
theorem dX8_holds_224 : decode cX8_holds 224 = .ok (.iconst 0, 1) := by decide +kernel
theorem dX8_holds_225 : decode cX8_holds 225 = .ok (.goto 18, 3) := by decide +kernel
theorem dX8_holds_228 : decode cX8_holds 228 = .ok (.iload 7, 2) := by decide +kernel
theorem dX8_holds_230 : decode cX8_holds 230 = .ok (.iload 6, 2) := by decide +kernel
theorem dX8_holds_232 : decode cX8_holds 232 = .ok (.bipush 100, 2) := by decide +kernel
theorem dX8_holds_234 : decode cX8_holds 234 = .ok (.irem, 1) := by decide +kernel
theorem dX8_holds_235 : decode cX8_holds 235 = .ok (.if_icmp .le 7, 3) := by decide +kernel
theorem dX8_holds_238 : decode cX8_holds 238 = .ok (.iconst 1, 1) := by decide +kernel
theorem dX8_holds_239 : decode cX8_holds 239 = .ok (.goto 4, 3) := by decide +kernel
theorem dX8_holds_242 : decode cX8_holds 242 = .ok (.iconst 0, 1) := by decide +kernel
theorem dX8_holds_243 : decode cX8_holds 243 = .ok (.bastore, 1) := by decide +kernel
theorem dX8_holds_244 : decode cX8_holds 244 = .ok (.iinc 4 1, 3) := by decide +kernel
theorem dX8_holds_247 : decode cX8_holds 247 = .ok (.iinc 5 1, 3) := by decide +kernel
theorem dX8_holds_250 : decode cX8_holds 250 = .ok (.goto (-239), 3) := by decide +kernel
theorem dX8_holds_253 : decode cX8_holds 253 = .ok (.aload_n 0, 1) := by decide +kernel
theorem dX8_holds_254 : decode cX8_holds 254 = .ok (.getfield 98, 3) := by decide +kernel
theorem dX8_holds_257 : decode cX8_holds 257 = .ok (.iconst 0, 1) := by decide +kernel
theorem dX8_holds_258 : decode cX8_holds 258 = .ok (.baload, 1) := by decide +kernel
theorem dX8_holds_259 : decode cX8_holds 259 = .ok (.ireturn, 1) := by decide +kernel
def f_X8_holds_L11 (p1 : Int32) (p2 : Int32) (p3 : Int32) (x4_2 : Int32) (x5_2 : Int32) (u2 : Mem) : Option ((Int32 × Int32 × Mem) ⊕ (Int32 × Mem)) := gin p1 60 ((if (gA u2 95 p1.toNatClampNeg) ≤ x5_2 then gin (0 : Int32) 100 (gbo (gA u2 99 (0 : Int32).toNatClampNeg) (some (Sum.inr (gA u2 99 (0 : Int32).toNatClampNeg, u2)))) else gin x5_2 600 ((if (gA u2 96 x5_2.toNatClampNeg) = (-33 : Int32) then gin (x4_2 - (1 : Int32)) 100 ((if (gA u2 99 (x4_2 - (1 : Int32)).toNatClampNeg) = 0 then gin (x4_2 - (1 : Int32)) 100 (some (Sum.inl (x4_2, (x5_2 + (1 : Int32), sA u2 99 (x4_2 - (1 : Int32)).toNatClampNeg (vp_nar .boolean (1 : Int32)))))) else gin (x4_2 - (1 : Int32)) 100 (some (Sum.inl (x4_2, (x5_2 + (1 : Int32), sA u2 99 (x4_2 - (1 : Int32)).toNatClampNeg (vp_nar .boolean (0 : Int32)))))))) else (if 0 ≤ (gA u2 96 x5_2.toNatClampNeg) then Option.bind (f_X8_factOf ((gA u2 96 x5_2.toNatClampNeg) / (1000 : Int32)) p2 p3 u2) (fun r10 => (if (((gA u2 96 x5_2.toNatClampNeg) / (100 : Int32)) - ((gA u2 96 x5_2.toNatClampNeg) / (100 : Int32)) / (10 : Int32) * (10 : Int32)) = 0 then (if ((gA u2 96 x5_2.toNatClampNeg) - (gA u2 96 x5_2.toNatClampNeg) / (100 : Int32) * (100 : Int32)) ≤ r10 then gin x4_2 100 (some (Sum.inl (x4_2 + (1 : Int32), (x5_2 + (1 : Int32), sA u2 99 x4_2.toNatClampNeg (vp_nar .boolean (0 : Int32)))))) else gin x4_2 100 (some (Sum.inl (x4_2 + (1 : Int32), (x5_2 + (1 : Int32), sA u2 99 x4_2.toNatClampNeg (vp_nar .boolean (1 : Int32))))))) else (if (((gA u2 96 x5_2.toNatClampNeg) / (100 : Int32)) - ((gA u2 96 x5_2.toNatClampNeg) / (100 : Int32)) / (10 : Int32) * (10 : Int32)) = (1 : Int32) then (if r10 = ((gA u2 96 x5_2.toNatClampNeg) - (gA u2 96 x5_2.toNatClampNeg) / (100 : Int32) * (100 : Int32)) then gin x4_2 100 (some (Sum.inl (x4_2 + (1 : Int32), (x5_2 + (1 : Int32), sA u2 99 x4_2.toNatClampNeg (vp_nar .boolean (1 : Int32)))))) else gin x4_2 100 (some (Sum.inl (x4_2 + (1 : Int32), (x5_2 + (1 : Int32), sA u2 99 x4_2.toNatClampNeg (vp_nar .boolean (0 : Int32))))))) else (if r10 ≤ ((gA u2 96 x5_2.toNatClampNeg) - (gA u2 96 x5_2.toNatClampNeg) / (100 : Int32) * (100 : Int32)) then gin x4_2 100 (some (Sum.inl (x4_2 + (1 : Int32), (x5_2 + (1 : Int32), sA u2 99 x4_2.toNatClampNeg (vp_nar .boolean (0 : Int32)))))) else gin x4_2 100 (some (Sum.inl (x4_2 + (1 : Int32), (x5_2 + (1 : Int32), sA u2 99 x4_2.toNatClampNeg (vp_nar .boolean (1 : Int32)))))))))) else (if (gA u2 96 x5_2.toNatClampNeg) = (-38 : Int32) then gin ((x4_2 + (-1 : Int32)) - (1 : Int32)) 100 ((if (gA u2 99 ((x4_2 + (-1 : Int32)) - (1 : Int32)).toNatClampNeg) = 0 then gin ((x4_2 + (-1 : Int32)) - (1 : Int32)) 100 (some (Sum.inl (x4_2 + (-1 : Int32), (x5_2 + (1 : Int32), sA u2 99 ((x4_2 + (-1 : Int32)) - (1 : Int32)).toNatClampNeg (vp_nar .boolean (0 : Int32)))))) else gin (x4_2 + (-1 : Int32)) 100 ((if (gA u2 99 (x4_2 + (-1 : Int32)).toNatClampNeg) = 0 then gin ((x4_2 + (-1 : Int32)) - (1 : Int32)) 100 (some (Sum.inl (x4_2 + (-1 : Int32), (x5_2 + (1 : Int32), sA u2 99 ((x4_2 + (-1 : Int32)) - (1 : Int32)).toNatClampNeg (vp_nar .boolean (0 : Int32)))))) else gin ((x4_2 + (-1 : Int32)) - (1 : Int32)) 100 (some (Sum.inl (x4_2 + (-1 : Int32), (x5_2 + (1 : Int32), sA u2 99 ((x4_2 + (-1 : Int32)) - (1 : Int32)).toNatClampNeg (vp_nar .boolean (1 : Int32)))))))))) else gin ((x4_2 + (-1 : Int32)) - (1 : Int32)) 100 ((if (gA u2 99 ((x4_2 + (-1 : Int32)) - (1 : Int32)).toNatClampNeg) = 0 then gin (x4_2 + (-1 : Int32)) 100 ((if (gA u2 99 (x4_2 + (-1 : Int32)).toNatClampNeg) = 0 then gin ((x4_2 + (-1 : Int32)) - (1 : Int32)) 100 (some (Sum.inl (x4_2 + (-1 : Int32), (x5_2 + (1 : Int32), sA u2 99 ((x4_2 + (-1 : Int32)) - (1 : Int32)).toNatClampNeg (vp_nar .boolean (0 : Int32)))))) else gin ((x4_2 + (-1 : Int32)) - (1 : Int32)) 100 (some (Sum.inl (x4_2 + (-1 : Int32), (x5_2 + (1 : Int32), sA u2 99 ((x4_2 + (-1 : Int32)) - (1 : Int32)).toNatClampNeg (vp_nar .boolean (1 : Int32)))))))) else gin ((x4_2 + (-1 : Int32)) - (1 : Int32)) 100 (some (Sum.inl (x4_2 + (-1 : Int32), (x5_2 + (1 : Int32), sA u2 99 ((x4_2 + (-1 : Int32)) - (1 : Int32)).toNatClampNeg (vp_nar .boolean (1 : Int32))))))))))))))
def f_X8_holds (p1 : Int32) (p2 : Int32) (p3 : Int32) (u : Mem) : Option (Int32 × Mem) := gin p1 60 (whileO (fun s => f_X8_holds_L11 p1 p2 p3 s.1 s.2.1 s.2.2) FUEL ((0 : Int32), (gA u 94 p1.toNatClampNeg, u)))
set_option maxHeartbeats 4000000 in
set_option maxRecDepth 100000 in
theorem k_X8_holds (l : Launch) (D : gDt) (base : Nat) (Z : gZt) (u : Mem) (p1 : Int32) (p2 : Int32) (p3 : Int32) (r : Int32) (u' : Mem) (hf : f_X8_holds p1 p2 p3 u = some (r, u')) : Met l yX8_holds (gws yX8_holds cX8_holds 9 (some .boolean)) (gRm 2 0 0) (gPc D base Z u [.ref (base + 82), .int p1, .int p2, .int p3]) (gQi D base r u') 0 0 (gF base) := by
  refine Met.ofW (cc := cX8_holds) (maxL := 9) (ret := some .boolean) (by decide) rfl ?_
  intro p e s m args below meth c s₁ B hml hv
  obtain ⟨rfl, C0, hG⟩ := g_enter B hml hv
  have hr := B.returns
  have C0 : gC p s m meth c _ cX8_holds 9 RX8 D base Z := C0
  have hx := C0.1
  have hb := C0.2.1
  have hl := lv_entry ([.ref (base + 82), .int p1, .int p2, .int p3]) (n := 9) (Nat.le_of_ble_eq_true rfl)
  rw [lg_entry_eq]
  generalize (lg_sl ([.ref (base + 82), .int p1, .int p2, .int p3]) ++ List.replicate (9 - (lg_sl ([.ref (base + 82), .int p1, .int p2, .int p3])).length) Slot.unset).toArray = ls at hl ⊢
  have hl : lv_has ls 9 [(0, .ref (base + 82)), (1, .int p1), (2, .int p2), (3, .int p3)] := hl
  obtain ⟨Q, hQ⟩ : ∃ Q, Q = MQ below (gQi D base r u') ([.ref (base + 82), .int p1, .int p2, .int p3] : List Value).toArray s 0 0 (gF base) := ⟨_, rfl⟩
  rw [← hQ]
  change W p l e (gRm 2 0 0) s m _ below meth c _ _ _ _ _ _
  unfold f_X8_holds at hf
  refine lv_iconst (v := (0 : Int32)) hx hb dX8_holds_0 (by decide) ?_
  refine lv_istore (lv' := [(4, .int (0 : Int32)), (0, .ref (base + 82)), (1, .int p1), (2, .int p2), (3, .int p3)]) hx hb dX8_holds_1 hl (by decide) rfl (fun ls hl => ?_)
  refine lv_aload_n hx hb dX8_holds_3 rfl (lv_at hl 1 rfl) ?_
  refine g_getSa (o := 12) (a := 94) C0 hG (L82 hG) rfl 21 (by decide) rfl rfl w_867 dX8_holds_4 ?_
  refine lv_iload_n hx hb dX8_holds_7 rfl (lv_at hl 2 rfl) ?_
  obtain ⟨h1, hf⟩ := gin_s hf
  refine g_iald C0 hG (L94 hG) h1 dX8_holds_8 ?_
  refine lv_istore (lv' := [(5, .int (gA u 94 p1.toNatClampNeg)), (4, .int (0 : Int32)), (0, .ref (base + 82)), (1, .int p1), (2, .int p2), (3, .int p3)]) hx hb dX8_holds_9 hl (by decide) rfl (fun ls hl => ?_)
  have loop2 : ∀ (n2 : Nat) (x4_2 : Int32) (x5_2 : Int32) (u2 : Mem) (H : Heap) (locs : List Loc) (ls : Array Slot), gH D base s u2 H locs → lv_has ls 9 [(0, .ref (base + 82)), (1, .int p1), (2, .int p2), (3, .int p3), (4, .int x4_2), (5, .int x5_2)] → whileO (fun s => f_X8_holds_L11 p1 p2 p3 s.1 s.2.1 s.2.2) n2 (x4_2, (x5_2, u2)) = some (r, u') → W p l e (gRm 2 0 0) s m ([.ref (base + 82), .int p1, .int p2, .int p3] : List Value).toArray below meth c H locs 0 0 Q (F0 m 11 ls []) := by
    intro n2
    induction n2 with
    | zero => intro x4_2 x5_2 u2 H locs ls hG hl hf; cases hf
    | succ n2 ih2 =>
      intro x4_2 x5_2 u2 H locs ls hG hl hf
      obtain ⟨X2, hf, hX2⟩ := while_s hf
      have hf : f_X8_holds_L11 p1 p2 p3 x4_2 x5_2 u2 = some X2 := hf
      unfold f_X8_holds_L11 at hf
      refine lv_iload hx hb dX8_holds_11 (lv_at hl 5 rfl) ?_
      refine lv_aload_n hx hb dX8_holds_13 rfl (lv_at hl 0 rfl) ?_
      refine g_getSa (o := 13) (a := 95) C0 hG (L82 hG) rfl 22 (by decide) rfl rfl w_868 dX8_holds_14 ?_
      refine lv_iload_n hx hb dX8_holds_17 rfl (lv_at hl 1 rfl) ?_
      obtain ⟨h3, hf⟩ := gin_s hf
      refine g_iald C0 hG (L95 hG) h3 dX8_holds_18 ?_
      refine lv_icmp_ge (tgt := 253) hx hb dX8_holds_19 (by decide) (fun c4 => ?_) (fun c4 => ?_)
      · have hf := gif_t c4 hf
        refine lv_aload_n hx hb dX8_holds_253 rfl (lv_at hl 0 rfl) ?_
        refine g_getSa (o := 17) (a := 99) C0 hG (L82 hG) rfl 29 (by decide) rfl rfl w_875 dX8_holds_254 ?_
        refine lv_iconst (v := (0 : Int32)) hx hb dX8_holds_257 (by decide) ?_
        obtain ⟨h5, hf⟩ := gin_s hf
        refine g_zald C0 hG (L99 hG) h5 dX8_holds_258 ?_
        obtain ⟨h6, hf⟩ := gbo_s hf
        have hf := while_r hX2 hf
        obtain ⟨hr1, hu⟩ := gret_s hf
        subst hr1
        subst hu
        subst hQ
        exact g_zret C0 hG hr h6 dX8_holds_259
      · have hf := gif_f c4 hf
        refine lv_aload_n hx hb dX8_holds_22 rfl (lv_at hl 0 rfl) ?_
        refine g_getSa (o := 14) (a := 96) C0 hG (L82 hG) rfl 23 (by decide) rfl rfl w_869 dX8_holds_23 ?_
        refine lv_iload hx hb dX8_holds_26 (lv_at hl 5 rfl) ?_
        obtain ⟨h7, hf⟩ := gin_s hf
        refine g_iald C0 hG (L96 hG) h7 dX8_holds_28 ?_
        refine lv_istore (lv' := [(6, .int (gA u2 96 x5_2.toNatClampNeg)), (0, .ref (base + 82)), (1, .int p1), (2, .int p2), (3, .int p3), (4, .int x4_2), (5, .int x5_2)]) hx hb dX8_holds_29 hl (by decide) rfl (fun ls hl => ?_)
        refine lv_iload hx hb dX8_holds_31 (lv_at hl 0 rfl) ?_
        refine lv_bipush (v := (-33 : Int32)) hx hb dX8_holds_33 (by decide) ?_
        refine lv_icmp_ne (tgt := 67) hx hb dX8_holds_35 (by decide) (fun c8 => ?_) (fun c8 => ?_)
        · have hf := gif_f c8 hf
          refine lv_iload hx hb dX8_holds_67 (lv_at hl 0 rfl) ?_
          refine lv_if_ge (tgt := 151) hx hb dX8_holds_69 (by decide) (fun c9 => ?_) (fun c9 => ?_)
          · have hf := gif_t c9 hf
            refine lv_aload_n hx hb dX8_holds_151 rfl (lv_at hl 1 rfl) ?_
            refine lv_iload hx hb dX8_holds_152 (lv_at hl 0 rfl) ?_
            refine lv_sipush (v := (1000 : Int32)) hx hb dX8_holds_154 (by decide) ?_
            refine lv_idiv hx hb dX8_holds_157 (by decide) ?_
            refine lv_iload_n hx hb dX8_holds_158 rfl (lv_at hl 3 rfl) ?_
            refine lv_iload_n hx hb dX8_holds_159 rfl (lv_at hl 4 rfl) ?_
            obtain ⟨r10, hc10, hf⟩ := pb_s hf
            refine g_doI0 hG (g_runV C0 hG (k_X8_factOf l D base Z u2 ((gA u2 96 x5_2.toNatClampNeg) / (1000 : Int32)) p2 p3 r10 hc10) m_X8_factOf v_X8_factOf w_1222 (by decide) (g_recv C0 hG (L82 hG) rfl) rfl hl.1 rfl (Nat.le_of_ble_eq_true rfl) dX8_holds_160 ⟨Nat.zero_le _, Nat.zero_le _⟩) (fun H locs hG hk => ?_)
            refine lv_istore (lv' := [(7, .int r10), (6, .int (gA u2 96 x5_2.toNatClampNeg)), (0, .ref (base + 82)), (1, .int p1), (2, .int p2), (3, .int p3), (4, .int x4_2), (5, .int x5_2)]) hx hb dX8_holds_163 hl (by decide) rfl (fun ls hl => ?_)
            refine lv_iload hx hb dX8_holds_165 (lv_at hl 1 rfl) ?_
            refine lv_bipush (v := (100 : Int32)) hx hb dX8_holds_167 (by decide) ?_
            refine lv_idiv hx hb dX8_holds_169 (by decide) ?_
            refine lv_bipush (v := (10 : Int32)) hx hb dX8_holds_170 (by decide) ?_
            refine lv_irem hx hb dX8_holds_172 (by decide) ?_
            refine lv_istore (lv' := [(8, .int (((gA u2 96 x5_2.toNatClampNeg) / (100 : Int32)) - ((gA u2 96 x5_2.toNatClampNeg) / (100 : Int32)) / (10 : Int32) * (10 : Int32))), (7, .int r10), (6, .int (gA u2 96 x5_2.toNatClampNeg)), (0, .ref (base + 82)), (1, .int p1), (2, .int p2), (3, .int p3), (4, .int x4_2), (5, .int x5_2)]) hx hb dX8_holds_173 hl (by decide) rfl (fun ls hl => ?_)
            refine lv_aload_n hx hb dX8_holds_175 rfl (lv_at hl 3 rfl) ?_
            refine g_getSa (o := 17) (a := 99) C0 hG (L82 hG) rfl 29 (by decide) rfl rfl w_875 dX8_holds_176 ?_
            refine lv_iload hx hb dX8_holds_179 (lv_at hl 7 rfl) ?_
            refine lv_iload hx hb dX8_holds_181 (lv_at hl 0 rfl) ?_
            refine lv_if_ne (tgt := 204) hx hb dX8_holds_183 (by decide) (fun c11 => ?_) (fun c11 => ?_)
            · have hf := gif_f c11 hf
              refine lv_iload hx hb dX8_holds_204 (lv_at hl 0 rfl) ?_
              refine lv_iconst (v := (1 : Int32)) hx hb dX8_holds_206 (by decide) ?_
              refine lv_icmp_ne (tgt := 228) hx hb dX8_holds_207 (by decide) (fun c12 => ?_) (fun c12 => ?_)
              · have hf := gif_f c12 hf
                refine lv_iload hx hb dX8_holds_228 (lv_at hl 1 rfl) ?_
                refine lv_iload hx hb dX8_holds_230 (lv_at hl 2 rfl) ?_
                refine lv_bipush (v := (100 : Int32)) hx hb dX8_holds_232 (by decide) ?_
                refine lv_irem hx hb dX8_holds_234 (by decide) ?_
                refine lv_icmp_le (tgt := 242) hx hb dX8_holds_235 (by decide) (fun c13 => ?_) (fun c13 => ?_)
                · have hf := gif_t c13 hf
                  refine lv_iconst (v := (0 : Int32)) hx hb dX8_holds_242 (by decide) ?_
                  obtain ⟨h14, hf⟩ := gin_s hf
                  refine g_zast C0 hG (L99 hG) h14 dX8_holds_243 (fun H locs hG => ?_)
                  refine lv_iinc (v := x4_2 + (1 : Int32)) (lv' := [(4, .int (x4_2 + (1 : Int32))), (8, .int (((gA u2 96 x5_2.toNatClampNeg) / (100 : Int32)) - ((gA u2 96 x5_2.toNatClampNeg) / (100 : Int32)) / (10 : Int32) * (10 : Int32))), (7, .int r10), (6, .int (gA u2 96 x5_2.toNatClampNeg)), (0, .ref (base + 82)), (1, .int p1), (2, .int p2), (3, .int p3), (5, .int x5_2)]) hx hb dX8_holds_244 hl (k := 7) rfl rfl (by decide) rfl (fun ls hl => ?_)
                  refine lv_iinc (v := x5_2 + (1 : Int32)) (lv' := [(5, .int (x5_2 + (1 : Int32))), (4, .int (x4_2 + (1 : Int32))), (8, .int (((gA u2 96 x5_2.toNatClampNeg) / (100 : Int32)) - ((gA u2 96 x5_2.toNatClampNeg) / (100 : Int32)) / (10 : Int32) * (10 : Int32))), (7, .int r10), (6, .int (gA u2 96 x5_2.toNatClampNeg)), (0, .ref (base + 82)), (1, .int p1), (2, .int p2), (3, .int p3)]) hx hb dX8_holds_247 hl (k := 8) rfl rfl (by decide) rfl (fun ls hl => ?_)
                  refine lv_goto (tgt := 11) hx hb dX8_holds_250 (by decide) ?_
                  have hf := while_l hX2 hf
                  exact ih2 (x4_2 + (1 : Int32)) (x5_2 + (1 : Int32)) (sA u2 99 x4_2.toNatClampNeg (vp_nar .boolean (0 : Int32))) _ _ ls hG (lv_sub hl [5, 6, 7, 8, 1, 0] rfl) hf
                · have hf := gif_f c13 hf
                  refine lv_iconst (v := (1 : Int32)) hx hb dX8_holds_238 (by decide) ?_
                  refine lv_goto (tgt := 243) hx hb dX8_holds_239 (by decide) ?_
                  obtain ⟨h15, hf⟩ := gin_s hf
                  refine g_zast C0 hG (L99 hG) h15 dX8_holds_243 (fun H locs hG => ?_)
                  refine lv_iinc (v := x4_2 + (1 : Int32)) (lv' := [(4, .int (x4_2 + (1 : Int32))), (8, .int (((gA u2 96 x5_2.toNatClampNeg) / (100 : Int32)) - ((gA u2 96 x5_2.toNatClampNeg) / (100 : Int32)) / (10 : Int32) * (10 : Int32))), (7, .int r10), (6, .int (gA u2 96 x5_2.toNatClampNeg)), (0, .ref (base + 82)), (1, .int p1), (2, .int p2), (3, .int p3), (5, .int x5_2)]) hx hb dX8_holds_244 hl (k := 7) rfl rfl (by decide) rfl (fun ls hl => ?_)
                  refine lv_iinc (v := x5_2 + (1 : Int32)) (lv' := [(5, .int (x5_2 + (1 : Int32))), (4, .int (x4_2 + (1 : Int32))), (8, .int (((gA u2 96 x5_2.toNatClampNeg) / (100 : Int32)) - ((gA u2 96 x5_2.toNatClampNeg) / (100 : Int32)) / (10 : Int32) * (10 : Int32))), (7, .int r10), (6, .int (gA u2 96 x5_2.toNatClampNeg)), (0, .ref (base + 82)), (1, .int p1), (2, .int p2), (3, .int p3)]) hx hb dX8_holds_247 hl (k := 8) rfl rfl (by decide) rfl (fun ls hl => ?_)
                  refine lv_goto (tgt := 11) hx hb dX8_holds_250 (by decide) ?_
                  have hf := while_l hX2 hf
                  exact ih2 (x4_2 + (1 : Int32)) (x5_2 + (1 : Int32)) (sA u2 99 x4_2.toNatClampNeg (vp_nar .boolean (1 : Int32))) _ _ ls hG (lv_sub hl [5, 6, 7, 8, 1, 0] rfl) hf
              · have hf := gif_t c12 hf
                refine lv_iload hx hb dX8_holds_210 (lv_at hl 1 rfl) ?_
                refine lv_iload hx hb dX8_holds_212 (lv_at hl 2 rfl) ?_
                refine lv_bipush (v := (100 : Int32)) hx hb dX8_holds_214 (by decide) ?_
                refine lv_irem hx hb dX8_holds_216 (by decide) ?_
                refine lv_icmp_ne (tgt := 224) hx hb dX8_holds_217 (by decide) (fun c16 => ?_) (fun c16 => ?_)
                · have hf := gif_f c16 hf
                  refine lv_iconst (v := (0 : Int32)) hx hb dX8_holds_224 (by decide) ?_
                  refine lv_goto (tgt := 243) hx hb dX8_holds_225 (by decide) ?_
                  obtain ⟨h17, hf⟩ := gin_s hf
                  refine g_zast C0 hG (L99 hG) h17 dX8_holds_243 (fun H locs hG => ?_)
                  refine lv_iinc (v := x4_2 + (1 : Int32)) (lv' := [(4, .int (x4_2 + (1 : Int32))), (8, .int (((gA u2 96 x5_2.toNatClampNeg) / (100 : Int32)) - ((gA u2 96 x5_2.toNatClampNeg) / (100 : Int32)) / (10 : Int32) * (10 : Int32))), (7, .int r10), (6, .int (gA u2 96 x5_2.toNatClampNeg)), (0, .ref (base + 82)), (1, .int p1), (2, .int p2), (3, .int p3), (5, .int x5_2)]) hx hb dX8_holds_244 hl (k := 7) rfl rfl (by decide) rfl (fun ls hl => ?_)
                  refine lv_iinc (v := x5_2 + (1 : Int32)) (lv' := [(5, .int (x5_2 + (1 : Int32))), (4, .int (x4_2 + (1 : Int32))), (8, .int (((gA u2 96 x5_2.toNatClampNeg) / (100 : Int32)) - ((gA u2 96 x5_2.toNatClampNeg) / (100 : Int32)) / (10 : Int32) * (10 : Int32))), (7, .int r10), (6, .int (gA u2 96 x5_2.toNatClampNeg)), (0, .ref (base + 82)), (1, .int p1), (2, .int p2), (3, .int p3)]) hx hb dX8_holds_247 hl (k := 8) rfl rfl (by decide) rfl (fun ls hl => ?_)
                  refine lv_goto (tgt := 11) hx hb dX8_holds_250 (by decide) ?_
                  have hf := while_l hX2 hf
                  exact ih2 (x4_2 + (1 : Int32)) (x5_2 + (1 : Int32)) (sA u2 99 x4_2.toNatClampNeg (vp_nar .boolean (0 : Int32))) _ _ ls hG (lv_sub hl [5, 6, 7, 8, 1, 0] rfl) hf
                · have hf := gif_t c16 hf
                  refine lv_iconst (v := (1 : Int32)) hx hb dX8_holds_220 (by decide) ?_
                  refine lv_goto (tgt := 243) hx hb dX8_holds_221 (by decide) ?_
                  obtain ⟨h18, hf⟩ := gin_s hf
                  refine g_zast C0 hG (L99 hG) h18 dX8_holds_243 (fun H locs hG => ?_)
                  refine lv_iinc (v := x4_2 + (1 : Int32)) (lv' := [(4, .int (x4_2 + (1 : Int32))), (8, .int (((gA u2 96 x5_2.toNatClampNeg) / (100 : Int32)) - ((gA u2 96 x5_2.toNatClampNeg) / (100 : Int32)) / (10 : Int32) * (10 : Int32))), (7, .int r10), (6, .int (gA u2 96 x5_2.toNatClampNeg)), (0, .ref (base + 82)), (1, .int p1), (2, .int p2), (3, .int p3), (5, .int x5_2)]) hx hb dX8_holds_244 hl (k := 7) rfl rfl (by decide) rfl (fun ls hl => ?_)
                  refine lv_iinc (v := x5_2 + (1 : Int32)) (lv' := [(5, .int (x5_2 + (1 : Int32))), (4, .int (x4_2 + (1 : Int32))), (8, .int (((gA u2 96 x5_2.toNatClampNeg) / (100 : Int32)) - ((gA u2 96 x5_2.toNatClampNeg) / (100 : Int32)) / (10 : Int32) * (10 : Int32))), (7, .int r10), (6, .int (gA u2 96 x5_2.toNatClampNeg)), (0, .ref (base + 82)), (1, .int p1), (2, .int p2), (3, .int p3)]) hx hb dX8_holds_247 hl (k := 8) rfl rfl (by decide) rfl (fun ls hl => ?_)
                  refine lv_goto (tgt := 11) hx hb dX8_holds_250 (by decide) ?_
                  have hf := while_l hX2 hf
                  exact ih2 (x4_2 + (1 : Int32)) (x5_2 + (1 : Int32)) (sA u2 99 x4_2.toNatClampNeg (vp_nar .boolean (1 : Int32))) _ _ ls hG (lv_sub hl [5, 6, 7, 8, 1, 0] rfl) hf
            · have hf := gif_t c11 hf
              refine lv_iload hx hb dX8_holds_186 (lv_at hl 1 rfl) ?_
              refine lv_iload hx hb dX8_holds_188 (lv_at hl 2 rfl) ?_
              refine lv_bipush (v := (100 : Int32)) hx hb dX8_holds_190 (by decide) ?_
              refine lv_irem hx hb dX8_holds_192 (by decide) ?_
              refine lv_icmp_ge (tgt := 200) hx hb dX8_holds_193 (by decide) (fun c19 => ?_) (fun c19 => ?_)
              · have hf := gif_t c19 hf
                refine lv_iconst (v := (0 : Int32)) hx hb dX8_holds_200 (by decide) ?_
                refine lv_goto (tgt := 243) hx hb dX8_holds_201 (by decide) ?_
                obtain ⟨h20, hf⟩ := gin_s hf
                refine g_zast C0 hG (L99 hG) h20 dX8_holds_243 (fun H locs hG => ?_)
                refine lv_iinc (v := x4_2 + (1 : Int32)) (lv' := [(4, .int (x4_2 + (1 : Int32))), (8, .int (((gA u2 96 x5_2.toNatClampNeg) / (100 : Int32)) - ((gA u2 96 x5_2.toNatClampNeg) / (100 : Int32)) / (10 : Int32) * (10 : Int32))), (7, .int r10), (6, .int (gA u2 96 x5_2.toNatClampNeg)), (0, .ref (base + 82)), (1, .int p1), (2, .int p2), (3, .int p3), (5, .int x5_2)]) hx hb dX8_holds_244 hl (k := 7) rfl rfl (by decide) rfl (fun ls hl => ?_)
                refine lv_iinc (v := x5_2 + (1 : Int32)) (lv' := [(5, .int (x5_2 + (1 : Int32))), (4, .int (x4_2 + (1 : Int32))), (8, .int (((gA u2 96 x5_2.toNatClampNeg) / (100 : Int32)) - ((gA u2 96 x5_2.toNatClampNeg) / (100 : Int32)) / (10 : Int32) * (10 : Int32))), (7, .int r10), (6, .int (gA u2 96 x5_2.toNatClampNeg)), (0, .ref (base + 82)), (1, .int p1), (2, .int p2), (3, .int p3)]) hx hb dX8_holds_247 hl (k := 8) rfl rfl (by decide) rfl (fun ls hl => ?_)
                refine lv_goto (tgt := 11) hx hb dX8_holds_250 (by decide) ?_
                have hf := while_l hX2 hf
                exact ih2 (x4_2 + (1 : Int32)) (x5_2 + (1 : Int32)) (sA u2 99 x4_2.toNatClampNeg (vp_nar .boolean (0 : Int32))) _ _ ls hG (lv_sub hl [5, 6, 7, 8, 1, 0] rfl) hf
              · have hf := gif_f c19 hf
                refine lv_iconst (v := (1 : Int32)) hx hb dX8_holds_196 (by decide) ?_
                refine lv_goto (tgt := 243) hx hb dX8_holds_197 (by decide) ?_
                obtain ⟨h21, hf⟩ := gin_s hf
                refine g_zast C0 hG (L99 hG) h21 dX8_holds_243 (fun H locs hG => ?_)
                refine lv_iinc (v := x4_2 + (1 : Int32)) (lv' := [(4, .int (x4_2 + (1 : Int32))), (8, .int (((gA u2 96 x5_2.toNatClampNeg) / (100 : Int32)) - ((gA u2 96 x5_2.toNatClampNeg) / (100 : Int32)) / (10 : Int32) * (10 : Int32))), (7, .int r10), (6, .int (gA u2 96 x5_2.toNatClampNeg)), (0, .ref (base + 82)), (1, .int p1), (2, .int p2), (3, .int p3), (5, .int x5_2)]) hx hb dX8_holds_244 hl (k := 7) rfl rfl (by decide) rfl (fun ls hl => ?_)
                refine lv_iinc (v := x5_2 + (1 : Int32)) (lv' := [(5, .int (x5_2 + (1 : Int32))), (4, .int (x4_2 + (1 : Int32))), (8, .int (((gA u2 96 x5_2.toNatClampNeg) / (100 : Int32)) - ((gA u2 96 x5_2.toNatClampNeg) / (100 : Int32)) / (10 : Int32) * (10 : Int32))), (7, .int r10), (6, .int (gA u2 96 x5_2.toNatClampNeg)), (0, .ref (base + 82)), (1, .int p1), (2, .int p2), (3, .int p3)]) hx hb dX8_holds_247 hl (k := 8) rfl rfl (by decide) rfl (fun ls hl => ?_)
                refine lv_goto (tgt := 11) hx hb dX8_holds_250 (by decide) ?_
                have hf := while_l hX2 hf
                exact ih2 (x4_2 + (1 : Int32)) (x5_2 + (1 : Int32)) (sA u2 99 x4_2.toNatClampNeg (vp_nar .boolean (1 : Int32))) _ _ ls hG (lv_sub hl [5, 6, 7, 8, 1, 0] rfl) hf
          · have hf := gif_f c9 hf
            refine lv_iinc (v := x4_2 + (-1 : Int32)) (lv' := [(4, .int (x4_2 + (-1 : Int32))), (6, .int (gA u2 96 x5_2.toNatClampNeg)), (0, .ref (base + 82)), (1, .int p1), (2, .int p2), (3, .int p3), (5, .int x5_2)]) hx hb dX8_holds_72 hl (k := 5) rfl rfl (by decide) rfl (fun ls hl => ?_)
            refine lv_aload_n hx hb dX8_holds_75 rfl (lv_at hl 2 rfl) ?_
            refine g_getSa (o := 17) (a := 99) C0 hG (L82 hG) rfl 29 (by decide) rfl rfl w_875 dX8_holds_76 ?_
            refine lv_iload hx hb dX8_holds_79 (lv_at hl 0 rfl) ?_
            refine lv_iconst (v := (1 : Int32)) hx hb dX8_holds_81 (by decide) ?_
            refine lv_isub hx hb dX8_holds_82 ?_
            refine lv_iload hx hb dX8_holds_83 (lv_at hl 1 rfl) ?_
            refine lv_bipush (v := (-38 : Int32)) hx hb dX8_holds_85 (by decide) ?_
            refine lv_icmp_ne (tgt := 120) hx hb dX8_holds_87 (by decide) (fun c22 => ?_) (fun c22 => ?_)
            · have hf := gif_f c22 hf
              refine lv_aload_n hx hb dX8_holds_120 rfl (lv_at hl 2 rfl) ?_
              refine g_getSa (o := 17) (a := 99) C0 hG (L82 hG) rfl 29 (by decide) rfl rfl w_875 dX8_holds_121 ?_
              refine lv_iload hx hb dX8_holds_124 (lv_at hl 0 rfl) ?_
              refine lv_iconst (v := (1 : Int32)) hx hb dX8_holds_126 (by decide) ?_
              refine lv_isub hx hb dX8_holds_127 ?_
              obtain ⟨h23, hf⟩ := gin_s hf
              refine g_zald C0 hG (L99 hG) h23 dX8_holds_128 ?_
              refine lv_if_ne (tgt := 142) hx hb dX8_holds_129 (by decide) (fun c24 => ?_) (fun c24 => ?_)
              · have hf := gif_f c24 hf
                refine lv_iconst (v := (1 : Int32)) hx hb dX8_holds_142 (by decide) ?_
                refine lv_goto (tgt := 147) hx hb dX8_holds_143 (by decide) ?_
                obtain ⟨h25, hf⟩ := gin_s hf
                refine g_zast C0 hG (L99 hG) h25 dX8_holds_147 (fun H locs hG => ?_)
                refine lv_goto (tgt := 247) hx hb dX8_holds_148 (by decide) ?_
                refine lv_iinc (v := x5_2 + (1 : Int32)) (lv' := [(5, .int (x5_2 + (1 : Int32))), (4, .int (x4_2 + (-1 : Int32))), (6, .int (gA u2 96 x5_2.toNatClampNeg)), (0, .ref (base + 82)), (1, .int p1), (2, .int p2), (3, .int p3)]) hx hb dX8_holds_247 hl (k := 6) rfl rfl (by decide) rfl (fun ls hl => ?_)
                refine lv_goto (tgt := 11) hx hb dX8_holds_250 (by decide) ?_
                have hf := while_l hX2 hf
                exact ih2 (x4_2 + (-1 : Int32)) (x5_2 + (1 : Int32)) (sA u2 99 ((x4_2 + (-1 : Int32)) - (1 : Int32)).toNatClampNeg (vp_nar .boolean (1 : Int32))) _ _ ls hG (lv_sub hl [3, 4, 5, 6, 1, 0] rfl) hf
              · have hf := gif_t c24 hf
                refine lv_aload_n hx hb dX8_holds_132 rfl (lv_at hl 2 rfl) ?_
                refine g_getSa (o := 17) (a := 99) C0 hG (L82 hG) rfl 29 (by decide) rfl rfl w_875 dX8_holds_133 ?_
                refine lv_iload hx hb dX8_holds_136 (lv_at hl 0 rfl) ?_
                obtain ⟨h26, hf⟩ := gin_s hf
                refine g_zald C0 hG (L99 hG) h26 dX8_holds_138 ?_
                refine lv_if_eq (tgt := 146) hx hb dX8_holds_139 (by decide) (fun c27 => ?_) (fun c27 => ?_)
                · have hf := gif_t c27 hf
                  refine lv_iconst (v := (0 : Int32)) hx hb dX8_holds_146 (by decide) ?_
                  obtain ⟨h28, hf⟩ := gin_s hf
                  refine g_zast C0 hG (L99 hG) h28 dX8_holds_147 (fun H locs hG => ?_)
                  refine lv_goto (tgt := 247) hx hb dX8_holds_148 (by decide) ?_
                  refine lv_iinc (v := x5_2 + (1 : Int32)) (lv' := [(5, .int (x5_2 + (1 : Int32))), (4, .int (x4_2 + (-1 : Int32))), (6, .int (gA u2 96 x5_2.toNatClampNeg)), (0, .ref (base + 82)), (1, .int p1), (2, .int p2), (3, .int p3)]) hx hb dX8_holds_247 hl (k := 6) rfl rfl (by decide) rfl (fun ls hl => ?_)
                  refine lv_goto (tgt := 11) hx hb dX8_holds_250 (by decide) ?_
                  have hf := while_l hX2 hf
                  exact ih2 (x4_2 + (-1 : Int32)) (x5_2 + (1 : Int32)) (sA u2 99 ((x4_2 + (-1 : Int32)) - (1 : Int32)).toNatClampNeg (vp_nar .boolean (0 : Int32))) _ _ ls hG (lv_sub hl [3, 4, 5, 6, 1, 0] rfl) hf
                · have hf := gif_f c27 hf
                  refine lv_iconst (v := (1 : Int32)) hx hb dX8_holds_142 (by decide) ?_
                  refine lv_goto (tgt := 147) hx hb dX8_holds_143 (by decide) ?_
                  obtain ⟨h29, hf⟩ := gin_s hf
                  refine g_zast C0 hG (L99 hG) h29 dX8_holds_147 (fun H locs hG => ?_)
                  refine lv_goto (tgt := 247) hx hb dX8_holds_148 (by decide) ?_
                  refine lv_iinc (v := x5_2 + (1 : Int32)) (lv' := [(5, .int (x5_2 + (1 : Int32))), (4, .int (x4_2 + (-1 : Int32))), (6, .int (gA u2 96 x5_2.toNatClampNeg)), (0, .ref (base + 82)), (1, .int p1), (2, .int p2), (3, .int p3)]) hx hb dX8_holds_247 hl (k := 6) rfl rfl (by decide) rfl (fun ls hl => ?_)
                  refine lv_goto (tgt := 11) hx hb dX8_holds_250 (by decide) ?_
                  have hf := while_l hX2 hf
                  exact ih2 (x4_2 + (-1 : Int32)) (x5_2 + (1 : Int32)) (sA u2 99 ((x4_2 + (-1 : Int32)) - (1 : Int32)).toNatClampNeg (vp_nar .boolean (1 : Int32))) _ _ ls hG (lv_sub hl [3, 4, 5, 6, 1, 0] rfl) hf
            · have hf := gif_t c22 hf
              refine lv_aload_n hx hb dX8_holds_90 rfl (lv_at hl 2 rfl) ?_
              refine g_getSa (o := 17) (a := 99) C0 hG (L82 hG) rfl 29 (by decide) rfl rfl w_875 dX8_holds_91 ?_
              refine lv_iload hx hb dX8_holds_94 (lv_at hl 0 rfl) ?_
              refine lv_iconst (v := (1 : Int32)) hx hb dX8_holds_96 (by decide) ?_
              refine lv_isub hx hb dX8_holds_97 ?_
              obtain ⟨h30, hf⟩ := gin_s hf
              refine g_zald C0 hG (L99 hG) h30 dX8_holds_98 ?_
              refine lv_if_eq (tgt := 116) hx hb dX8_holds_99 (by decide) (fun c31 => ?_) (fun c31 => ?_)
              · have hf := gif_t c31 hf
                refine lv_iconst (v := (0 : Int32)) hx hb dX8_holds_116 (by decide) ?_
                refine lv_goto (tgt := 147) hx hb dX8_holds_117 (by decide) ?_
                obtain ⟨h32, hf⟩ := gin_s hf
                refine g_zast C0 hG (L99 hG) h32 dX8_holds_147 (fun H locs hG => ?_)
                refine lv_goto (tgt := 247) hx hb dX8_holds_148 (by decide) ?_
                refine lv_iinc (v := x5_2 + (1 : Int32)) (lv' := [(5, .int (x5_2 + (1 : Int32))), (4, .int (x4_2 + (-1 : Int32))), (6, .int (gA u2 96 x5_2.toNatClampNeg)), (0, .ref (base + 82)), (1, .int p1), (2, .int p2), (3, .int p3)]) hx hb dX8_holds_247 hl (k := 6) rfl rfl (by decide) rfl (fun ls hl => ?_)
                refine lv_goto (tgt := 11) hx hb dX8_holds_250 (by decide) ?_
                have hf := while_l hX2 hf
                exact ih2 (x4_2 + (-1 : Int32)) (x5_2 + (1 : Int32)) (sA u2 99 ((x4_2 + (-1 : Int32)) - (1 : Int32)).toNatClampNeg (vp_nar .boolean (0 : Int32))) _ _ ls hG (lv_sub hl [3, 4, 5, 6, 1, 0] rfl) hf
              · have hf := gif_f c31 hf
                refine lv_aload_n hx hb dX8_holds_102 rfl (lv_at hl 2 rfl) ?_
                refine g_getSa (o := 17) (a := 99) C0 hG (L82 hG) rfl 29 (by decide) rfl rfl w_875 dX8_holds_103 ?_
                refine lv_iload hx hb dX8_holds_106 (lv_at hl 0 rfl) ?_
                obtain ⟨h33, hf⟩ := gin_s hf
                refine g_zald C0 hG (L99 hG) h33 dX8_holds_108 ?_
                refine lv_if_eq (tgt := 116) hx hb dX8_holds_109 (by decide) (fun c34 => ?_) (fun c34 => ?_)
                · have hf := gif_t c34 hf
                  refine lv_iconst (v := (0 : Int32)) hx hb dX8_holds_116 (by decide) ?_
                  refine lv_goto (tgt := 147) hx hb dX8_holds_117 (by decide) ?_
                  obtain ⟨h35, hf⟩ := gin_s hf
                  refine g_zast C0 hG (L99 hG) h35 dX8_holds_147 (fun H locs hG => ?_)
                  refine lv_goto (tgt := 247) hx hb dX8_holds_148 (by decide) ?_
                  refine lv_iinc (v := x5_2 + (1 : Int32)) (lv' := [(5, .int (x5_2 + (1 : Int32))), (4, .int (x4_2 + (-1 : Int32))), (6, .int (gA u2 96 x5_2.toNatClampNeg)), (0, .ref (base + 82)), (1, .int p1), (2, .int p2), (3, .int p3)]) hx hb dX8_holds_247 hl (k := 6) rfl rfl (by decide) rfl (fun ls hl => ?_)
                  refine lv_goto (tgt := 11) hx hb dX8_holds_250 (by decide) ?_
                  have hf := while_l hX2 hf
                  exact ih2 (x4_2 + (-1 : Int32)) (x5_2 + (1 : Int32)) (sA u2 99 ((x4_2 + (-1 : Int32)) - (1 : Int32)).toNatClampNeg (vp_nar .boolean (0 : Int32))) _ _ ls hG (lv_sub hl [3, 4, 5, 6, 1, 0] rfl) hf
                · have hf := gif_f c34 hf
                  refine lv_iconst (v := (1 : Int32)) hx hb dX8_holds_112 (by decide) ?_
                  refine lv_goto (tgt := 147) hx hb dX8_holds_113 (by decide) ?_
                  obtain ⟨h36, hf⟩ := gin_s hf
                  refine g_zast C0 hG (L99 hG) h36 dX8_holds_147 (fun H locs hG => ?_)
                  refine lv_goto (tgt := 247) hx hb dX8_holds_148 (by decide) ?_
                  refine lv_iinc (v := x5_2 + (1 : Int32)) (lv' := [(5, .int (x5_2 + (1 : Int32))), (4, .int (x4_2 + (-1 : Int32))), (6, .int (gA u2 96 x5_2.toNatClampNeg)), (0, .ref (base + 82)), (1, .int p1), (2, .int p2), (3, .int p3)]) hx hb dX8_holds_247 hl (k := 6) rfl rfl (by decide) rfl (fun ls hl => ?_)
                  refine lv_goto (tgt := 11) hx hb dX8_holds_250 (by decide) ?_
                  have hf := while_l hX2 hf
                  exact ih2 (x4_2 + (-1 : Int32)) (x5_2 + (1 : Int32)) (sA u2 99 ((x4_2 + (-1 : Int32)) - (1 : Int32)).toNatClampNeg (vp_nar .boolean (1 : Int32))) _ _ ls hG (lv_sub hl [3, 4, 5, 6, 1, 0] rfl) hf
        · have hf := gif_t c8 hf
          refine lv_aload_n hx hb dX8_holds_38 rfl (lv_at hl 1 rfl) ?_
          refine g_getSa (o := 17) (a := 99) C0 hG (L82 hG) rfl 29 (by decide) rfl rfl w_875 dX8_holds_39 ?_
          refine lv_iload hx hb dX8_holds_42 (lv_at hl 5 rfl) ?_
          refine lv_iconst (v := (1 : Int32)) hx hb dX8_holds_44 (by decide) ?_
          refine lv_isub hx hb dX8_holds_45 ?_
          refine lv_aload_n hx hb dX8_holds_46 rfl (lv_at hl 1 rfl) ?_
          refine g_getSa (o := 17) (a := 99) C0 hG (L82 hG) rfl 29 (by decide) rfl rfl w_875 dX8_holds_47 ?_
          refine lv_iload hx hb dX8_holds_50 (lv_at hl 5 rfl) ?_
          refine lv_iconst (v := (1 : Int32)) hx hb dX8_holds_52 (by decide) ?_
          refine lv_isub hx hb dX8_holds_53 ?_
          obtain ⟨h37, hf⟩ := gin_s hf
          refine g_zald C0 hG (L99 hG) h37 dX8_holds_54 ?_
          refine lv_if_ne (tgt := 62) hx hb dX8_holds_55 (by decide) (fun c38 => ?_) (fun c38 => ?_)
          · have hf := gif_f c38 hf
            refine lv_iconst (v := (0 : Int32)) hx hb dX8_holds_62 (by decide) ?_
            obtain ⟨h39, hf⟩ := gin_s hf
            refine g_zast C0 hG (L99 hG) h39 dX8_holds_63 (fun H locs hG => ?_)
            refine lv_goto (tgt := 247) hx hb dX8_holds_64 (by decide) ?_
            refine lv_iinc (v := x5_2 + (1 : Int32)) (lv' := [(5, .int (x5_2 + (1 : Int32))), (6, .int (gA u2 96 x5_2.toNatClampNeg)), (0, .ref (base + 82)), (1, .int p1), (2, .int p2), (3, .int p3), (4, .int x4_2)]) hx hb dX8_holds_247 hl (k := 6) rfl rfl (by decide) rfl (fun ls hl => ?_)
            refine lv_goto (tgt := 11) hx hb dX8_holds_250 (by decide) ?_
            have hf := while_l hX2 hf
            exact ih2 x4_2 (x5_2 + (1 : Int32)) (sA u2 99 (x4_2 - (1 : Int32)).toNatClampNeg (vp_nar .boolean (0 : Int32))) _ _ ls hG (lv_sub hl [2, 3, 4, 5, 6, 0] rfl) hf
          · have hf := gif_t c38 hf
            refine lv_iconst (v := (1 : Int32)) hx hb dX8_holds_58 (by decide) ?_
            refine lv_goto (tgt := 63) hx hb dX8_holds_59 (by decide) ?_
            obtain ⟨h40, hf⟩ := gin_s hf
            refine g_zast C0 hG (L99 hG) h40 dX8_holds_63 (fun H locs hG => ?_)
            refine lv_goto (tgt := 247) hx hb dX8_holds_64 (by decide) ?_
            refine lv_iinc (v := x5_2 + (1 : Int32)) (lv' := [(5, .int (x5_2 + (1 : Int32))), (6, .int (gA u2 96 x5_2.toNatClampNeg)), (0, .ref (base + 82)), (1, .int p1), (2, .int p2), (3, .int p3), (4, .int x4_2)]) hx hb dX8_holds_247 hl (k := 6) rfl rfl (by decide) rfl (fun ls hl => ?_)
            refine lv_goto (tgt := 11) hx hb dX8_holds_250 (by decide) ?_
            have hf := while_l hX2 hf
            exact ih2 x4_2 (x5_2 + (1 : Int32)) (sA u2 99 (x4_2 - (1 : Int32)).toNatClampNeg (vp_nar .boolean (1 : Int32))) _ _ ls hG (lv_sub hl [2, 3, 4, 5, 6, 0] rfl) hf
  exact loop2 FUEL (0 : Int32) (gA u 94 p1.toNatClampNeg) u _ _ ls hG (lv_sub hl [2, 3, 4, 5, 1, 0] rfl) hf
theorem dX8_sum_0 : decode cX8_sum 0 = .ok (.iconst 2, 1) := by decide +kernel
theorem dX8_sum_1 : decode cX8_sum 1 = .ok (.aload_n 0, 1) := by decide +kernel
theorem dX8_sum_2 : decode cX8_sum 2 = .ok (.getfield 44, 3) := by decide +kernel
theorem dX8_sum_5 : decode cX8_sum 5 = .ok (.iload_n 2, 1) := by decide +kernel
theorem dX8_sum_6 : decode cX8_sum 6 = .ok (.iaload, 1) := by decide +kernel
theorem dX8_sum_7 : decode cX8_sum 7 = .ok (.imul, 1) := by decide +kernel
theorem dX8_sum_8 : decode cX8_sum 8 = .ok (.aload_n 0, 1) := by decide +kernel
theorem dX8_sum_9 : decode cX8_sum 9 = .ok (.getfield 41, 3) := by decide +kernel
theorem dX8_sum_12 : decode cX8_sum 12 = .ok (.iload_n 2, 1) := by decide +kernel
theorem dX8_sum_13 : decode cX8_sum 13 = .ok (.iaload, 1) := by decide +kernel
theorem dX8_sum_14 : decode cX8_sum 14 = .ok (.isub, 1) := by decide +kernel
theorem dX8_sum_15 : decode cX8_sum 15 = .ok (.istore_n 3, 1) := by decide +kernel
theorem dX8_sum_16 : decode cX8_sum 16 = .ok (.aload_n 0, 1) := by decide +kernel
theorem dX8_sum_17 : decode cX8_sum 17 = .ok (.invokevirtual 319, 3) := by decide +kernel
theorem dX8_sum_20 : decode cX8_sum 20 = .ok (.istore 4, 2) := by decide +kernel
theorem dX8_sum_22 : decode cX8_sum 22 = .ok (.iload 4, 2) := by decide +kernel
theorem dX8_sum_24 : decode cX8_sum 24 = .ok (.aload_n 0, 1) := by decide +kernel
theorem dX8_sum_25 : decode cX8_sum 25 = .ok (.invokevirtual 322, 3) := by decide +kernel
theorem dX8_sum_28 : decode cX8_sum 28 = .ok (.if_icmp .ge 65, 3) := by decide +kernel
theorem dX8_sum_31 : decode cX8_sum 31 = .ok (.aload_n 0, 1) := by decide +kernel
theorem dX8_sum_32 : decode cX8_sum 32 = .ok (.getfield 68, 3) := by decide +kernel
theorem dX8_sum_35 : decode cX8_sum 35 = .ok (.iload 4, 2) := by decide +kernel
theorem dX8_sum_37 : decode cX8_sum 37 = .ok (.iaload, 1) := by decide +kernel
theorem dX8_sum_38 : decode cX8_sum 38 = .ok (.iconst 1, 1) := by decide +kernel
theorem dX8_sum_39 : decode cX8_sum 39 = .ok (.if_icmp .gt 48, 3) := by decide +kernel
theorem dX8_sum_42 : decode cX8_sum 42 = .ok (.aload_n 0, 1) := by decide +kernel
theorem dX8_sum_43 : decode cX8_sum 43 = .ok (.iload 4, 2) := by decide +kernel
theorem dX8_sum_45 : decode cX8_sum 45 = .ok (.iload_n 1, 1) := by decide +kernel
theorem dX8_sum_46 : decode cX8_sum 46 = .ok (.iload_n 2, 1) := by decide +kernel
theorem dX8_sum_47 : decode cX8_sum 47 = .ok (.invokevirtual 329, 3) := by decide +kernel
theorem dX8_sum_50 : decode cX8_sum 50 = .ok (.ifCond .ne 6, 3) := by decide +kernel
theorem dX8_sum_53 : decode cX8_sum 53 = .ok (.goto 34, 3) := by decide +kernel
theorem dX8_sum_56 : decode cX8_sum 56 = .ok (.iload_n 3, 1) := by decide +kernel
theorem dX8_sum_57 : decode cX8_sum 57 = .ok (.aload_n 0, 1) := by decide +kernel
theorem dX8_sum_58 : decode cX8_sum 58 = .ok (.getfield 68, 3) := by decide +kernel
theorem dX8_sum_61 : decode cX8_sum 61 = .ok (.iload 4, 2) := by decide +kernel
theorem dX8_sum_63 : decode cX8_sum 63 = .ok (.iaload, 1) := by decide +kernel
theorem dX8_sum_64 : decode cX8_sum 64 = .ok (.ifCond .ne 13, 3) := by decide +kernel
theorem dX8_sum_67 : decode cX8_sum 67 = .ok (.aload_n 0, 1) := by decide +kernel
theorem dX8_sum_68 : decode cX8_sum 68 = .ok (.getfield 71, 3) := by decide +kernel
theorem dX8_sum_71 : decode cX8_sum 71 = .ok (.iload 4, 2) := by decide +kernel
theorem dX8_sum_73 : decode cX8_sum 73 = .ok (.iaload, 1) := by decide +kernel
theorem dX8_sum_74 : decode cX8_sum 74 = .ok (.goto 11, 3) := by decide +kernel
theorem dX8_sum_77 : decode cX8_sum 77 = .ok (.aload_n 0, 1) := by decide +kernel
theorem dX8_sum_78 : decode cX8_sum 78 = .ok (.getfield 71, 3) := by decide +kernel
theorem dX8_sum_81 : decode cX8_sum 81 = .ok (.iload 4, 2) := by decide +kernel
theorem dX8_sum_83 : decode cX8_sum 83 = .ok (.iaload, 1) := by decide +kernel
theorem dX8_sum_84 : decode cX8_sum 84 = .ok (.ineg, 1) := by decide +kernel
theorem dX8_sum_85 : decode cX8_sum 85 = .ok (.iadd, 1) := by decide +kernel
theorem dX8_sum_86 : decode cX8_sum 86 = .ok (.istore_n 3, 1) := by decide +kernel
theorem dX8_sum_87 : decode cX8_sum 87 = .ok (.iinc 4 1, 3) := by decide +kernel
theorem dX8_sum_90 : decode cX8_sum 90 = .ok (.goto (-68), 3) := by decide +kernel
theorem dX8_sum_93 : decode cX8_sum 93 = .ok (.iload_n 3, 1) := by decide +kernel
theorem dX8_sum_94 : decode cX8_sum 94 = .ok (.ireturn, 1) := by decide +kernel
def f_X8_sum_L22 (p1 : Int32) (p2 : Int32) (x3_4 : Int32) (x4_4 : Int32) (u4 : Mem) : Option ((Int32 × Int32 × Mem) ⊕ (Int32 × Mem)) := Option.bind (f_X8_behind u4) (fun r5 => (if r5 ≤ x4_4 then some (Sum.inr (x3_4, u4)) else gin x4_4 60 ((if (1 : Int32) < (gA u4 92 x4_4.toNatClampNeg) then some (Sum.inl (x3_4, (x4_4 + (1 : Int32), u4))) else obind (f_X8_holds x4_4 p1 p2 u4) (fun r9 u9 => (if r9 = 0 then some (Sum.inl (x3_4, (x4_4 + (1 : Int32), u9))) else gin x4_4 60 ((if (gA u9 92 x4_4.toNatClampNeg) = 0 then gin x4_4 60 (some (Sum.inl (x3_4 + (gA u9 93 x4_4.toNatClampNeg), (x4_4 + (1 : Int32), u9)))) else gin x4_4 60 (some (Sum.inl (x3_4 + (-(gA u9 93 x4_4.toNatClampNeg)), (x4_4 + (1 : Int32), u9))))))))))))
def f_X8_sum (p1 : Int32) (p2 : Int32) (u : Mem) : Option (Int32 × Mem) := gin p2 8 (gin p2 8 (Option.bind (f_X8_begin u) (fun r3 => whileO (fun s => f_X8_sum_L22 p1 p2 s.1 s.2.1 s.2.2) FUEL (((2 : Int32) * (gA u 89 p2.toNatClampNeg)) - (gA u 88 p2.toNatClampNeg), (r3, u)))))
set_option maxHeartbeats 4000000 in
set_option maxRecDepth 100000 in
theorem k_X8_sum (l : Launch) (D : gDt) (base : Nat) (Z : gZt) (u : Mem) (p1 : Int32) (p2 : Int32) (r : Int32) (u' : Mem) (hf : f_X8_sum p1 p2 u = some (r, u')) : Met l yX8_sum (gws yX8_sum cX8_sum 5 (some .int)) (gRm 3 0 0) (gPc D base Z u [.ref (base + 82), .int p1, .int p2]) (gQi D base r u') 0 0 (gF base) := by
  refine Met.ofW (cc := cX8_sum) (maxL := 5) (ret := some .int) (by decide) rfl ?_
  intro p e s m args below meth c s₁ B hml hv
  obtain ⟨rfl, C0, hG⟩ := g_enter B hml hv
  have hr := B.returns
  have C0 : gC p s m meth c _ cX8_sum 5 RX8 D base Z := C0
  have hx := C0.1
  have hb := C0.2.1
  have hl := lv_entry ([.ref (base + 82), .int p1, .int p2]) (n := 5) (Nat.le_of_ble_eq_true rfl)
  rw [lg_entry_eq]
  generalize (lg_sl ([.ref (base + 82), .int p1, .int p2]) ++ List.replicate (5 - (lg_sl ([.ref (base + 82), .int p1, .int p2])).length) Slot.unset).toArray = ls at hl ⊢
  have hl : lv_has ls 5 [(0, .ref (base + 82)), (1, .int p1), (2, .int p2)] := hl
  obtain ⟨Q, hQ⟩ : ∃ Q, Q = MQ below (gQi D base r u') ([.ref (base + 82), .int p1, .int p2] : List Value).toArray s 0 0 (gF base) := ⟨_, rfl⟩
  rw [← hQ]
  change W p l e (gRm 3 0 0) s m _ below meth c _ _ _ _ _ _
  unfold f_X8_sum at hf
  refine lv_iconst (v := (2 : Int32)) hx hb dX8_sum_0 (by decide) ?_
  refine lv_aload_n hx hb dX8_sum_1 rfl (lv_at hl 0 rfl) ?_
  refine g_getSa (o := 7) (a := 89) C0 hG (L82 hG) rfl 11 (by decide) rfl rfl w_857 dX8_sum_2 ?_
  refine lv_iload_n hx hb dX8_sum_5 rfl (lv_at hl 2 rfl) ?_
  obtain ⟨h1, hf⟩ := gin_s hf
  refine g_iald C0 hG (L89 hG) h1 dX8_sum_6 ?_
  refine lv_imul hx hb dX8_sum_7 ?_
  refine lv_aload_n hx hb dX8_sum_8 rfl (lv_at hl 0 rfl) ?_
  refine g_getSa (o := 6) (a := 88) C0 hG (L82 hG) rfl 10 (by decide) rfl rfl w_856 dX8_sum_9 ?_
  refine lv_iload_n hx hb dX8_sum_12 rfl (lv_at hl 2 rfl) ?_
  obtain ⟨h2, hf⟩ := gin_s hf
  refine g_iald C0 hG (L88 hG) h2 dX8_sum_13 ?_
  refine lv_isub hx hb dX8_sum_14 ?_
  refine lv_istore_n (lv' := [(3, .int (((2 : Int32) * (gA u 89 p2.toNatClampNeg)) - (gA u 88 p2.toNatClampNeg))), (0, .ref (base + 82)), (1, .int p1), (2, .int p2)]) hx hb dX8_sum_15 rfl hl (by decide) rfl (fun ls hl => ?_)
  refine lv_aload_n hx hb dX8_sum_16 rfl (lv_at hl 1 rfl) ?_
  obtain ⟨r3, hc3, hf⟩ := pb_s hf
  refine g_doI0 hG (g_runV C0 hG (k_X8_begin l D base Z u r3 hc3) m_X8_begin v_X8_begin w_1210 (by decide) (g_recv C0 hG (L82 hG) rfl) rfl hl.1 rfl (Nat.le_of_ble_eq_true rfl) dX8_sum_17 ⟨Nat.zero_le _, Nat.zero_le _⟩) (fun H locs hG hk => ?_)
  refine lv_istore (lv' := [(4, .int r3), (3, .int (((2 : Int32) * (gA u 89 p2.toNatClampNeg)) - (gA u 88 p2.toNatClampNeg))), (0, .ref (base + 82)), (1, .int p1), (2, .int p2)]) hx hb dX8_sum_20 hl (by decide) rfl (fun ls hl => ?_)
  have loop4 : ∀ (n4 : Nat) (x3_4 : Int32) (x4_4 : Int32) (u4 : Mem) (H : Heap) (locs : List Loc) (ls : Array Slot), gH D base s u4 H locs → lv_has ls 5 [(0, .ref (base + 82)), (1, .int p1), (2, .int p2), (3, .int x3_4), (4, .int x4_4)] → whileO (fun s => f_X8_sum_L22 p1 p2 s.1 s.2.1 s.2.2) n4 (x3_4, (x4_4, u4)) = some (r, u') → W p l e (gRm 3 0 0) s m ([.ref (base + 82), .int p1, .int p2] : List Value).toArray below meth c H locs 0 0 Q (F0 m 22 ls []) := by
    intro n4
    induction n4 with
    | zero => intro x3_4 x4_4 u4 H locs ls hG hl hf; cases hf
    | succ n4 ih4 =>
      intro x3_4 x4_4 u4 H locs ls hG hl hf
      obtain ⟨X4, hf, hX4⟩ := while_s hf
      have hf : f_X8_sum_L22 p1 p2 x3_4 x4_4 u4 = some X4 := hf
      unfold f_X8_sum_L22 at hf
      refine lv_iload hx hb dX8_sum_22 (lv_at hl 4 rfl) ?_
      refine lv_aload_n hx hb dX8_sum_24 rfl (lv_at hl 0 rfl) ?_
      obtain ⟨r5, hc5, hf⟩ := pb_s hf
      refine g_doI0 hG (g_runV C0 hG (k_X8_behind l D base Z u4 r5 hc5) m_X8_behind v_X8_behind w_1214 (by decide) (g_recv C0 hG (L82 hG) rfl) rfl hl.1 rfl (Nat.le_of_ble_eq_true rfl) dX8_sum_25 ⟨Nat.zero_le _, Nat.zero_le _⟩) (fun H locs hG hk => ?_)
      refine lv_icmp_ge (tgt := 93) hx hb dX8_sum_28 (by decide) (fun c6 => ?_) (fun c6 => ?_)
      · have hf := gif_t c6 hf
        refine lv_iload_n hx hb dX8_sum_93 rfl (lv_at hl 3 rfl) ?_
        have hf := while_r hX4 hf
        obtain ⟨hr1, hu⟩ := gret_s hf
        subst hr1
        subst hu
        subst hQ
        exact g_iret C0 hG hr dX8_sum_94
      · have hf := gif_f c6 hf
        refine lv_aload_n hx hb dX8_sum_31 rfl (lv_at hl 0 rfl) ?_
        refine g_getSa (o := 10) (a := 92) C0 hG (L82 hG) rfl 19 (by decide) rfl rfl w_865 dX8_sum_32 ?_
        refine lv_iload hx hb dX8_sum_35 (lv_at hl 4 rfl) ?_
        obtain ⟨h7, hf⟩ := gin_s hf
        refine g_iald C0 hG (L92 hG) h7 dX8_sum_37 ?_
        refine lv_iconst (v := (1 : Int32)) hx hb dX8_sum_38 (by decide) ?_
        refine lv_icmp_gt (tgt := 87) hx hb dX8_sum_39 (by decide) (fun c8 => ?_) (fun c8 => ?_)
        · have hf := gif_t c8 hf
          refine lv_iinc (v := x4_4 + (1 : Int32)) (lv' := [(4, .int (x4_4 + (1 : Int32))), (0, .ref (base + 82)), (1, .int p1), (2, .int p2), (3, .int x3_4)]) hx hb dX8_sum_87 hl (k := 4) rfl rfl (by decide) rfl (fun ls hl => ?_)
          refine lv_goto (tgt := 22) hx hb dX8_sum_90 (by decide) ?_
          have hf := while_l hX4 hf
          exact ih4 x3_4 (x4_4 + (1 : Int32)) u4 _ _ ls hG (lv_sub hl [1, 2, 3, 4, 0] rfl) hf
        · have hf := gif_f c8 hf
          refine lv_aload_n hx hb dX8_sum_42 rfl (lv_at hl 0 rfl) ?_
          refine lv_iload hx hb dX8_sum_43 (lv_at hl 4 rfl) ?_
          refine lv_iload_n hx hb dX8_sum_45 rfl (lv_at hl 1 rfl) ?_
          refine lv_iload_n hx hb dX8_sum_46 rfl (lv_at hl 2 rfl) ?_
          obtain ⟨r9, u9, hc9, hf⟩ := obind_s hf
          refine g_doI0 hG (g_runV C0 hG (k_X8_holds l D base Z u4 x4_4 p1 p2 r9 u9 hc9) m_X8_holds v_X8_holds w_1218 (by decide) (g_recv C0 hG (L82 hG) rfl) rfl hl.1 rfl (Nat.le_of_ble_eq_true rfl) dX8_sum_47 ⟨Nat.zero_le _, Nat.zero_le _⟩) (fun H locs hG hk => ?_)
          refine lv_if_ne (tgt := 56) hx hb dX8_sum_50 (by decide) (fun c10 => ?_) (fun c10 => ?_)
          · have hf := gif_f c10 hf
            refine lv_iload_n hx hb dX8_sum_56 rfl (lv_at hl 3 rfl) ?_
            refine lv_aload_n hx hb dX8_sum_57 rfl (lv_at hl 0 rfl) ?_
            refine g_getSa (o := 10) (a := 92) C0 hG (L82 hG) rfl 19 (by decide) rfl rfl w_865 dX8_sum_58 ?_
            refine lv_iload hx hb dX8_sum_61 (lv_at hl 4 rfl) ?_
            obtain ⟨h11, hf⟩ := gin_s hf
            refine g_iald C0 hG (L92 hG) h11 dX8_sum_63 ?_
            refine lv_if_ne (tgt := 77) hx hb dX8_sum_64 (by decide) (fun c12 => ?_) (fun c12 => ?_)
            · have hf := gif_f c12 hf
              refine lv_aload_n hx hb dX8_sum_77 rfl (lv_at hl 0 rfl) ?_
              refine g_getSa (o := 11) (a := 93) C0 hG (L82 hG) rfl 20 (by decide) rfl rfl w_866 dX8_sum_78 ?_
              refine lv_iload hx hb dX8_sum_81 (lv_at hl 4 rfl) ?_
              obtain ⟨h13, hf⟩ := gin_s hf
              refine g_iald C0 hG (L93 hG) h13 dX8_sum_83 ?_
              refine lv_ineg hx hb dX8_sum_84 ?_
              refine lv_iadd hx hb dX8_sum_85 ?_
              refine lv_istore_n (lv' := [(3, .int (x3_4 + (-(gA u9 93 x4_4.toNatClampNeg)))), (0, .ref (base + 82)), (1, .int p1), (2, .int p2), (4, .int x4_4)]) hx hb dX8_sum_86 rfl hl (by decide) rfl (fun ls hl => ?_)
              refine lv_iinc (v := x4_4 + (1 : Int32)) (lv' := [(4, .int (x4_4 + (1 : Int32))), (3, .int (x3_4 + (-(gA u9 93 x4_4.toNatClampNeg)))), (0, .ref (base + 82)), (1, .int p1), (2, .int p2)]) hx hb dX8_sum_87 hl (k := 4) rfl rfl (by decide) rfl (fun ls hl => ?_)
              refine lv_goto (tgt := 22) hx hb dX8_sum_90 (by decide) ?_
              have hf := while_l hX4 hf
              exact ih4 (x3_4 + (-(gA u9 93 x4_4.toNatClampNeg))) (x4_4 + (1 : Int32)) u9 _ _ ls hG (lv_sub hl [2, 3, 4, 1, 0] rfl) hf
            · have hf := gif_t c12 hf
              refine lv_aload_n hx hb dX8_sum_67 rfl (lv_at hl 0 rfl) ?_
              refine g_getSa (o := 11) (a := 93) C0 hG (L82 hG) rfl 20 (by decide) rfl rfl w_866 dX8_sum_68 ?_
              refine lv_iload hx hb dX8_sum_71 (lv_at hl 4 rfl) ?_
              obtain ⟨h14, hf⟩ := gin_s hf
              refine g_iald C0 hG (L93 hG) h14 dX8_sum_73 ?_
              refine lv_goto (tgt := 85) hx hb dX8_sum_74 (by decide) ?_
              refine lv_iadd hx hb dX8_sum_85 ?_
              refine lv_istore_n (lv' := [(3, .int (x3_4 + (gA u9 93 x4_4.toNatClampNeg))), (0, .ref (base + 82)), (1, .int p1), (2, .int p2), (4, .int x4_4)]) hx hb dX8_sum_86 rfl hl (by decide) rfl (fun ls hl => ?_)
              refine lv_iinc (v := x4_4 + (1 : Int32)) (lv' := [(4, .int (x4_4 + (1 : Int32))), (3, .int (x3_4 + (gA u9 93 x4_4.toNatClampNeg))), (0, .ref (base + 82)), (1, .int p1), (2, .int p2)]) hx hb dX8_sum_87 hl (k := 4) rfl rfl (by decide) rfl (fun ls hl => ?_)
              refine lv_goto (tgt := 22) hx hb dX8_sum_90 (by decide) ?_
              have hf := while_l hX4 hf
              exact ih4 (x3_4 + (gA u9 93 x4_4.toNatClampNeg)) (x4_4 + (1 : Int32)) u9 _ _ ls hG (lv_sub hl [2, 3, 4, 1, 0] rfl) hf
          · have hf := gif_t c10 hf
            refine lv_goto (tgt := 87) hx hb dX8_sum_53 (by decide) ?_
            refine lv_iinc (v := x4_4 + (1 : Int32)) (lv' := [(4, .int (x4_4 + (1 : Int32))), (0, .ref (base + 82)), (1, .int p1), (2, .int p2), (3, .int x3_4)]) hx hb dX8_sum_87 hl (k := 4) rfl rfl (by decide) rfl (fun ls hl => ?_)
            refine lv_goto (tgt := 22) hx hb dX8_sum_90 (by decide) ?_
            have hf := while_l hX4 hf
            exact ih4 x3_4 (x4_4 + (1 : Int32)) u9 _ _ ls hG (lv_sub hl [1, 2, 3, 4, 0] rfl) hf
  exact loop4 FUEL (((2 : Int32) * (gA u 89 p2.toNatClampNeg)) - (gA u 88 p2.toNatClampNeg)) r3 u _ _ ls hG (lv_sub hl [2, 3, 4, 1, 0] rfl) hf
theorem dX8_glow_0 : decode cX8_glow 0 = .ok (.aload_n 0, 1) := by decide +kernel
theorem dX8_glow_1 : decode cX8_glow 1 = .ok (.iload_n 1, 1) := by decide +kernel
theorem dX8_glow_2 : decode cX8_glow 2 = .ok (.iload_n 2, 1) := by decide +kernel
theorem dX8_glow_3 : decode cX8_glow 3 = .ok (.invokevirtual 332, 3) := by decide +kernel
theorem dX8_glow_6 : decode cX8_glow 6 = .ok (.istore_n 3, 1) := by decide +kernel
theorem dX8_glow_7 : decode cX8_glow 7 = .ok (.aload_n 0, 1) := by decide +kernel
theorem dX8_glow_8 : decode cX8_glow 8 = .ok (.getfield 41, 3) := by decide +kernel
theorem dX8_glow_11 : decode cX8_glow 11 = .ok (.iload_n 2, 1) := by decide +kernel
theorem dX8_glow_12 : decode cX8_glow 12 = .ok (.iaload, 1) := by decide +kernel
theorem dX8_glow_13 : decode cX8_glow 13 = .ok (.ifCond .ne 9, 3) := by decide +kernel
theorem dX8_glow_16 : decode cX8_glow 16 = .ok (.iconst 2, 1) := by decide +kernel
theorem dX8_glow_17 : decode cX8_glow 17 = .ok (.iload_n 3, 1) := by decide +kernel
theorem dX8_glow_18 : decode cX8_glow 18 = .ok (.imul, 1) := by decide +kernel
theorem dX8_glow_19 : decode cX8_glow 19 = .ok (.goto 4, 3) := by decide +kernel
theorem dX8_glow_22 : decode cX8_glow 22 = .ok (.iload_n 3, 1) := by decide +kernel
theorem dX8_glow_23 : decode cX8_glow 23 = .ok (.istore 4, 2) := by decide +kernel
theorem dX8_glow_25 : decode cX8_glow 25 = .ok (.aload_n 0, 1) := by decide +kernel
theorem dX8_glow_26 : decode cX8_glow 26 = .ok (.getfield 25, 3) := by decide +kernel
theorem dX8_glow_29 : decode cX8_glow 29 = .ok (.iload_n 1, 1) := by decide +kernel
theorem dX8_glow_30 : decode cX8_glow 30 = .ok (.iaload, 1) := by decide +kernel
theorem dX8_glow_31 : decode cX8_glow 31 = .ok (.tableswitch 102 1 6 #[37, 46, 50, 53, 75, 86], 37) := by decide +kernel
theorem dX8_glow_68 : decode cX8_glow 68 = .ok (.iload_n 3, 1) := by decide +kernel
theorem dX8_glow_69 : decode cX8_glow 69 = .ok (.aload_n 0, 1) := by decide +kernel
theorem dX8_glow_70 : decode cX8_glow 70 = .ok (.getfield 29, 3) := by decide +kernel
theorem dX8_glow_73 : decode cX8_glow 73 = .ok (.iload_n 1, 1) := by decide +kernel
theorem dX8_glow_74 : decode cX8_glow 74 = .ok (.iaload, 1) := by decide +kernel
theorem dX8_glow_75 : decode cX8_glow 75 = .ok (.iadd, 1) := by decide +kernel
theorem dX8_glow_76 : decode cX8_glow 76 = .ok (.ireturn, 1) := by decide +kernel
theorem dX8_glow_77 : decode cX8_glow 77 = .ok (.iload_n 3, 1) := by decide +kernel
theorem dX8_glow_78 : decode cX8_glow 78 = .ok (.iconst 2, 1) := by decide +kernel
theorem dX8_glow_79 : decode cX8_glow 79 = .ok (.idiv, 1) := by decide +kernel
theorem dX8_glow_80 : decode cX8_glow 80 = .ok (.ireturn, 1) := by decide +kernel
theorem dX8_glow_81 : decode cX8_glow 81 = .ok (.iload 4, 2) := by decide +kernel
theorem dX8_glow_83 : decode cX8_glow 83 = .ok (.ireturn, 1) := by decide +kernel
theorem dX8_glow_84 : decode cX8_glow 84 = .ok (.aload_n 0, 1) := by decide +kernel
theorem dX8_glow_85 : decode cX8_glow 85 = .ok (.getfield 22, 3) := by decide +kernel
theorem dX8_glow_88 : decode cX8_glow 88 = .ok (.iconst 4, 1) := by decide +kernel
theorem dX8_glow_89 : decode cX8_glow 89 = .ok (.irem, 1) := by decide +kernel
theorem dX8_glow_90 : decode cX8_glow 90 = .ok (.ifCond .ne 14, 3) := by decide +kernel
theorem dX8_glow_93 : decode cX8_glow 93 = .ok (.iload_n 3, 1) := by decide +kernel
theorem dX8_glow_94 : decode cX8_glow 94 = .ok (.aload_n 0, 1) := by decide +kernel
theorem dX8_glow_95 : decode cX8_glow 95 = .ok (.getfield 29, 3) := by decide +kernel
theorem dX8_glow_98 : decode cX8_glow 98 = .ok (.iload_n 1, 1) := by decide +kernel
theorem dX8_glow_99 : decode cX8_glow 99 = .ok (.iaload, 1) := by decide +kernel
theorem dX8_glow_100 : decode cX8_glow 100 = .ok (.iadd, 1) := by decide +kernel
theorem dX8_glow_101 : decode cX8_glow 101 = .ok (.goto 4, 3) := by decide +kernel
theorem dX8_glow_104 : decode cX8_glow 104 = .ok (.iconst 0, 1) := by decide +kernel
theorem dX8_glow_105 : decode cX8_glow 105 = .ok (.ireturn, 1) := by decide +kernel
theorem dX8_glow_106 : decode cX8_glow 106 = .ok (.iload_n 3, 1) := by decide +kernel
theorem dX8_glow_107 : decode cX8_glow 107 = .ok (.iconst 2, 1) := by decide +kernel
theorem dX8_glow_108 : decode cX8_glow 108 = .ok (.idiv, 1) := by decide +kernel
theorem dX8_glow_109 : decode cX8_glow 109 = .ok (.aload_n 0, 1) := by decide +kernel
theorem dX8_glow_110 : decode cX8_glow 110 = .ok (.getfield 29, 3) := by decide +kernel
theorem dX8_glow_113 : decode cX8_glow 113 = .ok (.iload_n 1, 1) := by decide +kernel
theorem dX8_glow_114 : decode cX8_glow 114 = .ok (.iaload, 1) := by decide +kernel
theorem dX8_glow_115 : decode cX8_glow 115 = .ok (.isub, 1) := by decide +kernel
theorem dX8_glow_116 : decode cX8_glow 116 = .ok (.ireturn, 1) := by decide +kernel
theorem dX8_glow_117 : decode cX8_glow 117 = .ok (.iload 4, 2) := by decide +kernel
theorem dX8_glow_119 : decode cX8_glow 119 = .ok (.aload_n 0, 1) := by decide +kernel
theorem dX8_glow_120 : decode cX8_glow 120 = .ok (.getfield 38, 3) := by decide +kernel
theorem dX8_glow_123 : decode cX8_glow 123 = .ok (.iconst 4, 1) := by decide +kernel
theorem dX8_glow_124 : decode cX8_glow 124 = .ok (.iload_n 1, 1) := by decide +kernel
theorem dX8_glow_125 : decode cX8_glow 125 = .ok (.imul, 1) := by decide +kernel
theorem dX8_glow_126 : decode cX8_glow 126 = .ok (.iload_n 2, 1) := by decide +kernel
theorem dX8_glow_127 : decode cX8_glow 127 = .ok (.iconst 4, 1) := by decide +kernel
theorem dX8_glow_128 : decode cX8_glow 128 = .ok (.irem, 1) := by decide +kernel
theorem dX8_glow_129 : decode cX8_glow 129 = .ok (.iadd, 1) := by decide +kernel
theorem dX8_glow_130 : decode cX8_glow 130 = .ok (.iaload, 1) := by decide +kernel
theorem dX8_glow_131 : decode cX8_glow 131 = .ok (.iadd, 1) := by decide +kernel
theorem dX8_glow_132 : decode cX8_glow 132 = .ok (.ireturn, 1) := by decide +kernel
theorem dX8_glow_133 : decode cX8_glow 133 = .ok (.iload_n 3, 1) := by decide +kernel
theorem dX8_glow_134 : decode cX8_glow 134 = .ok (.ireturn, 1) := by decide +kernel
def f_X8_glow (p1 : Int32) (p2 : Int32) (u : Mem) : Option (Int32 × Mem) := obind (f_X8_sum p1 p2 u) (fun r1 u1 => gin p2 8 ((if (gA u1 88 p2.toNatClampNeg) = 0 then gin p1 6 ((if (gA u1 83 p1.toNatClampNeg) = (1 : Int32) then gin p1 6 (some (r1 + (gA u1 84 p1.toNatClampNeg), u1)) else (if (gA u1 83 p1.toNatClampNeg) = (2 : Int32) then some (r1 / (2 : Int32), u1) else (if (gA u1 83 p1.toNatClampNeg) = (3 : Int32) then some ((2 : Int32) * r1, u1) else (if (gA u1 83 p1.toNatClampNeg) = (4 : Int32) then (if ((gI u1 82 4) - (gI u1 82 4) / (4 : Int32) * (4 : Int32)) = 0 then gin p1 6 (some (r1 + (gA u1 84 p1.toNatClampNeg), u1)) else some ((0 : Int32), u1)) else (if (gA u1 83 p1.toNatClampNeg) = (5 : Int32) then gin p1 6 (some ((r1 / (2 : Int32)) - (gA u1 84 p1.toNatClampNeg), u1)) else (if (gA u1 83 p1.toNatClampNeg) = (6 : Int32) then gin (((4 : Int32) * p1) + (p2 - p2 / (4 : Int32) * (4 : Int32))) 24 (some (((2 : Int32) * r1) + (gA u1 87 (((4 : Int32) * p1) + (p2 - p2 / (4 : Int32) * (4 : Int32))).toNatClampNeg), u1)) else some (r1, u1)))))))) else gin p1 6 ((if (gA u1 83 p1.toNatClampNeg) = (1 : Int32) then gin p1 6 (some (r1 + (gA u1 84 p1.toNatClampNeg), u1)) else (if (gA u1 83 p1.toNatClampNeg) = (2 : Int32) then some (r1 / (2 : Int32), u1) else (if (gA u1 83 p1.toNatClampNeg) = (3 : Int32) then some (r1, u1) else (if (gA u1 83 p1.toNatClampNeg) = (4 : Int32) then (if ((gI u1 82 4) - (gI u1 82 4) / (4 : Int32) * (4 : Int32)) = 0 then gin p1 6 (some (r1 + (gA u1 84 p1.toNatClampNeg), u1)) else some ((0 : Int32), u1)) else (if (gA u1 83 p1.toNatClampNeg) = (5 : Int32) then gin p1 6 (some ((r1 / (2 : Int32)) - (gA u1 84 p1.toNatClampNeg), u1)) else (if (gA u1 83 p1.toNatClampNeg) = (6 : Int32) then gin (((4 : Int32) * p1) + (p2 - p2 / (4 : Int32) * (4 : Int32))) 24 (some (r1 + (gA u1 87 (((4 : Int32) * p1) + (p2 - p2 / (4 : Int32) * (4 : Int32))).toNatClampNeg), u1)) else some (r1, u1)))))))))))
set_option maxHeartbeats 4000000 in
set_option maxRecDepth 100000 in
theorem k_X8_glow (l : Launch) (D : gDt) (base : Nat) (Z : gZt) (u : Mem) (p1 : Int32) (p2 : Int32) (r : Int32) (u' : Mem) (hf : f_X8_glow p1 p2 u = some (r, u')) : Met l yX8_glow (gws yX8_glow cX8_glow 5 (some .int)) (gRm 4 0 0) (gPc D base Z u [.ref (base + 82), .int p1, .int p2]) (gQi D base r u') 0 0 (gF base) := by
  refine Met.ofW (cc := cX8_glow) (maxL := 5) (ret := some .int) (by decide) rfl ?_
  intro p e s m args below meth c s₁ B hml hv
  obtain ⟨rfl, C0, hG⟩ := g_enter B hml hv
  have hr := B.returns
  have C0 : gC p s m meth c _ cX8_glow 5 RX8 D base Z := C0
  have hx := C0.1
  have hb := C0.2.1
  have hl := lv_entry ([.ref (base + 82), .int p1, .int p2]) (n := 5) (Nat.le_of_ble_eq_true rfl)
  rw [lg_entry_eq]
  generalize (lg_sl ([.ref (base + 82), .int p1, .int p2]) ++ List.replicate (5 - (lg_sl ([.ref (base + 82), .int p1, .int p2])).length) Slot.unset).toArray = ls at hl ⊢
  have hl : lv_has ls 5 [(0, .ref (base + 82)), (1, .int p1), (2, .int p2)] := hl
  obtain ⟨Q, hQ⟩ : ∃ Q, Q = MQ below (gQi D base r u') ([.ref (base + 82), .int p1, .int p2] : List Value).toArray s 0 0 (gF base) := ⟨_, rfl⟩
  rw [← hQ]
  change W p l e (gRm 4 0 0) s m _ below meth c _ _ _ _ _ _
  unfold f_X8_glow at hf
  refine lv_aload_n hx hb dX8_glow_0 rfl (lv_at hl 0 rfl) ?_
  refine lv_iload_n hx hb dX8_glow_1 rfl (lv_at hl 1 rfl) ?_
  refine lv_iload_n hx hb dX8_glow_2 rfl (lv_at hl 2 rfl) ?_
  obtain ⟨r1, u1, hc1, hf⟩ := obind_s hf
  refine g_doI0 hG (g_runV C0 hG (k_X8_sum l D base Z u p1 p2 r1 u1 hc1) m_X8_sum v_X8_sum w_1206 (by decide) (g_recv C0 hG (L82 hG) rfl) rfl hl.1 rfl (Nat.le_of_ble_eq_true rfl) dX8_glow_3 ⟨Nat.zero_le _, Nat.zero_le _⟩) (fun H locs hG hk => ?_)
  refine lv_istore_n (lv' := [(3, .int r1), (0, .ref (base + 82)), (1, .int p1), (2, .int p2)]) hx hb dX8_glow_6 rfl hl (by decide) rfl (fun ls hl => ?_)
  refine lv_aload_n hx hb dX8_glow_7 rfl (lv_at hl 1 rfl) ?_
  refine g_getSa (o := 6) (a := 88) C0 hG (L82 hG) rfl 10 (by decide) rfl rfl w_856 dX8_glow_8 ?_
  refine lv_iload_n hx hb dX8_glow_11 rfl (lv_at hl 3 rfl) ?_
  obtain ⟨h2, hf⟩ := gin_s hf
  refine g_iald C0 hG (L88 hG) h2 dX8_glow_12 ?_
  refine lv_if_ne (tgt := 22) hx hb dX8_glow_13 (by decide) (fun c3 => ?_) (fun c3 => ?_)
  · have hf := gif_f c3 hf
    refine lv_iload_n hx hb dX8_glow_22 rfl (lv_at hl 0 rfl) ?_
    refine lv_istore (lv' := [(4, .int r1), (3, .int r1), (0, .ref (base + 82)), (1, .int p1), (2, .int p2)]) hx hb dX8_glow_23 hl (by decide) rfl (fun ls hl => ?_)
    refine lv_aload_n hx hb dX8_glow_25 rfl (lv_at hl 2 rfl) ?_
    refine g_getSa (o := 1) (a := 83) C0 hG (L82 hG) rfl 5 (by decide) rfl rfl w_851 dX8_glow_26 ?_
    refine lv_iload_n hx hb dX8_glow_29 rfl (lv_at hl 3 rfl) ?_
    obtain ⟨h4, hf⟩ := gin_s hf
    refine g_iald C0 hG (L83 hG) h4 dX8_glow_30 ?_
    refine (Decidable.em ((gA u1 83 p1.toNatClampNeg) = (1 : Int32))).elim (fun c5 => ?_) (fun c5 => ?_)
    · have hf := gif_t c5 hf
      refine lv_tableIn (off := 37) (tgt := 68) hx hb dX8_glow_31 (by rw [c5]; decide) (by rw [c5]; decide) (by rw [c5]; rfl) (by decide) ?_
      refine lv_iload_n hx hb dX8_glow_68 rfl (lv_at hl 1 rfl) ?_
      refine lv_aload_n hx hb dX8_glow_69 rfl (lv_at hl 2 rfl) ?_
      refine g_getSa (o := 2) (a := 84) C0 hG (L82 hG) rfl 6 (by decide) rfl rfl w_852 dX8_glow_70 ?_
      refine lv_iload_n hx hb dX8_glow_73 rfl (lv_at hl 3 rfl) ?_
      obtain ⟨h6, hf⟩ := gin_s hf
      refine g_iald C0 hG (L84 hG) h6 dX8_glow_74 ?_
      refine lv_iadd hx hb dX8_glow_75 ?_
      obtain ⟨hr1, hu⟩ := gret_s hf
      subst hr1
      subst hu
      subst hQ
      exact g_iret C0 hG hr dX8_glow_76
    · have hf := gif_f c5 hf
      refine (Decidable.em ((gA u1 83 p1.toNatClampNeg) = (2 : Int32))).elim (fun c7 => ?_) (fun c7 => ?_)
      · have hf := gif_t c7 hf
        refine lv_tableIn (off := 46) (tgt := 77) hx hb dX8_glow_31 (by rw [c7]; decide) (by rw [c7]; decide) (by rw [c7]; rfl) (by decide) ?_
        refine lv_iload_n hx hb dX8_glow_77 rfl (lv_at hl 1 rfl) ?_
        refine lv_iconst (v := (2 : Int32)) hx hb dX8_glow_78 (by decide) ?_
        refine lv_idiv hx hb dX8_glow_79 (by decide) ?_
        obtain ⟨hr1, hu⟩ := gret_s hf
        subst hr1
        subst hu
        subst hQ
        exact g_iret C0 hG hr dX8_glow_80
      · have hf := gif_f c7 hf
        refine (Decidable.em ((gA u1 83 p1.toNatClampNeg) = (3 : Int32))).elim (fun c8 => ?_) (fun c8 => ?_)
        · have hf := gif_t c8 hf
          refine lv_tableIn (off := 50) (tgt := 81) hx hb dX8_glow_31 (by rw [c8]; decide) (by rw [c8]; decide) (by rw [c8]; rfl) (by decide) ?_
          refine lv_iload hx hb dX8_glow_81 (lv_at hl 0 rfl) ?_
          obtain ⟨hr1, hu⟩ := gret_s hf
          subst hr1
          subst hu
          subst hQ
          exact g_iret C0 hG hr dX8_glow_83
        · have hf := gif_f c8 hf
          refine (Decidable.em ((gA u1 83 p1.toNatClampNeg) = (4 : Int32))).elim (fun c9 => ?_) (fun c9 => ?_)
          · have hf := gif_t c9 hf
            refine lv_tableIn (off := 53) (tgt := 84) hx hb dX8_glow_31 (by rw [c9]; decide) (by rw [c9]; decide) (by rw [c9]; rfl) (by decide) ?_
            refine lv_aload_n hx hb dX8_glow_84 rfl (lv_at hl 2 rfl) ?_
            refine g_getI C0 hG (L82 hG) rfl 4 (by decide) rfl w_850 dX8_glow_85 ?_
            refine lv_iconst (v := (4 : Int32)) hx hb dX8_glow_88 (by decide) ?_
            refine lv_irem hx hb dX8_glow_89 (by decide) ?_
            refine lv_if_ne (tgt := 104) hx hb dX8_glow_90 (by decide) (fun c10 => ?_) (fun c10 => ?_)
            · have hf := gif_f c10 hf
              refine lv_iconst (v := (0 : Int32)) hx hb dX8_glow_104 (by decide) ?_
              obtain ⟨hr1, hu⟩ := gret_s hf
              subst hr1
              subst hu
              subst hQ
              exact g_iret C0 hG hr dX8_glow_105
            · have hf := gif_t c10 hf
              refine lv_iload_n hx hb dX8_glow_93 rfl (lv_at hl 1 rfl) ?_
              refine lv_aload_n hx hb dX8_glow_94 rfl (lv_at hl 2 rfl) ?_
              refine g_getSa (o := 2) (a := 84) C0 hG (L82 hG) rfl 6 (by decide) rfl rfl w_852 dX8_glow_95 ?_
              refine lv_iload_n hx hb dX8_glow_98 rfl (lv_at hl 3 rfl) ?_
              obtain ⟨h11, hf⟩ := gin_s hf
              refine g_iald C0 hG (L84 hG) h11 dX8_glow_99 ?_
              refine lv_iadd hx hb dX8_glow_100 ?_
              refine lv_goto (tgt := 105) hx hb dX8_glow_101 (by decide) ?_
              obtain ⟨hr1, hu⟩ := gret_s hf
              subst hr1
              subst hu
              subst hQ
              exact g_iret C0 hG hr dX8_glow_105
          · have hf := gif_f c9 hf
            refine (Decidable.em ((gA u1 83 p1.toNatClampNeg) = (5 : Int32))).elim (fun c12 => ?_) (fun c12 => ?_)
            · have hf := gif_t c12 hf
              refine lv_tableIn (off := 75) (tgt := 106) hx hb dX8_glow_31 (by rw [c12]; decide) (by rw [c12]; decide) (by rw [c12]; rfl) (by decide) ?_
              refine lv_iload_n hx hb dX8_glow_106 rfl (lv_at hl 1 rfl) ?_
              refine lv_iconst (v := (2 : Int32)) hx hb dX8_glow_107 (by decide) ?_
              refine lv_idiv hx hb dX8_glow_108 (by decide) ?_
              refine lv_aload_n hx hb dX8_glow_109 rfl (lv_at hl 2 rfl) ?_
              refine g_getSa (o := 2) (a := 84) C0 hG (L82 hG) rfl 6 (by decide) rfl rfl w_852 dX8_glow_110 ?_
              refine lv_iload_n hx hb dX8_glow_113 rfl (lv_at hl 3 rfl) ?_
              obtain ⟨h13, hf⟩ := gin_s hf
              refine g_iald C0 hG (L84 hG) h13 dX8_glow_114 ?_
              refine lv_isub hx hb dX8_glow_115 ?_
              obtain ⟨hr1, hu⟩ := gret_s hf
              subst hr1
              subst hu
              subst hQ
              exact g_iret C0 hG hr dX8_glow_116
            · have hf := gif_f c12 hf
              refine (Decidable.em ((gA u1 83 p1.toNatClampNeg) = (6 : Int32))).elim (fun c14 => ?_) (fun c14 => ?_)
              · have hf := gif_t c14 hf
                refine lv_tableIn (off := 86) (tgt := 117) hx hb dX8_glow_31 (by rw [c14]; decide) (by rw [c14]; decide) (by rw [c14]; rfl) (by decide) ?_
                refine lv_iload hx hb dX8_glow_117 (lv_at hl 0 rfl) ?_
                refine lv_aload_n hx hb dX8_glow_119 rfl (lv_at hl 2 rfl) ?_
                refine g_getSa (o := 5) (a := 87) C0 hG (L82 hG) rfl 9 (by decide) rfl rfl w_855 dX8_glow_120 ?_
                refine lv_iconst (v := (4 : Int32)) hx hb dX8_glow_123 (by decide) ?_
                refine lv_iload_n hx hb dX8_glow_124 rfl (lv_at hl 3 rfl) ?_
                refine lv_imul hx hb dX8_glow_125 ?_
                refine lv_iload_n hx hb dX8_glow_126 rfl (lv_at hl 4 rfl) ?_
                refine lv_iconst (v := (4 : Int32)) hx hb dX8_glow_127 (by decide) ?_
                refine lv_irem hx hb dX8_glow_128 (by decide) ?_
                refine lv_iadd hx hb dX8_glow_129 ?_
                obtain ⟨h15, hf⟩ := gin_s hf
                refine g_iald C0 hG (L87 hG) h15 dX8_glow_130 ?_
                refine lv_iadd hx hb dX8_glow_131 ?_
                obtain ⟨hr1, hu⟩ := gret_s hf
                subst hr1
                subst hu
                subst hQ
                exact g_iret C0 hG hr dX8_glow_132
              · have hf := gif_f c14 hf
                refine lv_tableOut (tgt := 133) hx hb dX8_glow_31 (by
                    have n0 := lv_neT c5 (k := (1 : Int32)) (a := 1) (by decide)
                    have n1 := lv_neT c7 (k := (2 : Int32)) (a := 2) (by decide)
                    have n2 := lv_neT c8 (k := (3 : Int32)) (a := 3) (by decide)
                    have n3 := lv_neT c9 (k := (4 : Int32)) (a := 4) (by decide)
                    have n4 := lv_neT c12 (k := (5 : Int32)) (a := 5) (by decide)
                    have n5 := lv_neT c14 (k := (6 : Int32)) (a := 6) (by decide)
                    omega) (by decide) ?_
                refine lv_iload_n hx hb dX8_glow_133 rfl (lv_at hl 1 rfl) ?_
                obtain ⟨hr1, hu⟩ := gret_s hf
                subst hr1
                subst hu
                subst hQ
                exact g_iret C0 hG hr dX8_glow_134
  · have hf := gif_t c3 hf
    refine lv_iconst (v := (2 : Int32)) hx hb dX8_glow_16 (by decide) ?_
    refine lv_iload_n hx hb dX8_glow_17 rfl (lv_at hl 0 rfl) ?_
    refine lv_imul hx hb dX8_glow_18 ?_
    refine lv_goto (tgt := 23) hx hb dX8_glow_19 (by decide) ?_
    refine lv_istore (lv' := [(4, .int ((2 : Int32) * r1)), (3, .int r1), (0, .ref (base + 82)), (1, .int p1), (2, .int p2)]) hx hb dX8_glow_23 hl (by decide) rfl (fun ls hl => ?_)
    refine lv_aload_n hx hb dX8_glow_25 rfl (lv_at hl 2 rfl) ?_
    refine g_getSa (o := 1) (a := 83) C0 hG (L82 hG) rfl 5 (by decide) rfl rfl w_851 dX8_glow_26 ?_
    refine lv_iload_n hx hb dX8_glow_29 rfl (lv_at hl 3 rfl) ?_
    obtain ⟨h16, hf⟩ := gin_s hf
    refine g_iald C0 hG (L83 hG) h16 dX8_glow_30 ?_
    refine (Decidable.em ((gA u1 83 p1.toNatClampNeg) = (1 : Int32))).elim (fun c17 => ?_) (fun c17 => ?_)
    · have hf := gif_t c17 hf
      refine lv_tableIn (off := 37) (tgt := 68) hx hb dX8_glow_31 (by rw [c17]; decide) (by rw [c17]; decide) (by rw [c17]; rfl) (by decide) ?_
      refine lv_iload_n hx hb dX8_glow_68 rfl (lv_at hl 1 rfl) ?_
      refine lv_aload_n hx hb dX8_glow_69 rfl (lv_at hl 2 rfl) ?_
      refine g_getSa (o := 2) (a := 84) C0 hG (L82 hG) rfl 6 (by decide) rfl rfl w_852 dX8_glow_70 ?_
      refine lv_iload_n hx hb dX8_glow_73 rfl (lv_at hl 3 rfl) ?_
      obtain ⟨h18, hf⟩ := gin_s hf
      refine g_iald C0 hG (L84 hG) h18 dX8_glow_74 ?_
      refine lv_iadd hx hb dX8_glow_75 ?_
      obtain ⟨hr1, hu⟩ := gret_s hf
      subst hr1
      subst hu
      subst hQ
      exact g_iret C0 hG hr dX8_glow_76
    · have hf := gif_f c17 hf
      refine (Decidable.em ((gA u1 83 p1.toNatClampNeg) = (2 : Int32))).elim (fun c19 => ?_) (fun c19 => ?_)
      · have hf := gif_t c19 hf
        refine lv_tableIn (off := 46) (tgt := 77) hx hb dX8_glow_31 (by rw [c19]; decide) (by rw [c19]; decide) (by rw [c19]; rfl) (by decide) ?_
        refine lv_iload_n hx hb dX8_glow_77 rfl (lv_at hl 1 rfl) ?_
        refine lv_iconst (v := (2 : Int32)) hx hb dX8_glow_78 (by decide) ?_
        refine lv_idiv hx hb dX8_glow_79 (by decide) ?_
        obtain ⟨hr1, hu⟩ := gret_s hf
        subst hr1
        subst hu
        subst hQ
        exact g_iret C0 hG hr dX8_glow_80
      · have hf := gif_f c19 hf
        refine (Decidable.em ((gA u1 83 p1.toNatClampNeg) = (3 : Int32))).elim (fun c20 => ?_) (fun c20 => ?_)
        · have hf := gif_t c20 hf
          refine lv_tableIn (off := 50) (tgt := 81) hx hb dX8_glow_31 (by rw [c20]; decide) (by rw [c20]; decide) (by rw [c20]; rfl) (by decide) ?_
          refine lv_iload hx hb dX8_glow_81 (lv_at hl 0 rfl) ?_
          obtain ⟨hr1, hu⟩ := gret_s hf
          subst hr1
          subst hu
          subst hQ
          exact g_iret C0 hG hr dX8_glow_83
        · have hf := gif_f c20 hf
          refine (Decidable.em ((gA u1 83 p1.toNatClampNeg) = (4 : Int32))).elim (fun c21 => ?_) (fun c21 => ?_)
          · have hf := gif_t c21 hf
            refine lv_tableIn (off := 53) (tgt := 84) hx hb dX8_glow_31 (by rw [c21]; decide) (by rw [c21]; decide) (by rw [c21]; rfl) (by decide) ?_
            refine lv_aload_n hx hb dX8_glow_84 rfl (lv_at hl 2 rfl) ?_
            refine g_getI C0 hG (L82 hG) rfl 4 (by decide) rfl w_850 dX8_glow_85 ?_
            refine lv_iconst (v := (4 : Int32)) hx hb dX8_glow_88 (by decide) ?_
            refine lv_irem hx hb dX8_glow_89 (by decide) ?_
            refine lv_if_ne (tgt := 104) hx hb dX8_glow_90 (by decide) (fun c22 => ?_) (fun c22 => ?_)
            · have hf := gif_f c22 hf
              refine lv_iconst (v := (0 : Int32)) hx hb dX8_glow_104 (by decide) ?_
              obtain ⟨hr1, hu⟩ := gret_s hf
              subst hr1
              subst hu
              subst hQ
              exact g_iret C0 hG hr dX8_glow_105
            · have hf := gif_t c22 hf
              refine lv_iload_n hx hb dX8_glow_93 rfl (lv_at hl 1 rfl) ?_
              refine lv_aload_n hx hb dX8_glow_94 rfl (lv_at hl 2 rfl) ?_
              refine g_getSa (o := 2) (a := 84) C0 hG (L82 hG) rfl 6 (by decide) rfl rfl w_852 dX8_glow_95 ?_
              refine lv_iload_n hx hb dX8_glow_98 rfl (lv_at hl 3 rfl) ?_
              obtain ⟨h23, hf⟩ := gin_s hf
              refine g_iald C0 hG (L84 hG) h23 dX8_glow_99 ?_
              refine lv_iadd hx hb dX8_glow_100 ?_
              refine lv_goto (tgt := 105) hx hb dX8_glow_101 (by decide) ?_
              obtain ⟨hr1, hu⟩ := gret_s hf
              subst hr1
              subst hu
              subst hQ
              exact g_iret C0 hG hr dX8_glow_105
          · have hf := gif_f c21 hf
            refine (Decidable.em ((gA u1 83 p1.toNatClampNeg) = (5 : Int32))).elim (fun c24 => ?_) (fun c24 => ?_)
            · have hf := gif_t c24 hf
              refine lv_tableIn (off := 75) (tgt := 106) hx hb dX8_glow_31 (by rw [c24]; decide) (by rw [c24]; decide) (by rw [c24]; rfl) (by decide) ?_
              refine lv_iload_n hx hb dX8_glow_106 rfl (lv_at hl 1 rfl) ?_
              refine lv_iconst (v := (2 : Int32)) hx hb dX8_glow_107 (by decide) ?_
              refine lv_idiv hx hb dX8_glow_108 (by decide) ?_
              refine lv_aload_n hx hb dX8_glow_109 rfl (lv_at hl 2 rfl) ?_
              refine g_getSa (o := 2) (a := 84) C0 hG (L82 hG) rfl 6 (by decide) rfl rfl w_852 dX8_glow_110 ?_
              refine lv_iload_n hx hb dX8_glow_113 rfl (lv_at hl 3 rfl) ?_
              obtain ⟨h25, hf⟩ := gin_s hf
              refine g_iald C0 hG (L84 hG) h25 dX8_glow_114 ?_
              refine lv_isub hx hb dX8_glow_115 ?_
              obtain ⟨hr1, hu⟩ := gret_s hf
              subst hr1
              subst hu
              subst hQ
              exact g_iret C0 hG hr dX8_glow_116
            · have hf := gif_f c24 hf
              refine (Decidable.em ((gA u1 83 p1.toNatClampNeg) = (6 : Int32))).elim (fun c26 => ?_) (fun c26 => ?_)
              · have hf := gif_t c26 hf
                refine lv_tableIn (off := 86) (tgt := 117) hx hb dX8_glow_31 (by rw [c26]; decide) (by rw [c26]; decide) (by rw [c26]; rfl) (by decide) ?_
                refine lv_iload hx hb dX8_glow_117 (lv_at hl 0 rfl) ?_
                refine lv_aload_n hx hb dX8_glow_119 rfl (lv_at hl 2 rfl) ?_
                refine g_getSa (o := 5) (a := 87) C0 hG (L82 hG) rfl 9 (by decide) rfl rfl w_855 dX8_glow_120 ?_
                refine lv_iconst (v := (4 : Int32)) hx hb dX8_glow_123 (by decide) ?_
                refine lv_iload_n hx hb dX8_glow_124 rfl (lv_at hl 3 rfl) ?_
                refine lv_imul hx hb dX8_glow_125 ?_
                refine lv_iload_n hx hb dX8_glow_126 rfl (lv_at hl 4 rfl) ?_
                refine lv_iconst (v := (4 : Int32)) hx hb dX8_glow_127 (by decide) ?_
                refine lv_irem hx hb dX8_glow_128 (by decide) ?_
                refine lv_iadd hx hb dX8_glow_129 ?_
                obtain ⟨h27, hf⟩ := gin_s hf
                refine g_iald C0 hG (L87 hG) h27 dX8_glow_130 ?_
                refine lv_iadd hx hb dX8_glow_131 ?_
                obtain ⟨hr1, hu⟩ := gret_s hf
                subst hr1
                subst hu
                subst hQ
                exact g_iret C0 hG hr dX8_glow_132
              · have hf := gif_f c26 hf
                refine lv_tableOut (tgt := 133) hx hb dX8_glow_31 (by
                    have n0 := lv_neT c17 (k := (1 : Int32)) (a := 1) (by decide)
                    have n1 := lv_neT c19 (k := (2 : Int32)) (a := 2) (by decide)
                    have n2 := lv_neT c20 (k := (3 : Int32)) (a := 3) (by decide)
                    have n3 := lv_neT c21 (k := (4 : Int32)) (a := 4) (by decide)
                    have n4 := lv_neT c24 (k := (5 : Int32)) (a := 5) (by decide)
                    have n5 := lv_neT c26 (k := (6 : Int32)) (a := 6) (by decide)
                    omega) (by decide) ?_
                refine lv_iload_n hx hb dX8_glow_133 rfl (lv_at hl 1 rfl) ?_
                obtain ⟨hr1, hu⟩ := gret_s hf
                subst hr1
                subst hu
                subst hQ
                exact g_iret C0 hG hr dX8_glow_134
