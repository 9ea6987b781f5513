/-! ZipArrayModel.areTold(III)Z -/
def m_Model_areTold : zM := (⟨R_Model, "areTold", "(III)Z"⟩, prog_11_method_53_code, 11, (some .boolean), [], { frames := 2, cells := 0, slots := 0, locals := 46 })
theorem kc_Model_areTold : Cond.code (mY m_Model_areTold) (mC m_Model_areTold) (mL m_Model_areTold) (mT m_Model_areTold) ∈ zTb := tb_at 1204 (by decide +kernel) rfl
theorem y_Model_areTold : (mY m_Model_areTold).cls ≠ "java/lang/invoke/MethodHandle" ∧ (mY m_Model_areTold).cls ≠ "java/lang/invoke/VarHandle" ∧ (parseMethodDescriptor (mY m_Model_areTold).desc).map (fun d => d.parameters.length) = some 3 := by decide +kernel
theorem sel_Model_areTold : Cond.selects R_Model (mY m_Model_areTold) (mY m_Model_areTold) ∈ zTb := sel_at (y := mY m_Model_areTold) (n := 33) 74 (by decide +kernel)
theorem d_Model_areTold_0 : decode (mC m_Model_areTold) 0 = .ok (.aload_n 0, 1) := by decide +kernel
theorem d_Model_areTold_1 : decode (mC m_Model_areTold) 1 = .ok (.iload_n 2, 1) := by decide +kernel
theorem d_Model_areTold_2 : decode (mC m_Model_areTold) 2 = .ok (.bipush 14, 2) := by decide +kernel
theorem d_Model_areTold_4 : decode (mC m_Model_areTold) 4 = .ok (.iadd, 1) := by decide +kernel
theorem d_Model_areTold_5 : decode (mC m_Model_areTold) 5 = .ok (.iconst 4, 1) := by decide +kernel
theorem d_Model_areTold_6 : decode (mC m_Model_areTold) 6 = .ok (.invokevirtual 188, 3) := by decide +kernel
theorem d_Model_areTold_9 : decode (mC m_Model_areTold) 9 = .ok (.lstore 4, 2) := by decide +kernel
theorem d_Model_areTold_11 : decode (mC m_Model_areTold) 11 = .ok (.aload_n 0, 1) := by decide +kernel
theorem d_Model_areTold_12 : decode (mC m_Model_areTold) 12 = .ok (.iload_n 2, 1) := by decide +kernel
theorem d_Model_areTold_13 : decode (mC m_Model_areTold) 13 = .ok (.bipush 18, 2) := by decide +kernel
theorem d_Model_areTold_15 : decode (mC m_Model_areTold) 15 = .ok (.iadd, 1) := by decide +kernel
theorem d_Model_areTold_16 : decode (mC m_Model_areTold) 16 = .ok (.iconst 4, 1) := by decide +kernel
theorem d_Model_areTold_17 : decode (mC m_Model_areTold) 17 = .ok (.invokevirtual 188, 3) := by decide +kernel
theorem d_Model_areTold_20 : decode (mC m_Model_areTold) 20 = .ok (.lstore 6, 2) := by decide +kernel
theorem d_Model_areTold_22 : decode (mC m_Model_areTold) 22 = .ok (.aload_n 0, 1) := by decide +kernel
theorem d_Model_areTold_23 : decode (mC m_Model_areTold) 23 = .ok (.iload_n 2, 1) := by decide +kernel
theorem d_Model_areTold_24 : decode (mC m_Model_areTold) 24 = .ok (.bipush 22, 2) := by decide +kernel
theorem d_Model_areTold_26 : decode (mC m_Model_areTold) 26 = .ok (.iadd, 1) := by decide +kernel
theorem d_Model_areTold_27 : decode (mC m_Model_areTold) 27 = .ok (.iconst 4, 1) := by decide +kernel
theorem d_Model_areTold_28 : decode (mC m_Model_areTold) 28 = .ok (.invokevirtual 188, 3) := by decide +kernel
theorem d_Model_areTold_31 : decode (mC m_Model_areTold) 31 = .ok (.lstore 8, 2) := by decide +kernel
theorem d_Model_areTold_33 : decode (mC m_Model_areTold) 33 = .ok (.aload_n 0, 1) := by decide +kernel
theorem d_Model_areTold_34 : decode (mC m_Model_areTold) 34 = .ok (.getfield 37, 3) := by decide +kernel
theorem d_Model_areTold_37 : decode (mC m_Model_areTold) 37 = .ok (.iload_n 1, 1) := by decide +kernel
theorem d_Model_areTold_38 : decode (mC m_Model_areTold) 38 = .ok (.iaload, 1) := by decide +kernel
theorem d_Model_areTold_39 : decode (mC m_Model_areTold) 39 = .ok (.bipush 8, 2) := by decide +kernel
theorem d_Model_areTold_41 : decode (mC m_Model_areTold) 41 = .ok (.if_icmp .ne 30, 3) := by decide +kernel
theorem d_Model_areTold_44 : decode (mC m_Model_areTold) 44 = .ok (.lload 4, 2) := by decide +kernel
theorem d_Model_areTold_46 : decode (mC m_Model_areTold) 46 = .ok (.lconst 0, 1) := by decide +kernel
theorem d_Model_areTold_47 : decode (mC m_Model_areTold) 47 = .ok (.lcmp, 1) := by decide +kernel
theorem d_Model_areTold_48 : decode (mC m_Model_areTold) 48 = .ok (.ifCond .ne 21, 3) := by decide +kernel
theorem d_Model_areTold_51 : decode (mC m_Model_areTold) 51 = .ok (.lload 6, 2) := by decide +kernel
theorem d_Model_areTold_53 : decode (mC m_Model_areTold) 53 = .ok (.lconst 0, 1) := by decide +kernel
theorem d_Model_areTold_54 : decode (mC m_Model_areTold) 54 = .ok (.lcmp, 1) := by decide +kernel
theorem d_Model_areTold_55 : decode (mC m_Model_areTold) 55 = .ok (.ifCond .ne 14, 3) := by decide +kernel
theorem d_Model_areTold_58 : decode (mC m_Model_areTold) 58 = .ok (.lload 8, 2) := by decide +kernel
theorem d_Model_areTold_60 : decode (mC m_Model_areTold) 60 = .ok (.lconst 0, 1) := by decide +kernel
theorem d_Model_areTold_61 : decode (mC m_Model_areTold) 61 = .ok (.lcmp, 1) := by decide +kernel
theorem d_Model_areTold_62 : decode (mC m_Model_areTold) 62 = .ok (.ifCond .ne 7, 3) := by decide +kernel
theorem d_Model_areTold_65 : decode (mC m_Model_areTold) 65 = .ok (.iconst 1, 1) := by decide +kernel
theorem d_Model_areTold_66 : decode (mC m_Model_areTold) 66 = .ok (.goto 4, 3) := by decide +kernel
theorem d_Model_areTold_69 : decode (mC m_Model_areTold) 69 = .ok (.iconst 0, 1) := by decide +kernel
theorem d_Model_areTold_70 : decode (mC m_Model_areTold) 70 = .ok (.ireturn, 1) := by decide +kernel
theorem d_Model_areTold_71 : decode (mC m_Model_areTold) 71 = .ok (.aload_n 0, 1) := by decide +kernel
theorem d_Model_areTold_72 : decode (mC m_Model_areTold) 72 = .ok (.iload_n 2, 1) := by decide +kernel
theorem d_Model_areTold_73 : decode (mC m_Model_areTold) 73 = .ok (.bipush 18, 2) := by decide +kernel
theorem d_Model_areTold_75 : decode (mC m_Model_areTold) 75 = .ok (.iadd, 1) := by decide +kernel
theorem d_Model_areTold_76 : decode (mC m_Model_areTold) 76 = .ok (.invokevirtual 214, 3) := by decide +kernel
theorem d_Model_areTold_79 : decode (mC m_Model_areTold) 79 = .ok (.ifCond .eq 74, 3) := by decide +kernel
theorem d_Model_areTold_82 : decode (mC m_Model_areTold) 82 = .ok (.aload_n 0, 1) := by decide +kernel
theorem d_Model_areTold_83 : decode (mC m_Model_areTold) 83 = .ok (.iload_n 2, 1) := by decide +kernel
theorem d_Model_areTold_84 : decode (mC m_Model_areTold) 84 = .ok (.bipush 22, 2) := by decide +kernel
theorem d_Model_areTold_86 : decode (mC m_Model_areTold) 86 = .ok (.iadd, 1) := by decide +kernel
theorem d_Model_areTold_87 : decode (mC m_Model_areTold) 87 = .ok (.invokevirtual 214, 3) := by decide +kernel
theorem d_Model_areTold_90 : decode (mC m_Model_areTold) 90 = .ok (.ifCond .eq 63, 3) := by decide +kernel
theorem d_Model_areTold_93 : decode (mC m_Model_areTold) 93 = .ok (.aload_n 0, 1) := by decide +kernel
theorem d_Model_areTold_94 : decode (mC m_Model_areTold) 94 = .ok (.iload_n 3, 1) := by decide +kernel
theorem d_Model_areTold_95 : decode (mC m_Model_areTold) 95 = .ok (.aload_n 0, 1) := by decide +kernel
theorem d_Model_areTold_96 : decode (mC m_Model_areTold) 96 = .ok (.getfield 61, 3) := by decide +kernel
theorem d_Model_areTold_99 : decode (mC m_Model_areTold) 99 = .ok (.iload_n 1, 1) := by decide +kernel
theorem d_Model_areTold_100 : decode (mC m_Model_areTold) 100 = .ok (.iaload, 1) := by decide +kernel
theorem d_Model_areTold_101 : decode (mC m_Model_areTold) 101 = .ok (.bipush 16, 2) := by decide +kernel
theorem d_Model_areTold_103 : decode (mC m_Model_areTold) 103 = .ok (.invokevirtual 238, 3) := by decide +kernel
theorem d_Model_areTold_106 : decode (mC m_Model_areTold) 106 = .ok (.istore 10, 2) := by decide +kernel
theorem d_Model_areTold_108 : decode (mC m_Model_areTold) 108 = .ok (.iload 10, 2) := by decide +kernel
theorem d_Model_areTold_110 : decode (mC m_Model_areTold) 110 = .ok (.ifCond .ge 9, 3) := by decide +kernel
theorem d_Model_areTold_113 : decode (mC m_Model_areTold) 113 = .ok (.ldc2_w 228, 3) := by decide +kernel
theorem d_Model_areTold_116 : decode (mC m_Model_areTold) 116 = .ok (.goto 11, 3) := by decide +kernel
theorem d_Model_areTold_119 : decode (mC m_Model_areTold) 119 = .ok (.aload_n 0, 1) := by decide +kernel
theorem d_Model_areTold_120 : decode (mC m_Model_areTold) 120 = .ok (.iload 10, 2) := by decide +kernel
theorem d_Model_areTold_122 : decode (mC m_Model_areTold) 122 = .ok (.bipush 8, 2) := by decide +kernel
theorem d_Model_areTold_124 : decode (mC m_Model_areTold) 124 = .ok (.invokevirtual 188, 3) := by decide +kernel
theorem d_Model_areTold_127 : decode (mC m_Model_areTold) 127 = .ok (.lstore 8, 2) := by decide +kernel
theorem d_Model_areTold_129 : decode (mC m_Model_areTold) 129 = .ok (.iload 10, 2) := by decide +kernel
theorem d_Model_areTold_131 : decode (mC m_Model_areTold) 131 = .ok (.ifCond .ge 9, 3) := by decide +kernel
theorem d_Model_areTold_134 : decode (mC m_Model_areTold) 134 = .ok (.ldc2_w 228, 3) := by decide +kernel
theorem d_Model_areTold_137 : decode (mC m_Model_areTold) 137 = .ok (.goto 14, 3) := by decide +kernel
theorem d_Model_areTold_140 : decode (mC m_Model_areTold) 140 = .ok (.aload_n 0, 1) := by decide +kernel
theorem d_Model_areTold_141 : decode (mC m_Model_areTold) 141 = .ok (.iload 10, 2) := by decide +kernel
theorem d_Model_areTold_143 : decode (mC m_Model_areTold) 143 = .ok (.bipush 8, 2) := by decide +kernel
theorem d_Model_areTold_145 : decode (mC m_Model_areTold) 145 = .ok (.iadd, 1) := by decide +kernel
theorem d_Model_areTold_146 : decode (mC m_Model_areTold) 146 = .ok (.bipush 8, 2) := by decide +kernel
theorem d_Model_areTold_148 : decode (mC m_Model_areTold) 148 = .ok (.invokevirtual 188, 3) := by decide +kernel
theorem d_Model_areTold_151 : decode (mC m_Model_areTold) 151 = .ok (.lstore 6, 2) := by decide +kernel
theorem d_Model_areTold_153 : decode (mC m_Model_areTold) 153 = .ok (.lload 4, 2) := by decide +kernel
theorem d_Model_areTold_155 : decode (mC m_Model_areTold) 155 = .ok (.l2i, 1) := by decide +kernel
theorem d_Model_areTold_156 : decode (mC m_Model_areTold) 156 = .ok (.aload_n 0, 1) := by decide +kernel
theorem d_Model_areTold_157 : decode (mC m_Model_areTold) 157 = .ok (.getfield 43, 3) := by decide +kernel
theorem d_Model_areTold_160 : decode (mC m_Model_areTold) 160 = .ok (.iload_n 1, 1) := by decide +kernel
theorem d_Model_areTold_161 : decode (mC m_Model_areTold) 161 = .ok (.iaload, 1) := by decide +kernel
theorem d_Model_areTold_162 : decode (mC m_Model_areTold) 162 = .ok (.if_icmp .ne 33, 3) := by decide +kernel
theorem d_Model_areTold_165 : decode (mC m_Model_areTold) 165 = .ok (.lload 6, 2) := by decide +kernel
theorem d_Model_areTold_167 : decode (mC m_Model_areTold) 167 = .ok (.aload_n 0, 1) := by decide +kernel
theorem d_Model_areTold_168 : decode (mC m_Model_areTold) 168 = .ok (.getfield 46, 3) := by decide +kernel
theorem d_Model_areTold_171 : decode (mC m_Model_areTold) 171 = .ok (.iload_n 1, 1) := by decide +kernel
theorem d_Model_areTold_172 : decode (mC m_Model_areTold) 172 = .ok (.iaload, 1) := by decide +kernel
theorem d_Model_areTold_173 : decode (mC m_Model_areTold) 173 = .ok (.i2l, 1) := by decide +kernel
theorem d_Model_areTold_174 : decode (mC m_Model_areTold) 174 = .ok (.lcmp, 1) := by decide +kernel
theorem d_Model_areTold_175 : decode (mC m_Model_areTold) 175 = .ok (.ifCond .ne 20, 3) := by decide +kernel
theorem d_Model_areTold_178 : decode (mC m_Model_areTold) 178 = .ok (.lload 8, 2) := by decide +kernel
theorem d_Model_areTold_180 : decode (mC m_Model_areTold) 180 = .ok (.aload_n 0, 1) := by decide +kernel
theorem d_Model_areTold_181 : decode (mC m_Model_areTold) 181 = .ok (.getfield 49, 3) := by decide +kernel
theorem d_Model_areTold_184 : decode (mC m_Model_areTold) 184 = .ok (.iload_n 1, 1) := by decide +kernel
theorem d_Model_areTold_185 : decode (mC m_Model_areTold) 185 = .ok (.iaload, 1) := by decide +kernel
theorem d_Model_areTold_186 : decode (mC m_Model_areTold) 186 = .ok (.i2l, 1) := by decide +kernel
theorem d_Model_areTold_187 : decode (mC m_Model_areTold) 187 = .ok (.lcmp, 1) := by decide +kernel
theorem d_Model_areTold_188 : decode (mC m_Model_areTold) 188 = .ok (.ifCond .ne 7, 3) := by decide +kernel
theorem d_Model_areTold_191 : decode (mC m_Model_areTold) 191 = .ok (.iconst 1, 1) := by decide +kernel
theorem d_Model_areTold_192 : decode (mC m_Model_areTold) 192 = .ok (.goto 4, 3) := by decide +kernel
theorem d_Model_areTold_195 : decode (mC m_Model_areTold) 195 = .ok (.iconst 0, 1) := by decide +kernel
theorem d_Model_areTold_196 : decode (mC m_Model_areTold) 196 = .ok (.ireturn, 1) := by decide +kernel
def b_Model_areTold_195 (F : Nat) (w : zW) : Option (Int32 × zW) := some ((0 : Int32), w)
set_option maxRecDepth 100000 in
set_option maxHeartbeats 4000000 in
theorem b_Model_areTold_195_ok (G : zG) (F : Nat) (w : zW) (r : (Int32 × zW)) (h : b_Model_areTold_195 F w = some r) : zV G m_Model_areTold 195 [] [] w 0 0 (oI r.1) r.2 := by
  unfold b_Model_areTold_195 at h
  refine V_iconst (v := 0) d_Model_areTold_195 (by decide) ?_
  obtain rfl := Option.some.inj h
  exact V_zret rfl (Or.inl rfl) (by decide) (by decide) d_Model_areTold_196
def b_Model_areTold_153 (F : Nat) (v0 : Nat) (v1 : Int32) (v4 : Int64) (v6 : Int64) (v8 : Int64) (w : zW) : Option (Int32 × zW) := (getR w v0 9 23).bind fun x157 => (aget w x157 v1).bind fun x161 => if v4.toInt32 = x161 then ((getR w v0 9 24).bind fun x168 => (aget w x168 v1).bind fun x172 => if (lg_cmp v6 x172.toInt64) = 0 then ((getR w v0 9 25).bind fun x181 => (aget w x181 v1).bind fun x185 => if (lg_cmp v8 x185.toInt64) = 0 then (some ((1 : Int32), w)) else (b_Model_areTold_195 F w)) else (b_Model_areTold_195 F w)) else (b_Model_areTold_195 F w)
set_option maxRecDepth 100000 in
set_option maxHeartbeats 4000000 in
theorem b_Model_areTold_153_ok (G : zG) (F : Nat) (v0 : Nat) (v1 : Int32) (v4 : Int64) (v6 : Int64) (v8 : Int64) (w : zW) (r : (Int32 × zW)) (h : b_Model_areTold_153 F v0 v1 v4 v6 v8 w = some r) : zV G m_Model_areTold 153 [(0, .ref (z0 G + v0)), (1, .int v1), (4, .long v4), (6, .long v6), (8, .long v8)] [] w 0 0 (oI r.1) r.2 := by
  unfold b_Model_areTold_153 at h
  refine V_lload (i := 4) d_Model_areTold_153 2 rfl ?_
  refine V_l2i d_Model_areTold_155 ?_
  refine V_aload_n (i := 0) d_Model_areTold_156 rfl 0 rfl ?_
  obtain ⟨x157, e157, h⟩ := ob h
  refine V_getR (ci := 9) (k := 23) d_Model_areTold_157 e157 rfl (by decide) in_Model k905 ?_
  refine V_iload_n (i := 1) d_Model_areTold_160 rfl 1 rfl ?_
  obtain ⟨x161, e161, h⟩ := ob h
  refine V_aget d_Model_areTold_161 e161 ?_
  refine V_icmp_ne (tgt := 195) d_Model_areTold_162 (by decide) (fun c162 => ?_) (fun c162 => ?_)
  · rw [if_neg c162] at h
    refine V_lv [] rfl ?_
    exact b_Model_areTold_195_ok G F w _ h
  · rw [if_pos c162] at h
    refine V_lload (i := 6) d_Model_areTold_165 3 rfl ?_
    refine V_aload_n (i := 0) d_Model_areTold_167 rfl 0 rfl ?_
    obtain ⟨x168, e168, h⟩ := ob h
    refine V_getR (ci := 9) (k := 24) d_Model_areTold_168 e168 rfl (by decide) in_Model k906 ?_
    refine V_iload_n (i := 1) d_Model_areTold_171 rfl 1 rfl ?_
    obtain ⟨x172, e172, h⟩ := ob h
    refine V_aget d_Model_areTold_172 e172 ?_
    refine V_i2l d_Model_areTold_173 ?_
    refine V_lcmp d_Model_areTold_174 ?_
    refine V_if_ne (tgt := 195) d_Model_areTold_175 (by decide) (fun c175 => ?_) (fun c175 => ?_)
    · rw [if_neg c175] at h
      refine V_lv [] rfl ?_
      exact b_Model_areTold_195_ok G F w _ h
    · rw [if_pos c175] at h
      refine V_lload (i := 8) d_Model_areTold_178 4 rfl ?_
      refine V_aload_n (i := 0) d_Model_areTold_180 rfl 0 rfl ?_
      obtain ⟨x181, e181, h⟩ := ob h
      refine V_getR (ci := 9) (k := 25) d_Model_areTold_181 e181 rfl (by decide) in_Model k907 ?_
      refine V_iload_n (i := 1) d_Model_areTold_184 rfl 1 rfl ?_
      obtain ⟨x185, e185, h⟩ := ob h
      refine V_aget d_Model_areTold_185 e185 ?_
      refine V_i2l d_Model_areTold_186 ?_
      refine V_lcmp d_Model_areTold_187 ?_
      refine V_if_ne (tgt := 195) d_Model_areTold_188 (by decide) (fun c188 => ?_) (fun c188 => ?_)
      · rw [if_neg c188] at h
        refine V_lv [] rfl ?_
        exact b_Model_areTold_195_ok G F w _ h
      · rw [if_pos c188] at h
        refine V_iconst (v := 1) d_Model_areTold_191 (by decide) ?_
        refine V_goto (tgt := 196) d_Model_areTold_192 (by decide) ?_
        obtain rfl := Option.some.inj h
        exact V_zret rfl (Or.inr rfl) (by decide) (by decide) d_Model_areTold_196
def b_Model_areTold_151 (F : Nat) (v0 : Nat) (v1 : Int32) (v4 : Int64) (v8 : Int64) (s0 : Int64) (w : zW) : Option (Int32 × zW) := b_Model_areTold_153 F v0 v1 v4 s0 v8 w
set_option maxRecDepth 100000 in
set_option maxHeartbeats 4000000 in
theorem b_Model_areTold_151_ok (G : zG) (F : Nat) (v0 : Nat) (v1 : Int32) (v4 : Int64) (v8 : Int64) (s0 : Int64) (w : zW) (r : (Int32 × zW)) (h : b_Model_areTold_151 F v0 v1 v4 v8 s0 w = some r) : zV G m_Model_areTold 151 [(0, .ref (z0 G + v0)), (1, .int v1), (4, .long v4), (8, .long v8)] [.long s0] w 0 0 (oI r.1) r.2 := by
  unfold b_Model_areTold_151 at h
  refine V_lstore (i := 6) d_Model_areTold_151 (by decide) rfl ?_
  refine V_lv [1, 2, 3, 0, 4] rfl ?_
  exact b_Model_areTold_153_ok G F v0 v1 v4 s0 v8 w _ h
def b_Model_areTold_127 (F : Nat) (v0 : Nat) (v1 : Int32) (v4 : Int64) (v10 : Int32) (s0 : Int64) (w : zW) : Option (Int32 × zW) := if 0 ≤ v10 then ((zobj w v0 9).bind fun _ => (f_Model_number F v0 (v10 + (8 : Int32)) (8 : Int32) w).bind fun r148 => b_Model_areTold_151 F v0 v1 v4 s0 r148.1 r148.2) else (b_Model_areTold_151 F v0 v1 v4 s0 (-1 : Int64) w)
set_option maxRecDepth 100000 in
set_option maxHeartbeats 4000000 in
theorem b_Model_areTold_127_ok (G : zG) (F : Nat) (v0 : Nat) (v1 : Int32) (v4 : Int64) (v10 : Int32) (s0 : Int64) (w : zW) (r : (Int32 × zW)) (h : b_Model_areTold_127 F v0 v1 v4 v10 s0 w = some r) : zV G m_Model_areTold 127 [(0, .ref (z0 G + v0)), (1, .int v1), (4, .long v4), (10, .int v10)] [.long s0] w 0 0 (oI r.1) r.2 := by
  unfold b_Model_areTold_127 at h
  refine V_lstore (i := 8) d_Model_areTold_127 (by decide) rfl ?_
  refine V_iload (i := 10) d_Model_areTold_129 4 rfl ?_
  refine V_if_ge (tgt := 140) d_Model_areTold_131 (by decide) (fun c131 => ?_) (fun c131 => ?_)
  · rw [if_pos c131] at h
    refine V_aload_n (i := 0) d_Model_areTold_140 rfl 1 rfl ?_
    refine V_iload (i := 10) d_Model_areTold_141 4 rfl ?_
    refine V_bipush (v := 8) d_Model_areTold_143 (by decide) ?_
    refine V_iadd d_Model_areTold_145 ?_
    refine V_bipush (v := 8) d_Model_areTold_146 (by decide) ?_
    obtain ⟨_, eo148, h⟩ := ob h
    obtain ⟨r148, e148, h⟩ := ob h
    refine V_call (v := some (.long r148.1)) (st := []) (inv_V (N := m_Model_number) (As := [.int (v10 + (8 : Int32)), .int (8 : Int32)]) (ci := 9) d_Model_areTold_148 eo148 rfl k1138 k1140 sel_Model_number kc_Model_number y_Model_number) ⟨Or.inl kc_Model_number, k10, by decide, by decide⟩ (Nat.le_of_ble_eq_true rfl) (by decide) (by decide) (c_Model_number G F v0 (v10 + (8 : Int32)) (8 : Int32) w r148 e148) ?_
    refine V_lv [1, 2, 3, 0] rfl ?_
    exact b_Model_areTold_151_ok G F v0 v1 v4 s0 r148.1 r148.2 _ h
  · rw [if_neg c131] at h
    refine V_ldc2 (v := -1) d_Model_areTold_134 k1184 ?_
    refine V_goto (tgt := 151) d_Model_areTold_137 (by decide) ?_
    refine V_lv [1, 2, 3, 0] rfl ?_
    exact b_Model_areTold_151_ok G F v0 v1 v4 s0 (-1 : Int64) w _ h
def b_Model_areTold_69 (F : Nat) (w : zW) : Option (Int32 × zW) := some ((0 : Int32), w)
set_option maxRecDepth 100000 in
set_option maxHeartbeats 4000000 in
theorem b_Model_areTold_69_ok (G : zG) (F : Nat) (w : zW) (r : (Int32 × zW)) (h : b_Model_areTold_69 F w = some r) : zV G m_Model_areTold 69 [] [] w 0 0 (oI r.1) r.2 := by
  unfold b_Model_areTold_69 at h
  refine V_iconst (v := 0) d_Model_areTold_69 (by decide) ?_
  obtain rfl := Option.some.inj h
  exact V_zret rfl (Or.inl rfl) (by decide) (by decide) d_Model_areTold_70
def b_Model_areTold_0 (F : Nat) (v0 : Nat) (v1 : Int32) (v2 : Int32) (v3 : Int32) (w : zW) : Option (Int32 × zW) := (zobj w v0 9).bind fun _ => (f_Model_number F v0 (v2 + (14 : Int32)) (4 : Int32) w).bind fun r6 => (zobj r6.2 v0 9).bind fun _ => (f_Model_number F v0 (v2 + (18 : Int32)) (4 : Int32) r6.2).bind fun r17 => (zobj r17.2 v0 9).bind fun _ => (f_Model_number F v0 (v2 + (22 : Int32)) (4 : Int32) r17.2).bind fun r28 => (getR r28.2 v0 9 21).bind fun x34 => (aget r28.2 x34 v1).bind fun x38 => if x38 = (8 : Int32) then (if (lg_cmp r6.1 (0 : Int64)) = 0 then (if (lg_cmp r17.1 (0 : Int64)) = 0 then (if (lg_cmp r28.1 (0 : Int64)) = 0 then (some ((1 : Int32), r28.2)) else (b_Model_areTold_69 F r28.2)) else (b_Model_areTold_69 F r28.2)) else (b_Model_areTold_69 F r28.2)) else ((zobj r28.2 v0 9).bind fun _ => (f_Model_isWide F v0 (v2 + (18 : Int32)) r28.2).bind fun r76 => if r76.1 = 0 then (b_Model_areTold_153 F v0 v1 r6.1 r17.1 r28.1 r76.2) else ((zobj r76.2 v0 9).bind fun _ => (f_Model_isWide F v0 (v2 + (22 : Int32)) r76.2).bind fun r87 => if r87.1 = 0 then (b_Model_areTold_153 F v0 v1 r6.1 r17.1 r28.1 r87.2) else ((getR r87.2 v0 9 29).bind fun x96 => (aget r87.2 x96 v1).bind fun x100 => (zobj r87.2 v0 9).bind fun _ => (f_Model_recordIn F v0 v3 x100 (16 : Int32) r87.2).bind fun r103 => if 0 ≤ r103.1 then ((zobj r103.2 v0 9).bind fun _ => (f_Model_number F v0 r103.1 (8 : Int32) r103.2).bind fun r124 => b_Model_areTold_127 F v0 v1 r6.1 r103.1 r124.1 r124.2) else (b_Model_areTold_127 F v0 v1 r6.1 r103.1 (-1 : Int64) r103.2))))
set_option maxRecDepth 100000 in
set_option maxHeartbeats 4000000 in
theorem b_Model_areTold_0_ok (G : zG) (F : Nat) (v0 : Nat) (v1 : Int32) (v2 : Int32) (v3 : Int32) (w : zW) (r : (Int32 × zW)) (h : b_Model_areTold_0 F v0 v1 v2 v3 w = some r) : zV G m_Model_areTold 0 [(0, .ref (z0 G + v0)), (1, .int v1), (2, .int v2), (3, .int v3)] [] w 0 0 (oI r.1) r.2 := by
  unfold b_Model_areTold_0 at h
  refine V_aload_n (i := 0) d_Model_areTold_0 rfl 0 rfl ?_
  refine V_iload_n (i := 2) d_Model_areTold_1 rfl 2 rfl ?_
  refine V_bipush (v := 14) d_Model_areTold_2 (by decide) ?_
  refine V_iadd d_Model_areTold_4 ?_
  refine V_iconst (v := 4) d_Model_areTold_5 (by decide) ?_
  obtain ⟨_, eo6, h⟩ := ob h
  obtain ⟨r6, e6, h⟩ := ob h
  refine V_call (v := some (.long r6.1)) (st := []) (inv_V (N := m_Model_number) (As := [.int (v2 + (14 : Int32)), .int (4 : Int32)]) (ci := 9) d_Model_areTold_6 eo6 rfl k1138 k1140 sel_Model_number kc_Model_number y_Model_number) ⟨Or.inl kc_Model_number, k10, by decide, by decide⟩ (Nat.le_of_ble_eq_true rfl) (by decide) (by decide) (c_Model_number G F v0 (v2 + (14 : Int32)) (4 : Int32) w r6 e6) ?_
  refine V_lstore (i := 4) d_Model_areTold_9 (by decide) rfl ?_
  refine V_aload_n (i := 0) d_Model_areTold_11 rfl 1 rfl ?_
  refine V_iload_n (i := 2) d_Model_areTold_12 rfl 3 rfl ?_
  refine V_bipush (v := 18) d_Model_areTold_13 (by decide) ?_
  refine V_iadd d_Model_areTold_15 ?_
  refine V_iconst (v := 4) d_Model_areTold_16 (by decide) ?_
  obtain ⟨_, eo17, h⟩ := ob h
  obtain ⟨r17, e17, h⟩ := ob h
  refine V_call (v := some (.long r17.1)) (st := []) (inv_V (N := m_Model_number) (As := [.int (v2 + (18 : Int32)), .int (4 : Int32)]) (ci := 9) d_Model_areTold_17 eo17 rfl k1138 k1140 sel_Model_number kc_Model_number y_Model_number) ⟨Or.inl kc_Model_number, k10, by decide, by decide⟩ (Nat.le_of_ble_eq_true rfl) (by decide) (by decide) (c_Model_number G F v0 (v2 + (18 : Int32)) (4 : Int32) r6.2 r17 e17) ?_
  refine V_lstore (i := 6) d_Model_areTold_20 (by decide) rfl ?_
  refine V_aload_n (i := 0) d_Model_areTold_22 rfl 2 rfl ?_
  refine V_iload_n (i := 2) d_Model_areTold_23 rfl 4 rfl ?_
  refine V_bipush (v := 22) d_Model_areTold_24 (by decide) ?_
  refine V_iadd d_Model_areTold_26 ?_
  refine V_iconst (v := 4) d_Model_areTold_27 (by decide) ?_
  obtain ⟨_, eo28, h⟩ := ob h
  obtain ⟨r28, e28, h⟩ := ob h
  refine V_call (v := some (.long r28.1)) (st := []) (inv_V (N := m_Model_number) (As := [.int (v2 + (22 : Int32)), .int (4 : Int32)]) (ci := 9) d_Model_areTold_28 eo28 rfl k1138 k1140 sel_Model_number kc_Model_number y_Model_number) ⟨Or.inl kc_Model_number, k10, by decide, by decide⟩ (Nat.le_of_ble_eq_true rfl) (by decide) (by decide) (c_Model_number G F v0 (v2 + (22 : Int32)) (4 : Int32) r17.2 r28 e28) ?_
  refine V_lstore (i := 8) d_Model_areTold_31 (by decide) rfl ?_
  refine V_aload_n (i := 0) d_Model_areTold_33 rfl 3 rfl ?_
  obtain ⟨x34, e34, h⟩ := ob h
  refine V_getR (ci := 9) (k := 21) d_Model_areTold_34 e34 rfl (by decide) in_Model k903 ?_
  refine V_iload_n (i := 1) d_Model_areTold_37 rfl 4 rfl ?_
  obtain ⟨x38, e38, h⟩ := ob h
  refine V_aget d_Model_areTold_38 e38 ?_
  refine V_bipush (v := 8) d_Model_areTold_39 (by decide) ?_
  refine V_icmp_ne (tgt := 71) d_Model_areTold_41 (by decide) (fun c41 => ?_) (fun c41 => ?_)
  · rw [if_neg c41] at h
    refine V_aload_n (i := 0) d_Model_areTold_71 rfl 3 rfl ?_
    refine V_iload_n (i := 2) d_Model_areTold_72 rfl 5 rfl ?_
    refine V_bipush (v := 18) d_Model_areTold_73 (by decide) ?_
    refine V_iadd d_Model_areTold_75 ?_
    obtain ⟨_, eo76, h⟩ := ob h
    obtain ⟨r76, e76, h⟩ := ob h
    refine V_call (v := some (.int r76.1)) (st := []) (inv_V (N := m_Model_isWide) (As := [.int (v2 + (18 : Int32))]) (ci := 9) d_Model_areTold_76 eo76 rfl k1151 k1153 sel_Model_isWide kc_Model_isWide y_Model_isWide) ⟨Or.inl kc_Model_isWide, k10, by decide, by decide⟩ (Nat.le_of_ble_eq_true rfl) (by decide) (by decide) (c_Model_isWide G F v0 (v2 + (18 : Int32)) r28.2 r76 e76) ?_
    refine V_if_eq (tgt := 153) d_Model_areTold_79 (by decide) (fun c79 => ?_) (fun c79 => ?_)
    · rw [if_pos c79] at h
      refine V_lv [3, 4, 2, 1, 0] rfl ?_
      exact b_Model_areTold_153_ok G F v0 v1 r6.1 r17.1 r28.1 r76.2 _ h
    · rw [if_neg c79] at h
      refine V_aload_n (i := 0) d_Model_areTold_82 rfl 3 rfl ?_
      refine V_iload_n (i := 2) d_Model_areTold_83 rfl 5 rfl ?_
      refine V_bipush (v := 22) d_Model_areTold_84 (by decide) ?_
      refine V_iadd d_Model_areTold_86 ?_
      obtain ⟨_, eo87, h⟩ := ob h
      obtain ⟨r87, e87, h⟩ := ob h
      refine V_call (v := some (.int r87.1)) (st := []) (inv_V (N := m_Model_isWide) (As := [.int (v2 + (22 : Int32))]) (ci := 9) d_Model_areTold_87 eo87 rfl k1151 k1153 sel_Model_isWide kc_Model_isWide y_Model_isWide) ⟨Or.inl kc_Model_isWide, k10, by decide, by decide⟩ (Nat.le_of_ble_eq_true rfl) (by decide) (by decide) (c_Model_isWide G F v0 (v2 + (22 : Int32)) r76.2 r87 e87) ?_
      refine V_if_eq (tgt := 153) d_Model_areTold_90 (by decide) (fun c90 => ?_) (fun c90 => ?_)
      · rw [if_pos c90] at h
        refine V_lv [3, 4, 2, 1, 0] rfl ?_
        exact b_Model_areTold_153_ok G F v0 v1 r6.1 r17.1 r28.1 r87.2 _ h
      · rw [if_neg c90] at h
        refine V_aload_n (i := 0) d_Model_areTold_93 rfl 3 rfl ?_
        refine V_iload_n (i := 3) d_Model_areTold_94 rfl 6 rfl ?_
        refine V_aload_n (i := 0) d_Model_areTold_95 rfl 3 rfl ?_
        obtain ⟨x96, e96, h⟩ := ob h
        refine V_getR (ci := 9) (k := 29) d_Model_areTold_96 e96 rfl (by decide) in_Model k911 ?_
        refine V_iload_n (i := 1) d_Model_areTold_99 rfl 4 rfl ?_
        obtain ⟨x100, e100, h⟩ := ob h
        refine V_aget d_Model_areTold_100 e100 ?_
        refine V_bipush (v := 16) d_Model_areTold_101 (by decide) ?_
        obtain ⟨_, eo103, h⟩ := ob h
        obtain ⟨r103, e103, h⟩ := ob h
        refine V_call (v := some (.int r103.1)) (st := []) (inv_V (N := m_Model_recordIn) (As := [.int v3, .int x100, .int (16 : Int32)]) (ci := 9) d_Model_areTold_103 eo103 rfl k1176 k1178 sel_Model_recordIn kc_Model_recordIn y_Model_recordIn) ⟨Or.inl kc_Model_recordIn, k10, by decide, by decide⟩ (Nat.le_of_ble_eq_true rfl) (by decide) (by decide) (c_Model_recordIn G F v0 v3 x100 (16 : Int32) r87.2 r103 e103) ?_
        refine V_istore (i := 10) d_Model_areTold_106 (by decide) rfl ?_
        refine V_iload (i := 10) d_Model_areTold_108 0 rfl ?_
        refine V_if_ge (tgt := 119) d_Model_areTold_110 (by decide) (fun c110 => ?_) (fun c110 => ?_)
        · rw [if_pos c110] at h
          refine V_aload_n (i := 0) d_Model_areTold_119 rfl 4 rfl ?_
          refine V_iload (i := 10) d_Model_areTold_120 0 rfl ?_
          refine V_bipush (v := 8) d_Model_areTold_122 (by decide) ?_
          obtain ⟨_, eo124, h⟩ := ob h
          obtain ⟨r124, e124, h⟩ := ob h
          refine V_call (v := some (.long r124.1)) (st := []) (inv_V (N := m_Model_number) (As := [.int r103.1, .int (8 : Int32)]) (ci := 9) d_Model_areTold_124 eo124 rfl k1138 k1140 sel_Model_number kc_Model_number y_Model_number) ⟨Or.inl kc_Model_number, k10, by decide, by decide⟩ (Nat.le_of_ble_eq_true rfl) (by decide) (by decide) (c_Model_number G F v0 r103.1 (8 : Int32) r103.2 r124 e124) ?_
          refine V_lv [4, 5, 3, 0] rfl ?_
          exact b_Model_areTold_127_ok G F v0 v1 r6.1 r103.1 r124.1 r124.2 _ h
        · rw [if_neg c110] at h
          refine V_ldc2 (v := -1) d_Model_areTold_113 k1184 ?_
          refine V_goto (tgt := 127) d_Model_areTold_116 (by decide) ?_
          refine V_lv [4, 5, 3, 0] rfl ?_
          exact b_Model_areTold_127_ok G F v0 v1 r6.1 r103.1 (-1 : Int64) r103.2 _ h
  · rw [if_pos c41] at h
    refine V_lload (i := 4) d_Model_areTold_44 2 rfl ?_
    refine V_lconst (v := 0) d_Model_areTold_46 (by decide) ?_
    refine V_lcmp d_Model_areTold_47 ?_
    refine V_if_ne (tgt := 69) d_Model_areTold_48 (by decide) (fun c48 => ?_) (fun c48 => ?_)
    · rw [if_neg c48] at h
      refine V_lv [] rfl ?_
      exact b_Model_areTold_69_ok G F r28.2 _ h
    · rw [if_pos c48] at h
      refine V_lload (i := 6) d_Model_areTold_51 1 rfl ?_
      refine V_lconst (v := 0) d_Model_areTold_53 (by decide) ?_
      refine V_lcmp d_Model_areTold_54 ?_
      refine V_if_ne (tgt := 69) d_Model_areTold_55 (by decide) (fun c55 => ?_) (fun c55 => ?_)
      · rw [if_neg c55] at h
        refine V_lv [] rfl ?_
        exact b_Model_areTold_69_ok G F r28.2 _ h
      · rw [if_pos c55] at h
        refine V_lload (i := 8) d_Model_areTold_58 0 rfl ?_
        refine V_lconst (v := 0) d_Model_areTold_60 (by decide) ?_
        refine V_lcmp d_Model_areTold_61 ?_
        refine V_if_ne (tgt := 69) d_Model_areTold_62 (by decide) (fun c62 => ?_) (fun c62 => ?_)
        · rw [if_neg c62] at h
          refine V_lv [] rfl ?_
          exact b_Model_areTold_69_ok G F r28.2 _ h
        · rw [if_pos c62] at h
          refine V_iconst (v := 1) d_Model_areTold_65 (by decide) ?_
          refine V_goto (tgt := 70) d_Model_areTold_66 (by decide) ?_
          obtain rfl := Option.some.inj h
          exact V_zret rfl (Or.inr rfl) (by decide) (by decide) d_Model_areTold_70
def f_Model_areTold (F : Nat) (v0 : Nat) (v1 : Int32) (v2 : Int32) (v3 : Int32) (w : zW) : Option (Int32 × zW) := b_Model_areTold_0 F v0 v1 v2 v3 w
theorem c_Model_areTold (G : zG) (F : Nat) (v0 : Nat) (v1 : Int32) (v2 : Int32) (v3 : Int32) (w : zW) (r : (Int32 × zW)) (h : f_Model_areTold F v0 v1 v2 v3 w = some r) : zCT G m_Model_areTold [.ref (z0 G + v0), .int v1, .int v2, .int v3] w (oI r.1) r.2 := zCT.ofV (by decide +kernel) (Or.inl ⟨kc_Model_areTold, rfl⟩) (Nat.le_of_ble_eq_true rfl) (b_Model_areTold_0_ok G F v0 v1 v2 v3 w r h)

/-! ZipArrayModel.locate(I)Z -/
def m_Model_locate : zM := (⟨R_Model, "locate", "(I)Z"⟩, prog_11_method_54_code, 5, (some .boolean), [], { frames := 3, cells := 0, slots := 0, locals := 76 })
theorem k1200 : Cond.constantLong R_Model 261 67324752 ∈ zTb := tb_at 1200 (by decide +kernel) rfl
theorem k1201 : Cond.methodLink R_Model 263 (mY m_Model_areTold) ∈ zTb := tb_at 1201 (by decide +kernel) rfl
theorem k1203 : Cond.instanceMethod (mY m_Model_areTold) ∈ zTb := tb_at 1203 (by decide +kernel) rfl
theorem kc_Model_locate : Cond.code (mY m_Model_locate) (mC m_Model_locate) (mL m_Model_locate) (mT m_Model_locate) ∈ zTb := tb_at 1199 (by decide +kernel) rfl
theorem y_Model_locate : (mY m_Model_locate).cls ≠ "java/lang/invoke/MethodHandle" ∧ (mY m_Model_locate).cls ≠ "java/lang/invoke/VarHandle" ∧ (parseMethodDescriptor (mY m_Model_locate).desc).map (fun d => d.parameters.length) = some 1 := by decide +kernel
theorem sel_Model_locate : Cond.selects R_Model (mY m_Model_locate) (mY m_Model_locate) ∈ zTb := sel_at (y := mY m_Model_locate) (n := 33) 73 (by decide +kernel)
theorem d_Model_locate_0 : decode (mC m_Model_locate) 0 = .ok (.aload_n 0, 1) := by decide +kernel
theorem d_Model_locate_1 : decode (mC m_Model_locate) 1 = .ok (.getfield 52, 3) := by decide +kernel
theorem d_Model_locate_4 : decode (mC m_Model_locate) 4 = .ok (.iload_n 1, 1) := by decide +kernel
theorem d_Model_locate_5 : decode (mC m_Model_locate) 5 = .ok (.iaload, 1) := by decide +kernel
theorem d_Model_locate_6 : decode (mC m_Model_locate) 6 = .ok (.istore_n 2, 1) := by decide +kernel
theorem d_Model_locate_7 : decode (mC m_Model_locate) 7 = .ok (.iload_n 2, 1) := by decide +kernel
theorem d_Model_locate_8 : decode (mC m_Model_locate) 8 = .ok (.bipush 30, 2) := by decide +kernel
theorem d_Model_locate_10 : decode (mC m_Model_locate) 10 = .ok (.iadd, 1) := by decide +kernel
theorem d_Model_locate_11 : decode (mC m_Model_locate) 11 = .ok (.aload_n 0, 1) := by decide +kernel
theorem d_Model_locate_12 : decode (mC m_Model_locate) 12 = .ok (.getfield 208, 3) := by decide +kernel
theorem d_Model_locate_15 : decode (mC m_Model_locate) 15 = .ok (.if_icmp .gt 16, 3) := by decide +kernel
theorem d_Model_locate_18 : decode (mC m_Model_locate) 18 = .ok (.aload_n 0, 1) := by decide +kernel
theorem d_Model_locate_19 : decode (mC m_Model_locate) 19 = .ok (.iload_n 2, 1) := by decide +kernel
theorem d_Model_locate_20 : decode (mC m_Model_locate) 20 = .ok (.iconst 4, 1) := by decide +kernel
theorem d_Model_locate_21 : decode (mC m_Model_locate) 21 = .ok (.invokevirtual 188, 3) := by decide +kernel
theorem d_Model_locate_24 : decode (mC m_Model_locate) 24 = .ok (.ldc2_w 261, 3) := by decide +kernel
theorem d_Model_locate_27 : decode (mC m_Model_locate) 27 = .ok (.lcmp, 1) := by decide +kernel
theorem d_Model_locate_28 : decode (mC m_Model_locate) 28 = .ok (.ifCond .eq 5, 3) := by decide +kernel
theorem d_Model_locate_31 : decode (mC m_Model_locate) 31 = .ok (.iconst 0, 1) := by decide +kernel
theorem d_Model_locate_32 : decode (mC m_Model_locate) 32 = .ok (.ireturn, 1) := by decide +kernel
theorem d_Model_locate_33 : decode (mC m_Model_locate) 33 = .ok (.aload_n 0, 1) := by decide +kernel
theorem d_Model_locate_34 : decode (mC m_Model_locate) 34 = .ok (.iload_n 2, 1) := by decide +kernel
theorem d_Model_locate_35 : decode (mC m_Model_locate) 35 = .ok (.bipush 26, 2) := by decide +kernel
theorem d_Model_locate_37 : decode (mC m_Model_locate) 37 = .ok (.iadd, 1) := by decide +kernel
theorem d_Model_locate_38 : decode (mC m_Model_locate) 38 = .ok (.invokevirtual 199, 3) := by decide +kernel
theorem d_Model_locate_41 : decode (mC m_Model_locate) 41 = .ok (.istore_n 3, 1) := by decide +kernel
theorem d_Model_locate_42 : decode (mC m_Model_locate) 42 = .ok (.iload_n 2, 1) := by decide +kernel
theorem d_Model_locate_43 : decode (mC m_Model_locate) 43 = .ok (.bipush 30, 2) := by decide +kernel
theorem d_Model_locate_45 : decode (mC m_Model_locate) 45 = .ok (.iadd, 1) := by decide +kernel
theorem d_Model_locate_46 : decode (mC m_Model_locate) 46 = .ok (.iload_n 3, 1) := by decide +kernel
theorem d_Model_locate_47 : decode (mC m_Model_locate) 47 = .ok (.iadd, 1) := by decide +kernel
theorem d_Model_locate_48 : decode (mC m_Model_locate) 48 = .ok (.istore 4, 2) := by decide +kernel
theorem d_Model_locate_50 : decode (mC m_Model_locate) 50 = .ok (.aload_n 0, 1) := by decide +kernel
theorem d_Model_locate_51 : decode (mC m_Model_locate) 51 = .ok (.getfield 61, 3) := by decide +kernel
theorem d_Model_locate_54 : decode (mC m_Model_locate) 54 = .ok (.iload_n 1, 1) := by decide +kernel
theorem d_Model_locate_55 : decode (mC m_Model_locate) 55 = .ok (.iload 4, 2) := by decide +kernel
theorem d_Model_locate_57 : decode (mC m_Model_locate) 57 = .ok (.aload_n 0, 1) := by decide +kernel
theorem d_Model_locate_58 : decode (mC m_Model_locate) 58 = .ok (.iload_n 2, 1) := by decide +kernel
theorem d_Model_locate_59 : decode (mC m_Model_locate) 59 = .ok (.bipush 28, 2) := by decide +kernel
theorem d_Model_locate_61 : decode (mC m_Model_locate) 61 = .ok (.iadd, 1) := by decide +kernel
theorem d_Model_locate_62 : decode (mC m_Model_locate) 62 = .ok (.invokevirtual 199, 3) := by decide +kernel
theorem d_Model_locate_65 : decode (mC m_Model_locate) 65 = .ok (.iadd, 1) := by decide +kernel
theorem d_Model_locate_66 : decode (mC m_Model_locate) 66 = .ok (.iastore, 1) := by decide +kernel
theorem d_Model_locate_67 : decode (mC m_Model_locate) 67 = .ok (.aload_n 0, 1) := by decide +kernel
theorem d_Model_locate_68 : decode (mC m_Model_locate) 68 = .ok (.getfield 61, 3) := by decide +kernel
theorem d_Model_locate_71 : decode (mC m_Model_locate) 71 = .ok (.iload_n 1, 1) := by decide +kernel
theorem d_Model_locate_72 : decode (mC m_Model_locate) 72 = .ok (.iaload, 1) := by decide +kernel
theorem d_Model_locate_73 : decode (mC m_Model_locate) 73 = .ok (.aload_n 0, 1) := by decide +kernel
theorem d_Model_locate_74 : decode (mC m_Model_locate) 74 = .ok (.getfield 208, 3) := by decide +kernel
theorem d_Model_locate_77 : decode (mC m_Model_locate) 77 = .ok (.if_icmp .gt 18, 3) := by decide +kernel
theorem d_Model_locate_80 : decode (mC m_Model_locate) 80 = .ok (.aload_n 0, 1) := by decide +kernel
theorem d_Model_locate_81 : decode (mC m_Model_locate) 81 = .ok (.iload 4, 2) := by decide +kernel
theorem d_Model_locate_83 : decode (mC m_Model_locate) 83 = .ok (.aload_n 0, 1) := by decide +kernel
theorem d_Model_locate_84 : decode (mC m_Model_locate) 84 = .ok (.getfield 61, 3) := by decide +kernel
theorem d_Model_locate_87 : decode (mC m_Model_locate) 87 = .ok (.iload_n 1, 1) := by decide +kernel
theorem d_Model_locate_88 : decode (mC m_Model_locate) 88 = .ok (.iaload, 1) := by decide +kernel
theorem d_Model_locate_89 : decode (mC m_Model_locate) 89 = .ok (.invokevirtual 232, 3) := by decide +kernel
theorem d_Model_locate_92 : decode (mC m_Model_locate) 92 = .ok (.ifCond .ne 5, 3) := by decide +kernel
theorem d_Model_locate_95 : decode (mC m_Model_locate) 95 = .ok (.iconst 0, 1) := by decide +kernel
theorem d_Model_locate_96 : decode (mC m_Model_locate) 96 = .ok (.ireturn, 1) := by decide +kernel
theorem d_Model_locate_97 : decode (mC m_Model_locate) 97 = .ok (.aload_n 0, 1) := by decide +kernel
theorem d_Model_locate_98 : decode (mC m_Model_locate) 98 = .ok (.getfield 64, 3) := by decide +kernel
theorem d_Model_locate_101 : decode (mC m_Model_locate) 101 = .ok (.iload_n 1, 1) := by decide +kernel
theorem d_Model_locate_102 : decode (mC m_Model_locate) 102 = .ok (.aload_n 0, 1) := by decide +kernel
theorem d_Model_locate_103 : decode (mC m_Model_locate) 103 = .ok (.getfield 61, 3) := by decide +kernel
theorem d_Model_locate_106 : decode (mC m_Model_locate) 106 = .ok (.iload_n 1, 1) := by decide +kernel
theorem d_Model_locate_107 : decode (mC m_Model_locate) 107 = .ok (.iaload, 1) := by decide +kernel
theorem d_Model_locate_108 : decode (mC m_Model_locate) 108 = .ok (.aload_n 0, 1) := by decide +kernel
theorem d_Model_locate_109 : decode (mC m_Model_locate) 109 = .ok (.getfield 46, 3) := by decide +kernel
theorem d_Model_locate_112 : decode (mC m_Model_locate) 112 = .ok (.iload_n 1, 1) := by decide +kernel
theorem d_Model_locate_113 : decode (mC m_Model_locate) 113 = .ok (.iaload, 1) := by decide +kernel
theorem d_Model_locate_114 : decode (mC m_Model_locate) 114 = .ok (.iadd, 1) := by decide +kernel
theorem d_Model_locate_115 : decode (mC m_Model_locate) 115 = .ok (.iconst 2, 1) := by decide +kernel
theorem d_Model_locate_116 : decode (mC m_Model_locate) 116 = .ok (.aload_n 0, 1) := by decide +kernel
theorem d_Model_locate_117 : decode (mC m_Model_locate) 117 = .ok (.getfield 37, 3) := by decide +kernel
theorem d_Model_locate_120 : decode (mC m_Model_locate) 120 = .ok (.iload_n 1, 1) := by decide +kernel
theorem d_Model_locate_121 : decode (mC m_Model_locate) 121 = .ok (.iaload, 1) := by decide +kernel
theorem d_Model_locate_122 : decode (mC m_Model_locate) 122 = .ok (.imul, 1) := by decide +kernel
theorem d_Model_locate_123 : decode (mC m_Model_locate) 123 = .ok (.iadd, 1) := by decide +kernel
theorem d_Model_locate_124 : decode (mC m_Model_locate) 124 = .ok (.iastore, 1) := by decide +kernel
theorem d_Model_locate_125 : decode (mC m_Model_locate) 125 = .ok (.aload_n 0, 1) := by decide +kernel
theorem d_Model_locate_126 : decode (mC m_Model_locate) 126 = .ok (.iload_n 2, 1) := by decide +kernel
theorem d_Model_locate_127 : decode (mC m_Model_locate) 127 = .ok (.bipush 6, 2) := by decide +kernel
theorem d_Model_locate_129 : decode (mC m_Model_locate) 129 = .ok (.iadd, 1) := by decide +kernel
theorem d_Model_locate_130 : decode (mC m_Model_locate) 130 = .ok (.invokevirtual 199, 3) := by decide +kernel
theorem d_Model_locate_133 : decode (mC m_Model_locate) 133 = .ok (.aload_n 0, 1) := by decide +kernel
theorem d_Model_locate_134 : decode (mC m_Model_locate) 134 = .ok (.getfield 37, 3) := by decide +kernel
theorem d_Model_locate_137 : decode (mC m_Model_locate) 137 = .ok (.iload_n 1, 1) := by decide +kernel
theorem d_Model_locate_138 : decode (mC m_Model_locate) 138 = .ok (.iaload, 1) := by decide +kernel
theorem d_Model_locate_139 : decode (mC m_Model_locate) 139 = .ok (.if_icmp .ne 53, 3) := by decide +kernel
theorem d_Model_locate_142 : decode (mC m_Model_locate) 142 = .ok (.aload_n 0, 1) := by decide +kernel
theorem d_Model_locate_143 : decode (mC m_Model_locate) 143 = .ok (.iload_n 2, 1) := by decide +kernel
theorem d_Model_locate_144 : decode (mC m_Model_locate) 144 = .ok (.bipush 8, 2) := by decide +kernel
theorem d_Model_locate_146 : decode (mC m_Model_locate) 146 = .ok (.iadd, 1) := by decide +kernel
theorem d_Model_locate_147 : decode (mC m_Model_locate) 147 = .ok (.invokevirtual 199, 3) := by decide +kernel
theorem d_Model_locate_150 : decode (mC m_Model_locate) 150 = .ok (.aload_n 0, 1) := by decide +kernel
theorem d_Model_locate_151 : decode (mC m_Model_locate) 151 = .ok (.getfield 40, 3) := by decide +kernel
theorem d_Model_locate_154 : decode (mC m_Model_locate) 154 = .ok (.iload_n 1, 1) := by decide +kernel
theorem d_Model_locate_155 : decode (mC m_Model_locate) 155 = .ok (.iaload, 1) := by decide +kernel
theorem d_Model_locate_156 : decode (mC m_Model_locate) 156 = .ok (.if_icmp .ne 36, 3) := by decide +kernel
theorem d_Model_locate_159 : decode (mC m_Model_locate) 159 = .ok (.aload_n 0, 1) := by decide +kernel
theorem d_Model_locate_160 : decode (mC m_Model_locate) 160 = .ok (.iload_n 2, 1) := by decide +kernel
theorem d_Model_locate_161 : decode (mC m_Model_locate) 161 = .ok (.bipush 30, 2) := by decide +kernel
theorem d_Model_locate_163 : decode (mC m_Model_locate) 163 = .ok (.iadd, 1) := by decide +kernel
theorem d_Model_locate_164 : decode (mC m_Model_locate) 164 = .ok (.iload_n 3, 1) := by decide +kernel
theorem d_Model_locate_165 : decode (mC m_Model_locate) 165 = .ok (.invokevirtual 235, 3) := by decide +kernel
theorem d_Model_locate_168 : decode (mC m_Model_locate) 168 = .ok (.aload_n 0, 1) := by decide +kernel
theorem d_Model_locate_169 : decode (mC m_Model_locate) 169 = .ok (.getfield 34, 3) := by decide +kernel
theorem d_Model_locate_172 : decode (mC m_Model_locate) 172 = .ok (.iload_n 1, 1) := by decide +kernel
theorem d_Model_locate_173 : decode (mC m_Model_locate) 173 = .ok (.iaload, 1) := by decide +kernel
theorem d_Model_locate_174 : decode (mC m_Model_locate) 174 = .ok (.if_icmp .ne 18, 3) := by decide +kernel
theorem d_Model_locate_177 : decode (mC m_Model_locate) 177 = .ok (.aload_n 0, 1) := by decide +kernel
theorem d_Model_locate_178 : decode (mC m_Model_locate) 178 = .ok (.iload_n 1, 1) := by decide +kernel
theorem d_Model_locate_179 : decode (mC m_Model_locate) 179 = .ok (.iload_n 2, 1) := by decide +kernel
theorem d_Model_locate_180 : decode (mC m_Model_locate) 180 = .ok (.iload 4, 2) := by decide +kernel
theorem d_Model_locate_182 : decode (mC m_Model_locate) 182 = .ok (.invokevirtual 263, 3) := by decide +kernel
theorem d_Model_locate_185 : decode (mC m_Model_locate) 185 = .ok (.ifCond .eq 7, 3) := by decide +kernel
theorem d_Model_locate_188 : decode (mC m_Model_locate) 188 = .ok (.iconst 1, 1) := by decide +kernel
theorem d_Model_locate_189 : decode (mC m_Model_locate) 189 = .ok (.goto 4, 3) := by decide +kernel
theorem d_Model_locate_192 : decode (mC m_Model_locate) 192 = .ok (.iconst 0, 1) := by decide +kernel
theorem d_Model_locate_193 : decode (mC m_Model_locate) 193 = .ok (.ireturn, 1) := by decide +kernel
def b_Model_locate_192 (F : Nat) (w : zW) : Option (Int32 × zW) := some ((0 : Int32), w)
set_option maxRecDepth 100000 in
set_option maxHeartbeats 4000000 in
theorem b_Model_locate_192_ok (G : zG) (F : Nat) (w : zW) (r : (Int32 × zW)) (h : b_Model_locate_192 F w = some r) : zV G m_Model_locate 192 [] [] w 0 0 (oI r.1) r.2 := by
  unfold b_Model_locate_192 at h
  refine V_iconst (v := 0) d_Model_locate_192 (by decide) ?_
  obtain rfl := Option.some.inj h
  exact V_zret rfl (Or.inl rfl) (by decide) (by decide) d_Model_locate_193
def b_Model_locate_95 (F : Nat) (w : zW) : Option (Int32 × zW) := some ((0 : Int32), w)
set_option maxRecDepth 100000 in
set_option maxHeartbeats 4000000 in
theorem b_Model_locate_95_ok (G : zG) (F : Nat) (w : zW) (r : (Int32 × zW)) (h : b_Model_locate_95 F w = some r) : zV G m_Model_locate 95 [] [] w 0 0 (oI r.1) r.2 := by
  unfold b_Model_locate_95 at h
  refine V_iconst (v := 0) d_Model_locate_95 (by decide) ?_
  obtain rfl := Option.some.inj h
  exact V_zret rfl (Or.inl rfl) (by decide) (by decide) d_Model_locate_96
def b_Model_locate_31 (F : Nat) (w : zW) : Option (Int32 × zW) := some ((0 : Int32), w)
set_option maxRecDepth 100000 in
set_option maxHeartbeats 4000000 in
theorem b_Model_locate_31_ok (G : zG) (F : Nat) (w : zW) (r : (Int32 × zW)) (h : b_Model_locate_31 F w = some r) : zV G m_Model_locate 31 [] [] w 0 0 (oI r.1) r.2 := by
  unfold b_Model_locate_31 at h
  refine V_iconst (v := 0) d_Model_locate_31 (by decide) ?_
  obtain rfl := Option.some.inj h
  exact V_zret rfl (Or.inl rfl) (by decide) (by decide) d_Model_locate_32
def b_Model_locate_0 (F : Nat) (v0 : Nat) (v1 : Int32) (w : zW) : Option (Int32 × zW) := (getR w v0 9 26).bind fun x1 => (aget w x1 v1).bind fun x5 => (getI w v0 9 18).bind fun x12 => if x12 < (x5 + (30 : Int32)) then (b_Model_locate_31 F w) else ((zobj w v0 9).bind fun _ => (f_Model_number F v0 x5 (4 : Int32) w).bind fun r21 => if (lg_cmp r21.1 (67324752 : Int64)) = 0 then ((zobj r21.2 v0 9).bind fun _ => (f_Model_two F v0 (x5 + (26 : Int32)) r21.2).bind fun r38 => (getR r38.2 v0 9 29).bind fun x51 => (zobj r38.2 v0 9).bind fun _ => (f_Model_two F v0 (x5 + (28 : Int32)) r38.2).bind fun r62 => (aset r62.2 x51 v1 (((x5 + (30 : Int32)) + r38.1) + r62.1)).bind fun w66 => (getR w66 v0 9 29).bind fun x68 => (aget w66 x68 v1).bind fun x72 => (getI w66 v0 9 18).bind fun x74 => if x74 < x72 then (b_Model_locate_95 F w66) else ((getR w66 v0 9 29).bind fun x84 => (aget w66 x84 v1).bind fun x88 => (zobj w66 v0 9).bind fun _ => (f_Model_areRecords F v0 ((x5 + (30 : Int32)) + r38.1) x88 w66).bind fun r89 => if r89.1 = 0 then (b_Model_locate_95 F r89.2) else ((getR r89.2 v0 9 30).bind fun x98 => (getR r89.2 v0 9 29).bind fun x103 => (aget r89.2 x103 v1).bind fun x107 => (getR r89.2 v0 9 24).bind fun x109 => (aget r89.2 x109 v1).bind fun x113 => (getR r89.2 v0 9 21).bind fun x117 => (aget r89.2 x117 v1).bind fun x121 => (aset r89.2 x98 v1 ((x107 + x113) + ((2 : Int32) * x121))).bind fun w124 => (zobj w124 v0 9).bind fun _ => (f_Model_two F v0 (x5 + (6 : Int32)) w124).bind fun r130 => (getR r130.2 v0 9 21).bind fun x134 => (aget r130.2 x134 v1).bind fun x138 => if r130.1 = x138 then ((zobj r130.2 v0 9).bind fun _ => (f_Model_two F v0 (x5 + (8 : Int32)) r130.2).bind fun r147 => (getR r147.2 v0 9 22).bind fun x151 => (aget r147.2 x151 v1).bind fun x155 => if r147.1 = x155 then ((zobj r147.2 v0 9).bind fun _ => (f_Model_nameAt F v0 (x5 + (30 : Int32)) r38.1 r147.2).bind fun r165 => (getR r165.2 v0 9 20).bind fun x169 => (aget r165.2 x169 v1).bind fun x173 => if r165.1 = x173 then ((zobj r165.2 v0 9).bind fun _ => (f_Model_areTold F v0 v1 x5 ((x5 + (30 : Int32)) + r38.1) r165.2).bind fun r182 => if r182.1 = 0 then (b_Model_locate_192 F r182.2) else (some ((1 : Int32), r182.2))) else (b_Model_locate_192 F r165.2)) else (b_Model_locate_192 F r147.2)) else (b_Model_locate_192 F r130.2)))) else (b_Model_locate_31 F r21.2))
set_option maxRecDepth 100000 in
set_option maxHeartbeats 4000000 in
theorem b_Model_locate_0_ok (G : zG) (F : Nat) (v0 : Nat) (v1 : Int32) (w : zW) (r : (Int32 × zW)) (h : b_Model_locate_0 F v0 v1 w = some r) : zV G m_Model_locate 0 [(0, .ref (z0 G + v0)), (1, .int v1)] [] w 0 0 (oI r.1) r.2 := by
  unfold b_Model_locate_0 at h
  refine V_aload_n (i := 0) d_Model_locate_0 rfl 0 rfl ?_
  obtain ⟨x1, e1, h⟩ := ob h
  refine V_getR (ci := 9) (k := 26) d_Model_locate_1 e1 rfl (by decide) in_Model k908 ?_
  refine V_iload_n (i := 1) d_Model_locate_4 rfl 1 rfl ?_
  obtain ⟨x5, e5, h⟩ := ob h
  refine V_aget d_Model_locate_5 e5 ?_
  refine V_istore_n (i := 2) d_Model_locate_6 rfl (by decide) rfl ?_
  refine V_iload_n (i := 2) d_Model_locate_7 rfl 0 rfl ?_
  refine V_bipush (v := 30) d_Model_locate_8 (by decide) ?_
  refine V_iadd d_Model_locate_10 ?_
  refine V_aload_n (i := 0) d_Model_locate_11 rfl 1 rfl ?_
  obtain ⟨x12, e12, h⟩ := ob h
  refine V_getI (ci := 9) (k := 18) d_Model_locate_12 e12 rfl (by decide) in_Model k900 ?_
  refine V_icmp_gt (tgt := 31) d_Model_locate_15 (by decide) (fun c15 => ?_) (fun c15 => ?_)
  · rw [if_pos c15] at h
    refine V_lv [] rfl ?_
    exact b_Model_locate_31_ok G F w _ h
  · rw [if_neg c15] at h
    refine V_aload_n (i := 0) d_Model_locate_18 rfl 1 rfl ?_
    refine V_iload_n (i := 2) d_Model_locate_19 rfl 0 rfl ?_
    refine V_iconst (v := 4) d_Model_locate_20 (by decide) ?_
    obtain ⟨_, eo21, h⟩ := ob h
    obtain ⟨r21, e21, h⟩ := ob h
    refine V_call (v := some (.long r21.1)) (st := []) (inv_V (N := m_Model_number) (As := [.int x5, .int (4 : Int32)]) (ci := 9) d_Model_locate_21 eo21 rfl k1138 k1140 sel_Model_number kc_Model_number y_Model_number) ⟨Or.inl kc_Model_number, k10, by decide, by decide⟩ (Nat.le_of_ble_eq_true rfl) (by decide) (by decide) (c_Model_number G F v0 x5 (4 : Int32) w r21 e21) ?_
    refine V_ldc2 (v := 67324752) d_Model_locate_24 k1200 ?_
    refine V_lcmp d_Model_locate_27 ?_
    refine V_if_eq (tgt := 33) d_Model_locate_28 (by decide) (fun c28 => ?_) (fun c28 => ?_)
    · rw [if_pos c28] at h
      refine V_aload_n (i := 0) d_Model_locate_33 rfl 1 rfl ?_
      refine V_iload_n (i := 2) d_Model_locate_34 rfl 0 rfl ?_
      refine V_bipush (v := 26) d_Model_locate_35 (by decide) ?_
      refine V_iadd d_Model_locate_37 ?_
      obtain ⟨_, eo38, h⟩ := ob h
      obtain ⟨r38, e38, h⟩ := ob h
      refine V_call (v := some (.int r38.1)) (st := []) (inv_V (N := m_Model_two) (As := [.int (x5 + (26 : Int32))]) (ci := 9) d_Model_locate_38 eo38 rfl k1143 k1145 sel_Model_two kc_Model_two y_Model_two) ⟨Or.inl kc_Model_two, k10, by decide, by decide⟩ (Nat.le_of_ble_eq_true rfl) (by decide) (by decide) (c_Model_two G F v0 (x5 + (26 : Int32)) r21.2 r38 e38) ?_
      refine V_istore_n (i := 3) d_Model_locate_41 rfl (by decide) rfl ?_
      refine V_iload_n (i := 2) d_Model_locate_42 rfl 1 rfl ?_
      refine V_bipush (v := 30) d_Model_locate_43 (by decide) ?_
      refine V_iadd d_Model_locate_45 ?_
      refine V_iload_n (i := 3) d_Model_locate_46 rfl 0 rfl ?_
      refine V_iadd d_Model_locate_47 ?_
      refine V_istore (i := 4) d_Model_locate_48 (by decide) rfl ?_
      refine V_aload_n (i := 0) d_Model_locate_50 rfl 3 rfl ?_
      obtain ⟨x51, e51, h⟩ := ob h
      refine V_getR (ci := 9) (k := 29) d_Model_locate_51 e51 rfl (by decide) in_Model k911 ?_
      refine V_iload_n (i := 1) d_Model_locate_54 rfl 4 rfl ?_
      refine V_iload (i := 4) d_Model_locate_55 0 rfl ?_
      refine V_aload_n (i := 0) d_Model_locate_57 rfl 3 rfl ?_
      refine V_iload_n (i := 2) d_Model_locate_58 rfl 2 rfl ?_
      refine V_bipush (v := 28) d_Model_locate_59 (by decide) ?_
      refine V_iadd d_Model_locate_61 ?_
      obtain ⟨_, eo62, h⟩ := ob h
      obtain ⟨r62, e62, h⟩ := ob h
      refine V_call (v := some (.int r62.1)) (st := [.int ((x5 + (30 : Int32)) + r38.1), .int v1, .ref (z0 G + x51)]) (inv_V (N := m_Model_two) (As := [.int (x5 + (28 : Int32))]) (ci := 9) d_Model_locate_62 eo62 rfl k1143 k1145 sel_Model_two kc_Model_two y_Model_two) ⟨Or.inl kc_Model_two, k10, by decide, by decide⟩ (Nat.le_of_ble_eq_true rfl) (by decide) (by decide) (c_Model_two G F v0 (x5 + (28 : Int32)) r38.2 r62 e62) ?_
      refine V_iadd d_Model_locate_65 ?_
      obtain ⟨w66, e66, h⟩ := ob h
      refine V_aset d_Model_locate_66 e66 ?_
      refine V_aload_n (i := 0) d_Model_locate_67 rfl 3 rfl ?_
      obtain ⟨x68, e68, h⟩ := ob h
      refine V_getR (ci := 9) (k := 29) d_Model_locate_68 e68 rfl (by decide) in_Model k911 ?_
      refine V_iload_n (i := 1) d_Model_locate_71 rfl 4 rfl ?_
      obtain ⟨x72, e72, h⟩ := ob h
      refine V_aget d_Model_locate_72 e72 ?_
      refine V_aload_n (i := 0) d_Model_locate_73 rfl 3 rfl ?_
      obtain ⟨x74, e74, h⟩ := ob h
      refine V_getI (ci := 9) (k := 18) d_Model_locate_74 e74 rfl (by decide) in_Model k900 ?_
      refine V_icmp_gt (tgt := 95) d_Model_locate_77 (by decide) (fun c77 => ?_) (fun c77 => ?_)
      · rw [if_pos c77] at h
        refine V_lv [] rfl ?_
        exact b_Model_locate_95_ok G F w66 _ h
      · rw [if_neg c77] at h
        refine V_aload_n (i := 0) d_Model_locate_80 rfl 3 rfl ?_
        refine V_iload (i := 4) d_Model_locate_81 0 rfl ?_
        refine V_aload_n (i := 0) d_Model_locate_83 rfl 3 rfl ?_
        obtain ⟨x84, e84, h⟩ := ob h
        refine V_getR (ci := 9) (k := 29) d_Model_locate_84 e84 rfl (by decide) in_Model k911 ?_
        refine V_iload_n (i := 1) d_Model_locate_87 rfl 4 rfl ?_
        obtain ⟨x88, e88, h⟩ := ob h
        refine V_aget d_Model_locate_88 e88 ?_
        obtain ⟨_, eo89, h⟩ := ob h
        obtain ⟨r89, e89, h⟩ := ob h
        refine V_call (v := some (.int r89.1)) (st := []) (inv_V (N := m_Model_areRecords) (As := [.int ((x5 + (30 : Int32)) + r38.1), .int x88]) (ci := 9) d_Model_locate_89 eo89 rfl k1168 k1170 sel_Model_areRecords kc_Model_areRecords y_Model_areRecords) ⟨Or.inl kc_Model_areRecords, k10, by decide, by decide⟩ (Nat.le_of_ble_eq_true rfl) (by decide) (by decide) (c_Model_areRecords G F v0 ((x5 + (30 : Int32)) + r38.1) x88 w66 r89 e89) ?_
        refine V_if_ne (tgt := 97) d_Model_locate_92 (by decide) (fun c92 => ?_) (fun c92 => ?_)
        · rw [if_neg c92] at h
          refine V_aload_n (i := 0) d_Model_locate_97 rfl 3 rfl ?_
          obtain ⟨x98, e98, h⟩ := ob h
          refine V_getR (ci := 9) (k := 30) d_Model_locate_98 e98 rfl (by decide) in_Model k912 ?_
          refine V_iload_n (i := 1) d_Model_locate_101 rfl 4 rfl ?_
          refine V_aload_n (i := 0) d_Model_locate_102 rfl 3 rfl ?_
          obtain ⟨x103, e103, h⟩ := ob h
          refine V_getR (ci := 9) (k := 29) d_Model_locate_103 e103 rfl (by decide) in_Model k911 ?_
          refine V_iload_n (i := 1) d_Model_locate_106 rfl 4 rfl ?_
          obtain ⟨x107, e107, h⟩ := ob h
          refine V_aget d_Model_locate_107 e107 ?_
          refine V_aload_n (i := 0) d_Model_locate_108 rfl 3 rfl ?_
          obtain ⟨x109, e109, h⟩ := ob h
          refine V_getR (ci := 9) (k := 24) d_Model_locate_109 e109 rfl (by decide) in_Model k906 ?_
          refine V_iload_n (i := 1) d_Model_locate_112 rfl 4 rfl ?_
          obtain ⟨x113, e113, h⟩ := ob h
          refine V_aget d_Model_locate_113 e113 ?_
          refine V_iadd d_Model_locate_114 ?_
          refine V_iconst (v := 2) d_Model_locate_115 (by decide) ?_
          refine V_aload_n (i := 0) d_Model_locate_116 rfl 3 rfl ?_
          obtain ⟨x117, e117, h⟩ := ob h
          refine V_getR (ci := 9) (k := 21) d_Model_locate_117 e117 rfl (by decide) in_Model k903 ?_
          refine V_iload_n (i := 1) d_Model_locate_120 rfl 4 rfl ?_
          obtain ⟨x121, e121, h⟩ := ob h
          refine V_aget d_Model_locate_121 e121 ?_
          refine V_imul d_Model_locate_122 ?_
          refine V_iadd d_Model_locate_123 ?_
          obtain ⟨w124, e124, h⟩ := ob h
          refine V_aset d_Model_locate_124 e124 ?_
          refine V_aload_n (i := 0) d_Model_locate_125 rfl 3 rfl ?_
          refine V_iload_n (i := 2) d_Model_locate_126 rfl 2 rfl ?_
          refine V_bipush (v := 6) d_Model_locate_127 (by decide) ?_
          refine V_iadd d_Model_locate_129 ?_
          obtain ⟨_, eo130, h⟩ := ob h
          obtain ⟨r130, e130, h⟩ := ob h
          refine V_call (v := some (.int r130.1)) (st := []) (inv_V (N := m_Model_two) (As := [.int (x5 + (6 : Int32))]) (ci := 9) d_Model_locate_130 eo130 rfl k1143 k1145 sel_Model_two kc_Model_two y_Model_two) ⟨Or.inl kc_Model_two, k10, by decide, by decide⟩ (Nat.le_of_ble_eq_true rfl) (by decide) (by decide) (c_Model_two G F v0 (x5 + (6 : Int32)) w124 r130 e130) ?_
          refine V_aload_n (i := 0) d_Model_locate_133 rfl 3 rfl ?_
          obtain ⟨x134, e134, h⟩ := ob h
          refine V_getR (ci := 9) (k := 21) d_Model_locate_134 e134 rfl (by decide) in_Model k903 ?_
          refine V_iload_n (i := 1) d_Model_locate_137 rfl 4 rfl ?_
          obtain ⟨x138, e138, h⟩ := ob h
          refine V_aget d_Model_locate_138 e138 ?_
          refine V_icmp_ne (tgt := 192) d_Model_locate_139 (by decide) (fun c139 => ?_) (fun c139 => ?_)
          · rw [if_neg c139] at h
            refine V_lv [] rfl ?_
            exact b_Model_locate_192_ok G F r130.2 _ h
          · rw [if_pos c139] at h
            refine V_aload_n (i := 0) d_Model_locate_142 rfl 3 rfl ?_
            refine V_iload_n (i := 2) d_Model_locate_143 rfl 2 rfl ?_
            refine V_bipush (v := 8) d_Model_locate_144 (by decide) ?_
            refine V_iadd d_Model_locate_146 ?_
            obtain ⟨_, eo147, h⟩ := ob h
            obtain ⟨r147, e147, h⟩ := ob h
            refine V_call (v := some (.int r147.1)) (st := []) (inv_V (N := m_Model_two) (As := [.int (x5 + (8 : Int32))]) (ci := 9) d_Model_locate_147 eo147 rfl k1143 k1145 sel_Model_two kc_Model_two y_Model_two) ⟨Or.inl kc_Model_two, k10, by decide, by decide⟩ (Nat.le_of_ble_eq_true rfl) (by decide) (by decide) (c_Model_two G F v0 (x5 + (8 : Int32)) r130.2 r147 e147) ?_
            refine V_aload_n (i := 0) d_Model_locate_150 rfl 3 rfl ?_
            obtain ⟨x151, e151, h⟩ := ob h
            refine V_getR (ci := 9) (k := 22) d_Model_locate_151 e151 rfl (by decide) in_Model k904 ?_
            refine V_iload_n (i := 1) d_Model_locate_154 rfl 4 rfl ?_
            obtain ⟨x155, e155, h⟩ := ob h
            refine V_aget d_Model_locate_155 e155 ?_
            refine V_icmp_ne (tgt := 192) d_Model_locate_156 (by decide) (fun c156 => ?_) (fun c156 => ?_)
            · rw [if_neg c156] at h
              refine V_lv [] rfl ?_
              exact b_Model_locate_192_ok G F r147.2 _ h
            · rw [if_pos c156] at h
              refine V_aload_n (i := 0) d_Model_locate_159 rfl 3 rfl ?_
              refine V_iload_n (i := 2) d_Model_locate_160 rfl 2 rfl ?_
              refine V_bipush (v := 30) d_Model_locate_161 (by decide) ?_
              refine V_iadd d_Model_locate_163 ?_
              refine V_iload_n (i := 3) d_Model_locate_164 rfl 1 rfl ?_
              obtain ⟨_, eo165, h⟩ := ob h
              obtain ⟨r165, e165, h⟩ := ob h
              refine V_call (v := some (.int r165.1)) (st := []) (inv_V (N := m_Model_nameAt) (As := [.int (x5 + (30 : Int32)), .int r38.1]) (ci := 9) d_Model_locate_165 eo165 rfl k1172 k1174 sel_Model_nameAt kc_Model_nameAt y_Model_nameAt) ⟨Or.inl kc_Model_nameAt, k10, by decide, by decide⟩ (Nat.le_of_ble_eq_true rfl) (by decide) (by decide) (c_Model_nameAt G F v0 (x5 + (30 : Int32)) r38.1 r147.2 r165 e165) ?_
              refine V_aload_n (i := 0) d_Model_locate_168 rfl 3 rfl ?_
              obtain ⟨x169, e169, h⟩ := ob h
              refine V_getR (ci := 9) (k := 20) d_Model_locate_169 e169 rfl (by decide) in_Model k902 ?_
              refine V_iload_n (i := 1) d_Model_locate_172 rfl 4 rfl ?_
              obtain ⟨x173, e173, h⟩ := ob h
              refine V_aget d_Model_locate_173 e173 ?_
              refine V_icmp_ne (tgt := 192) d_Model_locate_174 (by decide) (fun c174 => ?_) (fun c174 => ?_)
              · rw [if_neg c174] at h
                refine V_lv [] rfl ?_
                exact b_Model_locate_192_ok G F r165.2 _ h
              · rw [if_pos c174] at h
                refine V_aload_n (i := 0) d_Model_locate_177 rfl 3 rfl ?_
                refine V_iload_n (i := 1) d_Model_locate_178 rfl 4 rfl ?_
                refine V_iload_n (i := 2) d_Model_locate_179 rfl 2 rfl ?_
                refine V_iload (i := 4) d_Model_locate_180 0 rfl ?_
                obtain ⟨_, eo182, h⟩ := ob h
                obtain ⟨r182, e182, h⟩ := ob h
                refine V_call (v := some (.int r182.1)) (st := []) (inv_V (N := m_Model_areTold) (As := [.int v1, .int x5, .int ((x5 + (30 : Int32)) + r38.1)]) (ci := 9) d_Model_locate_182 eo182 rfl k1201 k1203 sel_Model_areTold kc_Model_areTold y_Model_areTold) ⟨Or.inl kc_Model_areTold, k10, by decide, by decide⟩ (Nat.le_of_ble_eq_true rfl) (by decide) (by decide) (c_Model_areTold G F v0 v1 x5 ((x5 + (30 : Int32)) + r38.1) r165.2 r182 e182) ?_
                refine V_if_eq (tgt := 192) d_Model_locate_185 (by decide) (fun c185 => ?_) (fun c185 => ?_)
                · rw [if_pos c185] at h
                  refine V_lv [] rfl ?_
                  exact b_Model_locate_192_ok G F r182.2 _ h
                · rw [if_neg c185] at h
                  refine V_iconst (v := 1) d_Model_locate_188 (by decide) ?_
                  refine V_goto (tgt := 193) d_Model_locate_189 (by decide) ?_
                  obtain rfl := Option.some.inj h
                  exact V_zret rfl (Or.inr rfl) (by decide) (by decide) d_Model_locate_193
        · rw [if_pos c92] at h
          refine V_lv [] rfl ?_
          exact b_Model_locate_95_ok G F r89.2 _ h
    · rw [if_neg c28] at h
      refine V_lv [] rfl ?_
      exact b_Model_locate_31_ok G F r21.2 _ h
def f_Model_locate (F : Nat) (v0 : Nat) (v1 : Int32) (w : zW) : Option (Int32 × zW) := b_Model_locate_0 F v0 v1 w
theorem c_Model_locate (G : zG) (F : Nat) (v0 : Nat) (v1 : Int32) (w : zW) (r : (Int32 × zW)) (h : f_Model_locate F v0 v1 w = some r) : zCT G m_Model_locate [.ref (z0 G + v0), .int v1] w (oI r.1) r.2 := zCT.ofV (by decide +kernel) (Or.inl ⟨kc_Model_locate, rfl⟩) (Nat.le_of_ble_eq_true rfl) (b_Model_locate_0_ok G F v0 v1 w r h)

/-! ZipArrayModel.meets(I)Z -/
def m_Model_meets : zM := (⟨R_Model, "meets", "(I)Z"⟩, prog_11_method_55_code, 5, (some .boolean), [], { frames := 4, cells := 0, slots := 0, locals := 100 })
theorem k1196 : Cond.methodLink R_Model 267 (mY m_Model_locate) ∈ zTb := tb_at 1196 (by decide +kernel) rfl
theorem k1198 : Cond.instanceMethod (mY m_Model_locate) ∈ zTb := tb_at 1198 (by decide +kernel) rfl
theorem kc_Model_meets : Cond.code (mY m_Model_meets) (mC m_Model_meets) (mL m_Model_meets) (mT m_Model_meets) ∈ zTb := tb_at 1208 (by decide +kernel) rfl
theorem y_Model_meets : (mY m_Model_meets).cls ≠ "java/lang/invoke/MethodHandle" ∧ (mY m_Model_meets).cls ≠ "java/lang/invoke/VarHandle" ∧ (parseMethodDescriptor (mY m_Model_meets).desc).map (fun d => d.parameters.length) = some 1 := by decide +kernel
theorem sel_Model_meets : Cond.selects R_Model (mY m_Model_meets) (mY m_Model_meets) ∈ zTb := sel_at (y := mY m_Model_meets) (n := 33) 75 (by decide +kernel)
theorem d_Model_meets_0 : decode (mC m_Model_meets) 0 = .ok (.aload_n 0, 1) := by decide +kernel
theorem d_Model_meets_1 : decode (mC m_Model_meets) 1 = .ok (.getfield 64, 3) := by decide +kernel
theorem d_Model_meets_4 : decode (mC m_Model_meets) 4 = .ok (.iload_n 1, 1) := by decide +kernel
theorem d_Model_meets_5 : decode (mC m_Model_meets) 5 = .ok (.iaload, 1) := by decide +kernel
theorem d_Model_meets_6 : decode (mC m_Model_meets) 6 = .ok (.aload_n 0, 1) := by decide +kernel
theorem d_Model_meets_7 : decode (mC m_Model_meets) 7 = .ok (.getfield 208, 3) := by decide +kernel
theorem d_Model_meets_10 : decode (mC m_Model_meets) 10 = .ok (.if_icmp .le 7, 3) := by decide +kernel
theorem d_Model_meets_13 : decode (mC m_Model_meets) 13 = .ok (.iconst 1, 1) := by decide +kernel
theorem d_Model_meets_14 : decode (mC m_Model_meets) 14 = .ok (.goto 4, 3) := by decide +kernel
theorem d_Model_meets_17 : decode (mC m_Model_meets) 17 = .ok (.iconst 0, 1) := by decide +kernel
theorem d_Model_meets_18 : decode (mC m_Model_meets) 18 = .ok (.istore_n 2, 1) := by decide +kernel
theorem d_Model_meets_19 : decode (mC m_Model_meets) 19 = .ok (.iconst 0, 1) := by decide +kernel
theorem d_Model_meets_20 : decode (mC m_Model_meets) 20 = .ok (.istore_n 3, 1) := by decide +kernel
theorem d_Model_meets_21 : decode (mC m_Model_meets) 21 = .ok (.iload_n 3, 1) := by decide +kernel
theorem d_Model_meets_22 : decode (mC m_Model_meets) 22 = .ok (.iload_n 1, 1) := by decide +kernel
theorem d_Model_meets_23 : decode (mC m_Model_meets) 23 = .ok (.if_icmp .ge 61, 3) := by decide +kernel
theorem d_Model_meets_26 : decode (mC m_Model_meets) 26 = .ok (.aload_n 0, 1) := by decide +kernel
theorem d_Model_meets_27 : decode (mC m_Model_meets) 27 = .ok (.iload_n 3, 1) := by decide +kernel
theorem d_Model_meets_28 : decode (mC m_Model_meets) 28 = .ok (.invokevirtual 267, 3) := by decide +kernel
theorem d_Model_meets_31 : decode (mC m_Model_meets) 31 = .ok (.istore 4, 2) := by decide +kernel
theorem d_Model_meets_33 : decode (mC m_Model_meets) 33 = .ok (.iload_n 2, 1) := by decide +kernel
theorem d_Model_meets_34 : decode (mC m_Model_meets) 34 = .ok (.ifCond .ne 38, 3) := by decide +kernel
theorem d_Model_meets_37 : decode (mC m_Model_meets) 37 = .ok (.iload 4, 2) := by decide +kernel
theorem d_Model_meets_39 : decode (mC m_Model_meets) 39 = .ok (.ifCond .eq 37, 3) := by decide +kernel
theorem d_Model_meets_42 : decode (mC m_Model_meets) 42 = .ok (.aload_n 0, 1) := by decide +kernel
theorem d_Model_meets_43 : decode (mC m_Model_meets) 43 = .ok (.getfield 52, 3) := by decide +kernel
theorem d_Model_meets_46 : decode (mC m_Model_meets) 46 = .ok (.iload_n 3, 1) := by decide +kernel
theorem d_Model_meets_47 : decode (mC m_Model_meets) 47 = .ok (.iaload, 1) := by decide +kernel
theorem d_Model_meets_48 : decode (mC m_Model_meets) 48 = .ok (.aload_n 0, 1) := by decide +kernel
theorem d_Model_meets_49 : decode (mC m_Model_meets) 49 = .ok (.getfield 64, 3) := by decide +kernel
theorem d_Model_meets_52 : decode (mC m_Model_meets) 52 = .ok (.iload_n 1, 1) := by decide +kernel
theorem d_Model_meets_53 : decode (mC m_Model_meets) 53 = .ok (.iaload, 1) := by decide +kernel
theorem d_Model_meets_54 : decode (mC m_Model_meets) 54 = .ok (.if_icmp .ge 22, 3) := by decide +kernel
theorem d_Model_meets_57 : decode (mC m_Model_meets) 57 = .ok (.aload_n 0, 1) := by decide +kernel
theorem d_Model_meets_58 : decode (mC m_Model_meets) 58 = .ok (.getfield 52, 3) := by decide +kernel
theorem d_Model_meets_61 : decode (mC m_Model_meets) 61 = .ok (.iload_n 1, 1) := by decide +kernel
theorem d_Model_meets_62 : decode (mC m_Model_meets) 62 = .ok (.iaload, 1) := by decide +kernel
theorem d_Model_meets_63 : decode (mC m_Model_meets) 63 = .ok (.aload_n 0, 1) := by decide +kernel
theorem d_Model_meets_64 : decode (mC m_Model_meets) 64 = .ok (.getfield 64, 3) := by decide +kernel
theorem d_Model_meets_67 : decode (mC m_Model_meets) 67 = .ok (.iload_n 3, 1) := by decide +kernel
theorem d_Model_meets_68 : decode (mC m_Model_meets) 68 = .ok (.iaload, 1) := by decide +kernel
theorem d_Model_meets_69 : decode (mC m_Model_meets) 69 = .ok (.if_icmp .ge 7, 3) := by decide +kernel
theorem d_Model_meets_72 : decode (mC m_Model_meets) 72 = .ok (.iconst 1, 1) := by decide +kernel
theorem d_Model_meets_73 : decode (mC m_Model_meets) 73 = .ok (.goto 4, 3) := by decide +kernel
theorem d_Model_meets_76 : decode (mC m_Model_meets) 76 = .ok (.iconst 0, 1) := by decide +kernel
theorem d_Model_meets_77 : decode (mC m_Model_meets) 77 = .ok (.istore_n 2, 1) := by decide +kernel
theorem d_Model_meets_78 : decode (mC m_Model_meets) 78 = .ok (.iinc 3 1, 3) := by decide +kernel
theorem d_Model_meets_81 : decode (mC m_Model_meets) 81 = .ok (.goto (-60), 3) := by decide +kernel
theorem d_Model_meets_84 : decode (mC m_Model_meets) 84 = .ok (.iload_n 2, 1) := by decide +kernel
theorem d_Model_meets_85 : decode (mC m_Model_meets) 85 = .ok (.ireturn, 1) := by decide +kernel
def b_Model_meets_77 (F : Nat) (K21 : Nat → Int32 → Int32 → Int32 → zW → Option (Int32 × zW)) (v0 : Nat) (v1 : Int32) (v3 : Int32) (s0 : Int32) (w : zW) : Option (Int32 × zW) := K21 v0 v1 s0 (v3 + (1 : Int32)) w
set_option maxRecDepth 100000 in
set_option maxHeartbeats 4000000 in
theorem b_Model_meets_77_ok (G : zG) (F : Nat) (K21 : Nat → Int32 → Int32 → Int32 → zW → Option (Int32 × zW)) (hK21 : ∀ (v0 : Nat) (v1 : Int32) (v2 : Int32) (v3 : Int32) (w : zW) (r : (Int32 × zW)), K21 v0 v1 v2 v3 w = some r → zV G m_Model_meets 21 [(0, .ref (z0 G + v0)), (1, .int v1), (2, .int v2), (3, .int v3)] [] w 0 0 (oI r.1) r.2) (v0 : Nat) (v1 : Int32) (v3 : Int32) (s0 : Int32) (w : zW) (r : (Int32 × zW)) (h : b_Model_meets_77 F K21 v0 v1 v3 s0 w = some r) : zV G m_Model_meets 77 [(0, .ref (z0 G + v0)), (1, .int v1), (3, .int v3)] [.int s0] w 0 0 (oI r.1) r.2 := by
  unfold b_Model_meets_77 at h
  refine V_istore_n (i := 2) d_Model_meets_77 rfl (by decide) rfl ?_
  refine V_iinc (i := 3) (v := (v3 + (1 : Int32))) d_Model_meets_78 3 rfl (congrArg (fun y => v3 + y) (by decide : Int32.ofInt (1) = (1 : Int32))) (by decide) rfl ?_
  refine V_goto (tgt := 21) d_Model_meets_81 (by decide) ?_
  refine V_lv [2, 3, 1, 0] rfl ?_
  exact hK21 v0 v1 s0 (v3 + (1 : Int32)) w _ h
def b_Model_meets_76 (F : Nat) (K21 : Nat → Int32 → Int32 → Int32 → zW → Option (Int32 × zW)) (v0 : Nat) (v1 : Int32) (v3 : Int32) (w : zW) : Option (Int32 × zW) := b_Model_meets_77 F K21 v0 v1 v3 (0 : Int32) w
set_option maxRecDepth 100000 in
set_option maxHeartbeats 4000000 in
theorem b_Model_meets_76_ok (G : zG) (F : Nat) (K21 : Nat → Int32 → Int32 → Int32 → zW → Option (Int32 × zW)) (hK21 : ∀ (v0 : Nat) (v1 : Int32) (v2 : Int32) (v3 : Int32) (w : zW) (r : (Int32 × zW)), K21 v0 v1 v2 v3 w = some r → zV G m_Model_meets 21 [(0, .ref (z0 G + v0)), (1, .int v1), (2, .int v2), (3, .int v3)] [] w 0 0 (oI r.1) r.2) (v0 : Nat) (v1 : Int32) (v3 : Int32) (w : zW) (r : (Int32 × zW)) (h : b_Model_meets_76 F K21 v0 v1 v3 w = some r) : zV G m_Model_meets 76 [(0, .ref (z0 G + v0)), (1, .int v1), (3, .int v3)] [] w 0 0 (oI r.1) r.2 := by
  unfold b_Model_meets_76 at h
  refine V_iconst (v := 0) d_Model_meets_76 (by decide) ?_
  exact b_Model_meets_77_ok G F K21 hK21 v0 v1 v3 (0 : Int32) w _ h
def b_Model_meets_72 (F : Nat) (K21 : Nat → Int32 → Int32 → Int32 → zW → Option (Int32 × zW)) (v0 : Nat) (v1 : Int32) (v3 : Int32) (w : zW) : Option (Int32 × zW) := b_Model_meets_77 F K21 v0 v1 v3 (1 : Int32) w
set_option maxRecDepth 100000 in
set_option maxHeartbeats 4000000 in
theorem b_Model_meets_72_ok (G : zG) (F : Nat) (K21 : Nat → Int32 → Int32 → Int32 → zW → Option (Int32 × zW)) (hK21 : ∀ (v0 : Nat) (v1 : Int32) (v2 : Int32) (v3 : Int32) (w : zW) (r : (Int32 × zW)), K21 v0 v1 v2 v3 w = some r → zV G m_Model_meets 21 [(0, .ref (z0 G + v0)), (1, .int v1), (2, .int v2), (3, .int v3)] [] w 0 0 (oI r.1) r.2) (v0 : Nat) (v1 : Int32) (v3 : Int32) (w : zW) (r : (Int32 × zW)) (h : b_Model_meets_72 F K21 v0 v1 v3 w = some r) : zV G m_Model_meets 72 [(0, .ref (z0 G + v0)), (1, .int v1), (3, .int v3)] [] w 0 0 (oI r.1) r.2 := by
  unfold b_Model_meets_72 at h
  refine V_iconst (v := 1) d_Model_meets_72 (by decide) ?_
  refine V_goto (tgt := 77) d_Model_meets_73 (by decide) ?_
  exact b_Model_meets_77_ok G F K21 hK21 v0 v1 v3 (1 : Int32) w _ h
def b_Model_meets_21 (F : Nat) (K21 : Nat → Int32 → Int32 → Int32 → zW → Option (Int32 × zW)) (v0 : Nat) (v1 : Int32) (v2 : Int32) (v3 : Int32) (w : zW) : Option (Int32 × zW) := if v1 ≤ v3 then (if v2 = 0 ∨ v2 = 1 then some (v2, w) else none) else ((zobj w v0 9).bind fun _ => (f_Model_locate F v0 v3 w).bind fun r28 => if v2 = 0 then (if r28.1 = 0 then (b_Model_meets_76 F K21 v0 v1 v3 r28.2) else ((getR r28.2 v0 9 26).bind fun x43 => (aget r28.2 x43 v3).bind fun x47 => (getR r28.2 v0 9 30).bind fun x49 => (aget r28.2 x49 v1).bind fun x53 => if x53 ≤ x47 then (b_Model_meets_76 F K21 v0 v1 v3 r28.2) else ((getR r28.2 v0 9 26).bind fun x58 => (aget r28.2 x58 v1).bind fun x62 => (getR r28.2 v0 9 30).bind fun x64 => (aget r28.2 x64 v3).bind fun x68 => if x68 ≤ x62 then (b_Model_meets_76 F K21 v0 v1 v3 r28.2) else (b_Model_meets_72 F K21 v0 v1 v3 r28.2)))) else (b_Model_meets_72 F K21 v0 v1 v3 r28.2))
set_option maxRecDepth 100000 in
set_option maxHeartbeats 4000000 in
theorem b_Model_meets_21_ok (G : zG) (F : Nat) (K21 : Nat → Int32 → Int32 → Int32 → zW → Option (Int32 × zW)) (hK21 : ∀ (v0 : Nat) (v1 : Int32) (v2 : Int32) (v3 : Int32) (w : zW) (r : (Int32 × zW)), K21 v0 v1 v2 v3 w = some r → zV G m_Model_meets 21 [(0, .ref (z0 G + v0)), (1, .int v1), (2, .int v2), (3, .int v3)] [] w 0 0 (oI r.1) r.2) (v0 : Nat) (v1 : Int32) (v2 : Int32) (v3 : Int32) (w : zW) (r : (Int32 × zW)) (h : b_Model_meets_21 F K21 v0 v1 v2 v3 w = some r) : zV G m_Model_meets 21 [(0, .ref (z0 G + v0)), (1, .int v1), (2, .int v2), (3, .int v3)] [] w 0 0 (oI r.1) r.2 := by
  unfold b_Model_meets_21 at h
  refine V_iload_n (i := 3) d_Model_meets_21 rfl 3 rfl ?_
  refine V_iload_n (i := 1) d_Model_meets_22 rfl 1 rfl ?_
  refine V_icmp_ge (tgt := 84) d_Model_meets_23 (by decide) (fun c23 => ?_) (fun c23 => ?_)
  · rw [if_pos c23] at h
    refine V_iload_n (i := 2) d_Model_meets_84 rfl 2 rfl ?_
    by_cases g85 : ¬ (v2 = 0 ∨ v2 = 1)
    · exact absurd h (by rw [if_neg g85]; exact nofun)
    have g85 := Classical.not_not.mp g85
    rw [if_pos g85] at h
    obtain rfl := Option.some.inj h
    exact V_zret rfl g85 (by decide) (by decide) d_Model_meets_85
  · rw [if_neg c23] at h
    refine V_aload_n (i := 0) d_Model_meets_26 rfl 0 rfl ?_
    refine V_iload_n (i := 3) d_Model_meets_27 rfl 3 rfl ?_
    obtain ⟨_, eo28, h⟩ := ob h
    obtain ⟨r28, e28, h⟩ := ob h
    refine V_call (v := some (.int r28.1)) (st := []) (inv_V (N := m_Model_locate) (As := [.int v3]) (ci := 9) d_Model_meets_28 eo28 rfl k1196 k1198 sel_Model_locate kc_Model_locate y_Model_locate) ⟨Or.inl kc_Model_locate, k10, by decide, by decide⟩ (Nat.le_of_ble_eq_true rfl) (by decide) (by decide) (c_Model_locate G F v0 v3 w r28 e28) ?_
    refine V_istore (i := 4) d_Model_meets_31 (by decide) rfl ?_
    refine V_iload_n (i := 2) d_Model_meets_33 rfl 3 rfl ?_
    refine V_if_ne (tgt := 72) d_Model_meets_34 (by decide) (fun c34 => ?_) (fun c34 => ?_)
    · rw [if_neg c34] at h
      refine V_lv [1, 2, 4] rfl ?_
      exact b_Model_meets_72_ok G F K21 hK21 v0 v1 v3 r28.2 _ h
    · rw [if_pos c34] at h
      refine V_iload (i := 4) d_Model_meets_37 0 rfl ?_
      refine V_if_eq (tgt := 76) d_Model_meets_39 (by decide) (fun c39 => ?_) (fun c39 => ?_)
      · rw [if_pos c39] at h
        refine V_lv [1, 2, 4] rfl ?_
        exact b_Model_meets_76_ok G F K21 hK21 v0 v1 v3 r28.2 _ h
      · rw [if_neg c39] at h
        refine V_aload_n (i := 0) d_Model_meets_42 rfl 1 rfl ?_
        obtain ⟨x43, e43, h⟩ := ob h
        refine V_getR (ci := 9) (k := 26) d_Model_meets_43 e43 rfl (by decide) in_Model k908 ?_
        refine V_iload_n (i := 3) d_Model_meets_46 rfl 4 rfl ?_
        obtain ⟨x47, e47, h⟩ := ob h
        refine V_aget d_Model_meets_47 e47 ?_
        refine V_aload_n (i := 0) d_Model_meets_48 rfl 1 rfl ?_
        obtain ⟨x49, e49, h⟩ := ob h
        refine V_getR (ci := 9) (k := 30) d_Model_meets_49 e49 rfl (by decide) in_Model k912 ?_
        refine V_iload_n (i := 1) d_Model_meets_52 rfl 2 rfl ?_
        obtain ⟨x53, e53, h⟩ := ob h
        refine V_aget d_Model_meets_53 e53 ?_
        refine V_icmp_ge (tgt := 76) d_Model_meets_54 (by decide) (fun c54 => ?_) (fun c54 => ?_)
        · rw [if_pos c54] at h
          refine V_lv [1, 2, 4] rfl ?_
          exact b_Model_meets_76_ok G F K21 hK21 v0 v1 v3 r28.2 _ h
        · rw [if_neg c54] at h
          refine V_aload_n (i := 0) d_Model_meets_57 rfl 1 rfl ?_
          obtain ⟨x58, e58, h⟩ := ob h
          refine V_getR (ci := 9) (k := 26) d_Model_meets_58 e58 rfl (by decide) in_Model k908 ?_
          refine V_iload_n (i := 1) d_Model_meets_61 rfl 2 rfl ?_
          obtain ⟨x62, e62, h⟩ := ob h
          refine V_aget d_Model_meets_62 e62 ?_
          refine V_aload_n (i := 0) d_Model_meets_63 rfl 1 rfl ?_
          obtain ⟨x64, e64, h⟩ := ob h
          refine V_getR (ci := 9) (k := 30) d_Model_meets_64 e64 rfl (by decide) in_Model k912 ?_
          refine V_iload_n (i := 3) d_Model_meets_67 rfl 4 rfl ?_
          obtain ⟨x68, e68, h⟩ := ob h
          refine V_aget d_Model_meets_68 e68 ?_
          refine V_icmp_ge (tgt := 76) d_Model_meets_69 (by decide) (fun c69 => ?_) (fun c69 => ?_)
          · rw [if_pos c69] at h
            refine V_lv [1, 2, 4] rfl ?_
            exact b_Model_meets_76_ok G F K21 hK21 v0 v1 v3 r28.2 _ h
          · rw [if_neg c69] at h
            refine V_lv [1, 2, 4] rfl ?_
            exact b_Model_meets_72_ok G F K21 hK21 v0 v1 v3 r28.2 _ h
def l_Model_meets_21 (F : Nat) : Nat → Nat → Int32 → Int32 → Int32 → zW → Option (Int32 × zW)
  | 0 => fun _ _ _ _ _ => none
  | n + 1 => b_Model_meets_21 F (l_Model_meets_21 F n)
theorem l_Model_meets_21_ok (G : zG) (F : Nat) (n : Nat) :  ∀ (v0 : Nat) (v1 : Int32) (v2 : Int32) (v3 : Int32) (w : zW) (r : (Int32 × zW)), l_Model_meets_21 F n v0 v1 v2 v3 w = some r → zV G m_Model_meets 21 [(0, .ref (z0 G + v0)), (1, .int v1), (2, .int v2), (3, .int v3)] [] w 0 0 (oI r.1) r.2 := by
  induction n with
  | zero => intro v0 v1 v2 v3 w r h; exact nomatch (show (none : Option (Int32 × zW)) = some r from h)
  | succ n ih => intro v0 v1 v2 v3 w r h; exact b_Model_meets_21_ok G F (l_Model_meets_21 F n) ih v0 v1 v2 v3 w r h
def b_Model_meets_18 (F : Nat) (v0 : Nat) (v1 : Int32) (s0 : Int32) (w : zW) : Option (Int32 × zW) := l_Model_meets_21 F F v0 v1 s0 (0 : Int32) w
set_option maxRecDepth 100000 in
set_option maxHeartbeats 4000000 in
theorem b_Model_meets_18_ok (G : zG) (F : Nat) (v0 : Nat) (v1 : Int32) (s0 : Int32) (w : zW) (r : (Int32 × zW)) (h : b_Model_meets_18 F v0 v1 s0 w = some r) : zV G m_Model_meets 18 [(0, .ref (z0 G + v0)), (1, .int v1)] [.int s0] w 0 0 (oI r.1) r.2 := by
  unfold b_Model_meets_18 at h
  refine V_istore_n (i := 2) d_Model_meets_18 rfl (by decide) rfl ?_
  refine V_iconst (v := 0) d_Model_meets_19 (by decide) ?_
  refine V_istore_n (i := 3) d_Model_meets_20 rfl (by decide) rfl ?_
  refine V_lv [2, 3, 1, 0] rfl ?_
  exact l_Model_meets_21_ok G F F v0 v1 s0 (0 : Int32) w _ h
def b_Model_meets_0 (F : Nat) (v0 : Nat) (v1 : Int32) (w : zW) : Option (Int32 × zW) := (getR w v0 9 30).bind fun x1 => (aget w x1 v1).bind fun x5 => (getI w v0 9 18).bind fun x7 => if x5 ≤ x7 then (b_Model_meets_18 F v0 v1 (0 : Int32) w) else (b_Model_meets_18 F v0 v1 (1 : Int32) w)
set_option maxRecDepth 100000 in
set_option maxHeartbeats 4000000 in
theorem b_Model_meets_0_ok (G : zG) (F : Nat) (v0 : Nat) (v1 : Int32) (w : zW) (r : (Int32 × zW)) (h : b_Model_meets_0 F v0 v1 w = some r) : zV G m_Model_meets 0 [(0, .ref (z0 G + v0)), (1, .int v1)] [] w 0 0 (oI r.1) r.2 := by
  unfold b_Model_meets_0 at h
  refine V_aload_n (i := 0) d_Model_meets_0 rfl 0 rfl ?_
  obtain ⟨x1, e1, h⟩ := ob h
  refine V_getR (ci := 9) (k := 30) d_Model_meets_1 e1 rfl (by decide) in_Model k912 ?_
  refine V_iload_n (i := 1) d_Model_meets_4 rfl 1 rfl ?_
  obtain ⟨x5, e5, h⟩ := ob h
  refine V_aget d_Model_meets_5 e5 ?_
  refine V_aload_n (i := 0) d_Model_meets_6 rfl 0 rfl ?_
  obtain ⟨x7, e7, h⟩ := ob h
  refine V_getI (ci := 9) (k := 18) d_Model_meets_7 e7 rfl (by decide) in_Model k900 ?_
  refine V_icmp_le (tgt := 17) d_Model_meets_10 (by decide) (fun c10 => ?_) (fun c10 => ?_)
  · rw [if_pos c10] at h
    refine V_iconst (v := 0) d_Model_meets_17 (by decide) ?_
    exact b_Model_meets_18_ok G F v0 v1 (0 : Int32) w _ h
  · rw [if_neg c10] at h
    refine V_iconst (v := 1) d_Model_meets_13 (by decide) ?_
    refine V_goto (tgt := 18) d_Model_meets_14 (by decide) ?_
    exact b_Model_meets_18_ok G F v0 v1 (1 : Int32) w _ h
def f_Model_meets (F : Nat) (v0 : Nat) (v1 : Int32) (w : zW) : Option (Int32 × zW) := b_Model_meets_0 F v0 v1 w
theorem c_Model_meets (G : zG) (F : Nat) (v0 : Nat) (v1 : Int32) (w : zW) (r : (Int32 × zW)) (h : f_Model_meets F v0 v1 w = some r) : zCT G m_Model_meets [.ref (z0 G + v0), .int v1] w (oI r.1) r.2 := zCT.ofV (by decide +kernel) (Or.inl ⟨kc_Model_meets, rfl⟩) (Nat.le_of_ble_eq_true rfl) (b_Model_meets_0_ok G F v0 v1 w r h)

/-! ZipArrayModel.isDescribed(I)Z -/
def m_Model_isDescribed : zM := (⟨R_Model, "isDescribed", "(I)Z"⟩, prog_11_method_56_code, 3, (some .boolean), [], { frames := 1, cells := 0, slots := 0, locals := 25 })
theorem k1213 : Cond.constantLong R_Model 270 134695760 ∈ zTb := tb_at 1213 (by decide +kernel) rfl
theorem kc_Model_isDescribed : Cond.code (mY m_Model_isDescribed) (mC m_Model_isDescribed) (mL m_Model_isDescribed) (mT m_Model_isDescribed) ∈ zTb := tb_at 1212 (by decide +kernel) rfl
theorem y_Model_isDescribed : (mY m_Model_isDescribed).cls ≠ "java/lang/invoke/MethodHandle" ∧ (mY m_Model_isDescribed).cls ≠ "java/lang/invoke/VarHandle" ∧ (parseMethodDescriptor (mY m_Model_isDescribed).desc).map (fun d => d.parameters.length) = some 1 := by decide +kernel
theorem sel_Model_isDescribed : Cond.selects R_Model (mY m_Model_isDescribed) (mY m_Model_isDescribed) ∈ zTb := sel_at (y := mY m_Model_isDescribed) (n := 33) 76 (by decide +kernel)
theorem d_Model_isDescribed_0 : decode (mC m_Model_isDescribed) 0 = .ok (.aload_n 0, 1) := by decide +kernel
theorem d_Model_isDescribed_1 : decode (mC m_Model_isDescribed) 1 = .ok (.getfield 61, 3) := by decide +kernel
theorem d_Model_isDescribed_4 : decode (mC m_Model_isDescribed) 4 = .ok (.iload_n 1, 1) := by decide +kernel
theorem d_Model_isDescribed_5 : decode (mC m_Model_isDescribed) 5 = .ok (.iaload, 1) := by decide +kernel
theorem d_Model_isDescribed_6 : decode (mC m_Model_isDescribed) 6 = .ok (.aload_n 0, 1) := by decide +kernel
theorem d_Model_isDescribed_7 : decode (mC m_Model_isDescribed) 7 = .ok (.getfield 46, 3) := by decide +kernel
theorem d_Model_isDescribed_10 : decode (mC m_Model_isDescribed) 10 = .ok (.iload_n 1, 1) := by decide +kernel
theorem d_Model_isDescribed_11 : decode (mC m_Model_isDescribed) 11 = .ok (.iaload, 1) := by decide +kernel
theorem d_Model_isDescribed_12 : decode (mC m_Model_isDescribed) 12 = .ok (.iadd, 1) := by decide +kernel
theorem d_Model_isDescribed_13 : decode (mC m_Model_isDescribed) 13 = .ok (.istore_n 2, 1) := by decide +kernel
theorem d_Model_isDescribed_14 : decode (mC m_Model_isDescribed) 14 = .ok (.aload_n 0, 1) := by decide +kernel
theorem d_Model_isDescribed_15 : decode (mC m_Model_isDescribed) 15 = .ok (.getfield 37, 3) := by decide +kernel
theorem d_Model_isDescribed_18 : decode (mC m_Model_isDescribed) 18 = .ok (.iload_n 1, 1) := by decide +kernel
theorem d_Model_isDescribed_19 : decode (mC m_Model_isDescribed) 19 = .ok (.iaload, 1) := by decide +kernel
theorem d_Model_isDescribed_20 : decode (mC m_Model_isDescribed) 20 = .ok (.ifCond .eq 74, 3) := by decide +kernel
theorem d_Model_isDescribed_23 : decode (mC m_Model_isDescribed) 23 = .ok (.aload_n 0, 1) := by decide +kernel
theorem d_Model_isDescribed_24 : decode (mC m_Model_isDescribed) 24 = .ok (.iload_n 2, 1) := by decide +kernel
theorem d_Model_isDescribed_25 : decode (mC m_Model_isDescribed) 25 = .ok (.iconst 4, 1) := by decide +kernel
theorem d_Model_isDescribed_26 : decode (mC m_Model_isDescribed) 26 = .ok (.invokevirtual 188, 3) := by decide +kernel
theorem d_Model_isDescribed_29 : decode (mC m_Model_isDescribed) 29 = .ok (.ldc2_w 270, 3) := by decide +kernel
theorem d_Model_isDescribed_32 : decode (mC m_Model_isDescribed) 32 = .ok (.lcmp, 1) := by decide +kernel
theorem d_Model_isDescribed_33 : decode (mC m_Model_isDescribed) 33 = .ok (.ifCond .ne 65, 3) := by decide +kernel
theorem d_Model_isDescribed_36 : decode (mC m_Model_isDescribed) 36 = .ok (.aload_n 0, 1) := by decide +kernel
theorem d_Model_isDescribed_37 : decode (mC m_Model_isDescribed) 37 = .ok (.iload_n 2, 1) := by decide +kernel
theorem d_Model_isDescribed_38 : decode (mC m_Model_isDescribed) 38 = .ok (.iconst 4, 1) := by decide +kernel
theorem d_Model_isDescribed_39 : decode (mC m_Model_isDescribed) 39 = .ok (.iadd, 1) := by decide +kernel
theorem d_Model_isDescribed_40 : decode (mC m_Model_isDescribed) 40 = .ok (.iconst 4, 1) := by decide +kernel
theorem d_Model_isDescribed_41 : decode (mC m_Model_isDescribed) 41 = .ok (.invokevirtual 188, 3) := by decide +kernel
theorem d_Model_isDescribed_44 : decode (mC m_Model_isDescribed) 44 = .ok (.l2i, 1) := by decide +kernel
theorem d_Model_isDescribed_45 : decode (mC m_Model_isDescribed) 45 = .ok (.aload_n 0, 1) := by decide +kernel
theorem d_Model_isDescribed_46 : decode (mC m_Model_isDescribed) 46 = .ok (.getfield 43, 3) := by decide +kernel
theorem d_Model_isDescribed_49 : decode (mC m_Model_isDescribed) 49 = .ok (.iload_n 1, 1) := by decide +kernel
theorem d_Model_isDescribed_50 : decode (mC m_Model_isDescribed) 50 = .ok (.iaload, 1) := by decide +kernel
theorem d_Model_isDescribed_51 : decode (mC m_Model_isDescribed) 51 = .ok (.if_icmp .ne 47, 3) := by decide +kernel
theorem d_Model_isDescribed_54 : decode (mC m_Model_isDescribed) 54 = .ok (.aload_n 0, 1) := by decide +kernel
theorem d_Model_isDescribed_55 : decode (mC m_Model_isDescribed) 55 = .ok (.iload_n 2, 1) := by decide +kernel
theorem d_Model_isDescribed_56 : decode (mC m_Model_isDescribed) 56 = .ok (.bipush 8, 2) := by decide +kernel
theorem d_Model_isDescribed_58 : decode (mC m_Model_isDescribed) 58 = .ok (.iadd, 1) := by decide +kernel
theorem d_Model_isDescribed_59 : decode (mC m_Model_isDescribed) 59 = .ok (.iconst 4, 1) := by decide +kernel
theorem d_Model_isDescribed_60 : decode (mC m_Model_isDescribed) 60 = .ok (.invokevirtual 188, 3) := by decide +kernel
theorem d_Model_isDescribed_63 : decode (mC m_Model_isDescribed) 63 = .ok (.aload_n 0, 1) := by decide +kernel
theorem d_Model_isDescribed_64 : decode (mC m_Model_isDescribed) 64 = .ok (.getfield 46, 3) := by decide +kernel
theorem d_Model_isDescribed_67 : decode (mC m_Model_isDescribed) 67 = .ok (.iload_n 1, 1) := by decide +kernel
theorem d_Model_isDescribed_68 : decode (mC m_Model_isDescribed) 68 = .ok (.iaload, 1) := by decide +kernel
theorem d_Model_isDescribed_69 : decode (mC m_Model_isDescribed) 69 = .ok (.i2l, 1) := by decide +kernel
theorem d_Model_isDescribed_70 : decode (mC m_Model_isDescribed) 70 = .ok (.lcmp, 1) := by decide +kernel
theorem d_Model_isDescribed_71 : decode (mC m_Model_isDescribed) 71 = .ok (.ifCond .ne 27, 3) := by decide +kernel
theorem d_Model_isDescribed_74 : decode (mC m_Model_isDescribed) 74 = .ok (.aload_n 0, 1) := by decide +kernel
theorem d_Model_isDescribed_75 : decode (mC m_Model_isDescribed) 75 = .ok (.iload_n 2, 1) := by decide +kernel
theorem d_Model_isDescribed_76 : decode (mC m_Model_isDescribed) 76 = .ok (.bipush 12, 2) := by decide +kernel
theorem d_Model_isDescribed_78 : decode (mC m_Model_isDescribed) 78 = .ok (.iadd, 1) := by decide +kernel
theorem d_Model_isDescribed_79 : decode (mC m_Model_isDescribed) 79 = .ok (.iconst 4, 1) := by decide +kernel
theorem d_Model_isDescribed_80 : decode (mC m_Model_isDescribed) 80 = .ok (.invokevirtual 188, 3) := by decide +kernel
theorem d_Model_isDescribed_83 : decode (mC m_Model_isDescribed) 83 = .ok (.aload_n 0, 1) := by decide +kernel
theorem d_Model_isDescribed_84 : decode (mC m_Model_isDescribed) 84 = .ok (.getfield 49, 3) := by decide +kernel
theorem d_Model_isDescribed_87 : decode (mC m_Model_isDescribed) 87 = .ok (.iload_n 1, 1) := by decide +kernel
theorem d_Model_isDescribed_88 : decode (mC m_Model_isDescribed) 88 = .ok (.iaload, 1) := by decide +kernel
theorem d_Model_isDescribed_89 : decode (mC m_Model_isDescribed) 89 = .ok (.i2l, 1) := by decide +kernel
theorem d_Model_isDescribed_90 : decode (mC m_Model_isDescribed) 90 = .ok (.lcmp, 1) := by decide +kernel
theorem d_Model_isDescribed_91 : decode (mC m_Model_isDescribed) 91 = .ok (.ifCond .ne 7, 3) := by decide +kernel
theorem d_Model_isDescribed_94 : decode (mC m_Model_isDescribed) 94 = .ok (.iconst 1, 1) := by decide +kernel
theorem d_Model_isDescribed_95 : decode (mC m_Model_isDescribed) 95 = .ok (.goto 4, 3) := by decide +kernel
theorem d_Model_isDescribed_98 : decode (mC m_Model_isDescribed) 98 = .ok (.iconst 0, 1) := by decide +kernel
theorem d_Model_isDescribed_99 : decode (mC m_Model_isDescribed) 99 = .ok (.ireturn, 1) := by decide +kernel
def b_Model_isDescribed_98 (F : Nat) (w : zW) : Option (Int32 × zW) := some ((0 : Int32), w)
set_option maxRecDepth 100000 in
set_option maxHeartbeats 4000000 in
theorem b_Model_isDescribed_98_ok (G : zG) (F : Nat) (w : zW) (r : (Int32 × zW)) (h : b_Model_isDescribed_98 F w = some r) : zV G m_Model_isDescribed 98 [] [] w 0 0 (oI r.1) r.2 := by
  unfold b_Model_isDescribed_98 at h
  refine V_iconst (v := 0) d_Model_isDescribed_98 (by decide) ?_
  obtain rfl := Option.some.inj h
  exact V_zret rfl (Or.inl rfl) (by decide) (by decide) d_Model_isDescribed_99
def b_Model_isDescribed_94 (F : Nat) (w : zW) : Option (Int32 × zW) := some ((1 : Int32), w)
set_option maxRecDepth 100000 in
set_option maxHeartbeats 4000000 in
theorem b_Model_isDescribed_94_ok (G : zG) (F : Nat) (w : zW) (r : (Int32 × zW)) (h : b_Model_isDescribed_94 F w = some r) : zV G m_Model_isDescribed 94 [] [] w 0 0 (oI r.1) r.2 := by
  unfold b_Model_isDescribed_94 at h
  refine V_iconst (v := 1) d_Model_isDescribed_94 (by decide) ?_
  refine V_goto (tgt := 99) d_Model_isDescribed_95 (by decide) ?_
  obtain rfl := Option.some.inj h
  exact V_zret rfl (Or.inr rfl) (by decide) (by decide) d_Model_isDescribed_99
def b_Model_isDescribed_0 (F : Nat) (v0 : Nat) (v1 : Int32) (w : zW) : Option (Int32 × zW) := (getR w v0 9 29).bind fun x1 => (aget w x1 v1).bind fun x5 => (getR w v0 9 24).bind fun x7 => (aget w x7 v1).bind fun x11 => (getR w v0 9 21).bind fun x15 => (aget w x15 v1).bind fun x19 => if x19 = 0 then (b_Model_isDescribed_94 F w) else ((zobj w v0 9).bind fun _ => (f_Model_number F v0 (x5 + x11) (4 : Int32) w).bind fun r26 => if (lg_cmp r26.1 (134695760 : Int64)) = 0 then ((zobj r26.2 v0 9).bind fun _ => (f_Model_number F v0 ((x5 + x11) + (4 : Int32)) (4 : Int32) r26.2).bind fun r41 => (getR r41.2 v0 9 23).bind fun x46 => (aget r41.2 x46 v1).bind fun x50 => if r41.1.toInt32 = x50 then ((zobj r41.2 v0 9).bind fun _ => (f_Model_number F v0 ((x5 + x11) + (8 : Int32)) (4 : Int32) r41.2).bind fun r60 => (getR r60.2 v0 9 24).bind fun x64 => (aget r60.2 x64 v1).bind fun x68 => if (lg_cmp r60.1 x68.toInt64) = 0 then ((zobj r60.2 v0 9).bind fun _ => (f_Model_number F v0 ((x5 + x11) + (12 : Int32)) (4 : Int32) r60.2).bind fun r80 => (getR r80.2 v0 9 25).bind fun x84 => (aget r80.2 x84 v1).bind fun x88 => if (lg_cmp r80.1 x88.toInt64) = 0 then (b_Model_isDescribed_94 F r80.2) else (b_Model_isDescribed_98 F r80.2)) else (b_Model_isDescribed_98 F r60.2)) else (b_Model_isDescribed_98 F r41.2)) else (b_Model_isDescribed_98 F r26.2))
set_option maxRecDepth 100000 in
set_option maxHeartbeats 4000000 in
theorem b_Model_isDescribed_0_ok (G : zG) (F : Nat) (v0 : Nat) (v1 : Int32) (w : zW) (r : (Int32 × zW)) (h : b_Model_isDescribed_0 F v0 v1 w = some r) : zV G m_Model_isDescribed 0 [(0, .ref (z0 G + v0)), (1, .int v1)] [] w 0 0 (oI r.1) r.2 := by
  unfold b_Model_isDescribed_0 at h
  refine V_aload_n (i := 0) d_Model_isDescribed_0 rfl 0 rfl ?_
  obtain ⟨x1, e1, h⟩ := ob h
  refine V_getR (ci := 9) (k := 29) d_Model_isDescribed_1 e1 rfl (by decide) in_Model k911 ?_
  refine V_iload_n (i := 1) d_Model_isDescribed_4 rfl 1 rfl ?_
  obtain ⟨x5, e5, h⟩ := ob h
  refine V_aget d_Model_isDescribed_5 e5 ?_
  refine V_aload_n (i := 0) d_Model_isDescribed_6 rfl 0 rfl ?_
  obtain ⟨x7, e7, h⟩ := ob h
  refine V_getR (ci := 9) (k := 24) d_Model_isDescribed_7 e7 rfl (by decide) in_Model k906 ?_
  refine V_iload_n (i := 1) d_Model_isDescribed_10 rfl 1 rfl ?_
  obtain ⟨x11, e11, h⟩ := ob h
  refine V_aget d_Model_isDescribed_11 e11 ?_
  refine V_iadd d_Model_isDescribed_12 ?_
  refine V_istore_n (i := 2) d_Model_isDescribed_13 rfl (by decide) rfl ?_
  refine V_aload_n (i := 0) d_Model_isDescribed_14 rfl 1 rfl ?_
  obtain ⟨x15, e15, h⟩ := ob h
  refine V_getR (ci := 9) (k := 21) d_Model_isDescribed_15 e15 rfl (by decide) in_Model k903 ?_
  refine V_iload_n (i := 1) d_Model_isDescribed_18 rfl 2 rfl ?_
  obtain ⟨x19, e19, h⟩ := ob h
  refine V_aget d_Model_isDescribed_19 e19 ?_
  refine V_if_eq (tgt := 94) d_Model_isDescribed_20 (by decide) (fun c20 => ?_) (fun c20 => ?_)
  · rw [if_pos c20] at h
    refine V_lv [] rfl ?_
    exact b_Model_isDescribed_94_ok G F w _ h
  · rw [if_neg c20] at h
    refine V_aload_n (i := 0) d_Model_isDescribed_23 rfl 1 rfl ?_
    refine V_iload_n (i := 2) d_Model_isDescribed_24 rfl 0 rfl ?_
    refine V_iconst (v := 4) d_Model_isDescribed_25 (by decide) ?_
    obtain ⟨_, eo26, h⟩ := ob h
    obtain ⟨r26, e26, h⟩ := ob h
    refine V_call (v := some (.long r26.1)) (st := []) (inv_V (N := m_Model_number) (As := [.int (x5 + x11), .int (4 : Int32)]) (ci := 9) d_Model_isDescribed_26 eo26 rfl k1138 k1140 sel_Model_number kc_Model_number y_Model_number) ⟨Or.inl kc_Model_number, k10, by decide, by decide⟩ (Nat.le_of_ble_eq_true rfl) (by decide) (by decide) (c_Model_number G F v0 (x5 + x11) (4 : Int32) w r26 e26) ?_
    refine V_ldc2 (v := 134695760) d_Model_isDescribed_29 k1213 ?_
    refine V_lcmp d_Model_isDescribed_32 ?_
    refine V_if_ne (tgt := 98) d_Model_isDescribed_33 (by decide) (fun c33 => ?_) (fun c33 => ?_)
    · rw [if_neg c33] at h
      refine V_lv [] rfl ?_
      exact b_Model_isDescribed_98_ok G F r26.2 _ h
    · rw [if_pos c33] at h
      refine V_aload_n (i := 0) d_Model_isDescribed_36 rfl 1 rfl ?_
      refine V_iload_n (i := 2) d_Model_isDescribed_37 rfl 0 rfl ?_
      refine V_iconst (v := 4) d_Model_isDescribed_38 (by decide) ?_
      refine V_iadd d_Model_isDescribed_39 ?_
      refine V_iconst (v := 4) d_Model_isDescribed_40 (by decide) ?_
      obtain ⟨_, eo41, h⟩ := ob h
      obtain ⟨r41, e41, h⟩ := ob h
      refine V_call (v := some (.long r41.1)) (st := []) (inv_V (N := m_Model_number) (As := [.int ((x5 + x11) + (4 : Int32)), .int (4 : Int32)]) (ci := 9) d_Model_isDescribed_41 eo41 rfl k1138 k1140 sel_Model_number kc_Model_number y_Model_number) ⟨Or.inl kc_Model_number, k10, by decide, by decide⟩ (Nat.le_of_ble_eq_true rfl) (by decide) (by decide) (c_Model_number G F v0 ((x5 + x11) + (4 : Int32)) (4 : Int32) r26.2 r41 e41) ?_
      refine V_l2i d_Model_isDescribed_44 ?_
      refine V_aload_n (i := 0) d_Model_isDescribed_45 rfl 1 rfl ?_
      obtain ⟨x46, e46, h⟩ := ob h
      refine V_getR (ci := 9) (k := 23) d_Model_isDescribed_46 e46 rfl (by decide) in_Model k905 ?_
      refine V_iload_n (i := 1) d_Model_isDescribed_49 rfl 2 rfl ?_
      obtain ⟨x50, e50, h⟩ := ob h
      refine V_aget d_Model_isDescribed_50 e50 ?_
      refine V_icmp_ne (tgt := 98) d_Model_isDescribed_51 (by decide) (fun c51 => ?_) (fun c51 => ?_)
      · rw [if_neg c51] at h
        refine V_lv [] rfl ?_
        exact b_Model_isDescribed_98_ok G F r41.2 _ h
      · rw [if_pos c51] at h
        refine V_aload_n (i := 0) d_Model_isDescribed_54 rfl 1 rfl ?_
        refine V_iload_n (i := 2) d_Model_isDescribed_55 rfl 0 rfl ?_
        refine V_bipush (v := 8) d_Model_isDescribed_56 (by decide) ?_
        refine V_iadd d_Model_isDescribed_58 ?_
        refine V_iconst (v := 4) d_Model_isDescribed_59 (by decide) ?_
        obtain ⟨_, eo60, h⟩ := ob h
        obtain ⟨r60, e60, h⟩ := ob h
        refine V_call (v := some (.long r60.1)) (st := []) (inv_V (N := m_Model_number) (As := [.int ((x5 + x11) + (8 : Int32)), .int (4 : Int32)]) (ci := 9) d_Model_isDescribed_60 eo60 rfl k1138 k1140 sel_Model_number kc_Model_number y_Model_number) ⟨Or.inl kc_Model_number, k10, by decide, by decide⟩ (Nat.le_of_ble_eq_true rfl) (by decide) (by decide) (c_Model_number G F v0 ((x5 + x11) + (8 : Int32)) (4 : Int32) r41.2 r60 e60) ?_
        refine V_aload_n (i := 0) d_Model_isDescribed_63 rfl 1 rfl ?_
        obtain ⟨x64, e64, h⟩ := ob h
        refine V_getR (ci := 9) (k := 24) d_Model_isDescribed_64 e64 rfl (by decide) in_Model k906 ?_
        refine V_iload_n (i := 1) d_Model_isDescribed_67 rfl 2 rfl ?_
        obtain ⟨x68, e68, h⟩ := ob h
        refine V_aget d_Model_isDescribed_68 e68 ?_
        refine V_i2l d_Model_isDescribed_69 ?_
        refine V_lcmp d_Model_isDescribed_70 ?_
        refine V_if_ne (tgt := 98) d_Model_isDescribed_71 (by decide) (fun c71 => ?_) (fun c71 => ?_)
        · rw [if_neg c71] at h
          refine V_lv [] rfl ?_
          exact b_Model_isDescribed_98_ok G F r60.2 _ h
        · rw [if_pos c71] at h
          refine V_aload_n (i := 0) d_Model_isDescribed_74 rfl 1 rfl ?_
          refine V_iload_n (i := 2) d_Model_isDescribed_75 rfl 0 rfl ?_
          refine V_bipush (v := 12) d_Model_isDescribed_76 (by decide) ?_
          refine V_iadd d_Model_isDescribed_78 ?_
          refine V_iconst (v := 4) d_Model_isDescribed_79 (by decide) ?_
          obtain ⟨_, eo80, h⟩ := ob h
          obtain ⟨r80, e80, h⟩ := ob h
          refine V_call (v := some (.long r80.1)) (st := []) (inv_V (N := m_Model_number) (As := [.int ((x5 + x11) + (12 : Int32)), .int (4 : Int32)]) (ci := 9) d_Model_isDescribed_80 eo80 rfl k1138 k1140 sel_Model_number kc_Model_number y_Model_number) ⟨Or.inl kc_Model_number, k10, by decide, by decide⟩ (Nat.le_of_ble_eq_true rfl) (by decide) (by decide) (c_Model_number G F v0 ((x5 + x11) + (12 : Int32)) (4 : Int32) r60.2 r80 e80) ?_
          refine V_aload_n (i := 0) d_Model_isDescribed_83 rfl 1 rfl ?_
          obtain ⟨x84, e84, h⟩ := ob h
          refine V_getR (ci := 9) (k := 25) d_Model_isDescribed_84 e84 rfl (by decide) in_Model k907 ?_
          refine V_iload_n (i := 1) d_Model_isDescribed_87 rfl 2 rfl ?_
          obtain ⟨x88, e88, h⟩ := ob h
          refine V_aget d_Model_isDescribed_88 e88 ?_
          refine V_i2l d_Model_isDescribed_89 ?_
          refine V_lcmp d_Model_isDescribed_90 ?_
          refine V_if_ne (tgt := 98) d_Model_isDescribed_91 (by decide) (fun c91 => ?_) (fun c91 => ?_)
          · rw [if_neg c91] at h
            refine V_lv [] rfl ?_
            exact b_Model_isDescribed_98_ok G F r80.2 _ h
          · rw [if_pos c91] at h
            refine V_lv [] rfl ?_
            exact b_Model_isDescribed_94_ok G F r80.2 _ h
def f_Model_isDescribed (F : Nat) (v0 : Nat) (v1 : Int32) (w : zW) : Option (Int32 × zW) := b_Model_isDescribed_0 F v0 v1 w
theorem c_Model_isDescribed (G : zG) (F : Nat) (v0 : Nat) (v1 : Int32) (w : zW) (r : (Int32 × zW)) (h : f_Model_isDescribed F v0 v1 w = some r) : zCT G m_Model_isDescribed [.ref (z0 G + v0), .int v1] w (oI r.1) r.2 := zCT.ofV (by decide +kernel) (Or.inl ⟨kc_Model_isDescribed, rfl⟩) (Nat.le_of_ble_eq_true rfl) (b_Model_isDescribed_0_ok G F v0 v1 w r h)

/-! ZipArrayModel.fault(I)I -/
def m_Model_fault : zM := (⟨R_Model, "fault", "(I)I"⟩, prog_11_method_57_code, 3, (some .int), [], { frames := 5, cells := 0, slots := 0, locals := 124 })
theorem k1205 : Cond.methodLink R_Model 272 (mY m_Model_meets) ∈ zTb := tb_at 1205 (by decide +kernel) rfl
theorem k1207 : Cond.instanceMethod (mY m_Model_meets) ∈ zTb := tb_at 1207 (by decide +kernel) rfl
theorem k1209 : Cond.methodLink R_Model 275 (mY m_Model_isDescribed) ∈ zTb := tb_at 1209 (by decide +kernel) rfl
theorem k1211 : Cond.instanceMethod (mY m_Model_isDescribed) ∈ zTb := tb_at 1211 (by decide +kernel) rfl
theorem k1214 : Cond.methodLink R_Model 278 (mY m_Model_crcOfContent) ∈ zTb := tb_at 1214 (by decide +kernel) rfl
theorem k1216 : Cond.instanceMethod (mY m_Model_crcOfContent) ∈ zTb := tb_at 1216 (by decide +kernel) rfl
theorem kc_Model_fault : Cond.code (mY m_Model_fault) (mC m_Model_fault) (mL m_Model_fault) (mT m_Model_fault) ∈ zTb := tb_at 1195 (by decide +kernel) rfl
theorem y_Model_fault : (mY m_Model_fault).cls ≠ "java/lang/invoke/MethodHandle" ∧ (mY m_Model_fault).cls ≠ "java/lang/invoke/VarHandle" ∧ (parseMethodDescriptor (mY m_Model_fault).desc).map (fun d => d.parameters.length) = some 1 := by decide +kernel
theorem sel_Model_fault : Cond.selects R_Model (mY m_Model_fault) (mY m_Model_fault) ∈ zTb := sel_at (y := mY m_Model_fault) (n := 33) 72 (by decide +kernel)
theorem d_Model_fault_0 : decode (mC m_Model_fault) 0 = .ok (.aload_n 0, 1) := by decide +kernel
theorem d_Model_fault_1 : decode (mC m_Model_fault) 1 = .ok (.iload_n 1, 1) := by decide +kernel
theorem d_Model_fault_2 : decode (mC m_Model_fault) 2 = .ok (.invokevirtual 267, 3) := by decide +kernel
theorem d_Model_fault_5 : decode (mC m_Model_fault) 5 = .ok (.ifCond .ne 5, 3) := by decide +kernel
theorem d_Model_fault_8 : decode (mC m_Model_fault) 8 = .ok (.iconst 3, 1) := by decide +kernel
theorem d_Model_fault_9 : decode (mC m_Model_fault) 9 = .ok (.ireturn, 1) := by decide +kernel
theorem d_Model_fault_10 : decode (mC m_Model_fault) 10 = .ok (.aload_n 0, 1) := by decide +kernel
theorem d_Model_fault_11 : decode (mC m_Model_fault) 11 = .ok (.iload_n 1, 1) := by decide +kernel
theorem d_Model_fault_12 : decode (mC m_Model_fault) 12 = .ok (.invokevirtual 272, 3) := by decide +kernel
theorem d_Model_fault_15 : decode (mC m_Model_fault) 15 = .ok (.ifCond .eq 5, 3) := by decide +kernel
theorem d_Model_fault_18 : decode (mC m_Model_fault) 18 = .ok (.iconst 4, 1) := by decide +kernel
theorem d_Model_fault_19 : decode (mC m_Model_fault) 19 = .ok (.ireturn, 1) := by decide +kernel
theorem d_Model_fault_20 : decode (mC m_Model_fault) 20 = .ok (.aload_n 0, 1) := by decide +kernel
theorem d_Model_fault_21 : decode (mC m_Model_fault) 21 = .ok (.iload_n 1, 1) := by decide +kernel
theorem d_Model_fault_22 : decode (mC m_Model_fault) 22 = .ok (.invokevirtual 275, 3) := by decide +kernel
theorem d_Model_fault_25 : decode (mC m_Model_fault) 25 = .ok (.ifCond .ne 5, 3) := by decide +kernel
theorem d_Model_fault_28 : decode (mC m_Model_fault) 28 = .ok (.iconst 5, 1) := by decide +kernel
theorem d_Model_fault_29 : decode (mC m_Model_fault) 29 = .ok (.ireturn, 1) := by decide +kernel
theorem d_Model_fault_30 : decode (mC m_Model_fault) 30 = .ok (.aload_n 0, 1) := by decide +kernel
theorem d_Model_fault_31 : decode (mC m_Model_fault) 31 = .ok (.aload_n 0, 1) := by decide +kernel
theorem d_Model_fault_32 : decode (mC m_Model_fault) 32 = .ok (.getfield 46, 3) := by decide +kernel
theorem d_Model_fault_35 : decode (mC m_Model_fault) 35 = .ok (.iload_n 1, 1) := by decide +kernel
theorem d_Model_fault_36 : decode (mC m_Model_fault) 36 = .ok (.iaload, 1) := by decide +kernel
theorem d_Model_fault_37 : decode (mC m_Model_fault) 37 = .ok (.putfield 153, 3) := by decide +kernel
theorem d_Model_fault_40 : decode (mC m_Model_fault) 40 = .ok (.iconst 0, 1) := by decide +kernel
theorem d_Model_fault_41 : decode (mC m_Model_fault) 41 = .ok (.istore_n 2, 1) := by decide +kernel
theorem d_Model_fault_42 : decode (mC m_Model_fault) 42 = .ok (.iload_n 2, 1) := by decide +kernel
theorem d_Model_fault_43 : decode (mC m_Model_fault) 43 = .ok (.aload_n 0, 1) := by decide +kernel
theorem d_Model_fault_44 : decode (mC m_Model_fault) 44 = .ok (.getfield 153, 3) := by decide +kernel
theorem d_Model_fault_47 : decode (mC m_Model_fault) 47 = .ok (.if_icmp .ge 28, 3) := by decide +kernel
theorem d_Model_fault_50 : decode (mC m_Model_fault) 50 = .ok (.aload_n 0, 1) := by decide +kernel
theorem d_Model_fault_51 : decode (mC m_Model_fault) 51 = .ok (.getfield 19, 3) := by decide +kernel
theorem d_Model_fault_54 : decode (mC m_Model_fault) 54 = .ok (.iload_n 2, 1) := by decide +kernel
theorem d_Model_fault_55 : decode (mC m_Model_fault) 55 = .ok (.aload_n 0, 1) := by decide +kernel
theorem d_Model_fault_56 : decode (mC m_Model_fault) 56 = .ok (.getfield 13, 3) := by decide +kernel
theorem d_Model_fault_59 : decode (mC m_Model_fault) 59 = .ok (.aload_n 0, 1) := by decide +kernel
theorem d_Model_fault_60 : decode (mC m_Model_fault) 60 = .ok (.getfield 61, 3) := by decide +kernel
theorem d_Model_fault_63 : decode (mC m_Model_fault) 63 = .ok (.iload_n 1, 1) := by decide +kernel
theorem d_Model_fault_64 : decode (mC m_Model_fault) 64 = .ok (.iaload, 1) := by decide +kernel
theorem d_Model_fault_65 : decode (mC m_Model_fault) 65 = .ok (.iload_n 2, 1) := by decide +kernel
theorem d_Model_fault_66 : decode (mC m_Model_fault) 66 = .ok (.iadd, 1) := by decide +kernel
theorem d_Model_fault_67 : decode (mC m_Model_fault) 67 = .ok (.iaload, 1) := by decide +kernel
theorem d_Model_fault_68 : decode (mC m_Model_fault) 68 = .ok (.iastore, 1) := by decide +kernel
theorem d_Model_fault_69 : decode (mC m_Model_fault) 69 = .ok (.iinc 2 1, 3) := by decide +kernel
theorem d_Model_fault_72 : decode (mC m_Model_fault) 72 = .ok (.goto (-30), 3) := by decide +kernel
theorem d_Model_fault_75 : decode (mC m_Model_fault) 75 = .ok (.aload_n 0, 1) := by decide +kernel
theorem d_Model_fault_76 : decode (mC m_Model_fault) 76 = .ok (.getfield 40, 3) := by decide +kernel
theorem d_Model_fault_79 : decode (mC m_Model_fault) 79 = .ok (.iload_n 1, 1) := by decide +kernel
theorem d_Model_fault_80 : decode (mC m_Model_fault) 80 = .ok (.iaload, 1) := by decide +kernel
theorem d_Model_fault_81 : decode (mC m_Model_fault) 81 = .ok (.bipush 8, 2) := by decide +kernel
theorem d_Model_fault_83 : decode (mC m_Model_fault) 83 = .ok (.if_icmp .ne 13, 3) := by decide +kernel
theorem d_Model_fault_86 : decode (mC m_Model_fault) 86 = .ok (.aload_n 0, 1) := by decide +kernel
theorem d_Model_fault_87 : decode (mC m_Model_fault) 87 = .ok (.invokevirtual 184, 3) := by decide +kernel
theorem d_Model_fault_90 : decode (mC m_Model_fault) 90 = .ok (.ifCond .ne 60, 3) := by decide +kernel
theorem d_Model_fault_93 : decode (mC m_Model_fault) 93 = .ok (.bipush 6, 2) := by decide +kernel
theorem d_Model_fault_95 : decode (mC m_Model_fault) 95 = .ok (.ireturn, 1) := by decide +kernel
theorem d_Model_fault_96 : decode (mC m_Model_fault) 96 = .ok (.aload_n 0, 1) := by decide +kernel
theorem d_Model_fault_97 : decode (mC m_Model_fault) 97 = .ok (.getfield 46, 3) := by decide +kernel
theorem d_Model_fault_100 : decode (mC m_Model_fault) 100 = .ok (.iload_n 1, 1) := by decide +kernel
theorem d_Model_fault_101 : decode (mC m_Model_fault) 101 = .ok (.iaload, 1) := by decide +kernel
theorem d_Model_fault_102 : decode (mC m_Model_fault) 102 = .ok (.aload_n 0, 1) := by decide +kernel
theorem d_Model_fault_103 : decode (mC m_Model_fault) 103 = .ok (.getfield 49, 3) := by decide +kernel
theorem d_Model_fault_106 : decode (mC m_Model_fault) 106 = .ok (.iload_n 1, 1) := by decide +kernel
theorem d_Model_fault_107 : decode (mC m_Model_fault) 107 = .ok (.iaload, 1) := by decide +kernel
theorem d_Model_fault_108 : decode (mC m_Model_fault) 108 = .ok (.if_icmp .eq 6, 3) := by decide +kernel
theorem d_Model_fault_111 : decode (mC m_Model_fault) 111 = .ok (.bipush 6, 2) := by decide +kernel
theorem d_Model_fault_113 : decode (mC m_Model_fault) 113 = .ok (.ireturn, 1) := by decide +kernel
theorem d_Model_fault_114 : decode (mC m_Model_fault) 114 = .ok (.aload_n 0, 1) := by decide +kernel
theorem d_Model_fault_115 : decode (mC m_Model_fault) 115 = .ok (.aload_n 0, 1) := by decide +kernel
theorem d_Model_fault_116 : decode (mC m_Model_fault) 116 = .ok (.getfield 153, 3) := by decide +kernel
theorem d_Model_fault_119 : decode (mC m_Model_fault) 119 = .ok (.putfield 75, 3) := by decide +kernel
theorem d_Model_fault_122 : decode (mC m_Model_fault) 122 = .ok (.iconst 0, 1) := by decide +kernel
theorem d_Model_fault_123 : decode (mC m_Model_fault) 123 = .ok (.istore_n 2, 1) := by decide +kernel
theorem d_Model_fault_124 : decode (mC m_Model_fault) 124 = .ok (.iload_n 2, 1) := by decide +kernel
theorem d_Model_fault_125 : decode (mC m_Model_fault) 125 = .ok (.aload_n 0, 1) := by decide +kernel
theorem d_Model_fault_126 : decode (mC m_Model_fault) 126 = .ok (.getfield 153, 3) := by decide +kernel
theorem d_Model_fault_129 : decode (mC m_Model_fault) 129 = .ok (.if_icmp .ge 21, 3) := by decide +kernel
theorem d_Model_fault_132 : decode (mC m_Model_fault) 132 = .ok (.aload_n 0, 1) := by decide +kernel
theorem d_Model_fault_133 : decode (mC m_Model_fault) 133 = .ok (.getfield 16, 3) := by decide +kernel
theorem d_Model_fault_136 : decode (mC m_Model_fault) 136 = .ok (.iload_n 2, 1) := by decide +kernel
theorem d_Model_fault_137 : decode (mC m_Model_fault) 137 = .ok (.aload_n 0, 1) := by decide +kernel
theorem d_Model_fault_138 : decode (mC m_Model_fault) 138 = .ok (.getfield 19, 3) := by decide +kernel
theorem d_Model_fault_141 : decode (mC m_Model_fault) 141 = .ok (.iload_n 2, 1) := by decide +kernel
theorem d_Model_fault_142 : decode (mC m_Model_fault) 142 = .ok (.iaload, 1) := by decide +kernel
theorem d_Model_fault_143 : decode (mC m_Model_fault) 143 = .ok (.iastore, 1) := by decide +kernel
theorem d_Model_fault_144 : decode (mC m_Model_fault) 144 = .ok (.iinc 2 1, 3) := by decide +kernel
theorem d_Model_fault_147 : decode (mC m_Model_fault) 147 = .ok (.goto (-23), 3) := by decide +kernel
theorem d_Model_fault_150 : decode (mC m_Model_fault) 150 = .ok (.aload_n 0, 1) := by decide +kernel
theorem d_Model_fault_151 : decode (mC m_Model_fault) 151 = .ok (.getfield 75, 3) := by decide +kernel
theorem d_Model_fault_154 : decode (mC m_Model_fault) 154 = .ok (.aload_n 0, 1) := by decide +kernel
theorem d_Model_fault_155 : decode (mC m_Model_fault) 155 = .ok (.getfield 49, 3) := by decide +kernel
theorem d_Model_fault_158 : decode (mC m_Model_fault) 158 = .ok (.iload_n 1, 1) := by decide +kernel
theorem d_Model_fault_159 : decode (mC m_Model_fault) 159 = .ok (.iaload, 1) := by decide +kernel
theorem d_Model_fault_160 : decode (mC m_Model_fault) 160 = .ok (.if_icmp .eq 8, 3) := by decide +kernel
theorem d_Model_fault_163 : decode (mC m_Model_fault) 163 = .ok (.bipush 7, 2) := by decide +kernel
theorem d_Model_fault_165 : decode (mC m_Model_fault) 165 = .ok (.goto 22, 3) := by decide +kernel
theorem d_Model_fault_168 : decode (mC m_Model_fault) 168 = .ok (.aload_n 0, 1) := by decide +kernel
theorem d_Model_fault_169 : decode (mC m_Model_fault) 169 = .ok (.invokevirtual 278, 3) := by decide +kernel
theorem d_Model_fault_172 : decode (mC m_Model_fault) 172 = .ok (.aload_n 0, 1) := by decide +kernel
theorem d_Model_fault_173 : decode (mC m_Model_fault) 173 = .ok (.getfield 43, 3) := by decide +kernel
theorem d_Model_fault_176 : decode (mC m_Model_fault) 176 = .ok (.iload_n 1, 1) := by decide +kernel
theorem d_Model_fault_177 : decode (mC m_Model_fault) 177 = .ok (.iaload, 1) := by decide +kernel
theorem d_Model_fault_178 : decode (mC m_Model_fault) 178 = .ok (.if_icmp .eq 8, 3) := by decide +kernel
theorem d_Model_fault_181 : decode (mC m_Model_fault) 181 = .ok (.bipush 8, 2) := by decide +kernel
theorem d_Model_fault_183 : decode (mC m_Model_fault) 183 = .ok (.goto 4, 3) := by decide +kernel
theorem d_Model_fault_186 : decode (mC m_Model_fault) 186 = .ok (.iconst 0, 1) := by decide +kernel
theorem d_Model_fault_187 : decode (mC m_Model_fault) 187 = .ok (.ireturn, 1) := by decide +kernel
def b_Model_fault_150 (F : Nat) (v0 : Nat) (v1 : Int32) (w : zW) : Option (Int32 × zW) := (getI w v0 9 6).bind fun x151 => (getR w v0 9 25).bind fun x155 => (aget w x155 v1).bind fun x159 => if x151 = x159 then ((zobj w v0 9).bind fun _ => (f_Model_crcOfContent F v0 w).bind fun r169 => (getR r169.2 v0 9 23).bind fun x173 => (aget r169.2 x173 v1).bind fun x177 => if r169.1 = x177 then (some ((0 : Int32), r169.2)) else (some ((8 : Int32), r169.2))) else (some ((7 : Int32), w))
set_option maxRecDepth 100000 in
set_option maxHeartbeats 4000000 in
theorem b_Model_fault_150_ok (G : zG) (F : Nat) (v0 : Nat) (v1 : Int32) (w : zW) (r : (Int32 × zW)) (h : b_Model_fault_150 F v0 v1 w = some r) : zV G m_Model_fault 150 [(0, .ref (z0 G + v0)), (1, .int v1)] [] w 0 0 (oI r.1) r.2 := by
  unfold b_Model_fault_150 at h
  refine V_aload_n (i := 0) d_Model_fault_150 rfl 0 rfl ?_
  obtain ⟨x151, e151, h⟩ := ob h
  refine V_getI (ci := 9) (k := 6) d_Model_fault_151 e151 rfl (by decide) in_Model k888 ?_
  refine V_aload_n (i := 0) d_Model_fault_154 rfl 0 rfl ?_
  obtain ⟨x155, e155, h⟩ := ob h
  refine V_getR (ci := 9) (k := 25) d_Model_fault_155 e155 rfl (by decide) in_Model k907 ?_
  refine V_iload_n (i := 1) d_Model_fault_158 rfl 1 rfl ?_
  obtain ⟨x159, e159, h⟩ := ob h
  refine V_aget d_Model_fault_159 e159 ?_
  refine V_icmp_eq (tgt := 168) d_Model_fault_160 (by decide) (fun c160 => ?_) (fun c160 => ?_)
  · rw [if_pos c160] at h
    refine V_aload_n (i := 0) d_Model_fault_168 rfl 0 rfl ?_
    obtain ⟨_, eo169, h⟩ := ob h
    obtain ⟨r169, e169, h⟩ := ob h
    refine V_call (v := some (.int r169.1)) (st := []) (inv_V (N := m_Model_crcOfContent) (As := []) (ci := 9) d_Model_fault_169 eo169 rfl k1214 k1216 sel_Model_crcOfContent kc_Model_crcOfContent y_Model_crcOfContent) ⟨Or.inl kc_Model_crcOfContent, k10, by decide, by decide⟩ (Nat.le_of_ble_eq_true rfl) (by decide) (by decide) (c_Model_crcOfContent G F v0 w r169 e169) ?_
    refine V_aload_n (i := 0) d_Model_fault_172 rfl 0 rfl ?_
    obtain ⟨x173, e173, h⟩ := ob h
    refine V_getR (ci := 9) (k := 23) d_Model_fault_173 e173 rfl (by decide) in_Model k905 ?_
    refine V_iload_n (i := 1) d_Model_fault_176 rfl 1 rfl ?_
    obtain ⟨x177, e177, h⟩ := ob h
    refine V_aget d_Model_fault_177 e177 ?_
    refine V_icmp_eq (tgt := 186) d_Model_fault_178 (by decide) (fun c178 => ?_) (fun c178 => ?_)
    · rw [if_pos c178] at h
      refine V_iconst (v := 0) d_Model_fault_186 (by decide) ?_
      obtain rfl := Option.some.inj h
      exact V_iret rfl (by decide) (by decide) d_Model_fault_187
    · rw [if_neg c178] at h
      refine V_bipush (v := 8) d_Model_fault_181 (by decide) ?_
      refine V_goto (tgt := 187) d_Model_fault_183 (by decide) ?_
      obtain rfl := Option.some.inj h
      exact V_iret rfl (by decide) (by decide) d_Model_fault_187
  · rw [if_neg c160] at h
    refine V_bipush (v := 7) d_Model_fault_163 (by decide) ?_
    refine V_goto (tgt := 187) d_Model_fault_165 (by decide) ?_
    obtain rfl := Option.some.inj h
    exact V_iret rfl (by decide) (by decide) d_Model_fault_187
def b_Model_fault_124 (F : Nat) (K124 : Nat → Int32 → Int32 → zW → Option (Int32 × zW)) (v0 : Nat) (v1 : Int32) (v2 : Int32) (w : zW) : Option (Int32 × zW) := (getI w v0 9 8).bind fun x126 => if x126 ≤ v2 then (b_Model_fault_150 F v0 v1 w) else ((getR w v0 9 7).bind fun x133 => (getR w v0 9 9).bind fun x138 => (aget w x138 v2).bind fun x142 => (aset w x133 v2 x142).bind fun w143 => K124 v0 v1 (v2 + (1 : Int32)) w143)
set_option maxRecDepth 100000 in
set_option maxHeartbeats 4000000 in
theorem b_Model_fault_124_ok (G : zG) (F : Nat) (K124 : Nat → Int32 → Int32 → zW → Option (Int32 × zW)) (hK124 : ∀ (v0 : Nat) (v1 : Int32) (v2 : Int32) (w : zW) (r : (Int32 × zW)), K124 v0 v1 v2 w = some r → zV G m_Model_fault 124 [(0, .ref (z0 G + v0)), (1, .int v1), (2, .int v2)] [] w 0 0 (oI r.1) r.2) (v0 : Nat) (v1 : Int32) (v2 : Int32) (w : zW) (r : (Int32 × zW)) (h : b_Model_fault_124 F K124 v0 v1 v2 w = some r) : zV G m_Model_fault 124 [(0, .ref (z0 G + v0)), (1, .int v1), (2, .int v2)] [] w 0 0 (oI r.1) r.2 := by
  unfold b_Model_fault_124 at h
  refine V_iload_n (i := 2) d_Model_fault_124 rfl 2 rfl ?_
  refine V_aload_n (i := 0) d_Model_fault_125 rfl 0 rfl ?_
  obtain ⟨x126, e126, h⟩ := ob h
  refine V_getI (ci := 9) (k := 8) d_Model_fault_126 e126 rfl (by decide) in_Model k890 ?_
  refine V_icmp_ge (tgt := 150) d_Model_fault_129 (by decide) (fun c129 => ?_) (fun c129 => ?_)
  · rw [if_pos c129] at h
    refine V_lv [0, 1] rfl ?_
    exact b_Model_fault_150_ok G F v0 v1 w _ h
  · rw [if_neg c129] at h
    refine V_aload_n (i := 0) d_Model_fault_132 rfl 0 rfl ?_
    obtain ⟨x133, e133, h⟩ := ob h
    refine V_getR (ci := 9) (k := 7) d_Model_fault_133 e133 rfl (by decide) in_Model k889 ?_
    refine V_iload_n (i := 2) d_Model_fault_136 rfl 2 rfl ?_
    refine V_aload_n (i := 0) d_Model_fault_137 rfl 0 rfl ?_
    obtain ⟨x138, e138, h⟩ := ob h
    refine V_getR (ci := 9) (k := 9) d_Model_fault_138 e138 rfl (by decide) in_Model k891 ?_
    refine V_iload_n (i := 2) d_Model_fault_141 rfl 2 rfl ?_
    obtain ⟨x142, e142, h⟩ := ob h
    refine V_aget d_Model_fault_142 e142 ?_
    obtain ⟨w143, e143, h⟩ := ob h
    refine V_aset d_Model_fault_143 e143 ?_
    refine V_iinc (i := 2) (v := (v2 + (1 : Int32))) d_Model_fault_144 2 rfl (congrArg (fun y => v2 + y) (by decide : Int32.ofInt (1) = (1 : Int32))) (by decide) rfl ?_
    refine V_goto (tgt := 124) d_Model_fault_147 (by decide) ?_
    refine V_lv [1, 2, 0] rfl ?_
    exact hK124 v0 v1 (v2 + (1 : Int32)) w143 _ h
def l_Model_fault_124 (F : Nat) : Nat → Nat → Int32 → Int32 → zW → Option (Int32 × zW)
  | 0 => fun _ _ _ _ => none
  | n + 1 => b_Model_fault_124 F (l_Model_fault_124 F n)
theorem l_Model_fault_124_ok (G : zG) (F : Nat) (n : Nat) :  ∀ (v0 : Nat) (v1 : Int32) (v2 : Int32) (w : zW) (r : (Int32 × zW)), l_Model_fault_124 F n v0 v1 v2 w = some r → zV G m_Model_fault 124 [(0, .ref (z0 G + v0)), (1, .int v1), (2, .int v2)] [] w 0 0 (oI r.1) r.2 := by
  induction n with
  | zero => intro v0 v1 v2 w r h; exact nomatch (show (none : Option (Int32 × zW)) = some r from h)
  | succ n ih => intro v0 v1 v2 w r h; exact b_Model_fault_124_ok G F (l_Model_fault_124 F n) ih v0 v1 v2 w r h
def b_Model_fault_42 (F : Nat) (K42 : Nat → Int32 → Int32 → zW → Option (Int32 × zW)) (v0 : Nat) (v1 : Int32) (v2 : Int32) (w : zW) : Option (Int32 × zW) := (getI w v0 9 8).bind fun x44 => if x44 ≤ v2 then ((getR w v0 9 22).bind fun x76 => (aget w x76 v1).bind fun x80 => if x80 = (8 : Int32) then ((zobj w v0 9).bind fun _ => (f_Model_unpacked F v0 w).bind fun r87 => if r87.1 = 0 then (some ((6 : Int32), r87.2)) else (b_Model_fault_150 F v0 v1 r87.2)) else ((getR w v0 9 24).bind fun x97 => (aget w x97 v1).bind fun x101 => (getR w v0 9 25).bind fun x103 => (aget w x103 v1).bind fun x107 => if x101 = x107 then ((getI w v0 9 8).bind fun x116 => (putI w v0 9 6 x116).bind fun w119 => l_Model_fault_124 F F v0 v1 (0 : Int32) w119) else (some ((6 : Int32), w)))) else ((getR w v0 9 9).bind fun x51 => (getR w v0 9 4).bind fun x56 => (getR w v0 9 29).bind fun x60 => (aget w x60 v1).bind fun x64 => (aget w x56 (x64 + v2)).bind fun x67 => (aset w x51 v2 x67).bind fun w68 => K42 v0 v1 (v2 + (1 : Int32)) w68)
set_option maxRecDepth 100000 in
set_option maxHeartbeats 4000000 in
theorem b_Model_fault_42_ok (G : zG) (F : Nat) (K42 : Nat → Int32 → Int32 → zW → Option (Int32 × zW)) (hK42 : ∀ (v0 : Nat) (v1 : Int32) (v2 : Int32) (w : zW) (r : (Int32 × zW)), K42 v0 v1 v2 w = some r → zV G m_Model_fault 42 [(0, .ref (z0 G + v0)), (1, .int v1), (2, .int v2)] [] w 0 0 (oI r.1) r.2) (v0 : Nat) (v1 : Int32) (v2 : Int32) (w : zW) (r : (Int32 × zW)) (h : b_Model_fault_42 F K42 v0 v1 v2 w = some r) : zV G m_Model_fault 42 [(0, .ref (z0 G + v0)), (1, .int v1), (2, .int v2)] [] w 0 0 (oI r.1) r.2 := by
  unfold b_Model_fault_42 at h
  refine V_iload_n (i := 2) d_Model_fault_42 rfl 2 rfl ?_
  refine V_aload_n (i := 0) d_Model_fault_43 rfl 0 rfl ?_
  obtain ⟨x44, e44, h⟩ := ob h
  refine V_getI (ci := 9) (k := 8) d_Model_fault_44 e44 rfl (by decide) in_Model k890 ?_
  refine V_icmp_ge (tgt := 75) d_Model_fault_47 (by decide) (fun c47 => ?_) (fun c47 => ?_)
  · rw [if_pos c47] at h
    refine V_aload_n (i := 0) d_Model_fault_75 rfl 0 rfl ?_
    obtain ⟨x76, e76, h⟩ := ob h
    refine V_getR (ci := 9) (k := 22) d_Model_fault_76 e76 rfl (by decide) in_Model k904 ?_
    refine V_iload_n (i := 1) d_Model_fault_79 rfl 1 rfl ?_
    obtain ⟨x80, e80, h⟩ := ob h
    refine V_aget d_Model_fault_80 e80 ?_
    refine V_bipush (v := 8) d_Model_fault_81 (by decide) ?_
    refine V_icmp_ne (tgt := 96) d_Model_fault_83 (by decide) (fun c83 => ?_) (fun c83 => ?_)
    · rw [if_neg c83] at h
      refine V_aload_n (i := 0) d_Model_fault_96 rfl 0 rfl ?_
      obtain ⟨x97, e97, h⟩ := ob h
      refine V_getR (ci := 9) (k := 24) d_Model_fault_97 e97 rfl (by decide) in_Model k906 ?_
      refine V_iload_n (i := 1) d_Model_fault_100 rfl 1 rfl ?_
      obtain ⟨x101, e101, h⟩ := ob h
      refine V_aget d_Model_fault_101 e101 ?_
      refine V_aload_n (i := 0) d_Model_fault_102 rfl 0 rfl ?_
      obtain ⟨x103, e103, h⟩ := ob h
      refine V_getR (ci := 9) (k := 25) d_Model_fault_103 e103 rfl (by decide) in_Model k907 ?_
      refine V_iload_n (i := 1) d_Model_fault_106 rfl 1 rfl ?_
      obtain ⟨x107, e107, h⟩ := ob h
      refine V_aget d_Model_fault_107 e107 ?_
      refine V_icmp_eq (tgt := 114) d_Model_fault_108 (by decide) (fun c108 => ?_) (fun c108 => ?_)
      · rw [if_pos c108] at h
        refine V_aload_n (i := 0) d_Model_fault_114 rfl 0 rfl ?_
        refine V_aload_n (i := 0) d_Model_fault_115 rfl 0 rfl ?_
        obtain ⟨x116, e116, h⟩ := ob h
        refine V_getI (ci := 9) (k := 8) d_Model_fault_116 e116 rfl (by decide) in_Model k890 ?_
        obtain ⟨w119, e119, h⟩ := ob h
        refine V_putI (ci := 9) (k := 6) t_Model d_Model_fault_119 e119 rfl (by decide) in_Model k888 ty_Model nm_Model rfl (Or.inl rfl) ?_
        refine V_iconst (v := 0) d_Model_fault_122 (by decide) ?_
        refine V_istore_n (i := 2) d_Model_fault_123 rfl (by decide) rfl ?_
        refine V_lv [1, 2, 0] rfl ?_
        exact l_Model_fault_124_ok G F F v0 v1 (0 : Int32) w119 _ h
      · rw [if_neg c108] at h
        refine V_bipush (v := 6) d_Model_fault_111 (by decide) ?_
        obtain rfl := Option.some.inj h
        exact V_iret rfl (by decide) (by decide) d_Model_fault_113
    · rw [if_pos c83] at h
      refine V_aload_n (i := 0) d_Model_fault_86 rfl 0 rfl ?_
      obtain ⟨_, eo87, h⟩ := ob h
      obtain ⟨r87, e87, h⟩ := ob h
      refine V_call (v := some (.int r87.1)) (st := []) (inv_V (N := m_Model_unpacked) (As := []) (ci := 9) d_Model_fault_87 eo87 rfl k1085 k1087 sel_Model_unpacked kc_Model_unpacked y_Model_unpacked) ⟨Or.inl kc_Model_unpacked, k10, by decide, by decide⟩ (Nat.le_of_ble_eq_true rfl) (by decide) (by decide) (c_Model_unpacked G F v0 w r87 e87) ?_
      refine V_if_ne (tgt := 150) d_Model_fault_90 (by decide) (fun c90 => ?_) (fun c90 => ?_)
      · rw [if_neg c90] at h
        refine V_lv [0, 1] rfl ?_
        exact b_Model_fault_150_ok G F v0 v1 r87.2 _ h
      · rw [if_pos c90] at h
        refine V_bipush (v := 6) d_Model_fault_93 (by decide) ?_
        obtain rfl := Option.some.inj h
        exact V_iret rfl (by decide) (by decide) d_Model_fault_95
  · rw [if_neg c47] at h
    refine V_aload_n (i := 0) d_Model_fault_50 rfl 0 rfl ?_
    obtain ⟨x51, e51, h⟩ := ob h
    refine V_getR (ci := 9) (k := 9) d_Model_fault_51 e51 rfl (by decide) in_Model k891 ?_
    refine V_iload_n (i := 2) d_Model_fault_54 rfl 2 rfl ?_
    refine V_aload_n (i := 0) d_Model_fault_55 rfl 0 rfl ?_
    obtain ⟨x56, e56, h⟩ := ob h
    refine V_getR (ci := 9) (k := 4) d_Model_fault_56 e56 rfl (by decide) in_Model k886 ?_
    refine V_aload_n (i := 0) d_Model_fault_59 rfl 0 rfl ?_
    obtain ⟨x60, e60, h⟩ := ob h
    refine V_getR (ci := 9) (k := 29) d_Model_fault_60 e60 rfl (by decide) in_Model k911 ?_
    refine V_iload_n (i := 1) d_Model_fault_63 rfl 1 rfl ?_
    obtain ⟨x64, e64, h⟩ := ob h
    refine V_aget d_Model_fault_64 e64 ?_
    refine V_iload_n (i := 2) d_Model_fault_65 rfl 2 rfl ?_
    refine V_iadd d_Model_fault_66 ?_
    obtain ⟨x67, e67, h⟩ := ob h
    refine V_aget d_Model_fault_67 e67 ?_
    obtain ⟨w68, e68, h⟩ := ob h
    refine V_aset d_Model_fault_68 e68 ?_
    refine V_iinc (i := 2) (v := (v2 + (1 : Int32))) d_Model_fault_69 2 rfl (congrArg (fun y => v2 + y) (by decide : Int32.ofInt (1) = (1 : Int32))) (by decide) rfl ?_
    refine V_goto (tgt := 42) d_Model_fault_72 (by decide) ?_
    refine V_lv [1, 2, 0] rfl ?_
    exact hK42 v0 v1 (v2 + (1 : Int32)) w68 _ h
def l_Model_fault_42 (F : Nat) : Nat → Nat → Int32 → Int32 → zW → Option (Int32 × zW)
  | 0 => fun _ _ _ _ => none
  | n + 1 => b_Model_fault_42 F (l_Model_fault_42 F n)
theorem l_Model_fault_42_ok (G : zG) (F : Nat) (n : Nat) :  ∀ (v0 : Nat) (v1 : Int32) (v2 : Int32) (w : zW) (r : (Int32 × zW)), l_Model_fault_42 F n v0 v1 v2 w = some r → zV G m_Model_fault 42 [(0, .ref (z0 G + v0)), (1, .int v1), (2, .int v2)] [] w 0 0 (oI r.1) r.2 := by
  induction n with
  | zero => intro v0 v1 v2 w r h; exact nomatch (show (none : Option (Int32 × zW)) = some r from h)
  | succ n ih => intro v0 v1 v2 w r h; exact b_Model_fault_42_ok G F (l_Model_fault_42 F n) ih v0 v1 v2 w r h
def b_Model_fault_0 (F : Nat) (v0 : Nat) (v1 : Int32) (w : zW) : Option (Int32 × zW) := (zobj w v0 9).bind fun _ => (f_Model_locate F v0 v1 w).bind fun r2 => if r2.1 = 0 then (some ((3 : Int32), r2.2)) else ((zobj r2.2 v0 9).bind fun _ => (f_Model_meets F v0 v1 r2.2).bind fun r12 => if r12.1 = 0 then ((zobj r12.2 v0 9).bind fun _ => (f_Model_isDescribed F v0 v1 r12.2).bind fun r22 => if r22.1 = 0 then (some ((5 : Int32), r22.2)) else ((getR r22.2 v0 9 24).bind fun x32 => (aget r22.2 x32 v1).bind fun x36 => (putI r22.2 v0 9 8 x36).bind fun w37 => l_Model_fault_42 F F v0 v1 (0 : Int32) w37)) else (some ((4 : Int32), r12.2)))
set_option maxRecDepth 100000 in
set_option maxHeartbeats 4000000 in
theorem b_Model_fault_0_ok (G : zG) (F : Nat) (v0 : Nat) (v1 : Int32) (w : zW) (r : (Int32 × zW)) (h : b_Model_fault_0 F v0 v1 w = some r) : zV G m_Model_fault 0 [(0, .ref (z0 G + v0)), (1, .int v1)] [] w 0 0 (oI r.1) r.2 := by
  unfold b_Model_fault_0 at h
  refine V_aload_n (i := 0) d_Model_fault_0 rfl 0 rfl ?_
  refine V_iload_n (i := 1) d_Model_fault_1 rfl 1 rfl ?_
  obtain ⟨_, eo2, h⟩ := ob h
  obtain ⟨r2, e2, h⟩ := ob h
  refine V_call (v := some (.int r2.1)) (st := []) (inv_V (N := m_Model_locate) (As := [.int v1]) (ci := 9) d_Model_fault_2 eo2 rfl k1196 k1198 sel_Model_locate kc_Model_locate y_Model_locate) ⟨Or.inl kc_Model_locate, k10, by decide, by decide⟩ (Nat.le_of_ble_eq_true rfl) (by decide) (by decide) (c_Model_locate G F v0 v1 w r2 e2) ?_
  refine V_if_ne (tgt := 10) d_Model_fault_5 (by decide) (fun c5 => ?_) (fun c5 => ?_)
  · rw [if_neg c5] at h
    refine V_aload_n (i := 0) d_Model_fault_10 rfl 0 rfl ?_
    refine V_iload_n (i := 1) d_Model_fault_11 rfl 1 rfl ?_
    obtain ⟨_, eo12, h⟩ := ob h
    obtain ⟨r12, e12, h⟩ := ob h
    refine V_call (v := some (.int r12.1)) (st := []) (inv_V (N := m_Model_meets) (As := [.int v1]) (ci := 9) d_Model_fault_12 eo12 rfl k1205 k1207 sel_Model_meets kc_Model_meets y_Model_meets) ⟨Or.inl kc_Model_meets, k10, by decide, by decide⟩ (Nat.le_of_ble_eq_true rfl) (by decide) (by decide) (c_Model_meets G F v0 v1 r2.2 r12 e12) ?_
    refine V_if_eq (tgt := 20) d_Model_fault_15 (by decide) (fun c15 => ?_) (fun c15 => ?_)
    · rw [if_pos c15] at h
      refine V_aload_n (i := 0) d_Model_fault_20 rfl 0 rfl ?_
      refine V_iload_n (i := 1) d_Model_fault_21 rfl 1 rfl ?_
      obtain ⟨_, eo22, h⟩ := ob h
      obtain ⟨r22, e22, h⟩ := ob h
      refine V_call (v := some (.int r22.1)) (st := []) (inv_V (N := m_Model_isDescribed) (As := [.int v1]) (ci := 9) d_Model_fault_22 eo22 rfl k1209 k1211 sel_Model_isDescribed kc_Model_isDescribed y_Model_isDescribed) ⟨Or.inl kc_Model_isDescribed, k10, by decide, by decide⟩ (Nat.le_of_ble_eq_true rfl) (by decide) (by decide) (c_Model_isDescribed G F v0 v1 r12.2 r22 e22) ?_
      refine V_if_ne (tgt := 30) d_Model_fault_25 (by decide) (fun c25 => ?_) (fun c25 => ?_)
      · rw [if_neg c25] at h
        refine V_aload_n (i := 0) d_Model_fault_30 rfl 0 rfl ?_
        refine V_aload_n (i := 0) d_Model_fault_31 rfl 0 rfl ?_
        obtain ⟨x32, e32, h⟩ := ob h
        refine V_getR (ci := 9) (k := 24) d_Model_fault_32 e32 rfl (by decide) in_Model k906 ?_
        refine V_iload_n (i := 1) d_Model_fault_35 rfl 1 rfl ?_
        obtain ⟨x36, e36, h⟩ := ob h
        refine V_aget d_Model_fault_36 e36 ?_
        obtain ⟨w37, e37, h⟩ := ob h
        refine V_putI (ci := 9) (k := 8) t_Model d_Model_fault_37 e37 rfl (by decide) in_Model k890 ty_Model nm_Model rfl (Or.inl rfl) ?_
        refine V_iconst (v := 0) d_Model_fault_40 (by decide) ?_
        refine V_istore_n (i := 2) d_Model_fault_41 rfl (by decide) rfl ?_
        refine V_lv [1, 2, 0] rfl ?_
        exact l_Model_fault_42_ok G F F v0 v1 (0 : Int32) w37 _ h
      · rw [if_pos c25] at h
        refine V_iconst (v := 5) d_Model_fault_28 (by decide) ?_
        obtain rfl := Option.some.inj h
        exact V_iret rfl (by decide) (by decide) d_Model_fault_29
    · rw [if_neg c15] at h
      refine V_iconst (v := 4) d_Model_fault_18 (by decide) ?_
      obtain rfl := Option.some.inj h
      exact V_iret rfl (by decide) (by decide) d_Model_fault_19
  · rw [if_pos c5] at h
    refine V_iconst (v := 3) d_Model_fault_8 (by decide) ?_
    obtain rfl := Option.some.inj h
    exact V_iret rfl (by decide) (by decide) d_Model_fault_9
def f_Model_fault (F : Nat) (v0 : Nat) (v1 : Int32) (w : zW) : Option (Int32 × zW) := b_Model_fault_0 F v0 v1 w
theorem c_Model_fault (G : zG) (F : Nat) (v0 : Nat) (v1 : Int32) (w : zW) (r : (Int32 × zW)) (h : f_Model_fault F v0 v1 w = some r) : zCT G m_Model_fault [.ref (z0 G + v0), .int v1] w (oI r.1) r.2 := zCT.ofV (by decide +kernel) (Or.inl ⟨kc_Model_fault, rfl⟩) (Nat.le_of_ble_eq_true rfl) (b_Model_fault_0_ok G F v0 v1 w r h)
