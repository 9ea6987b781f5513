/-! ZipArray$Unpacker.unpacks(LZipArray$Row;II)Z -/
def m_Unpacker_unpacks : zM := (⟨R_Unpacker, "unpacks", "(LZipArray$Row;II)Z"⟩, prog_8_method_2_code, 8, (some .boolean), [], { frames := 3, cells := 0, slots := 0, locals := 79 })
theorem k471 : Cond.methodLink R_Unpacker 40 (mY m_Row_empty) ∈ zTb := tb_at 471 (by decide +kernel) rfl
theorem k476 : Cond.methodLink R_Unpacker 56 (mY m_Unpacker_plainBlock) ∈ zTb := tb_at 476 (by decide +kernel) rfl
theorem k478 : Cond.instanceMethod (mY m_Unpacker_plainBlock) ∈ zTb := tb_at 478 (by decide +kernel) rfl
theorem k482 : Cond.methodLink R_Unpacker 60 (mY m_Unpacker_fixedCodes) ∈ zTb := tb_at 482 (by decide +kernel) rfl
theorem k484 : Cond.instanceMethod (mY m_Unpacker_fixedCodes) ∈ zTb := tb_at 484 (by decide +kernel) rfl
theorem k494 : Cond.methodLink R_Unpacker 63 (mY m_Unpacker_codedBlock) ∈ zTb := tb_at 494 (by decide +kernel) rfl
theorem k496 : Cond.instanceMethod (mY m_Unpacker_codedBlock) ∈ zTb := tb_at 496 (by decide +kernel) rfl
theorem k516 : Cond.methodLink R_Unpacker 66 (mY m_Unpacker_readCodes) ∈ zTb := tb_at 516 (by decide +kernel) rfl
theorem k518 : Cond.instanceMethod (mY m_Unpacker_readCodes) ∈ zTb := tb_at 518 (by decide +kernel) rfl
theorem kc_Unpacker_unpacks : Cond.code (mY m_Unpacker_unpacks) (mC m_Unpacker_unpacks) (mL m_Unpacker_unpacks) (mT m_Unpacker_unpacks) ∈ zTb := tb_at 470 (by decide +kernel) rfl
theorem y_Unpacker_unpacks : (mY m_Unpacker_unpacks).cls ≠ "java/lang/invoke/MethodHandle" ∧ (mY m_Unpacker_unpacks).cls ≠ "java/lang/invoke/VarHandle" ∧ (parseMethodDescriptor (mY m_Unpacker_unpacks).desc).map (fun d => d.parameters.length) = some 3 := by decide +kernel
theorem d_Unpacker_unpacks_0 : decode (mC m_Unpacker_unpacks) 0 = .ok (.aload_n 0, 1) := by decide +kernel
theorem d_Unpacker_unpacks_1 : decode (mC m_Unpacker_unpacks) 1 = .ok (.getfield 9, 3) := by decide +kernel
theorem d_Unpacker_unpacks_4 : decode (mC m_Unpacker_unpacks) 4 = .ok (.invokevirtual 40, 3) := by decide +kernel
theorem d_Unpacker_unpacks_7 : decode (mC m_Unpacker_unpacks) 7 = .ok (.aload_n 0, 1) := by decide +kernel
theorem d_Unpacker_unpacks_8 : decode (mC m_Unpacker_unpacks) 8 = .ok (.aload_n 1, 1) := by decide +kernel
theorem d_Unpacker_unpacks_9 : decode (mC m_Unpacker_unpacks) 9 = .ok (.putfield 15, 3) := by decide +kernel
theorem d_Unpacker_unpacks_12 : decode (mC m_Unpacker_unpacks) 12 = .ok (.aload_n 0, 1) := by decide +kernel
theorem d_Unpacker_unpacks_13 : decode (mC m_Unpacker_unpacks) 13 = .ok (.bipush 8, 2) := by decide +kernel
theorem d_Unpacker_unpacks_15 : decode (mC m_Unpacker_unpacks) 15 = .ok (.iload_n 2, 1) := by decide +kernel
theorem d_Unpacker_unpacks_16 : decode (mC m_Unpacker_unpacks) 16 = .ok (.imul, 1) := by decide +kernel
theorem d_Unpacker_unpacks_17 : decode (mC m_Unpacker_unpacks) 17 = .ok (.putfield 45, 3) := by decide +kernel
theorem d_Unpacker_unpacks_20 : decode (mC m_Unpacker_unpacks) 20 = .ok (.aload_n 0, 1) := by decide +kernel
theorem d_Unpacker_unpacks_21 : decode (mC m_Unpacker_unpacks) 21 = .ok (.bipush 8, 2) := by decide +kernel
theorem d_Unpacker_unpacks_23 : decode (mC m_Unpacker_unpacks) 23 = .ok (.iload_n 3, 1) := by decide +kernel
theorem d_Unpacker_unpacks_24 : decode (mC m_Unpacker_unpacks) 24 = .ok (.imul, 1) := by decide +kernel
theorem d_Unpacker_unpacks_25 : decode (mC m_Unpacker_unpacks) 25 = .ok (.putfield 49, 3) := by decide +kernel
theorem d_Unpacker_unpacks_28 : decode (mC m_Unpacker_unpacks) 28 = .ok (.iconst 0, 1) := by decide +kernel
theorem d_Unpacker_unpacks_29 : decode (mC m_Unpacker_unpacks) 29 = .ok (.istore 4, 2) := by decide +kernel
theorem d_Unpacker_unpacks_31 : decode (mC m_Unpacker_unpacks) 31 = .ok (.iload 4, 2) := by decide +kernel
theorem d_Unpacker_unpacks_33 : decode (mC m_Unpacker_unpacks) 33 = .ok (.sipush 12800, 3) := by decide +kernel
theorem d_Unpacker_unpacks_36 : decode (mC m_Unpacker_unpacks) 36 = .ok (.if_icmp .ge 130, 3) := by decide +kernel
theorem d_Unpacker_unpacks_39 : decode (mC m_Unpacker_unpacks) 39 = .ok (.aload_n 0, 1) := by decide +kernel
theorem d_Unpacker_unpacks_40 : decode (mC m_Unpacker_unpacks) 40 = .ok (.iconst 1, 1) := by decide +kernel
theorem d_Unpacker_unpacks_41 : decode (mC m_Unpacker_unpacks) 41 = .ok (.invokevirtual 52, 3) := by decide +kernel
theorem d_Unpacker_unpacks_44 : decode (mC m_Unpacker_unpacks) 44 = .ok (.istore 5, 2) := by decide +kernel
theorem d_Unpacker_unpacks_46 : decode (mC m_Unpacker_unpacks) 46 = .ok (.aload_n 0, 1) := by decide +kernel
theorem d_Unpacker_unpacks_47 : decode (mC m_Unpacker_unpacks) 47 = .ok (.iconst 2, 1) := by decide +kernel
theorem d_Unpacker_unpacks_48 : decode (mC m_Unpacker_unpacks) 48 = .ok (.invokevirtual 52, 3) := by decide +kernel
theorem d_Unpacker_unpacks_51 : decode (mC m_Unpacker_unpacks) 51 = .ok (.istore 6, 2) := by decide +kernel
theorem d_Unpacker_unpacks_53 : decode (mC m_Unpacker_unpacks) 53 = .ok (.iconst 0, 1) := by decide +kernel
theorem d_Unpacker_unpacks_54 : decode (mC m_Unpacker_unpacks) 54 = .ok (.istore 7, 2) := by decide +kernel
theorem d_Unpacker_unpacks_56 : decode (mC m_Unpacker_unpacks) 56 = .ok (.iload 6, 2) := by decide +kernel
theorem d_Unpacker_unpacks_58 : decode (mC m_Unpacker_unpacks) 58 = .ok (.ifCond .ne 12, 3) := by decide +kernel
theorem d_Unpacker_unpacks_61 : decode (mC m_Unpacker_unpacks) 61 = .ok (.aload_n 0, 1) := by decide +kernel
theorem d_Unpacker_unpacks_62 : decode (mC m_Unpacker_unpacks) 62 = .ok (.invokevirtual 56, 3) := by decide +kernel
theorem d_Unpacker_unpacks_65 : decode (mC m_Unpacker_unpacks) 65 = .ok (.istore 7, 2) := by decide +kernel
theorem d_Unpacker_unpacks_67 : decode (mC m_Unpacker_unpacks) 67 = .ok (.goto 60, 3) := by decide +kernel
theorem d_Unpacker_unpacks_70 : decode (mC m_Unpacker_unpacks) 70 = .ok (.iload 6, 2) := by decide +kernel
theorem d_Unpacker_unpacks_72 : decode (mC m_Unpacker_unpacks) 72 = .ok (.iconst 1, 1) := by decide +kernel
theorem d_Unpacker_unpacks_73 : decode (mC m_Unpacker_unpacks) 73 = .ok (.if_icmp .ne 27, 3) := by decide +kernel
theorem d_Unpacker_unpacks_76 : decode (mC m_Unpacker_unpacks) 76 = .ok (.aload_n 0, 1) := by decide +kernel
theorem d_Unpacker_unpacks_77 : decode (mC m_Unpacker_unpacks) 77 = .ok (.invokevirtual 60, 3) := by decide +kernel
theorem d_Unpacker_unpacks_80 : decode (mC m_Unpacker_unpacks) 80 = .ok (.ifCond .eq 14, 3) := by decide +kernel
theorem d_Unpacker_unpacks_83 : decode (mC m_Unpacker_unpacks) 83 = .ok (.aload_n 0, 1) := by decide +kernel
theorem d_Unpacker_unpacks_84 : decode (mC m_Unpacker_unpacks) 84 = .ok (.invokevirtual 63, 3) := by decide +kernel
theorem d_Unpacker_unpacks_87 : decode (mC m_Unpacker_unpacks) 87 = .ok (.ifCond .eq 7, 3) := by decide +kernel
theorem d_Unpacker_unpacks_90 : decode (mC m_Unpacker_unpacks) 90 = .ok (.iconst 1, 1) := by decide +kernel
theorem d_Unpacker_unpacks_91 : decode (mC m_Unpacker_unpacks) 91 = .ok (.goto 4, 3) := by decide +kernel
theorem d_Unpacker_unpacks_94 : decode (mC m_Unpacker_unpacks) 94 = .ok (.iconst 0, 1) := by decide +kernel
theorem d_Unpacker_unpacks_95 : decode (mC m_Unpacker_unpacks) 95 = .ok (.istore 7, 2) := by decide +kernel
theorem d_Unpacker_unpacks_97 : decode (mC m_Unpacker_unpacks) 97 = .ok (.goto 30, 3) := by decide +kernel
theorem d_Unpacker_unpacks_100 : decode (mC m_Unpacker_unpacks) 100 = .ok (.iload 6, 2) := by decide +kernel
theorem d_Unpacker_unpacks_102 : decode (mC m_Unpacker_unpacks) 102 = .ok (.iconst 2, 1) := by decide +kernel
theorem d_Unpacker_unpacks_103 : decode (mC m_Unpacker_unpacks) 103 = .ok (.if_icmp .ne 24, 3) := by decide +kernel
theorem d_Unpacker_unpacks_106 : decode (mC m_Unpacker_unpacks) 106 = .ok (.aload_n 0, 1) := by decide +kernel
theorem d_Unpacker_unpacks_107 : decode (mC m_Unpacker_unpacks) 107 = .ok (.invokevirtual 66, 3) := by decide +kernel
theorem d_Unpacker_unpacks_110 : decode (mC m_Unpacker_unpacks) 110 = .ok (.ifCond .eq 14, 3) := by decide +kernel
theorem d_Unpacker_unpacks_113 : decode (mC m_Unpacker_unpacks) 113 = .ok (.aload_n 0, 1) := by decide +kernel
theorem d_Unpacker_unpacks_114 : decode (mC m_Unpacker_unpacks) 114 = .ok (.invokevirtual 63, 3) := by decide +kernel
theorem d_Unpacker_unpacks_117 : decode (mC m_Unpacker_unpacks) 117 = .ok (.ifCond .eq 7, 3) := by decide +kernel
theorem d_Unpacker_unpacks_120 : decode (mC m_Unpacker_unpacks) 120 = .ok (.iconst 1, 1) := by decide +kernel
theorem d_Unpacker_unpacks_121 : decode (mC m_Unpacker_unpacks) 121 = .ok (.goto 4, 3) := by decide +kernel
theorem d_Unpacker_unpacks_124 : decode (mC m_Unpacker_unpacks) 124 = .ok (.iconst 0, 1) := by decide +kernel
theorem d_Unpacker_unpacks_125 : decode (mC m_Unpacker_unpacks) 125 = .ok (.istore 7, 2) := by decide +kernel
theorem d_Unpacker_unpacks_127 : decode (mC m_Unpacker_unpacks) 127 = .ok (.iload 7, 2) := by decide +kernel
theorem d_Unpacker_unpacks_129 : decode (mC m_Unpacker_unpacks) 129 = .ok (.ifCond .ne 5, 3) := by decide +kernel
theorem d_Unpacker_unpacks_132 : decode (mC m_Unpacker_unpacks) 132 = .ok (.iconst 0, 1) := by decide +kernel
theorem d_Unpacker_unpacks_133 : decode (mC m_Unpacker_unpacks) 133 = .ok (.ireturn, 1) := by decide +kernel
theorem d_Unpacker_unpacks_134 : decode (mC m_Unpacker_unpacks) 134 = .ok (.iload 5, 2) := by decide +kernel
theorem d_Unpacker_unpacks_136 : decode (mC m_Unpacker_unpacks) 136 = .ok (.iconst 1, 1) := by decide +kernel
theorem d_Unpacker_unpacks_137 : decode (mC m_Unpacker_unpacks) 137 = .ok (.if_icmp .ne 23, 3) := by decide +kernel
theorem d_Unpacker_unpacks_140 : decode (mC m_Unpacker_unpacks) 140 = .ok (.aload_n 0, 1) := by decide +kernel
theorem d_Unpacker_unpacks_141 : decode (mC m_Unpacker_unpacks) 141 = .ok (.getfield 49, 3) := by decide +kernel
theorem d_Unpacker_unpacks_144 : decode (mC m_Unpacker_unpacks) 144 = .ok (.aload_n 0, 1) := by decide +kernel
theorem d_Unpacker_unpacks_145 : decode (mC m_Unpacker_unpacks) 145 = .ok (.getfield 45, 3) := by decide +kernel
theorem d_Unpacker_unpacks_148 : decode (mC m_Unpacker_unpacks) 148 = .ok (.isub, 1) := by decide +kernel
theorem d_Unpacker_unpacks_149 : decode (mC m_Unpacker_unpacks) 149 = .ok (.bipush 8, 2) := by decide +kernel
theorem d_Unpacker_unpacks_151 : decode (mC m_Unpacker_unpacks) 151 = .ok (.if_icmp .ge 7, 3) := by decide +kernel
theorem d_Unpacker_unpacks_154 : decode (mC m_Unpacker_unpacks) 154 = .ok (.iconst 1, 1) := by decide +kernel
theorem d_Unpacker_unpacks_155 : decode (mC m_Unpacker_unpacks) 155 = .ok (.goto 4, 3) := by decide +kernel
theorem d_Unpacker_unpacks_158 : decode (mC m_Unpacker_unpacks) 158 = .ok (.iconst 0, 1) := by decide +kernel
theorem d_Unpacker_unpacks_159 : decode (mC m_Unpacker_unpacks) 159 = .ok (.ireturn, 1) := by decide +kernel
theorem d_Unpacker_unpacks_160 : decode (mC m_Unpacker_unpacks) 160 = .ok (.iinc 4 1, 3) := by decide +kernel
theorem d_Unpacker_unpacks_163 : decode (mC m_Unpacker_unpacks) 163 = .ok (.goto (-132), 3) := by decide +kernel
theorem d_Unpacker_unpacks_166 : decode (mC m_Unpacker_unpacks) 166 = .ok (.iconst 0, 1) := by decide +kernel
theorem d_Unpacker_unpacks_167 : decode (mC m_Unpacker_unpacks) 167 = .ok (.ireturn, 1) := by decide +kernel
def b_Unpacker_unpacks_127 (F : Nat) (K31 : Nat → Int32 → zW → Option (Int32 × zW)) (v0 : Nat) (v4 : Int32) (v5 : Int32) (v7 : Int32) (w : zW) : Option (Int32 × zW) := if v7 = 0 then (some ((0 : Int32), w)) else (if v5 = (1 : Int32) then ((getI w v0 5 7).bind fun x141 => (getI w v0 5 6).bind fun x145 => if (8 : Int32) ≤ (x141 - x145) then (some ((0 : Int32), w)) else (some ((1 : Int32), w))) else (K31 v0 (v4 + (1 : Int32)) w))
set_option maxRecDepth 100000 in
set_option maxHeartbeats 4000000 in
theorem b_Unpacker_unpacks_127_ok (G : zG) (F : Nat) (K31 : Nat → Int32 → zW → Option (Int32 × zW)) (hK31 : ∀ (v0 : Nat) (v4 : Int32) (w : zW) (r : (Int32 × zW)), K31 v0 v4 w = some r → zV G m_Unpacker_unpacks 31 [(0, .ref (z0 G + v0)), (4, .int v4)] [] w 0 0 (oI r.1) r.2) (v0 : Nat) (v4 : Int32) (v5 : Int32) (v7 : Int32) (w : zW) (r : (Int32 × zW)) (h : b_Unpacker_unpacks_127 F K31 v0 v4 v5 v7 w = some r) : zV G m_Unpacker_unpacks 127 [(0, .ref (z0 G + v0)), (4, .int v4), (5, .int v5), (7, .int v7)] [] w 0 0 (oI r.1) r.2 := by
  unfold b_Unpacker_unpacks_127 at h
  refine V_iload (i := 7) d_Unpacker_unpacks_127 3 rfl ?_
  refine V_if_ne (tgt := 134) d_Unpacker_unpacks_129 (by decide) (fun c129 => ?_) (fun c129 => ?_)
  · rw [if_neg c129] at h
    refine V_iload (i := 5) d_Unpacker_unpacks_134 2 rfl ?_
    refine V_iconst (v := 1) d_Unpacker_unpacks_136 (by decide) ?_
    refine V_icmp_ne (tgt := 160) d_Unpacker_unpacks_137 (by decide) (fun c137 => ?_) (fun c137 => ?_)
    · rw [if_neg c137] at h
      refine V_iinc (i := 4) (v := (v4 + (1 : Int32))) d_Unpacker_unpacks_160 1 rfl (congrArg (fun y => v4 + y) (by decide : Int32.ofInt (1) = (1 : Int32))) (by decide) rfl ?_
      refine V_goto (tgt := 31) d_Unpacker_unpacks_163 (by decide) ?_
      refine V_lv [1, 0] rfl ?_
      exact hK31 v0 (v4 + (1 : Int32)) w _ h
    · rw [if_pos c137] at h
      refine V_aload_n (i := 0) d_Unpacker_unpacks_140 rfl 0 rfl ?_
      obtain ⟨x141, e141, h⟩ := ob h
      refine V_getI (ci := 5) (k := 7) d_Unpacker_unpacks_141 e141 rfl (by decide) in_Unpacker k113 ?_
      refine V_aload_n (i := 0) d_Unpacker_unpacks_144 rfl 0 rfl ?_
      obtain ⟨x145, e145, h⟩ := ob h
      refine V_getI (ci := 5) (k := 6) d_Unpacker_unpacks_145 e145 rfl (by decide) in_Unpacker k112 ?_
      refine V_isub d_Unpacker_unpacks_148 ?_
      refine V_bipush (v := 8) d_Unpacker_unpacks_149 (by decide) ?_
      refine V_icmp_ge (tgt := 158) d_Unpacker_unpacks_151 (by decide) (fun c151 => ?_) (fun c151 => ?_)
      · rw [if_pos c151] at h
        refine V_iconst (v := 0) d_Unpacker_unpacks_158 (by decide) ?_
        obtain rfl := Option.some.inj h
        exact V_zret rfl (Or.inl rfl) (by decide) (by decide) d_Unpacker_unpacks_159
      · rw [if_neg c151] at h
        refine V_iconst (v := 1) d_Unpacker_unpacks_154 (by decide) ?_
        refine V_goto (tgt := 159) d_Unpacker_unpacks_155 (by decide) ?_
        obtain rfl := Option.some.inj h
        exact V_zret rfl (Or.inr rfl) (by decide) (by decide) d_Unpacker_unpacks_159
  · rw [if_pos c129] at h
    refine V_iconst (v := 0) d_Unpacker_unpacks_132 (by decide) ?_
    obtain rfl := Option.some.inj h
    exact V_zret rfl (Or.inl rfl) (by decide) (by decide) d_Unpacker_unpacks_133
def b_Unpacker_unpacks_125 (F : Nat) (K31 : Nat → Int32 → zW → Option (Int32 × zW)) (v0 : Nat) (v4 : Int32) (v5 : Int32) (s0 : Int32) (w : zW) : Option (Int32 × zW) := b_Unpacker_unpacks_127 F K31 v0 v4 v5 s0 w
set_option maxRecDepth 100000 in
set_option maxHeartbeats 4000000 in
theorem b_Unpacker_unpacks_125_ok (G : zG) (F : Nat) (K31 : Nat → Int32 → zW → Option (Int32 × zW)) (hK31 : ∀ (v0 : Nat) (v4 : Int32) (w : zW) (r : (Int32 × zW)), K31 v0 v4 w = some r → zV G m_Unpacker_unpacks 31 [(0, .ref (z0 G + v0)), (4, .int v4)] [] w 0 0 (oI r.1) r.2) (v0 : Nat) (v4 : Int32) (v5 : Int32) (s0 : Int32) (w : zW) (r : (Int32 × zW)) (h : b_Unpacker_unpacks_125 F K31 v0 v4 v5 s0 w = some r) : zV G m_Unpacker_unpacks 125 [(0, .ref (z0 G + v0)), (4, .int v4), (5, .int v5)] [.int s0] w 0 0 (oI r.1) r.2 := by
  unfold b_Unpacker_unpacks_125 at h
  refine V_istore (i := 7) d_Unpacker_unpacks_125 (by decide) rfl ?_
  refine V_lv [1, 2, 3, 0] rfl ?_
  exact b_Unpacker_unpacks_127_ok G F K31 hK31 v0 v4 v5 s0 w _ h
def b_Unpacker_unpacks_124 (F : Nat) (K31 : Nat → Int32 → zW → Option (Int32 × zW)) (v0 : Nat) (v4 : Int32) (v5 : Int32) (w : zW) : Option (Int32 × zW) := b_Unpacker_unpacks_125 F K31 v0 v4 v5 (0 : Int32) w
set_option maxRecDepth 100000 in
set_option maxHeartbeats 4000000 in
theorem b_Unpacker_unpacks_124_ok (G : zG) (F : Nat) (K31 : Nat → Int32 → zW → Option (Int32 × zW)) (hK31 : ∀ (v0 : Nat) (v4 : Int32) (w : zW) (r : (Int32 × zW)), K31 v0 v4 w = some r → zV G m_Unpacker_unpacks 31 [(0, .ref (z0 G + v0)), (4, .int v4)] [] w 0 0 (oI r.1) r.2) (v0 : Nat) (v4 : Int32) (v5 : Int32) (w : zW) (r : (Int32 × zW)) (h : b_Unpacker_unpacks_124 F K31 v0 v4 v5 w = some r) : zV G m_Unpacker_unpacks 124 [(0, .ref (z0 G + v0)), (4, .int v4), (5, .int v5)] [] w 0 0 (oI r.1) r.2 := by
  unfold b_Unpacker_unpacks_124 at h
  refine V_iconst (v := 0) d_Unpacker_unpacks_124 (by decide) ?_
  exact b_Unpacker_unpacks_125_ok G F K31 hK31 v0 v4 v5 (0 : Int32) w _ h
def b_Unpacker_unpacks_95 (F : Nat) (K31 : Nat → Int32 → zW → Option (Int32 × zW)) (v0 : Nat) (v4 : Int32) (v5 : Int32) (s0 : Int32) (w : zW) : Option (Int32 × zW) := b_Unpacker_unpacks_127 F K31 v0 v4 v5 s0 w
set_option maxRecDepth 100000 in
set_option maxHeartbeats 4000000 in
theorem b_Unpacker_unpacks_95_ok (G : zG) (F : Nat) (K31 : Nat → Int32 → zW → Option (Int32 × zW)) (hK31 : ∀ (v0 : Nat) (v4 : Int32) (w : zW) (r : (Int32 × zW)), K31 v0 v4 w = some r → zV G m_Unpacker_unpacks 31 [(0, .ref (z0 G + v0)), (4, .int v4)] [] w 0 0 (oI r.1) r.2) (v0 : Nat) (v4 : Int32) (v5 : Int32) (s0 : Int32) (w : zW) (r : (Int32 × zW)) (h : b_Unpacker_unpacks_95 F K31 v0 v4 v5 s0 w = some r) : zV G m_Unpacker_unpacks 95 [(0, .ref (z0 G + v0)), (4, .int v4), (5, .int v5)] [.int s0] w 0 0 (oI r.1) r.2 := by
  unfold b_Unpacker_unpacks_95 at h
  refine V_istore (i := 7) d_Unpacker_unpacks_95 (by decide) rfl ?_
  refine V_goto (tgt := 127) d_Unpacker_unpacks_97 (by decide) ?_
  refine V_lv [1, 2, 3, 0] rfl ?_
  exact b_Unpacker_unpacks_127_ok G F K31 hK31 v0 v4 v5 s0 w _ h
def b_Unpacker_unpacks_94 (F : Nat) (K31 : Nat → Int32 → zW → Option (Int32 × zW)) (v0 : Nat) (v4 : Int32) (v5 : Int32) (w : zW) : Option (Int32 × zW) := b_Unpacker_unpacks_95 F K31 v0 v4 v5 (0 : Int32) w
set_option maxRecDepth 100000 in
set_option maxHeartbeats 4000000 in
theorem b_Unpacker_unpacks_94_ok (G : zG) (F : Nat) (K31 : Nat → Int32 → zW → Option (Int32 × zW)) (hK31 : ∀ (v0 : Nat) (v4 : Int32) (w : zW) (r : (Int32 × zW)), K31 v0 v4 w = some r → zV G m_Unpacker_unpacks 31 [(0, .ref (z0 G + v0)), (4, .int v4)] [] w 0 0 (oI r.1) r.2) (v0 : Nat) (v4 : Int32) (v5 : Int32) (w : zW) (r : (Int32 × zW)) (h : b_Unpacker_unpacks_94 F K31 v0 v4 v5 w = some r) : zV G m_Unpacker_unpacks 94 [(0, .ref (z0 G + v0)), (4, .int v4), (5, .int v5)] [] w 0 0 (oI r.1) r.2 := by
  unfold b_Unpacker_unpacks_94 at h
  refine V_iconst (v := 0) d_Unpacker_unpacks_94 (by decide) ?_
  exact b_Unpacker_unpacks_95_ok G F K31 hK31 v0 v4 v5 (0 : Int32) w _ h
def b_Unpacker_unpacks_31 (F : Nat) (K31 : Nat → Int32 → zW → Option (Int32 × zW)) (v0 : Nat) (v4 : Int32) (w : zW) : Option (Int32 × zW) := if (12800 : Int32) ≤ v4 then (some ((0 : Int32), w)) else ((zobj w v0 5).bind fun _ => (f_Unpacker_takeBits F v0 (1 : Int32) w).bind fun r41 => (zobj r41.2 v0 5).bind fun _ => (f_Unpacker_takeBits F v0 (2 : Int32) r41.2).bind fun r48 => if r48.1 = 0 then ((zobj r48.2 v0 5).bind fun _ => (f_Unpacker_plainBlock F v0 r48.2).bind fun r62 => b_Unpacker_unpacks_127 F K31 v0 v4 r41.1 r62.1 r62.2) else (if r48.1 = (1 : Int32) then ((zobj r48.2 v0 5).bind fun _ => (f_Unpacker_fixedCodes F v0 r48.2).bind fun r77 => if r77.1 = 0 then (b_Unpacker_unpacks_94 F K31 v0 v4 r41.1 r77.2) else ((zobj r77.2 v0 5).bind fun _ => (f_Unpacker_codedBlock F v0 r77.2).bind fun r84 => if r84.1 = 0 then (b_Unpacker_unpacks_94 F K31 v0 v4 r41.1 r84.2) else (b_Unpacker_unpacks_95 F K31 v0 v4 r41.1 (1 : Int32) r84.2))) else (if r48.1 = (2 : Int32) then ((zobj r48.2 v0 5).bind fun _ => (f_Unpacker_readCodes F v0 r48.2).bind fun r107 => if r107.1 = 0 then (b_Unpacker_unpacks_124 F K31 v0 v4 r41.1 r107.2) else ((zobj r107.2 v0 5).bind fun _ => (f_Unpacker_codedBlock F v0 r107.2).bind fun r114 => if r114.1 = 0 then (b_Unpacker_unpacks_124 F K31 v0 v4 r41.1 r114.2) else (b_Unpacker_unpacks_125 F K31 v0 v4 r41.1 (1 : Int32) r114.2))) else (b_Unpacker_unpacks_127 F K31 v0 v4 r41.1 (0 : Int32) r48.2))))
set_option maxRecDepth 100000 in
set_option maxHeartbeats 4000000 in
theorem b_Unpacker_unpacks_31_ok (G : zG) (F : Nat) (K31 : Nat → Int32 → zW → Option (Int32 × zW)) (hK31 : ∀ (v0 : Nat) (v4 : Int32) (w : zW) (r : (Int32 × zW)), K31 v0 v4 w = some r → zV G m_Unpacker_unpacks 31 [(0, .ref (z0 G + v0)), (4, .int v4)] [] w 0 0 (oI r.1) r.2) (v0 : Nat) (v4 : Int32) (w : zW) (r : (Int32 × zW)) (h : b_Unpacker_unpacks_31 F K31 v0 v4 w = some r) : zV G m_Unpacker_unpacks 31 [(0, .ref (z0 G + v0)), (4, .int v4)] [] w 0 0 (oI r.1) r.2 := by
  unfold b_Unpacker_unpacks_31 at h
  refine V_iload (i := 4) d_Unpacker_unpacks_31 1 rfl ?_
  refine V_sipush (v := 12800) d_Unpacker_unpacks_33 (by decide) ?_
  refine V_icmp_ge (tgt := 166) d_Unpacker_unpacks_36 (by decide) (fun c36 => ?_) (fun c36 => ?_)
  · rw [if_pos c36] at h
    refine V_iconst (v := 0) d_Unpacker_unpacks_166 (by decide) ?_
    obtain rfl := Option.some.inj h
    exact V_zret rfl (Or.inl rfl) (by decide) (by decide) d_Unpacker_unpacks_167
  · rw [if_neg c36] at h
    refine V_aload_n (i := 0) d_Unpacker_unpacks_39 rfl 0 rfl ?_
    refine V_iconst (v := 1) d_Unpacker_unpacks_40 (by decide) ?_
    obtain ⟨_, eo41, h⟩ := ob h
    obtain ⟨r41, e41, h⟩ := ob h
    refine V_call (v := some (.int r41.1)) (st := []) (inv_V (N := m_Unpacker_takeBits) (As := [.int (1 : Int32)]) (ci := 5) d_Unpacker_unpacks_41 eo41 rfl k472 k474 sel_Unpacker_takeBits kc_Unpacker_takeBits y_Unpacker_takeBits) ⟨Or.inl kc_Unpacker_takeBits, k4, by decide, by decide⟩ (Nat.le_of_ble_eq_true rfl) (by decide) (by decide) (c_Unpacker_takeBits G F v0 (1 : Int32) w r41 e41) ?_
    refine V_istore (i := 5) d_Unpacker_unpacks_44 (by decide) rfl ?_
    refine V_aload_n (i := 0) d_Unpacker_unpacks_46 rfl 1 rfl ?_
    refine V_iconst (v := 2) d_Unpacker_unpacks_47 (by decide) ?_
    obtain ⟨_, eo48, h⟩ := ob h
    obtain ⟨r48, e48, h⟩ := ob h
    refine V_call (v := some (.int r48.1)) (st := []) (inv_V (N := m_Unpacker_takeBits) (As := [.int (2 : Int32)]) (ci := 5) d_Unpacker_unpacks_48 eo48 rfl k472 k474 sel_Unpacker_takeBits kc_Unpacker_takeBits y_Unpacker_takeBits) ⟨Or.inl kc_Unpacker_takeBits, k4, by decide, by decide⟩ (Nat.le_of_ble_eq_true rfl) (by decide) (by decide) (c_Unpacker_takeBits G F v0 (2 : Int32) r41.2 r48 e48) ?_
    refine V_istore (i := 6) d_Unpacker_unpacks_51 (by decide) rfl ?_
    refine V_iconst (v := 0) d_Unpacker_unpacks_53 (by decide) ?_
    refine V_istore (i := 7) d_Unpacker_unpacks_54 (by decide) rfl ?_
    refine V_iload (i := 6) d_Unpacker_unpacks_56 1 rfl ?_
    refine V_if_ne (tgt := 70) d_Unpacker_unpacks_58 (by decide) (fun c58 => ?_) (fun c58 => ?_)
    · rw [if_neg c58] at h
      refine V_iload (i := 6) d_Unpacker_unpacks_70 1 rfl ?_
      refine V_iconst (v := 1) d_Unpacker_unpacks_72 (by decide) ?_
      refine V_icmp_ne (tgt := 100) d_Unpacker_unpacks_73 (by decide) (fun c73 => ?_) (fun c73 => ?_)
      · rw [if_neg c73] at h
        refine V_iload (i := 6) d_Unpacker_unpacks_100 1 rfl ?_
        refine V_iconst (v := 2) d_Unpacker_unpacks_102 (by decide) ?_
        refine V_icmp_ne (tgt := 127) d_Unpacker_unpacks_103 (by decide) (fun c103 => ?_) (fun c103 => ?_)
        · rw [if_neg c103] at h
          refine V_lv [3, 4, 2, 0] rfl ?_
          exact b_Unpacker_unpacks_127_ok G F K31 hK31 v0 v4 r41.1 (0 : Int32) r48.2 _ h
        · rw [if_pos c103] at h
          refine V_aload_n (i := 0) d_Unpacker_unpacks_106 rfl 3 rfl ?_
          obtain ⟨_, eo107, h⟩ := ob h
          obtain ⟨r107, e107, h⟩ := ob h
          refine V_call (v := some (.int r107.1)) (st := []) (inv_V (N := m_Unpacker_readCodes) (As := []) (ci := 5) d_Unpacker_unpacks_107 eo107 rfl k516 k518 sel_Unpacker_readCodes kc_Unpacker_readCodes y_Unpacker_readCodes) ⟨Or.inl kc_Unpacker_readCodes, k4, by decide, by decide⟩ (Nat.le_of_ble_eq_true rfl) (by decide) (by decide) (c_Unpacker_readCodes G F v0 r48.2 r107 e107) ?_
          refine V_if_eq (tgt := 124) d_Unpacker_unpacks_110 (by decide) (fun c110 => ?_) (fun c110 => ?_)
          · rw [if_pos c110] at h
            refine V_lv [3, 4, 2] rfl ?_
            exact b_Unpacker_unpacks_124_ok G F K31 hK31 v0 v4 r41.1 r107.2 _ h
          · rw [if_neg c110] at h
            refine V_aload_n (i := 0) d_Unpacker_unpacks_113 rfl 3 rfl ?_
            obtain ⟨_, eo114, h⟩ := ob h
            obtain ⟨r114, e114, h⟩ := ob h
            refine V_call (v := some (.int r114.1)) (st := []) (inv_V (N := m_Unpacker_codedBlock) (As := []) (ci := 5) d_Unpacker_unpacks_114 eo114 rfl k494 k496 sel_Unpacker_codedBlock kc_Unpacker_codedBlock y_Unpacker_codedBlock) ⟨Or.inl kc_Unpacker_codedBlock, k4, by decide, by decide⟩ (Nat.le_of_ble_eq_true rfl) (by decide) (by decide) (c_Unpacker_codedBlock G F v0 r107.2 r114 e114) ?_
            refine V_if_eq (tgt := 124) d_Unpacker_unpacks_117 (by decide) (fun c117 => ?_) (fun c117 => ?_)
            · rw [if_pos c117] at h
              refine V_lv [3, 4, 2] rfl ?_
              exact b_Unpacker_unpacks_124_ok G F K31 hK31 v0 v4 r41.1 r114.2 _ h
            · rw [if_neg c117] at h
              refine V_iconst (v := 1) d_Unpacker_unpacks_120 (by decide) ?_
              refine V_goto (tgt := 125) d_Unpacker_unpacks_121 (by decide) ?_
              refine V_lv [3, 4, 2] rfl ?_
              exact b_Unpacker_unpacks_125_ok G F K31 hK31 v0 v4 r41.1 (1 : Int32) r114.2 _ h
      · rw [if_pos c73] at h
        refine V_aload_n (i := 0) d_Unpacker_unpacks_76 rfl 3 rfl ?_
        obtain ⟨_, eo77, h⟩ := ob h
        obtain ⟨r77, e77, h⟩ := ob h
        refine V_call (v := some (.int r77.1)) (st := []) (inv_V (N := m_Unpacker_fixedCodes) (As := []) (ci := 5) d_Unpacker_unpacks_77 eo77 rfl k482 k484 sel_Unpacker_fixedCodes kc_Unpacker_fixedCodes y_Unpacker_fixedCodes) ⟨Or.inl kc_Unpacker_fixedCodes, k4, by decide, by decide⟩ (Nat.le_of_ble_eq_true rfl) (by decide) (by decide) (c_Unpacker_fixedCodes G F v0 r48.2 r77 e77) ?_
        refine V_if_eq (tgt := 94) d_Unpacker_unpacks_80 (by decide) (fun c80 => ?_) (fun c80 => ?_)
        · rw [if_pos c80] at h
          refine V_lv [3, 4, 2] rfl ?_
          exact b_Unpacker_unpacks_94_ok G F K31 hK31 v0 v4 r41.1 r77.2 _ h
        · rw [if_neg c80] at h
          refine V_aload_n (i := 0) d_Unpacker_unpacks_83 rfl 3 rfl ?_
          obtain ⟨_, eo84, h⟩ := ob h
          obtain ⟨r84, e84, h⟩ := ob h
          refine V_call (v := some (.int r84.1)) (st := []) (inv_V (N := m_Unpacker_codedBlock) (As := []) (ci := 5) d_Unpacker_unpacks_84 eo84 rfl k494 k496 sel_Unpacker_codedBlock kc_Unpacker_codedBlock y_Unpacker_codedBlock) ⟨Or.inl kc_Unpacker_codedBlock, k4, by decide, by decide⟩ (Nat.le_of_ble_eq_true rfl) (by decide) (by decide) (c_Unpacker_codedBlock G F v0 r77.2 r84 e84) ?_
          refine V_if_eq (tgt := 94) d_Unpacker_unpacks_87 (by decide) (fun c87 => ?_) (fun c87 => ?_)
          · rw [if_pos c87] at h
            refine V_lv [3, 4, 2] rfl ?_
            exact b_Unpacker_unpacks_94_ok G F K31 hK31 v0 v4 r41.1 r84.2 _ h
          · rw [if_neg c87] at h
            refine V_iconst (v := 1) d_Unpacker_unpacks_90 (by decide) ?_
            refine V_goto (tgt := 95) d_Unpacker_unpacks_91 (by decide) ?_
            refine V_lv [3, 4, 2] rfl ?_
            exact b_Unpacker_unpacks_95_ok G F K31 hK31 v0 v4 r41.1 (1 : Int32) r84.2 _ h
    · rw [if_pos c58] at h
      refine V_aload_n (i := 0) d_Unpacker_unpacks_61 rfl 3 rfl ?_
      obtain ⟨_, eo62, h⟩ := ob h
      obtain ⟨r62, e62, h⟩ := ob h
      refine V_call (v := some (.int r62.1)) (st := []) (inv_V (N := m_Unpacker_plainBlock) (As := []) (ci := 5) d_Unpacker_unpacks_62 eo62 rfl k476 k478 sel_Unpacker_plainBlock kc_Unpacker_plainBlock y_Unpacker_plainBlock) ⟨Or.inl kc_Unpacker_plainBlock, k4, by decide, by decide⟩ (Nat.le_of_ble_eq_true rfl) (by decide) (by decide) (c_Unpacker_plainBlock G F v0 r48.2 r62 e62) ?_
      refine V_istore (i := 7) d_Unpacker_unpacks_65 (by decide) rfl ?_
      refine V_goto (tgt := 127) d_Unpacker_unpacks_67 (by decide) ?_
      refine V_lv [3, 4, 2, 0] rfl ?_
      exact b_Unpacker_unpacks_127_ok G F K31 hK31 v0 v4 r41.1 r62.1 r62.2 _ h
def l_Unpacker_unpacks_31 (F : Nat) : Nat → Nat → Int32 → zW → Option (Int32 × zW)
  | 0 => fun _ _ _ => none
  | n + 1 => b_Unpacker_unpacks_31 F (l_Unpacker_unpacks_31 F n)
theorem l_Unpacker_unpacks_31_ok (G : zG) (F : Nat) (n : Nat) :  ∀ (v0 : Nat) (v4 : Int32) (w : zW) (r : (Int32 × zW)), l_Unpacker_unpacks_31 F n v0 v4 w = some r → zV G m_Unpacker_unpacks 31 [(0, .ref (z0 G + v0)), (4, .int v4)] [] w 0 0 (oI r.1) r.2 := by
  induction n with
  | zero => intro v0 v4 w r h; exact nomatch (show (none : Option (Int32 × zW)) = some r from h)
  | succ n ih => intro v0 v4 w r h; exact b_Unpacker_unpacks_31_ok G F (l_Unpacker_unpacks_31 F n) ih v0 v4 w r h
def b_Unpacker_unpacks_0 (F : Nat) (v0 : Nat) (v1 : Nat) (v2 : Int32) (v3 : Int32) (w : zW) : Option (Int32 × zW) := (getR w v0 5 0).bind fun x1 => (zobj w x1 0).bind fun _ => (f_Row_empty F x1 w).bind fun r4 => (putR r4.2 v0 5 5 v1).bind fun w9 => (putI w9 v0 5 6 ((8 : Int32) * v2)).bind fun w17 => (putI w17 v0 5 7 ((8 : Int32) * v3)).bind fun w25 => l_Unpacker_unpacks_31 F F v0 (0 : Int32) w25
set_option maxRecDepth 100000 in
set_option maxHeartbeats 4000000 in
theorem b_Unpacker_unpacks_0_ok (G : zG) (F : Nat) (v0 : Nat) (v1 : Nat) (v2 : Int32) (v3 : Int32) (w : zW) (r : (Int32 × zW)) (h : b_Unpacker_unpacks_0 F v0 v1 v2 v3 w = some r) : zV G m_Unpacker_unpacks 0 [(0, .ref (z0 G + v0)), (1, .ref (z0 G + v1)), (2, .int v2), (3, .int v3)] [] w 0 0 (oI r.1) r.2 := by
  unfold b_Unpacker_unpacks_0 at h
  refine V_aload_n (i := 0) d_Unpacker_unpacks_0 rfl 0 rfl ?_
  obtain ⟨x1, e1, h⟩ := ob h
  refine V_getR (ci := 5) (k := 0) d_Unpacker_unpacks_1 e1 rfl (by decide) in_Unpacker k106 ?_
  obtain ⟨_, eo4, h⟩ := ob h
  obtain ⟨r4, e4, h⟩ := ob h
  refine V_call (v := none) (st := []) (inv_V (N := m_Row_empty) (As := []) (ci := 0) d_Unpacker_unpacks_4 eo4 rfl k471 k288 k289 kc_Row_empty y_Row_empty) ⟨Or.inl kc_Row_empty, k2, by decide, by decide⟩ (Nat.le_of_ble_eq_true rfl) (by decide) (by decide) (c_Row_empty G F x1 w r4 e4) ?_
  refine V_aload_n (i := 0) d_Unpacker_unpacks_7 rfl 0 rfl ?_
  refine V_aload_n (i := 1) d_Unpacker_unpacks_8 rfl 1 rfl ?_
  obtain ⟨w9, e9, h⟩ := ob h
  refine V_putR (ci := 5) (k := 5) t_Unpacker d_Unpacker_unpacks_9 e9 rfl (by decide) in_Unpacker k111 ty_Unpacker nm_Unpacker (Or.inl rfl) (Or.inl ⟨_, rfl⟩) ?_
  refine V_aload_n (i := 0) d_Unpacker_unpacks_12 rfl 0 rfl ?_
  refine V_bipush (v := 8) d_Unpacker_unpacks_13 (by decide) ?_
  refine V_iload_n (i := 2) d_Unpacker_unpacks_15 rfl 2 rfl ?_
  refine V_imul d_Unpacker_unpacks_16 ?_
  obtain ⟨w17, e17, h⟩ := ob h
  refine V_putI (ci := 5) (k := 6) t_Unpacker d_Unpacker_unpacks_17 e17 rfl (by decide) in_Unpacker k112 ty_Unpacker nm_Unpacker rfl (Or.inl rfl) ?_
  refine V_aload_n (i := 0) d_Unpacker_unpacks_20 rfl 0 rfl ?_
  refine V_bipush (v := 8) d_Unpacker_unpacks_21 (by decide) ?_
  refine V_iload_n (i := 3) d_Unpacker_unpacks_23 rfl 3 rfl ?_
  refine V_imul d_Unpacker_unpacks_24 ?_
  obtain ⟨w25, e25, h⟩ := ob h
  refine V_putI (ci := 5) (k := 7) t_Unpacker d_Unpacker_unpacks_25 e25 rfl (by decide) in_Unpacker k113 ty_Unpacker nm_Unpacker rfl (Or.inl rfl) ?_
  refine V_iconst (v := 0) d_Unpacker_unpacks_28 (by decide) ?_
  refine V_istore (i := 4) d_Unpacker_unpacks_29 (by decide) rfl ?_
  refine V_lv [1, 0] rfl ?_
  exact l_Unpacker_unpacks_31_ok G F F v0 (0 : Int32) w25 _ h
def f_Unpacker_unpacks (F : Nat) (v0 : Nat) (v1 : Nat) (v2 : Int32) (v3 : Int32) (w : zW) : Option (Int32 × zW) := b_Unpacker_unpacks_0 F v0 v1 v2 v3 w
theorem c_Unpacker_unpacks (G : zG) (F : Nat) (v0 : Nat) (v1 : Nat) (v2 : Int32) (v3 : Int32) (w : zW) (r : (Int32 × zW)) (h : f_Unpacker_unpacks F v0 v1 v2 v3 w = some r) : zCT G m_Unpacker_unpacks [.ref (z0 G + v0), .ref (z0 G + v1), .int v2, .int v3] w (oI r.1) r.2 := zCT.ofV (by decide +kernel) (Or.inl ⟨kc_Unpacker_unpacks, rfl⟩) (Nat.le_of_ble_eq_true rfl) (b_Unpacker_unpacks_0_ok G F v0 v1 v2 v3 w r h)

/-! ZipArray.unpack()I -/
def m_Zip_unpack : zM := (⟨R_Zip, "unpack", "()I"⟩, prog_1_method_9_code, 1, (some .int), [], { frames := 6, cells := 1, slots := 6, locals := 106 })
theorem k19 : Cond.initialized R_AE ∈ zTb := tb_at 19 (by decide +kernel) rfl
theorem k467 : Cond.methodLink R_Zip 111 (mY m_Unpacker_unpacks) ∈ zTb := tb_at 467 (by decide +kernel) rfl
theorem k468 : Cond.instanceMethod (mY m_Unpacker_unpacks) ∈ zTb := tb_at 468 (by decide +kernel) rfl
theorem k469 : Cond.selects R_Unpacker (mY m_Unpacker_unpacks) (mY m_Unpacker_unpacks) ∈ zTb := tb_at 469 (by decide +kernel) rfl
theorem k715 : Cond.classLink R_Zip 115 R_AE ∈ zTb := tb_at 715 (by decide +kernel) rfl
theorem k716 : Cond.instantiable R_AE 6 ∈ zTb := tb_at 716 (by decide +kernel) rfl
theorem k724 : Cond.methodLink R_Zip 117 (Bundle.init0 R_AE) ∈ zTb := tb_at 724 (by decide +kernel) rfl
theorem kc_Zip_unpack : Cond.code (mY m_Zip_unpack) (mC m_Zip_unpack) (mL m_Zip_unpack) (mT m_Zip_unpack) ∈ zTb := tb_at 714 (by decide +kernel) rfl
theorem y_Zip_unpack : (mY m_Zip_unpack).cls ≠ "java/lang/invoke/MethodHandle" ∧ (mY m_Zip_unpack).cls ≠ "java/lang/invoke/VarHandle" ∧ (parseMethodDescriptor (mY m_Zip_unpack).desc).map (fun d => d.parameters.length) = some 0 := by decide +kernel
theorem d_Zip_unpack_0 : decode (mC m_Zip_unpack) 0 = .ok (.aload_n 0, 1) := by decide +kernel
theorem d_Zip_unpack_1 : decode (mC m_Zip_unpack) 1 = .ok (.getfield 39, 3) := by decide +kernel
theorem d_Zip_unpack_4 : decode (mC m_Zip_unpack) 4 = .ok (.aload_n 0, 1) := by decide +kernel
theorem d_Zip_unpack_5 : decode (mC m_Zip_unpack) 5 = .ok (.getfield 14, 3) := by decide +kernel
theorem d_Zip_unpack_8 : decode (mC m_Zip_unpack) 8 = .ok (.iconst 0, 1) := by decide +kernel
theorem d_Zip_unpack_9 : decode (mC m_Zip_unpack) 9 = .ok (.aload_n 0, 1) := by decide +kernel
theorem d_Zip_unpack_10 : decode (mC m_Zip_unpack) 10 = .ok (.getfield 14, 3) := by decide +kernel
theorem d_Zip_unpack_13 : decode (mC m_Zip_unpack) 13 = .ok (.getfield 64, 3) := by decide +kernel
theorem d_Zip_unpack_16 : decode (mC m_Zip_unpack) 16 = .ok (.invokevirtual 111, 3) := by decide +kernel
theorem d_Zip_unpack_19 : decode (mC m_Zip_unpack) 19 = .ok (.ifCond .ne 11, 3) := by decide +kernel
theorem d_Zip_unpack_22 : decode (mC m_Zip_unpack) 22 = .ok (.new 115, 3) := by decide +kernel
theorem d_Zip_unpack_25 : decode (mC m_Zip_unpack) 25 = .ok (.dup, 1) := by decide +kernel
theorem d_Zip_unpack_26 : decode (mC m_Zip_unpack) 26 = .ok (.invokespecial 117, 3) := by decide +kernel
theorem d_Zip_unpack_29 : decode (mC m_Zip_unpack) 29 = .ok (.athrow, 1) := by decide +kernel
theorem d_Zip_unpack_30 : decode (mC m_Zip_unpack) 30 = .ok (.aload_n 0, 1) := by decide +kernel
theorem d_Zip_unpack_31 : decode (mC m_Zip_unpack) 31 = .ok (.getfield 14, 3) := by decide +kernel
theorem d_Zip_unpack_34 : decode (mC m_Zip_unpack) 34 = .ok (.aload_n 0, 1) := by decide +kernel
theorem d_Zip_unpack_35 : decode (mC m_Zip_unpack) 35 = .ok (.getfield 24, 3) := by decide +kernel
theorem d_Zip_unpack_38 : decode (mC m_Zip_unpack) 38 = .ok (.invokevirtual 108, 3) := by decide +kernel
theorem d_Zip_unpack_41 : decode (mC m_Zip_unpack) 41 = .ok (.aload_n 0, 1) := by decide +kernel
theorem d_Zip_unpack_42 : decode (mC m_Zip_unpack) 42 = .ok (.getfield 14, 3) := by decide +kernel
theorem d_Zip_unpack_45 : decode (mC m_Zip_unpack) 45 = .ok (.getfield 64, 3) := by decide +kernel
theorem d_Zip_unpack_48 : decode (mC m_Zip_unpack) 48 = .ok (.ireturn, 1) := by decide +kernel
def b_Zip_unpack_0 (F : Nat) (v0 : Nat) (w : zW) : Option ((Int32 ⊕ Nat) × zW) := (getR w v0 8 5).bind fun x1 => (getR w v0 8 0).bind fun x5 => (getR w v0 8 0).bind fun x10 => (getI w x10 0 1).bind fun x13 => (zobj w x1 5).bind fun _ => (f_Unpacker_unpacks F x1 x5 (0 : Int32) x13 w).bind fun r16 => if r16.1 = 0 then (some (.inr r16.2.length, r16.2 ++ [.inr (.inr (.inr (13, [])))])) else ((getR r16.2 v0 8 0).bind fun x31 => (getR r16.2 v0 8 3).bind fun x35 => (zobj r16.2 x31 0).bind fun _ => (f_Row_become F x31 x35 r16.2).bind fun r38 => (getR r38.2 v0 8 0).bind fun x42 => (getI r38.2 x42 0 1).bind fun x45 => some ((.inl x45), r38.2))
set_option maxRecDepth 100000 in
set_option maxHeartbeats 4000000 in
theorem b_Zip_unpack_0_ok (G : zG) (F : Nat) (v0 : Nat) (w : zW) (r : ((Int32 ⊕ Nat) × zW)) (h : b_Zip_unpack_0 F v0 w = some r) : zV G m_Zip_unpack 0 [(0, .ref (z0 G + v0))] [] w 0 0 (oIT (z0 G) r.1) r.2 := by
  unfold b_Zip_unpack_0 at h
  refine V_aload_n (i := 0) d_Zip_unpack_0 rfl 0 rfl ?_
  obtain ⟨x1, e1, h⟩ := ob h
  refine V_getR (ci := 8) (k := 5) d_Zip_unpack_1 e1 rfl (by decide) in_Zip k260 ?_
  refine V_aload_n (i := 0) d_Zip_unpack_4 rfl 0 rfl ?_
  obtain ⟨x5, e5, h⟩ := ob h
  refine V_getR (ci := 8) (k := 0) d_Zip_unpack_5 e5 rfl (by decide) in_Zip k255 ?_
  refine V_iconst (v := 0) d_Zip_unpack_8 (by decide) ?_
  refine V_aload_n (i := 0) d_Zip_unpack_9 rfl 0 rfl ?_
  obtain ⟨x10, e10, h⟩ := ob h
  refine V_getR (ci := 8) (k := 0) d_Zip_unpack_10 e10 rfl (by decide) in_Zip k255 ?_
  obtain ⟨x13, e13, h⟩ := ob h
  refine V_getI (ci := 0) (k := 1) d_Zip_unpack_13 e13 rfl (by decide) in_Row k42 ?_
  obtain ⟨_, eo16, h⟩ := ob h
  obtain ⟨r16, e16, h⟩ := ob h
  refine V_call (v := some (.int r16.1)) (st := []) (inv_V (N := m_Unpacker_unpacks) (As := [.ref (z0 G + x5), .int (0 : Int32), .int x13]) (ci := 5) d_Zip_unpack_16 eo16 rfl k467 k468 k469 kc_Unpacker_unpacks y_Unpacker_unpacks) ⟨Or.inl kc_Unpacker_unpacks, k4, by decide, by decide⟩ (Nat.le_of_ble_eq_true rfl) (by decide) (by decide) (c_Unpacker_unpacks G F x1 x5 (0 : Int32) x13 w r16 e16) ?_
  refine V_if_ne (tgt := 30) d_Zip_unpack_19 (by decide) (fun c19 => ?_) (fun c19 => ?_)
  · rw [if_neg c19] at h
    refine V_aload_n (i := 0) d_Zip_unpack_30 rfl 0 rfl ?_
    obtain ⟨x31, e31, h⟩ := ob h
    refine V_getR (ci := 8) (k := 0) d_Zip_unpack_31 e31 rfl (by decide) in_Zip k255 ?_
    refine V_aload_n (i := 0) d_Zip_unpack_34 rfl 0 rfl ?_
    obtain ⟨x35, e35, h⟩ := ob h
    refine V_getR (ci := 8) (k := 3) d_Zip_unpack_35 e35 rfl (by decide) in_Zip k258 ?_
    obtain ⟨_, eo38, h⟩ := ob h
    obtain ⟨r38, e38, h⟩ := ob h
    refine V_call (v := none) (st := []) (inv_V (N := m_Row_become) (As := [.ref (z0 G + x35)]) (ci := 0) d_Zip_unpack_38 eo38 rfl k346 k347 k348 kc_Row_become y_Row_become) ⟨Or.inl kc_Row_become, k2, by decide, by decide⟩ (Nat.le_of_ble_eq_true rfl) (by decide) (by decide) (c_Row_become G F x31 x35 r16.2 r38 e38) ?_
    refine V_aload_n (i := 0) d_Zip_unpack_41 rfl 0 rfl ?_
    obtain ⟨x42, e42, h⟩ := ob h
    refine V_getR (ci := 8) (k := 0) d_Zip_unpack_42 e42 rfl (by decide) in_Zip k255 ?_
    obtain ⟨x45, e45, h⟩ := ob h
    refine V_getI (ci := 0) (k := 1) d_Zip_unpack_45 e45 rfl (by decide) in_Row k42 ?_
    obtain rfl := Option.some.inj h
    exact V_iret rfl (by decide) (by decide) d_Zip_unpack_48
  · rw [if_pos c19] at h
    obtain rfl := Option.some.inj h
    exact V_throw (ci := 13) (X := R_AE) d_Zip_unpack_22 d_Zip_unpack_25 d_Zip_unpack_26 d_Zip_unpack_29 rfl (by decide +kernel) k715 k716 k19 (at_AE k724) (by decide) (by decide) (Nat.le_of_ble_eq_true rfl) (by decide) (by decide)
def f_Zip_unpack (F : Nat) (v0 : Nat) (w : zW) : Option ((Int32 ⊕ Nat) × zW) := b_Zip_unpack_0 F v0 w
theorem c_Zip_unpack (G : zG) (F : Nat) (v0 : Nat) (w : zW) (r : ((Int32 ⊕ Nat) × zW)) (h : f_Zip_unpack F v0 w = some r) : zCT G m_Zip_unpack [.ref (z0 G + v0)] w (oIT (z0 G) r.1) r.2 := zCT.ofV (by decide +kernel) (Or.inl ⟨kc_Zip_unpack, rfl⟩) (Nat.le_of_ble_eq_true rfl) (b_Zip_unpack_0_ok G F v0 w r h)

/-! ZipArray$Writer.begin(LZipArray$Row;I)V -/
def m_Writer_begin : zM := (⟨R_Writer, "begin", "(LZipArray$Row;I)V"⟩, prog_9_method_2_code, 3, none, [], { frames := 2, cells := 0, slots := 0, locals := 51 })
theorem k312 : Cond.methodLink R_Writer 15 (mY m_Row_empty) ∈ zTb := tb_at 312 (by decide +kernel) rfl
theorem k313 : Cond.methodLink R_Writer 20 (mY m_Row_appendPart) ∈ zTb := tb_at 313 (by decide +kernel) rfl
theorem kc_Writer_begin : Cond.code (mY m_Writer_begin) (mC m_Writer_begin) (mL m_Writer_begin) (mT m_Writer_begin) ∈ zTb := tb_at 311 (by decide +kernel) rfl
theorem y_Writer_begin : (mY m_Writer_begin).cls ≠ "java/lang/invoke/MethodHandle" ∧ (mY m_Writer_begin).cls ≠ "java/lang/invoke/VarHandle" ∧ (parseMethodDescriptor (mY m_Writer_begin).desc).map (fun d => d.parameters.length) = some 2 := by decide +kernel
theorem d_Writer_begin_0 : decode (mC m_Writer_begin) 0 = .ok (.aload_n 0, 1) := by decide +kernel
theorem d_Writer_begin_1 : decode (mC m_Writer_begin) 1 = .ok (.getfield 9, 3) := by decide +kernel
theorem d_Writer_begin_4 : decode (mC m_Writer_begin) 4 = .ok (.invokevirtual 15, 3) := by decide +kernel
theorem d_Writer_begin_7 : decode (mC m_Writer_begin) 7 = .ok (.aload_n 0, 1) := by decide +kernel
theorem d_Writer_begin_8 : decode (mC m_Writer_begin) 8 = .ok (.getfield 9, 3) := by decide +kernel
theorem d_Writer_begin_11 : decode (mC m_Writer_begin) 11 = .ok (.aload_n 1, 1) := by decide +kernel
theorem d_Writer_begin_12 : decode (mC m_Writer_begin) 12 = .ok (.iconst 0, 1) := by decide +kernel
theorem d_Writer_begin_13 : decode (mC m_Writer_begin) 13 = .ok (.iload_n 2, 1) := by decide +kernel
theorem d_Writer_begin_14 : decode (mC m_Writer_begin) 14 = .ok (.invokevirtual 20, 3) := by decide +kernel
theorem d_Writer_begin_17 : decode (mC m_Writer_begin) 17 = .ok (.return_, 1) := by decide +kernel
def b_Writer_begin_0 (F : Nat) (v0 : Nat) (v1 : Nat) (v2 : Int32) (w : zW) : Option (Unit × zW) := (getR w v0 7 0).bind fun x1 => (zobj w x1 0).bind fun _ => (f_Row_empty F x1 w).bind fun r4 => (getR r4.2 v0 7 0).bind fun x8 => (zobj r4.2 x8 0).bind fun _ => (f_Row_appendPart F x8 v1 (0 : Int32) v2 r4.2).bind fun r14 => some ((), r14.2)
set_option maxRecDepth 100000 in
set_option maxHeartbeats 4000000 in
theorem b_Writer_begin_0_ok (G : zG) (F : Nat) (v0 : Nat) (v1 : Nat) (v2 : Int32) (w : zW) (r : (Unit × zW)) (h : b_Writer_begin_0 F v0 v1 v2 w = some r) : zV G m_Writer_begin 0 [(0, .ref (z0 G + v0)), (1, .ref (z0 G + v1)), (2, .int v2)] [] w 0 0 (oV r.1) r.2 := by
  unfold b_Writer_begin_0 at h
  refine V_aload_n (i := 0) d_Writer_begin_0 rfl 0 rfl ?_
  obtain ⟨x1, e1, h⟩ := ob h
  refine V_getR (ci := 7) (k := 0) d_Writer_begin_1 e1 rfl (by decide) in_Writer k244 ?_
  obtain ⟨_, eo4, h⟩ := ob h
  obtain ⟨r4, e4, h⟩ := ob h
  refine V_call (v := none) (st := []) (inv_V (N := m_Row_empty) (As := []) (ci := 0) d_Writer_begin_4 eo4 rfl k312 k288 k289 kc_Row_empty y_Row_empty) ⟨Or.inl kc_Row_empty, k2, by decide, by decide⟩ (Nat.le_of_ble_eq_true rfl) (by decide) (by decide) (c_Row_empty G F x1 w r4 e4) ?_
  refine V_aload_n (i := 0) d_Writer_begin_7 rfl 0 rfl ?_
  obtain ⟨x8, e8, h⟩ := ob h
  refine V_getR (ci := 7) (k := 0) d_Writer_begin_8 e8 rfl (by decide) in_Writer k244 ?_
  refine V_aload_n (i := 1) d_Writer_begin_11 rfl 1 rfl ?_
  refine V_iconst (v := 0) d_Writer_begin_12 (by decide) ?_
  refine V_iload_n (i := 2) d_Writer_begin_13 rfl 2 rfl ?_
  obtain ⟨_, eo14, h⟩ := ob h
  obtain ⟨r14, e14, h⟩ := ob h
  refine V_call (v := none) (st := []) (inv_V (N := m_Row_appendPart) (As := [.ref (z0 G + v1), .int (0 : Int32), .int v2]) (ci := 0) d_Writer_begin_14 eo14 rfl k313 k314 k315 kc_Row_appendPart y_Row_appendPart) ⟨Or.inl kc_Row_appendPart, k2, by decide, by decide⟩ (Nat.le_of_ble_eq_true rfl) (by decide) (by decide) (c_Row_appendPart G F x8 v1 (0 : Int32) v2 r4.2 r14 e14) ?_
  obtain rfl := Option.some.inj h
  exact V_vret rfl (by decide) (by decide) d_Writer_begin_17
def f_Writer_begin (F : Nat) (v0 : Nat) (v1 : Nat) (v2 : Int32) (w : zW) : Option (Unit × zW) := b_Writer_begin_0 F v0 v1 v2 w
theorem c_Writer_begin (G : zG) (F : Nat) (v0 : Nat) (v1 : Nat) (v2 : Int32) (w : zW) (r : (Unit × zW)) (h : f_Writer_begin F v0 v1 v2 w = some r) : zCT G m_Writer_begin [.ref (z0 G + v0), .ref (z0 G + v1), .int v2] w (oV r.1) r.2 := zCT.ofV (by decide +kernel) (Or.inl ⟨kc_Writer_begin, rfl⟩) (Nat.le_of_ble_eq_true rfl) (b_Writer_begin_0_ok G F v0 v1 v2 w r h)

/-! ZipArray$Row.appendNumber(JI)V -/
def m_Row_appendNumber : zM := (⟨R_Row, "appendNumber", "(JI)V"⟩, prog_7_method_7_code, 5, none, [], { frames := 1, cells := 0, slots := 0, locals := 21 })
theorem kc_Row_appendNumber : Cond.code (mY m_Row_appendNumber) (mC m_Row_appendNumber) (mL m_Row_appendNumber) (mT m_Row_appendNumber) ∈ zTb := tb_at 336 (by decide +kernel) rfl
theorem y_Row_appendNumber : (mY m_Row_appendNumber).cls ≠ "java/lang/invoke/MethodHandle" ∧ (mY m_Row_appendNumber).cls ≠ "java/lang/invoke/VarHandle" ∧ (parseMethodDescriptor (mY m_Row_appendNumber).desc).map (fun d => d.parameters.length) = some 2 := by decide +kernel
theorem d_Row_appendNumber_0 : decode (mC m_Row_appendNumber) 0 = .ok (.iconst 0, 1) := by decide +kernel
theorem d_Row_appendNumber_1 : decode (mC m_Row_appendNumber) 1 = .ok (.istore 4, 2) := by decide +kernel
theorem d_Row_appendNumber_3 : decode (mC m_Row_appendNumber) 3 = .ok (.iload 4, 2) := by decide +kernel
theorem d_Row_appendNumber_5 : decode (mC m_Row_appendNumber) 5 = .ok (.iload_n 3, 1) := by decide +kernel
theorem d_Row_appendNumber_6 : decode (mC m_Row_appendNumber) 6 = .ok (.if_icmp .ge 25, 3) := by decide +kernel
theorem d_Row_appendNumber_9 : decode (mC m_Row_appendNumber) 9 = .ok (.aload_n 0, 1) := by decide +kernel
theorem d_Row_appendNumber_10 : decode (mC m_Row_appendNumber) 10 = .ok (.lload_n 1, 1) := by decide +kernel
theorem d_Row_appendNumber_11 : decode (mC m_Row_appendNumber) 11 = .ok (.bipush 8, 2) := by decide +kernel
theorem d_Row_appendNumber_13 : decode (mC m_Row_appendNumber) 13 = .ok (.iload 4, 2) := by decide +kernel
theorem d_Row_appendNumber_15 : decode (mC m_Row_appendNumber) 15 = .ok (.imul, 1) := by decide +kernel
theorem d_Row_appendNumber_16 : decode (mC m_Row_appendNumber) 16 = .ok (.lushr, 1) := by decide +kernel
theorem d_Row_appendNumber_17 : decode (mC m_Row_appendNumber) 17 = .ok (.l2i, 1) := by decide +kernel
theorem d_Row_appendNumber_18 : decode (mC m_Row_appendNumber) 18 = .ok (.sipush 255, 3) := by decide +kernel
theorem d_Row_appendNumber_21 : decode (mC m_Row_appendNumber) 21 = .ok (.iand, 1) := by decide +kernel
theorem d_Row_appendNumber_22 : decode (mC m_Row_appendNumber) 22 = .ok (.invokevirtual 25, 3) := by decide +kernel
theorem d_Row_appendNumber_25 : decode (mC m_Row_appendNumber) 25 = .ok (.iinc 4 1, 3) := by decide +kernel
theorem d_Row_appendNumber_28 : decode (mC m_Row_appendNumber) 28 = .ok (.goto (-25), 3) := by decide +kernel
theorem d_Row_appendNumber_31 : decode (mC m_Row_appendNumber) 31 = .ok (.return_, 1) := by decide +kernel
def b_Row_appendNumber_3 (F : Nat) (K3 : Nat → Int64 → Int32 → Int32 → zW → Option (Unit × zW)) (v0 : Nat) (v1 : Int64) (v3 : Int32) (v4 : Int32) (w : zW) : Option (Unit × zW) := if v3 ≤ v4 then (some ((), w)) else ((zobj w v0 0).bind fun _ => (f_Row_append F v0 ((v1.toUInt64 >>> (((8 : Int32) * v4).toInt64.toUInt64 &&& Int64.toUInt64 63)).toInt64.toInt32 &&& (255 : Int32)) w).bind fun r22 => K3 v0 v1 v3 (v4 + (1 : Int32)) r22.2)
set_option maxRecDepth 100000 in
set_option maxHeartbeats 4000000 in
theorem b_Row_appendNumber_3_ok (G : zG) (F : Nat) (K3 : Nat → Int64 → Int32 → Int32 → zW → Option (Unit × zW)) (hK3 : ∀ (v0 : Nat) (v1 : Int64) (v3 : Int32) (v4 : Int32) (w : zW) (r : (Unit × zW)), K3 v0 v1 v3 v4 w = some r → zV G m_Row_appendNumber 3 [(0, .ref (z0 G + v0)), (1, .long v1), (3, .int v3), (4, .int v4)] [] w 0 0 (oV r.1) r.2) (v0 : Nat) (v1 : Int64) (v3 : Int32) (v4 : Int32) (w : zW) (r : (Unit × zW)) (h : b_Row_appendNumber_3 F K3 v0 v1 v3 v4 w = some r) : zV G m_Row_appendNumber 3 [(0, .ref (z0 G + v0)), (1, .long v1), (3, .int v3), (4, .int v4)] [] w 0 0 (oV r.1) r.2 := by
  unfold b_Row_appendNumber_3 at h
  refine V_iload (i := 4) d_Row_appendNumber_3 3 rfl ?_
  refine V_iload_n (i := 3) d_Row_appendNumber_5 rfl 2 rfl ?_
  refine V_icmp_ge (tgt := 31) d_Row_appendNumber_6 (by decide) (fun c6 => ?_) (fun c6 => ?_)
  · rw [if_pos c6] at h
    obtain rfl := Option.some.inj h
    exact V_vret rfl (by decide) (by decide) d_Row_appendNumber_31
  · rw [if_neg c6] at h
    refine V_aload_n (i := 0) d_Row_appendNumber_9 rfl 0 rfl ?_
    refine V_lload_n (i := 1) d_Row_appendNumber_10 rfl 1 rfl ?_
    refine V_bipush (v := 8) d_Row_appendNumber_11 (by decide) ?_
    refine V_iload (i := 4) d_Row_appendNumber_13 3 rfl ?_
    refine V_imul d_Row_appendNumber_15 ?_
    refine V_lushr d_Row_appendNumber_16 ?_
    refine V_l2i d_Row_appendNumber_17 ?_
    refine V_sipush (v := 255) d_Row_appendNumber_18 (by decide) ?_
    refine V_iand d_Row_appendNumber_21 ?_
    obtain ⟨_, eo22, h⟩ := ob h
    obtain ⟨r22, e22, h⟩ := ob h
    refine V_call (v := none) (st := []) (inv_V (N := m_Row_append) (As := [.int ((v1.toUInt64 >>> (((8 : Int32) * v4).toInt64.toUInt64 &&& Int64.toUInt64 63)).toInt64.toInt32 &&& (255 : Int32))]) (ci := 0) d_Row_appendNumber_22 eo22 rfl k337 k338 k339 kc_Row_append y_Row_append) ⟨Or.inl kc_Row_append, k2, by decide, by decide⟩ (Nat.le_of_ble_eq_true rfl) (by decide) (by decide) (c_Row_append G F v0 ((v1.toUInt64 >>> (((8 : Int32) * v4).toInt64.toUInt64 &&& Int64.toUInt64 63)).toInt64.toInt32 &&& (255 : Int32)) w r22 e22) ?_
    refine V_iinc (i := 4) (v := (v4 + (1 : Int32))) d_Row_appendNumber_25 3 rfl (congrArg (fun y => v4 + y) (by decide : Int32.ofInt (1) = (1 : Int32))) (by decide) rfl ?_
    refine V_goto (tgt := 3) d_Row_appendNumber_28 (by decide) ?_
    refine V_lv [1, 2, 3, 0] rfl ?_
    exact hK3 v0 v1 v3 (v4 + (1 : Int32)) r22.2 _ h
def l_Row_appendNumber_3 (F : Nat) : Nat → Nat → Int64 → Int32 → Int32 → zW → Option (Unit × zW)
  | 0 => fun _ _ _ _ _ => none
  | n + 1 => b_Row_appendNumber_3 F (l_Row_appendNumber_3 F n)
theorem l_Row_appendNumber_3_ok (G : zG) (F : Nat) (n : Nat) :  ∀ (v0 : Nat) (v1 : Int64) (v3 : Int32) (v4 : Int32) (w : zW) (r : (Unit × zW)), l_Row_appendNumber_3 F n v0 v1 v3 v4 w = some r → zV G m_Row_appendNumber 3 [(0, .ref (z0 G + v0)), (1, .long v1), (3, .int v3), (4, .int v4)] [] w 0 0 (oV r.1) r.2 := by
  induction n with
  | zero => intro v0 v1 v3 v4 w r h; exact nomatch (show (none : Option (Unit × zW)) = some r from h)
  | succ n ih => intro v0 v1 v3 v4 w r h; exact b_Row_appendNumber_3_ok G F (l_Row_appendNumber_3 F n) ih v0 v1 v3 v4 w r h
def b_Row_appendNumber_0 (F : Nat) (v0 : Nat) (v1 : Int64) (v3 : Int32) (w : zW) : Option (Unit × zW) := l_Row_appendNumber_3 F F v0 v1 v3 (0 : Int32) w
set_option maxRecDepth 100000 in
set_option maxHeartbeats 4000000 in
theorem b_Row_appendNumber_0_ok (G : zG) (F : Nat) (v0 : Nat) (v1 : Int64) (v3 : Int32) (w : zW) (r : (Unit × zW)) (h : b_Row_appendNumber_0 F v0 v1 v3 w = some r) : zV G m_Row_appendNumber 0 [(0, .ref (z0 G + v0)), (1, .long v1), (3, .int v3)] [] w 0 0 (oV r.1) r.2 := by
  unfold b_Row_appendNumber_0 at h
  refine V_iconst (v := 0) d_Row_appendNumber_0 (by decide) ?_
  refine V_istore (i := 4) d_Row_appendNumber_1 (by decide) rfl ?_
  refine V_lv [1, 2, 3, 0] rfl ?_
  exact l_Row_appendNumber_3_ok G F F v0 v1 v3 (0 : Int32) w _ h
def f_Row_appendNumber (F : Nat) (v0 : Nat) (v1 : Int64) (v3 : Int32) (w : zW) : Option (Unit × zW) := b_Row_appendNumber_0 F v0 v1 v3 w
theorem c_Row_appendNumber (G : zG) (F : Nat) (v0 : Nat) (v1 : Int64) (v3 : Int32) (w : zW) (r : (Unit × zW)) (h : f_Row_appendNumber F v0 v1 v3 w = some r) : zCT G m_Row_appendNumber [.ref (z0 G + v0), .long v1, .int v3] w (oV r.1) r.2 := zCT.ofV (by decide +kernel) (Or.inl ⟨kc_Row_appendNumber, rfl⟩) (Nat.le_of_ble_eq_true rfl) (b_Row_appendNumber_0_ok G F v0 v1 v3 w r h)

/-! ZipArray$Writer.writeWideEnd(III)V -/
def m_Writer_writeWideEnd : zM := (⟨R_Writer, "writeWideEnd", "(III)V"⟩, prog_9_method_9_code, 5, none, [], { frames := 2, cells := 0, slots := 0, locals := 45 })
theorem k45 : Cond.fieldLink R_Writer 74 (T_Row 1).1 (T_Row 1).2.1 (T_Row 1).2.2.1 ∈ zTb := tb_at 45 (by decide +kernel) rfl
theorem k332 : Cond.constantLong R_Writer 96 101075792 ∈ zTb := tb_at 332 (by decide +kernel) rfl
theorem k333 : Cond.methodLink R_Writer 36 (mY m_Row_appendNumber) ∈ zTb := tb_at 333 (by decide +kernel) rfl
theorem k334 : Cond.instanceMethod (mY m_Row_appendNumber) ∈ zTb := tb_at 334 (by decide +kernel) rfl
theorem k335 : Cond.selects R_Row (mY m_Row_appendNumber) (mY m_Row_appendNumber) ∈ zTb := tb_at 335 (by decide +kernel) rfl
theorem k341 : Cond.constantLong R_Writer 98 44 ∈ zTb := tb_at 341 (by decide +kernel) rfl
theorem k342 : Cond.constantLong R_Writer 100 117853008 ∈ zTb := tb_at 342 (by decide +kernel) rfl
theorem kc_Writer_writeWideEnd : Cond.code (mY m_Writer_writeWideEnd) (mC m_Writer_writeWideEnd) (mL m_Writer_writeWideEnd) (mT m_Writer_writeWideEnd) ∈ zTb := tb_at 331 (by decide +kernel) rfl
theorem y_Writer_writeWideEnd : (mY m_Writer_writeWideEnd).cls ≠ "java/lang/invoke/MethodHandle" ∧ (mY m_Writer_writeWideEnd).cls ≠ "java/lang/invoke/VarHandle" ∧ (parseMethodDescriptor (mY m_Writer_writeWideEnd).desc).map (fun d => d.parameters.length) = some 3 := by decide +kernel
theorem sel_Writer_writeWideEnd : Cond.selects R_Writer (mY m_Writer_writeWideEnd) (mY m_Writer_writeWideEnd) ∈ zTb := sel_at (y := mY m_Writer_writeWideEnd) (n := 2) 0 (by decide +kernel)
theorem d_Writer_writeWideEnd_0 : decode (mC m_Writer_writeWideEnd) 0 = .ok (.aload_n 0, 1) := by decide +kernel
theorem d_Writer_writeWideEnd_1 : decode (mC m_Writer_writeWideEnd) 1 = .ok (.getfield 9, 3) := by decide +kernel
theorem d_Writer_writeWideEnd_4 : decode (mC m_Writer_writeWideEnd) 4 = .ok (.getfield 74, 3) := by decide +kernel
theorem d_Writer_writeWideEnd_7 : decode (mC m_Writer_writeWideEnd) 7 = .ok (.istore 4, 2) := by decide +kernel
theorem d_Writer_writeWideEnd_9 : decode (mC m_Writer_writeWideEnd) 9 = .ok (.aload_n 0, 1) := by decide +kernel
theorem d_Writer_writeWideEnd_10 : decode (mC m_Writer_writeWideEnd) 10 = .ok (.getfield 9, 3) := by decide +kernel
theorem d_Writer_writeWideEnd_13 : decode (mC m_Writer_writeWideEnd) 13 = .ok (.ldc2_w 96, 3) := by decide +kernel
theorem d_Writer_writeWideEnd_16 : decode (mC m_Writer_writeWideEnd) 16 = .ok (.iconst 4, 1) := by decide +kernel
theorem d_Writer_writeWideEnd_17 : decode (mC m_Writer_writeWideEnd) 17 = .ok (.invokevirtual 36, 3) := by decide +kernel
theorem d_Writer_writeWideEnd_20 : decode (mC m_Writer_writeWideEnd) 20 = .ok (.aload_n 0, 1) := by decide +kernel
theorem d_Writer_writeWideEnd_21 : decode (mC m_Writer_writeWideEnd) 21 = .ok (.getfield 9, 3) := by decide +kernel
theorem d_Writer_writeWideEnd_24 : decode (mC m_Writer_writeWideEnd) 24 = .ok (.ldc2_w 98, 3) := by decide +kernel
theorem d_Writer_writeWideEnd_27 : decode (mC m_Writer_writeWideEnd) 27 = .ok (.bipush 8, 2) := by decide +kernel
theorem d_Writer_writeWideEnd_29 : decode (mC m_Writer_writeWideEnd) 29 = .ok (.invokevirtual 36, 3) := by decide +kernel
theorem d_Writer_writeWideEnd_32 : decode (mC m_Writer_writeWideEnd) 32 = .ok (.aload_n 0, 1) := by decide +kernel
theorem d_Writer_writeWideEnd_33 : decode (mC m_Writer_writeWideEnd) 33 = .ok (.getfield 9, 3) := by decide +kernel
theorem d_Writer_writeWideEnd_36 : decode (mC m_Writer_writeWideEnd) 36 = .ok (.lconst 0, 1) := by decide +kernel
theorem d_Writer_writeWideEnd_37 : decode (mC m_Writer_writeWideEnd) 37 = .ok (.iconst 4, 1) := by decide +kernel
theorem d_Writer_writeWideEnd_38 : decode (mC m_Writer_writeWideEnd) 38 = .ok (.invokevirtual 36, 3) := by decide +kernel
theorem d_Writer_writeWideEnd_41 : decode (mC m_Writer_writeWideEnd) 41 = .ok (.aload_n 0, 1) := by decide +kernel
theorem d_Writer_writeWideEnd_42 : decode (mC m_Writer_writeWideEnd) 42 = .ok (.getfield 9, 3) := by decide +kernel
theorem d_Writer_writeWideEnd_45 : decode (mC m_Writer_writeWideEnd) 45 = .ok (.lconst 0, 1) := by decide +kernel
theorem d_Writer_writeWideEnd_46 : decode (mC m_Writer_writeWideEnd) 46 = .ok (.bipush 8, 2) := by decide +kernel
theorem d_Writer_writeWideEnd_48 : decode (mC m_Writer_writeWideEnd) 48 = .ok (.invokevirtual 36, 3) := by decide +kernel
theorem d_Writer_writeWideEnd_51 : decode (mC m_Writer_writeWideEnd) 51 = .ok (.aload_n 0, 1) := by decide +kernel
theorem d_Writer_writeWideEnd_52 : decode (mC m_Writer_writeWideEnd) 52 = .ok (.getfield 9, 3) := by decide +kernel
theorem d_Writer_writeWideEnd_55 : decode (mC m_Writer_writeWideEnd) 55 = .ok (.iload_n 1, 1) := by decide +kernel
theorem d_Writer_writeWideEnd_56 : decode (mC m_Writer_writeWideEnd) 56 = .ok (.i2l, 1) := by decide +kernel
theorem d_Writer_writeWideEnd_57 : decode (mC m_Writer_writeWideEnd) 57 = .ok (.bipush 8, 2) := by decide +kernel
theorem d_Writer_writeWideEnd_59 : decode (mC m_Writer_writeWideEnd) 59 = .ok (.invokevirtual 36, 3) := by decide +kernel
theorem d_Writer_writeWideEnd_62 : decode (mC m_Writer_writeWideEnd) 62 = .ok (.aload_n 0, 1) := by decide +kernel
theorem d_Writer_writeWideEnd_63 : decode (mC m_Writer_writeWideEnd) 63 = .ok (.getfield 9, 3) := by decide +kernel
theorem d_Writer_writeWideEnd_66 : decode (mC m_Writer_writeWideEnd) 66 = .ok (.iload_n 1, 1) := by decide +kernel
theorem d_Writer_writeWideEnd_67 : decode (mC m_Writer_writeWideEnd) 67 = .ok (.i2l, 1) := by decide +kernel
theorem d_Writer_writeWideEnd_68 : decode (mC m_Writer_writeWideEnd) 68 = .ok (.bipush 8, 2) := by decide +kernel
theorem d_Writer_writeWideEnd_70 : decode (mC m_Writer_writeWideEnd) 70 = .ok (.invokevirtual 36, 3) := by decide +kernel
theorem d_Writer_writeWideEnd_73 : decode (mC m_Writer_writeWideEnd) 73 = .ok (.aload_n 0, 1) := by decide +kernel
theorem d_Writer_writeWideEnd_74 : decode (mC m_Writer_writeWideEnd) 74 = .ok (.getfield 9, 3) := by decide +kernel
theorem d_Writer_writeWideEnd_77 : decode (mC m_Writer_writeWideEnd) 77 = .ok (.iload_n 3, 1) := by decide +kernel
theorem d_Writer_writeWideEnd_78 : decode (mC m_Writer_writeWideEnd) 78 = .ok (.i2l, 1) := by decide +kernel
theorem d_Writer_writeWideEnd_79 : decode (mC m_Writer_writeWideEnd) 79 = .ok (.bipush 8, 2) := by decide +kernel
theorem d_Writer_writeWideEnd_81 : decode (mC m_Writer_writeWideEnd) 81 = .ok (.invokevirtual 36, 3) := by decide +kernel
theorem d_Writer_writeWideEnd_84 : decode (mC m_Writer_writeWideEnd) 84 = .ok (.aload_n 0, 1) := by decide +kernel
theorem d_Writer_writeWideEnd_85 : decode (mC m_Writer_writeWideEnd) 85 = .ok (.getfield 9, 3) := by decide +kernel
theorem d_Writer_writeWideEnd_88 : decode (mC m_Writer_writeWideEnd) 88 = .ok (.iload_n 2, 1) := by decide +kernel
theorem d_Writer_writeWideEnd_89 : decode (mC m_Writer_writeWideEnd) 89 = .ok (.i2l, 1) := by decide +kernel
theorem d_Writer_writeWideEnd_90 : decode (mC m_Writer_writeWideEnd) 90 = .ok (.bipush 8, 2) := by decide +kernel
theorem d_Writer_writeWideEnd_92 : decode (mC m_Writer_writeWideEnd) 92 = .ok (.invokevirtual 36, 3) := by decide +kernel
theorem d_Writer_writeWideEnd_95 : decode (mC m_Writer_writeWideEnd) 95 = .ok (.aload_n 0, 1) := by decide +kernel
theorem d_Writer_writeWideEnd_96 : decode (mC m_Writer_writeWideEnd) 96 = .ok (.getfield 9, 3) := by decide +kernel
theorem d_Writer_writeWideEnd_99 : decode (mC m_Writer_writeWideEnd) 99 = .ok (.ldc2_w 100, 3) := by decide +kernel
theorem d_Writer_writeWideEnd_102 : decode (mC m_Writer_writeWideEnd) 102 = .ok (.iconst 4, 1) := by decide +kernel
theorem d_Writer_writeWideEnd_103 : decode (mC m_Writer_writeWideEnd) 103 = .ok (.invokevirtual 36, 3) := by decide +kernel
theorem d_Writer_writeWideEnd_106 : decode (mC m_Writer_writeWideEnd) 106 = .ok (.aload_n 0, 1) := by decide +kernel
theorem d_Writer_writeWideEnd_107 : decode (mC m_Writer_writeWideEnd) 107 = .ok (.getfield 9, 3) := by decide +kernel
theorem d_Writer_writeWideEnd_110 : decode (mC m_Writer_writeWideEnd) 110 = .ok (.lconst 0, 1) := by decide +kernel
theorem d_Writer_writeWideEnd_111 : decode (mC m_Writer_writeWideEnd) 111 = .ok (.iconst 4, 1) := by decide +kernel
theorem d_Writer_writeWideEnd_112 : decode (mC m_Writer_writeWideEnd) 112 = .ok (.invokevirtual 36, 3) := by decide +kernel
theorem d_Writer_writeWideEnd_115 : decode (mC m_Writer_writeWideEnd) 115 = .ok (.aload_n 0, 1) := by decide +kernel
theorem d_Writer_writeWideEnd_116 : decode (mC m_Writer_writeWideEnd) 116 = .ok (.getfield 9, 3) := by decide +kernel
theorem d_Writer_writeWideEnd_119 : decode (mC m_Writer_writeWideEnd) 119 = .ok (.iload 4, 2) := by decide +kernel
theorem d_Writer_writeWideEnd_121 : decode (mC m_Writer_writeWideEnd) 121 = .ok (.i2l, 1) := by decide +kernel
theorem d_Writer_writeWideEnd_122 : decode (mC m_Writer_writeWideEnd) 122 = .ok (.bipush 8, 2) := by decide +kernel
theorem d_Writer_writeWideEnd_124 : decode (mC m_Writer_writeWideEnd) 124 = .ok (.invokevirtual 36, 3) := by decide +kernel
theorem d_Writer_writeWideEnd_127 : decode (mC m_Writer_writeWideEnd) 127 = .ok (.aload_n 0, 1) := by decide +kernel
theorem d_Writer_writeWideEnd_128 : decode (mC m_Writer_writeWideEnd) 128 = .ok (.getfield 9, 3) := by decide +kernel
theorem d_Writer_writeWideEnd_131 : decode (mC m_Writer_writeWideEnd) 131 = .ok (.lconst 0, 1) := by decide +kernel
theorem d_Writer_writeWideEnd_132 : decode (mC m_Writer_writeWideEnd) 132 = .ok (.iconst 4, 1) := by decide +kernel
theorem d_Writer_writeWideEnd_133 : decode (mC m_Writer_writeWideEnd) 133 = .ok (.invokevirtual 36, 3) := by decide +kernel
theorem d_Writer_writeWideEnd_136 : decode (mC m_Writer_writeWideEnd) 136 = .ok (.return_, 1) := by decide +kernel
def b_Writer_writeWideEnd_0 (F : Nat) (v0 : Nat) (v1 : Int32) (v2 : Int32) (v3 : Int32) (w : zW) : Option (Unit × zW) := (getR w v0 7 0).bind fun x1 => (getI w x1 0 1).bind fun x4 => (getR w v0 7 0).bind fun x10 => (zobj w x10 0).bind fun _ => (f_Row_appendNumber F x10 (101075792 : Int64) (4 : Int32) w).bind fun r17 => (getR r17.2 v0 7 0).bind fun x21 => (zobj r17.2 x21 0).bind fun _ => (f_Row_appendNumber F x21 (44 : Int64) (8 : Int32) r17.2).bind fun r29 => (getR r29.2 v0 7 0).bind fun x33 => (zobj r29.2 x33 0).bind fun _ => (f_Row_appendNumber F x33 (0 : Int64) (4 : Int32) r29.2).bind fun r38 => (getR r38.2 v0 7 0).bind fun x42 => (zobj r38.2 x42 0).bind fun _ => (f_Row_appendNumber F x42 (0 : Int64) (8 : Int32) r38.2).bind fun r48 => (getR r48.2 v0 7 0).bind fun x52 => (zobj r48.2 x52 0).bind fun _ => (f_Row_appendNumber F x52 v1.toInt64 (8 : Int32) r48.2).bind fun r59 => (getR r59.2 v0 7 0).bind fun x63 => (zobj r59.2 x63 0).bind fun _ => (f_Row_appendNumber F x63 v1.toInt64 (8 : Int32) r59.2).bind fun r70 => (getR r70.2 v0 7 0).bind fun x74 => (zobj r70.2 x74 0).bind fun _ => (f_Row_appendNumber F x74 v3.toInt64 (8 : Int32) r70.2).bind fun r81 => (getR r81.2 v0 7 0).bind fun x85 => (zobj r81.2 x85 0).bind fun _ => (f_Row_appendNumber F x85 v2.toInt64 (8 : Int32) r81.2).bind fun r92 => (getR r92.2 v0 7 0).bind fun x96 => (zobj r92.2 x96 0).bind fun _ => (f_Row_appendNumber F x96 (117853008 : Int64) (4 : Int32) r92.2).bind fun r103 => (getR r103.2 v0 7 0).bind fun x107 => (zobj r103.2 x107 0).bind fun _ => (f_Row_appendNumber F x107 (0 : Int64) (4 : Int32) r103.2).bind fun r112 => (getR r112.2 v0 7 0).bind fun x116 => (zobj r112.2 x116 0).bind fun _ => (f_Row_appendNumber F x116 x4.toInt64 (8 : Int32) r112.2).bind fun r124 => (getR r124.2 v0 7 0).bind fun x128 => (zobj r124.2 x128 0).bind fun _ => (f_Row_appendNumber F x128 (0 : Int64) (4 : Int32) r124.2).bind fun r133 => some ((), r133.2)
set_option maxRecDepth 100000 in
set_option maxHeartbeats 4000000 in
theorem b_Writer_writeWideEnd_0_ok (G : zG) (F : Nat) (v0 : Nat) (v1 : Int32) (v2 : Int32) (v3 : Int32) (w : zW) (r : (Unit × zW)) (h : b_Writer_writeWideEnd_0 F v0 v1 v2 v3 w = some r) : zV G m_Writer_writeWideEnd 0 [(0, .ref (z0 G + v0)), (1, .int v1), (2, .int v2), (3, .int v3)] [] w 0 0 (oV r.1) r.2 := by
  unfold b_Writer_writeWideEnd_0 at h
  refine V_aload_n (i := 0) d_Writer_writeWideEnd_0 rfl 0 rfl ?_
  obtain ⟨x1, e1, h⟩ := ob h
  refine V_getR (ci := 7) (k := 0) d_Writer_writeWideEnd_1 e1 rfl (by decide) in_Writer k244 ?_
  obtain ⟨x4, e4, h⟩ := ob h
  refine V_getI (ci := 0) (k := 1) d_Writer_writeWideEnd_4 e4 rfl (by decide) in_Row k45 ?_
  refine V_istore (i := 4) d_Writer_writeWideEnd_7 (by decide) rfl ?_
  refine V_aload_n (i := 0) d_Writer_writeWideEnd_9 rfl 1 rfl ?_
  obtain ⟨x10, e10, h⟩ := ob h
  refine V_getR (ci := 7) (k := 0) d_Writer_writeWideEnd_10 e10 rfl (by decide) in_Writer k244 ?_
  refine V_ldc2 (v := 101075792) d_Writer_writeWideEnd_13 k332 ?_
  refine V_iconst (v := 4) d_Writer_writeWideEnd_16 (by decide) ?_
  obtain ⟨_, eo17, h⟩ := ob h
  obtain ⟨r17, e17, h⟩ := ob h
  refine V_call (v := none) (st := []) (inv_V (N := m_Row_appendNumber) (As := [.long (101075792 : Int64), .int (4 : Int32)]) (ci := 0) d_Writer_writeWideEnd_17 eo17 rfl k333 k334 k335 kc_Row_appendNumber y_Row_appendNumber) ⟨Or.inl kc_Row_appendNumber, k2, by decide, by decide⟩ (Nat.le_of_ble_eq_true rfl) (by decide) (by decide) (c_Row_appendNumber G F x10 (101075792 : Int64) (4 : Int32) w r17 e17) ?_
  refine V_aload_n (i := 0) d_Writer_writeWideEnd_20 rfl 1 rfl ?_
  obtain ⟨x21, e21, h⟩ := ob h
  refine V_getR (ci := 7) (k := 0) d_Writer_writeWideEnd_21 e21 rfl (by decide) in_Writer k244 ?_
  refine V_ldc2 (v := 44) d_Writer_writeWideEnd_24 k341 ?_
  refine V_bipush (v := 8) d_Writer_writeWideEnd_27 (by decide) ?_
  obtain ⟨_, eo29, h⟩ := ob h
  obtain ⟨r29, e29, h⟩ := ob h
  refine V_call (v := none) (st := []) (inv_V (N := m_Row_appendNumber) (As := [.long (44 : Int64), .int (8 : Int32)]) (ci := 0) d_Writer_writeWideEnd_29 eo29 rfl k333 k334 k335 kc_Row_appendNumber y_Row_appendNumber) ⟨Or.inl kc_Row_appendNumber, k2, by decide, by decide⟩ (Nat.le_of_ble_eq_true rfl) (by decide) (by decide) (c_Row_appendNumber G F x21 (44 : Int64) (8 : Int32) r17.2 r29 e29) ?_
  refine V_aload_n (i := 0) d_Writer_writeWideEnd_32 rfl 1 rfl ?_
  obtain ⟨x33, e33, h⟩ := ob h
  refine V_getR (ci := 7) (k := 0) d_Writer_writeWideEnd_33 e33 rfl (by decide) in_Writer k244 ?_
  refine V_lconst (v := 0) d_Writer_writeWideEnd_36 (by decide) ?_
  refine V_iconst (v := 4) d_Writer_writeWideEnd_37 (by decide) ?_
  obtain ⟨_, eo38, h⟩ := ob h
  obtain ⟨r38, e38, h⟩ := ob h
  refine V_call (v := none) (st := []) (inv_V (N := m_Row_appendNumber) (As := [.long (0 : Int64), .int (4 : Int32)]) (ci := 0) d_Writer_writeWideEnd_38 eo38 rfl k333 k334 k335 kc_Row_appendNumber y_Row_appendNumber) ⟨Or.inl kc_Row_appendNumber, k2, by decide, by decide⟩ (Nat.le_of_ble_eq_true rfl) (by decide) (by decide) (c_Row_appendNumber G F x33 (0 : Int64) (4 : Int32) r29.2 r38 e38) ?_
  refine V_aload_n (i := 0) d_Writer_writeWideEnd_41 rfl 1 rfl ?_
  obtain ⟨x42, e42, h⟩ := ob h
  refine V_getR (ci := 7) (k := 0) d_Writer_writeWideEnd_42 e42 rfl (by decide) in_Writer k244 ?_
  refine V_lconst (v := 0) d_Writer_writeWideEnd_45 (by decide) ?_
  refine V_bipush (v := 8) d_Writer_writeWideEnd_46 (by decide) ?_
  obtain ⟨_, eo48, h⟩ := ob h
  obtain ⟨r48, e48, h⟩ := ob h
  refine V_call (v := none) (st := []) (inv_V (N := m_Row_appendNumber) (As := [.long (0 : Int64), .int (8 : Int32)]) (ci := 0) d_Writer_writeWideEnd_48 eo48 rfl k333 k334 k335 kc_Row_appendNumber y_Row_appendNumber) ⟨Or.inl kc_Row_appendNumber, k2, by decide, by decide⟩ (Nat.le_of_ble_eq_true rfl) (by decide) (by decide) (c_Row_appendNumber G F x42 (0 : Int64) (8 : Int32) r38.2 r48 e48) ?_
  refine V_aload_n (i := 0) d_Writer_writeWideEnd_51 rfl 1 rfl ?_
  obtain ⟨x52, e52, h⟩ := ob h
  refine V_getR (ci := 7) (k := 0) d_Writer_writeWideEnd_52 e52 rfl (by decide) in_Writer k244 ?_
  refine V_iload_n (i := 1) d_Writer_writeWideEnd_55 rfl 2 rfl ?_
  refine V_i2l d_Writer_writeWideEnd_56 ?_
  refine V_bipush (v := 8) d_Writer_writeWideEnd_57 (by decide) ?_
  obtain ⟨_, eo59, h⟩ := ob h
  obtain ⟨r59, e59, h⟩ := ob h
  refine V_call (v := none) (st := []) (inv_V (N := m_Row_appendNumber) (As := [.long v1.toInt64, .int (8 : Int32)]) (ci := 0) d_Writer_writeWideEnd_59 eo59 rfl k333 k334 k335 kc_Row_appendNumber y_Row_appendNumber) ⟨Or.inl kc_Row_appendNumber, k2, by decide, by decide⟩ (Nat.le_of_ble_eq_true rfl) (by decide) (by decide) (c_Row_appendNumber G F x52 v1.toInt64 (8 : Int32) r48.2 r59 e59) ?_
  refine V_aload_n (i := 0) d_Writer_writeWideEnd_62 rfl 1 rfl ?_
  obtain ⟨x63, e63, h⟩ := ob h
  refine V_getR (ci := 7) (k := 0) d_Writer_writeWideEnd_63 e63 rfl (by decide) in_Writer k244 ?_
  refine V_iload_n (i := 1) d_Writer_writeWideEnd_66 rfl 2 rfl ?_
  refine V_i2l d_Writer_writeWideEnd_67 ?_
  refine V_bipush (v := 8) d_Writer_writeWideEnd_68 (by decide) ?_
  obtain ⟨_, eo70, h⟩ := ob h
  obtain ⟨r70, e70, h⟩ := ob h
  refine V_call (v := none) (st := []) (inv_V (N := m_Row_appendNumber) (As := [.long v1.toInt64, .int (8 : Int32)]) (ci := 0) d_Writer_writeWideEnd_70 eo70 rfl k333 k334 k335 kc_Row_appendNumber y_Row_appendNumber) ⟨Or.inl kc_Row_appendNumber, k2, by decide, by decide⟩ (Nat.le_of_ble_eq_true rfl) (by decide) (by decide) (c_Row_appendNumber G F x63 v1.toInt64 (8 : Int32) r59.2 r70 e70) ?_
  refine V_aload_n (i := 0) d_Writer_writeWideEnd_73 rfl 1 rfl ?_
  obtain ⟨x74, e74, h⟩ := ob h
  refine V_getR (ci := 7) (k := 0) d_Writer_writeWideEnd_74 e74 rfl (by decide) in_Writer k244 ?_
  refine V_iload_n (i := 3) d_Writer_writeWideEnd_77 rfl 4 rfl ?_
  refine V_i2l d_Writer_writeWideEnd_78 ?_
  refine V_bipush (v := 8) d_Writer_writeWideEnd_79 (by decide) ?_
  obtain ⟨_, eo81, h⟩ := ob h
  obtain ⟨r81, e81, h⟩ := ob h
  refine V_call (v := none) (st := []) (inv_V (N := m_Row_appendNumber) (As := [.long v3.toInt64, .int (8 : Int32)]) (ci := 0) d_Writer_writeWideEnd_81 eo81 rfl k333 k334 k335 kc_Row_appendNumber y_Row_appendNumber) ⟨Or.inl kc_Row_appendNumber, k2, by decide, by decide⟩ (Nat.le_of_ble_eq_true rfl) (by decide) (by decide) (c_Row_appendNumber G F x74 v3.toInt64 (8 : Int32) r70.2 r81 e81) ?_
  refine V_aload_n (i := 0) d_Writer_writeWideEnd_84 rfl 1 rfl ?_
  obtain ⟨x85, e85, h⟩ := ob h
  refine V_getR (ci := 7) (k := 0) d_Writer_writeWideEnd_85 e85 rfl (by decide) in_Writer k244 ?_
  refine V_iload_n (i := 2) d_Writer_writeWideEnd_88 rfl 3 rfl ?_
  refine V_i2l d_Writer_writeWideEnd_89 ?_
  refine V_bipush (v := 8) d_Writer_writeWideEnd_90 (by decide) ?_
  obtain ⟨_, eo92, h⟩ := ob h
  obtain ⟨r92, e92, h⟩ := ob h
  refine V_call (v := none) (st := []) (inv_V (N := m_Row_appendNumber) (As := [.long v2.toInt64, .int (8 : Int32)]) (ci := 0) d_Writer_writeWideEnd_92 eo92 rfl k333 k334 k335 kc_Row_appendNumber y_Row_appendNumber) ⟨Or.inl kc_Row_appendNumber, k2, by decide, by decide⟩ (Nat.le_of_ble_eq_true rfl) (by decide) (by decide) (c_Row_appendNumber G F x85 v2.toInt64 (8 : Int32) r81.2 r92 e92) ?_
  refine V_aload_n (i := 0) d_Writer_writeWideEnd_95 rfl 1 rfl ?_
  obtain ⟨x96, e96, h⟩ := ob h
  refine V_getR (ci := 7) (k := 0) d_Writer_writeWideEnd_96 e96 rfl (by decide) in_Writer k244 ?_
  refine V_ldc2 (v := 117853008) d_Writer_writeWideEnd_99 k342 ?_
  refine V_iconst (v := 4) d_Writer_writeWideEnd_102 (by decide) ?_
  obtain ⟨_, eo103, h⟩ := ob h
  obtain ⟨r103, e103, h⟩ := ob h
  refine V_call (v := none) (st := []) (inv_V (N := m_Row_appendNumber) (As := [.long (117853008 : Int64), .int (4 : Int32)]) (ci := 0) d_Writer_writeWideEnd_103 eo103 rfl k333 k334 k335 kc_Row_appendNumber y_Row_appendNumber) ⟨Or.inl kc_Row_appendNumber, k2, by decide, by decide⟩ (Nat.le_of_ble_eq_true rfl) (by decide) (by decide) (c_Row_appendNumber G F x96 (117853008 : Int64) (4 : Int32) r92.2 r103 e103) ?_
  refine V_aload_n (i := 0) d_Writer_writeWideEnd_106 rfl 1 rfl ?_
  obtain ⟨x107, e107, h⟩ := ob h
  refine V_getR (ci := 7) (k := 0) d_Writer_writeWideEnd_107 e107 rfl (by decide) in_Writer k244 ?_
  refine V_lconst (v := 0) d_Writer_writeWideEnd_110 (by decide) ?_
  refine V_iconst (v := 4) d_Writer_writeWideEnd_111 (by decide) ?_
  obtain ⟨_, eo112, h⟩ := ob h
  obtain ⟨r112, e112, h⟩ := ob h
  refine V_call (v := none) (st := []) (inv_V (N := m_Row_appendNumber) (As := [.long (0 : Int64), .int (4 : Int32)]) (ci := 0) d_Writer_writeWideEnd_112 eo112 rfl k333 k334 k335 kc_Row_appendNumber y_Row_appendNumber) ⟨Or.inl kc_Row_appendNumber, k2, by decide, by decide⟩ (Nat.le_of_ble_eq_true rfl) (by decide) (by decide) (c_Row_appendNumber G F x107 (0 : Int64) (4 : Int32) r103.2 r112 e112) ?_
  refine V_aload_n (i := 0) d_Writer_writeWideEnd_115 rfl 1 rfl ?_
  obtain ⟨x116, e116, h⟩ := ob h
  refine V_getR (ci := 7) (k := 0) d_Writer_writeWideEnd_116 e116 rfl (by decide) in_Writer k244 ?_
  refine V_iload (i := 4) d_Writer_writeWideEnd_119 0 rfl ?_
  refine V_i2l d_Writer_writeWideEnd_121 ?_
  refine V_bipush (v := 8) d_Writer_writeWideEnd_122 (by decide) ?_
  obtain ⟨_, eo124, h⟩ := ob h
  obtain ⟨r124, e124, h⟩ := ob h
  refine V_call (v := none) (st := []) (inv_V (N := m_Row_appendNumber) (As := [.long x4.toInt64, .int (8 : Int32)]) (ci := 0) d_Writer_writeWideEnd_124 eo124 rfl k333 k334 k335 kc_Row_appendNumber y_Row_appendNumber) ⟨Or.inl kc_Row_appendNumber, k2, by decide, by decide⟩ (Nat.le_of_ble_eq_true rfl) (by decide) (by decide) (c_Row_appendNumber G F x116 x4.toInt64 (8 : Int32) r112.2 r124 e124) ?_
  refine V_aload_n (i := 0) d_Writer_writeWideEnd_127 rfl 1 rfl ?_
  obtain ⟨x128, e128, h⟩ := ob h
  refine V_getR (ci := 7) (k := 0) d_Writer_writeWideEnd_128 e128 rfl (by decide) in_Writer k244 ?_
  refine V_lconst (v := 0) d_Writer_writeWideEnd_131 (by decide) ?_
  refine V_iconst (v := 4) d_Writer_writeWideEnd_132 (by decide) ?_
  obtain ⟨_, eo133, h⟩ := ob h
  obtain ⟨r133, e133, h⟩ := ob h
  refine V_call (v := none) (st := []) (inv_V (N := m_Row_appendNumber) (As := [.long (0 : Int64), .int (4 : Int32)]) (ci := 0) d_Writer_writeWideEnd_133 eo133 rfl k333 k334 k335 kc_Row_appendNumber y_Row_appendNumber) ⟨Or.inl kc_Row_appendNumber, k2, by decide, by decide⟩ (Nat.le_of_ble_eq_true rfl) (by decide) (by decide) (c_Row_appendNumber G F x128 (0 : Int64) (4 : Int32) r124.2 r133 e133) ?_
  obtain rfl := Option.some.inj h
  exact V_vret rfl (by decide) (by decide) d_Writer_writeWideEnd_136
def f_Writer_writeWideEnd (F : Nat) (v0 : Nat) (v1 : Int32) (v2 : Int32) (v3 : Int32) (w : zW) : Option (Unit × zW) := b_Writer_writeWideEnd_0 F v0 v1 v2 v3 w
theorem c_Writer_writeWideEnd (G : zG) (F : Nat) (v0 : Nat) (v1 : Int32) (v2 : Int32) (v3 : Int32) (w : zW) (r : (Unit × zW)) (h : f_Writer_writeWideEnd F v0 v1 v2 v3 w = some r) : zCT G m_Writer_writeWideEnd [.ref (z0 G + v0), .int v1, .int v2, .int v3] w (oV r.1) r.2 := zCT.ofV (by decide +kernel) (Or.inl ⟨kc_Writer_writeWideEnd, rfl⟩) (Nat.le_of_ble_eq_true rfl) (b_Writer_writeWideEnd_0_ok G F v0 v1 v2 v3 w r h)

/-! ZipArray$Writer.writeEnd(III)V -/
def m_Writer_writeEnd : zM := (⟨R_Writer, "writeEnd", "(III)V"⟩, prog_9_method_8_code, 5, none, [], { frames := 3, cells := 0, slots := 0, locals := 69 })
theorem k246 : Cond.fieldLink R_Writer 24 (T_Writer 1).1 (T_Writer 1).2.1 (T_Writer 1).2.2.1 ∈ zTb := tb_at 246 (by decide +kernel) rfl
theorem k328 : Cond.methodLink R_Writer 88 (mY m_Writer_writeWideEnd) ∈ zTb := tb_at 328 (by decide +kernel) rfl
theorem k330 : Cond.instanceMethod (mY m_Writer_writeWideEnd) ∈ zTb := tb_at 330 (by decide +kernel) rfl
theorem k343 : Cond.constantLong R_Writer 92 101010256 ∈ zTb := tb_at 343 (by decide +kernel) rfl
theorem k344 : Cond.constantLong R_Writer 94 65535 ∈ zTb := tb_at 344 (by decide +kernel) rfl
theorem k345 : Cond.constantLong R_Writer 50 4294967295 ∈ zTb := tb_at 345 (by decide +kernel) rfl
theorem kc_Writer_writeEnd : Cond.code (mY m_Writer_writeEnd) (mC m_Writer_writeEnd) (mL m_Writer_writeEnd) (mT m_Writer_writeEnd) ∈ zTb := tb_at 327 (by decide +kernel) rfl
theorem y_Writer_writeEnd : (mY m_Writer_writeEnd).cls ≠ "java/lang/invoke/MethodHandle" ∧ (mY m_Writer_writeEnd).cls ≠ "java/lang/invoke/VarHandle" ∧ (parseMethodDescriptor (mY m_Writer_writeEnd).desc).map (fun d => d.parameters.length) = some 3 := by decide +kernel
theorem d_Writer_writeEnd_0 : decode (mC m_Writer_writeEnd) 0 = .ok (.aload_n 0, 1) := by decide +kernel
theorem d_Writer_writeEnd_1 : decode (mC m_Writer_writeEnd) 1 = .ok (.getfield 9, 3) := by decide +kernel
theorem d_Writer_writeEnd_4 : decode (mC m_Writer_writeEnd) 4 = .ok (.getfield 74, 3) := by decide +kernel
theorem d_Writer_writeEnd_7 : decode (mC m_Writer_writeEnd) 7 = .ok (.iload_n 2, 1) := by decide +kernel
theorem d_Writer_writeEnd_8 : decode (mC m_Writer_writeEnd) 8 = .ok (.isub, 1) := by decide +kernel
theorem d_Writer_writeEnd_9 : decode (mC m_Writer_writeEnd) 9 = .ok (.istore 4, 2) := by decide +kernel
theorem d_Writer_writeEnd_11 : decode (mC m_Writer_writeEnd) 11 = .ok (.aload_n 0, 1) := by decide +kernel
theorem d_Writer_writeEnd_12 : decode (mC m_Writer_writeEnd) 12 = .ok (.getfield 24, 3) := by decide +kernel
theorem d_Writer_writeEnd_15 : decode (mC m_Writer_writeEnd) 15 = .ok (.ifCond .eq 11, 3) := by decide +kernel
theorem d_Writer_writeEnd_18 : decode (mC m_Writer_writeEnd) 18 = .ok (.aload_n 0, 1) := by decide +kernel
theorem d_Writer_writeEnd_19 : decode (mC m_Writer_writeEnd) 19 = .ok (.iload_n 1, 1) := by decide +kernel
theorem d_Writer_writeEnd_20 : decode (mC m_Writer_writeEnd) 20 = .ok (.iload_n 2, 1) := by decide +kernel
theorem d_Writer_writeEnd_21 : decode (mC m_Writer_writeEnd) 21 = .ok (.iload 4, 2) := by decide +kernel
theorem d_Writer_writeEnd_23 : decode (mC m_Writer_writeEnd) 23 = .ok (.invokevirtual 88, 3) := by decide +kernel
theorem d_Writer_writeEnd_26 : decode (mC m_Writer_writeEnd) 26 = .ok (.aload_n 0, 1) := by decide +kernel
theorem d_Writer_writeEnd_27 : decode (mC m_Writer_writeEnd) 27 = .ok (.getfield 9, 3) := by decide +kernel
theorem d_Writer_writeEnd_30 : decode (mC m_Writer_writeEnd) 30 = .ok (.ldc2_w 92, 3) := by decide +kernel
theorem d_Writer_writeEnd_33 : decode (mC m_Writer_writeEnd) 33 = .ok (.iconst 4, 1) := by decide +kernel
theorem d_Writer_writeEnd_34 : decode (mC m_Writer_writeEnd) 34 = .ok (.invokevirtual 36, 3) := by decide +kernel
theorem d_Writer_writeEnd_37 : decode (mC m_Writer_writeEnd) 37 = .ok (.aload_n 0, 1) := by decide +kernel
theorem d_Writer_writeEnd_38 : decode (mC m_Writer_writeEnd) 38 = .ok (.getfield 9, 3) := by decide +kernel
theorem d_Writer_writeEnd_41 : decode (mC m_Writer_writeEnd) 41 = .ok (.lconst 0, 1) := by decide +kernel
theorem d_Writer_writeEnd_42 : decode (mC m_Writer_writeEnd) 42 = .ok (.iconst 4, 1) := by decide +kernel
theorem d_Writer_writeEnd_43 : decode (mC m_Writer_writeEnd) 43 = .ok (.invokevirtual 36, 3) := by decide +kernel
theorem d_Writer_writeEnd_46 : decode (mC m_Writer_writeEnd) 46 = .ok (.aload_n 0, 1) := by decide +kernel
theorem d_Writer_writeEnd_47 : decode (mC m_Writer_writeEnd) 47 = .ok (.getfield 9, 3) := by decide +kernel
theorem d_Writer_writeEnd_50 : decode (mC m_Writer_writeEnd) 50 = .ok (.aload_n 0, 1) := by decide +kernel
theorem d_Writer_writeEnd_51 : decode (mC m_Writer_writeEnd) 51 = .ok (.getfield 24, 3) := by decide +kernel
theorem d_Writer_writeEnd_54 : decode (mC m_Writer_writeEnd) 54 = .ok (.ifCond .eq 9, 3) := by decide +kernel
theorem d_Writer_writeEnd_57 : decode (mC m_Writer_writeEnd) 57 = .ok (.ldc2_w 94, 3) := by decide +kernel
theorem d_Writer_writeEnd_60 : decode (mC m_Writer_writeEnd) 60 = .ok (.goto 5, 3) := by decide +kernel
theorem d_Writer_writeEnd_63 : decode (mC m_Writer_writeEnd) 63 = .ok (.iload_n 1, 1) := by decide +kernel
theorem d_Writer_writeEnd_64 : decode (mC m_Writer_writeEnd) 64 = .ok (.i2l, 1) := by decide +kernel
theorem d_Writer_writeEnd_65 : decode (mC m_Writer_writeEnd) 65 = .ok (.iconst 2, 1) := by decide +kernel
theorem d_Writer_writeEnd_66 : decode (mC m_Writer_writeEnd) 66 = .ok (.invokevirtual 36, 3) := by decide +kernel
theorem d_Writer_writeEnd_69 : decode (mC m_Writer_writeEnd) 69 = .ok (.aload_n 0, 1) := by decide +kernel
theorem d_Writer_writeEnd_70 : decode (mC m_Writer_writeEnd) 70 = .ok (.getfield 9, 3) := by decide +kernel
theorem d_Writer_writeEnd_73 : decode (mC m_Writer_writeEnd) 73 = .ok (.aload_n 0, 1) := by decide +kernel
theorem d_Writer_writeEnd_74 : decode (mC m_Writer_writeEnd) 74 = .ok (.getfield 24, 3) := by decide +kernel
theorem d_Writer_writeEnd_77 : decode (mC m_Writer_writeEnd) 77 = .ok (.ifCond .eq 9, 3) := by decide +kernel
theorem d_Writer_writeEnd_80 : decode (mC m_Writer_writeEnd) 80 = .ok (.ldc2_w 94, 3) := by decide +kernel
theorem d_Writer_writeEnd_83 : decode (mC m_Writer_writeEnd) 83 = .ok (.goto 5, 3) := by decide +kernel
theorem d_Writer_writeEnd_86 : decode (mC m_Writer_writeEnd) 86 = .ok (.iload_n 1, 1) := by decide +kernel
theorem d_Writer_writeEnd_87 : decode (mC m_Writer_writeEnd) 87 = .ok (.i2l, 1) := by decide +kernel
theorem d_Writer_writeEnd_88 : decode (mC m_Writer_writeEnd) 88 = .ok (.iconst 2, 1) := by decide +kernel
theorem d_Writer_writeEnd_89 : decode (mC m_Writer_writeEnd) 89 = .ok (.invokevirtual 36, 3) := by decide +kernel
theorem d_Writer_writeEnd_92 : decode (mC m_Writer_writeEnd) 92 = .ok (.aload_n 0, 1) := by decide +kernel
theorem d_Writer_writeEnd_93 : decode (mC m_Writer_writeEnd) 93 = .ok (.getfield 9, 3) := by decide +kernel
theorem d_Writer_writeEnd_96 : decode (mC m_Writer_writeEnd) 96 = .ok (.aload_n 0, 1) := by decide +kernel
theorem d_Writer_writeEnd_97 : decode (mC m_Writer_writeEnd) 97 = .ok (.getfield 24, 3) := by decide +kernel
theorem d_Writer_writeEnd_100 : decode (mC m_Writer_writeEnd) 100 = .ok (.ifCond .eq 9, 3) := by decide +kernel
theorem d_Writer_writeEnd_103 : decode (mC m_Writer_writeEnd) 103 = .ok (.ldc2_w 50, 3) := by decide +kernel
theorem d_Writer_writeEnd_106 : decode (mC m_Writer_writeEnd) 106 = .ok (.goto 6, 3) := by decide +kernel
theorem d_Writer_writeEnd_109 : decode (mC m_Writer_writeEnd) 109 = .ok (.iload 4, 2) := by decide +kernel
theorem d_Writer_writeEnd_111 : decode (mC m_Writer_writeEnd) 111 = .ok (.i2l, 1) := by decide +kernel
theorem d_Writer_writeEnd_112 : decode (mC m_Writer_writeEnd) 112 = .ok (.iconst 4, 1) := by decide +kernel
theorem d_Writer_writeEnd_113 : decode (mC m_Writer_writeEnd) 113 = .ok (.invokevirtual 36, 3) := by decide +kernel
theorem d_Writer_writeEnd_116 : decode (mC m_Writer_writeEnd) 116 = .ok (.aload_n 0, 1) := by decide +kernel
theorem d_Writer_writeEnd_117 : decode (mC m_Writer_writeEnd) 117 = .ok (.getfield 9, 3) := by decide +kernel
theorem d_Writer_writeEnd_120 : decode (mC m_Writer_writeEnd) 120 = .ok (.aload_n 0, 1) := by decide +kernel
theorem d_Writer_writeEnd_121 : decode (mC m_Writer_writeEnd) 121 = .ok (.getfield 24, 3) := by decide +kernel
theorem d_Writer_writeEnd_124 : decode (mC m_Writer_writeEnd) 124 = .ok (.ifCond .eq 9, 3) := by decide +kernel
theorem d_Writer_writeEnd_127 : decode (mC m_Writer_writeEnd) 127 = .ok (.ldc2_w 50, 3) := by decide +kernel
theorem d_Writer_writeEnd_130 : decode (mC m_Writer_writeEnd) 130 = .ok (.goto 5, 3) := by decide +kernel
theorem d_Writer_writeEnd_133 : decode (mC m_Writer_writeEnd) 133 = .ok (.iload_n 2, 1) := by decide +kernel
theorem d_Writer_writeEnd_134 : decode (mC m_Writer_writeEnd) 134 = .ok (.i2l, 1) := by decide +kernel
theorem d_Writer_writeEnd_135 : decode (mC m_Writer_writeEnd) 135 = .ok (.iconst 4, 1) := by decide +kernel
theorem d_Writer_writeEnd_136 : decode (mC m_Writer_writeEnd) 136 = .ok (.invokevirtual 36, 3) := by decide +kernel
theorem d_Writer_writeEnd_139 : decode (mC m_Writer_writeEnd) 139 = .ok (.aload_n 0, 1) := by decide +kernel
theorem d_Writer_writeEnd_140 : decode (mC m_Writer_writeEnd) 140 = .ok (.getfield 9, 3) := by decide +kernel
theorem d_Writer_writeEnd_143 : decode (mC m_Writer_writeEnd) 143 = .ok (.iload_n 3, 1) := by decide +kernel
theorem d_Writer_writeEnd_144 : decode (mC m_Writer_writeEnd) 144 = .ok (.i2l, 1) := by decide +kernel
theorem d_Writer_writeEnd_145 : decode (mC m_Writer_writeEnd) 145 = .ok (.iconst 2, 1) := by decide +kernel
theorem d_Writer_writeEnd_146 : decode (mC m_Writer_writeEnd) 146 = .ok (.invokevirtual 36, 3) := by decide +kernel
theorem d_Writer_writeEnd_149 : decode (mC m_Writer_writeEnd) 149 = .ok (.return_, 1) := by decide +kernel
def b_Writer_writeEnd_135 (F : Nat) (v0 : Nat) (v3 : Int32) (s0 : Nat) (s1 : Int64) (w : zW) : Option (Unit × zW) := (zobj w s0 0).bind fun _ => (f_Row_appendNumber F s0 s1 (4 : Int32) w).bind fun r136 => (getR r136.2 v0 7 0).bind fun x140 => (zobj r136.2 x140 0).bind fun _ => (f_Row_appendNumber F x140 v3.toInt64 (2 : Int32) r136.2).bind fun r146 => some ((), r146.2)
set_option maxRecDepth 100000 in
set_option maxHeartbeats 4000000 in
theorem b_Writer_writeEnd_135_ok (G : zG) (F : Nat) (v0 : Nat) (v3 : Int32) (s0 : Nat) (s1 : Int64) (w : zW) (r : (Unit × zW)) (h : b_Writer_writeEnd_135 F v0 v3 s0 s1 w = some r) : zV G m_Writer_writeEnd 135 [(0, .ref (z0 G + v0)), (3, .int v3)] [.long s1, .ref (z0 G + s0)] w 0 0 (oV r.1) r.2 := by
  unfold b_Writer_writeEnd_135 at h
  refine V_iconst (v := 4) d_Writer_writeEnd_135 (by decide) ?_
  obtain ⟨_, eo136, h⟩ := ob h
  obtain ⟨r136, e136, h⟩ := ob h
  refine V_call (v := none) (st := []) (inv_V (N := m_Row_appendNumber) (As := [.long s1, .int (4 : Int32)]) (ci := 0) d_Writer_writeEnd_136 eo136 rfl k333 k334 k335 kc_Row_appendNumber y_Row_appendNumber) ⟨Or.inl kc_Row_appendNumber, k2, by decide, by decide⟩ (Nat.le_of_ble_eq_true rfl) (by decide) (by decide) (c_Row_appendNumber G F s0 s1 (4 : Int32) w r136 e136) ?_
  refine V_aload_n (i := 0) d_Writer_writeEnd_139 rfl 0 rfl ?_
  obtain ⟨x140, e140, h⟩ := ob h
  refine V_getR (ci := 7) (k := 0) d_Writer_writeEnd_140 e140 rfl (by decide) in_Writer k244 ?_
  refine V_iload_n (i := 3) d_Writer_writeEnd_143 rfl 1 rfl ?_
  refine V_i2l d_Writer_writeEnd_144 ?_
  refine V_iconst (v := 2) d_Writer_writeEnd_145 (by decide) ?_
  obtain ⟨_, eo146, h⟩ := ob h
  obtain ⟨r146, e146, h⟩ := ob h
  refine V_call (v := none) (st := []) (inv_V (N := m_Row_appendNumber) (As := [.long v3.toInt64, .int (2 : Int32)]) (ci := 0) d_Writer_writeEnd_146 eo146 rfl k333 k334 k335 kc_Row_appendNumber y_Row_appendNumber) ⟨Or.inl kc_Row_appendNumber, k2, by decide, by decide⟩ (Nat.le_of_ble_eq_true rfl) (by decide) (by decide) (c_Row_appendNumber G F x140 v3.toInt64 (2 : Int32) r136.2 r146 e146) ?_
  obtain rfl := Option.some.inj h
  exact V_vret rfl (by decide) (by decide) d_Writer_writeEnd_149
def b_Writer_writeEnd_112 (F : Nat) (v0 : Nat) (v2 : Int32) (v3 : Int32) (s0 : Nat) (s1 : Int64) (w : zW) : Option (Unit × zW) := (zobj w s0 0).bind fun _ => (f_Row_appendNumber F s0 s1 (4 : Int32) w).bind fun r113 => (getR r113.2 v0 7 0).bind fun x117 => (getI r113.2 v0 7 1).bind fun x121 => if x121 = 0 then (b_Writer_writeEnd_135 F v0 v3 x117 v2.toInt64 r113.2) else (b_Writer_writeEnd_135 F v0 v3 x117 (4294967295 : Int64) r113.2)
set_option maxRecDepth 100000 in
set_option maxHeartbeats 4000000 in
theorem b_Writer_writeEnd_112_ok (G : zG) (F : Nat) (v0 : Nat) (v2 : Int32) (v3 : Int32) (s0 : Nat) (s1 : Int64) (w : zW) (r : (Unit × zW)) (h : b_Writer_writeEnd_112 F v0 v2 v3 s0 s1 w = some r) : zV G m_Writer_writeEnd 112 [(0, .ref (z0 G + v0)), (2, .int v2), (3, .int v3)] [.long s1, .ref (z0 G + s0)] w 0 0 (oV r.1) r.2 := by
  unfold b_Writer_writeEnd_112 at h
  refine V_iconst (v := 4) d_Writer_writeEnd_112 (by decide) ?_
  obtain ⟨_, eo113, h⟩ := ob h
  obtain ⟨r113, e113, h⟩ := ob h
  refine V_call (v := none) (st := []) (inv_V (N := m_Row_appendNumber) (As := [.long s1, .int (4 : Int32)]) (ci := 0) d_Writer_writeEnd_113 eo113 rfl k333 k334 k335 kc_Row_appendNumber y_Row_appendNumber) ⟨Or.inl kc_Row_appendNumber, k2, by decide, by decide⟩ (Nat.le_of_ble_eq_true rfl) (by decide) (by decide) (c_Row_appendNumber G F s0 s1 (4 : Int32) w r113 e113) ?_
  refine V_aload_n (i := 0) d_Writer_writeEnd_116 rfl 0 rfl ?_
  obtain ⟨x117, e117, h⟩ := ob h
  refine V_getR (ci := 7) (k := 0) d_Writer_writeEnd_117 e117 rfl (by decide) in_Writer k244 ?_
  refine V_aload_n (i := 0) d_Writer_writeEnd_120 rfl 0 rfl ?_
  obtain ⟨x121, e121, h⟩ := ob h
  refine V_getI (ci := 7) (k := 1) d_Writer_writeEnd_121 e121 rfl (by decide) in_Writer k246 ?_
  refine V_if_eq (tgt := 133) d_Writer_writeEnd_124 (by decide) (fun c124 => ?_) (fun c124 => ?_)
  · rw [if_pos c124] at h
    refine V_iload_n (i := 2) d_Writer_writeEnd_133 rfl 1 rfl ?_
    refine V_i2l d_Writer_writeEnd_134 ?_
    refine V_lv [0, 2] rfl ?_
    exact b_Writer_writeEnd_135_ok G F v0 v3 x117 v2.toInt64 r113.2 _ h
  · rw [if_neg c124] at h
    refine V_ldc2 (v := 4294967295) d_Writer_writeEnd_127 k345 ?_
    refine V_goto (tgt := 135) d_Writer_writeEnd_130 (by decide) ?_
    refine V_lv [0, 2] rfl ?_
    exact b_Writer_writeEnd_135_ok G F v0 v3 x117 (4294967295 : Int64) r113.2 _ h
def b_Writer_writeEnd_88 (F : Nat) (v0 : Nat) (v2 : Int32) (v3 : Int32) (v4 : Int32) (s0 : Nat) (s1 : Int64) (w : zW) : Option (Unit × zW) := (zobj w s0 0).bind fun _ => (f_Row_appendNumber F s0 s1 (2 : Int32) w).bind fun r89 => (getR r89.2 v0 7 0).bind fun x93 => (getI r89.2 v0 7 1).bind fun x97 => if x97 = 0 then (b_Writer_writeEnd_112 F v0 v2 v3 x93 v4.toInt64 r89.2) else (b_Writer_writeEnd_112 F v0 v2 v3 x93 (4294967295 : Int64) r89.2)
set_option maxRecDepth 100000 in
set_option maxHeartbeats 4000000 in
theorem b_Writer_writeEnd_88_ok (G : zG) (F : Nat) (v0 : Nat) (v2 : Int32) (v3 : Int32) (v4 : Int32) (s0 : Nat) (s1 : Int64) (w : zW) (r : (Unit × zW)) (h : b_Writer_writeEnd_88 F v0 v2 v3 v4 s0 s1 w = some r) : zV G m_Writer_writeEnd 88 [(0, .ref (z0 G + v0)), (2, .int v2), (3, .int v3), (4, .int v4)] [.long s1, .ref (z0 G + s0)] w 0 0 (oV r.1) r.2 := by
  unfold b_Writer_writeEnd_88 at h
  refine V_iconst (v := 2) d_Writer_writeEnd_88 (by decide) ?_
  obtain ⟨_, eo89, h⟩ := ob h
  obtain ⟨r89, e89, h⟩ := ob h
  refine V_call (v := none) (st := []) (inv_V (N := m_Row_appendNumber) (As := [.long s1, .int (2 : Int32)]) (ci := 0) d_Writer_writeEnd_89 eo89 rfl k333 k334 k335 kc_Row_appendNumber y_Row_appendNumber) ⟨Or.inl kc_Row_appendNumber, k2, by decide, by decide⟩ (Nat.le_of_ble_eq_true rfl) (by decide) (by decide) (c_Row_appendNumber G F s0 s1 (2 : Int32) w r89 e89) ?_
  refine V_aload_n (i := 0) d_Writer_writeEnd_92 rfl 0 rfl ?_
  obtain ⟨x93, e93, h⟩ := ob h
  refine V_getR (ci := 7) (k := 0) d_Writer_writeEnd_93 e93 rfl (by decide) in_Writer k244 ?_
  refine V_aload_n (i := 0) d_Writer_writeEnd_96 rfl 0 rfl ?_
  obtain ⟨x97, e97, h⟩ := ob h
  refine V_getI (ci := 7) (k := 1) d_Writer_writeEnd_97 e97 rfl (by decide) in_Writer k246 ?_
  refine V_if_eq (tgt := 109) d_Writer_writeEnd_100 (by decide) (fun c100 => ?_) (fun c100 => ?_)
  · rw [if_pos c100] at h
    refine V_iload (i := 4) d_Writer_writeEnd_109 3 rfl ?_
    refine V_i2l d_Writer_writeEnd_111 ?_
    refine V_lv [0, 1, 2] rfl ?_
    exact b_Writer_writeEnd_112_ok G F v0 v2 v3 x93 v4.toInt64 r89.2 _ h
  · rw [if_neg c100] at h
    refine V_ldc2 (v := 4294967295) d_Writer_writeEnd_103 k345 ?_
    refine V_goto (tgt := 112) d_Writer_writeEnd_106 (by decide) ?_
    refine V_lv [0, 1, 2] rfl ?_
    exact b_Writer_writeEnd_112_ok G F v0 v2 v3 x93 (4294967295 : Int64) r89.2 _ h
def b_Writer_writeEnd_65 (F : Nat) (v0 : Nat) (v1 : Int32) (v2 : Int32) (v3 : Int32) (v4 : Int32) (s0 : Nat) (s1 : Int64) (w : zW) : Option (Unit × zW) := (zobj w s0 0).bind fun _ => (f_Row_appendNumber F s0 s1 (2 : Int32) w).bind fun r66 => (getR r66.2 v0 7 0).bind fun x70 => (getI r66.2 v0 7 1).bind fun x74 => if x74 = 0 then (b_Writer_writeEnd_88 F v0 v2 v3 v4 x70 v1.toInt64 r66.2) else (b_Writer_writeEnd_88 F v0 v2 v3 v4 x70 (65535 : Int64) r66.2)
set_option maxRecDepth 100000 in
set_option maxHeartbeats 4000000 in
theorem b_Writer_writeEnd_65_ok (G : zG) (F : Nat) (v0 : Nat) (v1 : Int32) (v2 : Int32) (v3 : Int32) (v4 : Int32) (s0 : Nat) (s1 : Int64) (w : zW) (r : (Unit × zW)) (h : b_Writer_writeEnd_65 F v0 v1 v2 v3 v4 s0 s1 w = some r) : zV G m_Writer_writeEnd 65 [(0, .ref (z0 G + v0)), (1, .int v1), (2, .int v2), (3, .int v3), (4, .int v4)] [.long s1, .ref (z0 G + s0)] w 0 0 (oV r.1) r.2 := by
  unfold b_Writer_writeEnd_65 at h
  refine V_iconst (v := 2) d_Writer_writeEnd_65 (by decide) ?_
  obtain ⟨_, eo66, h⟩ := ob h
  obtain ⟨r66, e66, h⟩ := ob h
  refine V_call (v := none) (st := []) (inv_V (N := m_Row_appendNumber) (As := [.long s1, .int (2 : Int32)]) (ci := 0) d_Writer_writeEnd_66 eo66 rfl k333 k334 k335 kc_Row_appendNumber y_Row_appendNumber) ⟨Or.inl kc_Row_appendNumber, k2, by decide, by decide⟩ (Nat.le_of_ble_eq_true rfl) (by decide) (by decide) (c_Row_appendNumber G F s0 s1 (2 : Int32) w r66 e66) ?_
  refine V_aload_n (i := 0) d_Writer_writeEnd_69 rfl 0 rfl ?_
  obtain ⟨x70, e70, h⟩ := ob h
  refine V_getR (ci := 7) (k := 0) d_Writer_writeEnd_70 e70 rfl (by decide) in_Writer k244 ?_
  refine V_aload_n (i := 0) d_Writer_writeEnd_73 rfl 0 rfl ?_
  obtain ⟨x74, e74, h⟩ := ob h
  refine V_getI (ci := 7) (k := 1) d_Writer_writeEnd_74 e74 rfl (by decide) in_Writer k246 ?_
  refine V_if_eq (tgt := 86) d_Writer_writeEnd_77 (by decide) (fun c77 => ?_) (fun c77 => ?_)
  · rw [if_pos c77] at h
    refine V_iload_n (i := 1) d_Writer_writeEnd_86 rfl 1 rfl ?_
    refine V_i2l d_Writer_writeEnd_87 ?_
    refine V_lv [0, 2, 3, 4] rfl ?_
    exact b_Writer_writeEnd_88_ok G F v0 v2 v3 v4 x70 v1.toInt64 r66.2 _ h
  · rw [if_neg c77] at h
    refine V_ldc2 (v := 65535) d_Writer_writeEnd_80 k344 ?_
    refine V_goto (tgt := 88) d_Writer_writeEnd_83 (by decide) ?_
    refine V_lv [0, 2, 3, 4] rfl ?_
    exact b_Writer_writeEnd_88_ok G F v0 v2 v3 v4 x70 (65535 : Int64) r66.2 _ h
def b_Writer_writeEnd_26 (F : Nat) (v0 : Nat) (v1 : Int32) (v2 : Int32) (v3 : Int32) (v4 : Int32) (w : zW) : Option (Unit × zW) := (getR w v0 7 0).bind fun x27 => (zobj w x27 0).bind fun _ => (f_Row_appendNumber F x27 (101010256 : Int64) (4 : Int32) w).bind fun r34 => (getR r34.2 v0 7 0).bind fun x38 => (zobj r34.2 x38 0).bind fun _ => (f_Row_appendNumber F x38 (0 : Int64) (4 : Int32) r34.2).bind fun r43 => (getR r43.2 v0 7 0).bind fun x47 => (getI r43.2 v0 7 1).bind fun x51 => if x51 = 0 then (b_Writer_writeEnd_65 F v0 v1 v2 v3 v4 x47 v1.toInt64 r43.2) else (b_Writer_writeEnd_65 F v0 v1 v2 v3 v4 x47 (65535 : Int64) r43.2)
set_option maxRecDepth 100000 in
set_option maxHeartbeats 4000000 in
theorem b_Writer_writeEnd_26_ok (G : zG) (F : Nat) (v0 : Nat) (v1 : Int32) (v2 : Int32) (v3 : Int32) (v4 : Int32) (w : zW) (r : (Unit × zW)) (h : b_Writer_writeEnd_26 F v0 v1 v2 v3 v4 w = some r) : zV G m_Writer_writeEnd 26 [(0, .ref (z0 G + v0)), (1, .int v1), (2, .int v2), (3, .int v3), (4, .int v4)] [] w 0 0 (oV r.1) r.2 := by
  unfold b_Writer_writeEnd_26 at h
  refine V_aload_n (i := 0) d_Writer_writeEnd_26 rfl 0 rfl ?_
  obtain ⟨x27, e27, h⟩ := ob h
  refine V_getR (ci := 7) (k := 0) d_Writer_writeEnd_27 e27 rfl (by decide) in_Writer k244 ?_
  refine V_ldc2 (v := 101010256) d_Writer_writeEnd_30 k343 ?_
  refine V_iconst (v := 4) d_Writer_writeEnd_33 (by decide) ?_
  obtain ⟨_, eo34, h⟩ := ob h
  obtain ⟨r34, e34, h⟩ := ob h
  refine V_call (v := none) (st := []) (inv_V (N := m_Row_appendNumber) (As := [.long (101010256 : Int64), .int (4 : Int32)]) (ci := 0) d_Writer_writeEnd_34 eo34 rfl k333 k334 k335 kc_Row_appendNumber y_Row_appendNumber) ⟨Or.inl kc_Row_appendNumber, k2, by decide, by decide⟩ (Nat.le_of_ble_eq_true rfl) (by decide) (by decide) (c_Row_appendNumber G F x27 (101010256 : Int64) (4 : Int32) w r34 e34) ?_
  refine V_aload_n (i := 0) d_Writer_writeEnd_37 rfl 0 rfl ?_
  obtain ⟨x38, e38, h⟩ := ob h
  refine V_getR (ci := 7) (k := 0) d_Writer_writeEnd_38 e38 rfl (by decide) in_Writer k244 ?_
  refine V_lconst (v := 0) d_Writer_writeEnd_41 (by decide) ?_
  refine V_iconst (v := 4) d_Writer_writeEnd_42 (by decide) ?_
  obtain ⟨_, eo43, h⟩ := ob h
  obtain ⟨r43, e43, h⟩ := ob h
  refine V_call (v := none) (st := []) (inv_V (N := m_Row_appendNumber) (As := [.long (0 : Int64), .int (4 : Int32)]) (ci := 0) d_Writer_writeEnd_43 eo43 rfl k333 k334 k335 kc_Row_appendNumber y_Row_appendNumber) ⟨Or.inl kc_Row_appendNumber, k2, by decide, by decide⟩ (Nat.le_of_ble_eq_true rfl) (by decide) (by decide) (c_Row_appendNumber G F x38 (0 : Int64) (4 : Int32) r34.2 r43 e43) ?_
  refine V_aload_n (i := 0) d_Writer_writeEnd_46 rfl 0 rfl ?_
  obtain ⟨x47, e47, h⟩ := ob h
  refine V_getR (ci := 7) (k := 0) d_Writer_writeEnd_47 e47 rfl (by decide) in_Writer k244 ?_
  refine V_aload_n (i := 0) d_Writer_writeEnd_50 rfl 0 rfl ?_
  obtain ⟨x51, e51, h⟩ := ob h
  refine V_getI (ci := 7) (k := 1) d_Writer_writeEnd_51 e51 rfl (by decide) in_Writer k246 ?_
  refine V_if_eq (tgt := 63) d_Writer_writeEnd_54 (by decide) (fun c54 => ?_) (fun c54 => ?_)
  · rw [if_pos c54] at h
    refine V_iload_n (i := 1) d_Writer_writeEnd_63 rfl 1 rfl ?_
    refine V_i2l d_Writer_writeEnd_64 ?_
    exact b_Writer_writeEnd_65_ok G F v0 v1 v2 v3 v4 x47 v1.toInt64 r43.2 _ h
  · rw [if_neg c54] at h
    refine V_ldc2 (v := 65535) d_Writer_writeEnd_57 k344 ?_
    refine V_goto (tgt := 65) d_Writer_writeEnd_60 (by decide) ?_
    exact b_Writer_writeEnd_65_ok G F v0 v1 v2 v3 v4 x47 (65535 : Int64) r43.2 _ h
def b_Writer_writeEnd_0 (F : Nat) (v0 : Nat) (v1 : Int32) (v2 : Int32) (v3 : Int32) (w : zW) : Option (Unit × zW) := (getR w v0 7 0).bind fun x1 => (getI w x1 0 1).bind fun x4 => (getI w v0 7 1).bind fun x12 => if x12 = 0 then (b_Writer_writeEnd_26 F v0 v1 v2 v3 (x4 - v2) w) else ((zobj w v0 7).bind fun _ => (f_Writer_writeWideEnd F v0 v1 v2 (x4 - v2) w).bind fun r23 => b_Writer_writeEnd_26 F v0 v1 v2 v3 (x4 - v2) r23.2)
set_option maxRecDepth 100000 in
set_option maxHeartbeats 4000000 in
theorem b_Writer_writeEnd_0_ok (G : zG) (F : Nat) (v0 : Nat) (v1 : Int32) (v2 : Int32) (v3 : Int32) (w : zW) (r : (Unit × zW)) (h : b_Writer_writeEnd_0 F v0 v1 v2 v3 w = some r) : zV G m_Writer_writeEnd 0 [(0, .ref (z0 G + v0)), (1, .int v1), (2, .int v2), (3, .int v3)] [] w 0 0 (oV r.1) r.2 := by
  unfold b_Writer_writeEnd_0 at h
  refine V_aload_n (i := 0) d_Writer_writeEnd_0 rfl 0 rfl ?_
  obtain ⟨x1, e1, h⟩ := ob h
  refine V_getR (ci := 7) (k := 0) d_Writer_writeEnd_1 e1 rfl (by decide) in_Writer k244 ?_
  obtain ⟨x4, e4, h⟩ := ob h
  refine V_getI (ci := 0) (k := 1) d_Writer_writeEnd_4 e4 rfl (by decide) in_Row k45 ?_
  refine V_iload_n (i := 2) d_Writer_writeEnd_7 rfl 2 rfl ?_
  refine V_isub d_Writer_writeEnd_8 ?_
  refine V_istore (i := 4) d_Writer_writeEnd_9 (by decide) rfl ?_
  refine V_aload_n (i := 0) d_Writer_writeEnd_11 rfl 1 rfl ?_
  obtain ⟨x12, e12, h⟩ := ob h
  refine V_getI (ci := 7) (k := 1) d_Writer_writeEnd_12 e12 rfl (by decide) in_Writer k246 ?_
  refine V_if_eq (tgt := 26) d_Writer_writeEnd_15 (by decide) (fun c15 => ?_) (fun c15 => ?_)
  · rw [if_pos c15] at h
    refine V_lv [1, 2, 3, 4, 0] rfl ?_
    exact b_Writer_writeEnd_26_ok G F v0 v1 v2 v3 (x4 - v2) w _ h
  · rw [if_neg c15] at h
    refine V_aload_n (i := 0) d_Writer_writeEnd_18 rfl 1 rfl ?_
    refine V_iload_n (i := 1) d_Writer_writeEnd_19 rfl 2 rfl ?_
    refine V_iload_n (i := 2) d_Writer_writeEnd_20 rfl 3 rfl ?_
    refine V_iload (i := 4) d_Writer_writeEnd_21 0 rfl ?_
    obtain ⟨_, eo23, h⟩ := ob h
    obtain ⟨r23, e23, h⟩ := ob h
    refine V_call (v := none) (st := []) (inv_V (N := m_Writer_writeWideEnd) (As := [.int v1, .int v2, .int (x4 - v2)]) (ci := 7) d_Writer_writeEnd_23 eo23 rfl k328 k330 sel_Writer_writeWideEnd kc_Writer_writeWideEnd y_Writer_writeWideEnd) ⟨Or.inl kc_Writer_writeWideEnd, k9, by decide, by decide⟩ (Nat.le_of_ble_eq_true rfl) (by decide) (by decide) (c_Writer_writeWideEnd G F v0 v1 v2 (x4 - v2) w r23 e23) ?_
    refine V_lv [1, 2, 3, 4, 0] rfl ?_
    exact b_Writer_writeEnd_26_ok G F v0 v1 v2 v3 (x4 - v2) r23.2 _ h
def f_Writer_writeEnd (F : Nat) (v0 : Nat) (v1 : Int32) (v2 : Int32) (v3 : Int32) (w : zW) : Option (Unit × zW) := b_Writer_writeEnd_0 F v0 v1 v2 v3 w
theorem c_Writer_writeEnd (G : zG) (F : Nat) (v0 : Nat) (v1 : Int32) (v2 : Int32) (v3 : Int32) (w : zW) (r : (Unit × zW)) (h : f_Writer_writeEnd F v0 v1 v2 v3 w = some r) : zCT G m_Writer_writeEnd [.ref (z0 G + v0), .int v1, .int v2, .int v3] w (oV r.1) r.2 := zCT.ofV (by decide +kernel) (Or.inl ⟨kc_Writer_writeEnd, rfl⟩) (Nat.le_of_ble_eq_true rfl) (b_Writer_writeEnd_0_ok G F v0 v1 v2 v3 w r h)

/-! ZipArray.create()V -/
def m_Zip_create : zM := (⟨R_Zip, "create", "()V"⟩, prog_1_method_10_code, 1, none, [], { frames := 4, cells := 0, slots := 0, locals := 93 })
theorem k245 : Cond.fieldLink R_Zip 126 (T_Writer 0).1 (T_Writer 0).2.1 (T_Writer 0).2.2.1 ∈ zTb := tb_at 245 (by decide +kernel) rfl
theorem k308 : Cond.methodLink R_Zip 118 (mY m_Writer_begin) ∈ zTb := tb_at 308 (by decide +kernel) rfl
theorem k309 : Cond.instanceMethod (mY m_Writer_begin) ∈ zTb := tb_at 309 (by decide +kernel) rfl
theorem k310 : Cond.selects R_Writer (mY m_Writer_begin) (mY m_Writer_begin) ∈ zTb := tb_at 310 (by decide +kernel) rfl
theorem k324 : Cond.methodLink R_Zip 122 (mY m_Writer_writeEnd) ∈ zTb := tb_at 324 (by decide +kernel) rfl
theorem k325 : Cond.instanceMethod (mY m_Writer_writeEnd) ∈ zTb := tb_at 325 (by decide +kernel) rfl
theorem k326 : Cond.selects R_Writer (mY m_Writer_writeEnd) (mY m_Writer_writeEnd) ∈ zTb := tb_at 326 (by decide +kernel) rfl
theorem kc_Zip_create : Cond.code (mY m_Zip_create) (mC m_Zip_create) (mL m_Zip_create) (mT m_Zip_create) ∈ zTb := tb_at 307 (by decide +kernel) rfl
theorem y_Zip_create : (mY m_Zip_create).cls ≠ "java/lang/invoke/MethodHandle" ∧ (mY m_Zip_create).cls ≠ "java/lang/invoke/VarHandle" ∧ (parseMethodDescriptor (mY m_Zip_create).desc).map (fun d => d.parameters.length) = some 0 := by decide +kernel
theorem d_Zip_create_0 : decode (mC m_Zip_create) 0 = .ok (.aload_n 0, 1) := by decide +kernel
theorem d_Zip_create_1 : decode (mC m_Zip_create) 1 = .ok (.getfield 53, 3) := by decide +kernel
theorem d_Zip_create_4 : decode (mC m_Zip_create) 4 = .ok (.aload_n 0, 1) := by decide +kernel
theorem d_Zip_create_5 : decode (mC m_Zip_create) 5 = .ok (.getfield 18, 3) := by decide +kernel
theorem d_Zip_create_8 : decode (mC m_Zip_create) 8 = .ok (.iconst 0, 1) := by decide +kernel
theorem d_Zip_create_9 : decode (mC m_Zip_create) 9 = .ok (.invokevirtual 118, 3) := by decide +kernel
theorem d_Zip_create_12 : decode (mC m_Zip_create) 12 = .ok (.aload_n 0, 1) := by decide +kernel
theorem d_Zip_create_13 : decode (mC m_Zip_create) 13 = .ok (.getfield 53, 3) := by decide +kernel
theorem d_Zip_create_16 : decode (mC m_Zip_create) 16 = .ok (.iconst 0, 1) := by decide +kernel
theorem d_Zip_create_17 : decode (mC m_Zip_create) 17 = .ok (.iconst 0, 1) := by decide +kernel
theorem d_Zip_create_18 : decode (mC m_Zip_create) 18 = .ok (.iconst 0, 1) := by decide +kernel
theorem d_Zip_create_19 : decode (mC m_Zip_create) 19 = .ok (.invokevirtual 122, 3) := by decide +kernel
theorem d_Zip_create_22 : decode (mC m_Zip_create) 22 = .ok (.aload_n 0, 1) := by decide +kernel
theorem d_Zip_create_23 : decode (mC m_Zip_create) 23 = .ok (.getfield 18, 3) := by decide +kernel
theorem d_Zip_create_26 : decode (mC m_Zip_create) 26 = .ok (.aload_n 0, 1) := by decide +kernel
theorem d_Zip_create_27 : decode (mC m_Zip_create) 27 = .ok (.getfield 53, 3) := by decide +kernel
theorem d_Zip_create_30 : decode (mC m_Zip_create) 30 = .ok (.getfield 126, 3) := by decide +kernel
theorem d_Zip_create_33 : decode (mC m_Zip_create) 33 = .ok (.invokevirtual 108, 3) := by decide +kernel
theorem d_Zip_create_36 : decode (mC m_Zip_create) 36 = .ok (.return_, 1) := by decide +kernel
def b_Zip_create_0 (F : Nat) (v0 : Nat) (w : zW) : Option (Unit × zW) := (getR w v0 8 7).bind fun x1 => (getR w v0 8 1).bind fun x5 => (zobj w x1 7).bind fun _ => (f_Writer_begin F x1 x5 (0 : Int32) w).bind fun r9 => (getR r9.2 v0 8 7).bind fun x13 => (zobj r9.2 x13 7).bind fun _ => (f_Writer_writeEnd F x13 (0 : Int32) (0 : Int32) (0 : Int32) r9.2).bind fun r19 => (getR r19.2 v0 8 1).bind fun x23 => (getR r19.2 v0 8 7).bind fun x27 => (getR r19.2 x27 7 0).bind fun x30 => (zobj r19.2 x23 0).bind fun _ => (f_Row_become F x23 x30 r19.2).bind fun r33 => some ((), r33.2)
set_option maxRecDepth 100000 in
set_option maxHeartbeats 4000000 in
theorem b_Zip_create_0_ok (G : zG) (F : Nat) (v0 : Nat) (w : zW) (r : (Unit × zW)) (h : b_Zip_create_0 F v0 w = some r) : zV G m_Zip_create 0 [(0, .ref (z0 G + v0))] [] w 0 0 (oV r.1) r.2 := by
  unfold b_Zip_create_0 at h
  refine V_aload_n (i := 0) d_Zip_create_0 rfl 0 rfl ?_
  obtain ⟨x1, e1, h⟩ := ob h
  refine V_getR (ci := 8) (k := 7) d_Zip_create_1 e1 rfl (by decide) in_Zip k262 ?_
  refine V_aload_n (i := 0) d_Zip_create_4 rfl 0 rfl ?_
  obtain ⟨x5, e5, h⟩ := ob h
  refine V_getR (ci := 8) (k := 1) d_Zip_create_5 e5 rfl (by decide) in_Zip k256 ?_
  refine V_iconst (v := 0) d_Zip_create_8 (by decide) ?_
  obtain ⟨_, eo9, h⟩ := ob h
  obtain ⟨r9, e9, h⟩ := ob h
  refine V_call (v := none) (st := []) (inv_V (N := m_Writer_begin) (As := [.ref (z0 G + x5), .int (0 : Int32)]) (ci := 7) d_Zip_create_9 eo9 rfl k308 k309 k310 kc_Writer_begin y_Writer_begin) ⟨Or.inl kc_Writer_begin, k9, by decide, by decide⟩ (Nat.le_of_ble_eq_true rfl) (by decide) (by decide) (c_Writer_begin G F x1 x5 (0 : Int32) w r9 e9) ?_
  refine V_aload_n (i := 0) d_Zip_create_12 rfl 0 rfl ?_
  obtain ⟨x13, e13, h⟩ := ob h
  refine V_getR (ci := 8) (k := 7) d_Zip_create_13 e13 rfl (by decide) in_Zip k262 ?_
  refine V_iconst (v := 0) d_Zip_create_16 (by decide) ?_
  refine V_iconst (v := 0) d_Zip_create_17 (by decide) ?_
  refine V_iconst (v := 0) d_Zip_create_18 (by decide) ?_
  obtain ⟨_, eo19, h⟩ := ob h
  obtain ⟨r19, e19, h⟩ := ob h
  refine V_call (v := none) (st := []) (inv_V (N := m_Writer_writeEnd) (As := [.int (0 : Int32), .int (0 : Int32), .int (0 : Int32)]) (ci := 7) d_Zip_create_19 eo19 rfl k324 k325 k326 kc_Writer_writeEnd y_Writer_writeEnd) ⟨Or.inl kc_Writer_writeEnd, k9, by decide, by decide⟩ (Nat.le_of_ble_eq_true rfl) (by decide) (by decide) (c_Writer_writeEnd G F x13 (0 : Int32) (0 : Int32) (0 : Int32) r9.2 r19 e19) ?_
  refine V_aload_n (i := 0) d_Zip_create_22 rfl 0 rfl ?_
  obtain ⟨x23, e23, h⟩ := ob h
  refine V_getR (ci := 8) (k := 1) d_Zip_create_23 e23 rfl (by decide) in_Zip k256 ?_
  refine V_aload_n (i := 0) d_Zip_create_26 rfl 0 rfl ?_
  obtain ⟨x27, e27, h⟩ := ob h
  refine V_getR (ci := 8) (k := 7) d_Zip_create_27 e27 rfl (by decide) in_Zip k262 ?_
  obtain ⟨x30, e30, h⟩ := ob h
  refine V_getR (ci := 7) (k := 0) d_Zip_create_30 e30 rfl (by decide) in_Writer k245 ?_
  obtain ⟨_, eo33, h⟩ := ob h
  obtain ⟨r33, e33, h⟩ := ob h
  refine V_call (v := none) (st := []) (inv_V (N := m_Row_become) (As := [.ref (z0 G + x30)]) (ci := 0) d_Zip_create_33 eo33 rfl k346 k347 k348 kc_Row_become y_Row_become) ⟨Or.inl kc_Row_become, k2, by decide, by decide⟩ (Nat.le_of_ble_eq_true rfl) (by decide) (by decide) (c_Row_become G F x23 x30 r19.2 r33 e33) ?_
  obtain rfl := Option.some.inj h
  exact V_vret rfl (by decide) (by decide) d_Zip_create_36
def f_Zip_create (F : Nat) (v0 : Nat) (w : zW) : Option (Unit × zW) := b_Zip_create_0 F v0 w
theorem c_Zip_create (G : zG) (F : Nat) (v0 : Nat) (w : zW) (r : (Unit × zW)) (h : f_Zip_create F v0 w = some r) : zCT G m_Zip_create [.ref (z0 G + v0)] w (oV r.1) r.2 := zCT.ofV (by decide +kernel) (Or.inl ⟨kc_Zip_create, rfl⟩) (Nat.le_of_ble_eq_true rfl) (b_Zip_create_0_ok G F v0 w r h)

/-! ZipArray.wide(Z)V -/
def m_Zip_wide : zM := (⟨R_Zip, "wide", "(Z)V"⟩, prog_1_method_11_code, 2, none, [], { frames := 0, cells := 0, slots := 0, locals := 0 })
theorem k247 : Cond.fieldLink R_Zip 129 (T_Writer 1).1 (T_Writer 1).2.1 (T_Writer 1).2.2.1 ∈ zTb := tb_at 247 (by decide +kernel) rfl
theorem kc_Zip_wide : Cond.code (mY m_Zip_wide) (mC m_Zip_wide) (mL m_Zip_wide) (mT m_Zip_wide) ∈ zTb := tb_at 355 (by decide +kernel) rfl
theorem y_Zip_wide : (mY m_Zip_wide).cls ≠ "java/lang/invoke/MethodHandle" ∧ (mY m_Zip_wide).cls ≠ "java/lang/invoke/VarHandle" ∧ (parseMethodDescriptor (mY m_Zip_wide).desc).map (fun d => d.parameters.length) = some 1 := by decide +kernel
theorem d_Zip_wide_0 : decode (mC m_Zip_wide) 0 = .ok (.aload_n 0, 1) := by decide +kernel
theorem d_Zip_wide_1 : decode (mC m_Zip_wide) 1 = .ok (.getfield 53, 3) := by decide +kernel
theorem d_Zip_wide_4 : decode (mC m_Zip_wide) 4 = .ok (.iload_n 1, 1) := by decide +kernel
theorem d_Zip_wide_5 : decode (mC m_Zip_wide) 5 = .ok (.putfield 129, 3) := by decide +kernel
theorem d_Zip_wide_8 : decode (mC m_Zip_wide) 8 = .ok (.return_, 1) := by decide +kernel
def b_Zip_wide_0 (F : Nat) (v0 : Nat) (v1 : Int32) (w : zW) : Option (Unit × zW) := (getR w v0 8 7).bind fun x1 => if v1 = 0 ∨ v1 = 1 then (putI w x1 7 1 v1).bind fun w5 => some ((), w5) else none
set_option maxRecDepth 100000 in
set_option maxHeartbeats 4000000 in
theorem b_Zip_wide_0_ok (G : zG) (F : Nat) (v0 : Nat) (v1 : Int32) (w : zW) (r : (Unit × zW)) (h : b_Zip_wide_0 F v0 v1 w = some r) : zV G m_Zip_wide 0 [(0, .ref (z0 G + v0)), (1, .int v1)] [] w 0 0 (oV r.1) r.2 := by
  unfold b_Zip_wide_0 at h
  refine V_aload_n (i := 0) d_Zip_wide_0 rfl 0 rfl ?_
  obtain ⟨x1, e1, h⟩ := ob h
  refine V_getR (ci := 8) (k := 7) d_Zip_wide_1 e1 rfl (by decide) in_Zip k262 ?_
  refine V_iload_n (i := 1) d_Zip_wide_4 rfl 1 rfl ?_
  by_cases g5 : ¬ (v1 = 0 ∨ v1 = 1)
  · exact absurd h (by rw [if_neg g5]; exact nofun)
  have g5 := Classical.not_not.mp g5
  rw [if_pos g5] at h
  obtain ⟨w5, e5, h⟩ := ob h
  refine V_putI (ci := 7) (k := 1) t_Writer d_Zip_wide_5 e5 rfl (by decide) in_Writer k247 ty_Writer nm_Writer rfl (Or.inr ⟨rfl, g5⟩) ?_
  obtain rfl := Option.some.inj h
  exact V_vret rfl (by decide) (by decide) d_Zip_wide_8
def f_Zip_wide (F : Nat) (v0 : Nat) (v1 : Int32) (w : zW) : Option (Unit × zW) := b_Zip_wide_0 F v0 v1 w
theorem c_Zip_wide (G : zG) (F : Nat) (v0 : Nat) (v1 : Int32) (w : zW) (r : (Unit × zW)) (h : f_Zip_wide F v0 v1 w = some r) : zCT G m_Zip_wide [.ref (z0 G + v0), .int v1] w (oV r.1) r.2 := zCT.ofV (by decide +kernel) (Or.inl ⟨kc_Zip_wide, rfl⟩) (Nat.le_of_ble_eq_true rfl) (b_Zip_wide_0_ok G F v0 v1 w r h)

/-! ZipArray$Row.number(II)J -/
def m_Row_number : zM := (⟨R_Row, "number", "(II)J"⟩, prog_7_method_11_code, 6, (some .long), [], { frames := 0, cells := 0, slots := 0, locals := 0 })
theorem kc_Row_number : Cond.code (mY m_Row_number) (mC m_Row_number) (mL m_Row_number) (mT m_Row_number) ∈ zTb := tb_at 371 (by decide +kernel) rfl
theorem y_Row_number : (mY m_Row_number).cls ≠ "java/lang/invoke/MethodHandle" ∧ (mY m_Row_number).cls ≠ "java/lang/invoke/VarHandle" ∧ (parseMethodDescriptor (mY m_Row_number).desc).map (fun d => d.parameters.length) = some 2 := by decide +kernel
theorem d_Row_number_0 : decode (mC m_Row_number) 0 = .ok (.iload_n 1, 1) := by decide +kernel
theorem d_Row_number_1 : decode (mC m_Row_number) 1 = .ok (.ifCond .lt 13, 3) := by decide +kernel
theorem d_Row_number_4 : decode (mC m_Row_number) 4 = .ok (.iload_n 2, 1) := by decide +kernel
theorem d_Row_number_5 : decode (mC m_Row_number) 5 = .ok (.aload_n 0, 1) := by decide +kernel
theorem d_Row_number_6 : decode (mC m_Row_number) 6 = .ok (.getfield 13, 3) := by decide +kernel
theorem d_Row_number_9 : decode (mC m_Row_number) 9 = .ok (.iload_n 1, 1) := by decide +kernel
theorem d_Row_number_10 : decode (mC m_Row_number) 10 = .ok (.isub, 1) := by decide +kernel
theorem d_Row_number_11 : decode (mC m_Row_number) 11 = .ok (.if_icmp .le 5, 3) := by decide +kernel
theorem d_Row_number_14 : decode (mC m_Row_number) 14 = .ok (.lconst 0, 1) := by decide +kernel
theorem d_Row_number_15 : decode (mC m_Row_number) 15 = .ok (.lreturn, 1) := by decide +kernel
theorem d_Row_number_16 : decode (mC m_Row_number) 16 = .ok (.lconst 0, 1) := by decide +kernel
theorem d_Row_number_17 : decode (mC m_Row_number) 17 = .ok (.lstore_n 3, 1) := by decide +kernel
theorem d_Row_number_18 : decode (mC m_Row_number) 18 = .ok (.iload_n 2, 1) := by decide +kernel
theorem d_Row_number_19 : decode (mC m_Row_number) 19 = .ok (.iconst 1, 1) := by decide +kernel
theorem d_Row_number_20 : decode (mC m_Row_number) 20 = .ok (.isub, 1) := by decide +kernel
theorem d_Row_number_21 : decode (mC m_Row_number) 21 = .ok (.istore 5, 2) := by decide +kernel
theorem d_Row_number_23 : decode (mC m_Row_number) 23 = .ok (.iload 5, 2) := by decide +kernel
theorem d_Row_number_25 : decode (mC m_Row_number) 25 = .ok (.ifCond .lt 25, 3) := by decide +kernel
theorem d_Row_number_28 : decode (mC m_Row_number) 28 = .ok (.lload_n 3, 1) := by decide +kernel
theorem d_Row_number_29 : decode (mC m_Row_number) 29 = .ok (.bipush 8, 2) := by decide +kernel
theorem d_Row_number_31 : decode (mC m_Row_number) 31 = .ok (.lshl, 1) := by decide +kernel
theorem d_Row_number_32 : decode (mC m_Row_number) 32 = .ok (.aload_n 0, 1) := by decide +kernel
theorem d_Row_number_33 : decode (mC m_Row_number) 33 = .ok (.getfield 7, 3) := by decide +kernel
theorem d_Row_number_36 : decode (mC m_Row_number) 36 = .ok (.iload_n 1, 1) := by decide +kernel
theorem d_Row_number_37 : decode (mC m_Row_number) 37 = .ok (.iload 5, 2) := by decide +kernel
theorem d_Row_number_39 : decode (mC m_Row_number) 39 = .ok (.iadd, 1) := by decide +kernel
theorem d_Row_number_40 : decode (mC m_Row_number) 40 = .ok (.iaload, 1) := by decide +kernel
theorem d_Row_number_41 : decode (mC m_Row_number) 41 = .ok (.i2l, 1) := by decide +kernel
theorem d_Row_number_42 : decode (mC m_Row_number) 42 = .ok (.lor, 1) := by decide +kernel
theorem d_Row_number_43 : decode (mC m_Row_number) 43 = .ok (.lstore_n 3, 1) := by decide +kernel
theorem d_Row_number_44 : decode (mC m_Row_number) 44 = .ok (.iinc 5 (-1), 3) := by decide +kernel
theorem d_Row_number_47 : decode (mC m_Row_number) 47 = .ok (.goto (-24), 3) := by decide +kernel
theorem d_Row_number_50 : decode (mC m_Row_number) 50 = .ok (.lload_n 3, 1) := by decide +kernel
theorem d_Row_number_51 : decode (mC m_Row_number) 51 = .ok (.lreturn, 1) := by decide +kernel
def b_Row_number_23 (F : Nat) (K23 : Nat → Int32 → Int64 → Int32 → zW → Option (Int64 × zW)) (v0 : Nat) (v1 : Int32) (v3 : Int64) (v5 : Int32) (w : zW) : Option (Int64 × zW) := if v5 < 0 then (some (v3, w)) else ((getR w v0 0 0).bind fun x33 => (aget w x33 (v1 + v5)).bind fun x40 => K23 v0 v1 ((v3 <<< ((8 : Int32).toInt64 &&& 63)) ||| x40.toInt64) (v5 + (-1 : Int32)) w)
set_option maxRecDepth 100000 in
set_option maxHeartbeats 4000000 in
theorem b_Row_number_23_ok (G : zG) (F : Nat) (K23 : Nat → Int32 → Int64 → Int32 → zW → Option (Int64 × zW)) (hK23 : ∀ (v0 : Nat) (v1 : Int32) (v3 : Int64) (v5 : Int32) (w : zW) (r : (Int64 × zW)), K23 v0 v1 v3 v5 w = some r → zV G m_Row_number 23 [(0, .ref (z0 G + v0)), (1, .int v1), (3, .long v3), (5, .int v5)] [] w 0 0 (oJ r.1) r.2) (v0 : Nat) (v1 : Int32) (v3 : Int64) (v5 : Int32) (w : zW) (r : (Int64 × zW)) (h : b_Row_number_23 F K23 v0 v1 v3 v5 w = some r) : zV G m_Row_number 23 [(0, .ref (z0 G + v0)), (1, .int v1), (3, .long v3), (5, .int v5)] [] w 0 0 (oJ r.1) r.2 := by
  unfold b_Row_number_23 at h
  refine V_iload (i := 5) d_Row_number_23 3 rfl ?_
  refine V_if_lt (tgt := 50) d_Row_number_25 (by decide) (fun c25 => ?_) (fun c25 => ?_)
  · rw [if_pos c25] at h
    refine V_lload_n (i := 3) d_Row_number_50 rfl 2 rfl ?_
    obtain rfl := Option.some.inj h
    exact V_lret rfl (by decide) (by decide) d_Row_number_51
  · rw [if_neg c25] at h
    refine V_lload_n (i := 3) d_Row_number_28 rfl 2 rfl ?_
    refine V_bipush (v := 8) d_Row_number_29 (by decide) ?_
    refine V_lshl d_Row_number_31 ?_
    refine V_aload_n (i := 0) d_Row_number_32 rfl 0 rfl ?_
    obtain ⟨x33, e33, h⟩ := ob h
    refine V_getR (ci := 0) (k := 0) d_Row_number_33 e33 rfl (by decide) in_Row k36 ?_
    refine V_iload_n (i := 1) d_Row_number_36 rfl 1 rfl ?_
    refine V_iload (i := 5) d_Row_number_37 3 rfl ?_
    refine V_iadd d_Row_number_39 ?_
    obtain ⟨x40, e40, h⟩ := ob h
    refine V_aget d_Row_number_40 e40 ?_
    refine V_i2l d_Row_number_41 ?_
    refine V_lor d_Row_number_42 ?_
    refine V_lstore_n (i := 3) d_Row_number_43 rfl (by decide) rfl ?_
    refine V_iinc (i := 5) (v := (v5 + (-1 : Int32))) d_Row_number_44 3 rfl (congrArg (fun y => v5 + y) (by decide : Int32.ofInt (-1) = (-1 : Int32))) (by decide) rfl ?_
    refine V_goto (tgt := 23) d_Row_number_47 (by decide) ?_
    refine V_lv [2, 3, 1, 0] rfl ?_
    exact hK23 v0 v1 ((v3 <<< ((8 : Int32).toInt64 &&& 63)) ||| x40.toInt64) (v5 + (-1 : Int32)) w _ h
def l_Row_number_23 (F : Nat) : Nat → Nat → Int32 → Int64 → Int32 → zW → Option (Int64 × zW)
  | 0 => fun _ _ _ _ _ => none
  | n + 1 => b_Row_number_23 F (l_Row_number_23 F n)
theorem l_Row_number_23_ok (G : zG) (F : Nat) (n : Nat) :  ∀ (v0 : Nat) (v1 : Int32) (v3 : Int64) (v5 : Int32) (w : zW) (r : (Int64 × zW)), l_Row_number_23 F n v0 v1 v3 v5 w = some r → zV G m_Row_number 23 [(0, .ref (z0 G + v0)), (1, .int v1), (3, .long v3), (5, .int v5)] [] w 0 0 (oJ r.1) r.2 := by
  induction n with
  | zero => intro v0 v1 v3 v5 w r h; exact nomatch (show (none : Option (Int64 × zW)) = some r from h)
  | succ n ih => intro v0 v1 v3 v5 w r h; exact b_Row_number_23_ok G F (l_Row_number_23 F n) ih v0 v1 v3 v5 w r h
def b_Row_number_14 (F : Nat) (w : zW) : Option (Int64 × zW) := some ((0 : Int64), w)
set_option maxRecDepth 100000 in
set_option maxHeartbeats 4000000 in
theorem b_Row_number_14_ok (G : zG) (F : Nat) (w : zW) (r : (Int64 × zW)) (h : b_Row_number_14 F w = some r) : zV G m_Row_number 14 [] [] w 0 0 (oJ r.1) r.2 := by
  unfold b_Row_number_14 at h
  refine V_lconst (v := 0) d_Row_number_14 (by decide) ?_
  obtain rfl := Option.some.inj h
  exact V_lret rfl (by decide) (by decide) d_Row_number_15
def b_Row_number_0 (F : Nat) (v0 : Nat) (v1 : Int32) (v2 : Int32) (w : zW) : Option (Int64 × zW) := if v1 < 0 then (b_Row_number_14 F w) else ((getI w v0 0 1).bind fun x6 => if v2 ≤ (x6 - v1) then (l_Row_number_23 F F v0 v1 (0 : Int64) (v2 - (1 : Int32)) w) else (b_Row_number_14 F w))
set_option maxRecDepth 100000 in
set_option maxHeartbeats 4000000 in
theorem b_Row_number_0_ok (G : zG) (F : Nat) (v0 : Nat) (v1 : Int32) (v2 : Int32) (w : zW) (r : (Int64 × zW)) (h : b_Row_number_0 F v0 v1 v2 w = some r) : zV G m_Row_number 0 [(0, .ref (z0 G + v0)), (1, .int v1), (2, .int v2)] [] w 0 0 (oJ r.1) r.2 := by
  unfold b_Row_number_0 at h
  refine V_iload_n (i := 1) d_Row_number_0 rfl 1 rfl ?_
  refine V_if_lt (tgt := 14) d_Row_number_1 (by decide) (fun c1 => ?_) (fun c1 => ?_)
  · rw [if_pos c1] at h
    refine V_lv [] rfl ?_
    exact b_Row_number_14_ok G F w _ h
  · rw [if_neg c1] at h
    refine V_iload_n (i := 2) d_Row_number_4 rfl 2 rfl ?_
    refine V_aload_n (i := 0) d_Row_number_5 rfl 0 rfl ?_
    obtain ⟨x6, e6, h⟩ := ob h
    refine V_getI (ci := 0) (k := 1) d_Row_number_6 e6 rfl (by decide) in_Row k41 ?_
    refine V_iload_n (i := 1) d_Row_number_9 rfl 1 rfl ?_
    refine V_isub d_Row_number_10 ?_
    refine V_icmp_le (tgt := 16) d_Row_number_11 (by decide) (fun c11 => ?_) (fun c11 => ?_)
    · rw [if_pos c11] at h
      refine V_lconst (v := 0) d_Row_number_16 (by decide) ?_
      refine V_lstore_n (i := 3) d_Row_number_17 rfl (by decide) rfl ?_
      refine V_iload_n (i := 2) d_Row_number_18 rfl 3 rfl ?_
      refine V_iconst (v := 1) d_Row_number_19 (by decide) ?_
      refine V_isub d_Row_number_20 ?_
      refine V_istore (i := 5) d_Row_number_21 (by decide) rfl ?_
      refine V_lv [2, 3, 1, 0] rfl ?_
      exact l_Row_number_23_ok G F F v0 v1 (0 : Int64) (v2 - (1 : Int32)) w _ h
    · rw [if_neg c11] at h
      refine V_lv [] rfl ?_
      exact b_Row_number_14_ok G F w _ h
def f_Row_number (F : Nat) (v0 : Nat) (v1 : Int32) (v2 : Int32) (w : zW) : Option (Int64 × zW) := b_Row_number_0 F v0 v1 v2 w
theorem c_Row_number (G : zG) (F : Nat) (v0 : Nat) (v1 : Int32) (v2 : Int32) (w : zW) (r : (Int64 × zW)) (h : f_Row_number F v0 v1 v2 w = some r) : zCT G m_Row_number [.ref (z0 G + v0), .int v1, .int v2] w (oJ r.1) r.2 := zCT.ofV (by decide +kernel) (Or.inl ⟨kc_Row_number, rfl⟩) (Nat.le_of_ble_eq_true rfl) (b_Row_number_0_ok G F v0 v1 v2 w r h)

/-! ZipArray$Archive.findEnd()I -/
def m_Archive_findEnd : zM := (⟨R_Archive, "findEnd", "()I"⟩, prog_2_method_4_code, 2, (some .int), [], { frames := 1, cells := 0, slots := 0, locals := 25 })
theorem k38 : Cond.fieldLink R_Archive 71 (T_Row 0).1 (T_Row 0).2.1 (T_Row 0).2.2.1 ∈ zTb := tb_at 38 (by decide +kernel) rfl
theorem k44 : Cond.fieldLink R_Archive 66 (T_Row 1).1 (T_Row 1).2.1 (T_Row 1).2.2.1 ∈ zTb := tb_at 44 (by decide +kernel) rfl
theorem k368 : Cond.methodLink R_Archive 75 (mY m_Row_number) ∈ zTb := tb_at 368 (by decide +kernel) rfl
theorem k369 : Cond.instanceMethod (mY m_Row_number) ∈ zTb := tb_at 369 (by decide +kernel) rfl
theorem k370 : Cond.selects R_Row (mY m_Row_number) (mY m_Row_number) ∈ zTb := tb_at 370 (by decide +kernel) rfl
theorem k372 : Cond.constantLong R_Archive 79 101010256 ∈ zTb := tb_at 372 (by decide +kernel) rfl
theorem kc_Archive_findEnd : Cond.code (mY m_Archive_findEnd) (mC m_Archive_findEnd) (mL m_Archive_findEnd) (mT m_Archive_findEnd) ∈ zTb := tb_at 367 (by decide +kernel) rfl
theorem y_Archive_findEnd : (mY m_Archive_findEnd).cls ≠ "java/lang/invoke/MethodHandle" ∧ (mY m_Archive_findEnd).cls ≠ "java/lang/invoke/VarHandle" ∧ (parseMethodDescriptor (mY m_Archive_findEnd).desc).map (fun d => d.parameters.length) = some 0 := by decide +kernel
theorem sel_Archive_findEnd : Cond.selects R_Archive (mY m_Archive_findEnd) (mY m_Archive_findEnd) ∈ zTb := sel_at (y := mY m_Archive_findEnd) (n := 7) 1 (by decide +kernel)
theorem d_Archive_findEnd_0 : decode (mC m_Archive_findEnd) 0 = .ok (.aload_n 0, 1) := by decide +kernel
theorem d_Archive_findEnd_1 : decode (mC m_Archive_findEnd) 1 = .ok (.getfield 9, 3) := by decide +kernel
theorem d_Archive_findEnd_4 : decode (mC m_Archive_findEnd) 4 = .ok (.getfield 66, 3) := by decide +kernel
theorem d_Archive_findEnd_7 : decode (mC m_Archive_findEnd) 7 = .ok (.bipush 22, 2) := by decide +kernel
theorem d_Archive_findEnd_9 : decode (mC m_Archive_findEnd) 9 = .ok (.isub, 1) := by decide +kernel
theorem d_Archive_findEnd_10 : decode (mC m_Archive_findEnd) 10 = .ok (.istore_n 1, 1) := by decide +kernel
theorem d_Archive_findEnd_11 : decode (mC m_Archive_findEnd) 11 = .ok (.iload_n 1, 1) := by decide +kernel
theorem d_Archive_findEnd_12 : decode (mC m_Archive_findEnd) 12 = .ok (.ifCond .lt 71, 3) := by decide +kernel
theorem d_Archive_findEnd_15 : decode (mC m_Archive_findEnd) 15 = .ok (.aload_n 0, 1) := by decide +kernel
theorem d_Archive_findEnd_16 : decode (mC m_Archive_findEnd) 16 = .ok (.getfield 9, 3) := by decide +kernel
theorem d_Archive_findEnd_19 : decode (mC m_Archive_findEnd) 19 = .ok (.getfield 71, 3) := by decide +kernel
theorem d_Archive_findEnd_22 : decode (mC m_Archive_findEnd) 22 = .ok (.iload_n 1, 1) := by decide +kernel
theorem d_Archive_findEnd_23 : decode (mC m_Archive_findEnd) 23 = .ok (.iaload, 1) := by decide +kernel
theorem d_Archive_findEnd_24 : decode (mC m_Archive_findEnd) 24 = .ok (.bipush 80, 2) := by decide +kernel
theorem d_Archive_findEnd_26 : decode (mC m_Archive_findEnd) 26 = .ok (.if_icmp .ne 51, 3) := by decide +kernel
theorem d_Archive_findEnd_29 : decode (mC m_Archive_findEnd) 29 = .ok (.aload_n 0, 1) := by decide +kernel
theorem d_Archive_findEnd_30 : decode (mC m_Archive_findEnd) 30 = .ok (.getfield 9, 3) := by decide +kernel
theorem d_Archive_findEnd_33 : decode (mC m_Archive_findEnd) 33 = .ok (.iload_n 1, 1) := by decide +kernel
theorem d_Archive_findEnd_34 : decode (mC m_Archive_findEnd) 34 = .ok (.iconst 4, 1) := by decide +kernel
theorem d_Archive_findEnd_35 : decode (mC m_Archive_findEnd) 35 = .ok (.invokevirtual 75, 3) := by decide +kernel
theorem d_Archive_findEnd_38 : decode (mC m_Archive_findEnd) 38 = .ok (.ldc2_w 79, 3) := by decide +kernel
theorem d_Archive_findEnd_41 : decode (mC m_Archive_findEnd) 41 = .ok (.lcmp, 1) := by decide +kernel
theorem d_Archive_findEnd_42 : decode (mC m_Archive_findEnd) 42 = .ok (.ifCond .ne 35, 3) := by decide +kernel
theorem d_Archive_findEnd_45 : decode (mC m_Archive_findEnd) 45 = .ok (.iload_n 1, 1) := by decide +kernel
theorem d_Archive_findEnd_46 : decode (mC m_Archive_findEnd) 46 = .ok (.bipush 22, 2) := by decide +kernel
theorem d_Archive_findEnd_48 : decode (mC m_Archive_findEnd) 48 = .ok (.iadd, 1) := by decide +kernel
theorem d_Archive_findEnd_49 : decode (mC m_Archive_findEnd) 49 = .ok (.i2l, 1) := by decide +kernel
theorem d_Archive_findEnd_50 : decode (mC m_Archive_findEnd) 50 = .ok (.aload_n 0, 1) := by decide +kernel
theorem d_Archive_findEnd_51 : decode (mC m_Archive_findEnd) 51 = .ok (.getfield 9, 3) := by decide +kernel
theorem d_Archive_findEnd_54 : decode (mC m_Archive_findEnd) 54 = .ok (.iload_n 1, 1) := by decide +kernel
theorem d_Archive_findEnd_55 : decode (mC m_Archive_findEnd) 55 = .ok (.bipush 20, 2) := by decide +kernel
theorem d_Archive_findEnd_57 : decode (mC m_Archive_findEnd) 57 = .ok (.iadd, 1) := by decide +kernel
theorem d_Archive_findEnd_58 : decode (mC m_Archive_findEnd) 58 = .ok (.iconst 2, 1) := by decide +kernel
theorem d_Archive_findEnd_59 : decode (mC m_Archive_findEnd) 59 = .ok (.invokevirtual 75, 3) := by decide +kernel
theorem d_Archive_findEnd_62 : decode (mC m_Archive_findEnd) 62 = .ok (.ladd, 1) := by decide +kernel
theorem d_Archive_findEnd_63 : decode (mC m_Archive_findEnd) 63 = .ok (.aload_n 0, 1) := by decide +kernel
theorem d_Archive_findEnd_64 : decode (mC m_Archive_findEnd) 64 = .ok (.getfield 9, 3) := by decide +kernel
theorem d_Archive_findEnd_67 : decode (mC m_Archive_findEnd) 67 = .ok (.getfield 66, 3) := by decide +kernel
theorem d_Archive_findEnd_70 : decode (mC m_Archive_findEnd) 70 = .ok (.i2l, 1) := by decide +kernel
theorem d_Archive_findEnd_71 : decode (mC m_Archive_findEnd) 71 = .ok (.lcmp, 1) := by decide +kernel
theorem d_Archive_findEnd_72 : decode (mC m_Archive_findEnd) 72 = .ok (.ifCond .ne 5, 3) := by decide +kernel
theorem d_Archive_findEnd_75 : decode (mC m_Archive_findEnd) 75 = .ok (.iload_n 1, 1) := by decide +kernel
theorem d_Archive_findEnd_76 : decode (mC m_Archive_findEnd) 76 = .ok (.ireturn, 1) := by decide +kernel
theorem d_Archive_findEnd_77 : decode (mC m_Archive_findEnd) 77 = .ok (.iinc 1 (-1), 3) := by decide +kernel
theorem d_Archive_findEnd_80 : decode (mC m_Archive_findEnd) 80 = .ok (.goto (-69), 3) := by decide +kernel
theorem d_Archive_findEnd_83 : decode (mC m_Archive_findEnd) 83 = .ok (.iconst (-1), 1) := by decide +kernel
theorem d_Archive_findEnd_84 : decode (mC m_Archive_findEnd) 84 = .ok (.ireturn, 1) := by decide +kernel
def b_Archive_findEnd_77 (F : Nat) (K11 : Nat → Int32 → zW → Option (Int32 × zW)) (v0 : Nat) (v1 : Int32) (w : zW) : Option (Int32 × zW) := K11 v0 (v1 + (-1 : Int32)) w
set_option maxRecDepth 100000 in
set_option maxHeartbeats 4000000 in
theorem b_Archive_findEnd_77_ok (G : zG) (F : Nat) (K11 : Nat → Int32 → zW → Option (Int32 × zW)) (hK11 : ∀ (v0 : Nat) (v1 : Int32) (w : zW) (r : (Int32 × zW)), K11 v0 v1 w = some r → zV G m_Archive_findEnd 11 [(0, .ref (z0 G + v0)), (1, .int v1)] [] w 0 0 (oI r.1) r.2) (v0 : Nat) (v1 : Int32) (w : zW) (r : (Int32 × zW)) (h : b_Archive_findEnd_77 F K11 v0 v1 w = some r) : zV G m_Archive_findEnd 77 [(0, .ref (z0 G + v0)), (1, .int v1)] [] w 0 0 (oI r.1) r.2 := by
  unfold b_Archive_findEnd_77 at h
  refine V_iinc (i := 1) (v := (v1 + (-1 : Int32))) d_Archive_findEnd_77 1 rfl (congrArg (fun y => v1 + y) (by decide : Int32.ofInt (-1) = (-1 : Int32))) (by decide) rfl ?_
  refine V_goto (tgt := 11) d_Archive_findEnd_80 (by decide) ?_
  refine V_lv [1, 0] rfl ?_
  exact hK11 v0 (v1 + (-1 : Int32)) w _ h
def b_Archive_findEnd_11 (F : Nat) (K11 : Nat → Int32 → zW → Option (Int32 × zW)) (v0 : Nat) (v1 : Int32) (w : zW) : Option (Int32 × zW) := if v1 < 0 then (some ((-1 : Int32), w)) else ((getR w v0 6 0).bind fun x16 => (getR w x16 0 0).bind fun x19 => (aget w x19 v1).bind fun x23 => if x23 = (80 : Int32) then ((getR w v0 6 0).bind fun x30 => (zobj w x30 0).bind fun _ => (f_Row_number F x30 v1 (4 : Int32) w).bind fun r35 => if (lg_cmp r35.1 (101010256 : Int64)) = 0 then ((getR r35.2 v0 6 0).bind fun x51 => (zobj r35.2 x51 0).bind fun _ => (f_Row_number F x51 (v1 + (20 : Int32)) (2 : Int32) r35.2).bind fun r59 => (getR r59.2 v0 6 0).bind fun x64 => (getI r59.2 x64 0 1).bind fun x67 => if (lg_cmp ((v1 + (22 : Int32)).toInt64 + r59.1) x67.toInt64) = 0 then (some (v1, r59.2)) else (b_Archive_findEnd_77 F K11 v0 v1 r59.2)) else (b_Archive_findEnd_77 F K11 v0 v1 r35.2)) else (b_Archive_findEnd_77 F K11 v0 v1 w))
set_option maxRecDepth 100000 in
set_option maxHeartbeats 4000000 in
theorem b_Archive_findEnd_11_ok (G : zG) (F : Nat) (K11 : Nat → Int32 → zW → Option (Int32 × zW)) (hK11 : ∀ (v0 : Nat) (v1 : Int32) (w : zW) (r : (Int32 × zW)), K11 v0 v1 w = some r → zV G m_Archive_findEnd 11 [(0, .ref (z0 G + v0)), (1, .int v1)] [] w 0 0 (oI r.1) r.2) (v0 : Nat) (v1 : Int32) (w : zW) (r : (Int32 × zW)) (h : b_Archive_findEnd_11 F K11 v0 v1 w = some r) : zV G m_Archive_findEnd 11 [(0, .ref (z0 G + v0)), (1, .int v1)] [] w 0 0 (oI r.1) r.2 := by
  unfold b_Archive_findEnd_11 at h
  refine V_iload_n (i := 1) d_Archive_findEnd_11 rfl 1 rfl ?_
  refine V_if_lt (tgt := 83) d_Archive_findEnd_12 (by decide) (fun c12 => ?_) (fun c12 => ?_)
  · rw [if_pos c12] at h
    refine V_iconst (v := -1) d_Archive_findEnd_83 (by decide) ?_
    obtain rfl := Option.some.inj h
    exact V_iret rfl (by decide) (by decide) d_Archive_findEnd_84
  · rw [if_neg c12] at h
    refine V_aload_n (i := 0) d_Archive_findEnd_15 rfl 0 rfl ?_
    obtain ⟨x16, e16, h⟩ := ob h
    refine V_getR (ci := 6) (k := 0) d_Archive_findEnd_16 e16 rfl (by decide) in_Archive k212 ?_
    obtain ⟨x19, e19, h⟩ := ob h
    refine V_getR (ci := 0) (k := 0) d_Archive_findEnd_19 e19 rfl (by decide) in_Row k38 ?_
    refine V_iload_n (i := 1) d_Archive_findEnd_22 rfl 1 rfl ?_
    obtain ⟨x23, e23, h⟩ := ob h
    refine V_aget d_Archive_findEnd_23 e23 ?_
    refine V_bipush (v := 80) d_Archive_findEnd_24 (by decide) ?_
    refine V_icmp_ne (tgt := 77) d_Archive_findEnd_26 (by decide) (fun c26 => ?_) (fun c26 => ?_)
    · rw [if_neg c26] at h
      exact b_Archive_findEnd_77_ok G F K11 hK11 v0 v1 w _ h
    · rw [if_pos c26] at h
      refine V_aload_n (i := 0) d_Archive_findEnd_29 rfl 0 rfl ?_
      obtain ⟨x30, e30, h⟩ := ob h
      refine V_getR (ci := 6) (k := 0) d_Archive_findEnd_30 e30 rfl (by decide) in_Archive k212 ?_
      refine V_iload_n (i := 1) d_Archive_findEnd_33 rfl 1 rfl ?_
      refine V_iconst (v := 4) d_Archive_findEnd_34 (by decide) ?_
      obtain ⟨_, eo35, h⟩ := ob h
      obtain ⟨r35, e35, h⟩ := ob h
      refine V_call (v := some (.long r35.1)) (st := []) (inv_V (N := m_Row_number) (As := [.int v1, .int (4 : Int32)]) (ci := 0) d_Archive_findEnd_35 eo35 rfl k368 k369 k370 kc_Row_number y_Row_number) ⟨Or.inl kc_Row_number, k2, by decide, by decide⟩ (Nat.le_of_ble_eq_true rfl) (by decide) (by decide) (c_Row_number G F x30 v1 (4 : Int32) w r35 e35) ?_
      refine V_ldc2 (v := 101010256) d_Archive_findEnd_38 k372 ?_
      refine V_lcmp d_Archive_findEnd_41 ?_
      refine V_if_ne (tgt := 77) d_Archive_findEnd_42 (by decide) (fun c42 => ?_) (fun c42 => ?_)
      · rw [if_neg c42] at h
        exact b_Archive_findEnd_77_ok G F K11 hK11 v0 v1 r35.2 _ h
      · rw [if_pos c42] at h
        refine V_iload_n (i := 1) d_Archive_findEnd_45 rfl 1 rfl ?_
        refine V_bipush (v := 22) d_Archive_findEnd_46 (by decide) ?_
        refine V_iadd d_Archive_findEnd_48 ?_
        refine V_i2l d_Archive_findEnd_49 ?_
        refine V_aload_n (i := 0) d_Archive_findEnd_50 rfl 0 rfl ?_
        obtain ⟨x51, e51, h⟩ := ob h
        refine V_getR (ci := 6) (k := 0) d_Archive_findEnd_51 e51 rfl (by decide) in_Archive k212 ?_
        refine V_iload_n (i := 1) d_Archive_findEnd_54 rfl 1 rfl ?_
        refine V_bipush (v := 20) d_Archive_findEnd_55 (by decide) ?_
        refine V_iadd d_Archive_findEnd_57 ?_
        refine V_iconst (v := 2) d_Archive_findEnd_58 (by decide) ?_
        obtain ⟨_, eo59, h⟩ := ob h
        obtain ⟨r59, e59, h⟩ := ob h
        refine V_call (v := some (.long r59.1)) (st := [.long (v1 + (22 : Int32)).toInt64]) (inv_V (N := m_Row_number) (As := [.int (v1 + (20 : Int32)), .int (2 : Int32)]) (ci := 0) d_Archive_findEnd_59 eo59 rfl k368 k369 k370 kc_Row_number y_Row_number) ⟨Or.inl kc_Row_number, k2, by decide, by decide⟩ (Nat.le_of_ble_eq_true rfl) (by decide) (by decide) (c_Row_number G F x51 (v1 + (20 : Int32)) (2 : Int32) r35.2 r59 e59) ?_
        refine V_ladd d_Archive_findEnd_62 ?_
        refine V_aload_n (i := 0) d_Archive_findEnd_63 rfl 0 rfl ?_
        obtain ⟨x64, e64, h⟩ := ob h
        refine V_getR (ci := 6) (k := 0) d_Archive_findEnd_64 e64 rfl (by decide) in_Archive k212 ?_
        obtain ⟨x67, e67, h⟩ := ob h
        refine V_getI (ci := 0) (k := 1) d_Archive_findEnd_67 e67 rfl (by decide) in_Row k44 ?_
        refine V_i2l d_Archive_findEnd_70 ?_
        refine V_lcmp d_Archive_findEnd_71 ?_
        refine V_if_ne (tgt := 77) d_Archive_findEnd_72 (by decide) (fun c72 => ?_) (fun c72 => ?_)
        · rw [if_neg c72] at h
          exact b_Archive_findEnd_77_ok G F K11 hK11 v0 v1 r59.2 _ h
        · rw [if_pos c72] at h
          refine V_iload_n (i := 1) d_Archive_findEnd_75 rfl 1 rfl ?_
          obtain rfl := Option.some.inj h
          exact V_iret rfl (by decide) (by decide) d_Archive_findEnd_76
def l_Archive_findEnd_11 (F : Nat) : Nat → Nat → Int32 → zW → Option (Int32 × zW)
  | 0 => fun _ _ _ => none
  | n + 1 => b_Archive_findEnd_11 F (l_Archive_findEnd_11 F n)
theorem l_Archive_findEnd_11_ok (G : zG) (F : Nat) (n : Nat) :  ∀ (v0 : Nat) (v1 : Int32) (w : zW) (r : (Int32 × zW)), l_Archive_findEnd_11 F n v0 v1 w = some r → zV G m_Archive_findEnd 11 [(0, .ref (z0 G + v0)), (1, .int v1)] [] w 0 0 (oI r.1) r.2 := by
  induction n with
  | zero => intro v0 v1 w r h; exact nomatch (show (none : Option (Int32 × zW)) = some r from h)
  | succ n ih => intro v0 v1 w r h; exact b_Archive_findEnd_11_ok G F (l_Archive_findEnd_11 F n) ih v0 v1 w r h
def b_Archive_findEnd_0 (F : Nat) (v0 : Nat) (w : zW) : Option (Int32 × zW) := (getR w v0 6 0).bind fun x1 => (getI w x1 0 1).bind fun x4 => l_Archive_findEnd_11 F F v0 (x4 - (22 : Int32)) w
set_option maxRecDepth 100000 in
set_option maxHeartbeats 4000000 in
theorem b_Archive_findEnd_0_ok (G : zG) (F : Nat) (v0 : Nat) (w : zW) (r : (Int32 × zW)) (h : b_Archive_findEnd_0 F v0 w = some r) : zV G m_Archive_findEnd 0 [(0, .ref (z0 G + v0))] [] w 0 0 (oI r.1) r.2 := by
  unfold b_Archive_findEnd_0 at h
  refine V_aload_n (i := 0) d_Archive_findEnd_0 rfl 0 rfl ?_
  obtain ⟨x1, e1, h⟩ := ob h
  refine V_getR (ci := 6) (k := 0) d_Archive_findEnd_1 e1 rfl (by decide) in_Archive k212 ?_
  obtain ⟨x4, e4, h⟩ := ob h
  refine V_getI (ci := 0) (k := 1) d_Archive_findEnd_4 e4 rfl (by decide) in_Row k44 ?_
  refine V_bipush (v := 22) d_Archive_findEnd_7 (by decide) ?_
  refine V_isub d_Archive_findEnd_9 ?_
  refine V_istore_n (i := 1) d_Archive_findEnd_10 rfl (by decide) rfl ?_
  refine V_lv [1, 0] rfl ?_
  exact l_Archive_findEnd_11_ok G F F v0 (x4 - (22 : Int32)) w _ h
def f_Archive_findEnd (F : Nat) (v0 : Nat) (w : zW) : Option (Int32 × zW) := b_Archive_findEnd_0 F v0 w
theorem c_Archive_findEnd (G : zG) (F : Nat) (v0 : Nat) (w : zW) (r : (Int32 × zW)) (h : f_Archive_findEnd F v0 w = some r) : zCT G m_Archive_findEnd [.ref (z0 G + v0)] w (oI r.1) r.2 := zCT.ofV (by decide +kernel) (Or.inl ⟨kc_Archive_findEnd, rfl⟩) (Nat.le_of_ble_eq_true rfl) (b_Archive_findEnd_0_ok G F v0 w r h)

/-! ZipArray$Archive.takeCounts(JJ)Z -/
def m_Archive_takeCounts : zM := (⟨R_Archive, "takeCounts", "(JJ)Z"⟩, prog_2_method_6_code, 5, (some .boolean), [], { frames := 0, cells := 0, slots := 0, locals := 0 })
theorem k216 : Cond.fieldLink R_Archive 31 (T_Archive 3).1 (T_Archive 3).2.1 (T_Archive 3).2.2.1 ∈ zTb := tb_at 216 (by decide +kernel) rfl
theorem k382 : Cond.constantLong R_Archive 97 8 ∈ zTb := tb_at 382 (by decide +kernel) rfl
theorem kc_Archive_takeCounts : Cond.code (mY m_Archive_takeCounts) (mC m_Archive_takeCounts) (mL m_Archive_takeCounts) (mT m_Archive_takeCounts) ∈ zTb := tb_at 381 (by decide +kernel) rfl
theorem y_Archive_takeCounts : (mY m_Archive_takeCounts).cls ≠ "java/lang/invoke/MethodHandle" ∧ (mY m_Archive_takeCounts).cls ≠ "java/lang/invoke/VarHandle" ∧ (parseMethodDescriptor (mY m_Archive_takeCounts).desc).map (fun d => d.parameters.length) = some 2 := by decide +kernel
theorem sel_Archive_takeCounts : Cond.selects R_Archive (mY m_Archive_takeCounts) (mY m_Archive_takeCounts) ∈ zTb := sel_at (y := mY m_Archive_takeCounts) (n := 7) 3 (by decide +kernel)
theorem d_Archive_takeCounts_0 : decode (mC m_Archive_takeCounts) 0 = .ok (.lload_n 1, 1) := by decide +kernel
theorem d_Archive_takeCounts_1 : decode (mC m_Archive_takeCounts) 1 = .ok (.lload_n 3, 1) := by decide +kernel
theorem d_Archive_takeCounts_2 : decode (mC m_Archive_takeCounts) 2 = .ok (.lcmp, 1) := by decide +kernel
theorem d_Archive_takeCounts_3 : decode (mC m_Archive_takeCounts) 3 = .ok (.ifCond .ne 17, 3) := by decide +kernel
theorem d_Archive_takeCounts_6 : decode (mC m_Archive_takeCounts) 6 = .ok (.lload_n 1, 1) := by decide +kernel
theorem d_Archive_takeCounts_7 : decode (mC m_Archive_takeCounts) 7 = .ok (.lconst 0, 1) := by decide +kernel
theorem d_Archive_takeCounts_8 : decode (mC m_Archive_takeCounts) 8 = .ok (.lcmp, 1) := by decide +kernel
theorem d_Archive_takeCounts_9 : decode (mC m_Archive_takeCounts) 9 = .ok (.ifCond .lt 11, 3) := by decide +kernel
theorem d_Archive_takeCounts_12 : decode (mC m_Archive_takeCounts) 12 = .ok (.lload_n 1, 1) := by decide +kernel
theorem d_Archive_takeCounts_13 : decode (mC m_Archive_takeCounts) 13 = .ok (.ldc2_w 97, 3) := by decide +kernel
theorem d_Archive_takeCounts_16 : decode (mC m_Archive_takeCounts) 16 = .ok (.lcmp, 1) := by decide +kernel
theorem d_Archive_takeCounts_17 : decode (mC m_Archive_takeCounts) 17 = .ok (.ifCond .le 5, 3) := by decide +kernel
theorem d_Archive_takeCounts_20 : decode (mC m_Archive_takeCounts) 20 = .ok (.iconst 0, 1) := by decide +kernel
theorem d_Archive_takeCounts_21 : decode (mC m_Archive_takeCounts) 21 = .ok (.ireturn, 1) := by decide +kernel
theorem d_Archive_takeCounts_22 : decode (mC m_Archive_takeCounts) 22 = .ok (.aload_n 0, 1) := by decide +kernel
theorem d_Archive_takeCounts_23 : decode (mC m_Archive_takeCounts) 23 = .ok (.lload_n 1, 1) := by decide +kernel
theorem d_Archive_takeCounts_24 : decode (mC m_Archive_takeCounts) 24 = .ok (.l2i, 1) := by decide +kernel
theorem d_Archive_takeCounts_25 : decode (mC m_Archive_takeCounts) 25 = .ok (.putfield 31, 3) := by decide +kernel
theorem d_Archive_takeCounts_28 : decode (mC m_Archive_takeCounts) 28 = .ok (.iconst 1, 1) := by decide +kernel
theorem d_Archive_takeCounts_29 : decode (mC m_Archive_takeCounts) 29 = .ok (.ireturn, 1) := by decide +kernel
def b_Archive_takeCounts_20 (F : Nat) (w : zW) : Option (Int32 × zW) := some ((0 : Int32), w)
set_option maxRecDepth 100000 in
set_option maxHeartbeats 4000000 in
theorem b_Archive_takeCounts_20_ok (G : zG) (F : Nat) (w : zW) (r : (Int32 × zW)) (h : b_Archive_takeCounts_20 F w = some r) : zV G m_Archive_takeCounts 20 [] [] w 0 0 (oI r.1) r.2 := by
  unfold b_Archive_takeCounts_20 at h
  refine V_iconst (v := 0) d_Archive_takeCounts_20 (by decide) ?_
  obtain rfl := Option.some.inj h
  exact V_zret rfl (Or.inl rfl) (by decide) (by decide) d_Archive_takeCounts_21
def b_Archive_takeCounts_0 (F : Nat) (v0 : Nat) (v1 : Int64) (v3 : Int64) (w : zW) : Option (Int32 × zW) := if (lg_cmp v1 v3) = 0 then (if (lg_cmp v1 (0 : Int64)) < 0 then (b_Archive_takeCounts_20 F w) else (if (lg_cmp v1 (8 : Int64)) ≤ 0 then ((putI w v0 6 3 v1.toInt32).bind fun w25 => some ((1 : Int32), w25)) else (b_Archive_takeCounts_20 F w))) else (b_Archive_takeCounts_20 F w)
set_option maxRecDepth 100000 in
set_option maxHeartbeats 4000000 in
theorem b_Archive_takeCounts_0_ok (G : zG) (F : Nat) (v0 : Nat) (v1 : Int64) (v3 : Int64) (w : zW) (r : (Int32 × zW)) (h : b_Archive_takeCounts_0 F v0 v1 v3 w = some r) : zV G m_Archive_takeCounts 0 [(0, .ref (z0 G + v0)), (1, .long v1), (3, .long v3)] [] w 0 0 (oI r.1) r.2 := by
  unfold b_Archive_takeCounts_0 at h
  refine V_lload_n (i := 1) d_Archive_takeCounts_0 rfl 1 rfl ?_
  refine V_lload_n (i := 3) d_Archive_takeCounts_1 rfl 2 rfl ?_
  refine V_lcmp d_Archive_takeCounts_2 ?_
  refine V_if_ne (tgt := 20) d_Archive_takeCounts_3 (by decide) (fun c3 => ?_) (fun c3 => ?_)
  · rw [if_neg c3] at h
    refine V_lv [] rfl ?_
    exact b_Archive_takeCounts_20_ok G F w _ h
  · rw [if_pos c3] at h
    refine V_lload_n (i := 1) d_Archive_takeCounts_6 rfl 1 rfl ?_
    refine V_lconst (v := 0) d_Archive_takeCounts_7 (by decide) ?_
    refine V_lcmp d_Archive_takeCounts_8 ?_
    refine V_if_lt (tgt := 20) d_Archive_takeCounts_9 (by decide) (fun c9 => ?_) (fun c9 => ?_)
    · rw [if_pos c9] at h
      refine V_lv [] rfl ?_
      exact b_Archive_takeCounts_20_ok G F w _ h
    · rw [if_neg c9] at h
      refine V_lload_n (i := 1) d_Archive_takeCounts_12 rfl 1 rfl ?_
      refine V_ldc2 (v := 8) d_Archive_takeCounts_13 k382 ?_
      refine V_lcmp d_Archive_takeCounts_16 ?_
      refine V_if_le (tgt := 22) d_Archive_takeCounts_17 (by decide) (fun c17 => ?_) (fun c17 => ?_)
      · rw [if_pos c17] at h
        refine V_aload_n (i := 0) d_Archive_takeCounts_22 rfl 0 rfl ?_
        refine V_lload_n (i := 1) d_Archive_takeCounts_23 rfl 1 rfl ?_
        refine V_l2i d_Archive_takeCounts_24 ?_
        obtain ⟨w25, e25, h⟩ := ob h
        refine V_putI (ci := 6) (k := 3) t_Archive d_Archive_takeCounts_25 e25 rfl (by decide) in_Archive k216 ty_Archive nm_Archive rfl (Or.inl rfl) ?_
        refine V_iconst (v := 1) d_Archive_takeCounts_28 (by decide) ?_
        obtain rfl := Option.some.inj h
        exact V_zret rfl (Or.inr rfl) (by decide) (by decide) d_Archive_takeCounts_29
      · rw [if_neg c17] at h
        refine V_lv [] rfl ?_
        exact b_Archive_takeCounts_20_ok G F w _ h
def f_Archive_takeCounts (F : Nat) (v0 : Nat) (v1 : Int64) (v3 : Int64) (w : zW) : Option (Int32 × zW) := b_Archive_takeCounts_0 F v0 v1 v3 w
theorem c_Archive_takeCounts (G : zG) (F : Nat) (v0 : Nat) (v1 : Int64) (v3 : Int64) (w : zW) (r : (Int32 × zW)) (h : f_Archive_takeCounts F v0 v1 v3 w = some r) : zCT G m_Archive_takeCounts [.ref (z0 G + v0), .long v1, .long v3] w (oI r.1) r.2 := zCT.ofV (by decide +kernel) (Or.inl ⟨kc_Archive_takeCounts, rfl⟩) (Nat.le_of_ble_eq_true rfl) (b_Archive_takeCounts_0_ok G F v0 v1 v3 w r h)

/-! ZipArray$Archive.takeBounds(JJI)Z -/
def m_Archive_takeBounds : zM := (⟨R_Archive, "takeBounds", "(JJI)Z"⟩, prog_2_method_7_code, 6, (some .boolean), [], { frames := 0, cells := 0, slots := 0, locals := 0 })
theorem k218 : Cond.fieldLink R_Archive 46 (T_Archive 4).1 (T_Archive 4).2.1 (T_Archive 4).2.2.1 ∈ zTb := tb_at 218 (by decide +kernel) rfl
theorem k220 : Cond.fieldLink R_Archive 56 (T_Archive 5).1 (T_Archive 5).2.1 (T_Archive 5).2.2.1 ∈ zTb := tb_at 220 (by decide +kernel) rfl
theorem kc_Archive_takeBounds : Cond.code (mY m_Archive_takeBounds) (mC m_Archive_takeBounds) (mL m_Archive_takeBounds) (mT m_Archive_takeBounds) ∈ zTb := tb_at 386 (by decide +kernel) rfl
theorem y_Archive_takeBounds : (mY m_Archive_takeBounds).cls ≠ "java/lang/invoke/MethodHandle" ∧ (mY m_Archive_takeBounds).cls ≠ "java/lang/invoke/VarHandle" ∧ (parseMethodDescriptor (mY m_Archive_takeBounds).desc).map (fun d => d.parameters.length) = some 3 := by decide +kernel
theorem sel_Archive_takeBounds : Cond.selects R_Archive (mY m_Archive_takeBounds) (mY m_Archive_takeBounds) ∈ zTb := sel_at (y := mY m_Archive_takeBounds) (n := 7) 4 (by decide +kernel)
theorem d_Archive_takeBounds_0 : decode (mC m_Archive_takeBounds) 0 = .ok (.lload_n 1, 1) := by decide +kernel
theorem d_Archive_takeBounds_1 : decode (mC m_Archive_takeBounds) 1 = .ok (.lconst 0, 1) := by decide +kernel
theorem d_Archive_takeBounds_2 : decode (mC m_Archive_takeBounds) 2 = .ok (.lcmp, 1) := by decide +kernel
theorem d_Archive_takeBounds_3 : decode (mC m_Archive_takeBounds) 3 = .ok (.ifCond .lt 21, 3) := by decide +kernel
theorem d_Archive_takeBounds_6 : decode (mC m_Archive_takeBounds) 6 = .ok (.lload_n 1, 1) := by decide +kernel
theorem d_Archive_takeBounds_7 : decode (mC m_Archive_takeBounds) 7 = .ok (.iload 5, 2) := by decide +kernel
theorem d_Archive_takeBounds_9 : decode (mC m_Archive_takeBounds) 9 = .ok (.i2l, 1) := by decide +kernel
theorem d_Archive_takeBounds_10 : decode (mC m_Archive_takeBounds) 10 = .ok (.lcmp, 1) := by decide +kernel
theorem d_Archive_takeBounds_11 : decode (mC m_Archive_takeBounds) 11 = .ok (.ifCond .gt 13, 3) := by decide +kernel
theorem d_Archive_takeBounds_14 : decode (mC m_Archive_takeBounds) 14 = .ok (.lload_n 3, 1) := by decide +kernel
theorem d_Archive_takeBounds_15 : decode (mC m_Archive_takeBounds) 15 = .ok (.iload 5, 2) := by decide +kernel
theorem d_Archive_takeBounds_17 : decode (mC m_Archive_takeBounds) 17 = .ok (.i2l, 1) := by decide +kernel
theorem d_Archive_takeBounds_18 : decode (mC m_Archive_takeBounds) 18 = .ok (.lload_n 1, 1) := by decide +kernel
theorem d_Archive_takeBounds_19 : decode (mC m_Archive_takeBounds) 19 = .ok (.lsub, 1) := by decide +kernel
theorem d_Archive_takeBounds_20 : decode (mC m_Archive_takeBounds) 20 = .ok (.lcmp, 1) := by decide +kernel
theorem d_Archive_takeBounds_21 : decode (mC m_Archive_takeBounds) 21 = .ok (.ifCond .eq 5, 3) := by decide +kernel
theorem d_Archive_takeBounds_24 : decode (mC m_Archive_takeBounds) 24 = .ok (.iconst 0, 1) := by decide +kernel
theorem d_Archive_takeBounds_25 : decode (mC m_Archive_takeBounds) 25 = .ok (.ireturn, 1) := by decide +kernel
theorem d_Archive_takeBounds_26 : decode (mC m_Archive_takeBounds) 26 = .ok (.aload_n 0, 1) := by decide +kernel
theorem d_Archive_takeBounds_27 : decode (mC m_Archive_takeBounds) 27 = .ok (.lload_n 1, 1) := by decide +kernel
theorem d_Archive_takeBounds_28 : decode (mC m_Archive_takeBounds) 28 = .ok (.l2i, 1) := by decide +kernel
theorem d_Archive_takeBounds_29 : decode (mC m_Archive_takeBounds) 29 = .ok (.putfield 46, 3) := by decide +kernel
theorem d_Archive_takeBounds_32 : decode (mC m_Archive_takeBounds) 32 = .ok (.aload_n 0, 1) := by decide +kernel
theorem d_Archive_takeBounds_33 : decode (mC m_Archive_takeBounds) 33 = .ok (.iload 5, 2) := by decide +kernel
theorem d_Archive_takeBounds_35 : decode (mC m_Archive_takeBounds) 35 = .ok (.putfield 56, 3) := by decide +kernel
theorem d_Archive_takeBounds_38 : decode (mC m_Archive_takeBounds) 38 = .ok (.iconst 1, 1) := by decide +kernel
theorem d_Archive_takeBounds_39 : decode (mC m_Archive_takeBounds) 39 = .ok (.ireturn, 1) := by decide +kernel
def b_Archive_takeBounds_24 (F : Nat) (w : zW) : Option (Int32 × zW) := some ((0 : Int32), w)
set_option maxRecDepth 100000 in
set_option maxHeartbeats 4000000 in
theorem b_Archive_takeBounds_24_ok (G : zG) (F : Nat) (w : zW) (r : (Int32 × zW)) (h : b_Archive_takeBounds_24 F w = some r) : zV G m_Archive_takeBounds 24 [] [] w 0 0 (oI r.1) r.2 := by
  unfold b_Archive_takeBounds_24 at h
  refine V_iconst (v := 0) d_Archive_takeBounds_24 (by decide) ?_
  obtain rfl := Option.some.inj h
  exact V_zret rfl (Or.inl rfl) (by decide) (by decide) d_Archive_takeBounds_25
def b_Archive_takeBounds_0 (F : Nat) (v0 : Nat) (v1 : Int64) (v3 : Int64) (v5 : Int32) (w : zW) : Option (Int32 × zW) := if (lg_cmp v1 (0 : Int64)) < 0 then (b_Archive_takeBounds_24 F w) else (if 0 < (lg_cmp v1 v5.toInt64) then (b_Archive_takeBounds_24 F w) else (if (lg_cmp v3 (v5.toInt64 - v1)) = 0 then ((putI w v0 6 4 v1.toInt32).bind fun w29 => (putI w29 v0 6 5 v5).bind fun w35 => some ((1 : Int32), w35)) else (b_Archive_takeBounds_24 F w)))
set_option maxRecDepth 100000 in
set_option maxHeartbeats 4000000 in
theorem b_Archive_takeBounds_0_ok (G : zG) (F : Nat) (v0 : Nat) (v1 : Int64) (v3 : Int64) (v5 : Int32) (w : zW) (r : (Int32 × zW)) (h : b_Archive_takeBounds_0 F v0 v1 v3 v5 w = some r) : zV G m_Archive_takeBounds 0 [(0, .ref (z0 G + v0)), (1, .long v1), (3, .long v3), (5, .int v5)] [] w 0 0 (oI r.1) r.2 := by
  unfold b_Archive_takeBounds_0 at h
  refine V_lload_n (i := 1) d_Archive_takeBounds_0 rfl 1 rfl ?_
  refine V_lconst (v := 0) d_Archive_takeBounds_1 (by decide) ?_
  refine V_lcmp d_Archive_takeBounds_2 ?_
  refine V_if_lt (tgt := 24) d_Archive_takeBounds_3 (by decide) (fun c3 => ?_) (fun c3 => ?_)
  · rw [if_pos c3] at h
    refine V_lv [] rfl ?_
    exact b_Archive_takeBounds_24_ok G F w _ h
  · rw [if_neg c3] at h
    refine V_lload_n (i := 1) d_Archive_takeBounds_6 rfl 1 rfl ?_
    refine V_iload (i := 5) d_Archive_takeBounds_7 3 rfl ?_
    refine V_i2l d_Archive_takeBounds_9 ?_
    refine V_lcmp d_Archive_takeBounds_10 ?_
    refine V_if_gt (tgt := 24) d_Archive_takeBounds_11 (by decide) (fun c11 => ?_) (fun c11 => ?_)
    · rw [if_pos c11] at h
      refine V_lv [] rfl ?_
      exact b_Archive_takeBounds_24_ok G F w _ h
    · rw [if_neg c11] at h
      refine V_lload_n (i := 3) d_Archive_takeBounds_14 rfl 2 rfl ?_
      refine V_iload (i := 5) d_Archive_takeBounds_15 3 rfl ?_
      refine V_i2l d_Archive_takeBounds_17 ?_
      refine V_lload_n (i := 1) d_Archive_takeBounds_18 rfl 1 rfl ?_
      refine V_lsub d_Archive_takeBounds_19 ?_
      refine V_lcmp d_Archive_takeBounds_20 ?_
      refine V_if_eq (tgt := 26) d_Archive_takeBounds_21 (by decide) (fun c21 => ?_) (fun c21 => ?_)
      · rw [if_pos c21] at h
        refine V_aload_n (i := 0) d_Archive_takeBounds_26 rfl 0 rfl ?_
        refine V_lload_n (i := 1) d_Archive_takeBounds_27 rfl 1 rfl ?_
        refine V_l2i d_Archive_takeBounds_28 ?_
        obtain ⟨w29, e29, h⟩ := ob h
        refine V_putI (ci := 6) (k := 4) t_Archive d_Archive_takeBounds_29 e29 rfl (by decide) in_Archive k218 ty_Archive nm_Archive rfl (Or.inl rfl) ?_
        refine V_aload_n (i := 0) d_Archive_takeBounds_32 rfl 0 rfl ?_
        refine V_iload (i := 5) d_Archive_takeBounds_33 3 rfl ?_
        obtain ⟨w35, e35, h⟩ := ob h
        refine V_putI (ci := 6) (k := 5) t_Archive d_Archive_takeBounds_35 e35 rfl (by decide) in_Archive k220 ty_Archive nm_Archive rfl (Or.inl rfl) ?_
        refine V_iconst (v := 1) d_Archive_takeBounds_38 (by decide) ?_
        obtain rfl := Option.some.inj h
        exact V_zret rfl (Or.inr rfl) (by decide) (by decide) d_Archive_takeBounds_39
      · rw [if_neg c21] at h
        refine V_lv [] rfl ?_
        exact b_Archive_takeBounds_24_ok G F w _ h
def f_Archive_takeBounds (F : Nat) (v0 : Nat) (v1 : Int64) (v3 : Int64) (v5 : Int32) (w : zW) : Option (Int32 × zW) := b_Archive_takeBounds_0 F v0 v1 v3 v5 w
theorem c_Archive_takeBounds (G : zG) (F : Nat) (v0 : Nat) (v1 : Int64) (v3 : Int64) (v5 : Int32) (w : zW) (r : (Int32 × zW)) (h : f_Archive_takeBounds F v0 v1 v3 v5 w = some r) : zCT G m_Archive_takeBounds [.ref (z0 G + v0), .long v1, .long v3, .int v5] w (oI r.1) r.2 := zCT.ofV (by decide +kernel) (Or.inl ⟨kc_Archive_takeBounds, rfl⟩) (Nat.le_of_ble_eq_true rfl) (b_Archive_takeBounds_0_ok G F v0 v1 v3 v5 w r h)

/-! ZipArray$Archive.readEnd(I)Z -/
def m_Archive_readEnd : zM := (⟨R_Archive, "readEnd", "(I)Z"⟩, prog_2_method_5_code, 6, (some .boolean), [], { frames := 1, cells := 0, slots := 0, locals := 25 })
theorem k377 : Cond.constantLong R_Archive 81 4294967295 ∈ zTb := tb_at 377 (by decide +kernel) rfl
theorem k378 : Cond.methodLink R_Archive 83 (mY m_Archive_takeCounts) ∈ zTb := tb_at 378 (by decide +kernel) rfl
theorem k380 : Cond.instanceMethod (mY m_Archive_takeCounts) ∈ zTb := tb_at 380 (by decide +kernel) rfl
theorem k383 : Cond.methodLink R_Archive 87 (mY m_Archive_takeBounds) ∈ zTb := tb_at 383 (by decide +kernel) rfl
theorem k385 : Cond.instanceMethod (mY m_Archive_takeBounds) ∈ zTb := tb_at 385 (by decide +kernel) rfl
theorem k387 : Cond.constantLong R_Archive 91 117853008 ∈ zTb := tb_at 387 (by decide +kernel) rfl
theorem k388 : Cond.constantLong R_Archive 93 101075792 ∈ zTb := tb_at 388 (by decide +kernel) rfl
theorem k389 : Cond.constantLong R_Archive 95 44 ∈ zTb := tb_at 389 (by decide +kernel) rfl
theorem kc_Archive_readEnd : Cond.code (mY m_Archive_readEnd) (mC m_Archive_readEnd) (mL m_Archive_readEnd) (mT m_Archive_readEnd) ∈ zTb := tb_at 376 (by decide +kernel) rfl
theorem y_Archive_readEnd : (mY m_Archive_readEnd).cls ≠ "java/lang/invoke/MethodHandle" ∧ (mY m_Archive_readEnd).cls ≠ "java/lang/invoke/VarHandle" ∧ (parseMethodDescriptor (mY m_Archive_readEnd).desc).map (fun d => d.parameters.length) = some 1 := by decide +kernel
theorem sel_Archive_readEnd : Cond.selects R_Archive (mY m_Archive_readEnd) (mY m_Archive_readEnd) ∈ zTb := sel_at (y := mY m_Archive_readEnd) (n := 7) 2 (by decide +kernel)
theorem d_Archive_readEnd_0 : decode (mC m_Archive_readEnd) 0 = .ok (.aload_n 0, 1) := by decide +kernel
theorem d_Archive_readEnd_1 : decode (mC m_Archive_readEnd) 1 = .ok (.getfield 9, 3) := by decide +kernel
theorem d_Archive_readEnd_4 : decode (mC m_Archive_readEnd) 4 = .ok (.iload_n 1, 1) := by decide +kernel
theorem d_Archive_readEnd_5 : decode (mC m_Archive_readEnd) 5 = .ok (.bipush 16, 2) := by decide +kernel
theorem d_Archive_readEnd_7 : decode (mC m_Archive_readEnd) 7 = .ok (.iadd, 1) := by decide +kernel
theorem d_Archive_readEnd_8 : decode (mC m_Archive_readEnd) 8 = .ok (.iconst 4, 1) := by decide +kernel
theorem d_Archive_readEnd_9 : decode (mC m_Archive_readEnd) 9 = .ok (.invokevirtual 75, 3) := by decide +kernel
theorem d_Archive_readEnd_12 : decode (mC m_Archive_readEnd) 12 = .ok (.lstore_n 2, 1) := by decide +kernel
theorem d_Archive_readEnd_13 : decode (mC m_Archive_readEnd) 13 = .ok (.lload_n 2, 1) := by decide +kernel
theorem d_Archive_readEnd_14 : decode (mC m_Archive_readEnd) 14 = .ok (.ldc2_w 81, 3) := by decide +kernel
theorem d_Archive_readEnd_17 : decode (mC m_Archive_readEnd) 17 = .ok (.lcmp, 1) := by decide +kernel
theorem d_Archive_readEnd_18 : decode (mC m_Archive_readEnd) 18 = .ok (.ifCond .eq 61, 3) := by decide +kernel
theorem d_Archive_readEnd_21 : decode (mC m_Archive_readEnd) 21 = .ok (.aload_n 0, 1) := by decide +kernel
theorem d_Archive_readEnd_22 : decode (mC m_Archive_readEnd) 22 = .ok (.aload_n 0, 1) := by decide +kernel
theorem d_Archive_readEnd_23 : decode (mC m_Archive_readEnd) 23 = .ok (.getfield 9, 3) := by decide +kernel
theorem d_Archive_readEnd_26 : decode (mC m_Archive_readEnd) 26 = .ok (.iload_n 1, 1) := by decide +kernel
theorem d_Archive_readEnd_27 : decode (mC m_Archive_readEnd) 27 = .ok (.bipush 8, 2) := by decide +kernel
theorem d_Archive_readEnd_29 : decode (mC m_Archive_readEnd) 29 = .ok (.iadd, 1) := by decide +kernel
theorem d_Archive_readEnd_30 : decode (mC m_Archive_readEnd) 30 = .ok (.iconst 2, 1) := by decide +kernel
theorem d_Archive_readEnd_31 : decode (mC m_Archive_readEnd) 31 = .ok (.invokevirtual 75, 3) := by decide +kernel
theorem d_Archive_readEnd_34 : decode (mC m_Archive_readEnd) 34 = .ok (.aload_n 0, 1) := by decide +kernel
theorem d_Archive_readEnd_35 : decode (mC m_Archive_readEnd) 35 = .ok (.getfield 9, 3) := by decide +kernel
theorem d_Archive_readEnd_38 : decode (mC m_Archive_readEnd) 38 = .ok (.iload_n 1, 1) := by decide +kernel
theorem d_Archive_readEnd_39 : decode (mC m_Archive_readEnd) 39 = .ok (.bipush 10, 2) := by decide +kernel
theorem d_Archive_readEnd_41 : decode (mC m_Archive_readEnd) 41 = .ok (.iadd, 1) := by decide +kernel
theorem d_Archive_readEnd_42 : decode (mC m_Archive_readEnd) 42 = .ok (.iconst 2, 1) := by decide +kernel
theorem d_Archive_readEnd_43 : decode (mC m_Archive_readEnd) 43 = .ok (.invokevirtual 75, 3) := by decide +kernel
theorem d_Archive_readEnd_46 : decode (mC m_Archive_readEnd) 46 = .ok (.invokevirtual 83, 3) := by decide +kernel
theorem d_Archive_readEnd_49 : decode (mC m_Archive_readEnd) 49 = .ok (.ifCond .eq 28, 3) := by decide +kernel
theorem d_Archive_readEnd_52 : decode (mC m_Archive_readEnd) 52 = .ok (.aload_n 0, 1) := by decide +kernel
theorem d_Archive_readEnd_53 : decode (mC m_Archive_readEnd) 53 = .ok (.lload_n 2, 1) := by decide +kernel
theorem d_Archive_readEnd_54 : decode (mC m_Archive_readEnd) 54 = .ok (.aload_n 0, 1) := by decide +kernel
theorem d_Archive_readEnd_55 : decode (mC m_Archive_readEnd) 55 = .ok (.getfield 9, 3) := by decide +kernel
theorem d_Archive_readEnd_58 : decode (mC m_Archive_readEnd) 58 = .ok (.iload_n 1, 1) := by decide +kernel
theorem d_Archive_readEnd_59 : decode (mC m_Archive_readEnd) 59 = .ok (.bipush 12, 2) := by decide +kernel
theorem d_Archive_readEnd_61 : decode (mC m_Archive_readEnd) 61 = .ok (.iadd, 1) := by decide +kernel
theorem d_Archive_readEnd_62 : decode (mC m_Archive_readEnd) 62 = .ok (.iconst 4, 1) := by decide +kernel
theorem d_Archive_readEnd_63 : decode (mC m_Archive_readEnd) 63 = .ok (.invokevirtual 75, 3) := by decide +kernel
theorem d_Archive_readEnd_66 : decode (mC m_Archive_readEnd) 66 = .ok (.iload_n 1, 1) := by decide +kernel
theorem d_Archive_readEnd_67 : decode (mC m_Archive_readEnd) 67 = .ok (.invokevirtual 87, 3) := by decide +kernel
theorem d_Archive_readEnd_70 : decode (mC m_Archive_readEnd) 70 = .ok (.ifCond .eq 7, 3) := by decide +kernel
theorem d_Archive_readEnd_73 : decode (mC m_Archive_readEnd) 73 = .ok (.iconst 1, 1) := by decide +kernel
theorem d_Archive_readEnd_74 : decode (mC m_Archive_readEnd) 74 = .ok (.goto 4, 3) := by decide +kernel
theorem d_Archive_readEnd_77 : decode (mC m_Archive_readEnd) 77 = .ok (.iconst 0, 1) := by decide +kernel
theorem d_Archive_readEnd_78 : decode (mC m_Archive_readEnd) 78 = .ok (.ireturn, 1) := by decide +kernel
theorem d_Archive_readEnd_79 : decode (mC m_Archive_readEnd) 79 = .ok (.iload_n 1, 1) := by decide +kernel
theorem d_Archive_readEnd_80 : decode (mC m_Archive_readEnd) 80 = .ok (.bipush 20, 2) := by decide +kernel
theorem d_Archive_readEnd_82 : decode (mC m_Archive_readEnd) 82 = .ok (.isub, 1) := by decide +kernel
theorem d_Archive_readEnd_83 : decode (mC m_Archive_readEnd) 83 = .ok (.istore 4, 2) := by decide +kernel
theorem d_Archive_readEnd_85 : decode (mC m_Archive_readEnd) 85 = .ok (.iload 4, 2) := by decide +kernel
theorem d_Archive_readEnd_87 : decode (mC m_Archive_readEnd) 87 = .ok (.bipush 56, 2) := by decide +kernel
theorem d_Archive_readEnd_89 : decode (mC m_Archive_readEnd) 89 = .ok (.isub, 1) := by decide +kernel
theorem d_Archive_readEnd_90 : decode (mC m_Archive_readEnd) 90 = .ok (.istore 5, 2) := by decide +kernel
theorem d_Archive_readEnd_92 : decode (mC m_Archive_readEnd) 92 = .ok (.iload 5, 2) := by decide +kernel
theorem d_Archive_readEnd_94 : decode (mC m_Archive_readEnd) 94 = .ok (.ifCond .lt 78, 3) := by decide +kernel
theorem d_Archive_readEnd_97 : decode (mC m_Archive_readEnd) 97 = .ok (.aload_n 0, 1) := by decide +kernel
theorem d_Archive_readEnd_98 : decode (mC m_Archive_readEnd) 98 = .ok (.getfield 9, 3) := by decide +kernel
theorem d_Archive_readEnd_101 : decode (mC m_Archive_readEnd) 101 = .ok (.iload 4, 2) := by decide +kernel
theorem d_Archive_readEnd_103 : decode (mC m_Archive_readEnd) 103 = .ok (.iconst 4, 1) := by decide +kernel
theorem d_Archive_readEnd_104 : decode (mC m_Archive_readEnd) 104 = .ok (.invokevirtual 75, 3) := by decide +kernel
theorem d_Archive_readEnd_107 : decode (mC m_Archive_readEnd) 107 = .ok (.ldc2_w 91, 3) := by decide +kernel
theorem d_Archive_readEnd_110 : decode (mC m_Archive_readEnd) 110 = .ok (.lcmp, 1) := by decide +kernel
theorem d_Archive_readEnd_111 : decode (mC m_Archive_readEnd) 111 = .ok (.ifCond .ne 61, 3) := by decide +kernel
theorem d_Archive_readEnd_114 : decode (mC m_Archive_readEnd) 114 = .ok (.aload_n 0, 1) := by decide +kernel
theorem d_Archive_readEnd_115 : decode (mC m_Archive_readEnd) 115 = .ok (.getfield 9, 3) := by decide +kernel
theorem d_Archive_readEnd_118 : decode (mC m_Archive_readEnd) 118 = .ok (.iload 4, 2) := by decide +kernel
theorem d_Archive_readEnd_120 : decode (mC m_Archive_readEnd) 120 = .ok (.bipush 8, 2) := by decide +kernel
theorem d_Archive_readEnd_122 : decode (mC m_Archive_readEnd) 122 = .ok (.iadd, 1) := by decide +kernel
theorem d_Archive_readEnd_123 : decode (mC m_Archive_readEnd) 123 = .ok (.bipush 8, 2) := by decide +kernel
theorem d_Archive_readEnd_125 : decode (mC m_Archive_readEnd) 125 = .ok (.invokevirtual 75, 3) := by decide +kernel
theorem d_Archive_readEnd_128 : decode (mC m_Archive_readEnd) 128 = .ok (.iload 5, 2) := by decide +kernel
theorem d_Archive_readEnd_130 : decode (mC m_Archive_readEnd) 130 = .ok (.i2l, 1) := by decide +kernel
theorem d_Archive_readEnd_131 : decode (mC m_Archive_readEnd) 131 = .ok (.lcmp, 1) := by decide +kernel
theorem d_Archive_readEnd_132 : decode (mC m_Archive_readEnd) 132 = .ok (.ifCond .ne 40, 3) := by decide +kernel
theorem d_Archive_readEnd_135 : decode (mC m_Archive_readEnd) 135 = .ok (.aload_n 0, 1) := by decide +kernel
theorem d_Archive_readEnd_136 : decode (mC m_Archive_readEnd) 136 = .ok (.getfield 9, 3) := by decide +kernel
theorem d_Archive_readEnd_139 : decode (mC m_Archive_readEnd) 139 = .ok (.iload 5, 2) := by decide +kernel
theorem d_Archive_readEnd_141 : decode (mC m_Archive_readEnd) 141 = .ok (.iconst 4, 1) := by decide +kernel
theorem d_Archive_readEnd_142 : decode (mC m_Archive_readEnd) 142 = .ok (.invokevirtual 75, 3) := by decide +kernel
theorem d_Archive_readEnd_145 : decode (mC m_Archive_readEnd) 145 = .ok (.ldc2_w 93, 3) := by decide +kernel
theorem d_Archive_readEnd_148 : decode (mC m_Archive_readEnd) 148 = .ok (.lcmp, 1) := by decide +kernel
theorem d_Archive_readEnd_149 : decode (mC m_Archive_readEnd) 149 = .ok (.ifCond .ne 23, 3) := by decide +kernel
theorem d_Archive_readEnd_152 : decode (mC m_Archive_readEnd) 152 = .ok (.aload_n 0, 1) := by decide +kernel
theorem d_Archive_readEnd_153 : decode (mC m_Archive_readEnd) 153 = .ok (.getfield 9, 3) := by decide +kernel
theorem d_Archive_readEnd_156 : decode (mC m_Archive_readEnd) 156 = .ok (.iload 5, 2) := by decide +kernel
theorem d_Archive_readEnd_158 : decode (mC m_Archive_readEnd) 158 = .ok (.iconst 4, 1) := by decide +kernel
theorem d_Archive_readEnd_159 : decode (mC m_Archive_readEnd) 159 = .ok (.iadd, 1) := by decide +kernel
theorem d_Archive_readEnd_160 : decode (mC m_Archive_readEnd) 160 = .ok (.bipush 8, 2) := by decide +kernel
theorem d_Archive_readEnd_162 : decode (mC m_Archive_readEnd) 162 = .ok (.invokevirtual 75, 3) := by decide +kernel
theorem d_Archive_readEnd_165 : decode (mC m_Archive_readEnd) 165 = .ok (.ldc2_w 95, 3) := by decide +kernel
theorem d_Archive_readEnd_168 : decode (mC m_Archive_readEnd) 168 = .ok (.lcmp, 1) := by decide +kernel
theorem d_Archive_readEnd_169 : decode (mC m_Archive_readEnd) 169 = .ok (.ifCond .eq 5, 3) := by decide +kernel
theorem d_Archive_readEnd_172 : decode (mC m_Archive_readEnd) 172 = .ok (.iconst 0, 1) := by decide +kernel
theorem d_Archive_readEnd_173 : decode (mC m_Archive_readEnd) 173 = .ok (.ireturn, 1) := by decide +kernel
theorem d_Archive_readEnd_174 : decode (mC m_Archive_readEnd) 174 = .ok (.aload_n 0, 1) := by decide +kernel
theorem d_Archive_readEnd_175 : decode (mC m_Archive_readEnd) 175 = .ok (.aload_n 0, 1) := by decide +kernel
theorem d_Archive_readEnd_176 : decode (mC m_Archive_readEnd) 176 = .ok (.getfield 9, 3) := by decide +kernel
theorem d_Archive_readEnd_179 : decode (mC m_Archive_readEnd) 179 = .ok (.iload 5, 2) := by decide +kernel
theorem d_Archive_readEnd_181 : decode (mC m_Archive_readEnd) 181 = .ok (.bipush 24, 2) := by decide +kernel
theorem d_Archive_readEnd_183 : decode (mC m_Archive_readEnd) 183 = .ok (.iadd, 1) := by decide +kernel
theorem d_Archive_readEnd_184 : decode (mC m_Archive_readEnd) 184 = .ok (.bipush 8, 2) := by decide +kernel
theorem d_Archive_readEnd_186 : decode (mC m_Archive_readEnd) 186 = .ok (.invokevirtual 75, 3) := by decide +kernel
theorem d_Archive_readEnd_189 : decode (mC m_Archive_readEnd) 189 = .ok (.aload_n 0, 1) := by decide +kernel
theorem d_Archive_readEnd_190 : decode (mC m_Archive_readEnd) 190 = .ok (.getfield 9, 3) := by decide +kernel
theorem d_Archive_readEnd_193 : decode (mC m_Archive_readEnd) 193 = .ok (.iload 5, 2) := by decide +kernel
theorem d_Archive_readEnd_195 : decode (mC m_Archive_readEnd) 195 = .ok (.bipush 32, 2) := by decide +kernel
theorem d_Archive_readEnd_197 : decode (mC m_Archive_readEnd) 197 = .ok (.iadd, 1) := by decide +kernel
theorem d_Archive_readEnd_198 : decode (mC m_Archive_readEnd) 198 = .ok (.bipush 8, 2) := by decide +kernel
theorem d_Archive_readEnd_200 : decode (mC m_Archive_readEnd) 200 = .ok (.invokevirtual 75, 3) := by decide +kernel
theorem d_Archive_readEnd_203 : decode (mC m_Archive_readEnd) 203 = .ok (.invokevirtual 83, 3) := by decide +kernel
theorem d_Archive_readEnd_206 : decode (mC m_Archive_readEnd) 206 = .ok (.ifCond .eq 44, 3) := by decide +kernel
theorem d_Archive_readEnd_209 : decode (mC m_Archive_readEnd) 209 = .ok (.aload_n 0, 1) := by decide +kernel
theorem d_Archive_readEnd_210 : decode (mC m_Archive_readEnd) 210 = .ok (.aload_n 0, 1) := by decide +kernel
theorem d_Archive_readEnd_211 : decode (mC m_Archive_readEnd) 211 = .ok (.getfield 9, 3) := by decide +kernel
theorem d_Archive_readEnd_214 : decode (mC m_Archive_readEnd) 214 = .ok (.iload 5, 2) := by decide +kernel
theorem d_Archive_readEnd_216 : decode (mC m_Archive_readEnd) 216 = .ok (.bipush 48, 2) := by decide +kernel
theorem d_Archive_readEnd_218 : decode (mC m_Archive_readEnd) 218 = .ok (.iadd, 1) := by decide +kernel
theorem d_Archive_readEnd_219 : decode (mC m_Archive_readEnd) 219 = .ok (.bipush 8, 2) := by decide +kernel
theorem d_Archive_readEnd_221 : decode (mC m_Archive_readEnd) 221 = .ok (.invokevirtual 75, 3) := by decide +kernel
theorem d_Archive_readEnd_224 : decode (mC m_Archive_readEnd) 224 = .ok (.aload_n 0, 1) := by decide +kernel
theorem d_Archive_readEnd_225 : decode (mC m_Archive_readEnd) 225 = .ok (.getfield 9, 3) := by decide +kernel
theorem d_Archive_readEnd_228 : decode (mC m_Archive_readEnd) 228 = .ok (.iload 5, 2) := by decide +kernel
theorem d_Archive_readEnd_230 : decode (mC m_Archive_readEnd) 230 = .ok (.bipush 40, 2) := by decide +kernel
theorem d_Archive_readEnd_232 : decode (mC m_Archive_readEnd) 232 = .ok (.iadd, 1) := by decide +kernel
theorem d_Archive_readEnd_233 : decode (mC m_Archive_readEnd) 233 = .ok (.bipush 8, 2) := by decide +kernel
theorem d_Archive_readEnd_235 : decode (mC m_Archive_readEnd) 235 = .ok (.invokevirtual 75, 3) := by decide +kernel
theorem d_Archive_readEnd_238 : decode (mC m_Archive_readEnd) 238 = .ok (.iload 5, 2) := by decide +kernel
theorem d_Archive_readEnd_240 : decode (mC m_Archive_readEnd) 240 = .ok (.invokevirtual 87, 3) := by decide +kernel
theorem d_Archive_readEnd_243 : decode (mC m_Archive_readEnd) 243 = .ok (.ifCond .eq 7, 3) := by decide +kernel
theorem d_Archive_readEnd_246 : decode (mC m_Archive_readEnd) 246 = .ok (.iconst 1, 1) := by decide +kernel
theorem d_Archive_readEnd_247 : decode (mC m_Archive_readEnd) 247 = .ok (.goto 4, 3) := by decide +kernel
theorem d_Archive_readEnd_250 : decode (mC m_Archive_readEnd) 250 = .ok (.iconst 0, 1) := by decide +kernel
theorem d_Archive_readEnd_251 : decode (mC m_Archive_readEnd) 251 = .ok (.ireturn, 1) := by decide +kernel
def b_Archive_readEnd_250 (F : Nat) (w : zW) : Option (Int32 × zW) := some ((0 : Int32), w)
set_option maxRecDepth 100000 in
set_option maxHeartbeats 4000000 in
theorem b_Archive_readEnd_250_ok (G : zG) (F : Nat) (w : zW) (r : (Int32 × zW)) (h : b_Archive_readEnd_250 F w = some r) : zV G m_Archive_readEnd 250 [] [] w 0 0 (oI r.1) r.2 := by
  unfold b_Archive_readEnd_250 at h
  refine V_iconst (v := 0) d_Archive_readEnd_250 (by decide) ?_
  obtain rfl := Option.some.inj h
  exact V_zret rfl (Or.inl rfl) (by decide) (by decide) d_Archive_readEnd_251
def b_Archive_readEnd_172 (F : Nat) (w : zW) : Option (Int32 × zW) := some ((0 : Int32), w)
set_option maxRecDepth 100000 in
set_option maxHeartbeats 4000000 in
theorem b_Archive_readEnd_172_ok (G : zG) (F : Nat) (w : zW) (r : (Int32 × zW)) (h : b_Archive_readEnd_172 F w = some r) : zV G m_Archive_readEnd 172 [] [] w 0 0 (oI r.1) r.2 := by
  unfold b_Archive_readEnd_172 at h
  refine V_iconst (v := 0) d_Archive_readEnd_172 (by decide) ?_
  obtain rfl := Option.some.inj h
  exact V_zret rfl (Or.inl rfl) (by decide) (by decide) d_Archive_readEnd_173
def b_Archive_readEnd_77 (F : Nat) (w : zW) : Option (Int32 × zW) := some ((0 : Int32), w)
set_option maxRecDepth 100000 in
set_option maxHeartbeats 4000000 in
theorem b_Archive_readEnd_77_ok (G : zG) (F : Nat) (w : zW) (r : (Int32 × zW)) (h : b_Archive_readEnd_77 F w = some r) : zV G m_Archive_readEnd 77 [] [] w 0 0 (oI r.1) r.2 := by
  unfold b_Archive_readEnd_77 at h
  refine V_iconst (v := 0) d_Archive_readEnd_77 (by decide) ?_
  obtain rfl := Option.some.inj h
  exact V_zret rfl (Or.inl rfl) (by decide) (by decide) d_Archive_readEnd_78
def b_Archive_readEnd_0 (F : Nat) (v0 : Nat) (v1 : Int32) (w : zW) : Option (Int32 × zW) := (getR w v0 6 0).bind fun x1 => (zobj w x1 0).bind fun _ => (f_Row_number F x1 (v1 + (16 : Int32)) (4 : Int32) w).bind fun r9 => if (lg_cmp r9.1 (4294967295 : Int64)) = 0 then (if ((v1 - (20 : Int32)) - (56 : Int32)) < 0 then (b_Archive_readEnd_172 F r9.2) else ((getR r9.2 v0 6 0).bind fun x98 => (zobj r9.2 x98 0).bind fun _ => (f_Row_number F x98 (v1 - (20 : Int32)) (4 : Int32) r9.2).bind fun r104 => if (lg_cmp r104.1 (117853008 : Int64)) = 0 then ((getR r104.2 v0 6 0).bind fun x115 => (zobj r104.2 x115 0).bind fun _ => (f_Row_number F x115 ((v1 - (20 : Int32)) + (8 : Int32)) (8 : Int32) r104.2).bind fun r125 => if (lg_cmp r125.1 ((v1 - (20 : Int32)) - (56 : Int32)).toInt64) = 0 then ((getR r125.2 v0 6 0).bind fun x136 => (zobj r125.2 x136 0).bind fun _ => (f_Row_number F x136 ((v1 - (20 : Int32)) - (56 : Int32)) (4 : Int32) r125.2).bind fun r142 => if (lg_cmp r142.1 (101075792 : Int64)) = 0 then ((getR r142.2 v0 6 0).bind fun x153 => (zobj r142.2 x153 0).bind fun _ => (f_Row_number F x153 (((v1 - (20 : Int32)) - (56 : Int32)) + (4 : Int32)) (8 : Int32) r142.2).bind fun r162 => if (lg_cmp r162.1 (44 : Int64)) = 0 then ((getR r162.2 v0 6 0).bind fun x176 => (zobj r162.2 x176 0).bind fun _ => (f_Row_number F x176 (((v1 - (20 : Int32)) - (56 : Int32)) + (24 : Int32)) (8 : Int32) r162.2).bind fun r186 => (getR r186.2 v0 6 0).bind fun x190 => (zobj r186.2 x190 0).bind fun _ => (f_Row_number F x190 (((v1 - (20 : Int32)) - (56 : Int32)) + (32 : Int32)) (8 : Int32) r186.2).bind fun r200 => (zobj r200.2 v0 6).bind fun _ => (f_Archive_takeCounts F v0 r186.1 r200.1 r200.2).bind fun r203 => if r203.1 = 0 then (b_Archive_readEnd_250 F r203.2) else ((getR r203.2 v0 6 0).bind fun x211 => (zobj r203.2 x211 0).bind fun _ => (f_Row_number F x211 (((v1 - (20 : Int32)) - (56 : Int32)) + (48 : Int32)) (8 : Int32) r203.2).bind fun r221 => (getR r221.2 v0 6 0).bind fun x225 => (zobj r221.2 x225 0).bind fun _ => (f_Row_number F x225 (((v1 - (20 : Int32)) - (56 : Int32)) + (40 : Int32)) (8 : Int32) r221.2).bind fun r235 => (zobj r235.2 v0 6).bind fun _ => (f_Archive_takeBounds F v0 r221.1 r235.1 ((v1 - (20 : Int32)) - (56 : Int32)) r235.2).bind fun r240 => if r240.1 = 0 then (b_Archive_readEnd_250 F r240.2) else (some ((1 : Int32), r240.2)))) else (b_Archive_readEnd_172 F r162.2)) else (b_Archive_readEnd_172 F r142.2)) else (b_Archive_readEnd_172 F r125.2)) else (b_Archive_readEnd_172 F r104.2))) else ((getR r9.2 v0 6 0).bind fun x23 => (zobj r9.2 x23 0).bind fun _ => (f_Row_number F x23 (v1 + (8 : Int32)) (2 : Int32) r9.2).bind fun r31 => (getR r31.2 v0 6 0).bind fun x35 => (zobj r31.2 x35 0).bind fun _ => (f_Row_number F x35 (v1 + (10 : Int32)) (2 : Int32) r31.2).bind fun r43 => (zobj r43.2 v0 6).bind fun _ => (f_Archive_takeCounts F v0 r31.1 r43.1 r43.2).bind fun r46 => if r46.1 = 0 then (b_Archive_readEnd_77 F r46.2) else ((getR r46.2 v0 6 0).bind fun x55 => (zobj r46.2 x55 0).bind fun _ => (f_Row_number F x55 (v1 + (12 : Int32)) (4 : Int32) r46.2).bind fun r63 => (zobj r63.2 v0 6).bind fun _ => (f_Archive_takeBounds F v0 r9.1 r63.1 v1 r63.2).bind fun r67 => if r67.1 = 0 then (b_Archive_readEnd_77 F r67.2) else (some ((1 : Int32), r67.2))))
set_option maxRecDepth 100000 in
set_option maxHeartbeats 4000000 in
theorem b_Archive_readEnd_0_ok (G : zG) (F : Nat) (v0 : Nat) (v1 : Int32) (w : zW) (r : (Int32 × zW)) (h : b_Archive_readEnd_0 F v0 v1 w = some r) : zV G m_Archive_readEnd 0 [(0, .ref (z0 G + v0)), (1, .int v1)] [] w 0 0 (oI r.1) r.2 := by
  unfold b_Archive_readEnd_0 at h
  refine V_aload_n (i := 0) d_Archive_readEnd_0 rfl 0 rfl ?_
  obtain ⟨x1, e1, h⟩ := ob h
  refine V_getR (ci := 6) (k := 0) d_Archive_readEnd_1 e1 rfl (by decide) in_Archive k212 ?_
  refine V_iload_n (i := 1) d_Archive_readEnd_4 rfl 1 rfl ?_
  refine V_bipush (v := 16) d_Archive_readEnd_5 (by decide) ?_
  refine V_iadd d_Archive_readEnd_7 ?_
  refine V_iconst (v := 4) d_Archive_readEnd_8 (by decide) ?_
  obtain ⟨_, eo9, h⟩ := ob h
  obtain ⟨r9, e9, h⟩ := ob h
  refine V_call (v := some (.long r9.1)) (st := []) (inv_V (N := m_Row_number) (As := [.int (v1 + (16 : Int32)), .int (4 : Int32)]) (ci := 0) d_Archive_readEnd_9 eo9 rfl k368 k369 k370 kc_Row_number y_Row_number) ⟨Or.inl kc_Row_number, k2, by decide, by decide⟩ (Nat.le_of_ble_eq_true rfl) (by decide) (by decide) (c_Row_number G F x1 (v1 + (16 : Int32)) (4 : Int32) w r9 e9) ?_
  refine V_lstore_n (i := 2) d_Archive_readEnd_12 rfl (by decide) rfl ?_
  refine V_lload_n (i := 2) d_Archive_readEnd_13 rfl 0 rfl ?_
  refine V_ldc2 (v := 4294967295) d_Archive_readEnd_14 k377 ?_
  refine V_lcmp d_Archive_readEnd_17 ?_
  refine V_if_eq (tgt := 79) d_Archive_readEnd_18 (by decide) (fun c18 => ?_) (fun c18 => ?_)
  · rw [if_pos c18] at h
    refine V_iload_n (i := 1) d_Archive_readEnd_79 rfl 2 rfl ?_
    refine V_bipush (v := 20) d_Archive_readEnd_80 (by decide) ?_
    refine V_isub d_Archive_readEnd_82 ?_
    refine V_istore (i := 4) d_Archive_readEnd_83 (by decide) rfl ?_
    refine V_iload (i := 4) d_Archive_readEnd_85 0 rfl ?_
    refine V_bipush (v := 56) d_Archive_readEnd_87 (by decide) ?_
    refine V_isub d_Archive_readEnd_89 ?_
    refine V_istore (i := 5) d_Archive_readEnd_90 (by decide) rfl ?_
    refine V_iload (i := 5) d_Archive_readEnd_92 0 rfl ?_
    refine V_if_lt (tgt := 172) d_Archive_readEnd_94 (by decide) (fun c94 => ?_) (fun c94 => ?_)
    · rw [if_pos c94] at h
      refine V_lv [] rfl ?_
      exact b_Archive_readEnd_172_ok G F r9.2 _ h
    · rw [if_neg c94] at h
      refine V_aload_n (i := 0) d_Archive_readEnd_97 rfl 3 rfl ?_
      obtain ⟨x98, e98, h⟩ := ob h
      refine V_getR (ci := 6) (k := 0) d_Archive_readEnd_98 e98 rfl (by decide) in_Archive k212 ?_
      refine V_iload (i := 4) d_Archive_readEnd_101 1 rfl ?_
      refine V_iconst (v := 4) d_Archive_readEnd_103 (by decide) ?_
      obtain ⟨_, eo104, h⟩ := ob h
      obtain ⟨r104, e104, h⟩ := ob h
      refine V_call (v := some (.long r104.1)) (st := []) (inv_V (N := m_Row_number) (As := [.int (v1 - (20 : Int32)), .int (4 : Int32)]) (ci := 0) d_Archive_readEnd_104 eo104 rfl k368 k369 k370 kc_Row_number y_Row_number) ⟨Or.inl kc_Row_number, k2, by decide, by decide⟩ (Nat.le_of_ble_eq_true rfl) (by decide) (by decide) (c_Row_number G F x98 (v1 - (20 : Int32)) (4 : Int32) r9.2 r104 e104) ?_
      refine V_ldc2 (v := 117853008) d_Archive_readEnd_107 k387 ?_
      refine V_lcmp d_Archive_readEnd_110 ?_
      refine V_if_ne (tgt := 172) d_Archive_readEnd_111 (by decide) (fun c111 => ?_) (fun c111 => ?_)
      · rw [if_neg c111] at h
        refine V_lv [] rfl ?_
        exact b_Archive_readEnd_172_ok G F r104.2 _ h
      · rw [if_pos c111] at h
        refine V_aload_n (i := 0) d_Archive_readEnd_114 rfl 3 rfl ?_
        obtain ⟨x115, e115, h⟩ := ob h
        refine V_getR (ci := 6) (k := 0) d_Archive_readEnd_115 e115 rfl (by decide) in_Archive k212 ?_
        refine V_iload (i := 4) d_Archive_readEnd_118 1 rfl ?_
        refine V_bipush (v := 8) d_Archive_readEnd_120 (by decide) ?_
        refine V_iadd d_Archive_readEnd_122 ?_
        refine V_bipush (v := 8) d_Archive_readEnd_123 (by decide) ?_
        obtain ⟨_, eo125, h⟩ := ob h
        obtain ⟨r125, e125, h⟩ := ob h
        refine V_call (v := some (.long r125.1)) (st := []) (inv_V (N := m_Row_number) (As := [.int ((v1 - (20 : Int32)) + (8 : Int32)), .int (8 : Int32)]) (ci := 0) d_Archive_readEnd_125 eo125 rfl k368 k369 k370 kc_Row_number y_Row_number) ⟨Or.inl kc_Row_number, k2, by decide, by decide⟩ (Nat.le_of_ble_eq_true rfl) (by decide) (by decide) (c_Row_number G F x115 ((v1 - (20 : Int32)) + (8 : Int32)) (8 : Int32) r104.2 r125 e125) ?_
        refine V_iload (i := 5) d_Archive_readEnd_128 0 rfl ?_
        refine V_i2l d_Archive_readEnd_130 ?_
        refine V_lcmp d_Archive_readEnd_131 ?_
        refine V_if_ne (tgt := 172) d_Archive_readEnd_132 (by decide) (fun c132 => ?_) (fun c132 => ?_)
        · rw [if_neg c132] at h
          refine V_lv [] rfl ?_
          exact b_Archive_readEnd_172_ok G F r125.2 _ h
        · rw [if_pos c132] at h
          refine V_aload_n (i := 0) d_Archive_readEnd_135 rfl 3 rfl ?_
          obtain ⟨x136, e136, h⟩ := ob h
          refine V_getR (ci := 6) (k := 0) d_Archive_readEnd_136 e136 rfl (by decide) in_Archive k212 ?_
          refine V_iload (i := 5) d_Archive_readEnd_139 0 rfl ?_
          refine V_iconst (v := 4) d_Archive_readEnd_141 (by decide) ?_
          obtain ⟨_, eo142, h⟩ := ob h
          obtain ⟨r142, e142, h⟩ := ob h
          refine V_call (v := some (.long r142.1)) (st := []) (inv_V (N := m_Row_number) (As := [.int ((v1 - (20 : Int32)) - (56 : Int32)), .int (4 : Int32)]) (ci := 0) d_Archive_readEnd_142 eo142 rfl k368 k369 k370 kc_Row_number y_Row_number) ⟨Or.inl kc_Row_number, k2, by decide, by decide⟩ (Nat.le_of_ble_eq_true rfl) (by decide) (by decide) (c_Row_number G F x136 ((v1 - (20 : Int32)) - (56 : Int32)) (4 : Int32) r125.2 r142 e142) ?_
          refine V_ldc2 (v := 101075792) d_Archive_readEnd_145 k388 ?_
          refine V_lcmp d_Archive_readEnd_148 ?_
          refine V_if_ne (tgt := 172) d_Archive_readEnd_149 (by decide) (fun c149 => ?_) (fun c149 => ?_)
          · rw [if_neg c149] at h
            refine V_lv [] rfl ?_
            exact b_Archive_readEnd_172_ok G F r142.2 _ h
          · rw [if_pos c149] at h
            refine V_aload_n (i := 0) d_Archive_readEnd_152 rfl 3 rfl ?_
            obtain ⟨x153, e153, h⟩ := ob h
            refine V_getR (ci := 6) (k := 0) d_Archive_readEnd_153 e153 rfl (by decide) in_Archive k212 ?_
            refine V_iload (i := 5) d_Archive_readEnd_156 0 rfl ?_
            refine V_iconst (v := 4) d_Archive_readEnd_158 (by decide) ?_
            refine V_iadd d_Archive_readEnd_159 ?_
            refine V_bipush (v := 8) d_Archive_readEnd_160 (by decide) ?_
            obtain ⟨_, eo162, h⟩ := ob h
            obtain ⟨r162, e162, h⟩ := ob h
            refine V_call (v := some (.long r162.1)) (st := []) (inv_V (N := m_Row_number) (As := [.int (((v1 - (20 : Int32)) - (56 : Int32)) + (4 : Int32)), .int (8 : Int32)]) (ci := 0) d_Archive_readEnd_162 eo162 rfl k368 k369 k370 kc_Row_number y_Row_number) ⟨Or.inl kc_Row_number, k2, by decide, by decide⟩ (Nat.le_of_ble_eq_true rfl) (by decide) (by decide) (c_Row_number G F x153 (((v1 - (20 : Int32)) - (56 : Int32)) + (4 : Int32)) (8 : Int32) r142.2 r162 e162) ?_
            refine V_ldc2 (v := 44) d_Archive_readEnd_165 k389 ?_
            refine V_lcmp d_Archive_readEnd_168 ?_
            refine V_if_eq (tgt := 174) d_Archive_readEnd_169 (by decide) (fun c169 => ?_) (fun c169 => ?_)
            · rw [if_pos c169] at h
              refine V_aload_n (i := 0) d_Archive_readEnd_174 rfl 3 rfl ?_
              refine V_aload_n (i := 0) d_Archive_readEnd_175 rfl 3 rfl ?_
              obtain ⟨x176, e176, h⟩ := ob h
              refine V_getR (ci := 6) (k := 0) d_Archive_readEnd_176 e176 rfl (by decide) in_Archive k212 ?_
              refine V_iload (i := 5) d_Archive_readEnd_179 0 rfl ?_
              refine V_bipush (v := 24) d_Archive_readEnd_181 (by decide) ?_
              refine V_iadd d_Archive_readEnd_183 ?_
              refine V_bipush (v := 8) d_Archive_readEnd_184 (by decide) ?_
              obtain ⟨_, eo186, h⟩ := ob h
              obtain ⟨r186, e186, h⟩ := ob h
              refine V_call (v := some (.long r186.1)) (st := [.ref (z0 G + v0)]) (inv_V (N := m_Row_number) (As := [.int (((v1 - (20 : Int32)) - (56 : Int32)) + (24 : Int32)), .int (8 : Int32)]) (ci := 0) d_Archive_readEnd_186 eo186 rfl k368 k369 k370 kc_Row_number y_Row_number) ⟨Or.inl kc_Row_number, k2, by decide, by decide⟩ (Nat.le_of_ble_eq_true rfl) (by decide) (by decide) (c_Row_number G F x176 (((v1 - (20 : Int32)) - (56 : Int32)) + (24 : Int32)) (8 : Int32) r162.2 r186 e186) ?_
              refine V_aload_n (i := 0) d_Archive_readEnd_189 rfl 3 rfl ?_
              obtain ⟨x190, e190, h⟩ := ob h
              refine V_getR (ci := 6) (k := 0) d_Archive_readEnd_190 e190 rfl (by decide) in_Archive k212 ?_
              refine V_iload (i := 5) d_Archive_readEnd_193 0 rfl ?_
              refine V_bipush (v := 32) d_Archive_readEnd_195 (by decide) ?_
              refine V_iadd d_Archive_readEnd_197 ?_
              refine V_bipush (v := 8) d_Archive_readEnd_198 (by decide) ?_
              obtain ⟨_, eo200, h⟩ := ob h
              obtain ⟨r200, e200, h⟩ := ob h
              refine V_call (v := some (.long r200.1)) (st := [.long r186.1, .ref (z0 G + v0)]) (inv_V (N := m_Row_number) (As := [.int (((v1 - (20 : Int32)) - (56 : Int32)) + (32 : Int32)), .int (8 : Int32)]) (ci := 0) d_Archive_readEnd_200 eo200 rfl k368 k369 k370 kc_Row_number y_Row_number) ⟨Or.inl kc_Row_number, k2, by decide, by decide⟩ (Nat.le_of_ble_eq_true rfl) (by decide) (by decide) (c_Row_number G F x190 (((v1 - (20 : Int32)) - (56 : Int32)) + (32 : Int32)) (8 : Int32) r186.2 r200 e200) ?_
              obtain ⟨_, eo203, h⟩ := ob h
              obtain ⟨r203, e203, h⟩ := ob h
              refine V_call (v := some (.int r203.1)) (st := []) (inv_V (N := m_Archive_takeCounts) (As := [.long r186.1, .long r200.1]) (ci := 6) d_Archive_readEnd_203 eo203 rfl k378 k380 sel_Archive_takeCounts kc_Archive_takeCounts y_Archive_takeCounts) ⟨Or.inl kc_Archive_takeCounts, k6, by decide, by decide⟩ (Nat.le_of_ble_eq_true rfl) (by decide) (by decide) (c_Archive_takeCounts G F v0 r186.1 r200.1 r200.2 r203 e203) ?_
              refine V_if_eq (tgt := 250) d_Archive_readEnd_206 (by decide) (fun c206 => ?_) (fun c206 => ?_)
              · rw [if_pos c206] at h
                refine V_lv [] rfl ?_
                exact b_Archive_readEnd_250_ok G F r203.2 _ h
              · rw [if_neg c206] at h
                refine V_aload_n (i := 0) d_Archive_readEnd_209 rfl 3 rfl ?_
                refine V_aload_n (i := 0) d_Archive_readEnd_210 rfl 3 rfl ?_
                obtain ⟨x211, e211, h⟩ := ob h
                refine V_getR (ci := 6) (k := 0) d_Archive_readEnd_211 e211 rfl (by decide) in_Archive k212 ?_
                refine V_iload (i := 5) d_Archive_readEnd_214 0 rfl ?_
                refine V_bipush (v := 48) d_Archive_readEnd_216 (by decide) ?_
                refine V_iadd d_Archive_readEnd_218 ?_
                refine V_bipush (v := 8) d_Archive_readEnd_219 (by decide) ?_
                obtain ⟨_, eo221, h⟩ := ob h
                obtain ⟨r221, e221, h⟩ := ob h
                refine V_call (v := some (.long r221.1)) (st := [.ref (z0 G + v0)]) (inv_V (N := m_Row_number) (As := [.int (((v1 - (20 : Int32)) - (56 : Int32)) + (48 : Int32)), .int (8 : Int32)]) (ci := 0) d_Archive_readEnd_221 eo221 rfl k368 k369 k370 kc_Row_number y_Row_number) ⟨Or.inl kc_Row_number, k2, by decide, by decide⟩ (Nat.le_of_ble_eq_true rfl) (by decide) (by decide) (c_Row_number G F x211 (((v1 - (20 : Int32)) - (56 : Int32)) + (48 : Int32)) (8 : Int32) r203.2 r221 e221) ?_
                refine V_aload_n (i := 0) d_Archive_readEnd_224 rfl 3 rfl ?_
                obtain ⟨x225, e225, h⟩ := ob h
                refine V_getR (ci := 6) (k := 0) d_Archive_readEnd_225 e225 rfl (by decide) in_Archive k212 ?_
                refine V_iload (i := 5) d_Archive_readEnd_228 0 rfl ?_
                refine V_bipush (v := 40) d_Archive_readEnd_230 (by decide) ?_
                refine V_iadd d_Archive_readEnd_232 ?_
                refine V_bipush (v := 8) d_Archive_readEnd_233 (by decide) ?_
                obtain ⟨_, eo235, h⟩ := ob h
                obtain ⟨r235, e235, h⟩ := ob h
                refine V_call (v := some (.long r235.1)) (st := [.long r221.1, .ref (z0 G + v0)]) (inv_V (N := m_Row_number) (As := [.int (((v1 - (20 : Int32)) - (56 : Int32)) + (40 : Int32)), .int (8 : Int32)]) (ci := 0) d_Archive_readEnd_235 eo235 rfl k368 k369 k370 kc_Row_number y_Row_number) ⟨Or.inl kc_Row_number, k2, by decide, by decide⟩ (Nat.le_of_ble_eq_true rfl) (by decide) (by decide) (c_Row_number G F x225 (((v1 - (20 : Int32)) - (56 : Int32)) + (40 : Int32)) (8 : Int32) r221.2 r235 e235) ?_
                refine V_iload (i := 5) d_Archive_readEnd_238 0 rfl ?_
                obtain ⟨_, eo240, h⟩ := ob h
                obtain ⟨r240, e240, h⟩ := ob h
                refine V_call (v := some (.int r240.1)) (st := []) (inv_V (N := m_Archive_takeBounds) (As := [.long r221.1, .long r235.1, .int ((v1 - (20 : Int32)) - (56 : Int32))]) (ci := 6) d_Archive_readEnd_240 eo240 rfl k383 k385 sel_Archive_takeBounds kc_Archive_takeBounds y_Archive_takeBounds) ⟨Or.inl kc_Archive_takeBounds, k6, by decide, by decide⟩ (Nat.le_of_ble_eq_true rfl) (by decide) (by decide) (c_Archive_takeBounds G F v0 r221.1 r235.1 ((v1 - (20 : Int32)) - (56 : Int32)) r235.2 r240 e240) ?_
                refine V_if_eq (tgt := 250) d_Archive_readEnd_243 (by decide) (fun c243 => ?_) (fun c243 => ?_)
                · rw [if_pos c243] at h
                  refine V_lv [] rfl ?_
                  exact b_Archive_readEnd_250_ok G F r240.2 _ h
                · rw [if_neg c243] at h
                  refine V_iconst (v := 1) d_Archive_readEnd_246 (by decide) ?_
                  refine V_goto (tgt := 251) d_Archive_readEnd_247 (by decide) ?_
                  obtain rfl := Option.some.inj h
                  exact V_zret rfl (Or.inr rfl) (by decide) (by decide) d_Archive_readEnd_251
            · rw [if_neg c169] at h
              refine V_lv [] rfl ?_
              exact b_Archive_readEnd_172_ok G F r162.2 _ h
  · rw [if_neg c18] at h
    refine V_aload_n (i := 0) d_Archive_readEnd_21 rfl 1 rfl ?_
    refine V_aload_n (i := 0) d_Archive_readEnd_22 rfl 1 rfl ?_
    obtain ⟨x23, e23, h⟩ := ob h
    refine V_getR (ci := 6) (k := 0) d_Archive_readEnd_23 e23 rfl (by decide) in_Archive k212 ?_
    refine V_iload_n (i := 1) d_Archive_readEnd_26 rfl 2 rfl ?_
    refine V_bipush (v := 8) d_Archive_readEnd_27 (by decide) ?_
    refine V_iadd d_Archive_readEnd_29 ?_
    refine V_iconst (v := 2) d_Archive_readEnd_30 (by decide) ?_
    obtain ⟨_, eo31, h⟩ := ob h
    obtain ⟨r31, e31, h⟩ := ob h
    refine V_call (v := some (.long r31.1)) (st := [.ref (z0 G + v0)]) (inv_V (N := m_Row_number) (As := [.int (v1 + (8 : Int32)), .int (2 : Int32)]) (ci := 0) d_Archive_readEnd_31 eo31 rfl k368 k369 k370 kc_Row_number y_Row_number) ⟨Or.inl kc_Row_number, k2, by decide, by decide⟩ (Nat.le_of_ble_eq_true rfl) (by decide) (by decide) (c_Row_number G F x23 (v1 + (8 : Int32)) (2 : Int32) r9.2 r31 e31) ?_
    refine V_aload_n (i := 0) d_Archive_readEnd_34 rfl 1 rfl ?_
    obtain ⟨x35, e35, h⟩ := ob h
    refine V_getR (ci := 6) (k := 0) d_Archive_readEnd_35 e35 rfl (by decide) in_Archive k212 ?_
    refine V_iload_n (i := 1) d_Archive_readEnd_38 rfl 2 rfl ?_
    refine V_bipush (v := 10) d_Archive_readEnd_39 (by decide) ?_
    refine V_iadd d_Archive_readEnd_41 ?_
    refine V_iconst (v := 2) d_Archive_readEnd_42 (by decide) ?_
    obtain ⟨_, eo43, h⟩ := ob h
    obtain ⟨r43, e43, h⟩ := ob h
    refine V_call (v := some (.long r43.1)) (st := [.long r31.1, .ref (z0 G + v0)]) (inv_V (N := m_Row_number) (As := [.int (v1 + (10 : Int32)), .int (2 : Int32)]) (ci := 0) d_Archive_readEnd_43 eo43 rfl k368 k369 k370 kc_Row_number y_Row_number) ⟨Or.inl kc_Row_number, k2, by decide, by decide⟩ (Nat.le_of_ble_eq_true rfl) (by decide) (by decide) (c_Row_number G F x35 (v1 + (10 : Int32)) (2 : Int32) r31.2 r43 e43) ?_
    obtain ⟨_, eo46, h⟩ := ob h
    obtain ⟨r46, e46, h⟩ := ob h
    refine V_call (v := some (.int r46.1)) (st := []) (inv_V (N := m_Archive_takeCounts) (As := [.long r31.1, .long r43.1]) (ci := 6) d_Archive_readEnd_46 eo46 rfl k378 k380 sel_Archive_takeCounts kc_Archive_takeCounts y_Archive_takeCounts) ⟨Or.inl kc_Archive_takeCounts, k6, by decide, by decide⟩ (Nat.le_of_ble_eq_true rfl) (by decide) (by decide) (c_Archive_takeCounts G F v0 r31.1 r43.1 r43.2 r46 e46) ?_
    refine V_if_eq (tgt := 77) d_Archive_readEnd_49 (by decide) (fun c49 => ?_) (fun c49 => ?_)
    · rw [if_pos c49] at h
      refine V_lv [] rfl ?_
      exact b_Archive_readEnd_77_ok G F r46.2 _ h
    · rw [if_neg c49] at h
      refine V_aload_n (i := 0) d_Archive_readEnd_52 rfl 1 rfl ?_
      refine V_lload_n (i := 2) d_Archive_readEnd_53 rfl 0 rfl ?_
      refine V_aload_n (i := 0) d_Archive_readEnd_54 rfl 1 rfl ?_
      obtain ⟨x55, e55, h⟩ := ob h
      refine V_getR (ci := 6) (k := 0) d_Archive_readEnd_55 e55 rfl (by decide) in_Archive k212 ?_
      refine V_iload_n (i := 1) d_Archive_readEnd_58 rfl 2 rfl ?_
      refine V_bipush (v := 12) d_Archive_readEnd_59 (by decide) ?_
      refine V_iadd d_Archive_readEnd_61 ?_
      refine V_iconst (v := 4) d_Archive_readEnd_62 (by decide) ?_
      obtain ⟨_, eo63, h⟩ := ob h
      obtain ⟨r63, e63, h⟩ := ob h
      refine V_call (v := some (.long r63.1)) (st := [.long r9.1, .ref (z0 G + v0)]) (inv_V (N := m_Row_number) (As := [.int (v1 + (12 : Int32)), .int (4 : Int32)]) (ci := 0) d_Archive_readEnd_63 eo63 rfl k368 k369 k370 kc_Row_number y_Row_number) ⟨Or.inl kc_Row_number, k2, by decide, by decide⟩ (Nat.le_of_ble_eq_true rfl) (by decide) (by decide) (c_Row_number G F x55 (v1 + (12 : Int32)) (4 : Int32) r46.2 r63 e63) ?_
      refine V_iload_n (i := 1) d_Archive_readEnd_66 rfl 2 rfl ?_
      obtain ⟨_, eo67, h⟩ := ob h
      obtain ⟨r67, e67, h⟩ := ob h
      refine V_call (v := some (.int r67.1)) (st := []) (inv_V (N := m_Archive_takeBounds) (As := [.long r9.1, .long r63.1, .int v1]) (ci := 6) d_Archive_readEnd_67 eo67 rfl k383 k385 sel_Archive_takeBounds kc_Archive_takeBounds y_Archive_takeBounds) ⟨Or.inl kc_Archive_takeBounds, k6, by decide, by decide⟩ (Nat.le_of_ble_eq_true rfl) (by decide) (by decide) (c_Archive_takeBounds G F v0 r9.1 r63.1 v1 r63.2 r67 e67) ?_
      refine V_if_eq (tgt := 77) d_Archive_readEnd_70 (by decide) (fun c70 => ?_) (fun c70 => ?_)
      · rw [if_pos c70] at h
        refine V_lv [] rfl ?_
        exact b_Archive_readEnd_77_ok G F r67.2 _ h
      · rw [if_neg c70] at h
        refine V_iconst (v := 1) d_Archive_readEnd_73 (by decide) ?_
        refine V_goto (tgt := 78) d_Archive_readEnd_74 (by decide) ?_
        obtain rfl := Option.some.inj h
        exact V_zret rfl (Or.inr rfl) (by decide) (by decide) d_Archive_readEnd_78
def f_Archive_readEnd (F : Nat) (v0 : Nat) (v1 : Int32) (w : zW) : Option (Int32 × zW) := b_Archive_readEnd_0 F v0 v1 w
theorem c_Archive_readEnd (G : zG) (F : Nat) (v0 : Nat) (v1 : Int32) (w : zW) (r : (Int32 × zW)) (h : f_Archive_readEnd F v0 v1 w = some r) : zCT G m_Archive_readEnd [.ref (z0 G + v0), .int v1] w (oI r.1) r.2 := zCT.ofV (by decide +kernel) (Or.inl ⟨kc_Archive_readEnd, rfl⟩) (Nat.le_of_ble_eq_true rfl) (b_Archive_readEnd_0_ok G F v0 v1 w r h)
