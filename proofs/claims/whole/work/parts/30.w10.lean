/-! ZipArrayModel.repeat(I)V -/
def m_Model_repeat : zM := (⟨R_Model, "repeat", "(I)V"⟩, prog_11_method_35_code, 6, none, [], { frames := 2, cells := 0, slots := 0, locals := 46 })
theorem kc_Model_repeat : Cond.code (mY m_Model_repeat) (mC m_Model_repeat) (mL m_Model_repeat) (mT m_Model_repeat) ∈ zTb := tb_at 1125 (by decide +kernel) rfl
theorem y_Model_repeat : (mY m_Model_repeat).cls ≠ "java/lang/invoke/MethodHandle" ∧ (mY m_Model_repeat).cls ≠ "java/lang/invoke/VarHandle" ∧ (parseMethodDescriptor (mY m_Model_repeat).desc).map (fun d => d.parameters.length) = some 1 := by decide +kernel
theorem sel_Model_repeat : Cond.selects R_Model (mY m_Model_repeat) (mY m_Model_repeat) ∈ zTb := sel_at (y := mY m_Model_repeat) (n := 33) 58 (by decide +kernel)
theorem d_Model_repeat_0 : decode (mC m_Model_repeat) 0 = .ok (.aload_n 0, 1) := by decide +kernel
theorem d_Model_repeat_1 : decode (mC m_Model_repeat) 1 = .ok (.aload_n 0, 1) := by decide +kernel
theorem d_Model_repeat_2 : decode (mC m_Model_repeat) 2 = .ok (.getfield 149, 3) := by decide +kernel
theorem d_Model_repeat_5 : decode (mC m_Model_repeat) 5 = .ok (.ifCond .ne 10, 3) := by decide +kernel
theorem d_Model_repeat_8 : decode (mC m_Model_repeat) 8 = .ok (.iload_n 1, 1) := by decide +kernel
theorem d_Model_repeat_9 : decode (mC m_Model_repeat) 9 = .ok (.sipush 285, 3) := by decide +kernel
theorem d_Model_repeat_12 : decode (mC m_Model_repeat) 12 = .ok (.if_icmp .le 7, 3) := by decide +kernel
theorem d_Model_repeat_15 : decode (mC m_Model_repeat) 15 = .ok (.iconst 1, 1) := by decide +kernel
theorem d_Model_repeat_16 : decode (mC m_Model_repeat) 16 = .ok (.goto 4, 3) := by decide +kernel
theorem d_Model_repeat_19 : decode (mC m_Model_repeat) 19 = .ok (.iconst 0, 1) := by decide +kernel
theorem d_Model_repeat_20 : decode (mC m_Model_repeat) 20 = .ok (.putfield 149, 3) := by decide +kernel
theorem d_Model_repeat_23 : decode (mC m_Model_repeat) 23 = .ok (.aload_n 0, 1) := by decide +kernel
theorem d_Model_repeat_24 : decode (mC m_Model_repeat) 24 = .ok (.getfield 149, 3) := by decide +kernel
theorem d_Model_repeat_27 : decode (mC m_Model_repeat) 27 = .ok (.ifCond .eq 7, 3) := by decide +kernel
theorem d_Model_repeat_30 : decode (mC m_Model_repeat) 30 = .ok (.iconst 0, 1) := by decide +kernel
theorem d_Model_repeat_31 : decode (mC m_Model_repeat) 31 = .ok (.goto 16, 3) := by decide +kernel
theorem d_Model_repeat_34 : decode (mC m_Model_repeat) 34 = .ok (.iload_n 1, 1) := by decide +kernel
theorem d_Model_repeat_35 : decode (mC m_Model_repeat) 35 = .ok (.invokestatic 109, 3) := by decide +kernel
theorem d_Model_repeat_38 : decode (mC m_Model_repeat) 38 = .ok (.aload_n 0, 1) := by decide +kernel
theorem d_Model_repeat_39 : decode (mC m_Model_repeat) 39 = .ok (.iload_n 1, 1) := by decide +kernel
theorem d_Model_repeat_40 : decode (mC m_Model_repeat) 40 = .ok (.invokestatic 113, 3) := by decide +kernel
theorem d_Model_repeat_43 : decode (mC m_Model_repeat) 43 = .ok (.invokevirtual 159, 3) := by decide +kernel
theorem d_Model_repeat_46 : decode (mC m_Model_repeat) 46 = .ok (.iadd, 1) := by decide +kernel
theorem d_Model_repeat_47 : decode (mC m_Model_repeat) 47 = .ok (.istore_n 2, 1) := by decide +kernel
theorem d_Model_repeat_48 : decode (mC m_Model_repeat) 48 = .ok (.aload_n 0, 1) := by decide +kernel
theorem d_Model_repeat_49 : decode (mC m_Model_repeat) 49 = .ok (.sipush 288, 3) := by decide +kernel
theorem d_Model_repeat_52 : decode (mC m_Model_repeat) 52 = .ok (.bipush 32, 2) := by decide +kernel
theorem d_Model_repeat_54 : decode (mC m_Model_repeat) 54 = .ok (.invokevirtual 166, 3) := by decide +kernel
theorem d_Model_repeat_57 : decode (mC m_Model_repeat) 57 = .ok (.istore_n 3, 1) := by decide +kernel
theorem d_Model_repeat_58 : decode (mC m_Model_repeat) 58 = .ok (.aload_n 0, 1) := by decide +kernel
theorem d_Model_repeat_59 : decode (mC m_Model_repeat) 59 = .ok (.aload_n 0, 1) := by decide +kernel
theorem d_Model_repeat_60 : decode (mC m_Model_repeat) 60 = .ok (.getfield 149, 3) := by decide +kernel
theorem d_Model_repeat_63 : decode (mC m_Model_repeat) 63 = .ok (.ifCond .ne 9, 3) := by decide +kernel
theorem d_Model_repeat_66 : decode (mC m_Model_repeat) 66 = .ok (.iload_n 3, 1) := by decide +kernel
theorem d_Model_repeat_67 : decode (mC m_Model_repeat) 67 = .ok (.bipush 29, 2) := by decide +kernel
theorem d_Model_repeat_69 : decode (mC m_Model_repeat) 69 = .ok (.if_icmp .le 7, 3) := by decide +kernel
theorem d_Model_repeat_72 : decode (mC m_Model_repeat) 72 = .ok (.iconst 1, 1) := by decide +kernel
theorem d_Model_repeat_73 : decode (mC m_Model_repeat) 73 = .ok (.goto 4, 3) := by decide +kernel
theorem d_Model_repeat_76 : decode (mC m_Model_repeat) 76 = .ok (.iconst 0, 1) := by decide +kernel
theorem d_Model_repeat_77 : decode (mC m_Model_repeat) 77 = .ok (.putfield 149, 3) := by decide +kernel
theorem d_Model_repeat_80 : decode (mC m_Model_repeat) 80 = .ok (.aload_n 0, 1) := by decide +kernel
theorem d_Model_repeat_81 : decode (mC m_Model_repeat) 81 = .ok (.getfield 149, 3) := by decide +kernel
theorem d_Model_repeat_84 : decode (mC m_Model_repeat) 84 = .ok (.ifCond .eq 7, 3) := by decide +kernel
theorem d_Model_repeat_87 : decode (mC m_Model_repeat) 87 = .ok (.iconst 0, 1) := by decide +kernel
theorem d_Model_repeat_88 : decode (mC m_Model_repeat) 88 = .ok (.goto 16, 3) := by decide +kernel
theorem d_Model_repeat_91 : decode (mC m_Model_repeat) 91 = .ok (.iload_n 3, 1) := by decide +kernel
theorem d_Model_repeat_92 : decode (mC m_Model_repeat) 92 = .ok (.invokestatic 120, 3) := by decide +kernel
theorem d_Model_repeat_95 : decode (mC m_Model_repeat) 95 = .ok (.aload_n 0, 1) := by decide +kernel
theorem d_Model_repeat_96 : decode (mC m_Model_repeat) 96 = .ok (.iload_n 3, 1) := by decide +kernel
theorem d_Model_repeat_97 : decode (mC m_Model_repeat) 97 = .ok (.invokestatic 123, 3) := by decide +kernel
theorem d_Model_repeat_100 : decode (mC m_Model_repeat) 100 = .ok (.invokevirtual 159, 3) := by decide +kernel
theorem d_Model_repeat_103 : decode (mC m_Model_repeat) 103 = .ok (.iadd, 1) := by decide +kernel
theorem d_Model_repeat_104 : decode (mC m_Model_repeat) 104 = .ok (.istore 4, 2) := by decide +kernel
theorem d_Model_repeat_106 : decode (mC m_Model_repeat) 106 = .ok (.aload_n 0, 1) := by decide +kernel
theorem d_Model_repeat_107 : decode (mC m_Model_repeat) 107 = .ok (.aload_n 0, 1) := by decide +kernel
theorem d_Model_repeat_108 : decode (mC m_Model_repeat) 108 = .ok (.getfield 149, 3) := by decide +kernel
theorem d_Model_repeat_111 : decode (mC m_Model_repeat) 111 = .ok (.ifCond .ne 12, 3) := by decide +kernel
theorem d_Model_repeat_114 : decode (mC m_Model_repeat) 114 = .ok (.iload 4, 2) := by decide +kernel
theorem d_Model_repeat_116 : decode (mC m_Model_repeat) 116 = .ok (.aload_n 0, 1) := by decide +kernel
theorem d_Model_repeat_117 : decode (mC m_Model_repeat) 117 = .ok (.getfield 75, 3) := by decide +kernel
theorem d_Model_repeat_120 : decode (mC m_Model_repeat) 120 = .ok (.if_icmp .le 7, 3) := by decide +kernel
theorem d_Model_repeat_123 : decode (mC m_Model_repeat) 123 = .ok (.iconst 1, 1) := by decide +kernel
theorem d_Model_repeat_124 : decode (mC m_Model_repeat) 124 = .ok (.goto 4, 3) := by decide +kernel
theorem d_Model_repeat_127 : decode (mC m_Model_repeat) 127 = .ok (.iconst 0, 1) := by decide +kernel
theorem d_Model_repeat_128 : decode (mC m_Model_repeat) 128 = .ok (.putfield 149, 3) := by decide +kernel
theorem d_Model_repeat_131 : decode (mC m_Model_repeat) 131 = .ok (.iconst 0, 1) := by decide +kernel
theorem d_Model_repeat_132 : decode (mC m_Model_repeat) 132 = .ok (.istore 5, 2) := by decide +kernel
theorem d_Model_repeat_134 : decode (mC m_Model_repeat) 134 = .ok (.iload 5, 2) := by decide +kernel
theorem d_Model_repeat_136 : decode (mC m_Model_repeat) 136 = .ok (.iload_n 2, 1) := by decide +kernel
theorem d_Model_repeat_137 : decode (mC m_Model_repeat) 137 = .ok (.if_icmp .ge 32, 3) := by decide +kernel
theorem d_Model_repeat_140 : decode (mC m_Model_repeat) 140 = .ok (.aload_n 0, 1) := by decide +kernel
theorem d_Model_repeat_141 : decode (mC m_Model_repeat) 141 = .ok (.getfield 149, 3) := by decide +kernel
theorem d_Model_repeat_144 : decode (mC m_Model_repeat) 144 = .ok (.ifCond .ne 25, 3) := by decide +kernel
theorem d_Model_repeat_147 : decode (mC m_Model_repeat) 147 = .ok (.aload_n 0, 1) := by decide +kernel
theorem d_Model_repeat_148 : decode (mC m_Model_repeat) 148 = .ok (.aload_n 0, 1) := by decide +kernel
theorem d_Model_repeat_149 : decode (mC m_Model_repeat) 149 = .ok (.getfield 16, 3) := by decide +kernel
theorem d_Model_repeat_152 : decode (mC m_Model_repeat) 152 = .ok (.aload_n 0, 1) := by decide +kernel
theorem d_Model_repeat_153 : decode (mC m_Model_repeat) 153 = .ok (.getfield 75, 3) := by decide +kernel
theorem d_Model_repeat_156 : decode (mC m_Model_repeat) 156 = .ok (.iload 4, 2) := by decide +kernel
theorem d_Model_repeat_158 : decode (mC m_Model_repeat) 158 = .ok (.isub, 1) := by decide +kernel
theorem d_Model_repeat_159 : decode (mC m_Model_repeat) 159 = .ok (.iaload, 1) := by decide +kernel
theorem d_Model_repeat_160 : decode (mC m_Model_repeat) 160 = .ok (.invokevirtual 163, 3) := by decide +kernel
theorem d_Model_repeat_163 : decode (mC m_Model_repeat) 163 = .ok (.iinc 5 1, 3) := by decide +kernel
theorem d_Model_repeat_166 : decode (mC m_Model_repeat) 166 = .ok (.goto (-32), 3) := by decide +kernel
theorem d_Model_repeat_169 : decode (mC m_Model_repeat) 169 = .ok (.return_, 1) := by decide +kernel
def b_Model_repeat_134 (F : Nat) (K134 : Nat → Int32 → Int32 → Int32 → zW → Option (Unit × zW)) (v0 : Nat) (v2 : Int32) (v4 : Int32) (v5 : Int32) (w : zW) : Option (Unit × zW) := if v2 ≤ v5 then (some ((), w)) else ((getI w v0 9 11).bind fun x141 => if x141 = 0 then ((getR w v0 9 7).bind fun x149 => (getI w v0 9 6).bind fun x153 => (aget w x149 (x153 - v4)).bind fun x159 => (zobj w v0 9).bind fun _ => (f_Model_out F v0 x159 w).bind fun r160 => K134 v0 v2 v4 (v5 + (1 : Int32)) r160.2) else (some ((), w)))
set_option maxRecDepth 100000 in
set_option maxHeartbeats 4000000 in
theorem b_Model_repeat_134_ok (G : zG) (F : Nat) (K134 : Nat → Int32 → Int32 → Int32 → zW → Option (Unit × zW)) (hK134 : ∀ (v0 : Nat) (v2 : Int32) (v4 : Int32) (v5 : Int32) (w : zW) (r : (Unit × zW)), K134 v0 v2 v4 v5 w = some r → zV G m_Model_repeat 134 [(0, .ref (z0 G + v0)), (2, .int v2), (4, .int v4), (5, .int v5)] [] w 0 0 (oV r.1) r.2) (v0 : Nat) (v2 : Int32) (v4 : Int32) (v5 : Int32) (w : zW) (r : (Unit × zW)) (h : b_Model_repeat_134 F K134 v0 v2 v4 v5 w = some r) : zV G m_Model_repeat 134 [(0, .ref (z0 G + v0)), (2, .int v2), (4, .int v4), (5, .int v5)] [] w 0 0 (oV r.1) r.2 := by
  unfold b_Model_repeat_134 at h
  refine V_iload (i := 5) d_Model_repeat_134 3 rfl ?_
  refine V_iload_n (i := 2) d_Model_repeat_136 rfl 1 rfl ?_
  refine V_icmp_ge (tgt := 169) d_Model_repeat_137 (by decide) (fun c137 => ?_) (fun c137 => ?_)
  · rw [if_pos c137] at h
    obtain rfl := Option.some.inj h
    exact V_vret rfl (by decide) (by decide) d_Model_repeat_169
  · rw [if_neg c137] at h
    refine V_aload_n (i := 0) d_Model_repeat_140 rfl 0 rfl ?_
    obtain ⟨x141, e141, h⟩ := ob h
    refine V_getI (ci := 9) (k := 11) d_Model_repeat_141 e141 rfl (by decide) in_Model k893 ?_
    refine V_if_ne (tgt := 169) d_Model_repeat_144 (by decide) (fun c144 => ?_) (fun c144 => ?_)
    · rw [if_neg c144] at h
      obtain rfl := Option.some.inj h
      exact V_vret rfl (by decide) (by decide) d_Model_repeat_169
    · rw [if_pos c144] at h
      refine V_aload_n (i := 0) d_Model_repeat_147 rfl 0 rfl ?_
      refine V_aload_n (i := 0) d_Model_repeat_148 rfl 0 rfl ?_
      obtain ⟨x149, e149, h⟩ := ob h
      refine V_getR (ci := 9) (k := 7) d_Model_repeat_149 e149 rfl (by decide) in_Model k889 ?_
      refine V_aload_n (i := 0) d_Model_repeat_152 rfl 0 rfl ?_
      obtain ⟨x153, e153, h⟩ := ob h
      refine V_getI (ci := 9) (k := 6) d_Model_repeat_153 e153 rfl (by decide) in_Model k888 ?_
      refine V_iload (i := 4) d_Model_repeat_156 2 rfl ?_
      refine V_isub d_Model_repeat_158 ?_
      obtain ⟨x159, e159, h⟩ := ob h
      refine V_aget d_Model_repeat_159 e159 ?_
      obtain ⟨_, eo160, h⟩ := ob h
      obtain ⟨r160, e160, h⟩ := ob h
      refine V_call (v := none) (st := []) (inv_V (N := m_Model_out) (As := [.int x159]) (ci := 9) d_Model_repeat_160 eo160 rfl k1102 k1104 sel_Model_out kc_Model_out y_Model_out) ⟨Or.inl kc_Model_out, k10, by decide, by decide⟩ (Nat.le_of_ble_eq_true rfl) (by decide) (by decide) (c_Model_out G F v0 x159 w r160 e160) ?_
      refine V_iinc (i := 5) (v := (v5 + (1 : Int32))) d_Model_repeat_163 3 rfl (congrArg (fun y => v5 + y) (by decide : Int32.ofInt (1) = (1 : Int32))) (by decide) rfl ?_
      refine V_goto (tgt := 134) d_Model_repeat_166 (by decide) ?_
      refine V_lv [1, 2, 3, 0] rfl ?_
      exact hK134 v0 v2 v4 (v5 + (1 : Int32)) r160.2 _ h
def l_Model_repeat_134 (F : Nat) : Nat → Nat → Int32 → Int32 → Int32 → zW → Option (Unit × zW)
  | 0 => fun _ _ _ _ _ => none
  | n + 1 => b_Model_repeat_134 F (l_Model_repeat_134 F n)
theorem l_Model_repeat_134_ok (G : zG) (F : Nat) (n : Nat) :  ∀ (v0 : Nat) (v2 : Int32) (v4 : Int32) (v5 : Int32) (w : zW) (r : (Unit × zW)), l_Model_repeat_134 F n v0 v2 v4 v5 w = some r → zV G m_Model_repeat 134 [(0, .ref (z0 G + v0)), (2, .int v2), (4, .int v4), (5, .int v5)] [] w 0 0 (oV r.1) r.2 := by
  induction n with
  | zero => intro v0 v2 v4 v5 w r h; exact nomatch (show (none : Option (Unit × zW)) = some r from h)
  | succ n ih => intro v0 v2 v4 v5 w r h; exact b_Model_repeat_134_ok G F (l_Model_repeat_134 F n) ih v0 v2 v4 v5 w r h
def b_Model_repeat_128 (F : Nat) (v0 : Nat) (v2 : Int32) (v4 : Int32) (s0 : Nat) (s1 : Int32) (w : zW) : Option (Unit × zW) := if s1 = 0 ∨ s1 = 1 then (putI w s0 9 11 s1).bind fun w128 => l_Model_repeat_134 F F v0 v2 v4 (0 : Int32) w128 else none
set_option maxRecDepth 100000 in
set_option maxHeartbeats 4000000 in
theorem b_Model_repeat_128_ok (G : zG) (F : Nat) (v0 : Nat) (v2 : Int32) (v4 : Int32) (s0 : Nat) (s1 : Int32) (w : zW) (r : (Unit × zW)) (h : b_Model_repeat_128 F v0 v2 v4 s0 s1 w = some r) : zV G m_Model_repeat 128 [(0, .ref (z0 G + v0)), (2, .int v2), (4, .int v4)] [.int s1, .ref (z0 G + s0)] w 0 0 (oV r.1) r.2 := by
  unfold b_Model_repeat_128 at h
  by_cases g128 : ¬ (s1 = 0 ∨ s1 = 1)
  · exact absurd h (by rw [if_neg g128]; exact nofun)
  have g128 := Classical.not_not.mp g128
  rw [if_pos g128] at h
  obtain ⟨w128, e128, h⟩ := ob h
  refine V_putI (ci := 9) (k := 11) t_Model d_Model_repeat_128 e128 rfl (by decide) in_Model k893 ty_Model nm_Model rfl (Or.inr ⟨rfl, g128⟩) ?_
  refine V_iconst (v := 0) d_Model_repeat_131 (by decide) ?_
  refine V_istore (i := 5) d_Model_repeat_132 (by decide) rfl ?_
  refine V_lv [1, 2, 3, 0] rfl ?_
  exact l_Model_repeat_134_ok G F F v0 v2 v4 (0 : Int32) w128 _ h
def b_Model_repeat_123 (F : Nat) (v0 : Nat) (v2 : Int32) (v4 : Int32) (s0 : Nat) (w : zW) : Option (Unit × zW) := b_Model_repeat_128 F v0 v2 v4 s0 (1 : Int32) w
set_option maxRecDepth 100000 in
set_option maxHeartbeats 4000000 in
theorem b_Model_repeat_123_ok (G : zG) (F : Nat) (v0 : Nat) (v2 : Int32) (v4 : Int32) (s0 : Nat) (w : zW) (r : (Unit × zW)) (h : b_Model_repeat_123 F v0 v2 v4 s0 w = some r) : zV G m_Model_repeat 123 [(0, .ref (z0 G + v0)), (2, .int v2), (4, .int v4)] [.ref (z0 G + s0)] w 0 0 (oV r.1) r.2 := by
  unfold b_Model_repeat_123 at h
  refine V_iconst (v := 1) d_Model_repeat_123 (by decide) ?_
  refine V_goto (tgt := 128) d_Model_repeat_124 (by decide) ?_
  exact b_Model_repeat_128_ok G F v0 v2 v4 s0 (1 : Int32) w _ h
def b_Model_repeat_104 (F : Nat) (v0 : Nat) (v2 : Int32) (s0 : Int32) (w : zW) : Option (Unit × zW) := (getI w v0 9 11).bind fun x108 => if x108 = 0 then ((getI w v0 9 6).bind fun x117 => if s0 ≤ x117 then (b_Model_repeat_128 F v0 v2 s0 v0 (0 : Int32) w) else (b_Model_repeat_123 F v0 v2 s0 v0 w)) else (b_Model_repeat_123 F v0 v2 s0 v0 w)
set_option maxRecDepth 100000 in
set_option maxHeartbeats 4000000 in
theorem b_Model_repeat_104_ok (G : zG) (F : Nat) (v0 : Nat) (v2 : Int32) (s0 : Int32) (w : zW) (r : (Unit × zW)) (h : b_Model_repeat_104 F v0 v2 s0 w = some r) : zV G m_Model_repeat 104 [(0, .ref (z0 G + v0)), (2, .int v2)] [.int s0] w 0 0 (oV r.1) r.2 := by
  unfold b_Model_repeat_104 at h
  refine V_istore (i := 4) d_Model_repeat_104 (by decide) rfl ?_
  refine V_aload_n (i := 0) d_Model_repeat_106 rfl 1 rfl ?_
  refine V_aload_n (i := 0) d_Model_repeat_107 rfl 1 rfl ?_
  obtain ⟨x108, e108, h⟩ := ob h
  refine V_getI (ci := 9) (k := 11) d_Model_repeat_108 e108 rfl (by decide) in_Model k893 ?_
  refine V_if_ne (tgt := 123) d_Model_repeat_111 (by decide) (fun c111 => ?_) (fun c111 => ?_)
  · rw [if_neg c111] at h
    refine V_lv [1, 2, 0] rfl ?_
    exact b_Model_repeat_123_ok G F v0 v2 s0 v0 w _ h
  · rw [if_pos c111] at h
    refine V_iload (i := 4) d_Model_repeat_114 0 rfl ?_
    refine V_aload_n (i := 0) d_Model_repeat_116 rfl 1 rfl ?_
    obtain ⟨x117, e117, h⟩ := ob h
    refine V_getI (ci := 9) (k := 6) d_Model_repeat_117 e117 rfl (by decide) in_Model k888 ?_
    refine V_icmp_le (tgt := 127) d_Model_repeat_120 (by decide) (fun c120 => ?_) (fun c120 => ?_)
    · rw [if_pos c120] at h
      refine V_iconst (v := 0) d_Model_repeat_127 (by decide) ?_
      refine V_lv [1, 2, 0] rfl ?_
      exact b_Model_repeat_128_ok G F v0 v2 s0 v0 (0 : Int32) w _ h
    · rw [if_neg c120] at h
      refine V_lv [1, 2, 0] rfl ?_
      exact b_Model_repeat_123_ok G F v0 v2 s0 v0 w _ h
def b_Model_repeat_77 (F : Nat) (v0 : Nat) (v2 : Int32) (v3 : Int32) (s0 : Nat) (s1 : Int32) (w : zW) : Option (Unit × zW) := if s1 = 0 ∨ s1 = 1 then (putI w s0 9 11 s1).bind fun w77 => (getI w77 v0 9 11).bind fun x81 => if x81 = 0 then ((f_Model_leastDistance F v3 w77).bind fun r92 => (f_Model_extraDistance F v3 r92.2).bind fun r97 => (zobj r97.2 v0 9).bind fun _ => (f_Model_bits F v0 r97.1 r97.2).bind fun r100 => b_Model_repeat_104 F v0 v2 (r92.1 + r100.1) r100.2) else (b_Model_repeat_104 F v0 v2 (0 : Int32) w77) else none
set_option maxRecDepth 100000 in
set_option maxHeartbeats 4000000 in
theorem b_Model_repeat_77_ok (G : zG) (F : Nat) (v0 : Nat) (v2 : Int32) (v3 : Int32) (s0 : Nat) (s1 : Int32) (w : zW) (r : (Unit × zW)) (h : b_Model_repeat_77 F v0 v2 v3 s0 s1 w = some r) : zV G m_Model_repeat 77 [(0, .ref (z0 G + v0)), (2, .int v2), (3, .int v3)] [.int s1, .ref (z0 G + s0)] w 0 0 (oV r.1) r.2 := by
  unfold b_Model_repeat_77 at h
  by_cases g77 : ¬ (s1 = 0 ∨ s1 = 1)
  · exact absurd h (by rw [if_neg g77]; exact nofun)
  have g77 := Classical.not_not.mp g77
  rw [if_pos g77] at h
  obtain ⟨w77, e77, h⟩ := ob h
  refine V_putI (ci := 9) (k := 11) t_Model d_Model_repeat_77 e77 rfl (by decide) in_Model k893 ty_Model nm_Model rfl (Or.inr ⟨rfl, g77⟩) ?_
  refine V_aload_n (i := 0) d_Model_repeat_80 rfl 0 rfl ?_
  obtain ⟨x81, e81, h⟩ := ob h
  refine V_getI (ci := 9) (k := 11) d_Model_repeat_81 e81 rfl (by decide) in_Model k893 ?_
  refine V_if_eq (tgt := 91) d_Model_repeat_84 (by decide) (fun c84 => ?_) (fun c84 => ?_)
  · rw [if_pos c84] at h
    refine V_iload_n (i := 3) d_Model_repeat_91 rfl 2 rfl ?_
    obtain ⟨r92, e92, h⟩ := ob h
    refine V_call (v := some (.int r92.1)) (st := []) (inv_S (N := m_Model_leastDistance) (As := [.int v3]) d_Model_repeat_92 k1071 k1072 k10 (Or.inl kc_Model_leastDistance) y_Model_leastDistance) ⟨Or.inl kc_Model_leastDistance, k10, by decide, by decide⟩ (Nat.le_of_ble_eq_true rfl) (by decide) (by decide) (c_Model_leastDistance G F v3 w77 r92 e92) ?_
    refine V_aload_n (i := 0) d_Model_repeat_95 rfl 0 rfl ?_
    refine V_iload_n (i := 3) d_Model_repeat_96 rfl 2 rfl ?_
    obtain ⟨r97, e97, h⟩ := ob h
    refine V_call (v := some (.int r97.1)) (st := [.ref (z0 G + v0), .int r92.1]) (inv_S (N := m_Model_extraDistance) (As := [.int v3]) d_Model_repeat_97 k1074 k1075 k10 (Or.inl kc_Model_extraDistance) y_Model_extraDistance) ⟨Or.inl kc_Model_extraDistance, k10, by decide, by decide⟩ (Nat.le_of_ble_eq_true rfl) (by decide) (by decide) (c_Model_extraDistance G F v3 r92.2 r97 e97) ?_
    obtain ⟨_, eo100, h⟩ := ob h
    obtain ⟨r100, e100, h⟩ := ob h
    refine V_call (v := some (.int r100.1)) (st := [.int r92.1]) (inv_V (N := m_Model_bits) (As := [.int r97.1]) (ci := 9) d_Model_repeat_100 eo100 rfl k1093 k1095 sel_Model_bits kc_Model_bits y_Model_bits) ⟨Or.inl kc_Model_bits, k10, by decide, by decide⟩ (Nat.le_of_ble_eq_true rfl) (by decide) (by decide) (c_Model_bits G F v0 r97.1 r97.2 r100 e100) ?_
    refine V_iadd d_Model_repeat_103 ?_
    refine V_lv [0, 1] rfl ?_
    exact b_Model_repeat_104_ok G F v0 v2 (r92.1 + r100.1) r100.2 _ h
  · rw [if_neg c84] at h
    refine V_iconst (v := 0) d_Model_repeat_87 (by decide) ?_
    refine V_goto (tgt := 104) d_Model_repeat_88 (by decide) ?_
    refine V_lv [0, 1] rfl ?_
    exact b_Model_repeat_104_ok G F v0 v2 (0 : Int32) w77 _ h
def b_Model_repeat_72 (F : Nat) (v0 : Nat) (v2 : Int32) (v3 : Int32) (s0 : Nat) (w : zW) : Option (Unit × zW) := b_Model_repeat_77 F v0 v2 v3 s0 (1 : Int32) w
set_option maxRecDepth 100000 in
set_option maxHeartbeats 4000000 in
theorem b_Model_repeat_72_ok (G : zG) (F : Nat) (v0 : Nat) (v2 : Int32) (v3 : Int32) (s0 : Nat) (w : zW) (r : (Unit × zW)) (h : b_Model_repeat_72 F v0 v2 v3 s0 w = some r) : zV G m_Model_repeat 72 [(0, .ref (z0 G + v0)), (2, .int v2), (3, .int v3)] [.ref (z0 G + s0)] w 0 0 (oV r.1) r.2 := by
  unfold b_Model_repeat_72 at h
  refine V_iconst (v := 1) d_Model_repeat_72 (by decide) ?_
  refine V_goto (tgt := 77) d_Model_repeat_73 (by decide) ?_
  exact b_Model_repeat_77_ok G F v0 v2 v3 s0 (1 : Int32) w _ h
def b_Model_repeat_47 (F : Nat) (v0 : Nat) (s0 : Int32) (w : zW) : Option (Unit × zW) := (zobj w v0 9).bind fun _ => (f_Model_symbol F v0 (288 : Int32) (32 : Int32) w).bind fun r54 => (getI r54.2 v0 9 11).bind fun x60 => if x60 = 0 then (if r54.1 ≤ (29 : Int32) then (b_Model_repeat_77 F v0 s0 r54.1 v0 (0 : Int32) r54.2) else (b_Model_repeat_72 F v0 s0 r54.1 v0 r54.2)) else (b_Model_repeat_72 F v0 s0 r54.1 v0 r54.2)
set_option maxRecDepth 100000 in
set_option maxHeartbeats 4000000 in
theorem b_Model_repeat_47_ok (G : zG) (F : Nat) (v0 : Nat) (s0 : Int32) (w : zW) (r : (Unit × zW)) (h : b_Model_repeat_47 F v0 s0 w = some r) : zV G m_Model_repeat 47 [(0, .ref (z0 G + v0))] [.int s0] w 0 0 (oV r.1) r.2 := by
  unfold b_Model_repeat_47 at h
  refine V_istore_n (i := 2) d_Model_repeat_47 rfl (by decide) rfl ?_
  refine V_aload_n (i := 0) d_Model_repeat_48 rfl 1 rfl ?_
  refine V_sipush (v := 288) d_Model_repeat_49 (by decide) ?_
  refine V_bipush (v := 32) d_Model_repeat_52 (by decide) ?_
  obtain ⟨_, eo54, h⟩ := ob h
  obtain ⟨r54, e54, h⟩ := ob h
  refine V_call (v := some (.int r54.1)) (st := []) (inv_V (N := m_Model_symbol) (As := [.int (288 : Int32), .int (32 : Int32)]) (ci := 9) d_Model_repeat_54 eo54 rfl k1114 k1116 sel_Model_symbol kc_Model_symbol y_Model_symbol) ⟨Or.inl kc_Model_symbol, k10, by decide, by decide⟩ (Nat.le_of_ble_eq_true rfl) (by decide) (by decide) (c_Model_symbol G F v0 (288 : Int32) (32 : Int32) w r54 e54) ?_
  refine V_istore_n (i := 3) d_Model_repeat_57 rfl (by decide) rfl ?_
  refine V_aload_n (i := 0) d_Model_repeat_58 rfl 2 rfl ?_
  refine V_aload_n (i := 0) d_Model_repeat_59 rfl 2 rfl ?_
  obtain ⟨x60, e60, h⟩ := ob h
  refine V_getI (ci := 9) (k := 11) d_Model_repeat_60 e60 rfl (by decide) in_Model k893 ?_
  refine V_if_ne (tgt := 72) d_Model_repeat_63 (by decide) (fun c63 => ?_) (fun c63 => ?_)
  · rw [if_neg c63] at h
    refine V_lv [2, 1, 0] rfl ?_
    exact b_Model_repeat_72_ok G F v0 s0 r54.1 v0 r54.2 _ h
  · rw [if_pos c63] at h
    refine V_iload_n (i := 3) d_Model_repeat_66 rfl 0 rfl ?_
    refine V_bipush (v := 29) d_Model_repeat_67 (by decide) ?_
    refine V_icmp_le (tgt := 76) d_Model_repeat_69 (by decide) (fun c69 => ?_) (fun c69 => ?_)
    · rw [if_pos c69] at h
      refine V_iconst (v := 0) d_Model_repeat_76 (by decide) ?_
      refine V_lv [2, 1, 0] rfl ?_
      exact b_Model_repeat_77_ok G F v0 s0 r54.1 v0 (0 : Int32) r54.2 _ h
    · rw [if_neg c69] at h
      refine V_lv [2, 1, 0] rfl ?_
      exact b_Model_repeat_72_ok G F v0 s0 r54.1 v0 r54.2 _ h
def b_Model_repeat_20 (F : Nat) (v0 : Nat) (v1 : Int32) (s0 : Nat) (s1 : Int32) (w : zW) : Option (Unit × zW) := if s1 = 0 ∨ s1 = 1 then (putI w s0 9 11 s1).bind fun w20 => (getI w20 v0 9 11).bind fun x24 => if x24 = 0 then ((f_Model_leastLength F v1 w20).bind fun r35 => (f_Model_extraLength F v1 r35.2).bind fun r40 => (zobj r40.2 v0 9).bind fun _ => (f_Model_bits F v0 r40.1 r40.2).bind fun r43 => b_Model_repeat_47 F v0 (r35.1 + r43.1) r43.2) else (b_Model_repeat_47 F v0 (0 : Int32) w20) else none
set_option maxRecDepth 100000 in
set_option maxHeartbeats 4000000 in
theorem b_Model_repeat_20_ok (G : zG) (F : Nat) (v0 : Nat) (v1 : Int32) (s0 : Nat) (s1 : Int32) (w : zW) (r : (Unit × zW)) (h : b_Model_repeat_20 F v0 v1 s0 s1 w = some r) : zV G m_Model_repeat 20 [(0, .ref (z0 G + v0)), (1, .int v1)] [.int s1, .ref (z0 G + s0)] w 0 0 (oV r.1) r.2 := by
  unfold b_Model_repeat_20 at h
  by_cases g20 : ¬ (s1 = 0 ∨ s1 = 1)
  · exact absurd h (by rw [if_neg g20]; exact nofun)
  have g20 := Classical.not_not.mp g20
  rw [if_pos g20] at h
  obtain ⟨w20, e20, h⟩ := ob h
  refine V_putI (ci := 9) (k := 11) t_Model d_Model_repeat_20 e20 rfl (by decide) in_Model k893 ty_Model nm_Model rfl (Or.inr ⟨rfl, g20⟩) ?_
  refine V_aload_n (i := 0) d_Model_repeat_23 rfl 0 rfl ?_
  obtain ⟨x24, e24, h⟩ := ob h
  refine V_getI (ci := 9) (k := 11) d_Model_repeat_24 e24 rfl (by decide) in_Model k893 ?_
  refine V_if_eq (tgt := 34) d_Model_repeat_27 (by decide) (fun c27 => ?_) (fun c27 => ?_)
  · rw [if_pos c27] at h
    refine V_iload_n (i := 1) d_Model_repeat_34 rfl 1 rfl ?_
    obtain ⟨r35, e35, h⟩ := ob h
    refine V_call (v := some (.int r35.1)) (st := []) (inv_S (N := m_Model_leastLength) (As := [.int v1]) d_Model_repeat_35 k1061 k1062 k10 (Or.inl kc_Model_leastLength) y_Model_leastLength) ⟨Or.inl kc_Model_leastLength, k10, by decide, by decide⟩ (Nat.le_of_ble_eq_true rfl) (by decide) (by decide) (c_Model_leastLength G F v1 w20 r35 e35) ?_
    refine V_aload_n (i := 0) d_Model_repeat_38 rfl 0 rfl ?_
    refine V_iload_n (i := 1) d_Model_repeat_39 rfl 1 rfl ?_
    obtain ⟨r40, e40, h⟩ := ob h
    refine V_call (v := some (.int r40.1)) (st := [.ref (z0 G + v0), .int r35.1]) (inv_S (N := m_Model_extraLength) (As := [.int v1]) d_Model_repeat_40 k1064 k1065 k10 (Or.inl kc_Model_extraLength) y_Model_extraLength) ⟨Or.inl kc_Model_extraLength, k10, by decide, by decide⟩ (Nat.le_of_ble_eq_true rfl) (by decide) (by decide) (c_Model_extraLength G F v1 r35.2 r40 e40) ?_
    obtain ⟨_, eo43, h⟩ := ob h
    obtain ⟨r43, e43, h⟩ := ob h
    refine V_call (v := some (.int r43.1)) (st := [.int r35.1]) (inv_V (N := m_Model_bits) (As := [.int r40.1]) (ci := 9) d_Model_repeat_43 eo43 rfl k1093 k1095 sel_Model_bits kc_Model_bits y_Model_bits) ⟨Or.inl kc_Model_bits, k10, by decide, by decide⟩ (Nat.le_of_ble_eq_true rfl) (by decide) (by decide) (c_Model_bits G F v0 r40.1 r40.2 r43 e43) ?_
    refine V_iadd d_Model_repeat_46 ?_
    refine V_lv [0] rfl ?_
    exact b_Model_repeat_47_ok G F v0 (r35.1 + r43.1) r43.2 _ h
  · rw [if_neg c27] at h
    refine V_iconst (v := 0) d_Model_repeat_30 (by decide) ?_
    refine V_goto (tgt := 47) d_Model_repeat_31 (by decide) ?_
    refine V_lv [0] rfl ?_
    exact b_Model_repeat_47_ok G F v0 (0 : Int32) w20 _ h
def b_Model_repeat_15 (F : Nat) (v0 : Nat) (v1 : Int32) (s0 : Nat) (w : zW) : Option (Unit × zW) := b_Model_repeat_20 F v0 v1 s0 (1 : Int32) w
set_option maxRecDepth 100000 in
set_option maxHeartbeats 4000000 in
theorem b_Model_repeat_15_ok (G : zG) (F : Nat) (v0 : Nat) (v1 : Int32) (s0 : Nat) (w : zW) (r : (Unit × zW)) (h : b_Model_repeat_15 F v0 v1 s0 w = some r) : zV G m_Model_repeat 15 [(0, .ref (z0 G + v0)), (1, .int v1)] [.ref (z0 G + s0)] w 0 0 (oV r.1) r.2 := by
  unfold b_Model_repeat_15 at h
  refine V_iconst (v := 1) d_Model_repeat_15 (by decide) ?_
  refine V_goto (tgt := 20) d_Model_repeat_16 (by decide) ?_
  exact b_Model_repeat_20_ok G F v0 v1 s0 (1 : Int32) w _ h
def b_Model_repeat_0 (F : Nat) (v0 : Nat) (v1 : Int32) (w : zW) : Option (Unit × zW) := (getI w v0 9 11).bind fun x2 => if x2 = 0 then (if v1 ≤ (285 : Int32) then (b_Model_repeat_20 F v0 v1 v0 (0 : Int32) w) else (b_Model_repeat_15 F v0 v1 v0 w)) else (b_Model_repeat_15 F v0 v1 v0 w)
set_option maxRecDepth 100000 in
set_option maxHeartbeats 4000000 in
theorem b_Model_repeat_0_ok (G : zG) (F : Nat) (v0 : Nat) (v1 : Int32) (w : zW) (r : (Unit × zW)) (h : b_Model_repeat_0 F v0 v1 w = some r) : zV G m_Model_repeat 0 [(0, .ref (z0 G + v0)), (1, .int v1)] [] w 0 0 (oV r.1) r.2 := by
  unfold b_Model_repeat_0 at h
  refine V_aload_n (i := 0) d_Model_repeat_0 rfl 0 rfl ?_
  refine V_aload_n (i := 0) d_Model_repeat_1 rfl 0 rfl ?_
  obtain ⟨x2, e2, h⟩ := ob h
  refine V_getI (ci := 9) (k := 11) d_Model_repeat_2 e2 rfl (by decide) in_Model k893 ?_
  refine V_if_ne (tgt := 15) d_Model_repeat_5 (by decide) (fun c5 => ?_) (fun c5 => ?_)
  · rw [if_neg c5] at h
    exact b_Model_repeat_15_ok G F v0 v1 v0 w _ h
  · rw [if_pos c5] at h
    refine V_iload_n (i := 1) d_Model_repeat_8 rfl 1 rfl ?_
    refine V_sipush (v := 285) d_Model_repeat_9 (by decide) ?_
    refine V_icmp_le (tgt := 19) d_Model_repeat_12 (by decide) (fun c12 => ?_) (fun c12 => ?_)
    · rw [if_pos c12] at h
      refine V_iconst (v := 0) d_Model_repeat_19 (by decide) ?_
      exact b_Model_repeat_20_ok G F v0 v1 v0 (0 : Int32) w _ h
    · rw [if_neg c12] at h
      exact b_Model_repeat_15_ok G F v0 v1 v0 w _ h
def f_Model_repeat (F : Nat) (v0 : Nat) (v1 : Int32) (w : zW) : Option (Unit × zW) := b_Model_repeat_0 F v0 v1 w
theorem c_Model_repeat (G : zG) (F : Nat) (v0 : Nat) (v1 : Int32) (w : zW) (r : (Unit × zW)) (h : f_Model_repeat F v0 v1 w = some r) : zCT G m_Model_repeat [.ref (z0 G + v0), .int v1] w (oV r.1) r.2 := zCT.ofV (by decide +kernel) (Or.inl ⟨kc_Model_repeat, rfl⟩) (Nat.le_of_ble_eq_true rfl) (b_Model_repeat_0_ok G F v0 v1 w r h)

/-! ZipArrayModel.codedBlock()V -/
def m_Model_codedBlock : zM := (⟨R_Model, "codedBlock", "()V"⟩, prog_11_method_36_code, 2, none, [], { frames := 3, cells := 0, slots := 0, locals := 71 })
theorem k1122 : Cond.methodLink R_Model 172 (mY m_Model_repeat) ∈ zTb := tb_at 1122 (by decide +kernel) rfl
theorem k1124 : Cond.instanceMethod (mY m_Model_repeat) ∈ zTb := tb_at 1124 (by decide +kernel) rfl
theorem kc_Model_codedBlock : Cond.code (mY m_Model_codedBlock) (mC m_Model_codedBlock) (mL m_Model_codedBlock) (mT m_Model_codedBlock) ∈ zTb := tb_at 1121 (by decide +kernel) rfl
theorem y_Model_codedBlock : (mY m_Model_codedBlock).cls ≠ "java/lang/invoke/MethodHandle" ∧ (mY m_Model_codedBlock).cls ≠ "java/lang/invoke/VarHandle" ∧ (parseMethodDescriptor (mY m_Model_codedBlock).desc).map (fun d => d.parameters.length) = some 0 := by decide +kernel
theorem sel_Model_codedBlock : Cond.selects R_Model (mY m_Model_codedBlock) (mY m_Model_codedBlock) ∈ zTb := sel_at (y := mY m_Model_codedBlock) (n := 33) 57 (by decide +kernel)
theorem d_Model_codedBlock_0 : decode (mC m_Model_codedBlock) 0 = .ok (.aload_n 0, 1) := by decide +kernel
theorem d_Model_codedBlock_1 : decode (mC m_Model_codedBlock) 1 = .ok (.iconst 0, 1) := by decide +kernel
theorem d_Model_codedBlock_2 : decode (mC m_Model_codedBlock) 2 = .ok (.sipush 288, 3) := by decide +kernel
theorem d_Model_codedBlock_5 : decode (mC m_Model_codedBlock) 5 = .ok (.invokevirtual 166, 3) := by decide +kernel
theorem d_Model_codedBlock_8 : decode (mC m_Model_codedBlock) 8 = .ok (.istore_n 1, 1) := by decide +kernel
theorem d_Model_codedBlock_9 : decode (mC m_Model_codedBlock) 9 = .ok (.aload_n 0, 1) := by decide +kernel
theorem d_Model_codedBlock_10 : decode (mC m_Model_codedBlock) 10 = .ok (.getfield 149, 3) := by decide +kernel
theorem d_Model_codedBlock_13 : decode (mC m_Model_codedBlock) 13 = .ok (.ifCond .ne 55, 3) := by decide +kernel
theorem d_Model_codedBlock_16 : decode (mC m_Model_codedBlock) 16 = .ok (.iload_n 1, 1) := by decide +kernel
theorem d_Model_codedBlock_17 : decode (mC m_Model_codedBlock) 17 = .ok (.sipush 256, 3) := by decide +kernel
theorem d_Model_codedBlock_20 : decode (mC m_Model_codedBlock) 20 = .ok (.if_icmp .eq 48, 3) := by decide +kernel
theorem d_Model_codedBlock_23 : decode (mC m_Model_codedBlock) 23 = .ok (.iload_n 1, 1) := by decide +kernel
theorem d_Model_codedBlock_24 : decode (mC m_Model_codedBlock) 24 = .ok (.sipush 256, 3) := by decide +kernel
theorem d_Model_codedBlock_27 : decode (mC m_Model_codedBlock) 27 = .ok (.if_icmp .ge 11, 3) := by decide +kernel
theorem d_Model_codedBlock_30 : decode (mC m_Model_codedBlock) 30 = .ok (.aload_n 0, 1) := by decide +kernel
theorem d_Model_codedBlock_31 : decode (mC m_Model_codedBlock) 31 = .ok (.iload_n 1, 1) := by decide +kernel
theorem d_Model_codedBlock_32 : decode (mC m_Model_codedBlock) 32 = .ok (.invokevirtual 163, 3) := by decide +kernel
theorem d_Model_codedBlock_35 : decode (mC m_Model_codedBlock) 35 = .ok (.goto 8, 3) := by decide +kernel
theorem d_Model_codedBlock_38 : decode (mC m_Model_codedBlock) 38 = .ok (.aload_n 0, 1) := by decide +kernel
theorem d_Model_codedBlock_39 : decode (mC m_Model_codedBlock) 39 = .ok (.iload_n 1, 1) := by decide +kernel
theorem d_Model_codedBlock_40 : decode (mC m_Model_codedBlock) 40 = .ok (.invokevirtual 172, 3) := by decide +kernel
theorem d_Model_codedBlock_43 : decode (mC m_Model_codedBlock) 43 = .ok (.aload_n 0, 1) := by decide +kernel
theorem d_Model_codedBlock_44 : decode (mC m_Model_codedBlock) 44 = .ok (.getfield 149, 3) := by decide +kernel
theorem d_Model_codedBlock_47 : decode (mC m_Model_codedBlock) 47 = .ok (.ifCond .eq 9, 3) := by decide +kernel
theorem d_Model_codedBlock_50 : decode (mC m_Model_codedBlock) 50 = .ok (.sipush 256, 3) := by decide +kernel
theorem d_Model_codedBlock_53 : decode (mC m_Model_codedBlock) 53 = .ok (.goto 11, 3) := by decide +kernel
theorem d_Model_codedBlock_56 : decode (mC m_Model_codedBlock) 56 = .ok (.aload_n 0, 1) := by decide +kernel
theorem d_Model_codedBlock_57 : decode (mC m_Model_codedBlock) 57 = .ok (.iconst 0, 1) := by decide +kernel
theorem d_Model_codedBlock_58 : decode (mC m_Model_codedBlock) 58 = .ok (.sipush 288, 3) := by decide +kernel
theorem d_Model_codedBlock_61 : decode (mC m_Model_codedBlock) 61 = .ok (.invokevirtual 166, 3) := by decide +kernel
theorem d_Model_codedBlock_64 : decode (mC m_Model_codedBlock) 64 = .ok (.istore_n 1, 1) := by decide +kernel
theorem d_Model_codedBlock_65 : decode (mC m_Model_codedBlock) 65 = .ok (.goto (-56), 3) := by decide +kernel
theorem d_Model_codedBlock_68 : decode (mC m_Model_codedBlock) 68 = .ok (.return_, 1) := by decide +kernel
def b_Model_codedBlock_64 (F : Nat) (K9 : Nat → Int32 → zW → Option (Unit × zW)) (v0 : Nat) (s0 : Int32) (w : zW) : Option (Unit × zW) := K9 v0 s0 w
set_option maxRecDepth 100000 in
set_option maxHeartbeats 4000000 in
theorem b_Model_codedBlock_64_ok (G : zG) (F : Nat) (K9 : Nat → Int32 → zW → Option (Unit × zW)) (hK9 : ∀ (v0 : Nat) (v1 : Int32) (w : zW) (r : (Unit × zW)), K9 v0 v1 w = some r → zV G m_Model_codedBlock 9 [(0, .ref (z0 G + v0)), (1, .int v1)] [] w 0 0 (oV r.1) r.2) (v0 : Nat) (s0 : Int32) (w : zW) (r : (Unit × zW)) (h : b_Model_codedBlock_64 F K9 v0 s0 w = some r) : zV G m_Model_codedBlock 64 [(0, .ref (z0 G + v0))] [.int s0] w 0 0 (oV r.1) r.2 := by
  unfold b_Model_codedBlock_64 at h
  refine V_istore_n (i := 1) d_Model_codedBlock_64 rfl (by decide) rfl ?_
  refine V_goto (tgt := 9) d_Model_codedBlock_65 (by decide) ?_
  refine V_lv [1, 0] rfl ?_
  exact hK9 v0 s0 w _ h
def b_Model_codedBlock_43 (F : Nat) (K9 : Nat → Int32 → zW → Option (Unit × zW)) (v0 : Nat) (w : zW) : Option (Unit × zW) := (getI w v0 9 11).bind fun x44 => if x44 = 0 then ((zobj w v0 9).bind fun _ => (f_Model_symbol F v0 (0 : Int32) (288 : Int32) w).bind fun r61 => b_Model_codedBlock_64 F K9 v0 r61.1 r61.2) else (b_Model_codedBlock_64 F K9 v0 (256 : Int32) w)
set_option maxRecDepth 100000 in
set_option maxHeartbeats 4000000 in
theorem b_Model_codedBlock_43_ok (G : zG) (F : Nat) (K9 : Nat → Int32 → zW → Option (Unit × zW)) (hK9 : ∀ (v0 : Nat) (v1 : Int32) (w : zW) (r : (Unit × zW)), K9 v0 v1 w = some r → zV G m_Model_codedBlock 9 [(0, .ref (z0 G + v0)), (1, .int v1)] [] w 0 0 (oV r.1) r.2) (v0 : Nat) (w : zW) (r : (Unit × zW)) (h : b_Model_codedBlock_43 F K9 v0 w = some r) : zV G m_Model_codedBlock 43 [(0, .ref (z0 G + v0))] [] w 0 0 (oV r.1) r.2 := by
  unfold b_Model_codedBlock_43 at h
  refine V_aload_n (i := 0) d_Model_codedBlock_43 rfl 0 rfl ?_
  obtain ⟨x44, e44, h⟩ := ob h
  refine V_getI (ci := 9) (k := 11) d_Model_codedBlock_44 e44 rfl (by decide) in_Model k893 ?_
  refine V_if_eq (tgt := 56) d_Model_codedBlock_47 (by decide) (fun c47 => ?_) (fun c47 => ?_)
  · rw [if_pos c47] at h
    refine V_aload_n (i := 0) d_Model_codedBlock_56 rfl 0 rfl ?_
    refine V_iconst (v := 0) d_Model_codedBlock_57 (by decide) ?_
    refine V_sipush (v := 288) d_Model_codedBlock_58 (by decide) ?_
    obtain ⟨_, eo61, h⟩ := ob h
    obtain ⟨r61, e61, h⟩ := ob h
    refine V_call (v := some (.int r61.1)) (st := []) (inv_V (N := m_Model_symbol) (As := [.int (0 : Int32), .int (288 : Int32)]) (ci := 9) d_Model_codedBlock_61 eo61 rfl k1114 k1116 sel_Model_symbol kc_Model_symbol y_Model_symbol) ⟨Or.inl kc_Model_symbol, k10, by decide, by decide⟩ (Nat.le_of_ble_eq_true rfl) (by decide) (by decide) (c_Model_symbol G F v0 (0 : Int32) (288 : Int32) w r61 e61) ?_
    exact b_Model_codedBlock_64_ok G F K9 hK9 v0 r61.1 r61.2 _ h
  · rw [if_neg c47] at h
    refine V_sipush (v := 256) d_Model_codedBlock_50 (by decide) ?_
    refine V_goto (tgt := 64) d_Model_codedBlock_53 (by decide) ?_
    exact b_Model_codedBlock_64_ok G F K9 hK9 v0 (256 : Int32) w _ h
def b_Model_codedBlock_9 (F : Nat) (K9 : Nat → Int32 → zW → Option (Unit × zW)) (v0 : Nat) (v1 : Int32) (w : zW) : Option (Unit × zW) := (getI w v0 9 11).bind fun x10 => if x10 = 0 then (if v1 = (256 : Int32) then (some ((), w)) else (if (256 : Int32) ≤ v1 then ((zobj w v0 9).bind fun _ => (f_Model_repeat F v0 v1 w).bind fun r40 => b_Model_codedBlock_43 F K9 v0 r40.2) else ((zobj w v0 9).bind fun _ => (f_Model_out F v0 v1 w).bind fun r32 => b_Model_codedBlock_43 F K9 v0 r32.2))) else (some ((), w))
set_option maxRecDepth 100000 in
set_option maxHeartbeats 4000000 in
theorem b_Model_codedBlock_9_ok (G : zG) (F : Nat) (K9 : Nat → Int32 → zW → Option (Unit × zW)) (hK9 : ∀ (v0 : Nat) (v1 : Int32) (w : zW) (r : (Unit × zW)), K9 v0 v1 w = some r → zV G m_Model_codedBlock 9 [(0, .ref (z0 G + v0)), (1, .int v1)] [] w 0 0 (oV r.1) r.2) (v0 : Nat) (v1 : Int32) (w : zW) (r : (Unit × zW)) (h : b_Model_codedBlock_9 F K9 v0 v1 w = some r) : zV G m_Model_codedBlock 9 [(0, .ref (z0 G + v0)), (1, .int v1)] [] w 0 0 (oV r.1) r.2 := by
  unfold b_Model_codedBlock_9 at h
  refine V_aload_n (i := 0) d_Model_codedBlock_9 rfl 0 rfl ?_
  obtain ⟨x10, e10, h⟩ := ob h
  refine V_getI (ci := 9) (k := 11) d_Model_codedBlock_10 e10 rfl (by decide) in_Model k893 ?_
  refine V_if_ne (tgt := 68) d_Model_codedBlock_13 (by decide) (fun c13 => ?_) (fun c13 => ?_)
  · rw [if_neg c13] at h
    obtain rfl := Option.some.inj h
    exact V_vret rfl (by decide) (by decide) d_Model_codedBlock_68
  · rw [if_pos c13] at h
    refine V_iload_n (i := 1) d_Model_codedBlock_16 rfl 1 rfl ?_
    refine V_sipush (v := 256) d_Model_codedBlock_17 (by decide) ?_
    refine V_icmp_eq (tgt := 68) d_Model_codedBlock_20 (by decide) (fun c20 => ?_) (fun c20 => ?_)
    · rw [if_pos c20] at h
      obtain rfl := Option.some.inj h
      exact V_vret rfl (by decide) (by decide) d_Model_codedBlock_68
    · rw [if_neg c20] at h
      refine V_iload_n (i := 1) d_Model_codedBlock_23 rfl 1 rfl ?_
      refine V_sipush (v := 256) d_Model_codedBlock_24 (by decide) ?_
      refine V_icmp_ge (tgt := 38) d_Model_codedBlock_27 (by decide) (fun c27 => ?_) (fun c27 => ?_)
      · rw [if_pos c27] at h
        refine V_aload_n (i := 0) d_Model_codedBlock_38 rfl 0 rfl ?_
        refine V_iload_n (i := 1) d_Model_codedBlock_39 rfl 1 rfl ?_
        obtain ⟨_, eo40, h⟩ := ob h
        obtain ⟨r40, e40, h⟩ := ob h
        refine V_call (v := none) (st := []) (inv_V (N := m_Model_repeat) (As := [.int v1]) (ci := 9) d_Model_codedBlock_40 eo40 rfl k1122 k1124 sel_Model_repeat kc_Model_repeat y_Model_repeat) ⟨Or.inl kc_Model_repeat, k10, by decide, by decide⟩ (Nat.le_of_ble_eq_true rfl) (by decide) (by decide) (c_Model_repeat G F v0 v1 w r40 e40) ?_
        refine V_lv [0] rfl ?_
        exact b_Model_codedBlock_43_ok G F K9 hK9 v0 r40.2 _ h
      · rw [if_neg c27] at h
        refine V_aload_n (i := 0) d_Model_codedBlock_30 rfl 0 rfl ?_
        refine V_iload_n (i := 1) d_Model_codedBlock_31 rfl 1 rfl ?_
        obtain ⟨_, eo32, h⟩ := ob h
        obtain ⟨r32, e32, h⟩ := ob h
        refine V_call (v := none) (st := []) (inv_V (N := m_Model_out) (As := [.int v1]) (ci := 9) d_Model_codedBlock_32 eo32 rfl k1102 k1104 sel_Model_out kc_Model_out y_Model_out) ⟨Or.inl kc_Model_out, k10, by decide, by decide⟩ (Nat.le_of_ble_eq_true rfl) (by decide) (by decide) (c_Model_out G F v0 v1 w r32 e32) ?_
        refine V_goto (tgt := 43) d_Model_codedBlock_35 (by decide) ?_
        refine V_lv [0] rfl ?_
        exact b_Model_codedBlock_43_ok G F K9 hK9 v0 r32.2 _ h
def l_Model_codedBlock_9 (F : Nat) : Nat → Nat → Int32 → zW → Option (Unit × zW)
  | 0 => fun _ _ _ => none
  | n + 1 => b_Model_codedBlock_9 F (l_Model_codedBlock_9 F n)
theorem l_Model_codedBlock_9_ok (G : zG) (F : Nat) (n : Nat) :  ∀ (v0 : Nat) (v1 : Int32) (w : zW) (r : (Unit × zW)), l_Model_codedBlock_9 F n v0 v1 w = some r → zV G m_Model_codedBlock 9 [(0, .ref (z0 G + v0)), (1, .int v1)] [] w 0 0 (oV r.1) r.2 := by
  induction n with
  | zero => intro v0 v1 w r h; exact nomatch (show (none : Option (Unit × zW)) = some r from h)
  | succ n ih => intro v0 v1 w r h; exact b_Model_codedBlock_9_ok G F (l_Model_codedBlock_9 F n) ih v0 v1 w r h
def b_Model_codedBlock_0 (F : Nat) (v0 : Nat) (w : zW) : Option (Unit × zW) := (zobj w v0 9).bind fun _ => (f_Model_symbol F v0 (0 : Int32) (288 : Int32) w).bind fun r5 => l_Model_codedBlock_9 F F v0 r5.1 r5.2
set_option maxRecDepth 100000 in
set_option maxHeartbeats 4000000 in
theorem b_Model_codedBlock_0_ok (G : zG) (F : Nat) (v0 : Nat) (w : zW) (r : (Unit × zW)) (h : b_Model_codedBlock_0 F v0 w = some r) : zV G m_Model_codedBlock 0 [(0, .ref (z0 G + v0))] [] w 0 0 (oV r.1) r.2 := by
  unfold b_Model_codedBlock_0 at h
  refine V_aload_n (i := 0) d_Model_codedBlock_0 rfl 0 rfl ?_
  refine V_iconst (v := 0) d_Model_codedBlock_1 (by decide) ?_
  refine V_sipush (v := 288) d_Model_codedBlock_2 (by decide) ?_
  obtain ⟨_, eo5, h⟩ := ob h
  obtain ⟨r5, e5, h⟩ := ob h
  refine V_call (v := some (.int r5.1)) (st := []) (inv_V (N := m_Model_symbol) (As := [.int (0 : Int32), .int (288 : Int32)]) (ci := 9) d_Model_codedBlock_5 eo5 rfl k1114 k1116 sel_Model_symbol kc_Model_symbol y_Model_symbol) ⟨Or.inl kc_Model_symbol, k10, by decide, by decide⟩ (Nat.le_of_ble_eq_true rfl) (by decide) (by decide) (c_Model_symbol G F v0 (0 : Int32) (288 : Int32) w r5 e5) ?_
  refine V_istore_n (i := 1) d_Model_codedBlock_8 rfl (by decide) rfl ?_
  refine V_lv [1, 0] rfl ?_
  exact l_Model_codedBlock_9_ok G F F v0 r5.1 r5.2 _ h
def f_Model_codedBlock (F : Nat) (v0 : Nat) (w : zW) : Option (Unit × zW) := b_Model_codedBlock_0 F v0 w
theorem c_Model_codedBlock (G : zG) (F : Nat) (v0 : Nat) (w : zW) (r : (Unit × zW)) (h : f_Model_codedBlock F v0 w = some r) : zCT G m_Model_codedBlock [.ref (z0 G + v0)] w (oV r.1) r.2 := zCT.ofV (by decide +kernel) (Or.inl ⟨kc_Model_codedBlock, rfl⟩) (Nat.le_of_ble_eq_true rfl) (b_Model_codedBlock_0_ok G F v0 w r h)

/-! ZipArrayModel.unpacked()Z -/
def m_Model_unpacked : zM := (⟨R_Model, "unpacked", "()Z"⟩, prog_11_method_37_code, 3, (some .boolean), [], { frames := 4, cells := 0, slots := 0, locals := 97 })
theorem k1097 : Cond.methodLink R_Model 175 (mY m_Model_storedBlock) ∈ zTb := tb_at 1097 (by decide +kernel) rfl
theorem k1099 : Cond.instanceMethod (mY m_Model_storedBlock) ∈ zTb := tb_at 1099 (by decide +kernel) rfl
theorem k1106 : Cond.methodLink R_Model 178 (mY m_Model_readCodes) ∈ zTb := tb_at 1106 (by decide +kernel) rfl
theorem k1108 : Cond.instanceMethod (mY m_Model_readCodes) ∈ zTb := tb_at 1108 (by decide +kernel) rfl
theorem k1118 : Cond.methodLink R_Model 181 (mY m_Model_codedBlock) ∈ zTb := tb_at 1118 (by decide +kernel) rfl
theorem k1120 : Cond.instanceMethod (mY m_Model_codedBlock) ∈ zTb := tb_at 1120 (by decide +kernel) rfl
theorem kc_Model_unpacked : Cond.code (mY m_Model_unpacked) (mC m_Model_unpacked) (mL m_Model_unpacked) (mT m_Model_unpacked) ∈ zTb := tb_at 1088 (by decide +kernel) rfl
theorem y_Model_unpacked : (mY m_Model_unpacked).cls ≠ "java/lang/invoke/MethodHandle" ∧ (mY m_Model_unpacked).cls ≠ "java/lang/invoke/VarHandle" ∧ (parseMethodDescriptor (mY m_Model_unpacked).desc).map (fun d => d.parameters.length) = some 0 := by decide +kernel
theorem sel_Model_unpacked : Cond.selects R_Model (mY m_Model_unpacked) (mY m_Model_unpacked) ∈ zTb := sel_at (y := mY m_Model_unpacked) (n := 33) 49 (by decide +kernel)
theorem d_Model_unpacked_0 : decode (mC m_Model_unpacked) 0 = .ok (.aload_n 0, 1) := by decide +kernel
theorem d_Model_unpacked_1 : decode (mC m_Model_unpacked) 1 = .ok (.iconst 0, 1) := by decide +kernel
theorem d_Model_unpacked_2 : decode (mC m_Model_unpacked) 2 = .ok (.putfield 75, 3) := by decide +kernel
theorem d_Model_unpacked_5 : decode (mC m_Model_unpacked) 5 = .ok (.aload_n 0, 1) := by decide +kernel
theorem d_Model_unpacked_6 : decode (mC m_Model_unpacked) 6 = .ok (.iconst 0, 1) := by decide +kernel
theorem d_Model_unpacked_7 : decode (mC m_Model_unpacked) 7 = .ok (.putfield 99, 3) := by decide +kernel
theorem d_Model_unpacked_10 : decode (mC m_Model_unpacked) 10 = .ok (.aload_n 0, 1) := by decide +kernel
theorem d_Model_unpacked_11 : decode (mC m_Model_unpacked) 11 = .ok (.iconst 0, 1) := by decide +kernel
theorem d_Model_unpacked_12 : decode (mC m_Model_unpacked) 12 = .ok (.putfield 149, 3) := by decide +kernel
theorem d_Model_unpacked_15 : decode (mC m_Model_unpacked) 15 = .ok (.iconst 0, 1) := by decide +kernel
theorem d_Model_unpacked_16 : decode (mC m_Model_unpacked) 16 = .ok (.istore_n 1, 1) := by decide +kernel
theorem d_Model_unpacked_17 : decode (mC m_Model_unpacked) 17 = .ok (.iload_n 1, 1) := by decide +kernel
theorem d_Model_unpacked_18 : decode (mC m_Model_unpacked) 18 = .ok (.ifCond .ne 91, 3) := by decide +kernel
theorem d_Model_unpacked_21 : decode (mC m_Model_unpacked) 21 = .ok (.aload_n 0, 1) := by decide +kernel
theorem d_Model_unpacked_22 : decode (mC m_Model_unpacked) 22 = .ok (.getfield 149, 3) := by decide +kernel
theorem d_Model_unpacked_25 : decode (mC m_Model_unpacked) 25 = .ok (.ifCond .ne 84, 3) := by decide +kernel
theorem d_Model_unpacked_28 : decode (mC m_Model_unpacked) 28 = .ok (.aload_n 0, 1) := by decide +kernel
theorem d_Model_unpacked_29 : decode (mC m_Model_unpacked) 29 = .ok (.invokevirtual 156, 3) := by decide +kernel
theorem d_Model_unpacked_32 : decode (mC m_Model_unpacked) 32 = .ok (.iconst 1, 1) := by decide +kernel
theorem d_Model_unpacked_33 : decode (mC m_Model_unpacked) 33 = .ok (.if_icmp .ne 7, 3) := by decide +kernel
theorem d_Model_unpacked_36 : decode (mC m_Model_unpacked) 36 = .ok (.iconst 1, 1) := by decide +kernel
theorem d_Model_unpacked_37 : decode (mC m_Model_unpacked) 37 = .ok (.goto 4, 3) := by decide +kernel
theorem d_Model_unpacked_40 : decode (mC m_Model_unpacked) 40 = .ok (.iconst 0, 1) := by decide +kernel
theorem d_Model_unpacked_41 : decode (mC m_Model_unpacked) 41 = .ok (.istore_n 1, 1) := by decide +kernel
theorem d_Model_unpacked_42 : decode (mC m_Model_unpacked) 42 = .ok (.aload_n 0, 1) := by decide +kernel
theorem d_Model_unpacked_43 : decode (mC m_Model_unpacked) 43 = .ok (.iconst 2, 1) := by decide +kernel
theorem d_Model_unpacked_44 : decode (mC m_Model_unpacked) 44 = .ok (.invokevirtual 159, 3) := by decide +kernel
theorem d_Model_unpacked_47 : decode (mC m_Model_unpacked) 47 = .ok (.istore_n 2, 1) := by decide +kernel
theorem d_Model_unpacked_48 : decode (mC m_Model_unpacked) 48 = .ok (.aload_n 0, 1) := by decide +kernel
theorem d_Model_unpacked_49 : decode (mC m_Model_unpacked) 49 = .ok (.getfield 149, 3) := by decide +kernel
theorem d_Model_unpacked_52 : decode (mC m_Model_unpacked) 52 = .ok (.ifCond .ne 8, 3) := by decide +kernel
theorem d_Model_unpacked_55 : decode (mC m_Model_unpacked) 55 = .ok (.iload_n 2, 1) := by decide +kernel
theorem d_Model_unpacked_56 : decode (mC m_Model_unpacked) 56 = .ok (.iconst 3, 1) := by decide +kernel
theorem d_Model_unpacked_57 : decode (mC m_Model_unpacked) 57 = .ok (.if_icmp .ne 11, 3) := by decide +kernel
theorem d_Model_unpacked_60 : decode (mC m_Model_unpacked) 60 = .ok (.aload_n 0, 1) := by decide +kernel
theorem d_Model_unpacked_61 : decode (mC m_Model_unpacked) 61 = .ok (.iconst 1, 1) := by decide +kernel
theorem d_Model_unpacked_62 : decode (mC m_Model_unpacked) 62 = .ok (.putfield 149, 3) := by decide +kernel
theorem d_Model_unpacked_65 : decode (mC m_Model_unpacked) 65 = .ok (.goto 41, 3) := by decide +kernel
theorem d_Model_unpacked_68 : decode (mC m_Model_unpacked) 68 = .ok (.iload_n 2, 1) := by decide +kernel
theorem d_Model_unpacked_69 : decode (mC m_Model_unpacked) 69 = .ok (.ifCond .ne 10, 3) := by decide +kernel
theorem d_Model_unpacked_72 : decode (mC m_Model_unpacked) 72 = .ok (.aload_n 0, 1) := by decide +kernel
theorem d_Model_unpacked_73 : decode (mC m_Model_unpacked) 73 = .ok (.invokevirtual 175, 3) := by decide +kernel
theorem d_Model_unpacked_76 : decode (mC m_Model_unpacked) 76 = .ok (.goto 30, 3) := by decide +kernel
theorem d_Model_unpacked_79 : decode (mC m_Model_unpacked) 79 = .ok (.iload_n 2, 1) := by decide +kernel
theorem d_Model_unpacked_80 : decode (mC m_Model_unpacked) 80 = .ok (.iconst 1, 1) := by decide +kernel
theorem d_Model_unpacked_81 : decode (mC m_Model_unpacked) 81 = .ok (.if_icmp .ne 10, 3) := by decide +kernel
theorem d_Model_unpacked_84 : decode (mC m_Model_unpacked) 84 = .ok (.aload_n 0, 1) := by decide +kernel
theorem d_Model_unpacked_85 : decode (mC m_Model_unpacked) 85 = .ok (.invokevirtual 126, 3) := by decide +kernel
theorem d_Model_unpacked_88 : decode (mC m_Model_unpacked) 88 = .ok (.goto 7, 3) := by decide +kernel
theorem d_Model_unpacked_91 : decode (mC m_Model_unpacked) 91 = .ok (.aload_n 0, 1) := by decide +kernel
theorem d_Model_unpacked_92 : decode (mC m_Model_unpacked) 92 = .ok (.invokevirtual 178, 3) := by decide +kernel
theorem d_Model_unpacked_95 : decode (mC m_Model_unpacked) 95 = .ok (.aload_n 0, 1) := by decide +kernel
theorem d_Model_unpacked_96 : decode (mC m_Model_unpacked) 96 = .ok (.getfield 149, 3) := by decide +kernel
theorem d_Model_unpacked_99 : decode (mC m_Model_unpacked) 99 = .ok (.ifCond .ne 7, 3) := by decide +kernel
theorem d_Model_unpacked_102 : decode (mC m_Model_unpacked) 102 = .ok (.aload_n 0, 1) := by decide +kernel
theorem d_Model_unpacked_103 : decode (mC m_Model_unpacked) 103 = .ok (.invokevirtual 181, 3) := by decide +kernel
theorem d_Model_unpacked_106 : decode (mC m_Model_unpacked) 106 = .ok (.goto (-89), 3) := by decide +kernel
theorem d_Model_unpacked_109 : decode (mC m_Model_unpacked) 109 = .ok (.aload_n 0, 1) := by decide +kernel
theorem d_Model_unpacked_110 : decode (mC m_Model_unpacked) 110 = .ok (.getfield 149, 3) := by decide +kernel
theorem d_Model_unpacked_113 : decode (mC m_Model_unpacked) 113 = .ok (.ifCond .ne 24, 3) := by decide +kernel
theorem d_Model_unpacked_116 : decode (mC m_Model_unpacked) 116 = .ok (.aload_n 0, 1) := by decide +kernel
theorem d_Model_unpacked_117 : decode (mC m_Model_unpacked) 117 = .ok (.getfield 99, 3) := by decide +kernel
theorem d_Model_unpacked_120 : decode (mC m_Model_unpacked) 120 = .ok (.bipush 7, 2) := by decide +kernel
theorem d_Model_unpacked_122 : decode (mC m_Model_unpacked) 122 = .ok (.iadd, 1) := by decide +kernel
theorem d_Model_unpacked_123 : decode (mC m_Model_unpacked) 123 = .ok (.bipush 8, 2) := by decide +kernel
theorem d_Model_unpacked_125 : decode (mC m_Model_unpacked) 125 = .ok (.idiv, 1) := by decide +kernel
theorem d_Model_unpacked_126 : decode (mC m_Model_unpacked) 126 = .ok (.aload_n 0, 1) := by decide +kernel
theorem d_Model_unpacked_127 : decode (mC m_Model_unpacked) 127 = .ok (.getfield 153, 3) := by decide +kernel
theorem d_Model_unpacked_130 : decode (mC m_Model_unpacked) 130 = .ok (.if_icmp .ne 7, 3) := by decide +kernel
theorem d_Model_unpacked_133 : decode (mC m_Model_unpacked) 133 = .ok (.iconst 1, 1) := by decide +kernel
theorem d_Model_unpacked_134 : decode (mC m_Model_unpacked) 134 = .ok (.goto 4, 3) := by decide +kernel
theorem d_Model_unpacked_137 : decode (mC m_Model_unpacked) 137 = .ok (.iconst 0, 1) := by decide +kernel
theorem d_Model_unpacked_138 : decode (mC m_Model_unpacked) 138 = .ok (.ireturn, 1) := by decide +kernel
def b_Model_unpacked_137 (F : Nat) (w : zW) : Option (Int32 × zW) := some ((0 : Int32), w)
set_option maxRecDepth 100000 in
set_option maxHeartbeats 4000000 in
theorem b_Model_unpacked_137_ok (G : zG) (F : Nat) (w : zW) (r : (Int32 × zW)) (h : b_Model_unpacked_137 F w = some r) : zV G m_Model_unpacked 137 [] [] w 0 0 (oI r.1) r.2 := by
  unfold b_Model_unpacked_137 at h
  refine V_iconst (v := 0) d_Model_unpacked_137 (by decide) ?_
  obtain rfl := Option.some.inj h
  exact V_zret rfl (Or.inl rfl) (by decide) (by decide) d_Model_unpacked_138
def b_Model_unpacked_109 (F : Nat) (v0 : Nat) (w : zW) : Option (Int32 × zW) := (getI w v0 9 11).bind fun x110 => if x110 = 0 then ((getI w v0 9 10).bind fun x117 => (getI w v0 9 8).bind fun x127 => if ((x117 + (7 : Int32)) / (8 : Int32)) = x127 then (some ((1 : Int32), w)) else (b_Model_unpacked_137 F w)) else (b_Model_unpacked_137 F w)
set_option maxRecDepth 100000 in
set_option maxHeartbeats 4000000 in
theorem b_Model_unpacked_109_ok (G : zG) (F : Nat) (v0 : Nat) (w : zW) (r : (Int32 × zW)) (h : b_Model_unpacked_109 F v0 w = some r) : zV G m_Model_unpacked 109 [(0, .ref (z0 G + v0))] [] w 0 0 (oI r.1) r.2 := by
  unfold b_Model_unpacked_109 at h
  refine V_aload_n (i := 0) d_Model_unpacked_109 rfl 0 rfl ?_
  obtain ⟨x110, e110, h⟩ := ob h
  refine V_getI (ci := 9) (k := 11) d_Model_unpacked_110 e110 rfl (by decide) in_Model k893 ?_
  refine V_if_ne (tgt := 137) d_Model_unpacked_113 (by decide) (fun c113 => ?_) (fun c113 => ?_)
  · rw [if_neg c113] at h
    refine V_lv [] rfl ?_
    exact b_Model_unpacked_137_ok G F w _ h
  · rw [if_pos c113] at h
    refine V_aload_n (i := 0) d_Model_unpacked_116 rfl 0 rfl ?_
    obtain ⟨x117, e117, h⟩ := ob h
    refine V_getI (ci := 9) (k := 10) d_Model_unpacked_117 e117 rfl (by decide) in_Model k892 ?_
    refine V_bipush (v := 7) d_Model_unpacked_120 (by decide) ?_
    refine V_iadd d_Model_unpacked_122 ?_
    refine V_bipush (v := 8) d_Model_unpacked_123 (by decide) ?_
    refine V_idiv (by decide) d_Model_unpacked_125 ?_
    refine V_aload_n (i := 0) d_Model_unpacked_126 rfl 0 rfl ?_
    obtain ⟨x127, e127, h⟩ := ob h
    refine V_getI (ci := 9) (k := 8) d_Model_unpacked_127 e127 rfl (by decide) in_Model k890 ?_
    refine V_icmp_ne (tgt := 137) d_Model_unpacked_130 (by decide) (fun c130 => ?_) (fun c130 => ?_)
    · rw [if_neg c130] at h
      refine V_lv [] rfl ?_
      exact b_Model_unpacked_137_ok G F w _ h
    · rw [if_pos c130] at h
      refine V_iconst (v := 1) d_Model_unpacked_133 (by decide) ?_
      refine V_goto (tgt := 138) d_Model_unpacked_134 (by decide) ?_
      obtain rfl := Option.some.inj h
      exact V_zret rfl (Or.inr rfl) (by decide) (by decide) d_Model_unpacked_138
def b_Model_unpacked_106 (F : Nat) (K17 : Nat → Int32 → zW → Option (Int32 × zW)) (v0 : Nat) (v1 : Int32) (w : zW) : Option (Int32 × zW) := K17 v0 v1 w
set_option maxRecDepth 100000 in
set_option maxHeartbeats 4000000 in
theorem b_Model_unpacked_106_ok (G : zG) (F : Nat) (K17 : Nat → Int32 → zW → Option (Int32 × zW)) (hK17 : ∀ (v0 : Nat) (v1 : Int32) (w : zW) (r : (Int32 × zW)), K17 v0 v1 w = some r → zV G m_Model_unpacked 17 [(0, .ref (z0 G + v0)), (1, .int v1)] [] w 0 0 (oI r.1) r.2) (v0 : Nat) (v1 : Int32) (w : zW) (r : (Int32 × zW)) (h : b_Model_unpacked_106 F K17 v0 v1 w = some r) : zV G m_Model_unpacked 106 [(0, .ref (z0 G + v0)), (1, .int v1)] [] w 0 0 (oI r.1) r.2 := by
  unfold b_Model_unpacked_106 at h
  refine V_goto (tgt := 17) d_Model_unpacked_106 (by decide) ?_
  exact hK17 v0 v1 w _ h
def b_Model_unpacked_95 (F : Nat) (K17 : Nat → Int32 → zW → Option (Int32 × zW)) (v0 : Nat) (v1 : Int32) (w : zW) : Option (Int32 × zW) := (getI w v0 9 11).bind fun x96 => if x96 = 0 then ((zobj w v0 9).bind fun _ => (f_Model_codedBlock F v0 w).bind fun r103 => b_Model_unpacked_106 F K17 v0 v1 r103.2) else (b_Model_unpacked_106 F K17 v0 v1 w)
set_option maxRecDepth 100000 in
set_option maxHeartbeats 4000000 in
theorem b_Model_unpacked_95_ok (G : zG) (F : Nat) (K17 : Nat → Int32 → zW → Option (Int32 × zW)) (hK17 : ∀ (v0 : Nat) (v1 : Int32) (w : zW) (r : (Int32 × zW)), K17 v0 v1 w = some r → zV G m_Model_unpacked 17 [(0, .ref (z0 G + v0)), (1, .int v1)] [] w 0 0 (oI r.1) r.2) (v0 : Nat) (v1 : Int32) (w : zW) (r : (Int32 × zW)) (h : b_Model_unpacked_95 F K17 v0 v1 w = some r) : zV G m_Model_unpacked 95 [(0, .ref (z0 G + v0)), (1, .int v1)] [] w 0 0 (oI r.1) r.2 := by
  unfold b_Model_unpacked_95 at h
  refine V_aload_n (i := 0) d_Model_unpacked_95 rfl 0 rfl ?_
  obtain ⟨x96, e96, h⟩ := ob h
  refine V_getI (ci := 9) (k := 11) d_Model_unpacked_96 e96 rfl (by decide) in_Model k893 ?_
  refine V_if_ne (tgt := 106) d_Model_unpacked_99 (by decide) (fun c99 => ?_) (fun c99 => ?_)
  · rw [if_neg c99] at h
    exact b_Model_unpacked_106_ok G F K17 hK17 v0 v1 w _ h
  · rw [if_pos c99] at h
    refine V_aload_n (i := 0) d_Model_unpacked_102 rfl 0 rfl ?_
    obtain ⟨_, eo103, h⟩ := ob h
    obtain ⟨r103, e103, h⟩ := ob h
    refine V_call (v := none) (st := []) (inv_V (N := m_Model_codedBlock) (As := []) (ci := 9) d_Model_unpacked_103 eo103 rfl k1118 k1120 sel_Model_codedBlock kc_Model_codedBlock y_Model_codedBlock) ⟨Or.inl kc_Model_codedBlock, k10, by decide, by decide⟩ (Nat.le_of_ble_eq_true rfl) (by decide) (by decide) (c_Model_codedBlock G F v0 w r103 e103) ?_
    exact b_Model_unpacked_106_ok G F K17 hK17 v0 v1 r103.2 _ h
def b_Model_unpacked_60 (F : Nat) (K17 : Nat → Int32 → zW → Option (Int32 × zW)) (v0 : Nat) (v1 : Int32) (w : zW) : Option (Int32 × zW) := (putI w v0 9 11 (1 : Int32)).bind fun w62 => b_Model_unpacked_106 F K17 v0 v1 w62
set_option maxRecDepth 100000 in
set_option maxHeartbeats 4000000 in
theorem b_Model_unpacked_60_ok (G : zG) (F : Nat) (K17 : Nat → Int32 → zW → Option (Int32 × zW)) (hK17 : ∀ (v0 : Nat) (v1 : Int32) (w : zW) (r : (Int32 × zW)), K17 v0 v1 w = some r → zV G m_Model_unpacked 17 [(0, .ref (z0 G + v0)), (1, .int v1)] [] w 0 0 (oI r.1) r.2) (v0 : Nat) (v1 : Int32) (w : zW) (r : (Int32 × zW)) (h : b_Model_unpacked_60 F K17 v0 v1 w = some r) : zV G m_Model_unpacked 60 [(0, .ref (z0 G + v0)), (1, .int v1)] [] w 0 0 (oI r.1) r.2 := by
  unfold b_Model_unpacked_60 at h
  refine V_aload_n (i := 0) d_Model_unpacked_60 rfl 0 rfl ?_
  refine V_iconst (v := 1) d_Model_unpacked_61 (by decide) ?_
  obtain ⟨w62, e62, h⟩ := ob h
  refine V_putI (ci := 9) (k := 11) t_Model d_Model_unpacked_62 e62 rfl (by decide) in_Model k893 ty_Model nm_Model rfl (Or.inr ⟨rfl, Or.inr rfl⟩) ?_
  refine V_goto (tgt := 106) d_Model_unpacked_65 (by decide) ?_
  exact b_Model_unpacked_106_ok G F K17 hK17 v0 v1 w62 _ h
def b_Model_unpacked_41 (F : Nat) (K17 : Nat → Int32 → zW → Option (Int32 × zW)) (v0 : Nat) (s0 : Int32) (w : zW) : Option (Int32 × zW) := (zobj w v0 9).bind fun _ => (f_Model_bits F v0 (2 : Int32) w).bind fun r44 => (getI r44.2 v0 9 11).bind fun x49 => if x49 = 0 then (if r44.1 = (3 : Int32) then (b_Model_unpacked_60 F K17 v0 s0 r44.2) else (if r44.1 = 0 then ((zobj r44.2 v0 9).bind fun _ => (f_Model_storedBlock F v0 r44.2).bind fun r73 => b_Model_unpacked_106 F K17 v0 s0 r73.2) else (if r44.1 = (1 : Int32) then ((zobj r44.2 v0 9).bind fun _ => (f_Model_fixCodes F v0 r44.2).bind fun r85 => b_Model_unpacked_95 F K17 v0 s0 r85.2) else ((zobj r44.2 v0 9).bind fun _ => (f_Model_readCodes F v0 r44.2).bind fun r92 => b_Model_unpacked_95 F K17 v0 s0 r92.2)))) else (b_Model_unpacked_60 F K17 v0 s0 r44.2)
set_option maxRecDepth 100000 in
set_option maxHeartbeats 4000000 in
theorem b_Model_unpacked_41_ok (G : zG) (F : Nat) (K17 : Nat → Int32 → zW → Option (Int32 × zW)) (hK17 : ∀ (v0 : Nat) (v1 : Int32) (w : zW) (r : (Int32 × zW)), K17 v0 v1 w = some r → zV G m_Model_unpacked 17 [(0, .ref (z0 G + v0)), (1, .int v1)] [] w 0 0 (oI r.1) r.2) (v0 : Nat) (s0 : Int32) (w : zW) (r : (Int32 × zW)) (h : b_Model_unpacked_41 F K17 v0 s0 w = some r) : zV G m_Model_unpacked 41 [(0, .ref (z0 G + v0))] [.int s0] w 0 0 (oI r.1) r.2 := by
  unfold b_Model_unpacked_41 at h
  refine V_istore_n (i := 1) d_Model_unpacked_41 rfl (by decide) rfl ?_
  refine V_aload_n (i := 0) d_Model_unpacked_42 rfl 1 rfl ?_
  refine V_iconst (v := 2) d_Model_unpacked_43 (by decide) ?_
  obtain ⟨_, eo44, h⟩ := ob h
  obtain ⟨r44, e44, h⟩ := ob h
  refine V_call (v := some (.int r44.1)) (st := []) (inv_V (N := m_Model_bits) (As := [.int (2 : Int32)]) (ci := 9) d_Model_unpacked_44 eo44 rfl k1093 k1095 sel_Model_bits kc_Model_bits y_Model_bits) ⟨Or.inl kc_Model_bits, k10, by decide, by decide⟩ (Nat.le_of_ble_eq_true rfl) (by decide) (by decide) (c_Model_bits G F v0 (2 : Int32) w r44 e44) ?_
  refine V_istore_n (i := 2) d_Model_unpacked_47 rfl (by decide) rfl ?_
  refine V_aload_n (i := 0) d_Model_unpacked_48 rfl 2 rfl ?_
  obtain ⟨x49, e49, h⟩ := ob h
  refine V_getI (ci := 9) (k := 11) d_Model_unpacked_49 e49 rfl (by decide) in_Model k893 ?_
  refine V_if_ne (tgt := 60) d_Model_unpacked_52 (by decide) (fun c52 => ?_) (fun c52 => ?_)
  · rw [if_neg c52] at h
    refine V_lv [2, 1] rfl ?_
    exact b_Model_unpacked_60_ok G F K17 hK17 v0 s0 r44.2 _ h
  · rw [if_pos c52] at h
    refine V_iload_n (i := 2) d_Model_unpacked_55 rfl 0 rfl ?_
    refine V_iconst (v := 3) d_Model_unpacked_56 (by decide) ?_
    refine V_icmp_ne (tgt := 68) d_Model_unpacked_57 (by decide) (fun c57 => ?_) (fun c57 => ?_)
    · rw [if_neg c57] at h
      refine V_iload_n (i := 2) d_Model_unpacked_68 rfl 0 rfl ?_
      refine V_if_ne (tgt := 79) d_Model_unpacked_69 (by decide) (fun c69 => ?_) (fun c69 => ?_)
      · rw [if_neg c69] at h
        refine V_iload_n (i := 2) d_Model_unpacked_79 rfl 0 rfl ?_
        refine V_iconst (v := 1) d_Model_unpacked_80 (by decide) ?_
        refine V_icmp_ne (tgt := 91) d_Model_unpacked_81 (by decide) (fun c81 => ?_) (fun c81 => ?_)
        · rw [if_neg c81] at h
          refine V_aload_n (i := 0) d_Model_unpacked_91 rfl 2 rfl ?_
          obtain ⟨_, eo92, h⟩ := ob h
          obtain ⟨r92, e92, h⟩ := ob h
          refine V_call (v := none) (st := []) (inv_V (N := m_Model_readCodes) (As := []) (ci := 9) d_Model_unpacked_92 eo92 rfl k1106 k1108 sel_Model_readCodes kc_Model_readCodes y_Model_readCodes) ⟨Or.inl kc_Model_readCodes, k10, by decide, by decide⟩ (Nat.le_of_ble_eq_true rfl) (by decide) (by decide) (c_Model_readCodes G F v0 r44.2 r92 e92) ?_
          refine V_lv [2, 1] rfl ?_
          exact b_Model_unpacked_95_ok G F K17 hK17 v0 s0 r92.2 _ h
        · rw [if_pos c81] at h
          refine V_aload_n (i := 0) d_Model_unpacked_84 rfl 2 rfl ?_
          obtain ⟨_, eo85, h⟩ := ob h
          obtain ⟨r85, e85, h⟩ := ob h
          refine V_call (v := none) (st := []) (inv_V (N := m_Model_fixCodes) (As := []) (ci := 9) d_Model_unpacked_85 eo85 rfl k1032 k1034 sel_Model_fixCodes kc_Model_fixCodes y_Model_fixCodes) ⟨Or.inl kc_Model_fixCodes, k10, by decide, by decide⟩ (Nat.le_of_ble_eq_true rfl) (by decide) (by decide) (c_Model_fixCodes G F v0 r44.2 r85 e85) ?_
          refine V_goto (tgt := 95) d_Model_unpacked_88 (by decide) ?_
          refine V_lv [2, 1] rfl ?_
          exact b_Model_unpacked_95_ok G F K17 hK17 v0 s0 r85.2 _ h
      · rw [if_pos c69] at h
        refine V_aload_n (i := 0) d_Model_unpacked_72 rfl 2 rfl ?_
        obtain ⟨_, eo73, h⟩ := ob h
        obtain ⟨r73, e73, h⟩ := ob h
        refine V_call (v := none) (st := []) (inv_V (N := m_Model_storedBlock) (As := []) (ci := 9) d_Model_unpacked_73 eo73 rfl k1097 k1099 sel_Model_storedBlock kc_Model_storedBlock y_Model_storedBlock) ⟨Or.inl kc_Model_storedBlock, k10, by decide, by decide⟩ (Nat.le_of_ble_eq_true rfl) (by decide) (by decide) (c_Model_storedBlock G F v0 r44.2 r73 e73) ?_
        refine V_goto (tgt := 106) d_Model_unpacked_76 (by decide) ?_
        refine V_lv [2, 1] rfl ?_
        exact b_Model_unpacked_106_ok G F K17 hK17 v0 s0 r73.2 _ h
    · rw [if_pos c57] at h
      refine V_lv [2, 1] rfl ?_
      exact b_Model_unpacked_60_ok G F K17 hK17 v0 s0 r44.2 _ h
def b_Model_unpacked_17 (F : Nat) (K17 : Nat → Int32 → zW → Option (Int32 × zW)) (v0 : Nat) (v1 : Int32) (w : zW) : Option (Int32 × zW) := if v1 = 0 then ((getI w v0 9 11).bind fun x22 => if x22 = 0 then ((zobj w v0 9).bind fun _ => (f_Model_bit F v0 w).bind fun r29 => if r29.1 = (1 : Int32) then (b_Model_unpacked_41 F K17 v0 (1 : Int32) r29.2) else (b_Model_unpacked_41 F K17 v0 (0 : Int32) r29.2)) else (b_Model_unpacked_109 F v0 w)) else (b_Model_unpacked_109 F v0 w)
set_option maxRecDepth 100000 in
set_option maxHeartbeats 4000000 in
theorem b_Model_unpacked_17_ok (G : zG) (F : Nat) (K17 : Nat → Int32 → zW → Option (Int32 × zW)) (hK17 : ∀ (v0 : Nat) (v1 : Int32) (w : zW) (r : (Int32 × zW)), K17 v0 v1 w = some r → zV G m_Model_unpacked 17 [(0, .ref (z0 G + v0)), (1, .int v1)] [] w 0 0 (oI r.1) r.2) (v0 : Nat) (v1 : Int32) (w : zW) (r : (Int32 × zW)) (h : b_Model_unpacked_17 F K17 v0 v1 w = some r) : zV G m_Model_unpacked 17 [(0, .ref (z0 G + v0)), (1, .int v1)] [] w 0 0 (oI r.1) r.2 := by
  unfold b_Model_unpacked_17 at h
  refine V_iload_n (i := 1) d_Model_unpacked_17 rfl 1 rfl ?_
  refine V_if_ne (tgt := 109) d_Model_unpacked_18 (by decide) (fun c18 => ?_) (fun c18 => ?_)
  · rw [if_neg c18] at h
    refine V_lv [0] rfl ?_
    exact b_Model_unpacked_109_ok G F v0 w _ h
  · rw [if_pos c18] at h
    refine V_aload_n (i := 0) d_Model_unpacked_21 rfl 0 rfl ?_
    obtain ⟨x22, e22, h⟩ := ob h
    refine V_getI (ci := 9) (k := 11) d_Model_unpacked_22 e22 rfl (by decide) in_Model k893 ?_
    refine V_if_ne (tgt := 109) d_Model_unpacked_25 (by decide) (fun c25 => ?_) (fun c25 => ?_)
    · rw [if_neg c25] at h
      refine V_lv [0] rfl ?_
      exact b_Model_unpacked_109_ok G F v0 w _ h
    · rw [if_pos c25] at h
      refine V_aload_n (i := 0) d_Model_unpacked_28 rfl 0 rfl ?_
      obtain ⟨_, eo29, h⟩ := ob h
      obtain ⟨r29, e29, h⟩ := ob h
      refine V_call (v := some (.int r29.1)) (st := []) (inv_V (N := m_Model_bit) (As := []) (ci := 9) d_Model_unpacked_29 eo29 rfl k1089 k1091 sel_Model_bit kc_Model_bit y_Model_bit) ⟨Or.inl kc_Model_bit, k10, by decide, by decide⟩ (Nat.le_of_ble_eq_true rfl) (by decide) (by decide) (c_Model_bit G F v0 w r29 e29) ?_
      refine V_iconst (v := 1) d_Model_unpacked_32 (by decide) ?_
      refine V_icmp_ne (tgt := 40) d_Model_unpacked_33 (by decide) (fun c33 => ?_) (fun c33 => ?_)
      · rw [if_neg c33] at h
        refine V_iconst (v := 0) d_Model_unpacked_40 (by decide) ?_
        refine V_lv [0] rfl ?_
        exact b_Model_unpacked_41_ok G F K17 hK17 v0 (0 : Int32) r29.2 _ h
      · rw [if_pos c33] at h
        refine V_iconst (v := 1) d_Model_unpacked_36 (by decide) ?_
        refine V_goto (tgt := 41) d_Model_unpacked_37 (by decide) ?_
        refine V_lv [0] rfl ?_
        exact b_Model_unpacked_41_ok G F K17 hK17 v0 (1 : Int32) r29.2 _ h
def l_Model_unpacked_17 (F : Nat) : Nat → Nat → Int32 → zW → Option (Int32 × zW)
  | 0 => fun _ _ _ => none
  | n + 1 => b_Model_unpacked_17 F (l_Model_unpacked_17 F n)
theorem l_Model_unpacked_17_ok (G : zG) (F : Nat) (n : Nat) :  ∀ (v0 : Nat) (v1 : Int32) (w : zW) (r : (Int32 × zW)), l_Model_unpacked_17 F n v0 v1 w = some r → zV G m_Model_unpacked 17 [(0, .ref (z0 G + v0)), (1, .int v1)] [] w 0 0 (oI r.1) r.2 := by
  induction n with
  | zero => intro v0 v1 w r h; exact nomatch (show (none : Option (Int32 × zW)) = some r from h)
  | succ n ih => intro v0 v1 w r h; exact b_Model_unpacked_17_ok G F (l_Model_unpacked_17 F n) ih v0 v1 w r h
def b_Model_unpacked_0 (F : Nat) (v0 : Nat) (w : zW) : Option (Int32 × zW) := (putI w v0 9 6 (0 : Int32)).bind fun w2 => (putI w2 v0 9 10 (0 : Int32)).bind fun w7 => (putI w7 v0 9 11 (0 : Int32)).bind fun w12 => l_Model_unpacked_17 F F v0 (0 : Int32) w12
set_option maxRecDepth 100000 in
set_option maxHeartbeats 4000000 in
theorem b_Model_unpacked_0_ok (G : zG) (F : Nat) (v0 : Nat) (w : zW) (r : (Int32 × zW)) (h : b_Model_unpacked_0 F v0 w = some r) : zV G m_Model_unpacked 0 [(0, .ref (z0 G + v0))] [] w 0 0 (oI r.1) r.2 := by
  unfold b_Model_unpacked_0 at h
  refine V_aload_n (i := 0) d_Model_unpacked_0 rfl 0 rfl ?_
  refine V_iconst (v := 0) d_Model_unpacked_1 (by decide) ?_
  obtain ⟨w2, e2, h⟩ := ob h
  refine V_putI (ci := 9) (k := 6) t_Model d_Model_unpacked_2 e2 rfl (by decide) in_Model k888 ty_Model nm_Model rfl (Or.inl rfl) ?_
  refine V_aload_n (i := 0) d_Model_unpacked_5 rfl 0 rfl ?_
  refine V_iconst (v := 0) d_Model_unpacked_6 (by decide) ?_
  obtain ⟨w7, e7, h⟩ := ob h
  refine V_putI (ci := 9) (k := 10) t_Model d_Model_unpacked_7 e7 rfl (by decide) in_Model k892 ty_Model nm_Model rfl (Or.inl rfl) ?_
  refine V_aload_n (i := 0) d_Model_unpacked_10 rfl 0 rfl ?_
  refine V_iconst (v := 0) d_Model_unpacked_11 (by decide) ?_
  obtain ⟨w12, e12, h⟩ := ob h
  refine V_putI (ci := 9) (k := 11) t_Model d_Model_unpacked_12 e12 rfl (by decide) in_Model k893 ty_Model nm_Model rfl (Or.inr ⟨rfl, Or.inl rfl⟩) ?_
  refine V_iconst (v := 0) d_Model_unpacked_15 (by decide) ?_
  refine V_istore_n (i := 1) d_Model_unpacked_16 rfl (by decide) rfl ?_
  refine V_lv [1, 0] rfl ?_
  exact l_Model_unpacked_17_ok G F F v0 (0 : Int32) w12 _ h
def f_Model_unpacked (F : Nat) (v0 : Nat) (w : zW) : Option (Int32 × zW) := b_Model_unpacked_0 F v0 w
theorem c_Model_unpacked (G : zG) (F : Nat) (v0 : Nat) (w : zW) (r : (Int32 × zW)) (h : f_Model_unpacked F v0 w = some r) : zCT G m_Model_unpacked [.ref (z0 G + v0)] w (oI r.1) r.2 := zCT.ofV (by decide +kernel) (Or.inl ⟨kc_Model_unpacked, rfl⟩) (Nat.le_of_ble_eq_true rfl) (b_Model_unpacked_0_ok G F v0 w r h)

/-! ZipArrayModel.unpack()I -/
def m_Model_unpack : zM := (⟨R_Model, "unpack", "()I"⟩, prog_11_method_38_code, 2, (some .int), [], { frames := 5, cells := 0, slots := 0, locals := 119 })
theorem k1085 : Cond.methodLink R_Model 184 (mY m_Model_unpacked) ∈ zTb := tb_at 1085 (by decide +kernel) rfl
theorem k1087 : Cond.instanceMethod (mY m_Model_unpacked) ∈ zTb := tb_at 1087 (by decide +kernel) rfl
theorem kc_Model_unpack : Cond.code (mY m_Model_unpack) (mC m_Model_unpack) (mL m_Model_unpack) (mT m_Model_unpack) ∈ zTb := tb_at 1084 (by decide +kernel) rfl
theorem y_Model_unpack : (mY m_Model_unpack).cls ≠ "java/lang/invoke/MethodHandle" ∧ (mY m_Model_unpack).cls ≠ "java/lang/invoke/VarHandle" ∧ (parseMethodDescriptor (mY m_Model_unpack).desc).map (fun d => d.parameters.length) = some 0 := by decide +kernel
theorem d_Model_unpack_0 : decode (mC m_Model_unpack) 0 = .ok (.aload_n 0, 1) := by decide +kernel
theorem d_Model_unpack_1 : decode (mC m_Model_unpack) 1 = .ok (.aload_n 0, 1) := by decide +kernel
theorem d_Model_unpack_2 : decode (mC m_Model_unpack) 2 = .ok (.getfield 82, 3) := by decide +kernel
theorem d_Model_unpack_5 : decode (mC m_Model_unpack) 5 = .ok (.putfield 153, 3) := by decide +kernel
theorem d_Model_unpack_8 : decode (mC m_Model_unpack) 8 = .ok (.iconst 0, 1) := by decide +kernel
theorem d_Model_unpack_9 : decode (mC m_Model_unpack) 9 = .ok (.istore_n 1, 1) := by decide +kernel
theorem d_Model_unpack_10 : decode (mC m_Model_unpack) 10 = .ok (.iload_n 1, 1) := by decide +kernel
theorem d_Model_unpack_11 : decode (mC m_Model_unpack) 11 = .ok (.aload_n 0, 1) := by decide +kernel
theorem d_Model_unpack_12 : decode (mC m_Model_unpack) 12 = .ok (.getfield 82, 3) := by decide +kernel
theorem d_Model_unpack_15 : decode (mC m_Model_unpack) 15 = .ok (.if_icmp .ge 21, 3) := by decide +kernel
theorem d_Model_unpack_18 : decode (mC m_Model_unpack) 18 = .ok (.aload_n 0, 1) := by decide +kernel
theorem d_Model_unpack_19 : decode (mC m_Model_unpack) 19 = .ok (.getfield 19, 3) := by decide +kernel
theorem d_Model_unpack_22 : decode (mC m_Model_unpack) 22 = .ok (.iload_n 1, 1) := by decide +kernel
theorem d_Model_unpack_23 : decode (mC m_Model_unpack) 23 = .ok (.aload_n 0, 1) := by decide +kernel
theorem d_Model_unpack_24 : decode (mC m_Model_unpack) 24 = .ok (.getfield 7, 3) := by decide +kernel
theorem d_Model_unpack_27 : decode (mC m_Model_unpack) 27 = .ok (.iload_n 1, 1) := by decide +kernel
theorem d_Model_unpack_28 : decode (mC m_Model_unpack) 28 = .ok (.iaload, 1) := by decide +kernel
theorem d_Model_unpack_29 : decode (mC m_Model_unpack) 29 = .ok (.iastore, 1) := by decide +kernel
theorem d_Model_unpack_30 : decode (mC m_Model_unpack) 30 = .ok (.iinc 1 1, 3) := by decide +kernel
theorem d_Model_unpack_33 : decode (mC m_Model_unpack) 33 = .ok (.goto (-23), 3) := by decide +kernel
theorem d_Model_unpack_36 : decode (mC m_Model_unpack) 36 = .ok (.aload_n 0, 1) := by decide +kernel
theorem d_Model_unpack_37 : decode (mC m_Model_unpack) 37 = .ok (.aload_n 0, 1) := by decide +kernel
theorem d_Model_unpack_38 : decode (mC m_Model_unpack) 38 = .ok (.invokevirtual 184, 3) := by decide +kernel
theorem d_Model_unpack_41 : decode (mC m_Model_unpack) 41 = .ok (.ifCond .eq 7, 3) := by decide +kernel
theorem d_Model_unpack_44 : decode (mC m_Model_unpack) 44 = .ok (.iconst 0, 1) := by decide +kernel
theorem d_Model_unpack_45 : decode (mC m_Model_unpack) 45 = .ok (.goto 4, 3) := by decide +kernel
theorem d_Model_unpack_48 : decode (mC m_Model_unpack) 48 = .ok (.iconst 1, 1) := by decide +kernel
theorem d_Model_unpack_49 : decode (mC m_Model_unpack) 49 = .ok (.putfield 70, 3) := by decide +kernel
theorem d_Model_unpack_52 : decode (mC m_Model_unpack) 52 = .ok (.aload_n 0, 1) := by decide +kernel
theorem d_Model_unpack_53 : decode (mC m_Model_unpack) 53 = .ok (.getfield 70, 3) := by decide +kernel
theorem d_Model_unpack_56 : decode (mC m_Model_unpack) 56 = .ok (.ifCond .le 7, 3) := by decide +kernel
theorem d_Model_unpack_59 : decode (mC m_Model_unpack) 59 = .ok (.iconst 0, 1) := by decide +kernel
theorem d_Model_unpack_60 : decode (mC m_Model_unpack) 60 = .ok (.goto 7, 3) := by decide +kernel
theorem d_Model_unpack_63 : decode (mC m_Model_unpack) 63 = .ok (.aload_n 0, 1) := by decide +kernel
theorem d_Model_unpack_64 : decode (mC m_Model_unpack) 64 = .ok (.invokevirtual 141, 3) := by decide +kernel
theorem d_Model_unpack_67 : decode (mC m_Model_unpack) 67 = .ok (.ireturn, 1) := by decide +kernel
def b_Model_unpack_49 (F : Nat) (v0 : Nat) (s0 : Nat) (s1 : Int32) (w : zW) : Option (Int32 × zW) := (putI w s0 9 0 s1).bind fun w49 => (getI w49 v0 9 0).bind fun x53 => if x53 ≤ 0 then ((zobj w49 v0 9).bind fun _ => (f_Model_takeContent F v0 w49).bind fun r64 => some (r64.1, r64.2)) else (some ((0 : Int32), w49))
set_option maxRecDepth 100000 in
set_option maxHeartbeats 4000000 in
theorem b_Model_unpack_49_ok (G : zG) (F : Nat) (v0 : Nat) (s0 : Nat) (s1 : Int32) (w : zW) (r : (Int32 × zW)) (h : b_Model_unpack_49 F v0 s0 s1 w = some r) : zV G m_Model_unpack 49 [(0, .ref (z0 G + v0))] [.int s1, .ref (z0 G + s0)] w 0 0 (oI r.1) r.2 := by
  unfold b_Model_unpack_49 at h
  obtain ⟨w49, e49, h⟩ := ob h
  refine V_putI (ci := 9) (k := 0) t_Model d_Model_unpack_49 e49 rfl (by decide) in_Model k882 ty_Model nm_Model rfl (Or.inl rfl) ?_
  refine V_aload_n (i := 0) d_Model_unpack_52 rfl 0 rfl ?_
  obtain ⟨x53, e53, h⟩ := ob h
  refine V_getI (ci := 9) (k := 0) d_Model_unpack_53 e53 rfl (by decide) in_Model k882 ?_
  refine V_if_le (tgt := 63) d_Model_unpack_56 (by decide) (fun c56 => ?_) (fun c56 => ?_)
  · rw [if_pos c56] at h
    refine V_aload_n (i := 0) d_Model_unpack_63 rfl 0 rfl ?_
    obtain ⟨_, eo64, h⟩ := ob h
    obtain ⟨r64, e64, h⟩ := ob h
    refine V_call (v := some (.int r64.1)) (st := []) (inv_V (N := m_Model_takeContent) (As := []) (ci := 9) d_Model_unpack_64 eo64 rfl k1077 k1079 sel_Model_takeContent kc_Model_takeContent y_Model_takeContent) ⟨Or.inl kc_Model_takeContent, k10, by decide, by decide⟩ (Nat.le_of_ble_eq_true rfl) (by decide) (by decide) (c_Model_takeContent G F v0 w49 r64 e64) ?_
    obtain rfl := Option.some.inj h
    exact V_iret rfl (by decide) (by decide) d_Model_unpack_67
  · rw [if_neg c56] at h
    refine V_iconst (v := 0) d_Model_unpack_59 (by decide) ?_
    refine V_goto (tgt := 67) d_Model_unpack_60 (by decide) ?_
    obtain rfl := Option.some.inj h
    exact V_iret rfl (by decide) (by decide) d_Model_unpack_67
def b_Model_unpack_10 (F : Nat) (K10 : Nat → Int32 → zW → Option (Int32 × zW)) (v0 : Nat) (v1 : Int32) (w : zW) : Option (Int32 × zW) := (getI w v0 9 1).bind fun x12 => if x12 ≤ v1 then ((zobj w v0 9).bind fun _ => (f_Model_unpacked F v0 w).bind fun r38 => if r38.1 = 0 then (b_Model_unpack_49 F v0 v0 (1 : Int32) r38.2) else (b_Model_unpack_49 F v0 v0 (0 : Int32) r38.2)) else ((getR w v0 9 9).bind fun x19 => (getR w v0 9 2).bind fun x24 => (aget w x24 v1).bind fun x28 => (aset w x19 v1 x28).bind fun w29 => K10 v0 (v1 + (1 : Int32)) w29)
set_option maxRecDepth 100000 in
set_option maxHeartbeats 4000000 in
theorem b_Model_unpack_10_ok (G : zG) (F : Nat) (K10 : Nat → Int32 → zW → Option (Int32 × zW)) (hK10 : ∀ (v0 : Nat) (v1 : Int32) (w : zW) (r : (Int32 × zW)), K10 v0 v1 w = some r → zV G m_Model_unpack 10 [(0, .ref (z0 G + v0)), (1, .int v1)] [] w 0 0 (oI r.1) r.2) (v0 : Nat) (v1 : Int32) (w : zW) (r : (Int32 × zW)) (h : b_Model_unpack_10 F K10 v0 v1 w = some r) : zV G m_Model_unpack 10 [(0, .ref (z0 G + v0)), (1, .int v1)] [] w 0 0 (oI r.1) r.2 := by
  unfold b_Model_unpack_10 at h
  refine V_iload_n (i := 1) d_Model_unpack_10 rfl 1 rfl ?_
  refine V_aload_n (i := 0) d_Model_unpack_11 rfl 0 rfl ?_
  obtain ⟨x12, e12, h⟩ := ob h
  refine V_getI (ci := 9) (k := 1) d_Model_unpack_12 e12 rfl (by decide) in_Model k883 ?_
  refine V_icmp_ge (tgt := 36) d_Model_unpack_15 (by decide) (fun c15 => ?_) (fun c15 => ?_)
  · rw [if_pos c15] at h
    refine V_aload_n (i := 0) d_Model_unpack_36 rfl 0 rfl ?_
    refine V_aload_n (i := 0) d_Model_unpack_37 rfl 0 rfl ?_
    obtain ⟨_, eo38, h⟩ := ob h
    obtain ⟨r38, e38, h⟩ := ob h
    refine V_call (v := some (.int r38.1)) (st := [.ref (z0 G + v0)]) (inv_V (N := m_Model_unpacked) (As := []) (ci := 9) d_Model_unpack_38 eo38 rfl k1085 k1087 sel_Model_unpacked kc_Model_unpacked y_Model_unpacked) ⟨Or.inl kc_Model_unpacked, k10, by decide, by decide⟩ (Nat.le_of_ble_eq_true rfl) (by decide) (by decide) (c_Model_unpacked G F v0 w r38 e38) ?_
    refine V_if_eq (tgt := 48) d_Model_unpack_41 (by decide) (fun c41 => ?_) (fun c41 => ?_)
    · rw [if_pos c41] at h
      refine V_iconst (v := 1) d_Model_unpack_48 (by decide) ?_
      refine V_lv [0] rfl ?_
      exact b_Model_unpack_49_ok G F v0 v0 (1 : Int32) r38.2 _ h
    · rw [if_neg c41] at h
      refine V_iconst (v := 0) d_Model_unpack_44 (by decide) ?_
      refine V_goto (tgt := 49) d_Model_unpack_45 (by decide) ?_
      refine V_lv [0] rfl ?_
      exact b_Model_unpack_49_ok G F v0 v0 (0 : Int32) r38.2 _ h
  · rw [if_neg c15] at h
    refine V_aload_n (i := 0) d_Model_unpack_18 rfl 0 rfl ?_
    obtain ⟨x19, e19, h⟩ := ob h
    refine V_getR (ci := 9) (k := 9) d_Model_unpack_19 e19 rfl (by decide) in_Model k891 ?_
    refine V_iload_n (i := 1) d_Model_unpack_22 rfl 1 rfl ?_
    refine V_aload_n (i := 0) d_Model_unpack_23 rfl 0 rfl ?_
    obtain ⟨x24, e24, h⟩ := ob h
    refine V_getR (ci := 9) (k := 2) d_Model_unpack_24 e24 rfl (by decide) in_Model k884 ?_
    refine V_iload_n (i := 1) d_Model_unpack_27 rfl 1 rfl ?_
    obtain ⟨x28, e28, h⟩ := ob h
    refine V_aget d_Model_unpack_28 e28 ?_
    obtain ⟨w29, e29, h⟩ := ob h
    refine V_aset d_Model_unpack_29 e29 ?_
    refine V_iinc (i := 1) (v := (v1 + (1 : Int32))) d_Model_unpack_30 1 rfl (congrArg (fun y => v1 + y) (by decide : Int32.ofInt (1) = (1 : Int32))) (by decide) rfl ?_
    refine V_goto (tgt := 10) d_Model_unpack_33 (by decide) ?_
    refine V_lv [1, 0] rfl ?_
    exact hK10 v0 (v1 + (1 : Int32)) w29 _ h
def l_Model_unpack_10 (F : Nat) : Nat → Nat → Int32 → zW → Option (Int32 × zW)
  | 0 => fun _ _ _ => none
  | n + 1 => b_Model_unpack_10 F (l_Model_unpack_10 F n)
theorem l_Model_unpack_10_ok (G : zG) (F : Nat) (n : Nat) :  ∀ (v0 : Nat) (v1 : Int32) (w : zW) (r : (Int32 × zW)), l_Model_unpack_10 F n v0 v1 w = some r → zV G m_Model_unpack 10 [(0, .ref (z0 G + v0)), (1, .int v1)] [] w 0 0 (oI r.1) r.2 := by
  induction n with
  | zero => intro v0 v1 w r h; exact nomatch (show (none : Option (Int32 × zW)) = some r from h)
  | succ n ih => intro v0 v1 w r h; exact b_Model_unpack_10_ok G F (l_Model_unpack_10 F n) ih v0 v1 w r h
def b_Model_unpack_0 (F : Nat) (v0 : Nat) (w : zW) : Option (Int32 × zW) := (getI w v0 9 1).bind fun x2 => (putI w v0 9 8 x2).bind fun w5 => l_Model_unpack_10 F F v0 (0 : Int32) w5
set_option maxRecDepth 100000 in
set_option maxHeartbeats 4000000 in
theorem b_Model_unpack_0_ok (G : zG) (F : Nat) (v0 : Nat) (w : zW) (r : (Int32 × zW)) (h : b_Model_unpack_0 F v0 w = some r) : zV G m_Model_unpack 0 [(0, .ref (z0 G + v0))] [] w 0 0 (oI r.1) r.2 := by
  unfold b_Model_unpack_0 at h
  refine V_aload_n (i := 0) d_Model_unpack_0 rfl 0 rfl ?_
  refine V_aload_n (i := 0) d_Model_unpack_1 rfl 0 rfl ?_
  obtain ⟨x2, e2, h⟩ := ob h
  refine V_getI (ci := 9) (k := 1) d_Model_unpack_2 e2 rfl (by decide) in_Model k883 ?_
  obtain ⟨w5, e5, h⟩ := ob h
  refine V_putI (ci := 9) (k := 8) t_Model d_Model_unpack_5 e5 rfl (by decide) in_Model k890 ty_Model nm_Model rfl (Or.inl rfl) ?_
  refine V_iconst (v := 0) d_Model_unpack_8 (by decide) ?_
  refine V_istore_n (i := 1) d_Model_unpack_9 rfl (by decide) rfl ?_
  refine V_lv [1, 0] rfl ?_
  exact l_Model_unpack_10_ok G F F v0 (0 : Int32) w5 _ h
def f_Model_unpack (F : Nat) (v0 : Nat) (w : zW) : Option (Int32 × zW) := b_Model_unpack_0 F v0 w
theorem c_Model_unpack (G : zG) (F : Nat) (v0 : Nat) (w : zW) (r : (Int32 × zW)) (h : f_Model_unpack F v0 w = some r) : zCT G m_Model_unpack [.ref (z0 G + v0)] w (oI r.1) r.2 := zCT.ofV (by decide +kernel) (Or.inl ⟨kc_Model_unpack, rfl⟩) (Nat.le_of_ble_eq_true rfl) (b_Model_unpack_0_ok G F v0 w r h)

/-! ZipArrayModel.number(II)J -/
def m_Model_number : zM := (⟨R_Model, "number", "(II)J"⟩, prog_11_method_39_code, 6, (some .long), [], { frames := 0, cells := 0, slots := 0, locals := 0 })
theorem kc_Model_number : Cond.code (mY m_Model_number) (mC m_Model_number) (mL m_Model_number) (mT m_Model_number) ∈ zTb := tb_at 1141 (by decide +kernel) rfl
theorem y_Model_number : (mY m_Model_number).cls ≠ "java/lang/invoke/MethodHandle" ∧ (mY m_Model_number).cls ≠ "java/lang/invoke/VarHandle" ∧ (parseMethodDescriptor (mY m_Model_number).desc).map (fun d => d.parameters.length) = some 2 := by decide +kernel
theorem sel_Model_number : Cond.selects R_Model (mY m_Model_number) (mY m_Model_number) ∈ zTb := sel_at (y := mY m_Model_number) (n := 33) 61 (by decide +kernel)
theorem d_Model_number_0 : decode (mC m_Model_number) 0 = .ok (.lconst 0, 1) := by decide +kernel
theorem d_Model_number_1 : decode (mC m_Model_number) 1 = .ok (.lstore_n 3, 1) := by decide +kernel
theorem d_Model_number_2 : decode (mC m_Model_number) 2 = .ok (.iconst 0, 1) := by decide +kernel
theorem d_Model_number_3 : decode (mC m_Model_number) 3 = .ok (.istore 5, 2) := by decide +kernel
theorem d_Model_number_5 : decode (mC m_Model_number) 5 = .ok (.iload 5, 2) := by decide +kernel
theorem d_Model_number_7 : decode (mC m_Model_number) 7 = .ok (.iload_n 2, 1) := by decide +kernel
theorem d_Model_number_8 : decode (mC m_Model_number) 8 = .ok (.if_icmp .ge 28, 3) := by decide +kernel
theorem d_Model_number_11 : decode (mC m_Model_number) 11 = .ok (.lload_n 3, 1) := by decide +kernel
theorem d_Model_number_12 : decode (mC m_Model_number) 12 = .ok (.aload_n 0, 1) := by decide +kernel
theorem d_Model_number_13 : decode (mC m_Model_number) 13 = .ok (.getfield 13, 3) := by decide +kernel
theorem d_Model_number_16 : decode (mC m_Model_number) 16 = .ok (.iload_n 1, 1) := by decide +kernel
theorem d_Model_number_17 : decode (mC m_Model_number) 17 = .ok (.iload 5, 2) := by decide +kernel
theorem d_Model_number_19 : decode (mC m_Model_number) 19 = .ok (.iadd, 1) := by decide +kernel
theorem d_Model_number_20 : decode (mC m_Model_number) 20 = .ok (.iaload, 1) := by decide +kernel
theorem d_Model_number_21 : decode (mC m_Model_number) 21 = .ok (.i2l, 1) := by decide +kernel
theorem d_Model_number_22 : decode (mC m_Model_number) 22 = .ok (.bipush 8, 2) := by decide +kernel
theorem d_Model_number_24 : decode (mC m_Model_number) 24 = .ok (.iload 5, 2) := by decide +kernel
theorem d_Model_number_26 : decode (mC m_Model_number) 26 = .ok (.imul, 1) := by decide +kernel
theorem d_Model_number_27 : decode (mC m_Model_number) 27 = .ok (.lshl, 1) := by decide +kernel
theorem d_Model_number_28 : decode (mC m_Model_number) 28 = .ok (.lor, 1) := by decide +kernel
theorem d_Model_number_29 : decode (mC m_Model_number) 29 = .ok (.lstore_n 3, 1) := by decide +kernel
theorem d_Model_number_30 : decode (mC m_Model_number) 30 = .ok (.iinc 5 1, 3) := by decide +kernel
theorem d_Model_number_33 : decode (mC m_Model_number) 33 = .ok (.goto (-28), 3) := by decide +kernel
theorem d_Model_number_36 : decode (mC m_Model_number) 36 = .ok (.lload_n 3, 1) := by decide +kernel
theorem d_Model_number_37 : decode (mC m_Model_number) 37 = .ok (.lreturn, 1) := by decide +kernel
def b_Model_number_5 (F : Nat) (K5 : Nat → Int32 → Int32 → Int64 → Int32 → zW → Option (Int64 × zW)) (v0 : Nat) (v1 : Int32) (v2 : Int32) (v3 : Int64) (v5 : Int32) (w : zW) : Option (Int64 × zW) := if v2 ≤ v5 then (some (v3, w)) else ((getR w v0 9 4).bind fun x13 => (aget w x13 (v1 + v5)).bind fun x20 => K5 v0 v1 v2 (v3 ||| (x20.toInt64 <<< (((8 : Int32) * v5).toInt64 &&& 63))) (v5 + (1 : Int32)) w)
set_option maxRecDepth 100000 in
set_option maxHeartbeats 4000000 in
theorem b_Model_number_5_ok (G : zG) (F : Nat) (K5 : Nat → Int32 → Int32 → Int64 → Int32 → zW → Option (Int64 × zW)) (hK5 : ∀ (v0 : Nat) (v1 : Int32) (v2 : Int32) (v3 : Int64) (v5 : Int32) (w : zW) (r : (Int64 × zW)), K5 v0 v1 v2 v3 v5 w = some r → zV G m_Model_number 5 [(0, .ref (z0 G + v0)), (1, .int v1), (2, .int v2), (3, .long v3), (5, .int v5)] [] w 0 0 (oJ r.1) r.2) (v0 : Nat) (v1 : Int32) (v2 : Int32) (v3 : Int64) (v5 : Int32) (w : zW) (r : (Int64 × zW)) (h : b_Model_number_5 F K5 v0 v1 v2 v3 v5 w = some r) : zV G m_Model_number 5 [(0, .ref (z0 G + v0)), (1, .int v1), (2, .int v2), (3, .long v3), (5, .int v5)] [] w 0 0 (oJ r.1) r.2 := by
  unfold b_Model_number_5 at h
  refine V_iload (i := 5) d_Model_number_5 4 rfl ?_
  refine V_iload_n (i := 2) d_Model_number_7 rfl 2 rfl ?_
  refine V_icmp_ge (tgt := 36) d_Model_number_8 (by decide) (fun c8 => ?_) (fun c8 => ?_)
  · rw [if_pos c8] at h
    refine V_lload_n (i := 3) d_Model_number_36 rfl 3 rfl ?_
    obtain rfl := Option.some.inj h
    exact V_lret rfl (by decide) (by decide) d_Model_number_37
  · rw [if_neg c8] at h
    refine V_lload_n (i := 3) d_Model_number_11 rfl 3 rfl ?_
    refine V_aload_n (i := 0) d_Model_number_12 rfl 0 rfl ?_
    obtain ⟨x13, e13, h⟩ := ob h
    refine V_getR (ci := 9) (k := 4) d_Model_number_13 e13 rfl (by decide) in_Model k886 ?_
    refine V_iload_n (i := 1) d_Model_number_16 rfl 1 rfl ?_
    refine V_iload (i := 5) d_Model_number_17 4 rfl ?_
    refine V_iadd d_Model_number_19 ?_
    obtain ⟨x20, e20, h⟩ := ob h
    refine V_aget d_Model_number_20 e20 ?_
    refine V_i2l d_Model_number_21 ?_
    refine V_bipush (v := 8) d_Model_number_22 (by decide) ?_
    refine V_iload (i := 5) d_Model_number_24 4 rfl ?_
    refine V_imul d_Model_number_26 ?_
    refine V_lshl d_Model_number_27 ?_
    refine V_lor d_Model_number_28 ?_
    refine V_lstore_n (i := 3) d_Model_number_29 rfl (by decide) rfl ?_
    refine V_iinc (i := 5) (v := (v5 + (1 : Int32))) d_Model_number_30 4 rfl (congrArg (fun y => v5 + y) (by decide : Int32.ofInt (1) = (1 : Int32))) (by decide) rfl ?_
    refine V_goto (tgt := 5) d_Model_number_33 (by decide) ?_
    refine V_lv [2, 3, 4, 1, 0] rfl ?_
    exact hK5 v0 v1 v2 (v3 ||| (x20.toInt64 <<< (((8 : Int32) * v5).toInt64 &&& 63))) (v5 + (1 : Int32)) w _ h
def l_Model_number_5 (F : Nat) : Nat → Nat → Int32 → Int32 → Int64 → Int32 → zW → Option (Int64 × zW)
  | 0 => fun _ _ _ _ _ _ => none
  | n + 1 => b_Model_number_5 F (l_Model_number_5 F n)
theorem l_Model_number_5_ok (G : zG) (F : Nat) (n : Nat) :  ∀ (v0 : Nat) (v1 : Int32) (v2 : Int32) (v3 : Int64) (v5 : Int32) (w : zW) (r : (Int64 × zW)), l_Model_number_5 F n v0 v1 v2 v3 v5 w = some r → zV G m_Model_number 5 [(0, .ref (z0 G + v0)), (1, .int v1), (2, .int v2), (3, .long v3), (5, .int v5)] [] w 0 0 (oJ r.1) r.2 := by
  induction n with
  | zero => intro v0 v1 v2 v3 v5 w r h; exact nomatch (show (none : Option (Int64 × zW)) = some r from h)
  | succ n ih => intro v0 v1 v2 v3 v5 w r h; exact b_Model_number_5_ok G F (l_Model_number_5 F n) ih v0 v1 v2 v3 v5 w r h
def b_Model_number_0 (F : Nat) (v0 : Nat) (v1 : Int32) (v2 : Int32) (w : zW) : Option (Int64 × zW) := l_Model_number_5 F F v0 v1 v2 (0 : Int64) (0 : Int32) w
set_option maxRecDepth 100000 in
set_option maxHeartbeats 4000000 in
theorem b_Model_number_0_ok (G : zG) (F : Nat) (v0 : Nat) (v1 : Int32) (v2 : Int32) (w : zW) (r : (Int64 × zW)) (h : b_Model_number_0 F v0 v1 v2 w = some r) : zV G m_Model_number 0 [(0, .ref (z0 G + v0)), (1, .int v1), (2, .int v2)] [] w 0 0 (oJ r.1) r.2 := by
  unfold b_Model_number_0 at h
  refine V_lconst (v := 0) d_Model_number_0 (by decide) ?_
  refine V_lstore_n (i := 3) d_Model_number_1 rfl (by decide) rfl ?_
  refine V_iconst (v := 0) d_Model_number_2 (by decide) ?_
  refine V_istore (i := 5) d_Model_number_3 (by decide) rfl ?_
  refine V_lv [2, 3, 4, 1, 0] rfl ?_
  exact l_Model_number_5_ok G F F v0 v1 v2 (0 : Int64) (0 : Int32) w _ h
def f_Model_number (F : Nat) (v0 : Nat) (v1 : Int32) (v2 : Int32) (w : zW) : Option (Int64 × zW) := b_Model_number_0 F v0 v1 v2 w
theorem c_Model_number (G : zG) (F : Nat) (v0 : Nat) (v1 : Int32) (v2 : Int32) (w : zW) (r : (Int64 × zW)) (h : f_Model_number F v0 v1 v2 w = some r) : zCT G m_Model_number [.ref (z0 G + v0), .int v1, .int v2] w (oJ r.1) r.2 := zCT.ofV (by decide +kernel) (Or.inl ⟨kc_Model_number, rfl⟩) (Nat.le_of_ble_eq_true rfl) (b_Model_number_0_ok G F v0 v1 v2 w r h)

/-! ZipArrayModel.two(I)I -/
def m_Model_two : zM := (⟨R_Model, "two", "(I)I"⟩, prog_11_method_40_code, 2, (some .int), [], { frames := 0, cells := 0, slots := 0, locals := 0 })
theorem kc_Model_two : Cond.code (mY m_Model_two) (mC m_Model_two) (mL m_Model_two) (mT m_Model_two) ∈ zTb := tb_at 1146 (by decide +kernel) rfl
theorem y_Model_two : (mY m_Model_two).cls ≠ "java/lang/invoke/MethodHandle" ∧ (mY m_Model_two).cls ≠ "java/lang/invoke/VarHandle" ∧ (parseMethodDescriptor (mY m_Model_two).desc).map (fun d => d.parameters.length) = some 1 := by decide +kernel
theorem sel_Model_two : Cond.selects R_Model (mY m_Model_two) (mY m_Model_two) ∈ zTb := sel_at (y := mY m_Model_two) (n := 33) 62 (by decide +kernel)
theorem d_Model_two_0 : decode (mC m_Model_two) 0 = .ok (.aload_n 0, 1) := by decide +kernel
theorem d_Model_two_1 : decode (mC m_Model_two) 1 = .ok (.getfield 13, 3) := by decide +kernel
theorem d_Model_two_4 : decode (mC m_Model_two) 4 = .ok (.iload_n 1, 1) := by decide +kernel
theorem d_Model_two_5 : decode (mC m_Model_two) 5 = .ok (.iaload, 1) := by decide +kernel
theorem d_Model_two_6 : decode (mC m_Model_two) 6 = .ok (.sipush 256, 3) := by decide +kernel
theorem d_Model_two_9 : decode (mC m_Model_two) 9 = .ok (.aload_n 0, 1) := by decide +kernel
theorem d_Model_two_10 : decode (mC m_Model_two) 10 = .ok (.getfield 13, 3) := by decide +kernel
theorem d_Model_two_13 : decode (mC m_Model_two) 13 = .ok (.iload_n 1, 1) := by decide +kernel
theorem d_Model_two_14 : decode (mC m_Model_two) 14 = .ok (.iconst 1, 1) := by decide +kernel
theorem d_Model_two_15 : decode (mC m_Model_two) 15 = .ok (.iadd, 1) := by decide +kernel
theorem d_Model_two_16 : decode (mC m_Model_two) 16 = .ok (.iaload, 1) := by decide +kernel
theorem d_Model_two_17 : decode (mC m_Model_two) 17 = .ok (.imul, 1) := by decide +kernel
theorem d_Model_two_18 : decode (mC m_Model_two) 18 = .ok (.iadd, 1) := by decide +kernel
theorem d_Model_two_19 : decode (mC m_Model_two) 19 = .ok (.ireturn, 1) := by decide +kernel
def b_Model_two_0 (F : Nat) (v0 : Nat) (v1 : Int32) (w : zW) : Option (Int32 × zW) := (getR w v0 9 4).bind fun x1 => (aget w x1 v1).bind fun x5 => (getR w v0 9 4).bind fun x10 => (aget w x10 (v1 + (1 : Int32))).bind fun x16 => some ((x5 + ((256 : Int32) * x16)), w)
set_option maxRecDepth 100000 in
set_option maxHeartbeats 4000000 in
theorem b_Model_two_0_ok (G : zG) (F : Nat) (v0 : Nat) (v1 : Int32) (w : zW) (r : (Int32 × zW)) (h : b_Model_two_0 F v0 v1 w = some r) : zV G m_Model_two 0 [(0, .ref (z0 G + v0)), (1, .int v1)] [] w 0 0 (oI r.1) r.2 := by
  unfold b_Model_two_0 at h
  refine V_aload_n (i := 0) d_Model_two_0 rfl 0 rfl ?_
  obtain ⟨x1, e1, h⟩ := ob h
  refine V_getR (ci := 9) (k := 4) d_Model_two_1 e1 rfl (by decide) in_Model k886 ?_
  refine V_iload_n (i := 1) d_Model_two_4 rfl 1 rfl ?_
  obtain ⟨x5, e5, h⟩ := ob h
  refine V_aget d_Model_two_5 e5 ?_
  refine V_sipush (v := 256) d_Model_two_6 (by decide) ?_
  refine V_aload_n (i := 0) d_Model_two_9 rfl 0 rfl ?_
  obtain ⟨x10, e10, h⟩ := ob h
  refine V_getR (ci := 9) (k := 4) d_Model_two_10 e10 rfl (by decide) in_Model k886 ?_
  refine V_iload_n (i := 1) d_Model_two_13 rfl 1 rfl ?_
  refine V_iconst (v := 1) d_Model_two_14 (by decide) ?_
  refine V_iadd d_Model_two_15 ?_
  obtain ⟨x16, e16, h⟩ := ob h
  refine V_aget d_Model_two_16 e16 ?_
  refine V_imul d_Model_two_17 ?_
  refine V_iadd d_Model_two_18 ?_
  obtain rfl := Option.some.inj h
  exact V_iret rfl (by decide) (by decide) d_Model_two_19
def f_Model_two (F : Nat) (v0 : Nat) (v1 : Int32) (w : zW) : Option (Int32 × zW) := b_Model_two_0 F v0 v1 w
theorem c_Model_two (G : zG) (F : Nat) (v0 : Nat) (v1 : Int32) (w : zW) (r : (Int32 × zW)) (h : f_Model_two F v0 v1 w = some r) : zCT G m_Model_two [.ref (z0 G + v0), .int v1] w (oI r.1) r.2 := zCT.ofV (by decide +kernel) (Or.inl ⟨kc_Model_two, rfl⟩) (Nat.le_of_ble_eq_true rfl) (b_Model_two_0_ok G F v0 v1 w r h)

/-! ZipArrayModel.isWide(I)Z -/
def m_Model_isWide : zM := (⟨R_Model, "isWide", "(I)Z"⟩, prog_11_method_41_code, 2, (some .boolean), [], { frames := 1, cells := 0, slots := 0, locals := 25 })
theorem k1138 : Cond.methodLink R_Model 188 (mY m_Model_number) ∈ zTb := tb_at 1138 (by decide +kernel) rfl
theorem k1140 : Cond.instanceMethod (mY m_Model_number) ∈ zTb := tb_at 1140 (by decide +kernel) rfl
theorem k1155 : Cond.constantLong R_Model 192 4294967295 ∈ zTb := tb_at 1155 (by decide +kernel) rfl
theorem kc_Model_isWide : Cond.code (mY m_Model_isWide) (mC m_Model_isWide) (mL m_Model_isWide) (mT m_Model_isWide) ∈ zTb := tb_at 1154 (by decide +kernel) rfl
theorem y_Model_isWide : (mY m_Model_isWide).cls ≠ "java/lang/invoke/MethodHandle" ∧ (mY m_Model_isWide).cls ≠ "java/lang/invoke/VarHandle" ∧ (parseMethodDescriptor (mY m_Model_isWide).desc).map (fun d => d.parameters.length) = some 1 := by decide +kernel
theorem sel_Model_isWide : Cond.selects R_Model (mY m_Model_isWide) (mY m_Model_isWide) ∈ zTb := sel_at (y := mY m_Model_isWide) (n := 33) 64 (by decide +kernel)
theorem d_Model_isWide_0 : decode (mC m_Model_isWide) 0 = .ok (.aload_n 0, 1) := by decide +kernel
theorem d_Model_isWide_1 : decode (mC m_Model_isWide) 1 = .ok (.iload_n 1, 1) := by decide +kernel
theorem d_Model_isWide_2 : decode (mC m_Model_isWide) 2 = .ok (.iconst 4, 1) := by decide +kernel
theorem d_Model_isWide_3 : decode (mC m_Model_isWide) 3 = .ok (.invokevirtual 188, 3) := by decide +kernel
theorem d_Model_isWide_6 : decode (mC m_Model_isWide) 6 = .ok (.ldc2_w 192, 3) := by decide +kernel
theorem d_Model_isWide_9 : decode (mC m_Model_isWide) 9 = .ok (.lcmp, 1) := by decide +kernel
theorem d_Model_isWide_10 : decode (mC m_Model_isWide) 10 = .ok (.ifCond .ne 7, 3) := by decide +kernel
theorem d_Model_isWide_13 : decode (mC m_Model_isWide) 13 = .ok (.iconst 1, 1) := by decide +kernel
theorem d_Model_isWide_14 : decode (mC m_Model_isWide) 14 = .ok (.goto 4, 3) := by decide +kernel
theorem d_Model_isWide_17 : decode (mC m_Model_isWide) 17 = .ok (.iconst 0, 1) := by decide +kernel
theorem d_Model_isWide_18 : decode (mC m_Model_isWide) 18 = .ok (.ireturn, 1) := by decide +kernel
def b_Model_isWide_0 (F : Nat) (v0 : Nat) (v1 : Int32) (w : zW) : Option (Int32 × zW) := (zobj w v0 9).bind fun _ => (f_Model_number F v0 v1 (4 : Int32) w).bind fun r3 => if (lg_cmp r3.1 (4294967295 : Int64)) = 0 then (some ((1 : Int32), r3.2)) else (some ((0 : Int32), r3.2))
set_option maxRecDepth 100000 in
set_option maxHeartbeats 4000000 in
theorem b_Model_isWide_0_ok (G : zG) (F : Nat) (v0 : Nat) (v1 : Int32) (w : zW) (r : (Int32 × zW)) (h : b_Model_isWide_0 F v0 v1 w = some r) : zV G m_Model_isWide 0 [(0, .ref (z0 G + v0)), (1, .int v1)] [] w 0 0 (oI r.1) r.2 := by
  unfold b_Model_isWide_0 at h
  refine V_aload_n (i := 0) d_Model_isWide_0 rfl 0 rfl ?_
  refine V_iload_n (i := 1) d_Model_isWide_1 rfl 1 rfl ?_
  refine V_iconst (v := 4) d_Model_isWide_2 (by decide) ?_
  obtain ⟨_, eo3, h⟩ := ob h
  obtain ⟨r3, e3, h⟩ := ob h
  refine V_call (v := some (.long r3.1)) (st := []) (inv_V (N := m_Model_number) (As := [.int v1, .int (4 : Int32)]) (ci := 9) d_Model_isWide_3 eo3 rfl k1138 k1140 sel_Model_number kc_Model_number y_Model_number) ⟨Or.inl kc_Model_number, k10, by decide, by decide⟩ (Nat.le_of_ble_eq_true rfl) (by decide) (by decide) (c_Model_number G F v0 v1 (4 : Int32) w r3 e3) ?_
  refine V_ldc2 (v := 4294967295) d_Model_isWide_6 k1155 ?_
  refine V_lcmp d_Model_isWide_9 ?_
  refine V_if_ne (tgt := 17) d_Model_isWide_10 (by decide) (fun c10 => ?_) (fun c10 => ?_)
  · rw [if_neg c10] at h
    refine V_iconst (v := 0) d_Model_isWide_17 (by decide) ?_
    obtain rfl := Option.some.inj h
    exact V_zret rfl (Or.inl rfl) (by decide) (by decide) d_Model_isWide_18
  · rw [if_pos c10] at h
    refine V_iconst (v := 1) d_Model_isWide_13 (by decide) ?_
    refine V_goto (tgt := 18) d_Model_isWide_14 (by decide) ?_
    obtain rfl := Option.some.inj h
    exact V_zret rfl (Or.inr rfl) (by decide) (by decide) d_Model_isWide_18
def f_Model_isWide (F : Nat) (v0 : Nat) (v1 : Int32) (w : zW) : Option (Int32 × zW) := b_Model_isWide_0 F v0 v1 w
theorem c_Model_isWide (G : zG) (F : Nat) (v0 : Nat) (v1 : Int32) (w : zW) (r : (Int32 × zW)) (h : f_Model_isWide F v0 v1 w = some r) : zCT G m_Model_isWide [.ref (z0 G + v0), .int v1] w (oI r.1) r.2 := zCT.ofV (by decide +kernel) (Or.inl ⟨kc_Model_isWide, rfl⟩) (Nat.le_of_ble_eq_true rfl) (b_Model_isWide_0_ok G F v0 v1 w r h)

/-! ZipArrayModel.findEnd()I -/
def m_Model_findEnd : zM := (⟨R_Model, "findEnd", "()I"⟩, prog_11_method_42_code, 2, (some .int), [], { frames := 1, cells := 0, slots := 0, locals := 25 })
theorem k885 : Cond.fieldLink R_Model 194 (T_Model 3).1 (T_Model 3).2.1 (T_Model 3).2.2.1 ∈ zTb := tb_at 885 (by decide +kernel) rfl
theorem k1142 : Cond.constantLong R_Model 197 101010256 ∈ zTb := tb_at 1142 (by decide +kernel) rfl
theorem k1143 : Cond.methodLink R_Model 199 (mY m_Model_two) ∈ zTb := tb_at 1143 (by decide +kernel) rfl
theorem k1145 : Cond.instanceMethod (mY m_Model_two) ∈ zTb := tb_at 1145 (by decide +kernel) rfl
theorem kc_Model_findEnd : Cond.code (mY m_Model_findEnd) (mC m_Model_findEnd) (mL m_Model_findEnd) (mT m_Model_findEnd) ∈ zTb := tb_at 1137 (by decide +kernel) rfl
theorem y_Model_findEnd : (mY m_Model_findEnd).cls ≠ "java/lang/invoke/MethodHandle" ∧ (mY m_Model_findEnd).cls ≠ "java/lang/invoke/VarHandle" ∧ (parseMethodDescriptor (mY m_Model_findEnd).desc).map (fun d => d.parameters.length) = some 0 := by decide +kernel
theorem sel_Model_findEnd : Cond.selects R_Model (mY m_Model_findEnd) (mY m_Model_findEnd) ∈ zTb := sel_at (y := mY m_Model_findEnd) (n := 33) 60 (by decide +kernel)
theorem d_Model_findEnd_0 : decode (mC m_Model_findEnd) 0 = .ok (.aload_n 0, 1) := by decide +kernel
theorem d_Model_findEnd_1 : decode (mC m_Model_findEnd) 1 = .ok (.getfield 194, 3) := by decide +kernel
theorem d_Model_findEnd_4 : decode (mC m_Model_findEnd) 4 = .ok (.bipush 22, 2) := by decide +kernel
theorem d_Model_findEnd_6 : decode (mC m_Model_findEnd) 6 = .ok (.isub, 1) := by decide +kernel
theorem d_Model_findEnd_7 : decode (mC m_Model_findEnd) 7 = .ok (.istore_n 1, 1) := by decide +kernel
theorem d_Model_findEnd_8 : decode (mC m_Model_findEnd) 8 = .ok (.iload_n 1, 1) := by decide +kernel
theorem d_Model_findEnd_9 : decode (mC m_Model_findEnd) 9 = .ok (.ifCond .lt 44, 3) := by decide +kernel
theorem d_Model_findEnd_12 : decode (mC m_Model_findEnd) 12 = .ok (.aload_n 0, 1) := by decide +kernel
theorem d_Model_findEnd_13 : decode (mC m_Model_findEnd) 13 = .ok (.iload_n 1, 1) := by decide +kernel
theorem d_Model_findEnd_14 : decode (mC m_Model_findEnd) 14 = .ok (.iconst 4, 1) := by decide +kernel
theorem d_Model_findEnd_15 : decode (mC m_Model_findEnd) 15 = .ok (.invokevirtual 188, 3) := by decide +kernel
theorem d_Model_findEnd_18 : decode (mC m_Model_findEnd) 18 = .ok (.ldc2_w 197, 3) := by decide +kernel
theorem d_Model_findEnd_21 : decode (mC m_Model_findEnd) 21 = .ok (.lcmp, 1) := by decide +kernel
theorem d_Model_findEnd_22 : decode (mC m_Model_findEnd) 22 = .ok (.ifCond .ne 25, 3) := by decide +kernel
theorem d_Model_findEnd_25 : decode (mC m_Model_findEnd) 25 = .ok (.aload_n 0, 1) := by decide +kernel
theorem d_Model_findEnd_26 : decode (mC m_Model_findEnd) 26 = .ok (.iload_n 1, 1) := by decide +kernel
theorem d_Model_findEnd_27 : decode (mC m_Model_findEnd) 27 = .ok (.bipush 20, 2) := by decide +kernel
theorem d_Model_findEnd_29 : decode (mC m_Model_findEnd) 29 = .ok (.iadd, 1) := by decide +kernel
theorem d_Model_findEnd_30 : decode (mC m_Model_findEnd) 30 = .ok (.invokevirtual 199, 3) := by decide +kernel
theorem d_Model_findEnd_33 : decode (mC m_Model_findEnd) 33 = .ok (.aload_n 0, 1) := by decide +kernel
theorem d_Model_findEnd_34 : decode (mC m_Model_findEnd) 34 = .ok (.getfield 194, 3) := by decide +kernel
theorem d_Model_findEnd_37 : decode (mC m_Model_findEnd) 37 = .ok (.iload_n 1, 1) := by decide +kernel
theorem d_Model_findEnd_38 : decode (mC m_Model_findEnd) 38 = .ok (.isub, 1) := by decide +kernel
theorem d_Model_findEnd_39 : decode (mC m_Model_findEnd) 39 = .ok (.bipush 22, 2) := by decide +kernel
theorem d_Model_findEnd_41 : decode (mC m_Model_findEnd) 41 = .ok (.isub, 1) := by decide +kernel
theorem d_Model_findEnd_42 : decode (mC m_Model_findEnd) 42 = .ok (.if_icmp .ne 5, 3) := by decide +kernel
theorem d_Model_findEnd_45 : decode (mC m_Model_findEnd) 45 = .ok (.iload_n 1, 1) := by decide +kernel
theorem d_Model_findEnd_46 : decode (mC m_Model_findEnd) 46 = .ok (.ireturn, 1) := by decide +kernel
theorem d_Model_findEnd_47 : decode (mC m_Model_findEnd) 47 = .ok (.iinc 1 (-1), 3) := by decide +kernel
theorem d_Model_findEnd_50 : decode (mC m_Model_findEnd) 50 = .ok (.goto (-42), 3) := by decide +kernel
theorem d_Model_findEnd_53 : decode (mC m_Model_findEnd) 53 = .ok (.iconst (-1), 1) := by decide +kernel
theorem d_Model_findEnd_54 : decode (mC m_Model_findEnd) 54 = .ok (.ireturn, 1) := by decide +kernel
def b_Model_findEnd_47 (F : Nat) (K8 : Nat → Int32 → zW → Option (Int32 × zW)) (v0 : Nat) (v1 : Int32) (w : zW) : Option (Int32 × zW) := K8 v0 (v1 + (-1 : Int32)) w
set_option maxRecDepth 100000 in
set_option maxHeartbeats 4000000 in
theorem b_Model_findEnd_47_ok (G : zG) (F : Nat) (K8 : Nat → Int32 → zW → Option (Int32 × zW)) (hK8 : ∀ (v0 : Nat) (v1 : Int32) (w : zW) (r : (Int32 × zW)), K8 v0 v1 w = some r → zV G m_Model_findEnd 8 [(0, .ref (z0 G + v0)), (1, .int v1)] [] w 0 0 (oI r.1) r.2) (v0 : Nat) (v1 : Int32) (w : zW) (r : (Int32 × zW)) (h : b_Model_findEnd_47 F K8 v0 v1 w = some r) : zV G m_Model_findEnd 47 [(0, .ref (z0 G + v0)), (1, .int v1)] [] w 0 0 (oI r.1) r.2 := by
  unfold b_Model_findEnd_47 at h
  refine V_iinc (i := 1) (v := (v1 + (-1 : Int32))) d_Model_findEnd_47 1 rfl (congrArg (fun y => v1 + y) (by decide : Int32.ofInt (-1) = (-1 : Int32))) (by decide) rfl ?_
  refine V_goto (tgt := 8) d_Model_findEnd_50 (by decide) ?_
  refine V_lv [1, 0] rfl ?_
  exact hK8 v0 (v1 + (-1 : Int32)) w _ h
def b_Model_findEnd_8 (F : Nat) (K8 : Nat → Int32 → zW → Option (Int32 × zW)) (v0 : Nat) (v1 : Int32) (w : zW) : Option (Int32 × zW) := if v1 < 0 then (some ((-1 : Int32), w)) else ((zobj w v0 9).bind fun _ => (f_Model_number F v0 v1 (4 : Int32) w).bind fun r15 => if (lg_cmp r15.1 (101010256 : Int64)) = 0 then ((zobj r15.2 v0 9).bind fun _ => (f_Model_two F v0 (v1 + (20 : Int32)) r15.2).bind fun r30 => (getI r30.2 v0 9 3).bind fun x34 => if r30.1 = ((x34 - v1) - (22 : Int32)) then (some (v1, r30.2)) else (b_Model_findEnd_47 F K8 v0 v1 r30.2)) else (b_Model_findEnd_47 F K8 v0 v1 r15.2))
set_option maxRecDepth 100000 in
set_option maxHeartbeats 4000000 in
theorem b_Model_findEnd_8_ok (G : zG) (F : Nat) (K8 : Nat → Int32 → zW → Option (Int32 × zW)) (hK8 : ∀ (v0 : Nat) (v1 : Int32) (w : zW) (r : (Int32 × zW)), K8 v0 v1 w = some r → zV G m_Model_findEnd 8 [(0, .ref (z0 G + v0)), (1, .int v1)] [] w 0 0 (oI r.1) r.2) (v0 : Nat) (v1 : Int32) (w : zW) (r : (Int32 × zW)) (h : b_Model_findEnd_8 F K8 v0 v1 w = some r) : zV G m_Model_findEnd 8 [(0, .ref (z0 G + v0)), (1, .int v1)] [] w 0 0 (oI r.1) r.2 := by
  unfold b_Model_findEnd_8 at h
  refine V_iload_n (i := 1) d_Model_findEnd_8 rfl 1 rfl ?_
  refine V_if_lt (tgt := 53) d_Model_findEnd_9 (by decide) (fun c9 => ?_) (fun c9 => ?_)
  · rw [if_pos c9] at h
    refine V_iconst (v := -1) d_Model_findEnd_53 (by decide) ?_
    obtain rfl := Option.some.inj h
    exact V_iret rfl (by decide) (by decide) d_Model_findEnd_54
  · rw [if_neg c9] at h
    refine V_aload_n (i := 0) d_Model_findEnd_12 rfl 0 rfl ?_
    refine V_iload_n (i := 1) d_Model_findEnd_13 rfl 1 rfl ?_
    refine V_iconst (v := 4) d_Model_findEnd_14 (by decide) ?_
    obtain ⟨_, eo15, h⟩ := ob h
    obtain ⟨r15, e15, h⟩ := ob h
    refine V_call (v := some (.long r15.1)) (st := []) (inv_V (N := m_Model_number) (As := [.int v1, .int (4 : Int32)]) (ci := 9) d_Model_findEnd_15 eo15 rfl k1138 k1140 sel_Model_number kc_Model_number y_Model_number) ⟨Or.inl kc_Model_number, k10, by decide, by decide⟩ (Nat.le_of_ble_eq_true rfl) (by decide) (by decide) (c_Model_number G F v0 v1 (4 : Int32) w r15 e15) ?_
    refine V_ldc2 (v := 101010256) d_Model_findEnd_18 k1142 ?_
    refine V_lcmp d_Model_findEnd_21 ?_
    refine V_if_ne (tgt := 47) d_Model_findEnd_22 (by decide) (fun c22 => ?_) (fun c22 => ?_)
    · rw [if_neg c22] at h
      exact b_Model_findEnd_47_ok G F K8 hK8 v0 v1 r15.2 _ h
    · rw [if_pos c22] at h
      refine V_aload_n (i := 0) d_Model_findEnd_25 rfl 0 rfl ?_
      refine V_iload_n (i := 1) d_Model_findEnd_26 rfl 1 rfl ?_
      refine V_bipush (v := 20) d_Model_findEnd_27 (by decide) ?_
      refine V_iadd d_Model_findEnd_29 ?_
      obtain ⟨_, eo30, h⟩ := ob h
      obtain ⟨r30, e30, h⟩ := ob h
      refine V_call (v := some (.int r30.1)) (st := []) (inv_V (N := m_Model_two) (As := [.int (v1 + (20 : Int32))]) (ci := 9) d_Model_findEnd_30 eo30 rfl k1143 k1145 sel_Model_two kc_Model_two y_Model_two) ⟨Or.inl kc_Model_two, k10, by decide, by decide⟩ (Nat.le_of_ble_eq_true rfl) (by decide) (by decide) (c_Model_two G F v0 (v1 + (20 : Int32)) r15.2 r30 e30) ?_
      refine V_aload_n (i := 0) d_Model_findEnd_33 rfl 0 rfl ?_
      obtain ⟨x34, e34, h⟩ := ob h
      refine V_getI (ci := 9) (k := 3) d_Model_findEnd_34 e34 rfl (by decide) in_Model k885 ?_
      refine V_iload_n (i := 1) d_Model_findEnd_37 rfl 1 rfl ?_
      refine V_isub d_Model_findEnd_38 ?_
      refine V_bipush (v := 22) d_Model_findEnd_39 (by decide) ?_
      refine V_isub d_Model_findEnd_41 ?_
      refine V_icmp_ne (tgt := 47) d_Model_findEnd_42 (by decide) (fun c42 => ?_) (fun c42 => ?_)
      · rw [if_neg c42] at h
        exact b_Model_findEnd_47_ok G F K8 hK8 v0 v1 r30.2 _ h
      · rw [if_pos c42] at h
        refine V_iload_n (i := 1) d_Model_findEnd_45 rfl 1 rfl ?_
        obtain rfl := Option.some.inj h
        exact V_iret rfl (by decide) (by decide) d_Model_findEnd_46
def l_Model_findEnd_8 (F : Nat) : Nat → Nat → Int32 → zW → Option (Int32 × zW)
  | 0 => fun _ _ _ => none
  | n + 1 => b_Model_findEnd_8 F (l_Model_findEnd_8 F n)
theorem l_Model_findEnd_8_ok (G : zG) (F : Nat) (n : Nat) :  ∀ (v0 : Nat) (v1 : Int32) (w : zW) (r : (Int32 × zW)), l_Model_findEnd_8 F n v0 v1 w = some r → zV G m_Model_findEnd 8 [(0, .ref (z0 G + v0)), (1, .int v1)] [] w 0 0 (oI r.1) r.2 := by
  induction n with
  | zero => intro v0 v1 w r h; exact nomatch (show (none : Option (Int32 × zW)) = some r from h)
  | succ n ih => intro v0 v1 w r h; exact b_Model_findEnd_8_ok G F (l_Model_findEnd_8 F n) ih v0 v1 w r h
def b_Model_findEnd_0 (F : Nat) (v0 : Nat) (w : zW) : Option (Int32 × zW) := (getI w v0 9 3).bind fun x1 => l_Model_findEnd_8 F F v0 (x1 - (22 : Int32)) w
set_option maxRecDepth 100000 in
set_option maxHeartbeats 4000000 in
theorem b_Model_findEnd_0_ok (G : zG) (F : Nat) (v0 : Nat) (w : zW) (r : (Int32 × zW)) (h : b_Model_findEnd_0 F v0 w = some r) : zV G m_Model_findEnd 0 [(0, .ref (z0 G + v0))] [] w 0 0 (oI r.1) r.2 := by
  unfold b_Model_findEnd_0 at h
  refine V_aload_n (i := 0) d_Model_findEnd_0 rfl 0 rfl ?_
  obtain ⟨x1, e1, h⟩ := ob h
  refine V_getI (ci := 9) (k := 3) d_Model_findEnd_1 e1 rfl (by decide) in_Model k885 ?_
  refine V_bipush (v := 22) d_Model_findEnd_4 (by decide) ?_
  refine V_isub d_Model_findEnd_6 ?_
  refine V_istore_n (i := 1) d_Model_findEnd_7 rfl (by decide) rfl ?_
  refine V_lv [1, 0] rfl ?_
  exact l_Model_findEnd_8_ok G F F v0 (x1 - (22 : Int32)) w _ h
def f_Model_findEnd (F : Nat) (v0 : Nat) (w : zW) : Option (Int32 × zW) := b_Model_findEnd_0 F v0 w
theorem c_Model_findEnd (G : zG) (F : Nat) (v0 : Nat) (w : zW) (r : (Int32 × zW)) (h : f_Model_findEnd F v0 w = some r) : zCT G m_Model_findEnd [.ref (z0 G + v0)] w (oI r.1) r.2 := zCT.ofV (by decide +kernel) (Or.inl ⟨kc_Model_findEnd, rfl⟩) (Nat.le_of_ble_eq_true rfl) (b_Model_findEnd_0_ok G F v0 w r h)

/-! ZipArrayModel.takeEnd(IIII)Z -/
def m_Model_takeEnd : zM := (⟨R_Model, "takeEnd", "(IIII)Z"⟩, prog_11_method_43_code, 13, (some .boolean), [], { frames := 1, cells := 0, slots := 0, locals := 25 })
theorem k899 : Cond.fieldLink R_Model 205 (T_Model 17).1 (T_Model 17).2.1 (T_Model 17).2.2.1 ∈ zTb := tb_at 899 (by decide +kernel) rfl
theorem k900 : Cond.fieldLink R_Model 208 (T_Model 18).1 (T_Model 18).2.1 (T_Model 18).2.2.1 ∈ zTb := tb_at 900 (by decide +kernel) rfl
theorem k901 : Cond.fieldLink R_Model 202 (T_Model 19).1 (T_Model 19).2.1 (T_Model 19).2.2.1 ∈ zTb := tb_at 901 (by decide +kernel) rfl
theorem kc_Model_takeEnd : Cond.code (mY m_Model_takeEnd) (mC m_Model_takeEnd) (mL m_Model_takeEnd) (mT m_Model_takeEnd) ∈ zTb := tb_at 1159 (by decide +kernel) rfl
theorem y_Model_takeEnd : (mY m_Model_takeEnd).cls ≠ "java/lang/invoke/MethodHandle" ∧ (mY m_Model_takeEnd).cls ≠ "java/lang/invoke/VarHandle" ∧ (parseMethodDescriptor (mY m_Model_takeEnd).desc).map (fun d => d.parameters.length) = some 4 := by decide +kernel
theorem sel_Model_takeEnd : Cond.selects R_Model (mY m_Model_takeEnd) (mY m_Model_takeEnd) ∈ zTb := sel_at (y := mY m_Model_takeEnd) (n := 33) 65 (by decide +kernel)
theorem d_Model_takeEnd_0 : decode (mC m_Model_takeEnd) 0 = .ok (.aload_n 0, 1) := by decide +kernel
theorem d_Model_takeEnd_1 : decode (mC m_Model_takeEnd) 1 = .ok (.iload_n 1, 1) := by decide +kernel
theorem d_Model_takeEnd_2 : decode (mC m_Model_takeEnd) 2 = .ok (.iload_n 3, 1) := by decide +kernel
theorem d_Model_takeEnd_3 : decode (mC m_Model_takeEnd) 3 = .ok (.invokevirtual 188, 3) := by decide +kernel
theorem d_Model_takeEnd_6 : decode (mC m_Model_takeEnd) 6 = .ok (.lstore 5, 2) := by decide +kernel
theorem d_Model_takeEnd_8 : decode (mC m_Model_takeEnd) 8 = .ok (.aload_n 0, 1) := by decide +kernel
theorem d_Model_takeEnd_9 : decode (mC m_Model_takeEnd) 9 = .ok (.iload_n 1, 1) := by decide +kernel
theorem d_Model_takeEnd_10 : decode (mC m_Model_takeEnd) 10 = .ok (.iload_n 3, 1) := by decide +kernel
theorem d_Model_takeEnd_11 : decode (mC m_Model_takeEnd) 11 = .ok (.iadd, 1) := by decide +kernel
theorem d_Model_takeEnd_12 : decode (mC m_Model_takeEnd) 12 = .ok (.iload_n 3, 1) := by decide +kernel
theorem d_Model_takeEnd_13 : decode (mC m_Model_takeEnd) 13 = .ok (.invokevirtual 188, 3) := by decide +kernel
theorem d_Model_takeEnd_16 : decode (mC m_Model_takeEnd) 16 = .ok (.lstore 7, 2) := by decide +kernel
theorem d_Model_takeEnd_18 : decode (mC m_Model_takeEnd) 18 = .ok (.aload_n 0, 1) := by decide +kernel
theorem d_Model_takeEnd_19 : decode (mC m_Model_takeEnd) 19 = .ok (.iload_n 2, 1) := by decide +kernel
theorem d_Model_takeEnd_20 : decode (mC m_Model_takeEnd) 20 = .ok (.iload 4, 2) := by decide +kernel
theorem d_Model_takeEnd_22 : decode (mC m_Model_takeEnd) 22 = .ok (.invokevirtual 188, 3) := by decide +kernel
theorem d_Model_takeEnd_25 : decode (mC m_Model_takeEnd) 25 = .ok (.lstore 9, 2) := by decide +kernel
theorem d_Model_takeEnd_27 : decode (mC m_Model_takeEnd) 27 = .ok (.aload_n 0, 1) := by decide +kernel
theorem d_Model_takeEnd_28 : decode (mC m_Model_takeEnd) 28 = .ok (.iload_n 2, 1) := by decide +kernel
theorem d_Model_takeEnd_29 : decode (mC m_Model_takeEnd) 29 = .ok (.iload 4, 2) := by decide +kernel
theorem d_Model_takeEnd_31 : decode (mC m_Model_takeEnd) 31 = .ok (.iadd, 1) := by decide +kernel
theorem d_Model_takeEnd_32 : decode (mC m_Model_takeEnd) 32 = .ok (.iload 4, 2) := by decide +kernel
theorem d_Model_takeEnd_34 : decode (mC m_Model_takeEnd) 34 = .ok (.invokevirtual 188, 3) := by decide +kernel
theorem d_Model_takeEnd_37 : decode (mC m_Model_takeEnd) 37 = .ok (.lstore 11, 2) := by decide +kernel
theorem d_Model_takeEnd_39 : decode (mC m_Model_takeEnd) 39 = .ok (.lload 5, 2) := by decide +kernel
theorem d_Model_takeEnd_41 : decode (mC m_Model_takeEnd) 41 = .ok (.lload 7, 2) := by decide +kernel
theorem d_Model_takeEnd_43 : decode (mC m_Model_takeEnd) 43 = .ok (.lcmp, 1) := by decide +kernel
theorem d_Model_takeEnd_44 : decode (mC m_Model_takeEnd) 44 = .ok (.ifCond .ne 43, 3) := by decide +kernel
theorem d_Model_takeEnd_47 : decode (mC m_Model_takeEnd) 47 = .ok (.lload 5, 2) := by decide +kernel
theorem d_Model_takeEnd_49 : decode (mC m_Model_takeEnd) 49 = .ok (.lconst 0, 1) := by decide +kernel
theorem d_Model_takeEnd_50 : decode (mC m_Model_takeEnd) 50 = .ok (.ldc2_w 85, 3) := by decide +kernel
theorem d_Model_takeEnd_53 : decode (mC m_Model_takeEnd) 53 = .ok (.invokestatic 87, 3) := by decide +kernel
theorem d_Model_takeEnd_56 : decode (mC m_Model_takeEnd) 56 = .ok (.ifCond .eq 31, 3) := by decide +kernel
theorem d_Model_takeEnd_59 : decode (mC m_Model_takeEnd) 59 = .ok (.lload 11, 2) := by decide +kernel
theorem d_Model_takeEnd_61 : decode (mC m_Model_takeEnd) 61 = .ok (.lconst 0, 1) := by decide +kernel
theorem d_Model_takeEnd_62 : decode (mC m_Model_takeEnd) 62 = .ok (.aload_n 0, 1) := by decide +kernel
theorem d_Model_takeEnd_63 : decode (mC m_Model_takeEnd) 63 = .ok (.getfield 202, 3) := by decide +kernel
theorem d_Model_takeEnd_66 : decode (mC m_Model_takeEnd) 66 = .ok (.i2l, 1) := by decide +kernel
theorem d_Model_takeEnd_67 : decode (mC m_Model_takeEnd) 67 = .ok (.invokestatic 87, 3) := by decide +kernel
theorem d_Model_takeEnd_70 : decode (mC m_Model_takeEnd) 70 = .ok (.ifCond .eq 17, 3) := by decide +kernel
theorem d_Model_takeEnd_73 : decode (mC m_Model_takeEnd) 73 = .ok (.lload 9, 2) := by decide +kernel
theorem d_Model_takeEnd_75 : decode (mC m_Model_takeEnd) 75 = .ok (.aload_n 0, 1) := by decide +kernel
theorem d_Model_takeEnd_76 : decode (mC m_Model_takeEnd) 76 = .ok (.getfield 202, 3) := by decide +kernel
theorem d_Model_takeEnd_79 : decode (mC m_Model_takeEnd) 79 = .ok (.i2l, 1) := by decide +kernel
theorem d_Model_takeEnd_80 : decode (mC m_Model_takeEnd) 80 = .ok (.lload 11, 2) := by decide +kernel
theorem d_Model_takeEnd_82 : decode (mC m_Model_takeEnd) 82 = .ok (.lsub, 1) := by decide +kernel
theorem d_Model_takeEnd_83 : decode (mC m_Model_takeEnd) 83 = .ok (.lcmp, 1) := by decide +kernel
theorem d_Model_takeEnd_84 : decode (mC m_Model_takeEnd) 84 = .ok (.ifCond .eq 5, 3) := by decide +kernel
theorem d_Model_takeEnd_87 : decode (mC m_Model_takeEnd) 87 = .ok (.iconst 0, 1) := by decide +kernel
theorem d_Model_takeEnd_88 : decode (mC m_Model_takeEnd) 88 = .ok (.ireturn, 1) := by decide +kernel
theorem d_Model_takeEnd_89 : decode (mC m_Model_takeEnd) 89 = .ok (.aload_n 0, 1) := by decide +kernel
theorem d_Model_takeEnd_90 : decode (mC m_Model_takeEnd) 90 = .ok (.lload 5, 2) := by decide +kernel
theorem d_Model_takeEnd_92 : decode (mC m_Model_takeEnd) 92 = .ok (.l2i, 1) := by decide +kernel
theorem d_Model_takeEnd_93 : decode (mC m_Model_takeEnd) 93 = .ok (.putfield 205, 3) := by decide +kernel
theorem d_Model_takeEnd_96 : decode (mC m_Model_takeEnd) 96 = .ok (.aload_n 0, 1) := by decide +kernel
theorem d_Model_takeEnd_97 : decode (mC m_Model_takeEnd) 97 = .ok (.lload 11, 2) := by decide +kernel
theorem d_Model_takeEnd_99 : decode (mC m_Model_takeEnd) 99 = .ok (.l2i, 1) := by decide +kernel
theorem d_Model_takeEnd_100 : decode (mC m_Model_takeEnd) 100 = .ok (.putfield 208, 3) := by decide +kernel
theorem d_Model_takeEnd_103 : decode (mC m_Model_takeEnd) 103 = .ok (.iconst 1, 1) := by decide +kernel
theorem d_Model_takeEnd_104 : decode (mC m_Model_takeEnd) 104 = .ok (.ireturn, 1) := by decide +kernel
def b_Model_takeEnd_87 (F : Nat) (w : zW) : Option (Int32 × zW) := some ((0 : Int32), w)
set_option maxRecDepth 100000 in
set_option maxHeartbeats 4000000 in
theorem b_Model_takeEnd_87_ok (G : zG) (F : Nat) (w : zW) (r : (Int32 × zW)) (h : b_Model_takeEnd_87 F w = some r) : zV G m_Model_takeEnd 87 [] [] w 0 0 (oI r.1) r.2 := by
  unfold b_Model_takeEnd_87 at h
  refine V_iconst (v := 0) d_Model_takeEnd_87 (by decide) ?_
  obtain rfl := Option.some.inj h
  exact V_zret rfl (Or.inl rfl) (by decide) (by decide) d_Model_takeEnd_88
def b_Model_takeEnd_0 (F : Nat) (v0 : Nat) (v1 : Int32) (v2 : Int32) (v3 : Int32) (v4 : Int32) (w : zW) : Option (Int32 × zW) := (zobj w v0 9).bind fun _ => (f_Model_number F v0 v1 v3 w).bind fun r3 => (zobj r3.2 v0 9).bind fun _ => (f_Model_number F v0 (v1 + v3) v3 r3.2).bind fun r13 => (zobj r13.2 v0 9).bind fun _ => (f_Model_number F v0 v2 v4 r13.2).bind fun r22 => (zobj r22.2 v0 9).bind fun _ => (f_Model_number F v0 (v2 + v4) v4 r22.2).bind fun r34 => if (lg_cmp r3.1 r13.1) = 0 then ((f_Model_within F r3.1 (0 : Int64) (8 : Int64) r34.2).bind fun r53 => if r53.1 = 0 then (b_Model_takeEnd_87 F r53.2) else ((getI r53.2 v0 9 19).bind fun x63 => (f_Model_within F r34.1 (0 : Int64) x63.toInt64 r53.2).bind fun r67 => if r67.1 = 0 then (b_Model_takeEnd_87 F r67.2) else ((getI r67.2 v0 9 19).bind fun x76 => if (lg_cmp r22.1 (x76.toInt64 - r34.1)) = 0 then ((putI r67.2 v0 9 17 r3.1.toInt32).bind fun w93 => (putI w93 v0 9 18 r34.1.toInt32).bind fun w100 => some ((1 : Int32), w100)) else (b_Model_takeEnd_87 F r67.2)))) else (b_Model_takeEnd_87 F r34.2)
set_option maxRecDepth 100000 in
set_option maxHeartbeats 4000000 in
theorem b_Model_takeEnd_0_ok (G : zG) (F : Nat) (v0 : Nat) (v1 : Int32) (v2 : Int32) (v3 : Int32) (v4 : Int32) (w : zW) (r : (Int32 × zW)) (h : b_Model_takeEnd_0 F v0 v1 v2 v3 v4 w = some r) : zV G m_Model_takeEnd 0 [(0, .ref (z0 G + v0)), (1, .int v1), (2, .int v2), (3, .int v3), (4, .int v4)] [] w 0 0 (oI r.1) r.2 := by
  unfold b_Model_takeEnd_0 at h
  refine V_aload_n (i := 0) d_Model_takeEnd_0 rfl 0 rfl ?_
  refine V_iload_n (i := 1) d_Model_takeEnd_1 rfl 1 rfl ?_
  refine V_iload_n (i := 3) d_Model_takeEnd_2 rfl 3 rfl ?_
  obtain ⟨_, eo3, h⟩ := ob h
  obtain ⟨r3, e3, h⟩ := ob h
  refine V_call (v := some (.long r3.1)) (st := []) (inv_V (N := m_Model_number) (As := [.int v1, .int v3]) (ci := 9) d_Model_takeEnd_3 eo3 rfl k1138 k1140 sel_Model_number kc_Model_number y_Model_number) ⟨Or.inl kc_Model_number, k10, by decide, by decide⟩ (Nat.le_of_ble_eq_true rfl) (by decide) (by decide) (c_Model_number G F v0 v1 v3 w r3 e3) ?_
  refine V_lstore (i := 5) d_Model_takeEnd_6 (by decide) rfl ?_
  refine V_aload_n (i := 0) d_Model_takeEnd_8 rfl 1 rfl ?_
  refine V_iload_n (i := 1) d_Model_takeEnd_9 rfl 2 rfl ?_
  refine V_iload_n (i := 3) d_Model_takeEnd_10 rfl 4 rfl ?_
  refine V_iadd d_Model_takeEnd_11 ?_
  refine V_iload_n (i := 3) d_Model_takeEnd_12 rfl 4 rfl ?_
  obtain ⟨_, eo13, h⟩ := ob h
  obtain ⟨r13, e13, h⟩ := ob h
  refine V_call (v := some (.long r13.1)) (st := []) (inv_V (N := m_Model_number) (As := [.int (v1 + v3), .int v3]) (ci := 9) d_Model_takeEnd_13 eo13 rfl k1138 k1140 sel_Model_number kc_Model_number y_Model_number) ⟨Or.inl kc_Model_number, k10, by decide, by decide⟩ (Nat.le_of_ble_eq_true rfl) (by decide) (by decide) (c_Model_number G F v0 (v1 + v3) v3 r3.2 r13 e13) ?_
  refine V_lstore (i := 7) d_Model_takeEnd_16 (by decide) rfl ?_
  refine V_aload_n (i := 0) d_Model_takeEnd_18 rfl 2 rfl ?_
  refine V_iload_n (i := 2) d_Model_takeEnd_19 rfl 4 rfl ?_
  refine V_iload (i := 4) d_Model_takeEnd_20 6 rfl ?_
  obtain ⟨_, eo22, h⟩ := ob h
  obtain ⟨r22, e22, h⟩ := ob h
  refine V_call (v := some (.long r22.1)) (st := []) (inv_V (N := m_Model_number) (As := [.int v2, .int v4]) (ci := 9) d_Model_takeEnd_22 eo22 rfl k1138 k1140 sel_Model_number kc_Model_number y_Model_number) ⟨Or.inl kc_Model_number, k10, by decide, by decide⟩ (Nat.le_of_ble_eq_true rfl) (by decide) (by decide) (c_Model_number G F v0 v2 v4 r13.2 r22 e22) ?_
  refine V_lstore (i := 9) d_Model_takeEnd_25 (by decide) rfl ?_
  refine V_aload_n (i := 0) d_Model_takeEnd_27 rfl 3 rfl ?_
  refine V_iload_n (i := 2) d_Model_takeEnd_28 rfl 5 rfl ?_
  refine V_iload (i := 4) d_Model_takeEnd_29 7 rfl ?_
  refine V_iadd d_Model_takeEnd_31 ?_
  refine V_iload (i := 4) d_Model_takeEnd_32 7 rfl ?_
  obtain ⟨_, eo34, h⟩ := ob h
  obtain ⟨r34, e34, h⟩ := ob h
  refine V_call (v := some (.long r34.1)) (st := []) (inv_V (N := m_Model_number) (As := [.int (v2 + v4), .int v4]) (ci := 9) d_Model_takeEnd_34 eo34 rfl k1138 k1140 sel_Model_number kc_Model_number y_Model_number) ⟨Or.inl kc_Model_number, k10, by decide, by decide⟩ (Nat.le_of_ble_eq_true rfl) (by decide) (by decide) (c_Model_number G F v0 (v2 + v4) v4 r22.2 r34 e34) ?_
  refine V_lstore (i := 11) d_Model_takeEnd_37 (by decide) rfl ?_
  refine V_lload (i := 5) d_Model_takeEnd_39 3 rfl ?_
  refine V_lload (i := 7) d_Model_takeEnd_41 2 rfl ?_
  refine V_lcmp d_Model_takeEnd_43 ?_
  refine V_if_ne (tgt := 87) d_Model_takeEnd_44 (by decide) (fun c44 => ?_) (fun c44 => ?_)
  · rw [if_neg c44] at h
    refine V_lv [] rfl ?_
    exact b_Model_takeEnd_87_ok G F r34.2 _ h
  · rw [if_pos c44] at h
    refine V_lload (i := 5) d_Model_takeEnd_47 3 rfl ?_
    refine V_lconst (v := 0) d_Model_takeEnd_49 (by decide) ?_
    refine V_ldc2 (v := 8) d_Model_takeEnd_50 k994 ?_
    obtain ⟨r53, e53, h⟩ := ob h
    refine V_call (v := some (.int r53.1)) (st := []) (inv_S (N := m_Model_within) (As := [.long r3.1, .long (0 : Int64), .long (8 : Int64)]) d_Model_takeEnd_53 k995 k996 k10 (Or.inl kc_Model_within) y_Model_within) ⟨Or.inl kc_Model_within, k10, by decide, by decide⟩ (Nat.le_of_ble_eq_true rfl) (by decide) (by decide) (c_Model_within G F r3.1 (0 : Int64) (8 : Int64) r34.2 r53 e53) ?_
    refine V_if_eq (tgt := 87) d_Model_takeEnd_56 (by decide) (fun c56 => ?_) (fun c56 => ?_)
    · rw [if_pos c56] at h
      refine V_lv [] rfl ?_
      exact b_Model_takeEnd_87_ok G F r53.2 _ h
    · rw [if_neg c56] at h
      refine V_lload (i := 11) d_Model_takeEnd_59 0 rfl ?_
      refine V_lconst (v := 0) d_Model_takeEnd_61 (by decide) ?_
      refine V_aload_n (i := 0) d_Model_takeEnd_62 rfl 4 rfl ?_
      obtain ⟨x63, e63, h⟩ := ob h
      refine V_getI (ci := 9) (k := 19) d_Model_takeEnd_63 e63 rfl (by decide) in_Model k901 ?_
      refine V_i2l d_Model_takeEnd_66 ?_
      obtain ⟨r67, e67, h⟩ := ob h
      refine V_call (v := some (.int r67.1)) (st := []) (inv_S (N := m_Model_within) (As := [.long r34.1, .long (0 : Int64), .long x63.toInt64]) d_Model_takeEnd_67 k995 k996 k10 (Or.inl kc_Model_within) y_Model_within) ⟨Or.inl kc_Model_within, k10, by decide, by decide⟩ (Nat.le_of_ble_eq_true rfl) (by decide) (by decide) (c_Model_within G F r34.1 (0 : Int64) x63.toInt64 r53.2 r67 e67) ?_
      refine V_if_eq (tgt := 87) d_Model_takeEnd_70 (by decide) (fun c70 => ?_) (fun c70 => ?_)
      · rw [if_pos c70] at h
        refine V_lv [] rfl ?_
        exact b_Model_takeEnd_87_ok G F r67.2 _ h
      · rw [if_neg c70] at h
        refine V_lload (i := 9) d_Model_takeEnd_73 1 rfl ?_
        refine V_aload_n (i := 0) d_Model_takeEnd_75 rfl 4 rfl ?_
        obtain ⟨x76, e76, h⟩ := ob h
        refine V_getI (ci := 9) (k := 19) d_Model_takeEnd_76 e76 rfl (by decide) in_Model k901 ?_
        refine V_i2l d_Model_takeEnd_79 ?_
        refine V_lload (i := 11) d_Model_takeEnd_80 0 rfl ?_
        refine V_lsub d_Model_takeEnd_82 ?_
        refine V_lcmp d_Model_takeEnd_83 ?_
        refine V_if_eq (tgt := 89) d_Model_takeEnd_84 (by decide) (fun c84 => ?_) (fun c84 => ?_)
        · rw [if_pos c84] at h
          refine V_aload_n (i := 0) d_Model_takeEnd_89 rfl 4 rfl ?_
          refine V_lload (i := 5) d_Model_takeEnd_90 3 rfl ?_
          refine V_l2i d_Model_takeEnd_92 ?_
          obtain ⟨w93, e93, h⟩ := ob h
          refine V_putI (ci := 9) (k := 17) t_Model d_Model_takeEnd_93 e93 rfl (by decide) in_Model k899 ty_Model nm_Model rfl (Or.inl rfl) ?_
          refine V_aload_n (i := 0) d_Model_takeEnd_96 rfl 4 rfl ?_
          refine V_lload (i := 11) d_Model_takeEnd_97 0 rfl ?_
          refine V_l2i d_Model_takeEnd_99 ?_
          obtain ⟨w100, e100, h⟩ := ob h
          refine V_putI (ci := 9) (k := 18) t_Model d_Model_takeEnd_100 e100 rfl (by decide) in_Model k900 ty_Model nm_Model rfl (Or.inl rfl) ?_
          refine V_iconst (v := 1) d_Model_takeEnd_103 (by decide) ?_
          obtain rfl := Option.some.inj h
          exact V_zret rfl (Or.inr rfl) (by decide) (by decide) d_Model_takeEnd_104
        · rw [if_neg c84] at h
          refine V_lv [] rfl ?_
          exact b_Model_takeEnd_87_ok G F r67.2 _ h
def f_Model_takeEnd (F : Nat) (v0 : Nat) (v1 : Int32) (v2 : Int32) (v3 : Int32) (v4 : Int32) (w : zW) : Option (Int32 × zW) := b_Model_takeEnd_0 F v0 v1 v2 v3 v4 w
theorem c_Model_takeEnd (G : zG) (F : Nat) (v0 : Nat) (v1 : Int32) (v2 : Int32) (v3 : Int32) (v4 : Int32) (w : zW) (r : (Int32 × zW)) (h : f_Model_takeEnd F v0 v1 v2 v3 v4 w = some r) : zCT G m_Model_takeEnd [.ref (z0 G + v0), .int v1, .int v2, .int v3, .int v4] w (oI r.1) r.2 := zCT.ofV (by decide +kernel) (Or.inl ⟨kc_Model_takeEnd, rfl⟩) (Nat.le_of_ble_eq_true rfl) (b_Model_takeEnd_0_ok G F v0 v1 v2 v3 v4 w r h)

/-! ZipArrayModel.readEnd()Z -/
def m_Model_readEnd : zM := (⟨R_Model, "readEnd", "()Z"⟩, prog_11_method_44_code, 3, (some .boolean), [], { frames := 2, cells := 0, slots := 0, locals := 57 })
theorem k898 : Cond.fieldLink R_Model 211 (T_Model 16).1 (T_Model 16).2.1 (T_Model 16).2.2.1 ∈ zTb := tb_at 898 (by decide +kernel) rfl
theorem k1151 : Cond.methodLink R_Model 214 (mY m_Model_isWide) ∈ zTb := tb_at 1151 (by decide +kernel) rfl
theorem k1153 : Cond.instanceMethod (mY m_Model_isWide) ∈ zTb := tb_at 1153 (by decide +kernel) rfl
theorem k1156 : Cond.methodLink R_Model 218 (mY m_Model_takeEnd) ∈ zTb := tb_at 1156 (by decide +kernel) rfl
theorem k1158 : Cond.instanceMethod (mY m_Model_takeEnd) ∈ zTb := tb_at 1158 (by decide +kernel) rfl
theorem k1160 : Cond.constantLong R_Model 222 117853008 ∈ zTb := tb_at 1160 (by decide +kernel) rfl
theorem k1161 : Cond.constantLong R_Model 224 101075792 ∈ zTb := tb_at 1161 (by decide +kernel) rfl
theorem k1162 : Cond.constantLong R_Model 226 44 ∈ zTb := tb_at 1162 (by decide +kernel) rfl
theorem kc_Model_readEnd : Cond.code (mY m_Model_readEnd) (mC m_Model_readEnd) (mL m_Model_readEnd) (mT m_Model_readEnd) ∈ zTb := tb_at 1150 (by decide +kernel) rfl
theorem y_Model_readEnd : (mY m_Model_readEnd).cls ≠ "java/lang/invoke/MethodHandle" ∧ (mY m_Model_readEnd).cls ≠ "java/lang/invoke/VarHandle" ∧ (parseMethodDescriptor (mY m_Model_readEnd).desc).map (fun d => d.parameters.length) = some 0 := by decide +kernel
theorem sel_Model_readEnd : Cond.selects R_Model (mY m_Model_readEnd) (mY m_Model_readEnd) ∈ zTb := sel_at (y := mY m_Model_readEnd) (n := 33) 63 (by decide +kernel)
theorem d_Model_readEnd_0 : decode (mC m_Model_readEnd) 0 = .ok (.aload_n 0, 1) := by decide +kernel
theorem d_Model_readEnd_1 : decode (mC m_Model_readEnd) 1 = .ok (.aload_n 0, 1) := by decide +kernel
theorem d_Model_readEnd_2 : decode (mC m_Model_readEnd) 2 = .ok (.getfield 211, 3) := by decide +kernel
theorem d_Model_readEnd_5 : decode (mC m_Model_readEnd) 5 = .ok (.bipush 16, 2) := by decide +kernel
theorem d_Model_readEnd_7 : decode (mC m_Model_readEnd) 7 = .ok (.iadd, 1) := by decide +kernel
theorem d_Model_readEnd_8 : decode (mC m_Model_readEnd) 8 = .ok (.invokevirtual 214, 3) := by decide +kernel
theorem d_Model_readEnd_11 : decode (mC m_Model_readEnd) 11 = .ok (.ifCond .ne 32, 3) := by decide +kernel
theorem d_Model_readEnd_14 : decode (mC m_Model_readEnd) 14 = .ok (.aload_n 0, 1) := by decide +kernel
theorem d_Model_readEnd_15 : decode (mC m_Model_readEnd) 15 = .ok (.aload_n 0, 1) := by decide +kernel
theorem d_Model_readEnd_16 : decode (mC m_Model_readEnd) 16 = .ok (.getfield 211, 3) := by decide +kernel
theorem d_Model_readEnd_19 : decode (mC m_Model_readEnd) 19 = .ok (.putfield 202, 3) := by decide +kernel
theorem d_Model_readEnd_22 : decode (mC m_Model_readEnd) 22 = .ok (.aload_n 0, 1) := by decide +kernel
theorem d_Model_readEnd_23 : decode (mC m_Model_readEnd) 23 = .ok (.aload_n 0, 1) := by decide +kernel
theorem d_Model_readEnd_24 : decode (mC m_Model_readEnd) 24 = .ok (.getfield 211, 3) := by decide +kernel
theorem d_Model_readEnd_27 : decode (mC m_Model_readEnd) 27 = .ok (.bipush 8, 2) := by decide +kernel
theorem d_Model_readEnd_29 : decode (mC m_Model_readEnd) 29 = .ok (.iadd, 1) := by decide +kernel
theorem d_Model_readEnd_30 : decode (mC m_Model_readEnd) 30 = .ok (.aload_n 0, 1) := by decide +kernel
theorem d_Model_readEnd_31 : decode (mC m_Model_readEnd) 31 = .ok (.getfield 211, 3) := by decide +kernel
theorem d_Model_readEnd_34 : decode (mC m_Model_readEnd) 34 = .ok (.bipush 12, 2) := by decide +kernel
theorem d_Model_readEnd_36 : decode (mC m_Model_readEnd) 36 = .ok (.iadd, 1) := by decide +kernel
theorem d_Model_readEnd_37 : decode (mC m_Model_readEnd) 37 = .ok (.iconst 2, 1) := by decide +kernel
theorem d_Model_readEnd_38 : decode (mC m_Model_readEnd) 38 = .ok (.iconst 4, 1) := by decide +kernel
theorem d_Model_readEnd_39 : decode (mC m_Model_readEnd) 39 = .ok (.invokevirtual 218, 3) := by decide +kernel
theorem d_Model_readEnd_42 : decode (mC m_Model_readEnd) 42 = .ok (.ireturn, 1) := by decide +kernel
theorem d_Model_readEnd_43 : decode (mC m_Model_readEnd) 43 = .ok (.aload_n 0, 1) := by decide +kernel
theorem d_Model_readEnd_44 : decode (mC m_Model_readEnd) 44 = .ok (.getfield 211, 3) := by decide +kernel
theorem d_Model_readEnd_47 : decode (mC m_Model_readEnd) 47 = .ok (.bipush 20, 2) := by decide +kernel
theorem d_Model_readEnd_49 : decode (mC m_Model_readEnd) 49 = .ok (.isub, 1) := by decide +kernel
theorem d_Model_readEnd_50 : decode (mC m_Model_readEnd) 50 = .ok (.istore_n 1, 1) := by decide +kernel
theorem d_Model_readEnd_51 : decode (mC m_Model_readEnd) 51 = .ok (.aload_n 0, 1) := by decide +kernel
theorem d_Model_readEnd_52 : decode (mC m_Model_readEnd) 52 = .ok (.getfield 211, 3) := by decide +kernel
theorem d_Model_readEnd_55 : decode (mC m_Model_readEnd) 55 = .ok (.bipush 76, 2) := by decide +kernel
theorem d_Model_readEnd_57 : decode (mC m_Model_readEnd) 57 = .ok (.isub, 1) := by decide +kernel
theorem d_Model_readEnd_58 : decode (mC m_Model_readEnd) 58 = .ok (.istore_n 2, 1) := by decide +kernel
theorem d_Model_readEnd_59 : decode (mC m_Model_readEnd) 59 = .ok (.iload_n 2, 1) := by decide +kernel
theorem d_Model_readEnd_60 : decode (mC m_Model_readEnd) 60 = .ok (.ifCond .lt 61, 3) := by decide +kernel
theorem d_Model_readEnd_63 : decode (mC m_Model_readEnd) 63 = .ok (.aload_n 0, 1) := by decide +kernel
theorem d_Model_readEnd_64 : decode (mC m_Model_readEnd) 64 = .ok (.iload_n 1, 1) := by decide +kernel
theorem d_Model_readEnd_65 : decode (mC m_Model_readEnd) 65 = .ok (.iconst 4, 1) := by decide +kernel
theorem d_Model_readEnd_66 : decode (mC m_Model_readEnd) 66 = .ok (.invokevirtual 188, 3) := by decide +kernel
theorem d_Model_readEnd_69 : decode (mC m_Model_readEnd) 69 = .ok (.ldc2_w 222, 3) := by decide +kernel
theorem d_Model_readEnd_72 : decode (mC m_Model_readEnd) 72 = .ok (.lcmp, 1) := by decide +kernel
theorem d_Model_readEnd_73 : decode (mC m_Model_readEnd) 73 = .ok (.ifCond .ne 48, 3) := by decide +kernel
theorem d_Model_readEnd_76 : decode (mC m_Model_readEnd) 76 = .ok (.aload_n 0, 1) := by decide +kernel
theorem d_Model_readEnd_77 : decode (mC m_Model_readEnd) 77 = .ok (.iload_n 1, 1) := by decide +kernel
theorem d_Model_readEnd_78 : decode (mC m_Model_readEnd) 78 = .ok (.bipush 8, 2) := by decide +kernel
theorem d_Model_readEnd_80 : decode (mC m_Model_readEnd) 80 = .ok (.iadd, 1) := by decide +kernel
theorem d_Model_readEnd_81 : decode (mC m_Model_readEnd) 81 = .ok (.bipush 8, 2) := by decide +kernel
theorem d_Model_readEnd_83 : decode (mC m_Model_readEnd) 83 = .ok (.invokevirtual 188, 3) := by decide +kernel
theorem d_Model_readEnd_86 : decode (mC m_Model_readEnd) 86 = .ok (.iload_n 2, 1) := by decide +kernel
theorem d_Model_readEnd_87 : decode (mC m_Model_readEnd) 87 = .ok (.i2l, 1) := by decide +kernel
theorem d_Model_readEnd_88 : decode (mC m_Model_readEnd) 88 = .ok (.lcmp, 1) := by decide +kernel
theorem d_Model_readEnd_89 : decode (mC m_Model_readEnd) 89 = .ok (.ifCond .ne 32, 3) := by decide +kernel
theorem d_Model_readEnd_92 : decode (mC m_Model_readEnd) 92 = .ok (.aload_n 0, 1) := by decide +kernel
theorem d_Model_readEnd_93 : decode (mC m_Model_readEnd) 93 = .ok (.iload_n 2, 1) := by decide +kernel
theorem d_Model_readEnd_94 : decode (mC m_Model_readEnd) 94 = .ok (.iconst 4, 1) := by decide +kernel
theorem d_Model_readEnd_95 : decode (mC m_Model_readEnd) 95 = .ok (.invokevirtual 188, 3) := by decide +kernel
theorem d_Model_readEnd_98 : decode (mC m_Model_readEnd) 98 = .ok (.ldc2_w 224, 3) := by decide +kernel
theorem d_Model_readEnd_101 : decode (mC m_Model_readEnd) 101 = .ok (.lcmp, 1) := by decide +kernel
theorem d_Model_readEnd_102 : decode (mC m_Model_readEnd) 102 = .ok (.ifCond .ne 19, 3) := by decide +kernel
theorem d_Model_readEnd_105 : decode (mC m_Model_readEnd) 105 = .ok (.aload_n 0, 1) := by decide +kernel
theorem d_Model_readEnd_106 : decode (mC m_Model_readEnd) 106 = .ok (.iload_n 2, 1) := by decide +kernel
theorem d_Model_readEnd_107 : decode (mC m_Model_readEnd) 107 = .ok (.iconst 4, 1) := by decide +kernel
theorem d_Model_readEnd_108 : decode (mC m_Model_readEnd) 108 = .ok (.iadd, 1) := by decide +kernel
theorem d_Model_readEnd_109 : decode (mC m_Model_readEnd) 109 = .ok (.bipush 8, 2) := by decide +kernel
theorem d_Model_readEnd_111 : decode (mC m_Model_readEnd) 111 = .ok (.invokevirtual 188, 3) := by decide +kernel
theorem d_Model_readEnd_114 : decode (mC m_Model_readEnd) 114 = .ok (.ldc2_w 226, 3) := by decide +kernel
theorem d_Model_readEnd_117 : decode (mC m_Model_readEnd) 117 = .ok (.lcmp, 1) := by decide +kernel
theorem d_Model_readEnd_118 : decode (mC m_Model_readEnd) 118 = .ok (.ifCond .eq 5, 3) := by decide +kernel
theorem d_Model_readEnd_121 : decode (mC m_Model_readEnd) 121 = .ok (.iconst 0, 1) := by decide +kernel
theorem d_Model_readEnd_122 : decode (mC m_Model_readEnd) 122 = .ok (.ireturn, 1) := by decide +kernel
theorem d_Model_readEnd_123 : decode (mC m_Model_readEnd) 123 = .ok (.aload_n 0, 1) := by decide +kernel
theorem d_Model_readEnd_124 : decode (mC m_Model_readEnd) 124 = .ok (.iload_n 2, 1) := by decide +kernel
theorem d_Model_readEnd_125 : decode (mC m_Model_readEnd) 125 = .ok (.putfield 202, 3) := by decide +kernel
theorem d_Model_readEnd_128 : decode (mC m_Model_readEnd) 128 = .ok (.aload_n 0, 1) := by decide +kernel
theorem d_Model_readEnd_129 : decode (mC m_Model_readEnd) 129 = .ok (.iload_n 2, 1) := by decide +kernel
theorem d_Model_readEnd_130 : decode (mC m_Model_readEnd) 130 = .ok (.bipush 24, 2) := by decide +kernel
theorem d_Model_readEnd_132 : decode (mC m_Model_readEnd) 132 = .ok (.iadd, 1) := by decide +kernel
theorem d_Model_readEnd_133 : decode (mC m_Model_readEnd) 133 = .ok (.iload_n 2, 1) := by decide +kernel
theorem d_Model_readEnd_134 : decode (mC m_Model_readEnd) 134 = .ok (.bipush 40, 2) := by decide +kernel
theorem d_Model_readEnd_136 : decode (mC m_Model_readEnd) 136 = .ok (.iadd, 1) := by decide +kernel
theorem d_Model_readEnd_137 : decode (mC m_Model_readEnd) 137 = .ok (.bipush 8, 2) := by decide +kernel
theorem d_Model_readEnd_139 : decode (mC m_Model_readEnd) 139 = .ok (.bipush 8, 2) := by decide +kernel
theorem d_Model_readEnd_141 : decode (mC m_Model_readEnd) 141 = .ok (.invokevirtual 218, 3) := by decide +kernel
theorem d_Model_readEnd_144 : decode (mC m_Model_readEnd) 144 = .ok (.ireturn, 1) := by decide +kernel
def b_Model_readEnd_121 (F : Nat) (w : zW) : Option (Int32 × zW) := some ((0 : Int32), w)
set_option maxRecDepth 100000 in
set_option maxHeartbeats 4000000 in
theorem b_Model_readEnd_121_ok (G : zG) (F : Nat) (w : zW) (r : (Int32 × zW)) (h : b_Model_readEnd_121 F w = some r) : zV G m_Model_readEnd 121 [] [] w 0 0 (oI r.1) r.2 := by
  unfold b_Model_readEnd_121 at h
  refine V_iconst (v := 0) d_Model_readEnd_121 (by decide) ?_
  obtain rfl := Option.some.inj h
  exact V_zret rfl (Or.inl rfl) (by decide) (by decide) d_Model_readEnd_122
def b_Model_readEnd_0 (F : Nat) (v0 : Nat) (w : zW) : Option (Int32 × zW) := (getI w v0 9 16).bind fun x2 => (zobj w v0 9).bind fun _ => (f_Model_isWide F v0 (x2 + (16 : Int32)) w).bind fun r8 => if r8.1 = 0 then ((getI r8.2 v0 9 16).bind fun x16 => (putI r8.2 v0 9 19 x16).bind fun w19 => (getI w19 v0 9 16).bind fun x24 => (getI w19 v0 9 16).bind fun x31 => (zobj w19 v0 9).bind fun _ => (f_Model_takeEnd F v0 (x24 + (8 : Int32)) (x31 + (12 : Int32)) (2 : Int32) (4 : Int32) w19).bind fun r39 => if r39.1 = 0 ∨ r39.1 = 1 then some (r39.1, r39.2) else none) else ((getI r8.2 v0 9 16).bind fun x44 => (getI r8.2 v0 9 16).bind fun x52 => if (x52 - (76 : Int32)) < 0 then (b_Model_readEnd_121 F r8.2) else ((zobj r8.2 v0 9).bind fun _ => (f_Model_number F v0 (x44 - (20 : Int32)) (4 : Int32) r8.2).bind fun r66 => if (lg_cmp r66.1 (117853008 : Int64)) = 0 then ((zobj r66.2 v0 9).bind fun _ => (f_Model_number F v0 ((x44 - (20 : Int32)) + (8 : Int32)) (8 : Int32) r66.2).bind fun r83 => if (lg_cmp r83.1 (x52 - (76 : Int32)).toInt64) = 0 then ((zobj r83.2 v0 9).bind fun _ => (f_Model_number F v0 (x52 - (76 : Int32)) (4 : Int32) r83.2).bind fun r95 => if (lg_cmp r95.1 (101075792 : Int64)) = 0 then ((zobj r95.2 v0 9).bind fun _ => (f_Model_number F v0 ((x52 - (76 : Int32)) + (4 : Int32)) (8 : Int32) r95.2).bind fun r111 => if (lg_cmp r111.1 (44 : Int64)) = 0 then ((putI r111.2 v0 9 19 (x52 - (76 : Int32))).bind fun w125 => (zobj w125 v0 9).bind fun _ => (f_Model_takeEnd F v0 ((x52 - (76 : Int32)) + (24 : Int32)) ((x52 - (76 : Int32)) + (40 : Int32)) (8 : Int32) (8 : Int32) w125).bind fun r141 => if r141.1 = 0 ∨ r141.1 = 1 then some (r141.1, r141.2) else none) else (b_Model_readEnd_121 F r111.2)) else (b_Model_readEnd_121 F r95.2)) else (b_Model_readEnd_121 F r83.2)) else (b_Model_readEnd_121 F r66.2)))
set_option maxRecDepth 100000 in
set_option maxHeartbeats 4000000 in
theorem b_Model_readEnd_0_ok (G : zG) (F : Nat) (v0 : Nat) (w : zW) (r : (Int32 × zW)) (h : b_Model_readEnd_0 F v0 w = some r) : zV G m_Model_readEnd 0 [(0, .ref (z0 G + v0))] [] w 0 0 (oI r.1) r.2 := by
  unfold b_Model_readEnd_0 at h
  refine V_aload_n (i := 0) d_Model_readEnd_0 rfl 0 rfl ?_
  refine V_aload_n (i := 0) d_Model_readEnd_1 rfl 0 rfl ?_
  obtain ⟨x2, e2, h⟩ := ob h
  refine V_getI (ci := 9) (k := 16) d_Model_readEnd_2 e2 rfl (by decide) in_Model k898 ?_
  refine V_bipush (v := 16) d_Model_readEnd_5 (by decide) ?_
  refine V_iadd d_Model_readEnd_7 ?_
  obtain ⟨_, eo8, h⟩ := ob h
  obtain ⟨r8, e8, h⟩ := ob h
  refine V_call (v := some (.int r8.1)) (st := []) (inv_V (N := m_Model_isWide) (As := [.int (x2 + (16 : Int32))]) (ci := 9) d_Model_readEnd_8 eo8 rfl k1151 k1153 sel_Model_isWide kc_Model_isWide y_Model_isWide) ⟨Or.inl kc_Model_isWide, k10, by decide, by decide⟩ (Nat.le_of_ble_eq_true rfl) (by decide) (by decide) (c_Model_isWide G F v0 (x2 + (16 : Int32)) w r8 e8) ?_
  refine V_if_ne (tgt := 43) d_Model_readEnd_11 (by decide) (fun c11 => ?_) (fun c11 => ?_)
  · rw [if_neg c11] at h
    refine V_aload_n (i := 0) d_Model_readEnd_43 rfl 0 rfl ?_
    obtain ⟨x44, e44, h⟩ := ob h
    refine V_getI (ci := 9) (k := 16) d_Model_readEnd_44 e44 rfl (by decide) in_Model k898 ?_
    refine V_bipush (v := 20) d_Model_readEnd_47 (by decide) ?_
    refine V_isub d_Model_readEnd_49 ?_
    refine V_istore_n (i := 1) d_Model_readEnd_50 rfl (by decide) rfl ?_
    refine V_aload_n (i := 0) d_Model_readEnd_51 rfl 1 rfl ?_
    obtain ⟨x52, e52, h⟩ := ob h
    refine V_getI (ci := 9) (k := 16) d_Model_readEnd_52 e52 rfl (by decide) in_Model k898 ?_
    refine V_bipush (v := 76) d_Model_readEnd_55 (by decide) ?_
    refine V_isub d_Model_readEnd_57 ?_
    refine V_istore_n (i := 2) d_Model_readEnd_58 rfl (by decide) rfl ?_
    refine V_iload_n (i := 2) d_Model_readEnd_59 rfl 0 rfl ?_
    refine V_if_lt (tgt := 121) d_Model_readEnd_60 (by decide) (fun c60 => ?_) (fun c60 => ?_)
    · rw [if_pos c60] at h
      refine V_lv [] rfl ?_
      exact b_Model_readEnd_121_ok G F r8.2 _ h
    · rw [if_neg c60] at h
      refine V_aload_n (i := 0) d_Model_readEnd_63 rfl 2 rfl ?_
      refine V_iload_n (i := 1) d_Model_readEnd_64 rfl 1 rfl ?_
      refine V_iconst (v := 4) d_Model_readEnd_65 (by decide) ?_
      obtain ⟨_, eo66, h⟩ := ob h
      obtain ⟨r66, e66, h⟩ := ob h
      refine V_call (v := some (.long r66.1)) (st := []) (inv_V (N := m_Model_number) (As := [.int (x44 - (20 : Int32)), .int (4 : Int32)]) (ci := 9) d_Model_readEnd_66 eo66 rfl k1138 k1140 sel_Model_number kc_Model_number y_Model_number) ⟨Or.inl kc_Model_number, k10, by decide, by decide⟩ (Nat.le_of_ble_eq_true rfl) (by decide) (by decide) (c_Model_number G F v0 (x44 - (20 : Int32)) (4 : Int32) r8.2 r66 e66) ?_
      refine V_ldc2 (v := 117853008) d_Model_readEnd_69 k1160 ?_
      refine V_lcmp d_Model_readEnd_72 ?_
      refine V_if_ne (tgt := 121) d_Model_readEnd_73 (by decide) (fun c73 => ?_) (fun c73 => ?_)
      · rw [if_neg c73] at h
        refine V_lv [] rfl ?_
        exact b_Model_readEnd_121_ok G F r66.2 _ h
      · rw [if_pos c73] at h
        refine V_aload_n (i := 0) d_Model_readEnd_76 rfl 2 rfl ?_
        refine V_iload_n (i := 1) d_Model_readEnd_77 rfl 1 rfl ?_
        refine V_bipush (v := 8) d_Model_readEnd_78 (by decide) ?_
        refine V_iadd d_Model_readEnd_80 ?_
        refine V_bipush (v := 8) d_Model_readEnd_81 (by decide) ?_
        obtain ⟨_, eo83, h⟩ := ob h
        obtain ⟨r83, e83, h⟩ := ob h
        refine V_call (v := some (.long r83.1)) (st := []) (inv_V (N := m_Model_number) (As := [.int ((x44 - (20 : Int32)) + (8 : Int32)), .int (8 : Int32)]) (ci := 9) d_Model_readEnd_83 eo83 rfl k1138 k1140 sel_Model_number kc_Model_number y_Model_number) ⟨Or.inl kc_Model_number, k10, by decide, by decide⟩ (Nat.le_of_ble_eq_true rfl) (by decide) (by decide) (c_Model_number G F v0 ((x44 - (20 : Int32)) + (8 : Int32)) (8 : Int32) r66.2 r83 e83) ?_
        refine V_iload_n (i := 2) d_Model_readEnd_86 rfl 0 rfl ?_
        refine V_i2l d_Model_readEnd_87 ?_
        refine V_lcmp d_Model_readEnd_88 ?_
        refine V_if_ne (tgt := 121) d_Model_readEnd_89 (by decide) (fun c89 => ?_) (fun c89 => ?_)
        · rw [if_neg c89] at h
          refine V_lv [] rfl ?_
          exact b_Model_readEnd_121_ok G F r83.2 _ h
        · rw [if_pos c89] at h
          refine V_aload_n (i := 0) d_Model_readEnd_92 rfl 2 rfl ?_
          refine V_iload_n (i := 2) d_Model_readEnd_93 rfl 0 rfl ?_
          refine V_iconst (v := 4) d_Model_readEnd_94 (by decide) ?_
          obtain ⟨_, eo95, h⟩ := ob h
          obtain ⟨r95, e95, h⟩ := ob h
          refine V_call (v := some (.long r95.1)) (st := []) (inv_V (N := m_Model_number) (As := [.int (x52 - (76 : Int32)), .int (4 : Int32)]) (ci := 9) d_Model_readEnd_95 eo95 rfl k1138 k1140 sel_Model_number kc_Model_number y_Model_number) ⟨Or.inl kc_Model_number, k10, by decide, by decide⟩ (Nat.le_of_ble_eq_true rfl) (by decide) (by decide) (c_Model_number G F v0 (x52 - (76 : Int32)) (4 : Int32) r83.2 r95 e95) ?_
          refine V_ldc2 (v := 101075792) d_Model_readEnd_98 k1161 ?_
          refine V_lcmp d_Model_readEnd_101 ?_
          refine V_if_ne (tgt := 121) d_Model_readEnd_102 (by decide) (fun c102 => ?_) (fun c102 => ?_)
          · rw [if_neg c102] at h
            refine V_lv [] rfl ?_
            exact b_Model_readEnd_121_ok G F r95.2 _ h
          · rw [if_pos c102] at h
            refine V_aload_n (i := 0) d_Model_readEnd_105 rfl 2 rfl ?_
            refine V_iload_n (i := 2) d_Model_readEnd_106 rfl 0 rfl ?_
            refine V_iconst (v := 4) d_Model_readEnd_107 (by decide) ?_
            refine V_iadd d_Model_readEnd_108 ?_
            refine V_bipush (v := 8) d_Model_readEnd_109 (by decide) ?_
            obtain ⟨_, eo111, h⟩ := ob h
            obtain ⟨r111, e111, h⟩ := ob h
            refine V_call (v := some (.long r111.1)) (st := []) (inv_V (N := m_Model_number) (As := [.int ((x52 - (76 : Int32)) + (4 : Int32)), .int (8 : Int32)]) (ci := 9) d_Model_readEnd_111 eo111 rfl k1138 k1140 sel_Model_number kc_Model_number y_Model_number) ⟨Or.inl kc_Model_number, k10, by decide, by decide⟩ (Nat.le_of_ble_eq_true rfl) (by decide) (by decide) (c_Model_number G F v0 ((x52 - (76 : Int32)) + (4 : Int32)) (8 : Int32) r95.2 r111 e111) ?_
            refine V_ldc2 (v := 44) d_Model_readEnd_114 k1162 ?_
            refine V_lcmp d_Model_readEnd_117 ?_
            refine V_if_eq (tgt := 123) d_Model_readEnd_118 (by decide) (fun c118 => ?_) (fun c118 => ?_)
            · rw [if_pos c118] at h
              refine V_aload_n (i := 0) d_Model_readEnd_123 rfl 2 rfl ?_
              refine V_iload_n (i := 2) d_Model_readEnd_124 rfl 0 rfl ?_
              obtain ⟨w125, e125, h⟩ := ob h
              refine V_putI (ci := 9) (k := 19) t_Model d_Model_readEnd_125 e125 rfl (by decide) in_Model k901 ty_Model nm_Model rfl (Or.inl rfl) ?_
              refine V_aload_n (i := 0) d_Model_readEnd_128 rfl 2 rfl ?_
              refine V_iload_n (i := 2) d_Model_readEnd_129 rfl 0 rfl ?_
              refine V_bipush (v := 24) d_Model_readEnd_130 (by decide) ?_
              refine V_iadd d_Model_readEnd_132 ?_
              refine V_iload_n (i := 2) d_Model_readEnd_133 rfl 0 rfl ?_
              refine V_bipush (v := 40) d_Model_readEnd_134 (by decide) ?_
              refine V_iadd d_Model_readEnd_136 ?_
              refine V_bipush (v := 8) d_Model_readEnd_137 (by decide) ?_
              refine V_bipush (v := 8) d_Model_readEnd_139 (by decide) ?_
              obtain ⟨_, eo141, h⟩ := ob h
              obtain ⟨r141, e141, h⟩ := ob h
              refine V_call (v := some (.int r141.1)) (st := []) (inv_V (N := m_Model_takeEnd) (As := [.int ((x52 - (76 : Int32)) + (24 : Int32)), .int ((x52 - (76 : Int32)) + (40 : Int32)), .int (8 : Int32), .int (8 : Int32)]) (ci := 9) d_Model_readEnd_141 eo141 rfl k1156 k1158 sel_Model_takeEnd kc_Model_takeEnd y_Model_takeEnd) ⟨Or.inl kc_Model_takeEnd, k10, by decide, by decide⟩ (Nat.le_of_ble_eq_true rfl) (by decide) (by decide) (c_Model_takeEnd G F v0 ((x52 - (76 : Int32)) + (24 : Int32)) ((x52 - (76 : Int32)) + (40 : Int32)) (8 : Int32) (8 : Int32) w125 r141 e141) ?_
              by_cases g144 : ¬ (r141.1 = 0 ∨ r141.1 = 1)
              · exact absurd h (by rw [if_neg g144]; exact nofun)
              have g144 := Classical.not_not.mp g144
              rw [if_pos g144] at h
              obtain rfl := Option.some.inj h
              exact V_zret rfl g144 (by decide) (by decide) d_Model_readEnd_144
            · rw [if_neg c118] at h
              refine V_lv [] rfl ?_
              exact b_Model_readEnd_121_ok G F r111.2 _ h
  · rw [if_pos c11] at h
    refine V_aload_n (i := 0) d_Model_readEnd_14 rfl 0 rfl ?_
    refine V_aload_n (i := 0) d_Model_readEnd_15 rfl 0 rfl ?_
    obtain ⟨x16, e16, h⟩ := ob h
    refine V_getI (ci := 9) (k := 16) d_Model_readEnd_16 e16 rfl (by decide) in_Model k898 ?_
    obtain ⟨w19, e19, h⟩ := ob h
    refine V_putI (ci := 9) (k := 19) t_Model d_Model_readEnd_19 e19 rfl (by decide) in_Model k901 ty_Model nm_Model rfl (Or.inl rfl) ?_
    refine V_aload_n (i := 0) d_Model_readEnd_22 rfl 0 rfl ?_
    refine V_aload_n (i := 0) d_Model_readEnd_23 rfl 0 rfl ?_
    obtain ⟨x24, e24, h⟩ := ob h
    refine V_getI (ci := 9) (k := 16) d_Model_readEnd_24 e24 rfl (by decide) in_Model k898 ?_
    refine V_bipush (v := 8) d_Model_readEnd_27 (by decide) ?_
    refine V_iadd d_Model_readEnd_29 ?_
    refine V_aload_n (i := 0) d_Model_readEnd_30 rfl 0 rfl ?_
    obtain ⟨x31, e31, h⟩ := ob h
    refine V_getI (ci := 9) (k := 16) d_Model_readEnd_31 e31 rfl (by decide) in_Model k898 ?_
    refine V_bipush (v := 12) d_Model_readEnd_34 (by decide) ?_
    refine V_iadd d_Model_readEnd_36 ?_
    refine V_iconst (v := 2) d_Model_readEnd_37 (by decide) ?_
    refine V_iconst (v := 4) d_Model_readEnd_38 (by decide) ?_
    obtain ⟨_, eo39, h⟩ := ob h
    obtain ⟨r39, e39, h⟩ := ob h
    refine V_call (v := some (.int r39.1)) (st := []) (inv_V (N := m_Model_takeEnd) (As := [.int (x24 + (8 : Int32)), .int (x31 + (12 : Int32)), .int (2 : Int32), .int (4 : Int32)]) (ci := 9) d_Model_readEnd_39 eo39 rfl k1156 k1158 sel_Model_takeEnd kc_Model_takeEnd y_Model_takeEnd) ⟨Or.inl kc_Model_takeEnd, k10, by decide, by decide⟩ (Nat.le_of_ble_eq_true rfl) (by decide) (by decide) (c_Model_takeEnd G F v0 (x24 + (8 : Int32)) (x31 + (12 : Int32)) (2 : Int32) (4 : Int32) w19 r39 e39) ?_
    by_cases g42 : ¬ (r39.1 = 0 ∨ r39.1 = 1)
    · exact absurd h (by rw [if_neg g42]; exact nofun)
    have g42 := Classical.not_not.mp g42
    rw [if_pos g42] at h
    obtain rfl := Option.some.inj h
    exact V_zret rfl g42 (by decide) (by decide) d_Model_readEnd_42
def f_Model_readEnd (F : Nat) (v0 : Nat) (w : zW) : Option (Int32 × zW) := b_Model_readEnd_0 F v0 w
theorem c_Model_readEnd (G : zG) (F : Nat) (v0 : Nat) (w : zW) (r : (Int32 × zW)) (h : f_Model_readEnd F v0 w = some r) : zCT G m_Model_readEnd [.ref (z0 G + v0)] w (oI r.1) r.2 := zCT.ofV (by decide +kernel) (Or.inl ⟨kc_Model_readEnd, rfl⟩) (Nat.le_of_ble_eq_true rfl) (b_Model_readEnd_0_ok G F v0 w r h)
