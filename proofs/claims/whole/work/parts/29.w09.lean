/-! ZipArrayModel.fixCodes()V -/
def m_Model_fixCodes : zM := (⟨R_Model, "fixCodes", "()V"⟩, prog_11_method_27_code, 3, none, [], { frames := 1, cells := 0, slots := 0, locals := 27 })
theorem k893 : Cond.fieldLink R_Model 149 (T_Model 11).1 (T_Model 11).2.1 (T_Model 11).2.2.1 ∈ zTb := tb_at 893 (by decide +kernel) rfl
theorem k1036 : Cond.methodLink R_Model 145 (mY m_Model_makeWords) ∈ zTb := tb_at 1036 (by decide +kernel) rfl
theorem k1038 : Cond.instanceMethod (mY m_Model_makeWords) ∈ zTb := tb_at 1038 (by decide +kernel) rfl
theorem kc_Model_fixCodes : Cond.code (mY m_Model_fixCodes) (mC m_Model_fixCodes) (mL m_Model_fixCodes) (mT m_Model_fixCodes) ∈ zTb := tb_at 1035 (by decide +kernel) rfl
theorem y_Model_fixCodes : (mY m_Model_fixCodes).cls ≠ "java/lang/invoke/MethodHandle" ∧ (mY m_Model_fixCodes).cls ≠ "java/lang/invoke/VarHandle" ∧ (parseMethodDescriptor (mY m_Model_fixCodes).desc).map (fun d => d.parameters.length) = some 0 := by decide +kernel
theorem sel_Model_fixCodes : Cond.selects R_Model (mY m_Model_fixCodes) (mY m_Model_fixCodes) ∈ zTb := sel_at (y := mY m_Model_fixCodes) (n := 33) 40 (by decide +kernel)
theorem d_Model_fixCodes_0 : decode (mC m_Model_fixCodes) 0 = .ok (.iconst 0, 1) := by decide +kernel
theorem d_Model_fixCodes_1 : decode (mC m_Model_fixCodes) 1 = .ok (.istore_n 1, 1) := by decide +kernel
theorem d_Model_fixCodes_2 : decode (mC m_Model_fixCodes) 2 = .ok (.iload_n 1, 1) := by decide +kernel
theorem d_Model_fixCodes_3 : decode (mC m_Model_fixCodes) 3 = .ok (.sipush 288, 3) := by decide +kernel
theorem d_Model_fixCodes_6 : decode (mC m_Model_fixCodes) 6 = .ok (.if_icmp .ge 53, 3) := by decide +kernel
theorem d_Model_fixCodes_9 : decode (mC m_Model_fixCodes) 9 = .ok (.aload_n 0, 1) := by decide +kernel
theorem d_Model_fixCodes_10 : decode (mC m_Model_fixCodes) 10 = .ok (.getfield 22, 3) := by decide +kernel
theorem d_Model_fixCodes_13 : decode (mC m_Model_fixCodes) 13 = .ok (.iload_n 1, 1) := by decide +kernel
theorem d_Model_fixCodes_14 : decode (mC m_Model_fixCodes) 14 = .ok (.iload_n 1, 1) := by decide +kernel
theorem d_Model_fixCodes_15 : decode (mC m_Model_fixCodes) 15 = .ok (.sipush 144, 3) := by decide +kernel
theorem d_Model_fixCodes_18 : decode (mC m_Model_fixCodes) 18 = .ok (.if_icmp .ge 8, 3) := by decide +kernel
theorem d_Model_fixCodes_21 : decode (mC m_Model_fixCodes) 21 = .ok (.bipush 8, 2) := by decide +kernel
theorem d_Model_fixCodes_23 : decode (mC m_Model_fixCodes) 23 = .ok (.goto 29, 3) := by decide +kernel
theorem d_Model_fixCodes_26 : decode (mC m_Model_fixCodes) 26 = .ok (.iload_n 1, 1) := by decide +kernel
theorem d_Model_fixCodes_27 : decode (mC m_Model_fixCodes) 27 = .ok (.sipush 256, 3) := by decide +kernel
theorem d_Model_fixCodes_30 : decode (mC m_Model_fixCodes) 30 = .ok (.if_icmp .ge 8, 3) := by decide +kernel
theorem d_Model_fixCodes_33 : decode (mC m_Model_fixCodes) 33 = .ok (.bipush 9, 2) := by decide +kernel
theorem d_Model_fixCodes_35 : decode (mC m_Model_fixCodes) 35 = .ok (.goto 17, 3) := by decide +kernel
theorem d_Model_fixCodes_38 : decode (mC m_Model_fixCodes) 38 = .ok (.iload_n 1, 1) := by decide +kernel
theorem d_Model_fixCodes_39 : decode (mC m_Model_fixCodes) 39 = .ok (.sipush 280, 3) := by decide +kernel
theorem d_Model_fixCodes_42 : decode (mC m_Model_fixCodes) 42 = .ok (.if_icmp .ge 8, 3) := by decide +kernel
theorem d_Model_fixCodes_45 : decode (mC m_Model_fixCodes) 45 = .ok (.bipush 7, 2) := by decide +kernel
theorem d_Model_fixCodes_47 : decode (mC m_Model_fixCodes) 47 = .ok (.goto 5, 3) := by decide +kernel
theorem d_Model_fixCodes_50 : decode (mC m_Model_fixCodes) 50 = .ok (.bipush 8, 2) := by decide +kernel
theorem d_Model_fixCodes_52 : decode (mC m_Model_fixCodes) 52 = .ok (.iastore, 1) := by decide +kernel
theorem d_Model_fixCodes_53 : decode (mC m_Model_fixCodes) 53 = .ok (.iinc 1 1, 3) := by decide +kernel
theorem d_Model_fixCodes_56 : decode (mC m_Model_fixCodes) 56 = .ok (.goto (-54), 3) := by decide +kernel
theorem d_Model_fixCodes_59 : decode (mC m_Model_fixCodes) 59 = .ok (.sipush 288, 3) := by decide +kernel
theorem d_Model_fixCodes_62 : decode (mC m_Model_fixCodes) 62 = .ok (.istore_n 1, 1) := by decide +kernel
theorem d_Model_fixCodes_63 : decode (mC m_Model_fixCodes) 63 = .ok (.iload_n 1, 1) := by decide +kernel
theorem d_Model_fixCodes_64 : decode (mC m_Model_fixCodes) 64 = .ok (.sipush 320, 3) := by decide +kernel
theorem d_Model_fixCodes_67 : decode (mC m_Model_fixCodes) 67 = .ok (.if_icmp .ge 16, 3) := by decide +kernel
theorem d_Model_fixCodes_70 : decode (mC m_Model_fixCodes) 70 = .ok (.aload_n 0, 1) := by decide +kernel
theorem d_Model_fixCodes_71 : decode (mC m_Model_fixCodes) 71 = .ok (.getfield 22, 3) := by decide +kernel
theorem d_Model_fixCodes_74 : decode (mC m_Model_fixCodes) 74 = .ok (.iload_n 1, 1) := by decide +kernel
theorem d_Model_fixCodes_75 : decode (mC m_Model_fixCodes) 75 = .ok (.iconst 5, 1) := by decide +kernel
theorem d_Model_fixCodes_76 : decode (mC m_Model_fixCodes) 76 = .ok (.iastore, 1) := by decide +kernel
theorem d_Model_fixCodes_77 : decode (mC m_Model_fixCodes) 77 = .ok (.iinc 1 1, 3) := by decide +kernel
theorem d_Model_fixCodes_80 : decode (mC m_Model_fixCodes) 80 = .ok (.goto (-17), 3) := by decide +kernel
theorem d_Model_fixCodes_83 : decode (mC m_Model_fixCodes) 83 = .ok (.aload_n 0, 1) := by decide +kernel
theorem d_Model_fixCodes_84 : decode (mC m_Model_fixCodes) 84 = .ok (.iconst 0, 1) := by decide +kernel
theorem d_Model_fixCodes_85 : decode (mC m_Model_fixCodes) 85 = .ok (.sipush 288, 3) := by decide +kernel
theorem d_Model_fixCodes_88 : decode (mC m_Model_fixCodes) 88 = .ok (.invokevirtual 145, 3) := by decide +kernel
theorem d_Model_fixCodes_91 : decode (mC m_Model_fixCodes) 91 = .ok (.istore_n 1, 1) := by decide +kernel
theorem d_Model_fixCodes_92 : decode (mC m_Model_fixCodes) 92 = .ok (.aload_n 0, 1) := by decide +kernel
theorem d_Model_fixCodes_93 : decode (mC m_Model_fixCodes) 93 = .ok (.sipush 288, 3) := by decide +kernel
theorem d_Model_fixCodes_96 : decode (mC m_Model_fixCodes) 96 = .ok (.bipush 32, 2) := by decide +kernel
theorem d_Model_fixCodes_98 : decode (mC m_Model_fixCodes) 98 = .ok (.invokevirtual 145, 3) := by decide +kernel
theorem d_Model_fixCodes_101 : decode (mC m_Model_fixCodes) 101 = .ok (.istore_n 2, 1) := by decide +kernel
theorem d_Model_fixCodes_102 : decode (mC m_Model_fixCodes) 102 = .ok (.aload_n 0, 1) := by decide +kernel
theorem d_Model_fixCodes_103 : decode (mC m_Model_fixCodes) 103 = .ok (.iload_n 1, 1) := by decide +kernel
theorem d_Model_fixCodes_104 : decode (mC m_Model_fixCodes) 104 = .ok (.ifCond .eq 7, 3) := by decide +kernel
theorem d_Model_fixCodes_107 : decode (mC m_Model_fixCodes) 107 = .ok (.iload_n 2, 1) := by decide +kernel
theorem d_Model_fixCodes_108 : decode (mC m_Model_fixCodes) 108 = .ok (.ifCond .ne 7, 3) := by decide +kernel
theorem d_Model_fixCodes_111 : decode (mC m_Model_fixCodes) 111 = .ok (.iconst 1, 1) := by decide +kernel
theorem d_Model_fixCodes_112 : decode (mC m_Model_fixCodes) 112 = .ok (.goto 4, 3) := by decide +kernel
theorem d_Model_fixCodes_115 : decode (mC m_Model_fixCodes) 115 = .ok (.iconst 0, 1) := by decide +kernel
theorem d_Model_fixCodes_116 : decode (mC m_Model_fixCodes) 116 = .ok (.putfield 149, 3) := by decide +kernel
theorem d_Model_fixCodes_119 : decode (mC m_Model_fixCodes) 119 = .ok (.return_, 1) := by decide +kernel
def b_Model_fixCodes_116 (F : Nat) (s0 : Nat) (s1 : Int32) (w : zW) : Option (Unit × zW) := if s1 = 0 ∨ s1 = 1 then (putI w s0 9 11 s1).bind fun w116 => some ((), w116) else none
set_option maxRecDepth 100000 in
set_option maxHeartbeats 4000000 in
theorem b_Model_fixCodes_116_ok (G : zG) (F : Nat) (s0 : Nat) (s1 : Int32) (w : zW) (r : (Unit × zW)) (h : b_Model_fixCodes_116 F s0 s1 w = some r) : zV G m_Model_fixCodes 116 [] [.int s1, .ref (z0 G + s0)] w 0 0 (oV r.1) r.2 := by
  unfold b_Model_fixCodes_116 at h
  by_cases g116 : ¬ (s1 = 0 ∨ s1 = 1)
  · exact absurd h (by rw [if_neg g116]; exact nofun)
  have g116 := Classical.not_not.mp g116
  rw [if_pos g116] at h
  obtain ⟨w116, e116, h⟩ := ob h
  refine V_putI (ci := 9) (k := 11) t_Model d_Model_fixCodes_116 e116 rfl (by decide) in_Model k893 ty_Model nm_Model rfl (Or.inr ⟨rfl, g116⟩) ?_
  obtain rfl := Option.some.inj h
  exact V_vret rfl (by decide) (by decide) d_Model_fixCodes_119
def b_Model_fixCodes_111 (F : Nat) (s0 : Nat) (w : zW) : Option (Unit × zW) := b_Model_fixCodes_116 F s0 (1 : Int32) w
set_option maxRecDepth 100000 in
set_option maxHeartbeats 4000000 in
theorem b_Model_fixCodes_111_ok (G : zG) (F : Nat) (s0 : Nat) (w : zW) (r : (Unit × zW)) (h : b_Model_fixCodes_111 F s0 w = some r) : zV G m_Model_fixCodes 111 [] [.ref (z0 G + s0)] w 0 0 (oV r.1) r.2 := by
  unfold b_Model_fixCodes_111 at h
  refine V_iconst (v := 1) d_Model_fixCodes_111 (by decide) ?_
  refine V_goto (tgt := 116) d_Model_fixCodes_112 (by decide) ?_
  exact b_Model_fixCodes_116_ok G F s0 (1 : Int32) w _ h
def b_Model_fixCodes_63 (F : Nat) (K63 : Nat → Int32 → zW → Option (Unit × zW)) (v0 : Nat) (v1 : Int32) (w : zW) : Option (Unit × zW) := if (320 : Int32) ≤ v1 then ((zobj w v0 9).bind fun _ => (f_Model_makeWords F v0 (0 : Int32) (288 : Int32) w).bind fun r88 => (zobj r88.2 v0 9).bind fun _ => (f_Model_makeWords F v0 (288 : Int32) (32 : Int32) r88.2).bind fun r98 => if r88.1 = 0 then (b_Model_fixCodes_111 F v0 r98.2) else (if r98.1 = 0 then (b_Model_fixCodes_111 F v0 r98.2) else (b_Model_fixCodes_116 F v0 (0 : Int32) r98.2))) else ((getR w v0 9 12).bind fun x71 => (aset w x71 v1 (5 : Int32)).bind fun w76 => K63 v0 (v1 + (1 : Int32)) w76)
set_option maxRecDepth 100000 in
set_option maxHeartbeats 4000000 in
theorem b_Model_fixCodes_63_ok (G : zG) (F : Nat) (K63 : Nat → Int32 → zW → Option (Unit × zW)) (hK63 : ∀ (v0 : Nat) (v1 : Int32) (w : zW) (r : (Unit × zW)), K63 v0 v1 w = some r → zV G m_Model_fixCodes 63 [(0, .ref (z0 G + v0)), (1, .int v1)] [] w 0 0 (oV r.1) r.2) (v0 : Nat) (v1 : Int32) (w : zW) (r : (Unit × zW)) (h : b_Model_fixCodes_63 F K63 v0 v1 w = some r) : zV G m_Model_fixCodes 63 [(0, .ref (z0 G + v0)), (1, .int v1)] [] w 0 0 (oV r.1) r.2 := by
  unfold b_Model_fixCodes_63 at h
  refine V_iload_n (i := 1) d_Model_fixCodes_63 rfl 1 rfl ?_
  refine V_sipush (v := 320) d_Model_fixCodes_64 (by decide) ?_
  refine V_icmp_ge (tgt := 83) d_Model_fixCodes_67 (by decide) (fun c67 => ?_) (fun c67 => ?_)
  · rw [if_pos c67] at h
    refine V_aload_n (i := 0) d_Model_fixCodes_83 rfl 0 rfl ?_
    refine V_iconst (v := 0) d_Model_fixCodes_84 (by decide) ?_
    refine V_sipush (v := 288) d_Model_fixCodes_85 (by decide) ?_
    obtain ⟨_, eo88, h⟩ := ob h
    obtain ⟨r88, e88, h⟩ := ob h
    refine V_call (v := some (.int r88.1)) (st := []) (inv_V (N := m_Model_makeWords) (As := [.int (0 : Int32), .int (288 : Int32)]) (ci := 9) d_Model_fixCodes_88 eo88 rfl k1036 k1038 sel_Model_makeWords kc_Model_makeWords y_Model_makeWords) ⟨Or.inl kc_Model_makeWords, k10, by decide, by decide⟩ (Nat.le_of_ble_eq_true rfl) (by decide) (by decide) (c_Model_makeWords G F v0 (0 : Int32) (288 : Int32) w r88 e88) ?_
    refine V_istore_n (i := 1) d_Model_fixCodes_91 rfl (by decide) rfl ?_
    refine V_aload_n (i := 0) d_Model_fixCodes_92 rfl 1 rfl ?_
    refine V_sipush (v := 288) d_Model_fixCodes_93 (by decide) ?_
    refine V_bipush (v := 32) d_Model_fixCodes_96 (by decide) ?_
    obtain ⟨_, eo98, h⟩ := ob h
    obtain ⟨r98, e98, h⟩ := ob h
    refine V_call (v := some (.int r98.1)) (st := []) (inv_V (N := m_Model_makeWords) (As := [.int (288 : Int32), .int (32 : Int32)]) (ci := 9) d_Model_fixCodes_98 eo98 rfl k1036 k1038 sel_Model_makeWords kc_Model_makeWords y_Model_makeWords) ⟨Or.inl kc_Model_makeWords, k10, by decide, by decide⟩ (Nat.le_of_ble_eq_true rfl) (by decide) (by decide) (c_Model_makeWords G F v0 (288 : Int32) (32 : Int32) r88.2 r98 e98) ?_
    refine V_istore_n (i := 2) d_Model_fixCodes_101 rfl (by decide) rfl ?_
    refine V_aload_n (i := 0) d_Model_fixCodes_102 rfl 2 rfl ?_
    refine V_iload_n (i := 1) d_Model_fixCodes_103 rfl 1 rfl ?_
    refine V_if_eq (tgt := 111) d_Model_fixCodes_104 (by decide) (fun c104 => ?_) (fun c104 => ?_)
    · rw [if_pos c104] at h
      refine V_lv [] rfl ?_
      exact b_Model_fixCodes_111_ok G F v0 r98.2 _ h
    · rw [if_neg c104] at h
      refine V_iload_n (i := 2) d_Model_fixCodes_107 rfl 0 rfl ?_
      refine V_if_ne (tgt := 115) d_Model_fixCodes_108 (by decide) (fun c108 => ?_) (fun c108 => ?_)
      · rw [if_neg c108] at h
        refine V_iconst (v := 0) d_Model_fixCodes_115 (by decide) ?_
        refine V_lv [] rfl ?_
        exact b_Model_fixCodes_116_ok G F v0 (0 : Int32) r98.2 _ h
      · rw [if_pos c108] at h
        refine V_lv [] rfl ?_
        exact b_Model_fixCodes_111_ok G F v0 r98.2 _ h
  · rw [if_neg c67] at h
    refine V_aload_n (i := 0) d_Model_fixCodes_70 rfl 0 rfl ?_
    obtain ⟨x71, e71, h⟩ := ob h
    refine V_getR (ci := 9) (k := 12) d_Model_fixCodes_71 e71 rfl (by decide) in_Model k894 ?_
    refine V_iload_n (i := 1) d_Model_fixCodes_74 rfl 1 rfl ?_
    refine V_iconst (v := 5) d_Model_fixCodes_75 (by decide) ?_
    obtain ⟨w76, e76, h⟩ := ob h
    refine V_aset d_Model_fixCodes_76 e76 ?_
    refine V_iinc (i := 1) (v := (v1 + (1 : Int32))) d_Model_fixCodes_77 1 rfl (congrArg (fun y => v1 + y) (by decide : Int32.ofInt (1) = (1 : Int32))) (by decide) rfl ?_
    refine V_goto (tgt := 63) d_Model_fixCodes_80 (by decide) ?_
    refine V_lv [1, 0] rfl ?_
    exact hK63 v0 (v1 + (1 : Int32)) w76 _ h
def l_Model_fixCodes_63 (F : Nat) : Nat → Nat → Int32 → zW → Option (Unit × zW)
  | 0 => fun _ _ _ => none
  | n + 1 => b_Model_fixCodes_63 F (l_Model_fixCodes_63 F n)
theorem l_Model_fixCodes_63_ok (G : zG) (F : Nat) (n : Nat) :  ∀ (v0 : Nat) (v1 : Int32) (w : zW) (r : (Unit × zW)), l_Model_fixCodes_63 F n v0 v1 w = some r → zV G m_Model_fixCodes 63 [(0, .ref (z0 G + v0)), (1, .int v1)] [] w 0 0 (oV r.1) r.2 := by
  induction n with
  | zero => intro v0 v1 w r h; exact nomatch (show (none : Option (Unit × zW)) = some r from h)
  | succ n ih => intro v0 v1 w r h; exact b_Model_fixCodes_63_ok G F (l_Model_fixCodes_63 F n) ih v0 v1 w r h
def b_Model_fixCodes_52 (F : Nat) (K2 : Nat → Int32 → zW → Option (Unit × zW)) (v0 : Nat) (v1 : Int32) (s0 : Nat) (s1 : Int32) (s2 : Int32) (w : zW) : Option (Unit × zW) := (aset w s0 s1 s2).bind fun w52 => K2 v0 (v1 + (1 : Int32)) w52
set_option maxRecDepth 100000 in
set_option maxHeartbeats 4000000 in
theorem b_Model_fixCodes_52_ok (G : zG) (F : Nat) (K2 : Nat → Int32 → zW → Option (Unit × zW)) (hK2 : ∀ (v0 : Nat) (v1 : Int32) (w : zW) (r : (Unit × zW)), K2 v0 v1 w = some r → zV G m_Model_fixCodes 2 [(0, .ref (z0 G + v0)), (1, .int v1)] [] w 0 0 (oV r.1) r.2) (v0 : Nat) (v1 : Int32) (s0 : Nat) (s1 : Int32) (s2 : Int32) (w : zW) (r : (Unit × zW)) (h : b_Model_fixCodes_52 F K2 v0 v1 s0 s1 s2 w = some r) : zV G m_Model_fixCodes 52 [(0, .ref (z0 G + v0)), (1, .int v1)] [.int s2, .int s1, .ref (z0 G + s0)] w 0 0 (oV r.1) r.2 := by
  unfold b_Model_fixCodes_52 at h
  obtain ⟨w52, e52, h⟩ := ob h
  refine V_aset d_Model_fixCodes_52 e52 ?_
  refine V_iinc (i := 1) (v := (v1 + (1 : Int32))) d_Model_fixCodes_53 1 rfl (congrArg (fun y => v1 + y) (by decide : Int32.ofInt (1) = (1 : Int32))) (by decide) rfl ?_
  refine V_goto (tgt := 2) d_Model_fixCodes_56 (by decide) ?_
  refine V_lv [1, 0] rfl ?_
  exact hK2 v0 (v1 + (1 : Int32)) w52 _ h
def b_Model_fixCodes_2 (F : Nat) (K2 : Nat → Int32 → zW → Option (Unit × zW)) (v0 : Nat) (v1 : Int32) (w : zW) : Option (Unit × zW) := if (288 : Int32) ≤ v1 then (l_Model_fixCodes_63 F F v0 (288 : Int32) w) else ((getR w v0 9 12).bind fun x10 => if (144 : Int32) ≤ v1 then (if (256 : Int32) ≤ v1 then (if (280 : Int32) ≤ v1 then (b_Model_fixCodes_52 F K2 v0 v1 x10 v1 (8 : Int32) w) else (b_Model_fixCodes_52 F K2 v0 v1 x10 v1 (7 : Int32) w)) else (b_Model_fixCodes_52 F K2 v0 v1 x10 v1 (9 : Int32) w)) else (b_Model_fixCodes_52 F K2 v0 v1 x10 v1 (8 : Int32) w))
set_option maxRecDepth 100000 in
set_option maxHeartbeats 4000000 in
theorem b_Model_fixCodes_2_ok (G : zG) (F : Nat) (K2 : Nat → Int32 → zW → Option (Unit × zW)) (hK2 : ∀ (v0 : Nat) (v1 : Int32) (w : zW) (r : (Unit × zW)), K2 v0 v1 w = some r → zV G m_Model_fixCodes 2 [(0, .ref (z0 G + v0)), (1, .int v1)] [] w 0 0 (oV r.1) r.2) (v0 : Nat) (v1 : Int32) (w : zW) (r : (Unit × zW)) (h : b_Model_fixCodes_2 F K2 v0 v1 w = some r) : zV G m_Model_fixCodes 2 [(0, .ref (z0 G + v0)), (1, .int v1)] [] w 0 0 (oV r.1) r.2 := by
  unfold b_Model_fixCodes_2 at h
  refine V_iload_n (i := 1) d_Model_fixCodes_2 rfl 1 rfl ?_
  refine V_sipush (v := 288) d_Model_fixCodes_3 (by decide) ?_
  refine V_icmp_ge (tgt := 59) d_Model_fixCodes_6 (by decide) (fun c6 => ?_) (fun c6 => ?_)
  · rw [if_pos c6] at h
    refine V_sipush (v := 288) d_Model_fixCodes_59 (by decide) ?_
    refine V_istore_n (i := 1) d_Model_fixCodes_62 rfl (by decide) rfl ?_
    refine V_lv [1, 0] rfl ?_
    exact l_Model_fixCodes_63_ok G F F v0 (288 : Int32) w _ h
  · rw [if_neg c6] at h
    refine V_aload_n (i := 0) d_Model_fixCodes_9 rfl 0 rfl ?_
    obtain ⟨x10, e10, h⟩ := ob h
    refine V_getR (ci := 9) (k := 12) d_Model_fixCodes_10 e10 rfl (by decide) in_Model k894 ?_
    refine V_iload_n (i := 1) d_Model_fixCodes_13 rfl 1 rfl ?_
    refine V_iload_n (i := 1) d_Model_fixCodes_14 rfl 1 rfl ?_
    refine V_sipush (v := 144) d_Model_fixCodes_15 (by decide) ?_
    refine V_icmp_ge (tgt := 26) d_Model_fixCodes_18 (by decide) (fun c18 => ?_) (fun c18 => ?_)
    · rw [if_pos c18] at h
      refine V_iload_n (i := 1) d_Model_fixCodes_26 rfl 1 rfl ?_
      refine V_sipush (v := 256) d_Model_fixCodes_27 (by decide) ?_
      refine V_icmp_ge (tgt := 38) d_Model_fixCodes_30 (by decide) (fun c30 => ?_) (fun c30 => ?_)
      · rw [if_pos c30] at h
        refine V_iload_n (i := 1) d_Model_fixCodes_38 rfl 1 rfl ?_
        refine V_sipush (v := 280) d_Model_fixCodes_39 (by decide) ?_
        refine V_icmp_ge (tgt := 50) d_Model_fixCodes_42 (by decide) (fun c42 => ?_) (fun c42 => ?_)
        · rw [if_pos c42] at h
          refine V_bipush (v := 8) d_Model_fixCodes_50 (by decide) ?_
          exact b_Model_fixCodes_52_ok G F K2 hK2 v0 v1 x10 v1 (8 : Int32) w _ h
        · rw [if_neg c42] at h
          refine V_bipush (v := 7) d_Model_fixCodes_45 (by decide) ?_
          refine V_goto (tgt := 52) d_Model_fixCodes_47 (by decide) ?_
          exact b_Model_fixCodes_52_ok G F K2 hK2 v0 v1 x10 v1 (7 : Int32) w _ h
      · rw [if_neg c30] at h
        refine V_bipush (v := 9) d_Model_fixCodes_33 (by decide) ?_
        refine V_goto (tgt := 52) d_Model_fixCodes_35 (by decide) ?_
        exact b_Model_fixCodes_52_ok G F K2 hK2 v0 v1 x10 v1 (9 : Int32) w _ h
    · rw [if_neg c18] at h
      refine V_bipush (v := 8) d_Model_fixCodes_21 (by decide) ?_
      refine V_goto (tgt := 52) d_Model_fixCodes_23 (by decide) ?_
      exact b_Model_fixCodes_52_ok G F K2 hK2 v0 v1 x10 v1 (8 : Int32) w _ h
def l_Model_fixCodes_2 (F : Nat) : Nat → Nat → Int32 → zW → Option (Unit × zW)
  | 0 => fun _ _ _ => none
  | n + 1 => b_Model_fixCodes_2 F (l_Model_fixCodes_2 F n)
theorem l_Model_fixCodes_2_ok (G : zG) (F : Nat) (n : Nat) :  ∀ (v0 : Nat) (v1 : Int32) (w : zW) (r : (Unit × zW)), l_Model_fixCodes_2 F n v0 v1 w = some r → zV G m_Model_fixCodes 2 [(0, .ref (z0 G + v0)), (1, .int v1)] [] w 0 0 (oV r.1) r.2 := by
  induction n with
  | zero => intro v0 v1 w r h; exact nomatch (show (none : Option (Unit × zW)) = some r from h)
  | succ n ih => intro v0 v1 w r h; exact b_Model_fixCodes_2_ok G F (l_Model_fixCodes_2 F n) ih v0 v1 w r h
def b_Model_fixCodes_0 (F : Nat) (v0 : Nat) (w : zW) : Option (Unit × zW) := l_Model_fixCodes_2 F F v0 (0 : Int32) w
set_option maxRecDepth 100000 in
set_option maxHeartbeats 4000000 in
theorem b_Model_fixCodes_0_ok (G : zG) (F : Nat) (v0 : Nat) (w : zW) (r : (Unit × zW)) (h : b_Model_fixCodes_0 F v0 w = some r) : zV G m_Model_fixCodes 0 [(0, .ref (z0 G + v0))] [] w 0 0 (oV r.1) r.2 := by
  unfold b_Model_fixCodes_0 at h
  refine V_iconst (v := 0) d_Model_fixCodes_0 (by decide) ?_
  refine V_istore_n (i := 1) d_Model_fixCodes_1 rfl (by decide) rfl ?_
  refine V_lv [1, 0] rfl ?_
  exact l_Model_fixCodes_2_ok G F F v0 (0 : Int32) w _ h
def f_Model_fixCodes (F : Nat) (v0 : Nat) (w : zW) : Option (Unit × zW) := b_Model_fixCodes_0 F v0 w
theorem c_Model_fixCodes (G : zG) (F : Nat) (v0 : Nat) (w : zW) (r : (Unit × zW)) (h : f_Model_fixCodes F v0 w = some r) : zCT G m_Model_fixCodes [.ref (z0 G + v0)] w (oV r.1) r.2 := zCT.ofV (by decide +kernel) (Or.inl ⟨kc_Model_fixCodes, rfl⟩) (Nat.le_of_ble_eq_true rfl) (b_Model_fixCodes_0_ok G F v0 w r h)

/-! ZipArrayModel.packBuffer()V -/
def m_Model_packBuffer : zM := (⟨R_Model, "packBuffer", "()V"⟩, prog_11_method_24_code, 6, none, [], { frames := 3, cells := 0, slots := 0, locals := 66 })
theorem k1032 : Cond.methodLink R_Model 126 (mY m_Model_fixCodes) ∈ zTb := tb_at 1032 (by decide +kernel) rfl
theorem k1034 : Cond.instanceMethod (mY m_Model_fixCodes) ∈ zTb := tb_at 1034 (by decide +kernel) rfl
theorem k1049 : Cond.methodLink R_Model 129 (mY m_Model_alike) ∈ zTb := tb_at 1049 (by decide +kernel) rfl
theorem k1051 : Cond.instanceMethod (mY m_Model_alike) ∈ zTb := tb_at 1051 (by decide +kernel) rfl
theorem k1057 : Cond.methodLink R_Model 132 (mY m_Model_putLength) ∈ zTb := tb_at 1057 (by decide +kernel) rfl
theorem k1059 : Cond.instanceMethod (mY m_Model_putLength) ∈ zTb := tb_at 1059 (by decide +kernel) rfl
theorem k1067 : Cond.methodLink R_Model 135 (mY m_Model_putDistance) ∈ zTb := tb_at 1067 (by decide +kernel) rfl
theorem k1069 : Cond.instanceMethod (mY m_Model_putDistance) ∈ zTb := tb_at 1069 (by decide +kernel) rfl
theorem kc_Model_packBuffer : Cond.code (mY m_Model_packBuffer) (mC m_Model_packBuffer) (mL m_Model_packBuffer) (mT m_Model_packBuffer) ∈ zTb := tb_at 1031 (by decide +kernel) rfl
theorem y_Model_packBuffer : (mY m_Model_packBuffer).cls ≠ "java/lang/invoke/MethodHandle" ∧ (mY m_Model_packBuffer).cls ≠ "java/lang/invoke/VarHandle" ∧ (parseMethodDescriptor (mY m_Model_packBuffer).desc).map (fun d => d.parameters.length) = some 0 := by decide +kernel
theorem sel_Model_packBuffer : Cond.selects R_Model (mY m_Model_packBuffer) (mY m_Model_packBuffer) ∈ zTb := sel_at (y := mY m_Model_packBuffer) (n := 33) 39 (by decide +kernel)
theorem d_Model_packBuffer_0 : decode (mC m_Model_packBuffer) 0 = .ok (.aload_n 0, 1) := by decide +kernel
theorem d_Model_packBuffer_1 : decode (mC m_Model_packBuffer) 1 = .ok (.iconst 0, 1) := by decide +kernel
theorem d_Model_packBuffer_2 : decode (mC m_Model_packBuffer) 2 = .ok (.putfield 75, 3) := by decide +kernel
theorem d_Model_packBuffer_5 : decode (mC m_Model_packBuffer) 5 = .ok (.aload_n 0, 1) := by decide +kernel
theorem d_Model_packBuffer_6 : decode (mC m_Model_packBuffer) 6 = .ok (.iconst 0, 1) := by decide +kernel
theorem d_Model_packBuffer_7 : decode (mC m_Model_packBuffer) 7 = .ok (.putfield 99, 3) := by decide +kernel
theorem d_Model_packBuffer_10 : decode (mC m_Model_packBuffer) 10 = .ok (.aload_n 0, 1) := by decide +kernel
theorem d_Model_packBuffer_11 : decode (mC m_Model_packBuffer) 11 = .ok (.invokevirtual 126, 3) := by decide +kernel
theorem d_Model_packBuffer_14 : decode (mC m_Model_packBuffer) 14 = .ok (.aload_n 0, 1) := by decide +kernel
theorem d_Model_packBuffer_15 : decode (mC m_Model_packBuffer) 15 = .ok (.iconst 3, 1) := by decide +kernel
theorem d_Model_packBuffer_16 : decode (mC m_Model_packBuffer) 16 = .ok (.iconst 3, 1) := by decide +kernel
theorem d_Model_packBuffer_17 : decode (mC m_Model_packBuffer) 17 = .ok (.invokevirtual 116, 3) := by decide +kernel
theorem d_Model_packBuffer_20 : decode (mC m_Model_packBuffer) 20 = .ok (.iconst 0, 1) := by decide +kernel
theorem d_Model_packBuffer_21 : decode (mC m_Model_packBuffer) 21 = .ok (.istore_n 1, 1) := by decide +kernel
theorem d_Model_packBuffer_22 : decode (mC m_Model_packBuffer) 22 = .ok (.iload_n 1, 1) := by decide +kernel
theorem d_Model_packBuffer_23 : decode (mC m_Model_packBuffer) 23 = .ok (.aload_n 0, 1) := by decide +kernel
theorem d_Model_packBuffer_24 : decode (mC m_Model_packBuffer) 24 = .ok (.getfield 82, 3) := by decide +kernel
theorem d_Model_packBuffer_27 : decode (mC m_Model_packBuffer) 27 = .ok (.if_icmp .ge 97, 3) := by decide +kernel
theorem d_Model_packBuffer_30 : decode (mC m_Model_packBuffer) 30 = .ok (.iconst 0, 1) := by decide +kernel
theorem d_Model_packBuffer_31 : decode (mC m_Model_packBuffer) 31 = .ok (.istore_n 2, 1) := by decide +kernel
theorem d_Model_packBuffer_32 : decode (mC m_Model_packBuffer) 32 = .ok (.iconst 0, 1) := by decide +kernel
theorem d_Model_packBuffer_33 : decode (mC m_Model_packBuffer) 33 = .ok (.istore_n 3, 1) := by decide +kernel
theorem d_Model_packBuffer_34 : decode (mC m_Model_packBuffer) 34 = .ok (.iconst 1, 1) := by decide +kernel
theorem d_Model_packBuffer_35 : decode (mC m_Model_packBuffer) 35 = .ok (.istore 4, 2) := by decide +kernel
theorem d_Model_packBuffer_37 : decode (mC m_Model_packBuffer) 37 = .ok (.iload 4, 2) := by decide +kernel
theorem d_Model_packBuffer_39 : decode (mC m_Model_packBuffer) 39 = .ok (.iload_n 1, 1) := by decide +kernel
theorem d_Model_packBuffer_40 : decode (mC m_Model_packBuffer) 40 = .ok (.if_icmp .gt 46, 3) := by decide +kernel
theorem d_Model_packBuffer_43 : decode (mC m_Model_packBuffer) 43 = .ok (.aload_n 0, 1) := by decide +kernel
theorem d_Model_packBuffer_44 : decode (mC m_Model_packBuffer) 44 = .ok (.iload_n 1, 1) := by decide +kernel
theorem d_Model_packBuffer_45 : decode (mC m_Model_packBuffer) 45 = .ok (.iload 4, 2) := by decide +kernel
theorem d_Model_packBuffer_47 : decode (mC m_Model_packBuffer) 47 = .ok (.isub, 1) := by decide +kernel
theorem d_Model_packBuffer_48 : decode (mC m_Model_packBuffer) 48 = .ok (.iload_n 1, 1) := by decide +kernel
theorem d_Model_packBuffer_49 : decode (mC m_Model_packBuffer) 49 = .ok (.invokevirtual 129, 3) := by decide +kernel
theorem d_Model_packBuffer_52 : decode (mC m_Model_packBuffer) 52 = .ok (.istore 5, 2) := by decide +kernel
theorem d_Model_packBuffer_54 : decode (mC m_Model_packBuffer) 54 = .ok (.iload 5, 2) := by decide +kernel
theorem d_Model_packBuffer_56 : decode (mC m_Model_packBuffer) 56 = .ok (.iload_n 2, 1) := by decide +kernel
theorem d_Model_packBuffer_57 : decode (mC m_Model_packBuffer) 57 = .ok (.if_icmp .le 8, 3) := by decide +kernel
theorem d_Model_packBuffer_60 : decode (mC m_Model_packBuffer) 60 = .ok (.iload 4, 2) := by decide +kernel
theorem d_Model_packBuffer_62 : decode (mC m_Model_packBuffer) 62 = .ok (.goto 4, 3) := by decide +kernel
theorem d_Model_packBuffer_65 : decode (mC m_Model_packBuffer) 65 = .ok (.iload_n 3, 1) := by decide +kernel
theorem d_Model_packBuffer_66 : decode (mC m_Model_packBuffer) 66 = .ok (.istore_n 3, 1) := by decide +kernel
theorem d_Model_packBuffer_67 : decode (mC m_Model_packBuffer) 67 = .ok (.iload 5, 2) := by decide +kernel
theorem d_Model_packBuffer_69 : decode (mC m_Model_packBuffer) 69 = .ok (.iload_n 2, 1) := by decide +kernel
theorem d_Model_packBuffer_70 : decode (mC m_Model_packBuffer) 70 = .ok (.if_icmp .le 8, 3) := by decide +kernel
theorem d_Model_packBuffer_73 : decode (mC m_Model_packBuffer) 73 = .ok (.iload 5, 2) := by decide +kernel
theorem d_Model_packBuffer_75 : decode (mC m_Model_packBuffer) 75 = .ok (.goto 4, 3) := by decide +kernel
theorem d_Model_packBuffer_78 : decode (mC m_Model_packBuffer) 78 = .ok (.iload_n 2, 1) := by decide +kernel
theorem d_Model_packBuffer_79 : decode (mC m_Model_packBuffer) 79 = .ok (.istore_n 2, 1) := by decide +kernel
theorem d_Model_packBuffer_80 : decode (mC m_Model_packBuffer) 80 = .ok (.iinc 4 1, 3) := by decide +kernel
theorem d_Model_packBuffer_83 : decode (mC m_Model_packBuffer) 83 = .ok (.goto (-46), 3) := by decide +kernel
theorem d_Model_packBuffer_86 : decode (mC m_Model_packBuffer) 86 = .ok (.iload_n 2, 1) := by decide +kernel
theorem d_Model_packBuffer_87 : decode (mC m_Model_packBuffer) 87 = .ok (.iconst 3, 1) := by decide +kernel
theorem d_Model_packBuffer_88 : decode (mC m_Model_packBuffer) 88 = .ok (.if_icmp .ge 19, 3) := by decide +kernel
theorem d_Model_packBuffer_91 : decode (mC m_Model_packBuffer) 91 = .ok (.aload_n 0, 1) := by decide +kernel
theorem d_Model_packBuffer_92 : decode (mC m_Model_packBuffer) 92 = .ok (.aload_n 0, 1) := by decide +kernel
theorem d_Model_packBuffer_93 : decode (mC m_Model_packBuffer) 93 = .ok (.getfield 7, 3) := by decide +kernel
theorem d_Model_packBuffer_96 : decode (mC m_Model_packBuffer) 96 = .ok (.iload_n 1, 1) := by decide +kernel
theorem d_Model_packBuffer_97 : decode (mC m_Model_packBuffer) 97 = .ok (.iaload, 1) := by decide +kernel
theorem d_Model_packBuffer_98 : decode (mC m_Model_packBuffer) 98 = .ok (.invokevirtual 106, 3) := by decide +kernel
theorem d_Model_packBuffer_101 : decode (mC m_Model_packBuffer) 101 = .ok (.iinc 1 1, 3) := by decide +kernel
theorem d_Model_packBuffer_104 : decode (mC m_Model_packBuffer) 104 = .ok (.goto 17, 3) := by decide +kernel
theorem d_Model_packBuffer_107 : decode (mC m_Model_packBuffer) 107 = .ok (.aload_n 0, 1) := by decide +kernel
theorem d_Model_packBuffer_108 : decode (mC m_Model_packBuffer) 108 = .ok (.iload_n 2, 1) := by decide +kernel
theorem d_Model_packBuffer_109 : decode (mC m_Model_packBuffer) 109 = .ok (.invokevirtual 132, 3) := by decide +kernel
theorem d_Model_packBuffer_112 : decode (mC m_Model_packBuffer) 112 = .ok (.aload_n 0, 1) := by decide +kernel
theorem d_Model_packBuffer_113 : decode (mC m_Model_packBuffer) 113 = .ok (.iload_n 3, 1) := by decide +kernel
theorem d_Model_packBuffer_114 : decode (mC m_Model_packBuffer) 114 = .ok (.invokevirtual 135, 3) := by decide +kernel
theorem d_Model_packBuffer_117 : decode (mC m_Model_packBuffer) 117 = .ok (.iload_n 1, 1) := by decide +kernel
theorem d_Model_packBuffer_118 : decode (mC m_Model_packBuffer) 118 = .ok (.iload_n 2, 1) := by decide +kernel
theorem d_Model_packBuffer_119 : decode (mC m_Model_packBuffer) 119 = .ok (.iadd, 1) := by decide +kernel
theorem d_Model_packBuffer_120 : decode (mC m_Model_packBuffer) 120 = .ok (.istore_n 1, 1) := by decide +kernel
theorem d_Model_packBuffer_121 : decode (mC m_Model_packBuffer) 121 = .ok (.goto (-99), 3) := by decide +kernel
theorem d_Model_packBuffer_124 : decode (mC m_Model_packBuffer) 124 = .ok (.aload_n 0, 1) := by decide +kernel
theorem d_Model_packBuffer_125 : decode (mC m_Model_packBuffer) 125 = .ok (.sipush 256, 3) := by decide +kernel
theorem d_Model_packBuffer_128 : decode (mC m_Model_packBuffer) 128 = .ok (.invokevirtual 106, 3) := by decide +kernel
theorem d_Model_packBuffer_131 : decode (mC m_Model_packBuffer) 131 = .ok (.return_, 1) := by decide +kernel
def b_Model_packBuffer_121 (F : Nat) (K22 : Nat → Int32 → zW → Option (Unit × zW)) (v0 : Nat) (v1 : Int32) (w : zW) : Option (Unit × zW) := K22 v0 v1 w
set_option maxRecDepth 100000 in
set_option maxHeartbeats 4000000 in
theorem b_Model_packBuffer_121_ok (G : zG) (F : Nat) (K22 : Nat → Int32 → zW → Option (Unit × zW)) (hK22 : ∀ (v0 : Nat) (v1 : Int32) (w : zW) (r : (Unit × zW)), K22 v0 v1 w = some r → zV G m_Model_packBuffer 22 [(0, .ref (z0 G + v0)), (1, .int v1)] [] w 0 0 (oV r.1) r.2) (v0 : Nat) (v1 : Int32) (w : zW) (r : (Unit × zW)) (h : b_Model_packBuffer_121 F K22 v0 v1 w = some r) : zV G m_Model_packBuffer 121 [(0, .ref (z0 G + v0)), (1, .int v1)] [] w 0 0 (oV r.1) r.2 := by
  unfold b_Model_packBuffer_121 at h
  refine V_goto (tgt := 22) d_Model_packBuffer_121 (by decide) ?_
  exact hK22 v0 v1 w _ h
def b_Model_packBuffer_79 (F : Nat) (K22 : Nat → Int32 → zW → Option (Unit × zW)) (K37 : Nat → Int32 → Int32 → Int32 → Int32 → zW → Option (Unit × zW)) (v0 : Nat) (v1 : Int32) (v3 : Int32) (v4 : Int32) (s0 : Int32) (w : zW) : Option (Unit × zW) := K37 v0 v1 s0 v3 (v4 + (1 : Int32)) w
set_option maxRecDepth 100000 in
set_option maxHeartbeats 4000000 in
theorem b_Model_packBuffer_79_ok (G : zG) (F : Nat) (K22 : Nat → Int32 → zW → Option (Unit × zW)) (K37 : Nat → Int32 → Int32 → Int32 → Int32 → zW → Option (Unit × zW)) (hK22 : ∀ (v0 : Nat) (v1 : Int32) (w : zW) (r : (Unit × zW)), K22 v0 v1 w = some r → zV G m_Model_packBuffer 22 [(0, .ref (z0 G + v0)), (1, .int v1)] [] w 0 0 (oV r.1) r.2) (hK37 : ∀ (v0 : Nat) (v1 : Int32) (v2 : Int32) (v3 : Int32) (v4 : Int32) (w : zW) (r : (Unit × zW)), K37 v0 v1 v2 v3 v4 w = some r → zV G m_Model_packBuffer 37 [(0, .ref (z0 G + v0)), (1, .int v1), (2, .int v2), (3, .int v3), (4, .int v4)] [] w 0 0 (oV r.1) r.2) (v0 : Nat) (v1 : Int32) (v3 : Int32) (v4 : Int32) (s0 : Int32) (w : zW) (r : (Unit × zW)) (h : b_Model_packBuffer_79 F K22 K37 v0 v1 v3 v4 s0 w = some r) : zV G m_Model_packBuffer 79 [(0, .ref (z0 G + v0)), (1, .int v1), (3, .int v3), (4, .int v4)] [.int s0] w 0 0 (oV r.1) r.2 := by
  unfold b_Model_packBuffer_79 at h
  refine V_istore_n (i := 2) d_Model_packBuffer_79 rfl (by decide) rfl ?_
  refine V_iinc (i := 4) (v := (v4 + (1 : Int32))) d_Model_packBuffer_80 4 rfl (congrArg (fun y => v4 + y) (by decide : Int32.ofInt (1) = (1 : Int32))) (by decide) rfl ?_
  refine V_goto (tgt := 37) d_Model_packBuffer_83 (by decide) ?_
  refine V_lv [2, 3, 1, 4, 0] rfl ?_
  exact hK37 v0 v1 s0 v3 (v4 + (1 : Int32)) w _ h
def b_Model_packBuffer_66 (F : Nat) (K22 : Nat → Int32 → zW → Option (Unit × zW)) (K37 : Nat → Int32 → Int32 → Int32 → Int32 → zW → Option (Unit × zW)) (v0 : Nat) (v1 : Int32) (v2 : Int32) (v4 : Int32) (v5 : Int32) (s0 : Int32) (w : zW) : Option (Unit × zW) := if v5 ≤ v2 then (b_Model_packBuffer_79 F K22 K37 v0 v1 s0 v4 v2 w) else (b_Model_packBuffer_79 F K22 K37 v0 v1 s0 v4 v5 w)
set_option maxRecDepth 100000 in
set_option maxHeartbeats 4000000 in
theorem b_Model_packBuffer_66_ok (G : zG) (F : Nat) (K22 : Nat → Int32 → zW → Option (Unit × zW)) (K37 : Nat → Int32 → Int32 → Int32 → Int32 → zW → Option (Unit × zW)) (hK22 : ∀ (v0 : Nat) (v1 : Int32) (w : zW) (r : (Unit × zW)), K22 v0 v1 w = some r → zV G m_Model_packBuffer 22 [(0, .ref (z0 G + v0)), (1, .int v1)] [] w 0 0 (oV r.1) r.2) (hK37 : ∀ (v0 : Nat) (v1 : Int32) (v2 : Int32) (v3 : Int32) (v4 : Int32) (w : zW) (r : (Unit × zW)), K37 v0 v1 v2 v3 v4 w = some r → zV G m_Model_packBuffer 37 [(0, .ref (z0 G + v0)), (1, .int v1), (2, .int v2), (3, .int v3), (4, .int v4)] [] w 0 0 (oV r.1) r.2) (v0 : Nat) (v1 : Int32) (v2 : Int32) (v4 : Int32) (v5 : Int32) (s0 : Int32) (w : zW) (r : (Unit × zW)) (h : b_Model_packBuffer_66 F K22 K37 v0 v1 v2 v4 v5 s0 w = some r) : zV G m_Model_packBuffer 66 [(0, .ref (z0 G + v0)), (1, .int v1), (2, .int v2), (4, .int v4), (5, .int v5)] [.int s0] w 0 0 (oV r.1) r.2 := by
  unfold b_Model_packBuffer_66 at h
  refine V_istore_n (i := 3) d_Model_packBuffer_66 rfl (by decide) rfl ?_
  refine V_iload (i := 5) d_Model_packBuffer_67 5 rfl ?_
  refine V_iload_n (i := 2) d_Model_packBuffer_69 rfl 3 rfl ?_
  refine V_icmp_le (tgt := 78) d_Model_packBuffer_70 (by decide) (fun c70 => ?_) (fun c70 => ?_)
  · rw [if_pos c70] at h
    refine V_iload_n (i := 2) d_Model_packBuffer_78 rfl 3 rfl ?_
    refine V_lv [1, 2, 0, 4] rfl ?_
    exact b_Model_packBuffer_79_ok G F K22 K37 hK22 hK37 v0 v1 s0 v4 v2 w _ h
  · rw [if_neg c70] at h
    refine V_iload (i := 5) d_Model_packBuffer_73 5 rfl ?_
    refine V_goto (tgt := 79) d_Model_packBuffer_75 (by decide) ?_
    refine V_lv [1, 2, 0, 4] rfl ?_
    exact b_Model_packBuffer_79_ok G F K22 K37 hK22 hK37 v0 v1 s0 v4 v5 w _ h
def b_Model_packBuffer_37 (F : Nat) (K22 : Nat → Int32 → zW → Option (Unit × zW)) (K37 : Nat → Int32 → Int32 → Int32 → Int32 → zW → Option (Unit × zW)) (v0 : Nat) (v1 : Int32) (v2 : Int32) (v3 : Int32) (v4 : Int32) (w : zW) : Option (Unit × zW) := if v1 < v4 then (if (3 : Int32) ≤ v2 then ((zobj w v0 9).bind fun _ => (f_Model_putLength F v0 v2 w).bind fun r109 => (zobj r109.2 v0 9).bind fun _ => (f_Model_putDistance F v0 v3 r109.2).bind fun r114 => b_Model_packBuffer_121 F K22 v0 (v1 + v2) r114.2) else ((getR w v0 9 2).bind fun x93 => (aget w x93 v1).bind fun x97 => (zobj w v0 9).bind fun _ => (f_Model_putWord F v0 x97 w).bind fun r98 => b_Model_packBuffer_121 F K22 v0 (v1 + (1 : Int32)) r98.2)) else ((zobj w v0 9).bind fun _ => (f_Model_alike F v0 (v1 - v4) v1 w).bind fun r49 => if r49.1 ≤ v2 then (b_Model_packBuffer_66 F K22 K37 v0 v1 v2 v4 r49.1 v3 r49.2) else (b_Model_packBuffer_66 F K22 K37 v0 v1 v2 v4 r49.1 v4 r49.2))
set_option maxRecDepth 100000 in
set_option maxHeartbeats 4000000 in
theorem b_Model_packBuffer_37_ok (G : zG) (F : Nat) (K22 : Nat → Int32 → zW → Option (Unit × zW)) (K37 : Nat → Int32 → Int32 → Int32 → Int32 → zW → Option (Unit × zW)) (hK22 : ∀ (v0 : Nat) (v1 : Int32) (w : zW) (r : (Unit × zW)), K22 v0 v1 w = some r → zV G m_Model_packBuffer 22 [(0, .ref (z0 G + v0)), (1, .int v1)] [] w 0 0 (oV r.1) r.2) (hK37 : ∀ (v0 : Nat) (v1 : Int32) (v2 : Int32) (v3 : Int32) (v4 : Int32) (w : zW) (r : (Unit × zW)), K37 v0 v1 v2 v3 v4 w = some r → zV G m_Model_packBuffer 37 [(0, .ref (z0 G + v0)), (1, .int v1), (2, .int v2), (3, .int v3), (4, .int v4)] [] w 0 0 (oV r.1) r.2) (v0 : Nat) (v1 : Int32) (v2 : Int32) (v3 : Int32) (v4 : Int32) (w : zW) (r : (Unit × zW)) (h : b_Model_packBuffer_37 F K22 K37 v0 v1 v2 v3 v4 w = some r) : zV G m_Model_packBuffer 37 [(0, .ref (z0 G + v0)), (1, .int v1), (2, .int v2), (3, .int v3), (4, .int v4)] [] w 0 0 (oV r.1) r.2 := by
  unfold b_Model_packBuffer_37 at h
  refine V_iload (i := 4) d_Model_packBuffer_37 4 rfl ?_
  refine V_iload_n (i := 1) d_Model_packBuffer_39 rfl 1 rfl ?_
  refine V_icmp_gt (tgt := 86) d_Model_packBuffer_40 (by decide) (fun c40 => ?_) (fun c40 => ?_)
  · rw [if_pos c40] at h
    refine V_iload_n (i := 2) d_Model_packBuffer_86 rfl 2 rfl ?_
    refine V_iconst (v := 3) d_Model_packBuffer_87 (by decide) ?_
    refine V_icmp_ge (tgt := 107) d_Model_packBuffer_88 (by decide) (fun c88 => ?_) (fun c88 => ?_)
    · rw [if_pos c88] at h
      refine V_aload_n (i := 0) d_Model_packBuffer_107 rfl 0 rfl ?_
      refine V_iload_n (i := 2) d_Model_packBuffer_108 rfl 2 rfl ?_
      obtain ⟨_, eo109, h⟩ := ob h
      obtain ⟨r109, e109, h⟩ := ob h
      refine V_call (v := none) (st := []) (inv_V (N := m_Model_putLength) (As := [.int v2]) (ci := 9) d_Model_packBuffer_109 eo109 rfl k1057 k1059 sel_Model_putLength kc_Model_putLength y_Model_putLength) ⟨Or.inl kc_Model_putLength, k10, by decide, by decide⟩ (Nat.le_of_ble_eq_true rfl) (by decide) (by decide) (c_Model_putLength G F v0 v2 w r109 e109) ?_
      refine V_aload_n (i := 0) d_Model_packBuffer_112 rfl 0 rfl ?_
      refine V_iload_n (i := 3) d_Model_packBuffer_113 rfl 3 rfl ?_
      obtain ⟨_, eo114, h⟩ := ob h
      obtain ⟨r114, e114, h⟩ := ob h
      refine V_call (v := none) (st := []) (inv_V (N := m_Model_putDistance) (As := [.int v3]) (ci := 9) d_Model_packBuffer_114 eo114 rfl k1067 k1069 sel_Model_putDistance kc_Model_putDistance y_Model_putDistance) ⟨Or.inl kc_Model_putDistance, k10, by decide, by decide⟩ (Nat.le_of_ble_eq_true rfl) (by decide) (by decide) (c_Model_putDistance G F v0 v3 r109.2 r114 e114) ?_
      refine V_iload_n (i := 1) d_Model_packBuffer_117 rfl 1 rfl ?_
      refine V_iload_n (i := 2) d_Model_packBuffer_118 rfl 2 rfl ?_
      refine V_iadd d_Model_packBuffer_119 ?_
      refine V_istore_n (i := 1) d_Model_packBuffer_120 rfl (by decide) rfl ?_
      refine V_lv [1, 0] rfl ?_
      exact b_Model_packBuffer_121_ok G F K22 hK22 v0 (v1 + v2) r114.2 _ h
    · rw [if_neg c88] at h
      refine V_aload_n (i := 0) d_Model_packBuffer_91 rfl 0 rfl ?_
      refine V_aload_n (i := 0) d_Model_packBuffer_92 rfl 0 rfl ?_
      obtain ⟨x93, e93, h⟩ := ob h
      refine V_getR (ci := 9) (k := 2) d_Model_packBuffer_93 e93 rfl (by decide) in_Model k884 ?_
      refine V_iload_n (i := 1) d_Model_packBuffer_96 rfl 1 rfl ?_
      obtain ⟨x97, e97, h⟩ := ob h
      refine V_aget d_Model_packBuffer_97 e97 ?_
      obtain ⟨_, eo98, h⟩ := ob h
      obtain ⟨r98, e98, h⟩ := ob h
      refine V_call (v := none) (st := []) (inv_V (N := m_Model_putWord) (As := [.int x97]) (ci := 9) d_Model_packBuffer_98 eo98 rfl k1053 k1055 sel_Model_putWord kc_Model_putWord y_Model_putWord) ⟨Or.inl kc_Model_putWord, k10, by decide, by decide⟩ (Nat.le_of_ble_eq_true rfl) (by decide) (by decide) (c_Model_putWord G F v0 x97 w r98 e98) ?_
      refine V_iinc (i := 1) (v := (v1 + (1 : Int32))) d_Model_packBuffer_101 1 rfl (congrArg (fun y => v1 + y) (by decide : Int32.ofInt (1) = (1 : Int32))) (by decide) rfl ?_
      refine V_goto (tgt := 121) d_Model_packBuffer_104 (by decide) ?_
      refine V_lv [1, 0] rfl ?_
      exact b_Model_packBuffer_121_ok G F K22 hK22 v0 (v1 + (1 : Int32)) r98.2 _ h
  · rw [if_neg c40] at h
    refine V_aload_n (i := 0) d_Model_packBuffer_43 rfl 0 rfl ?_
    refine V_iload_n (i := 1) d_Model_packBuffer_44 rfl 1 rfl ?_
    refine V_iload (i := 4) d_Model_packBuffer_45 4 rfl ?_
    refine V_isub d_Model_packBuffer_47 ?_
    refine V_iload_n (i := 1) d_Model_packBuffer_48 rfl 1 rfl ?_
    obtain ⟨_, eo49, h⟩ := ob h
    obtain ⟨r49, e49, h⟩ := ob h
    refine V_call (v := some (.int r49.1)) (st := []) (inv_V (N := m_Model_alike) (As := [.int (v1 - v4), .int v1]) (ci := 9) d_Model_packBuffer_49 eo49 rfl k1049 k1051 sel_Model_alike kc_Model_alike y_Model_alike) ⟨Or.inl kc_Model_alike, k10, by decide, by decide⟩ (Nat.le_of_ble_eq_true rfl) (by decide) (by decide) (c_Model_alike G F v0 (v1 - v4) v1 w r49 e49) ?_
    refine V_istore (i := 5) d_Model_packBuffer_52 (by decide) rfl ?_
    refine V_iload (i := 5) d_Model_packBuffer_54 0 rfl ?_
    refine V_iload_n (i := 2) d_Model_packBuffer_56 rfl 3 rfl ?_
    refine V_icmp_le (tgt := 65) d_Model_packBuffer_57 (by decide) (fun c57 => ?_) (fun c57 => ?_)
    · rw [if_pos c57] at h
      refine V_iload_n (i := 3) d_Model_packBuffer_65 rfl 4 rfl ?_
      refine V_lv [1, 2, 3, 5, 0] rfl ?_
      exact b_Model_packBuffer_66_ok G F K22 K37 hK22 hK37 v0 v1 v2 v4 r49.1 v3 r49.2 _ h
    · rw [if_neg c57] at h
      refine V_iload (i := 4) d_Model_packBuffer_60 5 rfl ?_
      refine V_goto (tgt := 66) d_Model_packBuffer_62 (by decide) ?_
      refine V_lv [1, 2, 3, 5, 0] rfl ?_
      exact b_Model_packBuffer_66_ok G F K22 K37 hK22 hK37 v0 v1 v2 v4 r49.1 v4 r49.2 _ h
def l_Model_packBuffer_37 (F : Nat) (K22 : Nat → Int32 → zW → Option (Unit × zW)) : Nat → Nat → Int32 → Int32 → Int32 → Int32 → zW → Option (Unit × zW)
  | 0 => fun _ _ _ _ _ _ => none
  | n + 1 => b_Model_packBuffer_37 F K22 (l_Model_packBuffer_37 F K22 n)
theorem l_Model_packBuffer_37_ok (G : zG) (F : Nat) (K22 : Nat → Int32 → zW → Option (Unit × zW)) (hK22 : ∀ (v0 : Nat) (v1 : Int32) (w : zW) (r : (Unit × zW)), K22 v0 v1 w = some r → zV G m_Model_packBuffer 22 [(0, .ref (z0 G + v0)), (1, .int v1)] [] w 0 0 (oV r.1) r.2) (n : Nat) :  ∀ (v0 : Nat) (v1 : Int32) (v2 : Int32) (v3 : Int32) (v4 : Int32) (w : zW) (r : (Unit × zW)), l_Model_packBuffer_37 F K22 n v0 v1 v2 v3 v4 w = some r → zV G m_Model_packBuffer 37 [(0, .ref (z0 G + v0)), (1, .int v1), (2, .int v2), (3, .int v3), (4, .int v4)] [] w 0 0 (oV r.1) r.2 := by
  induction n with
  | zero => intro v0 v1 v2 v3 v4 w r h; exact nomatch (show (none : Option (Unit × zW)) = some r from h)
  | succ n ih => intro v0 v1 v2 v3 v4 w r h; exact b_Model_packBuffer_37_ok G F K22 (l_Model_packBuffer_37 F K22 n) hK22 ih v0 v1 v2 v3 v4 w r h
def b_Model_packBuffer_22 (F : Nat) (K22 : Nat → Int32 → zW → Option (Unit × zW)) (v0 : Nat) (v1 : Int32) (w : zW) : Option (Unit × zW) := (getI w v0 9 1).bind fun x24 => if x24 ≤ v1 then ((zobj w v0 9).bind fun _ => (f_Model_putWord F v0 (256 : Int32) w).bind fun r128 => some ((), r128.2)) else (l_Model_packBuffer_37 F K22 F v0 v1 (0 : Int32) (0 : Int32) (1 : Int32) w)
set_option maxRecDepth 100000 in
set_option maxHeartbeats 4000000 in
theorem b_Model_packBuffer_22_ok (G : zG) (F : Nat) (K22 : Nat → Int32 → zW → Option (Unit × zW)) (hK22 : ∀ (v0 : Nat) (v1 : Int32) (w : zW) (r : (Unit × zW)), K22 v0 v1 w = some r → zV G m_Model_packBuffer 22 [(0, .ref (z0 G + v0)), (1, .int v1)] [] w 0 0 (oV r.1) r.2) (v0 : Nat) (v1 : Int32) (w : zW) (r : (Unit × zW)) (h : b_Model_packBuffer_22 F K22 v0 v1 w = some r) : zV G m_Model_packBuffer 22 [(0, .ref (z0 G + v0)), (1, .int v1)] [] w 0 0 (oV r.1) r.2 := by
  unfold b_Model_packBuffer_22 at h
  refine V_iload_n (i := 1) d_Model_packBuffer_22 rfl 1 rfl ?_
  refine V_aload_n (i := 0) d_Model_packBuffer_23 rfl 0 rfl ?_
  obtain ⟨x24, e24, h⟩ := ob h
  refine V_getI (ci := 9) (k := 1) d_Model_packBuffer_24 e24 rfl (by decide) in_Model k883 ?_
  refine V_icmp_ge (tgt := 124) d_Model_packBuffer_27 (by decide) (fun c27 => ?_) (fun c27 => ?_)
  · rw [if_pos c27] at h
    refine V_aload_n (i := 0) d_Model_packBuffer_124 rfl 0 rfl ?_
    refine V_sipush (v := 256) d_Model_packBuffer_125 (by decide) ?_
    obtain ⟨_, eo128, h⟩ := ob h
    obtain ⟨r128, e128, h⟩ := ob h
    refine V_call (v := none) (st := []) (inv_V (N := m_Model_putWord) (As := [.int (256 : Int32)]) (ci := 9) d_Model_packBuffer_128 eo128 rfl k1053 k1055 sel_Model_putWord kc_Model_putWord y_Model_putWord) ⟨Or.inl kc_Model_putWord, k10, by decide, by decide⟩ (Nat.le_of_ble_eq_true rfl) (by decide) (by decide) (c_Model_putWord G F v0 (256 : Int32) w r128 e128) ?_
    obtain rfl := Option.some.inj h
    exact V_vret rfl (by decide) (by decide) d_Model_packBuffer_131
  · rw [if_neg c27] at h
    refine V_iconst (v := 0) d_Model_packBuffer_30 (by decide) ?_
    refine V_istore_n (i := 2) d_Model_packBuffer_31 rfl (by decide) rfl ?_
    refine V_iconst (v := 0) d_Model_packBuffer_32 (by decide) ?_
    refine V_istore_n (i := 3) d_Model_packBuffer_33 rfl (by decide) rfl ?_
    refine V_iconst (v := 1) d_Model_packBuffer_34 (by decide) ?_
    refine V_istore (i := 4) d_Model_packBuffer_35 (by decide) rfl ?_
    refine V_lv [3, 4, 2, 1, 0] rfl ?_
    exact l_Model_packBuffer_37_ok G F K22 hK22 F v0 v1 (0 : Int32) (0 : Int32) (1 : Int32) w _ h
def l_Model_packBuffer_22 (F : Nat) : Nat → Nat → Int32 → zW → Option (Unit × zW)
  | 0 => fun _ _ _ => none
  | n + 1 => b_Model_packBuffer_22 F (l_Model_packBuffer_22 F n)
theorem l_Model_packBuffer_22_ok (G : zG) (F : Nat) (n : Nat) :  ∀ (v0 : Nat) (v1 : Int32) (w : zW) (r : (Unit × zW)), l_Model_packBuffer_22 F n v0 v1 w = some r → zV G m_Model_packBuffer 22 [(0, .ref (z0 G + v0)), (1, .int v1)] [] w 0 0 (oV r.1) r.2 := by
  induction n with
  | zero => intro v0 v1 w r h; exact nomatch (show (none : Option (Unit × zW)) = some r from h)
  | succ n ih => intro v0 v1 w r h; exact b_Model_packBuffer_22_ok G F (l_Model_packBuffer_22 F n) ih v0 v1 w r h
def b_Model_packBuffer_0 (F : Nat) (v0 : Nat) (w : zW) : Option (Unit × zW) := (putI w v0 9 6 (0 : Int32)).bind fun w2 => (putI w2 v0 9 10 (0 : Int32)).bind fun w7 => (zobj w7 v0 9).bind fun _ => (f_Model_fixCodes F v0 w7).bind fun r11 => (zobj r11.2 v0 9).bind fun _ => (f_Model_putLow F v0 (3 : Int32) (3 : Int32) r11.2).bind fun r17 => l_Model_packBuffer_22 F F v0 (0 : Int32) r17.2
set_option maxRecDepth 100000 in
set_option maxHeartbeats 4000000 in
theorem b_Model_packBuffer_0_ok (G : zG) (F : Nat) (v0 : Nat) (w : zW) (r : (Unit × zW)) (h : b_Model_packBuffer_0 F v0 w = some r) : zV G m_Model_packBuffer 0 [(0, .ref (z0 G + v0))] [] w 0 0 (oV r.1) r.2 := by
  unfold b_Model_packBuffer_0 at h
  refine V_aload_n (i := 0) d_Model_packBuffer_0 rfl 0 rfl ?_
  refine V_iconst (v := 0) d_Model_packBuffer_1 (by decide) ?_
  obtain ⟨w2, e2, h⟩ := ob h
  refine V_putI (ci := 9) (k := 6) t_Model d_Model_packBuffer_2 e2 rfl (by decide) in_Model k888 ty_Model nm_Model rfl (Or.inl rfl) ?_
  refine V_aload_n (i := 0) d_Model_packBuffer_5 rfl 0 rfl ?_
  refine V_iconst (v := 0) d_Model_packBuffer_6 (by decide) ?_
  obtain ⟨w7, e7, h⟩ := ob h
  refine V_putI (ci := 9) (k := 10) t_Model d_Model_packBuffer_7 e7 rfl (by decide) in_Model k892 ty_Model nm_Model rfl (Or.inl rfl) ?_
  refine V_aload_n (i := 0) d_Model_packBuffer_10 rfl 0 rfl ?_
  obtain ⟨_, eo11, h⟩ := ob h
  obtain ⟨r11, e11, h⟩ := ob h
  refine V_call (v := none) (st := []) (inv_V (N := m_Model_fixCodes) (As := []) (ci := 9) d_Model_packBuffer_11 eo11 rfl k1032 k1034 sel_Model_fixCodes kc_Model_fixCodes y_Model_fixCodes) ⟨Or.inl kc_Model_fixCodes, k10, by decide, by decide⟩ (Nat.le_of_ble_eq_true rfl) (by decide) (by decide) (c_Model_fixCodes G F v0 w7 r11 e11) ?_
  refine V_aload_n (i := 0) d_Model_packBuffer_14 rfl 0 rfl ?_
  refine V_iconst (v := 3) d_Model_packBuffer_15 (by decide) ?_
  refine V_iconst (v := 3) d_Model_packBuffer_16 (by decide) ?_
  obtain ⟨_, eo17, h⟩ := ob h
  obtain ⟨r17, e17, h⟩ := ob h
  refine V_call (v := none) (st := []) (inv_V (N := m_Model_putLow) (As := [.int (3 : Int32), .int (3 : Int32)]) (ci := 9) d_Model_packBuffer_17 eo17 rfl k1041 k1043 sel_Model_putLow kc_Model_putLow y_Model_putLow) ⟨Or.inl kc_Model_putLow, k10, by decide, by decide⟩ (Nat.le_of_ble_eq_true rfl) (by decide) (by decide) (c_Model_putLow G F v0 (3 : Int32) (3 : Int32) r11.2 r17 e17) ?_
  refine V_iconst (v := 0) d_Model_packBuffer_20 (by decide) ?_
  refine V_istore_n (i := 1) d_Model_packBuffer_21 rfl (by decide) rfl ?_
  refine V_lv [1, 0] rfl ?_
  exact l_Model_packBuffer_22_ok G F F v0 (0 : Int32) r17.2 _ h
def f_Model_packBuffer (F : Nat) (v0 : Nat) (w : zW) : Option (Unit × zW) := b_Model_packBuffer_0 F v0 w
theorem c_Model_packBuffer (G : zG) (F : Nat) (v0 : Nat) (w : zW) (r : (Unit × zW)) (h : f_Model_packBuffer F v0 w = some r) : zCT G m_Model_packBuffer [.ref (z0 G + v0)] w (oV r.1) r.2 := zCT.ofV (by decide +kernel) (Or.inl ⟨kc_Model_packBuffer, rfl⟩) (Nat.le_of_ble_eq_true rfl) (b_Model_packBuffer_0_ok G F v0 w r h)

/-! ZipArrayModel.pack()I -/
def m_Model_pack : zM := (⟨R_Model, "pack", "()I"⟩, prog_11_method_25_code, 1, (some .int), [], { frames := 4, cells := 0, slots := 0, locals := 91 })
theorem k1028 : Cond.methodLink R_Model 138 (mY m_Model_packBuffer) ∈ zTb := tb_at 1028 (by decide +kernel) rfl
theorem k1030 : Cond.instanceMethod (mY m_Model_packBuffer) ∈ zTb := tb_at 1030 (by decide +kernel) rfl
theorem k1077 : Cond.methodLink R_Model 141 (mY m_Model_takeContent) ∈ zTb := tb_at 1077 (by decide +kernel) rfl
theorem k1079 : Cond.instanceMethod (mY m_Model_takeContent) ∈ zTb := tb_at 1079 (by decide +kernel) rfl
theorem kc_Model_pack : Cond.code (mY m_Model_pack) (mC m_Model_pack) (mL m_Model_pack) (mT m_Model_pack) ∈ zTb := tb_at 1027 (by decide +kernel) rfl
theorem y_Model_pack : (mY m_Model_pack).cls ≠ "java/lang/invoke/MethodHandle" ∧ (mY m_Model_pack).cls ≠ "java/lang/invoke/VarHandle" ∧ (parseMethodDescriptor (mY m_Model_pack).desc).map (fun d => d.parameters.length) = some 0 := by decide +kernel
theorem d_Model_pack_0 : decode (mC m_Model_pack) 0 = .ok (.aload_n 0, 1) := by decide +kernel
theorem d_Model_pack_1 : decode (mC m_Model_pack) 1 = .ok (.invokevirtual 138, 3) := by decide +kernel
theorem d_Model_pack_4 : decode (mC m_Model_pack) 4 = .ok (.aload_n 0, 1) := by decide +kernel
theorem d_Model_pack_5 : decode (mC m_Model_pack) 5 = .ok (.aload_n 0, 1) := by decide +kernel
theorem d_Model_pack_6 : decode (mC m_Model_pack) 6 = .ok (.getfield 75, 3) := by decide +kernel
theorem d_Model_pack_9 : decode (mC m_Model_pack) 9 = .ok (.sipush 200, 3) := by decide +kernel
theorem d_Model_pack_12 : decode (mC m_Model_pack) 12 = .ok (.if_icmp .le 7, 3) := by decide +kernel
theorem d_Model_pack_15 : decode (mC m_Model_pack) 15 = .ok (.iconst 1, 1) := by decide +kernel
theorem d_Model_pack_16 : decode (mC m_Model_pack) 16 = .ok (.goto 4, 3) := by decide +kernel
theorem d_Model_pack_19 : decode (mC m_Model_pack) 19 = .ok (.iconst 0, 1) := by decide +kernel
theorem d_Model_pack_20 : decode (mC m_Model_pack) 20 = .ok (.putfield 70, 3) := by decide +kernel
theorem d_Model_pack_23 : decode (mC m_Model_pack) 23 = .ok (.aload_n 0, 1) := by decide +kernel
theorem d_Model_pack_24 : decode (mC m_Model_pack) 24 = .ok (.getfield 70, 3) := by decide +kernel
theorem d_Model_pack_27 : decode (mC m_Model_pack) 27 = .ok (.ifCond .le 7, 3) := by decide +kernel
theorem d_Model_pack_30 : decode (mC m_Model_pack) 30 = .ok (.iconst 0, 1) := by decide +kernel
theorem d_Model_pack_31 : decode (mC m_Model_pack) 31 = .ok (.goto 7, 3) := by decide +kernel
theorem d_Model_pack_34 : decode (mC m_Model_pack) 34 = .ok (.aload_n 0, 1) := by decide +kernel
theorem d_Model_pack_35 : decode (mC m_Model_pack) 35 = .ok (.invokevirtual 141, 3) := by decide +kernel
theorem d_Model_pack_38 : decode (mC m_Model_pack) 38 = .ok (.ireturn, 1) := by decide +kernel
def b_Model_pack_20 (F : Nat) (v0 : Nat) (s0 : Nat) (s1 : Int32) (w : zW) : Option (Int32 × zW) := (putI w s0 9 0 s1).bind fun w20 => (getI w20 v0 9 0).bind fun x24 => if x24 ≤ 0 then ((zobj w20 v0 9).bind fun _ => (f_Model_takeContent F v0 w20).bind fun r35 => some (r35.1, r35.2)) else (some ((0 : Int32), w20))
set_option maxRecDepth 100000 in
set_option maxHeartbeats 4000000 in
theorem b_Model_pack_20_ok (G : zG) (F : Nat) (v0 : Nat) (s0 : Nat) (s1 : Int32) (w : zW) (r : (Int32 × zW)) (h : b_Model_pack_20 F v0 s0 s1 w = some r) : zV G m_Model_pack 20 [(0, .ref (z0 G + v0))] [.int s1, .ref (z0 G + s0)] w 0 0 (oI r.1) r.2 := by
  unfold b_Model_pack_20 at h
  obtain ⟨w20, e20, h⟩ := ob h
  refine V_putI (ci := 9) (k := 0) t_Model d_Model_pack_20 e20 rfl (by decide) in_Model k882 ty_Model nm_Model rfl (Or.inl rfl) ?_
  refine V_aload_n (i := 0) d_Model_pack_23 rfl 0 rfl ?_
  obtain ⟨x24, e24, h⟩ := ob h
  refine V_getI (ci := 9) (k := 0) d_Model_pack_24 e24 rfl (by decide) in_Model k882 ?_
  refine V_if_le (tgt := 34) d_Model_pack_27 (by decide) (fun c27 => ?_) (fun c27 => ?_)
  · rw [if_pos c27] at h
    refine V_aload_n (i := 0) d_Model_pack_34 rfl 0 rfl ?_
    obtain ⟨_, eo35, h⟩ := ob h
    obtain ⟨r35, e35, h⟩ := ob h
    refine V_call (v := some (.int r35.1)) (st := []) (inv_V (N := m_Model_takeContent) (As := []) (ci := 9) d_Model_pack_35 eo35 rfl k1077 k1079 sel_Model_takeContent kc_Model_takeContent y_Model_takeContent) ⟨Or.inl kc_Model_takeContent, k10, by decide, by decide⟩ (Nat.le_of_ble_eq_true rfl) (by decide) (by decide) (c_Model_takeContent G F v0 w20 r35 e35) ?_
    obtain rfl := Option.some.inj h
    exact V_iret rfl (by decide) (by decide) d_Model_pack_38
  · rw [if_neg c27] at h
    refine V_iconst (v := 0) d_Model_pack_30 (by decide) ?_
    refine V_goto (tgt := 38) d_Model_pack_31 (by decide) ?_
    obtain rfl := Option.some.inj h
    exact V_iret rfl (by decide) (by decide) d_Model_pack_38
def b_Model_pack_0 (F : Nat) (v0 : Nat) (w : zW) : Option (Int32 × zW) := (zobj w v0 9).bind fun _ => (f_Model_packBuffer F v0 w).bind fun r1 => (getI r1.2 v0 9 6).bind fun x6 => if x6 ≤ (200 : Int32) then (b_Model_pack_20 F v0 v0 (0 : Int32) r1.2) else (b_Model_pack_20 F v0 v0 (1 : Int32) r1.2)
set_option maxRecDepth 100000 in
set_option maxHeartbeats 4000000 in
theorem b_Model_pack_0_ok (G : zG) (F : Nat) (v0 : Nat) (w : zW) (r : (Int32 × zW)) (h : b_Model_pack_0 F v0 w = some r) : zV G m_Model_pack 0 [(0, .ref (z0 G + v0))] [] w 0 0 (oI r.1) r.2 := by
  unfold b_Model_pack_0 at h
  refine V_aload_n (i := 0) d_Model_pack_0 rfl 0 rfl ?_
  obtain ⟨_, eo1, h⟩ := ob h
  obtain ⟨r1, e1, h⟩ := ob h
  refine V_call (v := none) (st := []) (inv_V (N := m_Model_packBuffer) (As := []) (ci := 9) d_Model_pack_1 eo1 rfl k1028 k1030 sel_Model_packBuffer kc_Model_packBuffer y_Model_packBuffer) ⟨Or.inl kc_Model_packBuffer, k10, by decide, by decide⟩ (Nat.le_of_ble_eq_true rfl) (by decide) (by decide) (c_Model_packBuffer G F v0 w r1 e1) ?_
  refine V_aload_n (i := 0) d_Model_pack_4 rfl 0 rfl ?_
  refine V_aload_n (i := 0) d_Model_pack_5 rfl 0 rfl ?_
  obtain ⟨x6, e6, h⟩ := ob h
  refine V_getI (ci := 9) (k := 6) d_Model_pack_6 e6 rfl (by decide) in_Model k888 ?_
  refine V_sipush (v := 200) d_Model_pack_9 (by decide) ?_
  refine V_icmp_le (tgt := 19) d_Model_pack_12 (by decide) (fun c12 => ?_) (fun c12 => ?_)
  · rw [if_pos c12] at h
    refine V_iconst (v := 0) d_Model_pack_19 (by decide) ?_
    exact b_Model_pack_20_ok G F v0 v0 (0 : Int32) r1.2 _ h
  · rw [if_neg c12] at h
    refine V_iconst (v := 1) d_Model_pack_15 (by decide) ?_
    refine V_goto (tgt := 20) d_Model_pack_16 (by decide) ?_
    exact b_Model_pack_20_ok G F v0 v0 (1 : Int32) r1.2 _ h
def f_Model_pack (F : Nat) (v0 : Nat) (w : zW) : Option (Int32 × zW) := b_Model_pack_0 F v0 w
theorem c_Model_pack (G : zG) (F : Nat) (v0 : Nat) (w : zW) (r : (Int32 × zW)) (h : f_Model_pack F v0 w = some r) : zCT G m_Model_pack [.ref (z0 G + v0)] w (oI r.1) r.2 := zCT.ofV (by decide +kernel) (Or.inl ⟨kc_Model_pack, rfl⟩) (Nat.le_of_ble_eq_true rfl) (b_Model_pack_0_ok G F v0 w r h)

/-! ZipArrayModel.bit()I -/
def m_Model_bit : zM := (⟨R_Model, "bit", "()I"⟩, prog_11_method_28_code, 2, (some .int), [], { frames := 0, cells := 0, slots := 0, locals := 0 })
theorem k890 : Cond.fieldLink R_Model 153 (T_Model 8).1 (T_Model 8).2.1 (T_Model 8).2.2.1 ∈ zTb := tb_at 890 (by decide +kernel) rfl
theorem kc_Model_bit : Cond.code (mY m_Model_bit) (mC m_Model_bit) (mL m_Model_bit) (mT m_Model_bit) ∈ zTb := tb_at 1092 (by decide +kernel) rfl
theorem y_Model_bit : (mY m_Model_bit).cls ≠ "java/lang/invoke/MethodHandle" ∧ (mY m_Model_bit).cls ≠ "java/lang/invoke/VarHandle" ∧ (parseMethodDescriptor (mY m_Model_bit).desc).map (fun d => d.parameters.length) = some 0 := by decide +kernel
theorem sel_Model_bit : Cond.selects R_Model (mY m_Model_bit) (mY m_Model_bit) ∈ zTb := sel_at (y := mY m_Model_bit) (n := 33) 50 (by decide +kernel)
theorem d_Model_bit_0 : decode (mC m_Model_bit) 0 = .ok (.aload_n 0, 1) := by decide +kernel
theorem d_Model_bit_1 : decode (mC m_Model_bit) 1 = .ok (.getfield 149, 3) := by decide +kernel
theorem d_Model_bit_4 : decode (mC m_Model_bit) 4 = .ok (.ifCond .ne 17, 3) := by decide +kernel
theorem d_Model_bit_7 : decode (mC m_Model_bit) 7 = .ok (.aload_n 0, 1) := by decide +kernel
theorem d_Model_bit_8 : decode (mC m_Model_bit) 8 = .ok (.getfield 99, 3) := by decide +kernel
theorem d_Model_bit_11 : decode (mC m_Model_bit) 11 = .ok (.bipush 8, 2) := by decide +kernel
theorem d_Model_bit_13 : decode (mC m_Model_bit) 13 = .ok (.aload_n 0, 1) := by decide +kernel
theorem d_Model_bit_14 : decode (mC m_Model_bit) 14 = .ok (.getfield 153, 3) := by decide +kernel
theorem d_Model_bit_17 : decode (mC m_Model_bit) 17 = .ok (.imul, 1) := by decide +kernel
theorem d_Model_bit_18 : decode (mC m_Model_bit) 18 = .ok (.if_icmp .lt 10, 3) := by decide +kernel
theorem d_Model_bit_21 : decode (mC m_Model_bit) 21 = .ok (.aload_n 0, 1) := by decide +kernel
theorem d_Model_bit_22 : decode (mC m_Model_bit) 22 = .ok (.iconst 1, 1) := by decide +kernel
theorem d_Model_bit_23 : decode (mC m_Model_bit) 23 = .ok (.putfield 149, 3) := by decide +kernel
theorem d_Model_bit_26 : decode (mC m_Model_bit) 26 = .ok (.iconst 0, 1) := by decide +kernel
theorem d_Model_bit_27 : decode (mC m_Model_bit) 27 = .ok (.ireturn, 1) := by decide +kernel
theorem d_Model_bit_28 : decode (mC m_Model_bit) 28 = .ok (.aload_n 0, 1) := by decide +kernel
theorem d_Model_bit_29 : decode (mC m_Model_bit) 29 = .ok (.getfield 19, 3) := by decide +kernel
theorem d_Model_bit_32 : decode (mC m_Model_bit) 32 = .ok (.aload_n 0, 1) := by decide +kernel
theorem d_Model_bit_33 : decode (mC m_Model_bit) 33 = .ok (.getfield 99, 3) := by decide +kernel
theorem d_Model_bit_36 : decode (mC m_Model_bit) 36 = .ok (.bipush 8, 2) := by decide +kernel
theorem d_Model_bit_38 : decode (mC m_Model_bit) 38 = .ok (.idiv, 1) := by decide +kernel
theorem d_Model_bit_39 : decode (mC m_Model_bit) 39 = .ok (.iaload, 1) := by decide +kernel
theorem d_Model_bit_40 : decode (mC m_Model_bit) 40 = .ok (.aload_n 0, 1) := by decide +kernel
theorem d_Model_bit_41 : decode (mC m_Model_bit) 41 = .ok (.getfield 99, 3) := by decide +kernel
theorem d_Model_bit_44 : decode (mC m_Model_bit) 44 = .ok (.bipush 8, 2) := by decide +kernel
theorem d_Model_bit_46 : decode (mC m_Model_bit) 46 = .ok (.irem, 1) := by decide +kernel
theorem d_Model_bit_47 : decode (mC m_Model_bit) 47 = .ok (.ishr, 1) := by decide +kernel
theorem d_Model_bit_48 : decode (mC m_Model_bit) 48 = .ok (.iconst 1, 1) := by decide +kernel
theorem d_Model_bit_49 : decode (mC m_Model_bit) 49 = .ok (.iand, 1) := by decide +kernel
theorem d_Model_bit_50 : decode (mC m_Model_bit) 50 = .ok (.istore_n 1, 1) := by decide +kernel
theorem d_Model_bit_51 : decode (mC m_Model_bit) 51 = .ok (.aload_n 0, 1) := by decide +kernel
theorem d_Model_bit_52 : decode (mC m_Model_bit) 52 = .ok (.dup, 1) := by decide +kernel
theorem d_Model_bit_53 : decode (mC m_Model_bit) 53 = .ok (.getfield 99, 3) := by decide +kernel
theorem d_Model_bit_56 : decode (mC m_Model_bit) 56 = .ok (.iconst 1, 1) := by decide +kernel
theorem d_Model_bit_57 : decode (mC m_Model_bit) 57 = .ok (.iadd, 1) := by decide +kernel
theorem d_Model_bit_58 : decode (mC m_Model_bit) 58 = .ok (.putfield 99, 3) := by decide +kernel
theorem d_Model_bit_61 : decode (mC m_Model_bit) 61 = .ok (.iload_n 1, 1) := by decide +kernel
theorem d_Model_bit_62 : decode (mC m_Model_bit) 62 = .ok (.ireturn, 1) := by decide +kernel
def b_Model_bit_21 (F : Nat) (v0 : Nat) (w : zW) : Option (Int32 × zW) := (putI w v0 9 11 (1 : Int32)).bind fun w23 => some ((0 : Int32), w23)
set_option maxRecDepth 100000 in
set_option maxHeartbeats 4000000 in
theorem b_Model_bit_21_ok (G : zG) (F : Nat) (v0 : Nat) (w : zW) (r : (Int32 × zW)) (h : b_Model_bit_21 F v0 w = some r) : zV G m_Model_bit 21 [(0, .ref (z0 G + v0))] [] w 0 0 (oI r.1) r.2 := by
  unfold b_Model_bit_21 at h
  refine V_aload_n (i := 0) d_Model_bit_21 rfl 0 rfl ?_
  refine V_iconst (v := 1) d_Model_bit_22 (by decide) ?_
  obtain ⟨w23, e23, h⟩ := ob h
  refine V_putI (ci := 9) (k := 11) t_Model d_Model_bit_23 e23 rfl (by decide) in_Model k893 ty_Model nm_Model rfl (Or.inr ⟨rfl, Or.inr rfl⟩) ?_
  refine V_iconst (v := 0) d_Model_bit_26 (by decide) ?_
  obtain rfl := Option.some.inj h
  exact V_iret rfl (by decide) (by decide) d_Model_bit_27
def b_Model_bit_0 (F : Nat) (v0 : Nat) (w : zW) : Option (Int32 × zW) := (getI w v0 9 11).bind fun x1 => if x1 = 0 then ((getI w v0 9 10).bind fun x8 => (getI w v0 9 8).bind fun x14 => if x8 < ((8 : Int32) * x14) then ((getR w v0 9 9).bind fun x29 => (getI w v0 9 10).bind fun x33 => (aget w x29 (x33 / (8 : Int32))).bind fun x39 => (getI w v0 9 10).bind fun x41 => (getI w v0 9 10).bind fun x53 => (putI w v0 9 10 (x53 + (1 : Int32))).bind fun w58 => some (((x39 >>> ((x41 % (8 : Int32)) &&& 31)) &&& (1 : Int32)), w58)) else (b_Model_bit_21 F v0 w)) else (b_Model_bit_21 F v0 w)
set_option maxRecDepth 100000 in
set_option maxHeartbeats 4000000 in
theorem b_Model_bit_0_ok (G : zG) (F : Nat) (v0 : Nat) (w : zW) (r : (Int32 × zW)) (h : b_Model_bit_0 F v0 w = some r) : zV G m_Model_bit 0 [(0, .ref (z0 G + v0))] [] w 0 0 (oI r.1) r.2 := by
  unfold b_Model_bit_0 at h
  refine V_aload_n (i := 0) d_Model_bit_0 rfl 0 rfl ?_
  obtain ⟨x1, e1, h⟩ := ob h
  refine V_getI (ci := 9) (k := 11) d_Model_bit_1 e1 rfl (by decide) in_Model k893 ?_
  refine V_if_ne (tgt := 21) d_Model_bit_4 (by decide) (fun c4 => ?_) (fun c4 => ?_)
  · rw [if_neg c4] at h
    exact b_Model_bit_21_ok G F v0 w _ h
  · rw [if_pos c4] at h
    refine V_aload_n (i := 0) d_Model_bit_7 rfl 0 rfl ?_
    obtain ⟨x8, e8, h⟩ := ob h
    refine V_getI (ci := 9) (k := 10) d_Model_bit_8 e8 rfl (by decide) in_Model k892 ?_
    refine V_bipush (v := 8) d_Model_bit_11 (by decide) ?_
    refine V_aload_n (i := 0) d_Model_bit_13 rfl 0 rfl ?_
    obtain ⟨x14, e14, h⟩ := ob h
    refine V_getI (ci := 9) (k := 8) d_Model_bit_14 e14 rfl (by decide) in_Model k890 ?_
    refine V_imul d_Model_bit_17 ?_
    refine V_icmp_lt (tgt := 28) d_Model_bit_18 (by decide) (fun c18 => ?_) (fun c18 => ?_)
    · rw [if_pos c18] at h
      refine V_aload_n (i := 0) d_Model_bit_28 rfl 0 rfl ?_
      obtain ⟨x29, e29, h⟩ := ob h
      refine V_getR (ci := 9) (k := 9) d_Model_bit_29 e29 rfl (by decide) in_Model k891 ?_
      refine V_aload_n (i := 0) d_Model_bit_32 rfl 0 rfl ?_
      obtain ⟨x33, e33, h⟩ := ob h
      refine V_getI (ci := 9) (k := 10) d_Model_bit_33 e33 rfl (by decide) in_Model k892 ?_
      refine V_bipush (v := 8) d_Model_bit_36 (by decide) ?_
      refine V_idiv (by decide) d_Model_bit_38 ?_
      obtain ⟨x39, e39, h⟩ := ob h
      refine V_aget d_Model_bit_39 e39 ?_
      refine V_aload_n (i := 0) d_Model_bit_40 rfl 0 rfl ?_
      obtain ⟨x41, e41, h⟩ := ob h
      refine V_getI (ci := 9) (k := 10) d_Model_bit_41 e41 rfl (by decide) in_Model k892 ?_
      refine V_bipush (v := 8) d_Model_bit_44 (by decide) ?_
      refine V_irem (by decide) d_Model_bit_46 ?_
      refine V_ishr d_Model_bit_47 ?_
      refine V_iconst (v := 1) d_Model_bit_48 (by decide) ?_
      refine V_iand d_Model_bit_49 ?_
      refine V_istore_n (i := 1) d_Model_bit_50 rfl (by decide) rfl ?_
      refine V_aload_n (i := 0) d_Model_bit_51 rfl 1 rfl ?_
      refine V_dup rfl d_Model_bit_52 ?_
      obtain ⟨x53, e53, h⟩ := ob h
      refine V_getI (ci := 9) (k := 10) d_Model_bit_53 e53 rfl (by decide) in_Model k892 ?_
      refine V_iconst (v := 1) d_Model_bit_56 (by decide) ?_
      refine V_iadd d_Model_bit_57 ?_
      obtain ⟨w58, e58, h⟩ := ob h
      refine V_putI (ci := 9) (k := 10) t_Model d_Model_bit_58 e58 rfl (by decide) in_Model k892 ty_Model nm_Model rfl (Or.inl rfl) ?_
      refine V_iload_n (i := 1) d_Model_bit_61 rfl 0 rfl ?_
      obtain rfl := Option.some.inj h
      exact V_iret rfl (by decide) (by decide) d_Model_bit_62
    · rw [if_neg c18] at h
      exact b_Model_bit_21_ok G F v0 w _ h
def f_Model_bit (F : Nat) (v0 : Nat) (w : zW) : Option (Int32 × zW) := b_Model_bit_0 F v0 w
theorem c_Model_bit (G : zG) (F : Nat) (v0 : Nat) (w : zW) (r : (Int32 × zW)) (h : f_Model_bit F v0 w = some r) : zCT G m_Model_bit [.ref (z0 G + v0)] w (oI r.1) r.2 := zCT.ofV (by decide +kernel) (Or.inl ⟨kc_Model_bit, rfl⟩) (Nat.le_of_ble_eq_true rfl) (b_Model_bit_0_ok G F v0 w r h)

/-! ZipArrayModel.bits(I)I -/
def m_Model_bits : zM := (⟨R_Model, "bits", "(I)I"⟩, prog_11_method_29_code, 4, (some .int), [], { frames := 1, cells := 0, slots := 0, locals := 21 })
theorem k1089 : Cond.methodLink R_Model 156 (mY m_Model_bit) ∈ zTb := tb_at 1089 (by decide +kernel) rfl
theorem k1091 : Cond.instanceMethod (mY m_Model_bit) ∈ zTb := tb_at 1091 (by decide +kernel) rfl
theorem kc_Model_bits : Cond.code (mY m_Model_bits) (mC m_Model_bits) (mL m_Model_bits) (mT m_Model_bits) ∈ zTb := tb_at 1096 (by decide +kernel) rfl
theorem y_Model_bits : (mY m_Model_bits).cls ≠ "java/lang/invoke/MethodHandle" ∧ (mY m_Model_bits).cls ≠ "java/lang/invoke/VarHandle" ∧ (parseMethodDescriptor (mY m_Model_bits).desc).map (fun d => d.parameters.length) = some 1 := by decide +kernel
theorem sel_Model_bits : Cond.selects R_Model (mY m_Model_bits) (mY m_Model_bits) ∈ zTb := sel_at (y := mY m_Model_bits) (n := 33) 51 (by decide +kernel)
theorem d_Model_bits_0 : decode (mC m_Model_bits) 0 = .ok (.iconst 0, 1) := by decide +kernel
theorem d_Model_bits_1 : decode (mC m_Model_bits) 1 = .ok (.istore_n 2, 1) := by decide +kernel
theorem d_Model_bits_2 : decode (mC m_Model_bits) 2 = .ok (.iconst 0, 1) := by decide +kernel
theorem d_Model_bits_3 : decode (mC m_Model_bits) 3 = .ok (.istore_n 3, 1) := by decide +kernel
theorem d_Model_bits_4 : decode (mC m_Model_bits) 4 = .ok (.iload_n 3, 1) := by decide +kernel
theorem d_Model_bits_5 : decode (mC m_Model_bits) 5 = .ok (.iload_n 1, 1) := by decide +kernel
theorem d_Model_bits_6 : decode (mC m_Model_bits) 6 = .ok (.if_icmp .ge 18, 3) := by decide +kernel
theorem d_Model_bits_9 : decode (mC m_Model_bits) 9 = .ok (.iload_n 2, 1) := by decide +kernel
theorem d_Model_bits_10 : decode (mC m_Model_bits) 10 = .ok (.aload_n 0, 1) := by decide +kernel
theorem d_Model_bits_11 : decode (mC m_Model_bits) 11 = .ok (.invokevirtual 156, 3) := by decide +kernel
theorem d_Model_bits_14 : decode (mC m_Model_bits) 14 = .ok (.iload_n 3, 1) := by decide +kernel
theorem d_Model_bits_15 : decode (mC m_Model_bits) 15 = .ok (.ishl, 1) := by decide +kernel
theorem d_Model_bits_16 : decode (mC m_Model_bits) 16 = .ok (.ior, 1) := by decide +kernel
theorem d_Model_bits_17 : decode (mC m_Model_bits) 17 = .ok (.istore_n 2, 1) := by decide +kernel
theorem d_Model_bits_18 : decode (mC m_Model_bits) 18 = .ok (.iinc 3 1, 3) := by decide +kernel
theorem d_Model_bits_21 : decode (mC m_Model_bits) 21 = .ok (.goto (-17), 3) := by decide +kernel
theorem d_Model_bits_24 : decode (mC m_Model_bits) 24 = .ok (.iload_n 2, 1) := by decide +kernel
theorem d_Model_bits_25 : decode (mC m_Model_bits) 25 = .ok (.ireturn, 1) := by decide +kernel
def b_Model_bits_4 (F : Nat) (K4 : Nat → Int32 → Int32 → Int32 → zW → Option (Int32 × zW)) (v0 : Nat) (v1 : Int32) (v2 : Int32) (v3 : Int32) (w : zW) : Option (Int32 × zW) := if v1 ≤ v3 then (some (v2, w)) else ((zobj w v0 9).bind fun _ => (f_Model_bit F v0 w).bind fun r11 => K4 v0 v1 (v2 ||| (r11.1 <<< (v3 &&& 31))) (v3 + (1 : Int32)) r11.2)
set_option maxRecDepth 100000 in
set_option maxHeartbeats 4000000 in
theorem b_Model_bits_4_ok (G : zG) (F : Nat) (K4 : Nat → Int32 → Int32 → Int32 → zW → Option (Int32 × zW)) (hK4 : ∀ (v0 : Nat) (v1 : Int32) (v2 : Int32) (v3 : Int32) (w : zW) (r : (Int32 × zW)), K4 v0 v1 v2 v3 w = some r → zV G m_Model_bits 4 [(0, .ref (z0 G + v0)), (1, .int v1), (2, .int v2), (3, .int v3)] [] w 0 0 (oI r.1) r.2) (v0 : Nat) (v1 : Int32) (v2 : Int32) (v3 : Int32) (w : zW) (r : (Int32 × zW)) (h : b_Model_bits_4 F K4 v0 v1 v2 v3 w = some r) : zV G m_Model_bits 4 [(0, .ref (z0 G + v0)), (1, .int v1), (2, .int v2), (3, .int v3)] [] w 0 0 (oI r.1) r.2 := by
  unfold b_Model_bits_4 at h
  refine V_iload_n (i := 3) d_Model_bits_4 rfl 3 rfl ?_
  refine V_iload_n (i := 1) d_Model_bits_5 rfl 1 rfl ?_
  refine V_icmp_ge (tgt := 24) d_Model_bits_6 (by decide) (fun c6 => ?_) (fun c6 => ?_)
  · rw [if_pos c6] at h
    refine V_iload_n (i := 2) d_Model_bits_24 rfl 2 rfl ?_
    obtain rfl := Option.some.inj h
    exact V_iret rfl (by decide) (by decide) d_Model_bits_25
  · rw [if_neg c6] at h
    refine V_iload_n (i := 2) d_Model_bits_9 rfl 2 rfl ?_
    refine V_aload_n (i := 0) d_Model_bits_10 rfl 0 rfl ?_
    obtain ⟨_, eo11, h⟩ := ob h
    obtain ⟨r11, e11, h⟩ := ob h
    refine V_call (v := some (.int r11.1)) (st := [.int v2]) (inv_V (N := m_Model_bit) (As := []) (ci := 9) d_Model_bits_11 eo11 rfl k1089 k1091 sel_Model_bit kc_Model_bit y_Model_bit) ⟨Or.inl kc_Model_bit, k10, by decide, by decide⟩ (Nat.le_of_ble_eq_true rfl) (by decide) (by decide) (c_Model_bit G F v0 w r11 e11) ?_
    refine V_iload_n (i := 3) d_Model_bits_14 rfl 3 rfl ?_
    refine V_ishl d_Model_bits_15 ?_
    refine V_ior d_Model_bits_16 ?_
    refine V_istore_n (i := 2) d_Model_bits_17 rfl (by decide) rfl ?_
    refine V_iinc (i := 3) (v := (v3 + (1 : Int32))) d_Model_bits_18 3 rfl (congrArg (fun y => v3 + y) (by decide : Int32.ofInt (1) = (1 : Int32))) (by decide) rfl ?_
    refine V_goto (tgt := 4) d_Model_bits_21 (by decide) ?_
    refine V_lv [2, 3, 1, 0] rfl ?_
    exact hK4 v0 v1 (v2 ||| (r11.1 <<< (v3 &&& 31))) (v3 + (1 : Int32)) r11.2 _ h
def l_Model_bits_4 (F : Nat) : Nat → Nat → Int32 → Int32 → Int32 → zW → Option (Int32 × zW)
  | 0 => fun _ _ _ _ _ => none
  | n + 1 => b_Model_bits_4 F (l_Model_bits_4 F n)
theorem l_Model_bits_4_ok (G : zG) (F : Nat) (n : Nat) :  ∀ (v0 : Nat) (v1 : Int32) (v2 : Int32) (v3 : Int32) (w : zW) (r : (Int32 × zW)), l_Model_bits_4 F n v0 v1 v2 v3 w = some r → zV G m_Model_bits 4 [(0, .ref (z0 G + v0)), (1, .int v1), (2, .int v2), (3, .int v3)] [] w 0 0 (oI r.1) r.2 := by
  induction n with
  | zero => intro v0 v1 v2 v3 w r h; exact nomatch (show (none : Option (Int32 × zW)) = some r from h)
  | succ n ih => intro v0 v1 v2 v3 w r h; exact b_Model_bits_4_ok G F (l_Model_bits_4 F n) ih v0 v1 v2 v3 w r h
def b_Model_bits_0 (F : Nat) (v0 : Nat) (v1 : Int32) (w : zW) : Option (Int32 × zW) := l_Model_bits_4 F F v0 v1 (0 : Int32) (0 : Int32) w
set_option maxRecDepth 100000 in
set_option maxHeartbeats 4000000 in
theorem b_Model_bits_0_ok (G : zG) (F : Nat) (v0 : Nat) (v1 : Int32) (w : zW) (r : (Int32 × zW)) (h : b_Model_bits_0 F v0 v1 w = some r) : zV G m_Model_bits 0 [(0, .ref (z0 G + v0)), (1, .int v1)] [] w 0 0 (oI r.1) r.2 := by
  unfold b_Model_bits_0 at h
  refine V_iconst (v := 0) d_Model_bits_0 (by decide) ?_
  refine V_istore_n (i := 2) d_Model_bits_1 rfl (by decide) rfl ?_
  refine V_iconst (v := 0) d_Model_bits_2 (by decide) ?_
  refine V_istore_n (i := 3) d_Model_bits_3 rfl (by decide) rfl ?_
  refine V_lv [2, 3, 1, 0] rfl ?_
  exact l_Model_bits_4_ok G F F v0 v1 (0 : Int32) (0 : Int32) w _ h
def f_Model_bits (F : Nat) (v0 : Nat) (v1 : Int32) (w : zW) : Option (Int32 × zW) := b_Model_bits_0 F v0 v1 w
theorem c_Model_bits (G : zG) (F : Nat) (v0 : Nat) (v1 : Int32) (w : zW) (r : (Int32 × zW)) (h : f_Model_bits F v0 v1 w = some r) : zCT G m_Model_bits [.ref (z0 G + v0), .int v1] w (oI r.1) r.2 := zCT.ofV (by decide +kernel) (Or.inl ⟨kc_Model_bits, rfl⟩) (Nat.le_of_ble_eq_true rfl) (b_Model_bits_0_ok G F v0 v1 w r h)

/-! ZipArrayModel.symbol(II)I -/
def m_Model_symbol : zM := (⟨R_Model, "symbol", "(II)I"⟩, prog_11_method_30_code, 6, (some .int), [], { frames := 1, cells := 0, slots := 0, locals := 21 })
theorem kc_Model_symbol : Cond.code (mY m_Model_symbol) (mC m_Model_symbol) (mL m_Model_symbol) (mT m_Model_symbol) ∈ zTb := tb_at 1117 (by decide +kernel) rfl
theorem y_Model_symbol : (mY m_Model_symbol).cls ≠ "java/lang/invoke/MethodHandle" ∧ (mY m_Model_symbol).cls ≠ "java/lang/invoke/VarHandle" ∧ (parseMethodDescriptor (mY m_Model_symbol).desc).map (fun d => d.parameters.length) = some 2 := by decide +kernel
theorem sel_Model_symbol : Cond.selects R_Model (mY m_Model_symbol) (mY m_Model_symbol) ∈ zTb := sel_at (y := mY m_Model_symbol) (n := 33) 56 (by decide +kernel)
theorem d_Model_symbol_0 : decode (mC m_Model_symbol) 0 = .ok (.iconst 0, 1) := by decide +kernel
theorem d_Model_symbol_1 : decode (mC m_Model_symbol) 1 = .ok (.istore_n 3, 1) := by decide +kernel
theorem d_Model_symbol_2 : decode (mC m_Model_symbol) 2 = .ok (.iconst 1, 1) := by decide +kernel
theorem d_Model_symbol_3 : decode (mC m_Model_symbol) 3 = .ok (.istore 4, 2) := by decide +kernel
theorem d_Model_symbol_5 : decode (mC m_Model_symbol) 5 = .ok (.iload 4, 2) := by decide +kernel
theorem d_Model_symbol_7 : decode (mC m_Model_symbol) 7 = .ok (.bipush 16, 2) := by decide +kernel
theorem d_Model_symbol_9 : decode (mC m_Model_symbol) 9 = .ok (.if_icmp .ge 77, 3) := by decide +kernel
theorem d_Model_symbol_12 : decode (mC m_Model_symbol) 12 = .ok (.aload_n 0, 1) := by decide +kernel
theorem d_Model_symbol_13 : decode (mC m_Model_symbol) 13 = .ok (.getfield 149, 3) := by decide +kernel
theorem d_Model_symbol_16 : decode (mC m_Model_symbol) 16 = .ok (.ifCond .ne 70, 3) := by decide +kernel
theorem d_Model_symbol_19 : decode (mC m_Model_symbol) 19 = .ok (.iconst 2, 1) := by decide +kernel
theorem d_Model_symbol_20 : decode (mC m_Model_symbol) 20 = .ok (.iload_n 3, 1) := by decide +kernel
theorem d_Model_symbol_21 : decode (mC m_Model_symbol) 21 = .ok (.imul, 1) := by decide +kernel
theorem d_Model_symbol_22 : decode (mC m_Model_symbol) 22 = .ok (.aload_n 0, 1) := by decide +kernel
theorem d_Model_symbol_23 : decode (mC m_Model_symbol) 23 = .ok (.invokevirtual 156, 3) := by decide +kernel
theorem d_Model_symbol_26 : decode (mC m_Model_symbol) 26 = .ok (.iadd, 1) := by decide +kernel
theorem d_Model_symbol_27 : decode (mC m_Model_symbol) 27 = .ok (.istore_n 3, 1) := by decide +kernel
theorem d_Model_symbol_28 : decode (mC m_Model_symbol) 28 = .ok (.iload_n 1, 1) := by decide +kernel
theorem d_Model_symbol_29 : decode (mC m_Model_symbol) 29 = .ok (.istore 5, 2) := by decide +kernel
theorem d_Model_symbol_31 : decode (mC m_Model_symbol) 31 = .ok (.iload 5, 2) := by decide +kernel
theorem d_Model_symbol_33 : decode (mC m_Model_symbol) 33 = .ok (.iload_n 1, 1) := by decide +kernel
theorem d_Model_symbol_34 : decode (mC m_Model_symbol) 34 = .ok (.iload_n 2, 1) := by decide +kernel
theorem d_Model_symbol_35 : decode (mC m_Model_symbol) 35 = .ok (.iadd, 1) := by decide +kernel
theorem d_Model_symbol_36 : decode (mC m_Model_symbol) 36 = .ok (.if_icmp .ge 44, 3) := by decide +kernel
theorem d_Model_symbol_39 : decode (mC m_Model_symbol) 39 = .ok (.aload_n 0, 1) := by decide +kernel
theorem d_Model_symbol_40 : decode (mC m_Model_symbol) 40 = .ok (.getfield 149, 3) := by decide +kernel
theorem d_Model_symbol_43 : decode (mC m_Model_symbol) 43 = .ok (.ifCond .ne 37, 3) := by decide +kernel
theorem d_Model_symbol_46 : decode (mC m_Model_symbol) 46 = .ok (.aload_n 0, 1) := by decide +kernel
theorem d_Model_symbol_47 : decode (mC m_Model_symbol) 47 = .ok (.getfield 22, 3) := by decide +kernel
theorem d_Model_symbol_50 : decode (mC m_Model_symbol) 50 = .ok (.iload 5, 2) := by decide +kernel
theorem d_Model_symbol_52 : decode (mC m_Model_symbol) 52 = .ok (.iaload, 1) := by decide +kernel
theorem d_Model_symbol_53 : decode (mC m_Model_symbol) 53 = .ok (.iload 4, 2) := by decide +kernel
theorem d_Model_symbol_55 : decode (mC m_Model_symbol) 55 = .ok (.if_icmp .ne 19, 3) := by decide +kernel
theorem d_Model_symbol_58 : decode (mC m_Model_symbol) 58 = .ok (.aload_n 0, 1) := by decide +kernel
theorem d_Model_symbol_59 : decode (mC m_Model_symbol) 59 = .ok (.getfield 25, 3) := by decide +kernel
theorem d_Model_symbol_62 : decode (mC m_Model_symbol) 62 = .ok (.iload 5, 2) := by decide +kernel
theorem d_Model_symbol_64 : decode (mC m_Model_symbol) 64 = .ok (.iaload, 1) := by decide +kernel
theorem d_Model_symbol_65 : decode (mC m_Model_symbol) 65 = .ok (.iload_n 3, 1) := by decide +kernel
theorem d_Model_symbol_66 : decode (mC m_Model_symbol) 66 = .ok (.if_icmp .ne 8, 3) := by decide +kernel
theorem d_Model_symbol_69 : decode (mC m_Model_symbol) 69 = .ok (.iload 5, 2) := by decide +kernel
theorem d_Model_symbol_71 : decode (mC m_Model_symbol) 71 = .ok (.iload_n 1, 1) := by decide +kernel
theorem d_Model_symbol_72 : decode (mC m_Model_symbol) 72 = .ok (.isub, 1) := by decide +kernel
theorem d_Model_symbol_73 : decode (mC m_Model_symbol) 73 = .ok (.ireturn, 1) := by decide +kernel
theorem d_Model_symbol_74 : decode (mC m_Model_symbol) 74 = .ok (.iinc 5 1, 3) := by decide +kernel
theorem d_Model_symbol_77 : decode (mC m_Model_symbol) 77 = .ok (.goto (-46), 3) := by decide +kernel
theorem d_Model_symbol_80 : decode (mC m_Model_symbol) 80 = .ok (.iinc 4 1, 3) := by decide +kernel
theorem d_Model_symbol_83 : decode (mC m_Model_symbol) 83 = .ok (.goto (-78), 3) := by decide +kernel
theorem d_Model_symbol_86 : decode (mC m_Model_symbol) 86 = .ok (.aload_n 0, 1) := by decide +kernel
theorem d_Model_symbol_87 : decode (mC m_Model_symbol) 87 = .ok (.iconst 1, 1) := by decide +kernel
theorem d_Model_symbol_88 : decode (mC m_Model_symbol) 88 = .ok (.putfield 149, 3) := by decide +kernel
theorem d_Model_symbol_91 : decode (mC m_Model_symbol) 91 = .ok (.iconst 0, 1) := by decide +kernel
theorem d_Model_symbol_92 : decode (mC m_Model_symbol) 92 = .ok (.ireturn, 1) := by decide +kernel
def b_Model_symbol_86 (F : Nat) (v0 : Nat) (w : zW) : Option (Int32 × zW) := (putI w v0 9 11 (1 : Int32)).bind fun w88 => some ((0 : Int32), w88)
set_option maxRecDepth 100000 in
set_option maxHeartbeats 4000000 in
theorem b_Model_symbol_86_ok (G : zG) (F : Nat) (v0 : Nat) (w : zW) (r : (Int32 × zW)) (h : b_Model_symbol_86 F v0 w = some r) : zV G m_Model_symbol 86 [(0, .ref (z0 G + v0))] [] w 0 0 (oI r.1) r.2 := by
  unfold b_Model_symbol_86 at h
  refine V_aload_n (i := 0) d_Model_symbol_86 rfl 0 rfl ?_
  refine V_iconst (v := 1) d_Model_symbol_87 (by decide) ?_
  obtain ⟨w88, e88, h⟩ := ob h
  refine V_putI (ci := 9) (k := 11) t_Model d_Model_symbol_88 e88 rfl (by decide) in_Model k893 ty_Model nm_Model rfl (Or.inr ⟨rfl, Or.inr rfl⟩) ?_
  refine V_iconst (v := 0) d_Model_symbol_91 (by decide) ?_
  obtain rfl := Option.some.inj h
  exact V_iret rfl (by decide) (by decide) d_Model_symbol_92
def b_Model_symbol_80 (F : Nat) (K5 : Nat → Int32 → Int32 → Int32 → Int32 → zW → Option (Int32 × zW)) (v0 : Nat) (v1 : Int32) (v2 : Int32) (v3 : Int32) (v4 : Int32) (w : zW) : Option (Int32 × zW) := K5 v0 v1 v2 v3 (v4 + (1 : Int32)) w
set_option maxRecDepth 100000 in
set_option maxHeartbeats 4000000 in
theorem b_Model_symbol_80_ok (G : zG) (F : Nat) (K5 : Nat → Int32 → Int32 → Int32 → Int32 → zW → Option (Int32 × zW)) (hK5 : ∀ (v0 : Nat) (v1 : Int32) (v2 : Int32) (v3 : Int32) (v4 : Int32) (w : zW) (r : (Int32 × zW)), K5 v0 v1 v2 v3 v4 w = some r → zV G m_Model_symbol 5 [(0, .ref (z0 G + v0)), (1, .int v1), (2, .int v2), (3, .int v3), (4, .int v4)] [] w 0 0 (oI r.1) r.2) (v0 : Nat) (v1 : Int32) (v2 : Int32) (v3 : Int32) (v4 : Int32) (w : zW) (r : (Int32 × zW)) (h : b_Model_symbol_80 F K5 v0 v1 v2 v3 v4 w = some r) : zV G m_Model_symbol 80 [(0, .ref (z0 G + v0)), (1, .int v1), (2, .int v2), (3, .int v3), (4, .int v4)] [] w 0 0 (oI r.1) r.2 := by
  unfold b_Model_symbol_80 at h
  refine V_iinc (i := 4) (v := (v4 + (1 : Int32))) d_Model_symbol_80 4 rfl (congrArg (fun y => v4 + y) (by decide : Int32.ofInt (1) = (1 : Int32))) (by decide) rfl ?_
  refine V_goto (tgt := 5) d_Model_symbol_83 (by decide) ?_
  refine V_lv [1, 2, 3, 4, 0] rfl ?_
  exact hK5 v0 v1 v2 v3 (v4 + (1 : Int32)) w _ h
def b_Model_symbol_74 (F : Nat) (K5 : Nat → Int32 → Int32 → Int32 → Int32 → zW → Option (Int32 × zW)) (K31 : Nat → Int32 → Int32 → Int32 → Int32 → Int32 → zW → Option (Int32 × zW)) (v0 : Nat) (v1 : Int32) (v2 : Int32) (v3 : Int32) (v4 : Int32) (v5 : Int32) (w : zW) : Option (Int32 × zW) := K31 v0 v1 v2 v3 v4 (v5 + (1 : Int32)) w
set_option maxRecDepth 100000 in
set_option maxHeartbeats 4000000 in
theorem b_Model_symbol_74_ok (G : zG) (F : Nat) (K5 : Nat → Int32 → Int32 → Int32 → Int32 → zW → Option (Int32 × zW)) (K31 : Nat → Int32 → Int32 → Int32 → Int32 → Int32 → zW → Option (Int32 × zW)) (hK5 : ∀ (v0 : Nat) (v1 : Int32) (v2 : Int32) (v3 : Int32) (v4 : Int32) (w : zW) (r : (Int32 × zW)), K5 v0 v1 v2 v3 v4 w = some r → zV G m_Model_symbol 5 [(0, .ref (z0 G + v0)), (1, .int v1), (2, .int v2), (3, .int v3), (4, .int v4)] [] w 0 0 (oI r.1) r.2) (hK31 : ∀ (v0 : Nat) (v1 : Int32) (v2 : Int32) (v3 : Int32) (v4 : Int32) (v5 : Int32) (w : zW) (r : (Int32 × zW)), K31 v0 v1 v2 v3 v4 v5 w = some r → zV G m_Model_symbol 31 [(0, .ref (z0 G + v0)), (1, .int v1), (2, .int v2), (3, .int v3), (4, .int v4), (5, .int v5)] [] w 0 0 (oI r.1) r.2) (v0 : Nat) (v1 : Int32) (v2 : Int32) (v3 : Int32) (v4 : Int32) (v5 : Int32) (w : zW) (r : (Int32 × zW)) (h : b_Model_symbol_74 F K5 K31 v0 v1 v2 v3 v4 v5 w = some r) : zV G m_Model_symbol 74 [(0, .ref (z0 G + v0)), (1, .int v1), (2, .int v2), (3, .int v3), (4, .int v4), (5, .int v5)] [] w 0 0 (oI r.1) r.2 := by
  unfold b_Model_symbol_74 at h
  refine V_iinc (i := 5) (v := (v5 + (1 : Int32))) d_Model_symbol_74 5 rfl (congrArg (fun y => v5 + y) (by decide : Int32.ofInt (1) = (1 : Int32))) (by decide) rfl ?_
  refine V_goto (tgt := 31) d_Model_symbol_77 (by decide) ?_
  refine V_lv [1, 2, 3, 4, 5, 0] rfl ?_
  exact hK31 v0 v1 v2 v3 v4 (v5 + (1 : Int32)) w _ h
def b_Model_symbol_31 (F : Nat) (K5 : Nat → Int32 → Int32 → Int32 → Int32 → zW → Option (Int32 × zW)) (K31 : Nat → Int32 → Int32 → Int32 → Int32 → Int32 → zW → Option (Int32 × zW)) (v0 : Nat) (v1 : Int32) (v2 : Int32) (v3 : Int32) (v4 : Int32) (v5 : Int32) (w : zW) : Option (Int32 × zW) := if (v1 + v2) ≤ v5 then (b_Model_symbol_80 F K5 v0 v1 v2 v3 v4 w) else ((getI w v0 9 11).bind fun x40 => if x40 = 0 then ((getR w v0 9 12).bind fun x47 => (aget w x47 v5).bind fun x52 => if x52 = v4 then ((getR w v0 9 13).bind fun x59 => (aget w x59 v5).bind fun x64 => if x64 = v3 then (some ((v5 - v1), w)) else (b_Model_symbol_74 F K5 K31 v0 v1 v2 v3 v4 v5 w)) else (b_Model_symbol_74 F K5 K31 v0 v1 v2 v3 v4 v5 w)) else (b_Model_symbol_80 F K5 v0 v1 v2 v3 v4 w))
set_option maxRecDepth 100000 in
set_option maxHeartbeats 4000000 in
theorem b_Model_symbol_31_ok (G : zG) (F : Nat) (K5 : Nat → Int32 → Int32 → Int32 → Int32 → zW → Option (Int32 × zW)) (K31 : Nat → Int32 → Int32 → Int32 → Int32 → Int32 → zW → Option (Int32 × zW)) (hK5 : ∀ (v0 : Nat) (v1 : Int32) (v2 : Int32) (v3 : Int32) (v4 : Int32) (w : zW) (r : (Int32 × zW)), K5 v0 v1 v2 v3 v4 w = some r → zV G m_Model_symbol 5 [(0, .ref (z0 G + v0)), (1, .int v1), (2, .int v2), (3, .int v3), (4, .int v4)] [] w 0 0 (oI r.1) r.2) (hK31 : ∀ (v0 : Nat) (v1 : Int32) (v2 : Int32) (v3 : Int32) (v4 : Int32) (v5 : Int32) (w : zW) (r : (Int32 × zW)), K31 v0 v1 v2 v3 v4 v5 w = some r → zV G m_Model_symbol 31 [(0, .ref (z0 G + v0)), (1, .int v1), (2, .int v2), (3, .int v3), (4, .int v4), (5, .int v5)] [] w 0 0 (oI r.1) r.2) (v0 : Nat) (v1 : Int32) (v2 : Int32) (v3 : Int32) (v4 : Int32) (v5 : Int32) (w : zW) (r : (Int32 × zW)) (h : b_Model_symbol_31 F K5 K31 v0 v1 v2 v3 v4 v5 w = some r) : zV G m_Model_symbol 31 [(0, .ref (z0 G + v0)), (1, .int v1), (2, .int v2), (3, .int v3), (4, .int v4), (5, .int v5)] [] w 0 0 (oI r.1) r.2 := by
  unfold b_Model_symbol_31 at h
  refine V_iload (i := 5) d_Model_symbol_31 5 rfl ?_
  refine V_iload_n (i := 1) d_Model_symbol_33 rfl 1 rfl ?_
  refine V_iload_n (i := 2) d_Model_symbol_34 rfl 2 rfl ?_
  refine V_iadd d_Model_symbol_35 ?_
  refine V_icmp_ge (tgt := 80) d_Model_symbol_36 (by decide) (fun c36 => ?_) (fun c36 => ?_)
  · rw [if_pos c36] at h
    refine V_lv [0, 1, 2, 3, 4] rfl ?_
    exact b_Model_symbol_80_ok G F K5 hK5 v0 v1 v2 v3 v4 w _ h
  · rw [if_neg c36] at h
    refine V_aload_n (i := 0) d_Model_symbol_39 rfl 0 rfl ?_
    obtain ⟨x40, e40, h⟩ := ob h
    refine V_getI (ci := 9) (k := 11) d_Model_symbol_40 e40 rfl (by decide) in_Model k893 ?_
    refine V_if_ne (tgt := 80) d_Model_symbol_43 (by decide) (fun c43 => ?_) (fun c43 => ?_)
    · rw [if_neg c43] at h
      refine V_lv [0, 1, 2, 3, 4] rfl ?_
      exact b_Model_symbol_80_ok G F K5 hK5 v0 v1 v2 v3 v4 w _ h
    · rw [if_pos c43] at h
      refine V_aload_n (i := 0) d_Model_symbol_46 rfl 0 rfl ?_
      obtain ⟨x47, e47, h⟩ := ob h
      refine V_getR (ci := 9) (k := 12) d_Model_symbol_47 e47 rfl (by decide) in_Model k894 ?_
      refine V_iload (i := 5) d_Model_symbol_50 5 rfl ?_
      obtain ⟨x52, e52, h⟩ := ob h
      refine V_aget d_Model_symbol_52 e52 ?_
      refine V_iload (i := 4) d_Model_symbol_53 4 rfl ?_
      refine V_icmp_ne (tgt := 74) d_Model_symbol_55 (by decide) (fun c55 => ?_) (fun c55 => ?_)
      · rw [if_neg c55] at h
        exact b_Model_symbol_74_ok G F K5 K31 hK5 hK31 v0 v1 v2 v3 v4 v5 w _ h
      · rw [if_pos c55] at h
        refine V_aload_n (i := 0) d_Model_symbol_58 rfl 0 rfl ?_
        obtain ⟨x59, e59, h⟩ := ob h
        refine V_getR (ci := 9) (k := 13) d_Model_symbol_59 e59 rfl (by decide) in_Model k895 ?_
        refine V_iload (i := 5) d_Model_symbol_62 5 rfl ?_
        obtain ⟨x64, e64, h⟩ := ob h
        refine V_aget d_Model_symbol_64 e64 ?_
        refine V_iload_n (i := 3) d_Model_symbol_65 rfl 3 rfl ?_
        refine V_icmp_ne (tgt := 74) d_Model_symbol_66 (by decide) (fun c66 => ?_) (fun c66 => ?_)
        · rw [if_neg c66] at h
          exact b_Model_symbol_74_ok G F K5 K31 hK5 hK31 v0 v1 v2 v3 v4 v5 w _ h
        · rw [if_pos c66] at h
          refine V_iload (i := 5) d_Model_symbol_69 5 rfl ?_
          refine V_iload_n (i := 1) d_Model_symbol_71 rfl 1 rfl ?_
          refine V_isub d_Model_symbol_72 ?_
          obtain rfl := Option.some.inj h
          exact V_iret rfl (by decide) (by decide) d_Model_symbol_73
def l_Model_symbol_31 (F : Nat) (K5 : Nat → Int32 → Int32 → Int32 → Int32 → zW → Option (Int32 × zW)) : Nat → Nat → Int32 → Int32 → Int32 → Int32 → Int32 → zW → Option (Int32 × zW)
  | 0 => fun _ _ _ _ _ _ _ => none
  | n + 1 => b_Model_symbol_31 F K5 (l_Model_symbol_31 F K5 n)
theorem l_Model_symbol_31_ok (G : zG) (F : Nat) (K5 : Nat → Int32 → Int32 → Int32 → Int32 → zW → Option (Int32 × zW)) (hK5 : ∀ (v0 : Nat) (v1 : Int32) (v2 : Int32) (v3 : Int32) (v4 : Int32) (w : zW) (r : (Int32 × zW)), K5 v0 v1 v2 v3 v4 w = some r → zV G m_Model_symbol 5 [(0, .ref (z0 G + v0)), (1, .int v1), (2, .int v2), (3, .int v3), (4, .int v4)] [] w 0 0 (oI r.1) r.2) (n : Nat) :  ∀ (v0 : Nat) (v1 : Int32) (v2 : Int32) (v3 : Int32) (v4 : Int32) (v5 : Int32) (w : zW) (r : (Int32 × zW)), l_Model_symbol_31 F K5 n v0 v1 v2 v3 v4 v5 w = some r → zV G m_Model_symbol 31 [(0, .ref (z0 G + v0)), (1, .int v1), (2, .int v2), (3, .int v3), (4, .int v4), (5, .int v5)] [] w 0 0 (oI r.1) r.2 := by
  induction n with
  | zero => intro v0 v1 v2 v3 v4 v5 w r h; exact nomatch (show (none : Option (Int32 × zW)) = some r from h)
  | succ n ih => intro v0 v1 v2 v3 v4 v5 w r h; exact b_Model_symbol_31_ok G F K5 (l_Model_symbol_31 F K5 n) hK5 ih v0 v1 v2 v3 v4 v5 w r h
def b_Model_symbol_5 (F : Nat) (K5 : Nat → Int32 → Int32 → Int32 → Int32 → zW → Option (Int32 × zW)) (v0 : Nat) (v1 : Int32) (v2 : Int32) (v3 : Int32) (v4 : Int32) (w : zW) : Option (Int32 × zW) := if (16 : Int32) ≤ v4 then (b_Model_symbol_86 F v0 w) else ((getI w v0 9 11).bind fun x13 => if x13 = 0 then ((zobj w v0 9).bind fun _ => (f_Model_bit F v0 w).bind fun r23 => l_Model_symbol_31 F K5 F v0 v1 v2 (((2 : Int32) * v3) + r23.1) v4 v1 r23.2) else (b_Model_symbol_86 F v0 w))
set_option maxRecDepth 100000 in
set_option maxHeartbeats 4000000 in
theorem b_Model_symbol_5_ok (G : zG) (F : Nat) (K5 : Nat → Int32 → Int32 → Int32 → Int32 → zW → Option (Int32 × zW)) (hK5 : ∀ (v0 : Nat) (v1 : Int32) (v2 : Int32) (v3 : Int32) (v4 : Int32) (w : zW) (r : (Int32 × zW)), K5 v0 v1 v2 v3 v4 w = some r → zV G m_Model_symbol 5 [(0, .ref (z0 G + v0)), (1, .int v1), (2, .int v2), (3, .int v3), (4, .int v4)] [] w 0 0 (oI r.1) r.2) (v0 : Nat) (v1 : Int32) (v2 : Int32) (v3 : Int32) (v4 : Int32) (w : zW) (r : (Int32 × zW)) (h : b_Model_symbol_5 F K5 v0 v1 v2 v3 v4 w = some r) : zV G m_Model_symbol 5 [(0, .ref (z0 G + v0)), (1, .int v1), (2, .int v2), (3, .int v3), (4, .int v4)] [] w 0 0 (oI r.1) r.2 := by
  unfold b_Model_symbol_5 at h
  refine V_iload (i := 4) d_Model_symbol_5 4 rfl ?_
  refine V_bipush (v := 16) d_Model_symbol_7 (by decide) ?_
  refine V_icmp_ge (tgt := 86) d_Model_symbol_9 (by decide) (fun c9 => ?_) (fun c9 => ?_)
  · rw [if_pos c9] at h
    refine V_lv [0] rfl ?_
    exact b_Model_symbol_86_ok G F v0 w _ h
  · rw [if_neg c9] at h
    refine V_aload_n (i := 0) d_Model_symbol_12 rfl 0 rfl ?_
    obtain ⟨x13, e13, h⟩ := ob h
    refine V_getI (ci := 9) (k := 11) d_Model_symbol_13 e13 rfl (by decide) in_Model k893 ?_
    refine V_if_ne (tgt := 86) d_Model_symbol_16 (by decide) (fun c16 => ?_) (fun c16 => ?_)
    · rw [if_neg c16] at h
      refine V_lv [0] rfl ?_
      exact b_Model_symbol_86_ok G F v0 w _ h
    · rw [if_pos c16] at h
      refine V_iconst (v := 2) d_Model_symbol_19 (by decide) ?_
      refine V_iload_n (i := 3) d_Model_symbol_20 rfl 3 rfl ?_
      refine V_imul d_Model_symbol_21 ?_
      refine V_aload_n (i := 0) d_Model_symbol_22 rfl 0 rfl ?_
      obtain ⟨_, eo23, h⟩ := ob h
      obtain ⟨r23, e23, h⟩ := ob h
      refine V_call (v := some (.int r23.1)) (st := [.int ((2 : Int32) * v3)]) (inv_V (N := m_Model_bit) (As := []) (ci := 9) d_Model_symbol_23 eo23 rfl k1089 k1091 sel_Model_bit kc_Model_bit y_Model_bit) ⟨Or.inl kc_Model_bit, k10, by decide, by decide⟩ (Nat.le_of_ble_eq_true rfl) (by decide) (by decide) (c_Model_bit G F v0 w r23 e23) ?_
      refine V_iadd d_Model_symbol_26 ?_
      refine V_istore_n (i := 3) d_Model_symbol_27 rfl (by decide) rfl ?_
      refine V_iload_n (i := 1) d_Model_symbol_28 rfl 2 rfl ?_
      refine V_istore (i := 5) d_Model_symbol_29 (by decide) rfl ?_
      refine V_lv [2, 3, 4, 1, 5, 0] rfl ?_
      exact l_Model_symbol_31_ok G F K5 hK5 F v0 v1 v2 (((2 : Int32) * v3) + r23.1) v4 v1 r23.2 _ h
def l_Model_symbol_5 (F : Nat) : Nat → Nat → Int32 → Int32 → Int32 → Int32 → zW → Option (Int32 × zW)
  | 0 => fun _ _ _ _ _ _ => none
  | n + 1 => b_Model_symbol_5 F (l_Model_symbol_5 F n)
theorem l_Model_symbol_5_ok (G : zG) (F : Nat) (n : Nat) :  ∀ (v0 : Nat) (v1 : Int32) (v2 : Int32) (v3 : Int32) (v4 : Int32) (w : zW) (r : (Int32 × zW)), l_Model_symbol_5 F n v0 v1 v2 v3 v4 w = some r → zV G m_Model_symbol 5 [(0, .ref (z0 G + v0)), (1, .int v1), (2, .int v2), (3, .int v3), (4, .int v4)] [] w 0 0 (oI r.1) r.2 := by
  induction n with
  | zero => intro v0 v1 v2 v3 v4 w r h; exact nomatch (show (none : Option (Int32 × zW)) = some r from h)
  | succ n ih => intro v0 v1 v2 v3 v4 w r h; exact b_Model_symbol_5_ok G F (l_Model_symbol_5 F n) ih v0 v1 v2 v3 v4 w r h
def b_Model_symbol_0 (F : Nat) (v0 : Nat) (v1 : Int32) (v2 : Int32) (w : zW) : Option (Int32 × zW) := l_Model_symbol_5 F F v0 v1 v2 (0 : Int32) (1 : Int32) w
set_option maxRecDepth 100000 in
set_option maxHeartbeats 4000000 in
theorem b_Model_symbol_0_ok (G : zG) (F : Nat) (v0 : Nat) (v1 : Int32) (v2 : Int32) (w : zW) (r : (Int32 × zW)) (h : b_Model_symbol_0 F v0 v1 v2 w = some r) : zV G m_Model_symbol 0 [(0, .ref (z0 G + v0)), (1, .int v1), (2, .int v2)] [] w 0 0 (oI r.1) r.2 := by
  unfold b_Model_symbol_0 at h
  refine V_iconst (v := 0) d_Model_symbol_0 (by decide) ?_
  refine V_istore_n (i := 3) d_Model_symbol_1 rfl (by decide) rfl ?_
  refine V_iconst (v := 1) d_Model_symbol_2 (by decide) ?_
  refine V_istore (i := 4) d_Model_symbol_3 (by decide) rfl ?_
  refine V_lv [2, 3, 4, 1, 0] rfl ?_
  exact l_Model_symbol_5_ok G F F v0 v1 v2 (0 : Int32) (1 : Int32) w _ h
def f_Model_symbol (F : Nat) (v0 : Nat) (v1 : Int32) (v2 : Int32) (w : zW) : Option (Int32 × zW) := b_Model_symbol_0 F v0 v1 v2 w
theorem c_Model_symbol (G : zG) (F : Nat) (v0 : Nat) (v1 : Int32) (v2 : Int32) (w : zW) (r : (Int32 × zW)) (h : f_Model_symbol F v0 v1 v2 w = some r) : zCT G m_Model_symbol [.ref (z0 G + v0), .int v1, .int v2] w (oI r.1) r.2 := zCT.ofV (by decide +kernel) (Or.inl ⟨kc_Model_symbol, rfl⟩) (Nat.le_of_ble_eq_true rfl) (b_Model_symbol_0_ok G F v0 v1 v2 w r h)

/-! ZipArrayModel.out(I)V -/
def m_Model_out : zM := (⟨R_Model, "out", "(I)V"⟩, prog_11_method_31_code, 2, none, [], { frames := 0, cells := 0, slots := 0, locals := 0 })
theorem kc_Model_out : Cond.code (mY m_Model_out) (mC m_Model_out) (mL m_Model_out) (mT m_Model_out) ∈ zTb := tb_at 1105 (by decide +kernel) rfl
theorem y_Model_out : (mY m_Model_out).cls ≠ "java/lang/invoke/MethodHandle" ∧ (mY m_Model_out).cls ≠ "java/lang/invoke/VarHandle" ∧ (parseMethodDescriptor (mY m_Model_out).desc).map (fun d => d.parameters.length) = some 1 := by decide +kernel
theorem sel_Model_out : Cond.selects R_Model (mY m_Model_out) (mY m_Model_out) ∈ zTb := sel_at (y := mY m_Model_out) (n := 33) 53 (by decide +kernel)
theorem d_Model_out_0 : decode (mC m_Model_out) 0 = .ok (.aload_n 0, 1) := by decide +kernel
theorem d_Model_out_1 : decode (mC m_Model_out) 1 = .ok (.aload_n 0, 1) := by decide +kernel
theorem d_Model_out_2 : decode (mC m_Model_out) 2 = .ok (.getfield 149, 3) := by decide +kernel
theorem d_Model_out_5 : decode (mC m_Model_out) 5 = .ok (.ifCond .ne 13, 3) := by decide +kernel
theorem d_Model_out_8 : decode (mC m_Model_out) 8 = .ok (.aload_n 0, 1) := by decide +kernel
theorem d_Model_out_9 : decode (mC m_Model_out) 9 = .ok (.getfield 75, 3) := by decide +kernel
theorem d_Model_out_12 : decode (mC m_Model_out) 12 = .ok (.sipush 200, 3) := by decide +kernel
theorem d_Model_out_15 : decode (mC m_Model_out) 15 = .ok (.if_icmp .ne 7, 3) := by decide +kernel
theorem d_Model_out_18 : decode (mC m_Model_out) 18 = .ok (.iconst 1, 1) := by decide +kernel
theorem d_Model_out_19 : decode (mC m_Model_out) 19 = .ok (.goto 4, 3) := by decide +kernel
theorem d_Model_out_22 : decode (mC m_Model_out) 22 = .ok (.iconst 0, 1) := by decide +kernel
theorem d_Model_out_23 : decode (mC m_Model_out) 23 = .ok (.putfield 149, 3) := by decide +kernel
theorem d_Model_out_26 : decode (mC m_Model_out) 26 = .ok (.aload_n 0, 1) := by decide +kernel
theorem d_Model_out_27 : decode (mC m_Model_out) 27 = .ok (.getfield 149, 3) := by decide +kernel
theorem d_Model_out_30 : decode (mC m_Model_out) 30 = .ok (.ifCond .ne 23, 3) := by decide +kernel
theorem d_Model_out_33 : decode (mC m_Model_out) 33 = .ok (.aload_n 0, 1) := by decide +kernel
theorem d_Model_out_34 : decode (mC m_Model_out) 34 = .ok (.getfield 16, 3) := by decide +kernel
theorem d_Model_out_37 : decode (mC m_Model_out) 37 = .ok (.aload_n 0, 1) := by decide +kernel
theorem d_Model_out_38 : decode (mC m_Model_out) 38 = .ok (.getfield 75, 3) := by decide +kernel
theorem d_Model_out_41 : decode (mC m_Model_out) 41 = .ok (.iload_n 1, 1) := by decide +kernel
theorem d_Model_out_42 : decode (mC m_Model_out) 42 = .ok (.iastore, 1) := by decide +kernel
theorem d_Model_out_43 : decode (mC m_Model_out) 43 = .ok (.aload_n 0, 1) := by decide +kernel
theorem d_Model_out_44 : decode (mC m_Model_out) 44 = .ok (.dup, 1) := by decide +kernel
theorem d_Model_out_45 : decode (mC m_Model_out) 45 = .ok (.getfield 75, 3) := by decide +kernel
theorem d_Model_out_48 : decode (mC m_Model_out) 48 = .ok (.iconst 1, 1) := by decide +kernel
theorem d_Model_out_49 : decode (mC m_Model_out) 49 = .ok (.iadd, 1) := by decide +kernel
theorem d_Model_out_50 : decode (mC m_Model_out) 50 = .ok (.putfield 75, 3) := by decide +kernel
theorem d_Model_out_53 : decode (mC m_Model_out) 53 = .ok (.return_, 1) := by decide +kernel
def b_Model_out_23 (F : Nat) (v0 : Nat) (v1 : Int32) (s0 : Nat) (s1 : Int32) (w : zW) : Option (Unit × zW) := if s1 = 0 ∨ s1 = 1 then (putI w s0 9 11 s1).bind fun w23 => (getI w23 v0 9 11).bind fun x27 => if x27 = 0 then ((getR w23 v0 9 7).bind fun x34 => (getI w23 v0 9 6).bind fun x38 => (aset w23 x34 x38 v1).bind fun w42 => (getI w42 v0 9 6).bind fun x45 => (putI w42 v0 9 6 (x45 + (1 : Int32))).bind fun w50 => some ((), w50)) else (some ((), w23)) else none
set_option maxRecDepth 100000 in
set_option maxHeartbeats 4000000 in
theorem b_Model_out_23_ok (G : zG) (F : Nat) (v0 : Nat) (v1 : Int32) (s0 : Nat) (s1 : Int32) (w : zW) (r : (Unit × zW)) (h : b_Model_out_23 F v0 v1 s0 s1 w = some r) : zV G m_Model_out 23 [(0, .ref (z0 G + v0)), (1, .int v1)] [.int s1, .ref (z0 G + s0)] w 0 0 (oV r.1) r.2 := by
  unfold b_Model_out_23 at h
  by_cases g23 : ¬ (s1 = 0 ∨ s1 = 1)
  · exact absurd h (by rw [if_neg g23]; exact nofun)
  have g23 := Classical.not_not.mp g23
  rw [if_pos g23] at h
  obtain ⟨w23, e23, h⟩ := ob h
  refine V_putI (ci := 9) (k := 11) t_Model d_Model_out_23 e23 rfl (by decide) in_Model k893 ty_Model nm_Model rfl (Or.inr ⟨rfl, g23⟩) ?_
  refine V_aload_n (i := 0) d_Model_out_26 rfl 0 rfl ?_
  obtain ⟨x27, e27, h⟩ := ob h
  refine V_getI (ci := 9) (k := 11) d_Model_out_27 e27 rfl (by decide) in_Model k893 ?_
  refine V_if_ne (tgt := 53) d_Model_out_30 (by decide) (fun c30 => ?_) (fun c30 => ?_)
  · rw [if_neg c30] at h
    obtain rfl := Option.some.inj h
    exact V_vret rfl (by decide) (by decide) d_Model_out_53
  · rw [if_pos c30] at h
    refine V_aload_n (i := 0) d_Model_out_33 rfl 0 rfl ?_
    obtain ⟨x34, e34, h⟩ := ob h
    refine V_getR (ci := 9) (k := 7) d_Model_out_34 e34 rfl (by decide) in_Model k889 ?_
    refine V_aload_n (i := 0) d_Model_out_37 rfl 0 rfl ?_
    obtain ⟨x38, e38, h⟩ := ob h
    refine V_getI (ci := 9) (k := 6) d_Model_out_38 e38 rfl (by decide) in_Model k888 ?_
    refine V_iload_n (i := 1) d_Model_out_41 rfl 1 rfl ?_
    obtain ⟨w42, e42, h⟩ := ob h
    refine V_aset d_Model_out_42 e42 ?_
    refine V_aload_n (i := 0) d_Model_out_43 rfl 0 rfl ?_
    refine V_dup rfl d_Model_out_44 ?_
    obtain ⟨x45, e45, h⟩ := ob h
    refine V_getI (ci := 9) (k := 6) d_Model_out_45 e45 rfl (by decide) in_Model k888 ?_
    refine V_iconst (v := 1) d_Model_out_48 (by decide) ?_
    refine V_iadd d_Model_out_49 ?_
    obtain ⟨w50, e50, h⟩ := ob h
    refine V_putI (ci := 9) (k := 6) t_Model d_Model_out_50 e50 rfl (by decide) in_Model k888 ty_Model nm_Model rfl (Or.inl rfl) ?_
    obtain rfl := Option.some.inj h
    exact V_vret rfl (by decide) (by decide) d_Model_out_53
def b_Model_out_18 (F : Nat) (v0 : Nat) (v1 : Int32) (s0 : Nat) (w : zW) : Option (Unit × zW) := b_Model_out_23 F v0 v1 s0 (1 : Int32) w
set_option maxRecDepth 100000 in
set_option maxHeartbeats 4000000 in
theorem b_Model_out_18_ok (G : zG) (F : Nat) (v0 : Nat) (v1 : Int32) (s0 : Nat) (w : zW) (r : (Unit × zW)) (h : b_Model_out_18 F v0 v1 s0 w = some r) : zV G m_Model_out 18 [(0, .ref (z0 G + v0)), (1, .int v1)] [.ref (z0 G + s0)] w 0 0 (oV r.1) r.2 := by
  unfold b_Model_out_18 at h
  refine V_iconst (v := 1) d_Model_out_18 (by decide) ?_
  refine V_goto (tgt := 23) d_Model_out_19 (by decide) ?_
  exact b_Model_out_23_ok G F v0 v1 s0 (1 : Int32) w _ h
def b_Model_out_0 (F : Nat) (v0 : Nat) (v1 : Int32) (w : zW) : Option (Unit × zW) := (getI w v0 9 11).bind fun x2 => if x2 = 0 then ((getI w v0 9 6).bind fun x9 => if x9 = (200 : Int32) then (b_Model_out_18 F v0 v1 v0 w) else (b_Model_out_23 F v0 v1 v0 (0 : Int32) w)) else (b_Model_out_18 F v0 v1 v0 w)
set_option maxRecDepth 100000 in
set_option maxHeartbeats 4000000 in
theorem b_Model_out_0_ok (G : zG) (F : Nat) (v0 : Nat) (v1 : Int32) (w : zW) (r : (Unit × zW)) (h : b_Model_out_0 F v0 v1 w = some r) : zV G m_Model_out 0 [(0, .ref (z0 G + v0)), (1, .int v1)] [] w 0 0 (oV r.1) r.2 := by
  unfold b_Model_out_0 at h
  refine V_aload_n (i := 0) d_Model_out_0 rfl 0 rfl ?_
  refine V_aload_n (i := 0) d_Model_out_1 rfl 0 rfl ?_
  obtain ⟨x2, e2, h⟩ := ob h
  refine V_getI (ci := 9) (k := 11) d_Model_out_2 e2 rfl (by decide) in_Model k893 ?_
  refine V_if_ne (tgt := 18) d_Model_out_5 (by decide) (fun c5 => ?_) (fun c5 => ?_)
  · rw [if_neg c5] at h
    exact b_Model_out_18_ok G F v0 v1 v0 w _ h
  · rw [if_pos c5] at h
    refine V_aload_n (i := 0) d_Model_out_8 rfl 0 rfl ?_
    obtain ⟨x9, e9, h⟩ := ob h
    refine V_getI (ci := 9) (k := 6) d_Model_out_9 e9 rfl (by decide) in_Model k888 ?_
    refine V_sipush (v := 200) d_Model_out_12 (by decide) ?_
    refine V_icmp_ne (tgt := 22) d_Model_out_15 (by decide) (fun c15 => ?_) (fun c15 => ?_)
    · rw [if_neg c15] at h
      refine V_iconst (v := 0) d_Model_out_22 (by decide) ?_
      exact b_Model_out_23_ok G F v0 v1 v0 (0 : Int32) w _ h
    · rw [if_pos c15] at h
      exact b_Model_out_18_ok G F v0 v1 v0 w _ h
def f_Model_out (F : Nat) (v0 : Nat) (v1 : Int32) (w : zW) : Option (Unit × zW) := b_Model_out_0 F v0 v1 w
theorem c_Model_out (G : zG) (F : Nat) (v0 : Nat) (v1 : Int32) (w : zW) (r : (Unit × zW)) (h : f_Model_out F v0 v1 w = some r) : zCT G m_Model_out [.ref (z0 G + v0), .int v1] w (oV r.1) r.2 := zCT.ofV (by decide +kernel) (Or.inl ⟨kc_Model_out, rfl⟩) (Nat.le_of_ble_eq_true rfl) (b_Model_out_0_ok G F v0 v1 w r h)

/-! ZipArrayModel.storedBlock()V -/
def m_Model_storedBlock : zM := (⟨R_Model, "storedBlock", "()V"⟩, prog_11_method_32_code, 4, none, [], { frames := 2, cells := 0, slots := 0, locals := 44 })
theorem k1093 : Cond.methodLink R_Model 159 (mY m_Model_bits) ∈ zTb := tb_at 1093 (by decide +kernel) rfl
theorem k1095 : Cond.instanceMethod (mY m_Model_bits) ∈ zTb := tb_at 1095 (by decide +kernel) rfl
theorem k1101 : Cond.constant R_Model 162 65535 ∈ zTb := tb_at 1101 (by decide +kernel) rfl
theorem k1102 : Cond.methodLink R_Model 163 (mY m_Model_out) ∈ zTb := tb_at 1102 (by decide +kernel) rfl
theorem k1104 : Cond.instanceMethod (mY m_Model_out) ∈ zTb := tb_at 1104 (by decide +kernel) rfl
theorem kc_Model_storedBlock : Cond.code (mY m_Model_storedBlock) (mC m_Model_storedBlock) (mL m_Model_storedBlock) (mT m_Model_storedBlock) ∈ zTb := tb_at 1100 (by decide +kernel) rfl
theorem y_Model_storedBlock : (mY m_Model_storedBlock).cls ≠ "java/lang/invoke/MethodHandle" ∧ (mY m_Model_storedBlock).cls ≠ "java/lang/invoke/VarHandle" ∧ (parseMethodDescriptor (mY m_Model_storedBlock).desc).map (fun d => d.parameters.length) = some 0 := by decide +kernel
theorem sel_Model_storedBlock : Cond.selects R_Model (mY m_Model_storedBlock) (mY m_Model_storedBlock) ∈ zTb := sel_at (y := mY m_Model_storedBlock) (n := 33) 52 (by decide +kernel)
theorem d_Model_storedBlock_0 : decode (mC m_Model_storedBlock) 0 = .ok (.aload_n 0, 1) := by decide +kernel
theorem d_Model_storedBlock_1 : decode (mC m_Model_storedBlock) 1 = .ok (.aload_n 0, 1) := by decide +kernel
theorem d_Model_storedBlock_2 : decode (mC m_Model_storedBlock) 2 = .ok (.getfield 99, 3) := by decide +kernel
theorem d_Model_storedBlock_5 : decode (mC m_Model_storedBlock) 5 = .ok (.bipush 7, 2) := by decide +kernel
theorem d_Model_storedBlock_7 : decode (mC m_Model_storedBlock) 7 = .ok (.iadd, 1) := by decide +kernel
theorem d_Model_storedBlock_8 : decode (mC m_Model_storedBlock) 8 = .ok (.bipush 8, 2) := by decide +kernel
theorem d_Model_storedBlock_10 : decode (mC m_Model_storedBlock) 10 = .ok (.idiv, 1) := by decide +kernel
theorem d_Model_storedBlock_11 : decode (mC m_Model_storedBlock) 11 = .ok (.bipush 8, 2) := by decide +kernel
theorem d_Model_storedBlock_13 : decode (mC m_Model_storedBlock) 13 = .ok (.imul, 1) := by decide +kernel
theorem d_Model_storedBlock_14 : decode (mC m_Model_storedBlock) 14 = .ok (.putfield 99, 3) := by decide +kernel
theorem d_Model_storedBlock_17 : decode (mC m_Model_storedBlock) 17 = .ok (.aload_n 0, 1) := by decide +kernel
theorem d_Model_storedBlock_18 : decode (mC m_Model_storedBlock) 18 = .ok (.bipush 16, 2) := by decide +kernel
theorem d_Model_storedBlock_20 : decode (mC m_Model_storedBlock) 20 = .ok (.invokevirtual 159, 3) := by decide +kernel
theorem d_Model_storedBlock_23 : decode (mC m_Model_storedBlock) 23 = .ok (.istore_n 1, 1) := by decide +kernel
theorem d_Model_storedBlock_24 : decode (mC m_Model_storedBlock) 24 = .ok (.aload_n 0, 1) := by decide +kernel
theorem d_Model_storedBlock_25 : decode (mC m_Model_storedBlock) 25 = .ok (.bipush 16, 2) := by decide +kernel
theorem d_Model_storedBlock_27 : decode (mC m_Model_storedBlock) 27 = .ok (.invokevirtual 159, 3) := by decide +kernel
theorem d_Model_storedBlock_30 : decode (mC m_Model_storedBlock) 30 = .ok (.istore_n 2, 1) := by decide +kernel
theorem d_Model_storedBlock_31 : decode (mC m_Model_storedBlock) 31 = .ok (.aload_n 0, 1) := by decide +kernel
theorem d_Model_storedBlock_32 : decode (mC m_Model_storedBlock) 32 = .ok (.aload_n 0, 1) := by decide +kernel
theorem d_Model_storedBlock_33 : decode (mC m_Model_storedBlock) 33 = .ok (.getfield 149, 3) := by decide +kernel
theorem d_Model_storedBlock_36 : decode (mC m_Model_storedBlock) 36 = .ok (.ifCond .ne 11, 3) := by decide +kernel
theorem d_Model_storedBlock_39 : decode (mC m_Model_storedBlock) 39 = .ok (.iload_n 1, 1) := by decide +kernel
theorem d_Model_storedBlock_40 : decode (mC m_Model_storedBlock) 40 = .ok (.iload_n 2, 1) := by decide +kernel
theorem d_Model_storedBlock_41 : decode (mC m_Model_storedBlock) 41 = .ok (.iadd, 1) := by decide +kernel
theorem d_Model_storedBlock_42 : decode (mC m_Model_storedBlock) 42 = .ok (.ldc 162, 2) := by decide +kernel
theorem d_Model_storedBlock_44 : decode (mC m_Model_storedBlock) 44 = .ok (.if_icmp .eq 7, 3) := by decide +kernel
theorem d_Model_storedBlock_47 : decode (mC m_Model_storedBlock) 47 = .ok (.iconst 1, 1) := by decide +kernel
theorem d_Model_storedBlock_48 : decode (mC m_Model_storedBlock) 48 = .ok (.goto 4, 3) := by decide +kernel
theorem d_Model_storedBlock_51 : decode (mC m_Model_storedBlock) 51 = .ok (.iconst 0, 1) := by decide +kernel
theorem d_Model_storedBlock_52 : decode (mC m_Model_storedBlock) 52 = .ok (.putfield 149, 3) := by decide +kernel
theorem d_Model_storedBlock_55 : decode (mC m_Model_storedBlock) 55 = .ok (.iconst 0, 1) := by decide +kernel
theorem d_Model_storedBlock_56 : decode (mC m_Model_storedBlock) 56 = .ok (.istore_n 3, 1) := by decide +kernel
theorem d_Model_storedBlock_57 : decode (mC m_Model_storedBlock) 57 = .ok (.iload_n 3, 1) := by decide +kernel
theorem d_Model_storedBlock_58 : decode (mC m_Model_storedBlock) 58 = .ok (.iload_n 1, 1) := by decide +kernel
theorem d_Model_storedBlock_59 : decode (mC m_Model_storedBlock) 59 = .ok (.if_icmp .ge 26, 3) := by decide +kernel
theorem d_Model_storedBlock_62 : decode (mC m_Model_storedBlock) 62 = .ok (.aload_n 0, 1) := by decide +kernel
theorem d_Model_storedBlock_63 : decode (mC m_Model_storedBlock) 63 = .ok (.getfield 149, 3) := by decide +kernel
theorem d_Model_storedBlock_66 : decode (mC m_Model_storedBlock) 66 = .ok (.ifCond .ne 19, 3) := by decide +kernel
theorem d_Model_storedBlock_69 : decode (mC m_Model_storedBlock) 69 = .ok (.aload_n 0, 1) := by decide +kernel
theorem d_Model_storedBlock_70 : decode (mC m_Model_storedBlock) 70 = .ok (.aload_n 0, 1) := by decide +kernel
theorem d_Model_storedBlock_71 : decode (mC m_Model_storedBlock) 71 = .ok (.bipush 8, 2) := by decide +kernel
theorem d_Model_storedBlock_73 : decode (mC m_Model_storedBlock) 73 = .ok (.invokevirtual 159, 3) := by decide +kernel
theorem d_Model_storedBlock_76 : decode (mC m_Model_storedBlock) 76 = .ok (.invokevirtual 163, 3) := by decide +kernel
theorem d_Model_storedBlock_79 : decode (mC m_Model_storedBlock) 79 = .ok (.iinc 3 1, 3) := by decide +kernel
theorem d_Model_storedBlock_82 : decode (mC m_Model_storedBlock) 82 = .ok (.goto (-25), 3) := by decide +kernel
theorem d_Model_storedBlock_85 : decode (mC m_Model_storedBlock) 85 = .ok (.return_, 1) := by decide +kernel
def b_Model_storedBlock_57 (F : Nat) (K57 : Nat → Int32 → Int32 → zW → Option (Unit × zW)) (v0 : Nat) (v1 : Int32) (v3 : Int32) (w : zW) : Option (Unit × zW) := if v1 ≤ v3 then (some ((), w)) else ((getI w v0 9 11).bind fun x63 => if x63 = 0 then ((zobj w v0 9).bind fun _ => (f_Model_bits F v0 (8 : Int32) w).bind fun r73 => (zobj r73.2 v0 9).bind fun _ => (f_Model_out F v0 r73.1 r73.2).bind fun r76 => K57 v0 v1 (v3 + (1 : Int32)) r76.2) else (some ((), w)))
set_option maxRecDepth 100000 in
set_option maxHeartbeats 4000000 in
theorem b_Model_storedBlock_57_ok (G : zG) (F : Nat) (K57 : Nat → Int32 → Int32 → zW → Option (Unit × zW)) (hK57 : ∀ (v0 : Nat) (v1 : Int32) (v3 : Int32) (w : zW) (r : (Unit × zW)), K57 v0 v1 v3 w = some r → zV G m_Model_storedBlock 57 [(0, .ref (z0 G + v0)), (1, .int v1), (3, .int v3)] [] w 0 0 (oV r.1) r.2) (v0 : Nat) (v1 : Int32) (v3 : Int32) (w : zW) (r : (Unit × zW)) (h : b_Model_storedBlock_57 F K57 v0 v1 v3 w = some r) : zV G m_Model_storedBlock 57 [(0, .ref (z0 G + v0)), (1, .int v1), (3, .int v3)] [] w 0 0 (oV r.1) r.2 := by
  unfold b_Model_storedBlock_57 at h
  refine V_iload_n (i := 3) d_Model_storedBlock_57 rfl 2 rfl ?_
  refine V_iload_n (i := 1) d_Model_storedBlock_58 rfl 1 rfl ?_
  refine V_icmp_ge (tgt := 85) d_Model_storedBlock_59 (by decide) (fun c59 => ?_) (fun c59 => ?_)
  · rw [if_pos c59] at h
    obtain rfl := Option.some.inj h
    exact V_vret rfl (by decide) (by decide) d_Model_storedBlock_85
  · rw [if_neg c59] at h
    refine V_aload_n (i := 0) d_Model_storedBlock_62 rfl 0 rfl ?_
    obtain ⟨x63, e63, h⟩ := ob h
    refine V_getI (ci := 9) (k := 11) d_Model_storedBlock_63 e63 rfl (by decide) in_Model k893 ?_
    refine V_if_ne (tgt := 85) d_Model_storedBlock_66 (by decide) (fun c66 => ?_) (fun c66 => ?_)
    · rw [if_neg c66] at h
      obtain rfl := Option.some.inj h
      exact V_vret rfl (by decide) (by decide) d_Model_storedBlock_85
    · rw [if_pos c66] at h
      refine V_aload_n (i := 0) d_Model_storedBlock_69 rfl 0 rfl ?_
      refine V_aload_n (i := 0) d_Model_storedBlock_70 rfl 0 rfl ?_
      refine V_bipush (v := 8) d_Model_storedBlock_71 (by decide) ?_
      obtain ⟨_, eo73, h⟩ := ob h
      obtain ⟨r73, e73, h⟩ := ob h
      refine V_call (v := some (.int r73.1)) (st := [.ref (z0 G + v0)]) (inv_V (N := m_Model_bits) (As := [.int (8 : Int32)]) (ci := 9) d_Model_storedBlock_73 eo73 rfl k1093 k1095 sel_Model_bits kc_Model_bits y_Model_bits) ⟨Or.inl kc_Model_bits, k10, by decide, by decide⟩ (Nat.le_of_ble_eq_true rfl) (by decide) (by decide) (c_Model_bits G F v0 (8 : Int32) w r73 e73) ?_
      obtain ⟨_, eo76, h⟩ := ob h
      obtain ⟨r76, e76, h⟩ := ob h
      refine V_call (v := none) (st := []) (inv_V (N := m_Model_out) (As := [.int r73.1]) (ci := 9) d_Model_storedBlock_76 eo76 rfl k1102 k1104 sel_Model_out kc_Model_out y_Model_out) ⟨Or.inl kc_Model_out, k10, by decide, by decide⟩ (Nat.le_of_ble_eq_true rfl) (by decide) (by decide) (c_Model_out G F v0 r73.1 r73.2 r76 e76) ?_
      refine V_iinc (i := 3) (v := (v3 + (1 : Int32))) d_Model_storedBlock_79 2 rfl (congrArg (fun y => v3 + y) (by decide : Int32.ofInt (1) = (1 : Int32))) (by decide) rfl ?_
      refine V_goto (tgt := 57) d_Model_storedBlock_82 (by decide) ?_
      refine V_lv [1, 2, 0] rfl ?_
      exact hK57 v0 v1 (v3 + (1 : Int32)) r76.2 _ h
def l_Model_storedBlock_57 (F : Nat) : Nat → Nat → Int32 → Int32 → zW → Option (Unit × zW)
  | 0 => fun _ _ _ _ => none
  | n + 1 => b_Model_storedBlock_57 F (l_Model_storedBlock_57 F n)
theorem l_Model_storedBlock_57_ok (G : zG) (F : Nat) (n : Nat) :  ∀ (v0 : Nat) (v1 : Int32) (v3 : Int32) (w : zW) (r : (Unit × zW)), l_Model_storedBlock_57 F n v0 v1 v3 w = some r → zV G m_Model_storedBlock 57 [(0, .ref (z0 G + v0)), (1, .int v1), (3, .int v3)] [] w 0 0 (oV r.1) r.2 := by
  induction n with
  | zero => intro v0 v1 v3 w r h; exact nomatch (show (none : Option (Unit × zW)) = some r from h)
  | succ n ih => intro v0 v1 v3 w r h; exact b_Model_storedBlock_57_ok G F (l_Model_storedBlock_57 F n) ih v0 v1 v3 w r h
def b_Model_storedBlock_52 (F : Nat) (v0 : Nat) (v1 : Int32) (s0 : Nat) (s1 : Int32) (w : zW) : Option (Unit × zW) := if s1 = 0 ∨ s1 = 1 then (putI w s0 9 11 s1).bind fun w52 => l_Model_storedBlock_57 F F v0 v1 (0 : Int32) w52 else none
set_option maxRecDepth 100000 in
set_option maxHeartbeats 4000000 in
theorem b_Model_storedBlock_52_ok (G : zG) (F : Nat) (v0 : Nat) (v1 : Int32) (s0 : Nat) (s1 : Int32) (w : zW) (r : (Unit × zW)) (h : b_Model_storedBlock_52 F v0 v1 s0 s1 w = some r) : zV G m_Model_storedBlock 52 [(0, .ref (z0 G + v0)), (1, .int v1)] [.int s1, .ref (z0 G + s0)] w 0 0 (oV r.1) r.2 := by
  unfold b_Model_storedBlock_52 at h
  by_cases g52 : ¬ (s1 = 0 ∨ s1 = 1)
  · exact absurd h (by rw [if_neg g52]; exact nofun)
  have g52 := Classical.not_not.mp g52
  rw [if_pos g52] at h
  obtain ⟨w52, e52, h⟩ := ob h
  refine V_putI (ci := 9) (k := 11) t_Model d_Model_storedBlock_52 e52 rfl (by decide) in_Model k893 ty_Model nm_Model rfl (Or.inr ⟨rfl, g52⟩) ?_
  refine V_iconst (v := 0) d_Model_storedBlock_55 (by decide) ?_
  refine V_istore_n (i := 3) d_Model_storedBlock_56 rfl (by decide) rfl ?_
  refine V_lv [1, 2, 0] rfl ?_
  exact l_Model_storedBlock_57_ok G F F v0 v1 (0 : Int32) w52 _ h
def b_Model_storedBlock_47 (F : Nat) (v0 : Nat) (v1 : Int32) (s0 : Nat) (w : zW) : Option (Unit × zW) := b_Model_storedBlock_52 F v0 v1 s0 (1 : Int32) w
set_option maxRecDepth 100000 in
set_option maxHeartbeats 4000000 in
theorem b_Model_storedBlock_47_ok (G : zG) (F : Nat) (v0 : Nat) (v1 : Int32) (s0 : Nat) (w : zW) (r : (Unit × zW)) (h : b_Model_storedBlock_47 F v0 v1 s0 w = some r) : zV G m_Model_storedBlock 47 [(0, .ref (z0 G + v0)), (1, .int v1)] [.ref (z0 G + s0)] w 0 0 (oV r.1) r.2 := by
  unfold b_Model_storedBlock_47 at h
  refine V_iconst (v := 1) d_Model_storedBlock_47 (by decide) ?_
  refine V_goto (tgt := 52) d_Model_storedBlock_48 (by decide) ?_
  exact b_Model_storedBlock_52_ok G F v0 v1 s0 (1 : Int32) w _ h
def b_Model_storedBlock_0 (F : Nat) (v0 : Nat) (w : zW) : Option (Unit × zW) := (getI w v0 9 10).bind fun x2 => (putI w v0 9 10 (((x2 + (7 : Int32)) / (8 : Int32)) * (8 : Int32))).bind fun w14 => (zobj w14 v0 9).bind fun _ => (f_Model_bits F v0 (16 : Int32) w14).bind fun r20 => (zobj r20.2 v0 9).bind fun _ => (f_Model_bits F v0 (16 : Int32) r20.2).bind fun r27 => (getI r27.2 v0 9 11).bind fun x33 => if x33 = 0 then (if (r20.1 + r27.1) = (65535 : Int32) then (b_Model_storedBlock_52 F v0 r20.1 v0 (0 : Int32) r27.2) else (b_Model_storedBlock_47 F v0 r20.1 v0 r27.2)) else (b_Model_storedBlock_47 F v0 r20.1 v0 r27.2)
set_option maxRecDepth 100000 in
set_option maxHeartbeats 4000000 in
theorem b_Model_storedBlock_0_ok (G : zG) (F : Nat) (v0 : Nat) (w : zW) (r : (Unit × zW)) (h : b_Model_storedBlock_0 F v0 w = some r) : zV G m_Model_storedBlock 0 [(0, .ref (z0 G + v0))] [] w 0 0 (oV r.1) r.2 := by
  unfold b_Model_storedBlock_0 at h
  refine V_aload_n (i := 0) d_Model_storedBlock_0 rfl 0 rfl ?_
  refine V_aload_n (i := 0) d_Model_storedBlock_1 rfl 0 rfl ?_
  obtain ⟨x2, e2, h⟩ := ob h
  refine V_getI (ci := 9) (k := 10) d_Model_storedBlock_2 e2 rfl (by decide) in_Model k892 ?_
  refine V_bipush (v := 7) d_Model_storedBlock_5 (by decide) ?_
  refine V_iadd d_Model_storedBlock_7 ?_
  refine V_bipush (v := 8) d_Model_storedBlock_8 (by decide) ?_
  refine V_idiv (by decide) d_Model_storedBlock_10 ?_
  refine V_bipush (v := 8) d_Model_storedBlock_11 (by decide) ?_
  refine V_imul d_Model_storedBlock_13 ?_
  obtain ⟨w14, e14, h⟩ := ob h
  refine V_putI (ci := 9) (k := 10) t_Model d_Model_storedBlock_14 e14 rfl (by decide) in_Model k892 ty_Model nm_Model rfl (Or.inl rfl) ?_
  refine V_aload_n (i := 0) d_Model_storedBlock_17 rfl 0 rfl ?_
  refine V_bipush (v := 16) d_Model_storedBlock_18 (by decide) ?_
  obtain ⟨_, eo20, h⟩ := ob h
  obtain ⟨r20, e20, h⟩ := ob h
  refine V_call (v := some (.int r20.1)) (st := []) (inv_V (N := m_Model_bits) (As := [.int (16 : Int32)]) (ci := 9) d_Model_storedBlock_20 eo20 rfl k1093 k1095 sel_Model_bits kc_Model_bits y_Model_bits) ⟨Or.inl kc_Model_bits, k10, by decide, by decide⟩ (Nat.le_of_ble_eq_true rfl) (by decide) (by decide) (c_Model_bits G F v0 (16 : Int32) w14 r20 e20) ?_
  refine V_istore_n (i := 1) d_Model_storedBlock_23 rfl (by decide) rfl ?_
  refine V_aload_n (i := 0) d_Model_storedBlock_24 rfl 1 rfl ?_
  refine V_bipush (v := 16) d_Model_storedBlock_25 (by decide) ?_
  obtain ⟨_, eo27, h⟩ := ob h
  obtain ⟨r27, e27, h⟩ := ob h
  refine V_call (v := some (.int r27.1)) (st := []) (inv_V (N := m_Model_bits) (As := [.int (16 : Int32)]) (ci := 9) d_Model_storedBlock_27 eo27 rfl k1093 k1095 sel_Model_bits kc_Model_bits y_Model_bits) ⟨Or.inl kc_Model_bits, k10, by decide, by decide⟩ (Nat.le_of_ble_eq_true rfl) (by decide) (by decide) (c_Model_bits G F v0 (16 : Int32) r20.2 r27 e27) ?_
  refine V_istore_n (i := 2) d_Model_storedBlock_30 rfl (by decide) rfl ?_
  refine V_aload_n (i := 0) d_Model_storedBlock_31 rfl 2 rfl ?_
  refine V_aload_n (i := 0) d_Model_storedBlock_32 rfl 2 rfl ?_
  obtain ⟨x33, e33, h⟩ := ob h
  refine V_getI (ci := 9) (k := 11) d_Model_storedBlock_33 e33 rfl (by decide) in_Model k893 ?_
  refine V_if_ne (tgt := 47) d_Model_storedBlock_36 (by decide) (fun c36 => ?_) (fun c36 => ?_)
  · rw [if_neg c36] at h
    refine V_lv [2, 1] rfl ?_
    exact b_Model_storedBlock_47_ok G F v0 r20.1 v0 r27.2 _ h
  · rw [if_pos c36] at h
    refine V_iload_n (i := 1) d_Model_storedBlock_39 rfl 1 rfl ?_
    refine V_iload_n (i := 2) d_Model_storedBlock_40 rfl 0 rfl ?_
    refine V_iadd d_Model_storedBlock_41 ?_
    refine V_ldc (v := 65535) d_Model_storedBlock_42 k1101 ?_
    refine V_icmp_eq (tgt := 51) d_Model_storedBlock_44 (by decide) (fun c44 => ?_) (fun c44 => ?_)
    · rw [if_pos c44] at h
      refine V_iconst (v := 0) d_Model_storedBlock_51 (by decide) ?_
      refine V_lv [2, 1] rfl ?_
      exact b_Model_storedBlock_52_ok G F v0 r20.1 v0 (0 : Int32) r27.2 _ h
    · rw [if_neg c44] at h
      refine V_lv [2, 1] rfl ?_
      exact b_Model_storedBlock_47_ok G F v0 r20.1 v0 r27.2 _ h
def f_Model_storedBlock (F : Nat) (v0 : Nat) (w : zW) : Option (Unit × zW) := b_Model_storedBlock_0 F v0 w
theorem c_Model_storedBlock (G : zG) (F : Nat) (v0 : Nat) (w : zW) (r : (Unit × zW)) (h : f_Model_storedBlock F v0 w = some r) : zCT G m_Model_storedBlock [.ref (z0 G + v0)] w (oV r.1) r.2 := zCT.ofV (by decide +kernel) (Or.inl ⟨kc_Model_storedBlock, rfl⟩) (Nat.le_of_ble_eq_true rfl) (b_Model_storedBlock_0_ok G F v0 w r h)

/-! ZipArrayModel.readRow(I)V -/
def m_Model_readRow : zM := (⟨R_Model, "readRow", "(I)V"⟩, prog_11_method_33_code, 7, none, [], { frames := 2, cells := 0, slots := 0, locals := 46 })
theorem k1114 : Cond.methodLink R_Model 166 (mY m_Model_symbol) ∈ zTb := tb_at 1114 (by decide +kernel) rfl
theorem k1116 : Cond.instanceMethod (mY m_Model_symbol) ∈ zTb := tb_at 1116 (by decide +kernel) rfl
theorem kc_Model_readRow : Cond.code (mY m_Model_readRow) (mC m_Model_readRow) (mL m_Model_readRow) (mT m_Model_readRow) ∈ zTb := tb_at 1113 (by decide +kernel) rfl
theorem y_Model_readRow : (mY m_Model_readRow).cls ≠ "java/lang/invoke/MethodHandle" ∧ (mY m_Model_readRow).cls ≠ "java/lang/invoke/VarHandle" ∧ (parseMethodDescriptor (mY m_Model_readRow).desc).map (fun d => d.parameters.length) = some 1 := by decide +kernel
theorem sel_Model_readRow : Cond.selects R_Model (mY m_Model_readRow) (mY m_Model_readRow) ∈ zTb := sel_at (y := mY m_Model_readRow) (n := 33) 55 (by decide +kernel)
theorem d_Model_readRow_0 : decode (mC m_Model_readRow) 0 = .ok (.iconst 0, 1) := by decide +kernel
theorem d_Model_readRow_1 : decode (mC m_Model_readRow) 1 = .ok (.istore_n 2, 1) := by decide +kernel
theorem d_Model_readRow_2 : decode (mC m_Model_readRow) 2 = .ok (.iload_n 2, 1) := by decide +kernel
theorem d_Model_readRow_3 : decode (mC m_Model_readRow) 3 = .ok (.iload_n 1, 1) := by decide +kernel
theorem d_Model_readRow_4 : decode (mC m_Model_readRow) 4 = .ok (.if_icmp .ge 178, 3) := by decide +kernel
theorem d_Model_readRow_7 : decode (mC m_Model_readRow) 7 = .ok (.aload_n 0, 1) := by decide +kernel
theorem d_Model_readRow_8 : decode (mC m_Model_readRow) 8 = .ok (.getfield 149, 3) := by decide +kernel
theorem d_Model_readRow_11 : decode (mC m_Model_readRow) 11 = .ok (.ifCond .ne 171, 3) := by decide +kernel
theorem d_Model_readRow_14 : decode (mC m_Model_readRow) 14 = .ok (.aload_n 0, 1) := by decide +kernel
theorem d_Model_readRow_15 : decode (mC m_Model_readRow) 15 = .ok (.sipush 320, 3) := by decide +kernel
theorem d_Model_readRow_18 : decode (mC m_Model_readRow) 18 = .ok (.bipush 19, 2) := by decide +kernel
theorem d_Model_readRow_20 : decode (mC m_Model_readRow) 20 = .ok (.invokevirtual 166, 3) := by decide +kernel
theorem d_Model_readRow_23 : decode (mC m_Model_readRow) 23 = .ok (.istore_n 3, 1) := by decide +kernel
theorem d_Model_readRow_24 : decode (mC m_Model_readRow) 24 = .ok (.iload_n 3, 1) := by decide +kernel
theorem d_Model_readRow_25 : decode (mC m_Model_readRow) 25 = .ok (.bipush 16, 2) := by decide +kernel
theorem d_Model_readRow_27 : decode (mC m_Model_readRow) 27 = .ok (.if_icmp .ge 7, 3) := by decide +kernel
theorem d_Model_readRow_30 : decode (mC m_Model_readRow) 30 = .ok (.iconst 1, 1) := by decide +kernel
theorem d_Model_readRow_31 : decode (mC m_Model_readRow) 31 = .ok (.goto 44, 3) := by decide +kernel
theorem d_Model_readRow_34 : decode (mC m_Model_readRow) 34 = .ok (.iload_n 3, 1) := by decide +kernel
theorem d_Model_readRow_35 : decode (mC m_Model_readRow) 35 = .ok (.bipush 16, 2) := by decide +kernel
theorem d_Model_readRow_37 : decode (mC m_Model_readRow) 37 = .ok (.if_icmp .ne 13, 3) := by decide +kernel
theorem d_Model_readRow_40 : decode (mC m_Model_readRow) 40 = .ok (.iconst 3, 1) := by decide +kernel
theorem d_Model_readRow_41 : decode (mC m_Model_readRow) 41 = .ok (.aload_n 0, 1) := by decide +kernel
theorem d_Model_readRow_42 : decode (mC m_Model_readRow) 42 = .ok (.iconst 2, 1) := by decide +kernel
theorem d_Model_readRow_43 : decode (mC m_Model_readRow) 43 = .ok (.invokevirtual 159, 3) := by decide +kernel
theorem d_Model_readRow_46 : decode (mC m_Model_readRow) 46 = .ok (.iadd, 1) := by decide +kernel
theorem d_Model_readRow_47 : decode (mC m_Model_readRow) 47 = .ok (.goto 28, 3) := by decide +kernel
theorem d_Model_readRow_50 : decode (mC m_Model_readRow) 50 = .ok (.iload_n 3, 1) := by decide +kernel
theorem d_Model_readRow_51 : decode (mC m_Model_readRow) 51 = .ok (.bipush 17, 2) := by decide +kernel
theorem d_Model_readRow_53 : decode (mC m_Model_readRow) 53 = .ok (.if_icmp .ne 13, 3) := by decide +kernel
theorem d_Model_readRow_56 : decode (mC m_Model_readRow) 56 = .ok (.iconst 3, 1) := by decide +kernel
theorem d_Model_readRow_57 : decode (mC m_Model_readRow) 57 = .ok (.aload_n 0, 1) := by decide +kernel
theorem d_Model_readRow_58 : decode (mC m_Model_readRow) 58 = .ok (.iconst 3, 1) := by decide +kernel
theorem d_Model_readRow_59 : decode (mC m_Model_readRow) 59 = .ok (.invokevirtual 159, 3) := by decide +kernel
theorem d_Model_readRow_62 : decode (mC m_Model_readRow) 62 = .ok (.iadd, 1) := by decide +kernel
theorem d_Model_readRow_63 : decode (mC m_Model_readRow) 63 = .ok (.goto 12, 3) := by decide +kernel
theorem d_Model_readRow_66 : decode (mC m_Model_readRow) 66 = .ok (.bipush 11, 2) := by decide +kernel
theorem d_Model_readRow_68 : decode (mC m_Model_readRow) 68 = .ok (.aload_n 0, 1) := by decide +kernel
theorem d_Model_readRow_69 : decode (mC m_Model_readRow) 69 = .ok (.bipush 7, 2) := by decide +kernel
theorem d_Model_readRow_71 : decode (mC m_Model_readRow) 71 = .ok (.invokevirtual 159, 3) := by decide +kernel
theorem d_Model_readRow_74 : decode (mC m_Model_readRow) 74 = .ok (.iadd, 1) := by decide +kernel
theorem d_Model_readRow_75 : decode (mC m_Model_readRow) 75 = .ok (.istore 4, 2) := by decide +kernel
theorem d_Model_readRow_77 : decode (mC m_Model_readRow) 77 = .ok (.aload_n 0, 1) := by decide +kernel
theorem d_Model_readRow_78 : decode (mC m_Model_readRow) 78 = .ok (.aload_n 0, 1) := by decide +kernel
theorem d_Model_readRow_79 : decode (mC m_Model_readRow) 79 = .ok (.getfield 149, 3) := by decide +kernel
theorem d_Model_readRow_82 : decode (mC m_Model_readRow) 82 = .ok (.ifCond .ne 21, 3) := by decide +kernel
theorem d_Model_readRow_85 : decode (mC m_Model_readRow) 85 = .ok (.iload_n 3, 1) := by decide +kernel
theorem d_Model_readRow_86 : decode (mC m_Model_readRow) 86 = .ok (.bipush 16, 2) := by decide +kernel
theorem d_Model_readRow_88 : decode (mC m_Model_readRow) 88 = .ok (.if_icmp .ne 7, 3) := by decide +kernel
theorem d_Model_readRow_91 : decode (mC m_Model_readRow) 91 = .ok (.iload_n 2, 1) := by decide +kernel
theorem d_Model_readRow_92 : decode (mC m_Model_readRow) 92 = .ok (.ifCond .eq 11, 3) := by decide +kernel
theorem d_Model_readRow_95 : decode (mC m_Model_readRow) 95 = .ok (.iload_n 2, 1) := by decide +kernel
theorem d_Model_readRow_96 : decode (mC m_Model_readRow) 96 = .ok (.iload 4, 2) := by decide +kernel
theorem d_Model_readRow_98 : decode (mC m_Model_readRow) 98 = .ok (.iadd, 1) := by decide +kernel
theorem d_Model_readRow_99 : decode (mC m_Model_readRow) 99 = .ok (.iload_n 1, 1) := by decide +kernel
theorem d_Model_readRow_100 : decode (mC m_Model_readRow) 100 = .ok (.if_icmp .le 7, 3) := by decide +kernel
theorem d_Model_readRow_103 : decode (mC m_Model_readRow) 103 = .ok (.iconst 1, 1) := by decide +kernel
theorem d_Model_readRow_104 : decode (mC m_Model_readRow) 104 = .ok (.goto 4, 3) := by decide +kernel
theorem d_Model_readRow_107 : decode (mC m_Model_readRow) 107 = .ok (.iconst 0, 1) := by decide +kernel
theorem d_Model_readRow_108 : decode (mC m_Model_readRow) 108 = .ok (.putfield 149, 3) := by decide +kernel
theorem d_Model_readRow_111 : decode (mC m_Model_readRow) 111 = .ok (.iload_n 3, 1) := by decide +kernel
theorem d_Model_readRow_112 : decode (mC m_Model_readRow) 112 = .ok (.bipush 16, 2) := by decide +kernel
theorem d_Model_readRow_114 : decode (mC m_Model_readRow) 114 = .ok (.if_icmp .ge 7, 3) := by decide +kernel
theorem d_Model_readRow_117 : decode (mC m_Model_readRow) 117 = .ok (.iload_n 3, 1) := by decide +kernel
theorem d_Model_readRow_118 : decode (mC m_Model_readRow) 118 = .ok (.goto 25, 3) := by decide +kernel
theorem d_Model_readRow_121 : decode (mC m_Model_readRow) 121 = .ok (.iload_n 3, 1) := by decide +kernel
theorem d_Model_readRow_122 : decode (mC m_Model_readRow) 122 = .ok (.bipush 16, 2) := by decide +kernel
theorem d_Model_readRow_124 : decode (mC m_Model_readRow) 124 = .ok (.if_icmp .ne 18, 3) := by decide +kernel
theorem d_Model_readRow_127 : decode (mC m_Model_readRow) 127 = .ok (.iload_n 2, 1) := by decide +kernel
theorem d_Model_readRow_128 : decode (mC m_Model_readRow) 128 = .ok (.ifCond .le 14, 3) := by decide +kernel
theorem d_Model_readRow_131 : decode (mC m_Model_readRow) 131 = .ok (.aload_n 0, 1) := by decide +kernel
theorem d_Model_readRow_132 : decode (mC m_Model_readRow) 132 = .ok (.getfield 28, 3) := by decide +kernel
theorem d_Model_readRow_135 : decode (mC m_Model_readRow) 135 = .ok (.iload_n 2, 1) := by decide +kernel
theorem d_Model_readRow_136 : decode (mC m_Model_readRow) 136 = .ok (.iconst 1, 1) := by decide +kernel
theorem d_Model_readRow_137 : decode (mC m_Model_readRow) 137 = .ok (.isub, 1) := by decide +kernel
theorem d_Model_readRow_138 : decode (mC m_Model_readRow) 138 = .ok (.iaload, 1) := by decide +kernel
theorem d_Model_readRow_139 : decode (mC m_Model_readRow) 139 = .ok (.goto 4, 3) := by decide +kernel
theorem d_Model_readRow_142 : decode (mC m_Model_readRow) 142 = .ok (.iconst 0, 1) := by decide +kernel
theorem d_Model_readRow_143 : decode (mC m_Model_readRow) 143 = .ok (.istore 5, 2) := by decide +kernel
theorem d_Model_readRow_145 : decode (mC m_Model_readRow) 145 = .ok (.iconst 0, 1) := by decide +kernel
theorem d_Model_readRow_146 : decode (mC m_Model_readRow) 146 = .ok (.istore 6, 2) := by decide +kernel
theorem d_Model_readRow_148 : decode (mC m_Model_readRow) 148 = .ok (.iload 6, 2) := by decide +kernel
theorem d_Model_readRow_150 : decode (mC m_Model_readRow) 150 = .ok (.iload 4, 2) := by decide +kernel
theorem d_Model_readRow_152 : decode (mC m_Model_readRow) 152 = .ok (.if_icmp .ge 27, 3) := by decide +kernel
theorem d_Model_readRow_155 : decode (mC m_Model_readRow) 155 = .ok (.aload_n 0, 1) := by decide +kernel
theorem d_Model_readRow_156 : decode (mC m_Model_readRow) 156 = .ok (.getfield 149, 3) := by decide +kernel
theorem d_Model_readRow_159 : decode (mC m_Model_readRow) 159 = .ok (.ifCond .ne 20, 3) := by decide +kernel
theorem d_Model_readRow_162 : decode (mC m_Model_readRow) 162 = .ok (.aload_n 0, 1) := by decide +kernel
theorem d_Model_readRow_163 : decode (mC m_Model_readRow) 163 = .ok (.getfield 28, 3) := by decide +kernel
theorem d_Model_readRow_166 : decode (mC m_Model_readRow) 166 = .ok (.iload_n 2, 1) := by decide +kernel
theorem d_Model_readRow_167 : decode (mC m_Model_readRow) 167 = .ok (.iload 5, 2) := by decide +kernel
theorem d_Model_readRow_169 : decode (mC m_Model_readRow) 169 = .ok (.iastore, 1) := by decide +kernel
theorem d_Model_readRow_170 : decode (mC m_Model_readRow) 170 = .ok (.iinc 2 1, 3) := by decide +kernel
theorem d_Model_readRow_173 : decode (mC m_Model_readRow) 173 = .ok (.iinc 6 1, 3) := by decide +kernel
theorem d_Model_readRow_176 : decode (mC m_Model_readRow) 176 = .ok (.goto (-28), 3) := by decide +kernel
theorem d_Model_readRow_179 : decode (mC m_Model_readRow) 179 = .ok (.goto (-177), 3) := by decide +kernel
theorem d_Model_readRow_182 : decode (mC m_Model_readRow) 182 = .ok (.return_, 1) := by decide +kernel
def b_Model_readRow_179 (F : Nat) (K2 : Nat → Int32 → Int32 → zW → Option (Unit × zW)) (v0 : Nat) (v1 : Int32) (v2 : Int32) (w : zW) : Option (Unit × zW) := K2 v0 v1 v2 w
set_option maxRecDepth 100000 in
set_option maxHeartbeats 4000000 in
theorem b_Model_readRow_179_ok (G : zG) (F : Nat) (K2 : Nat → Int32 → Int32 → zW → Option (Unit × zW)) (hK2 : ∀ (v0 : Nat) (v1 : Int32) (v2 : Int32) (w : zW) (r : (Unit × zW)), K2 v0 v1 v2 w = some r → zV G m_Model_readRow 2 [(0, .ref (z0 G + v0)), (1, .int v1), (2, .int v2)] [] w 0 0 (oV r.1) r.2) (v0 : Nat) (v1 : Int32) (v2 : Int32) (w : zW) (r : (Unit × zW)) (h : b_Model_readRow_179 F K2 v0 v1 v2 w = some r) : zV G m_Model_readRow 179 [(0, .ref (z0 G + v0)), (1, .int v1), (2, .int v2)] [] w 0 0 (oV r.1) r.2 := by
  unfold b_Model_readRow_179 at h
  refine V_goto (tgt := 2) d_Model_readRow_179 (by decide) ?_
  exact hK2 v0 v1 v2 w _ h
def b_Model_readRow_148 (F : Nat) (K2 : Nat → Int32 → Int32 → zW → Option (Unit × zW)) (K148 : Nat → Int32 → Int32 → Int32 → Int32 → Int32 → zW → Option (Unit × zW)) (v0 : Nat) (v1 : Int32) (v2 : Int32) (v4 : Int32) (v5 : Int32) (v6 : Int32) (w : zW) : Option (Unit × zW) := if v4 ≤ v6 then (b_Model_readRow_179 F K2 v0 v1 v2 w) else ((getI w v0 9 11).bind fun x156 => if x156 = 0 then ((getR w v0 9 14).bind fun x163 => (aset w x163 v2 v5).bind fun w169 => K148 v0 v1 (v2 + (1 : Int32)) v4 v5 (v6 + (1 : Int32)) w169) else (b_Model_readRow_179 F K2 v0 v1 v2 w))
set_option maxRecDepth 100000 in
set_option maxHeartbeats 4000000 in
theorem b_Model_readRow_148_ok (G : zG) (F : Nat) (K2 : Nat → Int32 → Int32 → zW → Option (Unit × zW)) (K148 : Nat → Int32 → Int32 → Int32 → Int32 → Int32 → zW → Option (Unit × zW)) (hK2 : ∀ (v0 : Nat) (v1 : Int32) (v2 : Int32) (w : zW) (r : (Unit × zW)), K2 v0 v1 v2 w = some r → zV G m_Model_readRow 2 [(0, .ref (z0 G + v0)), (1, .int v1), (2, .int v2)] [] w 0 0 (oV r.1) r.2) (hK148 : ∀ (v0 : Nat) (v1 : Int32) (v2 : Int32) (v4 : Int32) (v5 : Int32) (v6 : Int32) (w : zW) (r : (Unit × zW)), K148 v0 v1 v2 v4 v5 v6 w = some r → zV G m_Model_readRow 148 [(0, .ref (z0 G + v0)), (1, .int v1), (2, .int v2), (4, .int v4), (5, .int v5), (6, .int v6)] [] w 0 0 (oV r.1) r.2) (v0 : Nat) (v1 : Int32) (v2 : Int32) (v4 : Int32) (v5 : Int32) (v6 : Int32) (w : zW) (r : (Unit × zW)) (h : b_Model_readRow_148 F K2 K148 v0 v1 v2 v4 v5 v6 w = some r) : zV G m_Model_readRow 148 [(0, .ref (z0 G + v0)), (1, .int v1), (2, .int v2), (4, .int v4), (5, .int v5), (6, .int v6)] [] w 0 0 (oV r.1) r.2 := by
  unfold b_Model_readRow_148 at h
  refine V_iload (i := 6) d_Model_readRow_148 5 rfl ?_
  refine V_iload (i := 4) d_Model_readRow_150 3 rfl ?_
  refine V_icmp_ge (tgt := 179) d_Model_readRow_152 (by decide) (fun c152 => ?_) (fun c152 => ?_)
  · rw [if_pos c152] at h
    refine V_lv [0, 1, 2] rfl ?_
    exact b_Model_readRow_179_ok G F K2 hK2 v0 v1 v2 w _ h
  · rw [if_neg c152] at h
    refine V_aload_n (i := 0) d_Model_readRow_155 rfl 0 rfl ?_
    obtain ⟨x156, e156, h⟩ := ob h
    refine V_getI (ci := 9) (k := 11) d_Model_readRow_156 e156 rfl (by decide) in_Model k893 ?_
    refine V_if_ne (tgt := 179) d_Model_readRow_159 (by decide) (fun c159 => ?_) (fun c159 => ?_)
    · rw [if_neg c159] at h
      refine V_lv [0, 1, 2] rfl ?_
      exact b_Model_readRow_179_ok G F K2 hK2 v0 v1 v2 w _ h
    · rw [if_pos c159] at h
      refine V_aload_n (i := 0) d_Model_readRow_162 rfl 0 rfl ?_
      obtain ⟨x163, e163, h⟩ := ob h
      refine V_getR (ci := 9) (k := 14) d_Model_readRow_163 e163 rfl (by decide) in_Model k896 ?_
      refine V_iload_n (i := 2) d_Model_readRow_166 rfl 2 rfl ?_
      refine V_iload (i := 5) d_Model_readRow_167 4 rfl ?_
      obtain ⟨w169, e169, h⟩ := ob h
      refine V_aset d_Model_readRow_169 e169 ?_
      refine V_iinc (i := 2) (v := (v2 + (1 : Int32))) d_Model_readRow_170 2 rfl (congrArg (fun y => v2 + y) (by decide : Int32.ofInt (1) = (1 : Int32))) (by decide) rfl ?_
      refine V_iinc (i := 6) (v := (v6 + (1 : Int32))) d_Model_readRow_173 5 rfl (congrArg (fun y => v6 + y) (by decide : Int32.ofInt (1) = (1 : Int32))) (by decide) rfl ?_
      refine V_goto (tgt := 148) d_Model_readRow_176 (by decide) ?_
      refine V_lv [2, 3, 1, 4, 5, 0] rfl ?_
      exact hK148 v0 v1 (v2 + (1 : Int32)) v4 v5 (v6 + (1 : Int32)) w169 _ h
def l_Model_readRow_148 (F : Nat) (K2 : Nat → Int32 → Int32 → zW → Option (Unit × zW)) : Nat → Nat → Int32 → Int32 → Int32 → Int32 → Int32 → zW → Option (Unit × zW)
  | 0 => fun _ _ _ _ _ _ _ => none
  | n + 1 => b_Model_readRow_148 F K2 (l_Model_readRow_148 F K2 n)
theorem l_Model_readRow_148_ok (G : zG) (F : Nat) (K2 : Nat → Int32 → Int32 → zW → Option (Unit × zW)) (hK2 : ∀ (v0 : Nat) (v1 : Int32) (v2 : Int32) (w : zW) (r : (Unit × zW)), K2 v0 v1 v2 w = some r → zV G m_Model_readRow 2 [(0, .ref (z0 G + v0)), (1, .int v1), (2, .int v2)] [] w 0 0 (oV r.1) r.2) (n : Nat) :  ∀ (v0 : Nat) (v1 : Int32) (v2 : Int32) (v4 : Int32) (v5 : Int32) (v6 : Int32) (w : zW) (r : (Unit × zW)), l_Model_readRow_148 F K2 n v0 v1 v2 v4 v5 v6 w = some r → zV G m_Model_readRow 148 [(0, .ref (z0 G + v0)), (1, .int v1), (2, .int v2), (4, .int v4), (5, .int v5), (6, .int v6)] [] w 0 0 (oV r.1) r.2 := by
  induction n with
  | zero => intro v0 v1 v2 v4 v5 v6 w r h; exact nomatch (show (none : Option (Unit × zW)) = some r from h)
  | succ n ih => intro v0 v1 v2 v4 v5 v6 w r h; exact b_Model_readRow_148_ok G F K2 (l_Model_readRow_148 F K2 n) hK2 ih v0 v1 v2 v4 v5 v6 w r h
def b_Model_readRow_143 (F : Nat) (K2 : Nat → Int32 → Int32 → zW → Option (Unit × zW)) (v0 : Nat) (v1 : Int32) (v2 : Int32) (v4 : Int32) (s0 : Int32) (w : zW) : Option (Unit × zW) := l_Model_readRow_148 F K2 F v0 v1 v2 v4 s0 (0 : Int32) w
set_option maxRecDepth 100000 in
set_option maxHeartbeats 4000000 in
theorem b_Model_readRow_143_ok (G : zG) (F : Nat) (K2 : Nat → Int32 → Int32 → zW → Option (Unit × zW)) (hK2 : ∀ (v0 : Nat) (v1 : Int32) (v2 : Int32) (w : zW) (r : (Unit × zW)), K2 v0 v1 v2 w = some r → zV G m_Model_readRow 2 [(0, .ref (z0 G + v0)), (1, .int v1), (2, .int v2)] [] w 0 0 (oV r.1) r.2) (v0 : Nat) (v1 : Int32) (v2 : Int32) (v4 : Int32) (s0 : Int32) (w : zW) (r : (Unit × zW)) (h : b_Model_readRow_143 F K2 v0 v1 v2 v4 s0 w = some r) : zV G m_Model_readRow 143 [(0, .ref (z0 G + v0)), (1, .int v1), (2, .int v2), (4, .int v4)] [.int s0] w 0 0 (oV r.1) r.2 := by
  unfold b_Model_readRow_143 at h
  refine V_istore (i := 5) d_Model_readRow_143 (by decide) rfl ?_
  refine V_iconst (v := 0) d_Model_readRow_145 (by decide) ?_
  refine V_istore (i := 6) d_Model_readRow_146 (by decide) rfl ?_
  refine V_lv [2, 3, 4, 5, 1, 0] rfl ?_
  exact l_Model_readRow_148_ok G F K2 hK2 F v0 v1 v2 v4 s0 (0 : Int32) w _ h
def b_Model_readRow_142 (F : Nat) (K2 : Nat → Int32 → Int32 → zW → Option (Unit × zW)) (v0 : Nat) (v1 : Int32) (v2 : Int32) (v4 : Int32) (w : zW) : Option (Unit × zW) := b_Model_readRow_143 F K2 v0 v1 v2 v4 (0 : Int32) w
set_option maxRecDepth 100000 in
set_option maxHeartbeats 4000000 in
theorem b_Model_readRow_142_ok (G : zG) (F : Nat) (K2 : Nat → Int32 → Int32 → zW → Option (Unit × zW)) (hK2 : ∀ (v0 : Nat) (v1 : Int32) (v2 : Int32) (w : zW) (r : (Unit × zW)), K2 v0 v1 v2 w = some r → zV G m_Model_readRow 2 [(0, .ref (z0 G + v0)), (1, .int v1), (2, .int v2)] [] w 0 0 (oV r.1) r.2) (v0 : Nat) (v1 : Int32) (v2 : Int32) (v4 : Int32) (w : zW) (r : (Unit × zW)) (h : b_Model_readRow_142 F K2 v0 v1 v2 v4 w = some r) : zV G m_Model_readRow 142 [(0, .ref (z0 G + v0)), (1, .int v1), (2, .int v2), (4, .int v4)] [] w 0 0 (oV r.1) r.2 := by
  unfold b_Model_readRow_142 at h
  refine V_iconst (v := 0) d_Model_readRow_142 (by decide) ?_
  exact b_Model_readRow_143_ok G F K2 hK2 v0 v1 v2 v4 (0 : Int32) w _ h
def b_Model_readRow_108 (F : Nat) (K2 : Nat → Int32 → Int32 → zW → Option (Unit × zW)) (v0 : Nat) (v1 : Int32) (v2 : Int32) (v3 : Int32) (v4 : Int32) (s0 : Nat) (s1 : Int32) (w : zW) : Option (Unit × zW) := if s1 = 0 ∨ s1 = 1 then (putI w s0 9 11 s1).bind fun w108 => if (16 : Int32) ≤ v3 then (if v3 = (16 : Int32) then (if v2 ≤ 0 then (b_Model_readRow_142 F K2 v0 v1 v2 v4 w108) else ((getR w108 v0 9 14).bind fun x132 => (aget w108 x132 (v2 - (1 : Int32))).bind fun x138 => b_Model_readRow_143 F K2 v0 v1 v2 v4 x138 w108)) else (b_Model_readRow_142 F K2 v0 v1 v2 v4 w108)) else (b_Model_readRow_143 F K2 v0 v1 v2 v4 v3 w108) else none
set_option maxRecDepth 100000 in
set_option maxHeartbeats 4000000 in
theorem b_Model_readRow_108_ok (G : zG) (F : Nat) (K2 : Nat → Int32 → Int32 → zW → Option (Unit × zW)) (hK2 : ∀ (v0 : Nat) (v1 : Int32) (v2 : Int32) (w : zW) (r : (Unit × zW)), K2 v0 v1 v2 w = some r → zV G m_Model_readRow 2 [(0, .ref (z0 G + v0)), (1, .int v1), (2, .int v2)] [] w 0 0 (oV r.1) r.2) (v0 : Nat) (v1 : Int32) (v2 : Int32) (v3 : Int32) (v4 : Int32) (s0 : Nat) (s1 : Int32) (w : zW) (r : (Unit × zW)) (h : b_Model_readRow_108 F K2 v0 v1 v2 v3 v4 s0 s1 w = some r) : zV G m_Model_readRow 108 [(0, .ref (z0 G + v0)), (1, .int v1), (2, .int v2), (3, .int v3), (4, .int v4)] [.int s1, .ref (z0 G + s0)] w 0 0 (oV r.1) r.2 := by
  unfold b_Model_readRow_108 at h
  by_cases g108 : ¬ (s1 = 0 ∨ s1 = 1)
  · exact absurd h (by rw [if_neg g108]; exact nofun)
  have g108 := Classical.not_not.mp g108
  rw [if_pos g108] at h
  obtain ⟨w108, e108, h⟩ := ob h
  refine V_putI (ci := 9) (k := 11) t_Model d_Model_readRow_108 e108 rfl (by decide) in_Model k893 ty_Model nm_Model rfl (Or.inr ⟨rfl, g108⟩) ?_
  refine V_iload_n (i := 3) d_Model_readRow_111 rfl 3 rfl ?_
  refine V_bipush (v := 16) d_Model_readRow_112 (by decide) ?_
  refine V_icmp_ge (tgt := 121) d_Model_readRow_114 (by decide) (fun c114 => ?_) (fun c114 => ?_)
  · rw [if_pos c114] at h
    refine V_iload_n (i := 3) d_Model_readRow_121 rfl 3 rfl ?_
    refine V_bipush (v := 16) d_Model_readRow_122 (by decide) ?_
    refine V_icmp_ne (tgt := 142) d_Model_readRow_124 (by decide) (fun c124 => ?_) (fun c124 => ?_)
    · rw [if_neg c124] at h
      refine V_lv [0, 1, 2, 4] rfl ?_
      exact b_Model_readRow_142_ok G F K2 hK2 v0 v1 v2 v4 w108 _ h
    · rw [if_pos c124] at h
      refine V_iload_n (i := 2) d_Model_readRow_127 rfl 2 rfl ?_
      refine V_if_le (tgt := 142) d_Model_readRow_128 (by decide) (fun c128 => ?_) (fun c128 => ?_)
      · rw [if_pos c128] at h
        refine V_lv [0, 1, 2, 4] rfl ?_
        exact b_Model_readRow_142_ok G F K2 hK2 v0 v1 v2 v4 w108 _ h
      · rw [if_neg c128] at h
        refine V_aload_n (i := 0) d_Model_readRow_131 rfl 0 rfl ?_
        obtain ⟨x132, e132, h⟩ := ob h
        refine V_getR (ci := 9) (k := 14) d_Model_readRow_132 e132 rfl (by decide) in_Model k896 ?_
        refine V_iload_n (i := 2) d_Model_readRow_135 rfl 2 rfl ?_
        refine V_iconst (v := 1) d_Model_readRow_136 (by decide) ?_
        refine V_isub d_Model_readRow_137 ?_
        obtain ⟨x138, e138, h⟩ := ob h
        refine V_aget d_Model_readRow_138 e138 ?_
        refine V_goto (tgt := 143) d_Model_readRow_139 (by decide) ?_
        refine V_lv [0, 1, 2, 4] rfl ?_
        exact b_Model_readRow_143_ok G F K2 hK2 v0 v1 v2 v4 x138 w108 _ h
  · rw [if_neg c114] at h
    refine V_iload_n (i := 3) d_Model_readRow_117 rfl 3 rfl ?_
    refine V_goto (tgt := 143) d_Model_readRow_118 (by decide) ?_
    refine V_lv [0, 1, 2, 4] rfl ?_
    exact b_Model_readRow_143_ok G F K2 hK2 v0 v1 v2 v4 v3 w108 _ h
def b_Model_readRow_103 (F : Nat) (K2 : Nat → Int32 → Int32 → zW → Option (Unit × zW)) (v0 : Nat) (v1 : Int32) (v2 : Int32) (v3 : Int32) (v4 : Int32) (s0 : Nat) (w : zW) : Option (Unit × zW) := b_Model_readRow_108 F K2 v0 v1 v2 v3 v4 s0 (1 : Int32) w
set_option maxRecDepth 100000 in
set_option maxHeartbeats 4000000 in
theorem b_Model_readRow_103_ok (G : zG) (F : Nat) (K2 : Nat → Int32 → Int32 → zW → Option (Unit × zW)) (hK2 : ∀ (v0 : Nat) (v1 : Int32) (v2 : Int32) (w : zW) (r : (Unit × zW)), K2 v0 v1 v2 w = some r → zV G m_Model_readRow 2 [(0, .ref (z0 G + v0)), (1, .int v1), (2, .int v2)] [] w 0 0 (oV r.1) r.2) (v0 : Nat) (v1 : Int32) (v2 : Int32) (v3 : Int32) (v4 : Int32) (s0 : Nat) (w : zW) (r : (Unit × zW)) (h : b_Model_readRow_103 F K2 v0 v1 v2 v3 v4 s0 w = some r) : zV G m_Model_readRow 103 [(0, .ref (z0 G + v0)), (1, .int v1), (2, .int v2), (3, .int v3), (4, .int v4)] [.ref (z0 G + s0)] w 0 0 (oV r.1) r.2 := by
  unfold b_Model_readRow_103 at h
  refine V_iconst (v := 1) d_Model_readRow_103 (by decide) ?_
  refine V_goto (tgt := 108) d_Model_readRow_104 (by decide) ?_
  exact b_Model_readRow_108_ok G F K2 hK2 v0 v1 v2 v3 v4 s0 (1 : Int32) w _ h
def b_Model_readRow_95 (F : Nat) (K2 : Nat → Int32 → Int32 → zW → Option (Unit × zW)) (v0 : Nat) (v1 : Int32) (v2 : Int32) (v3 : Int32) (v4 : Int32) (s0 : Nat) (w : zW) : Option (Unit × zW) := if (v2 + v4) ≤ v1 then (b_Model_readRow_108 F K2 v0 v1 v2 v3 v4 s0 (0 : Int32) w) else (b_Model_readRow_103 F K2 v0 v1 v2 v3 v4 s0 w)
set_option maxRecDepth 100000 in
set_option maxHeartbeats 4000000 in
theorem b_Model_readRow_95_ok (G : zG) (F : Nat) (K2 : Nat → Int32 → Int32 → zW → Option (Unit × zW)) (hK2 : ∀ (v0 : Nat) (v1 : Int32) (v2 : Int32) (w : zW) (r : (Unit × zW)), K2 v0 v1 v2 w = some r → zV G m_Model_readRow 2 [(0, .ref (z0 G + v0)), (1, .int v1), (2, .int v2)] [] w 0 0 (oV r.1) r.2) (v0 : Nat) (v1 : Int32) (v2 : Int32) (v3 : Int32) (v4 : Int32) (s0 : Nat) (w : zW) (r : (Unit × zW)) (h : b_Model_readRow_95 F K2 v0 v1 v2 v3 v4 s0 w = some r) : zV G m_Model_readRow 95 [(0, .ref (z0 G + v0)), (1, .int v1), (2, .int v2), (3, .int v3), (4, .int v4)] [.ref (z0 G + s0)] w 0 0 (oV r.1) r.2 := by
  unfold b_Model_readRow_95 at h
  refine V_iload_n (i := 2) d_Model_readRow_95 rfl 2 rfl ?_
  refine V_iload (i := 4) d_Model_readRow_96 4 rfl ?_
  refine V_iadd d_Model_readRow_98 ?_
  refine V_iload_n (i := 1) d_Model_readRow_99 rfl 1 rfl ?_
  refine V_icmp_le (tgt := 107) d_Model_readRow_100 (by decide) (fun c100 => ?_) (fun c100 => ?_)
  · rw [if_pos c100] at h
    refine V_iconst (v := 0) d_Model_readRow_107 (by decide) ?_
    exact b_Model_readRow_108_ok G F K2 hK2 v0 v1 v2 v3 v4 s0 (0 : Int32) w _ h
  · rw [if_neg c100] at h
    exact b_Model_readRow_103_ok G F K2 hK2 v0 v1 v2 v3 v4 s0 w _ h
def b_Model_readRow_75 (F : Nat) (K2 : Nat → Int32 → Int32 → zW → Option (Unit × zW)) (v0 : Nat) (v1 : Int32) (v2 : Int32) (v3 : Int32) (s0 : Int32) (w : zW) : Option (Unit × zW) := (getI w v0 9 11).bind fun x79 => if x79 = 0 then (if v3 = (16 : Int32) then (if v2 = 0 then (b_Model_readRow_103 F K2 v0 v1 v2 v3 s0 v0 w) else (b_Model_readRow_95 F K2 v0 v1 v2 v3 s0 v0 w)) else (b_Model_readRow_95 F K2 v0 v1 v2 v3 s0 v0 w)) else (b_Model_readRow_103 F K2 v0 v1 v2 v3 s0 v0 w)
set_option maxRecDepth 100000 in
set_option maxHeartbeats 4000000 in
theorem b_Model_readRow_75_ok (G : zG) (F : Nat) (K2 : Nat → Int32 → Int32 → zW → Option (Unit × zW)) (hK2 : ∀ (v0 : Nat) (v1 : Int32) (v2 : Int32) (w : zW) (r : (Unit × zW)), K2 v0 v1 v2 w = some r → zV G m_Model_readRow 2 [(0, .ref (z0 G + v0)), (1, .int v1), (2, .int v2)] [] w 0 0 (oV r.1) r.2) (v0 : Nat) (v1 : Int32) (v2 : Int32) (v3 : Int32) (s0 : Int32) (w : zW) (r : (Unit × zW)) (h : b_Model_readRow_75 F K2 v0 v1 v2 v3 s0 w = some r) : zV G m_Model_readRow 75 [(0, .ref (z0 G + v0)), (1, .int v1), (2, .int v2), (3, .int v3)] [.int s0] w 0 0 (oV r.1) r.2 := by
  unfold b_Model_readRow_75 at h
  refine V_istore (i := 4) d_Model_readRow_75 (by decide) rfl ?_
  refine V_aload_n (i := 0) d_Model_readRow_77 rfl 1 rfl ?_
  refine V_aload_n (i := 0) d_Model_readRow_78 rfl 1 rfl ?_
  obtain ⟨x79, e79, h⟩ := ob h
  refine V_getI (ci := 9) (k := 11) d_Model_readRow_79 e79 rfl (by decide) in_Model k893 ?_
  refine V_if_ne (tgt := 103) d_Model_readRow_82 (by decide) (fun c82 => ?_) (fun c82 => ?_)
  · rw [if_neg c82] at h
    refine V_lv [1, 2, 3, 4, 0] rfl ?_
    exact b_Model_readRow_103_ok G F K2 hK2 v0 v1 v2 v3 s0 v0 w _ h
  · rw [if_pos c82] at h
    refine V_iload_n (i := 3) d_Model_readRow_85 rfl 4 rfl ?_
    refine V_bipush (v := 16) d_Model_readRow_86 (by decide) ?_
    refine V_icmp_ne (tgt := 95) d_Model_readRow_88 (by decide) (fun c88 => ?_) (fun c88 => ?_)
    · rw [if_neg c88] at h
      refine V_lv [1, 2, 3, 4, 0] rfl ?_
      exact b_Model_readRow_95_ok G F K2 hK2 v0 v1 v2 v3 s0 v0 w _ h
    · rw [if_pos c88] at h
      refine V_iload_n (i := 2) d_Model_readRow_91 rfl 3 rfl ?_
      refine V_if_eq (tgt := 103) d_Model_readRow_92 (by decide) (fun c92 => ?_) (fun c92 => ?_)
      · rw [if_pos c92] at h
        refine V_lv [1, 2, 3, 4, 0] rfl ?_
        exact b_Model_readRow_103_ok G F K2 hK2 v0 v1 v2 v3 s0 v0 w _ h
      · rw [if_neg c92] at h
        refine V_lv [1, 2, 3, 4, 0] rfl ?_
        exact b_Model_readRow_95_ok G F K2 hK2 v0 v1 v2 v3 s0 v0 w _ h
def b_Model_readRow_2 (F : Nat) (K2 : Nat → Int32 → Int32 → zW → Option (Unit × zW)) (v0 : Nat) (v1 : Int32) (v2 : Int32) (w : zW) : Option (Unit × zW) := if v1 ≤ v2 then (some ((), w)) else ((getI w v0 9 11).bind fun x8 => if x8 = 0 then ((zobj w v0 9).bind fun _ => (f_Model_symbol F v0 (320 : Int32) (19 : Int32) w).bind fun r20 => if (16 : Int32) ≤ r20.1 then (if r20.1 = (16 : Int32) then ((zobj r20.2 v0 9).bind fun _ => (f_Model_bits F v0 (2 : Int32) r20.2).bind fun r43 => b_Model_readRow_75 F K2 v0 v1 v2 r20.1 ((3 : Int32) + r43.1) r43.2) else (if r20.1 = (17 : Int32) then ((zobj r20.2 v0 9).bind fun _ => (f_Model_bits F v0 (3 : Int32) r20.2).bind fun r59 => b_Model_readRow_75 F K2 v0 v1 v2 r20.1 ((3 : Int32) + r59.1) r59.2) else ((zobj r20.2 v0 9).bind fun _ => (f_Model_bits F v0 (7 : Int32) r20.2).bind fun r71 => b_Model_readRow_75 F K2 v0 v1 v2 r20.1 ((11 : Int32) + r71.1) r71.2))) else (b_Model_readRow_75 F K2 v0 v1 v2 r20.1 (1 : Int32) r20.2)) else (some ((), w)))
set_option maxRecDepth 100000 in
set_option maxHeartbeats 4000000 in
theorem b_Model_readRow_2_ok (G : zG) (F : Nat) (K2 : Nat → Int32 → Int32 → zW → Option (Unit × zW)) (hK2 : ∀ (v0 : Nat) (v1 : Int32) (v2 : Int32) (w : zW) (r : (Unit × zW)), K2 v0 v1 v2 w = some r → zV G m_Model_readRow 2 [(0, .ref (z0 G + v0)), (1, .int v1), (2, .int v2)] [] w 0 0 (oV r.1) r.2) (v0 : Nat) (v1 : Int32) (v2 : Int32) (w : zW) (r : (Unit × zW)) (h : b_Model_readRow_2 F K2 v0 v1 v2 w = some r) : zV G m_Model_readRow 2 [(0, .ref (z0 G + v0)), (1, .int v1), (2, .int v2)] [] w 0 0 (oV r.1) r.2 := by
  unfold b_Model_readRow_2 at h
  refine V_iload_n (i := 2) d_Model_readRow_2 rfl 2 rfl ?_
  refine V_iload_n (i := 1) d_Model_readRow_3 rfl 1 rfl ?_
  refine V_icmp_ge (tgt := 182) d_Model_readRow_4 (by decide) (fun c4 => ?_) (fun c4 => ?_)
  · rw [if_pos c4] at h
    obtain rfl := Option.some.inj h
    exact V_vret rfl (by decide) (by decide) d_Model_readRow_182
  · rw [if_neg c4] at h
    refine V_aload_n (i := 0) d_Model_readRow_7 rfl 0 rfl ?_
    obtain ⟨x8, e8, h⟩ := ob h
    refine V_getI (ci := 9) (k := 11) d_Model_readRow_8 e8 rfl (by decide) in_Model k893 ?_
    refine V_if_ne (tgt := 182) d_Model_readRow_11 (by decide) (fun c11 => ?_) (fun c11 => ?_)
    · rw [if_neg c11] at h
      obtain rfl := Option.some.inj h
      exact V_vret rfl (by decide) (by decide) d_Model_readRow_182
    · rw [if_pos c11] at h
      refine V_aload_n (i := 0) d_Model_readRow_14 rfl 0 rfl ?_
      refine V_sipush (v := 320) d_Model_readRow_15 (by decide) ?_
      refine V_bipush (v := 19) d_Model_readRow_18 (by decide) ?_
      obtain ⟨_, eo20, h⟩ := ob h
      obtain ⟨r20, e20, h⟩ := ob h
      refine V_call (v := some (.int r20.1)) (st := []) (inv_V (N := m_Model_symbol) (As := [.int (320 : Int32), .int (19 : Int32)]) (ci := 9) d_Model_readRow_20 eo20 rfl k1114 k1116 sel_Model_symbol kc_Model_symbol y_Model_symbol) ⟨Or.inl kc_Model_symbol, k10, by decide, by decide⟩ (Nat.le_of_ble_eq_true rfl) (by decide) (by decide) (c_Model_symbol G F v0 (320 : Int32) (19 : Int32) w r20 e20) ?_
      refine V_istore_n (i := 3) d_Model_readRow_23 rfl (by decide) rfl ?_
      refine V_iload_n (i := 3) d_Model_readRow_24 rfl 0 rfl ?_
      refine V_bipush (v := 16) d_Model_readRow_25 (by decide) ?_
      refine V_icmp_ge (tgt := 34) d_Model_readRow_27 (by decide) (fun c27 => ?_) (fun c27 => ?_)
      · rw [if_pos c27] at h
        refine V_iload_n (i := 3) d_Model_readRow_34 rfl 0 rfl ?_
        refine V_bipush (v := 16) d_Model_readRow_35 (by decide) ?_
        refine V_icmp_ne (tgt := 50) d_Model_readRow_37 (by decide) (fun c37 => ?_) (fun c37 => ?_)
        · rw [if_neg c37] at h
          refine V_iload_n (i := 3) d_Model_readRow_50 rfl 0 rfl ?_
          refine V_bipush (v := 17) d_Model_readRow_51 (by decide) ?_
          refine V_icmp_ne (tgt := 66) d_Model_readRow_53 (by decide) (fun c53 => ?_) (fun c53 => ?_)
          · rw [if_neg c53] at h
            refine V_bipush (v := 11) d_Model_readRow_66 (by decide) ?_
            refine V_aload_n (i := 0) d_Model_readRow_68 rfl 1 rfl ?_
            refine V_bipush (v := 7) d_Model_readRow_69 (by decide) ?_
            obtain ⟨_, eo71, h⟩ := ob h
            obtain ⟨r71, e71, h⟩ := ob h
            refine V_call (v := some (.int r71.1)) (st := [.int (11 : Int32)]) (inv_V (N := m_Model_bits) (As := [.int (7 : Int32)]) (ci := 9) d_Model_readRow_71 eo71 rfl k1093 k1095 sel_Model_bits kc_Model_bits y_Model_bits) ⟨Or.inl kc_Model_bits, k10, by decide, by decide⟩ (Nat.le_of_ble_eq_true rfl) (by decide) (by decide) (c_Model_bits G F v0 (7 : Int32) r20.2 r71 e71) ?_
            refine V_iadd d_Model_readRow_74 ?_
            refine V_lv [1, 2, 3, 0] rfl ?_
            exact b_Model_readRow_75_ok G F K2 hK2 v0 v1 v2 r20.1 ((11 : Int32) + r71.1) r71.2 _ h
          · rw [if_pos c53] at h
            refine V_iconst (v := 3) d_Model_readRow_56 (by decide) ?_
            refine V_aload_n (i := 0) d_Model_readRow_57 rfl 1 rfl ?_
            refine V_iconst (v := 3) d_Model_readRow_58 (by decide) ?_
            obtain ⟨_, eo59, h⟩ := ob h
            obtain ⟨r59, e59, h⟩ := ob h
            refine V_call (v := some (.int r59.1)) (st := [.int (3 : Int32)]) (inv_V (N := m_Model_bits) (As := [.int (3 : Int32)]) (ci := 9) d_Model_readRow_59 eo59 rfl k1093 k1095 sel_Model_bits kc_Model_bits y_Model_bits) ⟨Or.inl kc_Model_bits, k10, by decide, by decide⟩ (Nat.le_of_ble_eq_true rfl) (by decide) (by decide) (c_Model_bits G F v0 (3 : Int32) r20.2 r59 e59) ?_
            refine V_iadd d_Model_readRow_62 ?_
            refine V_goto (tgt := 75) d_Model_readRow_63 (by decide) ?_
            refine V_lv [1, 2, 3, 0] rfl ?_
            exact b_Model_readRow_75_ok G F K2 hK2 v0 v1 v2 r20.1 ((3 : Int32) + r59.1) r59.2 _ h
        · rw [if_pos c37] at h
          refine V_iconst (v := 3) d_Model_readRow_40 (by decide) ?_
          refine V_aload_n (i := 0) d_Model_readRow_41 rfl 1 rfl ?_
          refine V_iconst (v := 2) d_Model_readRow_42 (by decide) ?_
          obtain ⟨_, eo43, h⟩ := ob h
          obtain ⟨r43, e43, h⟩ := ob h
          refine V_call (v := some (.int r43.1)) (st := [.int (3 : Int32)]) (inv_V (N := m_Model_bits) (As := [.int (2 : Int32)]) (ci := 9) d_Model_readRow_43 eo43 rfl k1093 k1095 sel_Model_bits kc_Model_bits y_Model_bits) ⟨Or.inl kc_Model_bits, k10, by decide, by decide⟩ (Nat.le_of_ble_eq_true rfl) (by decide) (by decide) (c_Model_bits G F v0 (2 : Int32) r20.2 r43 e43) ?_
          refine V_iadd d_Model_readRow_46 ?_
          refine V_goto (tgt := 75) d_Model_readRow_47 (by decide) ?_
          refine V_lv [1, 2, 3, 0] rfl ?_
          exact b_Model_readRow_75_ok G F K2 hK2 v0 v1 v2 r20.1 ((3 : Int32) + r43.1) r43.2 _ h
      · rw [if_neg c27] at h
        refine V_iconst (v := 1) d_Model_readRow_30 (by decide) ?_
        refine V_goto (tgt := 75) d_Model_readRow_31 (by decide) ?_
        refine V_lv [1, 2, 3, 0] rfl ?_
        exact b_Model_readRow_75_ok G F K2 hK2 v0 v1 v2 r20.1 (1 : Int32) r20.2 _ h
def l_Model_readRow_2 (F : Nat) : Nat → Nat → Int32 → Int32 → zW → Option (Unit × zW)
  | 0 => fun _ _ _ _ => none
  | n + 1 => b_Model_readRow_2 F (l_Model_readRow_2 F n)
theorem l_Model_readRow_2_ok (G : zG) (F : Nat) (n : Nat) :  ∀ (v0 : Nat) (v1 : Int32) (v2 : Int32) (w : zW) (r : (Unit × zW)), l_Model_readRow_2 F n v0 v1 v2 w = some r → zV G m_Model_readRow 2 [(0, .ref (z0 G + v0)), (1, .int v1), (2, .int v2)] [] w 0 0 (oV r.1) r.2 := by
  induction n with
  | zero => intro v0 v1 v2 w r h; exact nomatch (show (none : Option (Unit × zW)) = some r from h)
  | succ n ih => intro v0 v1 v2 w r h; exact b_Model_readRow_2_ok G F (l_Model_readRow_2 F n) ih v0 v1 v2 w r h
def b_Model_readRow_0 (F : Nat) (v0 : Nat) (v1 : Int32) (w : zW) : Option (Unit × zW) := l_Model_readRow_2 F F v0 v1 (0 : Int32) w
set_option maxRecDepth 100000 in
set_option maxHeartbeats 4000000 in
theorem b_Model_readRow_0_ok (G : zG) (F : Nat) (v0 : Nat) (v1 : Int32) (w : zW) (r : (Unit × zW)) (h : b_Model_readRow_0 F v0 v1 w = some r) : zV G m_Model_readRow 0 [(0, .ref (z0 G + v0)), (1, .int v1)] [] w 0 0 (oV r.1) r.2 := by
  unfold b_Model_readRow_0 at h
  refine V_iconst (v := 0) d_Model_readRow_0 (by decide) ?_
  refine V_istore_n (i := 2) d_Model_readRow_1 rfl (by decide) rfl ?_
  refine V_lv [1, 2, 0] rfl ?_
  exact l_Model_readRow_2_ok G F F v0 v1 (0 : Int32) w _ h
def f_Model_readRow (F : Nat) (v0 : Nat) (v1 : Int32) (w : zW) : Option (Unit × zW) := b_Model_readRow_0 F v0 v1 w
theorem c_Model_readRow (G : zG) (F : Nat) (v0 : Nat) (v1 : Int32) (w : zW) (r : (Unit × zW)) (h : f_Model_readRow F v0 v1 w = some r) : zCT G m_Model_readRow [.ref (z0 G + v0), .int v1] w (oV r.1) r.2 := zCT.ofV (by decide +kernel) (Or.inl ⟨kc_Model_readRow, rfl⟩) (Nat.le_of_ble_eq_true rfl) (b_Model_readRow_0_ok G F v0 v1 w r h)

/-! ZipArrayModel.readCodes()V -/
def m_Model_readCodes : zM := (⟨R_Model, "readCodes", "()V"⟩, prog_11_method_34_code, 6, none, [], { frames := 3, cells := 0, slots := 0, locals := 72 })
theorem k1110 : Cond.methodLink R_Model 169 (mY m_Model_readRow) ∈ zTb := tb_at 1110 (by decide +kernel) rfl
theorem k1112 : Cond.instanceMethod (mY m_Model_readRow) ∈ zTb := tb_at 1112 (by decide +kernel) rfl
theorem kc_Model_readCodes : Cond.code (mY m_Model_readCodes) (mC m_Model_readCodes) (mL m_Model_readCodes) (mT m_Model_readCodes) ∈ zTb := tb_at 1109 (by decide +kernel) rfl
theorem y_Model_readCodes : (mY m_Model_readCodes).cls ≠ "java/lang/invoke/MethodHandle" ∧ (mY m_Model_readCodes).cls ≠ "java/lang/invoke/VarHandle" ∧ (parseMethodDescriptor (mY m_Model_readCodes).desc).map (fun d => d.parameters.length) = some 0 := by decide +kernel
theorem sel_Model_readCodes : Cond.selects R_Model (mY m_Model_readCodes) (mY m_Model_readCodes) ∈ zTb := sel_at (y := mY m_Model_readCodes) (n := 33) 54 (by decide +kernel)
theorem d_Model_readCodes_0 : decode (mC m_Model_readCodes) 0 = .ok (.sipush 257, 3) := by decide +kernel
theorem d_Model_readCodes_3 : decode (mC m_Model_readCodes) 3 = .ok (.aload_n 0, 1) := by decide +kernel
theorem d_Model_readCodes_4 : decode (mC m_Model_readCodes) 4 = .ok (.iconst 5, 1) := by decide +kernel
theorem d_Model_readCodes_5 : decode (mC m_Model_readCodes) 5 = .ok (.invokevirtual 159, 3) := by decide +kernel
theorem d_Model_readCodes_8 : decode (mC m_Model_readCodes) 8 = .ok (.iadd, 1) := by decide +kernel
theorem d_Model_readCodes_9 : decode (mC m_Model_readCodes) 9 = .ok (.istore_n 1, 1) := by decide +kernel
theorem d_Model_readCodes_10 : decode (mC m_Model_readCodes) 10 = .ok (.iconst 1, 1) := by decide +kernel
theorem d_Model_readCodes_11 : decode (mC m_Model_readCodes) 11 = .ok (.aload_n 0, 1) := by decide +kernel
theorem d_Model_readCodes_12 : decode (mC m_Model_readCodes) 12 = .ok (.iconst 5, 1) := by decide +kernel
theorem d_Model_readCodes_13 : decode (mC m_Model_readCodes) 13 = .ok (.invokevirtual 159, 3) := by decide +kernel
theorem d_Model_readCodes_16 : decode (mC m_Model_readCodes) 16 = .ok (.iadd, 1) := by decide +kernel
theorem d_Model_readCodes_17 : decode (mC m_Model_readCodes) 17 = .ok (.istore_n 2, 1) := by decide +kernel
theorem d_Model_readCodes_18 : decode (mC m_Model_readCodes) 18 = .ok (.iconst 4, 1) := by decide +kernel
theorem d_Model_readCodes_19 : decode (mC m_Model_readCodes) 19 = .ok (.aload_n 0, 1) := by decide +kernel
theorem d_Model_readCodes_20 : decode (mC m_Model_readCodes) 20 = .ok (.iconst 4, 1) := by decide +kernel
theorem d_Model_readCodes_21 : decode (mC m_Model_readCodes) 21 = .ok (.invokevirtual 159, 3) := by decide +kernel
theorem d_Model_readCodes_24 : decode (mC m_Model_readCodes) 24 = .ok (.iadd, 1) := by decide +kernel
theorem d_Model_readCodes_25 : decode (mC m_Model_readCodes) 25 = .ok (.istore_n 3, 1) := by decide +kernel
theorem d_Model_readCodes_26 : decode (mC m_Model_readCodes) 26 = .ok (.iconst 0, 1) := by decide +kernel
theorem d_Model_readCodes_27 : decode (mC m_Model_readCodes) 27 = .ok (.istore 4, 2) := by decide +kernel
theorem d_Model_readCodes_29 : decode (mC m_Model_readCodes) 29 = .ok (.iload 4, 2) := by decide +kernel
theorem d_Model_readCodes_31 : decode (mC m_Model_readCodes) 31 = .ok (.bipush 19, 2) := by decide +kernel
theorem d_Model_readCodes_33 : decode (mC m_Model_readCodes) 33 = .ok (.if_icmp .ge 40, 3) := by decide +kernel
theorem d_Model_readCodes_36 : decode (mC m_Model_readCodes) 36 = .ok (.aload_n 0, 1) := by decide +kernel
theorem d_Model_readCodes_37 : decode (mC m_Model_readCodes) 37 = .ok (.getfield 22, 3) := by decide +kernel
theorem d_Model_readCodes_40 : decode (mC m_Model_readCodes) 40 = .ok (.sipush 320, 3) := by decide +kernel
theorem d_Model_readCodes_43 : decode (mC m_Model_readCodes) 43 = .ok (.aload_n 0, 1) := by decide +kernel
theorem d_Model_readCodes_44 : decode (mC m_Model_readCodes) 44 = .ok (.getfield 31, 3) := by decide +kernel
theorem d_Model_readCodes_47 : decode (mC m_Model_readCodes) 47 = .ok (.iload 4, 2) := by decide +kernel
theorem d_Model_readCodes_49 : decode (mC m_Model_readCodes) 49 = .ok (.iaload, 1) := by decide +kernel
theorem d_Model_readCodes_50 : decode (mC m_Model_readCodes) 50 = .ok (.iadd, 1) := by decide +kernel
theorem d_Model_readCodes_51 : decode (mC m_Model_readCodes) 51 = .ok (.iload 4, 2) := by decide +kernel
theorem d_Model_readCodes_53 : decode (mC m_Model_readCodes) 53 = .ok (.iload_n 3, 1) := by decide +kernel
theorem d_Model_readCodes_54 : decode (mC m_Model_readCodes) 54 = .ok (.if_icmp .ge 11, 3) := by decide +kernel
theorem d_Model_readCodes_57 : decode (mC m_Model_readCodes) 57 = .ok (.aload_n 0, 1) := by decide +kernel
theorem d_Model_readCodes_58 : decode (mC m_Model_readCodes) 58 = .ok (.iconst 3, 1) := by decide +kernel
theorem d_Model_readCodes_59 : decode (mC m_Model_readCodes) 59 = .ok (.invokevirtual 159, 3) := by decide +kernel
theorem d_Model_readCodes_62 : decode (mC m_Model_readCodes) 62 = .ok (.goto 4, 3) := by decide +kernel
theorem d_Model_readCodes_65 : decode (mC m_Model_readCodes) 65 = .ok (.iconst 0, 1) := by decide +kernel
theorem d_Model_readCodes_66 : decode (mC m_Model_readCodes) 66 = .ok (.iastore, 1) := by decide +kernel
theorem d_Model_readCodes_67 : decode (mC m_Model_readCodes) 67 = .ok (.iinc 4 1, 3) := by decide +kernel
theorem d_Model_readCodes_70 : decode (mC m_Model_readCodes) 70 = .ok (.goto (-41), 3) := by decide +kernel
theorem d_Model_readCodes_73 : decode (mC m_Model_readCodes) 73 = .ok (.aload_n 0, 1) := by decide +kernel
theorem d_Model_readCodes_74 : decode (mC m_Model_readCodes) 74 = .ok (.getfield 149, 3) := by decide +kernel
theorem d_Model_readCodes_77 : decode (mC m_Model_readCodes) 77 = .ok (.ifCond .ne 15, 3) := by decide +kernel
theorem d_Model_readCodes_80 : decode (mC m_Model_readCodes) 80 = .ok (.aload_n 0, 1) := by decide +kernel
theorem d_Model_readCodes_81 : decode (mC m_Model_readCodes) 81 = .ok (.sipush 320, 3) := by decide +kernel
theorem d_Model_readCodes_84 : decode (mC m_Model_readCodes) 84 = .ok (.bipush 19, 2) := by decide +kernel
theorem d_Model_readCodes_86 : decode (mC m_Model_readCodes) 86 = .ok (.invokevirtual 145, 3) := by decide +kernel
theorem d_Model_readCodes_89 : decode (mC m_Model_readCodes) 89 = .ok (.ifCond .ne 9, 3) := by decide +kernel
theorem d_Model_readCodes_92 : decode (mC m_Model_readCodes) 92 = .ok (.aload_n 0, 1) := by decide +kernel
theorem d_Model_readCodes_93 : decode (mC m_Model_readCodes) 93 = .ok (.iconst 1, 1) := by decide +kernel
theorem d_Model_readCodes_94 : decode (mC m_Model_readCodes) 94 = .ok (.putfield 149, 3) := by decide +kernel
theorem d_Model_readCodes_97 : decode (mC m_Model_readCodes) 97 = .ok (.return_, 1) := by decide +kernel
theorem d_Model_readCodes_98 : decode (mC m_Model_readCodes) 98 = .ok (.aload_n 0, 1) := by decide +kernel
theorem d_Model_readCodes_99 : decode (mC m_Model_readCodes) 99 = .ok (.iload_n 1, 1) := by decide +kernel
theorem d_Model_readCodes_100 : decode (mC m_Model_readCodes) 100 = .ok (.iload_n 2, 1) := by decide +kernel
theorem d_Model_readCodes_101 : decode (mC m_Model_readCodes) 101 = .ok (.iadd, 1) := by decide +kernel
theorem d_Model_readCodes_102 : decode (mC m_Model_readCodes) 102 = .ok (.invokevirtual 169, 3) := by decide +kernel
theorem d_Model_readCodes_105 : decode (mC m_Model_readCodes) 105 = .ok (.iconst 0, 1) := by decide +kernel
theorem d_Model_readCodes_106 : decode (mC m_Model_readCodes) 106 = .ok (.istore 4, 2) := by decide +kernel
theorem d_Model_readCodes_108 : decode (mC m_Model_readCodes) 108 = .ok (.iload 4, 2) := by decide +kernel
theorem d_Model_readCodes_110 : decode (mC m_Model_readCodes) 110 = .ok (.sipush 288, 3) := by decide +kernel
theorem d_Model_readCodes_113 : decode (mC m_Model_readCodes) 113 = .ok (.if_icmp .ge 33, 3) := by decide +kernel
theorem d_Model_readCodes_116 : decode (mC m_Model_readCodes) 116 = .ok (.aload_n 0, 1) := by decide +kernel
theorem d_Model_readCodes_117 : decode (mC m_Model_readCodes) 117 = .ok (.getfield 22, 3) := by decide +kernel
theorem d_Model_readCodes_120 : decode (mC m_Model_readCodes) 120 = .ok (.iload 4, 2) := by decide +kernel
theorem d_Model_readCodes_122 : decode (mC m_Model_readCodes) 122 = .ok (.iload 4, 2) := by decide +kernel
theorem d_Model_readCodes_124 : decode (mC m_Model_readCodes) 124 = .ok (.iload_n 1, 1) := by decide +kernel
theorem d_Model_readCodes_125 : decode (mC m_Model_readCodes) 125 = .ok (.if_icmp .ge 13, 3) := by decide +kernel
theorem d_Model_readCodes_128 : decode (mC m_Model_readCodes) 128 = .ok (.aload_n 0, 1) := by decide +kernel
theorem d_Model_readCodes_129 : decode (mC m_Model_readCodes) 129 = .ok (.getfield 28, 3) := by decide +kernel
theorem d_Model_readCodes_132 : decode (mC m_Model_readCodes) 132 = .ok (.iload 4, 2) := by decide +kernel
theorem d_Model_readCodes_134 : decode (mC m_Model_readCodes) 134 = .ok (.iaload, 1) := by decide +kernel
theorem d_Model_readCodes_135 : decode (mC m_Model_readCodes) 135 = .ok (.goto 4, 3) := by decide +kernel
theorem d_Model_readCodes_138 : decode (mC m_Model_readCodes) 138 = .ok (.iconst 0, 1) := by decide +kernel
theorem d_Model_readCodes_139 : decode (mC m_Model_readCodes) 139 = .ok (.iastore, 1) := by decide +kernel
theorem d_Model_readCodes_140 : decode (mC m_Model_readCodes) 140 = .ok (.iinc 4 1, 3) := by decide +kernel
theorem d_Model_readCodes_143 : decode (mC m_Model_readCodes) 143 = .ok (.goto (-35), 3) := by decide +kernel
theorem d_Model_readCodes_146 : decode (mC m_Model_readCodes) 146 = .ok (.iconst 0, 1) := by decide +kernel
theorem d_Model_readCodes_147 : decode (mC m_Model_readCodes) 147 = .ok (.istore 4, 2) := by decide +kernel
theorem d_Model_readCodes_149 : decode (mC m_Model_readCodes) 149 = .ok (.iload 4, 2) := by decide +kernel
theorem d_Model_readCodes_151 : decode (mC m_Model_readCodes) 151 = .ok (.bipush 32, 2) := by decide +kernel
theorem d_Model_readCodes_153 : decode (mC m_Model_readCodes) 153 = .ok (.if_icmp .ge 39, 3) := by decide +kernel
theorem d_Model_readCodes_156 : decode (mC m_Model_readCodes) 156 = .ok (.aload_n 0, 1) := by decide +kernel
theorem d_Model_readCodes_157 : decode (mC m_Model_readCodes) 157 = .ok (.getfield 22, 3) := by decide +kernel
theorem d_Model_readCodes_160 : decode (mC m_Model_readCodes) 160 = .ok (.sipush 288, 3) := by decide +kernel
theorem d_Model_readCodes_163 : decode (mC m_Model_readCodes) 163 = .ok (.iload 4, 2) := by decide +kernel
theorem d_Model_readCodes_165 : decode (mC m_Model_readCodes) 165 = .ok (.iadd, 1) := by decide +kernel
theorem d_Model_readCodes_166 : decode (mC m_Model_readCodes) 166 = .ok (.iload 4, 2) := by decide +kernel
theorem d_Model_readCodes_168 : decode (mC m_Model_readCodes) 168 = .ok (.iload_n 2, 1) := by decide +kernel
theorem d_Model_readCodes_169 : decode (mC m_Model_readCodes) 169 = .ok (.if_icmp .ge 15, 3) := by decide +kernel
theorem d_Model_readCodes_172 : decode (mC m_Model_readCodes) 172 = .ok (.aload_n 0, 1) := by decide +kernel
theorem d_Model_readCodes_173 : decode (mC m_Model_readCodes) 173 = .ok (.getfield 28, 3) := by decide +kernel
theorem d_Model_readCodes_176 : decode (mC m_Model_readCodes) 176 = .ok (.iload_n 1, 1) := by decide +kernel
theorem d_Model_readCodes_177 : decode (mC m_Model_readCodes) 177 = .ok (.iload 4, 2) := by decide +kernel
theorem d_Model_readCodes_179 : decode (mC m_Model_readCodes) 179 = .ok (.iadd, 1) := by decide +kernel
theorem d_Model_readCodes_180 : decode (mC m_Model_readCodes) 180 = .ok (.iaload, 1) := by decide +kernel
theorem d_Model_readCodes_181 : decode (mC m_Model_readCodes) 181 = .ok (.goto 4, 3) := by decide +kernel
theorem d_Model_readCodes_184 : decode (mC m_Model_readCodes) 184 = .ok (.iconst 0, 1) := by decide +kernel
theorem d_Model_readCodes_185 : decode (mC m_Model_readCodes) 185 = .ok (.iastore, 1) := by decide +kernel
theorem d_Model_readCodes_186 : decode (mC m_Model_readCodes) 186 = .ok (.iinc 4 1, 3) := by decide +kernel
theorem d_Model_readCodes_189 : decode (mC m_Model_readCodes) 189 = .ok (.goto (-40), 3) := by decide +kernel
theorem d_Model_readCodes_192 : decode (mC m_Model_readCodes) 192 = .ok (.aload_n 0, 1) := by decide +kernel
theorem d_Model_readCodes_193 : decode (mC m_Model_readCodes) 193 = .ok (.iconst 0, 1) := by decide +kernel
theorem d_Model_readCodes_194 : decode (mC m_Model_readCodes) 194 = .ok (.sipush 288, 3) := by decide +kernel
theorem d_Model_readCodes_197 : decode (mC m_Model_readCodes) 197 = .ok (.invokevirtual 145, 3) := by decide +kernel
theorem d_Model_readCodes_200 : decode (mC m_Model_readCodes) 200 = .ok (.istore 4, 2) := by decide +kernel
theorem d_Model_readCodes_202 : decode (mC m_Model_readCodes) 202 = .ok (.aload_n 0, 1) := by decide +kernel
theorem d_Model_readCodes_203 : decode (mC m_Model_readCodes) 203 = .ok (.sipush 288, 3) := by decide +kernel
theorem d_Model_readCodes_206 : decode (mC m_Model_readCodes) 206 = .ok (.bipush 32, 2) := by decide +kernel
theorem d_Model_readCodes_208 : decode (mC m_Model_readCodes) 208 = .ok (.invokevirtual 145, 3) := by decide +kernel
theorem d_Model_readCodes_211 : decode (mC m_Model_readCodes) 211 = .ok (.istore 5, 2) := by decide +kernel
theorem d_Model_readCodes_213 : decode (mC m_Model_readCodes) 213 = .ok (.aload_n 0, 1) := by decide +kernel
theorem d_Model_readCodes_214 : decode (mC m_Model_readCodes) 214 = .ok (.aload_n 0, 1) := by decide +kernel
theorem d_Model_readCodes_215 : decode (mC m_Model_readCodes) 215 = .ok (.getfield 149, 3) := by decide +kernel
theorem d_Model_readCodes_218 : decode (mC m_Model_readCodes) 218 = .ok (.ifCond .ne 13, 3) := by decide +kernel
theorem d_Model_readCodes_221 : decode (mC m_Model_readCodes) 221 = .ok (.iload 4, 2) := by decide +kernel
theorem d_Model_readCodes_223 : decode (mC m_Model_readCodes) 223 = .ok (.ifCond .eq 8, 3) := by decide +kernel
theorem d_Model_readCodes_226 : decode (mC m_Model_readCodes) 226 = .ok (.iload 5, 2) := by decide +kernel
theorem d_Model_readCodes_228 : decode (mC m_Model_readCodes) 228 = .ok (.ifCond .ne 7, 3) := by decide +kernel
theorem d_Model_readCodes_231 : decode (mC m_Model_readCodes) 231 = .ok (.iconst 1, 1) := by decide +kernel
theorem d_Model_readCodes_232 : decode (mC m_Model_readCodes) 232 = .ok (.goto 4, 3) := by decide +kernel
theorem d_Model_readCodes_235 : decode (mC m_Model_readCodes) 235 = .ok (.iconst 0, 1) := by decide +kernel
theorem d_Model_readCodes_236 : decode (mC m_Model_readCodes) 236 = .ok (.putfield 149, 3) := by decide +kernel
theorem d_Model_readCodes_239 : decode (mC m_Model_readCodes) 239 = .ok (.return_, 1) := by decide +kernel
def b_Model_readCodes_236 (F : Nat) (s0 : Nat) (s1 : Int32) (w : zW) : Option (Unit × zW) := if s1 = 0 ∨ s1 = 1 then (putI w s0 9 11 s1).bind fun w236 => some ((), w236) else none
set_option maxRecDepth 100000 in
set_option maxHeartbeats 4000000 in
theorem b_Model_readCodes_236_ok (G : zG) (F : Nat) (s0 : Nat) (s1 : Int32) (w : zW) (r : (Unit × zW)) (h : b_Model_readCodes_236 F s0 s1 w = some r) : zV G m_Model_readCodes 236 [] [.int s1, .ref (z0 G + s0)] w 0 0 (oV r.1) r.2 := by
  unfold b_Model_readCodes_236 at h
  by_cases g236 : ¬ (s1 = 0 ∨ s1 = 1)
  · exact absurd h (by rw [if_neg g236]; exact nofun)
  have g236 := Classical.not_not.mp g236
  rw [if_pos g236] at h
  obtain ⟨w236, e236, h⟩ := ob h
  refine V_putI (ci := 9) (k := 11) t_Model d_Model_readCodes_236 e236 rfl (by decide) in_Model k893 ty_Model nm_Model rfl (Or.inr ⟨rfl, g236⟩) ?_
  obtain rfl := Option.some.inj h
  exact V_vret rfl (by decide) (by decide) d_Model_readCodes_239
def b_Model_readCodes_231 (F : Nat) (s0 : Nat) (w : zW) : Option (Unit × zW) := b_Model_readCodes_236 F s0 (1 : Int32) w
set_option maxRecDepth 100000 in
set_option maxHeartbeats 4000000 in
theorem b_Model_readCodes_231_ok (G : zG) (F : Nat) (s0 : Nat) (w : zW) (r : (Unit × zW)) (h : b_Model_readCodes_231 F s0 w = some r) : zV G m_Model_readCodes 231 [] [.ref (z0 G + s0)] w 0 0 (oV r.1) r.2 := by
  unfold b_Model_readCodes_231 at h
  refine V_iconst (v := 1) d_Model_readCodes_231 (by decide) ?_
  refine V_goto (tgt := 236) d_Model_readCodes_232 (by decide) ?_
  exact b_Model_readCodes_236_ok G F s0 (1 : Int32) w _ h
def b_Model_readCodes_185 (F : Nat) (K149 : Nat → Int32 → Int32 → Int32 → zW → Option (Unit × zW)) (v0 : Nat) (v1 : Int32) (v2 : Int32) (v4 : Int32) (s0 : Nat) (s1 : Int32) (s2 : Int32) (w : zW) : Option (Unit × zW) := (aset w s0 s1 s2).bind fun w185 => K149 v0 v1 v2 (v4 + (1 : Int32)) w185
set_option maxRecDepth 100000 in
set_option maxHeartbeats 4000000 in
theorem b_Model_readCodes_185_ok (G : zG) (F : Nat) (K149 : Nat → Int32 → Int32 → Int32 → zW → Option (Unit × zW)) (hK149 : ∀ (v0 : Nat) (v1 : Int32) (v2 : Int32) (v4 : Int32) (w : zW) (r : (Unit × zW)), K149 v0 v1 v2 v4 w = some r → zV G m_Model_readCodes 149 [(0, .ref (z0 G + v0)), (1, .int v1), (2, .int v2), (4, .int v4)] [] w 0 0 (oV r.1) r.2) (v0 : Nat) (v1 : Int32) (v2 : Int32) (v4 : Int32) (s0 : Nat) (s1 : Int32) (s2 : Int32) (w : zW) (r : (Unit × zW)) (h : b_Model_readCodes_185 F K149 v0 v1 v2 v4 s0 s1 s2 w = some r) : zV G m_Model_readCodes 185 [(0, .ref (z0 G + v0)), (1, .int v1), (2, .int v2), (4, .int v4)] [.int s2, .int s1, .ref (z0 G + s0)] w 0 0 (oV r.1) r.2 := by
  unfold b_Model_readCodes_185 at h
  obtain ⟨w185, e185, h⟩ := ob h
  refine V_aset d_Model_readCodes_185 e185 ?_
  refine V_iinc (i := 4) (v := (v4 + (1 : Int32))) d_Model_readCodes_186 3 rfl (congrArg (fun y => v4 + y) (by decide : Int32.ofInt (1) = (1 : Int32))) (by decide) rfl ?_
  refine V_goto (tgt := 149) d_Model_readCodes_189 (by decide) ?_
  refine V_lv [1, 2, 3, 0] rfl ?_
  exact hK149 v0 v1 v2 (v4 + (1 : Int32)) w185 _ h
def b_Model_readCodes_149 (F : Nat) (K149 : Nat → Int32 → Int32 → Int32 → zW → Option (Unit × zW)) (v0 : Nat) (v1 : Int32) (v2 : Int32) (v4 : Int32) (w : zW) : Option (Unit × zW) := if (32 : Int32) ≤ v4 then ((zobj w v0 9).bind fun _ => (f_Model_makeWords F v0 (0 : Int32) (288 : Int32) w).bind fun r197 => (zobj r197.2 v0 9).bind fun _ => (f_Model_makeWords F v0 (288 : Int32) (32 : Int32) r197.2).bind fun r208 => (getI r208.2 v0 9 11).bind fun x215 => if x215 = 0 then (if r197.1 = 0 then (b_Model_readCodes_231 F v0 r208.2) else (if r208.1 = 0 then (b_Model_readCodes_231 F v0 r208.2) else (b_Model_readCodes_236 F v0 (0 : Int32) r208.2))) else (b_Model_readCodes_231 F v0 r208.2)) else ((getR w v0 9 12).bind fun x157 => if v2 ≤ v4 then (b_Model_readCodes_185 F K149 v0 v1 v2 v4 x157 ((288 : Int32) + v4) (0 : Int32) w) else ((getR w v0 9 14).bind fun x173 => (aget w x173 (v1 + v4)).bind fun x180 => b_Model_readCodes_185 F K149 v0 v1 v2 v4 x157 ((288 : Int32) + v4) x180 w))
set_option maxRecDepth 100000 in
set_option maxHeartbeats 4000000 in
theorem b_Model_readCodes_149_ok (G : zG) (F : Nat) (K149 : Nat → Int32 → Int32 → Int32 → zW → Option (Unit × zW)) (hK149 : ∀ (v0 : Nat) (v1 : Int32) (v2 : Int32) (v4 : Int32) (w : zW) (r : (Unit × zW)), K149 v0 v1 v2 v4 w = some r → zV G m_Model_readCodes 149 [(0, .ref (z0 G + v0)), (1, .int v1), (2, .int v2), (4, .int v4)] [] w 0 0 (oV r.1) r.2) (v0 : Nat) (v1 : Int32) (v2 : Int32) (v4 : Int32) (w : zW) (r : (Unit × zW)) (h : b_Model_readCodes_149 F K149 v0 v1 v2 v4 w = some r) : zV G m_Model_readCodes 149 [(0, .ref (z0 G + v0)), (1, .int v1), (2, .int v2), (4, .int v4)] [] w 0 0 (oV r.1) r.2 := by
  unfold b_Model_readCodes_149 at h
  refine V_iload (i := 4) d_Model_readCodes_149 3 rfl ?_
  refine V_bipush (v := 32) d_Model_readCodes_151 (by decide) ?_
  refine V_icmp_ge (tgt := 192) d_Model_readCodes_153 (by decide) (fun c153 => ?_) (fun c153 => ?_)
  · rw [if_pos c153] at h
    refine V_aload_n (i := 0) d_Model_readCodes_192 rfl 0 rfl ?_
    refine V_iconst (v := 0) d_Model_readCodes_193 (by decide) ?_
    refine V_sipush (v := 288) d_Model_readCodes_194 (by decide) ?_
    obtain ⟨_, eo197, h⟩ := ob h
    obtain ⟨r197, e197, h⟩ := ob h
    refine V_call (v := some (.int r197.1)) (st := []) (inv_V (N := m_Model_makeWords) (As := [.int (0 : Int32), .int (288 : Int32)]) (ci := 9) d_Model_readCodes_197 eo197 rfl k1036 k1038 sel_Model_makeWords kc_Model_makeWords y_Model_makeWords) ⟨Or.inl kc_Model_makeWords, k10, by decide, by decide⟩ (Nat.le_of_ble_eq_true rfl) (by decide) (by decide) (c_Model_makeWords G F v0 (0 : Int32) (288 : Int32) w r197 e197) ?_
    refine V_istore (i := 4) d_Model_readCodes_200 (by decide) rfl ?_
    refine V_aload_n (i := 0) d_Model_readCodes_202 rfl 1 rfl ?_
    refine V_sipush (v := 288) d_Model_readCodes_203 (by decide) ?_
    refine V_bipush (v := 32) d_Model_readCodes_206 (by decide) ?_
    obtain ⟨_, eo208, h⟩ := ob h
    obtain ⟨r208, e208, h⟩ := ob h
    refine V_call (v := some (.int r208.1)) (st := []) (inv_V (N := m_Model_makeWords) (As := [.int (288 : Int32), .int (32 : Int32)]) (ci := 9) d_Model_readCodes_208 eo208 rfl k1036 k1038 sel_Model_makeWords kc_Model_makeWords y_Model_makeWords) ⟨Or.inl kc_Model_makeWords, k10, by decide, by decide⟩ (Nat.le_of_ble_eq_true rfl) (by decide) (by decide) (c_Model_makeWords G F v0 (288 : Int32) (32 : Int32) r197.2 r208 e208) ?_
    refine V_istore (i := 5) d_Model_readCodes_211 (by decide) rfl ?_
    refine V_aload_n (i := 0) d_Model_readCodes_213 rfl 2 rfl ?_
    refine V_aload_n (i := 0) d_Model_readCodes_214 rfl 2 rfl ?_
    obtain ⟨x215, e215, h⟩ := ob h
    refine V_getI (ci := 9) (k := 11) d_Model_readCodes_215 e215 rfl (by decide) in_Model k893 ?_
    refine V_if_ne (tgt := 231) d_Model_readCodes_218 (by decide) (fun c218 => ?_) (fun c218 => ?_)
    · rw [if_neg c218] at h
      refine V_lv [] rfl ?_
      exact b_Model_readCodes_231_ok G F v0 r208.2 _ h
    · rw [if_pos c218] at h
      refine V_iload (i := 4) d_Model_readCodes_221 1 rfl ?_
      refine V_if_eq (tgt := 231) d_Model_readCodes_223 (by decide) (fun c223 => ?_) (fun c223 => ?_)
      · rw [if_pos c223] at h
        refine V_lv [] rfl ?_
        exact b_Model_readCodes_231_ok G F v0 r208.2 _ h
      · rw [if_neg c223] at h
        refine V_iload (i := 5) d_Model_readCodes_226 0 rfl ?_
        refine V_if_ne (tgt := 235) d_Model_readCodes_228 (by decide) (fun c228 => ?_) (fun c228 => ?_)
        · rw [if_neg c228] at h
          refine V_iconst (v := 0) d_Model_readCodes_235 (by decide) ?_
          refine V_lv [] rfl ?_
          exact b_Model_readCodes_236_ok G F v0 (0 : Int32) r208.2 _ h
        · rw [if_pos c228] at h
          refine V_lv [] rfl ?_
          exact b_Model_readCodes_231_ok G F v0 r208.2 _ h
  · rw [if_neg c153] at h
    refine V_aload_n (i := 0) d_Model_readCodes_156 rfl 0 rfl ?_
    obtain ⟨x157, e157, h⟩ := ob h
    refine V_getR (ci := 9) (k := 12) d_Model_readCodes_157 e157 rfl (by decide) in_Model k894 ?_
    refine V_sipush (v := 288) d_Model_readCodes_160 (by decide) ?_
    refine V_iload (i := 4) d_Model_readCodes_163 3 rfl ?_
    refine V_iadd d_Model_readCodes_165 ?_
    refine V_iload (i := 4) d_Model_readCodes_166 3 rfl ?_
    refine V_iload_n (i := 2) d_Model_readCodes_168 rfl 2 rfl ?_
    refine V_icmp_ge (tgt := 184) d_Model_readCodes_169 (by decide) (fun c169 => ?_) (fun c169 => ?_)
    · rw [if_pos c169] at h
      refine V_iconst (v := 0) d_Model_readCodes_184 (by decide) ?_
      exact b_Model_readCodes_185_ok G F K149 hK149 v0 v1 v2 v4 x157 ((288 : Int32) + v4) (0 : Int32) w _ h
    · rw [if_neg c169] at h
      refine V_aload_n (i := 0) d_Model_readCodes_172 rfl 0 rfl ?_
      obtain ⟨x173, e173, h⟩ := ob h
      refine V_getR (ci := 9) (k := 14) d_Model_readCodes_173 e173 rfl (by decide) in_Model k896 ?_
      refine V_iload_n (i := 1) d_Model_readCodes_176 rfl 1 rfl ?_
      refine V_iload (i := 4) d_Model_readCodes_177 3 rfl ?_
      refine V_iadd d_Model_readCodes_179 ?_
      obtain ⟨x180, e180, h⟩ := ob h
      refine V_aget d_Model_readCodes_180 e180 ?_
      refine V_goto (tgt := 185) d_Model_readCodes_181 (by decide) ?_
      exact b_Model_readCodes_185_ok G F K149 hK149 v0 v1 v2 v4 x157 ((288 : Int32) + v4) x180 w _ h
def l_Model_readCodes_149 (F : Nat) : Nat → Nat → Int32 → Int32 → Int32 → zW → Option (Unit × zW)
  | 0 => fun _ _ _ _ _ => none
  | n + 1 => b_Model_readCodes_149 F (l_Model_readCodes_149 F n)
theorem l_Model_readCodes_149_ok (G : zG) (F : Nat) (n : Nat) :  ∀ (v0 : Nat) (v1 : Int32) (v2 : Int32) (v4 : Int32) (w : zW) (r : (Unit × zW)), l_Model_readCodes_149 F n v0 v1 v2 v4 w = some r → zV G m_Model_readCodes 149 [(0, .ref (z0 G + v0)), (1, .int v1), (2, .int v2), (4, .int v4)] [] w 0 0 (oV r.1) r.2 := by
  induction n with
  | zero => intro v0 v1 v2 v4 w r h; exact nomatch (show (none : Option (Unit × zW)) = some r from h)
  | succ n ih => intro v0 v1 v2 v4 w r h; exact b_Model_readCodes_149_ok G F (l_Model_readCodes_149 F n) ih v0 v1 v2 v4 w r h
def b_Model_readCodes_139 (F : Nat) (K108 : Nat → Int32 → Int32 → Int32 → zW → Option (Unit × zW)) (v0 : Nat) (v1 : Int32) (v2 : Int32) (v4 : Int32) (s0 : Nat) (s1 : Int32) (s2 : Int32) (w : zW) : Option (Unit × zW) := (aset w s0 s1 s2).bind fun w139 => K108 v0 v1 v2 (v4 + (1 : Int32)) w139
set_option maxRecDepth 100000 in
set_option maxHeartbeats 4000000 in
theorem b_Model_readCodes_139_ok (G : zG) (F : Nat) (K108 : Nat → Int32 → Int32 → Int32 → zW → Option (Unit × zW)) (hK108 : ∀ (v0 : Nat) (v1 : Int32) (v2 : Int32) (v4 : Int32) (w : zW) (r : (Unit × zW)), K108 v0 v1 v2 v4 w = some r → zV G m_Model_readCodes 108 [(0, .ref (z0 G + v0)), (1, .int v1), (2, .int v2), (4, .int v4)] [] w 0 0 (oV r.1) r.2) (v0 : Nat) (v1 : Int32) (v2 : Int32) (v4 : Int32) (s0 : Nat) (s1 : Int32) (s2 : Int32) (w : zW) (r : (Unit × zW)) (h : b_Model_readCodes_139 F K108 v0 v1 v2 v4 s0 s1 s2 w = some r) : zV G m_Model_readCodes 139 [(0, .ref (z0 G + v0)), (1, .int v1), (2, .int v2), (4, .int v4)] [.int s2, .int s1, .ref (z0 G + s0)] w 0 0 (oV r.1) r.2 := by
  unfold b_Model_readCodes_139 at h
  obtain ⟨w139, e139, h⟩ := ob h
  refine V_aset d_Model_readCodes_139 e139 ?_
  refine V_iinc (i := 4) (v := (v4 + (1 : Int32))) d_Model_readCodes_140 3 rfl (congrArg (fun y => v4 + y) (by decide : Int32.ofInt (1) = (1 : Int32))) (by decide) rfl ?_
  refine V_goto (tgt := 108) d_Model_readCodes_143 (by decide) ?_
  refine V_lv [1, 2, 3, 0] rfl ?_
  exact hK108 v0 v1 v2 (v4 + (1 : Int32)) w139 _ h
def b_Model_readCodes_108 (F : Nat) (K108 : Nat → Int32 → Int32 → Int32 → zW → Option (Unit × zW)) (v0 : Nat) (v1 : Int32) (v2 : Int32) (v4 : Int32) (w : zW) : Option (Unit × zW) := if (288 : Int32) ≤ v4 then (l_Model_readCodes_149 F F v0 v1 v2 (0 : Int32) w) else ((getR w v0 9 12).bind fun x117 => if v1 ≤ v4 then (b_Model_readCodes_139 F K108 v0 v1 v2 v4 x117 v4 (0 : Int32) w) else ((getR w v0 9 14).bind fun x129 => (aget w x129 v4).bind fun x134 => b_Model_readCodes_139 F K108 v0 v1 v2 v4 x117 v4 x134 w))
set_option maxRecDepth 100000 in
set_option maxHeartbeats 4000000 in
theorem b_Model_readCodes_108_ok (G : zG) (F : Nat) (K108 : Nat → Int32 → Int32 → Int32 → zW → Option (Unit × zW)) (hK108 : ∀ (v0 : Nat) (v1 : Int32) (v2 : Int32) (v4 : Int32) (w : zW) (r : (Unit × zW)), K108 v0 v1 v2 v4 w = some r → zV G m_Model_readCodes 108 [(0, .ref (z0 G + v0)), (1, .int v1), (2, .int v2), (4, .int v4)] [] w 0 0 (oV r.1) r.2) (v0 : Nat) (v1 : Int32) (v2 : Int32) (v4 : Int32) (w : zW) (r : (Unit × zW)) (h : b_Model_readCodes_108 F K108 v0 v1 v2 v4 w = some r) : zV G m_Model_readCodes 108 [(0, .ref (z0 G + v0)), (1, .int v1), (2, .int v2), (4, .int v4)] [] w 0 0 (oV r.1) r.2 := by
  unfold b_Model_readCodes_108 at h
  refine V_iload (i := 4) d_Model_readCodes_108 3 rfl ?_
  refine V_sipush (v := 288) d_Model_readCodes_110 (by decide) ?_
  refine V_icmp_ge (tgt := 146) d_Model_readCodes_113 (by decide) (fun c113 => ?_) (fun c113 => ?_)
  · rw [if_pos c113] at h
    refine V_iconst (v := 0) d_Model_readCodes_146 (by decide) ?_
    refine V_istore (i := 4) d_Model_readCodes_147 (by decide) rfl ?_
    refine V_lv [1, 2, 3, 0] rfl ?_
    exact l_Model_readCodes_149_ok G F F v0 v1 v2 (0 : Int32) w _ h
  · rw [if_neg c113] at h
    refine V_aload_n (i := 0) d_Model_readCodes_116 rfl 0 rfl ?_
    obtain ⟨x117, e117, h⟩ := ob h
    refine V_getR (ci := 9) (k := 12) d_Model_readCodes_117 e117 rfl (by decide) in_Model k894 ?_
    refine V_iload (i := 4) d_Model_readCodes_120 3 rfl ?_
    refine V_iload (i := 4) d_Model_readCodes_122 3 rfl ?_
    refine V_iload_n (i := 1) d_Model_readCodes_124 rfl 1 rfl ?_
    refine V_icmp_ge (tgt := 138) d_Model_readCodes_125 (by decide) (fun c125 => ?_) (fun c125 => ?_)
    · rw [if_pos c125] at h
      refine V_iconst (v := 0) d_Model_readCodes_138 (by decide) ?_
      exact b_Model_readCodes_139_ok G F K108 hK108 v0 v1 v2 v4 x117 v4 (0 : Int32) w _ h
    · rw [if_neg c125] at h
      refine V_aload_n (i := 0) d_Model_readCodes_128 rfl 0 rfl ?_
      obtain ⟨x129, e129, h⟩ := ob h
      refine V_getR (ci := 9) (k := 14) d_Model_readCodes_129 e129 rfl (by decide) in_Model k896 ?_
      refine V_iload (i := 4) d_Model_readCodes_132 3 rfl ?_
      obtain ⟨x134, e134, h⟩ := ob h
      refine V_aget d_Model_readCodes_134 e134 ?_
      refine V_goto (tgt := 139) d_Model_readCodes_135 (by decide) ?_
      exact b_Model_readCodes_139_ok G F K108 hK108 v0 v1 v2 v4 x117 v4 x134 w _ h
def l_Model_readCodes_108 (F : Nat) : Nat → Nat → Int32 → Int32 → Int32 → zW → Option (Unit × zW)
  | 0 => fun _ _ _ _ _ => none
  | n + 1 => b_Model_readCodes_108 F (l_Model_readCodes_108 F n)
theorem l_Model_readCodes_108_ok (G : zG) (F : Nat) (n : Nat) :  ∀ (v0 : Nat) (v1 : Int32) (v2 : Int32) (v4 : Int32) (w : zW) (r : (Unit × zW)), l_Model_readCodes_108 F n v0 v1 v2 v4 w = some r → zV G m_Model_readCodes 108 [(0, .ref (z0 G + v0)), (1, .int v1), (2, .int v2), (4, .int v4)] [] w 0 0 (oV r.1) r.2 := by
  induction n with
  | zero => intro v0 v1 v2 v4 w r h; exact nomatch (show (none : Option (Unit × zW)) = some r from h)
  | succ n ih => intro v0 v1 v2 v4 w r h; exact b_Model_readCodes_108_ok G F (l_Model_readCodes_108 F n) ih v0 v1 v2 v4 w r h
def b_Model_readCodes_92 (F : Nat) (v0 : Nat) (w : zW) : Option (Unit × zW) := (putI w v0 9 11 (1 : Int32)).bind fun w94 => some ((), w94)
set_option maxRecDepth 100000 in
set_option maxHeartbeats 4000000 in
theorem b_Model_readCodes_92_ok (G : zG) (F : Nat) (v0 : Nat) (w : zW) (r : (Unit × zW)) (h : b_Model_readCodes_92 F v0 w = some r) : zV G m_Model_readCodes 92 [(0, .ref (z0 G + v0))] [] w 0 0 (oV r.1) r.2 := by
  unfold b_Model_readCodes_92 at h
  refine V_aload_n (i := 0) d_Model_readCodes_92 rfl 0 rfl ?_
  refine V_iconst (v := 1) d_Model_readCodes_93 (by decide) ?_
  obtain ⟨w94, e94, h⟩ := ob h
  refine V_putI (ci := 9) (k := 11) t_Model d_Model_readCodes_94 e94 rfl (by decide) in_Model k893 ty_Model nm_Model rfl (Or.inr ⟨rfl, Or.inr rfl⟩) ?_
  obtain rfl := Option.some.inj h
  exact V_vret rfl (by decide) (by decide) d_Model_readCodes_97
def b_Model_readCodes_66 (F : Nat) (K29 : Nat → Int32 → Int32 → Int32 → Int32 → zW → Option (Unit × zW)) (v0 : Nat) (v1 : Int32) (v2 : Int32) (v3 : Int32) (v4 : Int32) (s0 : Nat) (s1 : Int32) (s2 : Int32) (w : zW) : Option (Unit × zW) := (aset w s0 s1 s2).bind fun w66 => K29 v0 v1 v2 v3 (v4 + (1 : Int32)) w66
set_option maxRecDepth 100000 in
set_option maxHeartbeats 4000000 in
theorem b_Model_readCodes_66_ok (G : zG) (F : Nat) (K29 : Nat → Int32 → Int32 → Int32 → Int32 → zW → Option (Unit × zW)) (hK29 : ∀ (v0 : Nat) (v1 : Int32) (v2 : Int32) (v3 : Int32) (v4 : Int32) (w : zW) (r : (Unit × zW)), K29 v0 v1 v2 v3 v4 w = some r → zV G m_Model_readCodes 29 [(0, .ref (z0 G + v0)), (1, .int v1), (2, .int v2), (3, .int v3), (4, .int v4)] [] w 0 0 (oV r.1) r.2) (v0 : Nat) (v1 : Int32) (v2 : Int32) (v3 : Int32) (v4 : Int32) (s0 : Nat) (s1 : Int32) (s2 : Int32) (w : zW) (r : (Unit × zW)) (h : b_Model_readCodes_66 F K29 v0 v1 v2 v3 v4 s0 s1 s2 w = some r) : zV G m_Model_readCodes 66 [(0, .ref (z0 G + v0)), (1, .int v1), (2, .int v2), (3, .int v3), (4, .int v4)] [.int s2, .int s1, .ref (z0 G + s0)] w 0 0 (oV r.1) r.2 := by
  unfold b_Model_readCodes_66 at h
  obtain ⟨w66, e66, h⟩ := ob h
  refine V_aset d_Model_readCodes_66 e66 ?_
  refine V_iinc (i := 4) (v := (v4 + (1 : Int32))) d_Model_readCodes_67 4 rfl (congrArg (fun y => v4 + y) (by decide : Int32.ofInt (1) = (1 : Int32))) (by decide) rfl ?_
  refine V_goto (tgt := 29) d_Model_readCodes_70 (by decide) ?_
  refine V_lv [1, 2, 3, 4, 0] rfl ?_
  exact hK29 v0 v1 v2 v3 (v4 + (1 : Int32)) w66 _ h
def b_Model_readCodes_29 (F : Nat) (K29 : Nat → Int32 → Int32 → Int32 → Int32 → zW → Option (Unit × zW)) (v0 : Nat) (v1 : Int32) (v2 : Int32) (v3 : Int32) (v4 : Int32) (w : zW) : Option (Unit × zW) := if (19 : Int32) ≤ v4 then ((getI w v0 9 11).bind fun x74 => if x74 = 0 then ((zobj w v0 9).bind fun _ => (f_Model_makeWords F v0 (320 : Int32) (19 : Int32) w).bind fun r86 => if r86.1 = 0 then (b_Model_readCodes_92 F v0 r86.2) else ((zobj r86.2 v0 9).bind fun _ => (f_Model_readRow F v0 (v1 + v2) r86.2).bind fun r102 => l_Model_readCodes_108 F F v0 v1 v2 (0 : Int32) r102.2)) else (b_Model_readCodes_92 F v0 w)) else ((getR w v0 9 12).bind fun x37 => (getR w v0 9 15).bind fun x44 => (aget w x44 v4).bind fun x49 => if v3 ≤ v4 then (b_Model_readCodes_66 F K29 v0 v1 v2 v3 v4 x37 ((320 : Int32) + x49) (0 : Int32) w) else ((zobj w v0 9).bind fun _ => (f_Model_bits F v0 (3 : Int32) w).bind fun r59 => b_Model_readCodes_66 F K29 v0 v1 v2 v3 v4 x37 ((320 : Int32) + x49) r59.1 r59.2))
set_option maxRecDepth 100000 in
set_option maxHeartbeats 4000000 in
theorem b_Model_readCodes_29_ok (G : zG) (F : Nat) (K29 : Nat → Int32 → Int32 → Int32 → Int32 → zW → Option (Unit × zW)) (hK29 : ∀ (v0 : Nat) (v1 : Int32) (v2 : Int32) (v3 : Int32) (v4 : Int32) (w : zW) (r : (Unit × zW)), K29 v0 v1 v2 v3 v4 w = some r → zV G m_Model_readCodes 29 [(0, .ref (z0 G + v0)), (1, .int v1), (2, .int v2), (3, .int v3), (4, .int v4)] [] w 0 0 (oV r.1) r.2) (v0 : Nat) (v1 : Int32) (v2 : Int32) (v3 : Int32) (v4 : Int32) (w : zW) (r : (Unit × zW)) (h : b_Model_readCodes_29 F K29 v0 v1 v2 v3 v4 w = some r) : zV G m_Model_readCodes 29 [(0, .ref (z0 G + v0)), (1, .int v1), (2, .int v2), (3, .int v3), (4, .int v4)] [] w 0 0 (oV r.1) r.2 := by
  unfold b_Model_readCodes_29 at h
  refine V_iload (i := 4) d_Model_readCodes_29 4 rfl ?_
  refine V_bipush (v := 19) d_Model_readCodes_31 (by decide) ?_
  refine V_icmp_ge (tgt := 73) d_Model_readCodes_33 (by decide) (fun c33 => ?_) (fun c33 => ?_)
  · rw [if_pos c33] at h
    refine V_aload_n (i := 0) d_Model_readCodes_73 rfl 0 rfl ?_
    obtain ⟨x74, e74, h⟩ := ob h
    refine V_getI (ci := 9) (k := 11) d_Model_readCodes_74 e74 rfl (by decide) in_Model k893 ?_
    refine V_if_ne (tgt := 92) d_Model_readCodes_77 (by decide) (fun c77 => ?_) (fun c77 => ?_)
    · rw [if_neg c77] at h
      refine V_lv [0] rfl ?_
      exact b_Model_readCodes_92_ok G F v0 w _ h
    · rw [if_pos c77] at h
      refine V_aload_n (i := 0) d_Model_readCodes_80 rfl 0 rfl ?_
      refine V_sipush (v := 320) d_Model_readCodes_81 (by decide) ?_
      refine V_bipush (v := 19) d_Model_readCodes_84 (by decide) ?_
      obtain ⟨_, eo86, h⟩ := ob h
      obtain ⟨r86, e86, h⟩ := ob h
      refine V_call (v := some (.int r86.1)) (st := []) (inv_V (N := m_Model_makeWords) (As := [.int (320 : Int32), .int (19 : Int32)]) (ci := 9) d_Model_readCodes_86 eo86 rfl k1036 k1038 sel_Model_makeWords kc_Model_makeWords y_Model_makeWords) ⟨Or.inl kc_Model_makeWords, k10, by decide, by decide⟩ (Nat.le_of_ble_eq_true rfl) (by decide) (by decide) (c_Model_makeWords G F v0 (320 : Int32) (19 : Int32) w r86 e86) ?_
      refine V_if_ne (tgt := 98) d_Model_readCodes_89 (by decide) (fun c89 => ?_) (fun c89 => ?_)
      · rw [if_neg c89] at h
        refine V_aload_n (i := 0) d_Model_readCodes_98 rfl 0 rfl ?_
        refine V_iload_n (i := 1) d_Model_readCodes_99 rfl 1 rfl ?_
        refine V_iload_n (i := 2) d_Model_readCodes_100 rfl 2 rfl ?_
        refine V_iadd d_Model_readCodes_101 ?_
        obtain ⟨_, eo102, h⟩ := ob h
        obtain ⟨r102, e102, h⟩ := ob h
        refine V_call (v := none) (st := []) (inv_V (N := m_Model_readRow) (As := [.int (v1 + v2)]) (ci := 9) d_Model_readCodes_102 eo102 rfl k1110 k1112 sel_Model_readRow kc_Model_readRow y_Model_readRow) ⟨Or.inl kc_Model_readRow, k10, by decide, by decide⟩ (Nat.le_of_ble_eq_true rfl) (by decide) (by decide) (c_Model_readRow G F v0 (v1 + v2) r86.2 r102 e102) ?_
        refine V_iconst (v := 0) d_Model_readCodes_105 (by decide) ?_
        refine V_istore (i := 4) d_Model_readCodes_106 (by decide) rfl ?_
        refine V_lv [1, 2, 3, 0] rfl ?_
        exact l_Model_readCodes_108_ok G F F v0 v1 v2 (0 : Int32) r102.2 _ h
      · rw [if_pos c89] at h
        refine V_lv [0] rfl ?_
        exact b_Model_readCodes_92_ok G F v0 r86.2 _ h
  · rw [if_neg c33] at h
    refine V_aload_n (i := 0) d_Model_readCodes_36 rfl 0 rfl ?_
    obtain ⟨x37, e37, h⟩ := ob h
    refine V_getR (ci := 9) (k := 12) d_Model_readCodes_37 e37 rfl (by decide) in_Model k894 ?_
    refine V_sipush (v := 320) d_Model_readCodes_40 (by decide) ?_
    refine V_aload_n (i := 0) d_Model_readCodes_43 rfl 0 rfl ?_
    obtain ⟨x44, e44, h⟩ := ob h
    refine V_getR (ci := 9) (k := 15) d_Model_readCodes_44 e44 rfl (by decide) in_Model k897 ?_
    refine V_iload (i := 4) d_Model_readCodes_47 4 rfl ?_
    obtain ⟨x49, e49, h⟩ := ob h
    refine V_aget d_Model_readCodes_49 e49 ?_
    refine V_iadd d_Model_readCodes_50 ?_
    refine V_iload (i := 4) d_Model_readCodes_51 4 rfl ?_
    refine V_iload_n (i := 3) d_Model_readCodes_53 rfl 3 rfl ?_
    refine V_icmp_ge (tgt := 65) d_Model_readCodes_54 (by decide) (fun c54 => ?_) (fun c54 => ?_)
    · rw [if_pos c54] at h
      refine V_iconst (v := 0) d_Model_readCodes_65 (by decide) ?_
      exact b_Model_readCodes_66_ok G F K29 hK29 v0 v1 v2 v3 v4 x37 ((320 : Int32) + x49) (0 : Int32) w _ h
    · rw [if_neg c54] at h
      refine V_aload_n (i := 0) d_Model_readCodes_57 rfl 0 rfl ?_
      refine V_iconst (v := 3) d_Model_readCodes_58 (by decide) ?_
      obtain ⟨_, eo59, h⟩ := ob h
      obtain ⟨r59, e59, h⟩ := ob h
      refine V_call (v := some (.int r59.1)) (st := [.int ((320 : Int32) + x49), .ref (z0 G + x37)]) (inv_V (N := m_Model_bits) (As := [.int (3 : Int32)]) (ci := 9) d_Model_readCodes_59 eo59 rfl k1093 k1095 sel_Model_bits kc_Model_bits y_Model_bits) ⟨Or.inl kc_Model_bits, k10, by decide, by decide⟩ (Nat.le_of_ble_eq_true rfl) (by decide) (by decide) (c_Model_bits G F v0 (3 : Int32) w r59 e59) ?_
      refine V_goto (tgt := 66) d_Model_readCodes_62 (by decide) ?_
      exact b_Model_readCodes_66_ok G F K29 hK29 v0 v1 v2 v3 v4 x37 ((320 : Int32) + x49) r59.1 r59.2 _ h
def l_Model_readCodes_29 (F : Nat) : Nat → Nat → Int32 → Int32 → Int32 → Int32 → zW → Option (Unit × zW)
  | 0 => fun _ _ _ _ _ _ => none
  | n + 1 => b_Model_readCodes_29 F (l_Model_readCodes_29 F n)
theorem l_Model_readCodes_29_ok (G : zG) (F : Nat) (n : Nat) :  ∀ (v0 : Nat) (v1 : Int32) (v2 : Int32) (v3 : Int32) (v4 : Int32) (w : zW) (r : (Unit × zW)), l_Model_readCodes_29 F n v0 v1 v2 v3 v4 w = some r → zV G m_Model_readCodes 29 [(0, .ref (z0 G + v0)), (1, .int v1), (2, .int v2), (3, .int v3), (4, .int v4)] [] w 0 0 (oV r.1) r.2 := by
  induction n with
  | zero => intro v0 v1 v2 v3 v4 w r h; exact nomatch (show (none : Option (Unit × zW)) = some r from h)
  | succ n ih => intro v0 v1 v2 v3 v4 w r h; exact b_Model_readCodes_29_ok G F (l_Model_readCodes_29 F n) ih v0 v1 v2 v3 v4 w r h
def b_Model_readCodes_0 (F : Nat) (v0 : Nat) (w : zW) : Option (Unit × zW) := (zobj w v0 9).bind fun _ => (f_Model_bits F v0 (5 : Int32) w).bind fun r5 => (zobj r5.2 v0 9).bind fun _ => (f_Model_bits F v0 (5 : Int32) r5.2).bind fun r13 => (zobj r13.2 v0 9).bind fun _ => (f_Model_bits F v0 (4 : Int32) r13.2).bind fun r21 => l_Model_readCodes_29 F F v0 ((257 : Int32) + r5.1) ((1 : Int32) + r13.1) ((4 : Int32) + r21.1) (0 : Int32) r21.2
set_option maxRecDepth 100000 in
set_option maxHeartbeats 4000000 in
theorem b_Model_readCodes_0_ok (G : zG) (F : Nat) (v0 : Nat) (w : zW) (r : (Unit × zW)) (h : b_Model_readCodes_0 F v0 w = some r) : zV G m_Model_readCodes 0 [(0, .ref (z0 G + v0))] [] w 0 0 (oV r.1) r.2 := by
  unfold b_Model_readCodes_0 at h
  refine V_sipush (v := 257) d_Model_readCodes_0 (by decide) ?_
  refine V_aload_n (i := 0) d_Model_readCodes_3 rfl 0 rfl ?_
  refine V_iconst (v := 5) d_Model_readCodes_4 (by decide) ?_
  obtain ⟨_, eo5, h⟩ := ob h
  obtain ⟨r5, e5, h⟩ := ob h
  refine V_call (v := some (.int r5.1)) (st := [.int (257 : Int32)]) (inv_V (N := m_Model_bits) (As := [.int (5 : Int32)]) (ci := 9) d_Model_readCodes_5 eo5 rfl k1093 k1095 sel_Model_bits kc_Model_bits y_Model_bits) ⟨Or.inl kc_Model_bits, k10, by decide, by decide⟩ (Nat.le_of_ble_eq_true rfl) (by decide) (by decide) (c_Model_bits G F v0 (5 : Int32) w r5 e5) ?_
  refine V_iadd d_Model_readCodes_8 ?_
  refine V_istore_n (i := 1) d_Model_readCodes_9 rfl (by decide) rfl ?_
  refine V_iconst (v := 1) d_Model_readCodes_10 (by decide) ?_
  refine V_aload_n (i := 0) d_Model_readCodes_11 rfl 1 rfl ?_
  refine V_iconst (v := 5) d_Model_readCodes_12 (by decide) ?_
  obtain ⟨_, eo13, h⟩ := ob h
  obtain ⟨r13, e13, h⟩ := ob h
  refine V_call (v := some (.int r13.1)) (st := [.int (1 : Int32)]) (inv_V (N := m_Model_bits) (As := [.int (5 : Int32)]) (ci := 9) d_Model_readCodes_13 eo13 rfl k1093 k1095 sel_Model_bits kc_Model_bits y_Model_bits) ⟨Or.inl kc_Model_bits, k10, by decide, by decide⟩ (Nat.le_of_ble_eq_true rfl) (by decide) (by decide) (c_Model_bits G F v0 (5 : Int32) r5.2 r13 e13) ?_
  refine V_iadd d_Model_readCodes_16 ?_
  refine V_istore_n (i := 2) d_Model_readCodes_17 rfl (by decide) rfl ?_
  refine V_iconst (v := 4) d_Model_readCodes_18 (by decide) ?_
  refine V_aload_n (i := 0) d_Model_readCodes_19 rfl 2 rfl ?_
  refine V_iconst (v := 4) d_Model_readCodes_20 (by decide) ?_
  obtain ⟨_, eo21, h⟩ := ob h
  obtain ⟨r21, e21, h⟩ := ob h
  refine V_call (v := some (.int r21.1)) (st := [.int (4 : Int32)]) (inv_V (N := m_Model_bits) (As := [.int (4 : Int32)]) (ci := 9) d_Model_readCodes_21 eo21 rfl k1093 k1095 sel_Model_bits kc_Model_bits y_Model_bits) ⟨Or.inl kc_Model_bits, k10, by decide, by decide⟩ (Nat.le_of_ble_eq_true rfl) (by decide) (by decide) (c_Model_bits G F v0 (4 : Int32) r13.2 r21 e21) ?_
  refine V_iadd d_Model_readCodes_24 ?_
  refine V_istore_n (i := 3) d_Model_readCodes_25 rfl (by decide) rfl ?_
  refine V_iconst (v := 0) d_Model_readCodes_26 (by decide) ?_
  refine V_istore (i := 4) d_Model_readCodes_27 (by decide) rfl ?_
  refine V_lv [4, 3, 2, 1, 0] rfl ?_
  exact l_Model_readCodes_29_ok G F F v0 ((257 : Int32) + r5.1) ((1 : Int32) + r13.1) ((4 : Int32) + r21.1) (0 : Int32) r21.2 _ h
def f_Model_readCodes (F : Nat) (v0 : Nat) (w : zW) : Option (Unit × zW) := b_Model_readCodes_0 F v0 w
theorem c_Model_readCodes (G : zG) (F : Nat) (v0 : Nat) (w : zW) (r : (Unit × zW)) (h : f_Model_readCodes F v0 w = some r) : zCT G m_Model_readCodes [.ref (z0 G + v0)] w (oV r.1) r.2 := zCT.ofV (by decide +kernel) (Or.inl ⟨kc_Model_readCodes, rfl⟩) (Nat.le_of_ble_eq_true rfl) (b_Model_readCodes_0_ok G F v0 w r h)
