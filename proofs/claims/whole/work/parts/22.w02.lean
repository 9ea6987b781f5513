/-! ZipArray$Unpacker.buildCodes(II)Z -/
def m_Unpacker_buildCodes : zM := (⟨R_Unpacker, "buildCodes", "(II)Z"⟩, prog_8_method_7_code, 3, (some .boolean), [], { frames := 1, cells := 0, slots := 0, locals := 27 })
theorem k490 : Cond.methodLink R_Unpacker 91 (mY m_Code_build) ∈ zTb := tb_at 490 (by decide +kernel) rfl
theorem k491 : Cond.instanceMethod (mY m_Code_build) ∈ zTb := tb_at 491 (by decide +kernel) rfl
theorem k492 : Cond.selects R_Code (mY m_Code_build) (mY m_Code_build) ∈ zTb := tb_at 492 (by decide +kernel) rfl
theorem kc_Unpacker_buildCodes : Cond.code (mY m_Unpacker_buildCodes) (mC m_Unpacker_buildCodes) (mL m_Unpacker_buildCodes) (mT m_Unpacker_buildCodes) ∈ zTb := tb_at 489 (by decide +kernel) rfl
theorem y_Unpacker_buildCodes : (mY m_Unpacker_buildCodes).cls ≠ "java/lang/invoke/MethodHandle" ∧ (mY m_Unpacker_buildCodes).cls ≠ "java/lang/invoke/VarHandle" ∧ (parseMethodDescriptor (mY m_Unpacker_buildCodes).desc).map (fun d => d.parameters.length) = some 2 := by decide +kernel
theorem sel_Unpacker_buildCodes : Cond.selects R_Unpacker (mY m_Unpacker_buildCodes) (mY m_Unpacker_buildCodes) ∈ zTb := sel_at (y := mY m_Unpacker_buildCodes) (n := 8) 16 (by decide +kernel)
theorem d_Unpacker_buildCodes_0 : decode (mC m_Unpacker_buildCodes) 0 = .ok (.aload_n 0, 1) := by decide +kernel
theorem d_Unpacker_buildCodes_1 : decode (mC m_Unpacker_buildCodes) 1 = .ok (.getfield 31, 3) := by decide +kernel
theorem d_Unpacker_buildCodes_4 : decode (mC m_Unpacker_buildCodes) 4 = .ok (.aload_n 0, 1) := by decide +kernel
theorem d_Unpacker_buildCodes_5 : decode (mC m_Unpacker_buildCodes) 5 = .ok (.getfield 37, 3) := by decide +kernel
theorem d_Unpacker_buildCodes_8 : decode (mC m_Unpacker_buildCodes) 8 = .ok (.iconst 0, 1) := by decide +kernel
theorem d_Unpacker_buildCodes_9 : decode (mC m_Unpacker_buildCodes) 9 = .ok (.iload_n 1, 1) := by decide +kernel
theorem d_Unpacker_buildCodes_10 : decode (mC m_Unpacker_buildCodes) 10 = .ok (.invokevirtual 91, 3) := by decide +kernel
theorem d_Unpacker_buildCodes_13 : decode (mC m_Unpacker_buildCodes) 13 = .ok (.ifCond .eq 23, 3) := by decide +kernel
theorem d_Unpacker_buildCodes_16 : decode (mC m_Unpacker_buildCodes) 16 = .ok (.aload_n 0, 1) := by decide +kernel
theorem d_Unpacker_buildCodes_17 : decode (mC m_Unpacker_buildCodes) 17 = .ok (.getfield 34, 3) := by decide +kernel
theorem d_Unpacker_buildCodes_20 : decode (mC m_Unpacker_buildCodes) 20 = .ok (.aload_n 0, 1) := by decide +kernel
theorem d_Unpacker_buildCodes_21 : decode (mC m_Unpacker_buildCodes) 21 = .ok (.getfield 37, 3) := by decide +kernel
theorem d_Unpacker_buildCodes_24 : decode (mC m_Unpacker_buildCodes) 24 = .ok (.iload_n 1, 1) := by decide +kernel
theorem d_Unpacker_buildCodes_25 : decode (mC m_Unpacker_buildCodes) 25 = .ok (.iload_n 2, 1) := by decide +kernel
theorem d_Unpacker_buildCodes_26 : decode (mC m_Unpacker_buildCodes) 26 = .ok (.invokevirtual 91, 3) := by decide +kernel
theorem d_Unpacker_buildCodes_29 : decode (mC m_Unpacker_buildCodes) 29 = .ok (.ifCond .eq 7, 3) := by decide +kernel
theorem d_Unpacker_buildCodes_32 : decode (mC m_Unpacker_buildCodes) 32 = .ok (.iconst 1, 1) := by decide +kernel
theorem d_Unpacker_buildCodes_33 : decode (mC m_Unpacker_buildCodes) 33 = .ok (.goto 4, 3) := by decide +kernel
theorem d_Unpacker_buildCodes_36 : decode (mC m_Unpacker_buildCodes) 36 = .ok (.iconst 0, 1) := by decide +kernel
theorem d_Unpacker_buildCodes_37 : decode (mC m_Unpacker_buildCodes) 37 = .ok (.ireturn, 1) := by decide +kernel
def b_Unpacker_buildCodes_36 (F : Nat) (w : zW) : Option (Int32 × zW) := some ((0 : Int32), w)
set_option maxRecDepth 100000 in
set_option maxHeartbeats 4000000 in
theorem b_Unpacker_buildCodes_36_ok (G : zG) (F : Nat) (w : zW) (r : (Int32 × zW)) (h : b_Unpacker_buildCodes_36 F w = some r) : zV G m_Unpacker_buildCodes 36 [] [] w 0 0 (oI r.1) r.2 := by
  unfold b_Unpacker_buildCodes_36 at h
  refine V_iconst (v := 0) d_Unpacker_buildCodes_36 (by decide) ?_
  obtain rfl := Option.some.inj h
  exact V_zret rfl (Or.inl rfl) (by decide) (by decide) d_Unpacker_buildCodes_37
def b_Unpacker_buildCodes_0 (F : Nat) (v0 : Nat) (v1 : Int32) (v2 : Int32) (w : zW) : Option (Int32 × zW) := (getR w v0 5 2).bind fun x1 => (getR w v0 5 4).bind fun x5 => (zobj w x1 4).bind fun _ => (f_Code_build F x1 x5 (0 : Int32) v1 w).bind fun r10 => if r10.1 = 0 then (b_Unpacker_buildCodes_36 F r10.2) else ((getR r10.2 v0 5 3).bind fun x17 => (getR r10.2 v0 5 4).bind fun x21 => (zobj r10.2 x17 4).bind fun _ => (f_Code_build F x17 x21 v1 v2 r10.2).bind fun r26 => if r26.1 = 0 then (b_Unpacker_buildCodes_36 F r26.2) else (some ((1 : Int32), r26.2)))
set_option maxRecDepth 100000 in
set_option maxHeartbeats 4000000 in
theorem b_Unpacker_buildCodes_0_ok (G : zG) (F : Nat) (v0 : Nat) (v1 : Int32) (v2 : Int32) (w : zW) (r : (Int32 × zW)) (h : b_Unpacker_buildCodes_0 F v0 v1 v2 w = some r) : zV G m_Unpacker_buildCodes 0 [(0, .ref (z0 G + v0)), (1, .int v1), (2, .int v2)] [] w 0 0 (oI r.1) r.2 := by
  unfold b_Unpacker_buildCodes_0 at h
  refine V_aload_n (i := 0) d_Unpacker_buildCodes_0 rfl 0 rfl ?_
  obtain ⟨x1, e1, h⟩ := ob h
  refine V_getR (ci := 5) (k := 2) d_Unpacker_buildCodes_1 e1 rfl (by decide) in_Unpacker k108 ?_
  refine V_aload_n (i := 0) d_Unpacker_buildCodes_4 rfl 0 rfl ?_
  obtain ⟨x5, e5, h⟩ := ob h
  refine V_getR (ci := 5) (k := 4) d_Unpacker_buildCodes_5 e5 rfl (by decide) in_Unpacker k110 ?_
  refine V_iconst (v := 0) d_Unpacker_buildCodes_8 (by decide) ?_
  refine V_iload_n (i := 1) d_Unpacker_buildCodes_9 rfl 1 rfl ?_
  obtain ⟨_, eo10, h⟩ := ob h
  obtain ⟨r10, e10, h⟩ := ob h
  refine V_call (v := some (.int r10.1)) (st := []) (inv_V (N := m_Code_build) (As := [.ref (z0 G + x5), .int (0 : Int32), .int v1]) (ci := 4) d_Unpacker_buildCodes_10 eo10 rfl k490 k491 k492 kc_Code_build y_Code_build) ⟨Or.inl kc_Code_build, k5, by decide, by decide⟩ (Nat.le_of_ble_eq_true rfl) (by decide) (by decide) (c_Code_build G F x1 x5 (0 : Int32) v1 w r10 e10) ?_
  refine V_if_eq (tgt := 36) d_Unpacker_buildCodes_13 (by decide) (fun c13 => ?_) (fun c13 => ?_)
  · rw [if_pos c13] at h
    refine V_lv [] rfl ?_
    exact b_Unpacker_buildCodes_36_ok G F r10.2 _ h
  · rw [if_neg c13] at h
    refine V_aload_n (i := 0) d_Unpacker_buildCodes_16 rfl 0 rfl ?_
    obtain ⟨x17, e17, h⟩ := ob h
    refine V_getR (ci := 5) (k := 3) d_Unpacker_buildCodes_17 e17 rfl (by decide) in_Unpacker k109 ?_
    refine V_aload_n (i := 0) d_Unpacker_buildCodes_20 rfl 0 rfl ?_
    obtain ⟨x21, e21, h⟩ := ob h
    refine V_getR (ci := 5) (k := 4) d_Unpacker_buildCodes_21 e21 rfl (by decide) in_Unpacker k110 ?_
    refine V_iload_n (i := 1) d_Unpacker_buildCodes_24 rfl 1 rfl ?_
    refine V_iload_n (i := 2) d_Unpacker_buildCodes_25 rfl 2 rfl ?_
    obtain ⟨_, eo26, h⟩ := ob h
    obtain ⟨r26, e26, h⟩ := ob h
    refine V_call (v := some (.int r26.1)) (st := []) (inv_V (N := m_Code_build) (As := [.ref (z0 G + x21), .int v1, .int v2]) (ci := 4) d_Unpacker_buildCodes_26 eo26 rfl k490 k491 k492 kc_Code_build y_Code_build) ⟨Or.inl kc_Code_build, k5, by decide, by decide⟩ (Nat.le_of_ble_eq_true rfl) (by decide) (by decide) (c_Code_build G F x17 x21 v1 v2 r10.2 r26 e26) ?_
    refine V_if_eq (tgt := 36) d_Unpacker_buildCodes_29 (by decide) (fun c29 => ?_) (fun c29 => ?_)
    · rw [if_pos c29] at h
      refine V_lv [] rfl ?_
      exact b_Unpacker_buildCodes_36_ok G F r26.2 _ h
    · rw [if_neg c29] at h
      refine V_iconst (v := 1) d_Unpacker_buildCodes_32 (by decide) ?_
      refine V_goto (tgt := 37) d_Unpacker_buildCodes_33 (by decide) ?_
      obtain rfl := Option.some.inj h
      exact V_zret rfl (Or.inr rfl) (by decide) (by decide) d_Unpacker_buildCodes_37
def f_Unpacker_buildCodes (F : Nat) (v0 : Nat) (v1 : Int32) (v2 : Int32) (w : zW) : Option (Int32 × zW) := b_Unpacker_buildCodes_0 F v0 v1 v2 w
theorem c_Unpacker_buildCodes (G : zG) (F : Nat) (v0 : Nat) (v1 : Int32) (v2 : Int32) (w : zW) (r : (Int32 × zW)) (h : f_Unpacker_buildCodes F v0 v1 v2 w = some r) : zCT G m_Unpacker_buildCodes [.ref (z0 G + v0), .int v1, .int v2] w (oI r.1) r.2 := zCT.ofV (by decide +kernel) (Or.inl ⟨kc_Unpacker_buildCodes, rfl⟩) (Nat.le_of_ble_eq_true rfl) (b_Unpacker_buildCodes_0_ok G F v0 v1 v2 w r h)

/-! ZipArray$Unpacker.fixedCodes()Z -/
def m_Unpacker_fixedCodes : zM := (⟨R_Unpacker, "fixedCodes", "()Z"⟩, prog_8_method_6_code, 2, (some .boolean), [], { frames := 2, cells := 0, slots := 0, locals := 49 })
theorem k486 : Cond.methodLink R_Unpacker 87 (mY m_Unpacker_buildCodes) ∈ zTb := tb_at 486 (by decide +kernel) rfl
theorem k488 : Cond.instanceMethod (mY m_Unpacker_buildCodes) ∈ zTb := tb_at 488 (by decide +kernel) rfl
theorem kc_Unpacker_fixedCodes : Cond.code (mY m_Unpacker_fixedCodes) (mC m_Unpacker_fixedCodes) (mL m_Unpacker_fixedCodes) (mT m_Unpacker_fixedCodes) ∈ zTb := tb_at 485 (by decide +kernel) rfl
theorem y_Unpacker_fixedCodes : (mY m_Unpacker_fixedCodes).cls ≠ "java/lang/invoke/MethodHandle" ∧ (mY m_Unpacker_fixedCodes).cls ≠ "java/lang/invoke/VarHandle" ∧ (parseMethodDescriptor (mY m_Unpacker_fixedCodes).desc).map (fun d => d.parameters.length) = some 0 := by decide +kernel
theorem sel_Unpacker_fixedCodes : Cond.selects R_Unpacker (mY m_Unpacker_fixedCodes) (mY m_Unpacker_fixedCodes) ∈ zTb := sel_at (y := mY m_Unpacker_fixedCodes) (n := 8) 15 (by decide +kernel)
theorem d_Unpacker_fixedCodes_0 : decode (mC m_Unpacker_fixedCodes) 0 = .ok (.iconst 0, 1) := by decide +kernel
theorem d_Unpacker_fixedCodes_1 : decode (mC m_Unpacker_fixedCodes) 1 = .ok (.istore_n 1, 1) := by decide +kernel
theorem d_Unpacker_fixedCodes_2 : decode (mC m_Unpacker_fixedCodes) 2 = .ok (.iload_n 1, 1) := by decide +kernel
theorem d_Unpacker_fixedCodes_3 : decode (mC m_Unpacker_fixedCodes) 3 = .ok (.sipush 288, 3) := by decide +kernel
theorem d_Unpacker_fixedCodes_6 : decode (mC m_Unpacker_fixedCodes) 6 = .ok (.if_icmp .ge 53, 3) := by decide +kernel
theorem d_Unpacker_fixedCodes_9 : decode (mC m_Unpacker_fixedCodes) 9 = .ok (.aload_n 0, 1) := by decide +kernel
theorem d_Unpacker_fixedCodes_10 : decode (mC m_Unpacker_fixedCodes) 10 = .ok (.getfield 37, 3) := by decide +kernel
theorem d_Unpacker_fixedCodes_13 : decode (mC m_Unpacker_fixedCodes) 13 = .ok (.iload_n 1, 1) := by decide +kernel
theorem d_Unpacker_fixedCodes_14 : decode (mC m_Unpacker_fixedCodes) 14 = .ok (.iload_n 1, 1) := by decide +kernel
theorem d_Unpacker_fixedCodes_15 : decode (mC m_Unpacker_fixedCodes) 15 = .ok (.sipush 144, 3) := by decide +kernel
theorem d_Unpacker_fixedCodes_18 : decode (mC m_Unpacker_fixedCodes) 18 = .ok (.if_icmp .ge 8, 3) := by decide +kernel
theorem d_Unpacker_fixedCodes_21 : decode (mC m_Unpacker_fixedCodes) 21 = .ok (.bipush 8, 2) := by decide +kernel
theorem d_Unpacker_fixedCodes_23 : decode (mC m_Unpacker_fixedCodes) 23 = .ok (.goto 29, 3) := by decide +kernel
theorem d_Unpacker_fixedCodes_26 : decode (mC m_Unpacker_fixedCodes) 26 = .ok (.iload_n 1, 1) := by decide +kernel
theorem d_Unpacker_fixedCodes_27 : decode (mC m_Unpacker_fixedCodes) 27 = .ok (.sipush 256, 3) := by decide +kernel
theorem d_Unpacker_fixedCodes_30 : decode (mC m_Unpacker_fixedCodes) 30 = .ok (.if_icmp .ge 8, 3) := by decide +kernel
theorem d_Unpacker_fixedCodes_33 : decode (mC m_Unpacker_fixedCodes) 33 = .ok (.bipush 9, 2) := by decide +kernel
theorem d_Unpacker_fixedCodes_35 : decode (mC m_Unpacker_fixedCodes) 35 = .ok (.goto 17, 3) := by decide +kernel
theorem d_Unpacker_fixedCodes_38 : decode (mC m_Unpacker_fixedCodes) 38 = .ok (.iload_n 1, 1) := by decide +kernel
theorem d_Unpacker_fixedCodes_39 : decode (mC m_Unpacker_fixedCodes) 39 = .ok (.sipush 280, 3) := by decide +kernel
theorem d_Unpacker_fixedCodes_42 : decode (mC m_Unpacker_fixedCodes) 42 = .ok (.if_icmp .ge 8, 3) := by decide +kernel
theorem d_Unpacker_fixedCodes_45 : decode (mC m_Unpacker_fixedCodes) 45 = .ok (.bipush 7, 2) := by decide +kernel
theorem d_Unpacker_fixedCodes_47 : decode (mC m_Unpacker_fixedCodes) 47 = .ok (.goto 5, 3) := by decide +kernel
theorem d_Unpacker_fixedCodes_50 : decode (mC m_Unpacker_fixedCodes) 50 = .ok (.bipush 8, 2) := by decide +kernel
theorem d_Unpacker_fixedCodes_52 : decode (mC m_Unpacker_fixedCodes) 52 = .ok (.iastore, 1) := by decide +kernel
theorem d_Unpacker_fixedCodes_53 : decode (mC m_Unpacker_fixedCodes) 53 = .ok (.iinc 1 1, 3) := by decide +kernel
theorem d_Unpacker_fixedCodes_56 : decode (mC m_Unpacker_fixedCodes) 56 = .ok (.goto (-54), 3) := by decide +kernel
theorem d_Unpacker_fixedCodes_59 : decode (mC m_Unpacker_fixedCodes) 59 = .ok (.iconst 0, 1) := by decide +kernel
theorem d_Unpacker_fixedCodes_60 : decode (mC m_Unpacker_fixedCodes) 60 = .ok (.istore_n 1, 1) := by decide +kernel
theorem d_Unpacker_fixedCodes_61 : decode (mC m_Unpacker_fixedCodes) 61 = .ok (.iload_n 1, 1) := by decide +kernel
theorem d_Unpacker_fixedCodes_62 : decode (mC m_Unpacker_fixedCodes) 62 = .ok (.bipush 32, 2) := by decide +kernel
theorem d_Unpacker_fixedCodes_64 : decode (mC m_Unpacker_fixedCodes) 64 = .ok (.if_icmp .ge 20, 3) := by decide +kernel
theorem d_Unpacker_fixedCodes_67 : decode (mC m_Unpacker_fixedCodes) 67 = .ok (.aload_n 0, 1) := by decide +kernel
theorem d_Unpacker_fixedCodes_68 : decode (mC m_Unpacker_fixedCodes) 68 = .ok (.getfield 37, 3) := by decide +kernel
theorem d_Unpacker_fixedCodes_71 : decode (mC m_Unpacker_fixedCodes) 71 = .ok (.sipush 288, 3) := by decide +kernel
theorem d_Unpacker_fixedCodes_74 : decode (mC m_Unpacker_fixedCodes) 74 = .ok (.iload_n 1, 1) := by decide +kernel
theorem d_Unpacker_fixedCodes_75 : decode (mC m_Unpacker_fixedCodes) 75 = .ok (.iadd, 1) := by decide +kernel
theorem d_Unpacker_fixedCodes_76 : decode (mC m_Unpacker_fixedCodes) 76 = .ok (.iconst 5, 1) := by decide +kernel
theorem d_Unpacker_fixedCodes_77 : decode (mC m_Unpacker_fixedCodes) 77 = .ok (.iastore, 1) := by decide +kernel
theorem d_Unpacker_fixedCodes_78 : decode (mC m_Unpacker_fixedCodes) 78 = .ok (.iinc 1 1, 3) := by decide +kernel
theorem d_Unpacker_fixedCodes_81 : decode (mC m_Unpacker_fixedCodes) 81 = .ok (.goto (-20), 3) := by decide +kernel
theorem d_Unpacker_fixedCodes_84 : decode (mC m_Unpacker_fixedCodes) 84 = .ok (.aload_n 0, 1) := by decide +kernel
theorem d_Unpacker_fixedCodes_85 : decode (mC m_Unpacker_fixedCodes) 85 = .ok (.sipush 288, 3) := by decide +kernel
theorem d_Unpacker_fixedCodes_88 : decode (mC m_Unpacker_fixedCodes) 88 = .ok (.bipush 32, 2) := by decide +kernel
theorem d_Unpacker_fixedCodes_90 : decode (mC m_Unpacker_fixedCodes) 90 = .ok (.invokevirtual 87, 3) := by decide +kernel
theorem d_Unpacker_fixedCodes_93 : decode (mC m_Unpacker_fixedCodes) 93 = .ok (.ireturn, 1) := by decide +kernel
def b_Unpacker_fixedCodes_61 (F : Nat) (K61 : Nat → Int32 → zW → Option (Int32 × zW)) (v0 : Nat) (v1 : Int32) (w : zW) : Option (Int32 × zW) := if (32 : Int32) ≤ v1 then ((zobj w v0 5).bind fun _ => (f_Unpacker_buildCodes F v0 (288 : Int32) (32 : Int32) w).bind fun r90 => if r90.1 = 0 ∨ r90.1 = 1 then some (r90.1, r90.2) else none) else ((getR w v0 5 4).bind fun x68 => (aset w x68 ((288 : Int32) + v1) (5 : Int32)).bind fun w77 => K61 v0 (v1 + (1 : Int32)) w77)
set_option maxRecDepth 100000 in
set_option maxHeartbeats 4000000 in
theorem b_Unpacker_fixedCodes_61_ok (G : zG) (F : Nat) (K61 : Nat → Int32 → zW → Option (Int32 × zW)) (hK61 : ∀ (v0 : Nat) (v1 : Int32) (w : zW) (r : (Int32 × zW)), K61 v0 v1 w = some r → zV G m_Unpacker_fixedCodes 61 [(0, .ref (z0 G + v0)), (1, .int v1)] [] w 0 0 (oI r.1) r.2) (v0 : Nat) (v1 : Int32) (w : zW) (r : (Int32 × zW)) (h : b_Unpacker_fixedCodes_61 F K61 v0 v1 w = some r) : zV G m_Unpacker_fixedCodes 61 [(0, .ref (z0 G + v0)), (1, .int v1)] [] w 0 0 (oI r.1) r.2 := by
  unfold b_Unpacker_fixedCodes_61 at h
  refine V_iload_n (i := 1) d_Unpacker_fixedCodes_61 rfl 1 rfl ?_
  refine V_bipush (v := 32) d_Unpacker_fixedCodes_62 (by decide) ?_
  refine V_icmp_ge (tgt := 84) d_Unpacker_fixedCodes_64 (by decide) (fun c64 => ?_) (fun c64 => ?_)
  · rw [if_pos c64] at h
    refine V_aload_n (i := 0) d_Unpacker_fixedCodes_84 rfl 0 rfl ?_
    refine V_sipush (v := 288) d_Unpacker_fixedCodes_85 (by decide) ?_
    refine V_bipush (v := 32) d_Unpacker_fixedCodes_88 (by decide) ?_
    obtain ⟨_, eo90, h⟩ := ob h
    obtain ⟨r90, e90, h⟩ := ob h
    refine V_call (v := some (.int r90.1)) (st := []) (inv_V (N := m_Unpacker_buildCodes) (As := [.int (288 : Int32), .int (32 : Int32)]) (ci := 5) d_Unpacker_fixedCodes_90 eo90 rfl k486 k488 sel_Unpacker_buildCodes kc_Unpacker_buildCodes y_Unpacker_buildCodes) ⟨Or.inl kc_Unpacker_buildCodes, k4, by decide, by decide⟩ (Nat.le_of_ble_eq_true rfl) (by decide) (by decide) (c_Unpacker_buildCodes G F v0 (288 : Int32) (32 : Int32) w r90 e90) ?_
    by_cases g93 : ¬ (r90.1 = 0 ∨ r90.1 = 1)
    · exact absurd h (by rw [if_neg g93]; exact nofun)
    have g93 := Classical.not_not.mp g93
    rw [if_pos g93] at h
    obtain rfl := Option.some.inj h
    exact V_zret rfl g93 (by decide) (by decide) d_Unpacker_fixedCodes_93
  · rw [if_neg c64] at h
    refine V_aload_n (i := 0) d_Unpacker_fixedCodes_67 rfl 0 rfl ?_
    obtain ⟨x68, e68, h⟩ := ob h
    refine V_getR (ci := 5) (k := 4) d_Unpacker_fixedCodes_68 e68 rfl (by decide) in_Unpacker k110 ?_
    refine V_sipush (v := 288) d_Unpacker_fixedCodes_71 (by decide) ?_
    refine V_iload_n (i := 1) d_Unpacker_fixedCodes_74 rfl 1 rfl ?_
    refine V_iadd d_Unpacker_fixedCodes_75 ?_
    refine V_iconst (v := 5) d_Unpacker_fixedCodes_76 (by decide) ?_
    obtain ⟨w77, e77, h⟩ := ob h
    refine V_aset d_Unpacker_fixedCodes_77 e77 ?_
    refine V_iinc (i := 1) (v := (v1 + (1 : Int32))) d_Unpacker_fixedCodes_78 1 rfl (congrArg (fun y => v1 + y) (by decide : Int32.ofInt (1) = (1 : Int32))) (by decide) rfl ?_
    refine V_goto (tgt := 61) d_Unpacker_fixedCodes_81 (by decide) ?_
    refine V_lv [1, 0] rfl ?_
    exact hK61 v0 (v1 + (1 : Int32)) w77 _ h
def l_Unpacker_fixedCodes_61 (F : Nat) : Nat → Nat → Int32 → zW → Option (Int32 × zW)
  | 0 => fun _ _ _ => none
  | n + 1 => b_Unpacker_fixedCodes_61 F (l_Unpacker_fixedCodes_61 F n)
theorem l_Unpacker_fixedCodes_61_ok (G : zG) (F : Nat) (n : Nat) :  ∀ (v0 : Nat) (v1 : Int32) (w : zW) (r : (Int32 × zW)), l_Unpacker_fixedCodes_61 F n v0 v1 w = some r → zV G m_Unpacker_fixedCodes 61 [(0, .ref (z0 G + v0)), (1, .int v1)] [] w 0 0 (oI r.1) r.2 := by
  induction n with
  | zero => intro v0 v1 w r h; exact nomatch (show (none : Option (Int32 × zW)) = some r from h)
  | succ n ih => intro v0 v1 w r h; exact b_Unpacker_fixedCodes_61_ok G F (l_Unpacker_fixedCodes_61 F n) ih v0 v1 w r h
def b_Unpacker_fixedCodes_52 (F : Nat) (K2 : Nat → Int32 → zW → Option (Int32 × zW)) (v0 : Nat) (v1 : Int32) (s0 : Nat) (s1 : Int32) (s2 : Int32) (w : zW) : Option (Int32 × zW) := (aset w s0 s1 s2).bind fun w52 => K2 v0 (v1 + (1 : Int32)) w52
set_option maxRecDepth 100000 in
set_option maxHeartbeats 4000000 in
theorem b_Unpacker_fixedCodes_52_ok (G : zG) (F : Nat) (K2 : Nat → Int32 → zW → Option (Int32 × zW)) (hK2 : ∀ (v0 : Nat) (v1 : Int32) (w : zW) (r : (Int32 × zW)), K2 v0 v1 w = some r → zV G m_Unpacker_fixedCodes 2 [(0, .ref (z0 G + v0)), (1, .int v1)] [] w 0 0 (oI r.1) r.2) (v0 : Nat) (v1 : Int32) (s0 : Nat) (s1 : Int32) (s2 : Int32) (w : zW) (r : (Int32 × zW)) (h : b_Unpacker_fixedCodes_52 F K2 v0 v1 s0 s1 s2 w = some r) : zV G m_Unpacker_fixedCodes 52 [(0, .ref (z0 G + v0)), (1, .int v1)] [.int s2, .int s1, .ref (z0 G + s0)] w 0 0 (oI r.1) r.2 := by
  unfold b_Unpacker_fixedCodes_52 at h
  obtain ⟨w52, e52, h⟩ := ob h
  refine V_aset d_Unpacker_fixedCodes_52 e52 ?_
  refine V_iinc (i := 1) (v := (v1 + (1 : Int32))) d_Unpacker_fixedCodes_53 1 rfl (congrArg (fun y => v1 + y) (by decide : Int32.ofInt (1) = (1 : Int32))) (by decide) rfl ?_
  refine V_goto (tgt := 2) d_Unpacker_fixedCodes_56 (by decide) ?_
  refine V_lv [1, 0] rfl ?_
  exact hK2 v0 (v1 + (1 : Int32)) w52 _ h
def b_Unpacker_fixedCodes_2 (F : Nat) (K2 : Nat → Int32 → zW → Option (Int32 × zW)) (v0 : Nat) (v1 : Int32) (w : zW) : Option (Int32 × zW) := if (288 : Int32) ≤ v1 then (l_Unpacker_fixedCodes_61 F F v0 (0 : Int32) w) else ((getR w v0 5 4).bind fun x10 => if (144 : Int32) ≤ v1 then (if (256 : Int32) ≤ v1 then (if (280 : Int32) ≤ v1 then (b_Unpacker_fixedCodes_52 F K2 v0 v1 x10 v1 (8 : Int32) w) else (b_Unpacker_fixedCodes_52 F K2 v0 v1 x10 v1 (7 : Int32) w)) else (b_Unpacker_fixedCodes_52 F K2 v0 v1 x10 v1 (9 : Int32) w)) else (b_Unpacker_fixedCodes_52 F K2 v0 v1 x10 v1 (8 : Int32) w))
set_option maxRecDepth 100000 in
set_option maxHeartbeats 4000000 in
theorem b_Unpacker_fixedCodes_2_ok (G : zG) (F : Nat) (K2 : Nat → Int32 → zW → Option (Int32 × zW)) (hK2 : ∀ (v0 : Nat) (v1 : Int32) (w : zW) (r : (Int32 × zW)), K2 v0 v1 w = some r → zV G m_Unpacker_fixedCodes 2 [(0, .ref (z0 G + v0)), (1, .int v1)] [] w 0 0 (oI r.1) r.2) (v0 : Nat) (v1 : Int32) (w : zW) (r : (Int32 × zW)) (h : b_Unpacker_fixedCodes_2 F K2 v0 v1 w = some r) : zV G m_Unpacker_fixedCodes 2 [(0, .ref (z0 G + v0)), (1, .int v1)] [] w 0 0 (oI r.1) r.2 := by
  unfold b_Unpacker_fixedCodes_2 at h
  refine V_iload_n (i := 1) d_Unpacker_fixedCodes_2 rfl 1 rfl ?_
  refine V_sipush (v := 288) d_Unpacker_fixedCodes_3 (by decide) ?_
  refine V_icmp_ge (tgt := 59) d_Unpacker_fixedCodes_6 (by decide) (fun c6 => ?_) (fun c6 => ?_)
  · rw [if_pos c6] at h
    refine V_iconst (v := 0) d_Unpacker_fixedCodes_59 (by decide) ?_
    refine V_istore_n (i := 1) d_Unpacker_fixedCodes_60 rfl (by decide) rfl ?_
    refine V_lv [1, 0] rfl ?_
    exact l_Unpacker_fixedCodes_61_ok G F F v0 (0 : Int32) w _ h
  · rw [if_neg c6] at h
    refine V_aload_n (i := 0) d_Unpacker_fixedCodes_9 rfl 0 rfl ?_
    obtain ⟨x10, e10, h⟩ := ob h
    refine V_getR (ci := 5) (k := 4) d_Unpacker_fixedCodes_10 e10 rfl (by decide) in_Unpacker k110 ?_
    refine V_iload_n (i := 1) d_Unpacker_fixedCodes_13 rfl 1 rfl ?_
    refine V_iload_n (i := 1) d_Unpacker_fixedCodes_14 rfl 1 rfl ?_
    refine V_sipush (v := 144) d_Unpacker_fixedCodes_15 (by decide) ?_
    refine V_icmp_ge (tgt := 26) d_Unpacker_fixedCodes_18 (by decide) (fun c18 => ?_) (fun c18 => ?_)
    · rw [if_pos c18] at h
      refine V_iload_n (i := 1) d_Unpacker_fixedCodes_26 rfl 1 rfl ?_
      refine V_sipush (v := 256) d_Unpacker_fixedCodes_27 (by decide) ?_
      refine V_icmp_ge (tgt := 38) d_Unpacker_fixedCodes_30 (by decide) (fun c30 => ?_) (fun c30 => ?_)
      · rw [if_pos c30] at h
        refine V_iload_n (i := 1) d_Unpacker_fixedCodes_38 rfl 1 rfl ?_
        refine V_sipush (v := 280) d_Unpacker_fixedCodes_39 (by decide) ?_
        refine V_icmp_ge (tgt := 50) d_Unpacker_fixedCodes_42 (by decide) (fun c42 => ?_) (fun c42 => ?_)
        · rw [if_pos c42] at h
          refine V_bipush (v := 8) d_Unpacker_fixedCodes_50 (by decide) ?_
          exact b_Unpacker_fixedCodes_52_ok G F K2 hK2 v0 v1 x10 v1 (8 : Int32) w _ h
        · rw [if_neg c42] at h
          refine V_bipush (v := 7) d_Unpacker_fixedCodes_45 (by decide) ?_
          refine V_goto (tgt := 52) d_Unpacker_fixedCodes_47 (by decide) ?_
          exact b_Unpacker_fixedCodes_52_ok G F K2 hK2 v0 v1 x10 v1 (7 : Int32) w _ h
      · rw [if_neg c30] at h
        refine V_bipush (v := 9) d_Unpacker_fixedCodes_33 (by decide) ?_
        refine V_goto (tgt := 52) d_Unpacker_fixedCodes_35 (by decide) ?_
        exact b_Unpacker_fixedCodes_52_ok G F K2 hK2 v0 v1 x10 v1 (9 : Int32) w _ h
    · rw [if_neg c18] at h
      refine V_bipush (v := 8) d_Unpacker_fixedCodes_21 (by decide) ?_
      refine V_goto (tgt := 52) d_Unpacker_fixedCodes_23 (by decide) ?_
      exact b_Unpacker_fixedCodes_52_ok G F K2 hK2 v0 v1 x10 v1 (8 : Int32) w _ h
def l_Unpacker_fixedCodes_2 (F : Nat) : Nat → Nat → Int32 → zW → Option (Int32 × zW)
  | 0 => fun _ _ _ => none
  | n + 1 => b_Unpacker_fixedCodes_2 F (l_Unpacker_fixedCodes_2 F n)
theorem l_Unpacker_fixedCodes_2_ok (G : zG) (F : Nat) (n : Nat) :  ∀ (v0 : Nat) (v1 : Int32) (w : zW) (r : (Int32 × zW)), l_Unpacker_fixedCodes_2 F n v0 v1 w = some r → zV G m_Unpacker_fixedCodes 2 [(0, .ref (z0 G + v0)), (1, .int v1)] [] w 0 0 (oI r.1) r.2 := by
  induction n with
  | zero => intro v0 v1 w r h; exact nomatch (show (none : Option (Int32 × zW)) = some r from h)
  | succ n ih => intro v0 v1 w r h; exact b_Unpacker_fixedCodes_2_ok G F (l_Unpacker_fixedCodes_2 F n) ih v0 v1 w r h
def b_Unpacker_fixedCodes_0 (F : Nat) (v0 : Nat) (w : zW) : Option (Int32 × zW) := l_Unpacker_fixedCodes_2 F F v0 (0 : Int32) w
set_option maxRecDepth 100000 in
set_option maxHeartbeats 4000000 in
theorem b_Unpacker_fixedCodes_0_ok (G : zG) (F : Nat) (v0 : Nat) (w : zW) (r : (Int32 × zW)) (h : b_Unpacker_fixedCodes_0 F v0 w = some r) : zV G m_Unpacker_fixedCodes 0 [(0, .ref (z0 G + v0))] [] w 0 0 (oI r.1) r.2 := by
  unfold b_Unpacker_fixedCodes_0 at h
  refine V_iconst (v := 0) d_Unpacker_fixedCodes_0 (by decide) ?_
  refine V_istore_n (i := 1) d_Unpacker_fixedCodes_1 rfl (by decide) rfl ?_
  refine V_lv [1, 0] rfl ?_
  exact l_Unpacker_fixedCodes_2_ok G F F v0 (0 : Int32) w _ h
def f_Unpacker_fixedCodes (F : Nat) (v0 : Nat) (w : zW) : Option (Int32 × zW) := b_Unpacker_fixedCodes_0 F v0 w
theorem c_Unpacker_fixedCodes (G : zG) (F : Nat) (v0 : Nat) (w : zW) (r : (Int32 × zW)) (h : f_Unpacker_fixedCodes F v0 w = some r) : zCT G m_Unpacker_fixedCodes [.ref (z0 G + v0)] w (oI r.1) r.2 := zCT.ofV (by decide +kernel) (Or.inl ⟨kc_Unpacker_fixedCodes, rfl⟩) (Nat.le_of_ble_eq_true rfl) (b_Unpacker_fixedCodes_0_ok G F v0 w r h)

/-! ZipArray$Unpacker.takeSymbol(LZipArray$Code;)I -/
def m_Unpacker_takeSymbol : zM := (⟨R_Unpacker, "takeSymbol", "(LZipArray$Code;)I"⟩, prog_8_method_4_code, 7, (some .int), [], { frames := 0, cells := 0, slots := 0, locals := 0 })
theorem k95 : Cond.fieldLink R_Unpacker 72 (T_Code 0).1 (T_Code 0).2.1 (T_Code 0).2.2.1 ∈ zTb := tb_at 95 (by decide +kernel) rfl
theorem k97 : Cond.fieldLink R_Unpacker 75 (T_Code 1).1 (T_Code 1).2.1 (T_Code 1).2.2.1 ∈ zTb := tb_at 97 (by decide +kernel) rfl
theorem kc_Unpacker_takeSymbol : Cond.code (mY m_Unpacker_takeSymbol) (mC m_Unpacker_takeSymbol) (mL m_Unpacker_takeSymbol) (mT m_Unpacker_takeSymbol) ∈ zTb := tb_at 501 (by decide +kernel) rfl
theorem y_Unpacker_takeSymbol : (mY m_Unpacker_takeSymbol).cls ≠ "java/lang/invoke/MethodHandle" ∧ (mY m_Unpacker_takeSymbol).cls ≠ "java/lang/invoke/VarHandle" ∧ (parseMethodDescriptor (mY m_Unpacker_takeSymbol).desc).map (fun d => d.parameters.length) = some 1 := by decide +kernel
theorem sel_Unpacker_takeSymbol : Cond.selects R_Unpacker (mY m_Unpacker_takeSymbol) (mY m_Unpacker_takeSymbol) ∈ zTb := sel_at (y := mY m_Unpacker_takeSymbol) (n := 8) 18 (by decide +kernel)
theorem d_Unpacker_takeSymbol_0 : decode (mC m_Unpacker_takeSymbol) 0 = .ok (.iconst 0, 1) := by decide +kernel
theorem d_Unpacker_takeSymbol_1 : decode (mC m_Unpacker_takeSymbol) 1 = .ok (.istore_n 2, 1) := by decide +kernel
theorem d_Unpacker_takeSymbol_2 : decode (mC m_Unpacker_takeSymbol) 2 = .ok (.iconst 0, 1) := by decide +kernel
theorem d_Unpacker_takeSymbol_3 : decode (mC m_Unpacker_takeSymbol) 3 = .ok (.istore_n 3, 1) := by decide +kernel
theorem d_Unpacker_takeSymbol_4 : decode (mC m_Unpacker_takeSymbol) 4 = .ok (.iconst 0, 1) := by decide +kernel
theorem d_Unpacker_takeSymbol_5 : decode (mC m_Unpacker_takeSymbol) 5 = .ok (.istore 4, 2) := by decide +kernel
theorem d_Unpacker_takeSymbol_7 : decode (mC m_Unpacker_takeSymbol) 7 = .ok (.iconst 1, 1) := by decide +kernel
theorem d_Unpacker_takeSymbol_8 : decode (mC m_Unpacker_takeSymbol) 8 = .ok (.istore 5, 2) := by decide +kernel
theorem d_Unpacker_takeSymbol_10 : decode (mC m_Unpacker_takeSymbol) 10 = .ok (.iload 5, 2) := by decide +kernel
theorem d_Unpacker_takeSymbol_12 : decode (mC m_Unpacker_takeSymbol) 12 = .ok (.bipush 15, 2) := by decide +kernel
theorem d_Unpacker_takeSymbol_14 : decode (mC m_Unpacker_takeSymbol) 14 = .ok (.if_icmp .gt 104, 3) := by decide +kernel
theorem d_Unpacker_takeSymbol_17 : decode (mC m_Unpacker_takeSymbol) 17 = .ok (.aload_n 0, 1) := by decide +kernel
theorem d_Unpacker_takeSymbol_18 : decode (mC m_Unpacker_takeSymbol) 18 = .ok (.getfield 45, 3) := by decide +kernel
theorem d_Unpacker_takeSymbol_21 : decode (mC m_Unpacker_takeSymbol) 21 = .ok (.aload_n 0, 1) := by decide +kernel
theorem d_Unpacker_takeSymbol_22 : decode (mC m_Unpacker_takeSymbol) 22 = .ok (.getfield 49, 3) := by decide +kernel
theorem d_Unpacker_takeSymbol_25 : decode (mC m_Unpacker_takeSymbol) 25 = .ok (.if_icmp .lt 5, 3) := by decide +kernel
theorem d_Unpacker_takeSymbol_28 : decode (mC m_Unpacker_takeSymbol) 28 = .ok (.iconst (-1), 1) := by decide +kernel
theorem d_Unpacker_takeSymbol_29 : decode (mC m_Unpacker_takeSymbol) 29 = .ok (.ireturn, 1) := by decide +kernel
theorem d_Unpacker_takeSymbol_30 : decode (mC m_Unpacker_takeSymbol) 30 = .ok (.iconst 2, 1) := by decide +kernel
theorem d_Unpacker_takeSymbol_31 : decode (mC m_Unpacker_takeSymbol) 31 = .ok (.iload_n 2, 1) := by decide +kernel
theorem d_Unpacker_takeSymbol_32 : decode (mC m_Unpacker_takeSymbol) 32 = .ok (.imul, 1) := by decide +kernel
theorem d_Unpacker_takeSymbol_33 : decode (mC m_Unpacker_takeSymbol) 33 = .ok (.aload_n 0, 1) := by decide +kernel
theorem d_Unpacker_takeSymbol_34 : decode (mC m_Unpacker_takeSymbol) 34 = .ok (.getfield 15, 3) := by decide +kernel
theorem d_Unpacker_takeSymbol_37 : decode (mC m_Unpacker_takeSymbol) 37 = .ok (.getfield 69, 3) := by decide +kernel
theorem d_Unpacker_takeSymbol_40 : decode (mC m_Unpacker_takeSymbol) 40 = .ok (.aload_n 0, 1) := by decide +kernel
theorem d_Unpacker_takeSymbol_41 : decode (mC m_Unpacker_takeSymbol) 41 = .ok (.getfield 45, 3) := by decide +kernel
theorem d_Unpacker_takeSymbol_44 : decode (mC m_Unpacker_takeSymbol) 44 = .ok (.iconst 3, 1) := by decide +kernel
theorem d_Unpacker_takeSymbol_45 : decode (mC m_Unpacker_takeSymbol) 45 = .ok (.ishr, 1) := by decide +kernel
theorem d_Unpacker_takeSymbol_46 : decode (mC m_Unpacker_takeSymbol) 46 = .ok (.iaload, 1) := by decide +kernel
theorem d_Unpacker_takeSymbol_47 : decode (mC m_Unpacker_takeSymbol) 47 = .ok (.aload_n 0, 1) := by decide +kernel
theorem d_Unpacker_takeSymbol_48 : decode (mC m_Unpacker_takeSymbol) 48 = .ok (.getfield 45, 3) := by decide +kernel
theorem d_Unpacker_takeSymbol_51 : decode (mC m_Unpacker_takeSymbol) 51 = .ok (.bipush 7, 2) := by decide +kernel
theorem d_Unpacker_takeSymbol_53 : decode (mC m_Unpacker_takeSymbol) 53 = .ok (.iand, 1) := by decide +kernel
theorem d_Unpacker_takeSymbol_54 : decode (mC m_Unpacker_takeSymbol) 54 = .ok (.ishr, 1) := by decide +kernel
theorem d_Unpacker_takeSymbol_55 : decode (mC m_Unpacker_takeSymbol) 55 = .ok (.iconst 1, 1) := by decide +kernel
theorem d_Unpacker_takeSymbol_56 : decode (mC m_Unpacker_takeSymbol) 56 = .ok (.iand, 1) := by decide +kernel
theorem d_Unpacker_takeSymbol_57 : decode (mC m_Unpacker_takeSymbol) 57 = .ok (.iadd, 1) := by decide +kernel
theorem d_Unpacker_takeSymbol_58 : decode (mC m_Unpacker_takeSymbol) 58 = .ok (.istore_n 2, 1) := by decide +kernel
theorem d_Unpacker_takeSymbol_59 : decode (mC m_Unpacker_takeSymbol) 59 = .ok (.aload_n 0, 1) := by decide +kernel
theorem d_Unpacker_takeSymbol_60 : decode (mC m_Unpacker_takeSymbol) 60 = .ok (.dup, 1) := by decide +kernel
theorem d_Unpacker_takeSymbol_61 : decode (mC m_Unpacker_takeSymbol) 61 = .ok (.getfield 45, 3) := by decide +kernel
theorem d_Unpacker_takeSymbol_64 : decode (mC m_Unpacker_takeSymbol) 64 = .ok (.iconst 1, 1) := by decide +kernel
theorem d_Unpacker_takeSymbol_65 : decode (mC m_Unpacker_takeSymbol) 65 = .ok (.iadd, 1) := by decide +kernel
theorem d_Unpacker_takeSymbol_66 : decode (mC m_Unpacker_takeSymbol) 66 = .ok (.putfield 45, 3) := by decide +kernel
theorem d_Unpacker_takeSymbol_69 : decode (mC m_Unpacker_takeSymbol) 69 = .ok (.aload_n 1, 1) := by decide +kernel
theorem d_Unpacker_takeSymbol_70 : decode (mC m_Unpacker_takeSymbol) 70 = .ok (.getfield 72, 3) := by decide +kernel
theorem d_Unpacker_takeSymbol_73 : decode (mC m_Unpacker_takeSymbol) 73 = .ok (.iload 5, 2) := by decide +kernel
theorem d_Unpacker_takeSymbol_75 : decode (mC m_Unpacker_takeSymbol) 75 = .ok (.iaload, 1) := by decide +kernel
theorem d_Unpacker_takeSymbol_76 : decode (mC m_Unpacker_takeSymbol) 76 = .ok (.istore 6, 2) := by decide +kernel
theorem d_Unpacker_takeSymbol_78 : decode (mC m_Unpacker_takeSymbol) 78 = .ok (.iload_n 2, 1) := by decide +kernel
theorem d_Unpacker_takeSymbol_79 : decode (mC m_Unpacker_takeSymbol) 79 = .ok (.iload_n 3, 1) := by decide +kernel
theorem d_Unpacker_takeSymbol_80 : decode (mC m_Unpacker_takeSymbol) 80 = .ok (.isub, 1) := by decide +kernel
theorem d_Unpacker_takeSymbol_81 : decode (mC m_Unpacker_takeSymbol) 81 = .ok (.iload 6, 2) := by decide +kernel
theorem d_Unpacker_takeSymbol_83 : decode (mC m_Unpacker_takeSymbol) 83 = .ok (.if_icmp .ge 15, 3) := by decide +kernel
theorem d_Unpacker_takeSymbol_86 : decode (mC m_Unpacker_takeSymbol) 86 = .ok (.aload_n 1, 1) := by decide +kernel
theorem d_Unpacker_takeSymbol_87 : decode (mC m_Unpacker_takeSymbol) 87 = .ok (.getfield 75, 3) := by decide +kernel
theorem d_Unpacker_takeSymbol_90 : decode (mC m_Unpacker_takeSymbol) 90 = .ok (.iload 4, 2) := by decide +kernel
theorem d_Unpacker_takeSymbol_92 : decode (mC m_Unpacker_takeSymbol) 92 = .ok (.iload_n 2, 1) := by decide +kernel
theorem d_Unpacker_takeSymbol_93 : decode (mC m_Unpacker_takeSymbol) 93 = .ok (.iadd, 1) := by decide +kernel
theorem d_Unpacker_takeSymbol_94 : decode (mC m_Unpacker_takeSymbol) 94 = .ok (.iload_n 3, 1) := by decide +kernel
theorem d_Unpacker_takeSymbol_95 : decode (mC m_Unpacker_takeSymbol) 95 = .ok (.isub, 1) := by decide +kernel
theorem d_Unpacker_takeSymbol_96 : decode (mC m_Unpacker_takeSymbol) 96 = .ok (.iaload, 1) := by decide +kernel
theorem d_Unpacker_takeSymbol_97 : decode (mC m_Unpacker_takeSymbol) 97 = .ok (.ireturn, 1) := by decide +kernel
theorem d_Unpacker_takeSymbol_98 : decode (mC m_Unpacker_takeSymbol) 98 = .ok (.iload 4, 2) := by decide +kernel
theorem d_Unpacker_takeSymbol_100 : decode (mC m_Unpacker_takeSymbol) 100 = .ok (.iload 6, 2) := by decide +kernel
theorem d_Unpacker_takeSymbol_102 : decode (mC m_Unpacker_takeSymbol) 102 = .ok (.iadd, 1) := by decide +kernel
theorem d_Unpacker_takeSymbol_103 : decode (mC m_Unpacker_takeSymbol) 103 = .ok (.istore 4, 2) := by decide +kernel
theorem d_Unpacker_takeSymbol_105 : decode (mC m_Unpacker_takeSymbol) 105 = .ok (.iconst 2, 1) := by decide +kernel
theorem d_Unpacker_takeSymbol_106 : decode (mC m_Unpacker_takeSymbol) 106 = .ok (.iload_n 3, 1) := by decide +kernel
theorem d_Unpacker_takeSymbol_107 : decode (mC m_Unpacker_takeSymbol) 107 = .ok (.iload 6, 2) := by decide +kernel
theorem d_Unpacker_takeSymbol_109 : decode (mC m_Unpacker_takeSymbol) 109 = .ok (.iadd, 1) := by decide +kernel
theorem d_Unpacker_takeSymbol_110 : decode (mC m_Unpacker_takeSymbol) 110 = .ok (.imul, 1) := by decide +kernel
theorem d_Unpacker_takeSymbol_111 : decode (mC m_Unpacker_takeSymbol) 111 = .ok (.istore_n 3, 1) := by decide +kernel
theorem d_Unpacker_takeSymbol_112 : decode (mC m_Unpacker_takeSymbol) 112 = .ok (.iinc 5 1, 3) := by decide +kernel
theorem d_Unpacker_takeSymbol_115 : decode (mC m_Unpacker_takeSymbol) 115 = .ok (.goto (-105), 3) := by decide +kernel
theorem d_Unpacker_takeSymbol_118 : decode (mC m_Unpacker_takeSymbol) 118 = .ok (.iconst (-1), 1) := by decide +kernel
theorem d_Unpacker_takeSymbol_119 : decode (mC m_Unpacker_takeSymbol) 119 = .ok (.ireturn, 1) := by decide +kernel
def b_Unpacker_takeSymbol_10 (F : Nat) (K10 : Nat → Nat → Int32 → Int32 → Int32 → Int32 → zW → Option (Int32 × zW)) (v0 : Nat) (v1 : Nat) (v2 : Int32) (v3 : Int32) (v4 : Int32) (v5 : Int32) (w : zW) : Option (Int32 × zW) := if (15 : Int32) < v5 then (some ((-1 : Int32), w)) else ((getI w v0 5 6).bind fun x18 => (getI w v0 5 7).bind fun x22 => if x18 < x22 then ((getR w v0 5 5).bind fun x34 => (getR w x34 0 0).bind fun x37 => (getI w v0 5 6).bind fun x41 => (aget w x37 (x41 >>> ((3 : Int32) &&& 31))).bind fun x46 => (getI w v0 5 6).bind fun x48 => (getI w v0 5 6).bind fun x61 => (putI w v0 5 6 (x61 + (1 : Int32))).bind fun w66 => (getR w66 v1 4 0).bind fun x70 => (aget w66 x70 v5).bind fun x75 => if x75 ≤ ((((2 : Int32) * v2) + ((x46 >>> ((x48 &&& (7 : Int32)) &&& 31)) &&& (1 : Int32))) - v3) then (K10 v0 v1 (((2 : Int32) * v2) + ((x46 >>> ((x48 &&& (7 : Int32)) &&& 31)) &&& (1 : Int32))) ((2 : Int32) * (v3 + x75)) (v4 + x75) (v5 + (1 : Int32)) w66) else ((getR w66 v1 4 1).bind fun x87 => (aget w66 x87 ((v4 + (((2 : Int32) * v2) + ((x46 >>> ((x48 &&& (7 : Int32)) &&& 31)) &&& (1 : Int32)))) - v3)).bind fun x96 => some (x96, w66))) else (some ((-1 : Int32), w)))
set_option maxRecDepth 100000 in
set_option maxHeartbeats 4000000 in
theorem b_Unpacker_takeSymbol_10_ok (G : zG) (F : Nat) (K10 : Nat → Nat → Int32 → Int32 → Int32 → Int32 → zW → Option (Int32 × zW)) (hK10 : ∀ (v0 : Nat) (v1 : Nat) (v2 : Int32) (v3 : Int32) (v4 : Int32) (v5 : Int32) (w : zW) (r : (Int32 × zW)), K10 v0 v1 v2 v3 v4 v5 w = some r → zV G m_Unpacker_takeSymbol 10 [(0, .ref (z0 G + v0)), (1, .ref (z0 G + v1)), (2, .int v2), (3, .int v3), (4, .int v4), (5, .int v5)] [] w 0 0 (oI r.1) r.2) (v0 : Nat) (v1 : Nat) (v2 : Int32) (v3 : Int32) (v4 : Int32) (v5 : Int32) (w : zW) (r : (Int32 × zW)) (h : b_Unpacker_takeSymbol_10 F K10 v0 v1 v2 v3 v4 v5 w = some r) : zV G m_Unpacker_takeSymbol 10 [(0, .ref (z0 G + v0)), (1, .ref (z0 G + v1)), (2, .int v2), (3, .int v3), (4, .int v4), (5, .int v5)] [] w 0 0 (oI r.1) r.2 := by
  unfold b_Unpacker_takeSymbol_10 at h
  refine V_iload (i := 5) d_Unpacker_takeSymbol_10 5 rfl ?_
  refine V_bipush (v := 15) d_Unpacker_takeSymbol_12 (by decide) ?_
  refine V_icmp_gt (tgt := 118) d_Unpacker_takeSymbol_14 (by decide) (fun c14 => ?_) (fun c14 => ?_)
  · rw [if_pos c14] at h
    refine V_iconst (v := -1) d_Unpacker_takeSymbol_118 (by decide) ?_
    obtain rfl := Option.some.inj h
    exact V_iret rfl (by decide) (by decide) d_Unpacker_takeSymbol_119
  · rw [if_neg c14] at h
    refine V_aload_n (i := 0) d_Unpacker_takeSymbol_17 rfl 0 rfl ?_
    obtain ⟨x18, e18, h⟩ := ob h
    refine V_getI (ci := 5) (k := 6) d_Unpacker_takeSymbol_18 e18 rfl (by decide) in_Unpacker k112 ?_
    refine V_aload_n (i := 0) d_Unpacker_takeSymbol_21 rfl 0 rfl ?_
    obtain ⟨x22, e22, h⟩ := ob h
    refine V_getI (ci := 5) (k := 7) d_Unpacker_takeSymbol_22 e22 rfl (by decide) in_Unpacker k113 ?_
    refine V_icmp_lt (tgt := 30) d_Unpacker_takeSymbol_25 (by decide) (fun c25 => ?_) (fun c25 => ?_)
    · rw [if_pos c25] at h
      refine V_iconst (v := 2) d_Unpacker_takeSymbol_30 (by decide) ?_
      refine V_iload_n (i := 2) d_Unpacker_takeSymbol_31 rfl 2 rfl ?_
      refine V_imul d_Unpacker_takeSymbol_32 ?_
      refine V_aload_n (i := 0) d_Unpacker_takeSymbol_33 rfl 0 rfl ?_
      obtain ⟨x34, e34, h⟩ := ob h
      refine V_getR (ci := 5) (k := 5) d_Unpacker_takeSymbol_34 e34 rfl (by decide) in_Unpacker k111 ?_
      obtain ⟨x37, e37, h⟩ := ob h
      refine V_getR (ci := 0) (k := 0) d_Unpacker_takeSymbol_37 e37 rfl (by decide) in_Row k37 ?_
      refine V_aload_n (i := 0) d_Unpacker_takeSymbol_40 rfl 0 rfl ?_
      obtain ⟨x41, e41, h⟩ := ob h
      refine V_getI (ci := 5) (k := 6) d_Unpacker_takeSymbol_41 e41 rfl (by decide) in_Unpacker k112 ?_
      refine V_iconst (v := 3) d_Unpacker_takeSymbol_44 (by decide) ?_
      refine V_ishr d_Unpacker_takeSymbol_45 ?_
      obtain ⟨x46, e46, h⟩ := ob h
      refine V_aget d_Unpacker_takeSymbol_46 e46 ?_
      refine V_aload_n (i := 0) d_Unpacker_takeSymbol_47 rfl 0 rfl ?_
      obtain ⟨x48, e48, h⟩ := ob h
      refine V_getI (ci := 5) (k := 6) d_Unpacker_takeSymbol_48 e48 rfl (by decide) in_Unpacker k112 ?_
      refine V_bipush (v := 7) d_Unpacker_takeSymbol_51 (by decide) ?_
      refine V_iand d_Unpacker_takeSymbol_53 ?_
      refine V_ishr d_Unpacker_takeSymbol_54 ?_
      refine V_iconst (v := 1) d_Unpacker_takeSymbol_55 (by decide) ?_
      refine V_iand d_Unpacker_takeSymbol_56 ?_
      refine V_iadd d_Unpacker_takeSymbol_57 ?_
      refine V_istore_n (i := 2) d_Unpacker_takeSymbol_58 rfl (by decide) rfl ?_
      refine V_aload_n (i := 0) d_Unpacker_takeSymbol_59 rfl 1 rfl ?_
      refine V_dup rfl d_Unpacker_takeSymbol_60 ?_
      obtain ⟨x61, e61, h⟩ := ob h
      refine V_getI (ci := 5) (k := 6) d_Unpacker_takeSymbol_61 e61 rfl (by decide) in_Unpacker k112 ?_
      refine V_iconst (v := 1) d_Unpacker_takeSymbol_64 (by decide) ?_
      refine V_iadd d_Unpacker_takeSymbol_65 ?_
      obtain ⟨w66, e66, h⟩ := ob h
      refine V_putI (ci := 5) (k := 6) t_Unpacker d_Unpacker_takeSymbol_66 e66 rfl (by decide) in_Unpacker k112 ty_Unpacker nm_Unpacker rfl (Or.inl rfl) ?_
      refine V_aload_n (i := 1) d_Unpacker_takeSymbol_69 rfl 2 rfl ?_
      obtain ⟨x70, e70, h⟩ := ob h
      refine V_getR (ci := 4) (k := 0) d_Unpacker_takeSymbol_70 e70 rfl (by decide) in_Code k95 ?_
      refine V_iload (i := 5) d_Unpacker_takeSymbol_73 5 rfl ?_
      obtain ⟨x75, e75, h⟩ := ob h
      refine V_aget d_Unpacker_takeSymbol_75 e75 ?_
      refine V_istore (i := 6) d_Unpacker_takeSymbol_76 (by decide) rfl ?_
      refine V_iload_n (i := 2) d_Unpacker_takeSymbol_78 rfl 1 rfl ?_
      refine V_iload_n (i := 3) d_Unpacker_takeSymbol_79 rfl 4 rfl ?_
      refine V_isub d_Unpacker_takeSymbol_80 ?_
      refine V_iload (i := 6) d_Unpacker_takeSymbol_81 0 rfl ?_
      refine V_icmp_ge (tgt := 98) d_Unpacker_takeSymbol_83 (by decide) (fun c83 => ?_) (fun c83 => ?_)
      · rw [if_pos c83] at h
        refine V_iload (i := 4) d_Unpacker_takeSymbol_98 5 rfl ?_
        refine V_iload (i := 6) d_Unpacker_takeSymbol_100 0 rfl ?_
        refine V_iadd d_Unpacker_takeSymbol_102 ?_
        refine V_istore (i := 4) d_Unpacker_takeSymbol_103 (by decide) rfl ?_
        refine V_iconst (v := 2) d_Unpacker_takeSymbol_105 (by decide) ?_
        refine V_iload_n (i := 3) d_Unpacker_takeSymbol_106 rfl 5 rfl ?_
        refine V_iload (i := 6) d_Unpacker_takeSymbol_107 1 rfl ?_
        refine V_iadd d_Unpacker_takeSymbol_109 ?_
        refine V_imul d_Unpacker_takeSymbol_110 ?_
        refine V_istore_n (i := 3) d_Unpacker_takeSymbol_111 rfl (by decide) rfl ?_
        refine V_iinc (i := 5) (v := (v5 + (1 : Int32))) d_Unpacker_takeSymbol_112 6 rfl (congrArg (fun y => v5 + y) (by decide : Int32.ofInt (1) = (1 : Int32))) (by decide) rfl ?_
        refine V_goto (tgt := 10) d_Unpacker_takeSymbol_115 (by decide) ?_
        refine V_lv [5, 6, 4, 1, 2, 0] rfl ?_
        exact hK10 v0 v1 (((2 : Int32) * v2) + ((x46 >>> ((x48 &&& (7 : Int32)) &&& 31)) &&& (1 : Int32))) ((2 : Int32) * (v3 + x75)) (v4 + x75) (v5 + (1 : Int32)) w66 _ h
      · rw [if_neg c83] at h
        refine V_aload_n (i := 1) d_Unpacker_takeSymbol_86 rfl 3 rfl ?_
        obtain ⟨x87, e87, h⟩ := ob h
        refine V_getR (ci := 4) (k := 1) d_Unpacker_takeSymbol_87 e87 rfl (by decide) in_Code k97 ?_
        refine V_iload (i := 4) d_Unpacker_takeSymbol_90 5 rfl ?_
        refine V_iload_n (i := 2) d_Unpacker_takeSymbol_92 rfl 1 rfl ?_
        refine V_iadd d_Unpacker_takeSymbol_93 ?_
        refine V_iload_n (i := 3) d_Unpacker_takeSymbol_94 rfl 4 rfl ?_
        refine V_isub d_Unpacker_takeSymbol_95 ?_
        obtain ⟨x96, e96, h⟩ := ob h
        refine V_aget d_Unpacker_takeSymbol_96 e96 ?_
        obtain rfl := Option.some.inj h
        exact V_iret rfl (by decide) (by decide) d_Unpacker_takeSymbol_97
    · rw [if_neg c25] at h
      refine V_iconst (v := -1) d_Unpacker_takeSymbol_28 (by decide) ?_
      obtain rfl := Option.some.inj h
      exact V_iret rfl (by decide) (by decide) d_Unpacker_takeSymbol_29
def l_Unpacker_takeSymbol_10 (F : Nat) : Nat → Nat → Nat → Int32 → Int32 → Int32 → Int32 → zW → Option (Int32 × zW)
  | 0 => fun _ _ _ _ _ _ _ => none
  | n + 1 => b_Unpacker_takeSymbol_10 F (l_Unpacker_takeSymbol_10 F n)
theorem l_Unpacker_takeSymbol_10_ok (G : zG) (F : Nat) (n : Nat) :  ∀ (v0 : Nat) (v1 : Nat) (v2 : Int32) (v3 : Int32) (v4 : Int32) (v5 : Int32) (w : zW) (r : (Int32 × zW)), l_Unpacker_takeSymbol_10 F n v0 v1 v2 v3 v4 v5 w = some r → zV G m_Unpacker_takeSymbol 10 [(0, .ref (z0 G + v0)), (1, .ref (z0 G + v1)), (2, .int v2), (3, .int v3), (4, .int v4), (5, .int v5)] [] w 0 0 (oI r.1) r.2 := by
  induction n with
  | zero => intro v0 v1 v2 v3 v4 v5 w r h; exact nomatch (show (none : Option (Int32 × zW)) = some r from h)
  | succ n ih => intro v0 v1 v2 v3 v4 v5 w r h; exact b_Unpacker_takeSymbol_10_ok G F (l_Unpacker_takeSymbol_10 F n) ih v0 v1 v2 v3 v4 v5 w r h
def b_Unpacker_takeSymbol_0 (F : Nat) (v0 : Nat) (v1 : Nat) (w : zW) : Option (Int32 × zW) := l_Unpacker_takeSymbol_10 F F v0 v1 (0 : Int32) (0 : Int32) (0 : Int32) (1 : Int32) w
set_option maxRecDepth 100000 in
set_option maxHeartbeats 4000000 in
theorem b_Unpacker_takeSymbol_0_ok (G : zG) (F : Nat) (v0 : Nat) (v1 : Nat) (w : zW) (r : (Int32 × zW)) (h : b_Unpacker_takeSymbol_0 F v0 v1 w = some r) : zV G m_Unpacker_takeSymbol 0 [(0, .ref (z0 G + v0)), (1, .ref (z0 G + v1))] [] w 0 0 (oI r.1) r.2 := by
  unfold b_Unpacker_takeSymbol_0 at h
  refine V_iconst (v := 0) d_Unpacker_takeSymbol_0 (by decide) ?_
  refine V_istore_n (i := 2) d_Unpacker_takeSymbol_1 rfl (by decide) rfl ?_
  refine V_iconst (v := 0) d_Unpacker_takeSymbol_2 (by decide) ?_
  refine V_istore_n (i := 3) d_Unpacker_takeSymbol_3 rfl (by decide) rfl ?_
  refine V_iconst (v := 0) d_Unpacker_takeSymbol_4 (by decide) ?_
  refine V_istore (i := 4) d_Unpacker_takeSymbol_5 (by decide) rfl ?_
  refine V_iconst (v := 1) d_Unpacker_takeSymbol_7 (by decide) ?_
  refine V_istore (i := 5) d_Unpacker_takeSymbol_8 (by decide) rfl ?_
  refine V_lv [4, 5, 3, 2, 1, 0] rfl ?_
  exact l_Unpacker_takeSymbol_10_ok G F F v0 v1 (0 : Int32) (0 : Int32) (0 : Int32) (1 : Int32) w _ h
def f_Unpacker_takeSymbol (F : Nat) (v0 : Nat) (v1 : Nat) (w : zW) : Option (Int32 × zW) := b_Unpacker_takeSymbol_0 F v0 v1 w
theorem c_Unpacker_takeSymbol (G : zG) (F : Nat) (v0 : Nat) (v1 : Nat) (w : zW) (r : (Int32 × zW)) (h : f_Unpacker_takeSymbol F v0 v1 w = some r) : zCT G m_Unpacker_takeSymbol [.ref (z0 G + v0), .ref (z0 G + v1)] w (oI r.1) r.2 := zCT.ofV (by decide +kernel) (Or.inl ⟨kc_Unpacker_takeSymbol, rfl⟩) (Nat.le_of_ble_eq_true rfl) (b_Unpacker_takeSymbol_0_ok G F v0 v1 w r h)

/-! ZipArray$Unpacker.repeatLength(I)I -/
def m_Unpacker_repeatLength : zM := (⟨R_Unpacker, "repeatLength", "(I)I"⟩, prog_8_method_11_code, 4, (some .int), [], { frames := 1, cells := 0, slots := 0, locals := 23 })
theorem kc_Unpacker_repeatLength : Cond.code (mY m_Unpacker_repeatLength) (mC m_Unpacker_repeatLength) (mL m_Unpacker_repeatLength) (mT m_Unpacker_repeatLength) ∈ zTb := tb_at 506 (by decide +kernel) rfl
theorem y_Unpacker_repeatLength : (mY m_Unpacker_repeatLength).cls ≠ "java/lang/invoke/MethodHandle" ∧ (mY m_Unpacker_repeatLength).cls ≠ "java/lang/invoke/VarHandle" ∧ (parseMethodDescriptor (mY m_Unpacker_repeatLength).desc).map (fun d => d.parameters.length) = some 1 := by decide +kernel
theorem sel_Unpacker_repeatLength : Cond.selects R_Unpacker (mY m_Unpacker_repeatLength) (mY m_Unpacker_repeatLength) ∈ zTb := sel_at (y := mY m_Unpacker_repeatLength) (n := 8) 19 (by decide +kernel)
theorem d_Unpacker_repeatLength_0 : decode (mC m_Unpacker_repeatLength) 0 = .ok (.iload_n 1, 1) := by decide +kernel
theorem d_Unpacker_repeatLength_1 : decode (mC m_Unpacker_repeatLength) 1 = .ok (.sipush 265, 3) := by decide +kernel
theorem d_Unpacker_repeatLength_4 : decode (mC m_Unpacker_repeatLength) 4 = .ok (.if_icmp .ge 9, 3) := by decide +kernel
theorem d_Unpacker_repeatLength_7 : decode (mC m_Unpacker_repeatLength) 7 = .ok (.iload_n 1, 1) := by decide +kernel
theorem d_Unpacker_repeatLength_8 : decode (mC m_Unpacker_repeatLength) 8 = .ok (.sipush 254, 3) := by decide +kernel
theorem d_Unpacker_repeatLength_11 : decode (mC m_Unpacker_repeatLength) 11 = .ok (.isub, 1) := by decide +kernel
theorem d_Unpacker_repeatLength_12 : decode (mC m_Unpacker_repeatLength) 12 = .ok (.ireturn, 1) := by decide +kernel
theorem d_Unpacker_repeatLength_13 : decode (mC m_Unpacker_repeatLength) 13 = .ok (.iload_n 1, 1) := by decide +kernel
theorem d_Unpacker_repeatLength_14 : decode (mC m_Unpacker_repeatLength) 14 = .ok (.sipush 285, 3) := by decide +kernel
theorem d_Unpacker_repeatLength_17 : decode (mC m_Unpacker_repeatLength) 17 = .ok (.if_icmp .lt 18, 3) := by decide +kernel
theorem d_Unpacker_repeatLength_20 : decode (mC m_Unpacker_repeatLength) 20 = .ok (.iload_n 1, 1) := by decide +kernel
theorem d_Unpacker_repeatLength_21 : decode (mC m_Unpacker_repeatLength) 21 = .ok (.sipush 285, 3) := by decide +kernel
theorem d_Unpacker_repeatLength_24 : decode (mC m_Unpacker_repeatLength) 24 = .ok (.if_icmp .ne 9, 3) := by decide +kernel
theorem d_Unpacker_repeatLength_27 : decode (mC m_Unpacker_repeatLength) 27 = .ok (.sipush 258, 3) := by decide +kernel
theorem d_Unpacker_repeatLength_30 : decode (mC m_Unpacker_repeatLength) 30 = .ok (.goto 4, 3) := by decide +kernel
theorem d_Unpacker_repeatLength_33 : decode (mC m_Unpacker_repeatLength) 33 = .ok (.iconst (-1), 1) := by decide +kernel
theorem d_Unpacker_repeatLength_34 : decode (mC m_Unpacker_repeatLength) 34 = .ok (.ireturn, 1) := by decide +kernel
theorem d_Unpacker_repeatLength_35 : decode (mC m_Unpacker_repeatLength) 35 = .ok (.iload_n 1, 1) := by decide +kernel
theorem d_Unpacker_repeatLength_36 : decode (mC m_Unpacker_repeatLength) 36 = .ok (.sipush 261, 3) := by decide +kernel
theorem d_Unpacker_repeatLength_39 : decode (mC m_Unpacker_repeatLength) 39 = .ok (.isub, 1) := by decide +kernel
theorem d_Unpacker_repeatLength_40 : decode (mC m_Unpacker_repeatLength) 40 = .ok (.iconst 4, 1) := by decide +kernel
theorem d_Unpacker_repeatLength_41 : decode (mC m_Unpacker_repeatLength) 41 = .ok (.idiv, 1) := by decide +kernel
theorem d_Unpacker_repeatLength_42 : decode (mC m_Unpacker_repeatLength) 42 = .ok (.istore_n 2, 1) := by decide +kernel
theorem d_Unpacker_repeatLength_43 : decode (mC m_Unpacker_repeatLength) 43 = .ok (.aload_n 0, 1) := by decide +kernel
theorem d_Unpacker_repeatLength_44 : decode (mC m_Unpacker_repeatLength) 44 = .ok (.iload_n 2, 1) := by decide +kernel
theorem d_Unpacker_repeatLength_45 : decode (mC m_Unpacker_repeatLength) 45 = .ok (.invokevirtual 52, 3) := by decide +kernel
theorem d_Unpacker_repeatLength_48 : decode (mC m_Unpacker_repeatLength) 48 = .ok (.istore_n 3, 1) := by decide +kernel
theorem d_Unpacker_repeatLength_49 : decode (mC m_Unpacker_repeatLength) 49 = .ok (.iload_n 3, 1) := by decide +kernel
theorem d_Unpacker_repeatLength_50 : decode (mC m_Unpacker_repeatLength) 50 = .ok (.iconst (-1), 1) := by decide +kernel
theorem d_Unpacker_repeatLength_51 : decode (mC m_Unpacker_repeatLength) 51 = .ok (.if_icmp .ne 7, 3) := by decide +kernel
theorem d_Unpacker_repeatLength_54 : decode (mC m_Unpacker_repeatLength) 54 = .ok (.iconst (-1), 1) := by decide +kernel
theorem d_Unpacker_repeatLength_55 : decode (mC m_Unpacker_repeatLength) 55 = .ok (.goto 18, 3) := by decide +kernel
theorem d_Unpacker_repeatLength_58 : decode (mC m_Unpacker_repeatLength) 58 = .ok (.iconst 4, 1) := by decide +kernel
theorem d_Unpacker_repeatLength_59 : decode (mC m_Unpacker_repeatLength) 59 = .ok (.iload_n 1, 1) := by decide +kernel
theorem d_Unpacker_repeatLength_60 : decode (mC m_Unpacker_repeatLength) 60 = .ok (.sipush 265, 3) := by decide +kernel
theorem d_Unpacker_repeatLength_63 : decode (mC m_Unpacker_repeatLength) 63 = .ok (.isub, 1) := by decide +kernel
theorem d_Unpacker_repeatLength_64 : decode (mC m_Unpacker_repeatLength) 64 = .ok (.iconst 4, 1) := by decide +kernel
theorem d_Unpacker_repeatLength_65 : decode (mC m_Unpacker_repeatLength) 65 = .ok (.irem, 1) := by decide +kernel
theorem d_Unpacker_repeatLength_66 : decode (mC m_Unpacker_repeatLength) 66 = .ok (.iadd, 1) := by decide +kernel
theorem d_Unpacker_repeatLength_67 : decode (mC m_Unpacker_repeatLength) 67 = .ok (.iload_n 2, 1) := by decide +kernel
theorem d_Unpacker_repeatLength_68 : decode (mC m_Unpacker_repeatLength) 68 = .ok (.ishl, 1) := by decide +kernel
theorem d_Unpacker_repeatLength_69 : decode (mC m_Unpacker_repeatLength) 69 = .ok (.iconst 3, 1) := by decide +kernel
theorem d_Unpacker_repeatLength_70 : decode (mC m_Unpacker_repeatLength) 70 = .ok (.iadd, 1) := by decide +kernel
theorem d_Unpacker_repeatLength_71 : decode (mC m_Unpacker_repeatLength) 71 = .ok (.iload_n 3, 1) := by decide +kernel
theorem d_Unpacker_repeatLength_72 : decode (mC m_Unpacker_repeatLength) 72 = .ok (.iadd, 1) := by decide +kernel
theorem d_Unpacker_repeatLength_73 : decode (mC m_Unpacker_repeatLength) 73 = .ok (.ireturn, 1) := by decide +kernel
def b_Unpacker_repeatLength_0 (F : Nat) (v0 : Nat) (v1 : Int32) (w : zW) : Option (Int32 × zW) := if (265 : Int32) ≤ v1 then (if v1 < (285 : Int32) then ((zobj w v0 5).bind fun _ => (f_Unpacker_takeBits F v0 ((v1 - (261 : Int32)) / (4 : Int32)) w).bind fun r45 => if r45.1 = (-1 : Int32) then (some ((-1 : Int32), r45.2)) else (some ((((((4 : Int32) + ((v1 - (265 : Int32)) % (4 : Int32))) <<< (((v1 - (261 : Int32)) / (4 : Int32)) &&& 31)) + (3 : Int32)) + r45.1), r45.2))) else (if v1 = (285 : Int32) then (some ((258 : Int32), w)) else (some ((-1 : Int32), w)))) else (some ((v1 - (254 : Int32)), w))
set_option maxRecDepth 100000 in
set_option maxHeartbeats 4000000 in
theorem b_Unpacker_repeatLength_0_ok (G : zG) (F : Nat) (v0 : Nat) (v1 : Int32) (w : zW) (r : (Int32 × zW)) (h : b_Unpacker_repeatLength_0 F v0 v1 w = some r) : zV G m_Unpacker_repeatLength 0 [(0, .ref (z0 G + v0)), (1, .int v1)] [] w 0 0 (oI r.1) r.2 := by
  unfold b_Unpacker_repeatLength_0 at h
  refine V_iload_n (i := 1) d_Unpacker_repeatLength_0 rfl 1 rfl ?_
  refine V_sipush (v := 265) d_Unpacker_repeatLength_1 (by decide) ?_
  refine V_icmp_ge (tgt := 13) d_Unpacker_repeatLength_4 (by decide) (fun c4 => ?_) (fun c4 => ?_)
  · rw [if_pos c4] at h
    refine V_iload_n (i := 1) d_Unpacker_repeatLength_13 rfl 1 rfl ?_
    refine V_sipush (v := 285) d_Unpacker_repeatLength_14 (by decide) ?_
    refine V_icmp_lt (tgt := 35) d_Unpacker_repeatLength_17 (by decide) (fun c17 => ?_) (fun c17 => ?_)
    · rw [if_pos c17] at h
      refine V_iload_n (i := 1) d_Unpacker_repeatLength_35 rfl 1 rfl ?_
      refine V_sipush (v := 261) d_Unpacker_repeatLength_36 (by decide) ?_
      refine V_isub d_Unpacker_repeatLength_39 ?_
      refine V_iconst (v := 4) d_Unpacker_repeatLength_40 (by decide) ?_
      refine V_idiv (by decide) d_Unpacker_repeatLength_41 ?_
      refine V_istore_n (i := 2) d_Unpacker_repeatLength_42 rfl (by decide) rfl ?_
      refine V_aload_n (i := 0) d_Unpacker_repeatLength_43 rfl 1 rfl ?_
      refine V_iload_n (i := 2) d_Unpacker_repeatLength_44 rfl 0 rfl ?_
      obtain ⟨_, eo45, h⟩ := ob h
      obtain ⟨r45, e45, h⟩ := ob h
      refine V_call (v := some (.int r45.1)) (st := []) (inv_V (N := m_Unpacker_takeBits) (As := [.int ((v1 - (261 : Int32)) / (4 : Int32))]) (ci := 5) d_Unpacker_repeatLength_45 eo45 rfl k472 k474 sel_Unpacker_takeBits kc_Unpacker_takeBits y_Unpacker_takeBits) ⟨Or.inl kc_Unpacker_takeBits, k4, by decide, by decide⟩ (Nat.le_of_ble_eq_true rfl) (by decide) (by decide) (c_Unpacker_takeBits G F v0 ((v1 - (261 : Int32)) / (4 : Int32)) w r45 e45) ?_
      refine V_istore_n (i := 3) d_Unpacker_repeatLength_48 rfl (by decide) rfl ?_
      refine V_iload_n (i := 3) d_Unpacker_repeatLength_49 rfl 0 rfl ?_
      refine V_iconst (v := -1) d_Unpacker_repeatLength_50 (by decide) ?_
      refine V_icmp_ne (tgt := 58) d_Unpacker_repeatLength_51 (by decide) (fun c51 => ?_) (fun c51 => ?_)
      · rw [if_neg c51] at h
        refine V_iconst (v := 4) d_Unpacker_repeatLength_58 (by decide) ?_
        refine V_iload_n (i := 1) d_Unpacker_repeatLength_59 rfl 3 rfl ?_
        refine V_sipush (v := 265) d_Unpacker_repeatLength_60 (by decide) ?_
        refine V_isub d_Unpacker_repeatLength_63 ?_
        refine V_iconst (v := 4) d_Unpacker_repeatLength_64 (by decide) ?_
        refine V_irem (by decide) d_Unpacker_repeatLength_65 ?_
        refine V_iadd d_Unpacker_repeatLength_66 ?_
        refine V_iload_n (i := 2) d_Unpacker_repeatLength_67 rfl 1 rfl ?_
        refine V_ishl d_Unpacker_repeatLength_68 ?_
        refine V_iconst (v := 3) d_Unpacker_repeatLength_69 (by decide) ?_
        refine V_iadd d_Unpacker_repeatLength_70 ?_
        refine V_iload_n (i := 3) d_Unpacker_repeatLength_71 rfl 0 rfl ?_
        refine V_iadd d_Unpacker_repeatLength_72 ?_
        obtain rfl := Option.some.inj h
        exact V_iret rfl (by decide) (by decide) d_Unpacker_repeatLength_73
      · rw [if_pos c51] at h
        refine V_iconst (v := -1) d_Unpacker_repeatLength_54 (by decide) ?_
        refine V_goto (tgt := 73) d_Unpacker_repeatLength_55 (by decide) ?_
        obtain rfl := Option.some.inj h
        exact V_iret rfl (by decide) (by decide) d_Unpacker_repeatLength_73
    · rw [if_neg c17] at h
      refine V_iload_n (i := 1) d_Unpacker_repeatLength_20 rfl 1 rfl ?_
      refine V_sipush (v := 285) d_Unpacker_repeatLength_21 (by decide) ?_
      refine V_icmp_ne (tgt := 33) d_Unpacker_repeatLength_24 (by decide) (fun c24 => ?_) (fun c24 => ?_)
      · rw [if_neg c24] at h
        refine V_iconst (v := -1) d_Unpacker_repeatLength_33 (by decide) ?_
        obtain rfl := Option.some.inj h
        exact V_iret rfl (by decide) (by decide) d_Unpacker_repeatLength_34
      · rw [if_pos c24] at h
        refine V_sipush (v := 258) d_Unpacker_repeatLength_27 (by decide) ?_
        refine V_goto (tgt := 34) d_Unpacker_repeatLength_30 (by decide) ?_
        obtain rfl := Option.some.inj h
        exact V_iret rfl (by decide) (by decide) d_Unpacker_repeatLength_34
  · rw [if_neg c4] at h
    refine V_iload_n (i := 1) d_Unpacker_repeatLength_7 rfl 1 rfl ?_
    refine V_sipush (v := 254) d_Unpacker_repeatLength_8 (by decide) ?_
    refine V_isub d_Unpacker_repeatLength_11 ?_
    obtain rfl := Option.some.inj h
    exact V_iret rfl (by decide) (by decide) d_Unpacker_repeatLength_12
def f_Unpacker_repeatLength (F : Nat) (v0 : Nat) (v1 : Int32) (w : zW) : Option (Int32 × zW) := b_Unpacker_repeatLength_0 F v0 v1 w
theorem c_Unpacker_repeatLength (G : zG) (F : Nat) (v0 : Nat) (v1 : Int32) (w : zW) (r : (Int32 × zW)) (h : f_Unpacker_repeatLength F v0 v1 w = some r) : zCT G m_Unpacker_repeatLength [.ref (z0 G + v0), .int v1] w (oI r.1) r.2 := zCT.ofV (by decide +kernel) (Or.inl ⟨kc_Unpacker_repeatLength, rfl⟩) (Nat.le_of_ble_eq_true rfl) (b_Unpacker_repeatLength_0_ok G F v0 v1 w r h)

/-! ZipArray$Unpacker.repeatDistance()I -/
def m_Unpacker_repeatDistance : zM := (⟨R_Unpacker, "repeatDistance", "()I"⟩, prog_8_method_12_code, 4, (some .int), [], { frames := 1, cells := 0, slots := 0, locals := 26 })
theorem k498 : Cond.methodLink R_Unpacker 99 (mY m_Unpacker_takeSymbol) ∈ zTb := tb_at 498 (by decide +kernel) rfl
theorem k500 : Cond.instanceMethod (mY m_Unpacker_takeSymbol) ∈ zTb := tb_at 500 (by decide +kernel) rfl
theorem kc_Unpacker_repeatDistance : Cond.code (mY m_Unpacker_repeatDistance) (mC m_Unpacker_repeatDistance) (mL m_Unpacker_repeatDistance) (mT m_Unpacker_repeatDistance) ∈ zTb := tb_at 510 (by decide +kernel) rfl
theorem y_Unpacker_repeatDistance : (mY m_Unpacker_repeatDistance).cls ≠ "java/lang/invoke/MethodHandle" ∧ (mY m_Unpacker_repeatDistance).cls ≠ "java/lang/invoke/VarHandle" ∧ (parseMethodDescriptor (mY m_Unpacker_repeatDistance).desc).map (fun d => d.parameters.length) = some 0 := by decide +kernel
theorem sel_Unpacker_repeatDistance : Cond.selects R_Unpacker (mY m_Unpacker_repeatDistance) (mY m_Unpacker_repeatDistance) ∈ zTb := sel_at (y := mY m_Unpacker_repeatDistance) (n := 8) 20 (by decide +kernel)
theorem d_Unpacker_repeatDistance_0 : decode (mC m_Unpacker_repeatDistance) 0 = .ok (.aload_n 0, 1) := by decide +kernel
theorem d_Unpacker_repeatDistance_1 : decode (mC m_Unpacker_repeatDistance) 1 = .ok (.aload_n 0, 1) := by decide +kernel
theorem d_Unpacker_repeatDistance_2 : decode (mC m_Unpacker_repeatDistance) 2 = .ok (.getfield 34, 3) := by decide +kernel
theorem d_Unpacker_repeatDistance_5 : decode (mC m_Unpacker_repeatDistance) 5 = .ok (.invokevirtual 99, 3) := by decide +kernel
theorem d_Unpacker_repeatDistance_8 : decode (mC m_Unpacker_repeatDistance) 8 = .ok (.istore_n 1, 1) := by decide +kernel
theorem d_Unpacker_repeatDistance_9 : decode (mC m_Unpacker_repeatDistance) 9 = .ok (.iload_n 1, 1) := by decide +kernel
theorem d_Unpacker_repeatDistance_10 : decode (mC m_Unpacker_repeatDistance) 10 = .ok (.iconst 4, 1) := by decide +kernel
theorem d_Unpacker_repeatDistance_11 : decode (mC m_Unpacker_repeatDistance) 11 = .ok (.if_icmp .ge 16, 3) := by decide +kernel
theorem d_Unpacker_repeatDistance_14 : decode (mC m_Unpacker_repeatDistance) 14 = .ok (.iload_n 1, 1) := by decide +kernel
theorem d_Unpacker_repeatDistance_15 : decode (mC m_Unpacker_repeatDistance) 15 = .ok (.iconst (-1), 1) := by decide +kernel
theorem d_Unpacker_repeatDistance_16 : decode (mC m_Unpacker_repeatDistance) 16 = .ok (.if_icmp .ne 7, 3) := by decide +kernel
theorem d_Unpacker_repeatDistance_19 : decode (mC m_Unpacker_repeatDistance) 19 = .ok (.iconst (-1), 1) := by decide +kernel
theorem d_Unpacker_repeatDistance_20 : decode (mC m_Unpacker_repeatDistance) 20 = .ok (.goto 6, 3) := by decide +kernel
theorem d_Unpacker_repeatDistance_23 : decode (mC m_Unpacker_repeatDistance) 23 = .ok (.iload_n 1, 1) := by decide +kernel
theorem d_Unpacker_repeatDistance_24 : decode (mC m_Unpacker_repeatDistance) 24 = .ok (.iconst 1, 1) := by decide +kernel
theorem d_Unpacker_repeatDistance_25 : decode (mC m_Unpacker_repeatDistance) 25 = .ok (.iadd, 1) := by decide +kernel
theorem d_Unpacker_repeatDistance_26 : decode (mC m_Unpacker_repeatDistance) 26 = .ok (.ireturn, 1) := by decide +kernel
theorem d_Unpacker_repeatDistance_27 : decode (mC m_Unpacker_repeatDistance) 27 = .ok (.iload_n 1, 1) := by decide +kernel
theorem d_Unpacker_repeatDistance_28 : decode (mC m_Unpacker_repeatDistance) 28 = .ok (.bipush 30, 2) := by decide +kernel
theorem d_Unpacker_repeatDistance_30 : decode (mC m_Unpacker_repeatDistance) 30 = .ok (.if_icmp .lt 5, 3) := by decide +kernel
theorem d_Unpacker_repeatDistance_33 : decode (mC m_Unpacker_repeatDistance) 33 = .ok (.iconst (-1), 1) := by decide +kernel
theorem d_Unpacker_repeatDistance_34 : decode (mC m_Unpacker_repeatDistance) 34 = .ok (.ireturn, 1) := by decide +kernel
theorem d_Unpacker_repeatDistance_35 : decode (mC m_Unpacker_repeatDistance) 35 = .ok (.iload_n 1, 1) := by decide +kernel
theorem d_Unpacker_repeatDistance_36 : decode (mC m_Unpacker_repeatDistance) 36 = .ok (.iconst 2, 1) := by decide +kernel
theorem d_Unpacker_repeatDistance_37 : decode (mC m_Unpacker_repeatDistance) 37 = .ok (.isub, 1) := by decide +kernel
theorem d_Unpacker_repeatDistance_38 : decode (mC m_Unpacker_repeatDistance) 38 = .ok (.iconst 2, 1) := by decide +kernel
theorem d_Unpacker_repeatDistance_39 : decode (mC m_Unpacker_repeatDistance) 39 = .ok (.idiv, 1) := by decide +kernel
theorem d_Unpacker_repeatDistance_40 : decode (mC m_Unpacker_repeatDistance) 40 = .ok (.istore_n 2, 1) := by decide +kernel
theorem d_Unpacker_repeatDistance_41 : decode (mC m_Unpacker_repeatDistance) 41 = .ok (.aload_n 0, 1) := by decide +kernel
theorem d_Unpacker_repeatDistance_42 : decode (mC m_Unpacker_repeatDistance) 42 = .ok (.iload_n 2, 1) := by decide +kernel
theorem d_Unpacker_repeatDistance_43 : decode (mC m_Unpacker_repeatDistance) 43 = .ok (.invokevirtual 52, 3) := by decide +kernel
theorem d_Unpacker_repeatDistance_46 : decode (mC m_Unpacker_repeatDistance) 46 = .ok (.istore_n 3, 1) := by decide +kernel
theorem d_Unpacker_repeatDistance_47 : decode (mC m_Unpacker_repeatDistance) 47 = .ok (.iload_n 3, 1) := by decide +kernel
theorem d_Unpacker_repeatDistance_48 : decode (mC m_Unpacker_repeatDistance) 48 = .ok (.iconst (-1), 1) := by decide +kernel
theorem d_Unpacker_repeatDistance_49 : decode (mC m_Unpacker_repeatDistance) 49 = .ok (.if_icmp .ne 7, 3) := by decide +kernel
theorem d_Unpacker_repeatDistance_52 : decode (mC m_Unpacker_repeatDistance) 52 = .ok (.iconst (-1), 1) := by decide +kernel
theorem d_Unpacker_repeatDistance_53 : decode (mC m_Unpacker_repeatDistance) 53 = .ok (.goto 14, 3) := by decide +kernel
theorem d_Unpacker_repeatDistance_56 : decode (mC m_Unpacker_repeatDistance) 56 = .ok (.iconst 2, 1) := by decide +kernel
theorem d_Unpacker_repeatDistance_57 : decode (mC m_Unpacker_repeatDistance) 57 = .ok (.iload_n 1, 1) := by decide +kernel
theorem d_Unpacker_repeatDistance_58 : decode (mC m_Unpacker_repeatDistance) 58 = .ok (.iconst 2, 1) := by decide +kernel
theorem d_Unpacker_repeatDistance_59 : decode (mC m_Unpacker_repeatDistance) 59 = .ok (.irem, 1) := by decide +kernel
theorem d_Unpacker_repeatDistance_60 : decode (mC m_Unpacker_repeatDistance) 60 = .ok (.iadd, 1) := by decide +kernel
theorem d_Unpacker_repeatDistance_61 : decode (mC m_Unpacker_repeatDistance) 61 = .ok (.iload_n 2, 1) := by decide +kernel
theorem d_Unpacker_repeatDistance_62 : decode (mC m_Unpacker_repeatDistance) 62 = .ok (.ishl, 1) := by decide +kernel
theorem d_Unpacker_repeatDistance_63 : decode (mC m_Unpacker_repeatDistance) 63 = .ok (.iconst 1, 1) := by decide +kernel
theorem d_Unpacker_repeatDistance_64 : decode (mC m_Unpacker_repeatDistance) 64 = .ok (.iadd, 1) := by decide +kernel
theorem d_Unpacker_repeatDistance_65 : decode (mC m_Unpacker_repeatDistance) 65 = .ok (.iload_n 3, 1) := by decide +kernel
theorem d_Unpacker_repeatDistance_66 : decode (mC m_Unpacker_repeatDistance) 66 = .ok (.iadd, 1) := by decide +kernel
theorem d_Unpacker_repeatDistance_67 : decode (mC m_Unpacker_repeatDistance) 67 = .ok (.ireturn, 1) := by decide +kernel
def b_Unpacker_repeatDistance_0 (F : Nat) (v0 : Nat) (w : zW) : Option (Int32 × zW) := (getR w v0 5 3).bind fun x2 => (zobj w v0 5).bind fun _ => (f_Unpacker_takeSymbol F v0 x2 w).bind fun r5 => if (4 : Int32) ≤ r5.1 then (if r5.1 < (30 : Int32) then ((zobj r5.2 v0 5).bind fun _ => (f_Unpacker_takeBits F v0 ((r5.1 - (2 : Int32)) / (2 : Int32)) r5.2).bind fun r43 => if r43.1 = (-1 : Int32) then (some ((-1 : Int32), r43.2)) else (some ((((((2 : Int32) + (r5.1 % (2 : Int32))) <<< (((r5.1 - (2 : Int32)) / (2 : Int32)) &&& 31)) + (1 : Int32)) + r43.1), r43.2))) else (some ((-1 : Int32), r5.2))) else (if r5.1 = (-1 : Int32) then (some ((-1 : Int32), r5.2)) else (some ((r5.1 + (1 : Int32)), r5.2)))
set_option maxRecDepth 100000 in
set_option maxHeartbeats 4000000 in
theorem b_Unpacker_repeatDistance_0_ok (G : zG) (F : Nat) (v0 : Nat) (w : zW) (r : (Int32 × zW)) (h : b_Unpacker_repeatDistance_0 F v0 w = some r) : zV G m_Unpacker_repeatDistance 0 [(0, .ref (z0 G + v0))] [] w 0 0 (oI r.1) r.2 := by
  unfold b_Unpacker_repeatDistance_0 at h
  refine V_aload_n (i := 0) d_Unpacker_repeatDistance_0 rfl 0 rfl ?_
  refine V_aload_n (i := 0) d_Unpacker_repeatDistance_1 rfl 0 rfl ?_
  obtain ⟨x2, e2, h⟩ := ob h
  refine V_getR (ci := 5) (k := 3) d_Unpacker_repeatDistance_2 e2 rfl (by decide) in_Unpacker k109 ?_
  obtain ⟨_, eo5, h⟩ := ob h
  obtain ⟨r5, e5, h⟩ := ob h
  refine V_call (v := some (.int r5.1)) (st := []) (inv_V (N := m_Unpacker_takeSymbol) (As := [.ref (z0 G + x2)]) (ci := 5) d_Unpacker_repeatDistance_5 eo5 rfl k498 k500 sel_Unpacker_takeSymbol kc_Unpacker_takeSymbol y_Unpacker_takeSymbol) ⟨Or.inl kc_Unpacker_takeSymbol, k4, by decide, by decide⟩ (Nat.le_of_ble_eq_true rfl) (by decide) (by decide) (c_Unpacker_takeSymbol G F v0 x2 w r5 e5) ?_
  refine V_istore_n (i := 1) d_Unpacker_repeatDistance_8 rfl (by decide) rfl ?_
  refine V_iload_n (i := 1) d_Unpacker_repeatDistance_9 rfl 0 rfl ?_
  refine V_iconst (v := 4) d_Unpacker_repeatDistance_10 (by decide) ?_
  refine V_icmp_ge (tgt := 27) d_Unpacker_repeatDistance_11 (by decide) (fun c11 => ?_) (fun c11 => ?_)
  · rw [if_pos c11] at h
    refine V_iload_n (i := 1) d_Unpacker_repeatDistance_27 rfl 0 rfl ?_
    refine V_bipush (v := 30) d_Unpacker_repeatDistance_28 (by decide) ?_
    refine V_icmp_lt (tgt := 35) d_Unpacker_repeatDistance_30 (by decide) (fun c30 => ?_) (fun c30 => ?_)
    · rw [if_pos c30] at h
      refine V_iload_n (i := 1) d_Unpacker_repeatDistance_35 rfl 0 rfl ?_
      refine V_iconst (v := 2) d_Unpacker_repeatDistance_36 (by decide) ?_
      refine V_isub d_Unpacker_repeatDistance_37 ?_
      refine V_iconst (v := 2) d_Unpacker_repeatDistance_38 (by decide) ?_
      refine V_idiv (by decide) d_Unpacker_repeatDistance_39 ?_
      refine V_istore_n (i := 2) d_Unpacker_repeatDistance_40 rfl (by decide) rfl ?_
      refine V_aload_n (i := 0) d_Unpacker_repeatDistance_41 rfl 2 rfl ?_
      refine V_iload_n (i := 2) d_Unpacker_repeatDistance_42 rfl 0 rfl ?_
      obtain ⟨_, eo43, h⟩ := ob h
      obtain ⟨r43, e43, h⟩ := ob h
      refine V_call (v := some (.int r43.1)) (st := []) (inv_V (N := m_Unpacker_takeBits) (As := [.int ((r5.1 - (2 : Int32)) / (2 : Int32))]) (ci := 5) d_Unpacker_repeatDistance_43 eo43 rfl k472 k474 sel_Unpacker_takeBits kc_Unpacker_takeBits y_Unpacker_takeBits) ⟨Or.inl kc_Unpacker_takeBits, k4, by decide, by decide⟩ (Nat.le_of_ble_eq_true rfl) (by decide) (by decide) (c_Unpacker_takeBits G F v0 ((r5.1 - (2 : Int32)) / (2 : Int32)) r5.2 r43 e43) ?_
      refine V_istore_n (i := 3) d_Unpacker_repeatDistance_46 rfl (by decide) rfl ?_
      refine V_iload_n (i := 3) d_Unpacker_repeatDistance_47 rfl 0 rfl ?_
      refine V_iconst (v := -1) d_Unpacker_repeatDistance_48 (by decide) ?_
      refine V_icmp_ne (tgt := 56) d_Unpacker_repeatDistance_49 (by decide) (fun c49 => ?_) (fun c49 => ?_)
      · rw [if_neg c49] at h
        refine V_iconst (v := 2) d_Unpacker_repeatDistance_56 (by decide) ?_
        refine V_iload_n (i := 1) d_Unpacker_repeatDistance_57 rfl 2 rfl ?_
        refine V_iconst (v := 2) d_Unpacker_repeatDistance_58 (by decide) ?_
        refine V_irem (by decide) d_Unpacker_repeatDistance_59 ?_
        refine V_iadd d_Unpacker_repeatDistance_60 ?_
        refine V_iload_n (i := 2) d_Unpacker_repeatDistance_61 rfl 1 rfl ?_
        refine V_ishl d_Unpacker_repeatDistance_62 ?_
        refine V_iconst (v := 1) d_Unpacker_repeatDistance_63 (by decide) ?_
        refine V_iadd d_Unpacker_repeatDistance_64 ?_
        refine V_iload_n (i := 3) d_Unpacker_repeatDistance_65 rfl 0 rfl ?_
        refine V_iadd d_Unpacker_repeatDistance_66 ?_
        obtain rfl := Option.some.inj h
        exact V_iret rfl (by decide) (by decide) d_Unpacker_repeatDistance_67
      · rw [if_pos c49] at h
        refine V_iconst (v := -1) d_Unpacker_repeatDistance_52 (by decide) ?_
        refine V_goto (tgt := 67) d_Unpacker_repeatDistance_53 (by decide) ?_
        obtain rfl := Option.some.inj h
        exact V_iret rfl (by decide) (by decide) d_Unpacker_repeatDistance_67
    · rw [if_neg c30] at h
      refine V_iconst (v := -1) d_Unpacker_repeatDistance_33 (by decide) ?_
      obtain rfl := Option.some.inj h
      exact V_iret rfl (by decide) (by decide) d_Unpacker_repeatDistance_34
  · rw [if_neg c11] at h
    refine V_iload_n (i := 1) d_Unpacker_repeatDistance_14 rfl 0 rfl ?_
    refine V_iconst (v := -1) d_Unpacker_repeatDistance_15 (by decide) ?_
    refine V_icmp_ne (tgt := 23) d_Unpacker_repeatDistance_16 (by decide) (fun c16 => ?_) (fun c16 => ?_)
    · rw [if_neg c16] at h
      refine V_iload_n (i := 1) d_Unpacker_repeatDistance_23 rfl 0 rfl ?_
      refine V_iconst (v := 1) d_Unpacker_repeatDistance_24 (by decide) ?_
      refine V_iadd d_Unpacker_repeatDistance_25 ?_
      obtain rfl := Option.some.inj h
      exact V_iret rfl (by decide) (by decide) d_Unpacker_repeatDistance_26
    · rw [if_pos c16] at h
      refine V_iconst (v := -1) d_Unpacker_repeatDistance_19 (by decide) ?_
      refine V_goto (tgt := 26) d_Unpacker_repeatDistance_20 (by decide) ?_
      obtain rfl := Option.some.inj h
      exact V_iret rfl (by decide) (by decide) d_Unpacker_repeatDistance_26
def f_Unpacker_repeatDistance (F : Nat) (v0 : Nat) (w : zW) : Option (Int32 × zW) := b_Unpacker_repeatDistance_0 F v0 w
theorem c_Unpacker_repeatDistance (G : zG) (F : Nat) (v0 : Nat) (w : zW) (r : (Int32 × zW)) (h : f_Unpacker_repeatDistance F v0 w = some r) : zCT G m_Unpacker_repeatDistance [.ref (z0 G + v0)] w (oI r.1) r.2 := zCT.ofV (by decide +kernel) (Or.inl ⟨kc_Unpacker_repeatDistance, rfl⟩) (Nat.le_of_ble_eq_true rfl) (b_Unpacker_repeatDistance_0_ok G F v0 w r h)

/-! ZipArray$Unpacker.repeat(II)Z -/
def m_Unpacker_repeat : zM := (⟨R_Unpacker, "repeat", "(II)Z"⟩, prog_8_method_13_code, 4, (some .boolean), [], { frames := 1, cells := 0, slots := 0, locals := 21 })
theorem k46 : Cond.fieldLink R_Unpacker 116 (T_Row 1).1 (T_Row 1).2.1 (T_Row 1).2.2.1 ∈ zTb := tb_at 46 (by decide +kernel) rfl
theorem k502 : Cond.methodLink R_Unpacker 103 (mY m_Row_append) ∈ zTb := tb_at 502 (by decide +kernel) rfl
theorem k515 : Cond.methodLink R_Unpacker 119 (mY m_Row_hasRoom) ∈ zTb := tb_at 515 (by decide +kernel) rfl
theorem kc_Unpacker_repeat : Cond.code (mY m_Unpacker_repeat) (mC m_Unpacker_repeat) (mL m_Unpacker_repeat) (mT m_Unpacker_repeat) ∈ zTb := tb_at 514 (by decide +kernel) rfl
theorem y_Unpacker_repeat : (mY m_Unpacker_repeat).cls ≠ "java/lang/invoke/MethodHandle" ∧ (mY m_Unpacker_repeat).cls ≠ "java/lang/invoke/VarHandle" ∧ (parseMethodDescriptor (mY m_Unpacker_repeat).desc).map (fun d => d.parameters.length) = some 2 := by decide +kernel
theorem sel_Unpacker_repeat : Cond.selects R_Unpacker (mY m_Unpacker_repeat) (mY m_Unpacker_repeat) ∈ zTb := sel_at (y := mY m_Unpacker_repeat) (n := 8) 21 (by decide +kernel)
theorem d_Unpacker_repeat_0 : decode (mC m_Unpacker_repeat) 0 = .ok (.iload_n 2, 1) := by decide +kernel
theorem d_Unpacker_repeat_1 : decode (mC m_Unpacker_repeat) 1 = .ok (.iconst (-1), 1) := by decide +kernel
theorem d_Unpacker_repeat_2 : decode (mC m_Unpacker_repeat) 2 = .ok (.if_icmp .eq 25, 3) := by decide +kernel
theorem d_Unpacker_repeat_5 : decode (mC m_Unpacker_repeat) 5 = .ok (.iload_n 2, 1) := by decide +kernel
theorem d_Unpacker_repeat_6 : decode (mC m_Unpacker_repeat) 6 = .ok (.aload_n 0, 1) := by decide +kernel
theorem d_Unpacker_repeat_7 : decode (mC m_Unpacker_repeat) 7 = .ok (.getfield 9, 3) := by decide +kernel
theorem d_Unpacker_repeat_10 : decode (mC m_Unpacker_repeat) 10 = .ok (.getfield 116, 3) := by decide +kernel
theorem d_Unpacker_repeat_13 : decode (mC m_Unpacker_repeat) 13 = .ok (.if_icmp .gt 14, 3) := by decide +kernel
theorem d_Unpacker_repeat_16 : decode (mC m_Unpacker_repeat) 16 = .ok (.aload_n 0, 1) := by decide +kernel
theorem d_Unpacker_repeat_17 : decode (mC m_Unpacker_repeat) 17 = .ok (.getfield 9, 3) := by decide +kernel
theorem d_Unpacker_repeat_20 : decode (mC m_Unpacker_repeat) 20 = .ok (.iload_n 1, 1) := by decide +kernel
theorem d_Unpacker_repeat_21 : decode (mC m_Unpacker_repeat) 21 = .ok (.invokevirtual 119, 3) := by decide +kernel
theorem d_Unpacker_repeat_24 : decode (mC m_Unpacker_repeat) 24 = .ok (.ifCond .ne 5, 3) := by decide +kernel
theorem d_Unpacker_repeat_27 : decode (mC m_Unpacker_repeat) 27 = .ok (.iconst 0, 1) := by decide +kernel
theorem d_Unpacker_repeat_28 : decode (mC m_Unpacker_repeat) 28 = .ok (.ireturn, 1) := by decide +kernel
theorem d_Unpacker_repeat_29 : decode (mC m_Unpacker_repeat) 29 = .ok (.iconst 0, 1) := by decide +kernel
theorem d_Unpacker_repeat_30 : decode (mC m_Unpacker_repeat) 30 = .ok (.istore_n 3, 1) := by decide +kernel
theorem d_Unpacker_repeat_31 : decode (mC m_Unpacker_repeat) 31 = .ok (.iload_n 3, 1) := by decide +kernel
theorem d_Unpacker_repeat_32 : decode (mC m_Unpacker_repeat) 32 = .ok (.iload_n 1, 1) := by decide +kernel
theorem d_Unpacker_repeat_33 : decode (mC m_Unpacker_repeat) 33 = .ok (.if_icmp .ge 33, 3) := by decide +kernel
theorem d_Unpacker_repeat_36 : decode (mC m_Unpacker_repeat) 36 = .ok (.aload_n 0, 1) := by decide +kernel
theorem d_Unpacker_repeat_37 : decode (mC m_Unpacker_repeat) 37 = .ok (.getfield 9, 3) := by decide +kernel
theorem d_Unpacker_repeat_40 : decode (mC m_Unpacker_repeat) 40 = .ok (.aload_n 0, 1) := by decide +kernel
theorem d_Unpacker_repeat_41 : decode (mC m_Unpacker_repeat) 41 = .ok (.getfield 9, 3) := by decide +kernel
theorem d_Unpacker_repeat_44 : decode (mC m_Unpacker_repeat) 44 = .ok (.getfield 69, 3) := by decide +kernel
theorem d_Unpacker_repeat_47 : decode (mC m_Unpacker_repeat) 47 = .ok (.aload_n 0, 1) := by decide +kernel
theorem d_Unpacker_repeat_48 : decode (mC m_Unpacker_repeat) 48 = .ok (.getfield 9, 3) := by decide +kernel
theorem d_Unpacker_repeat_51 : decode (mC m_Unpacker_repeat) 51 = .ok (.getfield 116, 3) := by decide +kernel
theorem d_Unpacker_repeat_54 : decode (mC m_Unpacker_repeat) 54 = .ok (.iload_n 2, 1) := by decide +kernel
theorem d_Unpacker_repeat_55 : decode (mC m_Unpacker_repeat) 55 = .ok (.isub, 1) := by decide +kernel
theorem d_Unpacker_repeat_56 : decode (mC m_Unpacker_repeat) 56 = .ok (.iaload, 1) := by decide +kernel
theorem d_Unpacker_repeat_57 : decode (mC m_Unpacker_repeat) 57 = .ok (.invokevirtual 103, 3) := by decide +kernel
theorem d_Unpacker_repeat_60 : decode (mC m_Unpacker_repeat) 60 = .ok (.iinc 3 1, 3) := by decide +kernel
theorem d_Unpacker_repeat_63 : decode (mC m_Unpacker_repeat) 63 = .ok (.goto (-32), 3) := by decide +kernel
theorem d_Unpacker_repeat_66 : decode (mC m_Unpacker_repeat) 66 = .ok (.iconst 1, 1) := by decide +kernel
theorem d_Unpacker_repeat_67 : decode (mC m_Unpacker_repeat) 67 = .ok (.ireturn, 1) := by decide +kernel
def b_Unpacker_repeat_31 (F : Nat) (K31 : Nat → Int32 → Int32 → Int32 → zW → Option (Int32 × zW)) (v0 : Nat) (v1 : Int32) (v2 : Int32) (v3 : Int32) (w : zW) : Option (Int32 × zW) := if v1 ≤ v3 then (some ((1 : Int32), w)) else ((getR w v0 5 0).bind fun x37 => (getR w v0 5 0).bind fun x41 => (getR w x41 0 0).bind fun x44 => (getR w v0 5 0).bind fun x48 => (getI w x48 0 1).bind fun x51 => (aget w x44 (x51 - v2)).bind fun x56 => (zobj w x37 0).bind fun _ => (f_Row_append F x37 x56 w).bind fun r57 => K31 v0 v1 v2 (v3 + (1 : Int32)) r57.2)
set_option maxRecDepth 100000 in
set_option maxHeartbeats 4000000 in
theorem b_Unpacker_repeat_31_ok (G : zG) (F : Nat) (K31 : Nat → Int32 → Int32 → Int32 → zW → Option (Int32 × zW)) (hK31 : ∀ (v0 : Nat) (v1 : Int32) (v2 : Int32) (v3 : Int32) (w : zW) (r : (Int32 × zW)), K31 v0 v1 v2 v3 w = some r → zV G m_Unpacker_repeat 31 [(0, .ref (z0 G + v0)), (1, .int v1), (2, .int v2), (3, .int v3)] [] w 0 0 (oI r.1) r.2) (v0 : Nat) (v1 : Int32) (v2 : Int32) (v3 : Int32) (w : zW) (r : (Int32 × zW)) (h : b_Unpacker_repeat_31 F K31 v0 v1 v2 v3 w = some r) : zV G m_Unpacker_repeat 31 [(0, .ref (z0 G + v0)), (1, .int v1), (2, .int v2), (3, .int v3)] [] w 0 0 (oI r.1) r.2 := by
  unfold b_Unpacker_repeat_31 at h
  refine V_iload_n (i := 3) d_Unpacker_repeat_31 rfl 3 rfl ?_
  refine V_iload_n (i := 1) d_Unpacker_repeat_32 rfl 1 rfl ?_
  refine V_icmp_ge (tgt := 66) d_Unpacker_repeat_33 (by decide) (fun c33 => ?_) (fun c33 => ?_)
  · rw [if_pos c33] at h
    refine V_iconst (v := 1) d_Unpacker_repeat_66 (by decide) ?_
    obtain rfl := Option.some.inj h
    exact V_zret rfl (Or.inr rfl) (by decide) (by decide) d_Unpacker_repeat_67
  · rw [if_neg c33] at h
    refine V_aload_n (i := 0) d_Unpacker_repeat_36 rfl 0 rfl ?_
    obtain ⟨x37, e37, h⟩ := ob h
    refine V_getR (ci := 5) (k := 0) d_Unpacker_repeat_37 e37 rfl (by decide) in_Unpacker k106 ?_
    refine V_aload_n (i := 0) d_Unpacker_repeat_40 rfl 0 rfl ?_
    obtain ⟨x41, e41, h⟩ := ob h
    refine V_getR (ci := 5) (k := 0) d_Unpacker_repeat_41 e41 rfl (by decide) in_Unpacker k106 ?_
    obtain ⟨x44, e44, h⟩ := ob h
    refine V_getR (ci := 0) (k := 0) d_Unpacker_repeat_44 e44 rfl (by decide) in_Row k37 ?_
    refine V_aload_n (i := 0) d_Unpacker_repeat_47 rfl 0 rfl ?_
    obtain ⟨x48, e48, h⟩ := ob h
    refine V_getR (ci := 5) (k := 0) d_Unpacker_repeat_48 e48 rfl (by decide) in_Unpacker k106 ?_
    obtain ⟨x51, e51, h⟩ := ob h
    refine V_getI (ci := 0) (k := 1) d_Unpacker_repeat_51 e51 rfl (by decide) in_Row k46 ?_
    refine V_iload_n (i := 2) d_Unpacker_repeat_54 rfl 2 rfl ?_
    refine V_isub d_Unpacker_repeat_55 ?_
    obtain ⟨x56, e56, h⟩ := ob h
    refine V_aget d_Unpacker_repeat_56 e56 ?_
    obtain ⟨_, eo57, h⟩ := ob h
    obtain ⟨r57, e57, h⟩ := ob h
    refine V_call (v := none) (st := []) (inv_V (N := m_Row_append) (As := [.int x56]) (ci := 0) d_Unpacker_repeat_57 eo57 rfl k502 k338 k339 kc_Row_append y_Row_append) ⟨Or.inl kc_Row_append, k2, by decide, by decide⟩ (Nat.le_of_ble_eq_true rfl) (by decide) (by decide) (c_Row_append G F x37 x56 w r57 e57) ?_
    refine V_iinc (i := 3) (v := (v3 + (1 : Int32))) d_Unpacker_repeat_60 3 rfl (congrArg (fun y => v3 + y) (by decide : Int32.ofInt (1) = (1 : Int32))) (by decide) rfl ?_
    refine V_goto (tgt := 31) d_Unpacker_repeat_63 (by decide) ?_
    refine V_lv [1, 2, 3, 0] rfl ?_
    exact hK31 v0 v1 v2 (v3 + (1 : Int32)) r57.2 _ h
def l_Unpacker_repeat_31 (F : Nat) : Nat → Nat → Int32 → Int32 → Int32 → zW → Option (Int32 × zW)
  | 0 => fun _ _ _ _ _ => none
  | n + 1 => b_Unpacker_repeat_31 F (l_Unpacker_repeat_31 F n)
theorem l_Unpacker_repeat_31_ok (G : zG) (F : Nat) (n : Nat) :  ∀ (v0 : Nat) (v1 : Int32) (v2 : Int32) (v3 : Int32) (w : zW) (r : (Int32 × zW)), l_Unpacker_repeat_31 F n v0 v1 v2 v3 w = some r → zV G m_Unpacker_repeat 31 [(0, .ref (z0 G + v0)), (1, .int v1), (2, .int v2), (3, .int v3)] [] w 0 0 (oI r.1) r.2 := by
  induction n with
  | zero => intro v0 v1 v2 v3 w r h; exact nomatch (show (none : Option (Int32 × zW)) = some r from h)
  | succ n ih => intro v0 v1 v2 v3 w r h; exact b_Unpacker_repeat_31_ok G F (l_Unpacker_repeat_31 F n) ih v0 v1 v2 v3 w r h
def b_Unpacker_repeat_27 (F : Nat) (w : zW) : Option (Int32 × zW) := some ((0 : Int32), w)
set_option maxRecDepth 100000 in
set_option maxHeartbeats 4000000 in
theorem b_Unpacker_repeat_27_ok (G : zG) (F : Nat) (w : zW) (r : (Int32 × zW)) (h : b_Unpacker_repeat_27 F w = some r) : zV G m_Unpacker_repeat 27 [] [] w 0 0 (oI r.1) r.2 := by
  unfold b_Unpacker_repeat_27 at h
  refine V_iconst (v := 0) d_Unpacker_repeat_27 (by decide) ?_
  obtain rfl := Option.some.inj h
  exact V_zret rfl (Or.inl rfl) (by decide) (by decide) d_Unpacker_repeat_28
def b_Unpacker_repeat_0 (F : Nat) (v0 : Nat) (v1 : Int32) (v2 : Int32) (w : zW) : Option (Int32 × zW) := if v2 = (-1 : Int32) then (b_Unpacker_repeat_27 F w) else ((getR w v0 5 0).bind fun x7 => (getI w x7 0 1).bind fun x10 => if x10 < v2 then (b_Unpacker_repeat_27 F w) else ((getR w v0 5 0).bind fun x17 => (zobj w x17 0).bind fun _ => (f_Row_hasRoom F x17 v1 w).bind fun r21 => if r21.1 = 0 then (b_Unpacker_repeat_27 F r21.2) else (l_Unpacker_repeat_31 F F v0 v1 v2 (0 : Int32) r21.2)))
set_option maxRecDepth 100000 in
set_option maxHeartbeats 4000000 in
theorem b_Unpacker_repeat_0_ok (G : zG) (F : Nat) (v0 : Nat) (v1 : Int32) (v2 : Int32) (w : zW) (r : (Int32 × zW)) (h : b_Unpacker_repeat_0 F v0 v1 v2 w = some r) : zV G m_Unpacker_repeat 0 [(0, .ref (z0 G + v0)), (1, .int v1), (2, .int v2)] [] w 0 0 (oI r.1) r.2 := by
  unfold b_Unpacker_repeat_0 at h
  refine V_iload_n (i := 2) d_Unpacker_repeat_0 rfl 2 rfl ?_
  refine V_iconst (v := -1) d_Unpacker_repeat_1 (by decide) ?_
  refine V_icmp_eq (tgt := 27) d_Unpacker_repeat_2 (by decide) (fun c2 => ?_) (fun c2 => ?_)
  · rw [if_pos c2] at h
    refine V_lv [] rfl ?_
    exact b_Unpacker_repeat_27_ok G F w _ h
  · rw [if_neg c2] at h
    refine V_iload_n (i := 2) d_Unpacker_repeat_5 rfl 2 rfl ?_
    refine V_aload_n (i := 0) d_Unpacker_repeat_6 rfl 0 rfl ?_
    obtain ⟨x7, e7, h⟩ := ob h
    refine V_getR (ci := 5) (k := 0) d_Unpacker_repeat_7 e7 rfl (by decide) in_Unpacker k106 ?_
    obtain ⟨x10, e10, h⟩ := ob h
    refine V_getI (ci := 0) (k := 1) d_Unpacker_repeat_10 e10 rfl (by decide) in_Row k46 ?_
    refine V_icmp_gt (tgt := 27) d_Unpacker_repeat_13 (by decide) (fun c13 => ?_) (fun c13 => ?_)
    · rw [if_pos c13] at h
      refine V_lv [] rfl ?_
      exact b_Unpacker_repeat_27_ok G F w _ h
    · rw [if_neg c13] at h
      refine V_aload_n (i := 0) d_Unpacker_repeat_16 rfl 0 rfl ?_
      obtain ⟨x17, e17, h⟩ := ob h
      refine V_getR (ci := 5) (k := 0) d_Unpacker_repeat_17 e17 rfl (by decide) in_Unpacker k106 ?_
      refine V_iload_n (i := 1) d_Unpacker_repeat_20 rfl 1 rfl ?_
      obtain ⟨_, eo21, h⟩ := ob h
      obtain ⟨r21, e21, h⟩ := ob h
      refine V_call (v := some (.int r21.1)) (st := []) (inv_V (N := m_Row_hasRoom) (As := [.int v1]) (ci := 0) d_Unpacker_repeat_21 eo21 rfl k515 k318 k319 kc_Row_hasRoom y_Row_hasRoom) ⟨Or.inl kc_Row_hasRoom, k2, by decide, by decide⟩ (Nat.le_of_ble_eq_true rfl) (by decide) (by decide) (c_Row_hasRoom G F x17 v1 w r21 e21) ?_
      refine V_if_ne (tgt := 29) d_Unpacker_repeat_24 (by decide) (fun c24 => ?_) (fun c24 => ?_)
      · rw [if_neg c24] at h
        refine V_iconst (v := 0) d_Unpacker_repeat_29 (by decide) ?_
        refine V_istore_n (i := 3) d_Unpacker_repeat_30 rfl (by decide) rfl ?_
        refine V_lv [1, 2, 3, 0] rfl ?_
        exact l_Unpacker_repeat_31_ok G F F v0 v1 v2 (0 : Int32) r21.2 _ h
      · rw [if_pos c24] at h
        refine V_lv [] rfl ?_
        exact b_Unpacker_repeat_27_ok G F r21.2 _ h
def f_Unpacker_repeat (F : Nat) (v0 : Nat) (v1 : Int32) (v2 : Int32) (w : zW) : Option (Int32 × zW) := b_Unpacker_repeat_0 F v0 v1 v2 w
theorem c_Unpacker_repeat (G : zG) (F : Nat) (v0 : Nat) (v1 : Int32) (v2 : Int32) (w : zW) (r : (Int32 × zW)) (h : f_Unpacker_repeat F v0 v1 v2 w = some r) : zCT G m_Unpacker_repeat [.ref (z0 G + v0), .int v1, .int v2] w (oI r.1) r.2 := zCT.ofV (by decide +kernel) (Or.inl ⟨kc_Unpacker_repeat, rfl⟩) (Nat.le_of_ble_eq_true rfl) (b_Unpacker_repeat_0_ok G F v0 v1 v2 w r h)

/-! ZipArray$Unpacker.codedBlock()Z -/
def m_Unpacker_codedBlock : zM := (⟨R_Unpacker, "codedBlock", "()Z"⟩, prog_8_method_10_code, 4, (some .boolean), [], { frames := 2, cells := 0, slots := 0, locals := 49 })
theorem k503 : Cond.methodLink R_Unpacker 106 (mY m_Unpacker_repeatLength) ∈ zTb := tb_at 503 (by decide +kernel) rfl
theorem k505 : Cond.instanceMethod (mY m_Unpacker_repeatLength) ∈ zTb := tb_at 505 (by decide +kernel) rfl
theorem k507 : Cond.methodLink R_Unpacker 109 (mY m_Unpacker_repeatDistance) ∈ zTb := tb_at 507 (by decide +kernel) rfl
theorem k509 : Cond.instanceMethod (mY m_Unpacker_repeatDistance) ∈ zTb := tb_at 509 (by decide +kernel) rfl
theorem k511 : Cond.methodLink R_Unpacker 113 (mY m_Unpacker_repeat) ∈ zTb := tb_at 511 (by decide +kernel) rfl
theorem k513 : Cond.instanceMethod (mY m_Unpacker_repeat) ∈ zTb := tb_at 513 (by decide +kernel) rfl
theorem kc_Unpacker_codedBlock : Cond.code (mY m_Unpacker_codedBlock) (mC m_Unpacker_codedBlock) (mL m_Unpacker_codedBlock) (mT m_Unpacker_codedBlock) ∈ zTb := tb_at 497 (by decide +kernel) rfl
theorem y_Unpacker_codedBlock : (mY m_Unpacker_codedBlock).cls ≠ "java/lang/invoke/MethodHandle" ∧ (mY m_Unpacker_codedBlock).cls ≠ "java/lang/invoke/VarHandle" ∧ (parseMethodDescriptor (mY m_Unpacker_codedBlock).desc).map (fun d => d.parameters.length) = some 0 := by decide +kernel
theorem sel_Unpacker_codedBlock : Cond.selects R_Unpacker (mY m_Unpacker_codedBlock) (mY m_Unpacker_codedBlock) ∈ zTb := sel_at (y := mY m_Unpacker_codedBlock) (n := 8) 17 (by decide +kernel)
theorem d_Unpacker_codedBlock_0 : decode (mC m_Unpacker_codedBlock) 0 = .ok (.iconst 0, 1) := by decide +kernel
theorem d_Unpacker_codedBlock_1 : decode (mC m_Unpacker_codedBlock) 1 = .ok (.istore_n 1, 1) := by decide +kernel
theorem d_Unpacker_codedBlock_2 : decode (mC m_Unpacker_codedBlock) 2 = .ok (.iload_n 1, 1) := by decide +kernel
theorem d_Unpacker_codedBlock_3 : decode (mC m_Unpacker_codedBlock) 3 = .ok (.sipush 12800, 3) := by decide +kernel
theorem d_Unpacker_codedBlock_6 : decode (mC m_Unpacker_codedBlock) 6 = .ok (.if_icmp .ge 89, 3) := by decide +kernel
theorem d_Unpacker_codedBlock_9 : decode (mC m_Unpacker_codedBlock) 9 = .ok (.aload_n 0, 1) := by decide +kernel
theorem d_Unpacker_codedBlock_10 : decode (mC m_Unpacker_codedBlock) 10 = .ok (.aload_n 0, 1) := by decide +kernel
theorem d_Unpacker_codedBlock_11 : decode (mC m_Unpacker_codedBlock) 11 = .ok (.getfield 31, 3) := by decide +kernel
theorem d_Unpacker_codedBlock_14 : decode (mC m_Unpacker_codedBlock) 14 = .ok (.invokevirtual 99, 3) := by decide +kernel
theorem d_Unpacker_codedBlock_17 : decode (mC m_Unpacker_codedBlock) 17 = .ok (.istore_n 2, 1) := by decide +kernel
theorem d_Unpacker_codedBlock_18 : decode (mC m_Unpacker_codedBlock) 18 = .ok (.iload_n 2, 1) := by decide +kernel
theorem d_Unpacker_codedBlock_19 : decode (mC m_Unpacker_codedBlock) 19 = .ok (.sipush 256, 3) := by decide +kernel
theorem d_Unpacker_codedBlock_22 : decode (mC m_Unpacker_codedBlock) 22 = .ok (.if_icmp .ne 5, 3) := by decide +kernel
theorem d_Unpacker_codedBlock_25 : decode (mC m_Unpacker_codedBlock) 25 = .ok (.iconst 1, 1) := by decide +kernel
theorem d_Unpacker_codedBlock_26 : decode (mC m_Unpacker_codedBlock) 26 = .ok (.ireturn, 1) := by decide +kernel
theorem d_Unpacker_codedBlock_27 : decode (mC m_Unpacker_codedBlock) 27 = .ok (.iload_n 2, 1) := by decide +kernel
theorem d_Unpacker_codedBlock_28 : decode (mC m_Unpacker_codedBlock) 28 = .ok (.iconst (-1), 1) := by decide +kernel
theorem d_Unpacker_codedBlock_29 : decode (mC m_Unpacker_codedBlock) 29 = .ok (.if_icmp .ne 5, 3) := by decide +kernel
theorem d_Unpacker_codedBlock_32 : decode (mC m_Unpacker_codedBlock) 32 = .ok (.iconst 0, 1) := by decide +kernel
theorem d_Unpacker_codedBlock_33 : decode (mC m_Unpacker_codedBlock) 33 = .ok (.ireturn, 1) := by decide +kernel
theorem d_Unpacker_codedBlock_34 : decode (mC m_Unpacker_codedBlock) 34 = .ok (.iload_n 2, 1) := by decide +kernel
theorem d_Unpacker_codedBlock_35 : decode (mC m_Unpacker_codedBlock) 35 = .ok (.sipush 256, 3) := by decide +kernel
theorem d_Unpacker_codedBlock_38 : decode (mC m_Unpacker_codedBlock) 38 = .ok (.if_icmp .ge 14, 3) := by decide +kernel
theorem d_Unpacker_codedBlock_41 : decode (mC m_Unpacker_codedBlock) 41 = .ok (.aload_n 0, 1) := by decide +kernel
theorem d_Unpacker_codedBlock_42 : decode (mC m_Unpacker_codedBlock) 42 = .ok (.getfield 9, 3) := by decide +kernel
theorem d_Unpacker_codedBlock_45 : decode (mC m_Unpacker_codedBlock) 45 = .ok (.iload_n 2, 1) := by decide +kernel
theorem d_Unpacker_codedBlock_46 : decode (mC m_Unpacker_codedBlock) 46 = .ok (.invokevirtual 103, 3) := by decide +kernel
theorem d_Unpacker_codedBlock_49 : decode (mC m_Unpacker_codedBlock) 49 = .ok (.goto 28, 3) := by decide +kernel
theorem d_Unpacker_codedBlock_52 : decode (mC m_Unpacker_codedBlock) 52 = .ok (.aload_n 0, 1) := by decide +kernel
theorem d_Unpacker_codedBlock_53 : decode (mC m_Unpacker_codedBlock) 53 = .ok (.iload_n 2, 1) := by decide +kernel
theorem d_Unpacker_codedBlock_54 : decode (mC m_Unpacker_codedBlock) 54 = .ok (.invokevirtual 106, 3) := by decide +kernel
theorem d_Unpacker_codedBlock_57 : decode (mC m_Unpacker_codedBlock) 57 = .ok (.istore_n 3, 1) := by decide +kernel
theorem d_Unpacker_codedBlock_58 : decode (mC m_Unpacker_codedBlock) 58 = .ok (.iload_n 3, 1) := by decide +kernel
theorem d_Unpacker_codedBlock_59 : decode (mC m_Unpacker_codedBlock) 59 = .ok (.iconst (-1), 1) := by decide +kernel
theorem d_Unpacker_codedBlock_60 : decode (mC m_Unpacker_codedBlock) 60 = .ok (.if_icmp .eq 15, 3) := by decide +kernel
theorem d_Unpacker_codedBlock_63 : decode (mC m_Unpacker_codedBlock) 63 = .ok (.aload_n 0, 1) := by decide +kernel
theorem d_Unpacker_codedBlock_64 : decode (mC m_Unpacker_codedBlock) 64 = .ok (.iload_n 3, 1) := by decide +kernel
theorem d_Unpacker_codedBlock_65 : decode (mC m_Unpacker_codedBlock) 65 = .ok (.aload_n 0, 1) := by decide +kernel
theorem d_Unpacker_codedBlock_66 : decode (mC m_Unpacker_codedBlock) 66 = .ok (.invokevirtual 109, 3) := by decide +kernel
theorem d_Unpacker_codedBlock_69 : decode (mC m_Unpacker_codedBlock) 69 = .ok (.invokevirtual 113, 3) := by decide +kernel
theorem d_Unpacker_codedBlock_72 : decode (mC m_Unpacker_codedBlock) 72 = .ok (.ifCond .ne 5, 3) := by decide +kernel
theorem d_Unpacker_codedBlock_75 : decode (mC m_Unpacker_codedBlock) 75 = .ok (.iconst 0, 1) := by decide +kernel
theorem d_Unpacker_codedBlock_76 : decode (mC m_Unpacker_codedBlock) 76 = .ok (.ireturn, 1) := by decide +kernel
theorem d_Unpacker_codedBlock_77 : decode (mC m_Unpacker_codedBlock) 77 = .ok (.aload_n 0, 1) := by decide +kernel
theorem d_Unpacker_codedBlock_78 : decode (mC m_Unpacker_codedBlock) 78 = .ok (.getfield 9, 3) := by decide +kernel
theorem d_Unpacker_codedBlock_81 : decode (mC m_Unpacker_codedBlock) 81 = .ok (.getfield 83, 3) := by decide +kernel
theorem d_Unpacker_codedBlock_84 : decode (mC m_Unpacker_codedBlock) 84 = .ok (.ifCond .eq 5, 3) := by decide +kernel
theorem d_Unpacker_codedBlock_87 : decode (mC m_Unpacker_codedBlock) 87 = .ok (.iconst 0, 1) := by decide +kernel
theorem d_Unpacker_codedBlock_88 : decode (mC m_Unpacker_codedBlock) 88 = .ok (.ireturn, 1) := by decide +kernel
theorem d_Unpacker_codedBlock_89 : decode (mC m_Unpacker_codedBlock) 89 = .ok (.iinc 1 1, 3) := by decide +kernel
theorem d_Unpacker_codedBlock_92 : decode (mC m_Unpacker_codedBlock) 92 = .ok (.goto (-90), 3) := by decide +kernel
theorem d_Unpacker_codedBlock_95 : decode (mC m_Unpacker_codedBlock) 95 = .ok (.iconst 0, 1) := by decide +kernel
theorem d_Unpacker_codedBlock_96 : decode (mC m_Unpacker_codedBlock) 96 = .ok (.ireturn, 1) := by decide +kernel
def b_Unpacker_codedBlock_77 (F : Nat) (K2 : Nat → Int32 → zW → Option (Int32 × zW)) (v0 : Nat) (v1 : Int32) (w : zW) : Option (Int32 × zW) := (getR w v0 5 0).bind fun x78 => (getI w x78 0 2).bind fun x81 => if x81 = 0 then (K2 v0 (v1 + (1 : Int32)) w) else (some ((0 : Int32), w))
set_option maxRecDepth 100000 in
set_option maxHeartbeats 4000000 in
theorem b_Unpacker_codedBlock_77_ok (G : zG) (F : Nat) (K2 : Nat → Int32 → zW → Option (Int32 × zW)) (hK2 : ∀ (v0 : Nat) (v1 : Int32) (w : zW) (r : (Int32 × zW)), K2 v0 v1 w = some r → zV G m_Unpacker_codedBlock 2 [(0, .ref (z0 G + v0)), (1, .int v1)] [] w 0 0 (oI r.1) r.2) (v0 : Nat) (v1 : Int32) (w : zW) (r : (Int32 × zW)) (h : b_Unpacker_codedBlock_77 F K2 v0 v1 w = some r) : zV G m_Unpacker_codedBlock 77 [(0, .ref (z0 G + v0)), (1, .int v1)] [] w 0 0 (oI r.1) r.2 := by
  unfold b_Unpacker_codedBlock_77 at h
  refine V_aload_n (i := 0) d_Unpacker_codedBlock_77 rfl 0 rfl ?_
  obtain ⟨x78, e78, h⟩ := ob h
  refine V_getR (ci := 5) (k := 0) d_Unpacker_codedBlock_78 e78 rfl (by decide) in_Unpacker k106 ?_
  obtain ⟨x81, e81, h⟩ := ob h
  refine V_getI (ci := 0) (k := 2) d_Unpacker_codedBlock_81 e81 rfl (by decide) in_Row k48 ?_
  refine V_if_eq (tgt := 89) d_Unpacker_codedBlock_84 (by decide) (fun c84 => ?_) (fun c84 => ?_)
  · rw [if_pos c84] at h
    refine V_iinc (i := 1) (v := (v1 + (1 : Int32))) d_Unpacker_codedBlock_89 1 rfl (congrArg (fun y => v1 + y) (by decide : Int32.ofInt (1) = (1 : Int32))) (by decide) rfl ?_
    refine V_goto (tgt := 2) d_Unpacker_codedBlock_92 (by decide) ?_
    refine V_lv [1, 0] rfl ?_
    exact hK2 v0 (v1 + (1 : Int32)) w _ h
  · rw [if_neg c84] at h
    refine V_iconst (v := 0) d_Unpacker_codedBlock_87 (by decide) ?_
    obtain rfl := Option.some.inj h
    exact V_zret rfl (Or.inl rfl) (by decide) (by decide) d_Unpacker_codedBlock_88
def b_Unpacker_codedBlock_75 (F : Nat) (w : zW) : Option (Int32 × zW) := some ((0 : Int32), w)
set_option maxRecDepth 100000 in
set_option maxHeartbeats 4000000 in
theorem b_Unpacker_codedBlock_75_ok (G : zG) (F : Nat) (w : zW) (r : (Int32 × zW)) (h : b_Unpacker_codedBlock_75 F w = some r) : zV G m_Unpacker_codedBlock 75 [] [] w 0 0 (oI r.1) r.2 := by
  unfold b_Unpacker_codedBlock_75 at h
  refine V_iconst (v := 0) d_Unpacker_codedBlock_75 (by decide) ?_
  obtain rfl := Option.some.inj h
  exact V_zret rfl (Or.inl rfl) (by decide) (by decide) d_Unpacker_codedBlock_76
def b_Unpacker_codedBlock_2 (F : Nat) (K2 : Nat → Int32 → zW → Option (Int32 × zW)) (v0 : Nat) (v1 : Int32) (w : zW) : Option (Int32 × zW) := if (12800 : Int32) ≤ v1 then (some ((0 : Int32), w)) else ((getR w v0 5 2).bind fun x11 => (zobj w v0 5).bind fun _ => (f_Unpacker_takeSymbol F v0 x11 w).bind fun r14 => if r14.1 = (256 : Int32) then (some ((1 : Int32), r14.2)) else (if r14.1 = (-1 : Int32) then (some ((0 : Int32), r14.2)) else (if (256 : Int32) ≤ r14.1 then ((zobj r14.2 v0 5).bind fun _ => (f_Unpacker_repeatLength F v0 r14.1 r14.2).bind fun r54 => if r54.1 = (-1 : Int32) then (b_Unpacker_codedBlock_75 F r54.2) else ((zobj r54.2 v0 5).bind fun _ => (f_Unpacker_repeatDistance F v0 r54.2).bind fun r66 => (zobj r66.2 v0 5).bind fun _ => (f_Unpacker_repeat F v0 r54.1 r66.1 r66.2).bind fun r69 => if r69.1 = 0 then (b_Unpacker_codedBlock_75 F r69.2) else (b_Unpacker_codedBlock_77 F K2 v0 v1 r69.2))) else ((getR r14.2 v0 5 0).bind fun x42 => (zobj r14.2 x42 0).bind fun _ => (f_Row_append F x42 r14.1 r14.2).bind fun r46 => b_Unpacker_codedBlock_77 F K2 v0 v1 r46.2))))
set_option maxRecDepth 100000 in
set_option maxHeartbeats 4000000 in
theorem b_Unpacker_codedBlock_2_ok (G : zG) (F : Nat) (K2 : Nat → Int32 → zW → Option (Int32 × zW)) (hK2 : ∀ (v0 : Nat) (v1 : Int32) (w : zW) (r : (Int32 × zW)), K2 v0 v1 w = some r → zV G m_Unpacker_codedBlock 2 [(0, .ref (z0 G + v0)), (1, .int v1)] [] w 0 0 (oI r.1) r.2) (v0 : Nat) (v1 : Int32) (w : zW) (r : (Int32 × zW)) (h : b_Unpacker_codedBlock_2 F K2 v0 v1 w = some r) : zV G m_Unpacker_codedBlock 2 [(0, .ref (z0 G + v0)), (1, .int v1)] [] w 0 0 (oI r.1) r.2 := by
  unfold b_Unpacker_codedBlock_2 at h
  refine V_iload_n (i := 1) d_Unpacker_codedBlock_2 rfl 1 rfl ?_
  refine V_sipush (v := 12800) d_Unpacker_codedBlock_3 (by decide) ?_
  refine V_icmp_ge (tgt := 95) d_Unpacker_codedBlock_6 (by decide) (fun c6 => ?_) (fun c6 => ?_)
  · rw [if_pos c6] at h
    refine V_iconst (v := 0) d_Unpacker_codedBlock_95 (by decide) ?_
    obtain rfl := Option.some.inj h
    exact V_zret rfl (Or.inl rfl) (by decide) (by decide) d_Unpacker_codedBlock_96
  · rw [if_neg c6] at h
    refine V_aload_n (i := 0) d_Unpacker_codedBlock_9 rfl 0 rfl ?_
    refine V_aload_n (i := 0) d_Unpacker_codedBlock_10 rfl 0 rfl ?_
    obtain ⟨x11, e11, h⟩ := ob h
    refine V_getR (ci := 5) (k := 2) d_Unpacker_codedBlock_11 e11 rfl (by decide) in_Unpacker k108 ?_
    obtain ⟨_, eo14, h⟩ := ob h
    obtain ⟨r14, e14, h⟩ := ob h
    refine V_call (v := some (.int r14.1)) (st := []) (inv_V (N := m_Unpacker_takeSymbol) (As := [.ref (z0 G + x11)]) (ci := 5) d_Unpacker_codedBlock_14 eo14 rfl k498 k500 sel_Unpacker_takeSymbol kc_Unpacker_takeSymbol y_Unpacker_takeSymbol) ⟨Or.inl kc_Unpacker_takeSymbol, k4, by decide, by decide⟩ (Nat.le_of_ble_eq_true rfl) (by decide) (by decide) (c_Unpacker_takeSymbol G F v0 x11 w r14 e14) ?_
    refine V_istore_n (i := 2) d_Unpacker_codedBlock_17 rfl (by decide) rfl ?_
    refine V_iload_n (i := 2) d_Unpacker_codedBlock_18 rfl 0 rfl ?_
    refine V_sipush (v := 256) d_Unpacker_codedBlock_19 (by decide) ?_
    refine V_icmp_ne (tgt := 27) d_Unpacker_codedBlock_22 (by decide) (fun c22 => ?_) (fun c22 => ?_)
    · rw [if_neg c22] at h
      refine V_iload_n (i := 2) d_Unpacker_codedBlock_27 rfl 0 rfl ?_
      refine V_iconst (v := -1) d_Unpacker_codedBlock_28 (by decide) ?_
      refine V_icmp_ne (tgt := 34) d_Unpacker_codedBlock_29 (by decide) (fun c29 => ?_) (fun c29 => ?_)
      · rw [if_neg c29] at h
        refine V_iload_n (i := 2) d_Unpacker_codedBlock_34 rfl 0 rfl ?_
        refine V_sipush (v := 256) d_Unpacker_codedBlock_35 (by decide) ?_
        refine V_icmp_ge (tgt := 52) d_Unpacker_codedBlock_38 (by decide) (fun c38 => ?_) (fun c38 => ?_)
        · rw [if_pos c38] at h
          refine V_aload_n (i := 0) d_Unpacker_codedBlock_52 rfl 1 rfl ?_
          refine V_iload_n (i := 2) d_Unpacker_codedBlock_53 rfl 0 rfl ?_
          obtain ⟨_, eo54, h⟩ := ob h
          obtain ⟨r54, e54, h⟩ := ob h
          refine V_call (v := some (.int r54.1)) (st := []) (inv_V (N := m_Unpacker_repeatLength) (As := [.int r14.1]) (ci := 5) d_Unpacker_codedBlock_54 eo54 rfl k503 k505 sel_Unpacker_repeatLength kc_Unpacker_repeatLength y_Unpacker_repeatLength) ⟨Or.inl kc_Unpacker_repeatLength, k4, by decide, by decide⟩ (Nat.le_of_ble_eq_true rfl) (by decide) (by decide) (c_Unpacker_repeatLength G F v0 r14.1 r14.2 r54 e54) ?_
          refine V_istore_n (i := 3) d_Unpacker_codedBlock_57 rfl (by decide) rfl ?_
          refine V_iload_n (i := 3) d_Unpacker_codedBlock_58 rfl 0 rfl ?_
          refine V_iconst (v := -1) d_Unpacker_codedBlock_59 (by decide) ?_
          refine V_icmp_eq (tgt := 75) d_Unpacker_codedBlock_60 (by decide) (fun c60 => ?_) (fun c60 => ?_)
          · rw [if_pos c60] at h
            refine V_lv [] rfl ?_
            exact b_Unpacker_codedBlock_75_ok G F r54.2 _ h
          · rw [if_neg c60] at h
            refine V_aload_n (i := 0) d_Unpacker_codedBlock_63 rfl 2 rfl ?_
            refine V_iload_n (i := 3) d_Unpacker_codedBlock_64 rfl 0 rfl ?_
            refine V_aload_n (i := 0) d_Unpacker_codedBlock_65 rfl 2 rfl ?_
            obtain ⟨_, eo66, h⟩ := ob h
            obtain ⟨r66, e66, h⟩ := ob h
            refine V_call (v := some (.int r66.1)) (st := [.int r54.1, .ref (z0 G + v0)]) (inv_V (N := m_Unpacker_repeatDistance) (As := []) (ci := 5) d_Unpacker_codedBlock_66 eo66 rfl k507 k509 sel_Unpacker_repeatDistance kc_Unpacker_repeatDistance y_Unpacker_repeatDistance) ⟨Or.inl kc_Unpacker_repeatDistance, k4, by decide, by decide⟩ (Nat.le_of_ble_eq_true rfl) (by decide) (by decide) (c_Unpacker_repeatDistance G F v0 r54.2 r66 e66) ?_
            obtain ⟨_, eo69, h⟩ := ob h
            obtain ⟨r69, e69, h⟩ := ob h
            refine V_call (v := some (.int r69.1)) (st := []) (inv_V (N := m_Unpacker_repeat) (As := [.int r54.1, .int r66.1]) (ci := 5) d_Unpacker_codedBlock_69 eo69 rfl k511 k513 sel_Unpacker_repeat kc_Unpacker_repeat y_Unpacker_repeat) ⟨Or.inl kc_Unpacker_repeat, k4, by decide, by decide⟩ (Nat.le_of_ble_eq_true rfl) (by decide) (by decide) (c_Unpacker_repeat G F v0 r54.1 r66.1 r66.2 r69 e69) ?_
            refine V_if_ne (tgt := 77) d_Unpacker_codedBlock_72 (by decide) (fun c72 => ?_) (fun c72 => ?_)
            · rw [if_neg c72] at h
              refine V_lv [2, 3] rfl ?_
              exact b_Unpacker_codedBlock_77_ok G F K2 hK2 v0 v1 r69.2 _ h
            · rw [if_pos c72] at h
              refine V_lv [] rfl ?_
              exact b_Unpacker_codedBlock_75_ok G F r69.2 _ h
        · rw [if_neg c38] at h
          refine V_aload_n (i := 0) d_Unpacker_codedBlock_41 rfl 1 rfl ?_
          obtain ⟨x42, e42, h⟩ := ob h
          refine V_getR (ci := 5) (k := 0) d_Unpacker_codedBlock_42 e42 rfl (by decide) in_Unpacker k106 ?_
          refine V_iload_n (i := 2) d_Unpacker_codedBlock_45 rfl 0 rfl ?_
          obtain ⟨_, eo46, h⟩ := ob h
          obtain ⟨r46, e46, h⟩ := ob h
          refine V_call (v := none) (st := []) (inv_V (N := m_Row_append) (As := [.int r14.1]) (ci := 0) d_Unpacker_codedBlock_46 eo46 rfl k502 k338 k339 kc_Row_append y_Row_append) ⟨Or.inl kc_Row_append, k2, by decide, by decide⟩ (Nat.le_of_ble_eq_true rfl) (by decide) (by decide) (c_Row_append G F x42 r14.1 r14.2 r46 e46) ?_
          refine V_goto (tgt := 77) d_Unpacker_codedBlock_49 (by decide) ?_
          refine V_lv [1, 2] rfl ?_
          exact b_Unpacker_codedBlock_77_ok G F K2 hK2 v0 v1 r46.2 _ h
      · rw [if_pos c29] at h
        refine V_iconst (v := 0) d_Unpacker_codedBlock_32 (by decide) ?_
        obtain rfl := Option.some.inj h
        exact V_zret rfl (Or.inl rfl) (by decide) (by decide) d_Unpacker_codedBlock_33
    · rw [if_pos c22] at h
      refine V_iconst (v := 1) d_Unpacker_codedBlock_25 (by decide) ?_
      obtain rfl := Option.some.inj h
      exact V_zret rfl (Or.inr rfl) (by decide) (by decide) d_Unpacker_codedBlock_26
def l_Unpacker_codedBlock_2 (F : Nat) : Nat → Nat → Int32 → zW → Option (Int32 × zW)
  | 0 => fun _ _ _ => none
  | n + 1 => b_Unpacker_codedBlock_2 F (l_Unpacker_codedBlock_2 F n)
theorem l_Unpacker_codedBlock_2_ok (G : zG) (F : Nat) (n : Nat) :  ∀ (v0 : Nat) (v1 : Int32) (w : zW) (r : (Int32 × zW)), l_Unpacker_codedBlock_2 F n v0 v1 w = some r → zV G m_Unpacker_codedBlock 2 [(0, .ref (z0 G + v0)), (1, .int v1)] [] w 0 0 (oI r.1) r.2 := by
  induction n with
  | zero => intro v0 v1 w r h; exact nomatch (show (none : Option (Int32 × zW)) = some r from h)
  | succ n ih => intro v0 v1 w r h; exact b_Unpacker_codedBlock_2_ok G F (l_Unpacker_codedBlock_2 F n) ih v0 v1 w r h
def b_Unpacker_codedBlock_0 (F : Nat) (v0 : Nat) (w : zW) : Option (Int32 × zW) := l_Unpacker_codedBlock_2 F F v0 (0 : Int32) w
set_option maxRecDepth 100000 in
set_option maxHeartbeats 4000000 in
theorem b_Unpacker_codedBlock_0_ok (G : zG) (F : Nat) (v0 : Nat) (w : zW) (r : (Int32 × zW)) (h : b_Unpacker_codedBlock_0 F v0 w = some r) : zV G m_Unpacker_codedBlock 0 [(0, .ref (z0 G + v0))] [] w 0 0 (oI r.1) r.2 := by
  unfold b_Unpacker_codedBlock_0 at h
  refine V_iconst (v := 0) d_Unpacker_codedBlock_0 (by decide) ?_
  refine V_istore_n (i := 1) d_Unpacker_codedBlock_1 rfl (by decide) rfl ?_
  refine V_lv [1, 0] rfl ?_
  exact l_Unpacker_codedBlock_2_ok G F F v0 (0 : Int32) w _ h
def f_Unpacker_codedBlock (F : Nat) (v0 : Nat) (w : zW) : Option (Int32 × zW) := b_Unpacker_codedBlock_0 F v0 w
theorem c_Unpacker_codedBlock (G : zG) (F : Nat) (v0 : Nat) (w : zW) (r : (Int32 × zW)) (h : f_Unpacker_codedBlock F v0 w = some r) : zCT G m_Unpacker_codedBlock [.ref (z0 G + v0)] w (oI r.1) r.2 := zCT.ofV (by decide +kernel) (Or.inl ⟨kc_Unpacker_codedBlock, rfl⟩) (Nat.le_of_ble_eq_true rfl) (b_Unpacker_codedBlock_0_ok G F v0 w r h)

/-! ZipArray$Unpacker.readLengths(I)Z -/
def m_Unpacker_readLengths : zM := (⟨R_Unpacker, "readLengths", "(I)Z"⟩, prog_8_method_9_code, 9, (some .boolean), [], { frames := 1, cells := 0, slots := 0, locals := 26 })
theorem kc_Unpacker_readLengths : Cond.code (mY m_Unpacker_readLengths) (mC m_Unpacker_readLengths) (mL m_Unpacker_readLengths) (mT m_Unpacker_readLengths) ∈ zTb := tb_at 523 (by decide +kernel) rfl
theorem y_Unpacker_readLengths : (mY m_Unpacker_readLengths).cls ≠ "java/lang/invoke/MethodHandle" ∧ (mY m_Unpacker_readLengths).cls ≠ "java/lang/invoke/VarHandle" ∧ (parseMethodDescriptor (mY m_Unpacker_readLengths).desc).map (fun d => d.parameters.length) = some 1 := by decide +kernel
theorem sel_Unpacker_readLengths : Cond.selects R_Unpacker (mY m_Unpacker_readLengths) (mY m_Unpacker_readLengths) ∈ zTb := sel_at (y := mY m_Unpacker_readLengths) (n := 8) 23 (by decide +kernel)
theorem d_Unpacker_readLengths_0 : decode (mC m_Unpacker_readLengths) 0 = .ok (.iconst 0, 1) := by decide +kernel
theorem d_Unpacker_readLengths_1 : decode (mC m_Unpacker_readLengths) 1 = .ok (.istore_n 2, 1) := by decide +kernel
theorem d_Unpacker_readLengths_2 : decode (mC m_Unpacker_readLengths) 2 = .ok (.iconst 0, 1) := by decide +kernel
theorem d_Unpacker_readLengths_3 : decode (mC m_Unpacker_readLengths) 3 = .ok (.istore_n 3, 1) := by decide +kernel
theorem d_Unpacker_readLengths_4 : decode (mC m_Unpacker_readLengths) 4 = .ok (.iload_n 3, 1) := by decide +kernel
theorem d_Unpacker_readLengths_5 : decode (mC m_Unpacker_readLengths) 5 = .ok (.iload_n 1, 1) := by decide +kernel
theorem d_Unpacker_readLengths_6 : decode (mC m_Unpacker_readLengths) 6 = .ok (.if_icmp .ge 194, 3) := by decide +kernel
theorem d_Unpacker_readLengths_9 : decode (mC m_Unpacker_readLengths) 9 = .ok (.iload_n 2, 1) := by decide +kernel
theorem d_Unpacker_readLengths_10 : decode (mC m_Unpacker_readLengths) 10 = .ok (.iload_n 1, 1) := by decide +kernel
theorem d_Unpacker_readLengths_11 : decode (mC m_Unpacker_readLengths) 11 = .ok (.if_icmp .ge 189, 3) := by decide +kernel
theorem d_Unpacker_readLengths_14 : decode (mC m_Unpacker_readLengths) 14 = .ok (.aload_n 0, 1) := by decide +kernel
theorem d_Unpacker_readLengths_15 : decode (mC m_Unpacker_readLengths) 15 = .ok (.aload_n 0, 1) := by decide +kernel
theorem d_Unpacker_readLengths_16 : decode (mC m_Unpacker_readLengths) 16 = .ok (.getfield 27, 3) := by decide +kernel
theorem d_Unpacker_readLengths_19 : decode (mC m_Unpacker_readLengths) 19 = .ok (.invokevirtual 99, 3) := by decide +kernel
theorem d_Unpacker_readLengths_22 : decode (mC m_Unpacker_readLengths) 22 = .ok (.istore 4, 2) := by decide +kernel
theorem d_Unpacker_readLengths_24 : decode (mC m_Unpacker_readLengths) 24 = .ok (.iload 4, 2) := by decide +kernel
theorem d_Unpacker_readLengths_26 : decode (mC m_Unpacker_readLengths) 26 = .ok (.iconst (-1), 1) := by decide +kernel
theorem d_Unpacker_readLengths_27 : decode (mC m_Unpacker_readLengths) 27 = .ok (.if_icmp .eq 14, 3) := by decide +kernel
theorem d_Unpacker_readLengths_30 : decode (mC m_Unpacker_readLengths) 30 = .ok (.iload 4, 2) := by decide +kernel
theorem d_Unpacker_readLengths_32 : decode (mC m_Unpacker_readLengths) 32 = .ok (.bipush 16, 2) := by decide +kernel
theorem d_Unpacker_readLengths_34 : decode (mC m_Unpacker_readLengths) 34 = .ok (.if_icmp .ne 9, 3) := by decide +kernel
theorem d_Unpacker_readLengths_37 : decode (mC m_Unpacker_readLengths) 37 = .ok (.iload_n 2, 1) := by decide +kernel
theorem d_Unpacker_readLengths_38 : decode (mC m_Unpacker_readLengths) 38 = .ok (.ifCond .ne 5, 3) := by decide +kernel
theorem d_Unpacker_readLengths_41 : decode (mC m_Unpacker_readLengths) 41 = .ok (.iconst 0, 1) := by decide +kernel
theorem d_Unpacker_readLengths_42 : decode (mC m_Unpacker_readLengths) 42 = .ok (.ireturn, 1) := by decide +kernel
theorem d_Unpacker_readLengths_43 : decode (mC m_Unpacker_readLengths) 43 = .ok (.iload 4, 2) := by decide +kernel
theorem d_Unpacker_readLengths_45 : decode (mC m_Unpacker_readLengths) 45 = .ok (.bipush 16, 2) := by decide +kernel
theorem d_Unpacker_readLengths_47 : decode (mC m_Unpacker_readLengths) 47 = .ok (.if_icmp .ge 8, 3) := by decide +kernel
theorem d_Unpacker_readLengths_50 : decode (mC m_Unpacker_readLengths) 50 = .ok (.iload 4, 2) := by decide +kernel
theorem d_Unpacker_readLengths_52 : decode (mC m_Unpacker_readLengths) 52 = .ok (.goto 22, 3) := by decide +kernel
theorem d_Unpacker_readLengths_55 : decode (mC m_Unpacker_readLengths) 55 = .ok (.iload 4, 2) := by decide +kernel
theorem d_Unpacker_readLengths_57 : decode (mC m_Unpacker_readLengths) 57 = .ok (.bipush 16, 2) := by decide +kernel
theorem d_Unpacker_readLengths_59 : decode (mC m_Unpacker_readLengths) 59 = .ok (.if_icmp .ne 14, 3) := by decide +kernel
theorem d_Unpacker_readLengths_62 : decode (mC m_Unpacker_readLengths) 62 = .ok (.aload_n 0, 1) := by decide +kernel
theorem d_Unpacker_readLengths_63 : decode (mC m_Unpacker_readLengths) 63 = .ok (.getfield 37, 3) := by decide +kernel
theorem d_Unpacker_readLengths_66 : decode (mC m_Unpacker_readLengths) 66 = .ok (.iload_n 2, 1) := by decide +kernel
theorem d_Unpacker_readLengths_67 : decode (mC m_Unpacker_readLengths) 67 = .ok (.iconst 1, 1) := by decide +kernel
theorem d_Unpacker_readLengths_68 : decode (mC m_Unpacker_readLengths) 68 = .ok (.isub, 1) := by decide +kernel
theorem d_Unpacker_readLengths_69 : decode (mC m_Unpacker_readLengths) 69 = .ok (.iaload, 1) := by decide +kernel
theorem d_Unpacker_readLengths_70 : decode (mC m_Unpacker_readLengths) 70 = .ok (.goto 4, 3) := by decide +kernel
theorem d_Unpacker_readLengths_73 : decode (mC m_Unpacker_readLengths) 73 = .ok (.iconst 0, 1) := by decide +kernel
theorem d_Unpacker_readLengths_74 : decode (mC m_Unpacker_readLengths) 74 = .ok (.istore 5, 2) := by decide +kernel
theorem d_Unpacker_readLengths_76 : decode (mC m_Unpacker_readLengths) 76 = .ok (.aload_n 0, 1) := by decide +kernel
theorem d_Unpacker_readLengths_77 : decode (mC m_Unpacker_readLengths) 77 = .ok (.iload 4, 2) := by decide +kernel
theorem d_Unpacker_readLengths_79 : decode (mC m_Unpacker_readLengths) 79 = .ok (.bipush 16, 2) := by decide +kernel
theorem d_Unpacker_readLengths_81 : decode (mC m_Unpacker_readLengths) 81 = .ok (.if_icmp .ge 7, 3) := by decide +kernel
theorem d_Unpacker_readLengths_84 : decode (mC m_Unpacker_readLengths) 84 = .ok (.iconst 0, 1) := by decide +kernel
theorem d_Unpacker_readLengths_85 : decode (mC m_Unpacker_readLengths) 85 = .ok (.goto 27, 3) := by decide +kernel
theorem d_Unpacker_readLengths_88 : decode (mC m_Unpacker_readLengths) 88 = .ok (.iload 4, 2) := by decide +kernel
theorem d_Unpacker_readLengths_90 : decode (mC m_Unpacker_readLengths) 90 = .ok (.bipush 16, 2) := by decide +kernel
theorem d_Unpacker_readLengths_92 : decode (mC m_Unpacker_readLengths) 92 = .ok (.if_icmp .ne 7, 3) := by decide +kernel
theorem d_Unpacker_readLengths_95 : decode (mC m_Unpacker_readLengths) 95 = .ok (.iconst 2, 1) := by decide +kernel
theorem d_Unpacker_readLengths_96 : decode (mC m_Unpacker_readLengths) 96 = .ok (.goto 16, 3) := by decide +kernel
theorem d_Unpacker_readLengths_99 : decode (mC m_Unpacker_readLengths) 99 = .ok (.iload 4, 2) := by decide +kernel
theorem d_Unpacker_readLengths_101 : decode (mC m_Unpacker_readLengths) 101 = .ok (.bipush 17, 2) := by decide +kernel
theorem d_Unpacker_readLengths_103 : decode (mC m_Unpacker_readLengths) 103 = .ok (.if_icmp .ne 7, 3) := by decide +kernel
theorem d_Unpacker_readLengths_106 : decode (mC m_Unpacker_readLengths) 106 = .ok (.iconst 3, 1) := by decide +kernel
theorem d_Unpacker_readLengths_107 : decode (mC m_Unpacker_readLengths) 107 = .ok (.goto 5, 3) := by decide +kernel
theorem d_Unpacker_readLengths_110 : decode (mC m_Unpacker_readLengths) 110 = .ok (.bipush 7, 2) := by decide +kernel
theorem d_Unpacker_readLengths_112 : decode (mC m_Unpacker_readLengths) 112 = .ok (.invokevirtual 52, 3) := by decide +kernel
theorem d_Unpacker_readLengths_115 : decode (mC m_Unpacker_readLengths) 115 = .ok (.istore 6, 2) := by decide +kernel
theorem d_Unpacker_readLengths_117 : decode (mC m_Unpacker_readLengths) 117 = .ok (.iload 6, 2) := by decide +kernel
theorem d_Unpacker_readLengths_119 : decode (mC m_Unpacker_readLengths) 119 = .ok (.iload 4, 2) := by decide +kernel
theorem d_Unpacker_readLengths_121 : decode (mC m_Unpacker_readLengths) 121 = .ok (.bipush 16, 2) := by decide +kernel
theorem d_Unpacker_readLengths_123 : decode (mC m_Unpacker_readLengths) 123 = .ok (.if_icmp .ge 7, 3) := by decide +kernel
theorem d_Unpacker_readLengths_126 : decode (mC m_Unpacker_readLengths) 126 = .ok (.iconst 1, 1) := by decide +kernel
theorem d_Unpacker_readLengths_127 : decode (mC m_Unpacker_readLengths) 127 = .ok (.goto 16, 3) := by decide +kernel
theorem d_Unpacker_readLengths_130 : decode (mC m_Unpacker_readLengths) 130 = .ok (.iload 4, 2) := by decide +kernel
theorem d_Unpacker_readLengths_132 : decode (mC m_Unpacker_readLengths) 132 = .ok (.bipush 18, 2) := by decide +kernel
theorem d_Unpacker_readLengths_134 : decode (mC m_Unpacker_readLengths) 134 = .ok (.if_icmp .ne 8, 3) := by decide +kernel
theorem d_Unpacker_readLengths_137 : decode (mC m_Unpacker_readLengths) 137 = .ok (.bipush 11, 2) := by decide +kernel
theorem d_Unpacker_readLengths_139 : decode (mC m_Unpacker_readLengths) 139 = .ok (.goto 4, 3) := by decide +kernel
theorem d_Unpacker_readLengths_142 : decode (mC m_Unpacker_readLengths) 142 = .ok (.iconst 3, 1) := by decide +kernel
theorem d_Unpacker_readLengths_143 : decode (mC m_Unpacker_readLengths) 143 = .ok (.iadd, 1) := by decide +kernel
theorem d_Unpacker_readLengths_144 : decode (mC m_Unpacker_readLengths) 144 = .ok (.istore 7, 2) := by decide +kernel
theorem d_Unpacker_readLengths_146 : decode (mC m_Unpacker_readLengths) 146 = .ok (.iload 6, 2) := by decide +kernel
theorem d_Unpacker_readLengths_148 : decode (mC m_Unpacker_readLengths) 148 = .ok (.iconst (-1), 1) := by decide +kernel
theorem d_Unpacker_readLengths_149 : decode (mC m_Unpacker_readLengths) 149 = .ok (.if_icmp .eq 11, 3) := by decide +kernel
theorem d_Unpacker_readLengths_152 : decode (mC m_Unpacker_readLengths) 152 = .ok (.iload 7, 2) := by decide +kernel
theorem d_Unpacker_readLengths_154 : decode (mC m_Unpacker_readLengths) 154 = .ok (.iload_n 1, 1) := by decide +kernel
theorem d_Unpacker_readLengths_155 : decode (mC m_Unpacker_readLengths) 155 = .ok (.iload_n 2, 1) := by decide +kernel
theorem d_Unpacker_readLengths_156 : decode (mC m_Unpacker_readLengths) 156 = .ok (.isub, 1) := by decide +kernel
theorem d_Unpacker_readLengths_157 : decode (mC m_Unpacker_readLengths) 157 = .ok (.if_icmp .le 5, 3) := by decide +kernel
theorem d_Unpacker_readLengths_160 : decode (mC m_Unpacker_readLengths) 160 = .ok (.iconst 0, 1) := by decide +kernel
theorem d_Unpacker_readLengths_161 : decode (mC m_Unpacker_readLengths) 161 = .ok (.ireturn, 1) := by decide +kernel
theorem d_Unpacker_readLengths_162 : decode (mC m_Unpacker_readLengths) 162 = .ok (.iconst 0, 1) := by decide +kernel
theorem d_Unpacker_readLengths_163 : decode (mC m_Unpacker_readLengths) 163 = .ok (.istore 8, 2) := by decide +kernel
theorem d_Unpacker_readLengths_165 : decode (mC m_Unpacker_readLengths) 165 = .ok (.iload 8, 2) := by decide +kernel
theorem d_Unpacker_readLengths_167 : decode (mC m_Unpacker_readLengths) 167 = .ok (.iload 7, 2) := by decide +kernel
theorem d_Unpacker_readLengths_169 : decode (mC m_Unpacker_readLengths) 169 = .ok (.if_icmp .ge 20, 3) := by decide +kernel
theorem d_Unpacker_readLengths_172 : decode (mC m_Unpacker_readLengths) 172 = .ok (.aload_n 0, 1) := by decide +kernel
theorem d_Unpacker_readLengths_173 : decode (mC m_Unpacker_readLengths) 173 = .ok (.getfield 37, 3) := by decide +kernel
theorem d_Unpacker_readLengths_176 : decode (mC m_Unpacker_readLengths) 176 = .ok (.iload_n 2, 1) := by decide +kernel
theorem d_Unpacker_readLengths_177 : decode (mC m_Unpacker_readLengths) 177 = .ok (.iload 8, 2) := by decide +kernel
theorem d_Unpacker_readLengths_179 : decode (mC m_Unpacker_readLengths) 179 = .ok (.iadd, 1) := by decide +kernel
theorem d_Unpacker_readLengths_180 : decode (mC m_Unpacker_readLengths) 180 = .ok (.iload 5, 2) := by decide +kernel
theorem d_Unpacker_readLengths_182 : decode (mC m_Unpacker_readLengths) 182 = .ok (.iastore, 1) := by decide +kernel
theorem d_Unpacker_readLengths_183 : decode (mC m_Unpacker_readLengths) 183 = .ok (.iinc 8 1, 3) := by decide +kernel
theorem d_Unpacker_readLengths_186 : decode (mC m_Unpacker_readLengths) 186 = .ok (.goto (-21), 3) := by decide +kernel
theorem d_Unpacker_readLengths_189 : decode (mC m_Unpacker_readLengths) 189 = .ok (.iload_n 2, 1) := by decide +kernel
theorem d_Unpacker_readLengths_190 : decode (mC m_Unpacker_readLengths) 190 = .ok (.iload 7, 2) := by decide +kernel
theorem d_Unpacker_readLengths_192 : decode (mC m_Unpacker_readLengths) 192 = .ok (.iadd, 1) := by decide +kernel
theorem d_Unpacker_readLengths_193 : decode (mC m_Unpacker_readLengths) 193 = .ok (.istore_n 2, 1) := by decide +kernel
theorem d_Unpacker_readLengths_194 : decode (mC m_Unpacker_readLengths) 194 = .ok (.iinc 3 1, 3) := by decide +kernel
theorem d_Unpacker_readLengths_197 : decode (mC m_Unpacker_readLengths) 197 = .ok (.goto (-193), 3) := by decide +kernel
theorem d_Unpacker_readLengths_200 : decode (mC m_Unpacker_readLengths) 200 = .ok (.iload_n 2, 1) := by decide +kernel
theorem d_Unpacker_readLengths_201 : decode (mC m_Unpacker_readLengths) 201 = .ok (.iload_n 1, 1) := by decide +kernel
theorem d_Unpacker_readLengths_202 : decode (mC m_Unpacker_readLengths) 202 = .ok (.if_icmp .ne 7, 3) := by decide +kernel
theorem d_Unpacker_readLengths_205 : decode (mC m_Unpacker_readLengths) 205 = .ok (.iconst 1, 1) := by decide +kernel
theorem d_Unpacker_readLengths_206 : decode (mC m_Unpacker_readLengths) 206 = .ok (.goto 4, 3) := by decide +kernel
theorem d_Unpacker_readLengths_209 : decode (mC m_Unpacker_readLengths) 209 = .ok (.iconst 0, 1) := by decide +kernel
theorem d_Unpacker_readLengths_210 : decode (mC m_Unpacker_readLengths) 210 = .ok (.ireturn, 1) := by decide +kernel
def b_Unpacker_readLengths_200 (F : Nat) (v1 : Int32) (v2 : Int32) (w : zW) : Option (Int32 × zW) := if v2 = v1 then (some ((1 : Int32), w)) else (some ((0 : Int32), w))
set_option maxRecDepth 100000 in
set_option maxHeartbeats 4000000 in
theorem b_Unpacker_readLengths_200_ok (G : zG) (F : Nat) (v1 : Int32) (v2 : Int32) (w : zW) (r : (Int32 × zW)) (h : b_Unpacker_readLengths_200 F v1 v2 w = some r) : zV G m_Unpacker_readLengths 200 [(1, .int v1), (2, .int v2)] [] w 0 0 (oI r.1) r.2 := by
  unfold b_Unpacker_readLengths_200 at h
  refine V_iload_n (i := 2) d_Unpacker_readLengths_200 rfl 1 rfl ?_
  refine V_iload_n (i := 1) d_Unpacker_readLengths_201 rfl 0 rfl ?_
  refine V_icmp_ne (tgt := 209) d_Unpacker_readLengths_202 (by decide) (fun c202 => ?_) (fun c202 => ?_)
  · rw [if_neg c202] at h
    refine V_iconst (v := 0) d_Unpacker_readLengths_209 (by decide) ?_
    obtain rfl := Option.some.inj h
    exact V_zret rfl (Or.inl rfl) (by decide) (by decide) d_Unpacker_readLengths_210
  · rw [if_pos c202] at h
    refine V_iconst (v := 1) d_Unpacker_readLengths_205 (by decide) ?_
    refine V_goto (tgt := 210) d_Unpacker_readLengths_206 (by decide) ?_
    obtain rfl := Option.some.inj h
    exact V_zret rfl (Or.inr rfl) (by decide) (by decide) d_Unpacker_readLengths_210
def b_Unpacker_readLengths_165 (F : Nat) (K4 : Nat → Int32 → Int32 → Int32 → zW → Option (Int32 × zW)) (K165 : Nat → Int32 → Int32 → Int32 → Int32 → Int32 → Int32 → zW → Option (Int32 × zW)) (v0 : Nat) (v1 : Int32) (v2 : Int32) (v3 : Int32) (v5 : Int32) (v7 : Int32) (v8 : Int32) (w : zW) : Option (Int32 × zW) := if v7 ≤ v8 then (K4 v0 v1 (v2 + v7) (v3 + (1 : Int32)) w) else ((getR w v0 5 4).bind fun x173 => (aset w x173 (v2 + v8) v5).bind fun w182 => K165 v0 v1 v2 v3 v5 v7 (v8 + (1 : Int32)) w182)
set_option maxRecDepth 100000 in
set_option maxHeartbeats 4000000 in
theorem b_Unpacker_readLengths_165_ok (G : zG) (F : Nat) (K4 : Nat → Int32 → Int32 → Int32 → zW → Option (Int32 × zW)) (K165 : Nat → Int32 → Int32 → Int32 → Int32 → Int32 → Int32 → zW → Option (Int32 × zW)) (hK4 : ∀ (v0 : Nat) (v1 : Int32) (v2 : Int32) (v3 : Int32) (w : zW) (r : (Int32 × zW)), K4 v0 v1 v2 v3 w = some r → zV G m_Unpacker_readLengths 4 [(0, .ref (z0 G + v0)), (1, .int v1), (2, .int v2), (3, .int v3)] [] w 0 0 (oI r.1) r.2) (hK165 : ∀ (v0 : Nat) (v1 : Int32) (v2 : Int32) (v3 : Int32) (v5 : Int32) (v7 : Int32) (v8 : Int32) (w : zW) (r : (Int32 × zW)), K165 v0 v1 v2 v3 v5 v7 v8 w = some r → zV G m_Unpacker_readLengths 165 [(0, .ref (z0 G + v0)), (1, .int v1), (2, .int v2), (3, .int v3), (5, .int v5), (7, .int v7), (8, .int v8)] [] w 0 0 (oI r.1) r.2) (v0 : Nat) (v1 : Int32) (v2 : Int32) (v3 : Int32) (v5 : Int32) (v7 : Int32) (v8 : Int32) (w : zW) (r : (Int32 × zW)) (h : b_Unpacker_readLengths_165 F K4 K165 v0 v1 v2 v3 v5 v7 v8 w = some r) : zV G m_Unpacker_readLengths 165 [(0, .ref (z0 G + v0)), (1, .int v1), (2, .int v2), (3, .int v3), (5, .int v5), (7, .int v7), (8, .int v8)] [] w 0 0 (oI r.1) r.2 := by
  unfold b_Unpacker_readLengths_165 at h
  refine V_iload (i := 8) d_Unpacker_readLengths_165 6 rfl ?_
  refine V_iload (i := 7) d_Unpacker_readLengths_167 5 rfl ?_
  refine V_icmp_ge (tgt := 189) d_Unpacker_readLengths_169 (by decide) (fun c169 => ?_) (fun c169 => ?_)
  · rw [if_pos c169] at h
    refine V_iload_n (i := 2) d_Unpacker_readLengths_189 rfl 2 rfl ?_
    refine V_iload (i := 7) d_Unpacker_readLengths_190 5 rfl ?_
    refine V_iadd d_Unpacker_readLengths_192 ?_
    refine V_istore_n (i := 2) d_Unpacker_readLengths_193 rfl (by decide) rfl ?_
    refine V_iinc (i := 3) (v := (v3 + (1 : Int32))) d_Unpacker_readLengths_194 3 rfl (congrArg (fun y => v3 + y) (by decide : Int32.ofInt (1) = (1 : Int32))) (by decide) rfl ?_
    refine V_goto (tgt := 4) d_Unpacker_readLengths_197 (by decide) ?_
    refine V_lv [2, 3, 1, 0] rfl ?_
    exact hK4 v0 v1 (v2 + v7) (v3 + (1 : Int32)) w _ h
  · rw [if_neg c169] at h
    refine V_aload_n (i := 0) d_Unpacker_readLengths_172 rfl 0 rfl ?_
    obtain ⟨x173, e173, h⟩ := ob h
    refine V_getR (ci := 5) (k := 4) d_Unpacker_readLengths_173 e173 rfl (by decide) in_Unpacker k110 ?_
    refine V_iload_n (i := 2) d_Unpacker_readLengths_176 rfl 2 rfl ?_
    refine V_iload (i := 8) d_Unpacker_readLengths_177 6 rfl ?_
    refine V_iadd d_Unpacker_readLengths_179 ?_
    refine V_iload (i := 5) d_Unpacker_readLengths_180 4 rfl ?_
    obtain ⟨w182, e182, h⟩ := ob h
    refine V_aset d_Unpacker_readLengths_182 e182 ?_
    refine V_iinc (i := 8) (v := (v8 + (1 : Int32))) d_Unpacker_readLengths_183 6 rfl (congrArg (fun y => v8 + y) (by decide : Int32.ofInt (1) = (1 : Int32))) (by decide) rfl ?_
    refine V_goto (tgt := 165) d_Unpacker_readLengths_186 (by decide) ?_
    refine V_lv [1, 2, 3, 4, 5, 6, 0] rfl ?_
    exact hK165 v0 v1 v2 v3 v5 v7 (v8 + (1 : Int32)) w182 _ h
def l_Unpacker_readLengths_165 (F : Nat) (K4 : Nat → Int32 → Int32 → Int32 → zW → Option (Int32 × zW)) : Nat → Nat → Int32 → Int32 → Int32 → Int32 → Int32 → Int32 → zW → Option (Int32 × zW)
  | 0 => fun _ _ _ _ _ _ _ _ => none
  | n + 1 => b_Unpacker_readLengths_165 F K4 (l_Unpacker_readLengths_165 F K4 n)
theorem l_Unpacker_readLengths_165_ok (G : zG) (F : Nat) (K4 : Nat → Int32 → Int32 → Int32 → zW → Option (Int32 × zW)) (hK4 : ∀ (v0 : Nat) (v1 : Int32) (v2 : Int32) (v3 : Int32) (w : zW) (r : (Int32 × zW)), K4 v0 v1 v2 v3 w = some r → zV G m_Unpacker_readLengths 4 [(0, .ref (z0 G + v0)), (1, .int v1), (2, .int v2), (3, .int v3)] [] w 0 0 (oI r.1) r.2) (n : Nat) :  ∀ (v0 : Nat) (v1 : Int32) (v2 : Int32) (v3 : Int32) (v5 : Int32) (v7 : Int32) (v8 : Int32) (w : zW) (r : (Int32 × zW)), l_Unpacker_readLengths_165 F K4 n v0 v1 v2 v3 v5 v7 v8 w = some r → zV G m_Unpacker_readLengths 165 [(0, .ref (z0 G + v0)), (1, .int v1), (2, .int v2), (3, .int v3), (5, .int v5), (7, .int v7), (8, .int v8)] [] w 0 0 (oI r.1) r.2 := by
  induction n with
  | zero => intro v0 v1 v2 v3 v5 v7 v8 w r h; exact nomatch (show (none : Option (Int32 × zW)) = some r from h)
  | succ n ih => intro v0 v1 v2 v3 v5 v7 v8 w r h; exact b_Unpacker_readLengths_165_ok G F K4 (l_Unpacker_readLengths_165 F K4 n) hK4 ih v0 v1 v2 v3 v5 v7 v8 w r h
def b_Unpacker_readLengths_160 (F : Nat) (w : zW) : Option (Int32 × zW) := some ((0 : Int32), w)
set_option maxRecDepth 100000 in
set_option maxHeartbeats 4000000 in
theorem b_Unpacker_readLengths_160_ok (G : zG) (F : Nat) (w : zW) (r : (Int32 × zW)) (h : b_Unpacker_readLengths_160 F w = some r) : zV G m_Unpacker_readLengths 160 [] [] w 0 0 (oI r.1) r.2 := by
  unfold b_Unpacker_readLengths_160 at h
  refine V_iconst (v := 0) d_Unpacker_readLengths_160 (by decide) ?_
  obtain rfl := Option.some.inj h
  exact V_zret rfl (Or.inl rfl) (by decide) (by decide) d_Unpacker_readLengths_161
def b_Unpacker_readLengths_143 (F : Nat) (K4 : Nat → Int32 → Int32 → Int32 → zW → Option (Int32 × zW)) (v0 : Nat) (v1 : Int32) (v2 : Int32) (v3 : Int32) (v5 : Int32) (v6 : Int32) (s0 : Int32) (s1 : Int32) (w : zW) : Option (Int32 × zW) := if v6 = (-1 : Int32) then (b_Unpacker_readLengths_160 F w) else (if (s0 + s1) ≤ (v1 - v2) then (l_Unpacker_readLengths_165 F K4 F v0 v1 v2 v3 v5 (s0 + s1) (0 : Int32) w) else (b_Unpacker_readLengths_160 F w))
set_option maxRecDepth 100000 in
set_option maxHeartbeats 4000000 in
theorem b_Unpacker_readLengths_143_ok (G : zG) (F : Nat) (K4 : Nat → Int32 → Int32 → Int32 → zW → Option (Int32 × zW)) (hK4 : ∀ (v0 : Nat) (v1 : Int32) (v2 : Int32) (v3 : Int32) (w : zW) (r : (Int32 × zW)), K4 v0 v1 v2 v3 w = some r → zV G m_Unpacker_readLengths 4 [(0, .ref (z0 G + v0)), (1, .int v1), (2, .int v2), (3, .int v3)] [] w 0 0 (oI r.1) r.2) (v0 : Nat) (v1 : Int32) (v2 : Int32) (v3 : Int32) (v5 : Int32) (v6 : Int32) (s0 : Int32) (s1 : Int32) (w : zW) (r : (Int32 × zW)) (h : b_Unpacker_readLengths_143 F K4 v0 v1 v2 v3 v5 v6 s0 s1 w = some r) : zV G m_Unpacker_readLengths 143 [(0, .ref (z0 G + v0)), (1, .int v1), (2, .int v2), (3, .int v3), (5, .int v5), (6, .int v6)] [.int s1, .int s0] w 0 0 (oI r.1) r.2 := by
  unfold b_Unpacker_readLengths_143 at h
  refine V_iadd d_Unpacker_readLengths_143 ?_
  refine V_istore (i := 7) d_Unpacker_readLengths_144 (by decide) rfl ?_
  refine V_iload (i := 6) d_Unpacker_readLengths_146 6 rfl ?_
  refine V_iconst (v := -1) d_Unpacker_readLengths_148 (by decide) ?_
  refine V_icmp_eq (tgt := 160) d_Unpacker_readLengths_149 (by decide) (fun c149 => ?_) (fun c149 => ?_)
  · rw [if_pos c149] at h
    refine V_lv [] rfl ?_
    exact b_Unpacker_readLengths_160_ok G F w _ h
  · rw [if_neg c149] at h
    refine V_iload (i := 7) d_Unpacker_readLengths_152 0 rfl ?_
    refine V_iload_n (i := 1) d_Unpacker_readLengths_154 rfl 2 rfl ?_
    refine V_iload_n (i := 2) d_Unpacker_readLengths_155 rfl 3 rfl ?_
    refine V_isub d_Unpacker_readLengths_156 ?_
    refine V_icmp_le (tgt := 162) d_Unpacker_readLengths_157 (by decide) (fun c157 => ?_) (fun c157 => ?_)
    · rw [if_pos c157] at h
      refine V_iconst (v := 0) d_Unpacker_readLengths_162 (by decide) ?_
      refine V_istore (i := 8) d_Unpacker_readLengths_163 (by decide) rfl ?_
      refine V_lv [2, 3, 4, 5, 6, 1, 0] rfl ?_
      exact l_Unpacker_readLengths_165_ok G F K4 hK4 F v0 v1 v2 v3 v5 (s0 + s1) (0 : Int32) w _ h
    · rw [if_neg c157] at h
      refine V_lv [] rfl ?_
      exact b_Unpacker_readLengths_160_ok G F w _ h
def b_Unpacker_readLengths_112 (F : Nat) (K4 : Nat → Int32 → Int32 → Int32 → zW → Option (Int32 × zW)) (v0 : Nat) (v1 : Int32) (v2 : Int32) (v3 : Int32) (v4 : Int32) (v5 : Int32) (s0 : Nat) (s1 : Int32) (w : zW) : Option (Int32 × zW) := (zobj w s0 5).bind fun _ => (f_Unpacker_takeBits F s0 s1 w).bind fun r112 => if (16 : Int32) ≤ v4 then (if v4 = (18 : Int32) then (b_Unpacker_readLengths_143 F K4 v0 v1 v2 v3 v5 r112.1 r112.1 (11 : Int32) r112.2) else (b_Unpacker_readLengths_143 F K4 v0 v1 v2 v3 v5 r112.1 r112.1 (3 : Int32) r112.2)) else (b_Unpacker_readLengths_143 F K4 v0 v1 v2 v3 v5 r112.1 r112.1 (1 : Int32) r112.2)
set_option maxRecDepth 100000 in
set_option maxHeartbeats 4000000 in
theorem b_Unpacker_readLengths_112_ok (G : zG) (F : Nat) (K4 : Nat → Int32 → Int32 → Int32 → zW → Option (Int32 × zW)) (hK4 : ∀ (v0 : Nat) (v1 : Int32) (v2 : Int32) (v3 : Int32) (w : zW) (r : (Int32 × zW)), K4 v0 v1 v2 v3 w = some r → zV G m_Unpacker_readLengths 4 [(0, .ref (z0 G + v0)), (1, .int v1), (2, .int v2), (3, .int v3)] [] w 0 0 (oI r.1) r.2) (v0 : Nat) (v1 : Int32) (v2 : Int32) (v3 : Int32) (v4 : Int32) (v5 : Int32) (s0 : Nat) (s1 : Int32) (w : zW) (r : (Int32 × zW)) (h : b_Unpacker_readLengths_112 F K4 v0 v1 v2 v3 v4 v5 s0 s1 w = some r) : zV G m_Unpacker_readLengths 112 [(0, .ref (z0 G + v0)), (1, .int v1), (2, .int v2), (3, .int v3), (4, .int v4), (5, .int v5)] [.int s1, .ref (z0 G + s0)] w 0 0 (oI r.1) r.2 := by
  unfold b_Unpacker_readLengths_112 at h
  obtain ⟨_, eo112, h⟩ := ob h
  obtain ⟨r112, e112, h⟩ := ob h
  refine V_call (v := some (.int r112.1)) (st := []) (inv_V (N := m_Unpacker_takeBits) (As := [.int s1]) (ci := 5) d_Unpacker_readLengths_112 eo112 rfl k472 k474 sel_Unpacker_takeBits kc_Unpacker_takeBits y_Unpacker_takeBits) ⟨Or.inl kc_Unpacker_takeBits, k4, by decide, by decide⟩ (Nat.le_of_ble_eq_true rfl) (by decide) (by decide) (c_Unpacker_takeBits G F s0 s1 w r112 e112) ?_
  refine V_istore (i := 6) d_Unpacker_readLengths_115 (by decide) rfl ?_
  refine V_iload (i := 6) d_Unpacker_readLengths_117 0 rfl ?_
  refine V_iload (i := 4) d_Unpacker_readLengths_119 5 rfl ?_
  refine V_bipush (v := 16) d_Unpacker_readLengths_121 (by decide) ?_
  refine V_icmp_ge (tgt := 130) d_Unpacker_readLengths_123 (by decide) (fun c123 => ?_) (fun c123 => ?_)
  · rw [if_pos c123] at h
    refine V_iload (i := 4) d_Unpacker_readLengths_130 5 rfl ?_
    refine V_bipush (v := 18) d_Unpacker_readLengths_132 (by decide) ?_
    refine V_icmp_ne (tgt := 142) d_Unpacker_readLengths_134 (by decide) (fun c134 => ?_) (fun c134 => ?_)
    · rw [if_neg c134] at h
      refine V_iconst (v := 3) d_Unpacker_readLengths_142 (by decide) ?_
      refine V_lv [1, 2, 3, 4, 6, 0] rfl ?_
      exact b_Unpacker_readLengths_143_ok G F K4 hK4 v0 v1 v2 v3 v5 r112.1 r112.1 (3 : Int32) r112.2 _ h
    · rw [if_pos c134] at h
      refine V_bipush (v := 11) d_Unpacker_readLengths_137 (by decide) ?_
      refine V_goto (tgt := 143) d_Unpacker_readLengths_139 (by decide) ?_
      refine V_lv [1, 2, 3, 4, 6, 0] rfl ?_
      exact b_Unpacker_readLengths_143_ok G F K4 hK4 v0 v1 v2 v3 v5 r112.1 r112.1 (11 : Int32) r112.2 _ h
  · rw [if_neg c123] at h
    refine V_iconst (v := 1) d_Unpacker_readLengths_126 (by decide) ?_
    refine V_goto (tgt := 143) d_Unpacker_readLengths_127 (by decide) ?_
    refine V_lv [1, 2, 3, 4, 6, 0] rfl ?_
    exact b_Unpacker_readLengths_143_ok G F K4 hK4 v0 v1 v2 v3 v5 r112.1 r112.1 (1 : Int32) r112.2 _ h
def b_Unpacker_readLengths_74 (F : Nat) (K4 : Nat → Int32 → Int32 → Int32 → zW → Option (Int32 × zW)) (v0 : Nat) (v1 : Int32) (v2 : Int32) (v3 : Int32) (v4 : Int32) (s0 : Int32) (w : zW) : Option (Int32 × zW) := if (16 : Int32) ≤ v4 then (if v4 = (16 : Int32) then (b_Unpacker_readLengths_112 F K4 v0 v1 v2 v3 v4 s0 v0 (2 : Int32) w) else (if v4 = (17 : Int32) then (b_Unpacker_readLengths_112 F K4 v0 v1 v2 v3 v4 s0 v0 (3 : Int32) w) else (b_Unpacker_readLengths_112 F K4 v0 v1 v2 v3 v4 s0 v0 (7 : Int32) w))) else (b_Unpacker_readLengths_112 F K4 v0 v1 v2 v3 v4 s0 v0 (0 : Int32) w)
set_option maxRecDepth 100000 in
set_option maxHeartbeats 4000000 in
theorem b_Unpacker_readLengths_74_ok (G : zG) (F : Nat) (K4 : Nat → Int32 → Int32 → Int32 → zW → Option (Int32 × zW)) (hK4 : ∀ (v0 : Nat) (v1 : Int32) (v2 : Int32) (v3 : Int32) (w : zW) (r : (Int32 × zW)), K4 v0 v1 v2 v3 w = some r → zV G m_Unpacker_readLengths 4 [(0, .ref (z0 G + v0)), (1, .int v1), (2, .int v2), (3, .int v3)] [] w 0 0 (oI r.1) r.2) (v0 : Nat) (v1 : Int32) (v2 : Int32) (v3 : Int32) (v4 : Int32) (s0 : Int32) (w : zW) (r : (Int32 × zW)) (h : b_Unpacker_readLengths_74 F K4 v0 v1 v2 v3 v4 s0 w = some r) : zV G m_Unpacker_readLengths 74 [(0, .ref (z0 G + v0)), (1, .int v1), (2, .int v2), (3, .int v3), (4, .int v4)] [.int s0] w 0 0 (oI r.1) r.2 := by
  unfold b_Unpacker_readLengths_74 at h
  refine V_istore (i := 5) d_Unpacker_readLengths_74 (by decide) rfl ?_
  refine V_aload_n (i := 0) d_Unpacker_readLengths_76 rfl 1 rfl ?_
  refine V_iload (i := 4) d_Unpacker_readLengths_77 5 rfl ?_
  refine V_bipush (v := 16) d_Unpacker_readLengths_79 (by decide) ?_
  refine V_icmp_ge (tgt := 88) d_Unpacker_readLengths_81 (by decide) (fun c81 => ?_) (fun c81 => ?_)
  · rw [if_pos c81] at h
    refine V_iload (i := 4) d_Unpacker_readLengths_88 5 rfl ?_
    refine V_bipush (v := 16) d_Unpacker_readLengths_90 (by decide) ?_
    refine V_icmp_ne (tgt := 99) d_Unpacker_readLengths_92 (by decide) (fun c92 => ?_) (fun c92 => ?_)
    · rw [if_neg c92] at h
      refine V_iload (i := 4) d_Unpacker_readLengths_99 5 rfl ?_
      refine V_bipush (v := 17) d_Unpacker_readLengths_101 (by decide) ?_
      refine V_icmp_ne (tgt := 110) d_Unpacker_readLengths_103 (by decide) (fun c103 => ?_) (fun c103 => ?_)
      · rw [if_neg c103] at h
        refine V_bipush (v := 7) d_Unpacker_readLengths_110 (by decide) ?_
        refine V_lv [1, 2, 3, 4, 5, 0] rfl ?_
        exact b_Unpacker_readLengths_112_ok G F K4 hK4 v0 v1 v2 v3 v4 s0 v0 (7 : Int32) w _ h
      · rw [if_pos c103] at h
        refine V_iconst (v := 3) d_Unpacker_readLengths_106 (by decide) ?_
        refine V_goto (tgt := 112) d_Unpacker_readLengths_107 (by decide) ?_
        refine V_lv [1, 2, 3, 4, 5, 0] rfl ?_
        exact b_Unpacker_readLengths_112_ok G F K4 hK4 v0 v1 v2 v3 v4 s0 v0 (3 : Int32) w _ h
    · rw [if_pos c92] at h
      refine V_iconst (v := 2) d_Unpacker_readLengths_95 (by decide) ?_
      refine V_goto (tgt := 112) d_Unpacker_readLengths_96 (by decide) ?_
      refine V_lv [1, 2, 3, 4, 5, 0] rfl ?_
      exact b_Unpacker_readLengths_112_ok G F K4 hK4 v0 v1 v2 v3 v4 s0 v0 (2 : Int32) w _ h
  · rw [if_neg c81] at h
    refine V_iconst (v := 0) d_Unpacker_readLengths_84 (by decide) ?_
    refine V_goto (tgt := 112) d_Unpacker_readLengths_85 (by decide) ?_
    refine V_lv [1, 2, 3, 4, 5, 0] rfl ?_
    exact b_Unpacker_readLengths_112_ok G F K4 hK4 v0 v1 v2 v3 v4 s0 v0 (0 : Int32) w _ h
def b_Unpacker_readLengths_43 (F : Nat) (K4 : Nat → Int32 → Int32 → Int32 → zW → Option (Int32 × zW)) (v0 : Nat) (v1 : Int32) (v2 : Int32) (v3 : Int32) (v4 : Int32) (w : zW) : Option (Int32 × zW) := if (16 : Int32) ≤ v4 then (if v4 = (16 : Int32) then ((getR w v0 5 4).bind fun x63 => (aget w x63 (v2 - (1 : Int32))).bind fun x69 => b_Unpacker_readLengths_74 F K4 v0 v1 v2 v3 v4 x69 w) else (b_Unpacker_readLengths_74 F K4 v0 v1 v2 v3 v4 (0 : Int32) w)) else (b_Unpacker_readLengths_74 F K4 v0 v1 v2 v3 v4 v4 w)
set_option maxRecDepth 100000 in
set_option maxHeartbeats 4000000 in
theorem b_Unpacker_readLengths_43_ok (G : zG) (F : Nat) (K4 : Nat → Int32 → Int32 → Int32 → zW → Option (Int32 × zW)) (hK4 : ∀ (v0 : Nat) (v1 : Int32) (v2 : Int32) (v3 : Int32) (w : zW) (r : (Int32 × zW)), K4 v0 v1 v2 v3 w = some r → zV G m_Unpacker_readLengths 4 [(0, .ref (z0 G + v0)), (1, .int v1), (2, .int v2), (3, .int v3)] [] w 0 0 (oI r.1) r.2) (v0 : Nat) (v1 : Int32) (v2 : Int32) (v3 : Int32) (v4 : Int32) (w : zW) (r : (Int32 × zW)) (h : b_Unpacker_readLengths_43 F K4 v0 v1 v2 v3 v4 w = some r) : zV G m_Unpacker_readLengths 43 [(0, .ref (z0 G + v0)), (1, .int v1), (2, .int v2), (3, .int v3), (4, .int v4)] [] w 0 0 (oI r.1) r.2 := by
  unfold b_Unpacker_readLengths_43 at h
  refine V_iload (i := 4) d_Unpacker_readLengths_43 4 rfl ?_
  refine V_bipush (v := 16) d_Unpacker_readLengths_45 (by decide) ?_
  refine V_icmp_ge (tgt := 55) d_Unpacker_readLengths_47 (by decide) (fun c47 => ?_) (fun c47 => ?_)
  · rw [if_pos c47] at h
    refine V_iload (i := 4) d_Unpacker_readLengths_55 4 rfl ?_
    refine V_bipush (v := 16) d_Unpacker_readLengths_57 (by decide) ?_
    refine V_icmp_ne (tgt := 73) d_Unpacker_readLengths_59 (by decide) (fun c59 => ?_) (fun c59 => ?_)
    · rw [if_neg c59] at h
      refine V_iconst (v := 0) d_Unpacker_readLengths_73 (by decide) ?_
      exact b_Unpacker_readLengths_74_ok G F K4 hK4 v0 v1 v2 v3 v4 (0 : Int32) w _ h
    · rw [if_pos c59] at h
      refine V_aload_n (i := 0) d_Unpacker_readLengths_62 rfl 0 rfl ?_
      obtain ⟨x63, e63, h⟩ := ob h
      refine V_getR (ci := 5) (k := 4) d_Unpacker_readLengths_63 e63 rfl (by decide) in_Unpacker k110 ?_
      refine V_iload_n (i := 2) d_Unpacker_readLengths_66 rfl 2 rfl ?_
      refine V_iconst (v := 1) d_Unpacker_readLengths_67 (by decide) ?_
      refine V_isub d_Unpacker_readLengths_68 ?_
      obtain ⟨x69, e69, h⟩ := ob h
      refine V_aget d_Unpacker_readLengths_69 e69 ?_
      refine V_goto (tgt := 74) d_Unpacker_readLengths_70 (by decide) ?_
      exact b_Unpacker_readLengths_74_ok G F K4 hK4 v0 v1 v2 v3 v4 x69 w _ h
  · rw [if_neg c47] at h
    refine V_iload (i := 4) d_Unpacker_readLengths_50 4 rfl ?_
    refine V_goto (tgt := 74) d_Unpacker_readLengths_52 (by decide) ?_
    exact b_Unpacker_readLengths_74_ok G F K4 hK4 v0 v1 v2 v3 v4 v4 w _ h
def b_Unpacker_readLengths_41 (F : Nat) (w : zW) : Option (Int32 × zW) := some ((0 : Int32), w)
set_option maxRecDepth 100000 in
set_option maxHeartbeats 4000000 in
theorem b_Unpacker_readLengths_41_ok (G : zG) (F : Nat) (w : zW) (r : (Int32 × zW)) (h : b_Unpacker_readLengths_41 F w = some r) : zV G m_Unpacker_readLengths 41 [] [] w 0 0 (oI r.1) r.2 := by
  unfold b_Unpacker_readLengths_41 at h
  refine V_iconst (v := 0) d_Unpacker_readLengths_41 (by decide) ?_
  obtain rfl := Option.some.inj h
  exact V_zret rfl (Or.inl rfl) (by decide) (by decide) d_Unpacker_readLengths_42
def b_Unpacker_readLengths_4 (F : Nat) (K4 : Nat → Int32 → Int32 → Int32 → zW → Option (Int32 × zW)) (v0 : Nat) (v1 : Int32) (v2 : Int32) (v3 : Int32) (w : zW) : Option (Int32 × zW) := if v1 ≤ v3 then (b_Unpacker_readLengths_200 F v1 v2 w) else (if v1 ≤ v2 then (b_Unpacker_readLengths_200 F v1 v2 w) else ((getR w v0 5 1).bind fun x16 => (zobj w v0 5).bind fun _ => (f_Unpacker_takeSymbol F v0 x16 w).bind fun r19 => if r19.1 = (-1 : Int32) then (b_Unpacker_readLengths_41 F r19.2) else (if r19.1 = (16 : Int32) then (if v2 = 0 then (b_Unpacker_readLengths_41 F r19.2) else (b_Unpacker_readLengths_43 F K4 v0 v1 v2 v3 r19.1 r19.2)) else (b_Unpacker_readLengths_43 F K4 v0 v1 v2 v3 r19.1 r19.2))))
set_option maxRecDepth 100000 in
set_option maxHeartbeats 4000000 in
theorem b_Unpacker_readLengths_4_ok (G : zG) (F : Nat) (K4 : Nat → Int32 → Int32 → Int32 → zW → Option (Int32 × zW)) (hK4 : ∀ (v0 : Nat) (v1 : Int32) (v2 : Int32) (v3 : Int32) (w : zW) (r : (Int32 × zW)), K4 v0 v1 v2 v3 w = some r → zV G m_Unpacker_readLengths 4 [(0, .ref (z0 G + v0)), (1, .int v1), (2, .int v2), (3, .int v3)] [] w 0 0 (oI r.1) r.2) (v0 : Nat) (v1 : Int32) (v2 : Int32) (v3 : Int32) (w : zW) (r : (Int32 × zW)) (h : b_Unpacker_readLengths_4 F K4 v0 v1 v2 v3 w = some r) : zV G m_Unpacker_readLengths 4 [(0, .ref (z0 G + v0)), (1, .int v1), (2, .int v2), (3, .int v3)] [] w 0 0 (oI r.1) r.2 := by
  unfold b_Unpacker_readLengths_4 at h
  refine V_iload_n (i := 3) d_Unpacker_readLengths_4 rfl 3 rfl ?_
  refine V_iload_n (i := 1) d_Unpacker_readLengths_5 rfl 1 rfl ?_
  refine V_icmp_ge (tgt := 200) d_Unpacker_readLengths_6 (by decide) (fun c6 => ?_) (fun c6 => ?_)
  · rw [if_pos c6] at h
    refine V_lv [1, 2] rfl ?_
    exact b_Unpacker_readLengths_200_ok G F v1 v2 w _ h
  · rw [if_neg c6] at h
    refine V_iload_n (i := 2) d_Unpacker_readLengths_9 rfl 2 rfl ?_
    refine V_iload_n (i := 1) d_Unpacker_readLengths_10 rfl 1 rfl ?_
    refine V_icmp_ge (tgt := 200) d_Unpacker_readLengths_11 (by decide) (fun c11 => ?_) (fun c11 => ?_)
    · rw [if_pos c11] at h
      refine V_lv [1, 2] rfl ?_
      exact b_Unpacker_readLengths_200_ok G F v1 v2 w _ h
    · rw [if_neg c11] at h
      refine V_aload_n (i := 0) d_Unpacker_readLengths_14 rfl 0 rfl ?_
      refine V_aload_n (i := 0) d_Unpacker_readLengths_15 rfl 0 rfl ?_
      obtain ⟨x16, e16, h⟩ := ob h
      refine V_getR (ci := 5) (k := 1) d_Unpacker_readLengths_16 e16 rfl (by decide) in_Unpacker k107 ?_
      obtain ⟨_, eo19, h⟩ := ob h
      obtain ⟨r19, e19, h⟩ := ob h
      refine V_call (v := some (.int r19.1)) (st := []) (inv_V (N := m_Unpacker_takeSymbol) (As := [.ref (z0 G + x16)]) (ci := 5) d_Unpacker_readLengths_19 eo19 rfl k498 k500 sel_Unpacker_takeSymbol kc_Unpacker_takeSymbol y_Unpacker_takeSymbol) ⟨Or.inl kc_Unpacker_takeSymbol, k4, by decide, by decide⟩ (Nat.le_of_ble_eq_true rfl) (by decide) (by decide) (c_Unpacker_takeSymbol G F v0 x16 w r19 e19) ?_
      refine V_istore (i := 4) d_Unpacker_readLengths_22 (by decide) rfl ?_
      refine V_iload (i := 4) d_Unpacker_readLengths_24 0 rfl ?_
      refine V_iconst (v := -1) d_Unpacker_readLengths_26 (by decide) ?_
      refine V_icmp_eq (tgt := 41) d_Unpacker_readLengths_27 (by decide) (fun c27 => ?_) (fun c27 => ?_)
      · rw [if_pos c27] at h
        refine V_lv [] rfl ?_
        exact b_Unpacker_readLengths_41_ok G F r19.2 _ h
      · rw [if_neg c27] at h
        refine V_iload (i := 4) d_Unpacker_readLengths_30 0 rfl ?_
        refine V_bipush (v := 16) d_Unpacker_readLengths_32 (by decide) ?_
        refine V_icmp_ne (tgt := 43) d_Unpacker_readLengths_34 (by decide) (fun c34 => ?_) (fun c34 => ?_)
        · rw [if_neg c34] at h
          refine V_lv [1, 2, 3, 4, 0] rfl ?_
          exact b_Unpacker_readLengths_43_ok G F K4 hK4 v0 v1 v2 v3 r19.1 r19.2 _ h
        · rw [if_pos c34] at h
          refine V_iload_n (i := 2) d_Unpacker_readLengths_37 rfl 3 rfl ?_
          refine V_if_ne (tgt := 43) d_Unpacker_readLengths_38 (by decide) (fun c38 => ?_) (fun c38 => ?_)
          · rw [if_neg c38] at h
            refine V_lv [1, 2, 3, 4, 0] rfl ?_
            exact b_Unpacker_readLengths_43_ok G F K4 hK4 v0 v1 v2 v3 r19.1 r19.2 _ h
          · rw [if_pos c38] at h
            refine V_lv [] rfl ?_
            exact b_Unpacker_readLengths_41_ok G F r19.2 _ h
def l_Unpacker_readLengths_4 (F : Nat) : Nat → Nat → Int32 → Int32 → Int32 → zW → Option (Int32 × zW)
  | 0 => fun _ _ _ _ _ => none
  | n + 1 => b_Unpacker_readLengths_4 F (l_Unpacker_readLengths_4 F n)
theorem l_Unpacker_readLengths_4_ok (G : zG) (F : Nat) (n : Nat) :  ∀ (v0 : Nat) (v1 : Int32) (v2 : Int32) (v3 : Int32) (w : zW) (r : (Int32 × zW)), l_Unpacker_readLengths_4 F n v0 v1 v2 v3 w = some r → zV G m_Unpacker_readLengths 4 [(0, .ref (z0 G + v0)), (1, .int v1), (2, .int v2), (3, .int v3)] [] w 0 0 (oI r.1) r.2 := by
  induction n with
  | zero => intro v0 v1 v2 v3 w r h; exact nomatch (show (none : Option (Int32 × zW)) = some r from h)
  | succ n ih => intro v0 v1 v2 v3 w r h; exact b_Unpacker_readLengths_4_ok G F (l_Unpacker_readLengths_4 F n) ih v0 v1 v2 v3 w r h
def b_Unpacker_readLengths_0 (F : Nat) (v0 : Nat) (v1 : Int32) (w : zW) : Option (Int32 × zW) := l_Unpacker_readLengths_4 F F v0 v1 (0 : Int32) (0 : Int32) w
set_option maxRecDepth 100000 in
set_option maxHeartbeats 4000000 in
theorem b_Unpacker_readLengths_0_ok (G : zG) (F : Nat) (v0 : Nat) (v1 : Int32) (w : zW) (r : (Int32 × zW)) (h : b_Unpacker_readLengths_0 F v0 v1 w = some r) : zV G m_Unpacker_readLengths 0 [(0, .ref (z0 G + v0)), (1, .int v1)] [] w 0 0 (oI r.1) r.2 := by
  unfold b_Unpacker_readLengths_0 at h
  refine V_iconst (v := 0) d_Unpacker_readLengths_0 (by decide) ?_
  refine V_istore_n (i := 2) d_Unpacker_readLengths_1 rfl (by decide) rfl ?_
  refine V_iconst (v := 0) d_Unpacker_readLengths_2 (by decide) ?_
  refine V_istore_n (i := 3) d_Unpacker_readLengths_3 rfl (by decide) rfl ?_
  refine V_lv [2, 3, 1, 0] rfl ?_
  exact l_Unpacker_readLengths_4_ok G F F v0 v1 (0 : Int32) (0 : Int32) w _ h
def f_Unpacker_readLengths (F : Nat) (v0 : Nat) (v1 : Int32) (w : zW) : Option (Int32 × zW) := b_Unpacker_readLengths_0 F v0 v1 w
theorem c_Unpacker_readLengths (G : zG) (F : Nat) (v0 : Nat) (v1 : Int32) (w : zW) (r : (Int32 × zW)) (h : f_Unpacker_readLengths F v0 v1 w = some r) : zCT G m_Unpacker_readLengths [.ref (z0 G + v0), .int v1] w (oI r.1) r.2 := zCT.ofV (by decide +kernel) (Or.inl ⟨kc_Unpacker_readLengths, rfl⟩) (Nat.le_of_ble_eq_true rfl) (b_Unpacker_readLengths_0_ok G F v0 v1 w r h)

/-! ZipArray$Unpacker.readCodes()Z -/
def m_Unpacker_readCodes : zM := (⟨R_Unpacker, "readCodes", "()Z"⟩, prog_8_method_8_code, 6, (some .boolean), [], { frames := 2, cells := 0, slots := 0, locals := 54 })
theorem k520 : Cond.methodLink R_Unpacker 95 (mY m_Unpacker_readLengths) ∈ zTb := tb_at 520 (by decide +kernel) rfl
theorem k522 : Cond.instanceMethod (mY m_Unpacker_readLengths) ∈ zTb := tb_at 522 (by decide +kernel) rfl
theorem kc_Unpacker_readCodes : Cond.code (mY m_Unpacker_readCodes) (mC m_Unpacker_readCodes) (mL m_Unpacker_readCodes) (mT m_Unpacker_readCodes) ∈ zTb := tb_at 519 (by decide +kernel) rfl
theorem y_Unpacker_readCodes : (mY m_Unpacker_readCodes).cls ≠ "java/lang/invoke/MethodHandle" ∧ (mY m_Unpacker_readCodes).cls ≠ "java/lang/invoke/VarHandle" ∧ (parseMethodDescriptor (mY m_Unpacker_readCodes).desc).map (fun d => d.parameters.length) = some 0 := by decide +kernel
theorem sel_Unpacker_readCodes : Cond.selects R_Unpacker (mY m_Unpacker_readCodes) (mY m_Unpacker_readCodes) ∈ zTb := sel_at (y := mY m_Unpacker_readCodes) (n := 8) 22 (by decide +kernel)
theorem d_Unpacker_readCodes_0 : decode (mC m_Unpacker_readCodes) 0 = .ok (.aload_n 0, 1) := by decide +kernel
theorem d_Unpacker_readCodes_1 : decode (mC m_Unpacker_readCodes) 1 = .ok (.iconst 5, 1) := by decide +kernel
theorem d_Unpacker_readCodes_2 : decode (mC m_Unpacker_readCodes) 2 = .ok (.invokevirtual 52, 3) := by decide +kernel
theorem d_Unpacker_readCodes_5 : decode (mC m_Unpacker_readCodes) 5 = .ok (.istore_n 1, 1) := by decide +kernel
theorem d_Unpacker_readCodes_6 : decode (mC m_Unpacker_readCodes) 6 = .ok (.aload_n 0, 1) := by decide +kernel
theorem d_Unpacker_readCodes_7 : decode (mC m_Unpacker_readCodes) 7 = .ok (.iconst 5, 1) := by decide +kernel
theorem d_Unpacker_readCodes_8 : decode (mC m_Unpacker_readCodes) 8 = .ok (.invokevirtual 52, 3) := by decide +kernel
theorem d_Unpacker_readCodes_11 : decode (mC m_Unpacker_readCodes) 11 = .ok (.istore_n 2, 1) := by decide +kernel
theorem d_Unpacker_readCodes_12 : decode (mC m_Unpacker_readCodes) 12 = .ok (.aload_n 0, 1) := by decide +kernel
theorem d_Unpacker_readCodes_13 : decode (mC m_Unpacker_readCodes) 13 = .ok (.iconst 4, 1) := by decide +kernel
theorem d_Unpacker_readCodes_14 : decode (mC m_Unpacker_readCodes) 14 = .ok (.invokevirtual 52, 3) := by decide +kernel
theorem d_Unpacker_readCodes_17 : decode (mC m_Unpacker_readCodes) 17 = .ok (.istore_n 3, 1) := by decide +kernel
theorem d_Unpacker_readCodes_18 : decode (mC m_Unpacker_readCodes) 18 = .ok (.iload_n 3, 1) := by decide +kernel
theorem d_Unpacker_readCodes_19 : decode (mC m_Unpacker_readCodes) 19 = .ok (.iconst (-1), 1) := by decide +kernel
theorem d_Unpacker_readCodes_20 : decode (mC m_Unpacker_readCodes) 20 = .ok (.if_icmp .ne 5, 3) := by decide +kernel
theorem d_Unpacker_readCodes_23 : decode (mC m_Unpacker_readCodes) 23 = .ok (.iconst 0, 1) := by decide +kernel
theorem d_Unpacker_readCodes_24 : decode (mC m_Unpacker_readCodes) 24 = .ok (.ireturn, 1) := by decide +kernel
theorem d_Unpacker_readCodes_25 : decode (mC m_Unpacker_readCodes) 25 = .ok (.iconst 0, 1) := by decide +kernel
theorem d_Unpacker_readCodes_26 : decode (mC m_Unpacker_readCodes) 26 = .ok (.istore 4, 2) := by decide +kernel
theorem d_Unpacker_readCodes_28 : decode (mC m_Unpacker_readCodes) 28 = .ok (.iload 4, 2) := by decide +kernel
theorem d_Unpacker_readCodes_30 : decode (mC m_Unpacker_readCodes) 30 = .ok (.getstatic 20, 3) := by decide +kernel
theorem d_Unpacker_readCodes_33 : decode (mC m_Unpacker_readCodes) 33 = .ok (.arraylength, 1) := by decide +kernel
theorem d_Unpacker_readCodes_34 : decode (mC m_Unpacker_readCodes) 34 = .ok (.if_icmp .ge 49, 3) := by decide +kernel
theorem d_Unpacker_readCodes_37 : decode (mC m_Unpacker_readCodes) 37 = .ok (.iload 4, 2) := by decide +kernel
theorem d_Unpacker_readCodes_39 : decode (mC m_Unpacker_readCodes) 39 = .ok (.iload_n 3, 1) := by decide +kernel
theorem d_Unpacker_readCodes_40 : decode (mC m_Unpacker_readCodes) 40 = .ok (.iconst 4, 1) := by decide +kernel
theorem d_Unpacker_readCodes_41 : decode (mC m_Unpacker_readCodes) 41 = .ok (.iadd, 1) := by decide +kernel
theorem d_Unpacker_readCodes_42 : decode (mC m_Unpacker_readCodes) 42 = .ok (.if_icmp .ge 11, 3) := by decide +kernel
theorem d_Unpacker_readCodes_45 : decode (mC m_Unpacker_readCodes) 45 = .ok (.aload_n 0, 1) := by decide +kernel
theorem d_Unpacker_readCodes_46 : decode (mC m_Unpacker_readCodes) 46 = .ok (.iconst 3, 1) := by decide +kernel
theorem d_Unpacker_readCodes_47 : decode (mC m_Unpacker_readCodes) 47 = .ok (.invokevirtual 52, 3) := by decide +kernel
theorem d_Unpacker_readCodes_50 : decode (mC m_Unpacker_readCodes) 50 = .ok (.goto 4, 3) := by decide +kernel
theorem d_Unpacker_readCodes_53 : decode (mC m_Unpacker_readCodes) 53 = .ok (.iconst 0, 1) := by decide +kernel
theorem d_Unpacker_readCodes_54 : decode (mC m_Unpacker_readCodes) 54 = .ok (.istore 5, 2) := by decide +kernel
theorem d_Unpacker_readCodes_56 : decode (mC m_Unpacker_readCodes) 56 = .ok (.iload 5, 2) := by decide +kernel
theorem d_Unpacker_readCodes_58 : decode (mC m_Unpacker_readCodes) 58 = .ok (.iconst (-1), 1) := by decide +kernel
theorem d_Unpacker_readCodes_59 : decode (mC m_Unpacker_readCodes) 59 = .ok (.if_icmp .ne 5, 3) := by decide +kernel
theorem d_Unpacker_readCodes_62 : decode (mC m_Unpacker_readCodes) 62 = .ok (.iconst 0, 1) := by decide +kernel
theorem d_Unpacker_readCodes_63 : decode (mC m_Unpacker_readCodes) 63 = .ok (.ireturn, 1) := by decide +kernel
theorem d_Unpacker_readCodes_64 : decode (mC m_Unpacker_readCodes) 64 = .ok (.aload_n 0, 1) := by decide +kernel
theorem d_Unpacker_readCodes_65 : decode (mC m_Unpacker_readCodes) 65 = .ok (.getfield 37, 3) := by decide +kernel
theorem d_Unpacker_readCodes_68 : decode (mC m_Unpacker_readCodes) 68 = .ok (.getstatic 20, 3) := by decide +kernel
theorem d_Unpacker_readCodes_71 : decode (mC m_Unpacker_readCodes) 71 = .ok (.iload 4, 2) := by decide +kernel
theorem d_Unpacker_readCodes_73 : decode (mC m_Unpacker_readCodes) 73 = .ok (.iaload, 1) := by decide +kernel
theorem d_Unpacker_readCodes_74 : decode (mC m_Unpacker_readCodes) 74 = .ok (.iload 5, 2) := by decide +kernel
theorem d_Unpacker_readCodes_76 : decode (mC m_Unpacker_readCodes) 76 = .ok (.iastore, 1) := by decide +kernel
theorem d_Unpacker_readCodes_77 : decode (mC m_Unpacker_readCodes) 77 = .ok (.iinc 4 1, 3) := by decide +kernel
theorem d_Unpacker_readCodes_80 : decode (mC m_Unpacker_readCodes) 80 = .ok (.goto (-52), 3) := by decide +kernel
theorem d_Unpacker_readCodes_83 : decode (mC m_Unpacker_readCodes) 83 = .ok (.aload_n 0, 1) := by decide +kernel
theorem d_Unpacker_readCodes_84 : decode (mC m_Unpacker_readCodes) 84 = .ok (.getfield 27, 3) := by decide +kernel
theorem d_Unpacker_readCodes_87 : decode (mC m_Unpacker_readCodes) 87 = .ok (.aload_n 0, 1) := by decide +kernel
theorem d_Unpacker_readCodes_88 : decode (mC m_Unpacker_readCodes) 88 = .ok (.getfield 37, 3) := by decide +kernel
theorem d_Unpacker_readCodes_91 : decode (mC m_Unpacker_readCodes) 91 = .ok (.iconst 0, 1) := by decide +kernel
theorem d_Unpacker_readCodes_92 : decode (mC m_Unpacker_readCodes) 92 = .ok (.getstatic 20, 3) := by decide +kernel
theorem d_Unpacker_readCodes_95 : decode (mC m_Unpacker_readCodes) 95 = .ok (.arraylength, 1) := by decide +kernel
theorem d_Unpacker_readCodes_96 : decode (mC m_Unpacker_readCodes) 96 = .ok (.invokevirtual 91, 3) := by decide +kernel
theorem d_Unpacker_readCodes_99 : decode (mC m_Unpacker_readCodes) 99 = .ok (.ifCond .eq 38, 3) := by decide +kernel
theorem d_Unpacker_readCodes_102 : decode (mC m_Unpacker_readCodes) 102 = .ok (.aload_n 0, 1) := by decide +kernel
theorem d_Unpacker_readCodes_103 : decode (mC m_Unpacker_readCodes) 103 = .ok (.iload_n 1, 1) := by decide +kernel
theorem d_Unpacker_readCodes_104 : decode (mC m_Unpacker_readCodes) 104 = .ok (.sipush 257, 3) := by decide +kernel
theorem d_Unpacker_readCodes_107 : decode (mC m_Unpacker_readCodes) 107 = .ok (.iadd, 1) := by decide +kernel
theorem d_Unpacker_readCodes_108 : decode (mC m_Unpacker_readCodes) 108 = .ok (.iload_n 2, 1) := by decide +kernel
theorem d_Unpacker_readCodes_109 : decode (mC m_Unpacker_readCodes) 109 = .ok (.iadd, 1) := by decide +kernel
theorem d_Unpacker_readCodes_110 : decode (mC m_Unpacker_readCodes) 110 = .ok (.iconst 1, 1) := by decide +kernel
theorem d_Unpacker_readCodes_111 : decode (mC m_Unpacker_readCodes) 111 = .ok (.iadd, 1) := by decide +kernel
theorem d_Unpacker_readCodes_112 : decode (mC m_Unpacker_readCodes) 112 = .ok (.invokevirtual 95, 3) := by decide +kernel
theorem d_Unpacker_readCodes_115 : decode (mC m_Unpacker_readCodes) 115 = .ok (.ifCond .eq 22, 3) := by decide +kernel
theorem d_Unpacker_readCodes_118 : decode (mC m_Unpacker_readCodes) 118 = .ok (.aload_n 0, 1) := by decide +kernel
theorem d_Unpacker_readCodes_119 : decode (mC m_Unpacker_readCodes) 119 = .ok (.iload_n 1, 1) := by decide +kernel
theorem d_Unpacker_readCodes_120 : decode (mC m_Unpacker_readCodes) 120 = .ok (.sipush 257, 3) := by decide +kernel
theorem d_Unpacker_readCodes_123 : decode (mC m_Unpacker_readCodes) 123 = .ok (.iadd, 1) := by decide +kernel
theorem d_Unpacker_readCodes_124 : decode (mC m_Unpacker_readCodes) 124 = .ok (.iload_n 2, 1) := by decide +kernel
theorem d_Unpacker_readCodes_125 : decode (mC m_Unpacker_readCodes) 125 = .ok (.iconst 1, 1) := by decide +kernel
theorem d_Unpacker_readCodes_126 : decode (mC m_Unpacker_readCodes) 126 = .ok (.iadd, 1) := by decide +kernel
theorem d_Unpacker_readCodes_127 : decode (mC m_Unpacker_readCodes) 127 = .ok (.invokevirtual 87, 3) := by decide +kernel
theorem d_Unpacker_readCodes_130 : decode (mC m_Unpacker_readCodes) 130 = .ok (.ifCond .eq 7, 3) := by decide +kernel
theorem d_Unpacker_readCodes_133 : decode (mC m_Unpacker_readCodes) 133 = .ok (.iconst 1, 1) := by decide +kernel
theorem d_Unpacker_readCodes_134 : decode (mC m_Unpacker_readCodes) 134 = .ok (.goto 4, 3) := by decide +kernel
theorem d_Unpacker_readCodes_137 : decode (mC m_Unpacker_readCodes) 137 = .ok (.iconst 0, 1) := by decide +kernel
theorem d_Unpacker_readCodes_138 : decode (mC m_Unpacker_readCodes) 138 = .ok (.ireturn, 1) := by decide +kernel
def b_Unpacker_readCodes_137 (F : Nat) (w : zW) : Option (Int32 × zW) := some ((0 : Int32), w)
set_option maxRecDepth 100000 in
set_option maxHeartbeats 4000000 in
theorem b_Unpacker_readCodes_137_ok (G : zG) (F : Nat) (w : zW) (r : (Int32 × zW)) (h : b_Unpacker_readCodes_137 F w = some r) : zV G m_Unpacker_readCodes 137 [] [] w 0 0 (oI r.1) r.2 := by
  unfold b_Unpacker_readCodes_137 at h
  refine V_iconst (v := 0) d_Unpacker_readCodes_137 (by decide) ?_
  obtain rfl := Option.some.inj h
  exact V_zret rfl (Or.inl rfl) (by decide) (by decide) d_Unpacker_readCodes_138
def b_Unpacker_readCodes_54 (F : Nat) (K28 : Nat → Int32 → Int32 → Int32 → Int32 → zW → Option (Int32 × zW)) (v0 : Nat) (v1 : Int32) (v2 : Int32) (v3 : Int32) (v4 : Int32) (s0 : Int32) (w : zW) : Option (Int32 × zW) := if s0 = (-1 : Int32) then (some ((0 : Int32), w)) else ((getR w v0 5 4).bind fun x65 => (ordget v4).bind fun x73 => (aset w x65 x73 s0).bind fun w76 => K28 v0 v1 v2 v3 (v4 + (1 : Int32)) w76)
set_option maxRecDepth 100000 in
set_option maxHeartbeats 4000000 in
theorem b_Unpacker_readCodes_54_ok (G : zG) (F : Nat) (K28 : Nat → Int32 → Int32 → Int32 → Int32 → zW → Option (Int32 × zW)) (hK28 : ∀ (v0 : Nat) (v1 : Int32) (v2 : Int32) (v3 : Int32) (v4 : Int32) (w : zW) (r : (Int32 × zW)), K28 v0 v1 v2 v3 v4 w = some r → zV G m_Unpacker_readCodes 28 [(0, .ref (z0 G + v0)), (1, .int v1), (2, .int v2), (3, .int v3), (4, .int v4)] [] w 0 0 (oI r.1) r.2) (v0 : Nat) (v1 : Int32) (v2 : Int32) (v3 : Int32) (v4 : Int32) (s0 : Int32) (w : zW) (r : (Int32 × zW)) (h : b_Unpacker_readCodes_54 F K28 v0 v1 v2 v3 v4 s0 w = some r) : zV G m_Unpacker_readCodes 54 [(0, .ref (z0 G + v0)), (1, .int v1), (2, .int v2), (3, .int v3), (4, .int v4)] [.int s0] w 0 0 (oI r.1) r.2 := by
  unfold b_Unpacker_readCodes_54 at h
  refine V_istore (i := 5) d_Unpacker_readCodes_54 (by decide) rfl ?_
  refine V_iload (i := 5) d_Unpacker_readCodes_56 0 rfl ?_
  refine V_iconst (v := -1) d_Unpacker_readCodes_58 (by decide) ?_
  refine V_icmp_ne (tgt := 64) d_Unpacker_readCodes_59 (by decide) (fun c59 => ?_) (fun c59 => ?_)
  · rw [if_neg c59] at h
    refine V_aload_n (i := 0) d_Unpacker_readCodes_64 rfl 1 rfl ?_
    obtain ⟨x65, e65, h⟩ := ob h
    refine V_getR (ci := 5) (k := 4) d_Unpacker_readCodes_65 e65 rfl (by decide) in_Unpacker k110 ?_
    refine V_ord d_Unpacker_readCodes_68 k88 ?_
    refine V_iload (i := 4) d_Unpacker_readCodes_71 5 rfl ?_
    obtain ⟨x73, e73, h⟩ := ob h
    refine V_ordget d_Unpacker_readCodes_73 e73 ?_
    refine V_iload (i := 5) d_Unpacker_readCodes_74 0 rfl ?_
    obtain ⟨w76, e76, h⟩ := ob h
    refine V_aset d_Unpacker_readCodes_76 e76 ?_
    refine V_iinc (i := 4) (v := (v4 + (1 : Int32))) d_Unpacker_readCodes_77 5 rfl (congrArg (fun y => v4 + y) (by decide : Int32.ofInt (1) = (1 : Int32))) (by decide) rfl ?_
    refine V_goto (tgt := 28) d_Unpacker_readCodes_80 (by decide) ?_
    refine V_lv [2, 3, 4, 5, 0] rfl ?_
    exact hK28 v0 v1 v2 v3 (v4 + (1 : Int32)) w76 _ h
  · rw [if_pos c59] at h
    refine V_iconst (v := 0) d_Unpacker_readCodes_62 (by decide) ?_
    obtain rfl := Option.some.inj h
    exact V_zret rfl (Or.inl rfl) (by decide) (by decide) d_Unpacker_readCodes_63
def b_Unpacker_readCodes_28 (F : Nat) (K28 : Nat → Int32 → Int32 → Int32 → Int32 → zW → Option (Int32 × zW)) (v0 : Nat) (v1 : Int32) (v2 : Int32) (v3 : Int32) (v4 : Int32) (w : zW) : Option (Int32 × zW) := if (19 : Int32) ≤ v4 then ((getR w v0 5 1).bind fun x84 => (getR w v0 5 4).bind fun x88 => (zobj w x84 4).bind fun _ => (f_Code_build F x84 x88 (0 : Int32) (19 : Int32) w).bind fun r96 => if r96.1 = 0 then (b_Unpacker_readCodes_137 F r96.2) else ((zobj r96.2 v0 5).bind fun _ => (f_Unpacker_readLengths F v0 (((v1 + (257 : Int32)) + v2) + (1 : Int32)) r96.2).bind fun r112 => if r112.1 = 0 then (b_Unpacker_readCodes_137 F r112.2) else ((zobj r112.2 v0 5).bind fun _ => (f_Unpacker_buildCodes F v0 (v1 + (257 : Int32)) (v2 + (1 : Int32)) r112.2).bind fun r127 => if r127.1 = 0 then (b_Unpacker_readCodes_137 F r127.2) else (some ((1 : Int32), r127.2))))) else (if (v3 + (4 : Int32)) ≤ v4 then (b_Unpacker_readCodes_54 F K28 v0 v1 v2 v3 v4 (0 : Int32) w) else ((zobj w v0 5).bind fun _ => (f_Unpacker_takeBits F v0 (3 : Int32) w).bind fun r47 => b_Unpacker_readCodes_54 F K28 v0 v1 v2 v3 v4 r47.1 r47.2))
set_option maxRecDepth 100000 in
set_option maxHeartbeats 4000000 in
theorem b_Unpacker_readCodes_28_ok (G : zG) (F : Nat) (K28 : Nat → Int32 → Int32 → Int32 → Int32 → zW → Option (Int32 × zW)) (hK28 : ∀ (v0 : Nat) (v1 : Int32) (v2 : Int32) (v3 : Int32) (v4 : Int32) (w : zW) (r : (Int32 × zW)), K28 v0 v1 v2 v3 v4 w = some r → zV G m_Unpacker_readCodes 28 [(0, .ref (z0 G + v0)), (1, .int v1), (2, .int v2), (3, .int v3), (4, .int v4)] [] w 0 0 (oI r.1) r.2) (v0 : Nat) (v1 : Int32) (v2 : Int32) (v3 : Int32) (v4 : Int32) (w : zW) (r : (Int32 × zW)) (h : b_Unpacker_readCodes_28 F K28 v0 v1 v2 v3 v4 w = some r) : zV G m_Unpacker_readCodes 28 [(0, .ref (z0 G + v0)), (1, .int v1), (2, .int v2), (3, .int v3), (4, .int v4)] [] w 0 0 (oI r.1) r.2 := by
  unfold b_Unpacker_readCodes_28 at h
  refine V_iload (i := 4) d_Unpacker_readCodes_28 4 rfl ?_
  refine V_ord d_Unpacker_readCodes_30 k88 ?_
  refine V_ordlen d_Unpacker_readCodes_33 ?_
  refine V_icmp_ge (tgt := 83) d_Unpacker_readCodes_34 (by decide) (fun c34 => ?_) (fun c34 => ?_)
  · rw [if_pos c34] at h
    refine V_aload_n (i := 0) d_Unpacker_readCodes_83 rfl 0 rfl ?_
    obtain ⟨x84, e84, h⟩ := ob h
    refine V_getR (ci := 5) (k := 1) d_Unpacker_readCodes_84 e84 rfl (by decide) in_Unpacker k107 ?_
    refine V_aload_n (i := 0) d_Unpacker_readCodes_87 rfl 0 rfl ?_
    obtain ⟨x88, e88, h⟩ := ob h
    refine V_getR (ci := 5) (k := 4) d_Unpacker_readCodes_88 e88 rfl (by decide) in_Unpacker k110 ?_
    refine V_iconst (v := 0) d_Unpacker_readCodes_91 (by decide) ?_
    refine V_ord d_Unpacker_readCodes_92 k88 ?_
    refine V_ordlen d_Unpacker_readCodes_95 ?_
    obtain ⟨_, eo96, h⟩ := ob h
    obtain ⟨r96, e96, h⟩ := ob h
    refine V_call (v := some (.int r96.1)) (st := []) (inv_V (N := m_Code_build) (As := [.ref (z0 G + x88), .int (0 : Int32), .int (19 : Int32)]) (ci := 4) d_Unpacker_readCodes_96 eo96 rfl k490 k491 k492 kc_Code_build y_Code_build) ⟨Or.inl kc_Code_build, k5, by decide, by decide⟩ (Nat.le_of_ble_eq_true rfl) (by decide) (by decide) (c_Code_build G F x84 x88 (0 : Int32) (19 : Int32) w r96 e96) ?_
    refine V_if_eq (tgt := 137) d_Unpacker_readCodes_99 (by decide) (fun c99 => ?_) (fun c99 => ?_)
    · rw [if_pos c99] at h
      refine V_lv [] rfl ?_
      exact b_Unpacker_readCodes_137_ok G F r96.2 _ h
    · rw [if_neg c99] at h
      refine V_aload_n (i := 0) d_Unpacker_readCodes_102 rfl 0 rfl ?_
      refine V_iload_n (i := 1) d_Unpacker_readCodes_103 rfl 1 rfl ?_
      refine V_sipush (v := 257) d_Unpacker_readCodes_104 (by decide) ?_
      refine V_iadd d_Unpacker_readCodes_107 ?_
      refine V_iload_n (i := 2) d_Unpacker_readCodes_108 rfl 2 rfl ?_
      refine V_iadd d_Unpacker_readCodes_109 ?_
      refine V_iconst (v := 1) d_Unpacker_readCodes_110 (by decide) ?_
      refine V_iadd d_Unpacker_readCodes_111 ?_
      obtain ⟨_, eo112, h⟩ := ob h
      obtain ⟨r112, e112, h⟩ := ob h
      refine V_call (v := some (.int r112.1)) (st := []) (inv_V (N := m_Unpacker_readLengths) (As := [.int (((v1 + (257 : Int32)) + v2) + (1 : Int32))]) (ci := 5) d_Unpacker_readCodes_112 eo112 rfl k520 k522 sel_Unpacker_readLengths kc_Unpacker_readLengths y_Unpacker_readLengths) ⟨Or.inl kc_Unpacker_readLengths, k4, by decide, by decide⟩ (Nat.le_of_ble_eq_true rfl) (by decide) (by decide) (c_Unpacker_readLengths G F v0 (((v1 + (257 : Int32)) + v2) + (1 : Int32)) r96.2 r112 e112) ?_
      refine V_if_eq (tgt := 137) d_Unpacker_readCodes_115 (by decide) (fun c115 => ?_) (fun c115 => ?_)
      · rw [if_pos c115] at h
        refine V_lv [] rfl ?_
        exact b_Unpacker_readCodes_137_ok G F r112.2 _ h
      · rw [if_neg c115] at h
        refine V_aload_n (i := 0) d_Unpacker_readCodes_118 rfl 0 rfl ?_
        refine V_iload_n (i := 1) d_Unpacker_readCodes_119 rfl 1 rfl ?_
        refine V_sipush (v := 257) d_Unpacker_readCodes_120 (by decide) ?_
        refine V_iadd d_Unpacker_readCodes_123 ?_
        refine V_iload_n (i := 2) d_Unpacker_readCodes_124 rfl 2 rfl ?_
        refine V_iconst (v := 1) d_Unpacker_readCodes_125 (by decide) ?_
        refine V_iadd d_Unpacker_readCodes_126 ?_
        obtain ⟨_, eo127, h⟩ := ob h
        obtain ⟨r127, e127, h⟩ := ob h
        refine V_call (v := some (.int r127.1)) (st := []) (inv_V (N := m_Unpacker_buildCodes) (As := [.int (v1 + (257 : Int32)), .int (v2 + (1 : Int32))]) (ci := 5) d_Unpacker_readCodes_127 eo127 rfl k486 k488 sel_Unpacker_buildCodes kc_Unpacker_buildCodes y_Unpacker_buildCodes) ⟨Or.inl kc_Unpacker_buildCodes, k4, by decide, by decide⟩ (Nat.le_of_ble_eq_true rfl) (by decide) (by decide) (c_Unpacker_buildCodes G F v0 (v1 + (257 : Int32)) (v2 + (1 : Int32)) r112.2 r127 e127) ?_
        refine V_if_eq (tgt := 137) d_Unpacker_readCodes_130 (by decide) (fun c130 => ?_) (fun c130 => ?_)
        · rw [if_pos c130] at h
          refine V_lv [] rfl ?_
          exact b_Unpacker_readCodes_137_ok G F r127.2 _ h
        · rw [if_neg c130] at h
          refine V_iconst (v := 1) d_Unpacker_readCodes_133 (by decide) ?_
          refine V_goto (tgt := 138) d_Unpacker_readCodes_134 (by decide) ?_
          obtain rfl := Option.some.inj h
          exact V_zret rfl (Or.inr rfl) (by decide) (by decide) d_Unpacker_readCodes_138
  · rw [if_neg c34] at h
    refine V_iload (i := 4) d_Unpacker_readCodes_37 4 rfl ?_
    refine V_iload_n (i := 3) d_Unpacker_readCodes_39 rfl 3 rfl ?_
    refine V_iconst (v := 4) d_Unpacker_readCodes_40 (by decide) ?_
    refine V_iadd d_Unpacker_readCodes_41 ?_
    refine V_icmp_ge (tgt := 53) d_Unpacker_readCodes_42 (by decide) (fun c42 => ?_) (fun c42 => ?_)
    · rw [if_pos c42] at h
      refine V_iconst (v := 0) d_Unpacker_readCodes_53 (by decide) ?_
      exact b_Unpacker_readCodes_54_ok G F K28 hK28 v0 v1 v2 v3 v4 (0 : Int32) w _ h
    · rw [if_neg c42] at h
      refine V_aload_n (i := 0) d_Unpacker_readCodes_45 rfl 0 rfl ?_
      refine V_iconst (v := 3) d_Unpacker_readCodes_46 (by decide) ?_
      obtain ⟨_, eo47, h⟩ := ob h
      obtain ⟨r47, e47, h⟩ := ob h
      refine V_call (v := some (.int r47.1)) (st := []) (inv_V (N := m_Unpacker_takeBits) (As := [.int (3 : Int32)]) (ci := 5) d_Unpacker_readCodes_47 eo47 rfl k472 k474 sel_Unpacker_takeBits kc_Unpacker_takeBits y_Unpacker_takeBits) ⟨Or.inl kc_Unpacker_takeBits, k4, by decide, by decide⟩ (Nat.le_of_ble_eq_true rfl) (by decide) (by decide) (c_Unpacker_takeBits G F v0 (3 : Int32) w r47 e47) ?_
      refine V_goto (tgt := 54) d_Unpacker_readCodes_50 (by decide) ?_
      exact b_Unpacker_readCodes_54_ok G F K28 hK28 v0 v1 v2 v3 v4 r47.1 r47.2 _ h
def l_Unpacker_readCodes_28 (F : Nat) : Nat → Nat → Int32 → Int32 → Int32 → Int32 → zW → Option (Int32 × zW)
  | 0 => fun _ _ _ _ _ _ => none
  | n + 1 => b_Unpacker_readCodes_28 F (l_Unpacker_readCodes_28 F n)
theorem l_Unpacker_readCodes_28_ok (G : zG) (F : Nat) (n : Nat) :  ∀ (v0 : Nat) (v1 : Int32) (v2 : Int32) (v3 : Int32) (v4 : Int32) (w : zW) (r : (Int32 × zW)), l_Unpacker_readCodes_28 F n v0 v1 v2 v3 v4 w = some r → zV G m_Unpacker_readCodes 28 [(0, .ref (z0 G + v0)), (1, .int v1), (2, .int v2), (3, .int v3), (4, .int v4)] [] w 0 0 (oI r.1) r.2 := by
  induction n with
  | zero => intro v0 v1 v2 v3 v4 w r h; exact nomatch (show (none : Option (Int32 × zW)) = some r from h)
  | succ n ih => intro v0 v1 v2 v3 v4 w r h; exact b_Unpacker_readCodes_28_ok G F (l_Unpacker_readCodes_28 F n) ih v0 v1 v2 v3 v4 w r h
def b_Unpacker_readCodes_0 (F : Nat) (v0 : Nat) (w : zW) : Option (Int32 × zW) := (zobj w v0 5).bind fun _ => (f_Unpacker_takeBits F v0 (5 : Int32) w).bind fun r2 => (zobj r2.2 v0 5).bind fun _ => (f_Unpacker_takeBits F v0 (5 : Int32) r2.2).bind fun r8 => (zobj r8.2 v0 5).bind fun _ => (f_Unpacker_takeBits F v0 (4 : Int32) r8.2).bind fun r14 => if r14.1 = (-1 : Int32) then (some ((0 : Int32), r14.2)) else (l_Unpacker_readCodes_28 F F v0 r2.1 r8.1 r14.1 (0 : Int32) r14.2)
set_option maxRecDepth 100000 in
set_option maxHeartbeats 4000000 in
theorem b_Unpacker_readCodes_0_ok (G : zG) (F : Nat) (v0 : Nat) (w : zW) (r : (Int32 × zW)) (h : b_Unpacker_readCodes_0 F v0 w = some r) : zV G m_Unpacker_readCodes 0 [(0, .ref (z0 G + v0))] [] w 0 0 (oI r.1) r.2 := by
  unfold b_Unpacker_readCodes_0 at h
  refine V_aload_n (i := 0) d_Unpacker_readCodes_0 rfl 0 rfl ?_
  refine V_iconst (v := 5) d_Unpacker_readCodes_1 (by decide) ?_
  obtain ⟨_, eo2, h⟩ := ob h
  obtain ⟨r2, e2, h⟩ := ob h
  refine V_call (v := some (.int r2.1)) (st := []) (inv_V (N := m_Unpacker_takeBits) (As := [.int (5 : Int32)]) (ci := 5) d_Unpacker_readCodes_2 eo2 rfl k472 k474 sel_Unpacker_takeBits kc_Unpacker_takeBits y_Unpacker_takeBits) ⟨Or.inl kc_Unpacker_takeBits, k4, by decide, by decide⟩ (Nat.le_of_ble_eq_true rfl) (by decide) (by decide) (c_Unpacker_takeBits G F v0 (5 : Int32) w r2 e2) ?_
  refine V_istore_n (i := 1) d_Unpacker_readCodes_5 rfl (by decide) rfl ?_
  refine V_aload_n (i := 0) d_Unpacker_readCodes_6 rfl 1 rfl ?_
  refine V_iconst (v := 5) d_Unpacker_readCodes_7 (by decide) ?_
  obtain ⟨_, eo8, h⟩ := ob h
  obtain ⟨r8, e8, h⟩ := ob h
  refine V_call (v := some (.int r8.1)) (st := []) (inv_V (N := m_Unpacker_takeBits) (As := [.int (5 : Int32)]) (ci := 5) d_Unpacker_readCodes_8 eo8 rfl k472 k474 sel_Unpacker_takeBits kc_Unpacker_takeBits y_Unpacker_takeBits) ⟨Or.inl kc_Unpacker_takeBits, k4, by decide, by decide⟩ (Nat.le_of_ble_eq_true rfl) (by decide) (by decide) (c_Unpacker_takeBits G F v0 (5 : Int32) r2.2 r8 e8) ?_
  refine V_istore_n (i := 2) d_Unpacker_readCodes_11 rfl (by decide) rfl ?_
  refine V_aload_n (i := 0) d_Unpacker_readCodes_12 rfl 2 rfl ?_
  refine V_iconst (v := 4) d_Unpacker_readCodes_13 (by decide) ?_
  obtain ⟨_, eo14, h⟩ := ob h
  obtain ⟨r14, e14, h⟩ := ob h
  refine V_call (v := some (.int r14.1)) (st := []) (inv_V (N := m_Unpacker_takeBits) (As := [.int (4 : Int32)]) (ci := 5) d_Unpacker_readCodes_14 eo14 rfl k472 k474 sel_Unpacker_takeBits kc_Unpacker_takeBits y_Unpacker_takeBits) ⟨Or.inl kc_Unpacker_takeBits, k4, by decide, by decide⟩ (Nat.le_of_ble_eq_true rfl) (by decide) (by decide) (c_Unpacker_takeBits G F v0 (4 : Int32) r8.2 r14 e14) ?_
  refine V_istore_n (i := 3) d_Unpacker_readCodes_17 rfl (by decide) rfl ?_
  refine V_iload_n (i := 3) d_Unpacker_readCodes_18 rfl 0 rfl ?_
  refine V_iconst (v := -1) d_Unpacker_readCodes_19 (by decide) ?_
  refine V_icmp_ne (tgt := 25) d_Unpacker_readCodes_20 (by decide) (fun c20 => ?_) (fun c20 => ?_)
  · rw [if_neg c20] at h
    refine V_iconst (v := 0) d_Unpacker_readCodes_25 (by decide) ?_
    refine V_istore (i := 4) d_Unpacker_readCodes_26 (by decide) rfl ?_
    refine V_lv [4, 3, 2, 1, 0] rfl ?_
    exact l_Unpacker_readCodes_28_ok G F F v0 r2.1 r8.1 r14.1 (0 : Int32) r14.2 _ h
  · rw [if_pos c20] at h
    refine V_iconst (v := 0) d_Unpacker_readCodes_23 (by decide) ?_
    obtain rfl := Option.some.inj h
    exact V_zret rfl (Or.inl rfl) (by decide) (by decide) d_Unpacker_readCodes_24
def f_Unpacker_readCodes (F : Nat) (v0 : Nat) (w : zW) : Option (Int32 × zW) := b_Unpacker_readCodes_0 F v0 w
theorem c_Unpacker_readCodes (G : zG) (F : Nat) (v0 : Nat) (w : zW) (r : (Int32 × zW)) (h : f_Unpacker_readCodes F v0 w = some r) : zCT G m_Unpacker_readCodes [.ref (z0 G + v0)] w (oI r.1) r.2 := zCT.ofV (by decide +kernel) (Or.inl ⟨kc_Unpacker_readCodes, rfl⟩) (Nat.le_of_ble_eq_true rfl) (b_Unpacker_readCodes_0_ok G F v0 w r h)
