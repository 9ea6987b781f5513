/-! ZipArray.faultOf(I)I -/
def m_Zip_faultOf : zM := (⟨R_Zip, "faultOf", "(I)I"⟩, prog_1_method_28_code, 4, (some .int), [], { frames := 5, cells := 0, slots := 0, locals := 128 })
theorem k440 : Cond.methodLink R_Zip 228 (mY m_Archive_contentStart) ∈ zTb := tb_at 440 (by decide +kernel) rfl
theorem k449 : Cond.methodLink R_Zip 232 (mY m_Archive_goesTooFar) ∈ zTb := tb_at 449 (by decide +kernel) rfl
theorem k450 : Cond.instanceMethod (mY m_Archive_goesTooFar) ∈ zTb := tb_at 450 (by decide +kernel) rfl
theorem k451 : Cond.selects R_Archive (mY m_Archive_goesTooFar) (mY m_Archive_goesTooFar) ∈ zTb := tb_at 451 (by decide +kernel) rfl
theorem k458 : Cond.methodLink R_Zip 236 (mY m_Archive_saidBehind) ∈ zTb := tb_at 458 (by decide +kernel) rfl
theorem k459 : Cond.instanceMethod (mY m_Archive_saidBehind) ∈ zTb := tb_at 459 (by decide +kernel) rfl
theorem k460 : Cond.selects R_Archive (mY m_Archive_saidBehind) (mY m_Archive_saidBehind) ∈ zTb := tb_at 460 (by decide +kernel) rfl
theorem k463 : Cond.methodLink R_Zip 240 (mY m_Zip_givesOut) ∈ zTb := tb_at 463 (by decide +kernel) rfl
theorem k465 : Cond.instanceMethod (mY m_Zip_givesOut) ∈ zTb := tb_at 465 (by decide +kernel) rfl
theorem kc_Zip_faultOf : Cond.code (mY m_Zip_faultOf) (mC m_Zip_faultOf) (mL m_Zip_faultOf) (mT m_Zip_faultOf) ∈ zTb := tb_at 439 (by decide +kernel) rfl
theorem y_Zip_faultOf : (mY m_Zip_faultOf).cls ≠ "java/lang/invoke/MethodHandle" ∧ (mY m_Zip_faultOf).cls ≠ "java/lang/invoke/VarHandle" ∧ (parseMethodDescriptor (mY m_Zip_faultOf).desc).map (fun d => d.parameters.length) = some 1 := by decide +kernel
theorem sel_Zip_faultOf : Cond.selects R_Zip (mY m_Zip_faultOf) (mY m_Zip_faultOf) ∈ zTb := sel_at (y := mY m_Zip_faultOf) (n := 9) 9 (by decide +kernel)
theorem d_Zip_faultOf_0 : decode (mC m_Zip_faultOf) 0 = .ok (.aload_n 0, 1) := by decide +kernel
theorem d_Zip_faultOf_1 : decode (mC m_Zip_faultOf) 1 = .ok (.getfield 46, 3) := by decide +kernel
theorem d_Zip_faultOf_4 : decode (mC m_Zip_faultOf) 4 = .ok (.getfield 176, 3) := by decide +kernel
theorem d_Zip_faultOf_7 : decode (mC m_Zip_faultOf) 7 = .ok (.iload_n 1, 1) := by decide +kernel
theorem d_Zip_faultOf_8 : decode (mC m_Zip_faultOf) 8 = .ok (.aaload, 1) := by decide +kernel
theorem d_Zip_faultOf_9 : decode (mC m_Zip_faultOf) 9 = .ok (.astore_n 2, 1) := by decide +kernel
theorem d_Zip_faultOf_10 : decode (mC m_Zip_faultOf) 10 = .ok (.aload_n 0, 1) := by decide +kernel
theorem d_Zip_faultOf_11 : decode (mC m_Zip_faultOf) 11 = .ok (.getfield 46, 3) := by decide +kernel
theorem d_Zip_faultOf_14 : decode (mC m_Zip_faultOf) 14 = .ok (.aload_n 2, 1) := by decide +kernel
theorem d_Zip_faultOf_15 : decode (mC m_Zip_faultOf) 15 = .ok (.invokevirtual 228, 3) := by decide +kernel
theorem d_Zip_faultOf_18 : decode (mC m_Zip_faultOf) 18 = .ok (.istore_n 3, 1) := by decide +kernel
theorem d_Zip_faultOf_19 : decode (mC m_Zip_faultOf) 19 = .ok (.iload_n 3, 1) := by decide +kernel
theorem d_Zip_faultOf_20 : decode (mC m_Zip_faultOf) 20 = .ok (.iconst (-1), 1) := by decide +kernel
theorem d_Zip_faultOf_21 : decode (mC m_Zip_faultOf) 21 = .ok (.if_icmp .ne 5, 3) := by decide +kernel
theorem d_Zip_faultOf_24 : decode (mC m_Zip_faultOf) 24 = .ok (.iconst 3, 1) := by decide +kernel
theorem d_Zip_faultOf_25 : decode (mC m_Zip_faultOf) 25 = .ok (.ireturn, 1) := by decide +kernel
theorem d_Zip_faultOf_26 : decode (mC m_Zip_faultOf) 26 = .ok (.aload_n 0, 1) := by decide +kernel
theorem d_Zip_faultOf_27 : decode (mC m_Zip_faultOf) 27 = .ok (.getfield 46, 3) := by decide +kernel
theorem d_Zip_faultOf_30 : decode (mC m_Zip_faultOf) 30 = .ok (.iload_n 1, 1) := by decide +kernel
theorem d_Zip_faultOf_31 : decode (mC m_Zip_faultOf) 31 = .ok (.iload_n 3, 1) := by decide +kernel
theorem d_Zip_faultOf_32 : decode (mC m_Zip_faultOf) 32 = .ok (.invokevirtual 232, 3) := by decide +kernel
theorem d_Zip_faultOf_35 : decode (mC m_Zip_faultOf) 35 = .ok (.ifCond .eq 5, 3) := by decide +kernel
theorem d_Zip_faultOf_38 : decode (mC m_Zip_faultOf) 38 = .ok (.iconst 4, 1) := by decide +kernel
theorem d_Zip_faultOf_39 : decode (mC m_Zip_faultOf) 39 = .ok (.ireturn, 1) := by decide +kernel
theorem d_Zip_faultOf_40 : decode (mC m_Zip_faultOf) 40 = .ok (.aload_n 0, 1) := by decide +kernel
theorem d_Zip_faultOf_41 : decode (mC m_Zip_faultOf) 41 = .ok (.getfield 46, 3) := by decide +kernel
theorem d_Zip_faultOf_44 : decode (mC m_Zip_faultOf) 44 = .ok (.aload_n 2, 1) := by decide +kernel
theorem d_Zip_faultOf_45 : decode (mC m_Zip_faultOf) 45 = .ok (.iload_n 3, 1) := by decide +kernel
theorem d_Zip_faultOf_46 : decode (mC m_Zip_faultOf) 46 = .ok (.aload_n 2, 1) := by decide +kernel
theorem d_Zip_faultOf_47 : decode (mC m_Zip_faultOf) 47 = .ok (.getfield 191, 3) := by decide +kernel
theorem d_Zip_faultOf_50 : decode (mC m_Zip_faultOf) 50 = .ok (.iadd, 1) := by decide +kernel
theorem d_Zip_faultOf_51 : decode (mC m_Zip_faultOf) 51 = .ok (.invokevirtual 236, 3) := by decide +kernel
theorem d_Zip_faultOf_54 : decode (mC m_Zip_faultOf) 54 = .ok (.ifCond .ne 5, 3) := by decide +kernel
theorem d_Zip_faultOf_57 : decode (mC m_Zip_faultOf) 57 = .ok (.iconst 5, 1) := by decide +kernel
theorem d_Zip_faultOf_58 : decode (mC m_Zip_faultOf) 58 = .ok (.ireturn, 1) := by decide +kernel
theorem d_Zip_faultOf_59 : decode (mC m_Zip_faultOf) 59 = .ok (.aload_n 0, 1) := by decide +kernel
theorem d_Zip_faultOf_60 : decode (mC m_Zip_faultOf) 60 = .ok (.aload_n 2, 1) := by decide +kernel
theorem d_Zip_faultOf_61 : decode (mC m_Zip_faultOf) 61 = .ok (.iload_n 3, 1) := by decide +kernel
theorem d_Zip_faultOf_62 : decode (mC m_Zip_faultOf) 62 = .ok (.invokevirtual 240, 3) := by decide +kernel
theorem d_Zip_faultOf_65 : decode (mC m_Zip_faultOf) 65 = .ok (.ifCond .ne 6, 3) := by decide +kernel
theorem d_Zip_faultOf_68 : decode (mC m_Zip_faultOf) 68 = .ok (.bipush 6, 2) := by decide +kernel
theorem d_Zip_faultOf_70 : decode (mC m_Zip_faultOf) 70 = .ok (.ireturn, 1) := by decide +kernel
theorem d_Zip_faultOf_71 : decode (mC m_Zip_faultOf) 71 = .ok (.aload_n 0, 1) := by decide +kernel
theorem d_Zip_faultOf_72 : decode (mC m_Zip_faultOf) 72 = .ok (.getfield 24, 3) := by decide +kernel
theorem d_Zip_faultOf_75 : decode (mC m_Zip_faultOf) 75 = .ok (.getfield 64, 3) := by decide +kernel
theorem d_Zip_faultOf_78 : decode (mC m_Zip_faultOf) 78 = .ok (.aload_n 2, 1) := by decide +kernel
theorem d_Zip_faultOf_79 : decode (mC m_Zip_faultOf) 79 = .ok (.getfield 194, 3) := by decide +kernel
theorem d_Zip_faultOf_82 : decode (mC m_Zip_faultOf) 82 = .ok (.if_icmp .eq 6, 3) := by decide +kernel
theorem d_Zip_faultOf_85 : decode (mC m_Zip_faultOf) 85 = .ok (.bipush 7, 2) := by decide +kernel
theorem d_Zip_faultOf_87 : decode (mC m_Zip_faultOf) 87 = .ok (.ireturn, 1) := by decide +kernel
theorem d_Zip_faultOf_88 : decode (mC m_Zip_faultOf) 88 = .ok (.aload_n 0, 1) := by decide +kernel
theorem d_Zip_faultOf_89 : decode (mC m_Zip_faultOf) 89 = .ok (.getfield 24, 3) := by decide +kernel
theorem d_Zip_faultOf_92 : decode (mC m_Zip_faultOf) 92 = .ok (.invokevirtual 101, 3) := by decide +kernel
theorem d_Zip_faultOf_95 : decode (mC m_Zip_faultOf) 95 = .ok (.aload_n 2, 1) := by decide +kernel
theorem d_Zip_faultOf_96 : decode (mC m_Zip_faultOf) 96 = .ok (.getfield 189, 3) := by decide +kernel
theorem d_Zip_faultOf_99 : decode (mC m_Zip_faultOf) 99 = .ok (.if_icmp .ne 7, 3) := by decide +kernel
theorem d_Zip_faultOf_102 : decode (mC m_Zip_faultOf) 102 = .ok (.iconst 0, 1) := by decide +kernel
theorem d_Zip_faultOf_103 : decode (mC m_Zip_faultOf) 103 = .ok (.goto 5, 3) := by decide +kernel
theorem d_Zip_faultOf_106 : decode (mC m_Zip_faultOf) 106 = .ok (.bipush 8, 2) := by decide +kernel
theorem d_Zip_faultOf_108 : decode (mC m_Zip_faultOf) 108 = .ok (.ireturn, 1) := by decide +kernel
def b_Zip_faultOf_0 (F : Nat) (v0 : Nat) (v1 : Int32) (w : zW) : Option (Int32 × zW) := (getR w v0 8 6).bind fun x1 => (getR w x1 6 2).bind fun x4 => (rget w x4 v1).bind fun x8 => (getR w v0 8 6).bind fun x11 => (zobj w x11 6).bind fun _ => (f_Archive_contentStart F x11 x8 w).bind fun r15 => if r15.1 = (-1 : Int32) then (some ((3 : Int32), r15.2)) else ((getR r15.2 v0 8 6).bind fun x27 => (zobj r15.2 x27 6).bind fun _ => (f_Archive_goesTooFar F x27 v1 r15.1 r15.2).bind fun r32 => if r32.1 = 0 then ((getR r32.2 v0 8 6).bind fun x41 => (getI r32.2 x8 1 4).bind fun x47 => (zobj r32.2 x41 6).bind fun _ => (f_Archive_saidBehind F x41 x8 (r15.1 + x47) r32.2).bind fun r51 => if r51.1 = 0 then (some ((5 : Int32), r51.2)) else ((zobj r51.2 v0 8).bind fun _ => (f_Zip_givesOut F v0 x8 r15.1 r51.2).bind fun r62 => if r62.1 = 0 then (some ((6 : Int32), r62.2)) else ((getR r62.2 v0 8 3).bind fun x72 => (getI r62.2 x72 0 1).bind fun x75 => (getI r62.2 x8 1 5).bind fun x79 => if x75 = x79 then ((getR r62.2 v0 8 3).bind fun x89 => (zobj r62.2 x89 0).bind fun _ => (f_Row_checksum F x89 r62.2).bind fun r92 => (getI r92.2 x8 1 3).bind fun x96 => if r92.1 = x96 then (some ((0 : Int32), r92.2)) else (some ((8 : Int32), r92.2))) else (some ((7 : Int32), r62.2))))) else (some ((4 : Int32), r32.2)))
set_option maxRecDepth 100000 in
set_option maxHeartbeats 4000000 in
theorem b_Zip_faultOf_0_ok (G : zG) (F : Nat) (v0 : Nat) (v1 : Int32) (w : zW) (r : (Int32 × zW)) (h : b_Zip_faultOf_0 F v0 v1 w = some r) : zV G m_Zip_faultOf 0 [(0, .ref (z0 G + v0)), (1, .int v1)] [] w 0 0 (oI r.1) r.2 := by
  unfold b_Zip_faultOf_0 at h
  refine V_aload_n (i := 0) d_Zip_faultOf_0 rfl 0 rfl ?_
  obtain ⟨x1, e1, h⟩ := ob h
  refine V_getR (ci := 8) (k := 6) d_Zip_faultOf_1 e1 rfl (by decide) in_Zip k261 ?_
  obtain ⟨x4, e4, h⟩ := ob h
  refine V_getR (ci := 6) (k := 2) d_Zip_faultOf_4 e4 rfl (by decide) in_Archive k215 ?_
  refine V_iload_n (i := 1) d_Zip_faultOf_7 rfl 1 rfl ?_
  obtain ⟨x8, e8, h⟩ := ob h
  refine V_rget d_Zip_faultOf_8 e8 ?_
  refine V_astore_n (i := 2) d_Zip_faultOf_9 rfl (by decide) rfl ?_
  refine V_aload_n (i := 0) d_Zip_faultOf_10 rfl 1 rfl ?_
  obtain ⟨x11, e11, h⟩ := ob h
  refine V_getR (ci := 8) (k := 6) d_Zip_faultOf_11 e11 rfl (by decide) in_Zip k261 ?_
  refine V_aload_n (i := 2) d_Zip_faultOf_14 rfl 0 rfl ?_
  obtain ⟨_, eo15, h⟩ := ob h
  obtain ⟨r15, e15, h⟩ := ob h
  refine V_call (v := some (.int r15.1)) (st := []) (inv_V (N := m_Archive_contentStart) (As := [.ref (z0 G + x8)]) (ci := 6) d_Zip_faultOf_15 eo15 rfl k440 k441 k442 kc_Archive_contentStart y_Archive_contentStart) ⟨Or.inl kc_Archive_contentStart, k6, by decide, by decide⟩ (Nat.le_of_ble_eq_true rfl) (by decide) (by decide) (c_Archive_contentStart G F x11 x8 w r15 e15) ?_
  refine V_istore_n (i := 3) d_Zip_faultOf_18 rfl (by decide) rfl ?_
  refine V_iload_n (i := 3) d_Zip_faultOf_19 rfl 0 rfl ?_
  refine V_iconst (v := -1) d_Zip_faultOf_20 (by decide) ?_
  refine V_icmp_ne (tgt := 26) d_Zip_faultOf_21 (by decide) (fun c21 => ?_) (fun c21 => ?_)
  · rw [if_neg c21] at h
    refine V_aload_n (i := 0) d_Zip_faultOf_26 rfl 2 rfl ?_
    obtain ⟨x27, e27, h⟩ := ob h
    refine V_getR (ci := 8) (k := 6) d_Zip_faultOf_27 e27 rfl (by decide) in_Zip k261 ?_
    refine V_iload_n (i := 1) d_Zip_faultOf_30 rfl 3 rfl ?_
    refine V_iload_n (i := 3) d_Zip_faultOf_31 rfl 0 rfl ?_
    obtain ⟨_, eo32, h⟩ := ob h
    obtain ⟨r32, e32, h⟩ := ob h
    refine V_call (v := some (.int r32.1)) (st := []) (inv_V (N := m_Archive_goesTooFar) (As := [.int v1, .int r15.1]) (ci := 6) d_Zip_faultOf_32 eo32 rfl k449 k450 k451 kc_Archive_goesTooFar y_Archive_goesTooFar) ⟨Or.inl kc_Archive_goesTooFar, k6, by decide, by decide⟩ (Nat.le_of_ble_eq_true rfl) (by decide) (by decide) (c_Archive_goesTooFar G F x27 v1 r15.1 r15.2 r32 e32) ?_
    refine V_if_eq (tgt := 40) d_Zip_faultOf_35 (by decide) (fun c35 => ?_) (fun c35 => ?_)
    · rw [if_pos c35] at h
      refine V_aload_n (i := 0) d_Zip_faultOf_40 rfl 2 rfl ?_
      obtain ⟨x41, e41, h⟩ := ob h
      refine V_getR (ci := 8) (k := 6) d_Zip_faultOf_41 e41 rfl (by decide) in_Zip k261 ?_
      refine V_aload_n (i := 2) d_Zip_faultOf_44 rfl 1 rfl ?_
      refine V_iload_n (i := 3) d_Zip_faultOf_45 rfl 0 rfl ?_
      refine V_aload_n (i := 2) d_Zip_faultOf_46 rfl 1 rfl ?_
      obtain ⟨x47, e47, h⟩ := ob h
      refine V_getI (ci := 1) (k := 4) d_Zip_faultOf_47 e47 rfl (by decide) in_Entry k182 ?_
      refine V_iadd d_Zip_faultOf_50 ?_
      obtain ⟨_, eo51, h⟩ := ob h
      obtain ⟨r51, e51, h⟩ := ob h
      refine V_call (v := some (.int r51.1)) (st := []) (inv_V (N := m_Archive_saidBehind) (As := [.ref (z0 G + x8), .int (r15.1 + x47)]) (ci := 6) d_Zip_faultOf_51 eo51 rfl k458 k459 k460 kc_Archive_saidBehind y_Archive_saidBehind) ⟨Or.inl kc_Archive_saidBehind, k6, by decide, by decide⟩ (Nat.le_of_ble_eq_true rfl) (by decide) (by decide) (c_Archive_saidBehind G F x41 x8 (r15.1 + x47) r32.2 r51 e51) ?_
      refine V_if_ne (tgt := 59) d_Zip_faultOf_54 (by decide) (fun c54 => ?_) (fun c54 => ?_)
      · rw [if_neg c54] at h
        refine V_aload_n (i := 0) d_Zip_faultOf_59 rfl 2 rfl ?_
        refine V_aload_n (i := 2) d_Zip_faultOf_60 rfl 1 rfl ?_
        refine V_iload_n (i := 3) d_Zip_faultOf_61 rfl 0 rfl ?_
        obtain ⟨_, eo62, h⟩ := ob h
        obtain ⟨r62, e62, h⟩ := ob h
        refine V_call (v := some (.int r62.1)) (st := []) (inv_V (N := m_Zip_givesOut) (As := [.ref (z0 G + x8), .int r15.1]) (ci := 8) d_Zip_faultOf_62 eo62 rfl k463 k465 sel_Zip_givesOut kc_Zip_givesOut y_Zip_givesOut) ⟨Or.inl kc_Zip_givesOut, k1, by decide, by decide⟩ (Nat.le_of_ble_eq_true rfl) (by decide) (by decide) (c_Zip_givesOut G F v0 x8 r15.1 r51.2 r62 e62) ?_
        refine V_if_ne (tgt := 71) d_Zip_faultOf_65 (by decide) (fun c65 => ?_) (fun c65 => ?_)
        · rw [if_neg c65] at h
          refine V_aload_n (i := 0) d_Zip_faultOf_71 rfl 2 rfl ?_
          obtain ⟨x72, e72, h⟩ := ob h
          refine V_getR (ci := 8) (k := 3) d_Zip_faultOf_72 e72 rfl (by decide) in_Zip k258 ?_
          obtain ⟨x75, e75, h⟩ := ob h
          refine V_getI (ci := 0) (k := 1) d_Zip_faultOf_75 e75 rfl (by decide) in_Row k42 ?_
          refine V_aload_n (i := 2) d_Zip_faultOf_78 rfl 1 rfl ?_
          obtain ⟨x79, e79, h⟩ := ob h
          refine V_getI (ci := 1) (k := 5) d_Zip_faultOf_79 e79 rfl (by decide) in_Entry k185 ?_
          refine V_icmp_eq (tgt := 88) d_Zip_faultOf_82 (by decide) (fun c82 => ?_) (fun c82 => ?_)
          · rw [if_pos c82] at h
            refine V_aload_n (i := 0) d_Zip_faultOf_88 rfl 2 rfl ?_
            obtain ⟨x89, e89, h⟩ := ob h
            refine V_getR (ci := 8) (k := 3) d_Zip_faultOf_89 e89 rfl (by decide) in_Zip k258 ?_
            obtain ⟨_, eo92, h⟩ := ob h
            obtain ⟨r92, e92, h⟩ := ob h
            refine V_call (v := some (.int r92.1)) (st := []) (inv_V (N := m_Row_checksum) (As := []) (ci := 0) d_Zip_faultOf_92 eo92 rfl k299 k300 k301 kc_Row_checksum y_Row_checksum) ⟨Or.inl kc_Row_checksum, k2, by decide, by decide⟩ (Nat.le_of_ble_eq_true rfl) (by decide) (by decide) (c_Row_checksum G F x89 r62.2 r92 e92) ?_
            refine V_aload_n (i := 2) d_Zip_faultOf_95 rfl 1 rfl ?_
            obtain ⟨x96, e96, h⟩ := ob h
            refine V_getI (ci := 1) (k := 3) d_Zip_faultOf_96 e96 rfl (by decide) in_Entry k179 ?_
            refine V_icmp_ne (tgt := 106) d_Zip_faultOf_99 (by decide) (fun c99 => ?_) (fun c99 => ?_)
            · rw [if_neg c99] at h
              refine V_bipush (v := 8) d_Zip_faultOf_106 (by decide) ?_
              obtain rfl := Option.some.inj h
              exact V_iret rfl (by decide) (by decide) d_Zip_faultOf_108
            · rw [if_pos c99] at h
              refine V_iconst (v := 0) d_Zip_faultOf_102 (by decide) ?_
              refine V_goto (tgt := 108) d_Zip_faultOf_103 (by decide) ?_
              obtain rfl := Option.some.inj h
              exact V_iret rfl (by decide) (by decide) d_Zip_faultOf_108
          · rw [if_neg c82] at h
            refine V_bipush (v := 7) d_Zip_faultOf_85 (by decide) ?_
            obtain rfl := Option.some.inj h
            exact V_iret rfl (by decide) (by decide) d_Zip_faultOf_87
        · rw [if_pos c65] at h
          refine V_bipush (v := 6) d_Zip_faultOf_68 (by decide) ?_
          obtain rfl := Option.some.inj h
          exact V_iret rfl (by decide) (by decide) d_Zip_faultOf_70
      · rw [if_pos c54] at h
        refine V_iconst (v := 5) d_Zip_faultOf_57 (by decide) ?_
        obtain rfl := Option.some.inj h
        exact V_iret rfl (by decide) (by decide) d_Zip_faultOf_58
    · rw [if_neg c35] at h
      refine V_iconst (v := 4) d_Zip_faultOf_38 (by decide) ?_
      obtain rfl := Option.some.inj h
      exact V_iret rfl (by decide) (by decide) d_Zip_faultOf_39
  · rw [if_pos c21] at h
    refine V_iconst (v := 3) d_Zip_faultOf_24 (by decide) ?_
    obtain rfl := Option.some.inj h
    exact V_iret rfl (by decide) (by decide) d_Zip_faultOf_25
def f_Zip_faultOf (F : Nat) (v0 : Nat) (v1 : Int32) (w : zW) : Option (Int32 × zW) := b_Zip_faultOf_0 F v0 v1 w
theorem c_Zip_faultOf (G : zG) (F : Nat) (v0 : Nat) (v1 : Int32) (w : zW) (r : (Int32 × zW)) (h : f_Zip_faultOf F v0 v1 w = some r) : zCT G m_Zip_faultOf [.ref (z0 G + v0), .int v1] w (oI r.1) r.2 := zCT.ofV (by decide +kernel) (Or.inl ⟨kc_Zip_faultOf, rfl⟩) (Nat.le_of_ble_eq_true rfl) (b_Zip_faultOf_0_ok G F v0 v1 w r h)

/-! ZipArray.load(I)I -/
def m_Zip_load : zM := (⟨R_Zip, "load", "(I)I"⟩, prog_1_method_14_code, 3, (some .int), [], { frames := 7, cells := 2, slots := 12, locals := 151 })
theorem k436 : Cond.methodLink R_Zip 173 (mY m_Zip_faultOf) ∈ zTb := tb_at 436 (by decide +kernel) rfl
theorem k438 : Cond.instanceMethod (mY m_Zip_faultOf) ∈ zTb := tb_at 438 (by decide +kernel) rfl
theorem kc_Zip_load : Cond.code (mY m_Zip_load) (mC m_Zip_load) (mL m_Zip_load) (mT m_Zip_load) ∈ zTb := tb_at 833 (by decide +kernel) rfl
theorem y_Zip_load : (mY m_Zip_load).cls ≠ "java/lang/invoke/MethodHandle" ∧ (mY m_Zip_load).cls ≠ "java/lang/invoke/VarHandle" ∧ (parseMethodDescriptor (mY m_Zip_load).desc).map (fun d => d.parameters.length) = some 1 := by decide +kernel
theorem d_Zip_load_0 : decode (mC m_Zip_load) 0 = .ok (.aload_n 0, 1) := by decide +kernel
theorem d_Zip_load_1 : decode (mC m_Zip_load) 1 = .ok (.invokevirtual 133, 3) := by decide +kernel
theorem d_Zip_load_4 : decode (mC m_Zip_load) 4 = .ok (.aload_n 0, 1) := by decide +kernel
theorem d_Zip_load_5 : decode (mC m_Zip_load) 5 = .ok (.getfield 46, 3) := by decide +kernel
theorem d_Zip_load_8 : decode (mC m_Zip_load) 8 = .ok (.iload_n 1, 1) := by decide +kernel
theorem d_Zip_load_9 : decode (mC m_Zip_load) 9 = .ok (.invokevirtual 142, 3) := by decide +kernel
theorem d_Zip_load_12 : decode (mC m_Zip_load) 12 = .ok (.istore_n 2, 1) := by decide +kernel
theorem d_Zip_load_13 : decode (mC m_Zip_load) 13 = .ok (.iload_n 2, 1) := by decide +kernel
theorem d_Zip_load_14 : decode (mC m_Zip_load) 14 = .ok (.iconst (-1), 1) := by decide +kernel
theorem d_Zip_load_15 : decode (mC m_Zip_load) 15 = .ok (.if_icmp .ne 11, 3) := by decide +kernel
theorem d_Zip_load_18 : decode (mC m_Zip_load) 18 = .ok (.new 170, 3) := by decide +kernel
theorem d_Zip_load_21 : decode (mC m_Zip_load) 21 = .ok (.dup, 1) := by decide +kernel
theorem d_Zip_load_22 : decode (mC m_Zip_load) 22 = .ok (.invokespecial 172, 3) := by decide +kernel
theorem d_Zip_load_25 : decode (mC m_Zip_load) 25 = .ok (.athrow, 1) := by decide +kernel
theorem d_Zip_load_26 : decode (mC m_Zip_load) 26 = .ok (.aload_n 0, 1) := by decide +kernel
theorem d_Zip_load_27 : decode (mC m_Zip_load) 27 = .ok (.iload_n 2, 1) := by decide +kernel
theorem d_Zip_load_28 : decode (mC m_Zip_load) 28 = .ok (.invokevirtual 173, 3) := by decide +kernel
theorem d_Zip_load_31 : decode (mC m_Zip_load) 31 = .ok (.ifCond .eq 11, 3) := by decide +kernel
theorem d_Zip_load_34 : decode (mC m_Zip_load) 34 = .ok (.new 115, 3) := by decide +kernel
theorem d_Zip_load_37 : decode (mC m_Zip_load) 37 = .ok (.dup, 1) := by decide +kernel
theorem d_Zip_load_38 : decode (mC m_Zip_load) 38 = .ok (.invokespecial 117, 3) := by decide +kernel
theorem d_Zip_load_41 : decode (mC m_Zip_load) 41 = .ok (.athrow, 1) := by decide +kernel
theorem d_Zip_load_42 : decode (mC m_Zip_load) 42 = .ok (.aload_n 0, 1) := by decide +kernel
theorem d_Zip_load_43 : decode (mC m_Zip_load) 43 = .ok (.getfield 14, 3) := by decide +kernel
theorem d_Zip_load_46 : decode (mC m_Zip_load) 46 = .ok (.aload_n 0, 1) := by decide +kernel
theorem d_Zip_load_47 : decode (mC m_Zip_load) 47 = .ok (.getfield 24, 3) := by decide +kernel
theorem d_Zip_load_50 : decode (mC m_Zip_load) 50 = .ok (.invokevirtual 108, 3) := by decide +kernel
theorem d_Zip_load_53 : decode (mC m_Zip_load) 53 = .ok (.aload_n 0, 1) := by decide +kernel
theorem d_Zip_load_54 : decode (mC m_Zip_load) 54 = .ok (.getfield 14, 3) := by decide +kernel
theorem d_Zip_load_57 : decode (mC m_Zip_load) 57 = .ok (.getfield 64, 3) := by decide +kernel
theorem d_Zip_load_60 : decode (mC m_Zip_load) 60 = .ok (.ireturn, 1) := by decide +kernel
def b_Zip_load_0 (F : Nat) (v0 : Nat) (v1 : Int32) (w : zW) : Option ((Int32 ⊕ Nat) × zW) := (zobj w v0 8).bind fun _ => (f_Zip_needArchive F v0 w).bind fun r => match r with | (.inl _, w1) => (getR w1 v0 8 6).bind fun x5 => (zobj w1 x5 6).bind fun _ => (f_Archive_find F x5 v1 w1).bind fun r9 => if r9.1 = (-1 : Int32) then (some (.inr r9.2.length, r9.2 ++ [.inr (.inr (.inr (15, [])))])) else ((zobj r9.2 v0 8).bind fun _ => (f_Zip_faultOf F v0 r9.1 r9.2).bind fun r28 => if r28.1 = 0 then ((getR r28.2 v0 8 0).bind fun x43 => (getR r28.2 v0 8 3).bind fun x47 => (zobj r28.2 x43 0).bind fun _ => (f_Row_become F x43 x47 r28.2).bind fun r50 => (getR r50.2 v0 8 0).bind fun x54 => (getI r50.2 x54 0 1).bind fun x57 => some ((.inl x57), r50.2)) else (some (.inr r28.2.length, r28.2 ++ [.inr (.inr (.inr (13, [])))]))) | (.inr qx1, w1) => some (.inr qx1, w1)
set_option maxRecDepth 100000 in
set_option maxHeartbeats 4000000 in
theorem b_Zip_load_0_ok (G : zG) (F : Nat) (v0 : Nat) (v1 : Int32) (w : zW) (r : ((Int32 ⊕ Nat) × zW)) (h : b_Zip_load_0 F v0 v1 w = some r) : zV G m_Zip_load 0 [(0, .ref (z0 G + v0)), (1, .int v1)] [] w 0 0 (oIT (z0 G) r.1) r.2 := by
  unfold b_Zip_load_0 at h
  refine V_aload_n (i := 0) d_Zip_load_0 rfl 0 rfl ?_
  obtain ⟨_, eo1, h⟩ := ob h
  obtain ⟨⟨x1 | qx1, w1⟩, e1, h⟩ := ob h
  · dsimp only at h
    refine V_call (v := none) (st := []) (inv_V (N := m_Zip_needArchive) (As := []) (ci := 8) d_Zip_load_1 eo1 rfl k738 k740 sel_Zip_needArchive kc_Zip_needArchive y_Zip_needArchive) ⟨Or.inl kc_Zip_needArchive, k1, by decide, by decide⟩ (Nat.le_of_ble_eq_true rfl) (by decide) (by decide) (c_Zip_needArchive G F v0 w _ e1) ?_
    refine V_aload_n (i := 0) d_Zip_load_4 rfl 0 rfl ?_
    obtain ⟨x5, e5, h⟩ := ob h
    refine V_getR (ci := 8) (k := 6) d_Zip_load_5 e5 rfl (by decide) in_Zip k261 ?_
    refine V_iload_n (i := 1) d_Zip_load_8 rfl 1 rfl ?_
    obtain ⟨_, eo9, h⟩ := ob h
    obtain ⟨r9, e9, h⟩ := ob h
    refine V_call (v := some (.int r9.1)) (st := []) (inv_V (N := m_Archive_find) (As := [.int v1]) (ci := 6) d_Zip_load_9 eo9 rfl k764 k433 k434 kc_Archive_find y_Archive_find) ⟨Or.inl kc_Archive_find, k6, by decide, by decide⟩ (Nat.le_of_ble_eq_true rfl) (by decide) (by decide) (c_Archive_find G F x5 v1 w1 r9 e9) ?_
    refine V_istore_n (i := 2) d_Zip_load_12 rfl (by decide) rfl ?_
    refine V_iload_n (i := 2) d_Zip_load_13 rfl 0 rfl ?_
    refine V_iconst (v := -1) d_Zip_load_14 (by decide) ?_
    refine V_icmp_ne (tgt := 26) d_Zip_load_15 (by decide) (fun c15 => ?_) (fun c15 => ?_)
    · rw [if_neg c15] at h
      refine V_aload_n (i := 0) d_Zip_load_26 rfl 1 rfl ?_
      refine V_iload_n (i := 2) d_Zip_load_27 rfl 0 rfl ?_
      obtain ⟨_, eo28, h⟩ := ob h
      obtain ⟨r28, e28, h⟩ := ob h
      refine V_call (v := some (.int r28.1)) (st := []) (inv_V (N := m_Zip_faultOf) (As := [.int r9.1]) (ci := 8) d_Zip_load_28 eo28 rfl k436 k438 sel_Zip_faultOf kc_Zip_faultOf y_Zip_faultOf) ⟨Or.inl kc_Zip_faultOf, k1, by decide, by decide⟩ (Nat.le_of_ble_eq_true rfl) (by decide) (by decide) (c_Zip_faultOf G F v0 r9.1 r9.2 r28 e28) ?_
      refine V_if_eq (tgt := 42) d_Zip_load_31 (by decide) (fun c31 => ?_) (fun c31 => ?_)
      · rw [if_pos c31] at h
        refine V_aload_n (i := 0) d_Zip_load_42 rfl 1 rfl ?_
        obtain ⟨x43, e43, h⟩ := ob h
        refine V_getR (ci := 8) (k := 0) d_Zip_load_43 e43 rfl (by decide) in_Zip k255 ?_
        refine V_aload_n (i := 0) d_Zip_load_46 rfl 1 rfl ?_
        obtain ⟨x47, e47, h⟩ := ob h
        refine V_getR (ci := 8) (k := 3) d_Zip_load_47 e47 rfl (by decide) in_Zip k258 ?_
        obtain ⟨_, eo50, h⟩ := ob h
        obtain ⟨r50, e50, h⟩ := ob h
        refine V_call (v := none) (st := []) (inv_V (N := m_Row_become) (As := [.ref (z0 G + x47)]) (ci := 0) d_Zip_load_50 eo50 rfl k346 k347 k348 kc_Row_become y_Row_become) ⟨Or.inl kc_Row_become, k2, by decide, by decide⟩ (Nat.le_of_ble_eq_true rfl) (by decide) (by decide) (c_Row_become G F x43 x47 r28.2 r50 e50) ?_
        refine V_aload_n (i := 0) d_Zip_load_53 rfl 1 rfl ?_
        obtain ⟨x54, e54, h⟩ := ob h
        refine V_getR (ci := 8) (k := 0) d_Zip_load_54 e54 rfl (by decide) in_Zip k255 ?_
        obtain ⟨x57, e57, h⟩ := ob h
        refine V_getI (ci := 0) (k := 1) d_Zip_load_57 e57 rfl (by decide) in_Row k42 ?_
        obtain rfl := Option.some.inj h
        exact V_iret rfl (by decide) (by decide) d_Zip_load_60
      · rw [if_neg c31] at h
        obtain rfl := Option.some.inj h
        exact V_throw (ci := 13) (X := R_AE) d_Zip_load_34 d_Zip_load_37 d_Zip_load_38 d_Zip_load_41 rfl (by decide +kernel) k715 k716 k19 (at_AE k724) (by decide) (by decide) (Nat.le_of_ble_eq_true rfl) (by decide) (by decide)
    · rw [if_pos c15] at h
      obtain rfl := Option.some.inj h
      exact V_throw (ci := 15) (X := R_NSEE) d_Zip_load_18 d_Zip_load_21 d_Zip_load_22 d_Zip_load_25 rfl (by decide +kernel) k812 k813 k21 (at_NSEE k821) (by decide) (by decide) (Nat.le_of_ble_eq_true rfl) (by decide) (by decide)
  · obtain rfl := Option.some.inj h
    exact V_callT (st := []) (inv_V (N := m_Zip_needArchive) (As := []) (ci := 8) d_Zip_load_1 eo1 rfl k738 k740 sel_Zip_needArchive kc_Zip_needArchive y_Zip_needArchive) ⟨Or.inl kc_Zip_needArchive, k1, by decide, by decide⟩ (Nat.le_of_ble_eq_true rfl) (by decide) (by decide) (c_Zip_needArchive G F v0 w _ e1) (by decide)
def f_Zip_load (F : Nat) (v0 : Nat) (v1 : Int32) (w : zW) : Option ((Int32 ⊕ Nat) × zW) := b_Zip_load_0 F v0 v1 w
theorem c_Zip_load (G : zG) (F : Nat) (v0 : Nat) (v1 : Int32) (w : zW) (r : ((Int32 ⊕ Nat) × zW)) (h : f_Zip_load F v0 v1 w = some r) : zCT G m_Zip_load [.ref (z0 G + v0), .int v1] w (oIT (z0 G) r.1) r.2 := zCT.ofV (by decide +kernel) (Or.inl ⟨kc_Zip_load, rfl⟩) (Nat.le_of_ble_eq_true rfl) (b_Zip_load_0_ok G F v0 v1 w r h)

/-! ZipArray.count()I -/
def m_Zip_count : zM := (⟨R_Zip, "count", "()I"⟩, prog_1_method_15_code, 1, (some .int), [], { frames := 7, cells := 1, slots := 6, locals := 142 })
theorem kc_Zip_count : Cond.code (mY m_Zip_count) (mC m_Zip_count) (mL m_Zip_count) (mT m_Zip_count) ∈ zTb := tb_at 840 (by decide +kernel) rfl
theorem y_Zip_count : (mY m_Zip_count).cls ≠ "java/lang/invoke/MethodHandle" ∧ (mY m_Zip_count).cls ≠ "java/lang/invoke/VarHandle" ∧ (parseMethodDescriptor (mY m_Zip_count).desc).map (fun d => d.parameters.length) = some 0 := by decide +kernel
theorem d_Zip_count_0 : decode (mC m_Zip_count) 0 = .ok (.aload_n 0, 1) := by decide +kernel
theorem d_Zip_count_1 : decode (mC m_Zip_count) 1 = .ok (.invokevirtual 133, 3) := by decide +kernel
theorem d_Zip_count_4 : decode (mC m_Zip_count) 4 = .ok (.aload_n 0, 1) := by decide +kernel
theorem d_Zip_count_5 : decode (mC m_Zip_count) 5 = .ok (.getfield 46, 3) := by decide +kernel
theorem d_Zip_count_8 : decode (mC m_Zip_count) 8 = .ok (.getfield 145, 3) := by decide +kernel
theorem d_Zip_count_11 : decode (mC m_Zip_count) 11 = .ok (.ireturn, 1) := by decide +kernel
def b_Zip_count_0 (F : Nat) (v0 : Nat) (w : zW) : Option ((Int32 ⊕ Nat) × zW) := (zobj w v0 8).bind fun _ => (f_Zip_needArchive F v0 w).bind fun r => match r with | (.inl _, w1) => (getR w1 v0 8 6).bind fun x5 => (getI w1 x5 6 3).bind fun x8 => some ((.inl x8), w1) | (.inr qx1, w1) => some (.inr qx1, w1)
set_option maxRecDepth 100000 in
set_option maxHeartbeats 4000000 in
theorem b_Zip_count_0_ok (G : zG) (F : Nat) (v0 : Nat) (w : zW) (r : ((Int32 ⊕ Nat) × zW)) (h : b_Zip_count_0 F v0 w = some r) : zV G m_Zip_count 0 [(0, .ref (z0 G + v0))] [] w 0 0 (oIT (z0 G) r.1) r.2 := by
  unfold b_Zip_count_0 at h
  refine V_aload_n (i := 0) d_Zip_count_0 rfl 0 rfl ?_
  obtain ⟨_, eo1, h⟩ := ob h
  obtain ⟨⟨x1 | qx1, w1⟩, e1, h⟩ := ob h
  · dsimp only at h
    refine V_call (v := none) (st := []) (inv_V (N := m_Zip_needArchive) (As := []) (ci := 8) d_Zip_count_1 eo1 rfl k738 k740 sel_Zip_needArchive kc_Zip_needArchive y_Zip_needArchive) ⟨Or.inl kc_Zip_needArchive, k1, by decide, by decide⟩ (Nat.le_of_ble_eq_true rfl) (by decide) (by decide) (c_Zip_needArchive G F v0 w _ e1) ?_
    refine V_aload_n (i := 0) d_Zip_count_4 rfl 0 rfl ?_
    obtain ⟨x5, e5, h⟩ := ob h
    refine V_getR (ci := 8) (k := 6) d_Zip_count_5 e5 rfl (by decide) in_Zip k261 ?_
    obtain ⟨x8, e8, h⟩ := ob h
    refine V_getI (ci := 6) (k := 3) d_Zip_count_8 e8 rfl (by decide) in_Archive k217 ?_
    obtain rfl := Option.some.inj h
    exact V_iret rfl (by decide) (by decide) d_Zip_count_11
  · obtain rfl := Option.some.inj h
    exact V_callT (st := []) (inv_V (N := m_Zip_needArchive) (As := []) (ci := 8) d_Zip_count_1 eo1 rfl k738 k740 sel_Zip_needArchive kc_Zip_needArchive y_Zip_needArchive) ⟨Or.inl kc_Zip_needArchive, k1, by decide, by decide⟩ (Nat.le_of_ble_eq_true rfl) (by decide) (by decide) (c_Zip_needArchive G F v0 w _ e1) (by decide)
def f_Zip_count (F : Nat) (v0 : Nat) (w : zW) : Option ((Int32 ⊕ Nat) × zW) := b_Zip_count_0 F v0 w
theorem c_Zip_count (G : zG) (F : Nat) (v0 : Nat) (w : zW) (r : ((Int32 ⊕ Nat) × zW)) (h : f_Zip_count F v0 w = some r) : zCT G m_Zip_count [.ref (z0 G + v0)] w (oIT (z0 G) r.1) r.2 := zCT.ofV (by decide +kernel) (Or.inl ⟨kc_Zip_count, rfl⟩) (Nat.le_of_ble_eq_true rfl) (b_Zip_count_0_ok G F v0 w r h)

/-! ZipArray.about(II)I -/
def m_Zip_about : zM := (⟨R_Zip, "about", "(II)I"⟩, prog_1_method_16_code, 4, (some .int), [], { frames := 7, cells := 2, slots := 12, locals := 142 })
theorem kc_Zip_about : Cond.code (mY m_Zip_about) (mC m_Zip_about) (mL m_Zip_about) (mT m_Zip_about) ∈ zTb := tb_at 847 (by decide +kernel) rfl
theorem y_Zip_about : (mY m_Zip_about).cls ≠ "java/lang/invoke/MethodHandle" ∧ (mY m_Zip_about).cls ≠ "java/lang/invoke/VarHandle" ∧ (parseMethodDescriptor (mY m_Zip_about).desc).map (fun d => d.parameters.length) = some 2 := by decide +kernel
theorem d_Zip_about_0 : decode (mC m_Zip_about) 0 = .ok (.aload_n 0, 1) := by decide +kernel
theorem d_Zip_about_1 : decode (mC m_Zip_about) 1 = .ok (.invokevirtual 133, 3) := by decide +kernel
theorem d_Zip_about_4 : decode (mC m_Zip_about) 4 = .ok (.iload_n 1, 1) := by decide +kernel
theorem d_Zip_about_5 : decode (mC m_Zip_about) 5 = .ok (.ifCond .lt 14, 3) := by decide +kernel
theorem d_Zip_about_8 : decode (mC m_Zip_about) 8 = .ok (.iload_n 1, 1) := by decide +kernel
theorem d_Zip_about_9 : decode (mC m_Zip_about) 9 = .ok (.aload_n 0, 1) := by decide +kernel
theorem d_Zip_about_10 : decode (mC m_Zip_about) 10 = .ok (.getfield 46, 3) := by decide +kernel
theorem d_Zip_about_13 : decode (mC m_Zip_about) 13 = .ok (.getfield 145, 3) := by decide +kernel
theorem d_Zip_about_16 : decode (mC m_Zip_about) 16 = .ok (.if_icmp .lt 11, 3) := by decide +kernel
theorem d_Zip_about_19 : decode (mC m_Zip_about) 19 = .ok (.new 94, 3) := by decide +kernel
theorem d_Zip_about_22 : decode (mC m_Zip_about) 22 = .ok (.dup, 1) := by decide +kernel
theorem d_Zip_about_23 : decode (mC m_Zip_about) 23 = .ok (.invokespecial 96, 3) := by decide +kernel
theorem d_Zip_about_26 : decode (mC m_Zip_about) 26 = .ok (.athrow, 1) := by decide +kernel
theorem d_Zip_about_27 : decode (mC m_Zip_about) 27 = .ok (.aload_n 0, 1) := by decide +kernel
theorem d_Zip_about_28 : decode (mC m_Zip_about) 28 = .ok (.getfield 46, 3) := by decide +kernel
theorem d_Zip_about_31 : decode (mC m_Zip_about) 31 = .ok (.getfield 176, 3) := by decide +kernel
theorem d_Zip_about_34 : decode (mC m_Zip_about) 34 = .ok (.iload_n 1, 1) := by decide +kernel
theorem d_Zip_about_35 : decode (mC m_Zip_about) 35 = .ok (.aaload, 1) := by decide +kernel
theorem d_Zip_about_36 : decode (mC m_Zip_about) 36 = .ok (.astore_n 3, 1) := by decide +kernel
theorem d_Zip_about_37 : decode (mC m_Zip_about) 37 = .ok (.iload_n 2, 1) := by decide +kernel
theorem d_Zip_about_38 : decode (mC m_Zip_about) 38 = .ok (.tableswitch 77 0 6 #[42, 47, 52, 57, 62, 67, 72], 42) := by decide +kernel
theorem d_Zip_about_80 : decode (mC m_Zip_about) 80 = .ok (.aload_n 3, 1) := by decide +kernel
theorem d_Zip_about_81 : decode (mC m_Zip_about) 81 = .ok (.getfield 180, 3) := by decide +kernel
theorem d_Zip_about_84 : decode (mC m_Zip_about) 84 = .ok (.ireturn, 1) := by decide +kernel
theorem d_Zip_about_85 : decode (mC m_Zip_about) 85 = .ok (.aload_n 3, 1) := by decide +kernel
theorem d_Zip_about_86 : decode (mC m_Zip_about) 86 = .ok (.getfield 183, 3) := by decide +kernel
theorem d_Zip_about_89 : decode (mC m_Zip_about) 89 = .ok (.ireturn, 1) := by decide +kernel
theorem d_Zip_about_90 : decode (mC m_Zip_about) 90 = .ok (.aload_n 3, 1) := by decide +kernel
theorem d_Zip_about_91 : decode (mC m_Zip_about) 91 = .ok (.getfield 186, 3) := by decide +kernel
theorem d_Zip_about_94 : decode (mC m_Zip_about) 94 = .ok (.ireturn, 1) := by decide +kernel
theorem d_Zip_about_95 : decode (mC m_Zip_about) 95 = .ok (.aload_n 3, 1) := by decide +kernel
theorem d_Zip_about_96 : decode (mC m_Zip_about) 96 = .ok (.getfield 189, 3) := by decide +kernel
theorem d_Zip_about_99 : decode (mC m_Zip_about) 99 = .ok (.ireturn, 1) := by decide +kernel
theorem d_Zip_about_100 : decode (mC m_Zip_about) 100 = .ok (.aload_n 3, 1) := by decide +kernel
theorem d_Zip_about_101 : decode (mC m_Zip_about) 101 = .ok (.getfield 191, 3) := by decide +kernel
theorem d_Zip_about_104 : decode (mC m_Zip_about) 104 = .ok (.ireturn, 1) := by decide +kernel
theorem d_Zip_about_105 : decode (mC m_Zip_about) 105 = .ok (.aload_n 3, 1) := by decide +kernel
theorem d_Zip_about_106 : decode (mC m_Zip_about) 106 = .ok (.getfield 194, 3) := by decide +kernel
theorem d_Zip_about_109 : decode (mC m_Zip_about) 109 = .ok (.ireturn, 1) := by decide +kernel
theorem d_Zip_about_110 : decode (mC m_Zip_about) 110 = .ok (.aload_n 3, 1) := by decide +kernel
theorem d_Zip_about_111 : decode (mC m_Zip_about) 111 = .ok (.getfield 195, 3) := by decide +kernel
theorem d_Zip_about_114 : decode (mC m_Zip_about) 114 = .ok (.ireturn, 1) := by decide +kernel
theorem d_Zip_about_115 : decode (mC m_Zip_about) 115 = .ok (.new 79, 3) := by decide +kernel
theorem d_Zip_about_118 : decode (mC m_Zip_about) 118 = .ok (.dup, 1) := by decide +kernel
theorem d_Zip_about_119 : decode (mC m_Zip_about) 119 = .ok (.invokespecial 81, 3) := by decide +kernel
theorem d_Zip_about_122 : decode (mC m_Zip_about) 122 = .ok (.athrow, 1) := by decide +kernel
def b_Zip_about_19 (F : Nat) (w : zW) : Option ((Int32 ⊕ Nat) × zW) := some (.inr w.length, w ++ [.inr (.inr (.inr (12, [])))])
set_option maxRecDepth 100000 in
set_option maxHeartbeats 4000000 in
theorem b_Zip_about_19_ok (G : zG) (F : Nat) (w : zW) (r : ((Int32 ⊕ Nat) × zW)) (h : b_Zip_about_19 F w = some r) : zV G m_Zip_about 19 [] [] w 1 6 (oIT (z0 G) r.1) r.2 := by
  unfold b_Zip_about_19 at h
  obtain rfl := Option.some.inj h
  exact V_throw (ci := 12) (X := R_IOOBE) d_Zip_about_19 d_Zip_about_22 d_Zip_about_23 d_Zip_about_26 rfl (by decide +kernel) k647 k648 k16 (at_IOOBE k656) (by decide) (by decide) (Nat.le_of_ble_eq_true rfl) (by decide) (by decide)
def b_Zip_about_0 (F : Nat) (v0 : Nat) (v1 : Int32) (v2 : Int32) (w : zW) : Option ((Int32 ⊕ Nat) × zW) := (zobj w v0 8).bind fun _ => (f_Zip_needArchive F v0 w).bind fun r => match r with | (.inl _, w1) => if v1 < 0 then (b_Zip_about_19 F w1) else ((getR w1 v0 8 6).bind fun x10 => (getI w1 x10 6 3).bind fun x13 => if v1 < x13 then ((getR w1 v0 8 6).bind fun x28 => (getR w1 x28 6 2).bind fun x31 => (rget w1 x31 v1).bind fun x35 => if v2 = 0 then ((getI w1 x35 1 0).bind fun x81 => some ((.inl x81), w1)) else if v2 = 1 then ((getI w1 x35 1 1).bind fun x86 => some ((.inl x86), w1)) else if v2 = 2 then ((getI w1 x35 1 2).bind fun x91 => some ((.inl x91), w1)) else if v2 = 3 then ((getI w1 x35 1 3).bind fun x96 => some ((.inl x96), w1)) else if v2 = 4 then ((getI w1 x35 1 4).bind fun x101 => some ((.inl x101), w1)) else if v2 = 5 then ((getI w1 x35 1 5).bind fun x106 => some ((.inl x106), w1)) else if v2 = 6 then ((getI w1 x35 1 6).bind fun x111 => some ((.inl x111), w1)) else (some (.inr w1.length, w1 ++ [.inr (.inr (.inr (10, [])))]))) else (b_Zip_about_19 F w1)) | (.inr qx1, w1) => some (.inr qx1, w1)
set_option maxRecDepth 100000 in
set_option maxHeartbeats 4000000 in
theorem b_Zip_about_0_ok (G : zG) (F : Nat) (v0 : Nat) (v1 : Int32) (v2 : Int32) (w : zW) (r : ((Int32 ⊕ Nat) × zW)) (h : b_Zip_about_0 F v0 v1 v2 w = some r) : zV G m_Zip_about 0 [(0, .ref (z0 G + v0)), (1, .int v1), (2, .int v2)] [] w 0 0 (oIT (z0 G) r.1) r.2 := by
  unfold b_Zip_about_0 at h
  refine V_aload_n (i := 0) d_Zip_about_0 rfl 0 rfl ?_
  obtain ⟨_, eo1, h⟩ := ob h
  obtain ⟨⟨x1 | qx1, w1⟩, e1, h⟩ := ob h
  · dsimp only at h
    refine V_call (v := none) (st := []) (inv_V (N := m_Zip_needArchive) (As := []) (ci := 8) d_Zip_about_1 eo1 rfl k738 k740 sel_Zip_needArchive kc_Zip_needArchive y_Zip_needArchive) ⟨Or.inl kc_Zip_needArchive, k1, by decide, by decide⟩ (Nat.le_of_ble_eq_true rfl) (by decide) (by decide) (c_Zip_needArchive G F v0 w _ e1) ?_
    refine V_iload_n (i := 1) d_Zip_about_4 rfl 1 rfl ?_
    refine V_if_lt (tgt := 19) d_Zip_about_5 (by decide) (fun c5 => ?_) (fun c5 => ?_)
    · rw [if_pos c5] at h
      refine V_lv [] rfl ?_
      exact b_Zip_about_19_ok G F w1 _ h
    · rw [if_neg c5] at h
      refine V_iload_n (i := 1) d_Zip_about_8 rfl 1 rfl ?_
      refine V_aload_n (i := 0) d_Zip_about_9 rfl 0 rfl ?_
      obtain ⟨x10, e10, h⟩ := ob h
      refine V_getR (ci := 8) (k := 6) d_Zip_about_10 e10 rfl (by decide) in_Zip k261 ?_
      obtain ⟨x13, e13, h⟩ := ob h
      refine V_getI (ci := 6) (k := 3) d_Zip_about_13 e13 rfl (by decide) in_Archive k217 ?_
      refine V_icmp_lt (tgt := 27) d_Zip_about_16 (by decide) (fun c16 => ?_) (fun c16 => ?_)
      · rw [if_pos c16] at h
        refine V_aload_n (i := 0) d_Zip_about_27 rfl 0 rfl ?_
        obtain ⟨x28, e28, h⟩ := ob h
        refine V_getR (ci := 8) (k := 6) d_Zip_about_28 e28 rfl (by decide) in_Zip k261 ?_
        obtain ⟨x31, e31, h⟩ := ob h
        refine V_getR (ci := 6) (k := 2) d_Zip_about_31 e31 rfl (by decide) in_Archive k215 ?_
        refine V_iload_n (i := 1) d_Zip_about_34 rfl 1 rfl ?_
        obtain ⟨x35, e35, h⟩ := ob h
        refine V_rget d_Zip_about_35 e35 ?_
        refine V_astore_n (i := 3) d_Zip_about_36 rfl (by decide) rfl ?_
        refine V_iload_n (i := 2) d_Zip_about_37 rfl 3 rfl ?_
        by_cases c38_0 : v2 = 0
        · rw [if_pos c38_0] at h
          refine V_tabIn (off := 42) (tgt := 80) d_Zip_about_38 (by rw [c38_0]; decide) (by rw [c38_0]; decide) (by rw [c38_0]; rfl) (by decide) ?_
          refine V_aload_n (i := 3) d_Zip_about_80 rfl 0 rfl ?_
          obtain ⟨x81, e81, h⟩ := ob h
          refine V_getI (ci := 1) (k := 0) d_Zip_about_81 e81 rfl (by decide) in_Entry k170 ?_
          obtain rfl := Option.some.inj h
          exact V_iret rfl (by decide) (by decide) d_Zip_about_84
        rw [if_neg c38_0] at h
        by_cases c38_1 : v2 = 1
        · rw [if_pos c38_1] at h
          refine V_tabIn (off := 47) (tgt := 85) d_Zip_about_38 (by rw [c38_1]; decide) (by rw [c38_1]; decide) (by rw [c38_1]; rfl) (by decide) ?_
          refine V_aload_n (i := 3) d_Zip_about_85 rfl 0 rfl ?_
          obtain ⟨x86, e86, h⟩ := ob h
          refine V_getI (ci := 1) (k := 1) d_Zip_about_86 e86 rfl (by decide) in_Entry k173 ?_
          obtain rfl := Option.some.inj h
          exact V_iret rfl (by decide) (by decide) d_Zip_about_89
        rw [if_neg c38_1] at h
        by_cases c38_2 : v2 = 2
        · rw [if_pos c38_2] at h
          refine V_tabIn (off := 52) (tgt := 90) d_Zip_about_38 (by rw [c38_2]; decide) (by rw [c38_2]; decide) (by rw [c38_2]; rfl) (by decide) ?_
          refine V_aload_n (i := 3) d_Zip_about_90 rfl 0 rfl ?_
          obtain ⟨x91, e91, h⟩ := ob h
          refine V_getI (ci := 1) (k := 2) d_Zip_about_91 e91 rfl (by decide) in_Entry k176 ?_
          obtain rfl := Option.some.inj h
          exact V_iret rfl (by decide) (by decide) d_Zip_about_94
        rw [if_neg c38_2] at h
        by_cases c38_3 : v2 = 3
        · rw [if_pos c38_3] at h
          refine V_tabIn (off := 57) (tgt := 95) d_Zip_about_38 (by rw [c38_3]; decide) (by rw [c38_3]; decide) (by rw [c38_3]; rfl) (by decide) ?_
          refine V_aload_n (i := 3) d_Zip_about_95 rfl 0 rfl ?_
          obtain ⟨x96, e96, h⟩ := ob h
          refine V_getI (ci := 1) (k := 3) d_Zip_about_96 e96 rfl (by decide) in_Entry k179 ?_
          obtain rfl := Option.some.inj h
          exact V_iret rfl (by decide) (by decide) d_Zip_about_99
        rw [if_neg c38_3] at h
        by_cases c38_4 : v2 = 4
        · rw [if_pos c38_4] at h
          refine V_tabIn (off := 62) (tgt := 100) d_Zip_about_38 (by rw [c38_4]; decide) (by rw [c38_4]; decide) (by rw [c38_4]; rfl) (by decide) ?_
          refine V_aload_n (i := 3) d_Zip_about_100 rfl 0 rfl ?_
          obtain ⟨x101, e101, h⟩ := ob h
          refine V_getI (ci := 1) (k := 4) d_Zip_about_101 e101 rfl (by decide) in_Entry k182 ?_
          obtain rfl := Option.some.inj h
          exact V_iret rfl (by decide) (by decide) d_Zip_about_104
        rw [if_neg c38_4] at h
        by_cases c38_5 : v2 = 5
        · rw [if_pos c38_5] at h
          refine V_tabIn (off := 67) (tgt := 105) d_Zip_about_38 (by rw [c38_5]; decide) (by rw [c38_5]; decide) (by rw [c38_5]; rfl) (by decide) ?_
          refine V_aload_n (i := 3) d_Zip_about_105 rfl 0 rfl ?_
          obtain ⟨x106, e106, h⟩ := ob h
          refine V_getI (ci := 1) (k := 5) d_Zip_about_106 e106 rfl (by decide) in_Entry k185 ?_
          obtain rfl := Option.some.inj h
          exact V_iret rfl (by decide) (by decide) d_Zip_about_109
        rw [if_neg c38_5] at h
        by_cases c38_6 : v2 = 6
        · rw [if_pos c38_6] at h
          refine V_tabIn (off := 72) (tgt := 110) d_Zip_about_38 (by rw [c38_6]; decide) (by rw [c38_6]; decide) (by rw [c38_6]; rfl) (by decide) ?_
          refine V_aload_n (i := 3) d_Zip_about_110 rfl 0 rfl ?_
          obtain ⟨x111, e111, h⟩ := ob h
          refine V_getI (ci := 1) (k := 6) d_Zip_about_111 e111 rfl (by decide) in_Entry k188 ?_
          obtain rfl := Option.some.inj h
          exact V_iret rfl (by decide) (by decide) d_Zip_about_114
        rw [if_neg c38_6] at h
        have ct38 : v2.toInt < 0 ∨ 6 < v2.toInt := by
          have := lv_neT c38_0 (a := 0) (by decide)
          have := lv_neT c38_1 (a := 1) (by decide)
          have := lv_neT c38_2 (a := 2) (by decide)
          have := lv_neT c38_3 (a := 3) (by decide)
          have := lv_neT c38_4 (a := 4) (by decide)
          have := lv_neT c38_5 (a := 5) (by decide)
          have := lv_neT c38_6 (a := 6) (by decide)
          omega
        refine V_tabOut (tgt := 115) d_Zip_about_38 ct38 (by decide) ?_
        obtain rfl := Option.some.inj h
        exact V_throw (ci := 10) (X := R_IAE) d_Zip_about_115 d_Zip_about_118 d_Zip_about_119 d_Zip_about_122 rfl (by decide +kernel) k541 k542 k14 (at_IAE k585) (by decide) (by decide) (Nat.le_of_ble_eq_true rfl) (by decide) (by decide)
      · rw [if_neg c16] at h
        refine V_lv [] rfl ?_
        exact b_Zip_about_19_ok G F w1 _ h
  · obtain rfl := Option.some.inj h
    exact V_callT (st := []) (inv_V (N := m_Zip_needArchive) (As := []) (ci := 8) d_Zip_about_1 eo1 rfl k738 k740 sel_Zip_needArchive kc_Zip_needArchive y_Zip_needArchive) ⟨Or.inl kc_Zip_needArchive, k1, by decide, by decide⟩ (Nat.le_of_ble_eq_true rfl) (by decide) (by decide) (c_Zip_needArchive G F v0 w _ e1) (by decide)
def f_Zip_about (F : Nat) (v0 : Nat) (v1 : Int32) (v2 : Int32) (w : zW) : Option ((Int32 ⊕ Nat) × zW) := b_Zip_about_0 F v0 v1 v2 w
theorem c_Zip_about (G : zG) (F : Nat) (v0 : Nat) (v1 : Int32) (v2 : Int32) (w : zW) (r : ((Int32 ⊕ Nat) × zW)) (h : f_Zip_about F v0 v1 v2 w = some r) : zCT G m_Zip_about [.ref (z0 G + v0), .int v1, .int v2] w (oIT (z0 G) r.1) r.2 := zCT.ofV (by decide +kernel) (Or.inl ⟨kc_Zip_about, rfl⟩) (Nat.le_of_ble_eq_true rfl) (b_Zip_about_0_ok G F v0 v1 v2 w r h)

/-! ZipArray.check()I -/
def m_Zip_check : zM := (⟨R_Zip, "check", "()I"⟩, prog_1_method_17_code, 4, (some .int), [], { frames := 6, cells := 0, slots := 0, locals := 151 })
theorem kc_Zip_check : Cond.code (mY m_Zip_check) (mC m_Zip_check) (mL m_Zip_check) (mT m_Zip_check) ∈ zTb := tb_at 359 (by decide +kernel) rfl
theorem y_Zip_check : (mY m_Zip_check).cls ≠ "java/lang/invoke/MethodHandle" ∧ (mY m_Zip_check).cls ≠ "java/lang/invoke/VarHandle" ∧ (parseMethodDescriptor (mY m_Zip_check).desc).map (fun d => d.parameters.length) = some 0 := by decide +kernel
theorem d_Zip_check_0 : decode (mC m_Zip_check) 0 = .ok (.aload_n 0, 1) := by decide +kernel
theorem d_Zip_check_1 : decode (mC m_Zip_check) 1 = .ok (.getfield 46, 3) := by decide +kernel
theorem d_Zip_check_4 : decode (mC m_Zip_check) 4 = .ok (.invokevirtual 198, 3) := by decide +kernel
theorem d_Zip_check_7 : decode (mC m_Zip_check) 7 = .ok (.istore_n 1, 1) := by decide +kernel
theorem d_Zip_check_8 : decode (mC m_Zip_check) 8 = .ok (.iconst 0, 1) := by decide +kernel
theorem d_Zip_check_9 : decode (mC m_Zip_check) 9 = .ok (.istore_n 2, 1) := by decide +kernel
theorem d_Zip_check_10 : decode (mC m_Zip_check) 10 = .ok (.iload_n 2, 1) := by decide +kernel
theorem d_Zip_check_11 : decode (mC m_Zip_check) 11 = .ok (.aload_n 0, 1) := by decide +kernel
theorem d_Zip_check_12 : decode (mC m_Zip_check) 12 = .ok (.getfield 46, 3) := by decide +kernel
theorem d_Zip_check_15 : decode (mC m_Zip_check) 15 = .ok (.getfield 145, 3) := by decide +kernel
theorem d_Zip_check_18 : decode (mC m_Zip_check) 18 = .ok (.if_icmp .ge 34, 3) := by decide +kernel
theorem d_Zip_check_21 : decode (mC m_Zip_check) 21 = .ok (.iload_n 1, 1) := by decide +kernel
theorem d_Zip_check_22 : decode (mC m_Zip_check) 22 = .ok (.ifCond .ne 30, 3) := by decide +kernel
theorem d_Zip_check_25 : decode (mC m_Zip_check) 25 = .ok (.aload_n 0, 1) := by decide +kernel
theorem d_Zip_check_26 : decode (mC m_Zip_check) 26 = .ok (.iload_n 2, 1) := by decide +kernel
theorem d_Zip_check_27 : decode (mC m_Zip_check) 27 = .ok (.invokevirtual 173, 3) := by decide +kernel
theorem d_Zip_check_30 : decode (mC m_Zip_check) 30 = .ok (.istore_n 3, 1) := by decide +kernel
theorem d_Zip_check_31 : decode (mC m_Zip_check) 31 = .ok (.iload_n 3, 1) := by decide +kernel
theorem d_Zip_check_32 : decode (mC m_Zip_check) 32 = .ok (.ifCond .ne 7, 3) := by decide +kernel
theorem d_Zip_check_35 : decode (mC m_Zip_check) 35 = .ok (.iconst 0, 1) := by decide +kernel
theorem d_Zip_check_36 : decode (mC m_Zip_check) 36 = .ok (.goto 9, 3) := by decide +kernel
theorem d_Zip_check_39 : decode (mC m_Zip_check) 39 = .ok (.bipush 100, 2) := by decide +kernel
theorem d_Zip_check_41 : decode (mC m_Zip_check) 41 = .ok (.iload_n 2, 1) := by decide +kernel
theorem d_Zip_check_42 : decode (mC m_Zip_check) 42 = .ok (.imul, 1) := by decide +kernel
theorem d_Zip_check_43 : decode (mC m_Zip_check) 43 = .ok (.iload_n 3, 1) := by decide +kernel
theorem d_Zip_check_44 : decode (mC m_Zip_check) 44 = .ok (.iadd, 1) := by decide +kernel
theorem d_Zip_check_45 : decode (mC m_Zip_check) 45 = .ok (.istore_n 1, 1) := by decide +kernel
theorem d_Zip_check_46 : decode (mC m_Zip_check) 46 = .ok (.iinc 2 1, 3) := by decide +kernel
theorem d_Zip_check_49 : decode (mC m_Zip_check) 49 = .ok (.goto (-39), 3) := by decide +kernel
theorem d_Zip_check_52 : decode (mC m_Zip_check) 52 = .ok (.iload_n 1, 1) := by decide +kernel
theorem d_Zip_check_53 : decode (mC m_Zip_check) 53 = .ok (.ireturn, 1) := by decide +kernel
def b_Zip_check_52 (F : Nat) (v1 : Int32) (w : zW) : Option (Int32 × zW) := some (v1, w)
set_option maxRecDepth 100000 in
set_option maxHeartbeats 4000000 in
theorem b_Zip_check_52_ok (G : zG) (F : Nat) (v1 : Int32) (w : zW) (r : (Int32 × zW)) (h : b_Zip_check_52 F v1 w = some r) : zV G m_Zip_check 52 [(1, .int v1)] [] w 0 0 (oI r.1) r.2 := by
  unfold b_Zip_check_52 at h
  refine V_iload_n (i := 1) d_Zip_check_52 rfl 0 rfl ?_
  obtain rfl := Option.some.inj h
  exact V_iret rfl (by decide) (by decide) d_Zip_check_53
def b_Zip_check_45 (F : Nat) (K10 : Nat → Int32 → Int32 → zW → Option (Int32 × zW)) (v0 : Nat) (v2 : Int32) (s0 : Int32) (w : zW) : Option (Int32 × zW) := K10 v0 s0 (v2 + (1 : Int32)) w
set_option maxRecDepth 100000 in
set_option maxHeartbeats 4000000 in
theorem b_Zip_check_45_ok (G : zG) (F : Nat) (K10 : Nat → Int32 → Int32 → zW → Option (Int32 × zW)) (hK10 : ∀ (v0 : Nat) (v1 : Int32) (v2 : Int32) (w : zW) (r : (Int32 × zW)), K10 v0 v1 v2 w = some r → zV G m_Zip_check 10 [(0, .ref (z0 G + v0)), (1, .int v1), (2, .int v2)] [] w 0 0 (oI r.1) r.2) (v0 : Nat) (v2 : Int32) (s0 : Int32) (w : zW) (r : (Int32 × zW)) (h : b_Zip_check_45 F K10 v0 v2 s0 w = some r) : zV G m_Zip_check 45 [(0, .ref (z0 G + v0)), (2, .int v2)] [.int s0] w 0 0 (oI r.1) r.2 := by
  unfold b_Zip_check_45 at h
  refine V_istore_n (i := 1) d_Zip_check_45 rfl (by decide) rfl ?_
  refine V_iinc (i := 2) (v := (v2 + (1 : Int32))) d_Zip_check_46 2 rfl (congrArg (fun y => v2 + y) (by decide : Int32.ofInt (1) = (1 : Int32))) (by decide) rfl ?_
  refine V_goto (tgt := 10) d_Zip_check_49 (by decide) ?_
  refine V_lv [2, 1, 0] rfl ?_
  exact hK10 v0 s0 (v2 + (1 : Int32)) w _ h
def b_Zip_check_10 (F : Nat) (K10 : Nat → Int32 → Int32 → zW → Option (Int32 × zW)) (v0 : Nat) (v1 : Int32) (v2 : Int32) (w : zW) : Option (Int32 × zW) := (getR w v0 8 6).bind fun x12 => (getI w x12 6 3).bind fun x15 => if x15 ≤ v2 then (b_Zip_check_52 F v1 w) else (if v1 = 0 then ((zobj w v0 8).bind fun _ => (f_Zip_faultOf F v0 v2 w).bind fun r27 => if r27.1 = 0 then (b_Zip_check_45 F K10 v0 v2 (0 : Int32) r27.2) else (b_Zip_check_45 F K10 v0 v2 (((100 : Int32) * v2) + r27.1) r27.2)) else (b_Zip_check_52 F v1 w))
set_option maxRecDepth 100000 in
set_option maxHeartbeats 4000000 in
theorem b_Zip_check_10_ok (G : zG) (F : Nat) (K10 : Nat → Int32 → Int32 → zW → Option (Int32 × zW)) (hK10 : ∀ (v0 : Nat) (v1 : Int32) (v2 : Int32) (w : zW) (r : (Int32 × zW)), K10 v0 v1 v2 w = some r → zV G m_Zip_check 10 [(0, .ref (z0 G + v0)), (1, .int v1), (2, .int v2)] [] w 0 0 (oI r.1) r.2) (v0 : Nat) (v1 : Int32) (v2 : Int32) (w : zW) (r : (Int32 × zW)) (h : b_Zip_check_10 F K10 v0 v1 v2 w = some r) : zV G m_Zip_check 10 [(0, .ref (z0 G + v0)), (1, .int v1), (2, .int v2)] [] w 0 0 (oI r.1) r.2 := by
  unfold b_Zip_check_10 at h
  refine V_iload_n (i := 2) d_Zip_check_10 rfl 2 rfl ?_
  refine V_aload_n (i := 0) d_Zip_check_11 rfl 0 rfl ?_
  obtain ⟨x12, e12, h⟩ := ob h
  refine V_getR (ci := 8) (k := 6) d_Zip_check_12 e12 rfl (by decide) in_Zip k261 ?_
  obtain ⟨x15, e15, h⟩ := ob h
  refine V_getI (ci := 6) (k := 3) d_Zip_check_15 e15 rfl (by decide) in_Archive k217 ?_
  refine V_icmp_ge (tgt := 52) d_Zip_check_18 (by decide) (fun c18 => ?_) (fun c18 => ?_)
  · rw [if_pos c18] at h
    refine V_lv [1] rfl ?_
    exact b_Zip_check_52_ok G F v1 w _ h
  · rw [if_neg c18] at h
    refine V_iload_n (i := 1) d_Zip_check_21 rfl 1 rfl ?_
    refine V_if_ne (tgt := 52) d_Zip_check_22 (by decide) (fun c22 => ?_) (fun c22 => ?_)
    · rw [if_neg c22] at h
      refine V_lv [1] rfl ?_
      exact b_Zip_check_52_ok G F v1 w _ h
    · rw [if_pos c22] at h
      refine V_aload_n (i := 0) d_Zip_check_25 rfl 0 rfl ?_
      refine V_iload_n (i := 2) d_Zip_check_26 rfl 2 rfl ?_
      obtain ⟨_, eo27, h⟩ := ob h
      obtain ⟨r27, e27, h⟩ := ob h
      refine V_call (v := some (.int r27.1)) (st := []) (inv_V (N := m_Zip_faultOf) (As := [.int v2]) (ci := 8) d_Zip_check_27 eo27 rfl k436 k438 sel_Zip_faultOf kc_Zip_faultOf y_Zip_faultOf) ⟨Or.inl kc_Zip_faultOf, k1, by decide, by decide⟩ (Nat.le_of_ble_eq_true rfl) (by decide) (by decide) (c_Zip_faultOf G F v0 v2 w r27 e27) ?_
      refine V_istore_n (i := 3) d_Zip_check_30 rfl (by decide) rfl ?_
      refine V_iload_n (i := 3) d_Zip_check_31 rfl 0 rfl ?_
      refine V_if_ne (tgt := 39) d_Zip_check_32 (by decide) (fun c32 => ?_) (fun c32 => ?_)
      · rw [if_neg c32] at h
        refine V_bipush (v := 100) d_Zip_check_39 (by decide) ?_
        refine V_iload_n (i := 2) d_Zip_check_41 rfl 3 rfl ?_
        refine V_imul d_Zip_check_42 ?_
        refine V_iload_n (i := 3) d_Zip_check_43 rfl 0 rfl ?_
        refine V_iadd d_Zip_check_44 ?_
        refine V_lv [1, 3] rfl ?_
        exact b_Zip_check_45_ok G F K10 hK10 v0 v2 (((100 : Int32) * v2) + r27.1) r27.2 _ h
      · rw [if_pos c32] at h
        refine V_iconst (v := 0) d_Zip_check_35 (by decide) ?_
        refine V_goto (tgt := 45) d_Zip_check_36 (by decide) ?_
        refine V_lv [1, 3] rfl ?_
        exact b_Zip_check_45_ok G F K10 hK10 v0 v2 (0 : Int32) r27.2 _ h
def l_Zip_check_10 (F : Nat) : Nat → Nat → Int32 → Int32 → zW → Option (Int32 × zW)
  | 0 => fun _ _ _ _ => none
  | n + 1 => b_Zip_check_10 F (l_Zip_check_10 F n)
theorem l_Zip_check_10_ok (G : zG) (F : Nat) (n : Nat) :  ∀ (v0 : Nat) (v1 : Int32) (v2 : Int32) (w : zW) (r : (Int32 × zW)), l_Zip_check_10 F n v0 v1 v2 w = some r → zV G m_Zip_check 10 [(0, .ref (z0 G + v0)), (1, .int v1), (2, .int v2)] [] w 0 0 (oI r.1) r.2 := by
  induction n with
  | zero => intro v0 v1 v2 w r h; exact nomatch (show (none : Option (Int32 × zW)) = some r from h)
  | succ n ih => intro v0 v1 v2 w r h; exact b_Zip_check_10_ok G F (l_Zip_check_10 F n) ih v0 v1 v2 w r h
def b_Zip_check_0 (F : Nat) (v0 : Nat) (w : zW) : Option (Int32 × zW) := (getR w v0 8 6).bind fun x1 => (zobj w x1 6).bind fun _ => (f_Archive_read F x1 w).bind fun r4 => l_Zip_check_10 F F v0 r4.1 (0 : Int32) r4.2
set_option maxRecDepth 100000 in
set_option maxHeartbeats 4000000 in
theorem b_Zip_check_0_ok (G : zG) (F : Nat) (v0 : Nat) (w : zW) (r : (Int32 × zW)) (h : b_Zip_check_0 F v0 w = some r) : zV G m_Zip_check 0 [(0, .ref (z0 G + v0))] [] w 0 0 (oI r.1) r.2 := by
  unfold b_Zip_check_0 at h
  refine V_aload_n (i := 0) d_Zip_check_0 rfl 0 rfl ?_
  obtain ⟨x1, e1, h⟩ := ob h
  refine V_getR (ci := 8) (k := 6) d_Zip_check_1 e1 rfl (by decide) in_Zip k261 ?_
  obtain ⟨_, eo4, h⟩ := ob h
  obtain ⟨r4, e4, h⟩ := ob h
  refine V_call (v := some (.int r4.1)) (st := []) (inv_V (N := m_Archive_read) (As := []) (ci := 6) d_Zip_check_4 eo4 rfl k360 k361 k362 kc_Archive_read y_Archive_read) ⟨Or.inl kc_Archive_read, k6, by decide, by decide⟩ (Nat.le_of_ble_eq_true rfl) (by decide) (by decide) (c_Archive_read G F x1 w r4 e4) ?_
  refine V_istore_n (i := 1) d_Zip_check_7 rfl (by decide) rfl ?_
  refine V_iconst (v := 0) d_Zip_check_8 (by decide) ?_
  refine V_istore_n (i := 2) d_Zip_check_9 rfl (by decide) rfl ?_
  refine V_lv [2, 1, 0] rfl ?_
  exact l_Zip_check_10_ok G F F v0 r4.1 (0 : Int32) r4.2 _ h
def f_Zip_check (F : Nat) (v0 : Nat) (w : zW) : Option (Int32 × zW) := b_Zip_check_0 F v0 w
theorem c_Zip_check (G : zG) (F : Nat) (v0 : Nat) (w : zW) (r : (Int32 × zW)) (h : f_Zip_check F v0 w = some r) : zCT G m_Zip_check [.ref (z0 G + v0)] w (oI r.1) r.2 := zCT.ofV (by decide +kernel) (Or.inl ⟨kc_Zip_check, rfl⟩) (Nat.le_of_ble_eq_true rfl) (b_Zip_check_0_ok G F v0 w r h)

/-! ZipArray.length()I -/
def m_Zip_length : zM := (⟨R_Zip, "length", "()I"⟩, prog_1_method_18_code, 1, (some .int), [], { frames := 0, cells := 0, slots := 0, locals := 0 })
theorem kc_Zip_length : Cond.code (mY m_Zip_length) (mC m_Zip_length) (mL m_Zip_length) (mT m_Zip_length) ∈ zTb := tb_at 528 (by decide +kernel) rfl
theorem y_Zip_length : (mY m_Zip_length).cls ≠ "java/lang/invoke/MethodHandle" ∧ (mY m_Zip_length).cls ≠ "java/lang/invoke/VarHandle" ∧ (parseMethodDescriptor (mY m_Zip_length).desc).map (fun d => d.parameters.length) = some 0 := by decide +kernel
theorem d_Zip_length_0 : decode (mC m_Zip_length) 0 = .ok (.aload_n 0, 1) := by decide +kernel
theorem d_Zip_length_1 : decode (mC m_Zip_length) 1 = .ok (.getfield 18, 3) := by decide +kernel
theorem d_Zip_length_4 : decode (mC m_Zip_length) 4 = .ok (.getfield 64, 3) := by decide +kernel
theorem d_Zip_length_7 : decode (mC m_Zip_length) 7 = .ok (.ireturn, 1) := by decide +kernel
def b_Zip_length_0 (F : Nat) (v0 : Nat) (w : zW) : Option (Int32 × zW) := (getR w v0 8 1).bind fun x1 => (getI w x1 0 1).bind fun x4 => some (x4, w)
set_option maxRecDepth 100000 in
set_option maxHeartbeats 4000000 in
theorem b_Zip_length_0_ok (G : zG) (F : Nat) (v0 : Nat) (w : zW) (r : (Int32 × zW)) (h : b_Zip_length_0 F v0 w = some r) : zV G m_Zip_length 0 [(0, .ref (z0 G + v0))] [] w 0 0 (oI r.1) r.2 := by
  unfold b_Zip_length_0 at h
  refine V_aload_n (i := 0) d_Zip_length_0 rfl 0 rfl ?_
  obtain ⟨x1, e1, h⟩ := ob h
  refine V_getR (ci := 8) (k := 1) d_Zip_length_1 e1 rfl (by decide) in_Zip k256 ?_
  obtain ⟨x4, e4, h⟩ := ob h
  refine V_getI (ci := 0) (k := 1) d_Zip_length_4 e4 rfl (by decide) in_Row k42 ?_
  obtain rfl := Option.some.inj h
  exact V_iret rfl (by decide) (by decide) d_Zip_length_7
def f_Zip_length (F : Nat) (v0 : Nat) (w : zW) : Option (Int32 × zW) := b_Zip_length_0 F v0 w
theorem c_Zip_length (G : zG) (F : Nat) (v0 : Nat) (w : zW) (r : (Int32 × zW)) (h : f_Zip_length F v0 w = some r) : zCT G m_Zip_length [.ref (z0 G + v0)] w (oI r.1) r.2 := zCT.ofV (by decide +kernel) (Or.inl ⟨kc_Zip_length, rfl⟩) (Nat.le_of_ble_eq_true rfl) (b_Zip_length_0_ok G F v0 w r h)

/-! ZipArray.byteAt(I)I -/
def m_Zip_byteAt : zM := (⟨R_Zip, "byteAt", "(I)I"⟩, prog_1_method_19_code, 2, (some .int), [], { frames := 6, cells := 1, slots := 6, locals := 90 })
theorem kc_Zip_byteAt : Cond.code (mY m_Zip_byteAt) (mC m_Zip_byteAt) (mL m_Zip_byteAt) (mT m_Zip_byteAt) ∈ zTb := tb_at 854 (by decide +kernel) rfl
theorem y_Zip_byteAt : (mY m_Zip_byteAt).cls ≠ "java/lang/invoke/MethodHandle" ∧ (mY m_Zip_byteAt).cls ≠ "java/lang/invoke/VarHandle" ∧ (parseMethodDescriptor (mY m_Zip_byteAt).desc).map (fun d => d.parameters.length) = some 1 := by decide +kernel
theorem d_Zip_byteAt_0 : decode (mC m_Zip_byteAt) 0 = .ok (.aload_n 0, 1) := by decide +kernel
theorem d_Zip_byteAt_1 : decode (mC m_Zip_byteAt) 1 = .ok (.getfield 18, 3) := by decide +kernel
theorem d_Zip_byteAt_4 : decode (mC m_Zip_byteAt) 4 = .ok (.iload_n 1, 1) := by decide +kernel
theorem d_Zip_byteAt_5 : decode (mC m_Zip_byteAt) 5 = .ok (.invokevirtual 91, 3) := by decide +kernel
theorem d_Zip_byteAt_8 : decode (mC m_Zip_byteAt) 8 = .ok (.ifCond .ne 11, 3) := by decide +kernel
theorem d_Zip_byteAt_11 : decode (mC m_Zip_byteAt) 11 = .ok (.new 94, 3) := by decide +kernel
theorem d_Zip_byteAt_14 : decode (mC m_Zip_byteAt) 14 = .ok (.dup, 1) := by decide +kernel
theorem d_Zip_byteAt_15 : decode (mC m_Zip_byteAt) 15 = .ok (.invokespecial 96, 3) := by decide +kernel
theorem d_Zip_byteAt_18 : decode (mC m_Zip_byteAt) 18 = .ok (.athrow, 1) := by decide +kernel
theorem d_Zip_byteAt_19 : decode (mC m_Zip_byteAt) 19 = .ok (.aload_n 0, 1) := by decide +kernel
theorem d_Zip_byteAt_20 : decode (mC m_Zip_byteAt) 20 = .ok (.getfield 18, 3) := by decide +kernel
theorem d_Zip_byteAt_23 : decode (mC m_Zip_byteAt) 23 = .ok (.iload_n 1, 1) := by decide +kernel
theorem d_Zip_byteAt_24 : decode (mC m_Zip_byteAt) 24 = .ok (.invokevirtual 97, 3) := by decide +kernel
theorem d_Zip_byteAt_27 : decode (mC m_Zip_byteAt) 27 = .ok (.ireturn, 1) := by decide +kernel
def b_Zip_byteAt_0 (F : Nat) (v0 : Nat) (v1 : Int32) (w : zW) : Option ((Int32 ⊕ Nat) × zW) := (getR w v0 8 1).bind fun x1 => (zobj w x1 0).bind fun _ => (f_Row_has F x1 v1 w).bind fun r5 => if r5.1 = 0 then (some (.inr r5.2.length, r5.2 ++ [.inr (.inr (.inr (12, [])))])) else ((getR r5.2 v0 8 1).bind fun x20 => (zobj r5.2 x20 0).bind fun _ => (f_Row_get F x20 v1 r5.2).bind fun r24 => some ((.inl r24.1), r24.2))
set_option maxRecDepth 100000 in
set_option maxHeartbeats 4000000 in
theorem b_Zip_byteAt_0_ok (G : zG) (F : Nat) (v0 : Nat) (v1 : Int32) (w : zW) (r : ((Int32 ⊕ Nat) × zW)) (h : b_Zip_byteAt_0 F v0 v1 w = some r) : zV G m_Zip_byteAt 0 [(0, .ref (z0 G + v0)), (1, .int v1)] [] w 0 0 (oIT (z0 G) r.1) r.2 := by
  unfold b_Zip_byteAt_0 at h
  refine V_aload_n (i := 0) d_Zip_byteAt_0 rfl 0 rfl ?_
  obtain ⟨x1, e1, h⟩ := ob h
  refine V_getR (ci := 8) (k := 1) d_Zip_byteAt_1 e1 rfl (by decide) in_Zip k256 ?_
  refine V_iload_n (i := 1) d_Zip_byteAt_4 rfl 1 rfl ?_
  obtain ⟨_, eo5, h⟩ := ob h
  obtain ⟨r5, e5, h⟩ := ob h
  refine V_call (v := some (.int r5.1)) (st := []) (inv_V (N := m_Row_has) (As := [.int v1]) (ci := 0) d_Zip_byteAt_5 eo5 rfl k646 k404 k405 kc_Row_has y_Row_has) ⟨Or.inl kc_Row_has, k2, by decide, by decide⟩ (Nat.le_of_ble_eq_true rfl) (by decide) (by decide) (c_Row_has G F x1 v1 w r5 e5) ?_
  refine V_if_ne (tgt := 19) d_Zip_byteAt_8 (by decide) (fun c8 => ?_) (fun c8 => ?_)
  · rw [if_neg c8] at h
    refine V_aload_n (i := 0) d_Zip_byteAt_19 rfl 0 rfl ?_
    obtain ⟨x20, e20, h⟩ := ob h
    refine V_getR (ci := 8) (k := 1) d_Zip_byteAt_20 e20 rfl (by decide) in_Zip k256 ?_
    refine V_iload_n (i := 1) d_Zip_byteAt_23 rfl 1 rfl ?_
    obtain ⟨_, eo24, h⟩ := ob h
    obtain ⟨r24, e24, h⟩ := ob h
    refine V_call (v := some (.int r24.1)) (st := []) (inv_V (N := m_Row_get) (As := [.int v1]) (ci := 0) d_Zip_byteAt_24 eo24 rfl k662 k400 k401 kc_Row_get y_Row_get) ⟨Or.inl kc_Row_get, k2, by decide, by decide⟩ (Nat.le_of_ble_eq_true rfl) (by decide) (by decide) (c_Row_get G F x20 v1 r5.2 r24 e24) ?_
    obtain rfl := Option.some.inj h
    exact V_iret rfl (by decide) (by decide) d_Zip_byteAt_27
  · rw [if_pos c8] at h
    obtain rfl := Option.some.inj h
    exact V_throw (ci := 12) (X := R_IOOBE) d_Zip_byteAt_11 d_Zip_byteAt_14 d_Zip_byteAt_15 d_Zip_byteAt_18 rfl (by decide +kernel) k647 k648 k16 (at_IOOBE k656) (by decide) (by decide) (Nat.le_of_ble_eq_true rfl) (by decide) (by decide)
def f_Zip_byteAt (F : Nat) (v0 : Nat) (v1 : Int32) (w : zW) : Option ((Int32 ⊕ Nat) × zW) := b_Zip_byteAt_0 F v0 v1 w
theorem c_Zip_byteAt (G : zG) (F : Nat) (v0 : Nat) (v1 : Int32) (w : zW) (r : ((Int32 ⊕ Nat) × zW)) (h : f_Zip_byteAt F v0 v1 w = some r) : zCT G m_Zip_byteAt [.ref (z0 G + v0), .int v1] w (oIT (z0 G) r.1) r.2 := zCT.ofV (by decide +kernel) (Or.inl ⟨kc_Zip_byteAt, rfl⟩) (Nat.le_of_ble_eq_true rfl) (b_Zip_byteAt_0_ok G F v0 v1 w r h)

/-! ZipArray.poke(II)V -/
def m_Zip_poke : zM := (⟨R_Zip, "poke", "(II)V"⟩, prog_1_method_20_code, 3, none, [], { frames := 6, cells := 1, slots := 6, locals := 90 })
theorem k40 : Cond.fieldLink R_Zip 201 (T_Row 0).1 (T_Row 0).2.1 (T_Row 0).2.2.1 ∈ zTb := tb_at 40 (by decide +kernel) rfl
theorem kc_Zip_poke : Cond.code (mY m_Zip_poke) (mC m_Zip_poke) (mL m_Zip_poke) (mT m_Zip_poke) ∈ zTb := tb_at 861 (by decide +kernel) rfl
theorem y_Zip_poke : (mY m_Zip_poke).cls ≠ "java/lang/invoke/MethodHandle" ∧ (mY m_Zip_poke).cls ≠ "java/lang/invoke/VarHandle" ∧ (parseMethodDescriptor (mY m_Zip_poke).desc).map (fun d => d.parameters.length) = some 2 := by decide +kernel
theorem d_Zip_poke_0 : decode (mC m_Zip_poke) 0 = .ok (.aload_n 0, 1) := by decide +kernel
theorem d_Zip_poke_1 : decode (mC m_Zip_poke) 1 = .ok (.getfield 18, 3) := by decide +kernel
theorem d_Zip_poke_4 : decode (mC m_Zip_poke) 4 = .ok (.iload_n 1, 1) := by decide +kernel
theorem d_Zip_poke_5 : decode (mC m_Zip_poke) 5 = .ok (.invokevirtual 91, 3) := by decide +kernel
theorem d_Zip_poke_8 : decode (mC m_Zip_poke) 8 = .ok (.ifCond .ne 11, 3) := by decide +kernel
theorem d_Zip_poke_11 : decode (mC m_Zip_poke) 11 = .ok (.new 94, 3) := by decide +kernel
theorem d_Zip_poke_14 : decode (mC m_Zip_poke) 14 = .ok (.dup, 1) := by decide +kernel
theorem d_Zip_poke_15 : decode (mC m_Zip_poke) 15 = .ok (.invokespecial 96, 3) := by decide +kernel
theorem d_Zip_poke_18 : decode (mC m_Zip_poke) 18 = .ok (.athrow, 1) := by decide +kernel
theorem d_Zip_poke_19 : decode (mC m_Zip_poke) 19 = .ok (.iload_n 2, 1) := by decide +kernel
theorem d_Zip_poke_20 : decode (mC m_Zip_poke) 20 = .ok (.invokestatic 75, 3) := by decide +kernel
theorem d_Zip_poke_23 : decode (mC m_Zip_poke) 23 = .ok (.ifCond .ne 11, 3) := by decide +kernel
theorem d_Zip_poke_26 : decode (mC m_Zip_poke) 26 = .ok (.new 79, 3) := by decide +kernel
theorem d_Zip_poke_29 : decode (mC m_Zip_poke) 29 = .ok (.dup, 1) := by decide +kernel
theorem d_Zip_poke_30 : decode (mC m_Zip_poke) 30 = .ok (.invokespecial 81, 3) := by decide +kernel
theorem d_Zip_poke_33 : decode (mC m_Zip_poke) 33 = .ok (.athrow, 1) := by decide +kernel
theorem d_Zip_poke_34 : decode (mC m_Zip_poke) 34 = .ok (.aload_n 0, 1) := by decide +kernel
theorem d_Zip_poke_35 : decode (mC m_Zip_poke) 35 = .ok (.getfield 18, 3) := by decide +kernel
theorem d_Zip_poke_38 : decode (mC m_Zip_poke) 38 = .ok (.getfield 201, 3) := by decide +kernel
theorem d_Zip_poke_41 : decode (mC m_Zip_poke) 41 = .ok (.iload_n 1, 1) := by decide +kernel
theorem d_Zip_poke_42 : decode (mC m_Zip_poke) 42 = .ok (.iload_n 2, 1) := by decide +kernel
theorem d_Zip_poke_43 : decode (mC m_Zip_poke) 43 = .ok (.iastore, 1) := by decide +kernel
theorem d_Zip_poke_44 : decode (mC m_Zip_poke) 44 = .ok (.return_, 1) := by decide +kernel
def b_Zip_poke_0 (F : Nat) (v0 : Nat) (v1 : Int32) (v2 : Int32) (w : zW) : Option ((Unit ⊕ Nat) × zW) := (getR w v0 8 1).bind fun x1 => (zobj w x1 0).bind fun _ => (f_Row_has F x1 v1 w).bind fun r5 => if r5.1 = 0 then (some (.inr r5.2.length, r5.2 ++ [.inr (.inr (.inr (12, [])))])) else ((f_Zip_isByte F v2 r5.2).bind fun r20 => if r20.1 = 0 then (some (.inr r20.2.length, r20.2 ++ [.inr (.inr (.inr (10, [])))])) else ((getR r20.2 v0 8 1).bind fun x35 => (getR r20.2 x35 0 0).bind fun x38 => (aset r20.2 x38 v1 v2).bind fun w43 => some ((.inl ()), w43)))
set_option maxRecDepth 100000 in
set_option maxHeartbeats 4000000 in
theorem b_Zip_poke_0_ok (G : zG) (F : Nat) (v0 : Nat) (v1 : Int32) (v2 : Int32) (w : zW) (r : ((Unit ⊕ Nat) × zW)) (h : b_Zip_poke_0 F v0 v1 v2 w = some r) : zV G m_Zip_poke 0 [(0, .ref (z0 G + v0)), (1, .int v1), (2, .int v2)] [] w 0 0 (oVT (z0 G) r.1) r.2 := by
  unfold b_Zip_poke_0 at h
  refine V_aload_n (i := 0) d_Zip_poke_0 rfl 0 rfl ?_
  obtain ⟨x1, e1, h⟩ := ob h
  refine V_getR (ci := 8) (k := 1) d_Zip_poke_1 e1 rfl (by decide) in_Zip k256 ?_
  refine V_iload_n (i := 1) d_Zip_poke_4 rfl 1 rfl ?_
  obtain ⟨_, eo5, h⟩ := ob h
  obtain ⟨r5, e5, h⟩ := ob h
  refine V_call (v := some (.int r5.1)) (st := []) (inv_V (N := m_Row_has) (As := [.int v1]) (ci := 0) d_Zip_poke_5 eo5 rfl k646 k404 k405 kc_Row_has y_Row_has) ⟨Or.inl kc_Row_has, k2, by decide, by decide⟩ (Nat.le_of_ble_eq_true rfl) (by decide) (by decide) (c_Row_has G F x1 v1 w r5 e5) ?_
  refine V_if_ne (tgt := 19) d_Zip_poke_8 (by decide) (fun c8 => ?_) (fun c8 => ?_)
  · rw [if_neg c8] at h
    refine V_iload_n (i := 2) d_Zip_poke_19 rfl 2 rfl ?_
    obtain ⟨r20, e20, h⟩ := ob h
    refine V_call (v := some (.int r20.1)) (st := []) (inv_S (N := m_Zip_isByte) (As := [.int v2]) d_Zip_poke_20 k634 k635 k1 (Or.inl kc_Zip_isByte) y_Zip_isByte) ⟨Or.inl kc_Zip_isByte, k1, by decide, by decide⟩ (Nat.le_of_ble_eq_true rfl) (by decide) (by decide) (c_Zip_isByte G F v2 r5.2 r20 e20) ?_
    refine V_if_ne (tgt := 34) d_Zip_poke_23 (by decide) (fun c23 => ?_) (fun c23 => ?_)
    · rw [if_neg c23] at h
      refine V_aload_n (i := 0) d_Zip_poke_34 rfl 0 rfl ?_
      obtain ⟨x35, e35, h⟩ := ob h
      refine V_getR (ci := 8) (k := 1) d_Zip_poke_35 e35 rfl (by decide) in_Zip k256 ?_
      obtain ⟨x38, e38, h⟩ := ob h
      refine V_getR (ci := 0) (k := 0) d_Zip_poke_38 e38 rfl (by decide) in_Row k40 ?_
      refine V_iload_n (i := 1) d_Zip_poke_41 rfl 1 rfl ?_
      refine V_iload_n (i := 2) d_Zip_poke_42 rfl 2 rfl ?_
      obtain ⟨w43, e43, h⟩ := ob h
      refine V_aset d_Zip_poke_43 e43 ?_
      obtain rfl := Option.some.inj h
      exact V_vret rfl (by decide) (by decide) d_Zip_poke_44
    · rw [if_pos c23] at h
      obtain rfl := Option.some.inj h
      exact V_throw (ci := 10) (X := R_IAE) d_Zip_poke_26 d_Zip_poke_29 d_Zip_poke_30 d_Zip_poke_33 rfl (by decide +kernel) k541 k542 k14 (at_IAE k585) (by decide) (by decide) (Nat.le_of_ble_eq_true rfl) (by decide) (by decide)
  · rw [if_pos c8] at h
    obtain rfl := Option.some.inj h
    exact V_throw (ci := 12) (X := R_IOOBE) d_Zip_poke_11 d_Zip_poke_14 d_Zip_poke_15 d_Zip_poke_18 rfl (by decide +kernel) k647 k648 k16 (at_IOOBE k656) (by decide) (by decide) (Nat.le_of_ble_eq_true rfl) (by decide) (by decide)
def f_Zip_poke (F : Nat) (v0 : Nat) (v1 : Int32) (v2 : Int32) (w : zW) : Option ((Unit ⊕ Nat) × zW) := b_Zip_poke_0 F v0 v1 v2 w
theorem c_Zip_poke (G : zG) (F : Nat) (v0 : Nat) (v1 : Int32) (v2 : Int32) (w : zW) (r : ((Unit ⊕ Nat) × zW)) (h : f_Zip_poke F v0 v1 v2 w = some r) : zCT G m_Zip_poke [.ref (z0 G + v0), .int v1, .int v2] w (oVT (z0 G) r.1) r.2 := zCT.ofV (by decide +kernel) (Or.inl ⟨kc_Zip_poke, rfl⟩) (Nat.le_of_ble_eq_true rfl) (b_Zip_poke_0_ok G F v0 v1 v2 w r h)

/-! ZipArray.put(JI)I -/
def m_Zip_put : zM := (⟨R_Zip, "put", "(JI)I"⟩, prog_1_method_21_code, 4, (some .int), [], { frames := 7, cells := 1, slots := 6, locals := 113 })
theorem kc_Zip_put : Cond.code (mY m_Zip_put) (mC m_Zip_put) (mL m_Zip_put) (mT m_Zip_put) ∈ zTb := tb_at 868 (by decide +kernel) rfl
theorem y_Zip_put : (mY m_Zip_put).cls ≠ "java/lang/invoke/MethodHandle" ∧ (mY m_Zip_put).cls ≠ "java/lang/invoke/VarHandle" ∧ (parseMethodDescriptor (mY m_Zip_put).desc).map (fun d => d.parameters.length) = some 2 := by decide +kernel
theorem d_Zip_put_0 : decode (mC m_Zip_put) 0 = .ok (.aload_n 0, 1) := by decide +kernel
theorem d_Zip_put_1 : decode (mC m_Zip_put) 1 = .ok (.getfield 18, 3) := by decide +kernel
theorem d_Zip_put_4 : decode (mC m_Zip_put) 4 = .ok (.lload_n 1, 1) := by decide +kernel
theorem d_Zip_put_5 : decode (mC m_Zip_put) 5 = .ok (.iload_n 3, 1) := by decide +kernel
theorem d_Zip_put_6 : decode (mC m_Zip_put) 6 = .ok (.invokestatic 71, 3) := by decide +kernel
theorem d_Zip_put_9 : decode (mC m_Zip_put) 9 = .ok (.ireturn, 1) := by decide +kernel
def b_Zip_put_0 (F : Nat) (v0 : Nat) (v1 : Int64) (v3 : Int32) (w : zW) : Option ((Int32 ⊕ Nat) × zW) := (getR w v0 8 1).bind fun x1 => (f_Zip_appendTo F x1 v1 v3 w).bind fun r => match r with | (.inl x6, w6) => some ((.inl x6), w6) | (.inr qx6, w6) => some (.inr qx6, w6)
set_option maxRecDepth 100000 in
set_option maxHeartbeats 4000000 in
theorem b_Zip_put_0_ok (G : zG) (F : Nat) (v0 : Nat) (v1 : Int64) (v3 : Int32) (w : zW) (r : ((Int32 ⊕ Nat) × zW)) (h : b_Zip_put_0 F v0 v1 v3 w = some r) : zV G m_Zip_put 0 [(0, .ref (z0 G + v0)), (1, .long v1), (3, .int v3)] [] w 0 0 (oIT (z0 G) r.1) r.2 := by
  unfold b_Zip_put_0 at h
  refine V_aload_n (i := 0) d_Zip_put_0 rfl 0 rfl ?_
  obtain ⟨x1, e1, h⟩ := ob h
  refine V_getR (ci := 8) (k := 1) d_Zip_put_1 e1 rfl (by decide) in_Zip k256 ?_
  refine V_lload_n (i := 1) d_Zip_put_4 rfl 1 rfl ?_
  refine V_iload_n (i := 3) d_Zip_put_5 rfl 2 rfl ?_
  obtain ⟨⟨x6 | qx6, w6⟩, e6, h⟩ := ob h
  · dsimp only at h
    refine V_call (v := some (.int x6)) (st := []) (inv_S (N := m_Zip_appendTo) (As := [.ref (z0 G + x1), .long v1, .int v3]) d_Zip_put_6 k538 k539 k1 (Or.inl kc_Zip_appendTo) y_Zip_appendTo) ⟨Or.inl kc_Zip_appendTo, k1, by decide, by decide⟩ (Nat.le_of_ble_eq_true rfl) (by decide) (by decide) (c_Zip_appendTo G F x1 v1 v3 w _ e6) ?_
    obtain rfl := Option.some.inj h
    exact V_iret rfl (by decide) (by decide) d_Zip_put_9
  · obtain rfl := Option.some.inj h
    exact V_callT (st := []) (inv_S (N := m_Zip_appendTo) (As := [.ref (z0 G + x1), .long v1, .int v3]) d_Zip_put_6 k538 k539 k1 (Or.inl kc_Zip_appendTo) y_Zip_appendTo) ⟨Or.inl kc_Zip_appendTo, k1, by decide, by decide⟩ (Nat.le_of_ble_eq_true rfl) (by decide) (by decide) (c_Zip_appendTo G F x1 v1 v3 w _ e6) (by decide)
def f_Zip_put (F : Nat) (v0 : Nat) (v1 : Int64) (v3 : Int32) (w : zW) : Option ((Int32 ⊕ Nat) × zW) := b_Zip_put_0 F v0 v1 v3 w
theorem c_Zip_put (G : zG) (F : Nat) (v0 : Nat) (v1 : Int64) (v3 : Int32) (w : zW) (r : ((Int32 ⊕ Nat) × zW)) (h : f_Zip_put F v0 v1 v3 w = some r) : zCT G m_Zip_put [.ref (z0 G + v0), .long v1, .int v3] w (oIT (z0 G) r.1) r.2 := zCT.ofV (by decide +kernel) (Or.inl ⟨kc_Zip_put, rfl⟩) (Nat.le_of_ble_eq_true rfl) (b_Zip_put_0_ok G F v0 v1 v3 w r h)

/-! ZipArray.cut(I)V -/
def m_Zip_cut : zM := (⟨R_Zip, "cut", "(I)V"⟩, prog_1_method_22_code, 2, none, [], { frames := 6, cells := 1, slots := 6, locals := 90 })
theorem kc_Zip_cut : Cond.code (mY m_Zip_cut) (mC m_Zip_cut) (mL m_Zip_cut) (mT m_Zip_cut) ∈ zTb := tb_at 875 (by decide +kernel) rfl
theorem y_Zip_cut : (mY m_Zip_cut).cls ≠ "java/lang/invoke/MethodHandle" ∧ (mY m_Zip_cut).cls ≠ "java/lang/invoke/VarHandle" ∧ (parseMethodDescriptor (mY m_Zip_cut).desc).map (fun d => d.parameters.length) = some 1 := by decide +kernel
theorem d_Zip_cut_0 : decode (mC m_Zip_cut) 0 = .ok (.iload_n 1, 1) := by decide +kernel
theorem d_Zip_cut_1 : decode (mC m_Zip_cut) 1 = .ok (.ifCond .lt 14, 3) := by decide +kernel
theorem d_Zip_cut_4 : decode (mC m_Zip_cut) 4 = .ok (.iload_n 1, 1) := by decide +kernel
theorem d_Zip_cut_5 : decode (mC m_Zip_cut) 5 = .ok (.aload_n 0, 1) := by decide +kernel
theorem d_Zip_cut_6 : decode (mC m_Zip_cut) 6 = .ok (.getfield 18, 3) := by decide +kernel
theorem d_Zip_cut_9 : decode (mC m_Zip_cut) 9 = .ok (.getfield 64, 3) := by decide +kernel
theorem d_Zip_cut_12 : decode (mC m_Zip_cut) 12 = .ok (.if_icmp .le 11, 3) := by decide +kernel
theorem d_Zip_cut_15 : decode (mC m_Zip_cut) 15 = .ok (.new 79, 3) := by decide +kernel
theorem d_Zip_cut_18 : decode (mC m_Zip_cut) 18 = .ok (.dup, 1) := by decide +kernel
theorem d_Zip_cut_19 : decode (mC m_Zip_cut) 19 = .ok (.invokespecial 81, 3) := by decide +kernel
theorem d_Zip_cut_22 : decode (mC m_Zip_cut) 22 = .ok (.athrow, 1) := by decide +kernel
theorem d_Zip_cut_23 : decode (mC m_Zip_cut) 23 = .ok (.aload_n 0, 1) := by decide +kernel
theorem d_Zip_cut_24 : decode (mC m_Zip_cut) 24 = .ok (.getfield 18, 3) := by decide +kernel
theorem d_Zip_cut_27 : decode (mC m_Zip_cut) 27 = .ok (.iload_n 1, 1) := by decide +kernel
theorem d_Zip_cut_28 : decode (mC m_Zip_cut) 28 = .ok (.putfield 64, 3) := by decide +kernel
theorem d_Zip_cut_31 : decode (mC m_Zip_cut) 31 = .ok (.return_, 1) := by decide +kernel
def b_Zip_cut_15 (F : Nat) (w : zW) : Option ((Unit ⊕ Nat) × zW) := some (.inr w.length, w ++ [.inr (.inr (.inr (10, [])))])
set_option maxRecDepth 100000 in
set_option maxHeartbeats 4000000 in
theorem b_Zip_cut_15_ok (G : zG) (F : Nat) (w : zW) (r : ((Unit ⊕ Nat) × zW)) (h : b_Zip_cut_15 F w = some r) : zV G m_Zip_cut 15 [] [] w 0 0 (oVT (z0 G) r.1) r.2 := by
  unfold b_Zip_cut_15 at h
  obtain rfl := Option.some.inj h
  exact V_throw (ci := 10) (X := R_IAE) d_Zip_cut_15 d_Zip_cut_18 d_Zip_cut_19 d_Zip_cut_22 rfl (by decide +kernel) k541 k542 k14 (at_IAE k585) (by decide) (by decide) (Nat.le_of_ble_eq_true rfl) (by decide) (by decide)
def b_Zip_cut_0 (F : Nat) (v0 : Nat) (v1 : Int32) (w : zW) : Option ((Unit ⊕ Nat) × zW) := if v1 < 0 then (b_Zip_cut_15 F w) else ((getR w v0 8 1).bind fun x6 => (getI w x6 0 1).bind fun x9 => if v1 ≤ x9 then ((getR w v0 8 1).bind fun x24 => (putI w x24 0 1 v1).bind fun w28 => some ((.inl ()), w28)) else (b_Zip_cut_15 F w))
set_option maxRecDepth 100000 in
set_option maxHeartbeats 4000000 in
theorem b_Zip_cut_0_ok (G : zG) (F : Nat) (v0 : Nat) (v1 : Int32) (w : zW) (r : ((Unit ⊕ Nat) × zW)) (h : b_Zip_cut_0 F v0 v1 w = some r) : zV G m_Zip_cut 0 [(0, .ref (z0 G + v0)), (1, .int v1)] [] w 0 0 (oVT (z0 G) r.1) r.2 := by
  unfold b_Zip_cut_0 at h
  refine V_iload_n (i := 1) d_Zip_cut_0 rfl 1 rfl ?_
  refine V_if_lt (tgt := 15) d_Zip_cut_1 (by decide) (fun c1 => ?_) (fun c1 => ?_)
  · rw [if_pos c1] at h
    refine V_lv [] rfl ?_
    exact b_Zip_cut_15_ok G F w _ h
  · rw [if_neg c1] at h
    refine V_iload_n (i := 1) d_Zip_cut_4 rfl 1 rfl ?_
    refine V_aload_n (i := 0) d_Zip_cut_5 rfl 0 rfl ?_
    obtain ⟨x6, e6, h⟩ := ob h
    refine V_getR (ci := 8) (k := 1) d_Zip_cut_6 e6 rfl (by decide) in_Zip k256 ?_
    obtain ⟨x9, e9, h⟩ := ob h
    refine V_getI (ci := 0) (k := 1) d_Zip_cut_9 e9 rfl (by decide) in_Row k42 ?_
    refine V_icmp_le (tgt := 23) d_Zip_cut_12 (by decide) (fun c12 => ?_) (fun c12 => ?_)
    · rw [if_pos c12] at h
      refine V_aload_n (i := 0) d_Zip_cut_23 rfl 0 rfl ?_
      obtain ⟨x24, e24, h⟩ := ob h
      refine V_getR (ci := 8) (k := 1) d_Zip_cut_24 e24 rfl (by decide) in_Zip k256 ?_
      refine V_iload_n (i := 1) d_Zip_cut_27 rfl 1 rfl ?_
      obtain ⟨w28, e28, h⟩ := ob h
      refine V_putI (ci := 0) (k := 1) t_Row d_Zip_cut_28 e28 rfl (by decide) in_Row k42 ty_Row nm_Row rfl (Or.inl rfl) ?_
      obtain rfl := Option.some.inj h
      exact V_vret rfl (by decide) (by decide) d_Zip_cut_31
    · rw [if_neg c12] at h
      refine V_lv [] rfl ?_
      exact b_Zip_cut_15_ok G F w _ h
def f_Zip_cut (F : Nat) (v0 : Nat) (v1 : Int32) (w : zW) : Option ((Unit ⊕ Nat) × zW) := b_Zip_cut_0 F v0 v1 w
theorem c_Zip_cut (G : zG) (F : Nat) (v0 : Nat) (v1 : Int32) (w : zW) (r : ((Unit ⊕ Nat) × zW)) (h : f_Zip_cut F v0 v1 w = some r) : zCT G m_Zip_cut [.ref (z0 G + v0), .int v1] w (oVT (z0 G) r.1) r.2 := zCT.ofV (by decide +kernel) (Or.inl ⟨kc_Zip_cut, rfl⟩) (Nat.le_of_ble_eq_true rfl) (b_Zip_cut_0_ok G F v0 v1 w r h)

/-! ZipArrayModel.<init>()V -/
def m_Model_init : zM := (⟨R_Model, "<init>", "()V"⟩, prog_11_method_1_code, 1, none, [], { frames := 1, cells := 20, slots := 6605, locals := 20 })
theorem k881 : Cond.methodLink R_Model 1 Lib.objectInit ∈ zTb := tb_at 881 (by decide +kernel) rfl
theorem k884 : Cond.fieldLink R_Model 7 (T_Model 2).1 (T_Model 2).2.1 (T_Model 2).2.2.1 ∈ zTb := tb_at 884 (by decide +kernel) rfl
theorem k886 : Cond.fieldLink R_Model 13 (T_Model 4).1 (T_Model 4).2.1 (T_Model 4).2.2.1 ∈ zTb := tb_at 886 (by decide +kernel) rfl
theorem k889 : Cond.fieldLink R_Model 16 (T_Model 7).1 (T_Model 7).2.1 (T_Model 7).2.2.1 ∈ zTb := tb_at 889 (by decide +kernel) rfl
theorem k891 : Cond.fieldLink R_Model 19 (T_Model 9).1 (T_Model 9).2.1 (T_Model 9).2.2.1 ∈ zTb := tb_at 891 (by decide +kernel) rfl
theorem k894 : Cond.fieldLink R_Model 22 (T_Model 12).1 (T_Model 12).2.1 (T_Model 12).2.2.1 ∈ zTb := tb_at 894 (by decide +kernel) rfl
theorem k895 : Cond.fieldLink R_Model 25 (T_Model 13).1 (T_Model 13).2.1 (T_Model 13).2.2.1 ∈ zTb := tb_at 895 (by decide +kernel) rfl
theorem k896 : Cond.fieldLink R_Model 28 (T_Model 14).1 (T_Model 14).2.1 (T_Model 14).2.2.1 ∈ zTb := tb_at 896 (by decide +kernel) rfl
theorem k897 : Cond.fieldLink R_Model 31 (T_Model 15).1 (T_Model 15).2.1 (T_Model 15).2.2.1 ∈ zTb := tb_at 897 (by decide +kernel) rfl
theorem k902 : Cond.fieldLink R_Model 34 (T_Model 20).1 (T_Model 20).2.1 (T_Model 20).2.2.1 ∈ zTb := tb_at 902 (by decide +kernel) rfl
theorem k903 : Cond.fieldLink R_Model 37 (T_Model 21).1 (T_Model 21).2.1 (T_Model 21).2.2.1 ∈ zTb := tb_at 903 (by decide +kernel) rfl
theorem k904 : Cond.fieldLink R_Model 40 (T_Model 22).1 (T_Model 22).2.1 (T_Model 22).2.2.1 ∈ zTb := tb_at 904 (by decide +kernel) rfl
theorem k905 : Cond.fieldLink R_Model 43 (T_Model 23).1 (T_Model 23).2.1 (T_Model 23).2.2.1 ∈ zTb := tb_at 905 (by decide +kernel) rfl
theorem k906 : Cond.fieldLink R_Model 46 (T_Model 24).1 (T_Model 24).2.1 (T_Model 24).2.2.1 ∈ zTb := tb_at 906 (by decide +kernel) rfl
theorem k907 : Cond.fieldLink R_Model 49 (T_Model 25).1 (T_Model 25).2.1 (T_Model 25).2.2.1 ∈ zTb := tb_at 907 (by decide +kernel) rfl
theorem k908 : Cond.fieldLink R_Model 52 (T_Model 26).1 (T_Model 26).2.1 (T_Model 26).2.2.1 ∈ zTb := tb_at 908 (by decide +kernel) rfl
theorem k909 : Cond.fieldLink R_Model 55 (T_Model 27).1 (T_Model 27).2.1 (T_Model 27).2.2.1 ∈ zTb := tb_at 909 (by decide +kernel) rfl
theorem k910 : Cond.fieldLink R_Model 58 (T_Model 28).1 (T_Model 28).2.1 (T_Model 28).2.2.1 ∈ zTb := tb_at 910 (by decide +kernel) rfl
theorem k911 : Cond.fieldLink R_Model 61 (T_Model 29).1 (T_Model 29).2.1 (T_Model 29).2.2.1 ∈ zTb := tb_at 911 (by decide +kernel) rfl
theorem k912 : Cond.fieldLink R_Model 64 (T_Model 30).1 (T_Model 30).2.1 (T_Model 30).2.2.1 ∈ zTb := tb_at 912 (by decide +kernel) rfl
theorem k914 : Cond.fieldLink R_Model 67 (T_Model 32).1 (T_Model 32).2.1 (T_Model 32).2.2.1 ∈ zTb := tb_at 914 (by decide +kernel) rfl
theorem kc_Model_init : Cond.code (mY m_Model_init) (mC m_Model_init) (mL m_Model_init) (mT m_Model_init) ∈ zTb := tb_at 880 (by decide +kernel) rfl
theorem y_Model_init : (mY m_Model_init).cls ≠ "java/lang/invoke/MethodHandle" ∧ (mY m_Model_init).cls ≠ "java/lang/invoke/VarHandle" ∧ (parseMethodDescriptor (mY m_Model_init).desc).map (fun d => d.parameters.length) = some 0 := by decide +kernel
theorem d_Model_init_0 : decode (mC m_Model_init) 0 = .ok (.aload_n 0, 1) := by decide +kernel
theorem d_Model_init_1 : decode (mC m_Model_init) 1 = .ok (.invokespecial 1, 3) := by decide +kernel
theorem d_Model_init_4 : decode (mC m_Model_init) 4 = .ok (.aload_n 0, 1) := by decide +kernel
theorem d_Model_init_5 : decode (mC m_Model_init) 5 = .ok (.sipush 200, 3) := by decide +kernel
theorem d_Model_init_8 : decode (mC m_Model_init) 8 = .ok (.newarray .int, 2) := by decide +kernel
theorem d_Model_init_10 : decode (mC m_Model_init) 10 = .ok (.putfield 7, 3) := by decide +kernel
theorem d_Model_init_13 : decode (mC m_Model_init) 13 = .ok (.aload_n 0, 1) := by decide +kernel
theorem d_Model_init_14 : decode (mC m_Model_init) 14 = .ok (.sipush 1600, 3) := by decide +kernel
theorem d_Model_init_17 : decode (mC m_Model_init) 17 = .ok (.newarray .int, 2) := by decide +kernel
theorem d_Model_init_19 : decode (mC m_Model_init) 19 = .ok (.putfield 13, 3) := by decide +kernel
theorem d_Model_init_22 : decode (mC m_Model_init) 22 = .ok (.aload_n 0, 1) := by decide +kernel
theorem d_Model_init_23 : decode (mC m_Model_init) 23 = .ok (.sipush 400, 3) := by decide +kernel
theorem d_Model_init_26 : decode (mC m_Model_init) 26 = .ok (.newarray .int, 2) := by decide +kernel
theorem d_Model_init_28 : decode (mC m_Model_init) 28 = .ok (.putfield 16, 3) := by decide +kernel
theorem d_Model_init_31 : decode (mC m_Model_init) 31 = .ok (.aload_n 0, 1) := by decide +kernel
theorem d_Model_init_32 : decode (mC m_Model_init) 32 = .ok (.sipush 1600, 3) := by decide +kernel
theorem d_Model_init_35 : decode (mC m_Model_init) 35 = .ok (.newarray .int, 2) := by decide +kernel
theorem d_Model_init_37 : decode (mC m_Model_init) 37 = .ok (.putfield 19, 3) := by decide +kernel
theorem d_Model_init_40 : decode (mC m_Model_init) 40 = .ok (.aload_n 0, 1) := by decide +kernel
theorem d_Model_init_41 : decode (mC m_Model_init) 41 = .ok (.sipush 339, 3) := by decide +kernel
theorem d_Model_init_44 : decode (mC m_Model_init) 44 = .ok (.newarray .int, 2) := by decide +kernel
theorem d_Model_init_46 : decode (mC m_Model_init) 46 = .ok (.putfield 22, 3) := by decide +kernel
theorem d_Model_init_49 : decode (mC m_Model_init) 49 = .ok (.aload_n 0, 1) := by decide +kernel
theorem d_Model_init_50 : decode (mC m_Model_init) 50 = .ok (.sipush 339, 3) := by decide +kernel
theorem d_Model_init_53 : decode (mC m_Model_init) 53 = .ok (.newarray .int, 2) := by decide +kernel
theorem d_Model_init_55 : decode (mC m_Model_init) 55 = .ok (.putfield 25, 3) := by decide +kernel
theorem d_Model_init_58 : decode (mC m_Model_init) 58 = .ok (.aload_n 0, 1) := by decide +kernel
theorem d_Model_init_59 : decode (mC m_Model_init) 59 = .ok (.sipush 320, 3) := by decide +kernel
theorem d_Model_init_62 : decode (mC m_Model_init) 62 = .ok (.newarray .int, 2) := by decide +kernel
theorem d_Model_init_64 : decode (mC m_Model_init) 64 = .ok (.putfield 28, 3) := by decide +kernel
theorem d_Model_init_67 : decode (mC m_Model_init) 67 = .ok (.aload_n 0, 1) := by decide +kernel
theorem d_Model_init_68 : decode (mC m_Model_init) 68 = .ok (.bipush 19, 2) := by decide +kernel
theorem d_Model_init_70 : decode (mC m_Model_init) 70 = .ok (.newarray .int, 2) := by decide +kernel
theorem d_Model_init_72 : decode (mC m_Model_init) 72 = .ok (.dup, 1) := by decide +kernel
theorem d_Model_init_73 : decode (mC m_Model_init) 73 = .ok (.iconst 0, 1) := by decide +kernel
theorem d_Model_init_74 : decode (mC m_Model_init) 74 = .ok (.bipush 16, 2) := by decide +kernel
theorem d_Model_init_76 : decode (mC m_Model_init) 76 = .ok (.iastore, 1) := by decide +kernel
theorem d_Model_init_77 : decode (mC m_Model_init) 77 = .ok (.dup, 1) := by decide +kernel
theorem d_Model_init_78 : decode (mC m_Model_init) 78 = .ok (.iconst 1, 1) := by decide +kernel
theorem d_Model_init_79 : decode (mC m_Model_init) 79 = .ok (.bipush 17, 2) := by decide +kernel
theorem d_Model_init_81 : decode (mC m_Model_init) 81 = .ok (.iastore, 1) := by decide +kernel
theorem d_Model_init_82 : decode (mC m_Model_init) 82 = .ok (.dup, 1) := by decide +kernel
theorem d_Model_init_83 : decode (mC m_Model_init) 83 = .ok (.iconst 2, 1) := by decide +kernel
theorem d_Model_init_84 : decode (mC m_Model_init) 84 = .ok (.bipush 18, 2) := by decide +kernel
theorem d_Model_init_86 : decode (mC m_Model_init) 86 = .ok (.iastore, 1) := by decide +kernel
theorem d_Model_init_87 : decode (mC m_Model_init) 87 = .ok (.dup, 1) := by decide +kernel
theorem d_Model_init_88 : decode (mC m_Model_init) 88 = .ok (.iconst 3, 1) := by decide +kernel
theorem d_Model_init_89 : decode (mC m_Model_init) 89 = .ok (.iconst 0, 1) := by decide +kernel
theorem d_Model_init_90 : decode (mC m_Model_init) 90 = .ok (.iastore, 1) := by decide +kernel
theorem d_Model_init_91 : decode (mC m_Model_init) 91 = .ok (.dup, 1) := by decide +kernel
theorem d_Model_init_92 : decode (mC m_Model_init) 92 = .ok (.iconst 4, 1) := by decide +kernel
theorem d_Model_init_93 : decode (mC m_Model_init) 93 = .ok (.bipush 8, 2) := by decide +kernel
theorem d_Model_init_95 : decode (mC m_Model_init) 95 = .ok (.iastore, 1) := by decide +kernel
theorem d_Model_init_96 : decode (mC m_Model_init) 96 = .ok (.dup, 1) := by decide +kernel
theorem d_Model_init_97 : decode (mC m_Model_init) 97 = .ok (.iconst 5, 1) := by decide +kernel
theorem d_Model_init_98 : decode (mC m_Model_init) 98 = .ok (.bipush 7, 2) := by decide +kernel
theorem d_Model_init_100 : decode (mC m_Model_init) 100 = .ok (.iastore, 1) := by decide +kernel
theorem d_Model_init_101 : decode (mC m_Model_init) 101 = .ok (.dup, 1) := by decide +kernel
theorem d_Model_init_102 : decode (mC m_Model_init) 102 = .ok (.bipush 6, 2) := by decide +kernel
theorem d_Model_init_104 : decode (mC m_Model_init) 104 = .ok (.bipush 9, 2) := by decide +kernel
theorem d_Model_init_106 : decode (mC m_Model_init) 106 = .ok (.iastore, 1) := by decide +kernel
theorem d_Model_init_107 : decode (mC m_Model_init) 107 = .ok (.dup, 1) := by decide +kernel
theorem d_Model_init_108 : decode (mC m_Model_init) 108 = .ok (.bipush 7, 2) := by decide +kernel
theorem d_Model_init_110 : decode (mC m_Model_init) 110 = .ok (.bipush 6, 2) := by decide +kernel
theorem d_Model_init_112 : decode (mC m_Model_init) 112 = .ok (.iastore, 1) := by decide +kernel
theorem d_Model_init_113 : decode (mC m_Model_init) 113 = .ok (.dup, 1) := by decide +kernel
theorem d_Model_init_114 : decode (mC m_Model_init) 114 = .ok (.bipush 8, 2) := by decide +kernel
theorem d_Model_init_116 : decode (mC m_Model_init) 116 = .ok (.bipush 10, 2) := by decide +kernel
theorem d_Model_init_118 : decode (mC m_Model_init) 118 = .ok (.iastore, 1) := by decide +kernel
theorem d_Model_init_119 : decode (mC m_Model_init) 119 = .ok (.dup, 1) := by decide +kernel
theorem d_Model_init_120 : decode (mC m_Model_init) 120 = .ok (.bipush 9, 2) := by decide +kernel
theorem d_Model_init_122 : decode (mC m_Model_init) 122 = .ok (.iconst 5, 1) := by decide +kernel
theorem d_Model_init_123 : decode (mC m_Model_init) 123 = .ok (.iastore, 1) := by decide +kernel
theorem d_Model_init_124 : decode (mC m_Model_init) 124 = .ok (.dup, 1) := by decide +kernel
theorem d_Model_init_125 : decode (mC m_Model_init) 125 = .ok (.bipush 10, 2) := by decide +kernel
theorem d_Model_init_127 : decode (mC m_Model_init) 127 = .ok (.bipush 11, 2) := by decide +kernel
theorem d_Model_init_129 : decode (mC m_Model_init) 129 = .ok (.iastore, 1) := by decide +kernel
theorem d_Model_init_130 : decode (mC m_Model_init) 130 = .ok (.dup, 1) := by decide +kernel
theorem d_Model_init_131 : decode (mC m_Model_init) 131 = .ok (.bipush 11, 2) := by decide +kernel
theorem d_Model_init_133 : decode (mC m_Model_init) 133 = .ok (.iconst 4, 1) := by decide +kernel
theorem d_Model_init_134 : decode (mC m_Model_init) 134 = .ok (.iastore, 1) := by decide +kernel
theorem d_Model_init_135 : decode (mC m_Model_init) 135 = .ok (.dup, 1) := by decide +kernel
theorem d_Model_init_136 : decode (mC m_Model_init) 136 = .ok (.bipush 12, 2) := by decide +kernel
theorem d_Model_init_138 : decode (mC m_Model_init) 138 = .ok (.bipush 12, 2) := by decide +kernel
theorem d_Model_init_140 : decode (mC m_Model_init) 140 = .ok (.iastore, 1) := by decide +kernel
theorem d_Model_init_141 : decode (mC m_Model_init) 141 = .ok (.dup, 1) := by decide +kernel
theorem d_Model_init_142 : decode (mC m_Model_init) 142 = .ok (.bipush 13, 2) := by decide +kernel
theorem d_Model_init_144 : decode (mC m_Model_init) 144 = .ok (.iconst 3, 1) := by decide +kernel
theorem d_Model_init_145 : decode (mC m_Model_init) 145 = .ok (.iastore, 1) := by decide +kernel
theorem d_Model_init_146 : decode (mC m_Model_init) 146 = .ok (.dup, 1) := by decide +kernel
theorem d_Model_init_147 : decode (mC m_Model_init) 147 = .ok (.bipush 14, 2) := by decide +kernel
theorem d_Model_init_149 : decode (mC m_Model_init) 149 = .ok (.bipush 13, 2) := by decide +kernel
theorem d_Model_init_151 : decode (mC m_Model_init) 151 = .ok (.iastore, 1) := by decide +kernel
theorem d_Model_init_152 : decode (mC m_Model_init) 152 = .ok (.dup, 1) := by decide +kernel
theorem d_Model_init_153 : decode (mC m_Model_init) 153 = .ok (.bipush 15, 2) := by decide +kernel
theorem d_Model_init_155 : decode (mC m_Model_init) 155 = .ok (.iconst 2, 1) := by decide +kernel
theorem d_Model_init_156 : decode (mC m_Model_init) 156 = .ok (.iastore, 1) := by decide +kernel
theorem d_Model_init_157 : decode (mC m_Model_init) 157 = .ok (.dup, 1) := by decide +kernel
theorem d_Model_init_158 : decode (mC m_Model_init) 158 = .ok (.bipush 16, 2) := by decide +kernel
theorem d_Model_init_160 : decode (mC m_Model_init) 160 = .ok (.bipush 14, 2) := by decide +kernel
theorem d_Model_init_162 : decode (mC m_Model_init) 162 = .ok (.iastore, 1) := by decide +kernel
theorem d_Model_init_163 : decode (mC m_Model_init) 163 = .ok (.dup, 1) := by decide +kernel
theorem d_Model_init_164 : decode (mC m_Model_init) 164 = .ok (.bipush 17, 2) := by decide +kernel
theorem d_Model_init_166 : decode (mC m_Model_init) 166 = .ok (.iconst 1, 1) := by decide +kernel
theorem d_Model_init_167 : decode (mC m_Model_init) 167 = .ok (.iastore, 1) := by decide +kernel
theorem d_Model_init_168 : decode (mC m_Model_init) 168 = .ok (.dup, 1) := by decide +kernel
theorem d_Model_init_169 : decode (mC m_Model_init) 169 = .ok (.bipush 18, 2) := by decide +kernel
theorem d_Model_init_171 : decode (mC m_Model_init) 171 = .ok (.bipush 15, 2) := by decide +kernel
theorem d_Model_init_173 : decode (mC m_Model_init) 173 = .ok (.iastore, 1) := by decide +kernel
theorem d_Model_init_174 : decode (mC m_Model_init) 174 = .ok (.putfield 31, 3) := by decide +kernel
theorem d_Model_init_177 : decode (mC m_Model_init) 177 = .ok (.aload_n 0, 1) := by decide +kernel
theorem d_Model_init_178 : decode (mC m_Model_init) 178 = .ok (.bipush 8, 2) := by decide +kernel
theorem d_Model_init_180 : decode (mC m_Model_init) 180 = .ok (.newarray .int, 2) := by decide +kernel
theorem d_Model_init_182 : decode (mC m_Model_init) 182 = .ok (.putfield 34, 3) := by decide +kernel
theorem d_Model_init_185 : decode (mC m_Model_init) 185 = .ok (.aload_n 0, 1) := by decide +kernel
theorem d_Model_init_186 : decode (mC m_Model_init) 186 = .ok (.bipush 8, 2) := by decide +kernel
theorem d_Model_init_188 : decode (mC m_Model_init) 188 = .ok (.newarray .int, 2) := by decide +kernel
theorem d_Model_init_190 : decode (mC m_Model_init) 190 = .ok (.putfield 37, 3) := by decide +kernel
theorem d_Model_init_193 : decode (mC m_Model_init) 193 = .ok (.aload_n 0, 1) := by decide +kernel
theorem d_Model_init_194 : decode (mC m_Model_init) 194 = .ok (.bipush 8, 2) := by decide +kernel
theorem d_Model_init_196 : decode (mC m_Model_init) 196 = .ok (.newarray .int, 2) := by decide +kernel
theorem d_Model_init_198 : decode (mC m_Model_init) 198 = .ok (.putfield 40, 3) := by decide +kernel
theorem d_Model_init_201 : decode (mC m_Model_init) 201 = .ok (.aload_n 0, 1) := by decide +kernel
theorem d_Model_init_202 : decode (mC m_Model_init) 202 = .ok (.bipush 8, 2) := by decide +kernel
theorem d_Model_init_204 : decode (mC m_Model_init) 204 = .ok (.newarray .int, 2) := by decide +kernel
theorem d_Model_init_206 : decode (mC m_Model_init) 206 = .ok (.putfield 43, 3) := by decide +kernel
theorem d_Model_init_209 : decode (mC m_Model_init) 209 = .ok (.aload_n 0, 1) := by decide +kernel
theorem d_Model_init_210 : decode (mC m_Model_init) 210 = .ok (.bipush 8, 2) := by decide +kernel
theorem d_Model_init_212 : decode (mC m_Model_init) 212 = .ok (.newarray .int, 2) := by decide +kernel
theorem d_Model_init_214 : decode (mC m_Model_init) 214 = .ok (.putfield 46, 3) := by decide +kernel
theorem d_Model_init_217 : decode (mC m_Model_init) 217 = .ok (.aload_n 0, 1) := by decide +kernel
theorem d_Model_init_218 : decode (mC m_Model_init) 218 = .ok (.bipush 8, 2) := by decide +kernel
theorem d_Model_init_220 : decode (mC m_Model_init) 220 = .ok (.newarray .int, 2) := by decide +kernel
theorem d_Model_init_222 : decode (mC m_Model_init) 222 = .ok (.putfield 49, 3) := by decide +kernel
theorem d_Model_init_225 : decode (mC m_Model_init) 225 = .ok (.aload_n 0, 1) := by decide +kernel
theorem d_Model_init_226 : decode (mC m_Model_init) 226 = .ok (.bipush 8, 2) := by decide +kernel
theorem d_Model_init_228 : decode (mC m_Model_init) 228 = .ok (.newarray .int, 2) := by decide +kernel
theorem d_Model_init_230 : decode (mC m_Model_init) 230 = .ok (.putfield 52, 3) := by decide +kernel
theorem d_Model_init_233 : decode (mC m_Model_init) 233 = .ok (.aload_n 0, 1) := by decide +kernel
theorem d_Model_init_234 : decode (mC m_Model_init) 234 = .ok (.bipush 8, 2) := by decide +kernel
theorem d_Model_init_236 : decode (mC m_Model_init) 236 = .ok (.newarray .int, 2) := by decide +kernel
theorem d_Model_init_238 : decode (mC m_Model_init) 238 = .ok (.putfield 55, 3) := by decide +kernel
theorem d_Model_init_241 : decode (mC m_Model_init) 241 = .ok (.aload_n 0, 1) := by decide +kernel
theorem d_Model_init_242 : decode (mC m_Model_init) 242 = .ok (.bipush 8, 2) := by decide +kernel
theorem d_Model_init_244 : decode (mC m_Model_init) 244 = .ok (.newarray .int, 2) := by decide +kernel
theorem d_Model_init_246 : decode (mC m_Model_init) 246 = .ok (.putfield 58, 3) := by decide +kernel
theorem d_Model_init_249 : decode (mC m_Model_init) 249 = .ok (.aload_n 0, 1) := by decide +kernel
theorem d_Model_init_250 : decode (mC m_Model_init) 250 = .ok (.bipush 8, 2) := by decide +kernel
theorem d_Model_init_252 : decode (mC m_Model_init) 252 = .ok (.newarray .int, 2) := by decide +kernel
theorem d_Model_init_254 : decode (mC m_Model_init) 254 = .ok (.putfield 61, 3) := by decide +kernel
theorem d_Model_init_257 : decode (mC m_Model_init) 257 = .ok (.aload_n 0, 1) := by decide +kernel
theorem d_Model_init_258 : decode (mC m_Model_init) 258 = .ok (.bipush 8, 2) := by decide +kernel
theorem d_Model_init_260 : decode (mC m_Model_init) 260 = .ok (.newarray .int, 2) := by decide +kernel
theorem d_Model_init_262 : decode (mC m_Model_init) 262 = .ok (.putfield 64, 3) := by decide +kernel
theorem d_Model_init_265 : decode (mC m_Model_init) 265 = .ok (.aload_n 0, 1) := by decide +kernel
theorem d_Model_init_266 : decode (mC m_Model_init) 266 = .ok (.sipush 1700, 3) := by decide +kernel
theorem d_Model_init_269 : decode (mC m_Model_init) 269 = .ok (.newarray .int, 2) := by decide +kernel
theorem d_Model_init_271 : decode (mC m_Model_init) 271 = .ok (.putfield 67, 3) := by decide +kernel
theorem d_Model_init_274 : decode (mC m_Model_init) 274 = .ok (.return_, 1) := by decide +kernel
def b_Model_init_0 (F : Nat) (v0 : Nat) (w : zW) : Option (Unit × zW) := (znew w (.inl (List.replicate 200 0))).bind fun w8 => (putR w8 v0 9 2 w.length).bind fun w10 => (znew w10 (.inl (List.replicate 1600 0))).bind fun w17 => (putR w17 v0 9 4 w10.length).bind fun w19 => (znew w19 (.inl (List.replicate 400 0))).bind fun w26 => (putR w26 v0 9 7 w19.length).bind fun w28 => (znew w28 (.inl (List.replicate 1600 0))).bind fun w35 => (putR w35 v0 9 9 w28.length).bind fun w37 => (znew w37 (.inl (List.replicate 339 0))).bind fun w44 => (putR w44 v0 9 12 w37.length).bind fun w46 => (znew w46 (.inl (List.replicate 339 0))).bind fun w53 => (putR w53 v0 9 13 w46.length).bind fun w55 => (znew w55 (.inl (List.replicate 320 0))).bind fun w62 => (putR w62 v0 9 14 w55.length).bind fun w64 => (znew w64 (.inl (List.replicate 19 0))).bind fun w70 => (aset w70 w64.length (0 : Int32) (16 : Int32)).bind fun w76 => (aset w76 w64.length (1 : Int32) (17 : Int32)).bind fun w81 => (aset w81 w64.length (2 : Int32) (18 : Int32)).bind fun w86 => (aset w86 w64.length (3 : Int32) (0 : Int32)).bind fun w90 => (aset w90 w64.length (4 : Int32) (8 : Int32)).bind fun w95 => (aset w95 w64.length (5 : Int32) (7 : Int32)).bind fun w100 => (aset w100 w64.length (6 : Int32) (9 : Int32)).bind fun w106 => (aset w106 w64.length (7 : Int32) (6 : Int32)).bind fun w112 => (aset w112 w64.length (8 : Int32) (10 : Int32)).bind fun w118 => (aset w118 w64.length (9 : Int32) (5 : Int32)).bind fun w123 => (aset w123 w64.length (10 : Int32) (11 : Int32)).bind fun w129 => (aset w129 w64.length (11 : Int32) (4 : Int32)).bind fun w134 => (aset w134 w64.length (12 : Int32) (12 : Int32)).bind fun w140 => (aset w140 w64.length (13 : Int32) (3 : Int32)).bind fun w145 => (aset w145 w64.length (14 : Int32) (13 : Int32)).bind fun w151 => (aset w151 w64.length (15 : Int32) (2 : Int32)).bind fun w156 => (aset w156 w64.length (16 : Int32) (14 : Int32)).bind fun w162 => (aset w162 w64.length (17 : Int32) (1 : Int32)).bind fun w167 => (aset w167 w64.length (18 : Int32) (15 : Int32)).bind fun w173 => (putR w173 v0 9 15 w64.length).bind fun w174 => (znew w174 (.inl (List.replicate 8 0))).bind fun w180 => (putR w180 v0 9 20 w174.length).bind fun w182 => (znew w182 (.inl (List.replicate 8 0))).bind fun w188 => (putR w188 v0 9 21 w182.length).bind fun w190 => (znew w190 (.inl (List.replicate 8 0))).bind fun w196 => (putR w196 v0 9 22 w190.length).bind fun w198 => (znew w198 (.inl (List.replicate 8 0))).bind fun w204 => (putR w204 v0 9 23 w198.length).bind fun w206 => (znew w206 (.inl (List.replicate 8 0))).bind fun w212 => (putR w212 v0 9 24 w206.length).bind fun w214 => (znew w214 (.inl (List.replicate 8 0))).bind fun w220 => (putR w220 v0 9 25 w214.length).bind fun w222 => (znew w222 (.inl (List.replicate 8 0))).bind fun w228 => (putR w228 v0 9 26 w222.length).bind fun w230 => (znew w230 (.inl (List.replicate 8 0))).bind fun w236 => (putR w236 v0 9 27 w230.length).bind fun w238 => (znew w238 (.inl (List.replicate 8 0))).bind fun w244 => (putR w244 v0 9 28 w238.length).bind fun w246 => (znew w246 (.inl (List.replicate 8 0))).bind fun w252 => (putR w252 v0 9 29 w246.length).bind fun w254 => (znew w254 (.inl (List.replicate 8 0))).bind fun w260 => (putR w260 v0 9 30 w254.length).bind fun w262 => (znew w262 (.inl (List.replicate 1700 0))).bind fun w269 => (putR w269 v0 9 32 w262.length).bind fun w271 => some ((), w271)
set_option maxRecDepth 100000 in
set_option maxHeartbeats 4000000 in
theorem b_Model_init_0_ok (G : zG) (F : Nat) (v0 : Nat) (w : zW) (r : (Unit × zW)) (h : b_Model_init_0 F v0 w = some r) : zV G m_Model_init 0 [(0, .ref (z0 G + v0))] [] w 0 0 (oV r.1) r.2 := by
  unfold b_Model_init_0 at h
  refine V_aload_n (i := 0) d_Model_init_0 rfl 0 rfl ?_
  refine V_objInit d_Model_init_1 k881 kobj1 kobj2 (by decide) (Nat.le_of_ble_eq_true rfl) ?_
  refine V_aload_n (i := 0) d_Model_init_4 rfl 0 rfl ?_
  refine V_sipush (v := 200) d_Model_init_5 (by decide) ?_
  obtain ⟨w8, e8, h⟩ := ob h
  refine U_newI (N := 200) d_Model_init_8 e8 k57 (by decide) (by decide) (by decide) (by decide) (by decide) ?_
  obtain ⟨w10, e10, h⟩ := ob h
  refine V_putR (ci := 9) (k := 2) t_Model d_Model_init_10 e10 rfl (by decide) in_Model k884 ty_Model nm_Model (Or.inl rfl) (Or.inr ⟨_, rfl⟩) ?_
  refine V_aload_n (i := 0) d_Model_init_13 rfl 0 rfl ?_
  refine V_sipush (v := 1600) d_Model_init_14 (by decide) ?_
  obtain ⟨w17, e17, h⟩ := ob h
  refine U_newI (N := 1600) d_Model_init_17 e17 k57 (by decide) (by decide) (by decide) (by decide) (by decide) ?_
  obtain ⟨w19, e19, h⟩ := ob h
  refine V_putR (ci := 9) (k := 4) t_Model d_Model_init_19 e19 rfl (by decide) in_Model k886 ty_Model nm_Model (Or.inl rfl) (Or.inr ⟨_, rfl⟩) ?_
  refine V_aload_n (i := 0) d_Model_init_22 rfl 0 rfl ?_
  refine V_sipush (v := 400) d_Model_init_23 (by decide) ?_
  obtain ⟨w26, e26, h⟩ := ob h
  refine U_newI (N := 400) d_Model_init_26 e26 k57 (by decide) (by decide) (by decide) (by decide) (by decide) ?_
  obtain ⟨w28, e28, h⟩ := ob h
  refine V_putR (ci := 9) (k := 7) t_Model d_Model_init_28 e28 rfl (by decide) in_Model k889 ty_Model nm_Model (Or.inl rfl) (Or.inr ⟨_, rfl⟩) ?_
  refine V_aload_n (i := 0) d_Model_init_31 rfl 0 rfl ?_
  refine V_sipush (v := 1600) d_Model_init_32 (by decide) ?_
  obtain ⟨w35, e35, h⟩ := ob h
  refine U_newI (N := 1600) d_Model_init_35 e35 k57 (by decide) (by decide) (by decide) (by decide) (by decide) ?_
  obtain ⟨w37, e37, h⟩ := ob h
  refine V_putR (ci := 9) (k := 9) t_Model d_Model_init_37 e37 rfl (by decide) in_Model k891 ty_Model nm_Model (Or.inl rfl) (Or.inr ⟨_, rfl⟩) ?_
  refine V_aload_n (i := 0) d_Model_init_40 rfl 0 rfl ?_
  refine V_sipush (v := 339) d_Model_init_41 (by decide) ?_
  obtain ⟨w44, e44, h⟩ := ob h
  refine U_newI (N := 339) d_Model_init_44 e44 k57 (by decide) (by decide) (by decide) (by decide) (by decide) ?_
  obtain ⟨w46, e46, h⟩ := ob h
  refine V_putR (ci := 9) (k := 12) t_Model d_Model_init_46 e46 rfl (by decide) in_Model k894 ty_Model nm_Model (Or.inl rfl) (Or.inr ⟨_, rfl⟩) ?_
  refine V_aload_n (i := 0) d_Model_init_49 rfl 0 rfl ?_
  refine V_sipush (v := 339) d_Model_init_50 (by decide) ?_
  obtain ⟨w53, e53, h⟩ := ob h
  refine U_newI (N := 339) d_Model_init_53 e53 k57 (by decide) (by decide) (by decide) (by decide) (by decide) ?_
  obtain ⟨w55, e55, h⟩ := ob h
  refine V_putR (ci := 9) (k := 13) t_Model d_Model_init_55 e55 rfl (by decide) in_Model k895 ty_Model nm_Model (Or.inl rfl) (Or.inr ⟨_, rfl⟩) ?_
  refine V_aload_n (i := 0) d_Model_init_58 rfl 0 rfl ?_
  refine V_sipush (v := 320) d_Model_init_59 (by decide) ?_
  obtain ⟨w62, e62, h⟩ := ob h
  refine U_newI (N := 320) d_Model_init_62 e62 k57 (by decide) (by decide) (by decide) (by decide) (by decide) ?_
  obtain ⟨w64, e64, h⟩ := ob h
  refine V_putR (ci := 9) (k := 14) t_Model d_Model_init_64 e64 rfl (by decide) in_Model k896 ty_Model nm_Model (Or.inl rfl) (Or.inr ⟨_, rfl⟩) ?_
  refine V_aload_n (i := 0) d_Model_init_67 rfl 0 rfl ?_
  refine V_bipush (v := 19) d_Model_init_68 (by decide) ?_
  obtain ⟨w70, e70, h⟩ := ob h
  refine U_newI (N := 19) d_Model_init_70 e70 k57 (by decide) (by decide) (by decide) (by decide) (by decide) ?_
  refine V_dup rfl d_Model_init_72 ?_
  refine V_iconst (v := 0) d_Model_init_73 (by decide) ?_
  refine V_bipush (v := 16) d_Model_init_74 (by decide) ?_
  obtain ⟨w76, e76, h⟩ := ob h
  refine V_aset d_Model_init_76 e76 ?_
  refine V_dup rfl d_Model_init_77 ?_
  refine V_iconst (v := 1) d_Model_init_78 (by decide) ?_
  refine V_bipush (v := 17) d_Model_init_79 (by decide) ?_
  obtain ⟨w81, e81, h⟩ := ob h
  refine V_aset d_Model_init_81 e81 ?_
  refine V_dup rfl d_Model_init_82 ?_
  refine V_iconst (v := 2) d_Model_init_83 (by decide) ?_
  refine V_bipush (v := 18) d_Model_init_84 (by decide) ?_
  obtain ⟨w86, e86, h⟩ := ob h
  refine V_aset d_Model_init_86 e86 ?_
  refine V_dup rfl d_Model_init_87 ?_
  refine V_iconst (v := 3) d_Model_init_88 (by decide) ?_
  refine V_iconst (v := 0) d_Model_init_89 (by decide) ?_
  obtain ⟨w90, e90, h⟩ := ob h
  refine V_aset d_Model_init_90 e90 ?_
  refine V_dup rfl d_Model_init_91 ?_
  refine V_iconst (v := 4) d_Model_init_92 (by decide) ?_
  refine V_bipush (v := 8) d_Model_init_93 (by decide) ?_
  obtain ⟨w95, e95, h⟩ := ob h
  refine V_aset d_Model_init_95 e95 ?_
  refine V_dup rfl d_Model_init_96 ?_
  refine V_iconst (v := 5) d_Model_init_97 (by decide) ?_
  refine V_bipush (v := 7) d_Model_init_98 (by decide) ?_
  obtain ⟨w100, e100, h⟩ := ob h
  refine V_aset d_Model_init_100 e100 ?_
  refine V_dup rfl d_Model_init_101 ?_
  refine V_bipush (v := 6) d_Model_init_102 (by decide) ?_
  refine V_bipush (v := 9) d_Model_init_104 (by decide) ?_
  obtain ⟨w106, e106, h⟩ := ob h
  refine V_aset d_Model_init_106 e106 ?_
  refine V_dup rfl d_Model_init_107 ?_
  refine V_bipush (v := 7) d_Model_init_108 (by decide) ?_
  refine V_bipush (v := 6) d_Model_init_110 (by decide) ?_
  obtain ⟨w112, e112, h⟩ := ob h
  refine V_aset d_Model_init_112 e112 ?_
  refine V_dup rfl d_Model_init_113 ?_
  refine V_bipush (v := 8) d_Model_init_114 (by decide) ?_
  refine V_bipush (v := 10) d_Model_init_116 (by decide) ?_
  obtain ⟨w118, e118, h⟩ := ob h
  refine V_aset d_Model_init_118 e118 ?_
  refine V_dup rfl d_Model_init_119 ?_
  refine V_bipush (v := 9) d_Model_init_120 (by decide) ?_
  refine V_iconst (v := 5) d_Model_init_122 (by decide) ?_
  obtain ⟨w123, e123, h⟩ := ob h
  refine V_aset d_Model_init_123 e123 ?_
  refine V_dup rfl d_Model_init_124 ?_
  refine V_bipush (v := 10) d_Model_init_125 (by decide) ?_
  refine V_bipush (v := 11) d_Model_init_127 (by decide) ?_
  obtain ⟨w129, e129, h⟩ := ob h
  refine V_aset d_Model_init_129 e129 ?_
  refine V_dup rfl d_Model_init_130 ?_
  refine V_bipush (v := 11) d_Model_init_131 (by decide) ?_
  refine V_iconst (v := 4) d_Model_init_133 (by decide) ?_
  obtain ⟨w134, e134, h⟩ := ob h
  refine V_aset d_Model_init_134 e134 ?_
  refine V_dup rfl d_Model_init_135 ?_
  refine V_bipush (v := 12) d_Model_init_136 (by decide) ?_
  refine V_bipush (v := 12) d_Model_init_138 (by decide) ?_
  obtain ⟨w140, e140, h⟩ := ob h
  refine V_aset d_Model_init_140 e140 ?_
  refine V_dup rfl d_Model_init_141 ?_
  refine V_bipush (v := 13) d_Model_init_142 (by decide) ?_
  refine V_iconst (v := 3) d_Model_init_144 (by decide) ?_
  obtain ⟨w145, e145, h⟩ := ob h
  refine V_aset d_Model_init_145 e145 ?_
  refine V_dup rfl d_Model_init_146 ?_
  refine V_bipush (v := 14) d_Model_init_147 (by decide) ?_
  refine V_bipush (v := 13) d_Model_init_149 (by decide) ?_
  obtain ⟨w151, e151, h⟩ := ob h
  refine V_aset d_Model_init_151 e151 ?_
  refine V_dup rfl d_Model_init_152 ?_
  refine V_bipush (v := 15) d_Model_init_153 (by decide) ?_
  refine V_iconst (v := 2) d_Model_init_155 (by decide) ?_
  obtain ⟨w156, e156, h⟩ := ob h
  refine V_aset d_Model_init_156 e156 ?_
  refine V_dup rfl d_Model_init_157 ?_
  refine V_bipush (v := 16) d_Model_init_158 (by decide) ?_
  refine V_bipush (v := 14) d_Model_init_160 (by decide) ?_
  obtain ⟨w162, e162, h⟩ := ob h
  refine V_aset d_Model_init_162 e162 ?_
  refine V_dup rfl d_Model_init_163 ?_
  refine V_bipush (v := 17) d_Model_init_164 (by decide) ?_
  refine V_iconst (v := 1) d_Model_init_166 (by decide) ?_
  obtain ⟨w167, e167, h⟩ := ob h
  refine V_aset d_Model_init_167 e167 ?_
  refine V_dup rfl d_Model_init_168 ?_
  refine V_bipush (v := 18) d_Model_init_169 (by decide) ?_
  refine V_bipush (v := 15) d_Model_init_171 (by decide) ?_
  obtain ⟨w173, e173, h⟩ := ob h
  refine V_aset d_Model_init_173 e173 ?_
  obtain ⟨w174, e174, h⟩ := ob h
  refine V_putR (ci := 9) (k := 15) t_Model d_Model_init_174 e174 rfl (by decide) in_Model k897 ty_Model nm_Model (Or.inl rfl) (Or.inr ⟨_, rfl⟩) ?_
  refine V_aload_n (i := 0) d_Model_init_177 rfl 0 rfl ?_
  refine V_bipush (v := 8) d_Model_init_178 (by decide) ?_
  obtain ⟨w180, e180, h⟩ := ob h
  refine U_newI (N := 8) d_Model_init_180 e180 k57 (by decide) (by decide) (by decide) (by decide) (by decide) ?_
  obtain ⟨w182, e182, h⟩ := ob h
  refine V_putR (ci := 9) (k := 20) t_Model d_Model_init_182 e182 rfl (by decide) in_Model k902 ty_Model nm_Model (Or.inl rfl) (Or.inr ⟨_, rfl⟩) ?_
  refine V_aload_n (i := 0) d_Model_init_185 rfl 0 rfl ?_
  refine V_bipush (v := 8) d_Model_init_186 (by decide) ?_
  obtain ⟨w188, e188, h⟩ := ob h
  refine U_newI (N := 8) d_Model_init_188 e188 k57 (by decide) (by decide) (by decide) (by decide) (by decide) ?_
  obtain ⟨w190, e190, h⟩ := ob h
  refine V_putR (ci := 9) (k := 21) t_Model d_Model_init_190 e190 rfl (by decide) in_Model k903 ty_Model nm_Model (Or.inl rfl) (Or.inr ⟨_, rfl⟩) ?_
  refine V_aload_n (i := 0) d_Model_init_193 rfl 0 rfl ?_
  refine V_bipush (v := 8) d_Model_init_194 (by decide) ?_
  obtain ⟨w196, e196, h⟩ := ob h
  refine U_newI (N := 8) d_Model_init_196 e196 k57 (by decide) (by decide) (by decide) (by decide) (by decide) ?_
  obtain ⟨w198, e198, h⟩ := ob h
  refine V_putR (ci := 9) (k := 22) t_Model d_Model_init_198 e198 rfl (by decide) in_Model k904 ty_Model nm_Model (Or.inl rfl) (Or.inr ⟨_, rfl⟩) ?_
  refine V_aload_n (i := 0) d_Model_init_201 rfl 0 rfl ?_
  refine V_bipush (v := 8) d_Model_init_202 (by decide) ?_
  obtain ⟨w204, e204, h⟩ := ob h
  refine U_newI (N := 8) d_Model_init_204 e204 k57 (by decide) (by decide) (by decide) (by decide) (by decide) ?_
  obtain ⟨w206, e206, h⟩ := ob h
  refine V_putR (ci := 9) (k := 23) t_Model d_Model_init_206 e206 rfl (by decide) in_Model k905 ty_Model nm_Model (Or.inl rfl) (Or.inr ⟨_, rfl⟩) ?_
  refine V_aload_n (i := 0) d_Model_init_209 rfl 0 rfl ?_
  refine V_bipush (v := 8) d_Model_init_210 (by decide) ?_
  obtain ⟨w212, e212, h⟩ := ob h
  refine U_newI (N := 8) d_Model_init_212 e212 k57 (by decide) (by decide) (by decide) (by decide) (by decide) ?_
  obtain ⟨w214, e214, h⟩ := ob h
  refine V_putR (ci := 9) (k := 24) t_Model d_Model_init_214 e214 rfl (by decide) in_Model k906 ty_Model nm_Model (Or.inl rfl) (Or.inr ⟨_, rfl⟩) ?_
  refine V_aload_n (i := 0) d_Model_init_217 rfl 0 rfl ?_
  refine V_bipush (v := 8) d_Model_init_218 (by decide) ?_
  obtain ⟨w220, e220, h⟩ := ob h
  refine U_newI (N := 8) d_Model_init_220 e220 k57 (by decide) (by decide) (by decide) (by decide) (by decide) ?_
  obtain ⟨w222, e222, h⟩ := ob h
  refine V_putR (ci := 9) (k := 25) t_Model d_Model_init_222 e222 rfl (by decide) in_Model k907 ty_Model nm_Model (Or.inl rfl) (Or.inr ⟨_, rfl⟩) ?_
  refine V_aload_n (i := 0) d_Model_init_225 rfl 0 rfl ?_
  refine V_bipush (v := 8) d_Model_init_226 (by decide) ?_
  obtain ⟨w228, e228, h⟩ := ob h
  refine U_newI (N := 8) d_Model_init_228 e228 k57 (by decide) (by decide) (by decide) (by decide) (by decide) ?_
  obtain ⟨w230, e230, h⟩ := ob h
  refine V_putR (ci := 9) (k := 26) t_Model d_Model_init_230 e230 rfl (by decide) in_Model k908 ty_Model nm_Model (Or.inl rfl) (Or.inr ⟨_, rfl⟩) ?_
  refine V_aload_n (i := 0) d_Model_init_233 rfl 0 rfl ?_
  refine V_bipush (v := 8) d_Model_init_234 (by decide) ?_
  obtain ⟨w236, e236, h⟩ := ob h
  refine U_newI (N := 8) d_Model_init_236 e236 k57 (by decide) (by decide) (by decide) (by decide) (by decide) ?_
  obtain ⟨w238, e238, h⟩ := ob h
  refine V_putR (ci := 9) (k := 27) t_Model d_Model_init_238 e238 rfl (by decide) in_Model k909 ty_Model nm_Model (Or.inl rfl) (Or.inr ⟨_, rfl⟩) ?_
  refine V_aload_n (i := 0) d_Model_init_241 rfl 0 rfl ?_
  refine V_bipush (v := 8) d_Model_init_242 (by decide) ?_
  obtain ⟨w244, e244, h⟩ := ob h
  refine U_newI (N := 8) d_Model_init_244 e244 k57 (by decide) (by decide) (by decide) (by decide) (by decide) ?_
  obtain ⟨w246, e246, h⟩ := ob h
  refine V_putR (ci := 9) (k := 28) t_Model d_Model_init_246 e246 rfl (by decide) in_Model k910 ty_Model nm_Model (Or.inl rfl) (Or.inr ⟨_, rfl⟩) ?_
  refine V_aload_n (i := 0) d_Model_init_249 rfl 0 rfl ?_
  refine V_bipush (v := 8) d_Model_init_250 (by decide) ?_
  obtain ⟨w252, e252, h⟩ := ob h
  refine U_newI (N := 8) d_Model_init_252 e252 k57 (by decide) (by decide) (by decide) (by decide) (by decide) ?_
  obtain ⟨w254, e254, h⟩ := ob h
  refine V_putR (ci := 9) (k := 29) t_Model d_Model_init_254 e254 rfl (by decide) in_Model k911 ty_Model nm_Model (Or.inl rfl) (Or.inr ⟨_, rfl⟩) ?_
  refine V_aload_n (i := 0) d_Model_init_257 rfl 0 rfl ?_
  refine V_bipush (v := 8) d_Model_init_258 (by decide) ?_
  obtain ⟨w260, e260, h⟩ := ob h
  refine U_newI (N := 8) d_Model_init_260 e260 k57 (by decide) (by decide) (by decide) (by decide) (by decide) ?_
  obtain ⟨w262, e262, h⟩ := ob h
  refine V_putR (ci := 9) (k := 30) t_Model d_Model_init_262 e262 rfl (by decide) in_Model k912 ty_Model nm_Model (Or.inl rfl) (Or.inr ⟨_, rfl⟩) ?_
  refine V_aload_n (i := 0) d_Model_init_265 rfl 0 rfl ?_
  refine V_sipush (v := 1700) d_Model_init_266 (by decide) ?_
  obtain ⟨w269, e269, h⟩ := ob h
  refine U_newI (N := 1700) d_Model_init_269 e269 k57 (by decide) (by decide) (by decide) (by decide) (by decide) ?_
  obtain ⟨w271, e271, h⟩ := ob h
  refine V_putR (ci := 9) (k := 32) t_Model d_Model_init_271 e271 rfl (by decide) in_Model k914 ty_Model nm_Model (Or.inl rfl) (Or.inr ⟨_, rfl⟩) ?_
  obtain rfl := Option.some.inj h
  exact V_vret rfl (by decide) (by decide) d_Model_init_274
def f_Model_init (F : Nat) (v0 : Nat) (w : zW) : Option (Unit × zW) := b_Model_init_0 F v0 w
theorem c_Model_init (G : zG) (F : Nat) (v0 : Nat) (w : zW) (r : (Unit × zW)) (h : f_Model_init F v0 w = some r) : zCT G m_Model_init [.ref (z0 G + v0)] w (oV r.1) r.2 := zCT.ofV (by decide +kernel) (Or.inl ⟨kc_Model_init, rfl⟩) (Nat.le_of_ble_eq_true rfl) (b_Model_init_0_ok G F v0 w r h)

/-! ZipArrayModel.thrown()I -/
def m_Model_thrown : zM := (⟨R_Model, "thrown", "()I"⟩, prog_11_method_2_code, 1, (some .int), [], { frames := 0, cells := 0, slots := 0, locals := 0 })
theorem k882 : Cond.fieldLink R_Model 70 (T_Model 0).1 (T_Model 0).2.1 (T_Model 0).2.2.1 ∈ zTb := tb_at 882 (by decide +kernel) rfl
theorem kc_Model_thrown : Cond.code (mY m_Model_thrown) (mC m_Model_thrown) (mL m_Model_thrown) (mT m_Model_thrown) ∈ zTb := tb_at 985 (by decide +kernel) rfl
theorem y_Model_thrown : (mY m_Model_thrown).cls ≠ "java/lang/invoke/MethodHandle" ∧ (mY m_Model_thrown).cls ≠ "java/lang/invoke/VarHandle" ∧ (parseMethodDescriptor (mY m_Model_thrown).desc).map (fun d => d.parameters.length) = some 0 := by decide +kernel
theorem d_Model_thrown_0 : decode (mC m_Model_thrown) 0 = .ok (.aload_n 0, 1) := by decide +kernel
theorem d_Model_thrown_1 : decode (mC m_Model_thrown) 1 = .ok (.getfield 70, 3) := by decide +kernel
theorem d_Model_thrown_4 : decode (mC m_Model_thrown) 4 = .ok (.ireturn, 1) := by decide +kernel
def b_Model_thrown_0 (F : Nat) (v0 : Nat) (w : zW) : Option (Int32 × zW) := (getI w v0 9 0).bind fun x1 => some (x1, w)
set_option maxRecDepth 100000 in
set_option maxHeartbeats 4000000 in
theorem b_Model_thrown_0_ok (G : zG) (F : Nat) (v0 : Nat) (w : zW) (r : (Int32 × zW)) (h : b_Model_thrown_0 F v0 w = some r) : zV G m_Model_thrown 0 [(0, .ref (z0 G + v0))] [] w 0 0 (oI r.1) r.2 := by
  unfold b_Model_thrown_0 at h
  refine V_aload_n (i := 0) d_Model_thrown_0 rfl 0 rfl ?_
  obtain ⟨x1, e1, h⟩ := ob h
  refine V_getI (ci := 9) (k := 0) d_Model_thrown_1 e1 rfl (by decide) in_Model k882 ?_
  obtain rfl := Option.some.inj h
  exact V_iret rfl (by decide) (by decide) d_Model_thrown_4
def f_Model_thrown (F : Nat) (v0 : Nat) (w : zW) : Option (Int32 × zW) := b_Model_thrown_0 F v0 w
theorem c_Model_thrown (G : zG) (F : Nat) (v0 : Nat) (w : zW) (r : (Int32 × zW)) (h : f_Model_thrown F v0 w = some r) : zCT G m_Model_thrown [.ref (z0 G + v0)] w (oI r.1) r.2 := zCT.ofV (by decide +kernel) (Or.inl ⟨kc_Model_thrown, rfl⟩) (Nat.le_of_ble_eq_true rfl) (b_Model_thrown_0_ok G F v0 w r h)

/-! ZipArrayModel.within(JJJ)Z -/
def m_Model_within : zM := (⟨R_Model, "within", "(JJJ)Z"⟩, prog_11_method_3_code, 6, (some .boolean), [], { frames := 0, cells := 0, slots := 0, locals := 0 })
theorem kc_Model_within : Cond.code (mY m_Model_within) (mC m_Model_within) (mL m_Model_within) (mT m_Model_within) ∈ zTb := tb_at 997 (by decide +kernel) rfl
theorem y_Model_within : (mY m_Model_within).cls ≠ "java/lang/invoke/MethodHandle" ∧ (mY m_Model_within).cls ≠ "java/lang/invoke/VarHandle" ∧ (parseMethodDescriptor (mY m_Model_within).desc).map (fun d => d.parameters.length) = some 3 := by decide +kernel
theorem d_Model_within_0 : decode (mC m_Model_within) 0 = .ok (.lload_n 0, 1) := by decide +kernel
theorem d_Model_within_1 : decode (mC m_Model_within) 1 = .ok (.lload_n 2, 1) := by decide +kernel
theorem d_Model_within_2 : decode (mC m_Model_within) 2 = .ok (.lcmp, 1) := by decide +kernel
theorem d_Model_within_3 : decode (mC m_Model_within) 3 = .ok (.ifCond .lt 14, 3) := by decide +kernel
theorem d_Model_within_6 : decode (mC m_Model_within) 6 = .ok (.lload_n 0, 1) := by decide +kernel
theorem d_Model_within_7 : decode (mC m_Model_within) 7 = .ok (.lload 4, 2) := by decide +kernel
theorem d_Model_within_9 : decode (mC m_Model_within) 9 = .ok (.lcmp, 1) := by decide +kernel
theorem d_Model_within_10 : decode (mC m_Model_within) 10 = .ok (.ifCond .gt 7, 3) := by decide +kernel
theorem d_Model_within_13 : decode (mC m_Model_within) 13 = .ok (.iconst 1, 1) := by decide +kernel
theorem d_Model_within_14 : decode (mC m_Model_within) 14 = .ok (.goto 4, 3) := by decide +kernel
theorem d_Model_within_17 : decode (mC m_Model_within) 17 = .ok (.iconst 0, 1) := by decide +kernel
theorem d_Model_within_18 : decode (mC m_Model_within) 18 = .ok (.ireturn, 1) := by decide +kernel
def b_Model_within_17 (F : Nat) (w : zW) : Option (Int32 × zW) := some ((0 : Int32), w)
set_option maxRecDepth 100000 in
set_option maxHeartbeats 4000000 in
theorem b_Model_within_17_ok (G : zG) (F : Nat) (w : zW) (r : (Int32 × zW)) (h : b_Model_within_17 F w = some r) : zV G m_Model_within 17 [] [] w 0 0 (oI r.1) r.2 := by
  unfold b_Model_within_17 at h
  refine V_iconst (v := 0) d_Model_within_17 (by decide) ?_
  obtain rfl := Option.some.inj h
  exact V_zret rfl (Or.inl rfl) (by decide) (by decide) d_Model_within_18
def b_Model_within_0 (F : Nat) (v0 : Int64) (v2 : Int64) (v4 : Int64) (w : zW) : Option (Int32 × zW) := if (lg_cmp v0 v2) < 0 then (b_Model_within_17 F w) else (if 0 < (lg_cmp v0 v4) then (b_Model_within_17 F w) else (some ((1 : Int32), w)))
set_option maxRecDepth 100000 in
set_option maxHeartbeats 4000000 in
theorem b_Model_within_0_ok (G : zG) (F : Nat) (v0 : Int64) (v2 : Int64) (v4 : Int64) (w : zW) (r : (Int32 × zW)) (h : b_Model_within_0 F v0 v2 v4 w = some r) : zV G m_Model_within 0 [(0, .long v0), (2, .long v2), (4, .long v4)] [] w 0 0 (oI r.1) r.2 := by
  unfold b_Model_within_0 at h
  refine V_lload_n (i := 0) d_Model_within_0 rfl 0 rfl ?_
  refine V_lload_n (i := 2) d_Model_within_1 rfl 1 rfl ?_
  refine V_lcmp d_Model_within_2 ?_
  refine V_if_lt (tgt := 17) d_Model_within_3 (by decide) (fun c3 => ?_) (fun c3 => ?_)
  · rw [if_pos c3] at h
    refine V_lv [] rfl ?_
    exact b_Model_within_17_ok G F w _ h
  · rw [if_neg c3] at h
    refine V_lload_n (i := 0) d_Model_within_6 rfl 0 rfl ?_
    refine V_lload (i := 4) d_Model_within_7 2 rfl ?_
    refine V_lcmp d_Model_within_9 ?_
    refine V_if_gt (tgt := 17) d_Model_within_10 (by decide) (fun c10 => ?_) (fun c10 => ?_)
    · rw [if_pos c10] at h
      refine V_lv [] rfl ?_
      exact b_Model_within_17_ok G F w _ h
    · rw [if_neg c10] at h
      refine V_iconst (v := 1) d_Model_within_13 (by decide) ?_
      refine V_goto (tgt := 18) d_Model_within_14 (by decide) ?_
      obtain rfl := Option.some.inj h
      exact V_zret rfl (Or.inr rfl) (by decide) (by decide) d_Model_within_18
def f_Model_within (F : Nat) (v0 : Int64) (v2 : Int64) (v4 : Int64) (w : zW) : Option (Int32 × zW) := b_Model_within_0 F v0 v2 v4 w
theorem c_Model_within (G : zG) (F : Nat) (v0 : Int64) (v2 : Int64) (v4 : Int64) (w : zW) (r : (Int32 × zW)) (h : f_Model_within F v0 v2 v4 w = some r) : zCT G m_Model_within [.long v0, .long v2, .long v4] w (oI r.1) r.2 := zCT.ofV (by decide +kernel) (Or.inl ⟨kc_Model_within, rfl⟩) (Nat.le_of_ble_eq_true rfl) (b_Model_within_0_ok G F v0 v2 v4 w r h)

/-! ZipArrayModel.stir(II)I -/
def m_Model_stir : zM := (⟨R_Model, "stir", "(II)I"⟩, prog_11_method_4_code, 4, (some .int), [], { frames := 0, cells := 0, slots := 0, locals := 0 })
theorem k1023 : Cond.constant R_Model 74 (-306674912) ∈ zTb := tb_at 1023 (by decide +kernel) rfl
theorem kc_Model_stir : Cond.code (mY m_Model_stir) (mC m_Model_stir) (mL m_Model_stir) (mT m_Model_stir) ∈ zTb := tb_at 1022 (by decide +kernel) rfl
theorem y_Model_stir : (mY m_Model_stir).cls ≠ "java/lang/invoke/MethodHandle" ∧ (mY m_Model_stir).cls ≠ "java/lang/invoke/VarHandle" ∧ (parseMethodDescriptor (mY m_Model_stir).desc).map (fun d => d.parameters.length) = some 2 := by decide +kernel
theorem d_Model_stir_0 : decode (mC m_Model_stir) 0 = .ok (.iload_n 0, 1) := by decide +kernel
theorem d_Model_stir_1 : decode (mC m_Model_stir) 1 = .ok (.iload_n 1, 1) := by decide +kernel
theorem d_Model_stir_2 : decode (mC m_Model_stir) 2 = .ok (.ixor, 1) := by decide +kernel
theorem d_Model_stir_3 : decode (mC m_Model_stir) 3 = .ok (.istore_n 2, 1) := by decide +kernel
theorem d_Model_stir_4 : decode (mC m_Model_stir) 4 = .ok (.iconst 0, 1) := by decide +kernel
theorem d_Model_stir_5 : decode (mC m_Model_stir) 5 = .ok (.istore_n 3, 1) := by decide +kernel
theorem d_Model_stir_6 : decode (mC m_Model_stir) 6 = .ok (.iload_n 3, 1) := by decide +kernel
theorem d_Model_stir_7 : decode (mC m_Model_stir) 7 = .ok (.bipush 8, 2) := by decide +kernel
theorem d_Model_stir_9 : decode (mC m_Model_stir) 9 = .ok (.if_icmp .ge 29, 3) := by decide +kernel
theorem d_Model_stir_12 : decode (mC m_Model_stir) 12 = .ok (.iload_n 2, 1) := by decide +kernel
theorem d_Model_stir_13 : decode (mC m_Model_stir) 13 = .ok (.iconst 1, 1) := by decide +kernel
theorem d_Model_stir_14 : decode (mC m_Model_stir) 14 = .ok (.iand, 1) := by decide +kernel
theorem d_Model_stir_15 : decode (mC m_Model_stir) 15 = .ok (.iconst 1, 1) := by decide +kernel
theorem d_Model_stir_16 : decode (mC m_Model_stir) 16 = .ok (.if_icmp .ne 12, 3) := by decide +kernel
theorem d_Model_stir_19 : decode (mC m_Model_stir) 19 = .ok (.iload_n 2, 1) := by decide +kernel
theorem d_Model_stir_20 : decode (mC m_Model_stir) 20 = .ok (.iconst 1, 1) := by decide +kernel
theorem d_Model_stir_21 : decode (mC m_Model_stir) 21 = .ok (.iushr, 1) := by decide +kernel
theorem d_Model_stir_22 : decode (mC m_Model_stir) 22 = .ok (.ldc 74, 2) := by decide +kernel
theorem d_Model_stir_24 : decode (mC m_Model_stir) 24 = .ok (.ixor, 1) := by decide +kernel
theorem d_Model_stir_25 : decode (mC m_Model_stir) 25 = .ok (.goto 6, 3) := by decide +kernel
theorem d_Model_stir_28 : decode (mC m_Model_stir) 28 = .ok (.iload_n 2, 1) := by decide +kernel
theorem d_Model_stir_29 : decode (mC m_Model_stir) 29 = .ok (.iconst 1, 1) := by decide +kernel
theorem d_Model_stir_30 : decode (mC m_Model_stir) 30 = .ok (.iushr, 1) := by decide +kernel
theorem d_Model_stir_31 : decode (mC m_Model_stir) 31 = .ok (.istore_n 2, 1) := by decide +kernel
theorem d_Model_stir_32 : decode (mC m_Model_stir) 32 = .ok (.iinc 3 1, 3) := by decide +kernel
theorem d_Model_stir_35 : decode (mC m_Model_stir) 35 = .ok (.goto (-29), 3) := by decide +kernel
theorem d_Model_stir_38 : decode (mC m_Model_stir) 38 = .ok (.iload_n 2, 1) := by decide +kernel
theorem d_Model_stir_39 : decode (mC m_Model_stir) 39 = .ok (.ireturn, 1) := by decide +kernel
def b_Model_stir_31 (F : Nat) (K6 : Int32 → Int32 → zW → Option (Int32 × zW)) (v3 : Int32) (s0 : Int32) (w : zW) : Option (Int32 × zW) := K6 s0 (v3 + (1 : Int32)) w
set_option maxRecDepth 100000 in
set_option maxHeartbeats 4000000 in
theorem b_Model_stir_31_ok (G : zG) (F : Nat) (K6 : Int32 → Int32 → zW → Option (Int32 × zW)) (hK6 : ∀ (v2 : Int32) (v3 : Int32) (w : zW) (r : (Int32 × zW)), K6 v2 v3 w = some r → zV G m_Model_stir 6 [(2, .int v2), (3, .int v3)] [] w 0 0 (oI r.1) r.2) (v3 : Int32) (s0 : Int32) (w : zW) (r : (Int32 × zW)) (h : b_Model_stir_31 F K6 v3 s0 w = some r) : zV G m_Model_stir 31 [(3, .int v3)] [.int s0] w 0 0 (oI r.1) r.2 := by
  unfold b_Model_stir_31 at h
  refine V_istore_n (i := 2) d_Model_stir_31 rfl (by decide) rfl ?_
  refine V_iinc (i := 3) (v := (v3 + (1 : Int32))) d_Model_stir_32 1 rfl (congrArg (fun y => v3 + y) (by decide : Int32.ofInt (1) = (1 : Int32))) (by decide) rfl ?_
  refine V_goto (tgt := 6) d_Model_stir_35 (by decide) ?_
  refine V_lv [1, 0] rfl ?_
  exact hK6 s0 (v3 + (1 : Int32)) w _ h
def b_Model_stir_6 (F : Nat) (K6 : Int32 → Int32 → zW → Option (Int32 × zW)) (v2 : Int32) (v3 : Int32) (w : zW) : Option (Int32 × zW) := if (8 : Int32) ≤ v3 then (some (v2, w)) else (if (v2 &&& (1 : Int32)) = (1 : Int32) then (b_Model_stir_31 F K6 v3 ((v2.toUInt32 >>> ((1 : Int32).toUInt32 &&& Int32.toUInt32 31)).toInt32 ^^^ (-306674912 : Int32)) w) else (b_Model_stir_31 F K6 v3 (v2.toUInt32 >>> ((1 : Int32).toUInt32 &&& Int32.toUInt32 31)).toInt32 w))
set_option maxRecDepth 100000 in
set_option maxHeartbeats 4000000 in
theorem b_Model_stir_6_ok (G : zG) (F : Nat) (K6 : Int32 → Int32 → zW → Option (Int32 × zW)) (hK6 : ∀ (v2 : Int32) (v3 : Int32) (w : zW) (r : (Int32 × zW)), K6 v2 v3 w = some r → zV G m_Model_stir 6 [(2, .int v2), (3, .int v3)] [] w 0 0 (oI r.1) r.2) (v2 : Int32) (v3 : Int32) (w : zW) (r : (Int32 × zW)) (h : b_Model_stir_6 F K6 v2 v3 w = some r) : zV G m_Model_stir 6 [(2, .int v2), (3, .int v3)] [] w 0 0 (oI r.1) r.2 := by
  unfold b_Model_stir_6 at h
  refine V_iload_n (i := 3) d_Model_stir_6 rfl 1 rfl ?_
  refine V_bipush (v := 8) d_Model_stir_7 (by decide) ?_
  refine V_icmp_ge (tgt := 38) d_Model_stir_9 (by decide) (fun c9 => ?_) (fun c9 => ?_)
  · rw [if_pos c9] at h
    refine V_iload_n (i := 2) d_Model_stir_38 rfl 0 rfl ?_
    obtain rfl := Option.some.inj h
    exact V_iret rfl (by decide) (by decide) d_Model_stir_39
  · rw [if_neg c9] at h
    refine V_iload_n (i := 2) d_Model_stir_12 rfl 0 rfl ?_
    refine V_iconst (v := 1) d_Model_stir_13 (by decide) ?_
    refine V_iand d_Model_stir_14 ?_
    refine V_iconst (v := 1) d_Model_stir_15 (by decide) ?_
    refine V_icmp_ne (tgt := 28) d_Model_stir_16 (by decide) (fun c16 => ?_) (fun c16 => ?_)
    · rw [if_neg c16] at h
      refine V_iload_n (i := 2) d_Model_stir_28 rfl 0 rfl ?_
      refine V_iconst (v := 1) d_Model_stir_29 (by decide) ?_
      refine V_iushr d_Model_stir_30 ?_
      refine V_lv [1] rfl ?_
      exact b_Model_stir_31_ok G F K6 hK6 v3 (v2.toUInt32 >>> ((1 : Int32).toUInt32 &&& Int32.toUInt32 31)).toInt32 w _ h
    · rw [if_pos c16] at h
      refine V_iload_n (i := 2) d_Model_stir_19 rfl 0 rfl ?_
      refine V_iconst (v := 1) d_Model_stir_20 (by decide) ?_
      refine V_iushr d_Model_stir_21 ?_
      refine V_ldc (v := -306674912) d_Model_stir_22 k1023 ?_
      refine V_ixor d_Model_stir_24 ?_
      refine V_goto (tgt := 31) d_Model_stir_25 (by decide) ?_
      refine V_lv [1] rfl ?_
      exact b_Model_stir_31_ok G F K6 hK6 v3 ((v2.toUInt32 >>> ((1 : Int32).toUInt32 &&& Int32.toUInt32 31)).toInt32 ^^^ (-306674912 : Int32)) w _ h
def l_Model_stir_6 (F : Nat) : Nat → Int32 → Int32 → zW → Option (Int32 × zW)
  | 0 => fun _ _ _ => none
  | n + 1 => b_Model_stir_6 F (l_Model_stir_6 F n)
theorem l_Model_stir_6_ok (G : zG) (F : Nat) (n : Nat) :  ∀ (v2 : Int32) (v3 : Int32) (w : zW) (r : (Int32 × zW)), l_Model_stir_6 F n v2 v3 w = some r → zV G m_Model_stir 6 [(2, .int v2), (3, .int v3)] [] w 0 0 (oI r.1) r.2 := by
  induction n with
  | zero => intro v2 v3 w r h; exact nomatch (show (none : Option (Int32 × zW)) = some r from h)
  | succ n ih => intro v2 v3 w r h; exact b_Model_stir_6_ok G F (l_Model_stir_6 F n) ih v2 v3 w r h
def b_Model_stir_0 (F : Nat) (v0 : Int32) (v1 : Int32) (w : zW) : Option (Int32 × zW) := l_Model_stir_6 F F (v0 ^^^ v1) (0 : Int32) w
set_option maxRecDepth 100000 in
set_option maxHeartbeats 4000000 in
theorem b_Model_stir_0_ok (G : zG) (F : Nat) (v0 : Int32) (v1 : Int32) (w : zW) (r : (Int32 × zW)) (h : b_Model_stir_0 F v0 v1 w = some r) : zV G m_Model_stir 0 [(0, .int v0), (1, .int v1)] [] w 0 0 (oI r.1) r.2 := by
  unfold b_Model_stir_0 at h
  refine V_iload_n (i := 0) d_Model_stir_0 rfl 0 rfl ?_
  refine V_iload_n (i := 1) d_Model_stir_1 rfl 1 rfl ?_
  refine V_ixor d_Model_stir_2 ?_
  refine V_istore_n (i := 2) d_Model_stir_3 rfl (by decide) rfl ?_
  refine V_iconst (v := 0) d_Model_stir_4 (by decide) ?_
  refine V_istore_n (i := 3) d_Model_stir_5 rfl (by decide) rfl ?_
  refine V_lv [1, 0] rfl ?_
  exact l_Model_stir_6_ok G F F (v0 ^^^ v1) (0 : Int32) w _ h
def f_Model_stir (F : Nat) (v0 : Int32) (v1 : Int32) (w : zW) : Option (Int32 × zW) := b_Model_stir_0 F v0 v1 w
theorem c_Model_stir (G : zG) (F : Nat) (v0 : Int32) (v1 : Int32) (w : zW) (r : (Int32 × zW)) (h : f_Model_stir F v0 v1 w = some r) : zCT G m_Model_stir [.int v0, .int v1] w (oI r.1) r.2 := zCT.ofV (by decide +kernel) (Or.inl ⟨kc_Model_stir, rfl⟩) (Nat.le_of_ble_eq_true rfl) (b_Model_stir_0_ok G F v0 v1 w r h)

/-! ZipArrayModel.crcOfContent()I -/
def m_Model_crcOfContent : zM := (⟨R_Model, "crcOfContent", "()I"⟩, prog_11_method_5_code, 3, (some .int), [], { frames := 1, cells := 0, slots := 0, locals := 23 })
theorem k10 : Cond.initialized R_Model ∈ zTb := tb_at 10 (by decide +kernel) rfl
theorem k888 : Cond.fieldLink R_Model 75 (T_Model 6).1 (T_Model 6).2.1 (T_Model 6).2.2.1 ∈ zTb := tb_at 888 (by decide +kernel) rfl
theorem k1020 : Cond.methodLink R_Model 78 (mY m_Model_stir) ∈ zTb := tb_at 1020 (by decide +kernel) rfl
theorem k1021 : Cond.static (mY m_Model_stir) ∈ zTb := tb_at 1021 (by decide +kernel) rfl
theorem kc_Model_crcOfContent : Cond.code (mY m_Model_crcOfContent) (mC m_Model_crcOfContent) (mL m_Model_crcOfContent) (mT m_Model_crcOfContent) ∈ zTb := tb_at 1217 (by decide +kernel) rfl
theorem y_Model_crcOfContent : (mY m_Model_crcOfContent).cls ≠ "java/lang/invoke/MethodHandle" ∧ (mY m_Model_crcOfContent).cls ≠ "java/lang/invoke/VarHandle" ∧ (parseMethodDescriptor (mY m_Model_crcOfContent).desc).map (fun d => d.parameters.length) = some 0 := by decide +kernel
theorem sel_Model_crcOfContent : Cond.selects R_Model (mY m_Model_crcOfContent) (mY m_Model_crcOfContent) ∈ zTb := sel_at (y := mY m_Model_crcOfContent) (n := 33) 77 (by decide +kernel)
theorem d_Model_crcOfContent_0 : decode (mC m_Model_crcOfContent) 0 = .ok (.iconst (-1), 1) := by decide +kernel
theorem d_Model_crcOfContent_1 : decode (mC m_Model_crcOfContent) 1 = .ok (.istore_n 1, 1) := by decide +kernel
theorem d_Model_crcOfContent_2 : decode (mC m_Model_crcOfContent) 2 = .ok (.iconst 0, 1) := by decide +kernel
theorem d_Model_crcOfContent_3 : decode (mC m_Model_crcOfContent) 3 = .ok (.istore_n 2, 1) := by decide +kernel
theorem d_Model_crcOfContent_4 : decode (mC m_Model_crcOfContent) 4 = .ok (.iload_n 2, 1) := by decide +kernel
theorem d_Model_crcOfContent_5 : decode (mC m_Model_crcOfContent) 5 = .ok (.aload_n 0, 1) := by decide +kernel
theorem d_Model_crcOfContent_6 : decode (mC m_Model_crcOfContent) 6 = .ok (.getfield 75, 3) := by decide +kernel
theorem d_Model_crcOfContent_9 : decode (mC m_Model_crcOfContent) 9 = .ok (.if_icmp .ge 20, 3) := by decide +kernel
theorem d_Model_crcOfContent_12 : decode (mC m_Model_crcOfContent) 12 = .ok (.iload_n 1, 1) := by decide +kernel
theorem d_Model_crcOfContent_13 : decode (mC m_Model_crcOfContent) 13 = .ok (.aload_n 0, 1) := by decide +kernel
theorem d_Model_crcOfContent_14 : decode (mC m_Model_crcOfContent) 14 = .ok (.getfield 16, 3) := by decide +kernel
theorem d_Model_crcOfContent_17 : decode (mC m_Model_crcOfContent) 17 = .ok (.iload_n 2, 1) := by decide +kernel
theorem d_Model_crcOfContent_18 : decode (mC m_Model_crcOfContent) 18 = .ok (.iaload, 1) := by decide +kernel
theorem d_Model_crcOfContent_19 : decode (mC m_Model_crcOfContent) 19 = .ok (.invokestatic 78, 3) := by decide +kernel
theorem d_Model_crcOfContent_22 : decode (mC m_Model_crcOfContent) 22 = .ok (.istore_n 1, 1) := by decide +kernel
theorem d_Model_crcOfContent_23 : decode (mC m_Model_crcOfContent) 23 = .ok (.iinc 2 1, 3) := by decide +kernel
theorem d_Model_crcOfContent_26 : decode (mC m_Model_crcOfContent) 26 = .ok (.goto (-22), 3) := by decide +kernel
theorem d_Model_crcOfContent_29 : decode (mC m_Model_crcOfContent) 29 = .ok (.iconst (-1), 1) := by decide +kernel
theorem d_Model_crcOfContent_30 : decode (mC m_Model_crcOfContent) 30 = .ok (.iload_n 1, 1) := by decide +kernel
theorem d_Model_crcOfContent_31 : decode (mC m_Model_crcOfContent) 31 = .ok (.isub, 1) := by decide +kernel
theorem d_Model_crcOfContent_32 : decode (mC m_Model_crcOfContent) 32 = .ok (.ireturn, 1) := by decide +kernel
def b_Model_crcOfContent_4 (F : Nat) (K4 : Nat → Int32 → Int32 → zW → Option (Int32 × zW)) (v0 : Nat) (v1 : Int32) (v2 : Int32) (w : zW) : Option (Int32 × zW) := (getI w v0 9 6).bind fun x6 => if x6 ≤ v2 then (some (((-1 : Int32) - v1), w)) else ((getR w v0 9 7).bind fun x14 => (aget w x14 v2).bind fun x18 => (f_Model_stir F v1 x18 w).bind fun r19 => K4 v0 r19.1 (v2 + (1 : Int32)) r19.2)
set_option maxRecDepth 100000 in
set_option maxHeartbeats 4000000 in
theorem b_Model_crcOfContent_4_ok (G : zG) (F : Nat) (K4 : Nat → Int32 → Int32 → zW → Option (Int32 × zW)) (hK4 : ∀ (v0 : Nat) (v1 : Int32) (v2 : Int32) (w : zW) (r : (Int32 × zW)), K4 v0 v1 v2 w = some r → zV G m_Model_crcOfContent 4 [(0, .ref (z0 G + v0)), (1, .int v1), (2, .int v2)] [] w 0 0 (oI r.1) r.2) (v0 : Nat) (v1 : Int32) (v2 : Int32) (w : zW) (r : (Int32 × zW)) (h : b_Model_crcOfContent_4 F K4 v0 v1 v2 w = some r) : zV G m_Model_crcOfContent 4 [(0, .ref (z0 G + v0)), (1, .int v1), (2, .int v2)] [] w 0 0 (oI r.1) r.2 := by
  unfold b_Model_crcOfContent_4 at h
  refine V_iload_n (i := 2) d_Model_crcOfContent_4 rfl 2 rfl ?_
  refine V_aload_n (i := 0) d_Model_crcOfContent_5 rfl 0 rfl ?_
  obtain ⟨x6, e6, h⟩ := ob h
  refine V_getI (ci := 9) (k := 6) d_Model_crcOfContent_6 e6 rfl (by decide) in_Model k888 ?_
  refine V_icmp_ge (tgt := 29) d_Model_crcOfContent_9 (by decide) (fun c9 => ?_) (fun c9 => ?_)
  · rw [if_pos c9] at h
    refine V_iconst (v := -1) d_Model_crcOfContent_29 (by decide) ?_
    refine V_iload_n (i := 1) d_Model_crcOfContent_30 rfl 1 rfl ?_
    refine V_isub d_Model_crcOfContent_31 ?_
    obtain rfl := Option.some.inj h
    exact V_iret rfl (by decide) (by decide) d_Model_crcOfContent_32
  · rw [if_neg c9] at h
    refine V_iload_n (i := 1) d_Model_crcOfContent_12 rfl 1 rfl ?_
    refine V_aload_n (i := 0) d_Model_crcOfContent_13 rfl 0 rfl ?_
    obtain ⟨x14, e14, h⟩ := ob h
    refine V_getR (ci := 9) (k := 7) d_Model_crcOfContent_14 e14 rfl (by decide) in_Model k889 ?_
    refine V_iload_n (i := 2) d_Model_crcOfContent_17 rfl 2 rfl ?_
    obtain ⟨x18, e18, h⟩ := ob h
    refine V_aget d_Model_crcOfContent_18 e18 ?_
    obtain ⟨r19, e19, h⟩ := ob h
    refine V_call (v := some (.int r19.1)) (st := []) (inv_S (N := m_Model_stir) (As := [.int v1, .int x18]) d_Model_crcOfContent_19 k1020 k1021 k10 (Or.inl kc_Model_stir) y_Model_stir) ⟨Or.inl kc_Model_stir, k10, by decide, by decide⟩ (Nat.le_of_ble_eq_true rfl) (by decide) (by decide) (c_Model_stir G F v1 x18 w r19 e19) ?_
    refine V_istore_n (i := 1) d_Model_crcOfContent_22 rfl (by decide) rfl ?_
    refine V_iinc (i := 2) (v := (v2 + (1 : Int32))) d_Model_crcOfContent_23 2 rfl (congrArg (fun y => v2 + y) (by decide : Int32.ofInt (1) = (1 : Int32))) (by decide) rfl ?_
    refine V_goto (tgt := 4) d_Model_crcOfContent_26 (by decide) ?_
    refine V_lv [2, 1, 0] rfl ?_
    exact hK4 v0 r19.1 (v2 + (1 : Int32)) r19.2 _ h
def l_Model_crcOfContent_4 (F : Nat) : Nat → Nat → Int32 → Int32 → zW → Option (Int32 × zW)
  | 0 => fun _ _ _ _ => none
  | n + 1 => b_Model_crcOfContent_4 F (l_Model_crcOfContent_4 F n)
theorem l_Model_crcOfContent_4_ok (G : zG) (F : Nat) (n : Nat) :  ∀ (v0 : Nat) (v1 : Int32) (v2 : Int32) (w : zW) (r : (Int32 × zW)), l_Model_crcOfContent_4 F n v0 v1 v2 w = some r → zV G m_Model_crcOfContent 4 [(0, .ref (z0 G + v0)), (1, .int v1), (2, .int v2)] [] w 0 0 (oI r.1) r.2 := by
  induction n with
  | zero => intro v0 v1 v2 w r h; exact nomatch (show (none : Option (Int32 × zW)) = some r from h)
  | succ n ih => intro v0 v1 v2 w r h; exact b_Model_crcOfContent_4_ok G F (l_Model_crcOfContent_4 F n) ih v0 v1 v2 w r h
def b_Model_crcOfContent_0 (F : Nat) (v0 : Nat) (w : zW) : Option (Int32 × zW) := l_Model_crcOfContent_4 F F v0 (-1 : Int32) (0 : Int32) w
set_option maxRecDepth 100000 in
set_option maxHeartbeats 4000000 in
theorem b_Model_crcOfContent_0_ok (G : zG) (F : Nat) (v0 : Nat) (w : zW) (r : (Int32 × zW)) (h : b_Model_crcOfContent_0 F v0 w = some r) : zV G m_Model_crcOfContent 0 [(0, .ref (z0 G + v0))] [] w 0 0 (oI r.1) r.2 := by
  unfold b_Model_crcOfContent_0 at h
  refine V_iconst (v := -1) d_Model_crcOfContent_0 (by decide) ?_
  refine V_istore_n (i := 1) d_Model_crcOfContent_1 rfl (by decide) rfl ?_
  refine V_iconst (v := 0) d_Model_crcOfContent_2 (by decide) ?_
  refine V_istore_n (i := 2) d_Model_crcOfContent_3 rfl (by decide) rfl ?_
  refine V_lv [2, 1, 0] rfl ?_
  exact l_Model_crcOfContent_4_ok G F F v0 (-1 : Int32) (0 : Int32) w _ h
def f_Model_crcOfContent (F : Nat) (v0 : Nat) (w : zW) : Option (Int32 × zW) := b_Model_crcOfContent_0 F v0 w
theorem c_Model_crcOfContent (G : zG) (F : Nat) (v0 : Nat) (w : zW) (r : (Int32 × zW)) (h : f_Model_crcOfContent F v0 w = some r) : zCT G m_Model_crcOfContent [.ref (z0 G + v0)] w (oI r.1) r.2 := zCT.ofV (by decide +kernel) (Or.inl ⟨kc_Model_crcOfContent, rfl⟩) (Nat.le_of_ble_eq_true rfl) (b_Model_crcOfContent_0_ok G F v0 w r h)
