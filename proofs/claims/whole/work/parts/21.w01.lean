/-! ZipArray$Packer.findRepeat(LZipArray$Row;I)V -/
def m_Packer_findRepeat : zM := (⟨R_Packer, "findRepeat", "(LZipArray$Row;I)V"⟩, prog_6_method_3_code, 5, none, [], { frames := 2, cells := 0, slots := 0, locals := 48 })
theorem k67 : Cond.fieldLink R_Packer 36 (T_Packer 3).1 (T_Packer 3).2.1 (T_Packer 3).2.2.1 ∈ zTb := tb_at 67 (by decide +kernel) rfl
theorem k68 : Cond.fieldLink R_Packer 43 (T_Packer 4).1 (T_Packer 4).2.1 (T_Packer 4).2.2.1 ∈ zTb := tb_at 68 (by decide +kernel) rfl
theorem k684 : Cond.methodLink R_Packer 56 (mY m_Packer_sameBytes) ∈ zTb := tb_at 684 (by decide +kernel) rfl
theorem k685 : Cond.static (mY m_Packer_sameBytes) ∈ zTb := tb_at 685 (by decide +kernel) rfl
theorem kc_Packer_findRepeat : Cond.code (mY m_Packer_findRepeat) (mC m_Packer_findRepeat) (mL m_Packer_findRepeat) (mT m_Packer_findRepeat) ∈ zTb := tb_at 683 (by decide +kernel) rfl
theorem y_Packer_findRepeat : (mY m_Packer_findRepeat).cls ≠ "java/lang/invoke/MethodHandle" ∧ (mY m_Packer_findRepeat).cls ≠ "java/lang/invoke/VarHandle" ∧ (parseMethodDescriptor (mY m_Packer_findRepeat).desc).map (fun d => d.parameters.length) = some 2 := by decide +kernel
theorem sel_Packer_findRepeat : Cond.selects R_Packer (mY m_Packer_findRepeat) (mY m_Packer_findRepeat) ∈ zTb := sel_at (y := mY m_Packer_findRepeat) (n := 5) 26 (by decide +kernel)
theorem d_Packer_findRepeat_0 : decode (mC m_Packer_findRepeat) 0 = .ok (.aload_n 0, 1) := by decide +kernel
theorem d_Packer_findRepeat_1 : decode (mC m_Packer_findRepeat) 1 = .ok (.iconst 0, 1) := by decide +kernel
theorem d_Packer_findRepeat_2 : decode (mC m_Packer_findRepeat) 2 = .ok (.putfield 36, 3) := by decide +kernel
theorem d_Packer_findRepeat_5 : decode (mC m_Packer_findRepeat) 5 = .ok (.aload_n 0, 1) := by decide +kernel
theorem d_Packer_findRepeat_6 : decode (mC m_Packer_findRepeat) 6 = .ok (.iconst 0, 1) := by decide +kernel
theorem d_Packer_findRepeat_7 : decode (mC m_Packer_findRepeat) 7 = .ok (.putfield 43, 3) := by decide +kernel
theorem d_Packer_findRepeat_10 : decode (mC m_Packer_findRepeat) 10 = .ok (.iconst 1, 1) := by decide +kernel
theorem d_Packer_findRepeat_11 : decode (mC m_Packer_findRepeat) 11 = .ok (.istore_n 3, 1) := by decide +kernel
theorem d_Packer_findRepeat_12 : decode (mC m_Packer_findRepeat) 12 = .ok (.iload_n 3, 1) := by decide +kernel
theorem d_Packer_findRepeat_13 : decode (mC m_Packer_findRepeat) 13 = .ok (.iload_n 2, 1) := by decide +kernel
theorem d_Packer_findRepeat_14 : decode (mC m_Packer_findRepeat) 14 = .ok (.if_icmp .gt 37, 3) := by decide +kernel
theorem d_Packer_findRepeat_17 : decode (mC m_Packer_findRepeat) 17 = .ok (.aload_n 1, 1) := by decide +kernel
theorem d_Packer_findRepeat_18 : decode (mC m_Packer_findRepeat) 18 = .ok (.iload_n 2, 1) := by decide +kernel
theorem d_Packer_findRepeat_19 : decode (mC m_Packer_findRepeat) 19 = .ok (.iload_n 3, 1) := by decide +kernel
theorem d_Packer_findRepeat_20 : decode (mC m_Packer_findRepeat) 20 = .ok (.invokestatic 56, 3) := by decide +kernel
theorem d_Packer_findRepeat_23 : decode (mC m_Packer_findRepeat) 23 = .ok (.istore 4, 2) := by decide +kernel
theorem d_Packer_findRepeat_25 : decode (mC m_Packer_findRepeat) 25 = .ok (.iload 4, 2) := by decide +kernel
theorem d_Packer_findRepeat_27 : decode (mC m_Packer_findRepeat) 27 = .ok (.aload_n 0, 1) := by decide +kernel
theorem d_Packer_findRepeat_28 : decode (mC m_Packer_findRepeat) 28 = .ok (.getfield 36, 3) := by decide +kernel
theorem d_Packer_findRepeat_31 : decode (mC m_Packer_findRepeat) 31 = .ok (.if_icmp .le 14, 3) := by decide +kernel
theorem d_Packer_findRepeat_34 : decode (mC m_Packer_findRepeat) 34 = .ok (.aload_n 0, 1) := by decide +kernel
theorem d_Packer_findRepeat_35 : decode (mC m_Packer_findRepeat) 35 = .ok (.iload 4, 2) := by decide +kernel
theorem d_Packer_findRepeat_37 : decode (mC m_Packer_findRepeat) 37 = .ok (.putfield 36, 3) := by decide +kernel
theorem d_Packer_findRepeat_40 : decode (mC m_Packer_findRepeat) 40 = .ok (.aload_n 0, 1) := by decide +kernel
theorem d_Packer_findRepeat_41 : decode (mC m_Packer_findRepeat) 41 = .ok (.iload_n 3, 1) := by decide +kernel
theorem d_Packer_findRepeat_42 : decode (mC m_Packer_findRepeat) 42 = .ok (.putfield 43, 3) := by decide +kernel
theorem d_Packer_findRepeat_45 : decode (mC m_Packer_findRepeat) 45 = .ok (.iinc 3 1, 3) := by decide +kernel
theorem d_Packer_findRepeat_48 : decode (mC m_Packer_findRepeat) 48 = .ok (.goto (-36), 3) := by decide +kernel
theorem d_Packer_findRepeat_51 : decode (mC m_Packer_findRepeat) 51 = .ok (.return_, 1) := by decide +kernel
def b_Packer_findRepeat_45 (F : Nat) (K12 : Nat → Nat → Int32 → Int32 → zW → Option (Unit × zW)) (v0 : Nat) (v1 : Nat) (v2 : Int32) (v3 : Int32) (w : zW) : Option (Unit × zW) := K12 v0 v1 v2 (v3 + (1 : Int32)) w
set_option maxRecDepth 100000 in
set_option maxHeartbeats 4000000 in
theorem b_Packer_findRepeat_45_ok (G : zG) (F : Nat) (K12 : Nat → Nat → Int32 → Int32 → zW → Option (Unit × zW)) (hK12 : ∀ (v0 : Nat) (v1 : Nat) (v2 : Int32) (v3 : Int32) (w : zW) (r : (Unit × zW)), K12 v0 v1 v2 v3 w = some r → zV G m_Packer_findRepeat 12 [(0, .ref (z0 G + v0)), (1, .ref (z0 G + v1)), (2, .int v2), (3, .int v3)] [] w 0 0 (oV r.1) r.2) (v0 : Nat) (v1 : Nat) (v2 : Int32) (v3 : Int32) (w : zW) (r : (Unit × zW)) (h : b_Packer_findRepeat_45 F K12 v0 v1 v2 v3 w = some r) : zV G m_Packer_findRepeat 45 [(0, .ref (z0 G + v0)), (1, .ref (z0 G + v1)), (2, .int v2), (3, .int v3)] [] w 0 0 (oV r.1) r.2 := by
  unfold b_Packer_findRepeat_45 at h
  refine V_iinc (i := 3) (v := (v3 + (1 : Int32))) d_Packer_findRepeat_45 3 rfl (congrArg (fun y => v3 + y) (by decide : Int32.ofInt (1) = (1 : Int32))) (by decide) rfl ?_
  refine V_goto (tgt := 12) d_Packer_findRepeat_48 (by decide) ?_
  refine V_lv [1, 2, 3, 0] rfl ?_
  exact hK12 v0 v1 v2 (v3 + (1 : Int32)) w _ h
def b_Packer_findRepeat_12 (F : Nat) (K12 : Nat → Nat → Int32 → Int32 → zW → Option (Unit × zW)) (v0 : Nat) (v1 : Nat) (v2 : Int32) (v3 : Int32) (w : zW) : Option (Unit × zW) := if v2 < v3 then (some ((), w)) else ((f_Packer_sameBytes F v1 v2 v3 w).bind fun r20 => (getI r20.2 v0 3 3).bind fun x28 => if r20.1 ≤ x28 then (b_Packer_findRepeat_45 F K12 v0 v1 v2 v3 r20.2) else ((putI r20.2 v0 3 3 r20.1).bind fun w37 => (putI w37 v0 3 4 v3).bind fun w42 => b_Packer_findRepeat_45 F K12 v0 v1 v2 v3 w42))
set_option maxRecDepth 100000 in
set_option maxHeartbeats 4000000 in
theorem b_Packer_findRepeat_12_ok (G : zG) (F : Nat) (K12 : Nat → Nat → Int32 → Int32 → zW → Option (Unit × zW)) (hK12 : ∀ (v0 : Nat) (v1 : Nat) (v2 : Int32) (v3 : Int32) (w : zW) (r : (Unit × zW)), K12 v0 v1 v2 v3 w = some r → zV G m_Packer_findRepeat 12 [(0, .ref (z0 G + v0)), (1, .ref (z0 G + v1)), (2, .int v2), (3, .int v3)] [] w 0 0 (oV r.1) r.2) (v0 : Nat) (v1 : Nat) (v2 : Int32) (v3 : Int32) (w : zW) (r : (Unit × zW)) (h : b_Packer_findRepeat_12 F K12 v0 v1 v2 v3 w = some r) : zV G m_Packer_findRepeat 12 [(0, .ref (z0 G + v0)), (1, .ref (z0 G + v1)), (2, .int v2), (3, .int v3)] [] w 0 0 (oV r.1) r.2 := by
  unfold b_Packer_findRepeat_12 at h
  refine V_iload_n (i := 3) d_Packer_findRepeat_12 rfl 3 rfl ?_
  refine V_iload_n (i := 2) d_Packer_findRepeat_13 rfl 2 rfl ?_
  refine V_icmp_gt (tgt := 51) d_Packer_findRepeat_14 (by decide) (fun c14 => ?_) (fun c14 => ?_)
  · rw [if_pos c14] at h
    obtain rfl := Option.some.inj h
    exact V_vret rfl (by decide) (by decide) d_Packer_findRepeat_51
  · rw [if_neg c14] at h
    refine V_aload_n (i := 1) d_Packer_findRepeat_17 rfl 1 rfl ?_
    refine V_iload_n (i := 2) d_Packer_findRepeat_18 rfl 2 rfl ?_
    refine V_iload_n (i := 3) d_Packer_findRepeat_19 rfl 3 rfl ?_
    obtain ⟨r20, e20, h⟩ := ob h
    refine V_call (v := some (.int r20.1)) (st := []) (inv_S (N := m_Packer_sameBytes) (As := [.ref (z0 G + v1), .int v2, .int v3]) d_Packer_findRepeat_20 k684 k685 k3 (Or.inl kc_Packer_sameBytes) y_Packer_sameBytes) ⟨Or.inl kc_Packer_sameBytes, k3, by decide, by decide⟩ (Nat.le_of_ble_eq_true rfl) (by decide) (by decide) (c_Packer_sameBytes G F v1 v2 v3 w r20 e20) ?_
    refine V_istore (i := 4) d_Packer_findRepeat_23 (by decide) rfl ?_
    refine V_iload (i := 4) d_Packer_findRepeat_25 0 rfl ?_
    refine V_aload_n (i := 0) d_Packer_findRepeat_27 rfl 1 rfl ?_
    obtain ⟨x28, e28, h⟩ := ob h
    refine V_getI (ci := 3) (k := 3) d_Packer_findRepeat_28 e28 rfl (by decide) in_Packer k67 ?_
    refine V_icmp_le (tgt := 45) d_Packer_findRepeat_31 (by decide) (fun c31 => ?_) (fun c31 => ?_)
    · rw [if_pos c31] at h
      refine V_lv [1, 2, 3, 4] rfl ?_
      exact b_Packer_findRepeat_45_ok G F K12 hK12 v0 v1 v2 v3 r20.2 _ h
    · rw [if_neg c31] at h
      refine V_aload_n (i := 0) d_Packer_findRepeat_34 rfl 1 rfl ?_
      refine V_iload (i := 4) d_Packer_findRepeat_35 0 rfl ?_
      obtain ⟨w37, e37, h⟩ := ob h
      refine V_putI (ci := 3) (k := 3) t_Packer d_Packer_findRepeat_37 e37 rfl (by decide) in_Packer k67 ty_Packer nm_Packer rfl (Or.inl rfl) ?_
      refine V_aload_n (i := 0) d_Packer_findRepeat_40 rfl 1 rfl ?_
      refine V_iload_n (i := 3) d_Packer_findRepeat_41 rfl 4 rfl ?_
      obtain ⟨w42, e42, h⟩ := ob h
      refine V_putI (ci := 3) (k := 4) t_Packer d_Packer_findRepeat_42 e42 rfl (by decide) in_Packer k68 ty_Packer nm_Packer rfl (Or.inl rfl) ?_
      refine V_lv [1, 2, 3, 4] rfl ?_
      exact b_Packer_findRepeat_45_ok G F K12 hK12 v0 v1 v2 v3 w42 _ h
def l_Packer_findRepeat_12 (F : Nat) : Nat → Nat → Nat → Int32 → Int32 → zW → Option (Unit × zW)
  | 0 => fun _ _ _ _ _ => none
  | n + 1 => b_Packer_findRepeat_12 F (l_Packer_findRepeat_12 F n)
theorem l_Packer_findRepeat_12_ok (G : zG) (F : Nat) (n : Nat) :  ∀ (v0 : Nat) (v1 : Nat) (v2 : Int32) (v3 : Int32) (w : zW) (r : (Unit × zW)), l_Packer_findRepeat_12 F n v0 v1 v2 v3 w = some r → zV G m_Packer_findRepeat 12 [(0, .ref (z0 G + v0)), (1, .ref (z0 G + v1)), (2, .int v2), (3, .int v3)] [] w 0 0 (oV r.1) r.2 := by
  induction n with
  | zero => intro v0 v1 v2 v3 w r h; exact nomatch (show (none : Option (Unit × zW)) = some r from h)
  | succ n ih => intro v0 v1 v2 v3 w r h; exact b_Packer_findRepeat_12_ok G F (l_Packer_findRepeat_12 F n) ih v0 v1 v2 v3 w r h
def b_Packer_findRepeat_0 (F : Nat) (v0 : Nat) (v1 : Nat) (v2 : Int32) (w : zW) : Option (Unit × zW) := (putI w v0 3 3 (0 : Int32)).bind fun w2 => (putI w2 v0 3 4 (0 : Int32)).bind fun w7 => l_Packer_findRepeat_12 F F v0 v1 v2 (1 : Int32) w7
set_option maxRecDepth 100000 in
set_option maxHeartbeats 4000000 in
theorem b_Packer_findRepeat_0_ok (G : zG) (F : Nat) (v0 : Nat) (v1 : Nat) (v2 : Int32) (w : zW) (r : (Unit × zW)) (h : b_Packer_findRepeat_0 F v0 v1 v2 w = some r) : zV G m_Packer_findRepeat 0 [(0, .ref (z0 G + v0)), (1, .ref (z0 G + v1)), (2, .int v2)] [] w 0 0 (oV r.1) r.2 := by
  unfold b_Packer_findRepeat_0 at h
  refine V_aload_n (i := 0) d_Packer_findRepeat_0 rfl 0 rfl ?_
  refine V_iconst (v := 0) d_Packer_findRepeat_1 (by decide) ?_
  obtain ⟨w2, e2, h⟩ := ob h
  refine V_putI (ci := 3) (k := 3) t_Packer d_Packer_findRepeat_2 e2 rfl (by decide) in_Packer k67 ty_Packer nm_Packer rfl (Or.inl rfl) ?_
  refine V_aload_n (i := 0) d_Packer_findRepeat_5 rfl 0 rfl ?_
  refine V_iconst (v := 0) d_Packer_findRepeat_6 (by decide) ?_
  obtain ⟨w7, e7, h⟩ := ob h
  refine V_putI (ci := 3) (k := 4) t_Packer d_Packer_findRepeat_7 e7 rfl (by decide) in_Packer k68 ty_Packer nm_Packer rfl (Or.inl rfl) ?_
  refine V_iconst (v := 1) d_Packer_findRepeat_10 (by decide) ?_
  refine V_istore_n (i := 3) d_Packer_findRepeat_11 rfl (by decide) rfl ?_
  refine V_lv [1, 2, 3, 0] rfl ?_
  exact l_Packer_findRepeat_12_ok G F F v0 v1 v2 (1 : Int32) w7 _ h
def f_Packer_findRepeat (F : Nat) (v0 : Nat) (v1 : Nat) (v2 : Int32) (w : zW) : Option (Unit × zW) := b_Packer_findRepeat_0 F v0 v1 v2 w
theorem c_Packer_findRepeat (G : zG) (F : Nat) (v0 : Nat) (v1 : Nat) (v2 : Int32) (w : zW) (r : (Unit × zW)) (h : f_Packer_findRepeat F v0 v1 v2 w = some r) : zCT G m_Packer_findRepeat [.ref (z0 G + v0), .ref (z0 G + v1), .int v2] w (oV r.1) r.2 := zCT.ofV (by decide +kernel) (Or.inl ⟨kc_Packer_findRepeat, rfl⟩) (Nat.le_of_ble_eq_true rfl) (b_Packer_findRepeat_0_ok G F v0 v1 v2 w r h)

/-! ZipArray$Packer.writeWord(II)V -/
def m_Packer_writeWord : zM := (⟨R_Packer, "writeWord", "(II)V"⟩, prog_6_method_8_code, 4, none, [], { frames := 2, cells := 0, slots := 0, locals := 44 })
theorem k675 : Cond.methodLink R_Packer 25 (mY m_Packer_writeBits) ∈ zTb := tb_at 675 (by decide +kernel) rfl
theorem k677 : Cond.instanceMethod (mY m_Packer_writeBits) ∈ zTb := tb_at 677 (by decide +kernel) rfl
theorem kc_Packer_writeWord : Cond.code (mY m_Packer_writeWord) (mC m_Packer_writeWord) (mL m_Packer_writeWord) (mT m_Packer_writeWord) ∈ zTb := tb_at 701 (by decide +kernel) rfl
theorem y_Packer_writeWord : (mY m_Packer_writeWord).cls ≠ "java/lang/invoke/MethodHandle" ∧ (mY m_Packer_writeWord).cls ≠ "java/lang/invoke/VarHandle" ∧ (parseMethodDescriptor (mY m_Packer_writeWord).desc).map (fun d => d.parameters.length) = some 2 := by decide +kernel
theorem sel_Packer_writeWord : Cond.selects R_Packer (mY m_Packer_writeWord) (mY m_Packer_writeWord) ∈ zTb := sel_at (y := mY m_Packer_writeWord) (n := 5) 29 (by decide +kernel)
theorem d_Packer_writeWord_0 : decode (mC m_Packer_writeWord) 0 = .ok (.iload_n 2, 1) := by decide +kernel
theorem d_Packer_writeWord_1 : decode (mC m_Packer_writeWord) 1 = .ok (.iconst 1, 1) := by decide +kernel
theorem d_Packer_writeWord_2 : decode (mC m_Packer_writeWord) 2 = .ok (.isub, 1) := by decide +kernel
theorem d_Packer_writeWord_3 : decode (mC m_Packer_writeWord) 3 = .ok (.istore_n 3, 1) := by decide +kernel
theorem d_Packer_writeWord_4 : decode (mC m_Packer_writeWord) 4 = .ok (.iload_n 3, 1) := by decide +kernel
theorem d_Packer_writeWord_5 : decode (mC m_Packer_writeWord) 5 = .ok (.ifCond .lt 17, 3) := by decide +kernel
theorem d_Packer_writeWord_8 : decode (mC m_Packer_writeWord) 8 = .ok (.aload_n 0, 1) := by decide +kernel
theorem d_Packer_writeWord_9 : decode (mC m_Packer_writeWord) 9 = .ok (.iload_n 1, 1) := by decide +kernel
theorem d_Packer_writeWord_10 : decode (mC m_Packer_writeWord) 10 = .ok (.iload_n 3, 1) := by decide +kernel
theorem d_Packer_writeWord_11 : decode (mC m_Packer_writeWord) 11 = .ok (.ishr, 1) := by decide +kernel
theorem d_Packer_writeWord_12 : decode (mC m_Packer_writeWord) 12 = .ok (.iconst 1, 1) := by decide +kernel
theorem d_Packer_writeWord_13 : decode (mC m_Packer_writeWord) 13 = .ok (.invokevirtual 25, 3) := by decide +kernel
theorem d_Packer_writeWord_16 : decode (mC m_Packer_writeWord) 16 = .ok (.iinc 3 (-1), 3) := by decide +kernel
theorem d_Packer_writeWord_19 : decode (mC m_Packer_writeWord) 19 = .ok (.goto (-15), 3) := by decide +kernel
theorem d_Packer_writeWord_22 : decode (mC m_Packer_writeWord) 22 = .ok (.return_, 1) := by decide +kernel
def b_Packer_writeWord_4 (F : Nat) (K4 : Nat → Int32 → Int32 → zW → Option (Unit × zW)) (v0 : Nat) (v1 : Int32) (v3 : Int32) (w : zW) : Option (Unit × zW) := if v3 < 0 then (some ((), w)) else ((zobj w v0 3).bind fun _ => (f_Packer_writeBits F v0 (v1 >>> (v3 &&& 31)) (1 : Int32) w).bind fun r13 => K4 v0 v1 (v3 + (-1 : Int32)) r13.2)
set_option maxRecDepth 100000 in
set_option maxHeartbeats 4000000 in
theorem b_Packer_writeWord_4_ok (G : zG) (F : Nat) (K4 : Nat → Int32 → Int32 → zW → Option (Unit × zW)) (hK4 : ∀ (v0 : Nat) (v1 : Int32) (v3 : Int32) (w : zW) (r : (Unit × zW)), K4 v0 v1 v3 w = some r → zV G m_Packer_writeWord 4 [(0, .ref (z0 G + v0)), (1, .int v1), (3, .int v3)] [] w 0 0 (oV r.1) r.2) (v0 : Nat) (v1 : Int32) (v3 : Int32) (w : zW) (r : (Unit × zW)) (h : b_Packer_writeWord_4 F K4 v0 v1 v3 w = some r) : zV G m_Packer_writeWord 4 [(0, .ref (z0 G + v0)), (1, .int v1), (3, .int v3)] [] w 0 0 (oV r.1) r.2 := by
  unfold b_Packer_writeWord_4 at h
  refine V_iload_n (i := 3) d_Packer_writeWord_4 rfl 2 rfl ?_
  refine V_if_lt (tgt := 22) d_Packer_writeWord_5 (by decide) (fun c5 => ?_) (fun c5 => ?_)
  · rw [if_pos c5] at h
    obtain rfl := Option.some.inj h
    exact V_vret rfl (by decide) (by decide) d_Packer_writeWord_22
  · rw [if_neg c5] at h
    refine V_aload_n (i := 0) d_Packer_writeWord_8 rfl 0 rfl ?_
    refine V_iload_n (i := 1) d_Packer_writeWord_9 rfl 1 rfl ?_
    refine V_iload_n (i := 3) d_Packer_writeWord_10 rfl 2 rfl ?_
    refine V_ishr d_Packer_writeWord_11 ?_
    refine V_iconst (v := 1) d_Packer_writeWord_12 (by decide) ?_
    obtain ⟨_, eo13, h⟩ := ob h
    obtain ⟨r13, e13, h⟩ := ob h
    refine V_call (v := none) (st := []) (inv_V (N := m_Packer_writeBits) (As := [.int (v1 >>> (v3 &&& 31)), .int (1 : Int32)]) (ci := 3) d_Packer_writeWord_13 eo13 rfl k675 k677 sel_Packer_writeBits kc_Packer_writeBits y_Packer_writeBits) ⟨Or.inl kc_Packer_writeBits, k3, by decide, by decide⟩ (Nat.le_of_ble_eq_true rfl) (by decide) (by decide) (c_Packer_writeBits G F v0 (v1 >>> (v3 &&& 31)) (1 : Int32) w r13 e13) ?_
    refine V_iinc (i := 3) (v := (v3 + (-1 : Int32))) d_Packer_writeWord_16 2 rfl (congrArg (fun y => v3 + y) (by decide : Int32.ofInt (-1) = (-1 : Int32))) (by decide) rfl ?_
    refine V_goto (tgt := 4) d_Packer_writeWord_19 (by decide) ?_
    refine V_lv [1, 2, 0] rfl ?_
    exact hK4 v0 v1 (v3 + (-1 : Int32)) r13.2 _ h
def l_Packer_writeWord_4 (F : Nat) : Nat → Nat → Int32 → Int32 → zW → Option (Unit × zW)
  | 0 => fun _ _ _ _ => none
  | n + 1 => b_Packer_writeWord_4 F (l_Packer_writeWord_4 F n)
theorem l_Packer_writeWord_4_ok (G : zG) (F : Nat) (n : Nat) :  ∀ (v0 : Nat) (v1 : Int32) (v3 : Int32) (w : zW) (r : (Unit × zW)), l_Packer_writeWord_4 F n v0 v1 v3 w = some r → zV G m_Packer_writeWord 4 [(0, .ref (z0 G + v0)), (1, .int v1), (3, .int v3)] [] w 0 0 (oV r.1) r.2 := by
  induction n with
  | zero => intro v0 v1 v3 w r h; exact nomatch (show (none : Option (Unit × zW)) = some r from h)
  | succ n ih => intro v0 v1 v3 w r h; exact b_Packer_writeWord_4_ok G F (l_Packer_writeWord_4 F n) ih v0 v1 v3 w r h
def b_Packer_writeWord_0 (F : Nat) (v0 : Nat) (v1 : Int32) (v2 : Int32) (w : zW) : Option (Unit × zW) := l_Packer_writeWord_4 F F v0 v1 (v2 - (1 : Int32)) w
set_option maxRecDepth 100000 in
set_option maxHeartbeats 4000000 in
theorem b_Packer_writeWord_0_ok (G : zG) (F : Nat) (v0 : Nat) (v1 : Int32) (v2 : Int32) (w : zW) (r : (Unit × zW)) (h : b_Packer_writeWord_0 F v0 v1 v2 w = some r) : zV G m_Packer_writeWord 0 [(0, .ref (z0 G + v0)), (1, .int v1), (2, .int v2)] [] w 0 0 (oV r.1) r.2 := by
  unfold b_Packer_writeWord_0 at h
  refine V_iload_n (i := 2) d_Packer_writeWord_0 rfl 2 rfl ?_
  refine V_iconst (v := 1) d_Packer_writeWord_1 (by decide) ?_
  refine V_isub d_Packer_writeWord_2 ?_
  refine V_istore_n (i := 3) d_Packer_writeWord_3 rfl (by decide) rfl ?_
  refine V_lv [1, 2, 0] rfl ?_
  exact l_Packer_writeWord_4_ok G F F v0 v1 (v2 - (1 : Int32)) w _ h
def f_Packer_writeWord (F : Nat) (v0 : Nat) (v1 : Int32) (v2 : Int32) (w : zW) : Option (Unit × zW) := b_Packer_writeWord_0 F v0 v1 v2 w
theorem c_Packer_writeWord (G : zG) (F : Nat) (v0 : Nat) (v1 : Int32) (v2 : Int32) (w : zW) (r : (Unit × zW)) (h : f_Packer_writeWord F v0 v1 v2 w = some r) : zCT G m_Packer_writeWord [.ref (z0 G + v0), .int v1, .int v2] w (oV r.1) r.2 := zCT.ofV (by decide +kernel) (Or.inl ⟨kc_Packer_writeWord, rfl⟩) (Nat.le_of_ble_eq_true rfl) (b_Packer_writeWord_0_ok G F v0 v1 v2 w r h)

/-! ZipArray$Packer.writeSymbol(I)V -/
def m_Packer_writeSymbol : zM := (⟨R_Packer, "writeSymbol", "(I)V"⟩, prog_6_method_7_code, 2, none, [], { frames := 3, cells := 0, slots := 0, locals := 67 })
theorem k698 : Cond.methodLink R_Packer 70 (mY m_Packer_writeWord) ∈ zTb := tb_at 698 (by decide +kernel) rfl
theorem k700 : Cond.instanceMethod (mY m_Packer_writeWord) ∈ zTb := tb_at 700 (by decide +kernel) rfl
theorem kc_Packer_writeSymbol : Cond.code (mY m_Packer_writeSymbol) (mC m_Packer_writeSymbol) (mL m_Packer_writeSymbol) (mT m_Packer_writeSymbol) ∈ zTb := tb_at 697 (by decide +kernel) rfl
theorem y_Packer_writeSymbol : (mY m_Packer_writeSymbol).cls ≠ "java/lang/invoke/MethodHandle" ∧ (mY m_Packer_writeSymbol).cls ≠ "java/lang/invoke/VarHandle" ∧ (parseMethodDescriptor (mY m_Packer_writeSymbol).desc).map (fun d => d.parameters.length) = some 1 := by decide +kernel
theorem sel_Packer_writeSymbol : Cond.selects R_Packer (mY m_Packer_writeSymbol) (mY m_Packer_writeSymbol) ∈ zTb := sel_at (y := mY m_Packer_writeSymbol) (n := 5) 28 (by decide +kernel)
theorem d_Packer_writeSymbol_0 : decode (mC m_Packer_writeSymbol) 0 = .ok (.iload_n 1, 1) := by decide +kernel
theorem d_Packer_writeSymbol_1 : decode (mC m_Packer_writeSymbol) 1 = .ok (.sipush 144, 3) := by decide +kernel
theorem d_Packer_writeSymbol_4 : decode (mC m_Packer_writeSymbol) 4 = .ok (.if_icmp .ge 16, 3) := by decide +kernel
theorem d_Packer_writeSymbol_7 : decode (mC m_Packer_writeSymbol) 7 = .ok (.aload_n 0, 1) := by decide +kernel
theorem d_Packer_writeSymbol_8 : decode (mC m_Packer_writeSymbol) 8 = .ok (.bipush 48, 2) := by decide +kernel
theorem d_Packer_writeSymbol_10 : decode (mC m_Packer_writeSymbol) 10 = .ok (.iload_n 1, 1) := by decide +kernel
theorem d_Packer_writeSymbol_11 : decode (mC m_Packer_writeSymbol) 11 = .ok (.iadd, 1) := by decide +kernel
theorem d_Packer_writeSymbol_12 : decode (mC m_Packer_writeSymbol) 12 = .ok (.bipush 8, 2) := by decide +kernel
theorem d_Packer_writeSymbol_14 : decode (mC m_Packer_writeSymbol) 14 = .ok (.invokevirtual 70, 3) := by decide +kernel
theorem d_Packer_writeSymbol_17 : decode (mC m_Packer_writeSymbol) 17 = .ok (.goto 64, 3) := by decide +kernel
theorem d_Packer_writeSymbol_20 : decode (mC m_Packer_writeSymbol) 20 = .ok (.iload_n 1, 1) := by decide +kernel
theorem d_Packer_writeSymbol_21 : decode (mC m_Packer_writeSymbol) 21 = .ok (.sipush 256, 3) := by decide +kernel
theorem d_Packer_writeSymbol_24 : decode (mC m_Packer_writeSymbol) 24 = .ok (.if_icmp .ge 21, 3) := by decide +kernel
theorem d_Packer_writeSymbol_27 : decode (mC m_Packer_writeSymbol) 27 = .ok (.aload_n 0, 1) := by decide +kernel
theorem d_Packer_writeSymbol_28 : decode (mC m_Packer_writeSymbol) 28 = .ok (.sipush 400, 3) := by decide +kernel
theorem d_Packer_writeSymbol_31 : decode (mC m_Packer_writeSymbol) 31 = .ok (.iload_n 1, 1) := by decide +kernel
theorem d_Packer_writeSymbol_32 : decode (mC m_Packer_writeSymbol) 32 = .ok (.iadd, 1) := by decide +kernel
theorem d_Packer_writeSymbol_33 : decode (mC m_Packer_writeSymbol) 33 = .ok (.sipush 144, 3) := by decide +kernel
theorem d_Packer_writeSymbol_36 : decode (mC m_Packer_writeSymbol) 36 = .ok (.isub, 1) := by decide +kernel
theorem d_Packer_writeSymbol_37 : decode (mC m_Packer_writeSymbol) 37 = .ok (.bipush 9, 2) := by decide +kernel
theorem d_Packer_writeSymbol_39 : decode (mC m_Packer_writeSymbol) 39 = .ok (.invokevirtual 70, 3) := by decide +kernel
theorem d_Packer_writeSymbol_42 : decode (mC m_Packer_writeSymbol) 42 = .ok (.goto 39, 3) := by decide +kernel
theorem d_Packer_writeSymbol_45 : decode (mC m_Packer_writeSymbol) 45 = .ok (.iload_n 1, 1) := by decide +kernel
theorem d_Packer_writeSymbol_46 : decode (mC m_Packer_writeSymbol) 46 = .ok (.sipush 280, 3) := by decide +kernel
theorem d_Packer_writeSymbol_49 : decode (mC m_Packer_writeSymbol) 49 = .ok (.if_icmp .ge 17, 3) := by decide +kernel
theorem d_Packer_writeSymbol_52 : decode (mC m_Packer_writeSymbol) 52 = .ok (.aload_n 0, 1) := by decide +kernel
theorem d_Packer_writeSymbol_53 : decode (mC m_Packer_writeSymbol) 53 = .ok (.iload_n 1, 1) := by decide +kernel
theorem d_Packer_writeSymbol_54 : decode (mC m_Packer_writeSymbol) 54 = .ok (.sipush 256, 3) := by decide +kernel
theorem d_Packer_writeSymbol_57 : decode (mC m_Packer_writeSymbol) 57 = .ok (.isub, 1) := by decide +kernel
theorem d_Packer_writeSymbol_58 : decode (mC m_Packer_writeSymbol) 58 = .ok (.bipush 7, 2) := by decide +kernel
theorem d_Packer_writeSymbol_60 : decode (mC m_Packer_writeSymbol) 60 = .ok (.invokevirtual 70, 3) := by decide +kernel
theorem d_Packer_writeSymbol_63 : decode (mC m_Packer_writeSymbol) 63 = .ok (.goto 18, 3) := by decide +kernel
theorem d_Packer_writeSymbol_66 : decode (mC m_Packer_writeSymbol) 66 = .ok (.aload_n 0, 1) := by decide +kernel
theorem d_Packer_writeSymbol_67 : decode (mC m_Packer_writeSymbol) 67 = .ok (.sipush 192, 3) := by decide +kernel
theorem d_Packer_writeSymbol_70 : decode (mC m_Packer_writeSymbol) 70 = .ok (.iload_n 1, 1) := by decide +kernel
theorem d_Packer_writeSymbol_71 : decode (mC m_Packer_writeSymbol) 71 = .ok (.iadd, 1) := by decide +kernel
theorem d_Packer_writeSymbol_72 : decode (mC m_Packer_writeSymbol) 72 = .ok (.sipush 280, 3) := by decide +kernel
theorem d_Packer_writeSymbol_75 : decode (mC m_Packer_writeSymbol) 75 = .ok (.isub, 1) := by decide +kernel
theorem d_Packer_writeSymbol_76 : decode (mC m_Packer_writeSymbol) 76 = .ok (.bipush 8, 2) := by decide +kernel
theorem d_Packer_writeSymbol_78 : decode (mC m_Packer_writeSymbol) 78 = .ok (.invokevirtual 70, 3) := by decide +kernel
theorem d_Packer_writeSymbol_81 : decode (mC m_Packer_writeSymbol) 81 = .ok (.return_, 1) := by decide +kernel
def b_Packer_writeSymbol_0 (F : Nat) (v0 : Nat) (v1 : Int32) (w : zW) : Option (Unit × zW) := if (144 : Int32) ≤ v1 then (if (256 : Int32) ≤ v1 then (if (280 : Int32) ≤ v1 then ((zobj w v0 3).bind fun _ => (f_Packer_writeWord F v0 (((192 : Int32) + v1) - (280 : Int32)) (8 : Int32) w).bind fun r78 => some ((), r78.2)) else ((zobj w v0 3).bind fun _ => (f_Packer_writeWord F v0 (v1 - (256 : Int32)) (7 : Int32) w).bind fun r60 => some ((), r60.2))) else ((zobj w v0 3).bind fun _ => (f_Packer_writeWord F v0 (((400 : Int32) + v1) - (144 : Int32)) (9 : Int32) w).bind fun r39 => some ((), r39.2))) else ((zobj w v0 3).bind fun _ => (f_Packer_writeWord F v0 ((48 : Int32) + v1) (8 : Int32) w).bind fun r14 => some ((), r14.2))
set_option maxRecDepth 100000 in
set_option maxHeartbeats 4000000 in
theorem b_Packer_writeSymbol_0_ok (G : zG) (F : Nat) (v0 : Nat) (v1 : Int32) (w : zW) (r : (Unit × zW)) (h : b_Packer_writeSymbol_0 F v0 v1 w = some r) : zV G m_Packer_writeSymbol 0 [(0, .ref (z0 G + v0)), (1, .int v1)] [] w 0 0 (oV r.1) r.2 := by
  unfold b_Packer_writeSymbol_0 at h
  refine V_iload_n (i := 1) d_Packer_writeSymbol_0 rfl 1 rfl ?_
  refine V_sipush (v := 144) d_Packer_writeSymbol_1 (by decide) ?_
  refine V_icmp_ge (tgt := 20) d_Packer_writeSymbol_4 (by decide) (fun c4 => ?_) (fun c4 => ?_)
  · rw [if_pos c4] at h
    refine V_iload_n (i := 1) d_Packer_writeSymbol_20 rfl 1 rfl ?_
    refine V_sipush (v := 256) d_Packer_writeSymbol_21 (by decide) ?_
    refine V_icmp_ge (tgt := 45) d_Packer_writeSymbol_24 (by decide) (fun c24 => ?_) (fun c24 => ?_)
    · rw [if_pos c24] at h
      refine V_iload_n (i := 1) d_Packer_writeSymbol_45 rfl 1 rfl ?_
      refine V_sipush (v := 280) d_Packer_writeSymbol_46 (by decide) ?_
      refine V_icmp_ge (tgt := 66) d_Packer_writeSymbol_49 (by decide) (fun c49 => ?_) (fun c49 => ?_)
      · rw [if_pos c49] at h
        refine V_aload_n (i := 0) d_Packer_writeSymbol_66 rfl 0 rfl ?_
        refine V_sipush (v := 192) d_Packer_writeSymbol_67 (by decide) ?_
        refine V_iload_n (i := 1) d_Packer_writeSymbol_70 rfl 1 rfl ?_
        refine V_iadd d_Packer_writeSymbol_71 ?_
        refine V_sipush (v := 280) d_Packer_writeSymbol_72 (by decide) ?_
        refine V_isub d_Packer_writeSymbol_75 ?_
        refine V_bipush (v := 8) d_Packer_writeSymbol_76 (by decide) ?_
        obtain ⟨_, eo78, h⟩ := ob h
        obtain ⟨r78, e78, h⟩ := ob h
        refine V_call (v := none) (st := []) (inv_V (N := m_Packer_writeWord) (As := [.int (((192 : Int32) + v1) - (280 : Int32)), .int (8 : Int32)]) (ci := 3) d_Packer_writeSymbol_78 eo78 rfl k698 k700 sel_Packer_writeWord kc_Packer_writeWord y_Packer_writeWord) ⟨Or.inl kc_Packer_writeWord, k3, by decide, by decide⟩ (Nat.le_of_ble_eq_true rfl) (by decide) (by decide) (c_Packer_writeWord G F v0 (((192 : Int32) + v1) - (280 : Int32)) (8 : Int32) w r78 e78) ?_
        obtain rfl := Option.some.inj h
        exact V_vret rfl (by decide) (by decide) d_Packer_writeSymbol_81
      · rw [if_neg c49] at h
        refine V_aload_n (i := 0) d_Packer_writeSymbol_52 rfl 0 rfl ?_
        refine V_iload_n (i := 1) d_Packer_writeSymbol_53 rfl 1 rfl ?_
        refine V_sipush (v := 256) d_Packer_writeSymbol_54 (by decide) ?_
        refine V_isub d_Packer_writeSymbol_57 ?_
        refine V_bipush (v := 7) d_Packer_writeSymbol_58 (by decide) ?_
        obtain ⟨_, eo60, h⟩ := ob h
        obtain ⟨r60, e60, h⟩ := ob h
        refine V_call (v := none) (st := []) (inv_V (N := m_Packer_writeWord) (As := [.int (v1 - (256 : Int32)), .int (7 : Int32)]) (ci := 3) d_Packer_writeSymbol_60 eo60 rfl k698 k700 sel_Packer_writeWord kc_Packer_writeWord y_Packer_writeWord) ⟨Or.inl kc_Packer_writeWord, k3, by decide, by decide⟩ (Nat.le_of_ble_eq_true rfl) (by decide) (by decide) (c_Packer_writeWord G F v0 (v1 - (256 : Int32)) (7 : Int32) w r60 e60) ?_
        refine V_goto (tgt := 81) d_Packer_writeSymbol_63 (by decide) ?_
        obtain rfl := Option.some.inj h
        exact V_vret rfl (by decide) (by decide) d_Packer_writeSymbol_81
    · rw [if_neg c24] at h
      refine V_aload_n (i := 0) d_Packer_writeSymbol_27 rfl 0 rfl ?_
      refine V_sipush (v := 400) d_Packer_writeSymbol_28 (by decide) ?_
      refine V_iload_n (i := 1) d_Packer_writeSymbol_31 rfl 1 rfl ?_
      refine V_iadd d_Packer_writeSymbol_32 ?_
      refine V_sipush (v := 144) d_Packer_writeSymbol_33 (by decide) ?_
      refine V_isub d_Packer_writeSymbol_36 ?_
      refine V_bipush (v := 9) d_Packer_writeSymbol_37 (by decide) ?_
      obtain ⟨_, eo39, h⟩ := ob h
      obtain ⟨r39, e39, h⟩ := ob h
      refine V_call (v := none) (st := []) (inv_V (N := m_Packer_writeWord) (As := [.int (((400 : Int32) + v1) - (144 : Int32)), .int (9 : Int32)]) (ci := 3) d_Packer_writeSymbol_39 eo39 rfl k698 k700 sel_Packer_writeWord kc_Packer_writeWord y_Packer_writeWord) ⟨Or.inl kc_Packer_writeWord, k3, by decide, by decide⟩ (Nat.le_of_ble_eq_true rfl) (by decide) (by decide) (c_Packer_writeWord G F v0 (((400 : Int32) + v1) - (144 : Int32)) (9 : Int32) w r39 e39) ?_
      refine V_goto (tgt := 81) d_Packer_writeSymbol_42 (by decide) ?_
      obtain rfl := Option.some.inj h
      exact V_vret rfl (by decide) (by decide) d_Packer_writeSymbol_81
  · rw [if_neg c4] at h
    refine V_aload_n (i := 0) d_Packer_writeSymbol_7 rfl 0 rfl ?_
    refine V_bipush (v := 48) d_Packer_writeSymbol_8 (by decide) ?_
    refine V_iload_n (i := 1) d_Packer_writeSymbol_10 rfl 1 rfl ?_
    refine V_iadd d_Packer_writeSymbol_11 ?_
    refine V_bipush (v := 8) d_Packer_writeSymbol_12 (by decide) ?_
    obtain ⟨_, eo14, h⟩ := ob h
    obtain ⟨r14, e14, h⟩ := ob h
    refine V_call (v := none) (st := []) (inv_V (N := m_Packer_writeWord) (As := [.int ((48 : Int32) + v1), .int (8 : Int32)]) (ci := 3) d_Packer_writeSymbol_14 eo14 rfl k698 k700 sel_Packer_writeWord kc_Packer_writeWord y_Packer_writeWord) ⟨Or.inl kc_Packer_writeWord, k3, by decide, by decide⟩ (Nat.le_of_ble_eq_true rfl) (by decide) (by decide) (c_Packer_writeWord G F v0 ((48 : Int32) + v1) (8 : Int32) w r14 e14) ?_
    refine V_goto (tgt := 81) d_Packer_writeSymbol_17 (by decide) ?_
    obtain rfl := Option.some.inj h
    exact V_vret rfl (by decide) (by decide) d_Packer_writeSymbol_81
def f_Packer_writeSymbol (F : Nat) (v0 : Nat) (v1 : Int32) (w : zW) : Option (Unit × zW) := b_Packer_writeSymbol_0 F v0 v1 w
theorem c_Packer_writeSymbol (G : zG) (F : Nat) (v0 : Nat) (v1 : Int32) (w : zW) (r : (Unit × zW)) (h : f_Packer_writeSymbol F v0 v1 w = some r) : zCT G m_Packer_writeSymbol [.ref (z0 G + v0), .int v1] w (oV r.1) r.2 := zCT.ofV (by decide +kernel) (Or.inl ⟨kc_Packer_writeSymbol, rfl⟩) (Nat.le_of_ble_eq_true rfl) (b_Packer_writeSymbol_0_ok G F v0 v1 w r h)

/-! ZipArray$Packer.writeLength(I)V -/
def m_Packer_writeLength : zM := (⟨R_Packer, "writeLength", "(I)V"⟩, prog_6_method_5_code, 4, none, [], { frames := 4, cells := 0, slots := 0, locals := 88 })
theorem k694 : Cond.methodLink R_Packer 53 (mY m_Packer_writeSymbol) ∈ zTb := tb_at 694 (by decide +kernel) rfl
theorem k696 : Cond.instanceMethod (mY m_Packer_writeSymbol) ∈ zTb := tb_at 696 (by decide +kernel) rfl
theorem kc_Packer_writeLength : Cond.code (mY m_Packer_writeLength) (mC m_Packer_writeLength) (mL m_Packer_writeLength) (mT m_Packer_writeLength) ∈ zTb := tb_at 693 (by decide +kernel) rfl
theorem y_Packer_writeLength : (mY m_Packer_writeLength).cls ≠ "java/lang/invoke/MethodHandle" ∧ (mY m_Packer_writeLength).cls ≠ "java/lang/invoke/VarHandle" ∧ (parseMethodDescriptor (mY m_Packer_writeLength).desc).map (fun d => d.parameters.length) = some 1 := by decide +kernel
theorem sel_Packer_writeLength : Cond.selects R_Packer (mY m_Packer_writeLength) (mY m_Packer_writeLength) ∈ zTb := sel_at (y := mY m_Packer_writeLength) (n := 5) 27 (by decide +kernel)
theorem d_Packer_writeLength_0 : decode (mC m_Packer_writeLength) 0 = .ok (.iload_n 1, 1) := by decide +kernel
theorem d_Packer_writeLength_1 : decode (mC m_Packer_writeLength) 1 = .ok (.sipush 258, 3) := by decide +kernel
theorem d_Packer_writeLength_4 : decode (mC m_Packer_writeLength) 4 = .ok (.if_icmp .ne 11, 3) := by decide +kernel
theorem d_Packer_writeLength_7 : decode (mC m_Packer_writeLength) 7 = .ok (.aload_n 0, 1) := by decide +kernel
theorem d_Packer_writeLength_8 : decode (mC m_Packer_writeLength) 8 = .ok (.sipush 285, 3) := by decide +kernel
theorem d_Packer_writeLength_11 : decode (mC m_Packer_writeLength) 11 = .ok (.invokevirtual 53, 3) := by decide +kernel
theorem d_Packer_writeLength_14 : decode (mC m_Packer_writeLength) 14 = .ok (.return_, 1) := by decide +kernel
theorem d_Packer_writeLength_15 : decode (mC m_Packer_writeLength) 15 = .ok (.iload_n 1, 1) := by decide +kernel
theorem d_Packer_writeLength_16 : decode (mC m_Packer_writeLength) 16 = .ok (.iconst 3, 1) := by decide +kernel
theorem d_Packer_writeLength_17 : decode (mC m_Packer_writeLength) 17 = .ok (.isub, 1) := by decide +kernel
theorem d_Packer_writeLength_18 : decode (mC m_Packer_writeLength) 18 = .ok (.istore_n 2, 1) := by decide +kernel
theorem d_Packer_writeLength_19 : decode (mC m_Packer_writeLength) 19 = .ok (.iload_n 2, 1) := by decide +kernel
theorem d_Packer_writeLength_20 : decode (mC m_Packer_writeLength) 20 = .ok (.bipush 8, 2) := by decide +kernel
theorem d_Packer_writeLength_22 : decode (mC m_Packer_writeLength) 22 = .ok (.if_icmp .ge 13, 3) := by decide +kernel
theorem d_Packer_writeLength_25 : decode (mC m_Packer_writeLength) 25 = .ok (.aload_n 0, 1) := by decide +kernel
theorem d_Packer_writeLength_26 : decode (mC m_Packer_writeLength) 26 = .ok (.sipush 257, 3) := by decide +kernel
theorem d_Packer_writeLength_29 : decode (mC m_Packer_writeLength) 29 = .ok (.iload_n 2, 1) := by decide +kernel
theorem d_Packer_writeLength_30 : decode (mC m_Packer_writeLength) 30 = .ok (.iadd, 1) := by decide +kernel
theorem d_Packer_writeLength_31 : decode (mC m_Packer_writeLength) 31 = .ok (.invokevirtual 53, 3) := by decide +kernel
theorem d_Packer_writeLength_34 : decode (mC m_Packer_writeLength) 34 = .ok (.return_, 1) := by decide +kernel
theorem d_Packer_writeLength_35 : decode (mC m_Packer_writeLength) 35 = .ok (.iconst 1, 1) := by decide +kernel
theorem d_Packer_writeLength_36 : decode (mC m_Packer_writeLength) 36 = .ok (.istore_n 3, 1) := by decide +kernel
theorem d_Packer_writeLength_37 : decode (mC m_Packer_writeLength) 37 = .ok (.iload_n 3, 1) := by decide +kernel
theorem d_Packer_writeLength_38 : decode (mC m_Packer_writeLength) 38 = .ok (.iconst 5, 1) := by decide +kernel
theorem d_Packer_writeLength_39 : decode (mC m_Packer_writeLength) 39 = .ok (.if_icmp .ge 17, 3) := by decide +kernel
theorem d_Packer_writeLength_42 : decode (mC m_Packer_writeLength) 42 = .ok (.iload_n 2, 1) := by decide +kernel
theorem d_Packer_writeLength_43 : decode (mC m_Packer_writeLength) 43 = .ok (.iload_n 3, 1) := by decide +kernel
theorem d_Packer_writeLength_44 : decode (mC m_Packer_writeLength) 44 = .ok (.ishr, 1) := by decide +kernel
theorem d_Packer_writeLength_45 : decode (mC m_Packer_writeLength) 45 = .ok (.bipush 7, 2) := by decide +kernel
theorem d_Packer_writeLength_47 : decode (mC m_Packer_writeLength) 47 = .ok (.if_icmp .le 9, 3) := by decide +kernel
theorem d_Packer_writeLength_50 : decode (mC m_Packer_writeLength) 50 = .ok (.iinc 3 1, 3) := by decide +kernel
theorem d_Packer_writeLength_53 : decode (mC m_Packer_writeLength) 53 = .ok (.goto (-16), 3) := by decide +kernel
theorem d_Packer_writeLength_56 : decode (mC m_Packer_writeLength) 56 = .ok (.aload_n 0, 1) := by decide +kernel
theorem d_Packer_writeLength_57 : decode (mC m_Packer_writeLength) 57 = .ok (.sipush 261, 3) := by decide +kernel
theorem d_Packer_writeLength_60 : decode (mC m_Packer_writeLength) 60 = .ok (.iconst 4, 1) := by decide +kernel
theorem d_Packer_writeLength_61 : decode (mC m_Packer_writeLength) 61 = .ok (.iload_n 3, 1) := by decide +kernel
theorem d_Packer_writeLength_62 : decode (mC m_Packer_writeLength) 62 = .ok (.imul, 1) := by decide +kernel
theorem d_Packer_writeLength_63 : decode (mC m_Packer_writeLength) 63 = .ok (.iadd, 1) := by decide +kernel
theorem d_Packer_writeLength_64 : decode (mC m_Packer_writeLength) 64 = .ok (.iload_n 2, 1) := by decide +kernel
theorem d_Packer_writeLength_65 : decode (mC m_Packer_writeLength) 65 = .ok (.iload_n 3, 1) := by decide +kernel
theorem d_Packer_writeLength_66 : decode (mC m_Packer_writeLength) 66 = .ok (.ishr, 1) := by decide +kernel
theorem d_Packer_writeLength_67 : decode (mC m_Packer_writeLength) 67 = .ok (.iadd, 1) := by decide +kernel
theorem d_Packer_writeLength_68 : decode (mC m_Packer_writeLength) 68 = .ok (.iconst 4, 1) := by decide +kernel
theorem d_Packer_writeLength_69 : decode (mC m_Packer_writeLength) 69 = .ok (.isub, 1) := by decide +kernel
theorem d_Packer_writeLength_70 : decode (mC m_Packer_writeLength) 70 = .ok (.invokevirtual 53, 3) := by decide +kernel
theorem d_Packer_writeLength_73 : decode (mC m_Packer_writeLength) 73 = .ok (.aload_n 0, 1) := by decide +kernel
theorem d_Packer_writeLength_74 : decode (mC m_Packer_writeLength) 74 = .ok (.iload_n 2, 1) := by decide +kernel
theorem d_Packer_writeLength_75 : decode (mC m_Packer_writeLength) 75 = .ok (.iload_n 3, 1) := by decide +kernel
theorem d_Packer_writeLength_76 : decode (mC m_Packer_writeLength) 76 = .ok (.invokevirtual 25, 3) := by decide +kernel
theorem d_Packer_writeLength_79 : decode (mC m_Packer_writeLength) 79 = .ok (.return_, 1) := by decide +kernel
def b_Packer_writeLength_56 (F : Nat) (v0 : Nat) (v2 : Int32) (v3 : Int32) (w : zW) : Option (Unit × zW) := (zobj w v0 3).bind fun _ => (f_Packer_writeSymbol F v0 ((((261 : Int32) + ((4 : Int32) * v3)) + (v2 >>> (v3 &&& 31))) - (4 : Int32)) w).bind fun r70 => (zobj r70.2 v0 3).bind fun _ => (f_Packer_writeBits F v0 v2 v3 r70.2).bind fun r76 => some ((), r76.2)
set_option maxRecDepth 100000 in
set_option maxHeartbeats 4000000 in
theorem b_Packer_writeLength_56_ok (G : zG) (F : Nat) (v0 : Nat) (v2 : Int32) (v3 : Int32) (w : zW) (r : (Unit × zW)) (h : b_Packer_writeLength_56 F v0 v2 v3 w = some r) : zV G m_Packer_writeLength 56 [(0, .ref (z0 G + v0)), (2, .int v2), (3, .int v3)] [] w 0 0 (oV r.1) r.2 := by
  unfold b_Packer_writeLength_56 at h
  refine V_aload_n (i := 0) d_Packer_writeLength_56 rfl 0 rfl ?_
  refine V_sipush (v := 261) d_Packer_writeLength_57 (by decide) ?_
  refine V_iconst (v := 4) d_Packer_writeLength_60 (by decide) ?_
  refine V_iload_n (i := 3) d_Packer_writeLength_61 rfl 2 rfl ?_
  refine V_imul d_Packer_writeLength_62 ?_
  refine V_iadd d_Packer_writeLength_63 ?_
  refine V_iload_n (i := 2) d_Packer_writeLength_64 rfl 1 rfl ?_
  refine V_iload_n (i := 3) d_Packer_writeLength_65 rfl 2 rfl ?_
  refine V_ishr d_Packer_writeLength_66 ?_
  refine V_iadd d_Packer_writeLength_67 ?_
  refine V_iconst (v := 4) d_Packer_writeLength_68 (by decide) ?_
  refine V_isub d_Packer_writeLength_69 ?_
  obtain ⟨_, eo70, h⟩ := ob h
  obtain ⟨r70, e70, h⟩ := ob h
  refine V_call (v := none) (st := []) (inv_V (N := m_Packer_writeSymbol) (As := [.int ((((261 : Int32) + ((4 : Int32) * v3)) + (v2 >>> (v3 &&& 31))) - (4 : Int32))]) (ci := 3) d_Packer_writeLength_70 eo70 rfl k694 k696 sel_Packer_writeSymbol kc_Packer_writeSymbol y_Packer_writeSymbol) ⟨Or.inl kc_Packer_writeSymbol, k3, by decide, by decide⟩ (Nat.le_of_ble_eq_true rfl) (by decide) (by decide) (c_Packer_writeSymbol G F v0 ((((261 : Int32) + ((4 : Int32) * v3)) + (v2 >>> (v3 &&& 31))) - (4 : Int32)) w r70 e70) ?_
  refine V_aload_n (i := 0) d_Packer_writeLength_73 rfl 0 rfl ?_
  refine V_iload_n (i := 2) d_Packer_writeLength_74 rfl 1 rfl ?_
  refine V_iload_n (i := 3) d_Packer_writeLength_75 rfl 2 rfl ?_
  obtain ⟨_, eo76, h⟩ := ob h
  obtain ⟨r76, e76, h⟩ := ob h
  refine V_call (v := none) (st := []) (inv_V (N := m_Packer_writeBits) (As := [.int v2, .int v3]) (ci := 3) d_Packer_writeLength_76 eo76 rfl k675 k677 sel_Packer_writeBits kc_Packer_writeBits y_Packer_writeBits) ⟨Or.inl kc_Packer_writeBits, k3, by decide, by decide⟩ (Nat.le_of_ble_eq_true rfl) (by decide) (by decide) (c_Packer_writeBits G F v0 v2 v3 r70.2 r76 e76) ?_
  obtain rfl := Option.some.inj h
  exact V_vret rfl (by decide) (by decide) d_Packer_writeLength_79
def b_Packer_writeLength_37 (F : Nat) (K37 : Nat → Int32 → Int32 → zW → Option (Unit × zW)) (v0 : Nat) (v2 : Int32) (v3 : Int32) (w : zW) : Option (Unit × zW) := if (5 : Int32) ≤ v3 then (b_Packer_writeLength_56 F v0 v2 v3 w) else (if (v2 >>> (v3 &&& 31)) ≤ (7 : Int32) then (b_Packer_writeLength_56 F v0 v2 v3 w) else (K37 v0 v2 (v3 + (1 : Int32)) w))
set_option maxRecDepth 100000 in
set_option maxHeartbeats 4000000 in
theorem b_Packer_writeLength_37_ok (G : zG) (F : Nat) (K37 : Nat → Int32 → Int32 → zW → Option (Unit × zW)) (hK37 : ∀ (v0 : Nat) (v2 : Int32) (v3 : Int32) (w : zW) (r : (Unit × zW)), K37 v0 v2 v3 w = some r → zV G m_Packer_writeLength 37 [(0, .ref (z0 G + v0)), (2, .int v2), (3, .int v3)] [] w 0 0 (oV r.1) r.2) (v0 : Nat) (v2 : Int32) (v3 : Int32) (w : zW) (r : (Unit × zW)) (h : b_Packer_writeLength_37 F K37 v0 v2 v3 w = some r) : zV G m_Packer_writeLength 37 [(0, .ref (z0 G + v0)), (2, .int v2), (3, .int v3)] [] w 0 0 (oV r.1) r.2 := by
  unfold b_Packer_writeLength_37 at h
  refine V_iload_n (i := 3) d_Packer_writeLength_37 rfl 2 rfl ?_
  refine V_iconst (v := 5) d_Packer_writeLength_38 (by decide) ?_
  refine V_icmp_ge (tgt := 56) d_Packer_writeLength_39 (by decide) (fun c39 => ?_) (fun c39 => ?_)
  · rw [if_pos c39] at h
    exact b_Packer_writeLength_56_ok G F v0 v2 v3 w _ h
  · rw [if_neg c39] at h
    refine V_iload_n (i := 2) d_Packer_writeLength_42 rfl 1 rfl ?_
    refine V_iload_n (i := 3) d_Packer_writeLength_43 rfl 2 rfl ?_
    refine V_ishr d_Packer_writeLength_44 ?_
    refine V_bipush (v := 7) d_Packer_writeLength_45 (by decide) ?_
    refine V_icmp_le (tgt := 56) d_Packer_writeLength_47 (by decide) (fun c47 => ?_) (fun c47 => ?_)
    · rw [if_pos c47] at h
      exact b_Packer_writeLength_56_ok G F v0 v2 v3 w _ h
    · rw [if_neg c47] at h
      refine V_iinc (i := 3) (v := (v3 + (1 : Int32))) d_Packer_writeLength_50 2 rfl (congrArg (fun y => v3 + y) (by decide : Int32.ofInt (1) = (1 : Int32))) (by decide) rfl ?_
      refine V_goto (tgt := 37) d_Packer_writeLength_53 (by decide) ?_
      refine V_lv [1, 2, 0] rfl ?_
      exact hK37 v0 v2 (v3 + (1 : Int32)) w _ h
def l_Packer_writeLength_37 (F : Nat) : Nat → Nat → Int32 → Int32 → zW → Option (Unit × zW)
  | 0 => fun _ _ _ _ => none
  | n + 1 => b_Packer_writeLength_37 F (l_Packer_writeLength_37 F n)
theorem l_Packer_writeLength_37_ok (G : zG) (F : Nat) (n : Nat) :  ∀ (v0 : Nat) (v2 : Int32) (v3 : Int32) (w : zW) (r : (Unit × zW)), l_Packer_writeLength_37 F n v0 v2 v3 w = some r → zV G m_Packer_writeLength 37 [(0, .ref (z0 G + v0)), (2, .int v2), (3, .int v3)] [] w 0 0 (oV r.1) r.2 := by
  induction n with
  | zero => intro v0 v2 v3 w r h; exact nomatch (show (none : Option (Unit × zW)) = some r from h)
  | succ n ih => intro v0 v2 v3 w r h; exact b_Packer_writeLength_37_ok G F (l_Packer_writeLength_37 F n) ih v0 v2 v3 w r h
def b_Packer_writeLength_0 (F : Nat) (v0 : Nat) (v1 : Int32) (w : zW) : Option (Unit × zW) := if v1 = (258 : Int32) then ((zobj w v0 3).bind fun _ => (f_Packer_writeSymbol F v0 (285 : Int32) w).bind fun r11 => some ((), r11.2)) else (if (8 : Int32) ≤ (v1 - (3 : Int32)) then (l_Packer_writeLength_37 F F v0 (v1 - (3 : Int32)) (1 : Int32) w) else ((zobj w v0 3).bind fun _ => (f_Packer_writeSymbol F v0 ((257 : Int32) + (v1 - (3 : Int32))) w).bind fun r31 => some ((), r31.2)))
set_option maxRecDepth 100000 in
set_option maxHeartbeats 4000000 in
theorem b_Packer_writeLength_0_ok (G : zG) (F : Nat) (v0 : Nat) (v1 : Int32) (w : zW) (r : (Unit × zW)) (h : b_Packer_writeLength_0 F v0 v1 w = some r) : zV G m_Packer_writeLength 0 [(0, .ref (z0 G + v0)), (1, .int v1)] [] w 0 0 (oV r.1) r.2 := by
  unfold b_Packer_writeLength_0 at h
  refine V_iload_n (i := 1) d_Packer_writeLength_0 rfl 1 rfl ?_
  refine V_sipush (v := 258) d_Packer_writeLength_1 (by decide) ?_
  refine V_icmp_ne (tgt := 15) d_Packer_writeLength_4 (by decide) (fun c4 => ?_) (fun c4 => ?_)
  · rw [if_neg c4] at h
    refine V_iload_n (i := 1) d_Packer_writeLength_15 rfl 1 rfl ?_
    refine V_iconst (v := 3) d_Packer_writeLength_16 (by decide) ?_
    refine V_isub d_Packer_writeLength_17 ?_
    refine V_istore_n (i := 2) d_Packer_writeLength_18 rfl (by decide) rfl ?_
    refine V_iload_n (i := 2) d_Packer_writeLength_19 rfl 0 rfl ?_
    refine V_bipush (v := 8) d_Packer_writeLength_20 (by decide) ?_
    refine V_icmp_ge (tgt := 35) d_Packer_writeLength_22 (by decide) (fun c22 => ?_) (fun c22 => ?_)
    · rw [if_pos c22] at h
      refine V_iconst (v := 1) d_Packer_writeLength_35 (by decide) ?_
      refine V_istore_n (i := 3) d_Packer_writeLength_36 rfl (by decide) rfl ?_
      refine V_lv [2, 1, 0] rfl ?_
      exact l_Packer_writeLength_37_ok G F F v0 (v1 - (3 : Int32)) (1 : Int32) w _ h
    · rw [if_neg c22] at h
      refine V_aload_n (i := 0) d_Packer_writeLength_25 rfl 1 rfl ?_
      refine V_sipush (v := 257) d_Packer_writeLength_26 (by decide) ?_
      refine V_iload_n (i := 2) d_Packer_writeLength_29 rfl 0 rfl ?_
      refine V_iadd d_Packer_writeLength_30 ?_
      obtain ⟨_, eo31, h⟩ := ob h
      obtain ⟨r31, e31, h⟩ := ob h
      refine V_call (v := none) (st := []) (inv_V (N := m_Packer_writeSymbol) (As := [.int ((257 : Int32) + (v1 - (3 : Int32)))]) (ci := 3) d_Packer_writeLength_31 eo31 rfl k694 k696 sel_Packer_writeSymbol kc_Packer_writeSymbol y_Packer_writeSymbol) ⟨Or.inl kc_Packer_writeSymbol, k3, by decide, by decide⟩ (Nat.le_of_ble_eq_true rfl) (by decide) (by decide) (c_Packer_writeSymbol G F v0 ((257 : Int32) + (v1 - (3 : Int32))) w r31 e31) ?_
      obtain rfl := Option.some.inj h
      exact V_vret rfl (by decide) (by decide) d_Packer_writeLength_34
  · rw [if_pos c4] at h
    refine V_aload_n (i := 0) d_Packer_writeLength_7 rfl 0 rfl ?_
    refine V_sipush (v := 285) d_Packer_writeLength_8 (by decide) ?_
    obtain ⟨_, eo11, h⟩ := ob h
    obtain ⟨r11, e11, h⟩ := ob h
    refine V_call (v := none) (st := []) (inv_V (N := m_Packer_writeSymbol) (As := [.int (285 : Int32)]) (ci := 3) d_Packer_writeLength_11 eo11 rfl k694 k696 sel_Packer_writeSymbol kc_Packer_writeSymbol y_Packer_writeSymbol) ⟨Or.inl kc_Packer_writeSymbol, k3, by decide, by decide⟩ (Nat.le_of_ble_eq_true rfl) (by decide) (by decide) (c_Packer_writeSymbol G F v0 (285 : Int32) w r11 e11) ?_
    obtain rfl := Option.some.inj h
    exact V_vret rfl (by decide) (by decide) d_Packer_writeLength_14
def f_Packer_writeLength (F : Nat) (v0 : Nat) (v1 : Int32) (w : zW) : Option (Unit × zW) := b_Packer_writeLength_0 F v0 v1 w
theorem c_Packer_writeLength (G : zG) (F : Nat) (v0 : Nat) (v1 : Int32) (w : zW) (r : (Unit × zW)) (h : f_Packer_writeLength F v0 v1 w = some r) : zCT G m_Packer_writeLength [.ref (z0 G + v0), .int v1] w (oV r.1) r.2 := zCT.ofV (by decide +kernel) (Or.inl ⟨kc_Packer_writeLength, rfl⟩) (Nat.le_of_ble_eq_true rfl) (b_Packer_writeLength_0_ok G F v0 v1 w r h)

/-! ZipArray$Packer.writeDistance(I)V -/
def m_Packer_writeDistance : zM := (⟨R_Packer, "writeDistance", "(I)V"⟩, prog_6_method_6_code, 4, none, [], { frames := 3, cells := 0, slots := 0, locals := 67 })
theorem kc_Packer_writeDistance : Cond.code (mY m_Packer_writeDistance) (mC m_Packer_writeDistance) (mL m_Packer_writeDistance) (mT m_Packer_writeDistance) ∈ zTb := tb_at 705 (by decide +kernel) rfl
theorem y_Packer_writeDistance : (mY m_Packer_writeDistance).cls ≠ "java/lang/invoke/MethodHandle" ∧ (mY m_Packer_writeDistance).cls ≠ "java/lang/invoke/VarHandle" ∧ (parseMethodDescriptor (mY m_Packer_writeDistance).desc).map (fun d => d.parameters.length) = some 1 := by decide +kernel
theorem sel_Packer_writeDistance : Cond.selects R_Packer (mY m_Packer_writeDistance) (mY m_Packer_writeDistance) ∈ zTb := sel_at (y := mY m_Packer_writeDistance) (n := 5) 30 (by decide +kernel)
theorem d_Packer_writeDistance_0 : decode (mC m_Packer_writeDistance) 0 = .ok (.iload_n 1, 1) := by decide +kernel
theorem d_Packer_writeDistance_1 : decode (mC m_Packer_writeDistance) 1 = .ok (.iconst 1, 1) := by decide +kernel
theorem d_Packer_writeDistance_2 : decode (mC m_Packer_writeDistance) 2 = .ok (.isub, 1) := by decide +kernel
theorem d_Packer_writeDistance_3 : decode (mC m_Packer_writeDistance) 3 = .ok (.istore_n 2, 1) := by decide +kernel
theorem d_Packer_writeDistance_4 : decode (mC m_Packer_writeDistance) 4 = .ok (.iload_n 2, 1) := by decide +kernel
theorem d_Packer_writeDistance_5 : decode (mC m_Packer_writeDistance) 5 = .ok (.iconst 4, 1) := by decide +kernel
theorem d_Packer_writeDistance_6 : decode (mC m_Packer_writeDistance) 6 = .ok (.if_icmp .ge 10, 3) := by decide +kernel
theorem d_Packer_writeDistance_9 : decode (mC m_Packer_writeDistance) 9 = .ok (.aload_n 0, 1) := by decide +kernel
theorem d_Packer_writeDistance_10 : decode (mC m_Packer_writeDistance) 10 = .ok (.iload_n 2, 1) := by decide +kernel
theorem d_Packer_writeDistance_11 : decode (mC m_Packer_writeDistance) 11 = .ok (.iconst 5, 1) := by decide +kernel
theorem d_Packer_writeDistance_12 : decode (mC m_Packer_writeDistance) 12 = .ok (.invokevirtual 70, 3) := by decide +kernel
theorem d_Packer_writeDistance_15 : decode (mC m_Packer_writeDistance) 15 = .ok (.return_, 1) := by decide +kernel
theorem d_Packer_writeDistance_16 : decode (mC m_Packer_writeDistance) 16 = .ok (.iconst 1, 1) := by decide +kernel
theorem d_Packer_writeDistance_17 : decode (mC m_Packer_writeDistance) 17 = .ok (.istore_n 3, 1) := by decide +kernel
theorem d_Packer_writeDistance_18 : decode (mC m_Packer_writeDistance) 18 = .ok (.iload_n 3, 1) := by decide +kernel
theorem d_Packer_writeDistance_19 : decode (mC m_Packer_writeDistance) 19 = .ok (.bipush 13, 2) := by decide +kernel
theorem d_Packer_writeDistance_21 : decode (mC m_Packer_writeDistance) 21 = .ok (.if_icmp .ge 16, 3) := by decide +kernel
theorem d_Packer_writeDistance_24 : decode (mC m_Packer_writeDistance) 24 = .ok (.iload_n 2, 1) := by decide +kernel
theorem d_Packer_writeDistance_25 : decode (mC m_Packer_writeDistance) 25 = .ok (.iload_n 3, 1) := by decide +kernel
theorem d_Packer_writeDistance_26 : decode (mC m_Packer_writeDistance) 26 = .ok (.ishr, 1) := by decide +kernel
theorem d_Packer_writeDistance_27 : decode (mC m_Packer_writeDistance) 27 = .ok (.iconst 3, 1) := by decide +kernel
theorem d_Packer_writeDistance_28 : decode (mC m_Packer_writeDistance) 28 = .ok (.if_icmp .le 9, 3) := by decide +kernel
theorem d_Packer_writeDistance_31 : decode (mC m_Packer_writeDistance) 31 = .ok (.iinc 3 1, 3) := by decide +kernel
theorem d_Packer_writeDistance_34 : decode (mC m_Packer_writeDistance) 34 = .ok (.goto (-16), 3) := by decide +kernel
theorem d_Packer_writeDistance_37 : decode (mC m_Packer_writeDistance) 37 = .ok (.aload_n 0, 1) := by decide +kernel
theorem d_Packer_writeDistance_38 : decode (mC m_Packer_writeDistance) 38 = .ok (.iconst 2, 1) := by decide +kernel
theorem d_Packer_writeDistance_39 : decode (mC m_Packer_writeDistance) 39 = .ok (.iload_n 3, 1) := by decide +kernel
theorem d_Packer_writeDistance_40 : decode (mC m_Packer_writeDistance) 40 = .ok (.imul, 1) := by decide +kernel
theorem d_Packer_writeDistance_41 : decode (mC m_Packer_writeDistance) 41 = .ok (.iload_n 2, 1) := by decide +kernel
theorem d_Packer_writeDistance_42 : decode (mC m_Packer_writeDistance) 42 = .ok (.iload_n 3, 1) := by decide +kernel
theorem d_Packer_writeDistance_43 : decode (mC m_Packer_writeDistance) 43 = .ok (.ishr, 1) := by decide +kernel
theorem d_Packer_writeDistance_44 : decode (mC m_Packer_writeDistance) 44 = .ok (.iadd, 1) := by decide +kernel
theorem d_Packer_writeDistance_45 : decode (mC m_Packer_writeDistance) 45 = .ok (.iconst 5, 1) := by decide +kernel
theorem d_Packer_writeDistance_46 : decode (mC m_Packer_writeDistance) 46 = .ok (.invokevirtual 70, 3) := by decide +kernel
theorem d_Packer_writeDistance_49 : decode (mC m_Packer_writeDistance) 49 = .ok (.aload_n 0, 1) := by decide +kernel
theorem d_Packer_writeDistance_50 : decode (mC m_Packer_writeDistance) 50 = .ok (.iload_n 2, 1) := by decide +kernel
theorem d_Packer_writeDistance_51 : decode (mC m_Packer_writeDistance) 51 = .ok (.iload_n 3, 1) := by decide +kernel
theorem d_Packer_writeDistance_52 : decode (mC m_Packer_writeDistance) 52 = .ok (.invokevirtual 25, 3) := by decide +kernel
theorem d_Packer_writeDistance_55 : decode (mC m_Packer_writeDistance) 55 = .ok (.return_, 1) := by decide +kernel
def b_Packer_writeDistance_37 (F : Nat) (v0 : Nat) (v2 : Int32) (v3 : Int32) (w : zW) : Option (Unit × zW) := (zobj w v0 3).bind fun _ => (f_Packer_writeWord F v0 (((2 : Int32) * v3) + (v2 >>> (v3 &&& 31))) (5 : Int32) w).bind fun r46 => (zobj r46.2 v0 3).bind fun _ => (f_Packer_writeBits F v0 v2 v3 r46.2).bind fun r52 => some ((), r52.2)
set_option maxRecDepth 100000 in
set_option maxHeartbeats 4000000 in
theorem b_Packer_writeDistance_37_ok (G : zG) (F : Nat) (v0 : Nat) (v2 : Int32) (v3 : Int32) (w : zW) (r : (Unit × zW)) (h : b_Packer_writeDistance_37 F v0 v2 v3 w = some r) : zV G m_Packer_writeDistance 37 [(0, .ref (z0 G + v0)), (2, .int v2), (3, .int v3)] [] w 0 0 (oV r.1) r.2 := by
  unfold b_Packer_writeDistance_37 at h
  refine V_aload_n (i := 0) d_Packer_writeDistance_37 rfl 0 rfl ?_
  refine V_iconst (v := 2) d_Packer_writeDistance_38 (by decide) ?_
  refine V_iload_n (i := 3) d_Packer_writeDistance_39 rfl 2 rfl ?_
  refine V_imul d_Packer_writeDistance_40 ?_
  refine V_iload_n (i := 2) d_Packer_writeDistance_41 rfl 1 rfl ?_
  refine V_iload_n (i := 3) d_Packer_writeDistance_42 rfl 2 rfl ?_
  refine V_ishr d_Packer_writeDistance_43 ?_
  refine V_iadd d_Packer_writeDistance_44 ?_
  refine V_iconst (v := 5) d_Packer_writeDistance_45 (by decide) ?_
  obtain ⟨_, eo46, h⟩ := ob h
  obtain ⟨r46, e46, h⟩ := ob h
  refine V_call (v := none) (st := []) (inv_V (N := m_Packer_writeWord) (As := [.int (((2 : Int32) * v3) + (v2 >>> (v3 &&& 31))), .int (5 : Int32)]) (ci := 3) d_Packer_writeDistance_46 eo46 rfl k698 k700 sel_Packer_writeWord kc_Packer_writeWord y_Packer_writeWord) ⟨Or.inl kc_Packer_writeWord, k3, by decide, by decide⟩ (Nat.le_of_ble_eq_true rfl) (by decide) (by decide) (c_Packer_writeWord G F v0 (((2 : Int32) * v3) + (v2 >>> (v3 &&& 31))) (5 : Int32) w r46 e46) ?_
  refine V_aload_n (i := 0) d_Packer_writeDistance_49 rfl 0 rfl ?_
  refine V_iload_n (i := 2) d_Packer_writeDistance_50 rfl 1 rfl ?_
  refine V_iload_n (i := 3) d_Packer_writeDistance_51 rfl 2 rfl ?_
  obtain ⟨_, eo52, h⟩ := ob h
  obtain ⟨r52, e52, h⟩ := ob h
  refine V_call (v := none) (st := []) (inv_V (N := m_Packer_writeBits) (As := [.int v2, .int v3]) (ci := 3) d_Packer_writeDistance_52 eo52 rfl k675 k677 sel_Packer_writeBits kc_Packer_writeBits y_Packer_writeBits) ⟨Or.inl kc_Packer_writeBits, k3, by decide, by decide⟩ (Nat.le_of_ble_eq_true rfl) (by decide) (by decide) (c_Packer_writeBits G F v0 v2 v3 r46.2 r52 e52) ?_
  obtain rfl := Option.some.inj h
  exact V_vret rfl (by decide) (by decide) d_Packer_writeDistance_55
def b_Packer_writeDistance_18 (F : Nat) (K18 : Nat → Int32 → Int32 → zW → Option (Unit × zW)) (v0 : Nat) (v2 : Int32) (v3 : Int32) (w : zW) : Option (Unit × zW) := if (13 : Int32) ≤ v3 then (b_Packer_writeDistance_37 F v0 v2 v3 w) else (if (v2 >>> (v3 &&& 31)) ≤ (3 : Int32) then (b_Packer_writeDistance_37 F v0 v2 v3 w) else (K18 v0 v2 (v3 + (1 : Int32)) w))
set_option maxRecDepth 100000 in
set_option maxHeartbeats 4000000 in
theorem b_Packer_writeDistance_18_ok (G : zG) (F : Nat) (K18 : Nat → Int32 → Int32 → zW → Option (Unit × zW)) (hK18 : ∀ (v0 : Nat) (v2 : Int32) (v3 : Int32) (w : zW) (r : (Unit × zW)), K18 v0 v2 v3 w = some r → zV G m_Packer_writeDistance 18 [(0, .ref (z0 G + v0)), (2, .int v2), (3, .int v3)] [] w 0 0 (oV r.1) r.2) (v0 : Nat) (v2 : Int32) (v3 : Int32) (w : zW) (r : (Unit × zW)) (h : b_Packer_writeDistance_18 F K18 v0 v2 v3 w = some r) : zV G m_Packer_writeDistance 18 [(0, .ref (z0 G + v0)), (2, .int v2), (3, .int v3)] [] w 0 0 (oV r.1) r.2 := by
  unfold b_Packer_writeDistance_18 at h
  refine V_iload_n (i := 3) d_Packer_writeDistance_18 rfl 2 rfl ?_
  refine V_bipush (v := 13) d_Packer_writeDistance_19 (by decide) ?_
  refine V_icmp_ge (tgt := 37) d_Packer_writeDistance_21 (by decide) (fun c21 => ?_) (fun c21 => ?_)
  · rw [if_pos c21] at h
    exact b_Packer_writeDistance_37_ok G F v0 v2 v3 w _ h
  · rw [if_neg c21] at h
    refine V_iload_n (i := 2) d_Packer_writeDistance_24 rfl 1 rfl ?_
    refine V_iload_n (i := 3) d_Packer_writeDistance_25 rfl 2 rfl ?_
    refine V_ishr d_Packer_writeDistance_26 ?_
    refine V_iconst (v := 3) d_Packer_writeDistance_27 (by decide) ?_
    refine V_icmp_le (tgt := 37) d_Packer_writeDistance_28 (by decide) (fun c28 => ?_) (fun c28 => ?_)
    · rw [if_pos c28] at h
      exact b_Packer_writeDistance_37_ok G F v0 v2 v3 w _ h
    · rw [if_neg c28] at h
      refine V_iinc (i := 3) (v := (v3 + (1 : Int32))) d_Packer_writeDistance_31 2 rfl (congrArg (fun y => v3 + y) (by decide : Int32.ofInt (1) = (1 : Int32))) (by decide) rfl ?_
      refine V_goto (tgt := 18) d_Packer_writeDistance_34 (by decide) ?_
      refine V_lv [1, 2, 0] rfl ?_
      exact hK18 v0 v2 (v3 + (1 : Int32)) w _ h
def l_Packer_writeDistance_18 (F : Nat) : Nat → Nat → Int32 → Int32 → zW → Option (Unit × zW)
  | 0 => fun _ _ _ _ => none
  | n + 1 => b_Packer_writeDistance_18 F (l_Packer_writeDistance_18 F n)
theorem l_Packer_writeDistance_18_ok (G : zG) (F : Nat) (n : Nat) :  ∀ (v0 : Nat) (v2 : Int32) (v3 : Int32) (w : zW) (r : (Unit × zW)), l_Packer_writeDistance_18 F n v0 v2 v3 w = some r → zV G m_Packer_writeDistance 18 [(0, .ref (z0 G + v0)), (2, .int v2), (3, .int v3)] [] w 0 0 (oV r.1) r.2 := by
  induction n with
  | zero => intro v0 v2 v3 w r h; exact nomatch (show (none : Option (Unit × zW)) = some r from h)
  | succ n ih => intro v0 v2 v3 w r h; exact b_Packer_writeDistance_18_ok G F (l_Packer_writeDistance_18 F n) ih v0 v2 v3 w r h
def b_Packer_writeDistance_0 (F : Nat) (v0 : Nat) (v1 : Int32) (w : zW) : Option (Unit × zW) := if (4 : Int32) ≤ (v1 - (1 : Int32)) then (l_Packer_writeDistance_18 F F v0 (v1 - (1 : Int32)) (1 : Int32) w) else ((zobj w v0 3).bind fun _ => (f_Packer_writeWord F v0 (v1 - (1 : Int32)) (5 : Int32) w).bind fun r12 => some ((), r12.2))
set_option maxRecDepth 100000 in
set_option maxHeartbeats 4000000 in
theorem b_Packer_writeDistance_0_ok (G : zG) (F : Nat) (v0 : Nat) (v1 : Int32) (w : zW) (r : (Unit × zW)) (h : b_Packer_writeDistance_0 F v0 v1 w = some r) : zV G m_Packer_writeDistance 0 [(0, .ref (z0 G + v0)), (1, .int v1)] [] w 0 0 (oV r.1) r.2 := by
  unfold b_Packer_writeDistance_0 at h
  refine V_iload_n (i := 1) d_Packer_writeDistance_0 rfl 1 rfl ?_
  refine V_iconst (v := 1) d_Packer_writeDistance_1 (by decide) ?_
  refine V_isub d_Packer_writeDistance_2 ?_
  refine V_istore_n (i := 2) d_Packer_writeDistance_3 rfl (by decide) rfl ?_
  refine V_iload_n (i := 2) d_Packer_writeDistance_4 rfl 0 rfl ?_
  refine V_iconst (v := 4) d_Packer_writeDistance_5 (by decide) ?_
  refine V_icmp_ge (tgt := 16) d_Packer_writeDistance_6 (by decide) (fun c6 => ?_) (fun c6 => ?_)
  · rw [if_pos c6] at h
    refine V_iconst (v := 1) d_Packer_writeDistance_16 (by decide) ?_
    refine V_istore_n (i := 3) d_Packer_writeDistance_17 rfl (by decide) rfl ?_
    refine V_lv [2, 1, 0] rfl ?_
    exact l_Packer_writeDistance_18_ok G F F v0 (v1 - (1 : Int32)) (1 : Int32) w _ h
  · rw [if_neg c6] at h
    refine V_aload_n (i := 0) d_Packer_writeDistance_9 rfl 1 rfl ?_
    refine V_iload_n (i := 2) d_Packer_writeDistance_10 rfl 0 rfl ?_
    refine V_iconst (v := 5) d_Packer_writeDistance_11 (by decide) ?_
    obtain ⟨_, eo12, h⟩ := ob h
    obtain ⟨r12, e12, h⟩ := ob h
    refine V_call (v := none) (st := []) (inv_V (N := m_Packer_writeWord) (As := [.int (v1 - (1 : Int32)), .int (5 : Int32)]) (ci := 3) d_Packer_writeDistance_12 eo12 rfl k698 k700 sel_Packer_writeWord kc_Packer_writeWord y_Packer_writeWord) ⟨Or.inl kc_Packer_writeWord, k3, by decide, by decide⟩ (Nat.le_of_ble_eq_true rfl) (by decide) (by decide) (c_Packer_writeWord G F v0 (v1 - (1 : Int32)) (5 : Int32) w r12 e12) ?_
    obtain rfl := Option.some.inj h
    exact V_vret rfl (by decide) (by decide) d_Packer_writeDistance_15
def f_Packer_writeDistance (F : Nat) (v0 : Nat) (v1 : Int32) (w : zW) : Option (Unit × zW) := b_Packer_writeDistance_0 F v0 v1 w
theorem c_Packer_writeDistance (G : zG) (F : Nat) (v0 : Nat) (v1 : Int32) (w : zW) (r : (Unit × zW)) (h : f_Packer_writeDistance F v0 v1 w = some r) : zCT G m_Packer_writeDistance [.ref (z0 G + v0), .int v1] w (oV r.1) r.2 := zCT.ofV (by decide +kernel) (Or.inl ⟨kc_Packer_writeDistance, rfl⟩) (Nat.le_of_ble_eq_true rfl) (b_Packer_writeDistance_0_ok G F v0 v1 w r h)

/-! ZipArray$Packer.packAll(LZipArray$Row;)V -/
def m_Packer_packAll : zM := (⟨R_Packer, "packAll", "(LZipArray$Row;)V"⟩, prog_6_method_2_code, 4, none, [], { frames := 5, cells := 0, slots := 0, locals := 111 })
theorem k674 : Cond.methodLink R_Packer 13 (mY m_Row_empty) ∈ zTb := tb_at 674 (by decide +kernel) rfl
theorem k680 : Cond.methodLink R_Packer 32 (mY m_Packer_findRepeat) ∈ zTb := tb_at 680 (by decide +kernel) rfl
theorem k682 : Cond.instanceMethod (mY m_Packer_findRepeat) ∈ zTb := tb_at 682 (by decide +kernel) rfl
theorem k690 : Cond.methodLink R_Packer 39 (mY m_Packer_writeLength) ∈ zTb := tb_at 690 (by decide +kernel) rfl
theorem k692 : Cond.instanceMethod (mY m_Packer_writeLength) ∈ zTb := tb_at 692 (by decide +kernel) rfl
theorem k702 : Cond.methodLink R_Packer 46 (mY m_Packer_writeDistance) ∈ zTb := tb_at 702 (by decide +kernel) rfl
theorem k704 : Cond.instanceMethod (mY m_Packer_writeDistance) ∈ zTb := tb_at 704 (by decide +kernel) rfl
theorem k706 : Cond.methodLink R_Packer 49 (mY m_Row_get) ∈ zTb := tb_at 706 (by decide +kernel) rfl
theorem kc_Packer_packAll : Cond.code (mY m_Packer_packAll) (mC m_Packer_packAll) (mL m_Packer_packAll) (mT m_Packer_packAll) ∈ zTb := tb_at 673 (by decide +kernel) rfl
theorem y_Packer_packAll : (mY m_Packer_packAll).cls ≠ "java/lang/invoke/MethodHandle" ∧ (mY m_Packer_packAll).cls ≠ "java/lang/invoke/VarHandle" ∧ (parseMethodDescriptor (mY m_Packer_packAll).desc).map (fun d => d.parameters.length) = some 1 := by decide +kernel
theorem d_Packer_packAll_0 : decode (mC m_Packer_packAll) 0 = .ok (.aload_n 0, 1) := by decide +kernel
theorem d_Packer_packAll_1 : decode (mC m_Packer_packAll) 1 = .ok (.getfield 7, 3) := by decide +kernel
theorem d_Packer_packAll_4 : decode (mC m_Packer_packAll) 4 = .ok (.invokevirtual 13, 3) := by decide +kernel
theorem d_Packer_packAll_7 : decode (mC m_Packer_packAll) 7 = .ok (.aload_n 0, 1) := by decide +kernel
theorem d_Packer_packAll_8 : decode (mC m_Packer_packAll) 8 = .ok (.iconst 0, 1) := by decide +kernel
theorem d_Packer_packAll_9 : decode (mC m_Packer_packAll) 9 = .ok (.putfield 18, 3) := by decide +kernel
theorem d_Packer_packAll_12 : decode (mC m_Packer_packAll) 12 = .ok (.aload_n 0, 1) := by decide +kernel
theorem d_Packer_packAll_13 : decode (mC m_Packer_packAll) 13 = .ok (.iconst 0, 1) := by decide +kernel
theorem d_Packer_packAll_14 : decode (mC m_Packer_packAll) 14 = .ok (.putfield 22, 3) := by decide +kernel
theorem d_Packer_packAll_17 : decode (mC m_Packer_packAll) 17 = .ok (.aload_n 0, 1) := by decide +kernel
theorem d_Packer_packAll_18 : decode (mC m_Packer_packAll) 18 = .ok (.iconst 1, 1) := by decide +kernel
theorem d_Packer_packAll_19 : decode (mC m_Packer_packAll) 19 = .ok (.iconst 1, 1) := by decide +kernel
theorem d_Packer_packAll_20 : decode (mC m_Packer_packAll) 20 = .ok (.invokevirtual 25, 3) := by decide +kernel
theorem d_Packer_packAll_23 : decode (mC m_Packer_packAll) 23 = .ok (.aload_n 0, 1) := by decide +kernel
theorem d_Packer_packAll_24 : decode (mC m_Packer_packAll) 24 = .ok (.iconst 1, 1) := by decide +kernel
theorem d_Packer_packAll_25 : decode (mC m_Packer_packAll) 25 = .ok (.iconst 2, 1) := by decide +kernel
theorem d_Packer_packAll_26 : decode (mC m_Packer_packAll) 26 = .ok (.invokevirtual 25, 3) := by decide +kernel
theorem d_Packer_packAll_29 : decode (mC m_Packer_packAll) 29 = .ok (.iconst 1, 1) := by decide +kernel
theorem d_Packer_packAll_30 : decode (mC m_Packer_packAll) 30 = .ok (.istore_n 2, 1) := by decide +kernel
theorem d_Packer_packAll_31 : decode (mC m_Packer_packAll) 31 = .ok (.iconst 0, 1) := by decide +kernel
theorem d_Packer_packAll_32 : decode (mC m_Packer_packAll) 32 = .ok (.istore_n 3, 1) := by decide +kernel
theorem d_Packer_packAll_33 : decode (mC m_Packer_packAll) 33 = .ok (.iload_n 3, 1) := by decide +kernel
theorem d_Packer_packAll_34 : decode (mC m_Packer_packAll) 34 = .ok (.aload_n 1, 1) := by decide +kernel
theorem d_Packer_packAll_35 : decode (mC m_Packer_packAll) 35 = .ok (.getfield 29, 3) := by decide +kernel
theorem d_Packer_packAll_38 : decode (mC m_Packer_packAll) 38 = .ok (.if_icmp .ge 59, 3) := by decide +kernel
theorem d_Packer_packAll_41 : decode (mC m_Packer_packAll) 41 = .ok (.aload_n 0, 1) := by decide +kernel
theorem d_Packer_packAll_42 : decode (mC m_Packer_packAll) 42 = .ok (.aload_n 1, 1) := by decide +kernel
theorem d_Packer_packAll_43 : decode (mC m_Packer_packAll) 43 = .ok (.iload_n 3, 1) := by decide +kernel
theorem d_Packer_packAll_44 : decode (mC m_Packer_packAll) 44 = .ok (.invokevirtual 32, 3) := by decide +kernel
theorem d_Packer_packAll_47 : decode (mC m_Packer_packAll) 47 = .ok (.aload_n 0, 1) := by decide +kernel
theorem d_Packer_packAll_48 : decode (mC m_Packer_packAll) 48 = .ok (.getfield 36, 3) := by decide +kernel
theorem d_Packer_packAll_51 : decode (mC m_Packer_packAll) 51 = .ok (.iconst 3, 1) := by decide +kernel
theorem d_Packer_packAll_52 : decode (mC m_Packer_packAll) 52 = .ok (.if_icmp .lt 27, 3) := by decide +kernel
theorem d_Packer_packAll_55 : decode (mC m_Packer_packAll) 55 = .ok (.aload_n 0, 1) := by decide +kernel
theorem d_Packer_packAll_56 : decode (mC m_Packer_packAll) 56 = .ok (.aload_n 0, 1) := by decide +kernel
theorem d_Packer_packAll_57 : decode (mC m_Packer_packAll) 57 = .ok (.getfield 36, 3) := by decide +kernel
theorem d_Packer_packAll_60 : decode (mC m_Packer_packAll) 60 = .ok (.invokevirtual 39, 3) := by decide +kernel
theorem d_Packer_packAll_63 : decode (mC m_Packer_packAll) 63 = .ok (.aload_n 0, 1) := by decide +kernel
theorem d_Packer_packAll_64 : decode (mC m_Packer_packAll) 64 = .ok (.aload_n 0, 1) := by decide +kernel
theorem d_Packer_packAll_65 : decode (mC m_Packer_packAll) 65 = .ok (.getfield 43, 3) := by decide +kernel
theorem d_Packer_packAll_68 : decode (mC m_Packer_packAll) 68 = .ok (.invokevirtual 46, 3) := by decide +kernel
theorem d_Packer_packAll_71 : decode (mC m_Packer_packAll) 71 = .ok (.aload_n 0, 1) := by decide +kernel
theorem d_Packer_packAll_72 : decode (mC m_Packer_packAll) 72 = .ok (.getfield 36, 3) := by decide +kernel
theorem d_Packer_packAll_75 : decode (mC m_Packer_packAll) 75 = .ok (.istore_n 2, 1) := by decide +kernel
theorem d_Packer_packAll_76 : decode (mC m_Packer_packAll) 76 = .ok (.goto 14, 3) := by decide +kernel
theorem d_Packer_packAll_79 : decode (mC m_Packer_packAll) 79 = .ok (.aload_n 0, 1) := by decide +kernel
theorem d_Packer_packAll_80 : decode (mC m_Packer_packAll) 80 = .ok (.aload_n 1, 1) := by decide +kernel
theorem d_Packer_packAll_81 : decode (mC m_Packer_packAll) 81 = .ok (.iload_n 3, 1) := by decide +kernel
theorem d_Packer_packAll_82 : decode (mC m_Packer_packAll) 82 = .ok (.invokevirtual 49, 3) := by decide +kernel
theorem d_Packer_packAll_85 : decode (mC m_Packer_packAll) 85 = .ok (.invokevirtual 53, 3) := by decide +kernel
theorem d_Packer_packAll_88 : decode (mC m_Packer_packAll) 88 = .ok (.iconst 1, 1) := by decide +kernel
theorem d_Packer_packAll_89 : decode (mC m_Packer_packAll) 89 = .ok (.istore_n 2, 1) := by decide +kernel
theorem d_Packer_packAll_90 : decode (mC m_Packer_packAll) 90 = .ok (.iload_n 3, 1) := by decide +kernel
theorem d_Packer_packAll_91 : decode (mC m_Packer_packAll) 91 = .ok (.iload_n 2, 1) := by decide +kernel
theorem d_Packer_packAll_92 : decode (mC m_Packer_packAll) 92 = .ok (.iadd, 1) := by decide +kernel
theorem d_Packer_packAll_93 : decode (mC m_Packer_packAll) 93 = .ok (.istore_n 3, 1) := by decide +kernel
theorem d_Packer_packAll_94 : decode (mC m_Packer_packAll) 94 = .ok (.goto (-61), 3) := by decide +kernel
theorem d_Packer_packAll_97 : decode (mC m_Packer_packAll) 97 = .ok (.aload_n 0, 1) := by decide +kernel
theorem d_Packer_packAll_98 : decode (mC m_Packer_packAll) 98 = .ok (.sipush 256, 3) := by decide +kernel
theorem d_Packer_packAll_101 : decode (mC m_Packer_packAll) 101 = .ok (.invokevirtual 53, 3) := by decide +kernel
theorem d_Packer_packAll_104 : decode (mC m_Packer_packAll) 104 = .ok (.aload_n 0, 1) := by decide +kernel
theorem d_Packer_packAll_105 : decode (mC m_Packer_packAll) 105 = .ok (.getfield 22, 3) := by decide +kernel
theorem d_Packer_packAll_108 : decode (mC m_Packer_packAll) 108 = .ok (.ifCond .le 15, 3) := by decide +kernel
theorem d_Packer_packAll_111 : decode (mC m_Packer_packAll) 111 = .ok (.aload_n 0, 1) := by decide +kernel
theorem d_Packer_packAll_112 : decode (mC m_Packer_packAll) 112 = .ok (.iconst 0, 1) := by decide +kernel
theorem d_Packer_packAll_113 : decode (mC m_Packer_packAll) 113 = .ok (.bipush 8, 2) := by decide +kernel
theorem d_Packer_packAll_115 : decode (mC m_Packer_packAll) 115 = .ok (.aload_n 0, 1) := by decide +kernel
theorem d_Packer_packAll_116 : decode (mC m_Packer_packAll) 116 = .ok (.getfield 22, 3) := by decide +kernel
theorem d_Packer_packAll_119 : decode (mC m_Packer_packAll) 119 = .ok (.isub, 1) := by decide +kernel
theorem d_Packer_packAll_120 : decode (mC m_Packer_packAll) 120 = .ok (.invokevirtual 25, 3) := by decide +kernel
theorem d_Packer_packAll_123 : decode (mC m_Packer_packAll) 123 = .ok (.return_, 1) := by decide +kernel
def b_Packer_packAll_90 (F : Nat) (K33 : Nat → Nat → Int32 → zW → Option (Unit × zW)) (v0 : Nat) (v1 : Nat) (v2 : Int32) (v3 : Int32) (w : zW) : Option (Unit × zW) := K33 v0 v1 (v3 + v2) w
set_option maxRecDepth 100000 in
set_option maxHeartbeats 4000000 in
theorem b_Packer_packAll_90_ok (G : zG) (F : Nat) (K33 : Nat → Nat → Int32 → zW → Option (Unit × zW)) (hK33 : ∀ (v0 : Nat) (v1 : Nat) (v3 : Int32) (w : zW) (r : (Unit × zW)), K33 v0 v1 v3 w = some r → zV G m_Packer_packAll 33 [(0, .ref (z0 G + v0)), (1, .ref (z0 G + v1)), (3, .int v3)] [] w 0 0 (oV r.1) r.2) (v0 : Nat) (v1 : Nat) (v2 : Int32) (v3 : Int32) (w : zW) (r : (Unit × zW)) (h : b_Packer_packAll_90 F K33 v0 v1 v2 v3 w = some r) : zV G m_Packer_packAll 90 [(0, .ref (z0 G + v0)), (1, .ref (z0 G + v1)), (2, .int v2), (3, .int v3)] [] w 0 0 (oV r.1) r.2 := by
  unfold b_Packer_packAll_90 at h
  refine V_iload_n (i := 3) d_Packer_packAll_90 rfl 3 rfl ?_
  refine V_iload_n (i := 2) d_Packer_packAll_91 rfl 2 rfl ?_
  refine V_iadd d_Packer_packAll_92 ?_
  refine V_istore_n (i := 3) d_Packer_packAll_93 rfl (by decide) rfl ?_
  refine V_goto (tgt := 33) d_Packer_packAll_94 (by decide) ?_
  refine V_lv [1, 2, 0] rfl ?_
  exact hK33 v0 v1 (v3 + v2) w _ h
def b_Packer_packAll_33 (F : Nat) (K33 : Nat → Nat → Int32 → zW → Option (Unit × zW)) (v0 : Nat) (v1 : Nat) (v3 : Int32) (w : zW) : Option (Unit × zW) := (getI w v1 0 1).bind fun x35 => if x35 ≤ v3 then ((zobj w v0 3).bind fun _ => (f_Packer_writeSymbol F v0 (256 : Int32) w).bind fun r101 => (getI r101.2 v0 3 2).bind fun x105 => if x105 ≤ 0 then (some ((), r101.2)) else ((getI r101.2 v0 3 2).bind fun x116 => (zobj r101.2 v0 3).bind fun _ => (f_Packer_writeBits F v0 (0 : Int32) ((8 : Int32) - x116) r101.2).bind fun r120 => some ((), r120.2))) else ((zobj w v0 3).bind fun _ => (f_Packer_findRepeat F v0 v1 v3 w).bind fun r44 => (getI r44.2 v0 3 3).bind fun x48 => if x48 < (3 : Int32) then ((zobj r44.2 v1 0).bind fun _ => (f_Row_get F v1 v3 r44.2).bind fun r82 => (zobj r82.2 v0 3).bind fun _ => (f_Packer_writeSymbol F v0 r82.1 r82.2).bind fun r85 => b_Packer_packAll_90 F K33 v0 v1 (1 : Int32) v3 r85.2) else ((getI r44.2 v0 3 3).bind fun x57 => (zobj r44.2 v0 3).bind fun _ => (f_Packer_writeLength F v0 x57 r44.2).bind fun r60 => (getI r60.2 v0 3 4).bind fun x65 => (zobj r60.2 v0 3).bind fun _ => (f_Packer_writeDistance F v0 x65 r60.2).bind fun r68 => (getI r68.2 v0 3 3).bind fun x72 => b_Packer_packAll_90 F K33 v0 v1 x72 v3 r68.2))
set_option maxRecDepth 100000 in
set_option maxHeartbeats 4000000 in
theorem b_Packer_packAll_33_ok (G : zG) (F : Nat) (K33 : Nat → Nat → Int32 → zW → Option (Unit × zW)) (hK33 : ∀ (v0 : Nat) (v1 : Nat) (v3 : Int32) (w : zW) (r : (Unit × zW)), K33 v0 v1 v3 w = some r → zV G m_Packer_packAll 33 [(0, .ref (z0 G + v0)), (1, .ref (z0 G + v1)), (3, .int v3)] [] w 0 0 (oV r.1) r.2) (v0 : Nat) (v1 : Nat) (v3 : Int32) (w : zW) (r : (Unit × zW)) (h : b_Packer_packAll_33 F K33 v0 v1 v3 w = some r) : zV G m_Packer_packAll 33 [(0, .ref (z0 G + v0)), (1, .ref (z0 G + v1)), (3, .int v3)] [] w 0 0 (oV r.1) r.2 := by
  unfold b_Packer_packAll_33 at h
  refine V_iload_n (i := 3) d_Packer_packAll_33 rfl 2 rfl ?_
  refine V_aload_n (i := 1) d_Packer_packAll_34 rfl 1 rfl ?_
  obtain ⟨x35, e35, h⟩ := ob h
  refine V_getI (ci := 0) (k := 1) d_Packer_packAll_35 e35 rfl (by decide) in_Row k43 ?_
  refine V_icmp_ge (tgt := 97) d_Packer_packAll_38 (by decide) (fun c38 => ?_) (fun c38 => ?_)
  · rw [if_pos c38] at h
    refine V_aload_n (i := 0) d_Packer_packAll_97 rfl 0 rfl ?_
    refine V_sipush (v := 256) d_Packer_packAll_98 (by decide) ?_
    obtain ⟨_, eo101, h⟩ := ob h
    obtain ⟨r101, e101, h⟩ := ob h
    refine V_call (v := none) (st := []) (inv_V (N := m_Packer_writeSymbol) (As := [.int (256 : Int32)]) (ci := 3) d_Packer_packAll_101 eo101 rfl k694 k696 sel_Packer_writeSymbol kc_Packer_writeSymbol y_Packer_writeSymbol) ⟨Or.inl kc_Packer_writeSymbol, k3, by decide, by decide⟩ (Nat.le_of_ble_eq_true rfl) (by decide) (by decide) (c_Packer_writeSymbol G F v0 (256 : Int32) w r101 e101) ?_
    refine V_aload_n (i := 0) d_Packer_packAll_104 rfl 0 rfl ?_
    obtain ⟨x105, e105, h⟩ := ob h
    refine V_getI (ci := 3) (k := 2) d_Packer_packAll_105 e105 rfl (by decide) in_Packer k66 ?_
    refine V_if_le (tgt := 123) d_Packer_packAll_108 (by decide) (fun c108 => ?_) (fun c108 => ?_)
    · rw [if_pos c108] at h
      obtain rfl := Option.some.inj h
      exact V_vret rfl (by decide) (by decide) d_Packer_packAll_123
    · rw [if_neg c108] at h
      refine V_aload_n (i := 0) d_Packer_packAll_111 rfl 0 rfl ?_
      refine V_iconst (v := 0) d_Packer_packAll_112 (by decide) ?_
      refine V_bipush (v := 8) d_Packer_packAll_113 (by decide) ?_
      refine V_aload_n (i := 0) d_Packer_packAll_115 rfl 0 rfl ?_
      obtain ⟨x116, e116, h⟩ := ob h
      refine V_getI (ci := 3) (k := 2) d_Packer_packAll_116 e116 rfl (by decide) in_Packer k66 ?_
      refine V_isub d_Packer_packAll_119 ?_
      obtain ⟨_, eo120, h⟩ := ob h
      obtain ⟨r120, e120, h⟩ := ob h
      refine V_call (v := none) (st := []) (inv_V (N := m_Packer_writeBits) (As := [.int (0 : Int32), .int ((8 : Int32) - x116)]) (ci := 3) d_Packer_packAll_120 eo120 rfl k675 k677 sel_Packer_writeBits kc_Packer_writeBits y_Packer_writeBits) ⟨Or.inl kc_Packer_writeBits, k3, by decide, by decide⟩ (Nat.le_of_ble_eq_true rfl) (by decide) (by decide) (c_Packer_writeBits G F v0 (0 : Int32) ((8 : Int32) - x116) r101.2 r120 e120) ?_
      obtain rfl := Option.some.inj h
      exact V_vret rfl (by decide) (by decide) d_Packer_packAll_123
  · rw [if_neg c38] at h
    refine V_aload_n (i := 0) d_Packer_packAll_41 rfl 0 rfl ?_
    refine V_aload_n (i := 1) d_Packer_packAll_42 rfl 1 rfl ?_
    refine V_iload_n (i := 3) d_Packer_packAll_43 rfl 2 rfl ?_
    obtain ⟨_, eo44, h⟩ := ob h
    obtain ⟨r44, e44, h⟩ := ob h
    refine V_call (v := none) (st := []) (inv_V (N := m_Packer_findRepeat) (As := [.ref (z0 G + v1), .int v3]) (ci := 3) d_Packer_packAll_44 eo44 rfl k680 k682 sel_Packer_findRepeat kc_Packer_findRepeat y_Packer_findRepeat) ⟨Or.inl kc_Packer_findRepeat, k3, by decide, by decide⟩ (Nat.le_of_ble_eq_true rfl) (by decide) (by decide) (c_Packer_findRepeat G F v0 v1 v3 w r44 e44) ?_
    refine V_aload_n (i := 0) d_Packer_packAll_47 rfl 0 rfl ?_
    obtain ⟨x48, e48, h⟩ := ob h
    refine V_getI (ci := 3) (k := 3) d_Packer_packAll_48 e48 rfl (by decide) in_Packer k67 ?_
    refine V_iconst (v := 3) d_Packer_packAll_51 (by decide) ?_
    refine V_icmp_lt (tgt := 79) d_Packer_packAll_52 (by decide) (fun c52 => ?_) (fun c52 => ?_)
    · rw [if_pos c52] at h
      refine V_aload_n (i := 0) d_Packer_packAll_79 rfl 0 rfl ?_
      refine V_aload_n (i := 1) d_Packer_packAll_80 rfl 1 rfl ?_
      refine V_iload_n (i := 3) d_Packer_packAll_81 rfl 2 rfl ?_
      obtain ⟨_, eo82, h⟩ := ob h
      obtain ⟨r82, e82, h⟩ := ob h
      refine V_call (v := some (.int r82.1)) (st := [.ref (z0 G + v0)]) (inv_V (N := m_Row_get) (As := [.int v3]) (ci := 0) d_Packer_packAll_82 eo82 rfl k706 k400 k401 kc_Row_get y_Row_get) ⟨Or.inl kc_Row_get, k2, by decide, by decide⟩ (Nat.le_of_ble_eq_true rfl) (by decide) (by decide) (c_Row_get G F v1 v3 r44.2 r82 e82) ?_
      obtain ⟨_, eo85, h⟩ := ob h
      obtain ⟨r85, e85, h⟩ := ob h
      refine V_call (v := none) (st := []) (inv_V (N := m_Packer_writeSymbol) (As := [.int r82.1]) (ci := 3) d_Packer_packAll_85 eo85 rfl k694 k696 sel_Packer_writeSymbol kc_Packer_writeSymbol y_Packer_writeSymbol) ⟨Or.inl kc_Packer_writeSymbol, k3, by decide, by decide⟩ (Nat.le_of_ble_eq_true rfl) (by decide) (by decide) (c_Packer_writeSymbol G F v0 r82.1 r82.2 r85 e85) ?_
      refine V_iconst (v := 1) d_Packer_packAll_88 (by decide) ?_
      refine V_istore_n (i := 2) d_Packer_packAll_89 rfl (by decide) rfl ?_
      refine V_lv [1, 2, 0, 3] rfl ?_
      exact b_Packer_packAll_90_ok G F K33 hK33 v0 v1 (1 : Int32) v3 r85.2 _ h
    · rw [if_neg c52] at h
      refine V_aload_n (i := 0) d_Packer_packAll_55 rfl 0 rfl ?_
      refine V_aload_n (i := 0) d_Packer_packAll_56 rfl 0 rfl ?_
      obtain ⟨x57, e57, h⟩ := ob h
      refine V_getI (ci := 3) (k := 3) d_Packer_packAll_57 e57 rfl (by decide) in_Packer k67 ?_
      obtain ⟨_, eo60, h⟩ := ob h
      obtain ⟨r60, e60, h⟩ := ob h
      refine V_call (v := none) (st := []) (inv_V (N := m_Packer_writeLength) (As := [.int x57]) (ci := 3) d_Packer_packAll_60 eo60 rfl k690 k692 sel_Packer_writeLength kc_Packer_writeLength y_Packer_writeLength) ⟨Or.inl kc_Packer_writeLength, k3, by decide, by decide⟩ (Nat.le_of_ble_eq_true rfl) (by decide) (by decide) (c_Packer_writeLength G F v0 x57 r44.2 r60 e60) ?_
      refine V_aload_n (i := 0) d_Packer_packAll_63 rfl 0 rfl ?_
      refine V_aload_n (i := 0) d_Packer_packAll_64 rfl 0 rfl ?_
      obtain ⟨x65, e65, h⟩ := ob h
      refine V_getI (ci := 3) (k := 4) d_Packer_packAll_65 e65 rfl (by decide) in_Packer k68 ?_
      obtain ⟨_, eo68, h⟩ := ob h
      obtain ⟨r68, e68, h⟩ := ob h
      refine V_call (v := none) (st := []) (inv_V (N := m_Packer_writeDistance) (As := [.int x65]) (ci := 3) d_Packer_packAll_68 eo68 rfl k702 k704 sel_Packer_writeDistance kc_Packer_writeDistance y_Packer_writeDistance) ⟨Or.inl kc_Packer_writeDistance, k3, by decide, by decide⟩ (Nat.le_of_ble_eq_true rfl) (by decide) (by decide) (c_Packer_writeDistance G F v0 x65 r60.2 r68 e68) ?_
      refine V_aload_n (i := 0) d_Packer_packAll_71 rfl 0 rfl ?_
      obtain ⟨x72, e72, h⟩ := ob h
      refine V_getI (ci := 3) (k := 3) d_Packer_packAll_72 e72 rfl (by decide) in_Packer k67 ?_
      refine V_istore_n (i := 2) d_Packer_packAll_75 rfl (by decide) rfl ?_
      refine V_goto (tgt := 90) d_Packer_packAll_76 (by decide) ?_
      refine V_lv [1, 2, 0, 3] rfl ?_
      exact b_Packer_packAll_90_ok G F K33 hK33 v0 v1 x72 v3 r68.2 _ h
def l_Packer_packAll_33 (F : Nat) : Nat → Nat → Nat → Int32 → zW → Option (Unit × zW)
  | 0 => fun _ _ _ _ => none
  | n + 1 => b_Packer_packAll_33 F (l_Packer_packAll_33 F n)
theorem l_Packer_packAll_33_ok (G : zG) (F : Nat) (n : Nat) :  ∀ (v0 : Nat) (v1 : Nat) (v3 : Int32) (w : zW) (r : (Unit × zW)), l_Packer_packAll_33 F n v0 v1 v3 w = some r → zV G m_Packer_packAll 33 [(0, .ref (z0 G + v0)), (1, .ref (z0 G + v1)), (3, .int v3)] [] w 0 0 (oV r.1) r.2 := by
  induction n with
  | zero => intro v0 v1 v3 w r h; exact nomatch (show (none : Option (Unit × zW)) = some r from h)
  | succ n ih => intro v0 v1 v3 w r h; exact b_Packer_packAll_33_ok G F (l_Packer_packAll_33 F n) ih v0 v1 v3 w r h
def b_Packer_packAll_0 (F : Nat) (v0 : Nat) (v1 : Nat) (w : zW) : Option (Unit × zW) := (getR w v0 3 0).bind fun x1 => (zobj w x1 0).bind fun _ => (f_Row_empty F x1 w).bind fun r4 => (putI r4.2 v0 3 1 (0 : Int32)).bind fun w9 => (putI w9 v0 3 2 (0 : Int32)).bind fun w14 => (zobj w14 v0 3).bind fun _ => (f_Packer_writeBits F v0 (1 : Int32) (1 : Int32) w14).bind fun r20 => (zobj r20.2 v0 3).bind fun _ => (f_Packer_writeBits F v0 (1 : Int32) (2 : Int32) r20.2).bind fun r26 => l_Packer_packAll_33 F F v0 v1 (0 : Int32) r26.2
set_option maxRecDepth 100000 in
set_option maxHeartbeats 4000000 in
theorem b_Packer_packAll_0_ok (G : zG) (F : Nat) (v0 : Nat) (v1 : Nat) (w : zW) (r : (Unit × zW)) (h : b_Packer_packAll_0 F v0 v1 w = some r) : zV G m_Packer_packAll 0 [(0, .ref (z0 G + v0)), (1, .ref (z0 G + v1))] [] w 0 0 (oV r.1) r.2 := by
  unfold b_Packer_packAll_0 at h
  refine V_aload_n (i := 0) d_Packer_packAll_0 rfl 0 rfl ?_
  obtain ⟨x1, e1, h⟩ := ob h
  refine V_getR (ci := 3) (k := 0) d_Packer_packAll_1 e1 rfl (by decide) in_Packer k64 ?_
  obtain ⟨_, eo4, h⟩ := ob h
  obtain ⟨r4, e4, h⟩ := ob h
  refine V_call (v := none) (st := []) (inv_V (N := m_Row_empty) (As := []) (ci := 0) d_Packer_packAll_4 eo4 rfl k674 k288 k289 kc_Row_empty y_Row_empty) ⟨Or.inl kc_Row_empty, k2, by decide, by decide⟩ (Nat.le_of_ble_eq_true rfl) (by decide) (by decide) (c_Row_empty G F x1 w r4 e4) ?_
  refine V_aload_n (i := 0) d_Packer_packAll_7 rfl 0 rfl ?_
  refine V_iconst (v := 0) d_Packer_packAll_8 (by decide) ?_
  obtain ⟨w9, e9, h⟩ := ob h
  refine V_putI (ci := 3) (k := 1) t_Packer d_Packer_packAll_9 e9 rfl (by decide) in_Packer k65 ty_Packer nm_Packer rfl (Or.inl rfl) ?_
  refine V_aload_n (i := 0) d_Packer_packAll_12 rfl 0 rfl ?_
  refine V_iconst (v := 0) d_Packer_packAll_13 (by decide) ?_
  obtain ⟨w14, e14, h⟩ := ob h
  refine V_putI (ci := 3) (k := 2) t_Packer d_Packer_packAll_14 e14 rfl (by decide) in_Packer k66 ty_Packer nm_Packer rfl (Or.inl rfl) ?_
  refine V_aload_n (i := 0) d_Packer_packAll_17 rfl 0 rfl ?_
  refine V_iconst (v := 1) d_Packer_packAll_18 (by decide) ?_
  refine V_iconst (v := 1) d_Packer_packAll_19 (by decide) ?_
  obtain ⟨_, eo20, h⟩ := ob h
  obtain ⟨r20, e20, h⟩ := ob h
  refine V_call (v := none) (st := []) (inv_V (N := m_Packer_writeBits) (As := [.int (1 : Int32), .int (1 : Int32)]) (ci := 3) d_Packer_packAll_20 eo20 rfl k675 k677 sel_Packer_writeBits kc_Packer_writeBits y_Packer_writeBits) ⟨Or.inl kc_Packer_writeBits, k3, by decide, by decide⟩ (Nat.le_of_ble_eq_true rfl) (by decide) (by decide) (c_Packer_writeBits G F v0 (1 : Int32) (1 : Int32) w14 r20 e20) ?_
  refine V_aload_n (i := 0) d_Packer_packAll_23 rfl 0 rfl ?_
  refine V_iconst (v := 1) d_Packer_packAll_24 (by decide) ?_
  refine V_iconst (v := 2) d_Packer_packAll_25 (by decide) ?_
  obtain ⟨_, eo26, h⟩ := ob h
  obtain ⟨r26, e26, h⟩ := ob h
  refine V_call (v := none) (st := []) (inv_V (N := m_Packer_writeBits) (As := [.int (1 : Int32), .int (2 : Int32)]) (ci := 3) d_Packer_packAll_26 eo26 rfl k675 k677 sel_Packer_writeBits kc_Packer_writeBits y_Packer_writeBits) ⟨Or.inl kc_Packer_writeBits, k3, by decide, by decide⟩ (Nat.le_of_ble_eq_true rfl) (by decide) (by decide) (c_Packer_writeBits G F v0 (1 : Int32) (2 : Int32) r20.2 r26 e26) ?_
  refine V_iconst (v := 1) d_Packer_packAll_29 (by decide) ?_
  refine V_istore_n (i := 2) d_Packer_packAll_30 rfl (by decide) rfl ?_
  refine V_iconst (v := 0) d_Packer_packAll_31 (by decide) ?_
  refine V_istore_n (i := 3) d_Packer_packAll_32 rfl (by decide) rfl ?_
  refine V_lv [2, 3, 0] rfl ?_
  exact l_Packer_packAll_33_ok G F F v0 v1 (0 : Int32) r26.2 _ h
def f_Packer_packAll (F : Nat) (v0 : Nat) (v1 : Nat) (w : zW) : Option (Unit × zW) := b_Packer_packAll_0 F v0 v1 w
theorem c_Packer_packAll (G : zG) (F : Nat) (v0 : Nat) (v1 : Nat) (w : zW) (r : (Unit × zW)) (h : f_Packer_packAll F v0 v1 w = some r) : zCT G m_Packer_packAll [.ref (z0 G + v0), .ref (z0 G + v1)] w (oV r.1) r.2 := zCT.ofV (by decide +kernel) (Or.inl ⟨kc_Packer_packAll, rfl⟩) (Nat.le_of_ble_eq_true rfl) (b_Packer_packAll_0_ok G F v0 v1 w r h)

/-! ZipArray$Row.appendPart(LZipArray$Row;II)V -/
def m_Row_appendPart : zM := (⟨R_Row, "appendPart", "(LZipArray$Row;II)V"⟩, prog_7_method_9_code, 4, none, [], { frames := 1, cells := 0, slots := 0, locals := 28 })
theorem k317 : Cond.methodLink R_Row 29 (mY m_Row_hasRoom) ∈ zTb := tb_at 317 (by decide +kernel) rfl
theorem k321 : Cond.methodLink R_Row 32 arraycopyName ∈ zTb := tb_at 321 (by decide +kernel) rfl
theorem kc_Row_appendPart : Cond.code (mY m_Row_appendPart) (mC m_Row_appendPart) (mL m_Row_appendPart) (mT m_Row_appendPart) ∈ zTb := tb_at 316 (by decide +kernel) rfl
theorem y_Row_appendPart : (mY m_Row_appendPart).cls ≠ "java/lang/invoke/MethodHandle" ∧ (mY m_Row_appendPart).cls ≠ "java/lang/invoke/VarHandle" ∧ (parseMethodDescriptor (mY m_Row_appendPart).desc).map (fun d => d.parameters.length) = some 3 := by decide +kernel
theorem d_Row_appendPart_0 : decode (mC m_Row_appendPart) 0 = .ok (.iload_n 2, 1) := by decide +kernel
theorem d_Row_appendPart_1 : decode (mC m_Row_appendPart) 1 = .ok (.ifCond .lt 26, 3) := by decide +kernel
theorem d_Row_appendPart_4 : decode (mC m_Row_appendPart) 4 = .ok (.iload_n 3, 1) := by decide +kernel
theorem d_Row_appendPart_5 : decode (mC m_Row_appendPart) 5 = .ok (.iload_n 2, 1) := by decide +kernel
theorem d_Row_appendPart_6 : decode (mC m_Row_appendPart) 6 = .ok (.if_icmp .lt 21, 3) := by decide +kernel
theorem d_Row_appendPart_9 : decode (mC m_Row_appendPart) 9 = .ok (.iload_n 3, 1) := by decide +kernel
theorem d_Row_appendPart_10 : decode (mC m_Row_appendPart) 10 = .ok (.aload_n 1, 1) := by decide +kernel
theorem d_Row_appendPart_11 : decode (mC m_Row_appendPart) 11 = .ok (.getfield 13, 3) := by decide +kernel
theorem d_Row_appendPart_14 : decode (mC m_Row_appendPart) 14 = .ok (.if_icmp .gt 13, 3) := by decide +kernel
theorem d_Row_appendPart_17 : decode (mC m_Row_appendPart) 17 = .ok (.aload_n 0, 1) := by decide +kernel
theorem d_Row_appendPart_18 : decode (mC m_Row_appendPart) 18 = .ok (.iload_n 3, 1) := by decide +kernel
theorem d_Row_appendPart_19 : decode (mC m_Row_appendPart) 19 = .ok (.iload_n 2, 1) := by decide +kernel
theorem d_Row_appendPart_20 : decode (mC m_Row_appendPart) 20 = .ok (.isub, 1) := by decide +kernel
theorem d_Row_appendPart_21 : decode (mC m_Row_appendPart) 21 = .ok (.invokevirtual 29, 3) := by decide +kernel
theorem d_Row_appendPart_24 : decode (mC m_Row_appendPart) 24 = .ok (.ifCond .ne 9, 3) := by decide +kernel
theorem d_Row_appendPart_27 : decode (mC m_Row_appendPart) 27 = .ok (.aload_n 0, 1) := by decide +kernel
theorem d_Row_appendPart_28 : decode (mC m_Row_appendPart) 28 = .ok (.iconst 1, 1) := by decide +kernel
theorem d_Row_appendPart_29 : decode (mC m_Row_appendPart) 29 = .ok (.putfield 17, 3) := by decide +kernel
theorem d_Row_appendPart_32 : decode (mC m_Row_appendPart) 32 = .ok (.return_, 1) := by decide +kernel
theorem d_Row_appendPart_33 : decode (mC m_Row_appendPart) 33 = .ok (.aload_n 1, 1) := by decide +kernel
theorem d_Row_appendPart_34 : decode (mC m_Row_appendPart) 34 = .ok (.getfield 7, 3) := by decide +kernel
theorem d_Row_appendPart_37 : decode (mC m_Row_appendPart) 37 = .ok (.iload_n 2, 1) := by decide +kernel
theorem d_Row_appendPart_38 : decode (mC m_Row_appendPart) 38 = .ok (.aload_n 0, 1) := by decide +kernel
theorem d_Row_appendPart_39 : decode (mC m_Row_appendPart) 39 = .ok (.getfield 7, 3) := by decide +kernel
theorem d_Row_appendPart_42 : decode (mC m_Row_appendPart) 42 = .ok (.aload_n 0, 1) := by decide +kernel
theorem d_Row_appendPart_43 : decode (mC m_Row_appendPart) 43 = .ok (.getfield 13, 3) := by decide +kernel
theorem d_Row_appendPart_46 : decode (mC m_Row_appendPart) 46 = .ok (.iload_n 3, 1) := by decide +kernel
theorem d_Row_appendPart_47 : decode (mC m_Row_appendPart) 47 = .ok (.iload_n 2, 1) := by decide +kernel
theorem d_Row_appendPart_48 : decode (mC m_Row_appendPart) 48 = .ok (.isub, 1) := by decide +kernel
theorem d_Row_appendPart_49 : decode (mC m_Row_appendPart) 49 = .ok (.invokestatic 32, 3) := by decide +kernel
theorem d_Row_appendPart_52 : decode (mC m_Row_appendPart) 52 = .ok (.aload_n 0, 1) := by decide +kernel
theorem d_Row_appendPart_53 : decode (mC m_Row_appendPart) 53 = .ok (.dup, 1) := by decide +kernel
theorem d_Row_appendPart_54 : decode (mC m_Row_appendPart) 54 = .ok (.getfield 13, 3) := by decide +kernel
theorem d_Row_appendPart_57 : decode (mC m_Row_appendPart) 57 = .ok (.iload_n 3, 1) := by decide +kernel
theorem d_Row_appendPart_58 : decode (mC m_Row_appendPart) 58 = .ok (.iload_n 2, 1) := by decide +kernel
theorem d_Row_appendPart_59 : decode (mC m_Row_appendPart) 59 = .ok (.isub, 1) := by decide +kernel
theorem d_Row_appendPart_60 : decode (mC m_Row_appendPart) 60 = .ok (.iadd, 1) := by decide +kernel
theorem d_Row_appendPart_61 : decode (mC m_Row_appendPart) 61 = .ok (.putfield 13, 3) := by decide +kernel
theorem d_Row_appendPart_64 : decode (mC m_Row_appendPart) 64 = .ok (.return_, 1) := by decide +kernel
def b_Row_appendPart_27 (F : Nat) (v0 : Nat) (w : zW) : Option (Unit × zW) := (putI w v0 0 2 (1 : Int32)).bind fun w29 => some ((), w29)
set_option maxRecDepth 100000 in
set_option maxHeartbeats 4000000 in
theorem b_Row_appendPart_27_ok (G : zG) (F : Nat) (v0 : Nat) (w : zW) (r : (Unit × zW)) (h : b_Row_appendPart_27 F v0 w = some r) : zV G m_Row_appendPart 27 [(0, .ref (z0 G + v0))] [] w 0 0 (oV r.1) r.2 := by
  unfold b_Row_appendPart_27 at h
  refine V_aload_n (i := 0) d_Row_appendPart_27 rfl 0 rfl ?_
  refine V_iconst (v := 1) d_Row_appendPart_28 (by decide) ?_
  obtain ⟨w29, e29, h⟩ := ob h
  refine V_putI (ci := 0) (k := 2) t_Row d_Row_appendPart_29 e29 rfl (by decide) in_Row k47 ty_Row nm_Row rfl (Or.inr ⟨rfl, Or.inr rfl⟩) ?_
  obtain rfl := Option.some.inj h
  exact V_vret rfl (by decide) (by decide) d_Row_appendPart_32
def b_Row_appendPart_0 (F : Nat) (v0 : Nat) (v1 : Nat) (v2 : Int32) (v3 : Int32) (w : zW) : Option (Unit × zW) := if v2 < 0 then (b_Row_appendPart_27 F v0 w) else (if v3 < v2 then (b_Row_appendPart_27 F v0 w) else ((getI w v1 0 1).bind fun x11 => if x11 < v3 then (b_Row_appendPart_27 F v0 w) else ((zobj w v0 0).bind fun _ => (f_Row_hasRoom F v0 (v3 - v2) w).bind fun r21 => if r21.1 = 0 then (b_Row_appendPart_27 F v0 r21.2) else ((getR r21.2 v1 0 0).bind fun x34 => (getR r21.2 v0 0 0).bind fun x39 => (getI r21.2 v0 0 1).bind fun x43 => (acopy r21.2 x34 v2 x39 x43 (v3 - v2)).bind fun w49 => (getI w49 v0 0 1).bind fun x54 => (putI w49 v0 0 1 (x54 + (v3 - v2))).bind fun w61 => some ((), w61)))))
set_option maxRecDepth 100000 in
set_option maxHeartbeats 4000000 in
theorem b_Row_appendPart_0_ok (G : zG) (F : Nat) (v0 : Nat) (v1 : Nat) (v2 : Int32) (v3 : Int32) (w : zW) (r : (Unit × zW)) (h : b_Row_appendPart_0 F v0 v1 v2 v3 w = some r) : zV G m_Row_appendPart 0 [(0, .ref (z0 G + v0)), (1, .ref (z0 G + v1)), (2, .int v2), (3, .int v3)] [] w 0 0 (oV r.1) r.2 := by
  unfold b_Row_appendPart_0 at h
  refine V_iload_n (i := 2) d_Row_appendPart_0 rfl 2 rfl ?_
  refine V_if_lt (tgt := 27) d_Row_appendPart_1 (by decide) (fun c1 => ?_) (fun c1 => ?_)
  · rw [if_pos c1] at h
    refine V_lv [0] rfl ?_
    exact b_Row_appendPart_27_ok G F v0 w _ h
  · rw [if_neg c1] at h
    refine V_iload_n (i := 3) d_Row_appendPart_4 rfl 3 rfl ?_
    refine V_iload_n (i := 2) d_Row_appendPart_5 rfl 2 rfl ?_
    refine V_icmp_lt (tgt := 27) d_Row_appendPart_6 (by decide) (fun c6 => ?_) (fun c6 => ?_)
    · rw [if_pos c6] at h
      refine V_lv [0] rfl ?_
      exact b_Row_appendPart_27_ok G F v0 w _ h
    · rw [if_neg c6] at h
      refine V_iload_n (i := 3) d_Row_appendPart_9 rfl 3 rfl ?_
      refine V_aload_n (i := 1) d_Row_appendPart_10 rfl 1 rfl ?_
      obtain ⟨x11, e11, h⟩ := ob h
      refine V_getI (ci := 0) (k := 1) d_Row_appendPart_11 e11 rfl (by decide) in_Row k41 ?_
      refine V_icmp_gt (tgt := 27) d_Row_appendPart_14 (by decide) (fun c14 => ?_) (fun c14 => ?_)
      · rw [if_pos c14] at h
        refine V_lv [0] rfl ?_
        exact b_Row_appendPart_27_ok G F v0 w _ h
      · rw [if_neg c14] at h
        refine V_aload_n (i := 0) d_Row_appendPart_17 rfl 0 rfl ?_
        refine V_iload_n (i := 3) d_Row_appendPart_18 rfl 3 rfl ?_
        refine V_iload_n (i := 2) d_Row_appendPart_19 rfl 2 rfl ?_
        refine V_isub d_Row_appendPart_20 ?_
        obtain ⟨_, eo21, h⟩ := ob h
        obtain ⟨r21, e21, h⟩ := ob h
        refine V_call (v := some (.int r21.1)) (st := []) (inv_V (N := m_Row_hasRoom) (As := [.int (v3 - v2)]) (ci := 0) d_Row_appendPart_21 eo21 rfl k317 k318 k319 kc_Row_hasRoom y_Row_hasRoom) ⟨Or.inl kc_Row_hasRoom, k2, by decide, by decide⟩ (Nat.le_of_ble_eq_true rfl) (by decide) (by decide) (c_Row_hasRoom G F v0 (v3 - v2) w r21 e21) ?_
        refine V_if_ne (tgt := 33) d_Row_appendPart_24 (by decide) (fun c24 => ?_) (fun c24 => ?_)
        · rw [if_neg c24] at h
          refine V_aload_n (i := 1) d_Row_appendPart_33 rfl 1 rfl ?_
          obtain ⟨x34, e34, h⟩ := ob h
          refine V_getR (ci := 0) (k := 0) d_Row_appendPart_34 e34 rfl (by decide) in_Row k36 ?_
          refine V_iload_n (i := 2) d_Row_appendPart_37 rfl 2 rfl ?_
          refine V_aload_n (i := 0) d_Row_appendPart_38 rfl 0 rfl ?_
          obtain ⟨x39, e39, h⟩ := ob h
          refine V_getR (ci := 0) (k := 0) d_Row_appendPart_39 e39 rfl (by decide) in_Row k36 ?_
          refine V_aload_n (i := 0) d_Row_appendPart_42 rfl 0 rfl ?_
          obtain ⟨x43, e43, h⟩ := ob h
          refine V_getI (ci := 0) (k := 1) d_Row_appendPart_43 e43 rfl (by decide) in_Row k41 ?_
          refine V_iload_n (i := 3) d_Row_appendPart_46 rfl 3 rfl ?_
          refine V_iload_n (i := 2) d_Row_appendPart_47 rfl 2 rfl ?_
          refine V_isub d_Row_appendPart_48 ?_
          obtain ⟨w49, e49, h⟩ := ob h
          refine V_copy d_Row_appendPart_49 e49 k321 kcpy1 kcpy2 kcpy3 (by decide) (Nat.le_of_ble_eq_true rfl) ?_
          refine V_aload_n (i := 0) d_Row_appendPart_52 rfl 0 rfl ?_
          refine V_dup rfl d_Row_appendPart_53 ?_
          obtain ⟨x54, e54, h⟩ := ob h
          refine V_getI (ci := 0) (k := 1) d_Row_appendPart_54 e54 rfl (by decide) in_Row k41 ?_
          refine V_iload_n (i := 3) d_Row_appendPart_57 rfl 3 rfl ?_
          refine V_iload_n (i := 2) d_Row_appendPart_58 rfl 2 rfl ?_
          refine V_isub d_Row_appendPart_59 ?_
          refine V_iadd d_Row_appendPart_60 ?_
          obtain ⟨w61, e61, h⟩ := ob h
          refine V_putI (ci := 0) (k := 1) t_Row d_Row_appendPart_61 e61 rfl (by decide) in_Row k41 ty_Row nm_Row rfl (Or.inl rfl) ?_
          obtain rfl := Option.some.inj h
          exact V_vret rfl (by decide) (by decide) d_Row_appendPart_64
        · rw [if_pos c24] at h
          refine V_lv [0] rfl ?_
          exact b_Row_appendPart_27_ok G F v0 r21.2 _ h
def f_Row_appendPart (F : Nat) (v0 : Nat) (v1 : Nat) (v2 : Int32) (v3 : Int32) (w : zW) : Option (Unit × zW) := b_Row_appendPart_0 F v0 v1 v2 v3 w
theorem c_Row_appendPart (G : zG) (F : Nat) (v0 : Nat) (v1 : Nat) (v2 : Int32) (v3 : Int32) (w : zW) (r : (Unit × zW)) (h : f_Row_appendPart F v0 v1 v2 v3 w = some r) : zCT G m_Row_appendPart [.ref (z0 G + v0), .ref (z0 G + v1), .int v2, .int v3] w (oV r.1) r.2 := zCT.ofV (by decide +kernel) (Or.inl ⟨kc_Row_appendPart, rfl⟩) (Nat.le_of_ble_eq_true rfl) (b_Row_appendPart_0_ok G F v0 v1 v2 v3 w r h)

/-! ZipArray$Row.become(LZipArray$Row;)V -/
def m_Row_become : zM := (⟨R_Row, "become", "(LZipArray$Row;)V"⟩, prog_7_method_10_code, 2, none, [], { frames := 2, cells := 0, slots := 0, locals := 51 })
theorem k314 : Cond.instanceMethod (mY m_Row_appendPart) ∈ zTb := tb_at 314 (by decide +kernel) rfl
theorem k315 : Cond.selects R_Row (mY m_Row_appendPart) (mY m_Row_appendPart) ∈ zTb := tb_at 315 (by decide +kernel) rfl
theorem k350 : Cond.methodLink R_Row 38 (mY m_Row_empty) ∈ zTb := tb_at 350 (by decide +kernel) rfl
theorem k351 : Cond.methodLink R_Row 41 (mY m_Row_appendPart) ∈ zTb := tb_at 351 (by decide +kernel) rfl
theorem kc_Row_become : Cond.code (mY m_Row_become) (mC m_Row_become) (mL m_Row_become) (mT m_Row_become) ∈ zTb := tb_at 349 (by decide +kernel) rfl
theorem y_Row_become : (mY m_Row_become).cls ≠ "java/lang/invoke/MethodHandle" ∧ (mY m_Row_become).cls ≠ "java/lang/invoke/VarHandle" ∧ (parseMethodDescriptor (mY m_Row_become).desc).map (fun d => d.parameters.length) = some 1 := by decide +kernel
theorem d_Row_become_0 : decode (mC m_Row_become) 0 = .ok (.aload_n 0, 1) := by decide +kernel
theorem d_Row_become_1 : decode (mC m_Row_become) 1 = .ok (.invokevirtual 38, 3) := by decide +kernel
theorem d_Row_become_4 : decode (mC m_Row_become) 4 = .ok (.aload_n 0, 1) := by decide +kernel
theorem d_Row_become_5 : decode (mC m_Row_become) 5 = .ok (.aload_n 1, 1) := by decide +kernel
theorem d_Row_become_6 : decode (mC m_Row_become) 6 = .ok (.iconst 0, 1) := by decide +kernel
theorem d_Row_become_7 : decode (mC m_Row_become) 7 = .ok (.aload_n 1, 1) := by decide +kernel
theorem d_Row_become_8 : decode (mC m_Row_become) 8 = .ok (.getfield 13, 3) := by decide +kernel
theorem d_Row_become_11 : decode (mC m_Row_become) 11 = .ok (.invokevirtual 41, 3) := by decide +kernel
theorem d_Row_become_14 : decode (mC m_Row_become) 14 = .ok (.return_, 1) := by decide +kernel
def b_Row_become_0 (F : Nat) (v0 : Nat) (v1 : Nat) (w : zW) : Option (Unit × zW) := (zobj w v0 0).bind fun _ => (f_Row_empty F v0 w).bind fun r1 => (getI r1.2 v1 0 1).bind fun x8 => (zobj r1.2 v0 0).bind fun _ => (f_Row_appendPart F v0 v1 (0 : Int32) x8 r1.2).bind fun r11 => some ((), r11.2)
set_option maxRecDepth 100000 in
set_option maxHeartbeats 4000000 in
theorem b_Row_become_0_ok (G : zG) (F : Nat) (v0 : Nat) (v1 : Nat) (w : zW) (r : (Unit × zW)) (h : b_Row_become_0 F v0 v1 w = some r) : zV G m_Row_become 0 [(0, .ref (z0 G + v0)), (1, .ref (z0 G + v1))] [] w 0 0 (oV r.1) r.2 := by
  unfold b_Row_become_0 at h
  refine V_aload_n (i := 0) d_Row_become_0 rfl 0 rfl ?_
  obtain ⟨_, eo1, h⟩ := ob h
  obtain ⟨r1, e1, h⟩ := ob h
  refine V_call (v := none) (st := []) (inv_V (N := m_Row_empty) (As := []) (ci := 0) d_Row_become_1 eo1 rfl k350 k288 k289 kc_Row_empty y_Row_empty) ⟨Or.inl kc_Row_empty, k2, by decide, by decide⟩ (Nat.le_of_ble_eq_true rfl) (by decide) (by decide) (c_Row_empty G F v0 w r1 e1) ?_
  refine V_aload_n (i := 0) d_Row_become_4 rfl 0 rfl ?_
  refine V_aload_n (i := 1) d_Row_become_5 rfl 1 rfl ?_
  refine V_iconst (v := 0) d_Row_become_6 (by decide) ?_
  refine V_aload_n (i := 1) d_Row_become_7 rfl 1 rfl ?_
  obtain ⟨x8, e8, h⟩ := ob h
  refine V_getI (ci := 0) (k := 1) d_Row_become_8 e8 rfl (by decide) in_Row k41 ?_
  obtain ⟨_, eo11, h⟩ := ob h
  obtain ⟨r11, e11, h⟩ := ob h
  refine V_call (v := none) (st := []) (inv_V (N := m_Row_appendPart) (As := [.ref (z0 G + v1), .int (0 : Int32), .int x8]) (ci := 0) d_Row_become_11 eo11 rfl k351 k314 k315 kc_Row_appendPart y_Row_appendPart) ⟨Or.inl kc_Row_appendPart, k2, by decide, by decide⟩ (Nat.le_of_ble_eq_true rfl) (by decide) (by decide) (c_Row_appendPart G F v0 v1 (0 : Int32) x8 r1.2 r11 e11) ?_
  obtain rfl := Option.some.inj h
  exact V_vret rfl (by decide) (by decide) d_Row_become_14
def f_Row_become (F : Nat) (v0 : Nat) (v1 : Nat) (w : zW) : Option (Unit × zW) := b_Row_become_0 F v0 v1 w
theorem c_Row_become (G : zG) (F : Nat) (v0 : Nat) (v1 : Nat) (w : zW) (r : (Unit × zW)) (h : f_Row_become F v0 v1 w = some r) : zCT G m_Row_become [.ref (z0 G + v0), .ref (z0 G + v1)] w (oV r.1) r.2 := zCT.ofV (by decide +kernel) (Or.inl ⟨kc_Row_become, rfl⟩) (Nat.le_of_ble_eq_true rfl) (b_Row_become_0_ok G F v0 v1 w r h)

/-! ZipArray.pack()I -/
def m_Zip_pack : zM := (⟨R_Zip, "pack", "()I"⟩, prog_1_method_8_code, 1, (some .int), [], { frames := 6, cells := 1, slots := 6, locals := 134 })
theorem k346 : Cond.methodLink R_Zip 108 (mY m_Row_become) ∈ zTb := tb_at 346 (by decide +kernel) rfl
theorem k347 : Cond.instanceMethod (mY m_Row_become) ∈ zTb := tb_at 347 (by decide +kernel) rfl
theorem k348 : Cond.selects R_Row (mY m_Row_become) (mY m_Row_become) ∈ zTb := tb_at 348 (by decide +kernel) rfl
theorem k670 : Cond.methodLink R_Zip 105 (mY m_Packer_packAll) ∈ zTb := tb_at 670 (by decide +kernel) rfl
theorem k671 : Cond.instanceMethod (mY m_Packer_packAll) ∈ zTb := tb_at 671 (by decide +kernel) rfl
theorem k672 : Cond.selects R_Packer (mY m_Packer_packAll) (mY m_Packer_packAll) ∈ zTb := tb_at 672 (by decide +kernel) rfl
theorem kc_Zip_pack : Cond.code (mY m_Zip_pack) (mC m_Zip_pack) (mL m_Zip_pack) (mT m_Zip_pack) ∈ zTb := tb_at 669 (by decide +kernel) rfl
theorem y_Zip_pack : (mY m_Zip_pack).cls ≠ "java/lang/invoke/MethodHandle" ∧ (mY m_Zip_pack).cls ≠ "java/lang/invoke/VarHandle" ∧ (parseMethodDescriptor (mY m_Zip_pack).desc).map (fun d => d.parameters.length) = some 0 := by decide +kernel
theorem d_Zip_pack_0 : decode (mC m_Zip_pack) 0 = .ok (.aload_n 0, 1) := by decide +kernel
theorem d_Zip_pack_1 : decode (mC m_Zip_pack) 1 = .ok (.getfield 32, 3) := by decide +kernel
theorem d_Zip_pack_4 : decode (mC m_Zip_pack) 4 = .ok (.aload_n 0, 1) := by decide +kernel
theorem d_Zip_pack_5 : decode (mC m_Zip_pack) 5 = .ok (.getfield 14, 3) := by decide +kernel
theorem d_Zip_pack_8 : decode (mC m_Zip_pack) 8 = .ok (.invokevirtual 105, 3) := by decide +kernel
theorem d_Zip_pack_11 : decode (mC m_Zip_pack) 11 = .ok (.aload_n 0, 1) := by decide +kernel
theorem d_Zip_pack_12 : decode (mC m_Zip_pack) 12 = .ok (.getfield 21, 3) := by decide +kernel
theorem d_Zip_pack_15 : decode (mC m_Zip_pack) 15 = .ok (.getfield 64, 3) := by decide +kernel
theorem d_Zip_pack_18 : decode (mC m_Zip_pack) 18 = .ok (.sipush 200, 3) := by decide +kernel
theorem d_Zip_pack_21 : decode (mC m_Zip_pack) 21 = .ok (.if_icmp .le 11, 3) := by decide +kernel
theorem d_Zip_pack_24 : decode (mC m_Zip_pack) 24 = .ok (.new 85, 3) := by decide +kernel
theorem d_Zip_pack_27 : decode (mC m_Zip_pack) 27 = .ok (.dup, 1) := by decide +kernel
theorem d_Zip_pack_28 : decode (mC m_Zip_pack) 28 = .ok (.invokespecial 87, 3) := by decide +kernel
theorem d_Zip_pack_31 : decode (mC m_Zip_pack) 31 = .ok (.athrow, 1) := by decide +kernel
theorem d_Zip_pack_32 : decode (mC m_Zip_pack) 32 = .ok (.aload_n 0, 1) := by decide +kernel
theorem d_Zip_pack_33 : decode (mC m_Zip_pack) 33 = .ok (.getfield 14, 3) := by decide +kernel
theorem d_Zip_pack_36 : decode (mC m_Zip_pack) 36 = .ok (.aload_n 0, 1) := by decide +kernel
theorem d_Zip_pack_37 : decode (mC m_Zip_pack) 37 = .ok (.getfield 21, 3) := by decide +kernel
theorem d_Zip_pack_40 : decode (mC m_Zip_pack) 40 = .ok (.invokevirtual 108, 3) := by decide +kernel
theorem d_Zip_pack_43 : decode (mC m_Zip_pack) 43 = .ok (.aload_n 0, 1) := by decide +kernel
theorem d_Zip_pack_44 : decode (mC m_Zip_pack) 44 = .ok (.getfield 14, 3) := by decide +kernel
theorem d_Zip_pack_47 : decode (mC m_Zip_pack) 47 = .ok (.getfield 64, 3) := by decide +kernel
theorem d_Zip_pack_50 : decode (mC m_Zip_pack) 50 = .ok (.ireturn, 1) := by decide +kernel
def b_Zip_pack_0 (F : Nat) (v0 : Nat) (w : zW) : Option ((Int32 ⊕ Nat) × zW) := (getR w v0 8 4).bind fun x1 => (getR w v0 8 0).bind fun x5 => (zobj w x1 3).bind fun _ => (f_Packer_packAll F x1 x5 w).bind fun r8 => (getR r8.2 v0 8 2).bind fun x12 => (getI r8.2 x12 0 1).bind fun x15 => if x15 ≤ (200 : Int32) then ((getR r8.2 v0 8 0).bind fun x33 => (getR r8.2 v0 8 2).bind fun x37 => (zobj r8.2 x33 0).bind fun _ => (f_Row_become F x33 x37 r8.2).bind fun r40 => (getR r40.2 v0 8 0).bind fun x44 => (getI r40.2 x44 0 1).bind fun x47 => some ((.inl x47), r40.2)) else (some (.inr r8.2.length, r8.2 ++ [.inr (.inr (.inr (11, [])))]))
set_option maxRecDepth 100000 in
set_option maxHeartbeats 4000000 in
theorem b_Zip_pack_0_ok (G : zG) (F : Nat) (v0 : Nat) (w : zW) (r : ((Int32 ⊕ Nat) × zW)) (h : b_Zip_pack_0 F v0 w = some r) : zV G m_Zip_pack 0 [(0, .ref (z0 G + v0))] [] w 0 0 (oIT (z0 G) r.1) r.2 := by
  unfold b_Zip_pack_0 at h
  refine V_aload_n (i := 0) d_Zip_pack_0 rfl 0 rfl ?_
  obtain ⟨x1, e1, h⟩ := ob h
  refine V_getR (ci := 8) (k := 4) d_Zip_pack_1 e1 rfl (by decide) in_Zip k259 ?_
  refine V_aload_n (i := 0) d_Zip_pack_4 rfl 0 rfl ?_
  obtain ⟨x5, e5, h⟩ := ob h
  refine V_getR (ci := 8) (k := 0) d_Zip_pack_5 e5 rfl (by decide) in_Zip k255 ?_
  obtain ⟨_, eo8, h⟩ := ob h
  obtain ⟨r8, e8, h⟩ := ob h
  refine V_call (v := none) (st := []) (inv_V (N := m_Packer_packAll) (As := [.ref (z0 G + x5)]) (ci := 3) d_Zip_pack_8 eo8 rfl k670 k671 k672 kc_Packer_packAll y_Packer_packAll) ⟨Or.inl kc_Packer_packAll, k3, by decide, by decide⟩ (Nat.le_of_ble_eq_true rfl) (by decide) (by decide) (c_Packer_packAll G F x1 x5 w r8 e8) ?_
  refine V_aload_n (i := 0) d_Zip_pack_11 rfl 0 rfl ?_
  obtain ⟨x12, e12, h⟩ := ob h
  refine V_getR (ci := 8) (k := 2) d_Zip_pack_12 e12 rfl (by decide) in_Zip k257 ?_
  obtain ⟨x15, e15, h⟩ := ob h
  refine V_getI (ci := 0) (k := 1) d_Zip_pack_15 e15 rfl (by decide) in_Row k42 ?_
  refine V_sipush (v := 200) d_Zip_pack_18 (by decide) ?_
  refine V_icmp_le (tgt := 32) d_Zip_pack_21 (by decide) (fun c21 => ?_) (fun c21 => ?_)
  · rw [if_pos c21] at h
    refine V_aload_n (i := 0) d_Zip_pack_32 rfl 0 rfl ?_
    obtain ⟨x33, e33, h⟩ := ob h
    refine V_getR (ci := 8) (k := 0) d_Zip_pack_33 e33 rfl (by decide) in_Zip k255 ?_
    refine V_aload_n (i := 0) d_Zip_pack_36 rfl 0 rfl ?_
    obtain ⟨x37, e37, h⟩ := ob h
    refine V_getR (ci := 8) (k := 2) d_Zip_pack_37 e37 rfl (by decide) in_Zip k257 ?_
    obtain ⟨_, eo40, h⟩ := ob h
    obtain ⟨r40, e40, h⟩ := ob h
    refine V_call (v := none) (st := []) (inv_V (N := m_Row_become) (As := [.ref (z0 G + x37)]) (ci := 0) d_Zip_pack_40 eo40 rfl k346 k347 k348 kc_Row_become y_Row_become) ⟨Or.inl kc_Row_become, k2, by decide, by decide⟩ (Nat.le_of_ble_eq_true rfl) (by decide) (by decide) (c_Row_become G F x33 x37 r8.2 r40 e40) ?_
    refine V_aload_n (i := 0) d_Zip_pack_43 rfl 0 rfl ?_
    obtain ⟨x44, e44, h⟩ := ob h
    refine V_getR (ci := 8) (k := 0) d_Zip_pack_44 e44 rfl (by decide) in_Zip k255 ?_
    obtain ⟨x47, e47, h⟩ := ob h
    refine V_getI (ci := 0) (k := 1) d_Zip_pack_47 e47 rfl (by decide) in_Row k42 ?_
    obtain rfl := Option.some.inj h
    exact V_iret rfl (by decide) (by decide) d_Zip_pack_50
  · rw [if_neg c21] at h
    obtain rfl := Option.some.inj h
    exact V_throw (ci := 11) (X := R_ISE) d_Zip_pack_24 d_Zip_pack_27 d_Zip_pack_28 d_Zip_pack_31 rfl (by decide +kernel) k608 k609 k15 (at_ISE k617) (by decide) (by decide) (Nat.le_of_ble_eq_true rfl) (by decide) (by decide)
def f_Zip_pack (F : Nat) (v0 : Nat) (w : zW) : Option ((Int32 ⊕ Nat) × zW) := b_Zip_pack_0 F v0 w
theorem c_Zip_pack (G : zG) (F : Nat) (v0 : Nat) (w : zW) (r : ((Int32 ⊕ Nat) × zW)) (h : f_Zip_pack F v0 w = some r) : zCT G m_Zip_pack [.ref (z0 G + v0)] w (oIT (z0 G) r.1) r.2 := zCT.ofV (by decide +kernel) (Or.inl ⟨kc_Zip_pack, rfl⟩) (Nat.le_of_ble_eq_true rfl) (b_Zip_pack_0_ok G F v0 w r h)

/-! ZipArray$Unpacker.takeBits(I)I -/
def m_Unpacker_takeBits : zM := (⟨R_Unpacker, "takeBits", "(I)I"⟩, prog_8_method_3_code, 4, (some .int), [], { frames := 0, cells := 0, slots := 0, locals := 0 })
theorem k37 : Cond.fieldLink R_Unpacker 69 (T_Row 0).1 (T_Row 0).2.1 (T_Row 0).2.2.1 ∈ zTb := tb_at 37 (by decide +kernel) rfl
theorem k112 : Cond.fieldLink R_Unpacker 45 (T_Unpacker 6).1 (T_Unpacker 6).2.1 (T_Unpacker 6).2.2.1 ∈ zTb := tb_at 112 (by decide +kernel) rfl
theorem k113 : Cond.fieldLink R_Unpacker 49 (T_Unpacker 7).1 (T_Unpacker 7).2.1 (T_Unpacker 7).2.2.1 ∈ zTb := tb_at 113 (by decide +kernel) rfl
theorem kc_Unpacker_takeBits : Cond.code (mY m_Unpacker_takeBits) (mC m_Unpacker_takeBits) (mL m_Unpacker_takeBits) (mT m_Unpacker_takeBits) ∈ zTb := tb_at 475 (by decide +kernel) rfl
theorem y_Unpacker_takeBits : (mY m_Unpacker_takeBits).cls ≠ "java/lang/invoke/MethodHandle" ∧ (mY m_Unpacker_takeBits).cls ≠ "java/lang/invoke/VarHandle" ∧ (parseMethodDescriptor (mY m_Unpacker_takeBits).desc).map (fun d => d.parameters.length) = some 1 := by decide +kernel
theorem sel_Unpacker_takeBits : Cond.selects R_Unpacker (mY m_Unpacker_takeBits) (mY m_Unpacker_takeBits) ∈ zTb := sel_at (y := mY m_Unpacker_takeBits) (n := 8) 13 (by decide +kernel)
theorem d_Unpacker_takeBits_0 : decode (mC m_Unpacker_takeBits) 0 = .ok (.iload_n 1, 1) := by decide +kernel
theorem d_Unpacker_takeBits_1 : decode (mC m_Unpacker_takeBits) 1 = .ok (.aload_n 0, 1) := by decide +kernel
theorem d_Unpacker_takeBits_2 : decode (mC m_Unpacker_takeBits) 2 = .ok (.getfield 49, 3) := by decide +kernel
theorem d_Unpacker_takeBits_5 : decode (mC m_Unpacker_takeBits) 5 = .ok (.aload_n 0, 1) := by decide +kernel
theorem d_Unpacker_takeBits_6 : decode (mC m_Unpacker_takeBits) 6 = .ok (.getfield 45, 3) := by decide +kernel
theorem d_Unpacker_takeBits_9 : decode (mC m_Unpacker_takeBits) 9 = .ok (.isub, 1) := by decide +kernel
theorem d_Unpacker_takeBits_10 : decode (mC m_Unpacker_takeBits) 10 = .ok (.if_icmp .le 13, 3) := by decide +kernel
theorem d_Unpacker_takeBits_13 : decode (mC m_Unpacker_takeBits) 13 = .ok (.aload_n 0, 1) := by decide +kernel
theorem d_Unpacker_takeBits_14 : decode (mC m_Unpacker_takeBits) 14 = .ok (.aload_n 0, 1) := by decide +kernel
theorem d_Unpacker_takeBits_15 : decode (mC m_Unpacker_takeBits) 15 = .ok (.getfield 49, 3) := by decide +kernel
theorem d_Unpacker_takeBits_18 : decode (mC m_Unpacker_takeBits) 18 = .ok (.putfield 45, 3) := by decide +kernel
theorem d_Unpacker_takeBits_21 : decode (mC m_Unpacker_takeBits) 21 = .ok (.iconst (-1), 1) := by decide +kernel
theorem d_Unpacker_takeBits_22 : decode (mC m_Unpacker_takeBits) 22 = .ok (.ireturn, 1) := by decide +kernel
theorem d_Unpacker_takeBits_23 : decode (mC m_Unpacker_takeBits) 23 = .ok (.iconst 0, 1) := by decide +kernel
theorem d_Unpacker_takeBits_24 : decode (mC m_Unpacker_takeBits) 24 = .ok (.istore_n 2, 1) := by decide +kernel
theorem d_Unpacker_takeBits_25 : decode (mC m_Unpacker_takeBits) 25 = .ok (.iconst 0, 1) := by decide +kernel
theorem d_Unpacker_takeBits_26 : decode (mC m_Unpacker_takeBits) 26 = .ok (.istore_n 3, 1) := by decide +kernel
theorem d_Unpacker_takeBits_27 : decode (mC m_Unpacker_takeBits) 27 = .ok (.iload_n 3, 1) := by decide +kernel
theorem d_Unpacker_takeBits_28 : decode (mC m_Unpacker_takeBits) 28 = .ok (.iload_n 1, 1) := by decide +kernel
theorem d_Unpacker_takeBits_29 : decode (mC m_Unpacker_takeBits) 29 = .ok (.if_icmp .ge 48, 3) := by decide +kernel
theorem d_Unpacker_takeBits_32 : decode (mC m_Unpacker_takeBits) 32 = .ok (.iload_n 2, 1) := by decide +kernel
theorem d_Unpacker_takeBits_33 : decode (mC m_Unpacker_takeBits) 33 = .ok (.aload_n 0, 1) := by decide +kernel
theorem d_Unpacker_takeBits_34 : decode (mC m_Unpacker_takeBits) 34 = .ok (.getfield 15, 3) := by decide +kernel
theorem d_Unpacker_takeBits_37 : decode (mC m_Unpacker_takeBits) 37 = .ok (.getfield 69, 3) := by decide +kernel
theorem d_Unpacker_takeBits_40 : decode (mC m_Unpacker_takeBits) 40 = .ok (.aload_n 0, 1) := by decide +kernel
theorem d_Unpacker_takeBits_41 : decode (mC m_Unpacker_takeBits) 41 = .ok (.getfield 45, 3) := by decide +kernel
theorem d_Unpacker_takeBits_44 : decode (mC m_Unpacker_takeBits) 44 = .ok (.iconst 3, 1) := by decide +kernel
theorem d_Unpacker_takeBits_45 : decode (mC m_Unpacker_takeBits) 45 = .ok (.ishr, 1) := by decide +kernel
theorem d_Unpacker_takeBits_46 : decode (mC m_Unpacker_takeBits) 46 = .ok (.iaload, 1) := by decide +kernel
theorem d_Unpacker_takeBits_47 : decode (mC m_Unpacker_takeBits) 47 = .ok (.aload_n 0, 1) := by decide +kernel
theorem d_Unpacker_takeBits_48 : decode (mC m_Unpacker_takeBits) 48 = .ok (.getfield 45, 3) := by decide +kernel
theorem d_Unpacker_takeBits_51 : decode (mC m_Unpacker_takeBits) 51 = .ok (.bipush 7, 2) := by decide +kernel
theorem d_Unpacker_takeBits_53 : decode (mC m_Unpacker_takeBits) 53 = .ok (.iand, 1) := by decide +kernel
theorem d_Unpacker_takeBits_54 : decode (mC m_Unpacker_takeBits) 54 = .ok (.ishr, 1) := by decide +kernel
theorem d_Unpacker_takeBits_55 : decode (mC m_Unpacker_takeBits) 55 = .ok (.iconst 1, 1) := by decide +kernel
theorem d_Unpacker_takeBits_56 : decode (mC m_Unpacker_takeBits) 56 = .ok (.iand, 1) := by decide +kernel
theorem d_Unpacker_takeBits_57 : decode (mC m_Unpacker_takeBits) 57 = .ok (.iload_n 3, 1) := by decide +kernel
theorem d_Unpacker_takeBits_58 : decode (mC m_Unpacker_takeBits) 58 = .ok (.ishl, 1) := by decide +kernel
theorem d_Unpacker_takeBits_59 : decode (mC m_Unpacker_takeBits) 59 = .ok (.ior, 1) := by decide +kernel
theorem d_Unpacker_takeBits_60 : decode (mC m_Unpacker_takeBits) 60 = .ok (.istore_n 2, 1) := by decide +kernel
theorem d_Unpacker_takeBits_61 : decode (mC m_Unpacker_takeBits) 61 = .ok (.aload_n 0, 1) := by decide +kernel
theorem d_Unpacker_takeBits_62 : decode (mC m_Unpacker_takeBits) 62 = .ok (.dup, 1) := by decide +kernel
theorem d_Unpacker_takeBits_63 : decode (mC m_Unpacker_takeBits) 63 = .ok (.getfield 45, 3) := by decide +kernel
theorem d_Unpacker_takeBits_66 : decode (mC m_Unpacker_takeBits) 66 = .ok (.iconst 1, 1) := by decide +kernel
theorem d_Unpacker_takeBits_67 : decode (mC m_Unpacker_takeBits) 67 = .ok (.iadd, 1) := by decide +kernel
theorem d_Unpacker_takeBits_68 : decode (mC m_Unpacker_takeBits) 68 = .ok (.putfield 45, 3) := by decide +kernel
theorem d_Unpacker_takeBits_71 : decode (mC m_Unpacker_takeBits) 71 = .ok (.iinc 3 1, 3) := by decide +kernel
theorem d_Unpacker_takeBits_74 : decode (mC m_Unpacker_takeBits) 74 = .ok (.goto (-47), 3) := by decide +kernel
theorem d_Unpacker_takeBits_77 : decode (mC m_Unpacker_takeBits) 77 = .ok (.iload_n 2, 1) := by decide +kernel
theorem d_Unpacker_takeBits_78 : decode (mC m_Unpacker_takeBits) 78 = .ok (.ireturn, 1) := by decide +kernel
def b_Unpacker_takeBits_27 (F : Nat) (K27 : Nat → Int32 → Int32 → Int32 → zW → Option (Int32 × zW)) (v0 : Nat) (v1 : Int32) (v2 : Int32) (v3 : Int32) (w : zW) : Option (Int32 × zW) := if v1 ≤ v3 then (some (v2, w)) else ((getR w v0 5 5).bind fun x34 => (getR w x34 0 0).bind fun x37 => (getI w v0 5 6).bind fun x41 => (aget w x37 (x41 >>> ((3 : Int32) &&& 31))).bind fun x46 => (getI w v0 5 6).bind fun x48 => (getI w v0 5 6).bind fun x63 => (putI w v0 5 6 (x63 + (1 : Int32))).bind fun w68 => K27 v0 v1 (v2 ||| (((x46 >>> ((x48 &&& (7 : Int32)) &&& 31)) &&& (1 : Int32)) <<< (v3 &&& 31))) (v3 + (1 : Int32)) w68)
set_option maxRecDepth 100000 in
set_option maxHeartbeats 4000000 in
theorem b_Unpacker_takeBits_27_ok (G : zG) (F : Nat) (K27 : Nat → Int32 → Int32 → Int32 → zW → Option (Int32 × zW)) (hK27 : ∀ (v0 : Nat) (v1 : Int32) (v2 : Int32) (v3 : Int32) (w : zW) (r : (Int32 × zW)), K27 v0 v1 v2 v3 w = some r → zV G m_Unpacker_takeBits 27 [(0, .ref (z0 G + v0)), (1, .int v1), (2, .int v2), (3, .int v3)] [] w 0 0 (oI r.1) r.2) (v0 : Nat) (v1 : Int32) (v2 : Int32) (v3 : Int32) (w : zW) (r : (Int32 × zW)) (h : b_Unpacker_takeBits_27 F K27 v0 v1 v2 v3 w = some r) : zV G m_Unpacker_takeBits 27 [(0, .ref (z0 G + v0)), (1, .int v1), (2, .int v2), (3, .int v3)] [] w 0 0 (oI r.1) r.2 := by
  unfold b_Unpacker_takeBits_27 at h
  refine V_iload_n (i := 3) d_Unpacker_takeBits_27 rfl 3 rfl ?_
  refine V_iload_n (i := 1) d_Unpacker_takeBits_28 rfl 1 rfl ?_
  refine V_icmp_ge (tgt := 77) d_Unpacker_takeBits_29 (by decide) (fun c29 => ?_) (fun c29 => ?_)
  · rw [if_pos c29] at h
    refine V_iload_n (i := 2) d_Unpacker_takeBits_77 rfl 2 rfl ?_
    obtain rfl := Option.some.inj h
    exact V_iret rfl (by decide) (by decide) d_Unpacker_takeBits_78
  · rw [if_neg c29] at h
    refine V_iload_n (i := 2) d_Unpacker_takeBits_32 rfl 2 rfl ?_
    refine V_aload_n (i := 0) d_Unpacker_takeBits_33 rfl 0 rfl ?_
    obtain ⟨x34, e34, h⟩ := ob h
    refine V_getR (ci := 5) (k := 5) d_Unpacker_takeBits_34 e34 rfl (by decide) in_Unpacker k111 ?_
    obtain ⟨x37, e37, h⟩ := ob h
    refine V_getR (ci := 0) (k := 0) d_Unpacker_takeBits_37 e37 rfl (by decide) in_Row k37 ?_
    refine V_aload_n (i := 0) d_Unpacker_takeBits_40 rfl 0 rfl ?_
    obtain ⟨x41, e41, h⟩ := ob h
    refine V_getI (ci := 5) (k := 6) d_Unpacker_takeBits_41 e41 rfl (by decide) in_Unpacker k112 ?_
    refine V_iconst (v := 3) d_Unpacker_takeBits_44 (by decide) ?_
    refine V_ishr d_Unpacker_takeBits_45 ?_
    obtain ⟨x46, e46, h⟩ := ob h
    refine V_aget d_Unpacker_takeBits_46 e46 ?_
    refine V_aload_n (i := 0) d_Unpacker_takeBits_47 rfl 0 rfl ?_
    obtain ⟨x48, e48, h⟩ := ob h
    refine V_getI (ci := 5) (k := 6) d_Unpacker_takeBits_48 e48 rfl (by decide) in_Unpacker k112 ?_
    refine V_bipush (v := 7) d_Unpacker_takeBits_51 (by decide) ?_
    refine V_iand d_Unpacker_takeBits_53 ?_
    refine V_ishr d_Unpacker_takeBits_54 ?_
    refine V_iconst (v := 1) d_Unpacker_takeBits_55 (by decide) ?_
    refine V_iand d_Unpacker_takeBits_56 ?_
    refine V_iload_n (i := 3) d_Unpacker_takeBits_57 rfl 3 rfl ?_
    refine V_ishl d_Unpacker_takeBits_58 ?_
    refine V_ior d_Unpacker_takeBits_59 ?_
    refine V_istore_n (i := 2) d_Unpacker_takeBits_60 rfl (by decide) rfl ?_
    refine V_aload_n (i := 0) d_Unpacker_takeBits_61 rfl 1 rfl ?_
    refine V_dup rfl d_Unpacker_takeBits_62 ?_
    obtain ⟨x63, e63, h⟩ := ob h
    refine V_getI (ci := 5) (k := 6) d_Unpacker_takeBits_63 e63 rfl (by decide) in_Unpacker k112 ?_
    refine V_iconst (v := 1) d_Unpacker_takeBits_66 (by decide) ?_
    refine V_iadd d_Unpacker_takeBits_67 ?_
    obtain ⟨w68, e68, h⟩ := ob h
    refine V_putI (ci := 5) (k := 6) t_Unpacker d_Unpacker_takeBits_68 e68 rfl (by decide) in_Unpacker k112 ty_Unpacker nm_Unpacker rfl (Or.inl rfl) ?_
    refine V_iinc (i := 3) (v := (v3 + (1 : Int32))) d_Unpacker_takeBits_71 3 rfl (congrArg (fun y => v3 + y) (by decide : Int32.ofInt (1) = (1 : Int32))) (by decide) rfl ?_
    refine V_goto (tgt := 27) d_Unpacker_takeBits_74 (by decide) ?_
    refine V_lv [2, 3, 1, 0] rfl ?_
    exact hK27 v0 v1 (v2 ||| (((x46 >>> ((x48 &&& (7 : Int32)) &&& 31)) &&& (1 : Int32)) <<< (v3 &&& 31))) (v3 + (1 : Int32)) w68 _ h
def l_Unpacker_takeBits_27 (F : Nat) : Nat → Nat → Int32 → Int32 → Int32 → zW → Option (Int32 × zW)
  | 0 => fun _ _ _ _ _ => none
  | n + 1 => b_Unpacker_takeBits_27 F (l_Unpacker_takeBits_27 F n)
theorem l_Unpacker_takeBits_27_ok (G : zG) (F : Nat) (n : Nat) :  ∀ (v0 : Nat) (v1 : Int32) (v2 : Int32) (v3 : Int32) (w : zW) (r : (Int32 × zW)), l_Unpacker_takeBits_27 F n v0 v1 v2 v3 w = some r → zV G m_Unpacker_takeBits 27 [(0, .ref (z0 G + v0)), (1, .int v1), (2, .int v2), (3, .int v3)] [] w 0 0 (oI r.1) r.2 := by
  induction n with
  | zero => intro v0 v1 v2 v3 w r h; exact nomatch (show (none : Option (Int32 × zW)) = some r from h)
  | succ n ih => intro v0 v1 v2 v3 w r h; exact b_Unpacker_takeBits_27_ok G F (l_Unpacker_takeBits_27 F n) ih v0 v1 v2 v3 w r h
def b_Unpacker_takeBits_0 (F : Nat) (v0 : Nat) (v1 : Int32) (w : zW) : Option (Int32 × zW) := (getI w v0 5 7).bind fun x2 => (getI w v0 5 6).bind fun x6 => if v1 ≤ (x2 - x6) then (l_Unpacker_takeBits_27 F F v0 v1 (0 : Int32) (0 : Int32) w) else ((getI w v0 5 7).bind fun x15 => (putI w v0 5 6 x15).bind fun w18 => some ((-1 : Int32), w18))
set_option maxRecDepth 100000 in
set_option maxHeartbeats 4000000 in
theorem b_Unpacker_takeBits_0_ok (G : zG) (F : Nat) (v0 : Nat) (v1 : Int32) (w : zW) (r : (Int32 × zW)) (h : b_Unpacker_takeBits_0 F v0 v1 w = some r) : zV G m_Unpacker_takeBits 0 [(0, .ref (z0 G + v0)), (1, .int v1)] [] w 0 0 (oI r.1) r.2 := by
  unfold b_Unpacker_takeBits_0 at h
  refine V_iload_n (i := 1) d_Unpacker_takeBits_0 rfl 1 rfl ?_
  refine V_aload_n (i := 0) d_Unpacker_takeBits_1 rfl 0 rfl ?_
  obtain ⟨x2, e2, h⟩ := ob h
  refine V_getI (ci := 5) (k := 7) d_Unpacker_takeBits_2 e2 rfl (by decide) in_Unpacker k113 ?_
  refine V_aload_n (i := 0) d_Unpacker_takeBits_5 rfl 0 rfl ?_
  obtain ⟨x6, e6, h⟩ := ob h
  refine V_getI (ci := 5) (k := 6) d_Unpacker_takeBits_6 e6 rfl (by decide) in_Unpacker k112 ?_
  refine V_isub d_Unpacker_takeBits_9 ?_
  refine V_icmp_le (tgt := 23) d_Unpacker_takeBits_10 (by decide) (fun c10 => ?_) (fun c10 => ?_)
  · rw [if_pos c10] at h
    refine V_iconst (v := 0) d_Unpacker_takeBits_23 (by decide) ?_
    refine V_istore_n (i := 2) d_Unpacker_takeBits_24 rfl (by decide) rfl ?_
    refine V_iconst (v := 0) d_Unpacker_takeBits_25 (by decide) ?_
    refine V_istore_n (i := 3) d_Unpacker_takeBits_26 rfl (by decide) rfl ?_
    refine V_lv [2, 3, 1, 0] rfl ?_
    exact l_Unpacker_takeBits_27_ok G F F v0 v1 (0 : Int32) (0 : Int32) w _ h
  · rw [if_neg c10] at h
    refine V_aload_n (i := 0) d_Unpacker_takeBits_13 rfl 0 rfl ?_
    refine V_aload_n (i := 0) d_Unpacker_takeBits_14 rfl 0 rfl ?_
    obtain ⟨x15, e15, h⟩ := ob h
    refine V_getI (ci := 5) (k := 7) d_Unpacker_takeBits_15 e15 rfl (by decide) in_Unpacker k113 ?_
    obtain ⟨w18, e18, h⟩ := ob h
    refine V_putI (ci := 5) (k := 6) t_Unpacker d_Unpacker_takeBits_18 e18 rfl (by decide) in_Unpacker k112 ty_Unpacker nm_Unpacker rfl (Or.inl rfl) ?_
    refine V_iconst (v := -1) d_Unpacker_takeBits_21 (by decide) ?_
    obtain rfl := Option.some.inj h
    exact V_iret rfl (by decide) (by decide) d_Unpacker_takeBits_22
def f_Unpacker_takeBits (F : Nat) (v0 : Nat) (v1 : Int32) (w : zW) : Option (Int32 × zW) := b_Unpacker_takeBits_0 F v0 v1 w
theorem c_Unpacker_takeBits (G : zG) (F : Nat) (v0 : Nat) (v1 : Int32) (w : zW) (r : (Int32 × zW)) (h : f_Unpacker_takeBits F v0 v1 w = some r) : zCT G m_Unpacker_takeBits [.ref (z0 G + v0), .int v1] w (oI r.1) r.2 := zCT.ofV (by decide +kernel) (Or.inl ⟨kc_Unpacker_takeBits, rfl⟩) (Nat.le_of_ble_eq_true rfl) (b_Unpacker_takeBits_0_ok G F v0 v1 w r h)

/-! ZipArray$Unpacker.plainBlock()Z -/
def m_Unpacker_plainBlock : zM := (⟨R_Unpacker, "plainBlock", "()Z"⟩, prog_8_method_5_code, 3, (some .boolean), [], { frames := 2, cells := 0, slots := 0, locals := 51 })
theorem k48 : Cond.fieldLink R_Unpacker 83 (T_Row 2).1 (T_Row 2).2.1 (T_Row 2).2.2.1 ∈ zTb := tb_at 48 (by decide +kernel) rfl
theorem k472 : Cond.methodLink R_Unpacker 52 (mY m_Unpacker_takeBits) ∈ zTb := tb_at 472 (by decide +kernel) rfl
theorem k474 : Cond.instanceMethod (mY m_Unpacker_takeBits) ∈ zTb := tb_at 474 (by decide +kernel) rfl
theorem k480 : Cond.constant R_Unpacker 78 65535 ∈ zTb := tb_at 480 (by decide +kernel) rfl
theorem k481 : Cond.methodLink R_Unpacker 79 (mY m_Row_appendPart) ∈ zTb := tb_at 481 (by decide +kernel) rfl
theorem kc_Unpacker_plainBlock : Cond.code (mY m_Unpacker_plainBlock) (mC m_Unpacker_plainBlock) (mL m_Unpacker_plainBlock) (mT m_Unpacker_plainBlock) ∈ zTb := tb_at 479 (by decide +kernel) rfl
theorem y_Unpacker_plainBlock : (mY m_Unpacker_plainBlock).cls ≠ "java/lang/invoke/MethodHandle" ∧ (mY m_Unpacker_plainBlock).cls ≠ "java/lang/invoke/VarHandle" ∧ (parseMethodDescriptor (mY m_Unpacker_plainBlock).desc).map (fun d => d.parameters.length) = some 0 := by decide +kernel
theorem sel_Unpacker_plainBlock : Cond.selects R_Unpacker (mY m_Unpacker_plainBlock) (mY m_Unpacker_plainBlock) ∈ zTb := sel_at (y := mY m_Unpacker_plainBlock) (n := 8) 14 (by decide +kernel)
theorem d_Unpacker_plainBlock_0 : decode (mC m_Unpacker_plainBlock) 0 = .ok (.aload_n 0, 1) := by decide +kernel
theorem d_Unpacker_plainBlock_1 : decode (mC m_Unpacker_plainBlock) 1 = .ok (.aload_n 0, 1) := by decide +kernel
theorem d_Unpacker_plainBlock_2 : decode (mC m_Unpacker_plainBlock) 2 = .ok (.getfield 45, 3) := by decide +kernel
theorem d_Unpacker_plainBlock_5 : decode (mC m_Unpacker_plainBlock) 5 = .ok (.bipush 7, 2) := by decide +kernel
theorem d_Unpacker_plainBlock_7 : decode (mC m_Unpacker_plainBlock) 7 = .ok (.iadd, 1) := by decide +kernel
theorem d_Unpacker_plainBlock_8 : decode (mC m_Unpacker_plainBlock) 8 = .ok (.iconst 3, 1) := by decide +kernel
theorem d_Unpacker_plainBlock_9 : decode (mC m_Unpacker_plainBlock) 9 = .ok (.ishr, 1) := by decide +kernel
theorem d_Unpacker_plainBlock_10 : decode (mC m_Unpacker_plainBlock) 10 = .ok (.iconst 3, 1) := by decide +kernel
theorem d_Unpacker_plainBlock_11 : decode (mC m_Unpacker_plainBlock) 11 = .ok (.ishl, 1) := by decide +kernel
theorem d_Unpacker_plainBlock_12 : decode (mC m_Unpacker_plainBlock) 12 = .ok (.putfield 45, 3) := by decide +kernel
theorem d_Unpacker_plainBlock_15 : decode (mC m_Unpacker_plainBlock) 15 = .ok (.aload_n 0, 1) := by decide +kernel
theorem d_Unpacker_plainBlock_16 : decode (mC m_Unpacker_plainBlock) 16 = .ok (.bipush 16, 2) := by decide +kernel
theorem d_Unpacker_plainBlock_18 : decode (mC m_Unpacker_plainBlock) 18 = .ok (.invokevirtual 52, 3) := by decide +kernel
theorem d_Unpacker_plainBlock_21 : decode (mC m_Unpacker_plainBlock) 21 = .ok (.istore_n 1, 1) := by decide +kernel
theorem d_Unpacker_plainBlock_22 : decode (mC m_Unpacker_plainBlock) 22 = .ok (.aload_n 0, 1) := by decide +kernel
theorem d_Unpacker_plainBlock_23 : decode (mC m_Unpacker_plainBlock) 23 = .ok (.bipush 16, 2) := by decide +kernel
theorem d_Unpacker_plainBlock_25 : decode (mC m_Unpacker_plainBlock) 25 = .ok (.invokevirtual 52, 3) := by decide +kernel
theorem d_Unpacker_plainBlock_28 : decode (mC m_Unpacker_plainBlock) 28 = .ok (.istore_n 2, 1) := by decide +kernel
theorem d_Unpacker_plainBlock_29 : decode (mC m_Unpacker_plainBlock) 29 = .ok (.iload_n 1, 1) := by decide +kernel
theorem d_Unpacker_plainBlock_30 : decode (mC m_Unpacker_plainBlock) 30 = .ok (.iconst (-1), 1) := by decide +kernel
theorem d_Unpacker_plainBlock_31 : decode (mC m_Unpacker_plainBlock) 31 = .ok (.if_icmp .eq 27, 3) := by decide +kernel
theorem d_Unpacker_plainBlock_34 : decode (mC m_Unpacker_plainBlock) 34 = .ok (.iload_n 2, 1) := by decide +kernel
theorem d_Unpacker_plainBlock_35 : decode (mC m_Unpacker_plainBlock) 35 = .ok (.ldc 78, 2) := by decide +kernel
theorem d_Unpacker_plainBlock_37 : decode (mC m_Unpacker_plainBlock) 37 = .ok (.iload_n 1, 1) := by decide +kernel
theorem d_Unpacker_plainBlock_38 : decode (mC m_Unpacker_plainBlock) 38 = .ok (.isub, 1) := by decide +kernel
theorem d_Unpacker_plainBlock_39 : decode (mC m_Unpacker_plainBlock) 39 = .ok (.if_icmp .ne 19, 3) := by decide +kernel
theorem d_Unpacker_plainBlock_42 : decode (mC m_Unpacker_plainBlock) 42 = .ok (.iload_n 1, 1) := by decide +kernel
theorem d_Unpacker_plainBlock_43 : decode (mC m_Unpacker_plainBlock) 43 = .ok (.aload_n 0, 1) := by decide +kernel
theorem d_Unpacker_plainBlock_44 : decode (mC m_Unpacker_plainBlock) 44 = .ok (.getfield 49, 3) := by decide +kernel
theorem d_Unpacker_plainBlock_47 : decode (mC m_Unpacker_plainBlock) 47 = .ok (.aload_n 0, 1) := by decide +kernel
theorem d_Unpacker_plainBlock_48 : decode (mC m_Unpacker_plainBlock) 48 = .ok (.getfield 45, 3) := by decide +kernel
theorem d_Unpacker_plainBlock_51 : decode (mC m_Unpacker_plainBlock) 51 = .ok (.isub, 1) := by decide +kernel
theorem d_Unpacker_plainBlock_52 : decode (mC m_Unpacker_plainBlock) 52 = .ok (.bipush 8, 2) := by decide +kernel
theorem d_Unpacker_plainBlock_54 : decode (mC m_Unpacker_plainBlock) 54 = .ok (.idiv, 1) := by decide +kernel
theorem d_Unpacker_plainBlock_55 : decode (mC m_Unpacker_plainBlock) 55 = .ok (.if_icmp .le 5, 3) := by decide +kernel
theorem d_Unpacker_plainBlock_58 : decode (mC m_Unpacker_plainBlock) 58 = .ok (.iconst 0, 1) := by decide +kernel
theorem d_Unpacker_plainBlock_59 : decode (mC m_Unpacker_plainBlock) 59 = .ok (.ireturn, 1) := by decide +kernel
theorem d_Unpacker_plainBlock_60 : decode (mC m_Unpacker_plainBlock) 60 = .ok (.aload_n 0, 1) := by decide +kernel
theorem d_Unpacker_plainBlock_61 : decode (mC m_Unpacker_plainBlock) 61 = .ok (.getfield 9, 3) := by decide +kernel
theorem d_Unpacker_plainBlock_64 : decode (mC m_Unpacker_plainBlock) 64 = .ok (.aload_n 0, 1) := by decide +kernel
theorem d_Unpacker_plainBlock_65 : decode (mC m_Unpacker_plainBlock) 65 = .ok (.getfield 15, 3) := by decide +kernel
theorem d_Unpacker_plainBlock_68 : decode (mC m_Unpacker_plainBlock) 68 = .ok (.aload_n 0, 1) := by decide +kernel
theorem d_Unpacker_plainBlock_69 : decode (mC m_Unpacker_plainBlock) 69 = .ok (.getfield 45, 3) := by decide +kernel
theorem d_Unpacker_plainBlock_72 : decode (mC m_Unpacker_plainBlock) 72 = .ok (.bipush 8, 2) := by decide +kernel
theorem d_Unpacker_plainBlock_74 : decode (mC m_Unpacker_plainBlock) 74 = .ok (.idiv, 1) := by decide +kernel
theorem d_Unpacker_plainBlock_75 : decode (mC m_Unpacker_plainBlock) 75 = .ok (.aload_n 0, 1) := by decide +kernel
theorem d_Unpacker_plainBlock_76 : decode (mC m_Unpacker_plainBlock) 76 = .ok (.getfield 45, 3) := by decide +kernel
theorem d_Unpacker_plainBlock_79 : decode (mC m_Unpacker_plainBlock) 79 = .ok (.bipush 8, 2) := by decide +kernel
theorem d_Unpacker_plainBlock_81 : decode (mC m_Unpacker_plainBlock) 81 = .ok (.idiv, 1) := by decide +kernel
theorem d_Unpacker_plainBlock_82 : decode (mC m_Unpacker_plainBlock) 82 = .ok (.iload_n 1, 1) := by decide +kernel
theorem d_Unpacker_plainBlock_83 : decode (mC m_Unpacker_plainBlock) 83 = .ok (.iadd, 1) := by decide +kernel
theorem d_Unpacker_plainBlock_84 : decode (mC m_Unpacker_plainBlock) 84 = .ok (.invokevirtual 79, 3) := by decide +kernel
theorem d_Unpacker_plainBlock_87 : decode (mC m_Unpacker_plainBlock) 87 = .ok (.aload_n 0, 1) := by decide +kernel
theorem d_Unpacker_plainBlock_88 : decode (mC m_Unpacker_plainBlock) 88 = .ok (.dup, 1) := by decide +kernel
theorem d_Unpacker_plainBlock_89 : decode (mC m_Unpacker_plainBlock) 89 = .ok (.getfield 45, 3) := by decide +kernel
theorem d_Unpacker_plainBlock_92 : decode (mC m_Unpacker_plainBlock) 92 = .ok (.bipush 8, 2) := by decide +kernel
theorem d_Unpacker_plainBlock_94 : decode (mC m_Unpacker_plainBlock) 94 = .ok (.iload_n 1, 1) := by decide +kernel
theorem d_Unpacker_plainBlock_95 : decode (mC m_Unpacker_plainBlock) 95 = .ok (.imul, 1) := by decide +kernel
theorem d_Unpacker_plainBlock_96 : decode (mC m_Unpacker_plainBlock) 96 = .ok (.iadd, 1) := by decide +kernel
theorem d_Unpacker_plainBlock_97 : decode (mC m_Unpacker_plainBlock) 97 = .ok (.putfield 45, 3) := by decide +kernel
theorem d_Unpacker_plainBlock_100 : decode (mC m_Unpacker_plainBlock) 100 = .ok (.aload_n 0, 1) := by decide +kernel
theorem d_Unpacker_plainBlock_101 : decode (mC m_Unpacker_plainBlock) 101 = .ok (.getfield 9, 3) := by decide +kernel
theorem d_Unpacker_plainBlock_104 : decode (mC m_Unpacker_plainBlock) 104 = .ok (.getfield 83, 3) := by decide +kernel
theorem d_Unpacker_plainBlock_107 : decode (mC m_Unpacker_plainBlock) 107 = .ok (.ifCond .ne 7, 3) := by decide +kernel
theorem d_Unpacker_plainBlock_110 : decode (mC m_Unpacker_plainBlock) 110 = .ok (.iconst 1, 1) := by decide +kernel
theorem d_Unpacker_plainBlock_111 : decode (mC m_Unpacker_plainBlock) 111 = .ok (.goto 4, 3) := by decide +kernel
theorem d_Unpacker_plainBlock_114 : decode (mC m_Unpacker_plainBlock) 114 = .ok (.iconst 0, 1) := by decide +kernel
theorem d_Unpacker_plainBlock_115 : decode (mC m_Unpacker_plainBlock) 115 = .ok (.ireturn, 1) := by decide +kernel
def b_Unpacker_plainBlock_58 (F : Nat) (w : zW) : Option (Int32 × zW) := some ((0 : Int32), w)
set_option maxRecDepth 100000 in
set_option maxHeartbeats 4000000 in
theorem b_Unpacker_plainBlock_58_ok (G : zG) (F : Nat) (w : zW) (r : (Int32 × zW)) (h : b_Unpacker_plainBlock_58 F w = some r) : zV G m_Unpacker_plainBlock 58 [] [] w 0 0 (oI r.1) r.2 := by
  unfold b_Unpacker_plainBlock_58 at h
  refine V_iconst (v := 0) d_Unpacker_plainBlock_58 (by decide) ?_
  obtain rfl := Option.some.inj h
  exact V_zret rfl (Or.inl rfl) (by decide) (by decide) d_Unpacker_plainBlock_59
def b_Unpacker_plainBlock_0 (F : Nat) (v0 : Nat) (w : zW) : Option (Int32 × zW) := (getI w v0 5 6).bind fun x2 => (putI w v0 5 6 (((x2 + (7 : Int32)) >>> ((3 : Int32) &&& 31)) <<< ((3 : Int32) &&& 31))).bind fun w12 => (zobj w12 v0 5).bind fun _ => (f_Unpacker_takeBits F v0 (16 : Int32) w12).bind fun r18 => (zobj r18.2 v0 5).bind fun _ => (f_Unpacker_takeBits F v0 (16 : Int32) r18.2).bind fun r25 => if r18.1 = (-1 : Int32) then (b_Unpacker_plainBlock_58 F r25.2) else (if r25.1 = ((65535 : Int32) - r18.1) then ((getI r25.2 v0 5 7).bind fun x44 => (getI r25.2 v0 5 6).bind fun x48 => if r18.1 ≤ ((x44 - x48) / (8 : Int32)) then ((getR r25.2 v0 5 0).bind fun x61 => (getR r25.2 v0 5 5).bind fun x65 => (getI r25.2 v0 5 6).bind fun x69 => (getI r25.2 v0 5 6).bind fun x76 => (zobj r25.2 x61 0).bind fun _ => (f_Row_appendPart F x61 x65 (x69 / (8 : Int32)) ((x76 / (8 : Int32)) + r18.1) r25.2).bind fun r84 => (getI r84.2 v0 5 6).bind fun x89 => (putI r84.2 v0 5 6 (x89 + ((8 : Int32) * r18.1))).bind fun w97 => (getR w97 v0 5 0).bind fun x101 => (getI w97 x101 0 2).bind fun x104 => if x104 = 0 then (some ((1 : Int32), w97)) else (some ((0 : Int32), w97))) else (b_Unpacker_plainBlock_58 F r25.2)) else (b_Unpacker_plainBlock_58 F r25.2))
set_option maxRecDepth 100000 in
set_option maxHeartbeats 4000000 in
theorem b_Unpacker_plainBlock_0_ok (G : zG) (F : Nat) (v0 : Nat) (w : zW) (r : (Int32 × zW)) (h : b_Unpacker_plainBlock_0 F v0 w = some r) : zV G m_Unpacker_plainBlock 0 [(0, .ref (z0 G + v0))] [] w 0 0 (oI r.1) r.2 := by
  unfold b_Unpacker_plainBlock_0 at h
  refine V_aload_n (i := 0) d_Unpacker_plainBlock_0 rfl 0 rfl ?_
  refine V_aload_n (i := 0) d_Unpacker_plainBlock_1 rfl 0 rfl ?_
  obtain ⟨x2, e2, h⟩ := ob h
  refine V_getI (ci := 5) (k := 6) d_Unpacker_plainBlock_2 e2 rfl (by decide) in_Unpacker k112 ?_
  refine V_bipush (v := 7) d_Unpacker_plainBlock_5 (by decide) ?_
  refine V_iadd d_Unpacker_plainBlock_7 ?_
  refine V_iconst (v := 3) d_Unpacker_plainBlock_8 (by decide) ?_
  refine V_ishr d_Unpacker_plainBlock_9 ?_
  refine V_iconst (v := 3) d_Unpacker_plainBlock_10 (by decide) ?_
  refine V_ishl d_Unpacker_plainBlock_11 ?_
  obtain ⟨w12, e12, h⟩ := ob h
  refine V_putI (ci := 5) (k := 6) t_Unpacker d_Unpacker_plainBlock_12 e12 rfl (by decide) in_Unpacker k112 ty_Unpacker nm_Unpacker rfl (Or.inl rfl) ?_
  refine V_aload_n (i := 0) d_Unpacker_plainBlock_15 rfl 0 rfl ?_
  refine V_bipush (v := 16) d_Unpacker_plainBlock_16 (by decide) ?_
  obtain ⟨_, eo18, h⟩ := ob h
  obtain ⟨r18, e18, h⟩ := ob h
  refine V_call (v := some (.int r18.1)) (st := []) (inv_V (N := m_Unpacker_takeBits) (As := [.int (16 : Int32)]) (ci := 5) d_Unpacker_plainBlock_18 eo18 rfl k472 k474 sel_Unpacker_takeBits kc_Unpacker_takeBits y_Unpacker_takeBits) ⟨Or.inl kc_Unpacker_takeBits, k4, by decide, by decide⟩ (Nat.le_of_ble_eq_true rfl) (by decide) (by decide) (c_Unpacker_takeBits G F v0 (16 : Int32) w12 r18 e18) ?_
  refine V_istore_n (i := 1) d_Unpacker_plainBlock_21 rfl (by decide) rfl ?_
  refine V_aload_n (i := 0) d_Unpacker_plainBlock_22 rfl 1 rfl ?_
  refine V_bipush (v := 16) d_Unpacker_plainBlock_23 (by decide) ?_
  obtain ⟨_, eo25, h⟩ := ob h
  obtain ⟨r25, e25, h⟩ := ob h
  refine V_call (v := some (.int r25.1)) (st := []) (inv_V (N := m_Unpacker_takeBits) (As := [.int (16 : Int32)]) (ci := 5) d_Unpacker_plainBlock_25 eo25 rfl k472 k474 sel_Unpacker_takeBits kc_Unpacker_takeBits y_Unpacker_takeBits) ⟨Or.inl kc_Unpacker_takeBits, k4, by decide, by decide⟩ (Nat.le_of_ble_eq_true rfl) (by decide) (by decide) (c_Unpacker_takeBits G F v0 (16 : Int32) r18.2 r25 e25) ?_
  refine V_istore_n (i := 2) d_Unpacker_plainBlock_28 rfl (by decide) rfl ?_
  refine V_iload_n (i := 1) d_Unpacker_plainBlock_29 rfl 1 rfl ?_
  refine V_iconst (v := -1) d_Unpacker_plainBlock_30 (by decide) ?_
  refine V_icmp_eq (tgt := 58) d_Unpacker_plainBlock_31 (by decide) (fun c31 => ?_) (fun c31 => ?_)
  · rw [if_pos c31] at h
    refine V_lv [] rfl ?_
    exact b_Unpacker_plainBlock_58_ok G F r25.2 _ h
  · rw [if_neg c31] at h
    refine V_iload_n (i := 2) d_Unpacker_plainBlock_34 rfl 0 rfl ?_
    refine V_ldc (v := 65535) d_Unpacker_plainBlock_35 k480 ?_
    refine V_iload_n (i := 1) d_Unpacker_plainBlock_37 rfl 1 rfl ?_
    refine V_isub d_Unpacker_plainBlock_38 ?_
    refine V_icmp_ne (tgt := 58) d_Unpacker_plainBlock_39 (by decide) (fun c39 => ?_) (fun c39 => ?_)
    · rw [if_neg c39] at h
      refine V_lv [] rfl ?_
      exact b_Unpacker_plainBlock_58_ok G F r25.2 _ h
    · rw [if_pos c39] at h
      refine V_iload_n (i := 1) d_Unpacker_plainBlock_42 rfl 1 rfl ?_
      refine V_aload_n (i := 0) d_Unpacker_plainBlock_43 rfl 2 rfl ?_
      obtain ⟨x44, e44, h⟩ := ob h
      refine V_getI (ci := 5) (k := 7) d_Unpacker_plainBlock_44 e44 rfl (by decide) in_Unpacker k113 ?_
      refine V_aload_n (i := 0) d_Unpacker_plainBlock_47 rfl 2 rfl ?_
      obtain ⟨x48, e48, h⟩ := ob h
      refine V_getI (ci := 5) (k := 6) d_Unpacker_plainBlock_48 e48 rfl (by decide) in_Unpacker k112 ?_
      refine V_isub d_Unpacker_plainBlock_51 ?_
      refine V_bipush (v := 8) d_Unpacker_plainBlock_52 (by decide) ?_
      refine V_idiv (by decide) d_Unpacker_plainBlock_54 ?_
      refine V_icmp_le (tgt := 60) d_Unpacker_plainBlock_55 (by decide) (fun c55 => ?_) (fun c55 => ?_)
      · rw [if_pos c55] at h
        refine V_aload_n (i := 0) d_Unpacker_plainBlock_60 rfl 2 rfl ?_
        obtain ⟨x61, e61, h⟩ := ob h
        refine V_getR (ci := 5) (k := 0) d_Unpacker_plainBlock_61 e61 rfl (by decide) in_Unpacker k106 ?_
        refine V_aload_n (i := 0) d_Unpacker_plainBlock_64 rfl 2 rfl ?_
        obtain ⟨x65, e65, h⟩ := ob h
        refine V_getR (ci := 5) (k := 5) d_Unpacker_plainBlock_65 e65 rfl (by decide) in_Unpacker k111 ?_
        refine V_aload_n (i := 0) d_Unpacker_plainBlock_68 rfl 2 rfl ?_
        obtain ⟨x69, e69, h⟩ := ob h
        refine V_getI (ci := 5) (k := 6) d_Unpacker_plainBlock_69 e69 rfl (by decide) in_Unpacker k112 ?_
        refine V_bipush (v := 8) d_Unpacker_plainBlock_72 (by decide) ?_
        refine V_idiv (by decide) d_Unpacker_plainBlock_74 ?_
        refine V_aload_n (i := 0) d_Unpacker_plainBlock_75 rfl 2 rfl ?_
        obtain ⟨x76, e76, h⟩ := ob h
        refine V_getI (ci := 5) (k := 6) d_Unpacker_plainBlock_76 e76 rfl (by decide) in_Unpacker k112 ?_
        refine V_bipush (v := 8) d_Unpacker_plainBlock_79 (by decide) ?_
        refine V_idiv (by decide) d_Unpacker_plainBlock_81 ?_
        refine V_iload_n (i := 1) d_Unpacker_plainBlock_82 rfl 1 rfl ?_
        refine V_iadd d_Unpacker_plainBlock_83 ?_
        obtain ⟨_, eo84, h⟩ := ob h
        obtain ⟨r84, e84, h⟩ := ob h
        refine V_call (v := none) (st := []) (inv_V (N := m_Row_appendPart) (As := [.ref (z0 G + x65), .int (x69 / (8 : Int32)), .int ((x76 / (8 : Int32)) + r18.1)]) (ci := 0) d_Unpacker_plainBlock_84 eo84 rfl k481 k314 k315 kc_Row_appendPart y_Row_appendPart) ⟨Or.inl kc_Row_appendPart, k2, by decide, by decide⟩ (Nat.le_of_ble_eq_true rfl) (by decide) (by decide) (c_Row_appendPart G F x61 x65 (x69 / (8 : Int32)) ((x76 / (8 : Int32)) + r18.1) r25.2 r84 e84) ?_
        refine V_aload_n (i := 0) d_Unpacker_plainBlock_87 rfl 2 rfl ?_
        refine V_dup rfl d_Unpacker_plainBlock_88 ?_
        obtain ⟨x89, e89, h⟩ := ob h
        refine V_getI (ci := 5) (k := 6) d_Unpacker_plainBlock_89 e89 rfl (by decide) in_Unpacker k112 ?_
        refine V_bipush (v := 8) d_Unpacker_plainBlock_92 (by decide) ?_
        refine V_iload_n (i := 1) d_Unpacker_plainBlock_94 rfl 1 rfl ?_
        refine V_imul d_Unpacker_plainBlock_95 ?_
        refine V_iadd d_Unpacker_plainBlock_96 ?_
        obtain ⟨w97, e97, h⟩ := ob h
        refine V_putI (ci := 5) (k := 6) t_Unpacker d_Unpacker_plainBlock_97 e97 rfl (by decide) in_Unpacker k112 ty_Unpacker nm_Unpacker rfl (Or.inl rfl) ?_
        refine V_aload_n (i := 0) d_Unpacker_plainBlock_100 rfl 2 rfl ?_
        obtain ⟨x101, e101, h⟩ := ob h
        refine V_getR (ci := 5) (k := 0) d_Unpacker_plainBlock_101 e101 rfl (by decide) in_Unpacker k106 ?_
        obtain ⟨x104, e104, h⟩ := ob h
        refine V_getI (ci := 0) (k := 2) d_Unpacker_plainBlock_104 e104 rfl (by decide) in_Row k48 ?_
        refine V_if_ne (tgt := 114) d_Unpacker_plainBlock_107 (by decide) (fun c107 => ?_) (fun c107 => ?_)
        · rw [if_neg c107] at h
          refine V_iconst (v := 0) d_Unpacker_plainBlock_114 (by decide) ?_
          obtain rfl := Option.some.inj h
          exact V_zret rfl (Or.inl rfl) (by decide) (by decide) d_Unpacker_plainBlock_115
        · rw [if_pos c107] at h
          refine V_iconst (v := 1) d_Unpacker_plainBlock_110 (by decide) ?_
          refine V_goto (tgt := 115) d_Unpacker_plainBlock_111 (by decide) ?_
          obtain rfl := Option.some.inj h
          exact V_zret rfl (Or.inr rfl) (by decide) (by decide) d_Unpacker_plainBlock_115
      · rw [if_neg c55] at h
        refine V_lv [] rfl ?_
        exact b_Unpacker_plainBlock_58_ok G F r25.2 _ h
def f_Unpacker_plainBlock (F : Nat) (v0 : Nat) (w : zW) : Option (Int32 × zW) := b_Unpacker_plainBlock_0 F v0 w
theorem c_Unpacker_plainBlock (G : zG) (F : Nat) (v0 : Nat) (w : zW) (r : (Int32 × zW)) (h : f_Unpacker_plainBlock F v0 w = some r) : zCT G m_Unpacker_plainBlock [.ref (z0 G + v0)] w (oI r.1) r.2 := zCT.ofV (by decide +kernel) (Or.inl ⟨kc_Unpacker_plainBlock, rfl⟩) (Nat.le_of_ble_eq_true rfl) (b_Unpacker_plainBlock_0_ok G F v0 w r h)

/-! ZipArray$Code.build([III)Z -/
def m_Code_build : zM := (⟨R_Code, "build", "([III)Z"⟩, prog_3_method_2_code, 8, (some .boolean), [], { frames := 0, cells := 0, slots := 0, locals := 0 })
theorem kc_Code_build : Cond.code (mY m_Code_build) (mC m_Code_build) (mL m_Code_build) (mT m_Code_build) ∈ zTb := tb_at 493 (by decide +kernel) rfl
theorem y_Code_build : (mY m_Code_build).cls ≠ "java/lang/invoke/MethodHandle" ∧ (mY m_Code_build).cls ≠ "java/lang/invoke/VarHandle" ∧ (parseMethodDescriptor (mY m_Code_build).desc).map (fun d => d.parameters.length) = some 3 := by decide +kernel
theorem d_Code_build_0 : decode (mC m_Code_build) 0 = .ok (.iconst 0, 1) := by decide +kernel
theorem d_Code_build_1 : decode (mC m_Code_build) 1 = .ok (.istore 4, 2) := by decide +kernel
theorem d_Code_build_3 : decode (mC m_Code_build) 3 = .ok (.iload 4, 2) := by decide +kernel
theorem d_Code_build_5 : decode (mC m_Code_build) 5 = .ok (.bipush 15, 2) := by decide +kernel
theorem d_Code_build_7 : decode (mC m_Code_build) 7 = .ok (.if_icmp .gt 17, 3) := by decide +kernel
theorem d_Code_build_10 : decode (mC m_Code_build) 10 = .ok (.aload_n 0, 1) := by decide +kernel
theorem d_Code_build_11 : decode (mC m_Code_build) 11 = .ok (.getfield 9, 3) := by decide +kernel
theorem d_Code_build_14 : decode (mC m_Code_build) 14 = .ok (.iload 4, 2) := by decide +kernel
theorem d_Code_build_16 : decode (mC m_Code_build) 16 = .ok (.iconst 0, 1) := by decide +kernel
theorem d_Code_build_17 : decode (mC m_Code_build) 17 = .ok (.iastore, 1) := by decide +kernel
theorem d_Code_build_18 : decode (mC m_Code_build) 18 = .ok (.iinc 4 1, 3) := by decide +kernel
theorem d_Code_build_21 : decode (mC m_Code_build) 21 = .ok (.goto (-18), 3) := by decide +kernel
theorem d_Code_build_24 : decode (mC m_Code_build) 24 = .ok (.iconst 0, 1) := by decide +kernel
theorem d_Code_build_25 : decode (mC m_Code_build) 25 = .ok (.istore 4, 2) := by decide +kernel
theorem d_Code_build_27 : decode (mC m_Code_build) 27 = .ok (.iload 4, 2) := by decide +kernel
theorem d_Code_build_29 : decode (mC m_Code_build) 29 = .ok (.iload_n 3, 1) := by decide +kernel
theorem d_Code_build_30 : decode (mC m_Code_build) 30 = .ok (.if_icmp .ge 24, 3) := by decide +kernel
theorem d_Code_build_33 : decode (mC m_Code_build) 33 = .ok (.aload_n 0, 1) := by decide +kernel
theorem d_Code_build_34 : decode (mC m_Code_build) 34 = .ok (.getfield 9, 3) := by decide +kernel
theorem d_Code_build_37 : decode (mC m_Code_build) 37 = .ok (.aload_n 1, 1) := by decide +kernel
theorem d_Code_build_38 : decode (mC m_Code_build) 38 = .ok (.iload_n 2, 1) := by decide +kernel
theorem d_Code_build_39 : decode (mC m_Code_build) 39 = .ok (.iload 4, 2) := by decide +kernel
theorem d_Code_build_41 : decode (mC m_Code_build) 41 = .ok (.iadd, 1) := by decide +kernel
theorem d_Code_build_42 : decode (mC m_Code_build) 42 = .ok (.iaload, 1) := by decide +kernel
theorem d_Code_build_43 : decode (mC m_Code_build) 43 = .ok (.dup2, 1) := by decide +kernel
theorem d_Code_build_44 : decode (mC m_Code_build) 44 = .ok (.iaload, 1) := by decide +kernel
theorem d_Code_build_45 : decode (mC m_Code_build) 45 = .ok (.iconst 1, 1) := by decide +kernel
theorem d_Code_build_46 : decode (mC m_Code_build) 46 = .ok (.iadd, 1) := by decide +kernel
theorem d_Code_build_47 : decode (mC m_Code_build) 47 = .ok (.iastore, 1) := by decide +kernel
theorem d_Code_build_48 : decode (mC m_Code_build) 48 = .ok (.iinc 4 1, 3) := by decide +kernel
theorem d_Code_build_51 : decode (mC m_Code_build) 51 = .ok (.goto (-24), 3) := by decide +kernel
theorem d_Code_build_54 : decode (mC m_Code_build) 54 = .ok (.aload_n 0, 1) := by decide +kernel
theorem d_Code_build_55 : decode (mC m_Code_build) 55 = .ok (.getfield 9, 3) := by decide +kernel
theorem d_Code_build_58 : decode (mC m_Code_build) 58 = .ok (.iconst 0, 1) := by decide +kernel
theorem d_Code_build_59 : decode (mC m_Code_build) 59 = .ok (.iconst 0, 1) := by decide +kernel
theorem d_Code_build_60 : decode (mC m_Code_build) 60 = .ok (.iastore, 1) := by decide +kernel
theorem d_Code_build_61 : decode (mC m_Code_build) 61 = .ok (.iconst 1, 1) := by decide +kernel
theorem d_Code_build_62 : decode (mC m_Code_build) 62 = .ok (.istore 4, 2) := by decide +kernel
theorem d_Code_build_64 : decode (mC m_Code_build) 64 = .ok (.iconst 0, 1) := by decide +kernel
theorem d_Code_build_65 : decode (mC m_Code_build) 65 = .ok (.istore 5, 2) := by decide +kernel
theorem d_Code_build_67 : decode (mC m_Code_build) 67 = .ok (.iconst 1, 1) := by decide +kernel
theorem d_Code_build_68 : decode (mC m_Code_build) 68 = .ok (.istore 6, 2) := by decide +kernel
theorem d_Code_build_70 : decode (mC m_Code_build) 70 = .ok (.iload 6, 2) := by decide +kernel
theorem d_Code_build_72 : decode (mC m_Code_build) 72 = .ok (.bipush 15, 2) := by decide +kernel
theorem d_Code_build_74 : decode (mC m_Code_build) 74 = .ok (.if_icmp .gt 51, 3) := by decide +kernel
theorem d_Code_build_77 : decode (mC m_Code_build) 77 = .ok (.iconst 2, 1) := by decide +kernel
theorem d_Code_build_78 : decode (mC m_Code_build) 78 = .ok (.iload 4, 2) := by decide +kernel
theorem d_Code_build_80 : decode (mC m_Code_build) 80 = .ok (.imul, 1) := by decide +kernel
theorem d_Code_build_81 : decode (mC m_Code_build) 81 = .ok (.aload_n 0, 1) := by decide +kernel
theorem d_Code_build_82 : decode (mC m_Code_build) 82 = .ok (.getfield 9, 3) := by decide +kernel
theorem d_Code_build_85 : decode (mC m_Code_build) 85 = .ok (.iload 6, 2) := by decide +kernel
theorem d_Code_build_87 : decode (mC m_Code_build) 87 = .ok (.iaload, 1) := by decide +kernel
theorem d_Code_build_88 : decode (mC m_Code_build) 88 = .ok (.isub, 1) := by decide +kernel
theorem d_Code_build_89 : decode (mC m_Code_build) 89 = .ok (.istore 4, 2) := by decide +kernel
theorem d_Code_build_91 : decode (mC m_Code_build) 91 = .ok (.iload 4, 2) := by decide +kernel
theorem d_Code_build_93 : decode (mC m_Code_build) 93 = .ok (.ifCond .ge 5, 3) := by decide +kernel
theorem d_Code_build_96 : decode (mC m_Code_build) 96 = .ok (.iconst 0, 1) := by decide +kernel
theorem d_Code_build_97 : decode (mC m_Code_build) 97 = .ok (.ireturn, 1) := by decide +kernel
theorem d_Code_build_98 : decode (mC m_Code_build) 98 = .ok (.aload_n 0, 1) := by decide +kernel
theorem d_Code_build_99 : decode (mC m_Code_build) 99 = .ok (.getfield 16, 3) := by decide +kernel
theorem d_Code_build_102 : decode (mC m_Code_build) 102 = .ok (.iload 6, 2) := by decide +kernel
theorem d_Code_build_104 : decode (mC m_Code_build) 104 = .ok (.iload 5, 2) := by decide +kernel
theorem d_Code_build_106 : decode (mC m_Code_build) 106 = .ok (.iastore, 1) := by decide +kernel
theorem d_Code_build_107 : decode (mC m_Code_build) 107 = .ok (.iload 5, 2) := by decide +kernel
theorem d_Code_build_109 : decode (mC m_Code_build) 109 = .ok (.aload_n 0, 1) := by decide +kernel
theorem d_Code_build_110 : decode (mC m_Code_build) 110 = .ok (.getfield 9, 3) := by decide +kernel
theorem d_Code_build_113 : decode (mC m_Code_build) 113 = .ok (.iload 6, 2) := by decide +kernel
theorem d_Code_build_115 : decode (mC m_Code_build) 115 = .ok (.iaload, 1) := by decide +kernel
theorem d_Code_build_116 : decode (mC m_Code_build) 116 = .ok (.iadd, 1) := by decide +kernel
theorem d_Code_build_117 : decode (mC m_Code_build) 117 = .ok (.istore 5, 2) := by decide +kernel
theorem d_Code_build_119 : decode (mC m_Code_build) 119 = .ok (.iinc 6 1, 3) := by decide +kernel
theorem d_Code_build_122 : decode (mC m_Code_build) 122 = .ok (.goto (-52), 3) := by decide +kernel
theorem d_Code_build_125 : decode (mC m_Code_build) 125 = .ok (.iconst 0, 1) := by decide +kernel
theorem d_Code_build_126 : decode (mC m_Code_build) 126 = .ok (.istore 6, 2) := by decide +kernel
theorem d_Code_build_128 : decode (mC m_Code_build) 128 = .ok (.iload 6, 2) := by decide +kernel
theorem d_Code_build_130 : decode (mC m_Code_build) 130 = .ok (.iload_n 3, 1) := by decide +kernel
theorem d_Code_build_131 : decode (mC m_Code_build) 131 = .ok (.if_icmp .ge 47, 3) := by decide +kernel
theorem d_Code_build_134 : decode (mC m_Code_build) 134 = .ok (.aload_n 1, 1) := by decide +kernel
theorem d_Code_build_135 : decode (mC m_Code_build) 135 = .ok (.iload_n 2, 1) := by decide +kernel
theorem d_Code_build_136 : decode (mC m_Code_build) 136 = .ok (.iload 6, 2) := by decide +kernel
theorem d_Code_build_138 : decode (mC m_Code_build) 138 = .ok (.iadd, 1) := by decide +kernel
theorem d_Code_build_139 : decode (mC m_Code_build) 139 = .ok (.iaload, 1) := by decide +kernel
theorem d_Code_build_140 : decode (mC m_Code_build) 140 = .ok (.istore 7, 2) := by decide +kernel
theorem d_Code_build_142 : decode (mC m_Code_build) 142 = .ok (.iload 7, 2) := by decide +kernel
theorem d_Code_build_144 : decode (mC m_Code_build) 144 = .ok (.ifCond .le 28, 3) := by decide +kernel
theorem d_Code_build_147 : decode (mC m_Code_build) 147 = .ok (.aload_n 0, 1) := by decide +kernel
theorem d_Code_build_148 : decode (mC m_Code_build) 148 = .ok (.getfield 13, 3) := by decide +kernel
theorem d_Code_build_151 : decode (mC m_Code_build) 151 = .ok (.aload_n 0, 1) := by decide +kernel
theorem d_Code_build_152 : decode (mC m_Code_build) 152 = .ok (.getfield 16, 3) := by decide +kernel
theorem d_Code_build_155 : decode (mC m_Code_build) 155 = .ok (.iload 7, 2) := by decide +kernel
theorem d_Code_build_157 : decode (mC m_Code_build) 157 = .ok (.iaload, 1) := by decide +kernel
theorem d_Code_build_158 : decode (mC m_Code_build) 158 = .ok (.iload 6, 2) := by decide +kernel
theorem d_Code_build_160 : decode (mC m_Code_build) 160 = .ok (.iastore, 1) := by decide +kernel
theorem d_Code_build_161 : decode (mC m_Code_build) 161 = .ok (.aload_n 0, 1) := by decide +kernel
theorem d_Code_build_162 : decode (mC m_Code_build) 162 = .ok (.getfield 16, 3) := by decide +kernel
theorem d_Code_build_165 : decode (mC m_Code_build) 165 = .ok (.iload 7, 2) := by decide +kernel
theorem d_Code_build_167 : decode (mC m_Code_build) 167 = .ok (.dup2, 1) := by decide +kernel
theorem d_Code_build_168 : decode (mC m_Code_build) 168 = .ok (.iaload, 1) := by decide +kernel
theorem d_Code_build_169 : decode (mC m_Code_build) 169 = .ok (.iconst 1, 1) := by decide +kernel
theorem d_Code_build_170 : decode (mC m_Code_build) 170 = .ok (.iadd, 1) := by decide +kernel
theorem d_Code_build_171 : decode (mC m_Code_build) 171 = .ok (.iastore, 1) := by decide +kernel
theorem d_Code_build_172 : decode (mC m_Code_build) 172 = .ok (.iinc 6 1, 3) := by decide +kernel
theorem d_Code_build_175 : decode (mC m_Code_build) 175 = .ok (.goto (-47), 3) := by decide +kernel
theorem d_Code_build_178 : decode (mC m_Code_build) 178 = .ok (.iconst 1, 1) := by decide +kernel
theorem d_Code_build_179 : decode (mC m_Code_build) 179 = .ok (.ireturn, 1) := by decide +kernel
def b_Code_build_172 (F : Nat) (K128 : Nat → Nat → Int32 → Int32 → Int32 → zW → Option (Int32 × zW)) (v0 : Nat) (v1 : Nat) (v2 : Int32) (v3 : Int32) (v6 : Int32) (w : zW) : Option (Int32 × zW) := K128 v0 v1 v2 v3 (v6 + (1 : Int32)) w
set_option maxRecDepth 100000 in
set_option maxHeartbeats 4000000 in
theorem b_Code_build_172_ok (G : zG) (F : Nat) (K128 : Nat → Nat → Int32 → Int32 → Int32 → zW → Option (Int32 × zW)) (hK128 : ∀ (v0 : Nat) (v1 : Nat) (v2 : Int32) (v3 : Int32) (v6 : Int32) (w : zW) (r : (Int32 × zW)), K128 v0 v1 v2 v3 v6 w = some r → zV G m_Code_build 128 [(0, .ref (z0 G + v0)), (1, .ref (z0 G + v1)), (2, .int v2), (3, .int v3), (6, .int v6)] [] w 0 0 (oI r.1) r.2) (v0 : Nat) (v1 : Nat) (v2 : Int32) (v3 : Int32) (v6 : Int32) (w : zW) (r : (Int32 × zW)) (h : b_Code_build_172 F K128 v0 v1 v2 v3 v6 w = some r) : zV G m_Code_build 172 [(0, .ref (z0 G + v0)), (1, .ref (z0 G + v1)), (2, .int v2), (3, .int v3), (6, .int v6)] [] w 0 0 (oI r.1) r.2 := by
  unfold b_Code_build_172 at h
  refine V_iinc (i := 6) (v := (v6 + (1 : Int32))) d_Code_build_172 4 rfl (congrArg (fun y => v6 + y) (by decide : Int32.ofInt (1) = (1 : Int32))) (by decide) rfl ?_
  refine V_goto (tgt := 128) d_Code_build_175 (by decide) ?_
  refine V_lv [1, 2, 3, 4, 0] rfl ?_
  exact hK128 v0 v1 v2 v3 (v6 + (1 : Int32)) w _ h
def b_Code_build_128 (F : Nat) (K128 : Nat → Nat → Int32 → Int32 → Int32 → zW → Option (Int32 × zW)) (v0 : Nat) (v1 : Nat) (v2 : Int32) (v3 : Int32) (v6 : Int32) (w : zW) : Option (Int32 × zW) := if v3 ≤ v6 then (some ((1 : Int32), w)) else ((aget w v1 (v2 + v6)).bind fun x139 => if x139 ≤ 0 then (b_Code_build_172 F K128 v0 v1 v2 v3 v6 w) else ((getR w v0 4 1).bind fun x148 => (getR w v0 4 2).bind fun x152 => (aget w x152 x139).bind fun x157 => (aset w x148 x157 v6).bind fun w160 => (getR w160 v0 4 2).bind fun x162 => (aget w160 x162 x139).bind fun x168 => (aset w160 x162 x139 (x168 + (1 : Int32))).bind fun w171 => b_Code_build_172 F K128 v0 v1 v2 v3 v6 w171))
set_option maxRecDepth 100000 in
set_option maxHeartbeats 4000000 in
theorem b_Code_build_128_ok (G : zG) (F : Nat) (K128 : Nat → Nat → Int32 → Int32 → Int32 → zW → Option (Int32 × zW)) (hK128 : ∀ (v0 : Nat) (v1 : Nat) (v2 : Int32) (v3 : Int32) (v6 : Int32) (w : zW) (r : (Int32 × zW)), K128 v0 v1 v2 v3 v6 w = some r → zV G m_Code_build 128 [(0, .ref (z0 G + v0)), (1, .ref (z0 G + v1)), (2, .int v2), (3, .int v3), (6, .int v6)] [] w 0 0 (oI r.1) r.2) (v0 : Nat) (v1 : Nat) (v2 : Int32) (v3 : Int32) (v6 : Int32) (w : zW) (r : (Int32 × zW)) (h : b_Code_build_128 F K128 v0 v1 v2 v3 v6 w = some r) : zV G m_Code_build 128 [(0, .ref (z0 G + v0)), (1, .ref (z0 G + v1)), (2, .int v2), (3, .int v3), (6, .int v6)] [] w 0 0 (oI r.1) r.2 := by
  unfold b_Code_build_128 at h
  refine V_iload (i := 6) d_Code_build_128 4 rfl ?_
  refine V_iload_n (i := 3) d_Code_build_130 rfl 3 rfl ?_
  refine V_icmp_ge (tgt := 178) d_Code_build_131 (by decide) (fun c131 => ?_) (fun c131 => ?_)
  · rw [if_pos c131] at h
    refine V_iconst (v := 1) d_Code_build_178 (by decide) ?_
    obtain rfl := Option.some.inj h
    exact V_zret rfl (Or.inr rfl) (by decide) (by decide) d_Code_build_179
  · rw [if_neg c131] at h
    refine V_aload_n (i := 1) d_Code_build_134 rfl 1 rfl ?_
    refine V_iload_n (i := 2) d_Code_build_135 rfl 2 rfl ?_
    refine V_iload (i := 6) d_Code_build_136 4 rfl ?_
    refine V_iadd d_Code_build_138 ?_
    obtain ⟨x139, e139, h⟩ := ob h
    refine V_aget d_Code_build_139 e139 ?_
    refine V_istore (i := 7) d_Code_build_140 (by decide) rfl ?_
    refine V_iload (i := 7) d_Code_build_142 0 rfl ?_
    refine V_if_le (tgt := 172) d_Code_build_144 (by decide) (fun c144 => ?_) (fun c144 => ?_)
    · rw [if_pos c144] at h
      refine V_lv [1, 2, 3, 4, 5] rfl ?_
      exact b_Code_build_172_ok G F K128 hK128 v0 v1 v2 v3 v6 w _ h
    · rw [if_neg c144] at h
      refine V_aload_n (i := 0) d_Code_build_147 rfl 1 rfl ?_
      obtain ⟨x148, e148, h⟩ := ob h
      refine V_getR (ci := 4) (k := 1) d_Code_build_148 e148 rfl (by decide) in_Code k96 ?_
      refine V_aload_n (i := 0) d_Code_build_151 rfl 1 rfl ?_
      obtain ⟨x152, e152, h⟩ := ob h
      refine V_getR (ci := 4) (k := 2) d_Code_build_152 e152 rfl (by decide) in_Code k98 ?_
      refine V_iload (i := 7) d_Code_build_155 0 rfl ?_
      obtain ⟨x157, e157, h⟩ := ob h
      refine V_aget d_Code_build_157 e157 ?_
      refine V_iload (i := 6) d_Code_build_158 5 rfl ?_
      obtain ⟨w160, e160, h⟩ := ob h
      refine V_aset d_Code_build_160 e160 ?_
      refine V_aload_n (i := 0) d_Code_build_161 rfl 1 rfl ?_
      obtain ⟨x162, e162, h⟩ := ob h
      refine V_getR (ci := 4) (k := 2) d_Code_build_162 e162 rfl (by decide) in_Code k98 ?_
      refine V_iload (i := 7) d_Code_build_165 0 rfl ?_
      refine V_dup2 rfl rfl d_Code_build_167 ?_
      obtain ⟨x168, e168, h⟩ := ob h
      refine V_aget d_Code_build_168 e168 ?_
      refine V_iconst (v := 1) d_Code_build_169 (by decide) ?_
      refine V_iadd d_Code_build_170 ?_
      obtain ⟨w171, e171, h⟩ := ob h
      refine V_aset d_Code_build_171 e171 ?_
      refine V_lv [1, 2, 3, 4, 5] rfl ?_
      exact b_Code_build_172_ok G F K128 hK128 v0 v1 v2 v3 v6 w171 _ h
def l_Code_build_128 (F : Nat) : Nat → Nat → Nat → Int32 → Int32 → Int32 → zW → Option (Int32 × zW)
  | 0 => fun _ _ _ _ _ _ => none
  | n + 1 => b_Code_build_128 F (l_Code_build_128 F n)
theorem l_Code_build_128_ok (G : zG) (F : Nat) (n : Nat) :  ∀ (v0 : Nat) (v1 : Nat) (v2 : Int32) (v3 : Int32) (v6 : Int32) (w : zW) (r : (Int32 × zW)), l_Code_build_128 F n v0 v1 v2 v3 v6 w = some r → zV G m_Code_build 128 [(0, .ref (z0 G + v0)), (1, .ref (z0 G + v1)), (2, .int v2), (3, .int v3), (6, .int v6)] [] w 0 0 (oI r.1) r.2 := by
  induction n with
  | zero => intro v0 v1 v2 v3 v6 w r h; exact nomatch (show (none : Option (Int32 × zW)) = some r from h)
  | succ n ih => intro v0 v1 v2 v3 v6 w r h; exact b_Code_build_128_ok G F (l_Code_build_128 F n) ih v0 v1 v2 v3 v6 w r h
def b_Code_build_70 (F : Nat) (K70 : Nat → Nat → Int32 → Int32 → Int32 → Int32 → Int32 → zW → Option (Int32 × zW)) (v0 : Nat) (v1 : Nat) (v2 : Int32) (v3 : Int32) (v4 : Int32) (v5 : Int32) (v6 : Int32) (w : zW) : Option (Int32 × zW) := if (15 : Int32) < v6 then (l_Code_build_128 F F v0 v1 v2 v3 (0 : Int32) w) else ((getR w v0 4 0).bind fun x82 => (aget w x82 v6).bind fun x87 => if 0 ≤ (((2 : Int32) * v4) - x87) then ((getR w v0 4 2).bind fun x99 => (aset w x99 v6 v5).bind fun w106 => (getR w106 v0 4 0).bind fun x110 => (aget w106 x110 v6).bind fun x115 => K70 v0 v1 v2 v3 (((2 : Int32) * v4) - x87) (v5 + x115) (v6 + (1 : Int32)) w106) else (some ((0 : Int32), w)))
set_option maxRecDepth 100000 in
set_option maxHeartbeats 4000000 in
theorem b_Code_build_70_ok (G : zG) (F : Nat) (K70 : Nat → Nat → Int32 → Int32 → Int32 → Int32 → Int32 → zW → Option (Int32 × zW)) (hK70 : ∀ (v0 : Nat) (v1 : Nat) (v2 : Int32) (v3 : Int32) (v4 : Int32) (v5 : Int32) (v6 : Int32) (w : zW) (r : (Int32 × zW)), K70 v0 v1 v2 v3 v4 v5 v6 w = some r → zV G m_Code_build 70 [(0, .ref (z0 G + v0)), (1, .ref (z0 G + v1)), (2, .int v2), (3, .int v3), (4, .int v4), (5, .int v5), (6, .int v6)] [] w 0 0 (oI r.1) r.2) (v0 : Nat) (v1 : Nat) (v2 : Int32) (v3 : Int32) (v4 : Int32) (v5 : Int32) (v6 : Int32) (w : zW) (r : (Int32 × zW)) (h : b_Code_build_70 F K70 v0 v1 v2 v3 v4 v5 v6 w = some r) : zV G m_Code_build 70 [(0, .ref (z0 G + v0)), (1, .ref (z0 G + v1)), (2, .int v2), (3, .int v3), (4, .int v4), (5, .int v5), (6, .int v6)] [] w 0 0 (oI r.1) r.2 := by
  unfold b_Code_build_70 at h
  refine V_iload (i := 6) d_Code_build_70 6 rfl ?_
  refine V_bipush (v := 15) d_Code_build_72 (by decide) ?_
  refine V_icmp_gt (tgt := 125) d_Code_build_74 (by decide) (fun c74 => ?_) (fun c74 => ?_)
  · rw [if_pos c74] at h
    refine V_iconst (v := 0) d_Code_build_125 (by decide) ?_
    refine V_istore (i := 6) d_Code_build_126 (by decide) rfl ?_
    refine V_lv [1, 2, 3, 4, 0] rfl ?_
    exact l_Code_build_128_ok G F F v0 v1 v2 v3 (0 : Int32) w _ h
  · rw [if_neg c74] at h
    refine V_iconst (v := 2) d_Code_build_77 (by decide) ?_
    refine V_iload (i := 4) d_Code_build_78 4 rfl ?_
    refine V_imul d_Code_build_80 ?_
    refine V_aload_n (i := 0) d_Code_build_81 rfl 0 rfl ?_
    obtain ⟨x82, e82, h⟩ := ob h
    refine V_getR (ci := 4) (k := 0) d_Code_build_82 e82 rfl (by decide) in_Code k94 ?_
    refine V_iload (i := 6) d_Code_build_85 6 rfl ?_
    obtain ⟨x87, e87, h⟩ := ob h
    refine V_aget d_Code_build_87 e87 ?_
    refine V_isub d_Code_build_88 ?_
    refine V_istore (i := 4) d_Code_build_89 (by decide) rfl ?_
    refine V_iload (i := 4) d_Code_build_91 0 rfl ?_
    refine V_if_ge (tgt := 98) d_Code_build_93 (by decide) (fun c93 => ?_) (fun c93 => ?_)
    · rw [if_pos c93] at h
      refine V_aload_n (i := 0) d_Code_build_98 rfl 1 rfl ?_
      obtain ⟨x99, e99, h⟩ := ob h
      refine V_getR (ci := 4) (k := 2) d_Code_build_99 e99 rfl (by decide) in_Code k98 ?_
      refine V_iload (i := 6) d_Code_build_102 6 rfl ?_
      refine V_iload (i := 5) d_Code_build_104 5 rfl ?_
      obtain ⟨w106, e106, h⟩ := ob h
      refine V_aset d_Code_build_106 e106 ?_
      refine V_iload (i := 5) d_Code_build_107 5 rfl ?_
      refine V_aload_n (i := 0) d_Code_build_109 rfl 1 rfl ?_
      obtain ⟨x110, e110, h⟩ := ob h
      refine V_getR (ci := 4) (k := 0) d_Code_build_110 e110 rfl (by decide) in_Code k94 ?_
      refine V_iload (i := 6) d_Code_build_113 6 rfl ?_
      obtain ⟨x115, e115, h⟩ := ob h
      refine V_aget d_Code_build_115 e115 ?_
      refine V_iadd d_Code_build_116 ?_
      refine V_istore (i := 5) d_Code_build_117 (by decide) rfl ?_
      refine V_iinc (i := 6) (v := (v6 + (1 : Int32))) d_Code_build_119 6 rfl (congrArg (fun y => v6 + y) (by decide : Int32.ofInt (1) = (1 : Int32))) (by decide) rfl ?_
      refine V_goto (tgt := 70) d_Code_build_122 (by decide) ?_
      refine V_lv [3, 4, 5, 6, 2, 1, 0] rfl ?_
      exact hK70 v0 v1 v2 v3 (((2 : Int32) * v4) - x87) (v5 + x115) (v6 + (1 : Int32)) w106 _ h
    · rw [if_neg c93] at h
      refine V_iconst (v := 0) d_Code_build_96 (by decide) ?_
      obtain rfl := Option.some.inj h
      exact V_zret rfl (Or.inl rfl) (by decide) (by decide) d_Code_build_97
def l_Code_build_70 (F : Nat) : Nat → Nat → Nat → Int32 → Int32 → Int32 → Int32 → Int32 → zW → Option (Int32 × zW)
  | 0 => fun _ _ _ _ _ _ _ _ => none
  | n + 1 => b_Code_build_70 F (l_Code_build_70 F n)
theorem l_Code_build_70_ok (G : zG) (F : Nat) (n : Nat) :  ∀ (v0 : Nat) (v1 : Nat) (v2 : Int32) (v3 : Int32) (v4 : Int32) (v5 : Int32) (v6 : Int32) (w : zW) (r : (Int32 × zW)), l_Code_build_70 F n v0 v1 v2 v3 v4 v5 v6 w = some r → zV G m_Code_build 70 [(0, .ref (z0 G + v0)), (1, .ref (z0 G + v1)), (2, .int v2), (3, .int v3), (4, .int v4), (5, .int v5), (6, .int v6)] [] w 0 0 (oI r.1) r.2 := by
  induction n with
  | zero => intro v0 v1 v2 v3 v4 v5 v6 w r h; exact nomatch (show (none : Option (Int32 × zW)) = some r from h)
  | succ n ih => intro v0 v1 v2 v3 v4 v5 v6 w r h; exact b_Code_build_70_ok G F (l_Code_build_70 F n) ih v0 v1 v2 v3 v4 v5 v6 w r h
def b_Code_build_27 (F : Nat) (K27 : Nat → Nat → Int32 → Int32 → Int32 → zW → Option (Int32 × zW)) (v0 : Nat) (v1 : Nat) (v2 : Int32) (v3 : Int32) (v4 : Int32) (w : zW) : Option (Int32 × zW) := if v3 ≤ v4 then ((getR w v0 4 0).bind fun x55 => (aset w x55 (0 : Int32) (0 : Int32)).bind fun w60 => l_Code_build_70 F F v0 v1 v2 v3 (1 : Int32) (0 : Int32) (1 : Int32) w60) else ((getR w v0 4 0).bind fun x34 => (aget w v1 (v2 + v4)).bind fun x42 => (aget w x34 x42).bind fun x44 => (aset w x34 x42 (x44 + (1 : Int32))).bind fun w47 => K27 v0 v1 v2 v3 (v4 + (1 : Int32)) w47)
set_option maxRecDepth 100000 in
set_option maxHeartbeats 4000000 in
theorem b_Code_build_27_ok (G : zG) (F : Nat) (K27 : Nat → Nat → Int32 → Int32 → Int32 → zW → Option (Int32 × zW)) (hK27 : ∀ (v0 : Nat) (v1 : Nat) (v2 : Int32) (v3 : Int32) (v4 : Int32) (w : zW) (r : (Int32 × zW)), K27 v0 v1 v2 v3 v4 w = some r → zV G m_Code_build 27 [(0, .ref (z0 G + v0)), (1, .ref (z0 G + v1)), (2, .int v2), (3, .int v3), (4, .int v4)] [] w 0 0 (oI r.1) r.2) (v0 : Nat) (v1 : Nat) (v2 : Int32) (v3 : Int32) (v4 : Int32) (w : zW) (r : (Int32 × zW)) (h : b_Code_build_27 F K27 v0 v1 v2 v3 v4 w = some r) : zV G m_Code_build 27 [(0, .ref (z0 G + v0)), (1, .ref (z0 G + v1)), (2, .int v2), (3, .int v3), (4, .int v4)] [] w 0 0 (oI r.1) r.2 := by
  unfold b_Code_build_27 at h
  refine V_iload (i := 4) d_Code_build_27 4 rfl ?_
  refine V_iload_n (i := 3) d_Code_build_29 rfl 3 rfl ?_
  refine V_icmp_ge (tgt := 54) d_Code_build_30 (by decide) (fun c30 => ?_) (fun c30 => ?_)
  · rw [if_pos c30] at h
    refine V_aload_n (i := 0) d_Code_build_54 rfl 0 rfl ?_
    obtain ⟨x55, e55, h⟩ := ob h
    refine V_getR (ci := 4) (k := 0) d_Code_build_55 e55 rfl (by decide) in_Code k94 ?_
    refine V_iconst (v := 0) d_Code_build_58 (by decide) ?_
    refine V_iconst (v := 0) d_Code_build_59 (by decide) ?_
    obtain ⟨w60, e60, h⟩ := ob h
    refine V_aset d_Code_build_60 e60 ?_
    refine V_iconst (v := 1) d_Code_build_61 (by decide) ?_
    refine V_istore (i := 4) d_Code_build_62 (by decide) rfl ?_
    refine V_iconst (v := 0) d_Code_build_64 (by decide) ?_
    refine V_istore (i := 5) d_Code_build_65 (by decide) rfl ?_
    refine V_iconst (v := 1) d_Code_build_67 (by decide) ?_
    refine V_istore (i := 6) d_Code_build_68 (by decide) rfl ?_
    refine V_lv [3, 4, 5, 6, 2, 1, 0] rfl ?_
    exact l_Code_build_70_ok G F F v0 v1 v2 v3 (1 : Int32) (0 : Int32) (1 : Int32) w60 _ h
  · rw [if_neg c30] at h
    refine V_aload_n (i := 0) d_Code_build_33 rfl 0 rfl ?_
    obtain ⟨x34, e34, h⟩ := ob h
    refine V_getR (ci := 4) (k := 0) d_Code_build_34 e34 rfl (by decide) in_Code k94 ?_
    refine V_aload_n (i := 1) d_Code_build_37 rfl 1 rfl ?_
    refine V_iload_n (i := 2) d_Code_build_38 rfl 2 rfl ?_
    refine V_iload (i := 4) d_Code_build_39 4 rfl ?_
    refine V_iadd d_Code_build_41 ?_
    obtain ⟨x42, e42, h⟩ := ob h
    refine V_aget d_Code_build_42 e42 ?_
    refine V_dup2 rfl rfl d_Code_build_43 ?_
    obtain ⟨x44, e44, h⟩ := ob h
    refine V_aget d_Code_build_44 e44 ?_
    refine V_iconst (v := 1) d_Code_build_45 (by decide) ?_
    refine V_iadd d_Code_build_46 ?_
    obtain ⟨w47, e47, h⟩ := ob h
    refine V_aset d_Code_build_47 e47 ?_
    refine V_iinc (i := 4) (v := (v4 + (1 : Int32))) d_Code_build_48 4 rfl (congrArg (fun y => v4 + y) (by decide : Int32.ofInt (1) = (1 : Int32))) (by decide) rfl ?_
    refine V_goto (tgt := 27) d_Code_build_51 (by decide) ?_
    refine V_lv [1, 2, 3, 4, 0] rfl ?_
    exact hK27 v0 v1 v2 v3 (v4 + (1 : Int32)) w47 _ h
def l_Code_build_27 (F : Nat) : Nat → Nat → Nat → Int32 → Int32 → Int32 → zW → Option (Int32 × zW)
  | 0 => fun _ _ _ _ _ _ => none
  | n + 1 => b_Code_build_27 F (l_Code_build_27 F n)
theorem l_Code_build_27_ok (G : zG) (F : Nat) (n : Nat) :  ∀ (v0 : Nat) (v1 : Nat) (v2 : Int32) (v3 : Int32) (v4 : Int32) (w : zW) (r : (Int32 × zW)), l_Code_build_27 F n v0 v1 v2 v3 v4 w = some r → zV G m_Code_build 27 [(0, .ref (z0 G + v0)), (1, .ref (z0 G + v1)), (2, .int v2), (3, .int v3), (4, .int v4)] [] w 0 0 (oI r.1) r.2 := by
  induction n with
  | zero => intro v0 v1 v2 v3 v4 w r h; exact nomatch (show (none : Option (Int32 × zW)) = some r from h)
  | succ n ih => intro v0 v1 v2 v3 v4 w r h; exact b_Code_build_27_ok G F (l_Code_build_27 F n) ih v0 v1 v2 v3 v4 w r h
def b_Code_build_3 (F : Nat) (K3 : Nat → Nat → Int32 → Int32 → Int32 → zW → Option (Int32 × zW)) (v0 : Nat) (v1 : Nat) (v2 : Int32) (v3 : Int32) (v4 : Int32) (w : zW) : Option (Int32 × zW) := if (15 : Int32) < v4 then (l_Code_build_27 F F v0 v1 v2 v3 (0 : Int32) w) else ((getR w v0 4 0).bind fun x11 => (aset w x11 v4 (0 : Int32)).bind fun w17 => K3 v0 v1 v2 v3 (v4 + (1 : Int32)) w17)
set_option maxRecDepth 100000 in
set_option maxHeartbeats 4000000 in
theorem b_Code_build_3_ok (G : zG) (F : Nat) (K3 : Nat → Nat → Int32 → Int32 → Int32 → zW → Option (Int32 × zW)) (hK3 : ∀ (v0 : Nat) (v1 : Nat) (v2 : Int32) (v3 : Int32) (v4 : Int32) (w : zW) (r : (Int32 × zW)), K3 v0 v1 v2 v3 v4 w = some r → zV G m_Code_build 3 [(0, .ref (z0 G + v0)), (1, .ref (z0 G + v1)), (2, .int v2), (3, .int v3), (4, .int v4)] [] w 0 0 (oI r.1) r.2) (v0 : Nat) (v1 : Nat) (v2 : Int32) (v3 : Int32) (v4 : Int32) (w : zW) (r : (Int32 × zW)) (h : b_Code_build_3 F K3 v0 v1 v2 v3 v4 w = some r) : zV G m_Code_build 3 [(0, .ref (z0 G + v0)), (1, .ref (z0 G + v1)), (2, .int v2), (3, .int v3), (4, .int v4)] [] w 0 0 (oI r.1) r.2 := by
  unfold b_Code_build_3 at h
  refine V_iload (i := 4) d_Code_build_3 4 rfl ?_
  refine V_bipush (v := 15) d_Code_build_5 (by decide) ?_
  refine V_icmp_gt (tgt := 24) d_Code_build_7 (by decide) (fun c7 => ?_) (fun c7 => ?_)
  · rw [if_pos c7] at h
    refine V_iconst (v := 0) d_Code_build_24 (by decide) ?_
    refine V_istore (i := 4) d_Code_build_25 (by decide) rfl ?_
    refine V_lv [1, 2, 3, 4, 0] rfl ?_
    exact l_Code_build_27_ok G F F v0 v1 v2 v3 (0 : Int32) w _ h
  · rw [if_neg c7] at h
    refine V_aload_n (i := 0) d_Code_build_10 rfl 0 rfl ?_
    obtain ⟨x11, e11, h⟩ := ob h
    refine V_getR (ci := 4) (k := 0) d_Code_build_11 e11 rfl (by decide) in_Code k94 ?_
    refine V_iload (i := 4) d_Code_build_14 4 rfl ?_
    refine V_iconst (v := 0) d_Code_build_16 (by decide) ?_
    obtain ⟨w17, e17, h⟩ := ob h
    refine V_aset d_Code_build_17 e17 ?_
    refine V_iinc (i := 4) (v := (v4 + (1 : Int32))) d_Code_build_18 4 rfl (congrArg (fun y => v4 + y) (by decide : Int32.ofInt (1) = (1 : Int32))) (by decide) rfl ?_
    refine V_goto (tgt := 3) d_Code_build_21 (by decide) ?_
    refine V_lv [1, 2, 3, 4, 0] rfl ?_
    exact hK3 v0 v1 v2 v3 (v4 + (1 : Int32)) w17 _ h
def l_Code_build_3 (F : Nat) : Nat → Nat → Nat → Int32 → Int32 → Int32 → zW → Option (Int32 × zW)
  | 0 => fun _ _ _ _ _ _ => none
  | n + 1 => b_Code_build_3 F (l_Code_build_3 F n)
theorem l_Code_build_3_ok (G : zG) (F : Nat) (n : Nat) :  ∀ (v0 : Nat) (v1 : Nat) (v2 : Int32) (v3 : Int32) (v4 : Int32) (w : zW) (r : (Int32 × zW)), l_Code_build_3 F n v0 v1 v2 v3 v4 w = some r → zV G m_Code_build 3 [(0, .ref (z0 G + v0)), (1, .ref (z0 G + v1)), (2, .int v2), (3, .int v3), (4, .int v4)] [] w 0 0 (oI r.1) r.2 := by
  induction n with
  | zero => intro v0 v1 v2 v3 v4 w r h; exact nomatch (show (none : Option (Int32 × zW)) = some r from h)
  | succ n ih => intro v0 v1 v2 v3 v4 w r h; exact b_Code_build_3_ok G F (l_Code_build_3 F n) ih v0 v1 v2 v3 v4 w r h
def b_Code_build_0 (F : Nat) (v0 : Nat) (v1 : Nat) (v2 : Int32) (v3 : Int32) (w : zW) : Option (Int32 × zW) := l_Code_build_3 F F v0 v1 v2 v3 (0 : Int32) w
set_option maxRecDepth 100000 in
set_option maxHeartbeats 4000000 in
theorem b_Code_build_0_ok (G : zG) (F : Nat) (v0 : Nat) (v1 : Nat) (v2 : Int32) (v3 : Int32) (w : zW) (r : (Int32 × zW)) (h : b_Code_build_0 F v0 v1 v2 v3 w = some r) : zV G m_Code_build 0 [(0, .ref (z0 G + v0)), (1, .ref (z0 G + v1)), (2, .int v2), (3, .int v3)] [] w 0 0 (oI r.1) r.2 := by
  unfold b_Code_build_0 at h
  refine V_iconst (v := 0) d_Code_build_0 (by decide) ?_
  refine V_istore (i := 4) d_Code_build_1 (by decide) rfl ?_
  refine V_lv [1, 2, 3, 4, 0] rfl ?_
  exact l_Code_build_3_ok G F F v0 v1 v2 v3 (0 : Int32) w _ h
def f_Code_build (F : Nat) (v0 : Nat) (v1 : Nat) (v2 : Int32) (v3 : Int32) (w : zW) : Option (Int32 × zW) := b_Code_build_0 F v0 v1 v2 v3 w
theorem c_Code_build (G : zG) (F : Nat) (v0 : Nat) (v1 : Nat) (v2 : Int32) (v3 : Int32) (w : zW) (r : (Int32 × zW)) (h : f_Code_build F v0 v1 v2 v3 w = some r) : zCT G m_Code_build [.ref (z0 G + v0), .ref (z0 G + v1), .int v2, .int v3] w (oI r.1) r.2 := zCT.ofV (by decide +kernel) (Or.inl ⟨kc_Code_build, rfl⟩) (Nat.le_of_ble_eq_true rfl) (b_Code_build_0_ok G F v0 v1 v2 v3 w r h)
