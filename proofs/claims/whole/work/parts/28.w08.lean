/-! ZipArrayModel.crcOfBuffer()I -/
def m_Model_crcOfBuffer : zM := (⟨R_Model, "crcOfBuffer", "()I"⟩, prog_11_method_6_code, 3, (some .int), [], { frames := 1, cells := 0, slots := 0, locals := 23 })
theorem k883 : Cond.fieldLink R_Model 82 (T_Model 1).1 (T_Model 1).2.1 (T_Model 1).2.2.1 ∈ zTb := tb_at 883 (by decide +kernel) rfl
theorem kc_Model_crcOfBuffer : Cond.code (mY m_Model_crcOfBuffer) (mC m_Model_crcOfBuffer) (mL m_Model_crcOfBuffer) (mT m_Model_crcOfBuffer) ∈ zTb := tb_at 1019 (by decide +kernel) rfl
theorem y_Model_crcOfBuffer : (mY m_Model_crcOfBuffer).cls ≠ "java/lang/invoke/MethodHandle" ∧ (mY m_Model_crcOfBuffer).cls ≠ "java/lang/invoke/VarHandle" ∧ (parseMethodDescriptor (mY m_Model_crcOfBuffer).desc).map (fun d => d.parameters.length) = some 0 := by decide +kernel
theorem sel_Model_crcOfBuffer : Cond.selects R_Model (mY m_Model_crcOfBuffer) (mY m_Model_crcOfBuffer) ∈ zTb := sel_at (y := mY m_Model_crcOfBuffer) (n := 33) 38 (by decide +kernel)
theorem d_Model_crcOfBuffer_0 : decode (mC m_Model_crcOfBuffer) 0 = .ok (.iconst (-1), 1) := by decide +kernel
theorem d_Model_crcOfBuffer_1 : decode (mC m_Model_crcOfBuffer) 1 = .ok (.istore_n 1, 1) := by decide +kernel
theorem d_Model_crcOfBuffer_2 : decode (mC m_Model_crcOfBuffer) 2 = .ok (.iconst 0, 1) := by decide +kernel
theorem d_Model_crcOfBuffer_3 : decode (mC m_Model_crcOfBuffer) 3 = .ok (.istore_n 2, 1) := by decide +kernel
theorem d_Model_crcOfBuffer_4 : decode (mC m_Model_crcOfBuffer) 4 = .ok (.iload_n 2, 1) := by decide +kernel
theorem d_Model_crcOfBuffer_5 : decode (mC m_Model_crcOfBuffer) 5 = .ok (.aload_n 0, 1) := by decide +kernel
theorem d_Model_crcOfBuffer_6 : decode (mC m_Model_crcOfBuffer) 6 = .ok (.getfield 82, 3) := by decide +kernel
theorem d_Model_crcOfBuffer_9 : decode (mC m_Model_crcOfBuffer) 9 = .ok (.if_icmp .ge 20, 3) := by decide +kernel
theorem d_Model_crcOfBuffer_12 : decode (mC m_Model_crcOfBuffer) 12 = .ok (.iload_n 1, 1) := by decide +kernel
theorem d_Model_crcOfBuffer_13 : decode (mC m_Model_crcOfBuffer) 13 = .ok (.aload_n 0, 1) := by decide +kernel
theorem d_Model_crcOfBuffer_14 : decode (mC m_Model_crcOfBuffer) 14 = .ok (.getfield 7, 3) := by decide +kernel
theorem d_Model_crcOfBuffer_17 : decode (mC m_Model_crcOfBuffer) 17 = .ok (.iload_n 2, 1) := by decide +kernel
theorem d_Model_crcOfBuffer_18 : decode (mC m_Model_crcOfBuffer) 18 = .ok (.iaload, 1) := by decide +kernel
theorem d_Model_crcOfBuffer_19 : decode (mC m_Model_crcOfBuffer) 19 = .ok (.invokestatic 78, 3) := by decide +kernel
theorem d_Model_crcOfBuffer_22 : decode (mC m_Model_crcOfBuffer) 22 = .ok (.istore_n 1, 1) := by decide +kernel
theorem d_Model_crcOfBuffer_23 : decode (mC m_Model_crcOfBuffer) 23 = .ok (.iinc 2 1, 3) := by decide +kernel
theorem d_Model_crcOfBuffer_26 : decode (mC m_Model_crcOfBuffer) 26 = .ok (.goto (-22), 3) := by decide +kernel
theorem d_Model_crcOfBuffer_29 : decode (mC m_Model_crcOfBuffer) 29 = .ok (.iconst (-1), 1) := by decide +kernel
theorem d_Model_crcOfBuffer_30 : decode (mC m_Model_crcOfBuffer) 30 = .ok (.iload_n 1, 1) := by decide +kernel
theorem d_Model_crcOfBuffer_31 : decode (mC m_Model_crcOfBuffer) 31 = .ok (.isub, 1) := by decide +kernel
theorem d_Model_crcOfBuffer_32 : decode (mC m_Model_crcOfBuffer) 32 = .ok (.ireturn, 1) := by decide +kernel
def b_Model_crcOfBuffer_4 (F : Nat) (K4 : Nat → Int32 → Int32 → zW → Option (Int32 × zW)) (v0 : Nat) (v1 : Int32) (v2 : Int32) (w : zW) : Option (Int32 × zW) := (getI w v0 9 1).bind fun x6 => if x6 ≤ v2 then (some (((-1 : Int32) - v1), w)) else ((getR w v0 9 2).bind fun x14 => (aget w x14 v2).bind fun x18 => (f_Model_stir F v1 x18 w).bind fun r19 => K4 v0 r19.1 (v2 + (1 : Int32)) r19.2)
set_option maxRecDepth 100000 in
set_option maxHeartbeats 4000000 in
theorem b_Model_crcOfBuffer_4_ok (G : zG) (F : Nat) (K4 : Nat → Int32 → Int32 → zW → Option (Int32 × zW)) (hK4 : ∀ (v0 : Nat) (v1 : Int32) (v2 : Int32) (w : zW) (r : (Int32 × zW)), K4 v0 v1 v2 w = some r → zV G m_Model_crcOfBuffer 4 [(0, .ref (z0 G + v0)), (1, .int v1), (2, .int v2)] [] w 0 0 (oI r.1) r.2) (v0 : Nat) (v1 : Int32) (v2 : Int32) (w : zW) (r : (Int32 × zW)) (h : b_Model_crcOfBuffer_4 F K4 v0 v1 v2 w = some r) : zV G m_Model_crcOfBuffer 4 [(0, .ref (z0 G + v0)), (1, .int v1), (2, .int v2)] [] w 0 0 (oI r.1) r.2 := by
  unfold b_Model_crcOfBuffer_4 at h
  refine V_iload_n (i := 2) d_Model_crcOfBuffer_4 rfl 2 rfl ?_
  refine V_aload_n (i := 0) d_Model_crcOfBuffer_5 rfl 0 rfl ?_
  obtain ⟨x6, e6, h⟩ := ob h
  refine V_getI (ci := 9) (k := 1) d_Model_crcOfBuffer_6 e6 rfl (by decide) in_Model k883 ?_
  refine V_icmp_ge (tgt := 29) d_Model_crcOfBuffer_9 (by decide) (fun c9 => ?_) (fun c9 => ?_)
  · rw [if_pos c9] at h
    refine V_iconst (v := -1) d_Model_crcOfBuffer_29 (by decide) ?_
    refine V_iload_n (i := 1) d_Model_crcOfBuffer_30 rfl 1 rfl ?_
    refine V_isub d_Model_crcOfBuffer_31 ?_
    obtain rfl := Option.some.inj h
    exact V_iret rfl (by decide) (by decide) d_Model_crcOfBuffer_32
  · rw [if_neg c9] at h
    refine V_iload_n (i := 1) d_Model_crcOfBuffer_12 rfl 1 rfl ?_
    refine V_aload_n (i := 0) d_Model_crcOfBuffer_13 rfl 0 rfl ?_
    obtain ⟨x14, e14, h⟩ := ob h
    refine V_getR (ci := 9) (k := 2) d_Model_crcOfBuffer_14 e14 rfl (by decide) in_Model k884 ?_
    refine V_iload_n (i := 2) d_Model_crcOfBuffer_17 rfl 2 rfl ?_
    obtain ⟨x18, e18, h⟩ := ob h
    refine V_aget d_Model_crcOfBuffer_18 e18 ?_
    obtain ⟨r19, e19, h⟩ := ob h
    refine V_call (v := some (.int r19.1)) (st := []) (inv_S (N := m_Model_stir) (As := [.int v1, .int x18]) d_Model_crcOfBuffer_19 k1020 k1021 k10 (Or.inl kc_Model_stir) y_Model_stir) ⟨Or.inl kc_Model_stir, k10, by decide, by decide⟩ (Nat.le_of_ble_eq_true rfl) (by decide) (by decide) (c_Model_stir G F v1 x18 w r19 e19) ?_
    refine V_istore_n (i := 1) d_Model_crcOfBuffer_22 rfl (by decide) rfl ?_
    refine V_iinc (i := 2) (v := (v2 + (1 : Int32))) d_Model_crcOfBuffer_23 2 rfl (congrArg (fun y => v2 + y) (by decide : Int32.ofInt (1) = (1 : Int32))) (by decide) rfl ?_
    refine V_goto (tgt := 4) d_Model_crcOfBuffer_26 (by decide) ?_
    refine V_lv [2, 1, 0] rfl ?_
    exact hK4 v0 r19.1 (v2 + (1 : Int32)) r19.2 _ h
def l_Model_crcOfBuffer_4 (F : Nat) : Nat → Nat → Int32 → Int32 → zW → Option (Int32 × zW)
  | 0 => fun _ _ _ _ => none
  | n + 1 => b_Model_crcOfBuffer_4 F (l_Model_crcOfBuffer_4 F n)
theorem l_Model_crcOfBuffer_4_ok (G : zG) (F : Nat) (n : Nat) :  ∀ (v0 : Nat) (v1 : Int32) (v2 : Int32) (w : zW) (r : (Int32 × zW)), l_Model_crcOfBuffer_4 F n v0 v1 v2 w = some r → zV G m_Model_crcOfBuffer 4 [(0, .ref (z0 G + v0)), (1, .int v1), (2, .int v2)] [] w 0 0 (oI r.1) r.2 := by
  induction n with
  | zero => intro v0 v1 v2 w r h; exact nomatch (show (none : Option (Int32 × zW)) = some r from h)
  | succ n ih => intro v0 v1 v2 w r h; exact b_Model_crcOfBuffer_4_ok G F (l_Model_crcOfBuffer_4 F n) ih v0 v1 v2 w r h
def b_Model_crcOfBuffer_0 (F : Nat) (v0 : Nat) (w : zW) : Option (Int32 × zW) := l_Model_crcOfBuffer_4 F F v0 (-1 : Int32) (0 : Int32) w
set_option maxRecDepth 100000 in
set_option maxHeartbeats 4000000 in
theorem b_Model_crcOfBuffer_0_ok (G : zG) (F : Nat) (v0 : Nat) (w : zW) (r : (Int32 × zW)) (h : b_Model_crcOfBuffer_0 F v0 w = some r) : zV G m_Model_crcOfBuffer 0 [(0, .ref (z0 G + v0))] [] w 0 0 (oI r.1) r.2 := by
  unfold b_Model_crcOfBuffer_0 at h
  refine V_iconst (v := -1) d_Model_crcOfBuffer_0 (by decide) ?_
  refine V_istore_n (i := 1) d_Model_crcOfBuffer_1 rfl (by decide) rfl ?_
  refine V_iconst (v := 0) d_Model_crcOfBuffer_2 (by decide) ?_
  refine V_istore_n (i := 2) d_Model_crcOfBuffer_3 rfl (by decide) rfl ?_
  refine V_lv [2, 1, 0] rfl ?_
  exact l_Model_crcOfBuffer_4_ok G F F v0 (-1 : Int32) (0 : Int32) w _ h
def f_Model_crcOfBuffer (F : Nat) (v0 : Nat) (w : zW) : Option (Int32 × zW) := b_Model_crcOfBuffer_0 F v0 w
theorem c_Model_crcOfBuffer (G : zG) (F : Nat) (v0 : Nat) (w : zW) (r : (Int32 × zW)) (h : f_Model_crcOfBuffer F v0 w = some r) : zCT G m_Model_crcOfBuffer [.ref (z0 G + v0)] w (oI r.1) r.2 := zCT.ofV (by decide +kernel) (Or.inl ⟨kc_Model_crcOfBuffer, rfl⟩) (Nat.le_of_ble_eq_true rfl) (b_Model_crcOfBuffer_0_ok G F v0 w r h)

/-! ZipArrayModel.clear()I -/
def m_Model_clear : zM := (⟨R_Model, "clear", "()I"⟩, prog_11_method_7_code, 2, (some .int), [], { frames := 0, cells := 0, slots := 0, locals := 0 })
theorem kc_Model_clear : Cond.code (mY m_Model_clear) (mC m_Model_clear) (mL m_Model_clear) (mT m_Model_clear) ∈ zTb := tb_at 989 (by decide +kernel) rfl
theorem y_Model_clear : (mY m_Model_clear).cls ≠ "java/lang/invoke/MethodHandle" ∧ (mY m_Model_clear).cls ≠ "java/lang/invoke/VarHandle" ∧ (parseMethodDescriptor (mY m_Model_clear).desc).map (fun d => d.parameters.length) = some 0 := by decide +kernel
theorem d_Model_clear_0 : decode (mC m_Model_clear) 0 = .ok (.aload_n 0, 1) := by decide +kernel
theorem d_Model_clear_1 : decode (mC m_Model_clear) 1 = .ok (.iconst 0, 1) := by decide +kernel
theorem d_Model_clear_2 : decode (mC m_Model_clear) 2 = .ok (.putfield 70, 3) := by decide +kernel
theorem d_Model_clear_5 : decode (mC m_Model_clear) 5 = .ok (.aload_n 0, 1) := by decide +kernel
theorem d_Model_clear_6 : decode (mC m_Model_clear) 6 = .ok (.getfield 82, 3) := by decide +kernel
theorem d_Model_clear_9 : decode (mC m_Model_clear) 9 = .ok (.istore_n 1, 1) := by decide +kernel
theorem d_Model_clear_10 : decode (mC m_Model_clear) 10 = .ok (.aload_n 0, 1) := by decide +kernel
theorem d_Model_clear_11 : decode (mC m_Model_clear) 11 = .ok (.iconst 0, 1) := by decide +kernel
theorem d_Model_clear_12 : decode (mC m_Model_clear) 12 = .ok (.putfield 82, 3) := by decide +kernel
theorem d_Model_clear_15 : decode (mC m_Model_clear) 15 = .ok (.iload_n 1, 1) := by decide +kernel
theorem d_Model_clear_16 : decode (mC m_Model_clear) 16 = .ok (.ireturn, 1) := by decide +kernel
def b_Model_clear_0 (F : Nat) (v0 : Nat) (w : zW) : Option (Int32 × zW) := (putI w v0 9 0 (0 : Int32)).bind fun w2 => (getI w2 v0 9 1).bind fun x6 => (putI w2 v0 9 1 (0 : Int32)).bind fun w12 => some (x6, w12)
set_option maxRecDepth 100000 in
set_option maxHeartbeats 4000000 in
theorem b_Model_clear_0_ok (G : zG) (F : Nat) (v0 : Nat) (w : zW) (r : (Int32 × zW)) (h : b_Model_clear_0 F v0 w = some r) : zV G m_Model_clear 0 [(0, .ref (z0 G + v0))] [] w 0 0 (oI r.1) r.2 := by
  unfold b_Model_clear_0 at h
  refine V_aload_n (i := 0) d_Model_clear_0 rfl 0 rfl ?_
  refine V_iconst (v := 0) d_Model_clear_1 (by decide) ?_
  obtain ⟨w2, e2, h⟩ := ob h
  refine V_putI (ci := 9) (k := 0) t_Model d_Model_clear_2 e2 rfl (by decide) in_Model k882 ty_Model nm_Model rfl (Or.inl rfl) ?_
  refine V_aload_n (i := 0) d_Model_clear_5 rfl 0 rfl ?_
  obtain ⟨x6, e6, h⟩ := ob h
  refine V_getI (ci := 9) (k := 1) d_Model_clear_6 e6 rfl (by decide) in_Model k883 ?_
  refine V_istore_n (i := 1) d_Model_clear_9 rfl (by decide) rfl ?_
  refine V_aload_n (i := 0) d_Model_clear_10 rfl 1 rfl ?_
  refine V_iconst (v := 0) d_Model_clear_11 (by decide) ?_
  obtain ⟨w12, e12, h⟩ := ob h
  refine V_putI (ci := 9) (k := 1) t_Model d_Model_clear_12 e12 rfl (by decide) in_Model k883 ty_Model nm_Model rfl (Or.inl rfl) ?_
  refine V_iload_n (i := 1) d_Model_clear_15 rfl 0 rfl ?_
  obtain rfl := Option.some.inj h
  exact V_iret rfl (by decide) (by decide) d_Model_clear_16
def f_Model_clear (F : Nat) (v0 : Nat) (w : zW) : Option (Int32 × zW) := b_Model_clear_0 F v0 w
theorem c_Model_clear (G : zG) (F : Nat) (v0 : Nat) (w : zW) (r : (Int32 × zW)) (h : f_Model_clear F v0 w = some r) : zCT G m_Model_clear [.ref (z0 G + v0)] w (oI r.1) r.2 := zCT.ofV (by decide +kernel) (Or.inl ⟨kc_Model_clear, rfl⟩) (Nat.le_of_ble_eq_true rfl) (b_Model_clear_0_ok G F v0 w r h)

/-! ZipArrayModel.give(JI)I -/
def m_Model_give : zM := (⟨R_Model, "give", "(JI)I"⟩, prog_11_method_8_code, 5, (some .int), [], { frames := 1, cells := 0, slots := 0, locals := 25 })
theorem k994 : Cond.constantLong R_Model 85 8 ∈ zTb := tb_at 994 (by decide +kernel) rfl
theorem k995 : Cond.methodLink R_Model 87 (mY m_Model_within) ∈ zTb := tb_at 995 (by decide +kernel) rfl
theorem k996 : Cond.static (mY m_Model_within) ∈ zTb := tb_at 996 (by decide +kernel) rfl
theorem kc_Model_give : Cond.code (mY m_Model_give) (mC m_Model_give) (mL m_Model_give) (mT m_Model_give) ∈ zTb := tb_at 993 (by decide +kernel) rfl
theorem y_Model_give : (mY m_Model_give).cls ≠ "java/lang/invoke/MethodHandle" ∧ (mY m_Model_give).cls ≠ "java/lang/invoke/VarHandle" ∧ (parseMethodDescriptor (mY m_Model_give).desc).map (fun d => d.parameters.length) = some 2 := by decide +kernel
theorem d_Model_give_0 : decode (mC m_Model_give) 0 = .ok (.aload_n 0, 1) := by decide +kernel
theorem d_Model_give_1 : decode (mC m_Model_give) 1 = .ok (.iload_n 3, 1) := by decide +kernel
theorem d_Model_give_2 : decode (mC m_Model_give) 2 = .ok (.i2l, 1) := by decide +kernel
theorem d_Model_give_3 : decode (mC m_Model_give) 3 = .ok (.lconst 1, 1) := by decide +kernel
theorem d_Model_give_4 : decode (mC m_Model_give) 4 = .ok (.ldc2_w 85, 3) := by decide +kernel
theorem d_Model_give_7 : decode (mC m_Model_give) 7 = .ok (.invokestatic 87, 3) := by decide +kernel
theorem d_Model_give_10 : decode (mC m_Model_give) 10 = .ok (.ifCond .ne 7, 3) := by decide +kernel
theorem d_Model_give_13 : decode (mC m_Model_give) 13 = .ok (.iconst 1, 1) := by decide +kernel
theorem d_Model_give_14 : decode (mC m_Model_give) 14 = .ok (.goto 20, 3) := by decide +kernel
theorem d_Model_give_17 : decode (mC m_Model_give) 17 = .ok (.aload_n 0, 1) := by decide +kernel
theorem d_Model_give_18 : decode (mC m_Model_give) 18 = .ok (.getfield 82, 3) := by decide +kernel
theorem d_Model_give_21 : decode (mC m_Model_give) 21 = .ok (.iload_n 3, 1) := by decide +kernel
theorem d_Model_give_22 : decode (mC m_Model_give) 22 = .ok (.iadd, 1) := by decide +kernel
theorem d_Model_give_23 : decode (mC m_Model_give) 23 = .ok (.sipush 200, 3) := by decide +kernel
theorem d_Model_give_26 : decode (mC m_Model_give) 26 = .ok (.if_icmp .le 7, 3) := by decide +kernel
theorem d_Model_give_29 : decode (mC m_Model_give) 29 = .ok (.iconst 2, 1) := by decide +kernel
theorem d_Model_give_30 : decode (mC m_Model_give) 30 = .ok (.goto 4, 3) := by decide +kernel
theorem d_Model_give_33 : decode (mC m_Model_give) 33 = .ok (.iconst 0, 1) := by decide +kernel
theorem d_Model_give_34 : decode (mC m_Model_give) 34 = .ok (.putfield 70, 3) := by decide +kernel
theorem d_Model_give_37 : decode (mC m_Model_give) 37 = .ok (.iload_n 3, 1) := by decide +kernel
theorem d_Model_give_38 : decode (mC m_Model_give) 38 = .ok (.iconst 1, 1) := by decide +kernel
theorem d_Model_give_39 : decode (mC m_Model_give) 39 = .ok (.isub, 1) := by decide +kernel
theorem d_Model_give_40 : decode (mC m_Model_give) 40 = .ok (.istore 4, 2) := by decide +kernel
theorem d_Model_give_42 : decode (mC m_Model_give) 42 = .ok (.iload 4, 2) := by decide +kernel
theorem d_Model_give_44 : decode (mC m_Model_give) 44 = .ok (.ifCond .lt 47, 3) := by decide +kernel
theorem d_Model_give_47 : decode (mC m_Model_give) 47 = .ok (.aload_n 0, 1) := by decide +kernel
theorem d_Model_give_48 : decode (mC m_Model_give) 48 = .ok (.getfield 70, 3) := by decide +kernel
theorem d_Model_give_51 : decode (mC m_Model_give) 51 = .ok (.ifCond .ne 40, 3) := by decide +kernel
theorem d_Model_give_54 : decode (mC m_Model_give) 54 = .ok (.aload_n 0, 1) := by decide +kernel
theorem d_Model_give_55 : decode (mC m_Model_give) 55 = .ok (.getfield 7, 3) := by decide +kernel
theorem d_Model_give_58 : decode (mC m_Model_give) 58 = .ok (.aload_n 0, 1) := by decide +kernel
theorem d_Model_give_59 : decode (mC m_Model_give) 59 = .ok (.getfield 82, 3) := by decide +kernel
theorem d_Model_give_62 : decode (mC m_Model_give) 62 = .ok (.lload_n 1, 1) := by decide +kernel
theorem d_Model_give_63 : decode (mC m_Model_give) 63 = .ok (.bipush 8, 2) := by decide +kernel
theorem d_Model_give_65 : decode (mC m_Model_give) 65 = .ok (.iload 4, 2) := by decide +kernel
theorem d_Model_give_67 : decode (mC m_Model_give) 67 = .ok (.imul, 1) := by decide +kernel
theorem d_Model_give_68 : decode (mC m_Model_give) 68 = .ok (.lshr, 1) := by decide +kernel
theorem d_Model_give_69 : decode (mC m_Model_give) 69 = .ok (.l2i, 1) := by decide +kernel
theorem d_Model_give_70 : decode (mC m_Model_give) 70 = .ok (.sipush 255, 3) := by decide +kernel
theorem d_Model_give_73 : decode (mC m_Model_give) 73 = .ok (.iand, 1) := by decide +kernel
theorem d_Model_give_74 : decode (mC m_Model_give) 74 = .ok (.iastore, 1) := by decide +kernel
theorem d_Model_give_75 : decode (mC m_Model_give) 75 = .ok (.aload_n 0, 1) := by decide +kernel
theorem d_Model_give_76 : decode (mC m_Model_give) 76 = .ok (.dup, 1) := by decide +kernel
theorem d_Model_give_77 : decode (mC m_Model_give) 77 = .ok (.getfield 82, 3) := by decide +kernel
theorem d_Model_give_80 : decode (mC m_Model_give) 80 = .ok (.iconst 1, 1) := by decide +kernel
theorem d_Model_give_81 : decode (mC m_Model_give) 81 = .ok (.iadd, 1) := by decide +kernel
theorem d_Model_give_82 : decode (mC m_Model_give) 82 = .ok (.putfield 82, 3) := by decide +kernel
theorem d_Model_give_85 : decode (mC m_Model_give) 85 = .ok (.iinc 4 (-1), 3) := by decide +kernel
theorem d_Model_give_88 : decode (mC m_Model_give) 88 = .ok (.goto (-46), 3) := by decide +kernel
theorem d_Model_give_91 : decode (mC m_Model_give) 91 = .ok (.aload_n 0, 1) := by decide +kernel
theorem d_Model_give_92 : decode (mC m_Model_give) 92 = .ok (.getfield 70, 3) := by decide +kernel
theorem d_Model_give_95 : decode (mC m_Model_give) 95 = .ok (.ifCond .le 7, 3) := by decide +kernel
theorem d_Model_give_98 : decode (mC m_Model_give) 98 = .ok (.iconst 0, 1) := by decide +kernel
theorem d_Model_give_99 : decode (mC m_Model_give) 99 = .ok (.goto 7, 3) := by decide +kernel
theorem d_Model_give_102 : decode (mC m_Model_give) 102 = .ok (.aload_n 0, 1) := by decide +kernel
theorem d_Model_give_103 : decode (mC m_Model_give) 103 = .ok (.getfield 82, 3) := by decide +kernel
theorem d_Model_give_106 : decode (mC m_Model_give) 106 = .ok (.ireturn, 1) := by decide +kernel
def b_Model_give_91 (F : Nat) (v0 : Nat) (w : zW) : Option (Int32 × zW) := (getI w v0 9 0).bind fun x92 => if x92 ≤ 0 then ((getI w v0 9 1).bind fun x103 => some (x103, w)) else (some ((0 : Int32), w))
set_option maxRecDepth 100000 in
set_option maxHeartbeats 4000000 in
theorem b_Model_give_91_ok (G : zG) (F : Nat) (v0 : Nat) (w : zW) (r : (Int32 × zW)) (h : b_Model_give_91 F v0 w = some r) : zV G m_Model_give 91 [(0, .ref (z0 G + v0))] [] w 0 0 (oI r.1) r.2 := by
  unfold b_Model_give_91 at h
  refine V_aload_n (i := 0) d_Model_give_91 rfl 0 rfl ?_
  obtain ⟨x92, e92, h⟩ := ob h
  refine V_getI (ci := 9) (k := 0) d_Model_give_92 e92 rfl (by decide) in_Model k882 ?_
  refine V_if_le (tgt := 102) d_Model_give_95 (by decide) (fun c95 => ?_) (fun c95 => ?_)
  · rw [if_pos c95] at h
    refine V_aload_n (i := 0) d_Model_give_102 rfl 0 rfl ?_
    obtain ⟨x103, e103, h⟩ := ob h
    refine V_getI (ci := 9) (k := 1) d_Model_give_103 e103 rfl (by decide) in_Model k883 ?_
    obtain rfl := Option.some.inj h
    exact V_iret rfl (by decide) (by decide) d_Model_give_106
  · rw [if_neg c95] at h
    refine V_iconst (v := 0) d_Model_give_98 (by decide) ?_
    refine V_goto (tgt := 106) d_Model_give_99 (by decide) ?_
    obtain rfl := Option.some.inj h
    exact V_iret rfl (by decide) (by decide) d_Model_give_106
def b_Model_give_42 (F : Nat) (K42 : Nat → Int64 → Int32 → zW → Option (Int32 × zW)) (v0 : Nat) (v1 : Int64) (v4 : Int32) (w : zW) : Option (Int32 × zW) := if v4 < 0 then (b_Model_give_91 F v0 w) else ((getI w v0 9 0).bind fun x48 => if x48 = 0 then ((getR w v0 9 2).bind fun x55 => (getI w v0 9 1).bind fun x59 => (aset w x55 x59 ((v1 >>> (((8 : Int32) * v4).toInt64 &&& 63)).toInt32 &&& (255 : Int32))).bind fun w74 => (getI w74 v0 9 1).bind fun x77 => (putI w74 v0 9 1 (x77 + (1 : Int32))).bind fun w82 => K42 v0 v1 (v4 + (-1 : Int32)) w82) else (b_Model_give_91 F v0 w))
set_option maxRecDepth 100000 in
set_option maxHeartbeats 4000000 in
theorem b_Model_give_42_ok (G : zG) (F : Nat) (K42 : Nat → Int64 → Int32 → zW → Option (Int32 × zW)) (hK42 : ∀ (v0 : Nat) (v1 : Int64) (v4 : Int32) (w : zW) (r : (Int32 × zW)), K42 v0 v1 v4 w = some r → zV G m_Model_give 42 [(0, .ref (z0 G + v0)), (1, .long v1), (4, .int v4)] [] w 0 0 (oI r.1) r.2) (v0 : Nat) (v1 : Int64) (v4 : Int32) (w : zW) (r : (Int32 × zW)) (h : b_Model_give_42 F K42 v0 v1 v4 w = some r) : zV G m_Model_give 42 [(0, .ref (z0 G + v0)), (1, .long v1), (4, .int v4)] [] w 0 0 (oI r.1) r.2 := by
  unfold b_Model_give_42 at h
  refine V_iload (i := 4) d_Model_give_42 2 rfl ?_
  refine V_if_lt (tgt := 91) d_Model_give_44 (by decide) (fun c44 => ?_) (fun c44 => ?_)
  · rw [if_pos c44] at h
    refine V_lv [0] rfl ?_
    exact b_Model_give_91_ok G F v0 w _ h
  · rw [if_neg c44] at h
    refine V_aload_n (i := 0) d_Model_give_47 rfl 0 rfl ?_
    obtain ⟨x48, e48, h⟩ := ob h
    refine V_getI (ci := 9) (k := 0) d_Model_give_48 e48 rfl (by decide) in_Model k882 ?_
    refine V_if_ne (tgt := 91) d_Model_give_51 (by decide) (fun c51 => ?_) (fun c51 => ?_)
    · rw [if_neg c51] at h
      refine V_lv [0] rfl ?_
      exact b_Model_give_91_ok G F v0 w _ h
    · rw [if_pos c51] at h
      refine V_aload_n (i := 0) d_Model_give_54 rfl 0 rfl ?_
      obtain ⟨x55, e55, h⟩ := ob h
      refine V_getR (ci := 9) (k := 2) d_Model_give_55 e55 rfl (by decide) in_Model k884 ?_
      refine V_aload_n (i := 0) d_Model_give_58 rfl 0 rfl ?_
      obtain ⟨x59, e59, h⟩ := ob h
      refine V_getI (ci := 9) (k := 1) d_Model_give_59 e59 rfl (by decide) in_Model k883 ?_
      refine V_lload_n (i := 1) d_Model_give_62 rfl 1 rfl ?_
      refine V_bipush (v := 8) d_Model_give_63 (by decide) ?_
      refine V_iload (i := 4) d_Model_give_65 2 rfl ?_
      refine V_imul d_Model_give_67 ?_
      refine V_lshr d_Model_give_68 ?_
      refine V_l2i d_Model_give_69 ?_
      refine V_sipush (v := 255) d_Model_give_70 (by decide) ?_
      refine V_iand d_Model_give_73 ?_
      obtain ⟨w74, e74, h⟩ := ob h
      refine V_aset d_Model_give_74 e74 ?_
      refine V_aload_n (i := 0) d_Model_give_75 rfl 0 rfl ?_
      refine V_dup rfl d_Model_give_76 ?_
      obtain ⟨x77, e77, h⟩ := ob h
      refine V_getI (ci := 9) (k := 1) d_Model_give_77 e77 rfl (by decide) in_Model k883 ?_
      refine V_iconst (v := 1) d_Model_give_80 (by decide) ?_
      refine V_iadd d_Model_give_81 ?_
      obtain ⟨w82, e82, h⟩ := ob h
      refine V_putI (ci := 9) (k := 1) t_Model d_Model_give_82 e82 rfl (by decide) in_Model k883 ty_Model nm_Model rfl (Or.inl rfl) ?_
      refine V_iinc (i := 4) (v := (v4 + (-1 : Int32))) d_Model_give_85 2 rfl (congrArg (fun y => v4 + y) (by decide : Int32.ofInt (-1) = (-1 : Int32))) (by decide) rfl ?_
      refine V_goto (tgt := 42) d_Model_give_88 (by decide) ?_
      refine V_lv [1, 2, 0] rfl ?_
      exact hK42 v0 v1 (v4 + (-1 : Int32)) w82 _ h
def l_Model_give_42 (F : Nat) : Nat → Nat → Int64 → Int32 → zW → Option (Int32 × zW)
  | 0 => fun _ _ _ _ => none
  | n + 1 => b_Model_give_42 F (l_Model_give_42 F n)
theorem l_Model_give_42_ok (G : zG) (F : Nat) (n : Nat) :  ∀ (v0 : Nat) (v1 : Int64) (v4 : Int32) (w : zW) (r : (Int32 × zW)), l_Model_give_42 F n v0 v1 v4 w = some r → zV G m_Model_give 42 [(0, .ref (z0 G + v0)), (1, .long v1), (4, .int v4)] [] w 0 0 (oI r.1) r.2 := by
  induction n with
  | zero => intro v0 v1 v4 w r h; exact nomatch (show (none : Option (Int32 × zW)) = some r from h)
  | succ n ih => intro v0 v1 v4 w r h; exact b_Model_give_42_ok G F (l_Model_give_42 F n) ih v0 v1 v4 w r h
def b_Model_give_34 (F : Nat) (v0 : Nat) (v1 : Int64) (v3 : Int32) (s0 : Nat) (s1 : Int32) (w : zW) : Option (Int32 × zW) := (putI w s0 9 0 s1).bind fun w34 => l_Model_give_42 F F v0 v1 (v3 - (1 : Int32)) w34
set_option maxRecDepth 100000 in
set_option maxHeartbeats 4000000 in
theorem b_Model_give_34_ok (G : zG) (F : Nat) (v0 : Nat) (v1 : Int64) (v3 : Int32) (s0 : Nat) (s1 : Int32) (w : zW) (r : (Int32 × zW)) (h : b_Model_give_34 F v0 v1 v3 s0 s1 w = some r) : zV G m_Model_give 34 [(0, .ref (z0 G + v0)), (1, .long v1), (3, .int v3)] [.int s1, .ref (z0 G + s0)] w 0 0 (oI r.1) r.2 := by
  unfold b_Model_give_34 at h
  obtain ⟨w34, e34, h⟩ := ob h
  refine V_putI (ci := 9) (k := 0) t_Model d_Model_give_34 e34 rfl (by decide) in_Model k882 ty_Model nm_Model rfl (Or.inl rfl) ?_
  refine V_iload_n (i := 3) d_Model_give_37 rfl 2 rfl ?_
  refine V_iconst (v := 1) d_Model_give_38 (by decide) ?_
  refine V_isub d_Model_give_39 ?_
  refine V_istore (i := 4) d_Model_give_40 (by decide) rfl ?_
  refine V_lv [1, 2, 0] rfl ?_
  exact l_Model_give_42_ok G F F v0 v1 (v3 - (1 : Int32)) w34 _ h
def b_Model_give_0 (F : Nat) (v0 : Nat) (v1 : Int64) (v3 : Int32) (w : zW) : Option (Int32 × zW) := (f_Model_within F v3.toInt64 (1 : Int64) (8 : Int64) w).bind fun r7 => if r7.1 = 0 then (b_Model_give_34 F v0 v1 v3 v0 (1 : Int32) r7.2) else ((getI r7.2 v0 9 1).bind fun x18 => if (x18 + v3) ≤ (200 : Int32) then (b_Model_give_34 F v0 v1 v3 v0 (0 : Int32) r7.2) else (b_Model_give_34 F v0 v1 v3 v0 (2 : Int32) r7.2))
set_option maxRecDepth 100000 in
set_option maxHeartbeats 4000000 in
theorem b_Model_give_0_ok (G : zG) (F : Nat) (v0 : Nat) (v1 : Int64) (v3 : Int32) (w : zW) (r : (Int32 × zW)) (h : b_Model_give_0 F v0 v1 v3 w = some r) : zV G m_Model_give 0 [(0, .ref (z0 G + v0)), (1, .long v1), (3, .int v3)] [] w 0 0 (oI r.1) r.2 := by
  unfold b_Model_give_0 at h
  refine V_aload_n (i := 0) d_Model_give_0 rfl 0 rfl ?_
  refine V_iload_n (i := 3) d_Model_give_1 rfl 2 rfl ?_
  refine V_i2l d_Model_give_2 ?_
  refine V_lconst (v := 1) d_Model_give_3 (by decide) ?_
  refine V_ldc2 (v := 8) d_Model_give_4 k994 ?_
  obtain ⟨r7, e7, h⟩ := ob h
  refine V_call (v := some (.int r7.1)) (st := [.ref (z0 G + v0)]) (inv_S (N := m_Model_within) (As := [.long v3.toInt64, .long (1 : Int64), .long (8 : Int64)]) d_Model_give_7 k995 k996 k10 (Or.inl kc_Model_within) y_Model_within) ⟨Or.inl kc_Model_within, k10, by decide, by decide⟩ (Nat.le_of_ble_eq_true rfl) (by decide) (by decide) (c_Model_within G F v3.toInt64 (1 : Int64) (8 : Int64) w r7 e7) ?_
  refine V_if_ne (tgt := 17) d_Model_give_10 (by decide) (fun c10 => ?_) (fun c10 => ?_)
  · rw [if_neg c10] at h
    refine V_aload_n (i := 0) d_Model_give_17 rfl 0 rfl ?_
    obtain ⟨x18, e18, h⟩ := ob h
    refine V_getI (ci := 9) (k := 1) d_Model_give_18 e18 rfl (by decide) in_Model k883 ?_
    refine V_iload_n (i := 3) d_Model_give_21 rfl 2 rfl ?_
    refine V_iadd d_Model_give_22 ?_
    refine V_sipush (v := 200) d_Model_give_23 (by decide) ?_
    refine V_icmp_le (tgt := 33) d_Model_give_26 (by decide) (fun c26 => ?_) (fun c26 => ?_)
    · rw [if_pos c26] at h
      refine V_iconst (v := 0) d_Model_give_33 (by decide) ?_
      exact b_Model_give_34_ok G F v0 v1 v3 v0 (0 : Int32) r7.2 _ h
    · rw [if_neg c26] at h
      refine V_iconst (v := 2) d_Model_give_29 (by decide) ?_
      refine V_goto (tgt := 34) d_Model_give_30 (by decide) ?_
      exact b_Model_give_34_ok G F v0 v1 v3 v0 (2 : Int32) r7.2 _ h
  · rw [if_pos c10] at h
    refine V_iconst (v := 1) d_Model_give_13 (by decide) ?_
    refine V_goto (tgt := 34) d_Model_give_14 (by decide) ?_
    exact b_Model_give_34_ok G F v0 v1 v3 v0 (1 : Int32) r7.2 _ h
def f_Model_give (F : Nat) (v0 : Nat) (v1 : Int64) (v3 : Int32) (w : zW) : Option (Int32 × zW) := b_Model_give_0 F v0 v1 v3 w
theorem c_Model_give (G : zG) (F : Nat) (v0 : Nat) (v1 : Int64) (v3 : Int32) (w : zW) (r : (Int32 × zW)) (h : f_Model_give F v0 v1 v3 w = some r) : zCT G m_Model_give [.ref (z0 G + v0), .long v1, .int v3] w (oI r.1) r.2 := zCT.ofV (by decide +kernel) (Or.inl ⟨kc_Model_give, rfl⟩) (Nat.le_of_ble_eq_true rfl) (b_Model_give_0_ok G F v0 v1 v3 w r h)

/-! ZipArrayModel.fill(II)I -/
def m_Model_fill : zM := (⟨R_Model, "fill", "(II)I"⟩, prog_11_method_9_code, 4, (some .int), [], { frames := 1, cells := 0, slots := 0, locals := 25 })
theorem k1002 : Cond.constantLong R_Model 91 255 ∈ zTb := tb_at 1002 (by decide +kernel) rfl
theorem k1003 : Cond.constantLong R_Model 93 200 ∈ zTb := tb_at 1003 (by decide +kernel) rfl
theorem kc_Model_fill : Cond.code (mY m_Model_fill) (mC m_Model_fill) (mL m_Model_fill) (mT m_Model_fill) ∈ zTb := tb_at 1001 (by decide +kernel) rfl
theorem y_Model_fill : (mY m_Model_fill).cls ≠ "java/lang/invoke/MethodHandle" ∧ (mY m_Model_fill).cls ≠ "java/lang/invoke/VarHandle" ∧ (parseMethodDescriptor (mY m_Model_fill).desc).map (fun d => d.parameters.length) = some 2 := by decide +kernel
theorem d_Model_fill_0 : decode (mC m_Model_fill) 0 = .ok (.aload_n 0, 1) := by decide +kernel
theorem d_Model_fill_1 : decode (mC m_Model_fill) 1 = .ok (.iload_n 1, 1) := by decide +kernel
theorem d_Model_fill_2 : decode (mC m_Model_fill) 2 = .ok (.i2l, 1) := by decide +kernel
theorem d_Model_fill_3 : decode (mC m_Model_fill) 3 = .ok (.lconst 0, 1) := by decide +kernel
theorem d_Model_fill_4 : decode (mC m_Model_fill) 4 = .ok (.ldc2_w 91, 3) := by decide +kernel
theorem d_Model_fill_7 : decode (mC m_Model_fill) 7 = .ok (.invokestatic 87, 3) := by decide +kernel
theorem d_Model_fill_10 : decode (mC m_Model_fill) 10 = .ok (.ifCond .eq 15, 3) := by decide +kernel
theorem d_Model_fill_13 : decode (mC m_Model_fill) 13 = .ok (.iload_n 2, 1) := by decide +kernel
theorem d_Model_fill_14 : decode (mC m_Model_fill) 14 = .ok (.i2l, 1) := by decide +kernel
theorem d_Model_fill_15 : decode (mC m_Model_fill) 15 = .ok (.lconst 1, 1) := by decide +kernel
theorem d_Model_fill_16 : decode (mC m_Model_fill) 16 = .ok (.ldc2_w 93, 3) := by decide +kernel
theorem d_Model_fill_19 : decode (mC m_Model_fill) 19 = .ok (.invokestatic 87, 3) := by decide +kernel
theorem d_Model_fill_22 : decode (mC m_Model_fill) 22 = .ok (.ifCond .ne 7, 3) := by decide +kernel
theorem d_Model_fill_25 : decode (mC m_Model_fill) 25 = .ok (.iconst 1, 1) := by decide +kernel
theorem d_Model_fill_26 : decode (mC m_Model_fill) 26 = .ok (.goto 20, 3) := by decide +kernel
theorem d_Model_fill_29 : decode (mC m_Model_fill) 29 = .ok (.aload_n 0, 1) := by decide +kernel
theorem d_Model_fill_30 : decode (mC m_Model_fill) 30 = .ok (.getfield 82, 3) := by decide +kernel
theorem d_Model_fill_33 : decode (mC m_Model_fill) 33 = .ok (.iload_n 2, 1) := by decide +kernel
theorem d_Model_fill_34 : decode (mC m_Model_fill) 34 = .ok (.iadd, 1) := by decide +kernel
theorem d_Model_fill_35 : decode (mC m_Model_fill) 35 = .ok (.sipush 200, 3) := by decide +kernel
theorem d_Model_fill_38 : decode (mC m_Model_fill) 38 = .ok (.if_icmp .le 7, 3) := by decide +kernel
theorem d_Model_fill_41 : decode (mC m_Model_fill) 41 = .ok (.iconst 2, 1) := by decide +kernel
theorem d_Model_fill_42 : decode (mC m_Model_fill) 42 = .ok (.goto 4, 3) := by decide +kernel
theorem d_Model_fill_45 : decode (mC m_Model_fill) 45 = .ok (.iconst 0, 1) := by decide +kernel
theorem d_Model_fill_46 : decode (mC m_Model_fill) 46 = .ok (.putfield 70, 3) := by decide +kernel
theorem d_Model_fill_49 : decode (mC m_Model_fill) 49 = .ok (.iconst 0, 1) := by decide +kernel
theorem d_Model_fill_50 : decode (mC m_Model_fill) 50 = .ok (.istore_n 3, 1) := by decide +kernel
theorem d_Model_fill_51 : decode (mC m_Model_fill) 51 = .ok (.iload_n 3, 1) := by decide +kernel
theorem d_Model_fill_52 : decode (mC m_Model_fill) 52 = .ok (.iload_n 2, 1) := by decide +kernel
theorem d_Model_fill_53 : decode (mC m_Model_fill) 53 = .ok (.if_icmp .ge 36, 3) := by decide +kernel
theorem d_Model_fill_56 : decode (mC m_Model_fill) 56 = .ok (.aload_n 0, 1) := by decide +kernel
theorem d_Model_fill_57 : decode (mC m_Model_fill) 57 = .ok (.getfield 70, 3) := by decide +kernel
theorem d_Model_fill_60 : decode (mC m_Model_fill) 60 = .ok (.ifCond .ne 29, 3) := by decide +kernel
theorem d_Model_fill_63 : decode (mC m_Model_fill) 63 = .ok (.aload_n 0, 1) := by decide +kernel
theorem d_Model_fill_64 : decode (mC m_Model_fill) 64 = .ok (.getfield 7, 3) := by decide +kernel
theorem d_Model_fill_67 : decode (mC m_Model_fill) 67 = .ok (.aload_n 0, 1) := by decide +kernel
theorem d_Model_fill_68 : decode (mC m_Model_fill) 68 = .ok (.getfield 82, 3) := by decide +kernel
theorem d_Model_fill_71 : decode (mC m_Model_fill) 71 = .ok (.iload_n 1, 1) := by decide +kernel
theorem d_Model_fill_72 : decode (mC m_Model_fill) 72 = .ok (.iastore, 1) := by decide +kernel
theorem d_Model_fill_73 : decode (mC m_Model_fill) 73 = .ok (.aload_n 0, 1) := by decide +kernel
theorem d_Model_fill_74 : decode (mC m_Model_fill) 74 = .ok (.dup, 1) := by decide +kernel
theorem d_Model_fill_75 : decode (mC m_Model_fill) 75 = .ok (.getfield 82, 3) := by decide +kernel
theorem d_Model_fill_78 : decode (mC m_Model_fill) 78 = .ok (.iconst 1, 1) := by decide +kernel
theorem d_Model_fill_79 : decode (mC m_Model_fill) 79 = .ok (.iadd, 1) := by decide +kernel
theorem d_Model_fill_80 : decode (mC m_Model_fill) 80 = .ok (.putfield 82, 3) := by decide +kernel
theorem d_Model_fill_83 : decode (mC m_Model_fill) 83 = .ok (.iinc 3 1, 3) := by decide +kernel
theorem d_Model_fill_86 : decode (mC m_Model_fill) 86 = .ok (.goto (-35), 3) := by decide +kernel
theorem d_Model_fill_89 : decode (mC m_Model_fill) 89 = .ok (.aload_n 0, 1) := by decide +kernel
theorem d_Model_fill_90 : decode (mC m_Model_fill) 90 = .ok (.getfield 70, 3) := by decide +kernel
theorem d_Model_fill_93 : decode (mC m_Model_fill) 93 = .ok (.ifCond .le 7, 3) := by decide +kernel
theorem d_Model_fill_96 : decode (mC m_Model_fill) 96 = .ok (.iconst 0, 1) := by decide +kernel
theorem d_Model_fill_97 : decode (mC m_Model_fill) 97 = .ok (.goto 7, 3) := by decide +kernel
theorem d_Model_fill_100 : decode (mC m_Model_fill) 100 = .ok (.aload_n 0, 1) := by decide +kernel
theorem d_Model_fill_101 : decode (mC m_Model_fill) 101 = .ok (.getfield 82, 3) := by decide +kernel
theorem d_Model_fill_104 : decode (mC m_Model_fill) 104 = .ok (.ireturn, 1) := by decide +kernel
def b_Model_fill_89 (F : Nat) (v0 : Nat) (w : zW) : Option (Int32 × zW) := (getI w v0 9 0).bind fun x90 => if x90 ≤ 0 then ((getI w v0 9 1).bind fun x101 => some (x101, w)) else (some ((0 : Int32), w))
set_option maxRecDepth 100000 in
set_option maxHeartbeats 4000000 in
theorem b_Model_fill_89_ok (G : zG) (F : Nat) (v0 : Nat) (w : zW) (r : (Int32 × zW)) (h : b_Model_fill_89 F v0 w = some r) : zV G m_Model_fill 89 [(0, .ref (z0 G + v0))] [] w 0 0 (oI r.1) r.2 := by
  unfold b_Model_fill_89 at h
  refine V_aload_n (i := 0) d_Model_fill_89 rfl 0 rfl ?_
  obtain ⟨x90, e90, h⟩ := ob h
  refine V_getI (ci := 9) (k := 0) d_Model_fill_90 e90 rfl (by decide) in_Model k882 ?_
  refine V_if_le (tgt := 100) d_Model_fill_93 (by decide) (fun c93 => ?_) (fun c93 => ?_)
  · rw [if_pos c93] at h
    refine V_aload_n (i := 0) d_Model_fill_100 rfl 0 rfl ?_
    obtain ⟨x101, e101, h⟩ := ob h
    refine V_getI (ci := 9) (k := 1) d_Model_fill_101 e101 rfl (by decide) in_Model k883 ?_
    obtain rfl := Option.some.inj h
    exact V_iret rfl (by decide) (by decide) d_Model_fill_104
  · rw [if_neg c93] at h
    refine V_iconst (v := 0) d_Model_fill_96 (by decide) ?_
    refine V_goto (tgt := 104) d_Model_fill_97 (by decide) ?_
    obtain rfl := Option.some.inj h
    exact V_iret rfl (by decide) (by decide) d_Model_fill_104
def b_Model_fill_51 (F : Nat) (K51 : Nat → Int32 → Int32 → Int32 → zW → Option (Int32 × zW)) (v0 : Nat) (v1 : Int32) (v2 : Int32) (v3 : Int32) (w : zW) : Option (Int32 × zW) := if v2 ≤ v3 then (b_Model_fill_89 F v0 w) else ((getI w v0 9 0).bind fun x57 => if x57 = 0 then ((getR w v0 9 2).bind fun x64 => (getI w v0 9 1).bind fun x68 => (aset w x64 x68 v1).bind fun w72 => (getI w72 v0 9 1).bind fun x75 => (putI w72 v0 9 1 (x75 + (1 : Int32))).bind fun w80 => K51 v0 v1 v2 (v3 + (1 : Int32)) w80) else (b_Model_fill_89 F v0 w))
set_option maxRecDepth 100000 in
set_option maxHeartbeats 4000000 in
theorem b_Model_fill_51_ok (G : zG) (F : Nat) (K51 : Nat → Int32 → Int32 → Int32 → zW → Option (Int32 × zW)) (hK51 : ∀ (v0 : Nat) (v1 : Int32) (v2 : Int32) (v3 : Int32) (w : zW) (r : (Int32 × zW)), K51 v0 v1 v2 v3 w = some r → zV G m_Model_fill 51 [(0, .ref (z0 G + v0)), (1, .int v1), (2, .int v2), (3, .int v3)] [] w 0 0 (oI r.1) r.2) (v0 : Nat) (v1 : Int32) (v2 : Int32) (v3 : Int32) (w : zW) (r : (Int32 × zW)) (h : b_Model_fill_51 F K51 v0 v1 v2 v3 w = some r) : zV G m_Model_fill 51 [(0, .ref (z0 G + v0)), (1, .int v1), (2, .int v2), (3, .int v3)] [] w 0 0 (oI r.1) r.2 := by
  unfold b_Model_fill_51 at h
  refine V_iload_n (i := 3) d_Model_fill_51 rfl 3 rfl ?_
  refine V_iload_n (i := 2) d_Model_fill_52 rfl 2 rfl ?_
  refine V_icmp_ge (tgt := 89) d_Model_fill_53 (by decide) (fun c53 => ?_) (fun c53 => ?_)
  · rw [if_pos c53] at h
    refine V_lv [0] rfl ?_
    exact b_Model_fill_89_ok G F v0 w _ h
  · rw [if_neg c53] at h
    refine V_aload_n (i := 0) d_Model_fill_56 rfl 0 rfl ?_
    obtain ⟨x57, e57, h⟩ := ob h
    refine V_getI (ci := 9) (k := 0) d_Model_fill_57 e57 rfl (by decide) in_Model k882 ?_
    refine V_if_ne (tgt := 89) d_Model_fill_60 (by decide) (fun c60 => ?_) (fun c60 => ?_)
    · rw [if_neg c60] at h
      refine V_lv [0] rfl ?_
      exact b_Model_fill_89_ok G F v0 w _ h
    · rw [if_pos c60] at h
      refine V_aload_n (i := 0) d_Model_fill_63 rfl 0 rfl ?_
      obtain ⟨x64, e64, h⟩ := ob h
      refine V_getR (ci := 9) (k := 2) d_Model_fill_64 e64 rfl (by decide) in_Model k884 ?_
      refine V_aload_n (i := 0) d_Model_fill_67 rfl 0 rfl ?_
      obtain ⟨x68, e68, h⟩ := ob h
      refine V_getI (ci := 9) (k := 1) d_Model_fill_68 e68 rfl (by decide) in_Model k883 ?_
      refine V_iload_n (i := 1) d_Model_fill_71 rfl 1 rfl ?_
      obtain ⟨w72, e72, h⟩ := ob h
      refine V_aset d_Model_fill_72 e72 ?_
      refine V_aload_n (i := 0) d_Model_fill_73 rfl 0 rfl ?_
      refine V_dup rfl d_Model_fill_74 ?_
      obtain ⟨x75, e75, h⟩ := ob h
      refine V_getI (ci := 9) (k := 1) d_Model_fill_75 e75 rfl (by decide) in_Model k883 ?_
      refine V_iconst (v := 1) d_Model_fill_78 (by decide) ?_
      refine V_iadd d_Model_fill_79 ?_
      obtain ⟨w80, e80, h⟩ := ob h
      refine V_putI (ci := 9) (k := 1) t_Model d_Model_fill_80 e80 rfl (by decide) in_Model k883 ty_Model nm_Model rfl (Or.inl rfl) ?_
      refine V_iinc (i := 3) (v := (v3 + (1 : Int32))) d_Model_fill_83 3 rfl (congrArg (fun y => v3 + y) (by decide : Int32.ofInt (1) = (1 : Int32))) (by decide) rfl ?_
      refine V_goto (tgt := 51) d_Model_fill_86 (by decide) ?_
      refine V_lv [1, 2, 3, 0] rfl ?_
      exact hK51 v0 v1 v2 (v3 + (1 : Int32)) w80 _ h
def l_Model_fill_51 (F : Nat) : Nat → Nat → Int32 → Int32 → Int32 → zW → Option (Int32 × zW)
  | 0 => fun _ _ _ _ _ => none
  | n + 1 => b_Model_fill_51 F (l_Model_fill_51 F n)
theorem l_Model_fill_51_ok (G : zG) (F : Nat) (n : Nat) :  ∀ (v0 : Nat) (v1 : Int32) (v2 : Int32) (v3 : Int32) (w : zW) (r : (Int32 × zW)), l_Model_fill_51 F n v0 v1 v2 v3 w = some r → zV G m_Model_fill 51 [(0, .ref (z0 G + v0)), (1, .int v1), (2, .int v2), (3, .int v3)] [] w 0 0 (oI r.1) r.2 := by
  induction n with
  | zero => intro v0 v1 v2 v3 w r h; exact nomatch (show (none : Option (Int32 × zW)) = some r from h)
  | succ n ih => intro v0 v1 v2 v3 w r h; exact b_Model_fill_51_ok G F (l_Model_fill_51 F n) ih v0 v1 v2 v3 w r h
def b_Model_fill_46 (F : Nat) (v0 : Nat) (v1 : Int32) (v2 : Int32) (s0 : Nat) (s1 : Int32) (w : zW) : Option (Int32 × zW) := (putI w s0 9 0 s1).bind fun w46 => l_Model_fill_51 F F v0 v1 v2 (0 : Int32) w46
set_option maxRecDepth 100000 in
set_option maxHeartbeats 4000000 in
theorem b_Model_fill_46_ok (G : zG) (F : Nat) (v0 : Nat) (v1 : Int32) (v2 : Int32) (s0 : Nat) (s1 : Int32) (w : zW) (r : (Int32 × zW)) (h : b_Model_fill_46 F v0 v1 v2 s0 s1 w = some r) : zV G m_Model_fill 46 [(0, .ref (z0 G + v0)), (1, .int v1), (2, .int v2)] [.int s1, .ref (z0 G + s0)] w 0 0 (oI r.1) r.2 := by
  unfold b_Model_fill_46 at h
  obtain ⟨w46, e46, h⟩ := ob h
  refine V_putI (ci := 9) (k := 0) t_Model d_Model_fill_46 e46 rfl (by decide) in_Model k882 ty_Model nm_Model rfl (Or.inl rfl) ?_
  refine V_iconst (v := 0) d_Model_fill_49 (by decide) ?_
  refine V_istore_n (i := 3) d_Model_fill_50 rfl (by decide) rfl ?_
  refine V_lv [1, 2, 3, 0] rfl ?_
  exact l_Model_fill_51_ok G F F v0 v1 v2 (0 : Int32) w46 _ h
def b_Model_fill_25 (F : Nat) (v0 : Nat) (v1 : Int32) (v2 : Int32) (s0 : Nat) (w : zW) : Option (Int32 × zW) := b_Model_fill_46 F v0 v1 v2 s0 (1 : Int32) w
set_option maxRecDepth 100000 in
set_option maxHeartbeats 4000000 in
theorem b_Model_fill_25_ok (G : zG) (F : Nat) (v0 : Nat) (v1 : Int32) (v2 : Int32) (s0 : Nat) (w : zW) (r : (Int32 × zW)) (h : b_Model_fill_25 F v0 v1 v2 s0 w = some r) : zV G m_Model_fill 25 [(0, .ref (z0 G + v0)), (1, .int v1), (2, .int v2)] [.ref (z0 G + s0)] w 0 0 (oI r.1) r.2 := by
  unfold b_Model_fill_25 at h
  refine V_iconst (v := 1) d_Model_fill_25 (by decide) ?_
  refine V_goto (tgt := 46) d_Model_fill_26 (by decide) ?_
  exact b_Model_fill_46_ok G F v0 v1 v2 s0 (1 : Int32) w _ h
def b_Model_fill_0 (F : Nat) (v0 : Nat) (v1 : Int32) (v2 : Int32) (w : zW) : Option (Int32 × zW) := (f_Model_within F v1.toInt64 (0 : Int64) (255 : Int64) w).bind fun r7 => if r7.1 = 0 then (b_Model_fill_25 F v0 v1 v2 v0 r7.2) else ((f_Model_within F v2.toInt64 (1 : Int64) (200 : Int64) r7.2).bind fun r19 => if r19.1 = 0 then (b_Model_fill_25 F v0 v1 v2 v0 r19.2) else ((getI r19.2 v0 9 1).bind fun x30 => if (x30 + v2) ≤ (200 : Int32) then (b_Model_fill_46 F v0 v1 v2 v0 (0 : Int32) r19.2) else (b_Model_fill_46 F v0 v1 v2 v0 (2 : Int32) r19.2)))
set_option maxRecDepth 100000 in
set_option maxHeartbeats 4000000 in
theorem b_Model_fill_0_ok (G : zG) (F : Nat) (v0 : Nat) (v1 : Int32) (v2 : Int32) (w : zW) (r : (Int32 × zW)) (h : b_Model_fill_0 F v0 v1 v2 w = some r) : zV G m_Model_fill 0 [(0, .ref (z0 G + v0)), (1, .int v1), (2, .int v2)] [] w 0 0 (oI r.1) r.2 := by
  unfold b_Model_fill_0 at h
  refine V_aload_n (i := 0) d_Model_fill_0 rfl 0 rfl ?_
  refine V_iload_n (i := 1) d_Model_fill_1 rfl 1 rfl ?_
  refine V_i2l d_Model_fill_2 ?_
  refine V_lconst (v := 0) d_Model_fill_3 (by decide) ?_
  refine V_ldc2 (v := 255) d_Model_fill_4 k1002 ?_
  obtain ⟨r7, e7, h⟩ := ob h
  refine V_call (v := some (.int r7.1)) (st := [.ref (z0 G + v0)]) (inv_S (N := m_Model_within) (As := [.long v1.toInt64, .long (0 : Int64), .long (255 : Int64)]) d_Model_fill_7 k995 k996 k10 (Or.inl kc_Model_within) y_Model_within) ⟨Or.inl kc_Model_within, k10, by decide, by decide⟩ (Nat.le_of_ble_eq_true rfl) (by decide) (by decide) (c_Model_within G F v1.toInt64 (0 : Int64) (255 : Int64) w r7 e7) ?_
  refine V_if_eq (tgt := 25) d_Model_fill_10 (by decide) (fun c10 => ?_) (fun c10 => ?_)
  · rw [if_pos c10] at h
    exact b_Model_fill_25_ok G F v0 v1 v2 v0 r7.2 _ h
  · rw [if_neg c10] at h
    refine V_iload_n (i := 2) d_Model_fill_13 rfl 2 rfl ?_
    refine V_i2l d_Model_fill_14 ?_
    refine V_lconst (v := 1) d_Model_fill_15 (by decide) ?_
    refine V_ldc2 (v := 200) d_Model_fill_16 k1003 ?_
    obtain ⟨r19, e19, h⟩ := ob h
    refine V_call (v := some (.int r19.1)) (st := [.ref (z0 G + v0)]) (inv_S (N := m_Model_within) (As := [.long v2.toInt64, .long (1 : Int64), .long (200 : Int64)]) d_Model_fill_19 k995 k996 k10 (Or.inl kc_Model_within) y_Model_within) ⟨Or.inl kc_Model_within, k10, by decide, by decide⟩ (Nat.le_of_ble_eq_true rfl) (by decide) (by decide) (c_Model_within G F v2.toInt64 (1 : Int64) (200 : Int64) r7.2 r19 e19) ?_
    refine V_if_ne (tgt := 29) d_Model_fill_22 (by decide) (fun c22 => ?_) (fun c22 => ?_)
    · rw [if_neg c22] at h
      refine V_aload_n (i := 0) d_Model_fill_29 rfl 0 rfl ?_
      obtain ⟨x30, e30, h⟩ := ob h
      refine V_getI (ci := 9) (k := 1) d_Model_fill_30 e30 rfl (by decide) in_Model k883 ?_
      refine V_iload_n (i := 2) d_Model_fill_33 rfl 2 rfl ?_
      refine V_iadd d_Model_fill_34 ?_
      refine V_sipush (v := 200) d_Model_fill_35 (by decide) ?_
      refine V_icmp_le (tgt := 45) d_Model_fill_38 (by decide) (fun c38 => ?_) (fun c38 => ?_)
      · rw [if_pos c38] at h
        refine V_iconst (v := 0) d_Model_fill_45 (by decide) ?_
        exact b_Model_fill_46_ok G F v0 v1 v2 v0 (0 : Int32) r19.2 _ h
      · rw [if_neg c38] at h
        refine V_iconst (v := 2) d_Model_fill_41 (by decide) ?_
        refine V_goto (tgt := 46) d_Model_fill_42 (by decide) ?_
        exact b_Model_fill_46_ok G F v0 v1 v2 v0 (2 : Int32) r19.2 _ h
    · rw [if_pos c22] at h
      exact b_Model_fill_25_ok G F v0 v1 v2 v0 r19.2 _ h
def f_Model_fill (F : Nat) (v0 : Nat) (v1 : Int32) (v2 : Int32) (w : zW) : Option (Int32 × zW) := b_Model_fill_0 F v0 v1 v2 w
theorem c_Model_fill (G : zG) (F : Nat) (v0 : Nat) (v1 : Int32) (v2 : Int32) (w : zW) (r : (Int32 × zW)) (h : f_Model_fill F v0 v1 v2 w = some r) : zCT G m_Model_fill [.ref (z0 G + v0), .int v1, .int v2] w (oI r.1) r.2 := zCT.ofV (by decide +kernel) (Or.inl ⟨kc_Model_fill, rfl⟩) (Nat.le_of_ble_eq_true rfl) (b_Model_fill_0_ok G F v0 v1 v2 w r h)

/-! ZipArrayModel.held()I -/
def m_Model_held : zM := (⟨R_Model, "held", "()I"⟩, prog_11_method_10_code, 1, (some .int), [], { frames := 0, cells := 0, slots := 0, locals := 0 })
theorem kc_Model_held : Cond.code (mY m_Model_held) (mC m_Model_held) (mL m_Model_held) (mT m_Model_held) ∈ zTb := tb_at 1007 (by decide +kernel) rfl
theorem y_Model_held : (mY m_Model_held).cls ≠ "java/lang/invoke/MethodHandle" ∧ (mY m_Model_held).cls ≠ "java/lang/invoke/VarHandle" ∧ (parseMethodDescriptor (mY m_Model_held).desc).map (fun d => d.parameters.length) = some 0 := by decide +kernel
theorem d_Model_held_0 : decode (mC m_Model_held) 0 = .ok (.aload_n 0, 1) := by decide +kernel
theorem d_Model_held_1 : decode (mC m_Model_held) 1 = .ok (.iconst 0, 1) := by decide +kernel
theorem d_Model_held_2 : decode (mC m_Model_held) 2 = .ok (.putfield 70, 3) := by decide +kernel
theorem d_Model_held_5 : decode (mC m_Model_held) 5 = .ok (.aload_n 0, 1) := by decide +kernel
theorem d_Model_held_6 : decode (mC m_Model_held) 6 = .ok (.getfield 82, 3) := by decide +kernel
theorem d_Model_held_9 : decode (mC m_Model_held) 9 = .ok (.ireturn, 1) := by decide +kernel
def b_Model_held_0 (F : Nat) (v0 : Nat) (w : zW) : Option (Int32 × zW) := (putI w v0 9 0 (0 : Int32)).bind fun w2 => (getI w2 v0 9 1).bind fun x6 => some (x6, w2)
set_option maxRecDepth 100000 in
set_option maxHeartbeats 4000000 in
theorem b_Model_held_0_ok (G : zG) (F : Nat) (v0 : Nat) (w : zW) (r : (Int32 × zW)) (h : b_Model_held_0 F v0 w = some r) : zV G m_Model_held 0 [(0, .ref (z0 G + v0))] [] w 0 0 (oI r.1) r.2 := by
  unfold b_Model_held_0 at h
  refine V_aload_n (i := 0) d_Model_held_0 rfl 0 rfl ?_
  refine V_iconst (v := 0) d_Model_held_1 (by decide) ?_
  obtain ⟨w2, e2, h⟩ := ob h
  refine V_putI (ci := 9) (k := 0) t_Model d_Model_held_2 e2 rfl (by decide) in_Model k882 ty_Model nm_Model rfl (Or.inl rfl) ?_
  refine V_aload_n (i := 0) d_Model_held_5 rfl 0 rfl ?_
  obtain ⟨x6, e6, h⟩ := ob h
  refine V_getI (ci := 9) (k := 1) d_Model_held_6 e6 rfl (by decide) in_Model k883 ?_
  obtain rfl := Option.some.inj h
  exact V_iret rfl (by decide) (by decide) d_Model_held_9
def f_Model_held (F : Nat) (v0 : Nat) (w : zW) : Option (Int32 × zW) := b_Model_held_0 F v0 w
theorem c_Model_held (G : zG) (F : Nat) (v0 : Nat) (w : zW) (r : (Int32 × zW)) (h : f_Model_held F v0 w = some r) : zCT G m_Model_held [.ref (z0 G + v0)] w (oI r.1) r.2 := zCT.ofV (by decide +kernel) (Or.inl ⟨kc_Model_held, rfl⟩) (Nat.le_of_ble_eq_true rfl) (b_Model_held_0_ok G F v0 w r h)

/-! ZipArrayModel.at(I)I -/
def m_Model_at : zM := (⟨R_Model, "at", "(I)I"⟩, prog_11_method_11_code, 2, (some .int), [], { frames := 1, cells := 0, slots := 0, locals := 25 })
theorem kc_Model_at : Cond.code (mY m_Model_at) (mC m_Model_at) (mL m_Model_at) (mT m_Model_at) ∈ zTb := tb_at 1011 (by decide +kernel) rfl
theorem y_Model_at : (mY m_Model_at).cls ≠ "java/lang/invoke/MethodHandle" ∧ (mY m_Model_at).cls ≠ "java/lang/invoke/VarHandle" ∧ (parseMethodDescriptor (mY m_Model_at).desc).map (fun d => d.parameters.length) = some 1 := by decide +kernel
theorem d_Model_at_0 : decode (mC m_Model_at) 0 = .ok (.aload_n 0, 1) := by decide +kernel
theorem d_Model_at_1 : decode (mC m_Model_at) 1 = .ok (.iload_n 1, 1) := by decide +kernel
theorem d_Model_at_2 : decode (mC m_Model_at) 2 = .ok (.i2l, 1) := by decide +kernel
theorem d_Model_at_3 : decode (mC m_Model_at) 3 = .ok (.lconst 0, 1) := by decide +kernel
theorem d_Model_at_4 : decode (mC m_Model_at) 4 = .ok (.aload_n 0, 1) := by decide +kernel
theorem d_Model_at_5 : decode (mC m_Model_at) 5 = .ok (.getfield 82, 3) := by decide +kernel
theorem d_Model_at_8 : decode (mC m_Model_at) 8 = .ok (.iconst 1, 1) := by decide +kernel
theorem d_Model_at_9 : decode (mC m_Model_at) 9 = .ok (.isub, 1) := by decide +kernel
theorem d_Model_at_10 : decode (mC m_Model_at) 10 = .ok (.i2l, 1) := by decide +kernel
theorem d_Model_at_11 : decode (mC m_Model_at) 11 = .ok (.invokestatic 87, 3) := by decide +kernel
theorem d_Model_at_14 : decode (mC m_Model_at) 14 = .ok (.ifCond .eq 7, 3) := by decide +kernel
theorem d_Model_at_17 : decode (mC m_Model_at) 17 = .ok (.iconst 0, 1) := by decide +kernel
theorem d_Model_at_18 : decode (mC m_Model_at) 18 = .ok (.goto 4, 3) := by decide +kernel
theorem d_Model_at_21 : decode (mC m_Model_at) 21 = .ok (.iconst 1, 1) := by decide +kernel
theorem d_Model_at_22 : decode (mC m_Model_at) 22 = .ok (.putfield 70, 3) := by decide +kernel
theorem d_Model_at_25 : decode (mC m_Model_at) 25 = .ok (.aload_n 0, 1) := by decide +kernel
theorem d_Model_at_26 : decode (mC m_Model_at) 26 = .ok (.getfield 70, 3) := by decide +kernel
theorem d_Model_at_29 : decode (mC m_Model_at) 29 = .ok (.ifCond .le 7, 3) := by decide +kernel
theorem d_Model_at_32 : decode (mC m_Model_at) 32 = .ok (.iconst 0, 1) := by decide +kernel
theorem d_Model_at_33 : decode (mC m_Model_at) 33 = .ok (.goto 9, 3) := by decide +kernel
theorem d_Model_at_36 : decode (mC m_Model_at) 36 = .ok (.aload_n 0, 1) := by decide +kernel
theorem d_Model_at_37 : decode (mC m_Model_at) 37 = .ok (.getfield 7, 3) := by decide +kernel
theorem d_Model_at_40 : decode (mC m_Model_at) 40 = .ok (.iload_n 1, 1) := by decide +kernel
theorem d_Model_at_41 : decode (mC m_Model_at) 41 = .ok (.iaload, 1) := by decide +kernel
theorem d_Model_at_42 : decode (mC m_Model_at) 42 = .ok (.ireturn, 1) := by decide +kernel
def b_Model_at_22 (F : Nat) (v0 : Nat) (v1 : Int32) (s0 : Nat) (s1 : Int32) (w : zW) : Option (Int32 × zW) := (putI w s0 9 0 s1).bind fun w22 => (getI w22 v0 9 0).bind fun x26 => if x26 ≤ 0 then ((getR w22 v0 9 2).bind fun x37 => (aget w22 x37 v1).bind fun x41 => some (x41, w22)) else (some ((0 : Int32), w22))
set_option maxRecDepth 100000 in
set_option maxHeartbeats 4000000 in
theorem b_Model_at_22_ok (G : zG) (F : Nat) (v0 : Nat) (v1 : Int32) (s0 : Nat) (s1 : Int32) (w : zW) (r : (Int32 × zW)) (h : b_Model_at_22 F v0 v1 s0 s1 w = some r) : zV G m_Model_at 22 [(0, .ref (z0 G + v0)), (1, .int v1)] [.int s1, .ref (z0 G + s0)] w 0 0 (oI r.1) r.2 := by
  unfold b_Model_at_22 at h
  obtain ⟨w22, e22, h⟩ := ob h
  refine V_putI (ci := 9) (k := 0) t_Model d_Model_at_22 e22 rfl (by decide) in_Model k882 ty_Model nm_Model rfl (Or.inl rfl) ?_
  refine V_aload_n (i := 0) d_Model_at_25 rfl 0 rfl ?_
  obtain ⟨x26, e26, h⟩ := ob h
  refine V_getI (ci := 9) (k := 0) d_Model_at_26 e26 rfl (by decide) in_Model k882 ?_
  refine V_if_le (tgt := 36) d_Model_at_29 (by decide) (fun c29 => ?_) (fun c29 => ?_)
  · rw [if_pos c29] at h
    refine V_aload_n (i := 0) d_Model_at_36 rfl 0 rfl ?_
    obtain ⟨x37, e37, h⟩ := ob h
    refine V_getR (ci := 9) (k := 2) d_Model_at_37 e37 rfl (by decide) in_Model k884 ?_
    refine V_iload_n (i := 1) d_Model_at_40 rfl 1 rfl ?_
    obtain ⟨x41, e41, h⟩ := ob h
    refine V_aget d_Model_at_41 e41 ?_
    obtain rfl := Option.some.inj h
    exact V_iret rfl (by decide) (by decide) d_Model_at_42
  · rw [if_neg c29] at h
    refine V_iconst (v := 0) d_Model_at_32 (by decide) ?_
    refine V_goto (tgt := 42) d_Model_at_33 (by decide) ?_
    obtain rfl := Option.some.inj h
    exact V_iret rfl (by decide) (by decide) d_Model_at_42
def b_Model_at_0 (F : Nat) (v0 : Nat) (v1 : Int32) (w : zW) : Option (Int32 × zW) := (getI w v0 9 1).bind fun x5 => (f_Model_within F v1.toInt64 (0 : Int64) (x5 - (1 : Int32)).toInt64 w).bind fun r11 => if r11.1 = 0 then (b_Model_at_22 F v0 v1 v0 (1 : Int32) r11.2) else (b_Model_at_22 F v0 v1 v0 (0 : Int32) r11.2)
set_option maxRecDepth 100000 in
set_option maxHeartbeats 4000000 in
theorem b_Model_at_0_ok (G : zG) (F : Nat) (v0 : Nat) (v1 : Int32) (w : zW) (r : (Int32 × zW)) (h : b_Model_at_0 F v0 v1 w = some r) : zV G m_Model_at 0 [(0, .ref (z0 G + v0)), (1, .int v1)] [] w 0 0 (oI r.1) r.2 := by
  unfold b_Model_at_0 at h
  refine V_aload_n (i := 0) d_Model_at_0 rfl 0 rfl ?_
  refine V_iload_n (i := 1) d_Model_at_1 rfl 1 rfl ?_
  refine V_i2l d_Model_at_2 ?_
  refine V_lconst (v := 0) d_Model_at_3 (by decide) ?_
  refine V_aload_n (i := 0) d_Model_at_4 rfl 0 rfl ?_
  obtain ⟨x5, e5, h⟩ := ob h
  refine V_getI (ci := 9) (k := 1) d_Model_at_5 e5 rfl (by decide) in_Model k883 ?_
  refine V_iconst (v := 1) d_Model_at_8 (by decide) ?_
  refine V_isub d_Model_at_9 ?_
  refine V_i2l d_Model_at_10 ?_
  obtain ⟨r11, e11, h⟩ := ob h
  refine V_call (v := some (.int r11.1)) (st := [.ref (z0 G + v0)]) (inv_S (N := m_Model_within) (As := [.long v1.toInt64, .long (0 : Int64), .long (x5 - (1 : Int32)).toInt64]) d_Model_at_11 k995 k996 k10 (Or.inl kc_Model_within) y_Model_within) ⟨Or.inl kc_Model_within, k10, by decide, by decide⟩ (Nat.le_of_ble_eq_true rfl) (by decide) (by decide) (c_Model_within G F v1.toInt64 (0 : Int64) (x5 - (1 : Int32)).toInt64 w r11 e11) ?_
  refine V_if_eq (tgt := 21) d_Model_at_14 (by decide) (fun c14 => ?_) (fun c14 => ?_)
  · rw [if_pos c14] at h
    refine V_iconst (v := 1) d_Model_at_21 (by decide) ?_
    exact b_Model_at_22_ok G F v0 v1 v0 (1 : Int32) r11.2 _ h
  · rw [if_neg c14] at h
    refine V_iconst (v := 0) d_Model_at_17 (by decide) ?_
    refine V_goto (tgt := 22) d_Model_at_18 (by decide) ?_
    exact b_Model_at_22_ok G F v0 v1 v0 (0 : Int32) r11.2 _ h
def f_Model_at (F : Nat) (v0 : Nat) (v1 : Int32) (w : zW) : Option (Int32 × zW) := b_Model_at_0 F v0 v1 w
theorem c_Model_at (G : zG) (F : Nat) (v0 : Nat) (v1 : Int32) (w : zW) (r : (Int32 × zW)) (h : f_Model_at F v0 v1 w = some r) : zCT G m_Model_at [.ref (z0 G + v0), .int v1] w (oI r.1) r.2 := zCT.ofV (by decide +kernel) (Or.inl ⟨kc_Model_at, rfl⟩) (Nat.le_of_ble_eq_true rfl) (b_Model_at_0_ok G F v0 v1 w r h)

/-! ZipArrayModel.crc()I -/
def m_Model_crc : zM := (⟨R_Model, "crc", "()I"⟩, prog_11_method_12_code, 1, (some .int), [], { frames := 2, cells := 0, slots := 0, locals := 45 })
theorem k1016 : Cond.methodLink R_Model 95 (mY m_Model_crcOfBuffer) ∈ zTb := tb_at 1016 (by decide +kernel) rfl
theorem k1018 : Cond.instanceMethod (mY m_Model_crcOfBuffer) ∈ zTb := tb_at 1018 (by decide +kernel) rfl
theorem kc_Model_crc : Cond.code (mY m_Model_crc) (mC m_Model_crc) (mL m_Model_crc) (mT m_Model_crc) ∈ zTb := tb_at 1015 (by decide +kernel) rfl
theorem y_Model_crc : (mY m_Model_crc).cls ≠ "java/lang/invoke/MethodHandle" ∧ (mY m_Model_crc).cls ≠ "java/lang/invoke/VarHandle" ∧ (parseMethodDescriptor (mY m_Model_crc).desc).map (fun d => d.parameters.length) = some 0 := by decide +kernel
theorem d_Model_crc_0 : decode (mC m_Model_crc) 0 = .ok (.aload_n 0, 1) := by decide +kernel
theorem d_Model_crc_1 : decode (mC m_Model_crc) 1 = .ok (.iconst 0, 1) := by decide +kernel
theorem d_Model_crc_2 : decode (mC m_Model_crc) 2 = .ok (.putfield 70, 3) := by decide +kernel
theorem d_Model_crc_5 : decode (mC m_Model_crc) 5 = .ok (.aload_n 0, 1) := by decide +kernel
theorem d_Model_crc_6 : decode (mC m_Model_crc) 6 = .ok (.invokevirtual 95, 3) := by decide +kernel
theorem d_Model_crc_9 : decode (mC m_Model_crc) 9 = .ok (.ireturn, 1) := by decide +kernel
def b_Model_crc_0 (F : Nat) (v0 : Nat) (w : zW) : Option (Int32 × zW) := (putI w v0 9 0 (0 : Int32)).bind fun w2 => (zobj w2 v0 9).bind fun _ => (f_Model_crcOfBuffer F v0 w2).bind fun r6 => some (r6.1, r6.2)
set_option maxRecDepth 100000 in
set_option maxHeartbeats 4000000 in
theorem b_Model_crc_0_ok (G : zG) (F : Nat) (v0 : Nat) (w : zW) (r : (Int32 × zW)) (h : b_Model_crc_0 F v0 w = some r) : zV G m_Model_crc 0 [(0, .ref (z0 G + v0))] [] w 0 0 (oI r.1) r.2 := by
  unfold b_Model_crc_0 at h
  refine V_aload_n (i := 0) d_Model_crc_0 rfl 0 rfl ?_
  refine V_iconst (v := 0) d_Model_crc_1 (by decide) ?_
  obtain ⟨w2, e2, h⟩ := ob h
  refine V_putI (ci := 9) (k := 0) t_Model d_Model_crc_2 e2 rfl (by decide) in_Model k882 ty_Model nm_Model rfl (Or.inl rfl) ?_
  refine V_aload_n (i := 0) d_Model_crc_5 rfl 0 rfl ?_
  obtain ⟨_, eo6, h⟩ := ob h
  obtain ⟨r6, e6, h⟩ := ob h
  refine V_call (v := some (.int r6.1)) (st := []) (inv_V (N := m_Model_crcOfBuffer) (As := []) (ci := 9) d_Model_crc_6 eo6 rfl k1016 k1018 sel_Model_crcOfBuffer kc_Model_crcOfBuffer y_Model_crcOfBuffer) ⟨Or.inl kc_Model_crcOfBuffer, k10, by decide, by decide⟩ (Nat.le_of_ble_eq_true rfl) (by decide) (by decide) (c_Model_crcOfBuffer G F v0 w2 r6 e6) ?_
  obtain rfl := Option.some.inj h
  exact V_iret rfl (by decide) (by decide) d_Model_crc_9
def f_Model_crc (F : Nat) (v0 : Nat) (w : zW) : Option (Int32 × zW) := b_Model_crc_0 F v0 w
theorem c_Model_crc (G : zG) (F : Nat) (v0 : Nat) (w : zW) (r : (Int32 × zW)) (h : f_Model_crc F v0 w = some r) : zCT G m_Model_crc [.ref (z0 G + v0)] w (oI r.1) r.2 := zCT.ofV (by decide +kernel) (Or.inl ⟨kc_Model_crc, rfl⟩) (Nat.le_of_ble_eq_true rfl) (b_Model_crc_0_ok G F v0 w r h)

/-! ZipArrayModel.takeContent()I -/
def m_Model_takeContent : zM := (⟨R_Model, "takeContent", "()I"⟩, prog_11_method_13_code, 2, (some .int), [], { frames := 0, cells := 0, slots := 0, locals := 0 })
theorem kc_Model_takeContent : Cond.code (mY m_Model_takeContent) (mC m_Model_takeContent) (mL m_Model_takeContent) (mT m_Model_takeContent) ∈ zTb := tb_at 1080 (by decide +kernel) rfl
theorem y_Model_takeContent : (mY m_Model_takeContent).cls ≠ "java/lang/invoke/MethodHandle" ∧ (mY m_Model_takeContent).cls ≠ "java/lang/invoke/VarHandle" ∧ (parseMethodDescriptor (mY m_Model_takeContent).desc).map (fun d => d.parameters.length) = some 0 := by decide +kernel
theorem sel_Model_takeContent : Cond.selects R_Model (mY m_Model_takeContent) (mY m_Model_takeContent) ∈ zTb := sel_at (y := mY m_Model_takeContent) (n := 33) 48 (by decide +kernel)
theorem d_Model_takeContent_0 : decode (mC m_Model_takeContent) 0 = .ok (.aload_n 0, 1) := by decide +kernel
theorem d_Model_takeContent_1 : decode (mC m_Model_takeContent) 1 = .ok (.aload_n 0, 1) := by decide +kernel
theorem d_Model_takeContent_2 : decode (mC m_Model_takeContent) 2 = .ok (.getfield 75, 3) := by decide +kernel
theorem d_Model_takeContent_5 : decode (mC m_Model_takeContent) 5 = .ok (.putfield 82, 3) := by decide +kernel
theorem d_Model_takeContent_8 : decode (mC m_Model_takeContent) 8 = .ok (.iconst 0, 1) := by decide +kernel
theorem d_Model_takeContent_9 : decode (mC m_Model_takeContent) 9 = .ok (.istore_n 1, 1) := by decide +kernel
theorem d_Model_takeContent_10 : decode (mC m_Model_takeContent) 10 = .ok (.iload_n 1, 1) := by decide +kernel
theorem d_Model_takeContent_11 : decode (mC m_Model_takeContent) 11 = .ok (.aload_n 0, 1) := by decide +kernel
theorem d_Model_takeContent_12 : decode (mC m_Model_takeContent) 12 = .ok (.getfield 82, 3) := by decide +kernel
theorem d_Model_takeContent_15 : decode (mC m_Model_takeContent) 15 = .ok (.if_icmp .ge 21, 3) := by decide +kernel
theorem d_Model_takeContent_18 : decode (mC m_Model_takeContent) 18 = .ok (.aload_n 0, 1) := by decide +kernel
theorem d_Model_takeContent_19 : decode (mC m_Model_takeContent) 19 = .ok (.getfield 7, 3) := by decide +kernel
theorem d_Model_takeContent_22 : decode (mC m_Model_takeContent) 22 = .ok (.iload_n 1, 1) := by decide +kernel
theorem d_Model_takeContent_23 : decode (mC m_Model_takeContent) 23 = .ok (.aload_n 0, 1) := by decide +kernel
theorem d_Model_takeContent_24 : decode (mC m_Model_takeContent) 24 = .ok (.getfield 16, 3) := by decide +kernel
theorem d_Model_takeContent_27 : decode (mC m_Model_takeContent) 27 = .ok (.iload_n 1, 1) := by decide +kernel
theorem d_Model_takeContent_28 : decode (mC m_Model_takeContent) 28 = .ok (.iaload, 1) := by decide +kernel
theorem d_Model_takeContent_29 : decode (mC m_Model_takeContent) 29 = .ok (.iastore, 1) := by decide +kernel
theorem d_Model_takeContent_30 : decode (mC m_Model_takeContent) 30 = .ok (.iinc 1 1, 3) := by decide +kernel
theorem d_Model_takeContent_33 : decode (mC m_Model_takeContent) 33 = .ok (.goto (-23), 3) := by decide +kernel
theorem d_Model_takeContent_36 : decode (mC m_Model_takeContent) 36 = .ok (.aload_n 0, 1) := by decide +kernel
theorem d_Model_takeContent_37 : decode (mC m_Model_takeContent) 37 = .ok (.getfield 82, 3) := by decide +kernel
theorem d_Model_takeContent_40 : decode (mC m_Model_takeContent) 40 = .ok (.ireturn, 1) := by decide +kernel
def b_Model_takeContent_10 (F : Nat) (K10 : Nat → Int32 → zW → Option (Int32 × zW)) (v0 : Nat) (v1 : Int32) (w : zW) : Option (Int32 × zW) := (getI w v0 9 1).bind fun x12 => if x12 ≤ v1 then ((getI w v0 9 1).bind fun x37 => some (x37, w)) else ((getR w v0 9 2).bind fun x19 => (getR w v0 9 7).bind fun x24 => (aget w x24 v1).bind fun x28 => (aset w x19 v1 x28).bind fun w29 => K10 v0 (v1 + (1 : Int32)) w29)
set_option maxRecDepth 100000 in
set_option maxHeartbeats 4000000 in
theorem b_Model_takeContent_10_ok (G : zG) (F : Nat) (K10 : Nat → Int32 → zW → Option (Int32 × zW)) (hK10 : ∀ (v0 : Nat) (v1 : Int32) (w : zW) (r : (Int32 × zW)), K10 v0 v1 w = some r → zV G m_Model_takeContent 10 [(0, .ref (z0 G + v0)), (1, .int v1)] [] w 0 0 (oI r.1) r.2) (v0 : Nat) (v1 : Int32) (w : zW) (r : (Int32 × zW)) (h : b_Model_takeContent_10 F K10 v0 v1 w = some r) : zV G m_Model_takeContent 10 [(0, .ref (z0 G + v0)), (1, .int v1)] [] w 0 0 (oI r.1) r.2 := by
  unfold b_Model_takeContent_10 at h
  refine V_iload_n (i := 1) d_Model_takeContent_10 rfl 1 rfl ?_
  refine V_aload_n (i := 0) d_Model_takeContent_11 rfl 0 rfl ?_
  obtain ⟨x12, e12, h⟩ := ob h
  refine V_getI (ci := 9) (k := 1) d_Model_takeContent_12 e12 rfl (by decide) in_Model k883 ?_
  refine V_icmp_ge (tgt := 36) d_Model_takeContent_15 (by decide) (fun c15 => ?_) (fun c15 => ?_)
  · rw [if_pos c15] at h
    refine V_aload_n (i := 0) d_Model_takeContent_36 rfl 0 rfl ?_
    obtain ⟨x37, e37, h⟩ := ob h
    refine V_getI (ci := 9) (k := 1) d_Model_takeContent_37 e37 rfl (by decide) in_Model k883 ?_
    obtain rfl := Option.some.inj h
    exact V_iret rfl (by decide) (by decide) d_Model_takeContent_40
  · rw [if_neg c15] at h
    refine V_aload_n (i := 0) d_Model_takeContent_18 rfl 0 rfl ?_
    obtain ⟨x19, e19, h⟩ := ob h
    refine V_getR (ci := 9) (k := 2) d_Model_takeContent_19 e19 rfl (by decide) in_Model k884 ?_
    refine V_iload_n (i := 1) d_Model_takeContent_22 rfl 1 rfl ?_
    refine V_aload_n (i := 0) d_Model_takeContent_23 rfl 0 rfl ?_
    obtain ⟨x24, e24, h⟩ := ob h
    refine V_getR (ci := 9) (k := 7) d_Model_takeContent_24 e24 rfl (by decide) in_Model k889 ?_
    refine V_iload_n (i := 1) d_Model_takeContent_27 rfl 1 rfl ?_
    obtain ⟨x28, e28, h⟩ := ob h
    refine V_aget d_Model_takeContent_28 e28 ?_
    obtain ⟨w29, e29, h⟩ := ob h
    refine V_aset d_Model_takeContent_29 e29 ?_
    refine V_iinc (i := 1) (v := (v1 + (1 : Int32))) d_Model_takeContent_30 1 rfl (congrArg (fun y => v1 + y) (by decide : Int32.ofInt (1) = (1 : Int32))) (by decide) rfl ?_
    refine V_goto (tgt := 10) d_Model_takeContent_33 (by decide) ?_
    refine V_lv [1, 0] rfl ?_
    exact hK10 v0 (v1 + (1 : Int32)) w29 _ h
def l_Model_takeContent_10 (F : Nat) : Nat → Nat → Int32 → zW → Option (Int32 × zW)
  | 0 => fun _ _ _ => none
  | n + 1 => b_Model_takeContent_10 F (l_Model_takeContent_10 F n)
theorem l_Model_takeContent_10_ok (G : zG) (F : Nat) (n : Nat) :  ∀ (v0 : Nat) (v1 : Int32) (w : zW) (r : (Int32 × zW)), l_Model_takeContent_10 F n v0 v1 w = some r → zV G m_Model_takeContent 10 [(0, .ref (z0 G + v0)), (1, .int v1)] [] w 0 0 (oI r.1) r.2 := by
  induction n with
  | zero => intro v0 v1 w r h; exact nomatch (show (none : Option (Int32 × zW)) = some r from h)
  | succ n ih => intro v0 v1 w r h; exact b_Model_takeContent_10_ok G F (l_Model_takeContent_10 F n) ih v0 v1 w r h
def b_Model_takeContent_0 (F : Nat) (v0 : Nat) (w : zW) : Option (Int32 × zW) := (getI w v0 9 6).bind fun x2 => (putI w v0 9 1 x2).bind fun w5 => l_Model_takeContent_10 F F v0 (0 : Int32) w5
set_option maxRecDepth 100000 in
set_option maxHeartbeats 4000000 in
theorem b_Model_takeContent_0_ok (G : zG) (F : Nat) (v0 : Nat) (w : zW) (r : (Int32 × zW)) (h : b_Model_takeContent_0 F v0 w = some r) : zV G m_Model_takeContent 0 [(0, .ref (z0 G + v0))] [] w 0 0 (oI r.1) r.2 := by
  unfold b_Model_takeContent_0 at h
  refine V_aload_n (i := 0) d_Model_takeContent_0 rfl 0 rfl ?_
  refine V_aload_n (i := 0) d_Model_takeContent_1 rfl 0 rfl ?_
  obtain ⟨x2, e2, h⟩ := ob h
  refine V_getI (ci := 9) (k := 6) d_Model_takeContent_2 e2 rfl (by decide) in_Model k888 ?_
  obtain ⟨w5, e5, h⟩ := ob h
  refine V_putI (ci := 9) (k := 1) t_Model d_Model_takeContent_5 e5 rfl (by decide) in_Model k883 ty_Model nm_Model rfl (Or.inl rfl) ?_
  refine V_iconst (v := 0) d_Model_takeContent_8 (by decide) ?_
  refine V_istore_n (i := 1) d_Model_takeContent_9 rfl (by decide) rfl ?_
  refine V_lv [1, 0] rfl ?_
  exact l_Model_takeContent_10_ok G F F v0 (0 : Int32) w5 _ h
def f_Model_takeContent (F : Nat) (v0 : Nat) (w : zW) : Option (Int32 × zW) := b_Model_takeContent_0 F v0 w
theorem c_Model_takeContent (G : zG) (F : Nat) (v0 : Nat) (w : zW) (r : (Int32 × zW)) (h : f_Model_takeContent F v0 w = some r) : zCT G m_Model_takeContent [.ref (z0 G + v0)] w (oI r.1) r.2 := zCT.ofV (by decide +kernel) (Or.inl ⟨kc_Model_takeContent, rfl⟩) (Nat.le_of_ble_eq_true rfl) (b_Model_takeContent_0_ok G F v0 w r h)

/-! ZipArrayModel.putBit(I)V -/
def m_Model_putBit : zM := (⟨R_Model, "putBit", "(I)V"⟩, prog_11_method_14_code, 2, none, [], { frames := 0, cells := 0, slots := 0, locals := 0 })
theorem k892 : Cond.fieldLink R_Model 99 (T_Model 10).1 (T_Model 10).2.1 (T_Model 10).2.2.1 ∈ zTb := tb_at 892 (by decide +kernel) rfl
theorem kc_Model_putBit : Cond.code (mY m_Model_putBit) (mC m_Model_putBit) (mL m_Model_putBit) (mT m_Model_putBit) ∈ zTb := tb_at 1048 (by decide +kernel) rfl
theorem y_Model_putBit : (mY m_Model_putBit).cls ≠ "java/lang/invoke/MethodHandle" ∧ (mY m_Model_putBit).cls ≠ "java/lang/invoke/VarHandle" ∧ (parseMethodDescriptor (mY m_Model_putBit).desc).map (fun d => d.parameters.length) = some 1 := by decide +kernel
theorem sel_Model_putBit : Cond.selects R_Model (mY m_Model_putBit) (mY m_Model_putBit) ∈ zTb := sel_at (y := mY m_Model_putBit) (n := 33) 43 (by decide +kernel)
theorem d_Model_putBit_0 : decode (mC m_Model_putBit) 0 = .ok (.aload_n 0, 1) := by decide +kernel
theorem d_Model_putBit_1 : decode (mC m_Model_putBit) 1 = .ok (.getfield 99, 3) := by decide +kernel
theorem d_Model_putBit_4 : decode (mC m_Model_putBit) 4 = .ok (.bipush 8, 2) := by decide +kernel
theorem d_Model_putBit_6 : decode (mC m_Model_putBit) 6 = .ok (.irem, 1) := by decide +kernel
theorem d_Model_putBit_7 : decode (mC m_Model_putBit) 7 = .ok (.ifCond .ne 23, 3) := by decide +kernel
theorem d_Model_putBit_10 : decode (mC m_Model_putBit) 10 = .ok (.aload_n 0, 1) := by decide +kernel
theorem d_Model_putBit_11 : decode (mC m_Model_putBit) 11 = .ok (.getfield 16, 3) := by decide +kernel
theorem d_Model_putBit_14 : decode (mC m_Model_putBit) 14 = .ok (.aload_n 0, 1) := by decide +kernel
theorem d_Model_putBit_15 : decode (mC m_Model_putBit) 15 = .ok (.getfield 75, 3) := by decide +kernel
theorem d_Model_putBit_18 : decode (mC m_Model_putBit) 18 = .ok (.iconst 0, 1) := by decide +kernel
theorem d_Model_putBit_19 : decode (mC m_Model_putBit) 19 = .ok (.iastore, 1) := by decide +kernel
theorem d_Model_putBit_20 : decode (mC m_Model_putBit) 20 = .ok (.aload_n 0, 1) := by decide +kernel
theorem d_Model_putBit_21 : decode (mC m_Model_putBit) 21 = .ok (.dup, 1) := by decide +kernel
theorem d_Model_putBit_22 : decode (mC m_Model_putBit) 22 = .ok (.getfield 75, 3) := by decide +kernel
theorem d_Model_putBit_25 : decode (mC m_Model_putBit) 25 = .ok (.iconst 1, 1) := by decide +kernel
theorem d_Model_putBit_26 : decode (mC m_Model_putBit) 26 = .ok (.iadd, 1) := by decide +kernel
theorem d_Model_putBit_27 : decode (mC m_Model_putBit) 27 = .ok (.putfield 75, 3) := by decide +kernel
theorem d_Model_putBit_30 : decode (mC m_Model_putBit) 30 = .ok (.aload_n 0, 1) := by decide +kernel
theorem d_Model_putBit_31 : decode (mC m_Model_putBit) 31 = .ok (.getfield 16, 3) := by decide +kernel
theorem d_Model_putBit_34 : decode (mC m_Model_putBit) 34 = .ok (.aload_n 0, 1) := by decide +kernel
theorem d_Model_putBit_35 : decode (mC m_Model_putBit) 35 = .ok (.getfield 75, 3) := by decide +kernel
theorem d_Model_putBit_38 : decode (mC m_Model_putBit) 38 = .ok (.iconst 1, 1) := by decide +kernel
theorem d_Model_putBit_39 : decode (mC m_Model_putBit) 39 = .ok (.isub, 1) := by decide +kernel
theorem d_Model_putBit_40 : decode (mC m_Model_putBit) 40 = .ok (.aload_n 0, 1) := by decide +kernel
theorem d_Model_putBit_41 : decode (mC m_Model_putBit) 41 = .ok (.getfield 16, 3) := by decide +kernel
theorem d_Model_putBit_44 : decode (mC m_Model_putBit) 44 = .ok (.aload_n 0, 1) := by decide +kernel
theorem d_Model_putBit_45 : decode (mC m_Model_putBit) 45 = .ok (.getfield 75, 3) := by decide +kernel
theorem d_Model_putBit_48 : decode (mC m_Model_putBit) 48 = .ok (.iconst 1, 1) := by decide +kernel
theorem d_Model_putBit_49 : decode (mC m_Model_putBit) 49 = .ok (.isub, 1) := by decide +kernel
theorem d_Model_putBit_50 : decode (mC m_Model_putBit) 50 = .ok (.iaload, 1) := by decide +kernel
theorem d_Model_putBit_51 : decode (mC m_Model_putBit) 51 = .ok (.iload_n 1, 1) := by decide +kernel
theorem d_Model_putBit_52 : decode (mC m_Model_putBit) 52 = .ok (.aload_n 0, 1) := by decide +kernel
theorem d_Model_putBit_53 : decode (mC m_Model_putBit) 53 = .ok (.getfield 99, 3) := by decide +kernel
theorem d_Model_putBit_56 : decode (mC m_Model_putBit) 56 = .ok (.bipush 8, 2) := by decide +kernel
theorem d_Model_putBit_58 : decode (mC m_Model_putBit) 58 = .ok (.irem, 1) := by decide +kernel
theorem d_Model_putBit_59 : decode (mC m_Model_putBit) 59 = .ok (.ishl, 1) := by decide +kernel
theorem d_Model_putBit_60 : decode (mC m_Model_putBit) 60 = .ok (.iadd, 1) := by decide +kernel
theorem d_Model_putBit_61 : decode (mC m_Model_putBit) 61 = .ok (.iastore, 1) := by decide +kernel
theorem d_Model_putBit_62 : decode (mC m_Model_putBit) 62 = .ok (.aload_n 0, 1) := by decide +kernel
theorem d_Model_putBit_63 : decode (mC m_Model_putBit) 63 = .ok (.dup, 1) := by decide +kernel
theorem d_Model_putBit_64 : decode (mC m_Model_putBit) 64 = .ok (.getfield 99, 3) := by decide +kernel
theorem d_Model_putBit_67 : decode (mC m_Model_putBit) 67 = .ok (.iconst 1, 1) := by decide +kernel
theorem d_Model_putBit_68 : decode (mC m_Model_putBit) 68 = .ok (.iadd, 1) := by decide +kernel
theorem d_Model_putBit_69 : decode (mC m_Model_putBit) 69 = .ok (.putfield 99, 3) := by decide +kernel
theorem d_Model_putBit_72 : decode (mC m_Model_putBit) 72 = .ok (.return_, 1) := by decide +kernel
def b_Model_putBit_30 (F : Nat) (v0 : Nat) (v1 : Int32) (w : zW) : Option (Unit × zW) := (getR w v0 9 7).bind fun x31 => (getI w v0 9 6).bind fun x35 => (getR w v0 9 7).bind fun x41 => (getI w v0 9 6).bind fun x45 => (aget w x41 (x45 - (1 : Int32))).bind fun x50 => (getI w v0 9 10).bind fun x53 => (aset w x31 (x35 - (1 : Int32)) (x50 + (v1 <<< ((x53 % (8 : Int32)) &&& 31)))).bind fun w61 => (getI w61 v0 9 10).bind fun x64 => (putI w61 v0 9 10 (x64 + (1 : Int32))).bind fun w69 => some ((), w69)
set_option maxRecDepth 100000 in
set_option maxHeartbeats 4000000 in
theorem b_Model_putBit_30_ok (G : zG) (F : Nat) (v0 : Nat) (v1 : Int32) (w : zW) (r : (Unit × zW)) (h : b_Model_putBit_30 F v0 v1 w = some r) : zV G m_Model_putBit 30 [(0, .ref (z0 G + v0)), (1, .int v1)] [] w 0 0 (oV r.1) r.2 := by
  unfold b_Model_putBit_30 at h
  refine V_aload_n (i := 0) d_Model_putBit_30 rfl 0 rfl ?_
  obtain ⟨x31, e31, h⟩ := ob h
  refine V_getR (ci := 9) (k := 7) d_Model_putBit_31 e31 rfl (by decide) in_Model k889 ?_
  refine V_aload_n (i := 0) d_Model_putBit_34 rfl 0 rfl ?_
  obtain ⟨x35, e35, h⟩ := ob h
  refine V_getI (ci := 9) (k := 6) d_Model_putBit_35 e35 rfl (by decide) in_Model k888 ?_
  refine V_iconst (v := 1) d_Model_putBit_38 (by decide) ?_
  refine V_isub d_Model_putBit_39 ?_
  refine V_aload_n (i := 0) d_Model_putBit_40 rfl 0 rfl ?_
  obtain ⟨x41, e41, h⟩ := ob h
  refine V_getR (ci := 9) (k := 7) d_Model_putBit_41 e41 rfl (by decide) in_Model k889 ?_
  refine V_aload_n (i := 0) d_Model_putBit_44 rfl 0 rfl ?_
  obtain ⟨x45, e45, h⟩ := ob h
  refine V_getI (ci := 9) (k := 6) d_Model_putBit_45 e45 rfl (by decide) in_Model k888 ?_
  refine V_iconst (v := 1) d_Model_putBit_48 (by decide) ?_
  refine V_isub d_Model_putBit_49 ?_
  obtain ⟨x50, e50, h⟩ := ob h
  refine V_aget d_Model_putBit_50 e50 ?_
  refine V_iload_n (i := 1) d_Model_putBit_51 rfl 1 rfl ?_
  refine V_aload_n (i := 0) d_Model_putBit_52 rfl 0 rfl ?_
  obtain ⟨x53, e53, h⟩ := ob h
  refine V_getI (ci := 9) (k := 10) d_Model_putBit_53 e53 rfl (by decide) in_Model k892 ?_
  refine V_bipush (v := 8) d_Model_putBit_56 (by decide) ?_
  refine V_irem (by decide) d_Model_putBit_58 ?_
  refine V_ishl d_Model_putBit_59 ?_
  refine V_iadd d_Model_putBit_60 ?_
  obtain ⟨w61, e61, h⟩ := ob h
  refine V_aset d_Model_putBit_61 e61 ?_
  refine V_aload_n (i := 0) d_Model_putBit_62 rfl 0 rfl ?_
  refine V_dup rfl d_Model_putBit_63 ?_
  obtain ⟨x64, e64, h⟩ := ob h
  refine V_getI (ci := 9) (k := 10) d_Model_putBit_64 e64 rfl (by decide) in_Model k892 ?_
  refine V_iconst (v := 1) d_Model_putBit_67 (by decide) ?_
  refine V_iadd d_Model_putBit_68 ?_
  obtain ⟨w69, e69, h⟩ := ob h
  refine V_putI (ci := 9) (k := 10) t_Model d_Model_putBit_69 e69 rfl (by decide) in_Model k892 ty_Model nm_Model rfl (Or.inl rfl) ?_
  obtain rfl := Option.some.inj h
  exact V_vret rfl (by decide) (by decide) d_Model_putBit_72
def b_Model_putBit_0 (F : Nat) (v0 : Nat) (v1 : Int32) (w : zW) : Option (Unit × zW) := (getI w v0 9 10).bind fun x1 => if (x1 % (8 : Int32)) = 0 then ((getR w v0 9 7).bind fun x11 => (getI w v0 9 6).bind fun x15 => (aset w x11 x15 (0 : Int32)).bind fun w19 => (getI w19 v0 9 6).bind fun x22 => (putI w19 v0 9 6 (x22 + (1 : Int32))).bind fun w27 => b_Model_putBit_30 F v0 v1 w27) else (b_Model_putBit_30 F v0 v1 w)
set_option maxRecDepth 100000 in
set_option maxHeartbeats 4000000 in
theorem b_Model_putBit_0_ok (G : zG) (F : Nat) (v0 : Nat) (v1 : Int32) (w : zW) (r : (Unit × zW)) (h : b_Model_putBit_0 F v0 v1 w = some r) : zV G m_Model_putBit 0 [(0, .ref (z0 G + v0)), (1, .int v1)] [] w 0 0 (oV r.1) r.2 := by
  unfold b_Model_putBit_0 at h
  refine V_aload_n (i := 0) d_Model_putBit_0 rfl 0 rfl ?_
  obtain ⟨x1, e1, h⟩ := ob h
  refine V_getI (ci := 9) (k := 10) d_Model_putBit_1 e1 rfl (by decide) in_Model k892 ?_
  refine V_bipush (v := 8) d_Model_putBit_4 (by decide) ?_
  refine V_irem (by decide) d_Model_putBit_6 ?_
  refine V_if_ne (tgt := 30) d_Model_putBit_7 (by decide) (fun c7 => ?_) (fun c7 => ?_)
  · rw [if_neg c7] at h
    exact b_Model_putBit_30_ok G F v0 v1 w _ h
  · rw [if_pos c7] at h
    refine V_aload_n (i := 0) d_Model_putBit_10 rfl 0 rfl ?_
    obtain ⟨x11, e11, h⟩ := ob h
    refine V_getR (ci := 9) (k := 7) d_Model_putBit_11 e11 rfl (by decide) in_Model k889 ?_
    refine V_aload_n (i := 0) d_Model_putBit_14 rfl 0 rfl ?_
    obtain ⟨x15, e15, h⟩ := ob h
    refine V_getI (ci := 9) (k := 6) d_Model_putBit_15 e15 rfl (by decide) in_Model k888 ?_
    refine V_iconst (v := 0) d_Model_putBit_18 (by decide) ?_
    obtain ⟨w19, e19, h⟩ := ob h
    refine V_aset d_Model_putBit_19 e19 ?_
    refine V_aload_n (i := 0) d_Model_putBit_20 rfl 0 rfl ?_
    refine V_dup rfl d_Model_putBit_21 ?_
    obtain ⟨x22, e22, h⟩ := ob h
    refine V_getI (ci := 9) (k := 6) d_Model_putBit_22 e22 rfl (by decide) in_Model k888 ?_
    refine V_iconst (v := 1) d_Model_putBit_25 (by decide) ?_
    refine V_iadd d_Model_putBit_26 ?_
    obtain ⟨w27, e27, h⟩ := ob h
    refine V_putI (ci := 9) (k := 6) t_Model d_Model_putBit_27 e27 rfl (by decide) in_Model k888 ty_Model nm_Model rfl (Or.inl rfl) ?_
    exact b_Model_putBit_30_ok G F v0 v1 w27 _ h
def f_Model_putBit (F : Nat) (v0 : Nat) (v1 : Int32) (w : zW) : Option (Unit × zW) := b_Model_putBit_0 F v0 v1 w
theorem c_Model_putBit (G : zG) (F : Nat) (v0 : Nat) (v1 : Int32) (w : zW) (r : (Unit × zW)) (h : f_Model_putBit F v0 v1 w = some r) : zCT G m_Model_putBit [.ref (z0 G + v0), .int v1] w (oV r.1) r.2 := zCT.ofV (by decide +kernel) (Or.inl ⟨kc_Model_putBit, rfl⟩) (Nat.le_of_ble_eq_true rfl) (b_Model_putBit_0_ok G F v0 v1 w r h)

/-! ZipArrayModel.putLow(II)V -/
def m_Model_putLow : zM := (⟨R_Model, "putLow", "(II)V"⟩, prog_11_method_15_code, 4, none, [], { frames := 1, cells := 0, slots := 0, locals := 21 })
theorem k1045 : Cond.methodLink R_Model 102 (mY m_Model_putBit) ∈ zTb := tb_at 1045 (by decide +kernel) rfl
theorem k1047 : Cond.instanceMethod (mY m_Model_putBit) ∈ zTb := tb_at 1047 (by decide +kernel) rfl
theorem kc_Model_putLow : Cond.code (mY m_Model_putLow) (mC m_Model_putLow) (mL m_Model_putLow) (mT m_Model_putLow) ∈ zTb := tb_at 1044 (by decide +kernel) rfl
theorem y_Model_putLow : (mY m_Model_putLow).cls ≠ "java/lang/invoke/MethodHandle" ∧ (mY m_Model_putLow).cls ≠ "java/lang/invoke/VarHandle" ∧ (parseMethodDescriptor (mY m_Model_putLow).desc).map (fun d => d.parameters.length) = some 2 := by decide +kernel
theorem sel_Model_putLow : Cond.selects R_Model (mY m_Model_putLow) (mY m_Model_putLow) ∈ zTb := sel_at (y := mY m_Model_putLow) (n := 33) 42 (by decide +kernel)
theorem d_Model_putLow_0 : decode (mC m_Model_putLow) 0 = .ok (.iconst 0, 1) := by decide +kernel
theorem d_Model_putLow_1 : decode (mC m_Model_putLow) 1 = .ok (.istore_n 3, 1) := by decide +kernel
theorem d_Model_putLow_2 : decode (mC m_Model_putLow) 2 = .ok (.iload_n 3, 1) := by decide +kernel
theorem d_Model_putLow_3 : decode (mC m_Model_putLow) 3 = .ok (.iload_n 2, 1) := by decide +kernel
theorem d_Model_putLow_4 : decode (mC m_Model_putLow) 4 = .ok (.if_icmp .ge 18, 3) := by decide +kernel
theorem d_Model_putLow_7 : decode (mC m_Model_putLow) 7 = .ok (.aload_n 0, 1) := by decide +kernel
theorem d_Model_putLow_8 : decode (mC m_Model_putLow) 8 = .ok (.iload_n 1, 1) := by decide +kernel
theorem d_Model_putLow_9 : decode (mC m_Model_putLow) 9 = .ok (.iload_n 3, 1) := by decide +kernel
theorem d_Model_putLow_10 : decode (mC m_Model_putLow) 10 = .ok (.ishr, 1) := by decide +kernel
theorem d_Model_putLow_11 : decode (mC m_Model_putLow) 11 = .ok (.iconst 1, 1) := by decide +kernel
theorem d_Model_putLow_12 : decode (mC m_Model_putLow) 12 = .ok (.iand, 1) := by decide +kernel
theorem d_Model_putLow_13 : decode (mC m_Model_putLow) 13 = .ok (.invokevirtual 102, 3) := by decide +kernel
theorem d_Model_putLow_16 : decode (mC m_Model_putLow) 16 = .ok (.iinc 3 1, 3) := by decide +kernel
theorem d_Model_putLow_19 : decode (mC m_Model_putLow) 19 = .ok (.goto (-17), 3) := by decide +kernel
theorem d_Model_putLow_22 : decode (mC m_Model_putLow) 22 = .ok (.return_, 1) := by decide +kernel
def b_Model_putLow_2 (F : Nat) (K2 : Nat → Int32 → Int32 → Int32 → zW → Option (Unit × zW)) (v0 : Nat) (v1 : Int32) (v2 : Int32) (v3 : Int32) (w : zW) : Option (Unit × zW) := if v2 ≤ v3 then (some ((), w)) else ((zobj w v0 9).bind fun _ => (f_Model_putBit F v0 ((v1 >>> (v3 &&& 31)) &&& (1 : Int32)) w).bind fun r13 => K2 v0 v1 v2 (v3 + (1 : Int32)) r13.2)
set_option maxRecDepth 100000 in
set_option maxHeartbeats 4000000 in
theorem b_Model_putLow_2_ok (G : zG) (F : Nat) (K2 : Nat → Int32 → Int32 → Int32 → zW → Option (Unit × zW)) (hK2 : ∀ (v0 : Nat) (v1 : Int32) (v2 : Int32) (v3 : Int32) (w : zW) (r : (Unit × zW)), K2 v0 v1 v2 v3 w = some r → zV G m_Model_putLow 2 [(0, .ref (z0 G + v0)), (1, .int v1), (2, .int v2), (3, .int v3)] [] w 0 0 (oV r.1) r.2) (v0 : Nat) (v1 : Int32) (v2 : Int32) (v3 : Int32) (w : zW) (r : (Unit × zW)) (h : b_Model_putLow_2 F K2 v0 v1 v2 v3 w = some r) : zV G m_Model_putLow 2 [(0, .ref (z0 G + v0)), (1, .int v1), (2, .int v2), (3, .int v3)] [] w 0 0 (oV r.1) r.2 := by
  unfold b_Model_putLow_2 at h
  refine V_iload_n (i := 3) d_Model_putLow_2 rfl 3 rfl ?_
  refine V_iload_n (i := 2) d_Model_putLow_3 rfl 2 rfl ?_
  refine V_icmp_ge (tgt := 22) d_Model_putLow_4 (by decide) (fun c4 => ?_) (fun c4 => ?_)
  · rw [if_pos c4] at h
    obtain rfl := Option.some.inj h
    exact V_vret rfl (by decide) (by decide) d_Model_putLow_22
  · rw [if_neg c4] at h
    refine V_aload_n (i := 0) d_Model_putLow_7 rfl 0 rfl ?_
    refine V_iload_n (i := 1) d_Model_putLow_8 rfl 1 rfl ?_
    refine V_iload_n (i := 3) d_Model_putLow_9 rfl 3 rfl ?_
    refine V_ishr d_Model_putLow_10 ?_
    refine V_iconst (v := 1) d_Model_putLow_11 (by decide) ?_
    refine V_iand d_Model_putLow_12 ?_
    obtain ⟨_, eo13, h⟩ := ob h
    obtain ⟨r13, e13, h⟩ := ob h
    refine V_call (v := none) (st := []) (inv_V (N := m_Model_putBit) (As := [.int ((v1 >>> (v3 &&& 31)) &&& (1 : Int32))]) (ci := 9) d_Model_putLow_13 eo13 rfl k1045 k1047 sel_Model_putBit kc_Model_putBit y_Model_putBit) ⟨Or.inl kc_Model_putBit, k10, by decide, by decide⟩ (Nat.le_of_ble_eq_true rfl) (by decide) (by decide) (c_Model_putBit G F v0 ((v1 >>> (v3 &&& 31)) &&& (1 : Int32)) w r13 e13) ?_
    refine V_iinc (i := 3) (v := (v3 + (1 : Int32))) d_Model_putLow_16 3 rfl (congrArg (fun y => v3 + y) (by decide : Int32.ofInt (1) = (1 : Int32))) (by decide) rfl ?_
    refine V_goto (tgt := 2) d_Model_putLow_19 (by decide) ?_
    refine V_lv [1, 2, 3, 0] rfl ?_
    exact hK2 v0 v1 v2 (v3 + (1 : Int32)) r13.2 _ h
def l_Model_putLow_2 (F : Nat) : Nat → Nat → Int32 → Int32 → Int32 → zW → Option (Unit × zW)
  | 0 => fun _ _ _ _ _ => none
  | n + 1 => b_Model_putLow_2 F (l_Model_putLow_2 F n)
theorem l_Model_putLow_2_ok (G : zG) (F : Nat) (n : Nat) :  ∀ (v0 : Nat) (v1 : Int32) (v2 : Int32) (v3 : Int32) (w : zW) (r : (Unit × zW)), l_Model_putLow_2 F n v0 v1 v2 v3 w = some r → zV G m_Model_putLow 2 [(0, .ref (z0 G + v0)), (1, .int v1), (2, .int v2), (3, .int v3)] [] w 0 0 (oV r.1) r.2 := by
  induction n with
  | zero => intro v0 v1 v2 v3 w r h; exact nomatch (show (none : Option (Unit × zW)) = some r from h)
  | succ n ih => intro v0 v1 v2 v3 w r h; exact b_Model_putLow_2_ok G F (l_Model_putLow_2 F n) ih v0 v1 v2 v3 w r h
def b_Model_putLow_0 (F : Nat) (v0 : Nat) (v1 : Int32) (v2 : Int32) (w : zW) : Option (Unit × zW) := l_Model_putLow_2 F F v0 v1 v2 (0 : Int32) w
set_option maxRecDepth 100000 in
set_option maxHeartbeats 4000000 in
theorem b_Model_putLow_0_ok (G : zG) (F : Nat) (v0 : Nat) (v1 : Int32) (v2 : Int32) (w : zW) (r : (Unit × zW)) (h : b_Model_putLow_0 F v0 v1 v2 w = some r) : zV G m_Model_putLow 0 [(0, .ref (z0 G + v0)), (1, .int v1), (2, .int v2)] [] w 0 0 (oV r.1) r.2 := by
  unfold b_Model_putLow_0 at h
  refine V_iconst (v := 0) d_Model_putLow_0 (by decide) ?_
  refine V_istore_n (i := 3) d_Model_putLow_1 rfl (by decide) rfl ?_
  refine V_lv [1, 2, 3, 0] rfl ?_
  exact l_Model_putLow_2_ok G F F v0 v1 v2 (0 : Int32) w _ h
def f_Model_putLow (F : Nat) (v0 : Nat) (v1 : Int32) (v2 : Int32) (w : zW) : Option (Unit × zW) := b_Model_putLow_0 F v0 v1 v2 w
theorem c_Model_putLow (G : zG) (F : Nat) (v0 : Nat) (v1 : Int32) (v2 : Int32) (w : zW) (r : (Unit × zW)) (h : f_Model_putLow F v0 v1 v2 w = some r) : zCT G m_Model_putLow [.ref (z0 G + v0), .int v1, .int v2] w (oV r.1) r.2 := zCT.ofV (by decide +kernel) (Or.inl ⟨kc_Model_putLow, rfl⟩) (Nat.le_of_ble_eq_true rfl) (b_Model_putLow_0_ok G F v0 v1 v2 w r h)

/-! ZipArrayModel.putWord(I)V -/
def m_Model_putWord : zM := (⟨R_Model, "putWord", "(I)V"⟩, prog_11_method_16_code, 3, none, [], { frames := 1, cells := 0, slots := 0, locals := 21 })
theorem kc_Model_putWord : Cond.code (mY m_Model_putWord) (mC m_Model_putWord) (mL m_Model_putWord) (mT m_Model_putWord) ∈ zTb := tb_at 1056 (by decide +kernel) rfl
theorem y_Model_putWord : (mY m_Model_putWord).cls ≠ "java/lang/invoke/MethodHandle" ∧ (mY m_Model_putWord).cls ≠ "java/lang/invoke/VarHandle" ∧ (parseMethodDescriptor (mY m_Model_putWord).desc).map (fun d => d.parameters.length) = some 1 := by decide +kernel
theorem sel_Model_putWord : Cond.selects R_Model (mY m_Model_putWord) (mY m_Model_putWord) ∈ zTb := sel_at (y := mY m_Model_putWord) (n := 33) 45 (by decide +kernel)
theorem d_Model_putWord_0 : decode (mC m_Model_putWord) 0 = .ok (.aload_n 0, 1) := by decide +kernel
theorem d_Model_putWord_1 : decode (mC m_Model_putWord) 1 = .ok (.getfield 22, 3) := by decide +kernel
theorem d_Model_putWord_4 : decode (mC m_Model_putWord) 4 = .ok (.iload_n 1, 1) := by decide +kernel
theorem d_Model_putWord_5 : decode (mC m_Model_putWord) 5 = .ok (.iaload, 1) := by decide +kernel
theorem d_Model_putWord_6 : decode (mC m_Model_putWord) 6 = .ok (.iconst 1, 1) := by decide +kernel
theorem d_Model_putWord_7 : decode (mC m_Model_putWord) 7 = .ok (.isub, 1) := by decide +kernel
theorem d_Model_putWord_8 : decode (mC m_Model_putWord) 8 = .ok (.istore_n 2, 1) := by decide +kernel
theorem d_Model_putWord_9 : decode (mC m_Model_putWord) 9 = .ok (.iload_n 2, 1) := by decide +kernel
theorem d_Model_putWord_10 : decode (mC m_Model_putWord) 10 = .ok (.ifCond .lt 23, 3) := by decide +kernel
theorem d_Model_putWord_13 : decode (mC m_Model_putWord) 13 = .ok (.aload_n 0, 1) := by decide +kernel
theorem d_Model_putWord_14 : decode (mC m_Model_putWord) 14 = .ok (.aload_n 0, 1) := by decide +kernel
theorem d_Model_putWord_15 : decode (mC m_Model_putWord) 15 = .ok (.getfield 25, 3) := by decide +kernel
theorem d_Model_putWord_18 : decode (mC m_Model_putWord) 18 = .ok (.iload_n 1, 1) := by decide +kernel
theorem d_Model_putWord_19 : decode (mC m_Model_putWord) 19 = .ok (.iaload, 1) := by decide +kernel
theorem d_Model_putWord_20 : decode (mC m_Model_putWord) 20 = .ok (.iload_n 2, 1) := by decide +kernel
theorem d_Model_putWord_21 : decode (mC m_Model_putWord) 21 = .ok (.ishr, 1) := by decide +kernel
theorem d_Model_putWord_22 : decode (mC m_Model_putWord) 22 = .ok (.iconst 1, 1) := by decide +kernel
theorem d_Model_putWord_23 : decode (mC m_Model_putWord) 23 = .ok (.iand, 1) := by decide +kernel
theorem d_Model_putWord_24 : decode (mC m_Model_putWord) 24 = .ok (.invokevirtual 102, 3) := by decide +kernel
theorem d_Model_putWord_27 : decode (mC m_Model_putWord) 27 = .ok (.iinc 2 (-1), 3) := by decide +kernel
theorem d_Model_putWord_30 : decode (mC m_Model_putWord) 30 = .ok (.goto (-21), 3) := by decide +kernel
theorem d_Model_putWord_33 : decode (mC m_Model_putWord) 33 = .ok (.return_, 1) := by decide +kernel
def b_Model_putWord_9 (F : Nat) (K9 : Nat → Int32 → Int32 → zW → Option (Unit × zW)) (v0 : Nat) (v1 : Int32) (v2 : Int32) (w : zW) : Option (Unit × zW) := if v2 < 0 then (some ((), w)) else ((getR w v0 9 13).bind fun x15 => (aget w x15 v1).bind fun x19 => (zobj w v0 9).bind fun _ => (f_Model_putBit F v0 ((x19 >>> (v2 &&& 31)) &&& (1 : Int32)) w).bind fun r24 => K9 v0 v1 (v2 + (-1 : Int32)) r24.2)
set_option maxRecDepth 100000 in
set_option maxHeartbeats 4000000 in
theorem b_Model_putWord_9_ok (G : zG) (F : Nat) (K9 : Nat → Int32 → Int32 → zW → Option (Unit × zW)) (hK9 : ∀ (v0 : Nat) (v1 : Int32) (v2 : Int32) (w : zW) (r : (Unit × zW)), K9 v0 v1 v2 w = some r → zV G m_Model_putWord 9 [(0, .ref (z0 G + v0)), (1, .int v1), (2, .int v2)] [] w 0 0 (oV r.1) r.2) (v0 : Nat) (v1 : Int32) (v2 : Int32) (w : zW) (r : (Unit × zW)) (h : b_Model_putWord_9 F K9 v0 v1 v2 w = some r) : zV G m_Model_putWord 9 [(0, .ref (z0 G + v0)), (1, .int v1), (2, .int v2)] [] w 0 0 (oV r.1) r.2 := by
  unfold b_Model_putWord_9 at h
  refine V_iload_n (i := 2) d_Model_putWord_9 rfl 2 rfl ?_
  refine V_if_lt (tgt := 33) d_Model_putWord_10 (by decide) (fun c10 => ?_) (fun c10 => ?_)
  · rw [if_pos c10] at h
    obtain rfl := Option.some.inj h
    exact V_vret rfl (by decide) (by decide) d_Model_putWord_33
  · rw [if_neg c10] at h
    refine V_aload_n (i := 0) d_Model_putWord_13 rfl 0 rfl ?_
    refine V_aload_n (i := 0) d_Model_putWord_14 rfl 0 rfl ?_
    obtain ⟨x15, e15, h⟩ := ob h
    refine V_getR (ci := 9) (k := 13) d_Model_putWord_15 e15 rfl (by decide) in_Model k895 ?_
    refine V_iload_n (i := 1) d_Model_putWord_18 rfl 1 rfl ?_
    obtain ⟨x19, e19, h⟩ := ob h
    refine V_aget d_Model_putWord_19 e19 ?_
    refine V_iload_n (i := 2) d_Model_putWord_20 rfl 2 rfl ?_
    refine V_ishr d_Model_putWord_21 ?_
    refine V_iconst (v := 1) d_Model_putWord_22 (by decide) ?_
    refine V_iand d_Model_putWord_23 ?_
    obtain ⟨_, eo24, h⟩ := ob h
    obtain ⟨r24, e24, h⟩ := ob h
    refine V_call (v := none) (st := []) (inv_V (N := m_Model_putBit) (As := [.int ((x19 >>> (v2 &&& 31)) &&& (1 : Int32))]) (ci := 9) d_Model_putWord_24 eo24 rfl k1045 k1047 sel_Model_putBit kc_Model_putBit y_Model_putBit) ⟨Or.inl kc_Model_putBit, k10, by decide, by decide⟩ (Nat.le_of_ble_eq_true rfl) (by decide) (by decide) (c_Model_putBit G F v0 ((x19 >>> (v2 &&& 31)) &&& (1 : Int32)) w r24 e24) ?_
    refine V_iinc (i := 2) (v := (v2 + (-1 : Int32))) d_Model_putWord_27 2 rfl (congrArg (fun y => v2 + y) (by decide : Int32.ofInt (-1) = (-1 : Int32))) (by decide) rfl ?_
    refine V_goto (tgt := 9) d_Model_putWord_30 (by decide) ?_
    refine V_lv [1, 2, 0] rfl ?_
    exact hK9 v0 v1 (v2 + (-1 : Int32)) r24.2 _ h
def l_Model_putWord_9 (F : Nat) : Nat → Nat → Int32 → Int32 → zW → Option (Unit × zW)
  | 0 => fun _ _ _ _ => none
  | n + 1 => b_Model_putWord_9 F (l_Model_putWord_9 F n)
theorem l_Model_putWord_9_ok (G : zG) (F : Nat) (n : Nat) :  ∀ (v0 : Nat) (v1 : Int32) (v2 : Int32) (w : zW) (r : (Unit × zW)), l_Model_putWord_9 F n v0 v1 v2 w = some r → zV G m_Model_putWord 9 [(0, .ref (z0 G + v0)), (1, .int v1), (2, .int v2)] [] w 0 0 (oV r.1) r.2 := by
  induction n with
  | zero => intro v0 v1 v2 w r h; exact nomatch (show (none : Option (Unit × zW)) = some r from h)
  | succ n ih => intro v0 v1 v2 w r h; exact b_Model_putWord_9_ok G F (l_Model_putWord_9 F n) ih v0 v1 v2 w r h
def b_Model_putWord_0 (F : Nat) (v0 : Nat) (v1 : Int32) (w : zW) : Option (Unit × zW) := (getR w v0 9 12).bind fun x1 => (aget w x1 v1).bind fun x5 => l_Model_putWord_9 F F v0 v1 (x5 - (1 : Int32)) w
set_option maxRecDepth 100000 in
set_option maxHeartbeats 4000000 in
theorem b_Model_putWord_0_ok (G : zG) (F : Nat) (v0 : Nat) (v1 : Int32) (w : zW) (r : (Unit × zW)) (h : b_Model_putWord_0 F v0 v1 w = some r) : zV G m_Model_putWord 0 [(0, .ref (z0 G + v0)), (1, .int v1)] [] w 0 0 (oV r.1) r.2 := by
  unfold b_Model_putWord_0 at h
  refine V_aload_n (i := 0) d_Model_putWord_0 rfl 0 rfl ?_
  obtain ⟨x1, e1, h⟩ := ob h
  refine V_getR (ci := 9) (k := 12) d_Model_putWord_1 e1 rfl (by decide) in_Model k894 ?_
  refine V_iload_n (i := 1) d_Model_putWord_4 rfl 1 rfl ?_
  obtain ⟨x5, e5, h⟩ := ob h
  refine V_aget d_Model_putWord_5 e5 ?_
  refine V_iconst (v := 1) d_Model_putWord_6 (by decide) ?_
  refine V_isub d_Model_putWord_7 ?_
  refine V_istore_n (i := 2) d_Model_putWord_8 rfl (by decide) rfl ?_
  refine V_lv [1, 2, 0] rfl ?_
  exact l_Model_putWord_9_ok G F F v0 v1 (x5 - (1 : Int32)) w _ h
def f_Model_putWord (F : Nat) (v0 : Nat) (v1 : Int32) (w : zW) : Option (Unit × zW) := b_Model_putWord_0 F v0 v1 w
theorem c_Model_putWord (G : zG) (F : Nat) (v0 : Nat) (v1 : Int32) (w : zW) (r : (Unit × zW)) (h : f_Model_putWord F v0 v1 w = some r) : zCT G m_Model_putWord [.ref (z0 G + v0), .int v1] w (oV r.1) r.2 := zCT.ofV (by decide +kernel) (Or.inl ⟨kc_Model_putWord, rfl⟩) (Nat.le_of_ble_eq_true rfl) (b_Model_putWord_0_ok G F v0 v1 w r h)

/-! ZipArrayModel.alike(II)I -/
def m_Model_alike : zM := (⟨R_Model, "alike", "(II)I"⟩, prog_11_method_17_code, 4, (some .int), [], { frames := 0, cells := 0, slots := 0, locals := 0 })
theorem kc_Model_alike : Cond.code (mY m_Model_alike) (mC m_Model_alike) (mL m_Model_alike) (mT m_Model_alike) ∈ zTb := tb_at 1052 (by decide +kernel) rfl
theorem y_Model_alike : (mY m_Model_alike).cls ≠ "java/lang/invoke/MethodHandle" ∧ (mY m_Model_alike).cls ≠ "java/lang/invoke/VarHandle" ∧ (parseMethodDescriptor (mY m_Model_alike).desc).map (fun d => d.parameters.length) = some 2 := by decide +kernel
theorem sel_Model_alike : Cond.selects R_Model (mY m_Model_alike) (mY m_Model_alike) ∈ zTb := sel_at (y := mY m_Model_alike) (n := 33) 44 (by decide +kernel)
theorem d_Model_alike_0 : decode (mC m_Model_alike) 0 = .ok (.iconst 0, 1) := by decide +kernel
theorem d_Model_alike_1 : decode (mC m_Model_alike) 1 = .ok (.istore_n 3, 1) := by decide +kernel
theorem d_Model_alike_2 : decode (mC m_Model_alike) 2 = .ok (.iload_n 3, 1) := by decide +kernel
theorem d_Model_alike_3 : decode (mC m_Model_alike) 3 = .ok (.sipush 258, 3) := by decide +kernel
theorem d_Model_alike_6 : decode (mC m_Model_alike) 6 = .ok (.if_icmp .ge 38, 3) := by decide +kernel
theorem d_Model_alike_9 : decode (mC m_Model_alike) 9 = .ok (.iload_n 2, 1) := by decide +kernel
theorem d_Model_alike_10 : decode (mC m_Model_alike) 10 = .ok (.iload_n 3, 1) := by decide +kernel
theorem d_Model_alike_11 : decode (mC m_Model_alike) 11 = .ok (.iadd, 1) := by decide +kernel
theorem d_Model_alike_12 : decode (mC m_Model_alike) 12 = .ok (.aload_n 0, 1) := by decide +kernel
theorem d_Model_alike_13 : decode (mC m_Model_alike) 13 = .ok (.getfield 82, 3) := by decide +kernel
theorem d_Model_alike_16 : decode (mC m_Model_alike) 16 = .ok (.if_icmp .ge 28, 3) := by decide +kernel
theorem d_Model_alike_19 : decode (mC m_Model_alike) 19 = .ok (.aload_n 0, 1) := by decide +kernel
theorem d_Model_alike_20 : decode (mC m_Model_alike) 20 = .ok (.getfield 7, 3) := by decide +kernel
theorem d_Model_alike_23 : decode (mC m_Model_alike) 23 = .ok (.iload_n 1, 1) := by decide +kernel
theorem d_Model_alike_24 : decode (mC m_Model_alike) 24 = .ok (.iload_n 3, 1) := by decide +kernel
theorem d_Model_alike_25 : decode (mC m_Model_alike) 25 = .ok (.iadd, 1) := by decide +kernel
theorem d_Model_alike_26 : decode (mC m_Model_alike) 26 = .ok (.iaload, 1) := by decide +kernel
theorem d_Model_alike_27 : decode (mC m_Model_alike) 27 = .ok (.aload_n 0, 1) := by decide +kernel
theorem d_Model_alike_28 : decode (mC m_Model_alike) 28 = .ok (.getfield 7, 3) := by decide +kernel
theorem d_Model_alike_31 : decode (mC m_Model_alike) 31 = .ok (.iload_n 2, 1) := by decide +kernel
theorem d_Model_alike_32 : decode (mC m_Model_alike) 32 = .ok (.iload_n 3, 1) := by decide +kernel
theorem d_Model_alike_33 : decode (mC m_Model_alike) 33 = .ok (.iadd, 1) := by decide +kernel
theorem d_Model_alike_34 : decode (mC m_Model_alike) 34 = .ok (.iaload, 1) := by decide +kernel
theorem d_Model_alike_35 : decode (mC m_Model_alike) 35 = .ok (.if_icmp .ne 9, 3) := by decide +kernel
theorem d_Model_alike_38 : decode (mC m_Model_alike) 38 = .ok (.iinc 3 1, 3) := by decide +kernel
theorem d_Model_alike_41 : decode (mC m_Model_alike) 41 = .ok (.goto (-39), 3) := by decide +kernel
theorem d_Model_alike_44 : decode (mC m_Model_alike) 44 = .ok (.iload_n 3, 1) := by decide +kernel
theorem d_Model_alike_45 : decode (mC m_Model_alike) 45 = .ok (.ireturn, 1) := by decide +kernel
def b_Model_alike_44 (F : Nat) (v3 : Int32) (w : zW) : Option (Int32 × zW) := some (v3, w)
set_option maxRecDepth 100000 in
set_option maxHeartbeats 4000000 in
theorem b_Model_alike_44_ok (G : zG) (F : Nat) (v3 : Int32) (w : zW) (r : (Int32 × zW)) (h : b_Model_alike_44 F v3 w = some r) : zV G m_Model_alike 44 [(3, .int v3)] [] w 0 0 (oI r.1) r.2 := by
  unfold b_Model_alike_44 at h
  refine V_iload_n (i := 3) d_Model_alike_44 rfl 0 rfl ?_
  obtain rfl := Option.some.inj h
  exact V_iret rfl (by decide) (by decide) d_Model_alike_45
def b_Model_alike_2 (F : Nat) (K2 : Nat → Int32 → Int32 → Int32 → zW → Option (Int32 × zW)) (v0 : Nat) (v1 : Int32) (v2 : Int32) (v3 : Int32) (w : zW) : Option (Int32 × zW) := if (258 : Int32) ≤ v3 then (b_Model_alike_44 F v3 w) else ((getI w v0 9 1).bind fun x13 => if x13 ≤ (v2 + v3) then (b_Model_alike_44 F v3 w) else ((getR w v0 9 2).bind fun x20 => (aget w x20 (v1 + v3)).bind fun x26 => (getR w v0 9 2).bind fun x28 => (aget w x28 (v2 + v3)).bind fun x34 => if x26 = x34 then (K2 v0 v1 v2 (v3 + (1 : Int32)) w) else (b_Model_alike_44 F v3 w)))
set_option maxRecDepth 100000 in
set_option maxHeartbeats 4000000 in
theorem b_Model_alike_2_ok (G : zG) (F : Nat) (K2 : Nat → Int32 → Int32 → Int32 → zW → Option (Int32 × zW)) (hK2 : ∀ (v0 : Nat) (v1 : Int32) (v2 : Int32) (v3 : Int32) (w : zW) (r : (Int32 × zW)), K2 v0 v1 v2 v3 w = some r → zV G m_Model_alike 2 [(0, .ref (z0 G + v0)), (1, .int v1), (2, .int v2), (3, .int v3)] [] w 0 0 (oI r.1) r.2) (v0 : Nat) (v1 : Int32) (v2 : Int32) (v3 : Int32) (w : zW) (r : (Int32 × zW)) (h : b_Model_alike_2 F K2 v0 v1 v2 v3 w = some r) : zV G m_Model_alike 2 [(0, .ref (z0 G + v0)), (1, .int v1), (2, .int v2), (3, .int v3)] [] w 0 0 (oI r.1) r.2 := by
  unfold b_Model_alike_2 at h
  refine V_iload_n (i := 3) d_Model_alike_2 rfl 3 rfl ?_
  refine V_sipush (v := 258) d_Model_alike_3 (by decide) ?_
  refine V_icmp_ge (tgt := 44) d_Model_alike_6 (by decide) (fun c6 => ?_) (fun c6 => ?_)
  · rw [if_pos c6] at h
    refine V_lv [3] rfl ?_
    exact b_Model_alike_44_ok G F v3 w _ h
  · rw [if_neg c6] at h
    refine V_iload_n (i := 2) d_Model_alike_9 rfl 2 rfl ?_
    refine V_iload_n (i := 3) d_Model_alike_10 rfl 3 rfl ?_
    refine V_iadd d_Model_alike_11 ?_
    refine V_aload_n (i := 0) d_Model_alike_12 rfl 0 rfl ?_
    obtain ⟨x13, e13, h⟩ := ob h
    refine V_getI (ci := 9) (k := 1) d_Model_alike_13 e13 rfl (by decide) in_Model k883 ?_
    refine V_icmp_ge (tgt := 44) d_Model_alike_16 (by decide) (fun c16 => ?_) (fun c16 => ?_)
    · rw [if_pos c16] at h
      refine V_lv [3] rfl ?_
      exact b_Model_alike_44_ok G F v3 w _ h
    · rw [if_neg c16] at h
      refine V_aload_n (i := 0) d_Model_alike_19 rfl 0 rfl ?_
      obtain ⟨x20, e20, h⟩ := ob h
      refine V_getR (ci := 9) (k := 2) d_Model_alike_20 e20 rfl (by decide) in_Model k884 ?_
      refine V_iload_n (i := 1) d_Model_alike_23 rfl 1 rfl ?_
      refine V_iload_n (i := 3) d_Model_alike_24 rfl 3 rfl ?_
      refine V_iadd d_Model_alike_25 ?_
      obtain ⟨x26, e26, h⟩ := ob h
      refine V_aget d_Model_alike_26 e26 ?_
      refine V_aload_n (i := 0) d_Model_alike_27 rfl 0 rfl ?_
      obtain ⟨x28, e28, h⟩ := ob h
      refine V_getR (ci := 9) (k := 2) d_Model_alike_28 e28 rfl (by decide) in_Model k884 ?_
      refine V_iload_n (i := 2) d_Model_alike_31 rfl 2 rfl ?_
      refine V_iload_n (i := 3) d_Model_alike_32 rfl 3 rfl ?_
      refine V_iadd d_Model_alike_33 ?_
      obtain ⟨x34, e34, h⟩ := ob h
      refine V_aget d_Model_alike_34 e34 ?_
      refine V_icmp_ne (tgt := 44) d_Model_alike_35 (by decide) (fun c35 => ?_) (fun c35 => ?_)
      · rw [if_neg c35] at h
        refine V_lv [3] rfl ?_
        exact b_Model_alike_44_ok G F v3 w _ h
      · rw [if_pos c35] at h
        refine V_iinc (i := 3) (v := (v3 + (1 : Int32))) d_Model_alike_38 3 rfl (congrArg (fun y => v3 + y) (by decide : Int32.ofInt (1) = (1 : Int32))) (by decide) rfl ?_
        refine V_goto (tgt := 2) d_Model_alike_41 (by decide) ?_
        refine V_lv [1, 2, 3, 0] rfl ?_
        exact hK2 v0 v1 v2 (v3 + (1 : Int32)) w _ h
def l_Model_alike_2 (F : Nat) : Nat → Nat → Int32 → Int32 → Int32 → zW → Option (Int32 × zW)
  | 0 => fun _ _ _ _ _ => none
  | n + 1 => b_Model_alike_2 F (l_Model_alike_2 F n)
theorem l_Model_alike_2_ok (G : zG) (F : Nat) (n : Nat) :  ∀ (v0 : Nat) (v1 : Int32) (v2 : Int32) (v3 : Int32) (w : zW) (r : (Int32 × zW)), l_Model_alike_2 F n v0 v1 v2 v3 w = some r → zV G m_Model_alike 2 [(0, .ref (z0 G + v0)), (1, .int v1), (2, .int v2), (3, .int v3)] [] w 0 0 (oI r.1) r.2 := by
  induction n with
  | zero => intro v0 v1 v2 v3 w r h; exact nomatch (show (none : Option (Int32 × zW)) = some r from h)
  | succ n ih => intro v0 v1 v2 v3 w r h; exact b_Model_alike_2_ok G F (l_Model_alike_2 F n) ih v0 v1 v2 v3 w r h
def b_Model_alike_0 (F : Nat) (v0 : Nat) (v1 : Int32) (v2 : Int32) (w : zW) : Option (Int32 × zW) := l_Model_alike_2 F F v0 v1 v2 (0 : Int32) w
set_option maxRecDepth 100000 in
set_option maxHeartbeats 4000000 in
theorem b_Model_alike_0_ok (G : zG) (F : Nat) (v0 : Nat) (v1 : Int32) (v2 : Int32) (w : zW) (r : (Int32 × zW)) (h : b_Model_alike_0 F v0 v1 v2 w = some r) : zV G m_Model_alike 0 [(0, .ref (z0 G + v0)), (1, .int v1), (2, .int v2)] [] w 0 0 (oI r.1) r.2 := by
  unfold b_Model_alike_0 at h
  refine V_iconst (v := 0) d_Model_alike_0 (by decide) ?_
  refine V_istore_n (i := 3) d_Model_alike_1 rfl (by decide) rfl ?_
  refine V_lv [1, 2, 3, 0] rfl ?_
  exact l_Model_alike_2_ok G F F v0 v1 v2 (0 : Int32) w _ h
def f_Model_alike (F : Nat) (v0 : Nat) (v1 : Int32) (v2 : Int32) (w : zW) : Option (Int32 × zW) := b_Model_alike_0 F v0 v1 v2 w
theorem c_Model_alike (G : zG) (F : Nat) (v0 : Nat) (v1 : Int32) (v2 : Int32) (w : zW) (r : (Int32 × zW)) (h : f_Model_alike F v0 v1 v2 w = some r) : zCT G m_Model_alike [.ref (z0 G + v0), .int v1, .int v2] w (oI r.1) r.2 := zCT.ofV (by decide +kernel) (Or.inl ⟨kc_Model_alike, rfl⟩) (Nat.le_of_ble_eq_true rfl) (b_Model_alike_0_ok G F v0 v1 v2 w r h)

/-! ZipArrayModel.extraLength(I)I -/
def m_Model_extraLength : zM := (⟨R_Model, "extraLength", "(I)I"⟩, prog_11_method_20_code, 1, (some .int), [], { frames := 0, cells := 0, slots := 0, locals := 0 })
theorem kc_Model_extraLength : Cond.code (mY m_Model_extraLength) (mC m_Model_extraLength) (mL m_Model_extraLength) (mT m_Model_extraLength) ∈ zTb := tb_at 1066 (by decide +kernel) rfl
theorem y_Model_extraLength : (mY m_Model_extraLength).cls ≠ "java/lang/invoke/MethodHandle" ∧ (mY m_Model_extraLength).cls ≠ "java/lang/invoke/VarHandle" ∧ (parseMethodDescriptor (mY m_Model_extraLength).desc).map (fun d => d.parameters.length) = some 1 := by decide +kernel
theorem d_Model_extraLength_0 : decode (mC m_Model_extraLength) 0 = .ok (.iload_n 0, 1) := by decide +kernel
theorem d_Model_extraLength_1 : decode (mC m_Model_extraLength) 1 = .ok (.sipush 265, 3) := by decide +kernel
theorem d_Model_extraLength_4 : decode (mC m_Model_extraLength) 4 = .ok (.if_icmp .lt 10, 3) := by decide +kernel
theorem d_Model_extraLength_7 : decode (mC m_Model_extraLength) 7 = .ok (.iload_n 0, 1) := by decide +kernel
theorem d_Model_extraLength_8 : decode (mC m_Model_extraLength) 8 = .ok (.sipush 285, 3) := by decide +kernel
theorem d_Model_extraLength_11 : decode (mC m_Model_extraLength) 11 = .ok (.if_icmp .ne 7, 3) := by decide +kernel
theorem d_Model_extraLength_14 : decode (mC m_Model_extraLength) 14 = .ok (.iconst 0, 1) := by decide +kernel
theorem d_Model_extraLength_15 : decode (mC m_Model_extraLength) 15 = .ok (.goto 12, 3) := by decide +kernel
theorem d_Model_extraLength_18 : decode (mC m_Model_extraLength) 18 = .ok (.iload_n 0, 1) := by decide +kernel
theorem d_Model_extraLength_19 : decode (mC m_Model_extraLength) 19 = .ok (.sipush 265, 3) := by decide +kernel
theorem d_Model_extraLength_22 : decode (mC m_Model_extraLength) 22 = .ok (.isub, 1) := by decide +kernel
theorem d_Model_extraLength_23 : decode (mC m_Model_extraLength) 23 = .ok (.iconst 4, 1) := by decide +kernel
theorem d_Model_extraLength_24 : decode (mC m_Model_extraLength) 24 = .ok (.idiv, 1) := by decide +kernel
theorem d_Model_extraLength_25 : decode (mC m_Model_extraLength) 25 = .ok (.iconst 1, 1) := by decide +kernel
theorem d_Model_extraLength_26 : decode (mC m_Model_extraLength) 26 = .ok (.iadd, 1) := by decide +kernel
theorem d_Model_extraLength_27 : decode (mC m_Model_extraLength) 27 = .ok (.ireturn, 1) := by decide +kernel
def b_Model_extraLength_14 (F : Nat) (w : zW) : Option (Int32 × zW) := some ((0 : Int32), w)
set_option maxRecDepth 100000 in
set_option maxHeartbeats 4000000 in
theorem b_Model_extraLength_14_ok (G : zG) (F : Nat) (w : zW) (r : (Int32 × zW)) (h : b_Model_extraLength_14 F w = some r) : zV G m_Model_extraLength 14 [] [] w 0 0 (oI r.1) r.2 := by
  unfold b_Model_extraLength_14 at h
  refine V_iconst (v := 0) d_Model_extraLength_14 (by decide) ?_
  refine V_goto (tgt := 27) d_Model_extraLength_15 (by decide) ?_
  obtain rfl := Option.some.inj h
  exact V_iret rfl (by decide) (by decide) d_Model_extraLength_27
def b_Model_extraLength_0 (F : Nat) (v0 : Int32) (w : zW) : Option (Int32 × zW) := if v0 < (265 : Int32) then (b_Model_extraLength_14 F w) else (if v0 = (285 : Int32) then (b_Model_extraLength_14 F w) else (some ((((v0 - (265 : Int32)) / (4 : Int32)) + (1 : Int32)), w)))
set_option maxRecDepth 100000 in
set_option maxHeartbeats 4000000 in
theorem b_Model_extraLength_0_ok (G : zG) (F : Nat) (v0 : Int32) (w : zW) (r : (Int32 × zW)) (h : b_Model_extraLength_0 F v0 w = some r) : zV G m_Model_extraLength 0 [(0, .int v0)] [] w 0 0 (oI r.1) r.2 := by
  unfold b_Model_extraLength_0 at h
  refine V_iload_n (i := 0) d_Model_extraLength_0 rfl 0 rfl ?_
  refine V_sipush (v := 265) d_Model_extraLength_1 (by decide) ?_
  refine V_icmp_lt (tgt := 14) d_Model_extraLength_4 (by decide) (fun c4 => ?_) (fun c4 => ?_)
  · rw [if_pos c4] at h
    refine V_lv [] rfl ?_
    exact b_Model_extraLength_14_ok G F w _ h
  · rw [if_neg c4] at h
    refine V_iload_n (i := 0) d_Model_extraLength_7 rfl 0 rfl ?_
    refine V_sipush (v := 285) d_Model_extraLength_8 (by decide) ?_
    refine V_icmp_ne (tgt := 18) d_Model_extraLength_11 (by decide) (fun c11 => ?_) (fun c11 => ?_)
    · rw [if_neg c11] at h
      refine V_iload_n (i := 0) d_Model_extraLength_18 rfl 0 rfl ?_
      refine V_sipush (v := 265) d_Model_extraLength_19 (by decide) ?_
      refine V_isub d_Model_extraLength_22 ?_
      refine V_iconst (v := 4) d_Model_extraLength_23 (by decide) ?_
      refine V_idiv (by decide) d_Model_extraLength_24 ?_
      refine V_iconst (v := 1) d_Model_extraLength_25 (by decide) ?_
      refine V_iadd d_Model_extraLength_26 ?_
      obtain rfl := Option.some.inj h
      exact V_iret rfl (by decide) (by decide) d_Model_extraLength_27
    · rw [if_pos c11] at h
      refine V_lv [] rfl ?_
      exact b_Model_extraLength_14_ok G F w _ h
def f_Model_extraLength (F : Nat) (v0 : Int32) (w : zW) : Option (Int32 × zW) := b_Model_extraLength_0 F v0 w
theorem c_Model_extraLength (G : zG) (F : Nat) (v0 : Int32) (w : zW) (r : (Int32 × zW)) (h : f_Model_extraLength F v0 w = some r) : zCT G m_Model_extraLength [.int v0] w (oI r.1) r.2 := zCT.ofV (by decide +kernel) (Or.inl ⟨kc_Model_extraLength, rfl⟩) (Nat.le_of_ble_eq_true rfl) (b_Model_extraLength_0_ok G F v0 w r h)

/-! ZipArrayModel.leastLength(I)I -/
def m_Model_leastLength : zM := (⟨R_Model, "leastLength", "(I)I"⟩, prog_11_method_21_code, 1, (some .int), [], { frames := 1, cells := 0, slots := 0, locals := 20 })
theorem k1064 : Cond.methodLink R_Model 113 (mY m_Model_extraLength) ∈ zTb := tb_at 1064 (by decide +kernel) rfl
theorem k1065 : Cond.static (mY m_Model_extraLength) ∈ zTb := tb_at 1065 (by decide +kernel) rfl
theorem kc_Model_leastLength : Cond.code (mY m_Model_leastLength) (mC m_Model_leastLength) (mL m_Model_leastLength) (mT m_Model_leastLength) ∈ zTb := tb_at 1063 (by decide +kernel) rfl
theorem y_Model_leastLength : (mY m_Model_leastLength).cls ≠ "java/lang/invoke/MethodHandle" ∧ (mY m_Model_leastLength).cls ≠ "java/lang/invoke/VarHandle" ∧ (parseMethodDescriptor (mY m_Model_leastLength).desc).map (fun d => d.parameters.length) = some 1 := by decide +kernel
theorem d_Model_leastLength_0 : decode (mC m_Model_leastLength) 0 = .ok (.iload_n 0, 1) := by decide +kernel
theorem d_Model_leastLength_1 : decode (mC m_Model_leastLength) 1 = .ok (.sipush 265, 3) := by decide +kernel
theorem d_Model_leastLength_4 : decode (mC m_Model_leastLength) 4 = .ok (.if_icmp .ge 11, 3) := by decide +kernel
theorem d_Model_leastLength_7 : decode (mC m_Model_leastLength) 7 = .ok (.iload_n 0, 1) := by decide +kernel
theorem d_Model_leastLength_8 : decode (mC m_Model_leastLength) 8 = .ok (.sipush 254, 3) := by decide +kernel
theorem d_Model_leastLength_11 : decode (mC m_Model_leastLength) 11 = .ok (.isub, 1) := by decide +kernel
theorem d_Model_leastLength_12 : decode (mC m_Model_leastLength) 12 = .ok (.goto 34, 3) := by decide +kernel
theorem d_Model_leastLength_15 : decode (mC m_Model_leastLength) 15 = .ok (.iload_n 0, 1) := by decide +kernel
theorem d_Model_leastLength_16 : decode (mC m_Model_leastLength) 16 = .ok (.sipush 285, 3) := by decide +kernel
theorem d_Model_leastLength_19 : decode (mC m_Model_leastLength) 19 = .ok (.if_icmp .ne 9, 3) := by decide +kernel
theorem d_Model_leastLength_22 : decode (mC m_Model_leastLength) 22 = .ok (.sipush 258, 3) := by decide +kernel
theorem d_Model_leastLength_25 : decode (mC m_Model_leastLength) 25 = .ok (.goto 21, 3) := by decide +kernel
theorem d_Model_leastLength_28 : decode (mC m_Model_leastLength) 28 = .ok (.iconst 4, 1) := by decide +kernel
theorem d_Model_leastLength_29 : decode (mC m_Model_leastLength) 29 = .ok (.iload_n 0, 1) := by decide +kernel
theorem d_Model_leastLength_30 : decode (mC m_Model_leastLength) 30 = .ok (.sipush 265, 3) := by decide +kernel
theorem d_Model_leastLength_33 : decode (mC m_Model_leastLength) 33 = .ok (.isub, 1) := by decide +kernel
theorem d_Model_leastLength_34 : decode (mC m_Model_leastLength) 34 = .ok (.iconst 4, 1) := by decide +kernel
theorem d_Model_leastLength_35 : decode (mC m_Model_leastLength) 35 = .ok (.irem, 1) := by decide +kernel
theorem d_Model_leastLength_36 : decode (mC m_Model_leastLength) 36 = .ok (.iadd, 1) := by decide +kernel
theorem d_Model_leastLength_37 : decode (mC m_Model_leastLength) 37 = .ok (.iconst 1, 1) := by decide +kernel
theorem d_Model_leastLength_38 : decode (mC m_Model_leastLength) 38 = .ok (.iload_n 0, 1) := by decide +kernel
theorem d_Model_leastLength_39 : decode (mC m_Model_leastLength) 39 = .ok (.invokestatic 113, 3) := by decide +kernel
theorem d_Model_leastLength_42 : decode (mC m_Model_leastLength) 42 = .ok (.ishl, 1) := by decide +kernel
theorem d_Model_leastLength_43 : decode (mC m_Model_leastLength) 43 = .ok (.imul, 1) := by decide +kernel
theorem d_Model_leastLength_44 : decode (mC m_Model_leastLength) 44 = .ok (.iconst 3, 1) := by decide +kernel
theorem d_Model_leastLength_45 : decode (mC m_Model_leastLength) 45 = .ok (.iadd, 1) := by decide +kernel
theorem d_Model_leastLength_46 : decode (mC m_Model_leastLength) 46 = .ok (.ireturn, 1) := by decide +kernel
def b_Model_leastLength_0 (F : Nat) (v0 : Int32) (w : zW) : Option (Int32 × zW) := if (265 : Int32) ≤ v0 then (if v0 = (285 : Int32) then (some ((258 : Int32), w)) else ((f_Model_extraLength F v0 w).bind fun r39 => some (((((4 : Int32) + ((v0 - (265 : Int32)) % (4 : Int32))) * ((1 : Int32) <<< (r39.1 &&& 31))) + (3 : Int32)), r39.2))) else (some ((v0 - (254 : Int32)), w))
set_option maxRecDepth 100000 in
set_option maxHeartbeats 4000000 in
theorem b_Model_leastLength_0_ok (G : zG) (F : Nat) (v0 : Int32) (w : zW) (r : (Int32 × zW)) (h : b_Model_leastLength_0 F v0 w = some r) : zV G m_Model_leastLength 0 [(0, .int v0)] [] w 0 0 (oI r.1) r.2 := by
  unfold b_Model_leastLength_0 at h
  refine V_iload_n (i := 0) d_Model_leastLength_0 rfl 0 rfl ?_
  refine V_sipush (v := 265) d_Model_leastLength_1 (by decide) ?_
  refine V_icmp_ge (tgt := 15) d_Model_leastLength_4 (by decide) (fun c4 => ?_) (fun c4 => ?_)
  · rw [if_pos c4] at h
    refine V_iload_n (i := 0) d_Model_leastLength_15 rfl 0 rfl ?_
    refine V_sipush (v := 285) d_Model_leastLength_16 (by decide) ?_
    refine V_icmp_ne (tgt := 28) d_Model_leastLength_19 (by decide) (fun c19 => ?_) (fun c19 => ?_)
    · rw [if_neg c19] at h
      refine V_iconst (v := 4) d_Model_leastLength_28 (by decide) ?_
      refine V_iload_n (i := 0) d_Model_leastLength_29 rfl 0 rfl ?_
      refine V_sipush (v := 265) d_Model_leastLength_30 (by decide) ?_
      refine V_isub d_Model_leastLength_33 ?_
      refine V_iconst (v := 4) d_Model_leastLength_34 (by decide) ?_
      refine V_irem (by decide) d_Model_leastLength_35 ?_
      refine V_iadd d_Model_leastLength_36 ?_
      refine V_iconst (v := 1) d_Model_leastLength_37 (by decide) ?_
      refine V_iload_n (i := 0) d_Model_leastLength_38 rfl 0 rfl ?_
      obtain ⟨r39, e39, h⟩ := ob h
      refine V_call (v := some (.int r39.1)) (st := [.int (1 : Int32), .int ((4 : Int32) + ((v0 - (265 : Int32)) % (4 : Int32)))]) (inv_S (N := m_Model_extraLength) (As := [.int v0]) d_Model_leastLength_39 k1064 k1065 k10 (Or.inl kc_Model_extraLength) y_Model_extraLength) ⟨Or.inl kc_Model_extraLength, k10, by decide, by decide⟩ (Nat.le_of_ble_eq_true rfl) (by decide) (by decide) (c_Model_extraLength G F v0 w r39 e39) ?_
      refine V_ishl d_Model_leastLength_42 ?_
      refine V_imul d_Model_leastLength_43 ?_
      refine V_iconst (v := 3) d_Model_leastLength_44 (by decide) ?_
      refine V_iadd d_Model_leastLength_45 ?_
      obtain rfl := Option.some.inj h
      exact V_iret rfl (by decide) (by decide) d_Model_leastLength_46
    · rw [if_pos c19] at h
      refine V_sipush (v := 258) d_Model_leastLength_22 (by decide) ?_
      refine V_goto (tgt := 46) d_Model_leastLength_25 (by decide) ?_
      obtain rfl := Option.some.inj h
      exact V_iret rfl (by decide) (by decide) d_Model_leastLength_46
  · rw [if_neg c4] at h
    refine V_iload_n (i := 0) d_Model_leastLength_7 rfl 0 rfl ?_
    refine V_sipush (v := 254) d_Model_leastLength_8 (by decide) ?_
    refine V_isub d_Model_leastLength_11 ?_
    refine V_goto (tgt := 46) d_Model_leastLength_12 (by decide) ?_
    obtain rfl := Option.some.inj h
    exact V_iret rfl (by decide) (by decide) d_Model_leastLength_46
def f_Model_leastLength (F : Nat) (v0 : Int32) (w : zW) : Option (Int32 × zW) := b_Model_leastLength_0 F v0 w
theorem c_Model_leastLength (G : zG) (F : Nat) (v0 : Int32) (w : zW) (r : (Int32 × zW)) (h : f_Model_leastLength F v0 w = some r) : zCT G m_Model_leastLength [.int v0] w (oI r.1) r.2 := zCT.ofV (by decide +kernel) (Or.inl ⟨kc_Model_leastLength, rfl⟩) (Nat.le_of_ble_eq_true rfl) (b_Model_leastLength_0_ok G F v0 w r h)

/-! ZipArrayModel.putLength(I)V -/
def m_Model_putLength : zM := (⟨R_Model, "putLength", "(I)V"⟩, prog_11_method_18_code, 3, none, [], { frames := 2, cells := 0, slots := 0, locals := 44 })
theorem k1041 : Cond.methodLink R_Model 116 (mY m_Model_putLow) ∈ zTb := tb_at 1041 (by decide +kernel) rfl
theorem k1043 : Cond.instanceMethod (mY m_Model_putLow) ∈ zTb := tb_at 1043 (by decide +kernel) rfl
theorem k1053 : Cond.methodLink R_Model 106 (mY m_Model_putWord) ∈ zTb := tb_at 1053 (by decide +kernel) rfl
theorem k1055 : Cond.instanceMethod (mY m_Model_putWord) ∈ zTb := tb_at 1055 (by decide +kernel) rfl
theorem k1061 : Cond.methodLink R_Model 109 (mY m_Model_leastLength) ∈ zTb := tb_at 1061 (by decide +kernel) rfl
theorem k1062 : Cond.static (mY m_Model_leastLength) ∈ zTb := tb_at 1062 (by decide +kernel) rfl
theorem kc_Model_putLength : Cond.code (mY m_Model_putLength) (mC m_Model_putLength) (mL m_Model_putLength) (mT m_Model_putLength) ∈ zTb := tb_at 1060 (by decide +kernel) rfl
theorem y_Model_putLength : (mY m_Model_putLength).cls ≠ "java/lang/invoke/MethodHandle" ∧ (mY m_Model_putLength).cls ≠ "java/lang/invoke/VarHandle" ∧ (parseMethodDescriptor (mY m_Model_putLength).desc).map (fun d => d.parameters.length) = some 1 := by decide +kernel
theorem sel_Model_putLength : Cond.selects R_Model (mY m_Model_putLength) (mY m_Model_putLength) ∈ zTb := sel_at (y := mY m_Model_putLength) (n := 33) 46 (by decide +kernel)
theorem d_Model_putLength_0 : decode (mC m_Model_putLength) 0 = .ok (.iload_n 1, 1) := by decide +kernel
theorem d_Model_putLength_1 : decode (mC m_Model_putLength) 1 = .ok (.sipush 258, 3) := by decide +kernel
theorem d_Model_putLength_4 : decode (mC m_Model_putLength) 4 = .ok (.if_icmp .ne 11, 3) := by decide +kernel
theorem d_Model_putLength_7 : decode (mC m_Model_putLength) 7 = .ok (.aload_n 0, 1) := by decide +kernel
theorem d_Model_putLength_8 : decode (mC m_Model_putLength) 8 = .ok (.sipush 285, 3) := by decide +kernel
theorem d_Model_putLength_11 : decode (mC m_Model_putLength) 11 = .ok (.invokevirtual 106, 3) := by decide +kernel
theorem d_Model_putLength_14 : decode (mC m_Model_putLength) 14 = .ok (.return_, 1) := by decide +kernel
theorem d_Model_putLength_15 : decode (mC m_Model_putLength) 15 = .ok (.sipush 257, 3) := by decide +kernel
theorem d_Model_putLength_18 : decode (mC m_Model_putLength) 18 = .ok (.istore_n 2, 1) := by decide +kernel
theorem d_Model_putLength_19 : decode (mC m_Model_putLength) 19 = .ok (.iload_n 2, 1) := by decide +kernel
theorem d_Model_putLength_20 : decode (mC m_Model_putLength) 20 = .ok (.sipush 284, 3) := by decide +kernel
theorem d_Model_putLength_23 : decode (mC m_Model_putLength) 23 = .ok (.if_icmp .ge 19, 3) := by decide +kernel
theorem d_Model_putLength_26 : decode (mC m_Model_putLength) 26 = .ok (.iload_n 2, 1) := by decide +kernel
theorem d_Model_putLength_27 : decode (mC m_Model_putLength) 27 = .ok (.iconst 1, 1) := by decide +kernel
theorem d_Model_putLength_28 : decode (mC m_Model_putLength) 28 = .ok (.iadd, 1) := by decide +kernel
theorem d_Model_putLength_29 : decode (mC m_Model_putLength) 29 = .ok (.invokestatic 109, 3) := by decide +kernel
theorem d_Model_putLength_32 : decode (mC m_Model_putLength) 32 = .ok (.iload_n 1, 1) := by decide +kernel
theorem d_Model_putLength_33 : decode (mC m_Model_putLength) 33 = .ok (.if_icmp .gt 9, 3) := by decide +kernel
theorem d_Model_putLength_36 : decode (mC m_Model_putLength) 36 = .ok (.iinc 2 1, 3) := by decide +kernel
theorem d_Model_putLength_39 : decode (mC m_Model_putLength) 39 = .ok (.goto (-20), 3) := by decide +kernel
theorem d_Model_putLength_42 : decode (mC m_Model_putLength) 42 = .ok (.aload_n 0, 1) := by decide +kernel
theorem d_Model_putLength_43 : decode (mC m_Model_putLength) 43 = .ok (.iload_n 2, 1) := by decide +kernel
theorem d_Model_putLength_44 : decode (mC m_Model_putLength) 44 = .ok (.invokevirtual 106, 3) := by decide +kernel
theorem d_Model_putLength_47 : decode (mC m_Model_putLength) 47 = .ok (.aload_n 0, 1) := by decide +kernel
theorem d_Model_putLength_48 : decode (mC m_Model_putLength) 48 = .ok (.iload_n 1, 1) := by decide +kernel
theorem d_Model_putLength_49 : decode (mC m_Model_putLength) 49 = .ok (.iload_n 2, 1) := by decide +kernel
theorem d_Model_putLength_50 : decode (mC m_Model_putLength) 50 = .ok (.invokestatic 109, 3) := by decide +kernel
theorem d_Model_putLength_53 : decode (mC m_Model_putLength) 53 = .ok (.isub, 1) := by decide +kernel
theorem d_Model_putLength_54 : decode (mC m_Model_putLength) 54 = .ok (.iload_n 2, 1) := by decide +kernel
theorem d_Model_putLength_55 : decode (mC m_Model_putLength) 55 = .ok (.invokestatic 113, 3) := by decide +kernel
theorem d_Model_putLength_58 : decode (mC m_Model_putLength) 58 = .ok (.invokevirtual 116, 3) := by decide +kernel
theorem d_Model_putLength_61 : decode (mC m_Model_putLength) 61 = .ok (.return_, 1) := by decide +kernel
def b_Model_putLength_42 (F : Nat) (v0 : Nat) (v1 : Int32) (v2 : Int32) (w : zW) : Option (Unit × zW) := (zobj w v0 9).bind fun _ => (f_Model_putWord F v0 v2 w).bind fun r44 => (f_Model_leastLength F v2 r44.2).bind fun r50 => (f_Model_extraLength F v2 r50.2).bind fun r55 => (zobj r55.2 v0 9).bind fun _ => (f_Model_putLow F v0 (v1 - r50.1) r55.1 r55.2).bind fun r58 => some ((), r58.2)
set_option maxRecDepth 100000 in
set_option maxHeartbeats 4000000 in
theorem b_Model_putLength_42_ok (G : zG) (F : Nat) (v0 : Nat) (v1 : Int32) (v2 : Int32) (w : zW) (r : (Unit × zW)) (h : b_Model_putLength_42 F v0 v1 v2 w = some r) : zV G m_Model_putLength 42 [(0, .ref (z0 G + v0)), (1, .int v1), (2, .int v2)] [] w 0 0 (oV r.1) r.2 := by
  unfold b_Model_putLength_42 at h
  refine V_aload_n (i := 0) d_Model_putLength_42 rfl 0 rfl ?_
  refine V_iload_n (i := 2) d_Model_putLength_43 rfl 2 rfl ?_
  obtain ⟨_, eo44, h⟩ := ob h
  obtain ⟨r44, e44, h⟩ := ob h
  refine V_call (v := none) (st := []) (inv_V (N := m_Model_putWord) (As := [.int v2]) (ci := 9) d_Model_putLength_44 eo44 rfl k1053 k1055 sel_Model_putWord kc_Model_putWord y_Model_putWord) ⟨Or.inl kc_Model_putWord, k10, by decide, by decide⟩ (Nat.le_of_ble_eq_true rfl) (by decide) (by decide) (c_Model_putWord G F v0 v2 w r44 e44) ?_
  refine V_aload_n (i := 0) d_Model_putLength_47 rfl 0 rfl ?_
  refine V_iload_n (i := 1) d_Model_putLength_48 rfl 1 rfl ?_
  refine V_iload_n (i := 2) d_Model_putLength_49 rfl 2 rfl ?_
  obtain ⟨r50, e50, h⟩ := ob h
  refine V_call (v := some (.int r50.1)) (st := [.int v1, .ref (z0 G + v0)]) (inv_S (N := m_Model_leastLength) (As := [.int v2]) d_Model_putLength_50 k1061 k1062 k10 (Or.inl kc_Model_leastLength) y_Model_leastLength) ⟨Or.inl kc_Model_leastLength, k10, by decide, by decide⟩ (Nat.le_of_ble_eq_true rfl) (by decide) (by decide) (c_Model_leastLength G F v2 r44.2 r50 e50) ?_
  refine V_isub d_Model_putLength_53 ?_
  refine V_iload_n (i := 2) d_Model_putLength_54 rfl 2 rfl ?_
  obtain ⟨r55, e55, h⟩ := ob h
  refine V_call (v := some (.int r55.1)) (st := [.int (v1 - r50.1), .ref (z0 G + v0)]) (inv_S (N := m_Model_extraLength) (As := [.int v2]) d_Model_putLength_55 k1064 k1065 k10 (Or.inl kc_Model_extraLength) y_Model_extraLength) ⟨Or.inl kc_Model_extraLength, k10, by decide, by decide⟩ (Nat.le_of_ble_eq_true rfl) (by decide) (by decide) (c_Model_extraLength G F v2 r50.2 r55 e55) ?_
  obtain ⟨_, eo58, h⟩ := ob h
  obtain ⟨r58, e58, h⟩ := ob h
  refine V_call (v := none) (st := []) (inv_V (N := m_Model_putLow) (As := [.int (v1 - r50.1), .int r55.1]) (ci := 9) d_Model_putLength_58 eo58 rfl k1041 k1043 sel_Model_putLow kc_Model_putLow y_Model_putLow) ⟨Or.inl kc_Model_putLow, k10, by decide, by decide⟩ (Nat.le_of_ble_eq_true rfl) (by decide) (by decide) (c_Model_putLow G F v0 (v1 - r50.1) r55.1 r55.2 r58 e58) ?_
  obtain rfl := Option.some.inj h
  exact V_vret rfl (by decide) (by decide) d_Model_putLength_61
def b_Model_putLength_19 (F : Nat) (K19 : Nat → Int32 → Int32 → zW → Option (Unit × zW)) (v0 : Nat) (v1 : Int32) (v2 : Int32) (w : zW) : Option (Unit × zW) := if (284 : Int32) ≤ v2 then (b_Model_putLength_42 F v0 v1 v2 w) else ((f_Model_leastLength F (v2 + (1 : Int32)) w).bind fun r29 => if v1 < r29.1 then (b_Model_putLength_42 F v0 v1 v2 r29.2) else (K19 v0 v1 (v2 + (1 : Int32)) r29.2))
set_option maxRecDepth 100000 in
set_option maxHeartbeats 4000000 in
theorem b_Model_putLength_19_ok (G : zG) (F : Nat) (K19 : Nat → Int32 → Int32 → zW → Option (Unit × zW)) (hK19 : ∀ (v0 : Nat) (v1 : Int32) (v2 : Int32) (w : zW) (r : (Unit × zW)), K19 v0 v1 v2 w = some r → zV G m_Model_putLength 19 [(0, .ref (z0 G + v0)), (1, .int v1), (2, .int v2)] [] w 0 0 (oV r.1) r.2) (v0 : Nat) (v1 : Int32) (v2 : Int32) (w : zW) (r : (Unit × zW)) (h : b_Model_putLength_19 F K19 v0 v1 v2 w = some r) : zV G m_Model_putLength 19 [(0, .ref (z0 G + v0)), (1, .int v1), (2, .int v2)] [] w 0 0 (oV r.1) r.2 := by
  unfold b_Model_putLength_19 at h
  refine V_iload_n (i := 2) d_Model_putLength_19 rfl 2 rfl ?_
  refine V_sipush (v := 284) d_Model_putLength_20 (by decide) ?_
  refine V_icmp_ge (tgt := 42) d_Model_putLength_23 (by decide) (fun c23 => ?_) (fun c23 => ?_)
  · rw [if_pos c23] at h
    exact b_Model_putLength_42_ok G F v0 v1 v2 w _ h
  · rw [if_neg c23] at h
    refine V_iload_n (i := 2) d_Model_putLength_26 rfl 2 rfl ?_
    refine V_iconst (v := 1) d_Model_putLength_27 (by decide) ?_
    refine V_iadd d_Model_putLength_28 ?_
    obtain ⟨r29, e29, h⟩ := ob h
    refine V_call (v := some (.int r29.1)) (st := []) (inv_S (N := m_Model_leastLength) (As := [.int (v2 + (1 : Int32))]) d_Model_putLength_29 k1061 k1062 k10 (Or.inl kc_Model_leastLength) y_Model_leastLength) ⟨Or.inl kc_Model_leastLength, k10, by decide, by decide⟩ (Nat.le_of_ble_eq_true rfl) (by decide) (by decide) (c_Model_leastLength G F (v2 + (1 : Int32)) w r29 e29) ?_
    refine V_iload_n (i := 1) d_Model_putLength_32 rfl 1 rfl ?_
    refine V_icmp_gt (tgt := 42) d_Model_putLength_33 (by decide) (fun c33 => ?_) (fun c33 => ?_)
    · rw [if_pos c33] at h
      exact b_Model_putLength_42_ok G F v0 v1 v2 r29.2 _ h
    · rw [if_neg c33] at h
      refine V_iinc (i := 2) (v := (v2 + (1 : Int32))) d_Model_putLength_36 2 rfl (congrArg (fun y => v2 + y) (by decide : Int32.ofInt (1) = (1 : Int32))) (by decide) rfl ?_
      refine V_goto (tgt := 19) d_Model_putLength_39 (by decide) ?_
      refine V_lv [1, 2, 0] rfl ?_
      exact hK19 v0 v1 (v2 + (1 : Int32)) r29.2 _ h
def l_Model_putLength_19 (F : Nat) : Nat → Nat → Int32 → Int32 → zW → Option (Unit × zW)
  | 0 => fun _ _ _ _ => none
  | n + 1 => b_Model_putLength_19 F (l_Model_putLength_19 F n)
theorem l_Model_putLength_19_ok (G : zG) (F : Nat) (n : Nat) :  ∀ (v0 : Nat) (v1 : Int32) (v2 : Int32) (w : zW) (r : (Unit × zW)), l_Model_putLength_19 F n v0 v1 v2 w = some r → zV G m_Model_putLength 19 [(0, .ref (z0 G + v0)), (1, .int v1), (2, .int v2)] [] w 0 0 (oV r.1) r.2 := by
  induction n with
  | zero => intro v0 v1 v2 w r h; exact nomatch (show (none : Option (Unit × zW)) = some r from h)
  | succ n ih => intro v0 v1 v2 w r h; exact b_Model_putLength_19_ok G F (l_Model_putLength_19 F n) ih v0 v1 v2 w r h
def b_Model_putLength_0 (F : Nat) (v0 : Nat) (v1 : Int32) (w : zW) : Option (Unit × zW) := if v1 = (258 : Int32) then ((zobj w v0 9).bind fun _ => (f_Model_putWord F v0 (285 : Int32) w).bind fun r11 => some ((), r11.2)) else (l_Model_putLength_19 F F v0 v1 (257 : Int32) w)
set_option maxRecDepth 100000 in
set_option maxHeartbeats 4000000 in
theorem b_Model_putLength_0_ok (G : zG) (F : Nat) (v0 : Nat) (v1 : Int32) (w : zW) (r : (Unit × zW)) (h : b_Model_putLength_0 F v0 v1 w = some r) : zV G m_Model_putLength 0 [(0, .ref (z0 G + v0)), (1, .int v1)] [] w 0 0 (oV r.1) r.2 := by
  unfold b_Model_putLength_0 at h
  refine V_iload_n (i := 1) d_Model_putLength_0 rfl 1 rfl ?_
  refine V_sipush (v := 258) d_Model_putLength_1 (by decide) ?_
  refine V_icmp_ne (tgt := 15) d_Model_putLength_4 (by decide) (fun c4 => ?_) (fun c4 => ?_)
  · rw [if_neg c4] at h
    refine V_sipush (v := 257) d_Model_putLength_15 (by decide) ?_
    refine V_istore_n (i := 2) d_Model_putLength_18 rfl (by decide) rfl ?_
    refine V_lv [1, 2, 0] rfl ?_
    exact l_Model_putLength_19_ok G F F v0 v1 (257 : Int32) w _ h
  · rw [if_pos c4] at h
    refine V_aload_n (i := 0) d_Model_putLength_7 rfl 0 rfl ?_
    refine V_sipush (v := 285) d_Model_putLength_8 (by decide) ?_
    obtain ⟨_, eo11, h⟩ := ob h
    obtain ⟨r11, e11, h⟩ := ob h
    refine V_call (v := none) (st := []) (inv_V (N := m_Model_putWord) (As := [.int (285 : Int32)]) (ci := 9) d_Model_putLength_11 eo11 rfl k1053 k1055 sel_Model_putWord kc_Model_putWord y_Model_putWord) ⟨Or.inl kc_Model_putWord, k10, by decide, by decide⟩ (Nat.le_of_ble_eq_true rfl) (by decide) (by decide) (c_Model_putWord G F v0 (285 : Int32) w r11 e11) ?_
    obtain rfl := Option.some.inj h
    exact V_vret rfl (by decide) (by decide) d_Model_putLength_14
def f_Model_putLength (F : Nat) (v0 : Nat) (v1 : Int32) (w : zW) : Option (Unit × zW) := b_Model_putLength_0 F v0 v1 w
theorem c_Model_putLength (G : zG) (F : Nat) (v0 : Nat) (v1 : Int32) (w : zW) (r : (Unit × zW)) (h : f_Model_putLength F v0 v1 w = some r) : zCT G m_Model_putLength [.ref (z0 G + v0), .int v1] w (oV r.1) r.2 := zCT.ofV (by decide +kernel) (Or.inl ⟨kc_Model_putLength, rfl⟩) (Nat.le_of_ble_eq_true rfl) (b_Model_putLength_0_ok G F v0 v1 w r h)

/-! ZipArrayModel.extraDistance(I)I -/
def m_Model_extraDistance : zM := (⟨R_Model, "extraDistance", "(I)I"⟩, prog_11_method_22_code, 1, (some .int), [], { frames := 0, cells := 0, slots := 0, locals := 0 })
theorem kc_Model_extraDistance : Cond.code (mY m_Model_extraDistance) (mC m_Model_extraDistance) (mL m_Model_extraDistance) (mT m_Model_extraDistance) ∈ zTb := tb_at 1076 (by decide +kernel) rfl
theorem y_Model_extraDistance : (mY m_Model_extraDistance).cls ≠ "java/lang/invoke/MethodHandle" ∧ (mY m_Model_extraDistance).cls ≠ "java/lang/invoke/VarHandle" ∧ (parseMethodDescriptor (mY m_Model_extraDistance).desc).map (fun d => d.parameters.length) = some 1 := by decide +kernel
theorem d_Model_extraDistance_0 : decode (mC m_Model_extraDistance) 0 = .ok (.iload_n 0, 1) := by decide +kernel
theorem d_Model_extraDistance_1 : decode (mC m_Model_extraDistance) 1 = .ok (.iconst 4, 1) := by decide +kernel
theorem d_Model_extraDistance_2 : decode (mC m_Model_extraDistance) 2 = .ok (.if_icmp .ge 7, 3) := by decide +kernel
theorem d_Model_extraDistance_5 : decode (mC m_Model_extraDistance) 5 = .ok (.iconst 0, 1) := by decide +kernel
theorem d_Model_extraDistance_6 : decode (mC m_Model_extraDistance) 6 = .ok (.goto 8, 3) := by decide +kernel
theorem d_Model_extraDistance_9 : decode (mC m_Model_extraDistance) 9 = .ok (.iload_n 0, 1) := by decide +kernel
theorem d_Model_extraDistance_10 : decode (mC m_Model_extraDistance) 10 = .ok (.iconst 2, 1) := by decide +kernel
theorem d_Model_extraDistance_11 : decode (mC m_Model_extraDistance) 11 = .ok (.isub, 1) := by decide +kernel
theorem d_Model_extraDistance_12 : decode (mC m_Model_extraDistance) 12 = .ok (.iconst 2, 1) := by decide +kernel
theorem d_Model_extraDistance_13 : decode (mC m_Model_extraDistance) 13 = .ok (.idiv, 1) := by decide +kernel
theorem d_Model_extraDistance_14 : decode (mC m_Model_extraDistance) 14 = .ok (.ireturn, 1) := by decide +kernel
def b_Model_extraDistance_0 (F : Nat) (v0 : Int32) (w : zW) : Option (Int32 × zW) := if (4 : Int32) ≤ v0 then (some (((v0 - (2 : Int32)) / (2 : Int32)), w)) else (some ((0 : Int32), w))
set_option maxRecDepth 100000 in
set_option maxHeartbeats 4000000 in
theorem b_Model_extraDistance_0_ok (G : zG) (F : Nat) (v0 : Int32) (w : zW) (r : (Int32 × zW)) (h : b_Model_extraDistance_0 F v0 w = some r) : zV G m_Model_extraDistance 0 [(0, .int v0)] [] w 0 0 (oI r.1) r.2 := by
  unfold b_Model_extraDistance_0 at h
  refine V_iload_n (i := 0) d_Model_extraDistance_0 rfl 0 rfl ?_
  refine V_iconst (v := 4) d_Model_extraDistance_1 (by decide) ?_
  refine V_icmp_ge (tgt := 9) d_Model_extraDistance_2 (by decide) (fun c2 => ?_) (fun c2 => ?_)
  · rw [if_pos c2] at h
    refine V_iload_n (i := 0) d_Model_extraDistance_9 rfl 0 rfl ?_
    refine V_iconst (v := 2) d_Model_extraDistance_10 (by decide) ?_
    refine V_isub d_Model_extraDistance_11 ?_
    refine V_iconst (v := 2) d_Model_extraDistance_12 (by decide) ?_
    refine V_idiv (by decide) d_Model_extraDistance_13 ?_
    obtain rfl := Option.some.inj h
    exact V_iret rfl (by decide) (by decide) d_Model_extraDistance_14
  · rw [if_neg c2] at h
    refine V_iconst (v := 0) d_Model_extraDistance_5 (by decide) ?_
    refine V_goto (tgt := 14) d_Model_extraDistance_6 (by decide) ?_
    obtain rfl := Option.some.inj h
    exact V_iret rfl (by decide) (by decide) d_Model_extraDistance_14
def f_Model_extraDistance (F : Nat) (v0 : Int32) (w : zW) : Option (Int32 × zW) := b_Model_extraDistance_0 F v0 w
theorem c_Model_extraDistance (G : zG) (F : Nat) (v0 : Int32) (w : zW) (r : (Int32 × zW)) (h : f_Model_extraDistance F v0 w = some r) : zCT G m_Model_extraDistance [.int v0] w (oI r.1) r.2 := zCT.ofV (by decide +kernel) (Or.inl ⟨kc_Model_extraDistance, rfl⟩) (Nat.le_of_ble_eq_true rfl) (b_Model_extraDistance_0_ok G F v0 w r h)

/-! ZipArrayModel.leastDistance(I)I -/
def m_Model_leastDistance : zM := (⟨R_Model, "leastDistance", "(I)I"⟩, prog_11_method_23_code, 1, (some .int), [], { frames := 1, cells := 0, slots := 0, locals := 20 })
theorem k1074 : Cond.methodLink R_Model 123 (mY m_Model_extraDistance) ∈ zTb := tb_at 1074 (by decide +kernel) rfl
theorem k1075 : Cond.static (mY m_Model_extraDistance) ∈ zTb := tb_at 1075 (by decide +kernel) rfl
theorem kc_Model_leastDistance : Cond.code (mY m_Model_leastDistance) (mC m_Model_leastDistance) (mL m_Model_leastDistance) (mT m_Model_leastDistance) ∈ zTb := tb_at 1073 (by decide +kernel) rfl
theorem y_Model_leastDistance : (mY m_Model_leastDistance).cls ≠ "java/lang/invoke/MethodHandle" ∧ (mY m_Model_leastDistance).cls ≠ "java/lang/invoke/VarHandle" ∧ (parseMethodDescriptor (mY m_Model_leastDistance).desc).map (fun d => d.parameters.length) = some 1 := by decide +kernel
theorem d_Model_leastDistance_0 : decode (mC m_Model_leastDistance) 0 = .ok (.iload_n 0, 1) := by decide +kernel
theorem d_Model_leastDistance_1 : decode (mC m_Model_leastDistance) 1 = .ok (.iconst 4, 1) := by decide +kernel
theorem d_Model_leastDistance_2 : decode (mC m_Model_leastDistance) 2 = .ok (.if_icmp .ge 9, 3) := by decide +kernel
theorem d_Model_leastDistance_5 : decode (mC m_Model_leastDistance) 5 = .ok (.iload_n 0, 1) := by decide +kernel
theorem d_Model_leastDistance_6 : decode (mC m_Model_leastDistance) 6 = .ok (.iconst 1, 1) := by decide +kernel
theorem d_Model_leastDistance_7 : decode (mC m_Model_leastDistance) 7 = .ok (.iadd, 1) := by decide +kernel
theorem d_Model_leastDistance_8 : decode (mC m_Model_leastDistance) 8 = .ok (.goto 17, 3) := by decide +kernel
theorem d_Model_leastDistance_11 : decode (mC m_Model_leastDistance) 11 = .ok (.iconst 2, 1) := by decide +kernel
theorem d_Model_leastDistance_12 : decode (mC m_Model_leastDistance) 12 = .ok (.iload_n 0, 1) := by decide +kernel
theorem d_Model_leastDistance_13 : decode (mC m_Model_leastDistance) 13 = .ok (.iconst 2, 1) := by decide +kernel
theorem d_Model_leastDistance_14 : decode (mC m_Model_leastDistance) 14 = .ok (.irem, 1) := by decide +kernel
theorem d_Model_leastDistance_15 : decode (mC m_Model_leastDistance) 15 = .ok (.iadd, 1) := by decide +kernel
theorem d_Model_leastDistance_16 : decode (mC m_Model_leastDistance) 16 = .ok (.iconst 1, 1) := by decide +kernel
theorem d_Model_leastDistance_17 : decode (mC m_Model_leastDistance) 17 = .ok (.iload_n 0, 1) := by decide +kernel
theorem d_Model_leastDistance_18 : decode (mC m_Model_leastDistance) 18 = .ok (.invokestatic 123, 3) := by decide +kernel
theorem d_Model_leastDistance_21 : decode (mC m_Model_leastDistance) 21 = .ok (.ishl, 1) := by decide +kernel
theorem d_Model_leastDistance_22 : decode (mC m_Model_leastDistance) 22 = .ok (.imul, 1) := by decide +kernel
theorem d_Model_leastDistance_23 : decode (mC m_Model_leastDistance) 23 = .ok (.iconst 1, 1) := by decide +kernel
theorem d_Model_leastDistance_24 : decode (mC m_Model_leastDistance) 24 = .ok (.iadd, 1) := by decide +kernel
theorem d_Model_leastDistance_25 : decode (mC m_Model_leastDistance) 25 = .ok (.ireturn, 1) := by decide +kernel
def b_Model_leastDistance_0 (F : Nat) (v0 : Int32) (w : zW) : Option (Int32 × zW) := if (4 : Int32) ≤ v0 then ((f_Model_extraDistance F v0 w).bind fun r18 => some (((((2 : Int32) + (v0 % (2 : Int32))) * ((1 : Int32) <<< (r18.1 &&& 31))) + (1 : Int32)), r18.2)) else (some ((v0 + (1 : Int32)), w))
set_option maxRecDepth 100000 in
set_option maxHeartbeats 4000000 in
theorem b_Model_leastDistance_0_ok (G : zG) (F : Nat) (v0 : Int32) (w : zW) (r : (Int32 × zW)) (h : b_Model_leastDistance_0 F v0 w = some r) : zV G m_Model_leastDistance 0 [(0, .int v0)] [] w 0 0 (oI r.1) r.2 := by
  unfold b_Model_leastDistance_0 at h
  refine V_iload_n (i := 0) d_Model_leastDistance_0 rfl 0 rfl ?_
  refine V_iconst (v := 4) d_Model_leastDistance_1 (by decide) ?_
  refine V_icmp_ge (tgt := 11) d_Model_leastDistance_2 (by decide) (fun c2 => ?_) (fun c2 => ?_)
  · rw [if_pos c2] at h
    refine V_iconst (v := 2) d_Model_leastDistance_11 (by decide) ?_
    refine V_iload_n (i := 0) d_Model_leastDistance_12 rfl 0 rfl ?_
    refine V_iconst (v := 2) d_Model_leastDistance_13 (by decide) ?_
    refine V_irem (by decide) d_Model_leastDistance_14 ?_
    refine V_iadd d_Model_leastDistance_15 ?_
    refine V_iconst (v := 1) d_Model_leastDistance_16 (by decide) ?_
    refine V_iload_n (i := 0) d_Model_leastDistance_17 rfl 0 rfl ?_
    obtain ⟨r18, e18, h⟩ := ob h
    refine V_call (v := some (.int r18.1)) (st := [.int (1 : Int32), .int ((2 : Int32) + (v0 % (2 : Int32)))]) (inv_S (N := m_Model_extraDistance) (As := [.int v0]) d_Model_leastDistance_18 k1074 k1075 k10 (Or.inl kc_Model_extraDistance) y_Model_extraDistance) ⟨Or.inl kc_Model_extraDistance, k10, by decide, by decide⟩ (Nat.le_of_ble_eq_true rfl) (by decide) (by decide) (c_Model_extraDistance G F v0 w r18 e18) ?_
    refine V_ishl d_Model_leastDistance_21 ?_
    refine V_imul d_Model_leastDistance_22 ?_
    refine V_iconst (v := 1) d_Model_leastDistance_23 (by decide) ?_
    refine V_iadd d_Model_leastDistance_24 ?_
    obtain rfl := Option.some.inj h
    exact V_iret rfl (by decide) (by decide) d_Model_leastDistance_25
  · rw [if_neg c2] at h
    refine V_iload_n (i := 0) d_Model_leastDistance_5 rfl 0 rfl ?_
    refine V_iconst (v := 1) d_Model_leastDistance_6 (by decide) ?_
    refine V_iadd d_Model_leastDistance_7 ?_
    refine V_goto (tgt := 25) d_Model_leastDistance_8 (by decide) ?_
    obtain rfl := Option.some.inj h
    exact V_iret rfl (by decide) (by decide) d_Model_leastDistance_25
def f_Model_leastDistance (F : Nat) (v0 : Int32) (w : zW) : Option (Int32 × zW) := b_Model_leastDistance_0 F v0 w
theorem c_Model_leastDistance (G : zG) (F : Nat) (v0 : Int32) (w : zW) (r : (Int32 × zW)) (h : f_Model_leastDistance F v0 w = some r) : zCT G m_Model_leastDistance [.int v0] w (oI r.1) r.2 := zCT.ofV (by decide +kernel) (Or.inl ⟨kc_Model_leastDistance, rfl⟩) (Nat.le_of_ble_eq_true rfl) (b_Model_leastDistance_0_ok G F v0 w r h)

/-! ZipArrayModel.putDistance(I)V -/
def m_Model_putDistance : zM := (⟨R_Model, "putDistance", "(I)V"⟩, prog_11_method_19_code, 3, none, [], { frames := 2, cells := 0, slots := 0, locals := 44 })
theorem k1071 : Cond.methodLink R_Model 120 (mY m_Model_leastDistance) ∈ zTb := tb_at 1071 (by decide +kernel) rfl
theorem k1072 : Cond.static (mY m_Model_leastDistance) ∈ zTb := tb_at 1072 (by decide +kernel) rfl
theorem kc_Model_putDistance : Cond.code (mY m_Model_putDistance) (mC m_Model_putDistance) (mL m_Model_putDistance) (mT m_Model_putDistance) ∈ zTb := tb_at 1070 (by decide +kernel) rfl
theorem y_Model_putDistance : (mY m_Model_putDistance).cls ≠ "java/lang/invoke/MethodHandle" ∧ (mY m_Model_putDistance).cls ≠ "java/lang/invoke/VarHandle" ∧ (parseMethodDescriptor (mY m_Model_putDistance).desc).map (fun d => d.parameters.length) = some 1 := by decide +kernel
theorem sel_Model_putDistance : Cond.selects R_Model (mY m_Model_putDistance) (mY m_Model_putDistance) ∈ zTb := sel_at (y := mY m_Model_putDistance) (n := 33) 47 (by decide +kernel)
theorem d_Model_putDistance_0 : decode (mC m_Model_putDistance) 0 = .ok (.iconst 0, 1) := by decide +kernel
theorem d_Model_putDistance_1 : decode (mC m_Model_putDistance) 1 = .ok (.istore_n 2, 1) := by decide +kernel
theorem d_Model_putDistance_2 : decode (mC m_Model_putDistance) 2 = .ok (.iload_n 2, 1) := by decide +kernel
theorem d_Model_putDistance_3 : decode (mC m_Model_putDistance) 3 = .ok (.bipush 29, 2) := by decide +kernel
theorem d_Model_putDistance_5 : decode (mC m_Model_putDistance) 5 = .ok (.if_icmp .ge 19, 3) := by decide +kernel
theorem d_Model_putDistance_8 : decode (mC m_Model_putDistance) 8 = .ok (.iload_n 2, 1) := by decide +kernel
theorem d_Model_putDistance_9 : decode (mC m_Model_putDistance) 9 = .ok (.iconst 1, 1) := by decide +kernel
theorem d_Model_putDistance_10 : decode (mC m_Model_putDistance) 10 = .ok (.iadd, 1) := by decide +kernel
theorem d_Model_putDistance_11 : decode (mC m_Model_putDistance) 11 = .ok (.invokestatic 120, 3) := by decide +kernel
theorem d_Model_putDistance_14 : decode (mC m_Model_putDistance) 14 = .ok (.iload_n 1, 1) := by decide +kernel
theorem d_Model_putDistance_15 : decode (mC m_Model_putDistance) 15 = .ok (.if_icmp .gt 9, 3) := by decide +kernel
theorem d_Model_putDistance_18 : decode (mC m_Model_putDistance) 18 = .ok (.iinc 2 1, 3) := by decide +kernel
theorem d_Model_putDistance_21 : decode (mC m_Model_putDistance) 21 = .ok (.goto (-19), 3) := by decide +kernel
theorem d_Model_putDistance_24 : decode (mC m_Model_putDistance) 24 = .ok (.aload_n 0, 1) := by decide +kernel
theorem d_Model_putDistance_25 : decode (mC m_Model_putDistance) 25 = .ok (.sipush 288, 3) := by decide +kernel
theorem d_Model_putDistance_28 : decode (mC m_Model_putDistance) 28 = .ok (.iload_n 2, 1) := by decide +kernel
theorem d_Model_putDistance_29 : decode (mC m_Model_putDistance) 29 = .ok (.iadd, 1) := by decide +kernel
theorem d_Model_putDistance_30 : decode (mC m_Model_putDistance) 30 = .ok (.invokevirtual 106, 3) := by decide +kernel
theorem d_Model_putDistance_33 : decode (mC m_Model_putDistance) 33 = .ok (.aload_n 0, 1) := by decide +kernel
theorem d_Model_putDistance_34 : decode (mC m_Model_putDistance) 34 = .ok (.iload_n 1, 1) := by decide +kernel
theorem d_Model_putDistance_35 : decode (mC m_Model_putDistance) 35 = .ok (.iload_n 2, 1) := by decide +kernel
theorem d_Model_putDistance_36 : decode (mC m_Model_putDistance) 36 = .ok (.invokestatic 120, 3) := by decide +kernel
theorem d_Model_putDistance_39 : decode (mC m_Model_putDistance) 39 = .ok (.isub, 1) := by decide +kernel
theorem d_Model_putDistance_40 : decode (mC m_Model_putDistance) 40 = .ok (.iload_n 2, 1) := by decide +kernel
theorem d_Model_putDistance_41 : decode (mC m_Model_putDistance) 41 = .ok (.invokestatic 123, 3) := by decide +kernel
theorem d_Model_putDistance_44 : decode (mC m_Model_putDistance) 44 = .ok (.invokevirtual 116, 3) := by decide +kernel
theorem d_Model_putDistance_47 : decode (mC m_Model_putDistance) 47 = .ok (.return_, 1) := by decide +kernel
def b_Model_putDistance_24 (F : Nat) (v0 : Nat) (v1 : Int32) (v2 : Int32) (w : zW) : Option (Unit × zW) := (zobj w v0 9).bind fun _ => (f_Model_putWord F v0 ((288 : Int32) + v2) w).bind fun r30 => (f_Model_leastDistance F v2 r30.2).bind fun r36 => (f_Model_extraDistance F v2 r36.2).bind fun r41 => (zobj r41.2 v0 9).bind fun _ => (f_Model_putLow F v0 (v1 - r36.1) r41.1 r41.2).bind fun r44 => some ((), r44.2)
set_option maxRecDepth 100000 in
set_option maxHeartbeats 4000000 in
theorem b_Model_putDistance_24_ok (G : zG) (F : Nat) (v0 : Nat) (v1 : Int32) (v2 : Int32) (w : zW) (r : (Unit × zW)) (h : b_Model_putDistance_24 F v0 v1 v2 w = some r) : zV G m_Model_putDistance 24 [(0, .ref (z0 G + v0)), (1, .int v1), (2, .int v2)] [] w 0 0 (oV r.1) r.2 := by
  unfold b_Model_putDistance_24 at h
  refine V_aload_n (i := 0) d_Model_putDistance_24 rfl 0 rfl ?_
  refine V_sipush (v := 288) d_Model_putDistance_25 (by decide) ?_
  refine V_iload_n (i := 2) d_Model_putDistance_28 rfl 2 rfl ?_
  refine V_iadd d_Model_putDistance_29 ?_
  obtain ⟨_, eo30, h⟩ := ob h
  obtain ⟨r30, e30, h⟩ := ob h
  refine V_call (v := none) (st := []) (inv_V (N := m_Model_putWord) (As := [.int ((288 : Int32) + v2)]) (ci := 9) d_Model_putDistance_30 eo30 rfl k1053 k1055 sel_Model_putWord kc_Model_putWord y_Model_putWord) ⟨Or.inl kc_Model_putWord, k10, by decide, by decide⟩ (Nat.le_of_ble_eq_true rfl) (by decide) (by decide) (c_Model_putWord G F v0 ((288 : Int32) + v2) w r30 e30) ?_
  refine V_aload_n (i := 0) d_Model_putDistance_33 rfl 0 rfl ?_
  refine V_iload_n (i := 1) d_Model_putDistance_34 rfl 1 rfl ?_
  refine V_iload_n (i := 2) d_Model_putDistance_35 rfl 2 rfl ?_
  obtain ⟨r36, e36, h⟩ := ob h
  refine V_call (v := some (.int r36.1)) (st := [.int v1, .ref (z0 G + v0)]) (inv_S (N := m_Model_leastDistance) (As := [.int v2]) d_Model_putDistance_36 k1071 k1072 k10 (Or.inl kc_Model_leastDistance) y_Model_leastDistance) ⟨Or.inl kc_Model_leastDistance, k10, by decide, by decide⟩ (Nat.le_of_ble_eq_true rfl) (by decide) (by decide) (c_Model_leastDistance G F v2 r30.2 r36 e36) ?_
  refine V_isub d_Model_putDistance_39 ?_
  refine V_iload_n (i := 2) d_Model_putDistance_40 rfl 2 rfl ?_
  obtain ⟨r41, e41, h⟩ := ob h
  refine V_call (v := some (.int r41.1)) (st := [.int (v1 - r36.1), .ref (z0 G + v0)]) (inv_S (N := m_Model_extraDistance) (As := [.int v2]) d_Model_putDistance_41 k1074 k1075 k10 (Or.inl kc_Model_extraDistance) y_Model_extraDistance) ⟨Or.inl kc_Model_extraDistance, k10, by decide, by decide⟩ (Nat.le_of_ble_eq_true rfl) (by decide) (by decide) (c_Model_extraDistance G F v2 r36.2 r41 e41) ?_
  obtain ⟨_, eo44, h⟩ := ob h
  obtain ⟨r44, e44, h⟩ := ob h
  refine V_call (v := none) (st := []) (inv_V (N := m_Model_putLow) (As := [.int (v1 - r36.1), .int r41.1]) (ci := 9) d_Model_putDistance_44 eo44 rfl k1041 k1043 sel_Model_putLow kc_Model_putLow y_Model_putLow) ⟨Or.inl kc_Model_putLow, k10, by decide, by decide⟩ (Nat.le_of_ble_eq_true rfl) (by decide) (by decide) (c_Model_putLow G F v0 (v1 - r36.1) r41.1 r41.2 r44 e44) ?_
  obtain rfl := Option.some.inj h
  exact V_vret rfl (by decide) (by decide) d_Model_putDistance_47
def b_Model_putDistance_2 (F : Nat) (K2 : Nat → Int32 → Int32 → zW → Option (Unit × zW)) (v0 : Nat) (v1 : Int32) (v2 : Int32) (w : zW) : Option (Unit × zW) := if (29 : Int32) ≤ v2 then (b_Model_putDistance_24 F v0 v1 v2 w) else ((f_Model_leastDistance F (v2 + (1 : Int32)) w).bind fun r11 => if v1 < r11.1 then (b_Model_putDistance_24 F v0 v1 v2 r11.2) else (K2 v0 v1 (v2 + (1 : Int32)) r11.2))
set_option maxRecDepth 100000 in
set_option maxHeartbeats 4000000 in
theorem b_Model_putDistance_2_ok (G : zG) (F : Nat) (K2 : Nat → Int32 → Int32 → zW → Option (Unit × zW)) (hK2 : ∀ (v0 : Nat) (v1 : Int32) (v2 : Int32) (w : zW) (r : (Unit × zW)), K2 v0 v1 v2 w = some r → zV G m_Model_putDistance 2 [(0, .ref (z0 G + v0)), (1, .int v1), (2, .int v2)] [] w 0 0 (oV r.1) r.2) (v0 : Nat) (v1 : Int32) (v2 : Int32) (w : zW) (r : (Unit × zW)) (h : b_Model_putDistance_2 F K2 v0 v1 v2 w = some r) : zV G m_Model_putDistance 2 [(0, .ref (z0 G + v0)), (1, .int v1), (2, .int v2)] [] w 0 0 (oV r.1) r.2 := by
  unfold b_Model_putDistance_2 at h
  refine V_iload_n (i := 2) d_Model_putDistance_2 rfl 2 rfl ?_
  refine V_bipush (v := 29) d_Model_putDistance_3 (by decide) ?_
  refine V_icmp_ge (tgt := 24) d_Model_putDistance_5 (by decide) (fun c5 => ?_) (fun c5 => ?_)
  · rw [if_pos c5] at h
    exact b_Model_putDistance_24_ok G F v0 v1 v2 w _ h
  · rw [if_neg c5] at h
    refine V_iload_n (i := 2) d_Model_putDistance_8 rfl 2 rfl ?_
    refine V_iconst (v := 1) d_Model_putDistance_9 (by decide) ?_
    refine V_iadd d_Model_putDistance_10 ?_
    obtain ⟨r11, e11, h⟩ := ob h
    refine V_call (v := some (.int r11.1)) (st := []) (inv_S (N := m_Model_leastDistance) (As := [.int (v2 + (1 : Int32))]) d_Model_putDistance_11 k1071 k1072 k10 (Or.inl kc_Model_leastDistance) y_Model_leastDistance) ⟨Or.inl kc_Model_leastDistance, k10, by decide, by decide⟩ (Nat.le_of_ble_eq_true rfl) (by decide) (by decide) (c_Model_leastDistance G F (v2 + (1 : Int32)) w r11 e11) ?_
    refine V_iload_n (i := 1) d_Model_putDistance_14 rfl 1 rfl ?_
    refine V_icmp_gt (tgt := 24) d_Model_putDistance_15 (by decide) (fun c15 => ?_) (fun c15 => ?_)
    · rw [if_pos c15] at h
      exact b_Model_putDistance_24_ok G F v0 v1 v2 r11.2 _ h
    · rw [if_neg c15] at h
      refine V_iinc (i := 2) (v := (v2 + (1 : Int32))) d_Model_putDistance_18 2 rfl (congrArg (fun y => v2 + y) (by decide : Int32.ofInt (1) = (1 : Int32))) (by decide) rfl ?_
      refine V_goto (tgt := 2) d_Model_putDistance_21 (by decide) ?_
      refine V_lv [1, 2, 0] rfl ?_
      exact hK2 v0 v1 (v2 + (1 : Int32)) r11.2 _ h
def l_Model_putDistance_2 (F : Nat) : Nat → Nat → Int32 → Int32 → zW → Option (Unit × zW)
  | 0 => fun _ _ _ _ => none
  | n + 1 => b_Model_putDistance_2 F (l_Model_putDistance_2 F n)
theorem l_Model_putDistance_2_ok (G : zG) (F : Nat) (n : Nat) :  ∀ (v0 : Nat) (v1 : Int32) (v2 : Int32) (w : zW) (r : (Unit × zW)), l_Model_putDistance_2 F n v0 v1 v2 w = some r → zV G m_Model_putDistance 2 [(0, .ref (z0 G + v0)), (1, .int v1), (2, .int v2)] [] w 0 0 (oV r.1) r.2 := by
  induction n with
  | zero => intro v0 v1 v2 w r h; exact nomatch (show (none : Option (Unit × zW)) = some r from h)
  | succ n ih => intro v0 v1 v2 w r h; exact b_Model_putDistance_2_ok G F (l_Model_putDistance_2 F n) ih v0 v1 v2 w r h
def b_Model_putDistance_0 (F : Nat) (v0 : Nat) (v1 : Int32) (w : zW) : Option (Unit × zW) := l_Model_putDistance_2 F F v0 v1 (0 : Int32) w
set_option maxRecDepth 100000 in
set_option maxHeartbeats 4000000 in
theorem b_Model_putDistance_0_ok (G : zG) (F : Nat) (v0 : Nat) (v1 : Int32) (w : zW) (r : (Unit × zW)) (h : b_Model_putDistance_0 F v0 v1 w = some r) : zV G m_Model_putDistance 0 [(0, .ref (z0 G + v0)), (1, .int v1)] [] w 0 0 (oV r.1) r.2 := by
  unfold b_Model_putDistance_0 at h
  refine V_iconst (v := 0) d_Model_putDistance_0 (by decide) ?_
  refine V_istore_n (i := 2) d_Model_putDistance_1 rfl (by decide) rfl ?_
  refine V_lv [1, 2, 0] rfl ?_
  exact l_Model_putDistance_2_ok G F F v0 v1 (0 : Int32) w _ h
def f_Model_putDistance (F : Nat) (v0 : Nat) (v1 : Int32) (w : zW) : Option (Unit × zW) := b_Model_putDistance_0 F v0 v1 w
theorem c_Model_putDistance (G : zG) (F : Nat) (v0 : Nat) (v1 : Int32) (w : zW) (r : (Unit × zW)) (h : f_Model_putDistance F v0 v1 w = some r) : zCT G m_Model_putDistance [.ref (z0 G + v0), .int v1] w (oV r.1) r.2 := zCT.ofV (by decide +kernel) (Or.inl ⟨kc_Model_putDistance, rfl⟩) (Nat.le_of_ble_eq_true rfl) (b_Model_putDistance_0_ok G F v0 v1 w r h)

/-! ZipArrayModel.makeWords(II)Z -/
def m_Model_makeWords : zM := (⟨R_Model, "makeWords", "(II)Z"⟩, prog_11_method_26_code, 8, (some .boolean), [], { frames := 0, cells := 0, slots := 0, locals := 0 })
theorem k1040 : Cond.constant R_Model 144 32768 ∈ zTb := tb_at 1040 (by decide +kernel) rfl
theorem kc_Model_makeWords : Cond.code (mY m_Model_makeWords) (mC m_Model_makeWords) (mL m_Model_makeWords) (mT m_Model_makeWords) ∈ zTb := tb_at 1039 (by decide +kernel) rfl
theorem y_Model_makeWords : (mY m_Model_makeWords).cls ≠ "java/lang/invoke/MethodHandle" ∧ (mY m_Model_makeWords).cls ≠ "java/lang/invoke/VarHandle" ∧ (parseMethodDescriptor (mY m_Model_makeWords).desc).map (fun d => d.parameters.length) = some 2 := by decide +kernel
theorem sel_Model_makeWords : Cond.selects R_Model (mY m_Model_makeWords) (mY m_Model_makeWords) ∈ zTb := sel_at (y := mY m_Model_makeWords) (n := 33) 41 (by decide +kernel)
theorem d_Model_makeWords_0 : decode (mC m_Model_makeWords) 0 = .ok (.iconst 0, 1) := by decide +kernel
theorem d_Model_makeWords_1 : decode (mC m_Model_makeWords) 1 = .ok (.istore_n 3, 1) := by decide +kernel
theorem d_Model_makeWords_2 : decode (mC m_Model_makeWords) 2 = .ok (.iconst 0, 1) := by decide +kernel
theorem d_Model_makeWords_3 : decode (mC m_Model_makeWords) 3 = .ok (.istore 4, 2) := by decide +kernel
theorem d_Model_makeWords_5 : decode (mC m_Model_makeWords) 5 = .ok (.iconst 0, 1) := by decide +kernel
theorem d_Model_makeWords_6 : decode (mC m_Model_makeWords) 6 = .ok (.istore 5, 2) := by decide +kernel
theorem d_Model_makeWords_8 : decode (mC m_Model_makeWords) 8 = .ok (.iconst 1, 1) := by decide +kernel
theorem d_Model_makeWords_9 : decode (mC m_Model_makeWords) 9 = .ok (.istore 6, 2) := by decide +kernel
theorem d_Model_makeWords_11 : decode (mC m_Model_makeWords) 11 = .ok (.iload 6, 2) := by decide +kernel
theorem d_Model_makeWords_13 : decode (mC m_Model_makeWords) 13 = .ok (.bipush 16, 2) := by decide +kernel
theorem d_Model_makeWords_15 : decode (mC m_Model_makeWords) 15 = .ok (.if_icmp .ge 81, 3) := by decide +kernel
theorem d_Model_makeWords_18 : decode (mC m_Model_makeWords) 18 = .ok (.iload_n 1, 1) := by decide +kernel
theorem d_Model_makeWords_19 : decode (mC m_Model_makeWords) 19 = .ok (.istore 7, 2) := by decide +kernel
theorem d_Model_makeWords_21 : decode (mC m_Model_makeWords) 21 = .ok (.iload 7, 2) := by decide +kernel
theorem d_Model_makeWords_23 : decode (mC m_Model_makeWords) 23 = .ok (.iload_n 1, 1) := by decide +kernel
theorem d_Model_makeWords_24 : decode (mC m_Model_makeWords) 24 = .ok (.iload_n 2, 1) := by decide +kernel
theorem d_Model_makeWords_25 : decode (mC m_Model_makeWords) 25 = .ok (.iadd, 1) := by decide +kernel
theorem d_Model_makeWords_26 : decode (mC m_Model_makeWords) 26 = .ok (.if_icmp .ge 64, 3) := by decide +kernel
theorem d_Model_makeWords_29 : decode (mC m_Model_makeWords) 29 = .ok (.aload_n 0, 1) := by decide +kernel
theorem d_Model_makeWords_30 : decode (mC m_Model_makeWords) 30 = .ok (.getfield 22, 3) := by decide +kernel
theorem d_Model_makeWords_33 : decode (mC m_Model_makeWords) 33 = .ok (.iload 7, 2) := by decide +kernel
theorem d_Model_makeWords_35 : decode (mC m_Model_makeWords) 35 = .ok (.iaload, 1) := by decide +kernel
theorem d_Model_makeWords_36 : decode (mC m_Model_makeWords) 36 = .ok (.iload 6, 2) := by decide +kernel
theorem d_Model_makeWords_38 : decode (mC m_Model_makeWords) 38 = .ok (.if_icmp .ne 46, 3) := by decide +kernel
theorem d_Model_makeWords_41 : decode (mC m_Model_makeWords) 41 = .ok (.iload 4, 2) := by decide +kernel
theorem d_Model_makeWords_43 : decode (mC m_Model_makeWords) 43 = .ok (.ifCond .ne 7, 3) := by decide +kernel
theorem d_Model_makeWords_46 : decode (mC m_Model_makeWords) 46 = .ok (.iconst 0, 1) := by decide +kernel
theorem d_Model_makeWords_47 : decode (mC m_Model_makeWords) 47 = .ok (.goto 12, 3) := by decide +kernel
theorem d_Model_makeWords_50 : decode (mC m_Model_makeWords) 50 = .ok (.iload_n 3, 1) := by decide +kernel
theorem d_Model_makeWords_51 : decode (mC m_Model_makeWords) 51 = .ok (.iconst 1, 1) := by decide +kernel
theorem d_Model_makeWords_52 : decode (mC m_Model_makeWords) 52 = .ok (.iadd, 1) := by decide +kernel
theorem d_Model_makeWords_53 : decode (mC m_Model_makeWords) 53 = .ok (.iload 6, 2) := by decide +kernel
theorem d_Model_makeWords_55 : decode (mC m_Model_makeWords) 55 = .ok (.iload 4, 2) := by decide +kernel
theorem d_Model_makeWords_57 : decode (mC m_Model_makeWords) 57 = .ok (.isub, 1) := by decide +kernel
theorem d_Model_makeWords_58 : decode (mC m_Model_makeWords) 58 = .ok (.ishl, 1) := by decide +kernel
theorem d_Model_makeWords_59 : decode (mC m_Model_makeWords) 59 = .ok (.istore_n 3, 1) := by decide +kernel
theorem d_Model_makeWords_60 : decode (mC m_Model_makeWords) 60 = .ok (.aload_n 0, 1) := by decide +kernel
theorem d_Model_makeWords_61 : decode (mC m_Model_makeWords) 61 = .ok (.getfield 25, 3) := by decide +kernel
theorem d_Model_makeWords_64 : decode (mC m_Model_makeWords) 64 = .ok (.iload 7, 2) := by decide +kernel
theorem d_Model_makeWords_66 : decode (mC m_Model_makeWords) 66 = .ok (.iload_n 3, 1) := by decide +kernel
theorem d_Model_makeWords_67 : decode (mC m_Model_makeWords) 67 = .ok (.iastore, 1) := by decide +kernel
theorem d_Model_makeWords_68 : decode (mC m_Model_makeWords) 68 = .ok (.iload 6, 2) := by decide +kernel
theorem d_Model_makeWords_70 : decode (mC m_Model_makeWords) 70 = .ok (.istore 4, 2) := by decide +kernel
theorem d_Model_makeWords_72 : decode (mC m_Model_makeWords) 72 = .ok (.iload 5, 2) := by decide +kernel
theorem d_Model_makeWords_74 : decode (mC m_Model_makeWords) 74 = .ok (.iconst 1, 1) := by decide +kernel
theorem d_Model_makeWords_75 : decode (mC m_Model_makeWords) 75 = .ok (.bipush 15, 2) := by decide +kernel
theorem d_Model_makeWords_77 : decode (mC m_Model_makeWords) 77 = .ok (.iload 6, 2) := by decide +kernel
theorem d_Model_makeWords_79 : decode (mC m_Model_makeWords) 79 = .ok (.isub, 1) := by decide +kernel
theorem d_Model_makeWords_80 : decode (mC m_Model_makeWords) 80 = .ok (.ishl, 1) := by decide +kernel
theorem d_Model_makeWords_81 : decode (mC m_Model_makeWords) 81 = .ok (.iadd, 1) := by decide +kernel
theorem d_Model_makeWords_82 : decode (mC m_Model_makeWords) 82 = .ok (.istore 5, 2) := by decide +kernel
theorem d_Model_makeWords_84 : decode (mC m_Model_makeWords) 84 = .ok (.iinc 7 1, 3) := by decide +kernel
theorem d_Model_makeWords_87 : decode (mC m_Model_makeWords) 87 = .ok (.goto (-66), 3) := by decide +kernel
theorem d_Model_makeWords_90 : decode (mC m_Model_makeWords) 90 = .ok (.iinc 6 1, 3) := by decide +kernel
theorem d_Model_makeWords_93 : decode (mC m_Model_makeWords) 93 = .ok (.goto (-82), 3) := by decide +kernel
theorem d_Model_makeWords_96 : decode (mC m_Model_makeWords) 96 = .ok (.iload 5, 2) := by decide +kernel
theorem d_Model_makeWords_98 : decode (mC m_Model_makeWords) 98 = .ok (.ldc 144, 2) := by decide +kernel
theorem d_Model_makeWords_100 : decode (mC m_Model_makeWords) 100 = .ok (.if_icmp .gt 7, 3) := by decide +kernel
theorem d_Model_makeWords_103 : decode (mC m_Model_makeWords) 103 = .ok (.iconst 1, 1) := by decide +kernel
theorem d_Model_makeWords_104 : decode (mC m_Model_makeWords) 104 = .ok (.goto 4, 3) := by decide +kernel
theorem d_Model_makeWords_107 : decode (mC m_Model_makeWords) 107 = .ok (.iconst 0, 1) := by decide +kernel
theorem d_Model_makeWords_108 : decode (mC m_Model_makeWords) 108 = .ok (.ireturn, 1) := by decide +kernel
def b_Model_makeWords_84 (F : Nat) (K11 : Nat → Int32 → Int32 → Int32 → Int32 → Int32 → Int32 → zW → Option (Int32 × zW)) (K21 : Nat → Int32 → Int32 → Int32 → Int32 → Int32 → Int32 → Int32 → zW → Option (Int32 × zW)) (v0 : Nat) (v1 : Int32) (v2 : Int32) (v3 : Int32) (v4 : Int32) (v5 : Int32) (v6 : Int32) (v7 : Int32) (w : zW) : Option (Int32 × zW) := K21 v0 v1 v2 v3 v4 v5 v6 (v7 + (1 : Int32)) w
set_option maxRecDepth 100000 in
set_option maxHeartbeats 4000000 in
theorem b_Model_makeWords_84_ok (G : zG) (F : Nat) (K11 : Nat → Int32 → Int32 → Int32 → Int32 → Int32 → Int32 → zW → Option (Int32 × zW)) (K21 : Nat → Int32 → Int32 → Int32 → Int32 → Int32 → Int32 → Int32 → zW → Option (Int32 × zW)) (hK11 : ∀ (v0 : Nat) (v1 : Int32) (v2 : Int32) (v3 : Int32) (v4 : Int32) (v5 : Int32) (v6 : Int32) (w : zW) (r : (Int32 × zW)), K11 v0 v1 v2 v3 v4 v5 v6 w = some r → zV G m_Model_makeWords 11 [(0, .ref (z0 G + v0)), (1, .int v1), (2, .int v2), (3, .int v3), (4, .int v4), (5, .int v5), (6, .int v6)] [] w 0 0 (oI r.1) r.2) (hK21 : ∀ (v0 : Nat) (v1 : Int32) (v2 : Int32) (v3 : Int32) (v4 : Int32) (v5 : Int32) (v6 : Int32) (v7 : Int32) (w : zW) (r : (Int32 × zW)), K21 v0 v1 v2 v3 v4 v5 v6 v7 w = some r → zV G m_Model_makeWords 21 [(0, .ref (z0 G + v0)), (1, .int v1), (2, .int v2), (3, .int v3), (4, .int v4), (5, .int v5), (6, .int v6), (7, .int v7)] [] w 0 0 (oI r.1) r.2) (v0 : Nat) (v1 : Int32) (v2 : Int32) (v3 : Int32) (v4 : Int32) (v5 : Int32) (v6 : Int32) (v7 : Int32) (w : zW) (r : (Int32 × zW)) (h : b_Model_makeWords_84 F K11 K21 v0 v1 v2 v3 v4 v5 v6 v7 w = some r) : zV G m_Model_makeWords 84 [(0, .ref (z0 G + v0)), (1, .int v1), (2, .int v2), (3, .int v3), (4, .int v4), (5, .int v5), (6, .int v6), (7, .int v7)] [] w 0 0 (oI r.1) r.2 := by
  unfold b_Model_makeWords_84 at h
  refine V_iinc (i := 7) (v := (v7 + (1 : Int32))) d_Model_makeWords_84 7 rfl (congrArg (fun y => v7 + y) (by decide : Int32.ofInt (1) = (1 : Int32))) (by decide) rfl ?_
  refine V_goto (tgt := 21) d_Model_makeWords_87 (by decide) ?_
  refine V_lv [1, 2, 3, 4, 5, 6, 7, 0] rfl ?_
  exact hK21 v0 v1 v2 v3 v4 v5 v6 (v7 + (1 : Int32)) w _ h
def b_Model_makeWords_59 (F : Nat) (K11 : Nat → Int32 → Int32 → Int32 → Int32 → Int32 → Int32 → zW → Option (Int32 × zW)) (K21 : Nat → Int32 → Int32 → Int32 → Int32 → Int32 → Int32 → Int32 → zW → Option (Int32 × zW)) (v0 : Nat) (v1 : Int32) (v2 : Int32) (v5 : Int32) (v6 : Int32) (v7 : Int32) (s0 : Int32) (w : zW) : Option (Int32 × zW) := (getR w v0 9 13).bind fun x61 => (aset w x61 v7 s0).bind fun w67 => b_Model_makeWords_84 F K11 K21 v0 v1 v2 s0 v6 (v5 + ((1 : Int32) <<< (((15 : Int32) - v6) &&& 31))) v6 v7 w67
set_option maxRecDepth 100000 in
set_option maxHeartbeats 4000000 in
theorem b_Model_makeWords_59_ok (G : zG) (F : Nat) (K11 : Nat → Int32 → Int32 → Int32 → Int32 → Int32 → Int32 → zW → Option (Int32 × zW)) (K21 : Nat → Int32 → Int32 → Int32 → Int32 → Int32 → Int32 → Int32 → zW → Option (Int32 × zW)) (hK11 : ∀ (v0 : Nat) (v1 : Int32) (v2 : Int32) (v3 : Int32) (v4 : Int32) (v5 : Int32) (v6 : Int32) (w : zW) (r : (Int32 × zW)), K11 v0 v1 v2 v3 v4 v5 v6 w = some r → zV G m_Model_makeWords 11 [(0, .ref (z0 G + v0)), (1, .int v1), (2, .int v2), (3, .int v3), (4, .int v4), (5, .int v5), (6, .int v6)] [] w 0 0 (oI r.1) r.2) (hK21 : ∀ (v0 : Nat) (v1 : Int32) (v2 : Int32) (v3 : Int32) (v4 : Int32) (v5 : Int32) (v6 : Int32) (v7 : Int32) (w : zW) (r : (Int32 × zW)), K21 v0 v1 v2 v3 v4 v5 v6 v7 w = some r → zV G m_Model_makeWords 21 [(0, .ref (z0 G + v0)), (1, .int v1), (2, .int v2), (3, .int v3), (4, .int v4), (5, .int v5), (6, .int v6), (7, .int v7)] [] w 0 0 (oI r.1) r.2) (v0 : Nat) (v1 : Int32) (v2 : Int32) (v5 : Int32) (v6 : Int32) (v7 : Int32) (s0 : Int32) (w : zW) (r : (Int32 × zW)) (h : b_Model_makeWords_59 F K11 K21 v0 v1 v2 v5 v6 v7 s0 w = some r) : zV G m_Model_makeWords 59 [(0, .ref (z0 G + v0)), (1, .int v1), (2, .int v2), (5, .int v5), (6, .int v6), (7, .int v7)] [.int s0] w 0 0 (oI r.1) r.2 := by
  unfold b_Model_makeWords_59 at h
  refine V_istore_n (i := 3) d_Model_makeWords_59 rfl (by decide) rfl ?_
  refine V_aload_n (i := 0) d_Model_makeWords_60 rfl 1 rfl ?_
  obtain ⟨x61, e61, h⟩ := ob h
  refine V_getR (ci := 9) (k := 13) d_Model_makeWords_61 e61 rfl (by decide) in_Model k895 ?_
  refine V_iload (i := 7) d_Model_makeWords_64 6 rfl ?_
  refine V_iload_n (i := 3) d_Model_makeWords_66 rfl 0 rfl ?_
  obtain ⟨w67, e67, h⟩ := ob h
  refine V_aset d_Model_makeWords_67 e67 ?_
  refine V_iload (i := 6) d_Model_makeWords_68 5 rfl ?_
  refine V_istore (i := 4) d_Model_makeWords_70 (by decide) rfl ?_
  refine V_iload (i := 5) d_Model_makeWords_72 5 rfl ?_
  refine V_iconst (v := 1) d_Model_makeWords_74 (by decide) ?_
  refine V_bipush (v := 15) d_Model_makeWords_75 (by decide) ?_
  refine V_iload (i := 6) d_Model_makeWords_77 6 rfl ?_
  refine V_isub d_Model_makeWords_79 ?_
  refine V_ishl d_Model_makeWords_80 ?_
  refine V_iadd d_Model_makeWords_81 ?_
  refine V_istore (i := 5) d_Model_makeWords_82 (by decide) rfl ?_
  refine V_lv [3, 4, 5, 2, 1, 0, 6, 7] rfl ?_
  exact b_Model_makeWords_84_ok G F K11 K21 hK11 hK21 v0 v1 v2 s0 v6 (v5 + ((1 : Int32) <<< (((15 : Int32) - v6) &&& 31))) v6 v7 w67 _ h
def b_Model_makeWords_21 (F : Nat) (K11 : Nat → Int32 → Int32 → Int32 → Int32 → Int32 → Int32 → zW → Option (Int32 × zW)) (K21 : Nat → Int32 → Int32 → Int32 → Int32 → Int32 → Int32 → Int32 → zW → Option (Int32 × zW)) (v0 : Nat) (v1 : Int32) (v2 : Int32) (v3 : Int32) (v4 : Int32) (v5 : Int32) (v6 : Int32) (v7 : Int32) (w : zW) : Option (Int32 × zW) := if (v1 + v2) ≤ v7 then (K11 v0 v1 v2 v3 v4 v5 (v6 + (1 : Int32)) w) else ((getR w v0 9 12).bind fun x30 => (aget w x30 v7).bind fun x35 => if x35 = v6 then (if v4 = 0 then (b_Model_makeWords_59 F K11 K21 v0 v1 v2 v5 v6 v7 (0 : Int32) w) else (b_Model_makeWords_59 F K11 K21 v0 v1 v2 v5 v6 v7 ((v3 + (1 : Int32)) <<< ((v6 - v4) &&& 31)) w)) else (b_Model_makeWords_84 F K11 K21 v0 v1 v2 v3 v4 v5 v6 v7 w))
set_option maxRecDepth 100000 in
set_option maxHeartbeats 4000000 in
theorem b_Model_makeWords_21_ok (G : zG) (F : Nat) (K11 : Nat → Int32 → Int32 → Int32 → Int32 → Int32 → Int32 → zW → Option (Int32 × zW)) (K21 : Nat → Int32 → Int32 → Int32 → Int32 → Int32 → Int32 → Int32 → zW → Option (Int32 × zW)) (hK11 : ∀ (v0 : Nat) (v1 : Int32) (v2 : Int32) (v3 : Int32) (v4 : Int32) (v5 : Int32) (v6 : Int32) (w : zW) (r : (Int32 × zW)), K11 v0 v1 v2 v3 v4 v5 v6 w = some r → zV G m_Model_makeWords 11 [(0, .ref (z0 G + v0)), (1, .int v1), (2, .int v2), (3, .int v3), (4, .int v4), (5, .int v5), (6, .int v6)] [] w 0 0 (oI r.1) r.2) (hK21 : ∀ (v0 : Nat) (v1 : Int32) (v2 : Int32) (v3 : Int32) (v4 : Int32) (v5 : Int32) (v6 : Int32) (v7 : Int32) (w : zW) (r : (Int32 × zW)), K21 v0 v1 v2 v3 v4 v5 v6 v7 w = some r → zV G m_Model_makeWords 21 [(0, .ref (z0 G + v0)), (1, .int v1), (2, .int v2), (3, .int v3), (4, .int v4), (5, .int v5), (6, .int v6), (7, .int v7)] [] w 0 0 (oI r.1) r.2) (v0 : Nat) (v1 : Int32) (v2 : Int32) (v3 : Int32) (v4 : Int32) (v5 : Int32) (v6 : Int32) (v7 : Int32) (w : zW) (r : (Int32 × zW)) (h : b_Model_makeWords_21 F K11 K21 v0 v1 v2 v3 v4 v5 v6 v7 w = some r) : zV G m_Model_makeWords 21 [(0, .ref (z0 G + v0)), (1, .int v1), (2, .int v2), (3, .int v3), (4, .int v4), (5, .int v5), (6, .int v6), (7, .int v7)] [] w 0 0 (oI r.1) r.2 := by
  unfold b_Model_makeWords_21 at h
  refine V_iload (i := 7) d_Model_makeWords_21 7 rfl ?_
  refine V_iload_n (i := 1) d_Model_makeWords_23 rfl 1 rfl ?_
  refine V_iload_n (i := 2) d_Model_makeWords_24 rfl 2 rfl ?_
  refine V_iadd d_Model_makeWords_25 ?_
  refine V_icmp_ge (tgt := 90) d_Model_makeWords_26 (by decide) (fun c26 => ?_) (fun c26 => ?_)
  · rw [if_pos c26] at h
    refine V_iinc (i := 6) (v := (v6 + (1 : Int32))) d_Model_makeWords_90 6 rfl (congrArg (fun y => v6 + y) (by decide : Int32.ofInt (1) = (1 : Int32))) (by decide) rfl ?_
    refine V_goto (tgt := 11) d_Model_makeWords_93 (by decide) ?_
    refine V_lv [1, 2, 3, 4, 5, 6, 0] rfl ?_
    exact hK11 v0 v1 v2 v3 v4 v5 (v6 + (1 : Int32)) w _ h
  · rw [if_neg c26] at h
    refine V_aload_n (i := 0) d_Model_makeWords_29 rfl 0 rfl ?_
    obtain ⟨x30, e30, h⟩ := ob h
    refine V_getR (ci := 9) (k := 12) d_Model_makeWords_30 e30 rfl (by decide) in_Model k894 ?_
    refine V_iload (i := 7) d_Model_makeWords_33 7 rfl ?_
    obtain ⟨x35, e35, h⟩ := ob h
    refine V_aget d_Model_makeWords_35 e35 ?_
    refine V_iload (i := 6) d_Model_makeWords_36 6 rfl ?_
    refine V_icmp_ne (tgt := 84) d_Model_makeWords_38 (by decide) (fun c38 => ?_) (fun c38 => ?_)
    · rw [if_neg c38] at h
      exact b_Model_makeWords_84_ok G F K11 K21 hK11 hK21 v0 v1 v2 v3 v4 v5 v6 v7 w _ h
    · rw [if_pos c38] at h
      refine V_iload (i := 4) d_Model_makeWords_41 4 rfl ?_
      refine V_if_ne (tgt := 50) d_Model_makeWords_43 (by decide) (fun c43 => ?_) (fun c43 => ?_)
      · rw [if_neg c43] at h
        refine V_iload_n (i := 3) d_Model_makeWords_50 rfl 3 rfl ?_
        refine V_iconst (v := 1) d_Model_makeWords_51 (by decide) ?_
        refine V_iadd d_Model_makeWords_52 ?_
        refine V_iload (i := 6) d_Model_makeWords_53 6 rfl ?_
        refine V_iload (i := 4) d_Model_makeWords_55 4 rfl ?_
        refine V_isub d_Model_makeWords_57 ?_
        refine V_ishl d_Model_makeWords_58 ?_
        refine V_lv [0, 1, 2, 5, 6, 7] rfl ?_
        exact b_Model_makeWords_59_ok G F K11 K21 hK11 hK21 v0 v1 v2 v5 v6 v7 ((v3 + (1 : Int32)) <<< ((v6 - v4) &&& 31)) w _ h
      · rw [if_pos c43] at h
        refine V_iconst (v := 0) d_Model_makeWords_46 (by decide) ?_
        refine V_goto (tgt := 59) d_Model_makeWords_47 (by decide) ?_
        refine V_lv [0, 1, 2, 5, 6, 7] rfl ?_
        exact b_Model_makeWords_59_ok G F K11 K21 hK11 hK21 v0 v1 v2 v5 v6 v7 (0 : Int32) w _ h
def l_Model_makeWords_21 (F : Nat) (K11 : Nat → Int32 → Int32 → Int32 → Int32 → Int32 → Int32 → zW → Option (Int32 × zW)) : Nat → Nat → Int32 → Int32 → Int32 → Int32 → Int32 → Int32 → Int32 → zW → Option (Int32 × zW)
  | 0 => fun _ _ _ _ _ _ _ _ _ => none
  | n + 1 => b_Model_makeWords_21 F K11 (l_Model_makeWords_21 F K11 n)
theorem l_Model_makeWords_21_ok (G : zG) (F : Nat) (K11 : Nat → Int32 → Int32 → Int32 → Int32 → Int32 → Int32 → zW → Option (Int32 × zW)) (hK11 : ∀ (v0 : Nat) (v1 : Int32) (v2 : Int32) (v3 : Int32) (v4 : Int32) (v5 : Int32) (v6 : Int32) (w : zW) (r : (Int32 × zW)), K11 v0 v1 v2 v3 v4 v5 v6 w = some r → zV G m_Model_makeWords 11 [(0, .ref (z0 G + v0)), (1, .int v1), (2, .int v2), (3, .int v3), (4, .int v4), (5, .int v5), (6, .int v6)] [] w 0 0 (oI r.1) r.2) (n : Nat) :  ∀ (v0 : Nat) (v1 : Int32) (v2 : Int32) (v3 : Int32) (v4 : Int32) (v5 : Int32) (v6 : Int32) (v7 : Int32) (w : zW) (r : (Int32 × zW)), l_Model_makeWords_21 F K11 n v0 v1 v2 v3 v4 v5 v6 v7 w = some r → zV G m_Model_makeWords 21 [(0, .ref (z0 G + v0)), (1, .int v1), (2, .int v2), (3, .int v3), (4, .int v4), (5, .int v5), (6, .int v6), (7, .int v7)] [] w 0 0 (oI r.1) r.2 := by
  induction n with
  | zero => intro v0 v1 v2 v3 v4 v5 v6 v7 w r h; exact nomatch (show (none : Option (Int32 × zW)) = some r from h)
  | succ n ih => intro v0 v1 v2 v3 v4 v5 v6 v7 w r h; exact b_Model_makeWords_21_ok G F K11 (l_Model_makeWords_21 F K11 n) hK11 ih v0 v1 v2 v3 v4 v5 v6 v7 w r h
def b_Model_makeWords_11 (F : Nat) (K11 : Nat → Int32 → Int32 → Int32 → Int32 → Int32 → Int32 → zW → Option (Int32 × zW)) (v0 : Nat) (v1 : Int32) (v2 : Int32) (v3 : Int32) (v4 : Int32) (v5 : Int32) (v6 : Int32) (w : zW) : Option (Int32 × zW) := if (16 : Int32) ≤ v6 then (if (32768 : Int32) < v5 then (some ((0 : Int32), w)) else (some ((1 : Int32), w))) else (l_Model_makeWords_21 F K11 F v0 v1 v2 v3 v4 v5 v6 v1 w)
set_option maxRecDepth 100000 in
set_option maxHeartbeats 4000000 in
theorem b_Model_makeWords_11_ok (G : zG) (F : Nat) (K11 : Nat → Int32 → Int32 → Int32 → Int32 → Int32 → Int32 → zW → Option (Int32 × zW)) (hK11 : ∀ (v0 : Nat) (v1 : Int32) (v2 : Int32) (v3 : Int32) (v4 : Int32) (v5 : Int32) (v6 : Int32) (w : zW) (r : (Int32 × zW)), K11 v0 v1 v2 v3 v4 v5 v6 w = some r → zV G m_Model_makeWords 11 [(0, .ref (z0 G + v0)), (1, .int v1), (2, .int v2), (3, .int v3), (4, .int v4), (5, .int v5), (6, .int v6)] [] w 0 0 (oI r.1) r.2) (v0 : Nat) (v1 : Int32) (v2 : Int32) (v3 : Int32) (v4 : Int32) (v5 : Int32) (v6 : Int32) (w : zW) (r : (Int32 × zW)) (h : b_Model_makeWords_11 F K11 v0 v1 v2 v3 v4 v5 v6 w = some r) : zV G m_Model_makeWords 11 [(0, .ref (z0 G + v0)), (1, .int v1), (2, .int v2), (3, .int v3), (4, .int v4), (5, .int v5), (6, .int v6)] [] w 0 0 (oI r.1) r.2 := by
  unfold b_Model_makeWords_11 at h
  refine V_iload (i := 6) d_Model_makeWords_11 6 rfl ?_
  refine V_bipush (v := 16) d_Model_makeWords_13 (by decide) ?_
  refine V_icmp_ge (tgt := 96) d_Model_makeWords_15 (by decide) (fun c15 => ?_) (fun c15 => ?_)
  · rw [if_pos c15] at h
    refine V_iload (i := 5) d_Model_makeWords_96 5 rfl ?_
    refine V_ldc (v := 32768) d_Model_makeWords_98 k1040 ?_
    refine V_icmp_gt (tgt := 107) d_Model_makeWords_100 (by decide) (fun c100 => ?_) (fun c100 => ?_)
    · rw [if_pos c100] at h
      refine V_iconst (v := 0) d_Model_makeWords_107 (by decide) ?_
      obtain rfl := Option.some.inj h
      exact V_zret rfl (Or.inl rfl) (by decide) (by decide) d_Model_makeWords_108
    · rw [if_neg c100] at h
      refine V_iconst (v := 1) d_Model_makeWords_103 (by decide) ?_
      refine V_goto (tgt := 108) d_Model_makeWords_104 (by decide) ?_
      obtain rfl := Option.some.inj h
      exact V_zret rfl (Or.inr rfl) (by decide) (by decide) d_Model_makeWords_108
  · rw [if_neg c15] at h
    refine V_iload_n (i := 1) d_Model_makeWords_18 rfl 1 rfl ?_
    refine V_istore (i := 7) d_Model_makeWords_19 (by decide) rfl ?_
    refine V_lv [1, 2, 3, 4, 5, 6, 7, 0] rfl ?_
    exact l_Model_makeWords_21_ok G F K11 hK11 F v0 v1 v2 v3 v4 v5 v6 v1 w _ h
def l_Model_makeWords_11 (F : Nat) : Nat → Nat → Int32 → Int32 → Int32 → Int32 → Int32 → Int32 → zW → Option (Int32 × zW)
  | 0 => fun _ _ _ _ _ _ _ _ => none
  | n + 1 => b_Model_makeWords_11 F (l_Model_makeWords_11 F n)
theorem l_Model_makeWords_11_ok (G : zG) (F : Nat) (n : Nat) :  ∀ (v0 : Nat) (v1 : Int32) (v2 : Int32) (v3 : Int32) (v4 : Int32) (v5 : Int32) (v6 : Int32) (w : zW) (r : (Int32 × zW)), l_Model_makeWords_11 F n v0 v1 v2 v3 v4 v5 v6 w = some r → zV G m_Model_makeWords 11 [(0, .ref (z0 G + v0)), (1, .int v1), (2, .int v2), (3, .int v3), (4, .int v4), (5, .int v5), (6, .int v6)] [] w 0 0 (oI r.1) r.2 := by
  induction n with
  | zero => intro v0 v1 v2 v3 v4 v5 v6 w r h; exact nomatch (show (none : Option (Int32 × zW)) = some r from h)
  | succ n ih => intro v0 v1 v2 v3 v4 v5 v6 w r h; exact b_Model_makeWords_11_ok G F (l_Model_makeWords_11 F n) ih v0 v1 v2 v3 v4 v5 v6 w r h
def b_Model_makeWords_0 (F : Nat) (v0 : Nat) (v1 : Int32) (v2 : Int32) (w : zW) : Option (Int32 × zW) := l_Model_makeWords_11 F F v0 v1 v2 (0 : Int32) (0 : Int32) (0 : Int32) (1 : Int32) w
set_option maxRecDepth 100000 in
set_option maxHeartbeats 4000000 in
theorem b_Model_makeWords_0_ok (G : zG) (F : Nat) (v0 : Nat) (v1 : Int32) (v2 : Int32) (w : zW) (r : (Int32 × zW)) (h : b_Model_makeWords_0 F v0 v1 v2 w = some r) : zV G m_Model_makeWords 0 [(0, .ref (z0 G + v0)), (1, .int v1), (2, .int v2)] [] w 0 0 (oI r.1) r.2 := by
  unfold b_Model_makeWords_0 at h
  refine V_iconst (v := 0) d_Model_makeWords_0 (by decide) ?_
  refine V_istore_n (i := 3) d_Model_makeWords_1 rfl (by decide) rfl ?_
  refine V_iconst (v := 0) d_Model_makeWords_2 (by decide) ?_
  refine V_istore (i := 4) d_Model_makeWords_3 (by decide) rfl ?_
  refine V_iconst (v := 0) d_Model_makeWords_5 (by decide) ?_
  refine V_istore (i := 5) d_Model_makeWords_6 (by decide) rfl ?_
  refine V_iconst (v := 1) d_Model_makeWords_8 (by decide) ?_
  refine V_istore (i := 6) d_Model_makeWords_9 (by decide) rfl ?_
  refine V_lv [4, 5, 6, 3, 2, 1, 0] rfl ?_
  exact l_Model_makeWords_11_ok G F F v0 v1 v2 (0 : Int32) (0 : Int32) (0 : Int32) (1 : Int32) w _ h
def f_Model_makeWords (F : Nat) (v0 : Nat) (v1 : Int32) (v2 : Int32) (w : zW) : Option (Int32 × zW) := b_Model_makeWords_0 F v0 v1 v2 w
theorem c_Model_makeWords (G : zG) (F : Nat) (v0 : Nat) (v1 : Int32) (v2 : Int32) (w : zW) (r : (Int32 × zW)) (h : f_Model_makeWords F v0 v1 v2 w = some r) : zCT G m_Model_makeWords [.ref (z0 G + v0), .int v1, .int v2] w (oI r.1) r.2 := zCT.ofV (by decide +kernel) (Or.inl ⟨kc_Model_makeWords, rfl⟩) (Nat.le_of_ble_eq_true rfl) (b_Model_makeWords_0_ok G F v0 v1 v2 w r h)
