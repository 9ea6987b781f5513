/-! ZipArray.needArchive()V -/
def m_Zip_needArchive : zM := (⟨R_Zip, "needArchive", "()V"⟩, prog_1_method_24_code, 1, none, [], { frames := 6, cells := 1, slots := 6, locals := 122 })
theorem k20 : Cond.initialized R_UOE ∈ zTb := tb_at 20 (by decide +kernel) rfl
theorem k360 : Cond.methodLink R_Zip 198 (mY m_Archive_read) ∈ zTb := tb_at 360 (by decide +kernel) rfl
theorem k361 : Cond.instanceMethod (mY m_Archive_read) ∈ zTb := tb_at 361 (by decide +kernel) rfl
theorem k362 : Cond.selects R_Archive (mY m_Archive_read) (mY m_Archive_read) ∈ zTb := tb_at 362 (by decide +kernel) rfl
theorem k742 : Cond.classLink R_Zip 209 R_UOE ∈ zTb := tb_at 742 (by decide +kernel) rfl
theorem k743 : Cond.instantiable R_UOE 6 ∈ zTb := tb_at 743 (by decide +kernel) rfl
theorem k751 : Cond.methodLink R_Zip 211 (Bundle.init0 R_UOE) ∈ zTb := tb_at 751 (by decide +kernel) rfl
theorem kc_Zip_needArchive : Cond.code (mY m_Zip_needArchive) (mC m_Zip_needArchive) (mL m_Zip_needArchive) (mT m_Zip_needArchive) ∈ zTb := tb_at 741 (by decide +kernel) rfl
theorem y_Zip_needArchive : (mY m_Zip_needArchive).cls ≠ "java/lang/invoke/MethodHandle" ∧ (mY m_Zip_needArchive).cls ≠ "java/lang/invoke/VarHandle" ∧ (parseMethodDescriptor (mY m_Zip_needArchive).desc).map (fun d => d.parameters.length) = some 0 := by decide +kernel
theorem sel_Zip_needArchive : Cond.selects R_Zip (mY m_Zip_needArchive) (mY m_Zip_needArchive) ∈ zTb := sel_at (y := mY m_Zip_needArchive) (n := 9) 31 (by decide +kernel)
theorem d_Zip_needArchive_0 : decode (mC m_Zip_needArchive) 0 = .ok (.aload_n 0, 1) := by decide +kernel
theorem d_Zip_needArchive_1 : decode (mC m_Zip_needArchive) 1 = .ok (.getfield 46, 3) := by decide +kernel
theorem d_Zip_needArchive_4 : decode (mC m_Zip_needArchive) 4 = .ok (.invokevirtual 198, 3) := by decide +kernel
theorem d_Zip_needArchive_7 : decode (mC m_Zip_needArchive) 7 = .ok (.ifCond .eq 11, 3) := by decide +kernel
theorem d_Zip_needArchive_10 : decode (mC m_Zip_needArchive) 10 = .ok (.new 209, 3) := by decide +kernel
theorem d_Zip_needArchive_13 : decode (mC m_Zip_needArchive) 13 = .ok (.dup, 1) := by decide +kernel
theorem d_Zip_needArchive_14 : decode (mC m_Zip_needArchive) 14 = .ok (.invokespecial 211, 3) := by decide +kernel
theorem d_Zip_needArchive_17 : decode (mC m_Zip_needArchive) 17 = .ok (.athrow, 1) := by decide +kernel
theorem d_Zip_needArchive_18 : decode (mC m_Zip_needArchive) 18 = .ok (.return_, 1) := by decide +kernel
def b_Zip_needArchive_0 (F : Nat) (v0 : Nat) (w : zW) : Option ((Unit ⊕ Nat) × zW) := (getR w v0 8 6).bind fun x1 => (zobj w x1 6).bind fun _ => (f_Archive_read F x1 w).bind fun r4 => if r4.1 = 0 then (some ((.inl ()), r4.2)) else (some (.inr r4.2.length, r4.2 ++ [.inr (.inr (.inr (14, [])))]))
set_option maxRecDepth 100000 in
set_option maxHeartbeats 4000000 in
theorem b_Zip_needArchive_0_ok (G : zG) (F : Nat) (v0 : Nat) (w : zW) (r : ((Unit ⊕ Nat) × zW)) (h : b_Zip_needArchive_0 F v0 w = some r) : zV G m_Zip_needArchive 0 [(0, .ref (z0 G + v0))] [] w 0 0 (oVT (z0 G) r.1) r.2 := by
  unfold b_Zip_needArchive_0 at h
  refine V_aload_n (i := 0) d_Zip_needArchive_0 rfl 0 rfl ?_
  obtain ⟨x1, e1, h⟩ := ob h
  refine V_getR (ci := 8) (k := 6) d_Zip_needArchive_1 e1 rfl (by decide) in_Zip k261 ?_
  obtain ⟨_, eo4, h⟩ := ob h
  obtain ⟨r4, e4, h⟩ := ob h
  refine V_call (v := some (.int r4.1)) (st := []) (inv_V (N := m_Archive_read) (As := []) (ci := 6) d_Zip_needArchive_4 eo4 rfl k360 k361 k362 kc_Archive_read y_Archive_read) ⟨Or.inl kc_Archive_read, k6, by decide, by decide⟩ (Nat.le_of_ble_eq_true rfl) (by decide) (by decide) (c_Archive_read G F x1 w r4 e4) ?_
  refine V_if_eq (tgt := 18) d_Zip_needArchive_7 (by decide) (fun c7 => ?_) (fun c7 => ?_)
  · rw [if_pos c7] at h
    obtain rfl := Option.some.inj h
    exact V_vret rfl (by decide) (by decide) d_Zip_needArchive_18
  · rw [if_neg c7] at h
    obtain rfl := Option.some.inj h
    exact V_throw (ci := 14) (X := R_UOE) d_Zip_needArchive_10 d_Zip_needArchive_13 d_Zip_needArchive_14 d_Zip_needArchive_17 rfl (by decide +kernel) k742 k743 k20 (at_UOE k751) (by decide) (by decide) (Nat.le_of_ble_eq_true rfl) (by decide) (by decide)
def f_Zip_needArchive (F : Nat) (v0 : Nat) (w : zW) : Option ((Unit ⊕ Nat) × zW) := b_Zip_needArchive_0 F v0 w
theorem c_Zip_needArchive (G : zG) (F : Nat) (v0 : Nat) (w : zW) (r : ((Unit ⊕ Nat) × zW)) (h : f_Zip_needArchive F v0 w = some r) : zCT G m_Zip_needArchive [.ref (z0 G + v0)] w (oVT (z0 G) r.1) r.2 := zCT.ofV (by decide +kernel) (Or.inl ⟨kc_Zip_needArchive, rfl⟩) (Nat.le_of_ble_eq_true rfl) (b_Zip_needArchive_0_ok G F v0 w r h)

/-! ZipArray.nameBytes(I)I -/
def m_Zip_nameBytes : zM := (⟨R_Zip, "nameBytes", "(I)I"⟩, prog_1_method_33_code, 3, (some .int), [], { frames := 1, cells := 0, slots := 0, locals := 20 })
theorem k760 : Cond.constant R_Zip 243 16777215 ∈ zTb := tb_at 760 (by decide +kernel) rfl
theorem k761 : Cond.constant R_Zip 244 65535 ∈ zTb := tb_at 761 (by decide +kernel) rfl
theorem k762 : Cond.methodLink R_Zip 245 (mY m_Zip_isNameByte) ∈ zTb := tb_at 762 (by decide +kernel) rfl
theorem kc_Zip_nameBytes : Cond.code (mY m_Zip_nameBytes) (mC m_Zip_nameBytes) (mL m_Zip_nameBytes) (mT m_Zip_nameBytes) ∈ zTb := tb_at 759 (by decide +kernel) rfl
theorem y_Zip_nameBytes : (mY m_Zip_nameBytes).cls ≠ "java/lang/invoke/MethodHandle" ∧ (mY m_Zip_nameBytes).cls ≠ "java/lang/invoke/VarHandle" ∧ (parseMethodDescriptor (mY m_Zip_nameBytes).desc).map (fun d => d.parameters.length) = some 1 := by decide +kernel
theorem d_Zip_nameBytes_0 : decode (mC m_Zip_nameBytes) 0 = .ok (.iload_n 0, 1) := by decide +kernel
theorem d_Zip_nameBytes_1 : decode (mC m_Zip_nameBytes) 1 = .ok (.ifCond .le 9, 3) := by decide +kernel
theorem d_Zip_nameBytes_4 : decode (mC m_Zip_nameBytes) 4 = .ok (.iload_n 0, 1) := by decide +kernel
theorem d_Zip_nameBytes_5 : decode (mC m_Zip_nameBytes) 5 = .ok (.ldc 243, 2) := by decide +kernel
theorem d_Zip_nameBytes_7 : decode (mC m_Zip_nameBytes) 7 = .ok (.if_icmp .le 5, 3) := by decide +kernel
theorem d_Zip_nameBytes_10 : decode (mC m_Zip_nameBytes) 10 = .ok (.iconst 0, 1) := by decide +kernel
theorem d_Zip_nameBytes_11 : decode (mC m_Zip_nameBytes) 11 = .ok (.ireturn, 1) := by decide +kernel
theorem d_Zip_nameBytes_12 : decode (mC m_Zip_nameBytes) 12 = .ok (.iload_n 0, 1) := by decide +kernel
theorem d_Zip_nameBytes_13 : decode (mC m_Zip_nameBytes) 13 = .ok (.ldc 244, 2) := by decide +kernel
theorem d_Zip_nameBytes_15 : decode (mC m_Zip_nameBytes) 15 = .ok (.if_icmp .le 7, 3) := by decide +kernel
theorem d_Zip_nameBytes_18 : decode (mC m_Zip_nameBytes) 18 = .ok (.iconst 3, 1) := by decide +kernel
theorem d_Zip_nameBytes_19 : decode (mC m_Zip_nameBytes) 19 = .ok (.goto 15, 3) := by decide +kernel
theorem d_Zip_nameBytes_22 : decode (mC m_Zip_nameBytes) 22 = .ok (.iload_n 0, 1) := by decide +kernel
theorem d_Zip_nameBytes_23 : decode (mC m_Zip_nameBytes) 23 = .ok (.sipush 255, 3) := by decide +kernel
theorem d_Zip_nameBytes_26 : decode (mC m_Zip_nameBytes) 26 = .ok (.if_icmp .le 7, 3) := by decide +kernel
theorem d_Zip_nameBytes_29 : decode (mC m_Zip_nameBytes) 29 = .ok (.iconst 2, 1) := by decide +kernel
theorem d_Zip_nameBytes_30 : decode (mC m_Zip_nameBytes) 30 = .ok (.goto 4, 3) := by decide +kernel
theorem d_Zip_nameBytes_33 : decode (mC m_Zip_nameBytes) 33 = .ok (.iconst 1, 1) := by decide +kernel
theorem d_Zip_nameBytes_34 : decode (mC m_Zip_nameBytes) 34 = .ok (.istore_n 1, 1) := by decide +kernel
theorem d_Zip_nameBytes_35 : decode (mC m_Zip_nameBytes) 35 = .ok (.iconst 0, 1) := by decide +kernel
theorem d_Zip_nameBytes_36 : decode (mC m_Zip_nameBytes) 36 = .ok (.istore_n 2, 1) := by decide +kernel
theorem d_Zip_nameBytes_37 : decode (mC m_Zip_nameBytes) 37 = .ok (.iload_n 2, 1) := by decide +kernel
theorem d_Zip_nameBytes_38 : decode (mC m_Zip_nameBytes) 38 = .ok (.iload_n 1, 1) := by decide +kernel
theorem d_Zip_nameBytes_39 : decode (mC m_Zip_nameBytes) 39 = .ok (.if_icmp .ge 27, 3) := by decide +kernel
theorem d_Zip_nameBytes_42 : decode (mC m_Zip_nameBytes) 42 = .ok (.iload_n 0, 1) := by decide +kernel
theorem d_Zip_nameBytes_43 : decode (mC m_Zip_nameBytes) 43 = .ok (.bipush 8, 2) := by decide +kernel
theorem d_Zip_nameBytes_45 : decode (mC m_Zip_nameBytes) 45 = .ok (.iload_n 2, 1) := by decide +kernel
theorem d_Zip_nameBytes_46 : decode (mC m_Zip_nameBytes) 46 = .ok (.imul, 1) := by decide +kernel
theorem d_Zip_nameBytes_47 : decode (mC m_Zip_nameBytes) 47 = .ok (.ishr, 1) := by decide +kernel
theorem d_Zip_nameBytes_48 : decode (mC m_Zip_nameBytes) 48 = .ok (.sipush 255, 3) := by decide +kernel
theorem d_Zip_nameBytes_51 : decode (mC m_Zip_nameBytes) 51 = .ok (.iand, 1) := by decide +kernel
theorem d_Zip_nameBytes_52 : decode (mC m_Zip_nameBytes) 52 = .ok (.invokestatic 245, 3) := by decide +kernel
theorem d_Zip_nameBytes_55 : decode (mC m_Zip_nameBytes) 55 = .ok (.ifCond .ne 5, 3) := by decide +kernel
theorem d_Zip_nameBytes_58 : decode (mC m_Zip_nameBytes) 58 = .ok (.iconst 0, 1) := by decide +kernel
theorem d_Zip_nameBytes_59 : decode (mC m_Zip_nameBytes) 59 = .ok (.ireturn, 1) := by decide +kernel
theorem d_Zip_nameBytes_60 : decode (mC m_Zip_nameBytes) 60 = .ok (.iinc 2 1, 3) := by decide +kernel
theorem d_Zip_nameBytes_63 : decode (mC m_Zip_nameBytes) 63 = .ok (.goto (-26), 3) := by decide +kernel
theorem d_Zip_nameBytes_66 : decode (mC m_Zip_nameBytes) 66 = .ok (.iload_n 1, 1) := by decide +kernel
theorem d_Zip_nameBytes_67 : decode (mC m_Zip_nameBytes) 67 = .ok (.ireturn, 1) := by decide +kernel
def b_Zip_nameBytes_37 (F : Nat) (K37 : Int32 → Int32 → Int32 → zW → Option (Int32 × zW)) (v0 : Int32) (v1 : Int32) (v2 : Int32) (w : zW) : Option (Int32 × zW) := if v1 ≤ v2 then (some (v1, w)) else ((f_Zip_isNameByte F ((v0 >>> (((8 : Int32) * v2) &&& 31)) &&& (255 : Int32)) w).bind fun r52 => if r52.1 = 0 then (some ((0 : Int32), r52.2)) else (K37 v0 v1 (v2 + (1 : Int32)) r52.2))
set_option maxRecDepth 100000 in
set_option maxHeartbeats 4000000 in
theorem b_Zip_nameBytes_37_ok (G : zG) (F : Nat) (K37 : Int32 → Int32 → Int32 → zW → Option (Int32 × zW)) (hK37 : ∀ (v0 : Int32) (v1 : Int32) (v2 : Int32) (w : zW) (r : (Int32 × zW)), K37 v0 v1 v2 w = some r → zV G m_Zip_nameBytes 37 [(0, .int v0), (1, .int v1), (2, .int v2)] [] w 0 0 (oI r.1) r.2) (v0 : Int32) (v1 : Int32) (v2 : Int32) (w : zW) (r : (Int32 × zW)) (h : b_Zip_nameBytes_37 F K37 v0 v1 v2 w = some r) : zV G m_Zip_nameBytes 37 [(0, .int v0), (1, .int v1), (2, .int v2)] [] w 0 0 (oI r.1) r.2 := by
  unfold b_Zip_nameBytes_37 at h
  refine V_iload_n (i := 2) d_Zip_nameBytes_37 rfl 2 rfl ?_
  refine V_iload_n (i := 1) d_Zip_nameBytes_38 rfl 1 rfl ?_
  refine V_icmp_ge (tgt := 66) d_Zip_nameBytes_39 (by decide) (fun c39 => ?_) (fun c39 => ?_)
  · rw [if_pos c39] at h
    refine V_iload_n (i := 1) d_Zip_nameBytes_66 rfl 1 rfl ?_
    obtain rfl := Option.some.inj h
    exact V_iret rfl (by decide) (by decide) d_Zip_nameBytes_67
  · rw [if_neg c39] at h
    refine V_iload_n (i := 0) d_Zip_nameBytes_42 rfl 0 rfl ?_
    refine V_bipush (v := 8) d_Zip_nameBytes_43 (by decide) ?_
    refine V_iload_n (i := 2) d_Zip_nameBytes_45 rfl 2 rfl ?_
    refine V_imul d_Zip_nameBytes_46 ?_
    refine V_ishr d_Zip_nameBytes_47 ?_
    refine V_sipush (v := 255) d_Zip_nameBytes_48 (by decide) ?_
    refine V_iand d_Zip_nameBytes_51 ?_
    obtain ⟨r52, e52, h⟩ := ob h
    refine V_call (v := some (.int r52.1)) (st := []) (inv_S (N := m_Zip_isNameByte) (As := [.int ((v0 >>> (((8 : Int32) * v2) &&& 31)) &&& (255 : Int32))]) d_Zip_nameBytes_52 k762 k408 k1 (Or.inl kc_Zip_isNameByte) y_Zip_isNameByte) ⟨Or.inl kc_Zip_isNameByte, k1, by decide, by decide⟩ (Nat.le_of_ble_eq_true rfl) (by decide) (by decide) (c_Zip_isNameByte G F ((v0 >>> (((8 : Int32) * v2) &&& 31)) &&& (255 : Int32)) w r52 e52) ?_
    refine V_if_ne (tgt := 60) d_Zip_nameBytes_55 (by decide) (fun c55 => ?_) (fun c55 => ?_)
    · rw [if_neg c55] at h
      refine V_iinc (i := 2) (v := (v2 + (1 : Int32))) d_Zip_nameBytes_60 2 rfl (congrArg (fun y => v2 + y) (by decide : Int32.ofInt (1) = (1 : Int32))) (by decide) rfl ?_
      refine V_goto (tgt := 37) d_Zip_nameBytes_63 (by decide) ?_
      refine V_lv [1, 2, 0] rfl ?_
      exact hK37 v0 v1 (v2 + (1 : Int32)) r52.2 _ h
    · rw [if_pos c55] at h
      refine V_iconst (v := 0) d_Zip_nameBytes_58 (by decide) ?_
      obtain rfl := Option.some.inj h
      exact V_iret rfl (by decide) (by decide) d_Zip_nameBytes_59
def l_Zip_nameBytes_37 (F : Nat) : Nat → Int32 → Int32 → Int32 → zW → Option (Int32 × zW)
  | 0 => fun _ _ _ _ => none
  | n + 1 => b_Zip_nameBytes_37 F (l_Zip_nameBytes_37 F n)
theorem l_Zip_nameBytes_37_ok (G : zG) (F : Nat) (n : Nat) :  ∀ (v0 : Int32) (v1 : Int32) (v2 : Int32) (w : zW) (r : (Int32 × zW)), l_Zip_nameBytes_37 F n v0 v1 v2 w = some r → zV G m_Zip_nameBytes 37 [(0, .int v0), (1, .int v1), (2, .int v2)] [] w 0 0 (oI r.1) r.2 := by
  induction n with
  | zero => intro v0 v1 v2 w r h; exact nomatch (show (none : Option (Int32 × zW)) = some r from h)
  | succ n ih => intro v0 v1 v2 w r h; exact b_Zip_nameBytes_37_ok G F (l_Zip_nameBytes_37 F n) ih v0 v1 v2 w r h
def b_Zip_nameBytes_34 (F : Nat) (v0 : Int32) (s0 : Int32) (w : zW) : Option (Int32 × zW) := l_Zip_nameBytes_37 F F v0 s0 (0 : Int32) w
set_option maxRecDepth 100000 in
set_option maxHeartbeats 4000000 in
theorem b_Zip_nameBytes_34_ok (G : zG) (F : Nat) (v0 : Int32) (s0 : Int32) (w : zW) (r : (Int32 × zW)) (h : b_Zip_nameBytes_34 F v0 s0 w = some r) : zV G m_Zip_nameBytes 34 [(0, .int v0)] [.int s0] w 0 0 (oI r.1) r.2 := by
  unfold b_Zip_nameBytes_34 at h
  refine V_istore_n (i := 1) d_Zip_nameBytes_34 rfl (by decide) rfl ?_
  refine V_iconst (v := 0) d_Zip_nameBytes_35 (by decide) ?_
  refine V_istore_n (i := 2) d_Zip_nameBytes_36 rfl (by decide) rfl ?_
  refine V_lv [2, 1, 0] rfl ?_
  exact l_Zip_nameBytes_37_ok G F F v0 s0 (0 : Int32) w _ h
def b_Zip_nameBytes_10 (F : Nat) (w : zW) : Option (Int32 × zW) := some ((0 : Int32), w)
set_option maxRecDepth 100000 in
set_option maxHeartbeats 4000000 in
theorem b_Zip_nameBytes_10_ok (G : zG) (F : Nat) (w : zW) (r : (Int32 × zW)) (h : b_Zip_nameBytes_10 F w = some r) : zV G m_Zip_nameBytes 10 [] [] w 0 0 (oI r.1) r.2 := by
  unfold b_Zip_nameBytes_10 at h
  refine V_iconst (v := 0) d_Zip_nameBytes_10 (by decide) ?_
  obtain rfl := Option.some.inj h
  exact V_iret rfl (by decide) (by decide) d_Zip_nameBytes_11
def b_Zip_nameBytes_0 (F : Nat) (v0 : Int32) (w : zW) : Option (Int32 × zW) := if v0 ≤ 0 then (b_Zip_nameBytes_10 F w) else (if v0 ≤ (16777215 : Int32) then (if v0 ≤ (65535 : Int32) then (if v0 ≤ (255 : Int32) then (b_Zip_nameBytes_34 F v0 (1 : Int32) w) else (b_Zip_nameBytes_34 F v0 (2 : Int32) w)) else (b_Zip_nameBytes_34 F v0 (3 : Int32) w)) else (b_Zip_nameBytes_10 F w))
set_option maxRecDepth 100000 in
set_option maxHeartbeats 4000000 in
theorem b_Zip_nameBytes_0_ok (G : zG) (F : Nat) (v0 : Int32) (w : zW) (r : (Int32 × zW)) (h : b_Zip_nameBytes_0 F v0 w = some r) : zV G m_Zip_nameBytes 0 [(0, .int v0)] [] w 0 0 (oI r.1) r.2 := by
  unfold b_Zip_nameBytes_0 at h
  refine V_iload_n (i := 0) d_Zip_nameBytes_0 rfl 0 rfl ?_
  refine V_if_le (tgt := 10) d_Zip_nameBytes_1 (by decide) (fun c1 => ?_) (fun c1 => ?_)
  · rw [if_pos c1] at h
    refine V_lv [] rfl ?_
    exact b_Zip_nameBytes_10_ok G F w _ h
  · rw [if_neg c1] at h
    refine V_iload_n (i := 0) d_Zip_nameBytes_4 rfl 0 rfl ?_
    refine V_ldc (v := 16777215) d_Zip_nameBytes_5 k760 ?_
    refine V_icmp_le (tgt := 12) d_Zip_nameBytes_7 (by decide) (fun c7 => ?_) (fun c7 => ?_)
    · rw [if_pos c7] at h
      refine V_iload_n (i := 0) d_Zip_nameBytes_12 rfl 0 rfl ?_
      refine V_ldc (v := 65535) d_Zip_nameBytes_13 k761 ?_
      refine V_icmp_le (tgt := 22) d_Zip_nameBytes_15 (by decide) (fun c15 => ?_) (fun c15 => ?_)
      · rw [if_pos c15] at h
        refine V_iload_n (i := 0) d_Zip_nameBytes_22 rfl 0 rfl ?_
        refine V_sipush (v := 255) d_Zip_nameBytes_23 (by decide) ?_
        refine V_icmp_le (tgt := 33) d_Zip_nameBytes_26 (by decide) (fun c26 => ?_) (fun c26 => ?_)
        · rw [if_pos c26] at h
          refine V_iconst (v := 1) d_Zip_nameBytes_33 (by decide) ?_
          exact b_Zip_nameBytes_34_ok G F v0 (1 : Int32) w _ h
        · rw [if_neg c26] at h
          refine V_iconst (v := 2) d_Zip_nameBytes_29 (by decide) ?_
          refine V_goto (tgt := 34) d_Zip_nameBytes_30 (by decide) ?_
          exact b_Zip_nameBytes_34_ok G F v0 (2 : Int32) w _ h
      · rw [if_neg c15] at h
        refine V_iconst (v := 3) d_Zip_nameBytes_18 (by decide) ?_
        refine V_goto (tgt := 34) d_Zip_nameBytes_19 (by decide) ?_
        exact b_Zip_nameBytes_34_ok G F v0 (3 : Int32) w _ h
    · rw [if_neg c7] at h
      refine V_lv [] rfl ?_
      exact b_Zip_nameBytes_10_ok G F w _ h
def f_Zip_nameBytes (F : Nat) (v0 : Int32) (w : zW) : Option (Int32 × zW) := b_Zip_nameBytes_0 F v0 w
theorem c_Zip_nameBytes (G : zG) (F : Nat) (v0 : Int32) (w : zW) (r : (Int32 × zW)) (h : f_Zip_nameBytes F v0 w = some r) : zCT G m_Zip_nameBytes [.int v0] w (oI r.1) r.2 := zCT.ofV (by decide +kernel) (Or.inl ⟨kc_Zip_nameBytes, rfl⟩) (Nat.le_of_ble_eq_true rfl) (b_Zip_nameBytes_0_ok G F v0 w r h)

/-! ZipArray.describeFresh(IIZ)V -/
def m_Zip_describeFresh : zM := (⟨R_Zip, "describeFresh", "(IIZ)V"⟩, prog_1_method_25_code, 4, none, [], { frames := 1, cells := 0, slots := 0, locals := 23 })
theorem k170 : Cond.fieldLink R_Zip 180 (T_Entry 0).1 (T_Entry 0).2.1 (T_Entry 0).2.2.1 ∈ zTb := tb_at 170 (by decide +kernel) rfl
theorem k173 : Cond.fieldLink R_Zip 183 (T_Entry 1).1 (T_Entry 1).2.1 (T_Entry 1).2.2.1 ∈ zTb := tb_at 173 (by decide +kernel) rfl
theorem k176 : Cond.fieldLink R_Zip 186 (T_Entry 2).1 (T_Entry 2).2.1 (T_Entry 2).2.2.1 ∈ zTb := tb_at 176 (by decide +kernel) rfl
theorem k179 : Cond.fieldLink R_Zip 189 (T_Entry 3).1 (T_Entry 3).2.1 (T_Entry 3).2.2.1 ∈ zTb := tb_at 179 (by decide +kernel) rfl
theorem k182 : Cond.fieldLink R_Zip 191 (T_Entry 4).1 (T_Entry 4).2.1 (T_Entry 4).2.2.1 ∈ zTb := tb_at 182 (by decide +kernel) rfl
theorem k185 : Cond.fieldLink R_Zip 194 (T_Entry 5).1 (T_Entry 5).2.1 (T_Entry 5).2.2.1 ∈ zTb := tb_at 185 (by decide +kernel) rfl
theorem k188 : Cond.fieldLink R_Zip 195 (T_Entry 6).1 (T_Entry 6).2.1 (T_Entry 6).2.2.1 ∈ zTb := tb_at 188 (by decide +kernel) rfl
theorem k219 : Cond.fieldLink R_Zip 152 (T_Archive 4).1 (T_Archive 4).2.1 (T_Archive 4).2.2.1 ∈ zTb := tb_at 219 (by decide +kernel) rfl
theorem kc_Zip_describeFresh : Cond.code (mY m_Zip_describeFresh) (mC m_Zip_describeFresh) (mL m_Zip_describeFresh) (mT m_Zip_describeFresh) ∈ zTb := tb_at 768 (by decide +kernel) rfl
theorem y_Zip_describeFresh : (mY m_Zip_describeFresh).cls ≠ "java/lang/invoke/MethodHandle" ∧ (mY m_Zip_describeFresh).cls ≠ "java/lang/invoke/VarHandle" ∧ (parseMethodDescriptor (mY m_Zip_describeFresh).desc).map (fun d => d.parameters.length) = some 3 := by decide +kernel
theorem sel_Zip_describeFresh : Cond.selects R_Zip (mY m_Zip_describeFresh) (mY m_Zip_describeFresh) ∈ zTb := sel_at (y := mY m_Zip_describeFresh) (n := 9) 32 (by decide +kernel)
theorem d_Zip_describeFresh_0 : decode (mC m_Zip_describeFresh) 0 = .ok (.aload_n 0, 1) := by decide +kernel
theorem d_Zip_describeFresh_1 : decode (mC m_Zip_describeFresh) 1 = .ok (.getfield 60, 3) := by decide +kernel
theorem d_Zip_describeFresh_4 : decode (mC m_Zip_describeFresh) 4 = .ok (.iload_n 1, 1) := by decide +kernel
theorem d_Zip_describeFresh_5 : decode (mC m_Zip_describeFresh) 5 = .ok (.putfield 180, 3) := by decide +kernel
theorem d_Zip_describeFresh_8 : decode (mC m_Zip_describeFresh) 8 = .ok (.aload_n 0, 1) := by decide +kernel
theorem d_Zip_describeFresh_9 : decode (mC m_Zip_describeFresh) 9 = .ok (.getfield 60, 3) := by decide +kernel
theorem d_Zip_describeFresh_12 : decode (mC m_Zip_describeFresh) 12 = .ok (.iload_n 3, 1) := by decide +kernel
theorem d_Zip_describeFresh_13 : decode (mC m_Zip_describeFresh) 13 = .ok (.ifCond .eq 8, 3) := by decide +kernel
theorem d_Zip_describeFresh_16 : decode (mC m_Zip_describeFresh) 16 = .ok (.bipush 8, 2) := by decide +kernel
theorem d_Zip_describeFresh_18 : decode (mC m_Zip_describeFresh) 18 = .ok (.goto 4, 3) := by decide +kernel
theorem d_Zip_describeFresh_21 : decode (mC m_Zip_describeFresh) 21 = .ok (.iconst 0, 1) := by decide +kernel
theorem d_Zip_describeFresh_22 : decode (mC m_Zip_describeFresh) 22 = .ok (.putfield 183, 3) := by decide +kernel
theorem d_Zip_describeFresh_25 : decode (mC m_Zip_describeFresh) 25 = .ok (.aload_n 0, 1) := by decide +kernel
theorem d_Zip_describeFresh_26 : decode (mC m_Zip_describeFresh) 26 = .ok (.getfield 60, 3) := by decide +kernel
theorem d_Zip_describeFresh_29 : decode (mC m_Zip_describeFresh) 29 = .ok (.iload_n 2, 1) := by decide +kernel
theorem d_Zip_describeFresh_30 : decode (mC m_Zip_describeFresh) 30 = .ok (.putfield 186, 3) := by decide +kernel
theorem d_Zip_describeFresh_33 : decode (mC m_Zip_describeFresh) 33 = .ok (.aload_n 0, 1) := by decide +kernel
theorem d_Zip_describeFresh_34 : decode (mC m_Zip_describeFresh) 34 = .ok (.getfield 60, 3) := by decide +kernel
theorem d_Zip_describeFresh_37 : decode (mC m_Zip_describeFresh) 37 = .ok (.aload_n 0, 1) := by decide +kernel
theorem d_Zip_describeFresh_38 : decode (mC m_Zip_describeFresh) 38 = .ok (.getfield 14, 3) := by decide +kernel
theorem d_Zip_describeFresh_41 : decode (mC m_Zip_describeFresh) 41 = .ok (.invokevirtual 101, 3) := by decide +kernel
theorem d_Zip_describeFresh_44 : decode (mC m_Zip_describeFresh) 44 = .ok (.putfield 189, 3) := by decide +kernel
theorem d_Zip_describeFresh_47 : decode (mC m_Zip_describeFresh) 47 = .ok (.aload_n 0, 1) := by decide +kernel
theorem d_Zip_describeFresh_48 : decode (mC m_Zip_describeFresh) 48 = .ok (.getfield 60, 3) := by decide +kernel
theorem d_Zip_describeFresh_51 : decode (mC m_Zip_describeFresh) 51 = .ok (.aload_n 0, 1) := by decide +kernel
theorem d_Zip_describeFresh_52 : decode (mC m_Zip_describeFresh) 52 = .ok (.getfield 14, 3) := by decide +kernel
theorem d_Zip_describeFresh_55 : decode (mC m_Zip_describeFresh) 55 = .ok (.getfield 64, 3) := by decide +kernel
theorem d_Zip_describeFresh_58 : decode (mC m_Zip_describeFresh) 58 = .ok (.putfield 194, 3) := by decide +kernel
theorem d_Zip_describeFresh_61 : decode (mC m_Zip_describeFresh) 61 = .ok (.aload_n 0, 1) := by decide +kernel
theorem d_Zip_describeFresh_62 : decode (mC m_Zip_describeFresh) 62 = .ok (.getfield 60, 3) := by decide +kernel
theorem d_Zip_describeFresh_65 : decode (mC m_Zip_describeFresh) 65 = .ok (.iload_n 2, 1) := by decide +kernel
theorem d_Zip_describeFresh_66 : decode (mC m_Zip_describeFresh) 66 = .ok (.bipush 8, 2) := by decide +kernel
theorem d_Zip_describeFresh_68 : decode (mC m_Zip_describeFresh) 68 = .ok (.if_icmp .ne 13, 3) := by decide +kernel
theorem d_Zip_describeFresh_71 : decode (mC m_Zip_describeFresh) 71 = .ok (.aload_n 0, 1) := by decide +kernel
theorem d_Zip_describeFresh_72 : decode (mC m_Zip_describeFresh) 72 = .ok (.getfield 21, 3) := by decide +kernel
theorem d_Zip_describeFresh_75 : decode (mC m_Zip_describeFresh) 75 = .ok (.getfield 64, 3) := by decide +kernel
theorem d_Zip_describeFresh_78 : decode (mC m_Zip_describeFresh) 78 = .ok (.goto 10, 3) := by decide +kernel
theorem d_Zip_describeFresh_81 : decode (mC m_Zip_describeFresh) 81 = .ok (.aload_n 0, 1) := by decide +kernel
theorem d_Zip_describeFresh_82 : decode (mC m_Zip_describeFresh) 82 = .ok (.getfield 14, 3) := by decide +kernel
theorem d_Zip_describeFresh_85 : decode (mC m_Zip_describeFresh) 85 = .ok (.getfield 64, 3) := by decide +kernel
theorem d_Zip_describeFresh_88 : decode (mC m_Zip_describeFresh) 88 = .ok (.putfield 191, 3) := by decide +kernel
theorem d_Zip_describeFresh_91 : decode (mC m_Zip_describeFresh) 91 = .ok (.aload_n 0, 1) := by decide +kernel
theorem d_Zip_describeFresh_92 : decode (mC m_Zip_describeFresh) 92 = .ok (.getfield 60, 3) := by decide +kernel
theorem d_Zip_describeFresh_95 : decode (mC m_Zip_describeFresh) 95 = .ok (.aload_n 0, 1) := by decide +kernel
theorem d_Zip_describeFresh_96 : decode (mC m_Zip_describeFresh) 96 = .ok (.getfield 46, 3) := by decide +kernel
theorem d_Zip_describeFresh_99 : decode (mC m_Zip_describeFresh) 99 = .ok (.getfield 152, 3) := by decide +kernel
theorem d_Zip_describeFresh_102 : decode (mC m_Zip_describeFresh) 102 = .ok (.putfield 195, 3) := by decide +kernel
theorem d_Zip_describeFresh_105 : decode (mC m_Zip_describeFresh) 105 = .ok (.return_, 1) := by decide +kernel
def b_Zip_describeFresh_88 (F : Nat) (v0 : Nat) (s0 : Nat) (s1 : Int32) (w : zW) : Option (Unit × zW) := (putI w s0 1 4 s1).bind fun w88 => (getR w88 v0 8 8).bind fun x92 => (getR w88 v0 8 6).bind fun x96 => (getI w88 x96 6 4).bind fun x99 => (putI w88 x92 1 6 x99).bind fun w102 => some ((), w102)
set_option maxRecDepth 100000 in
set_option maxHeartbeats 4000000 in
theorem b_Zip_describeFresh_88_ok (G : zG) (F : Nat) (v0 : Nat) (s0 : Nat) (s1 : Int32) (w : zW) (r : (Unit × zW)) (h : b_Zip_describeFresh_88 F v0 s0 s1 w = some r) : zV G m_Zip_describeFresh 88 [(0, .ref (z0 G + v0))] [.int s1, .ref (z0 G + s0)] w 0 0 (oV r.1) r.2 := by
  unfold b_Zip_describeFresh_88 at h
  obtain ⟨w88, e88, h⟩ := ob h
  refine V_putI (ci := 1) (k := 4) t_Entry d_Zip_describeFresh_88 e88 rfl (by decide) in_Entry k182 ty_Entry nm_Entry rfl (Or.inl rfl) ?_
  refine V_aload_n (i := 0) d_Zip_describeFresh_91 rfl 0 rfl ?_
  obtain ⟨x92, e92, h⟩ := ob h
  refine V_getR (ci := 8) (k := 8) d_Zip_describeFresh_92 e92 rfl (by decide) in_Zip k263 ?_
  refine V_aload_n (i := 0) d_Zip_describeFresh_95 rfl 0 rfl ?_
  obtain ⟨x96, e96, h⟩ := ob h
  refine V_getR (ci := 8) (k := 6) d_Zip_describeFresh_96 e96 rfl (by decide) in_Zip k261 ?_
  obtain ⟨x99, e99, h⟩ := ob h
  refine V_getI (ci := 6) (k := 4) d_Zip_describeFresh_99 e99 rfl (by decide) in_Archive k219 ?_
  obtain ⟨w102, e102, h⟩ := ob h
  refine V_putI (ci := 1) (k := 6) t_Entry d_Zip_describeFresh_102 e102 rfl (by decide) in_Entry k188 ty_Entry nm_Entry rfl (Or.inl rfl) ?_
  obtain rfl := Option.some.inj h
  exact V_vret rfl (by decide) (by decide) d_Zip_describeFresh_105
def b_Zip_describeFresh_22 (F : Nat) (v0 : Nat) (v2 : Int32) (s0 : Nat) (s1 : Int32) (w : zW) : Option (Unit × zW) := (putI w s0 1 1 s1).bind fun w22 => (getR w22 v0 8 8).bind fun x26 => (putI w22 x26 1 2 v2).bind fun w30 => (getR w30 v0 8 8).bind fun x34 => (getR w30 v0 8 0).bind fun x38 => (zobj w30 x38 0).bind fun _ => (f_Row_checksum F x38 w30).bind fun r41 => (putI r41.2 x34 1 3 r41.1).bind fun w44 => (getR w44 v0 8 8).bind fun x48 => (getR w44 v0 8 0).bind fun x52 => (getI w44 x52 0 1).bind fun x55 => (putI w44 x48 1 5 x55).bind fun w58 => (getR w58 v0 8 8).bind fun x62 => if v2 = (8 : Int32) then ((getR w58 v0 8 2).bind fun x72 => (getI w58 x72 0 1).bind fun x75 => b_Zip_describeFresh_88 F v0 x62 x75 w58) else ((getR w58 v0 8 0).bind fun x82 => (getI w58 x82 0 1).bind fun x85 => b_Zip_describeFresh_88 F v0 x62 x85 w58)
set_option maxRecDepth 100000 in
set_option maxHeartbeats 4000000 in
theorem b_Zip_describeFresh_22_ok (G : zG) (F : Nat) (v0 : Nat) (v2 : Int32) (s0 : Nat) (s1 : Int32) (w : zW) (r : (Unit × zW)) (h : b_Zip_describeFresh_22 F v0 v2 s0 s1 w = some r) : zV G m_Zip_describeFresh 22 [(0, .ref (z0 G + v0)), (2, .int v2)] [.int s1, .ref (z0 G + s0)] w 0 0 (oV r.1) r.2 := by
  unfold b_Zip_describeFresh_22 at h
  obtain ⟨w22, e22, h⟩ := ob h
  refine V_putI (ci := 1) (k := 1) t_Entry d_Zip_describeFresh_22 e22 rfl (by decide) in_Entry k173 ty_Entry nm_Entry rfl (Or.inl rfl) ?_
  refine V_aload_n (i := 0) d_Zip_describeFresh_25 rfl 0 rfl ?_
  obtain ⟨x26, e26, h⟩ := ob h
  refine V_getR (ci := 8) (k := 8) d_Zip_describeFresh_26 e26 rfl (by decide) in_Zip k263 ?_
  refine V_iload_n (i := 2) d_Zip_describeFresh_29 rfl 1 rfl ?_
  obtain ⟨w30, e30, h⟩ := ob h
  refine V_putI (ci := 1) (k := 2) t_Entry d_Zip_describeFresh_30 e30 rfl (by decide) in_Entry k176 ty_Entry nm_Entry rfl (Or.inl rfl) ?_
  refine V_aload_n (i := 0) d_Zip_describeFresh_33 rfl 0 rfl ?_
  obtain ⟨x34, e34, h⟩ := ob h
  refine V_getR (ci := 8) (k := 8) d_Zip_describeFresh_34 e34 rfl (by decide) in_Zip k263 ?_
  refine V_aload_n (i := 0) d_Zip_describeFresh_37 rfl 0 rfl ?_
  obtain ⟨x38, e38, h⟩ := ob h
  refine V_getR (ci := 8) (k := 0) d_Zip_describeFresh_38 e38 rfl (by decide) in_Zip k255 ?_
  obtain ⟨_, eo41, h⟩ := ob h
  obtain ⟨r41, e41, h⟩ := ob h
  refine V_call (v := some (.int r41.1)) (st := [.ref (z0 G + x34)]) (inv_V (N := m_Row_checksum) (As := []) (ci := 0) d_Zip_describeFresh_41 eo41 rfl k299 k300 k301 kc_Row_checksum y_Row_checksum) ⟨Or.inl kc_Row_checksum, k2, by decide, by decide⟩ (Nat.le_of_ble_eq_true rfl) (by decide) (by decide) (c_Row_checksum G F x38 w30 r41 e41) ?_
  obtain ⟨w44, e44, h⟩ := ob h
  refine V_putI (ci := 1) (k := 3) t_Entry d_Zip_describeFresh_44 e44 rfl (by decide) in_Entry k179 ty_Entry nm_Entry rfl (Or.inl rfl) ?_
  refine V_aload_n (i := 0) d_Zip_describeFresh_47 rfl 0 rfl ?_
  obtain ⟨x48, e48, h⟩ := ob h
  refine V_getR (ci := 8) (k := 8) d_Zip_describeFresh_48 e48 rfl (by decide) in_Zip k263 ?_
  refine V_aload_n (i := 0) d_Zip_describeFresh_51 rfl 0 rfl ?_
  obtain ⟨x52, e52, h⟩ := ob h
  refine V_getR (ci := 8) (k := 0) d_Zip_describeFresh_52 e52 rfl (by decide) in_Zip k255 ?_
  obtain ⟨x55, e55, h⟩ := ob h
  refine V_getI (ci := 0) (k := 1) d_Zip_describeFresh_55 e55 rfl (by decide) in_Row k42 ?_
  obtain ⟨w58, e58, h⟩ := ob h
  refine V_putI (ci := 1) (k := 5) t_Entry d_Zip_describeFresh_58 e58 rfl (by decide) in_Entry k185 ty_Entry nm_Entry rfl (Or.inl rfl) ?_
  refine V_aload_n (i := 0) d_Zip_describeFresh_61 rfl 0 rfl ?_
  obtain ⟨x62, e62, h⟩ := ob h
  refine V_getR (ci := 8) (k := 8) d_Zip_describeFresh_62 e62 rfl (by decide) in_Zip k263 ?_
  refine V_iload_n (i := 2) d_Zip_describeFresh_65 rfl 1 rfl ?_
  refine V_bipush (v := 8) d_Zip_describeFresh_66 (by decide) ?_
  refine V_icmp_ne (tgt := 81) d_Zip_describeFresh_68 (by decide) (fun c68 => ?_) (fun c68 => ?_)
  · rw [if_neg c68] at h
    refine V_aload_n (i := 0) d_Zip_describeFresh_81 rfl 0 rfl ?_
    obtain ⟨x82, e82, h⟩ := ob h
    refine V_getR (ci := 8) (k := 0) d_Zip_describeFresh_82 e82 rfl (by decide) in_Zip k255 ?_
    obtain ⟨x85, e85, h⟩ := ob h
    refine V_getI (ci := 0) (k := 1) d_Zip_describeFresh_85 e85 rfl (by decide) in_Row k42 ?_
    refine V_lv [0] rfl ?_
    exact b_Zip_describeFresh_88_ok G F v0 x62 x85 w58 _ h
  · rw [if_pos c68] at h
    refine V_aload_n (i := 0) d_Zip_describeFresh_71 rfl 0 rfl ?_
    obtain ⟨x72, e72, h⟩ := ob h
    refine V_getR (ci := 8) (k := 2) d_Zip_describeFresh_72 e72 rfl (by decide) in_Zip k257 ?_
    obtain ⟨x75, e75, h⟩ := ob h
    refine V_getI (ci := 0) (k := 1) d_Zip_describeFresh_75 e75 rfl (by decide) in_Row k42 ?_
    refine V_goto (tgt := 88) d_Zip_describeFresh_78 (by decide) ?_
    refine V_lv [0] rfl ?_
    exact b_Zip_describeFresh_88_ok G F v0 x62 x75 w58 _ h
def b_Zip_describeFresh_0 (F : Nat) (v0 : Nat) (v1 : Int32) (v2 : Int32) (v3 : Int32) (w : zW) : Option (Unit × zW) := (getR w v0 8 8).bind fun x1 => (putI w x1 1 0 v1).bind fun w5 => (getR w5 v0 8 8).bind fun x9 => if v3 = 0 then (b_Zip_describeFresh_22 F v0 v2 x9 (0 : Int32) w5) else (b_Zip_describeFresh_22 F v0 v2 x9 (8 : Int32) w5)
set_option maxRecDepth 100000 in
set_option maxHeartbeats 4000000 in
theorem b_Zip_describeFresh_0_ok (G : zG) (F : Nat) (v0 : Nat) (v1 : Int32) (v2 : Int32) (v3 : Int32) (w : zW) (r : (Unit × zW)) (h : b_Zip_describeFresh_0 F v0 v1 v2 v3 w = some r) : zV G m_Zip_describeFresh 0 [(0, .ref (z0 G + v0)), (1, .int v1), (2, .int v2), (3, .int v3)] [] w 0 0 (oV r.1) r.2 := by
  unfold b_Zip_describeFresh_0 at h
  refine V_aload_n (i := 0) d_Zip_describeFresh_0 rfl 0 rfl ?_
  obtain ⟨x1, e1, h⟩ := ob h
  refine V_getR (ci := 8) (k := 8) d_Zip_describeFresh_1 e1 rfl (by decide) in_Zip k263 ?_
  refine V_iload_n (i := 1) d_Zip_describeFresh_4 rfl 1 rfl ?_
  obtain ⟨w5, e5, h⟩ := ob h
  refine V_putI (ci := 1) (k := 0) t_Entry d_Zip_describeFresh_5 e5 rfl (by decide) in_Entry k170 ty_Entry nm_Entry rfl (Or.inl rfl) ?_
  refine V_aload_n (i := 0) d_Zip_describeFresh_8 rfl 0 rfl ?_
  obtain ⟨x9, e9, h⟩ := ob h
  refine V_getR (ci := 8) (k := 8) d_Zip_describeFresh_9 e9 rfl (by decide) in_Zip k263 ?_
  refine V_iload_n (i := 3) d_Zip_describeFresh_12 rfl 3 rfl ?_
  refine V_if_eq (tgt := 21) d_Zip_describeFresh_13 (by decide) (fun c13 => ?_) (fun c13 => ?_)
  · rw [if_pos c13] at h
    refine V_iconst (v := 0) d_Zip_describeFresh_21 (by decide) ?_
    refine V_lv [0, 2] rfl ?_
    exact b_Zip_describeFresh_22_ok G F v0 v2 x9 (0 : Int32) w5 _ h
  · rw [if_neg c13] at h
    refine V_bipush (v := 8) d_Zip_describeFresh_16 (by decide) ?_
    refine V_goto (tgt := 22) d_Zip_describeFresh_18 (by decide) ?_
    refine V_lv [0, 2] rfl ?_
    exact b_Zip_describeFresh_22_ok G F v0 v2 x9 (8 : Int32) w5 _ h
def f_Zip_describeFresh (F : Nat) (v0 : Nat) (v1 : Int32) (v2 : Int32) (v3 : Int32) (w : zW) : Option (Unit × zW) := b_Zip_describeFresh_0 F v0 v1 v2 v3 w
theorem c_Zip_describeFresh (G : zG) (F : Nat) (v0 : Nat) (v1 : Int32) (v2 : Int32) (v3 : Int32) (w : zW) (r : (Unit × zW)) (h : f_Zip_describeFresh F v0 v1 v2 v3 w = some r) : zCT G m_Zip_describeFresh [.ref (z0 G + v0), .int v1, .int v2, .int v3] w (oV r.1) r.2 := zCT.ofV (by decide +kernel) (Or.inl ⟨kc_Zip_describeFresh, rfl⟩) (Nat.le_of_ble_eq_true rfl) (b_Zip_describeFresh_0_ok G F v0 v1 v2 v3 w r h)

/-! ZipArray$Writer.isWide(LZipArray$Entry;)Z -/
def m_Writer_isWide : zM := (⟨R_Writer, "isWide", "(LZipArray$Entry;)Z"⟩, prog_9_method_3_code, 2, (some .boolean), [], { frames := 0, cells := 0, slots := 0, locals := 0 })
theorem k171 : Cond.fieldLink R_Writer 28 (T_Entry 1).1 (T_Entry 1).2.1 (T_Entry 1).2.2.1 ∈ zTb := tb_at 171 (by decide +kernel) rfl
theorem kc_Writer_isWide : Cond.code (mY m_Writer_isWide) (mC m_Writer_isWide) (mL m_Writer_isWide) (mT m_Writer_isWide) ∈ zTb := tb_at 777 (by decide +kernel) rfl
theorem y_Writer_isWide : (mY m_Writer_isWide).cls ≠ "java/lang/invoke/MethodHandle" ∧ (mY m_Writer_isWide).cls ≠ "java/lang/invoke/VarHandle" ∧ (parseMethodDescriptor (mY m_Writer_isWide).desc).map (fun d => d.parameters.length) = some 1 := by decide +kernel
theorem sel_Writer_isWide : Cond.selects R_Writer (mY m_Writer_isWide) (mY m_Writer_isWide) ∈ zTb := sel_at (y := mY m_Writer_isWide) (n := 2) 33 (by decide +kernel)
theorem d_Writer_isWide_0 : decode (mC m_Writer_isWide) 0 = .ok (.aload_n 0, 1) := by decide +kernel
theorem d_Writer_isWide_1 : decode (mC m_Writer_isWide) 1 = .ok (.getfield 24, 3) := by decide +kernel
theorem d_Writer_isWide_4 : decode (mC m_Writer_isWide) 4 = .ok (.ifCond .eq 16, 3) := by decide +kernel
theorem d_Writer_isWide_7 : decode (mC m_Writer_isWide) 7 = .ok (.aload_n 1, 1) := by decide +kernel
theorem d_Writer_isWide_8 : decode (mC m_Writer_isWide) 8 = .ok (.getfield 28, 3) := by decide +kernel
theorem d_Writer_isWide_11 : decode (mC m_Writer_isWide) 11 = .ok (.bipush 8, 2) := by decide +kernel
theorem d_Writer_isWide_13 : decode (mC m_Writer_isWide) 13 = .ok (.if_icmp .eq 7, 3) := by decide +kernel
theorem d_Writer_isWide_16 : decode (mC m_Writer_isWide) 16 = .ok (.iconst 1, 1) := by decide +kernel
theorem d_Writer_isWide_17 : decode (mC m_Writer_isWide) 17 = .ok (.goto 4, 3) := by decide +kernel
theorem d_Writer_isWide_20 : decode (mC m_Writer_isWide) 20 = .ok (.iconst 0, 1) := by decide +kernel
theorem d_Writer_isWide_21 : decode (mC m_Writer_isWide) 21 = .ok (.ireturn, 1) := by decide +kernel
def b_Writer_isWide_20 (F : Nat) (w : zW) : Option (Int32 × zW) := some ((0 : Int32), w)
set_option maxRecDepth 100000 in
set_option maxHeartbeats 4000000 in
theorem b_Writer_isWide_20_ok (G : zG) (F : Nat) (w : zW) (r : (Int32 × zW)) (h : b_Writer_isWide_20 F w = some r) : zV G m_Writer_isWide 20 [] [] w 0 0 (oI r.1) r.2 := by
  unfold b_Writer_isWide_20 at h
  refine V_iconst (v := 0) d_Writer_isWide_20 (by decide) ?_
  obtain rfl := Option.some.inj h
  exact V_zret rfl (Or.inl rfl) (by decide) (by decide) d_Writer_isWide_21
def b_Writer_isWide_0 (F : Nat) (v0 : Nat) (v1 : Nat) (w : zW) : Option (Int32 × zW) := (getI w v0 7 1).bind fun x1 => if x1 = 0 then (b_Writer_isWide_20 F w) else ((getI w v1 1 1).bind fun x8 => if x8 = (8 : Int32) then (b_Writer_isWide_20 F w) else (some ((1 : Int32), w)))
set_option maxRecDepth 100000 in
set_option maxHeartbeats 4000000 in
theorem b_Writer_isWide_0_ok (G : zG) (F : Nat) (v0 : Nat) (v1 : Nat) (w : zW) (r : (Int32 × zW)) (h : b_Writer_isWide_0 F v0 v1 w = some r) : zV G m_Writer_isWide 0 [(0, .ref (z0 G + v0)), (1, .ref (z0 G + v1))] [] w 0 0 (oI r.1) r.2 := by
  unfold b_Writer_isWide_0 at h
  refine V_aload_n (i := 0) d_Writer_isWide_0 rfl 0 rfl ?_
  obtain ⟨x1, e1, h⟩ := ob h
  refine V_getI (ci := 7) (k := 1) d_Writer_isWide_1 e1 rfl (by decide) in_Writer k246 ?_
  refine V_if_eq (tgt := 20) d_Writer_isWide_4 (by decide) (fun c4 => ?_) (fun c4 => ?_)
  · rw [if_pos c4] at h
    refine V_lv [] rfl ?_
    exact b_Writer_isWide_20_ok G F w _ h
  · rw [if_neg c4] at h
    refine V_aload_n (i := 1) d_Writer_isWide_7 rfl 1 rfl ?_
    obtain ⟨x8, e8, h⟩ := ob h
    refine V_getI (ci := 1) (k := 1) d_Writer_isWide_8 e8 rfl (by decide) in_Entry k171 ?_
    refine V_bipush (v := 8) d_Writer_isWide_11 (by decide) ?_
    refine V_icmp_eq (tgt := 20) d_Writer_isWide_13 (by decide) (fun c13 => ?_) (fun c13 => ?_)
    · rw [if_pos c13] at h
      refine V_lv [] rfl ?_
      exact b_Writer_isWide_20_ok G F w _ h
    · rw [if_neg c13] at h
      refine V_iconst (v := 1) d_Writer_isWide_16 (by decide) ?_
      refine V_goto (tgt := 21) d_Writer_isWide_17 (by decide) ?_
      obtain rfl := Option.some.inj h
      exact V_zret rfl (Or.inr rfl) (by decide) (by decide) d_Writer_isWide_21
def f_Writer_isWide (F : Nat) (v0 : Nat) (v1 : Nat) (w : zW) : Option (Int32 × zW) := b_Writer_isWide_0 F v0 v1 w
theorem c_Writer_isWide (G : zG) (F : Nat) (v0 : Nat) (v1 : Nat) (w : zW) (r : (Int32 × zW)) (h : f_Writer_isWide F v0 v1 w = some r) : zCT G m_Writer_isWide [.ref (z0 G + v0), .ref (z0 G + v1)] w (oI r.1) r.2 := zCT.ofV (by decide +kernel) (Or.inl ⟨kc_Writer_isWide, rfl⟩) (Nat.le_of_ble_eq_true rfl) (b_Writer_isWide_0_ok G F v0 v1 w r h)

/-! ZipArray$Writer.writeRecord(LZipArray$Entry;I)V -/
def m_Writer_writeRecord : zM := (⟨R_Writer, "writeRecord", "(LZipArray$Entry;I)V"⟩, prog_9_method_5_code, 3, none, [], { frames := 2, cells := 0, slots := 0, locals := 45 })
theorem k180 : Cond.fieldLink R_Writer 52 (T_Entry 4).1 (T_Entry 4).2.1 (T_Entry 4).2.2.1 ∈ zTb := tb_at 180 (by decide +kernel) rfl
theorem k183 : Cond.fieldLink R_Writer 55 (T_Entry 5).1 (T_Entry 5).2.1 (T_Entry 5).2.2.1 ∈ zTb := tb_at 183 (by decide +kernel) rfl
theorem kc_Writer_writeRecord : Cond.code (mY m_Writer_writeRecord) (mC m_Writer_writeRecord) (mL m_Writer_writeRecord) (mT m_Writer_writeRecord) ∈ zTb := tb_at 784 (by decide +kernel) rfl
theorem y_Writer_writeRecord : (mY m_Writer_writeRecord).cls ≠ "java/lang/invoke/MethodHandle" ∧ (mY m_Writer_writeRecord).cls ≠ "java/lang/invoke/VarHandle" ∧ (parseMethodDescriptor (mY m_Writer_writeRecord).desc).map (fun d => d.parameters.length) = some 2 := by decide +kernel
theorem sel_Writer_writeRecord : Cond.selects R_Writer (mY m_Writer_writeRecord) (mY m_Writer_writeRecord) ∈ zTb := sel_at (y := mY m_Writer_writeRecord) (n := 2) 34 (by decide +kernel)
theorem d_Writer_writeRecord_0 : decode (mC m_Writer_writeRecord) 0 = .ok (.aload_n 0, 1) := by decide +kernel
theorem d_Writer_writeRecord_1 : decode (mC m_Writer_writeRecord) 1 = .ok (.getfield 9, 3) := by decide +kernel
theorem d_Writer_writeRecord_4 : decode (mC m_Writer_writeRecord) 4 = .ok (.lconst 1, 1) := by decide +kernel
theorem d_Writer_writeRecord_5 : decode (mC m_Writer_writeRecord) 5 = .ok (.iconst 2, 1) := by decide +kernel
theorem d_Writer_writeRecord_6 : decode (mC m_Writer_writeRecord) 6 = .ok (.invokevirtual 36, 3) := by decide +kernel
theorem d_Writer_writeRecord_9 : decode (mC m_Writer_writeRecord) 9 = .ok (.aload_n 0, 1) := by decide +kernel
theorem d_Writer_writeRecord_10 : decode (mC m_Writer_writeRecord) 10 = .ok (.getfield 9, 3) := by decide +kernel
theorem d_Writer_writeRecord_13 : decode (mC m_Writer_writeRecord) 13 = .ok (.iload_n 2, 1) := by decide +kernel
theorem d_Writer_writeRecord_14 : decode (mC m_Writer_writeRecord) 14 = .ok (.i2l, 1) := by decide +kernel
theorem d_Writer_writeRecord_15 : decode (mC m_Writer_writeRecord) 15 = .ok (.iconst 2, 1) := by decide +kernel
theorem d_Writer_writeRecord_16 : decode (mC m_Writer_writeRecord) 16 = .ok (.invokevirtual 36, 3) := by decide +kernel
theorem d_Writer_writeRecord_19 : decode (mC m_Writer_writeRecord) 19 = .ok (.aload_n 0, 1) := by decide +kernel
theorem d_Writer_writeRecord_20 : decode (mC m_Writer_writeRecord) 20 = .ok (.getfield 9, 3) := by decide +kernel
theorem d_Writer_writeRecord_23 : decode (mC m_Writer_writeRecord) 23 = .ok (.aload_n 1, 1) := by decide +kernel
theorem d_Writer_writeRecord_24 : decode (mC m_Writer_writeRecord) 24 = .ok (.getfield 55, 3) := by decide +kernel
theorem d_Writer_writeRecord_27 : decode (mC m_Writer_writeRecord) 27 = .ok (.i2l, 1) := by decide +kernel
theorem d_Writer_writeRecord_28 : decode (mC m_Writer_writeRecord) 28 = .ok (.bipush 8, 2) := by decide +kernel
theorem d_Writer_writeRecord_30 : decode (mC m_Writer_writeRecord) 30 = .ok (.invokevirtual 36, 3) := by decide +kernel
theorem d_Writer_writeRecord_33 : decode (mC m_Writer_writeRecord) 33 = .ok (.aload_n 0, 1) := by decide +kernel
theorem d_Writer_writeRecord_34 : decode (mC m_Writer_writeRecord) 34 = .ok (.getfield 9, 3) := by decide +kernel
theorem d_Writer_writeRecord_37 : decode (mC m_Writer_writeRecord) 37 = .ok (.aload_n 1, 1) := by decide +kernel
theorem d_Writer_writeRecord_38 : decode (mC m_Writer_writeRecord) 38 = .ok (.getfield 52, 3) := by decide +kernel
theorem d_Writer_writeRecord_41 : decode (mC m_Writer_writeRecord) 41 = .ok (.i2l, 1) := by decide +kernel
theorem d_Writer_writeRecord_42 : decode (mC m_Writer_writeRecord) 42 = .ok (.bipush 8, 2) := by decide +kernel
theorem d_Writer_writeRecord_44 : decode (mC m_Writer_writeRecord) 44 = .ok (.invokevirtual 36, 3) := by decide +kernel
theorem d_Writer_writeRecord_47 : decode (mC m_Writer_writeRecord) 47 = .ok (.return_, 1) := by decide +kernel
def b_Writer_writeRecord_0 (F : Nat) (v0 : Nat) (v1 : Nat) (v2 : Int32) (w : zW) : Option (Unit × zW) := (getR w v0 7 0).bind fun x1 => (zobj w x1 0).bind fun _ => (f_Row_appendNumber F x1 (1 : Int64) (2 : Int32) w).bind fun r6 => (getR r6.2 v0 7 0).bind fun x10 => (zobj r6.2 x10 0).bind fun _ => (f_Row_appendNumber F x10 v2.toInt64 (2 : Int32) r6.2).bind fun r16 => (getR r16.2 v0 7 0).bind fun x20 => (getI r16.2 v1 1 5).bind fun x24 => (zobj r16.2 x20 0).bind fun _ => (f_Row_appendNumber F x20 x24.toInt64 (8 : Int32) r16.2).bind fun r30 => (getR r30.2 v0 7 0).bind fun x34 => (getI r30.2 v1 1 4).bind fun x38 => (zobj r30.2 x34 0).bind fun _ => (f_Row_appendNumber F x34 x38.toInt64 (8 : Int32) r30.2).bind fun r44 => some ((), r44.2)
set_option maxRecDepth 100000 in
set_option maxHeartbeats 4000000 in
theorem b_Writer_writeRecord_0_ok (G : zG) (F : Nat) (v0 : Nat) (v1 : Nat) (v2 : Int32) (w : zW) (r : (Unit × zW)) (h : b_Writer_writeRecord_0 F v0 v1 v2 w = some r) : zV G m_Writer_writeRecord 0 [(0, .ref (z0 G + v0)), (1, .ref (z0 G + v1)), (2, .int v2)] [] w 0 0 (oV r.1) r.2 := by
  unfold b_Writer_writeRecord_0 at h
  refine V_aload_n (i := 0) d_Writer_writeRecord_0 rfl 0 rfl ?_
  obtain ⟨x1, e1, h⟩ := ob h
  refine V_getR (ci := 7) (k := 0) d_Writer_writeRecord_1 e1 rfl (by decide) in_Writer k244 ?_
  refine V_lconst (v := 1) d_Writer_writeRecord_4 (by decide) ?_
  refine V_iconst (v := 2) d_Writer_writeRecord_5 (by decide) ?_
  obtain ⟨_, eo6, h⟩ := ob h
  obtain ⟨r6, e6, h⟩ := ob h
  refine V_call (v := none) (st := []) (inv_V (N := m_Row_appendNumber) (As := [.long (1 : Int64), .int (2 : Int32)]) (ci := 0) d_Writer_writeRecord_6 eo6 rfl k333 k334 k335 kc_Row_appendNumber y_Row_appendNumber) ⟨Or.inl kc_Row_appendNumber, k2, by decide, by decide⟩ (Nat.le_of_ble_eq_true rfl) (by decide) (by decide) (c_Row_appendNumber G F x1 (1 : Int64) (2 : Int32) w r6 e6) ?_
  refine V_aload_n (i := 0) d_Writer_writeRecord_9 rfl 0 rfl ?_
  obtain ⟨x10, e10, h⟩ := ob h
  refine V_getR (ci := 7) (k := 0) d_Writer_writeRecord_10 e10 rfl (by decide) in_Writer k244 ?_
  refine V_iload_n (i := 2) d_Writer_writeRecord_13 rfl 2 rfl ?_
  refine V_i2l d_Writer_writeRecord_14 ?_
  refine V_iconst (v := 2) d_Writer_writeRecord_15 (by decide) ?_
  obtain ⟨_, eo16, h⟩ := ob h
  obtain ⟨r16, e16, h⟩ := ob h
  refine V_call (v := none) (st := []) (inv_V (N := m_Row_appendNumber) (As := [.long v2.toInt64, .int (2 : Int32)]) (ci := 0) d_Writer_writeRecord_16 eo16 rfl k333 k334 k335 kc_Row_appendNumber y_Row_appendNumber) ⟨Or.inl kc_Row_appendNumber, k2, by decide, by decide⟩ (Nat.le_of_ble_eq_true rfl) (by decide) (by decide) (c_Row_appendNumber G F x10 v2.toInt64 (2 : Int32) r6.2 r16 e16) ?_
  refine V_aload_n (i := 0) d_Writer_writeRecord_19 rfl 0 rfl ?_
  obtain ⟨x20, e20, h⟩ := ob h
  refine V_getR (ci := 7) (k := 0) d_Writer_writeRecord_20 e20 rfl (by decide) in_Writer k244 ?_
  refine V_aload_n (i := 1) d_Writer_writeRecord_23 rfl 1 rfl ?_
  obtain ⟨x24, e24, h⟩ := ob h
  refine V_getI (ci := 1) (k := 5) d_Writer_writeRecord_24 e24 rfl (by decide) in_Entry k183 ?_
  refine V_i2l d_Writer_writeRecord_27 ?_
  refine V_bipush (v := 8) d_Writer_writeRecord_28 (by decide) ?_
  obtain ⟨_, eo30, h⟩ := ob h
  obtain ⟨r30, e30, h⟩ := ob h
  refine V_call (v := none) (st := []) (inv_V (N := m_Row_appendNumber) (As := [.long x24.toInt64, .int (8 : Int32)]) (ci := 0) d_Writer_writeRecord_30 eo30 rfl k333 k334 k335 kc_Row_appendNumber y_Row_appendNumber) ⟨Or.inl kc_Row_appendNumber, k2, by decide, by decide⟩ (Nat.le_of_ble_eq_true rfl) (by decide) (by decide) (c_Row_appendNumber G F x20 x24.toInt64 (8 : Int32) r16.2 r30 e30) ?_
  refine V_aload_n (i := 0) d_Writer_writeRecord_33 rfl 0 rfl ?_
  obtain ⟨x34, e34, h⟩ := ob h
  refine V_getR (ci := 7) (k := 0) d_Writer_writeRecord_34 e34 rfl (by decide) in_Writer k244 ?_
  refine V_aload_n (i := 1) d_Writer_writeRecord_37 rfl 1 rfl ?_
  obtain ⟨x38, e38, h⟩ := ob h
  refine V_getI (ci := 1) (k := 4) d_Writer_writeRecord_38 e38 rfl (by decide) in_Entry k180 ?_
  refine V_i2l d_Writer_writeRecord_41 ?_
  refine V_bipush (v := 8) d_Writer_writeRecord_42 (by decide) ?_
  obtain ⟨_, eo44, h⟩ := ob h
  obtain ⟨r44, e44, h⟩ := ob h
  refine V_call (v := none) (st := []) (inv_V (N := m_Row_appendNumber) (As := [.long x38.toInt64, .int (8 : Int32)]) (ci := 0) d_Writer_writeRecord_44 eo44 rfl k333 k334 k335 kc_Row_appendNumber y_Row_appendNumber) ⟨Or.inl kc_Row_appendNumber, k2, by decide, by decide⟩ (Nat.le_of_ble_eq_true rfl) (by decide) (by decide) (c_Row_appendNumber G F x34 x38.toInt64 (8 : Int32) r30.2 r44 e44) ?_
  obtain rfl := Option.some.inj h
  exact V_vret rfl (by decide) (by decide) d_Writer_writeRecord_47
def f_Writer_writeRecord (F : Nat) (v0 : Nat) (v1 : Nat) (v2 : Int32) (w : zW) : Option (Unit × zW) := b_Writer_writeRecord_0 F v0 v1 v2 w
theorem c_Writer_writeRecord (G : zG) (F : Nat) (v0 : Nat) (v1 : Nat) (v2 : Int32) (w : zW) (r : (Unit × zW)) (h : f_Writer_writeRecord F v0 v1 v2 w = some r) : zCT G m_Writer_writeRecord [.ref (z0 G + v0), .ref (z0 G + v1), .int v2] w (oV r.1) r.2 := zCT.ofV (by decide +kernel) (Or.inl ⟨kc_Writer_writeRecord, rfl⟩) (Nat.le_of_ble_eq_true rfl) (b_Writer_writeRecord_0_ok G F v0 v1 v2 w r h)

/-! ZipArray$Writer.writeBehind(LZipArray$Entry;)V -/
def m_Writer_writeBehind : zM := (⟨R_Writer, "writeBehind", "(LZipArray$Entry;)V"⟩, prog_9_method_6_code, 2, none, [], { frames := 2, cells := 0, slots := 0, locals := 45 })
theorem k177 : Cond.fieldLink R_Writer 43 (T_Entry 3).1 (T_Entry 3).2.1 (T_Entry 3).2.2.1 ∈ zTb := tb_at 177 (by decide +kernel) rfl
theorem k789 : Cond.constantLong R_Writer 79 134695760 ∈ zTb := tb_at 789 (by decide +kernel) rfl
theorem kc_Writer_writeBehind : Cond.code (mY m_Writer_writeBehind) (mC m_Writer_writeBehind) (mL m_Writer_writeBehind) (mT m_Writer_writeBehind) ∈ zTb := tb_at 788 (by decide +kernel) rfl
theorem y_Writer_writeBehind : (mY m_Writer_writeBehind).cls ≠ "java/lang/invoke/MethodHandle" ∧ (mY m_Writer_writeBehind).cls ≠ "java/lang/invoke/VarHandle" ∧ (parseMethodDescriptor (mY m_Writer_writeBehind).desc).map (fun d => d.parameters.length) = some 1 := by decide +kernel
theorem sel_Writer_writeBehind : Cond.selects R_Writer (mY m_Writer_writeBehind) (mY m_Writer_writeBehind) ∈ zTb := sel_at (y := mY m_Writer_writeBehind) (n := 2) 35 (by decide +kernel)
theorem d_Writer_writeBehind_0 : decode (mC m_Writer_writeBehind) 0 = .ok (.aload_n 0, 1) := by decide +kernel
theorem d_Writer_writeBehind_1 : decode (mC m_Writer_writeBehind) 1 = .ok (.getfield 9, 3) := by decide +kernel
theorem d_Writer_writeBehind_4 : decode (mC m_Writer_writeBehind) 4 = .ok (.ldc2_w 79, 3) := by decide +kernel
theorem d_Writer_writeBehind_7 : decode (mC m_Writer_writeBehind) 7 = .ok (.iconst 4, 1) := by decide +kernel
theorem d_Writer_writeBehind_8 : decode (mC m_Writer_writeBehind) 8 = .ok (.invokevirtual 36, 3) := by decide +kernel
theorem d_Writer_writeBehind_11 : decode (mC m_Writer_writeBehind) 11 = .ok (.aload_n 0, 1) := by decide +kernel
theorem d_Writer_writeBehind_12 : decode (mC m_Writer_writeBehind) 12 = .ok (.getfield 9, 3) := by decide +kernel
theorem d_Writer_writeBehind_15 : decode (mC m_Writer_writeBehind) 15 = .ok (.aload_n 1, 1) := by decide +kernel
theorem d_Writer_writeBehind_16 : decode (mC m_Writer_writeBehind) 16 = .ok (.getfield 43, 3) := by decide +kernel
theorem d_Writer_writeBehind_19 : decode (mC m_Writer_writeBehind) 19 = .ok (.i2l, 1) := by decide +kernel
theorem d_Writer_writeBehind_20 : decode (mC m_Writer_writeBehind) 20 = .ok (.iconst 4, 1) := by decide +kernel
theorem d_Writer_writeBehind_21 : decode (mC m_Writer_writeBehind) 21 = .ok (.invokevirtual 36, 3) := by decide +kernel
theorem d_Writer_writeBehind_24 : decode (mC m_Writer_writeBehind) 24 = .ok (.aload_n 0, 1) := by decide +kernel
theorem d_Writer_writeBehind_25 : decode (mC m_Writer_writeBehind) 25 = .ok (.getfield 9, 3) := by decide +kernel
theorem d_Writer_writeBehind_28 : decode (mC m_Writer_writeBehind) 28 = .ok (.aload_n 1, 1) := by decide +kernel
theorem d_Writer_writeBehind_29 : decode (mC m_Writer_writeBehind) 29 = .ok (.getfield 52, 3) := by decide +kernel
theorem d_Writer_writeBehind_32 : decode (mC m_Writer_writeBehind) 32 = .ok (.i2l, 1) := by decide +kernel
theorem d_Writer_writeBehind_33 : decode (mC m_Writer_writeBehind) 33 = .ok (.iconst 4, 1) := by decide +kernel
theorem d_Writer_writeBehind_34 : decode (mC m_Writer_writeBehind) 34 = .ok (.invokevirtual 36, 3) := by decide +kernel
theorem d_Writer_writeBehind_37 : decode (mC m_Writer_writeBehind) 37 = .ok (.aload_n 0, 1) := by decide +kernel
theorem d_Writer_writeBehind_38 : decode (mC m_Writer_writeBehind) 38 = .ok (.getfield 9, 3) := by decide +kernel
theorem d_Writer_writeBehind_41 : decode (mC m_Writer_writeBehind) 41 = .ok (.aload_n 1, 1) := by decide +kernel
theorem d_Writer_writeBehind_42 : decode (mC m_Writer_writeBehind) 42 = .ok (.getfield 55, 3) := by decide +kernel
theorem d_Writer_writeBehind_45 : decode (mC m_Writer_writeBehind) 45 = .ok (.i2l, 1) := by decide +kernel
theorem d_Writer_writeBehind_46 : decode (mC m_Writer_writeBehind) 46 = .ok (.iconst 4, 1) := by decide +kernel
theorem d_Writer_writeBehind_47 : decode (mC m_Writer_writeBehind) 47 = .ok (.invokevirtual 36, 3) := by decide +kernel
theorem d_Writer_writeBehind_50 : decode (mC m_Writer_writeBehind) 50 = .ok (.return_, 1) := by decide +kernel
def b_Writer_writeBehind_0 (F : Nat) (v0 : Nat) (v1 : Nat) (w : zW) : Option (Unit × zW) := (getR w v0 7 0).bind fun x1 => (zobj w x1 0).bind fun _ => (f_Row_appendNumber F x1 (134695760 : Int64) (4 : Int32) w).bind fun r8 => (getR r8.2 v0 7 0).bind fun x12 => (getI r8.2 v1 1 3).bind fun x16 => (zobj r8.2 x12 0).bind fun _ => (f_Row_appendNumber F x12 x16.toInt64 (4 : Int32) r8.2).bind fun r21 => (getR r21.2 v0 7 0).bind fun x25 => (getI r21.2 v1 1 4).bind fun x29 => (zobj r21.2 x25 0).bind fun _ => (f_Row_appendNumber F x25 x29.toInt64 (4 : Int32) r21.2).bind fun r34 => (getR r34.2 v0 7 0).bind fun x38 => (getI r34.2 v1 1 5).bind fun x42 => (zobj r34.2 x38 0).bind fun _ => (f_Row_appendNumber F x38 x42.toInt64 (4 : Int32) r34.2).bind fun r47 => some ((), r47.2)
set_option maxRecDepth 100000 in
set_option maxHeartbeats 4000000 in
theorem b_Writer_writeBehind_0_ok (G : zG) (F : Nat) (v0 : Nat) (v1 : Nat) (w : zW) (r : (Unit × zW)) (h : b_Writer_writeBehind_0 F v0 v1 w = some r) : zV G m_Writer_writeBehind 0 [(0, .ref (z0 G + v0)), (1, .ref (z0 G + v1))] [] w 0 0 (oV r.1) r.2 := by
  unfold b_Writer_writeBehind_0 at h
  refine V_aload_n (i := 0) d_Writer_writeBehind_0 rfl 0 rfl ?_
  obtain ⟨x1, e1, h⟩ := ob h
  refine V_getR (ci := 7) (k := 0) d_Writer_writeBehind_1 e1 rfl (by decide) in_Writer k244 ?_
  refine V_ldc2 (v := 134695760) d_Writer_writeBehind_4 k789 ?_
  refine V_iconst (v := 4) d_Writer_writeBehind_7 (by decide) ?_
  obtain ⟨_, eo8, h⟩ := ob h
  obtain ⟨r8, e8, h⟩ := ob h
  refine V_call (v := none) (st := []) (inv_V (N := m_Row_appendNumber) (As := [.long (134695760 : Int64), .int (4 : Int32)]) (ci := 0) d_Writer_writeBehind_8 eo8 rfl k333 k334 k335 kc_Row_appendNumber y_Row_appendNumber) ⟨Or.inl kc_Row_appendNumber, k2, by decide, by decide⟩ (Nat.le_of_ble_eq_true rfl) (by decide) (by decide) (c_Row_appendNumber G F x1 (134695760 : Int64) (4 : Int32) w r8 e8) ?_
  refine V_aload_n (i := 0) d_Writer_writeBehind_11 rfl 0 rfl ?_
  obtain ⟨x12, e12, h⟩ := ob h
  refine V_getR (ci := 7) (k := 0) d_Writer_writeBehind_12 e12 rfl (by decide) in_Writer k244 ?_
  refine V_aload_n (i := 1) d_Writer_writeBehind_15 rfl 1 rfl ?_
  obtain ⟨x16, e16, h⟩ := ob h
  refine V_getI (ci := 1) (k := 3) d_Writer_writeBehind_16 e16 rfl (by decide) in_Entry k177 ?_
  refine V_i2l d_Writer_writeBehind_19 ?_
  refine V_iconst (v := 4) d_Writer_writeBehind_20 (by decide) ?_
  obtain ⟨_, eo21, h⟩ := ob h
  obtain ⟨r21, e21, h⟩ := ob h
  refine V_call (v := none) (st := []) (inv_V (N := m_Row_appendNumber) (As := [.long x16.toInt64, .int (4 : Int32)]) (ci := 0) d_Writer_writeBehind_21 eo21 rfl k333 k334 k335 kc_Row_appendNumber y_Row_appendNumber) ⟨Or.inl kc_Row_appendNumber, k2, by decide, by decide⟩ (Nat.le_of_ble_eq_true rfl) (by decide) (by decide) (c_Row_appendNumber G F x12 x16.toInt64 (4 : Int32) r8.2 r21 e21) ?_
  refine V_aload_n (i := 0) d_Writer_writeBehind_24 rfl 0 rfl ?_
  obtain ⟨x25, e25, h⟩ := ob h
  refine V_getR (ci := 7) (k := 0) d_Writer_writeBehind_25 e25 rfl (by decide) in_Writer k244 ?_
  refine V_aload_n (i := 1) d_Writer_writeBehind_28 rfl 1 rfl ?_
  obtain ⟨x29, e29, h⟩ := ob h
  refine V_getI (ci := 1) (k := 4) d_Writer_writeBehind_29 e29 rfl (by decide) in_Entry k180 ?_
  refine V_i2l d_Writer_writeBehind_32 ?_
  refine V_iconst (v := 4) d_Writer_writeBehind_33 (by decide) ?_
  obtain ⟨_, eo34, h⟩ := ob h
  obtain ⟨r34, e34, h⟩ := ob h
  refine V_call (v := none) (st := []) (inv_V (N := m_Row_appendNumber) (As := [.long x29.toInt64, .int (4 : Int32)]) (ci := 0) d_Writer_writeBehind_34 eo34 rfl k333 k334 k335 kc_Row_appendNumber y_Row_appendNumber) ⟨Or.inl kc_Row_appendNumber, k2, by decide, by decide⟩ (Nat.le_of_ble_eq_true rfl) (by decide) (by decide) (c_Row_appendNumber G F x25 x29.toInt64 (4 : Int32) r21.2 r34 e34) ?_
  refine V_aload_n (i := 0) d_Writer_writeBehind_37 rfl 0 rfl ?_
  obtain ⟨x38, e38, h⟩ := ob h
  refine V_getR (ci := 7) (k := 0) d_Writer_writeBehind_38 e38 rfl (by decide) in_Writer k244 ?_
  refine V_aload_n (i := 1) d_Writer_writeBehind_41 rfl 1 rfl ?_
  obtain ⟨x42, e42, h⟩ := ob h
  refine V_getI (ci := 1) (k := 5) d_Writer_writeBehind_42 e42 rfl (by decide) in_Entry k183 ?_
  refine V_i2l d_Writer_writeBehind_45 ?_
  refine V_iconst (v := 4) d_Writer_writeBehind_46 (by decide) ?_
  obtain ⟨_, eo47, h⟩ := ob h
  obtain ⟨r47, e47, h⟩ := ob h
  refine V_call (v := none) (st := []) (inv_V (N := m_Row_appendNumber) (As := [.long x42.toInt64, .int (4 : Int32)]) (ci := 0) d_Writer_writeBehind_47 eo47 rfl k333 k334 k335 kc_Row_appendNumber y_Row_appendNumber) ⟨Or.inl kc_Row_appendNumber, k2, by decide, by decide⟩ (Nat.le_of_ble_eq_true rfl) (by decide) (by decide) (c_Row_appendNumber G F x38 x42.toInt64 (4 : Int32) r34.2 r47 e47) ?_
  obtain rfl := Option.some.inj h
  exact V_vret rfl (by decide) (by decide) d_Writer_writeBehind_50
def f_Writer_writeBehind (F : Nat) (v0 : Nat) (v1 : Nat) (w : zW) : Option (Unit × zW) := b_Writer_writeBehind_0 F v0 v1 w
theorem c_Writer_writeBehind (G : zG) (F : Nat) (v0 : Nat) (v1 : Nat) (w : zW) (r : (Unit × zW)) (h : f_Writer_writeBehind F v0 v1 w = some r) : zCT G m_Writer_writeBehind [.ref (z0 G + v0), .ref (z0 G + v1)] w (oV r.1) r.2 := zCT.ofV (by decide +kernel) (Or.inl ⟨kc_Writer_writeBehind, rfl⟩) (Nat.le_of_ble_eq_true rfl) (b_Writer_writeBehind_0_ok G F v0 v1 w r h)

/-! ZipArray$Writer.writeLocal(LZipArray$Entry;LZipArray$Row;)V -/
def m_Writer_writeLocal : zM := (⟨R_Writer, "writeLocal", "(LZipArray$Entry;LZipArray$Row;)V"⟩, prog_9_method_4_code, 4, none, [], { frames := 3, cells := 0, slots := 0, locals := 67 })
theorem k169 : Cond.fieldLink R_Writer 58 (T_Entry 0).1 (T_Entry 0).2.1 (T_Entry 0).2.2.1 ∈ zTb := tb_at 169 (by decide +kernel) rfl
theorem k174 : Cond.fieldLink R_Writer 40 (T_Entry 2).1 (T_Entry 2).2.1 (T_Entry 2).2.2.1 ∈ zTb := tb_at 174 (by decide +kernel) rfl
theorem k758 : Cond.static (mY m_Zip_nameBytes) ∈ zTb := tb_at 758 (by decide +kernel) rfl
theorem k773 : Cond.constantLong R_Writer 34 67324752 ∈ zTb := tb_at 773 (by decide +kernel) rfl
theorem k774 : Cond.methodLink R_Writer 46 (mY m_Writer_isWide) ∈ zTb := tb_at 774 (by decide +kernel) rfl
theorem k776 : Cond.instanceMethod (mY m_Writer_isWide) ∈ zTb := tb_at 776 (by decide +kernel) rfl
theorem k778 : Cond.methodLinkNest R_Writer 61 (mY m_Zip_nameBytes) "ZipArray" ∈ zTb := tb_at 778 (by decide +kernel) rfl
theorem k779 : Cond.constantLong R_Writer 65 20 ∈ zTb := tb_at 779 (by decide +kernel) rfl
theorem k780 : Cond.methodLink R_Writer 67 (mY m_Row_appendHighestFirst) ∈ zTb := tb_at 780 (by decide +kernel) rfl
theorem k781 : Cond.methodLink R_Writer 70 (mY m_Writer_writeRecord) ∈ zTb := tb_at 781 (by decide +kernel) rfl
theorem k783 : Cond.instanceMethod (mY m_Writer_writeRecord) ∈ zTb := tb_at 783 (by decide +kernel) rfl
theorem k785 : Cond.methodLink R_Writer 75 (mY m_Writer_writeBehind) ∈ zTb := tb_at 785 (by decide +kernel) rfl
theorem k787 : Cond.instanceMethod (mY m_Writer_writeBehind) ∈ zTb := tb_at 787 (by decide +kernel) rfl
theorem kc_Writer_writeLocal : Cond.code (mY m_Writer_writeLocal) (mC m_Writer_writeLocal) (mL m_Writer_writeLocal) (mT m_Writer_writeLocal) ∈ zTb := tb_at 772 (by decide +kernel) rfl
theorem y_Writer_writeLocal : (mY m_Writer_writeLocal).cls ≠ "java/lang/invoke/MethodHandle" ∧ (mY m_Writer_writeLocal).cls ≠ "java/lang/invoke/VarHandle" ∧ (parseMethodDescriptor (mY m_Writer_writeLocal).desc).map (fun d => d.parameters.length) = some 2 := by decide +kernel
theorem d_Writer_writeLocal_0 : decode (mC m_Writer_writeLocal) 0 = .ok (.aload_n 1, 1) := by decide +kernel
theorem d_Writer_writeLocal_1 : decode (mC m_Writer_writeLocal) 1 = .ok (.getfield 28, 3) := by decide +kernel
theorem d_Writer_writeLocal_4 : decode (mC m_Writer_writeLocal) 4 = .ok (.bipush 8, 2) := by decide +kernel
theorem d_Writer_writeLocal_6 : decode (mC m_Writer_writeLocal) 6 = .ok (.if_icmp .ne 7, 3) := by decide +kernel
theorem d_Writer_writeLocal_9 : decode (mC m_Writer_writeLocal) 9 = .ok (.iconst 1, 1) := by decide +kernel
theorem d_Writer_writeLocal_10 : decode (mC m_Writer_writeLocal) 10 = .ok (.goto 4, 3) := by decide +kernel
theorem d_Writer_writeLocal_13 : decode (mC m_Writer_writeLocal) 13 = .ok (.iconst 0, 1) := by decide +kernel
theorem d_Writer_writeLocal_14 : decode (mC m_Writer_writeLocal) 14 = .ok (.istore_n 3, 1) := by decide +kernel
theorem d_Writer_writeLocal_15 : decode (mC m_Writer_writeLocal) 15 = .ok (.aload_n 0, 1) := by decide +kernel
theorem d_Writer_writeLocal_16 : decode (mC m_Writer_writeLocal) 16 = .ok (.getfield 9, 3) := by decide +kernel
theorem d_Writer_writeLocal_19 : decode (mC m_Writer_writeLocal) 19 = .ok (.ldc2_w 34, 3) := by decide +kernel
theorem d_Writer_writeLocal_22 : decode (mC m_Writer_writeLocal) 22 = .ok (.iconst 4, 1) := by decide +kernel
theorem d_Writer_writeLocal_23 : decode (mC m_Writer_writeLocal) 23 = .ok (.invokevirtual 36, 3) := by decide +kernel
theorem d_Writer_writeLocal_26 : decode (mC m_Writer_writeLocal) 26 = .ok (.aload_n 0, 1) := by decide +kernel
theorem d_Writer_writeLocal_27 : decode (mC m_Writer_writeLocal) 27 = .ok (.getfield 9, 3) := by decide +kernel
theorem d_Writer_writeLocal_30 : decode (mC m_Writer_writeLocal) 30 = .ok (.lconst 0, 1) := by decide +kernel
theorem d_Writer_writeLocal_31 : decode (mC m_Writer_writeLocal) 31 = .ok (.iconst 2, 1) := by decide +kernel
theorem d_Writer_writeLocal_32 : decode (mC m_Writer_writeLocal) 32 = .ok (.invokevirtual 36, 3) := by decide +kernel
theorem d_Writer_writeLocal_35 : decode (mC m_Writer_writeLocal) 35 = .ok (.aload_n 0, 1) := by decide +kernel
theorem d_Writer_writeLocal_36 : decode (mC m_Writer_writeLocal) 36 = .ok (.getfield 9, 3) := by decide +kernel
theorem d_Writer_writeLocal_39 : decode (mC m_Writer_writeLocal) 39 = .ok (.aload_n 1, 1) := by decide +kernel
theorem d_Writer_writeLocal_40 : decode (mC m_Writer_writeLocal) 40 = .ok (.getfield 28, 3) := by decide +kernel
theorem d_Writer_writeLocal_43 : decode (mC m_Writer_writeLocal) 43 = .ok (.i2l, 1) := by decide +kernel
theorem d_Writer_writeLocal_44 : decode (mC m_Writer_writeLocal) 44 = .ok (.iconst 2, 1) := by decide +kernel
theorem d_Writer_writeLocal_45 : decode (mC m_Writer_writeLocal) 45 = .ok (.invokevirtual 36, 3) := by decide +kernel
theorem d_Writer_writeLocal_48 : decode (mC m_Writer_writeLocal) 48 = .ok (.aload_n 0, 1) := by decide +kernel
theorem d_Writer_writeLocal_49 : decode (mC m_Writer_writeLocal) 49 = .ok (.getfield 9, 3) := by decide +kernel
theorem d_Writer_writeLocal_52 : decode (mC m_Writer_writeLocal) 52 = .ok (.aload_n 1, 1) := by decide +kernel
theorem d_Writer_writeLocal_53 : decode (mC m_Writer_writeLocal) 53 = .ok (.getfield 40, 3) := by decide +kernel
theorem d_Writer_writeLocal_56 : decode (mC m_Writer_writeLocal) 56 = .ok (.i2l, 1) := by decide +kernel
theorem d_Writer_writeLocal_57 : decode (mC m_Writer_writeLocal) 57 = .ok (.iconst 2, 1) := by decide +kernel
theorem d_Writer_writeLocal_58 : decode (mC m_Writer_writeLocal) 58 = .ok (.invokevirtual 36, 3) := by decide +kernel
theorem d_Writer_writeLocal_61 : decode (mC m_Writer_writeLocal) 61 = .ok (.aload_n 0, 1) := by decide +kernel
theorem d_Writer_writeLocal_62 : decode (mC m_Writer_writeLocal) 62 = .ok (.getfield 9, 3) := by decide +kernel
theorem d_Writer_writeLocal_65 : decode (mC m_Writer_writeLocal) 65 = .ok (.lconst 0, 1) := by decide +kernel
theorem d_Writer_writeLocal_66 : decode (mC m_Writer_writeLocal) 66 = .ok (.iconst 4, 1) := by decide +kernel
theorem d_Writer_writeLocal_67 : decode (mC m_Writer_writeLocal) 67 = .ok (.invokevirtual 36, 3) := by decide +kernel
theorem d_Writer_writeLocal_70 : decode (mC m_Writer_writeLocal) 70 = .ok (.aload_n 0, 1) := by decide +kernel
theorem d_Writer_writeLocal_71 : decode (mC m_Writer_writeLocal) 71 = .ok (.getfield 9, 3) := by decide +kernel
theorem d_Writer_writeLocal_74 : decode (mC m_Writer_writeLocal) 74 = .ok (.iload_n 3, 1) := by decide +kernel
theorem d_Writer_writeLocal_75 : decode (mC m_Writer_writeLocal) 75 = .ok (.ifCond .eq 7, 3) := by decide +kernel
theorem d_Writer_writeLocal_78 : decode (mC m_Writer_writeLocal) 78 = .ok (.lconst 0, 1) := by decide +kernel
theorem d_Writer_writeLocal_79 : decode (mC m_Writer_writeLocal) 79 = .ok (.goto 8, 3) := by decide +kernel
theorem d_Writer_writeLocal_82 : decode (mC m_Writer_writeLocal) 82 = .ok (.aload_n 1, 1) := by decide +kernel
theorem d_Writer_writeLocal_83 : decode (mC m_Writer_writeLocal) 83 = .ok (.getfield 43, 3) := by decide +kernel
theorem d_Writer_writeLocal_86 : decode (mC m_Writer_writeLocal) 86 = .ok (.i2l, 1) := by decide +kernel
theorem d_Writer_writeLocal_87 : decode (mC m_Writer_writeLocal) 87 = .ok (.iconst 4, 1) := by decide +kernel
theorem d_Writer_writeLocal_88 : decode (mC m_Writer_writeLocal) 88 = .ok (.invokevirtual 36, 3) := by decide +kernel
theorem d_Writer_writeLocal_91 : decode (mC m_Writer_writeLocal) 91 = .ok (.aload_n 0, 1) := by decide +kernel
theorem d_Writer_writeLocal_92 : decode (mC m_Writer_writeLocal) 92 = .ok (.getfield 9, 3) := by decide +kernel
theorem d_Writer_writeLocal_95 : decode (mC m_Writer_writeLocal) 95 = .ok (.iload_n 3, 1) := by decide +kernel
theorem d_Writer_writeLocal_96 : decode (mC m_Writer_writeLocal) 96 = .ok (.ifCond .eq 7, 3) := by decide +kernel
theorem d_Writer_writeLocal_99 : decode (mC m_Writer_writeLocal) 99 = .ok (.lconst 0, 1) := by decide +kernel
theorem d_Writer_writeLocal_100 : decode (mC m_Writer_writeLocal) 100 = .ok (.goto 22, 3) := by decide +kernel
theorem d_Writer_writeLocal_103 : decode (mC m_Writer_writeLocal) 103 = .ok (.aload_n 0, 1) := by decide +kernel
theorem d_Writer_writeLocal_104 : decode (mC m_Writer_writeLocal) 104 = .ok (.aload_n 1, 1) := by decide +kernel
theorem d_Writer_writeLocal_105 : decode (mC m_Writer_writeLocal) 105 = .ok (.invokevirtual 46, 3) := by decide +kernel
theorem d_Writer_writeLocal_108 : decode (mC m_Writer_writeLocal) 108 = .ok (.ifCond .eq 9, 3) := by decide +kernel
theorem d_Writer_writeLocal_111 : decode (mC m_Writer_writeLocal) 111 = .ok (.ldc2_w 50, 3) := by decide +kernel
theorem d_Writer_writeLocal_114 : decode (mC m_Writer_writeLocal) 114 = .ok (.goto 8, 3) := by decide +kernel
theorem d_Writer_writeLocal_117 : decode (mC m_Writer_writeLocal) 117 = .ok (.aload_n 1, 1) := by decide +kernel
theorem d_Writer_writeLocal_118 : decode (mC m_Writer_writeLocal) 118 = .ok (.getfield 52, 3) := by decide +kernel
theorem d_Writer_writeLocal_121 : decode (mC m_Writer_writeLocal) 121 = .ok (.i2l, 1) := by decide +kernel
theorem d_Writer_writeLocal_122 : decode (mC m_Writer_writeLocal) 122 = .ok (.iconst 4, 1) := by decide +kernel
theorem d_Writer_writeLocal_123 : decode (mC m_Writer_writeLocal) 123 = .ok (.invokevirtual 36, 3) := by decide +kernel
theorem d_Writer_writeLocal_126 : decode (mC m_Writer_writeLocal) 126 = .ok (.aload_n 0, 1) := by decide +kernel
theorem d_Writer_writeLocal_127 : decode (mC m_Writer_writeLocal) 127 = .ok (.getfield 9, 3) := by decide +kernel
theorem d_Writer_writeLocal_130 : decode (mC m_Writer_writeLocal) 130 = .ok (.iload_n 3, 1) := by decide +kernel
theorem d_Writer_writeLocal_131 : decode (mC m_Writer_writeLocal) 131 = .ok (.ifCond .eq 7, 3) := by decide +kernel
theorem d_Writer_writeLocal_134 : decode (mC m_Writer_writeLocal) 134 = .ok (.lconst 0, 1) := by decide +kernel
theorem d_Writer_writeLocal_135 : decode (mC m_Writer_writeLocal) 135 = .ok (.goto 22, 3) := by decide +kernel
theorem d_Writer_writeLocal_138 : decode (mC m_Writer_writeLocal) 138 = .ok (.aload_n 0, 1) := by decide +kernel
theorem d_Writer_writeLocal_139 : decode (mC m_Writer_writeLocal) 139 = .ok (.aload_n 1, 1) := by decide +kernel
theorem d_Writer_writeLocal_140 : decode (mC m_Writer_writeLocal) 140 = .ok (.invokevirtual 46, 3) := by decide +kernel
theorem d_Writer_writeLocal_143 : decode (mC m_Writer_writeLocal) 143 = .ok (.ifCond .eq 9, 3) := by decide +kernel
theorem d_Writer_writeLocal_146 : decode (mC m_Writer_writeLocal) 146 = .ok (.ldc2_w 50, 3) := by decide +kernel
theorem d_Writer_writeLocal_149 : decode (mC m_Writer_writeLocal) 149 = .ok (.goto 8, 3) := by decide +kernel
theorem d_Writer_writeLocal_152 : decode (mC m_Writer_writeLocal) 152 = .ok (.aload_n 1, 1) := by decide +kernel
theorem d_Writer_writeLocal_153 : decode (mC m_Writer_writeLocal) 153 = .ok (.getfield 55, 3) := by decide +kernel
theorem d_Writer_writeLocal_156 : decode (mC m_Writer_writeLocal) 156 = .ok (.i2l, 1) := by decide +kernel
theorem d_Writer_writeLocal_157 : decode (mC m_Writer_writeLocal) 157 = .ok (.iconst 4, 1) := by decide +kernel
theorem d_Writer_writeLocal_158 : decode (mC m_Writer_writeLocal) 158 = .ok (.invokevirtual 36, 3) := by decide +kernel
theorem d_Writer_writeLocal_161 : decode (mC m_Writer_writeLocal) 161 = .ok (.aload_n 0, 1) := by decide +kernel
theorem d_Writer_writeLocal_162 : decode (mC m_Writer_writeLocal) 162 = .ok (.getfield 9, 3) := by decide +kernel
theorem d_Writer_writeLocal_165 : decode (mC m_Writer_writeLocal) 165 = .ok (.aload_n 1, 1) := by decide +kernel
theorem d_Writer_writeLocal_166 : decode (mC m_Writer_writeLocal) 166 = .ok (.getfield 58, 3) := by decide +kernel
theorem d_Writer_writeLocal_169 : decode (mC m_Writer_writeLocal) 169 = .ok (.invokestatic 61, 3) := by decide +kernel
theorem d_Writer_writeLocal_172 : decode (mC m_Writer_writeLocal) 172 = .ok (.i2l, 1) := by decide +kernel
theorem d_Writer_writeLocal_173 : decode (mC m_Writer_writeLocal) 173 = .ok (.iconst 2, 1) := by decide +kernel
theorem d_Writer_writeLocal_174 : decode (mC m_Writer_writeLocal) 174 = .ok (.invokevirtual 36, 3) := by decide +kernel
theorem d_Writer_writeLocal_177 : decode (mC m_Writer_writeLocal) 177 = .ok (.aload_n 0, 1) := by decide +kernel
theorem d_Writer_writeLocal_178 : decode (mC m_Writer_writeLocal) 178 = .ok (.getfield 9, 3) := by decide +kernel
theorem d_Writer_writeLocal_181 : decode (mC m_Writer_writeLocal) 181 = .ok (.aload_n 0, 1) := by decide +kernel
theorem d_Writer_writeLocal_182 : decode (mC m_Writer_writeLocal) 182 = .ok (.aload_n 1, 1) := by decide +kernel
theorem d_Writer_writeLocal_183 : decode (mC m_Writer_writeLocal) 183 = .ok (.invokevirtual 46, 3) := by decide +kernel
theorem d_Writer_writeLocal_186 : decode (mC m_Writer_writeLocal) 186 = .ok (.ifCond .eq 9, 3) := by decide +kernel
theorem d_Writer_writeLocal_189 : decode (mC m_Writer_writeLocal) 189 = .ok (.ldc2_w 65, 3) := by decide +kernel
theorem d_Writer_writeLocal_192 : decode (mC m_Writer_writeLocal) 192 = .ok (.goto 4, 3) := by decide +kernel
theorem d_Writer_writeLocal_195 : decode (mC m_Writer_writeLocal) 195 = .ok (.lconst 0, 1) := by decide +kernel
theorem d_Writer_writeLocal_196 : decode (mC m_Writer_writeLocal) 196 = .ok (.iconst 2, 1) := by decide +kernel
theorem d_Writer_writeLocal_197 : decode (mC m_Writer_writeLocal) 197 = .ok (.invokevirtual 36, 3) := by decide +kernel
theorem d_Writer_writeLocal_200 : decode (mC m_Writer_writeLocal) 200 = .ok (.aload_n 0, 1) := by decide +kernel
theorem d_Writer_writeLocal_201 : decode (mC m_Writer_writeLocal) 201 = .ok (.getfield 9, 3) := by decide +kernel
theorem d_Writer_writeLocal_204 : decode (mC m_Writer_writeLocal) 204 = .ok (.aload_n 1, 1) := by decide +kernel
theorem d_Writer_writeLocal_205 : decode (mC m_Writer_writeLocal) 205 = .ok (.getfield 58, 3) := by decide +kernel
theorem d_Writer_writeLocal_208 : decode (mC m_Writer_writeLocal) 208 = .ok (.i2l, 1) := by decide +kernel
theorem d_Writer_writeLocal_209 : decode (mC m_Writer_writeLocal) 209 = .ok (.aload_n 1, 1) := by decide +kernel
theorem d_Writer_writeLocal_210 : decode (mC m_Writer_writeLocal) 210 = .ok (.getfield 58, 3) := by decide +kernel
theorem d_Writer_writeLocal_213 : decode (mC m_Writer_writeLocal) 213 = .ok (.invokestatic 61, 3) := by decide +kernel
theorem d_Writer_writeLocal_216 : decode (mC m_Writer_writeLocal) 216 = .ok (.invokevirtual 67, 3) := by decide +kernel
theorem d_Writer_writeLocal_219 : decode (mC m_Writer_writeLocal) 219 = .ok (.aload_n 0, 1) := by decide +kernel
theorem d_Writer_writeLocal_220 : decode (mC m_Writer_writeLocal) 220 = .ok (.aload_n 1, 1) := by decide +kernel
theorem d_Writer_writeLocal_221 : decode (mC m_Writer_writeLocal) 221 = .ok (.invokevirtual 46, 3) := by decide +kernel
theorem d_Writer_writeLocal_224 : decode (mC m_Writer_writeLocal) 224 = .ok (.ifCond .eq 10, 3) := by decide +kernel
theorem d_Writer_writeLocal_227 : decode (mC m_Writer_writeLocal) 227 = .ok (.aload_n 0, 1) := by decide +kernel
theorem d_Writer_writeLocal_228 : decode (mC m_Writer_writeLocal) 228 = .ok (.aload_n 1, 1) := by decide +kernel
theorem d_Writer_writeLocal_229 : decode (mC m_Writer_writeLocal) 229 = .ok (.bipush 16, 2) := by decide +kernel
theorem d_Writer_writeLocal_231 : decode (mC m_Writer_writeLocal) 231 = .ok (.invokevirtual 70, 3) := by decide +kernel
theorem d_Writer_writeLocal_234 : decode (mC m_Writer_writeLocal) 234 = .ok (.aload_n 0, 1) := by decide +kernel
theorem d_Writer_writeLocal_235 : decode (mC m_Writer_writeLocal) 235 = .ok (.getfield 9, 3) := by decide +kernel
theorem d_Writer_writeLocal_238 : decode (mC m_Writer_writeLocal) 238 = .ok (.aload_n 2, 1) := by decide +kernel
theorem d_Writer_writeLocal_239 : decode (mC m_Writer_writeLocal) 239 = .ok (.iconst 0, 1) := by decide +kernel
theorem d_Writer_writeLocal_240 : decode (mC m_Writer_writeLocal) 240 = .ok (.aload_n 2, 1) := by decide +kernel
theorem d_Writer_writeLocal_241 : decode (mC m_Writer_writeLocal) 241 = .ok (.getfield 74, 3) := by decide +kernel
theorem d_Writer_writeLocal_244 : decode (mC m_Writer_writeLocal) 244 = .ok (.invokevirtual 20, 3) := by decide +kernel
theorem d_Writer_writeLocal_247 : decode (mC m_Writer_writeLocal) 247 = .ok (.iload_n 3, 1) := by decide +kernel
theorem d_Writer_writeLocal_248 : decode (mC m_Writer_writeLocal) 248 = .ok (.ifCond .eq 8, 3) := by decide +kernel
theorem d_Writer_writeLocal_251 : decode (mC m_Writer_writeLocal) 251 = .ok (.aload_n 0, 1) := by decide +kernel
theorem d_Writer_writeLocal_252 : decode (mC m_Writer_writeLocal) 252 = .ok (.aload_n 1, 1) := by decide +kernel
theorem d_Writer_writeLocal_253 : decode (mC m_Writer_writeLocal) 253 = .ok (.invokevirtual 75, 3) := by decide +kernel
theorem d_Writer_writeLocal_256 : decode (mC m_Writer_writeLocal) 256 = .ok (.return_, 1) := by decide +kernel
def b_Writer_writeLocal_234 (F : Nat) (v0 : Nat) (v1 : Nat) (v2 : Nat) (v3 : Int32) (w : zW) : Option (Unit × zW) := (getR w v0 7 0).bind fun x235 => (getI w v2 0 1).bind fun x241 => (zobj w x235 0).bind fun _ => (f_Row_appendPart F x235 v2 (0 : Int32) x241 w).bind fun r244 => if v3 = 0 then (some ((), r244.2)) else ((zobj r244.2 v0 7).bind fun _ => (f_Writer_writeBehind F v0 v1 r244.2).bind fun r253 => some ((), r253.2))
set_option maxRecDepth 100000 in
set_option maxHeartbeats 4000000 in
theorem b_Writer_writeLocal_234_ok (G : zG) (F : Nat) (v0 : Nat) (v1 : Nat) (v2 : Nat) (v3 : Int32) (w : zW) (r : (Unit × zW)) (h : b_Writer_writeLocal_234 F v0 v1 v2 v3 w = some r) : zV G m_Writer_writeLocal 234 [(0, .ref (z0 G + v0)), (1, .ref (z0 G + v1)), (2, .ref (z0 G + v2)), (3, .int v3)] [] w 0 0 (oV r.1) r.2 := by
  unfold b_Writer_writeLocal_234 at h
  refine V_aload_n (i := 0) d_Writer_writeLocal_234 rfl 0 rfl ?_
  obtain ⟨x235, e235, h⟩ := ob h
  refine V_getR (ci := 7) (k := 0) d_Writer_writeLocal_235 e235 rfl (by decide) in_Writer k244 ?_
  refine V_aload_n (i := 2) d_Writer_writeLocal_238 rfl 2 rfl ?_
  refine V_iconst (v := 0) d_Writer_writeLocal_239 (by decide) ?_
  refine V_aload_n (i := 2) d_Writer_writeLocal_240 rfl 2 rfl ?_
  obtain ⟨x241, e241, h⟩ := ob h
  refine V_getI (ci := 0) (k := 1) d_Writer_writeLocal_241 e241 rfl (by decide) in_Row k45 ?_
  obtain ⟨_, eo244, h⟩ := ob h
  obtain ⟨r244, e244, h⟩ := ob h
  refine V_call (v := none) (st := []) (inv_V (N := m_Row_appendPart) (As := [.ref (z0 G + v2), .int (0 : Int32), .int x241]) (ci := 0) d_Writer_writeLocal_244 eo244 rfl k313 k314 k315 kc_Row_appendPart y_Row_appendPart) ⟨Or.inl kc_Row_appendPart, k2, by decide, by decide⟩ (Nat.le_of_ble_eq_true rfl) (by decide) (by decide) (c_Row_appendPart G F x235 v2 (0 : Int32) x241 w r244 e244) ?_
  refine V_iload_n (i := 3) d_Writer_writeLocal_247 rfl 3 rfl ?_
  refine V_if_eq (tgt := 256) d_Writer_writeLocal_248 (by decide) (fun c248 => ?_) (fun c248 => ?_)
  · rw [if_pos c248] at h
    obtain rfl := Option.some.inj h
    exact V_vret rfl (by decide) (by decide) d_Writer_writeLocal_256
  · rw [if_neg c248] at h
    refine V_aload_n (i := 0) d_Writer_writeLocal_251 rfl 0 rfl ?_
    refine V_aload_n (i := 1) d_Writer_writeLocal_252 rfl 1 rfl ?_
    obtain ⟨_, eo253, h⟩ := ob h
    obtain ⟨r253, e253, h⟩ := ob h
    refine V_call (v := none) (st := []) (inv_V (N := m_Writer_writeBehind) (As := [.ref (z0 G + v1)]) (ci := 7) d_Writer_writeLocal_253 eo253 rfl k785 k787 sel_Writer_writeBehind kc_Writer_writeBehind y_Writer_writeBehind) ⟨Or.inl kc_Writer_writeBehind, k9, by decide, by decide⟩ (Nat.le_of_ble_eq_true rfl) (by decide) (by decide) (c_Writer_writeBehind G F v0 v1 r244.2 r253 e253) ?_
    obtain rfl := Option.some.inj h
    exact V_vret rfl (by decide) (by decide) d_Writer_writeLocal_256
def b_Writer_writeLocal_196 (F : Nat) (v0 : Nat) (v1 : Nat) (v2 : Nat) (v3 : Int32) (s0 : Nat) (s1 : Int64) (w : zW) : Option (Unit × zW) := (zobj w s0 0).bind fun _ => (f_Row_appendNumber F s0 s1 (2 : Int32) w).bind fun r197 => (getR r197.2 v0 7 0).bind fun x201 => (getI r197.2 v1 1 0).bind fun x205 => (getI r197.2 v1 1 0).bind fun x210 => (f_Zip_nameBytes F x210 r197.2).bind fun r213 => (zobj r213.2 x201 0).bind fun _ => (f_Row_appendHighestFirst F x201 x205.toInt64 r213.1 r213.2).bind fun r216 => (zobj r216.2 v0 7).bind fun _ => (f_Writer_isWide F v0 v1 r216.2).bind fun r221 => if r221.1 = 0 then (b_Writer_writeLocal_234 F v0 v1 v2 v3 r221.2) else ((zobj r221.2 v0 7).bind fun _ => (f_Writer_writeRecord F v0 v1 (16 : Int32) r221.2).bind fun r231 => b_Writer_writeLocal_234 F v0 v1 v2 v3 r231.2)
set_option maxRecDepth 100000 in
set_option maxHeartbeats 4000000 in
theorem b_Writer_writeLocal_196_ok (G : zG) (F : Nat) (v0 : Nat) (v1 : Nat) (v2 : Nat) (v3 : Int32) (s0 : Nat) (s1 : Int64) (w : zW) (r : (Unit × zW)) (h : b_Writer_writeLocal_196 F v0 v1 v2 v3 s0 s1 w = some r) : zV G m_Writer_writeLocal 196 [(0, .ref (z0 G + v0)), (1, .ref (z0 G + v1)), (2, .ref (z0 G + v2)), (3, .int v3)] [.long s1, .ref (z0 G + s0)] w 0 0 (oV r.1) r.2 := by
  unfold b_Writer_writeLocal_196 at h
  refine V_iconst (v := 2) d_Writer_writeLocal_196 (by decide) ?_
  obtain ⟨_, eo197, h⟩ := ob h
  obtain ⟨r197, e197, h⟩ := ob h
  refine V_call (v := none) (st := []) (inv_V (N := m_Row_appendNumber) (As := [.long s1, .int (2 : Int32)]) (ci := 0) d_Writer_writeLocal_197 eo197 rfl k333 k334 k335 kc_Row_appendNumber y_Row_appendNumber) ⟨Or.inl kc_Row_appendNumber, k2, by decide, by decide⟩ (Nat.le_of_ble_eq_true rfl) (by decide) (by decide) (c_Row_appendNumber G F s0 s1 (2 : Int32) w r197 e197) ?_
  refine V_aload_n (i := 0) d_Writer_writeLocal_200 rfl 0 rfl ?_
  obtain ⟨x201, e201, h⟩ := ob h
  refine V_getR (ci := 7) (k := 0) d_Writer_writeLocal_201 e201 rfl (by decide) in_Writer k244 ?_
  refine V_aload_n (i := 1) d_Writer_writeLocal_204 rfl 1 rfl ?_
  obtain ⟨x205, e205, h⟩ := ob h
  refine V_getI (ci := 1) (k := 0) d_Writer_writeLocal_205 e205 rfl (by decide) in_Entry k169 ?_
  refine V_i2l d_Writer_writeLocal_208 ?_
  refine V_aload_n (i := 1) d_Writer_writeLocal_209 rfl 1 rfl ?_
  obtain ⟨x210, e210, h⟩ := ob h
  refine V_getI (ci := 1) (k := 0) d_Writer_writeLocal_210 e210 rfl (by decide) in_Entry k169 ?_
  obtain ⟨r213, e213, h⟩ := ob h
  refine V_call (v := some (.int r213.1)) (st := [.long x205.toInt64, .ref (z0 G + x201)]) (inv_SN (N := m_Zip_nameBytes) (As := [.int x210]) d_Writer_writeLocal_213 k778 k758 k1 kc_Zip_nameBytes y_Zip_nameBytes) ⟨Or.inl kc_Zip_nameBytes, k1, by decide, by decide⟩ (Nat.le_of_ble_eq_true rfl) (by decide) (by decide) (c_Zip_nameBytes G F x210 r197.2 r213 e213) ?_
  obtain ⟨_, eo216, h⟩ := ob h
  obtain ⟨r216, e216, h⟩ := ob h
  refine V_call (v := none) (st := []) (inv_V (N := m_Row_appendHighestFirst) (As := [.long x205.toInt64, .int r213.1]) (ci := 0) d_Writer_writeLocal_216 eo216 rfl k780 k624 k625 kc_Row_appendHighestFirst y_Row_appendHighestFirst) ⟨Or.inl kc_Row_appendHighestFirst, k2, by decide, by decide⟩ (Nat.le_of_ble_eq_true rfl) (by decide) (by decide) (c_Row_appendHighestFirst G F x201 x205.toInt64 r213.1 r213.2 r216 e216) ?_
  refine V_aload_n (i := 0) d_Writer_writeLocal_219 rfl 0 rfl ?_
  refine V_aload_n (i := 1) d_Writer_writeLocal_220 rfl 1 rfl ?_
  obtain ⟨_, eo221, h⟩ := ob h
  obtain ⟨r221, e221, h⟩ := ob h
  refine V_call (v := some (.int r221.1)) (st := []) (inv_V (N := m_Writer_isWide) (As := [.ref (z0 G + v1)]) (ci := 7) d_Writer_writeLocal_221 eo221 rfl k774 k776 sel_Writer_isWide kc_Writer_isWide y_Writer_isWide) ⟨Or.inl kc_Writer_isWide, k9, by decide, by decide⟩ (Nat.le_of_ble_eq_true rfl) (by decide) (by decide) (c_Writer_isWide G F v0 v1 r216.2 r221 e221) ?_
  refine V_if_eq (tgt := 234) d_Writer_writeLocal_224 (by decide) (fun c224 => ?_) (fun c224 => ?_)
  · rw [if_pos c224] at h
    exact b_Writer_writeLocal_234_ok G F v0 v1 v2 v3 r221.2 _ h
  · rw [if_neg c224] at h
    refine V_aload_n (i := 0) d_Writer_writeLocal_227 rfl 0 rfl ?_
    refine V_aload_n (i := 1) d_Writer_writeLocal_228 rfl 1 rfl ?_
    refine V_bipush (v := 16) d_Writer_writeLocal_229 (by decide) ?_
    obtain ⟨_, eo231, h⟩ := ob h
    obtain ⟨r231, e231, h⟩ := ob h
    refine V_call (v := none) (st := []) (inv_V (N := m_Writer_writeRecord) (As := [.ref (z0 G + v1), .int (16 : Int32)]) (ci := 7) d_Writer_writeLocal_231 eo231 rfl k781 k783 sel_Writer_writeRecord kc_Writer_writeRecord y_Writer_writeRecord) ⟨Or.inl kc_Writer_writeRecord, k9, by decide, by decide⟩ (Nat.le_of_ble_eq_true rfl) (by decide) (by decide) (c_Writer_writeRecord G F v0 v1 (16 : Int32) r221.2 r231 e231) ?_
    exact b_Writer_writeLocal_234_ok G F v0 v1 v2 v3 r231.2 _ h
def b_Writer_writeLocal_157 (F : Nat) (v0 : Nat) (v1 : Nat) (v2 : Nat) (v3 : Int32) (s0 : Nat) (s1 : Int64) (w : zW) : Option (Unit × zW) := (zobj w s0 0).bind fun _ => (f_Row_appendNumber F s0 s1 (4 : Int32) w).bind fun r158 => (getR r158.2 v0 7 0).bind fun x162 => (getI r158.2 v1 1 0).bind fun x166 => (f_Zip_nameBytes F x166 r158.2).bind fun r169 => (zobj r169.2 x162 0).bind fun _ => (f_Row_appendNumber F x162 r169.1.toInt64 (2 : Int32) r169.2).bind fun r174 => (getR r174.2 v0 7 0).bind fun x178 => (zobj r174.2 v0 7).bind fun _ => (f_Writer_isWide F v0 v1 r174.2).bind fun r183 => if r183.1 = 0 then (b_Writer_writeLocal_196 F v0 v1 v2 v3 x178 (0 : Int64) r183.2) else (b_Writer_writeLocal_196 F v0 v1 v2 v3 x178 (20 : Int64) r183.2)
set_option maxRecDepth 100000 in
set_option maxHeartbeats 4000000 in
theorem b_Writer_writeLocal_157_ok (G : zG) (F : Nat) (v0 : Nat) (v1 : Nat) (v2 : Nat) (v3 : Int32) (s0 : Nat) (s1 : Int64) (w : zW) (r : (Unit × zW)) (h : b_Writer_writeLocal_157 F v0 v1 v2 v3 s0 s1 w = some r) : zV G m_Writer_writeLocal 157 [(0, .ref (z0 G + v0)), (1, .ref (z0 G + v1)), (2, .ref (z0 G + v2)), (3, .int v3)] [.long s1, .ref (z0 G + s0)] w 0 0 (oV r.1) r.2 := by
  unfold b_Writer_writeLocal_157 at h
  refine V_iconst (v := 4) d_Writer_writeLocal_157 (by decide) ?_
  obtain ⟨_, eo158, h⟩ := ob h
  obtain ⟨r158, e158, h⟩ := ob h
  refine V_call (v := none) (st := []) (inv_V (N := m_Row_appendNumber) (As := [.long s1, .int (4 : Int32)]) (ci := 0) d_Writer_writeLocal_158 eo158 rfl k333 k334 k335 kc_Row_appendNumber y_Row_appendNumber) ⟨Or.inl kc_Row_appendNumber, k2, by decide, by decide⟩ (Nat.le_of_ble_eq_true rfl) (by decide) (by decide) (c_Row_appendNumber G F s0 s1 (4 : Int32) w r158 e158) ?_
  refine V_aload_n (i := 0) d_Writer_writeLocal_161 rfl 0 rfl ?_
  obtain ⟨x162, e162, h⟩ := ob h
  refine V_getR (ci := 7) (k := 0) d_Writer_writeLocal_162 e162 rfl (by decide) in_Writer k244 ?_
  refine V_aload_n (i := 1) d_Writer_writeLocal_165 rfl 1 rfl ?_
  obtain ⟨x166, e166, h⟩ := ob h
  refine V_getI (ci := 1) (k := 0) d_Writer_writeLocal_166 e166 rfl (by decide) in_Entry k169 ?_
  obtain ⟨r169, e169, h⟩ := ob h
  refine V_call (v := some (.int r169.1)) (st := [.ref (z0 G + x162)]) (inv_SN (N := m_Zip_nameBytes) (As := [.int x166]) d_Writer_writeLocal_169 k778 k758 k1 kc_Zip_nameBytes y_Zip_nameBytes) ⟨Or.inl kc_Zip_nameBytes, k1, by decide, by decide⟩ (Nat.le_of_ble_eq_true rfl) (by decide) (by decide) (c_Zip_nameBytes G F x166 r158.2 r169 e169) ?_
  refine V_i2l d_Writer_writeLocal_172 ?_
  refine V_iconst (v := 2) d_Writer_writeLocal_173 (by decide) ?_
  obtain ⟨_, eo174, h⟩ := ob h
  obtain ⟨r174, e174, h⟩ := ob h
  refine V_call (v := none) (st := []) (inv_V (N := m_Row_appendNumber) (As := [.long r169.1.toInt64, .int (2 : Int32)]) (ci := 0) d_Writer_writeLocal_174 eo174 rfl k333 k334 k335 kc_Row_appendNumber y_Row_appendNumber) ⟨Or.inl kc_Row_appendNumber, k2, by decide, by decide⟩ (Nat.le_of_ble_eq_true rfl) (by decide) (by decide) (c_Row_appendNumber G F x162 r169.1.toInt64 (2 : Int32) r169.2 r174 e174) ?_
  refine V_aload_n (i := 0) d_Writer_writeLocal_177 rfl 0 rfl ?_
  obtain ⟨x178, e178, h⟩ := ob h
  refine V_getR (ci := 7) (k := 0) d_Writer_writeLocal_178 e178 rfl (by decide) in_Writer k244 ?_
  refine V_aload_n (i := 0) d_Writer_writeLocal_181 rfl 0 rfl ?_
  refine V_aload_n (i := 1) d_Writer_writeLocal_182 rfl 1 rfl ?_
  obtain ⟨_, eo183, h⟩ := ob h
  obtain ⟨r183, e183, h⟩ := ob h
  refine V_call (v := some (.int r183.1)) (st := [.ref (z0 G + x178)]) (inv_V (N := m_Writer_isWide) (As := [.ref (z0 G + v1)]) (ci := 7) d_Writer_writeLocal_183 eo183 rfl k774 k776 sel_Writer_isWide kc_Writer_isWide y_Writer_isWide) ⟨Or.inl kc_Writer_isWide, k9, by decide, by decide⟩ (Nat.le_of_ble_eq_true rfl) (by decide) (by decide) (c_Writer_isWide G F v0 v1 r174.2 r183 e183) ?_
  refine V_if_eq (tgt := 195) d_Writer_writeLocal_186 (by decide) (fun c186 => ?_) (fun c186 => ?_)
  · rw [if_pos c186] at h
    refine V_lconst (v := 0) d_Writer_writeLocal_195 (by decide) ?_
    exact b_Writer_writeLocal_196_ok G F v0 v1 v2 v3 x178 (0 : Int64) r183.2 _ h
  · rw [if_neg c186] at h
    refine V_ldc2 (v := 20) d_Writer_writeLocal_189 k779 ?_
    refine V_goto (tgt := 196) d_Writer_writeLocal_192 (by decide) ?_
    exact b_Writer_writeLocal_196_ok G F v0 v1 v2 v3 x178 (20 : Int64) r183.2 _ h
def b_Writer_writeLocal_122 (F : Nat) (v0 : Nat) (v1 : Nat) (v2 : Nat) (v3 : Int32) (s0 : Nat) (s1 : Int64) (w : zW) : Option (Unit × zW) := (zobj w s0 0).bind fun _ => (f_Row_appendNumber F s0 s1 (4 : Int32) w).bind fun r123 => (getR r123.2 v0 7 0).bind fun x127 => if v3 = 0 then ((zobj r123.2 v0 7).bind fun _ => (f_Writer_isWide F v0 v1 r123.2).bind fun r140 => if r140.1 = 0 then ((getI r140.2 v1 1 5).bind fun x153 => b_Writer_writeLocal_157 F v0 v1 v2 v3 x127 x153.toInt64 r140.2) else (b_Writer_writeLocal_157 F v0 v1 v2 v3 x127 (4294967295 : Int64) r140.2)) else (b_Writer_writeLocal_157 F v0 v1 v2 v3 x127 (0 : Int64) r123.2)
set_option maxRecDepth 100000 in
set_option maxHeartbeats 4000000 in
theorem b_Writer_writeLocal_122_ok (G : zG) (F : Nat) (v0 : Nat) (v1 : Nat) (v2 : Nat) (v3 : Int32) (s0 : Nat) (s1 : Int64) (w : zW) (r : (Unit × zW)) (h : b_Writer_writeLocal_122 F v0 v1 v2 v3 s0 s1 w = some r) : zV G m_Writer_writeLocal 122 [(0, .ref (z0 G + v0)), (1, .ref (z0 G + v1)), (2, .ref (z0 G + v2)), (3, .int v3)] [.long s1, .ref (z0 G + s0)] w 0 0 (oV r.1) r.2 := by
  unfold b_Writer_writeLocal_122 at h
  refine V_iconst (v := 4) d_Writer_writeLocal_122 (by decide) ?_
  obtain ⟨_, eo123, h⟩ := ob h
  obtain ⟨r123, e123, h⟩ := ob h
  refine V_call (v := none) (st := []) (inv_V (N := m_Row_appendNumber) (As := [.long s1, .int (4 : Int32)]) (ci := 0) d_Writer_writeLocal_123 eo123 rfl k333 k334 k335 kc_Row_appendNumber y_Row_appendNumber) ⟨Or.inl kc_Row_appendNumber, k2, by decide, by decide⟩ (Nat.le_of_ble_eq_true rfl) (by decide) (by decide) (c_Row_appendNumber G F s0 s1 (4 : Int32) w r123 e123) ?_
  refine V_aload_n (i := 0) d_Writer_writeLocal_126 rfl 0 rfl ?_
  obtain ⟨x127, e127, h⟩ := ob h
  refine V_getR (ci := 7) (k := 0) d_Writer_writeLocal_127 e127 rfl (by decide) in_Writer k244 ?_
  refine V_iload_n (i := 3) d_Writer_writeLocal_130 rfl 3 rfl ?_
  refine V_if_eq (tgt := 138) d_Writer_writeLocal_131 (by decide) (fun c131 => ?_) (fun c131 => ?_)
  · rw [if_pos c131] at h
    refine V_aload_n (i := 0) d_Writer_writeLocal_138 rfl 0 rfl ?_
    refine V_aload_n (i := 1) d_Writer_writeLocal_139 rfl 1 rfl ?_
    obtain ⟨_, eo140, h⟩ := ob h
    obtain ⟨r140, e140, h⟩ := ob h
    refine V_call (v := some (.int r140.1)) (st := [.ref (z0 G + x127)]) (inv_V (N := m_Writer_isWide) (As := [.ref (z0 G + v1)]) (ci := 7) d_Writer_writeLocal_140 eo140 rfl k774 k776 sel_Writer_isWide kc_Writer_isWide y_Writer_isWide) ⟨Or.inl kc_Writer_isWide, k9, by decide, by decide⟩ (Nat.le_of_ble_eq_true rfl) (by decide) (by decide) (c_Writer_isWide G F v0 v1 r123.2 r140 e140) ?_
    refine V_if_eq (tgt := 152) d_Writer_writeLocal_143 (by decide) (fun c143 => ?_) (fun c143 => ?_)
    · rw [if_pos c143] at h
      refine V_aload_n (i := 1) d_Writer_writeLocal_152 rfl 1 rfl ?_
      obtain ⟨x153, e153, h⟩ := ob h
      refine V_getI (ci := 1) (k := 5) d_Writer_writeLocal_153 e153 rfl (by decide) in_Entry k183 ?_
      refine V_i2l d_Writer_writeLocal_156 ?_
      exact b_Writer_writeLocal_157_ok G F v0 v1 v2 v3 x127 x153.toInt64 r140.2 _ h
    · rw [if_neg c143] at h
      refine V_ldc2 (v := 4294967295) d_Writer_writeLocal_146 k345 ?_
      refine V_goto (tgt := 157) d_Writer_writeLocal_149 (by decide) ?_
      exact b_Writer_writeLocal_157_ok G F v0 v1 v2 v3 x127 (4294967295 : Int64) r140.2 _ h
  · rw [if_neg c131] at h
    refine V_lconst (v := 0) d_Writer_writeLocal_134 (by decide) ?_
    refine V_goto (tgt := 157) d_Writer_writeLocal_135 (by decide) ?_
    exact b_Writer_writeLocal_157_ok G F v0 v1 v2 v3 x127 (0 : Int64) r123.2 _ h
def b_Writer_writeLocal_87 (F : Nat) (v0 : Nat) (v1 : Nat) (v2 : Nat) (v3 : Int32) (s0 : Nat) (s1 : Int64) (w : zW) : Option (Unit × zW) := (zobj w s0 0).bind fun _ => (f_Row_appendNumber F s0 s1 (4 : Int32) w).bind fun r88 => (getR r88.2 v0 7 0).bind fun x92 => if v3 = 0 then ((zobj r88.2 v0 7).bind fun _ => (f_Writer_isWide F v0 v1 r88.2).bind fun r105 => if r105.1 = 0 then ((getI r105.2 v1 1 4).bind fun x118 => b_Writer_writeLocal_122 F v0 v1 v2 v3 x92 x118.toInt64 r105.2) else (b_Writer_writeLocal_122 F v0 v1 v2 v3 x92 (4294967295 : Int64) r105.2)) else (b_Writer_writeLocal_122 F v0 v1 v2 v3 x92 (0 : Int64) r88.2)
set_option maxRecDepth 100000 in
set_option maxHeartbeats 4000000 in
theorem b_Writer_writeLocal_87_ok (G : zG) (F : Nat) (v0 : Nat) (v1 : Nat) (v2 : Nat) (v3 : Int32) (s0 : Nat) (s1 : Int64) (w : zW) (r : (Unit × zW)) (h : b_Writer_writeLocal_87 F v0 v1 v2 v3 s0 s1 w = some r) : zV G m_Writer_writeLocal 87 [(0, .ref (z0 G + v0)), (1, .ref (z0 G + v1)), (2, .ref (z0 G + v2)), (3, .int v3)] [.long s1, .ref (z0 G + s0)] w 0 0 (oV r.1) r.2 := by
  unfold b_Writer_writeLocal_87 at h
  refine V_iconst (v := 4) d_Writer_writeLocal_87 (by decide) ?_
  obtain ⟨_, eo88, h⟩ := ob h
  obtain ⟨r88, e88, h⟩ := ob h
  refine V_call (v := none) (st := []) (inv_V (N := m_Row_appendNumber) (As := [.long s1, .int (4 : Int32)]) (ci := 0) d_Writer_writeLocal_88 eo88 rfl k333 k334 k335 kc_Row_appendNumber y_Row_appendNumber) ⟨Or.inl kc_Row_appendNumber, k2, by decide, by decide⟩ (Nat.le_of_ble_eq_true rfl) (by decide) (by decide) (c_Row_appendNumber G F s0 s1 (4 : Int32) w r88 e88) ?_
  refine V_aload_n (i := 0) d_Writer_writeLocal_91 rfl 0 rfl ?_
  obtain ⟨x92, e92, h⟩ := ob h
  refine V_getR (ci := 7) (k := 0) d_Writer_writeLocal_92 e92 rfl (by decide) in_Writer k244 ?_
  refine V_iload_n (i := 3) d_Writer_writeLocal_95 rfl 3 rfl ?_
  refine V_if_eq (tgt := 103) d_Writer_writeLocal_96 (by decide) (fun c96 => ?_) (fun c96 => ?_)
  · rw [if_pos c96] at h
    refine V_aload_n (i := 0) d_Writer_writeLocal_103 rfl 0 rfl ?_
    refine V_aload_n (i := 1) d_Writer_writeLocal_104 rfl 1 rfl ?_
    obtain ⟨_, eo105, h⟩ := ob h
    obtain ⟨r105, e105, h⟩ := ob h
    refine V_call (v := some (.int r105.1)) (st := [.ref (z0 G + x92)]) (inv_V (N := m_Writer_isWide) (As := [.ref (z0 G + v1)]) (ci := 7) d_Writer_writeLocal_105 eo105 rfl k774 k776 sel_Writer_isWide kc_Writer_isWide y_Writer_isWide) ⟨Or.inl kc_Writer_isWide, k9, by decide, by decide⟩ (Nat.le_of_ble_eq_true rfl) (by decide) (by decide) (c_Writer_isWide G F v0 v1 r88.2 r105 e105) ?_
    refine V_if_eq (tgt := 117) d_Writer_writeLocal_108 (by decide) (fun c108 => ?_) (fun c108 => ?_)
    · rw [if_pos c108] at h
      refine V_aload_n (i := 1) d_Writer_writeLocal_117 rfl 1 rfl ?_
      obtain ⟨x118, e118, h⟩ := ob h
      refine V_getI (ci := 1) (k := 4) d_Writer_writeLocal_118 e118 rfl (by decide) in_Entry k180 ?_
      refine V_i2l d_Writer_writeLocal_121 ?_
      exact b_Writer_writeLocal_122_ok G F v0 v1 v2 v3 x92 x118.toInt64 r105.2 _ h
    · rw [if_neg c108] at h
      refine V_ldc2 (v := 4294967295) d_Writer_writeLocal_111 k345 ?_
      refine V_goto (tgt := 122) d_Writer_writeLocal_114 (by decide) ?_
      exact b_Writer_writeLocal_122_ok G F v0 v1 v2 v3 x92 (4294967295 : Int64) r105.2 _ h
  · rw [if_neg c96] at h
    refine V_lconst (v := 0) d_Writer_writeLocal_99 (by decide) ?_
    refine V_goto (tgt := 122) d_Writer_writeLocal_100 (by decide) ?_
    exact b_Writer_writeLocal_122_ok G F v0 v1 v2 v3 x92 (0 : Int64) r88.2 _ h
def b_Writer_writeLocal_14 (F : Nat) (v0 : Nat) (v1 : Nat) (v2 : Nat) (s0 : Int32) (w : zW) : Option (Unit × zW) := (getR w v0 7 0).bind fun x16 => (zobj w x16 0).bind fun _ => (f_Row_appendNumber F x16 (67324752 : Int64) (4 : Int32) w).bind fun r23 => (getR r23.2 v0 7 0).bind fun x27 => (zobj r23.2 x27 0).bind fun _ => (f_Row_appendNumber F x27 (0 : Int64) (2 : Int32) r23.2).bind fun r32 => (getR r32.2 v0 7 0).bind fun x36 => (getI r32.2 v1 1 1).bind fun x40 => (zobj r32.2 x36 0).bind fun _ => (f_Row_appendNumber F x36 x40.toInt64 (2 : Int32) r32.2).bind fun r45 => (getR r45.2 v0 7 0).bind fun x49 => (getI r45.2 v1 1 2).bind fun x53 => (zobj r45.2 x49 0).bind fun _ => (f_Row_appendNumber F x49 x53.toInt64 (2 : Int32) r45.2).bind fun r58 => (getR r58.2 v0 7 0).bind fun x62 => (zobj r58.2 x62 0).bind fun _ => (f_Row_appendNumber F x62 (0 : Int64) (4 : Int32) r58.2).bind fun r67 => (getR r67.2 v0 7 0).bind fun x71 => if s0 = 0 then ((getI r67.2 v1 1 3).bind fun x83 => b_Writer_writeLocal_87 F v0 v1 v2 s0 x71 x83.toInt64 r67.2) else (b_Writer_writeLocal_87 F v0 v1 v2 s0 x71 (0 : Int64) r67.2)
set_option maxRecDepth 100000 in
set_option maxHeartbeats 4000000 in
theorem b_Writer_writeLocal_14_ok (G : zG) (F : Nat) (v0 : Nat) (v1 : Nat) (v2 : Nat) (s0 : Int32) (w : zW) (r : (Unit × zW)) (h : b_Writer_writeLocal_14 F v0 v1 v2 s0 w = some r) : zV G m_Writer_writeLocal 14 [(0, .ref (z0 G + v0)), (1, .ref (z0 G + v1)), (2, .ref (z0 G + v2))] [.int s0] w 0 0 (oV r.1) r.2 := by
  unfold b_Writer_writeLocal_14 at h
  refine V_istore_n (i := 3) d_Writer_writeLocal_14 rfl (by decide) rfl ?_
  refine V_aload_n (i := 0) d_Writer_writeLocal_15 rfl 1 rfl ?_
  obtain ⟨x16, e16, h⟩ := ob h
  refine V_getR (ci := 7) (k := 0) d_Writer_writeLocal_16 e16 rfl (by decide) in_Writer k244 ?_
  refine V_ldc2 (v := 67324752) d_Writer_writeLocal_19 k773 ?_
  refine V_iconst (v := 4) d_Writer_writeLocal_22 (by decide) ?_
  obtain ⟨_, eo23, h⟩ := ob h
  obtain ⟨r23, e23, h⟩ := ob h
  refine V_call (v := none) (st := []) (inv_V (N := m_Row_appendNumber) (As := [.long (67324752 : Int64), .int (4 : Int32)]) (ci := 0) d_Writer_writeLocal_23 eo23 rfl k333 k334 k335 kc_Row_appendNumber y_Row_appendNumber) ⟨Or.inl kc_Row_appendNumber, k2, by decide, by decide⟩ (Nat.le_of_ble_eq_true rfl) (by decide) (by decide) (c_Row_appendNumber G F x16 (67324752 : Int64) (4 : Int32) w r23 e23) ?_
  refine V_aload_n (i := 0) d_Writer_writeLocal_26 rfl 1 rfl ?_
  obtain ⟨x27, e27, h⟩ := ob h
  refine V_getR (ci := 7) (k := 0) d_Writer_writeLocal_27 e27 rfl (by decide) in_Writer k244 ?_
  refine V_lconst (v := 0) d_Writer_writeLocal_30 (by decide) ?_
  refine V_iconst (v := 2) d_Writer_writeLocal_31 (by decide) ?_
  obtain ⟨_, eo32, h⟩ := ob h
  obtain ⟨r32, e32, h⟩ := ob h
  refine V_call (v := none) (st := []) (inv_V (N := m_Row_appendNumber) (As := [.long (0 : Int64), .int (2 : Int32)]) (ci := 0) d_Writer_writeLocal_32 eo32 rfl k333 k334 k335 kc_Row_appendNumber y_Row_appendNumber) ⟨Or.inl kc_Row_appendNumber, k2, by decide, by decide⟩ (Nat.le_of_ble_eq_true rfl) (by decide) (by decide) (c_Row_appendNumber G F x27 (0 : Int64) (2 : Int32) r23.2 r32 e32) ?_
  refine V_aload_n (i := 0) d_Writer_writeLocal_35 rfl 1 rfl ?_
  obtain ⟨x36, e36, h⟩ := ob h
  refine V_getR (ci := 7) (k := 0) d_Writer_writeLocal_36 e36 rfl (by decide) in_Writer k244 ?_
  refine V_aload_n (i := 1) d_Writer_writeLocal_39 rfl 2 rfl ?_
  obtain ⟨x40, e40, h⟩ := ob h
  refine V_getI (ci := 1) (k := 1) d_Writer_writeLocal_40 e40 rfl (by decide) in_Entry k171 ?_
  refine V_i2l d_Writer_writeLocal_43 ?_
  refine V_iconst (v := 2) d_Writer_writeLocal_44 (by decide) ?_
  obtain ⟨_, eo45, h⟩ := ob h
  obtain ⟨r45, e45, h⟩ := ob h
  refine V_call (v := none) (st := []) (inv_V (N := m_Row_appendNumber) (As := [.long x40.toInt64, .int (2 : Int32)]) (ci := 0) d_Writer_writeLocal_45 eo45 rfl k333 k334 k335 kc_Row_appendNumber y_Row_appendNumber) ⟨Or.inl kc_Row_appendNumber, k2, by decide, by decide⟩ (Nat.le_of_ble_eq_true rfl) (by decide) (by decide) (c_Row_appendNumber G F x36 x40.toInt64 (2 : Int32) r32.2 r45 e45) ?_
  refine V_aload_n (i := 0) d_Writer_writeLocal_48 rfl 1 rfl ?_
  obtain ⟨x49, e49, h⟩ := ob h
  refine V_getR (ci := 7) (k := 0) d_Writer_writeLocal_49 e49 rfl (by decide) in_Writer k244 ?_
  refine V_aload_n (i := 1) d_Writer_writeLocal_52 rfl 2 rfl ?_
  obtain ⟨x53, e53, h⟩ := ob h
  refine V_getI (ci := 1) (k := 2) d_Writer_writeLocal_53 e53 rfl (by decide) in_Entry k174 ?_
  refine V_i2l d_Writer_writeLocal_56 ?_
  refine V_iconst (v := 2) d_Writer_writeLocal_57 (by decide) ?_
  obtain ⟨_, eo58, h⟩ := ob h
  obtain ⟨r58, e58, h⟩ := ob h
  refine V_call (v := none) (st := []) (inv_V (N := m_Row_appendNumber) (As := [.long x53.toInt64, .int (2 : Int32)]) (ci := 0) d_Writer_writeLocal_58 eo58 rfl k333 k334 k335 kc_Row_appendNumber y_Row_appendNumber) ⟨Or.inl kc_Row_appendNumber, k2, by decide, by decide⟩ (Nat.le_of_ble_eq_true rfl) (by decide) (by decide) (c_Row_appendNumber G F x49 x53.toInt64 (2 : Int32) r45.2 r58 e58) ?_
  refine V_aload_n (i := 0) d_Writer_writeLocal_61 rfl 1 rfl ?_
  obtain ⟨x62, e62, h⟩ := ob h
  refine V_getR (ci := 7) (k := 0) d_Writer_writeLocal_62 e62 rfl (by decide) in_Writer k244 ?_
  refine V_lconst (v := 0) d_Writer_writeLocal_65 (by decide) ?_
  refine V_iconst (v := 4) d_Writer_writeLocal_66 (by decide) ?_
  obtain ⟨_, eo67, h⟩ := ob h
  obtain ⟨r67, e67, h⟩ := ob h
  refine V_call (v := none) (st := []) (inv_V (N := m_Row_appendNumber) (As := [.long (0 : Int64), .int (4 : Int32)]) (ci := 0) d_Writer_writeLocal_67 eo67 rfl k333 k334 k335 kc_Row_appendNumber y_Row_appendNumber) ⟨Or.inl kc_Row_appendNumber, k2, by decide, by decide⟩ (Nat.le_of_ble_eq_true rfl) (by decide) (by decide) (c_Row_appendNumber G F x62 (0 : Int64) (4 : Int32) r58.2 r67 e67) ?_
  refine V_aload_n (i := 0) d_Writer_writeLocal_70 rfl 1 rfl ?_
  obtain ⟨x71, e71, h⟩ := ob h
  refine V_getR (ci := 7) (k := 0) d_Writer_writeLocal_71 e71 rfl (by decide) in_Writer k244 ?_
  refine V_iload_n (i := 3) d_Writer_writeLocal_74 rfl 0 rfl ?_
  refine V_if_eq (tgt := 82) d_Writer_writeLocal_75 (by decide) (fun c75 => ?_) (fun c75 => ?_)
  · rw [if_pos c75] at h
    refine V_aload_n (i := 1) d_Writer_writeLocal_82 rfl 2 rfl ?_
    obtain ⟨x83, e83, h⟩ := ob h
    refine V_getI (ci := 1) (k := 3) d_Writer_writeLocal_83 e83 rfl (by decide) in_Entry k177 ?_
    refine V_i2l d_Writer_writeLocal_86 ?_
    refine V_lv [1, 2, 3, 0] rfl ?_
    exact b_Writer_writeLocal_87_ok G F v0 v1 v2 s0 x71 x83.toInt64 r67.2 _ h
  · rw [if_neg c75] at h
    refine V_lconst (v := 0) d_Writer_writeLocal_78 (by decide) ?_
    refine V_goto (tgt := 87) d_Writer_writeLocal_79 (by decide) ?_
    refine V_lv [1, 2, 3, 0] rfl ?_
    exact b_Writer_writeLocal_87_ok G F v0 v1 v2 s0 x71 (0 : Int64) r67.2 _ h
def b_Writer_writeLocal_0 (F : Nat) (v0 : Nat) (v1 : Nat) (v2 : Nat) (w : zW) : Option (Unit × zW) := (getI w v1 1 1).bind fun x1 => if x1 = (8 : Int32) then (b_Writer_writeLocal_14 F v0 v1 v2 (1 : Int32) w) else (b_Writer_writeLocal_14 F v0 v1 v2 (0 : Int32) w)
set_option maxRecDepth 100000 in
set_option maxHeartbeats 4000000 in
theorem b_Writer_writeLocal_0_ok (G : zG) (F : Nat) (v0 : Nat) (v1 : Nat) (v2 : Nat) (w : zW) (r : (Unit × zW)) (h : b_Writer_writeLocal_0 F v0 v1 v2 w = some r) : zV G m_Writer_writeLocal 0 [(0, .ref (z0 G + v0)), (1, .ref (z0 G + v1)), (2, .ref (z0 G + v2))] [] w 0 0 (oV r.1) r.2 := by
  unfold b_Writer_writeLocal_0 at h
  refine V_aload_n (i := 1) d_Writer_writeLocal_0 rfl 1 rfl ?_
  obtain ⟨x1, e1, h⟩ := ob h
  refine V_getI (ci := 1) (k := 1) d_Writer_writeLocal_1 e1 rfl (by decide) in_Entry k171 ?_
  refine V_bipush (v := 8) d_Writer_writeLocal_4 (by decide) ?_
  refine V_icmp_ne (tgt := 13) d_Writer_writeLocal_6 (by decide) (fun c6 => ?_) (fun c6 => ?_)
  · rw [if_neg c6] at h
    refine V_iconst (v := 0) d_Writer_writeLocal_13 (by decide) ?_
    exact b_Writer_writeLocal_14_ok G F v0 v1 v2 (0 : Int32) w _ h
  · rw [if_pos c6] at h
    refine V_iconst (v := 1) d_Writer_writeLocal_9 (by decide) ?_
    refine V_goto (tgt := 14) d_Writer_writeLocal_10 (by decide) ?_
    exact b_Writer_writeLocal_14_ok G F v0 v1 v2 (1 : Int32) w _ h
def f_Writer_writeLocal (F : Nat) (v0 : Nat) (v1 : Nat) (v2 : Nat) (w : zW) : Option (Unit × zW) := b_Writer_writeLocal_0 F v0 v1 v2 w
theorem c_Writer_writeLocal (G : zG) (F : Nat) (v0 : Nat) (v1 : Nat) (v2 : Nat) (w : zW) (r : (Unit × zW)) (h : f_Writer_writeLocal F v0 v1 v2 w = some r) : zCT G m_Writer_writeLocal [.ref (z0 G + v0), .ref (z0 G + v1), .ref (z0 G + v2)] w (oV r.1) r.2 := zCT.ofV (by decide +kernel) (Or.inl ⟨kc_Writer_writeLocal, rfl⟩) (Nat.le_of_ble_eq_true rfl) (b_Writer_writeLocal_0_ok G F v0 v1 v2 w r h)

/-! ZipArray.keepParts(I)V -/
def m_Zip_keepParts : zM := (⟨R_Zip, "keepParts", "(I)V"⟩, prog_1_method_26_code, 4, none, [], { frames := 2, cells := 0, slots := 0, locals := 51 })
theorem k190 : Cond.fieldLink R_Zip 212 (T_Entry 7).1 (T_Entry 7).2.1 (T_Entry 7).2.2.1 ∈ zTb := tb_at 190 (by decide +kernel) rfl
theorem k192 : Cond.fieldLink R_Zip 215 (T_Entry 8).1 (T_Entry 8).2.1 (T_Entry 8).2.2.1 ∈ zTb := tb_at 192 (by decide +kernel) rfl
theorem k215 : Cond.fieldLink R_Zip 176 (T_Archive 2).1 (T_Archive 2).2.1 (T_Archive 2).2.2.1 ∈ zTb := tb_at 215 (by decide +kernel) rfl
theorem k217 : Cond.fieldLink R_Zip 145 (T_Archive 3).1 (T_Archive 3).2.1 (T_Archive 3).2.2.1 ∈ zTb := tb_at 217 (by decide +kernel) rfl
theorem k524 : Cond.methodLink R_Zip 218 (mY m_Row_appendPart) ∈ zTb := tb_at 524 (by decide +kernel) rfl
theorem kc_Zip_keepParts : Cond.code (mY m_Zip_keepParts) (mC m_Zip_keepParts) (mL m_Zip_keepParts) (mT m_Zip_keepParts) ∈ zTb := tb_at 793 (by decide +kernel) rfl
theorem y_Zip_keepParts : (mY m_Zip_keepParts).cls ≠ "java/lang/invoke/MethodHandle" ∧ (mY m_Zip_keepParts).cls ≠ "java/lang/invoke/VarHandle" ∧ (parseMethodDescriptor (mY m_Zip_keepParts).desc).map (fun d => d.parameters.length) = some 1 := by decide +kernel
theorem sel_Zip_keepParts : Cond.selects R_Zip (mY m_Zip_keepParts) (mY m_Zip_keepParts) ∈ zTb := sel_at (y := mY m_Zip_keepParts) (n := 9) 36 (by decide +kernel)
theorem d_Zip_keepParts_0 : decode (mC m_Zip_keepParts) 0 = .ok (.iconst 0, 1) := by decide +kernel
theorem d_Zip_keepParts_1 : decode (mC m_Zip_keepParts) 1 = .ok (.istore_n 2, 1) := by decide +kernel
theorem d_Zip_keepParts_2 : decode (mC m_Zip_keepParts) 2 = .ok (.iload_n 2, 1) := by decide +kernel
theorem d_Zip_keepParts_3 : decode (mC m_Zip_keepParts) 3 = .ok (.aload_n 0, 1) := by decide +kernel
theorem d_Zip_keepParts_4 : decode (mC m_Zip_keepParts) 4 = .ok (.getfield 46, 3) := by decide +kernel
theorem d_Zip_keepParts_7 : decode (mC m_Zip_keepParts) 7 = .ok (.getfield 145, 3) := by decide +kernel
theorem d_Zip_keepParts_10 : decode (mC m_Zip_keepParts) 10 = .ok (.if_icmp .ge 46, 3) := by decide +kernel
theorem d_Zip_keepParts_13 : decode (mC m_Zip_keepParts) 13 = .ok (.iload_n 2, 1) := by decide +kernel
theorem d_Zip_keepParts_14 : decode (mC m_Zip_keepParts) 14 = .ok (.iload_n 1, 1) := by decide +kernel
theorem d_Zip_keepParts_15 : decode (mC m_Zip_keepParts) 15 = .ok (.if_icmp .eq 35, 3) := by decide +kernel
theorem d_Zip_keepParts_18 : decode (mC m_Zip_keepParts) 18 = .ok (.aload_n 0, 1) := by decide +kernel
theorem d_Zip_keepParts_19 : decode (mC m_Zip_keepParts) 19 = .ok (.getfield 46, 3) := by decide +kernel
theorem d_Zip_keepParts_22 : decode (mC m_Zip_keepParts) 22 = .ok (.getfield 176, 3) := by decide +kernel
theorem d_Zip_keepParts_25 : decode (mC m_Zip_keepParts) 25 = .ok (.iload_n 2, 1) := by decide +kernel
theorem d_Zip_keepParts_26 : decode (mC m_Zip_keepParts) 26 = .ok (.aaload, 1) := by decide +kernel
theorem d_Zip_keepParts_27 : decode (mC m_Zip_keepParts) 27 = .ok (.astore_n 3, 1) := by decide +kernel
theorem d_Zip_keepParts_28 : decode (mC m_Zip_keepParts) 28 = .ok (.aload_n 0, 1) := by decide +kernel
theorem d_Zip_keepParts_29 : decode (mC m_Zip_keepParts) 29 = .ok (.getfield 53, 3) := by decide +kernel
theorem d_Zip_keepParts_32 : decode (mC m_Zip_keepParts) 32 = .ok (.getfield 126, 3) := by decide +kernel
theorem d_Zip_keepParts_35 : decode (mC m_Zip_keepParts) 35 = .ok (.aload_n 0, 1) := by decide +kernel
theorem d_Zip_keepParts_36 : decode (mC m_Zip_keepParts) 36 = .ok (.getfield 18, 3) := by decide +kernel
theorem d_Zip_keepParts_39 : decode (mC m_Zip_keepParts) 39 = .ok (.aload_n 3, 1) := by decide +kernel
theorem d_Zip_keepParts_40 : decode (mC m_Zip_keepParts) 40 = .ok (.getfield 212, 3) := by decide +kernel
theorem d_Zip_keepParts_43 : decode (mC m_Zip_keepParts) 43 = .ok (.aload_n 3, 1) := by decide +kernel
theorem d_Zip_keepParts_44 : decode (mC m_Zip_keepParts) 44 = .ok (.getfield 215, 3) := by decide +kernel
theorem d_Zip_keepParts_47 : decode (mC m_Zip_keepParts) 47 = .ok (.invokevirtual 218, 3) := by decide +kernel
theorem d_Zip_keepParts_50 : decode (mC m_Zip_keepParts) 50 = .ok (.iinc 2 1, 3) := by decide +kernel
theorem d_Zip_keepParts_53 : decode (mC m_Zip_keepParts) 53 = .ok (.goto (-51), 3) := by decide +kernel
theorem d_Zip_keepParts_56 : decode (mC m_Zip_keepParts) 56 = .ok (.return_, 1) := by decide +kernel
def b_Zip_keepParts_50 (F : Nat) (K2 : Nat → Int32 → Int32 → zW → Option (Unit × zW)) (v0 : Nat) (v1 : Int32) (v2 : Int32) (w : zW) : Option (Unit × zW) := K2 v0 v1 (v2 + (1 : Int32)) w
set_option maxRecDepth 100000 in
set_option maxHeartbeats 4000000 in
theorem b_Zip_keepParts_50_ok (G : zG) (F : Nat) (K2 : Nat → Int32 → Int32 → zW → Option (Unit × zW)) (hK2 : ∀ (v0 : Nat) (v1 : Int32) (v2 : Int32) (w : zW) (r : (Unit × zW)), K2 v0 v1 v2 w = some r → zV G m_Zip_keepParts 2 [(0, .ref (z0 G + v0)), (1, .int v1), (2, .int v2)] [] w 0 0 (oV r.1) r.2) (v0 : Nat) (v1 : Int32) (v2 : Int32) (w : zW) (r : (Unit × zW)) (h : b_Zip_keepParts_50 F K2 v0 v1 v2 w = some r) : zV G m_Zip_keepParts 50 [(0, .ref (z0 G + v0)), (1, .int v1), (2, .int v2)] [] w 0 0 (oV r.1) r.2 := by
  unfold b_Zip_keepParts_50 at h
  refine V_iinc (i := 2) (v := (v2 + (1 : Int32))) d_Zip_keepParts_50 2 rfl (congrArg (fun y => v2 + y) (by decide : Int32.ofInt (1) = (1 : Int32))) (by decide) rfl ?_
  refine V_goto (tgt := 2) d_Zip_keepParts_53 (by decide) ?_
  refine V_lv [1, 2, 0] rfl ?_
  exact hK2 v0 v1 (v2 + (1 : Int32)) w _ h
def b_Zip_keepParts_2 (F : Nat) (K2 : Nat → Int32 → Int32 → zW → Option (Unit × zW)) (v0 : Nat) (v1 : Int32) (v2 : Int32) (w : zW) : Option (Unit × zW) := (getR w v0 8 6).bind fun x4 => (getI w x4 6 3).bind fun x7 => if x7 ≤ v2 then (some ((), w)) else (if v2 = v1 then (b_Zip_keepParts_50 F K2 v0 v1 v2 w) else ((getR w v0 8 6).bind fun x19 => (getR w x19 6 2).bind fun x22 => (rget w x22 v2).bind fun x26 => (getR w v0 8 7).bind fun x29 => (getR w x29 7 0).bind fun x32 => (getR w v0 8 1).bind fun x36 => (getI w x26 1 7).bind fun x40 => (getI w x26 1 8).bind fun x44 => (zobj w x32 0).bind fun _ => (f_Row_appendPart F x32 x36 x40 x44 w).bind fun r47 => b_Zip_keepParts_50 F K2 v0 v1 v2 r47.2))
set_option maxRecDepth 100000 in
set_option maxHeartbeats 4000000 in
theorem b_Zip_keepParts_2_ok (G : zG) (F : Nat) (K2 : Nat → Int32 → Int32 → zW → Option (Unit × zW)) (hK2 : ∀ (v0 : Nat) (v1 : Int32) (v2 : Int32) (w : zW) (r : (Unit × zW)), K2 v0 v1 v2 w = some r → zV G m_Zip_keepParts 2 [(0, .ref (z0 G + v0)), (1, .int v1), (2, .int v2)] [] w 0 0 (oV r.1) r.2) (v0 : Nat) (v1 : Int32) (v2 : Int32) (w : zW) (r : (Unit × zW)) (h : b_Zip_keepParts_2 F K2 v0 v1 v2 w = some r) : zV G m_Zip_keepParts 2 [(0, .ref (z0 G + v0)), (1, .int v1), (2, .int v2)] [] w 0 0 (oV r.1) r.2 := by
  unfold b_Zip_keepParts_2 at h
  refine V_iload_n (i := 2) d_Zip_keepParts_2 rfl 2 rfl ?_
  refine V_aload_n (i := 0) d_Zip_keepParts_3 rfl 0 rfl ?_
  obtain ⟨x4, e4, h⟩ := ob h
  refine V_getR (ci := 8) (k := 6) d_Zip_keepParts_4 e4 rfl (by decide) in_Zip k261 ?_
  obtain ⟨x7, e7, h⟩ := ob h
  refine V_getI (ci := 6) (k := 3) d_Zip_keepParts_7 e7 rfl (by decide) in_Archive k217 ?_
  refine V_icmp_ge (tgt := 56) d_Zip_keepParts_10 (by decide) (fun c10 => ?_) (fun c10 => ?_)
  · rw [if_pos c10] at h
    obtain rfl := Option.some.inj h
    exact V_vret rfl (by decide) (by decide) d_Zip_keepParts_56
  · rw [if_neg c10] at h
    refine V_iload_n (i := 2) d_Zip_keepParts_13 rfl 2 rfl ?_
    refine V_iload_n (i := 1) d_Zip_keepParts_14 rfl 1 rfl ?_
    refine V_icmp_eq (tgt := 50) d_Zip_keepParts_15 (by decide) (fun c15 => ?_) (fun c15 => ?_)
    · rw [if_pos c15] at h
      exact b_Zip_keepParts_50_ok G F K2 hK2 v0 v1 v2 w _ h
    · rw [if_neg c15] at h
      refine V_aload_n (i := 0) d_Zip_keepParts_18 rfl 0 rfl ?_
      obtain ⟨x19, e19, h⟩ := ob h
      refine V_getR (ci := 8) (k := 6) d_Zip_keepParts_19 e19 rfl (by decide) in_Zip k261 ?_
      obtain ⟨x22, e22, h⟩ := ob h
      refine V_getR (ci := 6) (k := 2) d_Zip_keepParts_22 e22 rfl (by decide) in_Archive k215 ?_
      refine V_iload_n (i := 2) d_Zip_keepParts_25 rfl 2 rfl ?_
      obtain ⟨x26, e26, h⟩ := ob h
      refine V_rget d_Zip_keepParts_26 e26 ?_
      refine V_astore_n (i := 3) d_Zip_keepParts_27 rfl (by decide) rfl ?_
      refine V_aload_n (i := 0) d_Zip_keepParts_28 rfl 1 rfl ?_
      obtain ⟨x29, e29, h⟩ := ob h
      refine V_getR (ci := 8) (k := 7) d_Zip_keepParts_29 e29 rfl (by decide) in_Zip k262 ?_
      obtain ⟨x32, e32, h⟩ := ob h
      refine V_getR (ci := 7) (k := 0) d_Zip_keepParts_32 e32 rfl (by decide) in_Writer k245 ?_
      refine V_aload_n (i := 0) d_Zip_keepParts_35 rfl 1 rfl ?_
      obtain ⟨x36, e36, h⟩ := ob h
      refine V_getR (ci := 8) (k := 1) d_Zip_keepParts_36 e36 rfl (by decide) in_Zip k256 ?_
      refine V_aload_n (i := 3) d_Zip_keepParts_39 rfl 0 rfl ?_
      obtain ⟨x40, e40, h⟩ := ob h
      refine V_getI (ci := 1) (k := 7) d_Zip_keepParts_40 e40 rfl (by decide) in_Entry k190 ?_
      refine V_aload_n (i := 3) d_Zip_keepParts_43 rfl 0 rfl ?_
      obtain ⟨x44, e44, h⟩ := ob h
      refine V_getI (ci := 1) (k := 8) d_Zip_keepParts_44 e44 rfl (by decide) in_Entry k192 ?_
      obtain ⟨_, eo47, h⟩ := ob h
      obtain ⟨r47, e47, h⟩ := ob h
      refine V_call (v := none) (st := []) (inv_V (N := m_Row_appendPart) (As := [.ref (z0 G + x36), .int x40, .int x44]) (ci := 0) d_Zip_keepParts_47 eo47 rfl k524 k314 k315 kc_Row_appendPart y_Row_appendPart) ⟨Or.inl kc_Row_appendPart, k2, by decide, by decide⟩ (Nat.le_of_ble_eq_true rfl) (by decide) (by decide) (c_Row_appendPart G F x32 x36 x40 x44 w r47 e47) ?_
      refine V_lv [1, 2, 3] rfl ?_
      exact b_Zip_keepParts_50_ok G F K2 hK2 v0 v1 v2 r47.2 _ h
def l_Zip_keepParts_2 (F : Nat) : Nat → Nat → Int32 → Int32 → zW → Option (Unit × zW)
  | 0 => fun _ _ _ _ => none
  | n + 1 => b_Zip_keepParts_2 F (l_Zip_keepParts_2 F n)
theorem l_Zip_keepParts_2_ok (G : zG) (F : Nat) (n : Nat) :  ∀ (v0 : Nat) (v1 : Int32) (v2 : Int32) (w : zW) (r : (Unit × zW)), l_Zip_keepParts_2 F n v0 v1 v2 w = some r → zV G m_Zip_keepParts 2 [(0, .ref (z0 G + v0)), (1, .int v1), (2, .int v2)] [] w 0 0 (oV r.1) r.2 := by
  induction n with
  | zero => intro v0 v1 v2 w r h; exact nomatch (show (none : Option (Unit × zW)) = some r from h)
  | succ n ih => intro v0 v1 v2 w r h; exact b_Zip_keepParts_2_ok G F (l_Zip_keepParts_2 F n) ih v0 v1 v2 w r h
def b_Zip_keepParts_0 (F : Nat) (v0 : Nat) (v1 : Int32) (w : zW) : Option (Unit × zW) := l_Zip_keepParts_2 F F v0 v1 (0 : Int32) w
set_option maxRecDepth 100000 in
set_option maxHeartbeats 4000000 in
theorem b_Zip_keepParts_0_ok (G : zG) (F : Nat) (v0 : Nat) (v1 : Int32) (w : zW) (r : (Unit × zW)) (h : b_Zip_keepParts_0 F v0 v1 w = some r) : zV G m_Zip_keepParts 0 [(0, .ref (z0 G + v0)), (1, .int v1)] [] w 0 0 (oV r.1) r.2 := by
  unfold b_Zip_keepParts_0 at h
  refine V_iconst (v := 0) d_Zip_keepParts_0 (by decide) ?_
  refine V_istore_n (i := 2) d_Zip_keepParts_1 rfl (by decide) rfl ?_
  refine V_lv [1, 2, 0] rfl ?_
  exact l_Zip_keepParts_2_ok G F F v0 v1 (0 : Int32) w _ h
def f_Zip_keepParts (F : Nat) (v0 : Nat) (v1 : Int32) (w : zW) : Option (Unit × zW) := b_Zip_keepParts_0 F v0 v1 w
theorem c_Zip_keepParts (G : zG) (F : Nat) (v0 : Nat) (v1 : Int32) (w : zW) (r : (Unit × zW)) (h : f_Zip_keepParts F v0 v1 w = some r) : zCT G m_Zip_keepParts [.ref (z0 G + v0), .int v1] w (oV r.1) r.2 := zCT.ofV (by decide +kernel) (Or.inl ⟨kc_Zip_keepParts, rfl⟩) (Nat.le_of_ble_eq_true rfl) (b_Zip_keepParts_0_ok G F v0 v1 w r h)

/-! ZipArray$Writer.writePart(LZipArray$Entry;)V -/
def m_Writer_writePart : zM := (⟨R_Writer, "writePart", "(LZipArray$Entry;)V"⟩, prog_9_method_7_code, 2, none, [], { frames := 3, cells := 0, slots := 0, locals := 67 })
theorem k186 : Cond.fieldLink R_Writer 85 (T_Entry 6).1 (T_Entry 6).2.1 (T_Entry 6).2.2.1 ∈ zTb := tb_at 186 (by decide +kernel) rfl
theorem k798 : Cond.constantLong R_Writer 81 33639248 ∈ zTb := tb_at 798 (by decide +kernel) rfl
theorem k799 : Cond.constantLong R_Writer 83 28 ∈ zTb := tb_at 799 (by decide +kernel) rfl
theorem kc_Writer_writePart : Cond.code (mY m_Writer_writePart) (mC m_Writer_writePart) (mL m_Writer_writePart) (mT m_Writer_writePart) ∈ zTb := tb_at 797 (by decide +kernel) rfl
theorem y_Writer_writePart : (mY m_Writer_writePart).cls ≠ "java/lang/invoke/MethodHandle" ∧ (mY m_Writer_writePart).cls ≠ "java/lang/invoke/VarHandle" ∧ (parseMethodDescriptor (mY m_Writer_writePart).desc).map (fun d => d.parameters.length) = some 1 := by decide +kernel
theorem d_Writer_writePart_0 : decode (mC m_Writer_writePart) 0 = .ok (.aload_n 0, 1) := by decide +kernel
theorem d_Writer_writePart_1 : decode (mC m_Writer_writePart) 1 = .ok (.getfield 9, 3) := by decide +kernel
theorem d_Writer_writePart_4 : decode (mC m_Writer_writePart) 4 = .ok (.ldc2_w 81, 3) := by decide +kernel
theorem d_Writer_writePart_7 : decode (mC m_Writer_writePart) 7 = .ok (.iconst 4, 1) := by decide +kernel
theorem d_Writer_writePart_8 : decode (mC m_Writer_writePart) 8 = .ok (.invokevirtual 36, 3) := by decide +kernel
theorem d_Writer_writePart_11 : decode (mC m_Writer_writePart) 11 = .ok (.aload_n 0, 1) := by decide +kernel
theorem d_Writer_writePart_12 : decode (mC m_Writer_writePart) 12 = .ok (.getfield 9, 3) := by decide +kernel
theorem d_Writer_writePart_15 : decode (mC m_Writer_writePart) 15 = .ok (.lconst 0, 1) := by decide +kernel
theorem d_Writer_writePart_16 : decode (mC m_Writer_writePart) 16 = .ok (.iconst 4, 1) := by decide +kernel
theorem d_Writer_writePart_17 : decode (mC m_Writer_writePart) 17 = .ok (.invokevirtual 36, 3) := by decide +kernel
theorem d_Writer_writePart_20 : decode (mC m_Writer_writePart) 20 = .ok (.aload_n 0, 1) := by decide +kernel
theorem d_Writer_writePart_21 : decode (mC m_Writer_writePart) 21 = .ok (.getfield 9, 3) := by decide +kernel
theorem d_Writer_writePart_24 : decode (mC m_Writer_writePart) 24 = .ok (.aload_n 1, 1) := by decide +kernel
theorem d_Writer_writePart_25 : decode (mC m_Writer_writePart) 25 = .ok (.getfield 28, 3) := by decide +kernel
theorem d_Writer_writePart_28 : decode (mC m_Writer_writePart) 28 = .ok (.i2l, 1) := by decide +kernel
theorem d_Writer_writePart_29 : decode (mC m_Writer_writePart) 29 = .ok (.iconst 2, 1) := by decide +kernel
theorem d_Writer_writePart_30 : decode (mC m_Writer_writePart) 30 = .ok (.invokevirtual 36, 3) := by decide +kernel
theorem d_Writer_writePart_33 : decode (mC m_Writer_writePart) 33 = .ok (.aload_n 0, 1) := by decide +kernel
theorem d_Writer_writePart_34 : decode (mC m_Writer_writePart) 34 = .ok (.getfield 9, 3) := by decide +kernel
theorem d_Writer_writePart_37 : decode (mC m_Writer_writePart) 37 = .ok (.aload_n 1, 1) := by decide +kernel
theorem d_Writer_writePart_38 : decode (mC m_Writer_writePart) 38 = .ok (.getfield 40, 3) := by decide +kernel
theorem d_Writer_writePart_41 : decode (mC m_Writer_writePart) 41 = .ok (.i2l, 1) := by decide +kernel
theorem d_Writer_writePart_42 : decode (mC m_Writer_writePart) 42 = .ok (.iconst 2, 1) := by decide +kernel
theorem d_Writer_writePart_43 : decode (mC m_Writer_writePart) 43 = .ok (.invokevirtual 36, 3) := by decide +kernel
theorem d_Writer_writePart_46 : decode (mC m_Writer_writePart) 46 = .ok (.aload_n 0, 1) := by decide +kernel
theorem d_Writer_writePart_47 : decode (mC m_Writer_writePart) 47 = .ok (.getfield 9, 3) := by decide +kernel
theorem d_Writer_writePart_50 : decode (mC m_Writer_writePart) 50 = .ok (.lconst 0, 1) := by decide +kernel
theorem d_Writer_writePart_51 : decode (mC m_Writer_writePart) 51 = .ok (.iconst 4, 1) := by decide +kernel
theorem d_Writer_writePart_52 : decode (mC m_Writer_writePart) 52 = .ok (.invokevirtual 36, 3) := by decide +kernel
theorem d_Writer_writePart_55 : decode (mC m_Writer_writePart) 55 = .ok (.aload_n 0, 1) := by decide +kernel
theorem d_Writer_writePart_56 : decode (mC m_Writer_writePart) 56 = .ok (.getfield 9, 3) := by decide +kernel
theorem d_Writer_writePart_59 : decode (mC m_Writer_writePart) 59 = .ok (.aload_n 1, 1) := by decide +kernel
theorem d_Writer_writePart_60 : decode (mC m_Writer_writePart) 60 = .ok (.getfield 43, 3) := by decide +kernel
theorem d_Writer_writePart_63 : decode (mC m_Writer_writePart) 63 = .ok (.i2l, 1) := by decide +kernel
theorem d_Writer_writePart_64 : decode (mC m_Writer_writePart) 64 = .ok (.iconst 4, 1) := by decide +kernel
theorem d_Writer_writePart_65 : decode (mC m_Writer_writePart) 65 = .ok (.invokevirtual 36, 3) := by decide +kernel
theorem d_Writer_writePart_68 : decode (mC m_Writer_writePart) 68 = .ok (.aload_n 0, 1) := by decide +kernel
theorem d_Writer_writePart_69 : decode (mC m_Writer_writePart) 69 = .ok (.getfield 9, 3) := by decide +kernel
theorem d_Writer_writePart_72 : decode (mC m_Writer_writePart) 72 = .ok (.aload_n 0, 1) := by decide +kernel
theorem d_Writer_writePart_73 : decode (mC m_Writer_writePart) 73 = .ok (.aload_n 1, 1) := by decide +kernel
theorem d_Writer_writePart_74 : decode (mC m_Writer_writePart) 74 = .ok (.invokevirtual 46, 3) := by decide +kernel
theorem d_Writer_writePart_77 : decode (mC m_Writer_writePart) 77 = .ok (.ifCond .eq 9, 3) := by decide +kernel
theorem d_Writer_writePart_80 : decode (mC m_Writer_writePart) 80 = .ok (.ldc2_w 50, 3) := by decide +kernel
theorem d_Writer_writePart_83 : decode (mC m_Writer_writePart) 83 = .ok (.goto 8, 3) := by decide +kernel
theorem d_Writer_writePart_86 : decode (mC m_Writer_writePart) 86 = .ok (.aload_n 1, 1) := by decide +kernel
theorem d_Writer_writePart_87 : decode (mC m_Writer_writePart) 87 = .ok (.getfield 52, 3) := by decide +kernel
theorem d_Writer_writePart_90 : decode (mC m_Writer_writePart) 90 = .ok (.i2l, 1) := by decide +kernel
theorem d_Writer_writePart_91 : decode (mC m_Writer_writePart) 91 = .ok (.iconst 4, 1) := by decide +kernel
theorem d_Writer_writePart_92 : decode (mC m_Writer_writePart) 92 = .ok (.invokevirtual 36, 3) := by decide +kernel
theorem d_Writer_writePart_95 : decode (mC m_Writer_writePart) 95 = .ok (.aload_n 0, 1) := by decide +kernel
theorem d_Writer_writePart_96 : decode (mC m_Writer_writePart) 96 = .ok (.getfield 9, 3) := by decide +kernel
theorem d_Writer_writePart_99 : decode (mC m_Writer_writePart) 99 = .ok (.aload_n 0, 1) := by decide +kernel
theorem d_Writer_writePart_100 : decode (mC m_Writer_writePart) 100 = .ok (.aload_n 1, 1) := by decide +kernel
theorem d_Writer_writePart_101 : decode (mC m_Writer_writePart) 101 = .ok (.invokevirtual 46, 3) := by decide +kernel
theorem d_Writer_writePart_104 : decode (mC m_Writer_writePart) 104 = .ok (.ifCond .eq 9, 3) := by decide +kernel
theorem d_Writer_writePart_107 : decode (mC m_Writer_writePart) 107 = .ok (.ldc2_w 50, 3) := by decide +kernel
theorem d_Writer_writePart_110 : decode (mC m_Writer_writePart) 110 = .ok (.goto 8, 3) := by decide +kernel
theorem d_Writer_writePart_113 : decode (mC m_Writer_writePart) 113 = .ok (.aload_n 1, 1) := by decide +kernel
theorem d_Writer_writePart_114 : decode (mC m_Writer_writePart) 114 = .ok (.getfield 55, 3) := by decide +kernel
theorem d_Writer_writePart_117 : decode (mC m_Writer_writePart) 117 = .ok (.i2l, 1) := by decide +kernel
theorem d_Writer_writePart_118 : decode (mC m_Writer_writePart) 118 = .ok (.iconst 4, 1) := by decide +kernel
theorem d_Writer_writePart_119 : decode (mC m_Writer_writePart) 119 = .ok (.invokevirtual 36, 3) := by decide +kernel
theorem d_Writer_writePart_122 : decode (mC m_Writer_writePart) 122 = .ok (.aload_n 0, 1) := by decide +kernel
theorem d_Writer_writePart_123 : decode (mC m_Writer_writePart) 123 = .ok (.getfield 9, 3) := by decide +kernel
theorem d_Writer_writePart_126 : decode (mC m_Writer_writePart) 126 = .ok (.aload_n 1, 1) := by decide +kernel
theorem d_Writer_writePart_127 : decode (mC m_Writer_writePart) 127 = .ok (.getfield 58, 3) := by decide +kernel
theorem d_Writer_writePart_130 : decode (mC m_Writer_writePart) 130 = .ok (.invokestatic 61, 3) := by decide +kernel
theorem d_Writer_writePart_133 : decode (mC m_Writer_writePart) 133 = .ok (.i2l, 1) := by decide +kernel
theorem d_Writer_writePart_134 : decode (mC m_Writer_writePart) 134 = .ok (.iconst 2, 1) := by decide +kernel
theorem d_Writer_writePart_135 : decode (mC m_Writer_writePart) 135 = .ok (.invokevirtual 36, 3) := by decide +kernel
theorem d_Writer_writePart_138 : decode (mC m_Writer_writePart) 138 = .ok (.aload_n 0, 1) := by decide +kernel
theorem d_Writer_writePart_139 : decode (mC m_Writer_writePart) 139 = .ok (.getfield 9, 3) := by decide +kernel
theorem d_Writer_writePart_142 : decode (mC m_Writer_writePart) 142 = .ok (.aload_n 0, 1) := by decide +kernel
theorem d_Writer_writePart_143 : decode (mC m_Writer_writePart) 143 = .ok (.aload_n 1, 1) := by decide +kernel
theorem d_Writer_writePart_144 : decode (mC m_Writer_writePart) 144 = .ok (.invokevirtual 46, 3) := by decide +kernel
theorem d_Writer_writePart_147 : decode (mC m_Writer_writePart) 147 = .ok (.ifCond .eq 9, 3) := by decide +kernel
theorem d_Writer_writePart_150 : decode (mC m_Writer_writePart) 150 = .ok (.ldc2_w 83, 3) := by decide +kernel
theorem d_Writer_writePart_153 : decode (mC m_Writer_writePart) 153 = .ok (.goto 4, 3) := by decide +kernel
theorem d_Writer_writePart_156 : decode (mC m_Writer_writePart) 156 = .ok (.lconst 0, 1) := by decide +kernel
theorem d_Writer_writePart_157 : decode (mC m_Writer_writePart) 157 = .ok (.iconst 2, 1) := by decide +kernel
theorem d_Writer_writePart_158 : decode (mC m_Writer_writePart) 158 = .ok (.invokevirtual 36, 3) := by decide +kernel
theorem d_Writer_writePart_161 : decode (mC m_Writer_writePart) 161 = .ok (.aload_n 0, 1) := by decide +kernel
theorem d_Writer_writePart_162 : decode (mC m_Writer_writePart) 162 = .ok (.getfield 9, 3) := by decide +kernel
theorem d_Writer_writePart_165 : decode (mC m_Writer_writePart) 165 = .ok (.lconst 0, 1) := by decide +kernel
theorem d_Writer_writePart_166 : decode (mC m_Writer_writePart) 166 = .ok (.iconst 2, 1) := by decide +kernel
theorem d_Writer_writePart_167 : decode (mC m_Writer_writePart) 167 = .ok (.invokevirtual 36, 3) := by decide +kernel
theorem d_Writer_writePart_170 : decode (mC m_Writer_writePart) 170 = .ok (.aload_n 0, 1) := by decide +kernel
theorem d_Writer_writePart_171 : decode (mC m_Writer_writePart) 171 = .ok (.getfield 9, 3) := by decide +kernel
theorem d_Writer_writePart_174 : decode (mC m_Writer_writePart) 174 = .ok (.lconst 0, 1) := by decide +kernel
theorem d_Writer_writePart_175 : decode (mC m_Writer_writePart) 175 = .ok (.bipush 8, 2) := by decide +kernel
theorem d_Writer_writePart_177 : decode (mC m_Writer_writePart) 177 = .ok (.invokevirtual 36, 3) := by decide +kernel
theorem d_Writer_writePart_180 : decode (mC m_Writer_writePart) 180 = .ok (.aload_n 0, 1) := by decide +kernel
theorem d_Writer_writePart_181 : decode (mC m_Writer_writePart) 181 = .ok (.getfield 9, 3) := by decide +kernel
theorem d_Writer_writePart_184 : decode (mC m_Writer_writePart) 184 = .ok (.aload_n 0, 1) := by decide +kernel
theorem d_Writer_writePart_185 : decode (mC m_Writer_writePart) 185 = .ok (.aload_n 1, 1) := by decide +kernel
theorem d_Writer_writePart_186 : decode (mC m_Writer_writePart) 186 = .ok (.invokevirtual 46, 3) := by decide +kernel
theorem d_Writer_writePart_189 : decode (mC m_Writer_writePart) 189 = .ok (.ifCond .eq 9, 3) := by decide +kernel
theorem d_Writer_writePart_192 : decode (mC m_Writer_writePart) 192 = .ok (.ldc2_w 50, 3) := by decide +kernel
theorem d_Writer_writePart_195 : decode (mC m_Writer_writePart) 195 = .ok (.goto 8, 3) := by decide +kernel
theorem d_Writer_writePart_198 : decode (mC m_Writer_writePart) 198 = .ok (.aload_n 1, 1) := by decide +kernel
theorem d_Writer_writePart_199 : decode (mC m_Writer_writePart) 199 = .ok (.getfield 85, 3) := by decide +kernel
theorem d_Writer_writePart_202 : decode (mC m_Writer_writePart) 202 = .ok (.i2l, 1) := by decide +kernel
theorem d_Writer_writePart_203 : decode (mC m_Writer_writePart) 203 = .ok (.iconst 4, 1) := by decide +kernel
theorem d_Writer_writePart_204 : decode (mC m_Writer_writePart) 204 = .ok (.invokevirtual 36, 3) := by decide +kernel
theorem d_Writer_writePart_207 : decode (mC m_Writer_writePart) 207 = .ok (.aload_n 0, 1) := by decide +kernel
theorem d_Writer_writePart_208 : decode (mC m_Writer_writePart) 208 = .ok (.getfield 9, 3) := by decide +kernel
theorem d_Writer_writePart_211 : decode (mC m_Writer_writePart) 211 = .ok (.aload_n 1, 1) := by decide +kernel
theorem d_Writer_writePart_212 : decode (mC m_Writer_writePart) 212 = .ok (.getfield 58, 3) := by decide +kernel
theorem d_Writer_writePart_215 : decode (mC m_Writer_writePart) 215 = .ok (.i2l, 1) := by decide +kernel
theorem d_Writer_writePart_216 : decode (mC m_Writer_writePart) 216 = .ok (.aload_n 1, 1) := by decide +kernel
theorem d_Writer_writePart_217 : decode (mC m_Writer_writePart) 217 = .ok (.getfield 58, 3) := by decide +kernel
theorem d_Writer_writePart_220 : decode (mC m_Writer_writePart) 220 = .ok (.invokestatic 61, 3) := by decide +kernel
theorem d_Writer_writePart_223 : decode (mC m_Writer_writePart) 223 = .ok (.invokevirtual 67, 3) := by decide +kernel
theorem d_Writer_writePart_226 : decode (mC m_Writer_writePart) 226 = .ok (.aload_n 0, 1) := by decide +kernel
theorem d_Writer_writePart_227 : decode (mC m_Writer_writePart) 227 = .ok (.aload_n 1, 1) := by decide +kernel
theorem d_Writer_writePart_228 : decode (mC m_Writer_writePart) 228 = .ok (.invokevirtual 46, 3) := by decide +kernel
theorem d_Writer_writePart_231 : decode (mC m_Writer_writePart) 231 = .ok (.ifCond .eq 24, 3) := by decide +kernel
theorem d_Writer_writePart_234 : decode (mC m_Writer_writePart) 234 = .ok (.aload_n 0, 1) := by decide +kernel
theorem d_Writer_writePart_235 : decode (mC m_Writer_writePart) 235 = .ok (.aload_n 1, 1) := by decide +kernel
theorem d_Writer_writePart_236 : decode (mC m_Writer_writePart) 236 = .ok (.bipush 24, 2) := by decide +kernel
theorem d_Writer_writePart_238 : decode (mC m_Writer_writePart) 238 = .ok (.invokevirtual 70, 3) := by decide +kernel
theorem d_Writer_writePart_241 : decode (mC m_Writer_writePart) 241 = .ok (.aload_n 0, 1) := by decide +kernel
theorem d_Writer_writePart_242 : decode (mC m_Writer_writePart) 242 = .ok (.getfield 9, 3) := by decide +kernel
theorem d_Writer_writePart_245 : decode (mC m_Writer_writePart) 245 = .ok (.aload_n 1, 1) := by decide +kernel
theorem d_Writer_writePart_246 : decode (mC m_Writer_writePart) 246 = .ok (.getfield 85, 3) := by decide +kernel
theorem d_Writer_writePart_249 : decode (mC m_Writer_writePart) 249 = .ok (.i2l, 1) := by decide +kernel
theorem d_Writer_writePart_250 : decode (mC m_Writer_writePart) 250 = .ok (.bipush 8, 2) := by decide +kernel
theorem d_Writer_writePart_252 : decode (mC m_Writer_writePart) 252 = .ok (.invokevirtual 36, 3) := by decide +kernel
theorem d_Writer_writePart_255 : decode (mC m_Writer_writePart) 255 = .ok (.return_, 1) := by decide +kernel
def b_Writer_writePart_203 (F : Nat) (v0 : Nat) (v1 : Nat) (s0 : Nat) (s1 : Int64) (w : zW) : Option (Unit × zW) := (zobj w s0 0).bind fun _ => (f_Row_appendNumber F s0 s1 (4 : Int32) w).bind fun r204 => (getR r204.2 v0 7 0).bind fun x208 => (getI r204.2 v1 1 0).bind fun x212 => (getI r204.2 v1 1 0).bind fun x217 => (f_Zip_nameBytes F x217 r204.2).bind fun r220 => (zobj r220.2 x208 0).bind fun _ => (f_Row_appendHighestFirst F x208 x212.toInt64 r220.1 r220.2).bind fun r223 => (zobj r223.2 v0 7).bind fun _ => (f_Writer_isWide F v0 v1 r223.2).bind fun r228 => if r228.1 = 0 then (some ((), r228.2)) else ((zobj r228.2 v0 7).bind fun _ => (f_Writer_writeRecord F v0 v1 (24 : Int32) r228.2).bind fun r238 => (getR r238.2 v0 7 0).bind fun x242 => (getI r238.2 v1 1 6).bind fun x246 => (zobj r238.2 x242 0).bind fun _ => (f_Row_appendNumber F x242 x246.toInt64 (8 : Int32) r238.2).bind fun r252 => some ((), r252.2))
set_option maxRecDepth 100000 in
set_option maxHeartbeats 4000000 in
theorem b_Writer_writePart_203_ok (G : zG) (F : Nat) (v0 : Nat) (v1 : Nat) (s0 : Nat) (s1 : Int64) (w : zW) (r : (Unit × zW)) (h : b_Writer_writePart_203 F v0 v1 s0 s1 w = some r) : zV G m_Writer_writePart 203 [(0, .ref (z0 G + v0)), (1, .ref (z0 G + v1))] [.long s1, .ref (z0 G + s0)] w 0 0 (oV r.1) r.2 := by
  unfold b_Writer_writePart_203 at h
  refine V_iconst (v := 4) d_Writer_writePart_203 (by decide) ?_
  obtain ⟨_, eo204, h⟩ := ob h
  obtain ⟨r204, e204, h⟩ := ob h
  refine V_call (v := none) (st := []) (inv_V (N := m_Row_appendNumber) (As := [.long s1, .int (4 : Int32)]) (ci := 0) d_Writer_writePart_204 eo204 rfl k333 k334 k335 kc_Row_appendNumber y_Row_appendNumber) ⟨Or.inl kc_Row_appendNumber, k2, by decide, by decide⟩ (Nat.le_of_ble_eq_true rfl) (by decide) (by decide) (c_Row_appendNumber G F s0 s1 (4 : Int32) w r204 e204) ?_
  refine V_aload_n (i := 0) d_Writer_writePart_207 rfl 0 rfl ?_
  obtain ⟨x208, e208, h⟩ := ob h
  refine V_getR (ci := 7) (k := 0) d_Writer_writePart_208 e208 rfl (by decide) in_Writer k244 ?_
  refine V_aload_n (i := 1) d_Writer_writePart_211 rfl 1 rfl ?_
  obtain ⟨x212, e212, h⟩ := ob h
  refine V_getI (ci := 1) (k := 0) d_Writer_writePart_212 e212 rfl (by decide) in_Entry k169 ?_
  refine V_i2l d_Writer_writePart_215 ?_
  refine V_aload_n (i := 1) d_Writer_writePart_216 rfl 1 rfl ?_
  obtain ⟨x217, e217, h⟩ := ob h
  refine V_getI (ci := 1) (k := 0) d_Writer_writePart_217 e217 rfl (by decide) in_Entry k169 ?_
  obtain ⟨r220, e220, h⟩ := ob h
  refine V_call (v := some (.int r220.1)) (st := [.long x212.toInt64, .ref (z0 G + x208)]) (inv_SN (N := m_Zip_nameBytes) (As := [.int x217]) d_Writer_writePart_220 k778 k758 k1 kc_Zip_nameBytes y_Zip_nameBytes) ⟨Or.inl kc_Zip_nameBytes, k1, by decide, by decide⟩ (Nat.le_of_ble_eq_true rfl) (by decide) (by decide) (c_Zip_nameBytes G F x217 r204.2 r220 e220) ?_
  obtain ⟨_, eo223, h⟩ := ob h
  obtain ⟨r223, e223, h⟩ := ob h
  refine V_call (v := none) (st := []) (inv_V (N := m_Row_appendHighestFirst) (As := [.long x212.toInt64, .int r220.1]) (ci := 0) d_Writer_writePart_223 eo223 rfl k780 k624 k625 kc_Row_appendHighestFirst y_Row_appendHighestFirst) ⟨Or.inl kc_Row_appendHighestFirst, k2, by decide, by decide⟩ (Nat.le_of_ble_eq_true rfl) (by decide) (by decide) (c_Row_appendHighestFirst G F x208 x212.toInt64 r220.1 r220.2 r223 e223) ?_
  refine V_aload_n (i := 0) d_Writer_writePart_226 rfl 0 rfl ?_
  refine V_aload_n (i := 1) d_Writer_writePart_227 rfl 1 rfl ?_
  obtain ⟨_, eo228, h⟩ := ob h
  obtain ⟨r228, e228, h⟩ := ob h
  refine V_call (v := some (.int r228.1)) (st := []) (inv_V (N := m_Writer_isWide) (As := [.ref (z0 G + v1)]) (ci := 7) d_Writer_writePart_228 eo228 rfl k774 k776 sel_Writer_isWide kc_Writer_isWide y_Writer_isWide) ⟨Or.inl kc_Writer_isWide, k9, by decide, by decide⟩ (Nat.le_of_ble_eq_true rfl) (by decide) (by decide) (c_Writer_isWide G F v0 v1 r223.2 r228 e228) ?_
  refine V_if_eq (tgt := 255) d_Writer_writePart_231 (by decide) (fun c231 => ?_) (fun c231 => ?_)
  · rw [if_pos c231] at h
    obtain rfl := Option.some.inj h
    exact V_vret rfl (by decide) (by decide) d_Writer_writePart_255
  · rw [if_neg c231] at h
    refine V_aload_n (i := 0) d_Writer_writePart_234 rfl 0 rfl ?_
    refine V_aload_n (i := 1) d_Writer_writePart_235 rfl 1 rfl ?_
    refine V_bipush (v := 24) d_Writer_writePart_236 (by decide) ?_
    obtain ⟨_, eo238, h⟩ := ob h
    obtain ⟨r238, e238, h⟩ := ob h
    refine V_call (v := none) (st := []) (inv_V (N := m_Writer_writeRecord) (As := [.ref (z0 G + v1), .int (24 : Int32)]) (ci := 7) d_Writer_writePart_238 eo238 rfl k781 k783 sel_Writer_writeRecord kc_Writer_writeRecord y_Writer_writeRecord) ⟨Or.inl kc_Writer_writeRecord, k9, by decide, by decide⟩ (Nat.le_of_ble_eq_true rfl) (by decide) (by decide) (c_Writer_writeRecord G F v0 v1 (24 : Int32) r228.2 r238 e238) ?_
    refine V_aload_n (i := 0) d_Writer_writePart_241 rfl 0 rfl ?_
    obtain ⟨x242, e242, h⟩ := ob h
    refine V_getR (ci := 7) (k := 0) d_Writer_writePart_242 e242 rfl (by decide) in_Writer k244 ?_
    refine V_aload_n (i := 1) d_Writer_writePart_245 rfl 1 rfl ?_
    obtain ⟨x246, e246, h⟩ := ob h
    refine V_getI (ci := 1) (k := 6) d_Writer_writePart_246 e246 rfl (by decide) in_Entry k186 ?_
    refine V_i2l d_Writer_writePart_249 ?_
    refine V_bipush (v := 8) d_Writer_writePart_250 (by decide) ?_
    obtain ⟨_, eo252, h⟩ := ob h
    obtain ⟨r252, e252, h⟩ := ob h
    refine V_call (v := none) (st := []) (inv_V (N := m_Row_appendNumber) (As := [.long x246.toInt64, .int (8 : Int32)]) (ci := 0) d_Writer_writePart_252 eo252 rfl k333 k334 k335 kc_Row_appendNumber y_Row_appendNumber) ⟨Or.inl kc_Row_appendNumber, k2, by decide, by decide⟩ (Nat.le_of_ble_eq_true rfl) (by decide) (by decide) (c_Row_appendNumber G F x242 x246.toInt64 (8 : Int32) r238.2 r252 e252) ?_
    obtain rfl := Option.some.inj h
    exact V_vret rfl (by decide) (by decide) d_Writer_writePart_255
def b_Writer_writePart_157 (F : Nat) (v0 : Nat) (v1 : Nat) (s0 : Nat) (s1 : Int64) (w : zW) : Option (Unit × zW) := (zobj w s0 0).bind fun _ => (f_Row_appendNumber F s0 s1 (2 : Int32) w).bind fun r158 => (getR r158.2 v0 7 0).bind fun x162 => (zobj r158.2 x162 0).bind fun _ => (f_Row_appendNumber F x162 (0 : Int64) (2 : Int32) r158.2).bind fun r167 => (getR r167.2 v0 7 0).bind fun x171 => (zobj r167.2 x171 0).bind fun _ => (f_Row_appendNumber F x171 (0 : Int64) (8 : Int32) r167.2).bind fun r177 => (getR r177.2 v0 7 0).bind fun x181 => (zobj r177.2 v0 7).bind fun _ => (f_Writer_isWide F v0 v1 r177.2).bind fun r186 => if r186.1 = 0 then ((getI r186.2 v1 1 6).bind fun x199 => b_Writer_writePart_203 F v0 v1 x181 x199.toInt64 r186.2) else (b_Writer_writePart_203 F v0 v1 x181 (4294967295 : Int64) r186.2)
set_option maxRecDepth 100000 in
set_option maxHeartbeats 4000000 in
theorem b_Writer_writePart_157_ok (G : zG) (F : Nat) (v0 : Nat) (v1 : Nat) (s0 : Nat) (s1 : Int64) (w : zW) (r : (Unit × zW)) (h : b_Writer_writePart_157 F v0 v1 s0 s1 w = some r) : zV G m_Writer_writePart 157 [(0, .ref (z0 G + v0)), (1, .ref (z0 G + v1))] [.long s1, .ref (z0 G + s0)] w 0 0 (oV r.1) r.2 := by
  unfold b_Writer_writePart_157 at h
  refine V_iconst (v := 2) d_Writer_writePart_157 (by decide) ?_
  obtain ⟨_, eo158, h⟩ := ob h
  obtain ⟨r158, e158, h⟩ := ob h
  refine V_call (v := none) (st := []) (inv_V (N := m_Row_appendNumber) (As := [.long s1, .int (2 : Int32)]) (ci := 0) d_Writer_writePart_158 eo158 rfl k333 k334 k335 kc_Row_appendNumber y_Row_appendNumber) ⟨Or.inl kc_Row_appendNumber, k2, by decide, by decide⟩ (Nat.le_of_ble_eq_true rfl) (by decide) (by decide) (c_Row_appendNumber G F s0 s1 (2 : Int32) w r158 e158) ?_
  refine V_aload_n (i := 0) d_Writer_writePart_161 rfl 0 rfl ?_
  obtain ⟨x162, e162, h⟩ := ob h
  refine V_getR (ci := 7) (k := 0) d_Writer_writePart_162 e162 rfl (by decide) in_Writer k244 ?_
  refine V_lconst (v := 0) d_Writer_writePart_165 (by decide) ?_
  refine V_iconst (v := 2) d_Writer_writePart_166 (by decide) ?_
  obtain ⟨_, eo167, h⟩ := ob h
  obtain ⟨r167, e167, h⟩ := ob h
  refine V_call (v := none) (st := []) (inv_V (N := m_Row_appendNumber) (As := [.long (0 : Int64), .int (2 : Int32)]) (ci := 0) d_Writer_writePart_167 eo167 rfl k333 k334 k335 kc_Row_appendNumber y_Row_appendNumber) ⟨Or.inl kc_Row_appendNumber, k2, by decide, by decide⟩ (Nat.le_of_ble_eq_true rfl) (by decide) (by decide) (c_Row_appendNumber G F x162 (0 : Int64) (2 : Int32) r158.2 r167 e167) ?_
  refine V_aload_n (i := 0) d_Writer_writePart_170 rfl 0 rfl ?_
  obtain ⟨x171, e171, h⟩ := ob h
  refine V_getR (ci := 7) (k := 0) d_Writer_writePart_171 e171 rfl (by decide) in_Writer k244 ?_
  refine V_lconst (v := 0) d_Writer_writePart_174 (by decide) ?_
  refine V_bipush (v := 8) d_Writer_writePart_175 (by decide) ?_
  obtain ⟨_, eo177, h⟩ := ob h
  obtain ⟨r177, e177, h⟩ := ob h
  refine V_call (v := none) (st := []) (inv_V (N := m_Row_appendNumber) (As := [.long (0 : Int64), .int (8 : Int32)]) (ci := 0) d_Writer_writePart_177 eo177 rfl k333 k334 k335 kc_Row_appendNumber y_Row_appendNumber) ⟨Or.inl kc_Row_appendNumber, k2, by decide, by decide⟩ (Nat.le_of_ble_eq_true rfl) (by decide) (by decide) (c_Row_appendNumber G F x171 (0 : Int64) (8 : Int32) r167.2 r177 e177) ?_
  refine V_aload_n (i := 0) d_Writer_writePart_180 rfl 0 rfl ?_
  obtain ⟨x181, e181, h⟩ := ob h
  refine V_getR (ci := 7) (k := 0) d_Writer_writePart_181 e181 rfl (by decide) in_Writer k244 ?_
  refine V_aload_n (i := 0) d_Writer_writePart_184 rfl 0 rfl ?_
  refine V_aload_n (i := 1) d_Writer_writePart_185 rfl 1 rfl ?_
  obtain ⟨_, eo186, h⟩ := ob h
  obtain ⟨r186, e186, h⟩ := ob h
  refine V_call (v := some (.int r186.1)) (st := [.ref (z0 G + x181)]) (inv_V (N := m_Writer_isWide) (As := [.ref (z0 G + v1)]) (ci := 7) d_Writer_writePart_186 eo186 rfl k774 k776 sel_Writer_isWide kc_Writer_isWide y_Writer_isWide) ⟨Or.inl kc_Writer_isWide, k9, by decide, by decide⟩ (Nat.le_of_ble_eq_true rfl) (by decide) (by decide) (c_Writer_isWide G F v0 v1 r177.2 r186 e186) ?_
  refine V_if_eq (tgt := 198) d_Writer_writePart_189 (by decide) (fun c189 => ?_) (fun c189 => ?_)
  · rw [if_pos c189] at h
    refine V_aload_n (i := 1) d_Writer_writePart_198 rfl 1 rfl ?_
    obtain ⟨x199, e199, h⟩ := ob h
    refine V_getI (ci := 1) (k := 6) d_Writer_writePart_199 e199 rfl (by decide) in_Entry k186 ?_
    refine V_i2l d_Writer_writePart_202 ?_
    exact b_Writer_writePart_203_ok G F v0 v1 x181 x199.toInt64 r186.2 _ h
  · rw [if_neg c189] at h
    refine V_ldc2 (v := 4294967295) d_Writer_writePart_192 k345 ?_
    refine V_goto (tgt := 203) d_Writer_writePart_195 (by decide) ?_
    exact b_Writer_writePart_203_ok G F v0 v1 x181 (4294967295 : Int64) r186.2 _ h
def b_Writer_writePart_118 (F : Nat) (v0 : Nat) (v1 : Nat) (s0 : Nat) (s1 : Int64) (w : zW) : Option (Unit × zW) := (zobj w s0 0).bind fun _ => (f_Row_appendNumber F s0 s1 (4 : Int32) w).bind fun r119 => (getR r119.2 v0 7 0).bind fun x123 => (getI r119.2 v1 1 0).bind fun x127 => (f_Zip_nameBytes F x127 r119.2).bind fun r130 => (zobj r130.2 x123 0).bind fun _ => (f_Row_appendNumber F x123 r130.1.toInt64 (2 : Int32) r130.2).bind fun r135 => (getR r135.2 v0 7 0).bind fun x139 => (zobj r135.2 v0 7).bind fun _ => (f_Writer_isWide F v0 v1 r135.2).bind fun r144 => if r144.1 = 0 then (b_Writer_writePart_157 F v0 v1 x139 (0 : Int64) r144.2) else (b_Writer_writePart_157 F v0 v1 x139 (28 : Int64) r144.2)
set_option maxRecDepth 100000 in
set_option maxHeartbeats 4000000 in
theorem b_Writer_writePart_118_ok (G : zG) (F : Nat) (v0 : Nat) (v1 : Nat) (s0 : Nat) (s1 : Int64) (w : zW) (r : (Unit × zW)) (h : b_Writer_writePart_118 F v0 v1 s0 s1 w = some r) : zV G m_Writer_writePart 118 [(0, .ref (z0 G + v0)), (1, .ref (z0 G + v1))] [.long s1, .ref (z0 G + s0)] w 0 0 (oV r.1) r.2 := by
  unfold b_Writer_writePart_118 at h
  refine V_iconst (v := 4) d_Writer_writePart_118 (by decide) ?_
  obtain ⟨_, eo119, h⟩ := ob h
  obtain ⟨r119, e119, h⟩ := ob h
  refine V_call (v := none) (st := []) (inv_V (N := m_Row_appendNumber) (As := [.long s1, .int (4 : Int32)]) (ci := 0) d_Writer_writePart_119 eo119 rfl k333 k334 k335 kc_Row_appendNumber y_Row_appendNumber) ⟨Or.inl kc_Row_appendNumber, k2, by decide, by decide⟩ (Nat.le_of_ble_eq_true rfl) (by decide) (by decide) (c_Row_appendNumber G F s0 s1 (4 : Int32) w r119 e119) ?_
  refine V_aload_n (i := 0) d_Writer_writePart_122 rfl 0 rfl ?_
  obtain ⟨x123, e123, h⟩ := ob h
  refine V_getR (ci := 7) (k := 0) d_Writer_writePart_123 e123 rfl (by decide) in_Writer k244 ?_
  refine V_aload_n (i := 1) d_Writer_writePart_126 rfl 1 rfl ?_
  obtain ⟨x127, e127, h⟩ := ob h
  refine V_getI (ci := 1) (k := 0) d_Writer_writePart_127 e127 rfl (by decide) in_Entry k169 ?_
  obtain ⟨r130, e130, h⟩ := ob h
  refine V_call (v := some (.int r130.1)) (st := [.ref (z0 G + x123)]) (inv_SN (N := m_Zip_nameBytes) (As := [.int x127]) d_Writer_writePart_130 k778 k758 k1 kc_Zip_nameBytes y_Zip_nameBytes) ⟨Or.inl kc_Zip_nameBytes, k1, by decide, by decide⟩ (Nat.le_of_ble_eq_true rfl) (by decide) (by decide) (c_Zip_nameBytes G F x127 r119.2 r130 e130) ?_
  refine V_i2l d_Writer_writePart_133 ?_
  refine V_iconst (v := 2) d_Writer_writePart_134 (by decide) ?_
  obtain ⟨_, eo135, h⟩ := ob h
  obtain ⟨r135, e135, h⟩ := ob h
  refine V_call (v := none) (st := []) (inv_V (N := m_Row_appendNumber) (As := [.long r130.1.toInt64, .int (2 : Int32)]) (ci := 0) d_Writer_writePart_135 eo135 rfl k333 k334 k335 kc_Row_appendNumber y_Row_appendNumber) ⟨Or.inl kc_Row_appendNumber, k2, by decide, by decide⟩ (Nat.le_of_ble_eq_true rfl) (by decide) (by decide) (c_Row_appendNumber G F x123 r130.1.toInt64 (2 : Int32) r130.2 r135 e135) ?_
  refine V_aload_n (i := 0) d_Writer_writePart_138 rfl 0 rfl ?_
  obtain ⟨x139, e139, h⟩ := ob h
  refine V_getR (ci := 7) (k := 0) d_Writer_writePart_139 e139 rfl (by decide) in_Writer k244 ?_
  refine V_aload_n (i := 0) d_Writer_writePart_142 rfl 0 rfl ?_
  refine V_aload_n (i := 1) d_Writer_writePart_143 rfl 1 rfl ?_
  obtain ⟨_, eo144, h⟩ := ob h
  obtain ⟨r144, e144, h⟩ := ob h
  refine V_call (v := some (.int r144.1)) (st := [.ref (z0 G + x139)]) (inv_V (N := m_Writer_isWide) (As := [.ref (z0 G + v1)]) (ci := 7) d_Writer_writePart_144 eo144 rfl k774 k776 sel_Writer_isWide kc_Writer_isWide y_Writer_isWide) ⟨Or.inl kc_Writer_isWide, k9, by decide, by decide⟩ (Nat.le_of_ble_eq_true rfl) (by decide) (by decide) (c_Writer_isWide G F v0 v1 r135.2 r144 e144) ?_
  refine V_if_eq (tgt := 156) d_Writer_writePart_147 (by decide) (fun c147 => ?_) (fun c147 => ?_)
  · rw [if_pos c147] at h
    refine V_lconst (v := 0) d_Writer_writePart_156 (by decide) ?_
    exact b_Writer_writePart_157_ok G F v0 v1 x139 (0 : Int64) r144.2 _ h
  · rw [if_neg c147] at h
    refine V_ldc2 (v := 28) d_Writer_writePart_150 k799 ?_
    refine V_goto (tgt := 157) d_Writer_writePart_153 (by decide) ?_
    exact b_Writer_writePart_157_ok G F v0 v1 x139 (28 : Int64) r144.2 _ h
def b_Writer_writePart_91 (F : Nat) (v0 : Nat) (v1 : Nat) (s0 : Nat) (s1 : Int64) (w : zW) : Option (Unit × zW) := (zobj w s0 0).bind fun _ => (f_Row_appendNumber F s0 s1 (4 : Int32) w).bind fun r92 => (getR r92.2 v0 7 0).bind fun x96 => (zobj r92.2 v0 7).bind fun _ => (f_Writer_isWide F v0 v1 r92.2).bind fun r101 => if r101.1 = 0 then ((getI r101.2 v1 1 5).bind fun x114 => b_Writer_writePart_118 F v0 v1 x96 x114.toInt64 r101.2) else (b_Writer_writePart_118 F v0 v1 x96 (4294967295 : Int64) r101.2)
set_option maxRecDepth 100000 in
set_option maxHeartbeats 4000000 in
theorem b_Writer_writePart_91_ok (G : zG) (F : Nat) (v0 : Nat) (v1 : Nat) (s0 : Nat) (s1 : Int64) (w : zW) (r : (Unit × zW)) (h : b_Writer_writePart_91 F v0 v1 s0 s1 w = some r) : zV G m_Writer_writePart 91 [(0, .ref (z0 G + v0)), (1, .ref (z0 G + v1))] [.long s1, .ref (z0 G + s0)] w 0 0 (oV r.1) r.2 := by
  unfold b_Writer_writePart_91 at h
  refine V_iconst (v := 4) d_Writer_writePart_91 (by decide) ?_
  obtain ⟨_, eo92, h⟩ := ob h
  obtain ⟨r92, e92, h⟩ := ob h
  refine V_call (v := none) (st := []) (inv_V (N := m_Row_appendNumber) (As := [.long s1, .int (4 : Int32)]) (ci := 0) d_Writer_writePart_92 eo92 rfl k333 k334 k335 kc_Row_appendNumber y_Row_appendNumber) ⟨Or.inl kc_Row_appendNumber, k2, by decide, by decide⟩ (Nat.le_of_ble_eq_true rfl) (by decide) (by decide) (c_Row_appendNumber G F s0 s1 (4 : Int32) w r92 e92) ?_
  refine V_aload_n (i := 0) d_Writer_writePart_95 rfl 0 rfl ?_
  obtain ⟨x96, e96, h⟩ := ob h
  refine V_getR (ci := 7) (k := 0) d_Writer_writePart_96 e96 rfl (by decide) in_Writer k244 ?_
  refine V_aload_n (i := 0) d_Writer_writePart_99 rfl 0 rfl ?_
  refine V_aload_n (i := 1) d_Writer_writePart_100 rfl 1 rfl ?_
  obtain ⟨_, eo101, h⟩ := ob h
  obtain ⟨r101, e101, h⟩ := ob h
  refine V_call (v := some (.int r101.1)) (st := [.ref (z0 G + x96)]) (inv_V (N := m_Writer_isWide) (As := [.ref (z0 G + v1)]) (ci := 7) d_Writer_writePart_101 eo101 rfl k774 k776 sel_Writer_isWide kc_Writer_isWide y_Writer_isWide) ⟨Or.inl kc_Writer_isWide, k9, by decide, by decide⟩ (Nat.le_of_ble_eq_true rfl) (by decide) (by decide) (c_Writer_isWide G F v0 v1 r92.2 r101 e101) ?_
  refine V_if_eq (tgt := 113) d_Writer_writePart_104 (by decide) (fun c104 => ?_) (fun c104 => ?_)
  · rw [if_pos c104] at h
    refine V_aload_n (i := 1) d_Writer_writePart_113 rfl 1 rfl ?_
    obtain ⟨x114, e114, h⟩ := ob h
    refine V_getI (ci := 1) (k := 5) d_Writer_writePart_114 e114 rfl (by decide) in_Entry k183 ?_
    refine V_i2l d_Writer_writePart_117 ?_
    exact b_Writer_writePart_118_ok G F v0 v1 x96 x114.toInt64 r101.2 _ h
  · rw [if_neg c104] at h
    refine V_ldc2 (v := 4294967295) d_Writer_writePart_107 k345 ?_
    refine V_goto (tgt := 118) d_Writer_writePart_110 (by decide) ?_
    exact b_Writer_writePart_118_ok G F v0 v1 x96 (4294967295 : Int64) r101.2 _ h
def b_Writer_writePart_0 (F : Nat) (v0 : Nat) (v1 : Nat) (w : zW) : Option (Unit × zW) := (getR w v0 7 0).bind fun x1 => (zobj w x1 0).bind fun _ => (f_Row_appendNumber F x1 (33639248 : Int64) (4 : Int32) w).bind fun r8 => (getR r8.2 v0 7 0).bind fun x12 => (zobj r8.2 x12 0).bind fun _ => (f_Row_appendNumber F x12 (0 : Int64) (4 : Int32) r8.2).bind fun r17 => (getR r17.2 v0 7 0).bind fun x21 => (getI r17.2 v1 1 1).bind fun x25 => (zobj r17.2 x21 0).bind fun _ => (f_Row_appendNumber F x21 x25.toInt64 (2 : Int32) r17.2).bind fun r30 => (getR r30.2 v0 7 0).bind fun x34 => (getI r30.2 v1 1 2).bind fun x38 => (zobj r30.2 x34 0).bind fun _ => (f_Row_appendNumber F x34 x38.toInt64 (2 : Int32) r30.2).bind fun r43 => (getR r43.2 v0 7 0).bind fun x47 => (zobj r43.2 x47 0).bind fun _ => (f_Row_appendNumber F x47 (0 : Int64) (4 : Int32) r43.2).bind fun r52 => (getR r52.2 v0 7 0).bind fun x56 => (getI r52.2 v1 1 3).bind fun x60 => (zobj r52.2 x56 0).bind fun _ => (f_Row_appendNumber F x56 x60.toInt64 (4 : Int32) r52.2).bind fun r65 => (getR r65.2 v0 7 0).bind fun x69 => (zobj r65.2 v0 7).bind fun _ => (f_Writer_isWide F v0 v1 r65.2).bind fun r74 => if r74.1 = 0 then ((getI r74.2 v1 1 4).bind fun x87 => b_Writer_writePart_91 F v0 v1 x69 x87.toInt64 r74.2) else (b_Writer_writePart_91 F v0 v1 x69 (4294967295 : Int64) r74.2)
set_option maxRecDepth 100000 in
set_option maxHeartbeats 4000000 in
theorem b_Writer_writePart_0_ok (G : zG) (F : Nat) (v0 : Nat) (v1 : Nat) (w : zW) (r : (Unit × zW)) (h : b_Writer_writePart_0 F v0 v1 w = some r) : zV G m_Writer_writePart 0 [(0, .ref (z0 G + v0)), (1, .ref (z0 G + v1))] [] w 0 0 (oV r.1) r.2 := by
  unfold b_Writer_writePart_0 at h
  refine V_aload_n (i := 0) d_Writer_writePart_0 rfl 0 rfl ?_
  obtain ⟨x1, e1, h⟩ := ob h
  refine V_getR (ci := 7) (k := 0) d_Writer_writePart_1 e1 rfl (by decide) in_Writer k244 ?_
  refine V_ldc2 (v := 33639248) d_Writer_writePart_4 k798 ?_
  refine V_iconst (v := 4) d_Writer_writePart_7 (by decide) ?_
  obtain ⟨_, eo8, h⟩ := ob h
  obtain ⟨r8, e8, h⟩ := ob h
  refine V_call (v := none) (st := []) (inv_V (N := m_Row_appendNumber) (As := [.long (33639248 : Int64), .int (4 : Int32)]) (ci := 0) d_Writer_writePart_8 eo8 rfl k333 k334 k335 kc_Row_appendNumber y_Row_appendNumber) ⟨Or.inl kc_Row_appendNumber, k2, by decide, by decide⟩ (Nat.le_of_ble_eq_true rfl) (by decide) (by decide) (c_Row_appendNumber G F x1 (33639248 : Int64) (4 : Int32) w r8 e8) ?_
  refine V_aload_n (i := 0) d_Writer_writePart_11 rfl 0 rfl ?_
  obtain ⟨x12, e12, h⟩ := ob h
  refine V_getR (ci := 7) (k := 0) d_Writer_writePart_12 e12 rfl (by decide) in_Writer k244 ?_
  refine V_lconst (v := 0) d_Writer_writePart_15 (by decide) ?_
  refine V_iconst (v := 4) d_Writer_writePart_16 (by decide) ?_
  obtain ⟨_, eo17, h⟩ := ob h
  obtain ⟨r17, e17, h⟩ := ob h
  refine V_call (v := none) (st := []) (inv_V (N := m_Row_appendNumber) (As := [.long (0 : Int64), .int (4 : Int32)]) (ci := 0) d_Writer_writePart_17 eo17 rfl k333 k334 k335 kc_Row_appendNumber y_Row_appendNumber) ⟨Or.inl kc_Row_appendNumber, k2, by decide, by decide⟩ (Nat.le_of_ble_eq_true rfl) (by decide) (by decide) (c_Row_appendNumber G F x12 (0 : Int64) (4 : Int32) r8.2 r17 e17) ?_
  refine V_aload_n (i := 0) d_Writer_writePart_20 rfl 0 rfl ?_
  obtain ⟨x21, e21, h⟩ := ob h
  refine V_getR (ci := 7) (k := 0) d_Writer_writePart_21 e21 rfl (by decide) in_Writer k244 ?_
  refine V_aload_n (i := 1) d_Writer_writePart_24 rfl 1 rfl ?_
  obtain ⟨x25, e25, h⟩ := ob h
  refine V_getI (ci := 1) (k := 1) d_Writer_writePart_25 e25 rfl (by decide) in_Entry k171 ?_
  refine V_i2l d_Writer_writePart_28 ?_
  refine V_iconst (v := 2) d_Writer_writePart_29 (by decide) ?_
  obtain ⟨_, eo30, h⟩ := ob h
  obtain ⟨r30, e30, h⟩ := ob h
  refine V_call (v := none) (st := []) (inv_V (N := m_Row_appendNumber) (As := [.long x25.toInt64, .int (2 : Int32)]) (ci := 0) d_Writer_writePart_30 eo30 rfl k333 k334 k335 kc_Row_appendNumber y_Row_appendNumber) ⟨Or.inl kc_Row_appendNumber, k2, by decide, by decide⟩ (Nat.le_of_ble_eq_true rfl) (by decide) (by decide) (c_Row_appendNumber G F x21 x25.toInt64 (2 : Int32) r17.2 r30 e30) ?_
  refine V_aload_n (i := 0) d_Writer_writePart_33 rfl 0 rfl ?_
  obtain ⟨x34, e34, h⟩ := ob h
  refine V_getR (ci := 7) (k := 0) d_Writer_writePart_34 e34 rfl (by decide) in_Writer k244 ?_
  refine V_aload_n (i := 1) d_Writer_writePart_37 rfl 1 rfl ?_
  obtain ⟨x38, e38, h⟩ := ob h
  refine V_getI (ci := 1) (k := 2) d_Writer_writePart_38 e38 rfl (by decide) in_Entry k174 ?_
  refine V_i2l d_Writer_writePart_41 ?_
  refine V_iconst (v := 2) d_Writer_writePart_42 (by decide) ?_
  obtain ⟨_, eo43, h⟩ := ob h
  obtain ⟨r43, e43, h⟩ := ob h
  refine V_call (v := none) (st := []) (inv_V (N := m_Row_appendNumber) (As := [.long x38.toInt64, .int (2 : Int32)]) (ci := 0) d_Writer_writePart_43 eo43 rfl k333 k334 k335 kc_Row_appendNumber y_Row_appendNumber) ⟨Or.inl kc_Row_appendNumber, k2, by decide, by decide⟩ (Nat.le_of_ble_eq_true rfl) (by decide) (by decide) (c_Row_appendNumber G F x34 x38.toInt64 (2 : Int32) r30.2 r43 e43) ?_
  refine V_aload_n (i := 0) d_Writer_writePart_46 rfl 0 rfl ?_
  obtain ⟨x47, e47, h⟩ := ob h
  refine V_getR (ci := 7) (k := 0) d_Writer_writePart_47 e47 rfl (by decide) in_Writer k244 ?_
  refine V_lconst (v := 0) d_Writer_writePart_50 (by decide) ?_
  refine V_iconst (v := 4) d_Writer_writePart_51 (by decide) ?_
  obtain ⟨_, eo52, h⟩ := ob h
  obtain ⟨r52, e52, h⟩ := ob h
  refine V_call (v := none) (st := []) (inv_V (N := m_Row_appendNumber) (As := [.long (0 : Int64), .int (4 : Int32)]) (ci := 0) d_Writer_writePart_52 eo52 rfl k333 k334 k335 kc_Row_appendNumber y_Row_appendNumber) ⟨Or.inl kc_Row_appendNumber, k2, by decide, by decide⟩ (Nat.le_of_ble_eq_true rfl) (by decide) (by decide) (c_Row_appendNumber G F x47 (0 : Int64) (4 : Int32) r43.2 r52 e52) ?_
  refine V_aload_n (i := 0) d_Writer_writePart_55 rfl 0 rfl ?_
  obtain ⟨x56, e56, h⟩ := ob h
  refine V_getR (ci := 7) (k := 0) d_Writer_writePart_56 e56 rfl (by decide) in_Writer k244 ?_
  refine V_aload_n (i := 1) d_Writer_writePart_59 rfl 1 rfl ?_
  obtain ⟨x60, e60, h⟩ := ob h
  refine V_getI (ci := 1) (k := 3) d_Writer_writePart_60 e60 rfl (by decide) in_Entry k177 ?_
  refine V_i2l d_Writer_writePart_63 ?_
  refine V_iconst (v := 4) d_Writer_writePart_64 (by decide) ?_
  obtain ⟨_, eo65, h⟩ := ob h
  obtain ⟨r65, e65, h⟩ := ob h
  refine V_call (v := none) (st := []) (inv_V (N := m_Row_appendNumber) (As := [.long x60.toInt64, .int (4 : Int32)]) (ci := 0) d_Writer_writePart_65 eo65 rfl k333 k334 k335 kc_Row_appendNumber y_Row_appendNumber) ⟨Or.inl kc_Row_appendNumber, k2, by decide, by decide⟩ (Nat.le_of_ble_eq_true rfl) (by decide) (by decide) (c_Row_appendNumber G F x56 x60.toInt64 (4 : Int32) r52.2 r65 e65) ?_
  refine V_aload_n (i := 0) d_Writer_writePart_68 rfl 0 rfl ?_
  obtain ⟨x69, e69, h⟩ := ob h
  refine V_getR (ci := 7) (k := 0) d_Writer_writePart_69 e69 rfl (by decide) in_Writer k244 ?_
  refine V_aload_n (i := 0) d_Writer_writePart_72 rfl 0 rfl ?_
  refine V_aload_n (i := 1) d_Writer_writePart_73 rfl 1 rfl ?_
  obtain ⟨_, eo74, h⟩ := ob h
  obtain ⟨r74, e74, h⟩ := ob h
  refine V_call (v := some (.int r74.1)) (st := [.ref (z0 G + x69)]) (inv_V (N := m_Writer_isWide) (As := [.ref (z0 G + v1)]) (ci := 7) d_Writer_writePart_74 eo74 rfl k774 k776 sel_Writer_isWide kc_Writer_isWide y_Writer_isWide) ⟨Or.inl kc_Writer_isWide, k9, by decide, by decide⟩ (Nat.le_of_ble_eq_true rfl) (by decide) (by decide) (c_Writer_isWide G F v0 v1 r65.2 r74 e74) ?_
  refine V_if_eq (tgt := 86) d_Writer_writePart_77 (by decide) (fun c77 => ?_) (fun c77 => ?_)
  · rw [if_pos c77] at h
    refine V_aload_n (i := 1) d_Writer_writePart_86 rfl 1 rfl ?_
    obtain ⟨x87, e87, h⟩ := ob h
    refine V_getI (ci := 1) (k := 4) d_Writer_writePart_87 e87 rfl (by decide) in_Entry k180 ?_
    refine V_i2l d_Writer_writePart_90 ?_
    exact b_Writer_writePart_91_ok G F v0 v1 x69 x87.toInt64 r74.2 _ h
  · rw [if_neg c77] at h
    refine V_ldc2 (v := 4294967295) d_Writer_writePart_80 k345 ?_
    refine V_goto (tgt := 91) d_Writer_writePart_83 (by decide) ?_
    exact b_Writer_writePart_91_ok G F v0 v1 x69 (4294967295 : Int64) r74.2 _ h
def f_Writer_writePart (F : Nat) (v0 : Nat) (v1 : Nat) (w : zW) : Option (Unit × zW) := b_Writer_writePart_0 F v0 v1 w
theorem c_Writer_writePart (G : zG) (F : Nat) (v0 : Nat) (v1 : Nat) (w : zW) (r : (Unit × zW)) (h : f_Writer_writePart F v0 v1 w = some r) : zCT G m_Writer_writePart [.ref (z0 G + v0), .ref (z0 G + v1)] w (oV r.1) r.2 := zCT.ofV (by decide +kernel) (Or.inl ⟨kc_Writer_writePart, rfl⟩) (Nat.le_of_ble_eq_true rfl) (b_Writer_writePart_0_ok G F v0 v1 w r h)

/-! ZipArray.finishFile(II)V -/
def m_Zip_finishFile : zM := (⟨R_Zip, "finishFile", "(II)V"⟩, prog_1_method_27_code, 4, none, [], { frames := 6, cells := 1, slots := 6, locals := 93 })
theorem k49 : Cond.fieldLink R_Zip 225 (T_Row 2).1 (T_Row 2).2.1 (T_Row 2).2.2.1 ∈ zTb := tb_at 49 (by decide +kernel) rfl
theorem k222 : Cond.fieldLink R_Zip 222 (T_Archive 6).1 (T_Archive 6).2.1 (T_Archive 6).2.2.1 ∈ zTb := tb_at 222 (by decide +kernel) rfl
theorem kc_Zip_finishFile : Cond.code (mY m_Zip_finishFile) (mC m_Zip_finishFile) (mL m_Zip_finishFile) (mT m_Zip_finishFile) ∈ zTb := tb_at 803 (by decide +kernel) rfl
theorem y_Zip_finishFile : (mY m_Zip_finishFile).cls ≠ "java/lang/invoke/MethodHandle" ∧ (mY m_Zip_finishFile).cls ≠ "java/lang/invoke/VarHandle" ∧ (parseMethodDescriptor (mY m_Zip_finishFile).desc).map (fun d => d.parameters.length) = some 2 := by decide +kernel
theorem sel_Zip_finishFile : Cond.selects R_Zip (mY m_Zip_finishFile) (mY m_Zip_finishFile) ∈ zTb := sel_at (y := mY m_Zip_finishFile) (n := 9) 37 (by decide +kernel)
theorem d_Zip_finishFile_0 : decode (mC m_Zip_finishFile) 0 = .ok (.aload_n 0, 1) := by decide +kernel
theorem d_Zip_finishFile_1 : decode (mC m_Zip_finishFile) 1 = .ok (.getfield 18, 3) := by decide +kernel
theorem d_Zip_finishFile_4 : decode (mC m_Zip_finishFile) 4 = .ok (.getfield 64, 3) := by decide +kernel
theorem d_Zip_finishFile_7 : decode (mC m_Zip_finishFile) 7 = .ok (.aload_n 0, 1) := by decide +kernel
theorem d_Zip_finishFile_8 : decode (mC m_Zip_finishFile) 8 = .ok (.getfield 46, 3) := by decide +kernel
theorem d_Zip_finishFile_11 : decode (mC m_Zip_finishFile) 11 = .ok (.getfield 222, 3) := by decide +kernel
theorem d_Zip_finishFile_14 : decode (mC m_Zip_finishFile) 14 = .ok (.isub, 1) := by decide +kernel
theorem d_Zip_finishFile_15 : decode (mC m_Zip_finishFile) 15 = .ok (.istore_n 3, 1) := by decide +kernel
theorem d_Zip_finishFile_16 : decode (mC m_Zip_finishFile) 16 = .ok (.aload_n 0, 1) := by decide +kernel
theorem d_Zip_finishFile_17 : decode (mC m_Zip_finishFile) 17 = .ok (.getfield 53, 3) := by decide +kernel
theorem d_Zip_finishFile_20 : decode (mC m_Zip_finishFile) 20 = .ok (.iload_n 1, 1) := by decide +kernel
theorem d_Zip_finishFile_21 : decode (mC m_Zip_finishFile) 21 = .ok (.iload_n 2, 1) := by decide +kernel
theorem d_Zip_finishFile_22 : decode (mC m_Zip_finishFile) 22 = .ok (.iload_n 3, 1) := by decide +kernel
theorem d_Zip_finishFile_23 : decode (mC m_Zip_finishFile) 23 = .ok (.invokevirtual 122, 3) := by decide +kernel
theorem d_Zip_finishFile_26 : decode (mC m_Zip_finishFile) 26 = .ok (.aload_n 0, 1) := by decide +kernel
theorem d_Zip_finishFile_27 : decode (mC m_Zip_finishFile) 27 = .ok (.getfield 53, 3) := by decide +kernel
theorem d_Zip_finishFile_30 : decode (mC m_Zip_finishFile) 30 = .ok (.getfield 126, 3) := by decide +kernel
theorem d_Zip_finishFile_33 : decode (mC m_Zip_finishFile) 33 = .ok (.aload_n 0, 1) := by decide +kernel
theorem d_Zip_finishFile_34 : decode (mC m_Zip_finishFile) 34 = .ok (.getfield 18, 3) := by decide +kernel
theorem d_Zip_finishFile_37 : decode (mC m_Zip_finishFile) 37 = .ok (.aload_n 0, 1) := by decide +kernel
theorem d_Zip_finishFile_38 : decode (mC m_Zip_finishFile) 38 = .ok (.getfield 46, 3) := by decide +kernel
theorem d_Zip_finishFile_41 : decode (mC m_Zip_finishFile) 41 = .ok (.getfield 222, 3) := by decide +kernel
theorem d_Zip_finishFile_44 : decode (mC m_Zip_finishFile) 44 = .ok (.aload_n 0, 1) := by decide +kernel
theorem d_Zip_finishFile_45 : decode (mC m_Zip_finishFile) 45 = .ok (.getfield 18, 3) := by decide +kernel
theorem d_Zip_finishFile_48 : decode (mC m_Zip_finishFile) 48 = .ok (.getfield 64, 3) := by decide +kernel
theorem d_Zip_finishFile_51 : decode (mC m_Zip_finishFile) 51 = .ok (.invokevirtual 218, 3) := by decide +kernel
theorem d_Zip_finishFile_54 : decode (mC m_Zip_finishFile) 54 = .ok (.aload_n 0, 1) := by decide +kernel
theorem d_Zip_finishFile_55 : decode (mC m_Zip_finishFile) 55 = .ok (.getfield 53, 3) := by decide +kernel
theorem d_Zip_finishFile_58 : decode (mC m_Zip_finishFile) 58 = .ok (.getfield 126, 3) := by decide +kernel
theorem d_Zip_finishFile_61 : decode (mC m_Zip_finishFile) 61 = .ok (.getfield 225, 3) := by decide +kernel
theorem d_Zip_finishFile_64 : decode (mC m_Zip_finishFile) 64 = .ok (.ifCond .eq 11, 3) := by decide +kernel
theorem d_Zip_finishFile_67 : decode (mC m_Zip_finishFile) 67 = .ok (.new 85, 3) := by decide +kernel
theorem d_Zip_finishFile_70 : decode (mC m_Zip_finishFile) 70 = .ok (.dup, 1) := by decide +kernel
theorem d_Zip_finishFile_71 : decode (mC m_Zip_finishFile) 71 = .ok (.invokespecial 87, 3) := by decide +kernel
theorem d_Zip_finishFile_74 : decode (mC m_Zip_finishFile) 74 = .ok (.athrow, 1) := by decide +kernel
theorem d_Zip_finishFile_75 : decode (mC m_Zip_finishFile) 75 = .ok (.aload_n 0, 1) := by decide +kernel
theorem d_Zip_finishFile_76 : decode (mC m_Zip_finishFile) 76 = .ok (.getfield 18, 3) := by decide +kernel
theorem d_Zip_finishFile_79 : decode (mC m_Zip_finishFile) 79 = .ok (.aload_n 0, 1) := by decide +kernel
theorem d_Zip_finishFile_80 : decode (mC m_Zip_finishFile) 80 = .ok (.getfield 53, 3) := by decide +kernel
theorem d_Zip_finishFile_83 : decode (mC m_Zip_finishFile) 83 = .ok (.getfield 126, 3) := by decide +kernel
theorem d_Zip_finishFile_86 : decode (mC m_Zip_finishFile) 86 = .ok (.invokevirtual 108, 3) := by decide +kernel
theorem d_Zip_finishFile_89 : decode (mC m_Zip_finishFile) 89 = .ok (.return_, 1) := by decide +kernel
def b_Zip_finishFile_0 (F : Nat) (v0 : Nat) (v1 : Int32) (v2 : Int32) (w : zW) : Option ((Unit ⊕ Nat) × zW) := (getR w v0 8 1).bind fun x1 => (getI w x1 0 1).bind fun x4 => (getR w v0 8 6).bind fun x8 => (getI w x8 6 6).bind fun x11 => (getR w v0 8 7).bind fun x17 => (zobj w x17 7).bind fun _ => (f_Writer_writeEnd F x17 v1 v2 (x4 - x11) w).bind fun r23 => (getR r23.2 v0 8 7).bind fun x27 => (getR r23.2 x27 7 0).bind fun x30 => (getR r23.2 v0 8 1).bind fun x34 => (getR r23.2 v0 8 6).bind fun x38 => (getI r23.2 x38 6 6).bind fun x41 => (getR r23.2 v0 8 1).bind fun x45 => (getI r23.2 x45 0 1).bind fun x48 => (zobj r23.2 x30 0).bind fun _ => (f_Row_appendPart F x30 x34 x41 x48 r23.2).bind fun r51 => (getR r51.2 v0 8 7).bind fun x55 => (getR r51.2 x55 7 0).bind fun x58 => (getI r51.2 x58 0 2).bind fun x61 => if x61 = 0 then ((getR r51.2 v0 8 1).bind fun x76 => (getR r51.2 v0 8 7).bind fun x80 => (getR r51.2 x80 7 0).bind fun x83 => (zobj r51.2 x76 0).bind fun _ => (f_Row_become F x76 x83 r51.2).bind fun r86 => some ((.inl ()), r86.2)) else (some (.inr r51.2.length, r51.2 ++ [.inr (.inr (.inr (11, [])))]))
set_option maxRecDepth 100000 in
set_option maxHeartbeats 4000000 in
theorem b_Zip_finishFile_0_ok (G : zG) (F : Nat) (v0 : Nat) (v1 : Int32) (v2 : Int32) (w : zW) (r : ((Unit ⊕ Nat) × zW)) (h : b_Zip_finishFile_0 F v0 v1 v2 w = some r) : zV G m_Zip_finishFile 0 [(0, .ref (z0 G + v0)), (1, .int v1), (2, .int v2)] [] w 0 0 (oVT (z0 G) r.1) r.2 := by
  unfold b_Zip_finishFile_0 at h
  refine V_aload_n (i := 0) d_Zip_finishFile_0 rfl 0 rfl ?_
  obtain ⟨x1, e1, h⟩ := ob h
  refine V_getR (ci := 8) (k := 1) d_Zip_finishFile_1 e1 rfl (by decide) in_Zip k256 ?_
  obtain ⟨x4, e4, h⟩ := ob h
  refine V_getI (ci := 0) (k := 1) d_Zip_finishFile_4 e4 rfl (by decide) in_Row k42 ?_
  refine V_aload_n (i := 0) d_Zip_finishFile_7 rfl 0 rfl ?_
  obtain ⟨x8, e8, h⟩ := ob h
  refine V_getR (ci := 8) (k := 6) d_Zip_finishFile_8 e8 rfl (by decide) in_Zip k261 ?_
  obtain ⟨x11, e11, h⟩ := ob h
  refine V_getI (ci := 6) (k := 6) d_Zip_finishFile_11 e11 rfl (by decide) in_Archive k222 ?_
  refine V_isub d_Zip_finishFile_14 ?_
  refine V_istore_n (i := 3) d_Zip_finishFile_15 rfl (by decide) rfl ?_
  refine V_aload_n (i := 0) d_Zip_finishFile_16 rfl 1 rfl ?_
  obtain ⟨x17, e17, h⟩ := ob h
  refine V_getR (ci := 8) (k := 7) d_Zip_finishFile_17 e17 rfl (by decide) in_Zip k262 ?_
  refine V_iload_n (i := 1) d_Zip_finishFile_20 rfl 2 rfl ?_
  refine V_iload_n (i := 2) d_Zip_finishFile_21 rfl 3 rfl ?_
  refine V_iload_n (i := 3) d_Zip_finishFile_22 rfl 0 rfl ?_
  obtain ⟨_, eo23, h⟩ := ob h
  obtain ⟨r23, e23, h⟩ := ob h
  refine V_call (v := none) (st := []) (inv_V (N := m_Writer_writeEnd) (As := [.int v1, .int v2, .int (x4 - x11)]) (ci := 7) d_Zip_finishFile_23 eo23 rfl k324 k325 k326 kc_Writer_writeEnd y_Writer_writeEnd) ⟨Or.inl kc_Writer_writeEnd, k9, by decide, by decide⟩ (Nat.le_of_ble_eq_true rfl) (by decide) (by decide) (c_Writer_writeEnd G F x17 v1 v2 (x4 - x11) w r23 e23) ?_
  refine V_aload_n (i := 0) d_Zip_finishFile_26 rfl 1 rfl ?_
  obtain ⟨x27, e27, h⟩ := ob h
  refine V_getR (ci := 8) (k := 7) d_Zip_finishFile_27 e27 rfl (by decide) in_Zip k262 ?_
  obtain ⟨x30, e30, h⟩ := ob h
  refine V_getR (ci := 7) (k := 0) d_Zip_finishFile_30 e30 rfl (by decide) in_Writer k245 ?_
  refine V_aload_n (i := 0) d_Zip_finishFile_33 rfl 1 rfl ?_
  obtain ⟨x34, e34, h⟩ := ob h
  refine V_getR (ci := 8) (k := 1) d_Zip_finishFile_34 e34 rfl (by decide) in_Zip k256 ?_
  refine V_aload_n (i := 0) d_Zip_finishFile_37 rfl 1 rfl ?_
  obtain ⟨x38, e38, h⟩ := ob h
  refine V_getR (ci := 8) (k := 6) d_Zip_finishFile_38 e38 rfl (by decide) in_Zip k261 ?_
  obtain ⟨x41, e41, h⟩ := ob h
  refine V_getI (ci := 6) (k := 6) d_Zip_finishFile_41 e41 rfl (by decide) in_Archive k222 ?_
  refine V_aload_n (i := 0) d_Zip_finishFile_44 rfl 1 rfl ?_
  obtain ⟨x45, e45, h⟩ := ob h
  refine V_getR (ci := 8) (k := 1) d_Zip_finishFile_45 e45 rfl (by decide) in_Zip k256 ?_
  obtain ⟨x48, e48, h⟩ := ob h
  refine V_getI (ci := 0) (k := 1) d_Zip_finishFile_48 e48 rfl (by decide) in_Row k42 ?_
  obtain ⟨_, eo51, h⟩ := ob h
  obtain ⟨r51, e51, h⟩ := ob h
  refine V_call (v := none) (st := []) (inv_V (N := m_Row_appendPart) (As := [.ref (z0 G + x34), .int x41, .int x48]) (ci := 0) d_Zip_finishFile_51 eo51 rfl k524 k314 k315 kc_Row_appendPart y_Row_appendPart) ⟨Or.inl kc_Row_appendPart, k2, by decide, by decide⟩ (Nat.le_of_ble_eq_true rfl) (by decide) (by decide) (c_Row_appendPart G F x30 x34 x41 x48 r23.2 r51 e51) ?_
  refine V_aload_n (i := 0) d_Zip_finishFile_54 rfl 1 rfl ?_
  obtain ⟨x55, e55, h⟩ := ob h
  refine V_getR (ci := 8) (k := 7) d_Zip_finishFile_55 e55 rfl (by decide) in_Zip k262 ?_
  obtain ⟨x58, e58, h⟩ := ob h
  refine V_getR (ci := 7) (k := 0) d_Zip_finishFile_58 e58 rfl (by decide) in_Writer k245 ?_
  obtain ⟨x61, e61, h⟩ := ob h
  refine V_getI (ci := 0) (k := 2) d_Zip_finishFile_61 e61 rfl (by decide) in_Row k49 ?_
  refine V_if_eq (tgt := 75) d_Zip_finishFile_64 (by decide) (fun c64 => ?_) (fun c64 => ?_)
  · rw [if_pos c64] at h
    refine V_aload_n (i := 0) d_Zip_finishFile_75 rfl 1 rfl ?_
    obtain ⟨x76, e76, h⟩ := ob h
    refine V_getR (ci := 8) (k := 1) d_Zip_finishFile_76 e76 rfl (by decide) in_Zip k256 ?_
    refine V_aload_n (i := 0) d_Zip_finishFile_79 rfl 1 rfl ?_
    obtain ⟨x80, e80, h⟩ := ob h
    refine V_getR (ci := 8) (k := 7) d_Zip_finishFile_80 e80 rfl (by decide) in_Zip k262 ?_
    obtain ⟨x83, e83, h⟩ := ob h
    refine V_getR (ci := 7) (k := 0) d_Zip_finishFile_83 e83 rfl (by decide) in_Writer k245 ?_
    obtain ⟨_, eo86, h⟩ := ob h
    obtain ⟨r86, e86, h⟩ := ob h
    refine V_call (v := none) (st := []) (inv_V (N := m_Row_become) (As := [.ref (z0 G + x83)]) (ci := 0) d_Zip_finishFile_86 eo86 rfl k346 k347 k348 kc_Row_become y_Row_become) ⟨Or.inl kc_Row_become, k2, by decide, by decide⟩ (Nat.le_of_ble_eq_true rfl) (by decide) (by decide) (c_Row_become G F x76 x83 r51.2 r86 e86) ?_
    obtain rfl := Option.some.inj h
    exact V_vret rfl (by decide) (by decide) d_Zip_finishFile_89
  · rw [if_neg c64] at h
    obtain rfl := Option.some.inj h
    exact V_throw (ci := 11) (X := R_ISE) d_Zip_finishFile_67 d_Zip_finishFile_70 d_Zip_finishFile_71 d_Zip_finishFile_74 rfl (by decide +kernel) k608 k609 k15 (at_ISE k617) (by decide) (by decide) (Nat.le_of_ble_eq_true rfl) (by decide) (by decide)
def f_Zip_finishFile (F : Nat) (v0 : Nat) (v1 : Int32) (v2 : Int32) (w : zW) : Option ((Unit ⊕ Nat) × zW) := b_Zip_finishFile_0 F v0 v1 v2 w
theorem c_Zip_finishFile (G : zG) (F : Nat) (v0 : Nat) (v1 : Int32) (v2 : Int32) (w : zW) (r : ((Unit ⊕ Nat) × zW)) (h : f_Zip_finishFile F v0 v1 v2 w = some r) : zCT G m_Zip_finishFile [.ref (z0 G + v0), .int v1, .int v2] w (oVT (z0 G) r.1) r.2 := zCT.ofV (by decide +kernel) (Or.inl ⟨kc_Zip_finishFile, rfl⟩) (Nat.le_of_ble_eq_true rfl) (b_Zip_finishFile_0_ok G F v0 v1 v2 w r h)
