/-! ZipArray.isNameByte(I)Z -/
def m_Zip_isNameByte : zM := (⟨R_Zip, "isNameByte", "(I)Z"⟩, prog_1_method_32_code, 1, (some .boolean), [], { frames := 0, cells := 0, slots := 0, locals := 0 })
theorem kc_Zip_isNameByte : Cond.code (mY m_Zip_isNameByte) (mC m_Zip_isNameByte) (mL m_Zip_isNameByte) (mT m_Zip_isNameByte) ∈ zTb := tb_at 409 (by decide +kernel) rfl
theorem y_Zip_isNameByte : (mY m_Zip_isNameByte).cls ≠ "java/lang/invoke/MethodHandle" ∧ (mY m_Zip_isNameByte).cls ≠ "java/lang/invoke/VarHandle" ∧ (parseMethodDescriptor (mY m_Zip_isNameByte).desc).map (fun d => d.parameters.length) = some 1 := by decide +kernel
theorem d_Zip_isNameByte_0 : decode (mC m_Zip_isNameByte) 0 = .ok (.iload_n 0, 1) := by decide +kernel
theorem d_Zip_isNameByte_1 : decode (mC m_Zip_isNameByte) 1 = .ok (.bipush 33, 2) := by decide +kernel
theorem d_Zip_isNameByte_3 : decode (mC m_Zip_isNameByte) 3 = .ok (.if_icmp .lt 13, 3) := by decide +kernel
theorem d_Zip_isNameByte_6 : decode (mC m_Zip_isNameByte) 6 = .ok (.iload_n 0, 1) := by decide +kernel
theorem d_Zip_isNameByte_7 : decode (mC m_Zip_isNameByte) 7 = .ok (.bipush 126, 2) := by decide +kernel
theorem d_Zip_isNameByte_9 : decode (mC m_Zip_isNameByte) 9 = .ok (.if_icmp .gt 7, 3) := by decide +kernel
theorem d_Zip_isNameByte_12 : decode (mC m_Zip_isNameByte) 12 = .ok (.iconst 1, 1) := by decide +kernel
theorem d_Zip_isNameByte_13 : decode (mC m_Zip_isNameByte) 13 = .ok (.goto 4, 3) := by decide +kernel
theorem d_Zip_isNameByte_16 : decode (mC m_Zip_isNameByte) 16 = .ok (.iconst 0, 1) := by decide +kernel
theorem d_Zip_isNameByte_17 : decode (mC m_Zip_isNameByte) 17 = .ok (.ireturn, 1) := by decide +kernel
def b_Zip_isNameByte_16 (F : Nat) (w : zW) : Option (Int32 × zW) := some ((0 : Int32), w)
set_option maxRecDepth 100000 in
set_option maxHeartbeats 4000000 in
theorem b_Zip_isNameByte_16_ok (G : zG) (F : Nat) (w : zW) (r : (Int32 × zW)) (h : b_Zip_isNameByte_16 F w = some r) : zV G m_Zip_isNameByte 16 [] [] w 0 0 (oI r.1) r.2 := by
  unfold b_Zip_isNameByte_16 at h
  refine V_iconst (v := 0) d_Zip_isNameByte_16 (by decide) ?_
  obtain rfl := Option.some.inj h
  exact V_zret rfl (Or.inl rfl) (by decide) (by decide) d_Zip_isNameByte_17
def b_Zip_isNameByte_0 (F : Nat) (v0 : Int32) (w : zW) : Option (Int32 × zW) := if v0 < (33 : Int32) then (b_Zip_isNameByte_16 F w) else (if (126 : Int32) < v0 then (b_Zip_isNameByte_16 F w) else (some ((1 : Int32), w)))
set_option maxRecDepth 100000 in
set_option maxHeartbeats 4000000 in
theorem b_Zip_isNameByte_0_ok (G : zG) (F : Nat) (v0 : Int32) (w : zW) (r : (Int32 × zW)) (h : b_Zip_isNameByte_0 F v0 w = some r) : zV G m_Zip_isNameByte 0 [(0, .int v0)] [] w 0 0 (oI r.1) r.2 := by
  unfold b_Zip_isNameByte_0 at h
  refine V_iload_n (i := 0) d_Zip_isNameByte_0 rfl 0 rfl ?_
  refine V_bipush (v := 33) d_Zip_isNameByte_1 (by decide) ?_
  refine V_icmp_lt (tgt := 16) d_Zip_isNameByte_3 (by decide) (fun c3 => ?_) (fun c3 => ?_)
  · rw [if_pos c3] at h
    refine V_lv [] rfl ?_
    exact b_Zip_isNameByte_16_ok G F w _ h
  · rw [if_neg c3] at h
    refine V_iload_n (i := 0) d_Zip_isNameByte_6 rfl 0 rfl ?_
    refine V_bipush (v := 126) d_Zip_isNameByte_7 (by decide) ?_
    refine V_icmp_gt (tgt := 16) d_Zip_isNameByte_9 (by decide) (fun c9 => ?_) (fun c9 => ?_)
    · rw [if_pos c9] at h
      refine V_lv [] rfl ?_
      exact b_Zip_isNameByte_16_ok G F w _ h
    · rw [if_neg c9] at h
      refine V_iconst (v := 1) d_Zip_isNameByte_12 (by decide) ?_
      refine V_goto (tgt := 17) d_Zip_isNameByte_13 (by decide) ?_
      obtain rfl := Option.some.inj h
      exact V_zret rfl (Or.inr rfl) (by decide) (by decide) d_Zip_isNameByte_17
def f_Zip_isNameByte (F : Nat) (v0 : Int32) (w : zW) : Option (Int32 × zW) := b_Zip_isNameByte_0 F v0 w
theorem c_Zip_isNameByte (G : zG) (F : Nat) (v0 : Int32) (w : zW) (r : (Int32 × zW)) (h : f_Zip_isNameByte F v0 w = some r) : zCT G m_Zip_isNameByte [.int v0] w (oI r.1) r.2 := zCT.ofV (by decide +kernel) (Or.inl ⟨kc_Zip_isNameByte, rfl⟩) (Nat.le_of_ble_eq_true rfl) (b_Zip_isNameByte_0_ok G F v0 w r h)

/-! ZipArray$Archive.readName(II)I -/
def m_Archive_readName : zM := (⟨R_Archive, "readName", "(II)I"⟩, prog_2_method_10_code, 5, (some .int), [], { frames := 2, cells := 0, slots := 0, locals := 42 })
theorem k399 : Cond.methodLink R_Archive 148 (mY m_Row_get) ∈ zTb := tb_at 399 (by decide +kernel) rfl
theorem k407 : Cond.methodLinkNest R_Archive 152 (mY m_Zip_isNameByte) "ZipArray" ∈ zTb := tb_at 407 (by decide +kernel) rfl
theorem k408 : Cond.static (mY m_Zip_isNameByte) ∈ zTb := tb_at 408 (by decide +kernel) rfl
theorem kc_Archive_readName : Cond.code (mY m_Archive_readName) (mC m_Archive_readName) (mL m_Archive_readName) (mT m_Archive_readName) ∈ zTb := tb_at 398 (by decide +kernel) rfl
theorem y_Archive_readName : (mY m_Archive_readName).cls ≠ "java/lang/invoke/MethodHandle" ∧ (mY m_Archive_readName).cls ≠ "java/lang/invoke/VarHandle" ∧ (parseMethodDescriptor (mY m_Archive_readName).desc).map (fun d => d.parameters.length) = some 2 := by decide +kernel
theorem sel_Archive_readName : Cond.selects R_Archive (mY m_Archive_readName) (mY m_Archive_readName) ∈ zTb := sel_at (y := mY m_Archive_readName) (n := 7) 6 (by decide +kernel)
theorem d_Archive_readName_0 : decode (mC m_Archive_readName) 0 = .ok (.iload_n 2, 1) := by decide +kernel
theorem d_Archive_readName_1 : decode (mC m_Archive_readName) 1 = .ok (.iload_n 1, 1) := by decide +kernel
theorem d_Archive_readName_2 : decode (mC m_Archive_readName) 2 = .ok (.isub, 1) := by decide +kernel
theorem d_Archive_readName_3 : decode (mC m_Archive_readName) 3 = .ok (.iconst 1, 1) := by decide +kernel
theorem d_Archive_readName_4 : decode (mC m_Archive_readName) 4 = .ok (.if_icmp .lt 10, 3) := by decide +kernel
theorem d_Archive_readName_7 : decode (mC m_Archive_readName) 7 = .ok (.iload_n 2, 1) := by decide +kernel
theorem d_Archive_readName_8 : decode (mC m_Archive_readName) 8 = .ok (.iload_n 1, 1) := by decide +kernel
theorem d_Archive_readName_9 : decode (mC m_Archive_readName) 9 = .ok (.isub, 1) := by decide +kernel
theorem d_Archive_readName_10 : decode (mC m_Archive_readName) 10 = .ok (.iconst 3, 1) := by decide +kernel
theorem d_Archive_readName_11 : decode (mC m_Archive_readName) 11 = .ok (.if_icmp .le 5, 3) := by decide +kernel
theorem d_Archive_readName_14 : decode (mC m_Archive_readName) 14 = .ok (.iconst (-1), 1) := by decide +kernel
theorem d_Archive_readName_15 : decode (mC m_Archive_readName) 15 = .ok (.ireturn, 1) := by decide +kernel
theorem d_Archive_readName_16 : decode (mC m_Archive_readName) 16 = .ok (.iconst 0, 1) := by decide +kernel
theorem d_Archive_readName_17 : decode (mC m_Archive_readName) 17 = .ok (.istore_n 3, 1) := by decide +kernel
theorem d_Archive_readName_18 : decode (mC m_Archive_readName) 18 = .ok (.iload_n 1, 1) := by decide +kernel
theorem d_Archive_readName_19 : decode (mC m_Archive_readName) 19 = .ok (.istore 4, 2) := by decide +kernel
theorem d_Archive_readName_21 : decode (mC m_Archive_readName) 21 = .ok (.iload 4, 2) := by decide +kernel
theorem d_Archive_readName_23 : decode (mC m_Archive_readName) 23 = .ok (.iload_n 2, 1) := by decide +kernel
theorem d_Archive_readName_24 : decode (mC m_Archive_readName) 24 = .ok (.if_icmp .ge 41, 3) := by decide +kernel
theorem d_Archive_readName_27 : decode (mC m_Archive_readName) 27 = .ok (.aload_n 0, 1) := by decide +kernel
theorem d_Archive_readName_28 : decode (mC m_Archive_readName) 28 = .ok (.getfield 9, 3) := by decide +kernel
theorem d_Archive_readName_31 : decode (mC m_Archive_readName) 31 = .ok (.iload 4, 2) := by decide +kernel
theorem d_Archive_readName_33 : decode (mC m_Archive_readName) 33 = .ok (.invokevirtual 148, 3) := by decide +kernel
theorem d_Archive_readName_36 : decode (mC m_Archive_readName) 36 = .ok (.invokestatic 152, 3) := by decide +kernel
theorem d_Archive_readName_39 : decode (mC m_Archive_readName) 39 = .ok (.ifCond .ne 5, 3) := by decide +kernel
theorem d_Archive_readName_42 : decode (mC m_Archive_readName) 42 = .ok (.iconst (-1), 1) := by decide +kernel
theorem d_Archive_readName_43 : decode (mC m_Archive_readName) 43 = .ok (.ireturn, 1) := by decide +kernel
theorem d_Archive_readName_44 : decode (mC m_Archive_readName) 44 = .ok (.iload_n 3, 1) := by decide +kernel
theorem d_Archive_readName_45 : decode (mC m_Archive_readName) 45 = .ok (.bipush 8, 2) := by decide +kernel
theorem d_Archive_readName_47 : decode (mC m_Archive_readName) 47 = .ok (.ishl, 1) := by decide +kernel
theorem d_Archive_readName_48 : decode (mC m_Archive_readName) 48 = .ok (.aload_n 0, 1) := by decide +kernel
theorem d_Archive_readName_49 : decode (mC m_Archive_readName) 49 = .ok (.getfield 9, 3) := by decide +kernel
theorem d_Archive_readName_52 : decode (mC m_Archive_readName) 52 = .ok (.iload 4, 2) := by decide +kernel
theorem d_Archive_readName_54 : decode (mC m_Archive_readName) 54 = .ok (.invokevirtual 148, 3) := by decide +kernel
theorem d_Archive_readName_57 : decode (mC m_Archive_readName) 57 = .ok (.ior, 1) := by decide +kernel
theorem d_Archive_readName_58 : decode (mC m_Archive_readName) 58 = .ok (.istore_n 3, 1) := by decide +kernel
theorem d_Archive_readName_59 : decode (mC m_Archive_readName) 59 = .ok (.iinc 4 1, 3) := by decide +kernel
theorem d_Archive_readName_62 : decode (mC m_Archive_readName) 62 = .ok (.goto (-41), 3) := by decide +kernel
theorem d_Archive_readName_65 : decode (mC m_Archive_readName) 65 = .ok (.iload_n 3, 1) := by decide +kernel
theorem d_Archive_readName_66 : decode (mC m_Archive_readName) 66 = .ok (.ireturn, 1) := by decide +kernel
def b_Archive_readName_21 (F : Nat) (K21 : Nat → Int32 → Int32 → Int32 → zW → Option (Int32 × zW)) (v0 : Nat) (v2 : Int32) (v3 : Int32) (v4 : Int32) (w : zW) : Option (Int32 × zW) := if v2 ≤ v4 then (some (v3, w)) else ((getR w v0 6 0).bind fun x28 => (zobj w x28 0).bind fun _ => (f_Row_get F x28 v4 w).bind fun r33 => (f_Zip_isNameByte F r33.1 r33.2).bind fun r36 => if r36.1 = 0 then (some ((-1 : Int32), r36.2)) else ((getR r36.2 v0 6 0).bind fun x49 => (zobj r36.2 x49 0).bind fun _ => (f_Row_get F x49 v4 r36.2).bind fun r54 => K21 v0 v2 ((v3 <<< ((8 : Int32) &&& 31)) ||| r54.1) (v4 + (1 : Int32)) r54.2))
set_option maxRecDepth 100000 in
set_option maxHeartbeats 4000000 in
theorem b_Archive_readName_21_ok (G : zG) (F : Nat) (K21 : Nat → Int32 → Int32 → Int32 → zW → Option (Int32 × zW)) (hK21 : ∀ (v0 : Nat) (v2 : Int32) (v3 : Int32) (v4 : Int32) (w : zW) (r : (Int32 × zW)), K21 v0 v2 v3 v4 w = some r → zV G m_Archive_readName 21 [(0, .ref (z0 G + v0)), (2, .int v2), (3, .int v3), (4, .int v4)] [] w 0 0 (oI r.1) r.2) (v0 : Nat) (v2 : Int32) (v3 : Int32) (v4 : Int32) (w : zW) (r : (Int32 × zW)) (h : b_Archive_readName_21 F K21 v0 v2 v3 v4 w = some r) : zV G m_Archive_readName 21 [(0, .ref (z0 G + v0)), (2, .int v2), (3, .int v3), (4, .int v4)] [] w 0 0 (oI r.1) r.2 := by
  unfold b_Archive_readName_21 at h
  refine V_iload (i := 4) d_Archive_readName_21 3 rfl ?_
  refine V_iload_n (i := 2) d_Archive_readName_23 rfl 1 rfl ?_
  refine V_icmp_ge (tgt := 65) d_Archive_readName_24 (by decide) (fun c24 => ?_) (fun c24 => ?_)
  · rw [if_pos c24] at h
    refine V_iload_n (i := 3) d_Archive_readName_65 rfl 2 rfl ?_
    obtain rfl := Option.some.inj h
    exact V_iret rfl (by decide) (by decide) d_Archive_readName_66
  · rw [if_neg c24] at h
    refine V_aload_n (i := 0) d_Archive_readName_27 rfl 0 rfl ?_
    obtain ⟨x28, e28, h⟩ := ob h
    refine V_getR (ci := 6) (k := 0) d_Archive_readName_28 e28 rfl (by decide) in_Archive k212 ?_
    refine V_iload (i := 4) d_Archive_readName_31 3 rfl ?_
    obtain ⟨_, eo33, h⟩ := ob h
    obtain ⟨r33, e33, h⟩ := ob h
    refine V_call (v := some (.int r33.1)) (st := []) (inv_V (N := m_Row_get) (As := [.int v4]) (ci := 0) d_Archive_readName_33 eo33 rfl k399 k400 k401 kc_Row_get y_Row_get) ⟨Or.inl kc_Row_get, k2, by decide, by decide⟩ (Nat.le_of_ble_eq_true rfl) (by decide) (by decide) (c_Row_get G F x28 v4 w r33 e33) ?_
    obtain ⟨r36, e36, h⟩ := ob h
    refine V_call (v := some (.int r36.1)) (st := []) (inv_SN (N := m_Zip_isNameByte) (As := [.int r33.1]) d_Archive_readName_36 k407 k408 k1 kc_Zip_isNameByte y_Zip_isNameByte) ⟨Or.inl kc_Zip_isNameByte, k1, by decide, by decide⟩ (Nat.le_of_ble_eq_true rfl) (by decide) (by decide) (c_Zip_isNameByte G F r33.1 r33.2 r36 e36) ?_
    refine V_if_ne (tgt := 44) d_Archive_readName_39 (by decide) (fun c39 => ?_) (fun c39 => ?_)
    · rw [if_neg c39] at h
      refine V_iload_n (i := 3) d_Archive_readName_44 rfl 2 rfl ?_
      refine V_bipush (v := 8) d_Archive_readName_45 (by decide) ?_
      refine V_ishl d_Archive_readName_47 ?_
      refine V_aload_n (i := 0) d_Archive_readName_48 rfl 0 rfl ?_
      obtain ⟨x49, e49, h⟩ := ob h
      refine V_getR (ci := 6) (k := 0) d_Archive_readName_49 e49 rfl (by decide) in_Archive k212 ?_
      refine V_iload (i := 4) d_Archive_readName_52 3 rfl ?_
      obtain ⟨_, eo54, h⟩ := ob h
      obtain ⟨r54, e54, h⟩ := ob h
      refine V_call (v := some (.int r54.1)) (st := [.int (v3 <<< ((8 : Int32) &&& 31))]) (inv_V (N := m_Row_get) (As := [.int v4]) (ci := 0) d_Archive_readName_54 eo54 rfl k399 k400 k401 kc_Row_get y_Row_get) ⟨Or.inl kc_Row_get, k2, by decide, by decide⟩ (Nat.le_of_ble_eq_true rfl) (by decide) (by decide) (c_Row_get G F x49 v4 r36.2 r54 e54) ?_
      refine V_ior d_Archive_readName_57 ?_
      refine V_istore_n (i := 3) d_Archive_readName_58 rfl (by decide) rfl ?_
      refine V_iinc (i := 4) (v := (v4 + (1 : Int32))) d_Archive_readName_59 3 rfl (congrArg (fun y => v4 + y) (by decide : Int32.ofInt (1) = (1 : Int32))) (by decide) rfl ?_
      refine V_goto (tgt := 21) d_Archive_readName_62 (by decide) ?_
      refine V_lv [2, 3, 1, 0] rfl ?_
      exact hK21 v0 v2 ((v3 <<< ((8 : Int32) &&& 31)) ||| r54.1) (v4 + (1 : Int32)) r54.2 _ h
    · rw [if_pos c39] at h
      refine V_iconst (v := -1) d_Archive_readName_42 (by decide) ?_
      obtain rfl := Option.some.inj h
      exact V_iret rfl (by decide) (by decide) d_Archive_readName_43
def l_Archive_readName_21 (F : Nat) : Nat → Nat → Int32 → Int32 → Int32 → zW → Option (Int32 × zW)
  | 0 => fun _ _ _ _ _ => none
  | n + 1 => b_Archive_readName_21 F (l_Archive_readName_21 F n)
theorem l_Archive_readName_21_ok (G : zG) (F : Nat) (n : Nat) :  ∀ (v0 : Nat) (v2 : Int32) (v3 : Int32) (v4 : Int32) (w : zW) (r : (Int32 × zW)), l_Archive_readName_21 F n v0 v2 v3 v4 w = some r → zV G m_Archive_readName 21 [(0, .ref (z0 G + v0)), (2, .int v2), (3, .int v3), (4, .int v4)] [] w 0 0 (oI r.1) r.2 := by
  induction n with
  | zero => intro v0 v2 v3 v4 w r h; exact nomatch (show (none : Option (Int32 × zW)) = some r from h)
  | succ n ih => intro v0 v2 v3 v4 w r h; exact b_Archive_readName_21_ok G F (l_Archive_readName_21 F n) ih v0 v2 v3 v4 w r h
def b_Archive_readName_14 (F : Nat) (w : zW) : Option (Int32 × zW) := some ((-1 : Int32), w)
set_option maxRecDepth 100000 in
set_option maxHeartbeats 4000000 in
theorem b_Archive_readName_14_ok (G : zG) (F : Nat) (w : zW) (r : (Int32 × zW)) (h : b_Archive_readName_14 F w = some r) : zV G m_Archive_readName 14 [] [] w 0 0 (oI r.1) r.2 := by
  unfold b_Archive_readName_14 at h
  refine V_iconst (v := -1) d_Archive_readName_14 (by decide) ?_
  obtain rfl := Option.some.inj h
  exact V_iret rfl (by decide) (by decide) d_Archive_readName_15
def b_Archive_readName_0 (F : Nat) (v0 : Nat) (v1 : Int32) (v2 : Int32) (w : zW) : Option (Int32 × zW) := if (v2 - v1) < (1 : Int32) then (b_Archive_readName_14 F w) else (if (v2 - v1) ≤ (3 : Int32) then (l_Archive_readName_21 F F v0 v2 (0 : Int32) v1 w) else (b_Archive_readName_14 F w))
set_option maxRecDepth 100000 in
set_option maxHeartbeats 4000000 in
theorem b_Archive_readName_0_ok (G : zG) (F : Nat) (v0 : Nat) (v1 : Int32) (v2 : Int32) (w : zW) (r : (Int32 × zW)) (h : b_Archive_readName_0 F v0 v1 v2 w = some r) : zV G m_Archive_readName 0 [(0, .ref (z0 G + v0)), (1, .int v1), (2, .int v2)] [] w 0 0 (oI r.1) r.2 := by
  unfold b_Archive_readName_0 at h
  refine V_iload_n (i := 2) d_Archive_readName_0 rfl 2 rfl ?_
  refine V_iload_n (i := 1) d_Archive_readName_1 rfl 1 rfl ?_
  refine V_isub d_Archive_readName_2 ?_
  refine V_iconst (v := 1) d_Archive_readName_3 (by decide) ?_
  refine V_icmp_lt (tgt := 14) d_Archive_readName_4 (by decide) (fun c4 => ?_) (fun c4 => ?_)
  · rw [if_pos c4] at h
    refine V_lv [] rfl ?_
    exact b_Archive_readName_14_ok G F w _ h
  · rw [if_neg c4] at h
    refine V_iload_n (i := 2) d_Archive_readName_7 rfl 2 rfl ?_
    refine V_iload_n (i := 1) d_Archive_readName_8 rfl 1 rfl ?_
    refine V_isub d_Archive_readName_9 ?_
    refine V_iconst (v := 3) d_Archive_readName_10 (by decide) ?_
    refine V_icmp_le (tgt := 16) d_Archive_readName_11 (by decide) (fun c11 => ?_) (fun c11 => ?_)
    · rw [if_pos c11] at h
      refine V_iconst (v := 0) d_Archive_readName_16 (by decide) ?_
      refine V_istore_n (i := 3) d_Archive_readName_17 rfl (by decide) rfl ?_
      refine V_iload_n (i := 1) d_Archive_readName_18 rfl 2 rfl ?_
      refine V_istore (i := 4) d_Archive_readName_19 (by decide) rfl ?_
      refine V_lv [2, 4, 1, 0] rfl ?_
      exact l_Archive_readName_21_ok G F F v0 v2 (0 : Int32) v1 w _ h
    · rw [if_neg c11] at h
      refine V_lv [] rfl ?_
      exact b_Archive_readName_14_ok G F w _ h
def f_Archive_readName (F : Nat) (v0 : Nat) (v1 : Int32) (v2 : Int32) (w : zW) : Option (Int32 × zW) := b_Archive_readName_0 F v0 v1 v2 w
theorem c_Archive_readName (G : zG) (F : Nat) (v0 : Nat) (v1 : Int32) (v2 : Int32) (w : zW) (r : (Int32 × zW)) (h : f_Archive_readName F v0 v1 v2 w = some r) : zCT G m_Archive_readName [.ref (z0 G + v0), .int v1, .int v2] w (oI r.1) r.2 := zCT.ofV (by decide +kernel) (Or.inl ⟨kc_Archive_readName, rfl⟩) (Nat.le_of_ble_eq_true rfl) (b_Archive_readName_0_ok G F v0 v1 v2 w r h)

/-! ZipArray.isMethod(I)Z -/
def m_Zip_isMethod : zM := (⟨R_Zip, "isMethod", "(I)Z"⟩, prog_1_method_31_code, 1, (some .boolean), [], { frames := 0, cells := 0, slots := 0, locals := 0 })
theorem kc_Zip_isMethod : Cond.code (mY m_Zip_isMethod) (mC m_Zip_isMethod) (mL m_Zip_isMethod) (mT m_Zip_isMethod) ∈ zTb := tb_at 412 (by decide +kernel) rfl
theorem y_Zip_isMethod : (mY m_Zip_isMethod).cls ≠ "java/lang/invoke/MethodHandle" ∧ (mY m_Zip_isMethod).cls ≠ "java/lang/invoke/VarHandle" ∧ (parseMethodDescriptor (mY m_Zip_isMethod).desc).map (fun d => d.parameters.length) = some 1 := by decide +kernel
theorem d_Zip_isMethod_0 : decode (mC m_Zip_isMethod) 0 = .ok (.iload_n 0, 1) := by decide +kernel
theorem d_Zip_isMethod_1 : decode (mC m_Zip_isMethod) 1 = .ok (.ifCond .eq 9, 3) := by decide +kernel
theorem d_Zip_isMethod_4 : decode (mC m_Zip_isMethod) 4 = .ok (.iload_n 0, 1) := by decide +kernel
theorem d_Zip_isMethod_5 : decode (mC m_Zip_isMethod) 5 = .ok (.bipush 8, 2) := by decide +kernel
theorem d_Zip_isMethod_7 : decode (mC m_Zip_isMethod) 7 = .ok (.if_icmp .ne 7, 3) := by decide +kernel
theorem d_Zip_isMethod_10 : decode (mC m_Zip_isMethod) 10 = .ok (.iconst 1, 1) := by decide +kernel
theorem d_Zip_isMethod_11 : decode (mC m_Zip_isMethod) 11 = .ok (.goto 4, 3) := by decide +kernel
theorem d_Zip_isMethod_14 : decode (mC m_Zip_isMethod) 14 = .ok (.iconst 0, 1) := by decide +kernel
theorem d_Zip_isMethod_15 : decode (mC m_Zip_isMethod) 15 = .ok (.ireturn, 1) := by decide +kernel
def b_Zip_isMethod_10 (F : Nat) (w : zW) : Option (Int32 × zW) := some ((1 : Int32), w)
set_option maxRecDepth 100000 in
set_option maxHeartbeats 4000000 in
theorem b_Zip_isMethod_10_ok (G : zG) (F : Nat) (w : zW) (r : (Int32 × zW)) (h : b_Zip_isMethod_10 F w = some r) : zV G m_Zip_isMethod 10 [] [] w 0 0 (oI r.1) r.2 := by
  unfold b_Zip_isMethod_10 at h
  refine V_iconst (v := 1) d_Zip_isMethod_10 (by decide) ?_
  refine V_goto (tgt := 15) d_Zip_isMethod_11 (by decide) ?_
  obtain rfl := Option.some.inj h
  exact V_zret rfl (Or.inr rfl) (by decide) (by decide) d_Zip_isMethod_15
def b_Zip_isMethod_0 (F : Nat) (v0 : Int32) (w : zW) : Option (Int32 × zW) := if v0 = 0 then (b_Zip_isMethod_10 F w) else (if v0 = (8 : Int32) then (b_Zip_isMethod_10 F w) else (some ((0 : Int32), w)))
set_option maxRecDepth 100000 in
set_option maxHeartbeats 4000000 in
theorem b_Zip_isMethod_0_ok (G : zG) (F : Nat) (v0 : Int32) (w : zW) (r : (Int32 × zW)) (h : b_Zip_isMethod_0 F v0 w = some r) : zV G m_Zip_isMethod 0 [(0, .int v0)] [] w 0 0 (oI r.1) r.2 := by
  unfold b_Zip_isMethod_0 at h
  refine V_iload_n (i := 0) d_Zip_isMethod_0 rfl 0 rfl ?_
  refine V_if_eq (tgt := 10) d_Zip_isMethod_1 (by decide) (fun c1 => ?_) (fun c1 => ?_)
  · rw [if_pos c1] at h
    refine V_lv [] rfl ?_
    exact b_Zip_isMethod_10_ok G F w _ h
  · rw [if_neg c1] at h
    refine V_iload_n (i := 0) d_Zip_isMethod_4 rfl 0 rfl ?_
    refine V_bipush (v := 8) d_Zip_isMethod_5 (by decide) ?_
    refine V_icmp_ne (tgt := 14) d_Zip_isMethod_7 (by decide) (fun c7 => ?_) (fun c7 => ?_)
    · rw [if_neg c7] at h
      refine V_iconst (v := 0) d_Zip_isMethod_14 (by decide) ?_
      obtain rfl := Option.some.inj h
      exact V_zret rfl (Or.inl rfl) (by decide) (by decide) d_Zip_isMethod_15
    · rw [if_pos c7] at h
      refine V_lv [] rfl ?_
      exact b_Zip_isMethod_10_ok G F w _ h
def f_Zip_isMethod (F : Nat) (v0 : Int32) (w : zW) : Option (Int32 × zW) := b_Zip_isMethod_0 F v0 w
theorem c_Zip_isMethod (G : zG) (F : Nat) (v0 : Int32) (w : zW) (r : (Int32 × zW)) (h : f_Zip_isMethod F v0 w = some r) : zCT G m_Zip_isMethod [.int v0] w (oI r.1) r.2 := zCT.ofV (by decide +kernel) (Or.inl ⟨kc_Zip_isMethod, rfl⟩) (Nat.le_of_ble_eq_true rfl) (b_Zip_isMethod_0_ok G F v0 w r h)

/-! ZipArray$Extras.open(II)V -/
def m_Extras_open : zM := (⟨R_Extras, "open", "(II)V"⟩, prog_5_method_2_code, 6, none, [], { frames := 1, cells := 0, slots := 0, locals := 25 })
theorem k144 : Cond.fieldLink R_Extras 32 (T_Extras 1).1 (T_Extras 1).2.1 (T_Extras 1).2.2.1 ∈ zTb := tb_at 144 (by decide +kernel) rfl
theorem k146 : Cond.fieldLink R_Extras 15 (T_Extras 2).1 (T_Extras 2).2.1 (T_Extras 2).2.2.1 ∈ zTb := tb_at 146 (by decide +kernel) rfl
theorem k148 : Cond.fieldLink R_Extras 19 (T_Extras 3).1 (T_Extras 3).2.1 (T_Extras 3).2.2.1 ∈ zTb := tb_at 148 (by decide +kernel) rfl
theorem k149 : Cond.fieldLink R_Extras 23 (T_Extras 4).1 (T_Extras 4).2.1 (T_Extras 4).2.2.1 ∈ zTb := tb_at 149 (by decide +kernel) rfl
theorem k417 : Cond.methodLink R_Extras 26 (mY m_Row_number) ∈ zTb := tb_at 417 (by decide +kernel) rfl
theorem kc_Extras_open : Cond.code (mY m_Extras_open) (mC m_Extras_open) (mL m_Extras_open) (mT m_Extras_open) ∈ zTb := tb_at 416 (by decide +kernel) rfl
theorem y_Extras_open : (mY m_Extras_open).cls ≠ "java/lang/invoke/MethodHandle" ∧ (mY m_Extras_open).cls ≠ "java/lang/invoke/VarHandle" ∧ (parseMethodDescriptor (mY m_Extras_open).desc).map (fun d => d.parameters.length) = some 2 := by decide +kernel
theorem d_Extras_open_0 : decode (mC m_Extras_open) 0 = .ok (.aload_n 0, 1) := by decide +kernel
theorem d_Extras_open_1 : decode (mC m_Extras_open) 1 = .ok (.iconst 0, 1) := by decide +kernel
theorem d_Extras_open_2 : decode (mC m_Extras_open) 2 = .ok (.putfield 15, 3) := by decide +kernel
theorem d_Extras_open_5 : decode (mC m_Extras_open) 5 = .ok (.aload_n 0, 1) := by decide +kernel
theorem d_Extras_open_6 : decode (mC m_Extras_open) 6 = .ok (.iload_n 2, 1) := by decide +kernel
theorem d_Extras_open_7 : decode (mC m_Extras_open) 7 = .ok (.putfield 19, 3) := by decide +kernel
theorem d_Extras_open_10 : decode (mC m_Extras_open) 10 = .ok (.aload_n 0, 1) := by decide +kernel
theorem d_Extras_open_11 : decode (mC m_Extras_open) 11 = .ok (.iload_n 2, 1) := by decide +kernel
theorem d_Extras_open_12 : decode (mC m_Extras_open) 12 = .ok (.putfield 23, 3) := by decide +kernel
theorem d_Extras_open_15 : decode (mC m_Extras_open) 15 = .ok (.iconst 0, 1) := by decide +kernel
theorem d_Extras_open_16 : decode (mC m_Extras_open) 16 = .ok (.istore_n 3, 1) := by decide +kernel
theorem d_Extras_open_17 : decode (mC m_Extras_open) 17 = .ok (.iconst 0, 1) := by decide +kernel
theorem d_Extras_open_18 : decode (mC m_Extras_open) 18 = .ok (.istore 4, 2) := by decide +kernel
theorem d_Extras_open_20 : decode (mC m_Extras_open) 20 = .ok (.iload_n 1, 1) := by decide +kernel
theorem d_Extras_open_21 : decode (mC m_Extras_open) 21 = .ok (.istore 5, 2) := by decide +kernel
theorem d_Extras_open_23 : decode (mC m_Extras_open) 23 = .ok (.iload_n 2, 1) := by decide +kernel
theorem d_Extras_open_24 : decode (mC m_Extras_open) 24 = .ok (.iload 5, 2) := by decide +kernel
theorem d_Extras_open_26 : decode (mC m_Extras_open) 26 = .ok (.isub, 1) := by decide +kernel
theorem d_Extras_open_27 : decode (mC m_Extras_open) 27 = .ok (.iconst 4, 1) := by decide +kernel
theorem d_Extras_open_28 : decode (mC m_Extras_open) 28 = .ok (.if_icmp .lt 70, 3) := by decide +kernel
theorem d_Extras_open_31 : decode (mC m_Extras_open) 31 = .ok (.aload_n 0, 1) := by decide +kernel
theorem d_Extras_open_32 : decode (mC m_Extras_open) 32 = .ok (.getfield 9, 3) := by decide +kernel
theorem d_Extras_open_35 : decode (mC m_Extras_open) 35 = .ok (.iload 5, 2) := by decide +kernel
theorem d_Extras_open_37 : decode (mC m_Extras_open) 37 = .ok (.iconst 2, 1) := by decide +kernel
theorem d_Extras_open_38 : decode (mC m_Extras_open) 38 = .ok (.iadd, 1) := by decide +kernel
theorem d_Extras_open_39 : decode (mC m_Extras_open) 39 = .ok (.iconst 2, 1) := by decide +kernel
theorem d_Extras_open_40 : decode (mC m_Extras_open) 40 = .ok (.invokevirtual 26, 3) := by decide +kernel
theorem d_Extras_open_43 : decode (mC m_Extras_open) 43 = .ok (.l2i, 1) := by decide +kernel
theorem d_Extras_open_44 : decode (mC m_Extras_open) 44 = .ok (.istore 4, 2) := by decide +kernel
theorem d_Extras_open_46 : decode (mC m_Extras_open) 46 = .ok (.iload_n 3, 1) := by decide +kernel
theorem d_Extras_open_47 : decode (mC m_Extras_open) 47 = .ok (.ifCond .ne 39, 3) := by decide +kernel
theorem d_Extras_open_50 : decode (mC m_Extras_open) 50 = .ok (.aload_n 0, 1) := by decide +kernel
theorem d_Extras_open_51 : decode (mC m_Extras_open) 51 = .ok (.getfield 9, 3) := by decide +kernel
theorem d_Extras_open_54 : decode (mC m_Extras_open) 54 = .ok (.iload 5, 2) := by decide +kernel
theorem d_Extras_open_56 : decode (mC m_Extras_open) 56 = .ok (.iconst 2, 1) := by decide +kernel
theorem d_Extras_open_57 : decode (mC m_Extras_open) 57 = .ok (.invokevirtual 26, 3) := by decide +kernel
theorem d_Extras_open_60 : decode (mC m_Extras_open) 60 = .ok (.lconst 1, 1) := by decide +kernel
theorem d_Extras_open_61 : decode (mC m_Extras_open) 61 = .ok (.lcmp, 1) := by decide +kernel
theorem d_Extras_open_62 : decode (mC m_Extras_open) 62 = .ok (.ifCond .ne 24, 3) := by decide +kernel
theorem d_Extras_open_65 : decode (mC m_Extras_open) 65 = .ok (.iconst 1, 1) := by decide +kernel
theorem d_Extras_open_66 : decode (mC m_Extras_open) 66 = .ok (.istore_n 3, 1) := by decide +kernel
theorem d_Extras_open_67 : decode (mC m_Extras_open) 67 = .ok (.aload_n 0, 1) := by decide +kernel
theorem d_Extras_open_68 : decode (mC m_Extras_open) 68 = .ok (.iload 5, 2) := by decide +kernel
theorem d_Extras_open_70 : decode (mC m_Extras_open) 70 = .ok (.iconst 4, 1) := by decide +kernel
theorem d_Extras_open_71 : decode (mC m_Extras_open) 71 = .ok (.iadd, 1) := by decide +kernel
theorem d_Extras_open_72 : decode (mC m_Extras_open) 72 = .ok (.putfield 19, 3) := by decide +kernel
theorem d_Extras_open_75 : decode (mC m_Extras_open) 75 = .ok (.aload_n 0, 1) := by decide +kernel
theorem d_Extras_open_76 : decode (mC m_Extras_open) 76 = .ok (.aload_n 0, 1) := by decide +kernel
theorem d_Extras_open_77 : decode (mC m_Extras_open) 77 = .ok (.getfield 19, 3) := by decide +kernel
theorem d_Extras_open_80 : decode (mC m_Extras_open) 80 = .ok (.iload 4, 2) := by decide +kernel
theorem d_Extras_open_82 : decode (mC m_Extras_open) 82 = .ok (.iadd, 1) := by decide +kernel
theorem d_Extras_open_83 : decode (mC m_Extras_open) 83 = .ok (.putfield 23, 3) := by decide +kernel
theorem d_Extras_open_86 : decode (mC m_Extras_open) 86 = .ok (.iload 5, 2) := by decide +kernel
theorem d_Extras_open_88 : decode (mC m_Extras_open) 88 = .ok (.iconst 4, 1) := by decide +kernel
theorem d_Extras_open_89 : decode (mC m_Extras_open) 89 = .ok (.iload 4, 2) := by decide +kernel
theorem d_Extras_open_91 : decode (mC m_Extras_open) 91 = .ok (.iadd, 1) := by decide +kernel
theorem d_Extras_open_92 : decode (mC m_Extras_open) 92 = .ok (.iadd, 1) := by decide +kernel
theorem d_Extras_open_93 : decode (mC m_Extras_open) 93 = .ok (.istore 5, 2) := by decide +kernel
theorem d_Extras_open_95 : decode (mC m_Extras_open) 95 = .ok (.goto (-72), 3) := by decide +kernel
theorem d_Extras_open_98 : decode (mC m_Extras_open) 98 = .ok (.aload_n 0, 1) := by decide +kernel
theorem d_Extras_open_99 : decode (mC m_Extras_open) 99 = .ok (.iload 5, 2) := by decide +kernel
theorem d_Extras_open_101 : decode (mC m_Extras_open) 101 = .ok (.iload_n 2, 1) := by decide +kernel
theorem d_Extras_open_102 : decode (mC m_Extras_open) 102 = .ok (.if_icmp .ne 7, 3) := by decide +kernel
theorem d_Extras_open_105 : decode (mC m_Extras_open) 105 = .ok (.iconst 1, 1) := by decide +kernel
theorem d_Extras_open_106 : decode (mC m_Extras_open) 106 = .ok (.goto 4, 3) := by decide +kernel
theorem d_Extras_open_109 : decode (mC m_Extras_open) 109 = .ok (.iconst 0, 1) := by decide +kernel
theorem d_Extras_open_110 : decode (mC m_Extras_open) 110 = .ok (.putfield 32, 3) := by decide +kernel
theorem d_Extras_open_113 : decode (mC m_Extras_open) 113 = .ok (.return_, 1) := by decide +kernel
def b_Extras_open_110 (F : Nat) (s0 : Nat) (s1 : Int32) (w : zW) : Option (Unit × zW) := if s1 = 0 ∨ s1 = 1 then (putI w s0 2 1 s1).bind fun w110 => some ((), w110) else none
set_option maxRecDepth 100000 in
set_option maxHeartbeats 4000000 in
theorem b_Extras_open_110_ok (G : zG) (F : Nat) (s0 : Nat) (s1 : Int32) (w : zW) (r : (Unit × zW)) (h : b_Extras_open_110 F s0 s1 w = some r) : zV G m_Extras_open 110 [] [.int s1, .ref (z0 G + s0)] w 0 0 (oV r.1) r.2 := by
  unfold b_Extras_open_110 at h
  by_cases g110 : ¬ (s1 = 0 ∨ s1 = 1)
  · exact absurd h (by rw [if_neg g110]; exact nofun)
  have g110 := Classical.not_not.mp g110
  rw [if_pos g110] at h
  obtain ⟨w110, e110, h⟩ := ob h
  refine V_putI (ci := 2) (k := 1) t_Extras d_Extras_open_110 e110 rfl (by decide) in_Extras k144 ty_Extras nm_Extras rfl (Or.inr ⟨rfl, g110⟩) ?_
  obtain rfl := Option.some.inj h
  exact V_vret rfl (by decide) (by decide) d_Extras_open_113
def b_Extras_open_86 (F : Nat) (K23 : Nat → Int32 → Int32 → Int32 → zW → Option (Unit × zW)) (v0 : Nat) (v2 : Int32) (v3 : Int32) (v4 : Int32) (v5 : Int32) (w : zW) : Option (Unit × zW) := K23 v0 v2 v3 (v5 + ((4 : Int32) + v4)) w
set_option maxRecDepth 100000 in
set_option maxHeartbeats 4000000 in
theorem b_Extras_open_86_ok (G : zG) (F : Nat) (K23 : Nat → Int32 → Int32 → Int32 → zW → Option (Unit × zW)) (hK23 : ∀ (v0 : Nat) (v2 : Int32) (v3 : Int32) (v5 : Int32) (w : zW) (r : (Unit × zW)), K23 v0 v2 v3 v5 w = some r → zV G m_Extras_open 23 [(0, .ref (z0 G + v0)), (2, .int v2), (3, .int v3), (5, .int v5)] [] w 0 0 (oV r.1) r.2) (v0 : Nat) (v2 : Int32) (v3 : Int32) (v4 : Int32) (v5 : Int32) (w : zW) (r : (Unit × zW)) (h : b_Extras_open_86 F K23 v0 v2 v3 v4 v5 w = some r) : zV G m_Extras_open 86 [(0, .ref (z0 G + v0)), (2, .int v2), (3, .int v3), (4, .int v4), (5, .int v5)] [] w 0 0 (oV r.1) r.2 := by
  unfold b_Extras_open_86 at h
  refine V_iload (i := 5) d_Extras_open_86 4 rfl ?_
  refine V_iconst (v := 4) d_Extras_open_88 (by decide) ?_
  refine V_iload (i := 4) d_Extras_open_89 3 rfl ?_
  refine V_iadd d_Extras_open_91 ?_
  refine V_iadd d_Extras_open_92 ?_
  refine V_istore (i := 5) d_Extras_open_93 (by decide) rfl ?_
  refine V_goto (tgt := 23) d_Extras_open_95 (by decide) ?_
  refine V_lv [1, 2, 3, 0] rfl ?_
  exact hK23 v0 v2 v3 (v5 + ((4 : Int32) + v4)) w _ h
def b_Extras_open_23 (F : Nat) (K23 : Nat → Int32 → Int32 → Int32 → zW → Option (Unit × zW)) (v0 : Nat) (v2 : Int32) (v3 : Int32) (v5 : Int32) (w : zW) : Option (Unit × zW) := if (v2 - v5) < (4 : Int32) then (if v5 = v2 then (b_Extras_open_110 F v0 (1 : Int32) w) else (b_Extras_open_110 F v0 (0 : Int32) w)) else ((getR w v0 2 0).bind fun x32 => (zobj w x32 0).bind fun _ => (f_Row_number F x32 (v5 + (2 : Int32)) (2 : Int32) w).bind fun r40 => if v3 = 0 then ((getR r40.2 v0 2 0).bind fun x51 => (zobj r40.2 x51 0).bind fun _ => (f_Row_number F x51 v5 (2 : Int32) r40.2).bind fun r57 => if (lg_cmp r57.1 (1 : Int64)) = 0 then ((putI r57.2 v0 2 3 (v5 + (4 : Int32))).bind fun w72 => (getI w72 v0 2 3).bind fun x77 => (putI w72 v0 2 4 (x77 + r40.1.toInt32)).bind fun w83 => b_Extras_open_86 F K23 v0 v2 (1 : Int32) r40.1.toInt32 v5 w83) else (b_Extras_open_86 F K23 v0 v2 v3 r40.1.toInt32 v5 r57.2)) else (b_Extras_open_86 F K23 v0 v2 v3 r40.1.toInt32 v5 r40.2))
set_option maxRecDepth 100000 in
set_option maxHeartbeats 4000000 in
theorem b_Extras_open_23_ok (G : zG) (F : Nat) (K23 : Nat → Int32 → Int32 → Int32 → zW → Option (Unit × zW)) (hK23 : ∀ (v0 : Nat) (v2 : Int32) (v3 : Int32) (v5 : Int32) (w : zW) (r : (Unit × zW)), K23 v0 v2 v3 v5 w = some r → zV G m_Extras_open 23 [(0, .ref (z0 G + v0)), (2, .int v2), (3, .int v3), (5, .int v5)] [] w 0 0 (oV r.1) r.2) (v0 : Nat) (v2 : Int32) (v3 : Int32) (v5 : Int32) (w : zW) (r : (Unit × zW)) (h : b_Extras_open_23 F K23 v0 v2 v3 v5 w = some r) : zV G m_Extras_open 23 [(0, .ref (z0 G + v0)), (2, .int v2), (3, .int v3), (5, .int v5)] [] w 0 0 (oV r.1) r.2 := by
  unfold b_Extras_open_23 at h
  refine V_iload_n (i := 2) d_Extras_open_23 rfl 1 rfl ?_
  refine V_iload (i := 5) d_Extras_open_24 3 rfl ?_
  refine V_isub d_Extras_open_26 ?_
  refine V_iconst (v := 4) d_Extras_open_27 (by decide) ?_
  refine V_icmp_lt (tgt := 98) d_Extras_open_28 (by decide) (fun c28 => ?_) (fun c28 => ?_)
  · rw [if_pos c28] at h
    refine V_aload_n (i := 0) d_Extras_open_98 rfl 0 rfl ?_
    refine V_iload (i := 5) d_Extras_open_99 3 rfl ?_
    refine V_iload_n (i := 2) d_Extras_open_101 rfl 1 rfl ?_
    refine V_icmp_ne (tgt := 109) d_Extras_open_102 (by decide) (fun c102 => ?_) (fun c102 => ?_)
    · rw [if_neg c102] at h
      refine V_iconst (v := 0) d_Extras_open_109 (by decide) ?_
      refine V_lv [] rfl ?_
      exact b_Extras_open_110_ok G F v0 (0 : Int32) w _ h
    · rw [if_pos c102] at h
      refine V_iconst (v := 1) d_Extras_open_105 (by decide) ?_
      refine V_goto (tgt := 110) d_Extras_open_106 (by decide) ?_
      refine V_lv [] rfl ?_
      exact b_Extras_open_110_ok G F v0 (1 : Int32) w _ h
  · rw [if_neg c28] at h
    refine V_aload_n (i := 0) d_Extras_open_31 rfl 0 rfl ?_
    obtain ⟨x32, e32, h⟩ := ob h
    refine V_getR (ci := 2) (k := 0) d_Extras_open_32 e32 rfl (by decide) in_Extras k143 ?_
    refine V_iload (i := 5) d_Extras_open_35 3 rfl ?_
    refine V_iconst (v := 2) d_Extras_open_37 (by decide) ?_
    refine V_iadd d_Extras_open_38 ?_
    refine V_iconst (v := 2) d_Extras_open_39 (by decide) ?_
    obtain ⟨_, eo40, h⟩ := ob h
    obtain ⟨r40, e40, h⟩ := ob h
    refine V_call (v := some (.long r40.1)) (st := []) (inv_V (N := m_Row_number) (As := [.int (v5 + (2 : Int32)), .int (2 : Int32)]) (ci := 0) d_Extras_open_40 eo40 rfl k417 k369 k370 kc_Row_number y_Row_number) ⟨Or.inl kc_Row_number, k2, by decide, by decide⟩ (Nat.le_of_ble_eq_true rfl) (by decide) (by decide) (c_Row_number G F x32 (v5 + (2 : Int32)) (2 : Int32) w r40 e40) ?_
    refine V_l2i d_Extras_open_43 ?_
    refine V_istore (i := 4) d_Extras_open_44 (by decide) rfl ?_
    refine V_iload_n (i := 3) d_Extras_open_46 rfl 3 rfl ?_
    refine V_if_ne (tgt := 86) d_Extras_open_47 (by decide) (fun c47 => ?_) (fun c47 => ?_)
    · rw [if_neg c47] at h
      refine V_lv [1, 2, 3, 0, 4] rfl ?_
      exact b_Extras_open_86_ok G F K23 hK23 v0 v2 v3 r40.1.toInt32 v5 r40.2 _ h
    · rw [if_pos c47] at h
      refine V_aload_n (i := 0) d_Extras_open_50 rfl 1 rfl ?_
      obtain ⟨x51, e51, h⟩ := ob h
      refine V_getR (ci := 2) (k := 0) d_Extras_open_51 e51 rfl (by decide) in_Extras k143 ?_
      refine V_iload (i := 5) d_Extras_open_54 4 rfl ?_
      refine V_iconst (v := 2) d_Extras_open_56 (by decide) ?_
      obtain ⟨_, eo57, h⟩ := ob h
      obtain ⟨r57, e57, h⟩ := ob h
      refine V_call (v := some (.long r57.1)) (st := []) (inv_V (N := m_Row_number) (As := [.int v5, .int (2 : Int32)]) (ci := 0) d_Extras_open_57 eo57 rfl k417 k369 k370 kc_Row_number y_Row_number) ⟨Or.inl kc_Row_number, k2, by decide, by decide⟩ (Nat.le_of_ble_eq_true rfl) (by decide) (by decide) (c_Row_number G F x51 v5 (2 : Int32) r40.2 r57 e57) ?_
      refine V_lconst (v := 1) d_Extras_open_60 (by decide) ?_
      refine V_lcmp d_Extras_open_61 ?_
      refine V_if_ne (tgt := 86) d_Extras_open_62 (by decide) (fun c62 => ?_) (fun c62 => ?_)
      · rw [if_neg c62] at h
        refine V_lv [1, 2, 3, 0, 4] rfl ?_
        exact b_Extras_open_86_ok G F K23 hK23 v0 v2 v3 r40.1.toInt32 v5 r57.2 _ h
      · rw [if_pos c62] at h
        refine V_iconst (v := 1) d_Extras_open_65 (by decide) ?_
        refine V_istore_n (i := 3) d_Extras_open_66 rfl (by decide) rfl ?_
        refine V_aload_n (i := 0) d_Extras_open_67 rfl 2 rfl ?_
        refine V_iload (i := 5) d_Extras_open_68 4 rfl ?_
        refine V_iconst (v := 4) d_Extras_open_70 (by decide) ?_
        refine V_iadd d_Extras_open_71 ?_
        obtain ⟨w72, e72, h⟩ := ob h
        refine V_putI (ci := 2) (k := 3) t_Extras d_Extras_open_72 e72 rfl (by decide) in_Extras k148 ty_Extras nm_Extras rfl (Or.inl rfl) ?_
        refine V_aload_n (i := 0) d_Extras_open_75 rfl 2 rfl ?_
        refine V_aload_n (i := 0) d_Extras_open_76 rfl 2 rfl ?_
        obtain ⟨x77, e77, h⟩ := ob h
        refine V_getI (ci := 2) (k := 3) d_Extras_open_77 e77 rfl (by decide) in_Extras k148 ?_
        refine V_iload (i := 4) d_Extras_open_80 1 rfl ?_
        refine V_iadd d_Extras_open_82 ?_
        obtain ⟨w83, e83, h⟩ := ob h
        refine V_putI (ci := 2) (k := 4) t_Extras d_Extras_open_83 e83 rfl (by decide) in_Extras k149 ty_Extras nm_Extras rfl (Or.inl rfl) ?_
        refine V_lv [2, 3, 0, 1, 4] rfl ?_
        exact b_Extras_open_86_ok G F K23 hK23 v0 v2 (1 : Int32) r40.1.toInt32 v5 w83 _ h
def l_Extras_open_23 (F : Nat) : Nat → Nat → Int32 → Int32 → Int32 → zW → Option (Unit × zW)
  | 0 => fun _ _ _ _ _ => none
  | n + 1 => b_Extras_open_23 F (l_Extras_open_23 F n)
theorem l_Extras_open_23_ok (G : zG) (F : Nat) (n : Nat) :  ∀ (v0 : Nat) (v2 : Int32) (v3 : Int32) (v5 : Int32) (w : zW) (r : (Unit × zW)), l_Extras_open_23 F n v0 v2 v3 v5 w = some r → zV G m_Extras_open 23 [(0, .ref (z0 G + v0)), (2, .int v2), (3, .int v3), (5, .int v5)] [] w 0 0 (oV r.1) r.2 := by
  induction n with
  | zero => intro v0 v2 v3 v5 w r h; exact nomatch (show (none : Option (Unit × zW)) = some r from h)
  | succ n ih => intro v0 v2 v3 v5 w r h; exact b_Extras_open_23_ok G F (l_Extras_open_23 F n) ih v0 v2 v3 v5 w r h
def b_Extras_open_0 (F : Nat) (v0 : Nat) (v1 : Int32) (v2 : Int32) (w : zW) : Option (Unit × zW) := (putI w v0 2 2 (0 : Int32)).bind fun w2 => (putI w2 v0 2 3 v2).bind fun w7 => (putI w7 v0 2 4 v2).bind fun w12 => l_Extras_open_23 F F v0 v2 (0 : Int32) v1 w12
set_option maxRecDepth 100000 in
set_option maxHeartbeats 4000000 in
theorem b_Extras_open_0_ok (G : zG) (F : Nat) (v0 : Nat) (v1 : Int32) (v2 : Int32) (w : zW) (r : (Unit × zW)) (h : b_Extras_open_0 F v0 v1 v2 w = some r) : zV G m_Extras_open 0 [(0, .ref (z0 G + v0)), (1, .int v1), (2, .int v2)] [] w 0 0 (oV r.1) r.2 := by
  unfold b_Extras_open_0 at h
  refine V_aload_n (i := 0) d_Extras_open_0 rfl 0 rfl ?_
  refine V_iconst (v := 0) d_Extras_open_1 (by decide) ?_
  obtain ⟨w2, e2, h⟩ := ob h
  refine V_putI (ci := 2) (k := 2) t_Extras d_Extras_open_2 e2 rfl (by decide) in_Extras k146 ty_Extras nm_Extras rfl (Or.inr ⟨rfl, Or.inl rfl⟩) ?_
  refine V_aload_n (i := 0) d_Extras_open_5 rfl 0 rfl ?_
  refine V_iload_n (i := 2) d_Extras_open_6 rfl 2 rfl ?_
  obtain ⟨w7, e7, h⟩ := ob h
  refine V_putI (ci := 2) (k := 3) t_Extras d_Extras_open_7 e7 rfl (by decide) in_Extras k148 ty_Extras nm_Extras rfl (Or.inl rfl) ?_
  refine V_aload_n (i := 0) d_Extras_open_10 rfl 0 rfl ?_
  refine V_iload_n (i := 2) d_Extras_open_11 rfl 2 rfl ?_
  obtain ⟨w12, e12, h⟩ := ob h
  refine V_putI (ci := 2) (k := 4) t_Extras d_Extras_open_12 e12 rfl (by decide) in_Extras k149 ty_Extras nm_Extras rfl (Or.inl rfl) ?_
  refine V_iconst (v := 0) d_Extras_open_15 (by decide) ?_
  refine V_istore_n (i := 3) d_Extras_open_16 rfl (by decide) rfl ?_
  refine V_iconst (v := 0) d_Extras_open_17 (by decide) ?_
  refine V_istore (i := 4) d_Extras_open_18 (by decide) rfl ?_
  refine V_iload_n (i := 1) d_Extras_open_20 rfl 3 rfl ?_
  refine V_istore (i := 5) d_Extras_open_21 (by decide) rfl ?_
  refine V_lv [3, 5, 2, 0] rfl ?_
  exact l_Extras_open_23_ok G F F v0 v2 (0 : Int32) v1 w12 _ h
def f_Extras_open (F : Nat) (v0 : Nat) (v1 : Int32) (v2 : Int32) (w : zW) : Option (Unit × zW) := b_Extras_open_0 F v0 v1 v2 w
theorem c_Extras_open (G : zG) (F : Nat) (v0 : Nat) (v1 : Int32) (v2 : Int32) (w : zW) (r : (Unit × zW)) (h : f_Extras_open F v0 v1 v2 w = some r) : zCT G m_Extras_open [.ref (z0 G + v0), .int v1, .int v2] w (oV r.1) r.2 := zCT.ofV (by decide +kernel) (Or.inl ⟨kc_Extras_open, rfl⟩) (Nat.le_of_ble_eq_true rfl) (b_Extras_open_0_ok G F v0 v1 v2 w r h)

/-! ZipArray$Extras.told(J)J -/
def m_Extras_told : zM := (⟨R_Extras, "told", "(J)J"⟩, prog_5_method_3_code, 3, (some .long), [], { frames := 1, cells := 0, slots := 0, locals := 25 })
theorem k426 : Cond.constantLong R_Extras 35 4294967295 ∈ zTb := tb_at 426 (by decide +kernel) rfl
theorem kc_Extras_told : Cond.code (mY m_Extras_told) (mC m_Extras_told) (mL m_Extras_told) (mT m_Extras_told) ∈ zTb := tb_at 425 (by decide +kernel) rfl
theorem y_Extras_told : (mY m_Extras_told).cls ≠ "java/lang/invoke/MethodHandle" ∧ (mY m_Extras_told).cls ≠ "java/lang/invoke/VarHandle" ∧ (parseMethodDescriptor (mY m_Extras_told).desc).map (fun d => d.parameters.length) = some 1 := by decide +kernel
theorem d_Extras_told_0 : decode (mC m_Extras_told) 0 = .ok (.lload_n 1, 1) := by decide +kernel
theorem d_Extras_told_1 : decode (mC m_Extras_told) 1 = .ok (.ldc2_w 35, 3) := by decide +kernel
theorem d_Extras_told_4 : decode (mC m_Extras_told) 4 = .ok (.lcmp, 1) := by decide +kernel
theorem d_Extras_told_5 : decode (mC m_Extras_told) 5 = .ok (.ifCond .eq 5, 3) := by decide +kernel
theorem d_Extras_told_8 : decode (mC m_Extras_told) 8 = .ok (.lload_n 1, 1) := by decide +kernel
theorem d_Extras_told_9 : decode (mC m_Extras_told) 9 = .ok (.lreturn, 1) := by decide +kernel
theorem d_Extras_told_10 : decode (mC m_Extras_told) 10 = .ok (.aload_n 0, 1) := by decide +kernel
theorem d_Extras_told_11 : decode (mC m_Extras_told) 11 = .ok (.getfield 23, 3) := by decide +kernel
theorem d_Extras_told_14 : decode (mC m_Extras_told) 14 = .ok (.aload_n 0, 1) := by decide +kernel
theorem d_Extras_told_15 : decode (mC m_Extras_told) 15 = .ok (.getfield 19, 3) := by decide +kernel
theorem d_Extras_told_18 : decode (mC m_Extras_told) 18 = .ok (.isub, 1) := by decide +kernel
theorem d_Extras_told_19 : decode (mC m_Extras_told) 19 = .ok (.bipush 8, 2) := by decide +kernel
theorem d_Extras_told_21 : decode (mC m_Extras_told) 21 = .ok (.if_icmp .ge 10, 3) := by decide +kernel
theorem d_Extras_told_24 : decode (mC m_Extras_told) 24 = .ok (.aload_n 0, 1) := by decide +kernel
theorem d_Extras_told_25 : decode (mC m_Extras_told) 25 = .ok (.iconst 1, 1) := by decide +kernel
theorem d_Extras_told_26 : decode (mC m_Extras_told) 26 = .ok (.putfield 15, 3) := by decide +kernel
theorem d_Extras_told_29 : decode (mC m_Extras_told) 29 = .ok (.lload_n 1, 1) := by decide +kernel
theorem d_Extras_told_30 : decode (mC m_Extras_told) 30 = .ok (.lreturn, 1) := by decide +kernel
theorem d_Extras_told_31 : decode (mC m_Extras_told) 31 = .ok (.aload_n 0, 1) := by decide +kernel
theorem d_Extras_told_32 : decode (mC m_Extras_told) 32 = .ok (.dup, 1) := by decide +kernel
theorem d_Extras_told_33 : decode (mC m_Extras_told) 33 = .ok (.getfield 19, 3) := by decide +kernel
theorem d_Extras_told_36 : decode (mC m_Extras_told) 36 = .ok (.bipush 8, 2) := by decide +kernel
theorem d_Extras_told_38 : decode (mC m_Extras_told) 38 = .ok (.iadd, 1) := by decide +kernel
theorem d_Extras_told_39 : decode (mC m_Extras_told) 39 = .ok (.putfield 19, 3) := by decide +kernel
theorem d_Extras_told_42 : decode (mC m_Extras_told) 42 = .ok (.aload_n 0, 1) := by decide +kernel
theorem d_Extras_told_43 : decode (mC m_Extras_told) 43 = .ok (.getfield 9, 3) := by decide +kernel
theorem d_Extras_told_46 : decode (mC m_Extras_told) 46 = .ok (.aload_n 0, 1) := by decide +kernel
theorem d_Extras_told_47 : decode (mC m_Extras_told) 47 = .ok (.getfield 19, 3) := by decide +kernel
theorem d_Extras_told_50 : decode (mC m_Extras_told) 50 = .ok (.bipush 8, 2) := by decide +kernel
theorem d_Extras_told_52 : decode (mC m_Extras_told) 52 = .ok (.isub, 1) := by decide +kernel
theorem d_Extras_told_53 : decode (mC m_Extras_told) 53 = .ok (.bipush 8, 2) := by decide +kernel
theorem d_Extras_told_55 : decode (mC m_Extras_told) 55 = .ok (.invokevirtual 26, 3) := by decide +kernel
theorem d_Extras_told_58 : decode (mC m_Extras_told) 58 = .ok (.lreturn, 1) := by decide +kernel
def b_Extras_told_0 (F : Nat) (v0 : Nat) (v1 : Int64) (w : zW) : Option (Int64 × zW) := if (lg_cmp v1 (4294967295 : Int64)) = 0 then ((getI w v0 2 4).bind fun x11 => (getI w v0 2 3).bind fun x15 => if (8 : Int32) ≤ (x11 - x15) then ((getI w v0 2 3).bind fun x33 => (putI w v0 2 3 (x33 + (8 : Int32))).bind fun w39 => (getR w39 v0 2 0).bind fun x43 => (getI w39 v0 2 3).bind fun x47 => (zobj w39 x43 0).bind fun _ => (f_Row_number F x43 (x47 - (8 : Int32)) (8 : Int32) w39).bind fun r55 => some (r55.1, r55.2)) else ((putI w v0 2 2 (1 : Int32)).bind fun w26 => some (v1, w26))) else (some (v1, w))
set_option maxRecDepth 100000 in
set_option maxHeartbeats 4000000 in
theorem b_Extras_told_0_ok (G : zG) (F : Nat) (v0 : Nat) (v1 : Int64) (w : zW) (r : (Int64 × zW)) (h : b_Extras_told_0 F v0 v1 w = some r) : zV G m_Extras_told 0 [(0, .ref (z0 G + v0)), (1, .long v1)] [] w 0 0 (oJ r.1) r.2 := by
  unfold b_Extras_told_0 at h
  refine V_lload_n (i := 1) d_Extras_told_0 rfl 1 rfl ?_
  refine V_ldc2 (v := 4294967295) d_Extras_told_1 k426 ?_
  refine V_lcmp d_Extras_told_4 ?_
  refine V_if_eq (tgt := 10) d_Extras_told_5 (by decide) (fun c5 => ?_) (fun c5 => ?_)
  · rw [if_pos c5] at h
    refine V_aload_n (i := 0) d_Extras_told_10 rfl 0 rfl ?_
    obtain ⟨x11, e11, h⟩ := ob h
    refine V_getI (ci := 2) (k := 4) d_Extras_told_11 e11 rfl (by decide) in_Extras k149 ?_
    refine V_aload_n (i := 0) d_Extras_told_14 rfl 0 rfl ?_
    obtain ⟨x15, e15, h⟩ := ob h
    refine V_getI (ci := 2) (k := 3) d_Extras_told_15 e15 rfl (by decide) in_Extras k148 ?_
    refine V_isub d_Extras_told_18 ?_
    refine V_bipush (v := 8) d_Extras_told_19 (by decide) ?_
    refine V_icmp_ge (tgt := 31) d_Extras_told_21 (by decide) (fun c21 => ?_) (fun c21 => ?_)
    · rw [if_pos c21] at h
      refine V_aload_n (i := 0) d_Extras_told_31 rfl 0 rfl ?_
      refine V_dup rfl d_Extras_told_32 ?_
      obtain ⟨x33, e33, h⟩ := ob h
      refine V_getI (ci := 2) (k := 3) d_Extras_told_33 e33 rfl (by decide) in_Extras k148 ?_
      refine V_bipush (v := 8) d_Extras_told_36 (by decide) ?_
      refine V_iadd d_Extras_told_38 ?_
      obtain ⟨w39, e39, h⟩ := ob h
      refine V_putI (ci := 2) (k := 3) t_Extras d_Extras_told_39 e39 rfl (by decide) in_Extras k148 ty_Extras nm_Extras rfl (Or.inl rfl) ?_
      refine V_aload_n (i := 0) d_Extras_told_42 rfl 0 rfl ?_
      obtain ⟨x43, e43, h⟩ := ob h
      refine V_getR (ci := 2) (k := 0) d_Extras_told_43 e43 rfl (by decide) in_Extras k143 ?_
      refine V_aload_n (i := 0) d_Extras_told_46 rfl 0 rfl ?_
      obtain ⟨x47, e47, h⟩ := ob h
      refine V_getI (ci := 2) (k := 3) d_Extras_told_47 e47 rfl (by decide) in_Extras k148 ?_
      refine V_bipush (v := 8) d_Extras_told_50 (by decide) ?_
      refine V_isub d_Extras_told_52 ?_
      refine V_bipush (v := 8) d_Extras_told_53 (by decide) ?_
      obtain ⟨_, eo55, h⟩ := ob h
      obtain ⟨r55, e55, h⟩ := ob h
      refine V_call (v := some (.long r55.1)) (st := []) (inv_V (N := m_Row_number) (As := [.int (x47 - (8 : Int32)), .int (8 : Int32)]) (ci := 0) d_Extras_told_55 eo55 rfl k417 k369 k370 kc_Row_number y_Row_number) ⟨Or.inl kc_Row_number, k2, by decide, by decide⟩ (Nat.le_of_ble_eq_true rfl) (by decide) (by decide) (c_Row_number G F x43 (x47 - (8 : Int32)) (8 : Int32) w39 r55 e55) ?_
      obtain rfl := Option.some.inj h
      exact V_lret rfl (by decide) (by decide) d_Extras_told_58
    · rw [if_neg c21] at h
      refine V_aload_n (i := 0) d_Extras_told_24 rfl 0 rfl ?_
      refine V_iconst (v := 1) d_Extras_told_25 (by decide) ?_
      obtain ⟨w26, e26, h⟩ := ob h
      refine V_putI (ci := 2) (k := 2) t_Extras d_Extras_told_26 e26 rfl (by decide) in_Extras k146 ty_Extras nm_Extras rfl (Or.inr ⟨rfl, Or.inr rfl⟩) ?_
      refine V_lload_n (i := 1) d_Extras_told_29 rfl 1 rfl ?_
      obtain rfl := Option.some.inj h
      exact V_lret rfl (by decide) (by decide) d_Extras_told_30
  · rw [if_neg c5] at h
    refine V_lload_n (i := 1) d_Extras_told_8 rfl 1 rfl ?_
    obtain rfl := Option.some.inj h
    exact V_lret rfl (by decide) (by decide) d_Extras_told_9
def f_Extras_told (F : Nat) (v0 : Nat) (v1 : Int64) (w : zW) : Option (Int64 × zW) := b_Extras_told_0 F v0 v1 w
theorem c_Extras_told (G : zG) (F : Nat) (v0 : Nat) (v1 : Int64) (w : zW) (r : (Int64 × zW)) (h : f_Extras_told F v0 v1 w = some r) : zCT G m_Extras_told [.ref (z0 G + v0), .long v1] w (oJ r.1) r.2 := zCT.ofV (by decide +kernel) (Or.inl ⟨kc_Extras_told, rfl⟩) (Nat.le_of_ble_eq_true rfl) (b_Extras_told_0_ok G F v0 v1 w r h)

/-! ZipArray$Archive.takeNumbers(LZipArray$Entry;)Z -/
def m_Archive_takeNumbers : zM := (⟨R_Archive, "takeNumbers", "(LZipArray$Entry;)Z"⟩, prog_2_method_9_code, 8, (some .boolean), [], { frames := 2, cells := 0, slots := 0, locals := 47 })
theorem k147 : Cond.fieldLink R_Archive 136 (T_Extras 2).1 (T_Extras 2).2.1 (T_Extras 2).2.2.1 ∈ zTb := tb_at 147 (by decide +kernel) rfl
theorem k181 : Cond.fieldLink R_Archive 142 (T_Entry 4).1 (T_Entry 4).2.1 (T_Entry 4).2.2.1 ∈ zTb := tb_at 181 (by decide +kernel) rfl
theorem k184 : Cond.fieldLink R_Archive 141 (T_Entry 5).1 (T_Entry 5).2.1 (T_Entry 5).2.2.1 ∈ zTb := tb_at 184 (by decide +kernel) rfl
theorem k187 : Cond.fieldLink R_Archive 145 (T_Entry 6).1 (T_Entry 6).2.1 (T_Entry 6).2.2.1 ∈ zTb := tb_at 187 (by decide +kernel) rfl
theorem k189 : Cond.fieldLink R_Archive 101 (T_Entry 7).1 (T_Entry 7).2.1 (T_Entry 7).2.2.1 ∈ zTb := tb_at 189 (by decide +kernel) rfl
theorem k422 : Cond.methodLink R_Archive 132 (mY m_Extras_told) ∈ zTb := tb_at 422 (by decide +kernel) rfl
theorem k423 : Cond.instanceMethod (mY m_Extras_told) ∈ zTb := tb_at 423 (by decide +kernel) rfl
theorem k424 : Cond.selects R_Extras (mY m_Extras_told) (mY m_Extras_told) ∈ zTb := tb_at 424 (by decide +kernel) rfl
theorem k427 : Cond.constantLong R_Archive 139 200 ∈ zTb := tb_at 427 (by decide +kernel) rfl
theorem kc_Archive_takeNumbers : Cond.code (mY m_Archive_takeNumbers) (mC m_Archive_takeNumbers) (mL m_Archive_takeNumbers) (mT m_Archive_takeNumbers) ∈ zTb := tb_at 421 (by decide +kernel) rfl
theorem y_Archive_takeNumbers : (mY m_Archive_takeNumbers).cls ≠ "java/lang/invoke/MethodHandle" ∧ (mY m_Archive_takeNumbers).cls ≠ "java/lang/invoke/VarHandle" ∧ (parseMethodDescriptor (mY m_Archive_takeNumbers).desc).map (fun d => d.parameters.length) = some 1 := by decide +kernel
theorem sel_Archive_takeNumbers : Cond.selects R_Archive (mY m_Archive_takeNumbers) (mY m_Archive_takeNumbers) ∈ zTb := sel_at (y := mY m_Archive_takeNumbers) (n := 7) 7 (by decide +kernel)
theorem d_Archive_takeNumbers_0 : decode (mC m_Archive_takeNumbers) 0 = .ok (.aload_n 0, 1) := by decide +kernel
theorem d_Archive_takeNumbers_1 : decode (mC m_Archive_takeNumbers) 1 = .ok (.getfield 20, 3) := by decide +kernel
theorem d_Archive_takeNumbers_4 : decode (mC m_Archive_takeNumbers) 4 = .ok (.aload_n 0, 1) := by decide +kernel
theorem d_Archive_takeNumbers_5 : decode (mC m_Archive_takeNumbers) 5 = .ok (.getfield 9, 3) := by decide +kernel
theorem d_Archive_takeNumbers_8 : decode (mC m_Archive_takeNumbers) 8 = .ok (.aload_n 1, 1) := by decide +kernel
theorem d_Archive_takeNumbers_9 : decode (mC m_Archive_takeNumbers) 9 = .ok (.getfield 101, 3) := by decide +kernel
theorem d_Archive_takeNumbers_12 : decode (mC m_Archive_takeNumbers) 12 = .ok (.bipush 24, 2) := by decide +kernel
theorem d_Archive_takeNumbers_14 : decode (mC m_Archive_takeNumbers) 14 = .ok (.iadd, 1) := by decide +kernel
theorem d_Archive_takeNumbers_15 : decode (mC m_Archive_takeNumbers) 15 = .ok (.iconst 4, 1) := by decide +kernel
theorem d_Archive_takeNumbers_16 : decode (mC m_Archive_takeNumbers) 16 = .ok (.invokevirtual 75, 3) := by decide +kernel
theorem d_Archive_takeNumbers_19 : decode (mC m_Archive_takeNumbers) 19 = .ok (.invokevirtual 132, 3) := by decide +kernel
theorem d_Archive_takeNumbers_22 : decode (mC m_Archive_takeNumbers) 22 = .ok (.lstore_n 2, 1) := by decide +kernel
theorem d_Archive_takeNumbers_23 : decode (mC m_Archive_takeNumbers) 23 = .ok (.aload_n 0, 1) := by decide +kernel
theorem d_Archive_takeNumbers_24 : decode (mC m_Archive_takeNumbers) 24 = .ok (.getfield 20, 3) := by decide +kernel
theorem d_Archive_takeNumbers_27 : decode (mC m_Archive_takeNumbers) 27 = .ok (.aload_n 0, 1) := by decide +kernel
theorem d_Archive_takeNumbers_28 : decode (mC m_Archive_takeNumbers) 28 = .ok (.getfield 9, 3) := by decide +kernel
theorem d_Archive_takeNumbers_31 : decode (mC m_Archive_takeNumbers) 31 = .ok (.aload_n 1, 1) := by decide +kernel
theorem d_Archive_takeNumbers_32 : decode (mC m_Archive_takeNumbers) 32 = .ok (.getfield 101, 3) := by decide +kernel
theorem d_Archive_takeNumbers_35 : decode (mC m_Archive_takeNumbers) 35 = .ok (.bipush 20, 2) := by decide +kernel
theorem d_Archive_takeNumbers_37 : decode (mC m_Archive_takeNumbers) 37 = .ok (.iadd, 1) := by decide +kernel
theorem d_Archive_takeNumbers_38 : decode (mC m_Archive_takeNumbers) 38 = .ok (.iconst 4, 1) := by decide +kernel
theorem d_Archive_takeNumbers_39 : decode (mC m_Archive_takeNumbers) 39 = .ok (.invokevirtual 75, 3) := by decide +kernel
theorem d_Archive_takeNumbers_42 : decode (mC m_Archive_takeNumbers) 42 = .ok (.invokevirtual 132, 3) := by decide +kernel
theorem d_Archive_takeNumbers_45 : decode (mC m_Archive_takeNumbers) 45 = .ok (.lstore 4, 2) := by decide +kernel
theorem d_Archive_takeNumbers_47 : decode (mC m_Archive_takeNumbers) 47 = .ok (.aload_n 0, 1) := by decide +kernel
theorem d_Archive_takeNumbers_48 : decode (mC m_Archive_takeNumbers) 48 = .ok (.getfield 20, 3) := by decide +kernel
theorem d_Archive_takeNumbers_51 : decode (mC m_Archive_takeNumbers) 51 = .ok (.aload_n 0, 1) := by decide +kernel
theorem d_Archive_takeNumbers_52 : decode (mC m_Archive_takeNumbers) 52 = .ok (.getfield 9, 3) := by decide +kernel
theorem d_Archive_takeNumbers_55 : decode (mC m_Archive_takeNumbers) 55 = .ok (.aload_n 1, 1) := by decide +kernel
theorem d_Archive_takeNumbers_56 : decode (mC m_Archive_takeNumbers) 56 = .ok (.getfield 101, 3) := by decide +kernel
theorem d_Archive_takeNumbers_59 : decode (mC m_Archive_takeNumbers) 59 = .ok (.bipush 42, 2) := by decide +kernel
theorem d_Archive_takeNumbers_61 : decode (mC m_Archive_takeNumbers) 61 = .ok (.iadd, 1) := by decide +kernel
theorem d_Archive_takeNumbers_62 : decode (mC m_Archive_takeNumbers) 62 = .ok (.iconst 4, 1) := by decide +kernel
theorem d_Archive_takeNumbers_63 : decode (mC m_Archive_takeNumbers) 63 = .ok (.invokevirtual 75, 3) := by decide +kernel
theorem d_Archive_takeNumbers_66 : decode (mC m_Archive_takeNumbers) 66 = .ok (.invokevirtual 132, 3) := by decide +kernel
theorem d_Archive_takeNumbers_69 : decode (mC m_Archive_takeNumbers) 69 = .ok (.lstore 6, 2) := by decide +kernel
theorem d_Archive_takeNumbers_71 : decode (mC m_Archive_takeNumbers) 71 = .ok (.aload_n 0, 1) := by decide +kernel
theorem d_Archive_takeNumbers_72 : decode (mC m_Archive_takeNumbers) 72 = .ok (.getfield 20, 3) := by decide +kernel
theorem d_Archive_takeNumbers_75 : decode (mC m_Archive_takeNumbers) 75 = .ok (.getfield 136, 3) := by decide +kernel
theorem d_Archive_takeNumbers_78 : decode (mC m_Archive_takeNumbers) 78 = .ok (.ifCond .ne 53, 3) := by decide +kernel
theorem d_Archive_takeNumbers_81 : decode (mC m_Archive_takeNumbers) 81 = .ok (.lload_n 2, 1) := by decide +kernel
theorem d_Archive_takeNumbers_82 : decode (mC m_Archive_takeNumbers) 82 = .ok (.lconst 0, 1) := by decide +kernel
theorem d_Archive_takeNumbers_83 : decode (mC m_Archive_takeNumbers) 83 = .ok (.lcmp, 1) := by decide +kernel
theorem d_Archive_takeNumbers_84 : decode (mC m_Archive_takeNumbers) 84 = .ok (.ifCond .lt 47, 3) := by decide +kernel
theorem d_Archive_takeNumbers_87 : decode (mC m_Archive_takeNumbers) 87 = .ok (.lload_n 2, 1) := by decide +kernel
theorem d_Archive_takeNumbers_88 : decode (mC m_Archive_takeNumbers) 88 = .ok (.ldc2_w 139, 3) := by decide +kernel
theorem d_Archive_takeNumbers_91 : decode (mC m_Archive_takeNumbers) 91 = .ok (.lcmp, 1) := by decide +kernel
theorem d_Archive_takeNumbers_92 : decode (mC m_Archive_takeNumbers) 92 = .ok (.ifCond .gt 39, 3) := by decide +kernel
theorem d_Archive_takeNumbers_95 : decode (mC m_Archive_takeNumbers) 95 = .ok (.lload 4, 2) := by decide +kernel
theorem d_Archive_takeNumbers_97 : decode (mC m_Archive_takeNumbers) 97 = .ok (.lconst 0, 1) := by decide +kernel
theorem d_Archive_takeNumbers_98 : decode (mC m_Archive_takeNumbers) 98 = .ok (.lcmp, 1) := by decide +kernel
theorem d_Archive_takeNumbers_99 : decode (mC m_Archive_takeNumbers) 99 = .ok (.ifCond .lt 32, 3) := by decide +kernel
theorem d_Archive_takeNumbers_102 : decode (mC m_Archive_takeNumbers) 102 = .ok (.lload 4, 2) := by decide +kernel
theorem d_Archive_takeNumbers_104 : decode (mC m_Archive_takeNumbers) 104 = .ok (.aload_n 0, 1) := by decide +kernel
theorem d_Archive_takeNumbers_105 : decode (mC m_Archive_takeNumbers) 105 = .ok (.getfield 46, 3) := by decide +kernel
theorem d_Archive_takeNumbers_108 : decode (mC m_Archive_takeNumbers) 108 = .ok (.i2l, 1) := by decide +kernel
theorem d_Archive_takeNumbers_109 : decode (mC m_Archive_takeNumbers) 109 = .ok (.lcmp, 1) := by decide +kernel
theorem d_Archive_takeNumbers_110 : decode (mC m_Archive_takeNumbers) 110 = .ok (.ifCond .gt 21, 3) := by decide +kernel
theorem d_Archive_takeNumbers_113 : decode (mC m_Archive_takeNumbers) 113 = .ok (.lload 6, 2) := by decide +kernel
theorem d_Archive_takeNumbers_115 : decode (mC m_Archive_takeNumbers) 115 = .ok (.lconst 0, 1) := by decide +kernel
theorem d_Archive_takeNumbers_116 : decode (mC m_Archive_takeNumbers) 116 = .ok (.lcmp, 1) := by decide +kernel
theorem d_Archive_takeNumbers_117 : decode (mC m_Archive_takeNumbers) 117 = .ok (.ifCond .lt 14, 3) := by decide +kernel
theorem d_Archive_takeNumbers_120 : decode (mC m_Archive_takeNumbers) 120 = .ok (.lload 6, 2) := by decide +kernel
theorem d_Archive_takeNumbers_122 : decode (mC m_Archive_takeNumbers) 122 = .ok (.aload_n 0, 1) := by decide +kernel
theorem d_Archive_takeNumbers_123 : decode (mC m_Archive_takeNumbers) 123 = .ok (.getfield 46, 3) := by decide +kernel
theorem d_Archive_takeNumbers_126 : decode (mC m_Archive_takeNumbers) 126 = .ok (.i2l, 1) := by decide +kernel
theorem d_Archive_takeNumbers_127 : decode (mC m_Archive_takeNumbers) 127 = .ok (.lcmp, 1) := by decide +kernel
theorem d_Archive_takeNumbers_128 : decode (mC m_Archive_takeNumbers) 128 = .ok (.ifCond .le 5, 3) := by decide +kernel
theorem d_Archive_takeNumbers_131 : decode (mC m_Archive_takeNumbers) 131 = .ok (.iconst 0, 1) := by decide +kernel
theorem d_Archive_takeNumbers_132 : decode (mC m_Archive_takeNumbers) 132 = .ok (.ireturn, 1) := by decide +kernel
theorem d_Archive_takeNumbers_133 : decode (mC m_Archive_takeNumbers) 133 = .ok (.aload_n 1, 1) := by decide +kernel
theorem d_Archive_takeNumbers_134 : decode (mC m_Archive_takeNumbers) 134 = .ok (.lload_n 2, 1) := by decide +kernel
theorem d_Archive_takeNumbers_135 : decode (mC m_Archive_takeNumbers) 135 = .ok (.l2i, 1) := by decide +kernel
theorem d_Archive_takeNumbers_136 : decode (mC m_Archive_takeNumbers) 136 = .ok (.putfield 141, 3) := by decide +kernel
theorem d_Archive_takeNumbers_139 : decode (mC m_Archive_takeNumbers) 139 = .ok (.aload_n 1, 1) := by decide +kernel
theorem d_Archive_takeNumbers_140 : decode (mC m_Archive_takeNumbers) 140 = .ok (.lload 4, 2) := by decide +kernel
theorem d_Archive_takeNumbers_142 : decode (mC m_Archive_takeNumbers) 142 = .ok (.l2i, 1) := by decide +kernel
theorem d_Archive_takeNumbers_143 : decode (mC m_Archive_takeNumbers) 143 = .ok (.putfield 142, 3) := by decide +kernel
theorem d_Archive_takeNumbers_146 : decode (mC m_Archive_takeNumbers) 146 = .ok (.aload_n 1, 1) := by decide +kernel
theorem d_Archive_takeNumbers_147 : decode (mC m_Archive_takeNumbers) 147 = .ok (.lload 6, 2) := by decide +kernel
theorem d_Archive_takeNumbers_149 : decode (mC m_Archive_takeNumbers) 149 = .ok (.l2i, 1) := by decide +kernel
theorem d_Archive_takeNumbers_150 : decode (mC m_Archive_takeNumbers) 150 = .ok (.putfield 145, 3) := by decide +kernel
theorem d_Archive_takeNumbers_153 : decode (mC m_Archive_takeNumbers) 153 = .ok (.iconst 1, 1) := by decide +kernel
theorem d_Archive_takeNumbers_154 : decode (mC m_Archive_takeNumbers) 154 = .ok (.ireturn, 1) := by decide +kernel
def b_Archive_takeNumbers_131 (F : Nat) (w : zW) : Option (Int32 × zW) := some ((0 : Int32), w)
set_option maxRecDepth 100000 in
set_option maxHeartbeats 4000000 in
theorem b_Archive_takeNumbers_131_ok (G : zG) (F : Nat) (w : zW) (r : (Int32 × zW)) (h : b_Archive_takeNumbers_131 F w = some r) : zV G m_Archive_takeNumbers 131 [] [] w 0 0 (oI r.1) r.2 := by
  unfold b_Archive_takeNumbers_131 at h
  refine V_iconst (v := 0) d_Archive_takeNumbers_131 (by decide) ?_
  obtain rfl := Option.some.inj h
  exact V_zret rfl (Or.inl rfl) (by decide) (by decide) d_Archive_takeNumbers_132
def b_Archive_takeNumbers_0 (F : Nat) (v0 : Nat) (v1 : Nat) (w : zW) : Option (Int32 × zW) := (getR w v0 6 1).bind fun x1 => (getR w v0 6 0).bind fun x5 => (getI w v1 1 7).bind fun x9 => (zobj w x5 0).bind fun _ => (f_Row_number F x5 (x9 + (24 : Int32)) (4 : Int32) w).bind fun r16 => (zobj r16.2 x1 2).bind fun _ => (f_Extras_told F x1 r16.1 r16.2).bind fun r19 => (getR r19.2 v0 6 1).bind fun x24 => (getR r19.2 v0 6 0).bind fun x28 => (getI r19.2 v1 1 7).bind fun x32 => (zobj r19.2 x28 0).bind fun _ => (f_Row_number F x28 (x32 + (20 : Int32)) (4 : Int32) r19.2).bind fun r39 => (zobj r39.2 x24 2).bind fun _ => (f_Extras_told F x24 r39.1 r39.2).bind fun r42 => (getR r42.2 v0 6 1).bind fun x48 => (getR r42.2 v0 6 0).bind fun x52 => (getI r42.2 v1 1 7).bind fun x56 => (zobj r42.2 x52 0).bind fun _ => (f_Row_number F x52 (x56 + (42 : Int32)) (4 : Int32) r42.2).bind fun r63 => (zobj r63.2 x48 2).bind fun _ => (f_Extras_told F x48 r63.1 r63.2).bind fun r66 => (getR r66.2 v0 6 1).bind fun x72 => (getI r66.2 x72 2 2).bind fun x75 => if x75 = 0 then (if (lg_cmp r19.1 (0 : Int64)) < 0 then (b_Archive_takeNumbers_131 F r66.2) else (if 0 < (lg_cmp r19.1 (200 : Int64)) then (b_Archive_takeNumbers_131 F r66.2) else (if (lg_cmp r42.1 (0 : Int64)) < 0 then (b_Archive_takeNumbers_131 F r66.2) else ((getI r66.2 v0 6 4).bind fun x105 => if 0 < (lg_cmp r42.1 x105.toInt64) then (b_Archive_takeNumbers_131 F r66.2) else (if (lg_cmp r66.1 (0 : Int64)) < 0 then (b_Archive_takeNumbers_131 F r66.2) else ((getI r66.2 v0 6 4).bind fun x123 => if (lg_cmp r66.1 x123.toInt64) ≤ 0 then ((putI r66.2 v1 1 5 r19.1.toInt32).bind fun w136 => (putI w136 v1 1 4 r42.1.toInt32).bind fun w143 => (putI w143 v1 1 6 r66.1.toInt32).bind fun w150 => some ((1 : Int32), w150)) else (b_Archive_takeNumbers_131 F r66.2))))))) else (b_Archive_takeNumbers_131 F r66.2)
set_option maxRecDepth 100000 in
set_option maxHeartbeats 4000000 in
theorem b_Archive_takeNumbers_0_ok (G : zG) (F : Nat) (v0 : Nat) (v1 : Nat) (w : zW) (r : (Int32 × zW)) (h : b_Archive_takeNumbers_0 F v0 v1 w = some r) : zV G m_Archive_takeNumbers 0 [(0, .ref (z0 G + v0)), (1, .ref (z0 G + v1))] [] w 0 0 (oI r.1) r.2 := by
  unfold b_Archive_takeNumbers_0 at h
  refine V_aload_n (i := 0) d_Archive_takeNumbers_0 rfl 0 rfl ?_
  obtain ⟨x1, e1, h⟩ := ob h
  refine V_getR (ci := 6) (k := 1) d_Archive_takeNumbers_1 e1 rfl (by decide) in_Archive k213 ?_
  refine V_aload_n (i := 0) d_Archive_takeNumbers_4 rfl 0 rfl ?_
  obtain ⟨x5, e5, h⟩ := ob h
  refine V_getR (ci := 6) (k := 0) d_Archive_takeNumbers_5 e5 rfl (by decide) in_Archive k212 ?_
  refine V_aload_n (i := 1) d_Archive_takeNumbers_8 rfl 1 rfl ?_
  obtain ⟨x9, e9, h⟩ := ob h
  refine V_getI (ci := 1) (k := 7) d_Archive_takeNumbers_9 e9 rfl (by decide) in_Entry k189 ?_
  refine V_bipush (v := 24) d_Archive_takeNumbers_12 (by decide) ?_
  refine V_iadd d_Archive_takeNumbers_14 ?_
  refine V_iconst (v := 4) d_Archive_takeNumbers_15 (by decide) ?_
  obtain ⟨_, eo16, h⟩ := ob h
  obtain ⟨r16, e16, h⟩ := ob h
  refine V_call (v := some (.long r16.1)) (st := [.ref (z0 G + x1)]) (inv_V (N := m_Row_number) (As := [.int (x9 + (24 : Int32)), .int (4 : Int32)]) (ci := 0) d_Archive_takeNumbers_16 eo16 rfl k368 k369 k370 kc_Row_number y_Row_number) ⟨Or.inl kc_Row_number, k2, by decide, by decide⟩ (Nat.le_of_ble_eq_true rfl) (by decide) (by decide) (c_Row_number G F x5 (x9 + (24 : Int32)) (4 : Int32) w r16 e16) ?_
  obtain ⟨_, eo19, h⟩ := ob h
  obtain ⟨r19, e19, h⟩ := ob h
  refine V_call (v := some (.long r19.1)) (st := []) (inv_V (N := m_Extras_told) (As := [.long r16.1]) (ci := 2) d_Archive_takeNumbers_19 eo19 rfl k422 k423 k424 kc_Extras_told y_Extras_told) ⟨Or.inl kc_Extras_told, k7, by decide, by decide⟩ (Nat.le_of_ble_eq_true rfl) (by decide) (by decide) (c_Extras_told G F x1 r16.1 r16.2 r19 e19) ?_
  refine V_lstore_n (i := 2) d_Archive_takeNumbers_22 rfl (by decide) rfl ?_
  refine V_aload_n (i := 0) d_Archive_takeNumbers_23 rfl 1 rfl ?_
  obtain ⟨x24, e24, h⟩ := ob h
  refine V_getR (ci := 6) (k := 1) d_Archive_takeNumbers_24 e24 rfl (by decide) in_Archive k213 ?_
  refine V_aload_n (i := 0) d_Archive_takeNumbers_27 rfl 1 rfl ?_
  obtain ⟨x28, e28, h⟩ := ob h
  refine V_getR (ci := 6) (k := 0) d_Archive_takeNumbers_28 e28 rfl (by decide) in_Archive k212 ?_
  refine V_aload_n (i := 1) d_Archive_takeNumbers_31 rfl 2 rfl ?_
  obtain ⟨x32, e32, h⟩ := ob h
  refine V_getI (ci := 1) (k := 7) d_Archive_takeNumbers_32 e32 rfl (by decide) in_Entry k189 ?_
  refine V_bipush (v := 20) d_Archive_takeNumbers_35 (by decide) ?_
  refine V_iadd d_Archive_takeNumbers_37 ?_
  refine V_iconst (v := 4) d_Archive_takeNumbers_38 (by decide) ?_
  obtain ⟨_, eo39, h⟩ := ob h
  obtain ⟨r39, e39, h⟩ := ob h
  refine V_call (v := some (.long r39.1)) (st := [.ref (z0 G + x24)]) (inv_V (N := m_Row_number) (As := [.int (x32 + (20 : Int32)), .int (4 : Int32)]) (ci := 0) d_Archive_takeNumbers_39 eo39 rfl k368 k369 k370 kc_Row_number y_Row_number) ⟨Or.inl kc_Row_number, k2, by decide, by decide⟩ (Nat.le_of_ble_eq_true rfl) (by decide) (by decide) (c_Row_number G F x28 (x32 + (20 : Int32)) (4 : Int32) r19.2 r39 e39) ?_
  obtain ⟨_, eo42, h⟩ := ob h
  obtain ⟨r42, e42, h⟩ := ob h
  refine V_call (v := some (.long r42.1)) (st := []) (inv_V (N := m_Extras_told) (As := [.long r39.1]) (ci := 2) d_Archive_takeNumbers_42 eo42 rfl k422 k423 k424 kc_Extras_told y_Extras_told) ⟨Or.inl kc_Extras_told, k7, by decide, by decide⟩ (Nat.le_of_ble_eq_true rfl) (by decide) (by decide) (c_Extras_told G F x24 r39.1 r39.2 r42 e42) ?_
  refine V_lstore (i := 4) d_Archive_takeNumbers_45 (by decide) rfl ?_
  refine V_aload_n (i := 0) d_Archive_takeNumbers_47 rfl 2 rfl ?_
  obtain ⟨x48, e48, h⟩ := ob h
  refine V_getR (ci := 6) (k := 1) d_Archive_takeNumbers_48 e48 rfl (by decide) in_Archive k213 ?_
  refine V_aload_n (i := 0) d_Archive_takeNumbers_51 rfl 2 rfl ?_
  obtain ⟨x52, e52, h⟩ := ob h
  refine V_getR (ci := 6) (k := 0) d_Archive_takeNumbers_52 e52 rfl (by decide) in_Archive k212 ?_
  refine V_aload_n (i := 1) d_Archive_takeNumbers_55 rfl 3 rfl ?_
  obtain ⟨x56, e56, h⟩ := ob h
  refine V_getI (ci := 1) (k := 7) d_Archive_takeNumbers_56 e56 rfl (by decide) in_Entry k189 ?_
  refine V_bipush (v := 42) d_Archive_takeNumbers_59 (by decide) ?_
  refine V_iadd d_Archive_takeNumbers_61 ?_
  refine V_iconst (v := 4) d_Archive_takeNumbers_62 (by decide) ?_
  obtain ⟨_, eo63, h⟩ := ob h
  obtain ⟨r63, e63, h⟩ := ob h
  refine V_call (v := some (.long r63.1)) (st := [.ref (z0 G + x48)]) (inv_V (N := m_Row_number) (As := [.int (x56 + (42 : Int32)), .int (4 : Int32)]) (ci := 0) d_Archive_takeNumbers_63 eo63 rfl k368 k369 k370 kc_Row_number y_Row_number) ⟨Or.inl kc_Row_number, k2, by decide, by decide⟩ (Nat.le_of_ble_eq_true rfl) (by decide) (by decide) (c_Row_number G F x52 (x56 + (42 : Int32)) (4 : Int32) r42.2 r63 e63) ?_
  obtain ⟨_, eo66, h⟩ := ob h
  obtain ⟨r66, e66, h⟩ := ob h
  refine V_call (v := some (.long r66.1)) (st := []) (inv_V (N := m_Extras_told) (As := [.long r63.1]) (ci := 2) d_Archive_takeNumbers_66 eo66 rfl k422 k423 k424 kc_Extras_told y_Extras_told) ⟨Or.inl kc_Extras_told, k7, by decide, by decide⟩ (Nat.le_of_ble_eq_true rfl) (by decide) (by decide) (c_Extras_told G F x48 r63.1 r63.2 r66 e66) ?_
  refine V_lstore (i := 6) d_Archive_takeNumbers_69 (by decide) rfl ?_
  refine V_aload_n (i := 0) d_Archive_takeNumbers_71 rfl 3 rfl ?_
  obtain ⟨x72, e72, h⟩ := ob h
  refine V_getR (ci := 6) (k := 1) d_Archive_takeNumbers_72 e72 rfl (by decide) in_Archive k213 ?_
  obtain ⟨x75, e75, h⟩ := ob h
  refine V_getI (ci := 2) (k := 2) d_Archive_takeNumbers_75 e75 rfl (by decide) in_Extras k147 ?_
  refine V_if_ne (tgt := 131) d_Archive_takeNumbers_78 (by decide) (fun c78 => ?_) (fun c78 => ?_)
  · rw [if_neg c78] at h
    refine V_lv [] rfl ?_
    exact b_Archive_takeNumbers_131_ok G F r66.2 _ h
  · rw [if_pos c78] at h
    refine V_lload_n (i := 2) d_Archive_takeNumbers_81 rfl 2 rfl ?_
    refine V_lconst (v := 0) d_Archive_takeNumbers_82 (by decide) ?_
    refine V_lcmp d_Archive_takeNumbers_83 ?_
    refine V_if_lt (tgt := 131) d_Archive_takeNumbers_84 (by decide) (fun c84 => ?_) (fun c84 => ?_)
    · rw [if_pos c84] at h
      refine V_lv [] rfl ?_
      exact b_Archive_takeNumbers_131_ok G F r66.2 _ h
    · rw [if_neg c84] at h
      refine V_lload_n (i := 2) d_Archive_takeNumbers_87 rfl 2 rfl ?_
      refine V_ldc2 (v := 200) d_Archive_takeNumbers_88 k427 ?_
      refine V_lcmp d_Archive_takeNumbers_91 ?_
      refine V_if_gt (tgt := 131) d_Archive_takeNumbers_92 (by decide) (fun c92 => ?_) (fun c92 => ?_)
      · rw [if_pos c92] at h
        refine V_lv [] rfl ?_
        exact b_Archive_takeNumbers_131_ok G F r66.2 _ h
      · rw [if_neg c92] at h
        refine V_lload (i := 4) d_Archive_takeNumbers_95 1 rfl ?_
        refine V_lconst (v := 0) d_Archive_takeNumbers_97 (by decide) ?_
        refine V_lcmp d_Archive_takeNumbers_98 ?_
        refine V_if_lt (tgt := 131) d_Archive_takeNumbers_99 (by decide) (fun c99 => ?_) (fun c99 => ?_)
        · rw [if_pos c99] at h
          refine V_lv [] rfl ?_
          exact b_Archive_takeNumbers_131_ok G F r66.2 _ h
        · rw [if_neg c99] at h
          refine V_lload (i := 4) d_Archive_takeNumbers_102 1 rfl ?_
          refine V_aload_n (i := 0) d_Archive_takeNumbers_104 rfl 3 rfl ?_
          obtain ⟨x105, e105, h⟩ := ob h
          refine V_getI (ci := 6) (k := 4) d_Archive_takeNumbers_105 e105 rfl (by decide) in_Archive k218 ?_
          refine V_i2l d_Archive_takeNumbers_108 ?_
          refine V_lcmp d_Archive_takeNumbers_109 ?_
          refine V_if_gt (tgt := 131) d_Archive_takeNumbers_110 (by decide) (fun c110 => ?_) (fun c110 => ?_)
          · rw [if_pos c110] at h
            refine V_lv [] rfl ?_
            exact b_Archive_takeNumbers_131_ok G F r66.2 _ h
          · rw [if_neg c110] at h
            refine V_lload (i := 6) d_Archive_takeNumbers_113 0 rfl ?_
            refine V_lconst (v := 0) d_Archive_takeNumbers_115 (by decide) ?_
            refine V_lcmp d_Archive_takeNumbers_116 ?_
            refine V_if_lt (tgt := 131) d_Archive_takeNumbers_117 (by decide) (fun c117 => ?_) (fun c117 => ?_)
            · rw [if_pos c117] at h
              refine V_lv [] rfl ?_
              exact b_Archive_takeNumbers_131_ok G F r66.2 _ h
            · rw [if_neg c117] at h
              refine V_lload (i := 6) d_Archive_takeNumbers_120 0 rfl ?_
              refine V_aload_n (i := 0) d_Archive_takeNumbers_122 rfl 3 rfl ?_
              obtain ⟨x123, e123, h⟩ := ob h
              refine V_getI (ci := 6) (k := 4) d_Archive_takeNumbers_123 e123 rfl (by decide) in_Archive k218 ?_
              refine V_i2l d_Archive_takeNumbers_126 ?_
              refine V_lcmp d_Archive_takeNumbers_127 ?_
              refine V_if_le (tgt := 133) d_Archive_takeNumbers_128 (by decide) (fun c128 => ?_) (fun c128 => ?_)
              · rw [if_pos c128] at h
                refine V_aload_n (i := 1) d_Archive_takeNumbers_133 rfl 4 rfl ?_
                refine V_lload_n (i := 2) d_Archive_takeNumbers_134 rfl 2 rfl ?_
                refine V_l2i d_Archive_takeNumbers_135 ?_
                obtain ⟨w136, e136, h⟩ := ob h
                refine V_putI (ci := 1) (k := 5) t_Entry d_Archive_takeNumbers_136 e136 rfl (by decide) in_Entry k184 ty_Entry nm_Entry rfl (Or.inl rfl) ?_
                refine V_aload_n (i := 1) d_Archive_takeNumbers_139 rfl 4 rfl ?_
                refine V_lload (i := 4) d_Archive_takeNumbers_140 1 rfl ?_
                refine V_l2i d_Archive_takeNumbers_142 ?_
                obtain ⟨w143, e143, h⟩ := ob h
                refine V_putI (ci := 1) (k := 4) t_Entry d_Archive_takeNumbers_143 e143 rfl (by decide) in_Entry k181 ty_Entry nm_Entry rfl (Or.inl rfl) ?_
                refine V_aload_n (i := 1) d_Archive_takeNumbers_146 rfl 4 rfl ?_
                refine V_lload (i := 6) d_Archive_takeNumbers_147 0 rfl ?_
                refine V_l2i d_Archive_takeNumbers_149 ?_
                obtain ⟨w150, e150, h⟩ := ob h
                refine V_putI (ci := 1) (k := 6) t_Entry d_Archive_takeNumbers_150 e150 rfl (by decide) in_Entry k187 ty_Entry nm_Entry rfl (Or.inl rfl) ?_
                refine V_iconst (v := 1) d_Archive_takeNumbers_153 (by decide) ?_
                obtain rfl := Option.some.inj h
                exact V_zret rfl (Or.inr rfl) (by decide) (by decide) d_Archive_takeNumbers_154
              · rw [if_neg c128] at h
                refine V_lv [] rfl ?_
                exact b_Archive_takeNumbers_131_ok G F r66.2 _ h
def f_Archive_takeNumbers (F : Nat) (v0 : Nat) (v1 : Nat) (w : zW) : Option (Int32 × zW) := b_Archive_takeNumbers_0 F v0 v1 w
theorem c_Archive_takeNumbers (G : zG) (F : Nat) (v0 : Nat) (v1 : Nat) (w : zW) (r : (Int32 × zW)) (h : f_Archive_takeNumbers F v0 v1 w = some r) : zCT G m_Archive_takeNumbers [.ref (z0 G + v0), .ref (z0 G + v1)] w (oI r.1) r.2 := zCT.ofV (by decide +kernel) (Or.inl ⟨kc_Archive_takeNumbers, rfl⟩) (Nat.le_of_ble_eq_true rfl) (b_Archive_takeNumbers_0_ok G F v0 v1 w r h)

/-! ZipArray$Archive.readPart(LZipArray$Entry;I)Z -/
def m_Archive_readPart : zM := (⟨R_Archive, "readPart", "(LZipArray$Entry;I)Z"⟩, prog_2_method_8_code, 6, (some .boolean), [], { frames := 3, cells := 0, slots := 0, locals := 74 })
theorem k145 : Cond.fieldLink R_Archive 124 (T_Extras 1).1 (T_Extras 1).2.1 (T_Extras 1).2.2.1 ∈ zTb := tb_at 145 (by decide +kernel) rfl
theorem k168 : Cond.fieldLink R_Archive 63 (T_Entry 0).1 (T_Entry 0).2.1 (T_Entry 0).2.2.1 ∈ zTb := tb_at 168 (by decide +kernel) rfl
theorem k172 : Cond.fieldLink R_Archive 108 (T_Entry 1).1 (T_Entry 1).2.1 (T_Entry 1).2.2.1 ∈ zTb := tb_at 172 (by decide +kernel) rfl
theorem k175 : Cond.fieldLink R_Archive 111 (T_Entry 2).1 (T_Entry 2).2.1 (T_Entry 2).2.2.1 ∈ zTb := tb_at 175 (by decide +kernel) rfl
theorem k178 : Cond.fieldLink R_Archive 114 (T_Entry 3).1 (T_Entry 3).2.1 (T_Entry 3).2.2.1 ∈ zTb := tb_at 178 (by decide +kernel) rfl
theorem k191 : Cond.fieldLink R_Archive 53 (T_Entry 8).1 (T_Entry 8).2.1 (T_Entry 8).2.2.1 ∈ zTb := tb_at 191 (by decide +kernel) rfl
theorem k394 : Cond.constantLong R_Archive 99 33639248 ∈ zTb := tb_at 394 (by decide +kernel) rfl
theorem k395 : Cond.methodLink R_Archive 104 (mY m_Archive_readName) ∈ zTb := tb_at 395 (by decide +kernel) rfl
theorem k397 : Cond.instanceMethod (mY m_Archive_readName) ∈ zTb := tb_at 397 (by decide +kernel) rfl
theorem k410 : Cond.methodLinkNest R_Archive 117 (mY m_Zip_isMethod) "ZipArray" ∈ zTb := tb_at 410 (by decide +kernel) rfl
theorem k411 : Cond.static (mY m_Zip_isMethod) ∈ zTb := tb_at 411 (by decide +kernel) rfl
theorem k413 : Cond.methodLink R_Archive 120 (mY m_Extras_open) ∈ zTb := tb_at 413 (by decide +kernel) rfl
theorem k414 : Cond.instanceMethod (mY m_Extras_open) ∈ zTb := tb_at 414 (by decide +kernel) rfl
theorem k415 : Cond.selects R_Extras (mY m_Extras_open) (mY m_Extras_open) ∈ zTb := tb_at 415 (by decide +kernel) rfl
theorem k418 : Cond.methodLink R_Archive 128 (mY m_Archive_takeNumbers) ∈ zTb := tb_at 418 (by decide +kernel) rfl
theorem k420 : Cond.instanceMethod (mY m_Archive_takeNumbers) ∈ zTb := tb_at 420 (by decide +kernel) rfl
theorem kc_Archive_readPart : Cond.code (mY m_Archive_readPart) (mC m_Archive_readPart) (mL m_Archive_readPart) (mT m_Archive_readPart) ∈ zTb := tb_at 393 (by decide +kernel) rfl
theorem y_Archive_readPart : (mY m_Archive_readPart).cls ≠ "java/lang/invoke/MethodHandle" ∧ (mY m_Archive_readPart).cls ≠ "java/lang/invoke/VarHandle" ∧ (parseMethodDescriptor (mY m_Archive_readPart).desc).map (fun d => d.parameters.length) = some 2 := by decide +kernel
theorem sel_Archive_readPart : Cond.selects R_Archive (mY m_Archive_readPart) (mY m_Archive_readPart) ∈ zTb := sel_at (y := mY m_Archive_readPart) (n := 7) 5 (by decide +kernel)
theorem d_Archive_readPart_0 : decode (mC m_Archive_readPart) 0 = .ok (.aload_n 0, 1) := by decide +kernel
theorem d_Archive_readPart_1 : decode (mC m_Archive_readPart) 1 = .ok (.getfield 56, 3) := by decide +kernel
theorem d_Archive_readPart_4 : decode (mC m_Archive_readPart) 4 = .ok (.iload_n 2, 1) := by decide +kernel
theorem d_Archive_readPart_5 : decode (mC m_Archive_readPart) 5 = .ok (.isub, 1) := by decide +kernel
theorem d_Archive_readPart_6 : decode (mC m_Archive_readPart) 6 = .ok (.bipush 46, 2) := by decide +kernel
theorem d_Archive_readPart_8 : decode (mC m_Archive_readPart) 8 = .ok (.if_icmp .lt 19, 3) := by decide +kernel
theorem d_Archive_readPart_11 : decode (mC m_Archive_readPart) 11 = .ok (.aload_n 0, 1) := by decide +kernel
theorem d_Archive_readPart_12 : decode (mC m_Archive_readPart) 12 = .ok (.getfield 9, 3) := by decide +kernel
theorem d_Archive_readPart_15 : decode (mC m_Archive_readPart) 15 = .ok (.iload_n 2, 1) := by decide +kernel
theorem d_Archive_readPart_16 : decode (mC m_Archive_readPart) 16 = .ok (.iconst 4, 1) := by decide +kernel
theorem d_Archive_readPart_17 : decode (mC m_Archive_readPart) 17 = .ok (.invokevirtual 75, 3) := by decide +kernel
theorem d_Archive_readPart_20 : decode (mC m_Archive_readPart) 20 = .ok (.ldc2_w 99, 3) := by decide +kernel
theorem d_Archive_readPart_23 : decode (mC m_Archive_readPart) 23 = .ok (.lcmp, 1) := by decide +kernel
theorem d_Archive_readPart_24 : decode (mC m_Archive_readPart) 24 = .ok (.ifCond .eq 5, 3) := by decide +kernel
theorem d_Archive_readPart_27 : decode (mC m_Archive_readPart) 27 = .ok (.iconst 0, 1) := by decide +kernel
theorem d_Archive_readPart_28 : decode (mC m_Archive_readPart) 28 = .ok (.ireturn, 1) := by decide +kernel
theorem d_Archive_readPart_29 : decode (mC m_Archive_readPart) 29 = .ok (.iload_n 2, 1) := by decide +kernel
theorem d_Archive_readPart_30 : decode (mC m_Archive_readPart) 30 = .ok (.bipush 46, 2) := by decide +kernel
theorem d_Archive_readPart_32 : decode (mC m_Archive_readPart) 32 = .ok (.iadd, 1) := by decide +kernel
theorem d_Archive_readPart_33 : decode (mC m_Archive_readPart) 33 = .ok (.istore_n 3, 1) := by decide +kernel
theorem d_Archive_readPart_34 : decode (mC m_Archive_readPart) 34 = .ok (.iload_n 3, 1) := by decide +kernel
theorem d_Archive_readPart_35 : decode (mC m_Archive_readPart) 35 = .ok (.aload_n 0, 1) := by decide +kernel
theorem d_Archive_readPart_36 : decode (mC m_Archive_readPart) 36 = .ok (.getfield 9, 3) := by decide +kernel
theorem d_Archive_readPart_39 : decode (mC m_Archive_readPart) 39 = .ok (.iload_n 2, 1) := by decide +kernel
theorem d_Archive_readPart_40 : decode (mC m_Archive_readPart) 40 = .ok (.bipush 28, 2) := by decide +kernel
theorem d_Archive_readPart_42 : decode (mC m_Archive_readPart) 42 = .ok (.iadd, 1) := by decide +kernel
theorem d_Archive_readPart_43 : decode (mC m_Archive_readPart) 43 = .ok (.iconst 2, 1) := by decide +kernel
theorem d_Archive_readPart_44 : decode (mC m_Archive_readPart) 44 = .ok (.invokevirtual 75, 3) := by decide +kernel
theorem d_Archive_readPart_47 : decode (mC m_Archive_readPart) 47 = .ok (.l2i, 1) := by decide +kernel
theorem d_Archive_readPart_48 : decode (mC m_Archive_readPart) 48 = .ok (.iadd, 1) := by decide +kernel
theorem d_Archive_readPart_49 : decode (mC m_Archive_readPart) 49 = .ok (.istore 4, 2) := by decide +kernel
theorem d_Archive_readPart_51 : decode (mC m_Archive_readPart) 51 = .ok (.iload 4, 2) := by decide +kernel
theorem d_Archive_readPart_53 : decode (mC m_Archive_readPart) 53 = .ok (.aload_n 0, 1) := by decide +kernel
theorem d_Archive_readPart_54 : decode (mC m_Archive_readPart) 54 = .ok (.getfield 9, 3) := by decide +kernel
theorem d_Archive_readPart_57 : decode (mC m_Archive_readPart) 57 = .ok (.iload_n 2, 1) := by decide +kernel
theorem d_Archive_readPart_58 : decode (mC m_Archive_readPart) 58 = .ok (.bipush 30, 2) := by decide +kernel
theorem d_Archive_readPart_60 : decode (mC m_Archive_readPart) 60 = .ok (.iadd, 1) := by decide +kernel
theorem d_Archive_readPart_61 : decode (mC m_Archive_readPart) 61 = .ok (.iconst 2, 1) := by decide +kernel
theorem d_Archive_readPart_62 : decode (mC m_Archive_readPart) 62 = .ok (.invokevirtual 75, 3) := by decide +kernel
theorem d_Archive_readPart_65 : decode (mC m_Archive_readPart) 65 = .ok (.l2i, 1) := by decide +kernel
theorem d_Archive_readPart_66 : decode (mC m_Archive_readPart) 66 = .ok (.iadd, 1) := by decide +kernel
theorem d_Archive_readPart_67 : decode (mC m_Archive_readPart) 67 = .ok (.istore 5, 2) := by decide +kernel
theorem d_Archive_readPart_69 : decode (mC m_Archive_readPart) 69 = .ok (.aload_n 1, 1) := by decide +kernel
theorem d_Archive_readPart_70 : decode (mC m_Archive_readPart) 70 = .ok (.iload_n 2, 1) := by decide +kernel
theorem d_Archive_readPart_71 : decode (mC m_Archive_readPart) 71 = .ok (.putfield 101, 3) := by decide +kernel
theorem d_Archive_readPart_74 : decode (mC m_Archive_readPart) 74 = .ok (.aload_n 1, 1) := by decide +kernel
theorem d_Archive_readPart_75 : decode (mC m_Archive_readPart) 75 = .ok (.iload 5, 2) := by decide +kernel
theorem d_Archive_readPart_77 : decode (mC m_Archive_readPart) 77 = .ok (.aload_n 0, 1) := by decide +kernel
theorem d_Archive_readPart_78 : decode (mC m_Archive_readPart) 78 = .ok (.getfield 9, 3) := by decide +kernel
theorem d_Archive_readPart_81 : decode (mC m_Archive_readPart) 81 = .ok (.iload_n 2, 1) := by decide +kernel
theorem d_Archive_readPart_82 : decode (mC m_Archive_readPart) 82 = .ok (.bipush 32, 2) := by decide +kernel
theorem d_Archive_readPart_84 : decode (mC m_Archive_readPart) 84 = .ok (.iadd, 1) := by decide +kernel
theorem d_Archive_readPart_85 : decode (mC m_Archive_readPart) 85 = .ok (.iconst 2, 1) := by decide +kernel
theorem d_Archive_readPart_86 : decode (mC m_Archive_readPart) 86 = .ok (.invokevirtual 75, 3) := by decide +kernel
theorem d_Archive_readPart_89 : decode (mC m_Archive_readPart) 89 = .ok (.l2i, 1) := by decide +kernel
theorem d_Archive_readPart_90 : decode (mC m_Archive_readPart) 90 = .ok (.iadd, 1) := by decide +kernel
theorem d_Archive_readPart_91 : decode (mC m_Archive_readPart) 91 = .ok (.putfield 53, 3) := by decide +kernel
theorem d_Archive_readPart_94 : decode (mC m_Archive_readPart) 94 = .ok (.aload_n 1, 1) := by decide +kernel
theorem d_Archive_readPart_95 : decode (mC m_Archive_readPart) 95 = .ok (.getfield 53, 3) := by decide +kernel
theorem d_Archive_readPart_98 : decode (mC m_Archive_readPart) 98 = .ok (.aload_n 0, 1) := by decide +kernel
theorem d_Archive_readPart_99 : decode (mC m_Archive_readPart) 99 = .ok (.getfield 56, 3) := by decide +kernel
theorem d_Archive_readPart_102 : decode (mC m_Archive_readPart) 102 = .ok (.if_icmp .le 5, 3) := by decide +kernel
theorem d_Archive_readPart_105 : decode (mC m_Archive_readPart) 105 = .ok (.iconst 0, 1) := by decide +kernel
theorem d_Archive_readPart_106 : decode (mC m_Archive_readPart) 106 = .ok (.ireturn, 1) := by decide +kernel
theorem d_Archive_readPart_107 : decode (mC m_Archive_readPart) 107 = .ok (.aload_n 1, 1) := by decide +kernel
theorem d_Archive_readPart_108 : decode (mC m_Archive_readPart) 108 = .ok (.aload_n 0, 1) := by decide +kernel
theorem d_Archive_readPart_109 : decode (mC m_Archive_readPart) 109 = .ok (.iload_n 3, 1) := by decide +kernel
theorem d_Archive_readPart_110 : decode (mC m_Archive_readPart) 110 = .ok (.iload 4, 2) := by decide +kernel
theorem d_Archive_readPart_112 : decode (mC m_Archive_readPart) 112 = .ok (.invokevirtual 104, 3) := by decide +kernel
theorem d_Archive_readPart_115 : decode (mC m_Archive_readPart) 115 = .ok (.putfield 63, 3) := by decide +kernel
theorem d_Archive_readPart_118 : decode (mC m_Archive_readPart) 118 = .ok (.aload_n 1, 1) := by decide +kernel
theorem d_Archive_readPart_119 : decode (mC m_Archive_readPart) 119 = .ok (.aload_n 0, 1) := by decide +kernel
theorem d_Archive_readPart_120 : decode (mC m_Archive_readPart) 120 = .ok (.getfield 9, 3) := by decide +kernel
theorem d_Archive_readPart_123 : decode (mC m_Archive_readPart) 123 = .ok (.iload_n 2, 1) := by decide +kernel
theorem d_Archive_readPart_124 : decode (mC m_Archive_readPart) 124 = .ok (.bipush 8, 2) := by decide +kernel
theorem d_Archive_readPart_126 : decode (mC m_Archive_readPart) 126 = .ok (.iadd, 1) := by decide +kernel
theorem d_Archive_readPart_127 : decode (mC m_Archive_readPart) 127 = .ok (.iconst 2, 1) := by decide +kernel
theorem d_Archive_readPart_128 : decode (mC m_Archive_readPart) 128 = .ok (.invokevirtual 75, 3) := by decide +kernel
theorem d_Archive_readPart_131 : decode (mC m_Archive_readPart) 131 = .ok (.l2i, 1) := by decide +kernel
theorem d_Archive_readPart_132 : decode (mC m_Archive_readPart) 132 = .ok (.putfield 108, 3) := by decide +kernel
theorem d_Archive_readPart_135 : decode (mC m_Archive_readPart) 135 = .ok (.aload_n 1, 1) := by decide +kernel
theorem d_Archive_readPart_136 : decode (mC m_Archive_readPart) 136 = .ok (.aload_n 0, 1) := by decide +kernel
theorem d_Archive_readPart_137 : decode (mC m_Archive_readPart) 137 = .ok (.getfield 9, 3) := by decide +kernel
theorem d_Archive_readPart_140 : decode (mC m_Archive_readPart) 140 = .ok (.iload_n 2, 1) := by decide +kernel
theorem d_Archive_readPart_141 : decode (mC m_Archive_readPart) 141 = .ok (.bipush 10, 2) := by decide +kernel
theorem d_Archive_readPart_143 : decode (mC m_Archive_readPart) 143 = .ok (.iadd, 1) := by decide +kernel
theorem d_Archive_readPart_144 : decode (mC m_Archive_readPart) 144 = .ok (.iconst 2, 1) := by decide +kernel
theorem d_Archive_readPart_145 : decode (mC m_Archive_readPart) 145 = .ok (.invokevirtual 75, 3) := by decide +kernel
theorem d_Archive_readPart_148 : decode (mC m_Archive_readPart) 148 = .ok (.l2i, 1) := by decide +kernel
theorem d_Archive_readPart_149 : decode (mC m_Archive_readPart) 149 = .ok (.putfield 111, 3) := by decide +kernel
theorem d_Archive_readPart_152 : decode (mC m_Archive_readPart) 152 = .ok (.aload_n 1, 1) := by decide +kernel
theorem d_Archive_readPart_153 : decode (mC m_Archive_readPart) 153 = .ok (.aload_n 0, 1) := by decide +kernel
theorem d_Archive_readPart_154 : decode (mC m_Archive_readPart) 154 = .ok (.getfield 9, 3) := by decide +kernel
theorem d_Archive_readPart_157 : decode (mC m_Archive_readPart) 157 = .ok (.iload_n 2, 1) := by decide +kernel
theorem d_Archive_readPart_158 : decode (mC m_Archive_readPart) 158 = .ok (.bipush 16, 2) := by decide +kernel
theorem d_Archive_readPart_160 : decode (mC m_Archive_readPart) 160 = .ok (.iadd, 1) := by decide +kernel
theorem d_Archive_readPart_161 : decode (mC m_Archive_readPart) 161 = .ok (.iconst 4, 1) := by decide +kernel
theorem d_Archive_readPart_162 : decode (mC m_Archive_readPart) 162 = .ok (.invokevirtual 75, 3) := by decide +kernel
theorem d_Archive_readPart_165 : decode (mC m_Archive_readPart) 165 = .ok (.l2i, 1) := by decide +kernel
theorem d_Archive_readPart_166 : decode (mC m_Archive_readPart) 166 = .ok (.putfield 114, 3) := by decide +kernel
theorem d_Archive_readPart_169 : decode (mC m_Archive_readPart) 169 = .ok (.aload_n 1, 1) := by decide +kernel
theorem d_Archive_readPart_170 : decode (mC m_Archive_readPart) 170 = .ok (.getfield 63, 3) := by decide +kernel
theorem d_Archive_readPart_173 : decode (mC m_Archive_readPart) 173 = .ok (.iconst (-1), 1) := by decide +kernel
theorem d_Archive_readPart_174 : decode (mC m_Archive_readPart) 174 = .ok (.if_icmp .eq 29, 3) := by decide +kernel
theorem d_Archive_readPart_177 : decode (mC m_Archive_readPart) 177 = .ok (.aload_n 1, 1) := by decide +kernel
theorem d_Archive_readPart_178 : decode (mC m_Archive_readPart) 178 = .ok (.getfield 111, 3) := by decide +kernel
theorem d_Archive_readPart_181 : decode (mC m_Archive_readPart) 181 = .ok (.invokestatic 117, 3) := by decide +kernel
theorem d_Archive_readPart_184 : decode (mC m_Archive_readPart) 184 = .ok (.ifCond .eq 19, 3) := by decide +kernel
theorem d_Archive_readPart_187 : decode (mC m_Archive_readPart) 187 = .ok (.aload_n 1, 1) := by decide +kernel
theorem d_Archive_readPart_188 : decode (mC m_Archive_readPart) 188 = .ok (.getfield 108, 3) := by decide +kernel
theorem d_Archive_readPart_191 : decode (mC m_Archive_readPart) 191 = .ok (.ifCond .eq 14, 3) := by decide +kernel
theorem d_Archive_readPart_194 : decode (mC m_Archive_readPart) 194 = .ok (.aload_n 1, 1) := by decide +kernel
theorem d_Archive_readPart_195 : decode (mC m_Archive_readPart) 195 = .ok (.getfield 108, 3) := by decide +kernel
theorem d_Archive_readPart_198 : decode (mC m_Archive_readPart) 198 = .ok (.bipush 8, 2) := by decide +kernel
theorem d_Archive_readPart_200 : decode (mC m_Archive_readPart) 200 = .ok (.if_icmp .eq 5, 3) := by decide +kernel
theorem d_Archive_readPart_203 : decode (mC m_Archive_readPart) 203 = .ok (.iconst 0, 1) := by decide +kernel
theorem d_Archive_readPart_204 : decode (mC m_Archive_readPart) 204 = .ok (.ireturn, 1) := by decide +kernel
theorem d_Archive_readPart_205 : decode (mC m_Archive_readPart) 205 = .ok (.aload_n 0, 1) := by decide +kernel
theorem d_Archive_readPart_206 : decode (mC m_Archive_readPart) 206 = .ok (.getfield 20, 3) := by decide +kernel
theorem d_Archive_readPart_209 : decode (mC m_Archive_readPart) 209 = .ok (.iload 4, 2) := by decide +kernel
theorem d_Archive_readPart_211 : decode (mC m_Archive_readPart) 211 = .ok (.iload 5, 2) := by decide +kernel
theorem d_Archive_readPart_213 : decode (mC m_Archive_readPart) 213 = .ok (.invokevirtual 120, 3) := by decide +kernel
theorem d_Archive_readPart_216 : decode (mC m_Archive_readPart) 216 = .ok (.aload_n 0, 1) := by decide +kernel
theorem d_Archive_readPart_217 : decode (mC m_Archive_readPart) 217 = .ok (.getfield 20, 3) := by decide +kernel
theorem d_Archive_readPart_220 : decode (mC m_Archive_readPart) 220 = .ok (.getfield 124, 3) := by decide +kernel
theorem d_Archive_readPart_223 : decode (mC m_Archive_readPart) 223 = .ok (.ifCond .eq 15, 3) := by decide +kernel
theorem d_Archive_readPart_226 : decode (mC m_Archive_readPart) 226 = .ok (.aload_n 0, 1) := by decide +kernel
theorem d_Archive_readPart_227 : decode (mC m_Archive_readPart) 227 = .ok (.aload_n 1, 1) := by decide +kernel
theorem d_Archive_readPart_228 : decode (mC m_Archive_readPart) 228 = .ok (.invokevirtual 128, 3) := by decide +kernel
theorem d_Archive_readPart_231 : decode (mC m_Archive_readPart) 231 = .ok (.ifCond .eq 7, 3) := by decide +kernel
theorem d_Archive_readPart_234 : decode (mC m_Archive_readPart) 234 = .ok (.iconst 1, 1) := by decide +kernel
theorem d_Archive_readPart_235 : decode (mC m_Archive_readPart) 235 = .ok (.goto 4, 3) := by decide +kernel
theorem d_Archive_readPart_238 : decode (mC m_Archive_readPart) 238 = .ok (.iconst 0, 1) := by decide +kernel
theorem d_Archive_readPart_239 : decode (mC m_Archive_readPart) 239 = .ok (.ireturn, 1) := by decide +kernel
def b_Archive_readPart_238 (F : Nat) (w : zW) : Option (Int32 × zW) := some ((0 : Int32), w)
set_option maxRecDepth 100000 in
set_option maxHeartbeats 4000000 in
theorem b_Archive_readPart_238_ok (G : zG) (F : Nat) (w : zW) (r : (Int32 × zW)) (h : b_Archive_readPart_238 F w = some r) : zV G m_Archive_readPart 238 [] [] w 0 0 (oI r.1) r.2 := by
  unfold b_Archive_readPart_238 at h
  refine V_iconst (v := 0) d_Archive_readPart_238 (by decide) ?_
  obtain rfl := Option.some.inj h
  exact V_zret rfl (Or.inl rfl) (by decide) (by decide) d_Archive_readPart_239
def b_Archive_readPart_205 (F : Nat) (v0 : Nat) (v1 : Nat) (v4 : Int32) (v5 : Int32) (w : zW) : Option (Int32 × zW) := (getR w v0 6 1).bind fun x206 => (zobj w x206 2).bind fun _ => (f_Extras_open F x206 v4 v5 w).bind fun r213 => (getR r213.2 v0 6 1).bind fun x217 => (getI r213.2 x217 2 1).bind fun x220 => if x220 = 0 then (b_Archive_readPart_238 F r213.2) else ((zobj r213.2 v0 6).bind fun _ => (f_Archive_takeNumbers F v0 v1 r213.2).bind fun r228 => if r228.1 = 0 then (b_Archive_readPart_238 F r228.2) else (some ((1 : Int32), r228.2)))
set_option maxRecDepth 100000 in
set_option maxHeartbeats 4000000 in
theorem b_Archive_readPart_205_ok (G : zG) (F : Nat) (v0 : Nat) (v1 : Nat) (v4 : Int32) (v5 : Int32) (w : zW) (r : (Int32 × zW)) (h : b_Archive_readPart_205 F v0 v1 v4 v5 w = some r) : zV G m_Archive_readPart 205 [(0, .ref (z0 G + v0)), (1, .ref (z0 G + v1)), (4, .int v4), (5, .int v5)] [] w 0 0 (oI r.1) r.2 := by
  unfold b_Archive_readPart_205 at h
  refine V_aload_n (i := 0) d_Archive_readPart_205 rfl 0 rfl ?_
  obtain ⟨x206, e206, h⟩ := ob h
  refine V_getR (ci := 6) (k := 1) d_Archive_readPart_206 e206 rfl (by decide) in_Archive k213 ?_
  refine V_iload (i := 4) d_Archive_readPart_209 2 rfl ?_
  refine V_iload (i := 5) d_Archive_readPart_211 3 rfl ?_
  obtain ⟨_, eo213, h⟩ := ob h
  obtain ⟨r213, e213, h⟩ := ob h
  refine V_call (v := none) (st := []) (inv_V (N := m_Extras_open) (As := [.int v4, .int v5]) (ci := 2) d_Archive_readPart_213 eo213 rfl k413 k414 k415 kc_Extras_open y_Extras_open) ⟨Or.inl kc_Extras_open, k7, by decide, by decide⟩ (Nat.le_of_ble_eq_true rfl) (by decide) (by decide) (c_Extras_open G F x206 v4 v5 w r213 e213) ?_
  refine V_aload_n (i := 0) d_Archive_readPart_216 rfl 0 rfl ?_
  obtain ⟨x217, e217, h⟩ := ob h
  refine V_getR (ci := 6) (k := 1) d_Archive_readPart_217 e217 rfl (by decide) in_Archive k213 ?_
  obtain ⟨x220, e220, h⟩ := ob h
  refine V_getI (ci := 2) (k := 1) d_Archive_readPart_220 e220 rfl (by decide) in_Extras k145 ?_
  refine V_if_eq (tgt := 238) d_Archive_readPart_223 (by decide) (fun c223 => ?_) (fun c223 => ?_)
  · rw [if_pos c223] at h
    refine V_lv [] rfl ?_
    exact b_Archive_readPart_238_ok G F r213.2 _ h
  · rw [if_neg c223] at h
    refine V_aload_n (i := 0) d_Archive_readPart_226 rfl 0 rfl ?_
    refine V_aload_n (i := 1) d_Archive_readPart_227 rfl 1 rfl ?_
    obtain ⟨_, eo228, h⟩ := ob h
    obtain ⟨r228, e228, h⟩ := ob h
    refine V_call (v := some (.int r228.1)) (st := []) (inv_V (N := m_Archive_takeNumbers) (As := [.ref (z0 G + v1)]) (ci := 6) d_Archive_readPart_228 eo228 rfl k418 k420 sel_Archive_takeNumbers kc_Archive_takeNumbers y_Archive_takeNumbers) ⟨Or.inl kc_Archive_takeNumbers, k6, by decide, by decide⟩ (Nat.le_of_ble_eq_true rfl) (by decide) (by decide) (c_Archive_takeNumbers G F v0 v1 r213.2 r228 e228) ?_
    refine V_if_eq (tgt := 238) d_Archive_readPart_231 (by decide) (fun c231 => ?_) (fun c231 => ?_)
    · rw [if_pos c231] at h
      refine V_lv [] rfl ?_
      exact b_Archive_readPart_238_ok G F r228.2 _ h
    · rw [if_neg c231] at h
      refine V_iconst (v := 1) d_Archive_readPart_234 (by decide) ?_
      refine V_goto (tgt := 239) d_Archive_readPart_235 (by decide) ?_
      obtain rfl := Option.some.inj h
      exact V_zret rfl (Or.inr rfl) (by decide) (by decide) d_Archive_readPart_239
def b_Archive_readPart_203 (F : Nat) (w : zW) : Option (Int32 × zW) := some ((0 : Int32), w)
set_option maxRecDepth 100000 in
set_option maxHeartbeats 4000000 in
theorem b_Archive_readPart_203_ok (G : zG) (F : Nat) (w : zW) (r : (Int32 × zW)) (h : b_Archive_readPart_203 F w = some r) : zV G m_Archive_readPart 203 [] [] w 0 0 (oI r.1) r.2 := by
  unfold b_Archive_readPart_203 at h
  refine V_iconst (v := 0) d_Archive_readPart_203 (by decide) ?_
  obtain rfl := Option.some.inj h
  exact V_zret rfl (Or.inl rfl) (by decide) (by decide) d_Archive_readPart_204
def b_Archive_readPart_27 (F : Nat) (w : zW) : Option (Int32 × zW) := some ((0 : Int32), w)
set_option maxRecDepth 100000 in
set_option maxHeartbeats 4000000 in
theorem b_Archive_readPart_27_ok (G : zG) (F : Nat) (w : zW) (r : (Int32 × zW)) (h : b_Archive_readPart_27 F w = some r) : zV G m_Archive_readPart 27 [] [] w 0 0 (oI r.1) r.2 := by
  unfold b_Archive_readPart_27 at h
  refine V_iconst (v := 0) d_Archive_readPart_27 (by decide) ?_
  obtain rfl := Option.some.inj h
  exact V_zret rfl (Or.inl rfl) (by decide) (by decide) d_Archive_readPart_28
def b_Archive_readPart_0 (F : Nat) (v0 : Nat) (v1 : Nat) (v2 : Int32) (w : zW) : Option (Int32 × zW) := (getI w v0 6 5).bind fun x1 => if (x1 - v2) < (46 : Int32) then (b_Archive_readPart_27 F w) else ((getR w v0 6 0).bind fun x12 => (zobj w x12 0).bind fun _ => (f_Row_number F x12 v2 (4 : Int32) w).bind fun r17 => if (lg_cmp r17.1 (33639248 : Int64)) = 0 then ((getR r17.2 v0 6 0).bind fun x36 => (zobj r17.2 x36 0).bind fun _ => (f_Row_number F x36 (v2 + (28 : Int32)) (2 : Int32) r17.2).bind fun r44 => (getR r44.2 v0 6 0).bind fun x54 => (zobj r44.2 x54 0).bind fun _ => (f_Row_number F x54 (v2 + (30 : Int32)) (2 : Int32) r44.2).bind fun r62 => (putI r62.2 v1 1 7 v2).bind fun w71 => (getR w71 v0 6 0).bind fun x78 => (zobj w71 x78 0).bind fun _ => (f_Row_number F x78 (v2 + (32 : Int32)) (2 : Int32) w71).bind fun r86 => (putI r86.2 v1 1 8 ((((v2 + (46 : Int32)) + r44.1.toInt32) + r62.1.toInt32) + r86.1.toInt32)).bind fun w91 => (getI w91 v1 1 8).bind fun x95 => (getI w91 v0 6 5).bind fun x99 => if x95 ≤ x99 then ((zobj w91 v0 6).bind fun _ => (f_Archive_readName F v0 (v2 + (46 : Int32)) ((v2 + (46 : Int32)) + r44.1.toInt32) w91).bind fun r112 => (putI r112.2 v1 1 0 r112.1).bind fun w115 => (getR w115 v0 6 0).bind fun x120 => (zobj w115 x120 0).bind fun _ => (f_Row_number F x120 (v2 + (8 : Int32)) (2 : Int32) w115).bind fun r128 => (putI r128.2 v1 1 1 r128.1.toInt32).bind fun w132 => (getR w132 v0 6 0).bind fun x137 => (zobj w132 x137 0).bind fun _ => (f_Row_number F x137 (v2 + (10 : Int32)) (2 : Int32) w132).bind fun r145 => (putI r145.2 v1 1 2 r145.1.toInt32).bind fun w149 => (getR w149 v0 6 0).bind fun x154 => (zobj w149 x154 0).bind fun _ => (f_Row_number F x154 (v2 + (16 : Int32)) (4 : Int32) w149).bind fun r162 => (putI r162.2 v1 1 3 r162.1.toInt32).bind fun w166 => (getI w166 v1 1 0).bind fun x170 => if x170 = (-1 : Int32) then (b_Archive_readPart_203 F w166) else ((getI w166 v1 1 2).bind fun x178 => (f_Zip_isMethod F x178 w166).bind fun r181 => if r181.1 = 0 then (b_Archive_readPart_203 F r181.2) else ((getI r181.2 v1 1 1).bind fun x188 => if x188 = 0 then (b_Archive_readPart_205 F v0 v1 ((v2 + (46 : Int32)) + r44.1.toInt32) (((v2 + (46 : Int32)) + r44.1.toInt32) + r62.1.toInt32) r181.2) else ((getI r181.2 v1 1 1).bind fun x195 => if x195 = (8 : Int32) then (b_Archive_readPart_205 F v0 v1 ((v2 + (46 : Int32)) + r44.1.toInt32) (((v2 + (46 : Int32)) + r44.1.toInt32) + r62.1.toInt32) r181.2) else (b_Archive_readPart_203 F r181.2))))) else (some ((0 : Int32), w91))) else (b_Archive_readPart_27 F r17.2))
set_option maxRecDepth 100000 in
set_option maxHeartbeats 4000000 in
theorem b_Archive_readPart_0_ok (G : zG) (F : Nat) (v0 : Nat) (v1 : Nat) (v2 : Int32) (w : zW) (r : (Int32 × zW)) (h : b_Archive_readPart_0 F v0 v1 v2 w = some r) : zV G m_Archive_readPart 0 [(0, .ref (z0 G + v0)), (1, .ref (z0 G + v1)), (2, .int v2)] [] w 0 0 (oI r.1) r.2 := by
  unfold b_Archive_readPart_0 at h
  refine V_aload_n (i := 0) d_Archive_readPart_0 rfl 0 rfl ?_
  obtain ⟨x1, e1, h⟩ := ob h
  refine V_getI (ci := 6) (k := 5) d_Archive_readPart_1 e1 rfl (by decide) in_Archive k220 ?_
  refine V_iload_n (i := 2) d_Archive_readPart_4 rfl 2 rfl ?_
  refine V_isub d_Archive_readPart_5 ?_
  refine V_bipush (v := 46) d_Archive_readPart_6 (by decide) ?_
  refine V_icmp_lt (tgt := 27) d_Archive_readPart_8 (by decide) (fun c8 => ?_) (fun c8 => ?_)
  · rw [if_pos c8] at h
    refine V_lv [] rfl ?_
    exact b_Archive_readPart_27_ok G F w _ h
  · rw [if_neg c8] at h
    refine V_aload_n (i := 0) d_Archive_readPart_11 rfl 0 rfl ?_
    obtain ⟨x12, e12, h⟩ := ob h
    refine V_getR (ci := 6) (k := 0) d_Archive_readPart_12 e12 rfl (by decide) in_Archive k212 ?_
    refine V_iload_n (i := 2) d_Archive_readPart_15 rfl 2 rfl ?_
    refine V_iconst (v := 4) d_Archive_readPart_16 (by decide) ?_
    obtain ⟨_, eo17, h⟩ := ob h
    obtain ⟨r17, e17, h⟩ := ob h
    refine V_call (v := some (.long r17.1)) (st := []) (inv_V (N := m_Row_number) (As := [.int v2, .int (4 : Int32)]) (ci := 0) d_Archive_readPart_17 eo17 rfl k368 k369 k370 kc_Row_number y_Row_number) ⟨Or.inl kc_Row_number, k2, by decide, by decide⟩ (Nat.le_of_ble_eq_true rfl) (by decide) (by decide) (c_Row_number G F x12 v2 (4 : Int32) w r17 e17) ?_
    refine V_ldc2 (v := 33639248) d_Archive_readPart_20 k394 ?_
    refine V_lcmp d_Archive_readPart_23 ?_
    refine V_if_eq (tgt := 29) d_Archive_readPart_24 (by decide) (fun c24 => ?_) (fun c24 => ?_)
    · rw [if_pos c24] at h
      refine V_iload_n (i := 2) d_Archive_readPart_29 rfl 2 rfl ?_
      refine V_bipush (v := 46) d_Archive_readPart_30 (by decide) ?_
      refine V_iadd d_Archive_readPart_32 ?_
      refine V_istore_n (i := 3) d_Archive_readPart_33 rfl (by decide) rfl ?_
      refine V_iload_n (i := 3) d_Archive_readPart_34 rfl 0 rfl ?_
      refine V_aload_n (i := 0) d_Archive_readPart_35 rfl 1 rfl ?_
      obtain ⟨x36, e36, h⟩ := ob h
      refine V_getR (ci := 6) (k := 0) d_Archive_readPart_36 e36 rfl (by decide) in_Archive k212 ?_
      refine V_iload_n (i := 2) d_Archive_readPart_39 rfl 3 rfl ?_
      refine V_bipush (v := 28) d_Archive_readPart_40 (by decide) ?_
      refine V_iadd d_Archive_readPart_42 ?_
      refine V_iconst (v := 2) d_Archive_readPart_43 (by decide) ?_
      obtain ⟨_, eo44, h⟩ := ob h
      obtain ⟨r44, e44, h⟩ := ob h
      refine V_call (v := some (.long r44.1)) (st := [.int (v2 + (46 : Int32))]) (inv_V (N := m_Row_number) (As := [.int (v2 + (28 : Int32)), .int (2 : Int32)]) (ci := 0) d_Archive_readPart_44 eo44 rfl k368 k369 k370 kc_Row_number y_Row_number) ⟨Or.inl kc_Row_number, k2, by decide, by decide⟩ (Nat.le_of_ble_eq_true rfl) (by decide) (by decide) (c_Row_number G F x36 (v2 + (28 : Int32)) (2 : Int32) r17.2 r44 e44) ?_
      refine V_l2i d_Archive_readPart_47 ?_
      refine V_iadd d_Archive_readPart_48 ?_
      refine V_istore (i := 4) d_Archive_readPart_49 (by decide) rfl ?_
      refine V_iload (i := 4) d_Archive_readPart_51 0 rfl ?_
      refine V_aload_n (i := 0) d_Archive_readPart_53 rfl 2 rfl ?_
      obtain ⟨x54, e54, h⟩ := ob h
      refine V_getR (ci := 6) (k := 0) d_Archive_readPart_54 e54 rfl (by decide) in_Archive k212 ?_
      refine V_iload_n (i := 2) d_Archive_readPart_57 rfl 4 rfl ?_
      refine V_bipush (v := 30) d_Archive_readPart_58 (by decide) ?_
      refine V_iadd d_Archive_readPart_60 ?_
      refine V_iconst (v := 2) d_Archive_readPart_61 (by decide) ?_
      obtain ⟨_, eo62, h⟩ := ob h
      obtain ⟨r62, e62, h⟩ := ob h
      refine V_call (v := some (.long r62.1)) (st := [.int ((v2 + (46 : Int32)) + r44.1.toInt32)]) (inv_V (N := m_Row_number) (As := [.int (v2 + (30 : Int32)), .int (2 : Int32)]) (ci := 0) d_Archive_readPart_62 eo62 rfl k368 k369 k370 kc_Row_number y_Row_number) ⟨Or.inl kc_Row_number, k2, by decide, by decide⟩ (Nat.le_of_ble_eq_true rfl) (by decide) (by decide) (c_Row_number G F x54 (v2 + (30 : Int32)) (2 : Int32) r44.2 r62 e62) ?_
      refine V_l2i d_Archive_readPart_65 ?_
      refine V_iadd d_Archive_readPart_66 ?_
      refine V_istore (i := 5) d_Archive_readPart_67 (by decide) rfl ?_
      refine V_aload_n (i := 1) d_Archive_readPart_69 rfl 4 rfl ?_
      refine V_iload_n (i := 2) d_Archive_readPart_70 rfl 5 rfl ?_
      obtain ⟨w71, e71, h⟩ := ob h
      refine V_putI (ci := 1) (k := 7) t_Entry d_Archive_readPart_71 e71 rfl (by decide) in_Entry k189 ty_Entry nm_Entry rfl (Or.inl rfl) ?_
      refine V_aload_n (i := 1) d_Archive_readPart_74 rfl 4 rfl ?_
      refine V_iload (i := 5) d_Archive_readPart_75 0 rfl ?_
      refine V_aload_n (i := 0) d_Archive_readPart_77 rfl 3 rfl ?_
      obtain ⟨x78, e78, h⟩ := ob h
      refine V_getR (ci := 6) (k := 0) d_Archive_readPart_78 e78 rfl (by decide) in_Archive k212 ?_
      refine V_iload_n (i := 2) d_Archive_readPart_81 rfl 5 rfl ?_
      refine V_bipush (v := 32) d_Archive_readPart_82 (by decide) ?_
      refine V_iadd d_Archive_readPart_84 ?_
      refine V_iconst (v := 2) d_Archive_readPart_85 (by decide) ?_
      obtain ⟨_, eo86, h⟩ := ob h
      obtain ⟨r86, e86, h⟩ := ob h
      refine V_call (v := some (.long r86.1)) (st := [.int (((v2 + (46 : Int32)) + r44.1.toInt32) + r62.1.toInt32), .ref (z0 G + v1)]) (inv_V (N := m_Row_number) (As := [.int (v2 + (32 : Int32)), .int (2 : Int32)]) (ci := 0) d_Archive_readPart_86 eo86 rfl k368 k369 k370 kc_Row_number y_Row_number) ⟨Or.inl kc_Row_number, k2, by decide, by decide⟩ (Nat.le_of_ble_eq_true rfl) (by decide) (by decide) (c_Row_number G F x78 (v2 + (32 : Int32)) (2 : Int32) w71 r86 e86) ?_
      refine V_l2i d_Archive_readPart_89 ?_
      refine V_iadd d_Archive_readPart_90 ?_
      obtain ⟨w91, e91, h⟩ := ob h
      refine V_putI (ci := 1) (k := 8) t_Entry d_Archive_readPart_91 e91 rfl (by decide) in_Entry k191 ty_Entry nm_Entry rfl (Or.inl rfl) ?_
      refine V_aload_n (i := 1) d_Archive_readPart_94 rfl 4 rfl ?_
      obtain ⟨x95, e95, h⟩ := ob h
      refine V_getI (ci := 1) (k := 8) d_Archive_readPart_95 e95 rfl (by decide) in_Entry k191 ?_
      refine V_aload_n (i := 0) d_Archive_readPart_98 rfl 3 rfl ?_
      obtain ⟨x99, e99, h⟩ := ob h
      refine V_getI (ci := 6) (k := 5) d_Archive_readPart_99 e99 rfl (by decide) in_Archive k220 ?_
      refine V_icmp_le (tgt := 107) d_Archive_readPart_102 (by decide) (fun c102 => ?_) (fun c102 => ?_)
      · rw [if_pos c102] at h
        refine V_aload_n (i := 1) d_Archive_readPart_107 rfl 4 rfl ?_
        refine V_aload_n (i := 0) d_Archive_readPart_108 rfl 3 rfl ?_
        refine V_iload_n (i := 3) d_Archive_readPart_109 rfl 2 rfl ?_
        refine V_iload (i := 4) d_Archive_readPart_110 1 rfl ?_
        obtain ⟨_, eo112, h⟩ := ob h
        obtain ⟨r112, e112, h⟩ := ob h
        refine V_call (v := some (.int r112.1)) (st := [.ref (z0 G + v1)]) (inv_V (N := m_Archive_readName) (As := [.int (v2 + (46 : Int32)), .int ((v2 + (46 : Int32)) + r44.1.toInt32)]) (ci := 6) d_Archive_readPart_112 eo112 rfl k395 k397 sel_Archive_readName kc_Archive_readName y_Archive_readName) ⟨Or.inl kc_Archive_readName, k6, by decide, by decide⟩ (Nat.le_of_ble_eq_true rfl) (by decide) (by decide) (c_Archive_readName G F v0 (v2 + (46 : Int32)) ((v2 + (46 : Int32)) + r44.1.toInt32) w91 r112 e112) ?_
        obtain ⟨w115, e115, h⟩ := ob h
        refine V_putI (ci := 1) (k := 0) t_Entry d_Archive_readPart_115 e115 rfl (by decide) in_Entry k168 ty_Entry nm_Entry rfl (Or.inl rfl) ?_
        refine V_aload_n (i := 1) d_Archive_readPart_118 rfl 4 rfl ?_
        refine V_aload_n (i := 0) d_Archive_readPart_119 rfl 3 rfl ?_
        obtain ⟨x120, e120, h⟩ := ob h
        refine V_getR (ci := 6) (k := 0) d_Archive_readPart_120 e120 rfl (by decide) in_Archive k212 ?_
        refine V_iload_n (i := 2) d_Archive_readPart_123 rfl 5 rfl ?_
        refine V_bipush (v := 8) d_Archive_readPart_124 (by decide) ?_
        refine V_iadd d_Archive_readPart_126 ?_
        refine V_iconst (v := 2) d_Archive_readPart_127 (by decide) ?_
        obtain ⟨_, eo128, h⟩ := ob h
        obtain ⟨r128, e128, h⟩ := ob h
        refine V_call (v := some (.long r128.1)) (st := [.ref (z0 G + v1)]) (inv_V (N := m_Row_number) (As := [.int (v2 + (8 : Int32)), .int (2 : Int32)]) (ci := 0) d_Archive_readPart_128 eo128 rfl k368 k369 k370 kc_Row_number y_Row_number) ⟨Or.inl kc_Row_number, k2, by decide, by decide⟩ (Nat.le_of_ble_eq_true rfl) (by decide) (by decide) (c_Row_number G F x120 (v2 + (8 : Int32)) (2 : Int32) w115 r128 e128) ?_
        refine V_l2i d_Archive_readPart_131 ?_
        obtain ⟨w132, e132, h⟩ := ob h
        refine V_putI (ci := 1) (k := 1) t_Entry d_Archive_readPart_132 e132 rfl (by decide) in_Entry k172 ty_Entry nm_Entry rfl (Or.inl rfl) ?_
        refine V_aload_n (i := 1) d_Archive_readPart_135 rfl 4 rfl ?_
        refine V_aload_n (i := 0) d_Archive_readPart_136 rfl 3 rfl ?_
        obtain ⟨x137, e137, h⟩ := ob h
        refine V_getR (ci := 6) (k := 0) d_Archive_readPart_137 e137 rfl (by decide) in_Archive k212 ?_
        refine V_iload_n (i := 2) d_Archive_readPart_140 rfl 5 rfl ?_
        refine V_bipush (v := 10) d_Archive_readPart_141 (by decide) ?_
        refine V_iadd d_Archive_readPart_143 ?_
        refine V_iconst (v := 2) d_Archive_readPart_144 (by decide) ?_
        obtain ⟨_, eo145, h⟩ := ob h
        obtain ⟨r145, e145, h⟩ := ob h
        refine V_call (v := some (.long r145.1)) (st := [.ref (z0 G + v1)]) (inv_V (N := m_Row_number) (As := [.int (v2 + (10 : Int32)), .int (2 : Int32)]) (ci := 0) d_Archive_readPart_145 eo145 rfl k368 k369 k370 kc_Row_number y_Row_number) ⟨Or.inl kc_Row_number, k2, by decide, by decide⟩ (Nat.le_of_ble_eq_true rfl) (by decide) (by decide) (c_Row_number G F x137 (v2 + (10 : Int32)) (2 : Int32) w132 r145 e145) ?_
        refine V_l2i d_Archive_readPart_148 ?_
        obtain ⟨w149, e149, h⟩ := ob h
        refine V_putI (ci := 1) (k := 2) t_Entry d_Archive_readPart_149 e149 rfl (by decide) in_Entry k175 ty_Entry nm_Entry rfl (Or.inl rfl) ?_
        refine V_aload_n (i := 1) d_Archive_readPart_152 rfl 4 rfl ?_
        refine V_aload_n (i := 0) d_Archive_readPart_153 rfl 3 rfl ?_
        obtain ⟨x154, e154, h⟩ := ob h
        refine V_getR (ci := 6) (k := 0) d_Archive_readPart_154 e154 rfl (by decide) in_Archive k212 ?_
        refine V_iload_n (i := 2) d_Archive_readPart_157 rfl 5 rfl ?_
        refine V_bipush (v := 16) d_Archive_readPart_158 (by decide) ?_
        refine V_iadd d_Archive_readPart_160 ?_
        refine V_iconst (v := 4) d_Archive_readPart_161 (by decide) ?_
        obtain ⟨_, eo162, h⟩ := ob h
        obtain ⟨r162, e162, h⟩ := ob h
        refine V_call (v := some (.long r162.1)) (st := [.ref (z0 G + v1)]) (inv_V (N := m_Row_number) (As := [.int (v2 + (16 : Int32)), .int (4 : Int32)]) (ci := 0) d_Archive_readPart_162 eo162 rfl k368 k369 k370 kc_Row_number y_Row_number) ⟨Or.inl kc_Row_number, k2, by decide, by decide⟩ (Nat.le_of_ble_eq_true rfl) (by decide) (by decide) (c_Row_number G F x154 (v2 + (16 : Int32)) (4 : Int32) w149 r162 e162) ?_
        refine V_l2i d_Archive_readPart_165 ?_
        obtain ⟨w166, e166, h⟩ := ob h
        refine V_putI (ci := 1) (k := 3) t_Entry d_Archive_readPart_166 e166 rfl (by decide) in_Entry k178 ty_Entry nm_Entry rfl (Or.inl rfl) ?_
        refine V_aload_n (i := 1) d_Archive_readPart_169 rfl 4 rfl ?_
        obtain ⟨x170, e170, h⟩ := ob h
        refine V_getI (ci := 1) (k := 0) d_Archive_readPart_170 e170 rfl (by decide) in_Entry k168 ?_
        refine V_iconst (v := -1) d_Archive_readPart_173 (by decide) ?_
        refine V_icmp_eq (tgt := 203) d_Archive_readPart_174 (by decide) (fun c174 => ?_) (fun c174 => ?_)
        · rw [if_pos c174] at h
          refine V_lv [] rfl ?_
          exact b_Archive_readPart_203_ok G F w166 _ h
        · rw [if_neg c174] at h
          refine V_aload_n (i := 1) d_Archive_readPart_177 rfl 4 rfl ?_
          obtain ⟨x178, e178, h⟩ := ob h
          refine V_getI (ci := 1) (k := 2) d_Archive_readPart_178 e178 rfl (by decide) in_Entry k175 ?_
          obtain ⟨r181, e181, h⟩ := ob h
          refine V_call (v := some (.int r181.1)) (st := []) (inv_SN (N := m_Zip_isMethod) (As := [.int x178]) d_Archive_readPart_181 k410 k411 k1 kc_Zip_isMethod y_Zip_isMethod) ⟨Or.inl kc_Zip_isMethod, k1, by decide, by decide⟩ (Nat.le_of_ble_eq_true rfl) (by decide) (by decide) (c_Zip_isMethod G F x178 w166 r181 e181) ?_
          refine V_if_eq (tgt := 203) d_Archive_readPart_184 (by decide) (fun c184 => ?_) (fun c184 => ?_)
          · rw [if_pos c184] at h
            refine V_lv [] rfl ?_
            exact b_Archive_readPart_203_ok G F r181.2 _ h
          · rw [if_neg c184] at h
            refine V_aload_n (i := 1) d_Archive_readPart_187 rfl 4 rfl ?_
            obtain ⟨x188, e188, h⟩ := ob h
            refine V_getI (ci := 1) (k := 1) d_Archive_readPart_188 e188 rfl (by decide) in_Entry k172 ?_
            refine V_if_eq (tgt := 205) d_Archive_readPart_191 (by decide) (fun c191 => ?_) (fun c191 => ?_)
            · rw [if_pos c191] at h
              refine V_lv [3, 4, 1, 0] rfl ?_
              exact b_Archive_readPart_205_ok G F v0 v1 ((v2 + (46 : Int32)) + r44.1.toInt32) (((v2 + (46 : Int32)) + r44.1.toInt32) + r62.1.toInt32) r181.2 _ h
            · rw [if_neg c191] at h
              refine V_aload_n (i := 1) d_Archive_readPart_194 rfl 4 rfl ?_
              obtain ⟨x195, e195, h⟩ := ob h
              refine V_getI (ci := 1) (k := 1) d_Archive_readPart_195 e195 rfl (by decide) in_Entry k172 ?_
              refine V_bipush (v := 8) d_Archive_readPart_198 (by decide) ?_
              refine V_icmp_eq (tgt := 205) d_Archive_readPart_200 (by decide) (fun c200 => ?_) (fun c200 => ?_)
              · rw [if_pos c200] at h
                refine V_lv [3, 4, 1, 0] rfl ?_
                exact b_Archive_readPart_205_ok G F v0 v1 ((v2 + (46 : Int32)) + r44.1.toInt32) (((v2 + (46 : Int32)) + r44.1.toInt32) + r62.1.toInt32) r181.2 _ h
              · rw [if_neg c200] at h
                refine V_lv [] rfl ?_
                exact b_Archive_readPart_203_ok G F r181.2 _ h
      · rw [if_neg c102] at h
        refine V_iconst (v := 0) d_Archive_readPart_105 (by decide) ?_
        obtain rfl := Option.some.inj h
        exact V_zret rfl (Or.inl rfl) (by decide) (by decide) d_Archive_readPart_106
    · rw [if_neg c24] at h
      refine V_lv [] rfl ?_
      exact b_Archive_readPart_27_ok G F r17.2 _ h
def f_Archive_readPart (F : Nat) (v0 : Nat) (v1 : Nat) (v2 : Int32) (w : zW) : Option (Int32 × zW) := b_Archive_readPart_0 F v0 v1 v2 w
theorem c_Archive_readPart (G : zG) (F : Nat) (v0 : Nat) (v1 : Nat) (v2 : Int32) (w : zW) (r : (Int32 × zW)) (h : f_Archive_readPart F v0 v1 v2 w = some r) : zCT G m_Archive_readPart [.ref (z0 G + v0), .ref (z0 G + v1), .int v2] w (oI r.1) r.2 := zCT.ofV (by decide +kernel) (Or.inl ⟨kc_Archive_readPart, rfl⟩) (Nat.le_of_ble_eq_true rfl) (b_Archive_readPart_0_ok G F v0 v1 v2 w r h)

/-! ZipArray$Archive.find(I)I -/
def m_Archive_find : zM := (⟨R_Archive, "find", "(I)I"⟩, prog_2_method_3_code, 3, (some .int), [], { frames := 0, cells := 0, slots := 0, locals := 0 })
theorem kc_Archive_find : Cond.code (mY m_Archive_find) (mC m_Archive_find) (mL m_Archive_find) (mT m_Archive_find) ∈ zTb := tb_at 435 (by decide +kernel) rfl
theorem y_Archive_find : (mY m_Archive_find).cls ≠ "java/lang/invoke/MethodHandle" ∧ (mY m_Archive_find).cls ≠ "java/lang/invoke/VarHandle" ∧ (parseMethodDescriptor (mY m_Archive_find).desc).map (fun d => d.parameters.length) = some 1 := by decide +kernel
theorem d_Archive_find_0 : decode (mC m_Archive_find) 0 = .ok (.iconst 0, 1) := by decide +kernel
theorem d_Archive_find_1 : decode (mC m_Archive_find) 1 = .ok (.istore_n 2, 1) := by decide +kernel
theorem d_Archive_find_2 : decode (mC m_Archive_find) 2 = .ok (.iload_n 2, 1) := by decide +kernel
theorem d_Archive_find_3 : decode (mC m_Archive_find) 3 = .ok (.aload_n 0, 1) := by decide +kernel
theorem d_Archive_find_4 : decode (mC m_Archive_find) 4 = .ok (.getfield 31, 3) := by decide +kernel
theorem d_Archive_find_7 : decode (mC m_Archive_find) 7 = .ok (.if_icmp .ge 24, 3) := by decide +kernel
theorem d_Archive_find_10 : decode (mC m_Archive_find) 10 = .ok (.aload_n 0, 1) := by decide +kernel
theorem d_Archive_find_11 : decode (mC m_Archive_find) 11 = .ok (.getfield 26, 3) := by decide +kernel
theorem d_Archive_find_14 : decode (mC m_Archive_find) 14 = .ok (.iload_n 2, 1) := by decide +kernel
theorem d_Archive_find_15 : decode (mC m_Archive_find) 15 = .ok (.aaload, 1) := by decide +kernel
theorem d_Archive_find_16 : decode (mC m_Archive_find) 16 = .ok (.getfield 63, 3) := by decide +kernel
theorem d_Archive_find_19 : decode (mC m_Archive_find) 19 = .ok (.iload_n 1, 1) := by decide +kernel
theorem d_Archive_find_20 : decode (mC m_Archive_find) 20 = .ok (.if_icmp .ne 5, 3) := by decide +kernel
theorem d_Archive_find_23 : decode (mC m_Archive_find) 23 = .ok (.iload_n 2, 1) := by decide +kernel
theorem d_Archive_find_24 : decode (mC m_Archive_find) 24 = .ok (.ireturn, 1) := by decide +kernel
theorem d_Archive_find_25 : decode (mC m_Archive_find) 25 = .ok (.iinc 2 1, 3) := by decide +kernel
theorem d_Archive_find_28 : decode (mC m_Archive_find) 28 = .ok (.goto (-26), 3) := by decide +kernel
theorem d_Archive_find_31 : decode (mC m_Archive_find) 31 = .ok (.iconst (-1), 1) := by decide +kernel
theorem d_Archive_find_32 : decode (mC m_Archive_find) 32 = .ok (.ireturn, 1) := by decide +kernel
def b_Archive_find_2 (F : Nat) (K2 : Nat → Int32 → Int32 → zW → Option (Int32 × zW)) (v0 : Nat) (v1 : Int32) (v2 : Int32) (w : zW) : Option (Int32 × zW) := (getI w v0 6 3).bind fun x4 => if x4 ≤ v2 then (some ((-1 : Int32), w)) else ((getR w v0 6 2).bind fun x11 => (rget w x11 v2).bind fun x15 => (getI w x15 1 0).bind fun x16 => if x16 = v1 then (some (v2, w)) else (K2 v0 v1 (v2 + (1 : Int32)) w))
set_option maxRecDepth 100000 in
set_option maxHeartbeats 4000000 in
theorem b_Archive_find_2_ok (G : zG) (F : Nat) (K2 : Nat → Int32 → Int32 → zW → Option (Int32 × zW)) (hK2 : ∀ (v0 : Nat) (v1 : Int32) (v2 : Int32) (w : zW) (r : (Int32 × zW)), K2 v0 v1 v2 w = some r → zV G m_Archive_find 2 [(0, .ref (z0 G + v0)), (1, .int v1), (2, .int v2)] [] w 0 0 (oI r.1) r.2) (v0 : Nat) (v1 : Int32) (v2 : Int32) (w : zW) (r : (Int32 × zW)) (h : b_Archive_find_2 F K2 v0 v1 v2 w = some r) : zV G m_Archive_find 2 [(0, .ref (z0 G + v0)), (1, .int v1), (2, .int v2)] [] w 0 0 (oI r.1) r.2 := by
  unfold b_Archive_find_2 at h
  refine V_iload_n (i := 2) d_Archive_find_2 rfl 2 rfl ?_
  refine V_aload_n (i := 0) d_Archive_find_3 rfl 0 rfl ?_
  obtain ⟨x4, e4, h⟩ := ob h
  refine V_getI (ci := 6) (k := 3) d_Archive_find_4 e4 rfl (by decide) in_Archive k216 ?_
  refine V_icmp_ge (tgt := 31) d_Archive_find_7 (by decide) (fun c7 => ?_) (fun c7 => ?_)
  · rw [if_pos c7] at h
    refine V_iconst (v := -1) d_Archive_find_31 (by decide) ?_
    obtain rfl := Option.some.inj h
    exact V_iret rfl (by decide) (by decide) d_Archive_find_32
  · rw [if_neg c7] at h
    refine V_aload_n (i := 0) d_Archive_find_10 rfl 0 rfl ?_
    obtain ⟨x11, e11, h⟩ := ob h
    refine V_getR (ci := 6) (k := 2) d_Archive_find_11 e11 rfl (by decide) in_Archive k214 ?_
    refine V_iload_n (i := 2) d_Archive_find_14 rfl 2 rfl ?_
    obtain ⟨x15, e15, h⟩ := ob h
    refine V_rget d_Archive_find_15 e15 ?_
    obtain ⟨x16, e16, h⟩ := ob h
    refine V_getI (ci := 1) (k := 0) d_Archive_find_16 e16 rfl (by decide) in_Entry k168 ?_
    refine V_iload_n (i := 1) d_Archive_find_19 rfl 1 rfl ?_
    refine V_icmp_ne (tgt := 25) d_Archive_find_20 (by decide) (fun c20 => ?_) (fun c20 => ?_)
    · rw [if_neg c20] at h
      refine V_iinc (i := 2) (v := (v2 + (1 : Int32))) d_Archive_find_25 2 rfl (congrArg (fun y => v2 + y) (by decide : Int32.ofInt (1) = (1 : Int32))) (by decide) rfl ?_
      refine V_goto (tgt := 2) d_Archive_find_28 (by decide) ?_
      refine V_lv [1, 2, 0] rfl ?_
      exact hK2 v0 v1 (v2 + (1 : Int32)) w _ h
    · rw [if_pos c20] at h
      refine V_iload_n (i := 2) d_Archive_find_23 rfl 2 rfl ?_
      obtain rfl := Option.some.inj h
      exact V_iret rfl (by decide) (by decide) d_Archive_find_24
def l_Archive_find_2 (F : Nat) : Nat → Nat → Int32 → Int32 → zW → Option (Int32 × zW)
  | 0 => fun _ _ _ _ => none
  | n + 1 => b_Archive_find_2 F (l_Archive_find_2 F n)
theorem l_Archive_find_2_ok (G : zG) (F : Nat) (n : Nat) :  ∀ (v0 : Nat) (v1 : Int32) (v2 : Int32) (w : zW) (r : (Int32 × zW)), l_Archive_find_2 F n v0 v1 v2 w = some r → zV G m_Archive_find 2 [(0, .ref (z0 G + v0)), (1, .int v1), (2, .int v2)] [] w 0 0 (oI r.1) r.2 := by
  induction n with
  | zero => intro v0 v1 v2 w r h; exact nomatch (show (none : Option (Int32 × zW)) = some r from h)
  | succ n ih => intro v0 v1 v2 w r h; exact b_Archive_find_2_ok G F (l_Archive_find_2 F n) ih v0 v1 v2 w r h
def b_Archive_find_0 (F : Nat) (v0 : Nat) (v1 : Int32) (w : zW) : Option (Int32 × zW) := l_Archive_find_2 F F v0 v1 (0 : Int32) w
set_option maxRecDepth 100000 in
set_option maxHeartbeats 4000000 in
theorem b_Archive_find_0_ok (G : zG) (F : Nat) (v0 : Nat) (v1 : Int32) (w : zW) (r : (Int32 × zW)) (h : b_Archive_find_0 F v0 v1 w = some r) : zV G m_Archive_find 0 [(0, .ref (z0 G + v0)), (1, .int v1)] [] w 0 0 (oI r.1) r.2 := by
  unfold b_Archive_find_0 at h
  refine V_iconst (v := 0) d_Archive_find_0 (by decide) ?_
  refine V_istore_n (i := 2) d_Archive_find_1 rfl (by decide) rfl ?_
  refine V_lv [1, 2, 0] rfl ?_
  exact l_Archive_find_2_ok G F F v0 v1 (0 : Int32) w _ h
def f_Archive_find (F : Nat) (v0 : Nat) (v1 : Int32) (w : zW) : Option (Int32 × zW) := b_Archive_find_0 F v0 v1 w
theorem c_Archive_find (G : zG) (F : Nat) (v0 : Nat) (v1 : Int32) (w : zW) (r : (Int32 × zW)) (h : f_Archive_find F v0 v1 w = some r) : zCT G m_Archive_find [.ref (z0 G + v0), .int v1] w (oI r.1) r.2 := zCT.ofV (by decide +kernel) (Or.inl ⟨kc_Archive_find, rfl⟩) (Nat.le_of_ble_eq_true rfl) (b_Archive_find_0_ok G F v0 v1 w r h)

/-! ZipArray$Archive.namesDiffer()Z -/
def m_Archive_namesDiffer : zM := (⟨R_Archive, "namesDiffer", "()Z"⟩, prog_2_method_11_code, 2, (some .boolean), [], { frames := 1, cells := 0, slots := 0, locals := 22 })
theorem k432 : Cond.methodLink R_Archive 155 (mY m_Archive_find) ∈ zTb := tb_at 432 (by decide +kernel) rfl
theorem k433 : Cond.instanceMethod (mY m_Archive_find) ∈ zTb := tb_at 433 (by decide +kernel) rfl
theorem k434 : Cond.selects R_Archive (mY m_Archive_find) (mY m_Archive_find) ∈ zTb := tb_at 434 (by decide +kernel) rfl
theorem kc_Archive_namesDiffer : Cond.code (mY m_Archive_namesDiffer) (mC m_Archive_namesDiffer) (mL m_Archive_namesDiffer) (mT m_Archive_namesDiffer) ∈ zTb := tb_at 431 (by decide +kernel) rfl
theorem y_Archive_namesDiffer : (mY m_Archive_namesDiffer).cls ≠ "java/lang/invoke/MethodHandle" ∧ (mY m_Archive_namesDiffer).cls ≠ "java/lang/invoke/VarHandle" ∧ (parseMethodDescriptor (mY m_Archive_namesDiffer).desc).map (fun d => d.parameters.length) = some 0 := by decide +kernel
theorem sel_Archive_namesDiffer : Cond.selects R_Archive (mY m_Archive_namesDiffer) (mY m_Archive_namesDiffer) ∈ zTb := sel_at (y := mY m_Archive_namesDiffer) (n := 7) 8 (by decide +kernel)
theorem d_Archive_namesDiffer_0 : decode (mC m_Archive_namesDiffer) 0 = .ok (.iconst 0, 1) := by decide +kernel
theorem d_Archive_namesDiffer_1 : decode (mC m_Archive_namesDiffer) 1 = .ok (.istore_n 1, 1) := by decide +kernel
theorem d_Archive_namesDiffer_2 : decode (mC m_Archive_namesDiffer) 2 = .ok (.iload_n 1, 1) := by decide +kernel
theorem d_Archive_namesDiffer_3 : decode (mC m_Archive_namesDiffer) 3 = .ok (.aload_n 0, 1) := by decide +kernel
theorem d_Archive_namesDiffer_4 : decode (mC m_Archive_namesDiffer) 4 = .ok (.getfield 31, 3) := by decide +kernel
theorem d_Archive_namesDiffer_7 : decode (mC m_Archive_namesDiffer) 7 = .ok (.if_icmp .ge 28, 3) := by decide +kernel
theorem d_Archive_namesDiffer_10 : decode (mC m_Archive_namesDiffer) 10 = .ok (.aload_n 0, 1) := by decide +kernel
theorem d_Archive_namesDiffer_11 : decode (mC m_Archive_namesDiffer) 11 = .ok (.aload_n 0, 1) := by decide +kernel
theorem d_Archive_namesDiffer_12 : decode (mC m_Archive_namesDiffer) 12 = .ok (.getfield 26, 3) := by decide +kernel
theorem d_Archive_namesDiffer_15 : decode (mC m_Archive_namesDiffer) 15 = .ok (.iload_n 1, 1) := by decide +kernel
theorem d_Archive_namesDiffer_16 : decode (mC m_Archive_namesDiffer) 16 = .ok (.aaload, 1) := by decide +kernel
theorem d_Archive_namesDiffer_17 : decode (mC m_Archive_namesDiffer) 17 = .ok (.getfield 63, 3) := by decide +kernel
theorem d_Archive_namesDiffer_20 : decode (mC m_Archive_namesDiffer) 20 = .ok (.invokevirtual 155, 3) := by decide +kernel
theorem d_Archive_namesDiffer_23 : decode (mC m_Archive_namesDiffer) 23 = .ok (.iload_n 1, 1) := by decide +kernel
theorem d_Archive_namesDiffer_24 : decode (mC m_Archive_namesDiffer) 24 = .ok (.if_icmp .eq 5, 3) := by decide +kernel
theorem d_Archive_namesDiffer_27 : decode (mC m_Archive_namesDiffer) 27 = .ok (.iconst 0, 1) := by decide +kernel
theorem d_Archive_namesDiffer_28 : decode (mC m_Archive_namesDiffer) 28 = .ok (.ireturn, 1) := by decide +kernel
theorem d_Archive_namesDiffer_29 : decode (mC m_Archive_namesDiffer) 29 = .ok (.iinc 1 1, 3) := by decide +kernel
theorem d_Archive_namesDiffer_32 : decode (mC m_Archive_namesDiffer) 32 = .ok (.goto (-30), 3) := by decide +kernel
theorem d_Archive_namesDiffer_35 : decode (mC m_Archive_namesDiffer) 35 = .ok (.iconst 1, 1) := by decide +kernel
theorem d_Archive_namesDiffer_36 : decode (mC m_Archive_namesDiffer) 36 = .ok (.ireturn, 1) := by decide +kernel
def b_Archive_namesDiffer_2 (F : Nat) (K2 : Nat → Int32 → zW → Option (Int32 × zW)) (v0 : Nat) (v1 : Int32) (w : zW) : Option (Int32 × zW) := (getI w v0 6 3).bind fun x4 => if x4 ≤ v1 then (some ((1 : Int32), w)) else ((getR w v0 6 2).bind fun x12 => (rget w x12 v1).bind fun x16 => (getI w x16 1 0).bind fun x17 => (zobj w v0 6).bind fun _ => (f_Archive_find F v0 x17 w).bind fun r20 => if r20.1 = v1 then (K2 v0 (v1 + (1 : Int32)) r20.2) else (some ((0 : Int32), r20.2)))
set_option maxRecDepth 100000 in
set_option maxHeartbeats 4000000 in
theorem b_Archive_namesDiffer_2_ok (G : zG) (F : Nat) (K2 : Nat → Int32 → zW → Option (Int32 × zW)) (hK2 : ∀ (v0 : Nat) (v1 : Int32) (w : zW) (r : (Int32 × zW)), K2 v0 v1 w = some r → zV G m_Archive_namesDiffer 2 [(0, .ref (z0 G + v0)), (1, .int v1)] [] w 0 0 (oI r.1) r.2) (v0 : Nat) (v1 : Int32) (w : zW) (r : (Int32 × zW)) (h : b_Archive_namesDiffer_2 F K2 v0 v1 w = some r) : zV G m_Archive_namesDiffer 2 [(0, .ref (z0 G + v0)), (1, .int v1)] [] w 0 0 (oI r.1) r.2 := by
  unfold b_Archive_namesDiffer_2 at h
  refine V_iload_n (i := 1) d_Archive_namesDiffer_2 rfl 1 rfl ?_
  refine V_aload_n (i := 0) d_Archive_namesDiffer_3 rfl 0 rfl ?_
  obtain ⟨x4, e4, h⟩ := ob h
  refine V_getI (ci := 6) (k := 3) d_Archive_namesDiffer_4 e4 rfl (by decide) in_Archive k216 ?_
  refine V_icmp_ge (tgt := 35) d_Archive_namesDiffer_7 (by decide) (fun c7 => ?_) (fun c7 => ?_)
  · rw [if_pos c7] at h
    refine V_iconst (v := 1) d_Archive_namesDiffer_35 (by decide) ?_
    obtain rfl := Option.some.inj h
    exact V_zret rfl (Or.inr rfl) (by decide) (by decide) d_Archive_namesDiffer_36
  · rw [if_neg c7] at h
    refine V_aload_n (i := 0) d_Archive_namesDiffer_10 rfl 0 rfl ?_
    refine V_aload_n (i := 0) d_Archive_namesDiffer_11 rfl 0 rfl ?_
    obtain ⟨x12, e12, h⟩ := ob h
    refine V_getR (ci := 6) (k := 2) d_Archive_namesDiffer_12 e12 rfl (by decide) in_Archive k214 ?_
    refine V_iload_n (i := 1) d_Archive_namesDiffer_15 rfl 1 rfl ?_
    obtain ⟨x16, e16, h⟩ := ob h
    refine V_rget d_Archive_namesDiffer_16 e16 ?_
    obtain ⟨x17, e17, h⟩ := ob h
    refine V_getI (ci := 1) (k := 0) d_Archive_namesDiffer_17 e17 rfl (by decide) in_Entry k168 ?_
    obtain ⟨_, eo20, h⟩ := ob h
    obtain ⟨r20, e20, h⟩ := ob h
    refine V_call (v := some (.int r20.1)) (st := []) (inv_V (N := m_Archive_find) (As := [.int x17]) (ci := 6) d_Archive_namesDiffer_20 eo20 rfl k432 k433 k434 kc_Archive_find y_Archive_find) ⟨Or.inl kc_Archive_find, k6, by decide, by decide⟩ (Nat.le_of_ble_eq_true rfl) (by decide) (by decide) (c_Archive_find G F v0 x17 w r20 e20) ?_
    refine V_iload_n (i := 1) d_Archive_namesDiffer_23 rfl 1 rfl ?_
    refine V_icmp_eq (tgt := 29) d_Archive_namesDiffer_24 (by decide) (fun c24 => ?_) (fun c24 => ?_)
    · rw [if_pos c24] at h
      refine V_iinc (i := 1) (v := (v1 + (1 : Int32))) d_Archive_namesDiffer_29 1 rfl (congrArg (fun y => v1 + y) (by decide : Int32.ofInt (1) = (1 : Int32))) (by decide) rfl ?_
      refine V_goto (tgt := 2) d_Archive_namesDiffer_32 (by decide) ?_
      refine V_lv [1, 0] rfl ?_
      exact hK2 v0 (v1 + (1 : Int32)) r20.2 _ h
    · rw [if_neg c24] at h
      refine V_iconst (v := 0) d_Archive_namesDiffer_27 (by decide) ?_
      obtain rfl := Option.some.inj h
      exact V_zret rfl (Or.inl rfl) (by decide) (by decide) d_Archive_namesDiffer_28
def l_Archive_namesDiffer_2 (F : Nat) : Nat → Nat → Int32 → zW → Option (Int32 × zW)
  | 0 => fun _ _ _ => none
  | n + 1 => b_Archive_namesDiffer_2 F (l_Archive_namesDiffer_2 F n)
theorem l_Archive_namesDiffer_2_ok (G : zG) (F : Nat) (n : Nat) :  ∀ (v0 : Nat) (v1 : Int32) (w : zW) (r : (Int32 × zW)), l_Archive_namesDiffer_2 F n v0 v1 w = some r → zV G m_Archive_namesDiffer 2 [(0, .ref (z0 G + v0)), (1, .int v1)] [] w 0 0 (oI r.1) r.2 := by
  induction n with
  | zero => intro v0 v1 w r h; exact nomatch (show (none : Option (Int32 × zW)) = some r from h)
  | succ n ih => intro v0 v1 w r h; exact b_Archive_namesDiffer_2_ok G F (l_Archive_namesDiffer_2 F n) ih v0 v1 w r h
def b_Archive_namesDiffer_0 (F : Nat) (v0 : Nat) (w : zW) : Option (Int32 × zW) := l_Archive_namesDiffer_2 F F v0 (0 : Int32) w
set_option maxRecDepth 100000 in
set_option maxHeartbeats 4000000 in
theorem b_Archive_namesDiffer_0_ok (G : zG) (F : Nat) (v0 : Nat) (w : zW) (r : (Int32 × zW)) (h : b_Archive_namesDiffer_0 F v0 w = some r) : zV G m_Archive_namesDiffer 0 [(0, .ref (z0 G + v0))] [] w 0 0 (oI r.1) r.2 := by
  unfold b_Archive_namesDiffer_0 at h
  refine V_iconst (v := 0) d_Archive_namesDiffer_0 (by decide) ?_
  refine V_istore_n (i := 1) d_Archive_namesDiffer_1 rfl (by decide) rfl ?_
  refine V_lv [1, 0] rfl ?_
  exact l_Archive_namesDiffer_2_ok G F F v0 (0 : Int32) w _ h
def f_Archive_namesDiffer (F : Nat) (v0 : Nat) (w : zW) : Option (Int32 × zW) := b_Archive_namesDiffer_0 F v0 w
theorem c_Archive_namesDiffer (G : zG) (F : Nat) (v0 : Nat) (w : zW) (r : (Int32 × zW)) (h : f_Archive_namesDiffer F v0 w = some r) : zCT G m_Archive_namesDiffer [.ref (z0 G + v0)] w (oI r.1) r.2 := zCT.ofV (by decide +kernel) (Or.inl ⟨kc_Archive_namesDiffer, rfl⟩) (Nat.le_of_ble_eq_true rfl) (b_Archive_namesDiffer_0_ok G F v0 w r h)

/-! ZipArray$Archive.read()I -/
def m_Archive_read : zM := (⟨R_Archive, "read", "()I"⟩, prog_2_method_2_code, 4, (some .int), [], { frames := 4, cells := 0, slots := 0, locals := 99 })
theorem k221 : Cond.fieldLink R_Archive 39 (T_Archive 6).1 (T_Archive 6).2.1 (T_Archive 6).2.2.1 ∈ zTb := tb_at 221 (by decide +kernel) rfl
theorem k364 : Cond.methodLink R_Archive 35 (mY m_Archive_findEnd) ∈ zTb := tb_at 364 (by decide +kernel) rfl
theorem k366 : Cond.instanceMethod (mY m_Archive_findEnd) ∈ zTb := tb_at 366 (by decide +kernel) rfl
theorem k373 : Cond.methodLink R_Archive 42 (mY m_Archive_readEnd) ∈ zTb := tb_at 373 (by decide +kernel) rfl
theorem k375 : Cond.instanceMethod (mY m_Archive_readEnd) ∈ zTb := tb_at 375 (by decide +kernel) rfl
theorem k390 : Cond.methodLink R_Archive 49 (mY m_Archive_readPart) ∈ zTb := tb_at 390 (by decide +kernel) rfl
theorem k392 : Cond.instanceMethod (mY m_Archive_readPart) ∈ zTb := tb_at 392 (by decide +kernel) rfl
theorem k428 : Cond.methodLink R_Archive 59 (mY m_Archive_namesDiffer) ∈ zTb := tb_at 428 (by decide +kernel) rfl
theorem k430 : Cond.instanceMethod (mY m_Archive_namesDiffer) ∈ zTb := tb_at 430 (by decide +kernel) rfl
theorem kc_Archive_read : Cond.code (mY m_Archive_read) (mC m_Archive_read) (mL m_Archive_read) (mT m_Archive_read) ∈ zTb := tb_at 363 (by decide +kernel) rfl
theorem y_Archive_read : (mY m_Archive_read).cls ≠ "java/lang/invoke/MethodHandle" ∧ (mY m_Archive_read).cls ≠ "java/lang/invoke/VarHandle" ∧ (parseMethodDescriptor (mY m_Archive_read).desc).map (fun d => d.parameters.length) = some 0 := by decide +kernel
theorem d_Archive_read_0 : decode (mC m_Archive_read) 0 = .ok (.aload_n 0, 1) := by decide +kernel
theorem d_Archive_read_1 : decode (mC m_Archive_read) 1 = .ok (.iconst 0, 1) := by decide +kernel
theorem d_Archive_read_2 : decode (mC m_Archive_read) 2 = .ok (.putfield 31, 3) := by decide +kernel
theorem d_Archive_read_5 : decode (mC m_Archive_read) 5 = .ok (.aload_n 0, 1) := by decide +kernel
theorem d_Archive_read_6 : decode (mC m_Archive_read) 6 = .ok (.invokevirtual 35, 3) := by decide +kernel
theorem d_Archive_read_9 : decode (mC m_Archive_read) 9 = .ok (.istore_n 1, 1) := by decide +kernel
theorem d_Archive_read_10 : decode (mC m_Archive_read) 10 = .ok (.iload_n 1, 1) := by decide +kernel
theorem d_Archive_read_11 : decode (mC m_Archive_read) 11 = .ok (.iconst (-1), 1) := by decide +kernel
theorem d_Archive_read_12 : decode (mC m_Archive_read) 12 = .ok (.if_icmp .ne 5, 3) := by decide +kernel
theorem d_Archive_read_15 : decode (mC m_Archive_read) 15 = .ok (.iconst 1, 1) := by decide +kernel
theorem d_Archive_read_16 : decode (mC m_Archive_read) 16 = .ok (.ireturn, 1) := by decide +kernel
theorem d_Archive_read_17 : decode (mC m_Archive_read) 17 = .ok (.aload_n 0, 1) := by decide +kernel
theorem d_Archive_read_18 : decode (mC m_Archive_read) 18 = .ok (.iload_n 1, 1) := by decide +kernel
theorem d_Archive_read_19 : decode (mC m_Archive_read) 19 = .ok (.bipush 22, 2) := by decide +kernel
theorem d_Archive_read_21 : decode (mC m_Archive_read) 21 = .ok (.iadd, 1) := by decide +kernel
theorem d_Archive_read_22 : decode (mC m_Archive_read) 22 = .ok (.putfield 39, 3) := by decide +kernel
theorem d_Archive_read_25 : decode (mC m_Archive_read) 25 = .ok (.aload_n 0, 1) := by decide +kernel
theorem d_Archive_read_26 : decode (mC m_Archive_read) 26 = .ok (.iload_n 1, 1) := by decide +kernel
theorem d_Archive_read_27 : decode (mC m_Archive_read) 27 = .ok (.invokevirtual 42, 3) := by decide +kernel
theorem d_Archive_read_30 : decode (mC m_Archive_read) 30 = .ok (.ifCond .ne 5, 3) := by decide +kernel
theorem d_Archive_read_33 : decode (mC m_Archive_read) 33 = .ok (.iconst 2, 1) := by decide +kernel
theorem d_Archive_read_34 : decode (mC m_Archive_read) 34 = .ok (.ireturn, 1) := by decide +kernel
theorem d_Archive_read_35 : decode (mC m_Archive_read) 35 = .ok (.aload_n 0, 1) := by decide +kernel
theorem d_Archive_read_36 : decode (mC m_Archive_read) 36 = .ok (.getfield 46, 3) := by decide +kernel
theorem d_Archive_read_39 : decode (mC m_Archive_read) 39 = .ok (.istore_n 2, 1) := by decide +kernel
theorem d_Archive_read_40 : decode (mC m_Archive_read) 40 = .ok (.iconst 0, 1) := by decide +kernel
theorem d_Archive_read_41 : decode (mC m_Archive_read) 41 = .ok (.istore_n 3, 1) := by decide +kernel
theorem d_Archive_read_42 : decode (mC m_Archive_read) 42 = .ok (.iload_n 3, 1) := by decide +kernel
theorem d_Archive_read_43 : decode (mC m_Archive_read) 43 = .ok (.aload_n 0, 1) := by decide +kernel
theorem d_Archive_read_44 : decode (mC m_Archive_read) 44 = .ok (.getfield 31, 3) := by decide +kernel
theorem d_Archive_read_47 : decode (mC m_Archive_read) 47 = .ok (.if_icmp .ge 35, 3) := by decide +kernel
theorem d_Archive_read_50 : decode (mC m_Archive_read) 50 = .ok (.aload_n 0, 1) := by decide +kernel
theorem d_Archive_read_51 : decode (mC m_Archive_read) 51 = .ok (.aload_n 0, 1) := by decide +kernel
theorem d_Archive_read_52 : decode (mC m_Archive_read) 52 = .ok (.getfield 26, 3) := by decide +kernel
theorem d_Archive_read_55 : decode (mC m_Archive_read) 55 = .ok (.iload_n 3, 1) := by decide +kernel
theorem d_Archive_read_56 : decode (mC m_Archive_read) 56 = .ok (.aaload, 1) := by decide +kernel
theorem d_Archive_read_57 : decode (mC m_Archive_read) 57 = .ok (.iload_n 2, 1) := by decide +kernel
theorem d_Archive_read_58 : decode (mC m_Archive_read) 58 = .ok (.invokevirtual 49, 3) := by decide +kernel
theorem d_Archive_read_61 : decode (mC m_Archive_read) 61 = .ok (.ifCond .ne 5, 3) := by decide +kernel
theorem d_Archive_read_64 : decode (mC m_Archive_read) 64 = .ok (.iconst 2, 1) := by decide +kernel
theorem d_Archive_read_65 : decode (mC m_Archive_read) 65 = .ok (.ireturn, 1) := by decide +kernel
theorem d_Archive_read_66 : decode (mC m_Archive_read) 66 = .ok (.aload_n 0, 1) := by decide +kernel
theorem d_Archive_read_67 : decode (mC m_Archive_read) 67 = .ok (.getfield 26, 3) := by decide +kernel
theorem d_Archive_read_70 : decode (mC m_Archive_read) 70 = .ok (.iload_n 3, 1) := by decide +kernel
theorem d_Archive_read_71 : decode (mC m_Archive_read) 71 = .ok (.aaload, 1) := by decide +kernel
theorem d_Archive_read_72 : decode (mC m_Archive_read) 72 = .ok (.getfield 53, 3) := by decide +kernel
theorem d_Archive_read_75 : decode (mC m_Archive_read) 75 = .ok (.istore_n 2, 1) := by decide +kernel
theorem d_Archive_read_76 : decode (mC m_Archive_read) 76 = .ok (.iinc 3 1, 3) := by decide +kernel
theorem d_Archive_read_79 : decode (mC m_Archive_read) 79 = .ok (.goto (-37), 3) := by decide +kernel
theorem d_Archive_read_82 : decode (mC m_Archive_read) 82 = .ok (.iload_n 2, 1) := by decide +kernel
theorem d_Archive_read_83 : decode (mC m_Archive_read) 83 = .ok (.aload_n 0, 1) := by decide +kernel
theorem d_Archive_read_84 : decode (mC m_Archive_read) 84 = .ok (.getfield 56, 3) := by decide +kernel
theorem d_Archive_read_87 : decode (mC m_Archive_read) 87 = .ok (.if_icmp .ne 14, 3) := by decide +kernel
theorem d_Archive_read_90 : decode (mC m_Archive_read) 90 = .ok (.aload_n 0, 1) := by decide +kernel
theorem d_Archive_read_91 : decode (mC m_Archive_read) 91 = .ok (.invokevirtual 59, 3) := by decide +kernel
theorem d_Archive_read_94 : decode (mC m_Archive_read) 94 = .ok (.ifCond .eq 7, 3) := by decide +kernel
theorem d_Archive_read_97 : decode (mC m_Archive_read) 97 = .ok (.iconst 0, 1) := by decide +kernel
theorem d_Archive_read_98 : decode (mC m_Archive_read) 98 = .ok (.goto 4, 3) := by decide +kernel
theorem d_Archive_read_101 : decode (mC m_Archive_read) 101 = .ok (.iconst 2, 1) := by decide +kernel
theorem d_Archive_read_102 : decode (mC m_Archive_read) 102 = .ok (.ireturn, 1) := by decide +kernel
def b_Archive_read_101 (F : Nat) (w : zW) : Option (Int32 × zW) := some ((2 : Int32), w)
set_option maxRecDepth 100000 in
set_option maxHeartbeats 4000000 in
theorem b_Archive_read_101_ok (G : zG) (F : Nat) (w : zW) (r : (Int32 × zW)) (h : b_Archive_read_101 F w = some r) : zV G m_Archive_read 101 [] [] w 0 0 (oI r.1) r.2 := by
  unfold b_Archive_read_101 at h
  refine V_iconst (v := 2) d_Archive_read_101 (by decide) ?_
  obtain rfl := Option.some.inj h
  exact V_iret rfl (by decide) (by decide) d_Archive_read_102
def b_Archive_read_42 (F : Nat) (K42 : Nat → Int32 → Int32 → zW → Option (Int32 × zW)) (v0 : Nat) (v2 : Int32) (v3 : Int32) (w : zW) : Option (Int32 × zW) := (getI w v0 6 3).bind fun x44 => if x44 ≤ v3 then ((getI w v0 6 5).bind fun x84 => if v2 = x84 then ((zobj w v0 6).bind fun _ => (f_Archive_namesDiffer F v0 w).bind fun r91 => if r91.1 = 0 then (b_Archive_read_101 F r91.2) else (some ((0 : Int32), r91.2))) else (b_Archive_read_101 F w)) else ((getR w v0 6 2).bind fun x52 => (rget w x52 v3).bind fun x56 => (zobj w v0 6).bind fun _ => (f_Archive_readPart F v0 x56 v2 w).bind fun r58 => if r58.1 = 0 then (some ((2 : Int32), r58.2)) else ((getR r58.2 v0 6 2).bind fun x67 => (rget r58.2 x67 v3).bind fun x71 => (getI r58.2 x71 1 8).bind fun x72 => K42 v0 x72 (v3 + (1 : Int32)) r58.2))
set_option maxRecDepth 100000 in
set_option maxHeartbeats 4000000 in
theorem b_Archive_read_42_ok (G : zG) (F : Nat) (K42 : Nat → Int32 → Int32 → zW → Option (Int32 × zW)) (hK42 : ∀ (v0 : Nat) (v2 : Int32) (v3 : Int32) (w : zW) (r : (Int32 × zW)), K42 v0 v2 v3 w = some r → zV G m_Archive_read 42 [(0, .ref (z0 G + v0)), (2, .int v2), (3, .int v3)] [] w 0 0 (oI r.1) r.2) (v0 : Nat) (v2 : Int32) (v3 : Int32) (w : zW) (r : (Int32 × zW)) (h : b_Archive_read_42 F K42 v0 v2 v3 w = some r) : zV G m_Archive_read 42 [(0, .ref (z0 G + v0)), (2, .int v2), (3, .int v3)] [] w 0 0 (oI r.1) r.2 := by
  unfold b_Archive_read_42 at h
  refine V_iload_n (i := 3) d_Archive_read_42 rfl 2 rfl ?_
  refine V_aload_n (i := 0) d_Archive_read_43 rfl 0 rfl ?_
  obtain ⟨x44, e44, h⟩ := ob h
  refine V_getI (ci := 6) (k := 3) d_Archive_read_44 e44 rfl (by decide) in_Archive k216 ?_
  refine V_icmp_ge (tgt := 82) d_Archive_read_47 (by decide) (fun c47 => ?_) (fun c47 => ?_)
  · rw [if_pos c47] at h
    refine V_iload_n (i := 2) d_Archive_read_82 rfl 1 rfl ?_
    refine V_aload_n (i := 0) d_Archive_read_83 rfl 0 rfl ?_
    obtain ⟨x84, e84, h⟩ := ob h
    refine V_getI (ci := 6) (k := 5) d_Archive_read_84 e84 rfl (by decide) in_Archive k220 ?_
    refine V_icmp_ne (tgt := 101) d_Archive_read_87 (by decide) (fun c87 => ?_) (fun c87 => ?_)
    · rw [if_neg c87] at h
      refine V_lv [] rfl ?_
      exact b_Archive_read_101_ok G F w _ h
    · rw [if_pos c87] at h
      refine V_aload_n (i := 0) d_Archive_read_90 rfl 0 rfl ?_
      obtain ⟨_, eo91, h⟩ := ob h
      obtain ⟨r91, e91, h⟩ := ob h
      refine V_call (v := some (.int r91.1)) (st := []) (inv_V (N := m_Archive_namesDiffer) (As := []) (ci := 6) d_Archive_read_91 eo91 rfl k428 k430 sel_Archive_namesDiffer kc_Archive_namesDiffer y_Archive_namesDiffer) ⟨Or.inl kc_Archive_namesDiffer, k6, by decide, by decide⟩ (Nat.le_of_ble_eq_true rfl) (by decide) (by decide) (c_Archive_namesDiffer G F v0 w r91 e91) ?_
      refine V_if_eq (tgt := 101) d_Archive_read_94 (by decide) (fun c94 => ?_) (fun c94 => ?_)
      · rw [if_pos c94] at h
        refine V_lv [] rfl ?_
        exact b_Archive_read_101_ok G F r91.2 _ h
      · rw [if_neg c94] at h
        refine V_iconst (v := 0) d_Archive_read_97 (by decide) ?_
        refine V_goto (tgt := 102) d_Archive_read_98 (by decide) ?_
        obtain rfl := Option.some.inj h
        exact V_iret rfl (by decide) (by decide) d_Archive_read_102
  · rw [if_neg c47] at h
    refine V_aload_n (i := 0) d_Archive_read_50 rfl 0 rfl ?_
    refine V_aload_n (i := 0) d_Archive_read_51 rfl 0 rfl ?_
    obtain ⟨x52, e52, h⟩ := ob h
    refine V_getR (ci := 6) (k := 2) d_Archive_read_52 e52 rfl (by decide) in_Archive k214 ?_
    refine V_iload_n (i := 3) d_Archive_read_55 rfl 2 rfl ?_
    obtain ⟨x56, e56, h⟩ := ob h
    refine V_rget d_Archive_read_56 e56 ?_
    refine V_iload_n (i := 2) d_Archive_read_57 rfl 1 rfl ?_
    obtain ⟨_, eo58, h⟩ := ob h
    obtain ⟨r58, e58, h⟩ := ob h
    refine V_call (v := some (.int r58.1)) (st := []) (inv_V (N := m_Archive_readPart) (As := [.ref (z0 G + x56), .int v2]) (ci := 6) d_Archive_read_58 eo58 rfl k390 k392 sel_Archive_readPart kc_Archive_readPart y_Archive_readPart) ⟨Or.inl kc_Archive_readPart, k6, by decide, by decide⟩ (Nat.le_of_ble_eq_true rfl) (by decide) (by decide) (c_Archive_readPart G F v0 x56 v2 w r58 e58) ?_
    refine V_if_ne (tgt := 66) d_Archive_read_61 (by decide) (fun c61 => ?_) (fun c61 => ?_)
    · rw [if_neg c61] at h
      refine V_aload_n (i := 0) d_Archive_read_66 rfl 0 rfl ?_
      obtain ⟨x67, e67, h⟩ := ob h
      refine V_getR (ci := 6) (k := 2) d_Archive_read_67 e67 rfl (by decide) in_Archive k214 ?_
      refine V_iload_n (i := 3) d_Archive_read_70 rfl 2 rfl ?_
      obtain ⟨x71, e71, h⟩ := ob h
      refine V_rget d_Archive_read_71 e71 ?_
      obtain ⟨x72, e72, h⟩ := ob h
      refine V_getI (ci := 1) (k := 8) d_Archive_read_72 e72 rfl (by decide) in_Entry k191 ?_
      refine V_istore_n (i := 2) d_Archive_read_75 rfl (by decide) rfl ?_
      refine V_iinc (i := 3) (v := (v3 + (1 : Int32))) d_Archive_read_76 2 rfl (congrArg (fun y => v3 + y) (by decide : Int32.ofInt (1) = (1 : Int32))) (by decide) rfl ?_
      refine V_goto (tgt := 42) d_Archive_read_79 (by decide) ?_
      refine V_lv [2, 1, 0] rfl ?_
      exact hK42 v0 x72 (v3 + (1 : Int32)) r58.2 _ h
    · rw [if_pos c61] at h
      refine V_iconst (v := 2) d_Archive_read_64 (by decide) ?_
      obtain rfl := Option.some.inj h
      exact V_iret rfl (by decide) (by decide) d_Archive_read_65
def l_Archive_read_42 (F : Nat) : Nat → Nat → Int32 → Int32 → zW → Option (Int32 × zW)
  | 0 => fun _ _ _ _ => none
  | n + 1 => b_Archive_read_42 F (l_Archive_read_42 F n)
theorem l_Archive_read_42_ok (G : zG) (F : Nat) (n : Nat) :  ∀ (v0 : Nat) (v2 : Int32) (v3 : Int32) (w : zW) (r : (Int32 × zW)), l_Archive_read_42 F n v0 v2 v3 w = some r → zV G m_Archive_read 42 [(0, .ref (z0 G + v0)), (2, .int v2), (3, .int v3)] [] w 0 0 (oI r.1) r.2 := by
  induction n with
  | zero => intro v0 v2 v3 w r h; exact nomatch (show (none : Option (Int32 × zW)) = some r from h)
  | succ n ih => intro v0 v2 v3 w r h; exact b_Archive_read_42_ok G F (l_Archive_read_42 F n) ih v0 v2 v3 w r h
def b_Archive_read_0 (F : Nat) (v0 : Nat) (w : zW) : Option (Int32 × zW) := (putI w v0 6 3 (0 : Int32)).bind fun w2 => (zobj w2 v0 6).bind fun _ => (f_Archive_findEnd F v0 w2).bind fun r6 => if r6.1 = (-1 : Int32) then (some ((1 : Int32), r6.2)) else ((putI r6.2 v0 6 6 (r6.1 + (22 : Int32))).bind fun w22 => (zobj w22 v0 6).bind fun _ => (f_Archive_readEnd F v0 r6.1 w22).bind fun r27 => if r27.1 = 0 then (some ((2 : Int32), r27.2)) else ((getI r27.2 v0 6 4).bind fun x36 => l_Archive_read_42 F F v0 x36 (0 : Int32) r27.2))
set_option maxRecDepth 100000 in
set_option maxHeartbeats 4000000 in
theorem b_Archive_read_0_ok (G : zG) (F : Nat) (v0 : Nat) (w : zW) (r : (Int32 × zW)) (h : b_Archive_read_0 F v0 w = some r) : zV G m_Archive_read 0 [(0, .ref (z0 G + v0))] [] w 0 0 (oI r.1) r.2 := by
  unfold b_Archive_read_0 at h
  refine V_aload_n (i := 0) d_Archive_read_0 rfl 0 rfl ?_
  refine V_iconst (v := 0) d_Archive_read_1 (by decide) ?_
  obtain ⟨w2, e2, h⟩ := ob h
  refine V_putI (ci := 6) (k := 3) t_Archive d_Archive_read_2 e2 rfl (by decide) in_Archive k216 ty_Archive nm_Archive rfl (Or.inl rfl) ?_
  refine V_aload_n (i := 0) d_Archive_read_5 rfl 0 rfl ?_
  obtain ⟨_, eo6, h⟩ := ob h
  obtain ⟨r6, e6, h⟩ := ob h
  refine V_call (v := some (.int r6.1)) (st := []) (inv_V (N := m_Archive_findEnd) (As := []) (ci := 6) d_Archive_read_6 eo6 rfl k364 k366 sel_Archive_findEnd kc_Archive_findEnd y_Archive_findEnd) ⟨Or.inl kc_Archive_findEnd, k6, by decide, by decide⟩ (Nat.le_of_ble_eq_true rfl) (by decide) (by decide) (c_Archive_findEnd G F v0 w2 r6 e6) ?_
  refine V_istore_n (i := 1) d_Archive_read_9 rfl (by decide) rfl ?_
  refine V_iload_n (i := 1) d_Archive_read_10 rfl 0 rfl ?_
  refine V_iconst (v := -1) d_Archive_read_11 (by decide) ?_
  refine V_icmp_ne (tgt := 17) d_Archive_read_12 (by decide) (fun c12 => ?_) (fun c12 => ?_)
  · rw [if_neg c12] at h
    refine V_aload_n (i := 0) d_Archive_read_17 rfl 1 rfl ?_
    refine V_iload_n (i := 1) d_Archive_read_18 rfl 0 rfl ?_
    refine V_bipush (v := 22) d_Archive_read_19 (by decide) ?_
    refine V_iadd d_Archive_read_21 ?_
    obtain ⟨w22, e22, h⟩ := ob h
    refine V_putI (ci := 6) (k := 6) t_Archive d_Archive_read_22 e22 rfl (by decide) in_Archive k221 ty_Archive nm_Archive rfl (Or.inl rfl) ?_
    refine V_aload_n (i := 0) d_Archive_read_25 rfl 1 rfl ?_
    refine V_iload_n (i := 1) d_Archive_read_26 rfl 0 rfl ?_
    obtain ⟨_, eo27, h⟩ := ob h
    obtain ⟨r27, e27, h⟩ := ob h
    refine V_call (v := some (.int r27.1)) (st := []) (inv_V (N := m_Archive_readEnd) (As := [.int r6.1]) (ci := 6) d_Archive_read_27 eo27 rfl k373 k375 sel_Archive_readEnd kc_Archive_readEnd y_Archive_readEnd) ⟨Or.inl kc_Archive_readEnd, k6, by decide, by decide⟩ (Nat.le_of_ble_eq_true rfl) (by decide) (by decide) (c_Archive_readEnd G F v0 r6.1 w22 r27 e27) ?_
    refine V_if_ne (tgt := 35) d_Archive_read_30 (by decide) (fun c30 => ?_) (fun c30 => ?_)
    · rw [if_neg c30] at h
      refine V_aload_n (i := 0) d_Archive_read_35 rfl 1 rfl ?_
      obtain ⟨x36, e36, h⟩ := ob h
      refine V_getI (ci := 6) (k := 4) d_Archive_read_36 e36 rfl (by decide) in_Archive k218 ?_
      refine V_istore_n (i := 2) d_Archive_read_39 rfl (by decide) rfl ?_
      refine V_iconst (v := 0) d_Archive_read_40 (by decide) ?_
      refine V_istore_n (i := 3) d_Archive_read_41 rfl (by decide) rfl ?_
      refine V_lv [3, 1, 0] rfl ?_
      exact l_Archive_read_42_ok G F F v0 x36 (0 : Int32) r27.2 _ h
    · rw [if_pos c30] at h
      refine V_iconst (v := 2) d_Archive_read_33 (by decide) ?_
      obtain rfl := Option.some.inj h
      exact V_iret rfl (by decide) (by decide) d_Archive_read_34
  · rw [if_pos c12] at h
    refine V_iconst (v := 1) d_Archive_read_15 (by decide) ?_
    obtain rfl := Option.some.inj h
    exact V_iret rfl (by decide) (by decide) d_Archive_read_16
def f_Archive_read (F : Nat) (v0 : Nat) (w : zW) : Option (Int32 × zW) := b_Archive_read_0 F v0 w
theorem c_Archive_read (G : zG) (F : Nat) (v0 : Nat) (w : zW) (r : (Int32 × zW)) (h : f_Archive_read F v0 w = some r) : zCT G m_Archive_read [.ref (z0 G + v0)] w (oI r.1) r.2 := zCT.ofV (by decide +kernel) (Or.inl ⟨kc_Archive_read, rfl⟩) (Nat.le_of_ble_eq_true rfl) (b_Archive_read_0_ok G F v0 w r h)
