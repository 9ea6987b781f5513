/-! ZipArray$Row.<init>(I)V -/
def m_Row_init : zM := (⟨R_Row, "<init>", "(I)V"⟩, prog_7_method_1_code, 2, none, [], { frames := 1, cells := 1, slots := 1600, locals := 20 })
theorem k35 : Cond.methodLink R_Row 1 Lib.objectInit ∈ zTb := tb_at 35 (by decide +kernel) rfl
theorem k36 : Cond.fieldLink R_Row 7 (T_Row 0).1 (T_Row 0).2.1 (T_Row 0).2.2.1 ∈ zTb := tb_at 36 (by decide +kernel) rfl
theorem k57 : Cond.arrayClass .int ∈ zTb := tb_at 57 (by decide +kernel) rfl
theorem kc_Row_init : Cond.code (mY m_Row_init) (mC m_Row_init) (mL m_Row_init) (mT m_Row_init) ∈ zTb := tb_at 34 (by decide +kernel) rfl
theorem y_Row_init : (mY m_Row_init).cls ≠ "java/lang/invoke/MethodHandle" ∧ (mY m_Row_init).cls ≠ "java/lang/invoke/VarHandle" ∧ (parseMethodDescriptor (mY m_Row_init).desc).map (fun d => d.parameters.length) = some 1 := by decide +kernel
theorem d_Row_init_0 : decode (mC m_Row_init) 0 = .ok (.aload_n 0, 1) := by decide +kernel
theorem d_Row_init_1 : decode (mC m_Row_init) 1 = .ok (.invokespecial 1, 3) := by decide +kernel
theorem d_Row_init_4 : decode (mC m_Row_init) 4 = .ok (.aload_n 0, 1) := by decide +kernel
theorem d_Row_init_5 : decode (mC m_Row_init) 5 = .ok (.iload_n 1, 1) := by decide +kernel
theorem d_Row_init_6 : decode (mC m_Row_init) 6 = .ok (.newarray .int, 2) := by decide +kernel
theorem d_Row_init_8 : decode (mC m_Row_init) 8 = .ok (.putfield 7, 3) := by decide +kernel
theorem d_Row_init_11 : decode (mC m_Row_init) 11 = .ok (.return_, 1) := by decide +kernel
def b_Row_init_0 (F : Nat) (v0 : Nat) (v1 : Int32) (w : zW) : Option (Unit × zW) := if v1 < 0 ∨ 1600 < v1.toNatClampNeg then none else (znew w (.inl (List.replicate v1.toNatClampNeg 0))).bind fun w6 => (putR w6 v0 0 0 w.length).bind fun w8 => some ((), w8)
set_option maxRecDepth 100000 in
set_option maxHeartbeats 4000000 in
theorem b_Row_init_0_ok (G : zG) (F : Nat) (v0 : Nat) (v1 : Int32) (w : zW) (r : (Unit × zW)) (h : b_Row_init_0 F v0 v1 w = some r) : zV G m_Row_init 0 [(0, .ref (z0 G + v0)), (1, .int v1)] [] w 0 0 (oV r.1) r.2 := by
  unfold b_Row_init_0 at h
  refine V_aload_n (i := 0) d_Row_init_0 rfl 0 rfl ?_
  refine V_objInit d_Row_init_1 k35 kobj1 kobj2 (by decide) (Nat.le_of_ble_eq_true rfl) ?_
  refine V_aload_n (i := 0) d_Row_init_4 rfl 0 rfl ?_
  refine V_iload_n (i := 1) d_Row_init_5 rfl 1 rfl ?_
  by_cases g6 : v1 < 0 ∨ 1600 < v1.toNatClampNeg
  · exact absurd h (by rw [if_pos g6]; exact nofun)
  rw [if_neg g6] at h
  have gb : v1.toNatClampNeg ≤ 1600 := Nat.not_lt.mp fun q => g6 (Or.inr q)
  obtain ⟨w6, e6, h⟩ := ob h
  refine U_newI (N := v1.toNatClampNeg) d_Row_init_6 e6 k57 (fun q => g6 (Or.inl q)) rfl (Nat.le_trans gb (by decide)) (by decide) (Nat.le_trans (Nat.add_le_add_left gb _) (by decide)) ?_
  refine V_n (k1 := 1) (k2 := 1600) (by decide) (Nat.add_le_add_left gb _) ?_
  obtain ⟨w8, e8, h⟩ := ob h
  refine V_putR (ci := 0) (k := 0) t_Row d_Row_init_8 e8 rfl (by decide) in_Row k36 ty_Row nm_Row (Or.inr ⟨rfl, rfl, rfl⟩) (Or.inr ⟨_, rfl⟩) ?_
  obtain rfl := Option.some.inj h
  exact V_vret rfl (by decide) (by decide) d_Row_init_11
def f_Row_init (F : Nat) (v0 : Nat) (v1 : Int32) (w : zW) : Option (Unit × zW) := b_Row_init_0 F v0 v1 w
theorem c_Row_init (G : zG) (F : Nat) (v0 : Nat) (v1 : Int32) (w : zW) (r : (Unit × zW)) (h : f_Row_init F v0 v1 w = some r) : zCT G m_Row_init [.ref (z0 G + v0), .int v1] w (oV r.1) r.2 := zCT.ofV (by decide +kernel) (Or.inl ⟨kc_Row_init, rfl⟩) (Nat.le_of_ble_eq_true rfl) (b_Row_init_0_ok G F v0 v1 w r h)

/-! ZipArray$Packer.<init>(LZipArray$Row;)V -/
def m_Packer_init : zM := (⟨R_Packer, "<init>", "(LZipArray$Row;)V"⟩, prog_6_method_1_code, 2, none, [], { frames := 1, cells := 0, slots := 0, locals := 20 })
theorem k63 : Cond.methodLink R_Packer 1 Lib.objectInit ∈ zTb := tb_at 63 (by decide +kernel) rfl
theorem k64 : Cond.fieldLink R_Packer 7 (T_Packer 0).1 (T_Packer 0).2.1 (T_Packer 0).2.2.1 ∈ zTb := tb_at 64 (by decide +kernel) rfl
theorem kc_Packer_init : Cond.code (mY m_Packer_init) (mC m_Packer_init) (mL m_Packer_init) (mT m_Packer_init) ∈ zTb := tb_at 62 (by decide +kernel) rfl
theorem y_Packer_init : (mY m_Packer_init).cls ≠ "java/lang/invoke/MethodHandle" ∧ (mY m_Packer_init).cls ≠ "java/lang/invoke/VarHandle" ∧ (parseMethodDescriptor (mY m_Packer_init).desc).map (fun d => d.parameters.length) = some 1 := by decide +kernel
theorem d_Packer_init_0 : decode (mC m_Packer_init) 0 = .ok (.aload_n 0, 1) := by decide +kernel
theorem d_Packer_init_1 : decode (mC m_Packer_init) 1 = .ok (.invokespecial 1, 3) := by decide +kernel
theorem d_Packer_init_4 : decode (mC m_Packer_init) 4 = .ok (.aload_n 0, 1) := by decide +kernel
theorem d_Packer_init_5 : decode (mC m_Packer_init) 5 = .ok (.aload_n 1, 1) := by decide +kernel
theorem d_Packer_init_6 : decode (mC m_Packer_init) 6 = .ok (.putfield 7, 3) := by decide +kernel
theorem d_Packer_init_9 : decode (mC m_Packer_init) 9 = .ok (.return_, 1) := by decide +kernel
def b_Packer_init_0 (F : Nat) (v0 : Nat) (v1 : Nat) (w : zW) : Option (Unit × zW) := (putR w v0 3 0 v1).bind fun w6 => some ((), w6)
set_option maxRecDepth 100000 in
set_option maxHeartbeats 4000000 in
theorem b_Packer_init_0_ok (G : zG) (F : Nat) (v0 : Nat) (v1 : Nat) (w : zW) (r : (Unit × zW)) (h : b_Packer_init_0 F v0 v1 w = some r) : zV G m_Packer_init 0 [(0, .ref (z0 G + v0)), (1, .ref (z0 G + v1))] [] w 0 0 (oV r.1) r.2 := by
  unfold b_Packer_init_0 at h
  refine V_aload_n (i := 0) d_Packer_init_0 rfl 0 rfl ?_
  refine V_objInit d_Packer_init_1 k63 kobj1 kobj2 (by decide) (Nat.le_of_ble_eq_true rfl) ?_
  refine V_aload_n (i := 0) d_Packer_init_4 rfl 0 rfl ?_
  refine V_aload_n (i := 1) d_Packer_init_5 rfl 1 rfl ?_
  obtain ⟨w6, e6, h⟩ := ob h
  refine V_putR (ci := 3) (k := 0) t_Packer d_Packer_init_6 e6 rfl (by decide) in_Packer k64 ty_Packer nm_Packer (Or.inr ⟨rfl, rfl, rfl⟩) (Or.inl ⟨_, rfl⟩) ?_
  obtain rfl := Option.some.inj h
  exact V_vret rfl (by decide) (by decide) d_Packer_init_9
def f_Packer_init (F : Nat) (v0 : Nat) (v1 : Nat) (w : zW) : Option (Unit × zW) := b_Packer_init_0 F v0 v1 w
theorem c_Packer_init (G : zG) (F : Nat) (v0 : Nat) (v1 : Nat) (w : zW) (r : (Unit × zW)) (h : f_Packer_init F v0 v1 w = some r) : zCT G m_Packer_init [.ref (z0 G + v0), .ref (z0 G + v1)] w (oV r.1) r.2 := zCT.ofV (by decide +kernel) (Or.inl ⟨kc_Packer_init, rfl⟩) (Nat.le_of_ble_eq_true rfl) (b_Packer_init_0_ok G F v0 v1 w r h)

/-! ZipArray$Code.<init>(I)V -/
def m_Code_init : zM := (⟨R_Code, "<init>", "(I)V"⟩, prog_3_method_1_code, 2, none, [], { frames := 1, cells := 3, slots := 320, locals := 20 })
theorem k93 : Cond.methodLink R_Code 1 Lib.objectInit ∈ zTb := tb_at 93 (by decide +kernel) rfl
theorem k94 : Cond.fieldLink R_Code 9 (T_Code 0).1 (T_Code 0).2.1 (T_Code 0).2.2.1 ∈ zTb := tb_at 94 (by decide +kernel) rfl
theorem k96 : Cond.fieldLink R_Code 13 (T_Code 1).1 (T_Code 1).2.1 (T_Code 1).2.2.1 ∈ zTb := tb_at 96 (by decide +kernel) rfl
theorem k98 : Cond.fieldLink R_Code 16 (T_Code 2).1 (T_Code 2).2.1 (T_Code 2).2.2.1 ∈ zTb := tb_at 98 (by decide +kernel) rfl
theorem kc_Code_init : Cond.code (mY m_Code_init) (mC m_Code_init) (mL m_Code_init) (mT m_Code_init) ∈ zTb := tb_at 92 (by decide +kernel) rfl
theorem y_Code_init : (mY m_Code_init).cls ≠ "java/lang/invoke/MethodHandle" ∧ (mY m_Code_init).cls ≠ "java/lang/invoke/VarHandle" ∧ (parseMethodDescriptor (mY m_Code_init).desc).map (fun d => d.parameters.length) = some 1 := by decide +kernel
theorem d_Code_init_0 : decode (mC m_Code_init) 0 = .ok (.aload_n 0, 1) := by decide +kernel
theorem d_Code_init_1 : decode (mC m_Code_init) 1 = .ok (.invokespecial 1, 3) := by decide +kernel
theorem d_Code_init_4 : decode (mC m_Code_init) 4 = .ok (.aload_n 0, 1) := by decide +kernel
theorem d_Code_init_5 : decode (mC m_Code_init) 5 = .ok (.bipush 16, 2) := by decide +kernel
theorem d_Code_init_7 : decode (mC m_Code_init) 7 = .ok (.newarray .int, 2) := by decide +kernel
theorem d_Code_init_9 : decode (mC m_Code_init) 9 = .ok (.putfield 9, 3) := by decide +kernel
theorem d_Code_init_12 : decode (mC m_Code_init) 12 = .ok (.aload_n 0, 1) := by decide +kernel
theorem d_Code_init_13 : decode (mC m_Code_init) 13 = .ok (.iload_n 1, 1) := by decide +kernel
theorem d_Code_init_14 : decode (mC m_Code_init) 14 = .ok (.newarray .int, 2) := by decide +kernel
theorem d_Code_init_16 : decode (mC m_Code_init) 16 = .ok (.putfield 13, 3) := by decide +kernel
theorem d_Code_init_19 : decode (mC m_Code_init) 19 = .ok (.aload_n 0, 1) := by decide +kernel
theorem d_Code_init_20 : decode (mC m_Code_init) 20 = .ok (.bipush 16, 2) := by decide +kernel
theorem d_Code_init_22 : decode (mC m_Code_init) 22 = .ok (.newarray .int, 2) := by decide +kernel
theorem d_Code_init_24 : decode (mC m_Code_init) 24 = .ok (.putfield 16, 3) := by decide +kernel
theorem d_Code_init_27 : decode (mC m_Code_init) 27 = .ok (.return_, 1) := by decide +kernel
def b_Code_init_0 (F : Nat) (v0 : Nat) (v1 : Int32) (w : zW) : Option (Unit × zW) := (znew w (.inl (List.replicate 16 0))).bind fun w7 => (putR w7 v0 4 0 w.length).bind fun w9 => if v1 < 0 ∨ 288 < v1.toNatClampNeg then none else (znew w9 (.inl (List.replicate v1.toNatClampNeg 0))).bind fun w14 => (putR w14 v0 4 1 w9.length).bind fun w16 => (znew w16 (.inl (List.replicate 16 0))).bind fun w22 => (putR w22 v0 4 2 w16.length).bind fun w24 => some ((), w24)
set_option maxRecDepth 100000 in
set_option maxHeartbeats 4000000 in
theorem b_Code_init_0_ok (G : zG) (F : Nat) (v0 : Nat) (v1 : Int32) (w : zW) (r : (Unit × zW)) (h : b_Code_init_0 F v0 v1 w = some r) : zV G m_Code_init 0 [(0, .ref (z0 G + v0)), (1, .int v1)] [] w 0 0 (oV r.1) r.2 := by
  unfold b_Code_init_0 at h
  refine V_aload_n (i := 0) d_Code_init_0 rfl 0 rfl ?_
  refine V_objInit d_Code_init_1 k93 kobj1 kobj2 (by decide) (Nat.le_of_ble_eq_true rfl) ?_
  refine V_aload_n (i := 0) d_Code_init_4 rfl 0 rfl ?_
  refine V_bipush (v := 16) d_Code_init_5 (by decide) ?_
  obtain ⟨w7, e7, h⟩ := ob h
  refine U_newI (N := 16) d_Code_init_7 e7 k57 (by decide) (by decide) (by decide) (by decide) (by decide) ?_
  obtain ⟨w9, e9, h⟩ := ob h
  refine V_putR (ci := 4) (k := 0) t_Code d_Code_init_9 e9 rfl (by decide) in_Code k94 ty_Code nm_Code (Or.inr ⟨rfl, rfl, rfl⟩) (Or.inr ⟨_, rfl⟩) ?_
  refine V_aload_n (i := 0) d_Code_init_12 rfl 0 rfl ?_
  refine V_iload_n (i := 1) d_Code_init_13 rfl 1 rfl ?_
  by_cases g14 : v1 < 0 ∨ 288 < v1.toNatClampNeg
  · exact absurd h (by rw [if_pos g14]; exact nofun)
  rw [if_neg g14] at h
  have gb : v1.toNatClampNeg ≤ 288 := Nat.not_lt.mp fun q => g14 (Or.inr q)
  obtain ⟨w14, e14, h⟩ := ob h
  refine U_newI (N := v1.toNatClampNeg) d_Code_init_14 e14 k57 (fun q => g14 (Or.inl q)) rfl (Nat.le_trans gb (by decide)) (by decide) (Nat.le_trans (Nat.add_le_add_left gb _) (by decide)) ?_
  refine V_n (k1 := 2) (k2 := 304) (by decide) (Nat.add_le_add_left gb _) ?_
  obtain ⟨w16, e16, h⟩ := ob h
  refine V_putR (ci := 4) (k := 1) t_Code d_Code_init_16 e16 rfl (by decide) in_Code k96 ty_Code nm_Code (Or.inr ⟨rfl, rfl, rfl⟩) (Or.inr ⟨_, rfl⟩) ?_
  refine V_aload_n (i := 0) d_Code_init_19 rfl 0 rfl ?_
  refine V_bipush (v := 16) d_Code_init_20 (by decide) ?_
  obtain ⟨w22, e22, h⟩ := ob h
  refine U_newI (N := 16) d_Code_init_22 e22 k57 (by decide) (by decide) (by decide) (by decide) (by decide) ?_
  obtain ⟨w24, e24, h⟩ := ob h
  refine V_putR (ci := 4) (k := 2) t_Code d_Code_init_24 e24 rfl (by decide) in_Code k98 ty_Code nm_Code (Or.inr ⟨rfl, rfl, rfl⟩) (Or.inr ⟨_, rfl⟩) ?_
  obtain rfl := Option.some.inj h
  exact V_vret rfl (by decide) (by decide) d_Code_init_27
def f_Code_init (F : Nat) (v0 : Nat) (v1 : Int32) (w : zW) : Option (Unit × zW) := b_Code_init_0 F v0 v1 w
theorem c_Code_init (G : zG) (F : Nat) (v0 : Nat) (v1 : Int32) (w : zW) (r : (Unit × zW)) (h : f_Code_init F v0 v1 w = some r) : zCT G m_Code_init [.ref (z0 G + v0), .int v1] w (oV r.1) r.2 := zCT.ofV (by decide +kernel) (Or.inl ⟨kc_Code_init, rfl⟩) (Nat.le_of_ble_eq_true rfl) (b_Code_init_0_ok G F v0 v1 w r h)

/-! ZipArray$Unpacker.<init>(LZipArray$Row;)V -/
def m_Unpacker_init : zM := (⟨R_Unpacker, "<init>", "(LZipArray$Row;)V"⟩, prog_8_method_1_code, 2, none, [], { frames := 2, cells := 13, slots := 1289, locals := 41 })
theorem k5 : Cond.initialized R_Code ∈ zTb := tb_at 5 (by decide +kernel) rfl
theorem k85 : Cond.methodLink R_Unpacker 3 Lib.objectInit ∈ zTb := tb_at 85 (by decide +kernel) rfl
theorem k86 : Cond.classLink R_Unpacker 18 R_Code ∈ zTb := tb_at 86 (by decide +kernel) rfl
theorem k87 : Cond.instantiable R_Code 3 ∈ zTb := tb_at 87 (by decide +kernel) rfl
theorem k88 : Cond.fieldLink R_Unpacker 20 "ZipArray$Unpacker" "LENGTH_ORDER" "[I" ∈ zTb := tb_at 88 (by decide +kernel) rfl
theorem k90 : Cond.methodLink R_Unpacker 24 (mY m_Code_init) ∈ zTb := tb_at 90 (by decide +kernel) rfl
theorem k91 : Cond.instanceMethod (mY m_Code_init) ∈ zTb := tb_at 91 (by decide +kernel) rfl
theorem k106 : Cond.fieldLink R_Unpacker 9 (T_Unpacker 0).1 (T_Unpacker 0).2.1 (T_Unpacker 0).2.2.1 ∈ zTb := tb_at 106 (by decide +kernel) rfl
theorem k107 : Cond.fieldLink R_Unpacker 27 (T_Unpacker 1).1 (T_Unpacker 1).2.1 (T_Unpacker 1).2.2.1 ∈ zTb := tb_at 107 (by decide +kernel) rfl
theorem k108 : Cond.fieldLink R_Unpacker 31 (T_Unpacker 2).1 (T_Unpacker 2).2.1 (T_Unpacker 2).2.2.1 ∈ zTb := tb_at 108 (by decide +kernel) rfl
theorem k109 : Cond.fieldLink R_Unpacker 34 (T_Unpacker 3).1 (T_Unpacker 3).2.1 (T_Unpacker 3).2.2.1 ∈ zTb := tb_at 109 (by decide +kernel) rfl
theorem k110 : Cond.fieldLink R_Unpacker 37 (T_Unpacker 4).1 (T_Unpacker 4).2.1 (T_Unpacker 4).2.2.1 ∈ zTb := tb_at 110 (by decide +kernel) rfl
theorem k111 : Cond.fieldLink R_Unpacker 15 (T_Unpacker 5).1 (T_Unpacker 5).2.1 (T_Unpacker 5).2.2.1 ∈ zTb := tb_at 111 (by decide +kernel) rfl
theorem kc_Unpacker_init : Cond.code (mY m_Unpacker_init) (mC m_Unpacker_init) (mL m_Unpacker_init) (mT m_Unpacker_init) ∈ zTb := tb_at 84 (by decide +kernel) rfl
theorem y_Unpacker_init : (mY m_Unpacker_init).cls ≠ "java/lang/invoke/MethodHandle" ∧ (mY m_Unpacker_init).cls ≠ "java/lang/invoke/VarHandle" ∧ (parseMethodDescriptor (mY m_Unpacker_init).desc).map (fun d => d.parameters.length) = some 1 := by decide +kernel
theorem d_Unpacker_init_0 : decode (mC m_Unpacker_init) 0 = .ok (.aload_n 0, 1) := by decide +kernel
theorem d_Unpacker_init_1 : decode (mC m_Unpacker_init) 1 = .ok (.invokespecial 3, 3) := by decide +kernel
theorem d_Unpacker_init_4 : decode (mC m_Unpacker_init) 4 = .ok (.aload_n 0, 1) := by decide +kernel
theorem d_Unpacker_init_5 : decode (mC m_Unpacker_init) 5 = .ok (.aload_n 1, 1) := by decide +kernel
theorem d_Unpacker_init_6 : decode (mC m_Unpacker_init) 6 = .ok (.putfield 9, 3) := by decide +kernel
theorem d_Unpacker_init_9 : decode (mC m_Unpacker_init) 9 = .ok (.aload_n 0, 1) := by decide +kernel
theorem d_Unpacker_init_10 : decode (mC m_Unpacker_init) 10 = .ok (.aload_n 1, 1) := by decide +kernel
theorem d_Unpacker_init_11 : decode (mC m_Unpacker_init) 11 = .ok (.putfield 15, 3) := by decide +kernel
theorem d_Unpacker_init_14 : decode (mC m_Unpacker_init) 14 = .ok (.aload_n 0, 1) := by decide +kernel
theorem d_Unpacker_init_15 : decode (mC m_Unpacker_init) 15 = .ok (.new 18, 3) := by decide +kernel
theorem d_Unpacker_init_18 : decode (mC m_Unpacker_init) 18 = .ok (.dup, 1) := by decide +kernel
theorem d_Unpacker_init_19 : decode (mC m_Unpacker_init) 19 = .ok (.getstatic 20, 3) := by decide +kernel
theorem d_Unpacker_init_22 : decode (mC m_Unpacker_init) 22 = .ok (.arraylength, 1) := by decide +kernel
theorem d_Unpacker_init_23 : decode (mC m_Unpacker_init) 23 = .ok (.invokespecial 24, 3) := by decide +kernel
theorem d_Unpacker_init_26 : decode (mC m_Unpacker_init) 26 = .ok (.putfield 27, 3) := by decide +kernel
theorem d_Unpacker_init_29 : decode (mC m_Unpacker_init) 29 = .ok (.aload_n 0, 1) := by decide +kernel
theorem d_Unpacker_init_30 : decode (mC m_Unpacker_init) 30 = .ok (.new 18, 3) := by decide +kernel
theorem d_Unpacker_init_33 : decode (mC m_Unpacker_init) 33 = .ok (.dup, 1) := by decide +kernel
theorem d_Unpacker_init_34 : decode (mC m_Unpacker_init) 34 = .ok (.sipush 288, 3) := by decide +kernel
theorem d_Unpacker_init_37 : decode (mC m_Unpacker_init) 37 = .ok (.invokespecial 24, 3) := by decide +kernel
theorem d_Unpacker_init_40 : decode (mC m_Unpacker_init) 40 = .ok (.putfield 31, 3) := by decide +kernel
theorem d_Unpacker_init_43 : decode (mC m_Unpacker_init) 43 = .ok (.aload_n 0, 1) := by decide +kernel
theorem d_Unpacker_init_44 : decode (mC m_Unpacker_init) 44 = .ok (.new 18, 3) := by decide +kernel
theorem d_Unpacker_init_47 : decode (mC m_Unpacker_init) 47 = .ok (.dup, 1) := by decide +kernel
theorem d_Unpacker_init_48 : decode (mC m_Unpacker_init) 48 = .ok (.bipush 32, 2) := by decide +kernel
theorem d_Unpacker_init_50 : decode (mC m_Unpacker_init) 50 = .ok (.invokespecial 24, 3) := by decide +kernel
theorem d_Unpacker_init_53 : decode (mC m_Unpacker_init) 53 = .ok (.putfield 34, 3) := by decide +kernel
theorem d_Unpacker_init_56 : decode (mC m_Unpacker_init) 56 = .ok (.aload_n 0, 1) := by decide +kernel
theorem d_Unpacker_init_57 : decode (mC m_Unpacker_init) 57 = .ok (.sipush 320, 3) := by decide +kernel
theorem d_Unpacker_init_60 : decode (mC m_Unpacker_init) 60 = .ok (.newarray .int, 2) := by decide +kernel
theorem d_Unpacker_init_62 : decode (mC m_Unpacker_init) 62 = .ok (.putfield 37, 3) := by decide +kernel
theorem d_Unpacker_init_65 : decode (mC m_Unpacker_init) 65 = .ok (.return_, 1) := by decide +kernel
def b_Unpacker_init_0 (F : Nat) (v0 : Nat) (v1 : Nat) (w : zW) : Option (Unit × zW) := (putR w v0 5 0 v1).bind fun w6 => (putR w6 v0 5 5 v1).bind fun w11 => (znew w11 (.inr (.inr (.inr (4, fs_Code))))).bind fun w15 => (f_Code_init F w11.length (19 : Int32) w15).bind fun r23 => (putR r23.2 v0 5 1 w11.length).bind fun w26 => (znew w26 (.inr (.inr (.inr (4, fs_Code))))).bind fun w30 => (f_Code_init F w26.length (288 : Int32) w30).bind fun r37 => (putR r37.2 v0 5 2 w26.length).bind fun w40 => (znew w40 (.inr (.inr (.inr (4, fs_Code))))).bind fun w44 => (f_Code_init F w40.length (32 : Int32) w44).bind fun r50 => (putR r50.2 v0 5 3 w40.length).bind fun w53 => (znew w53 (.inl (List.replicate 320 0))).bind fun w60 => (putR w60 v0 5 4 w53.length).bind fun w62 => some ((), w62)
set_option maxRecDepth 100000 in
set_option maxHeartbeats 4000000 in
theorem b_Unpacker_init_0_ok (G : zG) (F : Nat) (v0 : Nat) (v1 : Nat) (w : zW) (r : (Unit × zW)) (h : b_Unpacker_init_0 F v0 v1 w = some r) : zV G m_Unpacker_init 0 [(0, .ref (z0 G + v0)), (1, .ref (z0 G + v1))] [] w 0 0 (oV r.1) r.2 := by
  unfold b_Unpacker_init_0 at h
  refine V_aload_n (i := 0) d_Unpacker_init_0 rfl 0 rfl ?_
  refine V_objInit d_Unpacker_init_1 k85 kobj1 kobj2 (by decide) (Nat.le_of_ble_eq_true rfl) ?_
  refine V_aload_n (i := 0) d_Unpacker_init_4 rfl 0 rfl ?_
  refine V_aload_n (i := 1) d_Unpacker_init_5 rfl 1 rfl ?_
  obtain ⟨w6, e6, h⟩ := ob h
  refine V_putR (ci := 5) (k := 0) t_Unpacker d_Unpacker_init_6 e6 rfl (by decide) in_Unpacker k106 ty_Unpacker nm_Unpacker (Or.inr ⟨rfl, rfl, rfl⟩) (Or.inl ⟨_, rfl⟩) ?_
  refine V_aload_n (i := 0) d_Unpacker_init_9 rfl 0 rfl ?_
  refine V_aload_n (i := 1) d_Unpacker_init_10 rfl 1 rfl ?_
  obtain ⟨w11, e11, h⟩ := ob h
  refine V_putR (ci := 5) (k := 5) t_Unpacker d_Unpacker_init_11 e11 rfl (by decide) in_Unpacker k111 ty_Unpacker nm_Unpacker (Or.inl rfl) (Or.inl ⟨_, rfl⟩) ?_
  refine V_aload_n (i := 0) d_Unpacker_init_14 rfl 0 rfl ?_
  obtain ⟨w15, ew15, h⟩ := ob h
  refine U_new (ci := 4) (fs := fs_Code) t_Code d_Unpacker_init_15 ew15 rfl in_Code k86 k87 k5 ty_Code df_Code (by decide) (by decide) ?_
  refine V_dup rfl d_Unpacker_init_18 ?_
  refine V_ord d_Unpacker_init_19 k88 ?_
  refine V_ordlen d_Unpacker_init_22 ?_
  obtain ⟨r23, e23, h⟩ := ob h
  refine V_call (v := none) (st := [.ref (z0 G + w11.length), .ref (z0 G + v0)]) (inv_I (N := m_Code_init) (As := [.int (19 : Int32)]) d_Unpacker_init_23 rfl rfl (Or.inl k90) k91 kc_Code_init y_Code_init) ⟨Or.inl kc_Code_init, k5, by decide, by decide⟩ (Nat.le_of_ble_eq_true rfl) (by decide) (by decide) (c_Code_init G F w11.length (19 : Int32) w15 r23 e23) ?_
  obtain ⟨w26, e26, h⟩ := ob h
  refine V_putR (ci := 5) (k := 1) t_Unpacker d_Unpacker_init_26 e26 rfl (by decide) in_Unpacker k107 ty_Unpacker nm_Unpacker (Or.inr ⟨rfl, rfl, rfl⟩) (Or.inl ⟨_, rfl⟩) ?_
  refine V_aload_n (i := 0) d_Unpacker_init_29 rfl 0 rfl ?_
  obtain ⟨w30, ew30, h⟩ := ob h
  refine U_new (ci := 4) (fs := fs_Code) t_Code d_Unpacker_init_30 ew30 rfl in_Code k86 k87 k5 ty_Code df_Code (by decide) (by decide) ?_
  refine V_dup rfl d_Unpacker_init_33 ?_
  refine V_sipush (v := 288) d_Unpacker_init_34 (by decide) ?_
  obtain ⟨r37, e37, h⟩ := ob h
  refine V_call (v := none) (st := [.ref (z0 G + w26.length), .ref (z0 G + v0)]) (inv_I (N := m_Code_init) (As := [.int (288 : Int32)]) d_Unpacker_init_37 rfl rfl (Or.inl k90) k91 kc_Code_init y_Code_init) ⟨Or.inl kc_Code_init, k5, by decide, by decide⟩ (Nat.le_of_ble_eq_true rfl) (by decide) (by decide) (c_Code_init G F w26.length (288 : Int32) w30 r37 e37) ?_
  obtain ⟨w40, e40, h⟩ := ob h
  refine V_putR (ci := 5) (k := 2) t_Unpacker d_Unpacker_init_40 e40 rfl (by decide) in_Unpacker k108 ty_Unpacker nm_Unpacker (Or.inr ⟨rfl, rfl, rfl⟩) (Or.inl ⟨_, rfl⟩) ?_
  refine V_aload_n (i := 0) d_Unpacker_init_43 rfl 0 rfl ?_
  obtain ⟨w44, ew44, h⟩ := ob h
  refine U_new (ci := 4) (fs := fs_Code) t_Code d_Unpacker_init_44 ew44 rfl in_Code k86 k87 k5 ty_Code df_Code (by decide) (by decide) ?_
  refine V_dup rfl d_Unpacker_init_47 ?_
  refine V_bipush (v := 32) d_Unpacker_init_48 (by decide) ?_
  obtain ⟨r50, e50, h⟩ := ob h
  refine V_call (v := none) (st := [.ref (z0 G + w40.length), .ref (z0 G + v0)]) (inv_I (N := m_Code_init) (As := [.int (32 : Int32)]) d_Unpacker_init_50 rfl rfl (Or.inl k90) k91 kc_Code_init y_Code_init) ⟨Or.inl kc_Code_init, k5, by decide, by decide⟩ (Nat.le_of_ble_eq_true rfl) (by decide) (by decide) (c_Code_init G F w40.length (32 : Int32) w44 r50 e50) ?_
  obtain ⟨w53, e53, h⟩ := ob h
  refine V_putR (ci := 5) (k := 3) t_Unpacker d_Unpacker_init_53 e53 rfl (by decide) in_Unpacker k109 ty_Unpacker nm_Unpacker (Or.inr ⟨rfl, rfl, rfl⟩) (Or.inl ⟨_, rfl⟩) ?_
  refine V_aload_n (i := 0) d_Unpacker_init_56 rfl 0 rfl ?_
  refine V_sipush (v := 320) d_Unpacker_init_57 (by decide) ?_
  obtain ⟨w60, e60, h⟩ := ob h
  refine U_newI (N := 320) d_Unpacker_init_60 e60 k57 (by decide) (by decide) (by decide) (by decide) (by decide) ?_
  obtain ⟨w62, e62, h⟩ := ob h
  refine V_putR (ci := 5) (k := 4) t_Unpacker d_Unpacker_init_62 e62 rfl (by decide) in_Unpacker k110 ty_Unpacker nm_Unpacker (Or.inr ⟨rfl, rfl, rfl⟩) (Or.inr ⟨_, rfl⟩) ?_
  obtain rfl := Option.some.inj h
  exact V_vret rfl (by decide) (by decide) d_Unpacker_init_65
def f_Unpacker_init (F : Nat) (v0 : Nat) (v1 : Nat) (w : zW) : Option (Unit × zW) := b_Unpacker_init_0 F v0 v1 w
theorem c_Unpacker_init (G : zG) (F : Nat) (v0 : Nat) (v1 : Nat) (w : zW) (r : (Unit × zW)) (h : f_Unpacker_init F v0 v1 w = some r) : zCT G m_Unpacker_init [.ref (z0 G + v0), .ref (z0 G + v1)] w (oV r.1) r.2 := zCT.ofV (by decide +kernel) (Or.inl ⟨kc_Unpacker_init, rfl⟩) (Nat.le_of_ble_eq_true rfl) (b_Unpacker_init_0_ok G F v0 v1 w r h)

/-! ZipArray$Extras.<init>(LZipArray$Row;)V -/
def m_Extras_init : zM := (⟨R_Extras, "<init>", "(LZipArray$Row;)V"⟩, prog_5_method_1_code, 2, none, [], { frames := 1, cells := 0, slots := 0, locals := 20 })
theorem k142 : Cond.methodLink R_Extras 3 Lib.objectInit ∈ zTb := tb_at 142 (by decide +kernel) rfl
theorem k143 : Cond.fieldLink R_Extras 9 (T_Extras 0).1 (T_Extras 0).2.1 (T_Extras 0).2.2.1 ∈ zTb := tb_at 143 (by decide +kernel) rfl
theorem kc_Extras_init : Cond.code (mY m_Extras_init) (mC m_Extras_init) (mL m_Extras_init) (mT m_Extras_init) ∈ zTb := tb_at 141 (by decide +kernel) rfl
theorem y_Extras_init : (mY m_Extras_init).cls ≠ "java/lang/invoke/MethodHandle" ∧ (mY m_Extras_init).cls ≠ "java/lang/invoke/VarHandle" ∧ (parseMethodDescriptor (mY m_Extras_init).desc).map (fun d => d.parameters.length) = some 1 := by decide +kernel
theorem d_Extras_init_0 : decode (mC m_Extras_init) 0 = .ok (.aload_n 0, 1) := by decide +kernel
theorem d_Extras_init_1 : decode (mC m_Extras_init) 1 = .ok (.invokespecial 3, 3) := by decide +kernel
theorem d_Extras_init_4 : decode (mC m_Extras_init) 4 = .ok (.aload_n 0, 1) := by decide +kernel
theorem d_Extras_init_5 : decode (mC m_Extras_init) 5 = .ok (.aload_n 1, 1) := by decide +kernel
theorem d_Extras_init_6 : decode (mC m_Extras_init) 6 = .ok (.putfield 9, 3) := by decide +kernel
theorem d_Extras_init_9 : decode (mC m_Extras_init) 9 = .ok (.return_, 1) := by decide +kernel
def b_Extras_init_0 (F : Nat) (v0 : Nat) (v1 : Nat) (w : zW) : Option (Unit × zW) := (putR w v0 2 0 v1).bind fun w6 => some ((), w6)
set_option maxRecDepth 100000 in
set_option maxHeartbeats 4000000 in
theorem b_Extras_init_0_ok (G : zG) (F : Nat) (v0 : Nat) (v1 : Nat) (w : zW) (r : (Unit × zW)) (h : b_Extras_init_0 F v0 v1 w = some r) : zV G m_Extras_init 0 [(0, .ref (z0 G + v0)), (1, .ref (z0 G + v1))] [] w 0 0 (oV r.1) r.2 := by
  unfold b_Extras_init_0 at h
  refine V_aload_n (i := 0) d_Extras_init_0 rfl 0 rfl ?_
  refine V_objInit d_Extras_init_1 k142 kobj1 kobj2 (by decide) (Nat.le_of_ble_eq_true rfl) ?_
  refine V_aload_n (i := 0) d_Extras_init_4 rfl 0 rfl ?_
  refine V_aload_n (i := 1) d_Extras_init_5 rfl 1 rfl ?_
  obtain ⟨w6, e6, h⟩ := ob h
  refine V_putR (ci := 2) (k := 0) t_Extras d_Extras_init_6 e6 rfl (by decide) in_Extras k143 ty_Extras nm_Extras (Or.inr ⟨rfl, rfl, rfl⟩) (Or.inl ⟨_, rfl⟩) ?_
  obtain rfl := Option.some.inj h
  exact V_vret rfl (by decide) (by decide) d_Extras_init_9
def f_Extras_init (F : Nat) (v0 : Nat) (v1 : Nat) (w : zW) : Option (Unit × zW) := b_Extras_init_0 F v0 v1 w
theorem c_Extras_init (G : zG) (F : Nat) (v0 : Nat) (v1 : Nat) (w : zW) (r : (Unit × zW)) (h : f_Extras_init F v0 v1 w = some r) : zCT G m_Extras_init [.ref (z0 G + v0), .ref (z0 G + v1)] w (oV r.1) r.2 := zCT.ofV (by decide +kernel) (Or.inl ⟨kc_Extras_init, rfl⟩) (Nat.le_of_ble_eq_true rfl) (b_Extras_init_0_ok G F v0 v1 w r h)

/-! ZipArray$Entry.<init>()V -/
def m_Entry_init : zM := (⟨R_Entry, "<init>", "()V"⟩, prog_4_method_1_code, 1, none, [], { frames := 1, cells := 0, slots := 0, locals := 20 })
theorem k167 : Cond.methodLink R_Entry 1 Lib.objectInit ∈ zTb := tb_at 167 (by decide +kernel) rfl
theorem kc_Entry_init : Cond.code (mY m_Entry_init) (mC m_Entry_init) (mL m_Entry_init) (mT m_Entry_init) ∈ zTb := tb_at 166 (by decide +kernel) rfl
theorem y_Entry_init : (mY m_Entry_init).cls ≠ "java/lang/invoke/MethodHandle" ∧ (mY m_Entry_init).cls ≠ "java/lang/invoke/VarHandle" ∧ (parseMethodDescriptor (mY m_Entry_init).desc).map (fun d => d.parameters.length) = some 0 := by decide +kernel
theorem d_Entry_init_0 : decode (mC m_Entry_init) 0 = .ok (.aload_n 0, 1) := by decide +kernel
theorem d_Entry_init_1 : decode (mC m_Entry_init) 1 = .ok (.invokespecial 1, 3) := by decide +kernel
theorem d_Entry_init_4 : decode (mC m_Entry_init) 4 = .ok (.return_, 1) := by decide +kernel
def b_Entry_init_0 (F : Nat) (v0 : Nat) (w : zW) : Option (Unit × zW) := some ((), w)
set_option maxRecDepth 100000 in
set_option maxHeartbeats 4000000 in
theorem b_Entry_init_0_ok (G : zG) (F : Nat) (v0 : Nat) (w : zW) (r : (Unit × zW)) (h : b_Entry_init_0 F v0 w = some r) : zV G m_Entry_init 0 [(0, .ref (z0 G + v0))] [] w 0 0 (oV r.1) r.2 := by
  unfold b_Entry_init_0 at h
  refine V_aload_n (i := 0) d_Entry_init_0 rfl 0 rfl ?_
  refine V_objInit d_Entry_init_1 k167 kobj1 kobj2 (by decide) (Nat.le_of_ble_eq_true rfl) ?_
  obtain rfl := Option.some.inj h
  exact V_vret rfl (by decide) (by decide) d_Entry_init_4
def f_Entry_init (F : Nat) (v0 : Nat) (w : zW) : Option (Unit × zW) := b_Entry_init_0 F v0 w
theorem c_Entry_init (G : zG) (F : Nat) (v0 : Nat) (w : zW) (r : (Unit × zW)) (h : f_Entry_init F v0 w = some r) : zCT G m_Entry_init [.ref (z0 G + v0)] w (oV r.1) r.2 := zCT.ofV (by decide +kernel) (Or.inl ⟨kc_Entry_init, rfl⟩) (Nat.le_of_ble_eq_true rfl) (b_Entry_init_0_ok G F v0 w r h)

/-! ZipArray$Archive.<init>(LZipArray$Row;)V -/
def m_Archive_init : zM := (⟨R_Archive, "<init>", "(LZipArray$Row;)V"⟩, prog_2_method_1_code, 3, none, [], { frames := 2, cells := 10, slots := 85, locals := 41 })
theorem k7 : Cond.initialized R_Extras ∈ zTb := tb_at 7 (by decide +kernel) rfl
theorem k8 : Cond.initialized R_Entry ∈ zTb := tb_at 8 (by decide +kernel) rfl
theorem k136 : Cond.methodLink R_Archive 3 Lib.objectInit ∈ zTb := tb_at 136 (by decide +kernel) rfl
theorem k137 : Cond.classLink R_Archive 15 R_Extras ∈ zTb := tb_at 137 (by decide +kernel) rfl
theorem k138 : Cond.instantiable R_Extras 5 ∈ zTb := tb_at 138 (by decide +kernel) rfl
theorem k139 : Cond.methodLink R_Archive 17 (mY m_Extras_init) ∈ zTb := tb_at 139 (by decide +kernel) rfl
theorem k140 : Cond.instanceMethod (mY m_Extras_init) ∈ zTb := tb_at 140 (by decide +kernel) rfl
theorem k161 : Cond.classLink R_Archive 24 "ZipArray$Entry" ∈ zTb := tb_at 161 (by decide +kernel) rfl
theorem k162 : Cond.arrayOver (.object "ZipArray$Entry") ∈ zTb := tb_at 162 (by decide +kernel) rfl
theorem k163 : Cond.instantiable R_Entry 9 ∈ zTb := tb_at 163 (by decide +kernel) rfl
theorem k164 : Cond.methodLinkNest R_Archive 30 (mY m_Entry_init) "ZipArray" ∈ zTb := tb_at 164 (by decide +kernel) rfl
theorem k165 : Cond.instanceMethod (mY m_Entry_init) ∈ zTb := tb_at 165 (by decide +kernel) rfl
theorem k212 : Cond.fieldLink R_Archive 9 (T_Archive 0).1 (T_Archive 0).2.1 (T_Archive 0).2.2.1 ∈ zTb := tb_at 212 (by decide +kernel) rfl
theorem k213 : Cond.fieldLink R_Archive 20 (T_Archive 1).1 (T_Archive 1).2.1 (T_Archive 1).2.2.1 ∈ zTb := tb_at 213 (by decide +kernel) rfl
theorem k214 : Cond.fieldLink R_Archive 26 (T_Archive 2).1 (T_Archive 2).2.1 (T_Archive 2).2.2.1 ∈ zTb := tb_at 214 (by decide +kernel) rfl
theorem kc_Archive_init : Cond.code (mY m_Archive_init) (mC m_Archive_init) (mL m_Archive_init) (mT m_Archive_init) ∈ zTb := tb_at 135 (by decide +kernel) rfl
theorem y_Archive_init : (mY m_Archive_init).cls ≠ "java/lang/invoke/MethodHandle" ∧ (mY m_Archive_init).cls ≠ "java/lang/invoke/VarHandle" ∧ (parseMethodDescriptor (mY m_Archive_init).desc).map (fun d => d.parameters.length) = some 1 := by decide +kernel
theorem d_Archive_init_0 : decode (mC m_Archive_init) 0 = .ok (.aload_n 0, 1) := by decide +kernel
theorem d_Archive_init_1 : decode (mC m_Archive_init) 1 = .ok (.invokespecial 3, 3) := by decide +kernel
theorem d_Archive_init_4 : decode (mC m_Archive_init) 4 = .ok (.aload_n 0, 1) := by decide +kernel
theorem d_Archive_init_5 : decode (mC m_Archive_init) 5 = .ok (.aload_n 1, 1) := by decide +kernel
theorem d_Archive_init_6 : decode (mC m_Archive_init) 6 = .ok (.putfield 9, 3) := by decide +kernel
theorem d_Archive_init_9 : decode (mC m_Archive_init) 9 = .ok (.aload_n 0, 1) := by decide +kernel
theorem d_Archive_init_10 : decode (mC m_Archive_init) 10 = .ok (.new 15, 3) := by decide +kernel
theorem d_Archive_init_13 : decode (mC m_Archive_init) 13 = .ok (.dup, 1) := by decide +kernel
theorem d_Archive_init_14 : decode (mC m_Archive_init) 14 = .ok (.aload_n 1, 1) := by decide +kernel
theorem d_Archive_init_15 : decode (mC m_Archive_init) 15 = .ok (.invokespecial 17, 3) := by decide +kernel
theorem d_Archive_init_18 : decode (mC m_Archive_init) 18 = .ok (.putfield 20, 3) := by decide +kernel
theorem d_Archive_init_21 : decode (mC m_Archive_init) 21 = .ok (.aload_n 0, 1) := by decide +kernel
theorem d_Archive_init_22 : decode (mC m_Archive_init) 22 = .ok (.bipush 8, 2) := by decide +kernel
theorem d_Archive_init_24 : decode (mC m_Archive_init) 24 = .ok (.anewarray 24, 3) := by decide +kernel
theorem d_Archive_init_27 : decode (mC m_Archive_init) 27 = .ok (.putfield 26, 3) := by decide +kernel
theorem d_Archive_init_30 : decode (mC m_Archive_init) 30 = .ok (.iconst 0, 1) := by decide +kernel
theorem d_Archive_init_31 : decode (mC m_Archive_init) 31 = .ok (.istore_n 2, 1) := by decide +kernel
theorem d_Archive_init_32 : decode (mC m_Archive_init) 32 = .ok (.iload_n 2, 1) := by decide +kernel
theorem d_Archive_init_33 : decode (mC m_Archive_init) 33 = .ok (.bipush 8, 2) := by decide +kernel
theorem d_Archive_init_35 : decode (mC m_Archive_init) 35 = .ok (.if_icmp .ge 22, 3) := by decide +kernel
theorem d_Archive_init_38 : decode (mC m_Archive_init) 38 = .ok (.aload_n 0, 1) := by decide +kernel
theorem d_Archive_init_39 : decode (mC m_Archive_init) 39 = .ok (.getfield 26, 3) := by decide +kernel
theorem d_Archive_init_42 : decode (mC m_Archive_init) 42 = .ok (.iload_n 2, 1) := by decide +kernel
theorem d_Archive_init_43 : decode (mC m_Archive_init) 43 = .ok (.new 24, 3) := by decide +kernel
theorem d_Archive_init_46 : decode (mC m_Archive_init) 46 = .ok (.dup, 1) := by decide +kernel
theorem d_Archive_init_47 : decode (mC m_Archive_init) 47 = .ok (.invokespecial 30, 3) := by decide +kernel
theorem d_Archive_init_50 : decode (mC m_Archive_init) 50 = .ok (.aastore, 1) := by decide +kernel
theorem d_Archive_init_51 : decode (mC m_Archive_init) 51 = .ok (.iinc 2 1, 3) := by decide +kernel
theorem d_Archive_init_54 : decode (mC m_Archive_init) 54 = .ok (.goto (-22), 3) := by decide +kernel
theorem d_Archive_init_57 : decode (mC m_Archive_init) 57 = .ok (.return_, 1) := by decide +kernel
def b_Archive_init_0 (F : Nat) (v0 : Nat) (v1 : Nat) (w : zW) : Option (Unit × zW) := (putR w v0 6 0 v1).bind fun w6 => (znew w6 (.inr (.inr (.inr (2, fs_Extras))))).bind fun w10_1 => (f_Extras_init F w6.length v1 w10_1).bind fun r15 => (putR r15.2 v0 6 1 w6.length).bind fun w18 => (znew w18 (.inr (.inr (.inl (List.replicate 8 none))))).bind fun w24 => (putR w24 v0 6 2 w18.length).bind fun w27 => (getR w27 v0 6 2).bind fun x39 => (znew w27 (.inr (.inr (.inr (1, fs_Entry))))).bind fun w43_2 => (f_Entry_init F w27.length w43_2).bind fun r47 => (rset r47.2 x39 (0 : Int32) w27.length 1).bind fun w50 => (getR w50 v0 6 2).bind fun x39 => (znew w50 (.inr (.inr (.inr (1, fs_Entry))))).bind fun w43_3 => (f_Entry_init F w50.length w43_3).bind fun r47 => (rset r47.2 x39 (1 : Int32) w50.length 1).bind fun w50 => (getR w50 v0 6 2).bind fun x39 => (znew w50 (.inr (.inr (.inr (1, fs_Entry))))).bind fun w43_4 => (f_Entry_init F w50.length w43_4).bind fun r47 => (rset r47.2 x39 (2 : Int32) w50.length 1).bind fun w50 => (getR w50 v0 6 2).bind fun x39 => (znew w50 (.inr (.inr (.inr (1, fs_Entry))))).bind fun w43_5 => (f_Entry_init F w50.length w43_5).bind fun r47 => (rset r47.2 x39 (3 : Int32) w50.length 1).bind fun w50 => (getR w50 v0 6 2).bind fun x39 => (znew w50 (.inr (.inr (.inr (1, fs_Entry))))).bind fun w43_6 => (f_Entry_init F w50.length w43_6).bind fun r47 => (rset r47.2 x39 (4 : Int32) w50.length 1).bind fun w50 => (getR w50 v0 6 2).bind fun x39 => (znew w50 (.inr (.inr (.inr (1, fs_Entry))))).bind fun w43_7 => (f_Entry_init F w50.length w43_7).bind fun r47 => (rset r47.2 x39 (5 : Int32) w50.length 1).bind fun w50 => (getR w50 v0 6 2).bind fun x39 => (znew w50 (.inr (.inr (.inr (1, fs_Entry))))).bind fun w43_8 => (f_Entry_init F w50.length w43_8).bind fun r47 => (rset r47.2 x39 (6 : Int32) w50.length 1).bind fun w50 => (getR w50 v0 6 2).bind fun x39 => (znew w50 (.inr (.inr (.inr (1, fs_Entry))))).bind fun w43_9 => (f_Entry_init F w50.length w43_9).bind fun r47 => (rset r47.2 x39 (7 : Int32) w50.length 1).bind fun w50 => some ((), w50)
set_option maxRecDepth 100000 in
set_option maxHeartbeats 4000000 in
theorem b_Archive_init_0_ok (G : zG) (F : Nat) (v0 : Nat) (v1 : Nat) (w : zW) (r : (Unit × zW)) (h : b_Archive_init_0 F v0 v1 w = some r) : zV G m_Archive_init 0 [(0, .ref (z0 G + v0)), (1, .ref (z0 G + v1))] [] w 0 0 (oV r.1) r.2 := by
  unfold b_Archive_init_0 at h
  refine V_aload_n (i := 0) d_Archive_init_0 rfl 0 rfl ?_
  refine V_objInit d_Archive_init_1 k136 kobj1 kobj2 (by decide) (Nat.le_of_ble_eq_true rfl) ?_
  refine V_aload_n (i := 0) d_Archive_init_4 rfl 0 rfl ?_
  refine V_aload_n (i := 1) d_Archive_init_5 rfl 1 rfl ?_
  obtain ⟨w6, e6, h⟩ := ob h
  refine V_putR (ci := 6) (k := 0) t_Archive d_Archive_init_6 e6 rfl (by decide) in_Archive k212 ty_Archive nm_Archive (Or.inr ⟨rfl, rfl, rfl⟩) (Or.inl ⟨_, rfl⟩) ?_
  refine V_aload_n (i := 0) d_Archive_init_9 rfl 0 rfl ?_
  obtain ⟨w10_1, ew10_1, h⟩ := ob h
  refine U_new (ci := 2) (fs := fs_Extras) t_Extras d_Archive_init_10 ew10_1 rfl in_Extras k137 k138 k7 ty_Extras df_Extras (by decide) (by decide) ?_
  refine V_dup rfl d_Archive_init_13 ?_
  refine V_aload_n (i := 1) d_Archive_init_14 rfl 1 rfl ?_
  obtain ⟨r15, e15, h⟩ := ob h
  refine V_call (v := none) (st := [.ref (z0 G + w6.length), .ref (z0 G + v0)]) (inv_I (N := m_Extras_init) (As := [.ref (z0 G + v1)]) d_Archive_init_15 rfl rfl (Or.inl k139) k140 kc_Extras_init y_Extras_init) ⟨Or.inl kc_Extras_init, k7, by decide, by decide⟩ (Nat.le_of_ble_eq_true rfl) (by decide) (by decide) (c_Extras_init G F w6.length v1 w10_1 r15 e15) ?_
  obtain ⟨w18, e18, h⟩ := ob h
  refine V_putR (ci := 6) (k := 1) t_Archive d_Archive_init_18 e18 rfl (by decide) in_Archive k213 ty_Archive nm_Archive (Or.inr ⟨rfl, rfl, rfl⟩) (Or.inl ⟨_, rfl⟩) ?_
  refine V_aload_n (i := 0) d_Archive_init_21 rfl 0 rfl ?_
  refine V_bipush (v := 8) d_Archive_init_22 (by decide) ?_
  obtain ⟨w24, e24, h⟩ := ob h
  refine U_newE (N := 8) d_Archive_init_24 e24 k161 k162 (by decide) (by decide) (by decide) (by decide) (by decide) ?_
  obtain ⟨w27, e27, h⟩ := ob h
  refine V_putR (ci := 6) (k := 2) t_Archive d_Archive_init_27 e27 rfl (by decide) in_Archive k214 ty_Archive nm_Archive (Or.inr ⟨rfl, rfl, rfl⟩) (Or.inr ⟨_, rfl⟩) ?_
  refine V_iconst (v := 0) d_Archive_init_30 (by decide) ?_
  refine V_istore_n (i := 2) d_Archive_init_31 rfl (by decide) rfl ?_
  refine V_iload_n (i := 2) d_Archive_init_32 rfl 0 rfl ?_
  refine V_bipush (v := 8) d_Archive_init_33 (by decide) ?_
  refine V_icmp_ge (tgt := 57) d_Archive_init_35 (by decide) (fun q => absurd q (by decide)) (fun _ => ?_)
  refine V_aload_n (i := 0) d_Archive_init_38 rfl 1 rfl ?_
  obtain ⟨x39, e39, h⟩ := ob h
  refine V_getR (ci := 6) (k := 2) d_Archive_init_39 e39 rfl (by decide) in_Archive k214 ?_
  refine V_iload_n (i := 2) d_Archive_init_42 rfl 0 rfl ?_
  obtain ⟨w43_2, ew43_2, h⟩ := ob h
  refine U_new (ci := 1) (fs := fs_Entry) t_Entry d_Archive_init_43 ew43_2 rfl in_Entry k161 k163 k8 ty_Entry df_Entry (by decide) (by decide) ?_
  refine V_dup rfl d_Archive_init_46 ?_
  obtain ⟨r47, e47, h⟩ := ob h
  refine V_call (v := none) (st := [.ref (z0 G + w27.length), .int (0 : Int32), .ref (z0 G + x39)]) (inv_I (N := m_Entry_init) (As := []) d_Archive_init_47 rfl rfl (Or.inr ⟨_, k164⟩) k165 kc_Entry_init y_Entry_init) ⟨Or.inl kc_Entry_init, k8, by decide, by decide⟩ (Nat.le_of_ble_eq_true rfl) (by decide) (by decide) (c_Entry_init G F w27.length w43_2 r47 e47) ?_
  obtain ⟨w50, e50, h⟩ := ob h
  refine V_rset (ci := 1) d_Archive_init_50 e50 rfl ?_
  refine V_iinc (i := 2) (v := (1 : Int32)) d_Archive_init_51 0 rfl (by decide) (by decide) rfl ?_
  refine V_goto (tgt := 32) d_Archive_init_54 (by decide) ?_
  refine V_iload_n (i := 2) d_Archive_init_32 rfl 0 rfl ?_
  refine V_bipush (v := 8) d_Archive_init_33 (by decide) ?_
  refine V_icmp_ge (tgt := 57) d_Archive_init_35 (by decide) (fun q => absurd q (by decide)) (fun _ => ?_)
  refine V_aload_n (i := 0) d_Archive_init_38 rfl 1 rfl ?_
  obtain ⟨x39, e39, h⟩ := ob h
  refine V_getR (ci := 6) (k := 2) d_Archive_init_39 e39 rfl (by decide) in_Archive k214 ?_
  refine V_iload_n (i := 2) d_Archive_init_42 rfl 0 rfl ?_
  obtain ⟨w43_3, ew43_3, h⟩ := ob h
  refine U_new (ci := 1) (fs := fs_Entry) t_Entry d_Archive_init_43 ew43_3 rfl in_Entry k161 k163 k8 ty_Entry df_Entry (by decide) (by decide) ?_
  refine V_dup rfl d_Archive_init_46 ?_
  obtain ⟨r47, e47, h⟩ := ob h
  refine V_call (v := none) (st := [.ref (z0 G + w50.length), .int (1 : Int32), .ref (z0 G + x39)]) (inv_I (N := m_Entry_init) (As := []) d_Archive_init_47 rfl rfl (Or.inr ⟨_, k164⟩) k165 kc_Entry_init y_Entry_init) ⟨Or.inl kc_Entry_init, k8, by decide, by decide⟩ (Nat.le_of_ble_eq_true rfl) (by decide) (by decide) (c_Entry_init G F w50.length w43_3 r47 e47) ?_
  obtain ⟨w50, e50, h⟩ := ob h
  refine V_rset (ci := 1) d_Archive_init_50 e50 rfl ?_
  refine V_iinc (i := 2) (v := (2 : Int32)) d_Archive_init_51 0 rfl (by decide) (by decide) rfl ?_
  refine V_goto (tgt := 32) d_Archive_init_54 (by decide) ?_
  refine V_iload_n (i := 2) d_Archive_init_32 rfl 0 rfl ?_
  refine V_bipush (v := 8) d_Archive_init_33 (by decide) ?_
  refine V_icmp_ge (tgt := 57) d_Archive_init_35 (by decide) (fun q => absurd q (by decide)) (fun _ => ?_)
  refine V_aload_n (i := 0) d_Archive_init_38 rfl 1 rfl ?_
  obtain ⟨x39, e39, h⟩ := ob h
  refine V_getR (ci := 6) (k := 2) d_Archive_init_39 e39 rfl (by decide) in_Archive k214 ?_
  refine V_iload_n (i := 2) d_Archive_init_42 rfl 0 rfl ?_
  obtain ⟨w43_4, ew43_4, h⟩ := ob h
  refine U_new (ci := 1) (fs := fs_Entry) t_Entry d_Archive_init_43 ew43_4 rfl in_Entry k161 k163 k8 ty_Entry df_Entry (by decide) (by decide) ?_
  refine V_dup rfl d_Archive_init_46 ?_
  obtain ⟨r47, e47, h⟩ := ob h
  refine V_call (v := none) (st := [.ref (z0 G + w50.length), .int (2 : Int32), .ref (z0 G + x39)]) (inv_I (N := m_Entry_init) (As := []) d_Archive_init_47 rfl rfl (Or.inr ⟨_, k164⟩) k165 kc_Entry_init y_Entry_init) ⟨Or.inl kc_Entry_init, k8, by decide, by decide⟩ (Nat.le_of_ble_eq_true rfl) (by decide) (by decide) (c_Entry_init G F w50.length w43_4 r47 e47) ?_
  obtain ⟨w50, e50, h⟩ := ob h
  refine V_rset (ci := 1) d_Archive_init_50 e50 rfl ?_
  refine V_iinc (i := 2) (v := (3 : Int32)) d_Archive_init_51 0 rfl (by decide) (by decide) rfl ?_
  refine V_goto (tgt := 32) d_Archive_init_54 (by decide) ?_
  refine V_iload_n (i := 2) d_Archive_init_32 rfl 0 rfl ?_
  refine V_bipush (v := 8) d_Archive_init_33 (by decide) ?_
  refine V_icmp_ge (tgt := 57) d_Archive_init_35 (by decide) (fun q => absurd q (by decide)) (fun _ => ?_)
  refine V_aload_n (i := 0) d_Archive_init_38 rfl 1 rfl ?_
  obtain ⟨x39, e39, h⟩ := ob h
  refine V_getR (ci := 6) (k := 2) d_Archive_init_39 e39 rfl (by decide) in_Archive k214 ?_
  refine V_iload_n (i := 2) d_Archive_init_42 rfl 0 rfl ?_
  obtain ⟨w43_5, ew43_5, h⟩ := ob h
  refine U_new (ci := 1) (fs := fs_Entry) t_Entry d_Archive_init_43 ew43_5 rfl in_Entry k161 k163 k8 ty_Entry df_Entry (by decide) (by decide) ?_
  refine V_dup rfl d_Archive_init_46 ?_
  obtain ⟨r47, e47, h⟩ := ob h
  refine V_call (v := none) (st := [.ref (z0 G + w50.length), .int (3 : Int32), .ref (z0 G + x39)]) (inv_I (N := m_Entry_init) (As := []) d_Archive_init_47 rfl rfl (Or.inr ⟨_, k164⟩) k165 kc_Entry_init y_Entry_init) ⟨Or.inl kc_Entry_init, k8, by decide, by decide⟩ (Nat.le_of_ble_eq_true rfl) (by decide) (by decide) (c_Entry_init G F w50.length w43_5 r47 e47) ?_
  obtain ⟨w50, e50, h⟩ := ob h
  refine V_rset (ci := 1) d_Archive_init_50 e50 rfl ?_
  refine V_iinc (i := 2) (v := (4 : Int32)) d_Archive_init_51 0 rfl (by decide) (by decide) rfl ?_
  refine V_goto (tgt := 32) d_Archive_init_54 (by decide) ?_
  refine V_iload_n (i := 2) d_Archive_init_32 rfl 0 rfl ?_
  refine V_bipush (v := 8) d_Archive_init_33 (by decide) ?_
  refine V_icmp_ge (tgt := 57) d_Archive_init_35 (by decide) (fun q => absurd q (by decide)) (fun _ => ?_)
  refine V_aload_n (i := 0) d_Archive_init_38 rfl 1 rfl ?_
  obtain ⟨x39, e39, h⟩ := ob h
  refine V_getR (ci := 6) (k := 2) d_Archive_init_39 e39 rfl (by decide) in_Archive k214 ?_
  refine V_iload_n (i := 2) d_Archive_init_42 rfl 0 rfl ?_
  obtain ⟨w43_6, ew43_6, h⟩ := ob h
  refine U_new (ci := 1) (fs := fs_Entry) t_Entry d_Archive_init_43 ew43_6 rfl in_Entry k161 k163 k8 ty_Entry df_Entry (by decide) (by decide) ?_
  refine V_dup rfl d_Archive_init_46 ?_
  obtain ⟨r47, e47, h⟩ := ob h
  refine V_call (v := none) (st := [.ref (z0 G + w50.length), .int (4 : Int32), .ref (z0 G + x39)]) (inv_I (N := m_Entry_init) (As := []) d_Archive_init_47 rfl rfl (Or.inr ⟨_, k164⟩) k165 kc_Entry_init y_Entry_init) ⟨Or.inl kc_Entry_init, k8, by decide, by decide⟩ (Nat.le_of_ble_eq_true rfl) (by decide) (by decide) (c_Entry_init G F w50.length w43_6 r47 e47) ?_
  obtain ⟨w50, e50, h⟩ := ob h
  refine V_rset (ci := 1) d_Archive_init_50 e50 rfl ?_
  refine V_iinc (i := 2) (v := (5 : Int32)) d_Archive_init_51 0 rfl (by decide) (by decide) rfl ?_
  refine V_goto (tgt := 32) d_Archive_init_54 (by decide) ?_
  refine V_iload_n (i := 2) d_Archive_init_32 rfl 0 rfl ?_
  refine V_bipush (v := 8) d_Archive_init_33 (by decide) ?_
  refine V_icmp_ge (tgt := 57) d_Archive_init_35 (by decide) (fun q => absurd q (by decide)) (fun _ => ?_)
  refine V_aload_n (i := 0) d_Archive_init_38 rfl 1 rfl ?_
  obtain ⟨x39, e39, h⟩ := ob h
  refine V_getR (ci := 6) (k := 2) d_Archive_init_39 e39 rfl (by decide) in_Archive k214 ?_
  refine V_iload_n (i := 2) d_Archive_init_42 rfl 0 rfl ?_
  obtain ⟨w43_7, ew43_7, h⟩ := ob h
  refine U_new (ci := 1) (fs := fs_Entry) t_Entry d_Archive_init_43 ew43_7 rfl in_Entry k161 k163 k8 ty_Entry df_Entry (by decide) (by decide) ?_
  refine V_dup rfl d_Archive_init_46 ?_
  obtain ⟨r47, e47, h⟩ := ob h
  refine V_call (v := none) (st := [.ref (z0 G + w50.length), .int (5 : Int32), .ref (z0 G + x39)]) (inv_I (N := m_Entry_init) (As := []) d_Archive_init_47 rfl rfl (Or.inr ⟨_, k164⟩) k165 kc_Entry_init y_Entry_init) ⟨Or.inl kc_Entry_init, k8, by decide, by decide⟩ (Nat.le_of_ble_eq_true rfl) (by decide) (by decide) (c_Entry_init G F w50.length w43_7 r47 e47) ?_
  obtain ⟨w50, e50, h⟩ := ob h
  refine V_rset (ci := 1) d_Archive_init_50 e50 rfl ?_
  refine V_iinc (i := 2) (v := (6 : Int32)) d_Archive_init_51 0 rfl (by decide) (by decide) rfl ?_
  refine V_goto (tgt := 32) d_Archive_init_54 (by decide) ?_
  refine V_iload_n (i := 2) d_Archive_init_32 rfl 0 rfl ?_
  refine V_bipush (v := 8) d_Archive_init_33 (by decide) ?_
  refine V_icmp_ge (tgt := 57) d_Archive_init_35 (by decide) (fun q => absurd q (by decide)) (fun _ => ?_)
  refine V_aload_n (i := 0) d_Archive_init_38 rfl 1 rfl ?_
  obtain ⟨x39, e39, h⟩ := ob h
  refine V_getR (ci := 6) (k := 2) d_Archive_init_39 e39 rfl (by decide) in_Archive k214 ?_
  refine V_iload_n (i := 2) d_Archive_init_42 rfl 0 rfl ?_
  obtain ⟨w43_8, ew43_8, h⟩ := ob h
  refine U_new (ci := 1) (fs := fs_Entry) t_Entry d_Archive_init_43 ew43_8 rfl in_Entry k161 k163 k8 ty_Entry df_Entry (by decide) (by decide) ?_
  refine V_dup rfl d_Archive_init_46 ?_
  obtain ⟨r47, e47, h⟩ := ob h
  refine V_call (v := none) (st := [.ref (z0 G + w50.length), .int (6 : Int32), .ref (z0 G + x39)]) (inv_I (N := m_Entry_init) (As := []) d_Archive_init_47 rfl rfl (Or.inr ⟨_, k164⟩) k165 kc_Entry_init y_Entry_init) ⟨Or.inl kc_Entry_init, k8, by decide, by decide⟩ (Nat.le_of_ble_eq_true rfl) (by decide) (by decide) (c_Entry_init G F w50.length w43_8 r47 e47) ?_
  obtain ⟨w50, e50, h⟩ := ob h
  refine V_rset (ci := 1) d_Archive_init_50 e50 rfl ?_
  refine V_iinc (i := 2) (v := (7 : Int32)) d_Archive_init_51 0 rfl (by decide) (by decide) rfl ?_
  refine V_goto (tgt := 32) d_Archive_init_54 (by decide) ?_
  refine V_iload_n (i := 2) d_Archive_init_32 rfl 0 rfl ?_
  refine V_bipush (v := 8) d_Archive_init_33 (by decide) ?_
  refine V_icmp_ge (tgt := 57) d_Archive_init_35 (by decide) (fun q => absurd q (by decide)) (fun _ => ?_)
  refine V_aload_n (i := 0) d_Archive_init_38 rfl 1 rfl ?_
  obtain ⟨x39, e39, h⟩ := ob h
  refine V_getR (ci := 6) (k := 2) d_Archive_init_39 e39 rfl (by decide) in_Archive k214 ?_
  refine V_iload_n (i := 2) d_Archive_init_42 rfl 0 rfl ?_
  obtain ⟨w43_9, ew43_9, h⟩ := ob h
  refine U_new (ci := 1) (fs := fs_Entry) t_Entry d_Archive_init_43 ew43_9 rfl in_Entry k161 k163 k8 ty_Entry df_Entry (by decide) (by decide) ?_
  refine V_dup rfl d_Archive_init_46 ?_
  obtain ⟨r47, e47, h⟩ := ob h
  refine V_call (v := none) (st := [.ref (z0 G + w50.length), .int (7 : Int32), .ref (z0 G + x39)]) (inv_I (N := m_Entry_init) (As := []) d_Archive_init_47 rfl rfl (Or.inr ⟨_, k164⟩) k165 kc_Entry_init y_Entry_init) ⟨Or.inl kc_Entry_init, k8, by decide, by decide⟩ (Nat.le_of_ble_eq_true rfl) (by decide) (by decide) (c_Entry_init G F w50.length w43_9 r47 e47) ?_
  obtain ⟨w50, e50, h⟩ := ob h
  refine V_rset (ci := 1) d_Archive_init_50 e50 rfl ?_
  refine V_iinc (i := 2) (v := (8 : Int32)) d_Archive_init_51 0 rfl (by decide) (by decide) rfl ?_
  refine V_goto (tgt := 32) d_Archive_init_54 (by decide) ?_
  refine V_iload_n (i := 2) d_Archive_init_32 rfl 0 rfl ?_
  refine V_bipush (v := 8) d_Archive_init_33 (by decide) ?_
  refine V_icmp_ge (tgt := 57) d_Archive_init_35 (by decide) (fun _ => ?_) (fun q => absurd q (by decide))
  obtain rfl := Option.some.inj h
  exact V_vret rfl (by decide) (by decide) d_Archive_init_57
def f_Archive_init (F : Nat) (v0 : Nat) (v1 : Nat) (w : zW) : Option (Unit × zW) := b_Archive_init_0 F v0 v1 w
theorem c_Archive_init (G : zG) (F : Nat) (v0 : Nat) (v1 : Nat) (w : zW) (r : (Unit × zW)) (h : f_Archive_init F v0 v1 w = some r) : zCT G m_Archive_init [.ref (z0 G + v0), .ref (z0 G + v1)] w (oV r.1) r.2 := zCT.ofV (by decide +kernel) (Or.inl ⟨kc_Archive_init, rfl⟩) (Nat.le_of_ble_eq_true rfl) (b_Archive_init_0_ok G F v0 v1 w r h)

/-! ZipArray$Writer.<init>(LZipArray$Row;)V -/
def m_Writer_init : zM := (⟨R_Writer, "<init>", "(LZipArray$Row;)V"⟩, prog_9_method_1_code, 2, none, [], { frames := 1, cells := 0, slots := 0, locals := 20 })
theorem k243 : Cond.methodLink R_Writer 3 Lib.objectInit ∈ zTb := tb_at 243 (by decide +kernel) rfl
theorem k244 : Cond.fieldLink R_Writer 9 (T_Writer 0).1 (T_Writer 0).2.1 (T_Writer 0).2.2.1 ∈ zTb := tb_at 244 (by decide +kernel) rfl
theorem kc_Writer_init : Cond.code (mY m_Writer_init) (mC m_Writer_init) (mL m_Writer_init) (mT m_Writer_init) ∈ zTb := tb_at 242 (by decide +kernel) rfl
theorem y_Writer_init : (mY m_Writer_init).cls ≠ "java/lang/invoke/MethodHandle" ∧ (mY m_Writer_init).cls ≠ "java/lang/invoke/VarHandle" ∧ (parseMethodDescriptor (mY m_Writer_init).desc).map (fun d => d.parameters.length) = some 1 := by decide +kernel
theorem d_Writer_init_0 : decode (mC m_Writer_init) 0 = .ok (.aload_n 0, 1) := by decide +kernel
theorem d_Writer_init_1 : decode (mC m_Writer_init) 1 = .ok (.invokespecial 3, 3) := by decide +kernel
theorem d_Writer_init_4 : decode (mC m_Writer_init) 4 = .ok (.aload_n 0, 1) := by decide +kernel
theorem d_Writer_init_5 : decode (mC m_Writer_init) 5 = .ok (.aload_n 1, 1) := by decide +kernel
theorem d_Writer_init_6 : decode (mC m_Writer_init) 6 = .ok (.putfield 9, 3) := by decide +kernel
theorem d_Writer_init_9 : decode (mC m_Writer_init) 9 = .ok (.return_, 1) := by decide +kernel
def b_Writer_init_0 (F : Nat) (v0 : Nat) (v1 : Nat) (w : zW) : Option (Unit × zW) := (putR w v0 7 0 v1).bind fun w6 => some ((), w6)
set_option maxRecDepth 100000 in
set_option maxHeartbeats 4000000 in
theorem b_Writer_init_0_ok (G : zG) (F : Nat) (v0 : Nat) (v1 : Nat) (w : zW) (r : (Unit × zW)) (h : b_Writer_init_0 F v0 v1 w = some r) : zV G m_Writer_init 0 [(0, .ref (z0 G + v0)), (1, .ref (z0 G + v1))] [] w 0 0 (oV r.1) r.2 := by
  unfold b_Writer_init_0 at h
  refine V_aload_n (i := 0) d_Writer_init_0 rfl 0 rfl ?_
  refine V_objInit d_Writer_init_1 k243 kobj1 kobj2 (by decide) (Nat.le_of_ble_eq_true rfl) ?_
  refine V_aload_n (i := 0) d_Writer_init_4 rfl 0 rfl ?_
  refine V_aload_n (i := 1) d_Writer_init_5 rfl 1 rfl ?_
  obtain ⟨w6, e6, h⟩ := ob h
  refine V_putR (ci := 7) (k := 0) t_Writer d_Writer_init_6 e6 rfl (by decide) in_Writer k244 ty_Writer nm_Writer (Or.inr ⟨rfl, rfl, rfl⟩) (Or.inl ⟨_, rfl⟩) ?_
  obtain rfl := Option.some.inj h
  exact V_vret rfl (by decide) (by decide) d_Writer_init_9
def f_Writer_init (F : Nat) (v0 : Nat) (v1 : Nat) (w : zW) : Option (Unit × zW) := b_Writer_init_0 F v0 v1 w
theorem c_Writer_init (G : zG) (F : Nat) (v0 : Nat) (v1 : Nat) (w : zW) (r : (Unit × zW)) (h : f_Writer_init F v0 v1 w = some r) : zCT G m_Writer_init [.ref (z0 G + v0), .ref (z0 G + v1)] w (oV r.1) r.2 := zCT.ofV (by decide +kernel) (Or.inl ⟨kc_Writer_init, rfl⟩) (Nat.le_of_ble_eq_true rfl) (b_Writer_init_0_ok G F v0 v1 w r h)

/-! ZipArray.<init>()V -/
def m_Zip_init : zM := (⟨R_Zip, "<init>", "()V"⟩, prog_1_method_1_code, 1, none, [], { frames := 3, cells := 38, slots := 9420, locals := 63 })
theorem k2 : Cond.initialized R_Row ∈ zTb := tb_at 2 (by decide +kernel) rfl
theorem k3 : Cond.initialized R_Packer ∈ zTb := tb_at 3 (by decide +kernel) rfl
theorem k4 : Cond.initialized R_Unpacker ∈ zTb := tb_at 4 (by decide +kernel) rfl
theorem k6 : Cond.initialized R_Archive ∈ zTb := tb_at 6 (by decide +kernel) rfl
theorem k9 : Cond.initialized R_Writer ∈ zTb := tb_at 9 (by decide +kernel) rfl
theorem k27 : Cond.methodLink R_Zip 1 Lib.objectInit ∈ zTb := tb_at 27 (by decide +kernel) rfl
theorem k30 : Cond.classLink R_Zip 7 R_Row ∈ zTb := tb_at 30 (by decide +kernel) rfl
theorem k31 : Cond.instantiable R_Row 3 ∈ zTb := tb_at 31 (by decide +kernel) rfl
theorem k32 : Cond.methodLink R_Zip 11 (mY m_Row_init) ∈ zTb := tb_at 32 (by decide +kernel) rfl
theorem k33 : Cond.instanceMethod (mY m_Row_init) ∈ zTb := tb_at 33 (by decide +kernel) rfl
theorem k58 : Cond.classLink R_Zip 27 R_Packer ∈ zTb := tb_at 58 (by decide +kernel) rfl
theorem k59 : Cond.instantiable R_Packer 5 ∈ zTb := tb_at 59 (by decide +kernel) rfl
theorem k60 : Cond.methodLink R_Zip 29 (mY m_Packer_init) ∈ zTb := tb_at 60 (by decide +kernel) rfl
theorem k61 : Cond.instanceMethod (mY m_Packer_init) ∈ zTb := tb_at 61 (by decide +kernel) rfl
theorem k80 : Cond.classLink R_Zip 36 R_Unpacker ∈ zTb := tb_at 80 (by decide +kernel) rfl
theorem k81 : Cond.instantiable R_Unpacker 8 ∈ zTb := tb_at 81 (by decide +kernel) rfl
theorem k82 : Cond.methodLink R_Zip 38 (mY m_Unpacker_init) ∈ zTb := tb_at 82 (by decide +kernel) rfl
theorem k83 : Cond.instanceMethod (mY m_Unpacker_init) ∈ zTb := tb_at 83 (by decide +kernel) rfl
theorem k131 : Cond.classLink R_Zip 43 R_Archive ∈ zTb := tb_at 131 (by decide +kernel) rfl
theorem k132 : Cond.instantiable R_Archive 7 ∈ zTb := tb_at 132 (by decide +kernel) rfl
theorem k133 : Cond.methodLink R_Zip 45 (mY m_Archive_init) ∈ zTb := tb_at 133 (by decide +kernel) rfl
theorem k134 : Cond.instanceMethod (mY m_Archive_init) ∈ zTb := tb_at 134 (by decide +kernel) rfl
theorem k238 : Cond.classLink R_Zip 50 R_Writer ∈ zTb := tb_at 238 (by decide +kernel) rfl
theorem k239 : Cond.instantiable R_Writer 2 ∈ zTb := tb_at 239 (by decide +kernel) rfl
theorem k240 : Cond.methodLink R_Zip 52 (mY m_Writer_init) ∈ zTb := tb_at 240 (by decide +kernel) rfl
theorem k241 : Cond.instanceMethod (mY m_Writer_init) ∈ zTb := tb_at 241 (by decide +kernel) rfl
theorem k253 : Cond.classLink R_Zip 57 R_Entry ∈ zTb := tb_at 253 (by decide +kernel) rfl
theorem k254 : Cond.methodLinkNest R_Zip 59 (mY m_Entry_init) "ZipArray" ∈ zTb := tb_at 254 (by decide +kernel) rfl
theorem k255 : Cond.fieldLink R_Zip 14 (T_Zip 0).1 (T_Zip 0).2.1 (T_Zip 0).2.2.1 ∈ zTb := tb_at 255 (by decide +kernel) rfl
theorem k256 : Cond.fieldLink R_Zip 18 (T_Zip 1).1 (T_Zip 1).2.1 (T_Zip 1).2.2.1 ∈ zTb := tb_at 256 (by decide +kernel) rfl
theorem k257 : Cond.fieldLink R_Zip 21 (T_Zip 2).1 (T_Zip 2).2.1 (T_Zip 2).2.2.1 ∈ zTb := tb_at 257 (by decide +kernel) rfl
theorem k258 : Cond.fieldLink R_Zip 24 (T_Zip 3).1 (T_Zip 3).2.1 (T_Zip 3).2.2.1 ∈ zTb := tb_at 258 (by decide +kernel) rfl
theorem k259 : Cond.fieldLink R_Zip 32 (T_Zip 4).1 (T_Zip 4).2.1 (T_Zip 4).2.2.1 ∈ zTb := tb_at 259 (by decide +kernel) rfl
theorem k260 : Cond.fieldLink R_Zip 39 (T_Zip 5).1 (T_Zip 5).2.1 (T_Zip 5).2.2.1 ∈ zTb := tb_at 260 (by decide +kernel) rfl
theorem k261 : Cond.fieldLink R_Zip 46 (T_Zip 6).1 (T_Zip 6).2.1 (T_Zip 6).2.2.1 ∈ zTb := tb_at 261 (by decide +kernel) rfl
theorem k262 : Cond.fieldLink R_Zip 53 (T_Zip 7).1 (T_Zip 7).2.1 (T_Zip 7).2.2.1 ∈ zTb := tb_at 262 (by decide +kernel) rfl
theorem k263 : Cond.fieldLink R_Zip 60 (T_Zip 8).1 (T_Zip 8).2.1 (T_Zip 8).2.2.1 ∈ zTb := tb_at 263 (by decide +kernel) rfl
theorem kc_Zip_init : Cond.code (mY m_Zip_init) (mC m_Zip_init) (mL m_Zip_init) (mT m_Zip_init) ∈ zTb := tb_at 26 (by decide +kernel) rfl
theorem y_Zip_init : (mY m_Zip_init).cls ≠ "java/lang/invoke/MethodHandle" ∧ (mY m_Zip_init).cls ≠ "java/lang/invoke/VarHandle" ∧ (parseMethodDescriptor (mY m_Zip_init).desc).map (fun d => d.parameters.length) = some 0 := by decide +kernel
theorem d_Zip_init_0 : decode (mC m_Zip_init) 0 = .ok (.aload_n 0, 1) := by decide +kernel
theorem d_Zip_init_1 : decode (mC m_Zip_init) 1 = .ok (.invokespecial 1, 3) := by decide +kernel
theorem d_Zip_init_4 : decode (mC m_Zip_init) 4 = .ok (.aload_n 0, 1) := by decide +kernel
theorem d_Zip_init_5 : decode (mC m_Zip_init) 5 = .ok (.new 7, 3) := by decide +kernel
theorem d_Zip_init_8 : decode (mC m_Zip_init) 8 = .ok (.dup, 1) := by decide +kernel
theorem d_Zip_init_9 : decode (mC m_Zip_init) 9 = .ok (.sipush 200, 3) := by decide +kernel
theorem d_Zip_init_12 : decode (mC m_Zip_init) 12 = .ok (.invokespecial 11, 3) := by decide +kernel
theorem d_Zip_init_15 : decode (mC m_Zip_init) 15 = .ok (.putfield 14, 3) := by decide +kernel
theorem d_Zip_init_18 : decode (mC m_Zip_init) 18 = .ok (.aload_n 0, 1) := by decide +kernel
theorem d_Zip_init_19 : decode (mC m_Zip_init) 19 = .ok (.new 7, 3) := by decide +kernel
theorem d_Zip_init_22 : decode (mC m_Zip_init) 22 = .ok (.dup, 1) := by decide +kernel
theorem d_Zip_init_23 : decode (mC m_Zip_init) 23 = .ok (.sipush 1600, 3) := by decide +kernel
theorem d_Zip_init_26 : decode (mC m_Zip_init) 26 = .ok (.invokespecial 11, 3) := by decide +kernel
theorem d_Zip_init_29 : decode (mC m_Zip_init) 29 = .ok (.putfield 18, 3) := by decide +kernel
theorem d_Zip_init_32 : decode (mC m_Zip_init) 32 = .ok (.aload_n 0, 1) := by decide +kernel
theorem d_Zip_init_33 : decode (mC m_Zip_init) 33 = .ok (.new 7, 3) := by decide +kernel
theorem d_Zip_init_36 : decode (mC m_Zip_init) 36 = .ok (.dup, 1) := by decide +kernel
theorem d_Zip_init_37 : decode (mC m_Zip_init) 37 = .ok (.sipush 227, 3) := by decide +kernel
theorem d_Zip_init_40 : decode (mC m_Zip_init) 40 = .ok (.invokespecial 11, 3) := by decide +kernel
theorem d_Zip_init_43 : decode (mC m_Zip_init) 43 = .ok (.putfield 21, 3) := by decide +kernel
theorem d_Zip_init_46 : decode (mC m_Zip_init) 46 = .ok (.aload_n 0, 1) := by decide +kernel
theorem d_Zip_init_47 : decode (mC m_Zip_init) 47 = .ok (.new 7, 3) := by decide +kernel
theorem d_Zip_init_50 : decode (mC m_Zip_init) 50 = .ok (.dup, 1) := by decide +kernel
theorem d_Zip_init_51 : decode (mC m_Zip_init) 51 = .ok (.sipush 200, 3) := by decide +kernel
theorem d_Zip_init_54 : decode (mC m_Zip_init) 54 = .ok (.invokespecial 11, 3) := by decide +kernel
theorem d_Zip_init_57 : decode (mC m_Zip_init) 57 = .ok (.putfield 24, 3) := by decide +kernel
theorem d_Zip_init_60 : decode (mC m_Zip_init) 60 = .ok (.aload_n 0, 1) := by decide +kernel
theorem d_Zip_init_61 : decode (mC m_Zip_init) 61 = .ok (.new 27, 3) := by decide +kernel
theorem d_Zip_init_64 : decode (mC m_Zip_init) 64 = .ok (.dup, 1) := by decide +kernel
theorem d_Zip_init_65 : decode (mC m_Zip_init) 65 = .ok (.aload_n 0, 1) := by decide +kernel
theorem d_Zip_init_66 : decode (mC m_Zip_init) 66 = .ok (.getfield 21, 3) := by decide +kernel
theorem d_Zip_init_69 : decode (mC m_Zip_init) 69 = .ok (.invokespecial 29, 3) := by decide +kernel
theorem d_Zip_init_72 : decode (mC m_Zip_init) 72 = .ok (.putfield 32, 3) := by decide +kernel
theorem d_Zip_init_75 : decode (mC m_Zip_init) 75 = .ok (.aload_n 0, 1) := by decide +kernel
theorem d_Zip_init_76 : decode (mC m_Zip_init) 76 = .ok (.new 36, 3) := by decide +kernel
theorem d_Zip_init_79 : decode (mC m_Zip_init) 79 = .ok (.dup, 1) := by decide +kernel
theorem d_Zip_init_80 : decode (mC m_Zip_init) 80 = .ok (.aload_n 0, 1) := by decide +kernel
theorem d_Zip_init_81 : decode (mC m_Zip_init) 81 = .ok (.getfield 24, 3) := by decide +kernel
theorem d_Zip_init_84 : decode (mC m_Zip_init) 84 = .ok (.invokespecial 38, 3) := by decide +kernel
theorem d_Zip_init_87 : decode (mC m_Zip_init) 87 = .ok (.putfield 39, 3) := by decide +kernel
theorem d_Zip_init_90 : decode (mC m_Zip_init) 90 = .ok (.aload_n 0, 1) := by decide +kernel
theorem d_Zip_init_91 : decode (mC m_Zip_init) 91 = .ok (.new 43, 3) := by decide +kernel
theorem d_Zip_init_94 : decode (mC m_Zip_init) 94 = .ok (.dup, 1) := by decide +kernel
theorem d_Zip_init_95 : decode (mC m_Zip_init) 95 = .ok (.aload_n 0, 1) := by decide +kernel
theorem d_Zip_init_96 : decode (mC m_Zip_init) 96 = .ok (.getfield 18, 3) := by decide +kernel
theorem d_Zip_init_99 : decode (mC m_Zip_init) 99 = .ok (.invokespecial 45, 3) := by decide +kernel
theorem d_Zip_init_102 : decode (mC m_Zip_init) 102 = .ok (.putfield 46, 3) := by decide +kernel
theorem d_Zip_init_105 : decode (mC m_Zip_init) 105 = .ok (.aload_n 0, 1) := by decide +kernel
theorem d_Zip_init_106 : decode (mC m_Zip_init) 106 = .ok (.new 50, 3) := by decide +kernel
theorem d_Zip_init_109 : decode (mC m_Zip_init) 109 = .ok (.dup, 1) := by decide +kernel
theorem d_Zip_init_110 : decode (mC m_Zip_init) 110 = .ok (.new 7, 3) := by decide +kernel
theorem d_Zip_init_113 : decode (mC m_Zip_init) 113 = .ok (.dup, 1) := by decide +kernel
theorem d_Zip_init_114 : decode (mC m_Zip_init) 114 = .ok (.sipush 1600, 3) := by decide +kernel
theorem d_Zip_init_117 : decode (mC m_Zip_init) 117 = .ok (.invokespecial 11, 3) := by decide +kernel
theorem d_Zip_init_120 : decode (mC m_Zip_init) 120 = .ok (.invokespecial 52, 3) := by decide +kernel
theorem d_Zip_init_123 : decode (mC m_Zip_init) 123 = .ok (.putfield 53, 3) := by decide +kernel
theorem d_Zip_init_126 : decode (mC m_Zip_init) 126 = .ok (.aload_n 0, 1) := by decide +kernel
theorem d_Zip_init_127 : decode (mC m_Zip_init) 127 = .ok (.new 57, 3) := by decide +kernel
theorem d_Zip_init_130 : decode (mC m_Zip_init) 130 = .ok (.dup, 1) := by decide +kernel
theorem d_Zip_init_131 : decode (mC m_Zip_init) 131 = .ok (.invokespecial 59, 3) := by decide +kernel
theorem d_Zip_init_134 : decode (mC m_Zip_init) 134 = .ok (.putfield 60, 3) := by decide +kernel
theorem d_Zip_init_137 : decode (mC m_Zip_init) 137 = .ok (.return_, 1) := by decide +kernel
def b_Zip_init_0 (F : Nat) (v0 : Nat) (w : zW) : Option (Unit × zW) := (znew w (.inr (.inr (.inr (0, fs_Row))))).bind fun w5 => (f_Row_init F w.length (200 : Int32) w5).bind fun r12 => (putR r12.2 v0 8 0 w.length).bind fun w15 => (znew w15 (.inr (.inr (.inr (0, fs_Row))))).bind fun w19 => (f_Row_init F w15.length (1600 : Int32) w19).bind fun r26 => (putR r26.2 v0 8 1 w15.length).bind fun w29 => (znew w29 (.inr (.inr (.inr (0, fs_Row))))).bind fun w33 => (f_Row_init F w29.length (227 : Int32) w33).bind fun r40 => (putR r40.2 v0 8 2 w29.length).bind fun w43 => (znew w43 (.inr (.inr (.inr (0, fs_Row))))).bind fun w47 => (f_Row_init F w43.length (200 : Int32) w47).bind fun r54 => (putR r54.2 v0 8 3 w43.length).bind fun w57 => (znew w57 (.inr (.inr (.inr (3, fs_Packer))))).bind fun w61 => (getR w61 v0 8 2).bind fun x66 => (f_Packer_init F w57.length x66 w61).bind fun r69 => (putR r69.2 v0 8 4 w57.length).bind fun w72 => (znew w72 (.inr (.inr (.inr (5, fs_Unpacker))))).bind fun w76 => (getR w76 v0 8 3).bind fun x81 => (f_Unpacker_init F w72.length x81 w76).bind fun r84 => (putR r84.2 v0 8 5 w72.length).bind fun w87 => (znew w87 (.inr (.inr (.inr (6, fs_Archive))))).bind fun w91 => (getR w91 v0 8 1).bind fun x96 => (f_Archive_init F w87.length x96 w91).bind fun r99 => (putR r99.2 v0 8 6 w87.length).bind fun w102 => (znew w102 (.inr (.inr (.inr (7, fs_Writer))))).bind fun w106 => (znew w106 (.inr (.inr (.inr (0, fs_Row))))).bind fun w110 => (f_Row_init F w106.length (1600 : Int32) w110).bind fun r117 => (f_Writer_init F w102.length w106.length r117.2).bind fun r120 => (putR r120.2 v0 8 7 w102.length).bind fun w123 => (znew w123 (.inr (.inr (.inr (1, fs_Entry))))).bind fun w127 => (f_Entry_init F w123.length w127).bind fun r131 => (putR r131.2 v0 8 8 w123.length).bind fun w134 => some ((), w134)
set_option maxRecDepth 100000 in
set_option maxHeartbeats 4000000 in
theorem b_Zip_init_0_ok (G : zG) (F : Nat) (v0 : Nat) (w : zW) (r : (Unit × zW)) (h : b_Zip_init_0 F v0 w = some r) : zV G m_Zip_init 0 [(0, .ref (z0 G + v0))] [] w 0 0 (oV r.1) r.2 := by
  unfold b_Zip_init_0 at h
  refine V_aload_n (i := 0) d_Zip_init_0 rfl 0 rfl ?_
  refine V_objInit d_Zip_init_1 k27 kobj1 kobj2 (by decide) (Nat.le_of_ble_eq_true rfl) ?_
  refine V_aload_n (i := 0) d_Zip_init_4 rfl 0 rfl ?_
  obtain ⟨w5, ew5, h⟩ := ob h
  refine U_new (ci := 0) (fs := fs_Row) t_Row d_Zip_init_5 ew5 rfl in_Row k30 k31 k2 ty_Row df_Row (by decide) (by decide) ?_
  refine V_dup rfl d_Zip_init_8 ?_
  refine V_sipush (v := 200) d_Zip_init_9 (by decide) ?_
  obtain ⟨r12, e12, h⟩ := ob h
  refine V_call (v := none) (st := [.ref (z0 G + w.length), .ref (z0 G + v0)]) (inv_I (N := m_Row_init) (As := [.int (200 : Int32)]) d_Zip_init_12 rfl rfl (Or.inl k32) k33 kc_Row_init y_Row_init) ⟨Or.inl kc_Row_init, k2, by decide, by decide⟩ (Nat.le_of_ble_eq_true rfl) (by decide) (by decide) (c_Row_init G F w.length (200 : Int32) w5 r12 e12) ?_
  obtain ⟨w15, e15, h⟩ := ob h
  refine V_putR (ci := 8) (k := 0) t_Zip d_Zip_init_15 e15 rfl (by decide) in_Zip k255 ty_Zip nm_Zip (Or.inr ⟨rfl, rfl, rfl⟩) (Or.inl ⟨_, rfl⟩) ?_
  refine V_aload_n (i := 0) d_Zip_init_18 rfl 0 rfl ?_
  obtain ⟨w19, ew19, h⟩ := ob h
  refine U_new (ci := 0) (fs := fs_Row) t_Row d_Zip_init_19 ew19 rfl in_Row k30 k31 k2 ty_Row df_Row (by decide) (by decide) ?_
  refine V_dup rfl d_Zip_init_22 ?_
  refine V_sipush (v := 1600) d_Zip_init_23 (by decide) ?_
  obtain ⟨r26, e26, h⟩ := ob h
  refine V_call (v := none) (st := [.ref (z0 G + w15.length), .ref (z0 G + v0)]) (inv_I (N := m_Row_init) (As := [.int (1600 : Int32)]) d_Zip_init_26 rfl rfl (Or.inl k32) k33 kc_Row_init y_Row_init) ⟨Or.inl kc_Row_init, k2, by decide, by decide⟩ (Nat.le_of_ble_eq_true rfl) (by decide) (by decide) (c_Row_init G F w15.length (1600 : Int32) w19 r26 e26) ?_
  obtain ⟨w29, e29, h⟩ := ob h
  refine V_putR (ci := 8) (k := 1) t_Zip d_Zip_init_29 e29 rfl (by decide) in_Zip k256 ty_Zip nm_Zip (Or.inr ⟨rfl, rfl, rfl⟩) (Or.inl ⟨_, rfl⟩) ?_
  refine V_aload_n (i := 0) d_Zip_init_32 rfl 0 rfl ?_
  obtain ⟨w33, ew33, h⟩ := ob h
  refine U_new (ci := 0) (fs := fs_Row) t_Row d_Zip_init_33 ew33 rfl in_Row k30 k31 k2 ty_Row df_Row (by decide) (by decide) ?_
  refine V_dup rfl d_Zip_init_36 ?_
  refine V_sipush (v := 227) d_Zip_init_37 (by decide) ?_
  obtain ⟨r40, e40, h⟩ := ob h
  refine V_call (v := none) (st := [.ref (z0 G + w29.length), .ref (z0 G + v0)]) (inv_I (N := m_Row_init) (As := [.int (227 : Int32)]) d_Zip_init_40 rfl rfl (Or.inl k32) k33 kc_Row_init y_Row_init) ⟨Or.inl kc_Row_init, k2, by decide, by decide⟩ (Nat.le_of_ble_eq_true rfl) (by decide) (by decide) (c_Row_init G F w29.length (227 : Int32) w33 r40 e40) ?_
  obtain ⟨w43, e43, h⟩ := ob h
  refine V_putR (ci := 8) (k := 2) t_Zip d_Zip_init_43 e43 rfl (by decide) in_Zip k257 ty_Zip nm_Zip (Or.inr ⟨rfl, rfl, rfl⟩) (Or.inl ⟨_, rfl⟩) ?_
  refine V_aload_n (i := 0) d_Zip_init_46 rfl 0 rfl ?_
  obtain ⟨w47, ew47, h⟩ := ob h
  refine U_new (ci := 0) (fs := fs_Row) t_Row d_Zip_init_47 ew47 rfl in_Row k30 k31 k2 ty_Row df_Row (by decide) (by decide) ?_
  refine V_dup rfl d_Zip_init_50 ?_
  refine V_sipush (v := 200) d_Zip_init_51 (by decide) ?_
  obtain ⟨r54, e54, h⟩ := ob h
  refine V_call (v := none) (st := [.ref (z0 G + w43.length), .ref (z0 G + v0)]) (inv_I (N := m_Row_init) (As := [.int (200 : Int32)]) d_Zip_init_54 rfl rfl (Or.inl k32) k33 kc_Row_init y_Row_init) ⟨Or.inl kc_Row_init, k2, by decide, by decide⟩ (Nat.le_of_ble_eq_true rfl) (by decide) (by decide) (c_Row_init G F w43.length (200 : Int32) w47 r54 e54) ?_
  obtain ⟨w57, e57, h⟩ := ob h
  refine V_putR (ci := 8) (k := 3) t_Zip d_Zip_init_57 e57 rfl (by decide) in_Zip k258 ty_Zip nm_Zip (Or.inr ⟨rfl, rfl, rfl⟩) (Or.inl ⟨_, rfl⟩) ?_
  refine V_aload_n (i := 0) d_Zip_init_60 rfl 0 rfl ?_
  obtain ⟨w61, ew61, h⟩ := ob h
  refine U_new (ci := 3) (fs := fs_Packer) t_Packer d_Zip_init_61 ew61 rfl in_Packer k58 k59 k3 ty_Packer df_Packer (by decide) (by decide) ?_
  refine V_dup rfl d_Zip_init_64 ?_
  refine V_aload_n (i := 0) d_Zip_init_65 rfl 0 rfl ?_
  obtain ⟨x66, e66, h⟩ := ob h
  refine V_getR (ci := 8) (k := 2) d_Zip_init_66 e66 rfl (by decide) in_Zip k257 ?_
  obtain ⟨r69, e69, h⟩ := ob h
  refine V_call (v := none) (st := [.ref (z0 G + w57.length), .ref (z0 G + v0)]) (inv_I (N := m_Packer_init) (As := [.ref (z0 G + x66)]) d_Zip_init_69 rfl rfl (Or.inl k60) k61 kc_Packer_init y_Packer_init) ⟨Or.inl kc_Packer_init, k3, by decide, by decide⟩ (Nat.le_of_ble_eq_true rfl) (by decide) (by decide) (c_Packer_init G F w57.length x66 w61 r69 e69) ?_
  obtain ⟨w72, e72, h⟩ := ob h
  refine V_putR (ci := 8) (k := 4) t_Zip d_Zip_init_72 e72 rfl (by decide) in_Zip k259 ty_Zip nm_Zip (Or.inr ⟨rfl, rfl, rfl⟩) (Or.inl ⟨_, rfl⟩) ?_
  refine V_aload_n (i := 0) d_Zip_init_75 rfl 0 rfl ?_
  obtain ⟨w76, ew76, h⟩ := ob h
  refine U_new (ci := 5) (fs := fs_Unpacker) t_Unpacker d_Zip_init_76 ew76 rfl in_Unpacker k80 k81 k4 ty_Unpacker df_Unpacker (by decide) (by decide) ?_
  refine V_dup rfl d_Zip_init_79 ?_
  refine V_aload_n (i := 0) d_Zip_init_80 rfl 0 rfl ?_
  obtain ⟨x81, e81, h⟩ := ob h
  refine V_getR (ci := 8) (k := 3) d_Zip_init_81 e81 rfl (by decide) in_Zip k258 ?_
  obtain ⟨r84, e84, h⟩ := ob h
  refine V_call (v := none) (st := [.ref (z0 G + w72.length), .ref (z0 G + v0)]) (inv_I (N := m_Unpacker_init) (As := [.ref (z0 G + x81)]) d_Zip_init_84 rfl rfl (Or.inl k82) k83 kc_Unpacker_init y_Unpacker_init) ⟨Or.inl kc_Unpacker_init, k4, by decide, by decide⟩ (Nat.le_of_ble_eq_true rfl) (by decide) (by decide) (c_Unpacker_init G F w72.length x81 w76 r84 e84) ?_
  obtain ⟨w87, e87, h⟩ := ob h
  refine V_putR (ci := 8) (k := 5) t_Zip d_Zip_init_87 e87 rfl (by decide) in_Zip k260 ty_Zip nm_Zip (Or.inr ⟨rfl, rfl, rfl⟩) (Or.inl ⟨_, rfl⟩) ?_
  refine V_aload_n (i := 0) d_Zip_init_90 rfl 0 rfl ?_
  obtain ⟨w91, ew91, h⟩ := ob h
  refine U_new (ci := 6) (fs := fs_Archive) t_Archive d_Zip_init_91 ew91 rfl in_Archive k131 k132 k6 ty_Archive df_Archive (by decide) (by decide) ?_
  refine V_dup rfl d_Zip_init_94 ?_
  refine V_aload_n (i := 0) d_Zip_init_95 rfl 0 rfl ?_
  obtain ⟨x96, e96, h⟩ := ob h
  refine V_getR (ci := 8) (k := 1) d_Zip_init_96 e96 rfl (by decide) in_Zip k256 ?_
  obtain ⟨r99, e99, h⟩ := ob h
  refine V_call (v := none) (st := [.ref (z0 G + w87.length), .ref (z0 G + v0)]) (inv_I (N := m_Archive_init) (As := [.ref (z0 G + x96)]) d_Zip_init_99 rfl rfl (Or.inl k133) k134 kc_Archive_init y_Archive_init) ⟨Or.inl kc_Archive_init, k6, by decide, by decide⟩ (Nat.le_of_ble_eq_true rfl) (by decide) (by decide) (c_Archive_init G F w87.length x96 w91 r99 e99) ?_
  obtain ⟨w102, e102, h⟩ := ob h
  refine V_putR (ci := 8) (k := 6) t_Zip d_Zip_init_102 e102 rfl (by decide) in_Zip k261 ty_Zip nm_Zip (Or.inr ⟨rfl, rfl, rfl⟩) (Or.inl ⟨_, rfl⟩) ?_
  refine V_aload_n (i := 0) d_Zip_init_105 rfl 0 rfl ?_
  obtain ⟨w106, ew106, h⟩ := ob h
  refine U_new (ci := 7) (fs := fs_Writer) t_Writer d_Zip_init_106 ew106 rfl in_Writer k238 k239 k9 ty_Writer df_Writer (by decide) (by decide) ?_
  refine V_dup rfl d_Zip_init_109 ?_
  obtain ⟨w110, ew110, h⟩ := ob h
  refine U_new (ci := 0) (fs := fs_Row) t_Row d_Zip_init_110 ew110 rfl in_Row k30 k31 k2 ty_Row df_Row (by decide) (by decide) ?_
  refine V_dup rfl d_Zip_init_113 ?_
  refine V_sipush (v := 1600) d_Zip_init_114 (by decide) ?_
  obtain ⟨r117, e117, h⟩ := ob h
  refine V_call (v := none) (st := [.ref (z0 G + w106.length), .ref (z0 G + w102.length), .ref (z0 G + w102.length), .ref (z0 G + v0)]) (inv_I (N := m_Row_init) (As := [.int (1600 : Int32)]) d_Zip_init_117 rfl rfl (Or.inl k32) k33 kc_Row_init y_Row_init) ⟨Or.inl kc_Row_init, k2, by decide, by decide⟩ (Nat.le_of_ble_eq_true rfl) (by decide) (by decide) (c_Row_init G F w106.length (1600 : Int32) w110 r117 e117) ?_
  obtain ⟨r120, e120, h⟩ := ob h
  refine V_call (v := none) (st := [.ref (z0 G + w102.length), .ref (z0 G + v0)]) (inv_I (N := m_Writer_init) (As := [.ref (z0 G + w106.length)]) d_Zip_init_120 rfl rfl (Or.inl k240) k241 kc_Writer_init y_Writer_init) ⟨Or.inl kc_Writer_init, k9, by decide, by decide⟩ (Nat.le_of_ble_eq_true rfl) (by decide) (by decide) (c_Writer_init G F w102.length w106.length r117.2 r120 e120) ?_
  obtain ⟨w123, e123, h⟩ := ob h
  refine V_putR (ci := 8) (k := 7) t_Zip d_Zip_init_123 e123 rfl (by decide) in_Zip k262 ty_Zip nm_Zip (Or.inr ⟨rfl, rfl, rfl⟩) (Or.inl ⟨_, rfl⟩) ?_
  refine V_aload_n (i := 0) d_Zip_init_126 rfl 0 rfl ?_
  obtain ⟨w127, ew127, h⟩ := ob h
  refine U_new (ci := 1) (fs := fs_Entry) t_Entry d_Zip_init_127 ew127 rfl in_Entry k253 k163 k8 ty_Entry df_Entry (by decide) (by decide) ?_
  refine V_dup rfl d_Zip_init_130 ?_
  obtain ⟨r131, e131, h⟩ := ob h
  refine V_call (v := none) (st := [.ref (z0 G + w123.length), .ref (z0 G + v0)]) (inv_I (N := m_Entry_init) (As := []) d_Zip_init_131 rfl rfl (Or.inr ⟨_, k254⟩) k165 kc_Entry_init y_Entry_init) ⟨Or.inl kc_Entry_init, k8, by decide, by decide⟩ (Nat.le_of_ble_eq_true rfl) (by decide) (by decide) (c_Entry_init G F w123.length w127 r131 e131) ?_
  obtain ⟨w134, e134, h⟩ := ob h
  refine V_putR (ci := 8) (k := 8) t_Zip d_Zip_init_134 e134 rfl (by decide) in_Zip k263 ty_Zip nm_Zip (Or.inr ⟨rfl, rfl, rfl⟩) (Or.inl ⟨_, rfl⟩) ?_
  obtain rfl := Option.some.inj h
  exact V_vret rfl (by decide) (by decide) d_Zip_init_137
def f_Zip_init (F : Nat) (v0 : Nat) (w : zW) : Option (Unit × zW) := b_Zip_init_0 F v0 w
theorem c_Zip_init (G : zG) (F : Nat) (v0 : Nat) (w : zW) (r : (Unit × zW)) (h : f_Zip_init F v0 w = some r) : zCT G m_Zip_init [.ref (z0 G + v0)] w (oV r.1) r.2 := zCT.ofV (by decide +kernel) (Or.inl ⟨kc_Zip_init, rfl⟩) (Nat.le_of_ble_eq_true rfl) (b_Zip_init_0_ok G F v0 w r h)

/-! ZipArray$Row.empty()V -/
def m_Row_empty : zM := (⟨R_Row, "empty", "()V"⟩, prog_7_method_2_code, 1, none, [], { frames := 0, cells := 0, slots := 0, locals := 0 })
theorem k41 : Cond.fieldLink R_Row 13 (T_Row 1).1 (T_Row 1).2.1 (T_Row 1).2.2.1 ∈ zTb := tb_at 41 (by decide +kernel) rfl
theorem k47 : Cond.fieldLink R_Row 17 (T_Row 2).1 (T_Row 2).2.1 (T_Row 2).2.2.1 ∈ zTb := tb_at 47 (by decide +kernel) rfl
theorem kc_Row_empty : Cond.code (mY m_Row_empty) (mC m_Row_empty) (mL m_Row_empty) (mT m_Row_empty) ∈ zTb := tb_at 290 (by decide +kernel) rfl
theorem y_Row_empty : (mY m_Row_empty).cls ≠ "java/lang/invoke/MethodHandle" ∧ (mY m_Row_empty).cls ≠ "java/lang/invoke/VarHandle" ∧ (parseMethodDescriptor (mY m_Row_empty).desc).map (fun d => d.parameters.length) = some 0 := by decide +kernel
theorem d_Row_empty_0 : decode (mC m_Row_empty) 0 = .ok (.aload_n 0, 1) := by decide +kernel
theorem d_Row_empty_1 : decode (mC m_Row_empty) 1 = .ok (.iconst 0, 1) := by decide +kernel
theorem d_Row_empty_2 : decode (mC m_Row_empty) 2 = .ok (.putfield 13, 3) := by decide +kernel
theorem d_Row_empty_5 : decode (mC m_Row_empty) 5 = .ok (.aload_n 0, 1) := by decide +kernel
theorem d_Row_empty_6 : decode (mC m_Row_empty) 6 = .ok (.iconst 0, 1) := by decide +kernel
theorem d_Row_empty_7 : decode (mC m_Row_empty) 7 = .ok (.putfield 17, 3) := by decide +kernel
theorem d_Row_empty_10 : decode (mC m_Row_empty) 10 = .ok (.return_, 1) := by decide +kernel
def b_Row_empty_0 (F : Nat) (v0 : Nat) (w : zW) : Option (Unit × zW) := (putI w v0 0 1 (0 : Int32)).bind fun w2 => (putI w2 v0 0 2 (0 : Int32)).bind fun w7 => some ((), w7)
set_option maxRecDepth 100000 in
set_option maxHeartbeats 4000000 in
theorem b_Row_empty_0_ok (G : zG) (F : Nat) (v0 : Nat) (w : zW) (r : (Unit × zW)) (h : b_Row_empty_0 F v0 w = some r) : zV G m_Row_empty 0 [(0, .ref (z0 G + v0))] [] w 0 0 (oV r.1) r.2 := by
  unfold b_Row_empty_0 at h
  refine V_aload_n (i := 0) d_Row_empty_0 rfl 0 rfl ?_
  refine V_iconst (v := 0) d_Row_empty_1 (by decide) ?_
  obtain ⟨w2, e2, h⟩ := ob h
  refine V_putI (ci := 0) (k := 1) t_Row d_Row_empty_2 e2 rfl (by decide) in_Row k41 ty_Row nm_Row rfl (Or.inl rfl) ?_
  refine V_aload_n (i := 0) d_Row_empty_5 rfl 0 rfl ?_
  refine V_iconst (v := 0) d_Row_empty_6 (by decide) ?_
  obtain ⟨w7, e7, h⟩ := ob h
  refine V_putI (ci := 0) (k := 2) t_Row d_Row_empty_7 e7 rfl (by decide) in_Row k47 ty_Row nm_Row rfl (Or.inr ⟨rfl, Or.inl rfl⟩) ?_
  obtain rfl := Option.some.inj h
  exact V_vret rfl (by decide) (by decide) d_Row_empty_10
def f_Row_empty (F : Nat) (v0 : Nat) (w : zW) : Option (Unit × zW) := b_Row_empty_0 F v0 w
theorem c_Row_empty (G : zG) (F : Nat) (v0 : Nat) (w : zW) (r : (Unit × zW)) (h : f_Row_empty F v0 w = some r) : zCT G m_Row_empty [.ref (z0 G + v0)] w (oV r.1) r.2 := zCT.ofV (by decide +kernel) (Or.inl ⟨kc_Row_empty, rfl⟩) (Nat.le_of_ble_eq_true rfl) (b_Row_empty_0_ok G F v0 w r h)

/-! ZipArray.clear()I -/
def m_Zip_clear : zM := (⟨R_Zip, "clear", "()I"⟩, prog_1_method_2_code, 2, (some .int), [], { frames := 1, cells := 0, slots := 0, locals := 20 })
theorem k42 : Cond.fieldLink R_Zip 64 (T_Row 1).1 (T_Row 1).2.1 (T_Row 1).2.2.1 ∈ zTb := tb_at 42 (by decide +kernel) rfl
theorem k287 : Cond.methodLink R_Zip 68 (mY m_Row_empty) ∈ zTb := tb_at 287 (by decide +kernel) rfl
theorem k288 : Cond.instanceMethod (mY m_Row_empty) ∈ zTb := tb_at 288 (by decide +kernel) rfl
theorem k289 : Cond.selects R_Row (mY m_Row_empty) (mY m_Row_empty) ∈ zTb := tb_at 289 (by decide +kernel) rfl
theorem kc_Zip_clear : Cond.code (mY m_Zip_clear) (mC m_Zip_clear) (mL m_Zip_clear) (mT m_Zip_clear) ∈ zTb := tb_at 286 (by decide +kernel) rfl
theorem y_Zip_clear : (mY m_Zip_clear).cls ≠ "java/lang/invoke/MethodHandle" ∧ (mY m_Zip_clear).cls ≠ "java/lang/invoke/VarHandle" ∧ (parseMethodDescriptor (mY m_Zip_clear).desc).map (fun d => d.parameters.length) = some 0 := by decide +kernel
theorem d_Zip_clear_0 : decode (mC m_Zip_clear) 0 = .ok (.aload_n 0, 1) := by decide +kernel
theorem d_Zip_clear_1 : decode (mC m_Zip_clear) 1 = .ok (.getfield 14, 3) := by decide +kernel
theorem d_Zip_clear_4 : decode (mC m_Zip_clear) 4 = .ok (.getfield 64, 3) := by decide +kernel
theorem d_Zip_clear_7 : decode (mC m_Zip_clear) 7 = .ok (.istore_n 1, 1) := by decide +kernel
theorem d_Zip_clear_8 : decode (mC m_Zip_clear) 8 = .ok (.aload_n 0, 1) := by decide +kernel
theorem d_Zip_clear_9 : decode (mC m_Zip_clear) 9 = .ok (.getfield 14, 3) := by decide +kernel
theorem d_Zip_clear_12 : decode (mC m_Zip_clear) 12 = .ok (.invokevirtual 68, 3) := by decide +kernel
theorem d_Zip_clear_15 : decode (mC m_Zip_clear) 15 = .ok (.iload_n 1, 1) := by decide +kernel
theorem d_Zip_clear_16 : decode (mC m_Zip_clear) 16 = .ok (.ireturn, 1) := by decide +kernel
def b_Zip_clear_0 (F : Nat) (v0 : Nat) (w : zW) : Option (Int32 × zW) := (getR w v0 8 0).bind fun x1 => (getI w x1 0 1).bind fun x4 => (getR w v0 8 0).bind fun x9 => (zobj w x9 0).bind fun _ => (f_Row_empty F x9 w).bind fun r12 => some (x4, r12.2)
set_option maxRecDepth 100000 in
set_option maxHeartbeats 4000000 in
theorem b_Zip_clear_0_ok (G : zG) (F : Nat) (v0 : Nat) (w : zW) (r : (Int32 × zW)) (h : b_Zip_clear_0 F v0 w = some r) : zV G m_Zip_clear 0 [(0, .ref (z0 G + v0))] [] w 0 0 (oI r.1) r.2 := by
  unfold b_Zip_clear_0 at h
  refine V_aload_n (i := 0) d_Zip_clear_0 rfl 0 rfl ?_
  obtain ⟨x1, e1, h⟩ := ob h
  refine V_getR (ci := 8) (k := 0) d_Zip_clear_1 e1 rfl (by decide) in_Zip k255 ?_
  obtain ⟨x4, e4, h⟩ := ob h
  refine V_getI (ci := 0) (k := 1) d_Zip_clear_4 e4 rfl (by decide) in_Row k42 ?_
  refine V_istore_n (i := 1) d_Zip_clear_7 rfl (by decide) rfl ?_
  refine V_aload_n (i := 0) d_Zip_clear_8 rfl 1 rfl ?_
  obtain ⟨x9, e9, h⟩ := ob h
  refine V_getR (ci := 8) (k := 0) d_Zip_clear_9 e9 rfl (by decide) in_Zip k255 ?_
  obtain ⟨_, eo12, h⟩ := ob h
  obtain ⟨r12, e12, h⟩ := ob h
  refine V_call (v := none) (st := []) (inv_V (N := m_Row_empty) (As := []) (ci := 0) d_Zip_clear_12 eo12 rfl k287 k288 k289 kc_Row_empty y_Row_empty) ⟨Or.inl kc_Row_empty, k2, by decide, by decide⟩ (Nat.le_of_ble_eq_true rfl) (by decide) (by decide) (c_Row_empty G F x9 w r12 e12) ?_
  refine V_iload_n (i := 1) d_Zip_clear_15 rfl 0 rfl ?_
  obtain rfl := Option.some.inj h
  exact V_iret rfl (by decide) (by decide) d_Zip_clear_16
def f_Zip_clear (F : Nat) (v0 : Nat) (w : zW) : Option (Int32 × zW) := b_Zip_clear_0 F v0 w
theorem c_Zip_clear (G : zG) (F : Nat) (v0 : Nat) (w : zW) (r : (Int32 × zW)) (h : f_Zip_clear F v0 w = some r) : zCT G m_Zip_clear [.ref (z0 G + v0)] w (oI r.1) r.2 := zCT.ofV (by decide +kernel) (Or.inl ⟨kc_Zip_clear, rfl⟩) (Nat.le_of_ble_eq_true rfl) (b_Zip_clear_0_ok G F v0 w r h)

/-! ZipArray$Row.hasRoom(I)Z -/
def m_Row_hasRoom : zM := (⟨R_Row, "hasRoom", "(I)Z"⟩, prog_7_method_4_code, 2, (some .boolean), [], { frames := 0, cells := 0, slots := 0, locals := 0 })
theorem kc_Row_hasRoom : Cond.code (mY m_Row_hasRoom) (mC m_Row_hasRoom) (mL m_Row_hasRoom) (mT m_Row_hasRoom) ∈ zTb := tb_at 320 (by decide +kernel) rfl
theorem y_Row_hasRoom : (mY m_Row_hasRoom).cls ≠ "java/lang/invoke/MethodHandle" ∧ (mY m_Row_hasRoom).cls ≠ "java/lang/invoke/VarHandle" ∧ (parseMethodDescriptor (mY m_Row_hasRoom).desc).map (fun d => d.parameters.length) = some 1 := by decide +kernel
theorem d_Row_hasRoom_0 : decode (mC m_Row_hasRoom) 0 = .ok (.iload_n 1, 1) := by decide +kernel
theorem d_Row_hasRoom_1 : decode (mC m_Row_hasRoom) 1 = .ok (.aload_n 0, 1) := by decide +kernel
theorem d_Row_hasRoom_2 : decode (mC m_Row_hasRoom) 2 = .ok (.getfield 7, 3) := by decide +kernel
theorem d_Row_hasRoom_5 : decode (mC m_Row_hasRoom) 5 = .ok (.arraylength, 1) := by decide +kernel
theorem d_Row_hasRoom_6 : decode (mC m_Row_hasRoom) 6 = .ok (.aload_n 0, 1) := by decide +kernel
theorem d_Row_hasRoom_7 : decode (mC m_Row_hasRoom) 7 = .ok (.getfield 13, 3) := by decide +kernel
theorem d_Row_hasRoom_10 : decode (mC m_Row_hasRoom) 10 = .ok (.isub, 1) := by decide +kernel
theorem d_Row_hasRoom_11 : decode (mC m_Row_hasRoom) 11 = .ok (.if_icmp .gt 7, 3) := by decide +kernel
theorem d_Row_hasRoom_14 : decode (mC m_Row_hasRoom) 14 = .ok (.iconst 1, 1) := by decide +kernel
theorem d_Row_hasRoom_15 : decode (mC m_Row_hasRoom) 15 = .ok (.goto 4, 3) := by decide +kernel
theorem d_Row_hasRoom_18 : decode (mC m_Row_hasRoom) 18 = .ok (.iconst 0, 1) := by decide +kernel
theorem d_Row_hasRoom_19 : decode (mC m_Row_hasRoom) 19 = .ok (.ireturn, 1) := by decide +kernel
def b_Row_hasRoom_0 (F : Nat) (v0 : Nat) (v1 : Int32) (w : zW) : Option (Int32 × zW) := (getR w v0 0 0).bind fun x2 => (alen w x2).bind fun x5 => (getI w v0 0 1).bind fun x7 => if (x5 - x7) < v1 then (some ((0 : Int32), w)) else (some ((1 : Int32), w))
set_option maxRecDepth 100000 in
set_option maxHeartbeats 4000000 in
theorem b_Row_hasRoom_0_ok (G : zG) (F : Nat) (v0 : Nat) (v1 : Int32) (w : zW) (r : (Int32 × zW)) (h : b_Row_hasRoom_0 F v0 v1 w = some r) : zV G m_Row_hasRoom 0 [(0, .ref (z0 G + v0)), (1, .int v1)] [] w 0 0 (oI r.1) r.2 := by
  unfold b_Row_hasRoom_0 at h
  refine V_iload_n (i := 1) d_Row_hasRoom_0 rfl 1 rfl ?_
  refine V_aload_n (i := 0) d_Row_hasRoom_1 rfl 0 rfl ?_
  obtain ⟨x2, e2, h⟩ := ob h
  refine V_getR (ci := 0) (k := 0) d_Row_hasRoom_2 e2 rfl (by decide) in_Row k36 ?_
  obtain ⟨x5, e5, h⟩ := ob h
  refine V_alen d_Row_hasRoom_5 e5 ?_
  refine V_aload_n (i := 0) d_Row_hasRoom_6 rfl 0 rfl ?_
  obtain ⟨x7, e7, h⟩ := ob h
  refine V_getI (ci := 0) (k := 1) d_Row_hasRoom_7 e7 rfl (by decide) in_Row k41 ?_
  refine V_isub d_Row_hasRoom_10 ?_
  refine V_icmp_gt (tgt := 18) d_Row_hasRoom_11 (by decide) (fun c11 => ?_) (fun c11 => ?_)
  · rw [if_pos c11] at h
    refine V_iconst (v := 0) d_Row_hasRoom_18 (by decide) ?_
    obtain rfl := Option.some.inj h
    exact V_zret rfl (Or.inl rfl) (by decide) (by decide) d_Row_hasRoom_19
  · rw [if_neg c11] at h
    refine V_iconst (v := 1) d_Row_hasRoom_14 (by decide) ?_
    refine V_goto (tgt := 19) d_Row_hasRoom_15 (by decide) ?_
    obtain rfl := Option.some.inj h
    exact V_zret rfl (Or.inr rfl) (by decide) (by decide) d_Row_hasRoom_19
def f_Row_hasRoom (F : Nat) (v0 : Nat) (v1 : Int32) (w : zW) : Option (Int32 × zW) := b_Row_hasRoom_0 F v0 v1 w
theorem c_Row_hasRoom (G : zG) (F : Nat) (v0 : Nat) (v1 : Int32) (w : zW) (r : (Int32 × zW)) (h : f_Row_hasRoom F v0 v1 w = some r) : zCT G m_Row_hasRoom [.ref (z0 G + v0), .int v1] w (oI r.1) r.2 := zCT.ofV (by decide +kernel) (Or.inl ⟨kc_Row_hasRoom, rfl⟩) (Nat.le_of_ble_eq_true rfl) (b_Row_hasRoom_0_ok G F v0 v1 w r h)

/-! ZipArray$Row.append(I)V -/
def m_Row_append : zM := (⟨R_Row, "append", "(I)V"⟩, prog_7_method_6_code, 2, none, [], { frames := 0, cells := 0, slots := 0, locals := 0 })
theorem kc_Row_append : Cond.code (mY m_Row_append) (mC m_Row_append) (mL m_Row_append) (mT m_Row_append) ∈ zTb := tb_at 340 (by decide +kernel) rfl
theorem y_Row_append : (mY m_Row_append).cls ≠ "java/lang/invoke/MethodHandle" ∧ (mY m_Row_append).cls ≠ "java/lang/invoke/VarHandle" ∧ (parseMethodDescriptor (mY m_Row_append).desc).map (fun d => d.parameters.length) = some 1 := by decide +kernel
theorem d_Row_append_0 : decode (mC m_Row_append) 0 = .ok (.aload_n 0, 1) := by decide +kernel
theorem d_Row_append_1 : decode (mC m_Row_append) 1 = .ok (.getfield 13, 3) := by decide +kernel
theorem d_Row_append_4 : decode (mC m_Row_append) 4 = .ok (.aload_n 0, 1) := by decide +kernel
theorem d_Row_append_5 : decode (mC m_Row_append) 5 = .ok (.getfield 7, 3) := by decide +kernel
theorem d_Row_append_8 : decode (mC m_Row_append) 8 = .ok (.arraylength, 1) := by decide +kernel
theorem d_Row_append_9 : decode (mC m_Row_append) 9 = .ok (.if_icmp .ge 26, 3) := by decide +kernel
theorem d_Row_append_12 : decode (mC m_Row_append) 12 = .ok (.aload_n 0, 1) := by decide +kernel
theorem d_Row_append_13 : decode (mC m_Row_append) 13 = .ok (.getfield 7, 3) := by decide +kernel
theorem d_Row_append_16 : decode (mC m_Row_append) 16 = .ok (.aload_n 0, 1) := by decide +kernel
theorem d_Row_append_17 : decode (mC m_Row_append) 17 = .ok (.getfield 13, 3) := by decide +kernel
theorem d_Row_append_20 : decode (mC m_Row_append) 20 = .ok (.iload_n 1, 1) := by decide +kernel
theorem d_Row_append_21 : decode (mC m_Row_append) 21 = .ok (.iastore, 1) := by decide +kernel
theorem d_Row_append_22 : decode (mC m_Row_append) 22 = .ok (.aload_n 0, 1) := by decide +kernel
theorem d_Row_append_23 : decode (mC m_Row_append) 23 = .ok (.dup, 1) := by decide +kernel
theorem d_Row_append_24 : decode (mC m_Row_append) 24 = .ok (.getfield 13, 3) := by decide +kernel
theorem d_Row_append_27 : decode (mC m_Row_append) 27 = .ok (.iconst 1, 1) := by decide +kernel
theorem d_Row_append_28 : decode (mC m_Row_append) 28 = .ok (.iadd, 1) := by decide +kernel
theorem d_Row_append_29 : decode (mC m_Row_append) 29 = .ok (.putfield 13, 3) := by decide +kernel
theorem d_Row_append_32 : decode (mC m_Row_append) 32 = .ok (.goto 8, 3) := by decide +kernel
theorem d_Row_append_35 : decode (mC m_Row_append) 35 = .ok (.aload_n 0, 1) := by decide +kernel
theorem d_Row_append_36 : decode (mC m_Row_append) 36 = .ok (.iconst 1, 1) := by decide +kernel
theorem d_Row_append_37 : decode (mC m_Row_append) 37 = .ok (.putfield 17, 3) := by decide +kernel
theorem d_Row_append_40 : decode (mC m_Row_append) 40 = .ok (.return_, 1) := by decide +kernel
def b_Row_append_0 (F : Nat) (v0 : Nat) (v1 : Int32) (w : zW) : Option (Unit × zW) := (getI w v0 0 1).bind fun x1 => (getR w v0 0 0).bind fun x5 => (alen w x5).bind fun x8 => if x8 ≤ x1 then ((putI w v0 0 2 (1 : Int32)).bind fun w37 => some ((), w37)) else ((getR w v0 0 0).bind fun x13 => (getI w v0 0 1).bind fun x17 => (aset w x13 x17 v1).bind fun w21 => (getI w21 v0 0 1).bind fun x24 => (putI w21 v0 0 1 (x24 + (1 : Int32))).bind fun w29 => some ((), w29))
set_option maxRecDepth 100000 in
set_option maxHeartbeats 4000000 in
theorem b_Row_append_0_ok (G : zG) (F : Nat) (v0 : Nat) (v1 : Int32) (w : zW) (r : (Unit × zW)) (h : b_Row_append_0 F v0 v1 w = some r) : zV G m_Row_append 0 [(0, .ref (z0 G + v0)), (1, .int v1)] [] w 0 0 (oV r.1) r.2 := by
  unfold b_Row_append_0 at h
  refine V_aload_n (i := 0) d_Row_append_0 rfl 0 rfl ?_
  obtain ⟨x1, e1, h⟩ := ob h
  refine V_getI (ci := 0) (k := 1) d_Row_append_1 e1 rfl (by decide) in_Row k41 ?_
  refine V_aload_n (i := 0) d_Row_append_4 rfl 0 rfl ?_
  obtain ⟨x5, e5, h⟩ := ob h
  refine V_getR (ci := 0) (k := 0) d_Row_append_5 e5 rfl (by decide) in_Row k36 ?_
  obtain ⟨x8, e8, h⟩ := ob h
  refine V_alen d_Row_append_8 e8 ?_
  refine V_icmp_ge (tgt := 35) d_Row_append_9 (by decide) (fun c9 => ?_) (fun c9 => ?_)
  · rw [if_pos c9] at h
    refine V_aload_n (i := 0) d_Row_append_35 rfl 0 rfl ?_
    refine V_iconst (v := 1) d_Row_append_36 (by decide) ?_
    obtain ⟨w37, e37, h⟩ := ob h
    refine V_putI (ci := 0) (k := 2) t_Row d_Row_append_37 e37 rfl (by decide) in_Row k47 ty_Row nm_Row rfl (Or.inr ⟨rfl, Or.inr rfl⟩) ?_
    obtain rfl := Option.some.inj h
    exact V_vret rfl (by decide) (by decide) d_Row_append_40
  · rw [if_neg c9] at h
    refine V_aload_n (i := 0) d_Row_append_12 rfl 0 rfl ?_
    obtain ⟨x13, e13, h⟩ := ob h
    refine V_getR (ci := 0) (k := 0) d_Row_append_13 e13 rfl (by decide) in_Row k36 ?_
    refine V_aload_n (i := 0) d_Row_append_16 rfl 0 rfl ?_
    obtain ⟨x17, e17, h⟩ := ob h
    refine V_getI (ci := 0) (k := 1) d_Row_append_17 e17 rfl (by decide) in_Row k41 ?_
    refine V_iload_n (i := 1) d_Row_append_20 rfl 1 rfl ?_
    obtain ⟨w21, e21, h⟩ := ob h
    refine V_aset d_Row_append_21 e21 ?_
    refine V_aload_n (i := 0) d_Row_append_22 rfl 0 rfl ?_
    refine V_dup rfl d_Row_append_23 ?_
    obtain ⟨x24, e24, h⟩ := ob h
    refine V_getI (ci := 0) (k := 1) d_Row_append_24 e24 rfl (by decide) in_Row k41 ?_
    refine V_iconst (v := 1) d_Row_append_27 (by decide) ?_
    refine V_iadd d_Row_append_28 ?_
    obtain ⟨w29, e29, h⟩ := ob h
    refine V_putI (ci := 0) (k := 1) t_Row d_Row_append_29 e29 rfl (by decide) in_Row k41 ty_Row nm_Row rfl (Or.inl rfl) ?_
    refine V_goto (tgt := 40) d_Row_append_32 (by decide) ?_
    obtain rfl := Option.some.inj h
    exact V_vret rfl (by decide) (by decide) d_Row_append_40
def f_Row_append (F : Nat) (v0 : Nat) (v1 : Int32) (w : zW) : Option (Unit × zW) := b_Row_append_0 F v0 v1 w
theorem c_Row_append (G : zG) (F : Nat) (v0 : Nat) (v1 : Int32) (w : zW) (r : (Unit × zW)) (h : f_Row_append F v0 v1 w = some r) : zCT G m_Row_append [.ref (z0 G + v0), .int v1] w (oV r.1) r.2 := zCT.ofV (by decide +kernel) (Or.inl ⟨kc_Row_append, rfl⟩) (Nat.le_of_ble_eq_true rfl) (b_Row_append_0_ok G F v0 v1 w r h)

/-! ZipArray$Row.appendHighestFirst(JI)V -/
def m_Row_appendHighestFirst : zM := (⟨R_Row, "appendHighestFirst", "(JI)V"⟩, prog_7_method_8_code, 5, none, [], { frames := 1, cells := 0, slots := 0, locals := 21 })
theorem k337 : Cond.methodLink R_Row 25 (mY m_Row_append) ∈ zTb := tb_at 337 (by decide +kernel) rfl
theorem k338 : Cond.instanceMethod (mY m_Row_append) ∈ zTb := tb_at 338 (by decide +kernel) rfl
theorem k339 : Cond.selects R_Row (mY m_Row_append) (mY m_Row_append) ∈ zTb := tb_at 339 (by decide +kernel) rfl
theorem kc_Row_appendHighestFirst : Cond.code (mY m_Row_appendHighestFirst) (mC m_Row_appendHighestFirst) (mL m_Row_appendHighestFirst) (mT m_Row_appendHighestFirst) ∈ zTb := tb_at 626 (by decide +kernel) rfl
theorem y_Row_appendHighestFirst : (mY m_Row_appendHighestFirst).cls ≠ "java/lang/invoke/MethodHandle" ∧ (mY m_Row_appendHighestFirst).cls ≠ "java/lang/invoke/VarHandle" ∧ (parseMethodDescriptor (mY m_Row_appendHighestFirst).desc).map (fun d => d.parameters.length) = some 2 := by decide +kernel
theorem d_Row_appendHighestFirst_0 : decode (mC m_Row_appendHighestFirst) 0 = .ok (.iload_n 3, 1) := by decide +kernel
theorem d_Row_appendHighestFirst_1 : decode (mC m_Row_appendHighestFirst) 1 = .ok (.iconst 1, 1) := by decide +kernel
theorem d_Row_appendHighestFirst_2 : decode (mC m_Row_appendHighestFirst) 2 = .ok (.isub, 1) := by decide +kernel
theorem d_Row_appendHighestFirst_3 : decode (mC m_Row_appendHighestFirst) 3 = .ok (.istore 4, 2) := by decide +kernel
theorem d_Row_appendHighestFirst_5 : decode (mC m_Row_appendHighestFirst) 5 = .ok (.iload 4, 2) := by decide +kernel
theorem d_Row_appendHighestFirst_7 : decode (mC m_Row_appendHighestFirst) 7 = .ok (.ifCond .lt 25, 3) := by decide +kernel
theorem d_Row_appendHighestFirst_10 : decode (mC m_Row_appendHighestFirst) 10 = .ok (.aload_n 0, 1) := by decide +kernel
theorem d_Row_appendHighestFirst_11 : decode (mC m_Row_appendHighestFirst) 11 = .ok (.lload_n 1, 1) := by decide +kernel
theorem d_Row_appendHighestFirst_12 : decode (mC m_Row_appendHighestFirst) 12 = .ok (.bipush 8, 2) := by decide +kernel
theorem d_Row_appendHighestFirst_14 : decode (mC m_Row_appendHighestFirst) 14 = .ok (.iload 4, 2) := by decide +kernel
theorem d_Row_appendHighestFirst_16 : decode (mC m_Row_appendHighestFirst) 16 = .ok (.imul, 1) := by decide +kernel
theorem d_Row_appendHighestFirst_17 : decode (mC m_Row_appendHighestFirst) 17 = .ok (.lushr, 1) := by decide +kernel
theorem d_Row_appendHighestFirst_18 : decode (mC m_Row_appendHighestFirst) 18 = .ok (.l2i, 1) := by decide +kernel
theorem d_Row_appendHighestFirst_19 : decode (mC m_Row_appendHighestFirst) 19 = .ok (.sipush 255, 3) := by decide +kernel
theorem d_Row_appendHighestFirst_22 : decode (mC m_Row_appendHighestFirst) 22 = .ok (.iand, 1) := by decide +kernel
theorem d_Row_appendHighestFirst_23 : decode (mC m_Row_appendHighestFirst) 23 = .ok (.invokevirtual 25, 3) := by decide +kernel
theorem d_Row_appendHighestFirst_26 : decode (mC m_Row_appendHighestFirst) 26 = .ok (.iinc 4 (-1), 3) := by decide +kernel
theorem d_Row_appendHighestFirst_29 : decode (mC m_Row_appendHighestFirst) 29 = .ok (.goto (-24), 3) := by decide +kernel
theorem d_Row_appendHighestFirst_32 : decode (mC m_Row_appendHighestFirst) 32 = .ok (.return_, 1) := by decide +kernel
def b_Row_appendHighestFirst_5 (F : Nat) (K5 : Nat → Int64 → Int32 → zW → Option (Unit × zW)) (v0 : Nat) (v1 : Int64) (v4 : Int32) (w : zW) : Option (Unit × zW) := if v4 < 0 then (some ((), w)) else ((zobj w v0 0).bind fun _ => (f_Row_append F v0 ((v1.toUInt64 >>> (((8 : Int32) * v4).toInt64.toUInt64 &&& Int64.toUInt64 63)).toInt64.toInt32 &&& (255 : Int32)) w).bind fun r23 => K5 v0 v1 (v4 + (-1 : Int32)) r23.2)
set_option maxRecDepth 100000 in
set_option maxHeartbeats 4000000 in
theorem b_Row_appendHighestFirst_5_ok (G : zG) (F : Nat) (K5 : Nat → Int64 → Int32 → zW → Option (Unit × zW)) (hK5 : ∀ (v0 : Nat) (v1 : Int64) (v4 : Int32) (w : zW) (r : (Unit × zW)), K5 v0 v1 v4 w = some r → zV G m_Row_appendHighestFirst 5 [(0, .ref (z0 G + v0)), (1, .long v1), (4, .int v4)] [] w 0 0 (oV r.1) r.2) (v0 : Nat) (v1 : Int64) (v4 : Int32) (w : zW) (r : (Unit × zW)) (h : b_Row_appendHighestFirst_5 F K5 v0 v1 v4 w = some r) : zV G m_Row_appendHighestFirst 5 [(0, .ref (z0 G + v0)), (1, .long v1), (4, .int v4)] [] w 0 0 (oV r.1) r.2 := by
  unfold b_Row_appendHighestFirst_5 at h
  refine V_iload (i := 4) d_Row_appendHighestFirst_5 2 rfl ?_
  refine V_if_lt (tgt := 32) d_Row_appendHighestFirst_7 (by decide) (fun c7 => ?_) (fun c7 => ?_)
  · rw [if_pos c7] at h
    obtain rfl := Option.some.inj h
    exact V_vret rfl (by decide) (by decide) d_Row_appendHighestFirst_32
  · rw [if_neg c7] at h
    refine V_aload_n (i := 0) d_Row_appendHighestFirst_10 rfl 0 rfl ?_
    refine V_lload_n (i := 1) d_Row_appendHighestFirst_11 rfl 1 rfl ?_
    refine V_bipush (v := 8) d_Row_appendHighestFirst_12 (by decide) ?_
    refine V_iload (i := 4) d_Row_appendHighestFirst_14 2 rfl ?_
    refine V_imul d_Row_appendHighestFirst_16 ?_
    refine V_lushr d_Row_appendHighestFirst_17 ?_
    refine V_l2i d_Row_appendHighestFirst_18 ?_
    refine V_sipush (v := 255) d_Row_appendHighestFirst_19 (by decide) ?_
    refine V_iand d_Row_appendHighestFirst_22 ?_
    obtain ⟨_, eo23, h⟩ := ob h
    obtain ⟨r23, e23, h⟩ := ob h
    refine V_call (v := none) (st := []) (inv_V (N := m_Row_append) (As := [.int ((v1.toUInt64 >>> (((8 : Int32) * v4).toInt64.toUInt64 &&& Int64.toUInt64 63)).toInt64.toInt32 &&& (255 : Int32))]) (ci := 0) d_Row_appendHighestFirst_23 eo23 rfl k337 k338 k339 kc_Row_append y_Row_append) ⟨Or.inl kc_Row_append, k2, by decide, by decide⟩ (Nat.le_of_ble_eq_true rfl) (by decide) (by decide) (c_Row_append G F v0 ((v1.toUInt64 >>> (((8 : Int32) * v4).toInt64.toUInt64 &&& Int64.toUInt64 63)).toInt64.toInt32 &&& (255 : Int32)) w r23 e23) ?_
    refine V_iinc (i := 4) (v := (v4 + (-1 : Int32))) d_Row_appendHighestFirst_26 2 rfl (congrArg (fun y => v4 + y) (by decide : Int32.ofInt (-1) = (-1 : Int32))) (by decide) rfl ?_
    refine V_goto (tgt := 5) d_Row_appendHighestFirst_29 (by decide) ?_
    refine V_lv [1, 2, 0] rfl ?_
    exact hK5 v0 v1 (v4 + (-1 : Int32)) r23.2 _ h
def l_Row_appendHighestFirst_5 (F : Nat) : Nat → Nat → Int64 → Int32 → zW → Option (Unit × zW)
  | 0 => fun _ _ _ _ => none
  | n + 1 => b_Row_appendHighestFirst_5 F (l_Row_appendHighestFirst_5 F n)
theorem l_Row_appendHighestFirst_5_ok (G : zG) (F : Nat) (n : Nat) :  ∀ (v0 : Nat) (v1 : Int64) (v4 : Int32) (w : zW) (r : (Unit × zW)), l_Row_appendHighestFirst_5 F n v0 v1 v4 w = some r → zV G m_Row_appendHighestFirst 5 [(0, .ref (z0 G + v0)), (1, .long v1), (4, .int v4)] [] w 0 0 (oV r.1) r.2 := by
  induction n with
  | zero => intro v0 v1 v4 w r h; exact nomatch (show (none : Option (Unit × zW)) = some r from h)
  | succ n ih => intro v0 v1 v4 w r h; exact b_Row_appendHighestFirst_5_ok G F (l_Row_appendHighestFirst_5 F n) ih v0 v1 v4 w r h
def b_Row_appendHighestFirst_0 (F : Nat) (v0 : Nat) (v1 : Int64) (v3 : Int32) (w : zW) : Option (Unit × zW) := l_Row_appendHighestFirst_5 F F v0 v1 (v3 - (1 : Int32)) w
set_option maxRecDepth 100000 in
set_option maxHeartbeats 4000000 in
theorem b_Row_appendHighestFirst_0_ok (G : zG) (F : Nat) (v0 : Nat) (v1 : Int64) (v3 : Int32) (w : zW) (r : (Unit × zW)) (h : b_Row_appendHighestFirst_0 F v0 v1 v3 w = some r) : zV G m_Row_appendHighestFirst 0 [(0, .ref (z0 G + v0)), (1, .long v1), (3, .int v3)] [] w 0 0 (oV r.1) r.2 := by
  unfold b_Row_appendHighestFirst_0 at h
  refine V_iload_n (i := 3) d_Row_appendHighestFirst_0 rfl 2 rfl ?_
  refine V_iconst (v := 1) d_Row_appendHighestFirst_1 (by decide) ?_
  refine V_isub d_Row_appendHighestFirst_2 ?_
  refine V_istore (i := 4) d_Row_appendHighestFirst_3 (by decide) rfl ?_
  refine V_lv [1, 2, 0] rfl ?_
  exact l_Row_appendHighestFirst_5_ok G F F v0 v1 (v3 - (1 : Int32)) w _ h
def f_Row_appendHighestFirst (F : Nat) (v0 : Nat) (v1 : Int64) (v3 : Int32) (w : zW) : Option (Unit × zW) := b_Row_appendHighestFirst_0 F v0 v1 v3 w
theorem c_Row_appendHighestFirst (G : zG) (F : Nat) (v0 : Nat) (v1 : Int64) (v3 : Int32) (w : zW) (r : (Unit × zW)) (h : f_Row_appendHighestFirst F v0 v1 v3 w = some r) : zCT G m_Row_appendHighestFirst [.ref (z0 G + v0), .long v1, .int v3] w (oV r.1) r.2 := zCT.ofV (by decide +kernel) (Or.inl ⟨kc_Row_appendHighestFirst, rfl⟩) (Nat.le_of_ble_eq_true rfl) (b_Row_appendHighestFirst_0_ok G F v0 v1 v3 w r h)

/-! ZipArray.appendTo(LZipArray$Row;JI)I -/
def m_Zip_appendTo : zM := (⟨R_Zip, "appendTo", "(LZipArray$Row;JI)I"⟩, prog_1_method_23_code, 4, (some .int), [], { frames := 6, cells := 1, slots := 6, locals := 90 })
theorem k14 : Cond.initialized R_IAE ∈ zTb := tb_at 14 (by decide +kernel) rfl
theorem k15 : Cond.initialized R_ISE ∈ zTb := tb_at 15 (by decide +kernel) rfl
theorem k318 : Cond.instanceMethod (mY m_Row_hasRoom) ∈ zTb := tb_at 318 (by decide +kernel) rfl
theorem k319 : Cond.selects R_Row (mY m_Row_hasRoom) (mY m_Row_hasRoom) ∈ zTb := tb_at 319 (by decide +kernel) rfl
theorem k541 : Cond.classLink R_Zip 79 R_IAE ∈ zTb := tb_at 541 (by decide +kernel) rfl
theorem k542 : Cond.instantiable R_IAE 6 ∈ zTb := tb_at 542 (by decide +kernel) rfl
theorem k585 : Cond.methodLink R_Zip 81 (Bundle.init0 R_IAE) ∈ zTb := tb_at 585 (by decide +kernel) rfl
theorem k607 : Cond.methodLink R_Zip 82 (mY m_Row_hasRoom) ∈ zTb := tb_at 607 (by decide +kernel) rfl
theorem k608 : Cond.classLink R_Zip 85 R_ISE ∈ zTb := tb_at 608 (by decide +kernel) rfl
theorem k609 : Cond.instantiable R_ISE 6 ∈ zTb := tb_at 609 (by decide +kernel) rfl
theorem k617 : Cond.methodLink R_Zip 87 (Bundle.init0 R_ISE) ∈ zTb := tb_at 617 (by decide +kernel) rfl
theorem k623 : Cond.methodLink R_Zip 205 (mY m_Row_appendHighestFirst) ∈ zTb := tb_at 623 (by decide +kernel) rfl
theorem k624 : Cond.instanceMethod (mY m_Row_appendHighestFirst) ∈ zTb := tb_at 624 (by decide +kernel) rfl
theorem k625 : Cond.selects R_Row (mY m_Row_appendHighestFirst) (mY m_Row_appendHighestFirst) ∈ zTb := tb_at 625 (by decide +kernel) rfl
theorem kc_Zip_appendTo : Cond.code (mY m_Zip_appendTo) (mC m_Zip_appendTo) (mL m_Zip_appendTo) (mT m_Zip_appendTo) ∈ zTb := tb_at 540 (by decide +kernel) rfl
theorem y_Zip_appendTo : (mY m_Zip_appendTo).cls ≠ "java/lang/invoke/MethodHandle" ∧ (mY m_Zip_appendTo).cls ≠ "java/lang/invoke/VarHandle" ∧ (parseMethodDescriptor (mY m_Zip_appendTo).desc).map (fun d => d.parameters.length) = some 3 := by decide +kernel
theorem d_Zip_appendTo_0 : decode (mC m_Zip_appendTo) 0 = .ok (.iload_n 3, 1) := by decide +kernel
theorem d_Zip_appendTo_1 : decode (mC m_Zip_appendTo) 1 = .ok (.iconst 1, 1) := by decide +kernel
theorem d_Zip_appendTo_2 : decode (mC m_Zip_appendTo) 2 = .ok (.if_icmp .lt 9, 3) := by decide +kernel
theorem d_Zip_appendTo_5 : decode (mC m_Zip_appendTo) 5 = .ok (.iload_n 3, 1) := by decide +kernel
theorem d_Zip_appendTo_6 : decode (mC m_Zip_appendTo) 6 = .ok (.bipush 8, 2) := by decide +kernel
theorem d_Zip_appendTo_8 : decode (mC m_Zip_appendTo) 8 = .ok (.if_icmp .le 11, 3) := by decide +kernel
theorem d_Zip_appendTo_11 : decode (mC m_Zip_appendTo) 11 = .ok (.new 79, 3) := by decide +kernel
theorem d_Zip_appendTo_14 : decode (mC m_Zip_appendTo) 14 = .ok (.dup, 1) := by decide +kernel
theorem d_Zip_appendTo_15 : decode (mC m_Zip_appendTo) 15 = .ok (.invokespecial 81, 3) := by decide +kernel
theorem d_Zip_appendTo_18 : decode (mC m_Zip_appendTo) 18 = .ok (.athrow, 1) := by decide +kernel
theorem d_Zip_appendTo_19 : decode (mC m_Zip_appendTo) 19 = .ok (.aload_n 0, 1) := by decide +kernel
theorem d_Zip_appendTo_20 : decode (mC m_Zip_appendTo) 20 = .ok (.iload_n 3, 1) := by decide +kernel
theorem d_Zip_appendTo_21 : decode (mC m_Zip_appendTo) 21 = .ok (.invokevirtual 82, 3) := by decide +kernel
theorem d_Zip_appendTo_24 : decode (mC m_Zip_appendTo) 24 = .ok (.ifCond .ne 11, 3) := by decide +kernel
theorem d_Zip_appendTo_27 : decode (mC m_Zip_appendTo) 27 = .ok (.new 85, 3) := by decide +kernel
theorem d_Zip_appendTo_30 : decode (mC m_Zip_appendTo) 30 = .ok (.dup, 1) := by decide +kernel
theorem d_Zip_appendTo_31 : decode (mC m_Zip_appendTo) 31 = .ok (.invokespecial 87, 3) := by decide +kernel
theorem d_Zip_appendTo_34 : decode (mC m_Zip_appendTo) 34 = .ok (.athrow, 1) := by decide +kernel
theorem d_Zip_appendTo_35 : decode (mC m_Zip_appendTo) 35 = .ok (.aload_n 0, 1) := by decide +kernel
theorem d_Zip_appendTo_36 : decode (mC m_Zip_appendTo) 36 = .ok (.lload_n 1, 1) := by decide +kernel
theorem d_Zip_appendTo_37 : decode (mC m_Zip_appendTo) 37 = .ok (.iload_n 3, 1) := by decide +kernel
theorem d_Zip_appendTo_38 : decode (mC m_Zip_appendTo) 38 = .ok (.invokevirtual 205, 3) := by decide +kernel
theorem d_Zip_appendTo_41 : decode (mC m_Zip_appendTo) 41 = .ok (.aload_n 0, 1) := by decide +kernel
theorem d_Zip_appendTo_42 : decode (mC m_Zip_appendTo) 42 = .ok (.getfield 64, 3) := by decide +kernel
theorem d_Zip_appendTo_45 : decode (mC m_Zip_appendTo) 45 = .ok (.ireturn, 1) := by decide +kernel
def b_Zip_appendTo_11 (F : Nat) (w : zW) : Option ((Int32 ⊕ Nat) × zW) := some (.inr w.length, w ++ [.inr (.inr (.inr (10, [])))])
set_option maxRecDepth 100000 in
set_option maxHeartbeats 4000000 in
theorem b_Zip_appendTo_11_ok (G : zG) (F : Nat) (w : zW) (r : ((Int32 ⊕ Nat) × zW)) (h : b_Zip_appendTo_11 F w = some r) : zV G m_Zip_appendTo 11 [] [] w 0 0 (oIT (z0 G) r.1) r.2 := by
  unfold b_Zip_appendTo_11 at h
  obtain rfl := Option.some.inj h
  exact V_throw (ci := 10) (X := R_IAE) d_Zip_appendTo_11 d_Zip_appendTo_14 d_Zip_appendTo_15 d_Zip_appendTo_18 rfl (by decide +kernel) k541 k542 k14 (at_IAE k585) (by decide) (by decide) (Nat.le_of_ble_eq_true rfl) (by decide) (by decide)
def b_Zip_appendTo_0 (F : Nat) (v0 : Nat) (v1 : Int64) (v3 : Int32) (w : zW) : Option ((Int32 ⊕ Nat) × zW) := if v3 < (1 : Int32) then (b_Zip_appendTo_11 F w) else (if v3 ≤ (8 : Int32) then ((zobj w v0 0).bind fun _ => (f_Row_hasRoom F v0 v3 w).bind fun r21 => if r21.1 = 0 then (some (.inr r21.2.length, r21.2 ++ [.inr (.inr (.inr (11, [])))])) else ((zobj r21.2 v0 0).bind fun _ => (f_Row_appendHighestFirst F v0 v1 v3 r21.2).bind fun r38 => (getI r38.2 v0 0 1).bind fun x42 => some ((.inl x42), r38.2))) else (b_Zip_appendTo_11 F w))
set_option maxRecDepth 100000 in
set_option maxHeartbeats 4000000 in
theorem b_Zip_appendTo_0_ok (G : zG) (F : Nat) (v0 : Nat) (v1 : Int64) (v3 : Int32) (w : zW) (r : ((Int32 ⊕ Nat) × zW)) (h : b_Zip_appendTo_0 F v0 v1 v3 w = some r) : zV G m_Zip_appendTo 0 [(0, .ref (z0 G + v0)), (1, .long v1), (3, .int v3)] [] w 0 0 (oIT (z0 G) r.1) r.2 := by
  unfold b_Zip_appendTo_0 at h
  refine V_iload_n (i := 3) d_Zip_appendTo_0 rfl 2 rfl ?_
  refine V_iconst (v := 1) d_Zip_appendTo_1 (by decide) ?_
  refine V_icmp_lt (tgt := 11) d_Zip_appendTo_2 (by decide) (fun c2 => ?_) (fun c2 => ?_)
  · rw [if_pos c2] at h
    refine V_lv [] rfl ?_
    exact b_Zip_appendTo_11_ok G F w _ h
  · rw [if_neg c2] at h
    refine V_iload_n (i := 3) d_Zip_appendTo_5 rfl 2 rfl ?_
    refine V_bipush (v := 8) d_Zip_appendTo_6 (by decide) ?_
    refine V_icmp_le (tgt := 19) d_Zip_appendTo_8 (by decide) (fun c8 => ?_) (fun c8 => ?_)
    · rw [if_pos c8] at h
      refine V_aload_n (i := 0) d_Zip_appendTo_19 rfl 0 rfl ?_
      refine V_iload_n (i := 3) d_Zip_appendTo_20 rfl 2 rfl ?_
      obtain ⟨_, eo21, h⟩ := ob h
      obtain ⟨r21, e21, h⟩ := ob h
      refine V_call (v := some (.int r21.1)) (st := []) (inv_V (N := m_Row_hasRoom) (As := [.int v3]) (ci := 0) d_Zip_appendTo_21 eo21 rfl k607 k318 k319 kc_Row_hasRoom y_Row_hasRoom) ⟨Or.inl kc_Row_hasRoom, k2, by decide, by decide⟩ (Nat.le_of_ble_eq_true rfl) (by decide) (by decide) (c_Row_hasRoom G F v0 v3 w r21 e21) ?_
      refine V_if_ne (tgt := 35) d_Zip_appendTo_24 (by decide) (fun c24 => ?_) (fun c24 => ?_)
      · rw [if_neg c24] at h
        refine V_aload_n (i := 0) d_Zip_appendTo_35 rfl 0 rfl ?_
        refine V_lload_n (i := 1) d_Zip_appendTo_36 rfl 1 rfl ?_
        refine V_iload_n (i := 3) d_Zip_appendTo_37 rfl 2 rfl ?_
        obtain ⟨_, eo38, h⟩ := ob h
        obtain ⟨r38, e38, h⟩ := ob h
        refine V_call (v := none) (st := []) (inv_V (N := m_Row_appendHighestFirst) (As := [.long v1, .int v3]) (ci := 0) d_Zip_appendTo_38 eo38 rfl k623 k624 k625 kc_Row_appendHighestFirst y_Row_appendHighestFirst) ⟨Or.inl kc_Row_appendHighestFirst, k2, by decide, by decide⟩ (Nat.le_of_ble_eq_true rfl) (by decide) (by decide) (c_Row_appendHighestFirst G F v0 v1 v3 r21.2 r38 e38) ?_
        refine V_aload_n (i := 0) d_Zip_appendTo_41 rfl 0 rfl ?_
        obtain ⟨x42, e42, h⟩ := ob h
        refine V_getI (ci := 0) (k := 1) d_Zip_appendTo_42 e42 rfl (by decide) in_Row k42 ?_
        obtain rfl := Option.some.inj h
        exact V_iret rfl (by decide) (by decide) d_Zip_appendTo_45
      · rw [if_pos c24] at h
        obtain rfl := Option.some.inj h
        exact V_throw (ci := 11) (X := R_ISE) d_Zip_appendTo_27 d_Zip_appendTo_30 d_Zip_appendTo_31 d_Zip_appendTo_34 rfl (by decide +kernel) k608 k609 k15 (at_ISE k617) (by decide) (by decide) (Nat.le_of_ble_eq_true rfl) (by decide) (by decide)
    · rw [if_neg c8] at h
      refine V_lv [] rfl ?_
      exact b_Zip_appendTo_11_ok G F w _ h
def f_Zip_appendTo (F : Nat) (v0 : Nat) (v1 : Int64) (v3 : Int32) (w : zW) : Option ((Int32 ⊕ Nat) × zW) := b_Zip_appendTo_0 F v0 v1 v3 w
theorem c_Zip_appendTo (G : zG) (F : Nat) (v0 : Nat) (v1 : Int64) (v3 : Int32) (w : zW) (r : ((Int32 ⊕ Nat) × zW)) (h : f_Zip_appendTo F v0 v1 v3 w = some r) : zCT G m_Zip_appendTo [.ref (z0 G + v0), .long v1, .int v3] w (oIT (z0 G) r.1) r.2 := zCT.ofV (by decide +kernel) (Or.inl ⟨kc_Zip_appendTo, rfl⟩) (Nat.le_of_ble_eq_true rfl) (b_Zip_appendTo_0_ok G F v0 v1 v3 w r h)

/-! ZipArray.give(JI)I -/
def m_Zip_give : zM := (⟨R_Zip, "give", "(JI)I"⟩, prog_1_method_3_code, 4, (some .int), [], { frames := 7, cells := 1, slots := 6, locals := 113 })
theorem k1 : Cond.initialized R_Zip ∈ zTb := tb_at 1 (by decide +kernel) rfl
theorem k538 : Cond.methodLink R_Zip 71 (mY m_Zip_appendTo) ∈ zTb := tb_at 538 (by decide +kernel) rfl
theorem k539 : Cond.static (mY m_Zip_appendTo) ∈ zTb := tb_at 539 (by decide +kernel) rfl
theorem kc_Zip_give : Cond.code (mY m_Zip_give) (mC m_Zip_give) (mL m_Zip_give) (mT m_Zip_give) ∈ zTb := tb_at 537 (by decide +kernel) rfl
theorem y_Zip_give : (mY m_Zip_give).cls ≠ "java/lang/invoke/MethodHandle" ∧ (mY m_Zip_give).cls ≠ "java/lang/invoke/VarHandle" ∧ (parseMethodDescriptor (mY m_Zip_give).desc).map (fun d => d.parameters.length) = some 2 := by decide +kernel
theorem d_Zip_give_0 : decode (mC m_Zip_give) 0 = .ok (.aload_n 0, 1) := by decide +kernel
theorem d_Zip_give_1 : decode (mC m_Zip_give) 1 = .ok (.getfield 14, 3) := by decide +kernel
theorem d_Zip_give_4 : decode (mC m_Zip_give) 4 = .ok (.lload_n 1, 1) := by decide +kernel
theorem d_Zip_give_5 : decode (mC m_Zip_give) 5 = .ok (.iload_n 3, 1) := by decide +kernel
theorem d_Zip_give_6 : decode (mC m_Zip_give) 6 = .ok (.invokestatic 71, 3) := by decide +kernel
theorem d_Zip_give_9 : decode (mC m_Zip_give) 9 = .ok (.ireturn, 1) := by decide +kernel
def b_Zip_give_0 (F : Nat) (v0 : Nat) (v1 : Int64) (v3 : Int32) (w : zW) : Option ((Int32 ⊕ Nat) × zW) := (getR w v0 8 0).bind fun x1 => (f_Zip_appendTo F x1 v1 v3 w).bind fun r => match r with | (.inl x6, w6) => some ((.inl x6), w6) | (.inr qx6, w6) => some (.inr qx6, w6)
set_option maxRecDepth 100000 in
set_option maxHeartbeats 4000000 in
theorem b_Zip_give_0_ok (G : zG) (F : Nat) (v0 : Nat) (v1 : Int64) (v3 : Int32) (w : zW) (r : ((Int32 ⊕ Nat) × zW)) (h : b_Zip_give_0 F v0 v1 v3 w = some r) : zV G m_Zip_give 0 [(0, .ref (z0 G + v0)), (1, .long v1), (3, .int v3)] [] w 0 0 (oIT (z0 G) r.1) r.2 := by
  unfold b_Zip_give_0 at h
  refine V_aload_n (i := 0) d_Zip_give_0 rfl 0 rfl ?_
  obtain ⟨x1, e1, h⟩ := ob h
  refine V_getR (ci := 8) (k := 0) d_Zip_give_1 e1 rfl (by decide) in_Zip k255 ?_
  refine V_lload_n (i := 1) d_Zip_give_4 rfl 1 rfl ?_
  refine V_iload_n (i := 3) d_Zip_give_5 rfl 2 rfl ?_
  obtain ⟨⟨x6 | qx6, w6⟩, e6, h⟩ := ob h
  · dsimp only at h
    refine V_call (v := some (.int x6)) (st := []) (inv_S (N := m_Zip_appendTo) (As := [.ref (z0 G + x1), .long v1, .int v3]) d_Zip_give_6 k538 k539 k1 (Or.inl kc_Zip_appendTo) y_Zip_appendTo) ⟨Or.inl kc_Zip_appendTo, k1, by decide, by decide⟩ (Nat.le_of_ble_eq_true rfl) (by decide) (by decide) (c_Zip_appendTo G F x1 v1 v3 w _ e6) ?_
    obtain rfl := Option.some.inj h
    exact V_iret rfl (by decide) (by decide) d_Zip_give_9
  · obtain rfl := Option.some.inj h
    exact V_callT (st := []) (inv_S (N := m_Zip_appendTo) (As := [.ref (z0 G + x1), .long v1, .int v3]) d_Zip_give_6 k538 k539 k1 (Or.inl kc_Zip_appendTo) y_Zip_appendTo) ⟨Or.inl kc_Zip_appendTo, k1, by decide, by decide⟩ (Nat.le_of_ble_eq_true rfl) (by decide) (by decide) (c_Zip_appendTo G F x1 v1 v3 w _ e6) (by decide)
def f_Zip_give (F : Nat) (v0 : Nat) (v1 : Int64) (v3 : Int32) (w : zW) : Option ((Int32 ⊕ Nat) × zW) := b_Zip_give_0 F v0 v1 v3 w
theorem c_Zip_give (G : zG) (F : Nat) (v0 : Nat) (v1 : Int64) (v3 : Int32) (w : zW) (r : ((Int32 ⊕ Nat) × zW)) (h : f_Zip_give F v0 v1 v3 w = some r) : zCT G m_Zip_give [.ref (z0 G + v0), .long v1, .int v3] w (oIT (z0 G) r.1) r.2 := zCT.ofV (by decide +kernel) (Or.inl ⟨kc_Zip_give, rfl⟩) (Nat.le_of_ble_eq_true rfl) (b_Zip_give_0_ok G F v0 v1 v3 w r h)

/-! ZipArray.isByte(I)Z -/
def m_Zip_isByte : zM := (⟨R_Zip, "isByte", "(I)Z"⟩, prog_1_method_30_code, 1, (some .boolean), [], { frames := 0, cells := 0, slots := 0, locals := 0 })
theorem kc_Zip_isByte : Cond.code (mY m_Zip_isByte) (mC m_Zip_isByte) (mL m_Zip_isByte) (mT m_Zip_isByte) ∈ zTb := tb_at 636 (by decide +kernel) rfl
theorem y_Zip_isByte : (mY m_Zip_isByte).cls ≠ "java/lang/invoke/MethodHandle" ∧ (mY m_Zip_isByte).cls ≠ "java/lang/invoke/VarHandle" ∧ (parseMethodDescriptor (mY m_Zip_isByte).desc).map (fun d => d.parameters.length) = some 1 := by decide +kernel
theorem d_Zip_isByte_0 : decode (mC m_Zip_isByte) 0 = .ok (.iload_n 0, 1) := by decide +kernel
theorem d_Zip_isByte_1 : decode (mC m_Zip_isByte) 1 = .ok (.ifCond .lt 14, 3) := by decide +kernel
theorem d_Zip_isByte_4 : decode (mC m_Zip_isByte) 4 = .ok (.iload_n 0, 1) := by decide +kernel
theorem d_Zip_isByte_5 : decode (mC m_Zip_isByte) 5 = .ok (.sipush 255, 3) := by decide +kernel
theorem d_Zip_isByte_8 : decode (mC m_Zip_isByte) 8 = .ok (.if_icmp .gt 7, 3) := by decide +kernel
theorem d_Zip_isByte_11 : decode (mC m_Zip_isByte) 11 = .ok (.iconst 1, 1) := by decide +kernel
theorem d_Zip_isByte_12 : decode (mC m_Zip_isByte) 12 = .ok (.goto 4, 3) := by decide +kernel
theorem d_Zip_isByte_15 : decode (mC m_Zip_isByte) 15 = .ok (.iconst 0, 1) := by decide +kernel
theorem d_Zip_isByte_16 : decode (mC m_Zip_isByte) 16 = .ok (.ireturn, 1) := by decide +kernel
def b_Zip_isByte_15 (F : Nat) (w : zW) : Option (Int32 × zW) := some ((0 : Int32), w)
set_option maxRecDepth 100000 in
set_option maxHeartbeats 4000000 in
theorem b_Zip_isByte_15_ok (G : zG) (F : Nat) (w : zW) (r : (Int32 × zW)) (h : b_Zip_isByte_15 F w = some r) : zV G m_Zip_isByte 15 [] [] w 0 0 (oI r.1) r.2 := by
  unfold b_Zip_isByte_15 at h
  refine V_iconst (v := 0) d_Zip_isByte_15 (by decide) ?_
  obtain rfl := Option.some.inj h
  exact V_zret rfl (Or.inl rfl) (by decide) (by decide) d_Zip_isByte_16
def b_Zip_isByte_0 (F : Nat) (v0 : Int32) (w : zW) : Option (Int32 × zW) := if v0 < 0 then (b_Zip_isByte_15 F w) else (if (255 : Int32) < v0 then (b_Zip_isByte_15 F w) else (some ((1 : Int32), w)))
set_option maxRecDepth 100000 in
set_option maxHeartbeats 4000000 in
theorem b_Zip_isByte_0_ok (G : zG) (F : Nat) (v0 : Int32) (w : zW) (r : (Int32 × zW)) (h : b_Zip_isByte_0 F v0 w = some r) : zV G m_Zip_isByte 0 [(0, .int v0)] [] w 0 0 (oI r.1) r.2 := by
  unfold b_Zip_isByte_0 at h
  refine V_iload_n (i := 0) d_Zip_isByte_0 rfl 0 rfl ?_
  refine V_if_lt (tgt := 15) d_Zip_isByte_1 (by decide) (fun c1 => ?_) (fun c1 => ?_)
  · rw [if_pos c1] at h
    refine V_lv [] rfl ?_
    exact b_Zip_isByte_15_ok G F w _ h
  · rw [if_neg c1] at h
    refine V_iload_n (i := 0) d_Zip_isByte_4 rfl 0 rfl ?_
    refine V_sipush (v := 255) d_Zip_isByte_5 (by decide) ?_
    refine V_icmp_gt (tgt := 15) d_Zip_isByte_8 (by decide) (fun c8 => ?_) (fun c8 => ?_)
    · rw [if_pos c8] at h
      refine V_lv [] rfl ?_
      exact b_Zip_isByte_15_ok G F w _ h
    · rw [if_neg c8] at h
      refine V_iconst (v := 1) d_Zip_isByte_11 (by decide) ?_
      refine V_goto (tgt := 16) d_Zip_isByte_12 (by decide) ?_
      obtain rfl := Option.some.inj h
      exact V_zret rfl (Or.inr rfl) (by decide) (by decide) d_Zip_isByte_16
def f_Zip_isByte (F : Nat) (v0 : Int32) (w : zW) : Option (Int32 × zW) := b_Zip_isByte_0 F v0 w
theorem c_Zip_isByte (G : zG) (F : Nat) (v0 : Int32) (w : zW) (r : (Int32 × zW)) (h : f_Zip_isByte F v0 w = some r) : zCT G m_Zip_isByte [.int v0] w (oI r.1) r.2 := zCT.ofV (by decide +kernel) (Or.inl ⟨kc_Zip_isByte, rfl⟩) (Nat.le_of_ble_eq_true rfl) (b_Zip_isByte_0_ok G F v0 w r h)

/-! ZipArray.fill(II)I -/
def m_Zip_fill : zM := (⟨R_Zip, "fill", "(II)I"⟩, prog_1_method_4_code, 4, (some .int), [], { frames := 6, cells := 1, slots := 6, locals := 90 })
theorem k634 : Cond.methodLink R_Zip 75 (mY m_Zip_isByte) ∈ zTb := tb_at 634 (by decide +kernel) rfl
theorem k635 : Cond.static (mY m_Zip_isByte) ∈ zTb := tb_at 635 (by decide +kernel) rfl
theorem k637 : Cond.methodLink R_Zip 88 (mY m_Row_append) ∈ zTb := tb_at 637 (by decide +kernel) rfl
theorem kc_Zip_fill : Cond.code (mY m_Zip_fill) (mC m_Zip_fill) (mL m_Zip_fill) (mT m_Zip_fill) ∈ zTb := tb_at 633 (by decide +kernel) rfl
theorem y_Zip_fill : (mY m_Zip_fill).cls ≠ "java/lang/invoke/MethodHandle" ∧ (mY m_Zip_fill).cls ≠ "java/lang/invoke/VarHandle" ∧ (parseMethodDescriptor (mY m_Zip_fill).desc).map (fun d => d.parameters.length) = some 2 := by decide +kernel
theorem d_Zip_fill_0 : decode (mC m_Zip_fill) 0 = .ok (.iload_n 1, 1) := by decide +kernel
theorem d_Zip_fill_1 : decode (mC m_Zip_fill) 1 = .ok (.invokestatic 75, 3) := by decide +kernel
theorem d_Zip_fill_4 : decode (mC m_Zip_fill) 4 = .ok (.ifCond .eq 15, 3) := by decide +kernel
theorem d_Zip_fill_7 : decode (mC m_Zip_fill) 7 = .ok (.iload_n 2, 1) := by decide +kernel
theorem d_Zip_fill_8 : decode (mC m_Zip_fill) 8 = .ok (.iconst 1, 1) := by decide +kernel
theorem d_Zip_fill_9 : decode (mC m_Zip_fill) 9 = .ok (.if_icmp .lt 10, 3) := by decide +kernel
theorem d_Zip_fill_12 : decode (mC m_Zip_fill) 12 = .ok (.iload_n 2, 1) := by decide +kernel
theorem d_Zip_fill_13 : decode (mC m_Zip_fill) 13 = .ok (.sipush 200, 3) := by decide +kernel
theorem d_Zip_fill_16 : decode (mC m_Zip_fill) 16 = .ok (.if_icmp .le 11, 3) := by decide +kernel
theorem d_Zip_fill_19 : decode (mC m_Zip_fill) 19 = .ok (.new 79, 3) := by decide +kernel
theorem d_Zip_fill_22 : decode (mC m_Zip_fill) 22 = .ok (.dup, 1) := by decide +kernel
theorem d_Zip_fill_23 : decode (mC m_Zip_fill) 23 = .ok (.invokespecial 81, 3) := by decide +kernel
theorem d_Zip_fill_26 : decode (mC m_Zip_fill) 26 = .ok (.athrow, 1) := by decide +kernel
theorem d_Zip_fill_27 : decode (mC m_Zip_fill) 27 = .ok (.aload_n 0, 1) := by decide +kernel
theorem d_Zip_fill_28 : decode (mC m_Zip_fill) 28 = .ok (.getfield 14, 3) := by decide +kernel
theorem d_Zip_fill_31 : decode (mC m_Zip_fill) 31 = .ok (.iload_n 2, 1) := by decide +kernel
theorem d_Zip_fill_32 : decode (mC m_Zip_fill) 32 = .ok (.invokevirtual 82, 3) := by decide +kernel
theorem d_Zip_fill_35 : decode (mC m_Zip_fill) 35 = .ok (.ifCond .ne 11, 3) := by decide +kernel
theorem d_Zip_fill_38 : decode (mC m_Zip_fill) 38 = .ok (.new 85, 3) := by decide +kernel
theorem d_Zip_fill_41 : decode (mC m_Zip_fill) 41 = .ok (.dup, 1) := by decide +kernel
theorem d_Zip_fill_42 : decode (mC m_Zip_fill) 42 = .ok (.invokespecial 87, 3) := by decide +kernel
theorem d_Zip_fill_45 : decode (mC m_Zip_fill) 45 = .ok (.athrow, 1) := by decide +kernel
theorem d_Zip_fill_46 : decode (mC m_Zip_fill) 46 = .ok (.iconst 0, 1) := by decide +kernel
theorem d_Zip_fill_47 : decode (mC m_Zip_fill) 47 = .ok (.istore_n 3, 1) := by decide +kernel
theorem d_Zip_fill_48 : decode (mC m_Zip_fill) 48 = .ok (.iload_n 3, 1) := by decide +kernel
theorem d_Zip_fill_49 : decode (mC m_Zip_fill) 49 = .ok (.iload_n 2, 1) := by decide +kernel
theorem d_Zip_fill_50 : decode (mC m_Zip_fill) 50 = .ok (.if_icmp .ge 17, 3) := by decide +kernel
theorem d_Zip_fill_53 : decode (mC m_Zip_fill) 53 = .ok (.aload_n 0, 1) := by decide +kernel
theorem d_Zip_fill_54 : decode (mC m_Zip_fill) 54 = .ok (.getfield 14, 3) := by decide +kernel
theorem d_Zip_fill_57 : decode (mC m_Zip_fill) 57 = .ok (.iload_n 1, 1) := by decide +kernel
theorem d_Zip_fill_58 : decode (mC m_Zip_fill) 58 = .ok (.invokevirtual 88, 3) := by decide +kernel
theorem d_Zip_fill_61 : decode (mC m_Zip_fill) 61 = .ok (.iinc 3 1, 3) := by decide +kernel
theorem d_Zip_fill_64 : decode (mC m_Zip_fill) 64 = .ok (.goto (-16), 3) := by decide +kernel
theorem d_Zip_fill_67 : decode (mC m_Zip_fill) 67 = .ok (.aload_n 0, 1) := by decide +kernel
theorem d_Zip_fill_68 : decode (mC m_Zip_fill) 68 = .ok (.getfield 14, 3) := by decide +kernel
theorem d_Zip_fill_71 : decode (mC m_Zip_fill) 71 = .ok (.getfield 64, 3) := by decide +kernel
theorem d_Zip_fill_74 : decode (mC m_Zip_fill) 74 = .ok (.ireturn, 1) := by decide +kernel
def b_Zip_fill_48 (F : Nat) (K48 : Nat → Int32 → Int32 → Int32 → zW → Option ((Int32 ⊕ Nat) × zW)) (v0 : Nat) (v1 : Int32) (v2 : Int32) (v3 : Int32) (w : zW) : Option ((Int32 ⊕ Nat) × zW) := if v2 ≤ v3 then ((getR w v0 8 0).bind fun x68 => (getI w x68 0 1).bind fun x71 => some ((.inl x71), w)) else ((getR w v0 8 0).bind fun x54 => (zobj w x54 0).bind fun _ => (f_Row_append F x54 v1 w).bind fun r58 => K48 v0 v1 v2 (v3 + (1 : Int32)) r58.2)
set_option maxRecDepth 100000 in
set_option maxHeartbeats 4000000 in
theorem b_Zip_fill_48_ok (G : zG) (F : Nat) (K48 : Nat → Int32 → Int32 → Int32 → zW → Option ((Int32 ⊕ Nat) × zW)) (hK48 : ∀ (v0 : Nat) (v1 : Int32) (v2 : Int32) (v3 : Int32) (w : zW) (r : ((Int32 ⊕ Nat) × zW)), K48 v0 v1 v2 v3 w = some r → zV G m_Zip_fill 48 [(0, .ref (z0 G + v0)), (1, .int v1), (2, .int v2), (3, .int v3)] [] w 0 0 (oIT (z0 G) r.1) r.2) (v0 : Nat) (v1 : Int32) (v2 : Int32) (v3 : Int32) (w : zW) (r : ((Int32 ⊕ Nat) × zW)) (h : b_Zip_fill_48 F K48 v0 v1 v2 v3 w = some r) : zV G m_Zip_fill 48 [(0, .ref (z0 G + v0)), (1, .int v1), (2, .int v2), (3, .int v3)] [] w 0 0 (oIT (z0 G) r.1) r.2 := by
  unfold b_Zip_fill_48 at h
  refine V_iload_n (i := 3) d_Zip_fill_48 rfl 3 rfl ?_
  refine V_iload_n (i := 2) d_Zip_fill_49 rfl 2 rfl ?_
  refine V_icmp_ge (tgt := 67) d_Zip_fill_50 (by decide) (fun c50 => ?_) (fun c50 => ?_)
  · rw [if_pos c50] at h
    refine V_aload_n (i := 0) d_Zip_fill_67 rfl 0 rfl ?_
    obtain ⟨x68, e68, h⟩ := ob h
    refine V_getR (ci := 8) (k := 0) d_Zip_fill_68 e68 rfl (by decide) in_Zip k255 ?_
    obtain ⟨x71, e71, h⟩ := ob h
    refine V_getI (ci := 0) (k := 1) d_Zip_fill_71 e71 rfl (by decide) in_Row k42 ?_
    obtain rfl := Option.some.inj h
    exact V_iret rfl (by decide) (by decide) d_Zip_fill_74
  · rw [if_neg c50] at h
    refine V_aload_n (i := 0) d_Zip_fill_53 rfl 0 rfl ?_
    obtain ⟨x54, e54, h⟩ := ob h
    refine V_getR (ci := 8) (k := 0) d_Zip_fill_54 e54 rfl (by decide) in_Zip k255 ?_
    refine V_iload_n (i := 1) d_Zip_fill_57 rfl 1 rfl ?_
    obtain ⟨_, eo58, h⟩ := ob h
    obtain ⟨r58, e58, h⟩ := ob h
    refine V_call (v := none) (st := []) (inv_V (N := m_Row_append) (As := [.int v1]) (ci := 0) d_Zip_fill_58 eo58 rfl k637 k338 k339 kc_Row_append y_Row_append) ⟨Or.inl kc_Row_append, k2, by decide, by decide⟩ (Nat.le_of_ble_eq_true rfl) (by decide) (by decide) (c_Row_append G F x54 v1 w r58 e58) ?_
    refine V_iinc (i := 3) (v := (v3 + (1 : Int32))) d_Zip_fill_61 3 rfl (congrArg (fun y => v3 + y) (by decide : Int32.ofInt (1) = (1 : Int32))) (by decide) rfl ?_
    refine V_goto (tgt := 48) d_Zip_fill_64 (by decide) ?_
    refine V_lv [1, 2, 3, 0] rfl ?_
    exact hK48 v0 v1 v2 (v3 + (1 : Int32)) r58.2 _ h
def l_Zip_fill_48 (F : Nat) : Nat → Nat → Int32 → Int32 → Int32 → zW → Option ((Int32 ⊕ Nat) × zW)
  | 0 => fun _ _ _ _ _ => none
  | n + 1 => b_Zip_fill_48 F (l_Zip_fill_48 F n)
theorem l_Zip_fill_48_ok (G : zG) (F : Nat) (n : Nat) :  ∀ (v0 : Nat) (v1 : Int32) (v2 : Int32) (v3 : Int32) (w : zW) (r : ((Int32 ⊕ Nat) × zW)), l_Zip_fill_48 F n v0 v1 v2 v3 w = some r → zV G m_Zip_fill 48 [(0, .ref (z0 G + v0)), (1, .int v1), (2, .int v2), (3, .int v3)] [] w 0 0 (oIT (z0 G) r.1) r.2 := by
  induction n with
  | zero => intro v0 v1 v2 v3 w r h; exact nomatch (show (none : Option ((Int32 ⊕ Nat) × zW)) = some r from h)
  | succ n ih => intro v0 v1 v2 v3 w r h; exact b_Zip_fill_48_ok G F (l_Zip_fill_48 F n) ih v0 v1 v2 v3 w r h
def b_Zip_fill_19 (F : Nat) (w : zW) : Option ((Int32 ⊕ Nat) × zW) := some (.inr w.length, w ++ [.inr (.inr (.inr (10, [])))])
set_option maxRecDepth 100000 in
set_option maxHeartbeats 4000000 in
theorem b_Zip_fill_19_ok (G : zG) (F : Nat) (w : zW) (r : ((Int32 ⊕ Nat) × zW)) (h : b_Zip_fill_19 F w = some r) : zV G m_Zip_fill 19 [] [] w 0 0 (oIT (z0 G) r.1) r.2 := by
  unfold b_Zip_fill_19 at h
  obtain rfl := Option.some.inj h
  exact V_throw (ci := 10) (X := R_IAE) d_Zip_fill_19 d_Zip_fill_22 d_Zip_fill_23 d_Zip_fill_26 rfl (by decide +kernel) k541 k542 k14 (at_IAE k585) (by decide) (by decide) (Nat.le_of_ble_eq_true rfl) (by decide) (by decide)
def b_Zip_fill_0 (F : Nat) (v0 : Nat) (v1 : Int32) (v2 : Int32) (w : zW) : Option ((Int32 ⊕ Nat) × zW) := (f_Zip_isByte F v1 w).bind fun r1 => if r1.1 = 0 then (b_Zip_fill_19 F r1.2) else (if v2 < (1 : Int32) then (b_Zip_fill_19 F r1.2) else (if v2 ≤ (200 : Int32) then ((getR r1.2 v0 8 0).bind fun x28 => (zobj r1.2 x28 0).bind fun _ => (f_Row_hasRoom F x28 v2 r1.2).bind fun r32 => if r32.1 = 0 then (some (.inr r32.2.length, r32.2 ++ [.inr (.inr (.inr (11, [])))])) else (l_Zip_fill_48 F F v0 v1 v2 (0 : Int32) r32.2)) else (b_Zip_fill_19 F r1.2)))
set_option maxRecDepth 100000 in
set_option maxHeartbeats 4000000 in
theorem b_Zip_fill_0_ok (G : zG) (F : Nat) (v0 : Nat) (v1 : Int32) (v2 : Int32) (w : zW) (r : ((Int32 ⊕ Nat) × zW)) (h : b_Zip_fill_0 F v0 v1 v2 w = some r) : zV G m_Zip_fill 0 [(0, .ref (z0 G + v0)), (1, .int v1), (2, .int v2)] [] w 0 0 (oIT (z0 G) r.1) r.2 := by
  unfold b_Zip_fill_0 at h
  refine V_iload_n (i := 1) d_Zip_fill_0 rfl 1 rfl ?_
  obtain ⟨r1, e1, h⟩ := ob h
  refine V_call (v := some (.int r1.1)) (st := []) (inv_S (N := m_Zip_isByte) (As := [.int v1]) d_Zip_fill_1 k634 k635 k1 (Or.inl kc_Zip_isByte) y_Zip_isByte) ⟨Or.inl kc_Zip_isByte, k1, by decide, by decide⟩ (Nat.le_of_ble_eq_true rfl) (by decide) (by decide) (c_Zip_isByte G F v1 w r1 e1) ?_
  refine V_if_eq (tgt := 19) d_Zip_fill_4 (by decide) (fun c4 => ?_) (fun c4 => ?_)
  · rw [if_pos c4] at h
    refine V_lv [] rfl ?_
    exact b_Zip_fill_19_ok G F r1.2 _ h
  · rw [if_neg c4] at h
    refine V_iload_n (i := 2) d_Zip_fill_7 rfl 2 rfl ?_
    refine V_iconst (v := 1) d_Zip_fill_8 (by decide) ?_
    refine V_icmp_lt (tgt := 19) d_Zip_fill_9 (by decide) (fun c9 => ?_) (fun c9 => ?_)
    · rw [if_pos c9] at h
      refine V_lv [] rfl ?_
      exact b_Zip_fill_19_ok G F r1.2 _ h
    · rw [if_neg c9] at h
      refine V_iload_n (i := 2) d_Zip_fill_12 rfl 2 rfl ?_
      refine V_sipush (v := 200) d_Zip_fill_13 (by decide) ?_
      refine V_icmp_le (tgt := 27) d_Zip_fill_16 (by decide) (fun c16 => ?_) (fun c16 => ?_)
      · rw [if_pos c16] at h
        refine V_aload_n (i := 0) d_Zip_fill_27 rfl 0 rfl ?_
        obtain ⟨x28, e28, h⟩ := ob h
        refine V_getR (ci := 8) (k := 0) d_Zip_fill_28 e28 rfl (by decide) in_Zip k255 ?_
        refine V_iload_n (i := 2) d_Zip_fill_31 rfl 2 rfl ?_
        obtain ⟨_, eo32, h⟩ := ob h
        obtain ⟨r32, e32, h⟩ := ob h
        refine V_call (v := some (.int r32.1)) (st := []) (inv_V (N := m_Row_hasRoom) (As := [.int v2]) (ci := 0) d_Zip_fill_32 eo32 rfl k607 k318 k319 kc_Row_hasRoom y_Row_hasRoom) ⟨Or.inl kc_Row_hasRoom, k2, by decide, by decide⟩ (Nat.le_of_ble_eq_true rfl) (by decide) (by decide) (c_Row_hasRoom G F x28 v2 r1.2 r32 e32) ?_
        refine V_if_ne (tgt := 46) d_Zip_fill_35 (by decide) (fun c35 => ?_) (fun c35 => ?_)
        · rw [if_neg c35] at h
          refine V_iconst (v := 0) d_Zip_fill_46 (by decide) ?_
          refine V_istore_n (i := 3) d_Zip_fill_47 rfl (by decide) rfl ?_
          refine V_lv [1, 2, 3, 0] rfl ?_
          exact l_Zip_fill_48_ok G F F v0 v1 v2 (0 : Int32) r32.2 _ h
        · rw [if_pos c35] at h
          obtain rfl := Option.some.inj h
          exact V_throw (ci := 11) (X := R_ISE) d_Zip_fill_38 d_Zip_fill_41 d_Zip_fill_42 d_Zip_fill_45 rfl (by decide +kernel) k608 k609 k15 (at_ISE k617) (by decide) (by decide) (Nat.le_of_ble_eq_true rfl) (by decide) (by decide)
      · rw [if_neg c16] at h
        refine V_lv [] rfl ?_
        exact b_Zip_fill_19_ok G F r1.2 _ h
def f_Zip_fill (F : Nat) (v0 : Nat) (v1 : Int32) (v2 : Int32) (w : zW) : Option ((Int32 ⊕ Nat) × zW) := b_Zip_fill_0 F v0 v1 v2 w
theorem c_Zip_fill (G : zG) (F : Nat) (v0 : Nat) (v1 : Int32) (v2 : Int32) (w : zW) (r : ((Int32 ⊕ Nat) × zW)) (h : f_Zip_fill F v0 v1 v2 w = some r) : zCT G m_Zip_fill [.ref (z0 G + v0), .int v1, .int v2] w (oIT (z0 G) r.1) r.2 := zCT.ofV (by decide +kernel) (Or.inl ⟨kc_Zip_fill, rfl⟩) (Nat.le_of_ble_eq_true rfl) (b_Zip_fill_0_ok G F v0 v1 v2 w r h)

/-! ZipArray.held()I -/
def m_Zip_held : zM := (⟨R_Zip, "held", "()I"⟩, prog_1_method_5_code, 1, (some .int), [], { frames := 0, cells := 0, slots := 0, locals := 0 })
theorem kc_Zip_held : Cond.code (mY m_Zip_held) (mC m_Zip_held) (mL m_Zip_held) (mT m_Zip_held) ∈ zTb := tb_at 294 (by decide +kernel) rfl
theorem y_Zip_held : (mY m_Zip_held).cls ≠ "java/lang/invoke/MethodHandle" ∧ (mY m_Zip_held).cls ≠ "java/lang/invoke/VarHandle" ∧ (parseMethodDescriptor (mY m_Zip_held).desc).map (fun d => d.parameters.length) = some 0 := by decide +kernel
theorem d_Zip_held_0 : decode (mC m_Zip_held) 0 = .ok (.aload_n 0, 1) := by decide +kernel
theorem d_Zip_held_1 : decode (mC m_Zip_held) 1 = .ok (.getfield 14, 3) := by decide +kernel
theorem d_Zip_held_4 : decode (mC m_Zip_held) 4 = .ok (.getfield 64, 3) := by decide +kernel
theorem d_Zip_held_7 : decode (mC m_Zip_held) 7 = .ok (.ireturn, 1) := by decide +kernel
def b_Zip_held_0 (F : Nat) (v0 : Nat) (w : zW) : Option (Int32 × zW) := (getR w v0 8 0).bind fun x1 => (getI w x1 0 1).bind fun x4 => some (x4, w)
set_option maxRecDepth 100000 in
set_option maxHeartbeats 4000000 in
theorem b_Zip_held_0_ok (G : zG) (F : Nat) (v0 : Nat) (w : zW) (r : (Int32 × zW)) (h : b_Zip_held_0 F v0 w = some r) : zV G m_Zip_held 0 [(0, .ref (z0 G + v0))] [] w 0 0 (oI r.1) r.2 := by
  unfold b_Zip_held_0 at h
  refine V_aload_n (i := 0) d_Zip_held_0 rfl 0 rfl ?_
  obtain ⟨x1, e1, h⟩ := ob h
  refine V_getR (ci := 8) (k := 0) d_Zip_held_1 e1 rfl (by decide) in_Zip k255 ?_
  obtain ⟨x4, e4, h⟩ := ob h
  refine V_getI (ci := 0) (k := 1) d_Zip_held_4 e4 rfl (by decide) in_Row k42 ?_
  obtain rfl := Option.some.inj h
  exact V_iret rfl (by decide) (by decide) d_Zip_held_7
def f_Zip_held (F : Nat) (v0 : Nat) (w : zW) : Option (Int32 × zW) := b_Zip_held_0 F v0 w
theorem c_Zip_held (G : zG) (F : Nat) (v0 : Nat) (w : zW) (r : (Int32 × zW)) (h : f_Zip_held F v0 w = some r) : zCT G m_Zip_held [.ref (z0 G + v0)] w (oI r.1) r.2 := zCT.ofV (by decide +kernel) (Or.inl ⟨kc_Zip_held, rfl⟩) (Nat.le_of_ble_eq_true rfl) (b_Zip_held_0_ok G F v0 w r h)

/-! ZipArray$Row.has(I)Z -/
def m_Row_has : zM := (⟨R_Row, "has", "(I)Z"⟩, prog_7_method_3_code, 2, (some .boolean), [], { frames := 0, cells := 0, slots := 0, locals := 0 })
theorem kc_Row_has : Cond.code (mY m_Row_has) (mC m_Row_has) (mL m_Row_has) (mT m_Row_has) ∈ zTb := tb_at 406 (by decide +kernel) rfl
theorem y_Row_has : (mY m_Row_has).cls ≠ "java/lang/invoke/MethodHandle" ∧ (mY m_Row_has).cls ≠ "java/lang/invoke/VarHandle" ∧ (parseMethodDescriptor (mY m_Row_has).desc).map (fun d => d.parameters.length) = some 1 := by decide +kernel
theorem d_Row_has_0 : decode (mC m_Row_has) 0 = .ok (.iload_n 1, 1) := by decide +kernel
theorem d_Row_has_1 : decode (mC m_Row_has) 1 = .ok (.ifCond .lt 15, 3) := by decide +kernel
theorem d_Row_has_4 : decode (mC m_Row_has) 4 = .ok (.iload_n 1, 1) := by decide +kernel
theorem d_Row_has_5 : decode (mC m_Row_has) 5 = .ok (.aload_n 0, 1) := by decide +kernel
theorem d_Row_has_6 : decode (mC m_Row_has) 6 = .ok (.getfield 13, 3) := by decide +kernel
theorem d_Row_has_9 : decode (mC m_Row_has) 9 = .ok (.if_icmp .ge 7, 3) := by decide +kernel
theorem d_Row_has_12 : decode (mC m_Row_has) 12 = .ok (.iconst 1, 1) := by decide +kernel
theorem d_Row_has_13 : decode (mC m_Row_has) 13 = .ok (.goto 4, 3) := by decide +kernel
theorem d_Row_has_16 : decode (mC m_Row_has) 16 = .ok (.iconst 0, 1) := by decide +kernel
theorem d_Row_has_17 : decode (mC m_Row_has) 17 = .ok (.ireturn, 1) := by decide +kernel
def b_Row_has_16 (F : Nat) (w : zW) : Option (Int32 × zW) := some ((0 : Int32), w)
set_option maxRecDepth 100000 in
set_option maxHeartbeats 4000000 in
theorem b_Row_has_16_ok (G : zG) (F : Nat) (w : zW) (r : (Int32 × zW)) (h : b_Row_has_16 F w = some r) : zV G m_Row_has 16 [] [] w 0 0 (oI r.1) r.2 := by
  unfold b_Row_has_16 at h
  refine V_iconst (v := 0) d_Row_has_16 (by decide) ?_
  obtain rfl := Option.some.inj h
  exact V_zret rfl (Or.inl rfl) (by decide) (by decide) d_Row_has_17
def b_Row_has_0 (F : Nat) (v0 : Nat) (v1 : Int32) (w : zW) : Option (Int32 × zW) := if v1 < 0 then (b_Row_has_16 F w) else ((getI w v0 0 1).bind fun x6 => if x6 ≤ v1 then (b_Row_has_16 F w) else (some ((1 : Int32), w)))
set_option maxRecDepth 100000 in
set_option maxHeartbeats 4000000 in
theorem b_Row_has_0_ok (G : zG) (F : Nat) (v0 : Nat) (v1 : Int32) (w : zW) (r : (Int32 × zW)) (h : b_Row_has_0 F v0 v1 w = some r) : zV G m_Row_has 0 [(0, .ref (z0 G + v0)), (1, .int v1)] [] w 0 0 (oI r.1) r.2 := by
  unfold b_Row_has_0 at h
  refine V_iload_n (i := 1) d_Row_has_0 rfl 1 rfl ?_
  refine V_if_lt (tgt := 16) d_Row_has_1 (by decide) (fun c1 => ?_) (fun c1 => ?_)
  · rw [if_pos c1] at h
    refine V_lv [] rfl ?_
    exact b_Row_has_16_ok G F w _ h
  · rw [if_neg c1] at h
    refine V_iload_n (i := 1) d_Row_has_4 rfl 1 rfl ?_
    refine V_aload_n (i := 0) d_Row_has_5 rfl 0 rfl ?_
    obtain ⟨x6, e6, h⟩ := ob h
    refine V_getI (ci := 0) (k := 1) d_Row_has_6 e6 rfl (by decide) in_Row k41 ?_
    refine V_icmp_ge (tgt := 16) d_Row_has_9 (by decide) (fun c9 => ?_) (fun c9 => ?_)
    · rw [if_pos c9] at h
      refine V_lv [] rfl ?_
      exact b_Row_has_16_ok G F w _ h
    · rw [if_neg c9] at h
      refine V_iconst (v := 1) d_Row_has_12 (by decide) ?_
      refine V_goto (tgt := 17) d_Row_has_13 (by decide) ?_
      obtain rfl := Option.some.inj h
      exact V_zret rfl (Or.inr rfl) (by decide) (by decide) d_Row_has_17
def f_Row_has (F : Nat) (v0 : Nat) (v1 : Int32) (w : zW) : Option (Int32 × zW) := b_Row_has_0 F v0 v1 w
theorem c_Row_has (G : zG) (F : Nat) (v0 : Nat) (v1 : Int32) (w : zW) (r : (Int32 × zW)) (h : f_Row_has F v0 v1 w = some r) : zCT G m_Row_has [.ref (z0 G + v0), .int v1] w (oI r.1) r.2 := zCT.ofV (by decide +kernel) (Or.inl ⟨kc_Row_has, rfl⟩) (Nat.le_of_ble_eq_true rfl) (b_Row_has_0_ok G F v0 v1 w r h)

/-! ZipArray$Row.get(I)I -/
def m_Row_get : zM := (⟨R_Row, "get", "(I)I"⟩, prog_7_method_5_code, 2, (some .int), [], { frames := 1, cells := 0, slots := 0, locals := 21 })
theorem k403 : Cond.methodLink R_Row 21 (mY m_Row_has) ∈ zTb := tb_at 403 (by decide +kernel) rfl
theorem k404 : Cond.instanceMethod (mY m_Row_has) ∈ zTb := tb_at 404 (by decide +kernel) rfl
theorem k405 : Cond.selects R_Row (mY m_Row_has) (mY m_Row_has) ∈ zTb := tb_at 405 (by decide +kernel) rfl
theorem kc_Row_get : Cond.code (mY m_Row_get) (mC m_Row_get) (mL m_Row_get) (mT m_Row_get) ∈ zTb := tb_at 402 (by decide +kernel) rfl
theorem y_Row_get : (mY m_Row_get).cls ≠ "java/lang/invoke/MethodHandle" ∧ (mY m_Row_get).cls ≠ "java/lang/invoke/VarHandle" ∧ (parseMethodDescriptor (mY m_Row_get).desc).map (fun d => d.parameters.length) = some 1 := by decide +kernel
theorem d_Row_get_0 : decode (mC m_Row_get) 0 = .ok (.aload_n 0, 1) := by decide +kernel
theorem d_Row_get_1 : decode (mC m_Row_get) 1 = .ok (.iload_n 1, 1) := by decide +kernel
theorem d_Row_get_2 : decode (mC m_Row_get) 2 = .ok (.invokevirtual 21, 3) := by decide +kernel
theorem d_Row_get_5 : decode (mC m_Row_get) 5 = .ok (.ifCond .eq 12, 3) := by decide +kernel
theorem d_Row_get_8 : decode (mC m_Row_get) 8 = .ok (.aload_n 0, 1) := by decide +kernel
theorem d_Row_get_9 : decode (mC m_Row_get) 9 = .ok (.getfield 7, 3) := by decide +kernel
theorem d_Row_get_12 : decode (mC m_Row_get) 12 = .ok (.iload_n 1, 1) := by decide +kernel
theorem d_Row_get_13 : decode (mC m_Row_get) 13 = .ok (.iaload, 1) := by decide +kernel
theorem d_Row_get_14 : decode (mC m_Row_get) 14 = .ok (.goto 4, 3) := by decide +kernel
theorem d_Row_get_17 : decode (mC m_Row_get) 17 = .ok (.iconst 0, 1) := by decide +kernel
theorem d_Row_get_18 : decode (mC m_Row_get) 18 = .ok (.ireturn, 1) := by decide +kernel
def b_Row_get_0 (F : Nat) (v0 : Nat) (v1 : Int32) (w : zW) : Option (Int32 × zW) := (zobj w v0 0).bind fun _ => (f_Row_has F v0 v1 w).bind fun r2 => if r2.1 = 0 then (some ((0 : Int32), r2.2)) else ((getR r2.2 v0 0 0).bind fun x9 => (aget r2.2 x9 v1).bind fun x13 => some (x13, r2.2))
set_option maxRecDepth 100000 in
set_option maxHeartbeats 4000000 in
theorem b_Row_get_0_ok (G : zG) (F : Nat) (v0 : Nat) (v1 : Int32) (w : zW) (r : (Int32 × zW)) (h : b_Row_get_0 F v0 v1 w = some r) : zV G m_Row_get 0 [(0, .ref (z0 G + v0)), (1, .int v1)] [] w 0 0 (oI r.1) r.2 := by
  unfold b_Row_get_0 at h
  refine V_aload_n (i := 0) d_Row_get_0 rfl 0 rfl ?_
  refine V_iload_n (i := 1) d_Row_get_1 rfl 1 rfl ?_
  obtain ⟨_, eo2, h⟩ := ob h
  obtain ⟨r2, e2, h⟩ := ob h
  refine V_call (v := some (.int r2.1)) (st := []) (inv_V (N := m_Row_has) (As := [.int v1]) (ci := 0) d_Row_get_2 eo2 rfl k403 k404 k405 kc_Row_has y_Row_has) ⟨Or.inl kc_Row_has, k2, by decide, by decide⟩ (Nat.le_of_ble_eq_true rfl) (by decide) (by decide) (c_Row_has G F v0 v1 w r2 e2) ?_
  refine V_if_eq (tgt := 17) d_Row_get_5 (by decide) (fun c5 => ?_) (fun c5 => ?_)
  · rw [if_pos c5] at h
    refine V_iconst (v := 0) d_Row_get_17 (by decide) ?_
    obtain rfl := Option.some.inj h
    exact V_iret rfl (by decide) (by decide) d_Row_get_18
  · rw [if_neg c5] at h
    refine V_aload_n (i := 0) d_Row_get_8 rfl 0 rfl ?_
    obtain ⟨x9, e9, h⟩ := ob h
    refine V_getR (ci := 0) (k := 0) d_Row_get_9 e9 rfl (by decide) in_Row k36 ?_
    refine V_iload_n (i := 1) d_Row_get_12 rfl 1 rfl ?_
    obtain ⟨x13, e13, h⟩ := ob h
    refine V_aget d_Row_get_13 e13 ?_
    refine V_goto (tgt := 18) d_Row_get_14 (by decide) ?_
    obtain rfl := Option.some.inj h
    exact V_iret rfl (by decide) (by decide) d_Row_get_18
def f_Row_get (F : Nat) (v0 : Nat) (v1 : Int32) (w : zW) : Option (Int32 × zW) := b_Row_get_0 F v0 v1 w
theorem c_Row_get (G : zG) (F : Nat) (v0 : Nat) (v1 : Int32) (w : zW) (r : (Int32 × zW)) (h : f_Row_get F v0 v1 w = some r) : zCT G m_Row_get [.ref (z0 G + v0), .int v1] w (oI r.1) r.2 := zCT.ofV (by decide +kernel) (Or.inl ⟨kc_Row_get, rfl⟩) (Nat.le_of_ble_eq_true rfl) (b_Row_get_0_ok G F v0 v1 w r h)

/-! ZipArray.at(I)I -/
def m_Zip_at : zM := (⟨R_Zip, "at", "(I)I"⟩, prog_1_method_6_code, 2, (some .int), [], { frames := 6, cells := 1, slots := 6, locals := 90 })
theorem k16 : Cond.initialized R_IOOBE ∈ zTb := tb_at 16 (by decide +kernel) rfl
theorem k400 : Cond.instanceMethod (mY m_Row_get) ∈ zTb := tb_at 400 (by decide +kernel) rfl
theorem k401 : Cond.selects R_Row (mY m_Row_get) (mY m_Row_get) ∈ zTb := tb_at 401 (by decide +kernel) rfl
theorem k646 : Cond.methodLink R_Zip 91 (mY m_Row_has) ∈ zTb := tb_at 646 (by decide +kernel) rfl
theorem k647 : Cond.classLink R_Zip 94 R_IOOBE ∈ zTb := tb_at 647 (by decide +kernel) rfl
theorem k648 : Cond.instantiable R_IOOBE 6 ∈ zTb := tb_at 648 (by decide +kernel) rfl
theorem k656 : Cond.methodLink R_Zip 96 (Bundle.init0 R_IOOBE) ∈ zTb := tb_at 656 (by decide +kernel) rfl
theorem k662 : Cond.methodLink R_Zip 97 (mY m_Row_get) ∈ zTb := tb_at 662 (by decide +kernel) rfl
theorem kc_Zip_at : Cond.code (mY m_Zip_at) (mC m_Zip_at) (mL m_Zip_at) (mT m_Zip_at) ∈ zTb := tb_at 645 (by decide +kernel) rfl
theorem y_Zip_at : (mY m_Zip_at).cls ≠ "java/lang/invoke/MethodHandle" ∧ (mY m_Zip_at).cls ≠ "java/lang/invoke/VarHandle" ∧ (parseMethodDescriptor (mY m_Zip_at).desc).map (fun d => d.parameters.length) = some 1 := by decide +kernel
theorem d_Zip_at_0 : decode (mC m_Zip_at) 0 = .ok (.aload_n 0, 1) := by decide +kernel
theorem d_Zip_at_1 : decode (mC m_Zip_at) 1 = .ok (.getfield 14, 3) := by decide +kernel
theorem d_Zip_at_4 : decode (mC m_Zip_at) 4 = .ok (.iload_n 1, 1) := by decide +kernel
theorem d_Zip_at_5 : decode (mC m_Zip_at) 5 = .ok (.invokevirtual 91, 3) := by decide +kernel
theorem d_Zip_at_8 : decode (mC m_Zip_at) 8 = .ok (.ifCond .ne 11, 3) := by decide +kernel
theorem d_Zip_at_11 : decode (mC m_Zip_at) 11 = .ok (.new 94, 3) := by decide +kernel
theorem d_Zip_at_14 : decode (mC m_Zip_at) 14 = .ok (.dup, 1) := by decide +kernel
theorem d_Zip_at_15 : decode (mC m_Zip_at) 15 = .ok (.invokespecial 96, 3) := by decide +kernel
theorem d_Zip_at_18 : decode (mC m_Zip_at) 18 = .ok (.athrow, 1) := by decide +kernel
theorem d_Zip_at_19 : decode (mC m_Zip_at) 19 = .ok (.aload_n 0, 1) := by decide +kernel
theorem d_Zip_at_20 : decode (mC m_Zip_at) 20 = .ok (.getfield 14, 3) := by decide +kernel
theorem d_Zip_at_23 : decode (mC m_Zip_at) 23 = .ok (.iload_n 1, 1) := by decide +kernel
theorem d_Zip_at_24 : decode (mC m_Zip_at) 24 = .ok (.invokevirtual 97, 3) := by decide +kernel
theorem d_Zip_at_27 : decode (mC m_Zip_at) 27 = .ok (.ireturn, 1) := by decide +kernel
def b_Zip_at_0 (F : Nat) (v0 : Nat) (v1 : Int32) (w : zW) : Option ((Int32 ⊕ Nat) × zW) := (getR w v0 8 0).bind fun x1 => (zobj w x1 0).bind fun _ => (f_Row_has F x1 v1 w).bind fun r5 => if r5.1 = 0 then (some (.inr r5.2.length, r5.2 ++ [.inr (.inr (.inr (12, [])))])) else ((getR r5.2 v0 8 0).bind fun x20 => (zobj r5.2 x20 0).bind fun _ => (f_Row_get F x20 v1 r5.2).bind fun r24 => some ((.inl r24.1), r24.2))
set_option maxRecDepth 100000 in
set_option maxHeartbeats 4000000 in
theorem b_Zip_at_0_ok (G : zG) (F : Nat) (v0 : Nat) (v1 : Int32) (w : zW) (r : ((Int32 ⊕ Nat) × zW)) (h : b_Zip_at_0 F v0 v1 w = some r) : zV G m_Zip_at 0 [(0, .ref (z0 G + v0)), (1, .int v1)] [] w 0 0 (oIT (z0 G) r.1) r.2 := by
  unfold b_Zip_at_0 at h
  refine V_aload_n (i := 0) d_Zip_at_0 rfl 0 rfl ?_
  obtain ⟨x1, e1, h⟩ := ob h
  refine V_getR (ci := 8) (k := 0) d_Zip_at_1 e1 rfl (by decide) in_Zip k255 ?_
  refine V_iload_n (i := 1) d_Zip_at_4 rfl 1 rfl ?_
  obtain ⟨_, eo5, h⟩ := ob h
  obtain ⟨r5, e5, h⟩ := ob h
  refine V_call (v := some (.int r5.1)) (st := []) (inv_V (N := m_Row_has) (As := [.int v1]) (ci := 0) d_Zip_at_5 eo5 rfl k646 k404 k405 kc_Row_has y_Row_has) ⟨Or.inl kc_Row_has, k2, by decide, by decide⟩ (Nat.le_of_ble_eq_true rfl) (by decide) (by decide) (c_Row_has G F x1 v1 w r5 e5) ?_
  refine V_if_ne (tgt := 19) d_Zip_at_8 (by decide) (fun c8 => ?_) (fun c8 => ?_)
  · rw [if_neg c8] at h
    refine V_aload_n (i := 0) d_Zip_at_19 rfl 0 rfl ?_
    obtain ⟨x20, e20, h⟩ := ob h
    refine V_getR (ci := 8) (k := 0) d_Zip_at_20 e20 rfl (by decide) in_Zip k255 ?_
    refine V_iload_n (i := 1) d_Zip_at_23 rfl 1 rfl ?_
    obtain ⟨_, eo24, h⟩ := ob h
    obtain ⟨r24, e24, h⟩ := ob h
    refine V_call (v := some (.int r24.1)) (st := []) (inv_V (N := m_Row_get) (As := [.int v1]) (ci := 0) d_Zip_at_24 eo24 rfl k662 k400 k401 kc_Row_get y_Row_get) ⟨Or.inl kc_Row_get, k2, by decide, by decide⟩ (Nat.le_of_ble_eq_true rfl) (by decide) (by decide) (c_Row_get G F x20 v1 r5.2 r24 e24) ?_
    obtain rfl := Option.some.inj h
    exact V_iret rfl (by decide) (by decide) d_Zip_at_27
  · rw [if_pos c8] at h
    obtain rfl := Option.some.inj h
    exact V_throw (ci := 12) (X := R_IOOBE) d_Zip_at_11 d_Zip_at_14 d_Zip_at_15 d_Zip_at_18 rfl (by decide +kernel) k647 k648 k16 (at_IOOBE k656) (by decide) (by decide) (Nat.le_of_ble_eq_true rfl) (by decide) (by decide)
def f_Zip_at (F : Nat) (v0 : Nat) (v1 : Int32) (w : zW) : Option ((Int32 ⊕ Nat) × zW) := b_Zip_at_0 F v0 v1 w
theorem c_Zip_at (G : zG) (F : Nat) (v0 : Nat) (v1 : Int32) (w : zW) (r : ((Int32 ⊕ Nat) × zW)) (h : f_Zip_at F v0 v1 w = some r) : zCT G m_Zip_at [.ref (z0 G + v0), .int v1] w (oIT (z0 G) r.1) r.2 := zCT.ofV (by decide +kernel) (Or.inl ⟨kc_Zip_at, rfl⟩) (Nat.le_of_ble_eq_true rfl) (b_Zip_at_0_ok G F v0 v1 w r h)

/-! ZipArray$Row.checksum()I -/
def m_Row_checksum : zM := (⟨R_Row, "checksum", "()I"⟩, prog_7_method_12_code, 4, (some .int), [], { frames := 0, cells := 0, slots := 0, locals := 0 })
theorem k303 : Cond.constant R_Row 45 (-306674912) ∈ zTb := tb_at 303 (by decide +kernel) rfl
theorem kc_Row_checksum : Cond.code (mY m_Row_checksum) (mC m_Row_checksum) (mL m_Row_checksum) (mT m_Row_checksum) ∈ zTb := tb_at 302 (by decide +kernel) rfl
theorem y_Row_checksum : (mY m_Row_checksum).cls ≠ "java/lang/invoke/MethodHandle" ∧ (mY m_Row_checksum).cls ≠ "java/lang/invoke/VarHandle" ∧ (parseMethodDescriptor (mY m_Row_checksum).desc).map (fun d => d.parameters.length) = some 0 := by decide +kernel
theorem d_Row_checksum_0 : decode (mC m_Row_checksum) 0 = .ok (.iconst (-1), 1) := by decide +kernel
theorem d_Row_checksum_1 : decode (mC m_Row_checksum) 1 = .ok (.istore_n 1, 1) := by decide +kernel
theorem d_Row_checksum_2 : decode (mC m_Row_checksum) 2 = .ok (.iconst 0, 1) := by decide +kernel
theorem d_Row_checksum_3 : decode (mC m_Row_checksum) 3 = .ok (.istore_n 2, 1) := by decide +kernel
theorem d_Row_checksum_4 : decode (mC m_Row_checksum) 4 = .ok (.iload_n 2, 1) := by decide +kernel
theorem d_Row_checksum_5 : decode (mC m_Row_checksum) 5 = .ok (.aload_n 0, 1) := by decide +kernel
theorem d_Row_checksum_6 : decode (mC m_Row_checksum) 6 = .ok (.getfield 13, 3) := by decide +kernel
theorem d_Row_checksum_9 : decode (mC m_Row_checksum) 9 = .ok (.if_icmp .ge 52, 3) := by decide +kernel
theorem d_Row_checksum_12 : decode (mC m_Row_checksum) 12 = .ok (.iload_n 1, 1) := by decide +kernel
theorem d_Row_checksum_13 : decode (mC m_Row_checksum) 13 = .ok (.aload_n 0, 1) := by decide +kernel
theorem d_Row_checksum_14 : decode (mC m_Row_checksum) 14 = .ok (.getfield 7, 3) := by decide +kernel
theorem d_Row_checksum_17 : decode (mC m_Row_checksum) 17 = .ok (.iload_n 2, 1) := by decide +kernel
theorem d_Row_checksum_18 : decode (mC m_Row_checksum) 18 = .ok (.iaload, 1) := by decide +kernel
theorem d_Row_checksum_19 : decode (mC m_Row_checksum) 19 = .ok (.ixor, 1) := by decide +kernel
theorem d_Row_checksum_20 : decode (mC m_Row_checksum) 20 = .ok (.istore_n 1, 1) := by decide +kernel
theorem d_Row_checksum_21 : decode (mC m_Row_checksum) 21 = .ok (.iconst 0, 1) := by decide +kernel
theorem d_Row_checksum_22 : decode (mC m_Row_checksum) 22 = .ok (.istore_n 3, 1) := by decide +kernel
theorem d_Row_checksum_23 : decode (mC m_Row_checksum) 23 = .ok (.iload_n 3, 1) := by decide +kernel
theorem d_Row_checksum_24 : decode (mC m_Row_checksum) 24 = .ok (.bipush 8, 2) := by decide +kernel
theorem d_Row_checksum_26 : decode (mC m_Row_checksum) 26 = .ok (.if_icmp .ge 29, 3) := by decide +kernel
theorem d_Row_checksum_29 : decode (mC m_Row_checksum) 29 = .ok (.iload_n 1, 1) := by decide +kernel
theorem d_Row_checksum_30 : decode (mC m_Row_checksum) 30 = .ok (.iconst 1, 1) := by decide +kernel
theorem d_Row_checksum_31 : decode (mC m_Row_checksum) 31 = .ok (.iand, 1) := by decide +kernel
theorem d_Row_checksum_32 : decode (mC m_Row_checksum) 32 = .ok (.iconst 1, 1) := by decide +kernel
theorem d_Row_checksum_33 : decode (mC m_Row_checksum) 33 = .ok (.if_icmp .ne 12, 3) := by decide +kernel
theorem d_Row_checksum_36 : decode (mC m_Row_checksum) 36 = .ok (.iload_n 1, 1) := by decide +kernel
theorem d_Row_checksum_37 : decode (mC m_Row_checksum) 37 = .ok (.iconst 1, 1) := by decide +kernel
theorem d_Row_checksum_38 : decode (mC m_Row_checksum) 38 = .ok (.iushr, 1) := by decide +kernel
theorem d_Row_checksum_39 : decode (mC m_Row_checksum) 39 = .ok (.ldc 45, 2) := by decide +kernel
theorem d_Row_checksum_41 : decode (mC m_Row_checksum) 41 = .ok (.ixor, 1) := by decide +kernel
theorem d_Row_checksum_42 : decode (mC m_Row_checksum) 42 = .ok (.goto 6, 3) := by decide +kernel
theorem d_Row_checksum_45 : decode (mC m_Row_checksum) 45 = .ok (.iload_n 1, 1) := by decide +kernel
theorem d_Row_checksum_46 : decode (mC m_Row_checksum) 46 = .ok (.iconst 1, 1) := by decide +kernel
theorem d_Row_checksum_47 : decode (mC m_Row_checksum) 47 = .ok (.iushr, 1) := by decide +kernel
theorem d_Row_checksum_48 : decode (mC m_Row_checksum) 48 = .ok (.istore_n 1, 1) := by decide +kernel
theorem d_Row_checksum_49 : decode (mC m_Row_checksum) 49 = .ok (.iinc 3 1, 3) := by decide +kernel
theorem d_Row_checksum_52 : decode (mC m_Row_checksum) 52 = .ok (.goto (-29), 3) := by decide +kernel
theorem d_Row_checksum_55 : decode (mC m_Row_checksum) 55 = .ok (.iinc 2 1, 3) := by decide +kernel
theorem d_Row_checksum_58 : decode (mC m_Row_checksum) 58 = .ok (.goto (-54), 3) := by decide +kernel
theorem d_Row_checksum_61 : decode (mC m_Row_checksum) 61 = .ok (.iconst (-1), 1) := by decide +kernel
theorem d_Row_checksum_62 : decode (mC m_Row_checksum) 62 = .ok (.iload_n 1, 1) := by decide +kernel
theorem d_Row_checksum_63 : decode (mC m_Row_checksum) 63 = .ok (.isub, 1) := by decide +kernel
theorem d_Row_checksum_64 : decode (mC m_Row_checksum) 64 = .ok (.ireturn, 1) := by decide +kernel
def b_Row_checksum_48 (F : Nat) (K4 : Nat → Int32 → Int32 → zW → Option (Int32 × zW)) (K23 : Nat → Int32 → Int32 → Int32 → zW → Option (Int32 × zW)) (v0 : Nat) (v2 : Int32) (v3 : Int32) (s0 : Int32) (w : zW) : Option (Int32 × zW) := K23 v0 s0 v2 (v3 + (1 : Int32)) w
set_option maxRecDepth 100000 in
set_option maxHeartbeats 4000000 in
theorem b_Row_checksum_48_ok (G : zG) (F : Nat) (K4 : Nat → Int32 → Int32 → zW → Option (Int32 × zW)) (K23 : Nat → Int32 → Int32 → Int32 → zW → Option (Int32 × zW)) (hK4 : ∀ (v0 : Nat) (v1 : Int32) (v2 : Int32) (w : zW) (r : (Int32 × zW)), K4 v0 v1 v2 w = some r → zV G m_Row_checksum 4 [(0, .ref (z0 G + v0)), (1, .int v1), (2, .int v2)] [] w 0 0 (oI r.1) r.2) (hK23 : ∀ (v0 : Nat) (v1 : Int32) (v2 : Int32) (v3 : Int32) (w : zW) (r : (Int32 × zW)), K23 v0 v1 v2 v3 w = some r → zV G m_Row_checksum 23 [(0, .ref (z0 G + v0)), (1, .int v1), (2, .int v2), (3, .int v3)] [] w 0 0 (oI r.1) r.2) (v0 : Nat) (v2 : Int32) (v3 : Int32) (s0 : Int32) (w : zW) (r : (Int32 × zW)) (h : b_Row_checksum_48 F K4 K23 v0 v2 v3 s0 w = some r) : zV G m_Row_checksum 48 [(0, .ref (z0 G + v0)), (2, .int v2), (3, .int v3)] [.int s0] w 0 0 (oI r.1) r.2 := by
  unfold b_Row_checksum_48 at h
  refine V_istore_n (i := 1) d_Row_checksum_48 rfl (by decide) rfl ?_
  refine V_iinc (i := 3) (v := (v3 + (1 : Int32))) d_Row_checksum_49 3 rfl (congrArg (fun y => v3 + y) (by decide : Int32.ofInt (1) = (1 : Int32))) (by decide) rfl ?_
  refine V_goto (tgt := 23) d_Row_checksum_52 (by decide) ?_
  refine V_lv [2, 1, 3, 0] rfl ?_
  exact hK23 v0 s0 v2 (v3 + (1 : Int32)) w _ h
def b_Row_checksum_23 (F : Nat) (K4 : Nat → Int32 → Int32 → zW → Option (Int32 × zW)) (K23 : Nat → Int32 → Int32 → Int32 → zW → Option (Int32 × zW)) (v0 : Nat) (v1 : Int32) (v2 : Int32) (v3 : Int32) (w : zW) : Option (Int32 × zW) := if (8 : Int32) ≤ v3 then (K4 v0 v1 (v2 + (1 : Int32)) w) else (if (v1 &&& (1 : Int32)) = (1 : Int32) then (b_Row_checksum_48 F K4 K23 v0 v2 v3 ((v1.toUInt32 >>> ((1 : Int32).toUInt32 &&& Int32.toUInt32 31)).toInt32 ^^^ (-306674912 : Int32)) w) else (b_Row_checksum_48 F K4 K23 v0 v2 v3 (v1.toUInt32 >>> ((1 : Int32).toUInt32 &&& Int32.toUInt32 31)).toInt32 w))
set_option maxRecDepth 100000 in
set_option maxHeartbeats 4000000 in
theorem b_Row_checksum_23_ok (G : zG) (F : Nat) (K4 : Nat → Int32 → Int32 → zW → Option (Int32 × zW)) (K23 : Nat → Int32 → Int32 → Int32 → zW → Option (Int32 × zW)) (hK4 : ∀ (v0 : Nat) (v1 : Int32) (v2 : Int32) (w : zW) (r : (Int32 × zW)), K4 v0 v1 v2 w = some r → zV G m_Row_checksum 4 [(0, .ref (z0 G + v0)), (1, .int v1), (2, .int v2)] [] w 0 0 (oI r.1) r.2) (hK23 : ∀ (v0 : Nat) (v1 : Int32) (v2 : Int32) (v3 : Int32) (w : zW) (r : (Int32 × zW)), K23 v0 v1 v2 v3 w = some r → zV G m_Row_checksum 23 [(0, .ref (z0 G + v0)), (1, .int v1), (2, .int v2), (3, .int v3)] [] w 0 0 (oI r.1) r.2) (v0 : Nat) (v1 : Int32) (v2 : Int32) (v3 : Int32) (w : zW) (r : (Int32 × zW)) (h : b_Row_checksum_23 F K4 K23 v0 v1 v2 v3 w = some r) : zV G m_Row_checksum 23 [(0, .ref (z0 G + v0)), (1, .int v1), (2, .int v2), (3, .int v3)] [] w 0 0 (oI r.1) r.2 := by
  unfold b_Row_checksum_23 at h
  refine V_iload_n (i := 3) d_Row_checksum_23 rfl 3 rfl ?_
  refine V_bipush (v := 8) d_Row_checksum_24 (by decide) ?_
  refine V_icmp_ge (tgt := 55) d_Row_checksum_26 (by decide) (fun c26 => ?_) (fun c26 => ?_)
  · rw [if_pos c26] at h
    refine V_iinc (i := 2) (v := (v2 + (1 : Int32))) d_Row_checksum_55 2 rfl (congrArg (fun y => v2 + y) (by decide : Int32.ofInt (1) = (1 : Int32))) (by decide) rfl ?_
    refine V_goto (tgt := 4) d_Row_checksum_58 (by decide) ?_
    refine V_lv [1, 2, 0] rfl ?_
    exact hK4 v0 v1 (v2 + (1 : Int32)) w _ h
  · rw [if_neg c26] at h
    refine V_iload_n (i := 1) d_Row_checksum_29 rfl 1 rfl ?_
    refine V_iconst (v := 1) d_Row_checksum_30 (by decide) ?_
    refine V_iand d_Row_checksum_31 ?_
    refine V_iconst (v := 1) d_Row_checksum_32 (by decide) ?_
    refine V_icmp_ne (tgt := 45) d_Row_checksum_33 (by decide) (fun c33 => ?_) (fun c33 => ?_)
    · rw [if_neg c33] at h
      refine V_iload_n (i := 1) d_Row_checksum_45 rfl 1 rfl ?_
      refine V_iconst (v := 1) d_Row_checksum_46 (by decide) ?_
      refine V_iushr d_Row_checksum_47 ?_
      refine V_lv [0, 2, 3] rfl ?_
      exact b_Row_checksum_48_ok G F K4 K23 hK4 hK23 v0 v2 v3 (v1.toUInt32 >>> ((1 : Int32).toUInt32 &&& Int32.toUInt32 31)).toInt32 w _ h
    · rw [if_pos c33] at h
      refine V_iload_n (i := 1) d_Row_checksum_36 rfl 1 rfl ?_
      refine V_iconst (v := 1) d_Row_checksum_37 (by decide) ?_
      refine V_iushr d_Row_checksum_38 ?_
      refine V_ldc (v := -306674912) d_Row_checksum_39 k303 ?_
      refine V_ixor d_Row_checksum_41 ?_
      refine V_goto (tgt := 48) d_Row_checksum_42 (by decide) ?_
      refine V_lv [0, 2, 3] rfl ?_
      exact b_Row_checksum_48_ok G F K4 K23 hK4 hK23 v0 v2 v3 ((v1.toUInt32 >>> ((1 : Int32).toUInt32 &&& Int32.toUInt32 31)).toInt32 ^^^ (-306674912 : Int32)) w _ h
def l_Row_checksum_23 (F : Nat) (K4 : Nat → Int32 → Int32 → zW → Option (Int32 × zW)) : Nat → Nat → Int32 → Int32 → Int32 → zW → Option (Int32 × zW)
  | 0 => fun _ _ _ _ _ => none
  | n + 1 => b_Row_checksum_23 F K4 (l_Row_checksum_23 F K4 n)
theorem l_Row_checksum_23_ok (G : zG) (F : Nat) (K4 : Nat → Int32 → Int32 → zW → Option (Int32 × zW)) (hK4 : ∀ (v0 : Nat) (v1 : Int32) (v2 : Int32) (w : zW) (r : (Int32 × zW)), K4 v0 v1 v2 w = some r → zV G m_Row_checksum 4 [(0, .ref (z0 G + v0)), (1, .int v1), (2, .int v2)] [] w 0 0 (oI r.1) r.2) (n : Nat) :  ∀ (v0 : Nat) (v1 : Int32) (v2 : Int32) (v3 : Int32) (w : zW) (r : (Int32 × zW)), l_Row_checksum_23 F K4 n v0 v1 v2 v3 w = some r → zV G m_Row_checksum 23 [(0, .ref (z0 G + v0)), (1, .int v1), (2, .int v2), (3, .int v3)] [] w 0 0 (oI r.1) r.2 := by
  induction n with
  | zero => intro v0 v1 v2 v3 w r h; exact nomatch (show (none : Option (Int32 × zW)) = some r from h)
  | succ n ih => intro v0 v1 v2 v3 w r h; exact b_Row_checksum_23_ok G F K4 (l_Row_checksum_23 F K4 n) hK4 ih v0 v1 v2 v3 w r h
def b_Row_checksum_4 (F : Nat) (K4 : Nat → Int32 → Int32 → zW → Option (Int32 × zW)) (v0 : Nat) (v1 : Int32) (v2 : Int32) (w : zW) : Option (Int32 × zW) := (getI w v0 0 1).bind fun x6 => if x6 ≤ v2 then (some (((-1 : Int32) - v1), w)) else ((getR w v0 0 0).bind fun x14 => (aget w x14 v2).bind fun x18 => l_Row_checksum_23 F K4 F v0 (v1 ^^^ x18) v2 (0 : Int32) w)
set_option maxRecDepth 100000 in
set_option maxHeartbeats 4000000 in
theorem b_Row_checksum_4_ok (G : zG) (F : Nat) (K4 : Nat → Int32 → Int32 → zW → Option (Int32 × zW)) (hK4 : ∀ (v0 : Nat) (v1 : Int32) (v2 : Int32) (w : zW) (r : (Int32 × zW)), K4 v0 v1 v2 w = some r → zV G m_Row_checksum 4 [(0, .ref (z0 G + v0)), (1, .int v1), (2, .int v2)] [] w 0 0 (oI r.1) r.2) (v0 : Nat) (v1 : Int32) (v2 : Int32) (w : zW) (r : (Int32 × zW)) (h : b_Row_checksum_4 F K4 v0 v1 v2 w = some r) : zV G m_Row_checksum 4 [(0, .ref (z0 G + v0)), (1, .int v1), (2, .int v2)] [] w 0 0 (oI r.1) r.2 := by
  unfold b_Row_checksum_4 at h
  refine V_iload_n (i := 2) d_Row_checksum_4 rfl 2 rfl ?_
  refine V_aload_n (i := 0) d_Row_checksum_5 rfl 0 rfl ?_
  obtain ⟨x6, e6, h⟩ := ob h
  refine V_getI (ci := 0) (k := 1) d_Row_checksum_6 e6 rfl (by decide) in_Row k41 ?_
  refine V_icmp_ge (tgt := 61) d_Row_checksum_9 (by decide) (fun c9 => ?_) (fun c9 => ?_)
  · rw [if_pos c9] at h
    refine V_iconst (v := -1) d_Row_checksum_61 (by decide) ?_
    refine V_iload_n (i := 1) d_Row_checksum_62 rfl 1 rfl ?_
    refine V_isub d_Row_checksum_63 ?_
    obtain rfl := Option.some.inj h
    exact V_iret rfl (by decide) (by decide) d_Row_checksum_64
  · rw [if_neg c9] at h
    refine V_iload_n (i := 1) d_Row_checksum_12 rfl 1 rfl ?_
    refine V_aload_n (i := 0) d_Row_checksum_13 rfl 0 rfl ?_
    obtain ⟨x14, e14, h⟩ := ob h
    refine V_getR (ci := 0) (k := 0) d_Row_checksum_14 e14 rfl (by decide) in_Row k36 ?_
    refine V_iload_n (i := 2) d_Row_checksum_17 rfl 2 rfl ?_
    obtain ⟨x18, e18, h⟩ := ob h
    refine V_aget d_Row_checksum_18 e18 ?_
    refine V_ixor d_Row_checksum_19 ?_
    refine V_istore_n (i := 1) d_Row_checksum_20 rfl (by decide) rfl ?_
    refine V_iconst (v := 0) d_Row_checksum_21 (by decide) ?_
    refine V_istore_n (i := 3) d_Row_checksum_22 rfl (by decide) rfl ?_
    refine V_lv [2, 1, 3, 0] rfl ?_
    exact l_Row_checksum_23_ok G F K4 hK4 F v0 (v1 ^^^ x18) v2 (0 : Int32) w _ h
def l_Row_checksum_4 (F : Nat) : Nat → Nat → Int32 → Int32 → zW → Option (Int32 × zW)
  | 0 => fun _ _ _ _ => none
  | n + 1 => b_Row_checksum_4 F (l_Row_checksum_4 F n)
theorem l_Row_checksum_4_ok (G : zG) (F : Nat) (n : Nat) :  ∀ (v0 : Nat) (v1 : Int32) (v2 : Int32) (w : zW) (r : (Int32 × zW)), l_Row_checksum_4 F n v0 v1 v2 w = some r → zV G m_Row_checksum 4 [(0, .ref (z0 G + v0)), (1, .int v1), (2, .int v2)] [] w 0 0 (oI r.1) r.2 := by
  induction n with
  | zero => intro v0 v1 v2 w r h; exact nomatch (show (none : Option (Int32 × zW)) = some r from h)
  | succ n ih => intro v0 v1 v2 w r h; exact b_Row_checksum_4_ok G F (l_Row_checksum_4 F n) ih v0 v1 v2 w r h
def b_Row_checksum_0 (F : Nat) (v0 : Nat) (w : zW) : Option (Int32 × zW) := l_Row_checksum_4 F F v0 (-1 : Int32) (0 : Int32) w
set_option maxRecDepth 100000 in
set_option maxHeartbeats 4000000 in
theorem b_Row_checksum_0_ok (G : zG) (F : Nat) (v0 : Nat) (w : zW) (r : (Int32 × zW)) (h : b_Row_checksum_0 F v0 w = some r) : zV G m_Row_checksum 0 [(0, .ref (z0 G + v0))] [] w 0 0 (oI r.1) r.2 := by
  unfold b_Row_checksum_0 at h
  refine V_iconst (v := -1) d_Row_checksum_0 (by decide) ?_
  refine V_istore_n (i := 1) d_Row_checksum_1 rfl (by decide) rfl ?_
  refine V_iconst (v := 0) d_Row_checksum_2 (by decide) ?_
  refine V_istore_n (i := 2) d_Row_checksum_3 rfl (by decide) rfl ?_
  refine V_lv [2, 1, 0] rfl ?_
  exact l_Row_checksum_4_ok G F F v0 (-1 : Int32) (0 : Int32) w _ h
def f_Row_checksum (F : Nat) (v0 : Nat) (w : zW) : Option (Int32 × zW) := b_Row_checksum_0 F v0 w
theorem c_Row_checksum (G : zG) (F : Nat) (v0 : Nat) (w : zW) (r : (Int32 × zW)) (h : f_Row_checksum F v0 w = some r) : zCT G m_Row_checksum [.ref (z0 G + v0)] w (oI r.1) r.2 := zCT.ofV (by decide +kernel) (Or.inl ⟨kc_Row_checksum, rfl⟩) (Nat.le_of_ble_eq_true rfl) (b_Row_checksum_0_ok G F v0 w r h)

/-! ZipArray.crc()I -/
def m_Zip_crc : zM := (⟨R_Zip, "crc", "()I"⟩, prog_1_method_7_code, 1, (some .int), [], { frames := 1, cells := 0, slots := 0, locals := 23 })
theorem k299 : Cond.methodLink R_Zip 101 (mY m_Row_checksum) ∈ zTb := tb_at 299 (by decide +kernel) rfl
theorem k300 : Cond.instanceMethod (mY m_Row_checksum) ∈ zTb := tb_at 300 (by decide +kernel) rfl
theorem k301 : Cond.selects R_Row (mY m_Row_checksum) (mY m_Row_checksum) ∈ zTb := tb_at 301 (by decide +kernel) rfl
theorem kc_Zip_crc : Cond.code (mY m_Zip_crc) (mC m_Zip_crc) (mL m_Zip_crc) (mT m_Zip_crc) ∈ zTb := tb_at 298 (by decide +kernel) rfl
theorem y_Zip_crc : (mY m_Zip_crc).cls ≠ "java/lang/invoke/MethodHandle" ∧ (mY m_Zip_crc).cls ≠ "java/lang/invoke/VarHandle" ∧ (parseMethodDescriptor (mY m_Zip_crc).desc).map (fun d => d.parameters.length) = some 0 := by decide +kernel
theorem d_Zip_crc_0 : decode (mC m_Zip_crc) 0 = .ok (.aload_n 0, 1) := by decide +kernel
theorem d_Zip_crc_1 : decode (mC m_Zip_crc) 1 = .ok (.getfield 14, 3) := by decide +kernel
theorem d_Zip_crc_4 : decode (mC m_Zip_crc) 4 = .ok (.invokevirtual 101, 3) := by decide +kernel
theorem d_Zip_crc_7 : decode (mC m_Zip_crc) 7 = .ok (.ireturn, 1) := by decide +kernel
def b_Zip_crc_0 (F : Nat) (v0 : Nat) (w : zW) : Option (Int32 × zW) := (getR w v0 8 0).bind fun x1 => (zobj w x1 0).bind fun _ => (f_Row_checksum F x1 w).bind fun r4 => some (r4.1, r4.2)
set_option maxRecDepth 100000 in
set_option maxHeartbeats 4000000 in
theorem b_Zip_crc_0_ok (G : zG) (F : Nat) (v0 : Nat) (w : zW) (r : (Int32 × zW)) (h : b_Zip_crc_0 F v0 w = some r) : zV G m_Zip_crc 0 [(0, .ref (z0 G + v0))] [] w 0 0 (oI r.1) r.2 := by
  unfold b_Zip_crc_0 at h
  refine V_aload_n (i := 0) d_Zip_crc_0 rfl 0 rfl ?_
  obtain ⟨x1, e1, h⟩ := ob h
  refine V_getR (ci := 8) (k := 0) d_Zip_crc_1 e1 rfl (by decide) in_Zip k255 ?_
  obtain ⟨_, eo4, h⟩ := ob h
  obtain ⟨r4, e4, h⟩ := ob h
  refine V_call (v := some (.int r4.1)) (st := []) (inv_V (N := m_Row_checksum) (As := []) (ci := 0) d_Zip_crc_4 eo4 rfl k299 k300 k301 kc_Row_checksum y_Row_checksum) ⟨Or.inl kc_Row_checksum, k2, by decide, by decide⟩ (Nat.le_of_ble_eq_true rfl) (by decide) (by decide) (c_Row_checksum G F x1 w r4 e4) ?_
  obtain rfl := Option.some.inj h
  exact V_iret rfl (by decide) (by decide) d_Zip_crc_7
def f_Zip_crc (F : Nat) (v0 : Nat) (w : zW) : Option (Int32 × zW) := b_Zip_crc_0 F v0 w
theorem c_Zip_crc (G : zG) (F : Nat) (v0 : Nat) (w : zW) (r : (Int32 × zW)) (h : f_Zip_crc F v0 w = some r) : zCT G m_Zip_crc [.ref (z0 G + v0)] w (oI r.1) r.2 := zCT.ofV (by decide +kernel) (Or.inl ⟨kc_Zip_crc, rfl⟩) (Nat.le_of_ble_eq_true rfl) (b_Zip_crc_0_ok G F v0 w r h)

/-! ZipArray$Packer.writeBits(II)V -/
def m_Packer_writeBits : zM := (⟨R_Packer, "writeBits", "(II)V"⟩, prog_6_method_9_code, 4, none, [], { frames := 1, cells := 0, slots := 0, locals := 21 })
theorem k65 : Cond.fieldLink R_Packer 18 (T_Packer 1).1 (T_Packer 1).2.1 (T_Packer 1).2.2.1 ∈ zTb := tb_at 65 (by decide +kernel) rfl
theorem k66 : Cond.fieldLink R_Packer 22 (T_Packer 2).1 (T_Packer 2).2.1 (T_Packer 2).2.2.1 ∈ zTb := tb_at 66 (by decide +kernel) rfl
theorem k679 : Cond.methodLink R_Packer 73 (mY m_Row_append) ∈ zTb := tb_at 679 (by decide +kernel) rfl
theorem kc_Packer_writeBits : Cond.code (mY m_Packer_writeBits) (mC m_Packer_writeBits) (mL m_Packer_writeBits) (mT m_Packer_writeBits) ∈ zTb := tb_at 678 (by decide +kernel) rfl
theorem y_Packer_writeBits : (mY m_Packer_writeBits).cls ≠ "java/lang/invoke/MethodHandle" ∧ (mY m_Packer_writeBits).cls ≠ "java/lang/invoke/VarHandle" ∧ (parseMethodDescriptor (mY m_Packer_writeBits).desc).map (fun d => d.parameters.length) = some 2 := by decide +kernel
theorem sel_Packer_writeBits : Cond.selects R_Packer (mY m_Packer_writeBits) (mY m_Packer_writeBits) ∈ zTb := sel_at (y := mY m_Packer_writeBits) (n := 5) 25 (by decide +kernel)
theorem d_Packer_writeBits_0 : decode (mC m_Packer_writeBits) 0 = .ok (.iconst 0, 1) := by decide +kernel
theorem d_Packer_writeBits_1 : decode (mC m_Packer_writeBits) 1 = .ok (.istore_n 3, 1) := by decide +kernel
theorem d_Packer_writeBits_2 : decode (mC m_Packer_writeBits) 2 = .ok (.iload_n 3, 1) := by decide +kernel
theorem d_Packer_writeBits_3 : decode (mC m_Packer_writeBits) 3 = .ok (.iload_n 2, 1) := by decide +kernel
theorem d_Packer_writeBits_4 : decode (mC m_Packer_writeBits) 4 = .ok (.if_icmp .ge 68, 3) := by decide +kernel
theorem d_Packer_writeBits_7 : decode (mC m_Packer_writeBits) 7 = .ok (.aload_n 0, 1) := by decide +kernel
theorem d_Packer_writeBits_8 : decode (mC m_Packer_writeBits) 8 = .ok (.dup, 1) := by decide +kernel
theorem d_Packer_writeBits_9 : decode (mC m_Packer_writeBits) 9 = .ok (.getfield 18, 3) := by decide +kernel
theorem d_Packer_writeBits_12 : decode (mC m_Packer_writeBits) 12 = .ok (.iload_n 1, 1) := by decide +kernel
theorem d_Packer_writeBits_13 : decode (mC m_Packer_writeBits) 13 = .ok (.iload_n 3, 1) := by decide +kernel
theorem d_Packer_writeBits_14 : decode (mC m_Packer_writeBits) 14 = .ok (.ishr, 1) := by decide +kernel
theorem d_Packer_writeBits_15 : decode (mC m_Packer_writeBits) 15 = .ok (.iconst 1, 1) := by decide +kernel
theorem d_Packer_writeBits_16 : decode (mC m_Packer_writeBits) 16 = .ok (.iand, 1) := by decide +kernel
theorem d_Packer_writeBits_17 : decode (mC m_Packer_writeBits) 17 = .ok (.aload_n 0, 1) := by decide +kernel
theorem d_Packer_writeBits_18 : decode (mC m_Packer_writeBits) 18 = .ok (.getfield 22, 3) := by decide +kernel
theorem d_Packer_writeBits_21 : decode (mC m_Packer_writeBits) 21 = .ok (.ishl, 1) := by decide +kernel
theorem d_Packer_writeBits_22 : decode (mC m_Packer_writeBits) 22 = .ok (.ior, 1) := by decide +kernel
theorem d_Packer_writeBits_23 : decode (mC m_Packer_writeBits) 23 = .ok (.putfield 18, 3) := by decide +kernel
theorem d_Packer_writeBits_26 : decode (mC m_Packer_writeBits) 26 = .ok (.aload_n 0, 1) := by decide +kernel
theorem d_Packer_writeBits_27 : decode (mC m_Packer_writeBits) 27 = .ok (.dup, 1) := by decide +kernel
theorem d_Packer_writeBits_28 : decode (mC m_Packer_writeBits) 28 = .ok (.getfield 22, 3) := by decide +kernel
theorem d_Packer_writeBits_31 : decode (mC m_Packer_writeBits) 31 = .ok (.iconst 1, 1) := by decide +kernel
theorem d_Packer_writeBits_32 : decode (mC m_Packer_writeBits) 32 = .ok (.iadd, 1) := by decide +kernel
theorem d_Packer_writeBits_33 : decode (mC m_Packer_writeBits) 33 = .ok (.putfield 22, 3) := by decide +kernel
theorem d_Packer_writeBits_36 : decode (mC m_Packer_writeBits) 36 = .ok (.aload_n 0, 1) := by decide +kernel
theorem d_Packer_writeBits_37 : decode (mC m_Packer_writeBits) 37 = .ok (.getfield 22, 3) := by decide +kernel
theorem d_Packer_writeBits_40 : decode (mC m_Packer_writeBits) 40 = .ok (.bipush 8, 2) := by decide +kernel
theorem d_Packer_writeBits_42 : decode (mC m_Packer_writeBits) 42 = .ok (.if_icmp .ne 24, 3) := by decide +kernel
theorem d_Packer_writeBits_45 : decode (mC m_Packer_writeBits) 45 = .ok (.aload_n 0, 1) := by decide +kernel
theorem d_Packer_writeBits_46 : decode (mC m_Packer_writeBits) 46 = .ok (.getfield 7, 3) := by decide +kernel
theorem d_Packer_writeBits_49 : decode (mC m_Packer_writeBits) 49 = .ok (.aload_n 0, 1) := by decide +kernel
theorem d_Packer_writeBits_50 : decode (mC m_Packer_writeBits) 50 = .ok (.getfield 18, 3) := by decide +kernel
theorem d_Packer_writeBits_53 : decode (mC m_Packer_writeBits) 53 = .ok (.invokevirtual 73, 3) := by decide +kernel
theorem d_Packer_writeBits_56 : decode (mC m_Packer_writeBits) 56 = .ok (.aload_n 0, 1) := by decide +kernel
theorem d_Packer_writeBits_57 : decode (mC m_Packer_writeBits) 57 = .ok (.iconst 0, 1) := by decide +kernel
theorem d_Packer_writeBits_58 : decode (mC m_Packer_writeBits) 58 = .ok (.putfield 18, 3) := by decide +kernel
theorem d_Packer_writeBits_61 : decode (mC m_Packer_writeBits) 61 = .ok (.aload_n 0, 1) := by decide +kernel
theorem d_Packer_writeBits_62 : decode (mC m_Packer_writeBits) 62 = .ok (.iconst 0, 1) := by decide +kernel
theorem d_Packer_writeBits_63 : decode (mC m_Packer_writeBits) 63 = .ok (.putfield 22, 3) := by decide +kernel
theorem d_Packer_writeBits_66 : decode (mC m_Packer_writeBits) 66 = .ok (.iinc 3 1, 3) := by decide +kernel
theorem d_Packer_writeBits_69 : decode (mC m_Packer_writeBits) 69 = .ok (.goto (-67), 3) := by decide +kernel
theorem d_Packer_writeBits_72 : decode (mC m_Packer_writeBits) 72 = .ok (.return_, 1) := by decide +kernel
def b_Packer_writeBits_66 (F : Nat) (K2 : Nat → Int32 → Int32 → Int32 → zW → Option (Unit × zW)) (v0 : Nat) (v1 : Int32) (v2 : Int32) (v3 : Int32) (w : zW) : Option (Unit × zW) := K2 v0 v1 v2 (v3 + (1 : Int32)) w
set_option maxRecDepth 100000 in
set_option maxHeartbeats 4000000 in
theorem b_Packer_writeBits_66_ok (G : zG) (F : Nat) (K2 : Nat → Int32 → Int32 → Int32 → zW → Option (Unit × zW)) (hK2 : ∀ (v0 : Nat) (v1 : Int32) (v2 : Int32) (v3 : Int32) (w : zW) (r : (Unit × zW)), K2 v0 v1 v2 v3 w = some r → zV G m_Packer_writeBits 2 [(0, .ref (z0 G + v0)), (1, .int v1), (2, .int v2), (3, .int v3)] [] w 0 0 (oV r.1) r.2) (v0 : Nat) (v1 : Int32) (v2 : Int32) (v3 : Int32) (w : zW) (r : (Unit × zW)) (h : b_Packer_writeBits_66 F K2 v0 v1 v2 v3 w = some r) : zV G m_Packer_writeBits 66 [(0, .ref (z0 G + v0)), (1, .int v1), (2, .int v2), (3, .int v3)] [] w 0 0 (oV r.1) r.2 := by
  unfold b_Packer_writeBits_66 at h
  refine V_iinc (i := 3) (v := (v3 + (1 : Int32))) d_Packer_writeBits_66 3 rfl (congrArg (fun y => v3 + y) (by decide : Int32.ofInt (1) = (1 : Int32))) (by decide) rfl ?_
  refine V_goto (tgt := 2) d_Packer_writeBits_69 (by decide) ?_
  refine V_lv [1, 2, 3, 0] rfl ?_
  exact hK2 v0 v1 v2 (v3 + (1 : Int32)) w _ h
def b_Packer_writeBits_2 (F : Nat) (K2 : Nat → Int32 → Int32 → Int32 → zW → Option (Unit × zW)) (v0 : Nat) (v1 : Int32) (v2 : Int32) (v3 : Int32) (w : zW) : Option (Unit × zW) := if v2 ≤ v3 then (some ((), w)) else ((getI w v0 3 1).bind fun x9 => (getI w v0 3 2).bind fun x18 => (putI w v0 3 1 (x9 ||| (((v1 >>> (v3 &&& 31)) &&& (1 : Int32)) <<< (x18 &&& 31)))).bind fun w23 => (getI w23 v0 3 2).bind fun x28 => (putI w23 v0 3 2 (x28 + (1 : Int32))).bind fun w33 => (getI w33 v0 3 2).bind fun x37 => if x37 = (8 : Int32) then ((getR w33 v0 3 0).bind fun x46 => (getI w33 v0 3 1).bind fun x50 => (zobj w33 x46 0).bind fun _ => (f_Row_append F x46 x50 w33).bind fun r53 => (putI r53.2 v0 3 1 (0 : Int32)).bind fun w58 => (putI w58 v0 3 2 (0 : Int32)).bind fun w63 => b_Packer_writeBits_66 F K2 v0 v1 v2 v3 w63) else (b_Packer_writeBits_66 F K2 v0 v1 v2 v3 w33))
set_option maxRecDepth 100000 in
set_option maxHeartbeats 4000000 in
theorem b_Packer_writeBits_2_ok (G : zG) (F : Nat) (K2 : Nat → Int32 → Int32 → Int32 → zW → Option (Unit × zW)) (hK2 : ∀ (v0 : Nat) (v1 : Int32) (v2 : Int32) (v3 : Int32) (w : zW) (r : (Unit × zW)), K2 v0 v1 v2 v3 w = some r → zV G m_Packer_writeBits 2 [(0, .ref (z0 G + v0)), (1, .int v1), (2, .int v2), (3, .int v3)] [] w 0 0 (oV r.1) r.2) (v0 : Nat) (v1 : Int32) (v2 : Int32) (v3 : Int32) (w : zW) (r : (Unit × zW)) (h : b_Packer_writeBits_2 F K2 v0 v1 v2 v3 w = some r) : zV G m_Packer_writeBits 2 [(0, .ref (z0 G + v0)), (1, .int v1), (2, .int v2), (3, .int v3)] [] w 0 0 (oV r.1) r.2 := by
  unfold b_Packer_writeBits_2 at h
  refine V_iload_n (i := 3) d_Packer_writeBits_2 rfl 3 rfl ?_
  refine V_iload_n (i := 2) d_Packer_writeBits_3 rfl 2 rfl ?_
  refine V_icmp_ge (tgt := 72) d_Packer_writeBits_4 (by decide) (fun c4 => ?_) (fun c4 => ?_)
  · rw [if_pos c4] at h
    obtain rfl := Option.some.inj h
    exact V_vret rfl (by decide) (by decide) d_Packer_writeBits_72
  · rw [if_neg c4] at h
    refine V_aload_n (i := 0) d_Packer_writeBits_7 rfl 0 rfl ?_
    refine V_dup rfl d_Packer_writeBits_8 ?_
    obtain ⟨x9, e9, h⟩ := ob h
    refine V_getI (ci := 3) (k := 1) d_Packer_writeBits_9 e9 rfl (by decide) in_Packer k65 ?_
    refine V_iload_n (i := 1) d_Packer_writeBits_12 rfl 1 rfl ?_
    refine V_iload_n (i := 3) d_Packer_writeBits_13 rfl 3 rfl ?_
    refine V_ishr d_Packer_writeBits_14 ?_
    refine V_iconst (v := 1) d_Packer_writeBits_15 (by decide) ?_
    refine V_iand d_Packer_writeBits_16 ?_
    refine V_aload_n (i := 0) d_Packer_writeBits_17 rfl 0 rfl ?_
    obtain ⟨x18, e18, h⟩ := ob h
    refine V_getI (ci := 3) (k := 2) d_Packer_writeBits_18 e18 rfl (by decide) in_Packer k66 ?_
    refine V_ishl d_Packer_writeBits_21 ?_
    refine V_ior d_Packer_writeBits_22 ?_
    obtain ⟨w23, e23, h⟩ := ob h
    refine V_putI (ci := 3) (k := 1) t_Packer d_Packer_writeBits_23 e23 rfl (by decide) in_Packer k65 ty_Packer nm_Packer rfl (Or.inl rfl) ?_
    refine V_aload_n (i := 0) d_Packer_writeBits_26 rfl 0 rfl ?_
    refine V_dup rfl d_Packer_writeBits_27 ?_
    obtain ⟨x28, e28, h⟩ := ob h
    refine V_getI (ci := 3) (k := 2) d_Packer_writeBits_28 e28 rfl (by decide) in_Packer k66 ?_
    refine V_iconst (v := 1) d_Packer_writeBits_31 (by decide) ?_
    refine V_iadd d_Packer_writeBits_32 ?_
    obtain ⟨w33, e33, h⟩ := ob h
    refine V_putI (ci := 3) (k := 2) t_Packer d_Packer_writeBits_33 e33 rfl (by decide) in_Packer k66 ty_Packer nm_Packer rfl (Or.inl rfl) ?_
    refine V_aload_n (i := 0) d_Packer_writeBits_36 rfl 0 rfl ?_
    obtain ⟨x37, e37, h⟩ := ob h
    refine V_getI (ci := 3) (k := 2) d_Packer_writeBits_37 e37 rfl (by decide) in_Packer k66 ?_
    refine V_bipush (v := 8) d_Packer_writeBits_40 (by decide) ?_
    refine V_icmp_ne (tgt := 66) d_Packer_writeBits_42 (by decide) (fun c42 => ?_) (fun c42 => ?_)
    · rw [if_neg c42] at h
      exact b_Packer_writeBits_66_ok G F K2 hK2 v0 v1 v2 v3 w33 _ h
    · rw [if_pos c42] at h
      refine V_aload_n (i := 0) d_Packer_writeBits_45 rfl 0 rfl ?_
      obtain ⟨x46, e46, h⟩ := ob h
      refine V_getR (ci := 3) (k := 0) d_Packer_writeBits_46 e46 rfl (by decide) in_Packer k64 ?_
      refine V_aload_n (i := 0) d_Packer_writeBits_49 rfl 0 rfl ?_
      obtain ⟨x50, e50, h⟩ := ob h
      refine V_getI (ci := 3) (k := 1) d_Packer_writeBits_50 e50 rfl (by decide) in_Packer k65 ?_
      obtain ⟨_, eo53, h⟩ := ob h
      obtain ⟨r53, e53, h⟩ := ob h
      refine V_call (v := none) (st := []) (inv_V (N := m_Row_append) (As := [.int x50]) (ci := 0) d_Packer_writeBits_53 eo53 rfl k679 k338 k339 kc_Row_append y_Row_append) ⟨Or.inl kc_Row_append, k2, by decide, by decide⟩ (Nat.le_of_ble_eq_true rfl) (by decide) (by decide) (c_Row_append G F x46 x50 w33 r53 e53) ?_
      refine V_aload_n (i := 0) d_Packer_writeBits_56 rfl 0 rfl ?_
      refine V_iconst (v := 0) d_Packer_writeBits_57 (by decide) ?_
      obtain ⟨w58, e58, h⟩ := ob h
      refine V_putI (ci := 3) (k := 1) t_Packer d_Packer_writeBits_58 e58 rfl (by decide) in_Packer k65 ty_Packer nm_Packer rfl (Or.inl rfl) ?_
      refine V_aload_n (i := 0) d_Packer_writeBits_61 rfl 0 rfl ?_
      refine V_iconst (v := 0) d_Packer_writeBits_62 (by decide) ?_
      obtain ⟨w63, e63, h⟩ := ob h
      refine V_putI (ci := 3) (k := 2) t_Packer d_Packer_writeBits_63 e63 rfl (by decide) in_Packer k66 ty_Packer nm_Packer rfl (Or.inl rfl) ?_
      exact b_Packer_writeBits_66_ok G F K2 hK2 v0 v1 v2 v3 w63 _ h
def l_Packer_writeBits_2 (F : Nat) : Nat → Nat → Int32 → Int32 → Int32 → zW → Option (Unit × zW)
  | 0 => fun _ _ _ _ _ => none
  | n + 1 => b_Packer_writeBits_2 F (l_Packer_writeBits_2 F n)
theorem l_Packer_writeBits_2_ok (G : zG) (F : Nat) (n : Nat) :  ∀ (v0 : Nat) (v1 : Int32) (v2 : Int32) (v3 : Int32) (w : zW) (r : (Unit × zW)), l_Packer_writeBits_2 F n v0 v1 v2 v3 w = some r → zV G m_Packer_writeBits 2 [(0, .ref (z0 G + v0)), (1, .int v1), (2, .int v2), (3, .int v3)] [] w 0 0 (oV r.1) r.2 := by
  induction n with
  | zero => intro v0 v1 v2 v3 w r h; exact nomatch (show (none : Option (Unit × zW)) = some r from h)
  | succ n ih => intro v0 v1 v2 v3 w r h; exact b_Packer_writeBits_2_ok G F (l_Packer_writeBits_2 F n) ih v0 v1 v2 v3 w r h
def b_Packer_writeBits_0 (F : Nat) (v0 : Nat) (v1 : Int32) (v2 : Int32) (w : zW) : Option (Unit × zW) := l_Packer_writeBits_2 F F v0 v1 v2 (0 : Int32) w
set_option maxRecDepth 100000 in
set_option maxHeartbeats 4000000 in
theorem b_Packer_writeBits_0_ok (G : zG) (F : Nat) (v0 : Nat) (v1 : Int32) (v2 : Int32) (w : zW) (r : (Unit × zW)) (h : b_Packer_writeBits_0 F v0 v1 v2 w = some r) : zV G m_Packer_writeBits 0 [(0, .ref (z0 G + v0)), (1, .int v1), (2, .int v2)] [] w 0 0 (oV r.1) r.2 := by
  unfold b_Packer_writeBits_0 at h
  refine V_iconst (v := 0) d_Packer_writeBits_0 (by decide) ?_
  refine V_istore_n (i := 3) d_Packer_writeBits_1 rfl (by decide) rfl ?_
  refine V_lv [1, 2, 3, 0] rfl ?_
  exact l_Packer_writeBits_2_ok G F F v0 v1 v2 (0 : Int32) w _ h
def f_Packer_writeBits (F : Nat) (v0 : Nat) (v1 : Int32) (v2 : Int32) (w : zW) : Option (Unit × zW) := b_Packer_writeBits_0 F v0 v1 v2 w
theorem c_Packer_writeBits (G : zG) (F : Nat) (v0 : Nat) (v1 : Int32) (v2 : Int32) (w : zW) (r : (Unit × zW)) (h : f_Packer_writeBits F v0 v1 v2 w = some r) : zCT G m_Packer_writeBits [.ref (z0 G + v0), .int v1, .int v2] w (oV r.1) r.2 := zCT.ofV (by decide +kernel) (Or.inl ⟨kc_Packer_writeBits, rfl⟩) (Nat.le_of_ble_eq_true rfl) (b_Packer_writeBits_0_ok G F v0 v1 v2 w r h)

/-! ZipArray$Packer.sameBytes(LZipArray$Row;II)I -/
def m_Packer_sameBytes : zM := (⟨R_Packer, "sameBytes", "(LZipArray$Row;II)I"⟩, prog_6_method_4_code, 5, (some .int), [], { frames := 1, cells := 0, slots := 0, locals := 24 })
theorem k39 : Cond.fieldLink R_Packer 66 (T_Row 0).1 (T_Row 0).2.1 (T_Row 0).2.2.1 ∈ zTb := tb_at 39 (by decide +kernel) rfl
theorem k43 : Cond.fieldLink R_Packer 29 (T_Row 1).1 (T_Row 1).2.1 (T_Row 1).2.2.1 ∈ zTb := tb_at 43 (by decide +kernel) rfl
theorem k687 : Cond.methodLink R_Packer 60 Lib.Math.min.name ∈ zTb := tb_at 687 (by decide +kernel) rfl
theorem kc_Packer_sameBytes : Cond.code (mY m_Packer_sameBytes) (mC m_Packer_sameBytes) (mL m_Packer_sameBytes) (mT m_Packer_sameBytes) ∈ zTb := tb_at 686 (by decide +kernel) rfl
theorem y_Packer_sameBytes : (mY m_Packer_sameBytes).cls ≠ "java/lang/invoke/MethodHandle" ∧ (mY m_Packer_sameBytes).cls ≠ "java/lang/invoke/VarHandle" ∧ (parseMethodDescriptor (mY m_Packer_sameBytes).desc).map (fun d => d.parameters.length) = some 3 := by decide +kernel
theorem d_Packer_sameBytes_0 : decode (mC m_Packer_sameBytes) 0 = .ok (.sipush 258, 3) := by decide +kernel
theorem d_Packer_sameBytes_3 : decode (mC m_Packer_sameBytes) 3 = .ok (.aload_n 0, 1) := by decide +kernel
theorem d_Packer_sameBytes_4 : decode (mC m_Packer_sameBytes) 4 = .ok (.getfield 29, 3) := by decide +kernel
theorem d_Packer_sameBytes_7 : decode (mC m_Packer_sameBytes) 7 = .ok (.iload_n 1, 1) := by decide +kernel
theorem d_Packer_sameBytes_8 : decode (mC m_Packer_sameBytes) 8 = .ok (.isub, 1) := by decide +kernel
theorem d_Packer_sameBytes_9 : decode (mC m_Packer_sameBytes) 9 = .ok (.invokestatic 60, 3) := by decide +kernel
theorem d_Packer_sameBytes_12 : decode (mC m_Packer_sameBytes) 12 = .ok (.istore_n 3, 1) := by decide +kernel
theorem d_Packer_sameBytes_13 : decode (mC m_Packer_sameBytes) 13 = .ok (.iconst 0, 1) := by decide +kernel
theorem d_Packer_sameBytes_14 : decode (mC m_Packer_sameBytes) 14 = .ok (.istore 4, 2) := by decide +kernel
theorem d_Packer_sameBytes_16 : decode (mC m_Packer_sameBytes) 16 = .ok (.iload 4, 2) := by decide +kernel
theorem d_Packer_sameBytes_18 : decode (mC m_Packer_sameBytes) 18 = .ok (.iload_n 3, 1) := by decide +kernel
theorem d_Packer_sameBytes_19 : decode (mC m_Packer_sameBytes) 19 = .ok (.if_icmp .ge 32, 3) := by decide +kernel
theorem d_Packer_sameBytes_22 : decode (mC m_Packer_sameBytes) 22 = .ok (.aload_n 0, 1) := by decide +kernel
theorem d_Packer_sameBytes_23 : decode (mC m_Packer_sameBytes) 23 = .ok (.getfield 66, 3) := by decide +kernel
theorem d_Packer_sameBytes_26 : decode (mC m_Packer_sameBytes) 26 = .ok (.iload_n 1, 1) := by decide +kernel
theorem d_Packer_sameBytes_27 : decode (mC m_Packer_sameBytes) 27 = .ok (.iload 4, 2) := by decide +kernel
theorem d_Packer_sameBytes_29 : decode (mC m_Packer_sameBytes) 29 = .ok (.iadd, 1) := by decide +kernel
theorem d_Packer_sameBytes_30 : decode (mC m_Packer_sameBytes) 30 = .ok (.iaload, 1) := by decide +kernel
theorem d_Packer_sameBytes_31 : decode (mC m_Packer_sameBytes) 31 = .ok (.aload_n 0, 1) := by decide +kernel
theorem d_Packer_sameBytes_32 : decode (mC m_Packer_sameBytes) 32 = .ok (.getfield 66, 3) := by decide +kernel
theorem d_Packer_sameBytes_35 : decode (mC m_Packer_sameBytes) 35 = .ok (.iload_n 1, 1) := by decide +kernel
theorem d_Packer_sameBytes_36 : decode (mC m_Packer_sameBytes) 36 = .ok (.iload 4, 2) := by decide +kernel
theorem d_Packer_sameBytes_38 : decode (mC m_Packer_sameBytes) 38 = .ok (.iadd, 1) := by decide +kernel
theorem d_Packer_sameBytes_39 : decode (mC m_Packer_sameBytes) 39 = .ok (.iload_n 2, 1) := by decide +kernel
theorem d_Packer_sameBytes_40 : decode (mC m_Packer_sameBytes) 40 = .ok (.isub, 1) := by decide +kernel
theorem d_Packer_sameBytes_41 : decode (mC m_Packer_sameBytes) 41 = .ok (.iaload, 1) := by decide +kernel
theorem d_Packer_sameBytes_42 : decode (mC m_Packer_sameBytes) 42 = .ok (.if_icmp .ne 9, 3) := by decide +kernel
theorem d_Packer_sameBytes_45 : decode (mC m_Packer_sameBytes) 45 = .ok (.iinc 4 1, 3) := by decide +kernel
theorem d_Packer_sameBytes_48 : decode (mC m_Packer_sameBytes) 48 = .ok (.goto (-32), 3) := by decide +kernel
theorem d_Packer_sameBytes_51 : decode (mC m_Packer_sameBytes) 51 = .ok (.iload 4, 2) := by decide +kernel
theorem d_Packer_sameBytes_53 : decode (mC m_Packer_sameBytes) 53 = .ok (.ireturn, 1) := by decide +kernel
def b_Packer_sameBytes_51 (F : Nat) (v4 : Int32) (w : zW) : Option (Int32 × zW) := some (v4, w)
set_option maxRecDepth 100000 in
set_option maxHeartbeats 4000000 in
theorem b_Packer_sameBytes_51_ok (G : zG) (F : Nat) (v4 : Int32) (w : zW) (r : (Int32 × zW)) (h : b_Packer_sameBytes_51 F v4 w = some r) : zV G m_Packer_sameBytes 51 [(4, .int v4)] [] w 0 0 (oI r.1) r.2 := by
  unfold b_Packer_sameBytes_51 at h
  refine V_iload (i := 4) d_Packer_sameBytes_51 0 rfl ?_
  obtain rfl := Option.some.inj h
  exact V_iret rfl (by decide) (by decide) d_Packer_sameBytes_53
def b_Packer_sameBytes_16 (F : Nat) (K16 : Nat → Int32 → Int32 → Int32 → Int32 → zW → Option (Int32 × zW)) (v0 : Nat) (v1 : Int32) (v2 : Int32) (v3 : Int32) (v4 : Int32) (w : zW) : Option (Int32 × zW) := if v3 ≤ v4 then (b_Packer_sameBytes_51 F v4 w) else ((getR w v0 0 0).bind fun x23 => (aget w x23 (v1 + v4)).bind fun x30 => (getR w v0 0 0).bind fun x32 => (aget w x32 ((v1 + v4) - v2)).bind fun x41 => if x30 = x41 then (K16 v0 v1 v2 v3 (v4 + (1 : Int32)) w) else (b_Packer_sameBytes_51 F v4 w))
set_option maxRecDepth 100000 in
set_option maxHeartbeats 4000000 in
theorem b_Packer_sameBytes_16_ok (G : zG) (F : Nat) (K16 : Nat → Int32 → Int32 → Int32 → Int32 → zW → Option (Int32 × zW)) (hK16 : ∀ (v0 : Nat) (v1 : Int32) (v2 : Int32) (v3 : Int32) (v4 : Int32) (w : zW) (r : (Int32 × zW)), K16 v0 v1 v2 v3 v4 w = some r → zV G m_Packer_sameBytes 16 [(0, .ref (z0 G + v0)), (1, .int v1), (2, .int v2), (3, .int v3), (4, .int v4)] [] w 0 0 (oI r.1) r.2) (v0 : Nat) (v1 : Int32) (v2 : Int32) (v3 : Int32) (v4 : Int32) (w : zW) (r : (Int32 × zW)) (h : b_Packer_sameBytes_16 F K16 v0 v1 v2 v3 v4 w = some r) : zV G m_Packer_sameBytes 16 [(0, .ref (z0 G + v0)), (1, .int v1), (2, .int v2), (3, .int v3), (4, .int v4)] [] w 0 0 (oI r.1) r.2 := by
  unfold b_Packer_sameBytes_16 at h
  refine V_iload (i := 4) d_Packer_sameBytes_16 4 rfl ?_
  refine V_iload_n (i := 3) d_Packer_sameBytes_18 rfl 3 rfl ?_
  refine V_icmp_ge (tgt := 51) d_Packer_sameBytes_19 (by decide) (fun c19 => ?_) (fun c19 => ?_)
  · rw [if_pos c19] at h
    refine V_lv [4] rfl ?_
    exact b_Packer_sameBytes_51_ok G F v4 w _ h
  · rw [if_neg c19] at h
    refine V_aload_n (i := 0) d_Packer_sameBytes_22 rfl 0 rfl ?_
    obtain ⟨x23, e23, h⟩ := ob h
    refine V_getR (ci := 0) (k := 0) d_Packer_sameBytes_23 e23 rfl (by decide) in_Row k39 ?_
    refine V_iload_n (i := 1) d_Packer_sameBytes_26 rfl 1 rfl ?_
    refine V_iload (i := 4) d_Packer_sameBytes_27 4 rfl ?_
    refine V_iadd d_Packer_sameBytes_29 ?_
    obtain ⟨x30, e30, h⟩ := ob h
    refine V_aget d_Packer_sameBytes_30 e30 ?_
    refine V_aload_n (i := 0) d_Packer_sameBytes_31 rfl 0 rfl ?_
    obtain ⟨x32, e32, h⟩ := ob h
    refine V_getR (ci := 0) (k := 0) d_Packer_sameBytes_32 e32 rfl (by decide) in_Row k39 ?_
    refine V_iload_n (i := 1) d_Packer_sameBytes_35 rfl 1 rfl ?_
    refine V_iload (i := 4) d_Packer_sameBytes_36 4 rfl ?_
    refine V_iadd d_Packer_sameBytes_38 ?_
    refine V_iload_n (i := 2) d_Packer_sameBytes_39 rfl 2 rfl ?_
    refine V_isub d_Packer_sameBytes_40 ?_
    obtain ⟨x41, e41, h⟩ := ob h
    refine V_aget d_Packer_sameBytes_41 e41 ?_
    refine V_icmp_ne (tgt := 51) d_Packer_sameBytes_42 (by decide) (fun c42 => ?_) (fun c42 => ?_)
    · rw [if_neg c42] at h
      refine V_lv [4] rfl ?_
      exact b_Packer_sameBytes_51_ok G F v4 w _ h
    · rw [if_pos c42] at h
      refine V_iinc (i := 4) (v := (v4 + (1 : Int32))) d_Packer_sameBytes_45 4 rfl (congrArg (fun y => v4 + y) (by decide : Int32.ofInt (1) = (1 : Int32))) (by decide) rfl ?_
      refine V_goto (tgt := 16) d_Packer_sameBytes_48 (by decide) ?_
      refine V_lv [1, 2, 3, 4, 0] rfl ?_
      exact hK16 v0 v1 v2 v3 (v4 + (1 : Int32)) w _ h
def l_Packer_sameBytes_16 (F : Nat) : Nat → Nat → Int32 → Int32 → Int32 → Int32 → zW → Option (Int32 × zW)
  | 0 => fun _ _ _ _ _ _ => none
  | n + 1 => b_Packer_sameBytes_16 F (l_Packer_sameBytes_16 F n)
theorem l_Packer_sameBytes_16_ok (G : zG) (F : Nat) (n : Nat) :  ∀ (v0 : Nat) (v1 : Int32) (v2 : Int32) (v3 : Int32) (v4 : Int32) (w : zW) (r : (Int32 × zW)), l_Packer_sameBytes_16 F n v0 v1 v2 v3 v4 w = some r → zV G m_Packer_sameBytes 16 [(0, .ref (z0 G + v0)), (1, .int v1), (2, .int v2), (3, .int v3), (4, .int v4)] [] w 0 0 (oI r.1) r.2 := by
  induction n with
  | zero => intro v0 v1 v2 v3 v4 w r h; exact nomatch (show (none : Option (Int32 × zW)) = some r from h)
  | succ n ih => intro v0 v1 v2 v3 v4 w r h; exact b_Packer_sameBytes_16_ok G F (l_Packer_sameBytes_16 F n) ih v0 v1 v2 v3 v4 w r h
def b_Packer_sameBytes_0 (F : Nat) (v0 : Nat) (v1 : Int32) (v2 : Int32) (w : zW) : Option (Int32 × zW) := (getI w v0 0 1).bind fun x4 => l_Packer_sameBytes_16 F F v0 v1 v2 (if (x4 - v1) < (258 : Int32) then (x4 - v1) else (258 : Int32)) (0 : Int32) w
set_option maxRecDepth 100000 in
set_option maxHeartbeats 4000000 in
theorem b_Packer_sameBytes_0_ok (G : zG) (F : Nat) (v0 : Nat) (v1 : Int32) (v2 : Int32) (w : zW) (r : (Int32 × zW)) (h : b_Packer_sameBytes_0 F v0 v1 v2 w = some r) : zV G m_Packer_sameBytes 0 [(0, .ref (z0 G + v0)), (1, .int v1), (2, .int v2)] [] w 0 0 (oI r.1) r.2 := by
  unfold b_Packer_sameBytes_0 at h
  refine V_sipush (v := 258) d_Packer_sameBytes_0 (by decide) ?_
  refine V_aload_n (i := 0) d_Packer_sameBytes_3 rfl 0 rfl ?_
  obtain ⟨x4, e4, h⟩ := ob h
  refine V_getI (ci := 0) (k := 1) d_Packer_sameBytes_4 e4 rfl (by decide) in_Row k43 ?_
  refine V_iload_n (i := 1) d_Packer_sameBytes_7 rfl 1 rfl ?_
  refine V_isub d_Packer_sameBytes_8 ?_
  refine V_min d_Packer_sameBytes_9 k687 kmin1 kmin2 kmin3 (by decide) (Nat.le_of_ble_eq_true rfl) (by decide) (by decide) ?_
  refine V_istore_n (i := 3) d_Packer_sameBytes_12 rfl (by decide) rfl ?_
  refine V_iconst (v := 0) d_Packer_sameBytes_13 (by decide) ?_
  refine V_istore (i := 4) d_Packer_sameBytes_14 (by decide) rfl ?_
  refine V_lv [2, 3, 4, 1, 0] rfl ?_
  exact l_Packer_sameBytes_16_ok G F F v0 v1 v2 (if (x4 - v1) < (258 : Int32) then (x4 - v1) else (258 : Int32)) (0 : Int32) w _ h
def f_Packer_sameBytes (F : Nat) (v0 : Nat) (v1 : Int32) (v2 : Int32) (w : zW) : Option (Int32 × zW) := b_Packer_sameBytes_0 F v0 v1 v2 w
theorem c_Packer_sameBytes (G : zG) (F : Nat) (v0 : Nat) (v1 : Int32) (v2 : Int32) (w : zW) (r : (Int32 × zW)) (h : f_Packer_sameBytes F v0 v1 v2 w = some r) : zCT G m_Packer_sameBytes [.ref (z0 G + v0), .int v1, .int v2] w (oI r.1) r.2 := zCT.ofV (by decide +kernel) (Or.inl ⟨kc_Packer_sameBytes, rfl⟩) (Nat.le_of_ble_eq_true rfl) (b_Packer_sameBytes_0_ok G F v0 v1 v2 w r h)
