/-! ZipArray.add(IIZ)I -/
def m_Zip_add : zM := (⟨R_Zip, "add", "(IIZ)I"⟩, prog_1_method_12_code, 7, (some .int), [], { frames := 7, cells := 2, slots := 12, locals := 142 })
theorem k738 : Cond.methodLink R_Zip 133 (mY m_Zip_needArchive) ∈ zTb := tb_at 738 (by decide +kernel) rfl
theorem k740 : Cond.instanceMethod (mY m_Zip_needArchive) ∈ zTb := tb_at 740 (by decide +kernel) rfl
theorem k757 : Cond.methodLink R_Zip 136 (mY m_Zip_nameBytes) ∈ zTb := tb_at 757 (by decide +kernel) rfl
theorem k763 : Cond.methodLink R_Zip 139 (mY m_Zip_isMethod) ∈ zTb := tb_at 763 (by decide +kernel) rfl
theorem k764 : Cond.methodLink R_Zip 142 (mY m_Archive_find) ∈ zTb := tb_at 764 (by decide +kernel) rfl
theorem k765 : Cond.methodLink R_Zip 148 (mY m_Zip_describeFresh) ∈ zTb := tb_at 765 (by decide +kernel) rfl
theorem k767 : Cond.instanceMethod (mY m_Zip_describeFresh) ∈ zTb := tb_at 767 (by decide +kernel) rfl
theorem k769 : Cond.methodLink R_Zip 155 (mY m_Writer_writeLocal) ∈ zTb := tb_at 769 (by decide +kernel) rfl
theorem k770 : Cond.instanceMethod (mY m_Writer_writeLocal) ∈ zTb := tb_at 770 (by decide +kernel) rfl
theorem k771 : Cond.selects R_Writer (mY m_Writer_writeLocal) (mY m_Writer_writeLocal) ∈ zTb := tb_at 771 (by decide +kernel) rfl
theorem k790 : Cond.methodLink R_Zip 159 (mY m_Zip_keepParts) ∈ zTb := tb_at 790 (by decide +kernel) rfl
theorem k792 : Cond.instanceMethod (mY m_Zip_keepParts) ∈ zTb := tb_at 792 (by decide +kernel) rfl
theorem k794 : Cond.methodLink R_Zip 162 (mY m_Writer_writePart) ∈ zTb := tb_at 794 (by decide +kernel) rfl
theorem k795 : Cond.instanceMethod (mY m_Writer_writePart) ∈ zTb := tb_at 795 (by decide +kernel) rfl
theorem k796 : Cond.selects R_Writer (mY m_Writer_writePart) (mY m_Writer_writePart) ∈ zTb := tb_at 796 (by decide +kernel) rfl
theorem k800 : Cond.methodLink R_Zip 166 (mY m_Zip_finishFile) ∈ zTb := tb_at 800 (by decide +kernel) rfl
theorem k802 : Cond.instanceMethod (mY m_Zip_finishFile) ∈ zTb := tb_at 802 (by decide +kernel) rfl
theorem kc_Zip_add : Cond.code (mY m_Zip_add) (mC m_Zip_add) (mL m_Zip_add) (mT m_Zip_add) ∈ zTb := tb_at 737 (by decide +kernel) rfl
theorem y_Zip_add : (mY m_Zip_add).cls ≠ "java/lang/invoke/MethodHandle" ∧ (mY m_Zip_add).cls ≠ "java/lang/invoke/VarHandle" ∧ (parseMethodDescriptor (mY m_Zip_add).desc).map (fun d => d.parameters.length) = some 3 := by decide +kernel
theorem d_Zip_add_0 : decode (mC m_Zip_add) 0 = .ok (.aload_n 0, 1) := by decide +kernel
theorem d_Zip_add_1 : decode (mC m_Zip_add) 1 = .ok (.invokevirtual 133, 3) := by decide +kernel
theorem d_Zip_add_4 : decode (mC m_Zip_add) 4 = .ok (.iload_n 1, 1) := by decide +kernel
theorem d_Zip_add_5 : decode (mC m_Zip_add) 5 = .ok (.invokestatic 136, 3) := by decide +kernel
theorem d_Zip_add_8 : decode (mC m_Zip_add) 8 = .ok (.ifCond .eq 10, 3) := by decide +kernel
theorem d_Zip_add_11 : decode (mC m_Zip_add) 11 = .ok (.iload_n 2, 1) := by decide +kernel
theorem d_Zip_add_12 : decode (mC m_Zip_add) 12 = .ok (.invokestatic 139, 3) := by decide +kernel
theorem d_Zip_add_15 : decode (mC m_Zip_add) 15 = .ok (.ifCond .ne 11, 3) := by decide +kernel
theorem d_Zip_add_18 : decode (mC m_Zip_add) 18 = .ok (.new 79, 3) := by decide +kernel
theorem d_Zip_add_21 : decode (mC m_Zip_add) 21 = .ok (.dup, 1) := by decide +kernel
theorem d_Zip_add_22 : decode (mC m_Zip_add) 22 = .ok (.invokespecial 81, 3) := by decide +kernel
theorem d_Zip_add_25 : decode (mC m_Zip_add) 25 = .ok (.athrow, 1) := by decide +kernel
theorem d_Zip_add_26 : decode (mC m_Zip_add) 26 = .ok (.aload_n 0, 1) := by decide +kernel
theorem d_Zip_add_27 : decode (mC m_Zip_add) 27 = .ok (.getfield 46, 3) := by decide +kernel
theorem d_Zip_add_30 : decode (mC m_Zip_add) 30 = .ok (.iload_n 1, 1) := by decide +kernel
theorem d_Zip_add_31 : decode (mC m_Zip_add) 31 = .ok (.invokevirtual 142, 3) := by decide +kernel
theorem d_Zip_add_34 : decode (mC m_Zip_add) 34 = .ok (.istore 4, 2) := by decide +kernel
theorem d_Zip_add_36 : decode (mC m_Zip_add) 36 = .ok (.aload_n 0, 1) := by decide +kernel
theorem d_Zip_add_37 : decode (mC m_Zip_add) 37 = .ok (.getfield 46, 3) := by decide +kernel
theorem d_Zip_add_40 : decode (mC m_Zip_add) 40 = .ok (.getfield 145, 3) := by decide +kernel
theorem d_Zip_add_43 : decode (mC m_Zip_add) 43 = .ok (.iload 4, 2) := by decide +kernel
theorem d_Zip_add_45 : decode (mC m_Zip_add) 45 = .ok (.iconst (-1), 1) := by decide +kernel
theorem d_Zip_add_46 : decode (mC m_Zip_add) 46 = .ok (.if_icmp .ne 7, 3) := by decide +kernel
theorem d_Zip_add_49 : decode (mC m_Zip_add) 49 = .ok (.iconst 1, 1) := by decide +kernel
theorem d_Zip_add_50 : decode (mC m_Zip_add) 50 = .ok (.goto 4, 3) := by decide +kernel
theorem d_Zip_add_53 : decode (mC m_Zip_add) 53 = .ok (.iconst 0, 1) := by decide +kernel
theorem d_Zip_add_54 : decode (mC m_Zip_add) 54 = .ok (.iadd, 1) := by decide +kernel
theorem d_Zip_add_55 : decode (mC m_Zip_add) 55 = .ok (.istore 5, 2) := by decide +kernel
theorem d_Zip_add_57 : decode (mC m_Zip_add) 57 = .ok (.iload 5, 2) := by decide +kernel
theorem d_Zip_add_59 : decode (mC m_Zip_add) 59 = .ok (.bipush 8, 2) := by decide +kernel
theorem d_Zip_add_61 : decode (mC m_Zip_add) 61 = .ok (.if_icmp .le 11, 3) := by decide +kernel
theorem d_Zip_add_64 : decode (mC m_Zip_add) 64 = .ok (.new 85, 3) := by decide +kernel
theorem d_Zip_add_67 : decode (mC m_Zip_add) 67 = .ok (.dup, 1) := by decide +kernel
theorem d_Zip_add_68 : decode (mC m_Zip_add) 68 = .ok (.invokespecial 87, 3) := by decide +kernel
theorem d_Zip_add_71 : decode (mC m_Zip_add) 71 = .ok (.athrow, 1) := by decide +kernel
theorem d_Zip_add_72 : decode (mC m_Zip_add) 72 = .ok (.iload_n 2, 1) := by decide +kernel
theorem d_Zip_add_73 : decode (mC m_Zip_add) 73 = .ok (.bipush 8, 2) := by decide +kernel
theorem d_Zip_add_75 : decode (mC m_Zip_add) 75 = .ok (.if_icmp .ne 14, 3) := by decide +kernel
theorem d_Zip_add_78 : decode (mC m_Zip_add) 78 = .ok (.aload_n 0, 1) := by decide +kernel
theorem d_Zip_add_79 : decode (mC m_Zip_add) 79 = .ok (.getfield 32, 3) := by decide +kernel
theorem d_Zip_add_82 : decode (mC m_Zip_add) 82 = .ok (.aload_n 0, 1) := by decide +kernel
theorem d_Zip_add_83 : decode (mC m_Zip_add) 83 = .ok (.getfield 14, 3) := by decide +kernel
theorem d_Zip_add_86 : decode (mC m_Zip_add) 86 = .ok (.invokevirtual 105, 3) := by decide +kernel
theorem d_Zip_add_89 : decode (mC m_Zip_add) 89 = .ok (.aload_n 0, 1) := by decide +kernel
theorem d_Zip_add_90 : decode (mC m_Zip_add) 90 = .ok (.iload_n 1, 1) := by decide +kernel
theorem d_Zip_add_91 : decode (mC m_Zip_add) 91 = .ok (.iload_n 2, 1) := by decide +kernel
theorem d_Zip_add_92 : decode (mC m_Zip_add) 92 = .ok (.iload_n 3, 1) := by decide +kernel
theorem d_Zip_add_93 : decode (mC m_Zip_add) 93 = .ok (.invokevirtual 148, 3) := by decide +kernel
theorem d_Zip_add_96 : decode (mC m_Zip_add) 96 = .ok (.aload_n 0, 1) := by decide +kernel
theorem d_Zip_add_97 : decode (mC m_Zip_add) 97 = .ok (.getfield 53, 3) := by decide +kernel
theorem d_Zip_add_100 : decode (mC m_Zip_add) 100 = .ok (.aload_n 0, 1) := by decide +kernel
theorem d_Zip_add_101 : decode (mC m_Zip_add) 101 = .ok (.getfield 18, 3) := by decide +kernel
theorem d_Zip_add_104 : decode (mC m_Zip_add) 104 = .ok (.aload_n 0, 1) := by decide +kernel
theorem d_Zip_add_105 : decode (mC m_Zip_add) 105 = .ok (.getfield 46, 3) := by decide +kernel
theorem d_Zip_add_108 : decode (mC m_Zip_add) 108 = .ok (.getfield 152, 3) := by decide +kernel
theorem d_Zip_add_111 : decode (mC m_Zip_add) 111 = .ok (.invokevirtual 118, 3) := by decide +kernel
theorem d_Zip_add_114 : decode (mC m_Zip_add) 114 = .ok (.aload_n 0, 1) := by decide +kernel
theorem d_Zip_add_115 : decode (mC m_Zip_add) 115 = .ok (.getfield 53, 3) := by decide +kernel
theorem d_Zip_add_118 : decode (mC m_Zip_add) 118 = .ok (.aload_n 0, 1) := by decide +kernel
theorem d_Zip_add_119 : decode (mC m_Zip_add) 119 = .ok (.getfield 60, 3) := by decide +kernel
theorem d_Zip_add_122 : decode (mC m_Zip_add) 122 = .ok (.iload_n 2, 1) := by decide +kernel
theorem d_Zip_add_123 : decode (mC m_Zip_add) 123 = .ok (.bipush 8, 2) := by decide +kernel
theorem d_Zip_add_125 : decode (mC m_Zip_add) 125 = .ok (.if_icmp .ne 10, 3) := by decide +kernel
theorem d_Zip_add_128 : decode (mC m_Zip_add) 128 = .ok (.aload_n 0, 1) := by decide +kernel
theorem d_Zip_add_129 : decode (mC m_Zip_add) 129 = .ok (.getfield 21, 3) := by decide +kernel
theorem d_Zip_add_132 : decode (mC m_Zip_add) 132 = .ok (.goto 7, 3) := by decide +kernel
theorem d_Zip_add_135 : decode (mC m_Zip_add) 135 = .ok (.aload_n 0, 1) := by decide +kernel
theorem d_Zip_add_136 : decode (mC m_Zip_add) 136 = .ok (.getfield 14, 3) := by decide +kernel
theorem d_Zip_add_139 : decode (mC m_Zip_add) 139 = .ok (.invokevirtual 155, 3) := by decide +kernel
theorem d_Zip_add_142 : decode (mC m_Zip_add) 142 = .ok (.aload_n 0, 1) := by decide +kernel
theorem d_Zip_add_143 : decode (mC m_Zip_add) 143 = .ok (.getfield 53, 3) := by decide +kernel
theorem d_Zip_add_146 : decode (mC m_Zip_add) 146 = .ok (.getfield 126, 3) := by decide +kernel
theorem d_Zip_add_149 : decode (mC m_Zip_add) 149 = .ok (.getfield 64, 3) := by decide +kernel
theorem d_Zip_add_152 : decode (mC m_Zip_add) 152 = .ok (.istore 6, 2) := by decide +kernel
theorem d_Zip_add_154 : decode (mC m_Zip_add) 154 = .ok (.aload_n 0, 1) := by decide +kernel
theorem d_Zip_add_155 : decode (mC m_Zip_add) 155 = .ok (.iload 4, 2) := by decide +kernel
theorem d_Zip_add_157 : decode (mC m_Zip_add) 157 = .ok (.invokevirtual 159, 3) := by decide +kernel
theorem d_Zip_add_160 : decode (mC m_Zip_add) 160 = .ok (.aload_n 0, 1) := by decide +kernel
theorem d_Zip_add_161 : decode (mC m_Zip_add) 161 = .ok (.getfield 53, 3) := by decide +kernel
theorem d_Zip_add_164 : decode (mC m_Zip_add) 164 = .ok (.aload_n 0, 1) := by decide +kernel
theorem d_Zip_add_165 : decode (mC m_Zip_add) 165 = .ok (.getfield 60, 3) := by decide +kernel
theorem d_Zip_add_168 : decode (mC m_Zip_add) 168 = .ok (.invokevirtual 162, 3) := by decide +kernel
theorem d_Zip_add_171 : decode (mC m_Zip_add) 171 = .ok (.aload_n 0, 1) := by decide +kernel
theorem d_Zip_add_172 : decode (mC m_Zip_add) 172 = .ok (.iload 5, 2) := by decide +kernel
theorem d_Zip_add_174 : decode (mC m_Zip_add) 174 = .ok (.iload 6, 2) := by decide +kernel
theorem d_Zip_add_176 : decode (mC m_Zip_add) 176 = .ok (.invokevirtual 166, 3) := by decide +kernel
theorem d_Zip_add_179 : decode (mC m_Zip_add) 179 = .ok (.iload 5, 2) := by decide +kernel
theorem d_Zip_add_181 : decode (mC m_Zip_add) 181 = .ok (.ireturn, 1) := by decide +kernel
def b_Zip_add_139 (F : Nat) (v0 : Nat) (v4 : Int32) (v5 : Int32) (s0 : Nat) (s1 : Nat) (s2 : Nat) (w : zW) : Option ((Int32 ⊕ Nat) × zW) := (zobj w s0 7).bind fun _ => (f_Writer_writeLocal F s0 s1 s2 w).bind fun r139 => (getR r139.2 v0 8 7).bind fun x143 => (getR r139.2 x143 7 0).bind fun x146 => (getI r139.2 x146 0 1).bind fun x149 => (zobj r139.2 v0 8).bind fun _ => (f_Zip_keepParts F v0 v4 r139.2).bind fun r157 => (getR r157.2 v0 8 7).bind fun x161 => (getR r157.2 v0 8 8).bind fun x165 => (zobj r157.2 x161 7).bind fun _ => (f_Writer_writePart F x161 x165 r157.2).bind fun r168 => (zobj r168.2 v0 8).bind fun _ => (f_Zip_finishFile F v0 v5 x149 r168.2).bind fun r => match r with | (.inl _, w176) => some ((.inl v5), w176) | (.inr qx176, w176) => some (.inr qx176, w176)
set_option maxRecDepth 100000 in
set_option maxHeartbeats 4000000 in
theorem b_Zip_add_139_ok (G : zG) (F : Nat) (v0 : Nat) (v4 : Int32) (v5 : Int32) (s0 : Nat) (s1 : Nat) (s2 : Nat) (w : zW) (r : ((Int32 ⊕ Nat) × zW)) (h : b_Zip_add_139 F v0 v4 v5 s0 s1 s2 w = some r) : zV G m_Zip_add 139 [(0, .ref (z0 G + v0)), (4, .int v4), (5, .int v5)] [.ref (z0 G + s2), .ref (z0 G + s1), .ref (z0 G + s0)] w 1 6 (oIT (z0 G) r.1) r.2 := by
  unfold b_Zip_add_139 at h
  obtain ⟨_, eo139, h⟩ := ob h
  obtain ⟨r139, e139, h⟩ := ob h
  refine V_call (v := none) (st := []) (inv_V (N := m_Writer_writeLocal) (As := [.ref (z0 G + s1), .ref (z0 G + s2)]) (ci := 7) d_Zip_add_139 eo139 rfl k769 k770 k771 kc_Writer_writeLocal y_Writer_writeLocal) ⟨Or.inl kc_Writer_writeLocal, k9, by decide, by decide⟩ (Nat.le_of_ble_eq_true rfl) (by decide) (by decide) (c_Writer_writeLocal G F s0 s1 s2 w r139 e139) ?_
  refine V_aload_n (i := 0) d_Zip_add_142 rfl 0 rfl ?_
  obtain ⟨x143, e143, h⟩ := ob h
  refine V_getR (ci := 8) (k := 7) d_Zip_add_143 e143 rfl (by decide) in_Zip k262 ?_
  obtain ⟨x146, e146, h⟩ := ob h
  refine V_getR (ci := 7) (k := 0) d_Zip_add_146 e146 rfl (by decide) in_Writer k245 ?_
  obtain ⟨x149, e149, h⟩ := ob h
  refine V_getI (ci := 0) (k := 1) d_Zip_add_149 e149 rfl (by decide) in_Row k42 ?_
  refine V_istore (i := 6) d_Zip_add_152 (by decide) rfl ?_
  refine V_aload_n (i := 0) d_Zip_add_154 rfl 1 rfl ?_
  refine V_iload (i := 4) d_Zip_add_155 2 rfl ?_
  obtain ⟨_, eo157, h⟩ := ob h
  obtain ⟨r157, e157, h⟩ := ob h
  refine V_call (v := none) (st := []) (inv_V (N := m_Zip_keepParts) (As := [.int v4]) (ci := 8) d_Zip_add_157 eo157 rfl k790 k792 sel_Zip_keepParts kc_Zip_keepParts y_Zip_keepParts) ⟨Or.inl kc_Zip_keepParts, k1, by decide, by decide⟩ (Nat.le_of_ble_eq_true rfl) (by decide) (by decide) (c_Zip_keepParts G F v0 v4 r139.2 r157 e157) ?_
  refine V_aload_n (i := 0) d_Zip_add_160 rfl 1 rfl ?_
  obtain ⟨x161, e161, h⟩ := ob h
  refine V_getR (ci := 8) (k := 7) d_Zip_add_161 e161 rfl (by decide) in_Zip k262 ?_
  refine V_aload_n (i := 0) d_Zip_add_164 rfl 1 rfl ?_
  obtain ⟨x165, e165, h⟩ := ob h
  refine V_getR (ci := 8) (k := 8) d_Zip_add_165 e165 rfl (by decide) in_Zip k263 ?_
  obtain ⟨_, eo168, h⟩ := ob h
  obtain ⟨r168, e168, h⟩ := ob h
  refine V_call (v := none) (st := []) (inv_V (N := m_Writer_writePart) (As := [.ref (z0 G + x165)]) (ci := 7) d_Zip_add_168 eo168 rfl k794 k795 k796 kc_Writer_writePart y_Writer_writePart) ⟨Or.inl kc_Writer_writePart, k9, by decide, by decide⟩ (Nat.le_of_ble_eq_true rfl) (by decide) (by decide) (c_Writer_writePart G F x161 x165 r157.2 r168 e168) ?_
  refine V_aload_n (i := 0) d_Zip_add_171 rfl 1 rfl ?_
  refine V_iload (i := 5) d_Zip_add_172 3 rfl ?_
  refine V_iload (i := 6) d_Zip_add_174 0 rfl ?_
  obtain ⟨_, eo176, h⟩ := ob h
  obtain ⟨⟨x176 | qx176, w176⟩, e176, h⟩ := ob h
  · dsimp only at h
    refine V_call (v := none) (st := []) (inv_V (N := m_Zip_finishFile) (As := [.int v5, .int x149]) (ci := 8) d_Zip_add_176 eo176 rfl k800 k802 sel_Zip_finishFile kc_Zip_finishFile y_Zip_finishFile) ⟨Or.inl kc_Zip_finishFile, k1, by decide, by decide⟩ (Nat.le_of_ble_eq_true rfl) (by decide) (by decide) (c_Zip_finishFile G F v0 v5 x149 r168.2 _ e176) ?_
    refine V_iload (i := 5) d_Zip_add_179 3 rfl ?_
    obtain rfl := Option.some.inj h
    exact V_iret rfl (by decide) (by decide) d_Zip_add_181
  · obtain rfl := Option.some.inj h
    exact V_callT (st := []) (inv_V (N := m_Zip_finishFile) (As := [.int v5, .int x149]) (ci := 8) d_Zip_add_176 eo176 rfl k800 k802 sel_Zip_finishFile kc_Zip_finishFile y_Zip_finishFile) ⟨Or.inl kc_Zip_finishFile, k1, by decide, by decide⟩ (Nat.le_of_ble_eq_true rfl) (by decide) (by decide) (c_Zip_finishFile G F v0 v5 x149 r168.2 _ e176) (by decide)
def b_Zip_add_89 (F : Nat) (v0 : Nat) (v1 : Int32) (v2 : Int32) (v3 : Int32) (v4 : Int32) (v5 : Int32) (w : zW) : Option ((Int32 ⊕ Nat) × zW) := (zobj w v0 8).bind fun _ => (f_Zip_describeFresh F v0 v1 v2 v3 w).bind fun r93 => (getR r93.2 v0 8 7).bind fun x97 => (getR r93.2 v0 8 1).bind fun x101 => (getR r93.2 v0 8 6).bind fun x105 => (getI r93.2 x105 6 4).bind fun x108 => (zobj r93.2 x97 7).bind fun _ => (f_Writer_begin F x97 x101 x108 r93.2).bind fun r111 => (getR r111.2 v0 8 7).bind fun x115 => (getR r111.2 v0 8 8).bind fun x119 => if v2 = (8 : Int32) then ((getR r111.2 v0 8 2).bind fun x129 => b_Zip_add_139 F v0 v4 v5 x115 x119 x129 r111.2) else ((getR r111.2 v0 8 0).bind fun x136 => b_Zip_add_139 F v0 v4 v5 x115 x119 x136 r111.2)
set_option maxRecDepth 100000 in
set_option maxHeartbeats 4000000 in
theorem b_Zip_add_89_ok (G : zG) (F : Nat) (v0 : Nat) (v1 : Int32) (v2 : Int32) (v3 : Int32) (v4 : Int32) (v5 : Int32) (w : zW) (r : ((Int32 ⊕ Nat) × zW)) (h : b_Zip_add_89 F v0 v1 v2 v3 v4 v5 w = some r) : zV G m_Zip_add 89 [(0, .ref (z0 G + v0)), (1, .int v1), (2, .int v2), (3, .int v3), (4, .int v4), (5, .int v5)] [] w 1 6 (oIT (z0 G) r.1) r.2 := by
  unfold b_Zip_add_89 at h
  refine V_aload_n (i := 0) d_Zip_add_89 rfl 0 rfl ?_
  refine V_iload_n (i := 1) d_Zip_add_90 rfl 1 rfl ?_
  refine V_iload_n (i := 2) d_Zip_add_91 rfl 2 rfl ?_
  refine V_iload_n (i := 3) d_Zip_add_92 rfl 3 rfl ?_
  obtain ⟨_, eo93, h⟩ := ob h
  obtain ⟨r93, e93, h⟩ := ob h
  refine V_call (v := none) (st := []) (inv_V (N := m_Zip_describeFresh) (As := [.int v1, .int v2, .int v3]) (ci := 8) d_Zip_add_93 eo93 rfl k765 k767 sel_Zip_describeFresh kc_Zip_describeFresh y_Zip_describeFresh) ⟨Or.inl kc_Zip_describeFresh, k1, by decide, by decide⟩ (Nat.le_of_ble_eq_true rfl) (by decide) (by decide) (c_Zip_describeFresh G F v0 v1 v2 v3 w r93 e93) ?_
  refine V_aload_n (i := 0) d_Zip_add_96 rfl 0 rfl ?_
  obtain ⟨x97, e97, h⟩ := ob h
  refine V_getR (ci := 8) (k := 7) d_Zip_add_97 e97 rfl (by decide) in_Zip k262 ?_
  refine V_aload_n (i := 0) d_Zip_add_100 rfl 0 rfl ?_
  obtain ⟨x101, e101, h⟩ := ob h
  refine V_getR (ci := 8) (k := 1) d_Zip_add_101 e101 rfl (by decide) in_Zip k256 ?_
  refine V_aload_n (i := 0) d_Zip_add_104 rfl 0 rfl ?_
  obtain ⟨x105, e105, h⟩ := ob h
  refine V_getR (ci := 8) (k := 6) d_Zip_add_105 e105 rfl (by decide) in_Zip k261 ?_
  obtain ⟨x108, e108, h⟩ := ob h
  refine V_getI (ci := 6) (k := 4) d_Zip_add_108 e108 rfl (by decide) in_Archive k219 ?_
  obtain ⟨_, eo111, h⟩ := ob h
  obtain ⟨r111, e111, h⟩ := ob h
  refine V_call (v := none) (st := []) (inv_V (N := m_Writer_begin) (As := [.ref (z0 G + x101), .int x108]) (ci := 7) d_Zip_add_111 eo111 rfl k308 k309 k310 kc_Writer_begin y_Writer_begin) ⟨Or.inl kc_Writer_begin, k9, by decide, by decide⟩ (Nat.le_of_ble_eq_true rfl) (by decide) (by decide) (c_Writer_begin G F x97 x101 x108 r93.2 r111 e111) ?_
  refine V_aload_n (i := 0) d_Zip_add_114 rfl 0 rfl ?_
  obtain ⟨x115, e115, h⟩ := ob h
  refine V_getR (ci := 8) (k := 7) d_Zip_add_115 e115 rfl (by decide) in_Zip k262 ?_
  refine V_aload_n (i := 0) d_Zip_add_118 rfl 0 rfl ?_
  obtain ⟨x119, e119, h⟩ := ob h
  refine V_getR (ci := 8) (k := 8) d_Zip_add_119 e119 rfl (by decide) in_Zip k263 ?_
  refine V_iload_n (i := 2) d_Zip_add_122 rfl 2 rfl ?_
  refine V_bipush (v := 8) d_Zip_add_123 (by decide) ?_
  refine V_icmp_ne (tgt := 135) d_Zip_add_125 (by decide) (fun c125 => ?_) (fun c125 => ?_)
  · rw [if_neg c125] at h
    refine V_aload_n (i := 0) d_Zip_add_135 rfl 0 rfl ?_
    obtain ⟨x136, e136, h⟩ := ob h
    refine V_getR (ci := 8) (k := 0) d_Zip_add_136 e136 rfl (by decide) in_Zip k255 ?_
    refine V_lv [0, 4, 5] rfl ?_
    exact b_Zip_add_139_ok G F v0 v4 v5 x115 x119 x136 r111.2 _ h
  · rw [if_pos c125] at h
    refine V_aload_n (i := 0) d_Zip_add_128 rfl 0 rfl ?_
    obtain ⟨x129, e129, h⟩ := ob h
    refine V_getR (ci := 8) (k := 2) d_Zip_add_129 e129 rfl (by decide) in_Zip k257 ?_
    refine V_goto (tgt := 139) d_Zip_add_132 (by decide) ?_
    refine V_lv [0, 4, 5] rfl ?_
    exact b_Zip_add_139_ok G F v0 v4 v5 x115 x119 x129 r111.2 _ h
def b_Zip_add_54 (F : Nat) (v0 : Nat) (v1 : Int32) (v2 : Int32) (v3 : Int32) (v4 : Int32) (s0 : Int32) (s1 : Int32) (w : zW) : Option ((Int32 ⊕ Nat) × zW) := if (s0 + s1) ≤ (8 : Int32) then (if v2 = (8 : Int32) then ((getR w v0 8 4).bind fun x79 => (getR w v0 8 0).bind fun x83 => (zobj w x79 3).bind fun _ => (f_Packer_packAll F x79 x83 w).bind fun r86 => b_Zip_add_89 F v0 v1 v2 v3 v4 (s0 + s1) r86.2) else (b_Zip_add_89 F v0 v1 v2 v3 v4 (s0 + s1) w)) else (some (.inr w.length, w ++ [.inr (.inr (.inr (11, [])))]))
set_option maxRecDepth 100000 in
set_option maxHeartbeats 4000000 in
theorem b_Zip_add_54_ok (G : zG) (F : Nat) (v0 : Nat) (v1 : Int32) (v2 : Int32) (v3 : Int32) (v4 : Int32) (s0 : Int32) (s1 : Int32) (w : zW) (r : ((Int32 ⊕ Nat) × zW)) (h : b_Zip_add_54 F v0 v1 v2 v3 v4 s0 s1 w = some r) : zV G m_Zip_add 54 [(0, .ref (z0 G + v0)), (1, .int v1), (2, .int v2), (3, .int v3), (4, .int v4)] [.int s1, .int s0] w 1 6 (oIT (z0 G) r.1) r.2 := by
  unfold b_Zip_add_54 at h
  refine V_iadd d_Zip_add_54 ?_
  refine V_istore (i := 5) d_Zip_add_55 (by decide) rfl ?_
  refine V_iload (i := 5) d_Zip_add_57 0 rfl ?_
  refine V_bipush (v := 8) d_Zip_add_59 (by decide) ?_
  refine V_icmp_le (tgt := 72) d_Zip_add_61 (by decide) (fun c61 => ?_) (fun c61 => ?_)
  · rw [if_pos c61] at h
    refine V_iload_n (i := 2) d_Zip_add_72 rfl 3 rfl ?_
    refine V_bipush (v := 8) d_Zip_add_73 (by decide) ?_
    refine V_icmp_ne (tgt := 89) d_Zip_add_75 (by decide) (fun c75 => ?_) (fun c75 => ?_)
    · rw [if_neg c75] at h
      refine V_lv [1, 2, 3, 4, 5, 0] rfl ?_
      exact b_Zip_add_89_ok G F v0 v1 v2 v3 v4 (s0 + s1) w _ h
    · rw [if_pos c75] at h
      refine V_aload_n (i := 0) d_Zip_add_78 rfl 1 rfl ?_
      obtain ⟨x79, e79, h⟩ := ob h
      refine V_getR (ci := 8) (k := 4) d_Zip_add_79 e79 rfl (by decide) in_Zip k259 ?_
      refine V_aload_n (i := 0) d_Zip_add_82 rfl 1 rfl ?_
      obtain ⟨x83, e83, h⟩ := ob h
      refine V_getR (ci := 8) (k := 0) d_Zip_add_83 e83 rfl (by decide) in_Zip k255 ?_
      obtain ⟨_, eo86, h⟩ := ob h
      obtain ⟨r86, e86, h⟩ := ob h
      refine V_call (v := none) (st := []) (inv_V (N := m_Packer_packAll) (As := [.ref (z0 G + x83)]) (ci := 3) d_Zip_add_86 eo86 rfl k670 k671 k672 kc_Packer_packAll y_Packer_packAll) ⟨Or.inl kc_Packer_packAll, k3, by decide, by decide⟩ (Nat.le_of_ble_eq_true rfl) (by decide) (by decide) (c_Packer_packAll G F x79 x83 w r86 e86) ?_
      refine V_lv [1, 2, 3, 4, 5, 0] rfl ?_
      exact b_Zip_add_89_ok G F v0 v1 v2 v3 v4 (s0 + s1) r86.2 _ h
  · rw [if_neg c61] at h
    obtain rfl := Option.some.inj h
    exact V_throw (ci := 11) (X := R_ISE) d_Zip_add_64 d_Zip_add_67 d_Zip_add_68 d_Zip_add_71 rfl (by decide +kernel) k608 k609 k15 (at_ISE k617) (by decide) (by decide) (Nat.le_of_ble_eq_true rfl) (by decide) (by decide)
def b_Zip_add_18 (F : Nat) (w : zW) : Option ((Int32 ⊕ Nat) × zW) := some (.inr w.length, w ++ [.inr (.inr (.inr (10, [])))])
set_option maxRecDepth 100000 in
set_option maxHeartbeats 4000000 in
theorem b_Zip_add_18_ok (G : zG) (F : Nat) (w : zW) (r : ((Int32 ⊕ Nat) × zW)) (h : b_Zip_add_18 F w = some r) : zV G m_Zip_add 18 [] [] w 1 6 (oIT (z0 G) r.1) r.2 := by
  unfold b_Zip_add_18 at h
  obtain rfl := Option.some.inj h
  exact V_throw (ci := 10) (X := R_IAE) d_Zip_add_18 d_Zip_add_21 d_Zip_add_22 d_Zip_add_25 rfl (by decide +kernel) k541 k542 k14 (at_IAE k585) (by decide) (by decide) (Nat.le_of_ble_eq_true rfl) (by decide) (by decide)
def b_Zip_add_0 (F : Nat) (v0 : Nat) (v1 : Int32) (v2 : Int32) (v3 : Int32) (w : zW) : Option ((Int32 ⊕ Nat) × zW) := (zobj w v0 8).bind fun _ => (f_Zip_needArchive F v0 w).bind fun r => match r with | (.inl _, w1) => (f_Zip_nameBytes F v1 w1).bind fun r5 => if r5.1 = 0 then (b_Zip_add_18 F r5.2) else ((f_Zip_isMethod F v2 r5.2).bind fun r12 => if r12.1 = 0 then (b_Zip_add_18 F r12.2) else ((getR r12.2 v0 8 6).bind fun x27 => (zobj r12.2 x27 6).bind fun _ => (f_Archive_find F x27 v1 r12.2).bind fun r31 => (getR r31.2 v0 8 6).bind fun x37 => (getI r31.2 x37 6 3).bind fun x40 => if r31.1 = (-1 : Int32) then (b_Zip_add_54 F v0 v1 v2 v3 r31.1 x40 (1 : Int32) r31.2) else (b_Zip_add_54 F v0 v1 v2 v3 r31.1 x40 (0 : Int32) r31.2))) | (.inr qx1, w1) => some (.inr qx1, w1)
set_option maxRecDepth 100000 in
set_option maxHeartbeats 4000000 in
theorem b_Zip_add_0_ok (G : zG) (F : Nat) (v0 : Nat) (v1 : Int32) (v2 : Int32) (v3 : Int32) (w : zW) (r : ((Int32 ⊕ Nat) × zW)) (h : b_Zip_add_0 F v0 v1 v2 v3 w = some r) : zV G m_Zip_add 0 [(0, .ref (z0 G + v0)), (1, .int v1), (2, .int v2), (3, .int v3)] [] w 0 0 (oIT (z0 G) r.1) r.2 := by
  unfold b_Zip_add_0 at h
  refine V_aload_n (i := 0) d_Zip_add_0 rfl 0 rfl ?_
  obtain ⟨_, eo1, h⟩ := ob h
  obtain ⟨⟨x1 | qx1, w1⟩, e1, h⟩ := ob h
  · dsimp only at h
    refine V_call (v := none) (st := []) (inv_V (N := m_Zip_needArchive) (As := []) (ci := 8) d_Zip_add_1 eo1 rfl k738 k740 sel_Zip_needArchive kc_Zip_needArchive y_Zip_needArchive) ⟨Or.inl kc_Zip_needArchive, k1, by decide, by decide⟩ (Nat.le_of_ble_eq_true rfl) (by decide) (by decide) (c_Zip_needArchive G F v0 w _ e1) ?_
    refine V_iload_n (i := 1) d_Zip_add_4 rfl 1 rfl ?_
    obtain ⟨r5, e5, h⟩ := ob h
    refine V_call (v := some (.int r5.1)) (st := []) (inv_S (N := m_Zip_nameBytes) (As := [.int v1]) d_Zip_add_5 k757 k758 k1 (Or.inl kc_Zip_nameBytes) y_Zip_nameBytes) ⟨Or.inl kc_Zip_nameBytes, k1, by decide, by decide⟩ (Nat.le_of_ble_eq_true rfl) (by decide) (by decide) (c_Zip_nameBytes G F v1 w1 r5 e5) ?_
    refine V_if_eq (tgt := 18) d_Zip_add_8 (by decide) (fun c8 => ?_) (fun c8 => ?_)
    · rw [if_pos c8] at h
      refine V_lv [] rfl ?_
      exact b_Zip_add_18_ok G F r5.2 _ h
    · rw [if_neg c8] at h
      refine V_iload_n (i := 2) d_Zip_add_11 rfl 2 rfl ?_
      obtain ⟨r12, e12, h⟩ := ob h
      refine V_call (v := some (.int r12.1)) (st := []) (inv_S (N := m_Zip_isMethod) (As := [.int v2]) d_Zip_add_12 k763 k411 k1 (Or.inl kc_Zip_isMethod) y_Zip_isMethod) ⟨Or.inl kc_Zip_isMethod, k1, by decide, by decide⟩ (Nat.le_of_ble_eq_true rfl) (by decide) (by decide) (c_Zip_isMethod G F v2 r5.2 r12 e12) ?_
      refine V_if_ne (tgt := 26) d_Zip_add_15 (by decide) (fun c15 => ?_) (fun c15 => ?_)
      · rw [if_neg c15] at h
        refine V_aload_n (i := 0) d_Zip_add_26 rfl 0 rfl ?_
        obtain ⟨x27, e27, h⟩ := ob h
        refine V_getR (ci := 8) (k := 6) d_Zip_add_27 e27 rfl (by decide) in_Zip k261 ?_
        refine V_iload_n (i := 1) d_Zip_add_30 rfl 1 rfl ?_
        obtain ⟨_, eo31, h⟩ := ob h
        obtain ⟨r31, e31, h⟩ := ob h
        refine V_call (v := some (.int r31.1)) (st := []) (inv_V (N := m_Archive_find) (As := [.int v1]) (ci := 6) d_Zip_add_31 eo31 rfl k764 k433 k434 kc_Archive_find y_Archive_find) ⟨Or.inl kc_Archive_find, k6, by decide, by decide⟩ (Nat.le_of_ble_eq_true rfl) (by decide) (by decide) (c_Archive_find G F x27 v1 r12.2 r31 e31) ?_
        refine V_istore (i := 4) d_Zip_add_34 (by decide) rfl ?_
        refine V_aload_n (i := 0) d_Zip_add_36 rfl 1 rfl ?_
        obtain ⟨x37, e37, h⟩ := ob h
        refine V_getR (ci := 8) (k := 6) d_Zip_add_37 e37 rfl (by decide) in_Zip k261 ?_
        obtain ⟨x40, e40, h⟩ := ob h
        refine V_getI (ci := 6) (k := 3) d_Zip_add_40 e40 rfl (by decide) in_Archive k217 ?_
        refine V_iload (i := 4) d_Zip_add_43 0 rfl ?_
        refine V_iconst (v := -1) d_Zip_add_45 (by decide) ?_
        refine V_icmp_ne (tgt := 53) d_Zip_add_46 (by decide) (fun c46 => ?_) (fun c46 => ?_)
        · rw [if_neg c46] at h
          refine V_iconst (v := 0) d_Zip_add_53 (by decide) ?_
          refine V_lv [1, 2, 3, 4, 0] rfl ?_
          exact b_Zip_add_54_ok G F v0 v1 v2 v3 r31.1 x40 (0 : Int32) r31.2 _ h
        · rw [if_pos c46] at h
          refine V_iconst (v := 1) d_Zip_add_49 (by decide) ?_
          refine V_goto (tgt := 54) d_Zip_add_50 (by decide) ?_
          refine V_lv [1, 2, 3, 4, 0] rfl ?_
          exact b_Zip_add_54_ok G F v0 v1 v2 v3 r31.1 x40 (1 : Int32) r31.2 _ h
      · rw [if_pos c15] at h
        refine V_lv [] rfl ?_
        exact b_Zip_add_18_ok G F r12.2 _ h
  · obtain rfl := Option.some.inj h
    exact V_callT (st := []) (inv_V (N := m_Zip_needArchive) (As := []) (ci := 8) d_Zip_add_1 eo1 rfl k738 k740 sel_Zip_needArchive kc_Zip_needArchive y_Zip_needArchive) ⟨Or.inl kc_Zip_needArchive, k1, by decide, by decide⟩ (Nat.le_of_ble_eq_true rfl) (by decide) (by decide) (c_Zip_needArchive G F v0 w _ e1) (by decide)
def f_Zip_add (F : Nat) (v0 : Nat) (v1 : Int32) (v2 : Int32) (v3 : Int32) (w : zW) : Option ((Int32 ⊕ Nat) × zW) := b_Zip_add_0 F v0 v1 v2 v3 w
theorem c_Zip_add (G : zG) (F : Nat) (v0 : Nat) (v1 : Int32) (v2 : Int32) (v3 : Int32) (w : zW) (r : ((Int32 ⊕ Nat) × zW)) (h : f_Zip_add F v0 v1 v2 v3 w = some r) : zCT G m_Zip_add [.ref (z0 G + v0), .int v1, .int v2, .int v3] w (oIT (z0 G) r.1) r.2 := zCT.ofV (by decide +kernel) (Or.inl ⟨kc_Zip_add, rfl⟩) (Nat.le_of_ble_eq_true rfl) (b_Zip_add_0_ok G F v0 v1 v2 v3 w r h)

/-! ZipArray.remove(I)I -/
def m_Zip_remove : zM := (⟨R_Zip, "remove", "(I)I"⟩, prog_1_method_13_code, 4, (some .int), [], { frames := 7, cells := 2, slots := 12, locals := 142 })
theorem k21 : Cond.initialized R_NSEE ∈ zTb := tb_at 21 (by decide +kernel) rfl
theorem k812 : Cond.classLink R_Zip 170 R_NSEE ∈ zTb := tb_at 812 (by decide +kernel) rfl
theorem k813 : Cond.instantiable R_NSEE 6 ∈ zTb := tb_at 813 (by decide +kernel) rfl
theorem k821 : Cond.methodLink R_Zip 172 (Bundle.init0 R_NSEE) ∈ zTb := tb_at 821 (by decide +kernel) rfl
theorem kc_Zip_remove : Cond.code (mY m_Zip_remove) (mC m_Zip_remove) (mL m_Zip_remove) (mT m_Zip_remove) ∈ zTb := tb_at 811 (by decide +kernel) rfl
theorem y_Zip_remove : (mY m_Zip_remove).cls ≠ "java/lang/invoke/MethodHandle" ∧ (mY m_Zip_remove).cls ≠ "java/lang/invoke/VarHandle" ∧ (parseMethodDescriptor (mY m_Zip_remove).desc).map (fun d => d.parameters.length) = some 1 := by decide +kernel
theorem d_Zip_remove_0 : decode (mC m_Zip_remove) 0 = .ok (.aload_n 0, 1) := by decide +kernel
theorem d_Zip_remove_1 : decode (mC m_Zip_remove) 1 = .ok (.invokevirtual 133, 3) := by decide +kernel
theorem d_Zip_remove_4 : decode (mC m_Zip_remove) 4 = .ok (.aload_n 0, 1) := by decide +kernel
theorem d_Zip_remove_5 : decode (mC m_Zip_remove) 5 = .ok (.getfield 46, 3) := by decide +kernel
theorem d_Zip_remove_8 : decode (mC m_Zip_remove) 8 = .ok (.iload_n 1, 1) := by decide +kernel
theorem d_Zip_remove_9 : decode (mC m_Zip_remove) 9 = .ok (.invokevirtual 142, 3) := by decide +kernel
theorem d_Zip_remove_12 : decode (mC m_Zip_remove) 12 = .ok (.istore_n 2, 1) := by decide +kernel
theorem d_Zip_remove_13 : decode (mC m_Zip_remove) 13 = .ok (.iload_n 2, 1) := by decide +kernel
theorem d_Zip_remove_14 : decode (mC m_Zip_remove) 14 = .ok (.iconst (-1), 1) := by decide +kernel
theorem d_Zip_remove_15 : decode (mC m_Zip_remove) 15 = .ok (.if_icmp .ne 11, 3) := by decide +kernel
theorem d_Zip_remove_18 : decode (mC m_Zip_remove) 18 = .ok (.new 170, 3) := by decide +kernel
theorem d_Zip_remove_21 : decode (mC m_Zip_remove) 21 = .ok (.dup, 1) := by decide +kernel
theorem d_Zip_remove_22 : decode (mC m_Zip_remove) 22 = .ok (.invokespecial 172, 3) := by decide +kernel
theorem d_Zip_remove_25 : decode (mC m_Zip_remove) 25 = .ok (.athrow, 1) := by decide +kernel
theorem d_Zip_remove_26 : decode (mC m_Zip_remove) 26 = .ok (.aload_n 0, 1) := by decide +kernel
theorem d_Zip_remove_27 : decode (mC m_Zip_remove) 27 = .ok (.getfield 46, 3) := by decide +kernel
theorem d_Zip_remove_30 : decode (mC m_Zip_remove) 30 = .ok (.getfield 145, 3) := by decide +kernel
theorem d_Zip_remove_33 : decode (mC m_Zip_remove) 33 = .ok (.iconst 1, 1) := by decide +kernel
theorem d_Zip_remove_34 : decode (mC m_Zip_remove) 34 = .ok (.isub, 1) := by decide +kernel
theorem d_Zip_remove_35 : decode (mC m_Zip_remove) 35 = .ok (.istore_n 3, 1) := by decide +kernel
theorem d_Zip_remove_36 : decode (mC m_Zip_remove) 36 = .ok (.aload_n 0, 1) := by decide +kernel
theorem d_Zip_remove_37 : decode (mC m_Zip_remove) 37 = .ok (.getfield 53, 3) := by decide +kernel
theorem d_Zip_remove_40 : decode (mC m_Zip_remove) 40 = .ok (.aload_n 0, 1) := by decide +kernel
theorem d_Zip_remove_41 : decode (mC m_Zip_remove) 41 = .ok (.getfield 18, 3) := by decide +kernel
theorem d_Zip_remove_44 : decode (mC m_Zip_remove) 44 = .ok (.aload_n 0, 1) := by decide +kernel
theorem d_Zip_remove_45 : decode (mC m_Zip_remove) 45 = .ok (.getfield 46, 3) := by decide +kernel
theorem d_Zip_remove_48 : decode (mC m_Zip_remove) 48 = .ok (.getfield 152, 3) := by decide +kernel
theorem d_Zip_remove_51 : decode (mC m_Zip_remove) 51 = .ok (.invokevirtual 118, 3) := by decide +kernel
theorem d_Zip_remove_54 : decode (mC m_Zip_remove) 54 = .ok (.aload_n 0, 1) := by decide +kernel
theorem d_Zip_remove_55 : decode (mC m_Zip_remove) 55 = .ok (.iload_n 2, 1) := by decide +kernel
theorem d_Zip_remove_56 : decode (mC m_Zip_remove) 56 = .ok (.invokevirtual 159, 3) := by decide +kernel
theorem d_Zip_remove_59 : decode (mC m_Zip_remove) 59 = .ok (.aload_n 0, 1) := by decide +kernel
theorem d_Zip_remove_60 : decode (mC m_Zip_remove) 60 = .ok (.iload_n 3, 1) := by decide +kernel
theorem d_Zip_remove_61 : decode (mC m_Zip_remove) 61 = .ok (.aload_n 0, 1) := by decide +kernel
theorem d_Zip_remove_62 : decode (mC m_Zip_remove) 62 = .ok (.getfield 46, 3) := by decide +kernel
theorem d_Zip_remove_65 : decode (mC m_Zip_remove) 65 = .ok (.getfield 152, 3) := by decide +kernel
theorem d_Zip_remove_68 : decode (mC m_Zip_remove) 68 = .ok (.invokevirtual 166, 3) := by decide +kernel
theorem d_Zip_remove_71 : decode (mC m_Zip_remove) 71 = .ok (.iload_n 3, 1) := by decide +kernel
theorem d_Zip_remove_72 : decode (mC m_Zip_remove) 72 = .ok (.ireturn, 1) := by decide +kernel
def b_Zip_remove_0 (F : Nat) (v0 : Nat) (v1 : Int32) (w : zW) : Option ((Int32 ⊕ Nat) × zW) := (zobj w v0 8).bind fun _ => (f_Zip_needArchive F v0 w).bind fun r => match r with | (.inl _, w1) => (getR w1 v0 8 6).bind fun x5 => (zobj w1 x5 6).bind fun _ => (f_Archive_find F x5 v1 w1).bind fun r9 => if r9.1 = (-1 : Int32) then (some (.inr r9.2.length, r9.2 ++ [.inr (.inr (.inr (15, [])))])) else ((getR r9.2 v0 8 6).bind fun x27 => (getI r9.2 x27 6 3).bind fun x30 => (getR r9.2 v0 8 7).bind fun x37 => (getR r9.2 v0 8 1).bind fun x41 => (getR r9.2 v0 8 6).bind fun x45 => (getI r9.2 x45 6 4).bind fun x48 => (zobj r9.2 x37 7).bind fun _ => (f_Writer_begin F x37 x41 x48 r9.2).bind fun r51 => (zobj r51.2 v0 8).bind fun _ => (f_Zip_keepParts F v0 r9.1 r51.2).bind fun r56 => (getR r56.2 v0 8 6).bind fun x62 => (getI r56.2 x62 6 4).bind fun x65 => (zobj r56.2 v0 8).bind fun _ => (f_Zip_finishFile F v0 (x30 - (1 : Int32)) x65 r56.2).bind fun r => match r with | (.inl _, w68) => some ((.inl (x30 - (1 : Int32))), w68) | (.inr qx68, w68) => some (.inr qx68, w68)) | (.inr qx1, w1) => some (.inr qx1, w1)
set_option maxRecDepth 100000 in
set_option maxHeartbeats 4000000 in
theorem b_Zip_remove_0_ok (G : zG) (F : Nat) (v0 : Nat) (v1 : Int32) (w : zW) (r : ((Int32 ⊕ Nat) × zW)) (h : b_Zip_remove_0 F v0 v1 w = some r) : zV G m_Zip_remove 0 [(0, .ref (z0 G + v0)), (1, .int v1)] [] w 0 0 (oIT (z0 G) r.1) r.2 := by
  unfold b_Zip_remove_0 at h
  refine V_aload_n (i := 0) d_Zip_remove_0 rfl 0 rfl ?_
  obtain ⟨_, eo1, h⟩ := ob h
  obtain ⟨⟨x1 | qx1, w1⟩, e1, h⟩ := ob h
  · dsimp only at h
    refine V_call (v := none) (st := []) (inv_V (N := m_Zip_needArchive) (As := []) (ci := 8) d_Zip_remove_1 eo1 rfl k738 k740 sel_Zip_needArchive kc_Zip_needArchive y_Zip_needArchive) ⟨Or.inl kc_Zip_needArchive, k1, by decide, by decide⟩ (Nat.le_of_ble_eq_true rfl) (by decide) (by decide) (c_Zip_needArchive G F v0 w _ e1) ?_
    refine V_aload_n (i := 0) d_Zip_remove_4 rfl 0 rfl ?_
    obtain ⟨x5, e5, h⟩ := ob h
    refine V_getR (ci := 8) (k := 6) d_Zip_remove_5 e5 rfl (by decide) in_Zip k261 ?_
    refine V_iload_n (i := 1) d_Zip_remove_8 rfl 1 rfl ?_
    obtain ⟨_, eo9, h⟩ := ob h
    obtain ⟨r9, e9, h⟩ := ob h
    refine V_call (v := some (.int r9.1)) (st := []) (inv_V (N := m_Archive_find) (As := [.int v1]) (ci := 6) d_Zip_remove_9 eo9 rfl k764 k433 k434 kc_Archive_find y_Archive_find) ⟨Or.inl kc_Archive_find, k6, by decide, by decide⟩ (Nat.le_of_ble_eq_true rfl) (by decide) (by decide) (c_Archive_find G F x5 v1 w1 r9 e9) ?_
    refine V_istore_n (i := 2) d_Zip_remove_12 rfl (by decide) rfl ?_
    refine V_iload_n (i := 2) d_Zip_remove_13 rfl 0 rfl ?_
    refine V_iconst (v := -1) d_Zip_remove_14 (by decide) ?_
    refine V_icmp_ne (tgt := 26) d_Zip_remove_15 (by decide) (fun c15 => ?_) (fun c15 => ?_)
    · rw [if_neg c15] at h
      refine V_aload_n (i := 0) d_Zip_remove_26 rfl 1 rfl ?_
      obtain ⟨x27, e27, h⟩ := ob h
      refine V_getR (ci := 8) (k := 6) d_Zip_remove_27 e27 rfl (by decide) in_Zip k261 ?_
      obtain ⟨x30, e30, h⟩ := ob h
      refine V_getI (ci := 6) (k := 3) d_Zip_remove_30 e30 rfl (by decide) in_Archive k217 ?_
      refine V_iconst (v := 1) d_Zip_remove_33 (by decide) ?_
      refine V_isub d_Zip_remove_34 ?_
      refine V_istore_n (i := 3) d_Zip_remove_35 rfl (by decide) rfl ?_
      refine V_aload_n (i := 0) d_Zip_remove_36 rfl 2 rfl ?_
      obtain ⟨x37, e37, h⟩ := ob h
      refine V_getR (ci := 8) (k := 7) d_Zip_remove_37 e37 rfl (by decide) in_Zip k262 ?_
      refine V_aload_n (i := 0) d_Zip_remove_40 rfl 2 rfl ?_
      obtain ⟨x41, e41, h⟩ := ob h
      refine V_getR (ci := 8) (k := 1) d_Zip_remove_41 e41 rfl (by decide) in_Zip k256 ?_
      refine V_aload_n (i := 0) d_Zip_remove_44 rfl 2 rfl ?_
      obtain ⟨x45, e45, h⟩ := ob h
      refine V_getR (ci := 8) (k := 6) d_Zip_remove_45 e45 rfl (by decide) in_Zip k261 ?_
      obtain ⟨x48, e48, h⟩ := ob h
      refine V_getI (ci := 6) (k := 4) d_Zip_remove_48 e48 rfl (by decide) in_Archive k219 ?_
      obtain ⟨_, eo51, h⟩ := ob h
      obtain ⟨r51, e51, h⟩ := ob h
      refine V_call (v := none) (st := []) (inv_V (N := m_Writer_begin) (As := [.ref (z0 G + x41), .int x48]) (ci := 7) d_Zip_remove_51 eo51 rfl k308 k309 k310 kc_Writer_begin y_Writer_begin) ⟨Or.inl kc_Writer_begin, k9, by decide, by decide⟩ (Nat.le_of_ble_eq_true rfl) (by decide) (by decide) (c_Writer_begin G F x37 x41 x48 r9.2 r51 e51) ?_
      refine V_aload_n (i := 0) d_Zip_remove_54 rfl 2 rfl ?_
      refine V_iload_n (i := 2) d_Zip_remove_55 rfl 1 rfl ?_
      obtain ⟨_, eo56, h⟩ := ob h
      obtain ⟨r56, e56, h⟩ := ob h
      refine V_call (v := none) (st := []) (inv_V (N := m_Zip_keepParts) (As := [.int r9.1]) (ci := 8) d_Zip_remove_56 eo56 rfl k790 k792 sel_Zip_keepParts kc_Zip_keepParts y_Zip_keepParts) ⟨Or.inl kc_Zip_keepParts, k1, by decide, by decide⟩ (Nat.le_of_ble_eq_true rfl) (by decide) (by decide) (c_Zip_keepParts G F v0 r9.1 r51.2 r56 e56) ?_
      refine V_aload_n (i := 0) d_Zip_remove_59 rfl 2 rfl ?_
      refine V_iload_n (i := 3) d_Zip_remove_60 rfl 0 rfl ?_
      refine V_aload_n (i := 0) d_Zip_remove_61 rfl 2 rfl ?_
      obtain ⟨x62, e62, h⟩ := ob h
      refine V_getR (ci := 8) (k := 6) d_Zip_remove_62 e62 rfl (by decide) in_Zip k261 ?_
      obtain ⟨x65, e65, h⟩ := ob h
      refine V_getI (ci := 6) (k := 4) d_Zip_remove_65 e65 rfl (by decide) in_Archive k219 ?_
      obtain ⟨_, eo68, h⟩ := ob h
      obtain ⟨⟨x68 | qx68, w68⟩, e68, h⟩ := ob h
      · dsimp only at h
        refine V_call (v := none) (st := []) (inv_V (N := m_Zip_finishFile) (As := [.int (x30 - (1 : Int32)), .int x65]) (ci := 8) d_Zip_remove_68 eo68 rfl k800 k802 sel_Zip_finishFile kc_Zip_finishFile y_Zip_finishFile) ⟨Or.inl kc_Zip_finishFile, k1, by decide, by decide⟩ (Nat.le_of_ble_eq_true rfl) (by decide) (by decide) (c_Zip_finishFile G F v0 (x30 - (1 : Int32)) x65 r56.2 _ e68) ?_
        refine V_iload_n (i := 3) d_Zip_remove_71 rfl 0 rfl ?_
        obtain rfl := Option.some.inj h
        exact V_iret rfl (by decide) (by decide) d_Zip_remove_72
      · obtain rfl := Option.some.inj h
        exact V_callT (st := []) (inv_V (N := m_Zip_finishFile) (As := [.int (x30 - (1 : Int32)), .int x65]) (ci := 8) d_Zip_remove_68 eo68 rfl k800 k802 sel_Zip_finishFile kc_Zip_finishFile y_Zip_finishFile) ⟨Or.inl kc_Zip_finishFile, k1, by decide, by decide⟩ (Nat.le_of_ble_eq_true rfl) (by decide) (by decide) (c_Zip_finishFile G F v0 (x30 - (1 : Int32)) x65 r56.2 _ e68) (by decide)
    · rw [if_pos c15] at h
      obtain rfl := Option.some.inj h
      exact V_throw (ci := 15) (X := R_NSEE) d_Zip_remove_18 d_Zip_remove_21 d_Zip_remove_22 d_Zip_remove_25 rfl (by decide +kernel) k812 k813 k21 (at_NSEE k821) (by decide) (by decide) (Nat.le_of_ble_eq_true rfl) (by decide) (by decide)
  · obtain rfl := Option.some.inj h
    exact V_callT (st := []) (inv_V (N := m_Zip_needArchive) (As := []) (ci := 8) d_Zip_remove_1 eo1 rfl k738 k740 sel_Zip_needArchive kc_Zip_needArchive y_Zip_needArchive) ⟨Or.inl kc_Zip_needArchive, k1, by decide, by decide⟩ (Nat.le_of_ble_eq_true rfl) (by decide) (by decide) (c_Zip_needArchive G F v0 w _ e1) (by decide)
def f_Zip_remove (F : Nat) (v0 : Nat) (v1 : Int32) (w : zW) : Option ((Int32 ⊕ Nat) × zW) := b_Zip_remove_0 F v0 v1 w
theorem c_Zip_remove (G : zG) (F : Nat) (v0 : Nat) (v1 : Int32) (w : zW) (r : ((Int32 ⊕ Nat) × zW)) (h : f_Zip_remove F v0 v1 w = some r) : zCT G m_Zip_remove [.ref (z0 G + v0), .int v1] w (oIT (z0 G) r.1) r.2 := zCT.ofV (by decide +kernel) (Or.inl ⟨kc_Zip_remove, rfl⟩) (Nat.le_of_ble_eq_true rfl) (b_Zip_remove_0_ok G F v0 v1 w r h)

/-! ZipArray$Archive.tellsTheSame(LZipArray$Entry;)Z -/
def m_Archive_tellsTheSame : zM := (⟨R_Archive, "tellsTheSame", "(LZipArray$Entry;)Z"⟩, prog_2_method_13_code, 11, (some .boolean), [], { frames := 2, cells := 0, slots := 0, locals := 47 })
theorem kc_Archive_tellsTheSame : Cond.code (mY m_Archive_tellsTheSame) (mC m_Archive_tellsTheSame) (mL m_Archive_tellsTheSame) (mT m_Archive_tellsTheSame) ∈ zTb := tb_at 448 (by decide +kernel) rfl
theorem y_Archive_tellsTheSame : (mY m_Archive_tellsTheSame).cls ≠ "java/lang/invoke/MethodHandle" ∧ (mY m_Archive_tellsTheSame).cls ≠ "java/lang/invoke/VarHandle" ∧ (parseMethodDescriptor (mY m_Archive_tellsTheSame).desc).map (fun d => d.parameters.length) = some 1 := by decide +kernel
theorem sel_Archive_tellsTheSame : Cond.selects R_Archive (mY m_Archive_tellsTheSame) (mY m_Archive_tellsTheSame) ∈ zTb := sel_at (y := mY m_Archive_tellsTheSame) (n := 7) 10 (by decide +kernel)
theorem d_Archive_tellsTheSame_0 : decode (mC m_Archive_tellsTheSame) 0 = .ok (.aload_n 0, 1) := by decide +kernel
theorem d_Archive_tellsTheSame_1 : decode (mC m_Archive_tellsTheSame) 1 = .ok (.getfield 9, 3) := by decide +kernel
theorem d_Archive_tellsTheSame_4 : decode (mC m_Archive_tellsTheSame) 4 = .ok (.aload_n 1, 1) := by decide +kernel
theorem d_Archive_tellsTheSame_5 : decode (mC m_Archive_tellsTheSame) 5 = .ok (.getfield 145, 3) := by decide +kernel
theorem d_Archive_tellsTheSame_8 : decode (mC m_Archive_tellsTheSame) 8 = .ok (.bipush 14, 2) := by decide +kernel
theorem d_Archive_tellsTheSame_10 : decode (mC m_Archive_tellsTheSame) 10 = .ok (.iadd, 1) := by decide +kernel
theorem d_Archive_tellsTheSame_11 : decode (mC m_Archive_tellsTheSame) 11 = .ok (.iconst 4, 1) := by decide +kernel
theorem d_Archive_tellsTheSame_12 : decode (mC m_Archive_tellsTheSame) 12 = .ok (.invokevirtual 75, 3) := by decide +kernel
theorem d_Archive_tellsTheSame_15 : decode (mC m_Archive_tellsTheSame) 15 = .ok (.l2i, 1) := by decide +kernel
theorem d_Archive_tellsTheSame_16 : decode (mC m_Archive_tellsTheSame) 16 = .ok (.istore_n 2, 1) := by decide +kernel
theorem d_Archive_tellsTheSame_17 : decode (mC m_Archive_tellsTheSame) 17 = .ok (.aload_n 0, 1) := by decide +kernel
theorem d_Archive_tellsTheSame_18 : decode (mC m_Archive_tellsTheSame) 18 = .ok (.getfield 9, 3) := by decide +kernel
theorem d_Archive_tellsTheSame_21 : decode (mC m_Archive_tellsTheSame) 21 = .ok (.aload_n 1, 1) := by decide +kernel
theorem d_Archive_tellsTheSame_22 : decode (mC m_Archive_tellsTheSame) 22 = .ok (.getfield 145, 3) := by decide +kernel
theorem d_Archive_tellsTheSame_25 : decode (mC m_Archive_tellsTheSame) 25 = .ok (.bipush 18, 2) := by decide +kernel
theorem d_Archive_tellsTheSame_27 : decode (mC m_Archive_tellsTheSame) 27 = .ok (.iadd, 1) := by decide +kernel
theorem d_Archive_tellsTheSame_28 : decode (mC m_Archive_tellsTheSame) 28 = .ok (.iconst 4, 1) := by decide +kernel
theorem d_Archive_tellsTheSame_29 : decode (mC m_Archive_tellsTheSame) 29 = .ok (.invokevirtual 75, 3) := by decide +kernel
theorem d_Archive_tellsTheSame_32 : decode (mC m_Archive_tellsTheSame) 32 = .ok (.lstore_n 3, 1) := by decide +kernel
theorem d_Archive_tellsTheSame_33 : decode (mC m_Archive_tellsTheSame) 33 = .ok (.aload_n 0, 1) := by decide +kernel
theorem d_Archive_tellsTheSame_34 : decode (mC m_Archive_tellsTheSame) 34 = .ok (.getfield 9, 3) := by decide +kernel
theorem d_Archive_tellsTheSame_37 : decode (mC m_Archive_tellsTheSame) 37 = .ok (.aload_n 1, 1) := by decide +kernel
theorem d_Archive_tellsTheSame_38 : decode (mC m_Archive_tellsTheSame) 38 = .ok (.getfield 145, 3) := by decide +kernel
theorem d_Archive_tellsTheSame_41 : decode (mC m_Archive_tellsTheSame) 41 = .ok (.bipush 22, 2) := by decide +kernel
theorem d_Archive_tellsTheSame_43 : decode (mC m_Archive_tellsTheSame) 43 = .ok (.iadd, 1) := by decide +kernel
theorem d_Archive_tellsTheSame_44 : decode (mC m_Archive_tellsTheSame) 44 = .ok (.iconst 4, 1) := by decide +kernel
theorem d_Archive_tellsTheSame_45 : decode (mC m_Archive_tellsTheSame) 45 = .ok (.invokevirtual 75, 3) := by decide +kernel
theorem d_Archive_tellsTheSame_48 : decode (mC m_Archive_tellsTheSame) 48 = .ok (.lstore 5, 2) := by decide +kernel
theorem d_Archive_tellsTheSame_50 : decode (mC m_Archive_tellsTheSame) 50 = .ok (.aload_n 1, 1) := by decide +kernel
theorem d_Archive_tellsTheSame_51 : decode (mC m_Archive_tellsTheSame) 51 = .ok (.getfield 108, 3) := by decide +kernel
theorem d_Archive_tellsTheSame_54 : decode (mC m_Archive_tellsTheSame) 54 = .ok (.bipush 8, 2) := by decide +kernel
theorem d_Archive_tellsTheSame_56 : decode (mC m_Archive_tellsTheSame) 56 = .ok (.if_icmp .ne 26, 3) := by decide +kernel
theorem d_Archive_tellsTheSame_59 : decode (mC m_Archive_tellsTheSame) 59 = .ok (.iload_n 2, 1) := by decide +kernel
theorem d_Archive_tellsTheSame_60 : decode (mC m_Archive_tellsTheSame) 60 = .ok (.ifCond .ne 20, 3) := by decide +kernel
theorem d_Archive_tellsTheSame_63 : decode (mC m_Archive_tellsTheSame) 63 = .ok (.lload_n 3, 1) := by decide +kernel
theorem d_Archive_tellsTheSame_64 : decode (mC m_Archive_tellsTheSame) 64 = .ok (.lconst 0, 1) := by decide +kernel
theorem d_Archive_tellsTheSame_65 : decode (mC m_Archive_tellsTheSame) 65 = .ok (.lcmp, 1) := by decide +kernel
theorem d_Archive_tellsTheSame_66 : decode (mC m_Archive_tellsTheSame) 66 = .ok (.ifCond .ne 14, 3) := by decide +kernel
theorem d_Archive_tellsTheSame_69 : decode (mC m_Archive_tellsTheSame) 69 = .ok (.lload 5, 2) := by decide +kernel
theorem d_Archive_tellsTheSame_71 : decode (mC m_Archive_tellsTheSame) 71 = .ok (.lconst 0, 1) := by decide +kernel
theorem d_Archive_tellsTheSame_72 : decode (mC m_Archive_tellsTheSame) 72 = .ok (.lcmp, 1) := by decide +kernel
theorem d_Archive_tellsTheSame_73 : decode (mC m_Archive_tellsTheSame) 73 = .ok (.ifCond .ne 7, 3) := by decide +kernel
theorem d_Archive_tellsTheSame_76 : decode (mC m_Archive_tellsTheSame) 76 = .ok (.iconst 1, 1) := by decide +kernel
theorem d_Archive_tellsTheSame_77 : decode (mC m_Archive_tellsTheSame) 77 = .ok (.goto 4, 3) := by decide +kernel
theorem d_Archive_tellsTheSame_80 : decode (mC m_Archive_tellsTheSame) 80 = .ok (.iconst 0, 1) := by decide +kernel
theorem d_Archive_tellsTheSame_81 : decode (mC m_Archive_tellsTheSame) 81 = .ok (.ireturn, 1) := by decide +kernel
theorem d_Archive_tellsTheSame_82 : decode (mC m_Archive_tellsTheSame) 82 = .ok (.lload 5, 2) := by decide +kernel
theorem d_Archive_tellsTheSame_84 : decode (mC m_Archive_tellsTheSame) 84 = .ok (.ldc2_w 81, 3) := by decide +kernel
theorem d_Archive_tellsTheSame_87 : decode (mC m_Archive_tellsTheSame) 87 = .ok (.lcmp, 1) := by decide +kernel
theorem d_Archive_tellsTheSame_88 : decode (mC m_Archive_tellsTheSame) 88 = .ok (.ifCond .ne 7, 3) := by decide +kernel
theorem d_Archive_tellsTheSame_91 : decode (mC m_Archive_tellsTheSame) 91 = .ok (.iconst 1, 1) := by decide +kernel
theorem d_Archive_tellsTheSame_92 : decode (mC m_Archive_tellsTheSame) 92 = .ok (.goto 4, 3) := by decide +kernel
theorem d_Archive_tellsTheSame_95 : decode (mC m_Archive_tellsTheSame) 95 = .ok (.iconst 0, 1) := by decide +kernel
theorem d_Archive_tellsTheSame_96 : decode (mC m_Archive_tellsTheSame) 96 = .ok (.lload_n 3, 1) := by decide +kernel
theorem d_Archive_tellsTheSame_97 : decode (mC m_Archive_tellsTheSame) 97 = .ok (.ldc2_w 81, 3) := by decide +kernel
theorem d_Archive_tellsTheSame_100 : decode (mC m_Archive_tellsTheSame) 100 = .ok (.lcmp, 1) := by decide +kernel
theorem d_Archive_tellsTheSame_101 : decode (mC m_Archive_tellsTheSame) 101 = .ok (.ifCond .ne 7, 3) := by decide +kernel
theorem d_Archive_tellsTheSame_104 : decode (mC m_Archive_tellsTheSame) 104 = .ok (.iconst 1, 1) := by decide +kernel
theorem d_Archive_tellsTheSame_105 : decode (mC m_Archive_tellsTheSame) 105 = .ok (.goto 4, 3) := by decide +kernel
theorem d_Archive_tellsTheSame_108 : decode (mC m_Archive_tellsTheSame) 108 = .ok (.iconst 0, 1) := by decide +kernel
theorem d_Archive_tellsTheSame_109 : decode (mC m_Archive_tellsTheSame) 109 = .ok (.if_icmp .eq 5, 3) := by decide +kernel
theorem d_Archive_tellsTheSame_112 : decode (mC m_Archive_tellsTheSame) 112 = .ok (.iconst 0, 1) := by decide +kernel
theorem d_Archive_tellsTheSame_113 : decode (mC m_Archive_tellsTheSame) 113 = .ok (.ireturn, 1) := by decide +kernel
theorem d_Archive_tellsTheSame_114 : decode (mC m_Archive_tellsTheSame) 114 = .ok (.aload_n 0, 1) := by decide +kernel
theorem d_Archive_tellsTheSame_115 : decode (mC m_Archive_tellsTheSame) 115 = .ok (.getfield 20, 3) := by decide +kernel
theorem d_Archive_tellsTheSame_118 : decode (mC m_Archive_tellsTheSame) 118 = .ok (.lload 5, 2) := by decide +kernel
theorem d_Archive_tellsTheSame_120 : decode (mC m_Archive_tellsTheSame) 120 = .ok (.invokevirtual 132, 3) := by decide +kernel
theorem d_Archive_tellsTheSame_123 : decode (mC m_Archive_tellsTheSame) 123 = .ok (.lstore 7, 2) := by decide +kernel
theorem d_Archive_tellsTheSame_125 : decode (mC m_Archive_tellsTheSame) 125 = .ok (.aload_n 0, 1) := by decide +kernel
theorem d_Archive_tellsTheSame_126 : decode (mC m_Archive_tellsTheSame) 126 = .ok (.getfield 20, 3) := by decide +kernel
theorem d_Archive_tellsTheSame_129 : decode (mC m_Archive_tellsTheSame) 129 = .ok (.lload_n 3, 1) := by decide +kernel
theorem d_Archive_tellsTheSame_130 : decode (mC m_Archive_tellsTheSame) 130 = .ok (.invokevirtual 132, 3) := by decide +kernel
theorem d_Archive_tellsTheSame_133 : decode (mC m_Archive_tellsTheSame) 133 = .ok (.lstore 9, 2) := by decide +kernel
theorem d_Archive_tellsTheSame_135 : decode (mC m_Archive_tellsTheSame) 135 = .ok (.aload_n 0, 1) := by decide +kernel
theorem d_Archive_tellsTheSame_136 : decode (mC m_Archive_tellsTheSame) 136 = .ok (.getfield 20, 3) := by decide +kernel
theorem d_Archive_tellsTheSame_139 : decode (mC m_Archive_tellsTheSame) 139 = .ok (.getfield 136, 3) := by decide +kernel
theorem d_Archive_tellsTheSame_142 : decode (mC m_Archive_tellsTheSame) 142 = .ok (.ifCond .ne 37, 3) := by decide +kernel
theorem d_Archive_tellsTheSame_145 : decode (mC m_Archive_tellsTheSame) 145 = .ok (.iload_n 2, 1) := by decide +kernel
theorem d_Archive_tellsTheSame_146 : decode (mC m_Archive_tellsTheSame) 146 = .ok (.aload_n 1, 1) := by decide +kernel
theorem d_Archive_tellsTheSame_147 : decode (mC m_Archive_tellsTheSame) 147 = .ok (.getfield 114, 3) := by decide +kernel
theorem d_Archive_tellsTheSame_150 : decode (mC m_Archive_tellsTheSame) 150 = .ok (.if_icmp .ne 29, 3) := by decide +kernel
theorem d_Archive_tellsTheSame_153 : decode (mC m_Archive_tellsTheSame) 153 = .ok (.lload 7, 2) := by decide +kernel
theorem d_Archive_tellsTheSame_155 : decode (mC m_Archive_tellsTheSame) 155 = .ok (.aload_n 1, 1) := by decide +kernel
theorem d_Archive_tellsTheSame_156 : decode (mC m_Archive_tellsTheSame) 156 = .ok (.getfield 141, 3) := by decide +kernel
theorem d_Archive_tellsTheSame_159 : decode (mC m_Archive_tellsTheSame) 159 = .ok (.i2l, 1) := by decide +kernel
theorem d_Archive_tellsTheSame_160 : decode (mC m_Archive_tellsTheSame) 160 = .ok (.lcmp, 1) := by decide +kernel
theorem d_Archive_tellsTheSame_161 : decode (mC m_Archive_tellsTheSame) 161 = .ok (.ifCond .ne 18, 3) := by decide +kernel
theorem d_Archive_tellsTheSame_164 : decode (mC m_Archive_tellsTheSame) 164 = .ok (.lload 9, 2) := by decide +kernel
theorem d_Archive_tellsTheSame_166 : decode (mC m_Archive_tellsTheSame) 166 = .ok (.aload_n 1, 1) := by decide +kernel
theorem d_Archive_tellsTheSame_167 : decode (mC m_Archive_tellsTheSame) 167 = .ok (.getfield 142, 3) := by decide +kernel
theorem d_Archive_tellsTheSame_170 : decode (mC m_Archive_tellsTheSame) 170 = .ok (.i2l, 1) := by decide +kernel
theorem d_Archive_tellsTheSame_171 : decode (mC m_Archive_tellsTheSame) 171 = .ok (.lcmp, 1) := by decide +kernel
theorem d_Archive_tellsTheSame_172 : decode (mC m_Archive_tellsTheSame) 172 = .ok (.ifCond .ne 7, 3) := by decide +kernel
theorem d_Archive_tellsTheSame_175 : decode (mC m_Archive_tellsTheSame) 175 = .ok (.iconst 1, 1) := by decide +kernel
theorem d_Archive_tellsTheSame_176 : decode (mC m_Archive_tellsTheSame) 176 = .ok (.goto 4, 3) := by decide +kernel
theorem d_Archive_tellsTheSame_179 : decode (mC m_Archive_tellsTheSame) 179 = .ok (.iconst 0, 1) := by decide +kernel
theorem d_Archive_tellsTheSame_180 : decode (mC m_Archive_tellsTheSame) 180 = .ok (.ireturn, 1) := by decide +kernel
def b_Archive_tellsTheSame_179 (F : Nat) (w : zW) : Option (Int32 × zW) := some ((0 : Int32), w)
set_option maxRecDepth 100000 in
set_option maxHeartbeats 4000000 in
theorem b_Archive_tellsTheSame_179_ok (G : zG) (F : Nat) (w : zW) (r : (Int32 × zW)) (h : b_Archive_tellsTheSame_179 F w = some r) : zV G m_Archive_tellsTheSame 179 [] [] w 0 0 (oI r.1) r.2 := by
  unfold b_Archive_tellsTheSame_179 at h
  refine V_iconst (v := 0) d_Archive_tellsTheSame_179 (by decide) ?_
  obtain rfl := Option.some.inj h
  exact V_zret rfl (Or.inl rfl) (by decide) (by decide) d_Archive_tellsTheSame_180
def b_Archive_tellsTheSame_109 (F : Nat) (v0 : Nat) (v1 : Nat) (v2 : Int32) (v3 : Int64) (v5 : Int64) (s0 : Int32) (s1 : Int32) (w : zW) : Option (Int32 × zW) := if s0 = s1 then ((getR w v0 6 1).bind fun x115 => (zobj w x115 2).bind fun _ => (f_Extras_told F x115 v5 w).bind fun r120 => (getR r120.2 v0 6 1).bind fun x126 => (zobj r120.2 x126 2).bind fun _ => (f_Extras_told F x126 v3 r120.2).bind fun r130 => (getR r130.2 v0 6 1).bind fun x136 => (getI r130.2 x136 2 2).bind fun x139 => if x139 = 0 then ((getI r130.2 v1 1 3).bind fun x147 => if v2 = x147 then ((getI r130.2 v1 1 5).bind fun x156 => if (lg_cmp r120.1 x156.toInt64) = 0 then ((getI r130.2 v1 1 4).bind fun x167 => if (lg_cmp r130.1 x167.toInt64) = 0 then (some ((1 : Int32), r130.2)) else (b_Archive_tellsTheSame_179 F r130.2)) else (b_Archive_tellsTheSame_179 F r130.2)) else (b_Archive_tellsTheSame_179 F r130.2)) else (b_Archive_tellsTheSame_179 F r130.2)) else (some ((0 : Int32), w))
set_option maxRecDepth 100000 in
set_option maxHeartbeats 4000000 in
theorem b_Archive_tellsTheSame_109_ok (G : zG) (F : Nat) (v0 : Nat) (v1 : Nat) (v2 : Int32) (v3 : Int64) (v5 : Int64) (s0 : Int32) (s1 : Int32) (w : zW) (r : (Int32 × zW)) (h : b_Archive_tellsTheSame_109 F v0 v1 v2 v3 v5 s0 s1 w = some r) : zV G m_Archive_tellsTheSame 109 [(0, .ref (z0 G + v0)), (1, .ref (z0 G + v1)), (2, .int v2), (3, .long v3), (5, .long v5)] [.int s1, .int s0] w 0 0 (oI r.1) r.2 := by
  unfold b_Archive_tellsTheSame_109 at h
  refine V_icmp_eq (tgt := 114) d_Archive_tellsTheSame_109 (by decide) (fun c109 => ?_) (fun c109 => ?_)
  · rw [if_pos c109] at h
    refine V_aload_n (i := 0) d_Archive_tellsTheSame_114 rfl 0 rfl ?_
    obtain ⟨x115, e115, h⟩ := ob h
    refine V_getR (ci := 6) (k := 1) d_Archive_tellsTheSame_115 e115 rfl (by decide) in_Archive k213 ?_
    refine V_lload (i := 5) d_Archive_tellsTheSame_118 4 rfl ?_
    obtain ⟨_, eo120, h⟩ := ob h
    obtain ⟨r120, e120, h⟩ := ob h
    refine V_call (v := some (.long r120.1)) (st := []) (inv_V (N := m_Extras_told) (As := [.long v5]) (ci := 2) d_Archive_tellsTheSame_120 eo120 rfl k422 k423 k424 kc_Extras_told y_Extras_told) ⟨Or.inl kc_Extras_told, k7, by decide, by decide⟩ (Nat.le_of_ble_eq_true rfl) (by decide) (by decide) (c_Extras_told G F x115 v5 w r120 e120) ?_
    refine V_lstore (i := 7) d_Archive_tellsTheSame_123 (by decide) rfl ?_
    refine V_aload_n (i := 0) d_Archive_tellsTheSame_125 rfl 1 rfl ?_
    obtain ⟨x126, e126, h⟩ := ob h
    refine V_getR (ci := 6) (k := 1) d_Archive_tellsTheSame_126 e126 rfl (by decide) in_Archive k213 ?_
    refine V_lload_n (i := 3) d_Archive_tellsTheSame_129 rfl 4 rfl ?_
    obtain ⟨_, eo130, h⟩ := ob h
    obtain ⟨r130, e130, h⟩ := ob h
    refine V_call (v := some (.long r130.1)) (st := []) (inv_V (N := m_Extras_told) (As := [.long v3]) (ci := 2) d_Archive_tellsTheSame_130 eo130 rfl k422 k423 k424 kc_Extras_told y_Extras_told) ⟨Or.inl kc_Extras_told, k7, by decide, by decide⟩ (Nat.le_of_ble_eq_true rfl) (by decide) (by decide) (c_Extras_told G F x126 v3 r120.2 r130 e130) ?_
    refine V_lstore (i := 9) d_Archive_tellsTheSame_133 (by decide) rfl ?_
    refine V_aload_n (i := 0) d_Archive_tellsTheSame_135 rfl 2 rfl ?_
    obtain ⟨x136, e136, h⟩ := ob h
    refine V_getR (ci := 6) (k := 1) d_Archive_tellsTheSame_136 e136 rfl (by decide) in_Archive k213 ?_
    obtain ⟨x139, e139, h⟩ := ob h
    refine V_getI (ci := 2) (k := 2) d_Archive_tellsTheSame_139 e139 rfl (by decide) in_Extras k147 ?_
    refine V_if_ne (tgt := 179) d_Archive_tellsTheSame_142 (by decide) (fun c142 => ?_) (fun c142 => ?_)
    · rw [if_neg c142] at h
      refine V_lv [] rfl ?_
      exact b_Archive_tellsTheSame_179_ok G F r130.2 _ h
    · rw [if_pos c142] at h
      refine V_iload_n (i := 2) d_Archive_tellsTheSame_145 rfl 4 rfl ?_
      refine V_aload_n (i := 1) d_Archive_tellsTheSame_146 rfl 3 rfl ?_
      obtain ⟨x147, e147, h⟩ := ob h
      refine V_getI (ci := 1) (k := 3) d_Archive_tellsTheSame_147 e147 rfl (by decide) in_Entry k178 ?_
      refine V_icmp_ne (tgt := 179) d_Archive_tellsTheSame_150 (by decide) (fun c150 => ?_) (fun c150 => ?_)
      · rw [if_neg c150] at h
        refine V_lv [] rfl ?_
        exact b_Archive_tellsTheSame_179_ok G F r130.2 _ h
      · rw [if_pos c150] at h
        refine V_lload (i := 7) d_Archive_tellsTheSame_153 1 rfl ?_
        refine V_aload_n (i := 1) d_Archive_tellsTheSame_155 rfl 3 rfl ?_
        obtain ⟨x156, e156, h⟩ := ob h
        refine V_getI (ci := 1) (k := 5) d_Archive_tellsTheSame_156 e156 rfl (by decide) in_Entry k184 ?_
        refine V_i2l d_Archive_tellsTheSame_159 ?_
        refine V_lcmp d_Archive_tellsTheSame_160 ?_
        refine V_if_ne (tgt := 179) d_Archive_tellsTheSame_161 (by decide) (fun c161 => ?_) (fun c161 => ?_)
        · rw [if_neg c161] at h
          refine V_lv [] rfl ?_
          exact b_Archive_tellsTheSame_179_ok G F r130.2 _ h
        · rw [if_pos c161] at h
          refine V_lload (i := 9) d_Archive_tellsTheSame_164 0 rfl ?_
          refine V_aload_n (i := 1) d_Archive_tellsTheSame_166 rfl 3 rfl ?_
          obtain ⟨x167, e167, h⟩ := ob h
          refine V_getI (ci := 1) (k := 4) d_Archive_tellsTheSame_167 e167 rfl (by decide) in_Entry k181 ?_
          refine V_i2l d_Archive_tellsTheSame_170 ?_
          refine V_lcmp d_Archive_tellsTheSame_171 ?_
          refine V_if_ne (tgt := 179) d_Archive_tellsTheSame_172 (by decide) (fun c172 => ?_) (fun c172 => ?_)
          · rw [if_neg c172] at h
            refine V_lv [] rfl ?_
            exact b_Archive_tellsTheSame_179_ok G F r130.2 _ h
          · rw [if_pos c172] at h
            refine V_iconst (v := 1) d_Archive_tellsTheSame_175 (by decide) ?_
            refine V_goto (tgt := 180) d_Archive_tellsTheSame_176 (by decide) ?_
            obtain rfl := Option.some.inj h
            exact V_zret rfl (Or.inr rfl) (by decide) (by decide) d_Archive_tellsTheSame_180
  · rw [if_neg c109] at h
    refine V_iconst (v := 0) d_Archive_tellsTheSame_112 (by decide) ?_
    obtain rfl := Option.some.inj h
    exact V_zret rfl (Or.inl rfl) (by decide) (by decide) d_Archive_tellsTheSame_113
def b_Archive_tellsTheSame_96 (F : Nat) (v0 : Nat) (v1 : Nat) (v2 : Int32) (v3 : Int64) (v5 : Int64) (s0 : Int32) (w : zW) : Option (Int32 × zW) := if (lg_cmp v3 (4294967295 : Int64)) = 0 then (b_Archive_tellsTheSame_109 F v0 v1 v2 v3 v5 s0 (1 : Int32) w) else (b_Archive_tellsTheSame_109 F v0 v1 v2 v3 v5 s0 (0 : Int32) w)
set_option maxRecDepth 100000 in
set_option maxHeartbeats 4000000 in
theorem b_Archive_tellsTheSame_96_ok (G : zG) (F : Nat) (v0 : Nat) (v1 : Nat) (v2 : Int32) (v3 : Int64) (v5 : Int64) (s0 : Int32) (w : zW) (r : (Int32 × zW)) (h : b_Archive_tellsTheSame_96 F v0 v1 v2 v3 v5 s0 w = some r) : zV G m_Archive_tellsTheSame 96 [(0, .ref (z0 G + v0)), (1, .ref (z0 G + v1)), (2, .int v2), (3, .long v3), (5, .long v5)] [.int s0] w 0 0 (oI r.1) r.2 := by
  unfold b_Archive_tellsTheSame_96 at h
  refine V_lload_n (i := 3) d_Archive_tellsTheSame_96 rfl 3 rfl ?_
  refine V_ldc2 (v := 4294967295) d_Archive_tellsTheSame_97 k377 ?_
  refine V_lcmp d_Archive_tellsTheSame_100 ?_
  refine V_if_ne (tgt := 108) d_Archive_tellsTheSame_101 (by decide) (fun c101 => ?_) (fun c101 => ?_)
  · rw [if_neg c101] at h
    refine V_iconst (v := 0) d_Archive_tellsTheSame_108 (by decide) ?_
    exact b_Archive_tellsTheSame_109_ok G F v0 v1 v2 v3 v5 s0 (0 : Int32) w _ h
  · rw [if_pos c101] at h
    refine V_iconst (v := 1) d_Archive_tellsTheSame_104 (by decide) ?_
    refine V_goto (tgt := 109) d_Archive_tellsTheSame_105 (by decide) ?_
    exact b_Archive_tellsTheSame_109_ok G F v0 v1 v2 v3 v5 s0 (1 : Int32) w _ h
def b_Archive_tellsTheSame_80 (F : Nat) (w : zW) : Option (Int32 × zW) := some ((0 : Int32), w)
set_option maxRecDepth 100000 in
set_option maxHeartbeats 4000000 in
theorem b_Archive_tellsTheSame_80_ok (G : zG) (F : Nat) (w : zW) (r : (Int32 × zW)) (h : b_Archive_tellsTheSame_80 F w = some r) : zV G m_Archive_tellsTheSame 80 [] [] w 0 0 (oI r.1) r.2 := by
  unfold b_Archive_tellsTheSame_80 at h
  refine V_iconst (v := 0) d_Archive_tellsTheSame_80 (by decide) ?_
  obtain rfl := Option.some.inj h
  exact V_zret rfl (Or.inl rfl) (by decide) (by decide) d_Archive_tellsTheSame_81
def b_Archive_tellsTheSame_0 (F : Nat) (v0 : Nat) (v1 : Nat) (w : zW) : Option (Int32 × zW) := (getR w v0 6 0).bind fun x1 => (getI w v1 1 6).bind fun x5 => (zobj w x1 0).bind fun _ => (f_Row_number F x1 (x5 + (14 : Int32)) (4 : Int32) w).bind fun r12 => (getR r12.2 v0 6 0).bind fun x18 => (getI r12.2 v1 1 6).bind fun x22 => (zobj r12.2 x18 0).bind fun _ => (f_Row_number F x18 (x22 + (18 : Int32)) (4 : Int32) r12.2).bind fun r29 => (getR r29.2 v0 6 0).bind fun x34 => (getI r29.2 v1 1 6).bind fun x38 => (zobj r29.2 x34 0).bind fun _ => (f_Row_number F x34 (x38 + (22 : Int32)) (4 : Int32) r29.2).bind fun r45 => (getI r45.2 v1 1 1).bind fun x51 => if x51 = (8 : Int32) then (if r12.1.toInt32 = 0 then (if (lg_cmp r29.1 (0 : Int64)) = 0 then (if (lg_cmp r45.1 (0 : Int64)) = 0 then (some ((1 : Int32), r45.2)) else (b_Archive_tellsTheSame_80 F r45.2)) else (b_Archive_tellsTheSame_80 F r45.2)) else (b_Archive_tellsTheSame_80 F r45.2)) else (if (lg_cmp r45.1 (4294967295 : Int64)) = 0 then (b_Archive_tellsTheSame_96 F v0 v1 r12.1.toInt32 r29.1 r45.1 (1 : Int32) r45.2) else (b_Archive_tellsTheSame_96 F v0 v1 r12.1.toInt32 r29.1 r45.1 (0 : Int32) r45.2))
set_option maxRecDepth 100000 in
set_option maxHeartbeats 4000000 in
theorem b_Archive_tellsTheSame_0_ok (G : zG) (F : Nat) (v0 : Nat) (v1 : Nat) (w : zW) (r : (Int32 × zW)) (h : b_Archive_tellsTheSame_0 F v0 v1 w = some r) : zV G m_Archive_tellsTheSame 0 [(0, .ref (z0 G + v0)), (1, .ref (z0 G + v1))] [] w 0 0 (oI r.1) r.2 := by
  unfold b_Archive_tellsTheSame_0 at h
  refine V_aload_n (i := 0) d_Archive_tellsTheSame_0 rfl 0 rfl ?_
  obtain ⟨x1, e1, h⟩ := ob h
  refine V_getR (ci := 6) (k := 0) d_Archive_tellsTheSame_1 e1 rfl (by decide) in_Archive k212 ?_
  refine V_aload_n (i := 1) d_Archive_tellsTheSame_4 rfl 1 rfl ?_
  obtain ⟨x5, e5, h⟩ := ob h
  refine V_getI (ci := 1) (k := 6) d_Archive_tellsTheSame_5 e5 rfl (by decide) in_Entry k187 ?_
  refine V_bipush (v := 14) d_Archive_tellsTheSame_8 (by decide) ?_
  refine V_iadd d_Archive_tellsTheSame_10 ?_
  refine V_iconst (v := 4) d_Archive_tellsTheSame_11 (by decide) ?_
  obtain ⟨_, eo12, h⟩ := ob h
  obtain ⟨r12, e12, h⟩ := ob h
  refine V_call (v := some (.long r12.1)) (st := []) (inv_V (N := m_Row_number) (As := [.int (x5 + (14 : Int32)), .int (4 : Int32)]) (ci := 0) d_Archive_tellsTheSame_12 eo12 rfl k368 k369 k370 kc_Row_number y_Row_number) ⟨Or.inl kc_Row_number, k2, by decide, by decide⟩ (Nat.le_of_ble_eq_true rfl) (by decide) (by decide) (c_Row_number G F x1 (x5 + (14 : Int32)) (4 : Int32) w r12 e12) ?_
  refine V_l2i d_Archive_tellsTheSame_15 ?_
  refine V_istore_n (i := 2) d_Archive_tellsTheSame_16 rfl (by decide) rfl ?_
  refine V_aload_n (i := 0) d_Archive_tellsTheSame_17 rfl 1 rfl ?_
  obtain ⟨x18, e18, h⟩ := ob h
  refine V_getR (ci := 6) (k := 0) d_Archive_tellsTheSame_18 e18 rfl (by decide) in_Archive k212 ?_
  refine V_aload_n (i := 1) d_Archive_tellsTheSame_21 rfl 2 rfl ?_
  obtain ⟨x22, e22, h⟩ := ob h
  refine V_getI (ci := 1) (k := 6) d_Archive_tellsTheSame_22 e22 rfl (by decide) in_Entry k187 ?_
  refine V_bipush (v := 18) d_Archive_tellsTheSame_25 (by decide) ?_
  refine V_iadd d_Archive_tellsTheSame_27 ?_
  refine V_iconst (v := 4) d_Archive_tellsTheSame_28 (by decide) ?_
  obtain ⟨_, eo29, h⟩ := ob h
  obtain ⟨r29, e29, h⟩ := ob h
  refine V_call (v := some (.long r29.1)) (st := []) (inv_V (N := m_Row_number) (As := [.int (x22 + (18 : Int32)), .int (4 : Int32)]) (ci := 0) d_Archive_tellsTheSame_29 eo29 rfl k368 k369 k370 kc_Row_number y_Row_number) ⟨Or.inl kc_Row_number, k2, by decide, by decide⟩ (Nat.le_of_ble_eq_true rfl) (by decide) (by decide) (c_Row_number G F x18 (x22 + (18 : Int32)) (4 : Int32) r12.2 r29 e29) ?_
  refine V_lstore_n (i := 3) d_Archive_tellsTheSame_32 rfl (by decide) rfl ?_
  refine V_aload_n (i := 0) d_Archive_tellsTheSame_33 rfl 2 rfl ?_
  obtain ⟨x34, e34, h⟩ := ob h
  refine V_getR (ci := 6) (k := 0) d_Archive_tellsTheSame_34 e34 rfl (by decide) in_Archive k212 ?_
  refine V_aload_n (i := 1) d_Archive_tellsTheSame_37 rfl 3 rfl ?_
  obtain ⟨x38, e38, h⟩ := ob h
  refine V_getI (ci := 1) (k := 6) d_Archive_tellsTheSame_38 e38 rfl (by decide) in_Entry k187 ?_
  refine V_bipush (v := 22) d_Archive_tellsTheSame_41 (by decide) ?_
  refine V_iadd d_Archive_tellsTheSame_43 ?_
  refine V_iconst (v := 4) d_Archive_tellsTheSame_44 (by decide) ?_
  obtain ⟨_, eo45, h⟩ := ob h
  obtain ⟨r45, e45, h⟩ := ob h
  refine V_call (v := some (.long r45.1)) (st := []) (inv_V (N := m_Row_number) (As := [.int (x38 + (22 : Int32)), .int (4 : Int32)]) (ci := 0) d_Archive_tellsTheSame_45 eo45 rfl k368 k369 k370 kc_Row_number y_Row_number) ⟨Or.inl kc_Row_number, k2, by decide, by decide⟩ (Nat.le_of_ble_eq_true rfl) (by decide) (by decide) (c_Row_number G F x34 (x38 + (22 : Int32)) (4 : Int32) r29.2 r45 e45) ?_
  refine V_lstore (i := 5) d_Archive_tellsTheSame_48 (by decide) rfl ?_
  refine V_aload_n (i := 1) d_Archive_tellsTheSame_50 rfl 4 rfl ?_
  obtain ⟨x51, e51, h⟩ := ob h
  refine V_getI (ci := 1) (k := 1) d_Archive_tellsTheSame_51 e51 rfl (by decide) in_Entry k172 ?_
  refine V_bipush (v := 8) d_Archive_tellsTheSame_54 (by decide) ?_
  refine V_icmp_ne (tgt := 82) d_Archive_tellsTheSame_56 (by decide) (fun c56 => ?_) (fun c56 => ?_)
  · rw [if_neg c56] at h
    refine V_lload (i := 5) d_Archive_tellsTheSame_82 0 rfl ?_
    refine V_ldc2 (v := 4294967295) d_Archive_tellsTheSame_84 k377 ?_
    refine V_lcmp d_Archive_tellsTheSame_87 ?_
    refine V_if_ne (tgt := 95) d_Archive_tellsTheSame_88 (by decide) (fun c88 => ?_) (fun c88 => ?_)
    · rw [if_neg c88] at h
      refine V_iconst (v := 0) d_Archive_tellsTheSame_95 (by decide) ?_
      refine V_lv [3, 4, 2, 1, 0] rfl ?_
      exact b_Archive_tellsTheSame_96_ok G F v0 v1 r12.1.toInt32 r29.1 r45.1 (0 : Int32) r45.2 _ h
    · rw [if_pos c88] at h
      refine V_iconst (v := 1) d_Archive_tellsTheSame_91 (by decide) ?_
      refine V_goto (tgt := 96) d_Archive_tellsTheSame_92 (by decide) ?_
      refine V_lv [3, 4, 2, 1, 0] rfl ?_
      exact b_Archive_tellsTheSame_96_ok G F v0 v1 r12.1.toInt32 r29.1 r45.1 (1 : Int32) r45.2 _ h
  · rw [if_pos c56] at h
    refine V_iload_n (i := 2) d_Archive_tellsTheSame_59 rfl 2 rfl ?_
    refine V_if_ne (tgt := 80) d_Archive_tellsTheSame_60 (by decide) (fun c60 => ?_) (fun c60 => ?_)
    · rw [if_neg c60] at h
      refine V_lv [] rfl ?_
      exact b_Archive_tellsTheSame_80_ok G F r45.2 _ h
    · rw [if_pos c60] at h
      refine V_lload_n (i := 3) d_Archive_tellsTheSame_63 rfl 1 rfl ?_
      refine V_lconst (v := 0) d_Archive_tellsTheSame_64 (by decide) ?_
      refine V_lcmp d_Archive_tellsTheSame_65 ?_
      refine V_if_ne (tgt := 80) d_Archive_tellsTheSame_66 (by decide) (fun c66 => ?_) (fun c66 => ?_)
      · rw [if_neg c66] at h
        refine V_lv [] rfl ?_
        exact b_Archive_tellsTheSame_80_ok G F r45.2 _ h
      · rw [if_pos c66] at h
        refine V_lload (i := 5) d_Archive_tellsTheSame_69 0 rfl ?_
        refine V_lconst (v := 0) d_Archive_tellsTheSame_71 (by decide) ?_
        refine V_lcmp d_Archive_tellsTheSame_72 ?_
        refine V_if_ne (tgt := 80) d_Archive_tellsTheSame_73 (by decide) (fun c73 => ?_) (fun c73 => ?_)
        · rw [if_neg c73] at h
          refine V_lv [] rfl ?_
          exact b_Archive_tellsTheSame_80_ok G F r45.2 _ h
        · rw [if_pos c73] at h
          refine V_iconst (v := 1) d_Archive_tellsTheSame_76 (by decide) ?_
          refine V_goto (tgt := 81) d_Archive_tellsTheSame_77 (by decide) ?_
          obtain rfl := Option.some.inj h
          exact V_zret rfl (Or.inr rfl) (by decide) (by decide) d_Archive_tellsTheSame_81
def f_Archive_tellsTheSame (F : Nat) (v0 : Nat) (v1 : Nat) (w : zW) : Option (Int32 × zW) := b_Archive_tellsTheSame_0 F v0 v1 w
theorem c_Archive_tellsTheSame (G : zG) (F : Nat) (v0 : Nat) (v1 : Nat) (w : zW) (r : (Int32 × zW)) (h : f_Archive_tellsTheSame F v0 v1 w = some r) : zCT G m_Archive_tellsTheSame [.ref (z0 G + v0), .ref (z0 G + v1)] w (oI r.1) r.2 := zCT.ofV (by decide +kernel) (Or.inl ⟨kc_Archive_tellsTheSame, rfl⟩) (Nat.le_of_ble_eq_true rfl) (b_Archive_tellsTheSame_0_ok G F v0 v1 w r h)

/-! ZipArray$Archive.contentStart(LZipArray$Entry;)I -/
def m_Archive_contentStart : zM := (⟨R_Archive, "contentStart", "(LZipArray$Entry;)I"⟩, prog_2_method_12_code, 6, (some .int), [], { frames := 3, cells := 0, slots := 0, locals := 77 })
theorem k444 : Cond.constantLong R_Archive 158 67324752 ∈ zTb := tb_at 444 (by decide +kernel) rfl
theorem k445 : Cond.methodLink R_Archive 160 (mY m_Archive_tellsTheSame) ∈ zTb := tb_at 445 (by decide +kernel) rfl
theorem k447 : Cond.instanceMethod (mY m_Archive_tellsTheSame) ∈ zTb := tb_at 447 (by decide +kernel) rfl
theorem kc_Archive_contentStart : Cond.code (mY m_Archive_contentStart) (mC m_Archive_contentStart) (mL m_Archive_contentStart) (mT m_Archive_contentStart) ∈ zTb := tb_at 443 (by decide +kernel) rfl
theorem y_Archive_contentStart : (mY m_Archive_contentStart).cls ≠ "java/lang/invoke/MethodHandle" ∧ (mY m_Archive_contentStart).cls ≠ "java/lang/invoke/VarHandle" ∧ (parseMethodDescriptor (mY m_Archive_contentStart).desc).map (fun d => d.parameters.length) = some 1 := by decide +kernel
theorem d_Archive_contentStart_0 : decode (mC m_Archive_contentStart) 0 = .ok (.aload_n 1, 1) := by decide +kernel
theorem d_Archive_contentStart_1 : decode (mC m_Archive_contentStart) 1 = .ok (.getfield 145, 3) := by decide +kernel
theorem d_Archive_contentStart_4 : decode (mC m_Archive_contentStart) 4 = .ok (.istore_n 2, 1) := by decide +kernel
theorem d_Archive_contentStart_5 : decode (mC m_Archive_contentStart) 5 = .ok (.aload_n 0, 1) := by decide +kernel
theorem d_Archive_contentStart_6 : decode (mC m_Archive_contentStart) 6 = .ok (.getfield 46, 3) := by decide +kernel
theorem d_Archive_contentStart_9 : decode (mC m_Archive_contentStart) 9 = .ok (.iload_n 2, 1) := by decide +kernel
theorem d_Archive_contentStart_10 : decode (mC m_Archive_contentStart) 10 = .ok (.isub, 1) := by decide +kernel
theorem d_Archive_contentStart_11 : decode (mC m_Archive_contentStart) 11 = .ok (.bipush 30, 2) := by decide +kernel
theorem d_Archive_contentStart_13 : decode (mC m_Archive_contentStart) 13 = .ok (.if_icmp .lt 19, 3) := by decide +kernel
theorem d_Archive_contentStart_16 : decode (mC m_Archive_contentStart) 16 = .ok (.aload_n 0, 1) := by decide +kernel
theorem d_Archive_contentStart_17 : decode (mC m_Archive_contentStart) 17 = .ok (.getfield 9, 3) := by decide +kernel
theorem d_Archive_contentStart_20 : decode (mC m_Archive_contentStart) 20 = .ok (.iload_n 2, 1) := by decide +kernel
theorem d_Archive_contentStart_21 : decode (mC m_Archive_contentStart) 21 = .ok (.iconst 4, 1) := by decide +kernel
theorem d_Archive_contentStart_22 : decode (mC m_Archive_contentStart) 22 = .ok (.invokevirtual 75, 3) := by decide +kernel
theorem d_Archive_contentStart_25 : decode (mC m_Archive_contentStart) 25 = .ok (.ldc2_w 158, 3) := by decide +kernel
theorem d_Archive_contentStart_28 : decode (mC m_Archive_contentStart) 28 = .ok (.lcmp, 1) := by decide +kernel
theorem d_Archive_contentStart_29 : decode (mC m_Archive_contentStart) 29 = .ok (.ifCond .eq 5, 3) := by decide +kernel
theorem d_Archive_contentStart_32 : decode (mC m_Archive_contentStart) 32 = .ok (.iconst (-1), 1) := by decide +kernel
theorem d_Archive_contentStart_33 : decode (mC m_Archive_contentStart) 33 = .ok (.ireturn, 1) := by decide +kernel
theorem d_Archive_contentStart_34 : decode (mC m_Archive_contentStart) 34 = .ok (.iload_n 2, 1) := by decide +kernel
theorem d_Archive_contentStart_35 : decode (mC m_Archive_contentStart) 35 = .ok (.bipush 30, 2) := by decide +kernel
theorem d_Archive_contentStart_37 : decode (mC m_Archive_contentStart) 37 = .ok (.iadd, 1) := by decide +kernel
theorem d_Archive_contentStart_38 : decode (mC m_Archive_contentStart) 38 = .ok (.istore_n 3, 1) := by decide +kernel
theorem d_Archive_contentStart_39 : decode (mC m_Archive_contentStart) 39 = .ok (.iload_n 3, 1) := by decide +kernel
theorem d_Archive_contentStart_40 : decode (mC m_Archive_contentStart) 40 = .ok (.aload_n 0, 1) := by decide +kernel
theorem d_Archive_contentStart_41 : decode (mC m_Archive_contentStart) 41 = .ok (.getfield 9, 3) := by decide +kernel
theorem d_Archive_contentStart_44 : decode (mC m_Archive_contentStart) 44 = .ok (.iload_n 2, 1) := by decide +kernel
theorem d_Archive_contentStart_45 : decode (mC m_Archive_contentStart) 45 = .ok (.bipush 26, 2) := by decide +kernel
theorem d_Archive_contentStart_47 : decode (mC m_Archive_contentStart) 47 = .ok (.iadd, 1) := by decide +kernel
theorem d_Archive_contentStart_48 : decode (mC m_Archive_contentStart) 48 = .ok (.iconst 2, 1) := by decide +kernel
theorem d_Archive_contentStart_49 : decode (mC m_Archive_contentStart) 49 = .ok (.invokevirtual 75, 3) := by decide +kernel
theorem d_Archive_contentStart_52 : decode (mC m_Archive_contentStart) 52 = .ok (.l2i, 1) := by decide +kernel
theorem d_Archive_contentStart_53 : decode (mC m_Archive_contentStart) 53 = .ok (.iadd, 1) := by decide +kernel
theorem d_Archive_contentStart_54 : decode (mC m_Archive_contentStart) 54 = .ok (.istore 4, 2) := by decide +kernel
theorem d_Archive_contentStart_56 : decode (mC m_Archive_contentStart) 56 = .ok (.iload 4, 2) := by decide +kernel
theorem d_Archive_contentStart_58 : decode (mC m_Archive_contentStart) 58 = .ok (.aload_n 0, 1) := by decide +kernel
theorem d_Archive_contentStart_59 : decode (mC m_Archive_contentStart) 59 = .ok (.getfield 9, 3) := by decide +kernel
theorem d_Archive_contentStart_62 : decode (mC m_Archive_contentStart) 62 = .ok (.iload_n 2, 1) := by decide +kernel
theorem d_Archive_contentStart_63 : decode (mC m_Archive_contentStart) 63 = .ok (.bipush 28, 2) := by decide +kernel
theorem d_Archive_contentStart_65 : decode (mC m_Archive_contentStart) 65 = .ok (.iadd, 1) := by decide +kernel
theorem d_Archive_contentStart_66 : decode (mC m_Archive_contentStart) 66 = .ok (.iconst 2, 1) := by decide +kernel
theorem d_Archive_contentStart_67 : decode (mC m_Archive_contentStart) 67 = .ok (.invokevirtual 75, 3) := by decide +kernel
theorem d_Archive_contentStart_70 : decode (mC m_Archive_contentStart) 70 = .ok (.l2i, 1) := by decide +kernel
theorem d_Archive_contentStart_71 : decode (mC m_Archive_contentStart) 71 = .ok (.iadd, 1) := by decide +kernel
theorem d_Archive_contentStart_72 : decode (mC m_Archive_contentStart) 72 = .ok (.istore 5, 2) := by decide +kernel
theorem d_Archive_contentStart_74 : decode (mC m_Archive_contentStart) 74 = .ok (.iload 5, 2) := by decide +kernel
theorem d_Archive_contentStart_76 : decode (mC m_Archive_contentStart) 76 = .ok (.aload_n 0, 1) := by decide +kernel
theorem d_Archive_contentStart_77 : decode (mC m_Archive_contentStart) 77 = .ok (.getfield 46, 3) := by decide +kernel
theorem d_Archive_contentStart_80 : decode (mC m_Archive_contentStart) 80 = .ok (.if_icmp .gt 59, 3) := by decide +kernel
theorem d_Archive_contentStart_83 : decode (mC m_Archive_contentStart) 83 = .ok (.aload_n 0, 1) := by decide +kernel
theorem d_Archive_contentStart_84 : decode (mC m_Archive_contentStart) 84 = .ok (.getfield 9, 3) := by decide +kernel
theorem d_Archive_contentStart_87 : decode (mC m_Archive_contentStart) 87 = .ok (.iload_n 2, 1) := by decide +kernel
theorem d_Archive_contentStart_88 : decode (mC m_Archive_contentStart) 88 = .ok (.bipush 6, 2) := by decide +kernel
theorem d_Archive_contentStart_90 : decode (mC m_Archive_contentStart) 90 = .ok (.iadd, 1) := by decide +kernel
theorem d_Archive_contentStart_91 : decode (mC m_Archive_contentStart) 91 = .ok (.iconst 2, 1) := by decide +kernel
theorem d_Archive_contentStart_92 : decode (mC m_Archive_contentStart) 92 = .ok (.invokevirtual 75, 3) := by decide +kernel
theorem d_Archive_contentStart_95 : decode (mC m_Archive_contentStart) 95 = .ok (.aload_n 1, 1) := by decide +kernel
theorem d_Archive_contentStart_96 : decode (mC m_Archive_contentStart) 96 = .ok (.getfield 108, 3) := by decide +kernel
theorem d_Archive_contentStart_99 : decode (mC m_Archive_contentStart) 99 = .ok (.i2l, 1) := by decide +kernel
theorem d_Archive_contentStart_100 : decode (mC m_Archive_contentStart) 100 = .ok (.lcmp, 1) := by decide +kernel
theorem d_Archive_contentStart_101 : decode (mC m_Archive_contentStart) 101 = .ok (.ifCond .ne 38, 3) := by decide +kernel
theorem d_Archive_contentStart_104 : decode (mC m_Archive_contentStart) 104 = .ok (.aload_n 0, 1) := by decide +kernel
theorem d_Archive_contentStart_105 : decode (mC m_Archive_contentStart) 105 = .ok (.getfield 9, 3) := by decide +kernel
theorem d_Archive_contentStart_108 : decode (mC m_Archive_contentStart) 108 = .ok (.iload_n 2, 1) := by decide +kernel
theorem d_Archive_contentStart_109 : decode (mC m_Archive_contentStart) 109 = .ok (.bipush 8, 2) := by decide +kernel
theorem d_Archive_contentStart_111 : decode (mC m_Archive_contentStart) 111 = .ok (.iadd, 1) := by decide +kernel
theorem d_Archive_contentStart_112 : decode (mC m_Archive_contentStart) 112 = .ok (.iconst 2, 1) := by decide +kernel
theorem d_Archive_contentStart_113 : decode (mC m_Archive_contentStart) 113 = .ok (.invokevirtual 75, 3) := by decide +kernel
theorem d_Archive_contentStart_116 : decode (mC m_Archive_contentStart) 116 = .ok (.aload_n 1, 1) := by decide +kernel
theorem d_Archive_contentStart_117 : decode (mC m_Archive_contentStart) 117 = .ok (.getfield 111, 3) := by decide +kernel
theorem d_Archive_contentStart_120 : decode (mC m_Archive_contentStart) 120 = .ok (.i2l, 1) := by decide +kernel
theorem d_Archive_contentStart_121 : decode (mC m_Archive_contentStart) 121 = .ok (.lcmp, 1) := by decide +kernel
theorem d_Archive_contentStart_122 : decode (mC m_Archive_contentStart) 122 = .ok (.ifCond .ne 17, 3) := by decide +kernel
theorem d_Archive_contentStart_125 : decode (mC m_Archive_contentStart) 125 = .ok (.aload_n 0, 1) := by decide +kernel
theorem d_Archive_contentStart_126 : decode (mC m_Archive_contentStart) 126 = .ok (.iload_n 3, 1) := by decide +kernel
theorem d_Archive_contentStart_127 : decode (mC m_Archive_contentStart) 127 = .ok (.iload 4, 2) := by decide +kernel
theorem d_Archive_contentStart_129 : decode (mC m_Archive_contentStart) 129 = .ok (.invokevirtual 104, 3) := by decide +kernel
theorem d_Archive_contentStart_132 : decode (mC m_Archive_contentStart) 132 = .ok (.aload_n 1, 1) := by decide +kernel
theorem d_Archive_contentStart_133 : decode (mC m_Archive_contentStart) 133 = .ok (.getfield 63, 3) := by decide +kernel
theorem d_Archive_contentStart_136 : decode (mC m_Archive_contentStart) 136 = .ok (.if_icmp .eq 5, 3) := by decide +kernel
theorem d_Archive_contentStart_139 : decode (mC m_Archive_contentStart) 139 = .ok (.iconst (-1), 1) := by decide +kernel
theorem d_Archive_contentStart_140 : decode (mC m_Archive_contentStart) 140 = .ok (.ireturn, 1) := by decide +kernel
theorem d_Archive_contentStart_141 : decode (mC m_Archive_contentStart) 141 = .ok (.aload_n 0, 1) := by decide +kernel
theorem d_Archive_contentStart_142 : decode (mC m_Archive_contentStart) 142 = .ok (.getfield 20, 3) := by decide +kernel
theorem d_Archive_contentStart_145 : decode (mC m_Archive_contentStart) 145 = .ok (.iload 4, 2) := by decide +kernel
theorem d_Archive_contentStart_147 : decode (mC m_Archive_contentStart) 147 = .ok (.iload 5, 2) := by decide +kernel
theorem d_Archive_contentStart_149 : decode (mC m_Archive_contentStart) 149 = .ok (.invokevirtual 120, 3) := by decide +kernel
theorem d_Archive_contentStart_152 : decode (mC m_Archive_contentStart) 152 = .ok (.aload_n 0, 1) := by decide +kernel
theorem d_Archive_contentStart_153 : decode (mC m_Archive_contentStart) 153 = .ok (.getfield 20, 3) := by decide +kernel
theorem d_Archive_contentStart_156 : decode (mC m_Archive_contentStart) 156 = .ok (.getfield 124, 3) := by decide +kernel
theorem d_Archive_contentStart_159 : decode (mC m_Archive_contentStart) 159 = .ok (.ifCond .eq 16, 3) := by decide +kernel
theorem d_Archive_contentStart_162 : decode (mC m_Archive_contentStart) 162 = .ok (.aload_n 0, 1) := by decide +kernel
theorem d_Archive_contentStart_163 : decode (mC m_Archive_contentStart) 163 = .ok (.aload_n 1, 1) := by decide +kernel
theorem d_Archive_contentStart_164 : decode (mC m_Archive_contentStart) 164 = .ok (.invokevirtual 160, 3) := by decide +kernel
theorem d_Archive_contentStart_167 : decode (mC m_Archive_contentStart) 167 = .ok (.ifCond .eq 8, 3) := by decide +kernel
theorem d_Archive_contentStart_170 : decode (mC m_Archive_contentStart) 170 = .ok (.iload 5, 2) := by decide +kernel
theorem d_Archive_contentStart_172 : decode (mC m_Archive_contentStart) 172 = .ok (.goto 4, 3) := by decide +kernel
theorem d_Archive_contentStart_175 : decode (mC m_Archive_contentStart) 175 = .ok (.iconst (-1), 1) := by decide +kernel
theorem d_Archive_contentStart_176 : decode (mC m_Archive_contentStart) 176 = .ok (.ireturn, 1) := by decide +kernel
def b_Archive_contentStart_175 (F : Nat) (w : zW) : Option (Int32 × zW) := some ((-1 : Int32), w)
set_option maxRecDepth 100000 in
set_option maxHeartbeats 4000000 in
theorem b_Archive_contentStart_175_ok (G : zG) (F : Nat) (w : zW) (r : (Int32 × zW)) (h : b_Archive_contentStart_175 F w = some r) : zV G m_Archive_contentStart 175 [] [] w 0 0 (oI r.1) r.2 := by
  unfold b_Archive_contentStart_175 at h
  refine V_iconst (v := -1) d_Archive_contentStart_175 (by decide) ?_
  obtain rfl := Option.some.inj h
  exact V_iret rfl (by decide) (by decide) d_Archive_contentStart_176
def b_Archive_contentStart_139 (F : Nat) (w : zW) : Option (Int32 × zW) := some ((-1 : Int32), w)
set_option maxRecDepth 100000 in
set_option maxHeartbeats 4000000 in
theorem b_Archive_contentStart_139_ok (G : zG) (F : Nat) (w : zW) (r : (Int32 × zW)) (h : b_Archive_contentStart_139 F w = some r) : zV G m_Archive_contentStart 139 [] [] w 0 0 (oI r.1) r.2 := by
  unfold b_Archive_contentStart_139 at h
  refine V_iconst (v := -1) d_Archive_contentStart_139 (by decide) ?_
  obtain rfl := Option.some.inj h
  exact V_iret rfl (by decide) (by decide) d_Archive_contentStart_140
def b_Archive_contentStart_32 (F : Nat) (w : zW) : Option (Int32 × zW) := some ((-1 : Int32), w)
set_option maxRecDepth 100000 in
set_option maxHeartbeats 4000000 in
theorem b_Archive_contentStart_32_ok (G : zG) (F : Nat) (w : zW) (r : (Int32 × zW)) (h : b_Archive_contentStart_32 F w = some r) : zV G m_Archive_contentStart 32 [] [] w 0 0 (oI r.1) r.2 := by
  unfold b_Archive_contentStart_32 at h
  refine V_iconst (v := -1) d_Archive_contentStart_32 (by decide) ?_
  obtain rfl := Option.some.inj h
  exact V_iret rfl (by decide) (by decide) d_Archive_contentStart_33
def b_Archive_contentStart_0 (F : Nat) (v0 : Nat) (v1 : Nat) (w : zW) : Option (Int32 × zW) := (getI w v1 1 6).bind fun x1 => (getI w v0 6 4).bind fun x6 => if (x6 - x1) < (30 : Int32) then (b_Archive_contentStart_32 F w) else ((getR w v0 6 0).bind fun x17 => (zobj w x17 0).bind fun _ => (f_Row_number F x17 x1 (4 : Int32) w).bind fun r22 => if (lg_cmp r22.1 (67324752 : Int64)) = 0 then ((getR r22.2 v0 6 0).bind fun x41 => (zobj r22.2 x41 0).bind fun _ => (f_Row_number F x41 (x1 + (26 : Int32)) (2 : Int32) r22.2).bind fun r49 => (getR r49.2 v0 6 0).bind fun x59 => (zobj r49.2 x59 0).bind fun _ => (f_Row_number F x59 (x1 + (28 : Int32)) (2 : Int32) r49.2).bind fun r67 => (getI r67.2 v0 6 4).bind fun x77 => if x77 < (((x1 + (30 : Int32)) + r49.1.toInt32) + r67.1.toInt32) then (b_Archive_contentStart_139 F r67.2) else ((getR r67.2 v0 6 0).bind fun x84 => (zobj r67.2 x84 0).bind fun _ => (f_Row_number F x84 (x1 + (6 : Int32)) (2 : Int32) r67.2).bind fun r92 => (getI r92.2 v1 1 1).bind fun x96 => if (lg_cmp r92.1 x96.toInt64) = 0 then ((getR r92.2 v0 6 0).bind fun x105 => (zobj r92.2 x105 0).bind fun _ => (f_Row_number F x105 (x1 + (8 : Int32)) (2 : Int32) r92.2).bind fun r113 => (getI r113.2 v1 1 2).bind fun x117 => if (lg_cmp r113.1 x117.toInt64) = 0 then ((zobj r113.2 v0 6).bind fun _ => (f_Archive_readName F v0 (x1 + (30 : Int32)) ((x1 + (30 : Int32)) + r49.1.toInt32) r113.2).bind fun r129 => (getI r129.2 v1 1 0).bind fun x133 => if r129.1 = x133 then ((getR r129.2 v0 6 1).bind fun x142 => (zobj r129.2 x142 2).bind fun _ => (f_Extras_open F x142 ((x1 + (30 : Int32)) + r49.1.toInt32) (((x1 + (30 : Int32)) + r49.1.toInt32) + r67.1.toInt32) r129.2).bind fun r149 => (getR r149.2 v0 6 1).bind fun x153 => (getI r149.2 x153 2 1).bind fun x156 => if x156 = 0 then (b_Archive_contentStart_175 F r149.2) else ((zobj r149.2 v0 6).bind fun _ => (f_Archive_tellsTheSame F v0 v1 r149.2).bind fun r164 => if r164.1 = 0 then (b_Archive_contentStart_175 F r164.2) else (some ((((x1 + (30 : Int32)) + r49.1.toInt32) + r67.1.toInt32), r164.2)))) else (b_Archive_contentStart_139 F r129.2)) else (b_Archive_contentStart_139 F r113.2)) else (b_Archive_contentStart_139 F r92.2))) else (b_Archive_contentStart_32 F r22.2))
set_option maxRecDepth 100000 in
set_option maxHeartbeats 4000000 in
theorem b_Archive_contentStart_0_ok (G : zG) (F : Nat) (v0 : Nat) (v1 : Nat) (w : zW) (r : (Int32 × zW)) (h : b_Archive_contentStart_0 F v0 v1 w = some r) : zV G m_Archive_contentStart 0 [(0, .ref (z0 G + v0)), (1, .ref (z0 G + v1))] [] w 0 0 (oI r.1) r.2 := by
  unfold b_Archive_contentStart_0 at h
  refine V_aload_n (i := 1) d_Archive_contentStart_0 rfl 1 rfl ?_
  obtain ⟨x1, e1, h⟩ := ob h
  refine V_getI (ci := 1) (k := 6) d_Archive_contentStart_1 e1 rfl (by decide) in_Entry k187 ?_
  refine V_istore_n (i := 2) d_Archive_contentStart_4 rfl (by decide) rfl ?_
  refine V_aload_n (i := 0) d_Archive_contentStart_5 rfl 1 rfl ?_
  obtain ⟨x6, e6, h⟩ := ob h
  refine V_getI (ci := 6) (k := 4) d_Archive_contentStart_6 e6 rfl (by decide) in_Archive k218 ?_
  refine V_iload_n (i := 2) d_Archive_contentStart_9 rfl 0 rfl ?_
  refine V_isub d_Archive_contentStart_10 ?_
  refine V_bipush (v := 30) d_Archive_contentStart_11 (by decide) ?_
  refine V_icmp_lt (tgt := 32) d_Archive_contentStart_13 (by decide) (fun c13 => ?_) (fun c13 => ?_)
  · rw [if_pos c13] at h
    refine V_lv [] rfl ?_
    exact b_Archive_contentStart_32_ok G F w _ h
  · rw [if_neg c13] at h
    refine V_aload_n (i := 0) d_Archive_contentStart_16 rfl 1 rfl ?_
    obtain ⟨x17, e17, h⟩ := ob h
    refine V_getR (ci := 6) (k := 0) d_Archive_contentStart_17 e17 rfl (by decide) in_Archive k212 ?_
    refine V_iload_n (i := 2) d_Archive_contentStart_20 rfl 0 rfl ?_
    refine V_iconst (v := 4) d_Archive_contentStart_21 (by decide) ?_
    obtain ⟨_, eo22, h⟩ := ob h
    obtain ⟨r22, e22, h⟩ := ob h
    refine V_call (v := some (.long r22.1)) (st := []) (inv_V (N := m_Row_number) (As := [.int x1, .int (4 : Int32)]) (ci := 0) d_Archive_contentStart_22 eo22 rfl k368 k369 k370 kc_Row_number y_Row_number) ⟨Or.inl kc_Row_number, k2, by decide, by decide⟩ (Nat.le_of_ble_eq_true rfl) (by decide) (by decide) (c_Row_number G F x17 x1 (4 : Int32) w r22 e22) ?_
    refine V_ldc2 (v := 67324752) d_Archive_contentStart_25 k444 ?_
    refine V_lcmp d_Archive_contentStart_28 ?_
    refine V_if_eq (tgt := 34) d_Archive_contentStart_29 (by decide) (fun c29 => ?_) (fun c29 => ?_)
    · rw [if_pos c29] at h
      refine V_iload_n (i := 2) d_Archive_contentStart_34 rfl 0 rfl ?_
      refine V_bipush (v := 30) d_Archive_contentStart_35 (by decide) ?_
      refine V_iadd d_Archive_contentStart_37 ?_
      refine V_istore_n (i := 3) d_Archive_contentStart_38 rfl (by decide) rfl ?_
      refine V_iload_n (i := 3) d_Archive_contentStart_39 rfl 0 rfl ?_
      refine V_aload_n (i := 0) d_Archive_contentStart_40 rfl 2 rfl ?_
      obtain ⟨x41, e41, h⟩ := ob h
      refine V_getR (ci := 6) (k := 0) d_Archive_contentStart_41 e41 rfl (by decide) in_Archive k212 ?_
      refine V_iload_n (i := 2) d_Archive_contentStart_44 rfl 1 rfl ?_
      refine V_bipush (v := 26) d_Archive_contentStart_45 (by decide) ?_
      refine V_iadd d_Archive_contentStart_47 ?_
      refine V_iconst (v := 2) d_Archive_contentStart_48 (by decide) ?_
      obtain ⟨_, eo49, h⟩ := ob h
      obtain ⟨r49, e49, h⟩ := ob h
      refine V_call (v := some (.long r49.1)) (st := [.int (x1 + (30 : Int32))]) (inv_V (N := m_Row_number) (As := [.int (x1 + (26 : Int32)), .int (2 : Int32)]) (ci := 0) d_Archive_contentStart_49 eo49 rfl k368 k369 k370 kc_Row_number y_Row_number) ⟨Or.inl kc_Row_number, k2, by decide, by decide⟩ (Nat.le_of_ble_eq_true rfl) (by decide) (by decide) (c_Row_number G F x41 (x1 + (26 : Int32)) (2 : Int32) r22.2 r49 e49) ?_
      refine V_l2i d_Archive_contentStart_52 ?_
      refine V_iadd d_Archive_contentStart_53 ?_
      refine V_istore (i := 4) d_Archive_contentStart_54 (by decide) rfl ?_
      refine V_iload (i := 4) d_Archive_contentStart_56 0 rfl ?_
      refine V_aload_n (i := 0) d_Archive_contentStart_58 rfl 3 rfl ?_
      obtain ⟨x59, e59, h⟩ := ob h
      refine V_getR (ci := 6) (k := 0) d_Archive_contentStart_59 e59 rfl (by decide) in_Archive k212 ?_
      refine V_iload_n (i := 2) d_Archive_contentStart_62 rfl 2 rfl ?_
      refine V_bipush (v := 28) d_Archive_contentStart_63 (by decide) ?_
      refine V_iadd d_Archive_contentStart_65 ?_
      refine V_iconst (v := 2) d_Archive_contentStart_66 (by decide) ?_
      obtain ⟨_, eo67, h⟩ := ob h
      obtain ⟨r67, e67, h⟩ := ob h
      refine V_call (v := some (.long r67.1)) (st := [.int ((x1 + (30 : Int32)) + r49.1.toInt32)]) (inv_V (N := m_Row_number) (As := [.int (x1 + (28 : Int32)), .int (2 : Int32)]) (ci := 0) d_Archive_contentStart_67 eo67 rfl k368 k369 k370 kc_Row_number y_Row_number) ⟨Or.inl kc_Row_number, k2, by decide, by decide⟩ (Nat.le_of_ble_eq_true rfl) (by decide) (by decide) (c_Row_number G F x59 (x1 + (28 : Int32)) (2 : Int32) r49.2 r67 e67) ?_
      refine V_l2i d_Archive_contentStart_70 ?_
      refine V_iadd d_Archive_contentStart_71 ?_
      refine V_istore (i := 5) d_Archive_contentStart_72 (by decide) rfl ?_
      refine V_iload (i := 5) d_Archive_contentStart_74 0 rfl ?_
      refine V_aload_n (i := 0) d_Archive_contentStart_76 rfl 4 rfl ?_
      obtain ⟨x77, e77, h⟩ := ob h
      refine V_getI (ci := 6) (k := 4) d_Archive_contentStart_77 e77 rfl (by decide) in_Archive k218 ?_
      refine V_icmp_gt (tgt := 139) d_Archive_contentStart_80 (by decide) (fun c80 => ?_) (fun c80 => ?_)
      · rw [if_pos c80] at h
        refine V_lv [] rfl ?_
        exact b_Archive_contentStart_139_ok G F r67.2 _ h
      · rw [if_neg c80] at h
        refine V_aload_n (i := 0) d_Archive_contentStart_83 rfl 4 rfl ?_
        obtain ⟨x84, e84, h⟩ := ob h
        refine V_getR (ci := 6) (k := 0) d_Archive_contentStart_84 e84 rfl (by decide) in_Archive k212 ?_
        refine V_iload_n (i := 2) d_Archive_contentStart_87 rfl 3 rfl ?_
        refine V_bipush (v := 6) d_Archive_contentStart_88 (by decide) ?_
        refine V_iadd d_Archive_contentStart_90 ?_
        refine V_iconst (v := 2) d_Archive_contentStart_91 (by decide) ?_
        obtain ⟨_, eo92, h⟩ := ob h
        obtain ⟨r92, e92, h⟩ := ob h
        refine V_call (v := some (.long r92.1)) (st := []) (inv_V (N := m_Row_number) (As := [.int (x1 + (6 : Int32)), .int (2 : Int32)]) (ci := 0) d_Archive_contentStart_92 eo92 rfl k368 k369 k370 kc_Row_number y_Row_number) ⟨Or.inl kc_Row_number, k2, by decide, by decide⟩ (Nat.le_of_ble_eq_true rfl) (by decide) (by decide) (c_Row_number G F x84 (x1 + (6 : Int32)) (2 : Int32) r67.2 r92 e92) ?_
        refine V_aload_n (i := 1) d_Archive_contentStart_95 rfl 5 rfl ?_
        obtain ⟨x96, e96, h⟩ := ob h
        refine V_getI (ci := 1) (k := 1) d_Archive_contentStart_96 e96 rfl (by decide) in_Entry k172 ?_
        refine V_i2l d_Archive_contentStart_99 ?_
        refine V_lcmp d_Archive_contentStart_100 ?_
        refine V_if_ne (tgt := 139) d_Archive_contentStart_101 (by decide) (fun c101 => ?_) (fun c101 => ?_)
        · rw [if_neg c101] at h
          refine V_lv [] rfl ?_
          exact b_Archive_contentStart_139_ok G F r92.2 _ h
        · rw [if_pos c101] at h
          refine V_aload_n (i := 0) d_Archive_contentStart_104 rfl 4 rfl ?_
          obtain ⟨x105, e105, h⟩ := ob h
          refine V_getR (ci := 6) (k := 0) d_Archive_contentStart_105 e105 rfl (by decide) in_Archive k212 ?_
          refine V_iload_n (i := 2) d_Archive_contentStart_108 rfl 3 rfl ?_
          refine V_bipush (v := 8) d_Archive_contentStart_109 (by decide) ?_
          refine V_iadd d_Archive_contentStart_111 ?_
          refine V_iconst (v := 2) d_Archive_contentStart_112 (by decide) ?_
          obtain ⟨_, eo113, h⟩ := ob h
          obtain ⟨r113, e113, h⟩ := ob h
          refine V_call (v := some (.long r113.1)) (st := []) (inv_V (N := m_Row_number) (As := [.int (x1 + (8 : Int32)), .int (2 : Int32)]) (ci := 0) d_Archive_contentStart_113 eo113 rfl k368 k369 k370 kc_Row_number y_Row_number) ⟨Or.inl kc_Row_number, k2, by decide, by decide⟩ (Nat.le_of_ble_eq_true rfl) (by decide) (by decide) (c_Row_number G F x105 (x1 + (8 : Int32)) (2 : Int32) r92.2 r113 e113) ?_
          refine V_aload_n (i := 1) d_Archive_contentStart_116 rfl 5 rfl ?_
          obtain ⟨x117, e117, h⟩ := ob h
          refine V_getI (ci := 1) (k := 2) d_Archive_contentStart_117 e117 rfl (by decide) in_Entry k175 ?_
          refine V_i2l d_Archive_contentStart_120 ?_
          refine V_lcmp d_Archive_contentStart_121 ?_
          refine V_if_ne (tgt := 139) d_Archive_contentStart_122 (by decide) (fun c122 => ?_) (fun c122 => ?_)
          · rw [if_neg c122] at h
            refine V_lv [] rfl ?_
            exact b_Archive_contentStart_139_ok G F r113.2 _ h
          · rw [if_pos c122] at h
            refine V_aload_n (i := 0) d_Archive_contentStart_125 rfl 4 rfl ?_
            refine V_iload_n (i := 3) d_Archive_contentStart_126 rfl 2 rfl ?_
            refine V_iload (i := 4) d_Archive_contentStart_127 1 rfl ?_
            obtain ⟨_, eo129, h⟩ := ob h
            obtain ⟨r129, e129, h⟩ := ob h
            refine V_call (v := some (.int r129.1)) (st := []) (inv_V (N := m_Archive_readName) (As := [.int (x1 + (30 : Int32)), .int ((x1 + (30 : Int32)) + r49.1.toInt32)]) (ci := 6) d_Archive_contentStart_129 eo129 rfl k395 k397 sel_Archive_readName kc_Archive_readName y_Archive_readName) ⟨Or.inl kc_Archive_readName, k6, by decide, by decide⟩ (Nat.le_of_ble_eq_true rfl) (by decide) (by decide) (c_Archive_readName G F v0 (x1 + (30 : Int32)) ((x1 + (30 : Int32)) + r49.1.toInt32) r113.2 r129 e129) ?_
            refine V_aload_n (i := 1) d_Archive_contentStart_132 rfl 5 rfl ?_
            obtain ⟨x133, e133, h⟩ := ob h
            refine V_getI (ci := 1) (k := 0) d_Archive_contentStart_133 e133 rfl (by decide) in_Entry k168 ?_
            refine V_icmp_eq (tgt := 141) d_Archive_contentStart_136 (by decide) (fun c136 => ?_) (fun c136 => ?_)
            · rw [if_pos c136] at h
              refine V_aload_n (i := 0) d_Archive_contentStart_141 rfl 4 rfl ?_
              obtain ⟨x142, e142, h⟩ := ob h
              refine V_getR (ci := 6) (k := 1) d_Archive_contentStart_142 e142 rfl (by decide) in_Archive k213 ?_
              refine V_iload (i := 4) d_Archive_contentStart_145 1 rfl ?_
              refine V_iload (i := 5) d_Archive_contentStart_147 0 rfl ?_
              obtain ⟨_, eo149, h⟩ := ob h
              obtain ⟨r149, e149, h⟩ := ob h
              refine V_call (v := none) (st := []) (inv_V (N := m_Extras_open) (As := [.int ((x1 + (30 : Int32)) + r49.1.toInt32), .int (((x1 + (30 : Int32)) + r49.1.toInt32) + r67.1.toInt32)]) (ci := 2) d_Archive_contentStart_149 eo149 rfl k413 k414 k415 kc_Extras_open y_Extras_open) ⟨Or.inl kc_Extras_open, k7, by decide, by decide⟩ (Nat.le_of_ble_eq_true rfl) (by decide) (by decide) (c_Extras_open G F x142 ((x1 + (30 : Int32)) + r49.1.toInt32) (((x1 + (30 : Int32)) + r49.1.toInt32) + r67.1.toInt32) r129.2 r149 e149) ?_
              refine V_aload_n (i := 0) d_Archive_contentStart_152 rfl 4 rfl ?_
              obtain ⟨x153, e153, h⟩ := ob h
              refine V_getR (ci := 6) (k := 1) d_Archive_contentStart_153 e153 rfl (by decide) in_Archive k213 ?_
              obtain ⟨x156, e156, h⟩ := ob h
              refine V_getI (ci := 2) (k := 1) d_Archive_contentStart_156 e156 rfl (by decide) in_Extras k145 ?_
              refine V_if_eq (tgt := 175) d_Archive_contentStart_159 (by decide) (fun c159 => ?_) (fun c159 => ?_)
              · rw [if_pos c159] at h
                refine V_lv [] rfl ?_
                exact b_Archive_contentStart_175_ok G F r149.2 _ h
              · rw [if_neg c159] at h
                refine V_aload_n (i := 0) d_Archive_contentStart_162 rfl 4 rfl ?_
                refine V_aload_n (i := 1) d_Archive_contentStart_163 rfl 5 rfl ?_
                obtain ⟨_, eo164, h⟩ := ob h
                obtain ⟨r164, e164, h⟩ := ob h
                refine V_call (v := some (.int r164.1)) (st := []) (inv_V (N := m_Archive_tellsTheSame) (As := [.ref (z0 G + v1)]) (ci := 6) d_Archive_contentStart_164 eo164 rfl k445 k447 sel_Archive_tellsTheSame kc_Archive_tellsTheSame y_Archive_tellsTheSame) ⟨Or.inl kc_Archive_tellsTheSame, k6, by decide, by decide⟩ (Nat.le_of_ble_eq_true rfl) (by decide) (by decide) (c_Archive_tellsTheSame G F v0 v1 r149.2 r164 e164) ?_
                refine V_if_eq (tgt := 175) d_Archive_contentStart_167 (by decide) (fun c167 => ?_) (fun c167 => ?_)
                · rw [if_pos c167] at h
                  refine V_lv [] rfl ?_
                  exact b_Archive_contentStart_175_ok G F r164.2 _ h
                · rw [if_neg c167] at h
                  refine V_iload (i := 5) d_Archive_contentStart_170 0 rfl ?_
                  refine V_goto (tgt := 176) d_Archive_contentStart_172 (by decide) ?_
                  obtain rfl := Option.some.inj h
                  exact V_iret rfl (by decide) (by decide) d_Archive_contentStart_176
            · rw [if_neg c136] at h
              refine V_lv [] rfl ?_
              exact b_Archive_contentStart_139_ok G F r129.2 _ h
    · rw [if_neg c29] at h
      refine V_lv [] rfl ?_
      exact b_Archive_contentStart_32_ok G F r22.2 _ h
def f_Archive_contentStart (F : Nat) (v0 : Nat) (v1 : Nat) (w : zW) : Option (Int32 × zW) := b_Archive_contentStart_0 F v0 v1 w
theorem c_Archive_contentStart (G : zG) (F : Nat) (v0 : Nat) (v1 : Nat) (w : zW) (r : (Int32 × zW)) (h : f_Archive_contentStart F v0 v1 w = some r) : zCT G m_Archive_contentStart [.ref (z0 G + v0), .ref (z0 G + v1)] w (oI r.1) r.2 := zCT.ofV (by decide +kernel) (Or.inl ⟨kc_Archive_contentStart, rfl⟩) (Nat.le_of_ble_eq_true rfl) (b_Archive_contentStart_0_ok G F v0 v1 w r h)

/-! ZipArray$Archive.endOf(LZipArray$Entry;I)I -/
def m_Archive_endOf : zM := (⟨R_Archive, "endOf", "(LZipArray$Entry;I)I"⟩, prog_2_method_14_code, 3, (some .int), [], { frames := 0, cells := 0, slots := 0, locals := 0 })
theorem kc_Archive_endOf : Cond.code (mY m_Archive_endOf) (mC m_Archive_endOf) (mL m_Archive_endOf) (mT m_Archive_endOf) ∈ zTb := tb_at 456 (by decide +kernel) rfl
theorem y_Archive_endOf : (mY m_Archive_endOf).cls ≠ "java/lang/invoke/MethodHandle" ∧ (mY m_Archive_endOf).cls ≠ "java/lang/invoke/VarHandle" ∧ (parseMethodDescriptor (mY m_Archive_endOf).desc).map (fun d => d.parameters.length) = some 2 := by decide +kernel
theorem sel_Archive_endOf : Cond.selects R_Archive (mY m_Archive_endOf) (mY m_Archive_endOf) ∈ zTb := sel_at (y := mY m_Archive_endOf) (n := 7) 11 (by decide +kernel)
theorem d_Archive_endOf_0 : decode (mC m_Archive_endOf) 0 = .ok (.iload_n 2, 1) := by decide +kernel
theorem d_Archive_endOf_1 : decode (mC m_Archive_endOf) 1 = .ok (.aload_n 1, 1) := by decide +kernel
theorem d_Archive_endOf_2 : decode (mC m_Archive_endOf) 2 = .ok (.getfield 142, 3) := by decide +kernel
theorem d_Archive_endOf_5 : decode (mC m_Archive_endOf) 5 = .ok (.iadd, 1) := by decide +kernel
theorem d_Archive_endOf_6 : decode (mC m_Archive_endOf) 6 = .ok (.aload_n 1, 1) := by decide +kernel
theorem d_Archive_endOf_7 : decode (mC m_Archive_endOf) 7 = .ok (.getfield 108, 3) := by decide +kernel
theorem d_Archive_endOf_10 : decode (mC m_Archive_endOf) 10 = .ok (.bipush 8, 2) := by decide +kernel
theorem d_Archive_endOf_12 : decode (mC m_Archive_endOf) 12 = .ok (.if_icmp .ne 8, 3) := by decide +kernel
theorem d_Archive_endOf_15 : decode (mC m_Archive_endOf) 15 = .ok (.bipush 16, 2) := by decide +kernel
theorem d_Archive_endOf_17 : decode (mC m_Archive_endOf) 17 = .ok (.goto 4, 3) := by decide +kernel
theorem d_Archive_endOf_20 : decode (mC m_Archive_endOf) 20 = .ok (.iconst 0, 1) := by decide +kernel
theorem d_Archive_endOf_21 : decode (mC m_Archive_endOf) 21 = .ok (.iadd, 1) := by decide +kernel
theorem d_Archive_endOf_22 : decode (mC m_Archive_endOf) 22 = .ok (.ireturn, 1) := by decide +kernel
def b_Archive_endOf_21 (F : Nat) (s0 : Int32) (s1 : Int32) (w : zW) : Option (Int32 × zW) := some ((s0 + s1), w)
set_option maxRecDepth 100000 in
set_option maxHeartbeats 4000000 in
theorem b_Archive_endOf_21_ok (G : zG) (F : Nat) (s0 : Int32) (s1 : Int32) (w : zW) (r : (Int32 × zW)) (h : b_Archive_endOf_21 F s0 s1 w = some r) : zV G m_Archive_endOf 21 [] [.int s1, .int s0] w 0 0 (oI r.1) r.2 := by
  unfold b_Archive_endOf_21 at h
  refine V_iadd d_Archive_endOf_21 ?_
  obtain rfl := Option.some.inj h
  exact V_iret rfl (by decide) (by decide) d_Archive_endOf_22
def b_Archive_endOf_0 (F : Nat) (v1 : Nat) (v2 : Int32) (w : zW) : Option (Int32 × zW) := (getI w v1 1 4).bind fun x2 => (getI w v1 1 1).bind fun x7 => if x7 = (8 : Int32) then (b_Archive_endOf_21 F (v2 + x2) (16 : Int32) w) else (b_Archive_endOf_21 F (v2 + x2) (0 : Int32) w)
set_option maxRecDepth 100000 in
set_option maxHeartbeats 4000000 in
theorem b_Archive_endOf_0_ok (G : zG) (F : Nat) (v1 : Nat) (v2 : Int32) (w : zW) (r : (Int32 × zW)) (h : b_Archive_endOf_0 F v1 v2 w = some r) : zV G m_Archive_endOf 0 [(1, .ref (z0 G + v1)), (2, .int v2)] [] w 0 0 (oI r.1) r.2 := by
  unfold b_Archive_endOf_0 at h
  refine V_iload_n (i := 2) d_Archive_endOf_0 rfl 1 rfl ?_
  refine V_aload_n (i := 1) d_Archive_endOf_1 rfl 0 rfl ?_
  obtain ⟨x2, e2, h⟩ := ob h
  refine V_getI (ci := 1) (k := 4) d_Archive_endOf_2 e2 rfl (by decide) in_Entry k181 ?_
  refine V_iadd d_Archive_endOf_5 ?_
  refine V_aload_n (i := 1) d_Archive_endOf_6 rfl 0 rfl ?_
  obtain ⟨x7, e7, h⟩ := ob h
  refine V_getI (ci := 1) (k := 1) d_Archive_endOf_7 e7 rfl (by decide) in_Entry k172 ?_
  refine V_bipush (v := 8) d_Archive_endOf_10 (by decide) ?_
  refine V_icmp_ne (tgt := 20) d_Archive_endOf_12 (by decide) (fun c12 => ?_) (fun c12 => ?_)
  · rw [if_neg c12] at h
    refine V_iconst (v := 0) d_Archive_endOf_20 (by decide) ?_
    refine V_lv [] rfl ?_
    exact b_Archive_endOf_21_ok G F (v2 + x2) (0 : Int32) w _ h
  · rw [if_pos c12] at h
    refine V_bipush (v := 16) d_Archive_endOf_15 (by decide) ?_
    refine V_goto (tgt := 21) d_Archive_endOf_17 (by decide) ?_
    refine V_lv [] rfl ?_
    exact b_Archive_endOf_21_ok G F (v2 + x2) (16 : Int32) w _ h
def f_Archive_endOf (F : Nat) (v0 : Nat) (v1 : Nat) (v2 : Int32) (w : zW) : Option (Int32 × zW) := b_Archive_endOf_0 F v1 v2 w
theorem c_Archive_endOf (G : zG) (F : Nat) (v0 : Nat) (v1 : Nat) (v2 : Int32) (w : zW) (r : (Int32 × zW)) (h : f_Archive_endOf F v0 v1 v2 w = some r) : zCT G m_Archive_endOf [.ref (z0 G + v0), .ref (z0 G + v1), .int v2] w (oI r.1) r.2 := zCT.ofV (by decide +kernel) (Or.inl ⟨kc_Archive_endOf, rfl⟩) (Nat.le_of_ble_eq_true rfl) (V_lv [1, 2] rfl (b_Archive_endOf_0_ok G F v1 v2 w r h))

/-! ZipArray$Archive.goesTooFar(II)Z -/
def m_Archive_goesTooFar : zM := (⟨R_Archive, "goesTooFar", "(II)Z"⟩, prog_2_method_15_code, 6, (some .boolean), [], { frames := 4, cells := 0, slots := 0, locals := 102 })
theorem k441 : Cond.instanceMethod (mY m_Archive_contentStart) ∈ zTb := tb_at 441 (by decide +kernel) rfl
theorem k442 : Cond.selects R_Archive (mY m_Archive_contentStart) (mY m_Archive_contentStart) ∈ zTb := tb_at 442 (by decide +kernel) rfl
theorem k453 : Cond.methodLink R_Archive 163 (mY m_Archive_endOf) ∈ zTb := tb_at 453 (by decide +kernel) rfl
theorem k455 : Cond.instanceMethod (mY m_Archive_endOf) ∈ zTb := tb_at 455 (by decide +kernel) rfl
theorem k457 : Cond.methodLink R_Archive 167 (mY m_Archive_contentStart) ∈ zTb := tb_at 457 (by decide +kernel) rfl
theorem kc_Archive_goesTooFar : Cond.code (mY m_Archive_goesTooFar) (mC m_Archive_goesTooFar) (mL m_Archive_goesTooFar) (mT m_Archive_goesTooFar) ∈ zTb := tb_at 452 (by decide +kernel) rfl
theorem y_Archive_goesTooFar : (mY m_Archive_goesTooFar).cls ≠ "java/lang/invoke/MethodHandle" ∧ (mY m_Archive_goesTooFar).cls ≠ "java/lang/invoke/VarHandle" ∧ (parseMethodDescriptor (mY m_Archive_goesTooFar).desc).map (fun d => d.parameters.length) = some 2 := by decide +kernel
theorem d_Archive_goesTooFar_0 : decode (mC m_Archive_goesTooFar) 0 = .ok (.aload_n 0, 1) := by decide +kernel
theorem d_Archive_goesTooFar_1 : decode (mC m_Archive_goesTooFar) 1 = .ok (.aload_n 0, 1) := by decide +kernel
theorem d_Archive_goesTooFar_2 : decode (mC m_Archive_goesTooFar) 2 = .ok (.getfield 26, 3) := by decide +kernel
theorem d_Archive_goesTooFar_5 : decode (mC m_Archive_goesTooFar) 5 = .ok (.iload_n 1, 1) := by decide +kernel
theorem d_Archive_goesTooFar_6 : decode (mC m_Archive_goesTooFar) 6 = .ok (.aaload, 1) := by decide +kernel
theorem d_Archive_goesTooFar_7 : decode (mC m_Archive_goesTooFar) 7 = .ok (.iload_n 2, 1) := by decide +kernel
theorem d_Archive_goesTooFar_8 : decode (mC m_Archive_goesTooFar) 8 = .ok (.invokevirtual 163, 3) := by decide +kernel
theorem d_Archive_goesTooFar_11 : decode (mC m_Archive_goesTooFar) 11 = .ok (.istore_n 3, 1) := by decide +kernel
theorem d_Archive_goesTooFar_12 : decode (mC m_Archive_goesTooFar) 12 = .ok (.iload_n 3, 1) := by decide +kernel
theorem d_Archive_goesTooFar_13 : decode (mC m_Archive_goesTooFar) 13 = .ok (.aload_n 0, 1) := by decide +kernel
theorem d_Archive_goesTooFar_14 : decode (mC m_Archive_goesTooFar) 14 = .ok (.getfield 46, 3) := by decide +kernel
theorem d_Archive_goesTooFar_17 : decode (mC m_Archive_goesTooFar) 17 = .ok (.if_icmp .le 5, 3) := by decide +kernel
theorem d_Archive_goesTooFar_20 : decode (mC m_Archive_goesTooFar) 20 = .ok (.iconst 1, 1) := by decide +kernel
theorem d_Archive_goesTooFar_21 : decode (mC m_Archive_goesTooFar) 21 = .ok (.ireturn, 1) := by decide +kernel
theorem d_Archive_goesTooFar_22 : decode (mC m_Archive_goesTooFar) 22 = .ok (.iconst 0, 1) := by decide +kernel
theorem d_Archive_goesTooFar_23 : decode (mC m_Archive_goesTooFar) 23 = .ok (.istore 4, 2) := by decide +kernel
theorem d_Archive_goesTooFar_25 : decode (mC m_Archive_goesTooFar) 25 = .ok (.iload 4, 2) := by decide +kernel
theorem d_Archive_goesTooFar_27 : decode (mC m_Archive_goesTooFar) 27 = .ok (.iload_n 1, 1) := by decide +kernel
theorem d_Archive_goesTooFar_28 : decode (mC m_Archive_goesTooFar) 28 = .ok (.if_icmp .ge 69, 3) := by decide +kernel
theorem d_Archive_goesTooFar_31 : decode (mC m_Archive_goesTooFar) 31 = .ok (.aload_n 0, 1) := by decide +kernel
theorem d_Archive_goesTooFar_32 : decode (mC m_Archive_goesTooFar) 32 = .ok (.aload_n 0, 1) := by decide +kernel
theorem d_Archive_goesTooFar_33 : decode (mC m_Archive_goesTooFar) 33 = .ok (.getfield 26, 3) := by decide +kernel
theorem d_Archive_goesTooFar_36 : decode (mC m_Archive_goesTooFar) 36 = .ok (.iload 4, 2) := by decide +kernel
theorem d_Archive_goesTooFar_38 : decode (mC m_Archive_goesTooFar) 38 = .ok (.aaload, 1) := by decide +kernel
theorem d_Archive_goesTooFar_39 : decode (mC m_Archive_goesTooFar) 39 = .ok (.invokevirtual 167, 3) := by decide +kernel
theorem d_Archive_goesTooFar_42 : decode (mC m_Archive_goesTooFar) 42 = .ok (.istore 5, 2) := by decide +kernel
theorem d_Archive_goesTooFar_44 : decode (mC m_Archive_goesTooFar) 44 = .ok (.iload 5, 2) := by decide +kernel
theorem d_Archive_goesTooFar_46 : decode (mC m_Archive_goesTooFar) 46 = .ok (.iconst (-1), 1) := by decide +kernel
theorem d_Archive_goesTooFar_47 : decode (mC m_Archive_goesTooFar) 47 = .ok (.if_icmp .eq 44, 3) := by decide +kernel
theorem d_Archive_goesTooFar_50 : decode (mC m_Archive_goesTooFar) 50 = .ok (.aload_n 0, 1) := by decide +kernel
theorem d_Archive_goesTooFar_51 : decode (mC m_Archive_goesTooFar) 51 = .ok (.getfield 26, 3) := by decide +kernel
theorem d_Archive_goesTooFar_54 : decode (mC m_Archive_goesTooFar) 54 = .ok (.iload 4, 2) := by decide +kernel
theorem d_Archive_goesTooFar_56 : decode (mC m_Archive_goesTooFar) 56 = .ok (.aaload, 1) := by decide +kernel
theorem d_Archive_goesTooFar_57 : decode (mC m_Archive_goesTooFar) 57 = .ok (.getfield 145, 3) := by decide +kernel
theorem d_Archive_goesTooFar_60 : decode (mC m_Archive_goesTooFar) 60 = .ok (.iload_n 3, 1) := by decide +kernel
theorem d_Archive_goesTooFar_61 : decode (mC m_Archive_goesTooFar) 61 = .ok (.if_icmp .ge 30, 3) := by decide +kernel
theorem d_Archive_goesTooFar_64 : decode (mC m_Archive_goesTooFar) 64 = .ok (.aload_n 0, 1) := by decide +kernel
theorem d_Archive_goesTooFar_65 : decode (mC m_Archive_goesTooFar) 65 = .ok (.getfield 26, 3) := by decide +kernel
theorem d_Archive_goesTooFar_68 : decode (mC m_Archive_goesTooFar) 68 = .ok (.iload_n 1, 1) := by decide +kernel
theorem d_Archive_goesTooFar_69 : decode (mC m_Archive_goesTooFar) 69 = .ok (.aaload, 1) := by decide +kernel
theorem d_Archive_goesTooFar_70 : decode (mC m_Archive_goesTooFar) 70 = .ok (.getfield 145, 3) := by decide +kernel
theorem d_Archive_goesTooFar_73 : decode (mC m_Archive_goesTooFar) 73 = .ok (.aload_n 0, 1) := by decide +kernel
theorem d_Archive_goesTooFar_74 : decode (mC m_Archive_goesTooFar) 74 = .ok (.aload_n 0, 1) := by decide +kernel
theorem d_Archive_goesTooFar_75 : decode (mC m_Archive_goesTooFar) 75 = .ok (.getfield 26, 3) := by decide +kernel
theorem d_Archive_goesTooFar_78 : decode (mC m_Archive_goesTooFar) 78 = .ok (.iload 4, 2) := by decide +kernel
theorem d_Archive_goesTooFar_80 : decode (mC m_Archive_goesTooFar) 80 = .ok (.aaload, 1) := by decide +kernel
theorem d_Archive_goesTooFar_81 : decode (mC m_Archive_goesTooFar) 81 = .ok (.iload 5, 2) := by decide +kernel
theorem d_Archive_goesTooFar_83 : decode (mC m_Archive_goesTooFar) 83 = .ok (.invokevirtual 163, 3) := by decide +kernel
theorem d_Archive_goesTooFar_86 : decode (mC m_Archive_goesTooFar) 86 = .ok (.if_icmp .ge 5, 3) := by decide +kernel
theorem d_Archive_goesTooFar_89 : decode (mC m_Archive_goesTooFar) 89 = .ok (.iconst 1, 1) := by decide +kernel
theorem d_Archive_goesTooFar_90 : decode (mC m_Archive_goesTooFar) 90 = .ok (.ireturn, 1) := by decide +kernel
theorem d_Archive_goesTooFar_91 : decode (mC m_Archive_goesTooFar) 91 = .ok (.iinc 4 1, 3) := by decide +kernel
theorem d_Archive_goesTooFar_94 : decode (mC m_Archive_goesTooFar) 94 = .ok (.goto (-69), 3) := by decide +kernel
theorem d_Archive_goesTooFar_97 : decode (mC m_Archive_goesTooFar) 97 = .ok (.iconst 0, 1) := by decide +kernel
theorem d_Archive_goesTooFar_98 : decode (mC m_Archive_goesTooFar) 98 = .ok (.ireturn, 1) := by decide +kernel
def b_Archive_goesTooFar_91 (F : Nat) (K25 : Nat → Int32 → Int32 → Int32 → zW → Option (Int32 × zW)) (v0 : Nat) (v1 : Int32) (v3 : Int32) (v4 : Int32) (w : zW) : Option (Int32 × zW) := K25 v0 v1 v3 (v4 + (1 : Int32)) w
set_option maxRecDepth 100000 in
set_option maxHeartbeats 4000000 in
theorem b_Archive_goesTooFar_91_ok (G : zG) (F : Nat) (K25 : Nat → Int32 → Int32 → Int32 → zW → Option (Int32 × zW)) (hK25 : ∀ (v0 : Nat) (v1 : Int32) (v3 : Int32) (v4 : Int32) (w : zW) (r : (Int32 × zW)), K25 v0 v1 v3 v4 w = some r → zV G m_Archive_goesTooFar 25 [(0, .ref (z0 G + v0)), (1, .int v1), (3, .int v3), (4, .int v4)] [] w 0 0 (oI r.1) r.2) (v0 : Nat) (v1 : Int32) (v3 : Int32) (v4 : Int32) (w : zW) (r : (Int32 × zW)) (h : b_Archive_goesTooFar_91 F K25 v0 v1 v3 v4 w = some r) : zV G m_Archive_goesTooFar 91 [(0, .ref (z0 G + v0)), (1, .int v1), (3, .int v3), (4, .int v4)] [] w 0 0 (oI r.1) r.2 := by
  unfold b_Archive_goesTooFar_91 at h
  refine V_iinc (i := 4) (v := (v4 + (1 : Int32))) d_Archive_goesTooFar_91 3 rfl (congrArg (fun y => v4 + y) (by decide : Int32.ofInt (1) = (1 : Int32))) (by decide) rfl ?_
  refine V_goto (tgt := 25) d_Archive_goesTooFar_94 (by decide) ?_
  refine V_lv [1, 2, 3, 0] rfl ?_
  exact hK25 v0 v1 v3 (v4 + (1 : Int32)) w _ h
def b_Archive_goesTooFar_25 (F : Nat) (K25 : Nat → Int32 → Int32 → Int32 → zW → Option (Int32 × zW)) (v0 : Nat) (v1 : Int32) (v3 : Int32) (v4 : Int32) (w : zW) : Option (Int32 × zW) := if v1 ≤ v4 then (some ((0 : Int32), w)) else ((getR w v0 6 2).bind fun x33 => (rget w x33 v4).bind fun x38 => (zobj w v0 6).bind fun _ => (f_Archive_contentStart F v0 x38 w).bind fun r39 => if r39.1 = (-1 : Int32) then (b_Archive_goesTooFar_91 F K25 v0 v1 v3 v4 r39.2) else ((getR r39.2 v0 6 2).bind fun x51 => (rget r39.2 x51 v4).bind fun x56 => (getI r39.2 x56 1 6).bind fun x57 => if v3 ≤ x57 then (b_Archive_goesTooFar_91 F K25 v0 v1 v3 v4 r39.2) else ((getR r39.2 v0 6 2).bind fun x65 => (rget r39.2 x65 v1).bind fun x69 => (getI r39.2 x69 1 6).bind fun x70 => (getR r39.2 v0 6 2).bind fun x75 => (rget r39.2 x75 v4).bind fun x80 => (zobj r39.2 v0 6).bind fun _ => (f_Archive_endOf F v0 x80 r39.1 r39.2).bind fun r83 => if r83.1 ≤ x70 then (b_Archive_goesTooFar_91 F K25 v0 v1 v3 v4 r83.2) else (some ((1 : Int32), r83.2)))))
set_option maxRecDepth 100000 in
set_option maxHeartbeats 4000000 in
theorem b_Archive_goesTooFar_25_ok (G : zG) (F : Nat) (K25 : Nat → Int32 → Int32 → Int32 → zW → Option (Int32 × zW)) (hK25 : ∀ (v0 : Nat) (v1 : Int32) (v3 : Int32) (v4 : Int32) (w : zW) (r : (Int32 × zW)), K25 v0 v1 v3 v4 w = some r → zV G m_Archive_goesTooFar 25 [(0, .ref (z0 G + v0)), (1, .int v1), (3, .int v3), (4, .int v4)] [] w 0 0 (oI r.1) r.2) (v0 : Nat) (v1 : Int32) (v3 : Int32) (v4 : Int32) (w : zW) (r : (Int32 × zW)) (h : b_Archive_goesTooFar_25 F K25 v0 v1 v3 v4 w = some r) : zV G m_Archive_goesTooFar 25 [(0, .ref (z0 G + v0)), (1, .int v1), (3, .int v3), (4, .int v4)] [] w 0 0 (oI r.1) r.2 := by
  unfold b_Archive_goesTooFar_25 at h
  refine V_iload (i := 4) d_Archive_goesTooFar_25 3 rfl ?_
  refine V_iload_n (i := 1) d_Archive_goesTooFar_27 rfl 1 rfl ?_
  refine V_icmp_ge (tgt := 97) d_Archive_goesTooFar_28 (by decide) (fun c28 => ?_) (fun c28 => ?_)
  · rw [if_pos c28] at h
    refine V_iconst (v := 0) d_Archive_goesTooFar_97 (by decide) ?_
    obtain rfl := Option.some.inj h
    exact V_zret rfl (Or.inl rfl) (by decide) (by decide) d_Archive_goesTooFar_98
  · rw [if_neg c28] at h
    refine V_aload_n (i := 0) d_Archive_goesTooFar_31 rfl 0 rfl ?_
    refine V_aload_n (i := 0) d_Archive_goesTooFar_32 rfl 0 rfl ?_
    obtain ⟨x33, e33, h⟩ := ob h
    refine V_getR (ci := 6) (k := 2) d_Archive_goesTooFar_33 e33 rfl (by decide) in_Archive k214 ?_
    refine V_iload (i := 4) d_Archive_goesTooFar_36 3 rfl ?_
    obtain ⟨x38, e38, h⟩ := ob h
    refine V_rget d_Archive_goesTooFar_38 e38 ?_
    obtain ⟨_, eo39, h⟩ := ob h
    obtain ⟨r39, e39, h⟩ := ob h
    refine V_call (v := some (.int r39.1)) (st := []) (inv_V (N := m_Archive_contentStart) (As := [.ref (z0 G + x38)]) (ci := 6) d_Archive_goesTooFar_39 eo39 rfl k457 k441 k442 kc_Archive_contentStart y_Archive_contentStart) ⟨Or.inl kc_Archive_contentStart, k6, by decide, by decide⟩ (Nat.le_of_ble_eq_true rfl) (by decide) (by decide) (c_Archive_contentStart G F v0 x38 w r39 e39) ?_
    refine V_istore (i := 5) d_Archive_goesTooFar_42 (by decide) rfl ?_
    refine V_iload (i := 5) d_Archive_goesTooFar_44 0 rfl ?_
    refine V_iconst (v := -1) d_Archive_goesTooFar_46 (by decide) ?_
    refine V_icmp_eq (tgt := 91) d_Archive_goesTooFar_47 (by decide) (fun c47 => ?_) (fun c47 => ?_)
    · rw [if_pos c47] at h
      refine V_lv [1, 2, 3, 4] rfl ?_
      exact b_Archive_goesTooFar_91_ok G F K25 hK25 v0 v1 v3 v4 r39.2 _ h
    · rw [if_neg c47] at h
      refine V_aload_n (i := 0) d_Archive_goesTooFar_50 rfl 1 rfl ?_
      obtain ⟨x51, e51, h⟩ := ob h
      refine V_getR (ci := 6) (k := 2) d_Archive_goesTooFar_51 e51 rfl (by decide) in_Archive k214 ?_
      refine V_iload (i := 4) d_Archive_goesTooFar_54 4 rfl ?_
      obtain ⟨x56, e56, h⟩ := ob h
      refine V_rget d_Archive_goesTooFar_56 e56 ?_
      obtain ⟨x57, e57, h⟩ := ob h
      refine V_getI (ci := 1) (k := 6) d_Archive_goesTooFar_57 e57 rfl (by decide) in_Entry k187 ?_
      refine V_iload_n (i := 3) d_Archive_goesTooFar_60 rfl 3 rfl ?_
      refine V_icmp_ge (tgt := 91) d_Archive_goesTooFar_61 (by decide) (fun c61 => ?_) (fun c61 => ?_)
      · rw [if_pos c61] at h
        refine V_lv [1, 2, 3, 4] rfl ?_
        exact b_Archive_goesTooFar_91_ok G F K25 hK25 v0 v1 v3 v4 r39.2 _ h
      · rw [if_neg c61] at h
        refine V_aload_n (i := 0) d_Archive_goesTooFar_64 rfl 1 rfl ?_
        obtain ⟨x65, e65, h⟩ := ob h
        refine V_getR (ci := 6) (k := 2) d_Archive_goesTooFar_65 e65 rfl (by decide) in_Archive k214 ?_
        refine V_iload_n (i := 1) d_Archive_goesTooFar_68 rfl 2 rfl ?_
        obtain ⟨x69, e69, h⟩ := ob h
        refine V_rget d_Archive_goesTooFar_69 e69 ?_
        obtain ⟨x70, e70, h⟩ := ob h
        refine V_getI (ci := 1) (k := 6) d_Archive_goesTooFar_70 e70 rfl (by decide) in_Entry k187 ?_
        refine V_aload_n (i := 0) d_Archive_goesTooFar_73 rfl 1 rfl ?_
        refine V_aload_n (i := 0) d_Archive_goesTooFar_74 rfl 1 rfl ?_
        obtain ⟨x75, e75, h⟩ := ob h
        refine V_getR (ci := 6) (k := 2) d_Archive_goesTooFar_75 e75 rfl (by decide) in_Archive k214 ?_
        refine V_iload (i := 4) d_Archive_goesTooFar_78 4 rfl ?_
        obtain ⟨x80, e80, h⟩ := ob h
        refine V_rget d_Archive_goesTooFar_80 e80 ?_
        refine V_iload (i := 5) d_Archive_goesTooFar_81 0 rfl ?_
        obtain ⟨_, eo83, h⟩ := ob h
        obtain ⟨r83, e83, h⟩ := ob h
        refine V_call (v := some (.int r83.1)) (st := [.int x70]) (inv_V (N := m_Archive_endOf) (As := [.ref (z0 G + x80), .int r39.1]) (ci := 6) d_Archive_goesTooFar_83 eo83 rfl k453 k455 sel_Archive_endOf kc_Archive_endOf y_Archive_endOf) ⟨Or.inl kc_Archive_endOf, k6, by decide, by decide⟩ (Nat.le_of_ble_eq_true rfl) (by decide) (by decide) (c_Archive_endOf G F v0 x80 r39.1 r39.2 r83 e83) ?_
        refine V_icmp_ge (tgt := 91) d_Archive_goesTooFar_86 (by decide) (fun c86 => ?_) (fun c86 => ?_)
        · rw [if_pos c86] at h
          refine V_lv [1, 2, 3, 4] rfl ?_
          exact b_Archive_goesTooFar_91_ok G F K25 hK25 v0 v1 v3 v4 r83.2 _ h
        · rw [if_neg c86] at h
          refine V_iconst (v := 1) d_Archive_goesTooFar_89 (by decide) ?_
          obtain rfl := Option.some.inj h
          exact V_zret rfl (Or.inr rfl) (by decide) (by decide) d_Archive_goesTooFar_90
def l_Archive_goesTooFar_25 (F : Nat) : Nat → Nat → Int32 → Int32 → Int32 → zW → Option (Int32 × zW)
  | 0 => fun _ _ _ _ _ => none
  | n + 1 => b_Archive_goesTooFar_25 F (l_Archive_goesTooFar_25 F n)
theorem l_Archive_goesTooFar_25_ok (G : zG) (F : Nat) (n : Nat) :  ∀ (v0 : Nat) (v1 : Int32) (v3 : Int32) (v4 : Int32) (w : zW) (r : (Int32 × zW)), l_Archive_goesTooFar_25 F n v0 v1 v3 v4 w = some r → zV G m_Archive_goesTooFar 25 [(0, .ref (z0 G + v0)), (1, .int v1), (3, .int v3), (4, .int v4)] [] w 0 0 (oI r.1) r.2 := by
  induction n with
  | zero => intro v0 v1 v3 v4 w r h; exact nomatch (show (none : Option (Int32 × zW)) = some r from h)
  | succ n ih => intro v0 v1 v3 v4 w r h; exact b_Archive_goesTooFar_25_ok G F (l_Archive_goesTooFar_25 F n) ih v0 v1 v3 v4 w r h
def b_Archive_goesTooFar_0 (F : Nat) (v0 : Nat) (v1 : Int32) (v2 : Int32) (w : zW) : Option (Int32 × zW) := (getR w v0 6 2).bind fun x2 => (rget w x2 v1).bind fun x6 => (zobj w v0 6).bind fun _ => (f_Archive_endOf F v0 x6 v2 w).bind fun r8 => (getI r8.2 v0 6 4).bind fun x14 => if r8.1 ≤ x14 then (l_Archive_goesTooFar_25 F F v0 v1 r8.1 (0 : Int32) r8.2) else (some ((1 : Int32), r8.2))
set_option maxRecDepth 100000 in
set_option maxHeartbeats 4000000 in
theorem b_Archive_goesTooFar_0_ok (G : zG) (F : Nat) (v0 : Nat) (v1 : Int32) (v2 : Int32) (w : zW) (r : (Int32 × zW)) (h : b_Archive_goesTooFar_0 F v0 v1 v2 w = some r) : zV G m_Archive_goesTooFar 0 [(0, .ref (z0 G + v0)), (1, .int v1), (2, .int v2)] [] w 0 0 (oI r.1) r.2 := by
  unfold b_Archive_goesTooFar_0 at h
  refine V_aload_n (i := 0) d_Archive_goesTooFar_0 rfl 0 rfl ?_
  refine V_aload_n (i := 0) d_Archive_goesTooFar_1 rfl 0 rfl ?_
  obtain ⟨x2, e2, h⟩ := ob h
  refine V_getR (ci := 6) (k := 2) d_Archive_goesTooFar_2 e2 rfl (by decide) in_Archive k214 ?_
  refine V_iload_n (i := 1) d_Archive_goesTooFar_5 rfl 1 rfl ?_
  obtain ⟨x6, e6, h⟩ := ob h
  refine V_rget d_Archive_goesTooFar_6 e6 ?_
  refine V_iload_n (i := 2) d_Archive_goesTooFar_7 rfl 2 rfl ?_
  obtain ⟨_, eo8, h⟩ := ob h
  obtain ⟨r8, e8, h⟩ := ob h
  refine V_call (v := some (.int r8.1)) (st := []) (inv_V (N := m_Archive_endOf) (As := [.ref (z0 G + x6), .int v2]) (ci := 6) d_Archive_goesTooFar_8 eo8 rfl k453 k455 sel_Archive_endOf kc_Archive_endOf y_Archive_endOf) ⟨Or.inl kc_Archive_endOf, k6, by decide, by decide⟩ (Nat.le_of_ble_eq_true rfl) (by decide) (by decide) (c_Archive_endOf G F v0 x6 v2 w r8 e8) ?_
  refine V_istore_n (i := 3) d_Archive_goesTooFar_11 rfl (by decide) rfl ?_
  refine V_iload_n (i := 3) d_Archive_goesTooFar_12 rfl 0 rfl ?_
  refine V_aload_n (i := 0) d_Archive_goesTooFar_13 rfl 1 rfl ?_
  obtain ⟨x14, e14, h⟩ := ob h
  refine V_getI (ci := 6) (k := 4) d_Archive_goesTooFar_14 e14 rfl (by decide) in_Archive k218 ?_
  refine V_icmp_le (tgt := 22) d_Archive_goesTooFar_17 (by decide) (fun c17 => ?_) (fun c17 => ?_)
  · rw [if_pos c17] at h
    refine V_iconst (v := 0) d_Archive_goesTooFar_22 (by decide) ?_
    refine V_istore (i := 4) d_Archive_goesTooFar_23 (by decide) rfl ?_
    refine V_lv [2, 3, 1, 0] rfl ?_
    exact l_Archive_goesTooFar_25_ok G F F v0 v1 r8.1 (0 : Int32) r8.2 _ h
  · rw [if_neg c17] at h
    refine V_iconst (v := 1) d_Archive_goesTooFar_20 (by decide) ?_
    obtain rfl := Option.some.inj h
    exact V_zret rfl (Or.inr rfl) (by decide) (by decide) d_Archive_goesTooFar_21
def f_Archive_goesTooFar (F : Nat) (v0 : Nat) (v1 : Int32) (v2 : Int32) (w : zW) : Option (Int32 × zW) := b_Archive_goesTooFar_0 F v0 v1 v2 w
theorem c_Archive_goesTooFar (G : zG) (F : Nat) (v0 : Nat) (v1 : Int32) (v2 : Int32) (w : zW) (r : (Int32 × zW)) (h : f_Archive_goesTooFar F v0 v1 v2 w = some r) : zCT G m_Archive_goesTooFar [.ref (z0 G + v0), .int v1, .int v2] w (oI r.1) r.2 := zCT.ofV (by decide +kernel) (Or.inl ⟨kc_Archive_goesTooFar, rfl⟩) (Nat.le_of_ble_eq_true rfl) (b_Archive_goesTooFar_0_ok G F v0 v1 v2 w r h)

/-! ZipArray$Archive.saidBehind(LZipArray$Entry;I)Z -/
def m_Archive_saidBehind : zM := (⟨R_Archive, "saidBehind", "(LZipArray$Entry;I)Z"⟩, prog_2_method_16_code, 3, (some .boolean), [], { frames := 1, cells := 0, slots := 0, locals := 25 })
theorem k462 : Cond.constantLong R_Archive 171 134695760 ∈ zTb := tb_at 462 (by decide +kernel) rfl
theorem kc_Archive_saidBehind : Cond.code (mY m_Archive_saidBehind) (mC m_Archive_saidBehind) (mL m_Archive_saidBehind) (mT m_Archive_saidBehind) ∈ zTb := tb_at 461 (by decide +kernel) rfl
theorem y_Archive_saidBehind : (mY m_Archive_saidBehind).cls ≠ "java/lang/invoke/MethodHandle" ∧ (mY m_Archive_saidBehind).cls ≠ "java/lang/invoke/VarHandle" ∧ (parseMethodDescriptor (mY m_Archive_saidBehind).desc).map (fun d => d.parameters.length) = some 2 := by decide +kernel
theorem d_Archive_saidBehind_0 : decode (mC m_Archive_saidBehind) 0 = .ok (.aload_n 1, 1) := by decide +kernel
theorem d_Archive_saidBehind_1 : decode (mC m_Archive_saidBehind) 1 = .ok (.getfield 108, 3) := by decide +kernel
theorem d_Archive_saidBehind_4 : decode (mC m_Archive_saidBehind) 4 = .ok (.bipush 8, 2) := by decide +kernel
theorem d_Archive_saidBehind_6 : decode (mC m_Archive_saidBehind) 6 = .ok (.if_icmp .ne 80, 3) := by decide +kernel
theorem d_Archive_saidBehind_9 : decode (mC m_Archive_saidBehind) 9 = .ok (.aload_n 0, 1) := by decide +kernel
theorem d_Archive_saidBehind_10 : decode (mC m_Archive_saidBehind) 10 = .ok (.getfield 9, 3) := by decide +kernel
theorem d_Archive_saidBehind_13 : decode (mC m_Archive_saidBehind) 13 = .ok (.iload_n 2, 1) := by decide +kernel
theorem d_Archive_saidBehind_14 : decode (mC m_Archive_saidBehind) 14 = .ok (.iconst 4, 1) := by decide +kernel
theorem d_Archive_saidBehind_15 : decode (mC m_Archive_saidBehind) 15 = .ok (.invokevirtual 75, 3) := by decide +kernel
theorem d_Archive_saidBehind_18 : decode (mC m_Archive_saidBehind) 18 = .ok (.ldc2_w 171, 3) := by decide +kernel
theorem d_Archive_saidBehind_21 : decode (mC m_Archive_saidBehind) 21 = .ok (.lcmp, 1) := by decide +kernel
theorem d_Archive_saidBehind_22 : decode (mC m_Archive_saidBehind) 22 = .ok (.ifCond .ne 68, 3) := by decide +kernel
theorem d_Archive_saidBehind_25 : decode (mC m_Archive_saidBehind) 25 = .ok (.aload_n 0, 1) := by decide +kernel
theorem d_Archive_saidBehind_26 : decode (mC m_Archive_saidBehind) 26 = .ok (.getfield 9, 3) := by decide +kernel
theorem d_Archive_saidBehind_29 : decode (mC m_Archive_saidBehind) 29 = .ok (.iload_n 2, 1) := by decide +kernel
theorem d_Archive_saidBehind_30 : decode (mC m_Archive_saidBehind) 30 = .ok (.iconst 4, 1) := by decide +kernel
theorem d_Archive_saidBehind_31 : decode (mC m_Archive_saidBehind) 31 = .ok (.iadd, 1) := by decide +kernel
theorem d_Archive_saidBehind_32 : decode (mC m_Archive_saidBehind) 32 = .ok (.iconst 4, 1) := by decide +kernel
theorem d_Archive_saidBehind_33 : decode (mC m_Archive_saidBehind) 33 = .ok (.invokevirtual 75, 3) := by decide +kernel
theorem d_Archive_saidBehind_36 : decode (mC m_Archive_saidBehind) 36 = .ok (.l2i, 1) := by decide +kernel
theorem d_Archive_saidBehind_37 : decode (mC m_Archive_saidBehind) 37 = .ok (.aload_n 1, 1) := by decide +kernel
theorem d_Archive_saidBehind_38 : decode (mC m_Archive_saidBehind) 38 = .ok (.getfield 114, 3) := by decide +kernel
theorem d_Archive_saidBehind_41 : decode (mC m_Archive_saidBehind) 41 = .ok (.if_icmp .ne 49, 3) := by decide +kernel
theorem d_Archive_saidBehind_44 : decode (mC m_Archive_saidBehind) 44 = .ok (.aload_n 0, 1) := by decide +kernel
theorem d_Archive_saidBehind_45 : decode (mC m_Archive_saidBehind) 45 = .ok (.getfield 9, 3) := by decide +kernel
theorem d_Archive_saidBehind_48 : decode (mC m_Archive_saidBehind) 48 = .ok (.iload_n 2, 1) := by decide +kernel
theorem d_Archive_saidBehind_49 : decode (mC m_Archive_saidBehind) 49 = .ok (.bipush 8, 2) := by decide +kernel
theorem d_Archive_saidBehind_51 : decode (mC m_Archive_saidBehind) 51 = .ok (.iadd, 1) := by decide +kernel
theorem d_Archive_saidBehind_52 : decode (mC m_Archive_saidBehind) 52 = .ok (.iconst 4, 1) := by decide +kernel
theorem d_Archive_saidBehind_53 : decode (mC m_Archive_saidBehind) 53 = .ok (.invokevirtual 75, 3) := by decide +kernel
theorem d_Archive_saidBehind_56 : decode (mC m_Archive_saidBehind) 56 = .ok (.aload_n 1, 1) := by decide +kernel
theorem d_Archive_saidBehind_57 : decode (mC m_Archive_saidBehind) 57 = .ok (.getfield 142, 3) := by decide +kernel
theorem d_Archive_saidBehind_60 : decode (mC m_Archive_saidBehind) 60 = .ok (.i2l, 1) := by decide +kernel
theorem d_Archive_saidBehind_61 : decode (mC m_Archive_saidBehind) 61 = .ok (.lcmp, 1) := by decide +kernel
theorem d_Archive_saidBehind_62 : decode (mC m_Archive_saidBehind) 62 = .ok (.ifCond .ne 28, 3) := by decide +kernel
theorem d_Archive_saidBehind_65 : decode (mC m_Archive_saidBehind) 65 = .ok (.aload_n 0, 1) := by decide +kernel
theorem d_Archive_saidBehind_66 : decode (mC m_Archive_saidBehind) 66 = .ok (.getfield 9, 3) := by decide +kernel
theorem d_Archive_saidBehind_69 : decode (mC m_Archive_saidBehind) 69 = .ok (.iload_n 2, 1) := by decide +kernel
theorem d_Archive_saidBehind_70 : decode (mC m_Archive_saidBehind) 70 = .ok (.bipush 12, 2) := by decide +kernel
theorem d_Archive_saidBehind_72 : decode (mC m_Archive_saidBehind) 72 = .ok (.iadd, 1) := by decide +kernel
theorem d_Archive_saidBehind_73 : decode (mC m_Archive_saidBehind) 73 = .ok (.iconst 4, 1) := by decide +kernel
theorem d_Archive_saidBehind_74 : decode (mC m_Archive_saidBehind) 74 = .ok (.invokevirtual 75, 3) := by decide +kernel
theorem d_Archive_saidBehind_77 : decode (mC m_Archive_saidBehind) 77 = .ok (.aload_n 1, 1) := by decide +kernel
theorem d_Archive_saidBehind_78 : decode (mC m_Archive_saidBehind) 78 = .ok (.getfield 141, 3) := by decide +kernel
theorem d_Archive_saidBehind_81 : decode (mC m_Archive_saidBehind) 81 = .ok (.i2l, 1) := by decide +kernel
theorem d_Archive_saidBehind_82 : decode (mC m_Archive_saidBehind) 82 = .ok (.lcmp, 1) := by decide +kernel
theorem d_Archive_saidBehind_83 : decode (mC m_Archive_saidBehind) 83 = .ok (.ifCond .ne 7, 3) := by decide +kernel
theorem d_Archive_saidBehind_86 : decode (mC m_Archive_saidBehind) 86 = .ok (.iconst 1, 1) := by decide +kernel
theorem d_Archive_saidBehind_87 : decode (mC m_Archive_saidBehind) 87 = .ok (.goto 4, 3) := by decide +kernel
theorem d_Archive_saidBehind_90 : decode (mC m_Archive_saidBehind) 90 = .ok (.iconst 0, 1) := by decide +kernel
theorem d_Archive_saidBehind_91 : decode (mC m_Archive_saidBehind) 91 = .ok (.ireturn, 1) := by decide +kernel
def b_Archive_saidBehind_90 (F : Nat) (w : zW) : Option (Int32 × zW) := some ((0 : Int32), w)
set_option maxRecDepth 100000 in
set_option maxHeartbeats 4000000 in
theorem b_Archive_saidBehind_90_ok (G : zG) (F : Nat) (w : zW) (r : (Int32 × zW)) (h : b_Archive_saidBehind_90 F w = some r) : zV G m_Archive_saidBehind 90 [] [] w 0 0 (oI r.1) r.2 := by
  unfold b_Archive_saidBehind_90 at h
  refine V_iconst (v := 0) d_Archive_saidBehind_90 (by decide) ?_
  obtain rfl := Option.some.inj h
  exact V_zret rfl (Or.inl rfl) (by decide) (by decide) d_Archive_saidBehind_91
def b_Archive_saidBehind_86 (F : Nat) (w : zW) : Option (Int32 × zW) := some ((1 : Int32), w)
set_option maxRecDepth 100000 in
set_option maxHeartbeats 4000000 in
theorem b_Archive_saidBehind_86_ok (G : zG) (F : Nat) (w : zW) (r : (Int32 × zW)) (h : b_Archive_saidBehind_86 F w = some r) : zV G m_Archive_saidBehind 86 [] [] w 0 0 (oI r.1) r.2 := by
  unfold b_Archive_saidBehind_86 at h
  refine V_iconst (v := 1) d_Archive_saidBehind_86 (by decide) ?_
  refine V_goto (tgt := 91) d_Archive_saidBehind_87 (by decide) ?_
  obtain rfl := Option.some.inj h
  exact V_zret rfl (Or.inr rfl) (by decide) (by decide) d_Archive_saidBehind_91
def b_Archive_saidBehind_0 (F : Nat) (v0 : Nat) (v1 : Nat) (v2 : Int32) (w : zW) : Option (Int32 × zW) := (getI w v1 1 1).bind fun x1 => if x1 = (8 : Int32) then ((getR w v0 6 0).bind fun x10 => (zobj w x10 0).bind fun _ => (f_Row_number F x10 v2 (4 : Int32) w).bind fun r15 => if (lg_cmp r15.1 (134695760 : Int64)) = 0 then ((getR r15.2 v0 6 0).bind fun x26 => (zobj r15.2 x26 0).bind fun _ => (f_Row_number F x26 (v2 + (4 : Int32)) (4 : Int32) r15.2).bind fun r33 => (getI r33.2 v1 1 3).bind fun x38 => if r33.1.toInt32 = x38 then ((getR r33.2 v0 6 0).bind fun x45 => (zobj r33.2 x45 0).bind fun _ => (f_Row_number F x45 (v2 + (8 : Int32)) (4 : Int32) r33.2).bind fun r53 => (getI r53.2 v1 1 4).bind fun x57 => if (lg_cmp r53.1 x57.toInt64) = 0 then ((getR r53.2 v0 6 0).bind fun x66 => (zobj r53.2 x66 0).bind fun _ => (f_Row_number F x66 (v2 + (12 : Int32)) (4 : Int32) r53.2).bind fun r74 => (getI r74.2 v1 1 5).bind fun x78 => if (lg_cmp r74.1 x78.toInt64) = 0 then (b_Archive_saidBehind_86 F r74.2) else (b_Archive_saidBehind_90 F r74.2)) else (b_Archive_saidBehind_90 F r53.2)) else (b_Archive_saidBehind_90 F r33.2)) else (b_Archive_saidBehind_90 F r15.2)) else (b_Archive_saidBehind_86 F w)
set_option maxRecDepth 100000 in
set_option maxHeartbeats 4000000 in
theorem b_Archive_saidBehind_0_ok (G : zG) (F : Nat) (v0 : Nat) (v1 : Nat) (v2 : Int32) (w : zW) (r : (Int32 × zW)) (h : b_Archive_saidBehind_0 F v0 v1 v2 w = some r) : zV G m_Archive_saidBehind 0 [(0, .ref (z0 G + v0)), (1, .ref (z0 G + v1)), (2, .int v2)] [] w 0 0 (oI r.1) r.2 := by
  unfold b_Archive_saidBehind_0 at h
  refine V_aload_n (i := 1) d_Archive_saidBehind_0 rfl 1 rfl ?_
  obtain ⟨x1, e1, h⟩ := ob h
  refine V_getI (ci := 1) (k := 1) d_Archive_saidBehind_1 e1 rfl (by decide) in_Entry k172 ?_
  refine V_bipush (v := 8) d_Archive_saidBehind_4 (by decide) ?_
  refine V_icmp_ne (tgt := 86) d_Archive_saidBehind_6 (by decide) (fun c6 => ?_) (fun c6 => ?_)
  · rw [if_neg c6] at h
    refine V_lv [] rfl ?_
    exact b_Archive_saidBehind_86_ok G F w _ h
  · rw [if_pos c6] at h
    refine V_aload_n (i := 0) d_Archive_saidBehind_9 rfl 0 rfl ?_
    obtain ⟨x10, e10, h⟩ := ob h
    refine V_getR (ci := 6) (k := 0) d_Archive_saidBehind_10 e10 rfl (by decide) in_Archive k212 ?_
    refine V_iload_n (i := 2) d_Archive_saidBehind_13 rfl 2 rfl ?_
    refine V_iconst (v := 4) d_Archive_saidBehind_14 (by decide) ?_
    obtain ⟨_, eo15, h⟩ := ob h
    obtain ⟨r15, e15, h⟩ := ob h
    refine V_call (v := some (.long r15.1)) (st := []) (inv_V (N := m_Row_number) (As := [.int v2, .int (4 : Int32)]) (ci := 0) d_Archive_saidBehind_15 eo15 rfl k368 k369 k370 kc_Row_number y_Row_number) ⟨Or.inl kc_Row_number, k2, by decide, by decide⟩ (Nat.le_of_ble_eq_true rfl) (by decide) (by decide) (c_Row_number G F x10 v2 (4 : Int32) w r15 e15) ?_
    refine V_ldc2 (v := 134695760) d_Archive_saidBehind_18 k462 ?_
    refine V_lcmp d_Archive_saidBehind_21 ?_
    refine V_if_ne (tgt := 90) d_Archive_saidBehind_22 (by decide) (fun c22 => ?_) (fun c22 => ?_)
    · rw [if_neg c22] at h
      refine V_lv [] rfl ?_
      exact b_Archive_saidBehind_90_ok G F r15.2 _ h
    · rw [if_pos c22] at h
      refine V_aload_n (i := 0) d_Archive_saidBehind_25 rfl 0 rfl ?_
      obtain ⟨x26, e26, h⟩ := ob h
      refine V_getR (ci := 6) (k := 0) d_Archive_saidBehind_26 e26 rfl (by decide) in_Archive k212 ?_
      refine V_iload_n (i := 2) d_Archive_saidBehind_29 rfl 2 rfl ?_
      refine V_iconst (v := 4) d_Archive_saidBehind_30 (by decide) ?_
      refine V_iadd d_Archive_saidBehind_31 ?_
      refine V_iconst (v := 4) d_Archive_saidBehind_32 (by decide) ?_
      obtain ⟨_, eo33, h⟩ := ob h
      obtain ⟨r33, e33, h⟩ := ob h
      refine V_call (v := some (.long r33.1)) (st := []) (inv_V (N := m_Row_number) (As := [.int (v2 + (4 : Int32)), .int (4 : Int32)]) (ci := 0) d_Archive_saidBehind_33 eo33 rfl k368 k369 k370 kc_Row_number y_Row_number) ⟨Or.inl kc_Row_number, k2, by decide, by decide⟩ (Nat.le_of_ble_eq_true rfl) (by decide) (by decide) (c_Row_number G F x26 (v2 + (4 : Int32)) (4 : Int32) r15.2 r33 e33) ?_
      refine V_l2i d_Archive_saidBehind_36 ?_
      refine V_aload_n (i := 1) d_Archive_saidBehind_37 rfl 1 rfl ?_
      obtain ⟨x38, e38, h⟩ := ob h
      refine V_getI (ci := 1) (k := 3) d_Archive_saidBehind_38 e38 rfl (by decide) in_Entry k178 ?_
      refine V_icmp_ne (tgt := 90) d_Archive_saidBehind_41 (by decide) (fun c41 => ?_) (fun c41 => ?_)
      · rw [if_neg c41] at h
        refine V_lv [] rfl ?_
        exact b_Archive_saidBehind_90_ok G F r33.2 _ h
      · rw [if_pos c41] at h
        refine V_aload_n (i := 0) d_Archive_saidBehind_44 rfl 0 rfl ?_
        obtain ⟨x45, e45, h⟩ := ob h
        refine V_getR (ci := 6) (k := 0) d_Archive_saidBehind_45 e45 rfl (by decide) in_Archive k212 ?_
        refine V_iload_n (i := 2) d_Archive_saidBehind_48 rfl 2 rfl ?_
        refine V_bipush (v := 8) d_Archive_saidBehind_49 (by decide) ?_
        refine V_iadd d_Archive_saidBehind_51 ?_
        refine V_iconst (v := 4) d_Archive_saidBehind_52 (by decide) ?_
        obtain ⟨_, eo53, h⟩ := ob h
        obtain ⟨r53, e53, h⟩ := ob h
        refine V_call (v := some (.long r53.1)) (st := []) (inv_V (N := m_Row_number) (As := [.int (v2 + (8 : Int32)), .int (4 : Int32)]) (ci := 0) d_Archive_saidBehind_53 eo53 rfl k368 k369 k370 kc_Row_number y_Row_number) ⟨Or.inl kc_Row_number, k2, by decide, by decide⟩ (Nat.le_of_ble_eq_true rfl) (by decide) (by decide) (c_Row_number G F x45 (v2 + (8 : Int32)) (4 : Int32) r33.2 r53 e53) ?_
        refine V_aload_n (i := 1) d_Archive_saidBehind_56 rfl 1 rfl ?_
        obtain ⟨x57, e57, h⟩ := ob h
        refine V_getI (ci := 1) (k := 4) d_Archive_saidBehind_57 e57 rfl (by decide) in_Entry k181 ?_
        refine V_i2l d_Archive_saidBehind_60 ?_
        refine V_lcmp d_Archive_saidBehind_61 ?_
        refine V_if_ne (tgt := 90) d_Archive_saidBehind_62 (by decide) (fun c62 => ?_) (fun c62 => ?_)
        · rw [if_neg c62] at h
          refine V_lv [] rfl ?_
          exact b_Archive_saidBehind_90_ok G F r53.2 _ h
        · rw [if_pos c62] at h
          refine V_aload_n (i := 0) d_Archive_saidBehind_65 rfl 0 rfl ?_
          obtain ⟨x66, e66, h⟩ := ob h
          refine V_getR (ci := 6) (k := 0) d_Archive_saidBehind_66 e66 rfl (by decide) in_Archive k212 ?_
          refine V_iload_n (i := 2) d_Archive_saidBehind_69 rfl 2 rfl ?_
          refine V_bipush (v := 12) d_Archive_saidBehind_70 (by decide) ?_
          refine V_iadd d_Archive_saidBehind_72 ?_
          refine V_iconst (v := 4) d_Archive_saidBehind_73 (by decide) ?_
          obtain ⟨_, eo74, h⟩ := ob h
          obtain ⟨r74, e74, h⟩ := ob h
          refine V_call (v := some (.long r74.1)) (st := []) (inv_V (N := m_Row_number) (As := [.int (v2 + (12 : Int32)), .int (4 : Int32)]) (ci := 0) d_Archive_saidBehind_74 eo74 rfl k368 k369 k370 kc_Row_number y_Row_number) ⟨Or.inl kc_Row_number, k2, by decide, by decide⟩ (Nat.le_of_ble_eq_true rfl) (by decide) (by decide) (c_Row_number G F x66 (v2 + (12 : Int32)) (4 : Int32) r53.2 r74 e74) ?_
          refine V_aload_n (i := 1) d_Archive_saidBehind_77 rfl 1 rfl ?_
          obtain ⟨x78, e78, h⟩ := ob h
          refine V_getI (ci := 1) (k := 5) d_Archive_saidBehind_78 e78 rfl (by decide) in_Entry k184 ?_
          refine V_i2l d_Archive_saidBehind_81 ?_
          refine V_lcmp d_Archive_saidBehind_82 ?_
          refine V_if_ne (tgt := 90) d_Archive_saidBehind_83 (by decide) (fun c83 => ?_) (fun c83 => ?_)
          · rw [if_neg c83] at h
            refine V_lv [] rfl ?_
            exact b_Archive_saidBehind_90_ok G F r74.2 _ h
          · rw [if_pos c83] at h
            refine V_lv [] rfl ?_
            exact b_Archive_saidBehind_86_ok G F r74.2 _ h
def f_Archive_saidBehind (F : Nat) (v0 : Nat) (v1 : Nat) (v2 : Int32) (w : zW) : Option (Int32 × zW) := b_Archive_saidBehind_0 F v0 v1 v2 w
theorem c_Archive_saidBehind (G : zG) (F : Nat) (v0 : Nat) (v1 : Nat) (v2 : Int32) (w : zW) (r : (Int32 × zW)) (h : f_Archive_saidBehind F v0 v1 v2 w = some r) : zCT G m_Archive_saidBehind [.ref (z0 G + v0), .ref (z0 G + v1), .int v2] w (oI r.1) r.2 := zCT.ofV (by decide +kernel) (Or.inl ⟨kc_Archive_saidBehind, rfl⟩) (Nat.le_of_ble_eq_true rfl) (b_Archive_saidBehind_0_ok G F v0 v1 v2 w r h)

/-! ZipArray.givesOut(LZipArray$Entry;I)Z -/
def m_Zip_givesOut : zM := (⟨R_Zip, "givesOut", "(LZipArray$Entry;I)Z"⟩, prog_1_method_29_code, 3, (some .boolean), [], { frames := 4, cells := 0, slots := 0, locals := 106 })
theorem kc_Zip_givesOut : Cond.code (mY m_Zip_givesOut) (mC m_Zip_givesOut) (mL m_Zip_givesOut) (mT m_Zip_givesOut) ∈ zTb := tb_at 466 (by decide +kernel) rfl
theorem y_Zip_givesOut : (mY m_Zip_givesOut).cls ≠ "java/lang/invoke/MethodHandle" ∧ (mY m_Zip_givesOut).cls ≠ "java/lang/invoke/VarHandle" ∧ (parseMethodDescriptor (mY m_Zip_givesOut).desc).map (fun d => d.parameters.length) = some 2 := by decide +kernel
theorem sel_Zip_givesOut : Cond.selects R_Zip (mY m_Zip_givesOut) (mY m_Zip_givesOut) ∈ zTb := sel_at (y := mY m_Zip_givesOut) (n := 9) 12 (by decide +kernel)
theorem d_Zip_givesOut_0 : decode (mC m_Zip_givesOut) 0 = .ok (.aload_n 1, 1) := by decide +kernel
theorem d_Zip_givesOut_1 : decode (mC m_Zip_givesOut) 1 = .ok (.getfield 186, 3) := by decide +kernel
theorem d_Zip_givesOut_4 : decode (mC m_Zip_givesOut) 4 = .ok (.bipush 8, 2) := by decide +kernel
theorem d_Zip_givesOut_6 : decode (mC m_Zip_givesOut) 6 = .ok (.if_icmp .ne 22, 3) := by decide +kernel
theorem d_Zip_givesOut_9 : decode (mC m_Zip_givesOut) 9 = .ok (.aload_n 0, 1) := by decide +kernel
theorem d_Zip_givesOut_10 : decode (mC m_Zip_givesOut) 10 = .ok (.getfield 39, 3) := by decide +kernel
theorem d_Zip_givesOut_13 : decode (mC m_Zip_givesOut) 13 = .ok (.aload_n 0, 1) := by decide +kernel
theorem d_Zip_givesOut_14 : decode (mC m_Zip_givesOut) 14 = .ok (.getfield 18, 3) := by decide +kernel
theorem d_Zip_givesOut_17 : decode (mC m_Zip_givesOut) 17 = .ok (.iload_n 2, 1) := by decide +kernel
theorem d_Zip_givesOut_18 : decode (mC m_Zip_givesOut) 18 = .ok (.iload_n 2, 1) := by decide +kernel
theorem d_Zip_givesOut_19 : decode (mC m_Zip_givesOut) 19 = .ok (.aload_n 1, 1) := by decide +kernel
theorem d_Zip_givesOut_20 : decode (mC m_Zip_givesOut) 20 = .ok (.getfield 191, 3) := by decide +kernel
theorem d_Zip_givesOut_23 : decode (mC m_Zip_givesOut) 23 = .ok (.iadd, 1) := by decide +kernel
theorem d_Zip_givesOut_24 : decode (mC m_Zip_givesOut) 24 = .ok (.invokevirtual 111, 3) := by decide +kernel
theorem d_Zip_givesOut_27 : decode (mC m_Zip_givesOut) 27 = .ok (.ireturn, 1) := by decide +kernel
theorem d_Zip_givesOut_28 : decode (mC m_Zip_givesOut) 28 = .ok (.aload_n 0, 1) := by decide +kernel
theorem d_Zip_givesOut_29 : decode (mC m_Zip_givesOut) 29 = .ok (.getfield 24, 3) := by decide +kernel
theorem d_Zip_givesOut_32 : decode (mC m_Zip_givesOut) 32 = .ok (.invokevirtual 68, 3) := by decide +kernel
theorem d_Zip_givesOut_35 : decode (mC m_Zip_givesOut) 35 = .ok (.aload_n 1, 1) := by decide +kernel
theorem d_Zip_givesOut_36 : decode (mC m_Zip_givesOut) 36 = .ok (.getfield 191, 3) := by decide +kernel
theorem d_Zip_givesOut_39 : decode (mC m_Zip_givesOut) 39 = .ok (.aload_n 1, 1) := by decide +kernel
theorem d_Zip_givesOut_40 : decode (mC m_Zip_givesOut) 40 = .ok (.getfield 194, 3) := by decide +kernel
theorem d_Zip_givesOut_43 : decode (mC m_Zip_givesOut) 43 = .ok (.if_icmp .eq 5, 3) := by decide +kernel
theorem d_Zip_givesOut_46 : decode (mC m_Zip_givesOut) 46 = .ok (.iconst 0, 1) := by decide +kernel
theorem d_Zip_givesOut_47 : decode (mC m_Zip_givesOut) 47 = .ok (.ireturn, 1) := by decide +kernel
theorem d_Zip_givesOut_48 : decode (mC m_Zip_givesOut) 48 = .ok (.aload_n 0, 1) := by decide +kernel
theorem d_Zip_givesOut_49 : decode (mC m_Zip_givesOut) 49 = .ok (.getfield 24, 3) := by decide +kernel
theorem d_Zip_givesOut_52 : decode (mC m_Zip_givesOut) 52 = .ok (.aload_n 0, 1) := by decide +kernel
theorem d_Zip_givesOut_53 : decode (mC m_Zip_givesOut) 53 = .ok (.getfield 18, 3) := by decide +kernel
theorem d_Zip_givesOut_56 : decode (mC m_Zip_givesOut) 56 = .ok (.iload_n 2, 1) := by decide +kernel
theorem d_Zip_givesOut_57 : decode (mC m_Zip_givesOut) 57 = .ok (.iload_n 2, 1) := by decide +kernel
theorem d_Zip_givesOut_58 : decode (mC m_Zip_givesOut) 58 = .ok (.aload_n 1, 1) := by decide +kernel
theorem d_Zip_givesOut_59 : decode (mC m_Zip_givesOut) 59 = .ok (.getfield 194, 3) := by decide +kernel
theorem d_Zip_givesOut_62 : decode (mC m_Zip_givesOut) 62 = .ok (.iadd, 1) := by decide +kernel
theorem d_Zip_givesOut_63 : decode (mC m_Zip_givesOut) 63 = .ok (.invokevirtual 218, 3) := by decide +kernel
theorem d_Zip_givesOut_66 : decode (mC m_Zip_givesOut) 66 = .ok (.iconst 1, 1) := by decide +kernel
theorem d_Zip_givesOut_67 : decode (mC m_Zip_givesOut) 67 = .ok (.ireturn, 1) := by decide +kernel
def b_Zip_givesOut_0 (F : Nat) (v0 : Nat) (v1 : Nat) (v2 : Int32) (w : zW) : Option (Int32 × zW) := (getI w v1 1 2).bind fun x1 => if x1 = (8 : Int32) then ((getR w v0 8 5).bind fun x10 => (getR w v0 8 1).bind fun x14 => (getI w v1 1 4).bind fun x20 => (zobj w x10 5).bind fun _ => (f_Unpacker_unpacks F x10 x14 v2 (v2 + x20) w).bind fun r24 => if r24.1 = 0 ∨ r24.1 = 1 then some (r24.1, r24.2) else none) else ((getR w v0 8 3).bind fun x29 => (zobj w x29 0).bind fun _ => (f_Row_empty F x29 w).bind fun r32 => (getI r32.2 v1 1 4).bind fun x36 => (getI r32.2 v1 1 5).bind fun x40 => if x36 = x40 then ((getR r32.2 v0 8 3).bind fun x49 => (getR r32.2 v0 8 1).bind fun x53 => (getI r32.2 v1 1 5).bind fun x59 => (zobj r32.2 x49 0).bind fun _ => (f_Row_appendPart F x49 x53 v2 (v2 + x59) r32.2).bind fun r63 => some ((1 : Int32), r63.2)) else (some ((0 : Int32), r32.2)))
set_option maxRecDepth 100000 in
set_option maxHeartbeats 4000000 in
theorem b_Zip_givesOut_0_ok (G : zG) (F : Nat) (v0 : Nat) (v1 : Nat) (v2 : Int32) (w : zW) (r : (Int32 × zW)) (h : b_Zip_givesOut_0 F v0 v1 v2 w = some r) : zV G m_Zip_givesOut 0 [(0, .ref (z0 G + v0)), (1, .ref (z0 G + v1)), (2, .int v2)] [] w 0 0 (oI r.1) r.2 := by
  unfold b_Zip_givesOut_0 at h
  refine V_aload_n (i := 1) d_Zip_givesOut_0 rfl 1 rfl ?_
  obtain ⟨x1, e1, h⟩ := ob h
  refine V_getI (ci := 1) (k := 2) d_Zip_givesOut_1 e1 rfl (by decide) in_Entry k176 ?_
  refine V_bipush (v := 8) d_Zip_givesOut_4 (by decide) ?_
  refine V_icmp_ne (tgt := 28) d_Zip_givesOut_6 (by decide) (fun c6 => ?_) (fun c6 => ?_)
  · rw [if_neg c6] at h
    refine V_aload_n (i := 0) d_Zip_givesOut_28 rfl 0 rfl ?_
    obtain ⟨x29, e29, h⟩ := ob h
    refine V_getR (ci := 8) (k := 3) d_Zip_givesOut_29 e29 rfl (by decide) in_Zip k258 ?_
    obtain ⟨_, eo32, h⟩ := ob h
    obtain ⟨r32, e32, h⟩ := ob h
    refine V_call (v := none) (st := []) (inv_V (N := m_Row_empty) (As := []) (ci := 0) d_Zip_givesOut_32 eo32 rfl k287 k288 k289 kc_Row_empty y_Row_empty) ⟨Or.inl kc_Row_empty, k2, by decide, by decide⟩ (Nat.le_of_ble_eq_true rfl) (by decide) (by decide) (c_Row_empty G F x29 w r32 e32) ?_
    refine V_aload_n (i := 1) d_Zip_givesOut_35 rfl 1 rfl ?_
    obtain ⟨x36, e36, h⟩ := ob h
    refine V_getI (ci := 1) (k := 4) d_Zip_givesOut_36 e36 rfl (by decide) in_Entry k182 ?_
    refine V_aload_n (i := 1) d_Zip_givesOut_39 rfl 1 rfl ?_
    obtain ⟨x40, e40, h⟩ := ob h
    refine V_getI (ci := 1) (k := 5) d_Zip_givesOut_40 e40 rfl (by decide) in_Entry k185 ?_
    refine V_icmp_eq (tgt := 48) d_Zip_givesOut_43 (by decide) (fun c43 => ?_) (fun c43 => ?_)
    · rw [if_pos c43] at h
      refine V_aload_n (i := 0) d_Zip_givesOut_48 rfl 0 rfl ?_
      obtain ⟨x49, e49, h⟩ := ob h
      refine V_getR (ci := 8) (k := 3) d_Zip_givesOut_49 e49 rfl (by decide) in_Zip k258 ?_
      refine V_aload_n (i := 0) d_Zip_givesOut_52 rfl 0 rfl ?_
      obtain ⟨x53, e53, h⟩ := ob h
      refine V_getR (ci := 8) (k := 1) d_Zip_givesOut_53 e53 rfl (by decide) in_Zip k256 ?_
      refine V_iload_n (i := 2) d_Zip_givesOut_56 rfl 2 rfl ?_
      refine V_iload_n (i := 2) d_Zip_givesOut_57 rfl 2 rfl ?_
      refine V_aload_n (i := 1) d_Zip_givesOut_58 rfl 1 rfl ?_
      obtain ⟨x59, e59, h⟩ := ob h
      refine V_getI (ci := 1) (k := 5) d_Zip_givesOut_59 e59 rfl (by decide) in_Entry k185 ?_
      refine V_iadd d_Zip_givesOut_62 ?_
      obtain ⟨_, eo63, h⟩ := ob h
      obtain ⟨r63, e63, h⟩ := ob h
      refine V_call (v := none) (st := []) (inv_V (N := m_Row_appendPart) (As := [.ref (z0 G + x53), .int v2, .int (v2 + x59)]) (ci := 0) d_Zip_givesOut_63 eo63 rfl k524 k314 k315 kc_Row_appendPart y_Row_appendPart) ⟨Or.inl kc_Row_appendPart, k2, by decide, by decide⟩ (Nat.le_of_ble_eq_true rfl) (by decide) (by decide) (c_Row_appendPart G F x49 x53 v2 (v2 + x59) r32.2 r63 e63) ?_
      refine V_iconst (v := 1) d_Zip_givesOut_66 (by decide) ?_
      obtain rfl := Option.some.inj h
      exact V_zret rfl (Or.inr rfl) (by decide) (by decide) d_Zip_givesOut_67
    · rw [if_neg c43] at h
      refine V_iconst (v := 0) d_Zip_givesOut_46 (by decide) ?_
      obtain rfl := Option.some.inj h
      exact V_zret rfl (Or.inl rfl) (by decide) (by decide) d_Zip_givesOut_47
  · rw [if_pos c6] at h
    refine V_aload_n (i := 0) d_Zip_givesOut_9 rfl 0 rfl ?_
    obtain ⟨x10, e10, h⟩ := ob h
    refine V_getR (ci := 8) (k := 5) d_Zip_givesOut_10 e10 rfl (by decide) in_Zip k260 ?_
    refine V_aload_n (i := 0) d_Zip_givesOut_13 rfl 0 rfl ?_
    obtain ⟨x14, e14, h⟩ := ob h
    refine V_getR (ci := 8) (k := 1) d_Zip_givesOut_14 e14 rfl (by decide) in_Zip k256 ?_
    refine V_iload_n (i := 2) d_Zip_givesOut_17 rfl 2 rfl ?_
    refine V_iload_n (i := 2) d_Zip_givesOut_18 rfl 2 rfl ?_
    refine V_aload_n (i := 1) d_Zip_givesOut_19 rfl 1 rfl ?_
    obtain ⟨x20, e20, h⟩ := ob h
    refine V_getI (ci := 1) (k := 4) d_Zip_givesOut_20 e20 rfl (by decide) in_Entry k182 ?_
    refine V_iadd d_Zip_givesOut_23 ?_
    obtain ⟨_, eo24, h⟩ := ob h
    obtain ⟨r24, e24, h⟩ := ob h
    refine V_call (v := some (.int r24.1)) (st := []) (inv_V (N := m_Unpacker_unpacks) (As := [.ref (z0 G + x14), .int v2, .int (v2 + x20)]) (ci := 5) d_Zip_givesOut_24 eo24 rfl k467 k468 k469 kc_Unpacker_unpacks y_Unpacker_unpacks) ⟨Or.inl kc_Unpacker_unpacks, k4, by decide, by decide⟩ (Nat.le_of_ble_eq_true rfl) (by decide) (by decide) (c_Unpacker_unpacks G F x10 x14 v2 (v2 + x20) w r24 e24) ?_
    by_cases g27 : ¬ (r24.1 = 0 ∨ r24.1 = 1)
    · exact absurd h (by rw [if_neg g27]; exact nofun)
    have g27 := Classical.not_not.mp g27
    rw [if_pos g27] at h
    obtain rfl := Option.some.inj h
    exact V_zret rfl g27 (by decide) (by decide) d_Zip_givesOut_27
def f_Zip_givesOut (F : Nat) (v0 : Nat) (v1 : Nat) (v2 : Int32) (w : zW) : Option (Int32 × zW) := b_Zip_givesOut_0 F v0 v1 v2 w
theorem c_Zip_givesOut (G : zG) (F : Nat) (v0 : Nat) (v1 : Nat) (v2 : Int32) (w : zW) (r : (Int32 × zW)) (h : f_Zip_givesOut F v0 v1 v2 w = some r) : zCT G m_Zip_givesOut [.ref (z0 G + v0), .ref (z0 G + v1), .int v2] w (oI r.1) r.2 := zCT.ofV (by decide +kernel) (Or.inl ⟨kc_Zip_givesOut, rfl⟩) (Nat.le_of_ble_eq_true rfl) (b_Zip_givesOut_0_ok G F v0 v1 v2 w r h)
