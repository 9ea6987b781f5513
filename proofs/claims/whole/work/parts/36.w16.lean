section NwJ
variable {G : zG} {M : zM} {pc : Nat} {lv : List (Nat × Value)} {st : List Value} {w w1 w2 : zW} {n1 n2 : Nat} {o : Outcome}
theorem U_newJ {n : Int32} {N : Nat} (hd : decode (mC M) pc = .ok (.newarray .long, 2)) (hx : znew w (.inr (.inl (List.replicate N 0))) = some w2) (hw : Cond.arrayClass .long ∈ zTb) (hn : ¬ n < 0) (hN : n.toNatClampNeg = N) (hb : N ≤ 100000) (h1 : n1 + 1 ≤ (mR M).cells) (h2 : n2 + N ≤ (mR M).slots)
    (kk : zV G M (pc + 2) lv (.ref (z0 G + w.length) :: st) w2 (n1 + 1) (n2 + N) o w1) : zV G M pc lv (.int n :: st) w n1 n2 o w1 := by
  obtain rfl := Option.some.inj hx
  exact V_newJ hd hw hn hN hb h1 h2 kk
end NwJ
/-! The law. -/
def m_Law_law : zM := (x, code, 7, ret, [], room_1)
theorem k0 : Cond.initialized R_Law ∈ zTb := tb_at 0 (by decide +kernel) rfl
theorem k22 : Cond.classLink R_Law 8 R_Zip ∈ zTb := tb_at 22 (by decide +kernel) rfl
theorem k23 : Cond.instantiable R_Zip 9 ∈ zTb := tb_at 23 (by decide +kernel) rfl
theorem k24 : Cond.methodLink R_Law 70 (mY m_Zip_init) ∈ zTb := tb_at 24 (by decide +kernel) rfl
theorem k25 : Cond.instanceMethod (mY m_Zip_init) ∈ zTb := tb_at 25 (by decide +kernel) rfl
theorem k283 : Cond.methodLink R_Law 74 (mY m_Zip_clear) ∈ zTb := tb_at 283 (by decide +kernel) rfl
theorem k284 : Cond.instanceMethod (mY m_Zip_clear) ∈ zTb := tb_at 284 (by decide +kernel) rfl
theorem k285 : Cond.selects R_Zip (mY m_Zip_clear) (mY m_Zip_clear) ∈ zTb := tb_at 285 (by decide +kernel) rfl
theorem k291 : Cond.methodLink R_Law 93 (mY m_Zip_held) ∈ zTb := tb_at 291 (by decide +kernel) rfl
theorem k292 : Cond.instanceMethod (mY m_Zip_held) ∈ zTb := tb_at 292 (by decide +kernel) rfl
theorem k293 : Cond.selects R_Zip (mY m_Zip_held) (mY m_Zip_held) ∈ zTb := tb_at 293 (by decide +kernel) rfl
theorem k295 : Cond.methodLink R_Law 101 (mY m_Zip_crc) ∈ zTb := tb_at 295 (by decide +kernel) rfl
theorem k296 : Cond.instanceMethod (mY m_Zip_crc) ∈ zTb := tb_at 296 (by decide +kernel) rfl
theorem k297 : Cond.selects R_Zip (mY m_Zip_crc) (mY m_Zip_crc) ∈ zTb := tb_at 297 (by decide +kernel) rfl
theorem k304 : Cond.methodLink R_Law 112 (mY m_Zip_create) ∈ zTb := tb_at 304 (by decide +kernel) rfl
theorem k305 : Cond.instanceMethod (mY m_Zip_create) ∈ zTb := tb_at 305 (by decide +kernel) rfl
theorem k306 : Cond.selects R_Zip (mY m_Zip_create) (mY m_Zip_create) ∈ zTb := tb_at 306 (by decide +kernel) rfl
theorem k352 : Cond.methodLink R_Law 116 (mY m_Zip_wide) ∈ zTb := tb_at 352 (by decide +kernel) rfl
theorem k353 : Cond.instanceMethod (mY m_Zip_wide) ∈ zTb := tb_at 353 (by decide +kernel) rfl
theorem k354 : Cond.selects R_Zip (mY m_Zip_wide) (mY m_Zip_wide) ∈ zTb := tb_at 354 (by decide +kernel) rfl
theorem k356 : Cond.methodLink R_Law 137 (mY m_Zip_check) ∈ zTb := tb_at 356 (by decide +kernel) rfl
theorem k357 : Cond.instanceMethod (mY m_Zip_check) ∈ zTb := tb_at 357 (by decide +kernel) rfl
theorem k358 : Cond.selects R_Zip (mY m_Zip_check) (mY m_Zip_check) ∈ zTb := tb_at 358 (by decide +kernel) rfl
theorem k525 : Cond.methodLink R_Law 141 (mY m_Zip_length) ∈ zTb := tb_at 525 (by decide +kernel) rfl
theorem k526 : Cond.instanceMethod (mY m_Zip_length) ∈ zTb := tb_at 526 (by decide +kernel) rfl
theorem k527 : Cond.selects R_Zip (mY m_Zip_length) (mY m_Zip_length) ∈ zTb := tb_at 527 (by decide +kernel) rfl
theorem k529 : Cond.methodLink R_Law 80 (mY m_Law_give) ∈ zTb := tb_at 529 (by decide +kernel) rfl
theorem k530 : Cond.static (mY m_Law_give) ∈ zTb := tb_at 530 (by decide +kernel) rfl
theorem k627 : Cond.methodLink R_Law 89 (mY m_Law_fill) ∈ zTb := tb_at 627 (by decide +kernel) rfl
theorem k628 : Cond.static (mY m_Law_fill) ∈ zTb := tb_at 628 (by decide +kernel) rfl
theorem k638 : Cond.methodLink R_Law 97 (mY m_Law_at) ∈ zTb := tb_at 638 (by decide +kernel) rfl
theorem k639 : Cond.static (mY m_Law_at) ∈ zTb := tb_at 639 (by decide +kernel) rfl
theorem k663 : Cond.methodLink R_Law 105 (mY m_Law_pack) ∈ zTb := tb_at 663 (by decide +kernel) rfl
theorem k664 : Cond.static (mY m_Law_pack) ∈ zTb := tb_at 664 (by decide +kernel) rfl
theorem k707 : Cond.methodLink R_Law 109 (mY m_Law_unpack) ∈ zTb := tb_at 707 (by decide +kernel) rfl
theorem k708 : Cond.static (mY m_Law_unpack) ∈ zTb := tb_at 708 (by decide +kernel) rfl
theorem k730 : Cond.methodLink R_Law 121 (mY m_Law_add) ∈ zTb := tb_at 730 (by decide +kernel) rfl
theorem k731 : Cond.static (mY m_Law_add) ∈ zTb := tb_at 731 (by decide +kernel) rfl
theorem k804 : Cond.methodLink R_Law 125 (mY m_Law_remove) ∈ zTb := tb_at 804 (by decide +kernel) rfl
theorem k805 : Cond.static (mY m_Law_remove) ∈ zTb := tb_at 805 (by decide +kernel) rfl
theorem k827 : Cond.methodLink R_Law 128 (mY m_Law_load) ∈ zTb := tb_at 827 (by decide +kernel) rfl
theorem k828 : Cond.static (mY m_Law_load) ∈ zTb := tb_at 828 (by decide +kernel) rfl
theorem k834 : Cond.methodLink R_Law 131 (mY m_Law_count) ∈ zTb := tb_at 834 (by decide +kernel) rfl
theorem k835 : Cond.static (mY m_Law_count) ∈ zTb := tb_at 835 (by decide +kernel) rfl
theorem k841 : Cond.methodLink R_Law 134 (mY m_Law_about) ∈ zTb := tb_at 841 (by decide +kernel) rfl
theorem k842 : Cond.static (mY m_Law_about) ∈ zTb := tb_at 842 (by decide +kernel) rfl
theorem k848 : Cond.methodLink R_Law 145 (mY m_Law_byteAt) ∈ zTb := tb_at 848 (by decide +kernel) rfl
theorem k849 : Cond.static (mY m_Law_byteAt) ∈ zTb := tb_at 849 (by decide +kernel) rfl
theorem k855 : Cond.methodLink R_Law 148 (mY m_Law_poke) ∈ zTb := tb_at 855 (by decide +kernel) rfl
theorem k856 : Cond.static (mY m_Law_poke) ∈ zTb := tb_at 856 (by decide +kernel) rfl
theorem k862 : Cond.methodLink R_Law 152 (mY m_Law_put) ∈ zTb := tb_at 862 (by decide +kernel) rfl
theorem k863 : Cond.static (mY m_Law_put) ∈ zTb := tb_at 863 (by decide +kernel) rfl
theorem k869 : Cond.methodLink R_Law 155 (mY m_Law_cut) ∈ zTb := tb_at 869 (by decide +kernel) rfl
theorem k870 : Cond.static (mY m_Law_cut) ∈ zTb := tb_at 870 (by decide +kernel) rfl
theorem k876 : Cond.classLink R_Law 71 R_Model ∈ zTb := tb_at 876 (by decide +kernel) rfl
theorem k877 : Cond.instantiable R_Model 33 ∈ zTb := tb_at 877 (by decide +kernel) rfl
theorem k878 : Cond.methodLink R_Law 73 (mY m_Model_init) ∈ zTb := tb_at 878 (by decide +kernel) rfl
theorem k879 : Cond.instanceMethod (mY m_Model_init) ∈ zTb := tb_at 879 (by decide +kernel) rfl
theorem k982 : Cond.methodLink R_Law 86 (mY m_Model_thrown) ∈ zTb := tb_at 982 (by decide +kernel) rfl
theorem k983 : Cond.instanceMethod (mY m_Model_thrown) ∈ zTb := tb_at 983 (by decide +kernel) rfl
theorem k984 : Cond.selects R_Model (mY m_Model_thrown) (mY m_Model_thrown) ∈ zTb := tb_at 984 (by decide +kernel) rfl
theorem k986 : Cond.methodLink R_Law 77 (mY m_Model_clear) ∈ zTb := tb_at 986 (by decide +kernel) rfl
theorem k987 : Cond.instanceMethod (mY m_Model_clear) ∈ zTb := tb_at 987 (by decide +kernel) rfl
theorem k988 : Cond.selects R_Model (mY m_Model_clear) (mY m_Model_clear) ∈ zTb := tb_at 988 (by decide +kernel) rfl
theorem k990 : Cond.methodLink R_Law 85 (mY m_Model_give) ∈ zTb := tb_at 990 (by decide +kernel) rfl
theorem k991 : Cond.instanceMethod (mY m_Model_give) ∈ zTb := tb_at 991 (by decide +kernel) rfl
theorem k992 : Cond.selects R_Model (mY m_Model_give) (mY m_Model_give) ∈ zTb := tb_at 992 (by decide +kernel) rfl
theorem k998 : Cond.methodLink R_Law 92 (mY m_Model_fill) ∈ zTb := tb_at 998 (by decide +kernel) rfl
theorem k999 : Cond.instanceMethod (mY m_Model_fill) ∈ zTb := tb_at 999 (by decide +kernel) rfl
theorem k1000 : Cond.selects R_Model (mY m_Model_fill) (mY m_Model_fill) ∈ zTb := tb_at 1000 (by decide +kernel) rfl
theorem k1004 : Cond.methodLink R_Law 96 (mY m_Model_held) ∈ zTb := tb_at 1004 (by decide +kernel) rfl
theorem k1005 : Cond.instanceMethod (mY m_Model_held) ∈ zTb := tb_at 1005 (by decide +kernel) rfl
theorem k1006 : Cond.selects R_Model (mY m_Model_held) (mY m_Model_held) ∈ zTb := tb_at 1006 (by decide +kernel) rfl
theorem k1008 : Cond.methodLink R_Law 100 (mY m_Model_at) ∈ zTb := tb_at 1008 (by decide +kernel) rfl
theorem k1009 : Cond.instanceMethod (mY m_Model_at) ∈ zTb := tb_at 1009 (by decide +kernel) rfl
theorem k1010 : Cond.selects R_Model (mY m_Model_at) (mY m_Model_at) ∈ zTb := tb_at 1010 (by decide +kernel) rfl
theorem k1012 : Cond.methodLink R_Law 104 (mY m_Model_crc) ∈ zTb := tb_at 1012 (by decide +kernel) rfl
theorem k1013 : Cond.instanceMethod (mY m_Model_crc) ∈ zTb := tb_at 1013 (by decide +kernel) rfl
theorem k1014 : Cond.selects R_Model (mY m_Model_crc) (mY m_Model_crc) ∈ zTb := tb_at 1014 (by decide +kernel) rfl
theorem k1024 : Cond.methodLink R_Law 108 (mY m_Model_pack) ∈ zTb := tb_at 1024 (by decide +kernel) rfl
theorem k1025 : Cond.instanceMethod (mY m_Model_pack) ∈ zTb := tb_at 1025 (by decide +kernel) rfl
theorem k1026 : Cond.selects R_Model (mY m_Model_pack) (mY m_Model_pack) ∈ zTb := tb_at 1026 (by decide +kernel) rfl
theorem k1081 : Cond.methodLink R_Law 111 (mY m_Model_unpack) ∈ zTb := tb_at 1081 (by decide +kernel) rfl
theorem k1082 : Cond.instanceMethod (mY m_Model_unpack) ∈ zTb := tb_at 1082 (by decide +kernel) rfl
theorem k1083 : Cond.selects R_Model (mY m_Model_unpack) (mY m_Model_unpack) ∈ zTb := tb_at 1083 (by decide +kernel) rfl
theorem k1126 : Cond.methodLink R_Law 140 (mY m_Model_check) ∈ zTb := tb_at 1126 (by decide +kernel) rfl
theorem k1127 : Cond.instanceMethod (mY m_Model_check) ∈ zTb := tb_at 1127 (by decide +kernel) rfl
theorem k1128 : Cond.selects R_Model (mY m_Model_check) (mY m_Model_check) ∈ zTb := tb_at 1128 (by decide +kernel) rfl
theorem k1218 : Cond.methodLink R_Law 130 (mY m_Model_load) ∈ zTb := tb_at 1218 (by decide +kernel) rfl
theorem k1219 : Cond.instanceMethod (mY m_Model_load) ∈ zTb := tb_at 1219 (by decide +kernel) rfl
theorem k1220 : Cond.selects R_Model (mY m_Model_load) (mY m_Model_load) ∈ zTb := tb_at 1220 (by decide +kernel) rfl
theorem k1222 : Cond.methodLink R_Law 133 (mY m_Model_count) ∈ zTb := tb_at 1222 (by decide +kernel) rfl
theorem k1223 : Cond.instanceMethod (mY m_Model_count) ∈ zTb := tb_at 1223 (by decide +kernel) rfl
theorem k1224 : Cond.selects R_Model (mY m_Model_count) (mY m_Model_count) ∈ zTb := tb_at 1224 (by decide +kernel) rfl
theorem k1226 : Cond.methodLink R_Law 136 (mY m_Model_about) ∈ zTb := tb_at 1226 (by decide +kernel) rfl
theorem k1227 : Cond.instanceMethod (mY m_Model_about) ∈ zTb := tb_at 1227 (by decide +kernel) rfl
theorem k1228 : Cond.selects R_Model (mY m_Model_about) (mY m_Model_about) ∈ zTb := tb_at 1228 (by decide +kernel) rfl
theorem k1231 : Cond.methodLink R_Law 115 (mY m_Model_create) ∈ zTb := tb_at 1231 (by decide +kernel) rfl
theorem k1232 : Cond.instanceMethod (mY m_Model_create) ∈ zTb := tb_at 1232 (by decide +kernel) rfl
theorem k1233 : Cond.selects R_Model (mY m_Model_create) (mY m_Model_create) ∈ zTb := tb_at 1233 (by decide +kernel) rfl
theorem k1248 : Cond.methodLink R_Law 120 (mY m_Model_wide) ∈ zTb := tb_at 1248 (by decide +kernel) rfl
theorem k1249 : Cond.instanceMethod (mY m_Model_wide) ∈ zTb := tb_at 1249 (by decide +kernel) rfl
theorem k1250 : Cond.selects R_Model (mY m_Model_wide) (mY m_Model_wide) ∈ zTb := tb_at 1250 (by decide +kernel) rfl
theorem k1252 : Cond.methodLink R_Law 124 (mY m_Model_add) ∈ zTb := tb_at 1252 (by decide +kernel) rfl
theorem k1253 : Cond.instanceMethod (mY m_Model_add) ∈ zTb := tb_at 1253 (by decide +kernel) rfl
theorem k1254 : Cond.selects R_Model (mY m_Model_add) (mY m_Model_add) ∈ zTb := tb_at 1254 (by decide +kernel) rfl
theorem k1304 : Cond.methodLink R_Law 127 (mY m_Model_remove) ∈ zTb := tb_at 1304 (by decide +kernel) rfl
theorem k1305 : Cond.instanceMethod (mY m_Model_remove) ∈ zTb := tb_at 1305 (by decide +kernel) rfl
theorem k1306 : Cond.selects R_Model (mY m_Model_remove) (mY m_Model_remove) ∈ zTb := tb_at 1306 (by decide +kernel) rfl
theorem k1308 : Cond.methodLink R_Law 144 (mY m_Model_length) ∈ zTb := tb_at 1308 (by decide +kernel) rfl
theorem k1309 : Cond.instanceMethod (mY m_Model_length) ∈ zTb := tb_at 1309 (by decide +kernel) rfl
theorem k1310 : Cond.selects R_Model (mY m_Model_length) (mY m_Model_length) ∈ zTb := tb_at 1310 (by decide +kernel) rfl
theorem k1312 : Cond.methodLink R_Law 147 (mY m_Model_byteAt) ∈ zTb := tb_at 1312 (by decide +kernel) rfl
theorem k1313 : Cond.instanceMethod (mY m_Model_byteAt) ∈ zTb := tb_at 1313 (by decide +kernel) rfl
theorem k1314 : Cond.selects R_Model (mY m_Model_byteAt) (mY m_Model_byteAt) ∈ zTb := tb_at 1314 (by decide +kernel) rfl
theorem k1316 : Cond.methodLink R_Law 151 (mY m_Model_poke) ∈ zTb := tb_at 1316 (by decide +kernel) rfl
theorem k1317 : Cond.instanceMethod (mY m_Model_poke) ∈ zTb := tb_at 1317 (by decide +kernel) rfl
theorem k1318 : Cond.selects R_Model (mY m_Model_poke) (mY m_Model_poke) ∈ zTb := tb_at 1318 (by decide +kernel) rfl
theorem k1320 : Cond.methodLink R_Law 154 (mY m_Model_put) ∈ zTb := tb_at 1320 (by decide +kernel) rfl
theorem k1321 : Cond.instanceMethod (mY m_Model_put) ∈ zTb := tb_at 1321 (by decide +kernel) rfl
theorem k1322 : Cond.selects R_Model (mY m_Model_put) (mY m_Model_put) ∈ zTb := tb_at 1322 (by decide +kernel) rfl
theorem k1324 : Cond.methodLink R_Law 158 (mY m_Model_cut) ∈ zTb := tb_at 1324 (by decide +kernel) rfl
theorem k1325 : Cond.instanceMethod (mY m_Model_cut) ∈ zTb := tb_at 1325 (by decide +kernel) rfl
theorem k1326 : Cond.selects R_Model (mY m_Model_cut) (mY m_Model_cut) ∈ zTb := tb_at 1326 (by decide +kernel) rfl
theorem k1328 : Cond.constantLong R_Law 78 4294967295 ∈ zTb := tb_at 1328 (by decide +kernel) rfl
theorem k1329 : Cond.arrayClass .long ∈ zTb := tb_at 1329 (by decide +kernel) rfl
theorem d_Law_law_0 : decode (mC m_Law_law) 0 = .ok (.new 8, 3) := by decide +kernel
theorem d_Law_law_3 : decode (mC m_Law_law) 3 = .ok (.dup, 1) := by decide +kernel
theorem d_Law_law_4 : decode (mC m_Law_law) 4 = .ok (.invokespecial 70, 3) := by decide +kernel
theorem d_Law_law_7 : decode (mC m_Law_law) 7 = .ok (.astore_n 1, 1) := by decide +kernel
theorem d_Law_law_8 : decode (mC m_Law_law) 8 = .ok (.new 71, 3) := by decide +kernel
theorem d_Law_law_11 : decode (mC m_Law_law) 11 = .ok (.dup, 1) := by decide +kernel
theorem d_Law_law_12 : decode (mC m_Law_law) 12 = .ok (.invokespecial 73, 3) := by decide +kernel
theorem d_Law_law_15 : decode (mC m_Law_law) 15 = .ok (.astore_n 2, 1) := by decide +kernel
theorem d_Law_law_16 : decode (mC m_Law_law) 16 = .ok (.iconst 1, 1) := by decide +kernel
theorem d_Law_law_17 : decode (mC m_Law_law) 17 = .ok (.newarray .long, 2) := by decide +kernel
theorem d_Law_law_19 : decode (mC m_Law_law) 19 = .ok (.astore_n 3, 1) := by decide +kernel
theorem d_Law_law_20 : decode (mC m_Law_law) 20 = .ok (.iconst 0, 1) := by decide +kernel
theorem d_Law_law_21 : decode (mC m_Law_law) 21 = .ok (.istore 4, 2) := by decide +kernel
theorem d_Law_law_23 : decode (mC m_Law_law) 23 = .ok (.iload 4, 2) := by decide +kernel
theorem d_Law_law_25 : decode (mC m_Law_law) 25 = .ok (.aload_n 0, 1) := by decide +kernel
theorem d_Law_law_26 : decode (mC m_Law_law) 26 = .ok (.arraylength, 1) := by decide +kernel
theorem d_Law_law_27 : decode (mC m_Law_law) 27 = .ok (.iconst 4, 1) := by decide +kernel
theorem d_Law_law_28 : decode (mC m_Law_law) 28 = .ok (.isub, 1) := by decide +kernel
theorem d_Law_law_29 : decode (mC m_Law_law) 29 = .ok (.if_icmp .gt 1100, 3) := by decide +kernel
theorem d_Law_law_32 : decode (mC m_Law_law) 32 = .ok (.aload_n 0, 1) := by decide +kernel
theorem d_Law_law_33 : decode (mC m_Law_law) 33 = .ok (.iload 4, 2) := by decide +kernel
theorem d_Law_law_35 : decode (mC m_Law_law) 35 = .ok (.iaload, 1) := by decide +kernel
theorem d_Law_law_36 : decode (mC m_Law_law) 36 = .ok (.bipush 31, 2) := by decide +kernel
theorem d_Law_law_38 : decode (mC m_Law_law) 38 = .ok (.iand, 1) := by decide +kernel
theorem d_Law_law_39 : decode (mC m_Law_law) 39 = .ok (.tableswitch 1084 0 20 #[97, 110, 210, 278, 291, 347, 360, 404, 448, 459, 498, 594, 650, 706, 750, 818, 831, 844, 900, 948, 1048], 97) := by decide +kernel
theorem d_Law_law_136 : decode (mC m_Law_law) 136 = .ok (.aload_n 1, 1) := by decide +kernel
theorem d_Law_law_137 : decode (mC m_Law_law) 137 = .ok (.invokevirtual 74, 3) := by decide +kernel
theorem d_Law_law_140 : decode (mC m_Law_law) 140 = .ok (.aload_n 2, 1) := by decide +kernel
theorem d_Law_law_141 : decode (mC m_Law_law) 141 = .ok (.invokevirtual 77, 3) := by decide +kernel
theorem d_Law_law_144 : decode (mC m_Law_law) 144 = .ok (.if_icmp .eq 979, 3) := by decide +kernel
theorem d_Law_law_147 : decode (mC m_Law_law) 147 = .ok (.iconst 0, 1) := by decide +kernel
theorem d_Law_law_148 : decode (mC m_Law_law) 148 = .ok (.ireturn, 1) := by decide +kernel
theorem d_Law_law_149 : decode (mC m_Law_law) 149 = .ok (.aload_n 1, 1) := by decide +kernel
theorem d_Law_law_150 : decode (mC m_Law_law) 150 = .ok (.aload_n 0, 1) := by decide +kernel
theorem d_Law_law_151 : decode (mC m_Law_law) 151 = .ok (.iload 4, 2) := by decide +kernel
theorem d_Law_law_153 : decode (mC m_Law_law) 153 = .ok (.iconst 1, 1) := by decide +kernel
theorem d_Law_law_154 : decode (mC m_Law_law) 154 = .ok (.iadd, 1) := by decide +kernel
theorem d_Law_law_155 : decode (mC m_Law_law) 155 = .ok (.iaload, 1) := by decide +kernel
theorem d_Law_law_156 : decode (mC m_Law_law) 156 = .ok (.i2l, 1) := by decide +kernel
theorem d_Law_law_157 : decode (mC m_Law_law) 157 = .ok (.bipush 32, 2) := by decide +kernel
theorem d_Law_law_159 : decode (mC m_Law_law) 159 = .ok (.lshl, 1) := by decide +kernel
theorem d_Law_law_160 : decode (mC m_Law_law) 160 = .ok (.aload_n 0, 1) := by decide +kernel
theorem d_Law_law_161 : decode (mC m_Law_law) 161 = .ok (.iload 4, 2) := by decide +kernel
theorem d_Law_law_163 : decode (mC m_Law_law) 163 = .ok (.iconst 2, 1) := by decide +kernel
theorem d_Law_law_164 : decode (mC m_Law_law) 164 = .ok (.iadd, 1) := by decide +kernel
theorem d_Law_law_165 : decode (mC m_Law_law) 165 = .ok (.iaload, 1) := by decide +kernel
theorem d_Law_law_166 : decode (mC m_Law_law) 166 = .ok (.i2l, 1) := by decide +kernel
theorem d_Law_law_167 : decode (mC m_Law_law) 167 = .ok (.ldc2_w 78, 3) := by decide +kernel
theorem d_Law_law_170 : decode (mC m_Law_law) 170 = .ok (.land, 1) := by decide +kernel
theorem d_Law_law_171 : decode (mC m_Law_law) 171 = .ok (.lor, 1) := by decide +kernel
theorem d_Law_law_172 : decode (mC m_Law_law) 172 = .ok (.aload_n 0, 1) := by decide +kernel
theorem d_Law_law_173 : decode (mC m_Law_law) 173 = .ok (.iload 4, 2) := by decide +kernel
theorem d_Law_law_175 : decode (mC m_Law_law) 175 = .ok (.iconst 3, 1) := by decide +kernel
theorem d_Law_law_176 : decode (mC m_Law_law) 176 = .ok (.iadd, 1) := by decide +kernel
theorem d_Law_law_177 : decode (mC m_Law_law) 177 = .ok (.iaload, 1) := by decide +kernel
theorem d_Law_law_178 : decode (mC m_Law_law) 178 = .ok (.aload_n 3, 1) := by decide +kernel
theorem d_Law_law_179 : decode (mC m_Law_law) 179 = .ok (.invokestatic 80, 3) := by decide +kernel
theorem d_Law_law_182 : decode (mC m_Law_law) 182 = .ok (.istore 5, 2) := by decide +kernel
theorem d_Law_law_184 : decode (mC m_Law_law) 184 = .ok (.aload_n 2, 1) := by decide +kernel
theorem d_Law_law_185 : decode (mC m_Law_law) 185 = .ok (.aload_n 0, 1) := by decide +kernel
theorem d_Law_law_186 : decode (mC m_Law_law) 186 = .ok (.iload 4, 2) := by decide +kernel
theorem d_Law_law_188 : decode (mC m_Law_law) 188 = .ok (.iconst 1, 1) := by decide +kernel
theorem d_Law_law_189 : decode (mC m_Law_law) 189 = .ok (.iadd, 1) := by decide +kernel
theorem d_Law_law_190 : decode (mC m_Law_law) 190 = .ok (.iaload, 1) := by decide +kernel
theorem d_Law_law_191 : decode (mC m_Law_law) 191 = .ok (.i2l, 1) := by decide +kernel
theorem d_Law_law_192 : decode (mC m_Law_law) 192 = .ok (.bipush 32, 2) := by decide +kernel
theorem d_Law_law_194 : decode (mC m_Law_law) 194 = .ok (.lshl, 1) := by decide +kernel
theorem d_Law_law_195 : decode (mC m_Law_law) 195 = .ok (.aload_n 0, 1) := by decide +kernel
theorem d_Law_law_196 : decode (mC m_Law_law) 196 = .ok (.iload 4, 2) := by decide +kernel
theorem d_Law_law_198 : decode (mC m_Law_law) 198 = .ok (.iconst 2, 1) := by decide +kernel
theorem d_Law_law_199 : decode (mC m_Law_law) 199 = .ok (.iadd, 1) := by decide +kernel
theorem d_Law_law_200 : decode (mC m_Law_law) 200 = .ok (.iaload, 1) := by decide +kernel
theorem d_Law_law_201 : decode (mC m_Law_law) 201 = .ok (.i2l, 1) := by decide +kernel
theorem d_Law_law_202 : decode (mC m_Law_law) 202 = .ok (.ldc2_w 78, 3) := by decide +kernel
theorem d_Law_law_205 : decode (mC m_Law_law) 205 = .ok (.land, 1) := by decide +kernel
theorem d_Law_law_206 : decode (mC m_Law_law) 206 = .ok (.lor, 1) := by decide +kernel
theorem d_Law_law_207 : decode (mC m_Law_law) 207 = .ok (.aload_n 0, 1) := by decide +kernel
theorem d_Law_law_208 : decode (mC m_Law_law) 208 = .ok (.iload 4, 2) := by decide +kernel
theorem d_Law_law_210 : decode (mC m_Law_law) 210 = .ok (.iconst 3, 1) := by decide +kernel
theorem d_Law_law_211 : decode (mC m_Law_law) 211 = .ok (.iadd, 1) := by decide +kernel
theorem d_Law_law_212 : decode (mC m_Law_law) 212 = .ok (.iaload, 1) := by decide +kernel
theorem d_Law_law_213 : decode (mC m_Law_law) 213 = .ok (.invokevirtual 85, 3) := by decide +kernel
theorem d_Law_law_216 : decode (mC m_Law_law) 216 = .ok (.istore 6, 2) := by decide +kernel
theorem d_Law_law_218 : decode (mC m_Law_law) 218 = .ok (.aload_n 2, 1) := by decide +kernel
theorem d_Law_law_219 : decode (mC m_Law_law) 219 = .ok (.invokevirtual 86, 3) := by decide +kernel
theorem d_Law_law_222 : decode (mC m_Law_law) 222 = .ok (.iload 5, 2) := by decide +kernel
theorem d_Law_law_224 : decode (mC m_Law_law) 224 = .ok (.if_icmp .eq 5, 3) := by decide +kernel
theorem d_Law_law_227 : decode (mC m_Law_law) 227 = .ok (.iconst 0, 1) := by decide +kernel
theorem d_Law_law_228 : decode (mC m_Law_law) 228 = .ok (.ireturn, 1) := by decide +kernel
theorem d_Law_law_229 : decode (mC m_Law_law) 229 = .ok (.iload 5, 2) := by decide +kernel
theorem d_Law_law_231 : decode (mC m_Law_law) 231 = .ok (.ifCond .ne 15, 3) := by decide +kernel
theorem d_Law_law_234 : decode (mC m_Law_law) 234 = .ok (.aload_n 3, 1) := by decide +kernel
theorem d_Law_law_235 : decode (mC m_Law_law) 235 = .ok (.iconst 0, 1) := by decide +kernel
theorem d_Law_law_236 : decode (mC m_Law_law) 236 = .ok (.laload, 1) := by decide +kernel
theorem d_Law_law_237 : decode (mC m_Law_law) 237 = .ok (.iload 6, 2) := by decide +kernel
theorem d_Law_law_239 : decode (mC m_Law_law) 239 = .ok (.i2l, 1) := by decide +kernel
theorem d_Law_law_240 : decode (mC m_Law_law) 240 = .ok (.lcmp, 1) := by decide +kernel
theorem d_Law_law_241 : decode (mC m_Law_law) 241 = .ok (.ifCond .eq 5, 3) := by decide +kernel
theorem d_Law_law_244 : decode (mC m_Law_law) 244 = .ok (.iconst 0, 1) := by decide +kernel
theorem d_Law_law_245 : decode (mC m_Law_law) 245 = .ok (.ireturn, 1) := by decide +kernel
theorem d_Law_law_246 : decode (mC m_Law_law) 246 = .ok (.goto 877, 3) := by decide +kernel
theorem d_Law_law_249 : decode (mC m_Law_law) 249 = .ok (.aload_n 1, 1) := by decide +kernel
theorem d_Law_law_250 : decode (mC m_Law_law) 250 = .ok (.aload_n 0, 1) := by decide +kernel
theorem d_Law_law_251 : decode (mC m_Law_law) 251 = .ok (.iload 4, 2) := by decide +kernel
theorem d_Law_law_253 : decode (mC m_Law_law) 253 = .ok (.iconst 1, 1) := by decide +kernel
theorem d_Law_law_254 : decode (mC m_Law_law) 254 = .ok (.iadd, 1) := by decide +kernel
theorem d_Law_law_255 : decode (mC m_Law_law) 255 = .ok (.iaload, 1) := by decide +kernel
theorem d_Law_law_256 : decode (mC m_Law_law) 256 = .ok (.aload_n 0, 1) := by decide +kernel
theorem d_Law_law_257 : decode (mC m_Law_law) 257 = .ok (.iload 4, 2) := by decide +kernel
theorem d_Law_law_259 : decode (mC m_Law_law) 259 = .ok (.iconst 2, 1) := by decide +kernel
theorem d_Law_law_260 : decode (mC m_Law_law) 260 = .ok (.iadd, 1) := by decide +kernel
theorem d_Law_law_261 : decode (mC m_Law_law) 261 = .ok (.iaload, 1) := by decide +kernel
theorem d_Law_law_262 : decode (mC m_Law_law) 262 = .ok (.aload_n 3, 1) := by decide +kernel
theorem d_Law_law_263 : decode (mC m_Law_law) 263 = .ok (.invokestatic 89, 3) := by decide +kernel
theorem d_Law_law_266 : decode (mC m_Law_law) 266 = .ok (.istore 5, 2) := by decide +kernel
theorem d_Law_law_268 : decode (mC m_Law_law) 268 = .ok (.aload_n 2, 1) := by decide +kernel
theorem d_Law_law_269 : decode (mC m_Law_law) 269 = .ok (.aload_n 0, 1) := by decide +kernel
theorem d_Law_law_270 : decode (mC m_Law_law) 270 = .ok (.iload 4, 2) := by decide +kernel
theorem d_Law_law_272 : decode (mC m_Law_law) 272 = .ok (.iconst 1, 1) := by decide +kernel
theorem d_Law_law_273 : decode (mC m_Law_law) 273 = .ok (.iadd, 1) := by decide +kernel
theorem d_Law_law_274 : decode (mC m_Law_law) 274 = .ok (.iaload, 1) := by decide +kernel
theorem d_Law_law_275 : decode (mC m_Law_law) 275 = .ok (.aload_n 0, 1) := by decide +kernel
theorem d_Law_law_276 : decode (mC m_Law_law) 276 = .ok (.iload 4, 2) := by decide +kernel
theorem d_Law_law_278 : decode (mC m_Law_law) 278 = .ok (.iconst 2, 1) := by decide +kernel
theorem d_Law_law_279 : decode (mC m_Law_law) 279 = .ok (.iadd, 1) := by decide +kernel
theorem d_Law_law_280 : decode (mC m_Law_law) 280 = .ok (.iaload, 1) := by decide +kernel
theorem d_Law_law_281 : decode (mC m_Law_law) 281 = .ok (.invokevirtual 92, 3) := by decide +kernel
theorem d_Law_law_284 : decode (mC m_Law_law) 284 = .ok (.istore 6, 2) := by decide +kernel
theorem d_Law_law_286 : decode (mC m_Law_law) 286 = .ok (.aload_n 2, 1) := by decide +kernel
theorem d_Law_law_287 : decode (mC m_Law_law) 287 = .ok (.invokevirtual 86, 3) := by decide +kernel
theorem d_Law_law_290 : decode (mC m_Law_law) 290 = .ok (.iload 5, 2) := by decide +kernel
theorem d_Law_law_292 : decode (mC m_Law_law) 292 = .ok (.if_icmp .eq 5, 3) := by decide +kernel
theorem d_Law_law_295 : decode (mC m_Law_law) 295 = .ok (.iconst 0, 1) := by decide +kernel
theorem d_Law_law_296 : decode (mC m_Law_law) 296 = .ok (.ireturn, 1) := by decide +kernel
theorem d_Law_law_297 : decode (mC m_Law_law) 297 = .ok (.iload 5, 2) := by decide +kernel
theorem d_Law_law_299 : decode (mC m_Law_law) 299 = .ok (.ifCond .ne 15, 3) := by decide +kernel
theorem d_Law_law_302 : decode (mC m_Law_law) 302 = .ok (.aload_n 3, 1) := by decide +kernel
theorem d_Law_law_303 : decode (mC m_Law_law) 303 = .ok (.iconst 0, 1) := by decide +kernel
theorem d_Law_law_304 : decode (mC m_Law_law) 304 = .ok (.laload, 1) := by decide +kernel
theorem d_Law_law_305 : decode (mC m_Law_law) 305 = .ok (.iload 6, 2) := by decide +kernel
theorem d_Law_law_307 : decode (mC m_Law_law) 307 = .ok (.i2l, 1) := by decide +kernel
theorem d_Law_law_308 : decode (mC m_Law_law) 308 = .ok (.lcmp, 1) := by decide +kernel
theorem d_Law_law_309 : decode (mC m_Law_law) 309 = .ok (.ifCond .eq 5, 3) := by decide +kernel
theorem d_Law_law_312 : decode (mC m_Law_law) 312 = .ok (.iconst 0, 1) := by decide +kernel
theorem d_Law_law_313 : decode (mC m_Law_law) 313 = .ok (.ireturn, 1) := by decide +kernel
theorem d_Law_law_314 : decode (mC m_Law_law) 314 = .ok (.goto 809, 3) := by decide +kernel
theorem d_Law_law_317 : decode (mC m_Law_law) 317 = .ok (.aload_n 1, 1) := by decide +kernel
theorem d_Law_law_318 : decode (mC m_Law_law) 318 = .ok (.invokevirtual 93, 3) := by decide +kernel
theorem d_Law_law_321 : decode (mC m_Law_law) 321 = .ok (.aload_n 2, 1) := by decide +kernel
theorem d_Law_law_322 : decode (mC m_Law_law) 322 = .ok (.invokevirtual 96, 3) := by decide +kernel
theorem d_Law_law_325 : decode (mC m_Law_law) 325 = .ok (.if_icmp .eq 798, 3) := by decide +kernel
theorem d_Law_law_328 : decode (mC m_Law_law) 328 = .ok (.iconst 0, 1) := by decide +kernel
theorem d_Law_law_329 : decode (mC m_Law_law) 329 = .ok (.ireturn, 1) := by decide +kernel
theorem d_Law_law_330 : decode (mC m_Law_law) 330 = .ok (.aload_n 1, 1) := by decide +kernel
theorem d_Law_law_331 : decode (mC m_Law_law) 331 = .ok (.aload_n 0, 1) := by decide +kernel
theorem d_Law_law_332 : decode (mC m_Law_law) 332 = .ok (.iload 4, 2) := by decide +kernel
theorem d_Law_law_334 : decode (mC m_Law_law) 334 = .ok (.iconst 1, 1) := by decide +kernel
theorem d_Law_law_335 : decode (mC m_Law_law) 335 = .ok (.iadd, 1) := by decide +kernel
theorem d_Law_law_336 : decode (mC m_Law_law) 336 = .ok (.iaload, 1) := by decide +kernel
theorem d_Law_law_337 : decode (mC m_Law_law) 337 = .ok (.aload_n 3, 1) := by decide +kernel
theorem d_Law_law_338 : decode (mC m_Law_law) 338 = .ok (.invokestatic 97, 3) := by decide +kernel
theorem d_Law_law_341 : decode (mC m_Law_law) 341 = .ok (.istore 5, 2) := by decide +kernel
theorem d_Law_law_343 : decode (mC m_Law_law) 343 = .ok (.aload_n 2, 1) := by decide +kernel
theorem d_Law_law_344 : decode (mC m_Law_law) 344 = .ok (.aload_n 0, 1) := by decide +kernel
theorem d_Law_law_345 : decode (mC m_Law_law) 345 = .ok (.iload 4, 2) := by decide +kernel
theorem d_Law_law_347 : decode (mC m_Law_law) 347 = .ok (.iconst 1, 1) := by decide +kernel
theorem d_Law_law_348 : decode (mC m_Law_law) 348 = .ok (.iadd, 1) := by decide +kernel
theorem d_Law_law_349 : decode (mC m_Law_law) 349 = .ok (.iaload, 1) := by decide +kernel
theorem d_Law_law_350 : decode (mC m_Law_law) 350 = .ok (.invokevirtual 100, 3) := by decide +kernel
theorem d_Law_law_353 : decode (mC m_Law_law) 353 = .ok (.istore 6, 2) := by decide +kernel
theorem d_Law_law_355 : decode (mC m_Law_law) 355 = .ok (.aload_n 2, 1) := by decide +kernel
theorem d_Law_law_356 : decode (mC m_Law_law) 356 = .ok (.invokevirtual 86, 3) := by decide +kernel
theorem d_Law_law_359 : decode (mC m_Law_law) 359 = .ok (.iload 5, 2) := by decide +kernel
theorem d_Law_law_361 : decode (mC m_Law_law) 361 = .ok (.if_icmp .eq 5, 3) := by decide +kernel
theorem d_Law_law_364 : decode (mC m_Law_law) 364 = .ok (.iconst 0, 1) := by decide +kernel
theorem d_Law_law_365 : decode (mC m_Law_law) 365 = .ok (.ireturn, 1) := by decide +kernel
theorem d_Law_law_366 : decode (mC m_Law_law) 366 = .ok (.iload 5, 2) := by decide +kernel
theorem d_Law_law_368 : decode (mC m_Law_law) 368 = .ok (.ifCond .ne 15, 3) := by decide +kernel
theorem d_Law_law_371 : decode (mC m_Law_law) 371 = .ok (.aload_n 3, 1) := by decide +kernel
theorem d_Law_law_372 : decode (mC m_Law_law) 372 = .ok (.iconst 0, 1) := by decide +kernel
theorem d_Law_law_373 : decode (mC m_Law_law) 373 = .ok (.laload, 1) := by decide +kernel
theorem d_Law_law_374 : decode (mC m_Law_law) 374 = .ok (.iload 6, 2) := by decide +kernel
theorem d_Law_law_376 : decode (mC m_Law_law) 376 = .ok (.i2l, 1) := by decide +kernel
theorem d_Law_law_377 : decode (mC m_Law_law) 377 = .ok (.lcmp, 1) := by decide +kernel
theorem d_Law_law_378 : decode (mC m_Law_law) 378 = .ok (.ifCond .eq 5, 3) := by decide +kernel
theorem d_Law_law_381 : decode (mC m_Law_law) 381 = .ok (.iconst 0, 1) := by decide +kernel
theorem d_Law_law_382 : decode (mC m_Law_law) 382 = .ok (.ireturn, 1) := by decide +kernel
theorem d_Law_law_383 : decode (mC m_Law_law) 383 = .ok (.goto 740, 3) := by decide +kernel
theorem d_Law_law_386 : decode (mC m_Law_law) 386 = .ok (.aload_n 1, 1) := by decide +kernel
theorem d_Law_law_387 : decode (mC m_Law_law) 387 = .ok (.invokevirtual 101, 3) := by decide +kernel
theorem d_Law_law_390 : decode (mC m_Law_law) 390 = .ok (.aload_n 2, 1) := by decide +kernel
theorem d_Law_law_391 : decode (mC m_Law_law) 391 = .ok (.invokevirtual 104, 3) := by decide +kernel
theorem d_Law_law_394 : decode (mC m_Law_law) 394 = .ok (.if_icmp .eq 729, 3) := by decide +kernel
theorem d_Law_law_397 : decode (mC m_Law_law) 397 = .ok (.iconst 0, 1) := by decide +kernel
theorem d_Law_law_398 : decode (mC m_Law_law) 398 = .ok (.ireturn, 1) := by decide +kernel
theorem d_Law_law_399 : decode (mC m_Law_law) 399 = .ok (.aload_n 1, 1) := by decide +kernel
theorem d_Law_law_400 : decode (mC m_Law_law) 400 = .ok (.aload_n 3, 1) := by decide +kernel
theorem d_Law_law_401 : decode (mC m_Law_law) 401 = .ok (.invokestatic 105, 3) := by decide +kernel
theorem d_Law_law_404 : decode (mC m_Law_law) 404 = .ok (.istore 5, 2) := by decide +kernel
theorem d_Law_law_406 : decode (mC m_Law_law) 406 = .ok (.aload_n 2, 1) := by decide +kernel
theorem d_Law_law_407 : decode (mC m_Law_law) 407 = .ok (.invokevirtual 108, 3) := by decide +kernel
theorem d_Law_law_410 : decode (mC m_Law_law) 410 = .ok (.istore 6, 2) := by decide +kernel
theorem d_Law_law_412 : decode (mC m_Law_law) 412 = .ok (.aload_n 2, 1) := by decide +kernel
theorem d_Law_law_413 : decode (mC m_Law_law) 413 = .ok (.invokevirtual 86, 3) := by decide +kernel
theorem d_Law_law_416 : decode (mC m_Law_law) 416 = .ok (.iload 5, 2) := by decide +kernel
theorem d_Law_law_418 : decode (mC m_Law_law) 418 = .ok (.if_icmp .eq 5, 3) := by decide +kernel
theorem d_Law_law_421 : decode (mC m_Law_law) 421 = .ok (.iconst 0, 1) := by decide +kernel
theorem d_Law_law_422 : decode (mC m_Law_law) 422 = .ok (.ireturn, 1) := by decide +kernel
theorem d_Law_law_423 : decode (mC m_Law_law) 423 = .ok (.iload 5, 2) := by decide +kernel
theorem d_Law_law_425 : decode (mC m_Law_law) 425 = .ok (.ifCond .ne 15, 3) := by decide +kernel
theorem d_Law_law_428 : decode (mC m_Law_law) 428 = .ok (.aload_n 3, 1) := by decide +kernel
theorem d_Law_law_429 : decode (mC m_Law_law) 429 = .ok (.iconst 0, 1) := by decide +kernel
theorem d_Law_law_430 : decode (mC m_Law_law) 430 = .ok (.laload, 1) := by decide +kernel
theorem d_Law_law_431 : decode (mC m_Law_law) 431 = .ok (.iload 6, 2) := by decide +kernel
theorem d_Law_law_433 : decode (mC m_Law_law) 433 = .ok (.i2l, 1) := by decide +kernel
theorem d_Law_law_434 : decode (mC m_Law_law) 434 = .ok (.lcmp, 1) := by decide +kernel
theorem d_Law_law_435 : decode (mC m_Law_law) 435 = .ok (.ifCond .eq 5, 3) := by decide +kernel
theorem d_Law_law_438 : decode (mC m_Law_law) 438 = .ok (.iconst 0, 1) := by decide +kernel
theorem d_Law_law_439 : decode (mC m_Law_law) 439 = .ok (.ireturn, 1) := by decide +kernel
theorem d_Law_law_440 : decode (mC m_Law_law) 440 = .ok (.goto 683, 3) := by decide +kernel
theorem d_Law_law_443 : decode (mC m_Law_law) 443 = .ok (.aload_n 1, 1) := by decide +kernel
theorem d_Law_law_444 : decode (mC m_Law_law) 444 = .ok (.aload_n 3, 1) := by decide +kernel
theorem d_Law_law_445 : decode (mC m_Law_law) 445 = .ok (.invokestatic 109, 3) := by decide +kernel
theorem d_Law_law_448 : decode (mC m_Law_law) 448 = .ok (.istore 5, 2) := by decide +kernel
theorem d_Law_law_450 : decode (mC m_Law_law) 450 = .ok (.aload_n 2, 1) := by decide +kernel
theorem d_Law_law_451 : decode (mC m_Law_law) 451 = .ok (.invokevirtual 111, 3) := by decide +kernel
theorem d_Law_law_454 : decode (mC m_Law_law) 454 = .ok (.istore 6, 2) := by decide +kernel
theorem d_Law_law_456 : decode (mC m_Law_law) 456 = .ok (.aload_n 2, 1) := by decide +kernel
theorem d_Law_law_457 : decode (mC m_Law_law) 457 = .ok (.invokevirtual 86, 3) := by decide +kernel
theorem d_Law_law_460 : decode (mC m_Law_law) 460 = .ok (.iload 5, 2) := by decide +kernel
theorem d_Law_law_462 : decode (mC m_Law_law) 462 = .ok (.if_icmp .eq 5, 3) := by decide +kernel
theorem d_Law_law_465 : decode (mC m_Law_law) 465 = .ok (.iconst 0, 1) := by decide +kernel
theorem d_Law_law_466 : decode (mC m_Law_law) 466 = .ok (.ireturn, 1) := by decide +kernel
theorem d_Law_law_467 : decode (mC m_Law_law) 467 = .ok (.iload 5, 2) := by decide +kernel
theorem d_Law_law_469 : decode (mC m_Law_law) 469 = .ok (.ifCond .ne 15, 3) := by decide +kernel
theorem d_Law_law_472 : decode (mC m_Law_law) 472 = .ok (.aload_n 3, 1) := by decide +kernel
theorem d_Law_law_473 : decode (mC m_Law_law) 473 = .ok (.iconst 0, 1) := by decide +kernel
theorem d_Law_law_474 : decode (mC m_Law_law) 474 = .ok (.laload, 1) := by decide +kernel
theorem d_Law_law_475 : decode (mC m_Law_law) 475 = .ok (.iload 6, 2) := by decide +kernel
theorem d_Law_law_477 : decode (mC m_Law_law) 477 = .ok (.i2l, 1) := by decide +kernel
theorem d_Law_law_478 : decode (mC m_Law_law) 478 = .ok (.lcmp, 1) := by decide +kernel
theorem d_Law_law_479 : decode (mC m_Law_law) 479 = .ok (.ifCond .eq 5, 3) := by decide +kernel
theorem d_Law_law_482 : decode (mC m_Law_law) 482 = .ok (.iconst 0, 1) := by decide +kernel
theorem d_Law_law_483 : decode (mC m_Law_law) 483 = .ok (.ireturn, 1) := by decide +kernel
theorem d_Law_law_484 : decode (mC m_Law_law) 484 = .ok (.goto 639, 3) := by decide +kernel
theorem d_Law_law_487 : decode (mC m_Law_law) 487 = .ok (.aload_n 1, 1) := by decide +kernel
theorem d_Law_law_488 : decode (mC m_Law_law) 488 = .ok (.invokevirtual 112, 3) := by decide +kernel
theorem d_Law_law_491 : decode (mC m_Law_law) 491 = .ok (.aload_n 2, 1) := by decide +kernel
theorem d_Law_law_492 : decode (mC m_Law_law) 492 = .ok (.invokevirtual 115, 3) := by decide +kernel
theorem d_Law_law_495 : decode (mC m_Law_law) 495 = .ok (.goto 628, 3) := by decide +kernel
theorem d_Law_law_498 : decode (mC m_Law_law) 498 = .ok (.aload_n 1, 1) := by decide +kernel
theorem d_Law_law_499 : decode (mC m_Law_law) 499 = .ok (.aload_n 0, 1) := by decide +kernel
theorem d_Law_law_500 : decode (mC m_Law_law) 500 = .ok (.iload 4, 2) := by decide +kernel
theorem d_Law_law_502 : decode (mC m_Law_law) 502 = .ok (.iconst 1, 1) := by decide +kernel
theorem d_Law_law_503 : decode (mC m_Law_law) 503 = .ok (.iadd, 1) := by decide +kernel
theorem d_Law_law_504 : decode (mC m_Law_law) 504 = .ok (.iaload, 1) := by decide +kernel
theorem d_Law_law_505 : decode (mC m_Law_law) 505 = .ok (.ifCond .eq 7, 3) := by decide +kernel
theorem d_Law_law_508 : decode (mC m_Law_law) 508 = .ok (.iconst 1, 1) := by decide +kernel
theorem d_Law_law_509 : decode (mC m_Law_law) 509 = .ok (.goto 4, 3) := by decide +kernel
theorem d_Law_law_512 : decode (mC m_Law_law) 512 = .ok (.iconst 0, 1) := by decide +kernel
theorem d_Law_law_513 : decode (mC m_Law_law) 513 = .ok (.invokevirtual 116, 3) := by decide +kernel
theorem d_Law_law_516 : decode (mC m_Law_law) 516 = .ok (.aload_n 2, 1) := by decide +kernel
theorem d_Law_law_517 : decode (mC m_Law_law) 517 = .ok (.aload_n 0, 1) := by decide +kernel
theorem d_Law_law_518 : decode (mC m_Law_law) 518 = .ok (.iload 4, 2) := by decide +kernel
theorem d_Law_law_520 : decode (mC m_Law_law) 520 = .ok (.iconst 1, 1) := by decide +kernel
theorem d_Law_law_521 : decode (mC m_Law_law) 521 = .ok (.iadd, 1) := by decide +kernel
theorem d_Law_law_522 : decode (mC m_Law_law) 522 = .ok (.iaload, 1) := by decide +kernel
theorem d_Law_law_523 : decode (mC m_Law_law) 523 = .ok (.ifCond .eq 7, 3) := by decide +kernel
theorem d_Law_law_526 : decode (mC m_Law_law) 526 = .ok (.iconst 1, 1) := by decide +kernel
theorem d_Law_law_527 : decode (mC m_Law_law) 527 = .ok (.goto 4, 3) := by decide +kernel
theorem d_Law_law_530 : decode (mC m_Law_law) 530 = .ok (.iconst 0, 1) := by decide +kernel
theorem d_Law_law_531 : decode (mC m_Law_law) 531 = .ok (.invokevirtual 120, 3) := by decide +kernel
theorem d_Law_law_534 : decode (mC m_Law_law) 534 = .ok (.goto 589, 3) := by decide +kernel
theorem d_Law_law_537 : decode (mC m_Law_law) 537 = .ok (.aload_n 1, 1) := by decide +kernel
theorem d_Law_law_538 : decode (mC m_Law_law) 538 = .ok (.aload_n 0, 1) := by decide +kernel
theorem d_Law_law_539 : decode (mC m_Law_law) 539 = .ok (.iload 4, 2) := by decide +kernel
theorem d_Law_law_541 : decode (mC m_Law_law) 541 = .ok (.iconst 1, 1) := by decide +kernel
theorem d_Law_law_542 : decode (mC m_Law_law) 542 = .ok (.iadd, 1) := by decide +kernel
theorem d_Law_law_543 : decode (mC m_Law_law) 543 = .ok (.iaload, 1) := by decide +kernel
theorem d_Law_law_544 : decode (mC m_Law_law) 544 = .ok (.aload_n 0, 1) := by decide +kernel
theorem d_Law_law_545 : decode (mC m_Law_law) 545 = .ok (.iload 4, 2) := by decide +kernel
theorem d_Law_law_547 : decode (mC m_Law_law) 547 = .ok (.iconst 2, 1) := by decide +kernel
theorem d_Law_law_548 : decode (mC m_Law_law) 548 = .ok (.iadd, 1) := by decide +kernel
theorem d_Law_law_549 : decode (mC m_Law_law) 549 = .ok (.iaload, 1) := by decide +kernel
theorem d_Law_law_550 : decode (mC m_Law_law) 550 = .ok (.aload_n 0, 1) := by decide +kernel
theorem d_Law_law_551 : decode (mC m_Law_law) 551 = .ok (.iload 4, 2) := by decide +kernel
theorem d_Law_law_553 : decode (mC m_Law_law) 553 = .ok (.iconst 3, 1) := by decide +kernel
theorem d_Law_law_554 : decode (mC m_Law_law) 554 = .ok (.iadd, 1) := by decide +kernel
theorem d_Law_law_555 : decode (mC m_Law_law) 555 = .ok (.iaload, 1) := by decide +kernel
theorem d_Law_law_556 : decode (mC m_Law_law) 556 = .ok (.ifCond .eq 7, 3) := by decide +kernel
theorem d_Law_law_559 : decode (mC m_Law_law) 559 = .ok (.iconst 1, 1) := by decide +kernel
theorem d_Law_law_560 : decode (mC m_Law_law) 560 = .ok (.goto 4, 3) := by decide +kernel
theorem d_Law_law_563 : decode (mC m_Law_law) 563 = .ok (.iconst 0, 1) := by decide +kernel
theorem d_Law_law_564 : decode (mC m_Law_law) 564 = .ok (.aload_n 3, 1) := by decide +kernel
theorem d_Law_law_565 : decode (mC m_Law_law) 565 = .ok (.invokestatic 121, 3) := by decide +kernel
theorem d_Law_law_568 : decode (mC m_Law_law) 568 = .ok (.istore 5, 2) := by decide +kernel
theorem d_Law_law_570 : decode (mC m_Law_law) 570 = .ok (.aload_n 2, 1) := by decide +kernel
theorem d_Law_law_571 : decode (mC m_Law_law) 571 = .ok (.aload_n 0, 1) := by decide +kernel
theorem d_Law_law_572 : decode (mC m_Law_law) 572 = .ok (.iload 4, 2) := by decide +kernel
theorem d_Law_law_574 : decode (mC m_Law_law) 574 = .ok (.iconst 1, 1) := by decide +kernel
theorem d_Law_law_575 : decode (mC m_Law_law) 575 = .ok (.iadd, 1) := by decide +kernel
theorem d_Law_law_576 : decode (mC m_Law_law) 576 = .ok (.iaload, 1) := by decide +kernel
theorem d_Law_law_577 : decode (mC m_Law_law) 577 = .ok (.aload_n 0, 1) := by decide +kernel
theorem d_Law_law_578 : decode (mC m_Law_law) 578 = .ok (.iload 4, 2) := by decide +kernel
theorem d_Law_law_580 : decode (mC m_Law_law) 580 = .ok (.iconst 2, 1) := by decide +kernel
theorem d_Law_law_581 : decode (mC m_Law_law) 581 = .ok (.iadd, 1) := by decide +kernel
theorem d_Law_law_582 : decode (mC m_Law_law) 582 = .ok (.iaload, 1) := by decide +kernel
theorem d_Law_law_583 : decode (mC m_Law_law) 583 = .ok (.aload_n 0, 1) := by decide +kernel
theorem d_Law_law_584 : decode (mC m_Law_law) 584 = .ok (.iload 4, 2) := by decide +kernel
theorem d_Law_law_586 : decode (mC m_Law_law) 586 = .ok (.iconst 3, 1) := by decide +kernel
theorem d_Law_law_587 : decode (mC m_Law_law) 587 = .ok (.iadd, 1) := by decide +kernel
theorem d_Law_law_588 : decode (mC m_Law_law) 588 = .ok (.iaload, 1) := by decide +kernel
theorem d_Law_law_589 : decode (mC m_Law_law) 589 = .ok (.ifCond .eq 7, 3) := by decide +kernel
theorem d_Law_law_592 : decode (mC m_Law_law) 592 = .ok (.iconst 1, 1) := by decide +kernel
theorem d_Law_law_593 : decode (mC m_Law_law) 593 = .ok (.goto 4, 3) := by decide +kernel
theorem d_Law_law_596 : decode (mC m_Law_law) 596 = .ok (.iconst 0, 1) := by decide +kernel
theorem d_Law_law_597 : decode (mC m_Law_law) 597 = .ok (.invokevirtual 124, 3) := by decide +kernel
theorem d_Law_law_600 : decode (mC m_Law_law) 600 = .ok (.istore 6, 2) := by decide +kernel
theorem d_Law_law_602 : decode (mC m_Law_law) 602 = .ok (.aload_n 2, 1) := by decide +kernel
theorem d_Law_law_603 : decode (mC m_Law_law) 603 = .ok (.invokevirtual 86, 3) := by decide +kernel
theorem d_Law_law_606 : decode (mC m_Law_law) 606 = .ok (.iload 5, 2) := by decide +kernel
theorem d_Law_law_608 : decode (mC m_Law_law) 608 = .ok (.if_icmp .eq 5, 3) := by decide +kernel
theorem d_Law_law_611 : decode (mC m_Law_law) 611 = .ok (.iconst 0, 1) := by decide +kernel
theorem d_Law_law_612 : decode (mC m_Law_law) 612 = .ok (.ireturn, 1) := by decide +kernel
theorem d_Law_law_613 : decode (mC m_Law_law) 613 = .ok (.iload 5, 2) := by decide +kernel
theorem d_Law_law_615 : decode (mC m_Law_law) 615 = .ok (.ifCond .ne 15, 3) := by decide +kernel