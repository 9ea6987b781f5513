/-! What all walks share: what a method comes to; fresh objects; words of Object, Math, System; words of what is thrown. -/
def oV (_ : Unit) : Outcome := .returned none
def oI (x : Int32) : Outcome := .returned (some (.int x))
def oJ (x : Int64) : Outcome := .returned (some (.long x))
def oIT (z : Nat) : Int32 ⊕ Nat → Outcome
  | .inl x => .returned (some (.int x))
  | .inr k => .threw (z + k)
def oVT (z : Nat) : Unit ⊕ Nat → Outcome
  | .inl _ => .returned none
  | .inr k => .threw (z + k)
def R_Law : String := "ZipArrayLaw"
def znew (w : zW) (c : zC) : Option zW := some (w ++ [c])
section Nw
variable {G : zG} {M : zM} {pc : Nat} {lv : List (Nat × Value)} {st : List Value} {w w1 w2 : zW} {n1 n2 : Nat} {o : Outcome}
theorem U_new {ci N i : Nat} {C : String} {T : u_T} {fs : List zF} (t : Nat → FieldType) (hd : decode (mC M) pc = .ok (.new i, 3)) (hx : znew w (.inr (.inr (.inr (ci, fs)))) = some w2) (hc : zCl[ci]? = some (C, T, N)) (hin : ∀ x ∈ u_ws C T N, x ∈ zTb) (hcl : Cond.classLink (mY M).cls i C ∈ zTb) (hins : Cond.instantiable C N ∈ zTb) (hini : Cond.initialized C ∈ zTb)
    (hty : ∀ k, k < N → parseFieldDescriptor (T k).2.2.1 = some (t k)) (hfs : ∀ z j, j < N → defaultValue (t j) = vp_V (fs.map (fdv z)) j) (h1 : n1 + 1 ≤ (mR M).cells) (h2 : n2 + N ≤ (mR M).slots)
    (kk : zV G M (pc + 3) lv (.ref (z0 G + w.length) :: st) w2 (n1 + 1) (n2 + N) o w1) : zV G M pc lv st w n1 n2 o w1 := by
  obtain rfl := Option.some.inj hx
  exact V_new t hd hc hin hcl hins hini hty hfs h1 h2 kk
theorem U_newI {n : Int32} {N : Nat} (hd : decode (mC M) pc = .ok (.newarray .int, 2)) (hx : znew w (.inl (List.replicate N 0)) = some w2) (hw : Cond.arrayClass .int ∈ zTb) (hn : ¬ n < 0) (hN : n.toNatClampNeg = N) (hb : N ≤ 100000) (h1 : n1 + 1 ≤ (mR M).cells) (h2 : n2 + N ≤ (mR M).slots)
    (kk : zV G M (pc + 2) lv (.ref (z0 G + w.length) :: st) w2 (n1 + 1) (n2 + N) o w1) : zV G M pc lv (.int n :: st) w n1 n2 o w1 := by
  obtain rfl := Option.some.inj hx
  exact V_newI hd hw hn hN hb h1 h2 kk
theorem U_newE {i N : Nat} {n : Int32} (hd : decode (mC M) pc = .ok (.anewarray i, 3)) (hx : znew w (.inr (.inr (.inl (List.replicate N none)))) = some w2) (hcl : Cond.classLink (mY M).cls i "ZipArray$Entry" ∈ zTb) (hw : Cond.arrayOver (.object "ZipArray$Entry") ∈ zTb) (hn : ¬ n < 0) (hN : n.toNatClampNeg = N) (hb : N ≤ 100000) (h1 : n1 + 1 ≤ (mR M).cells) (h2 : n2 + N ≤ (mR M).slots)
    (kk : zV G M (pc + 3) lv (.ref (z0 G + w.length) :: st) w2 (n1 + 1) (n2 + N) o w1) : zV G M pc lv (.int n :: st) w n1 n2 o w1 := by
  obtain rfl := Option.some.inj hx
  exact V_newE hd hcl hw hn hN hb h1 h2 kk
end Nw

def fs_Row : List zF := [.inr none, .inl 0, .inl 0]
theorem df_Row : ∀ (z j : Nat), j < 3 → defaultValue (t_Row j) = vp_V (fs_Row.map (fdv z)) j
  | _, 0, _ => rfl
  | _, 1, _ => rfl
  | _, 2, _ => rfl
  | _, j + 3, h => absurd h (by omega)
def fs_Entry : List zF := [.inl 0, .inl 0, .inl 0, .inl 0, .inl 0, .inl 0, .inl 0, .inl 0, .inl 0]
theorem df_Entry : ∀ (z j : Nat), j < 9 → defaultValue (t_Entry j) = vp_V (fs_Entry.map (fdv z)) j
  | _, 0, _ => rfl
  | _, 1, _ => rfl
  | _, 2, _ => rfl
  | _, 3, _ => rfl
  | _, 4, _ => rfl
  | _, 5, _ => rfl
  | _, 6, _ => rfl
  | _, 7, _ => rfl
  | _, 8, _ => rfl
  | _, j + 9, h => absurd h (by omega)
def fs_Extras : List zF := [.inr none, .inl 0, .inl 0, .inl 0, .inl 0]
theorem df_Extras : ∀ (z j : Nat), j < 5 → defaultValue (t_Extras j) = vp_V (fs_Extras.map (fdv z)) j
  | _, 0, _ => rfl
  | _, 1, _ => rfl
  | _, 2, _ => rfl
  | _, 3, _ => rfl
  | _, 4, _ => rfl
  | _, j + 5, h => absurd h (by omega)
def fs_Packer : List zF := [.inr none, .inl 0, .inl 0, .inl 0, .inl 0]
theorem df_Packer : ∀ (z j : Nat), j < 5 → defaultValue (t_Packer j) = vp_V (fs_Packer.map (fdv z)) j
  | _, 0, _ => rfl
  | _, 1, _ => rfl
  | _, 2, _ => rfl
  | _, 3, _ => rfl
  | _, 4, _ => rfl
  | _, j + 5, h => absurd h (by omega)
def fs_Code : List zF := [.inr none, .inr none, .inr none]
theorem df_Code : ∀ (z j : Nat), j < 3 → defaultValue (t_Code j) = vp_V (fs_Code.map (fdv z)) j
  | _, 0, _ => rfl
  | _, 1, _ => rfl
  | _, 2, _ => rfl
  | _, j + 3, h => absurd h (by omega)
def fs_Unpacker : List zF := [.inr none, .inr none, .inr none, .inr none, .inr none, .inr none, .inl 0, .inl 0]
theorem df_Unpacker : ∀ (z j : Nat), j < 8 → defaultValue (t_Unpacker j) = vp_V (fs_Unpacker.map (fdv z)) j
  | _, 0, _ => rfl
  | _, 1, _ => rfl
  | _, 2, _ => rfl
  | _, 3, _ => rfl
  | _, 4, _ => rfl
  | _, 5, _ => rfl
  | _, 6, _ => rfl
  | _, 7, _ => rfl
  | _, j + 8, h => absurd h (by omega)
def fs_Archive : List zF := [.inr none, .inr none, .inr none, .inl 0, .inl 0, .inl 0, .inl 0]
theorem df_Archive : ∀ (z j : Nat), j < 7 → defaultValue (t_Archive j) = vp_V (fs_Archive.map (fdv z)) j
  | _, 0, _ => rfl
  | _, 1, _ => rfl
  | _, 2, _ => rfl
  | _, 3, _ => rfl
  | _, 4, _ => rfl
  | _, 5, _ => rfl
  | _, 6, _ => rfl
  | _, j + 7, h => absurd h (by omega)
def fs_Writer : List zF := [.inr none, .inl 0]
theorem df_Writer : ∀ (z j : Nat), j < 2 → defaultValue (t_Writer j) = vp_V (fs_Writer.map (fdv z)) j
  | _, 0, _ => rfl
  | _, 1, _ => rfl
  | _, j + 2, h => absurd h (by omega)
def fs_Zip : List zF := [.inr none, .inr none, .inr none, .inr none, .inr none, .inr none, .inr none, .inr none, .inr none]
theorem df_Zip : ∀ (z j : Nat), j < 9 → defaultValue (t_Zip j) = vp_V (fs_Zip.map (fdv z)) j
  | _, 0, _ => rfl
  | _, 1, _ => rfl
  | _, 2, _ => rfl
  | _, 3, _ => rfl
  | _, 4, _ => rfl
  | _, 5, _ => rfl
  | _, 6, _ => rfl
  | _, 7, _ => rfl
  | _, 8, _ => rfl
  | _, j + 9, h => absurd h (by omega)
def fs_Model : List zF := [.inl 0, .inl 0, .inr none, .inl 0, .inr none, .inl 0, .inl 0, .inr none, .inl 0, .inr none, .inl 0, .inl 0, .inr none, .inr none, .inr none, .inr none, .inl 0, .inl 0, .inl 0, .inl 0, .inr none, .inr none, .inr none, .inr none, .inr none, .inr none, .inr none, .inr none, .inr none, .inr none, .inr none, .inl 0, .inr none]
theorem df_Model : ∀ (z j : Nat), j < 33 → defaultValue (t_Model j) = vp_V (fs_Model.map (fdv z)) j
  | _, 0, _ => rfl
  | _, 1, _ => rfl
  | _, 2, _ => rfl
  | _, 3, _ => rfl
  | _, 4, _ => rfl
  | _, 5, _ => rfl
  | _, 6, _ => rfl
  | _, 7, _ => rfl
  | _, 8, _ => rfl
  | _, 9, _ => rfl
  | _, 10, _ => rfl
  | _, 11, _ => rfl
  | _, 12, _ => rfl
  | _, 13, _ => rfl
  | _, 14, _ => rfl
  | _, 15, _ => rfl
  | _, 16, _ => rfl
  | _, 17, _ => rfl
  | _, 18, _ => rfl
  | _, 19, _ => rfl
  | _, 20, _ => rfl
  | _, 21, _ => rfl
  | _, 22, _ => rfl
  | _, 23, _ => rfl
  | _, 24, _ => rfl
  | _, 25, _ => rfl
  | _, 26, _ => rfl
  | _, 27, _ => rfl
  | _, 28, _ => rfl
  | _, 29, _ => rfl
  | _, 30, _ => rfl
  | _, 31, _ => rfl
  | _, 32, _ => rfl
  | _, j + 33, h => absurd h (by omega)
theorem kobj1 : Cond.instanceMethod Lib.objectInit ∈ zTb := tb_at 28 (by decide +kernel) rfl
theorem kobj2 : Cond.code Lib.objectInit ⟨#[0xb1]⟩ 1 none ∈ zTb := tb_at 29 (by decide +kernel) rfl
theorem kmin1 : Cond.static Lib.Math.min.name ∈ zTb := tb_at 688 (by decide +kernel) rfl
theorem kmin2 : Cond.initialized "java/lang/Math" ∈ zTb := tb_at 17 (by decide +kernel) rfl
theorem kmin3 : Cond.code Lib.Math.min.name Lib.Math.min.code 2 (some .int) ∈ zTb := tb_at 689 (by decide +kernel) rfl
theorem kcpy1 : Cond.native arraycopyName ∈ zTb := tb_at 323 (by decide +kernel) rfl
theorem kcpy2 : Cond.static arraycopyName ∈ zTb := tb_at 322 (by decide +kernel) rfl
theorem kcpy3 : Cond.initialized "java/lang/System" ∈ zTb := tb_at 18 (by decide +kernel) rfl
def zHas (a : Cond) : Bool := (decide (a ∈ lw_tbl) && gw a) || decide (a ∈ zSt)
theorem zHas_ok {a : Cond} (h : zHas a = true) : a ∈ zTb ∨ a ∈ zSt := by
  simp only [zHas, Bool.or_eq_true, Bool.and_eq_true, decide_eq_true_eq] at h
  exact h.imp (fun q => List.mem_filter.mpr q) id
def zB (X : String) : List Cond := ((Bundle.ownAtoms0 "" 0 X zNm).drop (Bundle.throwableAtoms ++ Bundle.chain0Atoms X zNm).length).tail
theorem zB_eq (own : String) (ic : Nat) (X : String) : Bundle.ownAtoms0 own ic X zNm = (Bundle.throwableAtoms ++ Bundle.chain0Atoms X zNm) ++ (.methodLink own ic (Bundle.init0 X) :: zB X) := by
  unfold zB Bundle.ownAtoms0
  rw [List.drop_left]
  rfl
theorem zAt_of {own X : String} {ic : Nat} (h1 : (Bundle.chain0Atoms X zNm ++ zB X).all zHas = true) (h0 : Bundle.throwableAtoms.all zHas = true) (h : Cond.methodLink own ic (Bundle.init0 X) ∈ zTb) : zAt own ic X := by
  intro a ha
  rw [zB_eq] at ha
  rcases List.mem_append.mp ha with ha | ha
  · rcases List.mem_append.mp ha with ha | ha
    · exact zHas_ok (List.all_eq_true.mp h0 a ha)
    · exact zHas_ok (List.all_eq_true.mp h1 a (List.mem_append_left _ ha))
  · rcases List.mem_cons.mp ha with rfl | ha
    · exact Or.inl h
    · exact zHas_ok (List.all_eq_true.mp h1 a (List.mem_append_right _ ha))
theorem at_0 : Bundle.throwableAtoms.all zHas = true := by decide +kernel
theorem at_IAE {own : String} {ic : Nat} (h : Cond.methodLink own ic (Bundle.init0 R_IAE) ∈ zTb) : zAt own ic R_IAE := zAt_of (by decide +kernel) at_0 h
theorem at_ISE {own : String} {ic : Nat} (h : Cond.methodLink own ic (Bundle.init0 R_ISE) ∈ zTb) : zAt own ic R_ISE := zAt_of (by decide +kernel) at_0 h
theorem at_IOOBE {own : String} {ic : Nat} (h : Cond.methodLink own ic (Bundle.init0 R_IOOBE) ∈ zTb) : zAt own ic R_IOOBE := zAt_of (by decide +kernel) at_0 h
theorem at_AE {own : String} {ic : Nat} (h : Cond.methodLink own ic (Bundle.init0 R_AE) ∈ zTb) : zAt own ic R_AE := zAt_of (by decide +kernel) at_0 h
theorem at_UOE {own : String} {ic : Nat} (h : Cond.methodLink own ic (Bundle.init0 R_UOE) ∈ zTb) : zAt own ic R_UOE := zAt_of (by decide +kernel) at_0 h
theorem at_NSEE {own : String} {ic : Nat} (h : Cond.methodLink own ic (Bundle.init0 R_NSEE) ∈ zTb) : zAt own ic R_NSEE := zAt_of (by decide +kernel) at_0 h
