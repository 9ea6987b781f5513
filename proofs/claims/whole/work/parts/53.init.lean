/-! The world behind the constructors. -/
def W0 : zW := [.inr (.inr (.inr (8, zipF))),
  .inr (.inr (.inr (0, [.inr (some 2), .inl 0, .inl 0]))),
  .inl (List.replicate 200 0),
  .inr (.inr (.inr (0, [.inr (some 4), .inl 0, .inl 0]))),
  .inl (List.replicate 1600 0),
  .inr (.inr (.inr (0, [.inr (some 6), .inl 0, .inl 0]))),
  .inl (List.replicate 227 0),
  .inr (.inr (.inr (0, [.inr (some 8), .inl 0, .inl 0]))),
  .inl (List.replicate 200 0),
  .inr (.inr (.inr (3, [.inr (some 5), .inl 0, .inl 0, .inl 0, .inl 0]))),
  .inr (.inr (.inr (5, [.inr (some 7), .inr (some 11), .inr (some 15), .inr (some 19), .inr (some 23), .inr (some 7), .inl 0, .inl 0]))),
  .inr (.inr (.inr (4, [.inr (some 12), .inr (some 13), .inr (some 14)]))),
  .inl (List.replicate 16 0),
  .inl (List.replicate 19 0),
  .inl (List.replicate 16 0),
  .inr (.inr (.inr (4, [.inr (some 16), .inr (some 17), .inr (some 18)]))),
  .inl (List.replicate 16 0),
  .inl (List.replicate 288 0),
  .inl (List.replicate 16 0),
  .inr (.inr (.inr (4, [.inr (some 20), .inr (some 21), .inr (some 22)]))),
  .inl (List.replicate 16 0),
  .inl (List.replicate 32 0),
  .inl (List.replicate 16 0),
  .inl (List.replicate 320 0),
  .inr (.inr (.inr (6, [.inr (some 3), .inr (some 25), .inr (some 26), .inl 0, .inl 0, .inl 0, .inl 0]))),
  .inr (.inr (.inr (2, [.inr (some 3), .inl 0, .inl 0, .inl 0, .inl 0]))),
  .inr (.inr (.inl ents)),
  .inr (.inr (.inr (1, entF (fun _ => 0)))),
  .inr (.inr (.inr (1, entF (fun _ => 0)))),
  .inr (.inr (.inr (1, entF (fun _ => 0)))),
  .inr (.inr (.inr (1, entF (fun _ => 0)))),
  .inr (.inr (.inr (1, entF (fun _ => 0)))),
  .inr (.inr (.inr (1, entF (fun _ => 0)))),
  .inr (.inr (.inr (1, entF (fun _ => 0)))),
  .inr (.inr (.inr (1, entF (fun _ => 0)))),
  .inr (.inr (.inr (7, [.inr (some 36), .inl 0]))),
  .inr (.inr (.inr (0, [.inr (some 37), .inl 0, .inl 0]))),
  .inl (List.replicate 1600 0),
  .inr (.inr (.inr (1, entF (fun _ => 0)))),
  .inr (.inr (.inr (9, mkM (fun _ => 0)))),
  .inl (List.replicate 200 0),
  .inl (List.replicate 1600 0),
  .inl (List.replicate 400 0),
  .inl (List.replicate 1600 0),
  .inl (List.replicate 339 0),
  .inl (List.replicate 339 0),
  .inl (List.replicate 320 0),
  .inl mOrd,
  .inl (List.replicate 8 0),
  .inl (List.replicate 8 0),
  .inl (List.replicate 8 0),
  .inl (List.replicate 8 0),
  .inl (List.replicate 8 0),
  .inl (List.replicate 8 0),
  .inl (List.replicate 8 0),
  .inl (List.replicate 8 0),
  .inl (List.replicate 8 0),
  .inl (List.replicate 8 0),
  .inl (List.replicate 8 0),
  .inl (List.replicate 1700 0),
  .inr (.inl [0])]
theorem zi_F (F q : Nat) (w : zW) : f_Zip_init F q w = f_Zip_init 0 q w := by
  simp only [f_Zip_init, b_Zip_init_0, f_Row_init, b_Row_init_0, f_Packer_init, b_Packer_init_0, f_Unpacker_init, b_Unpacker_init_0, f_Code_init, b_Code_init_0, f_Archive_init, b_Archive_init_0, f_Extras_init, b_Extras_init_0, f_Entry_init, b_Entry_init_0, f_Writer_init, b_Writer_init_0]
theorem mi_F (F q : Nat) (w : zW) : f_Model_init F q w = f_Model_init 0 q w := by
  simp only [f_Model_init, b_Model_init_0]
def dq_5 : DecidableEq (Nat × List zF) := inferInstance
def dq_7 : DecidableEq (List (Option Nat) ⊕ (Nat × List zF)) := @instDecidableEqSum _ _ inferInstance dq_5
def dq_6 : DecidableEq (List Int64 ⊕ (List (Option Nat) ⊕ (Nat × List zF))) := @instDecidableEqSum _ _ inferInstance dq_7
def dq_C : DecidableEq zC := @instDecidableEqSum _ _ inferInstance dq_6
def dq_W : DecidableEq zW := @instDecidableEqList _ dq_C
def dq_P : DecidableEq (Unit × zW) := @instDecidableEqProd _ _ inferInstance dq_W
def dq_R : DecidableEq (Option (Unit × zW)) := fun a b => match a, b with
  | none, none => isTrue rfl
  | none, some _ => isFalse nofun
  | some _, none => isFalse nofun
  | some x, some y => match dq_P x y with
    | isTrue h => isTrue (congrArg some h)
    | isFalse h => isFalse (fun q => h (Option.some.inj q))
def WZ : zW := W0.take 39
def WM : zW := W0.take 60
set_option maxRecDepth 100000 in
theorem zi_eq : f_Zip_init 0 0 [.inr (.inr (.inr (8, fs_Zip)))] = some ((), WZ) := @of_decide_eq_true _ (dq_R _ _) (by decide +kernel)
set_option maxRecDepth 100000 in
theorem mi_eq : f_Model_init 0 39 (WZ ++ [.inr (.inr (.inr (9, fs_Model)))]) = some ((), WM) := @of_decide_eq_true _ (dq_R _ _) (by decide +kernel)
set_option maxRecDepth 100000 in
theorem w0_eq : WM ++ [.inr (.inl (List.replicate 1 0))] = W0 := @of_decide_eq_true _ (dq_W _ _) (by decide +kernel)
theorem init_eq (F : Nat) (sc : List Int32) : b_Law_law_0 F sc [] = l_Law_law_23 F sc 513 0 39 60 0 W0 := by
  unfold b_Law_law_0
  simp only [znew, Option.bind_some, List.nil_append, List.length_nil]
  rw [zi_F, zi_eq, Option.bind_some]
  have h1 : WZ.length = 39 := by decide +kernel
  have h2 : WM.length = 60 := by decide +kernel
  simp only [h1]
  rw [mi_F, mi_eq, Option.bind_some]
  simp only [h2, w0_eq]
theorem rep_rw {w : zW} {r a cap : Nat} (h1 : zobj w r 0 = some (rowF a 0 0)) (h2 : zints w a = some (List.replicate cap 0)) (h3 : cap ≤ 1600) : rw_ w r a cap [] 0 :=
  ⟨_, ⟨h1, h2, Nat.zero_le _, by simpa using h3⟩, rfl, by simp⟩
theorem W0_II : II W0 := by
  refine ⟨[], [], 0, fun _ => 0, ⟨rfl, ⟨0, rep_rw rfl rfl (by decide)⟩, ⟨0, rep_rw rfl rfl (by decide)⟩, rfl, ⟨0, 0, rfl, ⟨_, rfl, List.length_replicate⟩⟩, ⟨0, 0, rfl, ⟨_, rfl, List.length_replicate⟩⟩, ⟨0, 0, rfl, ⟨_, rfl, List.length_replicate⟩⟩, ⟨0, 0, 0, 0, rfl⟩, ⟨7, 0, 0, rfl⟩, ⟨rfl, ⟨_, rfl, List.length_replicate⟩, ⟨_, rfl, List.length_replicate⟩, ⟨_, rfl, List.length_replicate⟩⟩, ⟨rfl, ⟨_, rfl, List.length_replicate⟩, ⟨_, rfl, List.length_replicate⟩, ⟨_, rfl, List.length_replicate⟩⟩, ⟨rfl, ⟨_, rfl, List.length_replicate⟩, ⟨_, rfl, List.length_replicate⟩, ⟨_, rfl, List.length_replicate⟩⟩, ⟨_, rfl, List.length_replicate⟩, ⟨0, 0, 0, 0, rfl⟩, ⟨0, 0, 0, 0, rfl⟩, rfl, ?_, ⟨fun _ => 0, rfl⟩⟩, ?_, Or.inl rfl, by decide, by decide, (fun _ h => absurd h List.not_mem_nil), (fun _ h => absurd h List.not_mem_nil), ⟨0, rfl⟩, by decide⟩
  · intro k hk
    refine ⟨fun _ => 0, ?_⟩
    match k, hk with
    | 0, _ => rfl
    | 1, _ => rfl
    | 2, _ => rfl
    | 3, _ => rfl
    | 4, _ => rfl
    | 5, _ => rfl
    | 6, _ => rfl
    | 7, _ => rfl
  · refine ⟨rfl, rfl, rfl, rfl, ⟨_, rfl, List.length_replicate, rfl⟩, ⟨_, rfl, List.length_replicate, rfl⟩, rfl, ?_⟩
    exact ⟨⟨_, rfl, List.length_replicate⟩, ⟨_, rfl, List.length_replicate⟩, ⟨_, rfl, List.length_replicate⟩, ⟨_, rfl, List.length_replicate⟩, ⟨_, rfl, List.length_replicate⟩, ⟨_, rfl, List.length_replicate⟩, ⟨_, rfl, List.length_replicate⟩, ⟨_, rfl, List.length_replicate⟩, ⟨_, rfl, List.length_replicate⟩, ⟨_, rfl, List.length_replicate⟩, ⟨_, rfl, List.length_replicate⟩, ⟨_, rfl, List.length_replicate⟩, ⟨_, rfl, List.length_replicate⟩, ⟨_, rfl, List.length_replicate⟩, ⟨_, rfl, List.length_replicate⟩, ⟨_, rfl, List.length_replicate⟩, ⟨_, rfl, List.length_replicate⟩⟩
