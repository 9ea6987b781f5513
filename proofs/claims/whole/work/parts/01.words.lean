/-! The words of the tables that stay true under warmer tables, whatever the arguments and the heap: zTb. -/
def gw : Cond → Bool
  | .arrayClass _ => true
  | .arrayOver (.object _) => true
  | .declares _ => true
  | .castable _ _ => true
  | .privateMethod _ => true
  | .methodLinkNest .. => true
  | w => w.onTables && w.keeps
theorem gw_mv {w : Cond} (h : gw w = true) {args a' : Array Value} {s U : State} (hW : s.WarmedH U.vm) (hb : w.before args s = true) : w.before a' U = true := by
  cases w with
  | arrayClass ty => exact word_at hW (Or.inr ⟨_, rfl⟩) hb
  | arrayOver ty =>
    cases ty with
    | object C => exact va_AO.use (va_AO.moved hW.alike (va_AO.of hb))
    | _ => simp [gw, Cond.onTables] at h
  | declares x => exact (Cond.before_shiftedFace (State.Shifted.of_warmed hW) _ rfl hb : (Cond.declares x).before args (s.setVm U.vm) = true)
  | castable x y => exact (Cond.before_shiftedFace (State.Shifted.of_warmed hW) _ rfl hb : (Cond.castable x y).before args (s.setVm U.vm) = true)
  | privateMethod x => exact (Cond.before_shiftedFace (State.Shifted.of_warmed hW) _ rfl hb : (Cond.privateMethod x).before args (s.setVm U.vm) = true)
  | methodLinkNest a b c d =>
    have h1 := Cond.onTables_warmH (T := U) (args' := a') hW (c := .methodLinkNest a b c d) rfl rfl hb
    rwa [State.setVm_self] at h1
  | _ => exact word_at hW (Or.inl h) hb
def zTb : List Cond := lw_tbl.filter gw
theorem tbl_gw {w : Cond} (h : w ∈ zTb) : gw w = true := (List.mem_filter.mp h).2
theorem tbl_mv {args a' : Array Value} {s U : State} (hW : s.WarmedH U.vm) (h : ∀ w ∈ zTb, w.before args s = true) : ∀ w ∈ zTb, w.before a' U = true := fun w hw => gw_mv (tbl_gw hw) hW (h w hw)
theorem in_of {ws : List Cond} (ps : List Nat) (h : ws = ps.filterMap (fun i => tables_1[i]?)) (hg : ws.all gw = true) : ∀ w ∈ ws, w ∈ zTb := by
  intro w hw
  refine List.mem_filter.mpr ⟨?_, List.all_eq_true.mp hg w hw⟩
  rw [h] at hw
  obtain ⟨i, -, hi⟩ := List.mem_filterMap.mp hw
  exact List.mem_append_right _ (List.mem_of_getElem? hi)
theorem tb_at {w : Cond} (i : Nat) (h : tables_1[i]? = some w) (hg : gw w = true) : w ∈ zTb := List.mem_filter.mpr ⟨List.mem_append_right _ (List.mem_of_getElem? h), hg⟩
theorem sel_at {y : MethodName} (i : Nat) {n : Nat} (h : lw_privs[i]? = some (y, n)) : Cond.selects y.cls y y ∈ zTb := List.mem_filter.mpr ⟨List.mem_append_left _ (List.mem_map.mpr ⟨(y, n), List.mem_of_getElem? h, rfl⟩), rfl⟩
theorem tb_good : ∀ w ∈ tables_1, gw w = true ∨ ∃ a b c, w = .laysStatic a b c := by
  have h : tables_1.all (fun w => gw w || (match w with | .laysStatic _ _ _ => true | _ => false)) = true := by decide +kernel
  intro w hw
  have h1 := List.all_eq_true.mp h w hw
  rw [Bool.or_eq_true] at h1
  rcases h1 with h1 | h1
  · exact Or.inl h1
  · cases w <;> first | exact Or.inr ⟨_, _, _, rfl⟩ | cases h1
