/-! Reads and writes of the world, and their rows. -/
def zobj (w : zW) (q ci : Nat) : Option (List zF) := match w[q]? with
  | some (.inr (.inr (.inr (c, fs)))) => if c = ci then some fs else none
  | _ => none
def zints (w : zW) (q : Nat) : Option (List Int32) := match w[q]? with
  | some (.inl xs) => some xs
  | _ => none
def zlongs (w : zW) (q : Nat) : Option (List Int64) := match w[q]? with
  | some (.inr (.inl xs)) => some xs
  | _ => none
def zrefs (w : zW) (q : Nat) : Option (List (Option Nat)) := match w[q]? with
  | some (.inr (.inr (.inl xs))) => some xs
  | _ => none
theorem zobj_at {w : zW} {q ci : Nat} {fs : List zF} (h : zobj w q ci = some fs) : w[q]? = some (.inr (.inr (.inr (ci, fs)))) := by
  unfold zobj at h
  split at h
  · rename_i c fs' e
    split at h
    · rename_i hc
      subst hc
      rw [e, Option.some.inj h]
    · cases h
  · cases h
theorem zints_at {w : zW} {q : Nat} {xs : List Int32} (h : zints w q = some xs) : w[q]? = some (.inl xs) := by
  unfold zints at h
  split at h
  · rename_i e
    rw [e, Option.some.inj h]
  · cases h
theorem zlongs_at {w : zW} {q : Nat} {xs : List Int64} (h : zlongs w q = some xs) : w[q]? = some (.inr (.inl xs)) := by
  unfold zlongs at h
  split at h
  · rename_i e
    rw [e, Option.some.inj h]
  · cases h
theorem zrefs_at {w : zW} {q : Nat} {xs : List (Option Nat)} (h : zrefs w q = some xs) : w[q]? = some (.inr (.inr (.inl xs))) := by
  unfold zrefs at h
  split at h
  · rename_i e
    rw [e, Option.some.inj h]
  · cases h
theorem ob {α β : Type} {x : Option α} {f : α → Option β} {b : β} (h : x.bind f = some b) : ∃ a, x = some a ∧ f a = some b := by
  cases x with
  | none => cases h
  | some a => exact ⟨a, rfl, h⟩
/-- a field that holds a number; a reference -/
def zfi : Option zF → Option Int32
  | some (.inl x) => some x
  | _ => none
def zfr : Option zF → Option Nat
  | some (.inr (some r)) => some r
  | _ => none
theorem zfi_at {x : Option zF} {v : Int32} (h : zfi x = some v) : x = some (.inl v) := by
  unfold zfi at h
  split at h
  · rw [Option.some.inj h]
  · cases h
theorem zfr_at {x : Option zF} {v : Nat} (h : zfr x = some v) : x = some (.inr (some v)) := by
  unfold zfr at h
  split at h
  · rw [Option.some.inj h]
  · cases h
def getI (w : zW) (q ci k : Nat) : Option Int32 := (zobj w q ci).bind fun fs => zfi fs[k]?
def getR (w : zW) (q ci k : Nat) : Option Nat := (zobj w q ci).bind fun fs => zfr fs[k]?
def putI (w : zW) (q ci k : Nat) (x : Int32) : Option zW := (zobj w q ci).bind fun fs => if k < fs.length then some (w.set q (.inr (.inr (.inr (ci, fs.set k (.inl x)))))) else none
def putR (w : zW) (q ci k : Nat) (x : Nat) : Option zW := (zobj w q ci).bind fun fs => if k < fs.length then some (w.set q (.inr (.inr (.inr (ci, fs.set k (.inr (some x))))))) else none
def alen (w : zW) (q : Nat) : Option Int32 := (zints w q).map fun xs => Int32.ofNat xs.length
def aget (w : zW) (q : Nat) (i : Int32) : Option Int32 := (zints w q).bind fun xs => if i < 0 then none else xs[i.toNatClampNeg]?
def aset (w : zW) (q : Nat) (i : Int32) (x : Int32) : Option zW := (zints w q).bind fun xs => if i < 0 ∨ xs.length ≤ i.toNatClampNeg then none else some (w.set q (.inl (xs.set i.toNatClampNeg x)))
def lget (w : zW) (q : Nat) (i : Int32) : Option Int64 := (zlongs w q).bind fun xs => if i < 0 then none else xs[i.toNatClampNeg]?
def lset (w : zW) (q : Nat) (i : Int32) (x : Int64) : Option zW := (zlongs w q).bind fun xs => if i < 0 ∨ xs.length ≤ i.toNatClampNeg then none else some (w.set q (.inr (.inl (xs.set i.toNatClampNeg x))))
def rget (w : zW) (q : Nat) (i : Int32) : Option Nat := (zrefs w q).bind fun xs => if i < 0 then none else (xs[i.toNatClampNeg]?).bind id
def rlen (w : zW) (q : Nat) : Option Int32 := (zrefs w q).map fun xs => Int32.ofNat xs.length
def rset (w : zW) (q : Nat) (i : Int32) (x ci : Nat) : Option zW := (zobj w x ci).bind fun _ => (zrefs w q).bind fun xs => if i < 0 ∨ xs.length ≤ i.toNatClampNeg then none else some (w.set q (.inr (.inr (.inl (xs.set i.toNatClampNeg (some x))))))
theorem zR.set {G : zG} {w : zW} {H1 : Heap} {locs : List Loc} {q : Nat} {c : zC} {e : va_E} (he : e = img G c) (hP : va_P (gD G) zCl ((wsO G w).set q (z0 G + q, e)) H1) (hS : va_S (zA G) (gH G) H1 locs) (hz : H1.size = z0 G + w.length) : zR G (w.set q c) H1 locs :=
  ⟨by rw [wsO_set e he]; exact hP, hS, by rw [List.length_set]; exact hz⟩
section H
variable {G : zG} {M : zM} {pc : Nat} {lv : List (Nat × Value)} {st : List Value} {w w1 : zW} {n1 n2 : Nat} {o : Outcome}
theorem V_get {ci k N i q : Nat} {C : String} {T : u_T} {fs : List zF} {f : zF} (hd : decode (mC M) pc = .ok (.getfield i, 3)) (hw : zobj w q ci = some fs) (hv : fs[k]? = some f) (hc : zCl[ci]? = some (C, T, N)) (hk : k < N) (hin : ∀ x ∈ u_ws C T N, x ∈ zTb) (hl0 : Cond.fieldLink (mY M).cls i (T k).1 (T k).2.1 (T k).2.2.1 ∈ zTb)
    (kk : zV G M (pc + 3) lv (fdv (z0 G) f :: st) w n1 n2 o w1) : zV G M pc lv (.ref (z0 G + q) :: st) w n1 n2 o w1 := fun p e s m args below meth c H ls locs E hl hR =>
  va_get (D := gD G) (cl := zCl) (tys := zTy G) (ci := ci) (v := fdv (z0 G) f) E.1 E.2.1 E.2.2.2.2.2.2.2.2.1 hin E.2.2.2.2.1 E.2.2.2.2.2.2.2.2.2.1.1 hR.1 q (wsO_at (zobj_at hw)) hc k hk (E.2.2.2.2.2.2.2.2.1 _ hl0) (fun _ h => h) (by rw [List.getElem?_map, hv]; rfl) hd (kk p e s m args below meth c H ls locs E hl hR)
theorem V_getI {ci k N i q : Nat} {C : String} {T : u_T} {x : Int32} (hd : decode (mC M) pc = .ok (.getfield i, 3)) (hx : getI w q ci k = some x) (hc : zCl[ci]? = some (C, T, N)) (hk : k < N) (hin : ∀ x ∈ u_ws C T N, x ∈ zTb) (hl0 : Cond.fieldLink (mY M).cls i (T k).1 (T k).2.1 (T k).2.2.1 ∈ zTb)
    (kk : zV G M (pc + 3) lv (.int x :: st) w n1 n2 o w1) : zV G M pc lv (.ref (z0 G + q) :: st) w n1 n2 o w1 := by
  obtain ⟨fs, h1, h2⟩ := ob hx
  exact V_get (f := .inl x) hd h1 (zfi_at h2) hc hk hin hl0 kk
theorem V_getR {ci k N i q : Nat} {C : String} {T : u_T} {x : Nat} (hd : decode (mC M) pc = .ok (.getfield i, 3)) (hx : getR w q ci k = some x) (hc : zCl[ci]? = some (C, T, N)) (hk : k < N) (hin : ∀ x ∈ u_ws C T N, x ∈ zTb) (hl0 : Cond.fieldLink (mY M).cls i (T k).1 (T k).2.1 (T k).2.2.1 ∈ zTb)
    (kk : zV G M (pc + 3) lv (.ref (z0 G + x) :: st) w n1 n2 o w1) : zV G M pc lv (.ref (z0 G + q) :: st) w n1 n2 o w1 := by
  obtain ⟨fs, h1, h2⟩ := ob hx
  exact V_get (f := .inr (some x)) hd h1 (zfr_at h2) hc hk hin hl0 kk
theorem V_put {ci k N i q : Nat} {C : String} {T : u_T} {fs : List zF} {f : zF} {ty : FieldType} (t : Nat → FieldType) (hd : decode (mC M) pc = .ok (.putfield i, 3)) (hw : zobj w q ci = some fs) (hlen : k < fs.length) (hc : zCl[ci]? = some (C, T, N)) (hk : k < N) (hin : ∀ x ∈ u_ws C T N, x ∈ zTb) (hl0 : Cond.fieldLink (mY M).cls i (T k).1 (T k).2.1 (T k).2.2.1 ∈ zTb)
    (hty : ∀ k, k < N → parseFieldDescriptor (T k).2.2.1 = some (t k)) (hnm : ∀ a, a < N → ∀ b, b < N → a ≠ b → (T a).2.1 ≠ (T b).2.1) (hfin : (T k).2.2.2 = false ∨ ((T k).2.2.2 = true ∧ (mY M).name = "<init>" ∧ (T k).1 = (mY M).cls)) (htk : parseFieldDescriptor (T k).2.2.1 = some ty) (hn : narrow ty (fdv (z0 G) f) = fdv (z0 G) f) (hfit : fits ty (fdv (z0 G) f) = true)
    (kk : zV G M (pc + 3) lv st (w.set q (.inr (.inr (.inr (ci, fs.set k f))))) n1 n2 o w1) : zV G M pc lv (fdv (z0 G) f :: .ref (z0 G + q) :: st) w n1 n2 o w1 := fun p e s m args below meth c H ls locs E hl hR => by
  have key : ∀ (H1 : Heap) (locs1 : List Loc), H1.size = H.size → va_P (gD G) zCl ((wsO G w).set q (z0 G + q, .inr (ci, (fs.map (fdv (z0 G))).set k (fdv (z0 G) f)))) H1 → va_S (zA G) (gH G) H1 locs1 → W p (gL G) e (mR M) s m args below meth c H1 locs1 n1 n2 (zQ G below s (mR M) o w1) (F0 m (pc + 3) ls st) := fun H1 locs1 hz hP1 hS1 =>
    kk p e s m args below meth c H1 ls locs1 E hl (zR.set (by simp only [img]; rw [List.map_set]) hP1 hS1 (hz.trans hR.2.2))
  have hD : va_D (zA G) (wsO G w) := wsO_D
  have he := wsO_at (G := G) (zobj_at hw)
  have hts := E.2.2.2.2.2.2.2.2.1
  have hK := E.2.2.2.2.2.2.2.2.2.1.1
  have hap := va_apart (own := C) hts hin t hty hnm hK hc
  obtain ⟨r, h1, cell, q1, q2, q3, q4⟩ := hR.1 q _ he
  have hr : r = (C, T, N) := Option.some.inj (h1.symm.trans hc)
  subst hr
  obtain ⟨hS, hfc, kC, hkC, hkind⟩ := hK.1 ci _ hc
  obtain ⟨cf, kf, fi, fd, hi, hsl⟩ := hS k hk
  have hlay := hts _ (hin _ (u_in_lay hk))
  unfold u_lay at hlay
  have hst := (u_facts hfc hkC (u_lays hts hin hk) hi).1
  have hl2 : k < (fs.map (fdv (z0 G))).length := by rw [List.length_map]; exact hlen
  have fin : ∀ (H' : Heap) (locs' : List Loc), H'[z0 G + q]? = some (cell.setSlot ((gD G).2 ci k) (fdv (z0 G) f)) → H'.size = H.size → (∀ x, x ≠ z0 G + q → H'[x]? = H[x]?) → locs' = locs ++ [⟨z0 G + q, (gD G).2 ci k⟩] → W p (gL G) e (mR M) s m args below meth c H' locs' n1 n2 (zQ G below s (mR M) o w1) (F0 m (pc + 3) ls st) := fun H' locs' e1 e2 e3 e4 => by
    subst e4
    exact key H' _ e2 (hR.1.set hD he ⟨_, hc, t_OB.to (V := updV (vp_V (fs.map (fdv (z0 G)))) k (fdv (z0 G) f)) ⟨_, e1, q2, q3, t_set q4 hap hk _⟩ (fun j _ => vp_updV_set hl2 _ j)⟩ e3) (hR.2.1.put e2 e3 (hD.2 q _ he))
  rcases hfin with hfin | ⟨hfin, hin2, hdecl⟩
  · rw [if_neg (by rw [hfin]; decide)] at hlay
    have h6 := u_store hfc hkC hkind hlay hi htk hn hfit
    refine W.putK E.1 E.2.1 (f := fd) ⟨E.2.2.2.2.1, hts _ hl0, ⟨_, _, _, hi⟩, hst⟩ (by rw [q2]; exact h6) q1 q3 (by rw [hsl]; exact k2_hasslot (q4 k hk)) rfl rfl hd fun H' e1 e2 e3 => ?_
    rw [hsl] at e1 ⊢
    exact fin H' _ e1 e2 e3 rfl
  · rw [if_pos hfin] at hlay
    have hcf : m.cls = cf := by
      obtain ⟨_, _, c', _, _, _, -, -, hf', -, -, -, hown2, -⟩ := Cond.laysFinal_spec hlay
      have e1 : c' = cf := by have := hi.symm.trans hf'; simp at this; exact this.1.symm
      rw [hdecl] at hown2
      rw [← e1]; exact Option.some.inj (E.2.2.2.2.1.symm.trans hown2)
    have h6 := u_fits hfc hkC hkind (Or.inr hlay) hi htk hn hfit
    refine W.putFinK E.1 E.2.1 E.2.2.2.2.1 (hts _ hl0) hi hst hcf (E.2.2.2.2.2.2.1.trans hin2) (by rw [q2]; exact h6) q1 q3 (by rw [hsl]; exact k2_hasslot (q4 k hk)) rfl rfl hd fun H' e1 e2 e3 => ?_
    rw [hsl] at e1 ⊢
    exact fin H' _ e1 e2 e3 rfl
theorem V_putI {ci k N i q : Nat} {C : String} {T : u_T} {x : Int32} {w2 : zW} (t : Nat → FieldType) (hd : decode (mC M) pc = .ok (.putfield i, 3)) (hx : putI w q ci k x = some w2) (hc : zCl[ci]? = some (C, T, N)) (hk : k < N) (hin : ∀ x ∈ u_ws C T N, x ∈ zTb) (hl0 : Cond.fieldLink (mY M).cls i (T k).1 (T k).2.1 (T k).2.2.1 ∈ zTb)
    (hty : ∀ k, k < N → parseFieldDescriptor (T k).2.2.1 = some (t k)) (hnm : ∀ a, a < N → ∀ b, b < N → a ≠ b → (T a).2.1 ≠ (T b).2.1) (hfin : (T k).2.2.2 = false) (htk : t k = .int ∨ (t k = .boolean ∧ (x = 0 ∨ x = 1)))
    (kk : zV G M (pc + 3) lv st w2 n1 n2 o w1) : zV G M pc lv (.int x :: .ref (z0 G + q) :: st) w n1 n2 o w1 := by
  obtain ⟨fs, h1, h2⟩ := ob hx
  split at h2
  · rename_i hl
    cases h2
    refine V_put (f := .inl x) (ty := t k) t hd h1 hl hc hk hin hl0 hty hnm (Or.inl hfin) (hty k hk) ?_ ?_ kk
    · rcases htk with h | ⟨h, h3⟩
      · rw [h]; rfl
      · rw [h]; rcases h3 with rfl | rfl <;> rfl
    · rcases htk with h | ⟨h, h3⟩
      · rw [h]; rfl
      · rw [h]; rcases h3 with rfl | rfl <;> rfl
  · cases h2
theorem V_putR {ci k N i q : Nat} {C : String} {T : u_T} {x : Nat} {w2 : zW} (t : Nat → FieldType) (hd : decode (mC M) pc = .ok (.putfield i, 3)) (hx : putR w q ci k x = some w2) (hc : zCl[ci]? = some (C, T, N)) (hk : k < N) (hin : ∀ x ∈ u_ws C T N, x ∈ zTb) (hl0 : Cond.fieldLink (mY M).cls i (T k).1 (T k).2.1 (T k).2.2.1 ∈ zTb)
    (hty : ∀ k, k < N → parseFieldDescriptor (T k).2.2.1 = some (t k)) (hnm : ∀ a, a < N → ∀ b, b < N → a ≠ b → (T a).2.1 ≠ (T b).2.1) (hfin : (T k).2.2.2 = false ∨ ((T k).2.2.2 = true ∧ (mY M).name = "<init>" ∧ (T k).1 = (mY M).cls)) (htk : (∃ n, t k = .object n) ∨ ∃ n, t k = .array n)
    (kk : zV G M (pc + 3) lv st w2 n1 n2 o w1) : zV G M pc lv (.ref (z0 G + x) :: .ref (z0 G + q) :: st) w n1 n2 o w1 := by
  obtain ⟨fs, h1, h2⟩ := ob hx
  split at h2
  · rename_i hl
    cases h2
    refine V_put (f := .inr (some x)) (ty := t k) t hd h1 hl hc hk hin hl0 hty hnm hfin (hty k hk) ?_ ?_ kk
    · rcases htk with ⟨n, h⟩ | ⟨n, h⟩ <;> rw [h] <;> rfl
    · rcases htk with ⟨n, h⟩ | ⟨n, h⟩ <;> rw [h] <;> rfl
  · cases h2
theorem V_alen {q : Nat} {x : Int32} (hd : decode (mC M) pc = .ok (.arraylength, 1)) (hx : alen w q = some x) (kk : zV G M (pc + 1) lv (.int x :: st) w n1 n2 o w1) : zV G M pc lv (.ref (z0 G + q) :: st) w n1 n2 o w1 := fun p e s m args below meth c H ls locs E hl hR => by
  obtain ⟨xs, h1, h2⟩ := Option.map_eq_some_iff.mp hx
  exact va_alen (D := gD G) (cl := zCl) (tys := zTy G) E.1 E.2.1 E.2.2.2.2.2.2.2.2.2.1.1 hR.1 q 0 (wsO_at (zints_at h1)) (ty := .int) rfl (v := x) h2 hd (kk p e s m args below meth c H ls locs E hl hR)
theorem V_rlen {q : Nat} {x : Int32} (hd : decode (mC M) pc = .ok (.arraylength, 1)) (hx : rlen w q = some x) (kk : zV G M (pc + 1) lv (.int x :: st) w n1 n2 o w1) : zV G M pc lv (.ref (z0 G + q) :: st) w n1 n2 o w1 := fun p e s m args below meth c H ls locs E hl hR => by
  obtain ⟨xs, h1, h2⟩ := Option.map_eq_some_iff.mp hx
  exact va_alen (D := gD G) (cl := zCl) (tys := zTy G) E.1 E.2.1 E.2.2.2.2.2.2.2.2.2.1.1 hR.1 q 2 (wsO_at (zrefs_at h1)) (ty := .object "ZipArray$Entry") rfl (v := x) h2 hd (kk p e s m args below meth c H ls locs E hl hR)
theorem in_of_get {α : Type} {xs : List α} {i : Int32} {x : α} (h : (if i < 0 then none else xs[i.toNatClampNeg]?) = some x) : vp_in i xs.length ∧ xs[i.toNatClampNeg]? = some x := by
  split at h
  · cases h
  · rename_i h0
    refine ⟨fun hq => ?_, h⟩
    rcases hq with hq | hq
    · exact h0 hq
    · rw [List.getElem?_eq_none hq] at h
      cases h
theorem getD_of {α : Type} {xs : List α} {i : Nat} {x d : α} (h : xs[i]? = some x) : xs.getD i d = x := by
  rw [List.getD_eq_getElem?_getD, h]; rfl
theorem V_aget {q : Nat} {i x : Int32} (hd : decode (mC M) pc = .ok (.iaload, 1)) (hx : aget w q i = some x) (kk : zV G M (pc + 1) lv (.int x :: st) w n1 n2 o w1) : zV G M pc lv (.int i :: .ref (z0 G + q) :: st) w n1 n2 o w1 := fun p e s m args below meth c H ls locs E hl hR => by
  obtain ⟨xs, h1, h2⟩ := ob hx
  obtain ⟨h3, h4⟩ := in_of_get h2
  refine va_iald (D := gD G) (cl := zCl) (tys := zTy G) E.1 E.2.1 E.2.2.2.2.2.2.2.2.2.1.1 hR.1 q 0 (wsO_at (zints_at h1)) rfl h3 hd ?_
  rw [getD_of h4]
  exact kk p e s m args below meth c H ls locs E hl hR
theorem V_lget {q : Nat} {i : Int32} {x : Int64} (hd : decode (mC M) pc = .ok (.laload, 1)) (hx : lget w q i = some x) (kk : zV G M (pc + 1) lv (.long x :: st) w n1 n2 o w1) : zV G M pc lv (.int i :: .ref (z0 G + q) :: st) w n1 n2 o w1 := fun p e s m args below meth c H ls locs E hl hR => by
  obtain ⟨xs, h1, h2⟩ := ob hx
  obtain ⟨h3, h4⟩ := in_of_get h2
  refine va_lald (D := gD G) (cl := zCl) (tys := zTy G) E.1 E.2.1 E.2.2.2.2.2.2.2.2.2.1.1 hR.1 q 1 (wsO_at (zlongs_at h1)) rfl h3 hd ?_
  rw [getD_of h4]
  exact kk p e s m args below meth c H ls locs E hl hR
theorem V_rget {q x : Nat} {i : Int32} (hd : decode (mC M) pc = .ok (.aaload, 1)) (hx : rget w q i = some x) (kk : zV G M (pc + 1) lv (.ref (z0 G + x) :: st) w n1 n2 o w1) : zV G M pc lv (.int i :: .ref (z0 G + q) :: st) w n1 n2 o w1 := fun p e s m args below meth c H ls locs E hl hR => by
  obtain ⟨xs, h1, h2⟩ := ob hx
  have h2' : (if i < 0 then none else xs[i.toNatClampNeg]?) = some (some x) := by
    split at h2
    · cases h2
    · rename_i h0
      rw [if_neg h0]
      obtain ⟨y, h3, h4⟩ := ob h2
      rw [h3]; exact congrArg some h4
  obtain ⟨h3, h4⟩ := in_of_get h2'
  refine va_aldq (D := gD G) (cl := zCl) (tys := zTy G) (C := "ZipArray$Entry") E.1 E.2.1 E.2.2.2.2.2.2.2.2.2.1.1 hR.1 q 2 (wsO_at (zrefs_at h1)) rfl h3 hd ?_
  rw [getD_of h4]
  exact kk p e s m args below meth c H ls locs E hl hR
theorem getD_set {α : Type} {xs : List α} {i : Nat} (h : i < xs.length) (x d : α) (j : Nat) : (xs.set i x).getD j d = if j = i then x else xs.getD j d := by
  rw [List.getD_eq_getElem?_getD, List.getElem?_set]
  by_cases hj : i = j
  · subst hj; simp [h]
  · rw [if_neg hj, if_neg (Ne.symm hj), List.getD_eq_getElem?_getD]
theorem V_aset {q : Nat} {i x : Int32} {w2 : zW} (hd : decode (mC M) pc = .ok (.iastore, 1)) (hx : aset w q i x = some w2) (kk : zV G M (pc + 1) lv st w2 n1 n2 o w1) : zV G M pc lv (.int x :: .int i :: .ref (z0 G + q) :: st) w n1 n2 o w1 := fun p e s m args below meth c H ls locs E hl hR => by
  obtain ⟨xs, h1, h2⟩ := ob hx
  split at h2
  · cases h2
  · rename_i h0
    cases h2
    have hlt : i.toNatClampNeg < xs.length := Nat.not_le.mp fun hq => h0 (Or.inr hq)
    have hK := E.2.2.2.2.2.2.2.2.2.1.1
    have hD : va_D (zA G) (wsO G w) := wsO_D
    have he := wsO_at (G := G) (zints_at h1)
    refine W.iast E.1 E.2.1 (hR.1 q _ he) ((hK.2 0 _ rfl).1 xs.length (fun j => .int (xs.getD j 0))) (fun q => by cases q) (by show ¬ (i < 0 ∨ (arrV _ _ _).slots.size ≤ _); rw [arrV_size]; exact h0) rfl rfl hd fun H1 e1 z oq => ?_
    refine kk p e s m args below meth c H1 ls _ E hl (zR.set rfl (hR.1.set hD he ?_ oq) (hR.2.1.put z oq (hD.2 q _ he)) (z.trans hR.2.2))
    show H1[z0 G + q]? = some (vp_cell _ _)
    rw [e1, vp_cell_i, vp_cell_i, arrV_store, List.length_set]
    congr 2
    funext j
    rw [getD_set hlt]
    by_cases hj : j = i.toNatClampNeg
    · subst hj; simp [updV]
    · simp [updV, hj]
theorem V_lset {q : Nat} {i : Int32} {x : Int64} {w2 : zW} (hd : decode (mC M) pc = .ok (.lastore, 1)) (hx : lset w q i x = some w2) (kk : zV G M (pc + 1) lv st w2 n1 n2 o w1) : zV G M pc lv (.long x :: .int i :: .ref (z0 G + q) :: st) w n1 n2 o w1 := fun p e s m args below meth c H ls locs E hl hR => by
  obtain ⟨xs, h1, h2⟩ := ob hx
  split at h2
  · cases h2
  · rename_i h0
    cases h2
    have hlt : i.toNatClampNeg < xs.length := Nat.not_le.mp fun hq => h0 (Or.inr hq)
    have hK := E.2.2.2.2.2.2.2.2.2.1.1
    have hD : va_D (zA G) (wsO G w) := wsO_D
    have he := wsO_at (G := G) (zlongs_at h1)
    refine W.last E.1 E.2.1 (hR.1 q _ he) ((hK.2 1 _ rfl).1 xs.length (fun j => .long (xs.getD j 0))) (fun q => by cases q) (by show ¬ (i < 0 ∨ (arrV _ _ _).slots.size ≤ _); rw [arrV_size]; exact h0) rfl rfl hd fun H1 e1 z oq => ?_
    refine kk p e s m args below meth c H1 ls _ E hl (zR.set rfl (hR.1.set hD he ?_ oq) (hR.2.1.put z oq (hD.2 q _ he)) (z.trans hR.2.2))
    show H1[z0 G + q]? = some (vp_cell _ _)
    rw [e1, vp_cell_l, vp_cell_l, arrV_store, List.length_set]
    congr 2
    funext j
    rw [getD_set hlt]
    by_cases hj : j = i.toNatClampNeg
    · subst hj; simp [updV]
    · simp [updV, hj]
theorem zR.app {H1 : Heap} {locs : List Loc} {H : Heap} {c : zC} (hR : zR G w H locs) (hz : H1.size = H.size + 1) (oq : ∀ q, q < H.size → H1[q]? = H[q]?) (hc : va_at (gD G) zCl (z0 G + w.length, img G c) H1) : zR G (w ++ [c]) H1 locs := by
  refine ⟨?_, ⟨Nat.le_trans hR.2.1.1 (by omega), fun x h1 h2 => (oq x (Nat.lt_of_lt_of_le h1 hR.2.1.1)).trans (hR.2.1.2.1 x h1 h2), hR.2.1.2.2⟩, by rw [hz, hR.2.2, List.length_append]; rfl⟩
  rw [wsO_app]
  refine (hR.1.kept (fun k x hx => oq x.1 ((hR.1 k x hx).lt))).app (fun k x hx => ?_)
  have hz : k < 1 := (List.getElem?_eq_some_iff.mp hx).1
  rw [show k = 0 by omega] at hx
  cases hx
  exact hc
theorem V_newI {n : Int32} {N : Nat} (hd : decode (mC M) pc = .ok (.newarray .int, 2)) (hw : Cond.arrayClass .int ∈ zTb) (hn : ¬ n < 0) (hN : n.toNatClampNeg = N) (hb : N ≤ 100000) (h1 : n1 + 1 ≤ (mR M).cells) (h2 : n2 + N ≤ (mR M).slots)
    (kk : zV G M (pc + 2) lv (.ref (z0 G + w.length) :: st) (w ++ [.inl (List.replicate N 0)]) (n1 + 1) (n2 + N) o w1) : zV G M pc lv (.int n :: st) w n1 n2 o w1 := fun p e s m args below meth c H ls locs E hl hR => by
  refine va_newaK (atype := .int) E.1 E.2.1 (E.2.2.2.2.2.2.2.2.1 _ hw) rfl hd rfl hn hN (by show N * componentBytes .int ≤ _; simp [componentBytes]; omega) h1 h2 hR.2.2 fun H1 cA e1 z1 o1 hAr hNm => ?_
  have hcA : cA = gI G := by
    have h3 := (E.2.2.2.2.2.2.2.2.2.1.1.2 0 _ rfl).2
    exact Option.some.inj (hNm.symm.trans h3)
  subst hcA
  refine kk p e s m args below meth c H1 ls locs E hl (zR.app hR (by rw [z1, hR.2.2]) (fun q hq => o1 q (by rw [← hR.2.2]; exact hq)) ?_)
  show H1[z0 G + w.length]? = some (vp_cell _ _)
  rw [e1, vp_cell_i, List.length_replicate]
  congr 2
  funext j
  rw [List.getD_eq_getElem?_getD, List.getElem?_replicate]
  split <;> rfl
theorem V_newJ {n : Int32} {N : Nat} (hd : decode (mC M) pc = .ok (.newarray .long, 2)) (hw : Cond.arrayClass .long ∈ zTb) (hn : ¬ n < 0) (hN : n.toNatClampNeg = N) (hb : N ≤ 100000) (h1 : n1 + 1 ≤ (mR M).cells) (h2 : n2 + N ≤ (mR M).slots)
    (kk : zV G M (pc + 2) lv (.ref (z0 G + w.length) :: st) (w ++ [.inr (.inl (List.replicate N 0))]) (n1 + 1) (n2 + N) o w1) : zV G M pc lv (.int n :: st) w n1 n2 o w1 := fun p e s m args below meth c H ls locs E hl hR => by
  refine va_newaK (atype := .long) E.1 E.2.1 (E.2.2.2.2.2.2.2.2.1 _ hw) rfl hd rfl hn hN (by show N * componentBytes .long ≤ _; simp [componentBytes]; omega) h1 h2 hR.2.2 fun H1 cA e1 z1 o1 hAr hNm => ?_
  have hcA : cA = gJ G := by
    have h3 := (E.2.2.2.2.2.2.2.2.2.1.1.2 1 _ rfl).2
    exact Option.some.inj (hNm.symm.trans h3)
  subst hcA
  refine kk p e s m args below meth c H1 ls locs E hl (zR.app hR (by rw [z1, hR.2.2]) (fun q hq => o1 q (by rw [← hR.2.2]; exact hq)) ?_)
  show H1[z0 G + w.length]? = some (vp_cell _ _)
  rw [e1, vp_cell_l, List.length_replicate]
  congr 2
  funext j
  rw [List.getD_eq_getElem?_getD, List.getElem?_replicate]
  split <;> rfl
theorem V_new {ci N i : Nat} {C : String} {T : u_T} {fs : List zF} (t : Nat → FieldType) (hd : decode (mC M) pc = .ok (.new i, 3)) (hc : zCl[ci]? = some (C, T, N)) (hin : ∀ x ∈ u_ws C T N, x ∈ zTb) (hcl : Cond.classLink (mY M).cls i C ∈ zTb) (hins : Cond.instantiable C N ∈ zTb) (hini : Cond.initialized C ∈ zTb)
    (hty : ∀ k, k < N → parseFieldDescriptor (T k).2.2.1 = some (t k)) (hfs : ∀ z j, j < N → defaultValue (t j) = vp_V (fs.map (fdv z)) j) (h1 : n1 + 1 ≤ (mR M).cells) (h2 : n2 + N ≤ (mR M).slots)
    (kk : zV G M (pc + 3) lv (.ref (z0 G + w.length) :: st) (w ++ [.inr (.inr (.inr (ci, fs)))]) (n1 + 1) (n2 + N) o w1) : zV G M pc lv st w n1 n2 o w1 := fun p e s m args below meth c H ls locs E hl hR => by
  have hts := E.2.2.2.2.2.2.2.2.1
  have hKn := E.2.2.2.2.2.2.2.2.2.1.1.1 ci _ hc
  refine W.newcK E.1 E.2.1 E.2.2.2.2.1 (hts _ hcl) (hts _ hins) (hts _ hini) rfl hd h1 h2 hKn.2.1 hR.2.2 fun H1 kC hkC e1 z1 o1 => ?_
  exact kk p e s m args below meth c H1 ls locs E hl (zR.app hR (by rw [z1, hR.2.2]) (fun q hq => o1 q (by rw [← hR.2.2]; exact hq)) ⟨_, hc, (u_born t hts hin hKn hkC e1 hty).to (hfs _)⟩)
theorem V_objInit {i q : Nat} (hd : decode (mC M) pc = .ok (.invokespecial i, 3)) (hw : Cond.methodLink (mY M).cls i Lib.objectInit ∈ zTb) (hin : Cond.instanceMethod Lib.objectInit ∈ zTb) (hc : Cond.code Lib.objectInit ⟨#[0xb1]⟩ 1 none ∈ zTb) (h1 : 1 ≤ (mR M).frames) (h2 : (st.map fun v => v.category).sum + 12 ≤ (mR M).locals)
    (kk : zV G M (pc + 3) lv st w n1 n2 o w1) : zV G M pc lv (.ref q :: st) w n1 n2 o w1 := fun p e s m args below meth c H ls locs E hl hR => by
  have hts := E.2.2.2.2.2.2.2.2.1
  exact W.objInit E.1 E.2.1 E.2.2.2.2.1 (hts _ hw) (hts _ hin) (hts _ hc) rfl (hl.1.trans E.2.2.2.1.symm) rfl hd h1 (by simp [JFrame.monitorRoom]; omega) (kk p e s m args below meth c H ls locs E hl hR)
end H
