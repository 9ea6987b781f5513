/-! 'throw new X()': one cell more, of X's class; nothing else changes. The walk is taken anew from where it stands (rebase), so that what the constructor leaves is known. -/
section Rb
variable {p : Program} {l : Launch} {e : Env} {R : Room} {s : State} {m : MethodId} {args : Array Value} {below : List Frame} {meth : Method} {c : Code} {T : State} {locs : List Loc} {cells slots : Nat}
theorem hears_alike {u U : State} (h : u.vm.Alike U.vm) (m : MethodId) (below : List Frame) (hh : u.hears m below = true) : U.hears m below = true := by
  have hc : ∀ k, U.code? k = u.code? k := fun k => by rw [State.code?_eq, State.code?_eq, h.method?]
  unfold State.hears at hh ⊢
  split at hh <;> simp_all [h.method?]
theorem rebase (X : Stand p l e R s m args below meth c T locs cells slots) {k n : Nat} (hk : cells + k ≤ R.cells) (hn : slots + n ≤ R.slots) :
    Stand p l e { R with cells := k, slots := n } (T.setFrames (.invoking m args :: below)) m args below meth c T [] 0 0 := by
  obtain ⟨g₀, hfr⟩ := X.frames_eq
  have hcur : T.cur < T.threads.size := State.cur_lt_of_frames hfr
  have hfr2 : (T.setFrames (.invoking m args :: below)).frames = .invoking m args :: below := State.frames_setFrames _ hcur
  obtain ⟨th, hth, -⟩ := State.frames_cons hfr2
  refine ⟨X.admits, X.cas, X.clock, hfr2, ?_, ?_, X.method', X.code, X.here, X.tail, State.WarmedH.refl _, ?_, ?_, ?_⟩
  · have h := X.room
    have h1 := X.heapSize
    have h2 := X.used
    have hb := X.book
    have hl : (T.setFrames (.invoking m args :: below)).localsInUse = s.localsInUse := by
      rw [State.localsInUse_invoking hfr2 X.method' X.code, State.localsInUse_invoking X.frames X.method X.code]
    simp only [State.hasRoom, Bool.and_eq_true, decide_eq_true_eq] at h ⊢
    rw [hl, hfr2, State.stackLimits_setFrames, State.stackBytes_setFrames, X.limits, X.bytes]
    rw [X.frames] at h
    obtain ⟨⟨⟨⟨a1, a2⟩, a3⟩, a4⟩, a5⟩ := h
    refine ⟨⟨⟨⟨a1, a2⟩, ?_⟩, ?_⟩, hb⟩
    · show T.heap.size + k ≤ _
      omega
    · show T.slotsUsed + n ≤ _
      omega
  · exact hears_alike X.warmed.alike m below X.hears
  · rw [State.stackLimits_setFrames]
  · rw [State.stackBytes_setFrames]
  · have h := (State.sameButNew.refl (T.setFrames (.invoking m args :: below)) hth).setFrames T.frames (by rw [show (T.setFrames (.invoking m args :: below)).cur = T.cur from rfl]; exact State.cur_lt_of_frames hfr2)
    rw [State.setFrames_setFrames] at h
    obtain ⟨th2, hth2, -⟩ := State.frames_cons hfr
    rw [State.setFrames_self hth2] at h
    exact h
end Rb
