/-! The whole directory. -/
abbrev Ent : Type := Nat → Nat
def psS (L : List Int32) (ds de : Nat) : Nat → Nat → List Ent → Option (List Ent × Nat)
  | 0, p, acc => some (acc, p)
  | n + 1, p, acc => match rpS L ds de p with
    | none => none
    | some E => psS L ds de n (E 8) (acc ++ [E])
def nms (es : List Ent) : List Int32 := es.map fun E => nI (E 0)
def fnS (de : Nat) : Option (List Ent × Nat) → Option (List Ent)
  | none => none
  | some (es, q) => if q = de ∧ (nms es).Nodup then some es else none
def codeO (r : Option (List Ent)) : Int32 := match r with
  | none => 2
  | some _ => 0
theorem psS_pre {L : List Int32} {ds de : Nat} : ∀ {n p : Nat} {acc es : List Ent} {q : Nat}, psS L ds de n p acc = some (es, q) → ∃ t, es = acc ++ t ∧ t.length = n
  | 0, p, acc, es, q, h => by
    cases h
    exact ⟨[], (List.append_nil _).symm, rfl⟩
  | n + 1, p, acc, es, q, h => by
    unfold psS at h
    split at h
    · cases h
    · rename_i E _
      obtain ⟨t, e, hl⟩ := psS_pre h
      exact ⟨E :: t, by rw [e, List.append_assoc]; rfl, by rw [List.length_cons, hl]⟩
theorem nms_app {a b : List Ent} : nms (a ++ b) = nms a ++ nms b := List.map_append
theorem fnS_dup {L : List Int32} {ds de n p : Nat} {acc : List Ent} (h : ¬ (nms acc).Nodup) : fnS de (psS L ds de n p acc) = none := by
  cases hp : psS L ds de n p acc with
  | none => rfl
  | some x =>
    obtain ⟨es, q⟩ := x
    obtain ⟨t, rfl, -⟩ := psS_pre hp
    show (if q = de ∧ (nms (acc ++ t)).Nodup then some (acc ++ t) else none) = none
    rw [if_neg]
    rintro ⟨-, hn⟩
    rw [nms_app] at hn
    exact h (List.nodup_append.mp hn).1
theorem rpS_facts {L : List Int32} {ds de p : Nat} {E : Ent} (hb : ∀ b ∈ L, isB b) (h : rpS L ds de p = some E) : E 7 = p ∧ p + 46 ≤ E 8 ∧ E 8 ≤ de ∧ 0 < E 0 ∧ E 0 < 2 ^ 24 ∧ (E 1 = 0 ∨ E 1 = 8) ∧ (E 2 = 0 ∨ E 2 = 8) ∧ E 3 < 2 ^ 32 ∧ E 4 ≤ ds ∧ E 5 ≤ 200 ∧ E 6 ≤ ds := by
  unfold rpS at h
  split at h
  · rename_i hc
    revert h
    cases hnm : nameS L (p + 46) (nvL L (p + 28) 2) with
    | none => intro h; cases h
    | some nm =>
      cases hns : numS L ds p (rP (recF L (p + 46 + nvL L (p + 28) 2 + nvL L (p + 30) 2) (p + 46 + nvL L (p + 28) 2 + nvL L (p + 30) 2) (p + 46 + nvL L (p + 28) 2)) (p + 46 + nvL L (p + 28) 2 + nvL L (p + 30) 2)) (rL (recF L (p + 46 + nvL L (p + 28) 2 + nvL L (p + 30) 2) (p + 46 + nvL L (p + 28) 2 + nvL L (p + 30) 2) (p + 46 + nvL L (p + 28) 2))) with
      | none => intro h; cases h
      | some x =>
        obtain ⟨sz, pk, of_⟩ := x
        intro h
        cases h
        unfold numS at hns
        split at hns
        · rename_i hq
          cases hns
          have h0 := nameS_lt hnm
          refine ⟨rfl, ?_, hc.2.2.1, h0.1, h0.2, hc.2.2.2.2.1, hc.2.2.2.1, nvL_32 hb, hq.2.2.1, hq.2.1, hq.2.2.2⟩
          show p + 46 ≤ p + 46 + nvL L (p + 28) 2 + nvL L (p + 30) 2 + nvL L (p + 32) 2
          omega
        · cases hns
  · cases h
def fcF (x : Int32) : List Int32 → Nat → Int32
  | [], _ => -1
  | y :: ys, i => if y = x then nI i else fcF x ys (i + 1)
section Op
variable {J : yJ} {A : yA} {s : Nat} {Q : zW} {L : List Int32} {F k p ds de n : Nat}
/-- the entries as the class holds them -/
def CE (J : yJ) (es : List Ent) : Prop := ∀ i (h : i < es.length), ∀ j, j < 9 → J (27 + i) j = nI (es[i] j)
theorem c_find_l {es : List Ent} {x : Int32} (hE : CE J es) (hn : J 24 3 = nI es.length) (h8 : es.length ≤ 8) : ∀ (m i : Nat), i ≤ es.length → es.length - i < m → l_Archive_find_2 F m 24 x (nI i) (YW J A s Q) = some (fcF x ((nms es).drop i) i, YW J A s Q) := by
  intro m
  induction m with
  | zero => intro i _ h2; omega
  | succ m ih =>
    intro i hi hm
    show b_Archive_find_2 F (l_Archive_find_2 F m) 24 x (nI i) _ = _
    unfold b_Archive_find_2
    simp only [wg_A, Option.bind_some, hn]
    by_cases hlt : i < es.length
    · have hd : (nms es).drop i = nI (es[i] 0) :: (nms es).drop (i + 1) := by
        rw [List.drop_eq_getElem_cons (show i < (nms es).length by rw [nms, List.length_map]; exact hlt)]
        unfold nms
        rw [List.getElem_map]
      rw [if_neg (nI_ge hlt (by omega)), w_ent _ _ _ _ (show i < 8 by omega), Option.bind_some, we_g _ _ _ _ (show i < 8 by omega) (by decide), Option.bind_some, hE i hlt 0 (by decide), hd]
      show _ = some (if nI (es[i] 0) = x then nI i else fcF x ((nms es).drop (i + 1)) (i + 1), _)
      by_cases hc : nI (es[i] 0) = x
      · rw [if_pos hc, if_pos hc]
      · rw [if_neg hc, if_neg hc, nI_1, ih (i + 1) (by omega) (by omega)]
    · have : i = es.length := by omega
      subst this
      rw [if_pos (nI_le (Nat.le_refl _) (by omega)), List.drop_of_length_le (by rw [nms, List.length_map]; exact Nat.le_refl _)]
      rfl
theorem c_find {es : List Ent} (hF : 20000 ≤ F) {x : Int32} (hE : CE J es) (hn : J 24 3 = nI es.length) (h8 : es.length ≤ 8) : f_Archive_find F 24 x (YW J A s Q) = some (fcF x (nms es) 0, YW J A s Q) := by
  have := c_find_l (F := F) (A := A) (s := s) (Q := Q) (x := x) hE hn h8 F 0 (Nat.zero_le _) (by omega)
  exact this
theorem fcF_in {x : Int32} : ∀ {ns : List Int32} {i k : Nat}, k < ns.length → ns[k]? = some x → i + ns.length < 2 ^ 30 → (fcF x ns i = nI (i + k) ↔ ¬ x ∈ ns.take k)
  | [], i, k, h, _, _ => by cases h
  | y :: ys, i, 0, h, hx, hl => by
    have : y = x := Option.some.inj hx
    show (if y = x then nI i else _) = _ ↔ _
    rw [if_pos this]
    exact ⟨fun _ => List.not_mem_nil, fun _ => rfl⟩
  | y :: ys, i, k + 1, h, hx, hl => by
    rw [List.length_cons] at h hl
    have ih := fcF_in (x := x) (ns := ys) (i := i + 1) (k := k) (by omega) hx (by omega)
    show (if y = x then nI i else fcF x ys (i + 1)) = _ ↔ _
    rw [List.take_succ_cons]
    by_cases hc : y = x
    · rw [if_pos hc]
      refine ⟨fun q => ?_, fun q => absurd (List.mem_cons.mpr (Or.inl hc.symm)) q⟩
      have := (nI_eq (by omega) (by omega)).mp q
      omega
    · rw [if_neg hc, show i + (k + 1) = i + 1 + k by omega, ih]
      constructor
      · intro q z
        rcases List.mem_cons.mp z with z | z
        · exact hc z.symm
        · exact q z
      · exact fun q z => q (List.mem_cons_of_mem _ z)
theorem nodup_iff {ns : List Int32} : ns.Nodup ↔ ∀ k x, ns[k]? = some x → ¬ x ∈ ns.take k := by
  unfold List.Nodup
  rw [List.pairwise_iff_getElem]
  constructor
  · intro h k x hx hm
    obtain ⟨hk, e⟩ := List.getElem?_eq_some_iff.mp hx
    obtain ⟨i, hi, e2⟩ := List.mem_iff_getElem.mp hm
    rw [List.length_take] at hi
    rw [List.getElem_take] at e2
    exact h i k (by omega) hk (by omega) (e2.trans e.symm)
  · intro h i j hi hj hlt e
    refine h j ns[j] (List.getElem?_eq_getElem hj) ?_
    rw [← e]
    exact List.mem_iff_getElem.mpr ⟨i, by rw [List.length_take]; omega, List.getElem_take⟩
theorem c_differ_l {es : List Ent} (hF : 20000 ≤ F) (hE : CE J es) (hn : J 24 3 = nI es.length) (h8 : es.length ≤ 8) : ∀ (m i : Nat), i ≤ es.length → es.length - i < m → ∃ b : Int32, l_Archive_namesDiffer_2 F m 24 (nI i) (YW J A s Q) = some (b, YW J A s Q) ∧ (b = 1 ∧ (∀ k x, i ≤ k → (nms es)[k]? = some x → ¬ x ∈ (nms es).take k) ∨ b = 0 ∧ ¬ (∀ k x, i ≤ k → (nms es)[k]? = some x → ¬ x ∈ (nms es).take k)) := by
  have hln : (nms es).length = es.length := List.length_map _
  intro m
  induction m with
  | zero => intro i _ h2; omega
  | succ m ih =>
    intro i hi hm
    show ∃ b : Int32, b_Archive_namesDiffer_2 F (l_Archive_namesDiffer_2 F m) 24 (nI i) _ = some (b, _) ∧ _
    unfold b_Archive_namesDiffer_2
    simp only [wg_A, wo_A, Option.bind_some, hn]
    by_cases hlt : i < es.length
    · have hx : (nms es)[i]? = some (nI (es[i] 0)) := by unfold nms; rw [List.getElem?_map, List.getElem?_eq_getElem hlt]; rfl
      have hiff := fcF_in (x := nI (es[i] 0)) (ns := nms es) (i := 0) (k := i) (by omega) hx (by omega)
      rw [Nat.zero_add] at hiff
      rw [if_neg (nI_ge hlt (by omega)), w_ent _ _ _ _ (show i < 8 by omega), Option.bind_some, we_g _ _ _ _ (show i < 8 by omega) (by decide), Option.bind_some, hE i hlt 0 (by decide), c_find hF hE hn h8, Option.bind_some]
      simp only []
      by_cases hc : fcF (nI (es[i] 0)) (nms es) 0 = nI i
      · obtain ⟨b, e, hb⟩ := ih (i + 1) (by omega) (by omega)
        rw [if_pos hc, nI_1]
        refine ⟨b, e, ?_⟩
        have key : (∀ k x, i ≤ k → (nms es)[k]? = some x → ¬ x ∈ (nms es).take k) ↔ (∀ k x, i + 1 ≤ k → (nms es)[k]? = some x → ¬ x ∈ (nms es).take k) := by
          constructor
          · exact fun q k x hk => q k x (by omega)
          · intro q k x hk hkx
            by_cases hki : k = i
            · subst hki
              rw [hx] at hkx
              cases hkx
              exact hiff.mp hc
            · exact q k x (by omega) hkx
        rw [key]
        exact hb
      · rw [if_neg hc]
        exact ⟨0, rfl, Or.inr ⟨rfl, fun q => hc (hiff.mpr (q i _ (Nat.le_refl _) hx))⟩⟩
    · rw [if_pos (nI_le (by omega) (by omega))]
      refine ⟨1, rfl, Or.inl ⟨rfl, ?_⟩⟩
      intro k x hk hkx
      rw [List.getElem?_eq_none (by omega)] at hkx
      cases hkx
theorem c_differ {es : List Ent} (hF : 20000 ≤ F) (hE : CE J es) (hn : J 24 3 = nI es.length) (h8 : es.length ≤ 8) : f_Archive_namesDiffer F 24 (YW J A s Q) = some (if (nms es).Nodup then 1 else 0, YW J A s Q) := by
  obtain ⟨b, e, hb⟩ := c_differ_l (F := F) (A := A) (s := s) (Q := Q) hF hE hn h8 F 0 (Nat.zero_le _) (by omega)
  have key : (∀ k x, 0 ≤ k → (nms es)[k]? = some x → ¬ x ∈ (nms es).take k) ↔ (nms es).Nodup := by
    rw [nodup_iff]
    exact ⟨fun q k x => q k x (Nat.zero_le _), fun q k x _ => q k x⟩
  rw [key] at hb
  show l_Archive_namesDiffer_2 F F 24 (nI 0) _ = _
  rw [e]
  rcases hb with ⟨rfl, hc⟩ | ⟨rfl, hc⟩
  · rw [if_pos hc]
  · rw [if_neg hc]
theorem c_parts (hF : 20000 ≤ F) (h1 : ds ≤ de) (h2 : de ≤ L.length) (hn8 : n ≤ 8) : ∀ (m k p : Nat) (J : yJ) (es : List Ent), FI J A L → J 24 3 = nI n → J 24 4 = nI ds → J 24 5 = nI de → CE J es → es.length = k → k ≤ n → p ≤ de → n - k < m → ∃ J', l_Archive_read_42 F m 24 (nI p) (nI k) (YW J A s Q) = some (codeO (fnS de (psS L ds de (n - k) p es)), YW J' A s Q) ∧ (∀ o, o ≠ 25 → ¬ (27 ≤ o ∧ o < 35) → J' o = J o) ∧ ∀ es', fnS de (psS L ds de (n - k) p es) = some es' → CE J' es' := by
  intro m
  induction m with
  | zero => intro k p J es _ _ _ _ _ _ _ _ h; omega
  | succ m ih =>
    intro k p J es h hn hds hde hE hk hkn hp hm
    have hl := h.2.2.2.1
    show ∃ J', b_Archive_read_42 F (l_Archive_read_42 F m) 24 (nI p) (nI k) _ = _ ∧ _
    unfold b_Archive_read_42 b_Archive_read_101
    simp only [wg_A, wo_A, Option.bind_some, hn, hde]
    by_cases hlt : k < n
    · have hk8 : k < 8 := by omega
      rw [if_neg (nI_ge hlt (by omega)), w_ent _ _ _ _ hk8, Option.bind_some]
      obtain ⟨J1, e1, o1, E1⟩ := c_readPart (s := s) (Q := Q) (p := p) hF h hk8 hds hde h1 h2 hp
      rw [e1, Option.bind_some]
      simp only []
      have ep : psS L ds de (n - k) p es = (match rpS L ds de p with
          | none => none
          | some E => psS L ds de (n - (k + 1)) (E 8) (es ++ [E])) := by
        rw [show n - k = n - (k + 1) + 1 by omega]
        rfl
      have oo : ∀ o, o ≠ 25 → ¬ (27 ≤ o ∧ o < 35) → J1 o = J o := fun o a b => o1 o a (by omega)
      cases hr : rpS L ds de p with
      | none =>
        rw [hr] at ep
        rw [ep]
        refine ⟨J1, ?_, oo, fun _ q => by cases q⟩
        rfl
      | some E =>
        rw [hr] at ep
        have hE1 := E1 E hr
        have hf := rpS_facts h.2.2.2.2 hr
        rw [if_neg (show ¬ (if (some E : Option Ent).isSome = true then (1 : Int32) else 0) = 0 from (by decide : ¬ (1 : Int32) = 0))]
        simp only [wg_A, Option.bind_some]
        rw [w_ent _ _ _ _ hk8, Option.bind_some, we_g _ _ _ _ hk8 (by decide), Option.bind_some, hE1 8 (by decide), nI_1]
        obtain ⟨J2, e2, o2, E2⟩ := ih (k + 1) (E 8) J1 (es ++ [E]) (h.eq (o1 3 (by decide) (by omega))) (by rw [o1 24 (by decide) (by omega)]; exact hn) (by rw [o1 24 (by decide) (by omega)]; exact hds) (by rw [o1 24 (by decide) (by omega)]; exact hde) (by
            intro i hi j hj
            rw [List.length_append, List.length_singleton] at hi
            by_cases hik : i < es.length
            · rw [o1 (27 + i) (by omega) (by omega), hE i hik j hj, List.getElem_append_left hik]
            · have : i = k := by omega
              subst this
              rw [hE1 j hj, List.getElem_append_right (by omega)]
              simp [hk]) (by rw [List.length_append, List.length_singleton, hk]) (by omega) (by omega) (by omega)
        rw [ep]
        refine ⟨J2, e2, fun o a b => (o2 o a b).trans (oo o a b), E2⟩
    · have hkn' : k = n := by omega
      rw [if_pos (nI_le (by omega) (by omega)), show n - k = 0 by omega]
      have ep : fnS de (psS L ds de 0 p es) = if p = de ∧ (nms es).Nodup then some es else none := rfl
      rw [ep]
      by_cases hpd : p = de
      · rw [if_pos (by rw [hpd]), c_differ hF hE (by rw [hn, hk, hkn']) (by omega), Option.bind_some]
        simp only []
        by_cases hnd : (nms es).Nodup
        · rw [if_pos hnd, if_neg (show ¬ (1 : Int32) = 0 by decide), if_pos ⟨hpd, hnd⟩]
          exact ⟨J, rfl, fun _ _ _ => rfl, fun _ q => by cases q; exact hE⟩
        · rw [if_neg hnd, if_pos rfl, if_neg (fun q => hnd q.2)]
          exact ⟨J, rfl, fun _ _ _ => rfl, fun _ q => by cases q⟩
      · rw [if_neg (fun q => hpd ((nI_eq (by omega) (by omega)).mp q)), if_neg (fun q => hpd q.1)]
        exact ⟨J, rfl, fun _ _ _ => rfl, fun _ q => by cases q⟩
end Op
