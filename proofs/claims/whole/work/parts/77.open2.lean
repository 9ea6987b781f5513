/-! The archive opened: the class's read, the reference's open. -/
def opS (L : List Int32) : Option (Nat × Nat × Nat × List Ent) := match feS L (L.length - 21) with
  | none => none
  | some e => match reS L e with
    | none => none
    | some (n, ds, de) => match fnS de (psS L ds de n ds []) with
      | none => none
      | some es => some (e, ds, de, es)
def opC (L : List Int32) : Int32 := match feS L (L.length - 21) with
  | none => 1
  | some _ => match opS L with
    | none => 2
    | some _ => 0
theorem reS_facts {L : List Int32} {e n ds de : Nat} (h : reS L e = some (n, ds, de)) : n ≤ 8 ∧ ds ≤ de ∧ de ≤ e := by
  unfold reS at h
  split at h
  · split at h
    · obtain ⟨a, b, c⟩ := takeE_de h
      omega
    · cases h
  · obtain ⟨a, b, c⟩ := takeE_de h
    omega
theorem fnS_some {de : Nat} {r : Option (List Ent × Nat)} {es : List Ent} (h : fnS de r = some es) : r = some (es, de) ∧ (nms es).Nodup := by
  cases r with
  | none => cases h
  | some x =>
    obtain ⟨es', q⟩ := x
    have h' : (if q = de ∧ (nms es').Nodup then some es' else none) = some es := h
    split at h'
    · rename_i hc
      cases h'
      exact ⟨by rw [hc.1], hc.2⟩
    · cases h'
theorem opS_some {L : List Int32} {e ds de : Nat} {es : List Ent} (h : opS L = some (e, ds, de, es)) : feS L (L.length - 21) = some e ∧ reS L e = some (es.length, ds, de) ∧ psS L ds de es.length ds [] = some (es, de) ∧ (nms es).Nodup ∧ es.length ≤ 8 ∧ ds ≤ de ∧ de ≤ e ∧ e + 22 ≤ L.length := by
  unfold opS at h
  split at h
  · cases h
  · rename_i e' he
    split at h
    · cases h
    · rename_i n ds' de' hr
      split at h
      · cases h
      · rename_i es' hf
        cases h
        obtain ⟨hp, hn⟩ := fnS_some hf
        obtain ⟨t, ht, hl⟩ := psS_pre hp
        have hlen : es.length = n := by rw [ht, List.nil_append]; exact hl
        subst hlen
        obtain ⟨a, b, c⟩ := reS_facts hr
        have := feS_lt he
        exact ⟨he, hr, hp, hn, a, b, c, by omega⟩
section O2
variable {J : yJ} {A : yA} {s : Nat} {Q : zW} {L : List Int32} {F : Nat}
theorem c_read (hF : 20000 ≤ F) (h : FI J A L) : ∃ J', f_Archive_read F 24 (YW J A s Q) = some (opC L, YW J' A s Q) ∧ (∀ o, o ≠ 24 → o ≠ 25 → ¬ (27 ≤ o ∧ o < 35) → J' o = J o) ∧ ∀ e ds de es, opS L = some (e, ds, de, es) → J' 24 3 = nI es.length ∧ J' 24 4 = nI ds ∧ J' 24 5 = nI de ∧ J' 24 6 = nI (e + 22) ∧ CE J' es := by
  have hl := h.2.2.2.1
  have f1 : FI (pj J 24 3 0) A L := h.pj (Or.inl (by decide))
  unfold f_Archive_read b_Archive_read_0
  simp only [wp_A, wo_A, Option.bind_some]
  rw [c_findEnd hF f1, Option.bind_some]
  simp only []
  cases hfe : feS L (L.length - 21) with
  | none =>
    have e1 : opS L = none := by unfold opS; rw [hfe]
    have e2 : opC L = 1 := by unfold opC; rw [hfe]
    rw [if_pos (show opI none = -1 from rfl), e1, e2]
    exact ⟨_, rfl, fun o a _ _ => pj_row a, fun _ _ _ _ q => by cases q⟩
  | some e =>
    have he := feS_lt hfe
    have he22 : e + 22 ≤ L.length := by omega
    rw [if_neg (show ¬ opI (some e) = -1 from fun q => absurd (show nI e < 0 by rw [show nI e = -1 from q]; decide) (nI_pos (by omega)))]
    simp only [wp_A, wo_A, Option.bind_some]
    have f2 : FI (pj (pj J 24 3 0) 24 6 (opI (some e) + 22)) A L := f1.pj (Or.inl (by decide))
    obtain ⟨J1, r1, r2, r3, r4⟩ := c_readEnd (s := s) (Q := Q) hF f2 he22
    have e6 : J1 24 6 = nI (e + 22) := by rw [r3, pj_s]; exact nI_add e 22
    have o1 : ∀ o, o ≠ 24 → J1 o = J o := fun o ho => by rw [r2 o ho, pj_row ho, pj_row ho]
    rw [show opI (some e) = nI e from rfl] at r1 ⊢
    rw [r1, Option.bind_some]
    simp only []
    cases hre : reS L e with
    | none =>
      have e1 : opS L = none := by unfold opS; rw [hfe]; simp only [hre]
      have e2 : opC L = 2 := by unfold opC; rw [hfe]; simp only [e1]
      rw [e1, e2]
      exact ⟨J1, rfl, fun o a _ _ => o1 o a, fun _ _ _ _ q => by cases q⟩
    | some x =>
      obtain ⟨n, ds, de⟩ := x
      obtain ⟨q3, q4, q5⟩ := r4 n ds de hre
      obtain ⟨k1, k2, k3⟩ := reS_facts hre
      rw [if_neg (show ¬ (if (some (n, ds, de) : Option (Nat × Nat × Nat)).isSome = true then (1 : Int32) else 0) = 0 from (by decide : ¬ (1 : Int32) = 0))]
      simp only [wg_A, Option.bind_some, q4]
      obtain ⟨J2, p1, p2, p3⟩ := c_parts (s := s) (Q := Q) (A := A) (L := L) (n := n) hF k2 (by omega) k1 F 0 ds J1 [] (h.eq (o1 3 (by decide))) q3 q4 q5 (fun i hi => absurd hi (Nat.not_lt_zero _)) rfl (Nat.zero_le _) k2 (by omega)
      rw [Nat.sub_zero] at p1 p3
      have eo : opS L = (match fnS de (psS L ds de n ds []) with
          | none => none
          | some es => some (e, ds, de, es)) := by
        unfold opS
        rw [hfe]
        simp only [hre]
      have oo : ∀ o, o ≠ 24 → o ≠ 25 → ¬ (27 ≤ o ∧ o < 35) → J2 o = J o := fun o a b c => (p2 o b c).trans (o1 o a)
      rw [show (0 : Int32) = nI 0 from rfl, p1]
      cases hfn : fnS de (psS L ds de n ds []) with
      | none =>
        rw [hfn] at eo
        have e2 : opC L = 2 := by unfold opC; rw [hfe]; simp only [eo]
        rw [eo, e2]
        exact ⟨J2, rfl, oo, fun _ _ _ _ q => by cases q⟩
      | some es =>
        rw [hfn] at eo
        have e2 : opC L = 0 := by unfold opC; rw [hfe]; simp only [eo]
        rw [e2]
        refine ⟨J2, rfl, oo, ?_⟩
        intro e' ds' de' es' q
        have hs := opS_some q
        rw [eo] at q
        cases q
        have hn : es.length = n := by
          have := hs.2.1
          rw [hre] at this
          cases this
          rfl
        have j24 : J2 24 = J1 24 := p2 24 (by decide) (by omega)
        rw [j24, hn]
        exact ⟨q3, q4, q5, e6, p3 es hfn⟩
/-- the entries as the reference holds them -/
def ME (A : yA) (es : List Ent) : Prop := ∀ i (h : i < es.length), ∀ j, j < 9 → (A (48 + j))[i]? = some (nI (es[i] j))
theorem ME_48 {es : List Ent} (h : ME A es) : (A 48).take es.length = nms es := by
  apply List.ext_getElem?
  intro i
  by_cases hi : i < es.length
  · rw [List.getElem?_take_of_lt hi, h i hi 0 (by decide)]
    unfold nms
    rw [List.getElem?_map, List.getElem?_eq_getElem hi]
    rfl
  · rw [List.getElem?_eq_none (by rw [List.length_take]; omega), List.getElem?_eq_none (by unfold nms; rw [List.length_map]; omega)]
theorem m_parts (hF : 20000 ≤ F) {n ds de : Nat} (h1 : ds ≤ de) (h2 : de ≤ L.length) (hn8 : n ≤ 8) : ∀ (m k p : Nat) (A : yA) (es : List Ent), GF J A L → J 39 17 = nI n → J 39 18 = nI ds → J 39 19 = nI de → ME A es → (nms es).Nodup → es.length = k → k ≤ n → p ≤ de → n - k < m → ∃ A', l_Model_open_33 F m 39 (nI p) (nI k) (YW J A s Q) = some (codeO (fnS de (psS L ds de (n - k) p es)), YW J A' s Q) ∧ Sh A' ∧ (∀ j, j < 48 ∨ 57 ≤ j → A' j = A j) ∧ ∀ es', fnS de (psS L ds de (n - k) p es) = some es' → ME A' es' := by
  intro m
  induction m with
  | zero => intro k p A es _ _ _ _ _ _ _ _ _ h; omega
  | succ m ih =>
    intro k p A es h hn hds hde hE hnd hk hkn hp hm
    have hl := h.2.2.2.1
    show ∃ A', b_Model_open_33 F (l_Model_open_33 F m) 39 (nI p) (nI k) _ = _ ∧ _
    unfold b_Model_open_33
    simp only [wg_M, wo_M, Option.bind_some, hn, hde]
    by_cases hlt : k < n
    · have hk8 : k < 8 := by omega
      rw [if_neg (nI_ge hlt (by omega))]
      obtain ⟨A1, b, e1, S1, o1, hb⟩ := m_readPart (s := s) (Q := Q) (p := p) hF h hk8 hds hde h1 h2 hp
      rw [e1, Option.bind_some]
      simp only []
      have ep : psS L ds de (n - k) p es = (match rpS L ds de p with
          | none => none
          | some E => psS L ds de (n - (k + 1)) (E 8) (es ++ [E])) := by
        rw [show n - k = n - (k + 1) + 1 by omega]
        rfl
      have h48 : (A 48).take k = nms es := by rw [← hk]; exact ME_48 hE
      rw [h48] at hb
      rcases hb with ⟨rfl, hno⟩ | ⟨rfl, ⟨E, hr, hnew⟩, hA⟩
      · rw [if_pos rfl]
        have e0 : fnS de (psS L ds de (n - k) p es) = none := by
          rw [ep]
          cases hr : rpS L ds de p with
          | none => rfl
          | some E =>
            have hd : ¬ (nms (es ++ [E])).Nodup := by
              intro q
              rw [nms_app, List.nodup_append] at q
              refine hno ⟨E, hr, fun z => ?_⟩
              exact q.2.2 _ z _ (List.mem_singleton.mpr rfl) rfl
            exact fnS_dup hd
        rw [e0]
        exact ⟨A1, rfl, S1, o1, fun _ q => by cases q⟩
      · rw [if_neg (show ¬ (1 : Int32) = 0 by decide)]
        rw [hr] at ep
        have hA1 := hA E hr
        have hf := rpS_facts h.2.2.2.2 hr
        simp only [wg_M, Option.bind_some]
        have l56 : (A 56).length = 8 := h.1 56
        rw [ag_ (by decide) (by omega) (show (A1 56)[k]? = some (nI (E 8)) by rw [show A1 56 = (A 56).set k (nI (E 8)) from hA1 8 (by decide), List.getElem?_set_self (by omega)]), Option.bind_some, nI_1]
        have hE1 : ME A1 (es ++ [E]) := by
          intro i hi j hj
          rw [List.length_append, List.length_singleton] at hi
          have lj : (A (48 + j)).length = 8 := by
            match j, hj with
            | 0, _ => exact h.1 48
            | 1, _ => exact h.1 49
            | 2, _ => exact h.1 50
            | 3, _ => exact h.1 51
            | 4, _ => exact h.1 52
            | 5, _ => exact h.1 53
            | 6, _ => exact h.1 54
            | 7, _ => exact h.1 55
            | 8, _ => exact h.1 56
          by_cases hik : i < es.length
          · rw [hA1 j hj, List.getElem?_set_ne (by omega), hE i hik j hj, List.getElem_append_left hik]
          · have : i = k := by omega
            subst this
            rw [hA1 j hj, List.getElem?_set_self (by omega), List.getElem_append_right (by omega)]
            simp [hk]
        have hnd1 : (nms (es ++ [E])).Nodup := by
          rw [nms_app, List.nodup_append]
          refine ⟨hnd, by simp [nms], ?_⟩
          intro a ha b hb
          rw [List.mem_singleton.mp hb]
          rintro rfl
          exact hnew ha
        obtain ⟨A2, e2, S2, o2, E2⟩ := ih (k + 1) (E 8) A1 (es ++ [E]) (h.eqA S1 (o1 41 (by decide))) hn hds hde hE1 hnd1 (by rw [List.length_append, List.length_singleton, hk]) (by omega) (by omega) (by omega)
        rw [ep]
        exact ⟨A2, e2, S2, fun j hj => (o2 j hj).trans (o1 j hj), E2⟩
    · rw [if_pos (nI_le (by omega) (by omega)), show n - k = 0 by omega]
      have ep : fnS de (psS L ds de 0 p es) = if p = de ∧ (nms es).Nodup then some es else none := rfl
      rw [ep]
      by_cases hpd : p = de
      · rw [if_pos (by rw [hpd]), if_pos ⟨hpd, hnd⟩]
        exact ⟨A, rfl, h.1, fun _ _ => rfl, fun _ q => by cases q; exact hE⟩
      · rw [if_neg (fun q => hpd ((nI_eq (by omega) (by omega)).mp q)), if_neg (fun q => hpd q.1)]
        exact ⟨A, rfl, h.1, fun _ _ => rfl, fun _ q => by cases q⟩
theorem m_open (hF : 20000 ≤ F) (h : GF J A L) : ∃ J' A', f_Model_open F 39 (YW J A s Q) = some (opC L, YW J' A' s Q) ∧ Sh A' ∧ (∀ o, o ≠ 39 → J' o = J o) ∧ (∀ j, j < 16 ∨ 20 ≤ j → J' 39 j = J 39 j) ∧ (∀ j, j < 48 ∨ 57 ≤ j → A' j = A j) ∧ ∀ e ds de es, opS L = some (e, ds, de, es) → J' 39 16 = nI e ∧ J' 39 17 = nI es.length ∧ J' 39 18 = nI ds ∧ J' 39 19 = nI de ∧ ME A' es := by
  have hl := h.2.2.2.1
  unfold f_Model_open b_Model_open_0
  simp only [wo_M, Option.bind_some]
  rw [m_findEnd hF h, Option.bind_some]
  simp only [wp_M, wg_M, Option.bind_some]
  rw [pj_s]
  have f1 : GF (pj J 39 16 (opI (feS L (L.length - 21)))) A L := h.pj (Or.inr (by decide))
  cases hfe : feS L (L.length - 21) with
  | none =>
    have e1 : opS L = none := by unfold opS; rw [hfe]
    have e2 : opC L = 1 := by unfold opC; rw [hfe]
    rw [if_neg (show ¬ (0 : Int32) ≤ opI none by decide), e1, e2]
    exact ⟨_, A, rfl, h.1, fun o a => pj_row a, fun j hj => pj_k (by omega), fun _ _ => rfl, fun _ _ _ _ q => by cases q⟩
  | some e =>
    have he := feS_lt hfe
    have he22 : e + 22 ≤ L.length := by omega
    rw [if_pos (show (0 : Int32) ≤ opI (some e) from nI_pos' (by omega))]
    simp only [wo_M, Option.bind_some]
    rw [hfe] at f1
    obtain ⟨J1, r1, r2, r3, r4⟩ := m_readEnd (s := s) (Q := Q) hF f1 (e := e) pj_s he22
    rw [r1, Option.bind_some]
    simp only []
    have o1 : ∀ o, o ≠ 39 → J1 o = J o := fun o ho => by rw [r2 o ho, pj_row ho]
    have k1 : ∀ j, j < 16 ∨ 20 ≤ j → J1 39 j = J 39 j := fun j hj => by rw [r3 j (by omega) (by omega) (by omega), pj_k (by omega)]
    have q16 : J1 39 16 = nI e := by rw [r3 16 (by decide) (by decide) (by decide), pj_s]; rfl
    cases hre : reS L e with
    | none =>
      have e1 : opS L = none := by unfold opS; rw [hfe]; simp only [hre]
      have e2 : opC L = 2 := by unfold opC; rw [hfe]; simp only [e1]
      rw [e1, e2]
      exact ⟨J1, A, rfl, h.1, o1, k1, fun _ _ => rfl, fun _ _ _ _ q => by cases q⟩
    | some x =>
      obtain ⟨n, ds, de⟩ := x
      obtain ⟨q3, q4, q5⟩ := r4 n ds de hre
      obtain ⟨w1, w2, w3⟩ := reS_facts hre
      rw [if_neg (show ¬ (if (some (n, ds, de) : Option (Nat × Nat × Nat)).isSome = true then (1 : Int32) else 0) = 0 from (by decide : ¬ (1 : Int32) = 0))]
      simp only [wg_M, Option.bind_some, q4]
      have g1 : GF J1 A L := ⟨h.1, by rw [k1 3 (by decide)]; exact h.2.1, h.2.2⟩
      obtain ⟨A2, p1, pS, p2, p3⟩ := m_parts (J := J1) (s := s) (Q := Q) (L := L) (n := n) hF w2 (by omega) w1 F 0 ds A [] g1 q3 q4 q5 (fun i hi => absurd hi (Nat.not_lt_zero _)) List.nodup_nil rfl (Nat.zero_le _) w2 (by omega)
      rw [Nat.sub_zero] at p1 p3
      have eo : opS L = (match fnS de (psS L ds de n ds []) with
          | none => none
          | some es => some (e, ds, de, es)) := by
        unfold opS
        rw [hfe]
        simp only [hre]
      rw [show (0 : Int32) = nI 0 from rfl, p1]
      cases hfn : fnS de (psS L ds de n ds []) with
      | none =>
        rw [hfn] at eo
        have e2 : opC L = 2 := by unfold opC; rw [hfe]; simp only [eo]
        rw [eo, e2]
        exact ⟨J1, A2, rfl, pS, o1, k1, p2, fun _ _ _ _ q => by cases q⟩
      | some es =>
        rw [hfn] at eo
        have e2 : opC L = 0 := by unfold opC; rw [hfe]; simp only [eo]
        rw [e2]
        refine ⟨J1, A2, rfl, pS, o1, k1, p2, ?_⟩
        intro e' ds' de' es' q
        have hs := opS_some q
        rw [eo] at q
        cases q
        have hn : es.length = n := by
          have := hs.2.1
          rw [hre] at this
          cases this
          rfl
        rw [hn]
        exact ⟨q16, q3, q4, q5, p3 es hfn⟩
end O2
