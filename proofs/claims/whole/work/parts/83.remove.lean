/-! remove: parts kept, the end written anew. -/
theorem fcF_no {x : Int32} : ∀ {ns : List Int32} {i : Nat}, ¬ x ∈ ns → fcF x ns i = -1
  | [], _, _ => rfl
  | y :: ys, i, h => by
    show (if y = x then nI i else fcF x ys (i + 1)) = -1
    rw [if_neg (fun q => h (List.mem_cons.mpr (Or.inl q.symm)))]
    exact fcF_no (fun q => h (List.mem_cons_of_mem _ q))
theorem fiS_no {xs : List Int32} {x : Int32} : ∀ {n : Nat}, ¬ x ∈ xs.take n → fiS xs x n = -1
  | 0, _ => rfl
  | n + 1, h => by
    show (if xs[n]? = some x then nI n else fiS xs x n) = -1
    rw [if_neg, fiS_no]
    · intro q
      exact h (List.mem_of_mem_take (i := n) (by rw [List.take_take, Nat.min_eq_left (by omega)]; exact q))
    · intro q
      apply h
      obtain ⟨hn, e⟩ := List.getElem?_eq_some_iff.mp q
      exact List.mem_iff_getElem.mpr ⟨n, by rw [List.length_take]; omega, by rw [List.getElem_take]; exact e⟩
theorem fiS_in {xs : List Int32} {x : Int32} {i : Nat} (hi : xs[i]? = some x) : ∀ {n : Nat}, i < n → (∀ j, j < n → xs[j]? = some x → j = i) → fiS xs x n = nI i
  | 0, h, _ => by omega
  | n + 1, h, hu => by
    show (if xs[n]? = some x then nI n else fiS xs x n) = _
    by_cases e : n = i
    · subst e; rw [if_pos hi]
    · rw [if_neg (fun q => e (hu n (by omega) q))]
      exact fiS_in hi (by omega) (fun j hj => hu j (by omega))
theorem find_cases {es : List Ent} {xs : List Int32} (x : Int32) (hn : (nms es).Nodup) (ht : xs.take es.length = nms es) (h8 : es.length ≤ 8) : (∃ i, ∃ h : i < es.length, nI (es[i] 0) = x ∧ fcF x (nms es) 0 = nI i ∧ fiS xs x es.length = nI i) ∨ (fcF x (nms es) 0 = -1 ∧ fiS xs x es.length = -1 ∧ ¬ x ∈ nms es) := by
  have hl : (nms es).length = es.length := List.length_map ..
  by_cases hx : x ∈ nms es
  · left
    obtain ⟨i, hi, e⟩ := List.mem_iff_getElem.mp hx
    have hi' : i < es.length := by omega
    have hg : (nms es)[i]? = some x := by rw [List.getElem?_eq_getElem hi, e]
    have hxs : ∀ j, j < es.length → xs[j]? = (nms es)[j]? := fun j hj => by rw [← ht, List.getElem?_take_of_lt hj]
    refine ⟨i, hi', ?_, ?_, ?_⟩
    · have q : (nms es)[i]? = some (nI (es[i] 0)) := by unfold nms; rw [List.getElem?_map, List.getElem?_eq_getElem hi']; rfl
      rw [hg] at q
      exact (Option.some.inj q).symm
    · have := (fcF_in (x := x) (ns := nms es) (i := 0) hi hg (by omega)).mpr (nodup_iff.mp hn i x hg)
      rw [Nat.zero_add] at this
      exact this
    · refine fiS_in (by rw [hxs i hi', hg]) hi' ?_
      intro j hj q
      rw [hxs j hj] at q
      obtain ⟨hj', ej⟩ := List.getElem?_eq_some_iff.mp q
      unfold List.Nodup at hn
      rw [List.pairwise_iff_getElem] at hn
      by_cases h1 : j < i
      · exact absurd (ej.trans e.symm) (hn j i hj' hi h1)
      · by_cases h2 : i < j
        · exact absurd (e.trans ej.symm) (hn i j hi hj' h2)
        · omega
  · right
    exact ⟨fcF_no hx, fiS_no (by rw [ht]; exact hx), hx⟩
def chn (de : Nat) : Nat → List Ent → Nat → Prop
  | p, [], q => p = q
  | p, E :: t, q => E 7 = p ∧ p + 46 ≤ E 8 ∧ E 8 ≤ de ∧ chn de (E 8) t q
def okE (ds : Nat) (E : Ent) : Prop := 0 < E 0 ∧ E 0 < 2 ^ 24 ∧ (E 1 = 0 ∨ E 1 = 8) ∧ (E 2 = 0 ∨ E 2 = 8) ∧ E 3 < 2 ^ 32 ∧ E 4 ≤ ds ∧ E 5 ≤ 200 ∧ E 6 ≤ ds
theorem psS_chn {L : List Int32} (hb : ∀ b ∈ L, isB b) {ds de : Nat} : ∀ {n p : Nat} {acc es : List Ent} {q : Nat}, psS L ds de n p acc = some (es, q) → ∃ t, es = acc ++ t ∧ chn de p t q ∧ ∀ E ∈ t, okE ds E
  | 0, p, acc, es, q, h => by
    cases h
    exact ⟨[], (List.append_nil _).symm, rfl, fun E hE => by cases hE⟩
  | n + 1, p, acc, es, q, h => by
    unfold psS at h
    split at h
    · cases h
    · rename_i E hE
      obtain ⟨t, e, hc, ho⟩ := psS_chn hb h
      obtain ⟨f1, f2, f3, f4⟩ := rpS_facts hb hE
      refine ⟨E :: t, by rw [e, List.append_assoc]; rfl, ⟨f1, f2, f3, hc⟩, ?_⟩
      intro E' hE'
      rcases List.mem_cons.mp hE' with rfl | q
      · exact f4
      · exact ho E' q
theorem opS_chn {L : List Int32} (hb : ∀ b ∈ L, isB b) {e ds de : Nat} {es : List Ent} (h : opS L = some (e, ds, de, es)) : chn de ds es de ∧ ∀ E ∈ es, okE ds E := by
  obtain ⟨t, e1, h1, h2⟩ := psS_chn hb (opS_some h).2.2.1
  rw [List.nil_append] at e1
  subst e1
  exact ⟨h1, h2⟩
theorem chn_le {de : Nat} : ∀ {es : List Ent} {p q : Nat}, chn de p es q → p ≤ q
  | [], p, q, h => by have : p = q := h; omega
  | E :: t, p, q, h => by
    have := chn_le h.2.2.2
    have := h.2.1
    omega
theorem chn_at {de : Nat} : ∀ {es : List Ent} {p q : Nat}, chn de p es q → ∀ i (h : i < es.length), es[i] 7 ≤ es[i] 8 ∧ es[i] 8 ≤ de ∧ p ≤ es[i] 7 ∧ es[i] 8 ≤ q
  | [], p, q, _, i, h => by cases h
  | E :: t, p, q, hc, 0, h => by
    show E 7 ≤ E 8 ∧ E 8 ≤ de ∧ p ≤ E 7 ∧ E 8 ≤ q
    have h1 := hc.1
    have h2 := hc.2.1
    have h3 := chn_le hc.2.2.2
    exact ⟨by omega, hc.2.2.1, by omega, h3⟩
  | E :: t, p, q, hc, i + 1, h => by
    have hi : i < t.length := by rw [List.length_cons] at h; omega
    show t[i] 7 ≤ t[i] 8 ∧ t[i] 8 ≤ de ∧ p ≤ t[i] 7 ∧ t[i] 8 ≤ q
    have := chn_at hc.2.2.2 i hi
    have h2 := hc.2.1
    exact ⟨this.1, this.2.1, by omega, this.2.2.2⟩
def slc (L : List Int32) (p q : Nat) : List Int32 := (L.drop p).take (q - p)
theorem slc_len {L : List Int32} {p q : Nat} (h : q ≤ L.length) : (slc L p q).length = q - p := by
  unfold slc; rw [List.length_take, List.length_drop]; omega
/-- the parts, but one -/
def kpL (L : List Int32) (left : Nat) : Nat → List Ent → List Int32
  | _, [] => []
  | i, E :: t => (if i = left then [] else slc L (E 7) (E 8)) ++ kpL L left (i + 1) t
theorem kpL_len0 {L : List Int32} {left de : Nat} (hd : de ≤ L.length) : ∀ {es : List Ent} {i p q : Nat}, chn de p es q → (left < i ∨ i + es.length ≤ left) → (kpL L left i es).length = q - p
  | [], i, p, q, h, _ => by have : p = q := h; rw [this, Nat.sub_self]; rfl
  | E :: t, i, p, q, h, hl => by
    obtain ⟨h1, h2, h3, h4⟩ := h
    rw [List.length_cons] at hl
    have h5 := chn_le h4
    show ((if i = left then [] else slc L (E 7) (E 8)) ++ kpL L left (i + 1) t).length = _
    rw [if_neg (by omega), List.length_append, slc_len (by omega), kpL_len0 hd h4 (by omega)]
    omega
theorem kpL_len1 {L : List Int32} {left de : Nat} (hd : de ≤ L.length) : ∀ {es : List Ent} {i p q : Nat} {X : Ent}, chn de p es q → i ≤ left → es[left - i]? = some X → (kpL L left i es).length + (X 8 - X 7) = q - p
  | [], i, p, q, X, _, _, h => by cases h
  | E :: t, i, p, q, X, hc, hi, h => by
    obtain ⟨h1, h2, h3, h4⟩ := hc
    have h5 := chn_le h4
    show ((if i = left then [] else slc L (E 7) (E 8)) ++ kpL L left (i + 1) t).length + _ = _
    by_cases e : i = left
    · have e0 : left - i = 0 := by omega
      rw [e0] at h
      have hX : E = X := Option.some.inj h
      subst hX
      rw [if_pos e, List.nil_append, kpL_len0 hd h4 (by omega)]
      omega
    · have e0 : left - i = (left - (i + 1)) + 1 := by omega
      rw [e0, List.getElem?_cons_succ] at h
      have := kpL_len1 (left := left) hd h4 (by omega) h
      rw [if_neg e, List.length_append, slc_len (by omega)]
      omega
theorem isB_slc {L : List Int32} (hb : ∀ b ∈ L, isB b) {p q : Nat} : ∀ b ∈ slc L p q, isB b := mem_dt hb
theorem isB_kpL {L : List Int32} (hb : ∀ b ∈ L, isB b) {left : Nat} : ∀ {es : List Ent} {i : Nat}, ∀ b ∈ kpL L left i es, isB b
  | [], _ => fun b hb => by cases hb
  | E :: t, i => by
    show ∀ b ∈ (if i = left then [] else slc L (E 7) (E 8)) ++ kpL L left (i + 1) t, isB b
    refine isB_app ?_ (isB_kpL hb)
    by_cases e : i = left
    · rw [if_pos e]; intro b h; cases h
    · rw [if_neg e]; exact isB_slc hb
section Rm
variable {J : yJ} {A : yA} {s : Nat} {Q : zW} {F : Nat} {B L : List Int32} {wd : Int32} {es : List Ent} {de ds e : Nat}
theorem c_keep_l {left : Nat} {x : Int32} (hS : Sh A) (h3 : J 3 1 = nI L.length) (h4 : (A 4).take L.length = L) (hn : J 24 3 = nI es.length) (h8 : es.length ≤ 8) (hE : CE J es) (hd : de ≤ L.length) (hc : ∀ i (h : i < es.length), es[i] 7 ≤ es[i] 8 ∧ es[i] 8 ≤ de) (hx : ∀ k, k < 8 → (nI k = x ↔ k = left)) : ∀ (m k : Nat) (st : List Int32 × Int32) (T : List Int32), Rp st T → k ≤ es.length → es.length - k < m → ∃ st', l_Zip_keepParts_2 F m 0 x (nI k) (dw J A s Q st) = some ((), dw J A s Q st') ∧ Rp st' (T ++ kpL L left k (es.drop k)) := by
  have hl : (A 4).length = 1600 := hS 4
  have hL : L.length ≤ 1600 := by
    have := congrArg List.length h4
    rw [List.length_take] at this
    omega
  intro m
  induction m with
  | zero => intro k st T _ _ h; omega
  | succ m ih =>
    intro k st T hR hk hm
    show ∃ st', b_Zip_keepParts_2 F (l_Zip_keepParts_2 F m) 0 x (nI k) (dw J A s Q st) = _ ∧ _
    unfold b_Zip_keepParts_2 b_Zip_keepParts_50
    simp only [dw_g, Option.bind_some, hn]
    by_cases hlt : k < es.length
    · rw [if_neg (nI_ge hlt (by omega)), List.drop_eq_getElem_cons hlt]
      have hk8 : k < 8 := by omega
      show ∃ st', _ ∧ Rp st' (T ++ ((if k = left then [] else slc L (es[k] 7) (es[k] 8)) ++ kpL L left (k + 1) (es.drop (k + 1))))
      by_cases he : k = left
      · rw [if_pos ((hx k hk8).mpr he), if_pos he, nI_1, List.nil_append]
        exact ih (k + 1) st T hR (by omega) (by omega)
      · rw [if_neg (fun q => he ((hx k hk8).mp q)), if_neg he]
        have hr : rget (dw J A s Q st) 26 (nI k) = some (27 + k) := w_ent _ _ _ _ hk8
        have hg : ∀ j, j < 9 → getI (dw J A s Q st) (27 + k) 1 j = some (nI (es[k] j)) := fun j hj => by
          unfold dw
          rw [we_g _ _ _ _ hk8 hj, pj_o (by omega), pj_o (by omega), hE k hlt j hj]
        have hck := hc k hlt
        have hp := dw_part (J := J) (A := A) (s := s) (Q := Q) (F := F) (st := st) (p := es[k] 7) (q := es[k] 8) r34 (by decide) (by decide) hS h3 hL hck.1 (by omega)
        have e2 : ((A 4).drop (es[k] 7)).take (es[k] 8 - es[k] 7) = slc L (es[k] 7) (es[k] 8) := by
          unfold slc
          rw [← h4, List.drop_take, List.take_take, Nat.min_eq_left (by omega)]
        rw [e2] at hp
        rw [hr, Option.bind_some, hg 7 (by decide), Option.bind_some, hg 8 (by decide), Option.bind_some, hp, Option.bind_some, nI_1, ← List.append_assoc]
        exact ih (k + 1) _ _ hR.p (by omega) (by omega)
    · rw [if_pos (nI_le (by omega) (by omega)), List.drop_of_length_le (by omega)]
      exact ⟨st, rfl, by rw [show kpL L left k [] = [] from rfl, List.append_nil]; exact hR⟩
theorem c_keep {left : Nat} {x : Int32} (hF : 20000 ≤ F) (hS : Sh A) (h3 : J 3 1 = nI L.length) (h4 : (A 4).take L.length = L) (hn : J 24 3 = nI es.length) (h8 : es.length ≤ 8) (hE : CE J es) (hd : de ≤ L.length) (hc : ∀ i (h : i < es.length), es[i] 7 ≤ es[i] 8 ∧ es[i] 8 ≤ de) (hx : ∀ k, k < 8 → (nI k = x ↔ k = left)) {st : List Int32 × Int32} {T : List Int32} (hR : Rp st T) : ∃ st', f_Zip_keepParts F 0 x (dw J A s Q st) = some ((), dw J A s Q st') ∧ Rp st' (T ++ kpL L left 0 es) := by
  have := c_keep_l (F := F) (s := s) (Q := Q) hS h3 h4 hn h8 hE hd hc hx F 0 st T hR (Nat.zero_le _) (by omega)
  rw [List.drop_zero] at this
  exact this
/-- the end and the remark behind U1 -/
def fin (L : List Int32) (wd n ds : Int32) (e : Nat) (U1 : List Int32) : List Int32 := U1 ++ eE wd n ds (nI U1.length) (nI (L.length - (e + 22))) ++ slc L (e + 22) L.length
theorem fin_len {n d : Int32} {U1 : List Int32} (he : e + 22 ≤ L.length) : (fin L wd n d e U1).length = U1.length + (if wd = 0 then 22 else 98) + (L.length - (e + 22)) := by
  unfold fin
  rw [List.length_append, List.length_append, eE_len, slc_len (Nat.le_refl _)]
theorem CI_dw (hC : CI J A B L wd) (hS : Sh A) {st : List Int32 × Int32} : CI (pj (pj J 36 1 (sZ st)) 36 2 st.2) (ud A 37 (wr (A 37) 0 (st.1.take 1600))) B L wd := by
  obtain ⟨c1, c2, c3, c4, c5⟩ := hC
  refine ⟨?_, ?_, ?_, ?_, ?_⟩
  · rw [pj_o (by decide), pj_o (by decide)]; exact c1
  · rw [ud_n (by decide)]; exact c2
  · rw [pj_o (by decide), pj_o (by decide)]; exact c3
  · rw [ud_n (by decide)]; exact c4
  · rw [pj_o (by decide), pj_o (by decide)]; exact c5
theorem c_finish (hF : 20000 ≤ F) (hS : Sh A) (hC : CI J A B L wd) (hL : L.length ≤ 1600) (h6 : J 24 6 = nI (e + 22)) (he : e + 22 ≤ L.length) (n d : Int32) {st : List Int32 × Int32} {U1 : List Int32} (hR : Rp st U1) : ∃ J' A', Sh A' ∧ J' 39 = J 39 ∧ (∀ j, 40 ≤ j → A' j = A j) ∧ (((fin L wd n d e U1).length ≤ 1600 ∧ f_Zip_finishFile F 0 n d (dw J A s Q st) = some (.inl (), YW J' A' s Q) ∧ CI J' A' B (fin L wd n d e U1) wd) ∨ (1600 < (fin L wd n d e U1).length ∧ f_Zip_finishFile F 0 n d (dw J A s Q st) = some (.inr (YW J' A' s Q).length, YW J' A' s Q ++ [.inr (.inr (.inr (11, [])))]) ∧ CI J' A' B L wd)) := by
  have h3 := hC.2.2.1
  have h4 := hC.2.2.2.1
  have hR2 : Rp (sN st (eE wd n d (sZ st) (nI (L.length - (e + 22))))) (U1 ++ eE wd n d (nI U1.length) (nI (L.length - (e + 22)))) := by
    refine (hR.n (X := eE wd n d (sZ st) (nI (L.length - (e + 22))))).any ?_ ?_
    · rw [List.length_append, List.length_append, eE_len, eE_len]
    · intro q
      rw [List.length_append] at q
      rw [hR.z (by omega)]
  have hR3 := hR2.p (X := slc L (e + 22) L.length)
  have hp := dw_part (J := J) (A := A) (s := s) (Q := Q) (F := F) (st := sN st (eE wd n d (sZ st) (nI (L.length - (e + 22))))) (p := e + 22) (q := L.length) r34 (by decide) (by decide) hS h3 hL he (Nat.le_refl _)
  have e2 : ((A 4).drop (e + 22)).take (L.length - (e + 22)) = slc L (e + 22) L.length := by
    unfold slc
    conv => rhs; rw [← h4]
    rw [List.drop_take, List.take_take, List.length_take]
    have hl : (A 4).length = 1600 := hS 4
    congr 1
    omega
  rw [e2] at hp
  have hpre : f_Zip_finishFile F 0 n d (dw J A s Q st) = if (sP (sN st (eE wd n d (sZ st) (nI (L.length - (e + 22))))) (slc L (e + 22) L.length)).2 = 0 then (f_Row_become F 3 36 (dw J A s Q (sP (sN st (eE wd n d (sZ st) (nI (L.length - (e + 22))))) (slc L (e + 22) L.length)))).bind (fun r => some (.inl (), r.2)) else some (.inr (dw J A s Q (sP (sN st (eE wd n d (sZ st) (nI (L.length - (e + 22))))) (slc L (e + 22) L.length))).length, dw J A s Q (sP (sN st (eE wd n d (sZ st) (nI (L.length - (e + 22))))) (slc L (e + 22) L.length)) ++ [.inr (.inr (.inr (11, [])))]) := by
    unfold f_Zip_finishFile b_Zip_finishFile_0
    simp only [dw_g, Option.bind_some]
    rw [h3, h6, pk_sub he, dw_writeEnd hF hS, Option.bind_some]
    simp only [dw_g, Option.bind_some]
    rw [hC.2.2.2.2, h3, h6, hp, Option.bind_some]
    simp only [dw_g, Option.bind_some]
  generalize sP (sN st (eE wd n d (sZ st) (nI (L.length - (e + 22))))) (slc L (e + 22) L.length) = st2 at hpre hR3
  rcases hR3 with ⟨q1, q2⟩ | ⟨q1, q2⟩
  · obtain ⟨J1, A1, e1, S1, C1, j1, a1⟩ := c_becomes (F := F) (s := s) (Q := Q) hS hC q1
    refine ⟨J1, A1, S1, j1, a1, Or.inl ⟨q1, ?_, C1⟩⟩
    rw [hpre, q2, if_pos rfl, e1, Option.bind_some]
  · refine ⟨pj (pj J 36 1 (sZ st2)) 36 2 st2.2, ud A 37 (wr (A 37) 0 (st2.1.take 1600)), dw_S hS, ?_, ?_, Or.inr ⟨q1, ?_, CI_dw hC hS⟩⟩
    · rw [pj_row (by decide), pj_row (by decide)]
    · intro j hj; exact ud_n (by omega)
    · rw [hpre, if_neg (by rw [q2]; decide)]
      unfold dw
      rfl
theorem m_parts_l {left : Nat} {x : Int32} (hF : 20000 ≤ F) (hS : Sh A) (h4 : (A 41).take L.length = L) (hL : L.length ≤ 1600) (hn : J 39 17 = nI es.length) (h8 : es.length ≤ 8) (hE : ME A es) (hd : de ≤ L.length) (hc : ∀ i (h : i < es.length), es[i] 7 ≤ es[i] 8 ∧ es[i] 8 ≤ de) (hx : ∀ k, k < 8 → (nI k = x ↔ k = left)) : ∀ (m k : Nat) (T : List Int32), k ≤ es.length → es.length - k < m → T.length + (kpL L left k (es.drop k)).length ≤ 1700 → l_Model_putParts_2 F m 39 x (nI k) (md J A s Q T) = some ((), md J A s Q (T ++ kpL L left k (es.drop k))) := by
  intro m
  induction m with
  | zero => intro k T _ h; omega
  | succ m ih =>
    intro k T hk hm hT
    show b_Model_putParts_2 F (l_Model_putParts_2 F m) 39 x (nI k) (md J A s Q T) = _
    unfold b_Model_putParts_2 b_Model_putParts_31
    simp only [md_g, Option.bind_some, hn]
    by_cases hlt : k < es.length
    · rw [if_neg (nI_ge hlt (by omega))]
      rw [List.drop_eq_getElem_cons hlt] at hT ⊢
      have hk8 : k < 8 := by omega
      have ek : kpL L left k (es[k] :: es.drop (k + 1)) = (if k = left then [] else slc L (es[k] 7) (es[k] 8)) ++ kpL L left (k + 1) (es.drop (k + 1)) := rfl
      rw [ek] at hT ⊢
      by_cases he : k = left
      · rw [if_pos he, List.nil_append] at hT ⊢
        rw [if_pos ((hx k hk8).mpr he), nI_1]
        exact ih (k + 1) T (by omega) (by omega) hT
      · rw [if_neg he] at hT ⊢
        rw [if_neg (fun q => he ((hx k hk8).mp q))]
        have hck := hc k hlt
        rw [List.length_append, slc_len (by omega)] at hT
        have g7 : aget (md J A s Q T) 55 (nI k) = some (nI (es[k] 7)) := ag_ (by decide) (by omega) (by rw [ud_n (by decide)]; exact hE k hlt 7 (by decide))
        have g8 : aget (md J A s Q T) 56 (nI k) = some (nI (es[k] 8)) := ag_ (by decide) (by omega) (by rw [ud_n (by decide)]; exact hE k hlt 8 (by decide))
        rw [g7, Option.bind_some, g8, Option.bind_some, md_o, m_putFile hF hS h4 hL hck.1 (by omega) (by omega), Option.bind_some, nI_1, ← List.append_assoc]
        exact ih (k + 1) _ (by omega) (by omega) (by rw [List.length_append]; have := slc_len (L := L) (p := es[k] 7) (q := es[k] 8) (by omega); unfold slc at this; omega)
    · rw [if_pos (nI_le (by omega) (by omega)), List.drop_of_length_le (by omega)]
      rw [show kpL L left k [] = [] from rfl, List.append_nil]
theorem m_putParts {left : Nat} {x : Int32} {T : List Int32} (hF : 20000 ≤ F) (hS : Sh A) (h4 : (A 41).take L.length = L) (hL : L.length ≤ 1600) (hn : J 39 17 = nI es.length) (h8 : es.length ≤ 8) (hE : ME A es) (hd : de ≤ L.length) (hc : ∀ i (h : i < es.length), es[i] 7 ≤ es[i] 8 ∧ es[i] 8 ≤ de) (hx : ∀ k, k < 8 → (nI k = x ↔ k = left)) (hT : T.length + (kpL L left 0 es).length ≤ 1700) : f_Model_putParts F 39 x (md J A s Q T) = some ((), md J A s Q (T ++ kpL L left 0 es)) := by
  have := m_parts_l (F := F) (J := J) (s := s) (Q := Q) hF hS h4 hL hn h8 hE hd hc hx F 0 T (Nat.zero_le _) (by omega) (by rw [List.drop_zero]; exact hT)
  rw [List.drop_zero] at this
  exact this
end Rm
