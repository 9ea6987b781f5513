/-! Codes built from lengths: the class's counts and symbols, the reference's words. -/
theorem sh31 : ∀ d : Fin 32, (((nI d.val) &&& (31 : Int32)).toBitVec.smod 32).toNat = d.val := by decide
theorem shlD {n d : Nat} (hd : d < 32) (h : n * 2 ^ d < 2 ^ 32) : nI n <<< (nI d &&& (31 : Int32)) = nI (n * 2 ^ d) := pk_shlN _ d (sh31 ⟨d, hd⟩) h
theorem shrD {n d : Nat} (hd : d < 32) (h : n < 2 ^ 31) : nI n >>> (nI d &&& (31 : Int32)) = nI (n / 2 ^ d) := pk_shrN h _ d (sh31 ⟨d, hd⟩)
/-- an array's first places hold f -/
def hds (xs : List Int32) (n : Nat) (f : Nat → Nat) : Prop := ∀ l, l < n → xs[l]? = some (nI (f l))
theorem hds_set {xs : List Int32} {n k v : Nat} {f : Nat → Nat} (h : hds xs n f) (hk : k < xs.length) : hds (xs.set k (nI v)) n (fun j => if j = k then v else f j) := by
  intro l hl
  by_cases e : l = k
  · subst e; rw [List.getElem?_set_self hk]; simp
  · rw [List.getElem?_set_ne (fun q => e q.symm), h l hl]; simp [e]
theorem hds_eq {xs : List Int32} {n : Nat} {f g : Nat → Nat} (h : hds xs n f) (e : ∀ l, l < n → f l = g l) : hds xs n g := fun l hl => by rw [h l hl, e l hl]
theorem kix_inj {ls : List Nat} {la lb ra rb : Nat} (h1 : ra < kC ls la) (h2 : rb < kC ls lb) (e : kB ls la + ra = kB ls lb + rb) : la = lb ∧ ra = rb := by
  by_cases h : la < lb
  · have := bf_mono ls (show la + 1 ≤ lb by omega)
    have e1 : kB ls (la + 1) = kB ls la + kC ls la := rfl
    omega
  · by_cases h' : lb < la
    · have := bf_mono ls (show lb + 1 ≤ la by omega)
      have e1 : kB ls (lb + 1) = kB ls lb + kC ls lb := rfl
      omega
    · have : la = lb := by omega
      subst this
      exact ⟨rfl, by omega⟩
theorem gDk {ls : List Nat} {k : Nat} (h : k < ls.length) : ls.getD k 0 = ls[k] := by rw [List.getD_eq_getElem?_getD, List.getElem?_eq_getElem h]; rfl
def isC (c : Nat) : Prop := c = 11 ∨ c = 15 ∨ c = 19
/-- the code c of the class is that of the lengths ls -/
def CDt (A : yA) (c : Nat) (ls : List Nat) : Prop := (∀ l, 1 ≤ l → l ≤ 15 → (A (c + 1))[l]? = some (nI (kC ls l))) ∧ ∀ k, k < ls.length → 0 < ls.getD k 0 → (A (c + 2))[kB ls (ls.getD k 0) + kR ls k]? = some (nI k)
section Bd
variable {J : yJ} {A : yA} {s : Nat} {Q : zW} {F c fr : Nat} {ls : List Nat}
theorem C_g (h : isC c) : getR (YW J A s Q) c 4 0 = some (c + 1) ∧ getR (YW J A s Q) c 4 1 = some (c + 2) ∧ getR (YW J A s Q) c 4 2 = some (c + 3) := by
  rcases h with rfl | rfl | rfl <;> exact ⟨rfl, rfl, rfl⟩
theorem C_a (h : isC c) : aL (c + 1) = 16 ∧ aL (c + 2) ≠ 0 ∧ aL (c + 2) ≤ 288 ∧ aL (c + 3) = 16 ∧ c + 3 < 23 ∧ 11 ≤ c := by
  rcases h with rfl | rfl | rfl <;> decide
/-- lengths as the class holds them -/
def hL23 (A : yA) (fr : Nat) (ls : List Nat) : Prop := ∀ k, k < ls.length → (A 23)[fr + k]? = some (nI (ls.getD k 0))
def fr3 (A A' : yA) (c : Nat) : Prop := Sh A' ∧ ∀ j, j ≠ c + 1 → j ≠ c + 2 → j ≠ c + 3 → A' j = A j
theorem fr3.tr {A' A2 : yA} (h1 : fr3 A A' c) (h2 : fr3 A' A2 c) : fr3 A A2 c := ⟨h2.1, fun j a b d => (h2.2 j a b d).trans (h1.2 j a b d)⟩
theorem b_128 (hc : isC c) (hn : ls.length ≤ aL (c + 2)) (h15 : ∀ l ∈ ls, l ≤ 15) (hfr : fr + ls.length ≤ 320) : ∀ (m k : Nat) (A : yA), Sh A → hL23 A fr ls → k ≤ ls.length → ls.length - k < m → (∀ l, 1 ≤ l → l ≤ 15 → (A (c + 3))[l]? = some (nI (kB ls l + (ls.take k).count l))) → (∀ j, j < k → 0 < ls.getD j 0 → (A (c + 2))[kB ls (ls.getD j 0) + kR ls j]? = some (nI j)) → ∃ A', l_Code_build_128 F m c 23 (nI fr) (nI ls.length) (nI k) (YW J A s Q) = some (1, YW J A' s Q) ∧ fr3 A A' c ∧ A' (c + 1) = A (c + 1) ∧ ∀ j, j < ls.length → 0 < ls.getD j 0 → (A' (c + 2))[kB ls (ls.getD j 0) + kR ls j]? = some (nI j) := by
  obtain ⟨a1, a2, a2', a3, a4, a5⟩ := C_a hc
  intro m
  induction m with
  | zero => intro k A _ _ _ h; omega
  | succ m ih =>
    intro k A hS hl hk hm hx hy
    have l3 : (A (c + 3)).length = 16 := (hS _).trans a3
    have l2 := hS (c + 2)
    show ∃ A', b_Code_build_128 F (l_Code_build_128 F m) c 23 (nI fr) (nI ls.length) (nI k) (YW J A s Q) = _ ∧ _
    unfold b_Code_build_128 b_Code_build_172
    by_cases hlt : k < ls.length
    · have hg : aget (YW J A s Q) 23 (nI fr + nI k) = some (nI (ls.getD k 0)) := by
        rw [nI_add]
        exact ag_ (by decide) (by omega) (hl k hlt)
      rw [if_neg (nI_ge hlt (by omega)), hg, Option.bind_some]
      have hle : ls.getD k 0 ≤ 15 := by rw [gDk hlt]; exact h15 _ (List.getElem_mem _)
      by_cases h0 : 0 < ls.getD k 0
      · have hr := rk_lt hlt h0
        have hb : kB ls (ls.getD k 0 + 1) = kB ls (ls.getD k 0) + kC ls (ls.getD k 0) := rfl
        have hb2 := bf_le ls (ls.getD k 0 + 1)
        have hg3 : aget (YW J A s Q) (c + 3) (nI (ls.getD k 0)) = some (nI (kB ls (ls.getD k 0) + kR ls k)) := ag_ (by rw [a3]; decide) (by omega) (hx _ h0 hle)
        rw [if_neg (nI_nle h0 (by omega)), (C_g hc).2.1, Option.bind_some, (C_g hc).2.2, Option.bind_some, hg3, Option.bind_some, as_ a2 (by omega) (by omega), Option.bind_some, (C_g hc).2.2, Option.bind_some]
        have hg3' : aget (YW J (ud A (c + 2) ((A (c + 2)).set (kB ls (ls.getD k 0) + kR ls k) (nI k))) s Q) (c + 3) (nI (ls.getD k 0)) = some (nI (kB ls (ls.getD k 0) + kR ls k)) := ag_ (by rw [a3]; decide) (by omega) (by rw [ud_n (by omega)]; exact hx _ h0 hle)
        rw [hg3', Option.bind_some, as_ (by rw [a3]; decide) (by rw [ud_n (by omega)]; omega) (by rw [ud_n (by omega)]; omega), Option.bind_some, nI_1, nI_1, ud_n (show c + 3 ≠ c + 2 by omega)]
        have S1 : Sh (ud (ud A (c + 2) ((A (c + 2)).set (kB ls (ls.getD k 0) + kR ls k) (nI k))) (c + 3) ((A (c + 3)).set (ls.getD k 0) (nI (kB ls (ls.getD k 0) + kR ls k + 1)))) := (hS.ud List.length_set).ud (by rw [List.length_set, ud_n (by omega)])
        obtain ⟨A', e, f1, f2, f3⟩ := ih (k + 1) _ S1 (fun j hj => by rw [ud_n (by omega), ud_n (by omega)]; exact hl j hj) (by omega) (by omega) (by
          intro l h1 h2
          rw [ud_s, count_take_succ ls hlt]
          by_cases e : ls.getD k 0 = l
          · rw [if_pos e, ← e, List.getElem?_set_self (by omega)]
            unfold kR
            rfl
          · rw [if_neg e, List.getElem?_set_ne e, hx l h1 h2]
            rfl) (by
          intro j hj hj0
          rw [ud_n (by omega), ud_s]
          by_cases e : j = k
          · subst e; rw [List.getElem?_set_self (by omega)]
          · rw [List.getElem?_set_ne, hy j (by omega) hj0]
            intro q
            have := kix_inj hr (rk_lt (show j < ls.length by omega) hj0) q
            exact e (rk_inj (by omega) hlt this.1.symm this.2.symm))
        refine ⟨A', e, ⟨f1.1, fun j h1 h2 h3 => by rw [f1.2 j h1 h2 h3, ud_n h3, ud_n h2]⟩, by rw [f2, ud_n (by omega), ud_n (by omega)], f3⟩
      · have e0 : ls.getD k 0 = 0 := by omega
        rw [e0, if_pos (by decide), nI_1]
        refine ih (k + 1) A hS hl (by omega) (by omega) ?_ ?_
        · intro l h1 h2
          rw [count_take_succ ls hlt, if_neg (by omega), Nat.add_zero]
          exact hx l h1 h2
        · intro j hj hj0
          by_cases e : j = k
          · subst e; omega
          · exact hy j (by omega) hj0
    · rw [if_pos (nI_le (by omega) (by omega))]
      exact ⟨A, rfl, ⟨hS, fun _ _ _ _ => rfl⟩, rfl, fun j hj => hy j (by omega)⟩
def bOK (b : Int32) (A' : yA) (c : Nat) (ls : List Nat) : Prop := (b = 1 ∧ kS ls 15 ≤ 32768 ∧ CDt A' c ls) ∨ (b = 0 ∧ ¬ kS ls 15 ≤ 32768)
theorem b_70 (hF : 20000 ≤ F) (hc : isC c) (hn : ls.length ≤ aL (c + 2)) (h15 : ∀ l ∈ ls, l ≤ 15) (hfr : fr + ls.length ≤ 320) : ∀ (m l f : Nat) (A : yA), Sh A → hL23 A fr ls → 1 ≤ l → l ≤ 16 → 16 - l < m → (f : Int) = kI ls (l - 1) → (∀ j, 1 ≤ j → j ≤ 15 → (A (c + 1))[j]? = some (nI (kC ls j))) → (∀ j, 1 ≤ j → j < l → (A (c + 3))[j]? = some (nI (kB ls j))) → ∃ b A', l_Code_build_70 F m c 23 (nI fr) (nI ls.length) (nI f) (nI (kB ls l)) (nI l) (YW J A s Q) = some (b, YW J A' s Q) ∧ fr3 A A' c ∧ bOK b A' c ls := by
  obtain ⟨a1, a2, a2', a3, a4, a5⟩ := C_a hc
  intro m
  induction m with
  | zero => intro l f A _ _ _ _ h; omega
  | succ m ih =>
    intro l f A hS hl h1 h16 hm hf hct hnx
    have l3 : (A (c + 3)).length = 16 := (hS _).trans a3
    show ∃ b A', b_Code_build_70 F (l_Code_build_70 F m) c 23 (nI fr) (nI ls.length) (nI f) (nI (kB ls l)) (nI l) (YW J A s Q) = _ ∧ _
    unfold b_Code_build_70
    by_cases hlt : l ≤ 15
    · have hfl := fr_le ls (l - 1)
      have hp : (2 : Int) ^ (l - 1) ≤ 2 ^ 15 := by
        have : 2 ^ (l - 1) ≤ 2 ^ 15 := Nat.pow_le_pow_right (by decide) (by omega)
        exact_mod_cast this
      have hfb : f ≤ 32768 := by omega
      have hcl : kC ls l ≤ ls.length := by rw [cn_pos (by omega)]; exact List.count_le_length
      have hkI : kI ls l = 2 * kI ls (l - 1) - kC ls l := by
        obtain ⟨l, rfl⟩ : ∃ l', l = l' + 1 := ⟨l - 1, by omega⟩
        rfl
      have hg1 : ∀ A1 : yA, A1 (c + 1) = A (c + 1) → aget (YW J A1 s Q) (c + 1) (nI l) = some (nI (kC ls l)) := fun A1 e => ag_ (by rw [a1]; decide) (by omega) (by rw [e]; exact hct l h1 hlt)
      rw [if_neg (show ¬ (15 : Int32) < nI l from nI_nlt (b := l) (a := 15) hlt (by decide)), (C_g hc).1, Option.bind_some, hg1 A rfl, Option.bind_some, show (2 : Int32) = nI 2 from rfl, pk_mul]
      by_cases hge : kC ls l ≤ 2 * f
      · have hb := bf_le ls l
        rw [pk_sub hge, if_pos (nI_pos' (by omega)), (C_g hc).2.2, Option.bind_some, as_ (by rw [a3]; decide) (by omega) (by omega), Option.bind_some, (C_g hc).1, Option.bind_some, hg1 _ (ud_n (by omega)), Option.bind_some, nI_add, nI_1]
        obtain ⟨b, A', e, f1, f2⟩ := ih (l + 1) (2 * f - kC ls l) (ud A (c + 3) ((A (c + 3)).set l (nI (kB ls l)))) (hS.ud List.length_set) (fun j hj => by rw [ud_n (by omega)]; exact hl j hj) (by omega) (by omega) (by omega) (by rw [Nat.add_sub_cancel, hkI]; omega) (fun j q1 q2 => by rw [ud_n (by omega)]; exact hct j q1 q2) (by
          intro j q1 q2
          rw [ud_s]
          by_cases e : j = l
          · subst e; rw [List.getElem?_set_self (by omega)]
          · rw [List.getElem?_set_ne (fun q => e q.symm)]; exact hnx j q1 (by omega))
        exact ⟨b, A', e, ⟨f1.1, fun j q1 q2 q3 => by rw [f1.2 j q1 q2 q3, ud_n q3]⟩, f2⟩
      · rw [if_neg (fun q => Int32.lt_irrefl (Int32.lt_of_lt_of_le (pk_sneg (by omega) (by omega)) q))]
        refine ⟨0, A, rfl, ⟨hS, fun _ _ _ _ => rfl⟩, Or.inr ⟨rfl, ?_⟩⟩
        intro q
        have q2 := (fr_iff ls hlt).mpr (Nat.le_trans (sm_mono ls hlt) q)
        omega
    · have e16 : l = 16 := by omega
      subst e16
      rw [if_pos (by decide)]
      obtain ⟨A', e, f1, f2, f3⟩ := b_128 (F := F) (J := J) (s := s) (Q := Q) (fr := fr) hc hn h15 hfr F 0 A hS hl (Nat.zero_le _) (by omega) (by
        intro l q1 q2
        rw [List.take_zero, List.count_nil, Nat.add_zero]
        exact hnx l q1 (by omega)) (fun j hj => by omega)
      refine ⟨1, A', e, f1, Or.inl ⟨rfl, ?_, ⟨fun l q1 q2 => by rw [f2]; exact hct l q1 q2, f3⟩⟩⟩
      refine (fr_iff ls (Nat.le_refl 15)).mp ?_
      have : (16 : Nat) - 1 = 15 := rfl
      rw [this] at hf
      omega
theorem b_27 (hF : 20000 ≤ F) (hc : isC c) (hn : ls.length ≤ aL (c + 2)) (h15 : ∀ l ∈ ls, l ≤ 15) (hfr : fr + ls.length ≤ 320) : ∀ (m k : Nat) (A : yA), Sh A → hL23 A fr ls → k ≤ ls.length → ls.length - k < m → hds (A (c + 1)) 16 (fun l => (ls.take k).count l) → ∃ b A', l_Code_build_27 F m c 23 (nI fr) (nI ls.length) (nI k) (YW J A s Q) = some (b, YW J A' s Q) ∧ fr3 A A' c ∧ bOK b A' c ls := by
  obtain ⟨a1, a2, a2', a3, a4, a5⟩ := C_a hc
  intro m
  induction m with
  | zero => intro k A _ _ _ h; omega
  | succ m ih =>
    intro k A hS hl hk hm hct
    have l1 : (A (c + 1)).length = 16 := (hS _).trans a1
    show ∃ b A', b_Code_build_27 F (l_Code_build_27 F m) c 23 (nI fr) (nI ls.length) (nI k) (YW J A s Q) = _ ∧ _
    unfold b_Code_build_27
    by_cases hlt : k < ls.length
    · have hg : aget (YW J A s Q) 23 (nI fr + nI k) = some (nI (ls.getD k 0)) := by
        rw [nI_add]
        exact ag_ (by decide) (by omega) (hl k hlt)
      have hle : ls.getD k 0 ≤ 15 := by rw [gDk hlt]; exact h15 _ (List.getElem_mem _)
      have hg1 : aget (YW J A s Q) (c + 1) (nI (ls.getD k 0)) = some (nI ((ls.take k).count (ls.getD k 0))) := ag_ (by rw [a1]; decide) (by omega) (hct _ (by omega))
      rw [if_neg (nI_ge hlt (by omega)), (C_g hc).1, Option.bind_some, hg, Option.bind_some, hg1, Option.bind_some, as_ (by rw [a1]; decide) (by omega) (by omega), Option.bind_some, nI_1, nI_1]
      obtain ⟨b, A', e, f1, f2⟩ := ih (k + 1) (ud A (c + 1) ((A (c + 1)).set (ls.getD k 0) (nI ((ls.take k).count (ls.getD k 0) + 1)))) (hS.ud List.length_set) (fun j hj => by rw [ud_n (by omega)]; exact hl j hj) (by omega) (by omega) (by
        rw [ud_s]
        refine hds_eq (hds_set hct (by omega)) ?_
        intro l _
        rw [count_take_succ ls hlt]
        by_cases e : l = ls.getD k 0
        · rw [if_pos e, if_pos e.symm, e]
        · rw [if_neg e, if_neg (fun q => e q.symm), Nat.add_zero])
      exact ⟨b, A', e, ⟨f1.1, fun j q1 q2 q3 => by rw [f1.2 j q1 q2 q3, ud_n q1]⟩, f2⟩
    · have hk2 : k = ls.length := by omega
      rw [if_pos (nI_le (by omega) (by omega)), (C_g hc).1, Option.bind_some, show (0 : Int32) = nI 0 from rfl, as_ (by rw [a1]; decide) (by omega) (by omega), Option.bind_some]
      obtain ⟨b, A', e, f1, f2⟩ := b_70 (F := F) (J := J) (s := s) (Q := Q) (fr := fr) hF hc hn h15 hfr F 1 1 (ud A (c + 1) ((A (c + 1)).set 0 (nI 0))) (hS.ud List.length_set) (fun j hj => by rw [ud_n (by omega)]; exact hl j hj) (Nat.le_refl _) (by decide) (by omega) rfl (by
        intro j q1 q2
        rw [ud_s, List.getElem?_set_ne (by omega), hct j (by omega), hk2, List.take_length, cn_pos (by omega)]) (fun j q1 q2 => by omega)
      exact ⟨b, A', e, ⟨f1.1, fun j q1 q2 q3 => by rw [f1.2 j q1 q2 q3, ud_n q1]⟩, f2⟩
theorem b_3 (hF : 20000 ≤ F) (hc : isC c) (hn : ls.length ≤ aL (c + 2)) (h15 : ∀ l ∈ ls, l ≤ 15) (hfr : fr + ls.length ≤ 320) : ∀ (m l : Nat) (A : yA), Sh A → hL23 A fr ls → l ≤ 16 → 16 - l < m → hds (A (c + 1)) l (fun _ => 0) → ∃ b A', l_Code_build_3 F m c 23 (nI fr) (nI ls.length) (nI l) (YW J A s Q) = some (b, YW J A' s Q) ∧ fr3 A A' c ∧ bOK b A' c ls := by
  obtain ⟨a1, a2, a2', a3, a4, a5⟩ := C_a hc
  intro m
  induction m with
  | zero => intro l A _ _ _ h; omega
  | succ m ih =>
    intro l A hS hl hk hm hct
    have l1 : (A (c + 1)).length = 16 := (hS _).trans a1
    show ∃ b A', b_Code_build_3 F (l_Code_build_3 F m) c 23 (nI fr) (nI ls.length) (nI l) (YW J A s Q) = _ ∧ _
    unfold b_Code_build_3
    by_cases hlt : l ≤ 15
    · rw [if_neg (show ¬ (15 : Int32) < nI l from nI_nlt (b := l) (a := 15) hlt (by decide)), (C_g hc).1, Option.bind_some, as_ (by rw [a1]; decide) (by omega) (by omega), Option.bind_some, nI_1]
      obtain ⟨b, A', e, f1, f2⟩ := ih (l + 1) (ud A (c + 1) ((A (c + 1)).set l 0)) (hS.ud List.length_set) (fun j hj => by rw [ud_n (by omega)]; exact hl j hj) (by omega) (by omega) (by
        rw [ud_s]
        intro j hj
        by_cases e : j = l
        · subst e; rw [List.getElem?_set_self (by omega)]; rfl
        · rw [List.getElem?_set_ne (fun q => e q.symm)]; exact hct j (by omega))
      exact ⟨b, A', e, ⟨f1.1, fun j q1 q2 q3 => by rw [f1.2 j q1 q2 q3, ud_n q1]⟩, f2⟩
    · have e16 : l = 16 := by omega
      subst e16
      rw [if_pos (by decide)]
      exact b_27 (F := F) (J := J) (s := s) (Q := Q) (fr := fr) hF hc hn h15 hfr F 0 A hS hl (Nat.zero_le _) (by omega) (by
        refine hds_eq hct ?_
        intro l _
        rw [List.take_zero, List.count_nil])
theorem c_build (hF : 20000 ≤ F) (hc : isC c) (hn : ls.length ≤ aL (c + 2)) (h15 : ∀ l ∈ ls, l ≤ 15) (hfr : fr + ls.length ≤ 320) (hS : Sh A) (hl : hL23 A fr ls) : ∃ b A', f_Code_build F c 23 (nI fr) (nI ls.length) (YW J A s Q) = some (b, YW J A' s Q) ∧ fr3 A A' c ∧ bOK b A' c ls := b_3 hF hc hn h15 hfr F 0 A hS hl (by decide) (by omega) (fun l h => by omega)
end Bd
/-! the reference's words -/
/-- lengths as the reference holds them -/
def hL44 (A : yA) (fr : Nat) (ls : List Nat) : Prop := ∀ k, k < ls.length → (A 44)[fr + k]? = some (nI (ls.getD k 0))
def Nx (ls : List Nat) (l k : Nat) : Nat := kF ls l + (ls.take k).count l
theorem Nx_le (ls : List Nat) {l k : Nat} (h : l ≤ 15) (h1 : 1 ≤ l) (hn : ls.length ≤ 339) : Nx ls l k ≤ 2 ^ 14 * 339 := by
  have h1 := nx_le ls h hn
  have h2 := count_take_le ls k l
  rw [cn_pos (by omega)] at h1
  unfold Nx
  omega
def WI (ls : List Nat) (fr l k word last : Nat) (ws0 ws : List Int32) : Prop := (last = 0 ∧ Nx ls l k = 0 ∨ 0 < last ∧ last ≤ l ∧ (word + 1) * 2 ^ (l - last) = Nx ls l k) ∧ ws.length = 339 ∧ (∀ j, j < ls.length → 0 < ls.getD j 0 → (ls.getD j 0 < l ∨ ls.getD j 0 = l ∧ j < k) → ws[fr + j]? = some (nI (kW ls j))) ∧ ∀ j, j < fr ∨ fr + ls.length ≤ j → ws[j]? = ws0[j]?
def sS (ls : List Nat) (l k : Nat) : Nat := kS ls (l - 1) + (ls.take k).count l * 2 ^ (15 - l)
section Mw
variable {J : yJ} {A : yA} {s : Nat} {Q : zW} {F fr : Nat} {ls : List Nat} {ws0 : List Int32}
theorem w_21 (hS : Sh A) (hl : hL44 A fr ls) (h15 : ∀ l ∈ ls, l ≤ 15) (hfr : fr + ls.length ≤ 339) {l : Nat} (h1 : 1 ≤ l) (hl15 : l ≤ 15) {K11 : Nat → Int32 → Int32 → Int32 → Int32 → Int32 → Int32 → zW → Option (Int32 × zW)} : ∀ (m k word last : Nat) (ws : List Int32), k ≤ ls.length → ls.length - k < m → WI ls fr l k word last ws0 ws → ∃ word' last' ws', l_Model_makeWords_21 F K11 m 39 (nI fr) (nI ls.length) (nI word) (nI last) (nI (sS ls l k)) (nI l) (nI (fr + k)) (YW J (ud A 45 ws) s Q) = K11 39 (nI fr) (nI ls.length) (nI word') (nI last') (nI (sS ls l ls.length)) (nI (l + 1)) (YW J (ud A 45 ws') s Q) ∧ WI ls fr l ls.length word' last' ws0 ws' := by
  intro m
  induction m with
  | zero => intro k word last ws _ h; omega
  | succ m ih =>
    intro k word last ws hk hm hW
    show ∃ word' last' ws', b_Model_makeWords_21 F K11 (l_Model_makeWords_21 F K11 m) 39 (nI fr) (nI ls.length) (nI word) (nI last) (nI (sS ls l k)) (nI l) (nI (fr + k)) (YW J (ud A 45 ws) s Q) = _ ∧ _
    unfold b_Model_makeWords_21 b_Model_makeWords_59 b_Model_makeWords_84
    rw [nI_add]
    obtain ⟨w1, w2, w3, w4⟩ := hW
    by_cases hlt : k < ls.length
    · have hg : aget (YW J (ud A 45 ws) s Q) 44 (nI (fr + k)) = some (nI (ls.getD k 0)) := ag_ (by decide) (by omega) (by rw [ud_n (by decide)]; exact hl k hlt)
      have hle : ls.getD k 0 ≤ 15 := by rw [gDk hlt]; exact h15 _ (List.getElem_mem _)
      rw [if_neg (nI_ge (by omega) (by omega))]
      simp only [wg_M, Option.bind_some, hg]
      have hct := count_take_succ ls hlt l
      by_cases e : ls.getD k 0 = l
      · rw [if_pos (by rw [e])]
        have hNx := Nx_le ls (k := k) hl15 h1 (by omega)
        have hwk : kW ls k = Nx ls l k := by
          unfold kW Nx kR
          rw [e]
        have hNs : Nx ls l (k + 1) = Nx ls l k + 1 := by
          unfold Nx
          rw [hct, if_pos e]
          omega
        have hsum : nI (sS ls l k) + ((1 : Int32) <<< (((15 : Int32) - nI l) &&& 31)) = nI (sS ls l (k + 1)) := by
          rw [show (15 : Int32) = nI 15 from rfl, pk_sub hl15, show (1 : Int32) = nI 1 from rfl, shlD (by omega) (by
            have : 2 ^ (15 - l) ≤ 2 ^ 15 := Nat.pow_le_pow_right (by decide) (by omega)
            omega), nI_add]
          unfold sS
          rw [hct, if_pos e, Nat.add_mul, Nat.add_assoc]
        have hgo : ∃ word' last' ws', ((aset (YW J (ud A 45 ws) s Q) 45 (nI (fr + k)) (nI (Nx ls l k))).bind fun w67 => l_Model_makeWords_21 F K11 m 39 (nI fr) (nI ls.length) (nI (Nx ls l k)) (nI l) (nI (sS ls l k) + ((1 : Int32) <<< (((15 : Int32) - nI l) &&& 31))) (nI l) (nI (fr + k) + 1) w67) = K11 39 (nI fr) (nI ls.length) (nI word') (nI last') (nI (sS ls l ls.length)) (nI (l + 1)) (YW J (ud A 45 ws') s Q) ∧ WI ls fr l ls.length word' last' ws0 ws' := by
          rw [as_ (by decide) (by rw [ud_s]; omega) (by rw [ud_s]; omega), Option.bind_some, ud_ud, ud_s, hsum, nI_1]
          refine ih (k + 1) _ _ _ (by omega) (by omega) ⟨?_, by rw [List.length_set]; exact w2, ?_, ?_⟩
          · right
            refine ⟨by omega, Nat.le_refl _, ?_⟩
            rw [Nat.sub_self, Nat.pow_zero, Nat.mul_one, hNs]
          · intro j hj hj0 hc
            by_cases ej : j = k
            · subst ej
              rw [List.getElem?_set_self (by omega), hwk]
            · rw [List.getElem?_set_ne (by omega)]
              refine w3 j hj hj0 ?_
              rcases hc with q | ⟨q, q2⟩
              · exact Or.inl q
              · exact Or.inr ⟨q, by omega⟩
          · intro j hj
            rw [List.getElem?_set_ne (by omega)]
            exact w4 j hj
        rcases w1 with ⟨q1, q2⟩ | ⟨q1, q2, q3⟩
        · rw [if_pos (by rw [q1]; rfl)]
          rw [q2] at hgo
          exact hgo
        · have hw : word + 1 ≤ Nx ls l k := by
            rw [← q3]
            exact Nat.le_mul_of_pos_right _ (Nat.two_pow_pos _)
          rw [if_neg (nI_ne0 q1 (by omega)), nI_1, pk_sub q2, shlD (by omega) (by rw [q3]; omega), q3]
          exact hgo
      · rw [if_neg (fun q => e ((nI_eq (by omega) (by omega)).mp q))]
        have e1 : sS ls l k = sS ls l (k + 1) := by unfold sS; rw [hct, if_neg e, Nat.add_zero]
        have e2 : Nx ls l k = Nx ls l (k + 1) := by unfold Nx; rw [hct, if_neg e, Nat.add_zero]
        rw [nI_1, e1]
        refine ih (k + 1) word last ws (by omega) (by omega) ⟨by rw [← e2]; exact w1, w2, ?_, w4⟩
        intro j hj hj0 hc
        refine w3 j hj hj0 ?_
        rcases hc with q | ⟨q, q2⟩
        · exact Or.inl q
        · by_cases ej : j = k
          · subst ej; exact absurd q e
          · exact Or.inr ⟨q, by omega⟩
    · have ek : k = ls.length := by omega
      rw [if_pos (nI_le (by omega) (by omega)), nI_1, ek]
      exact ⟨word, last, ws, rfl, by rw [← ek]; exact ⟨w1, w2, w3, w4⟩⟩
theorem w_11 (hF : 20000 ≤ F) (hS : Sh A) (hl : hL44 A fr ls) (h15 : ∀ l ∈ ls, l ≤ 15) (hfr : fr + ls.length ≤ 339) : ∀ (m l word last : Nat) (ws : List Int32), 1 ≤ l → l ≤ 16 → 16 - l < m → WI ls fr l 0 word last ws0 ws → ∃ ws', l_Model_makeWords_11 F m 39 (nI fr) (nI ls.length) (nI word) (nI last) (nI (kS ls (l - 1))) (nI l) (YW J (ud A 45 ws) s Q) = some (if kS ls 15 ≤ 32768 then 1 else 0, YW J (ud A 45 ws') s Q) ∧ ws'.length = 339 ∧ (∀ j, j < ls.length → 0 < ls.getD j 0 → ws'[fr + j]? = some (nI (kW ls j))) ∧ ∀ j, j < fr ∨ fr + ls.length ≤ j → ws'[j]? = ws0[j]? := by
  intro m
  induction m with
  | zero => intro l word last ws _ _ h; omega
  | succ m ih =>
    intro l word last ws h1 h16 hm hW
    show ∃ ws', b_Model_makeWords_11 F (l_Model_makeWords_11 F m) 39 (nI fr) (nI ls.length) (nI word) (nI last) (nI (kS ls (l - 1))) (nI l) (YW J (ud A 45 ws) s Q) = _ ∧ _
    unfold b_Model_makeWords_11
    by_cases hlt : l ≤ 15
    · rw [if_neg (show ¬ (16 : Int32) ≤ nI l from nI_ge (b := 16) (by omega) (by decide))]
      have es : kS ls (l - 1) = sS ls l 0 := by unfold sS; rw [List.take_zero, List.count_nil, Nat.zero_mul, Nat.add_zero]
      obtain ⟨word', last', ws', e, hW'⟩ := w_21 (F := F) (J := J) (s := s) (Q := Q) (K11 := l_Model_makeWords_11 F m) hS hl h15 hfr h1 hlt F 0 word last ws (Nat.zero_le _) (by omega) hW
      rw [Nat.add_zero] at e
      rw [es, e]
      have es2 : sS ls l ls.length = kS ls (l + 1 - 1) := by
        obtain ⟨l, rfl⟩ : ∃ l', l = l' + 1 := ⟨l - 1, by omega⟩
        unfold sS
        rw [List.take_length, Nat.add_sub_cancel, Nat.add_sub_cancel]
        show _ = kS ls l + kC ls (l + 1) * 2 ^ (14 - l)
        rw [cn_pos (by omega), show 15 - (l + 1) = 14 - l by omega]
      rw [es2]
      refine ih (l + 1) word' last' ws' (by omega) (by omega) (by omega) ?_
      obtain ⟨w1, w2, w3, w4⟩ := hW'
      have eN : Nx ls (l + 1) 0 = 2 * Nx ls l ls.length := by
        unfold Nx
        rw [List.take_zero, List.count_nil, List.take_length]
        show 2 * (kF ls l + kC ls l) + 0 = _
        rw [cn_pos (by omega)]
        rfl
      refine ⟨?_, w2, ?_, w4⟩
      · rcases w1 with ⟨q1, q2⟩ | ⟨q1, q2, q3⟩
        · left; exact ⟨q1, by rw [eN, q2]⟩
        · right
          refine ⟨q1, by omega, ?_⟩
          rw [eN, ← q3, show l + 1 - last' = (l - last') + 1 by omega, Nat.pow_succ, Nat.mul_comm 2, Nat.mul_assoc]
      · intro j hj hj0 hc
        have hle : ls.getD j 0 ≤ 15 := by rw [gDk hj]; exact h15 _ (List.getElem_mem _)
        exact w3 j hj hj0 (by omega)
    · have e16 : l = 16 := by omega
      subst e16
      obtain ⟨w1, w2, w3, w4⟩ := hW
      have hsl := Nat.le_trans (sm_le ls 15 (by decide)) (Nat.mul_le_mul_left (2 ^ 14) (Nat.le_trans (bf_le ls (15 + 1)) (show ls.length ≤ 339 by omega)))
      rw [if_pos (by decide)]
      refine ⟨ws, ?_, w2, fun j hj hj0 => w3 j hj hj0 ?_, w4⟩
      · show (if (32768 : Int32) < nI (kS ls 15) then _ else _) = _
        by_cases hq : kS ls 15 ≤ 32768
        · rw [if_neg (show ¬ (32768 : Int32) < nI (kS ls 15) from nI_nlt (b := kS ls 15) (a := 32768) hq (by decide)), if_pos hq]
        · rw [if_pos (show (32768 : Int32) < nI (kS ls 15) from nI_lt (a := 32768) (by omega) (by omega)), if_neg hq]
      · have hle : ls.getD j 0 ≤ 15 := by rw [gDk hj]; exact h15 _ (List.getElem_mem _)
        exact Or.inl (by omega)
theorem m_words (hF : 20000 ≤ F) (hS : Sh A) (hl : hL44 A fr ls) (h15 : ∀ l ∈ ls, l ≤ 15) (hfr : fr + ls.length ≤ 339) : ∃ ws, f_Model_makeWords F 39 (nI fr) (nI ls.length) (YW J A s Q) = some (if kS ls 15 ≤ 32768 then 1 else 0, YW J (ud A 45 ws) s Q) ∧ ws.length = 339 ∧ (∀ j, j < ls.length → 0 < ls.getD j 0 → ws[fr + j]? = some (nI (kW ls j))) ∧ ∀ j, j < fr ∨ fr + ls.length ≤ j → ws[j]? = (A 45)[j]? := by
  have h45 : (A 45).length = 339 := hS 45
  have := w_11 (F := F) (J := J) (s := s) (Q := Q) (ws0 := A 45) hF hS hl h15 hfr F 1 0 0 (A 45) (Nat.le_refl _) (by decide) (by omega) ⟨Or.inl ⟨rfl, by unfold Nx; rw [List.take_zero, List.count_nil]; show 2 * (0 + kC ls 0) + 0 = 0; unfold kC; rw [if_pos rfl]⟩, h45, fun j hj h0 hc => by omega, fun _ _ => rfl⟩
  rw [ud_id rfl] at this
  exact this
/-- whatever stands in the lengths -/
theorem w_21a {n : Nat} (hS : Sh A) (hfr : fr + n ≤ 339) {K11 : Nat → Int32 → Int32 → Int32 → Int32 → Int32 → Int32 → zW → Option (Int32 × zW)} {l : Int32} : ∀ (m k : Nat) (word last sum : Int32) (ws : List Int32), k ≤ n → n - k < m → ws.length = 339 → ∃ word' last' sum' ws', l_Model_makeWords_21 F K11 m 39 (nI fr) (nI n) word last sum l (nI (fr + k)) (YW J (ud A 45 ws) s Q) = K11 39 (nI fr) (nI n) word' last' sum' (l + 1) (YW J (ud A 45 ws') s Q) ∧ ws'.length = 339 := by
  have h44 : (A 44).length = 339 := hS 44
  intro m
  induction m with
  | zero => intro k word last sum ws _ h; omega
  | succ m ih =>
    intro k word last sum ws hk hm hw
    show ∃ word' last' sum' ws', b_Model_makeWords_21 F K11 (l_Model_makeWords_21 F K11 m) 39 (nI fr) (nI n) word last sum l (nI (fr + k)) (YW J (ud A 45 ws) s Q) = _ ∧ _
    unfold b_Model_makeWords_21 b_Model_makeWords_59 b_Model_makeWords_84
    rw [nI_add]
    by_cases hlt : k < n
    · have hg : aget (YW J (ud A 45 ws) s Q) 44 (nI (fr + k)) = some (A 44)[fr + k] := ag_ (by decide) (by omega) (by rw [ud_n (by decide)]; exact List.getElem?_eq_getElem (by omega))
      have ha : ∀ z : Int32, aset (YW J (ud A 45 ws) s Q) 45 (nI (fr + k)) z = some (YW J (ud A 45 (ws.set (fr + k) z)) s Q) := fun z => by
        rw [as_ (by decide) (by rw [ud_s]; omega) (by rw [ud_s]; omega), ud_ud, ud_s]
      rw [if_neg (nI_ge (by omega) (by omega))]
      simp only [wg_M, Option.bind_some, hg, ha, nI_1]
      by_cases e : (A 44)[fr + k] = l
      · rw [if_pos e]
        by_cases e2 : last = 0
        · rw [if_pos e2]
          exact ih (k + 1) _ _ _ _ (by omega) (by omega) (by rw [List.length_set]; exact hw)
        · rw [if_neg e2]
          exact ih (k + 1) _ _ _ _ (by omega) (by omega) (by rw [List.length_set]; exact hw)
      · rw [if_neg e]
        exact ih (k + 1) _ _ _ _ (by omega) (by omega) hw
    · rw [if_pos (nI_le (by omega) (by omega))]
      exact ⟨word, last, sum, ws, rfl, hw⟩
theorem w_11a {n : Nat} (hF : 20000 ≤ F) (hS : Sh A) (hfr : fr + n ≤ 339) : ∀ (m l : Nat) (word last sum : Int32) (ws : List Int32), l ≤ 16 → 16 - l < m → ws.length = 339 → ∃ b ws', l_Model_makeWords_11 F m 39 (nI fr) (nI n) word last sum (nI l) (YW J (ud A 45 ws) s Q) = some (b, YW J (ud A 45 ws') s Q) ∧ ws'.length = 339 ∧ (b = 0 ∨ b = 1) := by
  intro m
  induction m with
  | zero => intro l word last sum ws _ h; omega
  | succ m ih =>
    intro l word last sum ws h16 hm hw
    show ∃ b ws', b_Model_makeWords_11 F (l_Model_makeWords_11 F m) 39 (nI fr) (nI n) word last sum (nI l) (YW J (ud A 45 ws) s Q) = _ ∧ _
    unfold b_Model_makeWords_11
    by_cases hlt : l ≤ 15
    · rw [if_neg (show ¬ (16 : Int32) ≤ nI l from nI_ge (b := 16) (by omega) (by decide))]
      obtain ⟨word', last', sum', ws', e, hw'⟩ := w_21a (F := F) (J := J) (s := s) (Q := Q) (K11 := l_Model_makeWords_11 F m) (l := nI l) hS hfr F 0 word last sum ws (Nat.zero_le _) (by omega) hw
      rw [Nat.add_zero] at e
      rw [e, nI_1]
      exact ih (l + 1) _ _ _ _ (by omega) (by omega) hw'
    · have e16 : l = 16 := by omega
      subst e16
      rw [if_pos (by decide)]
      by_cases hq : (32768 : Int32) < sum
      · rw [if_pos hq]; exact ⟨0, ws, rfl, hw, Or.inl rfl⟩
      · rw [if_neg hq]; exact ⟨1, ws, rfl, hw, Or.inr rfl⟩
theorem m_wordsA {n : Nat} (hF : 20000 ≤ F) (hS : Sh A) (hfr : fr + n ≤ 339) : ∃ b ws, f_Model_makeWords F 39 (nI fr) (nI n) (YW J A s Q) = some (b, YW J (ud A 45 ws) s Q) ∧ ws.length = 339 ∧ (b = 0 ∨ b = 1) := by
  have h45 : (A 45).length = 339 := hS 45
  have := w_11a (F := F) (J := J) (s := s) (Q := Q) (fr := fr) (n := n) hF hS hfr F 1 0 0 0 (A 45) (by decide) (by omega) h45
  rw [ud_id rfl] at this
  exact this
end Mw
