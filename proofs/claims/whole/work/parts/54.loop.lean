/-! The law's loop: what each case owes (StepAt), and the claim's pure statement out of them. -/
def StepAt (b : Nat → List Int32 → (Nat → Nat → Nat → Int32 → zW → Option (Int32 × zW)) → Nat → Nat → Nat → Int32 → zW → Option (Int32 × zW)) : Prop :=
  ∀ (F : Nat) (sc : List Int32) (K : Nat → Nat → Nat → Int32 → zW → Option (Int32 × zW)) (k : Nat) (w : zW), 20000 ≤ F → sc.length ≤ 2048 → k + 4 ≤ sc.length → II w → ∃ w', II w' ∧ b F sc K 0 39 60 (nI k) w = K 0 39 60 (nI (k + 4)) w'
theorem sget_of {sc : List Int32} {k : Nat} (hl : sc.length ≤ 2048) (h : k < sc.length) : sget sc (nI k) = some sc[k] := by
  unfold sget
  rw [if_neg (nI_pos (by omega)), nI_clamp (by omega)]
  exact List.getElem?_eq_getElem h
theorem law_loop (h136 : StepAt b_Law_law_136) (h149 : StepAt b_Law_law_149) (h249 : StepAt b_Law_law_249) (h317 : StepAt b_Law_law_317) (h330 : StepAt b_Law_law_330) (h386 : StepAt b_Law_law_386) (h399 : StepAt b_Law_law_399) (h443 : StepAt b_Law_law_443) (h487 : StepAt b_Law_law_487) (h498 : StepAt b_Law_law_498) (h537 : StepAt b_Law_law_537) (h633 : StepAt b_Law_law_633) (h689 : StepAt b_Law_law_689) (h745 : StepAt b_Law_law_745) (h789 : StepAt b_Law_law_789) (h857 : StepAt b_Law_law_857) (h870 : StepAt b_Law_law_870) (h883 : StepAt b_Law_law_883) (h939 : StepAt b_Law_law_939) (h987 : StepAt b_Law_law_987) (h1087 : StepAt b_Law_law_1087) {sc : List Int32} (hl : sc.length ≤ 2048) {F : Nat} (hF : 20000 ≤ F) : ∀ (n k : Nat) (w : zW), k ≤ sc.length → sc.length < k + 4 * n → II w → ∃ w1, l_Law_law_23 F sc n 0 39 60 (nI k) w = some (1, w1) := by
  intro n
  induction n with
  | zero => intro k w _ h2; omega
  | succ n ih =>
    intro k w h1 h2 hI
    have go : ∀ b, StepAt b → k + 4 ≤ sc.length → ∃ w1, b F sc (l_Law_law_23 F sc n) 0 39 60 (nI k) w = some (1, w1) := by
      intro b hb hk
      obtain ⟨w', hI', e⟩ := hb F sc (l_Law_law_23 F sc n) k w hF hl hk hI
      rw [e]
      exact ih (k + 4) w' hk (by omega) hI'
    have h1123 : StepAt b_Law_law_1123 := by
      intro F sc K k w _ _ _ hI
      refine ⟨w, hI, ?_⟩
      unfold b_Law_law_1123
      rw [show (4 : Int32) = nI 4 from rfl, nI_add]
    show ∃ w1, b_Law_law_23 F sc (l_Law_law_23 F sc n) 0 39 60 (nI k) w = some (1, w1)
    unfold b_Law_law_23
    by_cases hk : k + 4 ≤ sc.length
    · rw [show Int32.ofNat sc.length - (4 : Int32) = nI (sc.length - 4) from (pk_sub (a := sc.length) (b := 4) (by omega)), if_neg (nI_nlt (by omega) (by omega)), sget_of hl (by omega), Option.bind_some]
      generalize sc[k] &&& (31 : Int32) = x
      by_cases c0 : x = 0
      · rw [if_pos c0]; exact go _ h136 hk
      rw [if_neg c0]
      by_cases c1 : x = 1
      · rw [if_pos c1]; exact go _ h149 hk
      rw [if_neg c1]
      by_cases c2 : x = 2
      · rw [if_pos c2]; exact go _ h249 hk
      rw [if_neg c2]
      by_cases c3 : x = 3
      · rw [if_pos c3]; exact go _ h317 hk
      rw [if_neg c3]
      by_cases c4 : x = 4
      · rw [if_pos c4]; exact go _ h330 hk
      rw [if_neg c4]
      by_cases c5 : x = 5
      · rw [if_pos c5]; exact go _ h386 hk
      rw [if_neg c5]
      by_cases c6 : x = 6
      · rw [if_pos c6]; exact go _ h399 hk
      rw [if_neg c6]
      by_cases c7 : x = 7
      · rw [if_pos c7]; exact go _ h443 hk
      rw [if_neg c7]
      by_cases c8 : x = 8
      · rw [if_pos c8]; exact go _ h487 hk
      rw [if_neg c8]
      by_cases c9 : x = 9
      · rw [if_pos c9]; exact go _ h498 hk
      rw [if_neg c9]
      by_cases c10 : x = 10
      · rw [if_pos c10]; exact go _ h537 hk
      rw [if_neg c10]
      by_cases c11 : x = 11
      · rw [if_pos c11]; exact go _ h633 hk
      rw [if_neg c11]
      by_cases c12 : x = 12
      · rw [if_pos c12]; exact go _ h689 hk
      rw [if_neg c12]
      by_cases c13 : x = 13
      · rw [if_pos c13]; exact go _ h745 hk
      rw [if_neg c13]
      by_cases c14 : x = 14
      · rw [if_pos c14]; exact go _ h789 hk
      rw [if_neg c14]
      by_cases c15 : x = 15
      · rw [if_pos c15]; exact go _ h857 hk
      rw [if_neg c15]
      by_cases c16 : x = 16
      · rw [if_pos c16]; exact go _ h870 hk
      rw [if_neg c16]
      by_cases c17 : x = 17
      · rw [if_pos c17]; exact go _ h883 hk
      rw [if_neg c17]
      by_cases c18 : x = 18
      · rw [if_pos c18]; exact go _ h939 hk
      rw [if_neg c18]
      by_cases c19 : x = 19
      · rw [if_pos c19]; exact go _ h987 hk
      rw [if_neg c19]
      by_cases c20 : x = 20
      · rw [if_pos c20]; exact go _ h1087 hk
      rw [if_neg c20]
      exact go _ h1123 hk
    · refine ⟨w, ?_⟩
      rw [if_pos]
      by_cases h4 : 4 ≤ sc.length
      · rw [show Int32.ofNat sc.length - (4 : Int32) = nI (sc.length - 4) from (pk_sub (a := sc.length) (b := 4) h4)]
        exact nI_lt (by omega) (by omega)
      · have hneg : Int32.ofNat sc.length - (4 : Int32) < 0 := pk_sneg (a := sc.length) (b := 4) (by omega) (by omega)
        exact Int32.lt_of_lt_of_le hneg (nI_pos' (by omega))
theorem law_of (h136 : StepAt b_Law_law_136) (h149 : StepAt b_Law_law_149) (h249 : StepAt b_Law_law_249) (h317 : StepAt b_Law_law_317) (h330 : StepAt b_Law_law_330) (h386 : StepAt b_Law_law_386) (h399 : StepAt b_Law_law_399) (h443 : StepAt b_Law_law_443) (h487 : StepAt b_Law_law_487) (h498 : StepAt b_Law_law_498) (h537 : StepAt b_Law_law_537) (h633 : StepAt b_Law_law_633) (h689 : StepAt b_Law_law_689) (h745 : StepAt b_Law_law_745) (h789 : StepAt b_Law_law_789) (h857 : StepAt b_Law_law_857) (h870 : StepAt b_Law_law_870) (h883 : StepAt b_Law_law_883) (h939 : StepAt b_Law_law_939) (h987 : StepAt b_Law_law_987) (h1087 : StepAt b_Law_law_1087) : ∀ sc : List Int32, sc.length ≤ 2048 → ∃ (F : Nat) (w1 : zW), f_Law_law F sc [] = some (1, w1) := by
  intro sc hl
  obtain ⟨w1, e⟩ := law_loop h136 h149 h249 h317 h330 h386 h399 h443 h487 h498 h537 h633 h689 h745 h789 h857 h870 h883 h939 h987 h1087 hl (F := 20000) (Nat.le_refl _) 513 0 W0 (Nat.zero_le _) (by omega) W0_II
  exact ⟨20000, w1, by unfold f_Law_law; rw [init_eq]; exact e⟩
