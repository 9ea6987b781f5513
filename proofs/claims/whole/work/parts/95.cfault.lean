/-! What is wrong of an entry: what both sides ask, and the class. -/
def x0S (L : List Int32) (E : Ent) : Nat := E 6 + 30 + nvL L (E 6 + 26) 2
def cS (L : List Int32) (E : Ent) : Nat := x0S L E + nvL L (E 6 + 28) 2
abbrev tolS (L : List Int32) (x0 c : Nat) (E : Ent) : Prop := if E 1 = 8 then nvL L (E 6 + 14) 4 = 0 ∧ nvL L (E 6 + 18) 4 = 0 ∧ nvL L (E 6 + 22) 4 = 0 else nvL L (E 6 + 14) 4 = E 3 ∧ (if nvL L (E 6 + 18) 4 = 4294967295 ∧ nvL L (E 6 + 22) 4 = 4294967295 then 16 ≤ rL (recF L c c x0) ∧ nvL L (rP (recF L c c x0) c) 8 = E 5 ∧ nvL L (rP (recF L c c x0) c + 8) 8 = E 4 else nvL L (E 6 + 18) 4 = E 4 ∧ nvL L (E 6 + 22) 4 = E 5)
abbrev locC (L : List Int32) (ds : Nat) (E : Ent) : Prop := E 6 + 30 ≤ ds ∧ nvL L (E 6) 4 = 67324752 ∧ cS L E ≤ ds ∧ nvL L (E 6 + 6) 2 = E 1 ∧ nvL L (E 6 + 8) 2 = E 2 ∧ nameS L (E 6 + 30) (nvL L (E 6 + 26) 2) = some (E 0) ∧ recW L (cS L E) (cS L E) (x0S L E) = true ∧ tolS L (x0S L E) (cS L E) E
/-- where the content begins, if the local part is right -/
def locS (L : List Int32) (ds : Nat) (E : Ent) : Option Nat := if locC L ds E then some (cS L E) else none
def endE (E : Ent) (c : Nat) : Nat := c + E 4 + 2 * E 1
theorem locS_le {L : List Int32} {ds c : Nat} {E : Ent} (h : locS L ds E = some c) : E 6 + 30 ≤ c ∧ c ≤ ds := by
  unfold locS at h
  split at h
  · rename_i hc
    cases h
    exact ⟨by unfold cS x0S; omega, hc.2.2.1⟩
  · cases h
theorem nI_eq32 {a b : Nat} (ha : a < 2 ^ 32) (hb : b < 2 ^ 32) : nI a = nI b ↔ a = b := by
  constructor
  · intro h
    have := congrArg (fun x : Int32 => x.toBitVec.toNat) h
    simp only [pk_tn ha, pk_tn hb] at this
    exact this
  · intro h; rw [h]
section Cf
variable {J : yJ} {A : yA} {s : Nat} {Q : zW} {L : List Int32} {F k ds : Nat} {E : Ent}
/-- tellsTheSame -/
theorem c_tells (hF : 20000 ≤ F) (h : FI J A L) (hk : k < 8) (hE : ∀ j, j < 9 → J (27 + k) j = nI (E j)) (hok : okE ds E) (hds : ds ≤ L.length) {x0 c : Nat} (hp : E 6 + 30 ≤ ds) (hc : c ≤ ds) (hw : recW L c c x0 = true) (h2 : J 25 2 = 0) (h3 : J 25 3 = nI (rP (recF L c c x0) c)) (h4 : J 25 4 = nI (rP (recF L c c x0) c + rL (recF L c c x0))) : ∃ J', f_Archive_tellsTheSame F 24 (27 + k) (YW J A s Q) = some (if tolS L x0 c E then 1 else 0, YW J' A s Q) ∧ ∀ o, o ≠ 25 → J' o = J o := by
  obtain ⟨k0, k0', k1, k2, k3, k4, k5, k6⟩ := hok
  have hb := h.2.2.2.2
  have hl := h.2.2.2.1
  have z4 : ∀ q, nvL L q 4 < 2 ^ 32 := fun q => nvL_32 hb
  have z8 : ∀ q, nvL L q 8 < 2 ^ 64 := fun q => nvL_64 hb (by decide)
  have hrl := rPL_le hw
  have n4 : ∀ (J1 : yJ), FI J1 A L → ∀ q, q + 4 ≤ L.length → f_Row_number F 3 (nI q) 4 (YW J1 A s Q) = some (lN_ (nvL L q 4), YW J1 A s Q) := fun J1 h1 q hq => W_number (n := 4) hF h1 hq (by decide)
  have ge : ∀ (J1 : yJ), J1 (27 + k) = J (27 + k) → ∀ j, j < 9 → getI (YW J1 A s Q) (27 + k) 1 j = some (nI (E j)) := fun J1 e j hj => by rw [we_g _ _ _ _ hk hj, e, hE j hj]
  unfold f_Archive_tellsTheSame b_Archive_tellsTheSame_0 b_Archive_tellsTheSame_80 tolS
  simp only [wg_A, Option.bind_some, R_o hr3, ge J rfl 6 (by decide)]
  rw [show nI (E 6) + (14 : Int32) = nI (E 6 + 14) from nI_add _ 14, n4 J h _ (by omega), Option.bind_some]
  simp only [wg_A, Option.bind_some, R_o hr3, ge J rfl 6 (by decide)]
  rw [show nI (E 6) + (18 : Int32) = nI (E 6 + 18) from nI_add _ 18, n4 J h _ (by omega), Option.bind_some]
  simp only [wg_A, Option.bind_some, R_o hr3, ge J rfl 6 (by decide)]
  rw [show nI (E 6) + (22 : Int32) = nI (E 6 + 22) from nI_add _ 22, n4 J h _ (by omega), Option.bind_some]
  simp only [ge J rfl 1 (by decide), Option.bind_some]
  have zc := z4 (E 6 + 14)
  have zp := z4 (E 6 + 18)
  have zs := z4 (E 6 + 22)
  generalize nvL L (E 6 + 14) 4 = cr at zc
  generalize nvL L (E 6 + 18) 4 = pk at zp
  generalize nvL L (E 6 + 22) 4 = sz at zs
  rw [ln_i32]
  by_cases e8 : E 1 = 8
  · rw [if_pos (show nI (E 1) = (8 : Int32) by rw [e8]; rfl)]
    simp only [if_pos e8]
    refine ⟨J, ?_, fun _ _ => rfl⟩
    rw [show (0 : Int64) = lN_ 0 from rfl]
    by_cases c1 : cr = 0
    · rw [if_pos (by rw [c1]; rfl)]
      by_cases c2 : pk = 0
      · rw [if_pos ((lg_ln (by omega) (by decide)).mpr c2)]
        by_cases c3 : sz = 0
        · rw [if_pos ((lg_ln (by omega) (by decide)).mpr c3), if_pos ⟨c1, c2, c3⟩]
        · rw [if_neg (fun q => c3 ((lg_ln (by omega) (by decide)).mp q)), if_neg (fun q => c3 q.2.2)]
      · rw [if_neg (fun q => c2 ((lg_ln (by omega) (by decide)).mp q)), if_neg (fun q => c2 q.2.1)]
    · rw [if_neg (show ¬ nI cr = (0 : Int32) from fun q => c1 ((nI_eq32 (b := 0) zc (by decide)).mp q)), if_neg (fun q => c1 q.1)]
  · rw [if_neg (show ¬ nI (E 1) = (8 : Int32) from fun q => e8 ((nI_eq (b := 8) (by omega) (by decide)).mp q))]
    simp only [if_neg e8]
    unfold b_Archive_tellsTheSame_96
    rw [show (4294967295 : Int64) = lN_ 4294967295 from rfl]
    have goal109 : ∀ (s0 : Int32), (pk = 4294967295 ↔ sz = 4294967295) → ∃ J', b_Archive_tellsTheSame_109 F 24 (27 + k) (nI cr) (lN_ pk) (lN_ sz) s0 s0 (YW J A s Q) = some (if cr = E 3 ∧ (if pk = 4294967295 ∧ sz = 4294967295 then 16 ≤ rL (recF L c c x0) ∧ nvL L (rP (recF L c c x0) c) 8 = E 5 ∧ nvL L (rP (recF L c c x0) c + 8) 8 = E 4 else pk = E 4 ∧ sz = E 5) then 1 else 0, YW J' A s Q) ∧ ∀ o, o ≠ 25 → J' o = J o := by
      intro s0 hiff
      unfold b_Archive_tellsTheSame_109 b_Archive_tellsTheSame_179
      rw [if_pos rfl]
      obtain ⟨J1, e1, a1, a2, a3, a4⟩ := c_told (s := s) (Q := Q) hF h (show sz < 2 ^ 64 by omega) h3 h4 (by omega) (by omega)
      simp only [wg_A, wo_X, Option.bind_some]
      rw [e1, Option.bind_some]
      generalize epl : rP (recF L c c x0) c = pl at h3 h4 hrl a1 a2 a3 ⊢
      generalize eln : rL (recF L c c x0) = ln at h4 hrl a1 a2 a3 ⊢
      have hF1 : FI J1 A L := h.eq (a4 3 (by decide))
      obtain ⟨J2, e2, b1, b2, b3, b4⟩ := c_told (s := s) (Q := Q) hF hF1 (show pk < 2 ^ 64 by omega) a1 a2 (by split <;> omega) (by omega)
      simp only [wg_A, wo_X, Option.bind_some]
      rw [e2, Option.bind_some]
      simp only [wg_A, wg_X, Option.bind_some]
      have o2 : ∀ o, o ≠ 25 → J2 o = J o := fun o ho => (b4 o ho).trans (a4 o ho)
      rw [b3, a3, h2]
      have g3 := ge J2 (o2 (27 + k) (by omega)) 3 (by decide)
      have g4 := ge J2 (o2 (27 + k) (by omega)) 4 (by decide)
      have g5 := ge J2 (o2 (27 + k) (by omega)) 5 (by decide)
      have x5 : (nI (E 5)).toInt64 = lN_ (E 5) := ex_bv (by omega)
      have x4 : (nI (E 4)).toInt64 = lN_ (E 4) := ex_bv (by omega)
      have fin3 : ∀ (vs vp : Nat), vs < 2 ^ 64 → vp < 2 ^ 64 → ∀ (P : Prop) [Decidable P], (P ↔ vs = E 5 ∧ vp = E 4) → ((getI (YW J2 A s Q) (27 + k) 1 3).bind fun x147 => if nI cr = x147 then ((getI (YW J2 A s Q) (27 + k) 1 5).bind fun x156 => if (lg_cmp (lN_ vs) x156.toInt64) = 0 then ((getI (YW J2 A s Q) (27 + k) 1 4).bind fun x167 => if (lg_cmp (lN_ vp) x167.toInt64) = 0 then (some ((1 : Int32), YW J2 A s Q)) else some (0, YW J2 A s Q)) else some (0, YW J2 A s Q)) else some (0, YW J2 A s Q)) = some (if cr = E 3 ∧ P then 1 else 0, YW J2 A s Q) := by
        intro vs vp hvs hvp P _ hP
        simp only [g3, g4, g5, Option.bind_some, x5, x4]
        by_cases c1 : cr = E 3
        · rw [if_pos (by rw [c1])]
          by_cases c2 : vs = E 5
          · rw [if_pos ((lg_ln hvs (by omega)).mpr c2)]
            by_cases c3 : vp = E 4
            · rw [if_pos ((lg_ln hvp (by omega)).mpr c3), if_pos ⟨c1, hP.mpr ⟨c2, c3⟩⟩]
            · rw [if_neg (fun q => c3 ((lg_ln hvp (by omega)).mp q)), if_neg (fun q => c3 (hP.mp q.2).2)]
          · rw [if_neg (fun q => c2 ((lg_ln hvs (by omega)).mp q)), if_neg (fun q => c2 (hP.mp q.2).1)]
        · rw [if_neg (fun q => c1 ((nI_eq32 zc k3).mp q)), if_neg (fun q => c1 q.1)]
      refine ⟨J2, ?_, o2⟩
      by_cases w : sz = 4294967295
      · have wp : pk = 4294967295 := hiff.mpr w
        simp only [w, wp, true_and, and_self, if_true]
        by_cases l8 : pl + 8 ≤ pl + ln
        · simp only [if_pos l8, if_neg (fun q : ¬ pl + 8 ≤ pl + ln => q l8)]
          by_cases l16 : pl + 8 + 8 ≤ pl + ln
          · simp only [if_pos l16, if_neg (fun q : ¬ pl + 8 + 8 ≤ pl + ln => q l16)]
            rw [if_pos trivial]
            exact fin3 _ _ (z8 _) (z8 _) _ (by constructor <;> intro q <;> simp_all <;> omega)
          · simp only [if_neg l16, if_pos l16]
            rw [if_neg (show ¬ (1 : Int32) = 0 by decide), if_neg]
            rintro ⟨-, q, -⟩
            omega
        · have l16 : ¬ pl + 8 ≤ pl + ln := l8
          simp only [if_neg l8, if_pos l8]
          rw [if_neg (show ¬ (1 : Int32) = 0 by decide), if_neg]
          rintro ⟨-, q, -⟩
          omega
      · have wp : ¬ pk = 4294967295 := fun q => w (hiff.mp q)
        simp only [w, wp, false_and, if_false]
        rw [if_pos trivial]
        exact fin3 _ _ (by omega) (by omega) _ (by constructor <;> intro q <;> exact ⟨q.2, q.1⟩)
    have diff : ¬ (pk = 4294967295 ↔ sz = 4294967295) → ¬ (cr = E 3 ∧ (if pk = 4294967295 ∧ sz = 4294967295 then 16 ≤ rL (recF L c c x0) ∧ nvL L (rP (recF L c c x0) c) 8 = E 5 ∧ nvL L (rP (recF L c c x0) c + 8) 8 = E 4 else pk = E 4 ∧ sz = E 5)) := by
      rintro hn ⟨-, q⟩
      rw [if_neg (fun z => hn ⟨fun _ => z.2, fun _ => z.1⟩)] at q
      apply hn
      constructor
      · intro z; omega
      · intro z; omega
    by_cases w : sz = 4294967295
    · rw [if_pos ((lg_ln (by omega) (by decide)).mpr w)]
      by_cases wp : pk = 4294967295
      · rw [if_pos ((lg_ln (by omega) (by decide)).mpr wp)]
        exact goal109 1 ⟨fun _ => w, fun _ => wp⟩
      · rw [if_neg (fun q => wp ((lg_ln (by omega) (by decide)).mp q)), if_neg (diff (fun q => wp (q.mpr w)))]
        unfold b_Archive_tellsTheSame_109
        rw [if_neg (by decide)]
        exact ⟨J, rfl, fun _ _ => rfl⟩
    · rw [if_neg (fun q => w ((lg_ln (by omega) (by decide)).mp q))]
      by_cases wp : pk = 4294967295
      · rw [if_pos ((lg_ln (by omega) (by decide)).mpr wp), if_neg (diff (fun q => w (q.mp wp)))]
        unfold b_Archive_tellsTheSame_109
        rw [if_neg (by decide)]
        exact ⟨J, rfl, fun _ _ => rfl⟩
      · rw [if_neg (fun q => wp ((lg_ln (by omega) (by decide)).mp q))]
        exact goal109 0 ⟨fun q => absurd q wp, fun q => absurd q w⟩
/-- contentStart -/
theorem c_content (hF : 20000 ≤ F) (h : FI J A L) (hk : k < 8) (hE : ∀ j, j < 9 → J (27 + k) j = nI (E j)) (hok : okE ds E) (h24 : J 24 4 = nI ds) (hds : ds ≤ L.length) : ∃ J', f_Archive_contentStart F 24 (27 + k) (YW J A s Q) = some (opI (locS L ds E), YW J' A s Q) ∧ ∀ o, o ≠ 25 → J' o = J o := by
  have hok0 := hok
  obtain ⟨k0, k0', k1, k2, k3, k4, k5, k6⟩ := hok
  have hb := h.2.2.2.2
  have hl := h.2.2.2.1
  have z4 : ∀ q, nvL L q 4 < 2 ^ 32 := fun q => nvL_32 hb
  have z2 : ∀ q, nvL L q 2 < 2 ^ 16 := fun q => nvL_16 hb
  have n4 : ∀ q, q + 4 ≤ L.length → f_Row_number F 3 (nI q) 4 (YW J A s Q) = some (lN_ (nvL L q 4), YW J A s Q) := fun q hq => W_number (n := 4) hF h hq (by decide)
  have n2 : ∀ q, q + 2 ≤ L.length → f_Row_number F 3 (nI q) 2 (YW J A s Q) = some (lN_ (nvL L q 2), YW J A s Q) := fun q hq => W_number (n := 2) hF h hq (by decide)
  have ge : ∀ (J1 : yJ), J1 (27 + k) = J (27 + k) → ∀ j, j < 9 → getI (YW J1 A s Q) (27 + k) 1 j = some (nI (E j)) := fun J1 e j hj => by rw [we_g _ _ _ _ hk hj, e, hE j hj]
  have no : ∀ (X : Option (Int32 × zW)) (J0 : yJ), X = some (-1, YW J0 A s Q) → (∀ o, o ≠ 25 → J0 o = J o) → ¬ locC L ds E → ∃ J', X = some (opI (locS L ds E), YW J' A s Q) ∧ ∀ o, o ≠ 25 → J' o = J o := by
    intro X J0 hX ho hn
    refine ⟨J0, ?_, ho⟩
    rw [hX]
    unfold locS
    rw [if_neg hn]
    rfl
  unfold f_Archive_contentStart b_Archive_contentStart_0 b_Archive_contentStart_32 b_Archive_contentStart_139 b_Archive_contentStart_175
  simp only [wg_A, Option.bind_some, ge J rfl 6 (by decide), h24]
  by_cases c1 : E 6 + 30 ≤ ds
  · rw [if_neg (show ¬ nI ds - nI (E 6) < 30 from fun z => absurd ((hr_sub (a := ds) (b := E 6) (k := 30) (by omega) (by omega) (by decide)).mp z) (by omega)), R_o hr3, Option.bind_some, n4 _ (by omega), Option.bind_some]
    simp only []
    rw [show (67324752 : Int64) = lN_ 67324752 from rfl]
    by_cases c2 : nvL L (E 6) 4 = 67324752
    · rw [if_pos ((lg_ln (by have := z4 (E 6); omega) (by decide)).mpr c2)]
      simp only [wg_A, Option.bind_some, R_o hr3]
      rw [show nI (E 6) + (26 : Int32) = nI (E 6 + 26) from nI_add _ 26, n2 _ (by omega), Option.bind_some]
      simp only [wg_A, Option.bind_some, R_o hr3]
      rw [show nI (E 6) + (28 : Int32) = nI (E 6 + 28) from nI_add _ 28, n2 _ (by omega), Option.bind_some]
      simp only [wg_A, Option.bind_some, h24, ln_i32]
      rw [show nI (E 6) + (30 : Int32) = nI (E 6 + 30) from nI_add _ 30, nI_add, nI_add, show E 6 + 30 + nvL L (E 6 + 26) 2 = x0S L E from rfl, show x0S L E + nvL L (E 6 + 28) 2 = cS L E from rfl]
      have zx : x0S L E < 2 ^ 18 := by have := z2 (E 6 + 26); unfold x0S; omega
      have zc : cS L E < 2 ^ 19 := by have := z2 (E 6 + 28); unfold cS; omega
      have hxc : x0S L E ≤ cS L E := Nat.le_add_right _ _
      by_cases c3 : cS L E ≤ ds
      · rw [if_neg (nI_nlt c3 (by omega))]
        simp only [wg_A, Option.bind_some, R_o hr3]
        rw [show nI (E 6) + (6 : Int32) = nI (E 6 + 6) from nI_add _ 6, n2 _ (by omega), Option.bind_some]
        simp only [ge J rfl 1 (by decide), Option.bind_some]
        rw [ex_bv (k := E 1) (by omega)]
        by_cases c4 : nvL L (E 6 + 6) 2 = E 1
        · rw [if_pos ((lg_ln (by have := z2 (E 6 + 6); omega) (by omega)).mpr c4)]
          simp only [wg_A, Option.bind_some, R_o hr3]
          rw [show nI (E 6) + (8 : Int32) = nI (E 6 + 8) from nI_add _ 8, n2 _ (by omega), Option.bind_some]
          simp only [ge J rfl 2 (by decide), Option.bind_some]
          rw [ex_bv (k := E 2) (by omega)]
          by_cases c5 : nvL L (E 6 + 8) 2 = E 2
          · rw [if_pos ((lg_ln (by have := z2 (E 6 + 8); omega) (by omega)).mpr c5)]
            simp only [wo_A, Option.bind_some]
            have hnm := c_name (F := F) (J := J) (A := A) (s := s) (Q := Q) (L := L) (p := E 6 + 30) (n := nvL L (E 6 + 26) 2) hF h (by have : E 6 + 30 + nvL L (E 6 + 26) 2 = x0S L E := rfl; omega)
            rw [show E 6 + 30 + nvL L (E 6 + 26) 2 = x0S L E from rfl] at hnm
            rw [hnm, Option.bind_some]
            simp only [ge J rfl 0 (by decide), Option.bind_some]
            by_cases c6 : nameS L (E 6 + 30) (nvL L (E 6 + 26) 2) = some (E 0)
            · rw [if_pos (by rw [c6]; rfl)]
              obtain ⟨J1, e1, o1, w1, w2, w3, w4⟩ := c_open (s := s) (Q := Q) hF h (show cS L E ≤ L.length by omega) (show x0S L E < 2 ^ 20 by omega)
              simp only [wg_A, wo_X, Option.bind_some, e1, wg_X, w1]
              cases hw : recW L (cS L E) (cS L E) (x0S L E) with
              | false =>
                rw [if_pos (show bI false = 0 from rfl)]
                refine no _ J1 rfl o1 ?_
                rintro ⟨-, -, -, -, -, -, q, -⟩
                rw [hw] at q
                cases q
              | true =>
                rw [if_neg (show ¬ bI true = 0 by decide)]
                obtain ⟨J2, e2, o2⟩ := c_tells (F := F) (s := s) (Q := Q) (k := k) (ds := ds) (E := E) hF (h.eq (o1 3 (by decide))) hk (by rw [o1 (27 + k) (by omega)]; exact hE) hok0 hds c1 c3 hw w2 w3 w4
                simp only [wo_A, Option.bind_some, e2]
                by_cases c7 : tolS L (x0S L E) (cS L E) E
                · rw [if_pos c7, if_neg (show ¬ (1 : Int32) = 0 by decide)]
                  refine ⟨J2, ?_, fun o ho => (o2 o ho).trans (o1 o ho)⟩
                  unfold locS
                  rw [if_pos ⟨c1, c2, c3, c4, c5, c6, hw, c7⟩]
                  rfl
                · rw [if_neg c7, if_pos rfl]
                  exact no _ J2 rfl (fun o ho => (o2 o ho).trans (o1 o ho)) (fun q => c7 q.2.2.2.2.2.2.2)
            · rw [if_neg]
              · exact no _ J rfl (fun _ _ => rfl) (fun q => c6 q.2.2.2.2.2.1)
              · intro q
                cases hn : nameS L (E 6 + 30) (nvL L (E 6 + 26) 2) with
                | none => rw [hn] at q; exact nI_neg1 (by omega) (show nI (E 0) = -1 from q.symm)
                | some v =>
                  have hv := nameS_lt hn
                  rw [hn] at q
                  have := (nI_eq (by omega) (by omega)).mp (show nI v = nI (E 0) from q)
                  rw [this] at hn
                  exact c6 hn
          · rw [if_neg (fun q => c5 ((lg_ln (by have := z2 (E 6 + 8); omega) (by omega)).mp q))]
            exact no _ J rfl (fun _ _ => rfl) (fun q => c5 q.2.2.2.2.1)
        · rw [if_neg (fun q => c4 ((lg_ln (by have := z2 (E 6 + 6); omega) (by omega)).mp q))]
          exact no _ J rfl (fun _ _ => rfl) (fun q => c4 q.2.2.2.1)
      · rw [if_pos (nI_lt (by omega) (by omega))]
        exact no _ J rfl (fun _ _ => rfl) (fun q => c3 q.2.2.1)
    · rw [if_neg (fun q => c2 ((lg_ln (by have := z4 (E 6); omega) (by decide)).mp q))]
      exact no _ J rfl (fun _ _ => rfl) (fun q => c2 q.2.1)
  · rw [if_pos (show nI ds - nI (E 6) < 30 from (hr_sub (a := ds) (b := E 6) (k := 30) (by omega) (by omega) (by decide)).mpr (by omega))]
    exact no _ J rfl (fun _ _ => rfl) (fun q => c1 q.1)
end Cf
