/-! The reference reads a part: its numbers, and the whole of it. -/
def wdI (L : List Int32) (p : Nat) : Int32 := if nvL L p 4 = 4294967295 then 1 else 0
section Mq
variable {J : yJ} {A : yA} {s : Nat} {Q : zW} {L : List Int32} {F k p ds de : Nat}
theorem m_toldT (hF : 20000 ≤ F) (h : GF J A L) {a q : Nat} (ha : a + 4 ≤ L.length) (hq : nvL L a 4 = 4294967295 → q + 8 ≤ L.length) : f_Model_told F 39 (nI a) (wdI L a) (nI q) (YW J A s Q) = some (lN_ (tl L a q), YW J A s Q) := by
  unfold wdI tl
  by_cases hw : nvL L a 4 = 4294967295
  · rw [if_pos hw, if_pos hw, m_told1 hF h (hq hw)]
  · rw [if_neg hw, if_neg hw, m_told0 hF h ha]
theorem m_toldM (hF : 20000 ≤ F) (h : GF J A L) {a : Nat} (ha : a + 4 ≤ L.length) : f_Model_told F 39 (nI a) (wdI L a) (-1) (YW J A s Q) = some (if nvL L a 4 = 4294967295 then -1 else lN_ (nvL L a 4), YW J A s Q) := by
  unfold wdI
  by_cases hw : nvL L a 4 = 4294967295
  · rw [if_pos hw, if_pos hw, m_toldN]
  · rw [if_neg hw, if_neg hw, m_told0 hF h ha]
theorem wi_bool {t lo hi : Int64} {w : zW} {Y X : zW → Option (Int32 × zW)} : (f_Model_within F t lo hi w).bind (fun r => if r.1 = 0 then Y r.2 else X r.2) = if lo ≤ t ∧ t ≤ hi then X w else Y w := by
  rw [wi64, Option.bind_some]
  by_cases hc : lo ≤ t ∧ t ≤ hi
  · simp only [if_pos hc]
    rw [if_neg (by decide)]
  · simp only [if_neg hc]
    rw [if_pos trivial]
theorem m_312 (hF : 20000 ≤ F) (h : GF J A L) (hk : k < 8) (hds : J 39 18 = nI ds) (hd : ds < 2 ^ 31) {t1 t2 t3 : Int64} {a f b : Int32} (e : f_Model_told F 39 a f b (YW J A s Q) = some (t3, YW J A s Q)) : b_Model_readPart_312 F 39 (nI k) t1 t2 39 a f b (YW J A s Q) = if (0 ≤ t1 ∧ t1 ≤ lN_ 200) ∧ (0 ≤ t2 ∧ t2 ≤ lN_ ds) ∧ (0 ≤ t3 ∧ t3 ≤ lN_ ds) then b_Model_readPart_362 F 39 (nI k) t1 t2 t3 1 (YW J A s Q) else b_Model_readPart_362 F 39 (nI k) t1 t2 t3 0 (YW J A s Q) := by
  unfold b_Model_readPart_312 b_Model_readPart_361
  simp only [wo_M, Option.bind_some, e]
  rw [wi_bool (Y := fun w => b_Model_readPart_362 F 39 (nI k) t1 t2 t3 0 w) (X := fun w => (getI w 39 9 18).bind fun x333 => (f_Model_within F t2 (0 : Int64) x333.toInt64 w).bind fun r337 => if r337.1 = 0 then (b_Model_readPart_362 F 39 (nI k) t1 t2 t3 0 r337.2) else ((getI r337.2 39 9 18).bind fun x347 => (f_Model_within F t3 (0 : Int64) x347.toInt64 r337.2).bind fun r351 => if r351.1 = 0 then (b_Model_readPart_362 F 39 (nI k) t1 t2 t3 0 r351.2) else (b_Model_readPart_362 F 39 (nI k) t1 t2 t3 1 r351.2)))]
  by_cases c1 : 0 ≤ t1 ∧ t1 ≤ 200
  · rw [if_pos c1]
    simp only [wg_M, Option.bind_some, hds]
    rw [ex_bv hd]
    rw [wi_bool (Y := fun w => b_Model_readPart_362 F 39 (nI k) t1 t2 t3 0 w) (X := fun w => (getI w 39 9 18).bind fun x347 => (f_Model_within F t3 (0 : Int64) x347.toInt64 w).bind fun r351 => if r351.1 = 0 then (b_Model_readPart_362 F 39 (nI k) t1 t2 t3 0 r351.2) else (b_Model_readPart_362 F 39 (nI k) t1 t2 t3 1 r351.2))]
    by_cases c2 : 0 ≤ t2 ∧ t2 ≤ lN_ ds
    · rw [if_pos c2]
      simp only [wg_M, Option.bind_some, hds]
      rw [ex_bv hd]
      rw [wi_bool (Y := fun w => b_Model_readPart_362 F 39 (nI k) t1 t2 t3 0 w) (X := fun w => b_Model_readPart_362 F 39 (nI k) t1 t2 t3 1 w)]
      by_cases c3 : 0 ≤ t3 ∧ t3 ≤ lN_ ds
      · rw [if_pos c3, if_pos ⟨c1, c2, c3⟩]
      · rw [if_neg c3, if_neg (fun q => c3 q.2.2)]
    · rw [if_neg c2, if_neg (fun q => c2 q.2.1)]
  · rw [if_neg c1, if_neg (fun q => c1 q.1)]
theorem far_w {L : List Int32} {p : Nat} : far L p = 0 ∧ ¬ nvL L p 4 = 4294967295 ∨ far L p = 8 ∧ nvL L p 4 = 4294967295 := by
  unfold far
  by_cases h : nvL L p 4 = 4294967295
  · exact Or.inr ⟨if_pos h, h⟩
  · exact Or.inl ⟨if_neg h, h⟩
theorem m_nums (hF : 20000 ≤ F) (h : GF J A L) (hk : k < 8) (hds : J 39 18 = nI ds) (hd : ds < 2 ^ 31) {x0 r0 : Nat} (hp : p + 46 ≤ L.length) (hr : r0 ≤ L.length) (hx : x0 < 2 ^ 20) (hw : recW L r0 r0 x0 = true) : (∀ sz pk of_, numS L ds p (rP (recF L r0 r0 x0) r0) (rL (recF L r0 r0 x0)) = some (sz, pk, of_) → b_Model_readPart_246 F 39 (nI k) (nI p) (wdI L (p + 24)) (wdI L (p + 20)) (wdI L (p + 42)) (nI (far L (p + 24))) (nI (far L (p + 24) + far L (p + 20))) 39 (nI x0) (nI r0) (nI (far L (p + 24) + far L (p + 20) + far L (p + 42))) (YW J A s Q) = b_Model_readPart_362 F 39 (nI k) (lN_ sz) (lN_ pk) (lN_ of_) 1 (YW J A s Q)) ∧ (numS L ds p (rP (recF L r0 r0 x0) r0) (rL (recF L r0 r0 x0)) = none → ∃ t1 t2 t3, b_Model_readPart_246 F 39 (nI k) (nI p) (wdI L (p + 24)) (wdI L (p + 20)) (wdI L (p + 42)) (nI (far L (p + 24))) (nI (far L (p + 24) + far L (p + 20))) 39 (nI x0) (nI r0) (nI (far L (p + 24) + far L (p + 20) + far L (p + 42))) (YW J A s Q) = b_Model_readPart_362 F 39 (nI k) t1 t2 t3 0 (YW J A s Q)) := by
  have hb := h.2.2.2.2
  have hl := h.2.2.2.1
  have ha := far_w (L := L) (p := p + 24)
  have hbb := far_w (L := L) (p := p + 20)
  have hc := far_w (L := L) (p := p + 42)
  have h200 : (lN_ 200 : Int64) = 200 := rfl
  -- out of three numbers
  have core : ∀ (pl : Nat) (X : Option (Int32 × zW)), far L (p + 24) + far L (p + 20) + far L (p + 42) ≤ rL (recF L r0 r0 x0) → X = (if (0 ≤ lN_ (tl L (p + 24) pl) ∧ lN_ (tl L (p + 24) pl) ≤ lN_ 200) ∧ (0 ≤ lN_ (tl L (p + 20) (pl + far L (p + 24))) ∧ lN_ (tl L (p + 20) (pl + far L (p + 24))) ≤ lN_ ds) ∧ (0 ≤ lN_ (tl L (p + 42) (pl + far L (p + 24) + far L (p + 20))) ∧ lN_ (tl L (p + 42) (pl + far L (p + 24) + far L (p + 20))) ≤ lN_ ds) then b_Model_readPart_362 F 39 (nI k) (lN_ (tl L (p + 24) pl)) (lN_ (tl L (p + 20) (pl + far L (p + 24)))) (lN_ (tl L (p + 42) (pl + far L (p + 24) + far L (p + 20)))) 1 (YW J A s Q) else b_Model_readPart_362 F 39 (nI k) (lN_ (tl L (p + 24) pl)) (lN_ (tl L (p + 20) (pl + far L (p + 24)))) (lN_ (tl L (p + 42) (pl + far L (p + 24) + far L (p + 20)))) 0 (YW J A s Q)) → (∀ sz pk of_, numS L ds p pl (rL (recF L r0 r0 x0)) = some (sz, pk, of_) → X = b_Model_readPart_362 F 39 (nI k) (lN_ sz) (lN_ pk) (lN_ of_) 1 (YW J A s Q)) ∧ (numS L ds p pl (rL (recF L r0 r0 x0)) = none → ∃ t1 t2 t3, X = b_Model_readPart_362 F 39 (nI k) t1 t2 t3 0 (YW J A s Q)) := by
    intro pl X hlen hX
    simp only [ln_in (tl_64 hb) (show 200 < 2 ^ 63 by decide), ln_in (tl_64 hb) (show ds < 2 ^ 63 by omega)] at hX
    unfold numS
    by_cases hq : tl L (p + 24) pl ≤ 200 ∧ tl L (p + 20) (pl + far L (p + 24)) ≤ ds ∧ tl L (p + 42) (pl + far L (p + 24) + far L (p + 20)) ≤ ds
    · rw [if_pos hq] at hX
      rw [if_pos ⟨hlen, hq⟩]
      constructor
      · intro sz pk of_ q
        cases q
        exact hX
      · intro q
        cases q
    · rw [if_neg hq] at hX
      rw [if_neg (fun q => hq q.2)]
      constructor
      · intro sz pk of_ q
        cases q
      · intro _
        exact ⟨_, _, _, hX⟩
  unfold b_Model_readPart_246
  simp only [wo_M, Option.bind_some]
  rw [m_rec hF h hr (by omega) hx hw, Option.bind_some]
  simp only [wo_M, Option.bind_some]
  rw [show (24 : Int32) = nI 24 from rfl, nI_add, show (20 : Int32) = nI 20 from rfl, nI_add]
  unfold b_Model_readPart_286
  rw [show (42 : Int32) = nI 42 from rfl, nI_add]
  cases hrf : recF L r0 r0 x0 with
  | some x =>
    obtain ⟨pl, len⟩ := x
    have hle := recF_le hw hrf
    by_cases hn : len < far L (p + 24) + far L (p + 20) + far L (p + 42)
    · -- too short
      have er : rcI (some (pl, len)) (far L (p + 24) + far L (p + 20) + far L (p + 42)) = -1 := if_pos hn
      rw [er, m_toldM hF h (by omega), Option.bind_some]
      simp only []
      rw [if_neg (by decide)]
      simp only [wo_M, Option.bind_some]
      rw [m_toldM hF h (by omega), Option.bind_some]
      simp only []
      rw [if_neg (by decide), m_312 hF h hk hds hd (m_toldM hF h (by omega))]
      have en : numS L ds p (rP (some (pl, len)) r0) (rL (some (pl, len))) = none := by
        unfold numS
        rw [if_neg (fun q => absurd q.1 (Nat.not_le.mpr hn))]
      rw [en]
      refine ⟨fun _ _ _ q => by (cases q), fun _ => ⟨_, _, _, if_neg ?_⟩⟩
      rintro ⟨⟨q1, -⟩, ⟨q2, -⟩, ⟨q3, -⟩⟩
      rcases ha with ⟨a0, a1⟩ | ⟨a0, a1⟩
      · rcases hbb with ⟨b0, b1⟩ | ⟨b0, b1⟩
        · rcases hc with ⟨d0, d1⟩ | ⟨d0, d1⟩
          · omega
          · rw [if_pos d1] at q3; exact absurd q3 (by decide)
        · rw [if_pos b1] at q2; exact absurd q2 (by decide)
      · rw [if_pos a1] at q1; exact absurd q1 (by decide)
    · have er : rcI (some (pl, len)) (far L (p + 24) + far L (p + 20) + far L (p + 42)) = nI pl := if_neg hn
      rw [er, m_toldT hF h (by omega) (fun z => by omega), Option.bind_some]
      simp only []
      rw [if_pos (nI_pos' (by omega)), nI_add]
      simp only [wo_M, Option.bind_some]
      rw [m_toldT hF h (by omega) (fun z => by omega), Option.bind_some]
      simp only []
      rw [if_pos (nI_pos' (by omega)), nI_add, ← Nat.add_assoc, m_312 hF h hk hds hd (m_toldT hF h (by omega) (fun z => by omega))]
      have := core pl _ (by rw [hrf]; show _ ≤ len; omega) rfl
      rw [hrf] at this
      exact this
  | none =>
    have er : rcI none (far L (p + 24) + far L (p + 20) + far L (p + 42)) = -1 := rfl
    rw [er, m_toldM hF h (by omega), Option.bind_some]
    simp only []
    rw [if_neg (by decide)]
    simp only [wo_M, Option.bind_some]
    rw [m_toldM hF h (by omega), Option.bind_some]
    simp only []
    rw [if_neg (by decide), m_312 hF h hk hds hd (m_toldM hF h (by omega))]
    by_cases hn : far L (p + 24) + far L (p + 20) + far L (p + 42) ≤ 0
    · have a1 : ¬ nvL L (p + 24) 4 = 4294967295 := by rcases ha with ⟨a0, a1⟩ | ⟨a0, a1⟩; exact a1; omega
      have b1 : ¬ nvL L (p + 20) 4 = 4294967295 := by rcases hbb with ⟨a0, a1⟩ | ⟨a0, a1⟩; exact a1; omega
      have d1 : ¬ nvL L (p + 42) 4 = 4294967295 := by rcases hc with ⟨a0, a1⟩ | ⟨a0, a1⟩; exact a1; omega
      have := core r0 (if (0 ≤ lN_ (tl L (p + 24) r0) ∧ lN_ (tl L (p + 24) r0) ≤ lN_ 200) ∧ (0 ≤ lN_ (tl L (p + 20) (r0 + far L (p + 24))) ∧ lN_ (tl L (p + 20) (r0 + far L (p + 24))) ≤ lN_ ds) ∧ (0 ≤ lN_ (tl L (p + 42) (r0 + far L (p + 24) + far L (p + 20))) ∧ lN_ (tl L (p + 42) (r0 + far L (p + 24) + far L (p + 20))) ≤ lN_ ds) then b_Model_readPart_362 F 39 (nI k) (lN_ (tl L (p + 24) r0)) (lN_ (tl L (p + 20) (r0 + far L (p + 24)))) (lN_ (tl L (p + 42) (r0 + far L (p + 24) + far L (p + 20)))) 1 (YW J A s Q) else b_Model_readPart_362 F 39 (nI k) (lN_ (tl L (p + 24) r0)) (lN_ (tl L (p + 20) (r0 + far L (p + 24)))) (lN_ (tl L (p + 42) (r0 + far L (p + 24) + far L (p + 20)))) 0 (YW J A s Q)) (by rw [hrf]; exact hn) rfl
      rw [hrf] at this
      have e1 : ∀ q, tl L (p + 24) q = nvL L (p + 24) 4 := fun q => if_neg a1
      have e2 : ∀ q, tl L (p + 20) q = nvL L (p + 20) 4 := fun q => if_neg b1
      have e3 : ∀ q, tl L (p + 42) q = nvL L (p + 42) 4 := fun q => if_neg d1
      rw [e1, e2, e3] at this
      rw [if_neg a1, if_neg b1, if_neg d1]
      exact this
    · have en : numS L ds p (rP none r0) (rL none) = none := by
        unfold numS
        rw [if_neg (fun q => hn q.1)]
      rw [en]
      refine ⟨fun _ _ _ q => by (cases q), fun _ => ⟨_, _, _, if_neg ?_⟩⟩
      rintro ⟨⟨q1, -⟩, ⟨q2, -⟩, ⟨q3, -⟩⟩
      rcases ha with ⟨a0, a1⟩ | ⟨a0, a1⟩
      · rcases hbb with ⟨b0, b1⟩ | ⟨b0, b1⟩
        · rcases hc with ⟨d0, d1⟩ | ⟨d0, d1⟩
          · omega
          · rw [if_pos d1] at q3; exact absurd q3 (by decide)
        · rw [if_pos b1] at q2; exact absurd q2 (by decide)
      · rw [if_pos a1] at q1; exact absurd q1 (by decide)
/-- the six fields that are laid first -/
def A6 (A : yA) (k : Nat) (st en nm fl me cr : Int32) : yA := ud (ud (ud (ud (ud (ud A 55 ((A 55).set k st)) 56 ((A 56).set k en)) 48 ((A 48).set k nm)) 49 ((A 49).set k fl)) 50 ((A 50).set k me)) 51 ((A 51).set k cr)
theorem A6_Sh {st en nm fl me cr : Int32} (hS : Sh A) : Sh (A6 A k st en nm fl me cr) := by
  unfold A6
  refine (((((hS.ud List.length_set).ud ?_).ud ?_).ud ?_).ud ?_).ud ?_
  · rw [List.length_set, ud_n (by decide)]
  · rw [List.length_set, ud_n (by decide), ud_n (by decide)]
  · rw [List.length_set, ud_n (by decide), ud_n (by decide), ud_n (by decide)]
  · rw [List.length_set, ud_n (by decide), ud_n (by decide), ud_n (by decide), ud_n (by decide)]
  · rw [List.length_set, ud_n (by decide), ud_n (by decide), ud_n (by decide), ud_n (by decide), ud_n (by decide)]
theorem A6_o {st en nm fl me cr : Int32} {j : Nat} (h1 : j ≠ 55) (h2 : j ≠ 56) (h3 : j ≠ 48) (h4 : j ≠ 49) (h5 : j ≠ 50) (h6 : j ≠ 51) : A6 A k st en nm fl me cr j = A j := by
  unfold A6
  rw [ud_n h6, ud_n h5, ud_n h4, ud_n h3, ud_n h2, ud_n h1]
theorem A6_48 {st en nm fl me cr : Int32} : A6 A k st en nm fl me cr 48 = (A 48).set k nm := by unfold A6; rw [ud_n (by decide), ud_n (by decide), ud_n (by decide), ud_s]
theorem A6_49 {st en nm fl me cr : Int32} : A6 A k st en nm fl me cr 49 = (A 49).set k fl := by unfold A6; rw [ud_n (by decide), ud_n (by decide), ud_s]
theorem A6_50 {st en nm fl me cr : Int32} : A6 A k st en nm fl me cr 50 = (A 50).set k me := by unfold A6; rw [ud_n (by decide), ud_s]
theorem A6_51 {st en nm fl me cr : Int32} : A6 A k st en nm fl me cr 51 = (A 51).set k cr := by unfold A6; rw [ud_s]
theorem A6_55 {st en nm fl me cr : Int32} : A6 A k st en nm fl me cr 55 = (A 55).set k st := by unfold A6; rw [ud_n (by decide), ud_n (by decide), ud_n (by decide), ud_n (by decide), ud_n (by decide), ud_s]
theorem A6_56 {st en nm fl me cr : Int32} : A6 A k st en nm fl me cr 56 = (A 56).set k en := by unfold A6; rw [ud_n (by decide), ud_n (by decide), ud_n (by decide), ud_n (by decide), ud_s]
theorem A3_52 {a b c : Int32} : A3 A k a b c 52 = (A 52).set k b := by unfold A3; rw [ud_n (by decide), ud_s]
theorem A3_53 {a b c : Int32} : A3 A k a b c 53 = (A 53).set k a := by unfold A3; rw [ud_n (by decide), ud_n (by decide), ud_s]
theorem A3_54 {a b c : Int32} : A3 A k a b c 54 = (A 54).set k c := by unfold A3; rw [ud_s]
theorem GF.eqA {A' : yA} (h : GF J A L) (hS : Sh A') (e : A' 41 = A 41) : GF J A' L := ⟨hS, h.2.1, by rw [e]; exact h.2.2.1, h.2.2.2⟩
theorem e208 {w : zW} {x0 r0 : Int32} : (if wdI L (p + 24) = 0 then b_Model_readPart_208 F 39 (nI k) (nI p) x0 r0 (wdI L (p + 24)) (wdI L (p + 20)) (wdI L (p + 42)) (0 : Int32) w else b_Model_readPart_208 F 39 (nI k) (nI p) x0 r0 (wdI L (p + 24)) (wdI L (p + 20)) (wdI L (p + 42)) (nI 8) w) = b_Model_readPart_246 F 39 (nI k) (nI p) (wdI L (p + 24)) (wdI L (p + 20)) (wdI L (p + 42)) (nI (far L (p + 24))) (nI (far L (p + 24) + far L (p + 20))) 39 x0 r0 (nI (far L (p + 24) + far L (p + 20) + far L (p + 42))) w := by
  have wf : ∀ p, wdI L p = 0 ∧ far L p = 0 ∨ wdI L p = 1 ∧ far L p = 8 := by
    intro p
    unfold wdI far
    by_cases h : nvL L p 4 = 4294967295
    · exact Or.inr ⟨if_pos h, if_pos h⟩
    · exact Or.inl ⟨if_neg h, if_neg h⟩
  unfold b_Model_readPart_208 b_Model_readPart_225
  rcases wf (p + 24) with ⟨a, a'⟩ | ⟨a, a'⟩ <;> rcases wf (p + 20) with ⟨b, b'⟩ | ⟨b, b'⟩ <;> rcases wf (p + 42) with ⟨c, c'⟩ | ⟨c, c'⟩ <;> rw [a, b, c, a', b', c'] <;> rfl
/-- the reference takes the part: it is right, and its name is new -/
def okP (L : List Int32) (ds de p : Nat) (ns : List Int32) : Prop := ∃ E, rpS L ds de p = some E ∧ ¬ nI (E 0) ∈ ns
theorem m_readPart (hF : 20000 ≤ F) (h : GF J A L) (hk : k < 8) (hds : J 39 18 = nI ds) (hde : J 39 19 = nI de) (h1 : ds ≤ de) (h2 : de ≤ L.length) (hp : p ≤ de) : ∃ A' b, f_Model_readPart F 39 (nI k) (nI p) (YW J A s Q) = some (b, YW J A' s Q) ∧ Sh A' ∧ (∀ j, j < 48 ∨ 57 ≤ j → A' j = A j) ∧ (b = 0 ∧ ¬ okP L ds de p ((A 48).take k) ∨ b = 1 ∧ okP L ds de p ((A 48).take k) ∧ ∀ E, rpS L ds de p = some E → ∀ j, j < 9 → A' (48 + j) = (A (48 + j)).set k (nI (E j))) := by
  have hb := h.2.2.2.2
  have hl := h.2.2.2.1
  have hS := h.1
  have hz : ∀ (p n : Nat), n ≤ 8 → nvL L p n < 2 ^ 64 := fun p n hn => nvL_64 hb hn
  have h16 : ∀ p : Nat, nvL L p 2 < 2 ^ 16 := fun p => nvL_16 hb
  have no0 : rpS L ds de p = none → ¬ okP L ds de p ((A 48).take k) := by
    rintro e ⟨E, q, -⟩
    rw [e] at q
    cases q
  unfold f_Model_readPart b_Model_readPart_0 b_Model_readPart_24 b_Model_readPart_84
  simp only [wg_M, wo_M, Option.bind_some, hde]
  rw [show (46 : Int32) = nI 46 from rfl, nI_add]
  by_cases c1 : p + 46 ≤ de
  · rw [if_neg (nI_nlt c1 (by omega)), show (4 : Int32) = nI 4 from rfl, M_number hF h (by omega) (by decide), Option.bind_some]
    simp only []
    rw [show (33639248 : Int64) = lN_ 33639248 from rfl]
    by_cases c2 : nvL L p 4 = 33639248
    · rw [if_pos ((lg_ln (hz _ _ (by decide)) (by decide)).mpr c2)]
      simp only [wo_M, Option.bind_some]
      rw [show (28 : Int32) = nI 28 from rfl, nI_add, M_two h (by omega), Option.bind_some]
      simp only [wo_M, Option.bind_some]
      rw [show (30 : Int32) = nI 30 from rfl, nI_add, M_two h (by omega), Option.bind_some]
      simp only [wo_M, Option.bind_some]
      rw [show (32 : Int32) = nI 32 from rfl, nI_add, M_two h (by omega), Option.bind_some]
      simp only [wg_M, wo_M, Option.bind_some, hde]
      have z28 := h16 (p + 28)
      have z30 := h16 (p + 30)
      have z32 := h16 (p + 32)
      generalize enl : nvL L (p + 28) 2 = nl at z28
      generalize exl : nvL L (p + 30) 2 = xl at z30
      generalize erl : nvL L (p + 32) 2 = rl at z32
      rw [nI_add, nI_add, nI_add]
      by_cases c3 : p + 46 + nl + xl + rl ≤ de
      · rw [if_neg (nI_nlt c3 (by omega)), m_are hF h (by omega) (by omega), Option.bind_some]
        simp only []
        cases hw : recW L (p + 46 + nl + xl) (p + 46 + nl + xl) (p + 46 + nl) with
        | false =>
          rw [if_pos (show bI false = 0 from rfl)]
          refine ⟨A, 0, rfl, hS, fun _ _ => rfl, Or.inl ⟨rfl, no0 ?_⟩⟩
          unfold rpS
          rw [enl, exl, erl, if_neg (fun q => by rw [hw] at q; cases q.2.2.2.2.2)]
        | true =>
          rw [if_neg (show ¬ bI true = 0 by decide)]
          have l48 : (A 48).length = 8 := hS 48
          have l49 : (A 49).length = 8 := hS 49
          have l50 : (A 50).length = 8 := hS 50
          have l51 : (A 51).length = 8 := hS 51
          have l55 : (A 55).length = 8 := hS 55
          have l56 : (A 56).length = 8 := hS 56
          simp only [wg_M, Option.bind_some]
          rw [as_ (by decide) (by omega) (by omega), Option.bind_some]
          have g1 : GF J (ud A 55 ((A 55).set k (nI p))) L := h.ud (by decide) List.length_set
          simp only [wg_M, Option.bind_some]
          rw [as_ (by decide) (by rw [ud_n (by decide)]; omega) (by rw [ud_n (by decide)]; omega), Option.bind_some, ud_n (show 56 ≠ 55 by decide)]
          have g2 := g1.ud (a := 56) (xs := (A 56).set k (nI (p + 46 + nl + xl + rl))) (by decide) (by rw [List.length_set, ud_n (by decide)])
          simp only [wg_M, wo_M, Option.bind_some]
          rw [M_two g2 (by omega), Option.bind_some, enl]
          simp only [wg_M, wo_M, Option.bind_some]
          rw [m_name hF g2 (by omega), Option.bind_some]
          rw [as_ (by decide) (by rw [ud_n (by decide), ud_n (by decide)]; omega) (by rw [ud_n (by decide), ud_n (by decide)]; omega), Option.bind_some, ud_n (show 48 ≠ 56 by decide), ud_n (show 48 ≠ 55 by decide)]
          have g3 := g2.ud (a := 48) (xs := (A 48).set k (nI (nm0 (nameS L (p + 46) nl)))) (by decide) (by rw [List.length_set, ud_n (by decide), ud_n (by decide)])
          simp only [wg_M, wo_M, Option.bind_some]
          rw [show (8 : Int32) = nI 8 from rfl, nI_add, M_two g3 (by omega), Option.bind_some]
          rw [as_ (by decide) (by rw [ud_n (by decide), ud_n (by decide), ud_n (by decide)]; omega) (by rw [ud_n (by decide), ud_n (by decide), ud_n (by decide)]; omega), Option.bind_some, ud_n (show 49 ≠ 48 by decide), ud_n (show 49 ≠ 56 by decide), ud_n (show 49 ≠ 55 by decide)]
          have g4 := g3.ud (a := 49) (xs := (A 49).set k (nI (nvL L (p + 8) 2))) (by decide) (by rw [List.length_set, ud_n (by decide), ud_n (by decide), ud_n (by decide)])
          simp only [wg_M, wo_M, Option.bind_some]
          rw [show (10 : Int32) = nI 10 from rfl, nI_add, M_two g4 (by omega), Option.bind_some]
          rw [as_ (by decide) (by rw [ud_n (by decide), ud_n (by decide), ud_n (by decide), ud_n (by decide)]; omega) (by rw [ud_n (by decide), ud_n (by decide), ud_n (by decide), ud_n (by decide)]; omega), Option.bind_some, ud_n (show 50 ≠ 49 by decide), ud_n (show 50 ≠ 48 by decide), ud_n (show 50 ≠ 56 by decide), ud_n (show 50 ≠ 55 by decide)]
          have g5 := g4.ud (a := 50) (xs := (A 50).set k (nI (nvL L (p + 10) 2))) (by decide) (by rw [List.length_set, ud_n (by decide), ud_n (by decide), ud_n (by decide), ud_n (by decide)])
          simp only [wg_M, wo_M, Option.bind_some]
          rw [show (16 : Int32) = nI 16 from rfl, nI_add, M_number hF g5 (by omega) (by decide), Option.bind_some]
          rw [as_ (by decide) (by rw [ud_n (by decide), ud_n (by decide), ud_n (by decide), ud_n (by decide), ud_n (by decide)]; omega) (by rw [ud_n (by decide), ud_n (by decide), ud_n (by decide), ud_n (by decide), ud_n (by decide)]; omega), Option.bind_some, ud_n (show 51 ≠ 50 by decide), ud_n (show 51 ≠ 49 by decide), ud_n (show 51 ≠ 48 by decide), ud_n (show 51 ≠ 56 by decide), ud_n (show 51 ≠ 55 by decide), ln_i32]
          have eA : ud (ud (ud (ud (ud (ud A 55 ((A 55).set k (nI p))) 56 ((A 56).set k (nI (p + 46 + nl + xl + rl)))) 48 ((A 48).set k (nI (nm0 (nameS L (p + 46) nl))))) 49 ((A 49).set k (nI (nvL L (p + 8) 2)))) 50 ((A 50).set k (nI (nvL L (p + 10) 2)))) 51 ((A 51).set k (nI (nvL L (p + 16) 4))) = A6 A k (nI p) (nI (p + 46 + nl + xl + rl)) (nI (nm0 (nameS L (p + 46) nl))) (nI (nvL L (p + 8) 2)) (nI (nvL L (p + 10) 2)) (nI (nvL L (p + 16) 4)) := rfl
          rw [eA]
          have S6 := A6_Sh (k := k) (st := nI p) (en := nI (p + 46 + nl + xl + rl)) (nm := nI (nm0 (nameS L (p + 46) nl))) (fl := nI (nvL L (p + 8) 2)) (me := nI (nvL L (p + 10) 2)) (cr := nI (nvL L (p + 16) 4)) hS
          have g6 : GF J (A6 A k (nI p) (nI (p + 46 + nl + xl + rl)) (nI (nm0 (nameS L (p + 46) nl))) (nI (nvL L (p + 8) 2)) (nI (nvL L (p + 10) 2)) (nI (nvL L (p + 16) 4))) L := h.eqA S6 (A6_o (by decide) (by decide) (by decide) (by decide) (by decide) (by decide))
          simp only [wo_M, Option.bind_some]
          rw [show (24 : Int32) = nI 24 from rfl, nI_add, m_wide hF g6 (by omega), Option.bind_some]
          simp only [wo_M, Option.bind_some]
          rw [show (20 : Int32) = nI 20 from rfl, nI_add, m_wide hF g6 (by omega), Option.bind_some]
          simp only [wo_M, Option.bind_some]
          rw [show (42 : Int32) = nI 42 from rfl, nI_add, m_wide hF g6 (by omega), Option.bind_some]
          simp only []
          have ew : ∀ p, (if nvL L p 4 = 4294967295 then (1 : Int32) else 0) = wdI L p := fun _ => rfl
          rw [ew, ew, ew, e208]
          obtain ⟨mY, mN⟩ := m_nums (k := k) (p := p) (s := s) (Q := Q) hF g6 hk hds (show ds < 2 ^ 31 by omega) (x0 := p + 46 + nl) (r0 := p + 46 + nl + xl) (by omega) (by omega) (by omega) hw
          have oA : ∀ (a b c : Int32) (j : Nat), j < 48 ∨ 57 ≤ j → A3 (A6 A k (nI p) (nI (p + 46 + nl + xl + rl)) (nI (nm0 (nameS L (p + 46) nl))) (nI (nvL L (p + 8) 2)) (nI (nvL L (p + 10) 2)) (nI (nvL L (p + 16) 4))) k a b c j = A j := by
            intro a b c j hj
            rw [A3_o (by omega) (by omega) (by omega), A6_o (by omega) (by omega) (by omega) (by omega) (by omega) (by omega)]
          have er : (nvL L (p + 10) 2 = 0 ∨ nvL L (p + 10) 2 = 8) → (nvL L (p + 8) 2 = 0 ∨ nvL L (p + 8) 2 = 8) → rpS L ds de p = joinE (nvL L (p + 8) 2) (nvL L (p + 10) 2) (nvL L (p + 16) 4) p (p + 46 + nl + xl + rl) (nameS L (p + 46) nl) (numS L ds p (rP (recF L (p + 46 + nl + xl) (p + 46 + nl + xl) (p + 46 + nl)) (p + 46 + nl + xl)) (rL (recF L (p + 46 + nl + xl) (p + 46 + nl + xl) (p + 46 + nl)))) := by
            intro c4 c5
            unfold rpS
            rw [enl, exl, erl, if_pos ⟨c1, c2, c3, c4, c5, hw⟩]
          cases hns : numS L ds p (rP (recF L (p + 46 + nl + xl) (p + 46 + nl + xl) (p + 46 + nl)) (p + 46 + nl + xl)) (rL (recF L (p + 46 + nl + xl) (p + 46 + nl + xl) (p + 46 + nl))) with
          | none =>
            obtain ⟨t1, t2, t3, et⟩ := mN hns
            rw [et, m_tail0 S6 hk]
            refine ⟨_, 0, rfl, A3_Sh S6, oA 0 0 0, Or.inl ⟨rfl, no0 ?_⟩⟩
            by_cases c4 : nvL L (p + 10) 2 = 0 ∨ nvL L (p + 10) 2 = 8
            · by_cases c5 : nvL L (p + 8) 2 = 0 ∨ nvL L (p + 8) 2 = 8
              · rw [er c4 c5, hns]
                cases nameS L (p + 46) nl <;> rfl
              · unfold rpS
                rw [if_neg (fun q => c5 q.2.2.2.2.1)]
            · unfold rpS
              rw [if_neg (fun q => c4 q.2.2.2.1)]
          | some x =>
            obtain ⟨sz, pk, of_⟩ := x
            have zfl := h16 (p + 8)
            have zme := h16 (p + 10)
            have znm : nm0 (nameS L (p + 46) nl) < 2 ^ 31 := by
              cases hnm : nameS L (p + 46) nl with
              | none => exact Nat.two_pow_pos 31
              | some v =>
                have := (nameS_lt hnm).2
                show v < _
                omega
            rw [mY sz pk of_ hns, m_tail1 hF S6 hk (nm := nm0 (nameS L (p + 46) nl)) (fl := nvL L (p + 8) 2) (me := nvL L (p + 10) 2) (by rw [A6_48, List.getElem?_set_self (by omega)]) (by rw [A6_49, List.getElem?_set_self (by omega)]) (by rw [A6_50, List.getElem?_set_self (by omega)]) znm (by omega) (by omega), A6_48, List.take_set_of_le (Nat.le_refl k)]
            by_cases hok : 0 < nm0 (nameS L (p + 46) nl) ∧ (nvL L (p + 8) 2 = 0 ∨ nvL L (p + 8) 2 = 8) ∧ (nvL L (p + 10) 2 = 0 ∨ nvL L (p + 10) 2 = 8) ∧ ¬ nI (nm0 (nameS L (p + 46) nl)) ∈ (A 48).take k
            · rw [if_pos hok]
              obtain ⟨k0, k1, k2, k3⟩ := hok
              have er' := er k2 k1
              rw [hns] at er'
              cases hnm : nameS L (p + 46) nl with
              | none => rw [hnm] at k0; exact absurd k0 (Nat.lt_irrefl 0)
              | some v =>
                rw [hnm] at er' k3
                refine ⟨_, 1, rfl, ?_, ?_, Or.inr ⟨rfl, ⟨_, er', k3⟩, ?_⟩⟩
                · rw [hnm] at S6
                  exact A3_Sh S6
                · intro j hj
                  have := oA (nI sz) (nI pk) (nI of_) j hj
                  rw [hnm] at this
                  exact this
                · intro E hE
                  rw [er'] at hE
                  cases hE
                  intro j hj
                  match j, hj with
                  | 0, _ => rw [A3_o (by decide) (by decide) (by decide), A6_48]; rfl
                  | 1, _ => rw [A3_o (by decide) (by decide) (by decide), A6_49]; rfl
                  | 2, _ => rw [A3_o (by decide) (by decide) (by decide), A6_50]; rfl
                  | 3, _ => rw [A3_o (by decide) (by decide) (by decide), A6_51]; rfl
                  | 4, _ => rw [A3_52, A6_o (by decide) (by decide) (by decide) (by decide) (by decide) (by decide)]; rfl
                  | 5, _ => rw [A3_53, A6_o (by decide) (by decide) (by decide) (by decide) (by decide) (by decide)]; rfl
                  | 6, _ => rw [A3_54, A6_o (by decide) (by decide) (by decide) (by decide) (by decide) (by decide)]; rfl
                  | 7, _ => rw [A3_o (by decide) (by decide) (by decide), A6_55]; rfl
                  | 8, _ => rw [A3_o (by decide) (by decide) (by decide), A6_56]; rfl
            · rw [if_neg hok]
              refine ⟨_, 0, rfl, A3_Sh S6, oA _ _ _, Or.inl ⟨rfl, ?_⟩⟩
              rintro ⟨E, hE, hd⟩
              apply hok
              by_cases c4 : nvL L (p + 10) 2 = 0 ∨ nvL L (p + 10) 2 = 8
              · by_cases c5 : nvL L (p + 8) 2 = 0 ∨ nvL L (p + 8) 2 = 8
                · have er' := er c4 c5
                  rw [hns, hE] at er'
                  cases hnm : nameS L (p + 46) nl with
                  | none => rw [hnm] at er'; cases er'
                  | some v =>
                    rw [hnm] at er'
                    cases er'
                    exact ⟨(nameS_lt hnm).1, c5, c4, hd⟩
                · exfalso
                  unfold rpS at hE
                  rw [if_neg (fun q => c5 q.2.2.2.2.1)] at hE
                  cases hE
              · exfalso
                unfold rpS at hE
                rw [if_neg (fun q => c4 q.2.2.2.1)] at hE
                cases hE
      · rw [if_pos (nI_lt (by omega) (by omega))]
        refine ⟨A, 0, rfl, hS, fun _ _ => rfl, Or.inl ⟨rfl, no0 ?_⟩⟩
        unfold rpS
        rw [enl, exl, erl, if_neg (fun q => c3 q.2.2.1)]
    · rw [if_neg (fun q => c2 ((lg_ln (hz _ _ (by decide)) (by decide)).mp q))]
      refine ⟨A, 0, rfl, hS, fun _ _ => rfl, Or.inl ⟨rfl, no0 ?_⟩⟩
      unfold rpS
      rw [if_neg (fun q => c2 q.2.1)]
  · rw [if_pos (nI_lt (by omega) (by omega))]
    refine ⟨A, 0, rfl, hS, fun _ _ => rfl, Or.inl ⟨rfl, no0 ?_⟩⟩
    unfold rpS
    rw [if_neg (fun q => c1 q.1)]
end Mq
