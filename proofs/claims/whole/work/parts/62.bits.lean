/-! A stretch of a list written over; bytes of numbers; numbers of bytes. -/
def wr (xs : List Int32) (n : Nat) (X : List Int32) : List Int32 := xs.take n ++ X ++ xs.drop (n + X.length)
section Wr
variable {xs X Y : List Int32} {n k : Nat} {b : Int32}
theorem wr_len (h : n + X.length ≤ xs.length) : (wr xs n X).length = xs.length := by
  unfold wr
  simp only [List.length_append, List.length_take, List.length_drop]
  omega
theorem wr_take (h : n + X.length ≤ xs.length) : (wr xs n X).take (n + X.length) = xs.take n ++ X := by
  unfold wr
  rw [List.take_append_of_le_length (by simp only [List.length_append, List.length_take]; omega), List.take_of_length_le (by simp only [List.length_append, List.length_take]; omega)]
theorem wr_nil : wr xs n [] = xs := by unfold wr; simp
theorem wr_set (h : n < xs.length) : xs.set n b = wr xs n [b] := by
  unfold wr
  rw [List.set_eq_take_append_cons_drop, if_pos h]
  simp
theorem wr_wr (h : n + X.length + Y.length ≤ xs.length) : wr (wr xs n X) (n + X.length) Y = wr xs n (X ++ Y) := by
  have h1 := wr_take (xs := xs) (X := X) (n := n) (by omega)
  have h2 : (wr xs n X).drop (n + X.length + Y.length) = xs.drop (n + X.length + Y.length) := by
    unfold wr
    rw [List.drop_append, List.drop_of_length_le (by simp only [List.length_append, List.length_take]; omega)]
    simp only [List.length_append, List.length_take, List.nil_append, List.drop_drop]
    congr 1
    omega
  show (wr xs n X).take (n + X.length) ++ Y ++ (wr xs n X).drop (n + X.length + Y.length) = _
  rw [h1, h2]
  unfold wr
  rw [List.length_append, Nat.add_assoc]
  simp only [List.append_assoc]
theorem wr_get_lt (h : k < n) (hn : n ≤ xs.length) : (wr xs n X)[k]? = xs[k]? := by
  unfold wr
  rw [List.append_assoc, List.getElem?_append_left (by rw [List.length_take]; omega), List.getElem?_take_of_lt h]
theorem wr_get_in (h1 : n ≤ k) (h2 : k < n + X.length) (hn : n ≤ xs.length) : (wr xs n X)[k]? = X[k - n]? := by
  unfold wr
  rw [List.append_assoc, List.getElem?_append_right (by rw [List.length_take]; omega), List.length_take, Nat.min_eq_left hn, List.getElem?_append_left (by omega)]
theorem wr0_take (h : X.length ≤ xs.length) : (wr xs 0 X).take X.length = X := by
  have := wr_take (xs := xs) (X := X) (n := 0) (by omega)
  simpa using this
theorem take_get {L : List Int32} (h : xs.take L.length = L) (hk : k < L.length) : xs[k]? = some L[k] := by
  have : (xs.take L.length)[k]? = some L[k] := by rw [h]; exact List.getElem?_eq_getElem hk
  rwa [List.getElem?_take_of_lt hk] at this
end Wr
section Ag
variable {J : yJ} {A : yA} {s : Nat} {Q : zW} {a k : Nat} {x : Int32}
theorem ag_ (h : aL a ≠ 0) (hk : k < 2 ^ 31) (hx : (A a)[k]? = some x) : aget (YW J A s Q) a (nI k) = some x := aget_of (wi_a J A s Q h) hk hx
theorem as_ (h : aL a ≠ 0) (hk : k < (A a).length) (hl : (A a).length < 2 ^ 31) : aset (YW J A s Q) a (nI k) x = some (YW J (ud A a ((A a).set k x)) s Q) := by
  rw [aset_of (wi_a J A s Q h) hk hl x, ws_a J A s Q h]
theorem al_ (h : aL a ≠ 0) : alen (YW J A s Q) a = some (nI (A a).length) := alen_of (wi_a J A s Q h)
end Ag
/-! bytes -/
def mlb (x : Int64) (k : Nat) : Int32 := (x >>> (((8 : Int32) * nI k).toInt64 &&& 63)).toInt32 &&& (255 : Int32)
theorem i32_tn (y : Int64) : y.toInt32.toBitVec.toNat = y.toBitVec.toNat % 2 ^ 32 := by
  show (y.toBitVec.signExtend 32).toNat = _
  rw [BitVec.signExtend_eq_setWidth_of_le _ (by decide), BitVec.toNat_setWidth]
theorem ssh_nat (X : BitVec 64) (n : Nat) (hn : n ≤ 56) : (X.sshiftRight n).toNat % 2 ^ 8 = X.toNat / 2 ^ n % 2 ^ 8 := by
  have e : (X.sshiftRight n).setWidth 8 = (X >>> n).setWidth 8 := by
    apply BitVec.eq_of_getLsbD_eq
    intro i hi
    simp only [BitVec.getLsbD_setWidth, BitVec.getLsbD_sshiftRight, BitVec.getLsbD_ushiftRight]
    have h1 : ¬ (64 ≤ i) := by omega
    have h2 : n + i < 64 := by omega
    simp [h1, h2]
  have e2 := congrArg BitVec.toNat e
  rw [BitVec.toNat_setWidth, BitVec.toNat_setWidth, BitVec.toNat_ushiftRight, Nat.shiftRight_eq_div_pow] at e2
  exact e2
theorem lb_nat (x : Int64) {k : Nat} (hk : k < 8) : lb x k = nI (x.toBitVec.toNat / 2 ^ (8 * k) % 256) := by
  unfold lb
  rw [pk_and _ 8 (by decide), i32_tn]
  have hs : (((8 : Int32) * nI k).toInt64.toUInt64 &&& Int64.toUInt64 63).toBitVec = BitVec.ofNat 64 (8 * k) := by
    match k, hk with
    | 0, _ => decide
    | 1, _ => decide
    | 2, _ => decide
    | 3, _ => decide
    | 4, _ => decide
    | 5, _ => decide
    | 6, _ => decide
    | 7, _ => decide
  have e : (x.toUInt64 >>> (((8 : Int32) * nI k).toInt64.toUInt64 &&& Int64.toUInt64 63)).toInt64.toBitVec.toNat = x.toBitVec.toNat / 2 ^ (8 * k) := by
    show (x.toBitVec >>> ((((8 : Int32) * nI k).toInt64.toUInt64 &&& Int64.toUInt64 63).toBitVec % 64)).toNat = _
    rw [hs, BitVec.ushiftRight_eq', BitVec.toNat_ushiftRight, Nat.shiftRight_eq_div_pow, BitVec.toNat_umod, BitVec.toNat_ofNat]
    congr 2
    show 8 * k % 18446744073709551616 % 64 = _
    omega
  rw [e]
  congr 1
  omega
theorem mlb_nat (x : Int64) {k : Nat} (hk : k < 8) : mlb x k = nI (x.toBitVec.toNat / 2 ^ (8 * k) % 256) := by
  unfold mlb
  rw [pk_and _ 8 (by decide), i32_tn]
  have hs : ((((8 : Int32) * nI k).toInt64 &&& 63).toBitVec.smod 64) = BitVec.ofNat 64 (8 * k) := by
    match k, hk with
    | 0, _ => decide
    | 1, _ => decide
    | 2, _ => decide
    | 3, _ => decide
    | 4, _ => decide
    | 5, _ => decide
    | 6, _ => decide
    | 7, _ => decide
  have e : (x >>> (((8 : Int32) * nI k).toInt64 &&& 63)).toBitVec = x.toBitVec.sshiftRight (8 * k) := by
    rw [Int64.toBitVec_shiftRight]
    show x.toBitVec.sshiftRight' ((((8 : Int32) * nI k).toInt64 &&& 63).toBitVec.smod 64) = _
    rw [hs]
    show x.toBitVec.sshiftRight (BitVec.ofNat 64 (8 * k)).toNat = _
    rw [BitVec.toNat_ofNat, Nat.mod_eq_of_lt (by omega)]
  rw [e]
  have := ssh_nat x.toBitVec (8 * k) (by omega)
  congr 1
  omega
theorem mlb_lb (x : Int64) {k : Nat} (hk : k < 8) : mlb x k = lb x k := by rw [mlb_nat x hk, lb_nat x hk]
theorem mlb_0 (k : Nat) : mlb 0 k = 0 := by
  unfold mlb
  have e : ((0 : Int64) >>> (((8 : Int32) * nI k).toInt64 &&& 63)) = 0 := by
    apply Int64.toBitVec_inj.mp
    rw [Int64.toBitVec_shiftRight]
    show BitVec.sshiftRight' (0#64) _ = 0#64
    simp [BitVec.sshiftRight_eq']
  rw [e]
  rfl
theorem isB_and (x : Int32) : isB (x &&& (255 : Int32)) := by
  rw [pk_and _ 8 (by decide)]
  exact ⟨_, Nat.mod_lt _ (by decide), rfl⟩
theorem isB_lb (x : Int64) (k : Nat) : isB (lb x k) := isB_and _
theorem isB_hbs {x : Int64} {n : Nat} : ∀ b ∈ hbs x n, isB b := by
  intro b hb
  unfold hbs at hb
  rw [List.mem_reverse, List.mem_map] at hb
  obtain ⟨k, -, rfl⟩ := hb
  exact isB_lb x k
theorem isB_lbs {x : Int64} {k n : Nat} : ∀ b ∈ lbs x k n, isB b := by
  intro b hb
  unfold lbs at hb
  rw [List.mem_map] at hb
  obtain ⟨k, -, rfl⟩ := hb
  exact isB_lb x k
/-! numbers of bytes -/
def bN (b : Int32) : Nat := b.toBitVec.toNat
def nv : List Int32 → Nat
  | [] => 0
  | b :: bs => bN b + 256 * nv bs
theorem bN_nI {k : Nat} (h : k < 256) : bN (nI k) = k := pk_tn (by omega)
theorem isB_bN {b : Int32} (h : isB b) : bN b < 256 ∧ b = nI (bN b) := by
  obtain ⟨k, hk, rfl⟩ := h
  rw [bN_nI hk]
  exact ⟨hk, rfl⟩
theorem nv_lt {bs : List Int32} (h : ∀ b ∈ bs, isB b) : nv bs < 256 ^ bs.length := by
  induction bs with
  | nil => exact Nat.one_pos
  | cons b bs ih =>
    have h1 := (isB_bN (h b (List.mem_cons_self))).1
    have h2 := ih fun c hc => h c (List.mem_cons_of_mem _ hc)
    show bN b + 256 * nv bs < 256 ^ (bs.length + 1)
    rw [Nat.pow_succ]
    omega
theorem nv_snoc {bs : List Int32} {b : Int32} : nv (bs ++ [b]) = nv bs + 256 ^ bs.length * bN b := by
  induction bs with
  | nil => show bN b + 256 * 0 = 0 + 1 * bN b; omega
  | cons c bs ih =>
    show bN c + 256 * nv (bs ++ [b]) = bN c + 256 * nv bs + 256 ^ (bs.length + 1) * bN b
    rw [ih, Nat.pow_succ, Nat.mul_add, Nat.mul_comm (256 ^ bs.length) 256, Nat.mul_assoc]
    omega
def nvL (L : List Int32) (p n : Nat) : Nat := nv ((L.drop p).take n)
def lN_ (n : Nat) : Int64 := Int64.ofNat n
theorem ln_bv (n : Nat) : (lN_ n).toBitVec = BitVec.ofNat 64 n := rfl
theorem ex_bv {k : Nat} (h : k < 2 ^ 31) : (nI k).toInt64 = lN_ k := by
  apply Int64.toBitVec_inj.mp
  rw [ln_bv]
  apply BitVec.eq_of_toInt_eq
  have e : (nI k).toInt64.toBitVec.toInt = (nI k).toInt := Int32.toInt_toInt64 _
  rw [e, nI_toInt h, BitVec.toInt_eq_toNat_bmod, BitVec.toNat_ofNat, Nat.mod_eq_of_lt (by omega)]
  rw [Int.bmod_eq_of_le (by omega) (by omega)]
theorem or_low {a b k : Nat} (hb : b < 2 ^ k) (h : a * 2 ^ k + b < 2 ^ 64) : lN_ (a * 2 ^ k) ||| lN_ b = lN_ (a * 2 ^ k + b) := by
  apply Int64.toBitVec_inj.mp
  rw [Int64.toBitVec_or, ln_bv, ln_bv, ln_bv]
  apply BitVec.eq_of_toNat_eq
  rw [BitVec.toNat_or, BitVec.toNat_ofNat, BitVec.toNat_ofNat, BitVec.toNat_ofNat, Nat.mod_eq_of_lt (by omega), Nat.mod_eq_of_lt (by omega), Nat.mod_eq_of_lt h, Nat.mul_comm a, Nat.two_pow_add_eq_or_of_lt hb]
theorem or_high {a b k : Nat} (ha : a < 2 ^ k) (h : b * 2 ^ k + a < 2 ^ 64) : lN_ a ||| lN_ (b * 2 ^ k) = lN_ (a + b * 2 ^ k) := by
  rw [Int64.or_comm, or_low ha h, Nat.add_comm]
theorem shl_ln {a k : Nat} {y : Int64} (hy : (y.toBitVec.smod 64) = BitVec.ofNat 64 k) (hk : k < 64) : lN_ a <<< y = lN_ (a * 2 ^ k) := by
  apply Int64.toBitVec_inj.mp
  rw [Int64.toBitVec_shiftLeft, ln_bv, ln_bv]
  show BitVec.ofNat 64 a <<< (y.toBitVec.smod 64) = _
  rw [hy]
  apply BitVec.eq_of_toNat_eq
  rw [BitVec.shiftLeft_eq', BitVec.toNat_shiftLeft, BitVec.toNat_ofNat, BitVec.toNat_ofNat, BitVec.toNat_ofNat, Nat.shiftLeft_eq, Nat.mod_eq_of_lt (show k < 2 ^ 64 by omega), Nat.mod_mul_mod]
