section
/-! rows of kit/rows (PURE-ROWS, BITS), given for pasting -/
theorem pk_us {f : Nat → Int32} {k : Nat} {x : Int32} : upd f k x k = x := if_pos rfl
theorem pk_un {f : Nat → Int32} {k j : Nat} {x : Int32} (h : j ≠ k) : upd f k x j = f j := if_neg h
theorem pk_uLs {f : Nat → Int64} {k : Nat} {x : Int64} : vp_updL f k x k = x := if_pos rfl
theorem pk_uLn {f : Nat → Int64} {k j : Nat} {x : Int64} (h : j ≠ k) : vp_updL f k x j = f j := if_neg h
theorem pk_sub {a b : Nat} (h : b ≤ a) : nI a - nI b = nI (a - b) := by
  obtain ⟨c, rfl⟩ : ∃ c, a = c + b := ⟨a - b, by omega⟩
  rw [← nI_add, Int32.add_sub_cancel, Nat.add_sub_cancel]
theorem pk_m1 (n : Nat) : nI (n + 1) + (-1) = nI n := by
  rw [← nI_1, Int32.add_assoc, show (1 : Int32) + (-1) = 0 from rfl, Int32.add_zero]
theorem pk_mul (a b : Nat) : nI a * nI b = nI (a * b) := (Int32.ofNat_mul a b).symm
theorem pk_div {a d : Nat} (ha : a < 2 ^ 31) (h0 : 0 < d) (hd : d < 2 ^ 31) : nI a / nI d = nI (a / d) := by
  apply Int32.toInt_inj.mp
  rw [lg_idiv_nonneg (by rw [nI_toInt ha]; omega) (by rw [nI_toInt hd]; omega), nI_toInt ha, nI_toInt hd, nI_toInt (Nat.lt_of_le_of_lt (Nat.div_le_self a d) ha)]
  first | rfl | exact (Int.natCast_ediv _ _).symm
theorem pk_rem {a d : Nat} (ha : a < 2 ^ 31) (h0 : 0 < d) (hd : d < 2 ^ 31) : nI a - nI a / nI d * nI d = nI (a % d) := by
  rw [pk_div ha h0 hd, pk_mul, pk_sub (Nat.div_mul_le_self a d)]
  exact congrArg nI (by have := Nat.div_add_mod' a d; omega)
theorem pk_sub_toInt {a b : Nat} (ha : a < 2 ^ 30) (hb : b < 2 ^ 30) : (nI a - nI b).toInt = (a : Int) - b := by
  rw [Int32.toInt_sub, nI_toInt (by omega), nI_toInt (by omega)]
  exact Int.bmod_eq_of_le (by omega) (by omega)
theorem pk_sneg {a b : Nat} (hb : b < 2 ^ 30) (h : a < b) : nI a - nI b < 0 := by
  rw [Int32.lt_iff_toInt_lt, pk_sub_toInt (by omega) hb, show (0 : Int32).toInt = 0 from by decide]
  omega
theorem pk_ix (x : Int32) {n : Nat} (hn : n < 2 ^ 31) : x < 0 ∨ nI n ≤ x ∨ ∃ j : Nat, j < n ∧ x = nI j := by
  by_cases h : x < 0
  · exact Or.inl h
  · obtain ⟨j, hj, rfl⟩ := nI_of h
    by_cases h2 : j < n
    · exact Or.inr (Or.inr ⟨j, h2, rfl⟩)
    · exact Or.inr (Or.inl (nI_le (by omega) hj))
theorem pk_le {x y : Int32} {A B : Prop} (a b : Nat) (f : a ≤ b → A) (g : b < a → B) (hx : x = nI a := by rfl) (hy : y = nI b := by rfl) (ha : a < 2 ^ 31 := by omega) (hb : b < 2 ^ 31 := by omega) : (x ≤ y → A) ∧ (¬ x ≤ y → B) := by
  subst hx hy
  rw [nI_leI ha hb]
  exact ⟨f, fun z => g (by omega)⟩
theorem pk_lt {x y : Int32} {A B : Prop} (a b : Nat) (f : a < b → A) (g : b ≤ a → B) (hx : x = nI a := by rfl) (hy : y = nI b := by rfl) (ha : a < 2 ^ 31 := by omega) (hb : b < 2 ^ 31 := by omega) : (x < y → A) ∧ (¬ x < y → B) := by
  subst hx hy
  rw [nI_ltI ha hb]
  exact ⟨f, fun z => g (by omega)⟩
theorem pk_eq {x y : Int32} {A B : Prop} (a b : Nat) (f : a = b → A) (g : a ≠ b → B) (hx : x = nI a := by rfl) (hy : y = nI b := by rfl) (ha : a < 2 ^ 31 := by omega) (hb : b < 2 ^ 31 := by omega) : (x = y → A) ∧ (¬ x = y → B) := by
  subst hx hy
  rw [nI_eq ha hb]
  exact ⟨f, g⟩
theorem pk_in {x : Int32} (n N : Nat) (h : n < N) (hx : x = nI n := by rfl) (hN : N < 2 ^ 31 := by omega) : vp_in x N := by
  subst hx
  exact vp_in_nI h hN
theorem pk_cl {x : Int32} (n : Nat) (hx : x = nI n := by rfl) (h : n < 2 ^ 31 := by omega) : x.toNatClampNeg = n := by
  subst hx
  exact nI_clamp h
theorem pk_tn {n : Nat} (h : n < 2 ^ 32) : (nI n).toBitVec.toNat = n := Nat.mod_eq_of_lt h
theorem pk_and (x : Int32) {m : Int32} (k : Nat) (hm : m.toBitVec.toNat = 2 ^ k - 1) : x &&& m = nI (x.toBitVec.toNat % 2 ^ k) := by
  apply Int32.toBitVec_inj.mp
  apply BitVec.eq_of_toNat_eq
  rw [Int32.toBitVec_and, BitVec.toNat_and, hm, Nat.and_two_pow_sub_one_eq_mod]
  show _ = (BitVec.ofNat 32 _).toNat
  rw [BitVec.toNat_ofNat]
  exact (Nat.mod_eq_of_lt (Nat.lt_of_le_of_lt (Nat.mod_le _ _) x.toBitVec.isLt)).symm
theorem pk_andN {n : Nat} (h : n < 2 ^ 32) {m : Int32} (k : Nat) (hm : m.toBitVec.toNat = 2 ^ k - 1) : nI n &&& m = nI (n % 2 ^ k) := by
  rw [pk_and _ k hm, pk_tn h]
theorem pk_andE (x : Int32) {m : Int32} (k : Nat) (hm : m.toBitVec.toNat = 2 ^ k - 1) : ∃ j : Nat, j < 2 ^ k ∧ x &&& m = nI j := ⟨_, Nat.mod_lt _ (Nat.two_pow_pos k), pk_and x k hm⟩
theorem pk_andIn (x : Int32) {m : Int32} (k : Nat) (hm : m.toBitVec.toNat = 2 ^ k - 1) (hk : k ≤ 30) : vp_in (x &&& m) (2 ^ k) := by
  obtain ⟨j, hj, e⟩ := pk_andE x k hm
  rw [e]
  exact vp_in_nI hj (Nat.lt_of_le_of_lt (Nat.pow_le_pow_right (by decide) hk) (by decide))
theorem pk_shl (a s : Int32) (k : Nat) (hs : (s.toBitVec.smod 32).toNat = k) : (a <<< s).toBitVec.toNat = a.toBitVec.toNat * 2 ^ k % 2 ^ 32 := by
  show (a.toBitVec <<< (s.toBitVec.smod 32).toNat).toNat = _
  rw [hs, BitVec.toNat_shiftLeft, Nat.shiftLeft_eq]
theorem pk_shlN {n : Nat} (s : Int32) (k : Nat) (hs : (s.toBitVec.smod 32).toNat = k) (h : n * 2 ^ k < 2 ^ 32) : nI n <<< s = nI (n * 2 ^ k) := by
  apply Int32.toBitVec_inj.mp
  apply BitVec.eq_of_toNat_eq
  have hn : n < 2 ^ 32 := Nat.lt_of_le_of_lt (Nat.le_mul_of_pos_right n (Nat.two_pow_pos k)) h
  rw [pk_shl _ _ k hs, pk_tn hn, pk_tn h, Nat.mod_eq_of_lt h]
theorem pk_shr (a s : Int32) (k : Nat) (hs : (s.toBitVec.smod 32).toNat = k) : (a >>> s).toInt = a.toInt >>> k := by
  show (a.toBitVec.sshiftRight (s.toBitVec.smod 32).toNat).toInt = _
  rw [hs, BitVec.toInt_sshiftRight]
  rfl
theorem pk_shrN {n : Nat} (h : n < 2 ^ 31) (s : Int32) (k : Nat) (hs : (s.toBitVec.smod 32).toNat = k) : nI n >>> s = nI (n / 2 ^ k) := by
  apply Int32.toInt_inj.mp
  have h2 : n / 2 ^ k ≤ n := Nat.div_le_self _ _
  rw [pk_shr _ _ k hs, nI_toInt h, nI_toInt (by omega), Int.shiftRight_eq_div_pow]
  rfl
theorem pk_ushr (x s : Int32) (k : Nat) (hs : ((s.toUInt32 &&& Int32.toUInt32 31).toBitVec % 32).toNat = k) : (x.toUInt32 >>> (s.toUInt32 &&& Int32.toUInt32 31)).toInt32.toBitVec.toNat = x.toBitVec.toNat / 2 ^ k := by
  have e : (x.toUInt32 >>> (s.toUInt32 &&& Int32.toUInt32 31)).toInt32.toBitVec = x.toBitVec >>> k := by
    rw [← hs]
    exact UInt32.toBitVec_shiftRight _ _
  rw [e, BitVec.toNat_ushiftRight, Nat.shiftRight_eq_div_pow]
theorem pk_ushrN {n : Nat} (hn : n < 2 ^ 32) (s : Int32) (k : Nat) (hs : ((s.toUInt32 &&& Int32.toUInt32 31).toBitVec % 32).toNat = k) : ((nI n).toUInt32 >>> (s.toUInt32 &&& Int32.toUInt32 31)).toInt32 = nI (n / 2 ^ k) := by
  apply Int32.toBitVec_inj.mp
  apply BitVec.eq_of_toNat_eq
  rw [pk_ushr _ s k hs, pk_tn hn, pk_tn (Nat.lt_of_le_of_lt (Nat.div_le_self _ _) hn)]
theorem pk_lT {n : Nat} (h : n < 2 ^ 63) : (lN n).toInt = (n : Int) := lg_ofNat_toInt h
theorem pk_lLT {a b : Nat} (ha : a < 2 ^ 63) (hb : b < 2 ^ 63) : lN a < lN b ↔ a < b := by
  rw [Int64.lt_iff_toInt_lt, pk_lT ha, pk_lT hb]; omega
theorem pk_lLE {a b : Nat} (ha : a < 2 ^ 63) (hb : b < 2 ^ 63) : lN a ≤ lN b ↔ a ≤ b := by
  rw [Int64.le_iff_toInt_le, pk_lT ha, pk_lT hb]; omega
theorem pk_lEQ {a b : Nat} (ha : a < 2 ^ 63) (hb : b < 2 ^ 63) : lN a = lN b ↔ a = b := by
  rw [← Int64.toInt_inj, pk_lT ha, pk_lT hb]; omega
theorem pk_lOf {x : Int64} (h : ¬ x < 0) : ∃ k : Nat, k < 2 ^ 63 ∧ x = lN k := by
  rw [Int64.lt_iff_toInt_lt] at h
  have h0 : (0 : Int64).toInt = 0 := by decide
  have hx := Int64.toInt_lt x
  refine ⟨x.toInt.toNat, by omega, Int64.toInt_inj.mp ?_⟩
  rw [pk_lT (by omega)]
  omega
def bt (x : Int32) (i : Nat) : Bool := x.toBitVec.getLsbD i
theorem b_ext {x y : Int32} (h : ∀ i, i < 32 → bt x i = bt y i) : x = y := Int32.toBitVec_inj.mp (BitVec.eq_of_getLsbD_eq (fun i hi => h i hi))
theorem b_or (x y : Int32) (i : Nat) : bt (x ||| y) i = (bt x i || bt y i) := by unfold bt; rw [Int32.toBitVec_or, BitVec.getLsbD_or]
theorem b_and (x y : Int32) (i : Nat) : bt (x &&& y) i = (bt x i && bt y i) := by unfold bt; rw [Int32.toBitVec_and, BitVec.getLsbD_and]
theorem b_xor (x y : Int32) (i : Nat) : bt (x ^^^ y) i = (bt x i ^^ bt y i) := by unfold bt; rw [Int32.toBitVec_xor, BitVec.getLsbD_xor]
theorem b_big {x : Int32} {i : Nat} (h : 32 ≤ i) : bt x i = false := BitVec.getLsbD_of_ge _ _ h
theorem b_255 (i : Nat) : bt 255 i = decide (i < 8) := by
  rcases Nat.lt_or_ge i 32 with h | h
  · exact (by decide +kernel : ∀ i, i < 32 → bt 255 i = decide (i < 8)) i h
  · rw [b_big h, decide_eq_false (by omega)]
theorem b_65535 (i : Nat) : bt 65535 i = decide (i < 16) := by
  rcases Nat.lt_or_ge i 32 with h | h
  · exact (by decide +kernel : ∀ i, i < 32 → bt 65535 i = decide (i < 16)) i h
  · rw [b_big h, decide_eq_false (by omega)]
theorem b_m1 : ∀ i, i < 32 → bt (-1) i = true := by decide +kernel
theorem b_0 (i : Nat) : bt 0 i = false := BitVec.getLsbD_zero
theorem s_l : ∀ n, n < 32 → ((nI n &&& 31).toBitVec.smod 32).toNat = n := by decide +kernel
theorem s_u : ∀ n, n < 32 → (((nI n).toUInt32 &&& Int32.toUInt32 31).toBitVec % 32).toNat = n := by decide +kernel
theorem b_shl (n : Nat) (hn : n < 32) (x : Int32) {i : Nat} (hi : i < 32) : bt (x <<< (nI n &&& 31)) i = (decide (n ≤ i) && bt x (i - n)) := by
  unfold bt
  rw [Int32.toBitVec_shiftLeft]
  show (x.toBitVec <<< ((nI n &&& 31).toBitVec.smod 32).toNat).getLsbD i = _
  rw [s_l n hn, BitVec.getLsbD_shiftLeft]
  rcases Nat.lt_or_ge i n with h | h
  · simp [h, Nat.not_le.mpr h]
  · simp [hi, h, Nat.not_lt.mpr h]
theorem b_ushr (n : Nat) (hn : n < 32) (x : Int32) (i : Nat) : bt ((x.toUInt32 >>> ((nI n).toUInt32 &&& Int32.toUInt32 31)).toInt32) i = bt x (n + i) := by
  show (x.toUInt32 >>> ((nI n).toUInt32 &&& Int32.toUInt32 31)).toBitVec.getLsbD i = x.toUInt32.toBitVec.getLsbD (n + i)
  rw [UInt32.toBitVec_shiftRight]
  show (x.toUInt32.toBitVec >>> (((nI n).toUInt32 &&& Int32.toUInt32 31).toBitVec % 32).toNat).getLsbD i = _
  rw [s_u n hn, BitVec.getLsbD_ushiftRight]
theorem b_sshr (n : Nat) (hn : n < 32) (x : Int32) {i : Nat} (hi : i < 32) : bt (x >>> (nI n &&& 31)) i = if n + i < 32 then bt x (n + i) else bt x 31 := by
  unfold bt
  rw [Int32.toBitVec_shiftRight]
  show (x.toBitVec.sshiftRight ((nI n &&& 31).toBitVec.smod 32).toNat).getLsbD i = _
  rw [s_l n hn, BitVec.getLsbD_sshiftRight, BitVec.msb_eq_getLsbD_last]
  simp [hi]
theorem nx_and (a b : Nat) : nI a &&& nI b = nI (a &&& b) := by
  apply Int32.toBitVec_inj.1
  show BitVec.ofNat 32 a &&& BitVec.ofNat 32 b = BitVec.ofNat 32 (a &&& b)
  apply BitVec.eq_of_getLsbD_eq
  intro i hi
  simp [hi]
theorem nx_xor (a b : Nat) : nI a ^^^ nI b = nI (a ^^^ b) := by
  apply Int32.toBitVec_inj.1
  show BitVec.ofNat 32 a ^^^ BitVec.ofNat 32 b = BitVec.ofNat 32 (a ^^^ b)
  apply BitVec.eq_of_getLsbD_eq
  intro i hi
  simp [hi]
theorem nf_sh : ∀ l, l < 32 → ((1 : Int32) <<< (nI l &&& 31)).toBitVec = BitVec.twoPow 32 l := by decide +kernel
theorem wb_tb (n : Nat) : (lN n).toBitVec = BitVec.ofNat 64 n := rfl
theorem wb_inj {a b : Int64} (h : a.toBitVec = b.toBitVec) : a = b := Int64.toBitVec_inj.mp h
theorem wb_tn {n : Nat} (h : n < 2 ^ 64) : (lN n).toBitVec.toNat = n := by rw [wb_tb, BitVec.toNat_ofNat, Nat.mod_eq_of_lt h]
theorem wb_of (x : Int64) : ∃ n, n < 2 ^ 64 ∧ x = lN n := ⟨x.toBitVec.toNat, x.toBitVec.isLt, wb_inj (by rw [wb_tb]; simp)⟩
theorem wb_of32 (x : Int32) : ∃ n, n < 2 ^ 32 ∧ x = nI n := ⟨x.toBitVec.toNat, x.toBitVec.isLt, Int32.toBitVec_inj.mp (by show _ = BitVec.ofNat 32 _; simp)⟩
theorem wb_c : ∀ k, k < 64 → ((nI k).toInt64 &&& 63) = lN k := by decide +kernel
theorem wb_cu : ∀ k, k < 64 → ((nI k).toInt64.toUInt64 &&& Int64.toUInt64 63) = UInt64.ofNat k := by decide +kernel
theorem wb_sm : ∀ k, k < 64 → (BitVec.ofNat 64 k).smod 64 = BitVec.ofNat 64 k := by decide +kernel
theorem wb_pw {a b : Nat} (h : a ≤ b) : 2 ^ b = 2 ^ a * 2 ^ (b - a) := by rw [← Nat.pow_add]; congr 1; omega
theorem wb_lt2 {a b : Nat} (h : a < b) : 2 ^ a < 2 ^ b := Nat.pow_lt_pow_right (by decide) h
theorem wb_mod (n : Nat) : lN n = lN (n % 2 ^ 64) := wb_inj (by rw [wb_tb, wb_tb]; apply BitVec.eq_of_toNat_eq; rw [BitVec.toNat_ofNat, BitVec.toNat_ofNat, Nat.mod_mod])
theorem wb_shr {n k : Nat} (hn : n < 2 ^ 64) (hk : k < 64) : ((lN n).toUInt64 >>> ((nI k).toInt64.toUInt64 &&& Int64.toUInt64 63)).toInt64 = lN (n / 2 ^ k) := by
  rw [wb_cu k hk]
  apply wb_inj
  apply BitVec.eq_of_toNat_eq
  show ((lN n).toUInt64 >>> UInt64.ofNat k).toNat = (BitVec.ofNat 64 _).toNat
  have h1 : (UInt64.ofNat k).toNat = k := by
    show (BitVec.ofNat 64 k).toNat = k
    rw [BitVec.toNat_ofNat, Nat.mod_eq_of_lt (by omega)]
  have h2 : (lN n).toUInt64.toNat = n := wb_tn hn
  rw [UInt64.toNat_shiftRight, h1, h2, Nat.mod_eq_of_lt hk, Nat.shiftRight_eq_div_pow, BitVec.toNat_ofNat, Nat.mod_eq_of_lt (Nat.lt_of_le_of_lt (Nat.div_le_self _ _) hn)]
theorem wb_shl (n : Nat) {k : Nat} (hk : k < 64) : lN n <<< ((nI k).toInt64 &&& 63) = lN (n * 2 ^ k) := by
  rw [wb_c k hk]
  apply wb_inj
  rw [Int64.toBitVec_shiftLeft, wb_tb, wb_tb, wb_tb, wb_sm k hk]
  apply BitVec.eq_of_toNat_eq
  rw [BitVec.shiftLeft_eq', BitVec.toNat_shiftLeft, BitVec.toNat_ofNat, BitVec.toNat_ofNat, BitVec.toNat_ofNat, Nat.mod_eq_of_lt (show k < 2 ^ 64 by omega), Nat.shiftLeft_eq, Nat.mul_mod, Nat.mod_mod, ← Nat.mul_mod]
theorem wb_and {a b : Nat} (ha : a < 2 ^ 64) (hb : b < 2 ^ 64) : lN a &&& lN b = lN (a &&& b) := by
  apply wb_inj
  rw [Int64.toBitVec_and, wb_tb, wb_tb, wb_tb]
  apply BitVec.eq_of_toNat_eq
  rw [BitVec.toNat_and, BitVec.toNat_ofNat, BitVec.toNat_ofNat, BitVec.toNat_ofNat, Nat.mod_eq_of_lt ha, Nat.mod_eq_of_lt hb, Nat.mod_eq_of_lt (Nat.and_lt_two_pow _ hb)]
theorem wb_or {a b : Nat} (ha : a < 2 ^ 64) (hb : b < 2 ^ 64) : lN a ||| lN b = lN (a ||| b) := by
  apply wb_inj
  rw [Int64.toBitVec_or, wb_tb, wb_tb, wb_tb]
  apply BitVec.eq_of_toNat_eq
  rw [BitVec.toNat_or, BitVec.toNat_ofNat, BitVec.toNat_ofNat, BitVec.toNat_ofNat, Nat.mod_eq_of_lt ha, Nat.mod_eq_of_lt hb, Nat.mod_eq_of_lt (Nat.or_lt_two_pow ha hb)]
theorem wb_mask {n k : Nat} (hn : n < 2 ^ 64) (hk : k < 64) : lN n &&& lN (2 ^ k - 1) = lN (n % 2 ^ k) := by
  rw [wb_and hn (by have := wb_lt2 hk; omega), Nat.and_two_pow_sub_one_eq_mod]
theorem wb_a1 {n : Nat} (hn : n < 2 ^ 64) : lN n &&& 1 = lN (n % 2) := wb_mask (k := 1) hn (by decide)
theorem wb_bit {n k : Nat} (hn : n < 2 ^ 64) (hk : k < 64) : ((lN n).toUInt64 >>> ((nI k).toInt64.toUInt64 &&& Int64.toUInt64 63)).toInt64 &&& 1 = lN (n / 2 ^ k % 2) := by
  rw [wb_shr hn hk, wb_a1 (Nat.lt_of_le_of_lt (Nat.div_le_self _ _) hn)]
theorem wb_xor {q k : Nat} (hk : k < 63) (h : 2 ^ k ≤ q) (h2 : q < 2 ^ (k + 1)) : lN q ^^^ lN (2 ^ k) = lN (q - 2 ^ k) := by
  obtain ⟨r, rfl⟩ : ∃ r, q = 2 ^ k + r := ⟨q - 2 ^ k, by omega⟩
  have hr : r < 2 ^ k := by rw [Nat.pow_succ] at h2; omega
  have hx : (2 ^ k + r) ^^^ 2 ^ k = r := by
    apply Nat.eq_of_testBit_eq
    intro i
    rw [Nat.testBit_xor, Nat.testBit_two_pow]
    rcases Nat.lt_trichotomy i k with h | h | h
    · rw [Nat.testBit_two_pow_add_gt h]
      simp [show ¬ k = i by omega]
    · subst h
      rw [Nat.testBit_two_pow_add_eq]
      simp
    · have a1 : 2 ^ (k + 1) ≤ 2 ^ i := Nat.pow_le_pow_right (by decide) h
      rw [Nat.testBit_lt_two_pow (show 2 ^ k + r < 2 ^ i by omega), Nat.testBit_lt_two_pow (show r < 2 ^ i by omega)]
      simp [show ¬ k = i by omega]
  have b1 := wb_lt2 (show k + 1 < 64 by omega)
  have b2 := wb_lt2 (show k < 64 by omega)
  apply wb_inj
  rw [Int64.toBitVec_xor, wb_tb, wb_tb, wb_tb]
  apply BitVec.eq_of_toNat_eq
  rw [BitVec.toNat_xor, BitVec.toNat_ofNat, BitVec.toNat_ofNat, BitVec.toNat_ofNat, Nat.mod_eq_of_lt (by omega : 2 ^ k + r < 2 ^ 64), Nat.mod_eq_of_lt b2, hx, Nat.add_sub_cancel_left, Nat.mod_eq_of_lt (by omega)]
/-! ===== lN: masks, 'or' of parts that don't overlap is a sum ===== -/
theorem u_tn {n : Nat} (h : n < 2 ^ 64) : (UInt64.ofNat n).toNat = n := Nat.mod_eq_of_lt h
theorem g_and {a b c : Nat} (ha : a < 2 ^ 64) (hb : b < 2 ^ 64) (hc : a &&& b = c) : lN a &&& lN b = lN c := by
  subst hc
  have h : UInt64.ofNat a &&& UInt64.ofNat b = UInt64.ofNat (a &&& b) := UInt64.toNat_inj.mp (by rw [UInt64.toNat_and, u_tn ha, u_tn hb, u_tn (Nat.and_lt_two_pow a hb)])
  have h2 := congrArg UInt64.toInt64 h
  exact h2
theorem g_and1 {a : Nat} (ha : a < 2 ^ 64) : lN a &&& 1 = lN (a % 2) := g_and (b := 1) ha (by decide) (Nat.and_two_pow_sub_one_eq_mod a 1)
theorem g_mask {a s p : Nat} (hp : 2 ^ s = p) (hs : s < 64) (ha : a < 2 ^ 64) : lN a &&& lN (p - 1) = lN (a % p) := by
  subst hp
  have := Nat.pow_lt_pow_right (show 1 < 2 by decide) hs
  exact g_and ha (by omega) (Nat.and_two_pow_sub_one_eq_mod a s)
theorem g_or {k p a b : Nat} (hp : 2 ^ k = p) (ha : a < p) (h : b * p + a < 2 ^ 64) : lN (b * p) ||| lN a = lN (b * p + a) := by
  subst hp
  have h1 : b * 2 ^ k ||| a = b * 2 ^ k + a := by rw [← Nat.shiftLeft_eq, Nat.shiftLeft_add_eq_or_of_lt ha]
  have h3 : UInt64.ofNat (b * 2 ^ k) ||| UInt64.ofNat a = UInt64.ofNat (b * 2 ^ k + a) := UInt64.toNat_inj.mp (by rw [UInt64.toNat_or, u_tn (by omega), u_tn (by omega), u_tn h, h1])
  have h2 := congrArg UInt64.toInt64 h3
  exact h2
theorem g_or' {k p a b : Nat} (hp : 2 ^ k = p) (ha : a < p) (h : a + b * p < 2 ^ 64) : lN a ||| lN (b * p) = lN (a + b * p) := by
  rw [Int64.or_comm, g_or hp ha (by omega), Nat.add_comm]
theorem g_ushr {a k p : Nat} {y : UInt64} (hy : y = UInt64.ofNat k) (hk : k < 64) (hp : 2 ^ k = p) (ha : a < 2 ^ 64) : ((lN a).toUInt64 >>> y).toInt64 = lN (a / p) := by
  subst hy hp
  have h : UInt64.ofNat a >>> UInt64.ofNat k = UInt64.ofNat (a / 2 ^ k) := UInt64.toNat_inj.mp (by rw [UInt64.toNat_shiftRight, u_tn ha, u_tn (by omega), u_tn (Nat.lt_of_le_of_lt (Nat.div_le_self _ _) ha), Nat.mod_eq_of_lt hk, Nat.shiftRight_eq_div_pow])
  have h2 := congrArg UInt64.toInt64 h
  exact h2
theorem g_shl {a k p : Nat} {y : Int64} (hy : y.toBitVec.smod 64 = BitVec.ofNat 64 k) (hk : k < 64) (hp : 2 ^ k = p) (ha : a < 2 ^ 64) : lN a <<< y = lN (a * p) := by
  subst hp
  apply Int64.toBitVec_inj.mp
  rw [Int64.toBitVec_shiftLeft, hy]
  apply BitVec.eq_of_toNat_eq
  have hb : (lN a).toBitVec.toNat = a := Nat.mod_eq_of_lt ha
  have hk' : (BitVec.ofNat 64 k).toNat = k := Nat.mod_eq_of_lt (by omega)
  have h : ((lN a).toBitVec <<< BitVec.ofNat 64 k).toNat = (a * 2 ^ k) % 2 ^ 64 := by simp only [BitVec.shiftLeft_eq', BitVec.toNat_shiftLeft, hb, hk', Nat.shiftLeft_eq]
  exact h
/-! ===== lN to 2^62 under >> and >>> ===== -/
theorem pf_lI {a : Nat} (h : a < 2 ^ 63) : (lN a).toInt = (a : Int) := lg_ofNat_toInt h
theorem pf_shr {a d : Nat} {D : Int64} (hD : (D.toBitVec.smod 64).toNat = d) (h : a < 2 ^ 62) : lN a >>> D = lN (a / 2 ^ d) := by
  have hd : a / 2 ^ d ≤ a := Nat.div_le_self _ _
  apply Int64.toInt_inj.mp
  have e : (lN a >>> D).toInt = (lN a).toInt >>> d := by
    rw [← hD]
    exact BitVec.toInt_sshiftRight ..
  rw [e, Int.shiftRight_eq_div_pow, pf_lI (by omega), pf_lI (by omega)]
  rfl
end
section
/-- a problem: hol a s, out a s, app t m s, first m, second m -/
abbrev mp_PB : Type := (Nat → Nat → Bool) × (Nat → Nat → Nat) × (Nat → Nat → Nat → Bool) × (Nat → Nat) × (Nat → Nat)
def mp_hol (P : mp_PB) (a s : Nat) : Bool := P.1 a s
def mp_out (P : mp_PB) (a s : Nat) : Nat := P.2.1 a s
def mp_app (P : mp_PB) (t m s : Nat) : Bool := P.2.2.1 t m s
def mp_fs (P : mp_PB) (m : Nat) : Nat := P.2.2.2.1 m
def mp_sn (P : mp_PB) (m : Nat) : Nat := P.2.2.2.2 m
def mp_sv (t v : Nat) : Prop := v ≤ 6 ∨ (8 + t < v ∧ v ≤ 11)
def mp_ok (P : mp_PB) : Prop := (∀ a s, a < 6 → s < 32 → mp_out P a s < 32) ∧ (∀ t m s, t < 4 → m < 8 → mp_app P t m s = true → mp_sv t (mp_fs P m) ∧ mp_sv t (mp_sn P m))
/-- actions and task nodes at most -/
def mp_an (v : Nat) : Nat := if v < 8 then 1 else 2 ^ (12 - v)
def mp_tn (v : Nat) : Nat := if v < 8 then 0 else 2 ^ (12 - v) - 1
theorem mp_an_c : ∀ t, t < 4 → ∀ v, v < 12 → (v ≤ 6 ∨ (8 + t < v ∧ v ≤ 11)) → 2 * mp_an v ≤ mp_an (8 + t) ∧ 2 * mp_tn v + 1 ≤ mp_tn (8 + t) := by decide
theorem mp_an_s {t v : Nat} (ht : t < 4) (h : mp_sv t v) : 2 * mp_an v ≤ mp_an (8 + t) ∧ 2 * mp_tn v + 1 ≤ mp_tn (8 + t) :=
  mp_an_c t ht v (by unfold mp_sv at h; omega) h
def mp_sa : List Nat → Nat
  | [] => 0
  | v :: l => mp_an v + mp_sa l
def mp_sx : List Nat → Nat
  | [] => 0
  | v :: l => mp_tn v + mp_sx l
def mp_av (ag : List Nat) : Prop := ∀ v, v ∈ ag → (1 ≤ v ∧ v ≤ 6) ∨ (8 ≤ v ∧ v ≤ 11)
def mp_pu (v : Nat) (ag : List Nat) : List Nat := if v = 0 then ag else v :: ag
def mp_ch (P : mp_PB) (m : Nat) (ag : List Nat) : List Nat := mp_pu (mp_fs P m) (mp_pu (mp_sn P m) ag)
theorem mp_pu_sa (v : Nat) (a : List Nat) : mp_sa (mp_pu v a) ≤ mp_an v + mp_sa a := by
  unfold mp_pu
  split
  · omega
  · exact Nat.le_refl _
theorem mp_pu_sx (v : Nat) (a : List Nat) : mp_sx (mp_pu v a) ≤ mp_tn v + mp_sx a := by
  unfold mp_pu
  split
  · omega
  · exact Nat.le_refl _
theorem mp_pu_av {t v : Nat} {a : List Nat} (h : mp_sv t v) (ha : mp_av a) : mp_av (mp_pu v a) := by
  unfold mp_pu
  split
  · exact ha
  · intro w hw
    rcases List.mem_cons.mp hw with e | e
    · subst e
      unfold mp_sv at h
      omega
    · exact ha w e
theorem mp_an_pos (v : Nat) : 1 ≤ mp_an v := by
  unfold mp_an
  split
  · exact Nat.le_refl _
  · exact Nat.one_le_two_pow
theorem mp_len_sa : ∀ a : List Nat, a.length ≤ mp_sa a
  | [] => Nat.le_refl _
  | v :: a => by
    have h1 := mp_len_sa a
    have h2 := mp_an_pos v
    show a.length + 1 ≤ mp_an v + mp_sa a
    omega
theorem mp_ch_ok {P : mp_PB} {t m : Nat} {a : List Nat} (ht : t < 4) (h1 : mp_sv t (mp_fs P m)) (h2 : mp_sv t (mp_sn P m)) (ha : mp_av a) :
    mp_av (mp_ch P m a) ∧ mp_sa (mp_ch P m a) ≤ mp_an (8 + t) + mp_sa a ∧ mp_sx (mp_ch P m a) + 1 ≤ mp_tn (8 + t) + mp_sx a := by
  have e1 := mp_an_s ht h1
  have e2 := mp_an_s ht h2
  have f1 := mp_pu_sa (mp_fs P m) (mp_pu (mp_sn P m) a)
  have f2 := mp_pu_sa (mp_sn P m) a
  have f3 := mp_pu_sx (mp_fs P m) (mp_pu (mp_sn P m) a)
  have f4 := mp_pu_sx (mp_sn P m) a
  refine ⟨mp_pu_av h1 (mp_pu_av h2 ha), ?_, ?_⟩
  · unfold mp_ch; omega
  · unfold mp_ch; omega
/-- the leaves that a node with children q m, f m still has from child c on (k children left), its end last -/
def mp_gl {α : Type} (q : Nat → Bool) (f : Nat → List (Option α)) : Nat → Nat → List (Option α)
  | 0, _ => [none]
  | k + 1, c => if q c then f c ++ mp_gl q f k (c + 1) else mp_gl q f k (c + 1)
def mp_R (P : mp_PB) : Nat → List Nat → Nat → List Nat → List Nat → List (Option (Nat × List Nat))
  | 0, _, _, _, _ => []
  | _ + 1, [], s, p, _ => [some (s, p)]
  | n + 1, v :: ag, s, p, cs =>
    if v < 8 then (if mp_hol P (v - 1) s then mp_R P n ag (mp_out P (v - 1) s) (p ++ [v - 1]) cs else [none])
    else match cs with
      | [] => mp_gl (fun m => mp_app P (v - 8) m s) (fun m => mp_R P n (mp_ch P m ag) s p []) 8 0
      | [c] => mp_gl (fun m => mp_app P (v - 8) m s) (fun m => mp_R P n (mp_ch P m ag) s p []) (8 - c) c
      | c :: c' :: cs' => mp_R P n (mp_ch P c ag) s p (c' :: cs') ++ mp_gl (fun m => mp_app P (v - 8) m s) (fun m => mp_R P n (mp_ch P m ag) s p []) (8 - (c + 1)) (c + 1)
def mp_V (P : mp_PB) : Nat → List Nat → Nat → List Nat → Prop
  | 0, _, _, cs => cs = []
  | _ + 1, [], _, cs => cs = []
  | n + 1, v :: ag, s, cs =>
    if v < 8 then (cs = [] ∨ (mp_hol P (v - 1) s = true ∧ mp_V P n ag (mp_out P (v - 1) s) cs))
    else match cs with
      | [] => True
      | [c] => c ≤ 8
      | c :: c' :: cs' => c < 8 ∧ mp_app P (v - 8) c s = true ∧ mp_V P n (mp_ch P c ag) s (c' :: cs')
def mp_inc : List Nat → List Nat
  | [] => []
  | [c] => [c + 1]
  | c :: c' :: l => c :: mp_inc (c' :: l)
theorem mp_inc_len : ∀ l : List Nat, (mp_inc l).length = l.length
  | [] => rfl
  | [_] => rfl
  | c :: c' :: l => by
    show (mp_inc (c' :: l)).length + 1 = _
    rw [mp_inc_len (c' :: l)]
    rfl
theorem mp_inc_ne {l : List Nat} (h : l ≠ []) : mp_inc l ≠ [] := by
  intro e
  have h1 := mp_inc_len l
  rw [e] at h1
  exact h (List.length_eq_zero_iff.mp h1.symm)
theorem mp_inc_cons {m : Nat} {l : List Nat} (h : l ≠ []) : mp_inc (m :: l) = m :: mp_inc l := by
  cases l with
  | nil => exact absurd rfl h
  | cons c l => rfl
/-- what is left at a task node that has chosen m and then es -/
theorem mp_R_pick {P : mp_PB} {n v s m : Nat} {ag p es : List Nat} (hv : ¬ v < 8) :
    mp_R P (n + 1) (v :: ag) s p (mp_inc (m :: es)) = (if es = [] then [] else mp_R P n (mp_ch P m ag) s p (mp_inc es)) ++ mp_gl (fun m => mp_app P (v - 8) m s) (fun m => mp_R P n (mp_ch P m ag) s p []) (8 - (m + 1)) (m + 1) := by
  by_cases h : es = []
  · subst h
    show (if v < 8 then _ else _) = _
    rw [if_neg hv, if_pos rfl]
    rfl
  · rw [if_neg h, mp_inc_cons h]
    cases e : mp_inc es with
    | nil => exact absurd e (mp_inc_ne h)
    | cons c l =>
      show (if v < 8 then _ else _) = _
      rw [if_neg hv]
theorem mp_V_pick {P : mp_PB} {n v s m : Nat} {ag es : List Nat} (hv : ¬ v < 8) (hm : m < 8) (ha : mp_app P (v - 8) m s = true) (h : es ≠ [] → mp_V P n (mp_ch P m ag) s (mp_inc es)) :
    mp_V P (n + 1) (v :: ag) s (mp_inc (m :: es)) := by
  by_cases z : es = []
  · subst z
    show (if v < 8 then _ else _)
    rw [if_neg hv]
    show m + 1 ≤ 8
    omega
  · have h' := h z
    rw [mp_inc_cons z]
    cases e : mp_inc es with
    | nil => exact absurd e (mp_inc_ne z)
    | cons c l =>
      rw [e] at h'
      show (if v < 8 then _ else _)
      rw [if_neg hv]
      exact ⟨hm, ha, h'⟩
/-- choosing: the first child from c on -/
theorem mp_gl_none {α : Type} {q : Nat → Bool} {f : Nat → List (Option α)} : ∀ k c, (∀ m, c ≤ m → m < c + k → q m = false) → mp_gl q f k c = [none]
  | 0, _, _ => rfl
  | k + 1, c, h => by
    show (if q c then _ else _) = _
    rw [h c (Nat.le_refl c) (by omega)]
    exact mp_gl_none k (c + 1) (fun m h1 h2 => h m (by omega) (by omega))
theorem mp_gl_some {α : Type} {q : Nat → Bool} {f : Nat → List (Option α)} {m : Nat} (hm : q m = true) : ∀ k c, c ≤ m → m < c + k → (∀ i, c ≤ i → i < m → q i = false) → mp_gl q f k c = f m ++ mp_gl q f (c + k - (m + 1)) (m + 1)
  | 0, c, h1, h2, _ => by omega
  | k + 1, c, h1, h2, h => by
    show (if q c then _ else _) = _
    by_cases e : c = m
    · subst e
      rw [if_pos hm]
      have : c + (k + 1) - (c + 1) = k := by omega
      rw [this]
    · rw [h c (Nat.le_refl c) (by omega)]
      have := mp_gl_some (f := f) hm k (c + 1) (by omega) (by omega) (fun i h1 h2 => h i (by omega) h2)
      have e2 : c + 1 + k = c + (k + 1) := by omega
      rw [e2] at this
      exact this
/-- the ways of step v in state s -/
def mp_fl {α : Type} (g : Nat → List α) : Nat → Nat → List α
  | 0, _ => []
  | k + 1, c => g c ++ mp_fl g k (c + 1)
def mp_pr (L : List (Nat × List Nat)) (G : Nat → List (Nat × List Nat)) : List (Nat × List Nat) := L.flatMap (fun x => (G x.1).map (fun y => (y.1, x.2 ++ y.2)))
def mp_wd (P : mp_PB) : Nat → Nat → Nat → List (Nat × List Nat)
  | 0, _, _ => []
  | d + 1, v, s => if v = 0 then [(s, [])] else if v < 8 then (if mp_hol P (v - 1) s then [(mp_out P (v - 1) s, [v - 1])] else [])
      else mp_fl (fun m => if mp_app P (v - 8) m s then mp_pr (mp_wd P d (mp_fs P m) s) (mp_wd P d (mp_sn P m)) else []) 8 0
def mp_ws (P : mp_PB) (v s : Nat) : List (Nat × List Nat) := mp_wd P 5 v s
theorem mp_fl_congr {α : Type} {g g' : Nat → List α} : ∀ k c, (∀ m, c ≤ m → m < c + k → g m = g' m) → mp_fl g k c = mp_fl g' k c
  | 0, _, _ => rfl
  | k + 1, c, h => by
    show g c ++ _ = g' c ++ _
    rw [h c (Nat.le_refl c) (by omega), mp_fl_congr k (c + 1) (fun m h1 h2 => h m (by omega) (by omega))]
def mp_rk (v : Nat) : Nat := 12 - v
theorem mp_wd_ind {P : mp_PB} (ok : mp_ok P) : ∀ d d' v s, v ≤ 11 → (v < 8 ∨ 12 - v < d) → (v < 8 ∨ 12 - v < d') → 0 < d → 0 < d' → mp_wd P d v s = mp_wd P d' v s
  | 0, _, _, _, _, _, _, h, _ => by omega
  | _, 0, _, _, _, _, _, _, h => by omega
  | d + 1, d' + 1, v, s, hv, h1, h2, _, _ => by
    show (if v = 0 then _ else if v < 8 then _ else _) = (if v = 0 then _ else if v < 8 then _ else _)
    by_cases z : v = 0
    · rw [if_pos z, if_pos z]
    · rw [if_neg z, if_neg z]
      by_cases w : v < 8
      · rw [if_pos w, if_pos w]
      · rw [if_neg w, if_neg w]
        apply mp_fl_congr
        intro m _ hm
        by_cases a : mp_app P (v - 8) m s = true
        · rw [if_pos a, if_pos a]
          obtain ⟨k1, k2⟩ := ok.2 (v - 8) m s (by omega) (by omega) a
          unfold mp_sv at k1 k2
          have e1 : mp_wd P d (mp_fs P m) s = mp_wd P d' (mp_fs P m) s := mp_wd_ind ok d d' _ s (by omega) (by omega) (by omega) (by omega) (by omega)
          have e2 : mp_wd P d (mp_sn P m) = mp_wd P d' (mp_sn P m) := funext fun b => mp_wd_ind ok d d' _ b (by omega) (by omega) (by omega) (by omega) (by omega)
          rw [e1, e2]
        · rw [if_neg a, if_neg a]
theorem mp_ws0 (P : mp_PB) (s : Nat) : mp_ws P 0 s = [(s, [])] := rfl
theorem mp_wsa (P : mp_PB) {v : Nat} (s : Nat) (h0 : v ≠ 0) (h : v < 8) : mp_ws P v s = if mp_hol P (v - 1) s then [(mp_out P (v - 1) s, [v - 1])] else [] := by
  show (if v = 0 then _ else if v < 8 then _ else _) = _
  rw [if_neg h0, if_pos h]
/-- what method m gives in state s -/
def mp_mw (P : mp_PB) (m s : Nat) : List (Nat × List Nat) := mp_pr (mp_ws P (mp_fs P m) s) (mp_ws P (mp_sn P m))
theorem mp_wst {P : mp_PB} (ok : mp_ok P) {t : Nat} (s : Nat) (ht : t < 4) : mp_ws P (8 + t) s = mp_fl (fun m => if mp_app P t m s then mp_mw P m s else []) 8 0 := by
  show (if 8 + t = 0 then _ else if 8 + t < 8 then _ else _) = _
  rw [if_neg (by omega), if_neg (by omega)]
  apply mp_fl_congr
  intro m _ hm
  have et : 8 + t - 8 = t := by omega
  rw [et]
  by_cases a : mp_app P t m s = true
  · rw [if_pos a, if_pos a]
    obtain ⟨k1, k2⟩ := ok.2 t m s ht (by omega) a
    unfold mp_sv at k1 k2
    have e1 : mp_wd P 4 (mp_fs P m) s = mp_ws P (mp_fs P m) s := mp_wd_ind ok 4 5 _ s (by omega) (by omega) (by omega) (by omega) (by omega)
    have e2 : mp_wd P 4 (mp_sn P m) = mp_ws P (mp_sn P m) := funext fun b => mp_wd_ind ok 4 5 _ b (by omega) (by omega) (by omega) (by omega) (by omega)
    rw [e1, e2]
    rfl
  · rw [if_neg a, if_neg a]
/-- the leaves that succeed are the ways -/
def mp_sq (P : mp_PB) : List Nat → Nat → List Nat → List (Nat × List Nat)
  | [], s, p => [(s, p)]
  | v :: ag, s, p => (mp_ws P v s).flatMap (fun x => mp_sq P ag x.1 (p ++ x.2))
theorem mp_sq_pu (P : mp_PB) (v : Nat) (ag : List Nat) (s : Nat) (p : List Nat) : mp_sq P (mp_pu v ag) s p = (mp_ws P v s).flatMap (fun x => mp_sq P ag x.1 (p ++ x.2)) := by
  unfold mp_pu
  split
  · next h =>
    subst h
    rw [mp_ws0]
    simp
  · rfl
theorem mp_sq_ch (P : mp_PB) (m : Nat) (ag : List Nat) (s : Nat) (p : List Nat) : mp_sq P (mp_ch P m ag) s p = (mp_mw P m s).flatMap (fun x => mp_sq P ag x.1 (p ++ x.2)) := by
  unfold mp_ch mp_mw mp_pr
  rw [mp_sq_pu, List.flatMap_assoc]
  congr 1
  funext x
  rw [mp_sq_pu, List.flatMap_map]
  congr 1
  funext y
  simp
theorem mp_gl_fl {α : Type} (q : Nat → Bool) (f : Nat → List (Option α)) : ∀ k c, (mp_gl q f k c).filterMap id = mp_fl (fun m => if q m then (f m).filterMap id else []) k c
  | 0, _ => rfl
  | k + 1, c => by
    show (if q c then _ else _ : List (Option α)).filterMap id = (if q c then _ else _) ++ mp_fl _ k (c + 1)
    rw [← mp_gl_fl q f k (c + 1)]
    cases q c
    · simp
    · simp
theorem mp_fl_flatMap {α β : Type} (g : Nat → List α) (G : α → List β) : ∀ k c, (mp_fl g k c).flatMap G = mp_fl (fun m => (g m).flatMap G) k c
  | 0, _ => rfl
  | k + 1, c => by
    show (g c ++ mp_fl g k (c + 1)).flatMap G = (g c).flatMap G ++ _
    rw [List.flatMap_append, mp_fl_flatMap g G k (c + 1)]
theorem mp_R_sq {P : mp_PB} (ok : mp_ok P) : ∀ n ag s p, mp_sa ag + mp_sx ag < n → mp_av ag → (mp_R P n ag s p []).filterMap id = mp_sq P ag s p
  | 0, _, _, _, h, _ => by omega
  | n + 1, [], s, p, _, _ => rfl
  | n + 1, v :: ag, s, p, h, hav => by
    have hv := hav v (List.mem_cons_self)
    have ha : mp_av ag := fun w hw => hav w (List.mem_cons_of_mem _ hw)
    have hp := mp_an_pos v
    have hs : mp_sa (v :: ag) = mp_an v + mp_sa ag := rfl
    have hx : mp_sx (v :: ag) = mp_tn v + mp_sx ag := rfl
    show (if v < 8 then _ else _ : List (Option (Nat × List Nat))).filterMap id = (mp_ws P v s).flatMap _
    by_cases w : v < 8
    · rw [if_pos w, mp_wsa P s (by omega) w]
      by_cases z : mp_hol P (v - 1) s = true
      · rw [if_pos z, if_pos z, mp_R_sq ok n ag _ _ (by omega) ha]
        simp
      · rw [if_neg z, if_neg z]
        rfl
    · obtain ⟨t, ht, rfl⟩ : ∃ t, t < 4 ∧ v = 8 + t := ⟨v - 8, by omega, by omega⟩
      rw [if_neg w, mp_wst ok s ht]
      have et : 8 + t - 8 = t := by omega
      rw [et]
      show (mp_gl _ _ 8 0).filterMap id = _
      rw [mp_gl_fl, mp_fl_flatMap]
      apply mp_fl_congr
      intro m _ hm
      by_cases a : mp_app P t m s = true
      · obtain ⟨k1, k2⟩ := ok.2 t m s ht (by omega) a
        obtain ⟨c1, c2, c3⟩ := mp_ch_ok (P := P) (m := m) ht k1 k2 ha
        rw [if_pos a, if_pos a, mp_R_sq ok n _ _ _ (by omega) c1, mp_sq_ch]
      · rw [if_neg a, if_neg a]
        rfl
theorem mp_R_ws {P : mp_PB} (ok : mp_ok P) {t : Nat} (ht : t < 4) (s : Nat) : (mp_R P 40 [8 + t] s [] []).filterMap id = mp_ws P (8 + t) s := by
  have hb : ∀ t, t < 4 → mp_sa [8 + t] + mp_sx [8 + t] < 40 := by decide
  have h := mp_R_sq ok 40 [8 + t] s [] (hb t ht) (fun v hv => by
    rw [List.mem_singleton] at hv
    omega)
  rw [h]
  show (mp_ws P (8 + t) s).flatMap (fun x => [(x.1, [] ++ x.2)]) = _
  simp
end
section
/-- the problem that the reference's arrays hold -/
def yp_hI (c : Int32) (s : Nat) : Bool := decide (((c &&& 31) &&& (nI s ^^^ (-1))) = 0) && decide (((c >>> ((5 : Int32) &&& 31)) &&& nI s) = 0)
def yp_ex (f : Int32) (s : Nat) : Int32 := (nI s &&& ((f >>> ((5 : Int32) &&& 31)) ^^^ (-1))) ||| (f &&& 31)
def yp_chg (f : Int32) (s : Nat) : Nat := (yp_ex f s).toNatClampNeg
def yp_P (co ef th ta de sp : Nat → Int32) : mp_PB := (fun a s => yp_hI (co a) s, fun a s => yp_chg (ef a) s, fun t m s => decide (¬ th m = 0) && (decide (ta m = nI t) && yp_hI (de m) s), fun m => (sp m &&& 15).toNatClampNeg, fun m => (sp m >>> ((4 : Int32) &&& 31)).toNatClampNeg)
def yp_ok (th ta sp : Nat → Int32) : Prop := ∀ m, m < 8 → (th m = 0 ∨ th m = 1) ∧ (¬ th m = 0 → ∃ t k, t < 4 ∧ ta m = nI t ∧ k < 256 ∧ sp m = nI k ∧ mp_sv t (k % 16) ∧ mp_sv t (k / 16))
theorem yp_ofBV (x : Int32) : x = nI x.toBitVec.toNat := by
  apply Int32.toBitVec_inj.mp
  apply BitVec.eq_of_toNat_eq
  show _ = (BitVec.ofNat 32 _).toNat
  rw [BitVec.toNat_ofNat]
  exact (Nat.mod_eq_of_lt x.toBitVec.isLt).symm
theorem yp_ex_eq (f : Int32) {s : Nat} (hs : s < 32) : yp_ex f s = nI (yp_chg f s) ∧ yp_chg f s < 32 := by
  have h : (yp_ex f s).toBitVec.toNat < 2 ^ 5 := by
    unfold yp_ex
    rw [Int32.toBitVec_or, BitVec.toNat_or]
    apply Nat.or_lt_two_pow
    · rw [Int32.toBitVec_and, BitVec.toNat_and]
      refine Nat.lt_of_le_of_lt Nat.and_le_left ?_
      rw [pk_tn (by omega)]
      exact hs
    · rw [Int32.toBitVec_and, BitVec.toNat_and]
      exact Nat.lt_of_le_of_lt Nat.and_le_right (by decide)
  have e := yp_ofBV (yp_ex f s)
  have e2 : yp_chg f s = (yp_ex f s).toBitVec.toNat := by
    unfold yp_chg
    rw [e, nI_clamp (by omega), ← e]
  rw [e2]
  exact ⟨e, h⟩
theorem yp_app {co ef th ta de sp : Nat → Int32} {t m s : Nat} : mp_app (yp_P co ef th ta de sp) t m s = true ↔ (¬ th m = 0 ∧ ta m = nI t ∧ yp_hI (de m) s = true) := by
  show (decide (¬ th m = 0) && (decide (ta m = nI t) && yp_hI (de m) s)) = true ↔ _
  simp
theorem yp_fs {co ef th ta de sp : Nat → Int32} {m k : Nat} (h : sp m = nI k) (hk : k < 256) : mp_fs (yp_P co ef th ta de sp) m = k % 16 ∧ sp m &&& 15 = nI (k % 16) := by
  have e : sp m &&& 15 = nI (k % 16) := by
    rw [h]
    exact pk_andN (by omega) 4 (by decide)
  refine ⟨?_, e⟩
  show (sp m &&& 15).toNatClampNeg = _
  rw [e, nI_clamp (by omega)]
theorem yp_sn {co ef th ta de sp : Nat → Int32} {m k : Nat} (h : sp m = nI k) (hk : k < 256) : mp_sn (yp_P co ef th ta de sp) m = k / 16 ∧ sp m >>> ((4 : Int32) &&& 31) = nI (k / 16) := by
  have e : sp m >>> ((4 : Int32) &&& 31) = nI (k / 16) := by
    rw [h]
    exact pk_shrN (by omega) _ 4 (by decide)
  refine ⟨?_, e⟩
  show (sp m >>> ((4 : Int32) &&& 31)).toNatClampNeg = _
  rw [e, nI_clamp (by omega)]
theorem yp_mok {co ef th ta de sp : Nat → Int32} (h : yp_ok th ta sp) : mp_ok (yp_P co ef th ta de sp) := by
  refine ⟨fun a s _ hs => (yp_ex_eq (ef a) hs).2, fun t m s ht hm ha => ?_⟩
  obtain ⟨h1, h2, h3⟩ := yp_app.mp ha
  obtain ⟨t', k, ht', e1, hk, e2, s1, s2⟩ := (h m hm).2 h1
  have et : t = t' := (nI_eq (by omega) (by omega)).mp (h2.symm.trans e1)
  subst et
  rw [(yp_fs (co := co) (ef := ef) (th := th) (ta := ta) (de := de) e2 hk).1, (yp_sn (co := co) (ef := ef) (th := th) (ta := ta) (de := de) e2 hk).1]
  exact ⟨s1, s2⟩
/-- contents of agenda, choices and plan -/
def yw_AG (a : Nat → Int32) : List Nat → Prop
  | [] => True
  | v :: l => a l.length = nI v ∧ yw_AG a l
def yw_CH (a : Nat → Int32) : Nat → List Nat → Prop
  | _, [] => True
  | k, c :: l => a k = nI c ∧ yw_CH a (k + 1) l
theorem yw_AG_upd {a : Nat → Int32} {k : Nat} {x : Int32} : ∀ {l : List Nat}, l.length ≤ k → yw_AG a l → yw_AG (upd a k x) l
  | [], _, _ => trivial
  | v :: l, h, ⟨h1, h2⟩ => by
    have h' : l.length + 1 ≤ k := h
    exact ⟨(pk_un (by omega)).trans h1, yw_AG_upd (by omega) h2⟩
theorem yw_CH_cong {a b : Nat → Int32} : ∀ {l : List Nat} {k : Nat}, (∀ i, k ≤ i → i < k + l.length → b i = a i) → yw_CH a k l → yw_CH b k l
  | [], _, _, _ => trivial
  | c :: l, k, h, ⟨h1, h2⟩ => by
    have hl : (c :: l).length = l.length + 1 := rfl
    exact ⟨(h k (Nat.le_refl k) (by omega)).trans h1, yw_CH_cong (fun i i1 i2 => h i (by omega) (by omega)) h2⟩
theorem yw_CH_app {a : Nat → Int32} : ∀ {l : List Nat} {k : Nat} {c : Nat}, yw_CH a k (l ++ [c]) ↔ (yw_CH a k l ∧ a (k + l.length) = nI c)
  | [], k, c => ⟨fun h => ⟨trivial, h.1⟩, fun h => ⟨h.2, trivial⟩⟩
  | d :: l, k, c => by
    have e : k + (d :: l).length = k + 1 + l.length := by
      show k + (l.length + 1) = _
      omega
    rw [e]
    constructor
    · intro h
      have h2 := yw_CH_app.mp h.2
      exact ⟨⟨h.1, h2.1⟩, h2.2⟩
    · intro h
      exact ⟨h.1.1, yw_CH_app.mpr ⟨h.1.2, h.2⟩⟩
theorem yw_CH_at {a : Nat → Int32} : ∀ {l : List Nat} {k i : Nat} (h : i < l.length), yw_CH a k l → a (k + i) = nI l[i]
  | [], _, _, h, _ => absurd h (Nat.not_lt_zero _)
  | c :: l, k, 0, _, ⟨h1, _⟩ => h1
  | c :: l, k, i + 1, h, ⟨_, h2⟩ => by
    have := yw_CH_at (i := i) (Nat.lt_of_succ_lt_succ h) h2
    have e : k + 1 + i = k + (i + 1) := by omega
    rw [e] at this
    exact this
theorem yw_CH_inc {a : Nat → Int32} : ∀ {l : List Nat} {k : Nat}, l ≠ [] → yw_CH a k l → yw_CH (upd a (k + l.length - 1) (a (k + l.length - 1) + 1)) k (mp_inc l)
  | [], _, h, _ => absurd rfl h
  | [c], k, _, ⟨h1, _⟩ => by
    have e : k + [c].length - 1 = k := by
      show k + 1 - 1 = k
      omega
    rw [e]
    refine ⟨pk_us.trans ?_, trivial⟩
    rw [h1, nI_1]
  | c :: c' :: l, k, _, ⟨h1, h2⟩ => by
    have e : k + (c :: c' :: l).length - 1 = k + 1 + (c' :: l).length - 1 := by
      show k + (l.length + 1 + 1) - 1 = k + 1 + (l.length + 1) - 1
      omega
    rw [e]
    have e2 : (c' :: l).length = l.length + 1 := rfl
    exact ⟨(pk_un (by omega)).trans h1, yw_CH_inc (List.cons_ne_nil _ _) h2⟩
theorem yw_holds {post : Int32 → Prop} {u : SY} {c : Int32} {s : Nat} (h : post (if yp_hI c s then 1 else 0)) : wpY_holds post u c (nI s) := by
  obtain ⟨wr, kn, md, op, st, ps, bs, co, ef, th, ta, de, sp, li, ch, ga, pl, be⟩ := u
  unfold yp_hI at h
  refine br_c (fun h1 => br_c (fun h2 => ?_) (fun h2 => ?_)) (fun h1 => ?_)
  · rw [decide_eq_true h1, decide_eq_true h2] at h
    exact h
  · rw [decide_eq_true h1, decide_eq_false h2] at h
    exact h
  · rw [decide_eq_false h1] at h
    exact h
theorem yw_changed {post : Int32 → Prop} (wr kn md op st ps bs : Int32) (co ef th ta de sp li ch ga pl be : Nat → Int32) {a s : Nat} (ha : a < 6) (hs : s < 32) (h : post (nI (yp_chg (ef a) s))) : wpY_changed post (wr, kn, md, op, st, ps, bs, co, ef, th, ta, de, sp, li, ch, ga, pl, be) (nI a) (nI s) := by
  have hi : vp_in (nI a) 6 := vp_in_nI ha (by decide)
  have e := (yp_ex_eq (ef a) hs).1
  refine ⟨hi, hi, ?_⟩
  rw [nI_clamp (by omega)]
  show post (yp_ex (ef a) s)
  rw [e]
  exact h
theorem yw_push {post : SY → Prop} (wr kn md st ps bs : Int32) (co ef th ta de sp li ch ga pl be : Nat → Int32) {v : Nat} {a : List Nat} (hv : v < 16) (hl : a.length < 31) (hg : yw_AG ga a)
    (h : ∀ ga', yw_AG ga' (mp_pu v a) → post (wr, kn, md, nI (mp_pu v a).length, st, ps, bs, co, ef, th, ta, de, sp, li, ch, ga', pl, be)) : wpY_push post (wr, kn, md, nI a.length, st, ps, bs, co, ef, th, ta, de, sp, li, ch, ga, pl, be) (nI v) := by
  by_cases z : v = 0
  · subst z
    refine br_t (nI_le (Nat.le_refl 0) (by decide)) ?_
    exact h ga hg
  · refine br_f (nI_nle (by omega) (by omega)) ⟨vp_in_nI hl (by decide), ?_⟩
    intro g eg o eo
    subst eg eo
    rw [nI_1, nI_clamp (by omega)]
    have h' := h (upd ga a.length (nI v))
    unfold mp_pu at h'
    rw [if_neg z] at h'
    exact h' ⟨pk_us, yw_AG_upd (Nat.le_refl _) hg⟩
theorem yw_pick {post : Int32 → SY → Prop} (wr kn st ps bs : Int32) (co ef th ta de sp li ch ga pl be : Nat → Int32) {m k j : Nat} {a : List Nat} (hm : m < 8) (hk : k < 256) (ek : sp m = nI k) (hj : j < 15) (hl : a.length + 2 < 31) (hg : yw_AG ga a)
    (h : ∀ ga', yw_AG ga' (mp_ch (yp_P co ef th ta de sp) m a) → post 1 (wr, kn, nI (j + 1), nI (mp_ch (yp_P co ef th ta de sp) m a).length, st, ps, bs, co, ef, th, ta, de, sp, li, upd ch j (nI m), ga', pl, be)) :
    wY_choose_73 post (nI m) wr kn (nI j) (nI a.length) st ps bs co ef th ta de sp li ch ga pl be := by
  have e1 := yp_fs (co := co) (ef := ef) (th := th) (ta := ta) (de := de) ek hk
  have e2 := yp_sn (co := co) (ef := ef) (th := th) (ta := ta) (de := de) ek hk
  have hin : vp_in (nI m) 8 := vp_in_nI hm (by decide)
  have hc : (nI m).toNatClampNeg = m := nI_clamp (by omega)
  have n8 : ¬ nI m = 8 := fun e => by
    have := (nI_eq (a := m) (b := 8) (by omega) (by omega)).mp e
    omega
  refine br_f n8 ⟨vp_in_nI hj (by decide), ?_⟩
  intro c ec d ed
  subst ec ed
  rw [nI_1, nI_clamp (by omega : j < 2 ^ 31)]
  refine ⟨hin, ?_⟩
  rw [hc, e2.2]
  refine yw_push (post := fun u => match u with | (wr, kn, md, op, st, ps, bs, co, ef, th, ta, de, sp, li, ch, ga, pl, be) => _) _ _ _ _ _ _ _ _ _ _ _ _ _ _ _ _ _ (by omega) (by omega) hg ?_
  intro g1 hg1
  refine ⟨hin, ?_⟩
  rw [e1.2]
  have hlen : (mp_pu (k / 16) a).length < 31 := by
    unfold mp_pu
    split
    · omega
    · show a.length + 1 < 31
      omega
  refine yw_push (post := fun u => match u with | (wr, kn, md, op, st, ps, bs, co, ef, th, ta, de, sp, li, ch, ga, pl, be) => _) _ _ _ _ _ _ _ _ _ _ _ _ _ _ _ _ _ (by omega) hlen hg1 ?_
  intro g2 hg2
  have h' := h g2
  unfold mp_ch at h'
  rw [e1.1, e2.1] at h'
  exact h' hg2
theorem yw_choose25 {post : Int32 → SY → Prop} (wr kn md op ps bs : Int32) (co ef th ta de sp li ch ga pl be : Nat → Int32) {t s : Nat} : ∀ k c F, c + k = 8 → k < F →
    ((∀ m, c ≤ m → m < 8 → mp_app (yp_P co ef th ta de sp) t m s = false) → wY_choose_73 post (nI 8) wr kn md op (nI s) ps bs co ef th ta de sp li ch ga pl be) →
    (∀ m, c ≤ m → m < 8 → mp_app (yp_P co ef th ta de sp) t m s = true → (∀ i, c ≤ i → i < m → mp_app (yp_P co ef th ta de sp) t i s = false) → wY_choose_73 post (nI m) wr kn md op (nI s) ps bs co ef th ta de sp li ch ga pl be) →
    wY_choose_25 post (nI t) wr kn md op (nI s) ps bs co ef th ta de sp li ch ga pl be F (nI c) := by
  intro k
  induction k with
  | zero =>
    intro c F h1 h2 h3 h4
    obtain ⟨F, rfl⟩ : ∃ n, F = n + 1 := ⟨F - 1, by omega⟩
    obtain rfl : c = 8 := by omega
    exact br_t (nI_le (Nat.le_refl 8) (by decide)) (h3 (fun m a b => by omega))
  | succ k ih =>
    intro c F h1 h2 h3 h4
    obtain ⟨F, rfl⟩ : ∃ n, F = n + 1 := ⟨F - 1, by omega⟩
    have hin : vp_in (nI c) 8 := vp_in_nI (by omega) (by decide)
    have hc : (nI c).toNatClampNeg = c := nI_clamp (by omega)
    have go : mp_app (yp_P co ef th ta de sp) t c s = false → wY_choose_25 post (nI t) wr kn md op (nI s) ps bs co ef th ta de sp li ch ga pl be F (nI c + 1) := by
      intro hf
      rw [nI_1]
      refine ih (c + 1) F (by omega) (by omega) (fun hall => h3 (fun m a b => ?_)) (fun m a b e hall => h4 m (by omega) b e (fun i p q => ?_))
      · by_cases z : m = c
        · rw [z]; exact hf
        · exact hall m (by omega) b
      · by_cases z : i = c
        · rw [z]; exact hf
        · exact hall i (by omega) q
    refine br_f (nI_ge (b := 8) (by omega) (by decide)) ⟨hin, ?_⟩
    rw [hc]
    have nap : ¬ mp_app (yp_P co ef th ta de sp) t c s = true → mp_app (yp_P co ef th ta de sp) t c s = false := fun z => by
      cases e : mp_app (yp_P co ef th ta de sp) t c s
      · rfl
      · exact absurd e z
    refine br_c (fun z => nm_e (go (nap fun a => (yp_app.mp a).1 z))) (fun z => ⟨hin, ?_⟩)
    refine br_c (fun w => ⟨hin, ?_⟩) (fun w => nm_e (go (nap fun a => w (yp_app.mp a).2.1)))
    apply yw_holds
    by_cases x : yp_hI (de c) s = true
    · rw [if_pos x]
      exact br_f (by decide) (h4 c (Nat.le_refl c) (by omega) (yp_app.mpr ⟨z, w, x⟩) (fun i p q => by omega))
    · rw [if_neg x]
      exact br_t rfl (nm_e (go (nap fun a => x (yp_app.mp a).2.2)))
end
section
theorem yw_nb (b : Bool) : narrow .boolean (.int (if b then 1 else 0)) = .int (if b then 1 else 0) := by cases b <;> rfl
theorem yw_carry (wr bs : Int32) (co ef th ta de sp li be : Nat → Int32) {K : Nat} (hK : K ≤ 15) (hok : yp_ok th ta sp) :
    ∀ (n F : Nat) (post : Int32 → SY → Prop) (ag : List Nat) (s : Nat) (p cs : List Nat) (j : Nat) (ch ga pl : Nat → Int32),
    mp_sa ag + mp_sx ag < n → n < F → mp_av ag → s < 32 → j + mp_sx ag ≤ 15 → p.length + mp_sa ag ≤ 16 →
    yw_AG ga ag → yw_CH pl 0 p → yw_CH ch j cs → K ≤ j + cs.length → (cs ≠ [] → K = j + cs.length) → mp_V (yp_P co ef th ta de sp) n ag s cs →
    (∀ (es : List Nat) (lf : Option (Nat × List Nat)) (op' st' ps' : Int32) (ch' ga' pl' : Nat → Int32),
      mp_R (yp_P co ef th ta de sp) n ag s p cs = lf :: (if es = [] then [] else mp_R (yp_P co ef th ta de sp) n ag s p (mp_inc es)) →
      (es ≠ [] → mp_V (yp_P co ef th ta de sp) n ag s (mp_inc es)) →
      yw_CH ch' j es → (∀ i, i < j → ch' i = ch i) → es.length ≤ mp_sx ag →
      (∀ e q, lf = some (e, q) → e < 32 ∧ st' = nI e ∧ ps' = nI q.length ∧ yw_CH pl' 0 q ∧ q.length ≤ 16) →
      (∀ v a', ag = v :: a' → 8 ≤ v → es = [] → lf = none) →
      post (if lf.isSome then 1 else 0) (wr, nI K, nI (j + es.length), op', st', ps', bs, co, ef, th, ta, de, sp, li, ch', ga', pl', be)) →
    wY_carryOut_30 post F 1 wr (nI K) (nI j) (nI ag.length) (nI s) (nI p.length) bs co ef th ta de sp li ch ga pl be := by
  intro n
  induction n with
  | zero => intro F post ag s p cs j ch ga pl h; omega
  | succ n ih =>
    intro F post ag s p cs j ch ga pl hn hF hav hs hj hp hga hpl hch hK1 hK2 hV H
    obtain ⟨F, rfl⟩ : ∃ n, F = n + 1 := ⟨F - 1, by omega⟩
    cases ag with
    | nil =>
      refine br_t (nI_le (Nat.le_refl 0) (by decide)) ⟨rfl, ?_⟩
      refine H [] (some (s, p)) (nI 0) (nI s) (nI p.length) ch ga pl rfl (fun z => absurd rfl z) trivial (fun _ _ => rfl) (Nat.zero_le _) ?_ ?_
      · intro e q h
        injection h with h
        injection h with h1 h2
        subst h1 h2
        exact ⟨hs, rfl, rfl, hpl, by omega⟩
      · intro v a' h
        exact nomatch h
    | cons v a =>
      have hv := hav v List.mem_cons_self
      have ha : mp_av a := fun w hw => hav w (List.mem_cons_of_mem _ hw)
      have hp1 := mp_an_pos v
      have hs1 : mp_sa (v :: a) = mp_an v + mp_sa a := rfl
      have hx1 : mp_sx (v :: a) = mp_tn v + mp_sx a := rfl
      have hl1 := mp_len_sa a
      have hlen : (v :: a).length = a.length + 1 := rfl
      rw [hlen]
      refine br_f (nI_nle (by omega) (by omega)) (br_f (by decide) (nm_r (nI_pred _) ⟨vp_in_nI (by omega) (by decide), ?_⟩))
      rw [nI_clamp (by omega : a.length < 2 ^ 31), hga.1]
      refine nm_e ?_
      have stop : ∀ (F : Nat) (md op st ps : Int32) (ch ga pl : Nat → Int32), 0 < F → post 0 (wr, nI K, md, op, st, ps, bs, co, ef, th, ta, de, sp, li, ch, ga, pl, be) → wY_carryOut_30 post F 0 wr (nI K) md op st ps bs co ef th ta de sp li ch ga pl be := by
        intro F md op st ps ch ga pl hF hpost
        obtain ⟨F, rfl⟩ : ∃ n, F = n + 1 := ⟨F - 1, by omega⟩
        exact br_c (fun _ => ⟨rfl, hpost⟩) (fun _ => br_t rfl ⟨rfl, hpost⟩)
      by_cases w : v < 8
      · obtain ⟨b, rfl⟩ : ∃ b, v = b + 1 := ⟨v - 1, by omega⟩
        refine br_t (nI_lt (b := 8) w (by decide)) ?_
        rw [nI_pred, nI_clamp (by omega : b < 2 ^ 31)]
        refine ⟨vp_in_nI (by omega) (by decide), ?_⟩
        apply yw_holds
        refine yw_changed _ _ _ _ _ _ _ _ _ _ _ _ _ _ _ _ _ _ (by omega) hs ?_
        refine ⟨vp_in_nI (by omega) (by decide), ?_⟩
        rw [nI_clamp (by omega : p.length < 2 ^ 31)]
        refine nm_e (nm_r (nI_1 _) ?_)
        have hpl' : yw_CH (upd pl p.length (nI b)) 0 (p ++ [b]) := yw_CH_app.mpr ⟨yw_CH_cong (fun i _ h2 => pk_un (by omega)) hpl, by
          have : 0 + p.length = p.length := by omega
          rw [this]; exact pk_us⟩
        have hRa : ∀ cs', mp_R (yp_P co ef th ta de sp) (n + 1) ((b + 1) :: a) s p cs' = if yp_hI (co b) s then mp_R (yp_P co ef th ta de sp) n a (yp_chg (ef b) s) (p ++ [b]) cs' else [none] := by
          intro cs'
          show (if b + 1 < 8 then _ else _) = _
          rw [if_pos w]
          rfl
        by_cases x : yp_hI (co b) s = true
        · rw [if_pos x]
          have hlp : (p ++ [b]).length = p.length + 1 := by simp
          rw [← hlp]
          have hV' : mp_V (yp_P co ef th ta de sp) n a (yp_chg (ef b) s) cs := by
            have hV1 : (if b + 1 < 8 then _ else _) := hV
            rw [if_pos w] at hV1
            rcases hV1 with e | e
            · subst e
              cases n with
              | zero => rfl
              | succ n =>
                cases a with
                | nil => rfl
                | cons v' a' =>
                  show (if v' < 8 then _ else _)
                  split
                  · exact Or.inl rfl
                  · trivial
            · exact e.2
          refine ih F post a (yp_chg (ef b) s) (p ++ [b]) cs j ch ga (upd pl p.length (nI b)) (by omega) (by omega) ha (yp_ex_eq _ hs).2 (by omega) (by omega) hga.2 hpl' hch hK1 hK2 hV' ?_
          intro es lf op' st' ps' ch' ga' pl' r1 r2 r3 r4 r5 r6 r7
          refine H es lf op' st' ps' ch' ga' pl' ?_ ?_ r3 r4 (by omega) r6 ?_
          · rw [hRa, hRa, if_pos x, if_pos x]
            exact r1
          · intro hes
            show (if b + 1 < 8 then _ else _)
            rw [if_pos w]
            exact Or.inr ⟨x, r2 hes⟩
          · intro v' a' e hv' _
            injection e with e1 e2
            omega
        · rw [if_neg x]
          refine stop F _ _ _ _ _ _ _ (by omega) ?_
          refine H [] none _ _ _ _ _ _ ?_ (fun z => absurd rfl z) trivial (fun _ _ => rfl) (Nat.zero_le _) (fun e q h => nomatch h) (fun _ _ _ _ _ => rfl)
          rw [hRa, if_neg x]
          rfl
      · obtain ⟨t, ht, rfl⟩ : ∃ t, t < 4 ∧ v = 8 + t := ⟨v - 8, by omega, by omega⟩
        refine br_f (nI_nlt (b := 8) (by omega) (by omega)) ?_
        have e8 : nI (8 + t) - 8 = nI t := by
          have := pk_sub (a := 8 + t) (b := 8) (by omega)
          have e : 8 + t - 8 = t := by omega
          rw [e] at this
          exact this
        rw [e8]
        have et : 8 + t - 8 = t := by omega
        have noth : wY_choose_73 (fun r_70 u => match u with | (wr, kn, md, op, st, ps, bs, co, ef, th, ta, de, sp, li, ch, ga, pl, be) => (wY_carryOut_30 post F r_70 wr kn md op st ps bs co ef th ta de sp li ch ga pl be)) (nI 8) wr (nI K) (nI j) (nI a.length) (nI s) (nI p.length) bs co ef th ta de sp li ch ga pl be → True := fun _ => trivial
        have fail : mp_R (yp_P co ef th ta de sp) (n + 1) ((8 + t) :: a) s p cs = [none] → wY_choose_73 (fun r_70 u => match u with | (wr, kn, md, op, st, ps, bs, co, ef, th, ta, de, sp, li, ch, ga, pl, be) => (wY_carryOut_30 post F r_70 wr kn md op st ps bs co ef th ta de sp li ch ga pl be)) (nI 8) wr (nI K) (nI j) (nI a.length) (nI s) (nI p.length) bs co ef th ta de sp li ch ga pl be := by
          intro hR
          refine br_t rfl ?_
          refine stop F _ _ _ _ _ _ _ (by omega) ?_
          exact H [] none _ _ _ _ _ _ hR (fun z => absurd rfl z) trivial (fun _ _ => rfl) (Nat.zero_le _) (fun e q h => nomatch h) (fun _ _ _ _ _ => rfl)
        have pick : ∀ m cs', m < 8 → mp_app (yp_P co ef th ta de sp) t m s = true → yw_CH ch (j + 1) cs' → K ≤ j + 1 + cs'.length → (cs' ≠ [] → K = j + 1 + cs'.length) → mp_V (yp_P co ef th ta de sp) n (mp_ch (yp_P co ef th ta de sp) m a) s cs' →
            mp_R (yp_P co ef th ta de sp) (n + 1) ((8 + t) :: a) s p cs = mp_R (yp_P co ef th ta de sp) n (mp_ch (yp_P co ef th ta de sp) m a) s p cs' ++ mp_gl (fun m => mp_app (yp_P co ef th ta de sp) t m s) (fun m => mp_R (yp_P co ef th ta de sp) n (mp_ch (yp_P co ef th ta de sp) m a) s p []) (8 - (m + 1)) (m + 1) →
            wY_choose_73 (fun r_70 u => match u with | (wr, kn, md, op, st, ps, bs, co, ef, th, ta, de, sp, li, ch, ga, pl, be) => (wY_carryOut_30 post F r_70 wr kn md op st ps bs co ef th ta de sp li ch ga pl be)) (nI m) wr (nI K) (nI j) (nI a.length) (nI s) (nI p.length) bs co ef th ta de sp li ch ga pl be := by
          intro m cs' hm hap hc1 hc2 hc3 hV' hR
          obtain ⟨q1, q2, q3⟩ := yp_app.mp hap
          obtain ⟨t', k, ht', e1, hk, e2, s1, s2⟩ := (hok m hm).2 q1
          obtain ⟨g1, g2⟩ := (yp_mok (co := co) (ef := ef) (de := de) hok).2 t m s ht hm hap
          obtain ⟨c1, c2, c3⟩ := mp_ch_ok (P := yp_P co ef th ta de sp) (m := m) ht g1 g2 ha
          refine yw_pick _ _ _ _ _ _ _ _ _ _ _ _ _ _ _ _ hm hk e2 (by omega) (by omega) hga.2 ?_
          intro ga' hga'
          refine ih F post _ s p cs' (j + 1) (upd ch j (nI m)) ga' pl (by omega) (by omega) c1 hs (by omega) (by omega) hga' hpl (yw_CH_cong (fun i h1 _ => pk_un (by omega)) hc1) hc2 hc3 hV' ?_
          intro es lf op' st' ps' ch' ga' pl' r1 r2 r3 r4 r5 r6 r7
          have ej : j + 1 + es.length = j + (m :: es).length := by
            show _ = j + (es.length + 1)
            omega
          rw [ej]
          refine H (m :: es) lf op' st' ps' ch' ga' pl' ?_ ?_ ?_ ?_ ?_ r6 (fun _ _ _ _ z => nomatch z)
          · rw [if_neg (List.cons_ne_nil _ _), hR, r1, mp_R_pick w, et]
            rfl
          · intro _
            exact mp_V_pick w hm (by rw [et]; exact hap) r2
          · exact ⟨(r4 j (by omega)).trans pk_us, r3⟩
          · intro i hi
            exact (r4 i (by omega)).trans (pk_un (by omega))
          · show es.length + 1 ≤ _
            omega
        have run : ∀ c, c ≤ 8 → (cs = [] ∨ cs = [c]) → mp_R (yp_P co ef th ta de sp) (n + 1) ((8 + t) :: a) s p cs = mp_gl (fun m => mp_app (yp_P co ef th ta de sp) t m s) (fun m => mp_R (yp_P co ef th ta de sp) n (mp_ch (yp_P co ef th ta de sp) m a) s p []) (8 - c) c →
            ∃ n25, wY_choose_25 (fun r_70 u => match u with | (wr, kn, md, op, st, ps, bs, co, ef, th, ta, de, sp, li, ch, ga, pl, be) => (wY_carryOut_30 post F r_70 wr kn md op st ps bs co ef th ta de sp li ch ga pl be)) (nI t) wr (nI K) (nI j) (nI a.length) (nI s) (nI p.length) bs co ef th ta de sp li ch ga pl be n25 (nI c) := by
          intro c hc hcs hR
          refine ⟨9, yw_choose25 _ _ _ _ _ _ _ _ _ _ _ _ _ _ _ _ _ (8 - c) c 9 (by omega) (by omega) (fun hall => fail ?_) (fun m h1 h2 h3 h4 => ?_)⟩
          · rw [hR]
            exact mp_gl_none _ _ (fun m a1 a2 => hall m a1 (by omega))
          · have hlen : cs.length ≤ 1 := by
              rcases hcs with e | e
              · rw [e]; exact Nat.zero_le _
              · rw [e]; exact Nat.le_refl _
            refine pick m [] h2 h3 trivial (by show K ≤ j + 1 + 0; omega) (fun z => absurd rfl z) ?_ ?_
            · cases n with
              | zero => rfl
              | succ n =>
                cases mp_ch (yp_P co ef th ta de sp) m a with
                | nil => rfl
                | cons v' a' =>
                  show (if v' < 8 then _ else _)
                  split
                  · exact Or.inl rfl
                  · trivial
            · rw [hR]
              have e := mp_gl_some (q := fun m => mp_app (yp_P co ef th ta de sp) t m s) (f := fun m => mp_R (yp_P co ef th ta de sp) n (mp_ch (yp_P co ef th ta de sp) m a) s p []) h3 (8 - c) c h1 (by omega) h4
              have e2 : c + (8 - c) - (m + 1) = 8 - (m + 1) := by omega
              rw [e2] at e
              exact e
        have hRt : ∀ cs', mp_R (yp_P co ef th ta de sp) (n + 1) ((8 + t) :: a) s p cs' = (match cs' with
            | [] => mp_gl (fun m => mp_app (yp_P co ef th ta de sp) t m s) (fun m => mp_R (yp_P co ef th ta de sp) n (mp_ch (yp_P co ef th ta de sp) m a) s p []) 8 0
            | [c] => mp_gl (fun m => mp_app (yp_P co ef th ta de sp) t m s) (fun m => mp_R (yp_P co ef th ta de sp) n (mp_ch (yp_P co ef th ta de sp) m a) s p []) (8 - c) c
            | c :: c' :: cs' => mp_R (yp_P co ef th ta de sp) n (mp_ch (yp_P co ef th ta de sp) c a) s p (c' :: cs') ++ mp_gl (fun m => mp_app (yp_P co ef th ta de sp) t m s) (fun m => mp_R (yp_P co ef th ta de sp) n (mp_ch (yp_P co ef th ta de sp) m a) s p []) (8 - (c + 1)) (c + 1)) := by
          intro cs'
          show (if 8 + t < 8 then _ else _) = _
          rw [if_neg w, et]
          rfl
        match cs, hch, hK1, hK2, hV, run, pick, hRt with
        | [], hch, hK1, hK2, hV, run, pick, hRt =>
          have hk0 : K ≤ j := hK1
          exact br_t (nI_le hk0 (by omega)) (run 0 (by omega) (Or.inl rfl) (hRt []))
        | [c], hch, hK1, hK2, hV, run, pick, hRt =>
          have hk0 : K = j + 1 := hK2 (List.cons_ne_nil _ _)
          have hV1 : (if 8 + t < 8 then _ else _) := hV
          rw [if_neg w] at hV1
          have hc8 : c ≤ 8 := hV1
          refine br_f (nI_ge (by omega) (by omega)) ⟨vp_in_nI (by omega) (by decide), ?_⟩
          rw [nI_clamp (by omega : j < 2 ^ 31), hch.1]
          exact nm_e (run c hc8 (Or.inr rfl) (hRt [c]))
        | c :: c' :: cs', hch, hK1, hK2, hV, run, pick, hRt =>
          have hk0 : K = j + (cs'.length + 1 + 1) := hK2 (List.cons_ne_nil _ _)
          have hV1 : (if 8 + t < 8 then _ else _) := hV
          rw [if_neg w] at hV1
          obtain ⟨hc8, hap, hV2⟩ : c < 8 ∧ mp_app (yp_P co ef th ta de sp) (8 + t - 8) c s = true ∧ mp_V (yp_P co ef th ta de sp) n (mp_ch (yp_P co ef th ta de sp) c a) s (c' :: cs') := hV1
          rw [et] at hap
          refine br_f (nI_ge (by omega) (by omega)) ⟨vp_in_nI (by omega) (by decide), ?_⟩
          rw [nI_clamp (by omega : j < 2 ^ 31), hch.1]
          refine nm_e ⟨9, yw_choose25 _ _ _ _ _ _ _ _ _ _ _ _ _ _ _ _ _ (8 - c) c 9 (by omega) (by omega) (fun hall => ?_) (fun m h1 h2 h3 h4 => ?_)⟩
          · have := hall c (Nat.le_refl c) hc8
            rw [hap] at this
            exact nomatch this
          · by_cases z : m = c
            · subst z
              refine pick m (c' :: cs') hc8 hap hch.2 (by show K ≤ j + 1 + (cs'.length + 1); omega) (fun _ => by show K = j + 1 + (cs'.length + 1); omega) hV2 (hRt _)
            · have := h4 c (Nat.le_refl c) (by omega)
              rw [hap] at this
              exact nomatch this
end
section
theorem yw_V0 (P : mp_PB) (t s : Nat) : mp_V P 40 [8 + t] s [] := by
  show (if 8 + t < 8 then _ else _)
  rw [if_neg (by omega)]
  trivial
theorem yw_sx4 : ∀ t, t < 4 → mp_sx [8 + t] ≤ 15 ∧ mp_sa [8 + t] ≤ 16 ∧ mp_sa [8 + t] + mp_sx [8 + t] < 40 := by decide
theorem yw_carryOut {post : Int32 → SY → Prop} (wr md op st ps bs : Int32) (co ef th ta de sp li ch ga pl be : Nat → Int32) {t s : Nat} {cs : List Nat} (ht : t < 4) (hs : s < 32) (hok : yp_ok th ta sp) (hcs : cs.length ≤ 15) (hch : yw_CH ch 0 cs) (hV : mp_V (yp_P co ef th ta de sp) 40 [8 + t] s cs)
    (H : ∀ (es : List Nat) (lf : Option (Nat × List Nat)) (op' st' ps' : Int32) (ch' ga' pl' : Nat → Int32),
      mp_R (yp_P co ef th ta de sp) 40 [8 + t] s [] cs = lf :: (if es = [] then [] else mp_R (yp_P co ef th ta de sp) 40 [8 + t] s [] (mp_inc es)) →
      (es ≠ [] → mp_V (yp_P co ef th ta de sp) 40 [8 + t] s (mp_inc es)) →
      yw_CH ch' 0 es → es.length ≤ 15 →
      (∀ e q, lf = some (e, q) → e < 32 ∧ st' = nI e ∧ ps' = nI q.length ∧ yw_CH pl' 0 q ∧ q.length ≤ 16) →
      (es = [] → lf = none) →
      post (if lf.isSome then 1 else 0) (wr, nI cs.length, nI es.length, op', st', ps', bs, co, ef, th, ta, de, sp, li, ch', ga', pl', be)) :
    wpY_carryOut post (wr, nI cs.length, md, op, st, ps, bs, co, ef, th, ta, de, sp, li, ch, ga, pl, be) (nI t) (nI s) := by
  unfold wpY_carryOut
  dsimp only
  have e8 : (8 : Int32) + nI t = nI (8 + t) := nI_add 8 t
  rw [e8]
  have hpu : mp_pu (8 + t) [] = [8 + t] := if_neg (by omega)
  obtain ⟨b1, b2, b3⟩ := yw_sx4 t ht
  refine yw_push (post := fun u => match u with | (wr, kn, md, op, st, ps, bs, co, ef, th, ta, de, sp, li, ch, ga, pl, be) => ∃ n30 : Nat, wY_carryOut_30 post n30 1 wr kn md op st ps bs co ef th ta de sp li ch ga pl be) (a := []) _ _ _ _ _ _ _ _ _ _ _ _ _ _ _ _ _ (by omega) (by decide) trivial ?_
  intro ga' hga'
  rw [hpu] at hga' ⊢
  refine ⟨41, yw_carry _ _ _ _ _ _ _ _ _ _ (K := cs.length) hcs hok 40 41 post [8 + t] s [] cs 0 ch ga' pl b3 (by omega) ?_ hs (by omega) (by show 0 + _ ≤ 16; omega) hga' trivial hch (by omega) (fun _ => by omega) hV ?_⟩
  · intro v hv
    rw [List.mem_singleton] at hv
    omega
  · intro es lf op' st' ps' ch' ga' pl' r1 r2 r3 r4 r5 r6 r7
    rw [Nat.zero_add]
    exact H es lf op' st' ps' ch' ga' pl' r1 r2 r3 (by omega) r6 (r7 (8 + t) [] rfl (by omega))
/-- the odometer has the ways M still to tell -/
def yw_OM (P : mp_PB) (t s : Nat) (M : List (Nat × List Nat)) (kn : Int32) (ch : Nat → Int32) : Prop :=
  (kn = -1 ∧ M = []) ∨ ∃ cs : List Nat, cs.length ≤ 15 ∧ kn = nI cs.length ∧ yw_CH ch 0 cs ∧ mp_V P 40 [8 + t] s cs ∧ M = (mp_R P 40 [8 + t] s [] cs).filterMap id
theorem yw_OM0 {co ef th ta de sp : Nat → Int32} (hok : yp_ok th ta sp) {t : Nat} (ht : t < 4) (s : Nat) (ch : Nat → Int32) : yw_OM (yp_P co ef th ta de sp) t s (mp_ws (yp_P co ef th ta de sp) (8 + t) s) 0 ch :=
  Or.inr ⟨[], Nat.zero_le _, rfl, trivial, yw_V0 _ t s, (mp_R_ws (yp_mok hok) ht s).symm⟩
theorem yw_next16 {post : Int32 → SY → Prop} (wr bs : Int32) (co ef th ta de sp li be : Nat → Int32) {t s : Nat} (ht : t < 4) (hs : s < 32) (hok : yp_ok th ta sp) :
    ∀ (N F : Nat) (cs : List Nat) (md op st ps : Int32) (ch ga pl : Nat → Int32),
    (mp_R (yp_P co ef th ta de sp) 40 [8 + t] s [] cs).length ≤ N → N < F → cs.length ≤ 15 → yw_CH ch 0 cs → mp_V (yp_P co ef th ta de sp) 40 [8 + t] s cs →
    ((mp_R (yp_P co ef th ta de sp) 40 [8 + t] s [] cs).filterMap id = [] → ∀ (kn md op st ps : Int32) (ch ga pl : Nat → Int32), post 0 (wr, kn, md, op, st, ps, bs, co, ef, th, ta, de, sp, li, ch, ga, pl, be)) →
    (∀ e q M', (mp_R (yp_P co ef th ta de sp) 40 [8 + t] s [] cs).filterMap id = (e, q) :: M' → e < 32 → q.length ≤ 16 → ∀ (kn md op : Int32) (ch ga pl : Nat → Int32), yw_OM (yp_P co ef th ta de sp) t s M' kn ch → yw_CH pl 0 q → post 1 (wr, kn, md, op, nI e, nI q.length, bs, co, ef, th, ta, de, sp, li, ch, ga, pl, be)) →
    wY_next_16 post (nI t) (nI s) F 0 1 wr (nI cs.length) md op st ps bs co ef th ta de sp li ch ga pl be := by
  intro N
  induction N with
  | zero =>
    intro F cs md op st ps ch ga pl hN hF hcs hch hV h0 h1
    obtain ⟨F, rfl⟩ : ∃ n, F = n + 1 := ⟨F - 1, by omega⟩
    refine br_f (by decide) (br_t rfl ?_)
    refine yw_carryOut _ _ _ _ _ _ _ _ _ _ _ _ _ _ _ _ _ ht hs hok hcs hch hV ?_
    intro es lf op' st' ps' ch' ga' pl' r1 r2 r3 r4 r5 r6
    rw [r1] at hN
    exact absurd hN (Nat.not_succ_le_zero _)
  | succ N ih =>
    intro F cs md op st ps ch ga pl hN hF hcs hch hV h0 h1
    obtain ⟨F, rfl⟩ : ∃ n, F = n + 1 := ⟨F - 1, by omega⟩
    obtain ⟨F, rfl⟩ : ∃ n, F = n + 1 := ⟨F - 1, by omega⟩
    refine br_f (by decide) (br_t rfl ?_)
    refine yw_carryOut _ _ _ _ _ _ _ _ _ _ _ _ _ _ _ _ _ ht hs hok hcs hch hV ?_
    intro es lf op' st' ps' ch' ga' pl' r1 r2 r3 r4 r5 r6
    rw [r1] at hN h0 h1
    by_cases z : es = []
    · have hl := r6 z
      subst z hl
      refine br_t (nI_le (Nat.le_refl 0) (by decide)) ?_
      refine br_t rfl ?_
      refine br_t rfl ?_
      exact br_t rfl ⟨rfl, h0 rfl _ _ _ _ _ _ _ _⟩
    · rw [if_neg z] at hN h0 h1
      have hpos : 0 < es.length := List.length_pos_iff.mpr z
      have e1 : nI es.length - 1 = nI (es.length - 1) := by
        obtain ⟨l, hl⟩ : ∃ l, es.length = l + 1 := ⟨es.length - 1, by omega⟩
        rw [hl, nI_pred]
        rfl
      have hin : vp_in (nI (es.length - 1)) 15 := vp_in_nI (by omega) (by decide)
      have hinc := yw_CH_inc z r3
      rw [Nat.zero_add] at hinc
      refine br_f (nI_nle hpos (by omega)) (br_f (by decide) ?_)
      rw [e1, nI_clamp (by omega : es.length - 1 < 2 ^ 31)]
      refine ⟨hin, hin, nm_e ?_⟩
      cases lf with
      | none =>
        have := ih (F + 1) (mp_inc es) (nI es.length) op' st' ps' _ ga' pl' (Nat.le_of_succ_le_succ hN) (by omega) (by rw [mp_inc_len]; exact r4) hinc (r2 z) h0 h1
        rw [mp_inc_len] at this
        exact this
      | some x =>
        obtain ⟨e, q⟩ := x
        obtain ⟨q1, q2, q3, q4, q5⟩ := r5 e q rfl
        subst q2 q3
        rw [show (if (some (e, q) : Option (Nat × List Nat)).isSome = true then (1 : Int32) else 0) = 1 from rfl]
        refine br_f (by decide) (br_f (by decide) ?_)
        refine br_f (by decide) ⟨rfl, ?_⟩
        refine h1 e q _ rfl q1 q5 _ _ _ _ _ _ (Or.inr ⟨mp_inc es, ?_, ?_, hinc, r2 z, rfl⟩) q4
        · rw [mp_inc_len]; exact r4
        · rw [mp_inc_len]
theorem yw_next {post : Int32 → SY → Prop} (wr kn md op st ps bs : Int32) (co ef th ta de sp li ch ga pl be : Nat → Int32) {t s : Nat} (ht : t < 4) (hs : s < 32) (hok : yp_ok th ta sp) {M : List (Nat × List Nat)} (hM : yw_OM (yp_P co ef th ta de sp) t s M kn ch)
    (h0 : M = [] → ∀ (kn md op st ps : Int32) (ch ga pl : Nat → Int32), post 0 (wr, kn, md, op, st, ps, bs, co, ef, th, ta, de, sp, li, ch, ga, pl, be))
    (h1 : ∀ e q M', M = (e, q) :: M' → e < 32 → q.length ≤ 16 → ∀ (kn md op : Int32) (ch ga pl : Nat → Int32), yw_OM (yp_P co ef th ta de sp) t s M' kn ch → yw_CH pl 0 q → post 1 (wr, kn, md, op, nI e, nI q.length, bs, co, ef, th, ta, de, sp, li, ch, ga, pl, be)) :
    wpY_next post (wr, kn, md, op, st, ps, bs, co, ef, th, ta, de, sp, li, ch, ga, pl, be) (nI t) (nI s) := by
  rcases hM with ⟨e1, e2⟩ | ⟨cs, c1, c2, c3, c4, c5⟩
  · subst e1
    refine br_t (by decide) ⟨1, ?_⟩
    refine br_t rfl ?_
    exact br_t rfl ⟨rfl, h0 e2 _ _ _ _ _ _ _ _⟩
  · subst c2 c5
    refine br_f (nI_pos (by omega)) ⟨(mp_R (yp_P co ef th ta de sp) 40 [8 + t] s [] cs).length + 1, ?_⟩
    exact yw_next16 wr bs co ef th ta de sp li be ht hs hok _ _ cs md op st ps ch ga pl (Nat.le_refl _) (Nat.lt_succ_self _) c1 c3 c4 h0 h1
/-- counting -/
def mp_ct (e : Nat) : List (Nat × List Nat) → Nat
  | [] => 0
  | x :: l => (if x.1 = e then 1 else 0) + mp_ct e l
theorem yw_count_a {post : Int32 → SY → Prop} (wr bs : Int32) (co ef th ta de sp li be : Nat → Int32) {t s : Nat} (ht : t < 4) (hs : s < 32) (hok : yp_ok th ta sp) :
    ∀ (M : List (Nat × List Nat)) (F n : Nat) (kn md op st ps : Int32) (ch ga pl : Nat → Int32), M.length < F → yw_OM (yp_P co ef th ta de sp) t s M kn ch →
    (∀ (kn md op st ps : Int32) (ch ga pl : Nat → Int32), post (nI (n + M.length)) (wr, kn, md, op, st, ps, bs, co, ef, th, ta, de, sp, li, ch, ga, pl, be)) →
    wY_count_8 post (nI t) (nI s) (-1) F (nI n) wr kn md op st ps bs co ef th ta de sp li ch ga pl be := by
  intro M
  induction M with
  | nil =>
    intro F n kn md op st ps ch ga pl hF hM H
    obtain ⟨F, rfl⟩ : ∃ n, F = n + 1 := ⟨F - 1, by omega⟩
    refine yw_next _ _ _ _ _ _ _ _ _ _ _ _ _ _ _ _ _ _ ht hs hok hM (fun _ kn md op st ps ch ga pl => ?_) (fun e q M' h => nomatch h)
    exact br_t rfl (H _ _ _ _ _ _ _ _)
  | cons x M ih =>
    intro F n kn md op st ps ch ga pl hF hM H
    have hl : (x :: M).length = M.length + 1 := rfl
    obtain ⟨F, rfl⟩ : ∃ n, F = n + 1 := ⟨F - 1, by omega⟩
    refine yw_next _ _ _ _ _ _ _ _ _ _ _ _ _ _ _ _ _ _ ht hs hok hM (fun h => nomatch h) ?_
    intro e q M' h he hq kn md op ch ga pl hM' hpl
    injection h with h1 h2
    subst h1 h2
    refine br_f (by decide) (br_t (by decide) (nm_r (nI_1 _) ?_))
    refine ih F (n + 1) _ _ _ _ _ _ _ _ (by omega) hM' ?_
    intro kn md op st ps ch ga pl
    have := H kn md op st ps ch ga pl
    rw [hl] at this
    have e : n + 1 + M.length = n + (M.length + 1) := by omega
    rw [e]
    exact this
theorem yw_count_e {post : Int32 → SY → Prop} (wr bs : Int32) (co ef th ta de sp li be : Nat → Int32) {t s d : Nat} (ht : t < 4) (hs : s < 32) (hd : d < 32) (hok : yp_ok th ta sp) :
    ∀ (M : List (Nat × List Nat)) (F n : Nat) (kn md op st ps : Int32) (ch ga pl : Nat → Int32), M.length < F → yw_OM (yp_P co ef th ta de sp) t s M kn ch →
    (∀ (kn md op st ps : Int32) (ch ga pl : Nat → Int32), post (nI (n + mp_ct d M)) (wr, kn, md, op, st, ps, bs, co, ef, th, ta, de, sp, li, ch, ga, pl, be)) →
    wY_count_8 post (nI t) (nI s) (nI d) F (nI n) wr kn md op st ps bs co ef th ta de sp li ch ga pl be := by
  intro M
  induction M with
  | nil =>
    intro F n kn md op st ps ch ga pl hF hM H
    obtain ⟨F, rfl⟩ : ∃ n, F = n + 1 := ⟨F - 1, by omega⟩
    refine yw_next _ _ _ _ _ _ _ _ _ _ _ _ _ _ _ _ _ _ ht hs hok hM (fun _ kn md op st ps ch ga pl => ?_) (fun e q M' h => nomatch h)
    exact br_t rfl (H _ _ _ _ _ _ _ _)
  | cons x M ih =>
    intro F n kn md op st ps ch ga pl hF hM H
    have hl : (x :: M).length = M.length + 1 := rfl
    have hc : mp_ct d (x :: M) = (if x.1 = d then 1 else 0) + mp_ct d M := rfl
    obtain ⟨F, rfl⟩ : ∃ n, F = n + 1 := ⟨F - 1, by omega⟩
    refine yw_next _ _ _ _ _ _ _ _ _ _ _ _ _ _ _ _ _ _ ht hs hok hM (fun h => nomatch h) ?_
    intro e q M' h he hq kn md op ch ga pl hM' hpl
    injection h with h1 h2
    subst h1 h2
    refine br_f (by decide) (br_f (nI_pos (by omega)) (pk_eq e d (fun z => nm_r (nI_1 _) ?_) (fun z => ?_)))
    · refine ih F (n + 1) _ _ _ _ _ _ _ _ (by omega) hM' ?_
      intro kn md op st ps ch ga pl
      have := H kn md op st ps ch ga pl
      rw [hc, if_pos z] at this
      have e : n + 1 + mp_ct d M = n + (1 + mp_ct d M) := by omega
      rw [e]
      exact this
    · refine ih F n _ _ _ _ _ _ _ _ (by omega) hM' ?_
      intro kn md op st ps ch ga pl
      have := H kn md op st ps ch ga pl
      rw [hc, if_neg z, Nat.zero_add] at this
      exact this
/-- the least end from d on -/
def mp_lo (d : Nat) : Option Nat → List (Nat × List Nat) → Option Nat
  | o, [] => o
  | o, x :: M => mp_lo d (if x.1 < d then o else match o with | none => some x.1 | some l => if l ≤ x.1 then some l else some x.1) M
def mp_nO : Option Nat → Int32
  | none => -1
  | some l => nI l
theorem yw_nextEnd34 {post : Int32 → SY → Prop} (wr bs : Int32) (co ef th ta de sp li be : Nat → Int32) {t s d : Nat} (ht : t < 4) (hs : s < 32) (hd : d < 32) (hok : yp_ok th ta sp) :
    ∀ (M : List (Nat × List Nat)) (F : Nat) (o : Option Nat) (kn md op st ps : Int32) (ch ga pl : Nat → Int32), M.length < F → (∀ l, o = some l → l < 32) → yw_OM (yp_P co ef th ta de sp) t s M kn ch →
    (∀ (kn md op st ps : Int32) (ch ga pl : Nat → Int32), post (mp_nO (mp_lo d o M)) (wr, kn, md, op, st, ps, bs, co, ef, th, ta, de, sp, li, ch, ga, pl, be)) →
    wY_nextEnd_34 post (nI t) (nI s) (nI d) F (mp_nO o) wr kn md op st ps bs co ef th ta de sp li ch ga pl be := by
  intro M
  induction M with
  | nil =>
    intro F o kn md op st ps ch ga pl hF ho hM H
    obtain ⟨F, rfl⟩ : ∃ n, F = n + 1 := ⟨F - 1, by omega⟩
    refine yw_next _ _ _ _ _ _ _ _ _ _ _ _ _ _ _ _ _ _ ht hs hok hM (fun _ kn md op st ps ch ga pl => ?_) (fun e q M' h => nomatch h)
    exact br_t rfl (H _ _ _ _ _ _ _ _)
  | cons x M ih =>
    intro F o kn md op st ps ch ga pl hF ho hM H
    have hl : (x :: M).length = M.length + 1 := rfl
    obtain ⟨F, rfl⟩ : ∃ n, F = n + 1 := ⟨F - 1, by omega⟩
    refine yw_next _ _ _ _ _ _ _ _ _ _ _ _ _ _ _ _ _ _ ht hs hok hM (fun h => nomatch h) ?_
    intro e q M' h he hq kn md op ch ga pl hM' hpl
    injection h with h1 h2
    subst h1 h2
    have hstep : ∀ o', (if e < d then o else match o with | none => some e | some l => if l ≤ e then some l else some e) = o' → (∀ l, o' = some l → l < 32) →
        wY_nextEnd_34 post (nI t) (nI s) (nI d) F (mp_nO o') wr kn md op (nI e) (nI q.length) bs co ef th ta de sp li ch ga pl be := by
      intro o' ho' hb
      refine ih F o' _ _ _ _ _ _ _ _ (by omega) hb hM' ?_
      intro kn md op st ps ch ga pl
      have := H kn md op st ps ch ga pl
      subst ho'
      exact this
    refine br_f (by decide) (pk_lt e d (fun z => hstep o (if_pos z) ho) (fun z => ?_))
    have hz : ¬ e < d := by omega
    cases o with
    | none =>
      refine br_t (by decide) ?_
      exact hstep (some e) (if_neg hz) (fun l hl => by injection hl with hl; omega)
    | some l =>
      have hl32 := ho l rfl
      refine br_f (nI_pos (by omega)) (pk_le l e (fun y => ?_) (fun y => ?_))
      · exact hstep (some l) (by rw [if_neg hz]; exact if_pos y) (fun l' hl' => by injection hl' with hl'; omega)
      · exact hstep (some e) (by rw [if_neg hz]; exact if_neg (by omega)) (fun l' hl' => by injection hl' with hl'; omega)
/-- the first plan -/
def mp_lx : List Nat → List Nat → Bool
  | a :: p, b :: q => if a = b then mp_lx p q else decide (a < b)
  | _, _ => false
def mp_bt (q : List Nat) : Option (List Nat) → Bool
  | none => true
  | some b => if q.length = b.length then mp_lx q b else decide (q.length < b.length)
def mp_be (d : Nat) : Option (List Nat) → List (Nat × List Nat) → Option (List Nat)
  | o, [] => o
  | o, x :: M => mp_be d (if x.1 = d ∧ mp_bt x.2 o = true then some x.2 else o) M
theorem yw_better44 {post : Int32 → Prop} (wr kn md op st bs : Int32) (co ef th ta de sp li ch ga pl be : Nat → Int32) {L : Nat} (hL : L ≤ 16) : ∀ (q b : List Nat) (i F : Nat), i + q.length = L → q.length = b.length → q.length < F → yw_CH pl i q → yw_CH be i b → (∀ a, a ∈ q → a < 8) → (∀ a, a ∈ b → a < 8) →
    post (if mp_lx q b then 1 else 0) → wY_better_44 post wr kn md op st (nI L) bs co ef th ta de sp li ch ga pl be F (nI i) := by
  intro q
  induction q with
  | nil =>
    intro b i F h1 h2 hF _ _ _ _ H
    obtain ⟨F, rfl⟩ : ∃ n, F = n + 1 := ⟨F - 1, by omega⟩
    have h1' : i + 0 = L := h1
    exact br_t (nI_le (by omega) (by omega)) (by cases b <;> exact H)
  | cons a q ih =>
    intro b i F h1 h2 hF c1 c2 d1 d2 H
    obtain ⟨F, rfl⟩ : ∃ n, F = n + 1 := ⟨F - 1, by omega⟩
    have h1' : i + (q.length + 1) = L := h1
    have hF' : q.length + 1 < F + 1 := hF
    cases b with
    | nil => exact nomatch h2
    | cons b r =>
      have h2' : q.length + 1 = r.length + 1 := h2
      have ha := d1 a List.mem_cons_self
      have hb := d2 b List.mem_cons_self
      have hin : vp_in (nI i) 16 := vp_in_nI (by omega) (by decide)
      refine br_f (nI_ge (by omega) (by omega)) ⟨hin, hin, ?_⟩
      rw [nI_clamp (by omega : i < 2 ^ 31), c1.1, c2.1]
      refine pk_eq a b (fun z => nm_r (nI_1 _) ?_) (fun z => ⟨hin, hin, pk_le b a (fun y => ?_) (fun y => ?_)⟩)
      · refine ih r (i + 1) F (by omega) (by omega) (by omega) c1.2 c2.2 (fun a h => d1 a (List.mem_cons_of_mem _ h)) (fun a h => d2 a (List.mem_cons_of_mem _ h)) ?_
        have : mp_lx (a :: q) (b :: r) = mp_lx q r := if_pos z
        rw [this] at H
        exact H
      · have : mp_lx (a :: q) (b :: r) = decide (a < b) := if_neg z
        rw [this, decide_eq_false (by omega)] at H
        exact H
      · have : mp_lx (a :: q) (b :: r) = decide (a < b) := if_neg z
        rw [this, decide_eq_true (by omega)] at H
        exact H
def mp_nS : Option (List Nat) → Int32
  | none => -1
  | some b => nI b.length
def yw_BE (be : Nat → Int32) : Option (List Nat) → Prop
  | none => True
  | some b => b.length ≤ 16 ∧ yw_CH be 0 b ∧ ∀ a, a ∈ b → a < 8
theorem yw_better {post : Int32 → Prop} (wr kn md op st : Int32) (co ef th ta de sp li ch ga pl be : Nat → Int32) {q : List Nat} {o : Option (List Nat)} (hq : q.length ≤ 16) (hpl : yw_CH pl 0 q) (hd : ∀ a, a ∈ q → a < 8) (ho : yw_BE be o)
    (H : post (if mp_bt q o then 1 else 0)) : wpY_better post (wr, kn, md, op, st, nI q.length, mp_nS o, co, ef, th, ta, de, sp, li, ch, ga, pl, be) := by
  cases o with
  | none =>
    refine br_t (by decide) ?_
    exact br_t (by decide) H
  | some b =>
    obtain ⟨b1, b2, b3⟩ := ho
    refine br_f (nI_pos (by omega)) (pk_eq q.length b.length (fun z => ?_) (fun z => ?_))
    · have : mp_bt q (some b) = mp_lx q b := if_pos z
      rw [this] at H
      exact ⟨q.length + 1, yw_better44 _ _ _ _ _ _ _ _ _ _ _ _ _ _ _ _ _ hq q b 0 _ (by omega) z (by omega) hpl b2 hd b3 H⟩
    · have e : mp_bt q (some b) = decide (q.length < b.length) := if_neg z
      rw [e] at H
      refine br_f (nI_pos (by omega)) (pk_le b.length q.length (fun y => ?_) (fun y => ?_))
      · rw [decide_eq_false (by omega)] at H
        exact H
      · rw [decide_eq_true (by omega)] at H
        exact H
theorem yw_search45 {post : SY → Prop} {J : Int32 → Int32 → Int32 → Int32 → Int32 → Int32 → Int32 → (Nat → Int32) → (Nat → Int32) → (Nat → Int32) → (Nat → Int32) → (Nat → Int32) → (Nat → Int32) → (Nat → Int32) → (Nat → Int32) → (Nat → Int32) → (Nat → Int32) → (Nat → Int32) → Prop} {x1 x2 x3 : Int32} (wr kn md op st bs : Int32) (co ef th ta de sp li ch ga pl : Nat → Int32) {L : Nat} (hL : L ≤ 16) :
    ∀ (k i F : Nat) (be : Nat → Int32), i + k = L → k < F → (∀ j, j < i → be j = pl j) → (∀ be' : Nat → Int32, (∀ j, j < L → be' j = pl j) → J wr kn md op st (nI L) bs co ef th ta de sp li ch ga pl be') →
    wY_search_45 post J x1 x2 x3 wr kn md op st (nI L) bs F (nI i) co ef th ta de sp li ch ga pl be := by
  intro k
  induction k with
  | zero =>
    intro i F be h1 hF hb H
    obtain ⟨F, rfl⟩ : ∃ n, F = n + 1 := ⟨F - 1, by omega⟩
    exact br_t (nI_le (by omega) (by omega)) (H be (fun j hj => hb j (by omega)))
  | succ k ih =>
    intro i F be h1 hF hb H
    obtain ⟨F, rfl⟩ : ∃ n, F = n + 1 := ⟨F - 1, by omega⟩
    have hin : vp_in (nI i) 16 := vp_in_nI (by omega) (by decide)
    refine br_f (nI_ge (by omega) (by omega)) ⟨hin, hin, ?_⟩
    rw [nI_clamp (by omega : i < 2 ^ 31)]
    refine nm_e (nm_r (nI_1 _) (ih (i + 1) F _ (by omega) (by omega) ?_ H))
    intro j hj
    by_cases z : j = i
    · subst z
      exact pk_us
    · exact (pk_un z).trans (hb j (by omega))
theorem yw_search10 {post : SY → Prop} (wr : Int32) (co ef th ta de sp li : Nat → Int32) {t s d : Nat} (ht : t < 4) (hs : s < 32) (hd : d < 32) (hok : yp_ok th ta sp) :
    ∀ (M : List (Nat × List Nat)) (F : Nat) (o : Option (List Nat)) (kn md op st ps : Int32) (ch ga pl be : Nat → Int32), M.length < F → yw_BE be o → (∀ x, x ∈ M → ∀ a, a ∈ x.2 → a < 8) → yw_OM (yp_P co ef th ta de sp) t s M kn ch →
    (∀ (kn md op st ps : Int32) (ch ga pl be : Nat → Int32), yw_BE be (mp_be d o M) → post (wr, kn, md, op, st, ps, mp_nS (mp_be d o M), co, ef, th, ta, de, sp, li, ch, ga, pl, be)) →
    wY_search_10 post (nI t) (nI s) (nI d) F wr kn md op st ps (mp_nS o) co ef th ta de sp li ch ga pl be := by
  intro M
  induction M with
  | nil =>
    intro F o kn md op st ps ch ga pl be hF ho hdg hM H
    obtain ⟨F, rfl⟩ : ∃ n, F = n + 1 := ⟨F - 1, by omega⟩
    refine yw_next _ _ _ _ _ _ _ _ _ _ _ _ _ _ _ _ _ _ ht hs hok hM (fun _ kn md op st ps ch ga pl => ?_) (fun e q M' h => nomatch h)
    exact br_t rfl (H _ _ _ _ _ _ _ _ _ ho)
  | cons x M ih =>
    intro F o kn md op st ps ch ga pl be hF ho hdg hM H
    have hl : (x :: M).length = M.length + 1 := rfl
    obtain ⟨F, rfl⟩ : ∃ n, F = n + 1 := ⟨F - 1, by omega⟩
    refine yw_next _ _ _ _ _ _ _ _ _ _ _ _ _ _ _ _ _ _ ht hs hok hM (fun h => nomatch h) ?_
    intro e q M' h he hq kn md op ch ga pl hM' hpl
    injection h with h1 h2
    subst h1 h2
    have hdq := hdg (e, q) List.mem_cons_self
    have hdM : ∀ x, x ∈ M → ∀ a, a ∈ x.2 → a < 8 := fun x hx => hdg x (List.mem_cons_of_mem _ hx)
    have keep : (¬ (e = d ∧ mp_bt q o = true)) → wY_search_10 post (nI t) (nI s) (nI d) F wr kn md op (nI e) (nI q.length) (mp_nS o) co ef th ta de sp li ch ga pl be := by
      intro hno
      refine ih F o _ _ _ _ _ _ _ _ _ (by omega) ho hdM hM' ?_
      intro kn md op st ps ch ga pl be hbe
      have := H kn md op st ps ch ga pl be
      have e2 : mp_be d o ((e, q) :: M) = mp_be d o M := by
        show mp_be d (if e = d ∧ mp_bt q o = true then some q else o) M = _
        rw [if_neg hno]
      rw [e2] at this
      exact this hbe
    refine br_f (by decide) (pk_eq e d (fun z => ?_) (fun z => keep (fun h => z h.1)))
    refine yw_better _ _ _ _ _ _ _ _ _ _ _ _ _ _ _ _ hq hpl hdq ho ?_
    by_cases y : mp_bt q o = true
    · rw [if_pos y]
      refine br_f (by decide) ⟨q.length + 1, yw_search45 _ _ _ _ _ _ _ _ _ _ _ _ _ _ _ _ hq q.length 0 _ _ (by omega) (by omega) (fun j hj => by omega) ?_⟩
      intro be' hbe'
      have hB : yw_BE be' (some q) := ⟨hq, yw_CH_cong (fun i _ h2 => hbe' i (by omega)) hpl, hdq⟩
      refine ih F (some q) _ _ _ _ _ _ _ _ _ (by omega) hB hdM hM' ?_
      intro kn md op st ps ch ga pl be hbe
      have := H kn md op st ps ch ga pl be
      have e2 : mp_be d o ((e, q) :: M) = mp_be d (some q) M := by
        show mp_be d (if e = d ∧ mp_bt q o = true then some q else o) M = _
        rw [if_pos ⟨z, y⟩]
      rw [e2] at this
      exact this hbe
    · rw [if_neg y]
      exact br_t rfl (keep (fun h => y h.2))
end
section
theorem yw_task {post : Int32 → Prop} {u : SY} {t : Nat} (ht : t < 4) (h : post 1) : wpY_task post u (nI t) := by
  obtain ⟨wr, kn, md, op, st, ps, bs, co, ef, th, ta, de, sp, li, ch, ga, pl, be⟩ := u
  exact br_f (nI_pos (by omega)) (br_f (nI_nlt (a := 3) (b := t) (by omega) (by decide)) h)
theorem yw_isState {post : Int32 → Prop} {u : SY} {s : Nat} (hs : s < 32) (h : post 1) : wpY_isState post u (nI s) := by
  obtain ⟨wr, kn, md, op, st, ps, bs, co, ef, th, ta, de, sp, li, ch, ga, pl, be⟩ := u
  exact br_f (nI_pos (by omega)) (br_f (nI_nlt (a := 31) (b := s) (by omega) (by decide)) h)
theorem yw_countA {post : Int32 → SY → Prop} (wr kn md op st ps bs : Int32) (co ef th ta de sp li ch ga pl be : Nat → Int32) {t s : Nat} (ht : t < 4) (hs : s < 32) (hok : yp_ok th ta sp)
    (H : ∀ (kn md op st ps : Int32) (ch ga pl : Nat → Int32), post (nI (mp_ws (yp_P co ef th ta de sp) (8 + t) s).length) (wr, kn, md, op, st, ps, bs, co, ef, th, ta, de, sp, li, ch, ga, pl, be)) : wpY_count post (wr, kn, md, op, st, ps, bs, co, ef, th, ta, de, sp, li, ch, ga, pl, be) (nI t) (nI s) (-1) := by
  refine ⟨_, yw_count_a wr bs co ef th ta de sp li be ht hs hok _ _ 0 _ _ _ _ _ _ _ _ (Nat.lt_succ_self _) (yw_OM0 hok ht s ch) ?_⟩
  rw [Nat.zero_add]
  exact H
theorem yw_countE {post : Int32 → SY → Prop} (wr kn md op st ps bs : Int32) (co ef th ta de sp li ch ga pl be : Nat → Int32) {t s d : Nat} (ht : t < 4) (hs : s < 32) (hd : d < 32) (hok : yp_ok th ta sp)
    (H : ∀ (kn md op st ps : Int32) (ch ga pl : Nat → Int32), post (nI (mp_ct d (mp_ws (yp_P co ef th ta de sp) (8 + t) s))) (wr, kn, md, op, st, ps, bs, co, ef, th, ta, de, sp, li, ch, ga, pl, be)) : wpY_count post (wr, kn, md, op, st, ps, bs, co, ef, th, ta, de, sp, li, ch, ga, pl, be) (nI t) (nI s) (nI d) := by
  refine ⟨_, yw_count_e wr bs co ef th ta de sp li be ht hs hd hok _ _ 0 _ _ _ _ _ _ _ _ (Nat.lt_succ_self _) (yw_OM0 hok ht s ch) ?_⟩
  rw [Nat.zero_add]
  exact H
theorem yw_search {post : SY → Prop} (wr kn md op st ps bs : Int32) (co ef th ta de sp li ch ga pl be : Nat → Int32) {t s d : Nat} (ht : t < 4) (hs : s < 32) (hd : d < 32) (hok : yp_ok th ta sp) (hdg : ∀ x, x ∈ mp_ws (yp_P co ef th ta de sp) (8 + t) s → ∀ a, a ∈ x.2 → a < 8)
    (H : ∀ (kn md op st ps : Int32) (ch ga pl be : Nat → Int32), yw_BE be (mp_be d none (mp_ws (yp_P co ef th ta de sp) (8 + t) s)) → post (wr, kn, md, op, st, ps, mp_nS (mp_be d none (mp_ws (yp_P co ef th ta de sp) (8 + t) s)), co, ef, th, ta, de, sp, li, ch, ga, pl, be)) : wpY_search post (wr, kn, md, op, st, ps, bs, co, ef, th, ta, de, sp, li, ch, ga, pl, be) (nI t) (nI s) (nI d) :=
  ⟨_, yw_search10 wr co ef th ta de sp li ht hs hd hok _ _ none _ _ _ _ _ _ _ _ _ (Nat.lt_succ_self _) trivial hdg (yw_OM0 hok ht s ch) H⟩
/-- the list against a plan -/
theorem yw_acc57 {post : Int32 → SY → Prop} {J : Int32 → Int32 → Int32 → Int32 → Int32 → Int32 → Int32 → Int32 → (Nat → Int32) → (Nat → Int32) → (Nat → Int32) → (Nat → Int32) → (Nat → Int32) → (Nat → Int32) → (Nat → Int32) → (Nat → Int32) → (Nat → Int32) → (Nat → Int32) → (Nat → Int32) → Prop} {x1 x2 : Int32} (kn md op st ps bs : Int32) (co ef th ta de sp li ch ga pl be : Nat → Int32) {L : Nat} (hL : L ≤ 8) :
    ∀ (q l : List Nat) (i F : Nat), i + l.length = L → q.length = l.length → l.length < F → yw_CH pl i q → yw_CH li i l → (∀ a, a ∈ q → a < 8) → (∀ a, a ∈ l → a < 8) → J (if q = l then 1 else 0) (nI L) kn md op st ps bs co ef th ta de sp li ch ga pl be → wY_accounts_57 post J x1 x2 (nI L) kn md op st ps bs co ef th ta de sp li ch ga pl be F 1 (nI i) := by
  intro q
  induction q with
  | nil =>
    intro l i F h1 h2 hF _ _ _ _ H
    obtain ⟨F, rfl⟩ : ∃ n, F = n + 1 := ⟨F - 1, by omega⟩
    cases l with
    | nil =>
      have h1' : i + 0 = L := h1
      exact br_t (nI_le (by omega) (by omega)) H
    | cons b l => exact nomatch h2
  | cons a q ih =>
    intro l i F h1 h2 hF c1 c2 d1 d2 H
    cases l with
    | nil => exact nomatch h2
    | cons b l =>
      have h1' : i + (l.length + 1) = L := h1
      have h2' : q.length + 1 = l.length + 1 := h2
      have hF' : l.length + 1 < F := hF
      obtain ⟨F, rfl⟩ : ∃ n, F = n + 1 := ⟨F - 1, by omega⟩
      have ha := d1 a List.mem_cons_self
      have hb := d2 b List.mem_cons_self
      refine br_f (nI_ge (by omega) (by omega)) (br_f (by decide) ⟨vp_in_nI (by omega) (by decide), vp_in_nI (by omega) (by decide), ?_⟩)
      rw [nI_clamp (by omega : i < 2 ^ 31), c1.1, c2.1]
      refine pk_eq a b (fun z => nm_r (nI_1 _) ?_) (fun z => nm_r (nI_1 _) ?_)
      · refine ih l (i + 1) F (by omega) (by omega) (by omega) c1.2 c2.2 (fun a h => d1 a (List.mem_cons_of_mem _ h)) (fun a h => d2 a (List.mem_cons_of_mem _ h)) ?_
        have e : (if a :: q = b :: l then (1 : Int32) else 0) = if q = l then 1 else 0 := by
          subst z
          by_cases y : q = l
          · rw [if_pos y, if_pos (by rw [y])]
          · rw [if_neg y, if_neg (fun h => by injection h with h1 h2; exact y h2)]
        rw [← e]
        exact H
      · obtain ⟨F, rfl⟩ : ∃ n, F = n + 1 := ⟨F - 1, by omega⟩
        rw [if_neg (fun h => by injection h with h1 h2; exact z h1)] at H
        exact br_c (fun _ => H) (fun _ => br_t rfl H)
def mp_hs (l : List Nat) (M : List (Nat × List Nat)) : Bool := M.any (fun x => decide (x.2 = l))
theorem yw_acc7 {post : Int32 → SY → Prop} (bs : Int32) (co ef th ta de sp li be : Nat → Int32) {t s : Nat} {l : List Nat} (ht : t < 4) (hs : s < 32) (hok : yp_ok th ta sp) (hl8 : l.length ≤ 8) (hli : yw_CH li 0 l) (hld : ∀ a, a ∈ l → a < 8) :
    ∀ (M : List (Nat × List Nat)) (F : Nat) (kn md op st ps : Int32) (ch ga pl : Nat → Int32), M.length + 1 < F → (∀ x, x ∈ M → ∀ a, a ∈ x.2 → a < 8) → yw_OM (yp_P co ef th ta de sp) t s M kn ch →
    (∀ (kn md op st ps : Int32) (ch ga pl : Nat → Int32), post (if mp_hs l M then 1 else 0) (nI l.length, kn, md, op, st, ps, bs, co, ef, th, ta, de, sp, li, ch, ga, pl, be)) →
    wY_accounts_7 post (nI t) (nI s) F 0 (nI l.length) kn md op st ps bs co ef th ta de sp li ch ga pl be := by
  intro M
  induction M with
  | nil =>
    intro F kn md op st ps ch ga pl hF hdg hM H
    obtain ⟨F, rfl⟩ : ∃ n, F = n + 1 := ⟨F - 1, by omega⟩
    rw [wY_accounts_7]
    refine yw_task ht ?_
    refine br_f (by decide) ?_
    refine yw_isState hs ?_
    refine br_f (by decide) (br_t rfl ?_)
    refine yw_next _ _ _ _ _ _ _ _ _ _ _ _ _ _ _ _ _ _ ht hs hok hM (fun _ kn md op st ps ch ga pl => ?_) (fun e q M' h => nomatch h)
    exact br_t rfl ⟨rfl, H _ _ _ _ _ _ _ _⟩
  | cons x M ih =>
    intro F kn md op st ps ch ga pl hF hdg hM H
    have hl : (x :: M).length = M.length + 1 := rfl
    obtain ⟨F, rfl⟩ : ∃ n, F = n + 1 := ⟨F - 1, by omega⟩
    rw [wY_accounts_7]
    refine yw_task ht ?_
    refine br_f (by decide) ?_
    refine yw_isState hs ?_
    refine br_f (by decide) (br_t rfl ?_)
    refine yw_next _ _ _ _ _ _ _ _ _ _ _ _ _ _ _ _ _ _ ht hs hok hM (fun h => nomatch h) ?_
    intro e q M' h he hq kn md op ch ga pl hM' hpl
    injection h with h1 h2
    subst h1 h2
    have hdq := hdg (e, q) List.mem_cons_self
    have hdM : ∀ x, x ∈ M → ∀ a, a ∈ x.2 → a < 8 := fun x hx => hdg x (List.mem_cons_of_mem _ hx)
    have keep : q ≠ l → wY_accounts_7 post (nI t) (nI s) F 0 (nI l.length) kn md op (nI e) (nI q.length) bs co ef th ta de sp li ch ga pl be := by
      intro hno
      refine ih F _ _ _ _ _ _ _ _ (by omega) hdM hM' ?_
      intro kn md op st ps ch ga pl
      have := H kn md op st ps ch ga pl
      have e2 : mp_hs l ((e, q) :: M) = mp_hs l M := by
        show (decide (q = l) || _) = _
        rw [decide_eq_false hno]
        rfl
      rw [e2] at this
      exact this
    refine br_f (by decide) (pk_eq q.length l.length (fun z => ?_) (fun z => ?_))
    · refine ⟨l.length + 1, yw_acc57 _ _ _ _ _ _ _ _ _ _ _ _ _ _ _ _ _ hl8 q l 0 _ (by omega) z (by omega) hpl hli hdq hld ?_⟩
      by_cases y : q = l
      · rw [if_pos y]
        obtain ⟨F, rfl⟩ : ∃ n, F = n + 1 := ⟨F - 1, by omega⟩
        rw [wY_accounts_7]
        refine yw_task ht ?_
        refine br_f (by decide) ?_
        refine yw_isState hs ?_
        refine br_f (by decide) (br_f (by decide) ⟨rfl, ?_⟩)
        have := H kn md op (nI e) (nI q.length) ch ga pl
        have e2 : mp_hs l ((e, q) :: M) = true := by
          show (decide (q = l) || _) = _
          rw [decide_eq_true y]
          rfl
        rw [e2] at this
        exact this
      · rw [if_neg y]
        exact keep y
    · have y : q ≠ l := fun h => z (by rw [h])
      refine ⟨1, br_c (fun _ => keep y) (fun _ => br_t rfl (keep y))⟩
/-- sets of bits -/
def mp_dz (b : Nat → Bool) : Nat → Nat → Int32 → Int32
  | 0, _, a => a
  | k + 1, c, a => mp_dz b k (c + 1) (if b c then a ||| ((1 : Int32) <<< (nI c &&& 31)) else a)
def mp_ne {α : Type} : List α → Bool
  | [] => false
  | _ :: _ => true
theorem yw_doable4 {post : Int32 → SY → Prop} (wr bs : Int32) (co ef th ta de sp li be : Nat → Int32) {s : Nat} (hs : s < 32) (hok : yp_ok th ta sp) :
    ∀ (k t F : Nat) (a kn md op st ps : Int32) (ch ga pl : Nat → Int32), t + k = 4 → k < F →
    (∀ (kn md op st ps : Int32) (ch ga pl : Nat → Int32), post (mp_dz (fun t => mp_ne (mp_ws (yp_P co ef th ta de sp) (8 + t) s)) k t a) (wr, kn, md, op, st, ps, bs, co, ef, th, ta, de, sp, li, ch, ga, pl, be)) →
    wY_doable_4 post (nI s) F a (nI t) wr kn md op st ps bs co ef th ta de sp li ch ga pl be := by
  intro k
  induction k with
  | zero =>
    intro t F a kn md op st ps ch ga pl h1 hF H
    obtain ⟨F, rfl⟩ : ∃ n, F = n + 1 := ⟨F - 1, by omega⟩
    refine br_t (nI_le (a := 4) (by omega) (by omega)) ?_
    exact yw_isState hs (br_f (by decide) (H _ _ _ _ _ _ _ _))
  | succ k ih =>
    intro t F a kn md op st ps ch ga pl h1 hF H
    obtain ⟨F, rfl⟩ : ∃ n, F = n + 1 := ⟨F - 1, by omega⟩
    refine br_f (nI_ge (b := 4) (by omega) (by decide)) ?_
    refine yw_isState hs (br_f (by decide) ?_)
    refine yw_next _ _ _ _ _ _ _ _ _ _ _ _ _ _ _ _ _ _ (by omega) hs hok (yw_OM0 hok (by omega) s ch) (fun h kn md op st ps ch ga pl => ?_) (fun e q M' h he hq kn md op ch ga pl hM' hpl => ?_)
    · refine br_t rfl (nm_r (nI_1 _) (ih (t + 1) F a _ _ _ _ _ _ _ _ (by omega) (by omega) ?_))
      intro kn md op st ps ch ga pl
      have := H kn md op st ps ch ga pl
      unfold mp_dz at this
      rw [h] at this
      exact this
    · refine br_f (by decide) (nm_e (nm_r (nI_1 _) (ih (t + 1) F _ _ _ _ _ _ _ _ _ (by omega) (by omega) ?_)))
      intro kn md op st ps ch ga pl
      have := H kn md op st ps ch ga pl
      unfold mp_dz at this
      rw [h] at this
      exact this
theorem yw_methods4 {post : Int32 → Prop} (wr kn md op st ps bs : Int32) (co ef th ta de sp li ch ga pl be : Nat → Int32) : ∀ (k m F : Nat) (a : Int32), m + k = 8 → k < F → post (mp_dz (fun m => decide (¬ th m = 0)) k m a) → wY_methods_4 post wr kn md op st ps bs co ef th ta de sp li ch ga pl be F a (nI m) := by
  intro k
  induction k with
  | zero =>
    intro m F a h1 hF H
    obtain ⟨F, rfl⟩ : ∃ n, F = n + 1 := ⟨F - 1, by omega⟩
    exact br_t (nI_le (a := 8) (by omega) (by omega)) H
  | succ k ih =>
    intro m F a h1 hF H
    obtain ⟨F, rfl⟩ : ∃ n, F = n + 1 := ⟨F - 1, by omega⟩
    refine br_f (nI_ge (b := 8) (by omega) (by decide)) ⟨vp_in_nI (by omega) (by decide), ?_⟩
    rw [nI_clamp (by omega : m < 2 ^ 31)]
    unfold mp_dz at H
    refine br_c (fun z => nm_r (nI_1 _) (ih (m + 1) F a (by omega) (by omega) ?_)) (fun z => nm_e (nm_r (nI_1 _) (ih (m + 1) F _ (by omega) (by omega) ?_)))
    · rw [decide_eq_false (fun h => h z)] at H
      exact H
    · rw [decide_eq_true z] at H
      exact H
/-- doing the list -/
def mp_run (P : mp_PB) : List Nat → Nat → Option Nat
  | [], s => some s
  | a :: l, s => if mp_hol P a s then mp_run P l (mp_out P a s) else none
theorem yw_after16 {post : Int32 → Prop} (kn md op st ps bs : Int32) (co ef th ta de sp li ch ga pl be : Nat → Int32) {L : Nat} (hL : L ≤ 8) : ∀ (l : List Nat) (i F s : Nat), i + l.length = L → l.length + 1 < F → yw_CH li i l → (∀ a, a ∈ l → a < 6) → s < 32 →
    post (mp_nO (mp_run (yp_P co ef th ta de sp) l s)) → wY_after_16 post (nI L) kn md op st ps bs co ef th ta de sp li ch ga pl be F (nI s) (nI i) := by
  intro l
  induction l with
  | nil =>
    intro i F s h1 hF _ _ _ H
    obtain ⟨F, rfl⟩ : ∃ n, F = n + 1 := ⟨F - 1, by omega⟩
    have h1' : i + 0 = L := h1
    exact br_t (nI_le (by omega) (by omega)) H
  | cons a l ih =>
    intro i F s h1 hF c1 d1 hs H
    have h1' : i + (l.length + 1) = L := h1
    have hF' : l.length + 1 + 1 < F := hF
    obtain ⟨F, rfl⟩ : ∃ n, F = n + 1 := ⟨F - 1, by omega⟩
    have ha := d1 a List.mem_cons_self
    have hin : vp_in (nI i) 8 := vp_in_nI (by omega) (by decide)
    refine br_f (nI_ge (by omega) (by omega)) (br_f (nI_pos (by omega)) ⟨hin, ?_⟩)
    rw [nI_clamp (by omega : i < 2 ^ 31), c1.1]
    refine ⟨vp_in_nI ha (by decide), ?_⟩
    rw [nI_clamp (by omega : a < 2 ^ 31)]
    apply yw_holds
    have e : mp_run (yp_P co ef th ta de sp) (a :: l) s = if yp_hI (co a) s then mp_run (yp_P co ef th ta de sp) l (yp_chg (ef a) s) else none := rfl
    rw [e] at H
    by_cases x : yp_hI (co a) s = true
    · rw [if_pos x] at H ⊢
      refine br_f (by decide) ⟨hin, ?_⟩
      refine yw_changed _ _ _ _ _ _ _ _ _ _ _ _ _ _ _ _ _ _ ha hs (nm_r (nI_1 _) ?_)
      exact ih (i + 1) F _ (by omega) (by omega) c1.2 (fun a h => d1 a (List.mem_cons_of_mem _ h)) (yp_ex_eq _ hs).2 H
    · rw [if_neg x] at H ⊢
      refine br_t rfl (nm_e ?_)
      obtain ⟨F, rfl⟩ : ∃ n, F = n + 1 := ⟨F - 1, by omega⟩
      exact br_c (fun _ => H) (fun _ => br_t (by decide) H)
theorem yw_n1 : vp_nar .boolean 1 = 1 := rfl
theorem yw_n0 : vp_nar .boolean 0 = 0 := rfl
theorem yw_updback {a : Nat → Int32} {m : Nat} {x : Int32} (h : a m = x) (y : Int32) : upd (upd a m y) m x = a := by
  funext j
  by_cases e : j = m
  · subst e
    rw [pk_us, h]
  · rw [pk_un e, pk_un e]
theorem yp_ok_upd0 {th ta sp : Nat → Int32} {m : Nat} (h : yp_ok th ta sp) : yp_ok (upd th m 0) ta sp := by
  intro i hi
  by_cases e : i = m
  · subst e
    rw [pk_us]
    exact ⟨Or.inl rfl, fun z => absurd rfl z⟩
  · rw [pk_un e]
    exact h i hi
def mp_sl (P P0 : mp_PB) (c : Nat) : Prop := (mp_ws P0 (8 + c / 32) (c % 32)).length = (mp_ws P (8 + c / 32) (c % 32)).length
theorem yw_useless25 {post : Int32 → SY → Prop} (wr bs : Int32) (co ef th ta de sp li be : Nat → Int32) {m : Nat} (hm : m < 8) (hok : yp_ok th ta sp) (h1 : th m = 1)
    (hb : ∀ t s, t < 4 → s < 32 → (mp_ws (yp_P co ef th ta de sp) (8 + t) s).length < 2 ^ 31 ∧ (mp_ws (yp_P co ef (upd th m 0) ta de sp) (8 + t) s).length < 2 ^ 31) :
    ∀ (k c F : Nat) (kn md op st ps : Int32) (ch ga pl : Nat → Int32), c + k = 128 → k + 1 < F →
    ((∀ i, c ≤ i → i < 128 → mp_sl (yp_P co ef th ta de sp) (yp_P co ef (upd th m 0) ta de sp) i) → ∀ (kn md op st ps : Int32) (ch ga pl : Nat → Int32), post 1 (wr, kn, md, op, st, ps, bs, co, ef, th, ta, de, sp, li, ch, ga, pl, be)) →
    ((∃ i, c ≤ i ∧ i < 128 ∧ ¬ mp_sl (yp_P co ef th ta de sp) (yp_P co ef (upd th m 0) ta de sp) i) → ∀ (kn md op st ps : Int32) (ch ga pl : Nat → Int32), post 0 (wr, kn, md, op, st, ps, bs, co, ef, th, ta, de, sp, li, ch, ga, pl, be)) →
    wY_useless_25 post (nI m) F 1 (nI c) wr kn md op st ps bs co ef th ta de sp li ch ga pl be := by
  intro k
  induction k with
  | zero =>
    intro c F kn md op st ps ch ga pl hc hF H1 H0
    obtain ⟨F, rfl⟩ : ∃ n, F = n + 1 := ⟨F - 1, by omega⟩
    exact br_t (nI_le (a := 128) (by omega) (by omega)) ⟨rfl, H1 (fun i _ _ => by omega) _ _ _ _ _ _ _ _⟩
  | succ k ih =>
    intro c F kn md op st ps ch ga pl hc hF H1 H0
    obtain ⟨F, rfl⟩ : ∃ n, F = n + 1 := ⟨F - 1, by omega⟩
    have e1 : nI c >>> ((5 : Int32) &&& 31) = nI (c / 32) := pk_shrN (by omega) _ 5 (by decide)
    have e2 : nI c &&& 31 = nI (c % 32) := pk_andN (by omega) 5 (by decide)
    have hin : vp_in (nI m) 8 := vp_in_nI hm (by decide)
    have hcl : (nI m).toNatClampNeg = m := nI_clamp (by omega)
    obtain ⟨b1, b2⟩ := hb (c / 32) (c % 32) (by omega) (by omega)
    refine br_f (nI_ge (b := 128) (by omega) (by decide)) (br_f (by decide) ?_)
    rw [e1, e2]
    refine yw_countA _ _ _ _ _ _ _ _ _ _ _ _ _ _ _ _ _ _ (by omega) (by omega) hok ?_
    intro kn md op st ps ch ga pl
    refine ⟨hin, ?_⟩
    rw [hcl, yw_n0]
    refine nm_e ?_
    refine yw_countA _ _ _ _ _ _ _ _ _ _ _ _ _ _ _ _ _ _ (by omega) (by omega) (yp_ok_upd0 hok) ?_
    intro kn md op st ps ch ga pl
    refine pk_eq _ _ (fun z => ⟨hin, ?_⟩) (fun z => ⟨hin, ?_⟩) rfl rfl b2 b1
    · rw [hcl, yw_n1, yw_updback h1]
      refine nm_e (nm_r (nI_1 _) (ih (c + 1) F _ _ _ _ _ _ _ _ (by omega) (by omega) (fun hall => H1 (fun i i1 i2 => ?_)) (fun hex => H0 ?_)))
      · by_cases y : i = c
        · subst y
          exact z
        · exact hall i (by omega) i2
      · obtain ⟨i, i1, i2, i3⟩ := hex
        exact ⟨i, by omega, i2, i3⟩
    · rw [hcl, yw_n1, yw_updback h1]
      refine nm_e (nm_r (nI_1 _) ?_)
      obtain ⟨F, rfl⟩ : ∃ n, F = n + 1 := ⟨F - 1, by omega⟩
      have hp := H0 ⟨c, Nat.le_refl c, by omega, z⟩ kn md op st ps ch ga pl
      exact br_c (fun _ => ⟨rfl, hp⟩) (fun _ => br_t rfl ⟨rfl, hp⟩)
end
section
theorem mp_fl_mem {α : Type} {g : Nat → List α} {x : α} : ∀ {k c : Nat}, x ∈ mp_fl g k c ↔ ∃ m, c ≤ m ∧ m < c + k ∧ x ∈ g m
  | 0, c => by
    constructor
    · intro h; exact nomatch h
    · rintro ⟨m, h1, h2, _⟩; omega
  | k + 1, c => by
    show x ∈ g c ++ mp_fl g k (c + 1) ↔ _
    rw [List.mem_append, mp_fl_mem]
    constructor
    · rintro (h | ⟨m, h1, h2, h3⟩)
      · exact ⟨c, Nat.le_refl c, by omega, h⟩
      · exact ⟨m, by omega, by omega, h3⟩
    · rintro ⟨m, h1, h2, h3⟩
      by_cases e : m = c
      · subst e; exact Or.inl h3
      · exact Or.inr ⟨m, by omega, by omega, h3⟩
theorem mp_pr_mem {L : List (Nat × List Nat)} {G : Nat → List (Nat × List Nat)} {x : Nat × List Nat} : x ∈ mp_pr L G ↔ ∃ b p q, (b, p) ∈ L ∧ (x.1, q) ∈ G b ∧ x.2 = p ++ q := by
  unfold mp_pr
  rw [List.mem_flatMap]
  constructor
  · rintro ⟨⟨b, p⟩, h1, h2⟩
    rw [List.mem_map] at h2
    obtain ⟨⟨e, q⟩, h3, h4⟩ := h2
    subst h4
    exact ⟨b, p, q, h1, h3, rfl⟩
  · rintro ⟨b, p, q, h1, h2, h3⟩
    refine ⟨(b, p), h1, ?_⟩
    rw [List.mem_map]
    refine ⟨(x.1, q), h2, ?_⟩
    obtain ⟨e, r⟩ := x
    dsimp only at h3 ⊢
    rw [h3]
theorem mp_run_app (P : mp_PB) : ∀ (p q : List Nat) (s : Nat), mp_run P (p ++ q) s = (mp_run P p s).bind (mp_run P q)
  | [], q, s => rfl
  | a :: p, q, s => by
    show (if mp_hol P a s then mp_run P (p ++ q) (mp_out P a s) else none) = (if mp_hol P a s then mp_run P p (mp_out P a s) else none).bind _
    rw [mp_run_app P p q]
    cases mp_hol P a s <;> rfl
def mp_good (P : mp_PB) (v s : Nat) (x : Nat × List Nat) : Prop := x.1 < 32 ∧ x.2.length ≤ mp_an v ∧ (∀ a, a ∈ x.2 → a < 6) ∧ mp_run P x.2 s = some x.1
theorem mp_wd_good {P : mp_PB} (ok : mp_ok P) : ∀ (d v s : Nat) (x : Nat × List Nat), v ≤ 11 → v ≠ 7 → s < 32 → x ∈ mp_wd P d v s → mp_good P v s x
  | 0, _, _, _, _, _, _, h => nomatch h
  | d + 1, v, s, x, hv, h7, hs, h => by
    have h' : x ∈ (if v = 0 then [(s, [])] else if v < 8 then (if mp_hol P (v - 1) s then [(mp_out P (v - 1) s, [v - 1])] else [])
      else mp_fl (fun m => if mp_app P (v - 8) m s then mp_pr (mp_wd P d (mp_fs P m) s) (mp_wd P d (mp_sn P m)) else []) 8 0) := h
    by_cases z : v = 0
    · rw [if_pos z, List.mem_singleton] at h'
      subst h'
      exact ⟨hs, Nat.zero_le _, fun a ha => (nomatch ha), rfl⟩
    · rw [if_neg z] at h'
      by_cases w : v < 8
      · rw [if_pos w] at h'
        by_cases y : mp_hol P (v - 1) s = true
        · rw [if_pos y, List.mem_singleton] at h'
          subst h'
          refine ⟨ok.1 _ _ (by omega) hs, mp_an_pos v, fun a ha => ?_, ?_⟩
          · rw [List.mem_singleton] at ha
            omega
          · show (if mp_hol P (v - 1) s then some _ else none) = _
            rw [if_pos y]
        · rw [if_neg y] at h'
          exact nomatch h'
      · rw [if_neg w, mp_fl_mem] at h'
        obtain ⟨m, _, hm, hx⟩ := h'
        by_cases y : mp_app P (v - 8) m s = true
        · rw [if_pos y, mp_pr_mem] at hx
          obtain ⟨b, p, q, h1, h2, h3⟩ := hx
          obtain ⟨t, ht, rfl⟩ : ∃ t, t < 4 ∧ v = 8 + t := ⟨v - 8, by omega, by omega⟩
          have et : 8 + t - 8 = t := by omega
          rw [et] at y
          obtain ⟨k1, k2⟩ := ok.2 t m s ht (by omega) y
          have n1 := (mp_an_s ht k1).1
          have n2 := (mp_an_s ht k2).1
          unfold mp_sv at k1 k2
          obtain ⟨a1, a2, a3, a4⟩ := mp_wd_good ok d _ s (b, p) (by omega) (by omega) hs h1
          obtain ⟨b1, b2, b3, b4⟩ := mp_wd_good ok d _ b (x.1, q) (by omega) (by omega) a1 h2
          refine ⟨b1, ?_, ?_, ?_⟩
          · rw [h3, List.length_append]
            dsimp only at a2 b2
            omega
          · intro a ha
            rw [h3, List.mem_append] at ha
            rcases ha with ha | ha
            · exact a3 a ha
            · exact b3 a ha
          · rw [h3, mp_run_app, a4]
            exact b4
        · rw [if_neg y] at hx
          exact nomatch hx
theorem mp_ws_good {P : mp_PB} (ok : mp_ok P) {v s : Nat} {x : Nat × List Nat} (hv : v ≤ 11) (h7 : v ≠ 7) (hs : s < 32) (h : x ∈ mp_ws P v s) : mp_good P v s x := mp_wd_good ok 5 v s x hv h7 hs h
/-- sums -/
def mp_su (f : Nat → Nat) : Nat → Nat
  | 0 => 0
  | n + 1 => mp_su f n + f n
theorem mp_su_congr {f g : Nat → Nat} : ∀ {n : Nat}, (∀ i, i < n → f i = g i) → mp_su f n = mp_su g n
  | 0, _ => rfl
  | n + 1, h => by
    show mp_su f n + f n = mp_su g n + g n
    rw [mp_su_congr (fun i hi => h i (by omega)), h n (by omega)]
theorem mp_su_le {f g : Nat → Nat} : ∀ {n : Nat}, (∀ i, i < n → f i ≤ g i) → mp_su f n ≤ mp_su g n
  | 0, _ => Nat.le_refl _
  | n + 1, h => Nat.add_le_add (mp_su_le (fun i hi => h i (by omega))) (h n (by omega))
theorem mp_su_add (f g : Nat → Nat) : ∀ n, mp_su (fun i => f i + g i) n = mp_su f n + mp_su g n
  | 0 => rfl
  | n + 1 => by
    show mp_su (fun i => f i + g i) n + (f n + g n) = mp_su f n + f n + (mp_su g n + g n)
    rw [mp_su_add f g n]
    omega
theorem mp_su_0 : ∀ n, mp_su (fun _ => 0) n = 0
  | 0 => rfl
  | n + 1 => by
    show mp_su (fun _ => 0) n + 0 = 0
    rw [mp_su_0 n]
theorem mp_su_mono (f : Nat → Nat) {m : Nat} : ∀ {n : Nat}, m ≤ n → mp_su f m ≤ mp_su f n
  | 0, h => by
    have : m = 0 := by omega
    rw [this]
    exact Nat.le_refl _
  | n + 1, h => by
    by_cases e : m = n + 1
    · rw [e]; exact Nat.le_refl _
    · exact Nat.le_trans (mp_su_mono f (n := n) (by omega)) (Nat.le_add_right _ _)
theorem mp_su_mem (f : Nat → Nat) {i n : Nat} (h : i < n) : f i ≤ mp_su f n :=
  Nat.le_trans (Nat.le_add_left (f i) (mp_su f i)) (mp_su_mono f (m := i + 1) h)
theorem mp_su_delta (i : Nat) (g : Nat → Nat) : ∀ n, mp_su (fun b => if i = b then g b else 0) n = if i < n then g i else 0
  | 0 => rfl
  | n + 1 => by
    show mp_su (fun b => if i = b then g b else 0) n + (if i = n then g n else 0) = _
    rw [mp_su_delta i g n]
    by_cases e : i = n
    · subst e
      rw [if_neg (Nat.lt_irrefl i), if_pos rfl, if_pos (Nat.lt_succ_self i), Nat.zero_add]
    · rw [if_neg e, Nat.add_zero]
      by_cases h : i < n
      · rw [if_pos h, if_pos (by omega)]
      · rw [if_neg h, if_neg (by omega)]
theorem mp_ct_app (e : Nat) : ∀ l l' : List (Nat × List Nat), mp_ct e (l ++ l') = mp_ct e l + mp_ct e l'
  | [], l' => by
    show mp_ct e l' = 0 + _
    omega
  | x :: l, l' => by
    show (if x.1 = e then 1 else 0) + mp_ct e (l ++ l') = (if x.1 = e then 1 else 0) + mp_ct e l + mp_ct e l'
    rw [mp_ct_app e l l']
    omega
theorem mp_fl_succ {α : Type} (g : Nat → List α) : ∀ k c, mp_fl g (k + 1) c = mp_fl g k c ++ g (c + k)
  | 0, c => by
    show g c ++ [] = [] ++ g c
    simp
  | k + 1, c => by
    show g c ++ mp_fl g (k + 1) (c + 1) = (g c ++ mp_fl g k (c + 1)) ++ _
    rw [mp_fl_succ g k (c + 1), List.append_assoc]
    have : c + 1 + k = c + (k + 1) := by omega
    rw [this]
theorem mp_ct_fl (e : Nat) (g : Nat → List (Nat × List Nat)) : ∀ k, mp_ct e (mp_fl g k 0) = mp_su (fun m => mp_ct e (g m)) k
  | 0 => rfl
  | k + 1 => by
    rw [mp_fl_succ, mp_ct_app, mp_ct_fl e g k, Nat.zero_add]
    rfl
theorem mp_len_fl {α : Type} (g : Nat → List α) : ∀ k, (mp_fl g k 0).length = mp_su (fun m => (g m).length) k
  | 0 => rfl
  | k + 1 => by
    rw [mp_fl_succ, List.length_append, mp_len_fl g k, Nat.zero_add]
    rfl
theorem mp_ct_map (e : Nat) (p : List Nat) : ∀ l : List (Nat × List Nat), mp_ct e (l.map (fun y => (y.1, p ++ y.2))) = mp_ct e l
  | [] => rfl
  | x :: l => by
    show (if x.1 = e then 1 else 0) + mp_ct e (l.map (fun y => (y.1, p ++ y.2))) = _
    rw [mp_ct_map e p l]
    rfl
theorem mp_ct_pr (e : Nat) (G : Nat → List (Nat × List Nat)) : ∀ L : List (Nat × List Nat), (∀ x, x ∈ L → x.1 < 32) → mp_ct e (mp_pr L G) = mp_su (fun b => mp_ct b L * mp_ct e (G b)) 32
  | [], _ => by
    show 0 = _
    exact ((mp_su_congr (f := fun b => mp_ct b [] * mp_ct e (G b)) (g := fun _ => 0) (fun i _ => Nat.zero_mul _)).trans (mp_su_0 32)).symm
  | x :: L, h => by
    have e1 : mp_pr (x :: L) G = (G x.1).map (fun y => (y.1, x.2 ++ y.2)) ++ mp_pr L G := rfl
    rw [e1, mp_ct_app, mp_ct_map, mp_ct_pr e G L (fun y hy => h y (List.mem_cons_of_mem _ hy))]
    have e2 : mp_su (fun b => mp_ct b (x :: L) * mp_ct e (G b)) 32 = mp_su (fun b => (if x.1 = b then mp_ct e (G b) else 0) + mp_ct b L * mp_ct e (G b)) 32 := by
      apply mp_su_congr
      intro b _
      show ((if x.1 = b then 1 else 0) + mp_ct b L) * mp_ct e (G b) = _
      rw [Nat.add_mul]
      by_cases z : x.1 = b
      · rw [if_pos z, if_pos z, Nat.one_mul]
      · rw [if_neg z, if_neg z, Nat.zero_mul]
    rw [e2, mp_su_add, mp_su_delta x.1 (fun b => mp_ct e (G b)) 32, if_pos (h x List.mem_cons_self)]
theorem mp_len_ct : ∀ L : List (Nat × List Nat), (∀ x, x ∈ L → x.1 < 32) → L.length = mp_su (fun e => mp_ct e L) 32
  | [], _ => by
    show 0 = _
    exact ((mp_su_congr (f := fun e => mp_ct e []) (g := fun _ => 0) (fun i _ => rfl)).trans (mp_su_0 32)).symm
  | x :: L, h => by
    have e2 : mp_su (fun e => mp_ct e (x :: L)) 32 = mp_su (fun e => (if x.1 = e then 1 else 0) + mp_ct e L) 32 := rfl
    rw [e2, mp_su_add, mp_su_delta x.1 (fun _ => 1) 32, if_pos (h x List.mem_cons_self), ← mp_len_ct L (fun y hy => h y (List.mem_cons_of_mem _ hy))]
    show L.length + 1 = 1 + L.length
    omega
theorem mp_ct_pos {e : Nat} : ∀ {L : List (Nat × List Nat)}, 0 < mp_ct e L ↔ ∃ q, (e, q) ∈ L
  | [] => ⟨fun h => absurd h (Nat.lt_irrefl 0), fun ⟨_, h⟩ => nomatch h⟩
  | x :: L => by
    have e1 : mp_ct e (x :: L) = (if x.1 = e then 1 else 0) + mp_ct e L := rfl
    rw [e1]
    by_cases z : x.1 = e
    · rw [if_pos z]
      refine ⟨fun _ => ⟨x.2, ?_⟩, fun _ => by omega⟩
      obtain ⟨a, b⟩ := x
      dsimp only at z
      rw [z]
      exact List.mem_cons_self
    · rw [if_neg z, Nat.zero_add, mp_ct_pos]
      constructor
      · rintro ⟨q, h⟩
        exact ⟨q, List.mem_cons_of_mem _ h⟩
      · rintro ⟨q, h⟩
        rcases List.mem_cons.mp h with h | h
        · exact absurd (by rw [← h]) z
        · exact ⟨q, h⟩
def mp_cn (P : mp_PB) (v s e : Nat) : Nat := mp_ct e (mp_ws P v s)
/-- what method m adds at task t, state s, end e -/
def mp_am (P : mp_PB) (t s e m : Nat) : Nat := if mp_app P t m s = true then mp_su (fun b => mp_cn P (mp_fs P m) s b * mp_cn P (mp_sn P m) b e) 32 else 0
theorem mp_cn_t {P : mp_PB} (ok : mp_ok P) {t s : Nat} (e : Nat) (ht : t < 4) (hs : s < 32) : mp_cn P (8 + t) s e = mp_su (mp_am P t s e) 8 := by
  unfold mp_cn
  rw [mp_wst ok s ht, mp_ct_fl]
  apply mp_su_congr
  intro m hm
  unfold mp_am
  by_cases y : mp_app P t m s = true
  · rw [if_pos y, if_pos y]
    obtain ⟨k1, k2⟩ := ok.2 t m s ht hm y
    unfold mp_sv at k1 k2
    exact mp_ct_pr e _ _ (fun x hx => (mp_ws_good ok (by omega) (by omega) hs hx).1)
  · rw [if_neg y, if_neg y]
    rfl
theorem mp_ws_t {P : mp_PB} (ok : mp_ok P) {t s : Nat} (ht : t < 4) (hs : s < 32) {e : Nat} {r : List Nat} : (e, r) ∈ mp_ws P (8 + t) s ↔ ∃ m, m < 8 ∧ mp_app P t m s = true ∧ ∃ b p q, b < 32 ∧ (b, p) ∈ mp_ws P (mp_fs P m) s ∧ (e, q) ∈ mp_ws P (mp_sn P m) b ∧ r = p ++ q := by
  rw [mp_wst ok s ht, mp_fl_mem]
  constructor
  · rintro ⟨m, _, hm, h⟩
    by_cases y : mp_app P t m s = true
    · rw [if_pos y] at h
      unfold mp_mw at h
      rw [mp_pr_mem] at h
      obtain ⟨b, p, q, h1, h2, h3⟩ := h
      obtain ⟨k1, k2⟩ := ok.2 t m s ht (by omega) y
      unfold mp_sv at k1 k2
      exact ⟨m, by omega, y, b, p, q, (mp_ws_good ok (by omega) (by omega) hs h1).1, h1, h2, h3⟩
    · rw [if_neg y] at h
      exact nomatch h
  · rintro ⟨m, hm, y, b, p, q, _, h1, h2, h3⟩
    refine ⟨m, by omega, by omega, ?_⟩
    rw [if_pos y]
    unfold mp_mw
    rw [mp_pr_mem]
    exact ⟨b, p, q, h1, h2, h3⟩
/-- plans as numbers -/
def mp_dg : List Nat → Nat
  | [] => 0
  | a :: q => a * 8 ^ q.length + mp_dg q
def mp_en (q : List Nat) : Nat := q.length * 2 ^ 48 + mp_dg q
theorem mp_dg_lt : ∀ q : List Nat, (∀ a, a ∈ q → a < 8) → mp_dg q < 8 ^ q.length
  | [], _ => Nat.lt_succ_self 0
  | a :: q, h => by
    have h1 := mp_dg_lt q (fun b hb => h b (List.mem_cons_of_mem _ hb))
    have h2 := h a List.mem_cons_self
    show a * 8 ^ q.length + mp_dg q < 8 ^ (q.length + 1)
    have h3 : a * 8 ^ q.length ≤ 7 * 8 ^ q.length := Nat.mul_le_mul_right _ (by omega)
    rw [Nat.pow_succ]
    omega
theorem mp_dg_app : ∀ p q : List Nat, mp_dg (p ++ q) = mp_dg p * 8 ^ q.length + mp_dg q
  | [], q => by
    show mp_dg q = 0 * _ + _
    omega
  | a :: p, q => by
    show a * 8 ^ (p ++ q).length + mp_dg (p ++ q) = (a * 8 ^ p.length + mp_dg p) * 8 ^ q.length + mp_dg q
    rw [mp_dg_app p q, List.length_append, Nat.pow_add, Nat.add_mul, Nat.mul_assoc]
    omega
theorem mp_dg_16 {q : List Nat} (h : ∀ a, a ∈ q → a < 8) (hl : q.length ≤ 16) : mp_dg q < 2 ^ 48 :=
  Nat.lt_of_lt_of_le (mp_dg_lt q h) (Nat.le_trans (Nat.pow_le_pow_right (by decide) hl) (by decide))
theorem mp_lx_dg : ∀ p q : List Nat, p.length = q.length → (∀ a, a ∈ p → a < 8) → (∀ a, a ∈ q → a < 8) → (mp_lx p q = true ↔ mp_dg p < mp_dg q)
  | [], [], _, _, _ => ⟨fun h => (nomatch h), fun h => absurd h (Nat.lt_irrefl 0)⟩
  | [], _ :: _, h, _, _ => nomatch h
  | _ :: _, [], h, _, _ => nomatch h
  | a :: p, b :: q, h, h1, h2 => by
    have hl : p.length = q.length := Nat.succ.inj h
    have i1 : ∀ c, c ∈ p → c < 8 := fun c hc => h1 c (List.mem_cons_of_mem _ hc)
    have i2 : ∀ c, c ∈ q → c < 8 := fun c hc => h2 c (List.mem_cons_of_mem _ hc)
    have ih := mp_lx_dg p q hl i1 i2
    have d1 := mp_dg_lt p i1
    have d2 := mp_dg_lt q i2
    show (if a = b then mp_lx p q else decide (a < b)) = true ↔ a * 8 ^ p.length + mp_dg p < b * 8 ^ q.length + mp_dg q
    rw [hl] at d1 ⊢
    by_cases z : a = b
    · rw [if_pos z, ih, z]
      omega
    · rw [if_neg z, decide_eq_true_iff]
      constructor
      · intro hab
        have : (a + 1) * 8 ^ q.length ≤ b * 8 ^ q.length := Nat.mul_le_mul_right _ hab
        rw [Nat.add_mul] at this
        omega
      · intro hlt
        apply Decidable.byContradiction
        intro hn
        have : (b + 1) * 8 ^ q.length ≤ a * 8 ^ q.length := Nat.mul_le_mul_right _ (by omega)
        rw [Nat.add_mul] at this
        omega
def mp_pg (q : List Nat) : Prop := q.length ≤ 16 ∧ ∀ a, a ∈ q → a < 8
theorem mp_en_lt {p q : List Nat} (hp : mp_pg p) (hq : mp_pg q) : mp_en p < mp_en q ↔ (p.length < q.length ∨ (p.length = q.length ∧ mp_dg p < mp_dg q)) := by
  have h1 := mp_dg_16 hp.2 hp.1
  have h2 := mp_dg_16 hq.2 hq.1
  unfold mp_en
  omega
theorem mp_en_le {p q : List Nat} (hp : mp_pg p) (hq : mp_pg q) : mp_en p ≤ mp_en q ↔ (p.length < q.length ∨ (p.length = q.length ∧ mp_dg p ≤ mp_dg q)) := by
  have h1 := mp_dg_16 hp.2 hp.1
  have h2 := mp_dg_16 hq.2 hq.1
  unfold mp_en
  omega
theorem mp_en_b {p : List Nat} (hp : mp_pg p) : mp_en p < 2 ^ 53 := by
  have h1 := mp_dg_16 hp.2 hp.1
  have h2 := hp.1
  unfold mp_en
  omega
theorem mp_pg_app {p q : List Nat} (hp : mp_pg p) (hq : mp_pg q) (h : p.length + q.length ≤ 16) : mp_pg (p ++ q) := by
  refine ⟨by rw [List.length_append]; exact h, fun a ha => ?_⟩
  rcases List.mem_append.mp ha with ha | ha
  · exact hp.2 a ha
  · exact hq.2 a ha
theorem mp_en_app {p q p' q' : List Nat} (hp : mp_pg p) (hq : mp_pg q) (hp' : mp_pg p') (hq' : mp_pg q') (h : p.length + q.length ≤ 16) (h' : p'.length + q'.length ≤ 16) (e1 : mp_en p ≤ mp_en p') (e2 : mp_en q ≤ mp_en q') : mp_en (p ++ q) ≤ mp_en (p' ++ q') := by
  rw [mp_en_le (mp_pg_app hp hq h) (mp_pg_app hp' hq' h'), List.length_append, List.length_append, mp_dg_app, mp_dg_app]
  rw [mp_en_le hp hp'] at e1
  rw [mp_en_le hq hq'] at e2
  rcases e1 with e1 | ⟨e1, f1⟩
  · left; omega
  · rcases e2 with e2 | ⟨e2, f2⟩
    · left; omega
    · right
      refine ⟨by omega, ?_⟩
      rw [e2]
      exact Nat.add_le_add (Nat.mul_le_mul_right _ f1) f2
theorem mp_bt_en {q b : List Nat} (hq : mp_pg q) (hb : mp_pg b) : mp_bt q (some b) = true ↔ mp_en q < mp_en b := by
  rw [mp_en_lt hq hb]
  show (if q.length = b.length then mp_lx q b else decide (q.length < b.length)) = true ↔ _
  by_cases z : q.length = b.length
  · rw [if_pos z, mp_lx_dg q b z hq.2 hb.2]
    constructor
    · intro h; exact Or.inr ⟨z, h⟩
    · rintro (h | h)
      · omega
      · exact h.2
  · rw [if_neg z, decide_eq_true_iff]
    constructor
    · intro h; exact Or.inl h
    · rintro (h | h)
      · exact h
      · exact absurd h.1 z
/-- the reference's best is the least -/
def mp_bo (d : Nat) (M : List (Nat × List Nat)) (o : Option (List Nat)) : Prop := (o = none → ∀ q, ¬ (d, q) ∈ M) ∧ ∀ b, o = some b → (d, b) ∈ M ∧ ∀ q, (d, q) ∈ M → mp_en b ≤ mp_en q
theorem mp_be_ok (d : Nat) : ∀ (M M0 : List (Nat × List Nat)) (o : Option (List Nat)), (∀ x, x ∈ M0 ++ M → mp_pg x.2) → mp_bo d M0 o → mp_bo d (M0 ++ M) (mp_be d o M)
  | [], M0, o, _, h => by
    rw [List.append_nil]
    exact h
  | x :: M, M0, o, hg, h => by
    have e : M0 ++ x :: M = (M0 ++ [x]) ++ M := by simp
    rw [e] at hg ⊢
    refine mp_be_ok d M (M0 ++ [x]) _ hg ?_
    have hx : mp_pg x.2 := hg x (by simp)
    have hM0 : ∀ y, y ∈ M0 → mp_pg y.2 := fun y hy => hg y (by simp [hy])
    have mem : ∀ q, (d, q) ∈ M0 ++ [x] ↔ ((d, q) ∈ M0 ∨ (x.1 = d ∧ q = x.2)) := by
      intro q
      rw [List.mem_append, List.mem_singleton]
      obtain ⟨a, b⟩ := x
      constructor
      · rintro (h | h)
        · exact Or.inl h
        · injection h with h1 h2
          exact Or.inr ⟨h1.symm, h2⟩
      · rintro (h | ⟨h1, h2⟩)
        · exact Or.inl h
        · dsimp only at h1 h2
          rw [h1, h2]
          exact Or.inr rfl
    by_cases z : x.1 = d
    · cases o with
      | none =>
        rw [if_pos ⟨z, rfl⟩]
        refine ⟨fun h => (nomatch h), fun b hb => ?_⟩
        injection hb with hb
        subst hb
        refine ⟨(mem _).mpr (Or.inr ⟨z, rfl⟩), fun q hq => ?_⟩
        rcases (mem q).mp hq with hq | hq
        · exact absurd hq (h.1 rfl q)
        · rw [hq.2]; exact Nat.le_refl _
      | some b =>
        obtain ⟨hb1, hb2⟩ := h.2 b rfl
        have hbt := mp_bt_en hx (hM0 _ hb1)
        by_cases y : mp_bt x.2 (some b) = true
        · rw [if_pos ⟨z, y⟩]
          have hlt : mp_en x.2 < mp_en b := hbt.mp y
          refine ⟨fun h => (nomatch h), fun b' hb' => ?_⟩
          injection hb' with hb'
          subst hb'
          refine ⟨(mem _).mpr (Or.inr ⟨z, rfl⟩), fun q hq => ?_⟩
          rcases (mem q).mp hq with hq | hq
          · have := hb2 q hq
            omega
          · rw [hq.2]; exact Nat.le_refl _
        · rw [if_neg (fun h => y h.2)]
          have hnl : ¬ mp_en x.2 < mp_en b := fun hh => y (hbt.mpr hh)
          refine ⟨fun h => (nomatch h), fun b' hb' => ?_⟩
          injection hb' with hb'
          subst hb'
          refine ⟨(mem _).mpr (Or.inl hb1), fun q hq => ?_⟩
          rcases (mem q).mp hq with hq | hq
          · exact hb2 q hq
          · rw [hq.2]; omega
    · rw [if_neg (fun h => z h.1)]
      refine ⟨fun hn q hq => ?_, fun b hb => ?_⟩
      · rcases (mem q).mp hq with hq | hq
        · exact h.1 hn q hq
        · exact z hq.1
      · obtain ⟨hb1, hb2⟩ := h.2 b hb
        refine ⟨(mem _).mpr (Or.inl hb1), fun q hq => ?_⟩
        rcases (mem q).mp hq with hq | hq
        · exact hb2 q hq
        · exact absurd hq.1 z
theorem mp_be_0 (d : Nat) (M : List (Nat × List Nat)) (hg : ∀ x, x ∈ M → mp_pg x.2) : mp_bo d M (mp_be d none M) :=
  mp_be_ok d M [] none hg ⟨fun _ q h => (nomatch h), fun b h => (nomatch h)⟩
/-- the least end -/
def mp_lk (d : Nat) (M : List (Nat × List Nat)) (o : Option Nat) : Prop := (o = none → ∀ x, x ∈ M → x.1 < d) ∧ ∀ l, o = some l → d ≤ l ∧ (∃ x, x ∈ M ∧ x.1 = l) ∧ ∀ x, x ∈ M → d ≤ x.1 → l ≤ x.1
theorem mp_lo_ok (d : Nat) : ∀ (M M0 : List (Nat × List Nat)) (o : Option Nat), mp_lk d M0 o → mp_lk d (M0 ++ M) (mp_lo d o M)
  | [], M0, o, h => by
    rw [List.append_nil]
    exact h
  | x :: M, M0, o, h => by
    have e : M0 ++ x :: M = (M0 ++ [x]) ++ M := by simp
    rw [e]
    refine mp_lo_ok d M (M0 ++ [x]) _ ?_
    have mem : ∀ y, y ∈ M0 ++ [x] ↔ (y ∈ M0 ∨ y = x) := by
      intro y
      rw [List.mem_append, List.mem_singleton]
    by_cases z : x.1 < d
    · rw [if_pos z]
      refine ⟨fun hn y hy => ?_, fun l hl => ?_⟩
      · rcases (mem y).mp hy with hy | hy
        · exact h.1 hn y hy
        · rw [hy]; exact z
      · obtain ⟨h1, ⟨w, h2, h3⟩, h4⟩ := h.2 l hl
        refine ⟨h1, ⟨w, (mem w).mpr (Or.inl h2), h3⟩, fun y hy hd => ?_⟩
        rcases (mem y).mp hy with hy | hy
        · exact h4 y hy hd
        · rw [hy] at hd; omega
    · rw [if_neg z]
      cases o with
      | none =>
        refine ⟨fun h => (nomatch h), fun l hl => ?_⟩
        injection hl with hl
        refine ⟨by omega, ⟨x, (mem x).mpr (Or.inr rfl), hl⟩, fun y hy hd => ?_⟩
        rcases (mem y).mp hy with hy | hy
        · have := h.1 rfl y hy
          omega
        · rw [hy]; omega
      | some l0 =>
        obtain ⟨h1, ⟨w, h2, h3⟩, h4⟩ := h.2 l0 rfl
        by_cases y : l0 ≤ x.1
        · show mp_lk d _ (if l0 ≤ x.1 then some l0 else some x.1)
          rw [if_pos y]
          refine ⟨fun h => (nomatch h), fun l hl => ?_⟩
          injection hl with hl
          subst hl
          refine ⟨h1, ⟨w, (mem w).mpr (Or.inl h2), h3⟩, fun y' hy hd => ?_⟩
          rcases (mem y').mp hy with hy | hy
          · exact h4 y' hy hd
          · rw [hy]; exact y
        · show mp_lk d _ (if l0 ≤ x.1 then some l0 else some x.1)
          rw [if_neg y]
          refine ⟨fun h => (nomatch h), fun l hl => ?_⟩
          injection hl with hl
          subst hl
          refine ⟨by omega, ⟨x, (mem x).mpr (Or.inr rfl), rfl⟩, fun y' hy hd => ?_⟩
          rcases (mem y').mp hy with hy | hy
          · have := h4 y' hy hd
            omega
          · rw [hy]; exact Nat.le_refl _
theorem mp_lo_0 (d : Nat) (M : List (Nat × List Nat)) : mp_lk d M (mp_lo d none M) :=
  mp_lo_ok d M [] none ⟨fun _ x h => (nomatch h), fun l h => (nomatch h)⟩
end
section
theorem mp_len_pr {G : Nat → List (Nat × List Nat)} {C : Nat} : ∀ {L : List (Nat × List Nat)}, (∀ x, x ∈ L → (G x.1).length ≤ C) → (mp_pr L G).length ≤ L.length * C
  | [], _ => Nat.zero_le _
  | x :: L, h => by
    have e1 : mp_pr (x :: L) G = (G x.1).map (fun y => (y.1, x.2 ++ y.2)) ++ mp_pr L G := rfl
    rw [e1, List.length_append, List.length_map]
    have h1 := h x List.mem_cons_self
    have h2 := mp_len_pr (L := L) (fun y hy => h y (List.mem_cons_of_mem _ hy))
    show _ ≤ (L.length + 1) * C
    rw [Nat.add_mul]
    omega
theorem mp_su_mul (f : Nat → Nat) (c : Nat) : ∀ n, mp_su (fun i => f i * c) n = mp_su f n * c
  | 0 => (Nat.zero_mul c).symm
  | n + 1 => by
    show mp_su (fun i => f i * c) n + f n * c = (mp_su f n + f n) * c
    rw [mp_su_mul f c n, Nat.add_mul]
def mp_nt (tk : Nat → Nat) (t : Nat) : Nat := mp_su (fun m => if tk m = t then 1 else 0) 8
theorem mp_len_t {P : mp_PB} (ok : mp_ok P) {tk : Nat → Nat} (hT : ∀ t m s, t < 4 → m < 8 → mp_app P t m s = true → tk m = t) {t C : Nat} (ht : t < 4)
    (hC : ∀ v s, mp_sv t v → s < 32 → (mp_ws P v s).length ≤ C) {s : Nat} (hs : s < 32) : (mp_ws P (8 + t) s).length ≤ mp_nt tk t * (C * C) := by
  rw [mp_wst ok s ht, mp_len_fl]
  unfold mp_nt
  rw [← mp_su_mul]
  apply mp_su_le
  intro m hm
  by_cases y : mp_app P t m s = true
  · rw [if_pos y, if_pos (hT t m s ht hm y), Nat.one_mul]
    obtain ⟨k1, k2⟩ := ok.2 t m s ht hm y
    have k1' := k1
    unfold mp_sv at k1'
    refine Nat.le_trans (mp_len_pr (C := C) ?_) (Nat.mul_le_mul_right _ (hC _ s k1 hs))
    intro x hx
    exact hC _ _ k2 (mp_ws_good ok (by omega) (by omega) hs hx).1
  · rw [if_neg y]
    exact Nat.zero_le _
def mp_mx (a b : Nat) : Nat := if a ≤ b then b else a
theorem mp_mx_l (a b : Nat) : a ≤ mp_mx a b := by unfold mp_mx; split <;> omega
theorem mp_mx_r (a b : Nat) : b ≤ mp_mx a b := by unfold mp_mx; split <;> omega
def mp_nx (n b : Nat) : Nat := mp_mx b (n * (b * b))
theorem mp_tab : ∀ a, a < 9 → ∀ b, b < 9 - a → ∀ c, c < 9 - a - b → ∀ d, d < 9 - a - b - c → mp_nx d (mp_nx c (mp_nx b (mp_nx a 1))) ≤ 1048576 := by decide +kernel
theorem mp_nt_sum (tk : Nat → Nat) : mp_nt tk 0 + mp_nt tk 1 + mp_nt tk 2 + mp_nt tk 3 ≤ 8 := by
  unfold mp_nt
  rw [← mp_su_add, ← mp_su_add, ← mp_su_add]
  refine Nat.le_trans (mp_su_le (g := fun _ => 1) (fun m _ => ?_)) (by decide)
  by_cases h0 : tk m = 0
  · simp [h0]
  · by_cases h1 : tk m = 1
    · simp [h1]
    · by_cases h2 : tk m = 2
      · simp [h2]
      · by_cases h3 : tk m = 3
        · simp [h3]
        · simp [h0, h1, h2, h3]
theorem mp_len_a {P : mp_PB} {v : Nat} (s : Nat) (hv : v < 8) : (mp_ws P v s).length ≤ 1 := by
  by_cases z : v = 0
  · subst z
    exact Nat.le_refl _
  · rw [mp_wsa P s z hv]
    split
    · exact Nat.le_refl _
    · exact Nat.zero_le _
theorem mp_len_b {P : mp_PB} (ok : mp_ok P) {tk : Nat → Nat} (hT : ∀ t m s, t < 4 → m < 8 → mp_app P t m s = true → tk m = t) {v s : Nat} (hv : v ≤ 11) (hs : s < 32) : (mp_ws P v s).length ≤ 1048576 := by
  have step : ∀ t C, t < 4 → 1 ≤ C → (∀ v s, 8 + t < v → v ≤ 11 → s < 32 → (mp_ws P v s).length ≤ C) → ∀ v s, 8 + t ≤ v → v ≤ 11 → s < 32 → (mp_ws P v s).length ≤ mp_nx (mp_nt tk t) C := by
    intro t C ht h1 hC v s hv1 hv2 hs
    by_cases e : v = 8 + t
    · subst e
      refine Nat.le_trans (mp_len_t ok hT ht (C := C) ?_ hs) (mp_mx_r _ _)
      intro v s hv hs
      rcases hv with hv | hv
      · exact Nat.le_trans (mp_len_a s (by omega)) h1
      · exact hC v s hv.1 hv.2 hs
    · exact Nat.le_trans (hC v s (by omega) hv2 hs) (mp_mx_l _ _)
  have ge1 : ∀ n b, 1 ≤ b → 1 ≤ mp_nx n b := fun n b h => Nat.le_trans h (mp_mx_l _ _)
  have h3 := step 3 1 (by omega) (Nat.le_refl 1) (fun v s h1 h2 => by omega)
  have g3 := ge1 (mp_nt tk 3) 1 (Nat.le_refl 1)
  have h2 := step 2 _ (by omega) g3 (fun v s a b => h3 v s (by omega) b)
  have g2 := ge1 (mp_nt tk 2) _ g3
  have h1 := step 1 _ (by omega) g2 (fun v s a b => h2 v s (by omega) b)
  have g1 := ge1 (mp_nt tk 1) _ g2
  have h0 := step 0 _ (by omega) g1 (fun v s a b => h1 v s (by omega) b)
  by_cases w : v < 8
  · exact Nat.le_trans (mp_len_a s w) (by decide)
  · refine Nat.le_trans (h0 v s (by omega) hv hs) ?_
    have := mp_nt_sum tk
    exact mp_tab _ (by omega) _ (by omega) _ (by omega) _ (by omega)
theorem mp_ct_len (e : Nat) : ∀ L : List (Nat × List Nat), mp_ct e L ≤ L.length
  | [] => Nat.le_refl _
  | x :: L => by
    have := mp_ct_len e L
    show (if x.1 = e then 1 else 0) + mp_ct e L ≤ L.length + 1
    split <;> omega
/-- without a method -/
def mp_rm (P : mp_PB) (m : Nat) : mp_PB := (P.1, P.2.1, fun t i s => decide (i ≠ m) && P.2.2.1 t i s, P.2.2.2.1, P.2.2.2.2)
theorem mp_rm_app (P : mp_PB) (m t i s : Nat) : mp_app (mp_rm P m) t i s = (decide (i ≠ m) && mp_app P t i s) := rfl
theorem mp_rm_ok {P : mp_PB} (ok : mp_ok P) (m : Nat) : mp_ok (mp_rm P m) := by
  refine ⟨ok.1, fun t i s ht hi ha => ?_⟩
  rw [mp_rm_app, Bool.and_eq_true] at ha
  exact ok.2 t i s ht hi ha.2
theorem mp_rm_a (P : mp_PB) (m : Nat) {v : Nat} (s : Nat) (hv : v < 8) : mp_ws (mp_rm P m) v s = mp_ws P v s := by
  by_cases z : v = 0
  · subst z
    rw [mp_ws0, mp_ws0]
  · have e1 := mp_wsa (mp_rm P m) s z hv
    have e2 := mp_wsa P s z hv
    exact e1.trans e2.symm
theorem mp_pr_congr {G G' : Nat → List (Nat × List Nat)} : ∀ {L : List (Nat × List Nat)}, (∀ x, x ∈ L → G x.1 = G' x.1) → mp_pr L G = mp_pr L G'
  | [], _ => rfl
  | x :: L, h => by
    have e1 : ∀ G, mp_pr (x :: L) G = (G x.1).map (fun y => (y.1, x.2 ++ y.2)) ++ mp_pr L G := fun _ => rfl
    rw [e1, e1, h x List.mem_cons_self, mp_pr_congr (fun y hy => h y (List.mem_cons_of_mem _ hy))]
theorem mp_rm_mw {P : mp_PB} (ok : mp_ok P) {m t i s : Nat} (ht : t < 4) (hi : i < 8) (hs : s < 32) (ha : mp_app P t i s = true) (hE : ∀ u, u < 4 → t < u → ∀ s, s < 32 → mp_ws (mp_rm P m) (8 + u) s = mp_ws P (8 + u) s) : mp_mw (mp_rm P m) i s = mp_mw P i s := by
  obtain ⟨k1, k2⟩ := ok.2 t i s ht hi ha
  have hE' : ∀ v, mp_sv t v → ∀ s, s < 32 → mp_ws (mp_rm P m) v s = mp_ws P v s := by
    intro v hv s hs
    rcases hv with hv | hv
    · exact mp_rm_a P m s (by omega)
    · have := hE (v - 8) (by omega) (by omega) s hs
      have e : 8 + (v - 8) = v := by omega
      rw [e] at this
      exact this
  show mp_pr (mp_ws (mp_rm P m) (mp_fs P i) s) (mp_ws (mp_rm P m) (mp_sn P i)) = mp_pr (mp_ws P (mp_fs P i) s) (mp_ws P (mp_sn P i))
  rw [hE' _ k1 s hs]
  apply mp_pr_congr
  intro x hx
  have k1' := k1
  unfold mp_sv at k1'
  exact hE' _ k2 _ (mp_ws_good ok (by omega) (by omega) hs hx).1
theorem mp_rm_ws {P : mp_PB} (ok : mp_ok P) {m lo : Nat} (H : ∀ t s, t < 4 → lo ≤ t → s < 32 → mp_app P t m s = true → mp_mw P m s = []) : ∀ k t, 4 - t ≤ k → t < 4 → lo ≤ t → ∀ s, s < 32 → mp_ws (mp_rm P m) (8 + t) s = mp_ws P (8 + t) s := by
  intro k
  induction k with
  | zero => intro t h1 h2; omega
  | succ k ih =>
    intro t h1 ht hlo s hs
    rw [mp_wst (mp_rm_ok ok m) s ht, mp_wst ok s ht]
    apply mp_fl_congr
    intro i _ hi
    by_cases y : mp_app P t i s = true
    · rw [if_pos y]
      by_cases z : i = m
      · subst z
        rw [mp_rm_app, decide_eq_false (fun h => h rfl)]
        exact (H t s ht hlo hs y).symm
      · rw [mp_rm_app, decide_eq_true z, y]
        exact mp_rm_mw ok ht (by omega) hs y (fun u hu htu s hs => ih u (by omega) hu (by omega) s hs)
    · rw [if_neg y, mp_rm_app, if_neg]
      rw [Bool.and_eq_true]
      exact fun h => y h.2
theorem mp_su_lt {f g : Nat → Nat} {i : Nat} : ∀ {n : Nat}, (∀ i, i < n → f i ≤ g i) → i < n → f i < g i → mp_su f n < mp_su g n
  | 0, _, h, _ => by omega
  | n + 1, h, hi, hlt => by
    show mp_su f n + f n < mp_su g n + g n
    by_cases e : i = n
    · subst e
      have := mp_su_le (f := f) (g := g) (n := i) (fun j hj => h j (by omega))
      omega
    · have := mp_su_lt (f := f) (g := g) (n := n) (fun j hj => h j (by omega)) (by omega) hlt
      have := h n (by omega)
      omega
theorem mp_useless {P : mp_PB} (ok : mp_ok P) {m τ : Nat} (hm : m < 8) (hτ : τ < 4) (hu : ∀ t s, t < 4 → mp_app P t m s = true → t = τ) :
    (∀ i, 0 ≤ i → i < 128 → mp_sl P (mp_rm P m) i) ↔ ∀ s, s < 32 → mp_app P τ m s = true → mp_mw P m s = [] := by
  constructor
  · intro h s hs ha
    apply Classical.byContradiction
    intro hne
    have hsl := h (τ * 32 + s) (Nat.zero_le _) (by omega)
    unfold mp_sl at hsl
    have e1 : (τ * 32 + s) / 32 = τ := by omega
    have e2 : (τ * 32 + s) % 32 = s := by omega
    rw [e1, e2] at hsl
    have hE : ∀ u, u < 4 → τ < u → ∀ s, s < 32 → mp_ws (mp_rm P m) (8 + u) s = mp_ws P (8 + u) s := by
      intro u hu1 hu2 s hs
      refine mp_rm_ws ok (lo := τ + 1) (fun t s ht hlo hs ha => ?_) 4 u (by omega) hu1 (by omega) s hs
      have := hu t s ht ha
      omega
    have hlt : (mp_ws (mp_rm P m) (8 + τ) s).length < (mp_ws P (8 + τ) s).length := by
      rw [mp_wst (mp_rm_ok ok m) s hτ, mp_wst ok s hτ, mp_len_fl, mp_len_fl]
      refine mp_su_lt (i := m) ?_ hm ?_
      · intro i hi
        by_cases y : mp_app P τ i s = true
        · by_cases z : i = m
          · rw [mp_rm_app, decide_eq_false (fun h => h z)]
            exact Nat.zero_le _
          · rw [mp_rm_app, decide_eq_true z, y, if_pos rfl, mp_rm_mw ok hτ hi hs y hE]
            exact Nat.le_refl _
        · rw [mp_rm_app, if_neg]
          · exact Nat.zero_le _
          · rw [Bool.and_eq_true]
            exact fun h => y h.2
      · rw [mp_rm_app, decide_eq_false (fun h => h rfl), ha, if_pos rfl]
        exact List.length_pos_iff.mpr hne
    omega
  · intro h i _ hi
    unfold mp_sl
    rw [mp_rm_ws ok (lo := 0) (fun t s ht _ hs ha => ?_) 4 (i / 32) (by omega) (by omega) (by omega) (i % 32) (by omega)]
    have := hu t s ht ha
    subst this
    exact h s hs ha
end
section
/-- bits -/
theorem xw_and_not (a s : Int32) : (a &&& (s ^^^ (-1))) = 0 ↔ (s &&& a) = a := by
  constructor
  · intro h
    apply b_ext
    intro i hi
    have h1 : bt (a &&& (s ^^^ (-1))) i = false := by rw [h]; exact b_0 i
    rw [b_and, b_xor, b_m1 i hi] at h1
    rw [b_and]
    revert h1
    generalize bt a i = x
    generalize bt s i = y
    revert x y
    decide
  · intro h
    apply b_ext
    intro i hi
    have h1 : bt (s &&& a) i = bt a i := by rw [h]
    rw [b_and] at h1
    rw [b_and, b_xor, b_m1 i hi, b_0]
    revert h1
    generalize bt a i = x
    generalize bt s i = y
    revert x y
    decide
theorem xw_and_comm (a b : Int32) : a &&& b = b &&& a := by
  apply b_ext
  intro i _
  rw [b_and, b_and, Bool.and_comm]
theorem xw_b1 : ∀ i, i < 32 → bt 1 i = decide (i = 0) := by decide
theorem xw_bit (x : Int32) {m : Nat} (hm : m < 32) : ((x >>> (nI m &&& 31)) &&& 1) = 0 ↔ bt x m = false := by
  constructor
  · intro h
    have h1 : bt ((x >>> (nI m &&& 31)) &&& 1) 0 = false := by rw [h]; exact b_0 0
    rw [b_and, b_sshr m hm x (by decide), xw_b1 0 (by decide), Nat.add_zero, if_pos hm] at h1
    simpa using h1
  · intro h
    apply b_ext
    intro i hi
    rw [b_and, b_0, xw_b1 i hi, b_sshr m hm x hi]
    by_cases z : i = 0
    · subst z
      rw [Nat.add_zero, if_pos hm, h]
      rfl
    · rw [decide_eq_false z, Bool.and_false]
theorem xw_one {m i : Nat} (hm : m < 32) (hi : i < 32) : bt ((1 : Int32) <<< (nI m &&& 31)) i = decide (i = m) := by
  rw [b_shl m hm 1 hi]
  by_cases h : m ≤ i
  · rw [decide_eq_true h, xw_b1 _ (by omega), Bool.true_and]
    by_cases z : i = m
    · rw [decide_eq_true z, decide_eq_true (by omega)]
    · rw [decide_eq_false z, decide_eq_false (by omega)]
  · rw [decide_eq_false h, decide_eq_false (by omega), Bool.false_and]
theorem xw_holds {post : Int32 → Prop} {c : Int32} {s : Nat} (h : post (if yp_hI c s then 1 else 0)) : wpX_holds post c (nI s) := by
  unfold yp_hI at h
  refine nm_e (nm_e ?_)
  have e1 := xw_and_not (c &&& 31) (nI s)
  have e2 := xw_and_comm (c >>> ((5 : Int32) &&& 31)) (nI s)
  rw [e2] at h
  refine br_c (fun h1 => br_c (fun h2 => ?_) (fun h2 => ?_)) (fun h1 => ?_)
  · rw [decide_eq_true (e1.mpr h1), decide_eq_true h2] at h
    exact h
  · rw [decide_eq_true (e1.mpr h1), decide_eq_false h2] at h
    exact h
  · rw [decide_eq_false (fun z => h1 (e1.mp z))] at h
    exact h
theorem xw_outcome {post : Int32 → Prop} (ms ll : Int32) (ac ae mt mc mf sd li wc sa pa : Nat → Int32) (fp : Nat → Int64) {a s : Nat} (ha : a < 6) (hs : s < 32) (h : post (if yp_hI (ac a) s then nI (yp_chg (ae a) s) else -1)) : wpX_outcome post (ms, ll, ac, ae, mt, mc, mf, sd, li, wc, fp, sa, pa) (nI a) (nI s) := by
  have hi : vp_in (nI a) 6 := vp_in_nI ha (by decide)
  have hc : (nI a).toNatClampNeg = a := nI_clamp (by omega)
  refine ⟨hi, ?_⟩
  rw [hc]
  apply xw_holds
  by_cases x : yp_hI (ac a) s = true
  · rw [if_pos x] at h ⊢
    refine br_f (by decide) ⟨hi, nm_e ⟨hi, nm_e ?_⟩⟩
    show post (yp_ex (ae a) s)
    rw [(yp_ex_eq (ae a) hs).1]
    exact h
  · rw [if_neg x] at h ⊢
    exact br_t rfl h
theorem xw_row (v s : Nat) : (nI v * 32 + nI s) * 32 = nI ((v * 32 + s) * 32) := by
  rw [show (32 : Int32) = nI 32 from rfl, pk_mul, nI_add, pk_mul]
theorem xw_rowOf {post : Int32 → Prop} {v s : Nat} (h : post (nI ((v * 32 + s) * 32))) : wpX_rowOf post (nI v) (nI s) := by
  show post _
  rw [xw_row]
  exact h
/-- the set of methods -/
def xw_MS (ms : Int32) (th : Nat → Int32) : Prop := ∀ i, i < 32 → bt ms i = (decide (i < 8) && decide (¬ th i = 0))
theorem xw_has {post : Int32 → Prop} (ms ll : Int32) (ac ae mt mc mf sd li wc sa pa : Nat → Int32) (fp : Nat → Int64) {th : Nat → Int32} {m : Nat} (hms : xw_MS ms th) (hm : m < 8) (h : post (if th m = 0 then 0 else 1)) : wpX_hasMethod post (ms, ll, ac, ae, mt, mc, mf, sd, li, wc, fp, sa, pa) (nI m) := by
  have hb := hms m (by omega)
  rw [decide_eq_true hm, Bool.true_and] at hb
  refine br_f (nI_pos (by omega)) (br_f (nI_ge (b := 8) (by omega) (by decide)) ?_)
  by_cases z : th m = 0
  · rw [if_pos z] at h
    refine br_t ((xw_bit ms (by omega)).mpr ?_) h
    rw [hb]
    exact decide_eq_false (fun f => f z)
  · rw [if_neg z] at h
    refine br_f (fun f => ?_) h
    have := (xw_bit ms (by omega)).mp f
    rw [hb, decide_eq_true z] at this
    exact nomatch this
/-- a cell of the tables -/
def xw_ce (c : Int32) (f : Int64) (n : Nat) (S : List Nat → Prop) : Prop := c = nI n ∧ (n = 0 → ∀ q, ¬ S q) ∧ (0 < n → ∃ q, S q ∧ f = lN (mp_en q) ∧ ∀ q', S q' → mp_en q ≤ mp_en q')
theorem xw_ce_congr {c : Int32} {f : Int64} {n n' : Nat} {S S' : List Nat → Prop} (h : xw_ce c f n S) (hn : n = n') (hS : ∀ q, S q ↔ S' q) : xw_ce c f n' S' := by
  subst hn
  obtain ⟨h1, h2, h3⟩ := h
  refine ⟨h1, fun z q hq => h2 z q ((hS q).mpr hq), fun z => ?_⟩
  obtain ⟨q, q1, q2, q3⟩ := h3 z
  exact ⟨q, (hS q).mp q1, q2, fun q' hq' => q3 q' ((hS q').mpr hq')⟩
def xw_tv (P : mp_PB) (v : Nat) (wc : Nat → Int32) (fp : Nat → Int64) : Prop := ∀ s, s < 32 → ∀ e, e < 32 → xw_ce (wc ((v * 32 + s) * 32 + e)) (fp ((v * 32 + s) * 32 + e)) (mp_cn P v s e) (fun q => (e, q) ∈ mp_ws P v s)
def xw_fr (r : Nat) (wc0 wc : Nat → Int32) (fp0 fp : Nat → Int64) : Prop := ∀ j, (j < r ∨ r + 32 ≤ j) → wc j = wc0 j ∧ fp j = fp0 j
theorem xw_clear2 {post : SX → Prop} (ms ll : Int32) (ac ae mt mc mf sd li sa pa : Nat → Int32) {r : Nat} (hr : r + 32 ≤ 12288) (wc0 : Nat → Int32) (fp0 : Nat → Int64) : ∀ (k e F : Nat) (wc : Nat → Int32) (fp : Nat → Int64), e + k = 32 → k < F → (∀ i, i < e → wc (r + i) = 0) → xw_fr r wc0 wc fp0 fp →
    (∀ (wc : Nat → Int32) (fp : Nat → Int64), (∀ i, i < 32 → wc (r + i) = 0) → xw_fr r wc0 wc fp0 fp → post (ms, ll, ac, ae, mt, mc, mf, sd, li, wc, fp, sa, pa)) → wX_clearRow_2 post (nI r) ms ll F (nI e) ac ae mt mc mf sd li wc fp sa pa := by
  intro k
  induction k with
  | zero =>
    intro e F wc fp h1 hF h2 h3 H
    obtain ⟨F, rfl⟩ : ∃ n, F = n + 1 := ⟨F - 1, by omega⟩
    exact br_t (nI_le (a := 32) (by omega) (by omega)) (H wc fp (fun i hi => h2 i (by omega)) h3)
  | succ k ih =>
    intro e F wc fp h1 hF h2 h3 H
    obtain ⟨F, rfl⟩ : ∃ n, F = n + 1 := ⟨F - 1, by omega⟩
    refine br_f (nI_ge (b := 32) (by omega) (by decide)) ?_
    rw [nI_add, nI_clamp (by omega : r + e < 2 ^ 31)]
    have hin : vp_in (nI (r + e)) 12288 := vp_in_nI (by omega) (by decide)
    refine ⟨hin, nm_e ⟨hin, nm_e (nm_r (nI_1 _) (ih (e + 1) F _ _ (by omega) (by omega) ?_ ?_ H))⟩⟩
    · intro i hi
      by_cases z : i = e
      · subst z
        exact pk_us
      · exact (pk_un (by omega)).trans (h2 i (by omega))
    · intro j hj
      have := h3 j hj
      exact ⟨(pk_un (by omega)).trans this.1, (pk_uLn (by omega)).trans this.2⟩
theorem xw_clear {post : SX → Prop} (ms ll : Int32) (ac ae mt mc mf sd li wc sa pa : Nat → Int32) (fp : Nat → Int64) {r : Nat} (hr : r + 32 ≤ 12288) (H : ∀ (wc' : Nat → Int32) (fp' : Nat → Int64), (∀ i, i < 32 → wc' (r + i) = 0) → xw_fr r wc wc' fp fp' → post (ms, ll, ac, ae, mt, mc, mf, sd, li, wc', fp', sa, pa)) : wpX_clearRow post (ms, ll, ac, ae, mt, mc, mf, sd, li, wc, fp, sa, pa) (nI r) :=
  ⟨33, xw_clear2 _ _ _ _ _ _ _ _ _ _ _ hr wc fp 32 0 33 wc fp (by omega) (by omega) (fun i hi => by omega) (fun j _ => ⟨rfl, rfl⟩) H⟩
/-- plans as longs -/
theorem xw_len {q : List Nat} (hq : mp_pg q) : (lN (mp_en q) >>> ((48 : Int32).toInt64 &&& 63)).toInt32 = nI q.length := by
  have hb := mp_en_b hq
  have h1 := mp_dg_16 hq.2 hq.1
  rw [pf_shr (d := 48) (by decide) (by omega), lN_i]
  congr 1
  unfold mp_en
  omega
theorem xw_mask {q : List Nat} (hq : mp_pg q) : lN (mp_en q) &&& 281474976710655 = lN (mp_dg q) := by
  have hb := mp_en_b hq
  have h1 := mp_dg_16 hq.2 hq.1
  have e := wb_mask (n := mp_en q) (k := 48) (by omega) (by decide)
  have e2 : mp_en q % 2 ^ 48 = mp_dg q := by
    unfold mp_en
    omega
  rw [e2] at e
  exact e
theorem xw_joined {post : Int64 → Prop} {p q : List Nat} (hp : mp_pg p) (hq : mp_pg q) (hl : p.length + q.length ≤ 16) (h : post (lN (mp_en (p ++ q)))) : wpX_joined post (lN (mp_en p)) (lN (mp_en q)) := by
  show wpX_lengthOf _ _
  unfold wpX_lengthOf
  rw [xw_len hp, xw_len hq]
  refine nm_e (nm_e ?_)
  rw [xw_mask hp, xw_mask hq, nI_add, nI_l (by omega)]
  have e3 : (3 : Int32) * nI q.length = nI (3 * q.length) := pk_mul 3 q.length
  have e8 : 2 ^ (3 * q.length) = 8 ^ q.length := by
    rw [Nat.pow_mul]
  have hd := mp_dg_lt q hq.2
  have hpq := mp_pg_app hp hq hl
  have h16 := mp_dg_16 hpq.2 hpq.1
  have hap := mp_dg_app p q
  have hb := mp_en_b hpq
  have e48 : lN (p.length + q.length) <<< ((48 : Int32).toInt64 &&& 63) = lN ((p.length + q.length) * 2 ^ 48) := wb_shl _ (k := 48) (by decide)
  rw [e3, wb_shl _ (by omega), e48]
  rw [g_or (k := 3 * q.length) rfl (by rw [e8]; exact hd) (by rw [e8]; omega)]
  rw [e8, ← hap]
  have e4 : mp_en (p ++ q) = (p.length + q.length) * 2 ^ 48 + mp_dg (p ++ q) := by
    unfold mp_en
    rw [List.length_append]
  rw [g_or (k := 48) rfl h16 (by omega), ← e4]
  exact h
theorem xw_addWays {post : SX → Prop} (ms ll : Int32) (ac ae mt mc mf sd li wc sa pa : Nat → Int32) (fp : Nat → Int64) {i n k : Nat} {S T : List Nat → Prop} {r : List Nat} (hi : i < 12288) (hce : xw_ce (wc i) (fp i) n S) (hn : n + k < 2 ^ 31) (hk : 0 < k) (hr : mp_pg r) (hS : ∀ q, S q → mp_pg q) (hT : T r) (hm : ∀ q, T q → mp_en r ≤ mp_en q)
    (H : ∀ (wc' : Nat → Int32) (fp' : Nat → Int64), xw_ce (wc' i) (fp' i) (n + k) (fun q => S q ∨ T q) → (∀ j, j ≠ i → wc' j = wc j ∧ fp' j = fp j) → post (ms, ll, ac, ae, mt, mc, mf, sd, li, wc', fp', sa, pa)) :
    wpX_addWays post (ms, ll, ac, ae, mt, mc, mf, sd, li, wc, fp, sa, pa) (nI i) (nI k) (lN (mp_en r)) := by
  obtain ⟨c1, c2, c3⟩ := hce
  have hin : vp_in (nI i) 12288 := vp_in_nI hi (by decide)
  have hc : (nI i).toNatClampNeg = i := nI_clamp (by omega)
  have b := mp_en_b hr
  have fin : ∀ fp' : Nat → Int64, (∀ j, j ≠ i → fp' j = fp j) → (∃ q, (S q ∨ T q) ∧ fp' i = lN (mp_en q) ∧ ∀ q', (S q' ∨ T q') → mp_en q ≤ mp_en q') → wX_addWays_27 post (nI i) (nI k) ms ll ac ae mt mc mf sd li wc fp' sa pa := by
    intro fp' hf hq
    refine ⟨hin, hin, ?_⟩
    rw [hc, c1, nI_add]
    refine nm_e (H _ fp' ⟨pk_us, fun z => by omega, fun _ => hq⟩ (fun j hj => ⟨pk_un hj, hf j hj⟩))
  have put : (∀ q, S q → mp_en r ≤ mp_en q) → wX_addWays_20 post (nI i) (nI k) (lN (mp_en r)) ms ll ac ae mt mc mf sd li wc fp sa pa := by
    intro hSr
    refine ⟨hin, ?_⟩
    rw [hc]
    refine nm_e (fin _ (fun j hj => pk_uLn hj) ⟨r, Or.inr hT, pk_uLs, fun q' hq' => ?_⟩)
    rcases hq' with hq' | hq'
    · exact hSr q' hq'
    · exact hm q' hq'
  refine ⟨hin, ?_⟩
  rw [hc, c1]
  refine pk_eq n 0 (fun z => put (fun q hq => absurd hq (c2 z q))) (fun z => ⟨hin, ?_⟩)
  obtain ⟨q, q1, q2, q3⟩ := c3 (by omega)
  have bq := mp_en_b (hS q q1)
  rw [q2]
  have hle := pk_lLE (a := mp_en q) (b := mp_en r) (by omega) (by omega)
  refine br_c (fun y => fin fp (fun j _ => rfl) ⟨q, Or.inl q1, q2, fun q' hq' => ?_⟩) (fun y => put (fun q' hq' => ?_))
  · have := hle.mp y
    rcases hq' with hq' | hq'
    · exact q3 q' hq'
    · have := hm q' hq'
      omega
  · have : ¬ mp_en q ≤ mp_en r := fun z => y (hle.mpr z)
    have := q3 q' hq'
    omega
end
section
def xw_T (P : mp_PB) (v1 v2 s b e : Nat) (r : List Nat) : Prop := ∃ p q, (b, p) ∈ mp_ws P v1 s ∧ (e, q) ∈ mp_ws P v2 b ∧ r = p ++ q
theorem xw_an16 : ∀ t, t < 4 → mp_an (8 + t) ≤ 16 := by decide
theorem xw_pg {P : mp_PB} (ok : mp_ok P) {t v s e : Nat} {q : List Nat} (ht : t < 4) (hv : mp_sv t v) (hs : s < 32) (h : (e, q) ∈ mp_ws P v s) : mp_pg q ∧ 2 * q.length ≤ 16 ∧ e < 32 := by
  have n1 := (mp_an_s ht hv).1
  have n2 := xw_an16 t ht
  unfold mp_sv at hv
  obtain ⟨g1, g2, g3, g4⟩ := mp_ws_good ok (by omega) (by omega) hs h
  dsimp only at g1 g2 g3
  exact ⟨⟨by omega, fun a ha => by have := g3 a ha; omega⟩, by omega, g1⟩
theorem xw_58 {post : SX → Prop} {J : Int32 → Int32 → Int32 → (Nat → Int32) → (Nat → Int32) → (Nat → Int32) → (Nat → Int32) → (Nat → Int32) → (Nat → Int32) → (Nat → Int32) → (Nat → Int32) → (Nat → Int64) → (Nat → Int32) → (Nat → Int32) → Prop} {x1 : Int32} (ms ll : Int32) (ac ae mt mc mf sd li sa pa : Nat → Int32) {P : mp_PB} (ok : mp_ok P) {t s b v1 v2 : Nat} (ht : t < 4) (hs : s < 32) (hb : b < 32) (h1 : mp_sv t v1) (h2 : mp_sv t v2)
    {wc0 : Nat → Int32} {fp0 : Nat → Int64} (A0 : ∀ v, mp_sv t v → xw_tv P v wc0 fp0) {n0 : Nat → Nat} {S0 : Nat → List Nat → Prop} (hS0 : ∀ e q, S0 e q → mp_pg q) (hbd : ∀ e, e < 32 → n0 e + mp_cn P v1 s b * mp_cn P v2 b e < 2 ^ 31) (hc : 0 < mp_cn P v1 s b) (hc2 : ∀ e, mp_cn P v2 b e < 2 ^ 31) :
    ∀ (k e F : Nat) (wc : Nat → Int32) (fp : Nat → Int64), e + k = 32 → k < F → xw_fr (((8 + t) * 32 + s) * 32) wc0 wc fp0 fp →
    (∀ i, i < e → xw_ce (wc (((8 + t) * 32 + s) * 32 + i)) (fp (((8 + t) * 32 + s) * 32 + i)) (n0 i + mp_cn P v1 s b * mp_cn P v2 b i) (fun r => S0 i r ∨ xw_T P v1 v2 s b i r)) →
    (∀ i, e ≤ i → i < 32 → xw_ce (wc (((8 + t) * 32 + s) * 32 + i)) (fp (((8 + t) * 32 + s) * 32 + i)) (n0 i) (S0 i)) →
    (∀ (wc : Nat → Int32) (fp : Nat → Int64), xw_fr (((8 + t) * 32 + s) * 32) wc0 wc fp0 fp → (∀ i, i < 32 → xw_ce (wc (((8 + t) * 32 + s) * 32 + i)) (fp (((8 + t) * 32 + s) * 32 + i)) (n0 i + mp_cn P v1 s b * mp_cn P v2 b i) (fun r => S0 i r ∨ xw_T P v1 v2 s b i r)) → J (nI (b + 1)) ms ll ac ae mt mc mf sd li wc fp sa pa) →
    wX_addWaysBy_58 post J x1 (nI (((8 + t) * 32 + s) * 32)) (nI ((v1 * 32 + s) * 32)) (nI b) (nI (mp_cn P v1 s b)) (nI ((v2 * 32 + b) * 32)) F (nI e) ms ll ac ae mt mc mf sd li wc fp sa pa := by
  have w1 := h1
  have w2 := h2
  unfold mp_sv at w1 w2
  intro k
  induction k with
  | zero =>
    intro e F wc fp he hF hfr hlo hhi H
    obtain ⟨F, rfl⟩ : ∃ n, F = n + 1 := ⟨F - 1, by omega⟩
    exact br_t (nI_le (a := 32) (by omega) (by omega)) (nm_r (nI_1 _) (H wc fp hfr (fun i hi => hlo i (by omega))))
  | succ k ih =>
    intro e F wc fp he hF hfr hlo hhi H
    obtain ⟨F, rfl⟩ : ∃ n, F = n + 1 := ⟨F - 1, by omega⟩
    have he32 : e < 32 := by omega
    have hin2 : vp_in (nI ((v2 * 32 + b) * 32 + e)) 12288 := vp_in_nI (by omega) (by decide)
    have hin1 : vp_in (nI ((v1 * 32 + s) * 32 + b)) 12288 := vp_in_nI (by omega) (by decide)
    have f1 := hfr ((v1 * 32 + s) * 32 + b) (by omega)
    have f2 := hfr ((v2 * 32 + b) * 32 + e) (by omega)
    have c1 := A0 v1 h1 s hs b hb
    have c2 := A0 v2 h2 b hb e he32
    refine br_f (nI_ge (b := 32) (by omega) (by decide)) ?_
    rw [nI_add ((v2 * 32 + b) * 32) e, nI_add ((v1 * 32 + s) * 32) b, nI_add (((8 + t) * 32 + s) * 32) e, nI_clamp (by omega : (v2 * 32 + b) * 32 + e < 2 ^ 31), nI_clamp (by omega : (v1 * 32 + s) * 32 + b < 2 ^ 31), f1.2, f2.1, f2.2, c2.1, pk_mul]
    refine ⟨hin2, pk_le (mp_cn P v2 b e) 0 (fun z => nm_r (nI_1 _) ?_) (fun z => ⟨hin1, hin2, ?_⟩) rfl rfl (hc2 e)⟩
    · refine ih (e + 1) F wc fp (by omega) (by omega) hfr ?_ (fun i i1 i2 => hhi i (by omega) i2) H
      intro i hi
      by_cases y : i = e
      · subst y
        have z0 : mp_cn P v2 b i = 0 := by omega
        refine xw_ce_congr (hhi i (Nat.le_refl i) he32) (by rw [z0]; omega) (fun q => ⟨Or.inl, fun h => ?_⟩)
        rcases h with h | ⟨p, r, g1, g2, g3⟩
        · exact h
        · exact absurd g2 (c2.2.1 z0 r)
      · exact hlo i (by omega)
    · obtain ⟨p, p1, p2, p3⟩ := c1.2.2 hc
      obtain ⟨q, q1, q2, q3⟩ := c2.2.2 z
      obtain ⟨gp, lp, _⟩ := xw_pg ok ht h1 hs p1
      obtain ⟨gq, lq, _⟩ := xw_pg ok ht h2 hb q1
      rw [p2, q2]
      refine xw_joined gp gq (by omega) ⟨hin2, ?_⟩
      refine xw_addWays (T := xw_T P v1 v2 s b e) (r := p ++ q) _ _ _ _ _ _ _ _ _ _ _ _ _ (by omega) (hhi e (Nat.le_refl e) he32) (hbd e he32) (Nat.mul_pos hc z) (mp_pg_app gp gq (by omega)) (hS0 e) ⟨p, q, p1, q1, rfl⟩ ?_ ?_
      · rintro r ⟨p', q', g1, g2, rfl⟩
        obtain ⟨gp', lp', _⟩ := xw_pg ok ht h1 hs g1
        obtain ⟨gq', lq', _⟩ := xw_pg ok ht h2 hb g2
        exact mp_en_app gp gq gp' gq' (by omega) (by omega) (p3 p' g1) (q3 q' g2)
      · intro wc' fp' hce hfr'
        refine nm_r (nI_1 _) (ih (e + 1) F wc' fp' (by omega) (by omega) ?_ ?_ ?_ H)
        · intro j hj
          have a := hfr' j (by omega)
          have b := hfr j hj
          exact ⟨a.1.trans b.1, a.2.trans b.2⟩
        · intro i hi
          by_cases y : i = e
          · subst y
            exact hce
          · have a := hfr' (((8 + t) * 32 + s) * 32 + i) (by omega)
            rw [a.1, a.2]
            exact hlo i (by omega)
        · intro i i1 i2
          have a := hfr' (((8 + t) * 32 + s) * 32 + i) (by omega)
          rw [a.1, a.2]
          exact hhi i (by omega) i2
theorem xw_15 {post : SX → Prop} (ms ll : Int32) (ac ae mt mc mf sd li sa pa : Nat → Int32) {P : mp_PB} (ok : mp_ok P) {t s m v1 v2 : Nat} (ht : t < 4) (hs : s < 32) (hm : m < 8) (h1 : mp_sv t v1) (h2 : mp_sv t v2) (hsd : sd m = nI v2)
    {wc0 : Nat → Int32} {fp0 : Nat → Int64} (A0 : ∀ v, mp_sv t v → xw_tv P v wc0 fp0) {n0 : Nat → Nat} {S0 : Nat → List Nat → Prop} (hS0 : ∀ e q, S0 e q → mp_pg q) (hbd : ∀ e, e < 32 → n0 e + mp_su (fun b => mp_cn P v1 s b * mp_cn P v2 b e) 32 < 2 ^ 31) (hcn : ∀ v b e, mp_sv t v → b < 32 → mp_cn P v b e < 2 ^ 31)
    (H : ∀ (wc : Nat → Int32) (fp : Nat → Int64), xw_fr (((8 + t) * 32 + s) * 32) wc0 wc fp0 fp → (∀ i, i < 32 → xw_ce (wc (((8 + t) * 32 + s) * 32 + i)) (fp (((8 + t) * 32 + s) * 32 + i)) (n0 i + mp_su (fun b => mp_cn P v1 s b * mp_cn P v2 b i) 32) (fun r => S0 i r ∨ ∃ b, b < 32 ∧ xw_T P v1 v2 s b i r)) → post (ms, ll, ac, ae, mt, mc, mf, sd, li, wc, fp, sa, pa)) :
    ∀ (k b F : Nat) (wc : Nat → Int32) (fp : Nat → Int64), b + k = 32 → k < F → xw_fr (((8 + t) * 32 + s) * 32) wc0 wc fp0 fp →
    (∀ i, i < 32 → xw_ce (wc (((8 + t) * 32 + s) * 32 + i)) (fp (((8 + t) * 32 + s) * 32 + i)) (n0 i + mp_su (fun b => mp_cn P v1 s b * mp_cn P v2 b i) b) (fun r => S0 i r ∨ ∃ b', b' < b ∧ xw_T P v1 v2 s b' i r)) →
    wX_addWaysBy_15 post (nI m) (nI (((8 + t) * 32 + s) * 32)) (nI ((v1 * 32 + s) * 32)) F (nI b) ms ll ac ae mt mc mf sd li wc fp sa pa := by
  have w1 := h1
  have w2 := h2
  unfold mp_sv at w1 w2
  intro k
  induction k with
  | zero =>
    intro b F wc fp hb hF hfr hce
    obtain ⟨F, rfl⟩ : ∃ n, F = n + 1 := ⟨F - 1, by omega⟩
    obtain rfl : b = 32 := by omega
    exact br_t (nI_le (a := 32) (by omega) (by omega)) (H wc fp hfr hce)
  | succ k ih =>
    intro b F wc fp hb hF hfr hce
    obtain ⟨F, rfl⟩ : ∃ n, F = n + 1 := ⟨F - 1, by omega⟩
    have hb32 : b < 32 := by omega
    have hin1 : vp_in (nI ((v1 * 32 + s) * 32 + b)) 12288 := vp_in_nI (by omega) (by decide)
    have f1 := hfr ((v1 * 32 + s) * 32 + b) (by omega)
    have c1 := A0 v1 h1 s hs b hb32
    refine br_f (nI_ge (b := 32) (by omega) (by decide)) ?_
    rw [nI_add ((v1 * 32 + s) * 32) b, nI_clamp (by omega : (v1 * 32 + s) * 32 + b < 2 ^ 31), f1.1, c1.1]
    refine ⟨hin1, nm_e ?_⟩
    refine pk_eq (mp_cn P v1 s b) 0 (fun z => nm_r (nI_1 _) ?_) (fun z => ⟨vp_in_nI hm (by decide), ?_⟩) rfl rfl (hcn v1 s b h1 hs)
    · refine ih (b + 1) F wc fp (by omega) (by omega) hfr ?_
      intro i hi
      refine xw_ce_congr (hce i hi) ?_ (fun q => ⟨fun h => ?_, fun h => ?_⟩)
      · show _ = n0 i + (mp_su _ b + mp_cn P v1 s b * _)
        rw [z, Nat.zero_mul, Nat.add_zero]
      · rcases h with h | ⟨b', g1, g2⟩
        · exact Or.inl h
        · exact Or.inr ⟨b', by omega, g2⟩
      · rcases h with h | ⟨b', g1, g2⟩
        · exact Or.inl h
        · by_cases y : b' = b
          · subst y
            obtain ⟨p, r, k1, k2, k3⟩ := g2
            exact absurd k1 (c1.2.1 z p)
          · exact Or.inr ⟨b', by omega, g2⟩
    · rw [nI_clamp (by omega : m < 2 ^ 31), hsd]
      refine xw_rowOf ⟨33, ?_⟩
      have hmono : ∀ e, mp_su (fun b => mp_cn P v1 s b * mp_cn P v2 b e) b + mp_cn P v1 s b * mp_cn P v2 b e ≤ mp_su (fun b => mp_cn P v1 s b * mp_cn P v2 b e) 32 := fun e => mp_su_mono (fun b => mp_cn P v1 s b * mp_cn P v2 b e) (m := b + 1) hb32
      refine xw_58 (n0 := fun i => n0 i + mp_su (fun b => mp_cn P v1 s b * mp_cn P v2 b i) b) (S0 := fun i r => S0 i r ∨ ∃ b', b' < b ∧ xw_T P v1 v2 s b' i r) _ _ _ _ _ _ _ _ _ _ _ ok ht hs hb32 h1 h2 A0 ?_ ?_ (by omega) (fun e => hcn v2 b e h2 hb32) 32 0 33 wc fp (by omega) (by omega) hfr (fun i hi => by omega) (fun i _ hi => hce i hi) ?_
      · intro e q hq
        rcases hq with hq | ⟨b', g1, p, r, k1, k2, k3⟩
        · exact hS0 e q hq
        · obtain ⟨gp, lp, _⟩ := xw_pg ok ht h1 hs k1
          obtain ⟨gq, lq, _⟩ := xw_pg ok ht h2 (by omega) k2
          rw [k3]
          exact mp_pg_app gp gq (by omega)
      · intro e he
        have a := hbd e he
        have b := hmono e
        omega
      · intro wc' fp' hfr' hce'
        refine ih (b + 1) F wc' fp' (by omega) (by omega) hfr' ?_
        intro i hi
        refine xw_ce_congr (hce' i hi) (Nat.add_assoc _ _ _) (fun q => ⟨fun h => ?_, fun h => ?_⟩)
        · rcases h with (h | ⟨b', g1, g2⟩) | h
          · exact Or.inl h
          · exact Or.inr ⟨b', by omega, g2⟩
          · exact Or.inr ⟨b, by omega, h⟩
        · rcases h with h | ⟨b', g1, g2⟩
          · exact Or.inl (Or.inl h)
          · by_cases y : b' = b
            · subst y
              exact Or.inr g2
            · exact Or.inl (Or.inr ⟨b', by omega, g2⟩)
/-- what the component keeps of the methods -/
def xw_M (ms : Int32) (mf sd th sp : Nat → Int32) : Prop := xw_MS ms th ∧ ∀ m, m < 8 → ¬ th m = 0 → mf m = sp m &&& 15 ∧ sd m = sp m >>> ((4 : Int32) &&& 31)
def xw_SM (P : mp_PB) (t s m e : Nat) (r : List Nat) : Prop := ∃ i, i < m ∧ mp_app P t i s = true ∧ ∃ b, b < 32 ∧ xw_T P (mp_fs P i) (mp_sn P i) s b e r
theorem xw_tk {ac ae th mt mc sp : Nat → Int32} (hok : yp_ok th mt sp) : ∀ t m s, t < 4 → m < 8 → mp_app (yp_P ac ae th mt mc sp) t m s = true → (fun m => (mt m).toNatClampNeg) m = t := by
  intro t m s ht hm ha
  obtain ⟨h1, h2, h3⟩ := yp_app.mp ha
  show (mt m).toNatClampNeg = t
  rw [h2, nI_clamp (by omega)]
theorem xw_cnb {ac ae th mt mc sp : Nat → Int32} (hok : yp_ok th mt sp) {v s : Nat} (e : Nat) (hv : v ≤ 11) (hs : s < 32) : mp_cn (yp_P ac ae th mt mc sp) v s e ≤ 1048576 :=
  Nat.le_trans (mp_ct_len e _) (mp_len_b (yp_mok hok) (xw_tk hok) hv hs)
theorem xw_31 {post : SX → Prop} {J2 J8 : Int32 → Int32 → Int32 → (Nat → Int32) → (Nat → Int32) → (Nat → Int32) → (Nat → Int32) → (Nat → Int32) → (Nat → Int32) → (Nat → Int32) → (Nat → Int32) → (Nat → Int64) → (Nat → Int32) → (Nat → Int32) → Prop} (ms ll : Int32) (ac ae mt mc mf sd li sa pa : Nat → Int32) {th sp : Nat → Int32} (hok : yp_ok th mt sp) (hM : xw_M ms mf sd th sp) {t s : Nat} (ht : t < 4) (hs : s < 32)
    {wc0 : Nat → Int32} {fp0 : Nat → Int64} (A0 : ∀ v, mp_sv t v → xw_tv (yp_P ac ae th mt mc sp) v wc0 fp0)
    (H : ∀ (wc : Nat → Int32) (fp : Nat → Int64), xw_fr (((8 + t) * 32 + s) * 32) wc0 wc fp0 fp → (∀ i, i < 32 → xw_ce (wc (((8 + t) * 32 + s) * 32 + i)) (fp (((8 + t) * 32 + s) * 32 + i)) (mp_su (mp_am (yp_P ac ae th mt mc sp) t s i) 8) (xw_SM (yp_P ac ae th mt mc sp) t s 8 i)) → J8 (nI (s + 1)) ms ll ac ae mt mc mf sd li wc fp sa pa) :
    ∀ (k m F : Nat) (wc : Nat → Int32) (fp : Nat → Int64), m + k = 8 → k < F → xw_fr (((8 + t) * 32 + s) * 32) wc0 wc fp0 fp →
    (∀ i, i < 32 → xw_ce (wc (((8 + t) * 32 + s) * 32 + i)) (fp (((8 + t) * 32 + s) * 32 + i)) (mp_su (mp_am (yp_P ac ae th mt mc sp) t s i) m) (xw_SM (yp_P ac ae th mt mc sp) t s m i)) →
    wX_fillTaskSteps_31 post J2 J8 (nI t) (nI s) (nI (((8 + t) * 32 + s) * 32)) F (nI m) ms ll ac ae mt mc mf sd li wc fp sa pa := by
  have ok := yp_mok (co := ac) (ef := ae) (de := mc) hok
  intro k
  induction k with
  | zero =>
    intro m F wc fp hm hF hfr hce
    obtain ⟨F, rfl⟩ : ∃ n, F = n + 1 := ⟨F - 1, by omega⟩
    obtain rfl : m = 8 := by omega
    exact br_t (nI_le (a := 8) (by omega) (by omega)) (nm_r (nI_1 _) (H wc fp hfr hce))
  | succ k ih =>
    intro m F wc fp hm hF hfr hce
    obtain ⟨F, rfl⟩ : ∃ n, F = n + 1 := ⟨F - 1, by omega⟩
    have hm8 : m < 8 := by omega
    have hin : vp_in (nI m) 8 := vp_in_nI hm8 (by decide)
    have hcl : (nI m).toNatClampNeg = m := nI_clamp (by omega)
    have skip : ¬ mp_app (yp_P ac ae th mt mc sp) t m s = true → wX_fillTaskSteps_31 post J2 J8 (nI t) (nI s) (nI (((8 + t) * 32 + s) * 32)) F (nI (m + 1)) ms ll ac ae mt mc mf sd li wc fp sa pa := by
      intro ha
      refine ih (m + 1) F wc fp (by omega) (by omega) hfr ?_
      intro i hi
      refine xw_ce_congr (hce i hi) ?_ (fun q => ⟨fun h => ?_, fun h => ?_⟩)
      · show _ = mp_su _ m + mp_am _ t s i m
        unfold mp_am
        rw [if_neg ha, Nat.add_zero]
      · obtain ⟨j, g1, g2⟩ := h
        exact ⟨j, by omega, g2⟩
      · obtain ⟨j, g1, g2, g3⟩ := h
        by_cases y : j = m
        · subst y
          exact absurd g2 ha
        · exact ⟨j, by omega, g2, g3⟩
    refine br_f (nI_ge (b := 8) (by omega) (by decide)) ?_
    refine xw_has _ _ _ _ _ _ _ _ _ _ _ _ _ hM.1 hm8 ?_
    by_cases z : th m = 0
    · rw [if_pos z]
      exact br_t rfl (nm_r (nI_1 _) (skip (fun h => (yp_app.mp h).1 z)))
    rw [if_neg z]
    refine br_f (by decide) ⟨hin, ?_⟩
    rw [hcl]
    refine br_c (fun w => ⟨hin, ?_⟩) (fun w => nm_r (nI_1 _) (skip (fun h => w (yp_app.mp h).2.1)))
    apply xw_holds
    by_cases x : yp_hI (mc m) s = true
    · rw [if_pos x]
      refine br_f (by decide) ?_
      have ha : mp_app (yp_P ac ae th mt mc sp) t m s = true := yp_app.mpr ⟨z, w, x⟩
      obtain ⟨k1, k2⟩ := ok.2 t m s ht hm8 ha
      obtain ⟨t', kk, ht', e1, hkk, e2, s1, s2⟩ := (hok m hm8).2 z
      obtain ⟨m1, m2⟩ := hM.2 m hm8 z
      have ef := yp_fs (co := ac) (ef := ae) (th := th) (ta := mt) (de := mc) e2 hkk
      have es := yp_sn (co := ac) (ef := ae) (th := th) (ta := mt) (de := mc) e2 hkk
      have hmf : mf m = nI (mp_fs (yp_P ac ae th mt mc sp) m) := by rw [m1, ef.2, ef.1]
      have hsd : sd m = nI (mp_sn (yp_P ac ae th mt mc sp) m) := by rw [m2, es.2, es.1]
      have ham : ∀ i, mp_su (mp_am (yp_P ac ae th mt mc sp) t s i) m + mp_su (fun b => mp_cn (yp_P ac ae th mt mc sp) (mp_fs (yp_P ac ae th mt mc sp) m) s b * mp_cn (yp_P ac ae th mt mc sp) (mp_sn (yp_P ac ae th mt mc sp) m) b i) 32 = mp_su (mp_am (yp_P ac ae th mt mc sp) t s i) (m + 1) := by
        intro i
        show _ = mp_su _ m + mp_am _ t s i m
        unfold mp_am
        rw [if_pos ha]
      refine ⟨hin, ?_⟩
      rw [hcl, hmf]
      refine xw_rowOf ⟨33, ?_⟩
      refine xw_15 (n0 := fun i => mp_su (mp_am (yp_P ac ae th mt mc sp) t s i) m) (S0 := xw_SM (yp_P ac ae th mt mc sp) t s m) _ _ _ _ _ _ _ _ _ _ _ ok ht hs hm8 k1 k2 hsd A0 ?_ ?_ ?_ ?_ 32 0 33 wc fp (by omega) (by omega) hfr ?_
      · rintro e q ⟨i, g1, g2, b, g3, p, r, g4, g5, g6⟩
        obtain ⟨l1, l2⟩ := ok.2 t i s ht (by omega) g2
        obtain ⟨gp, lp, _⟩ := xw_pg ok ht l1 hs g4
        obtain ⟨gq, lq, _⟩ := xw_pg ok ht l2 g3 g5
        rw [g6]
        exact mp_pg_app gp gq (by omega)
      · intro e he
        show mp_su _ m + _ < 2 ^ 31
        rw [ham e]
        have a := mp_su_mono (mp_am (yp_P ac ae th mt mc sp) t s e) (m := m + 1) (n := 8) (by omega)
        rw [← mp_cn_t ok e ht hs] at a
        have b := xw_cnb (ac := ac) (ae := ae) (mc := mc) hok (v := 8 + t) e (by omega) hs
        omega
      · intro v b e hv hb
        unfold mp_sv at hv
        have := xw_cnb (ac := ac) (ae := ae) (mc := mc) hok (v := v) (s := b) e (by omega) hb
        omega
      · intro wc' fp' hfr' hce'
        refine nm_r (nI_1 _) (ih (m + 1) F wc' fp' (by omega) (by omega) hfr' ?_)
        intro i hi
        refine xw_ce_congr (hce' i hi) (ham i) (fun q => ⟨fun h => ?_, fun h => ?_⟩)
        · rcases h with ⟨j, g1, g2⟩ | ⟨b, g1, g2⟩
          · exact ⟨j, by omega, g2⟩
          · exact ⟨m, by omega, ha, b, g1, g2⟩
        · obtain ⟨j, g1, g2, b, g3, g4⟩ := h
          by_cases y : j = m
          · subst y
            exact Or.inr ⟨b, g3, g4⟩
          · exact Or.inl ⟨j, by omega, g2, b, g3, g4⟩
      · intro i hi
        refine xw_ce_congr (hce i hi) (Nat.add_zero _).symm (fun q => ⟨Or.inl, fun h => ?_⟩)
        rcases h with h | ⟨b, g1, g2⟩
        · exact h
        · omega
    · rw [if_neg x]
      exact br_t rfl (nm_r (nI_1 _) (skip (fun h => x (yp_app.mp h).2.2)))
end
section
theorem xw_8 {post : SX → Prop} {J2 : Int32 → Int32 → Int32 → (Nat → Int32) → (Nat → Int32) → (Nat → Int32) → (Nat → Int32) → (Nat → Int32) → (Nat → Int32) → (Nat → Int32) → (Nat → Int32) → (Nat → Int64) → (Nat → Int32) → (Nat → Int32) → Prop} (ms ll : Int32) (ac ae mt mc mf sd li sa pa : Nat → Int32) {th sp : Nat → Int32} (hok : yp_ok th mt sp) (hM : xw_M ms mf sd th sp) {t : Nat} (ht : t < 4)
    (H : ∀ (wc : Nat → Int32) (fp : Nat → Int64), (∀ v, mp_sv t v → xw_tv (yp_P ac ae th mt mc sp) v wc fp) → xw_tv (yp_P ac ae th mt mc sp) (8 + t) wc fp → J2 (nI t + (-1)) ms ll ac ae mt mc mf sd li wc fp sa pa) :
    ∀ (k s F : Nat) (wc : Nat → Int32) (fp : Nat → Int64), s + k = 32 → k < F → (∀ v, mp_sv t v → xw_tv (yp_P ac ae th mt mc sp) v wc fp) →
    (∀ i, i < s → ∀ e, e < 32 → xw_ce (wc (((8 + t) * 32 + i) * 32 + e)) (fp (((8 + t) * 32 + i) * 32 + e)) (mp_cn (yp_P ac ae th mt mc sp) (8 + t) i e) (fun q => (e, q) ∈ mp_ws (yp_P ac ae th mt mc sp) (8 + t) i)) →
    wX_fillTaskSteps_8 post J2 (nI t) F (nI s) ms ll ac ae mt mc mf sd li wc fp sa pa := by
  have ok := yp_mok (co := ac) (ef := ae) (de := mc) hok
  intro k
  induction k with
  | zero =>
    intro s F wc fp hs hF hA hce
    obtain ⟨F, rfl⟩ : ∃ n, F = n + 1 := ⟨F - 1, by omega⟩
    obtain rfl : s = 32 := by omega
    exact br_t (nI_le (a := 32) (by omega) (by omega)) (nm_e (H wc fp hA hce))
  | succ k ih =>
    intro s F wc fp hs hF hA hce
    obtain ⟨F, rfl⟩ : ∃ n, F = n + 1 := ⟨F - 1, by omega⟩
    have hs32 : s < 32 := by omega
    refine br_f (nI_ge (b := 32) (by omega) (by decide)) ?_
    have e8 : (8 : Int32) + nI t = nI (8 + t) := nI_add 8 t
    rw [e8]
    refine xw_rowOf ?_
    refine xw_clear _ _ _ _ _ _ _ _ _ _ _ _ _ (by omega) ?_
    intro wc1 fp1 hz hfr
    have hA1 : ∀ v, mp_sv t v → xw_tv (yp_P ac ae th mt mc sp) v wc1 fp1 := by
      intro v hv s' hs' e he
      have a := hA v hv s' hs' e he
      unfold mp_sv at hv
      have f := hfr ((v * 32 + s') * 32 + e) (by omega)
      rw [f.1, f.2]
      exact a
    refine ⟨9, xw_31 _ _ _ _ _ _ _ _ _ _ _ hok hM ht hs32 hA1 ?_ 8 0 9 wc1 fp1 (by omega) (by omega) (fun j _ => ⟨rfl, rfl⟩) ?_⟩
    · intro wc2 fp2 hfr2 hce2
      refine ih (s + 1) F wc2 fp2 (by omega) (by omega) ?_ ?_
      · intro v hv s' hs' e he
        have a := hA1 v hv s' hs' e he
        unfold mp_sv at hv
        have f := hfr2 ((v * 32 + s') * 32 + e) (by omega)
        rw [f.1, f.2]
        exact a
      · intro i hi e he
        by_cases y : i = s
        · subst y
          refine xw_ce_congr (hce2 e he) (mp_cn_t ok e ht hs32).symm (fun q => ?_)
          rw [mp_ws_t ok ht hs32]
          constructor
          · rintro ⟨m, g1, g2, b, g3, p, r, g4, g5, g6⟩
            exact ⟨m, g1, g2, b, p, r, g3, g4, g5, g6⟩
          · rintro ⟨m, g1, g2, b, p, r, g3, g4, g5, g6⟩
            exact ⟨m, g1, g2, b, g3, p, r, g4, g5, g6⟩
        · have a := hce i (by omega) e he
          have f1 := hfr (((8 + t) * 32 + i) * 32 + e) (by omega)
          have f2 := hfr2 (((8 + t) * 32 + i) * 32 + e) (by omega)
          rw [f2.1, f2.2, f1.1, f1.2]
          exact a
    · intro i hi
      refine ⟨hz i hi, fun _ q hq => ?_, fun z => absurd z (Nat.lt_irrefl 0)⟩
      obtain ⟨j, g1, _⟩ := hq
      omega
theorem xw_2 {post : SX → Prop} (ms ll : Int32) (ac ae mt mc mf sd li sa pa : Nat → Int32) {th sp : Nat → Int32} (hok : yp_ok th mt sp) (hM : xw_M ms mf sd th sp)
    (H : ∀ (wc : Nat → Int32) (fp : Nat → Int64), (∀ v, v ≤ 11 → v ≠ 7 → xw_tv (yp_P ac ae th mt mc sp) v wc fp) → post (ms, ll, ac, ae, mt, mc, mf, sd, li, wc, fp, sa, pa)) :
    ∀ (k F : Nat) (x1 : Int32) (wc : Nat → Int32) (fp : Nat → Int64), k ≤ 4 → k < F → x1 = (if k = 0 then -1 else nI (k - 1)) → (∀ v, (v ≤ 6 ∨ (8 + k ≤ v ∧ v ≤ 11)) → xw_tv (yp_P ac ae th mt mc sp) v wc fp) →
    wX_fillTaskSteps_2 post F x1 ms ll ac ae mt mc mf sd li wc fp sa pa := by
  intro k
  induction k with
  | zero =>
    intro F x1 wc fp hk hF hx hA
    obtain ⟨F, rfl⟩ : ∃ n, F = n + 1 := ⟨F - 1, by omega⟩
    rw [if_pos rfl] at hx
    subst hx
    exact br_t (by decide) (H wc fp (fun v h1 h2 => hA v (by omega)))
  | succ k ih =>
    intro F x1 wc fp hk hF hx hA
    obtain ⟨F, rfl⟩ : ∃ n, F = n + 1 := ⟨F - 1, by omega⟩
    rw [if_neg (by omega), Nat.add_sub_cancel] at hx
    subst hx
    refine br_f (nI_pos (by omega)) ⟨33, xw_8 _ _ _ _ _ _ _ _ _ _ _ hok hM (by omega) ?_ 32 0 33 wc fp (by omega) (by omega) (fun v hv => hA v (by unfold mp_sv at hv; omega)) (fun i hi => by omega)⟩
    intro wc' fp' hA1 hA2
    refine ih F _ wc' fp' (by omega) (by omega) ?_ ?_
    · by_cases z : k = 0
      · subst z
        decide
      · rw [if_neg z]
        obtain ⟨j, rfl⟩ : ∃ j, k = j + 1 := ⟨k - 1, by omega⟩
        exact pk_m1 j
    · intro v hv
      by_cases z : v = 8 + k
      · subst z
        exact hA2
      · exact hA1 v (by unfold mp_sv; omega)
theorem xw_fillTask {post : SX → Prop} (ms ll : Int32) (ac ae mt mc mf sd li wc sa pa : Nat → Int32) (fp : Nat → Int64) {th sp : Nat → Int32} (hok : yp_ok th mt sp) (hM : xw_M ms mf sd th sp) (hA : ∀ v, v ≤ 6 → xw_tv (yp_P ac ae th mt mc sp) v wc fp)
    (H : ∀ (wc : Nat → Int32) (fp : Nat → Int64), (∀ v, v ≤ 11 → v ≠ 7 → xw_tv (yp_P ac ae th mt mc sp) v wc fp) → post (ms, ll, ac, ae, mt, mc, mf, sd, li, wc, fp, sa, pa)) : wpX_fillTaskSteps post (ms, ll, ac, ae, mt, mc, mf, sd, li, wc, fp, sa, pa) :=
  ⟨5, xw_2 _ _ _ _ _ _ _ _ _ _ _ hok hM H 4 5 3 wc fp (by omega) (by omega) rfl (fun v hv => hA v (by omega))⟩
/-- the steps that are actions -/
theorem xw_act_ce {ac ae th mt mc sp : Nat → Int32} {a s e : Nat} (ha : a < 6) {c : Int32} {f : Int64}
    (h1 : yp_hI (ac a) s = true → e = yp_chg (ae a) s → c = 1 ∧ f = lN (mp_en [a])) (h0 : ¬ (yp_hI (ac a) s = true ∧ e = yp_chg (ae a) s) → c = 0) :
    xw_ce c f (mp_cn (yp_P ac ae th mt mc sp) (1 + a) s e) (fun q => (e, q) ∈ mp_ws (yp_P ac ae th mt mc sp) (1 + a) s) := by
  have ew : mp_ws (yp_P ac ae th mt mc sp) (1 + a) s = if yp_hI (ac a) s then [(yp_chg (ae a) s, [a])] else [] := by
    rw [mp_wsa _ s (by omega) (by omega)]
    have : 1 + a - 1 = a := by omega
    rw [this]
    rfl
  unfold mp_cn
  rw [ew]
  by_cases x : yp_hI (ac a) s = true
  · rw [if_pos x]
    by_cases y : e = yp_chg (ae a) s
    · obtain ⟨g1, g2⟩ := h1 x y
      have en : mp_ct e [(yp_chg (ae a) s, [a])] = 1 := by
        show (if yp_chg (ae a) s = e then 1 else 0) + 0 = 1
        rw [if_pos y.symm]
      rw [en]
      refine ⟨g1, fun z => absurd z (by decide), fun _ => ⟨[a], by rw [y]; exact List.mem_singleton.mpr rfl, g2, fun q hq => ?_⟩⟩
      have := List.mem_singleton.mp hq
      injection this with _ h
      rw [h]
      exact Nat.le_refl _
    · have en : mp_ct e [(yp_chg (ae a) s, [a])] = 0 := by
        show (if yp_chg (ae a) s = e then 1 else 0) + 0 = 0
        rw [if_neg (fun h => y h.symm)]
      rw [en]
      refine ⟨h0 (fun h => y h.2), fun _ q hq => ?_, fun z => absurd z (Nat.lt_irrefl 0)⟩
      have := List.mem_singleton.mp hq
      injection this with h _
      exact y h
  · rw [if_neg x]
    exact ⟨h0 (fun h => x h.1), fun _ q hq => (nomatch hq), fun z => absurd z (Nat.lt_irrefl 0)⟩
theorem xw_fillA2 {post : SX → Prop} (ms ll : Int32) (ac ae mt mc mf sd li sa pa : Nat → Int32) {th sp : Nat → Int32} {a : Nat} (ha : a < 6) (wc0 : Nat → Int32) (fp0 : Nat → Int64)
    (H : ∀ (wc : Nat → Int32) (fp : Nat → Int64), xw_tv (yp_P ac ae th mt mc sp) (1 + a) wc fp → (∀ j, (j < (1 + a) * 1024 ∨ (1 + a) * 1024 + 1024 ≤ j) → wc j = wc0 j ∧ fp j = fp0 j) → post (ms, ll, ac, ae, mt, mc, mf, sd, li, wc, fp, sa, pa)) :
    ∀ (k s F : Nat) (wc : Nat → Int32) (fp : Nat → Int64), s + k = 32 → k < F →
    (∀ i, i < s → ∀ e, e < 32 → xw_ce (wc (((1 + a) * 32 + i) * 32 + e)) (fp (((1 + a) * 32 + i) * 32 + e)) (mp_cn (yp_P ac ae th mt mc sp) (1 + a) i e) (fun q => (e, q) ∈ mp_ws (yp_P ac ae th mt mc sp) (1 + a) i)) →
    (∀ j, (j < (1 + a) * 1024 ∨ (1 + a) * 1024 + 1024 ≤ j) → wc j = wc0 j ∧ fp j = fp0 j) →
    wX_fillActionStep_2 post (nI a) F (nI s) ms ll ac ae mt mc mf sd li wc fp sa pa := by
  intro k
  induction k with
  | zero =>
    intro s F wc fp hs hF hce hfr
    obtain ⟨F, rfl⟩ : ∃ n, F = n + 1 := ⟨F - 1, by omega⟩
    obtain rfl : s = 32 := by omega
    exact br_t (nI_le (a := 32) (by omega) (by omega)) (H wc fp hce hfr)
  | succ k ih =>
    intro s F wc fp hs hF hce hfr
    obtain ⟨F, rfl⟩ : ∃ n, F = n + 1 := ⟨F - 1, by omega⟩
    have hs32 : s < 32 := by omega
    refine br_f (nI_ge (b := 32) (by omega) (by decide)) ?_
    have e1 : (1 : Int32) + nI a = nI (1 + a) := nI_add 1 a
    rw [e1]
    refine xw_rowOf ?_
    refine xw_clear _ _ _ _ _ _ _ _ _ _ _ _ _ (by omega) ?_
    intro wc1 fp1 hz hfr1
    refine xw_outcome _ _ _ _ _ _ _ _ _ _ _ _ _ ha hs32 ?_
    by_cases x : yp_hI (ac a) s = true
    · rw [if_pos x]
      have hc32 := (yp_ex_eq (ae a) hs32).2
      have hin : vp_in (nI (((1 + a) * 32 + s) * 32 + yp_chg (ae a) s)) 12288 := vp_in_nI (by omega) (by decide)
      have hn1 : ¬ nI (yp_chg (ae a) s) = -1 := by
        intro h
        have h2 := nI_pos (n := yp_chg (ae a) s) (by omega)
        rw [h] at h2
        exact h2 (by decide)
      refine br_f hn1 ?_
      rw [nI_add, nI_clamp (by omega : ((1 + a) * 32 + s) * 32 + yp_chg (ae a) s < 2 ^ 31), nI_l (by omega : a < 2 ^ 31)]
      have een : (281474976710656 : Int64) ||| lN a = lN (mp_en [a]) := by
        have h := g_or (k := 48) (p := 2 ^ 48) (a := a) (b := 1) rfl (by omega) (by omega)
        have e2 : mp_en [a] = 1 * 2 ^ 48 + a := by
          show 1 * 2 ^ 48 + (a * 8 ^ 0 + 0) = _
          omega
        rw [e2]
        exact h
      rw [een]
      refine ⟨hin, nm_e ⟨hin, nm_e (nm_r (nI_1 _) (ih (s + 1) F _ _ (by omega) (by omega) ?_ ?_))⟩⟩
      · intro i hi e he
        by_cases y : i = s
        · subst y
          refine xw_act_ce ha (fun _ h => ?_) (fun h => ?_)
          · subst h
            exact ⟨pk_us, pk_uLs⟩
          · have hne : e ≠ yp_chg (ae a) i := fun h' => h ⟨x, h'⟩
            exact (pk_un (by omega)).trans (hz e he)
        · have f := hfr1 (((1 + a) * 32 + i) * 32 + e) (by omega)
          rw [pk_un (by omega), pk_uLn (by omega), f.1, f.2]
          exact hce i (by omega) e he
      · intro j hj
        have f := hfr1 j (by omega)
        have g := hfr j hj
        exact ⟨(pk_un (by omega)).trans (f.1.trans g.1), (pk_uLn (by omega)).trans (f.2.trans g.2)⟩
    · rw [if_neg x]
      refine br_t rfl (nm_r (nI_1 _) (ih (s + 1) F wc1 fp1 (by omega) (by omega) ?_ ?_))
      · intro i hi e he
        by_cases y : i = s
        · subst y
          exact xw_act_ce ha (fun h _ => absurd h x) (fun _ => hz e he)
        · have f := hfr1 (((1 + a) * 32 + i) * 32 + e) (by omega)
          rw [f.1, f.2]
          exact hce i (by omega) e he
      · intro j hj
        have f := hfr1 j (by omega)
        have g := hfr j hj
        exact ⟨f.1.trans g.1, f.2.trans g.2⟩
theorem xw_fillA {post : SX → Prop} (ms ll : Int32) (ac ae mt mc mf sd li wc sa pa : Nat → Int32) (fp : Nat → Int64) {th sp : Nat → Int32} {a : Nat} (ha : a < 6)
    (H : ∀ (wc' : Nat → Int32) (fp' : Nat → Int64), xw_tv (yp_P ac ae th mt mc sp) (1 + a) wc' fp' → (∀ j, (j < (1 + a) * 1024 ∨ (1 + a) * 1024 + 1024 ≤ j) → wc' j = wc j ∧ fp' j = fp j) → post (ms, ll, ac, ae, mt, mc, mf, sd, li, wc', fp', sa, pa)) :
    wpX_fillActionStep post (ms, ll, ac, ae, mt, mc, mf, sd, li, wc, fp, sa, pa) (nI a) :=
  ⟨33, xw_fillA2 _ _ _ _ _ _ _ _ _ _ _ (th := th) (sp := sp) ha wc fp H 32 0 33 wc fp (by omega) (by omega) (fun i hi => by omega) (fun j _ => ⟨rfl, rfl⟩)⟩
/-- no step -/
theorem xw_no2 {post : SX → Prop} (ms ll : Int32) (ac ae mt mc mf sd li sa pa : Nat → Int32) {P : mp_PB}
    (H : ∀ (wc : Nat → Int32) (fp : Nat → Int64), xw_tv P 0 wc fp → (∀ j, 1024 ≤ j → wc j = 0) → post (ms, ll, ac, ae, mt, mc, mf, sd, li, wc, fp, sa, pa)) :
    ∀ (k s F : Nat) (wc : Nat → Int32) (fp : Nat → Int64), s + k = 32 → k < F →
    (∀ i, i < s → ∀ e, e < 32 → xw_ce (wc ((0 * 32 + i) * 32 + e)) (fp ((0 * 32 + i) * 32 + e)) (mp_cn P 0 i e) (fun q => (e, q) ∈ mp_ws P 0 i)) →
    (∀ j, s * 32 ≤ j → wc j = 0) →
    wX_fillNoStep_2 post ms ll F (nI s) ac ae mt mc mf sd li wc fp sa pa := by
  intro k
  induction k with
  | zero =>
    intro s F wc fp hs hF hce hz
    obtain ⟨F, rfl⟩ : ∃ n, F = n + 1 := ⟨F - 1, by omega⟩
    obtain rfl : s = 32 := by omega
    exact br_t (nI_le (a := 32) (by omega) (by omega)) (H wc fp hce hz)
  | succ k ih =>
    intro s F wc fp hs hF hce hz
    obtain ⟨F, rfl⟩ : ∃ n, F = n + 1 := ⟨F - 1, by omega⟩
    have hs32 : s < 32 := by omega
    refine br_f (nI_ge (b := 32) (by omega) (by decide)) ?_
    refine xw_rowOf (v := 0) ?_
    have hin : vp_in (nI ((0 * 32 + s) * 32 + s)) 12288 := vp_in_nI (by omega) (by decide)
    rw [nI_add, nI_clamp (by omega : (0 * 32 + s) * 32 + s < 2 ^ 31)]
    refine ⟨hin, nm_e ⟨hin, nm_e (nm_r (nI_1 _) (ih (s + 1) F _ _ (by omega) (by omega) ?_ ?_))⟩⟩
    · intro i hi e he
      by_cases y : i = s
      · subst y
        unfold mp_cn
        rw [mp_ws0]
        by_cases z : e = i
        · subst z
          rw [pk_us, pk_uLs]
          have en : mp_ct e [(e, [])] = 1 := by
            show (if e = e then 1 else 0) + 0 = 1
            rw [if_pos rfl]
          rw [en]
          refine ⟨rfl, fun z => absurd z (by decide), fun _ => ⟨[], List.mem_singleton.mpr rfl, rfl, fun q hq => ?_⟩⟩
          exact Nat.zero_le _
        · have en : mp_ct e [(i, [])] = 0 := by
            show (if i = e then 1 else 0) + 0 = 0
            rw [if_neg (fun h => z h.symm)]
          rw [en, pk_un (by omega), hz _ (by omega)]
          refine ⟨rfl, fun _ q hq => ?_, fun z => absurd z (Nat.lt_irrefl 0)⟩
          have := List.mem_singleton.mp hq
          injection this with h _
          exact z h
      · rw [pk_un (by omega), pk_uLn (by omega)]
        exact hce i (by omega) e he
    · intro j hj
      exact (pk_un (by omega)).trans (hz j (by omega))
theorem xw_init110 {post : SX → Prop} (ms ll : Int32) (ac ae mt mc mf sd li sa pa : Nat → Int32) {th sp : Nat → Int32}
    (H : ∀ (wc : Nat → Int32) (fp : Nat → Int64), (∀ v, v ≤ 6 → xw_tv (yp_P ac ae th mt mc sp) v wc fp) → (∀ j, 8192 ≤ j → wc j = 0) → post (ms, ll, ac, ae, mt, mc, mf, sd, li, wc, fp, sa, pa)) :
    ∀ (k a F : Nat) (wc : Nat → Int32) (fp : Nat → Int64), a + k = 6 → k < F → (∀ v, v ≤ a → xw_tv (yp_P ac ae th mt mc sp) v wc fp) → (∀ j, 8192 ≤ j → wc j = 0) →
    wX_init_110 post F (nI a) ms ll ac ae mt mc mf sd li wc fp sa pa := by
  intro k
  induction k with
  | zero =>
    intro a F wc fp ha hF hA hz
    obtain ⟨F, rfl⟩ : ∃ n, F = n + 1 := ⟨F - 1, by omega⟩
    obtain rfl : a = 6 := by omega
    exact br_t (nI_le (a := 6) (by omega) (by omega)) (H wc fp hA hz)
  | succ k ih =>
    intro a F wc fp ha hF hA hz
    obtain ⟨F, rfl⟩ : ∃ n, F = n + 1 := ⟨F - 1, by omega⟩
    refine br_f (nI_ge (b := 6) (by omega) (by decide)) ?_
    refine xw_fillA _ _ _ _ _ _ _ _ _ _ _ _ _ (th := th) (sp := sp) (by omega) ?_
    intro wc' fp' hA' hfr
    refine nm_r (nI_1 _) (ih (a + 1) F wc' fp' (by omega) (by omega) ?_ ?_)
    · intro v hv
      by_cases z : v = 1 + a
      · subst z
        exact hA'
      · intro s hs e he
        have f := hfr ((v * 32 + s) * 32 + e) (by omega)
        rw [f.1, f.2]
        exact hA v (by omega) s hs e he
    · intro j hj
      exact (hfr j (by omega)).1.trans (hz j hj)
end
section
theorem xw_isTask {post : Int32 → Prop} {t : Nat} (ht : t < 4) (h : post 1) : wpX_isTask post (nI t) :=
  br_f (nI_pos (by omega)) (br_f (nI_ge (b := 4) ht (by decide)) h)
theorem xw_isState {post : Int32 → Prop} {s : Nat} (hs : s < 32) (h : post 1) : wpX_isState post (nI s) :=
  br_f (nI_pos (by omega)) (br_f (nI_ge (b := 32) hs (by decide)) h)
theorem xw_all31 {post : Int32 → Prop} (ms ll : Int32) (ac ae mt mc mf sd li wc sa pa : Nat → Int32) (fp : Nat → Int64) {P : mp_PB} {v s : Nat} (hv : v < 12) (hs : s < 32) (hA : xw_tv P v wc fp) (H : post (nI (mp_su (mp_cn P v s) 32))) :
    ∀ (k e F : Nat), e + k = 32 → k < F → wX_allWays_31 post (nI ((v * 32 + s) * 32)) ms ll ac ae mt mc mf sd li wc fp sa pa F (nI (mp_su (mp_cn P v s) e)) (nI e) := by
  intro k
  induction k with
  | zero =>
    intro e F he hF
    obtain ⟨F, rfl⟩ : ∃ n, F = n + 1 := ⟨F - 1, by omega⟩
    obtain rfl : e = 32 := by omega
    exact br_t (nI_le (a := 32) (by omega) (by omega)) H
  | succ k ih =>
    intro e F he hF
    obtain ⟨F, rfl⟩ : ∃ n, F = n + 1 := ⟨F - 1, by omega⟩
    refine br_f (nI_ge (b := 32) (by omega) (by decide)) ?_
    rw [nI_add, nI_clamp (by omega : (v * 32 + s) * 32 + e < 2 ^ 31), (hA s hs e (by omega)).1, nI_add]
    exact ⟨vp_in_nI (by omega) (by decide), nm_e (nm_r (nI_1 _) (ih (e + 1) F (by omega) (by omega)))⟩
theorem xw_next36 {post : Int32 → Prop} (ms ll : Int32) (ac ae mt mc mf sd li wc sa pa : Nat → Int32) (fp : Nat → Int64) {P : mp_PB} {v s d : Nat} (hv : v < 12) (hs : s < 32) (hA : xw_tv P v wc fp) (hb : ∀ e, mp_cn P v s e < 2 ^ 31)
    (h0 : (∀ i, d ≤ i → i < 32 → mp_cn P v s i = 0) → post (-1)) (h1 : ∀ i, d ≤ i → i < 32 → 0 < mp_cn P v s i → (∀ j, d ≤ j → j < i → mp_cn P v s j = 0) → post (nI i)) :
    ∀ (k e F : Nat), e + k = 32 → k < F → d ≤ e → (∀ j, d ≤ j → j < e → mp_cn P v s j = 0) → wX_nextEnd_36 post (nI ((v * 32 + s) * 32)) ms ll ac ae mt mc mf sd li wc fp sa pa F (nI e) := by
  intro k
  induction k with
  | zero =>
    intro e F he hF hd hz
    obtain ⟨F, rfl⟩ : ∃ n, F = n + 1 := ⟨F - 1, by omega⟩
    obtain rfl : e = 32 := by omega
    exact br_t (nI_le (a := 32) (by omega) (by omega)) (h0 hz)
  | succ k ih =>
    intro e F he hF hd hz
    obtain ⟨F, rfl⟩ : ∃ n, F = n + 1 := ⟨F - 1, by omega⟩
    refine br_f (nI_ge (b := 32) (by omega) (by decide)) ?_
    rw [nI_add, nI_clamp (by omega : (v * 32 + s) * 32 + e < 2 ^ 31), (hA s hs e (by omega)).1]
    refine ⟨vp_in_nI (by omega) (by decide), pk_le (mp_cn P v s e) 0 (fun z => nm_r (nI_1 _) (ih (e + 1) F (by omega) (by omega) (by omega) (fun j j1 j2 => ?_))) (fun z => h1 e hd (by omega) z hz) rfl rfl (hb e)⟩
    by_cases y : j = e
    · subst y
      omega
    · exact hz j j1 (by omega)
theorem mp_ne_iff {P : mp_PB} (ok : mp_ok P) {v s : Nat} (hv : v ≤ 11) (h7 : v ≠ 7) (hs : s < 32) : mp_ne (mp_ws P v s) = true ↔ ∃ e, e < 32 ∧ 0 < mp_cn P v s e := by
  constructor
  · intro h
    cases e : mp_ws P v s with
    | nil =>
      rw [e] at h
      exact nomatch h
    | cons x L =>
      have hx : x ∈ mp_ws P v s := by rw [e]; exact List.mem_cons_self
      refine ⟨x.1, (mp_ws_good ok hv h7 hs hx).1, mp_ct_pos.mpr ⟨x.2, hx⟩⟩
  · rintro ⟨e, _, h⟩
    obtain ⟨q, hq⟩ := mp_ct_pos.mp h
    cases e : mp_ws P v s with
    | nil =>
      rw [e] at hq
      exact nomatch hq
    | cons x L => rfl
theorem xw_way9 {post : Int32 → Prop} (ms ll : Int32) (ac ae mt mc mf sd li wc sa pa : Nat → Int32) (fp : Nat → Int64) {P : mp_PB} {v s : Nat} (hv : v < 12) (hs : s < 32) (hA : xw_tv P v wc fp) (hb : ∀ e, mp_cn P v s e < 2 ^ 31)
    (h0 : (∀ i, i < 32 → mp_cn P v s i = 0) → post 0) (h1 : (∃ i, i < 32 ∧ 0 < mp_cn P v s i) → post 1) :
    ∀ (k e F : Nat), e + k = 32 → k < F → (∀ j, j < e → mp_cn P v s j = 0) → wX_hasWay_9 post (nI ((v * 32 + s) * 32)) ms ll ac ae mt mc mf sd li wc fp sa pa F (nI e) := by
  intro k
  induction k with
  | zero =>
    intro e F he hF hz
    obtain ⟨F, rfl⟩ : ∃ n, F = n + 1 := ⟨F - 1, by omega⟩
    obtain rfl : e = 32 := by omega
    exact br_t (nI_le (a := 32) (by omega) (by omega)) (h0 hz)
  | succ k ih =>
    intro e F he hF hz
    obtain ⟨F, rfl⟩ : ∃ n, F = n + 1 := ⟨F - 1, by omega⟩
    refine br_f (nI_ge (b := 32) (by omega) (by decide)) ?_
    rw [nI_add, nI_clamp (by omega : (v * 32 + s) * 32 + e < 2 ^ 31), (hA s hs e (by omega)).1]
    refine ⟨vp_in_nI (by omega) (by decide), pk_le (mp_cn P v s e) 0 (fun z => nm_r (nI_1 _) (ih (e + 1) F (by omega) (by omega) (fun j j2 => ?_))) (fun z => h1 ⟨e, by omega, z⟩) rfl rfl (hb e)⟩
    by_cases y : j = e
    · subst y
      omega
    · exact hz j (by omega)
theorem xw_hasWay {post : Int32 → Prop} (ms ll : Int32) (ac ae mt mc mf sd li wc sa pa : Nat → Int32) (fp : Nat → Int64) {P : mp_PB} (ok : mp_ok P) {v s : Nat} (hv : v ≤ 11) (h7 : v ≠ 7) (hs : s < 32) (hA : xw_tv P v wc fp) (hb : ∀ e, mp_cn P v s e < 2 ^ 31)
    (h : post (if mp_ne (mp_ws P v s) then 1 else 0)) : wpX_hasWay post (ms, ll, ac, ae, mt, mc, mf, sd, li, wc, fp, sa, pa) (nI v) (nI s) := by
  have hne := mp_ne_iff ok hv h7 hs
  show wpX_rowOf (fun r_1 => ∃ n9 : Nat, wX_hasWay_9 post r_1 ms ll ac ae mt mc mf sd li wc fp sa pa n9 0) (nI v) (nI s)
  refine xw_rowOf ?_
  refine ⟨33, xw_way9 _ _ _ _ _ _ _ _ _ _ _ _ _ (by omega) hs hA hb (fun hz => ?_) (fun hz => ?_) 32 0 33 (by omega) (by omega) (fun j hj => by omega)⟩
  · have : ¬ mp_ne (mp_ws P v s) = true := by
      rw [hne]
      rintro ⟨e, h1, h2⟩
      rw [hz e h1] at h2
      exact absurd h2 (Nat.lt_irrefl 0)
    rw [if_neg this] at h
    exact h
  · rw [if_pos (hne.mpr hz)] at h
    exact h
theorem xw_doable13 {post : Int32 → Prop} (ms ll : Int32) (ac ae mt mc mf sd li wc sa pa : Nat → Int32) (fp : Nat → Int64) {P : mp_PB} (ok : mp_ok P) {s : Nat} (hs : s < 32) (hA : ∀ t, t < 4 → xw_tv P (8 + t) wc fp) (hb : ∀ v e, v ≤ 11 → mp_cn P v s e < 2 ^ 31) :
    ∀ (k t F : Nat) (a : Int32), t + k = 4 → k < F → post (mp_dz (fun t => mp_ne (mp_ws P (8 + t) s)) k t a) → wX_doable_13 post (nI s) ms ll ac ae mt mc mf sd li wc fp sa pa F a (nI t) := by
  intro k
  induction k with
  | zero =>
    intro t F a ht hF H
    obtain ⟨F, rfl⟩ : ∃ n, F = n + 1 := ⟨F - 1, by omega⟩
    exact br_t (nI_le (a := 4) (by omega) (by omega)) H
  | succ k ih =>
    intro t F a ht hF H
    obtain ⟨F, rfl⟩ : ∃ n, F = n + 1 := ⟨F - 1, by omega⟩
    refine br_f (nI_ge (b := 4) (by omega) (by decide)) ?_
    have e8 : (8 : Int32) + nI t = nI (8 + t) := nI_add 8 t
    rw [e8]
    refine xw_hasWay _ _ _ _ _ _ _ _ _ _ _ _ _ ok (by omega) (by omega) hs (hA t (by omega)) (fun e => hb _ e (by omega)) ?_
    unfold mp_dz at H
    cases z : mp_ne (mp_ws P (8 + t) s)
    · rw [z] at H
      exact br_t rfl (nm_r (nI_1 _) (ih (t + 1) F a (by omega) (by omega) H))
    · rw [z] at H
      exact br_f (by decide) (nm_e (nm_r (nI_1 _) (ih (t + 1) F _ (by omega) (by omega) H)))
theorem mp_mw_ne {P : mp_PB} (ok : mp_ok P) {t m s : Nat} (ht : t < 4) (hs : s < 32) (h1 : mp_sv t (mp_fs P m)) (h2 : mp_sv t (mp_sn P m)) : mp_mw P m s ≠ [] ↔ ∃ b, b < 32 ∧ 0 < mp_cn P (mp_fs P m) s b ∧ mp_ne (mp_ws P (mp_sn P m) b) = true := by
  have w1 := h1
  have w2 := h2
  unfold mp_sv at w1 w2
  constructor
  · intro h
    obtain ⟨x, hx⟩ := List.exists_mem_of_ne_nil _ h
    unfold mp_mw at hx
    rw [mp_pr_mem] at hx
    obtain ⟨b, p, q, g1, g2, g3⟩ := hx
    have hb := (mp_ws_good ok (by omega) (by omega) hs g1).1
    refine ⟨b, hb, mp_ct_pos.mpr ⟨p, g1⟩, ?_⟩
    rw [mp_ne_iff ok (by omega) (by omega) hb]
    exact ⟨x.1, (mp_ws_good ok (by omega) (by omega) hb g2).1, mp_ct_pos.mpr ⟨q, g2⟩⟩
  · rintro ⟨b, hb, g1, g2⟩
    obtain ⟨p, hp⟩ := mp_ct_pos.mp g1
    rw [mp_ne_iff ok (by omega) (by omega) hb] at g2
    obtain ⟨e, he, g3⟩ := g2
    obtain ⟨q, hq⟩ := mp_ct_pos.mp g3
    have : (e, p ++ q) ∈ mp_mw P m s := by
      unfold mp_mw
      rw [mp_pr_mem]
      exact ⟨b, p, q, hp, hq, rfl⟩
    exact List.ne_nil_of_mem this
theorem xw_works29 {post : Int32 → Prop} (ms ll : Int32) (ac ae mt mc mf sd li wc sa pa : Nat → Int32) (fp : Nat → Int64) {P : mp_PB} (ok : mp_ok P) {t m s : Nat} (ht : t < 4) (hm : m < 8) (hs : s < 32) (k1 : mp_sv t (mp_fs P m)) (k2 : mp_sv t (mp_sn P m)) (hsd : sd m = nI (mp_sn P m)) (hA : ∀ v, v ≤ 11 → v ≠ 7 → xw_tv P v wc fp) (hb : ∀ v s e, v ≤ 11 → s < 32 → mp_cn P v s e < 2 ^ 31)
    (h0 : mp_mw P m s = [] → post 0) (h1 : mp_mw P m s ≠ [] → post 1) :
    ∀ (k b F : Nat), b + k = 32 → k < F → (∀ j, j < b → ¬ (0 < mp_cn P (mp_fs P m) s j ∧ mp_ne (mp_ws P (mp_sn P m) j) = true)) → wX_worksOut_29 post (nI m) (nI ((mp_fs P m * 32 + s) * 32)) ms ll ac ae mt mc mf sd li wc fp sa pa F (nI b) := by
  have k1' := k1
  have k2' := k2
  unfold mp_sv at k1 k2
  intro k
  induction k with
  | zero =>
    intro b F he hF hz
    obtain ⟨F, rfl⟩ : ∃ n, F = n + 1 := ⟨F - 1, by omega⟩
    obtain rfl : b = 32 := by omega
    refine br_t (nI_le (a := 32) (by omega) (by omega)) (h0 ?_)
    apply Classical.byContradiction
    intro h
    obtain ⟨b, g1, g2⟩ := (mp_mw_ne ok ht hs k1' k2').mp h
    exact hz b g1 g2
  | succ k ih =>
    intro b F he hF hz
    obtain ⟨F, rfl⟩ : ∃ n, F = n + 1 := ⟨F - 1, by omega⟩
    have go : ¬ (0 < mp_cn P (mp_fs P m) s b ∧ mp_ne (mp_ws P (mp_sn P m) b) = true) → wX_worksOut_29 post (nI m) (nI ((mp_fs P m * 32 + s) * 32)) ms ll ac ae mt mc mf sd li wc fp sa pa F (nI (b + 1)) := by
      intro hn
      refine ih (b + 1) F (by omega) (by omega) (fun j hj => ?_)
      by_cases y : j = b
      · subst y
        exact hn
      · exact hz j (by omega)
    refine br_f (nI_ge (b := 32) (by omega) (by decide)) ?_
    rw [nI_add, nI_clamp (by omega : (mp_fs P m * 32 + s) * 32 + b < 2 ^ 31), (hA _ (by omega) (by omega) s hs b (by omega)).1]
    refine ⟨vp_in_nI (by omega) (by decide), pk_le (mp_cn P (mp_fs P m) s b) 0 (fun z => nm_r (nI_1 _) (go (fun h => by omega))) (fun z => ⟨vp_in_nI hm (by decide), ?_⟩) rfl rfl (hb _ _ _ (by omega) hs)⟩
    rw [nI_clamp (by omega : m < 2 ^ 31), hsd]
    refine xw_hasWay _ _ _ _ _ _ _ _ _ _ _ _ _ ok (by omega) (by omega) (by omega) (hA _ (by omega) (by omega)) (fun e => hb _ _ e (by omega) (by omega)) ?_
    by_cases y : mp_ne (mp_ws P (mp_sn P m) b) = true
    · rw [if_pos y]
      exact br_f (by decide) (h1 ((mp_mw_ne ok ht hs k1' k2').mpr ⟨b, by omega, z, y⟩))
    · rw [if_neg y]
      exact br_t rfl (nm_r (nI_1 _) (go (fun h => y h.2)))
theorem xw_useless12 {post : Int32 → Prop} (ms ll : Int32) (ac ae mt mc mf sd li wc sa pa : Nat → Int32) (fp : Nat → Int64) {th sp : Nat → Int32} (hok : yp_ok th mt sp) (hM : xw_M ms mf sd th sp) {t m : Nat} (ht : t < 4) (hm : m < 8) (hth : ¬ th m = 0) (hmt : mt m = nI t) (hA : ∀ v, v ≤ 11 → v ≠ 7 → xw_tv (yp_P ac ae th mt mc sp) v wc fp)
    (h1 : (∀ s, s < 32 → mp_app (yp_P ac ae th mt mc sp) t m s = true → mp_mw (yp_P ac ae th mt mc sp) m s = []) → post 1)
    (h0 : ¬ (∀ s, s < 32 → mp_app (yp_P ac ae th mt mc sp) t m s = true → mp_mw (yp_P ac ae th mt mc sp) m s = []) → post 0) :
    ∀ (k s F : Nat), s + k = 32 → k < F → (∀ i, i < s → mp_app (yp_P ac ae th mt mc sp) t m i = true → mp_mw (yp_P ac ae th mt mc sp) m i = []) → wX_useless_12 post (nI m) ms ll ac ae mt mc mf sd li wc fp sa pa F (nI s) := by
  have ok := yp_mok (co := ac) (ef := ae) (de := mc) hok
  intro k
  induction k with
  | zero =>
    intro s F hs hF hz
    obtain ⟨F, rfl⟩ : ∃ n, F = n + 1 := ⟨F - 1, by omega⟩
    obtain rfl : s = 32 := by omega
    exact br_t (nI_le (a := 32) (by omega) (by omega)) (h1 hz)
  | succ k ih =>
    intro s F hs hF hz
    obtain ⟨F, rfl⟩ : ∃ n, F = n + 1 := ⟨F - 1, by omega⟩
    have hs32 : s < 32 := by omega
    have hin : vp_in (nI m) 8 := vp_in_nI hm (by decide)
    have hcl : (nI m).toNatClampNeg = m := nI_clamp (by omega)
    have go : (mp_app (yp_P ac ae th mt mc sp) t m s = true → mp_mw (yp_P ac ae th mt mc sp) m s = []) → wX_useless_12 post (nI m) ms ll ac ae mt mc mf sd li wc fp sa pa F (nI (s + 1)) := by
      intro hn
      refine ih (s + 1) F (by omega) (by omega) (fun j hj => ?_)
      by_cases y : j = s
      · subst y
        exact hn
      · exact hz j (by omega)
    refine br_f (nI_ge (b := 32) (by omega) (by decide)) ⟨hin, ?_⟩
    rw [hcl]
    apply xw_holds
    by_cases x : yp_hI (mc m) s = true
    · rw [if_pos x]
      have ha : mp_app (yp_P ac ae th mt mc sp) t m s = true := yp_app.mpr ⟨hth, hmt, x⟩
      obtain ⟨k1, k2⟩ := ok.2 t m s ht hm ha
      obtain ⟨t', kk, ht', e1, hkk, e2, s1, s2⟩ := (hok m hm).2 hth
      obtain ⟨m1, m2⟩ := hM.2 m hm hth
      have ef := yp_fs (co := ac) (ef := ae) (th := th) (ta := mt) (de := mc) e2 hkk
      have es := yp_sn (co := ac) (ef := ae) (th := th) (ta := mt) (de := mc) e2 hkk
      have hmf : mf m = nI (mp_fs (yp_P ac ae th mt mc sp) m) := by rw [m1, ef.2, ef.1]
      have hsd : sd m = nI (mp_sn (yp_P ac ae th mt mc sp) m) := by rw [m2, es.2, es.1]
      refine br_f (by decide) ⟨hin, ?_⟩
      rw [hmf]
      refine xw_rowOf ⟨33, xw_works29 _ _ _ _ _ _ _ _ _ _ _ _ _ ok ht hm hs32 k1 k2 hsd hA ?_ ?_ ?_ 32 0 33 (by omega) (by omega) (fun j hj => by omega)⟩
      · intro v s e hv hs
        have := xw_cnb (ac := ac) (ae := ae) (mc := mc) hok (v := v) (s := s) e hv hs
        omega
      · intro hno
        exact br_t rfl (nm_r (nI_1 _) (go (fun _ => hno)))
      · intro hyes
        exact br_f (by decide) (h0 (fun h => hyes (h s hs32 ha)))
    · rw [if_neg x]
      refine br_t rfl ?_
      exact br_t rfl (nm_r (nI_1 _) (go (fun h => absurd (yp_app.mp h).2.2 x)))
end
section
/-- the states at the places of the list -/
def mp_sg (P : mp_PB) : List Nat → Nat → Nat → Nat
  | [], s, _ => s
  | _ :: _, s, 0 => s
  | a :: l, s, i + 1 => mp_sg P l (mp_out P a s) i
theorem mp_sg_0 (P : mp_PB) : ∀ (l : List Nat) (s : Nat), mp_sg P l s 0 = s
  | [], _ => rfl
  | _ :: _, _ => rfl
theorem mp_sg_lt {P : mp_PB} (ok : mp_ok P) : ∀ (l : List Nat) (s i : Nat), s < 32 → (∀ a, a ∈ l → a < 6) → mp_sg P l s i < 32
  | [], _, _, hs, _ => hs
  | _ :: _, _, 0, hs, _ => hs
  | a :: l, s, i + 1, hs, h => mp_sg_lt ok l _ i (ok.1 a s (h a List.mem_cons_self) hs) (fun b hb => h b (List.mem_cons_of_mem _ hb))
theorem mp_sg_step (P : mp_PB) : ∀ (l : List Nat) (s e i : Nat), mp_run P l s = some e → ∀ h : i < l.length, mp_hol P l[i] (mp_sg P l s i) = true ∧ mp_sg P l s (i + 1) = mp_out P l[i] (mp_sg P l s i)
  | [], _, _, _, _, h => absurd h (Nat.not_lt_zero _)
  | a :: l, s, e, i, hr, h => by
    have hr' : (if mp_hol P a s then mp_run P l (mp_out P a s) else none) = some e := hr
    by_cases x : mp_hol P a s = true
    · rw [if_pos x] at hr'
      cases i with
      | zero => exact ⟨x, mp_sg_0 P l _⟩
      | succ i => exact mp_sg_step P l _ e i hr' (Nat.lt_of_succ_lt_succ h)
    · rw [if_neg x] at hr'
      exact nomatch hr'
def mp_RP (P : mp_PB) (l : List Nat) (σ : Nat → Nat) (v i j : Nat) : Prop := i ≤ j ∧ j ≤ l.length ∧ ∃ e q, (e, q) ∈ mp_ws P v (σ i) ∧ l.drop i = q ++ l.drop j
def mp_SG (P : mp_PB) (l : List Nat) (σ : Nat → Nat) : Prop := (∀ i, σ i < 32) ∧ ∀ i, ∀ h : i < l.length, mp_hol P l[i] (σ i) = true ∧ σ (i + 1) = mp_out P l[i] (σ i)
theorem mp_dl {l q : List Nat} {i j : Nat} (hi : i ≤ l.length) (hj : j ≤ l.length) (h : l.drop i = q ++ l.drop j) : i + q.length = j := by
  have e := congrArg List.length h
  rw [List.length_append, List.length_drop, List.length_drop] at e
  omega
theorem mp_sig {P : mp_PB} {l : List Nat} {σ : Nat → Nat} (hσ : mp_SG P l σ) : ∀ (p : List Nat) (i j : Nat), i ≤ l.length → j ≤ l.length → l.drop i = p ++ l.drop j → mp_run P p (σ i) = some (σ j)
  | [], i, j, hi, hj, h => by
    have := mp_dl hi hj h
    have e : j = i := by
      have : i + 0 = j := this
      omega
    rw [e]
    rfl
  | a :: p, i, j, hi, hj, h => by
    have hl := mp_dl hi hj h
    have hl' : i + (p.length + 1) = j := hl
    have hil : i < l.length := by omega
    rw [List.drop_eq_getElem_cons hil] at h
    have h' : l[i] :: l.drop (i + 1) = a :: (p ++ l.drop j) := h
    injection h' with h1 h2
    obtain ⟨g1, g2⟩ := hσ.2 i hil
    rw [h1] at g1 g2
    show (if mp_hol P a (σ i) then mp_run P p (mp_out P a (σ i)) else none) = _
    rw [if_pos g1, ← g2]
    exact mp_sig hσ p (i + 1) j (by omega) hj h2
theorem mp_RP0 {P : mp_PB} {l : List Nat} {σ : Nat → Nat} {i j : Nat} (hi : i ≤ l.length) : mp_RP P l σ 0 i j ↔ j = i := by
  constructor
  · rintro ⟨h1, h2, e, q, h3, h4⟩
    rw [mp_ws0, List.mem_singleton] at h3
    injection h3 with h5 h6
    have := mp_dl hi h2 h4
    rw [h6] at this
    have : i + 0 = j := this
    omega
  · intro h
    subst h
    exact ⟨Nat.le_refl _, hi, σ j, [], by rw [mp_ws0]; exact List.mem_singleton.mpr rfl, rfl⟩
theorem mp_RPa {P : mp_PB} {l : List Nat} {σ : Nat → Nat} (hσ : mp_SG P l σ) {a i j : Nat} (ha : a < 6) (hi : i ≤ l.length) : mp_RP P l σ (1 + a) i j ↔ (j = i + 1 ∧ ∃ h : i < l.length, l[i] = a) := by
  have ew : ∀ s, mp_ws P (1 + a) s = if mp_hol P a s then [(mp_out P a s, [a])] else [] := by
    intro s
    rw [mp_wsa _ s (by omega) (by omega)]
    have : 1 + a - 1 = a := by omega
    rw [this]
  constructor
  · rintro ⟨h1, h2, e, q, h3, h4⟩
    rw [ew] at h3
    by_cases x : mp_hol P a (σ i) = true
    · rw [if_pos x, List.mem_singleton] at h3
      injection h3 with h5 h6
      have hl := mp_dl hi h2 h4
      rw [h6] at hl h4
      have hl' : i + 1 = j := hl
      have hil : i < l.length := by omega
      rw [List.drop_eq_getElem_cons hil] at h4
      have h' : l[i] :: l.drop (i + 1) = a :: ([] ++ l.drop j) := h4
      injection h' with h7 h8
      exact ⟨by omega, hil, h7⟩
    · rw [if_neg x] at h3
      exact nomatch h3
  · rintro ⟨h1, h2, h3⟩
    subst h1
    obtain ⟨g1, g2⟩ := hσ.2 i h2
    rw [h3] at g1
    refine ⟨by omega, by omega, mp_out P a (σ i), [a], ?_, ?_⟩
    · rw [ew, if_pos g1]
      exact List.mem_singleton.mpr rfl
    · rw [List.drop_eq_getElem_cons h2, h3]
      rfl
theorem mp_RPt {P : mp_PB} (ok : mp_ok P) {l : List Nat} {σ : Nat → Nat} (hσ : mp_SG P l σ) {t i k : Nat} (ht : t < 4) (hi : i ≤ l.length) : mp_RP P l σ (8 + t) i k ↔ ∃ m, m < 8 ∧ mp_app P t m (σ i) = true ∧ ∃ j, i ≤ j ∧ j ≤ l.length ∧ mp_RP P l σ (mp_fs P m) i j ∧ mp_RP P l σ (mp_sn P m) j k := by
  constructor
  · rintro ⟨h1, h2, e, r, h3, h4⟩
    rw [mp_ws_t ok ht (hσ.1 i)] at h3
    obtain ⟨m, hm, ha, b, p, q, hb, g1, g2, g3⟩ := h3
    have hl := mp_dl hi h2 h4
    rw [g3, List.length_append] at hl
    rw [g3, List.append_assoc] at h4
    obtain ⟨k1, k2⟩ := ok.2 t m _ ht hm ha
    unfold mp_sv at k1 k2
    have hd : l.drop (i + p.length) = q ++ l.drop k := by
      rw [← List.drop_drop, h4, List.drop_left]
    have h5 : l.drop i = p ++ l.drop (i + p.length) := by
      rw [hd]
      exact h4
    have hrun := mp_sig hσ p i (i + p.length) hi (by omega) h5
    have hgood := (mp_ws_good ok (by omega) (by omega) (hσ.1 i) g1).2.2.2
    have hbe : b = σ (i + p.length) := by
      have := hgood.symm.trans hrun
      injection this
    refine ⟨m, hm, ha, i + p.length, by omega, by omega, ⟨by omega, by omega, b, p, g1, h5⟩, ⟨by omega, h2, e, q, ?_, hd⟩⟩
    rw [← hbe]
    exact g2
  · rintro ⟨m, hm, ha, j, h1, h2, ⟨h3, h4, b, p, g1, g2⟩, ⟨h5, h6, e, q, g3, g4⟩⟩
    obtain ⟨k1, k2⟩ := ok.2 t m _ ht hm ha
    unfold mp_sv at k1 k2
    have hrun := mp_sig hσ p i j hi h2 g2
    obtain ⟨hb, _, _, hgood⟩ := mp_ws_good ok (by omega) (by omega) (hσ.1 i) g1
    have hbe : b = σ j := by
      have := hgood.symm.trans hrun
      injection this
    refine ⟨by omega, h6, e, p ++ q, ?_, ?_⟩
    · rw [mp_ws_t ok ht (hσ.1 i)]
      refine ⟨m, hm, ha, b, p, q, hb, g1, ?_, rfl⟩
      rw [hbe]
      exact g3
    · rw [List.append_assoc, ← g4]
      exact g2
theorem mp_RPf {P : mp_PB} {l : List Nat} {σ : Nat → Nat} {v : Nat} : mp_RP P l σ v 0 l.length ↔ mp_hs l (mp_ws P v (σ 0)) = true := by
  unfold mp_hs
  rw [List.any_eq_true]
  constructor
  · rintro ⟨h1, h2, e, q, h3, h4⟩
    refine ⟨(e, q), h3, ?_⟩
    rw [List.drop_length, List.append_nil] at h4
    exact decide_eq_true h4.symm
  · rintro ⟨⟨e, q⟩, h1, h2⟩
    refine ⟨Nat.zero_le _, Nat.le_refl _, e, q, h1, ?_⟩
    rw [List.drop_length, List.append_nil]
    exact (of_decide_eq_true h2).symm
/-- sets of places -/
def xw_PS (x : Int32) (R : Nat → Prop) : Prop := ∀ j, j < 32 → (bt x j = true ↔ R j)
theorem xw_PS_0 {R : Nat → Prop} (h : ∀ j, ¬ R j) : xw_PS 0 R := by
  intro j _
  rw [b_0]
  exact ⟨fun z => (nomatch z), fun z => absurd z (h j)⟩
theorem xw_PS_1 {i : Nat} (hi : i < 32) {R : Nat → Prop} (h : ∀ j, R j ↔ j = i) : xw_PS ((1 : Int32) <<< (nI i &&& 31)) R := by
  intro j hj
  rw [xw_one hi hj, decide_eq_true_iff, h]
theorem xw_PS_or {x y : Int32} {R S T : Nat → Prop} (hx : xw_PS x R) (hy : xw_PS y S) (h : ∀ j, T j ↔ (R j ∨ S j)) : xw_PS (x ||| y) T := by
  intro j hj
  rw [b_or, Bool.or_eq_true, hx j hj, hy j hj, h]
theorem xw_PS_congr {x : Int32} {R S : Nat → Prop} (hx : xw_PS x R) (h : ∀ j, S j ↔ R j) : xw_PS x S := by
  intro j hj
  rw [hx j hj, h]
theorem xw_pstep {post : Int32 → Prop} (ms : Int32) (ac ae mt mc mf sd li wc sa pa : Nat → Int32) (fp : Nat → Int64) {P : mp_PB} {l : List Nat} {σ : Nat → Nat} (hσ : mp_SG P l σ) (hl8 : l.length ≤ 8) (hli : yw_CH li 0 l) (hld : ∀ a, a ∈ l → a < 6) {v i : Nat} (hv : v ≤ 11) (h7 : v ≠ 7) (hi : i ≤ l.length)
    (hpa : ∀ u, v = 8 + u → xw_PS (pa (u * 9 + i)) (mp_RP P l σ v i)) (H : ∀ x, xw_PS x (mp_RP P l σ v i) → post x) : wpX_placesAfterStep post (ms, nI l.length, ac, ae, mt, mc, mf, sd, li, wc, fp, sa, pa) (nI v) (nI i) := by
  refine pk_eq v 0 (fun z => ?_) (fun z => ?_)
  · subst z
    exact H _ (xw_PS_1 (by omega) (fun j => mp_RP0 hi))
  · refine pk_le 8 v (fun w => ?_) (fun w => ?_)
    · obtain ⟨u, rfl⟩ : ∃ u, v = 8 + u := ⟨v - 8, by omega⟩
      have e : (nI (8 + u) - 8) * 9 + nI i = nI (u * 9 + i) := by
        have e1 := pk_sub (a := 8 + u) (b := 8) (by omega)
        have e2 : 8 + u - 8 = u := by omega
        rw [e2] at e1
        have e3 : nI (8 + u) - 8 = nI u := e1
        rw [e3, show (9 : Int32) = nI 9 from rfl, pk_mul, nI_add]
      rw [e, nI_clamp (by omega : u * 9 + i < 2 ^ 31)]
      exact ⟨vp_in_nI (by omega) (by decide), H _ (hpa u rfl)⟩
    · obtain ⟨a, rfl⟩ : ∃ a, v = 1 + a := ⟨v - 1, by omega⟩
      have e1 : nI (1 + a) - 1 = nI a := by
        rw [Nat.add_comm, nI_pred]
      have none : (¬ ∃ h : i < l.length, l[i] = a) → post 0 := by
        intro hn
        refine H 0 (xw_PS_0 (fun j hj => ?_))
        rw [mp_RPa hσ (by omega) hi] at hj
        exact hn hj.2
      refine pk_le l.length i (fun y => ?_) (fun y => ⟨vp_in_nI (by omega) (by decide), ?_⟩)
      · exact br_t rfl (none (fun ⟨h, _⟩ => by omega))
      · have hat := yw_CH_at y hli
        rw [Nat.zero_add] at hat
        have hb := hld l[i] (List.getElem_mem y)
        rw [nI_clamp (by omega : i < 2 ^ 31), hat, e1]
        refine pk_eq l[i] a (fun x => ?_) (fun x => br_t rfl (none (fun ⟨h, g⟩ => x g)))
        refine br_f (by decide) ?_
        rw [nI_1]
        refine H _ (xw_PS_1 (by omega) (fun j => ?_))
        rw [mp_RPa hσ (by omega) hi]
        exact ⟨fun h => h.1, fun h => ⟨h, y, x⟩⟩
theorem xw_pmeth18 {post : Int32 → Prop} (ms : Int32) (ac ae mt mc mf sd li wc sa pa : Nat → Int32) (fp : Nat → Int64) {P : mp_PB} {l : List Nat} {σ : Nat → Nat} (hσ : mp_SG P l σ) (hl8 : l.length ≤ 8) (hli : yw_CH li 0 l) (hld : ∀ a, a ∈ l → a < 6) {m v1 v2 i : Nat} (hm : m < 8) (hv : v2 ≤ 11) (h7 : v2 ≠ 7) (hsd : sd m = nI v2)
    (hpa : ∀ u, v2 = 8 + u → ∀ i, i ≤ l.length → xw_PS (pa (u * 9 + i)) (mp_RP P l σ v2 i)) {x3 : Int32} (hx3 : xw_PS x3 (mp_RP P l σ v1 i))
    (H : ∀ x, xw_PS x (fun k => ∃ j, i ≤ j ∧ j ≤ l.length ∧ mp_RP P l σ v1 i j ∧ mp_RP P l σ v2 j k) → post x) :
    ∀ (n j F : Nat) (x4 : Int32), j + n = l.length + 1 → n < F → i ≤ j → xw_PS x4 (fun k => ∃ j', i ≤ j' ∧ j' < j ∧ mp_RP P l σ v1 i j' ∧ mp_RP P l σ v2 j' k) → wX_placesAfterMethod_18 post (nI m) x3 ms (nI l.length) ac ae mt mc mf sd li wc fp sa pa F x4 (nI j) := by
  intro n
  induction n with
  | zero =>
    intro j F x4 hj hF hij hx
    obtain ⟨F, rfl⟩ : ∃ n, F = n + 1 := ⟨F - 1, by omega⟩
    refine br_t (nI_lt (by omega) (by omega)) (H x4 (xw_PS_congr hx (fun k => ⟨?_, ?_⟩)))
    · rintro ⟨j', g1, g2, g3⟩
      exact ⟨j', g1, by omega, g3⟩
    · rintro ⟨j', g1, g2, g3⟩
      exact ⟨j', g1, by omega, g3⟩
  | succ n ih =>
    intro j F x4 hj hF hij hx
    obtain ⟨F, rfl⟩ : ∃ n, F = n + 1 := ⟨F - 1, by omega⟩
    refine br_f (nI_nlt (by omega) (by omega)) ?_
    have hb := xw_bit x3 (m := j) (by omega)
    have hR := hx3 j (by omega)
    refine br_c (fun z => nm_r (nI_1 _) ?_) (fun z => ⟨vp_in_nI hm (by decide), ?_⟩)
    · have hn : ¬ mp_RP P l σ v1 i j := by
        intro h
        have h1 := hR.mpr h
        rw [hb.mp z] at h1
        exact nomatch h1
      refine ih (j + 1) F x4 (by omega) (by omega) (by omega) (xw_PS_congr hx (fun k => ⟨?_, ?_⟩))
      · rintro ⟨j', g1, g2, g3, g4⟩
        by_cases y : j' = j
        · subst y
          exact absurd g3 hn
        · exact ⟨j', g1, by omega, g3, g4⟩
      · rintro ⟨j', g1, g2, g3⟩
        exact ⟨j', g1, by omega, g3⟩
    · have hy : mp_RP P l σ v1 i j := by
        apply hR.mp
        cases e : bt x3 j
        · exact absurd (hb.mpr e) z
        · rfl
      rw [nI_clamp (by omega : m < 2 ^ 31), hsd]
      refine xw_pstep _ _ _ _ _ _ _ _ _ _ _ _ hσ hl8 hli hld hv h7 (by omega) (fun u hu => hpa u hu j (by omega)) ?_
      intro x hxs
      refine nm_e (nm_r (nI_1 _) (ih (j + 1) F _ (by omega) (by omega) (by omega) (xw_PS_or hx hxs (fun k => ⟨?_, ?_⟩))))
      · rintro ⟨j', g1, g2, g3, g4⟩
        by_cases y : j' = j
        · subst y
          exact Or.inr g4
        · exact Or.inl ⟨j', g1, by omega, g3, g4⟩
      · rintro (⟨j', g1, g2, g3⟩ | g)
        · exact ⟨j', g1, by omega, g3⟩
        · exact ⟨j, hij, by omega, hy, g⟩
theorem xw_pmeth {post : Int32 → Prop} (ms : Int32) (ac ae mt mc mf sd li wc sa pa : Nat → Int32) (fp : Nat → Int64) {P : mp_PB} {l : List Nat} {σ : Nat → Nat} (hσ : mp_SG P l σ) (hl8 : l.length ≤ 8) (hli : yw_CH li 0 l) (hld : ∀ a, a ∈ l → a < 6) {m v1 v2 i : Nat} (hm : m < 8) (hi : i ≤ l.length) (hv1 : v1 ≤ 11) (h71 : v1 ≠ 7) (hv : v2 ≤ 11) (h7 : v2 ≠ 7) (hmf : mf m = nI v1) (hsd : sd m = nI v2)
    (hpa1 : ∀ u, v1 = 8 + u → ∀ i, i ≤ l.length → xw_PS (pa (u * 9 + i)) (mp_RP P l σ v1 i)) (hpa : ∀ u, v2 = 8 + u → ∀ i, i ≤ l.length → xw_PS (pa (u * 9 + i)) (mp_RP P l σ v2 i))
    (H : ∀ x, xw_PS x (fun k => ∃ j, i ≤ j ∧ j ≤ l.length ∧ mp_RP P l σ v1 i j ∧ mp_RP P l σ v2 j k) → post x) : wpX_placesAfterMethod post (ms, nI l.length, ac, ae, mt, mc, mf, sd, li, wc, fp, sa, pa) (nI m) (nI i) := by
  refine ⟨vp_in_nI hm (by decide), ?_⟩
  rw [nI_clamp (by omega : m < 2 ^ 31), hmf]
  refine xw_pstep _ _ _ _ _ _ _ _ _ _ _ _ hσ hl8 hli hld hv1 h71 hi (fun u hu => hpa1 u hu i hi) ?_
  intro x hx
  refine ⟨l.length + 1 - i + 1, xw_pmeth18 _ _ _ _ _ _ _ _ _ _ _ _ hσ hl8 hli hld hm hv h7 hsd hpa hx H (l.length + 1 - i) i _ 0 (by omega) (by omega) (Nat.le_refl i) (xw_PS_0 ?_)⟩
  rintro k ⟨j', g1, g2, _⟩
  omega
end
section
def xw_PA (P : mp_PB) (l : List Nat) (σ : Nat → Nat) (t : Nat) (pa : Nat → Int32) : Prop := ∀ u, t < u → u < 4 → ∀ i, i ≤ l.length → xw_PS (pa (u * 9 + i)) (mp_RP P l σ (8 + u) i)
theorem xw_p21 {post : SX → Prop} {J2 J8 : Int32 → (Nat → Int32) → (Nat → Int32) → (Nat → Int32) → (Nat → Int32) → (Nat → Int32) → (Nat → Int32) → (Nat → Int32) → (Nat → Int32) → (Nat → Int64) → (Nat → Int32) → (Nat → Int32) → Prop} (ms : Int32) (ac ae mt mc mf sd li wc sa pa : Nat → Int32) (fp : Nat → Int64) {th sp : Nat → Int32} (hok : yp_ok th mt sp) (hM : xw_M ms mf sd th sp) {l : List Nat} {σ : Nat → Nat} (hσ : mp_SG (yp_P ac ae th mt mc sp) l σ) (hl8 : l.length ≤ 8) (hli : yw_CH li 0 l) (hld : ∀ a, a ∈ l → a < 6) {t i : Nat} (ht : t < 4) (hi : i ≤ l.length) (hsa : sa i = nI (σ i))
    (hpa : xw_PA (yp_P ac ae th mt mc sp) l σ t pa)
    (H : ∀ x, xw_PS x (mp_RP (yp_P ac ae th mt mc sp) l σ (8 + t) i) → J8 (nI (i + 1)) ac ae mt mc mf sd li wc fp sa (upd pa (t * 9 + i) x)) :
    ∀ (k m F : Nat) (x3 : Int32), m + k = 8 → k < F → xw_PS x3 (fun k => ∃ m', m' < m ∧ mp_app (yp_P ac ae th mt mc sp) t m' (σ i) = true ∧ ∃ j, i ≤ j ∧ j ≤ l.length ∧ mp_RP (yp_P ac ae th mt mc sp) l σ (mp_fs (yp_P ac ae th mt mc sp) m') i j ∧ mp_RP (yp_P ac ae th mt mc sp) l σ (mp_sn (yp_P ac ae th mt mc sp) m') j k) →
    wX_fillPlacesAfter_21 post J2 J8 (nI t) (nI i) ms (nI l.length) ac ae mt mc mf sd li wc fp sa pa F x3 (nI m) := by
  have ok := yp_mok (co := ac) (ef := ae) (de := mc) hok
  intro k
  induction k with
  | zero =>
    intro m F x3 hm hF hx
    obtain ⟨F, rfl⟩ : ∃ n, F = n + 1 := ⟨F - 1, by omega⟩
    obtain rfl : m = 8 := by omega
    have e9 : nI t * 9 + nI i = nI (t * 9 + i) := by
      rw [show (9 : Int32) = nI 9 from rfl, pk_mul, nI_add]
    refine br_t (nI_le (a := 8) (by omega) (by omega)) ?_
    rw [e9, nI_clamp (by omega : t * 9 + i < 2 ^ 31)]
    exact ⟨vp_in_nI (by omega) (by decide), nm_e (nm_r (nI_1 _) (H x3 (xw_PS_congr hx (fun j => mp_RPt ok hσ ht hi))))⟩
  | succ k ih =>
    intro m F x3 hm hF hx
    obtain ⟨F, rfl⟩ : ∃ n, F = n + 1 := ⟨F - 1, by omega⟩
    have hm8 : m < 8 := by omega
    have hin : vp_in (nI m) 8 := vp_in_nI hm8 (by decide)
    have hcl : (nI m).toNatClampNeg = m := nI_clamp (by omega)
    have skip : ¬ mp_app (yp_P ac ae th mt mc sp) t m (σ i) = true → wX_fillPlacesAfter_21 post J2 J8 (nI t) (nI i) ms (nI l.length) ac ae mt mc mf sd li wc fp sa pa F x3 (nI (m + 1)) := by
      intro ha
      refine ih (m + 1) F x3 (by omega) (by omega) (xw_PS_congr hx (fun j => ⟨?_, ?_⟩))
      · rintro ⟨m', g1, g2, g3⟩
        by_cases y : m' = m
        · subst y
          exact absurd g2 ha
        · exact ⟨m', by omega, g2, g3⟩
      · rintro ⟨m', g1, g2⟩
        exact ⟨m', by omega, g2⟩
    refine br_f (nI_ge (b := 8) (by omega) (by decide)) ?_
    refine xw_has _ _ _ _ _ _ _ _ _ _ _ _ _ hM.1 hm8 ?_
    by_cases z : th m = 0
    · rw [if_pos z]
      exact br_t rfl (nm_r (nI_1 _) (skip (fun h => (yp_app.mp h).1 z)))
    rw [if_neg z]
    refine br_f (by decide) ⟨hin, ?_⟩
    rw [hcl]
    refine br_c (fun w => ⟨hin, vp_in_nI (by omega) (by decide), ?_⟩) (fun w => nm_r (nI_1 _) (skip (fun h => w (yp_app.mp h).2.1)))
    rw [nI_clamp (by omega : i < 2 ^ 31), hsa]
    apply xw_holds
    by_cases x : yp_hI (mc m) (σ i) = true
    · rw [if_pos x]
      refine br_f (by decide) ?_
      have ha : mp_app (yp_P ac ae th mt mc sp) t m (σ i) = true := yp_app.mpr ⟨z, w, x⟩
      obtain ⟨k1, k2⟩ := ok.2 t m _ ht hm8 ha
      obtain ⟨t', kk, ht', e1, hkk, e2, s1, s2⟩ := (hok m hm8).2 z
      obtain ⟨m1, m2⟩ := hM.2 m hm8 z
      have ef := yp_fs (co := ac) (ef := ae) (th := th) (ta := mt) (de := mc) e2 hkk
      have es := yp_sn (co := ac) (ef := ae) (th := th) (ta := mt) (de := mc) e2 hkk
      have hmf : mf m = nI (mp_fs (yp_P ac ae th mt mc sp) m) := by rw [m1, ef.2, ef.1]
      have hsd : sd m = nI (mp_sn (yp_P ac ae th mt mc sp) m) := by rw [m2, es.2, es.1]
      unfold mp_sv at k1 k2
      refine xw_pmeth _ _ _ _ _ _ _ _ _ _ _ _ hσ hl8 hli hld hm8 hi (by omega) (by omega) (by omega) (by omega) hmf hsd ?_ ?_ ?_
      · intro u hu
        rw [hu]
        exact hpa u (by omega) (by omega)
      · intro u hu
        rw [hu]
        exact hpa u (by omega) (by omega)
      · intro y hy
        refine nm_e (nm_r (nI_1 _) (ih (m + 1) F _ (by omega) (by omega) (xw_PS_or hx hy (fun j => ⟨?_, ?_⟩))))
        · rintro ⟨m', g1, g2, g3⟩
          by_cases y : m' = m
          · subst y
            exact Or.inr g3
          · exact Or.inl ⟨m', by omega, g2, g3⟩
        · rintro (⟨m', g1, g2⟩ | g)
          · exact ⟨m', by omega, g2⟩
          · exact ⟨m, by omega, ha, g⟩
    · rw [if_neg x]
      exact br_t rfl (nm_r (nI_1 _) (skip (fun h => x (yp_app.mp h).2.2)))
theorem xw_p8 {post : SX → Prop} {J2 : Int32 → (Nat → Int32) → (Nat → Int32) → (Nat → Int32) → (Nat → Int32) → (Nat → Int32) → (Nat → Int32) → (Nat → Int32) → (Nat → Int32) → (Nat → Int64) → (Nat → Int32) → (Nat → Int32) → Prop} (ms : Int32) (ac ae mt mc mf sd li wc sa : Nat → Int32) (fp : Nat → Int64) {th sp : Nat → Int32} (hok : yp_ok th mt sp) (hM : xw_M ms mf sd th sp) {l : List Nat} {σ : Nat → Nat} (hσ : mp_SG (yp_P ac ae th mt mc sp) l σ) (hl8 : l.length ≤ 8) (hli : yw_CH li 0 l) (hld : ∀ a, a ∈ l → a < 6) {t : Nat} (ht : t < 4) (hsa : ∀ i, i ≤ l.length → sa i = nI (σ i))
    (H : ∀ pa : Nat → Int32, xw_PA (yp_P ac ae th mt mc sp) l σ t pa → (∀ i, i ≤ l.length → xw_PS (pa (t * 9 + i)) (mp_RP (yp_P ac ae th mt mc sp) l σ (8 + t) i)) → J2 (nI t + (-1)) ac ae mt mc mf sd li wc fp sa pa) :
    ∀ (k i F : Nat) (pa : Nat → Int32), i + k = l.length + 1 → k < F → xw_PA (yp_P ac ae th mt mc sp) l σ t pa → (∀ j, j < i → xw_PS (pa (t * 9 + j)) (mp_RP (yp_P ac ae th mt mc sp) l σ (8 + t) j)) →
    wX_fillPlacesAfter_8 post J2 (nI t) ms (nI l.length) F (nI i) ac ae mt mc mf sd li wc fp sa pa := by
  intro k
  induction k with
  | zero =>
    intro i F pa hi hF hpa hz
    obtain ⟨F, rfl⟩ : ∃ n, F = n + 1 := ⟨F - 1, by omega⟩
    exact br_t (nI_lt (by omega) (by omega)) (nm_e (H pa hpa (fun j hj => hz j (by omega))))
  | succ k ih =>
    intro i F pa hi hF hpa hz
    obtain ⟨F, rfl⟩ : ∃ n, F = n + 1 := ⟨F - 1, by omega⟩
    refine br_f (nI_nlt (by omega) (by omega)) ⟨9, xw_p21 _ _ _ _ _ _ _ _ _ _ _ _ hok hM hσ hl8 hli hld ht (by omega) (hsa i (by omega)) hpa ?_ 8 0 9 0 (by omega) (by omega) (xw_PS_0 ?_)⟩
    · intro x hx
      refine ih (i + 1) F _ (by omega) (by omega) ?_ ?_
      · intro u hu1 hu2 j hj
        rw [pk_un (by omega)]
        exact hpa u hu1 hu2 j hj
      · intro j hj
        by_cases y : j = i
        · subst y
          rw [pk_us]
          exact hx
        · rw [pk_un (by omega)]
          exact hz j (by omega)
    · rintro j ⟨m', g1, _⟩
      omega
theorem xw_p2 {post : SX → Prop} (ms : Int32) (ac ae mt mc mf sd li wc sa : Nat → Int32) (fp : Nat → Int64) {th sp : Nat → Int32} (hok : yp_ok th mt sp) (hM : xw_M ms mf sd th sp) {l : List Nat} {σ : Nat → Nat} (hσ : mp_SG (yp_P ac ae th mt mc sp) l σ) (hl8 : l.length ≤ 8) (hli : yw_CH li 0 l) (hld : ∀ a, a ∈ l → a < 6) (hsa : ∀ i, i ≤ l.length → sa i = nI (σ i))
    (H : ∀ pa : Nat → Int32, (∀ u, u < 4 → ∀ i, i ≤ l.length → xw_PS (pa (u * 9 + i)) (mp_RP (yp_P ac ae th mt mc sp) l σ (8 + u) i)) → post (ms, nI l.length, ac, ae, mt, mc, mf, sd, li, wc, fp, sa, pa)) :
    ∀ (k F : Nat) (x1 : Int32) (pa : Nat → Int32), k ≤ 4 → k < F → x1 = (if k = 0 then -1 else nI (k - 1)) → (∀ u, k ≤ u → u < 4 → ∀ i, i ≤ l.length → xw_PS (pa (u * 9 + i)) (mp_RP (yp_P ac ae th mt mc sp) l σ (8 + u) i)) →
    wX_fillPlacesAfter_2 post ms (nI l.length) F x1 ac ae mt mc mf sd li wc fp sa pa := by
  intro k
  induction k with
  | zero =>
    intro F x1 pa hk hF hx hA
    obtain ⟨F, rfl⟩ : ∃ n, F = n + 1 := ⟨F - 1, by omega⟩
    rw [if_pos rfl] at hx
    subst hx
    exact br_t (by decide) (H pa (fun u hu => hA u (by omega) hu))
  | succ k ih =>
    intro F x1 pa hk hF hx hA
    obtain ⟨F, rfl⟩ : ∃ n, F = n + 1 := ⟨F - 1, by omega⟩
    rw [if_neg (by omega), Nat.add_sub_cancel] at hx
    subst hx
    refine br_f (nI_pos (by omega)) ⟨l.length + 2, xw_p8 _ _ _ _ _ _ _ _ _ _ _ hok hM hσ hl8 hli hld (by omega) hsa ?_ (l.length + 1) 0 _ pa (by omega) (by omega) (fun u hu => hA u (by omega)) (fun i hi => by omega)⟩
    intro pa' hA1 hA2
    refine ih F _ pa' (by omega) (by omega) ?_ ?_
    · by_cases z : k = 0
      · subst z
        decide
      · rw [if_neg z]
        obtain ⟨j, rfl⟩ : ∃ j, k = j + 1 := ⟨k - 1, by omega⟩
        exact pk_m1 j
    · intro u hu1 hu2
      by_cases z : u = k
      · subst z
        exact hA2
      · exact hA1 u (by omega) hu2
/-- doing the list -/
theorem xw_walk11 {post : Int32 → SX → Prop} (ms : Int32) (ac ae mt mc mf sd li wc pa : Nat → Int32) (fp : Nat → Int64) (th sp : Nat → Int32) {L : Nat} (hL : L ≤ 8) : ∀ (l : List Nat) (i F s : Nat) (sa : Nat → Int32), i + l.length = L → l.length < F → yw_CH li i l → (∀ a, a ∈ l → a < 6) → s < 32 → sa i = nI s →
    (mp_run (yp_P ac ae th mt mc sp) l s = none → ∀ sa' : Nat → Int32, post (-1) (ms, nI L, ac, ae, mt, mc, mf, sd, li, wc, fp, sa', pa)) →
    (∀ e, mp_run (yp_P ac ae th mt mc sp) l s = some e → e < 32 → ∀ sa' : Nat → Int32, (∀ j, j ≤ l.length → sa' (i + j) = nI (mp_sg (yp_P ac ae th mt mc sp) l s j)) → (∀ j, j < i → sa' j = sa j) → post (nI e) (ms, nI L, ac, ae, mt, mc, mf, sd, li, wc, fp, sa', pa)) →
    wX_walkList_11 post ms (nI L) F (nI s) (nI i) ac ae mt mc mf sd li wc fp sa pa := by
  intro l
  induction l with
  | nil =>
    intro i F s sa h1 hF hch hd hs hsa h0 h1'
    obtain ⟨F, rfl⟩ : ∃ n, F = n + 1 := ⟨F - 1, by omega⟩
    have e : i + 0 = L := h1
    refine br_t (nI_le (by omega) (by omega)) (h1' s rfl hs sa (fun j hj => ?_) (fun j _ => rfl))
    have : j = 0 := by
      have : j ≤ 0 := hj
      omega
    subst this
    exact hsa
  | cons a l ih =>
    intro i F s sa h1 hF hch hd hs hsa h0 h1'
    have e : i + (l.length + 1) = L := h1
    have hF' : l.length + 1 < F := hF
    obtain ⟨F, rfl⟩ : ∃ n, F = n + 1 := ⟨F - 1, by omega⟩
    have ha := hd a List.mem_cons_self
    refine br_f (nI_ge (by omega) (by omega)) ⟨vp_in_nI (by omega) (by decide), ?_⟩
    rw [nI_clamp (by omega : i < 2 ^ 31), hch.1]
    refine xw_outcome _ _ _ _ _ _ _ _ _ _ _ _ _ ha hs ?_
    have er : mp_run (yp_P ac ae th mt mc sp) (a :: l) s = if yp_hI (ac a) s then mp_run (yp_P ac ae th mt mc sp) l (yp_chg (ae a) s) else none := rfl
    rw [er] at h0 h1'
    by_cases x : yp_hI (ac a) s = true
    · rw [if_pos x] at h0 h1' ⊢
      have hc32 := (yp_ex_eq (ae a) hs).2
      have hn1 : ¬ nI (yp_chg (ae a) s) = -1 := by
        intro h
        have h2 := nI_pos (n := yp_chg (ae a) s) (by omega)
        rw [h] at h2
        exact h2 (by decide)
      refine br_f hn1 ?_
      rw [nI_1, nI_clamp (by omega : i + 1 < 2 ^ 31)]
      refine ⟨vp_in_nI (by omega) (by decide), nm_e (nm_e (ih (i + 1) F _ _ (by omega) (by omega) hch.2 (fun a h => hd a (List.mem_cons_of_mem _ h)) hc32 pk_us h0 ?_))⟩
      intro e he he32 sa' g1 g2
      refine h1' e he he32 sa' (fun j hj => ?_) (fun j hj => ?_)
      · cases j with
        | zero => exact (g2 i (by omega)).trans ((pk_un (by omega)).trans hsa)
        | succ j =>
          have hj' : j + 1 ≤ l.length + 1 := hj
          have := g1 j (by omega)
          have e2 : i + 1 + j = i + (j + 1) := by omega
          rw [e2] at this
          exact this
      · exact (g2 j (by omega)).trans (pk_un (by omega))
    · rw [if_neg x] at h0 ⊢
      exact br_t rfl (h0 rfl sa)
theorem xw_walk {post : Int32 → SX → Prop} (ms : Int32) (ac ae mt mc mf sd li wc sa pa : Nat → Int32) (fp : Nat → Int64) (th sp : Nat → Int32) {l : List Nat} (hl8 : l.length ≤ 8) (hli : yw_CH li 0 l) (hld : ∀ a, a ∈ l → a < 6) {s : Nat} (hs : s < 32)
    (h0 : mp_run (yp_P ac ae th mt mc sp) l s = none → ∀ sa' : Nat → Int32, post (-1) (ms, nI l.length, ac, ae, mt, mc, mf, sd, li, wc, fp, sa', pa))
    (h1 : ∀ e, mp_run (yp_P ac ae th mt mc sp) l s = some e → e < 32 → ∀ sa' : Nat → Int32, (∀ j, j ≤ l.length → sa' j = nI (mp_sg (yp_P ac ae th mt mc sp) l s j)) → post (nI e) (ms, nI l.length, ac, ae, mt, mc, mf, sd, li, wc, fp, sa', pa)) :
    wpX_walkList post (ms, nI l.length, ac, ae, mt, mc, mf, sd, li, wc, fp, sa, pa) (nI s) := by
  refine nm_e ⟨l.length + 1, xw_walk11 _ _ _ _ _ _ _ _ _ _ _ th sp hl8 l 0 _ s _ (by omega) (by omega) hli hld hs pk_us h0 ?_⟩
  intro e he he32 sa' g1 _
  refine h1 e he he32 sa' (fun j hj => ?_)
  have := g1 j hj
  rw [Nat.zero_add] at this
  exact this
theorem xw_accounts {post : Int32 → SX → Prop} (ms : Int32) (ac ae mt mc mf sd li wc sa pa : Nat → Int32) (fp : Nat → Int64) {th sp : Nat → Int32} (hok : yp_ok th mt sp) (hM : xw_M ms mf sd th sp) {l : List Nat} (hl8 : l.length ≤ 8) (hli : yw_CH li 0 l) (hld : ∀ a, a ∈ l → a < 6) {t s : Nat} (ht : t < 4) (hs : s < 32)
    (H : ∀ sa' pa' : Nat → Int32, post (if mp_hs l (mp_ws (yp_P ac ae th mt mc sp) (8 + t) s) then 1 else 0) (ms, nI l.length, ac, ae, mt, mc, mf, sd, li, wc, fp, sa', pa')) :
    wpX_accounts post (ms, nI l.length, ac, ae, mt, mc, mf, sd, li, wc, fp, sa, pa) (nI t) (nI s) := by
  have ok := yp_mok (co := ac) (ef := ae) (de := mc) hok
  unfold wpX_accounts
  dsimp only
  refine xw_isTask ht ?_
  refine br_f (by decide) ?_
  refine xw_isState hs ?_
  refine br_f (by decide) ?_
  refine xw_walk _ _ _ _ _ _ _ _ _ _ _ _ th sp hl8 hli hld hs (fun hn sa' => ?_) (fun e he he32 sa' hsa => ?_)
  · refine br_t rfl ?_
    have hno : ¬ mp_hs l (mp_ws (yp_P ac ae th mt mc sp) (8 + t) s) = true := by
      unfold mp_hs
      rw [List.any_eq_true]
      rintro ⟨⟨e, q⟩, h1, h2⟩
      have h3 : q = l := of_decide_eq_true h2
      have h4 := (mp_ws_good ok (by omega) (by omega) hs h1).2.2.2
      dsimp only at h4
      rw [h3, hn] at h4
      exact nomatch h4
    have := H sa' pa
    rw [if_neg hno] at this
    exact this
  · have hn1 : ¬ nI e = -1 := by
      intro h
      have h2 := nI_pos (n := e) (by omega)
      rw [h] at h2
      exact h2 (by decide)
    refine br_f hn1 ?_
    have hσ : mp_SG (yp_P ac ae th mt mc sp) l (mp_sg (yp_P ac ae th mt mc sp) l s) := ⟨fun i => mp_sg_lt ok l s i hs hld, fun i h => mp_sg_step _ l s e i he h⟩
    refine ⟨5, xw_p2 _ _ _ _ _ _ _ _ _ _ _ hok hM hσ hl8 hli hld hsa ?_ 4 5 3 pa (by omega) (by omega) rfl (fun u h1 h2 => by omega)⟩
    intro pa' hpa
    have e9 : nI t * 9 = nI (t * 9) := by
      rw [show (9 : Int32) = nI 9 from rfl, pk_mul]
    rw [e9, nI_clamp (by omega : t * 9 < 2 ^ 31)]
    refine ⟨vp_in_nI (by omega) (by decide), ?_⟩
    have hp := hpa t ht 0 (Nat.zero_le _) l.length (by omega)
    rw [mp_RPf, mp_sg_0, Nat.add_zero] at hp
    have hb := xw_bit (pa' (t * 9)) (m := l.length) (by omega)
    have HH := H sa' pa'
    refine br_c (fun z => ?_) (fun z => ?_)
    · have hno : ¬ mp_hs l (mp_ws (yp_P ac ae th mt mc sp) (8 + t) s) = true := by
        intro h
        have h1 := hp.mpr h
        rw [hb.mp z] at h1
        exact nomatch h1
      rw [if_neg hno] at HH
      exact HH
    · have hyes : mp_hs l (mp_ws (yp_P ac ae th mt mc sp) (8 + t) s) = true := by
        apply hp.mp
        cases e : bt (pa' (t * 9)) l.length
        · exact absurd (hb.mpr e) z
        · rfl
      rw [if_pos hyes] at HH
      exact HH
end
section
def xw_R (l : List Nat) (ms : Int32) (ac ae mt mc mf sd li wc : Nat → Int32) (fp : Nat → Int64) (th sp : Nat → Int32) : Prop :=
  l.length ≤ 8 ∧ yw_CH li 0 l ∧ (∀ a, a ∈ l → a < 6) ∧ yp_ok th mt sp ∧ xw_M ms mf sd th sp ∧ ∀ v, v ≤ 11 → v ≠ 7 → xw_tv (yp_P ac ae th mt mc sp) v wc fp
/-- the relation: the same conditions, effects, tasks, demands and list; the component's tables tell of the ways -/
def i_Rel (_ : Nat) (u : SX) (v : SY) : Prop := ∃ (l : List Nat) (ms : Int32) (ac ae mt mc mf sd li wc : Nat → Int32) (fp : Nat → Int64) (sa pa : Nat → Int32) (kn md op st ps bs : Int32) (th sp ch ga pl be : Nat → Int32),
  u = (ms, nI l.length, ac, ae, mt, mc, mf, sd, li, wc, fp, sa, pa) ∧ v = (nI l.length, kn, md, op, st, ps, bs, ac, ae, th, mt, mc, sp, li, ch, ga, pl, be) ∧ xw_R l ms ac ae mt mc mf sd li wc fp th sp
theorem xr_mk (k : Nat) {l : List Nat} {ms : Int32} {ac ae mt mc mf sd li wc : Nat → Int32} {fp : Nat → Int64} {sa pa : Nat → Int32} {kn md op st ps bs : Int32} {th sp ch ga pl be : Nat → Int32} (h : xw_R l ms ac ae mt mc mf sd li wc fp th sp) :
    i_Rel k (ms, nI l.length, ac, ae, mt, mc, mf, sd, li, wc, fp, sa, pa) (nI l.length, kn, md, op, st, ps, bs, ac, ae, th, mt, mc, sp, li, ch, ga, pl, be) :=
  ⟨l, ms, ac, ae, mt, mc, mf, sd, li, wc, fp, sa, pa, kn, md, op, st, ps, bs, th, sp, ch, ga, pl, be, rfl, rfl, h⟩
theorem xr_lt_le {a b x : Int32} (h : a < b) (h2 : b ≤ x) : a < x := by
  rw [Int32.lt_iff_toInt_lt] at h ⊢
  rw [Int32.le_iff_toInt_le] at h2
  omega
theorem xr_nlt {a x : Int32} (h : a ≤ x) : ¬ x < a := by
  rw [Int32.lt_iff_toInt_lt]
  rw [Int32.le_iff_toInt_le] at h
  omega
theorem xr_nle {a b x : Int32} (h : a < b) (h2 : b ≤ x) : ¬ x ≤ a := by
  rw [Int32.lt_iff_toInt_lt] at h
  rw [Int32.le_iff_toInt_le] at h2 ⊢
  omega
theorem xr_dom (x : Int32) (n : Nat) (hn : n < 2 ^ 31) : (x < 0 ∨ nI n ≤ x) ∨ ∃ j : Nat, j < n ∧ x = nI j := by
  rcases pk_ix x hn with h | h | h
  · exact Or.inl (Or.inl h)
  · exact Or.inl (Or.inr h)
  · exact Or.inr h
theorem xr_pos {n : Nat} {x : Int32} (h : nI n ≤ x) (hn : n < 2 ^ 31) : ¬ x < 0 := by
  have := nI_pos' hn
  exact xr_nlt (Int32.le_trans this h)
theorem xw_isTask0 {post : Int32 → Prop} {x : Int32} (h : x < 0 ∨ nI 4 ≤ x) (hp : post 0) : wpX_isTask post x := by
  rcases h with h | h
  · exact br_t h hp
  · exact br_f (xr_pos h (by decide)) (br_t h hp)
theorem yw_task0 {post : Int32 → Prop} {u : SY} {x : Int32} (h : x < 0 ∨ nI 4 ≤ x) (hp : post 0) : wpY_task post u x := by
  obtain ⟨wr, kn, md, op, st, ps, bs, co, ef, th, ta, de, sp, li, ch, ga, pl, be⟩ := u
  rcases h with h | h
  · exact br_t h hp
  · exact br_f (xr_pos h (by decide)) (br_t (xr_lt_le (by decide) h) hp)
theorem xw_isState0 {post : Int32 → Prop} {x : Int32} (h : x < 0 ∨ nI 32 ≤ x) (hp : post 0) : wpX_isState post x := by
  rcases h with h | h
  · exact br_t h hp
  · exact br_f (xr_pos h (by decide)) (br_t h hp)
theorem yw_isState0 {post : Int32 → Prop} {u : SY} {x : Int32} (h : x < 0 ∨ nI 32 ≤ x) (hp : post 0) : wpY_isState post u x := by
  obtain ⟨wr, kn, md, op, st, ps, bs, co, ef, th, ta, de, sp, li, ch, ga, pl, be⟩ := u
  rcases h with h | h
  · exact br_t h hp
  · exact br_f (xr_pos h (by decide)) (br_t (xr_lt_le (by decide) h) hp)
theorem xw_pair0 {post : Int32 → Prop} {x : Int32} (h : x < 0 ∨ nI 1024 ≤ x) (hp : post 0) : wpX_isFactPair post x := by
  rcases h with h | h
  · exact br_t h hp
  · exact br_f (xr_pos h (by decide)) (br_t h hp)
theorem yw_pair0 {post : Int32 → Prop} {u : SY} {x : Int32} (h : x < 0 ∨ nI 1024 ≤ x) (hp : post 0) : wpY_pair post u x := by
  obtain ⟨wr, kn, md, op, st, ps, bs, co, ef, th, ta, de, sp, li, ch, ga, pl, be⟩ := u
  rcases h with h | h
  · exact br_t h hp
  · exact br_f (xr_pos h (by decide)) (br_t (xr_lt_le (by decide) h) hp)
theorem xw_pair {post : Int32 → Prop} {c : Nat} (hc : c < 1024) (hp : post 1) : wpX_isFactPair post (nI c) :=
  br_f (nI_pos (by omega)) (br_f (nI_ge (b := 1024) hc (by decide)) hp)
theorem yw_pair {post : Int32 → Prop} {u : SY} {c : Nat} (hc : c < 1024) (hp : post 1) : wpY_pair post u (nI c) := by
  obtain ⟨wr, kn, md, op, st, ps, bs, co, ef, th, ta, de, sp, li, ch, ga, pl, be⟩ := u
  exact br_f (nI_pos (by omega)) (br_f (nI_nlt (a := 1023) (b := c) (by omega) (by decide)) hp)
theorem xw_isAction0 {post : Int32 → Prop} {x : Int32} (h : x < 0 ∨ nI 6 ≤ x) (hp : post 0) : wpX_isAction post x := by
  rcases h with h | h
  · exact br_t h hp
  · exact br_f (xr_pos h (by decide)) (br_t h hp)
theorem xw_isAction {post : Int32 → Prop} {a : Nat} (ha : a < 6) (hp : post 1) : wpX_isAction post (nI a) :=
  br_f (nI_pos (by omega)) (br_f (nI_ge (b := 6) ha (by decide)) hp)
theorem xw_has0 {post : Int32 → Prop} (ms ll : Int32) (ac ae mt mc mf sd li wc sa pa : Nat → Int32) (fp : Nat → Int64) {x : Int32} (h : x < 0 ∨ nI 8 ≤ x) (hp : post 0) : wpX_hasMethod post (ms, ll, ac, ae, mt, mc, mf, sd, li, wc, fp, sa, pa) x := by
  rcases h with h | h
  · exact br_t h hp
  · exact br_f (xr_pos h (by decide)) (br_t h hp)
/-- steps -/
theorem xw_isStepOf {post : Int32 → Prop} {t f : Nat} (ht : t < 4) (hf : f < 16) (h1 : mp_sv t f → post 1) (h0 : ¬ mp_sv t f → post 0) : wpX_isStepOf post (nI t) (nI f) := by
  unfold mp_sv at h1 h0
  have e8 : (8 : Int32) + nI t = nI (8 + t) := nI_add 8 t
  unfold wpX_isStepOf
  rw [e8]
  refine pk_le 8 f (fun a => pk_le f (8 + t) (fun b => h0 (by omega)) (fun b => pk_le 12 f (fun c => h0 (by omega)) (fun c => h1 (by omega)))) (fun a => br_f (nI_pos (by omega)) (pk_le 7 f (fun c => h0 (by omega)) (fun c => h1 (by omega))))
theorem yw_step {post : Int32 → Prop} {u : SY} {t f : Nat} (ht : t < 4) (hf : f < 16) (h1 : mp_sv t f → post 1) (h0 : ¬ mp_sv t f → post 0) : wpY_step post u (nI t) (nI f) := by
  obtain ⟨wr, kn, md, op, st, ps, bs, co, ef, th, ta, de, sp, li, ch, ga, pl, be⟩ := u
  unfold mp_sv at h1 h0
  have e8 : (8 : Int32) + nI t = nI (8 + t) := nI_add 8 t
  refine br_f (nI_pos (by omega)) (pk_le f 6 (fun a => h1 (by omega)) (fun a => ?_))
  unfold wY_step_10
  rw [e8]
  exact pk_le f (8 + t) (fun b => h0 (by omega)) (fun b => pk_lt 11 f (fun c => h0 (by omega)) (fun c => h1 (by omega)))
/-- the set as the reference tells it -/
theorem mp_dz_bt (b : Nat → Bool) : ∀ (k c : Nat) (a : Int32) (i : Nat), c + k ≤ 32 → i < 32 → bt (mp_dz b k c a) i = (bt a i || (decide (c ≤ i ∧ i < c + k) && b i))
  | 0, c, a, i, _, _ => by
    show bt a i = _
    rw [decide_eq_false (by omega), Bool.false_and, Bool.or_false]
  | k + 1, c, a, i, h, hi => by
    show bt (mp_dz b k (c + 1) (if b c then a ||| ((1 : Int32) <<< (nI c &&& 31)) else a)) i = _
    rw [mp_dz_bt b k (c + 1) _ i (by omega) hi]
    by_cases z : i = c
    · subst z
      rw [decide_eq_false (by omega : ¬ (i + 1 ≤ i ∧ i < i + 1 + k)), decide_eq_true (by omega : i ≤ i ∧ i < i + (k + 1)), Bool.false_and, Bool.or_false, Bool.true_and]
      cases e : b i
      · simp
      · rw [if_pos rfl, b_or, xw_one hi hi, decide_eq_true rfl]
    · have e1 : bt (if b c then a ||| ((1 : Int32) <<< (nI c &&& 31)) else a) i = bt a i := by
        cases e : b c
        · rfl
        · rw [if_pos rfl, b_or, xw_one (by omega) hi, decide_eq_false z, Bool.or_false]
      rw [e1]
      by_cases y : c ≤ i ∧ i < c + (k + 1)
      · rw [decide_eq_true y, decide_eq_true (by omega : c + 1 ≤ i ∧ i < c + 1 + k)]
      · rw [decide_eq_false y, decide_eq_false (by omega : ¬ (c + 1 ≤ i ∧ i < c + 1 + k))]
theorem xw_MS_dz {ms : Int32} {th : Nat → Int32} (h : xw_MS ms th) : mp_dz (fun m => decide (¬ th m = 0)) 8 0 0 = ms := by
  apply b_ext
  intro i hi
  rw [mp_dz_bt _ 8 0 0 i (by omega) hi, h i hi, b_0, Bool.false_or]
  congr 1
  by_cases y : i < 8
  · rw [decide_eq_true y, decide_eq_true (by omega : 0 ≤ i ∧ i < 0 + 8)]
  · rw [decide_eq_false y, decide_eq_false (by omega : ¬ (0 ≤ i ∧ i < 0 + 8))]
theorem xw_MS_set {ms : Int32} {th : Nat → Int32} {m : Nat} (hm : m < 8) (h : xw_MS ms th) : xw_MS (ms ||| ((1 : Int32) <<< (nI m &&& 31))) (upd th m 1) := by
  intro i hi
  rw [b_or, xw_one (by omega) hi, h i hi]
  by_cases y : i = m
  · subst y
    rw [pk_us, decide_eq_true hm, decide_eq_true rfl]
    simp
  · rw [pk_un y, decide_eq_false y, Bool.or_false]
theorem xw_MS_clr {ms : Int32} {th : Nat → Int32} {m : Nat} (hm : m < 8) (h : xw_MS ms th) : xw_MS (ms &&& (((1 : Int32) <<< (nI m &&& 31)) ^^^ (-1))) (upd th m 0) := by
  intro i hi
  rw [b_and, b_xor, xw_one (by omega) hi, b_m1 i hi, h i hi]
  by_cases y : i = m
  · subst y
    rw [pk_us, decide_eq_true rfl]
    simp
  · rw [pk_un y, decide_eq_false y]
    simp
/-- tables of equal ways -/
theorem xw_tv_congr {P P' : mp_PB} {v : Nat} {wc : Nat → Int32} {fp : Nat → Int64} (h : xw_tv P v wc fp) (e : ∀ s, mp_ws P' v s = mp_ws P v s) : xw_tv P' v wc fp := by
  intro s hs i hi
  unfold mp_cn
  rw [e s]
  exact h s hs i hi
theorem xw_ws6 {ac ae th mt mc sp ac' ae' th' mt' mc' sp' : Nat → Int32} {v : Nat} (hv : v ≤ 6) (h : ∀ a, v = 1 + a → ac' a = ac a ∧ ae' a = ae a) (s : Nat) : mp_ws (yp_P ac' ae' th' mt' mc' sp') v s = mp_ws (yp_P ac ae th mt mc sp) v s := by
  by_cases z : v = 0
  · subst z
    rw [mp_ws0, mp_ws0]
  · have e1 := mp_wsa (yp_P ac' ae' th' mt' mc' sp') s z (by omega)
    have e2 := mp_wsa (yp_P ac ae th mt mc sp) s z (by omega)
    obtain ⟨h1, h2⟩ := h (v - 1) (by omega)
    have g1 : mp_hol (yp_P ac' ae' th' mt' mc' sp') (v - 1) s = mp_hol (yp_P ac ae th mt mc sp) (v - 1) s := by
      show yp_hI (ac' (v - 1)) s = yp_hI (ac (v - 1)) s
      rw [h1]
    have g2 : mp_out (yp_P ac' ae' th' mt' mc' sp') (v - 1) s = mp_out (yp_P ac ae th mt mc sp) (v - 1) s := by
      show yp_chg (ae' (v - 1)) s = yp_chg (ae (v - 1)) s
      rw [h2]
    rw [e1, e2, g1, g2]
theorem xw_rmP {ac ae th mt mc sp : Nat → Int32} (m : Nat) : yp_P ac ae (upd th m 0) mt mc sp = mp_rm (yp_P ac ae th mt mc sp) m := by
  unfold yp_P mp_rm
  congr 2
  congr 1
  funext t i s
  by_cases e : i = m
  · subst e
    rw [pk_us]
    simp
  · rw [pk_un e]
    simp [e]
/-- plans alike in number are alike -/
theorem mp_en_eq {p q : List Nat} (hp : mp_pg p) (hq : mp_pg q) (h : mp_en p = mp_en q) : p.length = q.length := by
  have h1 := mp_dg_16 hp.2 hp.1
  have h2 := mp_dg_16 hq.2 hq.1
  unfold mp_en at h
  omega
theorem mp_digit {b : List Nat} (hb : mp_pg b) {i : Nat} (hi : i < b.length) : mp_en b / 2 ^ (3 * (b.length - 1 - i)) % 8 = b[i] := by
  have hl := hb.1
  have e : b = b.take i ++ (b[i] :: b.drop (i + 1)) := by
    rw [← List.drop_eq_getElem_cons hi, List.take_append_drop]
  have hdl : (b.drop (i + 1)).length = b.length - 1 - i := by
    rw [List.length_drop]
    omega
  have hlt := mp_dg_lt (b.drop (i + 1)) (fun a ha => hb.2 a (List.mem_of_mem_drop ha))
  have hd8 := hb.2 b[i] (List.getElem_mem hi)
  rw [hdl] at hlt
  have ed : mp_dg b = mp_dg (b.take i) * 8 ^ (b.length - 1 - i + 1) + (b[i] * 8 ^ (b.length - 1 - i) + mp_dg (b.drop (i + 1))) := by
    have h1 := mp_dg_app (b.take i) (b[i] :: b.drop (i + 1))
    rw [← e] at h1
    have h2 : (b[i] :: b.drop (i + 1)).length = b.length - 1 - i + 1 := by
      show (b.drop (i + 1)).length + 1 = _
      rw [hdl]
    rw [h2] at h1
    have h3 : mp_dg (b[i] :: b.drop (i + 1)) = b[i] * 8 ^ (b.drop (i + 1)).length + mp_dg (b.drop (i + 1)) := rfl
    rw [h3, hdl] at h1
    exact h1
  generalize hj : b.length - 1 - i = j at *
  have h48 : (2 : Nat) ^ 48 = 8 ^ (15 - j) * 8 * 8 ^ j := by
    have : (2 : Nat) ^ 48 = 8 ^ 16 := by decide
    rw [this, ← Nat.pow_succ, ← Nat.pow_add]
    congr 1
    omega
  have e8 : (2 : Nat) ^ (3 * j) = 8 ^ j := by
    rw [Nat.pow_mul]
  have een : mp_en b = mp_dg (b.drop (i + 1)) + ((b.length * 8 ^ (15 - j) + mp_dg (b.take i)) * 8 + b[i]) * 8 ^ j := by
    unfold mp_en
    rw [ed, h48, Nat.pow_succ]
    generalize mp_dg (b.take i) = A
    generalize mp_dg (b.drop (i + 1)) = D
    generalize 8 ^ (15 - j) = C
    generalize 8 ^ j = M
    generalize b.length = L
    generalize b[i] = x
    have q1 : L * (C * 8 * M) = L * C * 8 * M := by
      rw [← Nat.mul_assoc, ← Nat.mul_assoc]
    have q2 : A * (M * 8) = A * 8 * M := by
      rw [Nat.mul_comm M 8, ← Nat.mul_assoc]
    rw [q1, q2, Nat.add_mul, Nat.add_mul, Nat.add_mul]
    omega
  rw [een, e8, Nat.add_mul_div_right _ _ (Nat.pow_pos (by decide)), Nat.div_eq_of_lt hlt, Nat.zero_add]
  omega
theorem xw_digit {b : List Nat} (hb : mp_pg b) {i : Nat} (hi : i < b.length) : ((lN (mp_en b) >>> ((nI (3 * (b.length - 1 - i))).toInt64 &&& 63)).toInt32) &&& 7 = nI b[i] := by
  have hl := hb.1
  have hen := mp_en_b hb
  have hc := wb_c (3 * (b.length - 1 - i)) (by omega)
  have hD : (((nI (3 * (b.length - 1 - i))).toInt64 &&& 63).toBitVec.smod 64).toNat = 3 * (b.length - 1 - i) := by
    rw [hc, wb_tb, wb_sm _ (by omega), BitVec.toNat_ofNat]
    exact Nat.mod_eq_of_lt (by omega)
  rw [pf_shr hD (by omega), lN_i, pk_and _ 3 (by decide)]
  congr 1
  have e : (nI (mp_en b / 2 ^ (3 * (b.length - 1 - i)))).toBitVec.toNat = (mp_en b / 2 ^ (3 * (b.length - 1 - i))) % 2 ^ 32 := by
    show (BitVec.ofNat 32 _).toNat = _
    rw [BitVec.toNat_ofNat]
  rw [e]
  have := mp_digit hb hi
  omega
end
section
theorem i_up {k : Nat} {u : SX} {v : SY} (h : i_Rel k u v) : i_Rel (k + 4) u v := h
theorem xr_none {P : mp_PB} (ok : mp_ok P) {t s : Nat} (ht : t < 4) (hs : s < 32) (h : ∀ m, m < 8 → ¬ mp_app P t m s = true) : mp_ws P (8 + t) s = [] := by
  apply List.eq_nil_iff_forall_not_mem.mpr
  rintro ⟨e, r⟩ hx
  rw [mp_ws_t ok ht hs] at hx
  obtain ⟨m, hm, ha, _⟩ := hx
  exact h m hm ha
theorem i_vc0 : wpX_init (fun u => wpY_init (fun v => i_Rel 0 u v)) := by
  have hok : yp_ok (fun _ => 0) (fun _ => 0) (fun _ => 0) := fun m _ => ⟨Or.inl rfl, fun z => absurd rfl z⟩
  have ok := yp_mok (co := fun _ => 0) (ef := fun _ => 0) (de := fun _ => 0) hok
  refine ⟨33, xw_no2 (P := yp_P (fun _ => 0) (fun _ => 0) (fun _ => 0) (fun _ => 0) (fun _ => 0) (fun _ => 0)) _ _ _ _ _ _ _ _ _ _ _ ?_ 32 0 33 _ _ (by omega) (by omega) (fun i hi => by omega) (fun j _ => rfl)⟩
  intro wc fp hA hz
  refine ⟨7, xw_init110 _ _ _ _ _ _ _ _ _ _ _ (th := fun _ => 0) (sp := fun _ => 0) ?_ 6 0 7 wc fp (by omega) (by omega) (fun v hv => ?_) (fun j hj => hz j (by omega))⟩
  · intro wc fp hA hz
    refine xr_mk 0 (l := []) ⟨Nat.zero_le _, trivial, fun a h => (nomatch h), hok, ⟨?_, fun m _ h => absurd rfl h⟩, ?_⟩
    · intro i hi
      rw [b_0, decide_eq_false (p := ¬ (0 : Int32) = 0) (fun h => h rfl), Bool.and_false]
    · intro v hv h7
      by_cases w : v ≤ 6
      · exact hA v w
      · obtain ⟨t, ht, rfl⟩ : ∃ t, t < 4 ∧ v = 8 + t := ⟨v - 8, by omega, by omega⟩
        intro s hs e he
        have hn := xr_none ok ht hs (fun m hm h => (yp_app.mp h).1 rfl)
        unfold mp_cn
        rw [hn, hz _ (by omega)]
        exact ⟨rfl, fun _ q hq => (nomatch hq), fun z => absurd z (Nat.lt_irrefl 0)⟩
  · have : v = 0 := by omega
    subst this
    exact hA
theorem i_vc_write {k : Nat} {u : SX} {v : SY} (I : i_Rel k u v) (hk : k + 4 ≤ 2048) (v1 : Int32) : wpX_write (fun r u' => wpY_write (fun r' v' => r' = r ∧ i_Rel (k + 4) u' v') v v1) u v1 := by
  obtain ⟨l, ms, ac, ae, mt, mc, mf, sd, li, wc, fp, sa, pa, kn, md, op, st, ps, bs, th, sp, ch, ga, pl, be, rfl, rfl, h⟩ := I
  obtain ⟨r1, r2, r3, r4, r5, r6⟩ := h
  unfold wpX_write
  dsimp only
  rcases xr_dom v1 6 (by decide) with hb | ⟨a, ha, rfl⟩
  · refine xw_isAction0 hb ?_
    refine br_t rfl ?_
    rcases hb with h0 | h6
    · exact br_t h0 ⟨rfl, xr_mk _ ⟨r1, r2, r3, r4, r5, r6⟩⟩
    · exact br_f (xr_pos h6 (by decide)) (br_f (xr_nle (by decide) h6) ⟨rfl, xr_mk _ ⟨r1, r2, r3, r4, r5, r6⟩⟩)
  · refine xw_isAction ha ?_
    refine br_f (by decide) ?_
    by_cases z : l.length < 8
    · have hlt : nI l.length < 8 := nI_lt (b := 8) z (by decide)
      have hin : vp_in (nI l.length) 8 := vp_in_nI z (by decide)
      refine br_t hlt ⟨hin, ?_⟩
      rw [nI_clamp (by omega : l.length < 2 ^ 31)]
      refine nm_e (nm_r (nI_1 _) ?_)
      refine br_f (nI_pos (by omega)) (br_t (nI_le (b := 5) (by omega) (by decide)) (br_t hlt ⟨hin, ?_⟩))
      rw [nI_clamp (by omega : l.length < 2 ^ 31)]
      refine nm_e (nm_r (nI_1 _) ?_)
      have e : (l ++ [a]).length = l.length + 1 := by simp
      rw [← e]
      refine ⟨rfl, xr_mk _ ⟨by omega, yw_CH_app.mpr ⟨yw_CH_cong (fun i _ h2 => pk_un (by omega)) r2, ?_⟩, ?_, r4, r5, r6⟩⟩
      · rw [Nat.zero_add]
        exact pk_us
      · intro b hb
        rcases List.mem_append.mp hb with hb | hb
        · exact r3 b hb
        · rw [List.mem_singleton] at hb
          omega
    · have hlt : ¬ nI l.length < 8 := nI_nlt (b := 8) (by omega) (by omega)
      refine br_f hlt ?_
      exact br_f (nI_pos (by omega)) (br_t (nI_le (b := 5) (by omega) (by decide)) (br_f hlt ⟨rfl, xr_mk _ ⟨r1, r2, r3, r4, r5, r6⟩⟩))
theorem i_vc_rub {k : Nat} {u : SX} {v : SY} (I : i_Rel k u v) (hk : k + 4 ≤ 2048) : wpX_rub (fun r u' => wpY_rub (fun r' v' => r' = r ∧ i_Rel (k + 4) u' v') v) u := by
  obtain ⟨l, ms, ac, ae, mt, mc, mf, sd, li, wc, fp, sa, pa, kn, md, op, st, ps, bs, th, sp, ch, ga, pl, be, rfl, rfl, h⟩ := I
  obtain ⟨r1, r2, r3, r4, r5, r6⟩ := h
  rcases List.eq_nil_or_concat l with e | ⟨l', a, e⟩
  · subst e
    refine br_f (by decide) ?_
    exact br_t rfl ⟨rfl, xr_mk _ (l := []) ⟨r1, r2, r3, r4, r5, r6⟩⟩
  · rw [List.concat_eq_append] at e
    subst e
    have el : (l' ++ [a]).length = l'.length + 1 := by simp
    rw [el] at r1 ⊢
    have hin : vp_in (nI l'.length) 8 := vp_in_nI (by omega) (by decide)
    refine br_t (nI_lt (a := 0) (by omega) (by omega)) (nm_r (nI_pred _) ⟨hin, ?_⟩)
    refine br_f (nI_ne0 (by omega) (by omega)) (nm_r (nI_pred _) ⟨hin, ?_⟩)
    exact ⟨rfl, xr_mk _ ⟨by omega, (yw_CH_app.mp r2).1, fun b hb => r3 b (List.mem_append.mpr (Or.inl hb)), r4, r5, r6⟩⟩
theorem i_vc_methods {k : Nat} {u : SX} {v : SY} (I : i_Rel k u v) (hk : k + 4 ≤ 2048) : wpX_methods (fun r => wpY_methods (fun r' => r' = r ∧ i_Rel (k + 4) u v) v) u := by
  have I' := i_up I
  obtain ⟨l, ms, ac, ae, mt, mc, mf, sd, li, wc, fp, sa, pa, kn, md, op, st, ps, bs, th, sp, ch, ga, pl, be, rfl, rfl, h⟩ := I
  exact ⟨9, yw_methods4 _ _ _ _ _ _ _ _ _ _ _ _ _ _ _ _ _ _ 8 0 9 0 (by omega) (by omega) ⟨xw_MS_dz h.2.2.2.2.1.1, I'⟩⟩
theorem i_vc_action {k : Nat} {u : SX} {v : SY} (I : i_Rel k u v) (hk : k + 4 ≤ 2048) (v1 : Int32) (v2 : Int32) (v3 : Int32) : wpX_action (fun r u' => wpY_action (fun r' v' => r' = r ∧ i_Rel (k + 4) u' v') v v1 v2 v3) u v1 v2 v3 := by
  have I' := i_up I
  obtain ⟨l, ms, ac, ae, mt, mc, mf, sd, li, wc, fp, sa, pa, kn, md, op, st, ps, bs, th, sp, ch, ga, pl, be, rfl, rfl, h⟩ := I
  obtain ⟨r1, r2, r3, r4, r5, r6⟩ := h
  unfold wpX_action
  dsimp only
  rcases xr_dom v1 6 (by decide) with hb | ⟨a, ha, rfl⟩
  · refine xw_isAction0 hb ?_
    refine br_t rfl ?_
    rcases hb with h0 | h6
    · exact br_t h0 ⟨rfl, I'⟩
    · exact br_f (xr_pos h6 (by decide)) (br_t (xr_lt_le (by decide) h6) ⟨rfl, I'⟩)
  have y1 : ¬ nI a < 0 := nI_pos (by omega)
  have y2 : ¬ (5 : Int32) < nI a := nI_nlt (a := 5) (by omega) (by decide)
  refine xw_isAction ha ?_
  refine br_f (by decide) ?_
  rcases xr_dom v2 1024 (by decide) with hb | ⟨c, hc, rfl⟩
  · refine xw_pair0 hb ?_
    refine br_t rfl ?_
    refine br_f y1 (br_f y2 ?_)
    refine yw_pair0 hb ?_
    exact br_t rfl ⟨rfl, I'⟩
  refine xw_pair hc ?_
  refine br_f (by decide) ?_
  rcases xr_dom v3 1024 (by decide) with hb | ⟨d, hd, rfl⟩
  · refine xw_pair0 hb ?_
    refine br_t rfl ?_
    refine br_f y1 (br_f y2 ?_)
    refine yw_pair hc ?_
    refine br_f (by decide) ?_
    refine yw_pair0 hb ?_
    exact br_t rfl ⟨rfl, I'⟩
  refine xw_pair hd ?_
  have hin : vp_in (nI a) 6 := vp_in_nI ha (by decide)
  have hcl : (nI a).toNatClampNeg = a := nI_clamp (by omega)
  refine br_f (by decide) ⟨hin, ?_⟩
  rw [hcl]
  refine nm_e ⟨hin, nm_e ?_⟩
  refine xw_fillA _ _ _ _ _ _ _ _ _ _ _ _ _ (th := th) (sp := sp) ha ?_
  intro wc' fp' hA hfr
  refine xw_fillTask _ _ _ _ _ _ _ _ _ _ _ _ _ r4 r5 ?_ ?_
  · intro v hv
    by_cases z : v = 1 + a
    · subst z
      exact hA
    · refine xw_tv_congr (P := yp_P ac ae th mt mc sp) ?_ (xw_ws6 hv (fun b hb => ⟨pk_un (by omega), pk_un (by omega)⟩))
      intro s hs e he
      have f := hfr ((v * 32 + s) * 32 + e) (by omega)
      dsimp only
      rw [f.1, f.2]
      exact r6 v (by omega) (by omega) s hs e he
  · intro wc2 fp2 hA2
    refine br_f y1 (br_f y2 ?_)
    refine yw_pair hc ?_
    refine br_f (by decide) ?_
    refine yw_pair hd ?_
    refine br_f (by decide) ⟨hin, ?_⟩
    rw [hcl]
    exact nm_e ⟨hin, nm_e ⟨rfl, xr_mk _ ⟨r1, r2, r3, r4, r5, hA2⟩⟩⟩
theorem i_vc_drop {k : Nat} {u : SX} {v : SY} (I : i_Rel k u v) (hk : k + 4 ≤ 2048) (v1 : Int32) : wpX_drop (fun r u' => wpY_drop (fun r' v' => r' = r ∧ i_Rel (k + 4) u' v') v v1) u v1 := by
  have I' := i_up I
  obtain ⟨l, ms, ac, ae, mt, mc, mf, sd, li, wc, fp, sa, pa, kn, md, op, st, ps, bs, th, sp, ch, ga, pl, be, rfl, rfl, h⟩ := I
  obtain ⟨r1, r2, r3, r4, r5, r6⟩ := h
  unfold wpX_drop
  dsimp only
  rcases xr_dom v1 8 (by decide) with hb | ⟨m, hm, rfl⟩
  · refine xw_has0 _ _ _ _ _ _ _ _ _ _ _ _ _ hb ?_
    refine br_t rfl ?_
    rcases hb with h0 | h6
    · exact br_t h0 ⟨rfl, I'⟩
    · exact br_f (xr_pos h6 (by decide)) (br_t (xr_lt_le (by decide) h6) ⟨rfl, I'⟩)
  have y1 : ¬ nI m < 0 := nI_pos (by omega)
  have y2 : ¬ (7 : Int32) < nI m := nI_nlt (a := 7) (by omega) (by decide)
  have hin : vp_in (nI m) 8 := vp_in_nI hm (by decide)
  have hcl : (nI m).toNatClampNeg = m := nI_clamp (by omega)
  refine xw_has _ _ _ _ _ _ _ _ _ _ _ _ _ r5.1 hm ?_
  by_cases z : th m = 0
  · rw [if_pos z]
    refine br_t rfl ?_
    refine br_f y1 (br_f y2 ⟨hin, ?_⟩)
    rw [hcl]
    exact br_t z ⟨rfl, I'⟩
  rw [if_neg z]
  refine br_f (by decide) (nm_e ?_)
  have hok' : yp_ok (upd th m 0) mt sp := yp_ok_upd0 r4
  have hM' : xw_M (ms &&& (((1 : Int32) <<< (nI m &&& 31)) ^^^ (-1))) mf sd (upd th m 0) sp := by
    refine ⟨xw_MS_clr hm r5.1, fun i hi hn => ?_⟩
    by_cases e : i = m
    · subst e
      rw [pk_us] at hn
      exact absurd rfl hn
    · rw [pk_un e] at hn
      exact r5.2 i hi hn
  refine xw_fillTask _ _ _ _ _ _ _ _ _ _ _ _ _ hok' hM' (fun v hv => xw_tv_congr (r6 v (by omega) (by omega)) (xw_ws6 hv (fun b hb => ⟨rfl, rfl⟩))) ?_
  intro wc2 fp2 hA2
  refine br_f y1 (br_f y2 ⟨hin, ?_⟩)
  rw [hcl]
  refine br_f z ⟨hin, ?_⟩
  rw [yw_n0]
  exact nm_e ⟨rfl, xr_mk _ ⟨r1, r2, r3, hok', hM', hA2⟩⟩
/-- a free number -/
theorem xr_free (th : Nat → Int32) : ∀ k, (∃ m, m < k ∧ th m = 0 ∧ ∀ j, j < m → ¬ th j = 0) ∨ ∀ m, m < k → ¬ th m = 0
  | 0 => Or.inr (fun m h => by omega)
  | k + 1 => by
    rcases xr_free th k with ⟨m, h1, h2, h3⟩ | h
    · exact Or.inl ⟨m, by omega, h2, h3⟩
    · by_cases z : th k = 0
      · exact Or.inl ⟨k, by omega, z, h⟩
      · refine Or.inr (fun m hm => ?_)
        by_cases e : m = k
        · subst e
          exact z
        · exact h m (by omega)
theorem xw_meth61 {post : Int32 → SX → Prop} (ms ll : Int32) (ac ae mt mc mf sd li wc sa pa : Nat → Int32) (fp : Nat → Int64) {x1 x2 x4 x5 : Int32} {th : Nat → Int32} {m : Nat} (hms : xw_MS ms th) (hm : m < 8) (hz : th m = 0)
    (H : wpX_fillTaskSteps (fun u => match u with | (ms, ll, ac, ae, mt, mc, mf, sd, li, wc, fp, sa, pa) => post (nI m) (ms, ll, ac, ae, mt, mc, mf, sd, li, wc, fp, sa, pa)) (ms ||| ((1 : Int32) <<< (nI m &&& 31)), ll, ac, ae, upd mt m x1, upd mc m x2, upd mf m x4, upd sd m x5, li, wc, fp, sa, pa)) :
    ∀ (k i F : Nat), i + k = m → k < F → (∀ j, i ≤ j → j < m → ¬ th j = 0) → wX_method_61 post x1 x2 x4 x5 ms ll ac ae mt mc mf sd li wc fp sa pa F (nI i) := by
  intro k
  induction k with
  | zero =>
    intro i F hi hF hj
    obtain ⟨F, rfl⟩ : ∃ n, F = n + 1 := ⟨F - 1, by omega⟩
    obtain rfl : i = m := by omega
    have hin : vp_in (nI i) 8 := vp_in_nI hm (by decide)
    have hcl : (nI i).toNatClampNeg = i := nI_clamp (by omega)
    refine br_f (nI_ge (b := 8) hm (by decide)) ?_
    refine xw_has _ _ _ _ _ _ _ _ _ _ _ _ _ hms hm ?_
    rw [if_pos hz]
    refine br_t rfl (nm_e ⟨hin, ?_⟩)
    rw [hcl]
    exact nm_e ⟨hin, nm_e ⟨hin, nm_e ⟨hin, nm_e H⟩⟩⟩
  | succ k ih =>
    intro i F hi hF hj
    obtain ⟨F, rfl⟩ : ∃ n, F = n + 1 := ⟨F - 1, by omega⟩
    refine br_f (nI_ge (b := 8) (by omega) (by decide)) ?_
    refine xw_has _ _ _ _ _ _ _ _ _ _ _ _ _ hms (by omega) ?_
    rw [if_neg (hj i (Nat.le_refl i) (by omega))]
    exact br_f (by decide) (nm_r (nI_1 _) (ih (i + 1) F (by omega) (by omega) (fun j j1 j2 => hj j (by omega) j2)))
theorem xw_meth61f {post : Int32 → SX → Prop} (ms ll : Int32) (ac ae mt mc mf sd li wc sa pa : Nat → Int32) (fp : Nat → Int64) {x1 x2 x4 x5 : Int32} {th : Nat → Int32} (hms : xw_MS ms th) (hj : ∀ j, j < 8 → ¬ th j = 0) (H : post (-2) (ms, ll, ac, ae, mt, mc, mf, sd, li, wc, fp, sa, pa)) :
    ∀ (k i F : Nat), i + k = 8 → k < F → wX_method_61 post x1 x2 x4 x5 ms ll ac ae mt mc mf sd li wc fp sa pa F (nI i) := by
  intro k
  induction k with
  | zero =>
    intro i F hi hF
    obtain ⟨F, rfl⟩ : ∃ n, F = n + 1 := ⟨F - 1, by omega⟩
    exact br_t (nI_le (a := 8) (by omega) (by omega)) H
  | succ k ih =>
    intro i F hi hF
    obtain ⟨F, rfl⟩ : ∃ n, F = n + 1 := ⟨F - 1, by omega⟩
    refine br_f (nI_ge (b := 8) (by omega) (by decide)) ?_
    refine xw_has _ _ _ _ _ _ _ _ _ _ _ _ _ hms (by omega) ?_
    rw [if_neg (hj i (by omega))]
    exact br_f (by decide) (nm_r (nI_1 _) (ih (i + 1) F (by omega) (by omega)))
theorem yw_meth55 {post : Int32 → SY → Prop} (wr kn md op st ps bs : Int32) (co ef th ta de sp li ch ga pl be : Nat → Int32) {x1 x2 x3 : Int32} {m : Nat} (hm : m < 8) (hz : th m = 0)
    (H : post (nI m) (wr, kn, md, op, st, ps, bs, co, ef, upd th m 1, upd ta m x1, upd de m x2, upd sp m x3, li, ch, ga, pl, be)) :
    ∀ (k i F : Nat), i + k = m → k < F → (∀ j, i ≤ j → j < m → ¬ th j = 0) → wY_method_55 post x1 x2 x3 wr kn md op st ps bs co ef th ta de sp li ch ga pl be F (nI i) := by
  intro k
  induction k with
  | zero =>
    intro i F hi hF hj
    obtain ⟨F, rfl⟩ : ∃ n, F = n + 1 := ⟨F - 1, by omega⟩
    obtain rfl : i = m := by omega
    have hin : vp_in (nI i) 8 := vp_in_nI hm (by decide)
    have hcl : (nI i).toNatClampNeg = i := nI_clamp (by omega)
    refine br_f (nI_ge (b := 8) hm (by decide)) ⟨hin, ?_⟩
    rw [hcl, yw_n1]
    exact br_t hz ⟨hin, nm_e ⟨hin, nm_e ⟨hin, nm_e ⟨hin, nm_e H⟩⟩⟩⟩
  | succ k ih =>
    intro i F hi hF hj
    obtain ⟨F, rfl⟩ : ∃ n, F = n + 1 := ⟨F - 1, by omega⟩
    refine br_f (nI_ge (b := 8) (by omega) (by decide)) ⟨vp_in_nI (by omega) (by decide), ?_⟩
    refine br_f ?_ (nm_r (nI_1 _) (ih (i + 1) F (by omega) (by omega) (fun j j1 j2 => hj j (by omega) j2)))
    rw [nI_clamp (by omega : i < 2 ^ 31)]
    exact hj i (Nat.le_refl i) (by omega)
theorem yw_meth55f {post : Int32 → SY → Prop} (wr kn md op st ps bs : Int32) (co ef th ta de sp li ch ga pl be : Nat → Int32) {x1 x2 x3 : Int32} (hj : ∀ j, j < 8 → ¬ th j = 0) (H : post (-2) (wr, kn, md, op, st, ps, bs, co, ef, th, ta, de, sp, li, ch, ga, pl, be)) :
    ∀ (k i F : Nat), i + k = 8 → k < F → wY_method_55 post x1 x2 x3 wr kn md op st ps bs co ef th ta de sp li ch ga pl be F (nI i) := by
  intro k
  induction k with
  | zero =>
    intro i F hi hF
    obtain ⟨F, rfl⟩ : ∃ n, F = n + 1 := ⟨F - 1, by omega⟩
    exact br_t (nI_le (a := 8) (by omega) (by omega)) H
  | succ k ih =>
    intro i F hi hF
    obtain ⟨F, rfl⟩ : ∃ n, F = n + 1 := ⟨F - 1, by omega⟩
    refine br_f (nI_ge (b := 8) (by omega) (by decide)) ⟨vp_in_nI (by omega) (by decide), ?_⟩
    refine br_f ?_ (nm_r (nI_1 _) (ih (i + 1) F (by omega) (by omega)))
    rw [nI_clamp (by omega : i < 2 ^ 31)]
    exact hj i (by omega)
theorem i_vc_method {k : Nat} {u : SX} {v : SY} (I : i_Rel k u v) (hk : k + 4 ≤ 2048) (v1 : Int32) (v2 : Int32) (v3 : Int32) : wpX_method (fun r u' => wpY_method (fun r' v' => r' = r ∧ i_Rel (k + 4) u' v') v v1 v2 v3) u v1 v2 v3 := by
  have I' := i_up I
  obtain ⟨l, ms, ac, ae, mt, mc, mf, sd, li, wc, fp, sa, pa, kn, md, op, st, ps, bs, th, sp, ch, ga, pl, be, rfl, rfl, h⟩ := I
  obtain ⟨r1, r2, r3, r4, r5, r6⟩ := h
  unfold wpX_method
  dsimp only
  have Y1 : ∀ r : Int32, (v1 < 0 ∨ nI 4 ≤ v1) → r = -1 → wpY_method (fun r' v' => r' = r ∧ i_Rel (k + 4) (ms, nI l.length, ac, ae, mt, mc, mf, sd, li, wc, fp, sa, pa) v') (nI l.length, kn, md, op, st, ps, bs, ac, ae, th, mt, mc, sp, li, ch, ga, pl, be) v1 v2 v3 := by
    intro r hb hr
    unfold wpY_method
    dsimp only
    refine yw_task0 hb ?_
    exact br_t rfl ⟨hr.symm, I'⟩
  rcases xr_dom v1 4 (by decide) with hb | ⟨t, ht, rfl⟩
  · refine xw_isTask0 hb ?_
    exact br_t rfl (Y1 _ hb rfl)
  refine xw_isTask ht ?_
  refine br_f (by decide) ?_
  rcases xr_dom v2 1024 (by decide) with hb | ⟨c, hc, rfl⟩
  · refine xw_pair0 hb ?_
    refine br_t rfl ?_
    unfold wpY_method
    dsimp only
    refine yw_task ht ?_
    refine br_f (by decide) ?_
    refine yw_pair0 hb ?_
    exact br_t rfl ⟨rfl, I'⟩
  refine xw_pair hc ?_
  refine br_f (by decide) ?_
  have Y2 : ∀ (post : Int32 → SY → Prop), (((v3 < 0 → post (-1) (nI l.length, kn, md, op, st, ps, bs, ac, ae, th, mt, mc, sp, li, ch, ga, pl, be)) ∧ (¬ v3 < 0 → ((((255 : Int32) < v3 → post (-1) (nI l.length, kn, md, op, st, ps, bs, ac, ae, th, mt, mc, sp, li, ch, ga, pl, be)) ∧ (¬ (255 : Int32) < v3 → wpY_step (fun r_43 => (((r_43 = 0 → post (-1) (nI l.length, kn, md, op, st, ps, bs, ac, ae, th, mt, mc, sp, li, ch, ga, pl, be)) ∧ (¬ r_43 = 0 → wpY_step (fun r_63 => (((r_63 = 0 → post (-1) (nI l.length, kn, md, op, st, ps, bs, ac, ae, th, mt, mc, sp, li, ch, ga, pl, be)) ∧ (¬ r_63 = 0 → ∃ n55 : Nat, wY_method_55 post (nI t) (nI c) v3 (nI l.length) kn md op st ps bs ac ae th mt mc sp li ch ga pl be n55 0)))) (nI l.length, kn, md, op, st, ps, bs, ac, ae, th, mt, mc, sp, li, ch, ga, pl, be) (nI t) (v3 >>> ((4 : Int32) &&& 31)))))) (nI l.length, kn, md, op, st, ps, bs, ac, ae, th, mt, mc, sp, li, ch, ga, pl, be) (nI t) (v3 &&& 15))))))) → wpY_method post (nI l.length, kn, md, op, st, ps, bs, ac, ae, th, mt, mc, sp, li, ch, ga, pl, be) (nI t) (nI c) v3 := by
    intro post hh
    unfold wpY_method
    dsimp only
    refine yw_task ht ?_
    refine br_f (by decide) ?_
    refine yw_pair hc ?_
    exact br_f (by decide) hh
  rcases xr_dom v3 256 (by decide) with hb | ⟨f, hf, rfl⟩
  · rcases hb with h0 | h6
    · exact br_t h0 (Y2 _ (br_t h0 ⟨rfl, I'⟩))
    · exact br_f (xr_pos h6 (by decide)) (br_f (xr_nlt h6) (Y2 _ (br_f (xr_pos h6 (by decide)) (br_t (xr_lt_le (by decide) h6) ⟨rfl, I'⟩))))
  have e15 : nI f &&& 15 = nI (f % 16) := pk_andN (by omega) 4 (by decide)
  have e4 : nI f >>> ((4 : Int32) &&& 31) = nI (f / 16) := pk_shrN (by omega) _ 4 (by decide)
  have y1 : ¬ nI f < 0 := nI_pos (by omega)
  have y2 : ¬ (255 : Int32) < nI f := nI_nlt (a := 255) (by omega) (by decide)
  refine br_f y1 (br_t (nI_lt (b := 256) hf (by decide)) (nm_r e15 (nm_r e4 ?_)))
  refine xw_isStepOf ht (by omega) (fun s1 => ?_) (fun s1 => ?_)
  · refine br_f (by decide) ?_
    refine xw_isStepOf ht (by omega) (fun s2 => ?_) (fun s2 => ?_)
    · refine br_f (by decide) ?_
      rcases xr_free th 8 with ⟨m, hm, hz, hbef⟩ | hfull
      · have hok' : yp_ok (upd th m 1) (upd mt m (nI t)) (upd sp m (nI f)) := by
          intro i hi
          by_cases e : i = m
          · subst e
            rw [pk_us, pk_us, pk_us]
            exact ⟨Or.inr rfl, fun _ => ⟨t, f, ht, rfl, hf, rfl, s1, s2⟩⟩
          · rw [pk_un e, pk_un e, pk_un e]
            exact r4 i hi
        have hM' : xw_M (ms ||| ((1 : Int32) <<< (nI m &&& 31))) (upd mf m (nI (f % 16))) (upd sd m (nI (f / 16))) (upd th m 1) (upd sp m (nI f)) := by
          refine ⟨xw_MS_set hm r5.1, fun i hi hn => ?_⟩
          by_cases e : i = m
          · subst e
            rw [pk_us, pk_us, pk_us]
            exact ⟨e15.symm, e4.symm⟩
          · rw [pk_un e] at hn
            rw [pk_un e, pk_un e, pk_un e]
            exact r5.2 i hi hn
        refine ⟨m + 1, xw_meth61 _ _ _ _ _ _ _ _ _ _ _ _ _ r5.1 hm hz ?_ m 0 (m + 1) (by omega) (by omega) (fun j _ h2 => hbef j h2)⟩
        refine xw_fillTask _ _ _ _ _ _ _ _ _ _ _ _ _ hok' hM' (fun v hv => xw_tv_congr (r6 v (by omega) (by omega)) (xw_ws6 hv (fun b hb => ⟨rfl, rfl⟩))) ?_
        intro wc2 fp2 hA2
        refine Y2 _ (br_f y1 (br_f y2 ?_))
        rw [e15, e4]
        refine yw_step ht (by omega) (fun _ => br_f (by decide) ?_) (fun n1 => absurd s1 n1)
        refine yw_step ht (by omega) (fun _ => br_f (by decide) ?_) (fun n1 => absurd s2 n1)
        exact ⟨m + 1, yw_meth55 _ _ _ _ _ _ _ _ _ _ _ _ _ _ _ _ _ _ hm hz ⟨rfl, xr_mk _ ⟨r1, r2, r3, hok', hM', hA2⟩⟩ m 0 (m + 1) (by omega) (by omega) (fun j _ h2 => hbef j h2)⟩
      · refine ⟨9, xw_meth61f _ _ _ _ _ _ _ _ _ _ _ _ _ r5.1 hfull ?_ 8 0 9 (by omega) (by omega)⟩
        refine Y2 _ (br_f y1 (br_f y2 ?_))
        rw [e15, e4]
        refine yw_step ht (by omega) (fun _ => br_f (by decide) ?_) (fun n1 => absurd s1 n1)
        refine yw_step ht (by omega) (fun _ => br_f (by decide) ?_) (fun n1 => absurd s2 n1)
        exact ⟨9, yw_meth55f _ _ _ _ _ _ _ _ _ _ _ _ _ _ _ _ _ _ hfull ⟨rfl, I'⟩ 8 0 9 (by omega) (by omega)⟩
    · refine br_t rfl ?_
      refine Y2 _ (br_f y1 (br_f y2 ?_))
      rw [e15, e4]
      refine yw_step ht (by omega) (fun _ => br_f (by decide) ?_) (fun n1 => absurd s1 n1)
      refine yw_step ht (by omega) (fun n1 => absurd n1 s2) (fun _ => br_t rfl ⟨rfl, I'⟩)
  · refine br_t rfl ?_
    refine Y2 _ (br_f y1 (br_f y2 ?_))
    rw [e15, e4]
    exact yw_step ht (by omega) (fun n1 => absurd n1 s1) (fun _ => br_t rfl ⟨rfl, I'⟩)
end
section
theorem xr_cnb {ac ae th mt mc sp : Nat → Int32} (hok : yp_ok th mt sp) {v s : Nat} (e : Nat) (hv : v ≤ 11) (hs : s < 32) : mp_cn (yp_P ac ae th mt mc sp) v s e < 2 ^ 31 :=
  Nat.lt_of_le_of_lt (xw_cnb hok e hv hs) (by decide)
theorem xr_pg {ac ae th mt mc sp : Nat → Int32} (hok : yp_ok th mt sp) {t s : Nat} (ht : t < 4) (hs : s < 32) {x : Nat × List Nat} (hx : x ∈ mp_ws (yp_P ac ae th mt mc sp) (8 + t) s) : mp_pg x.2 := by
  obtain ⟨g1, g2, g3, g4⟩ := mp_ws_good (yp_mok hok) (by omega) (by omega) hs hx
  have := xw_an16 t ht
  exact ⟨by omega, fun a ha => by have := g3 a ha; omega⟩
theorem i_vc_ways {k : Nat} {u : SX} {v : SY} (I : i_Rel k u v) (hk : k + 4 ≤ 2048) (v1 : Int32) (v2 : Int32) (v3 : Int32) : wpX_ways (fun r => wpY_ways (fun r' v' => r' = r ∧ i_Rel (k + 4) u v') v v1 v2 v3) u v1 v2 v3 := by
  have I' := i_up I
  obtain ⟨l, ms, ac, ae, mt, mc, mf, sd, li, wc, fp, sa, pa, kn, md, op, st, ps, bs, th, sp, ch, ga, pl, be, rfl, rfl, h⟩ := I
  have h' := h
  obtain ⟨r1, r2, r3, r4, r5, r6⟩ := h'
  unfold wpX_ways wpY_ways
  dsimp only
  rcases xr_dom v1 4 (by decide) with hb | ⟨t, ht, rfl⟩
  · refine xw_isTask0 hb ?_
    refine br_t rfl ?_
    refine yw_task0 hb ?_
    exact br_t rfl ⟨rfl, I'⟩
  refine xw_isTask ht ?_
  refine br_f (by decide) ?_
  rcases xr_dom v2 32 (by decide) with hb | ⟨s, hs, rfl⟩
  · refine xw_isState0 hb ?_
    refine br_t rfl ?_
    refine yw_task ht ?_
    refine br_f (by decide) ?_
    refine yw_isState0 hb ?_
    exact br_t rfl ⟨rfl, I'⟩
  refine xw_isState hs ?_
  refine br_f (by decide) ?_
  rcases xr_dom v3 32 (by decide) with hb | ⟨d, hd, rfl⟩
  · refine xw_isState0 hb ?_
    refine br_t rfl ?_
    refine yw_task ht ?_
    refine br_f (by decide) ?_
    refine yw_isState hs ?_
    refine br_f (by decide) ?_
    refine yw_isState0 hb ?_
    exact br_t rfl ⟨rfl, I'⟩
  refine xw_isState hd ?_
  refine br_f (by decide) ?_
  have e8 : (8 : Int32) + nI t = nI (8 + t) := nI_add 8 t
  rw [e8]
  refine xw_rowOf ?_
  rw [nI_add, nI_clamp (by omega : ((8 + t) * 32 + s) * 32 + d < 2 ^ 31), (r6 (8 + t) (by omega) (by omega) s hs d hd).1]
  refine ⟨vp_in_nI (by omega) (by decide), ?_⟩
  refine yw_task ht ?_
  refine br_f (by decide) ?_
  refine yw_isState hs ?_
  refine br_f (by decide) ?_
  refine yw_isState hd ?_
  refine br_f (by decide) ?_
  refine yw_countE _ _ _ _ _ _ _ _ _ _ _ _ _ _ _ _ _ _ ht hs hd r4 ?_
  intro kn md op st ps ch ga pl
  exact ⟨rfl, xr_mk _ h⟩
theorem i_vc_allWays {k : Nat} {u : SX} {v : SY} (I : i_Rel k u v) (hk : k + 4 ≤ 2048) (v1 : Int32) (v2 : Int32) : wpX_allWays (fun r => wpY_allWays (fun r' v' => r' = r ∧ i_Rel (k + 4) u v') v v1 v2) u v1 v2 := by
  have I' := i_up I
  obtain ⟨l, ms, ac, ae, mt, mc, mf, sd, li, wc, fp, sa, pa, kn, md, op, st, ps, bs, th, sp, ch, ga, pl, be, rfl, rfl, h⟩ := I
  have h' := h
  obtain ⟨r1, r2, r3, r4, r5, r6⟩ := h'
  unfold wpX_allWays wpY_allWays
  dsimp only
  rcases xr_dom v1 4 (by decide) with hb | ⟨t, ht, rfl⟩
  · refine xw_isTask0 hb ?_
    refine br_t rfl ?_
    refine yw_task0 hb ?_
    exact br_t rfl ⟨rfl, I'⟩
  refine xw_isTask ht ?_
  refine br_f (by decide) ?_
  rcases xr_dom v2 32 (by decide) with hb | ⟨s, hs, rfl⟩
  · refine xw_isState0 hb ?_
    refine br_t rfl ?_
    refine yw_task ht ?_
    refine br_f (by decide) ?_
    refine yw_isState0 hb ?_
    exact br_t rfl ⟨rfl, I'⟩
  refine xw_isState hs ?_
  refine br_f (by decide) ?_
  have e8 : (8 : Int32) + nI t = nI (8 + t) := nI_add 8 t
  rw [e8]
  refine xw_rowOf ?_
  have hlen : (mp_ws (yp_P ac ae th mt mc sp) (8 + t) s).length = mp_su (mp_cn (yp_P ac ae th mt mc sp) (8 + t) s) 32 := mp_len_ct _ (fun x hx => (mp_ws_good (yp_mok r4) (by omega) (by omega) hs hx).1)
  refine ⟨33, xw_all31 _ _ _ _ _ _ _ _ _ _ _ _ _ (by omega) hs (r6 (8 + t) (by omega) (by omega)) ?_ 32 0 33 (by omega) (by omega)⟩
  refine yw_task ht ?_
  refine br_f (by decide) ?_
  refine yw_isState hs ?_
  refine br_f (by decide) ?_
  refine yw_countA _ _ _ _ _ _ _ _ _ _ _ _ _ _ _ _ _ _ ht hs r4 ?_
  intro kn md op st ps ch ga pl
  exact ⟨congrArg nI hlen, xr_mk _ h⟩
theorem i_vc_nextEnd {k : Nat} {u : SX} {v : SY} (I : i_Rel k u v) (hk : k + 4 ≤ 2048) (v1 : Int32) (v2 : Int32) (v3 : Int32) : wpX_nextEnd (fun r => wpY_nextEnd (fun r' v' => r' = r ∧ i_Rel (k + 4) u v') v v1 v2 v3) u v1 v2 v3 := by
  have I' := i_up I
  obtain ⟨l, ms, ac, ae, mt, mc, mf, sd, li, wc, fp, sa, pa, kn, md, op, st, ps, bs, th, sp, ch, ga, pl, be, rfl, rfl, h⟩ := I
  have h' := h
  obtain ⟨r1, r2, r3, r4, r5, r6⟩ := h'
  unfold wpX_nextEnd wpY_nextEnd
  dsimp only
  rcases xr_dom v1 4 (by decide) with hb | ⟨t, ht, rfl⟩
  · refine xw_isTask0 hb ?_
    refine br_t rfl ?_
    refine yw_task0 hb ?_
    exact br_t rfl ⟨rfl, I'⟩
  refine xw_isTask ht ?_
  refine br_f (by decide) ?_
  rcases xr_dom v2 32 (by decide) with hb | ⟨s, hs, rfl⟩
  · refine xw_isState0 hb ?_
    refine br_t rfl ?_
    refine yw_task ht ?_
    refine br_f (by decide) ?_
    refine yw_isState0 hb ?_
    exact br_t rfl ⟨rfl, I'⟩
  refine xw_isState hs ?_
  refine br_f (by decide) ?_
  rcases xr_dom v3 32 (by decide) with hb | ⟨d, hd, rfl⟩
  · refine xw_isState0 hb ?_
    refine br_t rfl ?_
    refine yw_task ht ?_
    refine br_f (by decide) ?_
    refine yw_isState hs ?_
    refine br_f (by decide) ?_
    refine yw_isState0 hb ?_
    exact br_t rfl ⟨rfl, I'⟩
  refine xw_isState hd ?_
  refine br_f (by decide) ?_
  have e8 : (8 : Int32) + nI t = nI (8 + t) := nI_add 8 t
  rw [e8]
  refine xw_rowOf ?_
  obtain ⟨k0, k1⟩ := mp_lo_0 d (mp_ws (yp_P ac ae th mt mc sp) (8 + t) s)
  refine ⟨33 - d, xw_next36 (d := d) _ _ _ _ _ _ _ _ _ _ _ _ _ (by omega) hs (r6 (8 + t) (by omega) (by omega)) (fun e => xr_cnb r4 e (by omega) hs) (fun hz => ?_) (fun i i1 i2 i3 i4 => ?_) (32 - d) d (33 - d) (by omega) (by omega) (Nat.le_refl d) (fun j j1 j2 => by omega)⟩
  · have e : mp_lo d none (mp_ws (yp_P ac ae th mt mc sp) (8 + t) s) = none := by
      cases e : mp_lo d none (mp_ws (yp_P ac ae th mt mc sp) (8 + t) s) with
      | none => rfl
      | some x =>
        obtain ⟨g1, ⟨w, g2, g3⟩, g4⟩ := k1 x e
        have hw := (mp_ws_good (yp_mok r4) (by omega) (by omega) hs g2).1
        have := hz x g1 (by omega)
        have hp : 0 < mp_ct x (mp_ws (yp_P ac ae th mt mc sp) (8 + t) s) := mp_ct_pos.mpr ⟨w.2, by rw [← g3]; exact g2⟩
        unfold mp_cn at this
        omega
    refine yw_task ht ?_
    refine br_f (by decide) ?_
    refine yw_isState hs ?_
    refine br_f (by decide) ?_
    refine yw_isState hd ?_
    refine br_f (by decide) ⟨_, yw_nextEnd34 _ _ _ _ _ _ _ _ _ _ ht hs hd r4 _ _ none _ _ _ _ _ _ _ _ (Nat.lt_succ_self _) (fun l hl => nomatch hl) (yw_OM0 r4 ht s ch) ?_⟩
    intro kn md op st ps ch ga pl
    rw [e]
    exact ⟨rfl, xr_mk _ h⟩
  · have e : mp_lo d none (mp_ws (yp_P ac ae th mt mc sp) (8 + t) s) = some i := by
      obtain ⟨q, hq⟩ := mp_ct_pos.mp i3
      cases e : mp_lo d none (mp_ws (yp_P ac ae th mt mc sp) (8 + t) s) with
      | none =>
        have : i < d := k0 e (i, q) hq
        omega
      | some x =>
        obtain ⟨g1, ⟨w, g2, g3⟩, g4⟩ := k1 x e
        have h1 : x ≤ i := g4 (i, q) hq i1
        have hp : 0 < mp_ct x (mp_ws (yp_P ac ae th mt mc sp) (8 + t) s) := mp_ct_pos.mpr ⟨w.2, by rw [← g3]; exact g2⟩
        have h2 : ¬ x < i := by
          intro hlt
          have := i4 x g1 hlt
          unfold mp_cn at this
          omega
        have : x = i := by omega
        rw [this]
    refine yw_task ht ?_
    refine br_f (by decide) ?_
    refine yw_isState hs ?_
    refine br_f (by decide) ?_
    refine yw_isState hd ?_
    refine br_f (by decide) ⟨_, yw_nextEnd34 _ _ _ _ _ _ _ _ _ _ ht hs hd r4 _ _ none _ _ _ _ _ _ _ _ (Nat.lt_succ_self _) (fun l hl => nomatch hl) (yw_OM0 r4 ht s ch) ?_⟩
    intro kn md op st ps ch ga pl
    rw [e]
    exact ⟨rfl, xr_mk _ h⟩
/-- the best plan as both sides have it -/
theorem xr_best {ac ae th mt mc sp : Nat → Int32} (hok : yp_ok th mt sp) {t s d : Nat} (ht : t < 4) (hs : s < 32) {c : Int32} {f : Int64} (hce : xw_ce c f (mp_cn (yp_P ac ae th mt mc sp) (8 + t) s d) (fun q => (d, q) ∈ mp_ws (yp_P ac ae th mt mc sp) (8 + t) s)) :
    (mp_cn (yp_P ac ae th mt mc sp) (8 + t) s d = 0 ∧ mp_be d none (mp_ws (yp_P ac ae th mt mc sp) (8 + t) s) = none) ∨ (0 < mp_cn (yp_P ac ae th mt mc sp) (8 + t) s d ∧ ∃ b, mp_pg b ∧ f = lN (mp_en b) ∧ mp_be d none (mp_ws (yp_P ac ae th mt mc sp) (8 + t) s) = some b) := by
  obtain ⟨k0, k1⟩ := mp_be_0 d (mp_ws (yp_P ac ae th mt mc sp) (8 + t) s) (fun x hx => xr_pg hok ht hs hx)
  obtain ⟨c1, c2, c3⟩ := hce
  cases e : mp_be d none (mp_ws (yp_P ac ae th mt mc sp) (8 + t) s) with
  | none =>
    left
    refine ⟨?_, rfl⟩
    apply Decidable.byContradiction
    intro hne
    obtain ⟨q, hq⟩ := mp_ct_pos.mp (Nat.pos_of_ne_zero hne)
    exact k0 e q hq
  | some b =>
    right
    obtain ⟨g1, g2⟩ := k1 b e
    have hp : 0 < mp_cn (yp_P ac ae th mt mc sp) (8 + t) s d := mp_ct_pos.mpr ⟨b, g1⟩
    obtain ⟨q, q1, q2, q3⟩ := c3 hp
    have hb := xr_pg hok ht hs g1
    have e1 := q3 b g1
    have e2 := g2 q q1
    have e3 : mp_en q = mp_en b := Nat.le_antisymm e1 e2
    exact ⟨hp, b, hb, by rw [q2, e3], rfl⟩
theorem i_vc_shortest {k : Nat} {u : SX} {v : SY} (I : i_Rel k u v) (hk : k + 4 ≤ 2048) (v1 : Int32) (v2 : Int32) (v3 : Int32) : wpX_shortest (fun r => wpY_shortest (fun r' v' => r' = r ∧ i_Rel (k + 4) u v') v v1 v2 v3) u v1 v2 v3 := by
  have I' := i_up I
  obtain ⟨l, ms, ac, ae, mt, mc, mf, sd, li, wc, fp, sa, pa, kn, md, op, st, ps, bs, th, sp, ch, ga, pl, be, rfl, rfl, h⟩ := I
  have h' := h
  obtain ⟨r1, r2, r3, r4, r5, r6⟩ := h'
  unfold wpX_shortest wpY_shortest
  dsimp only
  rcases xr_dom v1 4 (by decide) with hb | ⟨t, ht, rfl⟩
  · refine xw_isTask0 hb ?_
    refine br_t rfl ?_
    refine yw_task0 hb ?_
    exact br_t rfl ⟨rfl, I'⟩
  refine xw_isTask ht ?_
  refine br_f (by decide) ?_
  rcases xr_dom v2 32 (by decide) with hb | ⟨s, hs, rfl⟩
  · refine xw_isState0 hb ?_
    refine br_t rfl ?_
    refine yw_task ht ?_
    refine br_f (by decide) ?_
    refine yw_isState0 hb ?_
    exact br_t rfl ⟨rfl, I'⟩
  refine xw_isState hs ?_
  refine br_f (by decide) ?_
  rcases xr_dom v3 32 (by decide) with hb | ⟨d, hd, rfl⟩
  · refine xw_isState0 hb ?_
    refine br_t rfl ?_
    refine yw_task ht ?_
    refine br_f (by decide) ?_
    refine yw_isState hs ?_
    refine br_f (by decide) ?_
    refine yw_isState0 hb ?_
    exact br_t rfl ⟨rfl, I'⟩
  refine xw_isState hd ?_
  refine br_f (by decide) ?_
  have e8 : (8 : Int32) + nI t = nI (8 + t) := nI_add 8 t
  rw [e8]
  refine xw_rowOf ?_
  have hce := r6 (8 + t) (by omega) (by omega) s hs d hd
  have hin : vp_in (nI (((8 + t) * 32 + s) * 32 + d)) 12288 := vp_in_nI (by omega) (by decide)
  have hY : ∀ r : Int32, mp_nS (mp_be d none (mp_ws (yp_P ac ae th mt mc sp) (8 + t) s)) = r → wpY_task (fun r_1 => (((r_1 = 0 → ((-1 : Int32) = r ∧ i_Rel (k + 4) (ms, nI l.length, ac, ae, mt, mc, mf, sd, li, wc, fp, sa, pa) (nI l.length, kn, md, op, st, ps, bs, ac, ae, th, mt, mc, sp, li, ch, ga, pl, be))) ∧ (¬ r_1 = 0 → (wpY_isState (fun r_21 => (((r_21 = 0 → ((-1 : Int32) = r ∧ i_Rel (k + 4) (ms, nI l.length, ac, ae, mt, mc, mf, sd, li, wc, fp, sa, pa) (nI l.length, kn, md, op, st, ps, bs, ac, ae, th, mt, mc, sp, li, ch, ga, pl, be))) ∧ (¬ r_21 = 0 → (wpY_isState (fun r_41 => (((r_41 = 0 → ((-1 : Int32) = r ∧ i_Rel (k + 4) (ms, nI l.length, ac, ae, mt, mc, mf, sd, li, wc, fp, sa, pa) (nI l.length, kn, md, op, st, ps, bs, ac, ae, th, mt, mc, sp, li, ch, ga, pl, be))) ∧ (¬ r_41 = 0 → (wpY_search (fun u => match u with | (w1, w2, w3, w4, w5, w6, w7, w8, w9, w10, w11, w12, w13, w14, w15, w16, w17, w18) => (w7 = r ∧ i_Rel (k + 4) (ms, nI l.length, ac, ae, mt, mc, mf, sd, li, wc, fp, sa, pa) (w1, w2, w3, w4, w5, w6, w7, w8, w9, w10, w11, w12, w13, w14, w15, w16, w17, w18))) (nI l.length, kn, md, op, st, ps, bs, ac, ae, th, mt, mc, sp, li, ch, ga, pl, be) (nI t) (nI s) (nI d)))))) (nI l.length, kn, md, op, st, ps, bs, ac, ae, th, mt, mc, sp, li, ch, ga, pl, be) (nI d)))))) (nI l.length, kn, md, op, st, ps, bs, ac, ae, th, mt, mc, sp, li, ch, ga, pl, be) (nI s)))))) (nI l.length, kn, md, op, st, ps, bs, ac, ae, th, mt, mc, sp, li, ch, ga, pl, be) (nI t) := by
    intro r hr
    refine yw_task ht ?_
    refine br_f (by decide) ?_
    refine yw_isState hs ?_
    refine br_f (by decide) ?_
    refine yw_isState hd ?_
    refine br_f (by decide) ?_
    refine yw_search _ _ _ _ _ _ _ _ _ _ _ _ _ _ _ _ _ _ ht hs hd r4 (fun x hx => (xr_pg r4 ht hs hx).2) ?_
    intro kn md op st ps ch ga pl be _
    exact ⟨hr, xr_mk _ h⟩
  rw [nI_add, nI_clamp (by omega : ((8 + t) * 32 + s) * 32 + d < 2 ^ 31), hce.1]
  refine ⟨hin, ?_⟩
  rcases xr_best r4 ht hs hce with ⟨z, hbe⟩ | ⟨z, b, hb, hf, hbe⟩
  · rw [z]
    refine br_t rfl ?_
    exact hY _ (by rw [hbe]; rfl)
  · refine br_f (nI_ne0 z (xr_cnb r4 d (by omega) hs)) ⟨hin, ?_⟩
    rw [hf]
    unfold wpX_lengthOf
    rw [xw_len hb]
    exact hY _ (by rw [hbe]; rfl)
end
section
theorem yr_planned {post : Int32 → SY → Prop} (wr kn md op st ps bs : Int32) (co ef th ta de sp li ch ga pl be : Nat → Int32) {T s : Nat} (hT : T < 128) (hs : s < 32) (hok : yp_ok th ta sp) (p2 : Int32) {o : Option (List Nat)} (ho : mp_be (T / 4) none (mp_ws (yp_P co ef th ta de sp) (8 + T % 4) s) = o)
    (H : ∀ (kn md op st ps : Int32) (ch ga pl be : Nat → Int32), yw_BE be o → ((p2 < 0 → post (-1) (wr, kn, md, op, st, ps, mp_nS o, co, ef, th, ta, de, sp, li, ch, ga, pl, be)) ∧ (¬ p2 < 0 → ((mp_nS o ≤ p2 → post (-1) (wr, kn, md, op, st, ps, mp_nS o, co, ef, th, ta, de, sp, li, ch, ga, pl, be)) ∧ (¬ mp_nS o ≤ p2 → (vp_in p2 16 ∧ post (be p2.toNatClampNeg) (wr, kn, md, op, st, ps, mp_nS o, co, ef, th, ta, de, sp, li, ch, ga, pl, be))))))) :
    wpY_planned post (wr, kn, md, op, st, ps, bs, co, ef, th, ta, de, sp, li, ch, ga, pl, be) (nI T) (nI s) p2 := by
  subst ho
  unfold wpY_planned
  dsimp only
  have e3 : nI T &&& 3 = nI (T % 4) := pk_andN (by omega) 2 (by decide)
  have e2 : nI T >>> ((2 : Int32) &&& 31) = nI (T / 4) := pk_shrN (by omega) _ 2 (by decide)
  refine br_f (nI_pos (by omega)) (br_f (nI_nlt (a := 127) (by omega) (by decide)) ?_)
  refine yw_isState hs ?_
  refine br_f (by decide) ?_
  rw [e3, e2]
  refine yw_search _ _ _ _ _ _ _ _ _ _ _ _ _ _ _ _ _ _ (by omega) hs (by omega) hok (fun x hx => (xr_pg hok (by omega) hs hx).2) ?_
  intro kn md op st ps ch ga pl be hbe
  exact H kn md op st ps ch ga pl be hbe
theorem i_vc_planned {k : Nat} {u : SX} {v : SY} (I : i_Rel k u v) (hk : k + 4 ≤ 2048) (v1 : Int32) (v2 : Int32) (v3 : Int32) : wpX_planned (fun r => wpY_planned (fun r' v' => r' = r ∧ i_Rel (k + 4) u v') v v1 v2 v3) u v1 v2 v3 := by
  have I' := i_up I
  obtain ⟨l, ms, ac, ae, mt, mc, mf, sd, li, wc, fp, sa, pa, kn, md, op, st, ps, bs, th, sp, ch, ga, pl, be, rfl, rfl, h⟩ := I
  have h' := h
  obtain ⟨r1, r2, r3, r4, r5, r6⟩ := h'
  unfold wpX_planned
  dsimp only
  rcases xr_dom v1 128 (by decide) with hb | ⟨T, hT, rfl⟩
  · rcases hb with h0 | h6
    · refine br_t h0 ?_
      exact br_t h0 ⟨rfl, I'⟩
    · refine br_f (xr_pos h6 (by decide)) (br_t h6 ?_)
      exact br_f (xr_pos h6 (by decide)) (br_t (xr_lt_le (by decide) h6) ⟨rfl, I'⟩)
  refine br_f (nI_pos (by omega)) (br_f (nI_ge (b := 128) hT (by decide)) ?_)
  rcases xr_dom v2 32 (by decide) with hb | ⟨s, hs, rfl⟩
  · refine xw_isState0 hb ?_
    refine br_t rfl ?_
    unfold wpY_planned
    dsimp only
    refine br_f (nI_pos (by omega)) (br_f (nI_nlt (a := 127) (by omega) (by decide)) ?_)
    refine yw_isState0 hb ?_
    exact br_t rfl ⟨rfl, I'⟩
  refine xw_isState hs ?_
  have er : nI T - nI T / 4 * 4 = nI (T % 4) := pk_rem (a := T) (d := 4) (by omega) (by omega) (by omega)
  have ed : nI T / 4 = nI (T / 4) := pk_div (a := T) (d := 4) (by omega) (by omega) (by omega)
  refine br_f (by decide) ⟨by decide, nm_r er ⟨by decide, nm_r ed ?_⟩⟩
  have e8 : (8 : Int32) + nI (T % 4) = nI (8 + T % 4) := nI_add 8 _
  rw [e8]
  refine xw_rowOf ?_
  have hce := r6 (8 + T % 4) (by omega) (by omega) s hs (T / 4) (by omega)
  have hin : vp_in (nI (((8 + T % 4) * 32 + s) * 32 + T / 4)) 12288 := vp_in_nI (by omega) (by decide)
  rw [nI_add, nI_clamp (by omega : ((8 + T % 4) * 32 + s) * 32 + T / 4 < 2 ^ 31), hce.1]
  refine ⟨hin, ?_⟩
  rcases xr_best r4 (by omega) hs hce with ⟨z, hbe⟩ | ⟨z, b, hb, hf, hbe⟩
  · rw [z]
    refine br_t rfl ?_
    refine yr_planned _ _ _ _ _ _ _ _ _ _ _ _ _ _ _ _ _ _ hT hs r4 v3 hbe ?_
    intro kn md op st ps ch ga pl be _
    refine br_c (fun _ => ⟨rfl, xr_mk _ h⟩) (fun hn => br_t ?_ ⟨rfl, xr_mk _ h⟩)
    show (-1 : Int32) ≤ v3
    rw [Int32.lt_iff_toInt_lt] at hn
    rw [Int32.le_iff_toInt_le]
    have h0 : (0 : Int32).toInt = 0 := by decide
    have h1 : (-1 : Int32).toInt = -1 := by decide
    omega
  · have hbl := hb.1
    refine br_f (nI_ne0 z (xr_cnb r4 _ (by omega) hs)) ⟨hin, nm_r hf ?_⟩
    unfold wpX_lengthOf
    rw [xw_len hb]
    by_cases hn : v3 < 0
    · refine br_t hn ?_
      refine yr_planned _ _ _ _ _ _ _ _ _ _ _ _ _ _ _ _ _ _ hT hs r4 v3 hbe ?_
      intro kn md op st ps ch ga pl be _
      exact br_t hn ⟨rfl, xr_mk _ h⟩
    obtain ⟨j, hj, rfl⟩ := nI_of hn
    refine br_f hn (pk_lt j b.length (fun y => ?_) (fun y => ?_) rfl rfl hj)
    · have e1 : (nI b.length - 1) - nI j = nI (b.length - 1 - j) := by
        have e2 := pk_sub (a := b.length) (b := 1) (by omega)
        have e3 : nI b.length - 1 = nI (b.length - 1) := e2
        rw [e3, pk_sub (by omega)]
      refine nm_r e1 ?_
      have e3 : (3 : Int32) * nI (b.length - 1 - j) = nI (3 * (b.length - 1 - j)) := pk_mul 3 _
      rw [e3, xw_digit hb y]
      refine yr_planned _ _ _ _ _ _ _ _ _ _ _ _ _ _ _ _ _ _ hT hs r4 _ hbe ?_
      intro kn md op st ps ch ga pl be hBE
      have hat := yw_CH_at y hBE.2.1
      rw [Nat.zero_add] at hat
      refine br_f hn (br_f (nI_ge y (by omega)) ⟨vp_in_nI (by omega) (by decide), ?_⟩)
      rw [nI_clamp hj]
      exact ⟨hat, xr_mk _ h⟩
    · refine yr_planned _ _ _ _ _ _ _ _ _ _ _ _ _ _ _ _ _ _ hT hs r4 _ hbe ?_
      intro kn md op st ps ch ga pl be hBE
      exact br_f hn (br_t (nI_le y hj) ⟨rfl, xr_mk _ h⟩)
theorem i_vc_accounts {k : Nat} {u : SX} {v : SY} (I : i_Rel k u v) (hk : k + 4 ≤ 2048) (v1 : Int32) (v2 : Int32) : wpX_accounts (fun r u' => wpY_accounts (fun r' v' => r' = r ∧ i_Rel (k + 4) u' v') v v1 v2) u v1 v2 := by
  have I' := i_up I
  obtain ⟨l, ms, ac, ae, mt, mc, mf, sd, li, wc, fp, sa, pa, kn, md, op, st, ps, bs, th, sp, ch, ga, pl, be, rfl, rfl, h⟩ := I
  have h' := h
  obtain ⟨r1, r2, r3, r4, r5, r6⟩ := h'
  rcases xr_dom v1 4 (by decide) with hb | ⟨t, ht, rfl⟩
  · unfold wpX_accounts
    dsimp only
    refine xw_isTask0 hb ?_
    refine br_t rfl ⟨1, ?_⟩
    rw [wY_accounts_7]
    refine yw_task0 hb ?_
    exact br_t rfl ⟨rfl, rfl, xr_mk _ h⟩
  rcases xr_dom v2 32 (by decide) with hb | ⟨s, hs, rfl⟩
  · unfold wpX_accounts
    dsimp only
    refine xw_isTask ht ?_
    refine br_f (by decide) ?_
    refine xw_isState0 hb ?_
    refine br_t rfl ⟨1, ?_⟩
    rw [wY_accounts_7]
    refine yw_task ht ?_
    refine br_f (by decide) ?_
    refine yw_isState0 hb ?_
    exact br_t rfl ⟨rfl, rfl, xr_mk _ h⟩
  refine xw_accounts _ _ _ _ _ _ _ _ _ _ _ _ r4 r5 r1 r2 r3 ht hs ?_
  intro sa' pa'
  refine ⟨_, yw_acc7 _ _ _ _ _ _ _ _ _ ht hs r4 r1 r2 (fun a ha => by have := r3 a ha; omega) _ _ _ _ _ _ _ _ _ _ (Nat.lt_succ_self _) (fun x hx => (xr_pg r4 ht hs hx).2) (yw_OM0 r4 ht s ch) ?_⟩
  intro kn md op st ps ch ga pl
  exact ⟨rfl, xr_mk _ h⟩
theorem i_vc_after {k : Nat} {u : SX} {v : SY} (I : i_Rel k u v) (hk : k + 4 ≤ 2048) (v1 : Int32) : wpX_after (fun r u' => wpY_after (fun r' => r' = r ∧ i_Rel (k + 4) u' v) v v1) u v1 := by
  have I' := i_up I
  obtain ⟨l, ms, ac, ae, mt, mc, mf, sd, li, wc, fp, sa, pa, kn, md, op, st, ps, bs, th, sp, ch, ga, pl, be, rfl, rfl, h⟩ := I
  have h' := h
  obtain ⟨r1, r2, r3, r4, r5, r6⟩ := h'
  unfold wpX_after wpY_after
  dsimp only
  rcases xr_dom v1 32 (by decide) with hb | ⟨s, hs, rfl⟩
  · refine xw_isState0 hb ?_
    refine br_t rfl ?_
    refine yw_isState0 hb ?_
    refine br_t rfl ⟨1, ?_⟩
    exact br_c (fun _ => ⟨rfl, I'⟩) (fun _ => br_t (by decide) ⟨rfl, I'⟩)
  refine xw_isState hs ?_
  refine br_f (by decide) ?_
  refine xw_walk _ _ _ _ _ _ _ _ _ _ _ _ th sp r1 r2 r3 hs (fun hn sa' => ?_) (fun e he he32 sa' _ => ?_)
  · refine yw_isState hs ?_
    refine br_f (by decide) ⟨l.length + 2, yw_after16 _ _ _ _ _ _ _ _ _ _ _ _ _ _ _ _ _ r1 l 0 _ s (by omega) (by omega) r2 r3 hs ?_⟩
    rw [hn]
    exact ⟨rfl, xr_mk _ h⟩
  · refine yw_isState hs ?_
    refine br_f (by decide) ⟨l.length + 2, yw_after16 _ _ _ _ _ _ _ _ _ _ _ _ _ _ _ _ _ r1 l 0 _ s (by omega) (by omega) r2 r3 hs ?_⟩
    rw [he]
    exact ⟨rfl, xr_mk _ h⟩
theorem i_vc_doable {k : Nat} {u : SX} {v : SY} (I : i_Rel k u v) (hk : k + 4 ≤ 2048) (v1 : Int32) : wpX_doable (fun r => wpY_doable (fun r' v' => r' = r ∧ i_Rel (k + 4) u v') v v1) u v1 := by
  have I' := i_up I
  obtain ⟨l, ms, ac, ae, mt, mc, mf, sd, li, wc, fp, sa, pa, kn, md, op, st, ps, bs, th, sp, ch, ga, pl, be, rfl, rfl, h⟩ := I
  have h' := h
  obtain ⟨r1, r2, r3, r4, r5, r6⟩ := h'
  unfold wpX_doable wpY_doable
  dsimp only
  rcases xr_dom v1 32 (by decide) with hb | ⟨s, hs, rfl⟩
  · refine xw_isState0 hb ?_
    refine br_t rfl ⟨1, ?_⟩
    refine br_f (by decide) ?_
    refine yw_isState0 hb ?_
    refine br_t rfl ?_
    unfold wY_doable_47
    refine yw_isState0 hb ?_
    exact br_t rfl ⟨rfl, I'⟩
  refine xw_isState hs ?_
  refine br_f (by decide) ⟨5, xw_doable13 _ _ _ _ _ _ _ _ _ _ _ _ _ (yp_mok (co := ac) (ef := ae) (de := mc) r4) hs (fun t ht => r6 (8 + t) (by omega) (by omega)) (fun v e hv => xr_cnb r4 e hv hs) 4 0 5 0 (by omega) (by omega) ?_⟩
  refine ⟨5, yw_doable4 _ _ _ _ _ _ _ _ _ _ hs r4 4 0 5 0 _ _ _ _ _ _ _ _ (by omega) (by omega) ?_⟩
  intro kn md op st ps ch ga pl
  exact ⟨rfl, xr_mk _ h⟩
theorem i_vc_useless {k : Nat} {u : SX} {v : SY} (I : i_Rel k u v) (hk : k + 4 ≤ 2048) (v1 : Int32) : wpX_useless (fun r => wpY_useless (fun r' v' => r' = r ∧ i_Rel (k + 4) u v') v v1) u v1 := by
  have I' := i_up I
  obtain ⟨l, ms, ac, ae, mt, mc, mf, sd, li, wc, fp, sa, pa, kn, md, op, st, ps, bs, th, sp, ch, ga, pl, be, rfl, rfl, h⟩ := I
  have h' := h
  obtain ⟨r1, r2, r3, r4, r5, r6⟩ := h'
  unfold wpX_useless wpY_useless
  dsimp only
  rcases xr_dom v1 8 (by decide) with hb | ⟨m, hm, rfl⟩
  · refine xw_has0 _ _ _ _ _ _ _ _ _ _ _ _ _ hb ?_
    refine br_t rfl ?_
    rcases hb with h0 | h6
    · exact br_t h0 ⟨rfl, I'⟩
    · exact br_f (xr_pos h6 (by decide)) (br_t (xr_lt_le (by decide) h6) ⟨rfl, I'⟩)
  have y1 : ¬ nI m < 0 := nI_pos (by omega)
  have y2 : ¬ (7 : Int32) < nI m := nI_nlt (a := 7) (by omega) (by decide)
  have hin : vp_in (nI m) 8 := vp_in_nI hm (by decide)
  have hcl : (nI m).toNatClampNeg = m := nI_clamp (by omega)
  refine xw_has _ _ _ _ _ _ _ _ _ _ _ _ _ r5.1 hm ?_
  by_cases z : th m = 0
  · rw [if_pos z]
    refine br_t rfl ?_
    refine br_f y1 (br_f y2 ⟨hin, ?_⟩)
    rw [hcl]
    exact br_t z ⟨rfl, I'⟩
  rw [if_neg z]
  have ok := yp_mok (co := ac) (ef := ae) (de := mc) r4
  obtain ⟨t, kk, ht, e1, hkk, e2, s1, s2⟩ := (r4 m hm).2 z
  have hone : th m = 1 := by
    rcases (r4 m hm).1 with e | e
    · exact absurd e z
    · exact e
  have hu : ∀ t' s, t' < 4 → mp_app (yp_P ac ae th mt mc sp) t' m s = true → t' = t := by
    intro t' s ht' ha
    obtain ⟨_, g2, _⟩ := yp_app.mp ha
    exact (nI_eq (by omega) (by omega)).mp (g2.symm.trans e1)
  have hus := mp_useless ok hm ht hu
  have hbd : ∀ t s, t < 4 → s < 32 → (mp_ws (yp_P ac ae th mt mc sp) (8 + t) s).length < 2 ^ 31 ∧ (mp_ws (yp_P ac ae (upd th m 0) mt mc sp) (8 + t) s).length < 2 ^ 31 := by
    intro t s ht hs
    refine ⟨Nat.lt_of_le_of_lt (mp_len_b ok (xw_tk r4) (by omega) hs) (by decide), Nat.lt_of_le_of_lt (mp_len_b (yp_mok (yp_ok_upd0 r4)) (xw_tk (yp_ok_upd0 r4)) (by omega) hs) (by decide)⟩
  refine br_f (by decide) ⟨33, xw_useless12 _ _ _ _ _ _ _ _ _ _ _ _ _ r4 r5 ht hm z e1 r6 (fun hyes => ?_) (fun hno => ?_) 32 0 33 (by omega) (by omega) (fun i hi => by omega)⟩
  · refine br_f y1 (br_f y2 ⟨hin, ?_⟩)
    rw [hcl]
    refine br_f z ⟨130, yw_useless25 _ _ _ _ _ _ _ _ _ _ hm r4 hone hbd 128 0 130 _ _ _ _ _ _ _ _ (by omega) (by omega) (fun _ kn md op st ps ch ga pl => ⟨rfl, xr_mk _ h⟩) (fun hex => ?_)⟩
    obtain ⟨i, i1, i2, i3⟩ := hex
    rw [xw_rmP] at i3
    exact absurd (hus.mpr hyes i i1 i2) i3
  · refine br_f y1 (br_f y2 ⟨hin, ?_⟩)
    rw [hcl]
    refine br_f z ⟨130, yw_useless25 _ _ _ _ _ _ _ _ _ _ hm r4 hone hbd 128 0 130 _ _ _ _ _ _ _ _ (by omega) (by omega) (fun hall => ?_) (fun _ kn md op st ps ch ga pl => ⟨rfl, xr_mk _ h⟩)⟩
    rw [xw_rmP] at hall
    exact absurd (hus.mp hall) hno
end
