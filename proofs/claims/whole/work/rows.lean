section
/-! rows pasted from kit/rows: stores, nI arithmetic, branches by naturals, bits -/
theorem pk_us {f : Nat → Int32} {k : Nat} {x : Int32} : upd f k x k = x := if_pos rfl
theorem pk_un {f : Nat → Int32} {k j : Nat} {x : Int32} (h : j ≠ k) : upd f k x j = f j := if_neg h
theorem pk_sub {a b : Nat} (h : b ≤ a) : nI a - nI b = nI (a - b) := by
  obtain ⟨c, rfl⟩ : ∃ c, a = c + b := ⟨a - b, by omega⟩
  rw [← nI_add, Int32.add_sub_cancel, Nat.add_sub_cancel]
theorem pk_m1 (n : Nat) : nI (n + 1) + (-1) = nI n := by
  rw [← nI_1, Int32.add_assoc, show (1 : Int32) + (-1) = 0 from rfl, Int32.add_zero]
theorem pk_mul (a b : Nat) : nI a * nI b = nI (a * b) := (Int32.ofNat_mul a b).symm
theorem pk_div {a d : Nat} (ha : a < 2 ^ 31) (h0 : 0 < d) (hd : d < 2 ^ 31) : nI a / nI d = nI (a / d) := by
  apply Int32.toInt_inj.mp
  rw [lg_idiv_nonneg (by rw [nI_toInt ha]; omega) (by rw [nI_toInt hd]; omega), nI_toInt ha, nI_toInt hd, nI_toInt (Nat.lt_of_le_of_lt (Nat.div_le_self a d) ha)]
  first | rfl | exact (Int.natCast_ediv _ _).symm
theorem pk_rem {a d : Nat} (ha : a < 2 ^ 31) (h0 : 0 < d) (hd : d < 2 ^ 31) : nI a - nI a / nI d * nI d = nI (a % d) := by
  rw [pk_div ha h0 hd, pk_mul, pk_sub (Nat.div_mul_le_self a d)]
  exact congrArg nI (by have := Nat.div_add_mod' a d; omega)
theorem pk_sub_toInt {a b : Nat} (ha : a < 2 ^ 30) (hb : b < 2 ^ 30) : (nI a - nI b).toInt = (a : Int) - b := by
  rw [Int32.toInt_sub, nI_toInt (by omega), nI_toInt (by omega)]
  exact Int.bmod_eq_of_le (by omega) (by omega)
theorem pk_sneg {a b : Nat} (hb : b < 2 ^ 30) (h : a < b) : nI a - nI b < 0 := by
  rw [Int32.lt_iff_toInt_lt, pk_sub_toInt (by omega) hb, show (0 : Int32).toInt = 0 from by decide]
  omega
theorem pk_ix (x : Int32) {n : Nat} (hn : n < 2 ^ 31) : x < 0 ∨ nI n ≤ x ∨ ∃ j : Nat, j < n ∧ x = nI j := by
  by_cases h : x < 0
  · exact Or.inl h
  · obtain ⟨j, hj, rfl⟩ := nI_of h
    by_cases h2 : j < n
    · exact Or.inr (Or.inr ⟨j, h2, rfl⟩)
    · exact Or.inr (Or.inl (nI_le (by omega) hj))
theorem pk_le {x y : Int32} {A B : Prop} (a b : Nat) (f : a ≤ b → A) (g : b < a → B) (hx : x = nI a := by rfl) (hy : y = nI b := by rfl) (ha : a < 2 ^ 31 := by omega) (hb : b < 2 ^ 31 := by omega) : (x ≤ y → A) ∧ (¬ x ≤ y → B) := by
  subst hx hy
  rw [nI_leI ha hb]
  exact ⟨f, fun z => g (by omega)⟩
theorem pk_lt {x y : Int32} {A B : Prop} (a b : Nat) (f : a < b → A) (g : b ≤ a → B) (hx : x = nI a := by rfl) (hy : y = nI b := by rfl) (ha : a < 2 ^ 31 := by omega) (hb : b < 2 ^ 31 := by omega) : (x < y → A) ∧ (¬ x < y → B) := by
  subst hx hy
  rw [nI_ltI ha hb]
  exact ⟨f, fun z => g (by omega)⟩
theorem pk_eq {x y : Int32} {A B : Prop} (a b : Nat) (f : a = b → A) (g : a ≠ b → B) (hx : x = nI a := by rfl) (hy : y = nI b := by rfl) (ha : a < 2 ^ 31 := by omega) (hb : b < 2 ^ 31 := by omega) : (x = y → A) ∧ (¬ x = y → B) := by
  subst hx hy
  rw [nI_eq ha hb]
  exact ⟨f, g⟩
theorem pk_in {x : Int32} (n N : Nat) (h : n < N) (hx : x = nI n := by rfl) (hN : N < 2 ^ 31 := by omega) : vp_in x N := by
  subst hx
  exact vp_in_nI h hN
theorem pk_cl {x : Int32} (n : Nat) (hx : x = nI n := by rfl) (h : n < 2 ^ 31 := by omega) : x.toNatClampNeg = n := by
  subst hx
  exact nI_clamp h
theorem pk_tn {n : Nat} (h : n < 2 ^ 32) : (nI n).toBitVec.toNat = n := Nat.mod_eq_of_lt h
theorem pk_and (x : Int32) {m : Int32} (k : Nat) (hm : m.toBitVec.toNat = 2 ^ k - 1) : x &&& m = nI (x.toBitVec.toNat % 2 ^ k) := by
  apply Int32.toBitVec_inj.mp
  apply BitVec.eq_of_toNat_eq
  rw [Int32.toBitVec_and, BitVec.toNat_and, hm, Nat.and_two_pow_sub_one_eq_mod]
  show _ = (BitVec.ofNat 32 _).toNat
  rw [BitVec.toNat_ofNat]
  exact (Nat.mod_eq_of_lt (Nat.lt_of_le_of_lt (Nat.mod_le _ _) x.toBitVec.isLt)).symm
theorem pk_andN {n : Nat} (h : n < 2 ^ 32) {m : Int32} (k : Nat) (hm : m.toBitVec.toNat = 2 ^ k - 1) : nI n &&& m = nI (n % 2 ^ k) := by
  rw [pk_and _ k hm, pk_tn h]
theorem pk_andE (x : Int32) {m : Int32} (k : Nat) (hm : m.toBitVec.toNat = 2 ^ k - 1) : ∃ j : Nat, j < 2 ^ k ∧ x &&& m = nI j := ⟨_, Nat.mod_lt _ (Nat.two_pow_pos k), pk_and x k hm⟩
theorem pk_shl (a s : Int32) (k : Nat) (hs : (s.toBitVec.smod 32).toNat = k) : (a <<< s).toBitVec.toNat = a.toBitVec.toNat * 2 ^ k % 2 ^ 32 := by
  show (a.toBitVec <<< (s.toBitVec.smod 32).toNat).toNat = _
  rw [hs, BitVec.toNat_shiftLeft, Nat.shiftLeft_eq]
theorem pk_shlN {n : Nat} (s : Int32) (k : Nat) (hs : (s.toBitVec.smod 32).toNat = k) (h : n * 2 ^ k < 2 ^ 32) : nI n <<< s = nI (n * 2 ^ k) := by
  apply Int32.toBitVec_inj.mp
  apply BitVec.eq_of_toNat_eq
  have hn : n < 2 ^ 32 := Nat.lt_of_le_of_lt (Nat.le_mul_of_pos_right n (Nat.two_pow_pos k)) h
  rw [pk_shl _ _ k hs, pk_tn hn, pk_tn h, Nat.mod_eq_of_lt h]
theorem pk_shr (a s : Int32) (k : Nat) (hs : (s.toBitVec.smod 32).toNat = k) : (a >>> s).toInt = a.toInt >>> k := by
  show (a.toBitVec.sshiftRight (s.toBitVec.smod 32).toNat).toInt = _
  rw [hs, BitVec.toInt_sshiftRight]
  rfl
theorem pk_shrN {n : Nat} (h : n < 2 ^ 31) (s : Int32) (k : Nat) (hs : (s.toBitVec.smod 32).toNat = k) : nI n >>> s = nI (n / 2 ^ k) := by
  apply Int32.toInt_inj.mp
  have h2 : n / 2 ^ k ≤ n := Nat.div_le_self _ _
  rw [pk_shr _ _ k hs, nI_toInt h, nI_toInt (by omega), Int.shiftRight_eq_div_pow]
  rfl
theorem pk_vb (z : Int32) : vp_nar .byte z.toInt8.toInt32 = z.toInt8.toInt32 := by rw [vp_nar_byte]; simp
theorem pk_nb (z : Int32) : narrow .byte (.int z.toInt8.toInt32) = .int z.toInt8.toInt32 := congrArg Value.int (by simp)
def bt (x : Int32) (i : Nat) : Bool := x.toBitVec.getLsbD i
theorem b_ext {x y : Int32} (h : ∀ i, i < 32 → bt x i = bt y i) : x = y := Int32.toBitVec_inj.mp (BitVec.eq_of_getLsbD_eq (fun i hi => h i hi))
theorem b_or (x y : Int32) (i : Nat) : bt (x ||| y) i = (bt x i || bt y i) := by unfold bt; rw [Int32.toBitVec_or, BitVec.getLsbD_or]
theorem b_and (x y : Int32) (i : Nat) : bt (x &&& y) i = (bt x i && bt y i) := by unfold bt; rw [Int32.toBitVec_and, BitVec.getLsbD_and]
theorem b_xor (x y : Int32) (i : Nat) : bt (x ^^^ y) i = (bt x i ^^ bt y i) := by unfold bt; rw [Int32.toBitVec_xor, BitVec.getLsbD_xor]
theorem b_big {x : Int32} {i : Nat} (h : 32 ≤ i) : bt x i = false := BitVec.getLsbD_of_ge _ _ h
theorem b_255 (i : Nat) : bt 255 i = decide (i < 8) := by
  rcases Nat.lt_or_ge i 32 with h | h
  · exact (by decide +kernel : ∀ i, i < 32 → bt 255 i = decide (i < 8)) i h
  · rw [b_big h, decide_eq_false (by omega)]
theorem b_0 (i : Nat) : bt 0 i = false := BitVec.getLsbD_zero
theorem s_l : ∀ n, n < 32 → ((nI n &&& 31).toBitVec.smod 32).toNat = n := by decide +kernel
theorem s_u : ∀ n, n < 32 → (((nI n).toUInt32 &&& Int32.toUInt32 31).toBitVec % 32).toNat = n := by decide +kernel
theorem b_shl (n : Nat) (hn : n < 32) (x : Int32) {i : Nat} (hi : i < 32) : bt (x <<< (nI n &&& 31)) i = (decide (n ≤ i) && bt x (i - n)) := by
  unfold bt
  rw [Int32.toBitVec_shiftLeft]
  show (x.toBitVec <<< ((nI n &&& 31).toBitVec.smod 32).toNat).getLsbD i = _
  rw [s_l n hn, BitVec.getLsbD_shiftLeft]
  rcases Nat.lt_or_ge i n with h | h
  · simp [h, Nat.not_le.mpr h]
  · simp [hi, h, Nat.not_lt.mpr h]
theorem b_sshr (n : Nat) (hn : n < 32) (x : Int32) {i : Nat} (hi : i < 32) : bt (x >>> (nI n &&& 31)) i = if n + i < 32 then bt x (n + i) else bt x 31 := by
  unfold bt
  rw [Int32.toBitVec_shiftRight]
  show (x.toBitVec.sshiftRight ((nI n &&& 31).toBitVec.smod 32).toNat).getLsbD i = _
  rw [s_l n hn, BitVec.getLsbD_sshiftRight, BitVec.msb_eq_getLsbD_last]
  simp [hi]
theorem b_shl8 (x : Int32) {i : Nat} (hi : i < 32) : bt (x <<< ((8 : Int32) &&& 31)) i = (decide (8 ≤ i) && bt x (i - 8)) := b_shl 8 (by omega) x hi
theorem b_sshr8 (x : Int32) {i : Nat} (hi : i < 32) : bt (x >>> ((8 : Int32) &&& 31)) i = if 8 + i < 32 then bt x (8 + i) else bt x 31 := b_sshr 8 (by omega) x hi
end
section
/-! samples, wrapping, packing: pure facts -/
def sa_wr (x : Int32) : Int32 := (x <<< ((20 : Int32) &&& 31)) >>> ((20 : Int32) &&& 31)
def sa_sm (x : Int32) : Prop := -2048 ≤ x.toInt ∧ x.toInt ≤ 2047
theorem sa_tn (x : Int32) : (x.toBitVec.toNat < 2147483648 ∧ x.toInt = (x.toBitVec.toNat : Int)) ∨ (2147483648 ≤ x.toBitVec.toNat ∧ x.toBitVec.toNat < 4294967296 ∧ x.toInt = (x.toBitVec.toNat : Int) - 4294967296) := by
  have h := x.toBitVec.isLt
  have e : x.toInt = x.toBitVec.toInt := rfl
  rw [BitVec.toInt_eq_toNat_cond] at e
  by_cases c : 2 * x.toBitVec.toNat < 2 ^ 32
  · rw [if_pos c] at e
    exact Or.inl ⟨by omega, e⟩
  · rw [if_neg c] at e
    exact Or.inr ⟨by omega, by omega, by omega⟩
theorem sa_wrN (n : Nat) (y z : Int) (h3 : (n < 2147483648 ∧ z = (n : Int)) ∨ (2147483648 ≤ n ∧ n < 4294967296 ∧ z = (n : Int) - 4294967296))
    (h4 : (n * 1048576 % 4294967296 < 2147483648 ∧ y = ((n * 1048576 % 4294967296 : Nat) : Int)) ∨ (2147483648 ≤ n * 1048576 % 4294967296 ∧ n * 1048576 % 4294967296 < 4294967296 ∧ y = ((n * 1048576 % 4294967296 : Nat) : Int) - 4294967296)) :
    y / 1048576 = (z + 2048) % 4096 - 2048 := by omega
theorem sa_wrI (x : Int32) : (sa_wr x).toInt = (x.toInt + 2048) % 4096 - 2048 := by
  have h1 : (sa_wr x).toInt = (x <<< ((20 : Int32) &&& 31)).toInt >>> 20 := pk_shr _ _ 20 (by decide)
  have h2 : (x <<< ((20 : Int32) &&& 31)).toBitVec.toNat = x.toBitVec.toNat * 1048576 % 4294967296 := pk_shl _ _ 20 (by decide)
  have h4 := sa_tn (x <<< ((20 : Int32) &&& 31))
  rw [h2] at h4
  rw [h1, Int.shiftRight_eq_div_pow]
  exact sa_wrN x.toBitVec.toNat _ _ (sa_tn x) h4
theorem sa_wrR (x : Int32) : sa_sm (sa_wr x) := by
  have h := sa_wrI x
  unfold sa_sm
  omega
theorem sa_wrS {x : Int32} (h : sa_sm x) : sa_wr x = x := by
  apply Int32.toInt_inj.mp
  rw [sa_wrI]
  unfold sa_sm at h
  omega
theorem sa_wrM (n : Nat) (z : Int) (h3 : (n < 2147483648 ∧ z = (n : Int)) ∨ (2147483648 ≤ n ∧ n < 4294967296 ∧ z = (n : Int) - 4294967296)) :
    (((n + 2048) % 4294967296 % 4096 : Nat) : Int) - 2048 = (z + 2048) % 4096 - 2048 := by omega
theorem sa_wrY (x : Int32) : ((x + 2048) &&& 4095) - 2048 = sa_wr x := by
  apply Int32.toInt_inj.mp
  have h2 : (x + 2048).toBitVec.toNat = (x.toBitVec.toNat + 2048) % 4294967296 := by
    rw [Int32.toBitVec_add, BitVec.toNat_add]
    rfl
  have h0 : (x + 2048) &&& 4095 = nI ((x.toBitVec.toNat + 2048) % 4294967296 % 4096) := by
    rw [pk_and (x + 2048) 12 (by decide), h2]
  have h1 : (nI ((x.toBitVec.toNat + 2048) % 4294967296 % 4096) - (2048 : Int32)).toInt = (((x.toBitVec.toNat + 2048) % 4294967296 % 4096 : Nat) : Int) - 2048 := pk_sub_toInt (b := 2048) (by omega) (by decide)
  rw [h0, h1, sa_wrI]
  exact sa_wrM _ _ (sa_tn x)
theorem sa_smI (x : Int32) : sa_sm x ↔ (-2048 : Int32) ≤ x ∧ x ≤ 2047 := by
  unfold sa_sm
  rw [Int32.le_iff_toInt_le, Int32.le_iff_toInt_le, show (-2048 : Int32).toInt = -2048 from by decide, show (2047 : Int32).toInt = 2047 from by decide]
theorem sa_halfZ (z : Int) (h : -2048 ≤ z ∧ z ≤ 2047) : -2048 ≤ z.tdiv 2 ∧ z.tdiv 2 ≤ 2047 := by
  rcases Int.le_total 0 z with c | c
  · rw [Int.tdiv_eq_ediv_of_nonneg c]
    omega
  · obtain ⟨w, rfl⟩ : ∃ w : Int, z = -w := ⟨-z, by omega⟩
    rw [Int.neg_tdiv, Int.tdiv_eq_ediv_of_nonneg (by omega)]
    omega
theorem sa_half {x : Int32} (h : sa_sm x) : sa_sm (x / 2) := by
  unfold sa_sm at h ⊢
  rw [Int32.toInt_div_of_ne_right x 2 (by decide), show (2 : Int32).toInt = 2 from by decide]
  exact sa_halfZ _ h
theorem sa_sm0 : sa_sm 0 := by
  unfold sa_sm
  decide
/-! bits of the packed bytes -/
theorem sa_shl20 (x : Int32) {i : Nat} (hi : i < 32) : bt (x <<< ((20 : Int32) &&& 31)) i = (decide (20 ≤ i) && bt x (i - 20)) := b_shl 20 (by omega) x hi
theorem sa_shr20 (x : Int32) {i : Nat} (hi : i < 32) : bt (x >>> ((20 : Int32) &&& 31)) i = if 20 + i < 32 then bt x (20 + i) else bt x 31 := b_sshr 20 (by omega) x hi
theorem sa_shl4 (x : Int32) {i : Nat} (hi : i < 32) : bt (x <<< ((4 : Int32) &&& 31)) i = (decide (4 ≤ i) && bt x (i - 4)) := b_shl 4 (by omega) x hi
theorem sa_shr4 (x : Int32) {i : Nat} (hi : i < 32) : bt (x >>> ((4 : Int32) &&& 31)) i = if 4 + i < 32 then bt x (4 + i) else bt x 31 := b_sshr 4 (by omega) x hi
theorem sa_15 (i : Nat) : bt 15 i = decide (i < 4) := by
  rcases Nat.lt_or_ge i 32 with h | h
  · exact (by decide +kernel : ∀ i, i < 32 → bt 15 i = decide (i < 4)) i h
  · rw [b_big h, decide_eq_false (by omega)]
theorem sa_i8 (x : Int32) {i : Nat} (hi : i < 8) : bt x.toInt8.toInt32 i = bt x i := by
  unfold bt
  rw [Int8.toBitVec_toInt32, BitVec.getLsbD_signExtend, if_pos hi, Int32.toBitVec_toInt8, BitVec.getLsbD_signExtend, if_pos (by omega)]
  simp [hi, show i < 32 from by omega]
theorem sa_wrC {x y : Int32} (h : ∀ i, i < 12 → bt x i = bt y i) : sa_wr x = sa_wr y := by
  apply b_ext
  intro i hi
  unfold sa_wr
  rw [sa_shr20 _ hi, sa_shr20 _ hi]
  by_cases c : 20 + i < 32
  · rw [if_pos c, if_pos c, sa_shl20 _ c, sa_shl20 _ c, show 20 + i - 20 = i from by omega, h i (by omega)]
  · rw [if_neg c, if_neg c, sa_shl20 _ (by omega), sa_shl20 _ (by omega), h 11 (by omega)]
def sa_b0 (l : Int32) : Int32 := (l >>> ((4 : Int32) &&& 31)).toInt8.toInt32
def sa_b1 (l r : Int32) : Int32 := (((l &&& 15) <<< ((4 : Int32) &&& 31)) ||| ((r >>> ((8 : Int32) &&& 31)) &&& 15)).toInt8.toInt32
def sa_b2 (r : Int32) : Int32 := r.toInt8.toInt32
theorem sa_b0t (l : Int32) {i : Nat} (hi : i < 8) : bt (sa_b0 l) i = bt l (4 + i) := by
  unfold sa_b0
  rw [sa_i8 _ hi, sa_shr4 _ (by omega), if_pos (by omega)]
theorem sa_b1t (l r : Int32) {i : Nat} (hi : i < 8) : bt (sa_b1 l r) i = ((decide (4 ≤ i) && (bt l (i - 4) && decide (i - 4 < 4))) || (bt r (8 + i) && decide (i < 4))) := by
  unfold sa_b1
  rw [sa_i8 _ hi, b_or, sa_shl4 _ (by omega), b_and, b_and, sa_15, sa_15, b_sshr8 _ (by omega), if_pos (by omega)]
theorem sa_b2t (r : Int32) {i : Nat} (hi : i < 8) : bt (sa_b2 r) i = bt r i := sa_i8 r hi
def sa_uL (b0 b1 : Int32) : Int32 := sa_wr ((b0 <<< ((4 : Int32) &&& 31)) ||| ((b1 >>> ((4 : Int32) &&& 31)) &&& 15))
def sa_uR (b1 b2 : Int32) : Int32 := sa_wr (((b1 &&& 15) <<< ((8 : Int32) &&& 31)) ||| (b2 &&& 255))
theorem sa_unL {l r : Int32} (h : sa_sm l) : sa_uL (sa_b0 l) (sa_b1 l r) = l := by
  refine Eq.trans (sa_wrC fun i hi => ?_) (sa_wrS h)
  rw [b_or, sa_shl4 _ (by omega), b_and, sa_15, sa_shr4 _ (by omega), if_pos (by omega)]
  by_cases c : i < 4
  · rw [sa_b1t _ _ (by omega), decide_eq_false (show ¬ 4 ≤ i by omega), decide_eq_true c, decide_eq_true (show 4 ≤ 4 + i by omega), show 4 + i - 4 = i from by omega, decide_eq_true c, decide_eq_false (show ¬ 4 + i < 4 by omega)]
    simp
  · rw [sa_b0t _ (by omega), decide_eq_true (show 4 ≤ i by omega), decide_eq_false c, show 4 + (i - 4) = i from by omega]
    simp
theorem sa_unR {l r : Int32} (h : sa_sm r) : sa_uR (sa_b1 l r) (sa_b2 r) = r := by
  refine Eq.trans (sa_wrC fun i hi => ?_) (sa_wrS h)
  rw [b_or, b_shl8 _ (by omega), b_and, b_and, sa_15, b_255]
  by_cases c : i < 8
  · rw [sa_b2t _ c, decide_eq_false (show ¬ 8 ≤ i by omega), decide_eq_true c]
    simp
  · rw [sa_b1t _ _ (by omega), decide_eq_true (show 8 ≤ i by omega), decide_eq_false c, decide_eq_true (show i - 8 < 4 by omega), decide_eq_false (show ¬ 4 ≤ i - 8 by omega), show 8 + (i - 8) = i from by omega]
    simp
/-! a bit turned round, and back -/
def sa_tb (x : Int32) (b : Nat) : Int32 := (x ^^^ ((1 : Int32) <<< (nI b &&& 31))).toInt8.toInt32
theorem sa_tbb (x : Int32) (b : Nat) : sa_tb (sa_tb x.toInt8.toInt32 b) b = x.toInt8.toInt32 := by
  unfold sa_tb
  rw [Int32.toInt8_xor, Int8.toInt8_toInt32, Int32.toInt8_xor, Int8.toInt8_toInt32, Int8.xor_assoc, Int8.xor_self, Int8.xor_zero]
theorem sa_nb : ∀ m, m < 97 → (nI m).toInt8.toInt32 = nI m := by decide +kernel
/-! the content of a slot's bytes: samples l i, r i for i below m, the head says m -/
def sa_ct (l r : Nat → Int32) (m k : Nat) : Int32 :=
  if k = 0 then nI m else if (k - 1) % 3 = 0 then sa_b0 (l ((k - 1) / 3)) else if (k - 1) % 3 = 1 then sa_b1 (l ((k - 1) / 3)) (r ((k - 1) / 3)) else sa_b2 (r ((k - 1) / 3))
theorem sa_ct_h (l r : Nat → Int32) (m : Nat) : sa_ct l r m 0 = nI m := if_pos rfl
theorem sa_ct_0 (l r : Nat → Int32) (m i : Nat) : sa_ct l r m (1 + 3 * i) = sa_b0 (l i) := by
  unfold sa_ct
  rw [if_neg (by omega), if_pos (by omega), show (1 + 3 * i - 1) / 3 = i from by omega]
theorem sa_ct_1 (l r : Nat → Int32) (m i : Nat) : sa_ct l r m (1 + 3 * i + 1) = sa_b1 (l i) (r i) := by
  unfold sa_ct
  rw [if_neg (by omega), if_neg (by omega), if_pos (by omega), show (1 + 3 * i + 1 - 1) / 3 = i from by omega]
theorem sa_ct_2 (l r : Nat → Int32) (m i : Nat) : sa_ct l r m (1 + 3 * i + 2) = sa_b2 (r i) := by
  unfold sa_ct
  rw [if_neg (by omega), if_neg (by omega), if_neg (by omega), show (1 + 3 * i + 2 - 1) / 3 = i from by omega]
theorem sa_ct_b (l r : Nat → Int32) {m : Nat} (hm : m ≤ 96) (k : Nat) : ∃ z : Int32, sa_ct l r m k = z.toInt8.toInt32 := by
  unfold sa_ct
  by_cases h : k = 0
  · rw [if_pos h]
    exact ⟨nI m, (sa_nb m (by omega)).symm⟩
  · rw [if_neg h]
    by_cases h1 : (k - 1) % 3 = 0
    · rw [if_pos h1]
      exact ⟨_, rfl⟩
    · rw [if_neg h1]
      by_cases h2 : (k - 1) % 3 = 1
      · rw [if_pos h2]
        exact ⟨_, rfl⟩
      · rw [if_neg h2]
        exact ⟨_, rfl⟩
theorem sa_ct_tb (l r : Nat → Int32) {m : Nat} (hm : m ≤ 96) (k b : Nat) : sa_tb (sa_tb (sa_ct l r m k) b) b = sa_ct l r m k := by
  obtain ⟨z, e⟩ := sa_ct_b l r hm k
  rw [e, sa_tbb]
theorem sa_ct_c {l r l' r' : Nat → Int32} {m k : Nat} (hk : k < 1 + 3 * m) (hl : ∀ i, i < m → l' i = l i) (hr : ∀ i, i < m → r' i = r i) : sa_ct l' r' m k = sa_ct l r m k := by
  unfold sa_ct
  by_cases h : k = 0
  · rw [if_pos h, if_pos h]
  · rw [if_neg h, if_neg h, hl _ (by omega), hr _ (by omega)]
theorem sa_3 {m : Nat} {P : Nat → Prop} (h0 : P 0) (h : ∀ i, i < m → P (1 + 3 * i) ∧ P (1 + 3 * i + 1) ∧ P (1 + 3 * i + 2)) : ∀ k, k < 1 + 3 * m → P k := by
  intro k hk
  by_cases z : k = 0
  · rw [z]
    exact h0
  · have a := h ((k - 1) / 3) (by omega)
    rcases (by omega : (k - 1) % 3 = 0 ∨ (k - 1) % 3 = 1 ∨ (k - 1) % 3 = 2) with c | c | c
    · rw [show k = 1 + 3 * ((k - 1) / 3) from by omega]
      exact a.1
    · rw [show k = 1 + 3 * ((k - 1) / 3) + 1 from by omega]
      exact a.2.1
    · rw [show k = 1 + 3 * ((k - 1) / 3) + 2 from by omega]
      exact a.2.2
end
section
/-! a slot: what the component's arrays (P bytes, F filled, D damaged, T turned bit) hold against the reference's (N lengths, S samples, G states) -/
def sa_L (S : Nat → Int32) (j : Nat) : Nat → Int32 := fun i => S (192 * (j + 1) + i)
def sa_R (S : Nat → Int32) (j : Nat) : Nat → Int32 := fun i => S (192 * (j + 1) + 96 + i)
def sa_Good (S : Nat → Int32) (j m : Nat) : Prop := ∀ i, i < m → sa_sm (sa_L S j i) ∧ sa_sm (sa_R S j i)
def sa_Byt (P S : Nat → Int32) (j m : Nat) : Prop := ∀ k, k < 1 + 3 * m → P (289 * j + k) = sa_ct (sa_L S j) (sa_R S j) m k
def sa_Dmg (P S : Nat → Int32) (j m t : Nat) : Prop := ∀ k, k < 1 + 3 * m → P (289 * j + k) = if k = t / 8 then sa_tb (sa_ct (sa_L S j) (sa_R S j) m k) (t % 8) else sa_ct (sa_L S j) (sa_R S j) m k
def sa_Slot (P F D T N S G : Nat → Int32) (j : Nat) : Prop :=
  (F j = 0 ∧ G j = 0) ∨ ∃ m, m ≤ 96 ∧ F j = 1 ∧ N (j + 1) = nI m ∧ sa_Good S j m ∧
    ((D j = 0 ∧ G j = 1 ∧ sa_Byt P S j m) ∨ (D j = 1 ∧ G j = 2 ∧ ∃ t, t < 8 * (1 + 3 * m) ∧ T j = nI t ∧ sa_Dmg P S j m t))
theorem sa_Lc {S S' : Nat → Int32} {j : Nat} (h : ∀ k, k < 192 → S' (192 * (j + 1) + k) = S (192 * (j + 1) + k)) : ∀ i, i < 96 → sa_L S' j i = sa_L S j i :=
  fun i hi => h i (by omega)
theorem sa_Rc {S S' : Nat → Int32} {j : Nat} (h : ∀ k, k < 192 → S' (192 * (j + 1) + k) = S (192 * (j + 1) + k)) : ∀ i, i < 96 → sa_R S' j i = sa_R S j i := by
  intro i hi
  have a := h (96 + i) (by omega)
  rw [← Nat.add_assoc] at a
  exact a
theorem sa_Slot_c {P F D T N S G P' F' D' T' N' S' G' : Nat → Int32} {j : Nat} (h : sa_Slot P F D T N S G j)
    (hP : ∀ k, k < 289 → P' (289 * j + k) = P (289 * j + k)) (hF : F' j = F j) (hD : D' j = D j) (hT : T' j = T j) (hN : N' (j + 1) = N (j + 1))
    (hS : ∀ k, k < 192 → S' (192 * (j + 1) + k) = S (192 * (j + 1) + k)) (hG : G' j = G j) : sa_Slot P' F' D' T' N' S' G' j := by
  rcases h with ⟨h1, h2⟩ | ⟨m, hm, h1, h2, h3, h4⟩
  · exact Or.inl ⟨hF.trans h1, hG.trans h2⟩
  · have eL := sa_Lc hS
    have eR := sa_Rc hS
    have ec : ∀ k, k < 1 + 3 * m → sa_ct (sa_L S' j) (sa_R S' j) m k = sa_ct (sa_L S j) (sa_R S j) m k := fun k hk => sa_ct_c hk (fun i hi => eL i (by omega)) (fun i hi => eR i (by omega))
    refine Or.inr ⟨m, hm, hF.trans h1, hN.trans h2, fun i hi => ?_, ?_⟩
    · rw [eL i (by omega), eR i (by omega)]
      exact h3 i hi
    · rcases h4 with ⟨a, b, c⟩ | ⟨a, b, t, ht, c, d⟩
      · refine Or.inl ⟨hD.trans a, hG.trans b, fun k hk => ?_⟩
        rw [hP k (by omega), ec k hk]
        exact c k hk
      · refine Or.inr ⟨hD.trans a, hG.trans b, t, ht, hT.trans c, fun k hk => ?_⟩
        rw [hP k (by omega), ec k hk]
        exact d k hk
/-! the sound at hand -/
def sa_Hand (n : Nat) (A B S : Nat → Int32) : Prop := n ≤ 96 ∧ ∀ i, i < n → A i = S i ∧ B i = S (96 + i) ∧ sa_sm (S i) ∧ sa_sm (S (96 + i))
theorem sa_Hand_le {n k : Nat} {A B S : Nat → Int32} (h : sa_Hand n A B S) (hk : k ≤ n) : sa_Hand k A B S := ⟨Nat.le_trans hk h.1, fun i hi => h.2 i (by omega)⟩
/-! reading a good slot -/
theorem sa_rdL {P S : Nat → Int32} {j m i : Nat} (h : sa_Byt P S j m) (g : sa_Good S j m) (hi : i < m) : sa_uL (P (289 * j + (1 + 3 * i))) (P (289 * j + (1 + 3 * i + 1))) = S (192 * (j + 1) + i) := by
  rw [h _ (by omega), h _ (by omega), sa_ct_0, sa_ct_1]
  exact sa_unL (g i hi).1
theorem sa_rdR {P S : Nat → Int32} {j m i : Nat} (h : sa_Byt P S j m) (g : sa_Good S j m) (hi : i < m) : sa_uR (P (289 * j + (1 + 3 * i + 1))) (P (289 * j + (1 + 3 * i + 2))) = S (192 * (j + 1) + 96 + i) := by
  rw [h _ (by omega), h _ (by omega), sa_ct_1, sa_ct_2]
  exact sa_unR (g i hi).2
theorem sa_rdH {P S : Nat → Int32} {j m : Nat} (h : sa_Byt P S j m) : P (289 * j) = nI m := by
  have a := h 0 (by omega)
  rw [sa_ct_h] at a
  exact a
/-! a bit of a good slot turned, and turned back -/
theorem sa_dmg {P P' S : Nat → Int32} {j m t : Nat} (h : sa_Byt P S j m) (ht : t < 8 * (1 + 3 * m)) (hs : P' (289 * j + t / 8) = sa_tb (P (289 * j + t / 8)) (t % 8)) (hn : ∀ k, k ≠ 289 * j + t / 8 → P' k = P k) : sa_Dmg P' S j m t := by
  intro k hk
  by_cases c : k = t / 8
  · rw [if_pos c, c, hs, h _ (by omega)]
  · rw [if_neg c, hn _ (by omega)]
    exact h k hk
theorem sa_rep {P P' S : Nat → Int32} {j m t : Nat} (hm : m ≤ 96) (h : sa_Dmg P S j m t) (ht : t < 8 * (1 + 3 * m)) (hs : P' (289 * j + t / 8) = sa_tb (P (289 * j + t / 8)) (t % 8)) (hn : ∀ k, k ≠ 289 * j + t / 8 → P' k = P k) : sa_Byt P' S j m := by
  intro k hk
  by_cases c : k = t / 8
  · rw [c, hs, h _ (by omega), if_pos rfl, sa_ct_tb _ _ hm]
  · rw [hn _ (by omega), h k hk, if_neg c]
/-! the same bytes: the same sounds -/
theorem sa_sam {P S : Nat → Int32} {i j m : Nat} (hi : sa_Byt P S i m) (hj : sa_Byt P S j m) (gi : sa_Good S i m) (gj : sa_Good S j m) :
    (∀ k, k < 1 + 3 * m → P (289 * i + k) = P (289 * j + k)) ↔ (∀ q, q < m → S (192 * (i + 1) + q) = S (192 * (j + 1) + q) ∧ S (192 * (i + 1) + 96 + q) = S (192 * (j + 1) + 96 + q)) := by
  constructor
  · intro h q hq
    rw [← sa_rdL hi gi hq, ← sa_rdR hi gi hq, ← sa_rdL hj gj hq, ← sa_rdR hj gj hq, h _ (by omega), h _ (by omega), h _ (by omega)]
    exact ⟨rfl, rfl⟩
  · intro h k hk
    rw [hi k hk, hj k hk]
    exact sa_ct_c hk (fun q hq => (h q hq).1) (fun q hq => (h q hq).2)
end
section
/-! pure pictures of the loops -/
theorem sa_ue {f : Nat → Int32} {k j : Nat} {x : Int32} (h : j = k) : upd f k x j = x := if_pos h
def sa_dg (f g : Nat → Int32) : Nat → Int32
  | 0 => 0
  | p + 1 => sa_dg f g p + nI (p + 1) * (f p + 3 * g p)
theorem sa_dg_c {f g f' g' : Nat → Int32} : ∀ n, (∀ i, i < n → f' i = f i ∧ g' i = g i) → sa_dg f' g' n = sa_dg f g n := by
  intro n
  induction n with
  | zero => intro _; rfl
  | succ n ih =>
    intro h
    show sa_dg f' g' n + nI (n + 1) * (f' n + 3 * g' n) = sa_dg f g n + nI (n + 1) * (f n + 3 * g n)
    rw [ih (fun i hi => h i (by omega)), (h n (by omega)).1, (h n (by omega)).2]
def sa_ab (x : Int32) : Int32 := if x < 0 then -x else x
def sa_mx (f : Nat → Int32) : Nat → Int32
  | 0 => 0
  | p + 1 => if sa_mx f p < sa_ab (f p) then sa_ab (f p) else sa_mx f p
theorem sa_mx_c {f f' : Nat → Int32} : ∀ n, (∀ i, i < n → f' i = f i) → sa_mx f' n = sa_mx f n := by
  intro n
  induction n with
  | zero => intro _; rfl
  | succ n ih =>
    intro h
    show (if sa_mx f' n < sa_ab (f' n) then sa_ab (f' n) else sa_mx f' n) = (if sa_mx f n < sa_ab (f n) then sa_ab (f n) else sa_mx f n)
    rw [ih (fun i hi => h i (by omega)), h n (by omega)]
def sa_sd (a : Int32) : Nat → Int32
  | 0 => a
  | i + 1 => sa_sd a i * 1103515245 + 12345
/-! turning the order, in place, from both ends -/
def sa_rv (o n p : Nat) (S S' : Nat → Int32) : Prop := ∀ i, i < n → S' (o + i) = if i < p ∨ n - p ≤ i then S (o + (n - 1 - i)) else S (o + i)
theorem sa_rv_0 (o n : Nat) (S : Nat → Int32) : sa_rv o n 0 S S := by
  intro i hi
  rw [if_neg (by omega)]
theorem sa_rv_s {o n p : Nat} {S S' S'' : Nat → Int32} (hp : p < n / 2) (h : sa_rv o n p S S') (h1 : S'' (o + p) = S' (o + (n - 1 - p))) (h2 : S'' (o + (n - 1 - p)) = S' (o + p))
    (h3 : ∀ i, i < n → i ≠ p → i ≠ n - 1 - p → S'' (o + i) = S' (o + i)) : sa_rv o n (p + 1) S S'' := by
  intro i hi
  by_cases c : i = p
  · rw [c, h1, h _ (by omega), if_neg (by omega), if_pos (by omega)]
  · by_cases d : i = n - 1 - p
    · rw [d, h2, h _ (by omega), if_neg (by omega), if_pos (by omega), show n - 1 - (n - 1 - p) = p from by omega]
    · rw [h3 i hi c d, h i hi]
      by_cases e : i < p ∨ n - p ≤ i
      · rw [if_pos e, if_pos (by omega)]
      · rw [if_neg e, if_neg (by omega)]
theorem sa_rv_e {o n : Nat} {S S' : Nat → Int32} (h : sa_rv o n (n / 2) S S') : ∀ i, i < n → S' (o + i) = S (o + (n - 1 - i)) := by
  intro i hi
  rw [h i hi]
  by_cases e : i < n / 2 ∨ n - n / 2 ≤ i
  · rw [if_pos e]
  · rw [if_neg e, show n - 1 - i = i from by omega]
/-! places -/
theorem sa_cl {n : Nat} (h : n < 100000) : (nI n).toNatClampNeg = n := nI_clamp (by omega)
end
section
/-! cases of slots, channels, ranges; the small calls of both sides -/
theorem sa_up {g : Nat → Int32} {x : Int32} {k : Nat} {v w : Int32} (hk : x.toNatClampNeg = k) (hv : v = w) : upd g x.toNatClampNeg v = upd g k w := by rw [hk, hv]
def sa_bs (x : Int32) : Prop := x < 0 ∨ (4 : Int32) ≤ x
theorem sa_sl (x : Int32) : sa_bs x ∨ ∃ j : Nat, j < 4 ∧ x = nI j := by
  rcases pk_ix x (n := 4) (by decide) with h | h | h
  · exact Or.inl (Or.inl h)
  · exact Or.inl (Or.inr h)
  · exact Or.inr h
def sa_bc (x : Int32) : Prop := x < 0 ∨ (2 : Int32) ≤ x
theorem sa_cn (x : Int32) : sa_bc x ∨ x = 0 ∨ x = 1 := by
  rcases pk_ix x (n := 2) (by decide) with h | h | ⟨j, h, e⟩
  · exact Or.inl (Or.inl h)
  · exact Or.inl (Or.inr h)
  · rcases (by omega : j = 0 ∨ j = 1) with z | z
    · exact Or.inr (Or.inl (by rw [e, z]; rfl))
    · exact Or.inr (Or.inr (by rw [e, z]; rfl))
def sa_br (x y : Int32) (m : Nat) : Prop := x < 0 ∨ nI m < y ∨ y < x
theorem sa_rg (x y : Int32) {m : Nat} (hm : m < 2 ^ 31) : sa_br x y m ∨ ∃ a b : Nat, a ≤ b ∧ b ≤ m ∧ x = nI a ∧ y = nI b := by
  by_cases h1 : x < 0
  · exact Or.inl (Or.inl h1)
  · by_cases h2 : nI m < y
    · exact Or.inl (Or.inr (Or.inl h2))
    · by_cases h3 : y < x
      · exact Or.inl (Or.inr (Or.inr h3))
      · obtain ⟨a, ha, ea⟩ := nI_of h1
        have h4 : ¬ y < 0 := fun z => h3 (Int32.lt_of_lt_of_le z (Int32.not_lt.mp h1))
        obtain ⟨b, hb, eb⟩ := nI_of h4
        rw [ea, eb, nI_ltI hb ha] at h3
        rw [eb, nI_ltI hm hb] at h2
        exact Or.inr ⟨a, b, by omega, by omega, ea, eb⟩
section
variable {f : Int32} {A B P F D T N S G : Nat → Int32}
theorem xx_smp {post : Int32 → Prop} {x : Int32} (h1 : sa_sm x → post 1) (h0 : ¬ sa_sm x → post 0) : wpX_isSample post x :=
  br_c (fun c => h0 (fun z => absurd ((sa_smI x).mp z).1 (Int32.not_le.mpr c))) (fun c => br_c (fun d => h0 (fun z => absurd ((sa_smI x).mp z).2 (Int32.not_le.mpr d))) (fun d => h1 ((sa_smI x).mpr ⟨Int32.not_lt.mp c, Int32.not_lt.mp d⟩)))
theorem yy_smp {post : Int32 → Prop} {x : Int32} (h1 : sa_sm x → post 0) (h0 : ¬ sa_sm x → post 1) : wpY_badSample post (N, S, G) x :=
  br_c (fun c => h0 (fun z => absurd ((sa_smI x).mp z).1 (Int32.not_le.mpr c))) (fun c => br_c (fun d => h1 ((sa_smI x).mpr ⟨Int32.not_lt.mp c, d⟩)) (fun d => h0 (fun z => d ((sa_smI x).mp z).2)))
theorem xx_sl1 {post : Int32 → Prop} {j : Nat} (hj : j < 4) (h : post 1) : wpX_isSlot post (nI j) :=
  br_f (nI_pos (by omega)) (br_f (nI_ge (b := 4) hj (by decide)) h)
theorem xx_sl0 {post : Int32 → Prop} {x : Int32} (hb : sa_bs x) (h : post 0) : wpX_isSlot post x :=
  br_c (fun _ => h) (fun c => br_c (fun _ => h) (fun d => absurd hb (fun z => z.elim c d)))
theorem yy_sl1 {post : Int32 → Prop} {j : Nat} (hj : j < 4) (h : post 0) : wpY_badSlot post (N, S, G) (nI j) :=
  br_f (nI_pos (by omega)) (br_t (nI_le (b := 3) (by omega) (by decide)) h)
theorem yy_sl0 {post : Int32 → Prop} {x : Int32} (hb : sa_bs x) (h : post 1) : wpY_badSlot post (N, S, G) x :=
  br_c (fun _ => h) (fun c => br_c (fun d => absurd hb (fun z => z.elim c (fun e => absurd (Int32.le_trans e d) (by decide)))) (fun _ => h))
theorem xx_ch0 {post : Int32 → Prop} {x : Int32} (hb : sa_bc x) (h : post 0) : wpX_isChannel post x :=
  br_f (fun e => by subst e; revert hb; unfold sa_bc; decide) (br_f (fun e => by subst e; revert hb; unfold sa_bc; decide) h)
theorem xx_ch1 {post : Int32 → Prop} {x : Int32} (hb : x = 0 ∨ x = 1) (h : post 1) : wpX_isChannel post x :=
  br_c (fun _ => h) (fun c => br_c (fun _ => h) (fun d => absurd hb (fun z => z.elim c d)))
theorem yy_ch0 {post : Int32 → Prop} {x : Int32} (hb : sa_bc x) (h : post 1) : wpY_badChannel post (N, S, G) x :=
  br_c (fun _ => h) (fun c => br_c (fun d => absurd hb (fun z => z.elim c (fun e => absurd (Int32.le_trans e d) (by decide)))) (fun _ => h))
theorem yy_ch1 {post : Int32 → Prop} {x : Int32} (hb : x = 0 ∨ x = 1) (h : post 0) : wpY_badChannel post (N, S, G) x := by
  rcases hb with rfl | rfl
  · exact br_f (by decide) (br_t (by decide) h)
  · exact br_f (by decide) (br_t (by decide) h)
theorem xx_rg1 {post : Int32 → Prop} {a b m : Nat} (h1 : a ≤ b) (h2 : b ≤ m) (hm : m < 2 ^ 31) (h : post 1) : wpX_isRange post (nI a) (nI b) (nI m) :=
  br_f (nI_pos (by omega)) (br_f (nI_nlt h2 hm) (br_f (nI_nlt h1 (by omega)) h))
theorem xx_rg0 {post : Int32 → Prop} {x y : Int32} {m : Nat} (hb : sa_br x y m) (h : post 0) : wpX_isRange post x y (nI m) :=
  br_c (fun _ => h) (fun c => br_c (fun _ => h) (fun d => br_c (fun _ => h) (fun e => absurd hb (fun z => z.elim c (fun z => z.elim d e)))))
theorem yy_rg1 {post : Int32 → Prop} {a b m s : Nat} {x : Int32} (hx : x = nI s) (hs : s < 5) (hN : N s = nI m) (h1 : a ≤ b) (h2 : b ≤ m) (hm : m < 2 ^ 31) (h : post 0) : wpY_badSpan post (N, S, G) x (nI a) (nI b) := by
  subst hx
  refine br_f (nI_pos (by omega)) ⟨vp_in_nI hs (by decide), ?_⟩
  rw [sa_cl (by omega), hN]
  exact br_f (nI_nlt h2 hm) (br_t (nI_le h1 (by omega)) h)
theorem yy_rg0 {post : Int32 → Prop} {x y z : Int32} {m s : Nat} (hz : z = nI s) (hs : s < 5) (hN : N s = nI m) (hb : sa_br x y m) (h : post 1) : wpY_badSpan post (N, S, G) z x y := by
  subst hz
  refine br_c (fun _ => h) (fun c => ⟨vp_in_nI hs (by decide), ?_⟩)
  rw [sa_cl (by omega), hN]
  exact br_c (fun _ => h) (fun d => br_c (fun e => absurd hb (fun z => z.elim c (fun z => z.elim d (fun w => absurd e (Int32.not_le.mpr w))))) (fun _ => h))
theorem xx_addW {post : SX → Prop} {n : Nat} {x y : Int32} (hn : n < 96) (h : post (nI (n + 1), upd A n (sa_wr x), upd B n (sa_wr y), P, F, D, T)) : wpX_addWrapped post (nI n, A, B, P, F, D, T) x y :=
  ⟨vp_in_nI hn (by decide), nm_r (sa_up (sa_cl (by omega)) rfl) ⟨vp_in_nI hn (by decide), nm_r (sa_up (sa_cl (by omega)) rfl) (nm_r (nI_1 n) h)⟩⟩
theorem sa_96 (p : Nat) : (96 : Int32) + nI p = nI (96 + p) := nI_add 96 p
theorem yy_put {post : SY → Prop} {p : Nat} {x y : Int32} (hp : p < 96) (h : post (N, upd (upd S p x) (96 + p) y, G)) : wpY_put post (N, S, G) (nI p) x y := by
  refine ⟨vp_in_nI (by omega) (by decide), nm_r (sa_up (sa_cl (by omega)) rfl) ⟨?_, ?_⟩⟩
  · rw [sa_96]
    exact vp_in_nI (by omega) (by decide)
  · rw [sa_96]
    exact nm_r (sa_up (sa_cl (by omega)) rfl) h
theorem yy_wr {post : Int32 → Prop} {x : Int32} (h : post (sa_wr x)) : wpY_wrapped post (N, S, G) x := by
  show post (((x + 2048) &&& 4095) - 2048)
  rw [sa_wrY]
  exact h
theorem yy_nm1 {post : Int32 → Prop} {x : Int32} {s i m : Nat} (hx : x = nI s) (hs : s < 5) (hN : N s = nI m) (hi : i < m) (hm : m < 2 ^ 31) (h : post 0) : wpY_noMoment post (N, S, G) x (nI i) := by
  subst hx
  refine br_f (nI_pos (by omega)) ⟨vp_in_nI hs (by decide), ?_⟩
  rw [sa_cl (by omega), hN]
  exact br_t (nI_lt hi hm) h
theorem yy_nm0 {post : Int32 → Prop} {x y : Int32} {s m : Nat} (hx : x = nI s) (hs : s < 5) (hN : N s = nI m) (hb : y < 0 ∨ nI m ≤ y) (h : post 1) : wpY_noMoment post (N, S, G) x y := by
  subst hx
  refine br_c (fun _ => h) (fun c => ⟨vp_in_nI hs (by decide), ?_⟩)
  rw [sa_cl (by omega), hN]
  exact br_f (fun z => absurd hb (fun w => w.elim c (fun e => absurd z (Int32.not_lt.mpr e)))) h
/-! the state of a slot, asked -/
theorem xx_prB {post : Int32 → Prop} {x : Int32} (hb : sa_bs x) (h : post (-5001)) : wpX_problemOf post (f, A, B, P, F, D, T) x := by
  unfold wpX_problemOf
  dsimp only
  refine xx_sl0 hb ?_
  exact br_t rfl h
theorem xx_prE {post : Int32 → Prop} {j : Nat} (hj : j < 4) (hF : F j = 0) (h : post (-5002)) : wpX_problemOf post (f, A, B, P, F, D, T) (nI j) := by
  unfold wpX_problemOf
  dsimp only
  refine xx_sl1 hj ?_
  refine br_f (by decide) ⟨vp_in_nI hj (by decide), ?_⟩
  rw [sa_cl (by omega)]
  exact br_t hF h
theorem xx_prG {post : Int32 → Prop} {j : Nat} (hj : j < 4) (hF : F j = 1) (hD : D j = 0) (h : post 0) : wpX_problemOf post (f, A, B, P, F, D, T) (nI j) := by
  unfold wpX_problemOf
  dsimp only
  refine xx_sl1 hj ?_
  refine br_f (by decide) ⟨vp_in_nI hj (by decide), ?_⟩
  rw [sa_cl (by omega)]
  exact br_f (by rw [hF]; decide) ⟨vp_in_nI hj (by decide), br_t hD h⟩
theorem xx_prD {post : Int32 → Prop} {j : Nat} (hj : j < 4) (hF : F j = 1) (hD : D j = 1) (h : post (-5003)) : wpX_problemOf post (f, A, B, P, F, D, T) (nI j) := by
  unfold wpX_problemOf
  dsimp only
  refine xx_sl1 hj ?_
  refine br_f (by decide) ⟨vp_in_nI hj (by decide), ?_⟩
  rw [sa_cl (by omega)]
  exact br_f (by rw [hF]; decide) ⟨vp_in_nI hj (by decide), br_f (by rw [hD]; decide) h⟩
theorem yy_rfE {post : Int32 → Prop} {j : Nat} (hj : j < 4) (hG : G j = 0) (h : post (-5002)) : wpY_refused post (N, S, G) (nI j) := by
  refine ⟨vp_in_nI hj (by decide), ?_⟩
  rw [sa_cl (by omega)]
  exact br_t hG h
theorem yy_rfG {post : Int32 → Prop} {j : Nat} (hj : j < 4) (hG : G j = 1) (h : post 0) : wpY_refused post (N, S, G) (nI j) := by
  refine ⟨vp_in_nI hj (by decide), ?_⟩
  rw [sa_cl (by omega)]
  exact br_f (by rw [hG]; decide) ⟨vp_in_nI hj (by decide), br_f (by rw [hG]; decide) h⟩
theorem yy_rfD {post : Int32 → Prop} {j : Nat} (hj : j < 4) (hG : G j = 2) (h : post (-5003)) : wpY_refused post (N, S, G) (nI j) := by
  refine ⟨vp_in_nI hj (by decide), ?_⟩
  rw [sa_cl (by omega)]
  exact br_f (by rw [hG]; decide) ⟨vp_in_nI hj (by decide), br_t hG h⟩
def sa_Gd (P F D N S G : Nat → Int32) (j m : Nat) : Prop := m ≤ 96 ∧ F j = 1 ∧ D j = 0 ∧ G j = 1 ∧ N (j + 1) = nI m ∧ sa_Good S j m ∧ sa_Byt P S j m
theorem sa_one {j : Nat} (hj : j < 4) (h : sa_Slot P F D T N S G j) :
    (∃ e : Int32, ¬ e = 0 ∧ (∀ post : Int32 → Prop, post e → wpX_problemOf post (f, A, B, P, F, D, T) (nI j)) ∧ (∀ post : Int32 → Prop, post e → wpY_refused post (N, S, G) (nI j)))
    ∨ ∃ m, sa_Gd P F D N S G j m ∧ (∀ post : Int32 → Prop, post 0 → wpX_problemOf post (f, A, B, P, F, D, T) (nI j)) ∧ (∀ post : Int32 → Prop, post 0 → wpY_refused post (N, S, G) (nI j)) := by
  rcases h with ⟨h1, h2⟩ | ⟨m, hm, h1, h2, h3, ⟨a, b, c⟩ | ⟨a, b, c⟩⟩
  · exact Or.inl ⟨-5002, by decide, fun _ h => xx_prE hj h1 h, fun _ h => yy_rfE hj h2 h⟩
  · exact Or.inr ⟨m, ⟨hm, h1, a, b, h2, h3, c⟩, fun _ h => xx_prG hj h1 a h, fun _ h => yy_rfG hj b h⟩
  · exact Or.inl ⟨-5003, by decide, fun _ h => xx_prD hj h1 a h, fun _ h => yy_rfD hj b h⟩
end
end
section
/-! two slots asked; bytes read and written -/
section
variable {f : Int32} {A B P F D T N S G : Nat → Int32}
theorem sa_pairB {x y : Int32} (hb : sa_bs x ∨ sa_bs y) :
    (∀ post : Int32 → Prop, post (-5001) → wpX_problemOfPair post (f, A, B, P, F, D, T) x y) ∧ (∀ post : Int32 → Prop, post (-5001) → wpY_bothRefused post (N, S, G) x y) := by
  unfold wpX_problemOfPair wpY_bothRefused
  dsimp only
  rcases sa_sl x with hx | ⟨i, hi, rfl⟩
  · refine ⟨fun post h => ?_, fun post h => ?_⟩
    · refine xx_sl0 hx ?_
      exact br_t rfl h
    · refine yy_sl0 hx ?_
      exact br_f (by decide) h
  · rcases hb with hb | hb
    · refine ⟨fun post h => ?_, fun post h => ?_⟩
      · refine xx_sl0 hb ?_
        exact br_t rfl h
      · refine yy_sl0 hb ?_
        exact br_f (by decide) h
    · refine ⟨fun post h => ?_, fun post h => ?_⟩
      · refine xx_sl1 hi ?_
        refine br_f (by decide) ?_
        refine xx_sl0 hb ?_
        exact br_t rfl h
      · refine yy_sl1 hi ?_
        refine br_t rfl ?_
        refine yy_sl0 hb ?_
        exact br_f (by decide) h
theorem xx_pp {post : Int32 → Prop} {i j : Nat} (hi : i < 4) (hj : j < 4) (h : ((F i = 0 → post (-5002)) ∧ (¬ F i = 0 → ((F j = 0 → post (-5002)) ∧ (¬ F j = 0 → ((D i = 0 → ((D j = 0 → post 0) ∧ (¬ D j = 0 → post (-5003)))) ∧ (¬ D i = 0 → post (-5003)))))))) :
    wpX_problemOfPair post (f, A, B, P, F, D, T) (nI i) (nI j) := by
  unfold wpX_problemOfPair
  dsimp only
  refine xx_sl1 hi ?_
  refine br_f (by decide) ?_
  refine xx_sl1 hj ?_
  refine br_f (by decide) ⟨vp_in_nI hi (by decide), ?_⟩
  rw [sa_cl (n := i) (by omega), sa_cl (n := j) (by omega)]
  exact ⟨h.1, fun a => ⟨vp_in_nI hj (by decide), (h.2 a).1, fun b => ⟨vp_in_nI hi (by decide), fun c => ⟨vp_in_nI hj (by decide), ((h.2 a).2 b).1 c⟩, ((h.2 a).2 b).2⟩⟩⟩
theorem yy_pp {post : Int32 → Prop} {i j : Nat} (hi : i < 4) (hj : j < 4) (h : ((G i = 0 → post (-5002)) ∧ (¬ G i = 0 → ((G j = 0 → post (-5002)) ∧ (¬ G j = 0 → ((G i = 2 → post (-5003)) ∧ (¬ G i = 2 → ((G j = 2 → post (-5003)) ∧ (¬ G j = 2 → post 0))))))))) :
    wpY_bothRefused post (N, S, G) (nI i) (nI j) := by
  unfold wpY_bothRefused
  dsimp only
  refine yy_sl1 hi ?_
  refine br_t rfl ?_
  refine yy_sl1 hj ?_
  refine br_t rfl ⟨vp_in_nI hi (by decide), ?_⟩
  rw [sa_cl (n := i) (by omega), sa_cl (n := j) (by omega)]
  exact ⟨h.1, fun a => ⟨vp_in_nI hj (by decide), (h.2 a).1, fun b => ⟨vp_in_nI hi (by decide), ((h.2 a).2 b).1, fun c => ⟨vp_in_nI hj (by decide), ((h.2 a).2 b).2 c⟩⟩⟩⟩
theorem sa_01 : ¬ (1 : Int32) = 0 := by decide
theorem sa_20 : ¬ (2 : Int32) = 0 := by decide
theorem sa_12 : ¬ (1 : Int32) = 2 := by decide
theorem sa_two {i j : Nat} (hi : i < 4) (hj : j < 4) (a : sa_Slot P F D T N S G i) (b : sa_Slot P F D T N S G j) :
    (∃ e : Int32, ¬ e = 0 ∧ (∀ post : Int32 → Prop, post e → wpX_problemOfPair post (f, A, B, P, F, D, T) (nI i) (nI j)) ∧ (∀ post : Int32 → Prop, post e → wpY_bothRefused post (N, S, G) (nI i) (nI j)))
    ∨ ∃ m l, sa_Gd P F D N S G i m ∧ sa_Gd P F D N S G j l ∧ (∀ post : Int32 → Prop, post 0 → wpX_problemOfPair post (f, A, B, P, F, D, T) (nI i) (nI j)) ∧ (∀ post : Int32 → Prop, post 0 → wpY_bothRefused post (N, S, G) (nI i) (nI j)) := by
  rcases a with ⟨a1, a2⟩ | ⟨m, am, a1, a2, a3, a4⟩
  · exact Or.inl ⟨-5002, by decide, fun _ h => xx_pp hi hj (br_t a1 h), fun _ h => yy_pp hi hj (br_t a2 h)⟩
  · have f1 : ¬ F i = 0 := by rw [a1]; exact sa_01
    have g1 : ¬ G i = 0 := by
      rcases a4 with ⟨_, z, _⟩ | ⟨_, z, _⟩
      · rw [z]; exact sa_01
      · rw [z]; exact sa_20
    rcases b with ⟨b1, b2⟩ | ⟨l, bm, b1, b2, b3, b4⟩
    · exact Or.inl ⟨-5002, by decide, fun _ h => xx_pp hi hj (br_f f1 (br_t b1 h)), fun _ h => yy_pp hi hj (br_f g1 (br_t b2 h))⟩
    · have f2 : ¬ F j = 0 := by rw [b1]; exact sa_01
      have g2 : ¬ G j = 0 := by
        rcases b4 with ⟨_, z, _⟩ | ⟨_, z, _⟩
        · rw [z]; exact sa_01
        · rw [z]; exact sa_20
      rcases a4 with ⟨c1, c2, c3⟩ | ⟨c1, c2, c3⟩
      · have g3 : ¬ G i = 2 := by rw [c2]; exact sa_12
        rcases b4 with ⟨d1, d2, d3⟩ | ⟨d1, d2, d3⟩
        · have g4 : ¬ G j = 2 := by rw [d2]; exact sa_12
          exact Or.inr ⟨m, l, ⟨am, a1, c1, c2, a2, a3, c3⟩, ⟨bm, b1, d1, d2, b2, b3, d3⟩, fun _ h => xx_pp hi hj (br_f f1 (br_f f2 (br_t c1 (br_t d1 h)))), fun _ h => yy_pp hi hj (br_f g1 (br_f g2 (br_f g3 (br_f g4 h))))⟩
        · have e1 : ¬ D j = 0 := by rw [d1]; exact sa_01
          exact Or.inl ⟨-5003, by decide, fun _ h => xx_pp hi hj (br_f f1 (br_f f2 (br_t c1 (br_f e1 h)))), fun _ h => yy_pp hi hj (br_f g1 (br_f g2 (br_f g3 (br_t d2 h))))⟩
      · have e1 : ¬ D i = 0 := by rw [c1]; exact sa_01
        exact Or.inl ⟨-5003, by decide, fun _ h => xx_pp hi hj (br_f f1 (br_f f2 (br_f e1 h))), fun _ h => yy_pp hi hj (br_f g1 (br_f g2 (br_t c2 h)))⟩
theorem sa_pl (j i : Nat) : nI j * 289 + 1 + nI i * 3 = nI (289 * j + (1 + 3 * i)) := by
  show nI j * nI 289 + nI 1 + nI i * nI 3 = _
  rw [pk_mul, pk_mul, nI_add, nI_add]
  exact congrArg nI (by omega)
theorem sa_ps (j : Nat) : nI j * 289 = nI (289 * j) := by
  show nI j * nI 289 = _
  rw [pk_mul]
  exact congrArg nI (by omega)
theorem sa_p2 (k : Nat) : nI k + 2 = nI (k + 2) := nI_add k 2
theorem xx_mom {post : Int32 → Prop} {j m : Nat} (hj : j < 4) (hB : P (289 * j) = nI m) (h : post (nI m)) : wpX_momentsIn post (f, A, B, P, F, D, T) (nI j) := by
  refine ⟨?_, ?_⟩
  · rw [sa_ps]
    exact vp_in_nI (by omega) (by decide)
  · rw [sa_ps, sa_cl (by omega), hB]
    exact h
theorem xx_smi {post : SX → Prop} {j m : Nat} (hj : j < 4) (hm : m ≤ 96) (h : post (f, A, B, upd P (289 * j) (nI m), F, D, T)) : wpX_setMomentsIn post (f, A, B, P, F, D, T) (nI j) (nI m) := by
  refine ⟨?_, ?_⟩
  · rw [sa_ps]
    exact vp_in_nI (by omega) (by decide)
  · rw [sa_ps]
    exact nm_r (sa_up (sa_cl (by omega)) (by rw [pk_vb, sa_nb m (by omega)])) h
theorem xx_un0 {post : Int32 → Prop} {j m i : Nat} (hj : j < 4) (hm : m ≤ 96) (hi : i < m) (hB : sa_Byt P S j m) (hG : sa_Good S j m) (h : post (S (192 * (j + 1) + i))) : wpX_unpackedSample post (f, A, B, P, F, D, T) (nI j) 0 (nI i) := by
  have e := sa_pl j i
  have e1 : nI j * 289 + 1 + nI i * 3 + 1 = nI (289 * j + (1 + 3 * i + 1)) := by rw [e]; exact nI_1 _
  refine ⟨?_, fun x ex => br_t rfl ⟨?_, ?_⟩⟩
  · rw [e1]
    exact vp_in_nI (by omega) (by decide)
  · rw [e]
    exact vp_in_nI (by omega) (by decide)
  · show post (sa_uL (P (nI j * 289 + 1 + nI i * 3).toNatClampNeg) x)
    rw [ex, e1, e, sa_cl (by omega), sa_cl (by omega), sa_rdL hB hG hi]
    exact h
theorem xx_un1 {post : Int32 → Prop} {j m i : Nat} (hj : j < 4) (hm : m ≤ 96) (hi : i < m) (hB : sa_Byt P S j m) (hG : sa_Good S j m) (h : post (S (192 * (j + 1) + 96 + i))) : wpX_unpackedSample post (f, A, B, P, F, D, T) (nI j) 1 (nI i) := by
  have e := sa_pl j i
  have e1 : nI j * 289 + 1 + nI i * 3 + 1 = nI (289 * j + (1 + 3 * i + 1)) := by rw [e]; exact nI_1 _
  have e2 : nI j * 289 + 1 + nI i * 3 + 2 = nI (289 * j + (1 + 3 * i + 2)) := by rw [e]; exact sa_p2 _
  refine ⟨?_, fun x ex => br_f sa_01 ⟨?_, ?_⟩⟩
  · rw [e1]
    exact vp_in_nI (by omega) (by decide)
  · rw [e2]
    exact vp_in_nI (by omega) (by decide)
  · show post (sa_uR x (P (nI j * 289 + 1 + nI i * 3 + 2).toNatClampNeg))
    rw [ex, e1, e2, sa_cl (by omega), sa_cl (by omega), sa_rdR hB hG hi]
    exact h
theorem xx_pack {post : SX → Prop} {j i : Nat} {l r : Int32} (hj : j < 4) (hi : i < 96)
    (h : post (f, A, B, upd (upd (upd P (289 * j + (1 + 3 * i)) (sa_b0 l)) (289 * j + (1 + 3 * i + 1)) (sa_b1 l r)) (289 * j + (1 + 3 * i + 2)) (sa_b2 r), F, D, T)) : wpX_packMoment post (f, A, B, P, F, D, T) (nI j) (nI i) l r := by
  have e := sa_pl j i
  have e1 : nI j * 289 + 1 + nI i * 3 + 1 = nI (289 * j + (1 + 3 * i + 1)) := by rw [e]; exact nI_1 _
  have e2 : nI j * 289 + 1 + nI i * 3 + 2 = nI (289 * j + (1 + 3 * i + 2)) := by rw [e]; exact sa_p2 _
  refine ⟨?_, nm_r (sa_up (by rw [e, sa_cl (by omega)]) (pk_vb _)) ⟨?_, nm_r (sa_up (by rw [e1, sa_cl (by omega)]) (pk_vb _)) ⟨?_, nm_r (sa_up (by rw [e2, sa_cl (by omega)]) (pk_vb _)) h⟩⟩⟩
  · rw [e]
    exact vp_in_nI (by omega) (by decide)
  · rw [e1]
    exact vp_in_nI (by omega) (by decide)
  · rw [e2]
    exact vp_in_nI (by omega) (by decide)
theorem sa_d8 {t : Nat} (ht : t < 100000) : nI t / 8 = nI (t / 8) := pk_div (d := 8) (by omega) (by decide) (by decide)
theorem sa_r8 {t : Nat} (ht : t < 100000) : nI t - nI t / 8 * 8 = nI (t % 8) := pk_rem (d := 8) (by omega) (by decide) (by decide)
theorem xx_turn {post : SX → Prop} {j t : Nat} (hj : j < 4) (ht : t < 2312) (hT : T j = nI t) (h : post (f, A, B, upd P (289 * j + t / 8) (sa_tb (P (289 * j + t / 8)) (t % 8)), F, D, T)) : wpX_turnBit post (f, A, B, P, F, D, T) (nI j) := by
  have e : nI j * 289 + T (nI j).toNatClampNeg / 8 = nI (289 * j + t / 8) := by rw [sa_cl (by omega), hT, sa_d8 (by omega), sa_ps, nI_add]
  refine ⟨vp_in_nI hj (by decide), by decide, nm_r e ⟨vp_in_nI (by omega) (by decide), vp_in_nI hj (by decide), by decide, vp_in_nI (by omega) (by decide), nm_r (sa_up (sa_cl (by omega)) ?_) h⟩⟩
  rw [sa_cl (n := 289 * j + t / 8) (by omega), sa_cl (n := j) (by omega), hT, sa_r8 (by omega), pk_vb]
  rfl
theorem xx_byt {post : Int32 → Prop} {j m : Nat} (hj : j < 4) (hB : P (289 * j) = nI m) (h : post (nI (1 + 3 * m))) : wpX_bytesIn post (f, A, B, P, F, D, T) (nI j) := by
  unfold wpX_bytesIn
  dsimp only
  refine xx_mom hj hB ?_
  have e : (1 : Int32) + nI m * 3 = nI (1 + 3 * m) := by
    show nI 1 + nI m * nI 3 = _
    rw [pk_mul, nI_add]
    exact congrArg nI (by omega)
  show post (1 + nI m * 3)
  rw [e]
  exact h
theorem sa_nar1 : vp_nar .boolean 1 = 1 := by first | rfl | decide
theorem sa_nar0 : vp_nar .boolean 0 = 0 := by first | rfl | decide
end
end
section
/-! the relation, and the methods without loops -/
def sa_Rel (f : Int32) (A B P F D T N S G : Nat → Int32) : Prop := ∃ n, f = nI n ∧ N 0 = nI n ∧ sa_Hand n A B S ∧ ∀ j, j < 4 → sa_Slot P F D T N S G j
/-- the sound at hand agrees below its length; each slot's bytes are the packed form of the reference's sound, with one bit turned where it is damaged -/
def i_Rel (_ : Nat) (u : SX) (v : SY) : Prop := match u, v with
  | (f, A, B, P, F, D, T), (N, S, G) => sa_Rel f A B P F D T N S G
theorem i_up {k : Nat} {u : SX} {v : SY} (h : i_Rel k u v) : i_Rel (k + 5) u v := h
theorem i_vc0 : wpX_init (fun u => wpY_init (fun v => i_Rel 0 u v)) :=
  ⟨0, rfl, rfl, ⟨by omega, fun i hi => by omega⟩, fun j hj => Or.inl ⟨rfl, rfl⟩⟩
section
variable {f : Int32} {A B P F D T N S G : Nat → Int32}
theorem sa_hand {n : Nat} {A' B' N' S' : Nat → Int32} (hS : ∀ j, j < 4 → sa_Slot P F D T N S G j) (hN : N' 0 = nI n) (hN' : ∀ k, k ≠ 0 → N' k = N k) (hS' : ∀ k, 192 ≤ k → S' k = S k) (hH : sa_Hand n A' B' S') : sa_Rel (nI n) A' B' P F D T N' S' G :=
  ⟨n, rfl, hN, hH, fun j hj => sa_Slot_c (hS j hj) (fun _ _ => rfl) rfl rfl rfl (hN' _ (by omega)) (fun k hk => hS' _ (by omega)) rfl⟩
end
theorem i_vc_clear {k : Nat} {u : SX} {v : SY} (I : i_Rel k u v) (hk : k + 5 ≤ 2560) : wpX_clear (fun r u' => wpY_clear (fun r' v' => r' = r ∧ i_Rel (k + 5) u' v') v) u := by
  obtain ⟨f, A, B, P, F, D, T⟩ := u
  obtain ⟨N, S, G⟩ := v
  obtain ⟨n, rfl, hN, hH, hS⟩ := I
  exact nm_r hN (nm_e ⟨rfl, sa_hand (n := 0) hS pk_us (fun k hk => pk_un hk) (fun _ _ => rfl) ⟨by omega, fun i hi => by omega⟩⟩)
theorem i_vc_length {k : Nat} {u : SX} {v : SY} (I : i_Rel k u v) (hk : k + 5 ≤ 2560) : wpX_length (fun r => wpY_length (fun r' => r' = r ∧ i_Rel (k + 5) u v) v) u := by
  obtain ⟨f, A, B, P, F, D, T⟩ := u
  obtain ⟨N, S, G⟩ := v
  have J := I
  obtain ⟨n, rfl, hN, hH, hS⟩ := I
  exact ⟨hN, J⟩
theorem sa_Hand_app {n : Nat} {A B S : Nat → Int32} {x y : Int32} (hn : n < 96) (h : sa_Hand n A B S) (hx : sa_sm x) (hy : sa_sm y) : sa_Hand (n + 1) (upd A n x) (upd B n y) (upd (upd S n x) (96 + n) y) := by
  refine ⟨by omega, fun i hi => ?_⟩
  by_cases c : i = n
  · subst c
    rw [pk_us, pk_us, pk_un (by omega), pk_us, pk_us]
    exact ⟨rfl, rfl, hx, hy⟩
  · rw [pk_un c, pk_un c, pk_un (show i ≠ 96 + n by omega), pk_un c, pk_un (show 96 + i ≠ 96 + n by omega), pk_un (show 96 + i ≠ n by omega)]
    exact h.2 i (by omega)
theorem i_vc_append {k : Nat} {u : SX} {v : SY} (I : i_Rel k u v) (hk : k + 5 ≤ 2560) (v1 : Int32) (v2 : Int32) : wpX_append (fun r u' => wpY_append (fun r' v' => r' = r ∧ i_Rel (k + 5) u' v') v v1 v2) u v1 v2 := by
  obtain ⟨f, A, B, P, F, D, T⟩ := u
  obtain ⟨N, S, G⟩ := v
  have J := I
  obtain ⟨n, rfl, hN, hH, hS⟩ := I
  unfold wpX_append
  dsimp only
  refine xx_smp (fun h1 => ?_) (fun h1 => ?_)
  · refine br_f (by decide) ?_
    refine xx_smp (fun h2 => ?_) (fun h2 => ?_)
    · refine br_f (by decide) ?_
      by_cases c : n < 96
      · refine br_t (nI_lt (b := 96) c (by decide)) ?_
        refine xx_addW c ?_
        unfold wpY_append
        dsimp only
        refine yy_smp (fun _ => ?_) (fun z => absurd h1 z)
        refine br_t rfl ?_
        refine yy_smp (fun _ => ?_) (fun z => absurd h2 z)
        refine br_t rfl ?_
        rw [hN]
        refine br_f (fun z => ?_) ?_
        · have z' := (nI_eq (b := 96) (by omega) (by decide)).mp z
          omega
        · refine yy_put c ?_
          refine nm_e ?_
          have e : upd N 0 (N 0 + 1) 0 = nI (n + 1) := by rw [pk_us, hN, nI_1]
          refine ⟨e, sa_hand hS e (fun k hk => pk_un hk) (fun k hk => ?_) ?_⟩
          · dsimp only
            rw [pk_un (by omega), pk_un (by omega)]
          · rw [sa_wrS h1, sa_wrS h2]
            exact sa_Hand_app c hH h1 h2
      · have en : n = 96 := by have := hH.1; omega
        subst en
        refine br_f (by decide) ?_
        unfold wpY_append
        dsimp only
        refine yy_smp (fun _ => ?_) (fun z => absurd h1 z)
        refine br_t rfl ?_
        refine yy_smp (fun _ => ?_) (fun z => absurd h2 z)
        refine br_t rfl ?_
        exact br_t hN ⟨rfl, J⟩
    · refine br_t rfl ?_
      unfold wpY_append
      dsimp only
      refine yy_smp (fun _ => ?_) (fun z => absurd h1 z)
      refine br_t rfl ?_
      refine yy_smp (fun z => absurd z h2) (fun _ => ?_)
      exact br_f (by decide) ⟨rfl, J⟩
  · refine br_t rfl ?_
    unfold wpY_append
    dsimp only
    refine yy_smp (fun z => absurd z h1) (fun _ => ?_)
    exact br_f (by decide) ⟨rfl, J⟩
theorem i_vc_get {k : Nat} {u : SX} {v : SY} (I : i_Rel k u v) (hk : k + 5 ≤ 2560) (v1 : Int32) (v2 : Int32) : wpX_get (fun r => wpY_get (fun r' => r' = r ∧ i_Rel (k + 5) u v) v v1 v2) u v1 v2 := by
  obtain ⟨f, A, B, P, F, D, T⟩ := u
  obtain ⟨N, S, G⟩ := v
  have J := I
  obtain ⟨n, rfl, hN, hH, hS⟩ := I
  have hn := hH.1
  unfold wpX_get wpY_get
  dsimp only
  rcases sa_cn v1 with hc | hc
  · refine xx_ch0 hc ?_
    refine br_t rfl ?_
    refine yy_ch0 hc ?_
    exact br_f (by decide) ⟨rfl, J⟩
  · refine xx_ch1 hc ?_
    refine br_f (by decide) ?_
    rcases pk_ix v2 (n := n) (by omega) with h | h | ⟨i, hi, rfl⟩
    · refine br_t h ?_
      refine yy_ch1 hc ?_
      refine br_t rfl ?_
      refine yy_nm0 (s := 0) rfl (by omega) hN (Or.inl h) ?_
      exact br_f (by decide) ⟨rfl, J⟩
    · have h0 : ¬ v2 < 0 := fun z => absurd (Int32.lt_of_le_of_lt h z) (nI_pos (by omega))
      refine br_f h0 (br_f (Int32.not_lt.mpr h) ?_)
      refine yy_ch1 hc ?_
      refine br_t rfl ?_
      refine yy_nm0 (s := 0) rfl (by omega) hN (Or.inr h) ?_
      exact br_f (by decide) ⟨rfl, J⟩
    · refine br_f (nI_pos (by omega)) (br_t (nI_lt hi (by omega)) ?_)
      rcases hc with rfl | rfl
      · refine br_t rfl ⟨vp_in_nI (by omega) (by decide), ?_⟩
        refine yy_ch1 (Or.inl rfl) ?_
        refine br_t rfl ?_
        refine yy_nm1 (s := 0) rfl (by omega) hN hi (by omega) ?_
        refine br_t rfl ?_
        have e : (96 : Int32) * 0 + nI i = nI i := by
          show nI 0 + nI i = nI i
          rw [nI_add, Nat.zero_add]
        rw [e, sa_cl (by omega)]
        exact ⟨vp_in_nI (by omega) (by decide), (hH.2 i hi).1.symm, J⟩
      · refine br_f sa_01 ⟨vp_in_nI (by omega) (by decide), ?_⟩
        refine yy_ch1 (Or.inr rfl) ?_
        refine br_t rfl ?_
        refine yy_nm1 (s := 0) rfl (by omega) hN hi (by omega) ?_
        refine br_t rfl ?_
        have e : (96 : Int32) * 1 + nI i = nI (96 + i) := by
          show nI 96 + nI i = nI (96 + i)
          rw [nI_add]
        rw [e, sa_cl (by omega), sa_cl (by omega)]
        exact ⟨vp_in_nI (by omega) (by decide), (hH.2 i hi).2.1.symm, J⟩
theorem sa_Hand_set {n i : Nat} {A B S : Nat → Int32} {x y : Int32} (hi : i < n) (h : sa_Hand n A B S) (hx : sa_sm x) (hy : sa_sm y) : sa_Hand n (upd A i x) (upd B i y) (upd (upd S i x) (96 + i) y) := by
  have hn := h.1
  refine ⟨hn, fun q hq => ?_⟩
  by_cases c : q = i
  · subst c
    rw [pk_us, pk_us, pk_un (by omega), pk_us, pk_us]
    exact ⟨rfl, rfl, hx, hy⟩
  · rw [pk_un c, pk_un c, pk_un (show q ≠ 96 + i by omega), pk_un c, pk_un (show 96 + q ≠ 96 + i by omega), pk_un (show 96 + q ≠ i by omega)]
    exact h.2 q hq
theorem i_vc_set {k : Nat} {u : SX} {v : SY} (I : i_Rel k u v) (hk : k + 5 ≤ 2560) (v1 : Int32) (v2 : Int32) (v3 : Int32) : wpX_set (fun r u' => wpY_set (fun r' v' => r' = r ∧ i_Rel (k + 5) u' v') v v1 v2 v3) u v1 v2 v3 := by
  obtain ⟨f, A, B, P, F, D, T⟩ := u
  obtain ⟨N, S, G⟩ := v
  have J := I
  obtain ⟨n, rfl, hN, hH, hS⟩ := I
  have hn := hH.1
  unfold wpX_set wpY_set
  dsimp only
  rcases pk_ix v1 (n := n) (by omega) with h | h | ⟨i, hi, rfl⟩
  · refine br_t h ?_
    refine yy_nm0 (s := 0) rfl (by omega) hN (Or.inl h) ?_
    exact br_f (by decide) ⟨rfl, J⟩
  · have h0 : ¬ v1 < 0 := fun z => absurd (Int32.lt_of_le_of_lt h z) (nI_pos (by omega))
    refine br_f h0 (br_t h ?_)
    refine yy_nm0 (s := 0) rfl (by omega) hN (Or.inr h) ?_
    exact br_f (by decide) ⟨rfl, J⟩
  · refine br_f (nI_pos (by omega)) (br_f (nI_ge hi (by omega)) ?_)
    refine xx_smp (fun h1 => ?_) (fun h1 => ?_)
    · refine br_f (by decide) ?_
      refine xx_smp (fun h2 => ?_) (fun h2 => ?_)
      · refine br_f (by decide) ⟨vp_in_nI (by omega) (by decide), nm_r (sa_up (sa_cl (by omega)) rfl) ⟨vp_in_nI (by omega) (by decide), nm_r (sa_up (sa_cl (by omega)) rfl) ?_⟩⟩
        refine yy_nm1 (s := 0) rfl (by omega) hN hi (by omega) ?_
        refine br_t rfl ?_
        refine yy_smp (fun _ => ?_) (fun z => absurd h1 z)
        refine br_t rfl ?_
        refine yy_smp (fun _ => ?_) (fun z => absurd h2 z)
        refine br_t rfl ?_
        refine yy_put (by omega) ?_
        refine ⟨rfl, sa_hand hS hN (fun _ _ => rfl) (fun k hk => ?_) (sa_Hand_set hi hH h1 h2)⟩
        dsimp only
        rw [pk_un (by omega), pk_un (by omega)]
      · refine br_t rfl ?_
        refine yy_nm1 (s := 0) rfl (by omega) hN hi (by omega) ?_
        refine br_t rfl ?_
        refine yy_smp (fun _ => ?_) (fun z => absurd h1 z)
        refine br_t rfl ?_
        refine yy_smp (fun z => absurd z h2) (fun _ => ?_)
        exact br_f (by decide) ⟨rfl, J⟩
    · refine br_t rfl ?_
      refine yy_nm1 (s := 0) rfl (by omega) hN hi (by omega) ?_
      refine br_t rfl ?_
      refine yy_smp (fun z => absurd z h1) (fun _ => ?_)
      exact br_f (by decide) ⟨rfl, J⟩
end
section
/-! lengthOf, peek, drop, damage, repair -/
section
variable {f : Int32} {A B P F D T N S G : Nat → Int32}
theorem sa_slots {j : Nat} {P' F' D' T' N' S' G' : Nat → Int32} (hS : ∀ i, i < 4 → sa_Slot P F D T N S G i)
    (hP : ∀ k, (k < 289 * j ∨ 289 * j + 289 ≤ k) → P' k = P k) (hF : ∀ i, i ≠ j → F' i = F i) (hD : ∀ i, i ≠ j → D' i = D i) (hT : ∀ i, i ≠ j → T' i = T i)
    (hN : ∀ i, i ≠ j → N' (i + 1) = N (i + 1)) (hS' : ∀ k, 192 ≤ k → (k < 192 * (j + 1) ∨ 192 * (j + 1) + 192 ≤ k) → S' k = S k) (hG : ∀ i, i ≠ j → G' i = G i)
    (new : sa_Slot P' F' D' T' N' S' G' j) : ∀ i, i < 4 → sa_Slot P' F' D' T' N' S' G' i := by
  intro i hi
  by_cases c : i = j
  · rw [c]
    exact new
  · exact sa_Slot_c (hS i hi) (fun k hk => hP _ (by omega)) (hF i c) (hD i c) (hT i c) (hN i c) (fun k hk => hS' _ (by omega) (by omega)) (hG i c)
end
theorem i_vc_lengthOf {k : Nat} {u : SX} {v : SY} (I : i_Rel k u v) (hk : k + 5 ≤ 2560) (v1 : Int32) : wpX_lengthOf (fun r => wpY_lengthOf (fun r' => r' = r ∧ i_Rel (k + 5) u v) v v1) u v1 := by
  obtain ⟨f, A, B, P, F, D, T⟩ := u
  obtain ⟨N, S, G⟩ := v
  have J := I
  obtain ⟨n, rfl, hN, hH, hS⟩ := I
  unfold wpX_lengthOf wpY_lengthOf
  dsimp only
  rcases sa_sl v1 with hb | ⟨j, hj, rfl⟩
  · refine xx_prB hb ?_
    refine br_f (by decide) ?_
    refine yy_sl0 hb ?_
    exact br_f (by decide) ⟨rfl, J⟩
  · rcases sa_one (f := nI n) (A := A) (B := B) hj (hS j hj) with ⟨e, he, hx, hy⟩ | ⟨m, ⟨hm, hF, hD, hG, hL, hO, hB⟩, hx, hy⟩
    · refine hx _ ?_
      refine br_f he ?_
      refine yy_sl1 hj ?_
      refine br_t rfl ?_
      refine hy _ ?_
      refine br_f he ?_
      refine hy _ ?_
      exact ⟨rfl, J⟩
    · refine hx _ ?_
      refine br_t rfl ?_
      refine xx_mom hj (sa_rdH hB) ?_
      refine yy_sl1 hj ?_
      refine br_t rfl ?_
      refine hy _ ?_
      refine br_t rfl ?_
      rw [nI_1 j, sa_cl (by omega)]
      exact ⟨vp_in_nI (by omega) (by decide), hL, J⟩
theorem sa_i0 (j i : Nat) : (192 : Int32) * (nI j + 1) + 96 * 0 + nI i = nI (192 * (j + 1) + i) := by
  show nI 192 * (nI j + nI 1) + nI 0 + nI i = _
  rw [nI_add, pk_mul, nI_add, nI_add]
  exact congrArg nI (by omega)
theorem sa_i1 (j i : Nat) : (192 : Int32) * (nI j + 1) + 96 * 1 + nI i = nI (192 * (j + 1) + 96 + i) := by
  show nI 192 * (nI j + nI 1) + nI 96 + nI i = _
  rw [nI_add, pk_mul, nI_add, nI_add]
theorem i_vc_peek {k : Nat} {u : SX} {v : SY} (I : i_Rel k u v) (hk : k + 5 ≤ 2560) (v1 : Int32) (v2 : Int32) (v3 : Int32) : wpX_peek (fun r => wpY_peek (fun r' => r' = r ∧ i_Rel (k + 5) u v) v v1 v2 v3) u v1 v2 v3 := by
  obtain ⟨f, A, B, P, F, D, T⟩ := u
  obtain ⟨N, S, G⟩ := v
  have J := I
  obtain ⟨n, rfl, hN, hH, hS⟩ := I
  unfold wpX_peek wpY_peek
  dsimp only
  rcases sa_cn v2 with hc | hc
  · refine xx_ch0 hc ?_
    refine br_t rfl ?_
    rcases sa_sl v1 with hb | ⟨j, hj, rfl⟩
    · refine yy_sl0 hb ?_
      exact br_f (by decide) ⟨rfl, J⟩
    · refine yy_sl1 hj ?_
      refine br_t rfl ?_
      refine yy_ch0 hc ?_
      exact br_f (by decide) ⟨rfl, J⟩
  · refine xx_ch1 hc ?_
    refine br_f (by decide) ?_
    rcases sa_sl v1 with hb | ⟨j, hj, rfl⟩
    · refine xx_prB hb ?_
      refine br_f (by decide) ?_
      refine yy_sl0 hb ?_
      exact br_f (by decide) ⟨rfl, J⟩
    · rcases sa_one (f := nI n) (A := A) (B := B) hj (hS j hj) with ⟨e, he, hx, hy⟩ | ⟨m, ⟨hm, hF, hD, hG, hL, hO, hB⟩, hx, hy⟩
      · refine hx _ ?_
        refine br_f he ?_
        refine yy_sl1 hj ?_
        refine br_t rfl ?_
        refine yy_ch1 hc ?_
        refine br_t rfl ?_
        refine hy _ ?_
        refine br_f he ?_
        refine hy _ ?_
        exact ⟨rfl, J⟩
      · refine hx _ ?_
        refine br_t rfl ?_
        rcases pk_ix v3 (n := m) (by omega) with h | h | ⟨i, hi, rfl⟩
        · refine br_t h ?_
          refine yy_sl1 hj ?_
          refine br_t rfl ?_
          refine yy_ch1 hc ?_
          refine br_t rfl ?_
          refine hy _ ?_
          refine br_t rfl ?_
          refine yy_nm0 (nI_1 j) (by omega) hL (Or.inl h) ?_
          exact br_f (by decide) ⟨rfl, J⟩
        · have h0 : ¬ v3 < 0 := fun z => absurd (Int32.lt_of_le_of_lt h z) (nI_pos (by omega))
          refine br_f h0 ?_
          refine xx_mom hj (sa_rdH hB) ?_
          refine br_f (Int32.not_lt.mpr h) ?_
          refine yy_sl1 hj ?_
          refine br_t rfl ?_
          refine yy_ch1 hc ?_
          refine br_t rfl ?_
          refine hy _ ?_
          refine br_t rfl ?_
          refine yy_nm0 (nI_1 j) (by omega) hL (Or.inr h) ?_
          exact br_f (by decide) ⟨rfl, J⟩
        · refine br_f (nI_pos (by omega)) ?_
          refine xx_mom hj (sa_rdH hB) ?_
          refine br_t (nI_lt hi (by omega)) ?_
          rcases hc with rfl | rfl
          · refine xx_un0 hj hm hi hB hO ?_
            refine yy_sl1 hj ?_
            refine br_t rfl ?_
            refine yy_ch1 (Or.inl rfl) ?_
            refine br_t rfl ?_
            refine hy _ ?_
            refine br_t rfl ?_
            refine yy_nm1 (nI_1 j) (by omega) hL hi (by omega) ?_
            refine br_t rfl ?_
            rw [sa_i0, sa_cl (by omega)]
            exact ⟨vp_in_nI (by omega) (by decide), rfl, J⟩
          · refine xx_un1 hj hm hi hB hO ?_
            refine yy_sl1 hj ?_
            refine br_t rfl ?_
            refine yy_ch1 (Or.inr rfl) ?_
            refine br_t rfl ?_
            refine hy _ ?_
            refine br_t rfl ?_
            refine yy_nm1 (nI_1 j) (by omega) hL hi (by omega) ?_
            refine br_t rfl ?_
            rw [sa_i1, sa_cl (by omega)]
            exact ⟨vp_in_nI (by omega) (by decide), rfl, J⟩
theorem i_vc_drop {k : Nat} {u : SX} {v : SY} (I : i_Rel k u v) (hk : k + 5 ≤ 2560) (v1 : Int32) : wpX_drop (fun r u' => wpY_drop (fun r' v' => r' = r ∧ i_Rel (k + 5) u' v') v v1) u v1 := by
  obtain ⟨f, A, B, P, F, D, T⟩ := u
  obtain ⟨N, S, G⟩ := v
  have J := I
  obtain ⟨n, rfl, hN, hH, hS⟩ := I
  unfold wpX_drop wpY_drop
  dsimp only
  rcases sa_sl v1 with hb | ⟨j, hj, rfl⟩
  · refine xx_sl0 hb ?_
    refine br_t rfl ?_
    refine yy_sl0 hb ?_
    exact br_f (by decide) ⟨rfl, J⟩
  · have i4 : vp_in (nI j) 4 := vp_in_nI hj (by decide)
    have cj : (nI j).toNatClampNeg = j := sa_cl (by omega)
    have fin : sa_Rel (nI n) A B P (upd F j 0) (upd D j 0) T N S (upd G j 0) :=
      ⟨n, rfl, hN, hH, sa_slots (j := j) hS (fun _ _ => rfl) (fun i hi => pk_un hi) (fun i hi => pk_un hi) (fun _ _ => rfl) (fun _ _ => rfl) (fun _ _ _ => rfl) (fun i hi => pk_un hi) (Or.inl ⟨pk_us, pk_us⟩)⟩
    refine xx_sl1 hj ?_
    refine br_f (by decide) ⟨i4, ?_⟩
    rw [cj]
    rcases hS j hj with ⟨h1, h2⟩ | ⟨m, hm, h1, h2, h3, ⟨a, b, c⟩ | ⟨a, b, c⟩⟩
    · refine br_t h1 ?_
      refine yy_sl1 hj ?_
      refine br_t rfl ⟨i4, ?_⟩
      exact br_t h2 ⟨rfl, J⟩
    · refine br_f (by rw [h1]; decide) ⟨i4, br_t a ⟨i4, nm_r (sa_up cj sa_nar0) ⟨i4, nm_r (sa_up cj sa_nar0) ?_⟩⟩⟩
      refine yy_sl1 hj ?_
      refine br_t rfl ⟨i4, ?_⟩
      exact br_f (by rw [b]; decide) ⟨i4, br_f (by rw [b]; decide) ⟨i4, nm_r (sa_up cj rfl) ⟨rfl, fin⟩⟩⟩
    · refine br_f (by rw [h1]; decide) ⟨i4, br_f (by rw [a]; decide) ⟨i4, nm_r (sa_up cj sa_nar0) ⟨i4, nm_r (sa_up cj sa_nar0) ?_⟩⟩⟩
      refine yy_sl1 hj ?_
      refine br_t rfl ⟨i4, ?_⟩
      exact br_f (by rw [b]; decide) ⟨i4, br_t b ⟨i4, nm_r (sa_up cj rfl) ⟨rfl, fin⟩⟩⟩
theorem i_vc_damage {k : Nat} {u : SX} {v : SY} (I : i_Rel k u v) (hk : k + 5 ≤ 2560) (v1 : Int32) (v2 : Int32) : wpX_damage (fun r u' => wpY_damage (fun r' v' => r' = r ∧ i_Rel (k + 5) u' v') v v1 v2) u v1 v2 := by
  obtain ⟨f, A, B, P, F, D, T⟩ := u
  obtain ⟨N, S, G⟩ := v
  have J := I
  obtain ⟨n, rfl, hN, hH, hS⟩ := I
  unfold wpX_damage wpY_damage
  dsimp only
  rcases sa_sl v1 with hb | ⟨j, hj, rfl⟩
  · refine xx_sl0 hb ?_
    refine br_t rfl ?_
    refine yy_sl0 hb ?_
    exact br_f (by decide) ⟨rfl, J⟩
  · have i4 : vp_in (nI j) 4 := vp_in_nI hj (by decide)
    have cj : (nI j).toNatClampNeg = j := sa_cl (by omega)
    refine xx_sl1 hj ?_
    refine br_f (by decide) ⟨i4, ?_⟩
    rw [cj]
    rcases hS j hj with ⟨h1, h2⟩ | ⟨m, hm, h1, h2, h3, ⟨a, b, c⟩ | ⟨a, b, c⟩⟩
    · refine br_t h1 ?_
      refine yy_sl1 hj ?_
      refine br_t rfl ⟨i4, ?_⟩
      exact br_t h2 ⟨rfl, J⟩
    · refine br_f (by rw [h1]; decide) ⟨i4, br_t a ?_⟩
      refine xx_byt hj (sa_rdH c) ?_
      have hq : v2.toBitVec.toNat % 2 ^ 31 < 2147483648 := by omega
      have e8 : nI (1 + 3 * m) * 8 = nI (8 * (1 + 3 * m)) := by
        show nI (1 + 3 * m) * nI 8 = _
        rw [pk_mul]
        exact congrArg nI (by omega)
      have hd : v2.toBitVec.toNat % 2 ^ 31 % (8 * (1 + 3 * m)) < 8 * (1 + 3 * m) := Nat.mod_lt _ (by omega)
      have et : (v2 &&& 2147483647) - (v2 &&& 2147483647) / nI (8 * (1 + 3 * m)) * nI (8 * (1 + 3 * m)) = nI (v2.toBitVec.toNat % 2 ^ 31 % (8 * (1 + 3 * m))) := by
        rw [pk_and v2 31 (by decide)]
        exact pk_rem hq (by omega) (by omega)
      generalize v2.toBitVec.toNat % 2 ^ 31 % (8 * (1 + 3 * m)) = t at hd et
      refine nm_r e8 ⟨nI_ne0 (by omega) (by omega), i4, nm_r (congrArg (upd T j) et) ?_⟩
      refine xx_turn (t := t) hj (by omega) pk_us ?_
      refine ⟨i4, nm_r (congrArg (upd D j) sa_nar1) ?_⟩
      refine yy_sl1 hj ?_
      refine br_t rfl ⟨i4, ?_⟩
      refine br_f (by rw [b]; decide) ⟨i4, br_f (by rw [b]; decide) ⟨i4, nm_e ⟨rfl, ?_⟩⟩⟩
      refine ⟨n, rfl, hN, hH, sa_slots (j := j) hS (fun k hk => pk_un (by omega)) (fun _ _ => rfl) (fun i hi => pk_un hi) (fun i hi => pk_un hi) (fun _ _ => rfl) (fun _ _ _ => rfl) (fun i hi => pk_un hi) ?_⟩
      exact Or.inr ⟨m, hm, h1, h2, h3, Or.inr ⟨pk_us, pk_us, t, hd, pk_us, sa_dmg c hd pk_us (fun k hk => pk_un hk)⟩⟩
    · refine br_f (by rw [h1]; decide) ⟨i4, br_f (by rw [a]; decide) ?_⟩
      refine yy_sl1 hj ?_
      refine br_t rfl ⟨i4, ?_⟩
      exact br_f (by rw [b]; decide) ⟨i4, br_t b ⟨rfl, J⟩⟩
theorem i_vc_repair {k : Nat} {u : SX} {v : SY} (I : i_Rel k u v) (hk : k + 5 ≤ 2560) (v1 : Int32) : wpX_repair (fun r u' => wpY_repair (fun r' v' => r' = r ∧ i_Rel (k + 5) u' v') v v1) u v1 := by
  obtain ⟨f, A, B, P, F, D, T⟩ := u
  obtain ⟨N, S, G⟩ := v
  have J := I
  obtain ⟨n, rfl, hN, hH, hS⟩ := I
  unfold wpX_repair wpY_repair
  dsimp only
  rcases sa_sl v1 with hb | ⟨j, hj, rfl⟩
  · refine xx_sl0 hb ?_
    refine br_t rfl ?_
    refine yy_sl0 hb ?_
    exact br_f (by decide) ⟨rfl, J⟩
  · have i4 : vp_in (nI j) 4 := vp_in_nI hj (by decide)
    have cj : (nI j).toNatClampNeg = j := sa_cl (by omega)
    refine xx_sl1 hj ?_
    refine br_f (by decide) ⟨i4, ?_⟩
    rw [cj]
    rcases hS j hj with ⟨h1, h2⟩ | ⟨m, hm, h1, h2, h3, ⟨a, b, c⟩ | ⟨a, b, t, ht, c, d⟩⟩
    · refine br_t h1 ?_
      refine yy_sl1 hj ?_
      refine br_t rfl ⟨i4, ?_⟩
      rw [h2]
      exact br_f (by decide) ⟨rfl, J⟩
    · refine br_f (by rw [h1]; decide) ⟨i4, br_t a ?_⟩
      refine yy_sl1 hj ?_
      refine br_t rfl ⟨i4, ?_⟩
      rw [b]
      exact br_f (by decide) ⟨rfl, J⟩
    · refine br_f (by rw [h1]; decide) ⟨i4, br_f (by rw [a]; decide) ?_⟩
      refine xx_turn (t := t) hj (by omega) c ?_
      refine ⟨i4, nm_r (congrArg (upd D j) sa_nar0) ?_⟩
      refine yy_sl1 hj ?_
      refine br_t rfl ⟨i4, ?_⟩
      rw [b]
      refine br_t (by decide) ⟨i4, nm_e ⟨rfl, ?_⟩⟩
      refine ⟨n, rfl, hN, hH, sa_slots (j := j) hS (fun k hk => pk_un (by omega)) (fun _ _ => rfl) (fun i hi => pk_un hi) (fun _ _ => rfl) (fun _ _ => rfl) (fun _ _ _ => rfl) (fun i hi => pk_un hi) ?_⟩
      exact Or.inr ⟨m, hm, h1, h2, h3, Or.inl ⟨pk_us, pk_us, sa_rep hm d ht pk_us (fun k hk => pk_un hk)⟩⟩
end
section
/-! digest, peak, same: loops that only read -/
section
variable {f : Int32} {A B P F D T N S G : Nat → Int32}
theorem xx_dig {post : Int32 → Prop} {n : Nat} (hn : n ≤ 96) (h : post (sa_dg A B n)) : ∀ d i, i + d = n → wX_digest_4 post (nI n) A B P F D T (d + 1) (sa_dg A B i) (nI i) := by
  intro d
  induction d with
  | zero =>
    intro i hi
    obtain rfl : i = n := by omega
    exact br_t (nI_le (by omega) (by omega)) h
  | succ d ih =>
    intro i hi
    refine br_f (nI_ge (by omega) (by omega)) ⟨vp_in_nI (by omega) (by decide), vp_in_nI (by omega) (by decide), nm_r ?_ (nm_r (nI_1 i) (ih (i + 1) (by omega)))⟩
    rw [nI_1 i, sa_cl (by omega)]
    rfl
theorem yy_dig {post : Int32 → Prop} {n : Nat} (hn : n ≤ 96) (hN : N 0 = nI n) (h : post (sa_dg S (fun i => S (96 + i)) n)) : ∀ d i, i + d = n → wY_digest_4 post N S G (d + 1) (sa_dg S (fun i => S (96 + i)) i) (nI i) := by
  intro d
  induction d with
  | zero =>
    intro i hi
    obtain rfl : i = n := by omega
    exact br_t (by rw [hN]; exact nI_le (by omega) (by omega)) h
  | succ d ih =>
    intro i hi
    refine br_f (by rw [hN]; exact nI_ge (by omega) (by omega)) ⟨vp_in_nI (by omega) (by decide), ?_, nm_r ?_ (nm_r (nI_1 i) (ih (i + 1) (by omega)))⟩
    · rw [sa_96]
      exact vp_in_nI (by omega) (by decide)
    · rw [nI_1 i, sa_96, sa_cl (by omega), sa_cl (by omega)]
      rfl
theorem sa_ab0 {x : Int32} (h : 0 ≤ x) : sa_ab x = x := if_neg (Int32.not_lt.mpr h)
theorem sa_ab1 {x : Int32} (h : ¬ 0 ≤ x) : sa_ab x = -x := if_pos (Int32.not_le.mp h)
theorem sa_mx0 {V : Nat → Int32} {i : Nat} (h : sa_ab (V i) ≤ sa_mx V i) : sa_mx V (i + 1) = sa_mx V i := if_neg (Int32.not_lt.mpr h)
theorem sa_mx1 {V : Nat → Int32} {i : Nat} (h : ¬ sa_ab (V i) ≤ sa_mx V i) : sa_mx V (i + 1) = sa_ab (V i) := if_pos (Int32.not_le.mp h)
theorem xx_peak {post : Int32 → Prop} {x1 x2 : Int32} {m : Nat} {V : Nat → Int32} (hm : m ≤ 96)
    (hu : ∀ i, i < m → ∀ q : Int32 → Prop, q (V i) → wpX_unpackedSample q (f, A, B, P, F, D, T) x1 x2 (nI i)) (h : post (sa_mx V m)) :
    ∀ d i, i + d = m → wX_peak_36 post x1 x2 (nI m) f A B P F D T (d + 1) (sa_mx V i) (nI i) := by
  intro d
  induction d with
  | zero =>
    intro i hi
    obtain rfl : i = m := by omega
    exact br_t (nI_le (by omega) (by omega)) h
  | succ d ih =>
    intro i hi
    refine br_f (nI_ge (by omega) (by omega)) ?_
    refine hu i (by omega) _ ?_
    have nx := ih (i + 1) (by omega)
    have key : ∀ z, z = sa_ab (V i) → wX_peak_66 post (wX_peak_36 post x1 x2 (nI m) f A B P F D T (d + 1)) x1 x2 (nI m) (sa_mx V i) (nI i) z f A B P F D T := by
      intro z ez
      subst ez
      refine br_c (fun c => nm_r (nI_1 i) ?_) (fun c => nm_r (nI_1 i) ?_)
      · rw [sa_mx0 c] at nx
        exact nx
      · rw [sa_mx1 c] at nx
        exact nx
    exact br_c (fun c => key _ (sa_ab0 c).symm) (fun c => key _ (sa_ab1 c).symm)
theorem yy_peak {post : Int32 → Prop} {x2 : Int32} {j m : Nat} {V : Nat → Int32} {o : Nat → Nat} (hj : j < 4) (hm : m ≤ 96) (hN : N (j + 1) = nI m)
    (hu : ∀ i, i < m → (192 : Int32) * (nI j + 1) + 96 * x2 + nI i = nI (o i) ∧ o i < 960 ∧ S (o i) = V i) (h : post (sa_mx V m)) :
    ∀ d i, i + d = m → wY_peak_39 post (nI j) x2 N S G (d + 1) (sa_mx V i) (nI i) := by
  have i5 : vp_in (nI j + 1) 5 := by
    rw [nI_1 j]
    exact vp_in_nI (by omega) (by decide)
  have eN : N (nI j + 1).toNatClampNeg = nI m := by rw [nI_1 j, sa_cl (by omega), hN]
  intro d
  induction d with
  | zero =>
    intro i hi
    obtain rfl : i = m := by omega
    exact ⟨i5, br_t (by rw [eN]; exact nI_le (by omega) (by omega)) h⟩
  | succ d ih =>
    intro i hi
    obtain ⟨e1, e2, e3⟩ := hu i (by omega)
    have nx := ih (i + 1) (by omega)
    have key : ∀ z, z = sa_ab (V i) → wY_peak_87 post (wY_peak_39 post (nI j) x2 N S G (d + 1)) (nI j) x2 (sa_mx V i) (nI i) z N S G := by
      intro z ez
      subst ez
      refine br_c (fun c => nm_r (nI_1 i) ?_) (fun c => nm_r (nI_1 i) ?_)
      · rw [sa_mx0 c] at nx
        exact nx
      · rw [sa_mx1 c] at nx
        exact nx
    refine ⟨i5, br_f (by rw [eN]; exact nI_ge (by omega) (by omega)) ⟨?_, nm_r ?_ (br_c (fun c => key _ (sa_ab0 c).symm) (fun c => key _ (sa_ab1 c).symm))⟩⟩
    · rw [e1]
      exact vp_in_nI e2 (by decide)
    · rw [e1, sa_cl (by omega)]
      exact e3
theorem xx_same {post : Int32 → Prop} {K a b : Nat} (ha : a + K ≤ 1156) (hb : b + K ≤ 1156) (h1 : (∀ k, k < K → P (a + k) = P (b + k)) → post 1) (h0 : ¬ (∀ k, k < K → P (a + k) = P (b + k)) → post 0) :
    ∀ d i, i + d = K → (∀ k, k < i → P (a + k) = P (b + k)) → wX_same_37 post (nI K) (nI a) (nI b) f A B P F D T (d + 1) (nI i) := by
  intro d
  induction d with
  | zero =>
    intro i hi hp
    obtain rfl : i = K := by omega
    exact br_t (nI_le (by omega) (by omega)) (h1 hp)
  | succ d ih =>
    intro i hi hp
    refine br_f (nI_ge (by omega) (by omega)) ?_
    rw [nI_add, nI_add, sa_cl (by omega), sa_cl (by omega)]
    refine ⟨vp_in_nI (by omega) (by decide), vp_in_nI (by omega) (by decide), br_c (fun c => nm_r (nI_1 i) (ih (i + 1) (by omega) (fun k hk => ?_))) (fun c => h0 (fun z => c (z i (by omega))))⟩
    by_cases e : k = i
    · rw [e]
      exact c
    · exact hp k (by omega)
theorem yy_same {post : Int32 → Prop} {i j m : Nat} (hi : i < 4) (hj : j < 4) (hm : m ≤ 96) (hN : N (i + 1) = nI m)
    (h1 : (∀ q, q < m → S (192 * (i + 1) + q) = S (192 * (j + 1) + q) ∧ S (192 * (i + 1) + 96 + q) = S (192 * (j + 1) + 96 + q)) → post 1)
    (h0 : ¬ (∀ q, q < m → S (192 * (i + 1) + q) = S (192 * (j + 1) + q) ∧ S (192 * (i + 1) + 96 + q) = S (192 * (j + 1) + 96 + q)) → post 0) :
    ∀ d p, p + d = m → (∀ q, q < p → S (192 * (i + 1) + q) = S (192 * (j + 1) + q) ∧ S (192 * (i + 1) + 96 + q) = S (192 * (j + 1) + 96 + q)) → wY_same_55 post (nI i) (nI (192 * (i + 1))) (nI (192 * (j + 1))) N S G (d + 1) (nI p) := by
  have i5 : vp_in (nI i + 1) 5 := by
    rw [nI_1 i]
    exact vp_in_nI (by omega) (by decide)
  have eN : N (nI i + 1).toNatClampNeg = nI m := by rw [nI_1 i, sa_cl (by omega), hN]
  intro d
  induction d with
  | zero =>
    intro p hp hh
    obtain rfl : p = m := by omega
    exact ⟨i5, br_t (by rw [eN]; exact nI_le (by omega) (by omega)) (h1 hh)⟩
  | succ d ih =>
    intro p hp hh
    have e1 : nI (192 * (i + 1)) + nI p = nI (192 * (i + 1) + p) := nI_add _ _
    have e2 : nI (192 * (j + 1)) + nI p = nI (192 * (j + 1) + p) := nI_add _ _
    have e3 : nI (192 * (i + 1)) + 96 + nI p = nI (192 * (i + 1) + 96 + p) := (congrArg (· + nI p) (nI_add (192 * (i + 1)) 96)).trans (nI_add _ _)
    have e4 : nI (192 * (j + 1)) + 96 + nI p = nI (192 * (j + 1) + 96 + p) := (congrArg (· + nI p) (nI_add (192 * (j + 1)) 96)).trans (nI_add _ _)
    refine ⟨i5, br_f (by rw [eN]; exact nI_ge (by omega) (by omega)) ?_⟩
    rw [e1, e2, e3, e4, sa_cl (by omega), sa_cl (by omega), sa_cl (by omega), sa_cl (by omega)]
    refine ⟨vp_in_nI (by omega) (by decide), vp_in_nI (by omega) (by decide), br_c (fun c => ⟨vp_in_nI (by omega) (by decide), vp_in_nI (by omega) (by decide), br_c (fun c' => nm_r (nI_1 p) (ih (p + 1) (by omega) (fun q hq => ?_))) (fun c' => h0 (fun z => c' (z p (by omega)).2))⟩) (fun c => h0 (fun z => c (z p (by omega)).1))⟩
    by_cases e : q = p
    · rw [e]
      exact ⟨c, c'⟩
    · exact hh q (by omega)
end
theorem i_vc_digest {k : Nat} {u : SX} {v : SY} (I : i_Rel k u v) (hk : k + 5 ≤ 2560) : wpX_digest (fun r => wpY_digest (fun r' => r' = r ∧ i_Rel (k + 5) u v) v) u := by
  obtain ⟨f, A, B, P, F, D, T⟩ := u
  obtain ⟨N, S, G⟩ := v
  have J := I
  obtain ⟨n, rfl, hN, hH, hS⟩ := I
  unfold wpX_digest wpY_digest
  dsimp only
  refine ⟨n + 1, xx_dig hH.1 ?_ n 0 (by omega)⟩
  refine ⟨n + 1, yy_dig hH.1 hN ?_ n 0 (by omega)⟩
  exact ⟨sa_dg_c n (fun i hi => ⟨(hH.2 i hi).1.symm, (hH.2 i hi).2.1.symm⟩), J⟩
theorem i_vc_peak {k : Nat} {u : SX} {v : SY} (I : i_Rel k u v) (hk : k + 5 ≤ 2560) (v1 : Int32) (v2 : Int32) : wpX_peak (fun r => wpY_peak (fun r' => r' = r ∧ i_Rel (k + 5) u v) v v1 v2) u v1 v2 := by
  obtain ⟨f, A, B, P, F, D, T⟩ := u
  obtain ⟨N, S, G⟩ := v
  have J := I
  obtain ⟨n, rfl, hN, hH, hS⟩ := I
  unfold wpX_peak wpY_peak
  dsimp only
  rcases sa_cn v2 with hc | hc
  · refine xx_ch0 hc ?_
    refine br_t rfl ?_
    rcases sa_sl v1 with hb | ⟨j, hj, rfl⟩
    · refine yy_sl0 hb ?_
      exact br_f (by decide) ⟨rfl, J⟩
    · refine yy_sl1 hj ?_
      refine br_t rfl ?_
      refine yy_ch0 hc ?_
      exact br_f (by decide) ⟨rfl, J⟩
  · refine xx_ch1 hc ?_
    refine br_f (by decide) ?_
    rcases sa_sl v1 with hb | ⟨j, hj, rfl⟩
    · refine xx_prB hb ?_
      refine br_f (by decide) ?_
      refine yy_sl0 hb ?_
      exact br_f (by decide) ⟨rfl, J⟩
    · rcases sa_one (f := nI n) (A := A) (B := B) hj (hS j hj) with ⟨e, he, hx, hy⟩ | ⟨m, ⟨hm, hF, hD, hG, hL, hO, hB⟩, hx, hy⟩
      · refine hx _ ?_
        refine br_f he ?_
        refine yy_sl1 hj ?_
        refine br_t rfl ?_
        refine yy_ch1 hc ?_
        refine br_t rfl ?_
        refine hy _ ?_
        refine br_f he ?_
        refine hy _ ?_
        exact ⟨rfl, J⟩
      · refine hx _ ?_
        refine br_t rfl ?_
        refine xx_mom hj (sa_rdH hB) ?_
        rcases hc with rfl | rfl
        · refine ⟨m + 1, xx_peak (V := fun i => S (192 * (j + 1) + i)) hm (fun i hi q hq => xx_un0 hj hm hi hB hO hq) ?_ m 0 (by omega)⟩
          refine yy_sl1 hj ?_
          refine br_t rfl ?_
          refine yy_ch1 (Or.inl rfl) ?_
          refine br_t rfl ?_
          refine hy _ ?_
          refine br_t rfl ?_
          exact ⟨m + 1, yy_peak (V := fun i => S (192 * (j + 1) + i)) (o := fun i => 192 * (j + 1) + i) hj hm hL (fun i hi => ⟨sa_i0 j i, by omega, rfl⟩) ⟨rfl, J⟩ m 0 (by omega)⟩
        · refine ⟨m + 1, xx_peak (V := fun i => S (192 * (j + 1) + 96 + i)) hm (fun i hi q hq => xx_un1 hj hm hi hB hO hq) ?_ m 0 (by omega)⟩
          refine yy_sl1 hj ?_
          refine br_t rfl ?_
          refine yy_ch1 (Or.inr rfl) ?_
          refine br_t rfl ?_
          refine hy _ ?_
          refine br_t rfl ?_
          exact ⟨m + 1, yy_peak (V := fun i => S (192 * (j + 1) + 96 + i)) (o := fun i => 192 * (j + 1) + 96 + i) hj hm hL (fun i hi => ⟨sa_i1 j i, by omega, rfl⟩) ⟨rfl, J⟩ m 0 (by omega)⟩
theorem sa_192 (j : Nat) : (192 : Int32) * (nI j + 1) = nI (192 * (j + 1)) := by
  show nI 192 * (nI j + nI 1) = _
  rw [nI_add, pk_mul]
theorem i_vc_same {k : Nat} {u : SX} {v : SY} (I : i_Rel k u v) (hk : k + 5 ≤ 2560) (v1 : Int32) (v2 : Int32) : wpX_same (fun r => wpY_same (fun r' => r' = r ∧ i_Rel (k + 5) u v) v v1 v2) u v1 v2 := by
  obtain ⟨f, A, B, P, F, D, T⟩ := u
  obtain ⟨N, S, G⟩ := v
  have J := I
  obtain ⟨n, rfl, hN, hH, hS⟩ := I
  unfold wpX_same wpY_same
  dsimp only
  by_cases hb : sa_bs v1 ∨ sa_bs v2
  · obtain ⟨hx, hy⟩ := sa_pairB (f := nI n) (A := A) (B := B) (P := P) (F := F) (D := D) (T := T) (N := N) (S := S) (G := G) hb
    refine hx _ ?_
    refine br_f (by decide) ?_
    refine hy _ ?_
    exact br_f (by decide) ⟨rfl, J⟩
  · rcases sa_sl v1 with z | ⟨i, hi, rfl⟩
    · exact absurd (Or.inl z) hb
    · rcases sa_sl v2 with z | ⟨j, hj, rfl⟩
      · exact absurd (Or.inr z) hb
      · rcases sa_two (f := nI n) (A := A) (B := B) hi hj (hS i hi) (hS j hj) with ⟨e, he, hx, hy⟩ | ⟨m, l, ⟨am, a1, a2, a3, a4, a5, a6⟩, ⟨bm, b1, b2, b3, b4, b5, b6⟩, hx, hy⟩
        · refine hx _ ?_
          refine br_f he ?_
          refine hy _ ?_
          exact br_f he ⟨rfl, J⟩
        · refine hx _ ?_
          refine br_t rfl ?_
          refine xx_byt hi (sa_rdH a6) ?_
          refine nm_r (sa_ps i) (nm_r (sa_ps j) ⟨1 + 3 * m + 1, xx_same (by omega) (by omega) (fun hc => ?_) (fun hc => ?_) (1 + 3 * m) 0 (by omega) (fun k hk => by omega)⟩)
          · have el : m = l := by
              have z := hc 0 (by omega)
              rw [Nat.add_zero, Nat.add_zero, sa_rdH a6, sa_rdH b6] at z
              exact (nI_eq (by omega) (by omega)).mp z
            subst el
            have hq := (sa_sam a6 b6 a5 b5).mp hc
            refine hy _ ?_
            refine br_t rfl ?_
            refine nm_r (sa_192 i) (nm_r (sa_192 j) ?_)
            rw [nI_1 i, nI_1 j, sa_cl (by omega), sa_cl (by omega)]
            refine ⟨vp_in_nI (by omega) (by decide), vp_in_nI (by omega) (by decide), br_t (a4.trans b4.symm) ⟨m + 1, yy_same hi hj am a4 (fun _ => ⟨rfl, J⟩) (fun z => absurd hq z) m 0 (by omega) (fun k hk => by omega)⟩⟩
          · refine hy _ ?_
            refine br_t rfl ?_
            refine nm_r (sa_192 i) (nm_r (sa_192 j) ?_)
            rw [nI_1 i, nI_1 j, sa_cl (by omega), sa_cl (by omega)]
            refine ⟨vp_in_nI (by omega) (by decide), vp_in_nI (by omega) (by decide), ?_⟩
            by_cases el : m = l
            · subst el
              have hq := mt (sa_sam a6 b6 a5 b5).mpr hc
              exact br_t (a4.trans b4.symm) ⟨m + 1, yy_same hi hj am a4 (fun z => absurd z hq) (fun _ => ⟨rfl, J⟩) m 0 (by omega) (fun k hk => by omega)⟩
            · refine br_f (fun z => el ?_) ⟨rfl, J⟩
              rw [a4, b4] at z
              exact (nI_eq (by omega) (by omega)).mp z
end
section
/-! cut and change -/
section
variable {f : Int32} {A B P F D T N S G : Nat → Int32}
theorem xx_cut {post : Int32 → SX → Prop} {a st : Nat} (hst : a + st ≤ 96) (h : ∀ A' B' : Nat → Int32, (∀ q, q < st → A' q = A (a + q) ∧ B' q = B (a + q)) → post (nI st) (nI st, A', B', P, F, D, T)) :
    ∀ (d p : Nat) (A' B' : Nat → Int32), p + d = st → (∀ q, q < p → A' q = A (a + q) ∧ B' q = B (a + q)) → (∀ q, p ≤ q → A' q = A q ∧ B' q = B q) → wX_cut_23 post (nI a) (nI st) f (d + 1) (nI p) A' B' P F D T := by
  intro d
  induction d with
  | zero =>
    intro p A' B' hp h1 h2
    obtain rfl : p = st := by omega
    exact br_t (nI_le (by omega) (by omega)) (h A' B' h1)
  | succ d ih =>
    intro p A' B' hp h1 h2
    have vp : vp_in (nI p) 96 := vp_in_nI (by omega) (by decide)
    have vq : vp_in (nI (a + p)) 96 := vp_in_nI (by omega) (by decide)
    refine br_f (nI_ge (by omega) (by omega)) ?_
    rw [nI_add a p, sa_cl (n := a + p) (by omega), sa_cl (n := p) (by omega)]
    refine ⟨vq, vp, nm_e ⟨vq, vp, nm_e (nm_r (nI_1 p) (ih (p + 1) _ _ (by omega) (fun q hq => ?_) (fun q hq => ?_)))⟩⟩
    · by_cases c : q = p
      · rw [c, pk_us, pk_us]
        exact h2 _ (by omega)
      · rw [pk_un c, pk_un c]
        exact h1 q (by omega)
    · rw [pk_un (by omega), pk_un (by omega)]
      exact h2 q (by omega)
theorem yy_keep {post : Int32 → SY → Prop} {a b : Nat} (hab : a ≤ b) (hb : b ≤ 96)
    (h : ∀ S' : Nat → Int32, (∀ q, q < b - a → S' q = S (a + q) ∧ S' (96 + q) = S (96 + (a + q))) → (∀ k, 192 ≤ k → S' k = S k) → post (nI (b - a)) (upd N 0 (nI (b - a)), S', G)) :
    ∀ (d p : Nat) (S' : Nat → Int32), a + p + d = b → (∀ q, q < p → S' q = S (a + q) ∧ S' (96 + q) = S (96 + (a + q))) → (∀ q, p ≤ q → q < 96 → S' q = S q ∧ S' (96 + q) = S (96 + q)) → (∀ k, 192 ≤ k → S' k = S k) → wY_keep_2 post (nI a) (nI b) (d + 1) (nI (a + p)) N S' G := by
  intro d
  induction d with
  | zero =>
    intro p S' hp h1 h2 h3
    refine br_t (nI_le (by omega) (by omega)) (nm_r (congrArg (upd N 0) (pk_sub hab)) ?_)
    rw [pk_us]
    exact h S' (fun q hq => h1 q (by omega)) h3
  | succ d ih =>
    intro p S' hp h1 h2 h3
    have e1 : nI (a + p) - nI a = nI p := by
      rw [pk_sub (by omega)]
      exact congrArg nI (by omega)
    refine br_f (nI_ge (by omega) (by omega)) ?_
    rw [e1, sa_96, sa_cl (n := a + p) (by omega), sa_cl (n := 96 + (a + p)) (by omega)]
    refine ⟨vp_in_nI (by omega) (by decide), vp_in_nI (by omega) (by decide), ?_⟩
    refine yy_put (by omega) ?_
    refine nm_r (nI_1 (a + p)) (ih (p + 1) _ (by omega) (fun q hq => ?_) (fun q hq hq' => ?_) (fun k hk => ?_))
    · by_cases c : q = p
      · subst c
        rw [pk_un (by omega), pk_us, pk_us]
        exact ⟨(h2 _ (by omega) (by omega)).1, (h2 _ (by omega) (by omega)).2⟩
      · rw [pk_un (show q ≠ 96 + p by omega), pk_un c, pk_un (show 96 + q ≠ 96 + p by omega), pk_un (show 96 + q ≠ p by omega)]
        exact h1 q (by omega)
    · rw [pk_un (show q ≠ 96 + p by omega), pk_un (show q ≠ p by omega), pk_un (show 96 + q ≠ 96 + p by omega), pk_un (show 96 + q ≠ p by omega)]
      exact h2 q (by omega) hq'
    · rw [pk_un (by omega), pk_un (by omega)]
      exact h3 k hk
theorem xx_sw {n p : Nat} {A' : Nat → Int32} (hp : p < n / 2) (h : sa_rv 0 n p A A') : sa_rv 0 n (p + 1) A (upd (upd A' p (A' (n - 1 - p))) (n - 1 - p) (A' p)) := by
  refine sa_rv_s hp h ?_ ?_ (fun i hi c d => ?_)
  · rw [Nat.zero_add, Nat.zero_add, pk_un (by omega), pk_us]
  · rw [Nat.zero_add, Nat.zero_add, pk_us]
  · rw [Nat.zero_add, pk_un d, pk_un c]
theorem xx_tO {post : SX → Prop} {n : Nat} (hn : n ≤ 96) (h : ∀ A' B' : Nat → Int32, (∀ i, i < n → A' i = A (n - 1 - i) ∧ B' i = B (n - 1 - i)) → post (nI n, A', B', P, F, D, T)) :
    ∀ (d p : Nat) (A' B' : Nat → Int32), p + d = n / 2 → sa_rv 0 n p A A' → sa_rv 0 n p B B' → wX_turnOrder_9 post (nI (n / 2)) (nI n) (d + 1) (nI p) A' B' P F D T := by
  intro d
  induction d with
  | zero =>
    intro p A' B' hp h1 h2
    obtain rfl : p = n / 2 := by omega
    refine br_t (nI_le (by omega) (by omega)) (h A' B' (fun i hi => ?_))
    have a := sa_rv_e h1 i hi
    have b := sa_rv_e h2 i hi
    rw [Nat.zero_add, Nat.zero_add] at a b
    exact ⟨a, b⟩
  | succ d ih =>
    intro p A' B' hp h1 h2
    have e : (nI n - 1) - nI p = nI (n - 1 - p) := by
      show (nI n - nI 1) - nI p = _
      rw [pk_sub (by omega), pk_sub (by omega)]
    have vp : vp_in (nI p) 96 := vp_in_nI (by omega) (by decide)
    have vq : vp_in (nI (n - 1 - p)) 96 := vp_in_nI (by omega) (by decide)
    refine br_f (nI_ge (by omega) (by omega)) (nm_r e ?_)
    rw [sa_cl (n := p) (by omega), sa_cl (n := n - 1 - p) (by omega)]
    exact ⟨vp, nm_e ⟨vp, nm_e ⟨vq, vp, nm_e ⟨vq, vp, nm_e ⟨vq, nm_e ⟨vq, nm_e (nm_r (nI_1 p) (ih (p + 1) _ _ (by omega) (xx_sw (by omega) h1) (xx_sw (by omega) h2)))⟩⟩⟩⟩⟩⟩
def sa_mp (va vb : Int32 → Int32 → Int32) (p : Nat) (A B A' B' : Nat → Int32) : Prop := (∀ i, i < p → A' i = va (A i) (B i) ∧ B' i = vb (A i) (B i)) ∧ (∀ i, p ≤ i → A' i = A i ∧ B' i = B i)
theorem sa_mp_0 (va vb : Int32 → Int32 → Int32) : sa_mp va vb 0 A B A B := ⟨fun i hi => by omega, fun i _ => ⟨rfl, rfl⟩⟩
theorem sa_mp_s {va vb : Int32 → Int32 → Int32} {p : Nat} {A' B' : Nat → Int32} {x y : Int32} (h : sa_mp va vb p A B A' B') (hx : x = va (A' p) (B' p)) (hy : y = vb (A' p) (B' p)) : sa_mp va vb (p + 1) A B (upd A' p x) (upd B' p y) := by
  refine ⟨fun i hi => ?_, fun i hi => ?_⟩
  · by_cases c : i = p
    · subst c
      rw [pk_us, pk_us, hx, hy, (h.2 i (by omega)).1, (h.2 i (by omega)).2]
      exact ⟨rfl, rfl⟩
    · rw [pk_un c, pk_un c]
      exact h.1 i (by omega)
  · rw [pk_un (by omega), pk_un (by omega)]
    exact h.2 i (by omega)
theorem xx_ex {post : SX → Prop} {n : Nat} (hn : n ≤ 96) (h : ∀ A' B' : Nat → Int32, sa_mp (fun _ b => b) (fun a _ => a) n A B A' B' → post (nI n, A', B', P, F, D, T)) :
    ∀ (d p : Nat) (A' B' : Nat → Int32), p + d = n → sa_mp (fun _ b => b) (fun a _ => a) p A B A' B' → wX_exchangeChannels_2 post (nI n) (d + 1) (nI p) A' B' P F D T := by
  intro d
  induction d with
  | zero =>
    intro p A' B' hp h1
    obtain rfl : p = n := by omega
    exact br_t (nI_le (by omega) (by omega)) (h A' B' h1)
  | succ d ih =>
    intro p A' B' hp h1
    have vp : vp_in (nI p) 96 := vp_in_nI (by omega) (by decide)
    refine br_f (nI_ge (by omega) (by omega)) ?_
    rw [sa_cl (n := p) (by omega)]
    exact ⟨vp, nm_e ⟨vp, vp, nm_e ⟨vp, nm_e (nm_r (nI_1 p) (ih (p + 1) _ _ (by omega) (sa_mp_s h1 rfl rfl)))⟩⟩⟩
theorem xx_ha {post : SX → Prop} {n : Nat} (hn : n ≤ 96) (h : ∀ A' B' : Nat → Int32, sa_mp (fun a _ => a / 2) (fun _ b => b / 2) n A B A' B' → post (nI n, A', B', P, F, D, T)) :
    ∀ (d p : Nat) (A' B' : Nat → Int32), p + d = n → sa_mp (fun a _ => a / 2) (fun _ b => b / 2) p A B A' B' → wX_halveSamples_2 post (nI n) (d + 1) (nI p) A' B' P F D T := by
  intro d
  induction d with
  | zero =>
    intro p A' B' hp h1
    obtain rfl : p = n := by omega
    exact br_t (nI_le (by omega) (by omega)) (h A' B' h1)
  | succ d ih =>
    intro p A' B' hp h1
    have vp : vp_in (nI p) 96 := vp_in_nI (by omega) (by decide)
    refine br_f (nI_ge (by omega) (by omega)) ?_
    rw [sa_cl (n := p) (by omega)]
    exact ⟨vp, sa_20, vp, nm_e ⟨vp, sa_20, vp, nm_e (nm_r (nI_1 p) (ih (p + 1) _ _ (by omega) (sa_mp_s h1 rfl rfl)))⟩⟩
theorem xx_do {post : SX → Prop} {n : Nat} (hn : n ≤ 96) (h : ∀ A' B' : Nat → Int32, sa_mp (fun a _ => sa_wr (a * 2)) (fun _ b => sa_wr (b * 2)) n A B A' B' → post (nI n, A', B', P, F, D, T)) :
    ∀ (d p : Nat) (A' B' : Nat → Int32), p + d = n → sa_mp (fun a _ => sa_wr (a * 2)) (fun _ b => sa_wr (b * 2)) p A B A' B' → wX_doubleSamples_2 post (nI n) (d + 1) (nI p) A' B' P F D T := by
  intro d
  induction d with
  | zero =>
    intro p A' B' hp h1
    obtain rfl : p = n := by omega
    exact br_t (nI_le (by omega) (by omega)) (h A' B' h1)
  | succ d ih =>
    intro p A' B' hp h1
    have vp : vp_in (nI p) 96 := vp_in_nI (by omega) (by decide)
    refine br_f (nI_ge (by omega) (by omega)) ?_
    rw [sa_cl (n := p) (by omega)]
    exact ⟨vp, vp, nm_e ⟨vp, vp, nm_e (nm_r (nI_1 p) (ih (p + 1) _ _ (by omega) (sa_mp_s h1 rfl rfl)))⟩⟩
def sa_my (va vb : Int32 → Int32 → Int32) (p : Nat) (S S' : Nat → Int32) : Prop :=
  (∀ i, i < p → S' i = va (S i) (S (96 + i)) ∧ S' (96 + i) = vb (S i) (S (96 + i))) ∧ (∀ i, p ≤ i → i < 96 → S' i = S i ∧ S' (96 + i) = S (96 + i)) ∧ (∀ k, 192 ≤ k → S' k = S k)
theorem sa_my_0 (va vb : Int32 → Int32 → Int32) : sa_my va vb 0 S S := ⟨fun i hi => by omega, fun i _ _ => ⟨rfl, rfl⟩, fun _ _ => rfl⟩
theorem sa_my_s {va vb : Int32 → Int32 → Int32} {p : Nat} {S' : Nat → Int32} {x y : Int32} (hp : p < 96) (h : sa_my va vb p S S') (hx : x = va (S' p) (S' (96 + p))) (hy : y = vb (S' p) (S' (96 + p))) : sa_my va vb (p + 1) S (upd (upd S' p x) (96 + p) y) := by
  refine ⟨fun i hi => ?_, fun i hi hi' => ?_, fun k hk => ?_⟩
  · by_cases c : i = p
    · subst c
      rw [pk_un (by omega), pk_us, pk_us, hx, hy, (h.2.1 i (by omega) hp).1, (h.2.1 i (by omega) hp).2]
      exact ⟨rfl, rfl⟩
    · rw [pk_un (show i ≠ 96 + p by omega), pk_un c, pk_un (show 96 + i ≠ 96 + p by omega), pk_un (show 96 + i ≠ p by omega)]
      exact h.1 i (by omega)
  · rw [pk_un (show i ≠ 96 + p by omega), pk_un (show i ≠ p by omega), pk_un (show 96 + i ≠ 96 + p by omega), pk_un (show 96 + i ≠ p by omega)]
    exact h.2.1 i (by omega) hi'
  · rw [pk_un (by omega), pk_un (by omega)]
    exact h.2.2 k hk
theorem yy_c1 {post : Int32 → SY → Prop} {n : Nat} (hn : n ≤ 96) (h : ∀ S' : Nat → Int32, sa_my (fun _ b => b) (fun a _ => a) n S S' → post (nI n) (N, S', G)) :
    ∀ (d p : Nat) (S' : Nat → Int32), p + d = n → sa_my (fun _ b => b) (fun a _ => a) p S S' → wY_change_67 post 1 (nI n) (d + 1) (nI p) N S' G := by
  intro d
  induction d with
  | zero =>
    intro p S' hp h1
    obtain rfl : p = n := by omega
    exact br_f (by decide) (br_t (nI_le (by omega) (by omega)) (h S' h1))
  | succ d ih =>
    intro p S' hp h1
    refine br_f (by decide) (br_f (nI_ge (by omega) (by omega)) ?_)
    rw [sa_96, sa_cl (n := p) (by omega), sa_cl (n := 96 + p) (by omega)]
    refine ⟨vp_in_nI (by omega) (by decide), nm_e ⟨vp_in_nI (by omega) (by decide), nm_e (br_t rfl ?_)⟩⟩
    refine yy_put (by omega) ?_
    exact br_f (by decide) (br_f (by decide) (nm_r (nI_1 p) (ih (p + 1) _ (by omega) (sa_my_s (by omega) h1 rfl rfl))))
theorem yy_c2 {post : Int32 → SY → Prop} {n : Nat} (hn : n ≤ 96) (h : ∀ S' : Nat → Int32, sa_my (fun a _ => a / 2) (fun _ b => b / 2) n S S' → post (nI n) (N, S', G)) :
    ∀ (d p : Nat) (S' : Nat → Int32), p + d = n → sa_my (fun a _ => a / 2) (fun _ b => b / 2) p S S' → wY_change_67 post 2 (nI n) (d + 1) (nI p) N S' G := by
  intro d
  induction d with
  | zero =>
    intro p S' hp h1
    obtain rfl : p = n := by omega
    exact br_f (by decide) (br_t (nI_le (by omega) (by omega)) (h S' h1))
  | succ d ih =>
    intro p S' hp h1
    refine br_f (by decide) (br_f (nI_ge (by omega) (by omega)) ?_)
    rw [sa_96, sa_cl (n := p) (by omega), sa_cl (n := 96 + p) (by omega)]
    refine ⟨vp_in_nI (by omega) (by decide), nm_e ⟨vp_in_nI (by omega) (by decide), nm_e (br_f (by decide) (br_t rfl ⟨sa_20, sa_20, ?_⟩))⟩⟩
    refine yy_put (by omega) ?_
    exact br_f (by decide) (nm_r (nI_1 p) (ih (p + 1) _ (by omega) (sa_my_s (by omega) h1 rfl rfl)))
theorem yy_c3 {post : Int32 → SY → Prop} {n : Nat} (hn : n ≤ 96) (h : ∀ S' : Nat → Int32, sa_my (fun a _ => sa_wr (a * 2)) (fun _ b => sa_wr (b * 2)) n S S' → post (nI n) (N, S', G)) :
    ∀ (d p : Nat) (S' : Nat → Int32), p + d = n → sa_my (fun a _ => sa_wr (a * 2)) (fun _ b => sa_wr (b * 2)) p S S' → wY_change_67 post 3 (nI n) (d + 1) (nI p) N S' G := by
  intro d
  induction d with
  | zero =>
    intro p S' hp h1
    obtain rfl : p = n := by omega
    exact br_f (by decide) (br_t (nI_le (by omega) (by omega)) (h S' h1))
  | succ d ih =>
    intro p S' hp h1
    refine br_f (by decide) (br_f (nI_ge (by omega) (by omega)) ?_)
    rw [sa_96, sa_cl (n := p) (by omega), sa_cl (n := 96 + p) (by omega)]
    refine ⟨vp_in_nI (by omega) (by decide), nm_e ⟨vp_in_nI (by omega) (by decide), nm_e (br_f (by decide) (br_f (by decide) (br_t rfl ?_)))⟩⟩
    refine yy_wr ?_
    refine yy_wr ?_
    refine yy_put (by omega) ?_
    exact nm_r (nI_1 p) (ih (p + 1) _ (by omega) (sa_my_s (by omega) h1 (congrArg sa_wr (Int32.mul_comm _ _)) (congrArg sa_wr (Int32.mul_comm _ _))))
theorem yy_exc {post : SY → Prop} {p q : Nat} (hp : p < 960) (hq : q < 960) (h : post (N, upd (upd S p (S q)) q (S p), G)) : wpY_exchange post (N, S, G) (nI p) (nI q) := by
  unfold wpY_exchange
  dsimp only
  rw [sa_cl (n := p) (by omega), sa_cl (n := q) (by omega)]
  exact ⟨vp_in_nI hp (by decide), nm_e ⟨vp_in_nI hq (by decide), vp_in_nI hp (by decide), nm_e ⟨vp_in_nI hq (by decide), nm_e h⟩⟩⟩
theorem yy_c0 {post : Int32 → SY → Prop} {n : Nat} (hn : n ≤ 96) (h : ∀ S' : Nat → Int32, (∀ i, i < n → S' i = S (n - 1 - i) ∧ S' (96 + i) = S (96 + (n - 1 - i))) → (∀ k, 192 ≤ k → S' k = S k) → post (nI n) (N, S', G)) :
    ∀ (d p : Nat) (S' : Nat → Int32), p + d = n / 2 → sa_rv 0 n p S S' → sa_rv 96 n p S S' → (∀ k, 192 ≤ k → S' k = S k) → wY_change_22 post 0 (nI n) (d + 1) (nI p) N S' G := by
  have e2 : nI n / 2 = nI (n / 2) := pk_div (d := 2) (by omega) (by decide) (by decide)
  intro d
  induction d with
  | zero =>
    intro p S' hp h1 h2 h3
    obtain rfl : p = n / 2 := by omega
    refine br_t rfl ⟨sa_20, br_t (by rw [e2]; exact nI_le (by omega) (by omega)) ⟨1, br_t (by decide) (h S' (fun i hi => ?_) h3)⟩⟩
    have a := sa_rv_e h1 i hi
    rw [Nat.zero_add, Nat.zero_add] at a
    exact ⟨a, sa_rv_e h2 i hi⟩
  | succ d ih =>
    intro p S' hp h1 h2 h3
    have e3 : (nI n - 1) - nI p = nI (n - 1 - p) := by
      show (nI n - nI 1) - nI p = _
      rw [pk_sub (by omega), pk_sub (by omega)]
    have e4 : ((96 + nI n) - 1) - nI p = nI (96 + (n - 1 - p)) := by
      show ((nI 96 + nI n) - nI 1) - nI p = _
      rw [nI_add, pk_sub (by omega), pk_sub (by omega)]
      exact congrArg nI (by omega)
    refine br_t rfl ⟨sa_20, br_f (by rw [e2]; exact nI_ge (by omega) (by omega)) ?_⟩
    rw [e3, e4, sa_96]
    refine yy_exc (by omega) (by omega) ?_
    refine yy_exc (by omega) (by omega) ?_
    refine nm_r (nI_1 p) (ih (p + 1) _ (by omega) ?_ ?_ (fun k hk => ?_))
    · refine sa_rv_s (by omega) h1 ?_ ?_ (fun i hi c d => ?_)
      · rw [Nat.zero_add, Nat.zero_add, pk_un (by omega), pk_un (by omega), pk_un (by omega), pk_us]
      · rw [Nat.zero_add, Nat.zero_add, pk_un (by omega), pk_un (by omega), pk_us]
      · rw [Nat.zero_add, pk_un (by omega), pk_un (by omega), pk_un d, pk_un c]
    · refine sa_rv_s (by omega) h2 ?_ ?_ (fun i hi c d => ?_)
      · rw [pk_un (by omega), pk_us, pk_un (by omega), pk_un (by omega)]
      · rw [pk_us, pk_un (by omega), pk_un (by omega)]
      · rw [pk_un (by omega), pk_un (by omega), pk_un (by omega), pk_un (by omega)]
    · rw [pk_un (by omega), pk_un (by omega), pk_un (by omega), pk_un (by omega)]
      exact h3 k hk
end
end
section
/-! cut and change: the two sides together -/
theorem i_vc_cut {k : Nat} {u : SX} {v : SY} (I : i_Rel k u v) (hk : k + 5 ≤ 2560) (v1 : Int32) (v2 : Int32) : wpX_cut (fun r u' => wpY_cut (fun r' v' => r' = r ∧ i_Rel (k + 5) u' v') v v1 v2) u v1 v2 := by
  obtain ⟨f, A, B, P, F, D, T⟩ := u
  obtain ⟨N, S, G⟩ := v
  have J := I
  obtain ⟨n, rfl, hN, hH, hS⟩ := I
  have hn := hH.1
  unfold wpX_cut wpY_cut
  dsimp only
  rcases sa_rg v1 v2 (m := n) (by omega) with hb | ⟨a, b, hab, hbn, rfl, rfl⟩
  · refine xx_rg0 hb ?_
    refine br_t rfl ?_
    refine yy_rg0 (s := 0) rfl (by omega) hN hb ?_
    exact br_f (by decide) ⟨rfl, J⟩
  · refine xx_rg1 hab hbn (by omega) ?_
    refine br_f (by decide) (nm_r (pk_sub hab) ?_)
    refine ⟨b - a + 1, xx_cut (A := A) (B := B) (by omega) (fun A' B' hA => ?_) (b - a) 0 A B (by omega) (fun q hq => by omega) (fun q _ => ⟨rfl, rfl⟩)⟩
    refine yy_rg1 (s := 0) rfl (by omega) hN hab hbn (by omega) ?_
    refine br_t rfl ?_
    unfold wpY_keep
    dsimp only
    refine ⟨b - a + 1, yy_keep (S := S) hab (by omega) (fun S' hA' hS' => ?_) (b - a) 0 S (by omega) (fun q hq => by omega) (fun q _ _ => ⟨rfl, rfl⟩) (fun _ _ => rfl)⟩
    have hh : sa_Hand (b - a) A' B' S' := by
      refine ⟨by omega, fun i hi => ?_⟩
      have z := hH.2 (a + i) (by omega)
      rw [(hA i hi).1, (hA i hi).2, (hA' i hi).1, (hA' i hi).2]
      exact z
    have fin : sa_Rel (nI (b - a)) A' B' P F D T (upd N 0 (nI (b - a))) S' G := sa_hand hS pk_us (fun k hk => pk_un hk) hS' hh
    exact ⟨rfl, fin⟩
theorem sa_kd (x : Int32) : (x < 0 ∨ (¬ x < 0 ∧ 3 < x)) ∨ x = 0 ∨ x = 1 ∨ x = 2 ∨ x = 3 := by
  by_cases c : x < 0
  · exact Or.inl (Or.inl c)
  · rcases pk_ix x (n := 4) (by decide) with h | h | ⟨j, h, e⟩
    · exact absurd h c
    · exact Or.inl (Or.inr ⟨c, Int32.lt_of_lt_of_le (by decide) h⟩)
    · rcases (by omega : j = 0 ∨ j = 1 ∨ j = 2 ∨ j = 3) with z | z | z | z
      · exact Or.inr (Or.inl (by rw [e, z]; rfl))
      · exact Or.inr (Or.inr (Or.inl (by rw [e, z]; rfl)))
      · exact Or.inr (Or.inr (Or.inr (Or.inl (by rw [e, z]; rfl))))
      · exact Or.inr (Or.inr (Or.inr (Or.inr (by rw [e, z]; rfl))))
theorem sa_Hand_mp {va vb : Int32 → Int32 → Int32} {n : Nat} {A B S A' B' S' : Nat → Int32} (ha : ∀ a b, sa_sm a → sa_sm b → sa_sm (va a b)) (hb : ∀ a b, sa_sm a → sa_sm b → sa_sm (vb a b))
    (h : sa_Hand n A B S) (hX : sa_mp va vb n A B A' B') (hY : sa_my va vb n S S') : sa_Hand n A' B' S' := by
  refine ⟨h.1, fun i hi => ?_⟩
  obtain ⟨z1, z2, z3, z4⟩ := h.2 i hi
  rw [(hX.1 i hi).1, (hX.1 i hi).2, (hY.1 i hi).1, (hY.1 i hi).2, z1, z2]
  exact ⟨rfl, rfl, ha _ _ z3 z4, hb _ _ z3 z4⟩
theorem i_vc_change {k : Nat} {u : SX} {v : SY} (I : i_Rel k u v) (hk : k + 5 ≤ 2560) (v1 : Int32) : wpX_change (fun r u' => wpY_change (fun r' v' => r' = r ∧ i_Rel (k + 5) u' v') v v1) u v1 := by
  obtain ⟨f, A, B, P, F, D, T⟩ := u
  obtain ⟨N, S, G⟩ := v
  have J := I
  obtain ⟨n, rfl, hN, hH, hS⟩ := I
  have hn := hH.1
  unfold wpX_change wpY_change
  dsimp only
  rcases sa_kd v1 with (h | ⟨h1, h2⟩) | rfl | rfl | rfl | rfl
  · exact br_t h (br_t h ⟨rfl, J⟩)
  · exact br_f h1 (br_t h2 (br_f h1 (br_f (Int32.not_le.mpr h2) ⟨rfl, J⟩)))
  · refine br_f (by decide) (br_f (by decide) (br_t rfl ?_))
    unfold wpX_turnOrder
    dsimp only
    refine ⟨sa_20, nm_r (pk_div (d := 2) (by omega) (by decide) (by decide)) ⟨n / 2 + 1, xx_tO (A := A) (B := B) hn (fun A' B' hA => ?_) (n / 2) 0 A B (by omega) (sa_rv_0 _ _ _) (sa_rv_0 _ _ _)⟩⟩
    refine br_f (by decide) (br_t (by decide) (nm_r hN ?_))
    refine ⟨n / 2 + 1, yy_c0 (S := S) hn (fun S' hA' hS' => ?_) (n / 2) 0 S (by omega) (sa_rv_0 _ _ _) (sa_rv_0 _ _ _) (fun _ _ => rfl)⟩
    have hh : sa_Hand n A' B' S' := by
      refine ⟨hn, fun i hi => ?_⟩
      have z := hH.2 (n - 1 - i) (by omega)
      rw [(hA i hi).1, (hA i hi).2, (hA' i hi).1, (hA' i hi).2]
      exact z
    exact ⟨rfl, sa_hand hS hN (fun _ _ => rfl) hS' hh⟩
  · refine br_f (by decide) (br_f (by decide) (br_f (by decide) (br_t rfl ?_)))
    unfold wpX_exchangeChannels
    dsimp only
    refine ⟨n + 1, xx_ex (A := A) (B := B) hn (fun A' B' hA => ?_) n 0 A B (by omega) (sa_mp_0 _ _)⟩
    refine br_f (by decide) (br_t (by decide) (nm_r hN ?_))
    refine ⟨1, br_f (by decide) ⟨n + 1, yy_c1 (S := S) hn (fun S' hA' => ?_) n 0 S (by omega) (sa_my_0 _ _)⟩⟩
    exact ⟨rfl, sa_hand hS hN (fun _ _ => rfl) hA'.2.2 (sa_Hand_mp (fun _ _ _ h => h) (fun _ _ h _ => h) hH hA hA')⟩
  · refine br_f (by decide) (br_f (by decide) (br_f (by decide) (br_f (by decide) (br_t rfl ?_))))
    unfold wpX_halveSamples
    dsimp only
    refine ⟨n + 1, xx_ha (A := A) (B := B) hn (fun A' B' hA => ?_) n 0 A B (by omega) (sa_mp_0 _ _)⟩
    refine br_f (by decide) (br_t (by decide) (nm_r hN ?_))
    refine ⟨1, br_f (by decide) ⟨n + 1, yy_c2 (S := S) hn (fun S' hA' => ?_) n 0 S (by omega) (sa_my_0 _ _)⟩⟩
    exact ⟨rfl, sa_hand hS hN (fun _ _ => rfl) hA'.2.2 (sa_Hand_mp (fun _ _ h _ => sa_half h) (fun _ _ _ h => sa_half h) hH hA hA')⟩
  · refine br_f (by decide) (br_f (by decide) (br_f (by decide) (br_f (by decide) (br_f (by decide) (br_t rfl ?_)))))
    unfold wpX_doubleSamples
    dsimp only
    refine ⟨n + 1, xx_do (A := A) (B := B) hn (fun A' B' hA => ?_) n 0 A B (by omega) (sa_mp_0 _ _)⟩
    refine br_f (by decide) (br_t (by decide) (nm_r hN ?_))
    refine ⟨1, br_f (by decide) ⟨n + 1, yy_c3 (S := S) hn (fun S' hA' => ?_) n 0 S (by omega) (sa_my_0 _ _)⟩⟩
    exact ⟨rfl, sa_hand hS hN (fun _ _ => rfl) hA'.2.2 (sa_Hand_mp (fun _ _ _ _ => sa_wrR _) (fun _ _ _ _ => sa_wrR _) hH hA hA')⟩
end
section
/-! store, load, excerpt -/
section
variable {f : Int32} {A B P F D T N S G : Nat → Int32}
theorem sa_m192 (a p : Nat) : (192 : Int32) * nI a + nI p = nI (192 * a + p) := by
  show nI 192 * nI a + nI p = _
  rw [pk_mul, nI_add]
theorem yy_cpl {post : SY → Prop} {a b : Nat} (ha : a < 5) (hb : b < 5) (hab : a ≠ b) (h : ∀ S' : Nat → Int32, (∀ i, i < 192 → S' (192 * b + i) = S (192 * a + i)) → (∀ k, (k < 192 * b ∨ 192 * b + 192 ≤ k) → S' k = S k) → post (N, S', G)) :
    ∀ (d p : Nat) (S' : Nat → Int32), p + d = 192 → (∀ i, i < p → S' (192 * b + i) = S (192 * a + i)) → (∀ k, (k < 192 * b ∨ 192 * b + p ≤ k) → S' k = S k) → wY_copy_14 post (nI a) (nI b) (d + 1) (nI p) N S' G := by
  intro d
  induction d with
  | zero =>
    intro p S' hp h1 h2
    obtain rfl : p = 192 := by omega
    exact br_t (nI_le (a := 192) (by omega) (by omega)) (h S' h1 h2)
  | succ d ih =>
    intro p S' hp h1 h2
    refine br_f (nI_ge (b := 192) (by omega) (by omega)) ?_
    rw [sa_m192, sa_m192, sa_cl (by omega), sa_cl (by omega)]
    refine ⟨vp_in_nI (by omega) (by decide), vp_in_nI (by omega) (by decide), nm_e (nm_r (nI_1 p) (ih (p + 1) _ (by omega) (fun i hi => ?_) (fun k hk => ?_)))⟩
    · by_cases c : i = p
      · rw [c, pk_us]
        exact h2 _ (by omega)
      · rw [pk_un (by omega)]
        exact h1 i (by omega)
    · rw [pk_un (by omega)]
      exact h2 k (by omega)
theorem yy_copy {post : SY → Prop} {x y : Int32} {a b : Nat} (hx : x = nI a) (hy : y = nI b) (ha : a < 5) (hb : b < 5) (hab : a ≠ b) (h : ∀ S' : Nat → Int32, (∀ i, i < 192 → S' (192 * b + i) = S (192 * a + i)) → (∀ k, (k < 192 * b ∨ 192 * b + 192 ≤ k) → S' k = S k) → post (upd N b (N a), S', G)) : wpY_copy post (N, S, G) x y := by
  subst hx hy
  unfold wpY_copy
  dsimp only
  rw [sa_cl (n := a) (by omega), sa_cl (n := b) (by omega)]
  exact ⟨vp_in_nI ha (by decide), vp_in_nI hb (by decide), nm_e ⟨193, yy_cpl (S := S) ha hb hab h 192 0 S (by omega) (fun i hi => by omega) (fun _ _ => rfl)⟩⟩
theorem xx_st {post : Int32 → SX → Prop} {j n : Nat} (hj : j < 4) (hn : n ≤ 96) (h : ∀ P' : Nat → Int32, (∀ k, k < 1 + 3 * n → P' (289 * j + k) = sa_ct A B n k) → (∀ k, (k < 289 * j ∨ 289 * j + 289 ≤ k) → P' k = P k) → post 0 (f, A, B, P', upd F j 1, upd D j 0, T)) :
    ∀ (d p : Nat) (P' : Nat → Int32), p + d = n → (∀ i, i < p → P' (289 * j + (1 + 3 * i)) = sa_b0 (A i) ∧ P' (289 * j + (1 + 3 * i + 1)) = sa_b1 (A i) (B i) ∧ P' (289 * j + (1 + 3 * i + 2)) = sa_b2 (B i)) → (∀ k, (k < 289 * j ∨ 289 * j + 289 ≤ k) → P' k = P k) → wX_store_19 post (nI j) (nI n) (d + 1) (nI p) f A B P' F D T := by
  have cj : (nI j).toNatClampNeg = j := sa_cl (by omega)
  have i4 : vp_in (nI j) 4 := vp_in_nI hj (by decide)
  intro d
  induction d with
  | zero =>
    intro p P' hp h1 h2
    obtain rfl : p = n := by omega
    refine br_t (nI_le (by omega) (by omega)) ?_
    refine xx_smi hj hn ?_
    refine ⟨i4, nm_r (sa_up cj sa_nar1) ⟨i4, nm_r (sa_up cj sa_nar0) (h _ (sa_3 ?_ (fun i hi => ?_)) (fun k hk => ?_))⟩⟩
    · rw [sa_ct_h]
      exact pk_us
    · rw [sa_ct_0, sa_ct_1, sa_ct_2, pk_un (by omega), pk_un (by omega), pk_un (by omega)]
      exact h1 i hi
    · rw [pk_un (by omega)]
      exact h2 k hk
  | succ d ih =>
    intro p P' hp h1 h2
    refine br_f (nI_ge (by omega) (by omega)) ⟨vp_in_nI (by omega) (by decide), vp_in_nI (by omega) (by decide), ?_⟩
    rw [sa_cl (n := p) (by omega)]
    refine xx_pack hj (by omega) ?_
    refine nm_r (nI_1 p) (ih (p + 1) _ (by omega) (fun i hi => ?_) (fun k hk => ?_))
    · by_cases c : i = p
      · subst c
        rw [pk_un (by omega), pk_un (by omega), pk_us, pk_un (by omega), pk_us, pk_us]
        exact ⟨rfl, rfl, rfl⟩
      · rw [pk_un (by omega), pk_un (by omega), pk_un (by omega), pk_un (by omega), pk_un (by omega), pk_un (by omega), pk_un (by omega), pk_un (by omega), pk_un (by omega)]
        exact h1 i (by omega)
    · rw [pk_un (by omega), pk_un (by omega), pk_un (by omega)]
      exact h2 k hk
theorem xx_utl {post : SX → Prop} {j m a b : Nat} (hj : j < 4) (hm : m ≤ 96) (hab : a ≤ b) (hb : b ≤ m) (hB : sa_Byt P S j m) (hG : sa_Good S j m)
    (h : ∀ A' B' : Nat → Int32, (∀ q, q < b - a → A' q = S (192 * (j + 1) + (a + q)) ∧ B' q = S (192 * (j + 1) + 96 + (a + q))) → post (nI (b - a), A', B', P, F, D, T)) :
    ∀ (d p : Nat) (A' B' : Nat → Int32), p + d = b - a → (∀ q, q < p → A' q = S (192 * (j + 1) + (a + q)) ∧ B' q = S (192 * (j + 1) + 96 + (a + q))) → wX_unpackToHand_8 post (nI j) (nI a) (nI (b - a)) f (d + 1) (nI p) A' B' P F D T := by
  intro d
  induction d with
  | zero =>
    intro p A' B' hp h1
    obtain rfl : p = b - a := by omega
    exact br_t (nI_le (by omega) (by omega)) (h A' B' h1)
  | succ d ih =>
    intro p A' B' hp h1
    have vp : vp_in (nI p) 96 := vp_in_nI (by omega) (by decide)
    have cp : (nI p).toNatClampNeg = p := sa_cl (by omega)
    refine br_f (nI_ge (by omega) (by omega)) ?_
    rw [nI_add a p]
    refine xx_un0 hj hm (by omega) hB hG ?_
    refine ⟨vp, nm_r (sa_up cp rfl) ?_⟩
    refine xx_un1 hj hm (by omega) hB hG ?_
    refine ⟨vp, nm_r (sa_up cp rfl) (nm_r (nI_1 p) (ih (p + 1) _ _ (by omega) (fun q hq => ?_)))⟩
    by_cases c : q = p
    · subst c
      rw [pk_us, pk_us]
      exact ⟨rfl, rfl⟩
    · rw [pk_un c, pk_un c]
      exact h1 q (by omega)
theorem xx_uth {post : SX → Prop} {x y : Int32} {j m a b : Nat} (hx : x = nI a) (hy : y = nI b) (hj : j < 4) (hm : m ≤ 96) (hab : a ≤ b) (hb : b ≤ m) (hB : sa_Byt P S j m) (hG : sa_Good S j m)
    (h : ∀ A' B' : Nat → Int32, (∀ q, q < b - a → A' q = S (192 * (j + 1) + (a + q)) ∧ B' q = S (192 * (j + 1) + 96 + (a + q))) → post (nI (b - a), A', B', P, F, D, T)) : wpX_unpackToHand post (f, A, B, P, F, D, T) (nI j) x y := by
  subst hx hy
  unfold wpX_unpackToHand
  dsimp only
  exact nm_r (pk_sub hab) ⟨b - a + 1, xx_utl hj hm hab hb hB hG h (b - a) 0 A B (by omega) (fun q hq => by omega)⟩
end
theorem i_vc_store {k : Nat} {u : SX} {v : SY} (I : i_Rel k u v) (hk : k + 5 ≤ 2560) (v1 : Int32) (v2 : Int32) : wpX_store (fun r u' => wpY_store (fun r' v' => r' = r ∧ i_Rel (k + 5) u' v') v v1 v2) u v1 v2 := by
  obtain ⟨f, A, B, P, F, D, T⟩ := u
  obtain ⟨N, S, G⟩ := v
  have J := I
  obtain ⟨n, rfl, hN, hH, hS⟩ := I
  have hn := hH.1
  unfold wpX_store wpY_store
  dsimp only
  rcases sa_sl v1 with hb | ⟨j, hj, rfl⟩
  · refine xx_sl0 hb ?_
    refine br_t rfl ?_
    refine yy_sl0 hb ?_
    exact br_f (by decide) ⟨rfl, J⟩
  · have i4 : vp_in (nI j) 4 := vp_in_nI hj (by decide)
    have cj : (nI j).toNatClampNeg = j := sa_cl (by omega)
    refine xx_sl1 hj ?_
    refine br_f (by decide) ⟨n + 1, xx_st (P := P) hj hn (fun P' h1 h2 => ?_) n 0 P (by omega) (fun i hi => by omega) (fun _ _ => rfl)⟩
    refine yy_sl1 hj ?_
    refine br_t rfl ?_
    refine yy_copy (a := 0) (b := j + 1) rfl (nI_1 j) (by omega) (by omega) (by omega) (fun S' h3 h4 => ?_)
    refine ⟨i4, nm_r (sa_up cj rfl) ⟨rfl, ?_⟩⟩
    have eL : ∀ i, i < n → sa_L S' j i = A i := fun i hi => by
      have z := h3 i (by omega)
      rw [Nat.mul_zero, Nat.zero_add] at z
      exact z.trans (hH.2 i hi).1.symm
    have eR : ∀ i, i < n → sa_R S' j i = B i := fun i hi => by
      have z := h3 (96 + i) (by omega)
      rw [Nat.mul_zero, Nat.zero_add, ← Nat.add_assoc] at z
      exact z.trans (hH.2 i hi).2.1.symm
    have hh : sa_Hand n A B S' := ⟨hn, fun i hi => by
      rw [h4 i (by omega), h4 (96 + i) (by omega)]
      exact hH.2 i hi⟩
    have new : sa_Slot P' (upd F j 1) (upd D j 0) T (upd N (j + 1) (N 0)) S' (upd G j 1) j := by
      refine Or.inr ⟨n, hn, pk_us, by rw [pk_us]; exact hN, fun i hi => ?_, Or.inl ⟨pk_us, pk_us, fun k hk => ?_⟩⟩
      · rw [eL i hi, eR i hi, (hH.2 i hi).1, (hH.2 i hi).2.1]
        exact (hH.2 i hi).2.2
      · rw [h1 k hk]
        exact (sa_ct_c hk eL eR).symm
    have fin : sa_Rel (nI n) A B P' (upd F j 1) (upd D j 0) T (upd N (j + 1) (N 0)) S' (upd G j 1) :=
      ⟨n, rfl, by rw [pk_un (by omega)]; exact hN, hh, sa_slots (j := j) hS h2 (fun i hi => pk_un hi) (fun i hi => pk_un hi) (fun _ _ => rfl) (fun i hi => pk_un (by omega)) (fun k _ hk => h4 k hk) (fun i hi => pk_un hi) new⟩
    exact fin
theorem i_vc_load {k : Nat} {u : SX} {v : SY} (I : i_Rel k u v) (hk : k + 5 ≤ 2560) (v1 : Int32) : wpX_load (fun r u' => wpY_load (fun r' v' => r' = r ∧ i_Rel (k + 5) u' v') v v1) u v1 := by
  obtain ⟨f, A, B, P, F, D, T⟩ := u
  obtain ⟨N, S, G⟩ := v
  have J := I
  obtain ⟨n, rfl, hN, hH, hS⟩ := I
  have hn := hH.1
  unfold wpX_load wpY_load
  dsimp only
  rcases sa_sl v1 with hb | ⟨j, hj, rfl⟩
  · refine xx_prB hb ?_
    refine br_f (by decide) ?_
    refine yy_sl0 hb ?_
    exact br_f (by decide) ⟨rfl, J⟩
  · rcases sa_one (f := nI n) (A := A) (B := B) hj (hS j hj) with ⟨e, he, hx, hy⟩ | ⟨m, ⟨hm, hF, hD, hG, hL, hO, hB⟩, hx, hy⟩
    · refine hx _ ?_
      refine br_f he ?_
      refine yy_sl1 hj ?_
      refine br_t rfl ?_
      refine hy _ ?_
      refine br_f he ?_
      refine hy _ ?_
      exact ⟨rfl, J⟩
    · refine hx _ ?_
      refine br_t rfl ?_
      refine xx_mom hj (sa_rdH hB) ?_
      refine xx_uth (a := 0) (b := m) rfl rfl hj hm (by omega) (by omega) hB hO (fun A' B' hA => ?_)
      refine yy_sl1 hj ?_
      refine br_t rfl ?_
      refine hy _ ?_
      refine br_t rfl ?_
      refine yy_copy (a := j + 1) (b := 0) (nI_1 j) rfl (by omega) (by omega) (by omega) (fun S' h3 h4 => ?_)
      have cp : ∀ i, i < 192 → S' i = S (192 * (j + 1) + i) := fun i hi => by
        have z := h3 i hi
        rw [Nat.mul_zero, Nat.zero_add] at z
        exact z
      have hh : sa_Hand m A' B' S' := ⟨hm, fun i hi => by
        have z := hA i (by omega)
        rw [Nat.zero_add] at z
        rw [cp i (by omega), cp (96 + i) (by omega), ← Nat.add_assoc, z.1, z.2]
        exact ⟨rfl, rfl, (hO i hi).1, (hO i hi).2⟩⟩
      have e0 : upd N 0 (N (j + 1)) 0 = nI m := by rw [pk_us]; exact hL
      have fin : sa_Rel (nI m) A' B' P F D T (upd N 0 (N (j + 1))) S' G := sa_hand hS e0 (fun k hk => pk_un hk) (fun k hk => h4 k (by omega)) hh
      exact ⟨e0, fin⟩
theorem i_vc_excerpt {k : Nat} {u : SX} {v : SY} (I : i_Rel k u v) (hk : k + 5 ≤ 2560) (v1 : Int32) (v2 : Int32) (v3 : Int32) : wpX_excerpt (fun r u' => wpY_excerpt (fun r' v' => r' = r ∧ i_Rel (k + 5) u' v') v v1 v2 v3) u v1 v2 v3 := by
  obtain ⟨f, A, B, P, F, D, T⟩ := u
  obtain ⟨N, S, G⟩ := v
  have J := I
  obtain ⟨n, rfl, hN, hH, hS⟩ := I
  have hn := hH.1
  unfold wpX_excerpt wpY_excerpt
  dsimp only
  rcases sa_sl v1 with hb | ⟨j, hj, rfl⟩
  · refine xx_prB hb ?_
    refine br_f (by decide) ?_
    refine yy_sl0 hb ?_
    exact br_f (by decide) ⟨rfl, J⟩
  · rcases sa_one (f := nI n) (A := A) (B := B) hj (hS j hj) with ⟨e, he, hx, hy⟩ | ⟨m, ⟨hm, hF, hD, hG, hL, hO, hB⟩, hx, hy⟩
    · refine hx _ ?_
      refine br_f he ?_
      refine yy_sl1 hj ?_
      refine br_t rfl ?_
      refine hy _ ?_
      refine br_f he ?_
      refine hy _ ?_
      exact ⟨rfl, J⟩
    · refine hx _ ?_
      refine br_t rfl ?_
      refine xx_mom hj (sa_rdH hB) ?_
      rcases sa_rg v2 v3 (m := m) (by omega) with hr | ⟨a, b, hab, hbm, rfl, rfl⟩
      · refine xx_rg0 hr ?_
        refine br_t rfl ?_
        refine yy_sl1 hj ?_
        refine br_t rfl ?_
        refine hy _ ?_
        refine br_t rfl ?_
        refine yy_rg0 (nI_1 j) (by omega) hL hr ?_
        exact br_f (by decide) ⟨rfl, J⟩
      · refine xx_rg1 hab hbm (by omega) ?_
        refine br_f (by decide) ?_
        refine xx_uth (a := a) (b := b) rfl rfl hj hm hab hbm hB hO (fun A' B' hA => ?_)
        refine yy_sl1 hj ?_
        refine br_t rfl ?_
        refine hy _ ?_
        refine br_t rfl ?_
        refine yy_rg1 (nI_1 j) (by omega) hL hab hbm (by omega) ?_
        refine br_t rfl ?_
        refine yy_copy (a := j + 1) (b := 0) (nI_1 j) rfl (by omega) (by omega) (by omega) (fun S1 h3 h4 => ?_)
        have cp : ∀ i, i < 192 → S1 i = S (192 * (j + 1) + i) := fun i hi => by
          have z := h3 i hi
          rw [Nat.mul_zero, Nat.zero_add] at z
          exact z
        unfold wpY_keep
        dsimp only
        refine ⟨b - a + 1, yy_keep (S := S1) hab (by omega) (fun S' hA' hS' => ?_) (b - a) 0 S1 (by omega) (fun q hq => by omega) (fun q _ _ => ⟨rfl, rfl⟩) (fun _ _ => rfl)⟩
        have hh : sa_Hand (b - a) A' B' S' := ⟨by omega, fun i hi => by
          have z := hA i hi
          have w := hO (a + i) (by omega)
          rw [(hA' i hi).1, (hA' i hi).2, cp (a + i) (by omega), cp (96 + (a + i)) (by omega), show 192 * (j + 1) + (96 + (a + i)) = 192 * (j + 1) + 96 + (a + i) from by omega, z.1, z.2]
          exact ⟨rfl, rfl, w.1, w.2⟩⟩
        have fin : sa_Rel (nI (b - a)) A' B' P F D T (upd (upd N 0 (N (j + 1))) 0 (nI (b - a))) S' G :=
          sa_hand hS pk_us (fun k hk => (pk_un hk).trans (pk_un hk)) (fun k hk => (hS' k hk).trans (h4 k (by omega))) hh
        exact ⟨rfl, fin⟩
end
section
/-! join -/
section
variable {f : Int32} {A B P F D T N S G : Nat → Int32}
theorem xx_joi {post : Int32 → SX → Prop} {i t s K w : Nat} (hi : i < 4) (hw : w ≤ 96) (ht : t + K ≤ 1156) (hs : s + K ≤ 1156) (hd : ∀ q, q < K → s + q < t ∨ t + K ≤ s + q) (hz : ∀ q, q < K → vp_nar .byte (P (s + q)) = P (s + q))
    (h : ∀ P' : Nat → Int32, (∀ q, q < K → P' (t + q) = P (s + q)) → (∀ k, (k < t ∨ t + K ≤ k) → P' k = P k) → post (nI w) (f, A, B, upd P' (289 * i) (nI w), F, D, T)) :
    ∀ (d p : Nat) (P' : Nat → Int32), p + d = K → (∀ q, q < p → P' (t + q) = P (s + q)) → (∀ k, (k < t ∨ t + p ≤ k) → P' k = P k) → wX_join_69 post (nI i) (nI w) (nI t) (nI s) (nI K) f (d + 1) (nI p) A B P' F D T := by
  intro d
  induction d with
  | zero =>
    intro p P' hp h1 h2
    obtain rfl : p = K := by omega
    refine br_t (nI_le (by omega) (by omega)) ?_
    refine xx_smi hi hw ?_
    exact h P' h1 h2
  | succ d ih =>
    intro p P' hp h1 h2
    have es : P' (s + p) = P (s + p) := h2 _ (by have := hd p (by omega); omega)
    refine br_f (nI_ge (by omega) (by omega)) ?_
    rw [nI_add s p, nI_add t p, sa_cl (n := s + p) (by omega), sa_cl (n := t + p) (by omega), es, hz p (by omega)]
    refine ⟨vp_in_nI (by omega) (by decide), vp_in_nI (by omega) (by decide), nm_e (nm_r (nI_1 p) (ih (p + 1) _ (by omega) (fun q hq => ?_) (fun k hk => ?_)))⟩
    · by_cases c : q = p
      · rw [c, pk_us]
      · rw [pk_un (by omega)]
        exact h1 q (by omega)
    · rw [pk_un (by omega)]
      exact h2 k (by omega)
theorem yy_joi {post : Int32 → SY → Prop} {i j m l : Nat} (hi : i < 4) (hj : j < 4) (hml : m + l ≤ 96) (hij : i ≠ j ∨ l = m)
    (h : ∀ S' : Nat → Int32, (∀ q, q < l → S' (192 * (i + 1) + m + q) = S (192 * (j + 1) + q) ∧ S' (192 * (i + 1) + 96 + m + q) = S (192 * (j + 1) + 96 + q)) → (∀ k, (k < 192 * (i + 1) + m ∨ 192 * (i + 1) + m + l ≤ k) → (k < 192 * (i + 1) + 96 + m ∨ 192 * (i + 1) + 96 + m + l ≤ k) → S' k = S k) → post (nI (m + l)) (upd N (i + 1) (nI (m + l)), S', G)) :
    ∀ (d p : Nat) (S' : Nat → Int32), p + d = l → (∀ q, q < p → S' (192 * (i + 1) + m + q) = S (192 * (j + 1) + q) ∧ S' (192 * (i + 1) + 96 + m + q) = S (192 * (j + 1) + 96 + q)) → (∀ k, (k < 192 * (i + 1) + m ∨ 192 * (i + 1) + m + p ≤ k) → (k < 192 * (i + 1) + 96 + m ∨ 192 * (i + 1) + 96 + m + p ≤ k) → S' k = S k) →
      wY_join_58 post (nI (i + 1)) (nI (j + 1)) (nI m) (nI l) (d + 1) (nI p) N S' G := by
  have e0 : nI m + nI l = nI (m + l) := nI_add _ _
  intro d
  induction d with
  | zero =>
    intro p S' hp h1 h2
    obtain rfl : p = l := by omega
    refine br_t (nI_le (by omega) (by omega)) ?_
    rw [e0, sa_cl (n := i + 1) (by omega)]
    exact ⟨vp_in_nI (by omega) (by decide), nm_e (h S' h1 h2)⟩
  | succ d ih =>
    intro p S' hp h1 h2
    have e1 : (192 : Int32) * nI (j + 1) + nI p = nI (192 * (j + 1) + p) := sa_m192 _ _
    have e2 : (192 : Int32) * nI (i + 1) + nI m + nI p = nI (192 * (i + 1) + m + p) := by rw [sa_m192, nI_add]
    have e3 : (192 : Int32) * nI (j + 1) + 96 + nI p = nI (192 * (j + 1) + 96 + p) := by
      show (192 : Int32) * nI (j + 1) + nI 96 + nI p = _
      rw [sa_m192, nI_add]
    have e4 : (192 : Int32) * nI (i + 1) + 96 + nI m + nI p = nI (192 * (i + 1) + 96 + m + p) := by
      show (192 : Int32) * nI (i + 1) + nI 96 + nI m + nI p = _
      rw [sa_m192, nI_add, nI_add]
    have r1 : S' (192 * (j + 1) + p) = S (192 * (j + 1) + p) := h2 _ (by omega) (by omega)
    have r2 : S' (192 * (j + 1) + 96 + p) = S (192 * (j + 1) + 96 + p) := h2 _ (by omega) (by omega)
    refine br_f (nI_ge (by omega) (by omega)) ?_
    rw [e1, e2, e3, e4, sa_cl (n := 192 * (j + 1) + p) (by omega), sa_cl (n := 192 * (i + 1) + m + p) (by omega), sa_cl (n := 192 * (j + 1) + 96 + p) (by omega), sa_cl (n := 192 * (i + 1) + 96 + m + p) (by omega), r1]
    refine ⟨vp_in_nI (by omega) (by decide), vp_in_nI (by omega) (by decide), nm_e ⟨vp_in_nI (by omega) (by decide), vp_in_nI (by omega) (by decide), nm_r (congrArg (upd _ _) ((pk_un (by omega)).trans r2)) (nm_r (nI_1 p) (ih (p + 1) _ (by omega) (fun q hq => ?_) (fun k hk hk' => ?_)))⟩⟩
    · by_cases c : q = p
      · rw [c, pk_un (by omega), pk_us, pk_us]
        exact ⟨rfl, rfl⟩
      · rw [pk_un (by omega), pk_un (by omega), pk_un (by omega), pk_un (by omega)]
        exact h1 q (by omega)
    · rw [pk_un (by omega), pk_un (by omega)]
      exact h2 k (by omega) (by omega)
end
theorem sa_join {P P' S S' : Nat → Int32} {i j m l : Nat} (hml : m + l ≤ 96) (a5 : sa_Good S i m) (a6 : sa_Byt P S i m) (b5 : sa_Good S j l) (b6 : sa_Byt P S j l)
    (h1 : ∀ q, q < 3 * l → P' (289 * i + (1 + 3 * m) + q) = P (289 * j + (1 + 3 * 0) + q)) (h2 : ∀ k, (k < 289 * i + (1 + 3 * m) ∨ 289 * i + (1 + 3 * m) + 3 * l ≤ k) → P' k = P k)
    (h3 : ∀ q, q < l → S' (192 * (i + 1) + m + q) = S (192 * (j + 1) + q) ∧ S' (192 * (i + 1) + 96 + m + q) = S (192 * (j + 1) + 96 + q)) (h4 : ∀ k, (k < 192 * (i + 1) + m ∨ 192 * (i + 1) + m + l ≤ k) → (k < 192 * (i + 1) + 96 + m ∨ 192 * (i + 1) + 96 + m + l ≤ k) → S' k = S k) :
    sa_Good S' i (m + l) ∧ sa_Byt (upd P' (289 * i) (nI (m + l))) S' i (m + l) := by
  have lo : ∀ q, q < m → sa_L S' i q = sa_L S i q ∧ sa_R S' i q = sa_R S i q := fun q hq => ⟨h4 _ (by omega) (by omega), h4 _ (by omega) (by omega)⟩
  have hi : ∀ q, q < l → sa_L S' i (m + q) = sa_L S j q ∧ sa_R S' i (m + q) = sa_R S j q := fun q hq => by
    have z := h3 q hq
    rw [Nat.add_assoc, Nat.add_assoc (192 * (i + 1) + 96)] at z
    exact z
  refine ⟨fun q hq => ?_, sa_3 ?_ (fun q hq => ?_)⟩
  · by_cases c : q < m
    · rw [(lo q c).1, (lo q c).2]
      exact a5 q c
    · obtain ⟨r, rfl⟩ : ∃ r, q = m + r := ⟨q - m, by omega⟩
      rw [(hi r (by omega)).1, (hi r (by omega)).2]
      exact b5 r (by omega)
  · rw [sa_ct_h]
    exact pk_us
  · rw [sa_ct_0, sa_ct_1, sa_ct_2, pk_un (by omega), pk_un (by omega), pk_un (by omega)]
    by_cases c : q < m
    · rw [(lo q c).1, (lo q c).2, h2 _ (by omega), h2 _ (by omega), h2 _ (by omega), a6 _ (by omega), a6 _ (by omega), a6 _ (by omega), sa_ct_0, sa_ct_1, sa_ct_2]
      exact ⟨rfl, rfl, rfl⟩
    · obtain ⟨r, rfl⟩ : ∃ r, q = m + r := ⟨q - m, by omega⟩
      rw [(hi r (by omega)).1, (hi r (by omega)).2]
      have z0 := h1 (3 * r) (by omega)
      have z1 := h1 (3 * r + 1) (by omega)
      have z2 := h1 (3 * r + 2) (by omega)
      have w0 := b6 (1 + 3 * r) (by omega)
      have w1 := b6 (1 + 3 * r + 1) (by omega)
      have w2 := b6 (1 + 3 * r + 2) (by omega)
      rw [sa_ct_0] at w0
      rw [sa_ct_1] at w1
      rw [sa_ct_2] at w2
      rw [show 289 * i + (1 + 3 * m) + 3 * r = 289 * i + (1 + 3 * (m + r)) from by omega, show 289 * j + (1 + 3 * 0) + 3 * r = 289 * j + (1 + 3 * r) from by omega] at z0
      rw [show 289 * i + (1 + 3 * m) + (3 * r + 1) = 289 * i + (1 + 3 * (m + r) + 1) from by omega, show 289 * j + (1 + 3 * 0) + (3 * r + 1) = 289 * j + (1 + 3 * r + 1) from by omega] at z1
      rw [show 289 * i + (1 + 3 * m) + (3 * r + 2) = 289 * i + (1 + 3 * (m + r) + 2) from by omega, show 289 * j + (1 + 3 * 0) + (3 * r + 2) = 289 * j + (1 + 3 * r + 2) from by omega] at z2
      exact ⟨z0.trans w0, z1.trans w1, z2.trans w2⟩
theorem i_vc_join {k : Nat} {u : SX} {v : SY} (I : i_Rel k u v) (hk : k + 5 ≤ 2560) (v1 : Int32) (v2 : Int32) : wpX_join (fun r u' => wpY_join (fun r' v' => r' = r ∧ i_Rel (k + 5) u' v') v v1 v2) u v1 v2 := by
  obtain ⟨f, A, B, P, F, D, T⟩ := u
  obtain ⟨N, S, G⟩ := v
  have J := I
  obtain ⟨n, rfl, hN, hH, hS⟩ := I
  have hn := hH.1
  unfold wpX_join wpY_join
  dsimp only
  by_cases hb : sa_bs v1 ∨ sa_bs v2
  · obtain ⟨hx, hy⟩ := sa_pairB (f := nI n) (A := A) (B := B) (P := P) (F := F) (D := D) (T := T) (N := N) (S := S) (G := G) hb
    refine hx _ ?_
    refine br_f (by decide) ?_
    refine hy _ ?_
    exact br_f (by decide) ⟨rfl, J⟩
  · rcases sa_sl v1 with z | ⟨i, hi, rfl⟩
    · exact absurd (Or.inl z) hb
    · rcases sa_sl v2 with z | ⟨j, hj, rfl⟩
      · exact absurd (Or.inr z) hb
      · rcases sa_two (f := nI n) (A := A) (B := B) hi hj (hS i hi) (hS j hj) with ⟨e, he, hx, hy⟩ | ⟨m, l, ⟨am, a1, a2, a3, a4, a5, a6⟩, ⟨bm, b1, b2, b3, b4, b5, b6⟩, hx, hy⟩
        · refine hx _ ?_
          refine br_f he ?_
          refine hy _ ?_
          exact br_f he ⟨rfl, J⟩
        · refine hx _ ?_
          refine br_t rfl ?_
          refine xx_mom hi (sa_rdH a6) ?_
          refine xx_mom hj (sa_rdH b6) ?_
          refine nm_r (nI_add m l) ?_
          have hij : i ≠ j ∨ l = m := by
            by_cases c : i = j
            · subst c
              exact Or.inr ((nI_eq (by omega) (by omega)).mp (b4.symm.trans a4))
            · exact Or.inl c
          by_cases hml : m + l ≤ 96
          · refine br_t (nI_le (b := 96) hml (by decide)) ?_
            have ep : nI i * 289 + 1 + nI m * 3 = nI (289 * i + (1 + 3 * m)) := sa_pl i m
            have eq : nI j * 289 + 1 + 0 * 3 = nI (289 * j + (1 + 3 * 0)) := sa_pl j 0
            have el : nI l * 3 = nI (3 * l) := by
              show nI l * nI 3 = _
              rw [pk_mul]
              exact congrArg nI (by omega)
            unfold wpX_placeOf
            rw [ep, eq]
            refine nm_r el ⟨3 * l + 1, xx_joi (P := P) (t := 289 * i + (1 + 3 * m)) (s := 289 * j + (1 + 3 * 0)) (K := 3 * l) (w := m + l) hi hml (by omega) (by omega) (fun q hq => by omega) (fun q hq => ?_) (fun P' h1 h2 => ?_) (3 * l) 0 P (by omega) (fun q hq => by omega) (fun _ _ => rfl)⟩
            · have w := b6 (1 + q) (by omega)
              obtain ⟨z, ez⟩ := sa_ct_b (sa_L S j) (sa_R S j) bm (1 + q)
              rw [show 289 * j + (1 + 3 * 0) + q = 289 * j + (1 + q) from by omega, w, ez, pk_vb]
            · refine hy _ ?_
              refine br_t rfl (nm_r (nI_1 i) (nm_r (nI_1 j) ?_))
              rw [sa_cl (n := i + 1) (by omega), sa_cl (n := j + 1) (by omega), a4, b4]
              refine ⟨vp_in_nI (by omega) (by decide), nm_e ⟨vp_in_nI (by omega) (by decide), nm_e ?_⟩⟩
              refine br_t (by rw [nI_add]; exact nI_le (b := 96) hml (by decide)) ⟨l + 1, yy_joi (S := S) hi hj hml hij (fun S' h3 h4 => ?_) l 0 S (by omega) (fun q hq => by omega) (fun _ _ _ => rfl)⟩
              obtain ⟨g1, g2⟩ := sa_join hml a5 a6 b5 b6 h1 h2 h3 h4
              have hh : sa_Hand n A B S' := ⟨hn, fun q hq => by
                rw [h4 q (by omega) (by omega), h4 (96 + q) (by omega) (by omega)]
                exact hH.2 q hq⟩
              have new : sa_Slot (upd P' (289 * i) (nI (m + l))) F D T (upd N (i + 1) (nI (m + l))) S' G i := Or.inr ⟨m + l, hml, a1, pk_us, g1, Or.inl ⟨a2, a3, g2⟩⟩
              have fin : sa_Rel (nI n) A B (upd P' (289 * i) (nI (m + l))) F D T (upd N (i + 1) (nI (m + l))) S' G :=
                ⟨n, rfl, by rw [pk_un (by omega)]; exact hN, hh, sa_slots (j := i) hS (fun k hk => (pk_un (by omega)).trans (h2 k (by omega))) (fun _ _ => rfl) (fun _ _ => rfl) (fun _ _ => rfl) (fun q hq => pk_un (by omega)) (fun k _ hk => h4 k (by omega) (by omega)) (fun _ _ => rfl) new⟩
              exact ⟨rfl, fin⟩
          · refine br_f (nI_ge (a := 96) (by omega) (by omega)) ?_
            refine hy _ ?_
            refine br_t rfl (nm_r (nI_1 i) (nm_r (nI_1 j) ?_))
            rw [sa_cl (n := i + 1) (by omega), sa_cl (n := j + 1) (by omega), a4, b4]
            refine ⟨vp_in_nI (by omega) (by decide), nm_e ⟨vp_in_nI (by omega) (by decide), nm_e ?_⟩⟩
            exact br_f (by rw [nI_add]; exact nI_ge (a := 96) (by omega) (by omega)) ⟨rfl, J⟩
end
section
/-! tone: the loops of both sides -/
section
variable {f : Int32} {A B P F D T N S G : Nat → Int32}
def sa_ap (va vb : Nat → Int32) (n i : Nat) (A B A' B' : Nat → Int32) : Prop := (∀ q, q < n → A' q = A q ∧ B' q = B q) ∧ (∀ q, q < i → A' (n + q) = va q ∧ B' (n + q) = vb q)
theorem sa_ap_0 (va vb : Nat → Int32) (n : Nat) : sa_ap va vb n 0 A B A B := ⟨fun _ _ => ⟨rfl, rfl⟩, fun q hq => by omega⟩
theorem sa_ap_s {va vb : Nat → Int32} {n i : Nat} {A' B' : Nat → Int32} {x y : Int32} (h : sa_ap va vb n i A B A' B') (hx : x = va i) (hy : y = vb i) : sa_ap va vb n (i + 1) A B (upd A' (n + i) x) (upd B' (n + i) y) := by
  refine ⟨fun q hq => ?_, fun q hq => ?_⟩
  · rw [pk_un (by omega), pk_un (by omega)]
    exact h.1 q hq
  · by_cases c : q = i
    · rw [c, pk_us, pk_us]
      exact ⟨hx, hy⟩
    · rw [pk_un (by omega), pk_un (by omega)]
      exact h.2 q (by omega)
def sa_ay (va vb : Nat → Int32) (n i : Nat) (S S' : Nat → Int32) : Prop := (∀ q, q < n → S' q = S q ∧ S' (96 + q) = S (96 + q)) ∧ (∀ q, q < i → S' (n + q) = va q ∧ S' (96 + (n + q)) = vb q) ∧ (∀ k, 192 ≤ k → S' k = S k)
theorem sa_ay_0 (va vb : Nat → Int32) (n : Nat) : sa_ay va vb n 0 S S := ⟨fun _ _ => ⟨rfl, rfl⟩, fun q hq => by omega, fun _ _ => rfl⟩
theorem sa_ay_s {va vb : Nat → Int32} {n i : Nat} {S' : Nat → Int32} {x y : Int32} (hn : n + i < 96) (h : sa_ay va vb n i S S') (hx : x = va i) (hy : y = vb i) : sa_ay va vb n (i + 1) S (upd (upd S' (n + i) x) (96 + (n + i)) y) := by
  refine ⟨fun q hq => ?_, fun q hq => ?_, fun k hk => ?_⟩
  · rw [pk_un (by omega), pk_un (by omega), pk_un (by omega), pk_un (by omega)]
    exact h.1 q hq
  · by_cases c : q = i
    · rw [c, pk_un (by omega), pk_us, pk_us]
      exact ⟨hx, hy⟩
    · rw [pk_un (by omega), pk_un (by omega), pk_un (by omega), pk_un (by omega)]
      exact h.2.1 q (by omega)
  · rw [pk_un (by omega), pk_un (by omega)]
    exact h.2.2 k hk
def sa_ae (o dl n : Nat) (b : Int32) (i : Nat) (S S' : Nat → Int32) : Prop := (∀ q, q < n → S' (o + q) = S (o + q)) ∧ (∀ p, n ≤ p → p < n + i → S' (o + p) = sa_wr (if p < dl then b else S' (o + (p - dl)) + b))
theorem sa_ae_0 (o dl n : Nat) (b : Int32) : sa_ae o dl n b 0 S S := ⟨fun _ _ => rfl, fun p hp hq => by omega⟩
theorem sa_ae_s {o dl n i : Nat} {b : Int32} {S' S'' : Nat → Int32} (hd : 1 ≤ dl) (h : sa_ae o dl n b i S S') (hx : S'' (o + (n + i)) = sa_wr (if n + i < dl then b else S' (o + (n + i - dl)) + b)) (hq : ∀ q, q < n + i → S'' (o + q) = S' (o + q)) : sa_ae o dl n b (i + 1) S S'' := by
  refine ⟨fun q hq' => ?_, fun p hp hq' => ?_⟩
  · rw [hq q (by omega)]
    exact h.1 q hq'
  · by_cases c : p = n + i
    · subst c
      rw [hx]
      by_cases e : n + i < dl
      · rw [if_pos e, if_pos e]
      · rw [if_neg e, if_neg e, hq _ (by omega)]
    · rw [hq p (by omega), h.2 p hp (by omega)]
      by_cases e : p < dl
      · rw [if_pos e, if_pos e]
      · rw [if_neg e, if_neg e, hq _ (by omega)]
theorem xx_slo {post : SX → Prop} {a b : Int32} {n m : Nat} (hm : n + m ≤ 96) (h : ∀ A' B' : Nat → Int32, sa_ap (fun q => sa_wr (a + b * nI q)) (fun q => sa_wr (a - b * nI q)) n m A B A' B' → post (nI (n + m), A', B', P, F, D, T)) :
    ∀ (d i : Nat) (A' B' : Nat → Int32), i + d = m → sa_ap (fun q => sa_wr (a + b * nI q)) (fun q => sa_wr (a - b * nI q)) n i A B A' B' → wX_addSlopes_3 post a b (nI m) (d + 1) (nI i) (nI (n + i)) A' B' P F D T := by
  intro d
  induction d with
  | zero =>
    intro i A' B' hi h1
    obtain rfl : i = m := by omega
    exact br_t (nI_le (by omega) (by omega)) (h A' B' h1)
  | succ d ih =>
    intro i A' B' hi h1
    refine br_f (nI_ge (by omega) (by omega)) ?_
    refine xx_addW (by omega) ?_
    exact nm_r (nI_1 i) (ih (i + 1) _ _ (by omega) (sa_ap_s h1 rfl rfl))
theorem xx_noi {post : SX → Prop} {a b : Int32} {n m : Nat} (hm : n + m ≤ 96) (h : ∀ A' B' : Nat → Int32, sa_ap (fun q => sa_wr ((sa_sd a (q + 1)).toUInt32 >>> ((16 : Int32).toUInt32 &&& Int32.toUInt32 31)).toInt32) (fun q => sa_wr (((sa_sd a (q + 1)).toUInt32 >>> ((16 : Int32).toUInt32 &&& Int32.toUInt32 31)).toInt32 + b)) n m A B A' B' → post (nI (n + m), A', B', P, F, D, T)) :
    ∀ (d i : Nat) (A' B' : Nat → Int32), i + d = m → sa_ap (fun q => sa_wr ((sa_sd a (q + 1)).toUInt32 >>> ((16 : Int32).toUInt32 &&& Int32.toUInt32 31)).toInt32) (fun q => sa_wr (((sa_sd a (q + 1)).toUInt32 >>> ((16 : Int32).toUInt32 &&& Int32.toUInt32 31)).toInt32 + b)) n i A B A' B' → wX_addNoise_6 post b (nI m) (d + 1) (sa_sd a i) (nI i) (nI (n + i)) A' B' P F D T := by
  intro d
  induction d with
  | zero =>
    intro i A' B' hi h1
    obtain rfl : i = m := by omega
    exact br_t (nI_le (by omega) (by omega)) (h A' B' h1)
  | succ d ih =>
    intro i A' B' hi h1
    refine br_f (nI_ge (by omega) (by omega)) (nm_r (show sa_sd a i * 1103515245 + 12345 = sa_sd a (i + 1) from rfl) ?_)
    refine xx_addW (by omega) ?_
    exact nm_r (nI_1 i) (ih (i + 1) _ _ (by omega) (sa_ap_s h1 rfl rfl))
theorem xx_cur {post : SX → Prop} {a b : Int32} {n m : Nat} (hm : n + m ≤ 96) (h : ∀ A' B' : Nat → Int32, sa_ap (fun q => sa_wr (a * nI q * nI q / 16 + b)) (fun q => sa_wr (a * nI q * nI q / 16 + b)) n m A B A' B' → post (nI (n + m), A', B', P, F, D, T)) :
    ∀ (d i : Nat) (A' B' : Nat → Int32), i + d = m → sa_ap (fun q => sa_wr (a * nI q * nI q / 16 + b)) (fun q => sa_wr (a * nI q * nI q / 16 + b)) n i A B A' B' → wX_addCurve_3 post a b (nI m) (d + 1) (nI i) (nI (n + i)) A' B' P F D T := by
  intro d
  induction d with
  | zero =>
    intro i A' B' hi h1
    obtain rfl : i = m := by omega
    exact br_t (nI_le (by omega) (by omega)) (h A' B' h1)
  | succ d ih =>
    intro i A' B' hi h1
    refine br_f (nI_ge (by omega) (by omega)) ⟨by decide, nm_e ?_⟩
    refine xx_addW (by omega) ?_
    exact nm_r (nI_1 i) (ih (i + 1) _ _ (by omega) (sa_ap_s h1 rfl rfl))
theorem sa_aeX {dl n i : Nat} {b x : Int32} {A' : Nat → Int32} (hd : 1 ≤ dl) (h : sa_ae 0 dl n b i A A') (hx : x = sa_wr (if n + i < dl then b else A' (n + i - dl) + b)) : sa_ae 0 dl n b (i + 1) A (upd A' (n + i) x) := by
  refine sa_ae_s hd h ?_ (fun q hq => ?_)
  · rw [Nat.zero_add, Nat.zero_add, pk_us, hx]
  · rw [Nat.zero_add, pk_un (by omega)]
theorem xx_ech {post : SX → Prop} {b : Int32} {n m dl : Nat} (hm : n + m ≤ 96) (hd : 1 ≤ dl) (hd' : dl ≤ 16) (h : ∀ A' B' : Nat → Int32, sa_ae 0 dl n b m A A' → sa_ae 0 dl n b m B B' → post (nI (n + m), A', B', P, F, D, T)) :
    ∀ (d i : Nat) (A' B' : Nat → Int32), i + d = m → sa_ae 0 dl n b i A A' → sa_ae 0 dl n b i B B' → wX_addEcho_11 post b (nI m) (nI dl) (d + 1) (nI i) (nI (n + i)) A' B' P F D T := by
  intro d
  induction d with
  | zero =>
    intro i A' B' hi h1 h2
    obtain rfl : i = m := by omega
    exact br_t (nI_le (by omega) (by omega)) (h A' B' h1 h2)
  | succ d ih =>
    intro i A' B' hi h1 h2
    by_cases c : dl ≤ n + i
    · refine br_f (nI_ge (by omega) (by omega)) (nm_r (pk_sub c) (br_t (nI_pos' (by omega)) ?_))
      rw [sa_cl (n := n + i - dl) (by omega)]
      refine ⟨vp_in_nI (by omega) (by decide), vp_in_nI (by omega) (by decide), ?_⟩
      refine xx_addW (by omega) ?_
      exact nm_r (nI_1 i) (ih (i + 1) _ _ (by omega) (sa_aeX hd h1 (by rw [if_neg (by omega)])) (sa_aeX hd h2 (by rw [if_neg (by omega)])))
    · refine br_f (nI_ge (by omega) (by omega)) (nm_e (br_f (Int32.not_le.mpr (pk_sneg (by omega) (by omega))) ?_))
      refine xx_addW (by omega) ?_
      exact nm_r (nI_1 i) (ih (i + 1) _ _ (by omega) (sa_aeX hd h1 (by rw [if_pos (by omega)])) (sa_aeX hd h2 (by rw [if_pos (by omega)])))
theorem yy_200 {post : Int32 → SY → Prop} {J : Int32 → Int32 → (Nat → Int32) → (Nat → Int32) → (Nat → Int32) → Prop} {x1 x2 x3 x5 x7 x8 x11 x12 : Int32} {p i : Nat} (hp : p < 96)
    (h : J x5 (nI (i + 1)) (upd N 0 (N 0 + 1)) (upd (upd S p (sa_wr x11)) (96 + p) (sa_wr x12)) G) : wY_tone_200 post J x1 x2 x3 x5 x7 x8 (nI i) (nI p) x11 x12 N S G := by
  unfold wY_tone_200
  refine yy_wr ?_
  refine yy_wr ?_
  refine yy_put hp ?_
  exact nm_e (nm_r (nI_1 i) h)
theorem sa_nn {N' : Nat → Int32} {p : Nat} (h : N' 0 = nI p) : upd N' 0 (N' 0 + 1) 0 = nI (p + 1) := by rw [pk_us, h, nI_1]
theorem yy_slo {post : Int32 → SY → Prop} {a b x8 : Int32} {n m : Nat} (hm : n + m ≤ 96) (h : ∀ N' S' : Nat → Int32, N' 0 = nI (n + m) → (∀ k, k ≠ 0 → N' k = N k) → sa_ay (fun q => sa_wr (a + b * nI q)) (fun q => sa_wr (a - b * nI q)) n m S S' → post (nI m) (N', S', G)) :
    ∀ (d i : Nat) (s : Int32) (N' S' : Nat → Int32), i + d = m → N' 0 = nI (n + i) → (∀ k, k ≠ 0 → N' k = N k) → sa_ay (fun q => sa_wr (a + b * nI q)) (fun q => sa_wr (a - b * nI q)) n i S S' → wY_tone_59 post 0 a b (nI m) x8 (d + 1) s (nI i) N' S' G := by
  intro d
  induction d with
  | zero =>
    intro i s N' S' hi h1 h2 h3
    obtain rfl : i = m := by omega
    exact br_t (nI_le (by omega) (by omega)) (h N' S' h1 h2 h3)
  | succ d ih =>
    intro i s N' S' hi h1 h2 h3
    refine br_f (nI_ge (by omega) (by omega)) (nm_r h1 (nm_e (nm_e (nm_e (br_f (by decide) (br_f (by decide) (br_f (by decide) ?_)))))))
    refine yy_200 (by omega) ?_
    exact ih (i + 1) _ _ _ (by omega) (sa_nn h1) (fun k hk => (pk_un hk).trans (h2 k hk)) (sa_ay_s (by omega) h3 rfl rfl)
theorem yy_noi {post : Int32 → SY → Prop} {a b x8 : Int32} {n m : Nat} (hm : n + m ≤ 96) (h : ∀ N' S' : Nat → Int32, N' 0 = nI (n + m) → (∀ k, k ≠ 0 → N' k = N k) → sa_ay (fun q => sa_wr ((sa_sd a (q + 1)).toUInt32 >>> ((16 : Int32).toUInt32 &&& Int32.toUInt32 31)).toInt32) (fun q => sa_wr (((sa_sd a (q + 1)).toUInt32 >>> ((16 : Int32).toUInt32 &&& Int32.toUInt32 31)).toInt32 + b)) n m S S' → post (nI m) (N', S', G)) :
    ∀ (d i : Nat) (N' S' : Nat → Int32), i + d = m → N' 0 = nI (n + i) → (∀ k, k ≠ 0 → N' k = N k) → sa_ay (fun q => sa_wr ((sa_sd a (q + 1)).toUInt32 >>> ((16 : Int32).toUInt32 &&& Int32.toUInt32 31)).toInt32) (fun q => sa_wr (((sa_sd a (q + 1)).toUInt32 >>> ((16 : Int32).toUInt32 &&& Int32.toUInt32 31)).toInt32 + b)) n i S S' → wY_tone_59 post 1 a b (nI m) x8 (d + 1) (sa_sd a i) (nI i) N' S' G := by
  intro d
  induction d with
  | zero =>
    intro i N' S' hi h1 h2 h3
    obtain rfl : i = m := by omega
    exact br_t (nI_le (by omega) (by omega)) (h N' S' h1 h2 h3)
  | succ d ih =>
    intro i N' S' hi h1 h2 h3
    refine br_f (nI_ge (by omega) (by omega)) (nm_r h1 (nm_r (show sa_sd a i * 1103515245 + 12345 = sa_sd a (i + 1) from rfl) (nm_e (nm_e (br_t rfl (nm_e (nm_e (br_f (by decide) (br_f (by decide) ?_)))))))))
    refine yy_200 (by omega) ?_
    exact ih (i + 1) _ _ (by omega) (sa_nn h1) (fun k hk => (pk_un hk).trans (h2 k hk)) (sa_ay_s (by omega) h3 rfl rfl)
theorem yy_cur {post : Int32 → SY → Prop} {a b x8 : Int32} {n m : Nat} (hm : n + m ≤ 96) (h : ∀ N' S' : Nat → Int32, N' 0 = nI (n + m) → (∀ k, k ≠ 0 → N' k = N k) → sa_ay (fun q => sa_wr (a * nI q * nI q / 16 + b)) (fun q => sa_wr (a * nI q * nI q / 16 + b)) n m S S' → post (nI m) (N', S', G)) :
    ∀ (d i : Nat) (s : Int32) (N' S' : Nat → Int32), i + d = m → N' 0 = nI (n + i) → (∀ k, k ≠ 0 → N' k = N k) → sa_ay (fun q => sa_wr (a * nI q * nI q / 16 + b)) (fun q => sa_wr (a * nI q * nI q / 16 + b)) n i S S' → wY_tone_59 post 2 a b (nI m) x8 (d + 1) s (nI i) N' S' G := by
  intro d
  induction d with
  | zero =>
    intro i s N' S' hi h1 h2 h3
    obtain rfl : i = m := by omega
    exact br_t (nI_le (by omega) (by omega)) (h N' S' h1 h2 h3)
  | succ d ih =>
    intro i s N' S' hi h1 h2 h3
    refine br_f (nI_ge (by omega) (by omega)) (nm_r h1 (nm_e (nm_e (nm_e (br_f (by decide) (br_t rfl ⟨by decide, nm_e (br_f (by decide) ?_)⟩))))))
    refine yy_200 (by omega) ?_
    exact ih (i + 1) _ _ _ (by omega) (sa_nn h1) (fun k hk => (pk_un hk).trans (h2 k hk)) (sa_ay_s (by omega) h3 rfl rfl)
theorem yy_ech {post : Int32 → SY → Prop} {a b : Int32} {n m dl : Nat} (hm : n + m ≤ 96) (hd : 1 ≤ dl) (hd' : dl ≤ 16) (h : ∀ N' S' : Nat → Int32, N' 0 = nI (n + m) → (∀ k, k ≠ 0 → N' k = N k) → sa_ae 0 dl n b m S S' → sa_ae 96 dl n b m S S' → (∀ k, 192 ≤ k → S' k = S k) → post (nI m) (N', S', G)) :
    ∀ (d i : Nat) (s : Int32) (N' S' : Nat → Int32), i + d = m → N' 0 = nI (n + i) → (∀ k, k ≠ 0 → N' k = N k) → sa_ae 0 dl n b i S S' → sa_ae 96 dl n b i S S' → (∀ k, 192 ≤ k → S' k = S k) → wY_tone_59 post 3 a b (nI m) (nI dl) (d + 1) s (nI i) N' S' G := by
  intro d
  induction d with
  | zero =>
    intro i s N' S' hi h1 h2 h3 h4 h5
    obtain rfl : i = m := by omega
    exact br_t (nI_le (by omega) (by omega)) (h N' S' h1 h2 h3 h4 h5)
  | succ d ih =>
    intro i s N' S' hi h1 h2 h3 h4 h5
    have key : ∀ x y : Int32, x = (if n + i < dl then b else S' (n + i - dl) + b) → y = (if n + i < dl then b else S' (96 + (n + i - dl)) + b) → wY_tone_200 post (wY_tone_59 post 3 a b (nI m) (nI dl) (d + 1)) 3 a b (s * 1103515245 + 12345) (nI m) (nI dl) (nI i) (nI (n + i)) x y N' S' G := by
      intro x y ex ey
      refine yy_200 (by omega) ?_
      refine ih (i + 1) _ _ _ (by omega) (sa_nn h1) (fun k hk => (pk_un hk).trans (h2 k hk)) ?_ ?_ (fun k hk => ?_)
      · refine sa_ae_s hd h3 ?_ (fun q hq => ?_)
        · rw [Nat.zero_add, Nat.zero_add, pk_un (by omega), pk_us, ex]
        · rw [Nat.zero_add, pk_un (by omega), pk_un (by omega)]
      · refine sa_ae_s hd h4 ?_ (fun q hq => ?_)
        · rw [pk_us, ey]
        · rw [pk_un (by omega), pk_un (by omega)]
      · rw [pk_un (by omega), pk_un (by omega)]
        exact h5 k hk
    refine br_f (nI_ge (by omega) (by omega)) (nm_r h1 (nm_e (nm_e (nm_e (br_f (by decide) (br_f (by decide) (br_t rfl ?_)))))))
    by_cases c : dl ≤ n + i
    · have e1 : nI (n + i) - nI dl = nI (n + i - dl) := pk_sub c
      have e2 : (96 : Int32) + nI (n + i) - nI dl = nI (96 + (n + i - dl)) := by
        rw [sa_96, pk_sub (by omega)]
        exact congrArg nI (by omega)
      refine br_t (nI_le c (by omega)) ?_
      rw [e1, sa_cl (n := n + i - dl) (by omega)]
      refine ⟨vp_in_nI (by omega) (by decide), br_t (nI_le c (by omega)) ?_⟩
      rw [e2, sa_cl (n := 96 + (n + i - dl)) (by omega)]
      exact ⟨vp_in_nI (by omega) (by decide), key _ _ (by rw [if_neg (by omega)]) (by rw [if_neg (by omega)])⟩
    · refine br_f (nI_ge (by omega) (by omega)) (br_f (nI_ge (by omega) (by omega)) ?_)
      exact key _ _ (by rw [if_pos (by omega)]) (by rw [if_pos (by omega)])
end
end
section
/-! tone: the two sides together -/
theorem sa_Hand_ap {va vb : Nat → Int32} {n m : Nat} {A B S A' B' S' : Nat → Int32} (hv : ∀ q, sa_sm (va q) ∧ sa_sm (vb q)) (hm : n + m ≤ 96) (h : sa_Hand n A B S) (hX : sa_ap va vb n m A B A' B') (hY : sa_ay va vb n m S S') : sa_Hand (n + m) A' B' S' := by
  refine ⟨hm, fun i hi => ?_⟩
  by_cases c : i < n
  · rw [(hX.1 i c).1, (hX.1 i c).2, (hY.1 i c).1, (hY.1 i c).2]
    exact h.2 i c
  · obtain ⟨q, rfl⟩ : ∃ q, i = n + q := ⟨i - n, by omega⟩
    rw [(hX.2 q (by omega)).1, (hX.2 q (by omega)).2, (hY.2.1 q (by omega)).1, (hY.2.1 q (by omega)).2]
    exact ⟨rfl, rfl, (hv q).1, (hv q).2⟩
theorem sa_Hand_ae {n m dl : Nat} {b : Int32} {A B S A' B' S' : Nat → Int32} (hd : 1 ≤ dl) (hm : n + m ≤ 96) (h : sa_Hand n A B S) (hA : sa_ae 0 dl n b m A A') (hB : sa_ae 0 dl n b m B B') (hL : sa_ae 0 dl n b m S S') (hR : sa_ae 96 dl n b m S S') : sa_Hand (n + m) A' B' S' := by
  refine ⟨hm, fun i => ?_⟩
  induction i using Nat.strongRecOn with
  | ind i ih =>
    intro hi
    by_cases c : i < n
    · have a1 := hA.1 i c
      have b1 := hB.1 i c
      have l1 := hL.1 i c
      rw [Nat.zero_add] at a1 b1 l1
      rw [a1, b1, l1, hR.1 i c]
      exact h.2 i c
    · have a1 := hA.2 i (by omega) (by omega)
      have b1 := hB.2 i (by omega) (by omega)
      have l1 := hL.2 i (by omega) (by omega)
      rw [Nat.zero_add, Nat.zero_add] at a1 b1 l1
      rw [a1, b1, l1, hR.2 i (by omega) (by omega)]
      by_cases e : i < dl
      · rw [if_pos e, if_pos e, if_pos e, if_pos e]
        exact ⟨rfl, rfl, sa_wrR _, sa_wrR _⟩
      · have z := ih (i - dl) (by omega) (by omega)
        rw [if_neg e, if_neg e, if_neg e, if_neg e, z.1, z.2.1]
        exact ⟨rfl, rfl, sa_wrR _, sa_wrR _⟩
theorem i_vc_tone {k : Nat} {u : SX} {v : SY} (I : i_Rel k u v) (hk : k + 5 ≤ 2560) (v1 : Int32) (v2 : Int32) (v3 : Int32) (v4 : Int32) : wpX_tone (fun r u' => wpY_tone (fun r' v' => r' = r ∧ i_Rel (k + 5) u' v') v v1 v2 v3 v4) u v1 v2 v3 v4 := by
  obtain ⟨f, A, B, P, F, D, T⟩ := u
  obtain ⟨N, S, G⟩ := v
  have J := I
  obtain ⟨n, rfl, hN, hH, hS⟩ := I
  have hn := hH.1
  rcases sa_kd v1 with (h | ⟨h1, h2⟩) | hkd
  · unfold wpX_tone wpY_tone
    dsimp only
    exact br_t h (br_t h ⟨rfl, J⟩)
  · unfold wpX_tone wpY_tone
    dsimp only
    exact br_f h1 (br_t h2 (br_f h1 (br_t h2 ⟨rfl, J⟩)))
  · have k0 : ¬ v1 < 0 := by rcases hkd with rfl | rfl | rfl | rfl <;> decide
    have k3 : ¬ 3 < v1 := by rcases hkd with rfl | rfl | rfl | rfl <;> decide
    by_cases h4 : 0 ≤ v4
    · obtain ⟨q, hq, rfl⟩ := nI_of (x := v4) (Int32.not_lt.mpr h4)
      have er : (96 : Int32) - nI n = nI (96 - n) := pk_sub (a := 96) hn
      have er' : (96 : Int32) - N 0 = nI (96 - n) := by rw [hN]; exact er
      obtain ⟨m, hm, hX, hY⟩ : ∃ m, n + m ≤ 96 ∧ (∀ post : Int32 → SX → Prop, wX_tone_41 post v1 v2 v3 (nI m) (nI n) A B P F D T → wpX_tone post (nI n, A, B, P, F, D, T) v1 v2 v3 (nI q)) ∧ (∀ post : Int32 → SY → Prop, wY_tone_46 post v1 v2 v3 v2 (nI m) N S G → wpY_tone post (N, S, G) v1 v2 v3 (nI q)) := by
        by_cases c : 96 - n ≤ q
        · exact ⟨96 - n, by omega, fun post w => br_f k0 (br_f k3 (br_t h4 (nm_r er (br_t (nI_le c hq) w)))), fun post w => br_f k0 (br_f k3 (br_t h4 (nm_r er' (br_t (nI_le c hq) w))))⟩
        · exact ⟨q, by omega, fun post w => br_f k0 (br_f k3 (br_t h4 (nm_r er (br_f (nI_ge (by omega) (by omega)) w)))), fun post w => br_f k0 (br_f k3 (br_t h4 (nm_r er' (br_f (nI_ge (by omega) (by omega)) w))))⟩
      obtain ⟨dl, hd, hd', ed⟩ : ∃ dl : Nat, 1 ≤ dl ∧ dl ≤ 16 ∧ (v2 &&& 15) + 1 = nI dl := by
        obtain ⟨e, he, ee⟩ := pk_andE v2 (m := 15) 4 (by decide)
        exact ⟨e + 1, by omega, by omega, by rw [ee, nI_1]⟩
      refine hX _ ?_
      rcases hkd with rfl | rfl | rfl | rfl
      · refine br_f (by decide) (br_f (by decide) (br_t rfl ?_))
        unfold wpX_addSlopes
        dsimp only
        refine ⟨m + 1, xx_slo (A := A) (B := B) hm (fun A' B' hA => ?_) m 0 A B (by omega) (sa_ap_0 _ _ _)⟩
        refine hY _ ?_
        refine nm_r ed ⟨m + 1, yy_slo (N := N) (S := S) hm (fun N' S' g1 g2 g3 => ?_) m 0 _ N S (by omega) hN (fun _ _ => rfl) (sa_ay_0 _ _ _)⟩
        exact ⟨rfl, sa_hand hS g1 g2 g3.2.2 (sa_Hand_ap (fun q => ⟨sa_wrR _, sa_wrR _⟩) hm hH hA g3)⟩
      · refine br_f (by decide) (br_f (by decide) (br_f (by decide) (br_t rfl ?_)))
        unfold wpX_addNoise
        dsimp only
        refine ⟨m + 1, xx_noi (A := A) (B := B) hm (fun A' B' hA => ?_) m 0 A B (by omega) (sa_ap_0 _ _ _)⟩
        refine hY _ ?_
        refine nm_r ed ⟨m + 1, yy_noi (N := N) (S := S) hm (fun N' S' g1 g2 g3 => ?_) m 0 N S (by omega) hN (fun _ _ => rfl) (sa_ay_0 _ _ _)⟩
        exact ⟨rfl, sa_hand hS g1 g2 g3.2.2 (sa_Hand_ap (fun q => ⟨sa_wrR _, sa_wrR _⟩) hm hH hA g3)⟩
      · refine br_f (by decide) (br_f (by decide) (br_f (by decide) (br_f (by decide) (br_t rfl ?_))))
        unfold wpX_addCurve
        dsimp only
        refine ⟨m + 1, xx_cur (A := A) (B := B) hm (fun A' B' hA => ?_) m 0 A B (by omega) (sa_ap_0 _ _ _)⟩
        refine hY _ ?_
        refine nm_r ed ⟨m + 1, yy_cur (N := N) (S := S) hm (fun N' S' g1 g2 g3 => ?_) m 0 _ N S (by omega) hN (fun _ _ => rfl) (sa_ay_0 _ _ _)⟩
        exact ⟨rfl, sa_hand hS g1 g2 g3.2.2 (sa_Hand_ap (fun q => ⟨sa_wrR _, sa_wrR _⟩) hm hH hA g3)⟩
      · refine br_f (by decide) (br_t (by decide) ?_)
        unfold wpX_addEcho
        dsimp only
        refine nm_r ed ⟨m + 1, xx_ech (A := A) (B := B) hm hd hd' (fun A' B' hA hB => ?_) m 0 A B (by omega) (sa_ae_0 _ _ _ _) (sa_ae_0 _ _ _ _)⟩
        refine hY _ ?_
        refine nm_r ed ⟨m + 1, yy_ech (N := N) (S := S) hm hd hd' (fun N' S' g1 g2 g3 g4 g5 => ?_) m 0 _ N S (by omega) hN (fun _ _ => rfl) (sa_ae_0 _ _ _ _) (sa_ae_0 _ _ _ _) (fun _ _ => rfl)⟩
        exact ⟨rfl, sa_hand hS g1 g2 g5 (sa_Hand_ae hd hm hH hA hB g3 g4)⟩
    · unfold wpX_tone wpY_tone
      dsimp only
      exact br_f k0 (br_f k3 (br_f h4 (br_f k0 (br_f k3 (br_f h4 ⟨rfl, J⟩)))))
end
