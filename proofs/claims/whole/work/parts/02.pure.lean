/-! samples, wrapping, packing: pure facts -/
def sa_wr (x : Int32) : Int32 := (x <<< ((20 : Int32) &&& 31)) >>> ((20 : Int32) &&& 31)
def sa_sm (x : Int32) : Prop := -2048 ≤ x.toInt ∧ x.toInt ≤ 2047
theorem sa_tn (x : Int32) : (x.toBitVec.toNat < 2147483648 ∧ x.toInt = (x.toBitVec.toNat : Int)) ∨ (2147483648 ≤ x.toBitVec.toNat ∧ x.toBitVec.toNat < 4294967296 ∧ x.toInt = (x.toBitVec.toNat : Int) - 4294967296) := by
  have h := x.toBitVec.isLt
  have e : x.toInt = x.toBitVec.toInt := rfl
  rw [BitVec.toInt_eq_toNat_cond] at e
  by_cases c : 2 * x.toBitVec.toNat < 2 ^ 32
  · rw [if_pos c] at e
    exact Or.inl ⟨by omega, e⟩
  · rw [if_neg c] at e
    exact Or.inr ⟨by omega, by omega, by omega⟩
theorem sa_wrN (n : Nat) (y z : Int) (h3 : (n < 2147483648 ∧ z = (n : Int)) ∨ (2147483648 ≤ n ∧ n < 4294967296 ∧ z = (n : Int) - 4294967296))
    (h4 : (n * 1048576 % 4294967296 < 2147483648 ∧ y = ((n * 1048576 % 4294967296 : Nat) : Int)) ∨ (2147483648 ≤ n * 1048576 % 4294967296 ∧ n * 1048576 % 4294967296 < 4294967296 ∧ y = ((n * 1048576 % 4294967296 : Nat) : Int) - 4294967296)) :
    y / 1048576 = (z + 2048) % 4096 - 2048 := by omega
theorem sa_wrI (x : Int32) : (sa_wr x).toInt = (x.toInt + 2048) % 4096 - 2048 := by
  have h1 : (sa_wr x).toInt = (x <<< ((20 : Int32) &&& 31)).toInt >>> 20 := pk_shr _ _ 20 (by decide)
  have h2 : (x <<< ((20 : Int32) &&& 31)).toBitVec.toNat = x.toBitVec.toNat * 1048576 % 4294967296 := pk_shl _ _ 20 (by decide)
  have h4 := sa_tn (x <<< ((20 : Int32) &&& 31))
  rw [h2] at h4
  rw [h1, Int.shiftRight_eq_div_pow]
  exact sa_wrN x.toBitVec.toNat _ _ (sa_tn x) h4
theorem sa_wrR (x : Int32) : sa_sm (sa_wr x) := by
  have h := sa_wrI x
  unfold sa_sm
  omega
theorem sa_wrS {x : Int32} (h : sa_sm x) : sa_wr x = x := by
  apply Int32.toInt_inj.mp
  rw [sa_wrI]
  unfold sa_sm at h
  omega
theorem sa_wrM (n : Nat) (z : Int) (h3 : (n < 2147483648 ∧ z = (n : Int)) ∨ (2147483648 ≤ n ∧ n < 4294967296 ∧ z = (n : Int) - 4294967296)) :
    (((n + 2048) % 4294967296 % 4096 : Nat) : Int) - 2048 = (z + 2048) % 4096 - 2048 := by omega
theorem sa_wrY (x : Int32) : ((x + 2048) &&& 4095) - 2048 = sa_wr x := by
  apply Int32.toInt_inj.mp
  have h2 : (x + 2048).toBitVec.toNat = (x.toBitVec.toNat + 2048) % 4294967296 := by
    rw [Int32.toBitVec_add, BitVec.toNat_add]
    rfl
  have h0 : (x + 2048) &&& 4095 = nI ((x.toBitVec.toNat + 2048) % 4294967296 % 4096) := by
    rw [pk_and (x + 2048) 12 (by decide), h2]
  have h1 : (nI ((x.toBitVec.toNat + 2048) % 4294967296 % 4096) - (2048 : Int32)).toInt = (((x.toBitVec.toNat + 2048) % 4294967296 % 4096 : Nat) : Int) - 2048 := pk_sub_toInt (b := 2048) (by omega) (by decide)
  rw [h0, h1, sa_wrI]
  exact sa_wrM _ _ (sa_tn x)
theorem sa_smI (x : Int32) : sa_sm x ↔ (-2048 : Int32) ≤ x ∧ x ≤ 2047 := by
  unfold sa_sm
  rw [Int32.le_iff_toInt_le, Int32.le_iff_toInt_le, show (-2048 : Int32).toInt = -2048 from by decide, show (2047 : Int32).toInt = 2047 from by decide]
theorem sa_halfZ (z : Int) (h : -2048 ≤ z ∧ z ≤ 2047) : -2048 ≤ z.tdiv 2 ∧ z.tdiv 2 ≤ 2047 := by
  rcases Int.le_total 0 z with c | c
  · rw [Int.tdiv_eq_ediv_of_nonneg c]
    omega
  · obtain ⟨w, rfl⟩ : ∃ w : Int, z = -w := ⟨-z, by omega⟩
    rw [Int.neg_tdiv, Int.tdiv_eq_ediv_of_nonneg (by omega)]
    omega
theorem sa_half {x : Int32} (h : sa_sm x) : sa_sm (x / 2) := by
  unfold sa_sm at h ⊢
  rw [Int32.toInt_div_of_ne_right x 2 (by decide), show (2 : Int32).toInt = 2 from by decide]
  exact sa_halfZ _ h
theorem sa_sm0 : sa_sm 0 := by
  unfold sa_sm
  decide
/-! bits of the packed bytes -/
theorem sa_shl20 (x : Int32) {i : Nat} (hi : i < 32) : bt (x <<< ((20 : Int32) &&& 31)) i = (decide (20 ≤ i) && bt x (i - 20)) := b_shl 20 (by omega) x hi
theorem sa_shr20 (x : Int32) {i : Nat} (hi : i < 32) : bt (x >>> ((20 : Int32) &&& 31)) i = if 20 + i < 32 then bt x (20 + i) else bt x 31 := b_sshr 20 (by omega) x hi
theorem sa_shl4 (x : Int32) {i : Nat} (hi : i < 32) : bt (x <<< ((4 : Int32) &&& 31)) i = (decide (4 ≤ i) && bt x (i - 4)) := b_shl 4 (by omega) x hi
theorem sa_shr4 (x : Int32) {i : Nat} (hi : i < 32) : bt (x >>> ((4 : Int32) &&& 31)) i = if 4 + i < 32 then bt x (4 + i) else bt x 31 := b_sshr 4 (by omega) x hi
theorem sa_15 (i : Nat) : bt 15 i = decide (i < 4) := by
  rcases Nat.lt_or_ge i 32 with h | h
  · exact (by decide +kernel : ∀ i, i < 32 → bt 15 i = decide (i < 4)) i h
  · rw [b_big h, decide_eq_false (by omega)]
theorem sa_i8 (x : Int32) {i : Nat} (hi : i < 8) : bt x.toInt8.toInt32 i = bt x i := by
  unfold bt
  rw [Int8.toBitVec_toInt32, BitVec.getLsbD_signExtend, if_pos hi, Int32.toBitVec_toInt8, BitVec.getLsbD_signExtend, if_pos (by omega)]
  simp [hi, show i < 32 from by omega]
theorem sa_wrC {x y : Int32} (h : ∀ i, i < 12 → bt x i = bt y i) : sa_wr x = sa_wr y := by
  apply b_ext
  intro i hi
  unfold sa_wr
  rw [sa_shr20 _ hi, sa_shr20 _ hi]
  by_cases c : 20 + i < 32
  · rw [if_pos c, if_pos c, sa_shl20 _ c, sa_shl20 _ c, show 20 + i - 20 = i from by omega, h i (by omega)]
  · rw [if_neg c, if_neg c, sa_shl20 _ (by omega), sa_shl20 _ (by omega), h 11 (by omega)]
def sa_b0 (l : Int32) : Int32 := (l >>> ((4 : Int32) &&& 31)).toInt8.toInt32
def sa_b1 (l r : Int32) : Int32 := (((l &&& 15) <<< ((4 : Int32) &&& 31)) ||| ((r >>> ((8 : Int32) &&& 31)) &&& 15)).toInt8.toInt32
def sa_b2 (r : Int32) : Int32 := r.toInt8.toInt32
theorem sa_b0t (l : Int32) {i : Nat} (hi : i < 8) : bt (sa_b0 l) i = bt l (4 + i) := by
  unfold sa_b0
  rw [sa_i8 _ hi, sa_shr4 _ (by omega), if_pos (by omega)]
theorem sa_b1t (l r : Int32) {i : Nat} (hi : i < 8) : bt (sa_b1 l r) i = ((decide (4 ≤ i) && (bt l (i - 4) && decide (i - 4 < 4))) || (bt r (8 + i) && decide (i < 4))) := by
  unfold sa_b1
  rw [sa_i8 _ hi, b_or, sa_shl4 _ (by omega), b_and, b_and, sa_15, sa_15, b_sshr8 _ (by omega), if_pos (by omega)]
theorem sa_b2t (r : Int32) {i : Nat} (hi : i < 8) : bt (sa_b2 r) i = bt r i := sa_i8 r hi
def sa_uL (b0 b1 : Int32) : Int32 := sa_wr ((b0 <<< ((4 : Int32) &&& 31)) ||| ((b1 >>> ((4 : Int32) &&& 31)) &&& 15))
def sa_uR (b1 b2 : Int32) : Int32 := sa_wr (((b1 &&& 15) <<< ((8 : Int32) &&& 31)) ||| (b2 &&& 255))
theorem sa_unL {l r : Int32} (h : sa_sm l) : sa_uL (sa_b0 l) (sa_b1 l r) = l := by
  refine Eq.trans (sa_wrC fun i hi => ?_) (sa_wrS h)
  rw [b_or, sa_shl4 _ (by omega), b_and, sa_15, sa_shr4 _ (by omega), if_pos (by omega)]
  by_cases c : i < 4
  · rw [sa_b1t _ _ (by omega), decide_eq_false (show ¬ 4 ≤ i by omega), decide_eq_true c, decide_eq_true (show 4 ≤ 4 + i by omega), show 4 + i - 4 = i from by omega, decide_eq_true c, decide_eq_false (show ¬ 4 + i < 4 by omega)]
    simp
  · rw [sa_b0t _ (by omega), decide_eq_true (show 4 ≤ i by omega), decide_eq_false c, show 4 + (i - 4) = i from by omega]
    simp
theorem sa_unR {l r : Int32} (h : sa_sm r) : sa_uR (sa_b1 l r) (sa_b2 r) = r := by
  refine Eq.trans (sa_wrC fun i hi => ?_) (sa_wrS h)
  rw [b_or, b_shl8 _ (by omega), b_and, b_and, sa_15, b_255]
  by_cases c : i < 8
  · rw [sa_b2t _ c, decide_eq_false (show ¬ 8 ≤ i by omega), decide_eq_true c]
    simp
  · rw [sa_b1t _ _ (by omega), decide_eq_true (show 8 ≤ i by omega), decide_eq_false c, decide_eq_true (show i - 8 < 4 by omega), decide_eq_false (show ¬ 4 ≤ i - 8 by omega), show 8 + (i - 8) = i from by omega]
    simp
/-! a bit turned round, and back -/
def sa_tb (x : Int32) (b : Nat) : Int32 := (x ^^^ ((1 : Int32) <<< (nI b &&& 31))).toInt8.toInt32
theorem sa_tbb (x : Int32) (b : Nat) : sa_tb (sa_tb x.toInt8.toInt32 b) b = x.toInt8.toInt32 := by
  unfold sa_tb
  rw [Int32.toInt8_xor, Int8.toInt8_toInt32, Int32.toInt8_xor, Int8.toInt8_toInt32, Int8.xor_assoc, Int8.xor_self, Int8.xor_zero]
theorem sa_nb : ∀ m, m < 97 → (nI m).toInt8.toInt32 = nI m := by decide +kernel
/-! the content of a slot's bytes: samples l i, r i for i below m, the head says m -/
def sa_ct (l r : Nat → Int32) (m k : Nat) : Int32 :=
  if k = 0 then nI m else if (k - 1) % 3 = 0 then sa_b0 (l ((k - 1) / 3)) else if (k - 1) % 3 = 1 then sa_b1 (l ((k - 1) / 3)) (r ((k - 1) / 3)) else sa_b2 (r ((k - 1) / 3))
theorem sa_ct_h (l r : Nat → Int32) (m : Nat) : sa_ct l r m 0 = nI m := if_pos rfl
theorem sa_ct_0 (l r : Nat → Int32) (m i : Nat) : sa_ct l r m (1 + 3 * i) = sa_b0 (l i) := by
  unfold sa_ct
  rw [if_neg (by omega), if_pos (by omega), show (1 + 3 * i - 1) / 3 = i from by omega]
theorem sa_ct_1 (l r : Nat → Int32) (m i : Nat) : sa_ct l r m (1 + 3 * i + 1) = sa_b1 (l i) (r i) := by
  unfold sa_ct
  rw [if_neg (by omega), if_neg (by omega), if_pos (by omega), show (1 + 3 * i + 1 - 1) / 3 = i from by omega]
theorem sa_ct_2 (l r : Nat → Int32) (m i : Nat) : sa_ct l r m (1 + 3 * i + 2) = sa_b2 (r i) := by
  unfold sa_ct
  rw [if_neg (by omega), if_neg (by omega), if_neg (by omega), show (1 + 3 * i + 2 - 1) / 3 = i from by omega]
theorem sa_ct_b (l r : Nat → Int32) {m : Nat} (hm : m ≤ 96) (k : Nat) : ∃ z : Int32, sa_ct l r m k = z.toInt8.toInt32 := by
  unfold sa_ct
  by_cases h : k = 0
  · rw [if_pos h]
    exact ⟨nI m, (sa_nb m (by omega)).symm⟩
  · rw [if_neg h]
    by_cases h1 : (k - 1) % 3 = 0
    · rw [if_pos h1]
      exact ⟨_, rfl⟩
    · rw [if_neg h1]
      by_cases h2 : (k - 1) % 3 = 1
      · rw [if_pos h2]
        exact ⟨_, rfl⟩
      · rw [if_neg h2]
        exact ⟨_, rfl⟩
theorem sa_ct_tb (l r : Nat → Int32) {m : Nat} (hm : m ≤ 96) (k b : Nat) : sa_tb (sa_tb (sa_ct l r m k) b) b = sa_ct l r m k := by
  obtain ⟨z, e⟩ := sa_ct_b l r hm k
  rw [e, sa_tbb]
theorem sa_ct_c {l r l' r' : Nat → Int32} {m k : Nat} (hk : k < 1 + 3 * m) (hl : ∀ i, i < m → l' i = l i) (hr : ∀ i, i < m → r' i = r i) : sa_ct l' r' m k = sa_ct l r m k := by
  unfold sa_ct
  by_cases h : k = 0
  · rw [if_pos h, if_pos h]
  · rw [if_neg h, if_neg h, hl _ (by omega), hr _ (by omega)]
theorem sa_3 {m : Nat} {P : Nat → Prop} (h0 : P 0) (h : ∀ i, i < m → P (1 + 3 * i) ∧ P (1 + 3 * i + 1) ∧ P (1 + 3 * i + 2)) : ∀ k, k < 1 + 3 * m → P k := by
  intro k hk
  by_cases z : k = 0
  · rw [z]
    exact h0
  · have a := h ((k - 1) / 3) (by omega)
    rcases (by omega : (k - 1) % 3 = 0 ∨ (k - 1) % 3 = 1 ∨ (k - 1) % 3 = 2) with c | c | c
    · rw [show k = 1 + 3 * ((k - 1) / 3) from by omega]
      exact a.1
    · rw [show k = 1 + 3 * ((k - 1) / 3) + 1 from by omega]
      exact a.2.1
    · rw [show k = 1 + 3 * ((k - 1) / 3) + 2 from by omega]
      exact a.2.2
