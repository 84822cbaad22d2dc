/-! pure pictures of the loops -/
theorem sa_ue {f : Nat → Int32} {k j : Nat} {x : Int32} (h : j = k) : upd f k x j = x := if_pos h
def sa_dg (f g : Nat → Int32) : Nat → Int32
  | 0 => 0
  | p + 1 => sa_dg f g p + nI (p + 1) * (f p + 3 * g p)
theorem sa_dg_c {f g f' g' : Nat → Int32} : ∀ n, (∀ i, i < n → f' i = f i ∧ g' i = g i) → sa_dg f' g' n = sa_dg f g n := by
  intro n
  induction n with
  | zero => intro _; rfl
  | succ n ih =>
    intro h
    show sa_dg f' g' n + nI (n + 1) * (f' n + 3 * g' n) = sa_dg f g n + nI (n + 1) * (f n + 3 * g n)
    rw [ih (fun i hi => h i (by omega)), (h n (by omega)).1, (h n (by omega)).2]
def sa_ab (x : Int32) : Int32 := if x < 0 then -x else x
def sa_mx (f : Nat → Int32) : Nat → Int32
  | 0 => 0
  | p + 1 => if sa_mx f p < sa_ab (f p) then sa_ab (f p) else sa_mx f p
theorem sa_mx_c {f f' : Nat → Int32} : ∀ n, (∀ i, i < n → f' i = f i) → sa_mx f' n = sa_mx f n := by
  intro n
  induction n with
  | zero => intro _; rfl
  | succ n ih =>
    intro h
    show (if sa_mx f' n < sa_ab (f' n) then sa_ab (f' n) else sa_mx f' n) = (if sa_mx f n < sa_ab (f n) then sa_ab (f n) else sa_mx f n)
    rw [ih (fun i hi => h i (by omega)), h n (by omega)]
def sa_sd (a : Int32) : Nat → Int32
  | 0 => a
  | i + 1 => sa_sd a i * 1103515245 + 12345
/-! turning the order, in place, from both ends -/
def sa_rv (o n p : Nat) (S S' : Nat → Int32) : Prop := ∀ i, i < n → S' (o + i) = if i < p ∨ n - p ≤ i then S (o + (n - 1 - i)) else S (o + i)
theorem sa_rv_0 (o n : Nat) (S : Nat → Int32) : sa_rv o n 0 S S := by
  intro i hi
  rw [if_neg (by omega)]
theorem sa_rv_s {o n p : Nat} {S S' S'' : Nat → Int32} (hp : p < n / 2) (h : sa_rv o n p S S') (h1 : S'' (o + p) = S' (o + (n - 1 - p))) (h2 : S'' (o + (n - 1 - p)) = S' (o + p))
    (h3 : ∀ i, i < n → i ≠ p → i ≠ n - 1 - p → S'' (o + i) = S' (o + i)) : sa_rv o n (p + 1) S S'' := by
  intro i hi
  by_cases c : i = p
  · rw [c, h1, h _ (by omega), if_neg (by omega), if_pos (by omega)]
  · by_cases d : i = n - 1 - p
    · rw [d, h2, h _ (by omega), if_neg (by omega), if_pos (by omega), show n - 1 - (n - 1 - p) = p from by omega]
    · rw [h3 i hi c d, h i hi]
      by_cases e : i < p ∨ n - p ≤ i
      · rw [if_pos e, if_pos (by omega)]
      · rw [if_neg e, if_neg (by omega)]
theorem sa_rv_e {o n : Nat} {S S' : Nat → Int32} (h : sa_rv o n (n / 2) S S') : ∀ i, i < n → S' (o + i) = S (o + (n - 1 - i)) := by
  intro i hi
  rw [h i hi]
  by_cases e : i < n / 2 ∨ n - n / 2 ≤ i
  · rw [if_pos e]
  · rw [if_neg e, show n - 1 - i = i from by omega]
/-! places -/
theorem sa_cl {n : Nat} (h : n < 100000) : (nI n).toNatClampNeg = n := nI_clamp (by omega)
