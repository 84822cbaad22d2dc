/-! cut and change -/
section
variable {f : Int32} {A B P F D T N S G : Nat → Int32}
theorem xx_cut {post : Int32 → SX → Prop} {a st : Nat} (hst : a + st ≤ 96) (h : ∀ A' B' : Nat → Int32, (∀ q, q < st → A' q = A (a + q) ∧ B' q = B (a + q)) → post (nI st) (nI st, A', B', P, F, D, T)) :
    ∀ (d p : Nat) (A' B' : Nat → Int32), p + d = st → (∀ q, q < p → A' q = A (a + q) ∧ B' q = B (a + q)) → (∀ q, p ≤ q → A' q = A q ∧ B' q = B q) → wX_cut_23 post (nI a) (nI st) f (d + 1) (nI p) A' B' P F D T := by
  intro d
  induction d with
  | zero =>
    intro p A' B' hp h1 h2
    obtain rfl : p = st := by omega
    exact br_t (nI_le (by omega) (by omega)) (h A' B' h1)
  | succ d ih =>
    intro p A' B' hp h1 h2
    have vp : vp_in (nI p) 96 := vp_in_nI (by omega) (by decide)
    have vq : vp_in (nI (a + p)) 96 := vp_in_nI (by omega) (by decide)
    refine br_f (nI_ge (by omega) (by omega)) ?_
    rw [nI_add a p, sa_cl (n := a + p) (by omega), sa_cl (n := p) (by omega)]
    refine ⟨vq, vp, nm_e ⟨vq, vp, nm_e (nm_r (nI_1 p) (ih (p + 1) _ _ (by omega) (fun q hq => ?_) (fun q hq => ?_)))⟩⟩
    · by_cases c : q = p
      · rw [c, pk_us, pk_us]
        exact h2 _ (by omega)
      · rw [pk_un c, pk_un c]
        exact h1 q (by omega)
    · rw [pk_un (by omega), pk_un (by omega)]
      exact h2 q (by omega)
theorem yy_keep {post : Int32 → SY → Prop} {a b : Nat} (hab : a ≤ b) (hb : b ≤ 96)
    (h : ∀ S' : Nat → Int32, (∀ q, q < b - a → S' q = S (a + q) ∧ S' (96 + q) = S (96 + (a + q))) → (∀ k, 192 ≤ k → S' k = S k) → post (nI (b - a)) (upd N 0 (nI (b - a)), S', G)) :
    ∀ (d p : Nat) (S' : Nat → Int32), a + p + d = b → (∀ q, q < p → S' q = S (a + q) ∧ S' (96 + q) = S (96 + (a + q))) → (∀ q, p ≤ q → q < 96 → S' q = S q ∧ S' (96 + q) = S (96 + q)) → (∀ k, 192 ≤ k → S' k = S k) → wY_keep_2 post (nI a) (nI b) (d + 1) (nI (a + p)) N S' G := by
  intro d
  induction d with
  | zero =>
    intro p S' hp h1 h2 h3
    refine br_t (nI_le (by omega) (by omega)) (nm_r (congrArg (upd N 0) (pk_sub hab)) ?_)
    rw [pk_us]
    exact h S' (fun q hq => h1 q (by omega)) h3
  | succ d ih =>
    intro p S' hp h1 h2 h3
    have e1 : nI (a + p) - nI a = nI p := by
      rw [pk_sub (by omega)]
      exact congrArg nI (by omega)
    refine br_f (nI_ge (by omega) (by omega)) ?_
    rw [e1, sa_96, sa_cl (n := a + p) (by omega), sa_cl (n := 96 + (a + p)) (by omega)]
    refine ⟨vp_in_nI (by omega) (by decide), vp_in_nI (by omega) (by decide), ?_⟩
    refine yy_put (by omega) ?_
    refine nm_r (nI_1 (a + p)) (ih (p + 1) _ (by omega) (fun q hq => ?_) (fun q hq hq' => ?_) (fun k hk => ?_))
    · by_cases c : q = p
      · subst c
        rw [pk_un (by omega), pk_us, pk_us]
        exact ⟨(h2 _ (by omega) (by omega)).1, (h2 _ (by omega) (by omega)).2⟩
      · rw [pk_un (show q ≠ 96 + p by omega), pk_un c, pk_un (show 96 + q ≠ 96 + p by omega), pk_un (show 96 + q ≠ p by omega)]
        exact h1 q (by omega)
    · rw [pk_un (show q ≠ 96 + p by omega), pk_un (show q ≠ p by omega), pk_un (show 96 + q ≠ 96 + p by omega), pk_un (show 96 + q ≠ p by omega)]
      exact h2 q (by omega) hq'
    · rw [pk_un (by omega), pk_un (by omega)]
      exact h3 k hk
theorem xx_sw {n p : Nat} {A' : Nat → Int32} (hp : p < n / 2) (h : sa_rv 0 n p A A') : sa_rv 0 n (p + 1) A (upd (upd A' p (A' (n - 1 - p))) (n - 1 - p) (A' p)) := by
  refine sa_rv_s hp h ?_ ?_ (fun i hi c d => ?_)
  · rw [Nat.zero_add, Nat.zero_add, pk_un (by omega), pk_us]
  · rw [Nat.zero_add, Nat.zero_add, pk_us]
  · rw [Nat.zero_add, pk_un d, pk_un c]
theorem xx_tO {post : SX → Prop} {n : Nat} (hn : n ≤ 96) (h : ∀ A' B' : Nat → Int32, (∀ i, i < n → A' i = A (n - 1 - i) ∧ B' i = B (n - 1 - i)) → post (nI n, A', B', P, F, D, T)) :
    ∀ (d p : Nat) (A' B' : Nat → Int32), p + d = n / 2 → sa_rv 0 n p A A' → sa_rv 0 n p B B' → wX_turnOrder_9 post (nI (n / 2)) (nI n) (d + 1) (nI p) A' B' P F D T := by
  intro d
  induction d with
  | zero =>
    intro p A' B' hp h1 h2
    obtain rfl : p = n / 2 := by omega
    refine br_t (nI_le (by omega) (by omega)) (h A' B' (fun i hi => ?_))
    have a := sa_rv_e h1 i hi
    have b := sa_rv_e h2 i hi
    rw [Nat.zero_add, Nat.zero_add] at a b
    exact ⟨a, b⟩
  | succ d ih =>
    intro p A' B' hp h1 h2
    have e : (nI n - 1) - nI p = nI (n - 1 - p) := by
      show (nI n - nI 1) - nI p = _
      rw [pk_sub (by omega), pk_sub (by omega)]
    have vp : vp_in (nI p) 96 := vp_in_nI (by omega) (by decide)
    have vq : vp_in (nI (n - 1 - p)) 96 := vp_in_nI (by omega) (by decide)
    refine br_f (nI_ge (by omega) (by omega)) (nm_r e ?_)
    rw [sa_cl (n := p) (by omega), sa_cl (n := n - 1 - p) (by omega)]
    exact ⟨vp, nm_e ⟨vp, nm_e ⟨vq, vp, nm_e ⟨vq, vp, nm_e ⟨vq, nm_e ⟨vq, nm_e (nm_r (nI_1 p) (ih (p + 1) _ _ (by omega) (xx_sw (by omega) h1) (xx_sw (by omega) h2)))⟩⟩⟩⟩⟩⟩
def sa_mp (va vb : Int32 → Int32 → Int32) (p : Nat) (A B A' B' : Nat → Int32) : Prop := (∀ i, i < p → A' i = va (A i) (B i) ∧ B' i = vb (A i) (B i)) ∧ (∀ i, p ≤ i → A' i = A i ∧ B' i = B i)
theorem sa_mp_0 (va vb : Int32 → Int32 → Int32) : sa_mp va vb 0 A B A B := ⟨fun i hi => by omega, fun i _ => ⟨rfl, rfl⟩⟩
theorem sa_mp_s {va vb : Int32 → Int32 → Int32} {p : Nat} {A' B' : Nat → Int32} {x y : Int32} (h : sa_mp va vb p A B A' B') (hx : x = va (A' p) (B' p)) (hy : y = vb (A' p) (B' p)) : sa_mp va vb (p + 1) A B (upd A' p x) (upd B' p y) := by
  refine ⟨fun i hi => ?_, fun i hi => ?_⟩
  · by_cases c : i = p
    · subst c
      rw [pk_us, pk_us, hx, hy, (h.2 i (by omega)).1, (h.2 i (by omega)).2]
      exact ⟨rfl, rfl⟩
    · rw [pk_un c, pk_un c]
      exact h.1 i (by omega)
  · rw [pk_un (by omega), pk_un (by omega)]
    exact h.2 i (by omega)
theorem xx_ex {post : SX → Prop} {n : Nat} (hn : n ≤ 96) (h : ∀ A' B' : Nat → Int32, sa_mp (fun _ b => b) (fun a _ => a) n A B A' B' → post (nI n, A', B', P, F, D, T)) :
    ∀ (d p : Nat) (A' B' : Nat → Int32), p + d = n → sa_mp (fun _ b => b) (fun a _ => a) p A B A' B' → wX_exchangeChannels_2 post (nI n) (d + 1) (nI p) A' B' P F D T := by
  intro d
  induction d with
  | zero =>
    intro p A' B' hp h1
    obtain rfl : p = n := by omega
    exact br_t (nI_le (by omega) (by omega)) (h A' B' h1)
  | succ d ih =>
    intro p A' B' hp h1
    have vp : vp_in (nI p) 96 := vp_in_nI (by omega) (by decide)
    refine br_f (nI_ge (by omega) (by omega)) ?_
    rw [sa_cl (n := p) (by omega)]
    exact ⟨vp, nm_e ⟨vp, vp, nm_e ⟨vp, nm_e (nm_r (nI_1 p) (ih (p + 1) _ _ (by omega) (sa_mp_s h1 rfl rfl)))⟩⟩⟩
theorem xx_ha {post : SX → Prop} {n : Nat} (hn : n ≤ 96) (h : ∀ A' B' : Nat → Int32, sa_mp (fun a _ => a / 2) (fun _ b => b / 2) n A B A' B' → post (nI n, A', B', P, F, D, T)) :
    ∀ (d p : Nat) (A' B' : Nat → Int32), p + d = n → sa_mp (fun a _ => a / 2) (fun _ b => b / 2) p A B A' B' → wX_halveSamples_2 post (nI n) (d + 1) (nI p) A' B' P F D T := by
  intro d
  induction d with
  | zero =>
    intro p A' B' hp h1
    obtain rfl : p = n := by omega
    exact br_t (nI_le (by omega) (by omega)) (h A' B' h1)
  | succ d ih =>
    intro p A' B' hp h1
    have vp : vp_in (nI p) 96 := vp_in_nI (by omega) (by decide)
    refine br_f (nI_ge (by omega) (by omega)) ?_
    rw [sa_cl (n := p) (by omega)]
    exact ⟨vp, sa_20, vp, nm_e ⟨vp, sa_20, vp, nm_e (nm_r (nI_1 p) (ih (p + 1) _ _ (by omega) (sa_mp_s h1 rfl rfl)))⟩⟩
theorem xx_do {post : SX → Prop} {n : Nat} (hn : n ≤ 96) (h : ∀ A' B' : Nat → Int32, sa_mp (fun a _ => sa_wr (a * 2)) (fun _ b => sa_wr (b * 2)) n A B A' B' → post (nI n, A', B', P, F, D, T)) :
    ∀ (d p : Nat) (A' B' : Nat → Int32), p + d = n → sa_mp (fun a _ => sa_wr (a * 2)) (fun _ b => sa_wr (b * 2)) p A B A' B' → wX_doubleSamples_2 post (nI n) (d + 1) (nI p) A' B' P F D T := by
  intro d
  induction d with
  | zero =>
    intro p A' B' hp h1
    obtain rfl : p = n := by omega
    exact br_t (nI_le (by omega) (by omega)) (h A' B' h1)
  | succ d ih =>
    intro p A' B' hp h1
    have vp : vp_in (nI p) 96 := vp_in_nI (by omega) (by decide)
    refine br_f (nI_ge (by omega) (by omega)) ?_
    rw [sa_cl (n := p) (by omega)]
    exact ⟨vp, vp, nm_e ⟨vp, vp, nm_e (nm_r (nI_1 p) (ih (p + 1) _ _ (by omega) (sa_mp_s h1 rfl rfl)))⟩⟩
def sa_my (va vb : Int32 → Int32 → Int32) (p : Nat) (S S' : Nat → Int32) : Prop :=
  (∀ i, i < p → S' i = va (S i) (S (96 + i)) ∧ S' (96 + i) = vb (S i) (S (96 + i))) ∧ (∀ i, p ≤ i → i < 96 → S' i = S i ∧ S' (96 + i) = S (96 + i)) ∧ (∀ k, 192 ≤ k → S' k = S k)
theorem sa_my_0 (va vb : Int32 → Int32 → Int32) : sa_my va vb 0 S S := ⟨fun i hi => by omega, fun i _ _ => ⟨rfl, rfl⟩, fun _ _ => rfl⟩
theorem sa_my_s {va vb : Int32 → Int32 → Int32} {p : Nat} {S' : Nat → Int32} {x y : Int32} (hp : p < 96) (h : sa_my va vb p S S') (hx : x = va (S' p) (S' (96 + p))) (hy : y = vb (S' p) (S' (96 + p))) : sa_my va vb (p + 1) S (upd (upd S' p x) (96 + p) y) := by
  refine ⟨fun i hi => ?_, fun i hi hi' => ?_, fun k hk => ?_⟩
  · by_cases c : i = p
    · subst c
      rw [pk_un (by omega), pk_us, pk_us, hx, hy, (h.2.1 i (by omega) hp).1, (h.2.1 i (by omega) hp).2]
      exact ⟨rfl, rfl⟩
    · rw [pk_un (show i ≠ 96 + p by omega), pk_un c, pk_un (show 96 + i ≠ 96 + p by omega), pk_un (show 96 + i ≠ p by omega)]
      exact h.1 i (by omega)
  · rw [pk_un (show i ≠ 96 + p by omega), pk_un (show i ≠ p by omega), pk_un (show 96 + i ≠ 96 + p by omega), pk_un (show 96 + i ≠ p by omega)]
    exact h.2.1 i (by omega) hi'
  · rw [pk_un (by omega), pk_un (by omega)]
    exact h.2.2 k hk
theorem yy_c1 {post : Int32 → SY → Prop} {n : Nat} (hn : n ≤ 96) (h : ∀ S' : Nat → Int32, sa_my (fun _ b => b) (fun a _ => a) n S S' → post (nI n) (N, S', G)) :
    ∀ (d p : Nat) (S' : Nat → Int32), p + d = n → sa_my (fun _ b => b) (fun a _ => a) p S S' → wY_change_67 post 1 (nI n) (d + 1) (nI p) N S' G := by
  intro d
  induction d with
  | zero =>
    intro p S' hp h1
    obtain rfl : p = n := by omega
    exact br_f (by decide) (br_t (nI_le (by omega) (by omega)) (h S' h1))
  | succ d ih =>
    intro p S' hp h1
    refine br_f (by decide) (br_f (nI_ge (by omega) (by omega)) ?_)
    rw [sa_96, sa_cl (n := p) (by omega), sa_cl (n := 96 + p) (by omega)]
    refine ⟨vp_in_nI (by omega) (by decide), nm_e ⟨vp_in_nI (by omega) (by decide), nm_e (br_t rfl ?_)⟩⟩
    refine yy_put (by omega) ?_
    exact br_f (by decide) (br_f (by decide) (nm_r (nI_1 p) (ih (p + 1) _ (by omega) (sa_my_s (by omega) h1 rfl rfl))))
theorem yy_c2 {post : Int32 → SY → Prop} {n : Nat} (hn : n ≤ 96) (h : ∀ S' : Nat → Int32, sa_my (fun a _ => a / 2) (fun _ b => b / 2) n S S' → post (nI n) (N, S', G)) :
    ∀ (d p : Nat) (S' : Nat → Int32), p + d = n → sa_my (fun a _ => a / 2) (fun _ b => b / 2) p S S' → wY_change_67 post 2 (nI n) (d + 1) (nI p) N S' G := by
  intro d
  induction d with
  | zero =>
    intro p S' hp h1
    obtain rfl : p = n := by omega
    exact br_f (by decide) (br_t (nI_le (by omega) (by omega)) (h S' h1))
  | succ d ih =>
    intro p S' hp h1
    refine br_f (by decide) (br_f (nI_ge (by omega) (by omega)) ?_)
    rw [sa_96, sa_cl (n := p) (by omega), sa_cl (n := 96 + p) (by omega)]
    refine ⟨vp_in_nI (by omega) (by decide), nm_e ⟨vp_in_nI (by omega) (by decide), nm_e (br_f (by decide) (br_t rfl ⟨sa_20, sa_20, ?_⟩))⟩⟩
    refine yy_put (by omega) ?_
    exact br_f (by decide) (nm_r (nI_1 p) (ih (p + 1) _ (by omega) (sa_my_s (by omega) h1 rfl rfl)))
theorem yy_c3 {post : Int32 → SY → Prop} {n : Nat} (hn : n ≤ 96) (h : ∀ S' : Nat → Int32, sa_my (fun a _ => sa_wr (a * 2)) (fun _ b => sa_wr (b * 2)) n S S' → post (nI n) (N, S', G)) :
    ∀ (d p : Nat) (S' : Nat → Int32), p + d = n → sa_my (fun a _ => sa_wr (a * 2)) (fun _ b => sa_wr (b * 2)) p S S' → wY_change_67 post 3 (nI n) (d + 1) (nI p) N S' G := by
  intro d
  induction d with
  | zero =>
    intro p S' hp h1
    obtain rfl : p = n := by omega
    exact br_f (by decide) (br_t (nI_le (by omega) (by omega)) (h S' h1))
  | succ d ih =>
    intro p S' hp h1
    refine br_f (by decide) (br_f (nI_ge (by omega) (by omega)) ?_)
    rw [sa_96, sa_cl (n := p) (by omega), sa_cl (n := 96 + p) (by omega)]
    refine ⟨vp_in_nI (by omega) (by decide), nm_e ⟨vp_in_nI (by omega) (by decide), nm_e (br_f (by decide) (br_f (by decide) (br_t rfl ?_)))⟩⟩
    refine yy_wr ?_
    refine yy_wr ?_
    refine yy_put (by omega) ?_
    exact nm_r (nI_1 p) (ih (p + 1) _ (by omega) (sa_my_s (by omega) h1 (congrArg sa_wr (Int32.mul_comm _ _)) (congrArg sa_wr (Int32.mul_comm _ _))))
theorem yy_exc {post : SY → Prop} {p q : Nat} (hp : p < 960) (hq : q < 960) (h : post (N, upd (upd S p (S q)) q (S p), G)) : wpY_exchange post (N, S, G) (nI p) (nI q) := by
  unfold wpY_exchange
  dsimp only
  rw [sa_cl (n := p) (by omega), sa_cl (n := q) (by omega)]
  exact ⟨vp_in_nI hp (by decide), nm_e ⟨vp_in_nI hq (by decide), vp_in_nI hp (by decide), nm_e ⟨vp_in_nI hq (by decide), nm_e h⟩⟩⟩
theorem yy_c0 {post : Int32 → SY → Prop} {n : Nat} (hn : n ≤ 96) (h : ∀ S' : Nat → Int32, (∀ i, i < n → S' i = S (n - 1 - i) ∧ S' (96 + i) = S (96 + (n - 1 - i))) → (∀ k, 192 ≤ k → S' k = S k) → post (nI n) (N, S', G)) :
    ∀ (d p : Nat) (S' : Nat → Int32), p + d = n / 2 → sa_rv 0 n p S S' → sa_rv 96 n p S S' → (∀ k, 192 ≤ k → S' k = S k) → wY_change_22 post 0 (nI n) (d + 1) (nI p) N S' G := by
  have e2 : nI n / 2 = nI (n / 2) := pk_div (d := 2) (by omega) (by decide) (by decide)
  intro d
  induction d with
  | zero =>
    intro p S' hp h1 h2 h3
    obtain rfl : p = n / 2 := by omega
    refine br_t rfl ⟨sa_20, br_t (by rw [e2]; exact nI_le (by omega) (by omega)) ⟨1, br_t (by decide) (h S' (fun i hi => ?_) h3)⟩⟩
    have a := sa_rv_e h1 i hi
    rw [Nat.zero_add, Nat.zero_add] at a
    exact ⟨a, sa_rv_e h2 i hi⟩
  | succ d ih =>
    intro p S' hp h1 h2 h3
    have e3 : (nI n - 1) - nI p = nI (n - 1 - p) := by
      show (nI n - nI 1) - nI p = _
      rw [pk_sub (by omega), pk_sub (by omega)]
    have e4 : ((96 + nI n) - 1) - nI p = nI (96 + (n - 1 - p)) := by
      show ((nI 96 + nI n) - nI 1) - nI p = _
      rw [nI_add, pk_sub (by omega), pk_sub (by omega)]
      exact congrArg nI (by omega)
    refine br_t rfl ⟨sa_20, br_f (by rw [e2]; exact nI_ge (by omega) (by omega)) ?_⟩
    rw [e3, e4, sa_96]
    refine yy_exc (by omega) (by omega) ?_
    refine yy_exc (by omega) (by omega) ?_
    refine nm_r (nI_1 p) (ih (p + 1) _ (by omega) ?_ ?_ (fun k hk => ?_))
    · refine sa_rv_s (by omega) h1 ?_ ?_ (fun i hi c d => ?_)
      · rw [Nat.zero_add, Nat.zero_add, pk_un (by omega), pk_un (by omega), pk_un (by omega), pk_us]
      · rw [Nat.zero_add, Nat.zero_add, pk_un (by omega), pk_un (by omega), pk_us]
      · rw [Nat.zero_add, pk_un (by omega), pk_un (by omega), pk_un d, pk_un c]
    · refine sa_rv_s (by omega) h2 ?_ ?_ (fun i hi c d => ?_)
      · rw [pk_un (by omega), pk_us, pk_un (by omega), pk_un (by omega)]
      · rw [pk_us, pk_un (by omega), pk_un (by omega)]
      · rw [pk_un (by omega), pk_un (by omega), pk_un (by omega), pk_un (by omega)]
    · rw [pk_un (by omega), pk_un (by omega), pk_un (by omega), pk_un (by omega)]
      exact h3 k hk
end
