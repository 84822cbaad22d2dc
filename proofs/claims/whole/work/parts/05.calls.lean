/-! cases of slots, channels, ranges; the small calls of both sides -/
theorem sa_up {g : Nat → Int32} {x : Int32} {k : Nat} {v w : Int32} (hk : x.toNatClampNeg = k) (hv : v = w) : upd g x.toNatClampNeg v = upd g k w := by rw [hk, hv]
def sa_bs (x : Int32) : Prop := x < 0 ∨ (4 : Int32) ≤ x
theorem sa_sl (x : Int32) : sa_bs x ∨ ∃ j : Nat, j < 4 ∧ x = nI j := by
  rcases pk_ix x (n := 4) (by decide) with h | h | h
  · exact Or.inl (Or.inl h)
  · exact Or.inl (Or.inr h)
  · exact Or.inr h
def sa_bc (x : Int32) : Prop := x < 0 ∨ (2 : Int32) ≤ x
theorem sa_cn (x : Int32) : sa_bc x ∨ x = 0 ∨ x = 1 := by
  rcases pk_ix x (n := 2) (by decide) with h | h | ⟨j, h, e⟩
  · exact Or.inl (Or.inl h)
  · exact Or.inl (Or.inr h)
  · rcases (by omega : j = 0 ∨ j = 1) with z | z
    · exact Or.inr (Or.inl (by rw [e, z]; rfl))
    · exact Or.inr (Or.inr (by rw [e, z]; rfl))
def sa_br (x y : Int32) (m : Nat) : Prop := x < 0 ∨ nI m < y ∨ y < x
theorem sa_rg (x y : Int32) {m : Nat} (hm : m < 2 ^ 31) : sa_br x y m ∨ ∃ a b : Nat, a ≤ b ∧ b ≤ m ∧ x = nI a ∧ y = nI b := by
  by_cases h1 : x < 0
  · exact Or.inl (Or.inl h1)
  · by_cases h2 : nI m < y
    · exact Or.inl (Or.inr (Or.inl h2))
    · by_cases h3 : y < x
      · exact Or.inl (Or.inr (Or.inr h3))
      · obtain ⟨a, ha, ea⟩ := nI_of h1
        have h4 : ¬ y < 0 := fun z => h3 (Int32.lt_of_lt_of_le z (Int32.not_lt.mp h1))
        obtain ⟨b, hb, eb⟩ := nI_of h4
        rw [ea, eb, nI_ltI hb ha] at h3
        rw [eb, nI_ltI hm hb] at h2
        exact Or.inr ⟨a, b, by omega, by omega, ea, eb⟩
section
variable {f : Int32} {A B P F D T N S G : Nat → Int32}
theorem xx_smp {post : Int32 → Prop} {x : Int32} (h1 : sa_sm x → post 1) (h0 : ¬ sa_sm x → post 0) : wpX_isSample post x :=
  br_c (fun c => h0 (fun z => absurd ((sa_smI x).mp z).1 (Int32.not_le.mpr c))) (fun c => br_c (fun d => h0 (fun z => absurd ((sa_smI x).mp z).2 (Int32.not_le.mpr d))) (fun d => h1 ((sa_smI x).mpr ⟨Int32.not_lt.mp c, Int32.not_lt.mp d⟩)))
theorem yy_smp {post : Int32 → Prop} {x : Int32} (h1 : sa_sm x → post 0) (h0 : ¬ sa_sm x → post 1) : wpY_badSample post (N, S, G) x :=
  br_c (fun c => h0 (fun z => absurd ((sa_smI x).mp z).1 (Int32.not_le.mpr c))) (fun c => br_c (fun d => h1 ((sa_smI x).mpr ⟨Int32.not_lt.mp c, d⟩)) (fun d => h0 (fun z => d ((sa_smI x).mp z).2)))
theorem xx_sl1 {post : Int32 → Prop} {j : Nat} (hj : j < 4) (h : post 1) : wpX_isSlot post (nI j) :=
  br_f (nI_pos (by omega)) (br_f (nI_ge (b := 4) hj (by decide)) h)
theorem xx_sl0 {post : Int32 → Prop} {x : Int32} (hb : sa_bs x) (h : post 0) : wpX_isSlot post x :=
  br_c (fun _ => h) (fun c => br_c (fun _ => h) (fun d => absurd hb (fun z => z.elim c d)))
theorem yy_sl1 {post : Int32 → Prop} {j : Nat} (hj : j < 4) (h : post 0) : wpY_badSlot post (N, S, G) (nI j) :=
  br_f (nI_pos (by omega)) (br_t (nI_le (b := 3) (by omega) (by decide)) h)
theorem yy_sl0 {post : Int32 → Prop} {x : Int32} (hb : sa_bs x) (h : post 1) : wpY_badSlot post (N, S, G) x :=
  br_c (fun _ => h) (fun c => br_c (fun d => absurd hb (fun z => z.elim c (fun e => absurd (Int32.le_trans e d) (by decide)))) (fun _ => h))
theorem xx_ch0 {post : Int32 → Prop} {x : Int32} (hb : sa_bc x) (h : post 0) : wpX_isChannel post x :=
  br_f (fun e => by subst e; revert hb; unfold sa_bc; decide) (br_f (fun e => by subst e; revert hb; unfold sa_bc; decide) h)
theorem xx_ch1 {post : Int32 → Prop} {x : Int32} (hb : x = 0 ∨ x = 1) (h : post 1) : wpX_isChannel post x :=
  br_c (fun _ => h) (fun c => br_c (fun _ => h) (fun d => absurd hb (fun z => z.elim c d)))
theorem yy_ch0 {post : Int32 → Prop} {x : Int32} (hb : sa_bc x) (h : post 1) : wpY_badChannel post (N, S, G) x :=
  br_c (fun _ => h) (fun c => br_c (fun d => absurd hb (fun z => z.elim c (fun e => absurd (Int32.le_trans e d) (by decide)))) (fun _ => h))
theorem yy_ch1 {post : Int32 → Prop} {x : Int32} (hb : x = 0 ∨ x = 1) (h : post 0) : wpY_badChannel post (N, S, G) x := by
  rcases hb with rfl | rfl
  · exact br_f (by decide) (br_t (by decide) h)
  · exact br_f (by decide) (br_t (by decide) h)
theorem xx_rg1 {post : Int32 → Prop} {a b m : Nat} (h1 : a ≤ b) (h2 : b ≤ m) (hm : m < 2 ^ 31) (h : post 1) : wpX_isRange post (nI a) (nI b) (nI m) :=
  br_f (nI_pos (by omega)) (br_f (nI_nlt h2 hm) (br_f (nI_nlt h1 (by omega)) h))
theorem xx_rg0 {post : Int32 → Prop} {x y : Int32} {m : Nat} (hb : sa_br x y m) (h : post 0) : wpX_isRange post x y (nI m) :=
  br_c (fun _ => h) (fun c => br_c (fun _ => h) (fun d => br_c (fun _ => h) (fun e => absurd hb (fun z => z.elim c (fun z => z.elim d e)))))
theorem yy_rg1 {post : Int32 → Prop} {a b m s : Nat} {x : Int32} (hx : x = nI s) (hs : s < 5) (hN : N s = nI m) (h1 : a ≤ b) (h2 : b ≤ m) (hm : m < 2 ^ 31) (h : post 0) : wpY_badSpan post (N, S, G) x (nI a) (nI b) := by
  subst hx
  refine br_f (nI_pos (by omega)) ⟨vp_in_nI hs (by decide), ?_⟩
  rw [sa_cl (by omega), hN]
  exact br_f (nI_nlt h2 hm) (br_t (nI_le h1 (by omega)) h)
theorem yy_rg0 {post : Int32 → Prop} {x y z : Int32} {m s : Nat} (hz : z = nI s) (hs : s < 5) (hN : N s = nI m) (hb : sa_br x y m) (h : post 1) : wpY_badSpan post (N, S, G) z x y := by
  subst hz
  refine br_c (fun _ => h) (fun c => ⟨vp_in_nI hs (by decide), ?_⟩)
  rw [sa_cl (by omega), hN]
  exact br_c (fun _ => h) (fun d => br_c (fun e => absurd hb (fun z => z.elim c (fun z => z.elim d (fun w => absurd e (Int32.not_le.mpr w))))) (fun _ => h))
theorem xx_addW {post : SX → Prop} {n : Nat} {x y : Int32} (hn : n < 96) (h : post (nI (n + 1), upd A n (sa_wr x), upd B n (sa_wr y), P, F, D, T)) : wpX_addWrapped post (nI n, A, B, P, F, D, T) x y :=
  ⟨vp_in_nI hn (by decide), nm_r (sa_up (sa_cl (by omega)) rfl) ⟨vp_in_nI hn (by decide), nm_r (sa_up (sa_cl (by omega)) rfl) (nm_r (nI_1 n) h)⟩⟩
theorem sa_96 (p : Nat) : (96 : Int32) + nI p = nI (96 + p) := nI_add 96 p
theorem yy_put {post : SY → Prop} {p : Nat} {x y : Int32} (hp : p < 96) (h : post (N, upd (upd S p x) (96 + p) y, G)) : wpY_put post (N, S, G) (nI p) x y := by
  refine ⟨vp_in_nI (by omega) (by decide), nm_r (sa_up (sa_cl (by omega)) rfl) ⟨?_, ?_⟩⟩
  · rw [sa_96]
    exact vp_in_nI (by omega) (by decide)
  · rw [sa_96]
    exact nm_r (sa_up (sa_cl (by omega)) rfl) h
theorem yy_wr {post : Int32 → Prop} {x : Int32} (h : post (sa_wr x)) : wpY_wrapped post (N, S, G) x := by
  show post (((x + 2048) &&& 4095) - 2048)
  rw [sa_wrY]
  exact h
theorem yy_nm1 {post : Int32 → Prop} {x : Int32} {s i m : Nat} (hx : x = nI s) (hs : s < 5) (hN : N s = nI m) (hi : i < m) (hm : m < 2 ^ 31) (h : post 0) : wpY_noMoment post (N, S, G) x (nI i) := by
  subst hx
  refine br_f (nI_pos (by omega)) ⟨vp_in_nI hs (by decide), ?_⟩
  rw [sa_cl (by omega), hN]
  exact br_t (nI_lt hi hm) h
theorem yy_nm0 {post : Int32 → Prop} {x y : Int32} {s m : Nat} (hx : x = nI s) (hs : s < 5) (hN : N s = nI m) (hb : y < 0 ∨ nI m ≤ y) (h : post 1) : wpY_noMoment post (N, S, G) x y := by
  subst hx
  refine br_c (fun _ => h) (fun c => ⟨vp_in_nI hs (by decide), ?_⟩)
  rw [sa_cl (by omega), hN]
  exact br_f (fun z => absurd hb (fun w => w.elim c (fun e => absurd z (Int32.not_lt.mpr e)))) h
/-! the state of a slot, asked -/
theorem xx_prB {post : Int32 → Prop} {x : Int32} (hb : sa_bs x) (h : post (-5001)) : wpX_problemOf post (f, A, B, P, F, D, T) x := by
  unfold wpX_problemOf
  dsimp only
  refine xx_sl0 hb ?_
  exact br_t rfl h
theorem xx_prE {post : Int32 → Prop} {j : Nat} (hj : j < 4) (hF : F j = 0) (h : post (-5002)) : wpX_problemOf post (f, A, B, P, F, D, T) (nI j) := by
  unfold wpX_problemOf
  dsimp only
  refine xx_sl1 hj ?_
  refine br_f (by decide) ⟨vp_in_nI hj (by decide), ?_⟩
  rw [sa_cl (by omega)]
  exact br_t hF h
theorem xx_prG {post : Int32 → Prop} {j : Nat} (hj : j < 4) (hF : F j = 1) (hD : D j = 0) (h : post 0) : wpX_problemOf post (f, A, B, P, F, D, T) (nI j) := by
  unfold wpX_problemOf
  dsimp only
  refine xx_sl1 hj ?_
  refine br_f (by decide) ⟨vp_in_nI hj (by decide), ?_⟩
  rw [sa_cl (by omega)]
  exact br_f (by rw [hF]; decide) ⟨vp_in_nI hj (by decide), br_t hD h⟩
theorem xx_prD {post : Int32 → Prop} {j : Nat} (hj : j < 4) (hF : F j = 1) (hD : D j = 1) (h : post (-5003)) : wpX_problemOf post (f, A, B, P, F, D, T) (nI j) := by
  unfold wpX_problemOf
  dsimp only
  refine xx_sl1 hj ?_
  refine br_f (by decide) ⟨vp_in_nI hj (by decide), ?_⟩
  rw [sa_cl (by omega)]
  exact br_f (by rw [hF]; decide) ⟨vp_in_nI hj (by decide), br_f (by rw [hD]; decide) h⟩
theorem yy_rfE {post : Int32 → Prop} {j : Nat} (hj : j < 4) (hG : G j = 0) (h : post (-5002)) : wpY_refused post (N, S, G) (nI j) := by
  refine ⟨vp_in_nI hj (by decide), ?_⟩
  rw [sa_cl (by omega)]
  exact br_t hG h
theorem yy_rfG {post : Int32 → Prop} {j : Nat} (hj : j < 4) (hG : G j = 1) (h : post 0) : wpY_refused post (N, S, G) (nI j) := by
  refine ⟨vp_in_nI hj (by decide), ?_⟩
  rw [sa_cl (by omega)]
  exact br_f (by rw [hG]; decide) ⟨vp_in_nI hj (by decide), br_f (by rw [hG]; decide) h⟩
theorem yy_rfD {post : Int32 → Prop} {j : Nat} (hj : j < 4) (hG : G j = 2) (h : post (-5003)) : wpY_refused post (N, S, G) (nI j) := by
  refine ⟨vp_in_nI hj (by decide), ?_⟩
  rw [sa_cl (by omega)]
  exact br_f (by rw [hG]; decide) ⟨vp_in_nI hj (by decide), br_t hG h⟩
def sa_Gd (P F D N S G : Nat → Int32) (j m : Nat) : Prop := m ≤ 96 ∧ F j = 1 ∧ D j = 0 ∧ G j = 1 ∧ N (j + 1) = nI m ∧ sa_Good S j m ∧ sa_Byt P S j m
theorem sa_one {j : Nat} (hj : j < 4) (h : sa_Slot P F D T N S G j) :
    (∃ e : Int32, ¬ e = 0 ∧ (∀ post : Int32 → Prop, post e → wpX_problemOf post (f, A, B, P, F, D, T) (nI j)) ∧ (∀ post : Int32 → Prop, post e → wpY_refused post (N, S, G) (nI j)))
    ∨ ∃ m, sa_Gd P F D N S G j m ∧ (∀ post : Int32 → Prop, post 0 → wpX_problemOf post (f, A, B, P, F, D, T) (nI j)) ∧ (∀ post : Int32 → Prop, post 0 → wpY_refused post (N, S, G) (nI j)) := by
  rcases h with ⟨h1, h2⟩ | ⟨m, hm, h1, h2, h3, ⟨a, b, c⟩ | ⟨a, b, c⟩⟩
  · exact Or.inl ⟨-5002, by decide, fun _ h => xx_prE hj h1 h, fun _ h => yy_rfE hj h2 h⟩
  · exact Or.inr ⟨m, ⟨hm, h1, a, b, h2, h3, c⟩, fun _ h => xx_prG hj h1 a h, fun _ h => yy_rfG hj b h⟩
  · exact Or.inl ⟨-5003, by decide, fun _ h => xx_prD hj h1 a h, fun _ h => yy_rfD hj b h⟩
end
