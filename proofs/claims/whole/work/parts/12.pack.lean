/-! store, load, excerpt -/
section
variable {f : Int32} {A B P F D T N S G : Nat → Int32}
theorem sa_m192 (a p : Nat) : (192 : Int32) * nI a + nI p = nI (192 * a + p) := by
  show nI 192 * nI a + nI p = _
  rw [pk_mul, nI_add]
theorem yy_cpl {post : SY → Prop} {a b : Nat} (ha : a < 5) (hb : b < 5) (hab : a ≠ b) (h : ∀ S' : Nat → Int32, (∀ i, i < 192 → S' (192 * b + i) = S (192 * a + i)) → (∀ k, (k < 192 * b ∨ 192 * b + 192 ≤ k) → S' k = S k) → post (N, S', G)) :
    ∀ (d p : Nat) (S' : Nat → Int32), p + d = 192 → (∀ i, i < p → S' (192 * b + i) = S (192 * a + i)) → (∀ k, (k < 192 * b ∨ 192 * b + p ≤ k) → S' k = S k) → wY_copy_14 post (nI a) (nI b) (d + 1) (nI p) N S' G := by
  intro d
  induction d with
  | zero =>
    intro p S' hp h1 h2
    obtain rfl : p = 192 := by omega
    exact br_t (nI_le (a := 192) (by omega) (by omega)) (h S' h1 h2)
  | succ d ih =>
    intro p S' hp h1 h2
    refine br_f (nI_ge (b := 192) (by omega) (by omega)) ?_
    rw [sa_m192, sa_m192, sa_cl (by omega), sa_cl (by omega)]
    refine ⟨vp_in_nI (by omega) (by decide), vp_in_nI (by omega) (by decide), nm_e (nm_r (nI_1 p) (ih (p + 1) _ (by omega) (fun i hi => ?_) (fun k hk => ?_)))⟩
    · by_cases c : i = p
      · rw [c, pk_us]
        exact h2 _ (by omega)
      · rw [pk_un (by omega)]
        exact h1 i (by omega)
    · rw [pk_un (by omega)]
      exact h2 k (by omega)
theorem yy_copy {post : SY → Prop} {x y : Int32} {a b : Nat} (hx : x = nI a) (hy : y = nI b) (ha : a < 5) (hb : b < 5) (hab : a ≠ b) (h : ∀ S' : Nat → Int32, (∀ i, i < 192 → S' (192 * b + i) = S (192 * a + i)) → (∀ k, (k < 192 * b ∨ 192 * b + 192 ≤ k) → S' k = S k) → post (upd N b (N a), S', G)) : wpY_copy post (N, S, G) x y := by
  subst hx hy
  unfold wpY_copy
  dsimp only
  rw [sa_cl (n := a) (by omega), sa_cl (n := b) (by omega)]
  exact ⟨vp_in_nI ha (by decide), vp_in_nI hb (by decide), nm_e ⟨193, yy_cpl (S := S) ha hb hab h 192 0 S (by omega) (fun i hi => by omega) (fun _ _ => rfl)⟩⟩
theorem xx_st {post : Int32 → SX → Prop} {j n : Nat} (hj : j < 4) (hn : n ≤ 96) (h : ∀ P' : Nat → Int32, (∀ k, k < 1 + 3 * n → P' (289 * j + k) = sa_ct A B n k) → (∀ k, (k < 289 * j ∨ 289 * j + 289 ≤ k) → P' k = P k) → post 0 (f, A, B, P', upd F j 1, upd D j 0, T)) :
    ∀ (d p : Nat) (P' : Nat → Int32), p + d = n → (∀ i, i < p → P' (289 * j + (1 + 3 * i)) = sa_b0 (A i) ∧ P' (289 * j + (1 + 3 * i + 1)) = sa_b1 (A i) (B i) ∧ P' (289 * j + (1 + 3 * i + 2)) = sa_b2 (B i)) → (∀ k, (k < 289 * j ∨ 289 * j + 289 ≤ k) → P' k = P k) → wX_store_19 post (nI j) (nI n) (d + 1) (nI p) f A B P' F D T := by
  have cj : (nI j).toNatClampNeg = j := sa_cl (by omega)
  have i4 : vp_in (nI j) 4 := vp_in_nI hj (by decide)
  intro d
  induction d with
  | zero =>
    intro p P' hp h1 h2
    obtain rfl : p = n := by omega
    refine br_t (nI_le (by omega) (by omega)) ?_
    refine xx_smi hj hn ?_
    refine ⟨i4, nm_r (sa_up cj sa_nar1) ⟨i4, nm_r (sa_up cj sa_nar0) (h _ (sa_3 ?_ (fun i hi => ?_)) (fun k hk => ?_))⟩⟩
    · rw [sa_ct_h]
      exact pk_us
    · rw [sa_ct_0, sa_ct_1, sa_ct_2, pk_un (by omega), pk_un (by omega), pk_un (by omega)]
      exact h1 i hi
    · rw [pk_un (by omega)]
      exact h2 k hk
  | succ d ih =>
    intro p P' hp h1 h2
    refine br_f (nI_ge (by omega) (by omega)) ⟨vp_in_nI (by omega) (by decide), vp_in_nI (by omega) (by decide), ?_⟩
    rw [sa_cl (n := p) (by omega)]
    refine xx_pack hj (by omega) ?_
    refine nm_r (nI_1 p) (ih (p + 1) _ (by omega) (fun i hi => ?_) (fun k hk => ?_))
    · by_cases c : i = p
      · subst c
        rw [pk_un (by omega), pk_un (by omega), pk_us, pk_un (by omega), pk_us, pk_us]
        exact ⟨rfl, rfl, rfl⟩
      · rw [pk_un (by omega), pk_un (by omega), pk_un (by omega), pk_un (by omega), pk_un (by omega), pk_un (by omega), pk_un (by omega), pk_un (by omega), pk_un (by omega)]
        exact h1 i (by omega)
    · rw [pk_un (by omega), pk_un (by omega), pk_un (by omega)]
      exact h2 k hk
theorem xx_utl {post : SX → Prop} {j m a b : Nat} (hj : j < 4) (hm : m ≤ 96) (hab : a ≤ b) (hb : b ≤ m) (hB : sa_Byt P S j m) (hG : sa_Good S j m)
    (h : ∀ A' B' : Nat → Int32, (∀ q, q < b - a → A' q = S (192 * (j + 1) + (a + q)) ∧ B' q = S (192 * (j + 1) + 96 + (a + q))) → post (nI (b - a), A', B', P, F, D, T)) :
    ∀ (d p : Nat) (A' B' : Nat → Int32), p + d = b - a → (∀ q, q < p → A' q = S (192 * (j + 1) + (a + q)) ∧ B' q = S (192 * (j + 1) + 96 + (a + q))) → wX_unpackToHand_8 post (nI j) (nI a) (nI (b - a)) f (d + 1) (nI p) A' B' P F D T := by
  intro d
  induction d with
  | zero =>
    intro p A' B' hp h1
    obtain rfl : p = b - a := by omega
    exact br_t (nI_le (by omega) (by omega)) (h A' B' h1)
  | succ d ih =>
    intro p A' B' hp h1
    have vp : vp_in (nI p) 96 := vp_in_nI (by omega) (by decide)
    have cp : (nI p).toNatClampNeg = p := sa_cl (by omega)
    refine br_f (nI_ge (by omega) (by omega)) ?_
    rw [nI_add a p]
    refine xx_un0 hj hm (by omega) hB hG ?_
    refine ⟨vp, nm_r (sa_up cp rfl) ?_⟩
    refine xx_un1 hj hm (by omega) hB hG ?_
    refine ⟨vp, nm_r (sa_up cp rfl) (nm_r (nI_1 p) (ih (p + 1) _ _ (by omega) (fun q hq => ?_)))⟩
    by_cases c : q = p
    · subst c
      rw [pk_us, pk_us]
      exact ⟨rfl, rfl⟩
    · rw [pk_un c, pk_un c]
      exact h1 q (by omega)
theorem xx_uth {post : SX → Prop} {x y : Int32} {j m a b : Nat} (hx : x = nI a) (hy : y = nI b) (hj : j < 4) (hm : m ≤ 96) (hab : a ≤ b) (hb : b ≤ m) (hB : sa_Byt P S j m) (hG : sa_Good S j m)
    (h : ∀ A' B' : Nat → Int32, (∀ q, q < b - a → A' q = S (192 * (j + 1) + (a + q)) ∧ B' q = S (192 * (j + 1) + 96 + (a + q))) → post (nI (b - a), A', B', P, F, D, T)) : wpX_unpackToHand post (f, A, B, P, F, D, T) (nI j) x y := by
  subst hx hy
  unfold wpX_unpackToHand
  dsimp only
  exact nm_r (pk_sub hab) ⟨b - a + 1, xx_utl hj hm hab hb hB hG h (b - a) 0 A B (by omega) (fun q hq => by omega)⟩
end
theorem i_vc_store {k : Nat} {u : SX} {v : SY} (I : i_Rel k u v) (hk : k + 5 ≤ 2560) (v1 : Int32) (v2 : Int32) : wpX_store (fun r u' => wpY_store (fun r' v' => r' = r ∧ i_Rel (k + 5) u' v') v v1 v2) u v1 v2 := by
  obtain ⟨f, A, B, P, F, D, T⟩ := u
  obtain ⟨N, S, G⟩ := v
  have J := I
  obtain ⟨n, rfl, hN, hH, hS⟩ := I
  have hn := hH.1
  unfold wpX_store wpY_store
  dsimp only
  rcases sa_sl v1 with hb | ⟨j, hj, rfl⟩
  · refine xx_sl0 hb ?_
    refine br_t rfl ?_
    refine yy_sl0 hb ?_
    exact br_f (by decide) ⟨rfl, J⟩
  · have i4 : vp_in (nI j) 4 := vp_in_nI hj (by decide)
    have cj : (nI j).toNatClampNeg = j := sa_cl (by omega)
    refine xx_sl1 hj ?_
    refine br_f (by decide) ⟨n + 1, xx_st (P := P) hj hn (fun P' h1 h2 => ?_) n 0 P (by omega) (fun i hi => by omega) (fun _ _ => rfl)⟩
    refine yy_sl1 hj ?_
    refine br_t rfl ?_
    refine yy_copy (a := 0) (b := j + 1) rfl (nI_1 j) (by omega) (by omega) (by omega) (fun S' h3 h4 => ?_)
    refine ⟨i4, nm_r (sa_up cj rfl) ⟨rfl, ?_⟩⟩
    have eL : ∀ i, i < n → sa_L S' j i = A i := fun i hi => by
      have z := h3 i (by omega)
      rw [Nat.mul_zero, Nat.zero_add] at z
      exact z.trans (hH.2 i hi).1.symm
    have eR : ∀ i, i < n → sa_R S' j i = B i := fun i hi => by
      have z := h3 (96 + i) (by omega)
      rw [Nat.mul_zero, Nat.zero_add, ← Nat.add_assoc] at z
      exact z.trans (hH.2 i hi).2.1.symm
    have hh : sa_Hand n A B S' := ⟨hn, fun i hi => by
      rw [h4 i (by omega), h4 (96 + i) (by omega)]
      exact hH.2 i hi⟩
    have new : sa_Slot P' (upd F j 1) (upd D j 0) T (upd N (j + 1) (N 0)) S' (upd G j 1) j := by
      refine Or.inr ⟨n, hn, pk_us, by rw [pk_us]; exact hN, fun i hi => ?_, Or.inl ⟨pk_us, pk_us, fun k hk => ?_⟩⟩
      · rw [eL i hi, eR i hi, (hH.2 i hi).1, (hH.2 i hi).2.1]
        exact (hH.2 i hi).2.2
      · rw [h1 k hk]
        exact (sa_ct_c hk eL eR).symm
    have fin : sa_Rel (nI n) A B P' (upd F j 1) (upd D j 0) T (upd N (j + 1) (N 0)) S' (upd G j 1) :=
      ⟨n, rfl, by rw [pk_un (by omega)]; exact hN, hh, sa_slots (j := j) hS h2 (fun i hi => pk_un hi) (fun i hi => pk_un hi) (fun _ _ => rfl) (fun i hi => pk_un (by omega)) (fun k _ hk => h4 k hk) (fun i hi => pk_un hi) new⟩
    exact fin
theorem i_vc_load {k : Nat} {u : SX} {v : SY} (I : i_Rel k u v) (hk : k + 5 ≤ 2560) (v1 : Int32) : wpX_load (fun r u' => wpY_load (fun r' v' => r' = r ∧ i_Rel (k + 5) u' v') v v1) u v1 := by
  obtain ⟨f, A, B, P, F, D, T⟩ := u
  obtain ⟨N, S, G⟩ := v
  have J := I
  obtain ⟨n, rfl, hN, hH, hS⟩ := I
  have hn := hH.1
  unfold wpX_load wpY_load
  dsimp only
  rcases sa_sl v1 with hb | ⟨j, hj, rfl⟩
  · refine xx_prB hb ?_
    refine br_f (by decide) ?_
    refine yy_sl0 hb ?_
    exact br_f (by decide) ⟨rfl, J⟩
  · rcases sa_one (f := nI n) (A := A) (B := B) hj (hS j hj) with ⟨e, he, hx, hy⟩ | ⟨m, ⟨hm, hF, hD, hG, hL, hO, hB⟩, hx, hy⟩
    · refine hx _ ?_
      refine br_f he ?_
      refine yy_sl1 hj ?_
      refine br_t rfl ?_
      refine hy _ ?_
      refine br_f he ?_
      refine hy _ ?_
      exact ⟨rfl, J⟩
    · refine hx _ ?_
      refine br_t rfl ?_
      refine xx_mom hj (sa_rdH hB) ?_
      refine xx_uth (a := 0) (b := m) rfl rfl hj hm (by omega) (by omega) hB hO (fun A' B' hA => ?_)
      refine yy_sl1 hj ?_
      refine br_t rfl ?_
      refine hy _ ?_
      refine br_t rfl ?_
      refine yy_copy (a := j + 1) (b := 0) (nI_1 j) rfl (by omega) (by omega) (by omega) (fun S' h3 h4 => ?_)
      have cp : ∀ i, i < 192 → S' i = S (192 * (j + 1) + i) := fun i hi => by
        have z := h3 i hi
        rw [Nat.mul_zero, Nat.zero_add] at z
        exact z
      have hh : sa_Hand m A' B' S' := ⟨hm, fun i hi => by
        have z := hA i (by omega)
        rw [Nat.zero_add] at z
        rw [cp i (by omega), cp (96 + i) (by omega), ← Nat.add_assoc, z.1, z.2]
        exact ⟨rfl, rfl, (hO i hi).1, (hO i hi).2⟩⟩
      have e0 : upd N 0 (N (j + 1)) 0 = nI m := by rw [pk_us]; exact hL
      have fin : sa_Rel (nI m) A' B' P F D T (upd N 0 (N (j + 1))) S' G := sa_hand hS e0 (fun k hk => pk_un hk) (fun k hk => h4 k (by omega)) hh
      exact ⟨e0, fin⟩
theorem i_vc_excerpt {k : Nat} {u : SX} {v : SY} (I : i_Rel k u v) (hk : k + 5 ≤ 2560) (v1 : Int32) (v2 : Int32) (v3 : Int32) : wpX_excerpt (fun r u' => wpY_excerpt (fun r' v' => r' = r ∧ i_Rel (k + 5) u' v') v v1 v2 v3) u v1 v2 v3 := by
  obtain ⟨f, A, B, P, F, D, T⟩ := u
  obtain ⟨N, S, G⟩ := v
  have J := I
  obtain ⟨n, rfl, hN, hH, hS⟩ := I
  have hn := hH.1
  unfold wpX_excerpt wpY_excerpt
  dsimp only
  rcases sa_sl v1 with hb | ⟨j, hj, rfl⟩
  · refine xx_prB hb ?_
    refine br_f (by decide) ?_
    refine yy_sl0 hb ?_
    exact br_f (by decide) ⟨rfl, J⟩
  · rcases sa_one (f := nI n) (A := A) (B := B) hj (hS j hj) with ⟨e, he, hx, hy⟩ | ⟨m, ⟨hm, hF, hD, hG, hL, hO, hB⟩, hx, hy⟩
    · refine hx _ ?_
      refine br_f he ?_
      refine yy_sl1 hj ?_
      refine br_t rfl ?_
      refine hy _ ?_
      refine br_f he ?_
      refine hy _ ?_
      exact ⟨rfl, J⟩
    · refine hx _ ?_
      refine br_t rfl ?_
      refine xx_mom hj (sa_rdH hB) ?_
      rcases sa_rg v2 v3 (m := m) (by omega) with hr | ⟨a, b, hab, hbm, rfl, rfl⟩
      · refine xx_rg0 hr ?_
        refine br_t rfl ?_
        refine yy_sl1 hj ?_
        refine br_t rfl ?_
        refine hy _ ?_
        refine br_t rfl ?_
        refine yy_rg0 (nI_1 j) (by omega) hL hr ?_
        exact br_f (by decide) ⟨rfl, J⟩
      · refine xx_rg1 hab hbm (by omega) ?_
        refine br_f (by decide) ?_
        refine xx_uth (a := a) (b := b) rfl rfl hj hm hab hbm hB hO (fun A' B' hA => ?_)
        refine yy_sl1 hj ?_
        refine br_t rfl ?_
        refine hy _ ?_
        refine br_t rfl ?_
        refine yy_rg1 (nI_1 j) (by omega) hL hab hbm (by omega) ?_
        refine br_t rfl ?_
        refine yy_copy (a := j + 1) (b := 0) (nI_1 j) rfl (by omega) (by omega) (by omega) (fun S1 h3 h4 => ?_)
        have cp : ∀ i, i < 192 → S1 i = S (192 * (j + 1) + i) := fun i hi => by
          have z := h3 i hi
          rw [Nat.mul_zero, Nat.zero_add] at z
          exact z
        unfold wpY_keep
        dsimp only
        refine ⟨b - a + 1, yy_keep (S := S1) hab (by omega) (fun S' hA' hS' => ?_) (b - a) 0 S1 (by omega) (fun q hq => by omega) (fun q _ _ => ⟨rfl, rfl⟩) (fun _ _ => rfl)⟩
        have hh : sa_Hand (b - a) A' B' S' := ⟨by omega, fun i hi => by
          have z := hA i hi
          have w := hO (a + i) (by omega)
          rw [(hA' i hi).1, (hA' i hi).2, cp (a + i) (by omega), cp (96 + (a + i)) (by omega), show 192 * (j + 1) + (96 + (a + i)) = 192 * (j + 1) + 96 + (a + i) from by omega, z.1, z.2]
          exact ⟨rfl, rfl, w.1, w.2⟩⟩
        have fin : sa_Rel (nI (b - a)) A' B' P F D T (upd (upd N 0 (N (j + 1))) 0 (nI (b - a))) S' G :=
          sa_hand hS pk_us (fun k hk => (pk_un hk).trans (pk_un hk)) (fun k hk => (hS' k hk).trans (h4 k (by omega))) hh
        exact ⟨rfl, fin⟩
