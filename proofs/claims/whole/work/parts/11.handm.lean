/-! cut and change: the two sides together -/
theorem i_vc_cut {k : Nat} {u : SX} {v : SY} (I : i_Rel k u v) (hk : k + 5 ≤ 2560) (v1 : Int32) (v2 : Int32) : wpX_cut (fun r u' => wpY_cut (fun r' v' => r' = r ∧ i_Rel (k + 5) u' v') v v1 v2) u v1 v2 := by
  obtain ⟨f, A, B, P, F, D, T⟩ := u
  obtain ⟨N, S, G⟩ := v
  have J := I
  obtain ⟨n, rfl, hN, hH, hS⟩ := I
  have hn := hH.1
  unfold wpX_cut wpY_cut
  dsimp only
  rcases sa_rg v1 v2 (m := n) (by omega) with hb | ⟨a, b, hab, hbn, rfl, rfl⟩
  · refine xx_rg0 hb ?_
    refine br_t rfl ?_
    refine yy_rg0 (s := 0) rfl (by omega) hN hb ?_
    exact br_f (by decide) ⟨rfl, J⟩
  · refine xx_rg1 hab hbn (by omega) ?_
    refine br_f (by decide) (nm_r (pk_sub hab) ?_)
    refine ⟨b - a + 1, xx_cut (A := A) (B := B) (by omega) (fun A' B' hA => ?_) (b - a) 0 A B (by omega) (fun q hq => by omega) (fun q _ => ⟨rfl, rfl⟩)⟩
    refine yy_rg1 (s := 0) rfl (by omega) hN hab hbn (by omega) ?_
    refine br_t rfl ?_
    unfold wpY_keep
    dsimp only
    refine ⟨b - a + 1, yy_keep (S := S) hab (by omega) (fun S' hA' hS' => ?_) (b - a) 0 S (by omega) (fun q hq => by omega) (fun q _ _ => ⟨rfl, rfl⟩) (fun _ _ => rfl)⟩
    have hh : sa_Hand (b - a) A' B' S' := by
      refine ⟨by omega, fun i hi => ?_⟩
      have z := hH.2 (a + i) (by omega)
      rw [(hA i hi).1, (hA i hi).2, (hA' i hi).1, (hA' i hi).2]
      exact z
    have fin : sa_Rel (nI (b - a)) A' B' P F D T (upd N 0 (nI (b - a))) S' G := sa_hand hS pk_us (fun k hk => pk_un hk) hS' hh
    exact ⟨rfl, fin⟩
theorem sa_kd (x : Int32) : (x < 0 ∨ (¬ x < 0 ∧ 3 < x)) ∨ x = 0 ∨ x = 1 ∨ x = 2 ∨ x = 3 := by
  by_cases c : x < 0
  · exact Or.inl (Or.inl c)
  · rcases pk_ix x (n := 4) (by decide) with h | h | ⟨j, h, e⟩
    · exact absurd h c
    · exact Or.inl (Or.inr ⟨c, Int32.lt_of_lt_of_le (by decide) h⟩)
    · rcases (by omega : j = 0 ∨ j = 1 ∨ j = 2 ∨ j = 3) with z | z | z | z
      · exact Or.inr (Or.inl (by rw [e, z]; rfl))
      · exact Or.inr (Or.inr (Or.inl (by rw [e, z]; rfl)))
      · exact Or.inr (Or.inr (Or.inr (Or.inl (by rw [e, z]; rfl))))
      · exact Or.inr (Or.inr (Or.inr (Or.inr (by rw [e, z]; rfl))))
theorem sa_Hand_mp {va vb : Int32 → Int32 → Int32} {n : Nat} {A B S A' B' S' : Nat → Int32} (ha : ∀ a b, sa_sm a → sa_sm b → sa_sm (va a b)) (hb : ∀ a b, sa_sm a → sa_sm b → sa_sm (vb a b))
    (h : sa_Hand n A B S) (hX : sa_mp va vb n A B A' B') (hY : sa_my va vb n S S') : sa_Hand n A' B' S' := by
  refine ⟨h.1, fun i hi => ?_⟩
  obtain ⟨z1, z2, z3, z4⟩ := h.2 i hi
  rw [(hX.1 i hi).1, (hX.1 i hi).2, (hY.1 i hi).1, (hY.1 i hi).2, z1, z2]
  exact ⟨rfl, rfl, ha _ _ z3 z4, hb _ _ z3 z4⟩
theorem i_vc_change {k : Nat} {u : SX} {v : SY} (I : i_Rel k u v) (hk : k + 5 ≤ 2560) (v1 : Int32) : wpX_change (fun r u' => wpY_change (fun r' v' => r' = r ∧ i_Rel (k + 5) u' v') v v1) u v1 := by
  obtain ⟨f, A, B, P, F, D, T⟩ := u
  obtain ⟨N, S, G⟩ := v
  have J := I
  obtain ⟨n, rfl, hN, hH, hS⟩ := I
  have hn := hH.1
  unfold wpX_change wpY_change
  dsimp only
  rcases sa_kd v1 with (h | ⟨h1, h2⟩) | rfl | rfl | rfl | rfl
  · exact br_t h (br_t h ⟨rfl, J⟩)
  · exact br_f h1 (br_t h2 (br_f h1 (br_f (Int32.not_le.mpr h2) ⟨rfl, J⟩)))
  · refine br_f (by decide) (br_f (by decide) (br_t rfl ?_))
    unfold wpX_turnOrder
    dsimp only
    refine ⟨sa_20, nm_r (pk_div (d := 2) (by omega) (by decide) (by decide)) ⟨n / 2 + 1, xx_tO (A := A) (B := B) hn (fun A' B' hA => ?_) (n / 2) 0 A B (by omega) (sa_rv_0 _ _ _) (sa_rv_0 _ _ _)⟩⟩
    refine br_f (by decide) (br_t (by decide) (nm_r hN ?_))
    refine ⟨n / 2 + 1, yy_c0 (S := S) hn (fun S' hA' hS' => ?_) (n / 2) 0 S (by omega) (sa_rv_0 _ _ _) (sa_rv_0 _ _ _) (fun _ _ => rfl)⟩
    have hh : sa_Hand n A' B' S' := by
      refine ⟨hn, fun i hi => ?_⟩
      have z := hH.2 (n - 1 - i) (by omega)
      rw [(hA i hi).1, (hA i hi).2, (hA' i hi).1, (hA' i hi).2]
      exact z
    exact ⟨rfl, sa_hand hS hN (fun _ _ => rfl) hS' hh⟩
  · refine br_f (by decide) (br_f (by decide) (br_f (by decide) (br_t rfl ?_)))
    unfold wpX_exchangeChannels
    dsimp only
    refine ⟨n + 1, xx_ex (A := A) (B := B) hn (fun A' B' hA => ?_) n 0 A B (by omega) (sa_mp_0 _ _)⟩
    refine br_f (by decide) (br_t (by decide) (nm_r hN ?_))
    refine ⟨1, br_f (by decide) ⟨n + 1, yy_c1 (S := S) hn (fun S' hA' => ?_) n 0 S (by omega) (sa_my_0 _ _)⟩⟩
    exact ⟨rfl, sa_hand hS hN (fun _ _ => rfl) hA'.2.2 (sa_Hand_mp (fun _ _ _ h => h) (fun _ _ h _ => h) hH hA hA')⟩
  · refine br_f (by decide) (br_f (by decide) (br_f (by decide) (br_f (by decide) (br_t rfl ?_))))
    unfold wpX_halveSamples
    dsimp only
    refine ⟨n + 1, xx_ha (A := A) (B := B) hn (fun A' B' hA => ?_) n 0 A B (by omega) (sa_mp_0 _ _)⟩
    refine br_f (by decide) (br_t (by decide) (nm_r hN ?_))
    refine ⟨1, br_f (by decide) ⟨n + 1, yy_c2 (S := S) hn (fun S' hA' => ?_) n 0 S (by omega) (sa_my_0 _ _)⟩⟩
    exact ⟨rfl, sa_hand hS hN (fun _ _ => rfl) hA'.2.2 (sa_Hand_mp (fun _ _ h _ => sa_half h) (fun _ _ _ h => sa_half h) hH hA hA')⟩
  · refine br_f (by decide) (br_f (by decide) (br_f (by decide) (br_f (by decide) (br_f (by decide) (br_t rfl ?_)))))
    unfold wpX_doubleSamples
    dsimp only
    refine ⟨n + 1, xx_do (A := A) (B := B) hn (fun A' B' hA => ?_) n 0 A B (by omega) (sa_mp_0 _ _)⟩
    refine br_f (by decide) (br_t (by decide) (nm_r hN ?_))
    refine ⟨1, br_f (by decide) ⟨n + 1, yy_c3 (S := S) hn (fun S' hA' => ?_) n 0 S (by omega) (sa_my_0 _ _)⟩⟩
    exact ⟨rfl, sa_hand hS hN (fun _ _ => rfl) hA'.2.2 (sa_Hand_mp (fun _ _ _ _ => sa_wrR _) (fun _ _ _ _ => sa_wrR _) hH hA hA')⟩
