/-! lengthOf, peek, drop, damage, repair -/
section
variable {f : Int32} {A B P F D T N S G : Nat → Int32}
theorem sa_slots {j : Nat} {P' F' D' T' N' S' G' : Nat → Int32} (hS : ∀ i, i < 4 → sa_Slot P F D T N S G i)
    (hP : ∀ k, (k < 289 * j ∨ 289 * j + 289 ≤ k) → P' k = P k) (hF : ∀ i, i ≠ j → F' i = F i) (hD : ∀ i, i ≠ j → D' i = D i) (hT : ∀ i, i ≠ j → T' i = T i)
    (hN : ∀ i, i ≠ j → N' (i + 1) = N (i + 1)) (hS' : ∀ k, 192 ≤ k → (k < 192 * (j + 1) ∨ 192 * (j + 1) + 192 ≤ k) → S' k = S k) (hG : ∀ i, i ≠ j → G' i = G i)
    (new : sa_Slot P' F' D' T' N' S' G' j) : ∀ i, i < 4 → sa_Slot P' F' D' T' N' S' G' i := by
  intro i hi
  by_cases c : i = j
  · rw [c]
    exact new
  · exact sa_Slot_c (hS i hi) (fun k hk => hP _ (by omega)) (hF i c) (hD i c) (hT i c) (hN i c) (fun k hk => hS' _ (by omega) (by omega)) (hG i c)
end
theorem i_vc_lengthOf {k : Nat} {u : SX} {v : SY} (I : i_Rel k u v) (hk : k + 5 ≤ 2560) (v1 : Int32) : wpX_lengthOf (fun r => wpY_lengthOf (fun r' => r' = r ∧ i_Rel (k + 5) u v) v v1) u v1 := by
  obtain ⟨f, A, B, P, F, D, T⟩ := u
  obtain ⟨N, S, G⟩ := v
  have J := I
  obtain ⟨n, rfl, hN, hH, hS⟩ := I
  unfold wpX_lengthOf wpY_lengthOf
  dsimp only
  rcases sa_sl v1 with hb | ⟨j, hj, rfl⟩
  · refine xx_prB hb ?_
    refine br_f (by decide) ?_
    refine yy_sl0 hb ?_
    exact br_f (by decide) ⟨rfl, J⟩
  · rcases sa_one (f := nI n) (A := A) (B := B) hj (hS j hj) with ⟨e, he, hx, hy⟩ | ⟨m, ⟨hm, hF, hD, hG, hL, hO, hB⟩, hx, hy⟩
    · refine hx _ ?_
      refine br_f he ?_
      refine yy_sl1 hj ?_
      refine br_t rfl ?_
      refine hy _ ?_
      refine br_f he ?_
      refine hy _ ?_
      exact ⟨rfl, J⟩
    · refine hx _ ?_
      refine br_t rfl ?_
      refine xx_mom hj (sa_rdH hB) ?_
      refine yy_sl1 hj ?_
      refine br_t rfl ?_
      refine hy _ ?_
      refine br_t rfl ?_
      rw [nI_1 j, sa_cl (by omega)]
      exact ⟨vp_in_nI (by omega) (by decide), hL, J⟩
theorem sa_i0 (j i : Nat) : (192 : Int32) * (nI j + 1) + 96 * 0 + nI i = nI (192 * (j + 1) + i) := by
  show nI 192 * (nI j + nI 1) + nI 0 + nI i = _
  rw [nI_add, pk_mul, nI_add, nI_add]
  exact congrArg nI (by omega)
theorem sa_i1 (j i : Nat) : (192 : Int32) * (nI j + 1) + 96 * 1 + nI i = nI (192 * (j + 1) + 96 + i) := by
  show nI 192 * (nI j + nI 1) + nI 96 + nI i = _
  rw [nI_add, pk_mul, nI_add, nI_add]
theorem i_vc_peek {k : Nat} {u : SX} {v : SY} (I : i_Rel k u v) (hk : k + 5 ≤ 2560) (v1 : Int32) (v2 : Int32) (v3 : Int32) : wpX_peek (fun r => wpY_peek (fun r' => r' = r ∧ i_Rel (k + 5) u v) v v1 v2 v3) u v1 v2 v3 := by
  obtain ⟨f, A, B, P, F, D, T⟩ := u
  obtain ⟨N, S, G⟩ := v
  have J := I
  obtain ⟨n, rfl, hN, hH, hS⟩ := I
  unfold wpX_peek wpY_peek
  dsimp only
  rcases sa_cn v2 with hc | hc
  · refine xx_ch0 hc ?_
    refine br_t rfl ?_
    rcases sa_sl v1 with hb | ⟨j, hj, rfl⟩
    · refine yy_sl0 hb ?_
      exact br_f (by decide) ⟨rfl, J⟩
    · refine yy_sl1 hj ?_
      refine br_t rfl ?_
      refine yy_ch0 hc ?_
      exact br_f (by decide) ⟨rfl, J⟩
  · refine xx_ch1 hc ?_
    refine br_f (by decide) ?_
    rcases sa_sl v1 with hb | ⟨j, hj, rfl⟩
    · refine xx_prB hb ?_
      refine br_f (by decide) ?_
      refine yy_sl0 hb ?_
      exact br_f (by decide) ⟨rfl, J⟩
    · rcases sa_one (f := nI n) (A := A) (B := B) hj (hS j hj) with ⟨e, he, hx, hy⟩ | ⟨m, ⟨hm, hF, hD, hG, hL, hO, hB⟩, hx, hy⟩
      · refine hx _ ?_
        refine br_f he ?_
        refine yy_sl1 hj ?_
        refine br_t rfl ?_
        refine yy_ch1 hc ?_
        refine br_t rfl ?_
        refine hy _ ?_
        refine br_f he ?_
        refine hy _ ?_
        exact ⟨rfl, J⟩
      · refine hx _ ?_
        refine br_t rfl ?_
        rcases pk_ix v3 (n := m) (by omega) with h | h | ⟨i, hi, rfl⟩
        · refine br_t h ?_
          refine yy_sl1 hj ?_
          refine br_t rfl ?_
          refine yy_ch1 hc ?_
          refine br_t rfl ?_
          refine hy _ ?_
          refine br_t rfl ?_
          refine yy_nm0 (nI_1 j) (by omega) hL (Or.inl h) ?_
          exact br_f (by decide) ⟨rfl, J⟩
        · have h0 : ¬ v3 < 0 := fun z => absurd (Int32.lt_of_le_of_lt h z) (nI_pos (by omega))
          refine br_f h0 ?_
          refine xx_mom hj (sa_rdH hB) ?_
          refine br_f (Int32.not_lt.mpr h) ?_
          refine yy_sl1 hj ?_
          refine br_t rfl ?_
          refine yy_ch1 hc ?_
          refine br_t rfl ?_
          refine hy _ ?_
          refine br_t rfl ?_
          refine yy_nm0 (nI_1 j) (by omega) hL (Or.inr h) ?_
          exact br_f (by decide) ⟨rfl, J⟩
        · refine br_f (nI_pos (by omega)) ?_
          refine xx_mom hj (sa_rdH hB) ?_
          refine br_t (nI_lt hi (by omega)) ?_
          rcases hc with rfl | rfl
          · refine xx_un0 hj hm hi hB hO ?_
            refine yy_sl1 hj ?_
            refine br_t rfl ?_
            refine yy_ch1 (Or.inl rfl) ?_
            refine br_t rfl ?_
            refine hy _ ?_
            refine br_t rfl ?_
            refine yy_nm1 (nI_1 j) (by omega) hL hi (by omega) ?_
            refine br_t rfl ?_
            rw [sa_i0, sa_cl (by omega)]
            exact ⟨vp_in_nI (by omega) (by decide), rfl, J⟩
          · refine xx_un1 hj hm hi hB hO ?_
            refine yy_sl1 hj ?_
            refine br_t rfl ?_
            refine yy_ch1 (Or.inr rfl) ?_
            refine br_t rfl ?_
            refine hy _ ?_
            refine br_t rfl ?_
            refine yy_nm1 (nI_1 j) (by omega) hL hi (by omega) ?_
            refine br_t rfl ?_
            rw [sa_i1, sa_cl (by omega)]
            exact ⟨vp_in_nI (by omega) (by decide), rfl, J⟩
theorem i_vc_drop {k : Nat} {u : SX} {v : SY} (I : i_Rel k u v) (hk : k + 5 ≤ 2560) (v1 : Int32) : wpX_drop (fun r u' => wpY_drop (fun r' v' => r' = r ∧ i_Rel (k + 5) u' v') v v1) u v1 := by
  obtain ⟨f, A, B, P, F, D, T⟩ := u
  obtain ⟨N, S, G⟩ := v
  have J := I
  obtain ⟨n, rfl, hN, hH, hS⟩ := I
  unfold wpX_drop wpY_drop
  dsimp only
  rcases sa_sl v1 with hb | ⟨j, hj, rfl⟩
  · refine xx_sl0 hb ?_
    refine br_t rfl ?_
    refine yy_sl0 hb ?_
    exact br_f (by decide) ⟨rfl, J⟩
  · have i4 : vp_in (nI j) 4 := vp_in_nI hj (by decide)
    have cj : (nI j).toNatClampNeg = j := sa_cl (by omega)
    have fin : sa_Rel (nI n) A B P (upd F j 0) (upd D j 0) T N S (upd G j 0) :=
      ⟨n, rfl, hN, hH, sa_slots (j := j) hS (fun _ _ => rfl) (fun i hi => pk_un hi) (fun i hi => pk_un hi) (fun _ _ => rfl) (fun _ _ => rfl) (fun _ _ _ => rfl) (fun i hi => pk_un hi) (Or.inl ⟨pk_us, pk_us⟩)⟩
    refine xx_sl1 hj ?_
    refine br_f (by decide) ⟨i4, ?_⟩
    rw [cj]
    rcases hS j hj with ⟨h1, h2⟩ | ⟨m, hm, h1, h2, h3, ⟨a, b, c⟩ | ⟨a, b, c⟩⟩
    · refine br_t h1 ?_
      refine yy_sl1 hj ?_
      refine br_t rfl ⟨i4, ?_⟩
      exact br_t h2 ⟨rfl, J⟩
    · refine br_f (by rw [h1]; decide) ⟨i4, br_t a ⟨i4, nm_r (sa_up cj sa_nar0) ⟨i4, nm_r (sa_up cj sa_nar0) ?_⟩⟩⟩
      refine yy_sl1 hj ?_
      refine br_t rfl ⟨i4, ?_⟩
      exact br_f (by rw [b]; decide) ⟨i4, br_f (by rw [b]; decide) ⟨i4, nm_r (sa_up cj rfl) ⟨rfl, fin⟩⟩⟩
    · refine br_f (by rw [h1]; decide) ⟨i4, br_f (by rw [a]; decide) ⟨i4, nm_r (sa_up cj sa_nar0) ⟨i4, nm_r (sa_up cj sa_nar0) ?_⟩⟩⟩
      refine yy_sl1 hj ?_
      refine br_t rfl ⟨i4, ?_⟩
      exact br_f (by rw [b]; decide) ⟨i4, br_t b ⟨i4, nm_r (sa_up cj rfl) ⟨rfl, fin⟩⟩⟩
theorem i_vc_damage {k : Nat} {u : SX} {v : SY} (I : i_Rel k u v) (hk : k + 5 ≤ 2560) (v1 : Int32) (v2 : Int32) : wpX_damage (fun r u' => wpY_damage (fun r' v' => r' = r ∧ i_Rel (k + 5) u' v') v v1 v2) u v1 v2 := by
  obtain ⟨f, A, B, P, F, D, T⟩ := u
  obtain ⟨N, S, G⟩ := v
  have J := I
  obtain ⟨n, rfl, hN, hH, hS⟩ := I
  unfold wpX_damage wpY_damage
  dsimp only
  rcases sa_sl v1 with hb | ⟨j, hj, rfl⟩
  · refine xx_sl0 hb ?_
    refine br_t rfl ?_
    refine yy_sl0 hb ?_
    exact br_f (by decide) ⟨rfl, J⟩
  · have i4 : vp_in (nI j) 4 := vp_in_nI hj (by decide)
    have cj : (nI j).toNatClampNeg = j := sa_cl (by omega)
    refine xx_sl1 hj ?_
    refine br_f (by decide) ⟨i4, ?_⟩
    rw [cj]
    rcases hS j hj with ⟨h1, h2⟩ | ⟨m, hm, h1, h2, h3, ⟨a, b, c⟩ | ⟨a, b, c⟩⟩
    · refine br_t h1 ?_
      refine yy_sl1 hj ?_
      refine br_t rfl ⟨i4, ?_⟩
      exact br_t h2 ⟨rfl, J⟩
    · refine br_f (by rw [h1]; decide) ⟨i4, br_t a ?_⟩
      refine xx_byt hj (sa_rdH c) ?_
      have hq : v2.toBitVec.toNat % 2 ^ 31 < 2147483648 := by omega
      have e8 : nI (1 + 3 * m) * 8 = nI (8 * (1 + 3 * m)) := by
        show nI (1 + 3 * m) * nI 8 = _
        rw [pk_mul]
        exact congrArg nI (by omega)
      have hd : v2.toBitVec.toNat % 2 ^ 31 % (8 * (1 + 3 * m)) < 8 * (1 + 3 * m) := Nat.mod_lt _ (by omega)
      have et : (v2 &&& 2147483647) - (v2 &&& 2147483647) / nI (8 * (1 + 3 * m)) * nI (8 * (1 + 3 * m)) = nI (v2.toBitVec.toNat % 2 ^ 31 % (8 * (1 + 3 * m))) := by
        rw [pk_and v2 31 (by decide)]
        exact pk_rem hq (by omega) (by omega)
      generalize v2.toBitVec.toNat % 2 ^ 31 % (8 * (1 + 3 * m)) = t at hd et
      refine nm_r e8 ⟨nI_ne0 (by omega) (by omega), i4, nm_r (congrArg (upd T j) et) ?_⟩
      refine xx_turn (t := t) hj (by omega) pk_us ?_
      refine ⟨i4, nm_r (congrArg (upd D j) sa_nar1) ?_⟩
      refine yy_sl1 hj ?_
      refine br_t rfl ⟨i4, ?_⟩
      refine br_f (by rw [b]; decide) ⟨i4, br_f (by rw [b]; decide) ⟨i4, nm_e ⟨rfl, ?_⟩⟩⟩
      refine ⟨n, rfl, hN, hH, sa_slots (j := j) hS (fun k hk => pk_un (by omega)) (fun _ _ => rfl) (fun i hi => pk_un hi) (fun i hi => pk_un hi) (fun _ _ => rfl) (fun _ _ _ => rfl) (fun i hi => pk_un hi) ?_⟩
      exact Or.inr ⟨m, hm, h1, h2, h3, Or.inr ⟨pk_us, pk_us, t, hd, pk_us, sa_dmg c hd pk_us (fun k hk => pk_un hk)⟩⟩
    · refine br_f (by rw [h1]; decide) ⟨i4, br_f (by rw [a]; decide) ?_⟩
      refine yy_sl1 hj ?_
      refine br_t rfl ⟨i4, ?_⟩
      exact br_f (by rw [b]; decide) ⟨i4, br_t b ⟨rfl, J⟩⟩
theorem i_vc_repair {k : Nat} {u : SX} {v : SY} (I : i_Rel k u v) (hk : k + 5 ≤ 2560) (v1 : Int32) : wpX_repair (fun r u' => wpY_repair (fun r' v' => r' = r ∧ i_Rel (k + 5) u' v') v v1) u v1 := by
  obtain ⟨f, A, B, P, F, D, T⟩ := u
  obtain ⟨N, S, G⟩ := v
  have J := I
  obtain ⟨n, rfl, hN, hH, hS⟩ := I
  unfold wpX_repair wpY_repair
  dsimp only
  rcases sa_sl v1 with hb | ⟨j, hj, rfl⟩
  · refine xx_sl0 hb ?_
    refine br_t rfl ?_
    refine yy_sl0 hb ?_
    exact br_f (by decide) ⟨rfl, J⟩
  · have i4 : vp_in (nI j) 4 := vp_in_nI hj (by decide)
    have cj : (nI j).toNatClampNeg = j := sa_cl (by omega)
    refine xx_sl1 hj ?_
    refine br_f (by decide) ⟨i4, ?_⟩
    rw [cj]
    rcases hS j hj with ⟨h1, h2⟩ | ⟨m, hm, h1, h2, h3, ⟨a, b, c⟩ | ⟨a, b, t, ht, c, d⟩⟩
    · refine br_t h1 ?_
      refine yy_sl1 hj ?_
      refine br_t rfl ⟨i4, ?_⟩
      rw [h2]
      exact br_f (by decide) ⟨rfl, J⟩
    · refine br_f (by rw [h1]; decide) ⟨i4, br_t a ?_⟩
      refine yy_sl1 hj ?_
      refine br_t rfl ⟨i4, ?_⟩
      rw [b]
      exact br_f (by decide) ⟨rfl, J⟩
    · refine br_f (by rw [h1]; decide) ⟨i4, br_f (by rw [a]; decide) ?_⟩
      refine xx_turn (t := t) hj (by omega) c ?_
      refine ⟨i4, nm_r (congrArg (upd D j) sa_nar0) ?_⟩
      refine yy_sl1 hj ?_
      refine br_t rfl ⟨i4, ?_⟩
      rw [b]
      refine br_t (by decide) ⟨i4, nm_e ⟨rfl, ?_⟩⟩
      refine ⟨n, rfl, hN, hH, sa_slots (j := j) hS (fun k hk => pk_un (by omega)) (fun _ _ => rfl) (fun i hi => pk_un hi) (fun _ _ => rfl) (fun _ _ => rfl) (fun _ _ _ => rfl) (fun i hi => pk_un hi) ?_⟩
      exact Or.inr ⟨m, hm, h1, h2, h3, Or.inl ⟨pk_us, pk_us, sa_rep hm d ht pk_us (fun k hk => pk_un hk)⟩⟩
