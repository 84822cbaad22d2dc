/-! tone: the two sides together -/
theorem sa_Hand_ap {va vb : Nat → Int32} {n m : Nat} {A B S A' B' S' : Nat → Int32} (hv : ∀ q, sa_sm (va q) ∧ sa_sm (vb q)) (hm : n + m ≤ 96) (h : sa_Hand n A B S) (hX : sa_ap va vb n m A B A' B') (hY : sa_ay va vb n m S S') : sa_Hand (n + m) A' B' S' := by
  refine ⟨hm, fun i hi => ?_⟩
  by_cases c : i < n
  · rw [(hX.1 i c).1, (hX.1 i c).2, (hY.1 i c).1, (hY.1 i c).2]
    exact h.2 i c
  · obtain ⟨q, rfl⟩ : ∃ q, i = n + q := ⟨i - n, by omega⟩
    rw [(hX.2 q (by omega)).1, (hX.2 q (by omega)).2, (hY.2.1 q (by omega)).1, (hY.2.1 q (by omega)).2]
    exact ⟨rfl, rfl, (hv q).1, (hv q).2⟩
theorem sa_Hand_ae {n m dl : Nat} {b : Int32} {A B S A' B' S' : Nat → Int32} (hd : 1 ≤ dl) (hm : n + m ≤ 96) (h : sa_Hand n A B S) (hA : sa_ae 0 dl n b m A A') (hB : sa_ae 0 dl n b m B B') (hL : sa_ae 0 dl n b m S S') (hR : sa_ae 96 dl n b m S S') : sa_Hand (n + m) A' B' S' := by
  refine ⟨hm, fun i => ?_⟩
  induction i using Nat.strongRecOn with
  | ind i ih =>
    intro hi
    by_cases c : i < n
    · have a1 := hA.1 i c
      have b1 := hB.1 i c
      have l1 := hL.1 i c
      rw [Nat.zero_add] at a1 b1 l1
      rw [a1, b1, l1, hR.1 i c]
      exact h.2 i c
    · have a1 := hA.2 i (by omega) (by omega)
      have b1 := hB.2 i (by omega) (by omega)
      have l1 := hL.2 i (by omega) (by omega)
      rw [Nat.zero_add, Nat.zero_add] at a1 b1 l1
      rw [a1, b1, l1, hR.2 i (by omega) (by omega)]
      by_cases e : i < dl
      · rw [if_pos e, if_pos e, if_pos e, if_pos e]
        exact ⟨rfl, rfl, sa_wrR _, sa_wrR _⟩
      · have z := ih (i - dl) (by omega) (by omega)
        rw [if_neg e, if_neg e, if_neg e, if_neg e, z.1, z.2.1]
        exact ⟨rfl, rfl, sa_wrR _, sa_wrR _⟩
theorem i_vc_tone {k : Nat} {u : SX} {v : SY} (I : i_Rel k u v) (hk : k + 5 ≤ 2560) (v1 : Int32) (v2 : Int32) (v3 : Int32) (v4 : Int32) : wpX_tone (fun r u' => wpY_tone (fun r' v' => r' = r ∧ i_Rel (k + 5) u' v') v v1 v2 v3 v4) u v1 v2 v3 v4 := by
  obtain ⟨f, A, B, P, F, D, T⟩ := u
  obtain ⟨N, S, G⟩ := v
  have J := I
  obtain ⟨n, rfl, hN, hH, hS⟩ := I
  have hn := hH.1
  rcases sa_kd v1 with (h | ⟨h1, h2⟩) | hkd
  · unfold wpX_tone wpY_tone
    dsimp only
    exact br_t h (br_t h ⟨rfl, J⟩)
  · unfold wpX_tone wpY_tone
    dsimp only
    exact br_f h1 (br_t h2 (br_f h1 (br_t h2 ⟨rfl, J⟩)))
  · have k0 : ¬ v1 < 0 := by rcases hkd with rfl | rfl | rfl | rfl <;> decide
    have k3 : ¬ 3 < v1 := by rcases hkd with rfl | rfl | rfl | rfl <;> decide
    by_cases h4 : 0 ≤ v4
    · obtain ⟨q, hq, rfl⟩ := nI_of (x := v4) (Int32.not_lt.mpr h4)
      have er : (96 : Int32) - nI n = nI (96 - n) := pk_sub (a := 96) hn
      have er' : (96 : Int32) - N 0 = nI (96 - n) := by rw [hN]; exact er
      obtain ⟨m, hm, hX, hY⟩ : ∃ m, n + m ≤ 96 ∧ (∀ post : Int32 → SX → Prop, wX_tone_41 post v1 v2 v3 (nI m) (nI n) A B P F D T → wpX_tone post (nI n, A, B, P, F, D, T) v1 v2 v3 (nI q)) ∧ (∀ post : Int32 → SY → Prop, wY_tone_46 post v1 v2 v3 v2 (nI m) N S G → wpY_tone post (N, S, G) v1 v2 v3 (nI q)) := by
        by_cases c : 96 - n ≤ q
        · exact ⟨96 - n, by omega, fun post w => br_f k0 (br_f k3 (br_t h4 (nm_r er (br_t (nI_le c hq) w)))), fun post w => br_f k0 (br_f k3 (br_t h4 (nm_r er' (br_t (nI_le c hq) w))))⟩
        · exact ⟨q, by omega, fun post w => br_f k0 (br_f k3 (br_t h4 (nm_r er (br_f (nI_ge (by omega) (by omega)) w)))), fun post w => br_f k0 (br_f k3 (br_t h4 (nm_r er' (br_f (nI_ge (by omega) (by omega)) w))))⟩
      obtain ⟨dl, hd, hd', ed⟩ : ∃ dl : Nat, 1 ≤ dl ∧ dl ≤ 16 ∧ (v2 &&& 15) + 1 = nI dl := by
        obtain ⟨e, he, ee⟩ := pk_andE v2 (m := 15) 4 (by decide)
        exact ⟨e + 1, by omega, by omega, by rw [ee, nI_1]⟩
      refine hX _ ?_
      rcases hkd with rfl | rfl | rfl | rfl
      · refine br_f (by decide) (br_f (by decide) (br_t rfl ?_))
        unfold wpX_addSlopes
        dsimp only
        refine ⟨m + 1, xx_slo (A := A) (B := B) hm (fun A' B' hA => ?_) m 0 A B (by omega) (sa_ap_0 _ _ _)⟩
        refine hY _ ?_
        refine nm_r ed ⟨m + 1, yy_slo (N := N) (S := S) hm (fun N' S' g1 g2 g3 => ?_) m 0 _ N S (by omega) hN (fun _ _ => rfl) (sa_ay_0 _ _ _)⟩
        exact ⟨rfl, sa_hand hS g1 g2 g3.2.2 (sa_Hand_ap (fun q => ⟨sa_wrR _, sa_wrR _⟩) hm hH hA g3)⟩
      · refine br_f (by decide) (br_f (by decide) (br_f (by decide) (br_t rfl ?_)))
        unfold wpX_addNoise
        dsimp only
        refine ⟨m + 1, xx_noi (A := A) (B := B) hm (fun A' B' hA => ?_) m 0 A B (by omega) (sa_ap_0 _ _ _)⟩
        refine hY _ ?_
        refine nm_r ed ⟨m + 1, yy_noi (N := N) (S := S) hm (fun N' S' g1 g2 g3 => ?_) m 0 N S (by omega) hN (fun _ _ => rfl) (sa_ay_0 _ _ _)⟩
        exact ⟨rfl, sa_hand hS g1 g2 g3.2.2 (sa_Hand_ap (fun q => ⟨sa_wrR _, sa_wrR _⟩) hm hH hA g3)⟩
      · refine br_f (by decide) (br_f (by decide) (br_f (by decide) (br_f (by decide) (br_t rfl ?_))))
        unfold wpX_addCurve
        dsimp only
        refine ⟨m + 1, xx_cur (A := A) (B := B) hm (fun A' B' hA => ?_) m 0 A B (by omega) (sa_ap_0 _ _ _)⟩
        refine hY _ ?_
        refine nm_r ed ⟨m + 1, yy_cur (N := N) (S := S) hm (fun N' S' g1 g2 g3 => ?_) m 0 _ N S (by omega) hN (fun _ _ => rfl) (sa_ay_0 _ _ _)⟩
        exact ⟨rfl, sa_hand hS g1 g2 g3.2.2 (sa_Hand_ap (fun q => ⟨sa_wrR _, sa_wrR _⟩) hm hH hA g3)⟩
      · refine br_f (by decide) (br_t (by decide) ?_)
        unfold wpX_addEcho
        dsimp only
        refine nm_r ed ⟨m + 1, xx_ech (A := A) (B := B) hm hd hd' (fun A' B' hA hB => ?_) m 0 A B (by omega) (sa_ae_0 _ _ _ _) (sa_ae_0 _ _ _ _)⟩
        refine hY _ ?_
        refine nm_r ed ⟨m + 1, yy_ech (N := N) (S := S) hm hd hd' (fun N' S' g1 g2 g3 g4 g5 => ?_) m 0 _ N S (by omega) hN (fun _ _ => rfl) (sa_ae_0 _ _ _ _) (sa_ae_0 _ _ _ _) (fun _ _ => rfl)⟩
        exact ⟨rfl, sa_hand hS g1 g2 g5 (sa_Hand_ae hd hm hH hA hB g3 g4)⟩
    · unfold wpX_tone wpY_tone
      dsimp only
      exact br_f k0 (br_f k3 (br_f h4 (br_f k0 (br_f k3 (br_f h4 ⟨rfl, J⟩)))))
