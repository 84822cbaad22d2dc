/-! join -/
section
variable {f : Int32} {A B P F D T N S G : Nat → Int32}
theorem xx_joi {post : Int32 → SX → Prop} {i t s K w : Nat} (hi : i < 4) (hw : w ≤ 96) (ht : t + K ≤ 1156) (hs : s + K ≤ 1156) (hd : ∀ q, q < K → s + q < t ∨ t + K ≤ s + q) (hz : ∀ q, q < K → vp_nar .byte (P (s + q)) = P (s + q))
    (h : ∀ P' : Nat → Int32, (∀ q, q < K → P' (t + q) = P (s + q)) → (∀ k, (k < t ∨ t + K ≤ k) → P' k = P k) → post (nI w) (f, A, B, upd P' (289 * i) (nI w), F, D, T)) :
    ∀ (d p : Nat) (P' : Nat → Int32), p + d = K → (∀ q, q < p → P' (t + q) = P (s + q)) → (∀ k, (k < t ∨ t + p ≤ k) → P' k = P k) → wX_join_69 post (nI i) (nI w) (nI t) (nI s) (nI K) f (d + 1) (nI p) A B P' F D T := by
  intro d
  induction d with
  | zero =>
    intro p P' hp h1 h2
    obtain rfl : p = K := by omega
    refine br_t (nI_le (by omega) (by omega)) ?_
    refine xx_smi hi hw ?_
    exact h P' h1 h2
  | succ d ih =>
    intro p P' hp h1 h2
    have es : P' (s + p) = P (s + p) := h2 _ (by have := hd p (by omega); omega)
    refine br_f (nI_ge (by omega) (by omega)) ?_
    rw [nI_add s p, nI_add t p, sa_cl (n := s + p) (by omega), sa_cl (n := t + p) (by omega), es, hz p (by omega)]
    refine ⟨vp_in_nI (by omega) (by decide), vp_in_nI (by omega) (by decide), nm_e (nm_r (nI_1 p) (ih (p + 1) _ (by omega) (fun q hq => ?_) (fun k hk => ?_)))⟩
    · by_cases c : q = p
      · rw [c, pk_us]
      · rw [pk_un (by omega)]
        exact h1 q (by omega)
    · rw [pk_un (by omega)]
      exact h2 k (by omega)
theorem yy_joi {post : Int32 → SY → Prop} {i j m l : Nat} (hi : i < 4) (hj : j < 4) (hml : m + l ≤ 96) (hij : i ≠ j ∨ l = m)
    (h : ∀ S' : Nat → Int32, (∀ q, q < l → S' (192 * (i + 1) + m + q) = S (192 * (j + 1) + q) ∧ S' (192 * (i + 1) + 96 + m + q) = S (192 * (j + 1) + 96 + q)) → (∀ k, (k < 192 * (i + 1) + m ∨ 192 * (i + 1) + m + l ≤ k) → (k < 192 * (i + 1) + 96 + m ∨ 192 * (i + 1) + 96 + m + l ≤ k) → S' k = S k) → post (nI (m + l)) (upd N (i + 1) (nI (m + l)), S', G)) :
    ∀ (d p : Nat) (S' : Nat → Int32), p + d = l → (∀ q, q < p → S' (192 * (i + 1) + m + q) = S (192 * (j + 1) + q) ∧ S' (192 * (i + 1) + 96 + m + q) = S (192 * (j + 1) + 96 + q)) → (∀ k, (k < 192 * (i + 1) + m ∨ 192 * (i + 1) + m + p ≤ k) → (k < 192 * (i + 1) + 96 + m ∨ 192 * (i + 1) + 96 + m + p ≤ k) → S' k = S k) →
      wY_join_58 post (nI (i + 1)) (nI (j + 1)) (nI m) (nI l) (d + 1) (nI p) N S' G := by
  have e0 : nI m + nI l = nI (m + l) := nI_add _ _
  intro d
  induction d with
  | zero =>
    intro p S' hp h1 h2
    obtain rfl : p = l := by omega
    refine br_t (nI_le (by omega) (by omega)) ?_
    rw [e0, sa_cl (n := i + 1) (by omega)]
    exact ⟨vp_in_nI (by omega) (by decide), nm_e (h S' h1 h2)⟩
  | succ d ih =>
    intro p S' hp h1 h2
    have e1 : (192 : Int32) * nI (j + 1) + nI p = nI (192 * (j + 1) + p) := sa_m192 _ _
    have e2 : (192 : Int32) * nI (i + 1) + nI m + nI p = nI (192 * (i + 1) + m + p) := by rw [sa_m192, nI_add]
    have e3 : (192 : Int32) * nI (j + 1) + 96 + nI p = nI (192 * (j + 1) + 96 + p) := by
      show (192 : Int32) * nI (j + 1) + nI 96 + nI p = _
      rw [sa_m192, nI_add]
    have e4 : (192 : Int32) * nI (i + 1) + 96 + nI m + nI p = nI (192 * (i + 1) + 96 + m + p) := by
      show (192 : Int32) * nI (i + 1) + nI 96 + nI m + nI p = _
      rw [sa_m192, nI_add, nI_add]
    have r1 : S' (192 * (j + 1) + p) = S (192 * (j + 1) + p) := h2 _ (by omega) (by omega)
    have r2 : S' (192 * (j + 1) + 96 + p) = S (192 * (j + 1) + 96 + p) := h2 _ (by omega) (by omega)
    refine br_f (nI_ge (by omega) (by omega)) ?_
    rw [e1, e2, e3, e4, sa_cl (n := 192 * (j + 1) + p) (by omega), sa_cl (n := 192 * (i + 1) + m + p) (by omega), sa_cl (n := 192 * (j + 1) + 96 + p) (by omega), sa_cl (n := 192 * (i + 1) + 96 + m + p) (by omega), r1]
    refine ⟨vp_in_nI (by omega) (by decide), vp_in_nI (by omega) (by decide), nm_e ⟨vp_in_nI (by omega) (by decide), vp_in_nI (by omega) (by decide), nm_r (congrArg (upd _ _) ((pk_un (by omega)).trans r2)) (nm_r (nI_1 p) (ih (p + 1) _ (by omega) (fun q hq => ?_) (fun k hk hk' => ?_)))⟩⟩
    · by_cases c : q = p
      · rw [c, pk_un (by omega), pk_us, pk_us]
        exact ⟨rfl, rfl⟩
      · rw [pk_un (by omega), pk_un (by omega), pk_un (by omega), pk_un (by omega)]
        exact h1 q (by omega)
    · rw [pk_un (by omega), pk_un (by omega)]
      exact h2 k (by omega) (by omega)
end
theorem sa_join {P P' S S' : Nat → Int32} {i j m l : Nat} (hml : m + l ≤ 96) (a5 : sa_Good S i m) (a6 : sa_Byt P S i m) (b5 : sa_Good S j l) (b6 : sa_Byt P S j l)
    (h1 : ∀ q, q < 3 * l → P' (289 * i + (1 + 3 * m) + q) = P (289 * j + (1 + 3 * 0) + q)) (h2 : ∀ k, (k < 289 * i + (1 + 3 * m) ∨ 289 * i + (1 + 3 * m) + 3 * l ≤ k) → P' k = P k)
    (h3 : ∀ q, q < l → S' (192 * (i + 1) + m + q) = S (192 * (j + 1) + q) ∧ S' (192 * (i + 1) + 96 + m + q) = S (192 * (j + 1) + 96 + q)) (h4 : ∀ k, (k < 192 * (i + 1) + m ∨ 192 * (i + 1) + m + l ≤ k) → (k < 192 * (i + 1) + 96 + m ∨ 192 * (i + 1) + 96 + m + l ≤ k) → S' k = S k) :
    sa_Good S' i (m + l) ∧ sa_Byt (upd P' (289 * i) (nI (m + l))) S' i (m + l) := by
  have lo : ∀ q, q < m → sa_L S' i q = sa_L S i q ∧ sa_R S' i q = sa_R S i q := fun q hq => ⟨h4 _ (by omega) (by omega), h4 _ (by omega) (by omega)⟩
  have hi : ∀ q, q < l → sa_L S' i (m + q) = sa_L S j q ∧ sa_R S' i (m + q) = sa_R S j q := fun q hq => by
    have z := h3 q hq
    rw [Nat.add_assoc, Nat.add_assoc (192 * (i + 1) + 96)] at z
    exact z
  refine ⟨fun q hq => ?_, sa_3 ?_ (fun q hq => ?_)⟩
  · by_cases c : q < m
    · rw [(lo q c).1, (lo q c).2]
      exact a5 q c
    · obtain ⟨r, rfl⟩ : ∃ r, q = m + r := ⟨q - m, by omega⟩
      rw [(hi r (by omega)).1, (hi r (by omega)).2]
      exact b5 r (by omega)
  · rw [sa_ct_h]
    exact pk_us
  · rw [sa_ct_0, sa_ct_1, sa_ct_2, pk_un (by omega), pk_un (by omega), pk_un (by omega)]
    by_cases c : q < m
    · rw [(lo q c).1, (lo q c).2, h2 _ (by omega), h2 _ (by omega), h2 _ (by omega), a6 _ (by omega), a6 _ (by omega), a6 _ (by omega), sa_ct_0, sa_ct_1, sa_ct_2]
      exact ⟨rfl, rfl, rfl⟩
    · obtain ⟨r, rfl⟩ : ∃ r, q = m + r := ⟨q - m, by omega⟩
      rw [(hi r (by omega)).1, (hi r (by omega)).2]
      have z0 := h1 (3 * r) (by omega)
      have z1 := h1 (3 * r + 1) (by omega)
      have z2 := h1 (3 * r + 2) (by omega)
      have w0 := b6 (1 + 3 * r) (by omega)
      have w1 := b6 (1 + 3 * r + 1) (by omega)
      have w2 := b6 (1 + 3 * r + 2) (by omega)
      rw [sa_ct_0] at w0
      rw [sa_ct_1] at w1
      rw [sa_ct_2] at w2
      rw [show 289 * i + (1 + 3 * m) + 3 * r = 289 * i + (1 + 3 * (m + r)) from by omega, show 289 * j + (1 + 3 * 0) + 3 * r = 289 * j + (1 + 3 * r) from by omega] at z0
      rw [show 289 * i + (1 + 3 * m) + (3 * r + 1) = 289 * i + (1 + 3 * (m + r) + 1) from by omega, show 289 * j + (1 + 3 * 0) + (3 * r + 1) = 289 * j + (1 + 3 * r + 1) from by omega] at z1
      rw [show 289 * i + (1 + 3 * m) + (3 * r + 2) = 289 * i + (1 + 3 * (m + r) + 2) from by omega, show 289 * j + (1 + 3 * 0) + (3 * r + 2) = 289 * j + (1 + 3 * r + 2) from by omega] at z2
      exact ⟨z0.trans w0, z1.trans w1, z2.trans w2⟩
theorem i_vc_join {k : Nat} {u : SX} {v : SY} (I : i_Rel k u v) (hk : k + 5 ≤ 2560) (v1 : Int32) (v2 : Int32) : wpX_join (fun r u' => wpY_join (fun r' v' => r' = r ∧ i_Rel (k + 5) u' v') v v1 v2) u v1 v2 := by
  obtain ⟨f, A, B, P, F, D, T⟩ := u
  obtain ⟨N, S, G⟩ := v
  have J := I
  obtain ⟨n, rfl, hN, hH, hS⟩ := I
  have hn := hH.1
  unfold wpX_join wpY_join
  dsimp only
  by_cases hb : sa_bs v1 ∨ sa_bs v2
  · obtain ⟨hx, hy⟩ := sa_pairB (f := nI n) (A := A) (B := B) (P := P) (F := F) (D := D) (T := T) (N := N) (S := S) (G := G) hb
    refine hx _ ?_
    refine br_f (by decide) ?_
    refine hy _ ?_
    exact br_f (by decide) ⟨rfl, J⟩
  · rcases sa_sl v1 with z | ⟨i, hi, rfl⟩
    · exact absurd (Or.inl z) hb
    · rcases sa_sl v2 with z | ⟨j, hj, rfl⟩
      · exact absurd (Or.inr z) hb
      · rcases sa_two (f := nI n) (A := A) (B := B) hi hj (hS i hi) (hS j hj) with ⟨e, he, hx, hy⟩ | ⟨m, l, ⟨am, a1, a2, a3, a4, a5, a6⟩, ⟨bm, b1, b2, b3, b4, b5, b6⟩, hx, hy⟩
        · refine hx _ ?_
          refine br_f he ?_
          refine hy _ ?_
          exact br_f he ⟨rfl, J⟩
        · refine hx _ ?_
          refine br_t rfl ?_
          refine xx_mom hi (sa_rdH a6) ?_
          refine xx_mom hj (sa_rdH b6) ?_
          refine nm_r (nI_add m l) ?_
          have hij : i ≠ j ∨ l = m := by
            by_cases c : i = j
            · subst c
              exact Or.inr ((nI_eq (by omega) (by omega)).mp (b4.symm.trans a4))
            · exact Or.inl c
          by_cases hml : m + l ≤ 96
          · refine br_t (nI_le (b := 96) hml (by decide)) ?_
            have ep : nI i * 289 + 1 + nI m * 3 = nI (289 * i + (1 + 3 * m)) := sa_pl i m
            have eq : nI j * 289 + 1 + 0 * 3 = nI (289 * j + (1 + 3 * 0)) := sa_pl j 0
            have el : nI l * 3 = nI (3 * l) := by
              show nI l * nI 3 = _
              rw [pk_mul]
              exact congrArg nI (by omega)
            unfold wpX_placeOf
            rw [ep, eq]
            refine nm_r el ⟨3 * l + 1, xx_joi (P := P) (t := 289 * i + (1 + 3 * m)) (s := 289 * j + (1 + 3 * 0)) (K := 3 * l) (w := m + l) hi hml (by omega) (by omega) (fun q hq => by omega) (fun q hq => ?_) (fun P' h1 h2 => ?_) (3 * l) 0 P (by omega) (fun q hq => by omega) (fun _ _ => rfl)⟩
            · have w := b6 (1 + q) (by omega)
              obtain ⟨z, ez⟩ := sa_ct_b (sa_L S j) (sa_R S j) bm (1 + q)
              rw [show 289 * j + (1 + 3 * 0) + q = 289 * j + (1 + q) from by omega, w, ez, pk_vb]
            · refine hy _ ?_
              refine br_t rfl (nm_r (nI_1 i) (nm_r (nI_1 j) ?_))
              rw [sa_cl (n := i + 1) (by omega), sa_cl (n := j + 1) (by omega), a4, b4]
              refine ⟨vp_in_nI (by omega) (by decide), nm_e ⟨vp_in_nI (by omega) (by decide), nm_e ?_⟩⟩
              refine br_t (by rw [nI_add]; exact nI_le (b := 96) hml (by decide)) ⟨l + 1, yy_joi (S := S) hi hj hml hij (fun S' h3 h4 => ?_) l 0 S (by omega) (fun q hq => by omega) (fun _ _ _ => rfl)⟩
              obtain ⟨g1, g2⟩ := sa_join hml a5 a6 b5 b6 h1 h2 h3 h4
              have hh : sa_Hand n A B S' := ⟨hn, fun q hq => by
                rw [h4 q (by omega) (by omega), h4 (96 + q) (by omega) (by omega)]
                exact hH.2 q hq⟩
              have new : sa_Slot (upd P' (289 * i) (nI (m + l))) F D T (upd N (i + 1) (nI (m + l))) S' G i := Or.inr ⟨m + l, hml, a1, pk_us, g1, Or.inl ⟨a2, a3, g2⟩⟩
              have fin : sa_Rel (nI n) A B (upd P' (289 * i) (nI (m + l))) F D T (upd N (i + 1) (nI (m + l))) S' G :=
                ⟨n, rfl, by rw [pk_un (by omega)]; exact hN, hh, sa_slots (j := i) hS (fun k hk => (pk_un (by omega)).trans (h2 k (by omega))) (fun _ _ => rfl) (fun _ _ => rfl) (fun _ _ => rfl) (fun q hq => pk_un (by omega)) (fun k _ hk => h4 k (by omega) (by omega)) (fun _ _ => rfl) new⟩
              exact ⟨rfl, fin⟩
          · refine br_f (nI_ge (a := 96) (by omega) (by omega)) ?_
            refine hy _ ?_
            refine br_t rfl (nm_r (nI_1 i) (nm_r (nI_1 j) ?_))
            rw [sa_cl (n := i + 1) (by omega), sa_cl (n := j + 1) (by omega), a4, b4]
            refine ⟨vp_in_nI (by omega) (by decide), nm_e ⟨vp_in_nI (by omega) (by decide), nm_e ?_⟩⟩
            exact br_f (by rw [nI_add]; exact nI_ge (a := 96) (by omega) (by omega)) ⟨rfl, J⟩
