/-! digest, peak, same: loops that only read -/
section
variable {f : Int32} {A B P F D T N S G : Nat → Int32}
theorem xx_dig {post : Int32 → Prop} {n : Nat} (hn : n ≤ 96) (h : post (sa_dg A B n)) : ∀ d i, i + d = n → wX_digest_4 post (nI n) A B P F D T (d + 1) (sa_dg A B i) (nI i) := by
  intro d
  induction d with
  | zero =>
    intro i hi
    obtain rfl : i = n := by omega
    exact br_t (nI_le (by omega) (by omega)) h
  | succ d ih =>
    intro i hi
    refine br_f (nI_ge (by omega) (by omega)) ⟨vp_in_nI (by omega) (by decide), vp_in_nI (by omega) (by decide), nm_r ?_ (nm_r (nI_1 i) (ih (i + 1) (by omega)))⟩
    rw [nI_1 i, sa_cl (by omega)]
    rfl
theorem yy_dig {post : Int32 → Prop} {n : Nat} (hn : n ≤ 96) (hN : N 0 = nI n) (h : post (sa_dg S (fun i => S (96 + i)) n)) : ∀ d i, i + d = n → wY_digest_4 post N S G (d + 1) (sa_dg S (fun i => S (96 + i)) i) (nI i) := by
  intro d
  induction d with
  | zero =>
    intro i hi
    obtain rfl : i = n := by omega
    exact br_t (by rw [hN]; exact nI_le (by omega) (by omega)) h
  | succ d ih =>
    intro i hi
    refine br_f (by rw [hN]; exact nI_ge (by omega) (by omega)) ⟨vp_in_nI (by omega) (by decide), ?_, nm_r ?_ (nm_r (nI_1 i) (ih (i + 1) (by omega)))⟩
    · rw [sa_96]
      exact vp_in_nI (by omega) (by decide)
    · rw [nI_1 i, sa_96, sa_cl (by omega), sa_cl (by omega)]
      rfl
theorem sa_ab0 {x : Int32} (h : 0 ≤ x) : sa_ab x = x := if_neg (Int32.not_lt.mpr h)
theorem sa_ab1 {x : Int32} (h : ¬ 0 ≤ x) : sa_ab x = -x := if_pos (Int32.not_le.mp h)
theorem sa_mx0 {V : Nat → Int32} {i : Nat} (h : sa_ab (V i) ≤ sa_mx V i) : sa_mx V (i + 1) = sa_mx V i := if_neg (Int32.not_lt.mpr h)
theorem sa_mx1 {V : Nat → Int32} {i : Nat} (h : ¬ sa_ab (V i) ≤ sa_mx V i) : sa_mx V (i + 1) = sa_ab (V i) := if_pos (Int32.not_le.mp h)
theorem xx_peak {post : Int32 → Prop} {x1 x2 : Int32} {m : Nat} {V : Nat → Int32} (hm : m ≤ 96)
    (hu : ∀ i, i < m → ∀ q : Int32 → Prop, q (V i) → wpX_unpackedSample q (f, A, B, P, F, D, T) x1 x2 (nI i)) (h : post (sa_mx V m)) :
    ∀ d i, i + d = m → wX_peak_36 post x1 x2 (nI m) f A B P F D T (d + 1) (sa_mx V i) (nI i) := by
  intro d
  induction d with
  | zero =>
    intro i hi
    obtain rfl : i = m := by omega
    exact br_t (nI_le (by omega) (by omega)) h
  | succ d ih =>
    intro i hi
    refine br_f (nI_ge (by omega) (by omega)) ?_
    refine hu i (by omega) _ ?_
    have nx := ih (i + 1) (by omega)
    have key : ∀ z, z = sa_ab (V i) → wX_peak_66 post (wX_peak_36 post x1 x2 (nI m) f A B P F D T (d + 1)) x1 x2 (nI m) (sa_mx V i) (nI i) z f A B P F D T := by
      intro z ez
      subst ez
      refine br_c (fun c => nm_r (nI_1 i) ?_) (fun c => nm_r (nI_1 i) ?_)
      · rw [sa_mx0 c] at nx
        exact nx
      · rw [sa_mx1 c] at nx
        exact nx
    exact br_c (fun c => key _ (sa_ab0 c).symm) (fun c => key _ (sa_ab1 c).symm)
theorem yy_peak {post : Int32 → Prop} {x2 : Int32} {j m : Nat} {V : Nat → Int32} {o : Nat → Nat} (hj : j < 4) (hm : m ≤ 96) (hN : N (j + 1) = nI m)
    (hu : ∀ i, i < m → (192 : Int32) * (nI j + 1) + 96 * x2 + nI i = nI (o i) ∧ o i < 960 ∧ S (o i) = V i) (h : post (sa_mx V m)) :
    ∀ d i, i + d = m → wY_peak_39 post (nI j) x2 N S G (d + 1) (sa_mx V i) (nI i) := by
  have i5 : vp_in (nI j + 1) 5 := by
    rw [nI_1 j]
    exact vp_in_nI (by omega) (by decide)
  have eN : N (nI j + 1).toNatClampNeg = nI m := by rw [nI_1 j, sa_cl (by omega), hN]
  intro d
  induction d with
  | zero =>
    intro i hi
    obtain rfl : i = m := by omega
    exact ⟨i5, br_t (by rw [eN]; exact nI_le (by omega) (by omega)) h⟩
  | succ d ih =>
    intro i hi
    obtain ⟨e1, e2, e3⟩ := hu i (by omega)
    have nx := ih (i + 1) (by omega)
    have key : ∀ z, z = sa_ab (V i) → wY_peak_87 post (wY_peak_39 post (nI j) x2 N S G (d + 1)) (nI j) x2 (sa_mx V i) (nI i) z N S G := by
      intro z ez
      subst ez
      refine br_c (fun c => nm_r (nI_1 i) ?_) (fun c => nm_r (nI_1 i) ?_)
      · rw [sa_mx0 c] at nx
        exact nx
      · rw [sa_mx1 c] at nx
        exact nx
    refine ⟨i5, br_f (by rw [eN]; exact nI_ge (by omega) (by omega)) ⟨?_, nm_r ?_ (br_c (fun c => key _ (sa_ab0 c).symm) (fun c => key _ (sa_ab1 c).symm))⟩⟩
    · rw [e1]
      exact vp_in_nI e2 (by decide)
    · rw [e1, sa_cl (by omega)]
      exact e3
theorem xx_same {post : Int32 → Prop} {K a b : Nat} (ha : a + K ≤ 1156) (hb : b + K ≤ 1156) (h1 : (∀ k, k < K → P (a + k) = P (b + k)) → post 1) (h0 : ¬ (∀ k, k < K → P (a + k) = P (b + k)) → post 0) :
    ∀ d i, i + d = K → (∀ k, k < i → P (a + k) = P (b + k)) → wX_same_37 post (nI K) (nI a) (nI b) f A B P F D T (d + 1) (nI i) := by
  intro d
  induction d with
  | zero =>
    intro i hi hp
    obtain rfl : i = K := by omega
    exact br_t (nI_le (by omega) (by omega)) (h1 hp)
  | succ d ih =>
    intro i hi hp
    refine br_f (nI_ge (by omega) (by omega)) ?_
    rw [nI_add, nI_add, sa_cl (by omega), sa_cl (by omega)]
    refine ⟨vp_in_nI (by omega) (by decide), vp_in_nI (by omega) (by decide), br_c (fun c => nm_r (nI_1 i) (ih (i + 1) (by omega) (fun k hk => ?_))) (fun c => h0 (fun z => c (z i (by omega))))⟩
    by_cases e : k = i
    · rw [e]
      exact c
    · exact hp k (by omega)
theorem yy_same {post : Int32 → Prop} {i j m : Nat} (hi : i < 4) (hj : j < 4) (hm : m ≤ 96) (hN : N (i + 1) = nI m)
    (h1 : (∀ q, q < m → S (192 * (i + 1) + q) = S (192 * (j + 1) + q) ∧ S (192 * (i + 1) + 96 + q) = S (192 * (j + 1) + 96 + q)) → post 1)
    (h0 : ¬ (∀ q, q < m → S (192 * (i + 1) + q) = S (192 * (j + 1) + q) ∧ S (192 * (i + 1) + 96 + q) = S (192 * (j + 1) + 96 + q)) → post 0) :
    ∀ d p, p + d = m → (∀ q, q < p → S (192 * (i + 1) + q) = S (192 * (j + 1) + q) ∧ S (192 * (i + 1) + 96 + q) = S (192 * (j + 1) + 96 + q)) → wY_same_55 post (nI i) (nI (192 * (i + 1))) (nI (192 * (j + 1))) N S G (d + 1) (nI p) := by
  have i5 : vp_in (nI i + 1) 5 := by
    rw [nI_1 i]
    exact vp_in_nI (by omega) (by decide)
  have eN : N (nI i + 1).toNatClampNeg = nI m := by rw [nI_1 i, sa_cl (by omega), hN]
  intro d
  induction d with
  | zero =>
    intro p hp hh
    obtain rfl : p = m := by omega
    exact ⟨i5, br_t (by rw [eN]; exact nI_le (by omega) (by omega)) (h1 hh)⟩
  | succ d ih =>
    intro p hp hh
    have e1 : nI (192 * (i + 1)) + nI p = nI (192 * (i + 1) + p) := nI_add _ _
    have e2 : nI (192 * (j + 1)) + nI p = nI (192 * (j + 1) + p) := nI_add _ _
    have e3 : nI (192 * (i + 1)) + 96 + nI p = nI (192 * (i + 1) + 96 + p) := (congrArg (· + nI p) (nI_add (192 * (i + 1)) 96)).trans (nI_add _ _)
    have e4 : nI (192 * (j + 1)) + 96 + nI p = nI (192 * (j + 1) + 96 + p) := (congrArg (· + nI p) (nI_add (192 * (j + 1)) 96)).trans (nI_add _ _)
    refine ⟨i5, br_f (by rw [eN]; exact nI_ge (by omega) (by omega)) ?_⟩
    rw [e1, e2, e3, e4, sa_cl (by omega), sa_cl (by omega), sa_cl (by omega), sa_cl (by omega)]
    refine ⟨vp_in_nI (by omega) (by decide), vp_in_nI (by omega) (by decide), br_c (fun c => ⟨vp_in_nI (by omega) (by decide), vp_in_nI (by omega) (by decide), br_c (fun c' => nm_r (nI_1 p) (ih (p + 1) (by omega) (fun q hq => ?_))) (fun c' => h0 (fun z => c' (z p (by omega)).2))⟩) (fun c => h0 (fun z => c (z p (by omega)).1))⟩
    by_cases e : q = p
    · rw [e]
      exact ⟨c, c'⟩
    · exact hh q (by omega)
end
theorem i_vc_digest {k : Nat} {u : SX} {v : SY} (I : i_Rel k u v) (hk : k + 5 ≤ 2560) : wpX_digest (fun r => wpY_digest (fun r' => r' = r ∧ i_Rel (k + 5) u v) v) u := by
  obtain ⟨f, A, B, P, F, D, T⟩ := u
  obtain ⟨N, S, G⟩ := v
  have J := I
  obtain ⟨n, rfl, hN, hH, hS⟩ := I
  unfold wpX_digest wpY_digest
  dsimp only
  refine ⟨n + 1, xx_dig hH.1 ?_ n 0 (by omega)⟩
  refine ⟨n + 1, yy_dig hH.1 hN ?_ n 0 (by omega)⟩
  exact ⟨sa_dg_c n (fun i hi => ⟨(hH.2 i hi).1.symm, (hH.2 i hi).2.1.symm⟩), J⟩
theorem i_vc_peak {k : Nat} {u : SX} {v : SY} (I : i_Rel k u v) (hk : k + 5 ≤ 2560) (v1 : Int32) (v2 : Int32) : wpX_peak (fun r => wpY_peak (fun r' => r' = r ∧ i_Rel (k + 5) u v) v v1 v2) u v1 v2 := by
  obtain ⟨f, A, B, P, F, D, T⟩ := u
  obtain ⟨N, S, G⟩ := v
  have J := I
  obtain ⟨n, rfl, hN, hH, hS⟩ := I
  unfold wpX_peak wpY_peak
  dsimp only
  rcases sa_cn v2 with hc | hc
  · refine xx_ch0 hc ?_
    refine br_t rfl ?_
    rcases sa_sl v1 with hb | ⟨j, hj, rfl⟩
    · refine yy_sl0 hb ?_
      exact br_f (by decide) ⟨rfl, J⟩
    · refine yy_sl1 hj ?_
      refine br_t rfl ?_
      refine yy_ch0 hc ?_
      exact br_f (by decide) ⟨rfl, J⟩
  · refine xx_ch1 hc ?_
    refine br_f (by decide) ?_
    rcases sa_sl v1 with hb | ⟨j, hj, rfl⟩
    · refine xx_prB hb ?_
      refine br_f (by decide) ?_
      refine yy_sl0 hb ?_
      exact br_f (by decide) ⟨rfl, J⟩
    · rcases sa_one (f := nI n) (A := A) (B := B) hj (hS j hj) with ⟨e, he, hx, hy⟩ | ⟨m, ⟨hm, hF, hD, hG, hL, hO, hB⟩, hx, hy⟩
      · refine hx _ ?_
        refine br_f he ?_
        refine yy_sl1 hj ?_
        refine br_t rfl ?_
        refine yy_ch1 hc ?_
        refine br_t rfl ?_
        refine hy _ ?_
        refine br_f he ?_
        refine hy _ ?_
        exact ⟨rfl, J⟩
      · refine hx _ ?_
        refine br_t rfl ?_
        refine xx_mom hj (sa_rdH hB) ?_
        rcases hc with rfl | rfl
        · refine ⟨m + 1, xx_peak (V := fun i => S (192 * (j + 1) + i)) hm (fun i hi q hq => xx_un0 hj hm hi hB hO hq) ?_ m 0 (by omega)⟩
          refine yy_sl1 hj ?_
          refine br_t rfl ?_
          refine yy_ch1 (Or.inl rfl) ?_
          refine br_t rfl ?_
          refine hy _ ?_
          refine br_t rfl ?_
          exact ⟨m + 1, yy_peak (V := fun i => S (192 * (j + 1) + i)) (o := fun i => 192 * (j + 1) + i) hj hm hL (fun i hi => ⟨sa_i0 j i, by omega, rfl⟩) ⟨rfl, J⟩ m 0 (by omega)⟩
        · refine ⟨m + 1, xx_peak (V := fun i => S (192 * (j + 1) + 96 + i)) hm (fun i hi q hq => xx_un1 hj hm hi hB hO hq) ?_ m 0 (by omega)⟩
          refine yy_sl1 hj ?_
          refine br_t rfl ?_
          refine yy_ch1 (Or.inr rfl) ?_
          refine br_t rfl ?_
          refine hy _ ?_
          refine br_t rfl ?_
          exact ⟨m + 1, yy_peak (V := fun i => S (192 * (j + 1) + 96 + i)) (o := fun i => 192 * (j + 1) + 96 + i) hj hm hL (fun i hi => ⟨sa_i1 j i, by omega, rfl⟩) ⟨rfl, J⟩ m 0 (by omega)⟩
theorem sa_192 (j : Nat) : (192 : Int32) * (nI j + 1) = nI (192 * (j + 1)) := by
  show nI 192 * (nI j + nI 1) = _
  rw [nI_add, pk_mul]
theorem i_vc_same {k : Nat} {u : SX} {v : SY} (I : i_Rel k u v) (hk : k + 5 ≤ 2560) (v1 : Int32) (v2 : Int32) : wpX_same (fun r => wpY_same (fun r' => r' = r ∧ i_Rel (k + 5) u v) v v1 v2) u v1 v2 := by
  obtain ⟨f, A, B, P, F, D, T⟩ := u
  obtain ⟨N, S, G⟩ := v
  have J := I
  obtain ⟨n, rfl, hN, hH, hS⟩ := I
  unfold wpX_same wpY_same
  dsimp only
  by_cases hb : sa_bs v1 ∨ sa_bs v2
  · obtain ⟨hx, hy⟩ := sa_pairB (f := nI n) (A := A) (B := B) (P := P) (F := F) (D := D) (T := T) (N := N) (S := S) (G := G) hb
    refine hx _ ?_
    refine br_f (by decide) ?_
    refine hy _ ?_
    exact br_f (by decide) ⟨rfl, J⟩
  · rcases sa_sl v1 with z | ⟨i, hi, rfl⟩
    · exact absurd (Or.inl z) hb
    · rcases sa_sl v2 with z | ⟨j, hj, rfl⟩
      · exact absurd (Or.inr z) hb
      · rcases sa_two (f := nI n) (A := A) (B := B) hi hj (hS i hi) (hS j hj) with ⟨e, he, hx, hy⟩ | ⟨m, l, ⟨am, a1, a2, a3, a4, a5, a6⟩, ⟨bm, b1, b2, b3, b4, b5, b6⟩, hx, hy⟩
        · refine hx _ ?_
          refine br_f he ?_
          refine hy _ ?_
          exact br_f he ⟨rfl, J⟩
        · refine hx _ ?_
          refine br_t rfl ?_
          refine xx_byt hi (sa_rdH a6) ?_
          refine nm_r (sa_ps i) (nm_r (sa_ps j) ⟨1 + 3 * m + 1, xx_same (by omega) (by omega) (fun hc => ?_) (fun hc => ?_) (1 + 3 * m) 0 (by omega) (fun k hk => by omega)⟩)
          · have el : m = l := by
              have z := hc 0 (by omega)
              rw [Nat.add_zero, Nat.add_zero, sa_rdH a6, sa_rdH b6] at z
              exact (nI_eq (by omega) (by omega)).mp z
            subst el
            have hq := (sa_sam a6 b6 a5 b5).mp hc
            refine hy _ ?_
            refine br_t rfl ?_
            refine nm_r (sa_192 i) (nm_r (sa_192 j) ?_)
            rw [nI_1 i, nI_1 j, sa_cl (by omega), sa_cl (by omega)]
            refine ⟨vp_in_nI (by omega) (by decide), vp_in_nI (by omega) (by decide), br_t (a4.trans b4.symm) ⟨m + 1, yy_same hi hj am a4 (fun _ => ⟨rfl, J⟩) (fun z => absurd hq z) m 0 (by omega) (fun k hk => by omega)⟩⟩
          · refine hy _ ?_
            refine br_t rfl ?_
            refine nm_r (sa_192 i) (nm_r (sa_192 j) ?_)
            rw [nI_1 i, nI_1 j, sa_cl (by omega), sa_cl (by omega)]
            refine ⟨vp_in_nI (by omega) (by decide), vp_in_nI (by omega) (by decide), ?_⟩
            by_cases el : m = l
            · subst el
              have hq := mt (sa_sam a6 b6 a5 b5).mpr hc
              exact br_t (a4.trans b4.symm) ⟨m + 1, yy_same hi hj am a4 (fun z => absurd z hq) (fun _ => ⟨rfl, J⟩) m 0 (by omega) (fun k hk => by omega)⟩
            · refine br_f (fun z => el ?_) ⟨rfl, J⟩
              rw [a4, b4] at z
              exact (nI_eq (by omega) (by omega)).mp z
