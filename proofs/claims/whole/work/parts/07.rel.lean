/-! the relation, and the methods without loops -/
def sa_Rel (f : Int32) (A B P F D T N S G : Nat → Int32) : Prop := ∃ n, f = nI n ∧ N 0 = nI n ∧ sa_Hand n A B S ∧ ∀ j, j < 4 → sa_Slot P F D T N S G j
/-- the sound at hand agrees below its length; each slot's bytes are the packed form of the reference's sound, with one bit turned where it is damaged -/
def i_Rel (_ : Nat) (u : SX) (v : SY) : Prop := match u, v with
  | (f, A, B, P, F, D, T), (N, S, G) => sa_Rel f A B P F D T N S G
theorem i_up {k : Nat} {u : SX} {v : SY} (h : i_Rel k u v) : i_Rel (k + 5) u v := h
theorem i_vc0 : wpX_init (fun u => wpY_init (fun v => i_Rel 0 u v)) :=
  ⟨0, rfl, rfl, ⟨by omega, fun i hi => by omega⟩, fun j hj => Or.inl ⟨rfl, rfl⟩⟩
section
variable {f : Int32} {A B P F D T N S G : Nat → Int32}
theorem sa_hand {n : Nat} {A' B' N' S' : Nat → Int32} (hS : ∀ j, j < 4 → sa_Slot P F D T N S G j) (hN : N' 0 = nI n) (hN' : ∀ k, k ≠ 0 → N' k = N k) (hS' : ∀ k, 192 ≤ k → S' k = S k) (hH : sa_Hand n A' B' S') : sa_Rel (nI n) A' B' P F D T N' S' G :=
  ⟨n, rfl, hN, hH, fun j hj => sa_Slot_c (hS j hj) (fun _ _ => rfl) rfl rfl rfl (hN' _ (by omega)) (fun k hk => hS' _ (by omega)) rfl⟩
end
theorem i_vc_clear {k : Nat} {u : SX} {v : SY} (I : i_Rel k u v) (hk : k + 5 ≤ 2560) : wpX_clear (fun r u' => wpY_clear (fun r' v' => r' = r ∧ i_Rel (k + 5) u' v') v) u := by
  obtain ⟨f, A, B, P, F, D, T⟩ := u
  obtain ⟨N, S, G⟩ := v
  obtain ⟨n, rfl, hN, hH, hS⟩ := I
  exact nm_r hN (nm_e ⟨rfl, sa_hand (n := 0) hS pk_us (fun k hk => pk_un hk) (fun _ _ => rfl) ⟨by omega, fun i hi => by omega⟩⟩)
theorem i_vc_length {k : Nat} {u : SX} {v : SY} (I : i_Rel k u v) (hk : k + 5 ≤ 2560) : wpX_length (fun r => wpY_length (fun r' => r' = r ∧ i_Rel (k + 5) u v) v) u := by
  obtain ⟨f, A, B, P, F, D, T⟩ := u
  obtain ⟨N, S, G⟩ := v
  have J := I
  obtain ⟨n, rfl, hN, hH, hS⟩ := I
  exact ⟨hN, J⟩
theorem sa_Hand_app {n : Nat} {A B S : Nat → Int32} {x y : Int32} (hn : n < 96) (h : sa_Hand n A B S) (hx : sa_sm x) (hy : sa_sm y) : sa_Hand (n + 1) (upd A n x) (upd B n y) (upd (upd S n x) (96 + n) y) := by
  refine ⟨by omega, fun i hi => ?_⟩
  by_cases c : i = n
  · subst c
    rw [pk_us, pk_us, pk_un (by omega), pk_us, pk_us]
    exact ⟨rfl, rfl, hx, hy⟩
  · rw [pk_un c, pk_un c, pk_un (show i ≠ 96 + n by omega), pk_un c, pk_un (show 96 + i ≠ 96 + n by omega), pk_un (show 96 + i ≠ n by omega)]
    exact h.2 i (by omega)
theorem i_vc_append {k : Nat} {u : SX} {v : SY} (I : i_Rel k u v) (hk : k + 5 ≤ 2560) (v1 : Int32) (v2 : Int32) : wpX_append (fun r u' => wpY_append (fun r' v' => r' = r ∧ i_Rel (k + 5) u' v') v v1 v2) u v1 v2 := by
  obtain ⟨f, A, B, P, F, D, T⟩ := u
  obtain ⟨N, S, G⟩ := v
  have J := I
  obtain ⟨n, rfl, hN, hH, hS⟩ := I
  unfold wpX_append
  dsimp only
  refine xx_smp (fun h1 => ?_) (fun h1 => ?_)
  · refine br_f (by decide) ?_
    refine xx_smp (fun h2 => ?_) (fun h2 => ?_)
    · refine br_f (by decide) ?_
      by_cases c : n < 96
      · refine br_t (nI_lt (b := 96) c (by decide)) ?_
        refine xx_addW c ?_
        unfold wpY_append
        dsimp only
        refine yy_smp (fun _ => ?_) (fun z => absurd h1 z)
        refine br_t rfl ?_
        refine yy_smp (fun _ => ?_) (fun z => absurd h2 z)
        refine br_t rfl ?_
        rw [hN]
        refine br_f (fun z => ?_) ?_
        · have z' := (nI_eq (b := 96) (by omega) (by decide)).mp z
          omega
        · refine yy_put c ?_
          refine nm_e ?_
          have e : upd N 0 (N 0 + 1) 0 = nI (n + 1) := by rw [pk_us, hN, nI_1]
          refine ⟨e, sa_hand hS e (fun k hk => pk_un hk) (fun k hk => ?_) ?_⟩
          · dsimp only
            rw [pk_un (by omega), pk_un (by omega)]
          · rw [sa_wrS h1, sa_wrS h2]
            exact sa_Hand_app c hH h1 h2
      · have en : n = 96 := by have := hH.1; omega
        subst en
        refine br_f (by decide) ?_
        unfold wpY_append
        dsimp only
        refine yy_smp (fun _ => ?_) (fun z => absurd h1 z)
        refine br_t rfl ?_
        refine yy_smp (fun _ => ?_) (fun z => absurd h2 z)
        refine br_t rfl ?_
        exact br_t hN ⟨rfl, J⟩
    · refine br_t rfl ?_
      unfold wpY_append
      dsimp only
      refine yy_smp (fun _ => ?_) (fun z => absurd h1 z)
      refine br_t rfl ?_
      refine yy_smp (fun z => absurd z h2) (fun _ => ?_)
      exact br_f (by decide) ⟨rfl, J⟩
  · refine br_t rfl ?_
    unfold wpY_append
    dsimp only
    refine yy_smp (fun z => absurd z h1) (fun _ => ?_)
    exact br_f (by decide) ⟨rfl, J⟩
theorem i_vc_get {k : Nat} {u : SX} {v : SY} (I : i_Rel k u v) (hk : k + 5 ≤ 2560) (v1 : Int32) (v2 : Int32) : wpX_get (fun r => wpY_get (fun r' => r' = r ∧ i_Rel (k + 5) u v) v v1 v2) u v1 v2 := by
  obtain ⟨f, A, B, P, F, D, T⟩ := u
  obtain ⟨N, S, G⟩ := v
  have J := I
  obtain ⟨n, rfl, hN, hH, hS⟩ := I
  have hn := hH.1
  unfold wpX_get wpY_get
  dsimp only
  rcases sa_cn v1 with hc | hc
  · refine xx_ch0 hc ?_
    refine br_t rfl ?_
    refine yy_ch0 hc ?_
    exact br_f (by decide) ⟨rfl, J⟩
  · refine xx_ch1 hc ?_
    refine br_f (by decide) ?_
    rcases pk_ix v2 (n := n) (by omega) with h | h | ⟨i, hi, rfl⟩
    · refine br_t h ?_
      refine yy_ch1 hc ?_
      refine br_t rfl ?_
      refine yy_nm0 (s := 0) rfl (by omega) hN (Or.inl h) ?_
      exact br_f (by decide) ⟨rfl, J⟩
    · have h0 : ¬ v2 < 0 := fun z => absurd (Int32.lt_of_le_of_lt h z) (nI_pos (by omega))
      refine br_f h0 (br_f (Int32.not_lt.mpr h) ?_)
      refine yy_ch1 hc ?_
      refine br_t rfl ?_
      refine yy_nm0 (s := 0) rfl (by omega) hN (Or.inr h) ?_
      exact br_f (by decide) ⟨rfl, J⟩
    · refine br_f (nI_pos (by omega)) (br_t (nI_lt hi (by omega)) ?_)
      rcases hc with rfl | rfl
      · refine br_t rfl ⟨vp_in_nI (by omega) (by decide), ?_⟩
        refine yy_ch1 (Or.inl rfl) ?_
        refine br_t rfl ?_
        refine yy_nm1 (s := 0) rfl (by omega) hN hi (by omega) ?_
        refine br_t rfl ?_
        have e : (96 : Int32) * 0 + nI i = nI i := by
          show nI 0 + nI i = nI i
          rw [nI_add, Nat.zero_add]
        rw [e, sa_cl (by omega)]
        exact ⟨vp_in_nI (by omega) (by decide), (hH.2 i hi).1.symm, J⟩
      · refine br_f sa_01 ⟨vp_in_nI (by omega) (by decide), ?_⟩
        refine yy_ch1 (Or.inr rfl) ?_
        refine br_t rfl ?_
        refine yy_nm1 (s := 0) rfl (by omega) hN hi (by omega) ?_
        refine br_t rfl ?_
        have e : (96 : Int32) * 1 + nI i = nI (96 + i) := by
          show nI 96 + nI i = nI (96 + i)
          rw [nI_add]
        rw [e, sa_cl (by omega), sa_cl (by omega)]
        exact ⟨vp_in_nI (by omega) (by decide), (hH.2 i hi).2.1.symm, J⟩
theorem sa_Hand_set {n i : Nat} {A B S : Nat → Int32} {x y : Int32} (hi : i < n) (h : sa_Hand n A B S) (hx : sa_sm x) (hy : sa_sm y) : sa_Hand n (upd A i x) (upd B i y) (upd (upd S i x) (96 + i) y) := by
  have hn := h.1
  refine ⟨hn, fun q hq => ?_⟩
  by_cases c : q = i
  · subst c
    rw [pk_us, pk_us, pk_un (by omega), pk_us, pk_us]
    exact ⟨rfl, rfl, hx, hy⟩
  · rw [pk_un c, pk_un c, pk_un (show q ≠ 96 + i by omega), pk_un c, pk_un (show 96 + q ≠ 96 + i by omega), pk_un (show 96 + q ≠ i by omega)]
    exact h.2 q hq
theorem i_vc_set {k : Nat} {u : SX} {v : SY} (I : i_Rel k u v) (hk : k + 5 ≤ 2560) (v1 : Int32) (v2 : Int32) (v3 : Int32) : wpX_set (fun r u' => wpY_set (fun r' v' => r' = r ∧ i_Rel (k + 5) u' v') v v1 v2 v3) u v1 v2 v3 := by
  obtain ⟨f, A, B, P, F, D, T⟩ := u
  obtain ⟨N, S, G⟩ := v
  have J := I
  obtain ⟨n, rfl, hN, hH, hS⟩ := I
  have hn := hH.1
  unfold wpX_set wpY_set
  dsimp only
  rcases pk_ix v1 (n := n) (by omega) with h | h | ⟨i, hi, rfl⟩
  · refine br_t h ?_
    refine yy_nm0 (s := 0) rfl (by omega) hN (Or.inl h) ?_
    exact br_f (by decide) ⟨rfl, J⟩
  · have h0 : ¬ v1 < 0 := fun z => absurd (Int32.lt_of_le_of_lt h z) (nI_pos (by omega))
    refine br_f h0 (br_t h ?_)
    refine yy_nm0 (s := 0) rfl (by omega) hN (Or.inr h) ?_
    exact br_f (by decide) ⟨rfl, J⟩
  · refine br_f (nI_pos (by omega)) (br_f (nI_ge hi (by omega)) ?_)
    refine xx_smp (fun h1 => ?_) (fun h1 => ?_)
    · refine br_f (by decide) ?_
      refine xx_smp (fun h2 => ?_) (fun h2 => ?_)
      · refine br_f (by decide) ⟨vp_in_nI (by omega) (by decide), nm_r (sa_up (sa_cl (by omega)) rfl) ⟨vp_in_nI (by omega) (by decide), nm_r (sa_up (sa_cl (by omega)) rfl) ?_⟩⟩
        refine yy_nm1 (s := 0) rfl (by omega) hN hi (by omega) ?_
        refine br_t rfl ?_
        refine yy_smp (fun _ => ?_) (fun z => absurd h1 z)
        refine br_t rfl ?_
        refine yy_smp (fun _ => ?_) (fun z => absurd h2 z)
        refine br_t rfl ?_
        refine yy_put (by omega) ?_
        refine ⟨rfl, sa_hand hS hN (fun _ _ => rfl) (fun k hk => ?_) (sa_Hand_set hi hH h1 h2)⟩
        dsimp only
        rw [pk_un (by omega), pk_un (by omega)]
      · refine br_t rfl ?_
        refine yy_nm1 (s := 0) rfl (by omega) hN hi (by omega) ?_
        refine br_t rfl ?_
        refine yy_smp (fun _ => ?_) (fun z => absurd h1 z)
        refine br_t rfl ?_
        refine yy_smp (fun z => absurd z h2) (fun _ => ?_)
        exact br_f (by decide) ⟨rfl, J⟩
    · refine br_t rfl ?_
      refine yy_nm1 (s := 0) rfl (by omega) hN hi (by omega) ?_
      refine br_t rfl ?_
      refine yy_smp (fun z => absurd z h1) (fun _ => ?_)
      exact br_f (by decide) ⟨rfl, J⟩
