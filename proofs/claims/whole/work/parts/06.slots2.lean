/-! two slots asked; bytes read and written -/
section
variable {f : Int32} {A B P F D T N S G : Nat → Int32}
theorem sa_pairB {x y : Int32} (hb : sa_bs x ∨ sa_bs y) :
    (∀ post : Int32 → Prop, post (-5001) → wpX_problemOfPair post (f, A, B, P, F, D, T) x y) ∧ (∀ post : Int32 → Prop, post (-5001) → wpY_bothRefused post (N, S, G) x y) := by
  unfold wpX_problemOfPair wpY_bothRefused
  dsimp only
  rcases sa_sl x with hx | ⟨i, hi, rfl⟩
  · refine ⟨fun post h => ?_, fun post h => ?_⟩
    · refine xx_sl0 hx ?_
      exact br_t rfl h
    · refine yy_sl0 hx ?_
      exact br_f (by decide) h
  · rcases hb with hb | hb
    · refine ⟨fun post h => ?_, fun post h => ?_⟩
      · refine xx_sl0 hb ?_
        exact br_t rfl h
      · refine yy_sl0 hb ?_
        exact br_f (by decide) h
    · refine ⟨fun post h => ?_, fun post h => ?_⟩
      · refine xx_sl1 hi ?_
        refine br_f (by decide) ?_
        refine xx_sl0 hb ?_
        exact br_t rfl h
      · refine yy_sl1 hi ?_
        refine br_t rfl ?_
        refine yy_sl0 hb ?_
        exact br_f (by decide) h
theorem xx_pp {post : Int32 → Prop} {i j : Nat} (hi : i < 4) (hj : j < 4) (h : ((F i = 0 → post (-5002)) ∧ (¬ F i = 0 → ((F j = 0 → post (-5002)) ∧ (¬ F j = 0 → ((D i = 0 → ((D j = 0 → post 0) ∧ (¬ D j = 0 → post (-5003)))) ∧ (¬ D i = 0 → post (-5003)))))))) :
    wpX_problemOfPair post (f, A, B, P, F, D, T) (nI i) (nI j) := by
  unfold wpX_problemOfPair
  dsimp only
  refine xx_sl1 hi ?_
  refine br_f (by decide) ?_
  refine xx_sl1 hj ?_
  refine br_f (by decide) ⟨vp_in_nI hi (by decide), ?_⟩
  rw [sa_cl (n := i) (by omega), sa_cl (n := j) (by omega)]
  exact ⟨h.1, fun a => ⟨vp_in_nI hj (by decide), (h.2 a).1, fun b => ⟨vp_in_nI hi (by decide), fun c => ⟨vp_in_nI hj (by decide), ((h.2 a).2 b).1 c⟩, ((h.2 a).2 b).2⟩⟩⟩
theorem yy_pp {post : Int32 → Prop} {i j : Nat} (hi : i < 4) (hj : j < 4) (h : ((G i = 0 → post (-5002)) ∧ (¬ G i = 0 → ((G j = 0 → post (-5002)) ∧ (¬ G j = 0 → ((G i = 2 → post (-5003)) ∧ (¬ G i = 2 → ((G j = 2 → post (-5003)) ∧ (¬ G j = 2 → post 0))))))))) :
    wpY_bothRefused post (N, S, G) (nI i) (nI j) := by
  unfold wpY_bothRefused
  dsimp only
  refine yy_sl1 hi ?_
  refine br_t rfl ?_
  refine yy_sl1 hj ?_
  refine br_t rfl ⟨vp_in_nI hi (by decide), ?_⟩
  rw [sa_cl (n := i) (by omega), sa_cl (n := j) (by omega)]
  exact ⟨h.1, fun a => ⟨vp_in_nI hj (by decide), (h.2 a).1, fun b => ⟨vp_in_nI hi (by decide), ((h.2 a).2 b).1, fun c => ⟨vp_in_nI hj (by decide), ((h.2 a).2 b).2 c⟩⟩⟩⟩
theorem sa_01 : ¬ (1 : Int32) = 0 := by decide
theorem sa_20 : ¬ (2 : Int32) = 0 := by decide
theorem sa_12 : ¬ (1 : Int32) = 2 := by decide
theorem sa_two {i j : Nat} (hi : i < 4) (hj : j < 4) (a : sa_Slot P F D T N S G i) (b : sa_Slot P F D T N S G j) :
    (∃ e : Int32, ¬ e = 0 ∧ (∀ post : Int32 → Prop, post e → wpX_problemOfPair post (f, A, B, P, F, D, T) (nI i) (nI j)) ∧ (∀ post : Int32 → Prop, post e → wpY_bothRefused post (N, S, G) (nI i) (nI j)))
    ∨ ∃ m l, sa_Gd P F D N S G i m ∧ sa_Gd P F D N S G j l ∧ (∀ post : Int32 → Prop, post 0 → wpX_problemOfPair post (f, A, B, P, F, D, T) (nI i) (nI j)) ∧ (∀ post : Int32 → Prop, post 0 → wpY_bothRefused post (N, S, G) (nI i) (nI j)) := by
  rcases a with ⟨a1, a2⟩ | ⟨m, am, a1, a2, a3, a4⟩
  · exact Or.inl ⟨-5002, by decide, fun _ h => xx_pp hi hj (br_t a1 h), fun _ h => yy_pp hi hj (br_t a2 h)⟩
  · have f1 : ¬ F i = 0 := by rw [a1]; exact sa_01
    have g1 : ¬ G i = 0 := by
      rcases a4 with ⟨_, z, _⟩ | ⟨_, z, _⟩
      · rw [z]; exact sa_01
      · rw [z]; exact sa_20
    rcases b with ⟨b1, b2⟩ | ⟨l, bm, b1, b2, b3, b4⟩
    · exact Or.inl ⟨-5002, by decide, fun _ h => xx_pp hi hj (br_f f1 (br_t b1 h)), fun _ h => yy_pp hi hj (br_f g1 (br_t b2 h))⟩
    · have f2 : ¬ F j = 0 := by rw [b1]; exact sa_01
      have g2 : ¬ G j = 0 := by
        rcases b4 with ⟨_, z, _⟩ | ⟨_, z, _⟩
        · rw [z]; exact sa_01
        · rw [z]; exact sa_20
      rcases a4 with ⟨c1, c2, c3⟩ | ⟨c1, c2, c3⟩
      · have g3 : ¬ G i = 2 := by rw [c2]; exact sa_12
        rcases b4 with ⟨d1, d2, d3⟩ | ⟨d1, d2, d3⟩
        · have g4 : ¬ G j = 2 := by rw [d2]; exact sa_12
          exact Or.inr ⟨m, l, ⟨am, a1, c1, c2, a2, a3, c3⟩, ⟨bm, b1, d1, d2, b2, b3, d3⟩, fun _ h => xx_pp hi hj (br_f f1 (br_f f2 (br_t c1 (br_t d1 h)))), fun _ h => yy_pp hi hj (br_f g1 (br_f g2 (br_f g3 (br_f g4 h))))⟩
        · have e1 : ¬ D j = 0 := by rw [d1]; exact sa_01
          exact Or.inl ⟨-5003, by decide, fun _ h => xx_pp hi hj (br_f f1 (br_f f2 (br_t c1 (br_f e1 h)))), fun _ h => yy_pp hi hj (br_f g1 (br_f g2 (br_f g3 (br_t d2 h))))⟩
      · have e1 : ¬ D i = 0 := by rw [c1]; exact sa_01
        exact Or.inl ⟨-5003, by decide, fun _ h => xx_pp hi hj (br_f f1 (br_f f2 (br_f e1 h))), fun _ h => yy_pp hi hj (br_f g1 (br_f g2 (br_t c2 h)))⟩
theorem sa_pl (j i : Nat) : nI j * 289 + 1 + nI i * 3 = nI (289 * j + (1 + 3 * i)) := by
  show nI j * nI 289 + nI 1 + nI i * nI 3 = _
  rw [pk_mul, pk_mul, nI_add, nI_add]
  exact congrArg nI (by omega)
theorem sa_ps (j : Nat) : nI j * 289 = nI (289 * j) := by
  show nI j * nI 289 = _
  rw [pk_mul]
  exact congrArg nI (by omega)
theorem sa_p2 (k : Nat) : nI k + 2 = nI (k + 2) := nI_add k 2
theorem xx_mom {post : Int32 → Prop} {j m : Nat} (hj : j < 4) (hB : P (289 * j) = nI m) (h : post (nI m)) : wpX_momentsIn post (f, A, B, P, F, D, T) (nI j) := by
  refine ⟨?_, ?_⟩
  · rw [sa_ps]
    exact vp_in_nI (by omega) (by decide)
  · rw [sa_ps, sa_cl (by omega), hB]
    exact h
theorem xx_smi {post : SX → Prop} {j m : Nat} (hj : j < 4) (hm : m ≤ 96) (h : post (f, A, B, upd P (289 * j) (nI m), F, D, T)) : wpX_setMomentsIn post (f, A, B, P, F, D, T) (nI j) (nI m) := by
  refine ⟨?_, ?_⟩
  · rw [sa_ps]
    exact vp_in_nI (by omega) (by decide)
  · rw [sa_ps]
    exact nm_r (sa_up (sa_cl (by omega)) (by rw [pk_vb, sa_nb m (by omega)])) h
theorem xx_un0 {post : Int32 → Prop} {j m i : Nat} (hj : j < 4) (hm : m ≤ 96) (hi : i < m) (hB : sa_Byt P S j m) (hG : sa_Good S j m) (h : post (S (192 * (j + 1) + i))) : wpX_unpackedSample post (f, A, B, P, F, D, T) (nI j) 0 (nI i) := by
  have e := sa_pl j i
  have e1 : nI j * 289 + 1 + nI i * 3 + 1 = nI (289 * j + (1 + 3 * i + 1)) := by rw [e]; exact nI_1 _
  refine ⟨?_, fun x ex => br_t rfl ⟨?_, ?_⟩⟩
  · rw [e1]
    exact vp_in_nI (by omega) (by decide)
  · rw [e]
    exact vp_in_nI (by omega) (by decide)
  · show post (sa_uL (P (nI j * 289 + 1 + nI i * 3).toNatClampNeg) x)
    rw [ex, e1, e, sa_cl (by omega), sa_cl (by omega), sa_rdL hB hG hi]
    exact h
theorem xx_un1 {post : Int32 → Prop} {j m i : Nat} (hj : j < 4) (hm : m ≤ 96) (hi : i < m) (hB : sa_Byt P S j m) (hG : sa_Good S j m) (h : post (S (192 * (j + 1) + 96 + i))) : wpX_unpackedSample post (f, A, B, P, F, D, T) (nI j) 1 (nI i) := by
  have e := sa_pl j i
  have e1 : nI j * 289 + 1 + nI i * 3 + 1 = nI (289 * j + (1 + 3 * i + 1)) := by rw [e]; exact nI_1 _
  have e2 : nI j * 289 + 1 + nI i * 3 + 2 = nI (289 * j + (1 + 3 * i + 2)) := by rw [e]; exact sa_p2 _
  refine ⟨?_, fun x ex => br_f sa_01 ⟨?_, ?_⟩⟩
  · rw [e1]
    exact vp_in_nI (by omega) (by decide)
  · rw [e2]
    exact vp_in_nI (by omega) (by decide)
  · show post (sa_uR x (P (nI j * 289 + 1 + nI i * 3 + 2).toNatClampNeg))
    rw [ex, e1, e2, sa_cl (by omega), sa_cl (by omega), sa_rdR hB hG hi]
    exact h
theorem xx_pack {post : SX → Prop} {j i : Nat} {l r : Int32} (hj : j < 4) (hi : i < 96)
    (h : post (f, A, B, upd (upd (upd P (289 * j + (1 + 3 * i)) (sa_b0 l)) (289 * j + (1 + 3 * i + 1)) (sa_b1 l r)) (289 * j + (1 + 3 * i + 2)) (sa_b2 r), F, D, T)) : wpX_packMoment post (f, A, B, P, F, D, T) (nI j) (nI i) l r := by
  have e := sa_pl j i
  have e1 : nI j * 289 + 1 + nI i * 3 + 1 = nI (289 * j + (1 + 3 * i + 1)) := by rw [e]; exact nI_1 _
  have e2 : nI j * 289 + 1 + nI i * 3 + 2 = nI (289 * j + (1 + 3 * i + 2)) := by rw [e]; exact sa_p2 _
  refine ⟨?_, nm_r (sa_up (by rw [e, sa_cl (by omega)]) (pk_vb _)) ⟨?_, nm_r (sa_up (by rw [e1, sa_cl (by omega)]) (pk_vb _)) ⟨?_, nm_r (sa_up (by rw [e2, sa_cl (by omega)]) (pk_vb _)) h⟩⟩⟩
  · rw [e]
    exact vp_in_nI (by omega) (by decide)
  · rw [e1]
    exact vp_in_nI (by omega) (by decide)
  · rw [e2]
    exact vp_in_nI (by omega) (by decide)
theorem sa_d8 {t : Nat} (ht : t < 100000) : nI t / 8 = nI (t / 8) := pk_div (d := 8) (by omega) (by decide) (by decide)
theorem sa_r8 {t : Nat} (ht : t < 100000) : nI t - nI t / 8 * 8 = nI (t % 8) := pk_rem (d := 8) (by omega) (by decide) (by decide)
theorem xx_turn {post : SX → Prop} {j t : Nat} (hj : j < 4) (ht : t < 2312) (hT : T j = nI t) (h : post (f, A, B, upd P (289 * j + t / 8) (sa_tb (P (289 * j + t / 8)) (t % 8)), F, D, T)) : wpX_turnBit post (f, A, B, P, F, D, T) (nI j) := by
  have e : nI j * 289 + T (nI j).toNatClampNeg / 8 = nI (289 * j + t / 8) := by rw [sa_cl (by omega), hT, sa_d8 (by omega), sa_ps, nI_add]
  refine ⟨vp_in_nI hj (by decide), by decide, nm_r e ⟨vp_in_nI (by omega) (by decide), vp_in_nI hj (by decide), by decide, vp_in_nI (by omega) (by decide), nm_r (sa_up (sa_cl (by omega)) ?_) h⟩⟩
  rw [sa_cl (n := 289 * j + t / 8) (by omega), sa_cl (n := j) (by omega), hT, sa_r8 (by omega), pk_vb]
  rfl
theorem xx_byt {post : Int32 → Prop} {j m : Nat} (hj : j < 4) (hB : P (289 * j) = nI m) (h : post (nI (1 + 3 * m))) : wpX_bytesIn post (f, A, B, P, F, D, T) (nI j) := by
  unfold wpX_bytesIn
  dsimp only
  refine xx_mom hj hB ?_
  have e : (1 : Int32) + nI m * 3 = nI (1 + 3 * m) := by
    show nI 1 + nI m * nI 3 = _
    rw [pk_mul, nI_add]
    exact congrArg nI (by omega)
  show post (1 + nI m * 3)
  rw [e]
  exact h
theorem sa_nar1 : vp_nar .boolean 1 = 1 := by first | rfl | decide
theorem sa_nar0 : vp_nar .boolean 0 = 0 := by first | rfl | decide
end
