/-! tone: the loops of both sides -/
section
variable {f : Int32} {A B P F D T N S G : Nat → Int32}
def sa_ap (va vb : Nat → Int32) (n i : Nat) (A B A' B' : Nat → Int32) : Prop := (∀ q, q < n → A' q = A q ∧ B' q = B q) ∧ (∀ q, q < i → A' (n + q) = va q ∧ B' (n + q) = vb q)
theorem sa_ap_0 (va vb : Nat → Int32) (n : Nat) : sa_ap va vb n 0 A B A B := ⟨fun _ _ => ⟨rfl, rfl⟩, fun q hq => by omega⟩
theorem sa_ap_s {va vb : Nat → Int32} {n i : Nat} {A' B' : Nat → Int32} {x y : Int32} (h : sa_ap va vb n i A B A' B') (hx : x = va i) (hy : y = vb i) : sa_ap va vb n (i + 1) A B (upd A' (n + i) x) (upd B' (n + i) y) := by
  refine ⟨fun q hq => ?_, fun q hq => ?_⟩
  · rw [pk_un (by omega), pk_un (by omega)]
    exact h.1 q hq
  · by_cases c : q = i
    · rw [c, pk_us, pk_us]
      exact ⟨hx, hy⟩
    · rw [pk_un (by omega), pk_un (by omega)]
      exact h.2 q (by omega)
def sa_ay (va vb : Nat → Int32) (n i : Nat) (S S' : Nat → Int32) : Prop := (∀ q, q < n → S' q = S q ∧ S' (96 + q) = S (96 + q)) ∧ (∀ q, q < i → S' (n + q) = va q ∧ S' (96 + (n + q)) = vb q) ∧ (∀ k, 192 ≤ k → S' k = S k)
theorem sa_ay_0 (va vb : Nat → Int32) (n : Nat) : sa_ay va vb n 0 S S := ⟨fun _ _ => ⟨rfl, rfl⟩, fun q hq => by omega, fun _ _ => rfl⟩
theorem sa_ay_s {va vb : Nat → Int32} {n i : Nat} {S' : Nat → Int32} {x y : Int32} (hn : n + i < 96) (h : sa_ay va vb n i S S') (hx : x = va i) (hy : y = vb i) : sa_ay va vb n (i + 1) S (upd (upd S' (n + i) x) (96 + (n + i)) y) := by
  refine ⟨fun q hq => ?_, fun q hq => ?_, fun k hk => ?_⟩
  · rw [pk_un (by omega), pk_un (by omega), pk_un (by omega), pk_un (by omega)]
    exact h.1 q hq
  · by_cases c : q = i
    · rw [c, pk_un (by omega), pk_us, pk_us]
      exact ⟨hx, hy⟩
    · rw [pk_un (by omega), pk_un (by omega), pk_un (by omega), pk_un (by omega)]
      exact h.2.1 q (by omega)
  · rw [pk_un (by omega), pk_un (by omega)]
    exact h.2.2 k hk
def sa_ae (o dl n : Nat) (b : Int32) (i : Nat) (S S' : Nat → Int32) : Prop := (∀ q, q < n → S' (o + q) = S (o + q)) ∧ (∀ p, n ≤ p → p < n + i → S' (o + p) = sa_wr (if p < dl then b else S' (o + (p - dl)) + b))
theorem sa_ae_0 (o dl n : Nat) (b : Int32) : sa_ae o dl n b 0 S S := ⟨fun _ _ => rfl, fun p hp hq => by omega⟩
theorem sa_ae_s {o dl n i : Nat} {b : Int32} {S' S'' : Nat → Int32} (hd : 1 ≤ dl) (h : sa_ae o dl n b i S S') (hx : S'' (o + (n + i)) = sa_wr (if n + i < dl then b else S' (o + (n + i - dl)) + b)) (hq : ∀ q, q < n + i → S'' (o + q) = S' (o + q)) : sa_ae o dl n b (i + 1) S S'' := by
  refine ⟨fun q hq' => ?_, fun p hp hq' => ?_⟩
  · rw [hq q (by omega)]
    exact h.1 q hq'
  · by_cases c : p = n + i
    · subst c
      rw [hx]
      by_cases e : n + i < dl
      · rw [if_pos e, if_pos e]
      · rw [if_neg e, if_neg e, hq _ (by omega)]
    · rw [hq p (by omega), h.2 p hp (by omega)]
      by_cases e : p < dl
      · rw [if_pos e, if_pos e]
      · rw [if_neg e, if_neg e, hq _ (by omega)]
theorem xx_slo {post : SX → Prop} {a b : Int32} {n m : Nat} (hm : n + m ≤ 96) (h : ∀ A' B' : Nat → Int32, sa_ap (fun q => sa_wr (a + b * nI q)) (fun q => sa_wr (a - b * nI q)) n m A B A' B' → post (nI (n + m), A', B', P, F, D, T)) :
    ∀ (d i : Nat) (A' B' : Nat → Int32), i + d = m → sa_ap (fun q => sa_wr (a + b * nI q)) (fun q => sa_wr (a - b * nI q)) n i A B A' B' → wX_addSlopes_3 post a b (nI m) (d + 1) (nI i) (nI (n + i)) A' B' P F D T := by
  intro d
  induction d with
  | zero =>
    intro i A' B' hi h1
    obtain rfl : i = m := by omega
    exact br_t (nI_le (by omega) (by omega)) (h A' B' h1)
  | succ d ih =>
    intro i A' B' hi h1
    refine br_f (nI_ge (by omega) (by omega)) ?_
    refine xx_addW (by omega) ?_
    exact nm_r (nI_1 i) (ih (i + 1) _ _ (by omega) (sa_ap_s h1 rfl rfl))
theorem xx_noi {post : SX → Prop} {a b : Int32} {n m : Nat} (hm : n + m ≤ 96) (h : ∀ A' B' : Nat → Int32, sa_ap (fun q => sa_wr ((sa_sd a (q + 1)).toUInt32 >>> ((16 : Int32).toUInt32 &&& Int32.toUInt32 31)).toInt32) (fun q => sa_wr (((sa_sd a (q + 1)).toUInt32 >>> ((16 : Int32).toUInt32 &&& Int32.toUInt32 31)).toInt32 + b)) n m A B A' B' → post (nI (n + m), A', B', P, F, D, T)) :
    ∀ (d i : Nat) (A' B' : Nat → Int32), i + d = m → sa_ap (fun q => sa_wr ((sa_sd a (q + 1)).toUInt32 >>> ((16 : Int32).toUInt32 &&& Int32.toUInt32 31)).toInt32) (fun q => sa_wr (((sa_sd a (q + 1)).toUInt32 >>> ((16 : Int32).toUInt32 &&& Int32.toUInt32 31)).toInt32 + b)) n i A B A' B' → wX_addNoise_6 post b (nI m) (d + 1) (sa_sd a i) (nI i) (nI (n + i)) A' B' P F D T := by
  intro d
  induction d with
  | zero =>
    intro i A' B' hi h1
    obtain rfl : i = m := by omega
    exact br_t (nI_le (by omega) (by omega)) (h A' B' h1)
  | succ d ih =>
    intro i A' B' hi h1
    refine br_f (nI_ge (by omega) (by omega)) (nm_r (show sa_sd a i * 1103515245 + 12345 = sa_sd a (i + 1) from rfl) ?_)
    refine xx_addW (by omega) ?_
    exact nm_r (nI_1 i) (ih (i + 1) _ _ (by omega) (sa_ap_s h1 rfl rfl))
theorem xx_cur {post : SX → Prop} {a b : Int32} {n m : Nat} (hm : n + m ≤ 96) (h : ∀ A' B' : Nat → Int32, sa_ap (fun q => sa_wr (a * nI q * nI q / 16 + b)) (fun q => sa_wr (a * nI q * nI q / 16 + b)) n m A B A' B' → post (nI (n + m), A', B', P, F, D, T)) :
    ∀ (d i : Nat) (A' B' : Nat → Int32), i + d = m → sa_ap (fun q => sa_wr (a * nI q * nI q / 16 + b)) (fun q => sa_wr (a * nI q * nI q / 16 + b)) n i A B A' B' → wX_addCurve_3 post a b (nI m) (d + 1) (nI i) (nI (n + i)) A' B' P F D T := by
  intro d
  induction d with
  | zero =>
    intro i A' B' hi h1
    obtain rfl : i = m := by omega
    exact br_t (nI_le (by omega) (by omega)) (h A' B' h1)
  | succ d ih =>
    intro i A' B' hi h1
    refine br_f (nI_ge (by omega) (by omega)) ⟨by decide, nm_e ?_⟩
    refine xx_addW (by omega) ?_
    exact nm_r (nI_1 i) (ih (i + 1) _ _ (by omega) (sa_ap_s h1 rfl rfl))
theorem sa_aeX {dl n i : Nat} {b x : Int32} {A' : Nat → Int32} (hd : 1 ≤ dl) (h : sa_ae 0 dl n b i A A') (hx : x = sa_wr (if n + i < dl then b else A' (n + i - dl) + b)) : sa_ae 0 dl n b (i + 1) A (upd A' (n + i) x) := by
  refine sa_ae_s hd h ?_ (fun q hq => ?_)
  · rw [Nat.zero_add, Nat.zero_add, pk_us, hx]
  · rw [Nat.zero_add, pk_un (by omega)]
theorem xx_ech {post : SX → Prop} {b : Int32} {n m dl : Nat} (hm : n + m ≤ 96) (hd : 1 ≤ dl) (hd' : dl ≤ 16) (h : ∀ A' B' : Nat → Int32, sa_ae 0 dl n b m A A' → sa_ae 0 dl n b m B B' → post (nI (n + m), A', B', P, F, D, T)) :
    ∀ (d i : Nat) (A' B' : Nat → Int32), i + d = m → sa_ae 0 dl n b i A A' → sa_ae 0 dl n b i B B' → wX_addEcho_11 post b (nI m) (nI dl) (d + 1) (nI i) (nI (n + i)) A' B' P F D T := by
  intro d
  induction d with
  | zero =>
    intro i A' B' hi h1 h2
    obtain rfl : i = m := by omega
    exact br_t (nI_le (by omega) (by omega)) (h A' B' h1 h2)
  | succ d ih =>
    intro i A' B' hi h1 h2
    by_cases c : dl ≤ n + i
    · refine br_f (nI_ge (by omega) (by omega)) (nm_r (pk_sub c) (br_t (nI_pos' (by omega)) ?_))
      rw [sa_cl (n := n + i - dl) (by omega)]
      refine ⟨vp_in_nI (by omega) (by decide), vp_in_nI (by omega) (by decide), ?_⟩
      refine xx_addW (by omega) ?_
      exact nm_r (nI_1 i) (ih (i + 1) _ _ (by omega) (sa_aeX hd h1 (by rw [if_neg (by omega)])) (sa_aeX hd h2 (by rw [if_neg (by omega)])))
    · refine br_f (nI_ge (by omega) (by omega)) (nm_e (br_f (Int32.not_le.mpr (pk_sneg (by omega) (by omega))) ?_))
      refine xx_addW (by omega) ?_
      exact nm_r (nI_1 i) (ih (i + 1) _ _ (by omega) (sa_aeX hd h1 (by rw [if_pos (by omega)])) (sa_aeX hd h2 (by rw [if_pos (by omega)])))
theorem yy_200 {post : Int32 → SY → Prop} {J : Int32 → Int32 → (Nat → Int32) → (Nat → Int32) → (Nat → Int32) → Prop} {x1 x2 x3 x5 x7 x8 x11 x12 : Int32} {p i : Nat} (hp : p < 96)
    (h : J x5 (nI (i + 1)) (upd N 0 (N 0 + 1)) (upd (upd S p (sa_wr x11)) (96 + p) (sa_wr x12)) G) : wY_tone_200 post J x1 x2 x3 x5 x7 x8 (nI i) (nI p) x11 x12 N S G := by
  unfold wY_tone_200
  refine yy_wr ?_
  refine yy_wr ?_
  refine yy_put hp ?_
  exact nm_e (nm_r (nI_1 i) h)
theorem sa_nn {N' : Nat → Int32} {p : Nat} (h : N' 0 = nI p) : upd N' 0 (N' 0 + 1) 0 = nI (p + 1) := by rw [pk_us, h, nI_1]
theorem yy_slo {post : Int32 → SY → Prop} {a b x8 : Int32} {n m : Nat} (hm : n + m ≤ 96) (h : ∀ N' S' : Nat → Int32, N' 0 = nI (n + m) → (∀ k, k ≠ 0 → N' k = N k) → sa_ay (fun q => sa_wr (a + b * nI q)) (fun q => sa_wr (a - b * nI q)) n m S S' → post (nI m) (N', S', G)) :
    ∀ (d i : Nat) (s : Int32) (N' S' : Nat → Int32), i + d = m → N' 0 = nI (n + i) → (∀ k, k ≠ 0 → N' k = N k) → sa_ay (fun q => sa_wr (a + b * nI q)) (fun q => sa_wr (a - b * nI q)) n i S S' → wY_tone_59 post 0 a b (nI m) x8 (d + 1) s (nI i) N' S' G := by
  intro d
  induction d with
  | zero =>
    intro i s N' S' hi h1 h2 h3
    obtain rfl : i = m := by omega
    exact br_t (nI_le (by omega) (by omega)) (h N' S' h1 h2 h3)
  | succ d ih =>
    intro i s N' S' hi h1 h2 h3
    refine br_f (nI_ge (by omega) (by omega)) (nm_r h1 (nm_e (nm_e (nm_e (br_f (by decide) (br_f (by decide) (br_f (by decide) ?_)))))))
    refine yy_200 (by omega) ?_
    exact ih (i + 1) _ _ _ (by omega) (sa_nn h1) (fun k hk => (pk_un hk).trans (h2 k hk)) (sa_ay_s (by omega) h3 rfl rfl)
theorem yy_noi {post : Int32 → SY → Prop} {a b x8 : Int32} {n m : Nat} (hm : n + m ≤ 96) (h : ∀ N' S' : Nat → Int32, N' 0 = nI (n + m) → (∀ k, k ≠ 0 → N' k = N k) → sa_ay (fun q => sa_wr ((sa_sd a (q + 1)).toUInt32 >>> ((16 : Int32).toUInt32 &&& Int32.toUInt32 31)).toInt32) (fun q => sa_wr (((sa_sd a (q + 1)).toUInt32 >>> ((16 : Int32).toUInt32 &&& Int32.toUInt32 31)).toInt32 + b)) n m S S' → post (nI m) (N', S', G)) :
    ∀ (d i : Nat) (N' S' : Nat → Int32), i + d = m → N' 0 = nI (n + i) → (∀ k, k ≠ 0 → N' k = N k) → sa_ay (fun q => sa_wr ((sa_sd a (q + 1)).toUInt32 >>> ((16 : Int32).toUInt32 &&& Int32.toUInt32 31)).toInt32) (fun q => sa_wr (((sa_sd a (q + 1)).toUInt32 >>> ((16 : Int32).toUInt32 &&& Int32.toUInt32 31)).toInt32 + b)) n i S S' → wY_tone_59 post 1 a b (nI m) x8 (d + 1) (sa_sd a i) (nI i) N' S' G := by
  intro d
  induction d with
  | zero =>
    intro i N' S' hi h1 h2 h3
    obtain rfl : i = m := by omega
    exact br_t (nI_le (by omega) (by omega)) (h N' S' h1 h2 h3)
  | succ d ih =>
    intro i N' S' hi h1 h2 h3
    refine br_f (nI_ge (by omega) (by omega)) (nm_r h1 (nm_r (show sa_sd a i * 1103515245 + 12345 = sa_sd a (i + 1) from rfl) (nm_e (nm_e (br_t rfl (nm_e (nm_e (br_f (by decide) (br_f (by decide) ?_)))))))))
    refine yy_200 (by omega) ?_
    exact ih (i + 1) _ _ (by omega) (sa_nn h1) (fun k hk => (pk_un hk).trans (h2 k hk)) (sa_ay_s (by omega) h3 rfl rfl)
theorem yy_cur {post : Int32 → SY → Prop} {a b x8 : Int32} {n m : Nat} (hm : n + m ≤ 96) (h : ∀ N' S' : Nat → Int32, N' 0 = nI (n + m) → (∀ k, k ≠ 0 → N' k = N k) → sa_ay (fun q => sa_wr (a * nI q * nI q / 16 + b)) (fun q => sa_wr (a * nI q * nI q / 16 + b)) n m S S' → post (nI m) (N', S', G)) :
    ∀ (d i : Nat) (s : Int32) (N' S' : Nat → Int32), i + d = m → N' 0 = nI (n + i) → (∀ k, k ≠ 0 → N' k = N k) → sa_ay (fun q => sa_wr (a * nI q * nI q / 16 + b)) (fun q => sa_wr (a * nI q * nI q / 16 + b)) n i S S' → wY_tone_59 post 2 a b (nI m) x8 (d + 1) s (nI i) N' S' G := by
  intro d
  induction d with
  | zero =>
    intro i s N' S' hi h1 h2 h3
    obtain rfl : i = m := by omega
    exact br_t (nI_le (by omega) (by omega)) (h N' S' h1 h2 h3)
  | succ d ih =>
    intro i s N' S' hi h1 h2 h3
    refine br_f (nI_ge (by omega) (by omega)) (nm_r h1 (nm_e (nm_e (nm_e (br_f (by decide) (br_t rfl ⟨by decide, nm_e (br_f (by decide) ?_)⟩))))))
    refine yy_200 (by omega) ?_
    exact ih (i + 1) _ _ _ (by omega) (sa_nn h1) (fun k hk => (pk_un hk).trans (h2 k hk)) (sa_ay_s (by omega) h3 rfl rfl)
theorem yy_ech {post : Int32 → SY → Prop} {a b : Int32} {n m dl : Nat} (hm : n + m ≤ 96) (hd : 1 ≤ dl) (hd' : dl ≤ 16) (h : ∀ N' S' : Nat → Int32, N' 0 = nI (n + m) → (∀ k, k ≠ 0 → N' k = N k) → sa_ae 0 dl n b m S S' → sa_ae 96 dl n b m S S' → (∀ k, 192 ≤ k → S' k = S k) → post (nI m) (N', S', G)) :
    ∀ (d i : Nat) (s : Int32) (N' S' : Nat → Int32), i + d = m → N' 0 = nI (n + i) → (∀ k, k ≠ 0 → N' k = N k) → sa_ae 0 dl n b i S S' → sa_ae 96 dl n b i S S' → (∀ k, 192 ≤ k → S' k = S k) → wY_tone_59 post 3 a b (nI m) (nI dl) (d + 1) s (nI i) N' S' G := by
  intro d
  induction d with
  | zero =>
    intro i s N' S' hi h1 h2 h3 h4 h5
    obtain rfl : i = m := by omega
    exact br_t (nI_le (by omega) (by omega)) (h N' S' h1 h2 h3 h4 h5)
  | succ d ih =>
    intro i s N' S' hi h1 h2 h3 h4 h5
    have key : ∀ x y : Int32, x = (if n + i < dl then b else S' (n + i - dl) + b) → y = (if n + i < dl then b else S' (96 + (n + i - dl)) + b) → wY_tone_200 post (wY_tone_59 post 3 a b (nI m) (nI dl) (d + 1)) 3 a b (s * 1103515245 + 12345) (nI m) (nI dl) (nI i) (nI (n + i)) x y N' S' G := by
      intro x y ex ey
      refine yy_200 (by omega) ?_
      refine ih (i + 1) _ _ _ (by omega) (sa_nn h1) (fun k hk => (pk_un hk).trans (h2 k hk)) ?_ ?_ (fun k hk => ?_)
      · refine sa_ae_s hd h3 ?_ (fun q hq => ?_)
        · rw [Nat.zero_add, Nat.zero_add, pk_un (by omega), pk_us, ex]
        · rw [Nat.zero_add, pk_un (by omega), pk_un (by omega)]
      · refine sa_ae_s hd h4 ?_ (fun q hq => ?_)
        · rw [pk_us, ey]
        · rw [pk_un (by omega), pk_un (by omega)]
      · rw [pk_un (by omega), pk_un (by omega)]
        exact h5 k hk
    refine br_f (nI_ge (by omega) (by omega)) (nm_r h1 (nm_e (nm_e (nm_e (br_f (by decide) (br_f (by decide) (br_t rfl ?_)))))))
    by_cases c : dl ≤ n + i
    · have e1 : nI (n + i) - nI dl = nI (n + i - dl) := pk_sub c
      have e2 : (96 : Int32) + nI (n + i) - nI dl = nI (96 + (n + i - dl)) := by
        rw [sa_96, pk_sub (by omega)]
        exact congrArg nI (by omega)
      refine br_t (nI_le c (by omega)) ?_
      rw [e1, sa_cl (n := n + i - dl) (by omega)]
      refine ⟨vp_in_nI (by omega) (by decide), br_t (nI_le c (by omega)) ?_⟩
      rw [e2, sa_cl (n := 96 + (n + i - dl)) (by omega)]
      exact ⟨vp_in_nI (by omega) (by decide), key _ _ (by rw [if_neg (by omega)]) (by rw [if_neg (by omega)])⟩
    · refine br_f (nI_ge (by omega) (by omega)) (br_f (nI_ge (by omega) (by omega)) ?_)
      exact key _ _ (by rw [if_pos (by omega)]) (by rw [if_pos (by omega)])
end
