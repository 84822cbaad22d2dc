/-! a slot: what the component's arrays (P bytes, F filled, D damaged, T turned bit) hold against the reference's (N lengths, S samples, G states) -/
def sa_L (S : Nat → Int32) (j : Nat) : Nat → Int32 := fun i => S (192 * (j + 1) + i)
def sa_R (S : Nat → Int32) (j : Nat) : Nat → Int32 := fun i => S (192 * (j + 1) + 96 + i)
def sa_Good (S : Nat → Int32) (j m : Nat) : Prop := ∀ i, i < m → sa_sm (sa_L S j i) ∧ sa_sm (sa_R S j i)
def sa_Byt (P S : Nat → Int32) (j m : Nat) : Prop := ∀ k, k < 1 + 3 * m → P (289 * j + k) = sa_ct (sa_L S j) (sa_R S j) m k
def sa_Dmg (P S : Nat → Int32) (j m t : Nat) : Prop := ∀ k, k < 1 + 3 * m → P (289 * j + k) = if k = t / 8 then sa_tb (sa_ct (sa_L S j) (sa_R S j) m k) (t % 8) else sa_ct (sa_L S j) (sa_R S j) m k
def sa_Slot (P F D T N S G : Nat → Int32) (j : Nat) : Prop :=
  (F j = 0 ∧ G j = 0) ∨ ∃ m, m ≤ 96 ∧ F j = 1 ∧ N (j + 1) = nI m ∧ sa_Good S j m ∧
    ((D j = 0 ∧ G j = 1 ∧ sa_Byt P S j m) ∨ (D j = 1 ∧ G j = 2 ∧ ∃ t, t < 8 * (1 + 3 * m) ∧ T j = nI t ∧ sa_Dmg P S j m t))
theorem sa_Lc {S S' : Nat → Int32} {j : Nat} (h : ∀ k, k < 192 → S' (192 * (j + 1) + k) = S (192 * (j + 1) + k)) : ∀ i, i < 96 → sa_L S' j i = sa_L S j i :=
  fun i hi => h i (by omega)
theorem sa_Rc {S S' : Nat → Int32} {j : Nat} (h : ∀ k, k < 192 → S' (192 * (j + 1) + k) = S (192 * (j + 1) + k)) : ∀ i, i < 96 → sa_R S' j i = sa_R S j i := by
  intro i hi
  have a := h (96 + i) (by omega)
  rw [← Nat.add_assoc] at a
  exact a
theorem sa_Slot_c {P F D T N S G P' F' D' T' N' S' G' : Nat → Int32} {j : Nat} (h : sa_Slot P F D T N S G j)
    (hP : ∀ k, k < 289 → P' (289 * j + k) = P (289 * j + k)) (hF : F' j = F j) (hD : D' j = D j) (hT : T' j = T j) (hN : N' (j + 1) = N (j + 1))
    (hS : ∀ k, k < 192 → S' (192 * (j + 1) + k) = S (192 * (j + 1) + k)) (hG : G' j = G j) : sa_Slot P' F' D' T' N' S' G' j := by
  rcases h with ⟨h1, h2⟩ | ⟨m, hm, h1, h2, h3, h4⟩
  · exact Or.inl ⟨hF.trans h1, hG.trans h2⟩
  · have eL := sa_Lc hS
    have eR := sa_Rc hS
    have ec : ∀ k, k < 1 + 3 * m → sa_ct (sa_L S' j) (sa_R S' j) m k = sa_ct (sa_L S j) (sa_R S j) m k := fun k hk => sa_ct_c hk (fun i hi => eL i (by omega)) (fun i hi => eR i (by omega))
    refine Or.inr ⟨m, hm, hF.trans h1, hN.trans h2, fun i hi => ?_, ?_⟩
    · rw [eL i (by omega), eR i (by omega)]
      exact h3 i hi
    · rcases h4 with ⟨a, b, c⟩ | ⟨a, b, t, ht, c, d⟩
      · refine Or.inl ⟨hD.trans a, hG.trans b, fun k hk => ?_⟩
        rw [hP k (by omega), ec k hk]
        exact c k hk
      · refine Or.inr ⟨hD.trans a, hG.trans b, t, ht, hT.trans c, fun k hk => ?_⟩
        rw [hP k (by omega), ec k hk]
        exact d k hk
/-! the sound at hand -/
def sa_Hand (n : Nat) (A B S : Nat → Int32) : Prop := n ≤ 96 ∧ ∀ i, i < n → A i = S i ∧ B i = S (96 + i) ∧ sa_sm (S i) ∧ sa_sm (S (96 + i))
theorem sa_Hand_le {n k : Nat} {A B S : Nat → Int32} (h : sa_Hand n A B S) (hk : k ≤ n) : sa_Hand k A B S := ⟨Nat.le_trans hk h.1, fun i hi => h.2 i (by omega)⟩
/-! reading a good slot -/
theorem sa_rdL {P S : Nat → Int32} {j m i : Nat} (h : sa_Byt P S j m) (g : sa_Good S j m) (hi : i < m) : sa_uL (P (289 * j + (1 + 3 * i))) (P (289 * j + (1 + 3 * i + 1))) = S (192 * (j + 1) + i) := by
  rw [h _ (by omega), h _ (by omega), sa_ct_0, sa_ct_1]
  exact sa_unL (g i hi).1
theorem sa_rdR {P S : Nat → Int32} {j m i : Nat} (h : sa_Byt P S j m) (g : sa_Good S j m) (hi : i < m) : sa_uR (P (289 * j + (1 + 3 * i + 1))) (P (289 * j + (1 + 3 * i + 2))) = S (192 * (j + 1) + 96 + i) := by
  rw [h _ (by omega), h _ (by omega), sa_ct_1, sa_ct_2]
  exact sa_unR (g i hi).2
theorem sa_rdH {P S : Nat → Int32} {j m : Nat} (h : sa_Byt P S j m) : P (289 * j) = nI m := by
  have a := h 0 (by omega)
  rw [sa_ct_h] at a
  exact a
/-! a bit of a good slot turned, and turned back -/
theorem sa_dmg {P P' S : Nat → Int32} {j m t : Nat} (h : sa_Byt P S j m) (ht : t < 8 * (1 + 3 * m)) (hs : P' (289 * j + t / 8) = sa_tb (P (289 * j + t / 8)) (t % 8)) (hn : ∀ k, k ≠ 289 * j + t / 8 → P' k = P k) : sa_Dmg P' S j m t := by
  intro k hk
  by_cases c : k = t / 8
  · rw [if_pos c, c, hs, h _ (by omega)]
  · rw [if_neg c, hn _ (by omega)]
    exact h k hk
theorem sa_rep {P P' S : Nat → Int32} {j m t : Nat} (hm : m ≤ 96) (h : sa_Dmg P S j m t) (ht : t < 8 * (1 + 3 * m)) (hs : P' (289 * j + t / 8) = sa_tb (P (289 * j + t / 8)) (t % 8)) (hn : ∀ k, k ≠ 289 * j + t / 8 → P' k = P k) : sa_Byt P' S j m := by
  intro k hk
  by_cases c : k = t / 8
  · rw [c, hs, h _ (by omega), if_pos rfl, sa_ct_tb _ _ hm]
  · rw [hn _ (by omega), h k hk, if_neg c]
/-! the same bytes: the same sounds -/
theorem sa_sam {P S : Nat → Int32} {i j m : Nat} (hi : sa_Byt P S i m) (hj : sa_Byt P S j m) (gi : sa_Good S i m) (gj : sa_Good S j m) :
    (∀ k, k < 1 + 3 * m → P (289 * i + k) = P (289 * j + k)) ↔ (∀ q, q < m → S (192 * (i + 1) + q) = S (192 * (j + 1) + q) ∧ S (192 * (i + 1) + 96 + q) = S (192 * (j + 1) + 96 + q)) := by
  constructor
  · intro h q hq
    rw [← sa_rdL hi gi hq, ← sa_rdR hi gi hq, ← sa_rdL hj gj hq, ← sa_rdR hj gj hq, h _ (by omega), h _ (by omega), h _ (by omega)]
    exact ⟨rfl, rfl⟩
  · intro h k hk
    rw [hi k hk, hj k hk]
    exact sa_ct_c hk (fun q hq => (h q hq).1) (fun q hq => (h q hq).2)
