def popN : Nat → Nat → Nat
  | 0, _ => 0
  | k + 1, m => popN k m + (m.testBit k).toNat
def wsum (W : Nat → Nat) : Nat → Nat → Nat
  | 0, _ => 0
  | k + 1, m => wsum W k m + (if m.testBit k = true then W k else 0)
theorem bitCount_10 : ∀ m, m < 1024 → F_J6_bitCount_0f7a4 (nI m) = nI (popN 10 m) := by decide +kernel
theorem wsum_pop {W : Nat → Nat} {w1 w2 : Nat} {n : Nat} (h : ∀ k, k < n → W k = (w1.testBit k).toNat + 2 * (w2.testBit k).toNat) (m : Nat) : popN n (m &&& w1) + 2 * popN n (m &&& w2) = wsum W n m := by
  induction n with
  | zero => rfl
  | succ n ih =>
    have ih := ih (fun k hk => h k (by omega))
    show popN n (m &&& w1) + ((m &&& w1).testBit n).toNat + 2 * (popN n (m &&& w2) + ((m &&& w2).testBit n).toNat) = wsum W n m + (if m.testBit n = true then W n else 0)
    rw [← ih, Nat.testBit_and, Nat.testBit_and, h n (by omega)]
    cases m.testBit n <;> simp <;> omega
theorem wsum_one (W : Nat → Nat) (k : Nat) : ∀ n, wsum W n (2 ^ k) = if k < n then W k else 0 := by
  intro n
  induction n with
  | zero => rfl
  | succ n ih =>
    show wsum W n (2 ^ k) + (if (2 ^ k).testBit n = true then W n else 0) = _
    rw [ih, Nat.testBit_two_pow]
    by_cases h : k = n
    · subst h; simp
    · have e : decide (k = n) = false := by simp [h]
      rw [e]
      by_cases h2 : k < n
      · simp [h2, show k < n + 1 by omega]
      · simp [h2, show ¬ k < n + 1 by omega]
theorem wsum_le {W : Nat → Nat} {n : Nat} (h : ∀ k, k < n → W k ≤ 3) (m : Nat) : wsum W n m ≤ 3 * n := by
  induction n with
  | zero => exact Nat.le_refl _
  | succ n ih =>
    have ih := ih (fun k hk => h k (by omega))
    have h3 := h n (by omega)
    show wsum W n m + (if m.testBit n = true then W n else 0) ≤ _
    by_cases hb : m.testBit n = true
    · rw [if_pos hb]; omega
    · rw [if_neg hb]; omega
/-- the weights, as the reference has them -/
def wtU (U : XSr) : Nat → Nat := fun k => xti (U.1 3 k)
theorem weigh_eq {S : XSt} {U : XSr} (hW : IvW S U) {m : Nat} (hm : m < 1024) : F_X5_weigh S (nI m) = nI (wsum (wtU U) 10 m) := by
  obtain ⟨-, h1, h2, h3⟩ := hW
  unfold F_X5_weigh
  rw [h1.1, h2.1, nI_and, nI_and, bitCount_10 _ (Nat.lt_of_le_of_lt Nat.and_le_left hm), bitCount_10 _ (Nat.lt_of_le_of_lt Nat.and_le_left hm), show (2 : Int32) = nI 2 from rfl, pk_mul, nI_add, wsum_pop (W := wtU U) h3]
theorem mul_b {b k N : Nat} (hb : b ≤ 1) (h : 2 ^ k < N) : b * 2 ^ k < N := by
  have : b = 0 ∨ b = 1 := by omega
  rcases this with rfl | rfl
  · rw [Nat.zero_mul]; exact Nat.lt_of_le_of_lt (Nat.zero_le _) h
  · rw [Nat.one_mul]; exact h
theorem bitset {a b k : Nat} (hb : b ≤ 1) (j : Nat) : (andn a (2 ^ k) ||| b * 2 ^ k).testBit j = if j = k then decide (b = 1) else a.testBit j := by
  rw [Nat.testBit_or, andn_bit, Nat.testBit_two_pow]
  have h : b = 0 ∨ b = 1 := by omega
  by_cases hj : j = k
  · subst hj
    rw [if_pos rfl]
    rcases h with rfl | rfl
    · simp
    · simp
  · rw [if_neg hj]
    have hkj : ¬ k = j := fun e => hj e.symm
    rcases h with rfl | rfl
    · simp [hkj]
    · rw [Nat.one_mul, Nat.testBit_two_pow]; simp [hkj]
section Ops
variable {SC : XSt → Prop} {WR : XSr → Prop}
theorem st_weight (hSC : SCok SC) (hWR : WRok WR) : St_weight (Inv SC WR) := by
  intro S U x1 x2 hI
  have hI0 := hI
  obtain ⟨hY, hW, hO, hL, hF, hA, hK, hS, hC, hR⟩ := hI
  by_cases h1 : F_X6_within x1 0 9 = 0
  · exact ⟨-2, S, U, by unfold F_X6_weight F_X6_isKind; rw [if_pos h1], by unfold F_X7_weight F_X7_isKind; rw [in_within, if_pos h1], hI0⟩
  by_cases h2 : F_X6_within x2 0 3 = 0
  · exact ⟨-2, S, U, by unfold F_X6_weight F_X6_isKind; rw [if_neg h1, if_pos h2], by unfold F_X7_weight F_X7_isKind; rw [in_within, in_within, if_neg h1, if_pos h2], hI0⟩
  obtain ⟨k, rfl, -, hk⟩ := within_nI (a := 0) (b := 9) (by decide) (by decide) h1
  obtain ⟨v, rfl, -, hv⟩ := within_nI (a := 0) (b := 3) (by decide) (by decide) h2
  have hWc := hW
  obtain ⟨hW1, hW2, hW3, hW4⟩ := hW
  obtain ⟨a, ha⟩ : ∃ a, xti (S 1 7) = a := ⟨_, rfl⟩
  obtain ⟨b, hb⟩ : ∃ b, xti (S 1 8) = b := ⟨_, rfl⟩
  have ea : S 1 7 = nI a := by rw [← ha]; exact hW2.1
  have eb : S 1 8 = nI b := by rw [← hb]; exact hW3.1
  have ha1 : a < 2 ^ 10 := by have := hW2.2; omega
  have hb1 : b < 2 ^ 10 := by have := hW3.2; omega
  have hk31 : k < 31 := by omega
  have hp : 2 ^ k < 2 ^ 10 := two_lt (by omega)
  have ha2 : andn a (2 ^ k) ||| v % 2 * 2 ^ k < 2 ^ 10 := Nat.or_lt_two_pow (andn_lt ha1) (mul_b (by omega) hp)
  have hb2 : andn b (2 ^ k) ||| v / 2 * 2 ^ k < 2 ^ 10 := Nat.or_lt_two_pow (andn_lt hb1) (mul_b (by omega) hp)
  refine ⟨U.1 3 k, xst (xst (xst S 4 12 1) 1 7 (nI (andn a (2 ^ k) ||| v % 2 * 2 ^ k))) 1 8 (nI (andn b (2 ^ k) ||| v / 2 * 2 ^ k)), xsr (xsr U 3 k (nI v)) 0 14 0, ?_, ?_, hY, ⟨fun j hj => ?_, bd_nI (by omega) (by decide), bd_nI (by omega) (by decide), fun j hj => ?_⟩, hO, hL, hF, hA, hK, ((((hS.putC (by decide)).putC (by decide)).putC (by decide)).putR (by decide)).putR (by decide), IvC.stale rfl, IvR.stale rfl⟩
  · unfold F_X6_weight F_X6_isKind F_X5_reweigh
    rw [if_neg h1, if_neg h2]
    have e0 : F_X5_weigh (xst S 4 12 1) ((1 : Int32) <<< (nI k &&& 31)) = U.1 3 k := by
      rw [nI_shl1 hk31]
      have := weigh_eq (S := xst S 4 12 1) (U := U) hWc (m := 2 ^ k) (by omega)
      rw [this, wsum_one, if_pos (by omega)]
      exact (hW1 k (by omega)).1.symm
    have e1 : nI v &&& (1 : Int32) = nI (v % 2) := pk_andN (by omega) 1 (by decide)
    have e2 : nI v >>> ((1 : Int32) &&& 31) = nI (v / 2) := nI_shr (m := v) (g := 1) (by omega) (by decide)
    have hv2 : v % 2 * 2 ^ k < 2 ^ 32 := mul_b (by omega) (by omega)
    have hv3 : v / 2 * 2 ^ k < 2 ^ 32 := mul_b (by omega) (by omega)
    show some (F_X5_weigh (xst S 4 12 1) ((1 : Int32) <<< (nI k &&& 31)), xst (xst (xst S 4 12 1) 1 7 ((S 1 7 &&& (((1 : Int32) <<< (nI k &&& 31)) ^^^ (-1 : Int32))) ||| ((nI v &&& (1 : Int32)) <<< (nI k &&& 31)))) 1 8 ((S 1 8 &&& (((1 : Int32) <<< (nI k &&& 31)) ^^^ (-1 : Int32))) ||| ((nI v >>> ((1 : Int32) &&& 31)) <<< (nI k &&& 31)))) = _
    rw [e0, e1, e2, nI_shl1 hk31, ea, eb, nI_andn, nI_andn, nI_shl hk31 hv2, nI_shl hk31 hv3, nI_or, nI_or]
  · unfold F_X7_weight F_X7_isKind
    rw [in_within, in_within, if_neg h1, if_neg h2, if_pos (xin_nI (show k < 10 by omega) (by decide))]
    simp only [xlet]
    rw [if_pos (xin_nI (show k < 10 by omega) (by decide)), xti_nI (by omega)]
  · show bd (upd (U.1 3) k (nI v) j) 3
    unfold upd
    by_cases hjk : j = k
    · rw [if_pos hjk]; exact bd_nI hv (by decide)
    · rw [if_neg hjk]; exact hW1 j hj
  · show xti (upd (U.1 3) k (nI v) j) = ((xti (nI (andn a (2 ^ k) ||| v % 2 * 2 ^ k))).testBit j).toNat + 2 * ((xti (nI (andn b (2 ^ k) ||| v / 2 * 2 ^ k))).testBit j).toNat
    rw [xti_nI (by omega), xti_nI (by omega), bitset (by omega), bitset (by omega)]
    unfold upd
    by_cases hjk : j = k
    · rw [if_pos hjk, if_pos hjk, if_pos hjk, xti_nI (by omega)]
      have : v = 0 ∨ v = 1 ∨ v = 2 ∨ v = 3 := by omega
      rcases this with rfl | rfl | rfl | rfl <;> rfl
    · rw [if_neg hjk, if_neg hjk, if_neg hjk, ← ha, ← hb]; exact hW4 j hj
end Ops
