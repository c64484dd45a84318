/-! THE INVARIANT between the class's store S and the reference's store U. SC, WR: what holds of the two caches when they are fresh -/
theorem bd0 (B : Nat) : bd 0 B := ⟨by decide, by show (0 : Int32).toNatClampNeg ≤ B; exact Nat.zero_le _⟩
def layN (tm gr kd hs : Nat → Nat) (ao : Nat) : Nat → Nat → Nat
  | 0 => fun _ => 0
  | z + 1 => if tm z ≤ ao then (fun g => if g = gr z then (if hs z = 1 then layN tm gr kd hs ao z g ||| 2 ^ kd z else andn (layN tm gr kd hs ao z g) (2 ^ kd z)) else layN tm gr kd hs ao z g) else layN tm gr kd hs ao z
def layS (S : XSt) : Nat → Nat := layN (fun i => xti (S 12 i)) (fun i => xti (S 13 i)) (fun i => xti (S 14 i)) (fun i => xti (S 15 i)) (xti (S 0 6)) (xti (S 3 4))
def IvY (S : XSt) (U : XSr) : Prop := bd (S 1 4) 8 ∧ S 1 4 = U.1 0 0 ∧ (∀ i, i < 8 → S 7 i = U.1 1 i ∧ S 8 i = U.1 2 i ∧ bd (S 7 i) 99 ∧ bd (S 8 i) 99) ∧ bd (S 1 5) (2 ^ xti (S 1 4) - 1) ∧ S 1 5 = U.1 0 3
def IvW (S : XSt) (U : XSr) : Prop := (∀ k, k < 10 → bd (U.1 3 k) 3) ∧ bd (S 1 7) 1023 ∧ bd (S 1 8) 1023 ∧ ∀ k, k < 10 → xti (U.1 3 k) = ((xti (S 1 7)).testBit k).toNat + 2 * ((xti (S 1 8)).testBit k).toNat
def IvO (S : XSt) (U : XSr) : Prop := bd (S 1 6) 16 ∧ S 1 6 = U.1 0 5 ∧ (∀ j, j < xti (S 1 6) → bd (U.1 4 j) 7 ∧ bd (U.1 5 j) 7 ∧ xti (U.1 4 j) < xti (S 1 4) ∧ xti (U.1 5 j) < xti (S 1 4)) ∧ ∀ g, g < 8 → bd (S 9 g) 255 ∧ ∀ h, h < 8 → ((xti (S 9 g)).testBit h = true ↔ ∃ j, j < xti (S 1 6) ∧ U.1 4 j = nI g ∧ U.1 5 j = nI h)
def IvL (S : XSt) (U : XSr) : Prop := bd (S 2 1) 40 ∧ S 2 1 = U.1 0 15 ∧ ∀ i, i < 40 → S 11 i = U.1 10 i ∧ bd (S 11 i) 255
def IvF (S : XSt) (U : XSr) : Prop := bd (S 3 4) 60 ∧ S 3 4 = U.1 0 8 ∧ (∀ i, i < 60 → S 12 i = U.1 9 i ∧ S 13 i = U.1 6 i ∧ S 14 i = U.1 7 i ∧ S 15 i = U.1 8 i ∧ bd (S 12 i) 999 ∧ bd (S 13 i) 7 ∧ bd (S 14 i) 9 ∧ bd (S 15 i) 1) ∧ (∀ i, i < xti (S 3 4) → xti (S 13 i) < xti (S 1 4)) ∧ ∀ i j, i ≤ j → j < xti (S 3 4) → xti (S 12 i) ≤ xti (S 12 j)
def IvA (S : XSt) (U : XSr) : Prop := bd (S 0 6) 999 ∧ S 0 6 = U.1 0 13 ∧ S 0 7 = U.1 0 39
def IvK (S : XSt) : Prop := ∀ g, g < 8 → S 10 g = nI (layS S g)
def IvS (S : XSt) (U : XSr) : Prop := ∀ s, s < 4 → ((S (29 + s) 1 = 1 ∧ U.1 22 s = 0) ∨ (S (29 + s) 1 = 0 ∧ U.1 22 s = 1)) ∧ S (29 + s) 2 = U.1 23 s ∧ bd (S (29 + s) 2) 2 ∧ S (29 + s) 3 = U.1 24 s ∧ bd (S (29 + s) 3) 40 ∧ ∀ i, i < 40 → S (33 + s) i = U.1 25 (40 * s + i)
def IvC (SC : XSt → Prop) (S : XSt) : Prop := (S 4 12 = 0 ∨ S 4 12 = 1) ∧ (S 4 12 = 0 → SC S)
def layR (U : XSr) : Nat → Nat := layN (fun i => xti (U.1 9 i)) (fun i => xti (U.1 6 i)) (fun i => xti (U.1 7 i)) (fun i => xti (U.1 8 i)) (xti (U.1 0 13)) (xti (U.1 0 8))
def IvR (WR : XSr → Prop) (U : XSr) : Prop := (U.1 0 14 = 0 ∨ U.1 0 14 = 1) ∧ (U.1 0 14 = 1 → WR U ∧ ∀ g, g < xti (U.1 0 0) → U.1 14 g = nI (layR U g))
def Inv (SC : XSt → Prop) (WR : XSr → Prop) (S : XSt) (U : XSr) : Prop := IvY S U ∧ IvW S U ∧ IvO S U ∧ IvL S U ∧ IvF S U ∧ IvA S U ∧ IvK S ∧ IvS S U ∧ IvC SC S ∧ IvR WR U
/-- the caches speak of these cells alone -/
def SCok (SC : XSt → Prop) : Prop := ∀ S S', (∀ q, (q = 1 ∨ q = 4 ∨ (7 ≤ q ∧ q ≤ 10) ∨ (16 ≤ q ∧ q ≤ 26)) → S' q = S q) → SC S → SC S'
def WRok (WR : XSr → Prop) : Prop := ∀ U U' : XSr, (∀ q, ((1 ≤ q ∧ q ≤ 9) ∨ q = 14 ∨ (16 ≤ q ∧ q ≤ 19)) → U'.1 q = U.1 q) → (∀ j, (j = 0 ∨ j = 3 ∨ j = 5 ∨ j = 8 ∨ j = 13 ∨ j = 14 ∨ j = 23 ∨ j = 24 ∨ j = 25 ∨ j = 31) → U'.1 0 j = U.1 0 j) → U'.2 = U.2 → WR U → WR U'
theorem IvC.keep {SC : XSt → Prop} (h : SCok SC) {S S' : XSt} (hq : ∀ q, (q = 1 ∨ q = 4 ∨ (7 ≤ q ∧ q ≤ 10) ∨ (16 ≤ q ∧ q ≤ 26)) → S' q = S q) (hC : IvC SC S) : IvC SC S' := by
  have e : S' 4 = S 4 := hq 4 (by omega)
  unfold IvC
  rw [e]
  exact ⟨hC.1, fun h0 => h S S' hq (hC.2 h0)⟩
theorem IvR.keep {WR : XSr → Prop} (h : WRok WR) {U U' : XSr} (hq : ∀ q, ((1 ≤ q ∧ q ≤ 9) ∨ q = 14 ∨ (16 ≤ q ∧ q ≤ 19)) → U'.1 q = U.1 q) (hj : ∀ j, (j = 0 ∨ j = 3 ∨ j = 5 ∨ j = 8 ∨ j = 13 ∨ j = 14 ∨ j = 23 ∨ j = 24 ∨ j = 25 ∨ j = 31) → U'.1 0 j = U.1 0 j) (h2 : U'.2 = U.2) (hR : IvR WR U) : IvR WR U' := by
  have e : U'.1 0 14 = U.1 0 14 := hj 14 (by omega)
  have el : layR U' = layR U := by
    unfold layR
    rw [hq 9 (by omega), hq 6 (by omega), hq 7 (by omega), hq 8 (by omega), hj 13 (by omega), hj 8 (by omega)]
  unfold IvR
  rw [e, el, hj 0 (by omega), hq 14 (by omega)]
  exact ⟨hR.1, fun h0 => ⟨h U U' hq hj h2 (hR.2 h0).1, (hR.2 h0).2⟩⟩
theorem IvC.stale {SC : XSt → Prop} {S : XSt} (h : S 4 12 = 1) : IvC SC S := ⟨Or.inr h, fun h0 => absurd (h.symm.trans h0) (by decide)⟩
theorem IvR.stale {WR : XSr → Prop} {U : XSr} (h : U.1 0 14 = 0) : IvR WR U := ⟨Or.inl h, fun h0 => absurd (h.symm.trans h0) (by decide)⟩
theorem Inv_init (SC : XSt → Prop) (WR : XSr → Prop) : Inv SC WR initC initR := by
  have b0 : ∀ B, bd 0 B := fun B => ⟨by decide, by show (0 : Int32).toNatClampNeg ≤ B; exact Nat.zero_le _⟩
  refine ⟨⟨b0 _, rfl, fun i hi => ?_, b0 _, rfl⟩, ⟨fun k hk => ?_, ⟨by decide, by decide⟩, b0 _, ?_⟩, ⟨b0 _, rfl, fun j hj => absurd hj (Nat.not_lt_zero _), fun g hg => ⟨b0 _, fun h hh => ?_⟩⟩, ⟨b0 _, rfl, fun i hi => ⟨rfl, b0 _⟩⟩, ⟨b0 _, rfl, fun i hi => ⟨rfl, rfl, rfl, rfl, b0 _, b0 _, b0 _, b0 _⟩, fun i hi => absurd hi (Nat.not_lt_zero _), fun i j _ hj => absurd hj (Nat.not_lt_zero _)⟩, ⟨⟨by decide, by decide⟩, rfl, rfl⟩, fun g hg => rfl, fun s hs => ?_, IvC.stale rfl, IvR.stale rfl⟩
  · exact ⟨rfl, rfl, b0 _, b0 _⟩
  · show bd (if k < 10 then 1 else 0) 3
    rw [if_pos hk]; exact ⟨by decide, by decide⟩
  · show ∀ k, k < 10 → xti (if k < 10 then (1 : Int32) else 0) = _
    have : ∀ k, k < 10 → xti (if k < 10 then (1 : Int32) else 0) = ((xti (1023 : Int32)).testBit k).toNat + 2 * ((xti (0 : Int32)).testBit k).toNat := by decide +kernel
    exact this
  · constructor
    · intro h9; exact absurd h9 (by show ¬ (Nat.testBit 0 h = true); simp)
    · intro ⟨j, hj, _⟩; exact absurd hj (Nat.not_lt_zero _)
  · have h4 : s = 0 ∨ s = 1 ∨ s = 2 ∨ s = 3 := by omega
    rcases h4 with rfl | rfl | rfl | rfl <;> exact ⟨Or.inl ⟨rfl, rfl⟩, rfl, b0 _, rfl, b0 _, fun i hi => rfl⟩
theorem IvC.put {SC : XSt → Prop} (h : SCok SC) {S : XSt} {q i : Nat} {v : Int32} (hq : ¬ (q = 1 ∨ q = 4 ∨ (7 ≤ q ∧ q ≤ 10) ∨ (16 ≤ q ∧ q ≤ 26))) (hC : IvC SC S) : IvC SC (xst S q i v) := hC.keep h (fun q' h' => xst_ne _ _ _ (fun e => hq (e ▸ h')))
theorem IvR.put {WR : XSr → Prop} (h : WRok WR) {U : XSr} {q i : Nat} {v : Int32} (hq : ¬ ((1 ≤ q ∧ q ≤ 9) ∨ q = 14 ∨ (16 ≤ q ∧ q ≤ 19))) (hi : q = 0 → ¬ (i = 0 ∨ i = 3 ∨ i = 5 ∨ i = 8 ∨ i = 13 ∨ i = 14 ∨ i = 23 ∨ i = 24 ∨ i = 25 ∨ i = 31)) (hR : IvR WR U) : IvR WR (xsr U q i v) := by
  refine IvR.keep (U := U) (U' := xsr U q i v) h (fun q' h' => ?_) (fun j hj => ?_) rfl hR
  · rw [xsr_1]; exact xst_ne _ _ _ (fun e => hq (e ▸ h'))
  · rw [xsr_1]
    by_cases e : q = 0
    · subst e; exact xst_idx _ _ _ (fun e => hi rfl (e ▸ hj))
    · rw [xst_ne _ _ _ (fun e' => e e'.symm)]
theorem IvS.putC {S : XSt} {U : XSr} {q i : Nat} {v : Int32} (hq : q < 29) (h : IvS S U) : IvS (xst S q i v) U := by
  intro s hs
  rw [xst_ne _ _ _ (by omega), xst_ne _ _ _ (by omega)]
  exact h s hs
theorem IvS.putR {S : XSt} {U : XSr} {q i : Nat} {v : Int32} (hq : q < 22 ∨ 25 < q) (h : IvS S U) : IvS S (xsr U q i v) := by
  intro s hs
  rw [xsr_1, xst_ne _ _ _ (by omega), xst_ne _ _ _ (by omega), xst_ne _ _ _ (by omega), xst_ne _ _ _ (by omega)]
  exact h s hs
section Ops
variable {SC : XSt → Prop} {WR : XSr → Prop}
theorem st_type (hSC : SCok SC) (hWR : WRok WR) : St_type (Inv SC WR) := by
  intro S U x1 hI
  have hI0 := hI
  obtain ⟨hY, hW, hO, ⟨hL1, hL2, hL3⟩, hF, hA, hK, hS, hC, hR⟩ := hI
  by_cases h1 : F_X6_within x1 0 255 = 0
  · exact ⟨-2, S, U, by unfold F_X6_type; rw [if_pos h1], by unfold F_X7_type; rw [in_within, if_pos h1], hI0⟩
  · obtain ⟨x, rfl, -, hx⟩ := within_nI (a := 0) (b := 255) (by decide) (by decide) h1
    obtain ⟨n, hn⟩ : ∃ n, xti (S 2 1) = n := ⟨_, rfl⟩
    have e : S 2 1 = nI n := by rw [← hn]; exact hL1.1
    have hn40 : n ≤ 40 := by rw [← hn]; exact hL1.2
    have e2 : U.1 0 15 = nI n := by rw [← hL2, e]
    by_cases h2 : n = 40
    · subst h2
      refine ⟨-4, S, U, ?_, ?_, hI0⟩
      · unfold F_X6_type; rw [if_neg h1, e, if_neg (by decide)]
      · unfold F_X7_type; rw [in_within, if_neg h1, e2, if_pos (by decide)]
    · have hlt : n < 40 := by omega
      refine ⟨nI (n + 1), xst (xst S 11 n (nI x)) 2 1 (nI (n + 1)), xsr (xsr U 10 n (nI x)) 0 15 (nI (n + 1)), ?_, ?_, hY, hW, hO, ⟨bd_nI (by omega) (by decide), rfl, fun i hi => ?_⟩, hF, hA, hK, ((hS.putC (by decide)).putC (by decide)).putR (by decide) |>.putR (by decide), (hC.put hSC (by decide)).put hSC (by decide), (hR.put hWR (by decide) (fun h => absurd h (by decide))).put hWR (by decide) (by decide)⟩
      · unfold F_X6_type
        rw [if_neg h1, e, if_pos (show nI n < 40 from nI_lt hlt (by decide)), if_pos (xin_nI hlt (by decide))]
        simp only [xlet, xti_nI (show n < 2 ^ 31 by omega)]
        show some (S 2 1 + 1, xst (xst S 11 n (nI x)) 2 1 (S 2 1 + 1)) = _
        rw [e, nI_1]
      · unfold F_X7_type
        rw [in_within, if_neg h1, e2, if_neg (show ¬ nI n = 40 from fun h => h2 ((nI_eq (by omega) (by decide)).mp h)), if_pos (xin_nI hlt (by decide))]
        simp only [xlet, xti_nI (show n < 2 ^ 31 by omega), xsr_1]
        show some (U.1 0 15 + 1, xsr (xsr U 10 n (nI x)) 0 15 (U.1 0 15 + 1)) = _
        rw [e2, nI_1]
      · show upd (S 11) n (nI x) i = upd (U.1 10) n (nI x) i ∧ bd (upd (S 11) n (nI x) i) 255
        unfold upd
        by_cases hin : i = n
        · rw [if_pos hin, if_pos hin]; exact ⟨rfl, bd_nI hx (by decide)⟩
        · rw [if_neg hin, if_neg hin]; exact hL3 i hi
theorem st_wipe (hSC : SCok SC) (hWR : WRok WR) : St_wipe (Inv SC WR) := by
  intro S U hI
  obtain ⟨hY, hW, hO, ⟨hL1, hL2, hL3⟩, hF, hA, hK, hS, hC, hR⟩ := hI
  exact ⟨S 2 1, xst S 2 1 0, xsr U 0 15 0, rfl, by rw [hL2]; rfl, hY, hW, hO, ⟨bd0 40, rfl, hL3⟩, hF, hA, hK, (hS.putC (by decide)).putR (by decide), hC.put hSC (by decide), hR.put hWR (by decide) (by decide)⟩
end Ops
