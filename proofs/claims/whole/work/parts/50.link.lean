/-! THE PROBLEM as the class has it, as the reference has it: the same one -/
def pbS (S : XSt) : Pb := (xti (S 1 4), xti (S 1 5), fun g => if g < 8 then xti (S 7 g) else 0, fun g => if g < 8 then xti (S 8 g) else 0, fun g => if g < 8 then xti (S 9 g) else 0, fun g => if g < 8 then xti (S 10 g) else 0, fun k => if k < 10 then ((xti (S 1 7)).testBit k).toNat + 2 * ((xti (S 1 8)).testBit k).toNat else 0)
def ovR (U : XSr) (g h : Nat) : Bool := (List.range (xti (U.1 0 5))).any (fun j => decide (U.1 4 j = nI g) && decide (U.1 5 j = nI h))
def pbR (U : XSr) : Pb := (xti (U.1 0 0), xti (U.1 0 3), fun g => if g < 8 then xti (U.1 1 g) else 0, fun g => if g < 8 then xti (U.1 2 g) else 0, fun g => if g < 8 then bitsN (ovR U g) 8 else 0, fun g => if g < 8 then layR U g else 0, fun k => if k < 10 then xti (U.1 3 k) else 0)
theorem ovR_iff (U : XSr) (g h : Nat) : ovR U g h = true ↔ ∃ j, j < xti (U.1 0 5) ∧ U.1 4 j = nI g ∧ U.1 5 j = nI h := by
  unfold ovR
  rw [List.any_eq_true]
  constructor
  · rintro ⟨j, h1, h2⟩
    rw [Bool.and_eq_true, decide_eq_true_eq, decide_eq_true_eq] at h2
    exact ⟨j, List.mem_range.mp h1, h2⟩
  · rintro ⟨j, h1, h2, h3⟩
    exact ⟨j, List.mem_range.mpr h1, by rw [Bool.and_eq_true, decide_eq_true_eq, decide_eq_true_eq]; exact ⟨h2, h3⟩⟩
section LK
variable {SC : XSt → Prop} {WR : XSr → Prop} {S : XSt} {U : XSr}
theorem pb_eq (hI : Inv SC WR S U) : pbS S = pbR U := by
  obtain ⟨hY, hW, hO, hL, hF, hA, hK, hS, hC, hR⟩ := hI
  obtain ⟨y1, y2, y3, y4, y5⟩ := hY
  obtain ⟨o1, o2, o3, o4⟩ := hO
  unfold pbS pbR
  refine Prod.ext ?_ (Prod.ext ?_ (Prod.ext ?_ (Prod.ext ?_ (Prod.ext ?_ (Prod.ext ?_ ?_)))))
  · show xti (S 1 4) = xti (U.1 0 0); rw [y2]
  · show xti (S 1 5) = xti (U.1 0 3); rw [y5]
  · funext g
    show (if g < 8 then xti (S 7 g) else 0) = if g < 8 then xti (U.1 1 g) else 0
    by_cases h : g < 8
    · rw [if_pos h, if_pos h, (y3 g h).1]
    · rw [if_neg h, if_neg h]
  · funext g
    show (if g < 8 then xti (S 8 g) else 0) = if g < 8 then xti (U.1 2 g) else 0
    by_cases h : g < 8
    · rw [if_pos h, if_pos h, (y3 g h).2.1]
    · rw [if_neg h, if_neg h]
  · funext g
    show (if g < 8 then xti (S 9 g) else 0) = if g < 8 then bitsN (ovR U g) 8 else 0
    by_cases h : g < 8
    · rw [if_pos h, if_pos h]
      apply bits_eq
      intro k
      rw [bitsN_bit, ovR_iff, ← o2]
      constructor
      · intro hk
        have hk8 : k < 8 := by
          rcases Nat.lt_or_ge k 8 with h' | h'
          · exact h'
          · have := (o4 g h).1.2
            rw [Nat.testBit_lt_two_pow (Nat.lt_of_le_of_lt this (Nat.lt_of_lt_of_le (show 255 < 2 ^ 8 by decide) (Nat.pow_le_pow_right (by decide) h')))] at hk; cases hk
        exact ⟨hk8, ((o4 g h).2 k hk8).mp hk⟩
      · rintro ⟨hk8, hk⟩
        exact ((o4 g h).2 k hk8).mpr hk
    · rw [if_neg h, if_neg h]
  · funext g
    show (if g < 8 then xti (S 10 g) else 0) = if g < 8 then layR U g else 0
    by_cases h : g < 8
    · rw [if_pos h, if_pos h, layR_S hF hA]
      have h1 := kinds_bd hF hK h
      have h2 := hK g h
      have h3 : layS S g < 2 ^ 10 := layN_lt (fun i hi => by have h60 : i < 60 := (by have := hF.1.2; omega); have := (hF.2.2.1 i h60).2.2.2.2.2.2.1.2; omega) g
      rw [h2, xti_nI (by omega)]
    · rw [if_neg h, if_neg h]
  · funext k
    show (if k < 10 then ((xti (S 1 7)).testBit k).toNat + 2 * ((xti (S 1 8)).testBit k).toNat else 0) = if k < 10 then xti (U.1 3 k) else 0
    by_cases h : k < 10
    · rw [if_pos h, if_pos h, hW.2.2.2 k h]
    · rw [if_neg h, if_neg h]
theorem wsum_congr {w w' : Nat → Nat} {n : Nat} (h : ∀ k, k < n → w k = w' k) (m : Nat) : wsum w n m = wsum w' n m := by
  rw [wsum_sm, wsum_sm]
  exact smN_congr (fun i hi => by rw [h i hi])
theorem good_of (hI : Inv SC WR S U) : (pbS S).good := by
  obtain ⟨hY, hW, hO, hL, hF, hA, hK, hS, hC, hR⟩ := hI
  refine ⟨hY.1.2, fun g => ?_, fun k => ?_⟩
  · show (if g < 8 then xti (S 10 g) else 0) < 2 ^ 10
    by_cases h : g < 8
    · rw [if_pos h]; exact (kinds_bd hF hK h).2
    · rw [if_neg h]; decide
  · show (if k < 10 then ((xti (S 1 7)).testBit k).toNat + 2 * ((xti (S 1 8)).testBit k).toNat else 0) ≤ 3
    by_cases h : k < 10
    · rw [if_pos h]
      have h1 := Bool.toNat_le ((xti (S 1 7)).testBit k)
      have h2 := Bool.toNat_le ((xti (S 1 8)).testBit k)
      omega
    · rw [if_neg h]; omega
theorem CP_of (hI : Inv SC WR S U) : CP (pbS S) S := by
  have hg := good_of hI
  obtain ⟨hY, hW, hO, hL, hF, hA, hK, hS, hC, hR⟩ := hI
  obtain ⟨y1, y2, y3, y4, y5⟩ := hY
  have hN : 2 ^ xti (S 1 4) ≤ 256 := two8 y1.2
  refine ⟨hg, y1.1, y4.1, ?_, fun g h => ?_, fun m hm => ?_, ?_⟩
  · show xti (S 1 5) < 2 ^ 31
    have := y4.2; omega
  · have e1 : (pbS S).fr g = xti (S 7 g) := if_pos h
    have e2 : (pbS S).to g = xti (S 8 g) := if_pos h
    have e3 : (pbS S).bl g = xti (S 9 g) := if_pos h
    have e4 : (pbS S).kd g = xti (S 10 g) := if_pos h
    rw [e1, e2, e3, e4]
    exact ⟨(y3 g h).2.2.1.1, (y3 g h).2.2.1.2, (y3 g h).2.2.2.1, (y3 g h).2.2.2.2, (hO.2.2.2 g h).1.1, (hO.2.2.2 g h).1.2, (kinds_bd hF hK h).1⟩
  · rw [weigh_eq hW hm]
    congr 1
    apply wsum_congr
    intro k hk
    show wtU U k = if k < 10 then _ else 0
    rw [if_pos hk]; exact hW.2.2.2 k hk
  · have h1 := hW.2.1
    have h2 := hW.2.2.1
    conv => lhs; rw [h1.1, h2.1]
    rw [nI_or]
    congr 1
    apply bits_eq
    intro k
    rw [Nat.testBit_or, Bool.or_eq_true, wzB_bit]
    have hk10 : ∀ m, m ≤ 1023 → m.testBit k = true → k < 10 := by
      intro m hm hb
      rcases Nat.lt_or_ge k 10 with h' | h'
      · exact h'
      · rw [Nat.testBit_lt_two_pow (Nat.lt_of_le_of_lt hm (Nat.lt_of_lt_of_le (show 1023 < 2 ^ 10 by decide) (Nat.pow_le_pow_right (by decide) h')))] at hb; cases hb
    have ew : k < 10 → (pbS S).w k = ((xti (S 1 7)).testBit k).toNat + 2 * ((xti (S 1 8)).testBit k).toNat := fun h => if_pos h
    constructor
    · rintro (h | h)
      · have hk := hk10 _ h1.2 h
        refine ⟨hk, ?_⟩
        rw [ew hk, h]; simp
      · have hk := hk10 _ h2.2 h
        refine ⟨hk, ?_⟩
        rw [ew hk, h]; simp
    · rintro ⟨hk, h⟩
      rw [ew hk] at h
      cases ha : (xti (S 1 7)).testBit k
      · cases hb : (xti (S 1 8)).testBit k
        · rw [ha, hb] at h; exact absurd rfl h
        · exact Or.inr rfl
      · exact Or.inl rfl
theorem RP_of (hI : Inv SC WR S U) {V : XSr} (hq : ∀ q, (1 ≤ q ∧ q ≤ 5) → V.1 q = U.1 q) (h0 : ∀ j, j = 0 ∨ j = 3 ∨ j = 5 → V.1 0 j = U.1 0 j) (h14 : ∀ g, g < xti (S 1 4) → V.1 14 g = S 10 g) : RP (pbS S) V := by
  have hC := CP_of hI
  have hb := pb_eq hI
  obtain ⟨hY, hW, hO, hL, hF, hA, hK, hS, hCc, hR⟩ := hI
  obtain ⟨y1, y2, y3, y4, y5⟩ := hY
  obtain ⟨o1, o2, o3, o4⟩ := hO
  refine ⟨hC.1, ?_, ?_, hC.2.2.2.1, fun g h => ?_, fun k hk => ?_, ⟨xti (S 1 6), ?_, o1.2, fun j hj => ?_, fun g hg h hh => ?_⟩, fun g hg => ?_⟩
  · rw [h0 0 (by omega), ← y2]; exact hC.2.1
  · rw [h0 3 (by omega), ← y5]; exact hC.2.2.1
  · have := hC.2.2.2.2.1 g h
    rw [hq 1 (by omega), hq 2 (by omega), ← (y3 g h).1, ← (y3 g h).2.1]
    exact ⟨this.1, this.2.1, this.2.2.1, this.2.2.2.1, this.2.2.2.2.2.1⟩
  · rw [hq 3 (by omega), (hW.1 k hk).1]
    congr 1
    rw [hW.2.2.2 k hk]
    exact (if_pos hk).symm
  · rw [h0 5 (by omega), ← o2]; exact o1.1
  · obtain ⟨b1, b2, -, -⟩ := o3 j hj
    exact ⟨xti (U.1 4 j), xti (U.1 5 j), by rw [hq 4 (by omega)]; exact b1.1, by rw [hq 5 (by omega)]; exact b2.1, by have := b1.2; omega, by have := b2.2; omega⟩
  · have e3 : (pbS S).bl g = xti (S 9 g) := if_pos hg
    rw [e3, hq 4 (by omega), hq 5 (by omega)]
    exact (o4 g hg).2 h hh
  · rw [h14 g hg]
    exact (hC.2.2.2.2.1 g (by have := y1.2; have : (pbS S).n = xti (S 1 4) := rfl; omega)).2.2.2.2.2.2
theorem lays_raw (hY : IvY S U) (hF : IvF S U) (hA : IvA S U) : F_X7_lays U = some (setKr U 14 (xti (S 1 4)) (layR U)) := by
  obtain ⟨hY1, hY2, hY3, hY4, hY5⟩ := hY
  obtain ⟨hF1, hF2, hF3, hF4, hF5⟩ := hF
  have hn : U.1 0 0 = nI (xti (S 1 4)) := by rw [← hY2]; exact hY1.1
  have hz : U.1 0 8 = nI (xti (S 3 4)) := by rw [← hF2]; exact hF1.1
  unfold F_X7_lays
  rw [lays_a hn hY1.2, lays_b hY1.2 hz hF1.2 (by rw [← hA.2.1]; exact hA.1) (fun i hi => ?_) (fun i hi => ?_)]
  · unfold layR layTr
    rw [← hF2]
  · obtain ⟨e1, e2, e3, e4, b1, b2, b3, b4⟩ := hF3 i hi
    rw [← e1, ← e2, ← e3, ← e4]; exact ⟨b1, b2, b3, b4⟩
  · have h60 : i < 60 := by have := hF1.2; omega
    rw [← (hF3 i h60).2.1]; exact hF4 i hi
end LK
/-! WHAT THE CACHES HOLD -/
def SPR (P : Pb) (S : XSt) : Prop := ∀ v, v ≤ 180 → S 23 v = nI ((P.costs P.n 0).count v)
def LFT (P : Pb) (S : XSt) : Prop := ∃ r, S 4 15 = nI r ∧ r ∈ (P.pths P.n 0).map (P.uni 0) ∧ ∀ u ∈ (P.pths P.n 0).map (P.uni 0), ¬ lt2 u r
def SCx (S : XSt) : Prop := CR (pbS S) S ∧ (S 4 13 = 0 → SPR (pbS S) S) ∧ (S 4 14 = 0 → LFT (pbS S) S)
def WRx (U : XSr) : Prop := RA (pbR U) ((pbR U).pths (pbR U).n 0) U
theorem pbS_keep {S S' : XSt} (h1 : S' 1 = S 1) (h7 : S' 7 = S 7) (h8 : S' 8 = S 8) (h9 : S' 9 = S 9) (h10 : S' 10 = S 10) : pbS S' = pbS S := by
  unfold pbS; rw [h1, h7, h8, h9, h10]
theorem pbR_keep {U U' : XSr} (hq : ∀ q, 1 ≤ q ∧ q ≤ 9 → U'.1 q = U.1 q) (hj : ∀ j, j = 0 ∨ j = 3 ∨ j = 5 ∨ j = 8 ∨ j = 13 → U'.1 0 j = U.1 0 j) : pbR U' = pbR U := by
  unfold pbR
  have e1 : ovR U' = ovR U := by funext g h; unfold ovR; rw [hq 4 (by omega), hq 5 (by omega), hj 5 (by omega)]
  have e2 : layR U' = layR U := by
    unfold layR
    rw [hq 9 (by omega), hq 6 (by omega), hq 7 (by omega), hq 8 (by omega), hj 13 (by omega), hj 8 (by omega)]
  rw [e1, e2, hq 1 (by omega), hq 2 (by omega), hq 3 (by omega), hj 0 (by omega), hj 3 (by omega)]
theorem CR.keep {P : Pb} {S S' : XSt} (h : CR P S) (hq : ∀ q, 18 ≤ q → q ≤ 22 → S' q = S q) : CR P S' := by
  unfold CR CS at h ⊢
  rw [hq 18 (by omega) (by omega), hq 19 (by omega) (by omega), hq 20 (by omega) (by omega), hq 21 (by omega) (by omega), hq 22 (by omega) (by omega)]
  exact h
theorem SCok_x : SCok SCx := by
  intro S S' hq h
  have e := pbS_keep (hq 1 (by omega)) (hq 7 (by omega)) (hq 8 (by omega)) (hq 9 (by omega)) (hq 10 (by omega))
  unfold SCx at h ⊢
  rw [e, hq 4 (by omega)]
  refine ⟨h.1.keep (fun q h1 h2 => hq q (by omega)), fun h0 => ?_, fun h0 => ?_⟩
  · have := h.2.1 h0
    unfold SPR at this ⊢
    rw [hq 23 (by omega)]; exact this
  · have := h.2.2 h0
    unfold LFT at this ⊢
    rw [hq 4 (by omega)]; exact this
theorem WRok_x : WRok WRx := by
  intro U U' hq hj h2 h
  have e := pbR_keep (U := U) (U' := U') (fun q hq' => hq q (by omega)) (fun j hj' => hj j (by omega))
  unfold WRx at h ⊢
  rw [e]
  exact h.keep (fun j hj' => hj j (by omega)) (fun q h1 h2 => hq q (by omega)) h2
