def setKr (U : XSr) (q n : Nat) (f : Nat → Nat) : XSr := (setK U.1 q n f, U.2)
theorem xsr_K (U : XSr) (q n : Nat) (f : Nat → Nat) {i : Nat} (hi : i < n) (v : Nat) : xsr (setKr U q n f) q i (nI v) = setKr U q n (fun j => if j = i then v else f j) := by
  unfold xsr setKr
  rw [setK_put U.1 q n f hi v]
def layTr (U : XSr) (j : Nat) : Nat → Nat := layN (fun i => xti (U.1 9 i)) (fun i => xti (U.1 6 i)) (fun i => xti (U.1 7 i)) (fun i => xti (U.1 8 i)) (xti (U.1 0 13)) j
theorem lays_a {U : XSr} {n : Nat} (hn : U.1 0 0 = nI n) (hn8 : n ≤ 8) (k : XSr → Option XSr) : xlp (fun k rc t => B_X7_lays_2 k rc t.1 t.2) k XFU (0, U) = k (setKr U 14 n (fun _ => 0)) := by
  obtain ⟨e, he, h1⟩ := xlp_for (Bd := fun k rc t => B_X7_lays_2 k rc t.1 t.2) (k := k) (fun m t => ∃ j, j + m = n ∧ t = (nI j, (zst U.1 14 j, U.2))) (fun e => e = setKr U 14 n (fun _ => 0)) (by
    intro m t rc ht
    obtain ⟨j, hj, rfl⟩ := ht
    have h00 : zst U.1 14 j 0 0 = nI n := hn
    by_cases hjn : j = n
    · refine Or.inl ⟨(zst U.1 14 j, U.2), by rw [hjn]; rfl, ?_⟩
      show B_X7_lays_2 k rc (nI j) (zst U.1 14 j, U.2) = _
      unfold B_X7_lays_2
      rw [show (zst U.1 14 j, U.2).1 0 0 = nI n from h00, if_pos (nI_le (by omega) (by omega))]
    · refine Or.inr ⟨m - 1, (nI (j + 1), (zst U.1 14 (j + 1), U.2)), by omega, ⟨j + 1, by omega, rfl⟩, ?_⟩
      show B_X7_lays_2 k rc (nI j) (zst U.1 14 j, U.2) = _
      unfold B_X7_lays_2
      rw [show (zst U.1 14 j, U.2).1 0 0 = nI n from h00, if_neg (nI_ge (by omega) (by omega)), if_pos (xin_nI (by omega) (by decide))]
      simp only [xlet]
      rw [xti_nI (by omega), nI_1]
      unfold xsr
      rw [zst_succ]) (m := n) (t := (0, U)) ⟨0, by omega, by rw [zst_0]; rfl⟩ (n := XFU) (by rw [XFU_eq]; omega)
  rw [h1, he]
set_option maxHeartbeats 1000000 in
theorem lays_b {U : XSr} {n z : Nat} (hn8 : n ≤ 8) (hz : U.1 0 8 = nI z) (hz60 : z ≤ 60) (ha : bd (U.1 0 13) 999) (hT1 : ∀ i, i < 60 → bd (U.1 9 i) 999 ∧ bd (U.1 6 i) 7 ∧ bd (U.1 7 i) 9 ∧ bd (U.1 8 i) 1) (hT2 : ∀ i, i < z → xti (U.1 6 i) < n) (k : XSr → Option XSr) : xlp (fun k rc t => B_X7_lays_25 k rc t.1 t.2) k XFU (0, setKr U 14 n (fun _ => 0)) = k (setKr U 14 n (layTr U z)) := by
  obtain ⟨e, he, h1⟩ := xlp_for (Bd := fun k rc t => B_X7_lays_25 k rc t.1 t.2) (k := k) (fun m t => ∃ j, j + m = z ∧ t = (nI j, setKr U 14 n (layTr U j))) (fun e => e = setKr U 14 n (layTr U z)) (by
    intro m t rc ht
    obtain ⟨j, hj, rfl⟩ := ht
    by_cases hjz : j = z
    · refine Or.inl ⟨setKr U 14 n (layTr U j), by rw [hjz], ?_⟩
      show B_X7_lays_25 k rc (nI j) (setKr U 14 n (layTr U j)) = _
      unfold B_X7_lays_25
      rw [show (setKr U 14 n (layTr U j)).1 0 8 = nI z from hz, if_pos (nI_le (by omega) (by omega))]
    · have hlt : j < z := by omega
      obtain ⟨b1, b2, b3, b4⟩ := hT1 j (by omega)
      have hx60 : xin (nI j) 60 = true := xin_nI (by omega) (by decide)
      have hjx : xti (nI j) = j := xti_nI (by omega)
      have hgn := hT2 j hlt
      by_cases hta : xti (U.1 9 j) ≤ xti (U.1 0 13)
      · refine Or.inr ⟨m - 1, (nI (j + 1), setKr U 14 n (layTr U (j + 1))), by omega, ⟨j + 1, by omega, rfl⟩, ?_⟩
        show B_X7_lays_25 k rc (nI j) (setKr U 14 n (layTr U j)) = _
        unfold B_X7_lays_25
        have hk31 : xti (U.1 7 j) < 31 := by have := b3.2; omega
        have hgin : xin (U.1 6 j) 8 = true := xin_bd b2 (by decide) (by decide)
        have e14 : (1 : Int32) <<< (U.1 7 j &&& 31) = nI (2 ^ xti (U.1 7 j)) := by
          have := nI_shl1 hk31; rw [← b3.1] at this; exact this
        have hna : ¬ U.1 0 13 < U.1 9 j := by rw [b1.1, ha.1]; exact nI_nlt hta (by have := ha.2; omega)
        rw [hjx, show (setKr U 14 n (layTr U j)).1 0 8 = nI z from hz, show (setKr U 14 n (layTr U j)).1 0 13 = U.1 0 13 from rfl, show (setKr U 14 n (layTr U j)).1 9 j = U.1 9 j from rfl, show (setKr U 14 n (layTr U j)).1 7 j = U.1 7 j from rfl, show (setKr U 14 n (layTr U j)).1 8 j = U.1 8 j from rfl, show (setKr U 14 n (layTr U j)).1 6 j = U.1 6 j from rfl, if_neg (nI_ge hlt (by omega)), if_pos hx60, if_neg hna, if_pos hx60]
        simp only [xlet]
        rw [if_pos hx60, if_pos hx60, if_pos hx60, if_pos hgin, if_pos hgin, if_pos hx60, if_pos hgin, if_pos hgin]
        rw [show (setKr U 14 n (layTr U j)).1 14 (xti (U.1 6 j)) = nI (layTr U j (xti (U.1 6 j))) from setK_in (S := U.1) (q := 14) (n := n) (f := layTr U j) hgn, show layTr U (j + 1) = _ from layN_succ _ _ _ _ _ _ hta, e14]
        by_cases hh : xti (U.1 8 j) = 1
        · have : U.1 8 j = 1 := by rw [b4.1, hh]; rfl
          rw [if_pos this, nI_or, xsr_K U 14 n _ hgn, nI_1]
          simp only [if_pos hh]
          congr 3
          funext g
          by_cases hg : g = xti (U.1 6 j)
          · rw [if_pos hg, if_pos hg, hg]; rfl
          · rw [if_neg hg, if_neg hg]; rfl
        · have : ¬ U.1 8 j = 1 := by intro h; rw [h] at hh; exact hh (by decide)
          rw [if_neg this, nI_andn, xsr_K U 14 n _ hgn, nI_1]
          simp only [if_neg hh]
          congr 3
          funext g
          by_cases hg : g = xti (U.1 6 j)
          · rw [if_pos hg, if_pos hg, hg]; rfl
          · rw [if_neg hg, if_neg hg]; rfl
      · refine Or.inr ⟨m - 1, (nI (j + 1), setKr U 14 n (layTr U (j + 1))), by omega, ⟨j + 1, by omega, rfl⟩, ?_⟩
        show B_X7_lays_25 k rc (nI j) (setKr U 14 n (layTr U j)) = _
        unfold B_X7_lays_25
        have hya : U.1 0 13 < U.1 9 j := by rw [b1.1, ha.1]; exact nI_lt (by omega) (by have := b1.2; omega)
        rw [hjx, show (setKr U 14 n (layTr U j)).1 0 8 = nI z from hz, show (setKr U 14 n (layTr U j)).1 0 13 = U.1 0 13 from rfl, show (setKr U 14 n (layTr U j)).1 9 j = U.1 9 j from rfl, if_neg (nI_ge hlt (by omega)), if_pos hx60, if_pos hya]
        simp only [xlet]
        rw [nI_1, show layTr U (j + 1) = layTr U j from layN_skip _ _ _ _ _ _ hta]) (m := z) (t := (0, setKr U 14 n (fun _ => 0))) ⟨0, by omega, rfl⟩ (n := XFU) (by rw [XFU_eq]; omega)
  rw [h1, he]
section Ops
variable {SC : XSt → Prop} {WR : XSr → Prop}
theorem layR_S {S : XSt} {U : XSr} (hF : IvF S U) (hA : IvA S U) : layR U = layS S := by
  obtain ⟨hF1, hF2, hF3, hF4, hF5⟩ := hF
  unfold layR layS
  rw [← hF2, ← hA.2.1]
  refine layN_congr (fun i hi => ?_)
  have h60 : i < 60 := by have := hF1.2; omega
  obtain ⟨e1, e2, e3, e4, -⟩ := hF3 i h60
  show xti (U.1 9 i) = xti (S 12 i) ∧ xti (U.1 6 i) = xti (S 13 i) ∧ xti (U.1 7 i) = xti (S 14 i) ∧ xti (U.1 8 i) = xti (S 15 i)
  rw [e1, e2, e3, e4]
  exact ⟨rfl, rfl, rfl, rfl⟩
/-- lays(): the reference's rows are the class's; all else stays -/
theorem lays_eq {S : XSt} {U : XSr} (hI : Inv SC WR S U) : ∃ U', F_X7_lays U = some U' ∧ Inv SC WR S U' ∧ (∀ g, g < xti (S 1 4) → U'.1 14 g = S 10 g) ∧ (∀ q, q ≠ 14 → U'.1 q = U.1 q) ∧ U'.2 = U.2 := by
  obtain ⟨hY, hW, hO, hL, hF, hA, hK, hS, hC, hR⟩ := hI
  have hYc := hY; have hFc := hF; have hAc := hA
  obtain ⟨hY1, hY2, hY3, hY4, hY5⟩ := hY
  obtain ⟨hF1, hF2, hF3, hF4, hF5⟩ := hF
  have hn : U.1 0 0 = nI (xti (S 1 4)) := by rw [← hY2]; exact hY1.1
  have hz : U.1 0 8 = nI (xti (S 3 4)) := by rw [← hF2]; exact hF1.1
  have hlR := layR_S hFc hAc
  have hn0 : xti (U.1 0 0) = xti (S 1 4) := by rw [hY2]
  refine ⟨setKr U 14 (xti (S 1 4)) (layR U), ?_, ⟨hYc, hW, hO, hL, hFc, hAc, hK, ?_, hC, ?_⟩, fun g hg => ?_, fun q hq => ?_, rfl⟩
  · unfold F_X7_lays
    rw [lays_a hn hY1.2, lays_b hY1.2 hz hF1.2 (by rw [← hA.2.1]; exact hA.1) (fun i hi => ?_) (fun i hi => ?_)]
    · unfold layR layTr
      rw [← hF2]
    · obtain ⟨e1, e2, e3, e4, b1, b2, b3, b4⟩ := hF3 i hi
      rw [← e1, ← e2, ← e3, ← e4]; exact ⟨b1, b2, b3, b4⟩
    · have h60 : i < 60 := by have := hF1.2; omega
      rw [← (hF3 i h60).2.1]; exact hF4 i hi
  · intro s hs
    have hne : ∀ q, q ≠ 14 → (setKr U 14 (xti (S 1 4)) (layR U)).1 q = U.1 q := fun q hq => setK_ne hq
    rw [hne 22 (by decide), hne 23 (by decide), hne 24 (by decide), hne 25 (by decide)]
    exact hS s hs
  · rcases hR.1 with h0 | h1
    · exact IvR.stale h0
    · have heq : setKr U 14 (xti (S 1 4)) (layR U) = U := by
        unfold setKr
        refine Prod.ext (funext fun q => funext fun i => ?_) rfl
        show setK U.1 14 (xti (S 1 4)) (layR U) q i = U.1 q i
        by_cases hq : q = 14
        · subst hq
          unfold setK
          rw [if_pos rfl]
          show (if i < xti (S 1 4) then nI (layR U i) else U.1 14 i) = U.1 14 i
          by_cases hi : i < xti (S 1 4)
          · rw [if_pos hi]; exact ((hR.2 h1).2 i (by rw [hn0]; exact hi)).symm
          · rw [if_neg hi]
        · rw [setK_ne hq]
      rw [heq]; exact hR
  · show setK U.1 14 (xti (S 1 4)) (layR U) 14 g = S 10 g
    rw [setK_in hg, hlR]
    exact (hK g (by have := hY1.2; omega)).symm
  · exact setK_ne hq
theorem st_has (hSC : SCok SC) (hWR : WRok WR) : St_has (Inv SC WR) := by
  intro S U x1 hI
  have hY2 := hI.1.2.1
  have hY1 := hI.1.1
  by_cases h1 : F_X6_isGrave S x1 = 0
  · exact ⟨-2, U, by unfold F_X6_has; rw [if_pos h1], by unfold F_X7_has; rw [isGrave_eq hY2, if_pos h1], hI⟩
  · obtain ⟨g, rfl, hg⟩ := isGrave_n hY1 h1
    obtain ⟨U', e1, hI', h14, -⟩ := lays_eq hI
    have hg8 : g < 8 := by have := hY1.2; omega
    refine ⟨S 10 g, U', ?_, ?_, hI'⟩
    · unfold F_X6_has; rw [if_neg h1, if_pos (xin_nI hg8 (by decide)), xti_nI (by omega)]
    · unfold F_X7_has; rw [isGrave_eq hY2, if_neg h1, e1]
      show (if xin (nI g) 8 = true then some (U'.1 14 (xti (nI g)), U') else none) = _
      rw [if_pos (xin_nI hg8 (by decide)), xti_nI (by omega), h14 g hg]
theorem findsChanged_eq {S : XSt} {z ao : Nat} (hz : S 3 4 = nI z) (ha : S 0 6 = nI ao) (hao : ao ≤ 999) (hT : tels (S 12) (S 13) (S 14) (S 15) z) : F_X6_findsChanged S = some (xst (setK S 10 8 (layT S ao z)) 4 12 1) := by
  unfold F_X6_findsChanged
  rw [ha, layInto_eq hz hT hao]
  rfl
theorem st_asOf (hSC : SCok SC) (hWR : WRok WR) : St_asOf (Inv SC WR) := by
  intro S U x1 hI
  have hI0 := hI
  obtain ⟨hY, hW, hO, hL, ⟨hF1, hF2, hF3, hF4, hF5⟩, ⟨hA1, hA2, hA3⟩, hK, hS, hC, hR⟩ := hI
  by_cases h1 : F_X6_within x1 0 999 = 0
  · exact ⟨-2, S, U, by unfold F_X6_asOf; rw [if_pos h1], by unfold F_X7_asOf; rw [in_within, if_pos h1], hI0⟩
  · obtain ⟨ao, rfl, -, hao⟩ := within_nI (a := 0) (b := 999) (by decide) (by decide) h1
    have hT : tels (S 12) (S 13) (S 14) (S 15) (xti (S 3 4)) := ⟨hF1.2, fun i hi => (hF3 i hi).2.2.2.2, hF5⟩
    refine ⟨S 0 6, xst (setK (xst S 0 6 (nI ao)) 10 8 (layT S ao (xti (S 3 4)))) 4 12 1, xsr (xsr U 0 13 (nI ao)) 0 14 0, ?_, ?_, hY, hW, hO, hL, ⟨hF1, hF2, hF3, hF4, hF5⟩, ⟨bd_nI hao (by decide), rfl, hA3⟩, fun g hg => ?_, fun s hs => ?_, IvC.stale rfl, IvR.stale rfl⟩
    · unfold F_X6_asOf
      rw [if_neg h1]
      show (F_X6_findsChanged (xst S 0 6 (nI ao))).bind _ = _
      rw [findsChanged_eq (S := xst S 0 6 (nI ao)) (z := xti (S 3 4)) (ao := ao) hF1.1 rfl hao hT]
      rfl
    · unfold F_X7_asOf
      rw [in_within, if_neg h1, hA2]; rfl
    · show setK (xst S 0 6 (nI ao)) 10 8 (layT S ao (xti (S 3 4))) 10 g = nI (layN (fun i => xti (S 12 i)) (fun i => xti (S 13 i)) (fun i => xti (S 14 i)) (fun i => xti (S 15 i)) (xti (nI ao)) (xti (S 3 4)) g)
      rw [setK_in hg, xti_nI (by omega)]; rfl
    · rw [xst_ne _ _ _ (by omega), xst_ne _ _ _ (by omega), setK_ne (by omega), setK_ne (by omega), xst_ne _ _ _ (by omega), xst_ne _ _ _ (by omega)]
      exact hS s hs
end Ops
