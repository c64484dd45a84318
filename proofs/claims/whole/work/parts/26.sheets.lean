/-! sheets -/
theorem isSheet_eq (x : Int32) : F_X7_isSheet x = F_X6_isSheet x := rfl
theorem isSheet_n {x : Int32} (h : ¬ F_X6_isSheet x = 0) : ∃ s, x = nI s ∧ s < 4 := by
  unfold F_X6_isSheet at h
  obtain ⟨s, e, -, hs⟩ := within_nI (a := 0) (b := 3) (by decide) (by decide) h
  exact ⟨s, e, by omega⟩
theorem nI_40 {s i : Nat} : (40 : Int32) * nI s + nI i = nI (40 * s + i) := by
  rw [show (40 : Int32) = nI 40 from rfl, pk_mul, nI_add]
section Ops
variable {SC : XSt → Prop} {WR : XSr → Prop}
/-- a finding: both keep its number -/
theorem finding_step (hSC : SCok SC) (hWR : WRok WR) {S : XSt} {U : XSr} (hI : Inv SC WR S U) (x : Int32) : F_X6_finding S x = some ((-10 : Int32) - x, xst S 0 7 x) ∧ F_X7_meets U x = some ((-10 : Int32) - x, xsr U 0 39 x) ∧ Inv SC WR (xst S 0 7 x) (xsr U 0 39 x) := by
  obtain ⟨hY, hW, hO, hL, hF, ⟨hA1, hA2, hA3⟩, hK, hS, hC, hR⟩ := hI
  exact ⟨rfl, rfl, hY, hW, hO, hL, hF, ⟨hA1, hA2, rfl⟩, hK, (hS.putC (by decide)).putR (by decide), hC.put hSC (by decide), hR.put hWR (by decide) (by decide)⟩
theorem renew_eq {S : XSt} {s : Nat} (hs : s < 4) (x1 x2 : Int32) : F_X4_renew S (29 + s) x1 x2 = some (xst (xst (xst (zst S (33 + s) 40) (29 + s) 1 0) (29 + s) 2 x1) (29 + s) 3 x2) := by
  unfold F_X4_renew
  obtain ⟨e, he, h1⟩ := xlp_for (Bd := fun k rc t => B_X4_renew_2 (29 + s) x1 x2 k rc t.1 t.2) (k := fun e4 => (xlet (xst e4 (29 + s) 1 0) fun S5 => (xlet (xst S5 (29 + s) 2 x1) fun S6 => (xlet (xst S6 (29 + s) 3 x2) fun S7 => (some S7))))) (fun m t => ∃ j, j + m = 40 ∧ t = (nI j, zst S (33 + s) j)) (fun e => e = zst S (33 + s) 40) (by
    intro m t rc ht
    obtain ⟨j, hj, rfl⟩ := ht
    by_cases hj8 : j = 40
    · refine Or.inl ⟨zst S (33 + s) j, by rw [hj8], ?_⟩
      show B_X4_renew_2 (29 + s) x1 x2 _ rc (nI j) (zst S (33 + s) j) = _
      unfold B_X4_renew_2
      rw [if_pos (show (40 : Int32) ≤ nI j from nI_le (a := 40) (by omega) (by omega))]
    · refine Or.inr ⟨m - 1, (nI (j + 1), zst S (33 + s) (j + 1)), by omega, ⟨j + 1, by omega, rfl⟩, ?_⟩
      show B_X4_renew_2 (29 + s) x1 x2 _ rc (nI j) (zst S (33 + s) j) = _
      unfold B_X4_renew_2
      rw [if_neg (show ¬ (40 : Int32) ≤ nI j from nI_ge (b := 40) (by omega) (by decide)), if_pos (xin_nI (by omega) (by decide))]
      simp only [xlet]
      rw [xti_nI (by omega), show 29 + s + 4 = 33 + s by omega, zst_succ, nI_1]) (m := 40) (t := (0, S)) ⟨0, rfl, by rw [zst_0]; rfl⟩ (n := XFU) (by rw [XFU_eq]; omega)
  rw [h1, he]
  rfl
/-- a stretch of a row is zero -/
def zat (S : XSt) (q a n : Nat) : XSt := fun q' => if q' = q then (fun i => if a ≤ i ∧ i < a + n then 0 else S q i) else S q'
theorem zat_0 (S : XSt) (q a : Nat) : zat S q a 0 = S := by
  funext q' j
  unfold zat
  by_cases h : q' = q
  · rw [if_pos h, h]; show (if a ≤ j ∧ j < a + 0 then 0 else S q j) = S q j; rw [if_neg (by omega)]
  · rw [if_neg h]
theorem zat_succ (S : XSt) (q a n : Nat) : xst (zat S q a n) q (a + n) 0 = zat S q a (n + 1) := by
  funext q' j
  unfold xst
  by_cases h : q' = q
  · rw [if_pos h, h]
    unfold zat upd
    rw [if_pos rfl, if_pos rfl]
    show (if j = a + n then 0 else if a ≤ j ∧ j < a + n then 0 else S q j) = (if a ≤ j ∧ j < a + (n + 1) then 0 else S q j)
    by_cases hj : j = a + n
    · rw [if_pos hj, if_pos (by omega)]
    · rw [if_neg hj]
      by_cases h2 : a ≤ j ∧ j < a + n
      · rw [if_pos h2, if_pos (by omega)]
      · rw [if_neg h2, if_neg (by omega)]
  · rw [if_neg h]; unfold zat; rw [if_neg h, if_neg h]
theorem sheetR_a {U : XSr} {s : Nat} (hs : s < 4) (x3 : Int32) (k : XSr → Option (Int32 × XSr)) : xlp (fun k rc t => B_X7_sheet_59 (nI s) x3 k rc t.1 t.2) k XFU (0, U) = k (zat U.1 25 (40 * s) 40, U.2) := by
  obtain ⟨e, he, h1⟩ := xlp_for (Bd := fun k rc t => B_X7_sheet_59 (nI s) x3 k rc t.1 t.2) (k := k) (fun m t => ∃ j, j + m = 40 ∧ t = (nI j, (zat U.1 25 (40 * s) j, U.2))) (fun e => e = (zat U.1 25 (40 * s) 40, U.2)) (by
    intro m t rc ht
    obtain ⟨j, hj, rfl⟩ := ht
    by_cases hj8 : j = 40
    · refine Or.inl ⟨(zat U.1 25 (40 * s) j, U.2), by rw [hj8], ?_⟩
      show B_X7_sheet_59 (nI s) x3 _ rc (nI j) (zat U.1 25 (40 * s) j, U.2) = _
      unfold B_X7_sheet_59
      rw [if_pos (show (40 : Int32) ≤ nI j from nI_le (a := 40) (by omega) (by omega))]
    · refine Or.inr ⟨m - 1, (nI (j + 1), (zat U.1 25 (40 * s) (j + 1), U.2)), by omega, ⟨j + 1, by omega, rfl⟩, ?_⟩
      show B_X7_sheet_59 (nI s) x3 _ rc (nI j) (zat U.1 25 (40 * s) j, U.2) = _
      unfold B_X7_sheet_59
      rw [if_neg (show ¬ (40 : Int32) ≤ nI j from nI_ge (b := 40) (by omega) (by decide)), nI_40, if_pos (xin_nI (by omega) (by decide))]
      simp only [xlet]
      rw [xti_nI (by omega), nI_1]
      unfold xsr
      rw [zat_succ]) (m := 40) (t := (0, U)) ⟨0, rfl, by rw [zat_0]; rfl⟩ (n := XFU) (by rw [XFU_eq]; omega)
  rw [h1, he]
theorem st_sheet (hSC : SCok SC) (hWR : WRok WR) : St_sheet (Inv SC WR) := by
  intro S U x1 x2 x3 hI
  by_cases h1 : F_X6_isSheet x1 = 0
  · exact ⟨-2, S, U, by unfold F_X6_sheet; rw [if_pos h1], by unfold F_X7_sheet; rw [isSheet_eq, if_pos h1], hI⟩
  by_cases h2 : F_X6_within x2 0 2 = 0
  · exact ⟨-2, S, U, by unfold F_X6_sheet; rw [if_neg h1, if_pos h2], by unfold F_X7_sheet; rw [isSheet_eq, in_within, if_neg h1, if_pos h2], hI⟩
  by_cases h3 : x3 ≤ 40
  case neg => exact ⟨-2, S, U, by unfold F_X6_sheet; rw [if_neg h1, if_neg h2, if_neg h3], by unfold F_X7_sheet; rw [isSheet_eq, in_within, if_neg h1, if_neg h2, if_neg h3], hI⟩
  by_cases h4 : 0 ≤ x3
  case neg =>
    obtain ⟨e1, e2, hI'⟩ := finding_step hSC hWR hI 5
    exact ⟨_, _, _, by unfold F_X6_sheet; rw [if_neg h1, if_neg h2, if_pos h3, if_neg h4, e1]; rfl, by unfold F_X7_sheet; rw [isSheet_eq, in_within, if_neg h1, if_neg h2, if_pos h3, if_neg h4, e2]; rfl, hI'⟩
  obtain ⟨s, rfl, hs⟩ := isSheet_n h1
  obtain ⟨f, rfl, -, hf⟩ := within_nI (a := 0) (b := 2) (by decide) (by decide) h2
  obtain ⟨n, hn, rfl⟩ := nI_of (Int32.not_lt.mpr h4)
  have hn40 : n ≤ 40 := (nI_leI hn (by decide)).mp h3
  have hx4 : xin (nI s) 4 = true := xin_nI hs (by decide)
  have hsx : xti (nI s) = s := xti_nI (by omega)
  obtain ⟨hY, hW, hO, hL, hF, hA, hK, hS, hC, hR⟩ := hI
  obtain ⟨U', hU'⟩ : ∃ U' : XSr, U' = (zat (xsr (xsr (xsr U 22 s 1) 23 s (nI f)) 24 s (nI n)).1 25 (40 * s) 40, U.2) := ⟨_, rfl⟩
  have hUq : ∀ q, ¬ (22 ≤ q ∧ q ≤ 25) → U'.1 q = U.1 q := fun q hq => by
    rw [hU']
    show zat (xst (xst (xst U.1 22 s 1) 23 s (nI f)) 24 s (nI n)) 25 (40 * s) 40 q = U.1 q
    unfold zat
    rw [if_neg (by omega), xst_ne _ _ _ (by omega), xst_ne _ _ _ (by omega), xst_ne _ _ _ (by omega)]
  obtain ⟨S', hS'⟩ : ∃ S' : XSt, S' = xst (xst (xst (zst S (33 + s) 40) (29 + s) 1 0) (29 + s) 2 (nI f)) (29 + s) 3 (nI n) := ⟨_, rfl⟩
  have hSq : ∀ q, q < 29 → S' q = S q := fun q hq => by
    rw [hS', xst_ne _ _ _ (by omega), xst_ne _ _ _ (by omega), xst_ne _ _ _ (by omega)]
    unfold zst; rw [if_neg (by omega)]
  refine ⟨nI n, S', U', ?_, ?_, ?_⟩
  · unfold F_X6_sheet
    rw [if_neg h1, if_neg h2, if_pos h3, if_pos h4, if_pos hx4, hsx, renew_eq hs, hS']; rfl
  · unfold F_X7_sheet
    rw [isSheet_eq, in_within, if_neg h1, if_neg h2, if_pos h3, if_pos h4]
    simp only [xlet, if_pos hx4, hsx]
    show xlp _ _ XFU (0, xsr (xsr (xsr U 22 s (vp_nar .boolean 1)) 23 s (nI f)) 24 s (nI n)) = _
    rw [sheetR_a hs, show vp_nar .boolean 1 = (1 : Int32) from by decide, hU']; rfl
  · have hIk : IvK S' := by
      intro g hg
      have e : layS S' = layS S := by unfold layS; rw [hSq 12 (by decide), hSq 13 (by decide), hSq 14 (by decide), hSq 15 (by decide), hSq 0 (by decide), hSq 3 (by decide)]
      rw [e, hSq 10 (by decide)]; exact hK g hg
    refine ⟨?_, ?_, ?_, ?_, ?_, ?_, hIk, fun t ht => ?_, hC.keep hSC (fun q hq => hSq q (by omega)), IvR.keep (U := U) (U' := U') hWR (fun q hq => hUq q (by omega)) (fun j _ => by rw [hUq 0 (by decide)]) (by rw [hU']) hR⟩
    · unfold IvY; rw [hSq 1 (by decide), hSq 7 (by decide), hSq 8 (by decide), hUq 0 (by decide), hUq 1 (by decide), hUq 2 (by decide)]; exact hY
    · unfold IvW; rw [hSq 1 (by decide), hUq 3 (by decide)]; exact hW
    · unfold IvO; rw [hSq 1 (by decide), hSq 9 (by decide), hUq 0 (by decide), hUq 4 (by decide), hUq 5 (by decide)]; exact hO
    · unfold IvL; rw [hSq 2 (by decide), hSq 11 (by decide), hUq 0 (by decide), hUq 10 (by decide)]; exact hL
    · unfold IvF; rw [hSq 3 (by decide), hSq 12 (by decide), hSq 13 (by decide), hSq 14 (by decide), hSq 15 (by decide), hSq 1 (by decide), hUq 0 (by decide), hUq 9 (by decide), hUq 6 (by decide), hUq 7 (by decide), hUq 8 (by decide)]; exact hF
    · unfold IvA; rw [hSq 0 (by decide), hUq 0 (by decide)]; exact hA
    · have eS : ∀ i, S' (33 + t) i = if t = s ∧ i < 40 then 0 else S (33 + t) i := fun i => by
        rw [hS', xst_ne _ _ _ (by omega), xst_ne _ _ _ (by omega), xst_ne _ _ _ (by omega)]
        unfold zst
        by_cases hts : t = s
        · subst hts; rw [if_pos rfl]
          show (if i < 40 then 0 else _) = _
          by_cases hi : i < 40
          · rw [if_pos hi, if_pos ⟨rfl, hi⟩]
          · rw [if_neg hi, if_neg (fun h => hi h.2)]
        · rw [if_neg (by omega), if_neg (fun h => hts h.1)]
      have e22 : U'.1 22 t = if t = s then 1 else U.1 22 t := by rw [hU']; rfl
      have e23 : U'.1 23 t = if t = s then nI f else U.1 23 t := by rw [hU']; rfl
      have e24 : U'.1 24 t = if t = s then nI n else U.1 24 t := by rw [hU']; rfl
      have e25 : ∀ j, U'.1 25 j = if 40 * s ≤ j ∧ j < 40 * s + 40 then 0 else U.1 25 j := fun j => by rw [hU']; rfl
      obtain ⟨p1, p2, p3, p4, p5, p6⟩ := hS t ht
      by_cases hts : t = s
      · subst hts
        have f1 : S' (29 + t) 1 = 0 := by rw [hS', xst_idx _ _ _ (by decide), xst_idx _ _ _ (by decide), xst_same]
        have f2 : S' (29 + t) 2 = nI f := by rw [hS', xst_idx _ _ _ (by decide), xst_same]
        have f3 : S' (29 + t) 3 = nI n := by rw [hS', xst_same]
        rw [f1, f2, f3, e22, e23, e24, if_pos rfl, if_pos rfl, if_pos rfl]
        refine ⟨Or.inr ⟨rfl, rfl⟩, rfl, bd_nI hf (by decide), rfl, bd_nI hn40 (by decide), fun i hi => ?_⟩
        rw [eS, e25, if_pos ⟨rfl, hi⟩, if_pos (by omega)]
      · have g1 : ∀ i, S' (29 + t) i = S (29 + t) i := fun i => by
          rw [hS', xst_ne _ _ _ (by omega), xst_ne _ _ _ (by omega), xst_ne _ _ _ (by omega)]
          unfold zst; rw [if_neg (by omega)]
        rw [g1, g1, g1, e22, e23, e24, if_neg hts, if_neg hts, if_neg hts]
        refine ⟨p1, p2, p3, p4, p5, fun i hi => ?_⟩
        rw [eS, e25, if_neg (fun h => hts h.1), if_neg (by omega)]
        exact p6 i hi
end Ops
