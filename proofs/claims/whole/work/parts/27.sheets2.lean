section Ops
variable {SC : XSt → Prop} {WR : XSr → Prop}
/-- a change of sheets alone -/
theorem Inv_sheets (hSC : SCok SC) (hWR : WRok WR) {S S' : XSt} {U U' : XSr} (hI : Inv SC WR S U) (hSq : ∀ q, q < 29 → S' q = S q) (hUq : ∀ q, ¬ (22 ≤ q ∧ q ≤ 26) → U'.1 q = U.1 q) (h2 : U'.2 = U.2) (hS' : IvS S' U') : Inv SC WR S' U' := by
  obtain ⟨hY, hW, hO, hL, hF, hA, hK, hS, hC, hR⟩ := hI
  have hIk : IvK S' := by
    intro g hg
    have e : layS S' = layS S := by unfold layS; rw [hSq 12 (by decide), hSq 13 (by decide), hSq 14 (by decide), hSq 15 (by decide), hSq 0 (by decide), hSq 3 (by decide)]
    rw [e, hSq 10 (by decide)]; exact hK g hg
  refine ⟨?_, ?_, ?_, ?_, ?_, ?_, hIk, hS', hC.keep hSC (fun q hq => hSq q (by omega)), IvR.keep (U := U) (U' := U') hWR (fun q hq => hUq q (by omega)) (fun j _ => by rw [hUq 0 (by decide)]) h2 hR⟩
  · unfold IvY; rw [hSq 1 (by decide), hSq 7 (by decide), hSq 8 (by decide), hUq 0 (by decide), hUq 1 (by decide), hUq 2 (by decide)]; exact hY
  · unfold IvW; rw [hSq 1 (by decide), hUq 3 (by decide)]; exact hW
  · unfold IvO; rw [hSq 1 (by decide), hSq 9 (by decide), hUq 0 (by decide), hUq 4 (by decide), hUq 5 (by decide)]; exact hO
  · unfold IvL; rw [hSq 2 (by decide), hSq 11 (by decide), hUq 0 (by decide), hUq 10 (by decide)]; exact hL
  · unfold IvF; rw [hSq 3 (by decide), hSq 12 (by decide), hSq 13 (by decide), hSq 14 (by decide), hSq 15 (by decide), hSq 1 (by decide), hUq 0 (by decide), hUq 9 (by decide), hUq 6 (by decide), hUq 7 (by decide), hUq 8 (by decide)]; exact hF
  · unfold IvA; rw [hSq 0 (by decide), hUq 0 (by decide)]; exact hA
theorem st_lose (hSC : SCok SC) (hWR : WRok WR) : St_lose (Inv SC WR) := by
  intro S U x1 hI
  by_cases h1 : F_X6_isSheet x1 = 0
  · exact ⟨-2, S, U, by unfold F_X6_lose; rw [if_pos h1], by unfold F_X7_lose; rw [isSheet_eq, if_pos h1], hI⟩
  obtain ⟨s, rfl, hs⟩ := isSheet_n h1
  have hx4 : xin (nI s) 4 = true := xin_nI hs (by decide)
  have hsx : xti (nI s) = s := xti_nI (by omega)
  have hS := hI.2.2.2.2.2.2.2.1
  obtain ⟨p1, p2, p3, p4, p5, p6⟩ := hS s hs
  rcases p1 with ⟨l1, l2⟩ | ⟨l1, l2⟩
  · obtain ⟨e1, e2, hI'⟩ := finding_step hSC hWR hI 1
    refine ⟨(-10 : Int32) - 1, _, _, ?_, ?_, hI'⟩
    · unfold F_X6_lose; rw [if_neg h1, if_pos hx4, hsx, l1, if_neg (by decide), e1]; rfl
    · unfold F_X7_lose; rw [isSheet_eq, if_neg h1, if_pos hx4, hsx, l2, if_pos rfl, e2]; rfl
  · refine ⟨S (29 + s) 3, xst S (29 + s) 1 1, xsr U 22 s 0, ?_, ?_, Inv_sheets hSC hWR hI (fun q hq => xst_ne _ _ _ (by omega)) (fun q hq => by rw [xsr_1]; exact xst_ne _ _ _ (by omega)) rfl (fun t ht => ?_)⟩
    · unfold F_X6_lose; rw [if_neg h1, if_pos hx4, hsx, l1, if_pos rfl]
      simp only [xlet, if_pos hx4]
      rw [xst_idx _ _ _ (by decide)]
    · unfold F_X7_lose; rw [isSheet_eq, if_neg h1, if_pos hx4, hsx, l2, if_neg (by decide)]
      simp only [xlet, if_pos hx4]
      rw [show vp_nar .boolean 0 = (0 : Int32) from by decide, p4]; rfl
    · obtain ⟨q1, q2, q3, q4, q5, q6⟩ := hS t ht
      rw [xsr_1, xst_ne (q' := 33 + t) _ _ _ (by omega), xst_ne (q' := 23) _ _ _ (by decide), xst_ne (q' := 24) _ _ _ (by decide), xst_ne (q' := 25) _ _ _ (by decide), xst_at]
      by_cases hts : t = s
      · subst hts
        rw [xst_same, xst_idx _ _ _ (by decide), xst_idx _ _ _ (by decide), if_pos rfl]
        exact ⟨Or.inl ⟨rfl, rfl⟩, q2, q3, q4, q5, q6⟩
      · rw [xst_ne (q' := 29 + t) _ _ _ (by omega), if_neg hts]
        exact ⟨q1, q2, q3, q4, q5, q6⟩
/-- what a look at an item meets -/
theorem lacks_eq {S : XSt} {U : XSr} (hS : IvS S U) {s : Nat} (hs : s < 4) (x2 x3 : Int32) : F_X7_lacks U (nI s) x2 x3 = some (F_X4_findingAt S (29 + s) x2 x3) ∧ (F_X4_findingAt S (29 + s) x2 x3 = 0 ∧ (∃ i, x3 = nI i ∧ i < 40) ∨ F_X4_findingAt S (29 + s) x2 x3 = 1 ∨ F_X4_findingAt S (29 + s) x2 x3 = 2 ∨ F_X4_findingAt S (29 + s) x2 x3 = 3) := by
  have hx4 : xin (nI s) 4 = true := xin_nI hs (by decide)
  have hsx : xti (nI s) = s := xti_nI (by omega)
  obtain ⟨p1, p2, p3, p4, p5, p6⟩ := hS s hs
  unfold F_X7_lacks F_X4_findingAt
  simp only [if_pos hx4, hsx]
  rcases p1 with ⟨l1, l2⟩ | ⟨l1, l2⟩
  · rw [l1, l2, if_pos rfl, if_neg (by decide)]
    exact ⟨rfl, Or.inr (Or.inl rfl)⟩
  · rw [l1, l2, if_neg (by decide), if_pos rfl, ← p2]
    by_cases h2 : S (29 + s) 2 = x2
    · rw [if_pos h2, if_pos h2, ← p4]
      obtain ⟨n, hn⟩ : ∃ n, xti (S (29 + s) 3) = n := ⟨_, rfl⟩
      have en : S (29 + s) 3 = nI n := by rw [← hn]; exact p5.1
      have hn40 : n ≤ 40 := by rw [← hn]; exact p5.2
      rw [en, in_within]
      by_cases h3 : x3 < 0
      · rw [if_pos h3]
        have : F_X6_within x3 0 (nI n - 1) = 0 := by unfold F_X6_within; rw [if_pos h3]
        rw [if_pos this]
        exact ⟨rfl, Or.inr (Or.inr (Or.inl rfl))⟩
      · rw [if_neg h3]
        obtain ⟨i, hi, rfl⟩ := nI_of h3
        by_cases h4 : nI i < nI n
        · rw [if_pos h4]
          have h5 := (nI_ltI hi (by omega)).mp h4
          have : ¬ F_X6_within (nI i) 0 (nI n - 1) = 0 := by
            obtain ⟨m, rfl⟩ : ∃ m, n = m + 1 := ⟨n - 1, by omega⟩
            rw [nI_sub1]
            exact within_1.mpr ⟨nI_pos' hi, nI_le (by omega) (by omega)⟩
          rw [if_neg this]
          exact ⟨rfl, Or.inl ⟨rfl, i, rfl, by omega⟩⟩
        · rw [if_neg h4]
          have h5 : n ≤ i := by
            rcases Nat.lt_or_ge i n with q | q
            · exact absurd (nI_lt q (by omega)) h4
            · exact q
          have : F_X6_within (nI i) 0 (nI n - 1) = 0 := by
            by_cases hw : F_X6_within (nI i) 0 (nI n - 1) = 0
            · exact hw
            · exfalso
              obtain ⟨-, h6⟩ := within_1.mp hw
              cases n with
              | zero => exact absurd (Int32.lt_of_le_of_lt h6 (by decide)) h3
              | succ m =>
                rw [nI_sub1] at h6
                have := (nI_leI hi (by omega)).mp h6
                omega
          rw [if_pos this]
          exact ⟨rfl, Or.inr (Or.inr (Or.inl rfl))⟩
    · rw [if_neg h2, if_neg h2]
      exact ⟨rfl, Or.inr (Or.inr (Or.inr rfl))⟩
theorem sheet_put (hSC : SCok SC) (hWR : WRok WR) {S : XSt} {U : XSr} (hI : Inv SC WR S U) {s i : Nat} (hs : s < 4) (hi : i < 40) (v : Int32) : Inv SC WR (xst S (33 + s) i v) (xsr U 25 (40 * s + i) v) := by
  have hS := hI.2.2.2.2.2.2.2.1
  refine Inv_sheets hSC hWR hI (fun q hq => xst_ne _ _ _ (by omega)) (fun q hq => by rw [xsr_1]; exact xst_ne _ _ _ (by omega)) rfl (fun t ht => ?_)
  obtain ⟨q1, q2, q3, q4, q5, q6⟩ := hS t ht
  rw [xsr_1, xst_ne (q' := 29 + t) _ _ _ (by omega), xst_ne (q' := 22) _ _ _ (by decide), xst_ne (q' := 23) _ _ _ (by decide), xst_ne (q' := 24) _ _ _ (by decide)]
  refine ⟨q1, q2, q3, q4, q5, fun j hj => ?_⟩
  rw [xst_at]
  by_cases hts : t = s
  · subst hts
    rw [xst_at]
    by_cases hji : j = i
    · rw [if_pos hji, if_pos (by omega)]
    · rw [if_neg hji, if_neg (by omega)]; exact q6 j hj
  · rw [xst_ne _ _ _ (by omega), if_neg (by omega)]; exact q6 j hj
/-- an item is kept, cut to its form -/
theorem keep_eq (hSC : SCok SC) (hWR : WRok WR) {S : XSt} {U : XSr} (hI : Inv SC WR S U) {s i : Nat} (hs : s < 4) (hi : i < 40) (v : Int32) : ∃ S' U', F_X4_store S (29 + s) (nI i) v = some S' ∧ F_X7_keep U (nI s) (nI i) v = some U' ∧ Inv SC WR S' U' ∧ (∀ q, q < 29 → S' q = S q) ∧ (∀ q, q ≠ 25 → U'.1 q = U.1 q) ∧ (∀ t, t < 4 → S' (29 + t) = S (29 + t)) := by
  have hS := hI.2.2.2.2.2.2.2.1
  obtain ⟨p1, p2, p3, p4, p5, p6⟩ := hS s hs
  have hx4 : xin (nI s) 4 = true := xin_nI hs (by decide)
  have hsx : xti (nI s) = s := xti_nI (by omega)
  have hix : xti (nI i) = i := xti_nI (by omega)
  have hx40 : xin (nI i) 40 = true := xin_nI hi (by decide)
  have hx160 : xin (nI (40 * s + i)) 160 = true := xin_nI (by omega) (by decide)
  have hx2 : xti (nI (40 * s + i)) = 40 * s + i := xti_nI (by omega)
  have fin : ∀ w : Int32, Inv SC WR (xst S (33 + s) i w) (xsr U 25 (40 * s + i) w) ∧ (∀ q, q < 29 → xst S (33 + s) i w q = S q) ∧ (∀ q, q ≠ 25 → (xsr U 25 (40 * s + i) w).1 q = U.1 q) ∧ (∀ t, t < 4 → xst S (33 + s) i w (29 + t) = S (29 + t)) := fun w => ⟨sheet_put hSC hWR hI hs hi w, fun q hq => xst_ne _ _ _ (by omega), fun q hq => by rw [xsr_1]; exact xst_ne _ _ _ hq, fun t ht => xst_ne _ _ _ (by omega)⟩
  unfold F_X4_store F_X7_keep
  simp only [nI_40, if_pos hx4, if_pos hx40, if_pos hx160, hsx, hix, hx2, xlet, ← p2, show 29 + s + 4 = 33 + s by omega]
  by_cases f0 : S (29 + s) 2 = 0
  · simp only [if_pos f0]; exact ⟨_, _, rfl, rfl, fin _⟩
  · simp only [if_neg f0]
    by_cases f1 : S (29 + s) 2 = 1
    · simp only [if_pos f1]; exact ⟨_, _, rfl, rfl, fin _⟩
    · simp only [if_neg f1]; exact ⟨_, _, rfl, rfl, fin _⟩
theorem st_put (hSC : SCok SC) (hWR : WRok WR) : St_put (Inv SC WR) := by
  intro S U x1 x2 x3 x4 hI
  by_cases h1 : F_X6_isSheet x1 = 0
  · exact ⟨-2, S, U, by unfold F_X6_put; rw [if_pos h1], by unfold F_X7_put; rw [isSheet_eq, if_pos h1], hI⟩
  by_cases h2 : F_X6_within x2 0 2 = 0
  · exact ⟨-2, S, U, by unfold F_X6_put; rw [if_neg h1, if_pos h2], by unfold F_X7_put; rw [isSheet_eq, in_within, if_neg h1, if_pos h2], hI⟩
  obtain ⟨s, rfl, hs⟩ := isSheet_n h1
  have hx4 : xin (nI s) 4 = true := xin_nI hs (by decide)
  have hsx : xti (nI s) = s := xti_nI (by omega)
  have hS := hI.2.2.2.2.2.2.2.1
  obtain ⟨e1, e2⟩ := lacks_eq hS hs x2 x3
  unfold F_X6_put F_X7_put
  rw [isSheet_eq, in_within]
  simp only [if_neg h1, if_neg h2, if_pos hx4, hsx, e1, xlet, Option.bind_some]
  rcases e2 with ⟨f0, i, rfl, hi⟩ | f1 | f2 | f3
  · obtain ⟨S', U', g1, g2, hI', -⟩ := keep_eq hSC hWR hI hs hi x4
    rw [f0, if_pos rfl, if_pos (by decide), g1, g2]
    exact ⟨1, S', U', rfl, rfl, hI'⟩
  · obtain ⟨g1, g2, hI'⟩ := finding_step hSC hWR hI 1
    rw [f1, if_neg (by decide), if_neg (by decide), g1, g2]
    exact ⟨_, _, _, rfl, rfl, hI'⟩
  · obtain ⟨g1, g2, hI'⟩ := finding_step hSC hWR hI 2
    rw [f2, if_neg (by decide), if_neg (by decide), g1, g2]
    exact ⟨_, _, _, rfl, rfl, hI'⟩
  · obtain ⟨g1, g2, hI'⟩ := finding_step hSC hWR hI 3
    rw [f3, if_neg (by decide), if_neg (by decide), g1, g2]
    exact ⟨_, _, _, rfl, rfl, hI'⟩
theorem st_get (hSC : SCok SC) (hWR : WRok WR) : St_get (Inv SC WR) := by
  intro S U x1 x2 x3 hI
  by_cases h1 : F_X6_isSheet x1 = 0
  · exact ⟨-2147483648, S, U, by unfold F_X6_get; rw [if_pos h1], by unfold F_X7_get; rw [isSheet_eq, if_pos h1], hI⟩
  by_cases h2 : F_X6_within x2 0 2 = 0
  · exact ⟨-2147483648, S, U, by unfold F_X6_get; rw [if_neg h1, if_pos h2], by unfold F_X7_get; rw [isSheet_eq, in_within, if_neg h1, if_pos h2], hI⟩
  obtain ⟨s, rfl, hs⟩ := isSheet_n h1
  have hx4 : xin (nI s) 4 = true := xin_nI hs (by decide)
  have hsx : xti (nI s) = s := xti_nI (by omega)
  have hS := hI.2.2.2.2.2.2.2.1
  obtain ⟨e1, e2⟩ := lacks_eq hS hs x2 x3
  unfold F_X6_get F_X7_get
  rw [isSheet_eq, in_within]
  simp only [if_neg h1, if_neg h2, if_pos hx4, hsx, e1, xlet, Option.bind_some]
  rcases e2 with ⟨f0, i, rfl, hi⟩ | f1 | f2 | f3
  · rw [f0, if_pos rfl, if_pos (xin_nI hi (by decide)), if_pos (show (0 : Int32) ≤ 0 by decide), nI_40, if_pos (xin_nI (show 40 * s + i < 160 by omega) (by decide)), xti_nI (by omega), xti_nI (by omega), show 29 + s + 4 = 33 + s by omega]
    exact ⟨_, _, _, rfl, by rw [(hS s hs).2.2.2.2.2 i hi], hI⟩
  · rw [f1, if_neg (by decide), if_neg (by decide)]
    exact ⟨_, _, _, rfl, rfl, (finding_step hSC hWR hI 1).2.2⟩
  · rw [f2, if_neg (by decide), if_neg (by decide)]
    exact ⟨_, _, _, rfl, rfl, (finding_step hSC hWR hI 2).2.2⟩
  · rw [f3, if_neg (by decide), if_neg (by decide)]
    exact ⟨_, _, _, rfl, rfl, (finding_step hSC hWR hI 3).2.2⟩
end Ops
