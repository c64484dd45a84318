/-! DIGEST -/
section NH
variable {SC : XSt → Prop} {WR : XSr → Prop}
theorem nearest_hc {S : XSt} {U : XSr} (hI : Inv SC WR S U) {c : Nat} (hc : c < xti (S 1 4)) : ∃ r U', F_X5_mostAlike S (nI c) = some r ∧ F_X7_nearestNow U (nI c) = some (r, U') ∧ Inv SC WR S U' ∧ ∀ g, g < xti (S 1 4) → U'.1 14 g = S 10 g := by
  have hI0 := hI
  obtain ⟨⟨hY1, hY2, hY3, hY4, hY5⟩, hW, hO, hL, hF, hA, hK, hS, hC, hR⟩ := hI
  obtain ⟨U', e1, hI', h14, hq, h2'⟩ := lays_eq hI0
  have hn8 := hY1.2
  have hn : S 1 4 = nI (xti (S 1 4)) := hY1.1
  have hnU : U'.1 0 0 = nI (xti (S 1 4)) := by rw [hq 0 (by decide), ← hY2]; exact hn
  have hw' : wtU U' = wtU U := by unfold wtU; rw [hq 3 (by decide)]
  have hW1' : ∀ k, k < 10 → bd (U'.1 3 k) 3 := fun k hk => by rw [hq 3 (by decide)]; exact hW.1 k hk
  have hc8 : c < 8 := by omega
  obtain ⟨kc, lc⟩ := kinds_bd hF hK hc8
  have xc : xin (nI c) 8 = true := xin_nI hc8 (by decide)
  unfold F_X5_mostAlike F_X7_nearestNow
  rw [e1, Option.bind_some]
  obtain ⟨r1, r2, hr, q1, q2⟩ := xlp_sim (Bd1 := fun k rc t => B_X5_mostAlike_10 S (nI c) k rc t.1 t.2.1 t.2.2.1 t.2.2.2) (k1 := fun e12 => some e12) (Bd2 := fun k rc t => B_X7_nearestNow_14 U' (nI c) k rc t.1 t.2.1 t.2.2.1 t.2.2.2) (k2 := fun e17 => some (e17, U')) (fun m t1 t2 => t1 = t2 ∧ ∃ j, j + m = xti (S 1 4) ∧ t1.2.2.2 = nI j) (fun a b => a = b) (by
    rintro m ⟨y2, y3, y4, y5⟩ t2 rc1 rc2 ⟨rfl, j, hj, hy5⟩
    have hy5 : y5 = nI j := hy5
    subst hy5
    by_cases hjn : j = xti (S 1 4)
    · refine Or.inl ⟨y2, y2, rfl, ?_, ?_⟩
      · show B_X5_mostAlike_10 S (nI c) _ rc1 y2 y3 y4 (nI j) = _
        unfold B_X5_mostAlike_10
        rw [hn, if_pos (by rw [hjn]; exact Int32.le_refl _)]
      · show B_X7_nearestNow_14 U' (nI c) _ rc2 y2 y3 y4 (nI j) = _
        unfold B_X7_nearestNow_14
        rw [hnU, if_pos (by rw [hjn]; exact Int32.le_refl _)]
    · have hj8 : j < 8 := by omega
      have hlt : j < xti (S 1 4) := by omega
      obtain ⟨kj, lj⟩ := kinds_bd hF hK hj8
      have xj : xin (nI j) 8 = true := xin_nI hj8 (by decide)
      obtain ⟨c1, c2⟩ := both_eq hW hF hK hc8 hj8
      have w1 : F_X7_weightOf U' (U'.1 14 j ||| U'.1 14 c) = some (nI (wsum (wtU U) 10 (kdS S c ||| kdS S j))) := by
        rw [h14 j hlt, h14 c hc, kj, kc, nI_or, weightOf_eq hW1' (by have := Nat.or_lt_two_pow lj lc; omega), hw', Nat.or_comm]
      have w2 : F_X7_weightOf U' (U'.1 14 j &&& U'.1 14 c) = some (nI (wsum (wtU U) 10 (kdS S c &&& kdS S j))) := by
        rw [h14 j hlt, h14 c hc, kj, kc, nI_and, weightOf_eq hW1' (by have := Nat.lt_of_le_of_lt (Nat.and_le_left (n := kdS S j) (m := kdS S c)) lj; omega), hw', Nat.and_comm]
      have hle := wt_le hW (kdS S c ||| kdS S j)
      have b1 : ∀ rc : (Int32 × Int32 × Int32 × Int32) → Option Int32, B_X5_mostAlike_10 S (nI c) (fun e12 => some e12) rc y2 y3 y4 (nI j) = (if nI j = nI c then rc (y2, y3, y4, nI (j + 1)) else if nI (wsum (wtU U) 10 (kdS S c ||| kdS S j)) = 0 then rc (y2, y3, y4, nI (j + 1)) else if y2 = -1 then rc (nI j, nI (wsum (wtU U) 10 (kdS S c &&& kdS S j)), nI (wsum (wtU U) 10 (kdS S c ||| kdS S j)), nI (j + 1)) else if nI (wsum (wtU U) 10 (kdS S c &&& kdS S j)) * y4 ≤ y3 * nI (wsum (wtU U) 10 (kdS S c ||| kdS S j)) then rc (y2, y3, y4, nI (j + 1)) else rc (nI j, nI (wsum (wtU U) 10 (kdS S c &&& kdS S j)), nI (wsum (wtU U) 10 (kdS S c ||| kdS S j)), nI (j + 1))) := by
        intro rc
        unfold B_X5_mostAlike_10
        rw [hn, if_neg (nI_ge hlt (by omega)), c2, c1]
        simp only [Option.bind_some, xlet, nI_1]
      have b2 : ∀ rc : (Int32 × Int32 × Int32 × Int32) → Option (Int32 × XSr), B_X7_nearestNow_14 U' (nI c) (fun e17 => some (e17, U')) rc y2 y3 y4 (nI j) = (if nI j = nI c then rc (y2, y3, y4, nI (j + 1)) else if nI (wsum (wtU U) 10 (kdS S c ||| kdS S j)) = 0 then rc (y2, y3, y4, nI (j + 1)) else if y2 = -1 then rc (nI j, nI (wsum (wtU U) 10 (kdS S c &&& kdS S j)), nI (wsum (wtU U) 10 (kdS S c ||| kdS S j)), nI (j + 1)) else if nI (wsum (wtU U) 10 (kdS S c &&& kdS S j)) * y4 ≤ y3 * nI (wsum (wtU U) 10 (kdS S c ||| kdS S j)) then rc (y2, y3, y4, nI (j + 1)) else rc (nI j, nI (wsum (wtU U) 10 (kdS S c &&& kdS S j)), nI (wsum (wtU U) 10 (kdS S c ||| kdS S j)), nI (j + 1))) := by
        intro rc
        unfold B_X7_nearestNow_14
        rw [hnU, if_neg (nI_ge hlt (by omega)), if_pos xj, if_pos xc, xti_nI (by omega), xti_nI (by omega), w1, Option.bind_some, if_pos xj, if_pos xc, w2, Option.bind_some]
        simp only [xlet, nI_1]
        have hz : (nI (wsum (wtU U) 10 (kdS S c ||| kdS S j)) ≤ 0) ↔ (nI (wsum (wtU U) 10 (kdS S c ||| kdS S j)) = 0) := by
          constructor
          · intro h
            have := (nI_leI (a := wsum (wtU U) 10 (kdS S c ||| kdS S j)) (b := 0) (by omega) (by decide)).mp h
            rw [show wsum (wtU U) 10 (kdS S c ||| kdS S j) = 0 by omega]; rfl
          · intro h; rw [h]; decide
        simp only [hz]
      by_cases d1 : nI j = nI c
      · exact Or.inr ⟨m - 1, (y2, y3, y4, nI (j + 1)), (y2, y3, y4, nI (j + 1)), by omega, ⟨rfl, j + 1, by omega, rfl⟩, (by rw [b1, if_pos d1]), (by rw [b2, if_pos d1])⟩
      by_cases d2 : nI (wsum (wtU U) 10 (kdS S c ||| kdS S j)) = 0
      · exact Or.inr ⟨m - 1, (y2, y3, y4, nI (j + 1)), (y2, y3, y4, nI (j + 1)), by omega, ⟨rfl, j + 1, by omega, rfl⟩, (by rw [b1, if_neg d1, if_pos d2]), (by rw [b2, if_neg d1, if_pos d2])⟩
      by_cases d3 : y2 = -1
      · exact Or.inr ⟨m - 1, (nI j, nI (wsum (wtU U) 10 (kdS S c &&& kdS S j)), nI (wsum (wtU U) 10 (kdS S c ||| kdS S j)), nI (j + 1)), (nI j, nI (wsum (wtU U) 10 (kdS S c &&& kdS S j)), nI (wsum (wtU U) 10 (kdS S c ||| kdS S j)), nI (j + 1)), by omega, ⟨rfl, j + 1, by omega, rfl⟩, (by rw [b1, if_neg d1, if_neg d2, if_pos d3]), (by rw [b2, if_neg d1, if_neg d2, if_pos d3])⟩
      by_cases d4 : nI (wsum (wtU U) 10 (kdS S c &&& kdS S j)) * y4 ≤ y3 * nI (wsum (wtU U) 10 (kdS S c ||| kdS S j))
      · exact Or.inr ⟨m - 1, (y2, y3, y4, nI (j + 1)), (y2, y3, y4, nI (j + 1)), by omega, ⟨rfl, j + 1, by omega, rfl⟩, (by rw [b1, if_neg d1, if_neg d2, if_neg d3, if_pos d4]), (by rw [b2, if_neg d1, if_neg d2, if_neg d3, if_pos d4])⟩
      · exact Or.inr ⟨m - 1, (nI j, nI (wsum (wtU U) 10 (kdS S c &&& kdS S j)), nI (wsum (wtU U) 10 (kdS S c ||| kdS S j)), nI (j + 1)), (nI j, nI (wsum (wtU U) 10 (kdS S c &&& kdS S j)), nI (wsum (wtU U) 10 (kdS S c ||| kdS S j)), nI (j + 1)), by omega, ⟨rfl, j + 1, by omega, rfl⟩, (by rw [b1, if_neg d1, if_neg d2, if_neg d3, if_neg d4]), (by rw [b2, if_neg d1, if_neg d2, if_neg d3, if_neg d4])⟩) (xti (S 1 4)) ((-1), 0, 1, 0) ((-1), 0, 1, 0) ⟨rfl, 0, by omega, rfl⟩ XFU XFU (by rw [XFU_eq]; omega) (by rw [XFU_eq]; omega)
  rw [q1, q2, hr]
  exact ⟨r2, U', rfl, rfl, hI', h14⟩
end NH
theorem dgA {S : XSt} {U : XSr} (hI : IX S U) (K1 : Int64 → Option (Int64 × XSt)) (K2 : Int64 × XSr → Option (Int64 × XSr)) : ∃ (h : Int64) (U' : XSr), xlp (fun k rc t => B_X6_digest_6 S k rc t.1 t.2) K1 XFU (17, 0) = K1 h ∧ xlp (fun k rc t => B_X7_digest_6 k rc t.1 t.2.1 t.2.2) K2 XFU (17, 0, U) = K2 (h, U') ∧ IX S U' := by
  obtain ⟨E1, E2, hE, r1, r2⟩ := xlp_sim (Bd1 := fun k rc t => B_X6_digest_6 S k rc t.1 t.2) (k1 := K1) (Bd2 := fun k rc t => B_X7_digest_6 k rc t.1 t.2.1 t.2.2) (k2 := K2)
    (fun m t1 t2 => ∃ (j : Nat) (h : Int64) (V : XSr), j + m = 8 ∧ t1 = (h, nI j) ∧ t2 = (h, nI j, V) ∧ IX S V) (fun E1 E2 => E2.1 = E1 ∧ IX S E2.2) (by
      intro m t1 t2 rc1 rc2 ht
      obtain ⟨j, h, V, hj, rfl, rfl, hV⟩ := ht
      by_cases he : j = 8
      · left
        refine ⟨h, (h, V), ⟨rfl, hV⟩, ?_, ?_⟩
        · show B_X6_digest_6 S K1 rc1 h (nI j) = _
          unfold B_X6_digest_6
          rw [he, if_pos (show (8 : Int32) ≤ nI 8 by decide)]
        · show B_X7_digest_6 K2 rc2 h (nI j) V = _
          unfold B_X7_digest_6
          rw [he, if_pos (show (8 : Int32) ≤ nI 8 by decide)]
      · right
        obtain ⟨r, V', e1, e2, hV'⟩ := st_count SCok_x WRok_x S V (nI j) hV
        refine ⟨m - 1, ((31 : Int64) * h + r.toInt64, nI (j + 1)), ((31 : Int64) * h + r.toInt64, nI (j + 1), V'), by omega, ⟨j + 1, _, V', by omega, rfl, rfl, hV'⟩, ?_, ?_⟩
        · show B_X6_digest_6 S K1 rc1 h (nI j) = _
          unfold B_X6_digest_6
          rw [if_neg (show ¬ (8 : Int32) ≤ nI j from nI_ge (b := 8) (by omega) (by decide)), e1, Option.bind_some, xlet_eq, xlet_eq, nI_1]
        · show B_X7_digest_6 K2 rc2 h (nI j) V = _
          unfold B_X7_digest_6
          rw [if_neg (show ¬ (8 : Int32) ≤ nI j from nI_ge (b := 8) (by omega) (by decide)), e2, Option.bind_some, xlet_eq, xlet_eq, nI_1]) 8 (17, 0) (17, 0, U) ⟨0, 17, U, rfl, rfl, rfl, hI⟩ XFU XFU (by rw [XFU_eq]; omega) (by rw [XFU_eq]; omega)
  refine ⟨E1, E2.2, r1, ?_, hE.2⟩
  rw [r2, ← hE.1]
theorem DG.n {P : Pb} {S : XSt} {U : XSr} (h : DG P S U) : xti (S 1 4) = P.n := by rw [← h.2.1]; rfl
theorem dgRound {P : Pb} {S : XSt} {U : XSr} (hD : DG P S U) {j : Nat} (hj : j < P.n) : ∃ (r1 r2 r3 r4 r5 : Int32) (S1 S2 S3 S4 : XSt) (U1 U2 U3 U4 U5 : XSr), F_X6_has S (nI j) = some (U.1 14 j) ∧ F_X6_first S (nI j) = some (r1, S1) ∧ F_X7_firstNow U (nI j) = some (r1, U1) ∧ F_X6_places S1 (nI j) = some (r2, S2) ∧ F_X7_placesNow U1 (nI j) = some (r2, U2) ∧ F_X6_years S2 0 (nI j) 0 = some (r3, S3) ∧ F_X7_graveYear U2 (nI j) 0 = some (r3, U3) ∧ F_X6_years S3 0 (nI j) 1 = some (r4, S4) ∧ F_X7_graveYear U3 (nI j) 1 = some (r4, U4) ∧ F_X6_nearest S4 (nI j) = some r5 ∧ F_X7_nearestNow U4 (nI j) = some (r5, U5) ∧ DG P S4 U5 := by
  have hnS := hD.n
  have hn8 := hD.1.1.1.2
  obtain ⟨r1, S1, U1, a1, a2, a3⟩ := first_now hD.1 (x := nI j) (nI_pos' (by omega))
  rw [hD.2.1] at a3
  obtain ⟨r2, S2, U2, b1, b2, b3⟩ := places_now a3.1 (g := j) (by rw [a3.dg.n]; exact hj)
  rw [a3.dg.2.1] at b3
  obtain ⟨r3, S3, U3, c1, c2, c3⟩ := gyear_now b3.1 (g := j) (e := 0) (by rw [b3.dg.n]; exact hj) (by omega)
  rw [b3.dg.2.1] at c3
  obtain ⟨r4, S4, U4, d1, d2, d3⟩ := gyear_now c3.1 (g := j) (e := 1) (by rw [c3.dg.n]; exact hj) (by omega)
  rw [c3.dg.2.1] at d3
  obtain ⟨r5, U5, n1, n2, n3, n4⟩ := nearest_hc d3.1 (c := j) (by rw [d3.dg.n]; exact hj)
  rw [nI_0] at c1 c2
  refine ⟨r1, r2, r3, r4, r5, S1, S2, S3, S4, U1, U2, U3, U4, U5, ?_, a1, a2, b1, b2, c1, c2, d1, d2, ?_, n2, n3, d3.dg.2.1, n4⟩
  · unfold F_X6_has
    rw [if_neg (isGrave_y hD.1.1.1 (by omega)), if_pos (xin_nI (by omega) (by decide)), xti_nI (by omega), hD.2.2 j (by omega)]
  · unfold F_X6_nearest
    rw [if_neg (isGrave_y d3.1.1.1 (by rw [d3.dg.n]; exact hj)), n1]; rfl
theorem dgD {P : Pb} {S : XSt} {U : XSr} (hD : DG P S U) (h0 : Int64) (K1 : Int64 × XSt → Option (Int64 × XSt)) (K2 : Int64 × XSr → Option (Int64 × XSr)) : ∃ (h : Int64) (S' : XSt) (U' : XSr), xlp (fun k rc t => B_X6_digestOfGraves_5 k rc t.1 t.2.1 t.2.2) K1 XFU (h0, 0, S) = K1 (h, S') ∧ xlp (fun k rc t => B_X7_digest_49 k rc t.1 t.2.1 t.2.2) K2 XFU (h0, 0, U) = K2 (h, U') ∧ DG P S' U' := by
  have hn8 : P.n ≤ 8 := by rw [← hD.n]; exact hD.1.1.1.2
  obtain ⟨E1, E2, hE, r1, r2⟩ := xlp_sim (Bd1 := fun k rc t => B_X6_digestOfGraves_5 k rc t.1 t.2.1 t.2.2) (k1 := K1) (Bd2 := fun k rc t => B_X7_digest_49 k rc t.1 t.2.1 t.2.2) (k2 := K2)
    (fun m t1 t2 => ∃ (j : Nat) (h : Int64) (X : XSt) (V : XSr), j + m = P.n ∧ t1 = (h, nI j, X) ∧ t2 = (h, nI j, V) ∧ DG P X V) (fun E1 E2 => E2.1 = E1.1 ∧ DG P E1.2 E2.2) (by
      intro m t1 t2 rc1 rc2 ht
      obtain ⟨j, h, X, V, hj, rfl, rfl, hV⟩ := ht
      have x14 : X 1 4 = nI P.n := by rw [← hV.n]; exact hV.1.1.1.1
      have v00 : V.1 0 0 = nI P.n := by rw [← hV.1.1.2.1]; exact x14
      by_cases he : j = P.n
      · left
        refine ⟨(h, X), (h, V), ⟨rfl, hV⟩, ?_, ?_⟩
        · show B_X6_digestOfGraves_5 K1 rc1 h (nI j) X = _
          unfold B_X6_digestOfGraves_5
          rw [x14, he, if_pos ((nI_leI (by omega) (by omega)).mpr (Nat.le_refl _))]
        · show B_X7_digest_49 K2 rc2 h (nI j) V = _
          unfold B_X7_digest_49
          rw [v00, he, if_pos ((nI_leI (by omega) (by omega)).mpr (Nat.le_refl _))]
      · right
        obtain ⟨r1, r2, r3, r4, r5, S1, S2, S3, S4, U1, U2, U3, U4, U5, q0, a1, a2, b1, b2, c1, c2, d1, d2, n1, n2, hD'⟩ := dgRound hV (j := j) (by omega)
        refine ⟨m - 1, ((31 : Int64) * ((31 : Int64) * ((31 : Int64) * ((31 : Int64) * ((31 : Int64) * ((31 : Int64) * h + (V.1 14 j).toInt64) + r1.toInt64) + r2.toInt64) + r3.toInt64) + r4.toInt64) + r5.toInt64, nI (j + 1), S4), ((31 : Int64) * ((31 : Int64) * ((31 : Int64) * ((31 : Int64) * ((31 : Int64) * ((31 : Int64) * h + (V.1 14 j).toInt64) + r1.toInt64) + r2.toInt64) + r3.toInt64) + r4.toInt64) + r5.toInt64, nI (j + 1), U5), by omega, ⟨j + 1, _, S4, U5, by omega, rfl, rfl, hD'⟩, ?_, ?_⟩
        · show B_X6_digestOfGraves_5 K1 rc1 h (nI j) X = _
          unfold B_X6_digestOfGraves_5
          rw [x14, if_neg (fun q => absurd ((nI_leI (by omega) (by omega)).mp q) (by omega)), q0, Option.bind_some, xlet_eq, a1, Option.bind_some, xlet_eq, b1, Option.bind_some, xlet_eq, c1, Option.bind_some, xlet_eq, d1, Option.bind_some, xlet_eq, n1, Option.bind_some, xlet_eq, xlet_eq, nI_1]
        · show B_X7_digest_49 K2 rc2 h (nI j) V = _
          unfold B_X7_digest_49
          rw [v00, if_neg (fun q => absurd ((nI_leI (by omega) (by omega)).mp q) (by omega)), if_pos (xin_nI (by omega) (by decide)), xti_nI (by omega), xlet_eq, a2, Option.bind_some, xlet_eq, b2, Option.bind_some, xlet_eq, c2, Option.bind_some, xlet_eq, d2, Option.bind_some, xlet_eq, n2, Option.bind_some, xlet_eq, xlet_eq, nI_1]) P.n (h0, 0, S) (h0, 0, U) ⟨0, h0, S, U, by omega, rfl, rfl, hD⟩ XFU XFU (by rw [XFU_eq]; omega) (by rw [XFU_eq]; omega)
  refine ⟨E1.1, E1.2, E2.2, r1, ?_, hE.2⟩
  rw [r2, ← hE.1]
theorem dgB {P : Pb} {S : XSt} {U : XSr} (hD : DG P S U) (h0 : Int64) (K1 : Int64 × XSt → Option (Int64 × XSt)) (K2 : Int64 × XSr → Option (Int64 × XSr)) : ∃ (h : Int64) (S' : XSt) (U' : XSr), xlp (fun k rc t => B_X6_digestOfOrders_5 k rc t.1 t.2.1 t.2.2) K1 XFU (h0, 0, S) = K1 (h, S') ∧ xlp (fun k rc t => B_X7_digest_146 k rc t.1 t.2.1 t.2.2) K2 XFU (h0, 0, U) = K2 (h, U') ∧ DG P S' U' := by
  obtain ⟨E1, E2, hE, r1, r2⟩ := xlp_sim (Bd1 := fun k rc t => B_X6_digestOfOrders_5 k rc t.1 t.2.1 t.2.2) (k1 := K1) (Bd2 := fun k rc t => B_X7_digest_146 k rc t.1 t.2.1 t.2.2) (k2 := K2)
    (fun m t1 t2 => ∃ (j : Nat) (h : Int64) (X : XSt) (V : XSr), j + m = 3 ∧ t1 = (h, nI j, X) ∧ t2 = (h, nI j, V) ∧ DG P X V) (fun E1 E2 => E2.1 = E1.1 ∧ DG P E1.2 E2.2) (by
      intro m t1 t2 rc1 rc2 ht
      obtain ⟨j, h, X, V, hj, rfl, rfl, hV⟩ := ht
      by_cases he : j = 3
      · left
        refine ⟨(h, X), (h, V), ⟨rfl, hV⟩, ?_, ?_⟩
        · show B_X6_digestOfOrders_5 K1 rc1 h (nI j) X = _
          unfold B_X6_digestOfOrders_5
          rw [he, if_pos (show (3 : Int32) ≤ nI 3 by decide)]
        · show B_X7_digest_146 K2 rc2 h (nI j) V = _
          unfold B_X7_digest_146
          rw [he, if_pos (show (3 : Int32) ≤ nI 3 by decide)]
      · right
        have hw : ¬ F_X6_within (nI j) 0 2 = 0 := within_1.mpr ⟨nI_pos' (by omega), show nI j ≤ nI 2 from (nI_leI (by omega) (by decide)).mpr (by omega)⟩
        obtain ⟨r, X', V', e1, e2, hF⟩ := best_now hV.1 hw
        rw [hV.2.1] at hF
        refine ⟨m - 1, ((31 : Int64) * h + r.toInt64, nI (j + 1), X'), ((31 : Int64) * h + r.toInt64, nI (j + 1), V'), by omega, ⟨j + 1, _, X', V', by omega, rfl, rfl, hF.dg⟩, ?_, ?_⟩
        · show B_X6_digestOfOrders_5 K1 rc1 h (nI j) X = _
          unfold B_X6_digestOfOrders_5
          rw [if_neg (show ¬ (3 : Int32) ≤ nI j from nI_ge (b := 3) (by omega) (by decide)), e1, Option.bind_some, xlet_eq, xlet_eq, nI_1]
        · show B_X7_digest_146 K2 rc2 h (nI j) V = _
          unfold B_X7_digest_146
          rw [if_neg (show ¬ (3 : Int32) ≤ nI j from nI_ge (b := 3) (by omega) (by decide)), e2, Option.bind_some, xlet_eq, xlet_eq, nI_1]) 3 (h0, 0, S) (h0, 0, U) ⟨0, h0, S, U, by omega, rfl, rfl, hD⟩ XFU XFU (by rw [XFU_eq]; omega) (by rw [XFU_eq]; omega)
  refine ⟨E1.1, E1.2, E2.2, r1, ?_, hE.2⟩
  rw [r2, ← hE.1]
theorem dgM {S : XSt} {U : XSr} (hD : IX S U) (h0 : Int64) (K1 : Int64 × XSt → Option (Int64 × XSt)) (K2 : Int64 × XSr → Option (Int64 × XSr)) : ∃ (h : Int64) (S' : XSt) (U' : XSr), xlp (fun k rc t => B_X6_digest_55 k rc t.1 t.2.1 t.2.2) K1 XFU (h0, 0, S) = K1 (h, S') ∧ xlp (fun k rc t => B_X7_digest_236 k rc t.1 t.2.1 t.2.2) K2 XFU (h0, 0, U) = K2 (h, U') ∧ IX S' U' := by
  obtain ⟨E1, E2, hE, r1, r2⟩ := xlp_sim (Bd1 := fun k rc t => B_X6_digest_55 k rc t.1 t.2.1 t.2.2) (k1 := K1) (Bd2 := fun k rc t => B_X7_digest_236 k rc t.1 t.2.1 t.2.2) (k2 := K2)
    (fun m t1 t2 => ∃ (j : Nat) (h : Int64) (X : XSt) (V : XSr), j + m = 10 ∧ t1 = (h, nI j, X) ∧ t2 = (h, nI j, V) ∧ IX X V) (fun E1 E2 => E2.1 = E1.1 ∧ IX E1.2 E2.2) (by
      intro m t1 t2 rc1 rc2 ht
      obtain ⟨j, h, X, V, hj, rfl, rfl, hV⟩ := ht
      by_cases he : j = 10
      · left
        refine ⟨(h, X), (h, V), ⟨rfl, hV⟩, ?_, ?_⟩
        · show B_X6_digest_55 K1 rc1 h (nI j) X = _
          unfold B_X6_digest_55
          rw [he, if_pos (show (10 : Int32) ≤ nI 10 by decide)]
        · show B_X7_digest_236 K2 rc2 h (nI j) V = _
          unfold B_X7_digest_236
          rw [he, if_pos (show (10 : Int32) ≤ nI 10 by decide)]
      · right
        obtain ⟨r, X', V', e1, e2, hF⟩ := mended_now hV (k := j) (by omega)
        refine ⟨m - 1, ((31 : Int64) * h + r.toInt64, nI (j + 1), X'), ((31 : Int64) * h + r.toInt64, nI (j + 1), V'), by omega, ⟨j + 1, _, X', V', by omega, rfl, rfl, hF.1⟩, ?_, ?_⟩
        · show B_X6_digest_55 K1 rc1 h (nI j) X = _
          unfold B_X6_digest_55
          rw [if_neg (show ¬ (10 : Int32) ≤ nI j from nI_ge (b := 10) (by omega) (by decide)), e1, Option.bind_some, xlet_eq, xlet_eq, nI_1]
        · show B_X7_digest_236 K2 rc2 h (nI j) V = _
          unfold B_X7_digest_236
          rw [if_neg (show ¬ (10 : Int32) ≤ nI j from nI_ge (b := 10) (by omega) (by decide)), e2, Option.bind_some, xlet_eq, xlet_eq, nI_1]) 10 (h0, 0, S) (h0, 0, U) ⟨0, h0, S, U, by omega, rfl, rfl, hD⟩ XFU XFU (by rw [XFU_eq]; omega) (by rw [XFU_eq]; omega)
  refine ⟨E1.1, E1.2, E2.2, r1, ?_, hE.2⟩
  rw [r2, ← hE.1]
theorem st_digest : St_digest IX := by
  intro S U hI
  unfold F_X6_digest F_X7_digest
  obtain ⟨h1, V1, a1, a2, hI1⟩ := dgA hI (fun e4 => ((F_X6_fault S).bind fun z5 => (xlet (((31 : Int64) * e4) + ((z5).toInt64)) fun v1_6 => ((F_X6_digestOfGraves S v1_6).bind fun z7 => ((F_X6_digestOfOrders z7.2 z7.1).bind fun z8 => (xlet z8.1 fun v1_9 => (xlp (fun k rc t => B_X6_digest_55   k rc t.1 t.2.1 t.2.2) (fun e13 => (some (e13.1, e13.2))) XFU (v1_9, 0, z8.2)))))))) (fun e4 => ((F_X7_faultNow e4.2).bind fun z5 => (xlet (((31 : Int64) * e4.1) + ((z5.1).toInt64)) fun v1_6 => ((F_X7_lays z5.2).bind fun z7 => (xlp (fun k rc t => B_X7_digest_49   k rc t.1 t.2.1 t.2.2) (fun e21 => (xlp (fun k rc t => B_X7_digest_146   k rc t.1 t.2.1 t.2.2) (fun e25 => ((F_X7_spreadNow e25.2 0 1).bind fun z26 => (xlet (((31 : Int64) * e25.1) + ((z26.1).toInt64)) fun v1_27 => ((F_X7_meanNow z26.2 0).bind fun z28 => (xlet (((31 : Int64) * v1_27) + z28.1) fun v1_29 => ((F_X7_meanNow z28.2 1).bind fun z30 => (xlet (((31 : Int64) * v1_29) + z30.1) fun v1_31 => ((F_X7_leftNow z30.2).bind fun z32 => (xlet (((31 : Int64) * v1_31) + ((z32.1).toInt64)) fun v1_33 => ((F_X7_phasesNow z32.2 2 (-1)).bind fun z34 => (xlet (((31 : Int64) * v1_33) + ((z34.1).toInt64)) fun v1_35 => (xlp (fun k rc t => B_X7_digest_236   k rc t.1 t.2.1 t.2.2) (fun e39 => (some (e39.1, e39.2))) XFU (v1_35, 0, z34.2))))))))))))) XFU (e21.1, 0, e21.2))) XFU (v1_6, 0, z7))))))
  rw [a1, a2]
  obtain ⟨rf, f1, f2, hI2, -⟩ := line_eq WRok_x hI1
  have f1' : F_X6_fault S = some rf.1 := by unfold F_X6_fault; rw [f1]; rfl
  obtain ⟨V2, l1, hI3, l3, l4, l5⟩ := lays_eq hI2
  have hD3 : DG (pbS S) S V2 := ⟨hI3, rfl, l3⟩
  rw [f1', Option.bind_some, xlet_eq]
  have ff2 : F_X7_faultNow (h1, V1).2 = some rf := f2
  rw [ff2, Option.bind_some, xlet_eq, l1, Option.bind_some]
  obtain ⟨h2, S2, U2, d1, d2, hD2⟩ := dgD hD3 ((31 : Int64) * h1 + rf.1.toInt64) (fun e14 => (some (e14.1, e14.2))) (fun e21 => (xlp (fun k rc t => B_X7_digest_146   k rc t.1 t.2.1 t.2.2) (fun e25 => ((F_X7_spreadNow e25.2 0 1).bind fun z26 => (xlet (((31 : Int64) * e25.1) + ((z26.1).toInt64)) fun v1_27 => ((F_X7_meanNow z26.2 0).bind fun z28 => (xlet (((31 : Int64) * v1_27) + z28.1) fun v1_29 => ((F_X7_meanNow z28.2 1).bind fun z30 => (xlet (((31 : Int64) * v1_29) + z30.1) fun v1_31 => ((F_X7_leftNow z30.2).bind fun z32 => (xlet (((31 : Int64) * v1_31) + ((z32.1).toInt64)) fun v1_33 => ((F_X7_phasesNow z32.2 2 (-1)).bind fun z34 => (xlet (((31 : Int64) * v1_33) + ((z34.1).toInt64)) fun v1_35 => (xlp (fun k rc t => B_X7_digest_236   k rc t.1 t.2.1 t.2.2) (fun e39 => (some (e39.1, e39.2))) XFU (v1_35, 0, z34.2))))))))))))) XFU (e21.1, 0, e21.2)))
  have D1 : F_X6_digestOfGraves S ((31 : Int64) * h1 + rf.1.toInt64) = some (h2, S2) := d1
  rw [D1, Option.bind_some, d2]
  obtain ⟨h3, S3, U3, b1, b2, hD4⟩ := dgB hD2 h2 (fun e4 => ((F_X6_spread e4.2 0 1).bind fun z5 => (xlet (((31 : Int64) * e4.1) + ((z5.1).toInt64)) fun v3_6 => ((F_X6_mean z5.2 0).bind fun z7 => (xlet (((31 : Int64) * v3_6) + z7.1) fun v3_8 => ((F_X6_mean z7.2 1).bind fun z9 => (xlet (((31 : Int64) * v3_8) + z9.1) fun v3_10 => ((F_X6_leftOut z9.2).bind fun z11 => (xlet (((31 : Int64) * v3_10) + ((z11.1).toInt64)) fun v3_12 => ((F_X6_phases z11.2 2 (-1)).bind fun z13 => (some ((((31 : Int64) * v3_12) + ((z13.1).toInt64)), z13.2)))))))))))) (fun e25 => ((F_X7_spreadNow e25.2 0 1).bind fun z26 => (xlet (((31 : Int64) * e25.1) + ((z26.1).toInt64)) fun v1_27 => ((F_X7_meanNow z26.2 0).bind fun z28 => (xlet (((31 : Int64) * v1_27) + z28.1) fun v1_29 => ((F_X7_meanNow z28.2 1).bind fun z30 => (xlet (((31 : Int64) * v1_29) + z30.1) fun v1_31 => ((F_X7_leftNow z30.2).bind fun z32 => (xlet (((31 : Int64) * v1_31) + ((z32.1).toInt64)) fun v1_33 => ((F_X7_phasesNow z32.2 2 (-1)).bind fun z34 => (xlet (((31 : Int64) * v1_33) + ((z34.1).toInt64)) fun v1_35 => (xlp (fun k rc t => B_X7_digest_236   k rc t.1 t.2.1 t.2.2) (fun e39 => (some (e39.1, e39.2))) XFU (v1_35, 0, z34.2)))))))))))))
  have B2 : F_X6_digestOfOrders (h2, S2).2 (h2, S2).1 = _ := b1
  rw [B2]
  have B3 := b2
  obtain ⟨s5, S5, U5, p1, p2, hF5⟩ := spread_now hD4.1 (x := 0) (by omega) (y := 1) (by decide)
  rw [nI_0] at p1 p2
  rw [hD4.2.1] at hF5
  obtain ⟨s6, S6, U6, q1, q2, hF6⟩ := mean_now hF5.1 (x := 0) (by decide)
  obtain ⟨s7, S7, U7, t1, t2, hF7⟩ := mean_now hF6.1 (x := 1) (by decide)
  obtain ⟨s8, S8, U8, u1, u2, hF8⟩ := left_now hF7.1
  obtain ⟨s9, S9, U9, w1, w2, hF9⟩ := phases_now hF8.1 (m := 1) (by omega) (x2 := -1) (Or.inl rfl)
  have w1' : F_X6_phases S8 2 (-1) = some (s9, S9) := w1
  have w2' : F_X7_phasesNow U8 2 (-1) = some (s9, U9) := w2
  obtain ⟨h10, S10, U10, m1, m2, hI10⟩ := dgM hF9.1 ((31 : Int64) * ((31 : Int64) * ((31 : Int64) * ((31 : Int64) * ((31 : Int64) * h3 + s5.toInt64) + s6) + s7) + s8.toInt64) + s9.toInt64) (fun e13 => (some (e13.1, e13.2))) (fun e39 => (some (e39.1, e39.2)))
  refine ⟨h10, S10, U10, ?_, ?_, hI10⟩
  · show Option.bind (Option.bind (F_X6_spread S3 0 1) _) _ = _
    rw [p1, Option.bind_some, xlet_eq, q1, Option.bind_some, xlet_eq, t1, Option.bind_some, xlet_eq, u1, Option.bind_some, xlet_eq, w1', Option.bind_some, Option.bind_some, xlet_eq]
    exact m1
  · refine Eq.trans B3 ?_
    show Option.bind (F_X7_spreadNow U3 0 1) _ = _
    rw [p2, Option.bind_some, xlet_eq, q2, Option.bind_some, xlet_eq, t2, Option.bind_some, xlet_eq, u2, Option.bind_some, xlet_eq, w2', Option.bind_some, xlet_eq]
    exact m2
