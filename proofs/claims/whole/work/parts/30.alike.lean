theorem gcd_step (a b : Nat) : Nat.gcd a b = Nat.gcd b (a % b) := by
  rw [Nat.gcd_comm a b, Nat.gcd_rec b a, Nat.gcd_comm]
theorem half_mod {a b : Nat} (hb : 0 < b) (h : b ≤ a) : 2 * (a % b) < a := by
  have h1 := Nat.mod_lt a hb
  have h2 : a % b ≤ a - b := by
    rw [Nat.mod_eq_sub_mod h]; exact Nat.mod_le _ _
  omega
theorem commonDivisor_eq (S : XSt) {a b : Nat} (ha : a < 2 ^ 31) (hb : b < 2 ^ 31) (hab : a * b < 2 ^ 40) : F_X6_commonDivisor S (nI a) (nI b) = some (nI (Nat.gcd a b)) := by
  unfold F_X6_commonDivisor
  obtain ⟨e, he, h1⟩ := xlp_for (Bd := fun k rc t => B_X6_commonDivisor_7 S k rc t.1 t.2.1 t.2.2) (k := fun e4 => some e4) (fun m t => ∃ x y st e, t = (nI x, nI y, nI st) ∧ Nat.gcd x y = Nat.gcd a b ∧ x < 2 ^ 31 ∧ y < 2 ^ 31 ∧ x * y < 2 ^ e ∧ ((y ≤ x ∧ st + e ≤ 48) ∨ (x < y ∧ st + e ≤ 47)) ∧ m + st = 50) (fun e => e = nI (Nat.gcd a b)) (by
    intro m t rc ht
    obtain ⟨x, y, st, e, rfl, hg, hx, hy, hxy, hor, hm⟩ := ht
    have hst : st ≤ 48 := by omega
    by_cases hy0 : y = 0
    · refine Or.inl ⟨nI x, by rw [← hg, hy0, Nat.gcd_zero_right], ?_⟩
      show B_X6_commonDivisor_7 S _ rc (nI x) (nI y) (nI st) = _
      unfold B_X6_commonDivisor_7
      rw [if_neg (show ¬ (50 : Int32) ≤ nI st from nI_ge (b := 50) (by omega) (by decide)), if_pos (by rw [hy0]; rfl)]
    · have hne : ¬ nI y = 0 := nI_ne0 (by omega) hy
      have hmod := Nat.mod_lt x (show y > 0 by omega)
      refine Or.inr ⟨m - 1, (nI y, nI (x % y), nI (st + 1)), by omega, ?_, ?_⟩
      · rcases hor with ⟨h1, h2⟩ | ⟨h1, h2⟩
        · have hhalf := half_mod (show 0 < y by omega) h1
          have he1 : 1 ≤ e := by
            rcases Nat.eq_zero_or_pos e with q | q
            · exfalso
              rw [q] at hxy
              have : 1 ≤ x * y := Nat.mul_pos (by omega) (by omega)
              omega
            · exact q
          refine ⟨y, x % y, st + 1, e - 1, rfl, by rw [← hg, ← gcd_step], hy, by omega, ?_, Or.inl ⟨by omega, by omega⟩, by omega⟩
          have h3 : 2 * (y * (x % y)) ≤ y * x := by
            rw [show 2 * (y * (x % y)) = y * (2 * (x % y)) by rw [Nat.mul_left_comm]]
            exact Nat.mul_le_mul_left y (by omega)
          have h4 : 2 ^ e = 2 * 2 ^ (e - 1) := by
            rw [show e = (e - 1) + 1 by omega, Nat.pow_succ, Nat.mul_comm]; simp
          rw [Nat.mul_comm x y] at hxy
          omega
        · have e1 : x % y = x := Nat.mod_eq_of_lt h1
          refine ⟨y, x % y, st + 1, e, rfl, by rw [← hg, ← gcd_step], hy, by omega, by rw [e1, Nat.mul_comm]; exact hxy, Or.inl ⟨by omega, by omega⟩, by omega⟩
      · show B_X6_commonDivisor_7 S _ rc (nI x) (nI y) (nI st) = _
        unfold B_X6_commonDivisor_7
        rw [if_neg (show ¬ (50 : Int32) ≤ nI st from nI_ge (b := 50) (by omega) (by decide)), if_neg hne, if_pos hne]
        simp only [xlet]
        rw [pk_rem hx (by omega) hy, nI_1]) (m := 50) (t := (nI a, nI b, 0)) ⟨a, b, 0, 40, rfl, rfl, ha, hb, hab, by omega, rfl⟩ (n := XFU) (by rw [XFU_eq]; omega)
  rw [h1, he]
theorem inLowest_eq (S : XSt) {a b : Nat} (ha : a < 2 ^ 31) (hb : b < 2 ^ 31) (hb0 : 0 < b) (hab : a * b < 2 ^ 40) (x : Int32) : F_X6_inLowestTerms S (nI a) (nI b) x = some (lN (if x = 0 then a / Nat.gcd a b else b / Nat.gcd a b)) := by
  unfold F_X6_inLowestTerms
  rw [commonDivisor_eq S ha hb hab, Option.bind_some]
  have hg0 : 0 < Nat.gcd a b := Nat.gcd_pos_of_pos_right _ hb0
  have hgb : Nat.gcd a b ≤ b := Nat.gcd_le_right _ hb0
  have hmax : xmax 1 (nI (Nat.gcd a b)) = nI (Nat.gcd a b) := by
    unfold xmax
    by_cases h : (1 : Int32) < nI (Nat.gcd a b)
    · rw [if_pos h]
    · rw [if_neg h]
      have : Nat.gcd a b = 1 := by
        rcases Nat.lt_or_ge 1 (Nat.gcd a b) with q | q
        · exact absurd (show nI 1 < nI (Nat.gcd a b) from nI_lt q (by omega)) h
        · omega
      rw [this]; rfl
  simp only [xlet]
  rw [hmax]
  have hne : ¬ nI (Nat.gcd a b) = 0 := nI_ne0 hg0 (by omega)
  rw [if_pos hne, if_pos hne, pk_div ha hg0 (by omega), pk_div hb hg0 (by omega)]
  have h1 : a / Nat.gcd a b < 2 ^ 31 := Nat.lt_of_le_of_lt (Nat.div_le_self _ _) ha
  have h2 : b / Nat.gcd a b < 2 ^ 31 := Nat.lt_of_le_of_lt (Nat.div_le_self _ _) hb
  rw [nI_l h1, nI_l h2]
  by_cases hx : x = 0
  · rw [if_pos hx, if_pos hx]
  · rw [if_neg hx, if_neg hx]
theorem lowest_eq (U : XSr) {a b : Nat} (ha : a < 2 ^ 63) (hb : b < 99999) (hb0 : 0 < b) (x : Int32) : F_X7_lowest U (lN a) (lN b) x = some (lN (if x = 0 then a / Nat.gcd a b else b / Nat.gcd a b)) := by
  unfold F_X7_lowest
  obtain ⟨e, he, h1⟩ := xlp_for (Bd := fun k rc t => B_X7_lowest_6 U (lN a) (lN b) x k rc t.1 t.2) (k := fun e3 => (if x = 0 then (if ¬ e3 = 0 then (some (lN a / e3)) else none) else (if ¬ e3 = 0 then (some (lN b / e3)) else none))) (fun m t => ∃ y, t = (lN y, lN m) ∧ Nat.gcd y m = Nat.gcd a b ∧ y < 2 ^ 63 ∧ m < 99999) (fun e => e = lN (Nat.gcd a b)) (by
    intro m t rc ht
    obtain ⟨y, rfl, hg, hy, hm⟩ := ht
    have hz : (lg_cmp (lN m) (0 : Int64) = 0) ↔ m = 0 := by
      have : (lN m = (0 : Int64)) ↔ m = 0 := pk_lEQ (a := m) (b := 0) (by omega) (by decide)
      unfold lg_cmp
      constructor
      · intro h
        by_cases h1 : lN m > 0
        · rw [if_pos h1] at h; exact absurd h (by decide)
        · rw [if_neg h1] at h
          by_cases h2 : lN m = 0
          · exact this.mp h2
          · rw [if_neg h2] at h; exact absurd h (by decide)
      · intro h; subst h; decide
    by_cases h0 : m = 0
    · refine Or.inl ⟨lN y, by rw [← hg, h0, Nat.gcd_zero_right], ?_⟩
      show B_X7_lowest_6 U (lN a) (lN b) x _ rc (lN y) (lN m) = _
      unfold B_X7_lowest_6
      rw [if_pos (hz.mpr h0)]
    · have hne : ¬ lN m = 0 := fun h => h0 ((pk_lEQ (a := m) (b := 0) (by omega) (by decide)).mp h)
      have hmod := Nat.mod_lt y (show m > 0 by omega)
      refine Or.inr ⟨y % m, (lN m, lN (y % m)), hmod, ⟨m, rfl, by rw [← hg, ← gcd_step], by omega, by omega⟩, ?_⟩
      show B_X7_lowest_6 U (lN a) (lN b) x _ rc (lN y) (lN m) = _
      unfold B_X7_lowest_6
      rw [if_neg (fun h => h0 (hz.mp h)), if_pos hne]
      simp only [xlet]
      rw [pk_lRem hy (by omega) (by omega)]) (m := b) (t := (lN a, lN b)) ⟨a, rfl, rfl, ha, hb⟩ (n := XFU) (by rw [XFU_eq]; omega)
  rw [h1, he]
  have hg0 : 0 < Nat.gcd a b := Nat.gcd_pos_of_pos_right _ hb0
  have hgb : Nat.gcd a b ≤ b := Nat.gcd_le_right _ hb0
  have hne : ¬ lN (Nat.gcd a b) = 0 := fun h => absurd ((pk_lEQ (a := Nat.gcd a b) (b := 0) (by omega) (by decide)).mp h) (by omega)
  rw [if_pos hne, if_pos hne, pk_lDiv ha hg0 (by omega), pk_lDiv (by omega) hg0 (by omega)]
  by_cases hx : x = 0
  · rw [if_pos hx, if_pos hx]
  · rw [if_neg hx, if_neg hx]
section Ops
variable {SC : XSt → Prop} {WR : XSr → Prop}
theorem both_eq {S : XSt} {U : XSr} (hW : IvW S U) (hF : IvF S U) (hK : IvK S) {a b : Nat} (ha : a < 8) (hb : b < 8) : F_X5_weightOfBoth S (nI a) (nI b) = some (nI (wsum (wtU U) 10 (kdS S a &&& kdS S b))) ∧ F_X5_weightOfEither S (nI a) (nI b) = some (nI (wsum (wtU U) 10 (kdS S a ||| kdS S b))) := by
  obtain ⟨e1, l1⟩ := kinds_bd hF hK ha
  obtain ⟨e2, l2⟩ := kinds_bd hF hK hb
  have x1 : xin (nI a) 8 = true := xin_nI ha (by decide)
  have x2 : xin (nI b) 8 = true := xin_nI hb (by decide)
  unfold F_X5_weightOfBoth F_X5_weightOfEither
  rw [if_pos x1, if_pos x2, if_pos x1, if_pos x2, xti_nI (by omega), xti_nI (by omega), e1, e2, nI_and, nI_or, weigh_eq hW (Nat.lt_of_le_of_lt Nat.and_le_left l1), weigh_eq hW (Nat.or_lt_two_pow l1 l2)]
  exact ⟨rfl, rfl⟩
theorem wt_le {S : XSt} {U : XSr} (hW : IvW S U) (m : Nat) : wsum (wtU U) 10 m ≤ 30 := wsum_le (fun k hk => (hW.1 k hk).2) m
theorem st_alike (hSC : SCok SC) (hWR : WRok WR) : St_alike (Inv SC WR) := by
  intro S U x1 x2 x3 hI
  have hI0 := hI
  obtain ⟨⟨hY1, hY2, hY3, hY4, hY5⟩, hW, hO, hL, hF, hA, hK, hS, hC, hR⟩ := hI
  unfold F_X6_alike F_X7_alike
  rw [isGrave_eq hY2, isGrave_eq hY2, in_within]
  simp only [xlet]
  by_cases h1 : F_X6_isGrave S x1 = 0
  · have : F_X6_isPair S x1 x2 = 0 := by unfold F_X6_isPair; rw [if_pos h1]
    rw [if_pos this, if_pos h1]; exact ⟨_, _, rfl, rfl, hI0⟩
  by_cases h2 : F_X6_isGrave S x2 = 0
  · have : F_X6_isPair S x1 x2 = 0 := by unfold F_X6_isPair; rw [if_neg h1, if_pos h2]
    rw [if_pos this, if_neg h1, if_pos h2]; exact ⟨_, _, rfl, rfl, hI0⟩
  by_cases h3 : x1 = x2
  · have : F_X6_isPair S x1 x2 = 0 := by unfold F_X6_isPair; rw [if_neg h1, if_neg h2, if_pos h3]
    rw [if_pos this, if_neg h1, if_neg h2, if_pos h3]; exact ⟨_, _, rfl, rfl, hI0⟩
  have hp : ¬ F_X6_isPair S x1 x2 = 0 := by unfold F_X6_isPair; rw [if_neg h1, if_neg h2, if_neg h3]; decide
  rw [if_neg hp, if_neg h1, if_neg h2, if_neg h3]
  by_cases h4 : F_X6_within x3 0 1 = 0
  · rw [if_pos h4, if_pos h4]; exact ⟨_, _, rfl, rfl, hI0⟩
  rw [if_neg h4, if_neg h4]
  obtain ⟨a, rfl, ha⟩ := isGrave_n hY1 h1
  obtain ⟨b, rfl, hb⟩ := isGrave_n hY1 h2
  have ha8 : a < 8 := by have := hY1.2; omega
  have hb8 : b < 8 := by have := hY1.2; omega
  obtain ⟨U', e1, hI', h14, hq, h2'⟩ := lays_eq hI0
  obtain ⟨c1, c2⟩ := both_eq hW hF hK ha8 hb8
  obtain ⟨ka, la⟩ := kinds_bd hF hK ha8
  obtain ⟨kb, lb⟩ := kinds_bd hF hK hb8
  have hw' : wtU U' = wtU U := by unfold wtU; rw [hq 3 (by decide)]
  have hW1' : ∀ k, k < 10 → bd (U'.1 3 k) 3 := fun k hk => by rw [hq 3 (by decide)]; exact hW.1 k hk
  have x1' : xin (nI a) 8 = true := xin_nI ha8 (by decide)
  have x2' : xin (nI b) 8 = true := xin_nI hb8 (by decide)
  rw [c2, c1, e1]
  simp only [Option.bind_some]
  rw [if_pos x1', if_pos x2', xti_nI (by omega), xti_nI (by omega), h14 a ha, h14 b hb, ka, kb, nI_or, nI_and, weightOf_eq hW1' (by have := Nat.or_lt_two_pow la lb; omega), weightOf_eq hW1' (by have := Nat.lt_of_le_of_lt (Nat.and_le_left (n := kdS S a) (m := kdS S b)) la; omega), hw']
  simp only [Option.bind_some]
  have hle := wt_le hW (kdS S a ||| kdS S b)
  have hle2 := wt_le hW (kdS S a &&& kdS S b)
  by_cases hz : nI (wsum (wtU U) 10 (kdS S a ||| kdS S b)) = 0
  · rw [if_pos hz, if_pos hz]; exact ⟨_, _, rfl, rfl, hI'⟩
  · rw [if_neg hz, if_neg hz, if_pos x1', if_pos x2']
    have h0 : 0 < wsum (wtU U) 10 (kdS S a ||| kdS S b) := by
      rcases Nat.eq_zero_or_pos (wsum (wtU U) 10 (kdS S a ||| kdS S b)) with q | q
      · exact absurd (by rw [q]; rfl) hz
      · exact q
    have hm : wsum (wtU U) 10 (kdS S a &&& kdS S b) * wsum (wtU U) 10 (kdS S a ||| kdS S b) ≤ 30 * 30 := Nat.mul_le_mul hle2 hle
    rw [nI_l (by omega), nI_l (by omega), inLowest_eq S (by omega) (by omega) h0 (by omega), lowest_eq U' (by omega) (by omega) h0]
    exact ⟨_, _, rfl, rfl, hI'⟩
theorem nearest_eq {S : XSt} {U : XSr} (hI : Inv SC WR S U) {c : Nat} (hc : c < xti (S 1 4)) : ∃ r U', F_X5_mostAlike S (nI c) = some r ∧ F_X7_nearestNow U (nI c) = some (r, U') ∧ Inv SC WR S U' := by
  have hI0 := hI
  obtain ⟨⟨hY1, hY2, hY3, hY4, hY5⟩, hW, hO, hL, hF, hA, hK, hS, hC, hR⟩ := hI
  obtain ⟨U', e1, hI', h14, hq, h2'⟩ := lays_eq hI0
  have hn8 := hY1.2
  have hn : S 1 4 = nI (xti (S 1 4)) := hY1.1
  have hnU : U'.1 0 0 = nI (xti (S 1 4)) := by rw [hq 0 (by decide), ← hY2]; exact hn
  have hw' : wtU U' = wtU U := by unfold wtU; rw [hq 3 (by decide)]
  have hW1' : ∀ k, k < 10 → bd (U'.1 3 k) 3 := fun k hk => by rw [hq 3 (by decide)]; exact hW.1 k hk
  have hc8 : c < 8 := by omega
  obtain ⟨kc, lc⟩ := kinds_bd hF hK hc8
  have xc : xin (nI c) 8 = true := xin_nI hc8 (by decide)
  unfold F_X5_mostAlike F_X7_nearestNow
  rw [e1, Option.bind_some]
  obtain ⟨r1, r2, hr, q1, q2⟩ := xlp_sim (Bd1 := fun k rc t => B_X5_mostAlike_10 S (nI c) k rc t.1 t.2.1 t.2.2.1 t.2.2.2) (k1 := fun e12 => some e12) (Bd2 := fun k rc t => B_X7_nearestNow_14 U' (nI c) k rc t.1 t.2.1 t.2.2.1 t.2.2.2) (k2 := fun e17 => some (e17, U')) (fun m t1 t2 => t1 = t2 ∧ ∃ j, j + m = xti (S 1 4) ∧ t1.2.2.2 = nI j) (fun a b => a = b) (by
    rintro m ⟨y2, y3, y4, y5⟩ t2 rc1 rc2 ⟨rfl, j, hj, hy5⟩
    have hy5 : y5 = nI j := hy5
    subst hy5
    by_cases hjn : j = xti (S 1 4)
    · refine Or.inl ⟨y2, y2, rfl, ?_, ?_⟩
      · show B_X5_mostAlike_10 S (nI c) _ rc1 y2 y3 y4 (nI j) = _
        unfold B_X5_mostAlike_10
        rw [hn, if_pos (by rw [hjn]; exact Int32.le_refl _)]
      · show B_X7_nearestNow_14 U' (nI c) _ rc2 y2 y3 y4 (nI j) = _
        unfold B_X7_nearestNow_14
        rw [hnU, if_pos (by rw [hjn]; exact Int32.le_refl _)]
    · have hj8 : j < 8 := by omega
      have hlt : j < xti (S 1 4) := by omega
      obtain ⟨kj, lj⟩ := kinds_bd hF hK hj8
      have xj : xin (nI j) 8 = true := xin_nI hj8 (by decide)
      obtain ⟨c1, c2⟩ := both_eq hW hF hK hc8 hj8
      have w1 : F_X7_weightOf U' (U'.1 14 j ||| U'.1 14 c) = some (nI (wsum (wtU U) 10 (kdS S c ||| kdS S j))) := by
        rw [h14 j hlt, h14 c hc, kj, kc, nI_or, weightOf_eq hW1' (by have := Nat.or_lt_two_pow lj lc; omega), hw', Nat.or_comm]
      have w2 : F_X7_weightOf U' (U'.1 14 j &&& U'.1 14 c) = some (nI (wsum (wtU U) 10 (kdS S c &&& kdS S j))) := by
        rw [h14 j hlt, h14 c hc, kj, kc, nI_and, weightOf_eq hW1' (by have := Nat.lt_of_le_of_lt (Nat.and_le_left (n := kdS S j) (m := kdS S c)) lj; omega), hw', Nat.and_comm]
      have hle := wt_le hW (kdS S c ||| kdS S j)
      have b1 : ∀ rc : (Int32 × Int32 × Int32 × Int32) → Option Int32, B_X5_mostAlike_10 S (nI c) (fun e12 => some e12) rc y2 y3 y4 (nI j) = (if nI j = nI c then rc (y2, y3, y4, nI (j + 1)) else if nI (wsum (wtU U) 10 (kdS S c ||| kdS S j)) = 0 then rc (y2, y3, y4, nI (j + 1)) else if y2 = -1 then rc (nI j, nI (wsum (wtU U) 10 (kdS S c &&& kdS S j)), nI (wsum (wtU U) 10 (kdS S c ||| kdS S j)), nI (j + 1)) else if nI (wsum (wtU U) 10 (kdS S c &&& kdS S j)) * y4 ≤ y3 * nI (wsum (wtU U) 10 (kdS S c ||| kdS S j)) then rc (y2, y3, y4, nI (j + 1)) else rc (nI j, nI (wsum (wtU U) 10 (kdS S c &&& kdS S j)), nI (wsum (wtU U) 10 (kdS S c ||| kdS S j)), nI (j + 1))) := by
        intro rc
        unfold B_X5_mostAlike_10
        rw [hn, if_neg (nI_ge hlt (by omega)), c2, c1]
        simp only [Option.bind_some, xlet, nI_1]
      have b2 : ∀ rc : (Int32 × Int32 × Int32 × Int32) → Option (Int32 × XSr), B_X7_nearestNow_14 U' (nI c) (fun e17 => some (e17, U')) rc y2 y3 y4 (nI j) = (if nI j = nI c then rc (y2, y3, y4, nI (j + 1)) else if nI (wsum (wtU U) 10 (kdS S c ||| kdS S j)) = 0 then rc (y2, y3, y4, nI (j + 1)) else if y2 = -1 then rc (nI j, nI (wsum (wtU U) 10 (kdS S c &&& kdS S j)), nI (wsum (wtU U) 10 (kdS S c ||| kdS S j)), nI (j + 1)) else if nI (wsum (wtU U) 10 (kdS S c &&& kdS S j)) * y4 ≤ y3 * nI (wsum (wtU U) 10 (kdS S c ||| kdS S j)) then rc (y2, y3, y4, nI (j + 1)) else rc (nI j, nI (wsum (wtU U) 10 (kdS S c &&& kdS S j)), nI (wsum (wtU U) 10 (kdS S c ||| kdS S j)), nI (j + 1))) := by
        intro rc
        unfold B_X7_nearestNow_14
        rw [hnU, if_neg (nI_ge hlt (by omega)), if_pos xj, if_pos xc, xti_nI (by omega), xti_nI (by omega), w1, Option.bind_some, if_pos xj, if_pos xc, w2, Option.bind_some]
        simp only [xlet, nI_1]
        have hz : (nI (wsum (wtU U) 10 (kdS S c ||| kdS S j)) ≤ 0) ↔ (nI (wsum (wtU U) 10 (kdS S c ||| kdS S j)) = 0) := by
          constructor
          · intro h
            have := (nI_leI (a := wsum (wtU U) 10 (kdS S c ||| kdS S j)) (b := 0) (by omega) (by decide)).mp h
            rw [show wsum (wtU U) 10 (kdS S c ||| kdS S j) = 0 by omega]; rfl
          · intro h; rw [h]; decide
        simp only [hz]
      by_cases d1 : nI j = nI c
      · exact Or.inr ⟨m - 1, (y2, y3, y4, nI (j + 1)), (y2, y3, y4, nI (j + 1)), by omega, ⟨rfl, j + 1, by omega, rfl⟩, (by rw [b1, if_pos d1]), (by rw [b2, if_pos d1])⟩
      by_cases d2 : nI (wsum (wtU U) 10 (kdS S c ||| kdS S j)) = 0
      · exact Or.inr ⟨m - 1, (y2, y3, y4, nI (j + 1)), (y2, y3, y4, nI (j + 1)), by omega, ⟨rfl, j + 1, by omega, rfl⟩, (by rw [b1, if_neg d1, if_pos d2]), (by rw [b2, if_neg d1, if_pos d2])⟩
      by_cases d3 : y2 = -1
      · exact Or.inr ⟨m - 1, (nI j, nI (wsum (wtU U) 10 (kdS S c &&& kdS S j)), nI (wsum (wtU U) 10 (kdS S c ||| kdS S j)), nI (j + 1)), (nI j, nI (wsum (wtU U) 10 (kdS S c &&& kdS S j)), nI (wsum (wtU U) 10 (kdS S c ||| kdS S j)), nI (j + 1)), by omega, ⟨rfl, j + 1, by omega, rfl⟩, (by rw [b1, if_neg d1, if_neg d2, if_pos d3]), (by rw [b2, if_neg d1, if_neg d2, if_pos d3])⟩
      by_cases d4 : nI (wsum (wtU U) 10 (kdS S c &&& kdS S j)) * y4 ≤ y3 * nI (wsum (wtU U) 10 (kdS S c ||| kdS S j))
      · exact Or.inr ⟨m - 1, (y2, y3, y4, nI (j + 1)), (y2, y3, y4, nI (j + 1)), by omega, ⟨rfl, j + 1, by omega, rfl⟩, (by rw [b1, if_neg d1, if_neg d2, if_neg d3, if_pos d4]), (by rw [b2, if_neg d1, if_neg d2, if_neg d3, if_pos d4])⟩
      · exact Or.inr ⟨m - 1, (nI j, nI (wsum (wtU U) 10 (kdS S c &&& kdS S j)), nI (wsum (wtU U) 10 (kdS S c ||| kdS S j)), nI (j + 1)), (nI j, nI (wsum (wtU U) 10 (kdS S c &&& kdS S j)), nI (wsum (wtU U) 10 (kdS S c ||| kdS S j)), nI (j + 1)), by omega, ⟨rfl, j + 1, by omega, rfl⟩, (by rw [b1, if_neg d1, if_neg d2, if_neg d3, if_neg d4]), (by rw [b2, if_neg d1, if_neg d2, if_neg d3, if_neg d4])⟩) (xti (S 1 4)) ((-1), 0, 1, 0) ((-1), 0, 1, 0) ⟨rfl, 0, by omega, rfl⟩ XFU XFU (by rw [XFU_eq]; omega) (by rw [XFU_eq]; omega)
  rw [q1, q2, hr]
  exact ⟨r2, U', rfl, rfl, hI'⟩
theorem st_nearest (hSC : SCok SC) (hWR : WRok WR) : St_nearest (Inv SC WR) := by
  intro S U x1 hI
  have hY1 := hI.1.1
  have hY2 := hI.1.2.1
  by_cases h1 : F_X6_isGrave S x1 = 0
  · exact ⟨-2, U, by unfold F_X6_nearest; rw [if_pos h1], by unfold F_X7_nearest; rw [isGrave_eq hY2, if_pos h1], hI⟩
  · obtain ⟨c, rfl, hc⟩ := isGrave_n hY1 h1
    obtain ⟨r, U', e1, e2, hI'⟩ := nearest_eq hI hc
    refine ⟨r, U', ?_, ?_, hI'⟩
    · unfold F_X6_nearest; rw [if_neg h1, e1]; rfl
    · unfold F_X7_nearest; rw [isGrave_eq hY2, if_neg h1, e2]; rfl
end Ops
