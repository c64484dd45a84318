/-! graves, robbed ones, weights, overs -/
theorem isGrave_eq {S : XSt} {U : XSr} (h : S 1 4 = U.1 0 0) (x : Int32) : F_X7_isGrave U x = F_X6_isGrave S x := by
  unfold F_X7_isGrave F_X6_isGrave
  rw [h]; rfl
theorem isGrave_n {S : XSt} {x : Int32} (hb : bd (S 1 4) 8) (h : ¬ F_X6_isGrave S x = 0) : ∃ g, x = nI g ∧ g < xti (S 1 4) := by
  unfold F_X6_isGrave at h
  obtain ⟨h1, h2⟩ := within_1.mp h
  obtain ⟨n, hn⟩ : ∃ n, xti (S 1 4) = n := ⟨_, rfl⟩
  have e : S 1 4 = nI n := by rw [← hn]; exact hb.1
  have hn8 : n ≤ 8 := by rw [← hn]; exact hb.2
  have h0 : ¬ x < 0 := Int32.not_lt.mpr h1
  obtain ⟨g, hg, rfl⟩ := nI_of h0
  rw [e] at h2
  cases n with
  | zero =>
    have : nI g < 0 := Int32.lt_of_le_of_lt h2 (by decide)
    exact absurd this h0
  | succ m =>
    rw [nI_pred] at h2
    have := (nI_leI hg (by omega)).mp h2
    exact ⟨g, rfl, by rw [hn]; omega⟩
theorem isGrave_y {S : XSt} {g : Nat} (hb : bd (S 1 4) 8) (h : g < xti (S 1 4)) : ¬ F_X6_isGrave S (nI g) = 0 := by
  unfold F_X6_isGrave
  obtain ⟨n, hn⟩ : ∃ n, xti (S 1 4) = n := ⟨_, rfl⟩
  have e : S 1 4 = nI n := by rw [← hn]; exact hb.1
  have hn8 : n ≤ 8 := by rw [← hn]; exact hb.2
  rw [hn] at h
  obtain ⟨m, rfl⟩ : ∃ m, n = m + 1 := ⟨n - 1, by omega⟩
  rw [e, nI_pred]
  exact within_1.mpr ⟨nI_pos' (by omega), nI_le (by omega) (by omega)⟩
theorem nI_sub1 (n : Nat) : nI (n + 1) - (1 : Int32) = nI n := nI_pred n
theorem two_lt {g n : Nat} (h : g < n) : 2 ^ g < 2 ^ n := Nat.pow_lt_pow_right (by decide) h
theorem andn_lt {a b n : Nat} (h : a < 2 ^ n) : andn a b < 2 ^ n := Nat.xor_lt_two_pow h (Nat.lt_of_le_of_lt Nat.and_le_left h)
section Ops
variable {SC : XSt → Prop} {WR : XSr → Prop}
theorem st_grave (hSC : SCok SC) (hWR : WRok WR) : St_grave (Inv SC WR) := by
  intro S U x1 x2 hI
  have hI0 := hI
  obtain ⟨⟨hY1, hY2, hY3, hY4, hY5⟩, hW, ⟨hO1, hO2, hO3, hO4⟩, hL, ⟨hF1, hF2, hF3, hF4, hF5⟩, hA, hK, hS, hC, hR⟩ := hI
  by_cases h1 : F_X6_within x1 0 99 = 0
  · exact ⟨-2, S, U, by unfold F_X6_grave; rw [if_pos h1], by unfold F_X7_grave; rw [in_within, if_pos h1], hI0⟩
  by_cases h2 : F_X6_within x2 x1 99 = 0
  · exact ⟨-2, S, U, by unfold F_X6_grave; rw [if_neg h1, if_pos h2], by unfold F_X7_grave; rw [in_within, in_within, if_neg h1, if_pos h2], hI0⟩
  obtain ⟨x, rfl, -, hx⟩ := within_nI (a := 0) (b := 99) (by decide) (by decide) h1
  obtain ⟨y, rfl, -, hy⟩ := within_nI (a := x) (b := 99) (by omega) (by decide) h2
  obtain ⟨n, hn⟩ : ∃ n, xti (S 1 4) = n := ⟨_, rfl⟩
  have e : S 1 4 = nI n := by rw [← hn]; exact hY1.1
  have hn8 : n ≤ 8 := by rw [← hn]; exact hY1.2
  have e2 : U.1 0 0 = nI n := by rw [← hY2, e]
  have hn31 : n < 2 ^ 31 := by omega
  by_cases h3 : n = 8
  · subst h3
    refine ⟨-4, S, U, ?_, ?_, hI0⟩
    · unfold F_X6_grave; rw [if_neg h1, if_neg h2, e, if_neg (by decide)]
    · unfold F_X7_grave; rw [in_within, in_within, if_neg h1, if_neg h2, e2, if_pos (by decide)]
  · have hlt : n < 8 := by omega
    have hxt : xti (nI (n + 1)) = n + 1 := xti_nI (by omega)
    refine ⟨nI n, xst (xst (xst (xst S 4 12 1) 7 n (nI x)) 8 n (nI y)) 1 4 (nI (n + 1)), xsr (xsr (xsr (xsr U 1 n (nI x)) 2 n (nI y)) 0 0 (nI (n + 1))) 0 14 0, ?_, ?_, ⟨bd_nI (by omega) (by decide), rfl, fun i hi => ?_, ?_, hY5⟩, hW, ⟨hO1, hO2, fun j hj => ?_, hO4⟩, hL, ⟨hF1, hF2, hF3, fun i hi => ?_, hF5⟩, hA, hK, ?_, IvC.stale rfl, IvR.stale rfl⟩
    · unfold F_X6_grave F_X5_dig
      rw [if_neg h1, if_neg h2, e, if_pos (show nI n < 8 from nI_lt hlt (by decide))]
      show (if xin (S 1 4) 8 = true then _ else none).bind _ = _
      rw [e, if_pos (xin_nI hlt (by decide))]
      simp only [xlet, xti_nI hn31]
      show (if xin (S 1 4) 8 = true then _ else none).bind _ = _
      rw [e, if_pos (xin_nI hlt (by decide))]
      show some (S 1 4 + 1 - 1, xst (xst (xst (xst S 4 12 1) 7 (xti (S 1 4)) (nI x)) 8 (xti (S 1 4)) (nI y)) 1 4 (S 1 4 + 1)) = _
      rw [e, nI_1, nI_sub1, xti_nI hn31]
    · unfold F_X7_grave
      rw [in_within, in_within, if_neg h1, if_neg h2, e2, if_neg (show ¬ nI n = 8 from fun h => h3 ((nI_eq hn31 (by decide)).mp h)), if_pos (xin_nI hlt (by decide))]
      simp only [xlet, xti_nI hn31]
      show (if xin (U.1 0 0) 8 = true then _ else none) = _
      rw [e2, if_pos (xin_nI hlt (by decide))]
      show some (U.1 0 0 + 1 - 1, xsr (xsr (xsr (xsr U 1 n (nI x)) 2 (xti (U.1 0 0)) (nI y)) 0 0 (U.1 0 0 + 1)) 0 14 0) = _
      rw [e2, nI_1, nI_sub1, xti_nI hn31]
    · show upd (S 7) n (nI x) i = upd (U.1 1) n (nI x) i ∧ upd (S 8) n (nI y) i = upd (U.1 2) n (nI y) i ∧ bd (upd (S 7) n (nI x) i) 99 ∧ bd (upd (S 8) n (nI y) i) 99
      unfold upd
      by_cases hin : i = n
      · simp only [if_pos hin]; exact ⟨trivial, trivial, bd_nI hx (by decide), bd_nI hy (by decide)⟩
      · simp only [if_neg hin]; exact hY3 i hi
    · show bd (S 1 5) (2 ^ xti (nI (n + 1)) - 1)
      rw [hxt]
      have : 2 ^ n ≤ 2 ^ (n + 1) := Nat.pow_le_pow_right (by decide) (by omega)
      exact bd_mono hY4 (by rw [hn]; omega)
    · have := hO3 j hj
      show bd (U.1 4 j) 7 ∧ bd (U.1 5 j) 7 ∧ xti (U.1 4 j) < xti (nI (n + 1)) ∧ xti (U.1 5 j) < xti (nI (n + 1))
      rw [hxt]; rw [hn] at this
      exact ⟨this.1, this.2.1, by omega, by omega⟩
    · have := hF4 i hi
      show xti (S 13 i) < xti (nI (n + 1))
      rw [hxt]; rw [hn] at this; omega
    · exact (((((((hS.putC (by decide)).putC (by decide)).putC (by decide)).putC (by decide)).putR (by decide)).putR (by decide)).putR (by decide)).putR (by decide)
theorem st_robbed (hSC : SCok SC) (hWR : WRok WR) : St_robbed (Inv SC WR) := by
  intro S U x1 x2 hI
  have hI0 := hI
  obtain ⟨⟨hY1, hY2, hY3, hY4, hY5⟩, hW, ⟨hO1, hO2, hO3, hO4⟩, hL, ⟨hF1, hF2, hF3, hF4, hF5⟩, hA, hK, hS, hC, hR⟩ := hI
  by_cases h1 : F_X6_isGrave S x1 = 0
  · exact ⟨-2, S, U, by unfold F_X6_robbed; rw [if_pos h1], by unfold F_X7_robbed; rw [isGrave_eq hY2, if_pos h1], hI0⟩
  by_cases h2 : F_X6_within x2 0 1 = 0
  · exact ⟨-2, S, U, by unfold F_X6_robbed; rw [if_neg h1, if_pos h2], by unfold F_X7_robbed; rw [isGrave_eq hY2, in_within, if_neg h1, if_pos h2], hI0⟩
  obtain ⟨g, rfl, hg⟩ := isGrave_n hY1 h1
  obtain ⟨v, rfl, -, hv⟩ := within_nI (a := 0) (b := 1) (by decide) (by decide) h2
  obtain ⟨n, hn⟩ : ∃ n, xti (S 1 4) = n := ⟨_, rfl⟩
  have hn8 : n ≤ 8 := by rw [← hn]; exact hY1.2
  rw [hn] at hg hY4
  obtain ⟨r, hr⟩ : ∃ r, xti (S 1 5) = r := ⟨_, rfl⟩
  have er : S 1 5 = nI r := by rw [← hr]; exact hY4.1
  have hrn : r < 2 ^ n := by have := hY4.2; rw [hr] at this; have := Nat.pow_pos (n := n) (show 0 < 2 by decide); omega
  have hpn : 2 ^ n ≤ 256 := Nat.pow_le_pow_right (by decide) hn8
  have er2 : U.1 0 3 = nI r := by rw [← hY5, er]
  have hg31 : g < 31 := by omega
  have key : ∀ z, z < 2 ^ n → Inv SC WR (xst (xst S 1 5 (nI z)) 4 12 1) (xsr (xsr U 0 3 (nI z)) 0 14 0) := fun z hz =>
    ⟨⟨hY1, hY2, hY3, by rw [show xti (xst (xst S 1 5 (nI z)) 4 12 1 1 4) = n from hn]; exact bd_nI (by omega) (by omega), rfl⟩, hW, ⟨hO1, hO2, hO3, hO4⟩, hL, ⟨hF1, hF2, hF3, hF4, hF5⟩, hA, hK, (((hS.putC (by decide)).putC (by decide)).putR (by decide)).putR (by decide), IvC.stale rfl, IvR.stale rfl⟩
  have h01 : v = 0 ∨ v = 1 := by omega
  rcases h01 with rfl | rfl
  · refine ⟨nI (r.testBit g).toNat, _, _, ?_, ?_, key (andn r (2 ^ g)) (andn_lt hrn)⟩
    · unfold F_X6_robbed
      rw [if_neg h1, if_neg h2, er, nI_bit (by omega) hg31, nI_shl1 hg31, nI_andn, nI_shl hg31 (by omega), nI_or]
      show some (_, xst (xst S 1 5 (nI (andn r (2 ^ g) ||| 0 * 2 ^ g))) 4 12 1) = _
      rw [Nat.zero_mul, Nat.or_zero]
    · unfold F_X7_robbed
      rw [isGrave_eq hY2, in_within, if_neg h1, if_neg h2, er2, nI_bit (by omega) hg31, nI_shl1 hg31, nI_andn]
      rfl
  · refine ⟨nI (r.testBit g).toNat, _, _, ?_, ?_, key (r ||| 2 ^ g) (Nat.or_lt_two_pow hrn (two_lt hg))⟩
    · unfold F_X6_robbed
      rw [if_neg h1, if_neg h2, er, nI_bit (by omega) hg31, nI_shl1 hg31, nI_andn, nI_shl hg31 (by have := two_lt hg; omega), nI_or]
      show some (_, xst (xst S 1 5 (nI (andn r (2 ^ g) ||| 1 * 2 ^ g))) 4 12 1) = _
      have e9 : andn r (2 ^ g) ||| 1 * 2 ^ g = r ||| 2 ^ g := by
        rw [Nat.one_mul]
        apply Nat.eq_of_testBit_eq
        intro i
        rw [Nat.testBit_or, Nat.testBit_or, andn_bit]
        cases r.testBit i <;> cases (2 ^ g).testBit i <;> rfl
      rw [e9]
    · unfold F_X7_robbed
      rw [isGrave_eq hY2, in_within, if_neg h1, if_neg h2, er2, nI_bit (by omega) hg31, nI_shl1 hg31, nI_or]
      rfl
theorem st_over (hSC : SCok SC) (hWR : WRok WR) : St_over (Inv SC WR) := by
  intro S U x1 x2 hI
  have hI0 := hI
  obtain ⟨⟨hY1, hY2, hY3, hY4, hY5⟩, hW, ⟨hO1, hO2, hO3, hO4⟩, hL, ⟨hF1, hF2, hF3, hF4, hF5⟩, hA, hK, hS, hC, hR⟩ := hI
  by_cases h1 : F_X6_isGrave S x1 = 0
  · exact ⟨-2, S, U, by unfold F_X6_over F_X6_isPair; rw [if_pos h1]; rfl, by unfold F_X7_over; rw [isGrave_eq hY2, if_pos h1], hI0⟩
  by_cases h2 : F_X6_isGrave S x2 = 0
  · exact ⟨-2, S, U, by unfold F_X6_over F_X6_isPair; rw [if_neg h1, if_pos h2]; rfl, by unfold F_X7_over; rw [isGrave_eq hY2, isGrave_eq hY2, if_neg h1, if_pos h2], hI0⟩
  by_cases h3 : x1 = x2
  · exact ⟨-2, S, U, by unfold F_X6_over F_X6_isPair; rw [if_neg h1, if_neg h2, if_pos h3]; rfl, by unfold F_X7_over; rw [isGrave_eq hY2, isGrave_eq hY2, if_neg h1, if_neg h2, if_pos h3], hI0⟩
  have hp : ¬ F_X6_isPair S x1 x2 = 0 := by unfold F_X6_isPair; rw [if_neg h1, if_neg h2, if_neg h3]; decide
  obtain ⟨g, rfl, hg⟩ := isGrave_n hY1 h1
  obtain ⟨f, rfl, hf⟩ := isGrave_n hY1 h2
  obtain ⟨n, hn⟩ : ∃ n, xti (S 1 4) = n := ⟨_, rfl⟩
  have hn8 : n ≤ 8 := by rw [← hn]; exact hY1.2
  rw [hn] at hg hf
  obtain ⟨o, ho⟩ : ∃ o, xti (S 1 6) = o := ⟨_, rfl⟩
  have eo : S 1 6 = nI o := by rw [← ho]; exact hO1.1
  have ho16 : o ≤ 16 := by rw [← ho]; exact hO1.2
  have eo2 : U.1 0 5 = nI o := by rw [← hO2, eo]
  have ho31 : o < 2 ^ 31 := by omega
  by_cases h4 : o = 16
  · subst h4
    refine ⟨-4, S, U, ?_, ?_, hI0⟩
    · unfold F_X6_over; rw [if_neg hp, eo, if_neg (by decide)]
    · unfold F_X7_over; rw [isGrave_eq hY2, isGrave_eq hY2, if_neg h1, if_neg h2, if_neg h3, eo2, if_pos (by decide)]
  · have hlt : o < 16 := by omega
    obtain ⟨hb9, hb9'⟩ := hO4 g (by omega)
    obtain ⟨w, hw⟩ : ∃ w, xti (S 9 g) = w := ⟨_, rfl⟩
    have ew : S 9 g = nI w := by rw [← hw]; exact hb9.1
    have hw255 : w ≤ 255 := by rw [← hw]; exact hb9.2
    have hxt : xti (nI (o + 1)) = o + 1 := xti_nI (by omega)
    have hw' : w ||| 2 ^ f < 256 := Nat.or_lt_two_pow (n := 8) (by omega) (two_lt (by omega))
    refine ⟨nI (o + 1), xst (xst (xst S 9 g (nI (w ||| 2 ^ f))) 1 6 (nI (o + 1))) 4 12 1, xsr (xsr (xsr (xsr U 4 o (nI g)) 5 o (nI f)) 0 5 (nI (o + 1))) 0 14 0, ?_, ?_, ⟨hY1, hY2, hY3, hY4, hY5⟩, hW, ⟨bd_nI (by omega) (by decide), rfl, fun j hj => ?_, fun a ha => ?_⟩, hL, ⟨hF1, hF2, hF3, hF4, hF5⟩, hA, hK, ((((((hS.putC (by decide)).putC (by decide)).putC (by decide)).putR (by decide)).putR (by decide)).putR (by decide)).putR (by decide), IvC.stale rfl, IvR.stale rfl⟩
    · unfold F_X6_over
      rw [if_neg hp, eo, if_pos (show nI o < 16 from nI_lt hlt (by decide)), if_pos (xin_nI (show g < 8 by omega) (by decide)), if_pos (xin_nI (show g < 8 by omega) (by decide)), xti_nI (by omega), ew, nI_shl1 (by omega), nI_or]
      show some (S 1 6 + 1, xst (xst (xst S 9 g (nI (w ||| 2 ^ f))) 1 6 (S 1 6 + 1)) 4 12 1) = _
      rw [eo, nI_1]
    · unfold F_X7_over
      rw [isGrave_eq hY2, isGrave_eq hY2, if_neg h1, if_neg h2, if_neg h3, eo2, if_neg (show ¬ nI o = 16 from fun h => h4 ((nI_eq ho31 (by decide)).mp h)), if_pos (xin_nI hlt (by decide))]
      simp only [xlet, xti_nI ho31]
      show (if xin (U.1 0 5) 16 = true then _ else none) = _
      rw [eo2, if_pos (xin_nI hlt (by decide))]
      show some (U.1 0 5 + 1, xsr (xsr (xsr (xsr U 4 o (nI g)) 5 (xti (U.1 0 5)) (nI f)) 0 5 (U.1 0 5 + 1)) 0 14 0) = _
      rw [eo2, nI_1, xti_nI ho31]
    · have hj' : j < o + 1 := by have : j < xti (nI (o + 1)) := hj; rw [hxt] at this; exact this
      show bd (upd (U.1 4) o (nI g) j) 7 ∧ bd (upd (U.1 5) o (nI f) j) 7 ∧ xti (upd (U.1 4) o (nI g) j) < xti (S 1 4) ∧ xti (upd (U.1 5) o (nI f) j) < xti (S 1 4)
      unfold upd
      by_cases hjo : j = o
      · simp only [if_pos hjo, hn]
        rw [xti_nI (by omega), xti_nI (by omega)]
        exact ⟨bd_nI (by omega) (by decide), bd_nI (by omega) (by decide), hg, hf⟩
      · simp only [if_neg hjo]
        exact hO3 j (by rw [ho]; omega)
    · show bd (upd (S 9) g (nI (w ||| 2 ^ f)) a) 255 ∧ ∀ h, h < 8 → ((xti (upd (S 9) g (nI (w ||| 2 ^ f)) a)).testBit h = true ↔ ∃ j, j < xti (nI (o + 1)) ∧ upd (U.1 4) o (nI g) j = nI a ∧ upd (U.1 5) o (nI f) j = nI h)
      rw [hxt]
      obtain ⟨q1, q2⟩ := hO4 a ha
      have old : ∀ h, h < 8 → ((∃ j, j < o + 1 ∧ upd (U.1 4) o (nI g) j = nI a ∧ upd (U.1 5) o (nI f) j = nI h) ↔ ((∃ j, j < o ∧ U.1 4 j = nI a ∧ U.1 5 j = nI h) ∨ (g = a ∧ f = h))) := by
        intro h hh
        constructor
        · rintro ⟨j, hj, e1, e2⟩
          unfold upd at e1 e2
          by_cases hjo : j = o
          · rw [if_pos hjo] at e1 e2
            exact Or.inr ⟨(nI_eq (by omega) (by omega)).mp e1, (nI_eq (by omega) (by omega)).mp e2⟩
          · rw [if_neg hjo] at e1 e2
            exact Or.inl ⟨j, by omega, e1, e2⟩
        · rintro (⟨j, hj, e1, e2⟩ | ⟨rfl, rfl⟩)
          · exact ⟨j, by omega, by unfold upd; rw [if_neg (by omega)]; exact e1, by unfold upd; rw [if_neg (by omega)]; exact e2⟩
          · exact ⟨o, by omega, by unfold upd; rw [if_pos rfl], by unfold upd; rw [if_pos rfl]⟩
      by_cases hag : a = g
      · subst hag
        have eu : upd (S 9) a (nI (w ||| 2 ^ f)) a = nI (w ||| 2 ^ f) := by unfold upd; rw [if_pos rfl]
        rw [eu]
        refine ⟨bd_nI (by omega) (by decide), fun h hh => ?_⟩
        rw [xti_nI (by omega), old h hh, Nat.testBit_or, Bool.or_eq_true, ← hw, q2 h hh, ho, Nat.testBit_two_pow]
        constructor
        · rintro (q | q)
          · exact Or.inl q
          · exact Or.inr ⟨rfl, by simpa using q⟩
        · rintro (q | ⟨-, q⟩)
          · exact Or.inl q
          · exact Or.inr (by simpa using q)
      · have eu : upd (S 9) g (nI (w ||| 2 ^ f)) a = S 9 a := by unfold upd; rw [if_neg hag]
        rw [eu]
        refine ⟨q1, fun h hh => ?_⟩
        rw [old h hh, q2 h hh, ho]
        constructor
        · exact fun q => Or.inl q
        · rintro (q | ⟨q, -⟩)
          · exact q
          · exact absurd q.symm hag
end Ops
