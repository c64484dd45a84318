/-! YEARS of kinds; the step -/
theorem orN_bit (F : Nat → Nat) (n k : Nat) : (orN F n).testBit k = true ↔ ∃ g, g < n ∧ (F g).testBit k = true := by
  induction n with
  | zero => simp [orN]
  | succ n ih =>
    show (orN F n ||| F n).testBit k = true ↔ _
    rw [Nat.testBit_or, Bool.or_eq_true, ih]
    constructor
    · rintro (⟨g, h1, h2⟩ | h)
      · exact ⟨g, by omega, h2⟩
      · exact ⟨n, by omega, h⟩
    · rintro ⟨g, h1, h2⟩
      by_cases e : g = n
      · subst e; exact Or.inr h2
      · exact Or.inl ⟨g, by omega, h2⟩
section YK
variable {P : Pb} {S : XSt} {U : XSr} {f : List Nat} {k : Nat}
/-- what a least, a greatest year of those that have a kind is; e tells which -/
def yOf (e : Nat) (H : Nat → Prop) (Y : Nat → Nat) (v : Nat) : Prop := (∃ g, H g ∧ Y g = v) ∧ ∀ g, H g → if e = 0 then v ≤ Y g else Y g ≤ v
theorem yOf_uni {e : Nat} {H : Nat → Prop} {Y : Nat → Nat} {v w : Nat} (h1 : yOf e H Y v) (h2 : yOf e H Y w) : v = w := by
  obtain ⟨⟨g, g1, g2⟩, g3⟩ := h1
  obtain ⟨⟨h, h1, h2⟩, h3⟩ := h2
  have a := g3 h h1
  have b := h3 g g1
  by_cases e0 : e = 0
  · rw [if_pos e0] at a b; omega
  · rw [if_neg e0] at a b; omega
theorem yKC (hC : CP P S) (h22 : ∀ i, i < P.n → S 22 i = nI (ix f i)) (hlt : ∀ i, i < P.n → ix f i < P.n) (hk : k < 10) {e : Nat} (he : e ≤ 1) {Y : Nat → Nat} (hY : ∀ i, i < P.n → F_X1_yearOfGrave S (nI (ix f i)) (nI e) = some (nI (Y (ix f i))) ∧ Y (ix f i) ≤ 99) (hex : ∃ i, i < P.n ∧ hf P f k i = true) : ∃ v, F_X1_yearOfKind S (nI k) (nI e) = some (nI v) ∧ yOf e (fun g => ∃ i, i < P.n ∧ hf P f k i = true ∧ ix f i = g) Y v := by
  have hn := hC.1.1
  unfold F_X1_yearOfKind
  rw [xlet_eq]
  have main : ∀ v0 : Nat, v0 ≤ 99 → (∀ g, Y g ≤ 99 → if e = 0 then Y g ≤ v0 else v0 ≤ Y g) → ∃ v, xlp (fun k' rc t => B_X1_yearOfKind_14 S (nI k) (nI e) k' rc t.1 t.2) (fun e11 => (some e11)) XFU (nI v0, 0) = some (nI v) ∧ yOf e (fun g => ∃ i, i < P.n ∧ hf P f k i = true ∧ ix f i = g) Y v := by
    intro v0 hv0 hv0Y
    refine xlp_Q (Q := fun o => ∃ v, o = some (nI v) ∧ yOf e (fun g => ∃ i, i < P.n ∧ hf P f k i = true ∧ ix f i = g) Y v) (I := fun p t => ∃ v, v ≤ 99 ∧ t = (nI v, nI p) ∧ ((v = v0 ∧ ∀ i, i < p → ¬ hf P f k i = true) ∨ yOf e (fun g => ∃ i, i < p ∧ hf P f k i = true ∧ ix f i = g) Y v)) 0 P.n (by omega) (by omega) ⟨v0, hv0, rfl, Or.inl ⟨rfl, fun i hi => by omega⟩⟩ ?_ ?_
    · rintro p _ rc - hp ⟨v, hv, rfl, hvp⟩
      right
      obtain ⟨y1, y2⟩ := hY p hp
      show ∃ t', _ ∧ B_X1_yearOfKind_14 S (nI k) (nI e) _ rc (nI v) (nI p) = rc t'
      unfold B_X1_yearOfKind_14
      rw [hC.2.1, if_neg (fun q => absurd ((nI_leI (by omega) (by omega)).mp q) (by omega)), hasAt_eq hC h22 hlt hk hp, if_pos (xin_nI (by omega) (by decide)), xti_nI (by omega), h22 p hp, y1]
      simp only [Option.bind_some, xlet_eq, nI_1]
      by_cases hh : hf P f k p = true
      · rw [if_pos hh, if_neg i10, xmin_nI (by omega) (by omega), xmax_nI (by omega) (by omega)]
        have step : ∀ w : Nat, w ≤ 99 → (w = v ∨ w = Y (ix f p)) → (if e = 0 then w ≤ v ∧ w ≤ Y (ix f p) else v ≤ w ∧ Y (ix f p) ≤ w) → ∃ t', (∃ v, v ≤ 99 ∧ t' = (nI v, nI (p + 1)) ∧ ((v = v0 ∧ ∀ i, i < p + 1 → ¬ hf P f k i = true) ∨ yOf e (fun g => ∃ i, i < p + 1 ∧ hf P f k i = true ∧ ix f i = g) Y v)) ∧ rc (nI w, nI (p + 1)) = rc t' := by
          intro w hw hw2 hw3
          refine ⟨_, ⟨w, hw, rfl, Or.inr ⟨?_, ?_⟩⟩, rfl⟩
          · rcases hw2 with h | h
            · rcases hvp with ⟨h1, h2⟩ | ⟨⟨g, ⟨i, i1, i2, i3⟩, g2⟩, -⟩
              · -- w is the start: the year is it as well
                refine ⟨ix f p, ⟨p, by omega, hh, rfl⟩, ?_⟩
                have hs := hv0Y (ix f p) y2
                by_cases e0 : e = 0
                · rw [if_pos e0] at hs hw3; omega
                · rw [if_neg e0] at hs hw3; omega
              · exact ⟨g, ⟨i, by omega, i2, i3⟩, by rw [h]; exact g2⟩
            · exact ⟨ix f p, ⟨p, by omega, hh, rfl⟩, h.symm⟩
          · rintro g ⟨i, i1, i2, i3⟩
            by_cases e0 : e = 0
            · rw [if_pos e0] at hw3 ⊢
              by_cases ei : i = p
              · rw [← i3, ei]; exact hw3.2
              · rcases hvp with ⟨h1, h2⟩ | ⟨-, g3⟩
                · exact absurd i2 (h2 i (by omega))
                · have := g3 g ⟨i, by omega, i2, i3⟩
                  rw [if_pos e0] at this
                  omega
            · rw [if_neg e0] at hw3 ⊢
              by_cases ei : i = p
              · rw [← i3, ei]; exact hw3.2
              · rcases hvp with ⟨h1, h2⟩ | ⟨-, g3⟩
                · exact absurd i2 (h2 i (by omega))
                · have := g3 g ⟨i, by omega, i2, i3⟩
                  rw [if_neg e0] at this
                  omega
        by_cases e0 : e = 0
        · rw [if_pos (by rw [e0]; rfl)]
          refine step _ (Nat.le_trans (Nat.min_le_left _ _) hv) ?_ (by rw [if_pos e0]; exact ⟨Nat.min_le_left _ _, Nat.min_le_right _ _⟩)
          rcases Nat.le_total v (Y (ix f p)) with h | h
          · exact Or.inl (Nat.min_eq_left h)
          · exact Or.inr (Nat.min_eq_right h)
        · rw [if_neg (fun q => e0 ((nI_z (by omega)).mp q))]
          refine step _ (Nat.max_le.mpr ⟨hv, y2⟩) ?_ (by rw [if_neg e0]; exact ⟨Nat.le_max_left _ _, Nat.le_max_right _ _⟩)
          rcases Nat.le_total v (Y (ix f p)) with h | h
          · exact Or.inr (Nat.max_eq_right h)
          · exact Or.inl (Nat.max_eq_left h)
      · rw [if_neg hh, if_pos rfl]
        refine ⟨_, ⟨v, hv, rfl, ?_⟩, rfl⟩
        rcases hvp with ⟨h1, h2⟩ | ⟨⟨g, ⟨i, i1, i2, i3⟩, g2⟩, g3⟩
        · exact Or.inl ⟨h1, fun i hi => by
            by_cases ei : i = p
            · rw [ei]; exact hh
            · exact h2 i (by omega)⟩
        · refine Or.inr ⟨⟨g, ⟨i, by omega, i2, i3⟩, g2⟩, ?_⟩
          rintro g' ⟨i', j1, j2, j3⟩
          refine g3 g' ⟨i', ?_, j2, j3⟩
          by_cases ei : i' = p
          · rw [ei] at j2; exact absurd j2 hh
          · omega
    · rintro _ rc ⟨v, hv, rfl, hvp⟩
      refine ⟨v, ?_, ?_⟩
      · show B_X1_yearOfKind_14 S (nI k) (nI e) _ rc (nI v) (nI P.n) = _
        unfold B_X1_yearOfKind_14
        rw [hC.2.1, if_pos ((nI_leI (by omega) (by omega)).mpr (Nat.le_refl _))]
      · rcases hvp with ⟨-, h2⟩ | h
        · obtain ⟨i, hi, hh⟩ := hex
          exact absurd hh (h2 i hi)
        · exact h
  by_cases e0 : e = 0
  · rw [if_pos (by rw [e0]; rfl)]
    exact main 99 (by omega) (fun g hg => by rw [if_pos e0]; exact hg)
  · rw [if_neg (fun q => e0 ((nI_z (by omega)).mp q))]
    exact main 0 (by omega) (fun g hg => by rw [if_neg e0]; exact Nat.zero_le _)
/-- the reference goes through graves -/
theorem yKR {V : XSr} (hR : RP P V) (hlt : P.n ≤ 8) (hU0 : U.1 0 0 = nI P.n) (hany : F_X7_areAny U = some (1, V)) (hanyV : F_X7_areAny V = some (1, V)) (hk : k < 10) {e : Nat} (he : e ≤ 1) {Y : Nat → Nat} (hY : ∀ g, g < P.n → F_X7_yearOf V (nI g) (nI e) = some (nI (Y g)) ∧ Y g ≤ 99) (hn0 : 0 < P.n) : ∃ r, xlp (fun k' rc t => B_X7_years_61 (nI k) (nI e) k' rc t.1 t.2.1 t.2.2) (fun e12 => (some (e12.1, e12.2))) XFU ((-3), 0, U) = some (r, V) ∧ ((r = -3 ∧ ∀ g, g < P.n → (P.kd g).testBit k = false) ∨ ∃ v, r = nI v ∧ yOf e (fun g => g < P.n ∧ (P.kd g).testBit k = true) Y v) := by
  have hn := hR.1.1
  have hkl : ∀ g, P.kd g < 2 ^ 31 := fun g => Nat.lt_trans (hR.1.2.1 _) (by decide)
  refine xlp_Q (Q := fun o => ∃ r, o = some (r, V) ∧ ((r = -3 ∧ ∀ g, g < P.n → (P.kd g).testBit k = false) ∨ ∃ v, r = nI v ∧ yOf e (fun g => g < P.n ∧ (P.kd g).testBit k = true) Y v)) (I := fun p t => ∃ (r : Int32) (W : XSr), t = (r, nI p, W) ∧ (W = V ∨ (W = U ∧ p = 0)) ∧ ((r = -3 ∧ ∀ g, g < p → (P.kd g).testBit k = false) ∨ ∃ v, v ≤ 99 ∧ r = nI v ∧ yOf e (fun g => g < p ∧ (P.kd g).testBit k = true) Y v)) 0 P.n (by omega) (by omega) ⟨-3, U, rfl, Or.inr ⟨rfl, rfl⟩, Or.inl ⟨rfl, fun g hg => by omega⟩⟩ ?_ ?_
  · rintro p _ rc - hp ⟨r, W, rfl, hW, hr⟩
    right
    have hW0 : W.1 0 0 = nI P.n ∧ F_X7_areAny W = some (1, V) := by
      rcases hW with h | ⟨h, -⟩
      · rw [h]; exact ⟨hR.2.1, hanyV⟩
      · rw [h]; exact ⟨hU0, hany⟩
    obtain ⟨y1, y2⟩ := hY p hp
    show ∃ t', _ ∧ B_X7_years_61 (nI k) (nI e) _ rc r (nI p) W = rc t'
    unfold B_X7_years_61
    rw [hW0.1, if_neg (fun q => absurd ((nI_leI (by omega) (by omega)).mp q) (by omega)), hW0.2]
    simp only [Option.bind_some]
    rw [if_neg i10, if_pos (xin_nI (by omega) (by decide)), xti_nI (by omega), hR.2.2.2.2.2.2.2 p hp, is_eq (hkl _) (by omega), y1]
    simp only [Option.bind_some, xlet_eq, nI_1]
    cases hb : (P.kd p).testBit k with
    | false =>
      rw [if_pos (by decide)]
      refine ⟨_, ⟨r, V, rfl, Or.inl rfl, ?_⟩, rfl⟩
      rcases hr with ⟨h1, h2⟩ | ⟨v, hv, h1, ⟨g, ⟨g0, g1⟩, g2⟩, g3⟩
      · exact Or.inl ⟨h1, fun g hg => by
          by_cases eg : g = p
          · rw [eg]; exact hb
          · exact h2 g (by omega)⟩
      · refine Or.inr ⟨v, hv, h1, ⟨g, ⟨by omega, g1⟩, g2⟩, ?_⟩
        rintro g' ⟨j1, j2⟩
        refine g3 g' ⟨?_, j2⟩
        by_cases eg : g' = p
        · rw [eg, hb] at j2; cases j2
        · omega
    | true =>
      rw [if_neg (by decide)]
      have step : ∀ w : Nat, w ≤ 99 → (∃ g, (g < p + 1 ∧ (P.kd g).testBit k = true) ∧ Y g = w) → (∀ g, g < p + 1 ∧ (P.kd g).testBit k = true → if e = 0 then w ≤ Y g else Y g ≤ w) → ∃ t', (∃ (r : Int32) (W : XSr), t' = (r, nI (p + 1), W) ∧ (W = V ∨ (W = U ∧ p + 1 = 0)) ∧ ((r = -3 ∧ ∀ g, g < p + 1 → (P.kd g).testBit k = false) ∨ ∃ v, v ≤ 99 ∧ r = nI v ∧ yOf e (fun g => g < p + 1 ∧ (P.kd g).testBit k = true) Y v)) ∧ rc (nI w, nI (p + 1), V) = rc t' := fun w hw h1 h2 => ⟨_, ⟨nI w, V, rfl, Or.inl rfl, Or.inr ⟨w, hw, rfl, h1, h2⟩⟩, rfl⟩
      rcases hr with ⟨h1, h2⟩ | ⟨v, hv, h1, ⟨g, ⟨g0, g1⟩, g2⟩, g3⟩
      · rw [if_pos h1]
        refine step _ y2 ⟨p, ⟨by omega, hb⟩, rfl⟩ (fun g hg => ?_)
        have eg : g = p := by
          by_cases eg : g = p
          · exact eg
          · have := h2 g (by omega)
            rw [hg.2] at this; cases this
        rw [eg]
        by_cases e0 : e = 0
        · rw [if_pos e0]; exact Nat.le_refl _
        · rw [if_neg e0]; exact Nat.le_refl _
      · have hr3 : ¬ r = -3 := by
          rw [h1]
          intro q
          have := nI_pos (n := v) (by omega)
          rw [q] at this
          exact this (by decide)
        rw [if_neg hr3, h1]
        have oldA : ∀ g, g < p + 1 ∧ (P.kd g).testBit k = true → g = p ∨ (if e = 0 then v ≤ Y g else Y g ≤ v) := fun g hg => by
          by_cases eg : g = p
          · exact Or.inl eg
          · exact Or.inr (g3 g ⟨by omega, hg.2⟩)
        by_cases e0 : e = 0
        · rw [if_pos (by rw [e0]; rfl)]
          by_cases hc : v ≤ Y p
          · rw [if_pos ((nI_leI (by omega) (by omega)).mpr hc)]
            refine step v hv ⟨g, ⟨by omega, g1⟩, g2⟩ (fun g' hg' => ?_)
            rcases oldA g' hg' with h | h
            · rw [h, if_pos e0]; exact hc
            · exact h
          · rw [if_neg (fun q => hc ((nI_leI (by omega) (by omega)).mp q))]
            refine step _ y2 ⟨p, ⟨by omega, hb⟩, rfl⟩ (fun g' hg' => ?_)
            rcases oldA g' hg' with h | h
            · rw [h, if_pos e0]; exact Nat.le_refl _
            · rw [if_pos e0] at h ⊢; omega
        · rw [if_neg (fun q => e0 ((nI_z (by omega)).mp q))]
          by_cases hc : Y p ≤ v
          · rw [if_pos ((nI_leI (by omega) (by omega)).mpr hc)]
            refine step v hv ⟨g, ⟨by omega, g1⟩, g2⟩ (fun g' hg' => ?_)
            rcases oldA g' hg' with h | h
            · rw [h, if_neg e0]; exact hc
            · exact h
          · rw [if_neg (fun q => hc ((nI_leI (by omega) (by omega)).mp q))]
            refine step _ y2 ⟨p, ⟨by omega, hb⟩, rfl⟩ (fun g' hg' => ?_)
            rcases oldA g' hg' with h | h
            · rw [h, if_neg e0]; exact Nat.le_refl _
            · rw [if_neg e0] at h ⊢; omega
  · rintro _ rc ⟨r, W, rfl, hW, hr⟩
    have hWV : W = V := by
      rcases hW with h | ⟨-, h⟩
      · exact h
      · omega
    subst hWV
    refine ⟨r, ?_, hr.imp id (fun ⟨v, _, h1, h2⟩ => ⟨v, h1, h2⟩)⟩
    show B_X7_years_61 (nI k) (nI e) _ rc r (nI P.n) W = _
    unfold B_X7_years_61
    rw [hR.2.1, if_pos ((nI_leI (by omega) (by omega)).mpr (Nat.le_refl _))]
end YK
theorem areAny_fr {P : Pb} {S : XSt} {V : XSr} (h : FR P S V) : F_X7_areAny V = some (anyI P, V) := by
  obtain ⟨h1, h2, h3, h4, h5, h6, h7, h8⟩ := h
  unfold F_X7_areAny F_X7_works
  rw [if_neg (by rw [h8]; exact i10)]
  simp only [Option.bind_some]
  rw [h6.1.1]
  have hlen := L_len (P := P) h3.1.1
  unfold anyI
  by_cases h : P.L = []
  · rw [h, if_pos rfl, if_pos (by decide)]
  · have : 0 < P.L.length := List.length_pos_iff.mpr h
    rw [if_neg (nI_nle this (by omega)), if_neg h]
theorem gyear_now {S : XSt} {U : XSr} (hI : IX S U) {g e : Nat} (hg : g < xti (S 1 4)) (he : e ≤ 1) : ∃ r S' U', F_X6_years S 0 (nI g) (nI e) = some (r, S') ∧ F_X7_graveYear U (nI g) (nI e) = some (r, U') ∧ FR (pbS S) S' U' := by
  obtain ⟨S1, V, e1, -, e3, hF⟩ := both hI
  have hwe : ¬ F_X6_within (nI e) 0 1 = 0 := within_1.mpr ⟨nI_pos' (by omega), show nI e ≤ nI 1 from (nI_leI (by omega) (by decide)).mpr he⟩
  unfold F_X6_years F_X7_graveYear
  rw [if_neg (show ¬ F_X6_within 0 0 1 = 0 by decide), if_neg hwe, xlet_eq, if_pos rfl, if_neg (isGrave_y hI.1.1 hg), e1, e3]
  simp only [Option.bind_some]
  by_cases hL : (pbS S).L = []
  · rw [anyI_0 hL, if_pos rfl, if_pos rfl]
    exact ⟨_, _, _, rfl, rfl, hF⟩
  · obtain ⟨f, f1, f2, f3, f4, f5, f6, f7⟩ := the_row hF hL
    have hlt : ∀ i, i < (pbS S).n → ix f i < (pbS S).n := fun i hi => f5 _ (ix_mem (by omega))
    obtain ⟨a, ha, ea⟩ := ix_of (L_all f1 (g := g) hg)
    obtain ⟨v, v1, v2, v3⟩ := year_both hF.2.2.1 hF.2.2.2.1 f6 f7 f3 f4 hlt (a := a) (by omega) e he
    rw [ea] at v2 v3
    rw [anyI_1 hL, if_neg i10, if_neg i10, v2, v3, if_pos trivial]
    exact ⟨_, _, _, rfl, rfl, hF⟩
theorem st_years : St_years IX := by
  intro S U x1 x2 x3 hI
  have hY2 := hI.1.2.1
  by_cases h1 : F_X6_within x1 0 1 = 0
  · exact ⟨-2, S, U, by unfold F_X6_years; rw [if_pos h1], by unfold F_X7_years; rw [in_within, if_pos h1], hI⟩
  by_cases h3 : F_X6_within x3 0 1 = 0
  · refine ⟨-2, S, U, by unfold F_X6_years; rw [if_neg h1, if_pos h3], ?_, hI⟩
    unfold F_X7_years
    rw [in_within, if_neg h1, in_within, xlet_eq, if_pos h3]
    by_cases h0 : x1 = 0
    · rw [if_pos h0]
      by_cases hg : F_X7_isGrave U x2 = 0
      · rw [if_pos hg]
      · rw [if_neg hg]
    · rw [if_neg h0]
      by_cases hg : F_X7_isKind x2 = 0
      · rw [if_pos hg]
      · rw [if_neg hg]
  obtain ⟨a, rfl, -, ha⟩ := within_nI (a := 0) (b := 1) (by decide) (by decide) h1
  obtain ⟨e, rfl, -, he⟩ := within_nI (a := 0) (b := 1) (by decide) (by decide) h3
  have ha2 : a = 0 ∨ a = 1 := by omega
  rcases ha2 with rfl | rfl
  · by_cases hg : F_X6_isGrave S x2 = 0
    · exact ⟨-2, S, U, by unfold F_X6_years; rw [if_neg h1, if_neg h3, xlet_eq, if_pos nI_0, if_pos hg], by unfold F_X7_years; rw [in_within, if_neg h1, xlet_eq, if_pos nI_0, isGrave_eq hY2, if_pos hg], hI⟩
    · obtain ⟨g, rfl, hgl⟩ := isGrave_n hI.1.1 hg
      obtain ⟨r, S', U', e1, e2, hF⟩ := gyear_now hI hgl he
      refine ⟨r, S', U', e1, ?_, hF.1⟩
      unfold F_X7_years
      rw [in_within, if_neg h1, xlet_eq, if_pos nI_0, isGrave_eq hY2, if_neg hg, in_within, if_neg h3, if_pos nI_0, e2]; rfl
  · have n10 : ¬ nI 1 = 0 := by decide
    by_cases hk0 : F_X6_isKind x2 = 0
    · exact ⟨-2, S, U, by unfold F_X6_years; rw [if_neg h1, if_neg h3, xlet_eq, if_neg n10, if_pos hk0], by unfold F_X7_years; rw [in_within, if_neg h1, xlet_eq, if_neg n10, show F_X7_isKind x2 = F_X6_isKind x2 from rfl, if_pos hk0], hI⟩
    · obtain ⟨k, rfl, -, hk⟩ := within_nI (a := 0) (b := 9) (by decide) (by decide) hk0
      obtain ⟨S1, V, e1, -, e3, hF⟩ := both hI
      obtain ⟨S1', se1, sI, -⟩ := settle_inv hI
      unfold F_X6_years F_X7_years
      rw [if_neg h1, if_neg h3, xlet_eq, if_neg n10, if_neg hk0, in_within, if_neg h1, xlet_eq, if_neg n10, show F_X7_isKind (nI k) = F_X6_isKind (nI k) from rfl, if_neg hk0, in_within, if_neg h3, if_neg n10, e1]
      simp only [Option.bind_some]
      have hn8 := hF.2.2.1.1.1
      have hU0 : U.1 0 0 = nI (pbS S).n := by rw [← hY2]; exact hI.1.1.1
      have hkds : ∀ g, g < 8 → S1 10 g = nI (kdS S1 g) := fun g hg => by
        have := (hF.2.2.1.2.2.2.2.1 g hg).2.2.2.2.2.2
        unfold kdS
        rw [this, xti_nI (Nat.lt_trans (hF.2.2.1.1.2.1 g) (by decide))]
      have hkd : ∀ g, g < (pbS S).n → kdS S1 g = (pbS S).kd g := fun g hg => by
        have := (hF.2.2.1.2.2.2.2.1 g (by omega)).2.2.2.2.2.2
        unfold kdS
        rw [this, xti_nI (Nat.lt_trans (hF.2.2.1.1.2.1 g) (by decide))]
      have hko := kindsOfAll_eq (S := S1) (n := (pbS S).n) hF.2.2.1.2.1 hn8 hkds
      rw [orN_congr hkd] at hko
      have hol : orN (pbS S).kd (pbS S).n < 2 ^ 10 := orN_lt (fun g _ => hF.2.2.1.1.2.1 g)
      by_cases hn0 : (pbS S).n = 0
      · -- no graves
        have hL : ¬ (pbS S).L = [] := by
          intro h
          have : (pbS S).L = [[]] := by unfold Pb.L; rw [hn0]; rfl
          rw [this] at h; cases h
        have hIU : IX S1 U := by
          have := Option.some.inj (e1.symm.trans se1)
          have h2 : S1 = S1' := congrArg Prod.snd this
          rw [h2]; exact sI
        refine ⟨-3, S1, U, ?_, ?_, hIU⟩
        · rw [anyI_1 hL, if_neg i10, if_neg n10, hko, Option.bind_some, hn0]
          rw [if_pos (show (nI (orN (pbS S).kd 0) >>> (nI k &&& 31)) &&& (1 : Int32) = 0 from (nI_bit0 (show orN (pbS S).kd 0 < 2 ^ 31 from by show 0 < 2 ^ 31; decide) (by omega)).mpr (by show (0 : Nat).testBit k = false; simp))]
        · refine xlp_Q (Q := fun o => o = some ((-3 : Int32), U)) (I := fun _ t => t = ((-3 : Int32), 0, U)) 0 0 (by omega) (by omega) rfl (fun j t rc a1 a2 _ => by omega) ?_
          rintro _ rc rfl
          show B_X7_years_61 (nI k) (nI e) _ rc (-3) 0 U = _
          unfold B_X7_years_61
          rw [hU0, hn0, if_pos (by decide)]
      · by_cases hL : (pbS S).L = []
        · refine ⟨-3, S1, V, by rw [anyI_0 hL, if_pos rfl], ?_, hF.1⟩
          refine xlp_Q (Q := fun o => o = some ((-3 : Int32), V)) (I := fun _ t => t = ((-3 : Int32), 0, U)) 0 0 (by omega) (by omega) rfl (fun j t rc a1 a2 _ => by omega) ?_
          rintro _ rc rfl
          show B_X7_years_61 (nI k) (nI e) _ rc (-3) 0 U = _
          unfold B_X7_years_61
          rw [hU0, if_neg (nI_nle (by omega) (by omega)), e3, anyI_0 hL]
          simp only [Option.bind_some]
          rw [if_pos trivial]
        · obtain ⟨f, f1, f2, f3, f4, f5, f6, f7⟩ := the_row hF hL
          have hlt : ∀ i, i < (pbS S).n → ix f i < (pbS S).n := fun i hi => f5 _ (ix_mem (by omega))
          have hYB : ∀ g, g < (pbS S).n → ∃ v, v ≤ 99 ∧ F_X1_yearOfGrave S1 (nI g) (nI e) = some (nI v) ∧ F_X7_yearOf V (nI g) (nI e) = some (nI v) := fun g hg => by
            obtain ⟨a, ha', ea⟩ := ix_of (L_all f1 hg)
            obtain ⟨v, v1, v2, v3⟩ := year_both hF.2.2.1 hF.2.2.2.1 f6 f7 f3 f4 hlt (a := a) (by omega) e he
            rw [ea] at v2 v3
            exact ⟨v, v1, v2, v3⟩
          obtain ⟨Y, hYd⟩ : ∃ Y : Nat → Nat, ∀ g, Y g = xti ((F_X1_yearOfGrave S1 (nI g) (nI e)).getD 0) := ⟨_, fun _ => rfl⟩
          have hYv : ∀ g, g < (pbS S).n → F_X1_yearOfGrave S1 (nI g) (nI e) = some (nI (Y g)) ∧ F_X7_yearOf V (nI g) (nI e) = some (nI (Y g)) ∧ Y g ≤ 99 := fun g hg => by
            obtain ⟨v, v1, v2, v3⟩ := hYB g hg
            have : Y g = v := by rw [hYd g, v2]; exact xti_nI (by omega)
            rw [this]; exact ⟨v2, v3, v1⟩
          obtain ⟨r, er, hr⟩ := yKR (U := U) hF.2.2.2.1 hn8 hU0 (by rw [e3, anyI_1 hL]) (by rw [areAny_fr hF, anyI_1 hL]) (k := k) (by omega) he (Y := Y) (fun g hg => ⟨(hYv g hg).2.1, (hYv g hg).2.2⟩) (by omega)
          rw [er, anyI_1 hL, if_neg i10, if_neg n10, hko, Option.bind_some]
          rcases hr with ⟨hr1, hr2⟩ | ⟨v, hr1, hr2⟩
          · rw [if_pos ((nI_bit0 (by omega) (by omega)).mpr (by
              cases hb : (orN (pbS S).kd (pbS S).n).testBit k with
              | false => rfl
              | true =>
                obtain ⟨g, g1, g2⟩ := (orN_bit _ _ _).mp hb
                rw [hr2 g g1] at g2; cases g2)), hr1]
            exact ⟨_, _, _, rfl, rfl, hF.1⟩
          · obtain ⟨⟨g, ⟨g1, g2⟩, g3⟩, g4⟩ := hr2
            have hb : (orN (pbS S).kd (pbS S).n).testBit k = true := (orN_bit _ _ _).mpr ⟨g, g1, g2⟩
            have hex : ∃ i, i < (pbS S).n ∧ hf (pbS S) f k i = true := by
              obtain ⟨i, hi, ei⟩ := ix_of (L_all f1 g1)
              exact ⟨i, by omega, by unfold hf; rw [ei]; exact g2⟩
            obtain ⟨w, ew, hw⟩ := yKC hF.2.2.1 f6 hlt (k := k) (by omega) he (Y := Y) (fun i hi => ⟨(hYv _ (hlt i hi)).1, (hYv _ (hlt i hi)).2.2⟩) hex
            rw [if_neg (fun q => by rw [nI_bit0 (by omega) (by omega), hb] at q; cases q), ew]
            have hH : yOf e (fun g => g < (pbS S).n ∧ ((pbS S).kd g).testBit k = true) Y w := by
              obtain ⟨⟨g', ⟨i, i1, i2, i3⟩, j2⟩, j3⟩ := hw
              refine ⟨⟨g', ⟨by rw [← i3]; exact hlt i i1, by rw [← i3]; exact i2⟩, j2⟩, ?_⟩
              rintro g'' ⟨a1, a2⟩
              obtain ⟨i', hi', ei'⟩ := ix_of (L_all f1 a1)
              exact j3 g'' ⟨i', by omega, by unfold hf; rw [ei']; exact a2, ei'⟩
            have : v = w := yOf_uni ⟨⟨g, ⟨g1, g2⟩, g3⟩, g4⟩ hH
            rw [hr1, this]
            exact ⟨_, _, _, rfl, rfl, hF.1⟩
