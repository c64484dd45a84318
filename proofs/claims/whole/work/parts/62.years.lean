/-! YEARS -/
section YR
variable {P : Pb} {S : XSt} {U : XSr} {f : List Nat}
theorem placeOf_eq (hC : CP P S) (h22 : ∀ i, i < P.n → S 22 i = nI (ix f i)) (hl : f.length = P.n) (hnd : f.Nodup) (hlt : ∀ i, i < P.n → ix f i < P.n) {a : Nat} (ha : a < P.n) : F_X1_placeOf S (nI (ix f a)) = some (nI a) := by
  have hn := hC.1.1
  have hga := hlt a ha
  unfold F_X1_placeOf
  refine xlp_Q (Q := fun o => o = some (nI a)) (I := fun j t => t = (nI (if a < j then a else 0), nI j)) 0 P.n (by omega) (by omega) rfl ?_ ?_
  · rintro j _ rc - hj rfl
    right
    refine ⟨_, rfl, ?_⟩
    have hgj := hlt j hj
    show B_X1_placeOf_4 S (nI (ix f a)) _ rc (nI (if a < j then a else 0)) (nI j) = _
    unfold B_X1_placeOf_4
    rw [hC.2.1, if_neg (fun q => absurd ((nI_leI (by omega) (by omega)).mp q) (by omega)), if_pos (xin_nI (by omega) (by decide)), xti_nI (by omega), h22 j hj]
    simp only [xlet_eq, nI_1]
    by_cases e : j = a
    · rw [if_pos (by rw [e]), if_pos (by omega), e]
    · rw [if_neg (fun q => e (ix_inj hnd (by omega) (by omega) ((nI_eq (by omega) (by omega)).mp q)))]
      by_cases h : a < j
      · rw [if_pos h, if_pos (by omega)]
      · rw [if_neg h, if_neg (by omega)]
  · rintro _ rc rfl
    show B_X1_placeOf_4 S (nI (ix f a)) _ rc _ (nI P.n) = _
    unfold B_X1_placeOf_4
    rw [hC.2.1, if_pos ((nI_leI (by omega) (by omega)).mpr (Nat.le_refl _)), if_pos ha]
theorem max_le_iff {a b y : Nat} : max a b ≤ y ↔ a ≤ y ∧ b ≤ y := Nat.max_le
theorem le_min_iff {a b y : Nat} : y ≤ min a b ↔ y ≤ a ∧ y ≤ b := Nat.le_min
theorem eq_of_ge_iff {a b : Nat} (h : ∀ y, y ≤ a ↔ y ≤ b) : a = b := Nat.le_antisymm ((h a).mp (Nat.le_refl _)) ((h b).mpr (Nat.le_refl _))
/-- the years of a grave in the class -/
theorem yC0 (hC : CP P S) (h22 : ∀ i, i < P.n → S 22 i = nI (ix f i)) (hl : f.length = P.n) (hnd : f.Nodup) (hlt : ∀ i, i < P.n → ix f i < P.n) {a : Nat} (ha : a < P.n) : ∃ v, v ≤ 99 ∧ F_X1_yearOfGrave S (nI (ix f a)) 0 = some (nI v) ∧ ∀ y, v ≤ y ↔ ∀ i, i ≤ a → P.fr (ix f i) ≤ y := by
  have hn := hC.1.1
  have hga := hlt a ha
  have hfr : ∀ i, i < P.n → S 7 (ix f i) = nI (P.fr (ix f i)) ∧ P.fr (ix f i) ≤ 99 := fun i hi => ⟨(hC.2.2.2.2.1 _ (by have := hlt i hi; omega)).1, (hC.2.2.2.2.1 _ (by have := hlt i hi; omega)).2.1⟩
  unfold F_X1_yearOfGrave
  rw [placeOf_eq hC h22 hl hnd hlt ha, Option.bind_some, xlet_eq, if_pos rfl, if_pos (xin_nI (by omega) (by decide)), xti_nI (by omega), (hfr a ha).1]
  refine xlp_Q (Q := fun o => ∃ v, v ≤ 99 ∧ o = some (nI v) ∧ ∀ y, v ≤ y ↔ ∀ i, i ≤ a → P.fr (ix f i) ≤ y) (I := fun p t => ∃ v, v ≤ 99 ∧ t = (nI v, nI p) ∧ ∀ y, v ≤ y ↔ P.fr (ix f a) ≤ y ∧ ∀ i, i < a → i < p → P.fr (ix f i) ≤ y) 0 P.n (by omega) (by omega) ⟨_, (hfr a ha).2, rfl, fun y => ⟨fun h => ⟨h, fun i _ hi => by omega⟩, fun h => h.1⟩⟩ ?_ ?_
  · rintro p _ rc - hp ⟨v, hv, rfl, hvy⟩
    right
    show ∃ t', _ ∧ B_X1_yearOfGrave_36 S 0 (nI a) _ rc (nI v) (nI p) = rc t'
    unfold B_X1_yearOfGrave_36
    have hgp := hlt p hp
    rw [hC.2.1, if_neg (fun q => absurd ((nI_leI (by omega) (by omega)).mp q) (by omega))]
    simp only [xlet_eq, nI_1, ↓reduceIte]
    rw [if_neg (show ¬ (0 : Int32) = 1 by decide)]
    by_cases hpa : a ≤ p
    · rw [if_pos ((nI_leI (by omega) (by omega)).mpr hpa)]
      refine ⟨_, ⟨v, hv, rfl, fun y => ?_⟩, rfl⟩
      rw [hvy y]
      constructor
      · rintro ⟨h1, h2⟩; exact ⟨h1, fun i hi _ => h2 i hi (by omega)⟩
      · rintro ⟨h1, h2⟩; exact ⟨h1, fun i hi _ => h2 i hi (by omega)⟩
    · rw [if_neg (fun q => hpa ((nI_leI (by omega) (by omega)).mp q)), if_pos (xin_nI (by omega) (by decide)), xti_nI (by omega), h22 p hp, if_pos (xin_nI (by omega) (by decide)), xti_nI (by omega), (hfr p hp).1, xmax_nI (by omega) (by have := (hfr p hp).2; omega)]
      refine ⟨_, ⟨_, Nat.max_le.mpr ⟨hv, (hfr p hp).2⟩, rfl, fun y => ?_⟩, rfl⟩
      rw [Nat.max_le, hvy y]
      constructor
      · rintro ⟨⟨h1, h2⟩, h3⟩
        refine ⟨h1, fun i hi hip => ?_⟩
        by_cases e : i = p
        · rw [e]; exact h3
        · exact h2 i hi (by omega)
      · rintro ⟨h1, h2⟩
        exact ⟨⟨h1, fun i hi hip => h2 i hi (by omega)⟩, h2 p (by omega) (by omega)⟩
  · rintro _ rc ⟨v, hv, rfl, hvy⟩
    refine ⟨v, hv, ?_, fun y => ?_⟩
    · show B_X1_yearOfGrave_36 S 0 (nI a) _ rc (nI v) (nI P.n) = _
      unfold B_X1_yearOfGrave_36
      rw [hC.2.1, if_pos ((nI_leI (by omega) (by omega)).mpr (Nat.le_refl _))]
    · rw [hvy y]
      constructor
      · rintro ⟨h1, h2⟩ i hi
        by_cases e : i = a
        · rw [e]; exact h1
        · exact h2 i (by omega) (by omega)
      · intro h; exact ⟨h a (Nat.le_refl _), fun i hi _ => h i (by omega)⟩
theorem yC1 (hC : CP P S) (h22 : ∀ i, i < P.n → S 22 i = nI (ix f i)) (hl : f.length = P.n) (hnd : f.Nodup) (hlt : ∀ i, i < P.n → ix f i < P.n) {a : Nat} (ha : a < P.n) : ∃ v, v ≤ 99 ∧ F_X1_yearOfGrave S (nI (ix f a)) 1 = some (nI v) ∧ ∀ y, y ≤ v ↔ ∀ i, a ≤ i → i < P.n → y ≤ P.to (ix f i) := by
  have hn := hC.1.1
  have hga := hlt a ha
  have hfr : ∀ i, i < P.n → S 8 (ix f i) = nI (P.to (ix f i)) ∧ P.to (ix f i) ≤ 99 := fun i hi => ⟨(hC.2.2.2.2.1 _ (by have := hlt i hi; omega)).2.2.1, (hC.2.2.2.2.1 _ (by have := hlt i hi; omega)).2.2.2.1⟩
  unfold F_X1_yearOfGrave
  rw [placeOf_eq hC h22 hl hnd hlt ha, Option.bind_some, xlet_eq, if_neg i10, if_pos (xin_nI (by omega) (by decide)), xti_nI (by omega), (hfr a ha).1]
  refine xlp_Q (Q := fun o => ∃ v, v ≤ 99 ∧ o = some (nI v) ∧ ∀ y, y ≤ v ↔ ∀ i, a ≤ i → i < P.n → y ≤ P.to (ix f i)) (I := fun p t => ∃ v, v ≤ 99 ∧ t = (nI v, nI p) ∧ ∀ y, y ≤ v ↔ y ≤ P.to (ix f a) ∧ ∀ i, a < i → i < p → y ≤ P.to (ix f i)) 0 P.n (by omega) (by omega) ⟨_, (hfr a ha).2, rfl, fun y => ⟨fun h => ⟨h, fun i _ hi => by omega⟩, fun h => h.1⟩⟩ ?_ ?_
  · rintro p _ rc - hp ⟨v, hv, rfl, hvy⟩
    right
    show ∃ t', _ ∧ B_X1_yearOfGrave_36 S 1 (nI a) _ rc (nI v) (nI p) = rc t'
    unfold B_X1_yearOfGrave_36
    have hgp := hlt p hp
    rw [hC.2.1, if_neg (fun q => absurd ((nI_leI (by omega) (by omega)).mp q) (by omega))]
    simp only [xlet_eq, nI_1, ↓reduceIte]
    rw [if_neg i10]
    by_cases hpa : p ≤ a
    · rw [if_pos ((nI_leI (by omega) (by omega)).mpr hpa)]
      refine ⟨_, ⟨v, hv, rfl, fun y => ?_⟩, rfl⟩
      rw [hvy y]
      constructor
      · rintro ⟨h1, h2⟩; exact ⟨h1, fun i hi hip => by omega⟩
      · rintro ⟨h1, h2⟩; exact ⟨h1, fun i hi hip => by omega⟩
    · rw [if_neg (fun q => hpa ((nI_leI (by omega) (by omega)).mp q)), if_pos (xin_nI (by omega) (by decide)), xti_nI (by omega), h22 p hp, if_pos (xin_nI (by omega) (by decide)), xti_nI (by omega), (hfr p hp).1, xmin_nI (by omega) (by have := (hfr p hp).2; omega)]
      refine ⟨_, ⟨_, Nat.le_trans (Nat.min_le_left _ _) hv, rfl, fun y => ?_⟩, rfl⟩
      rw [Nat.le_min, hvy y]
      constructor
      · rintro ⟨⟨h1, h2⟩, h3⟩
        refine ⟨h1, fun i hi hip => ?_⟩
        by_cases e : i = p
        · rw [e]; exact h3
        · exact h2 i hi (by omega)
      · rintro ⟨h1, h2⟩
        exact ⟨⟨h1, fun i hi hip => h2 i hi (by omega)⟩, h2 p (by omega) (by omega)⟩
  · rintro _ rc ⟨v, hv, rfl, hvy⟩
    refine ⟨v, hv, ?_, fun y => ?_⟩
    · show B_X1_yearOfGrave_36 S 1 (nI a) _ rc (nI v) (nI P.n) = _
      unfold B_X1_yearOfGrave_36
      rw [hC.2.1, if_pos ((nI_leI (by omega) (by omega)).mpr (Nat.le_refl _))]
    · rw [hvy y]
      constructor
      · rintro ⟨h1, h2⟩ i hi hin
        by_cases e : i = a
        · rw [e]; exact h1
        · exact h2 i (by omega) hin
      · intro h; exact ⟨h a (Nat.le_refl _) ha, fun i hi hin => h i (by omega) hin⟩
/-- the years of a grave in the reference -/
theorem yR0 (hR : RP P U) (h17 : ∀ i, i < P.n → U.1 17 i = nI (ix f i)) (hl : f.length = P.n) (hnd : f.Nodup) (hlt : ∀ i, i < P.n → ix f i < P.n) {a : Nat} (ha : a < P.n) : ∃ v, v ≤ 99 ∧ F_X7_yearOf U (nI (ix f a)) 0 = some (nI v) ∧ ∀ y, v ≤ y ↔ ∀ i, i ≤ a → P.fr (ix f i) ≤ y := by
  have hn := hR.1.1
  have hga := hlt a ha
  have hfr : ∀ i, i < P.n → U.1 1 (ix f i) = nI (P.fr (ix f i)) ∧ P.fr (ix f i) ≤ 99 := fun i hi => ⟨(hR.2.2.2.2.1 _ (by have := hlt i hi; omega)).1, (hR.2.2.2.2.1 _ (by have := hlt i hi; omega)).2.1⟩
  unfold F_X7_yearOf
  rw [xlet_eq, if_pos rfl]
  refine xlp_Q (Q := fun o => ∃ v, v ≤ 99 ∧ o = some (nI v) ∧ ∀ y, v ≤ y ↔ ∀ i, i ≤ a → P.fr (ix f i) ≤ y) (I := fun p t => ∃ v, v ≤ 99 ∧ t = (nI v, (if p ≤ a then 1 else 0), nI p) ∧ ∀ y, v ≤ y ↔ ∀ i, i < p → P.fr (ix f i) ≤ y) 0 (a + 1) (by omega) (by omega) ⟨0, by omega, rfl, fun y => ⟨fun _ i hi => by omega, fun _ => Nat.zero_le _⟩⟩ ?_ ?_
  · rintro p _ rc - hp ⟨v, hv, rfl, hvy⟩
    right
    have hgp := hlt p (by omega)
    have hf99 := (hfr p (by omega)).2
    rw [if_pos (show p ≤ a by omega)]
    show ∃ t', _ ∧ B_X7_yearOf_17 U (nI (ix f a)) 0 _ rc (nI v) 1 (nI p) = rc t'
    unfold B_X7_yearOf_17
    have hx : xin (nI (ix f p)) 8 = true := xin_nI (by omega) (by decide)
    rw [hR.2.1, if_neg (fun q => absurd ((nI_leI (by omega) (by omega)).mp q) (by omega)), if_neg i10]
    simp only [xlet_eq, nI_1, ↓reduceIte]
    rw [if_pos (xin_nI (by omega) (by decide)), xti_nI (show p < 2 ^ 31 by omega), h17 p (by omega), if_pos hx, if_pos hx, xti_nI (show ix f p < 2 ^ 31 by omega), (hfr p (by omega)).1]
    have new : ∀ y, max v (P.fr (ix f p)) ≤ y ↔ ∀ i, i < p + 1 → P.fr (ix f i) ≤ y := by
      intro y
      rw [Nat.max_le, hvy y]
      constructor
      · rintro ⟨h1, h2⟩ i hi
        by_cases e : i = p
        · rw [e]; exact h2
        · exact h1 i (by omega)
      · intro h; exact ⟨fun i hi => h i (by omega), h p (by omega)⟩
    have fin2 : ∀ w : Nat, w = max v (P.fr (ix f p)) → ∃ t', (∃ v, v ≤ 99 ∧ t' = (nI v, (if p + 1 ≤ a then 1 else 0), nI (p + 1)) ∧ ∀ y, v ≤ y ↔ ∀ i, i < p + 1 → P.fr (ix f i) ≤ y) ∧ (if nI (ix f p) = nI (ix f a) then rc (nI w, 0, nI (p + 1)) else rc (nI w, 1, nI (p + 1))) = rc t' := by
      intro w hw
      refine ⟨(nI w, (if p + 1 ≤ a then 1 else 0), nI (p + 1)), ⟨w, by rw [hw]; exact Nat.max_le.mpr ⟨hv, hf99⟩, rfl, by rw [hw]; exact new⟩, ?_⟩
      by_cases e : p = a
      · rw [if_pos (by rw [e]), if_neg (by omega)]
      · rw [if_neg (fun q => e (ix_inj hnd (by omega) (by omega) ((nI_eq (by omega) (by omega)).mp q))), if_pos (by omega)]
    by_cases hc : P.fr (ix f p) ≤ v
    · rw [if_pos ((nI_leI (by omega) (by omega)).mpr hc)]
      exact fin2 v (Nat.max_eq_left hc).symm
    · rw [if_neg (fun q => hc ((nI_leI (by omega) (by omega)).mp q))]
      exact fin2 _ (Nat.max_eq_right (by omega)).symm
  · rintro _ rc ⟨v, hv, rfl, hvy⟩
    refine ⟨v, hv, ?_, fun y => ?_⟩
    · rw [if_neg (show ¬ a + 1 ≤ a by omega)]
      show B_X7_yearOf_17 U (nI (ix f a)) 0 _ rc (nI v) 0 (nI (a + 1)) = _
      unfold B_X7_yearOf_17
      by_cases h : P.n ≤ a + 1
      · rw [hR.2.1, if_pos ((nI_leI (by omega) (by omega)).mpr h)]
      · rw [hR.2.1, if_neg (fun q => h ((nI_leI (by omega) (by omega)).mp q)), if_pos rfl]
    · rw [hvy y]
      exact ⟨fun h i hi => h i (by omega), fun h i hi => h i (by omega)⟩
theorem yR1 (hR : RP P U) (h17 : ∀ i, i < P.n → U.1 17 i = nI (ix f i)) (hl : f.length = P.n) (hnd : f.Nodup) (hlt : ∀ i, i < P.n → ix f i < P.n) {a : Nat} (ha : a < P.n) : ∃ v, v ≤ 99 ∧ F_X7_yearOf U (nI (ix f a)) 1 = some (nI v) ∧ ∀ y, y ≤ v ↔ ∀ i, a ≤ i → i < P.n → y ≤ P.to (ix f i) := by
  have hn := hR.1.1
  have hga := hlt a ha
  have hfr : ∀ i, i < P.n → U.1 2 (ix f i) = nI (P.to (ix f i)) ∧ P.to (ix f i) ≤ 99 := fun i hi => ⟨(hR.2.2.2.2.1 _ (by have := hlt i hi; omega)).2.2.1, (hR.2.2.2.2.1 _ (by have := hlt i hi; omega)).2.2.2.1⟩
  unfold F_X7_yearOf
  rw [xlet_eq, if_neg i10]
  refine xlp_Q (Q := fun o => ∃ v, v ≤ 99 ∧ o = some (nI v) ∧ ∀ y, y ≤ v ↔ ∀ i, a ≤ i → i < P.n → y ≤ P.to (ix f i)) (I := fun p t => ∃ v, v ≤ 99 ∧ t = (nI v, (if p ≤ P.n - 1 - a then 1 else 0), nI p) ∧ ∀ y, y ≤ v ↔ y ≤ 99 ∧ ∀ i, P.n - p ≤ i → i < P.n → y ≤ P.to (ix f i)) 0 (P.n - a) (by omega) (by omega) ⟨99, Nat.le_refl _, by rw [if_pos (Nat.zero_le _)]; rfl, fun y => ⟨fun h => ⟨h, fun i h1 h2 => by omega⟩, fun h => h.1⟩⟩ ?_ ?_
  · rintro p _ rc - hp ⟨v, hv, rfl, hvy⟩
    right
    have hgp := hlt (P.n - 1 - p) (by omega)
    have hf99 := (hfr (P.n - 1 - p) (by omega)).2
    rw [if_pos (show p ≤ P.n - 1 - a by omega)]
    show ∃ t', _ ∧ B_X7_yearOf_17 U (nI (ix f a)) 1 _ rc (nI v) 1 (nI p) = rc t'
    unfold B_X7_yearOf_17
    have hx : xin (nI (ix f (P.n - 1 - p))) 8 = true := xin_nI (by omega) (by decide)
    have e1 : nI P.n - (1 : Int32) = nI (P.n - 1) := pk_sub (b := 1) (by omega)
    have e2 : nI (P.n - 1) - nI p = nI (P.n - 1 - p) := pk_sub (by omega)
    rw [hR.2.1, if_neg (fun q => absurd ((nI_leI (by omega) (by omega)).mp q) (by omega)), if_neg i10]
    simp only [xlet_eq, nI_1]
    rw [if_neg i10, if_neg i10, e1, e2, if_pos (xin_nI (by omega) (by decide)), xti_nI (show P.n - 1 - p < 2 ^ 31 by omega), h17 _ (by omega), if_pos hx, if_pos hx, xti_nI (show ix f (P.n - 1 - p) < 2 ^ 31 by omega), (hfr _ (by omega)).1]
    have new : ∀ y, y ≤ min v (P.to (ix f (P.n - 1 - p))) ↔ y ≤ 99 ∧ ∀ i, P.n - (p + 1) ≤ i → i < P.n → y ≤ P.to (ix f i) := by
      intro y
      rw [Nat.le_min, hvy y]
      constructor
      · rintro ⟨⟨h0, h1⟩, h2⟩
        refine ⟨h0, fun i hi hin => ?_⟩
        by_cases e : i = P.n - 1 - p
        · rw [e]; exact h2
        · exact h1 i (by omega) hin
      · rintro ⟨h0, h⟩; exact ⟨⟨h0, fun i hi hin => h i (by omega) hin⟩, h _ (by omega) (by omega)⟩
    have fin2 : ∀ w : Nat, w = min v (P.to (ix f (P.n - 1 - p))) → ∃ t', (∃ v, v ≤ 99 ∧ t' = (nI v, (if p + 1 ≤ P.n - 1 - a then 1 else 0), nI (p + 1)) ∧ ∀ y, y ≤ v ↔ y ≤ 99 ∧ ∀ i, P.n - (p + 1) ≤ i → i < P.n → y ≤ P.to (ix f i)) ∧ (if nI (ix f (P.n - 1 - p)) = nI (ix f a) then rc (nI w, 0, nI (p + 1)) else rc (nI w, 1, nI (p + 1))) = rc t' := by
      intro w hw
      refine ⟨(nI w, (if p + 1 ≤ P.n - 1 - a then 1 else 0), nI (p + 1)), ⟨w, by rw [hw]; exact Nat.le_trans (Nat.min_le_left _ _) hv, rfl, by rw [hw]; exact new⟩, ?_⟩
      by_cases e : P.n - 1 - p = a
      · rw [if_pos (by rw [e]), if_neg (by omega)]
      · rw [if_neg (fun q => e (ix_inj hnd (by omega) (by omega) ((nI_eq (by omega) (by omega)).mp q))), if_pos (by omega)]
    by_cases hc : v ≤ P.to (ix f (P.n - 1 - p))
    · rw [if_pos ((nI_leI (by omega) (by omega)).mpr hc)]
      exact fin2 v (Nat.min_eq_left hc).symm
    · rw [if_neg (fun q => hc ((nI_leI (by omega) (by omega)).mp q))]
      exact fin2 _ (Nat.min_eq_right (by omega)).symm
  · rintro _ rc ⟨v, hv, rfl, hvy⟩
    refine ⟨v, hv, ?_, fun y => ?_⟩
    · rw [if_neg (show ¬ P.n - a ≤ P.n - 1 - a by omega)]
      show B_X7_yearOf_17 U (nI (ix f a)) 1 _ rc (nI v) 0 (nI (P.n - a)) = _
      unfold B_X7_yearOf_17
      by_cases h : P.n ≤ P.n - a
      · rw [hR.2.1, if_pos ((nI_leI (by omega) (by omega)).mpr h)]
      · rw [hR.2.1, if_neg (fun q => h ((nI_leI (by omega) (by omega)).mp q)), if_pos rfl]
    · rw [hvy y, show P.n - (P.n - a) = a by omega]
      constructor
      · rintro ⟨-, h⟩; exact h
      · intro h; exact ⟨Nat.le_trans (h a (Nat.le_refl _) ha) (hfr a ha).2, h⟩
/-- both tell one year -/
theorem year_both (hC : CP P S) (hR : RP P U) (h22 : ∀ i, i < P.n → S 22 i = nI (ix f i)) (h17 : ∀ i, i < P.n → U.1 17 i = nI (ix f i)) (hl : f.length = P.n) (hnd : f.Nodup) (hlt : ∀ i, i < P.n → ix f i < P.n) {a : Nat} (ha : a < P.n) (e : Nat) (he : e ≤ 1) : ∃ v, v ≤ 99 ∧ F_X1_yearOfGrave S (nI (ix f a)) (nI e) = some (nI v) ∧ F_X7_yearOf U (nI (ix f a)) (nI e) = some (nI v) := by
  have h2 : e = 0 ∨ e = 1 := by omega
  rcases h2 with rfl | rfl
  · obtain ⟨v, v1, v2, v3⟩ := yC0 hC h22 hl hnd hlt ha
    obtain ⟨w, w1, w2, w3⟩ := yR0 hR h17 hl hnd hlt ha
    have : v = w := eq_of_le_iff (fun y => (v3 y).trans (w3 y).symm)
    subst this
    exact ⟨v, v1, v2, w2⟩
  · obtain ⟨v, v1, v2, v3⟩ := yC1 hC h22 hl hnd hlt ha
    obtain ⟨w, w1, w2, w3⟩ := yR1 hR h17 hl hnd hlt ha
    have : v = w := eq_of_ge_iff (fun y => (v3 y).trans (w3 y).symm)
    subst this
    exact ⟨v, v1, v2, w2⟩
end YR
