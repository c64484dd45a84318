/-! PHASES: the reference's loop; the step -/
theorem bst_eq {n m : Nat} (hn : n ≤ 8) {sC' sR' : Nat → Nat} (hs : ∀ c, sC' (rv n c) = sR' c) {b c : Nat} (hb : bst (fun c => c < 2 ^ (n - 1) ∧ popN 12 c = m) sR' (rv n) b) (hc : bst (fun c => c < 2 ^ (n - 1) ∧ popN 12 c = m) sC' (fun c => c) c) : c = rv n b := by
  have hN := two7 hn
  obtain ⟨⟨b1, b2⟩, b3⟩ := hb
  obtain ⟨⟨c1, c2⟩, c3⟩ := hc
  have fb := rv_fact n (by omega) b (by omega) b1
  have fc := rv_fact n (by omega) c (by omega) c1
  have h1 := c3 (rv n b) ⟨rv_lt n b, by rw [fb.2]; exact b2⟩
  have h2 := b3 (rv n c) ⟨rv_lt n c, by rw [fc.2]; exact c2⟩
  have e1 := hs b
  have e2 := hs (rv n c)
  rw [fc.1] at e2 h2
  have h1' : sC' c < sC' (rv n b) ∨ (sC' c = sC' (rv n b) ∧ rv n b ≤ c) := h1
  omega
section P3
variable {P : Pb} {S : XSt} {U V : XSr} {f : List Nat}
theorem phR (hR : RP P V) (h17 : ∀ i, i < P.n → V.1 17 i = nI (ix f i)) (hlt : ∀ i, i < P.n → ix f i < P.n) {m : Nat} (hn0 : 0 < P.n) (hm : m ≤ 8) (hex : ∃ c, c < 2 ^ (P.n - 1) ∧ popN 12 c = m) (c2 : Int32) (KK : Int32 × XSr → Option (Int32 × XSr)) : ∃ (b : Nat) (W : XSr), xlp (fun k rc t => B_X7_phasesNow_24 (nI (m + 1)) c2 k rc t.1 t.2.1 t.2.2) KK XFU (100000, 0, V) = KK (nI (sR P f b), W) ∧ bst (fun c => c < 2 ^ (P.n - 1) ∧ popN 12 c = m) (sR P f) (rv P.n) b ∧ PA P (chR b) 21 W ∧ (∀ q, q ≠ 20 → q ≠ 21 → W.1 q = V.1 q) ∧ W.2 = V.2 := by
  have hn := hR.1.1
  have hN := two7 hn
  have hN0 : 0 < 2 ^ (P.n - 1) := Nat.two_pow_pos _
  have hs : ∀ c, sR P f c ≤ 360 := fun c => strN_le hR.1 f _
  have e1 : nI P.n - (1 : Int32) = nI (P.n - 1) := pk_sub (b := 1) (by omega)
  refine xlp_Q (Q := fun o => ∃ (b : Nat) (W : XSr), o = KK (nI (sR P f b), W) ∧ bst (fun c => c < 2 ^ (P.n - 1) ∧ popN 12 c = m) (sR P f) (rv P.n) b ∧ PA P (chR b) 21 W ∧ (∀ q, q ≠ 20 → q ≠ 21 → W.1 q = V.1 q) ∧ W.2 = V.2)
    (I := fun j t => ∃ (l : Nat) (W : XSr), t = (nI l, nI j, W) ∧ l ≤ 100000 ∧ (∀ q, q ≠ 20 → q ≠ 21 → W.1 q = V.1 q) ∧ W.2 = V.2 ∧ ((l = 100000 ∧ ∀ c, c < j → popN 12 c ≠ m) ∨ ∃ b, l = sR P f b ∧ PA P (chR b) 21 W ∧ bst (fun c => c < j ∧ popN 12 c = m) (sR P f) (rv P.n) b)) 0 (2 ^ (P.n - 1)) (by omega) (by omega) ⟨100000, V, rfl, Nat.le_refl _, fun _ _ _ => rfl, rfl, Or.inl ⟨rfl, fun c hc => by omega⟩⟩ ?_ ?_
  · rintro j _ rc - hj ⟨l, W, rfl, hl, wfr, w2, hbw⟩
    right
    have w00 : W.1 0 0 = nI P.n := by rw [wfr 0 (by decide) (by decide)]; exact hR.2.1
    have hpl := popN_le 12 j
    have hsj := hs j
    have skip : ∀ X : XSr, (∀ q, q ≠ 20 → q ≠ 21 → X.1 q = V.1 q) → X.2 = V.2 → X.1 21 = W.1 21 → ¬ (popN 12 j = m ∧ (sR P f j < l ∨ (sR P f j = l ∧ ∀ b, l = sR P f b → bst (fun c => c < j ∧ popN 12 c = m) (sR P f) (rv P.n) b → PA P (chR b) 21 W → rv P.n b < rv P.n j))) → ∃ t', (∃ (l : Nat) (W : XSr), t' = (nI l, nI (j + 1), W) ∧ l ≤ 100000 ∧ (∀ q, q ≠ 20 → q ≠ 21 → W.1 q = V.1 q) ∧ W.2 = V.2 ∧ ((l = 100000 ∧ ∀ c, c < j + 1 → popN 12 c ≠ m) ∨ ∃ b, l = sR P f b ∧ PA P (chR b) 21 W ∧ bst (fun c => c < j + 1 ∧ popN 12 c = m) (sR P f) (rv P.n) b)) ∧ rc (nI l, nI (j + 1), X) = rc t' := by
      intro X xfr x2 x21 hno
      refine ⟨_, ⟨l, X, rfl, hl, xfr, x2, ?_⟩, rfl⟩
      rcases hbw with ⟨h1, h2⟩ | ⟨b, h1, h2, ⟨h3, h3'⟩, h4⟩
      · refine Or.inl ⟨h1, fun c hc => ?_⟩
        by_cases e : c = j
        · subst e
          intro hp
          exact hno ⟨hp, Or.inl (by omega)⟩
        · exact h2 c (by omega)
      · refine Or.inr ⟨b, h1, fun i hi => by rw [x21]; exact h2 i hi, ⟨by omega, h3'⟩, ?_⟩
        rintro c ⟨q1, q2⟩
        by_cases e : c = j
        · subst e
          rcases Nat.lt_trichotomy (sR P f b) (sR P f c) with h | h | h
          · exact Or.inl h
          · refine Or.inr ⟨h, ?_⟩
            rcases Nat.lt_or_ge (rv P.n b) (rv P.n c) with hlt' | hge
            · exfalso
              apply hno
              refine ⟨q2, Or.inr ⟨by omega, fun b' e1' e2' e3' => ?_⟩⟩
              -- the two bests have one number
              have f1 := e2'.2 b ⟨h3, h3'⟩
              have f2 := h4 b' e2'.1
              omega
            · exact hge
          · exact absurd ⟨q2, Or.inl (by omega)⟩ hno
        · exact h4 c ⟨by omega, q2⟩
    show ∃ t', _ ∧ B_X7_phasesNow_24 (nI (m + 1)) c2 _ rc (nI l) (nI j) W = rc t'
    unfold B_X7_phasesNow_24
    rw [w00, e1, nI_shl1 (by omega), if_neg (fun q => absurd ((nI_leI (by omega) (by omega)).mp q) (by omega)), ones_eq W (show j < 2 ^ 31 by omega), Option.bind_some, nI_sub1]
    by_cases hp : popN 12 j = m
    · rw [if_pos (by rw [hp]), xlet_eq, show xti (0 : Int32) = 0 from rfl]
      refine parts_fill (P := P) (U := W) (c := j) (by omega) w00 hn hn0 _ _ _ _ (fun o => ∃ t', (∃ (l : Nat) (W : XSr), t' = (nI l, nI (j + 1), W) ∧ l ≤ 100000 ∧ (∀ q, q ≠ 20 → q ≠ 21 → W.1 q = V.1 q) ∧ W.2 = V.2 ∧ ((l = 100000 ∧ ∀ c, c < j + 1 → popN 12 c ≠ m) ∨ ∃ b, l = sR P f b ∧ PA P (chR b) 21 W ∧ bst (fun c => c < j + 1 ∧ popN 12 c = m) (sR P f) (rv P.n) b)) ∧ o = rc t') (fun X xfr x2 xA => ?_)
      have xfrV : ∀ q, q ≠ 20 → q ≠ 21 → X.1 q = V.1 q := fun q h1 h2 => by rw [xfr q h1]; exact wfr q h1 h2
      have hRX : RP P X := hR.keep (fun q _ => xfrV q (by omega) (by omega)) (fun j' _ => by rw [xfrV 0 (by decide) (by decide)])
      have h17X : ∀ i, i < P.n → X.1 17 i = nI (ix f i) := fun i hi => by rw [xfrV 17 (by decide) (by decide)]; exact h17 i hi
      have hst : F_X7_straddles X = some (nI (sR P f j)) := strR_eq hRX h17X hlt xA
      rw [hst, Option.bind_some]
      simp only [xlet_eq, nI_1]
      have take : (∀ c, c < j ∧ popN 12 c = m → sR P f j < sR P f c ∨ (sR P f j = sR P f c ∧ rv P.n c ≤ rv P.n j)) → ∃ t', (∃ (l : Nat) (W : XSr), t' = (nI l, nI (j + 1), W) ∧ l ≤ 100000 ∧ (∀ q, q ≠ 20 → q ≠ 21 → W.1 q = V.1 q) ∧ W.2 = V.2 ∧ ((l = 100000 ∧ ∀ c, c < j + 1 → popN 12 c ≠ m) ∨ ∃ b, l = sR P f b ∧ PA P (chR b) 21 W ∧ bst (fun c => c < j + 1 ∧ popN 12 c = m) (sR P f) (rv P.n) b)) ∧ xlp (fun k rc t => B_X7_phasesNow_130 (nI (m + 1)) c2 (nI (sR P f j)) (nI j) k rc t.1 t.2) (fun e18 => rc (nI (sR P f j), nI (j + 1), e18)) XFU (0, X) = rc t' := by
        intro hbest
        refine parts_copy (P := P) (U := X) xA hRX.2.1 hn _ _ _ _ _ (fun o => ∃ t', (∃ (l : Nat) (W : XSr), t' = (nI l, nI (j + 1), W) ∧ l ≤ 100000 ∧ (∀ q, q ≠ 20 → q ≠ 21 → W.1 q = V.1 q) ∧ W.2 = V.2 ∧ ((l = 100000 ∧ ∀ c, c < j + 1 → popN 12 c ≠ m) ∨ ∃ b, l = sR P f b ∧ PA P (chR b) 21 W ∧ bst (fun c => c < j + 1 ∧ popN 12 c = m) (sR P f) (rv P.n) b)) ∧ o = rc t') (fun Y yfr y2 yA => ?_)
        refine ⟨_, ⟨sR P f j, Y, rfl, by omega, fun q h1 h2 => by rw [yfr q h2]; exact xfrV q h1 h2, by rw [y2, x2, w2], Or.inr ⟨j, rfl, yA, ⟨by omega, hp⟩, ?_⟩⟩, rfl⟩
        rintro c ⟨q1, q2⟩
        by_cases e : c = j
        · subst e; exact Or.inr ⟨rfl, Nat.le_refl _⟩
        · exact hbest c ⟨by omega, q2⟩
      by_cases hlt1 : sR P f j < l
      · rw [if_pos (nI_lt hlt1 (by omega))]
        refine take (fun c hc => ?_)
        rcases hbw with ⟨-, h2⟩ | ⟨b, h1, -, -, h4⟩
        · exact absurd hc.2 (h2 c hc.1)
        · rcases h4 c hc with h | h
          · left; omega
          · left; omega
      · rw [if_neg (nI_nlt (by omega) (by omega))]
        by_cases heq : sR P f j = l
        · rw [if_pos (by rw [heq])]
          rcases hbw with ⟨h1, -⟩ | ⟨b, h1, h2, h3, h4⟩
          · omega
          · have hA21 : PA P (chR b) 21 X := fun i hi => by rw [xfr 21 (by decide)]; exact h2 i hi
            rw [earl_eq hn hRX.2.1 (c := j) (b := b) hj (by omega) xA hA21, Option.bind_some]
            by_cases hrv : rv P.n b < rv P.n j
            · rw [if_pos hrv, if_neg i10]
              refine take (fun c hc => ?_)
              rcases h4 c hc with h | h
              · left; omega
              · right; exact ⟨by omega, by omega⟩
            · rw [if_neg hrv, if_pos rfl]
              refine skip X xfrV (by rw [x2, w2]) (xfr 21 (by decide)) ?_
              rintro ⟨-, h | ⟨-, h⟩⟩
              · omega
              · exact hrv (h b h1 ⟨h3, h4⟩ h2)
        · rw [if_neg (fun q => heq ((nI_eq (by omega) (by omega)).mp q))]
          refine skip X xfrV (by rw [x2, w2]) (xfr 21 (by decide)) ?_
          rintro ⟨-, h | ⟨h, -⟩⟩
          · omega
          · exact heq h
    · rw [if_neg (fun q => hp ((nI_eq (by omega) (by omega)).mp q)), xlet_eq, nI_1]
      exact skip W wfr w2 rfl (fun h => hp h.1)
  · rintro _ rc ⟨l, W, rfl, hl, wfr, w2, hbw⟩
    have w00 : W.1 0 0 = nI P.n := by rw [wfr 0 (by decide) (by decide)]; exact hR.2.1
    rcases hbw with ⟨-, h2⟩ | ⟨b, h1, h2, h3, h4⟩
    · obtain ⟨c, c1, c2'⟩ := hex
      exact absurd c2' (h2 c c1)
    · refine ⟨b, W, ?_, ⟨h3, h4⟩, h2, wfr, w2⟩
      show B_X7_phasesNow_24 (nI (m + 1)) c2 _ rc (nI l) (nI (2 ^ (P.n - 1))) W = _
      unfold B_X7_phasesNow_24
      rw [w00, e1, nI_shl1 (by omega), if_pos ((nI_leI (by omega) (by omega)).mpr (Nat.le_refl _)), h1]
theorem partC (hC : CP P S) (h22 : ∀ i, i < P.n → S 22 i = nI (ix f i)) (hl : f.length = P.n) (hnd : f.Nodup) (hlt : ∀ i, i < P.n → ix f i < P.n) {a c : Nat} (ha : a < P.n) (hc : c < 2 ^ 31) : F_X1_partOf S (nI (ix f a)) (nI c) = some (nI (pt (chC P.n c) a)) := by
  have hn := hC.1.1
  unfold F_X1_partOf
  rw [placeOf_eq hC h22 hl hnd hlt ha, Option.bind_some]
  refine xlp_Q (Q := fun o => o = some (nI (pt (chC P.n c) a))) (I := fun j t => t = (nI (pt (chC P.n c) (j - 1)), nI j)) 1 (a + 1) (by omega) (by omega) rfl ?_ ?_
  · rintro j _ rc hj1 hj rfl
    right
    obtain ⟨j', rfl⟩ : ∃ j', j = j' + 1 := ⟨j - 1, by omega⟩
    refine ⟨_, rfl, ?_⟩
    show B_X1_partOf_12 S (nI c) (nI a) _ rc (nI (pt (chC P.n c) j')) (nI (j' + 1)) = _
    unfold B_X1_partOf_12
    rw [if_neg (nI_nlt (by omega) (by omega)), cutA_eq hC hc (by omega), if_neg (show ¬ j' + 1 = 0 by omega)]
    simp only [xlet_eq, nI_1]
    show _ = rc (nI (pt (chC P.n c) j' + (chC P.n c (j' + 1)).toNat), nI (j' + 1 + 1))
    cases hb : chC P.n c (j' + 1) with
    | true => rw [if_neg (by decide)]; rfl
    | false => rw [if_pos (by decide), show (0 : Int32) = nI 0 from nI_0.symm, nI_add]; rfl
  · rintro _ rc rfl
    show B_X1_partOf_12 S (nI c) (nI a) _ rc _ (nI (a + 1)) = _
    unfold B_X1_partOf_12
    rw [if_pos (nI_lt (by omega) (by omega))]
    rfl
theorem partR (h00 : U.1 0 0 = nI P.n) (hn : P.n ≤ 8) (h17 : ∀ i, i < P.n → U.1 17 i = nI (ix f i)) (hl : f.length = P.n) (hnd : f.Nodup) (hlt : ∀ i, i < P.n → ix f i < P.n) {x : Nat → Bool} (hA : PA P x 21 U) {a : Nat} (ha : a < P.n) (KK : Int32 → Option (Int32 × XSr)) : xlp (fun k rc t => B_X7_phasesNow_178 U (nI (ix f a)) k rc t.1 t.2) KK XFU (0, 0) = KK (nI (pt x a)) := by
  have hga := hlt a ha
  refine xlp_Q (Q := fun o => o = KK (nI (pt x a))) (I := fun j t => t = (nI (if a < j then pt x a else 0), nI j)) 0 P.n (by omega) (by omega) rfl ?_ ?_
  · rintro j _ rc - hj rfl
    right
    refine ⟨_, rfl, ?_⟩
    have hgj := hlt j hj
    show B_X7_phasesNow_178 U (nI (ix f a)) _ rc (nI (if a < j then pt x a else 0)) (nI j) = _
    unfold B_X7_phasesNow_178
    rw [h00, if_neg (fun q => absurd ((nI_leI (by omega) (by omega)).mp q) (by omega)), if_pos (xin_nI (by omega) (by decide)), xti_nI (by omega), h17 j hj]
    simp only [xlet_eq, nI_1]
    by_cases e : j = a
    · rw [if_pos (by rw [e]), if_pos (xin_nI (by omega) (by decide)), if_pos (show a < j + 1 by omega), hA j hj, e]
    · rw [if_neg (fun q => e (ix_inj hnd (by omega) (by omega) ((nI_eq (by omega) (by omega)).mp q)))]
      by_cases h : a < j
      · rw [if_pos h, if_pos (by omega)]
      · rw [if_neg h, if_neg (by omega)]
  · rintro _ rc rfl
    show B_X7_phasesNow_178 U (nI (ix f a)) _ rc _ (nI P.n) = _
    unfold B_X7_phasesNow_178
    rw [h00, if_pos ((nI_leI (by omega) (by omega)).mpr (Nat.le_refl _)), if_pos ha]
end P3
theorem pop_ex : ∀ n, n < 9 → ∀ m, m < n → popN 12 (2 ^ m - 1) = m ∧ 2 ^ m - 1 < 2 ^ (n - 1) := by decide +kernel
/-- what a round of digest wants: both agree, and what graves have is laid -/
def DG (P : Pb) (S : XSt) (U : XSr) : Prop := IX S U ∧ pbS S = P ∧ ∀ g, g < xti (S 1 4) → U.1 14 g = S 10 g
theorem FR.dg {P : Pb} {S : XSt} {U : XSr} (h : FR P S U) : DG P S U := by
  obtain ⟨h1, h2, h3, h4, h5, h6, h7, h8⟩ := h
  refine ⟨h1, h2.symm, fun g hg => ?_⟩
  have hnn : P.n = xti (S 1 4) := by rw [h2]; rfl
  have hn := h3.1.1
  rw [h4.2.2.2.2.2.2.2 g (by omega), (h3.2.2.2.2.1 g (by omega)).2.2.2.2.2.2]
theorem phases_now {S : XSt} {U : XSr} (hI : IX S U) {m : Nat} (hm : m < 8) {x2 : Int32} (hx2 : x2 = -1 ∨ ∃ g, x2 = nI g ∧ g < xti (S 1 4)) : ∃ r S' U', F_X6_phases S (nI (m + 1)) x2 = some (r, S') ∧ F_X7_phasesNow U (nI (m + 1)) x2 = some (r, U') ∧ DG (pbS S) S' U' := by
  have hw : ¬ F_X6_within (nI (m + 1)) 1 8 = 0 := within_1.mpr ⟨show nI 1 ≤ nI (m + 1) from (nI_leI (by decide) (by omega)).mpr (by omega), show nI (m + 1) ≤ nI 8 from (nI_leI (by omega) (by decide)).mpr (by omega)⟩
  have h14 : S 1 4 = nI (pbS S).n := hI.1.1.1
  have hnn : (pbS S).n = xti (S 1 4) := rfl
  have hn8 := hI.1.1.2
  have hj : ∀ A : Option (Int32 × XSt), (if x2 = -1 then A else (if F_X6_isGrave S x2 = 0 then some (-2, S) else A)) = A := by
    intro A
    by_cases h : x2 = -1
    · rw [if_pos h]
    · rw [if_neg h]
      rcases hx2 with h' | ⟨g, rfl, hg⟩
      · exact absurd h' h
      · rw [if_neg (isGrave_y hI.1.1 hg)]
  unfold F_X6_phases
  rw [if_neg hw, xlet_eq, hj, h14]
  by_cases hmn : (pbS S).n < m + 1
  · rw [if_pos (nI_lt hmn (by omega))]
    obtain ⟨V, e, i, r, a, w⟩ := works_inv hI
    have hlen := L_len (P := pbS S) (good_of hI).1
    refine ⟨-3, S, V, rfl, ?_, i, rfl, fun g hg => ?_⟩
    · unfold F_X7_phasesNow F_X7_areAny
      rw [e, Option.bind_some, a.1.1]
      by_cases hL : (pbS S).L = []
      · rw [hL, if_pos (show nI ([] : List (List Nat)).length ≤ 0 by decide), Option.bind_some, if_pos rfl]
      · have : 0 < (pbS S).L.length := List.length_pos_iff.mpr hL
        rw [if_neg (nI_nle this (by omega)), Option.bind_some, if_neg i10]
        show (if nI (m + 1) ≤ V.1 0 0 then _ else some ((-3 : Int32), V)) = _
        rw [r.2.1, if_neg (fun q => absurd ((nI_leI (by omega) (by omega)).mp q) (by omega))]
    · rw [r.2.2.2.2.2.2.2 g (by omega), ((CP_of hI).2.2.2.2.1 g (by omega)).2.2.2.2.2.2]
  · rw [if_neg (nI_nlt (by omega) (by omega))]
    obtain ⟨S1, V, e1, -, e3, hF⟩ := both hI
    unfold F_X7_phasesNow
    rw [e1, e3]
    simp only [Option.bind_some]
    by_cases hL : (pbS S).L = []
    · rw [anyI_0 hL, if_pos rfl, if_pos rfl]
      exact ⟨_, _, _, rfl, rfl, hF.dg⟩
    · obtain ⟨f, f1, f2, f3, f4, f5, f6, f7⟩ := the_row hF hL
      have hlt : ∀ i, i < (pbS S).n → ix f i < (pbS S).n := fun i hi => f5 _ (ix_mem (by omega))
      have hall : ∀ g, g < (pbS S).n → ∃ i, i < (pbS S).n ∧ ix f i = g := fun g hg => by
        obtain ⟨i, hi, e⟩ := ix_of (L_all f1 hg)
        exact ⟨i, by omega, e⟩
      have hex : ∃ c, c < 2 ^ ((pbS S).n - 1) ∧ popN 12 c = m := ⟨2 ^ m - 1, (pop_ex (pbS S).n (by omega) m (by omega)).2, (pop_ex (pbS S).n (by omega) m (by omega)).1⟩
      obtain ⟨c, ec, hc⟩ := bestC hF.2.2.1 f6 hlt hall (m := m) (by omega) (by omega) hex
      obtain ⟨b, W, eb, hb, hA, wfr, w2⟩ := phR hF.2.2.2.1 f7 hlt (m := m) (by omega) (by omega) hex x2 (fun e23 => (if x2 = (-1) then (some (e23.1, e23.2)) else (xlp (fun k rc t => B_X7_phasesNow_178 e23.2 x2 k rc t.1 t.2) (fun e29 => (some (e29, e23.2))) XFU (0, 0))))
      have hcb : c = rv (pbS S).n b := bst_eq hn8 (fun c => sR_sC c) hb hc
      have hN := two7 (n := (pbS S).n) hn8
      have hc31 : c < 2 ^ 31 := by have := hc.1.1; omega
      have hFW : FR (pbS S) S1 W := hF.keepR (fun q _ h1 h2 => wfr q h1 h2) w2
      rw [anyI_1 hL, if_neg i10, if_neg i10, ec, hF.2.2.2.1.2.1, if_pos ((nI_leI (by omega) (by omega)).mpr (by omega)), eb]
      simp only [Option.bind_some]
      by_cases hx : x2 = -1
      · rw [if_pos hx, if_pos hx, strC_eq hF.2.2.1 f6 hlt hall hc31]
        have : strN (pbS S) f (chC (pbS S).n c) = sR (pbS S) f b := by rw [hcb]; exact sR_sC b
        rw [this]
        exact ⟨_, _, _, rfl, rfl, hFW.dg⟩
      · rw [if_neg hx, if_neg hx]
        rcases hx2 with h | ⟨g, rfl, hg⟩
        · exact absurd h hx
        · obtain ⟨a, ha, ea⟩ := hall g (by omega)
          have p1 := partC hF.2.2.1 f6 f3 f4 hlt ha hc31
          have p2 := partR (P := pbS S) (U := W) (by rw [wfr 0 (by decide) (by decide)]; exact hF.2.2.2.1.2.1) hn8 (fun i hi => by rw [wfr 17 (by decide) (by decide)]; exact f7 i hi) f3 f4 hlt hA ha (fun e29 => some (e29, W))
          rw [ea] at p1 p2
          rw [p1, p2]
          have : pt (chC (pbS S).n c) a = pt (chR b) a := pt_congr (n := (pbS S).n) (fun i h0 hi => by rw [hcb]; exact rv_bit h0 hi) ha
          rw [this]
          exact ⟨_, _, _, rfl, rfl, hFW.dg⟩
theorem st_phases : St_phases IX := by
  intro S U x1 x2 hI
  have hY2 := hI.1.2.1
  by_cases h1 : F_X6_within x1 1 8 = 0
  · exact ⟨-2, S, U, by unfold F_X6_phases; rw [if_pos h1], by unfold F_X7_phases; rw [in_within, if_pos h1], hI⟩
  · obtain ⟨p, rfl, hp1, hp8⟩ := within_nI (a := 1) (b := 8) (by decide) (by decide) h1
    obtain ⟨m, rfl⟩ : ∃ m, p = m + 1 := ⟨p - 1, by omega⟩
    by_cases hx : x2 = -1
    · obtain ⟨r, S', U', e1, e2, hD⟩ := phases_now hI (m := m) (by omega) (x2 := x2) (Or.inl hx)
      refine ⟨r, S', U', e1, ?_, hD.1⟩
      unfold F_X7_phases
      rw [in_within, if_neg h1, xlet_eq, if_pos hx, e2]; rfl
    · by_cases hg : F_X6_isGrave S x2 = 0
      · refine ⟨-2, S, U, ?_, ?_, hI⟩
        · unfold F_X6_phases
          rw [if_neg h1, xlet_eq, if_neg hx, if_pos hg]
        · unfold F_X7_phases
          rw [in_within, if_neg h1, xlet_eq, if_neg hx, isGrave_eq hY2, if_pos hg]
      · obtain ⟨g, rfl, hgl⟩ := isGrave_n hI.1.1 hg
        obtain ⟨r, S', U', e1, e2, hD⟩ := phases_now hI (m := m) (by omega) (x2 := nI g) (Or.inr ⟨g, rfl, hgl⟩)
        refine ⟨r, S', U', e1, ?_, hD.1⟩
        unfold F_X7_phases
        rw [in_within, if_neg h1, xlet_eq, if_neg hx, isGrave_eq hY2, if_neg hg, e2]; rfl
