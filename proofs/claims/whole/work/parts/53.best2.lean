/-! BEST (turned), SURE, PLACES -/
theorem nodup_rev {l : List Nat} (h : l.Nodup) : l.reverse.Nodup := List.pairwise_reverse.mpr (List.Pairwise.imp (fun h => Ne.symm h) h)
theorem turnC {P : Pb} {S : XSt} {f : List Nat} (hC : CP P S) (o1 : f.length = P.n) (o2 : f.Nodup) (o3 : ∀ g ∈ f, g < P.n) (h22 : ∀ i, i < P.n → S 22 i = nI (ix f i)) : ∃ S' : XSt, F_X1_turnedCanBe S = some (if P.okp 0 f.reverse = true then 1 else 0, S') ∧ ∀ q, q ≠ 27 → S' q = S q := by
  have hn := hC.1.1
  unfold F_X1_turnedCanBe
  refine xlp_Q (Q := fun o => ∃ S' : XSt, o = some (if P.okp 0 f.reverse = true then 1 else 0, S') ∧ ∀ q, q ≠ 27 → S' q = S q) (I := fun k t => ∃ S' : XSt, t = (nI k, S') ∧ (∀ q, q ≠ 27 → S' q = S q) ∧ ∀ i, i < k → S' 27 i = nI (ix f.reverse i)) 0 P.n (by omega) (by omega) ⟨S, rfl, fun _ _ => rfl, fun i hi => by omega⟩ ?_ ?_
  · rintro k _ rc - hk ⟨S', rfl, hfr, hce⟩
    right
    refine ⟨(nI (k + 1), xst S' 27 k (nI (ix f.reverse k))), ⟨_, rfl, fun q hq => ?_, fun i hi => ?_⟩, ?_⟩
    · rw [xst_ne _ _ _ hq]; exact hfr q hq
    · rw [xst_at]
      by_cases e : i = k
      · rw [if_pos e, e]
      · rw [if_neg e]; exact hce i (by omega)
    · show B_X1_turnedCanBe_2 _ rc (nI k) S' = _
      unfold B_X1_turnedCanBe_2
      have h14 : S' 1 4 = nI P.n := by rw [hfr 1 (by decide)]; exact hC.2.1
      have e1 : nI P.n - (1 : Int32) = nI (P.n - 1) := pk_sub (b := 1) (by omega)
      have e2 : nI (P.n - 1) - nI k = nI (P.n - 1 - k) := pk_sub (by omega)
      rw [h14, if_neg (fun q => absurd ((nI_leI (by omega) (by omega)).mp q) (by omega)), e1, e2, if_pos (xin_nI (by omega) (by decide)), if_pos (xin_nI (by omega) (by decide)), xti_nI (by omega), xti_nI (by omega), hfr 22 (by decide), h22 _ (by omega), ix_rev (by omega), o1]
      simp only [xlet_eq]
      rw [nI_1]
  · rintro _ rc ⟨S', rfl, hfr, hce⟩
    refine ⟨S', ?_, hfr⟩
    show B_X1_turnedCanBe_2 _ rc (nI P.n) S' = _
    unfold B_X1_turnedCanBe_2
    have h14 : S' 1 4 = nI P.n := by rw [hfr 1 (by decide)]; exact hC.2.1
    have hC' : CP P S' := hC.keep (hfr 1 (by decide)) (hfr 7 (by decide)) (hfr 8 (by decide)) (hfr 9 (by decide)) (hfr 10 (by decide))
    rw [h14, if_pos ((nI_leI (by omega) (by omega)).mpr (Nat.le_refl _))]
    show (F_X5_canBe S' 27 8).bind _ = _
    rw [canBeC hC' (by rw [List.length_reverse]; exact o1) (nodup_rev o2) (fun g hg => o3 g (List.mem_reverse.mp hg)) hn (by omega) hce]
    simp only [Option.bind_some]
    by_cases h : P.okp 0 f.reverse = true
    · rw [if_pos h, if_pos (by decide)]
    · rw [if_neg h, if_pos (by decide)]
theorem turnR {P : Pb} {U : XSr} {f : List Nat} (hR : RP P U) (o1 : f.length = P.n) (o2 : f.Nodup) (o3 : ∀ g ∈ f, g < P.n) (h17 : ∀ i, i < P.n → U.1 17 i = nI (ix f i)) (h23 : U.1 0 23 = nI (P.gaps f)) : ∃ V : XSr, F_X7_turnedNow U = some (if P.okp 0 f.reverse = true then 1 else 0, V) ∧ (∀ q, q ≠ 15 → V.1 q = U.1 q) ∧ V.2 = U.2 := by
  have hn := hR.1.1
  unfold F_X7_turnedNow
  refine xlp_Q (Q := fun o => ∃ V : XSr, o = some (if P.okp 0 f.reverse = true then 1 else 0, V) ∧ (∀ q, q ≠ 15 → V.1 q = U.1 q) ∧ V.2 = U.2) (I := fun k t => ∃ V : XSr, t = (nI k, V) ∧ (∀ q, q ≠ 15 → V.1 q = U.1 q) ∧ V.2 = U.2 ∧ ∀ i, i < k → V.1 15 i = nI (ix f.reverse i)) 0 P.n (by omega) (by omega) ⟨U, rfl, fun _ _ => rfl, rfl, fun i hi => by omega⟩ ?_ ?_
  · rintro k _ rc - hk ⟨V, rfl, hfr, v2, hce⟩
    right
    refine ⟨(nI (k + 1), xsr V 15 k (nI (ix f.reverse k))), ⟨_, rfl, fun q hq => ?_, v2, fun i hi => ?_⟩, ?_⟩
    · rw [xsr_1, xst_ne _ _ _ hq]; exact hfr q hq
    · rw [xsr_1, xst_at]
      by_cases e : i = k
      · rw [if_pos e, e]
      · rw [if_neg e]; exact hce i (by omega)
    · show B_X7_turnedNow_2 _ rc (nI k) V = _
      unfold B_X7_turnedNow_2
      have h00 : V.1 0 0 = nI P.n := by rw [hfr 0 (by decide)]; exact hR.2.1
      have e1 : nI P.n - (1 : Int32) = nI (P.n - 1) := pk_sub (b := 1) (by omega)
      have e2 : nI (P.n - 1) - nI k = nI (P.n - 1 - k) := pk_sub (by omega)
      rw [h00, if_neg (fun q => absurd ((nI_leI (by omega) (by omega)).mp q) (by omega)), e1, e2, if_pos (xin_nI (by omega) (by decide)), if_pos (xin_nI (by omega) (by decide)), xti_nI (by omega), xti_nI (by omega), hfr 17 (by decide), h17 _ (by omega), ix_rev (by omega), o1]
      simp only [xlet_eq]
      rw [nI_1]
  · rintro _ rc ⟨V, rfl, hfr, v2, hce⟩
    refine ⟨V, ?_, hfr, v2⟩
    show B_X7_turnedNow_2 _ rc (nI P.n) V = _
    unfold B_X7_turnedNow_2
    have h00 : V.1 0 0 = nI P.n := by rw [hfr 0 (by decide)]; exact hR.2.1
    have hR' : RP P V := hR.keep (fun q _ => hfr q (by omega)) (fun j _ => by rw [hfr 0 (by decide)])
    have hO : RO P f.reverse V := ⟨by rw [List.length_reverse]; exact o1, nodup_rev o2, fun g hg => o3 g (List.mem_reverse.mp hg), hce⟩
    rw [h00, if_pos ((nI_leI (by omega) (by omega)).mpr (Nat.le_refl _))]
    show (F_X7_canBe V).bind _ = _
    rw [canBe_eq hR' hO, gapsNow_eq hR' hO, gaps_rev, hfr 0 (by decide), h23]
    simp only [Option.bind_some]
    by_cases h : P.okp 0 f.reverse = true
    · rw [if_pos h, if_neg i10, if_pos trivial]
    · rw [if_neg h, if_pos rfl]
theorem best_now {S : XSt} {U : XSr} (hI : IX S U) {x : Int32} (hx : ¬ F_X6_within x 0 2 = 0) : ∃ r S' U', F_X6_best S x = some (r, S') ∧ F_X7_bestNow U x = some (r, U') ∧ FR (pbS S) S' U' := by
  obtain ⟨S', V, e1, -, e3, hF⟩ := both hI
  unfold F_X6_best F_X7_bestNow
  rw [if_neg hx, e1, e3]
  simp only [Option.bind_some]
  by_cases hL : (pbS S).L = []
  · rw [anyI_0 hL, if_pos rfl, if_pos rfl]
    exact ⟨_, _, _, rfl, rfl, hF⟩
  · rw [anyI_1 hL, if_neg i10, if_neg i10]
    have hP := hF.2.2.1.1
    have hmg := L_mg hP hL
    have r3 := hF.2.2.2.2.2.1.2.2
    have c := (hF.2.1 ▸ hF.2.2.2.2.1.1).1.2.2 0 (Nat.two_pow_pos _)
    have e20 : S' 20 (xti 0) = V.1 0 23 := by
      rw [r3.1, hmg]
      have := c.1
      rw [(B_0 _).1] at this; exact this
    have e21 : S' 21 (xti 0) = V.1 0 24 := by
      rw [r3.2.1, hmg, L_gaps hP.1]
      have := c.2
      rw [(B_0 _).2] at this; exact this
    by_cases h0 : x = 0
    · rw [if_pos h0, if_pos h0, e20]
      exact ⟨_, _, _, rfl, rfl, hF⟩
    · rw [if_neg h0, if_neg h0]
      by_cases h1 : x = 1
      · rw [if_pos h1, if_pos h1, e21]
        exact ⟨_, _, _, rfl, rfl, hF⟩
      · rw [if_neg h1, if_neg h1]
        obtain ⟨f, f1, f2, f3, f4, f5, f6, f7⟩ := the_row hF hL
        obtain ⟨S2, t1, t2⟩ := turnC hF.2.2.1 f3 f4 f5 f6
        obtain ⟨V2, t3, t4, t5⟩ := turnR hF.2.2.2.1 f3 f4 f5 f7 (by rw [r3.1, f2])
        rw [t1, t3]
        simp only [Option.bind_some]
        refine ⟨_, _, _, rfl, ?_, (hF.keepC (fun q h _ => t2 q h)).keepR (fun q h _ _ => t4 q h) t5⟩
        congr 2
        unfold F_X6_bit
        by_cases h : (pbS S).okp 0 f.reverse = true
        · rw [if_pos h, if_neg i10]
        · rw [if_neg h, if_pos rfl]
theorem st_best : St_best IX := by
  intro S U x hI
  by_cases hx : F_X6_within x 0 2 = 0
  · exact ⟨-2, S, U, by unfold F_X6_best; rw [if_pos hx], by unfold F_X7_best; rw [in_within, if_pos hx], hI⟩
  · obtain ⟨r, S', U', e1, e2, hF⟩ := best_now hI hx
    exact ⟨r, S', U', e1, by unfold F_X7_best; rw [in_within, if_neg hx, e2]; rfl, hF.1⟩
/-- some best order passes a set with b and without a -/
def psd (P : Pb) (ah : Nat → Nat) (a b s : Nat) : Prop := s.testBit b = true ∧ s.testBit a = false ∧ ah s + P.B s = P.B 0
theorem always_eq {P : Pb} {S : XSt} (hC : CP P S) {ah : Nat → Nat} (h19 : ∀ s, s < 2 ^ P.n → ah s ≤ NW ∧ S 19 s = nI (ah s)) (h20 : ∀ s, s < 2 ^ P.n → S 20 s = nI (P.B s)) {a b : Nat} (ha : a < 8) (hb : b < 8) : ∃ v, F_X3_alwaysAhead S (nI a) (nI b) = some v ∧ ((v = 0 ∧ ∃ s, s < 2 ^ P.n ∧ psd P ah a b s) ∨ (v = 1 ∧ ∀ s, s < 2 ^ P.n → ¬ psd P ah a b s)) := by
  have hn := hC.1.1
  have hN := two8 hn
  have hN0 : 0 < 2 ^ P.n := Nat.two_pow_pos _
  have hNW : NW = 1000000 := rfl
  unfold F_X3_alwaysAhead
  rw [all_eq hC, xlet_eq]
  refine xlp_Q (Q := fun o => ∃ v, o = some v ∧ ((v = 0 ∧ ∃ s, s < 2 ^ P.n ∧ psd P ah a b s) ∨ (v = 1 ∧ ∀ s, s < 2 ^ P.n → ¬ psd P ah a b s))) (I := fun j t => t = nI j ∧ ∀ s, s < j → ¬ psd P ah a b s) 0 (2 ^ P.n) (by omega) (by omega) ⟨rfl, fun s hs => by omega⟩ ?_ ?_
  · rintro j _ rc - hj ⟨rfl, hno⟩
    show (∃ v, B_X3_alwaysAhead_8 S (nI a) (nI b) (nI (2 ^ P.n - 1)) _ rc (nI j) = some v ∧ _) ∨ ∃ t', _ ∧ B_X3_alwaysAhead_8 S (nI a) (nI b) (nI (2 ^ P.n - 1)) _ rc (nI j) = rc t'
    unfold B_X3_alwaysAhead_8
    have hx : xin (nI j) 256 = true := xin_nI (by omega) (by decide)
    have l1 : P.B j ≤ NW := bh_lt P _ _
    have l0 : P.B 0 ≤ NW := bh_lt P _ _
    have l2 := (h19 j hj).1
    have next : ¬ psd P ah a b j → ∃ t', (t' = nI (j + 1) ∧ ∀ s, s < j + 1 → ¬ psd P ah a b s) ∧ rc (nI (j + 1)) = rc t' := fun h => ⟨_, ⟨rfl, fun s hs => by
      by_cases e : s = j
      · subst e; exact h
      · exact hno s (by omega)⟩, rfl⟩
    rw [if_neg (nI_nlt (by omega) (by omega))]
    simp only [xlet_eq, hx, ↓reduceIte, i10]
    rw [xti_nI (by omega), (h19 j hj).2, h20 j hj, show xti (0 : Int32) = 0 from rfl, h20 0 hN0, nI_add, nI_1]
    cases hjb : j.testBit b with
    | false =>
      rw [if_pos ((nI_bit0 (by omega) (by omega)).mpr hjb)]
      exact Or.inr (next (fun q => by rw [q.1] at hjb; cases hjb))
    | true =>
      rw [if_neg (fun q => by rw [nI_bit0 (by omega) (by omega), hjb] at q; cases q)]
      cases hja : j.testBit a with
      | true =>
        rw [if_neg (fun q => by rw [nI_bit0 (by omega) (by omega), hja] at q; cases q)]
        exact Or.inr (next (fun q => by rw [q.2.1] at hja; cases hja))
      | false =>
        rw [if_pos ((nI_bit0 (by omega) (by omega)).mpr hja)]
        by_cases he : ah j + P.B j = P.B 0
        · rw [if_pos (by rw [he])]
          exact Or.inl ⟨0, rfl, Or.inl ⟨rfl, j, hj, hjb, hja, he⟩⟩
        · rw [if_neg (fun q => he ((nI_eq (by omega) (by omega)).mp q))]
          exact Or.inr (next (fun q => he q.2.2))
  · rintro _ rc ⟨rfl, hno⟩
    refine ⟨1, ?_, Or.inr ⟨rfl, hno⟩⟩
    show B_X3_alwaysAhead_8 S (nI a) (nI b) (nI (2 ^ P.n - 1)) _ rc (nI (2 ^ P.n)) = _
    unfold B_X3_alwaysAhead_8
    rw [if_pos (nI_lt (by omega) (by omega))]
