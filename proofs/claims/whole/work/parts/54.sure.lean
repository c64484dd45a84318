/-! SURE, PLACES -/
theorem mem_split_ix {p : List Nat} {g : Nat} (h : g ∈ p) : ∃ x y, p = x ++ g :: y := by
  obtain ⟨i, hi, e⟩ := ix_of h
  exact ⟨p.take i, p.drop (i + 1), by rw [← e]; exact ix_split hi⟩
theorem fin0_bit (p : List Nat) (a : Nat) : (fin 0 p).testBit a = true ↔ a ∈ p := by
  rw [fin_bit]; simp
theorem L_all {P : Pb} {p : List Nat} (hp : p ∈ P.L) {g : Nat} (hg : g < P.n) : g ∈ p := by
  have := (fills_of (P := P) (s := 0) (Nat.two_pow_pos _) (by rw [popN_0]; omega) (L_mem hp).1).2.2 g
  rcases this.mp hg with h | h
  · simp at h
  · exact h
theorem bfr_split {p x y : List Nat} {a b : Nat} (hn : p.Nodup) (hp : p = x ++ b :: y) : bfr p a b ↔ a ∈ x := by
  have hi : x.length < p.length := by rw [hp]; simp
  have e : ix p x.length = b := by rw [hp]; exact ix_mid _ _ _
  have ht : p.take x.length = x := by rw [hp]; simp
  rw [← e, bfr_take hn hi, ht, fin0_bit]
/-- a is not ahead of b in some best order, just if one passes a set with b alone -/
theorem sure_iff {P : Pb} (hP : P.good) {ah : Nat → Nat} (ha : P.isAh ah) (hL : P.L ≠ []) {a b : Nat} (hab : a ≠ b) (hb : b < P.n) : (∃ s, s < 2 ^ P.n ∧ psd P ah a b s) ↔ ¬ ∀ q ∈ P.L, P.gaps q = P.mg P.L → bfr q a b := by
  have h0 := L_costs hL
  have hB0 := (B_0 P).1
  have hmg := L_mg hP hL
  constructor
  · rintro ⟨s, hs, h1, h2, h3⟩ hall
    rw [hB0] at h3
    obtain ⟨p, q, e1, e2, e3⟩ := (pass_iff hP ha h0 hs).mp h3
    have hm : p ++ q ∈ P.L := e2
    obtain ⟨-, -, hnd, -⟩ := mem_perms.mp (L_mem hm).1
    have hbp : b ∈ p := by rw [← fin0_bit, e1]; exact h1
    obtain ⟨x, y, exy⟩ := mem_split_ix hbp
    have hbf := hall _ hm (by rw [gaps_cst hP.1 (L_mem hm).1, hmg, e3])
    have hsp : p ++ q = x ++ b :: (y ++ q) := by rw [exy]; simp
    have := (bfr_split hnd hsp).mp hbf
    have hap : a ∈ p := by rw [exy]; exact List.mem_append_left _ this
    rw [← fin0_bit, e1, h2] at hap
    cases hap
  · intro hno
    have : ∃ q, q ∈ P.L ∧ P.gaps q = P.mg P.L ∧ ¬ bfr q a b := Classical.byContradiction (fun hc => hno (fun q h1 h2 => Classical.byContradiction (fun h3 => hc ⟨q, h1, h2, h3⟩)))
    obtain ⟨q, h1, h2, h3⟩ := this
    obtain ⟨-, hlt, hnd, -⟩ := mem_perms.mp (L_mem h1).1
    obtain ⟨x, y, exy⟩ := mem_split_ix (L_all h1 hb)
    have hax : ¬ a ∈ x := fun h => h3 ((bfr_split hnd exy).mpr h)
    have hsp : q = (x ++ [b]) ++ y := by rw [exy]; simp
    have hfl : fin 0 (x ++ [b]) < 2 ^ P.n := fin_lt (Nat.two_pow_pos _) (fun g hg => hlt g (by rw [hsp]; exact List.mem_append_left _ hg))
    refine ⟨fin 0 (x ++ [b]), hfl, ?_, ?_, ?_⟩
    · rw [fin0_bit]; simp
    · cases hc : (fin 0 (x ++ [b])).testBit a with
      | false => rfl
      | true =>
        rw [fin0_bit] at hc
        rcases List.mem_append.mp hc with h | h
        · exact absurd h hax
        · exact absurd (List.mem_singleton.mp h) hab
    · rw [hB0]
      refine (pass_iff hP ha h0 hfl).mpr ⟨x ++ [b], y, rfl, by rw [← hsp]; exact h1, ?_⟩
      rw [← hsp, ← gaps_cst hP.1 (L_mem h1).1, h2, hmg]
theorem isPair_eq {S : XSt} {U : XSr} (h : S 1 4 = U.1 0 0) (x y : Int32) : (F_X6_isPair S x y = 0 ↔ (F_X7_isGrave U x = 0 ∨ F_X7_isGrave U y = 0 ∨ x = y)) := by
  unfold F_X6_isPair
  rw [isGrave_eq h, isGrave_eq h]
  by_cases h1 : F_X6_isGrave S x = 0
  · rw [if_pos h1]; simp [h1]
  · rw [if_neg h1]
    by_cases h2 : F_X6_isGrave S y = 0
    · rw [if_pos h2]; simp [h2]
    · rw [if_neg h2]
      by_cases h3 : x = y
      · rw [if_pos h3]; simp [h3]
      · rw [if_neg h3]; simp [h1, h2, h3]
theorem st_sure : St_sure IX := by
  intro S U x y hI
  have hY2 := hI.1.2.1
  have hpair := isPair_eq hY2 x y
  by_cases hp : F_X6_isPair S x y = 0
  · refine ⟨-2, S, U, by unfold F_X6_sure; rw [if_pos hp], ?_, hI⟩
    unfold F_X7_sure
    by_cases h1 : F_X7_isGrave U x = 0
    · rw [if_pos h1]
    · rw [if_neg h1]
      by_cases h2 : F_X7_isGrave U y = 0
      · rw [if_pos h2]
      · rw [if_neg h2]
        rcases hpair.mp hp with h | h | h
        · exact absurd h h1
        · exact absurd h h2
        · rw [if_pos h]
  · have hp' := fun h => hp (hpair.mpr h)
    have g1 : ¬ F_X7_isGrave U x = 0 := fun h => hp' (Or.inl h)
    have g2 : ¬ F_X7_isGrave U y = 0 := fun h => hp' (Or.inr (Or.inl h))
    have g3 : ¬ x = y := fun h => hp' (Or.inr (Or.inr h))
    obtain ⟨S', V, e1, -, e3, hF⟩ := both hI
    unfold F_X6_sure F_X7_sure
    rw [if_neg hp, if_neg g1, if_neg g2, if_neg g3, e1, e3]
    simp only [Option.bind_some]
    by_cases hL : (pbS S).L = []
    · rw [anyI_0 hL, if_pos rfl, if_pos rfl]
      exact ⟨_, _, _, rfl, rfl, hF.1⟩
    · rw [isGrave_eq hY2] at g1 g2
      obtain ⟨a, rfl, ha⟩ := isGrave_n hI.1.1 g1
      obtain ⟨b, rfl, hb⟩ := isGrave_n hI.1.1 g2
      have hn8 := hI.1.1.2
      have hne : a ≠ b := fun e => g3 (by rw [e])
      have hP := hF.2.2.1.1
      obtain ⟨c1, ⟨ah, c2, c3⟩, c4⟩ := (hF.2.1 ▸ hF.2.2.2.2.1.1).1
      obtain ⟨v, ev, hv⟩ := always_eq hF.2.2.1 c3 (fun s hs => (c4 s hs).1) (a := a) (b := b) (by omega) (by omega)
      obtain ⟨A, hA1, hA2, hA3⟩ := (hF.2.2.2.2.2.1.2.2.2.2 hL).2.1 b hb
      rw [anyI_1 hL, if_neg i10, if_neg i10, ev, if_pos (xin_nI (by omega) (by decide)), xti_nI (by omega), hA2, is_eq (by omega) (by omega)]
      simp only [Option.bind_some]
      have hsi := sure_iff hP c2 hL hne hb
      have hAa := hA3 a (by omega)
      rcases hv with ⟨rfl, hs⟩ | ⟨rfl, hs⟩
      · have : A.testBit a = false := by
          cases hc : A.testBit a with
          | false => rfl
          | true => exact absurd (hAa.mp hc) (hsi.mp hs)
        rw [this, if_pos (by decide)]
        exact ⟨_, _, _, rfl, rfl, hF.1⟩
      · have : A.testBit a = true := by
          rw [hAa]
          exact Classical.byContradiction (fun hc => by
            obtain ⟨s, h1, h2⟩ := hsi.mpr hc
            exact hs s h1 h2)
        rw [this, if_neg (by decide)]
        exact ⟨_, _, _, rfl, rfl, hF.1⟩
def plb (P : Pb) (ah : Nat → Nat) (g s : Nat) : Prop := P.ok s g = true ∧ ah s + P.ct s g + P.B (s ||| 2 ^ g) = P.B 0
theorem popN_8 : ∀ m, m < 256 → popN 8 m = popN 10 m := by decide +kernel
theorem popN_ext {n s : Nat} (hs : s < 2 ^ n) : ∀ r, popN (n + r) s = popN n s := by
  intro r
  induction r with
  | zero => rfl
  | succ r ih =>
    show popN (n + r) s + (s.testBit (n + r)).toNat = _
    rw [ih, Nat.testBit_lt_two_pow (Nat.lt_of_lt_of_le hs (Nat.pow_le_pow_right (by decide) (by omega)))]; rfl
theorem popN_n10 {n s : Nat} (hn : n ≤ 10) (hs : s < 2 ^ n) : popN 10 s = popN n s := by
  have := popN_ext hs (10 - n)
  rwa [show n + (10 - n) = 10 by omega] at this
theorem places_eq {P : Pb} {S : XSt} (hC : CP P S) (hS : CS P S) {ah : Nat → Nat} (h19 : ∀ s, s < 2 ^ P.n → ah s ≤ NW ∧ S 19 s = nI (ah s)) {g : Nat} (hg : g < P.n) : ∃ A, A < 256 ∧ F_X3_placesInBest S (nI g) = some (nI A) ∧ ∀ i, (A.testBit i = true ↔ ∃ s, s < 2 ^ P.n ∧ plb P ah g s ∧ popN P.n s = i) := by
  have hn := hC.1.1
  have hN := two8 hn
  have hN0 : 0 < 2 ^ P.n := Nat.two_pow_pos _
  have hNW : NW = 1000000 := rfl
  unfold F_X3_placesInBest
  rw [all_eq hC, xlet_eq]
  refine xlp_Q (Q := fun o => ∃ A, A < 256 ∧ o = some (nI A) ∧ ∀ i, (A.testBit i = true ↔ ∃ s, s < 2 ^ P.n ∧ plb P ah g s ∧ popN P.n s = i)) (I := fun j t => ∃ A, A < 256 ∧ t = (nI A, nI j) ∧ ∀ i, (A.testBit i = true ↔ ∃ s, s < j ∧ plb P ah g s ∧ popN P.n s = i)) 0 (2 ^ P.n) (by omega) (by omega) ⟨0, by omega, rfl, fun i => by
    constructor
    · intro h; simp at h
    · rintro ⟨s, hs, -⟩; omega⟩ ?_ ?_
  · rintro j _ rc - hj ⟨A, hA, rfl, hAi⟩
    right
    have next : ∀ A', A' < 256 → (∀ i, (A'.testBit i = true ↔ A.testBit i = true ∨ (plb P ah g j ∧ popN P.n j = i))) → ∃ t', (∃ A, A < 256 ∧ t' = (nI A, nI (j + 1)) ∧ ∀ i, (A.testBit i = true ↔ ∃ s, s < j + 1 ∧ plb P ah g s ∧ popN P.n s = i)) ∧ rc (nI A', nI (j + 1)) = rc t' := by
      intro A' h1 h2
      refine ⟨_, ⟨A', h1, rfl, fun i => ?_⟩, rfl⟩
      rw [h2 i, hAi i]
      constructor
      · rintro (⟨s, hs, h⟩ | h)
        · exact ⟨s, by omega, h⟩
        · exact ⟨j, by omega, h⟩
      · rintro ⟨s, hs, h⟩
        by_cases e : s = j
        · subst e; exact Or.inr h
        · exact Or.inl ⟨s, by omega, h⟩
    show ∃ t', _ ∧ B_X3_placesInBest_10 S (nI g) (nI (2 ^ P.n - 1)) _ rc (nI A) (nI j) = rc t'
    unfold B_X3_placesInBest_10
    rw [if_neg (nI_nlt (by omega) (by omega)), nI_8, if_pos (xin_nI (by omega) (by decide)), xti_nI (by omega), hS.1 j hj g hg]
    have hx : xin (nI j) 256 = true := xin_nI (by omega) (by decide)
    simp only [xlet_eq, hx, ↓reduceIte]
    by_cases ho : P.ok j g = true
    · have hor : j ||| 2 ^ g < 2 ^ P.n := Nat.or_lt_two_pow hj (two_lt hg)
      have hwg : F_X5_weigh S (stI P j g) = nI (P.ct j g) := by
        unfold stI; rw [if_pos ho]; exact hC.2.2.2.2.2.1 _ (stp_lt hC.1 j g)
      have l1 : P.B (j ||| 2 ^ g) ≤ NW := bh_lt P _ _
      have l0 : P.B 0 ≤ NW := bh_lt P _ _
      have l2 := (h19 j hj).1
      have l3 := ct_le hC.1 j g
      have hpop : popN P.n j ≤ P.n := popN_le _ _
      have hbc : F_J6_bitCount_0f7a4 (nI j) = nI (popN P.n j) := by
        rw [bitCount_10 j (by omega), popN_n10 (by omega) hj]
      have hpl : popN P.n j < P.n := by
        have := popN_or hg (ok_bit ho)
        have := popN_le P.n (j ||| 2 ^ g)
        omega
      rw [if_neg (fun q => (stI_no hC.1).mp q ho), nI_shl1 (by omega), nI_or, if_pos (xin_nI (by omega) (by decide)), xti_nI (by omega), xti_nI (by omega), (h19 j hj).2, (hS.2.2 _ hor).1, show xti (0 : Int32) = 0 from rfl, (hS.2.2 0 hN0).1, hwg, nI_add, nI_add, nI_1, hbc, nI_shl1 (by omega), nI_or]
      by_cases he : ah j + P.ct j g + P.B (j ||| 2 ^ g) = P.B 0
      · rw [if_pos (by rw [he])]
        refine next _ (Nat.or_lt_two_pow (n := 8) hA (two_lt (by omega))) (fun i => ?_)
        rw [or2_bit, Bool.or_eq_true, decide_eq_true_eq]
        constructor
        · rintro (h | h)
          · exact Or.inl h
          · exact Or.inr ⟨⟨ho, he⟩, h⟩
        · rintro (h | h)
          · exact Or.inl h
          · exact Or.inr h.2
      · rw [if_neg (fun q => he ((nI_eq (by omega) (by omega)).mp q))]
        refine next A hA (fun i => ⟨Or.inl, fun h => h.elim id (fun h => absurd h.1.2 he)⟩)
    · rw [if_pos ((stI_no hC.1).mpr ho), nI_1]
      exact next A hA (fun i => ⟨Or.inl, fun h => h.elim id (fun h => absurd h.1.1 ho)⟩)
  · rintro _ rc ⟨A, hA, rfl, hAi⟩
    refine ⟨A, hA, ?_, hAi⟩
    show B_X3_placesInBest_10 S (nI g) (nI (2 ^ P.n - 1)) _ rc (nI A) (nI (2 ^ P.n)) = _
    unfold B_X3_placesInBest_10
    rw [if_pos (nI_lt (by omega) (by omega))]
theorem places_now {S : XSt} {U : XSr} (hI : IX S U) {g : Nat} (hg : g < xti (S 1 4)) : ∃ r S' U', F_X6_places S (nI g) = some (r, S') ∧ F_X7_placesNow U (nI g) = some (r, U') ∧ FR (pbS S) S' U' := by
  have hn8 := hI.1.1.2
  obtain ⟨S', V, e1, -, e3, hF⟩ := both hI
  unfold F_X6_places F_X7_placesNow
  rw [if_neg (isGrave_y hI.1.1 hg), e1, e3]
  simp only [Option.bind_some]
  by_cases hL : (pbS S).L = []
  · rw [anyI_0 hL, if_pos rfl, if_pos rfl]
    exact ⟨_, _, _, rfl, rfl, hF⟩
  · have hP := hF.2.2.1.1
    have hCS := (hF.2.1 ▸ hF.2.2.2.2.1.1).1
    have hCS0 := hCS
    obtain ⟨c1, ⟨ah, c2, c3⟩, c4⟩ := hCS
    obtain ⟨A, hA1, hA2, hA3⟩ := places_eq hF.2.2.1 hCS0 c3 (g := g) hg
    obtain ⟨A', hA1', hA2', hA3'⟩ := (hF.2.2.2.2.2.1.2.2.2.2 hL).2.2 g hg
    rw [anyI_1 hL, if_neg i10, if_neg i10, hA2, if_pos (xin_nI (by omega) (by decide)), xti_nI (by omega), hA2']
    simp only [Option.bind_some]
    have hB0 := (B_0 (pbS S)).1
    have hmg := L_mg hP hL
    have : A = A' := by
      apply bits_eq
      intro i
      rcases Nat.lt_or_ge i 8 with hi | hi
      · rw [hA3 i, hA3' i hi]
        constructor
        · rintro ⟨s, hs, ⟨ho, he⟩, hp⟩
          rw [hB0] at he
          obtain ⟨p, q, q1, q2, q3⟩ := (place_iff hP c2 (L_costs hL) hs hg ho).mp he
          have hm : p ++ g :: q ∈ (pbS S).L := q2
          have hlen : p.length = i := by
            have hpre := (app_pre (P := pbS S) q2).1
            rw [q1] at hpre
            rw [← pre_len hpre, hp]
          obtain ⟨hl, -, -, -⟩ := mem_perms.mp (L_mem hm).1
          refine ⟨p ++ g :: q, hm, by rw [gaps_cst hP.1 (L_mem hm).1, hmg, q3], ?_, ?_⟩
          · rw [← hl, ← hlen]; simp
          · rw [← hlen]; exact ix_mid _ _ _
        · rintro ⟨q, q1, q2, q3, q4⟩
          obtain ⟨hl, hlt, hnd, -⟩ := mem_perms.mp (L_mem q1).1
          have hil : i < q.length := by omega
          have hsp := ix_split hil
          rw [q4] at hsp
          have hq1 : q.take i ++ g :: q.drop (i + 1) ∈ (pbS S).pths (pbS S).n 0 := by rw [← hsp]; exact q1
          have hpre := (app_pre hq1).1
          have hs := pre_lt hpre
          have hok := (mem_pths (pbS S)).mp hq1
          have ho : (pbS S).ok (fin 0 (q.take i)) g = true := by
            have := hok.2.2
            rw [okp_append, Bool.and_eq_true] at this
            have h2 : ((pbS S).ok (fin 0 (q.take i)) g && _) = true := this.2
            rw [Bool.and_eq_true] at h2
            exact h2.1
          refine ⟨fin 0 (q.take i), hs, ⟨ho, ?_⟩, ?_⟩
          · rw [hB0]
            refine (place_iff hP c2 (L_costs hL) hs hg ho).mpr ⟨q.take i, q.drop (i + 1), rfl, hq1, ?_⟩
            rw [← hsp, ← gaps_cst hP.1 (L_mem q1).1, q2, hmg]
          · rw [pre_len hpre, List.length_take]; omega
      · rw [Nat.testBit_lt_two_pow (Nat.lt_of_lt_of_le hA1 (Nat.pow_le_pow_right (n := 2) (by decide) hi)), Nat.testBit_lt_two_pow (Nat.lt_of_lt_of_le hA1' (Nat.pow_le_pow_right (n := 2) (by decide) hi))]
    rw [this]
    exact ⟨_, _, _, rfl, rfl, hF⟩
theorem st_places : St_places IX := by
  intro S U x hI
  have hY2 := hI.1.2.1
  by_cases h : F_X6_isGrave S x = 0
  · exact ⟨-2, S, U, by unfold F_X6_places; rw [if_pos h], by unfold F_X7_places; rw [isGrave_eq hY2, if_pos h], hI⟩
  · obtain ⟨g, rfl, hg⟩ := isGrave_n hI.1.1 h
    obtain ⟨r, S', U', e1, e2, hF⟩ := places_now hI hg
    exact ⟨r, S', U', e1, by unfold F_X7_places; rw [isGrave_eq hY2, if_neg h, e2]; rfl, hF.1⟩
