/-! THE CLASS's SEARCH: sets, steps -/
def CP (P : Pb) (S : XSt) : Prop := P.good ∧ S 1 4 = nI P.n ∧ S 1 5 = nI P.rb ∧ P.rb < 2 ^ 31 ∧ (∀ g, g < 8 → S 7 g = nI (P.fr g) ∧ P.fr g ≤ 99 ∧ S 8 g = nI (P.to g) ∧ P.to g ≤ 99 ∧ S 9 g = nI (P.bl g) ∧ P.bl g ≤ 255 ∧ S 10 g = nI (P.kd g)) ∧ (∀ m, m < 1024 → F_X5_weigh S (nI m) = nI (wsum P.w 10 m)) ∧ S 1 7 ||| S 1 8 = nI (wzB P.w 10)
theorem CP.keep {P : Pb} {S S' : XSt} (h : CP P S) (h1 : S' 1 = S 1) (h7 : S' 7 = S 7) (h8 : S' 8 = S 8) (h9 : S' 9 = S 9) (h10 : S' 10 = S 10) : CP P S' := by
  unfold CP at h ⊢
  rw [h1, h7, h8, h9, h10]
  have e : ∀ x, F_X5_weigh S' x = F_X5_weigh S x := fun x => by unfold F_X5_weigh; rw [h1]
  refine ⟨h.1, h.2.1, h.2.2.1, h.2.2.2.1, h.2.2.2.2.1, fun m hm => ?_, h.2.2.2.2.2.2⟩
  rw [e]; exact h.2.2.2.2.2.1 m hm
theorem nI_z {a : Nat} (h : a < 2 ^ 31) : nI a = 0 ↔ a = 0 := by
  constructor
  · intro e; exact (nI_eq h (by decide)).mp (e.trans nI_0.symm)
  · rintro rfl; exact nI_0
theorem all_eq {P : Pb} {S : XSt} (h : CP P S) : F_X3_allGraves S = nI (2 ^ P.n - 1) := by
  unfold F_X3_allGraves
  have hn := h.1.1
  rw [h.2.1, nI_shl1 (by omega)]
  exact pk_sub (b := 1) (Nat.two_pow_pos _)
theorem two8 {n : Nat} (h : n ≤ 8) : 2 ^ n ≤ 256 := Nat.le_trans (Nat.pow_le_pow_right (by decide) h) (by decide)
theorem ntz_fact : ∀ s, s < 256 → 0 < s → (xti (F_J6_numberOfTrailingZeros_0f7a4 (nI s)) < 8 ∧ F_J6_numberOfTrailingZeros_0f7a4 (nI s) = nI (xti (F_J6_numberOfTrailingZeros_0f7a4 (nI s))) ∧ (s &&& (s - 1)) ||| 2 ^ (xti (F_J6_numberOfTrailingZeros_0f7a4 (nI s))) = s ∧ s &&& (s - 1) < s) := by decide +kernel
theorem xmax_nI {a b : Nat} (ha : a < 2 ^ 31) (hb : b < 2 ^ 31) : xmax (nI a) (nI b) = nI (max a b) := by
  unfold xmax
  by_cases h : a < b
  · rw [if_pos (nI_lt h hb), Nat.max_eq_right (by omega)]
  · rw [if_neg (nI_nlt (by omega) ha), Nat.max_eq_left (by omega)]
theorem xmin_nI {a b : Nat} (ha : a < 2 ^ 31) (hb : b < 2 ^ 31) : xmin (nI a) (nI b) = nI (min a b) := by
  unfold xmin
  by_cases h : b < a
  · rw [if_pos (nI_lt h ha), Nat.min_eq_right (by omega)]
  · rw [if_neg (nI_nlt (by omega) hb), Nat.min_eq_left (by omega)]
theorem yr_le {P : Pb} {S : XSt} (h : CP P S) (s : Nat) : P.yr s ≤ 99 := (yrB_le P.fr 8 s 99).mpr (fun g hg _ => (h.2.2.2.2.1 g hg).2.1)
theorem yr_0 (P : Pb) : P.yr 0 = 0 := Nat.le_zero.mp ((yrB_le P.fr 8 0 0).mpr (fun g _ hb => by simp at hb))
theorem seen_lt {P : Pb} (h : P.good) (s : Nat) : P.seen s < 2 ^ 10 := seenB_lt h.2.1 8 s
theorem fillSets_eq {P : Pb} {S : XSt} (hC : CP P S) : ∃ S' : XSt, F_X3_fillSets S = some S' ∧ (∀ q, q ≠ 16 → q ≠ 17 → S' q = S q) ∧ ∀ s, s < 2 ^ P.n → S' 16 s = nI (P.seen s) ∧ S' 17 s = nI (P.yr s) := by
  have hn := hC.1.1
  have hN := two8 hn
  have hN0 : 0 < 2 ^ P.n := Nat.two_pow_pos _
  unfold F_X3_fillSets
  rw [all_eq hC]
  simp only [xlet]
  refine xlp_Q (Q := fun o => ∃ S' : XSt, o = some S' ∧ (∀ q, q ≠ 16 → q ≠ 17 → S' q = S q) ∧ ∀ s, s < 2 ^ P.n → S' 16 s = nI (P.seen s) ∧ S' 17 s = nI (P.yr s))
    (I := fun j t => ∃ S' : XSt, t = (nI j, S') ∧ (∀ q, q ≠ 16 → q ≠ 17 → S' q = S q) ∧ ∀ s, s < j → S' 16 s = nI (P.seen s) ∧ S' 17 s = nI (P.yr s)) 1 (2 ^ P.n) (by omega) (by omega) ?_ ?_ ?_
  · refine ⟨_, rfl, fun q h1 h2 => ?_, fun s hs => ?_⟩
    · rw [xst_ne _ _ _ h2, xst_ne _ _ _ h1]
    · have : s = 0 := by omega
      subst this
      rw [seen_0, yr_0]
      exact ⟨rfl, rfl⟩
  · rintro j _ rc hj1 hj ⟨S', rfl, hfr, hce⟩
    right
    obtain ⟨t1, t2, t3, t4⟩ := ntz_fact j (by omega) (by omega)
    generalize xti (F_J6_numberOfTrailingZeros_0f7a4 (nI j)) = g at t1 t2 t3
    obtain ⟨j', rfl⟩ : ∃ j', j = j' + 1 := ⟨j - 1, by omega⟩
    have e1 : nI (j' + 1) &&& (nI (j' + 1) - 1) = nI ((j' + 1) &&& j') := by rw [nI_sub1, nI_and]
    have e0 : (j' + 1) - 1 = j' := rfl
    rw [e0] at t3 t4
    generalize (j' + 1) &&& j' = r at e1 t3 t4
    have hk := hC.2.2.2.2.1 g t1
    refine ⟨(nI (j' + 1 + 1), xst (xst S' 16 (j' + 1) (nI (P.seen (j' + 1)))) 17 (j' + 1) (nI (P.yr (j' + 1)))), ⟨_, rfl, fun q h1 h2 => ?_, fun s hs => ?_⟩, ?_⟩
    · rw [xst_ne _ _ _ h2, xst_ne _ _ _ h1]; exact hfr q h1 h2
    · by_cases es : s = j' + 1
      · subst es
        rw [xst_same, xst_ne _ _ _ (by decide), xst_same]; exact ⟨rfl, rfl⟩
      · rw [xst_idx _ _ _ es, xst_ne _ _ _ (by decide : (16 : Nat) ≠ 17), xst_idx _ _ _ es, xst_ne _ _ _ (by decide : (17 : Nat) ≠ 16)]
        exact hce s (by omega)
    · show B_X3_fillSets_21 _ _ rc (nI (j' + 1)) S' = _
      unfold B_X3_fillSets_21
      have ex : nI (j' + 1) &&& (nI (j' + 1) - (1 : Int32)) = nI r := e1
      rw [if_neg (nI_nlt (by omega) (by omega)), t2, ex]
      simp only [xlet]
      have s16 : S' 16 r ||| S' 10 g = nI (P.seen (j' + 1)) := by
        rw [(hce r t4).1, hfr 10 (by decide) (by decide), hk.2.2.2.2.2.2, nI_or]
        show nI (seenB P.kd 8 r ||| P.kd g) = _
        rw [← seenB_or P.kd t1 r, t3]; rfl
      have s17 : xmax (S' 17 r) (S' 7 g) = nI (P.yr (j' + 1)) := by
        rw [(hce r t4).2, hfr 7 (by decide) (by decide), hk.1, xmax_nI (by have := yr_le hC r; omega) (by have := hk.2.1; omega)]
        show nI (max (yrB P.fr 8 r) (P.fr g)) = _
        rw [← yrB_or P.fr t1 r, t3]; rfl
      have hr256 : r < 256 := by omega
      rw [if_pos (xin_nI hr256 (by decide)), if_pos (xin_nI t1 (by decide)), if_pos (xin_nI (show j' + 1 < 256 by omega) (by decide)), if_pos (xin_nI hr256 (by decide)), if_pos (xin_nI t1 (by decide)), if_pos (xin_nI (show j' + 1 < 256 by omega) (by decide))]
      rw [xti_nI (show r < 2 ^ 31 by omega), xti_nI (show g < 2 ^ 31 by omega), xti_nI (show j' + 1 < 2 ^ 31 by omega), s16]
      rw [xst_ne _ _ _ (by decide : (17 : Nat) ≠ 16), xst_ne _ _ _ (by decide : (7 : Nat) ≠ 16), s17, nI_1]
  · rintro _ rc ⟨S', rfl, hfr, hce⟩
    refine ⟨S', ?_, hfr, hce⟩
    show B_X3_fillSets_21 _ _ rc (nI (2 ^ P.n)) S' = _
    unfold B_X3_fillSets_21
    rw [if_pos (nI_lt (by omega) (by omega))]
theorem canFollow_eq {P : Pb} {S : XSt} (hC : CP P S) (hy : ∀ s, s < 2 ^ P.n → S 17 s = nI (P.yr s)) {s g : Nat} (hs : s < 2 ^ P.n) (hg : g < P.n) : F_X3_canFollow S (nI s) (nI g) = some (if P.ok s g = true then 1 else 0) := by
  have hn := hC.1.1
  have hN := two8 hn
  have hk := hC.2.2.2.2.1 g (by omega)
  have hor : s ||| 2 ^ g < 2 ^ P.n := Nat.or_lt_two_pow hs (two_lt hg)
  unfold F_X3_canFollow Pb.ok
  cases hb : s.testBit g with
  | true =>
    rw [if_neg (fun q => by rw [nI_bit0 (by omega) (by omega), hb] at q; cases q)]
    simp
  | false =>
    rw [if_pos ((nI_bit0 (by omega) (by omega)).mpr hb), if_pos (xin_nI (by omega) (by decide)), xti_nI (by omega), hk.2.2.2.2.1, nI_andn, nI_shl1 (by omega), nI_or, xti_nI (show s ||| 2 ^ g < 2 ^ 31 by omega), hk.2.2.1, hy _ hor]
    have hba : andn (P.bl g) s < 2 ^ 31 := Nat.lt_of_lt_of_le (andn_lt (n := 8) (by have := hk.2.2.2.2.2.1; omega)) (by decide)
    by_cases h1 : andn (P.bl g) s = 0
    · rw [if_pos ((nI_z hba).mpr h1), if_pos (xin_nI (by omega) (by decide)), if_pos (xin_nI (by omega) (by decide))]
      have h99 := yr_le hC (s ||| 2 ^ g)
      have hto := hk.2.2.2.1
      by_cases h2 : P.yr (s ||| 2 ^ g) ≤ P.to g
      · rw [if_neg (nI_nlt h2 (by omega))]; simp [h1, h2]
      · rw [if_pos (nI_lt (by omega) (by omega))]; simp [h1, h2]
    · rw [if_neg (fun q => h1 ((nI_z hba).mp q))]; simp [h1]
theorem stp_lt {P : Pb} (hP : P.good) (s g : Nat) : P.stp s g < 2 ^ 10 := by
  unfold Pb.stp
  by_cases h : P.rb.testBit g = true
  · rw [if_pos h]; decide
  · rw [if_neg h]
    exact Nat.lt_of_le_of_lt Nat.and_le_left (andn_lt (Nat.lt_of_le_of_lt Nat.and_le_left (seen_lt hP s)))
theorem gapsAt_eq {P : Pb} {S : XSt} (hC : CP P S) (hx : ∀ s, s < 2 ^ P.n → S 16 s = nI (P.seen s)) {s g : Nat} (hs : s < 2 ^ P.n) (hg : g < P.n) : F_X3_gapsAt S (nI s) (nI g) = some (nI (P.stp s g)) := by
  have hn := hC.1.1
  have hN := two8 hn
  have hk := hC.2.2.2.2.1 g (by omega)
  unfold F_X3_gapsAt Pb.stp
  rw [hC.2.2.1, all_eq hC]
  cases hb : P.rb.testBit g with
  | true =>
    rw [if_neg (fun q => by rw [nI_bit0 hC.2.2.2.1 (by omega), hb] at q; cases q)]
    rfl
  | false =>
    rw [if_pos ((nI_bit0 hC.2.2.2.1 (by omega)).mpr hb), if_neg (by decide), nI_shl1 (by omega), nI_andn, nI_andn]
    simp only [xlet]
    have hl : andn (andn (2 ^ P.n - 1) s) (2 ^ g) < 2 ^ P.n := andn_lt (andn_lt (Nat.sub_lt (Nat.two_pow_pos _) (by decide)))
    rw [if_pos (xin_nI (by omega) (by decide)), if_pos (xin_nI (by omega) (by decide)), if_pos (xin_nI (by omega) (by decide)), xti_nI (by omega), xti_nI (by omega), xti_nI (by omega), hx s hs, hx _ hl, hk.2.2.2.2.2.2, hC.2.2.2.2.2.2, nI_and, nI_andn, nI_and]
    rfl
def stI (P : Pb) (s g : Nat) : Int32 := if P.ok s g = true then nI (P.stp s g) else -1
theorem nI_8 {s g : Nat} : nI s * (8 : Int32) + nI g = nI (s * 8 + g) := by
  have : (8 : Int32) = nI 8 := rfl
  rw [this, pk_mul, nI_add]
theorem fillSteps_eq {P : Pb} {S : XSt} (hC : CP P S) (hx : ∀ s, s < 2 ^ P.n → S 16 s = nI (P.seen s) ∧ S 17 s = nI (P.yr s)) : ∃ S' : XSt, F_X3_fillSteps S = some S' ∧ (∀ q, q ≠ 18 → S' q = S q) ∧ ∀ s, s < 2 ^ P.n → ∀ g, g < P.n → S' 18 (s * 8 + g) = stI P s g := by
  have hn := hC.1.1
  have hN := two8 hn
  have hN0 : 0 < 2 ^ P.n := Nat.two_pow_pos _
  unfold F_X3_fillSteps
  rw [all_eq hC]
  simp only [xlet]
  refine xlp_Q (Q := fun o => ∃ S' : XSt, o = some S' ∧ (∀ q, q ≠ 18 → S' q = S q) ∧ ∀ s, s < 2 ^ P.n → ∀ g, g < P.n → S' 18 (s * 8 + g) = stI P s g)
    (I := fun j t => ∃ S' : XSt, t = (nI j, S') ∧ (∀ q, q ≠ 18 → S' q = S q) ∧ ∀ s, s < j → ∀ g, g < P.n → S' 18 (s * 8 + g) = stI P s g) 0 (2 ^ P.n) (by omega) (by omega) ⟨S, rfl, fun _ _ => rfl, fun s hs => by omega⟩ ?_ ?_
  · rintro j _ rc - hj ⟨S', rfl, hfr, hce⟩
    right
    show ∃ t', _ ∧ B_X3_fillSteps_7 _ _ rc (nI j) S' = rc t'
    unfold B_X3_fillSteps_7
    rw [if_neg (nI_nlt (by omega) (by omega))]
    refine xlp_Q (Q := fun o => ∃ t' : Int32 × XSt, (∃ S' : XSt, t' = (nI (j + 1), S') ∧ (∀ q, q ≠ 18 → S' q = S q) ∧ ∀ s, s < j + 1 → ∀ g, g < P.n → S' 18 (s * 8 + g) = stI P s g) ∧ o = rc t')
      (I := fun i t => ∃ S' : XSt, t = (nI i, S') ∧ (∀ q, q ≠ 18 → S' q = S q) ∧ (∀ s, s < j → ∀ g, g < P.n → S' 18 (s * 8 + g) = stI P s g) ∧ ∀ g, g < i → S' 18 (j * 8 + g) = stI P j g) 0 P.n (by omega) (by omega) ⟨S', rfl, hfr, hce, fun g hg => by omega⟩ ?_ ?_
    · rintro i _ rc' - hi ⟨V, rfl, vfr, vce, vci⟩
      right
      have hCV : CP P V := hC.keep (vfr 1 (by decide)) (vfr 7 (by decide)) (vfr 8 (by decide)) (vfr 9 (by decide)) (vfr 10 (by decide))
      have hc := canFollow_eq hCV (fun s hs => by rw [vfr 17 (by decide)]; exact (hx s hs).2) hj hi
      have hg := gapsAt_eq hCV (fun s hs => by rw [vfr 16 (by decide)]; exact (hx s hs).1) hj hi
      refine ⟨(nI (i + 1), xst V 18 (j * 8 + i) (stI P j i)), ⟨_, rfl, fun q hq => ?_, fun s hs g hgn => ?_, fun g hgi => ?_⟩, ?_⟩
      · rw [xst_ne _ _ _ hq]; exact vfr q hq
      · rw [xst_idx _ _ _ (by omega)]; exact vce s hs g hgn
      · by_cases e : g = i
        · subst e; rw [xst_same]
        · rw [xst_idx _ _ _ (by omega)]; exact vci g (by omega)
      · show B_X3_fillSteps_14 _ _ _ rc' (nI i) V = _
        unfold B_X3_fillSteps_14
        rw [if_neg (by rw [hCV.2.1]; exact fun q => absurd ((nI_leI (by omega) (by omega)).mp q) (by omega)), hc, hg]
        simp only [Option.bind_some, xlet]
        unfold stI
        by_cases ho : P.ok j i = true
        · rw [if_pos ho, if_neg (by decide), if_pos ho, nI_8, if_pos (xin_nI (by omega) (by decide)), xti_nI (by omega), nI_1]
        · rw [if_neg ho, if_pos rfl, if_neg ho, nI_8, if_pos (xin_nI (by omega) (by decide)), xti_nI (by omega), nI_1]
    · rintro _ rc' ⟨V, rfl, vfr, vce, vci⟩
      refine ⟨(nI (j + 1), V), ⟨V, rfl, vfr, fun s hs g hg => ?_⟩, ?_⟩
      · by_cases e : s = j
        · subst e; exact vci g hg
        · exact vce s (by omega) g hg
      · show B_X3_fillSteps_14 _ _ _ rc' (nI P.n) V = _
        unfold B_X3_fillSteps_14
        have h14 : V 1 4 = nI P.n := by rw [vfr 1 (by decide)]; exact hC.2.1
        rw [if_pos (by rw [h14]; exact (nI_leI (by omega) (by omega)).mpr (Nat.le_refl _))]
        simp only [xlet]
        rw [nI_1]
  · rintro _ rc ⟨S', rfl, hfr, hce⟩
    refine ⟨S', ?_, hfr, hce⟩
    show B_X3_fillSteps_7 _ _ rc (nI (2 ^ P.n)) S' = _
    unfold B_X3_fillSteps_7
    rw [if_pos (nI_lt (by omega) (by omega))]
