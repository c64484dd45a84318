/-! THE CLASS's SEARCH: behind, row, settle -/
theorem full_bit {P : Pb} {g : Nat} : (2 ^ P.n - 1).testBit g = decide (g < P.n) := Nat.testBit_two_pow_sub_one ..
theorem popN_all (n : Nat) : popN n (2 ^ n - 1) = n := by
  have : ∀ j, j ≤ n → popN j (2 ^ n - 1) = j := by
    intro j
    induction j with
    | zero => intro _; rfl
    | succ j ih =>
      intro hj
      show popN j (2 ^ n - 1) + ((2 ^ n - 1).testBit j).toNat = j + 1
      rw [ih (by omega), Nat.testBit_two_pow_sub_one]
      have : decide (j < n) = true := by simpa using (show j < n by omega)
      rw [this]; rfl
  exact this n (Nat.le_refl _)
theorem B_all (P : Pb) : P.B (2 ^ P.n - 1) = 0 ∧ P.W (2 ^ P.n - 1) = 1 := by
  unfold Pb.B Pb.W
  rw [popN_all, Nat.sub_self]
  have h : P.bh 0 (2 ^ P.n - 1) = 0 := by
    show min 0 (lmin NW []) = 0
    exact Nat.min_eq_left (Nat.zero_le _)
  refine ⟨h, ?_⟩
  unfold Pb.wy
  rw [h]; rfl
theorem popN_lt_all {P : Pb} {s : Nat} (hs : s < 2 ^ P.n - 1) : popN P.n s < P.n := by
  have h1 := popN_le P.n s
  rcases Nat.lt_or_ge (popN P.n s) P.n with h | h
  · exact h
  · have := full_of (n := P.n) (s := s) (by omega) (by omega)
    omega
theorem xlet_eq {α β : Type} (e : α) (F : α → β) : xlet e F = F e := Eq.trans (show xlet e F = F e from rfl) (Eq.refl (F e))
theorem fB23 (kx : XSt → Option XSt) (rc : (Int32 × XSt) → Option XSt) (S1 : XSt) {s : Nat} (hs : s < 256) : B_X3_fillBehind_23 kx rc (nI s) S1 = xlp (fun k rc t => B_X3_fillBehind_44 (nI s) k rc t.1 t.2) (fun e13 => rc (nI s + (-1), e13)) XFU (0, xst (xst S1 20 s 1000000) 21 s 0) := by
  unfold B_X3_fillBehind_23
  rw [if_neg (nI_pos (show s < 2 ^ 31 by omega)), if_pos (xin_nI hs (by decide)), xti_nI (show s < 2 ^ 31 by omega)]
  simp only [xlet_eq]
  rw [if_pos (xin_nI hs (by decide))]
theorem fillBehind_eq {P : Pb} {S : XSt} (hC : CP P S) (hst : ∀ s, s < 2 ^ P.n → ∀ g, g < P.n → S 18 (s * 8 + g) = stI P s g) : ∃ S' : XSt, F_X3_fillBehind S = some S' ∧ (∀ q, q ≠ 20 → q ≠ 21 → S' q = S q) ∧ ∀ s, s < 2 ^ P.n → S' 20 s = nI (P.B s) ∧ S' 21 s = nI (P.W s) := by
  have hn := hC.1.1
  have hN := two8 hn
  have hN0 : 0 < 2 ^ P.n := Nat.two_pow_pos _
  unfold F_X3_fillBehind
  rw [all_eq hC]
  simp only [xlet]
  rw [if_pos (xin_nI (by omega) (by decide)), if_pos (xin_nI (by omega) (by decide)), xti_nI (by omega)]
  refine xlp_Q (Q := fun o => ∃ S' : XSt, o = some S' ∧ (∀ q, q ≠ 20 → q ≠ 21 → S' q = S q) ∧ ∀ s, s < 2 ^ P.n → S' 20 s = nI (P.B s) ∧ S' 21 s = nI (P.W s))
    (I := fun j t => ∃ S' : XSt, t = (nI (2 ^ P.n - 1 - j) - 1, S') ∧ (∀ q, q ≠ 20 → q ≠ 21 → S' q = S q) ∧ ∀ s, 2 ^ P.n - 1 - j ≤ s → s < 2 ^ P.n → S' 20 s = nI (P.B s) ∧ S' 21 s = nI (P.W s)) 0 (2 ^ P.n - 1) (by omega) (by omega) ?_ ?_ ?_
  · refine ⟨xst (xst S 20 (2 ^ P.n - 1) 0) 21 (2 ^ P.n - 1) 1, by rw [Nat.sub_zero], fun q h1 h2 => ?_, fun s h1 h2 => ?_⟩
    · rw [xst_ne _ _ _ h2, xst_ne _ _ _ h1]
    · have : s = 2 ^ P.n - 1 := by omega
      subst this
      rw [xst_same, xst_ne _ _ _ (by decide), xst_same, (B_all P).1, (B_all P).2]
      exact ⟨rfl, rfl⟩
  · rintro j _ rc - hj ⟨S', rfl, hfr, hce⟩
    right
    obtain ⟨s, es⟩ : ∃ s, 2 ^ P.n - 1 - j = s + 1 := ⟨2 ^ P.n - 1 - j - 1, by omega⟩
    rw [es] at hce
    have es' : 2 ^ P.n - 1 - (j + 1) = s := by omega
    have hs : s < 2 ^ P.n - 1 := by omega
    obtain ⟨m, hm⟩ : ∃ m, P.n - popN P.n s = m + 1 := ⟨P.n - popN P.n s - 1, by have := popN_lt_all hs; omega⟩
    have hm7 : m ≤ 7 := by omega
    rw [es, nI_sub1]
    show ∃ t', _ ∧ B_X3_fillBehind_23 _ rc (nI s) S' = rc t'
    rw [fB23 _ _ _ (show s < 256 by omega)]
    refine xlp_Q (Q := fun o => ∃ t' : Int32 × XSt, (∃ S' : XSt, t' = (nI (2 ^ P.n - 1 - (j + 1)) - 1, S') ∧ (∀ q, q ≠ 20 → q ≠ 21 → S' q = S q) ∧ ∀ s, 2 ^ P.n - 1 - (j + 1) ≤ s → s < 2 ^ P.n → S' 20 s = nI (P.B s) ∧ S' 21 s = nI (P.W s)) ∧ o = rc t')
      (I := fun i t => ∃ V : XSt, t = (nI i, V) ∧ (∀ q, q ≠ 20 → q ≠ 21 → V q = S q) ∧ (∀ u, s + 1 ≤ u → u < 2 ^ P.n → V 20 u = nI (P.B u) ∧ V 21 u = nI (P.W u)) ∧ V 20 s = nI (lmin NW (P.costsJ m s i)) ∧ V 21 s = nI ((P.costsJ m s i).count (lmin NW (P.costsJ m s i)))) 0 P.n (by omega) (by omega) ?_ ?_ ?_
    · refine ⟨_, rfl, fun q h1 h2 => ?_, fun u h1 h2 => ?_, ?_, ?_⟩
      · rw [xst_ne _ _ _ h2, xst_ne _ _ _ h1]; exact hfr q h1 h2
      · rw [xst_ne _ _ _ (by decide : (20 : Nat) ≠ 21), xst_idx _ _ _ (show u ≠ s by omega), xst_idx _ _ _ (show u ≠ s by omega), xst_ne _ _ _ (by decide : (21 : Nat) ≠ 20)]
        exact hce u h1 h2
      · rw [xst_ne _ _ _ (by decide : (20 : Nat) ≠ 21), xst_same, show P.costsJ m s 0 = [] from rfl, show lmin NW [] = NW from rfl]; exact NW_nI
      · rw [xst_same, show P.costsJ m s 0 = [] from rfl, List.count_nil]; exact nI_0.symm
    · rintro i _ rc' - hi ⟨V, rfl, vfr, vce, v20, v21⟩
      right
      have hCV : CP P V := hC.keep (vfr 1 (by decide) (by decide)) (vfr 7 (by decide) (by decide)) (vfr 8 (by decide) (by decide)) (vfr 9 (by decide) (by decide)) (vfr 10 (by decide) (by decide))
      have hor : s ||| 2 ^ i < 2 ^ P.n := Nat.or_lt_two_pow (by omega) (two_lt hi)
      obtain ⟨V', h1, h2, h3⟩ := tryNext_eq hCV (s := s) (by omega) hi (by rw [vfr 18 (by decide) (by decide)]; exact hst s (by omega) i hi) (fun ho => vce _ (or_gt (ok_bit ho)) hor) v20 v21 (lmin_led _ _) (costsJ_len P hn (by omega) hm7 _)
      refine ⟨(nI (i + 1), V'), ⟨V', rfl, fun q q1 q2 => ?_, fun u u1 u2 => ?_, ?_⟩, ?_⟩
      · funext x
        rw [h2 q x (by omega), vfr q q1 q2]
      · rw [h2 20 u (by omega), h2 21 u (by omega)]; exact vce u u1 u2
      · have hr := bh_round hC.1 (s := s) (j := i) hm7
        have key : (V' 20 s, V' 21 s) = (nI (lmin NW (P.costsJ m s (i + 1)), (P.costsJ m s (i + 1)).count (lmin NW (P.costsJ m s (i + 1)))).1, nI (lmin NW (P.costsJ m s (i + 1)), (P.costsJ m s (i + 1)).count (lmin NW (P.costsJ m s (i + 1)))).2) := by
          rw [h3, hr]
          by_cases ho : P.ok s i = true
          · have e : P.n - popN P.n (s ||| 2 ^ i) = m := by have := popN_step hi (ok_bit ho); omega
            rw [if_pos ho, if_pos ho]
            unfold Pb.B Pb.W
            rw [e]
          · rw [if_neg ho, if_neg ho]
        exact ⟨congrArg Prod.fst key, congrArg Prod.snd key⟩
      · show B_X3_fillBehind_44 _ _ rc' (nI i) V = _
        unfold B_X3_fillBehind_44
        rw [if_neg (by rw [hCV.2.1]; exact fun q => absurd ((nI_leI (by omega) (by omega)).mp q) (by omega)), h1]
        simp only [Option.bind_some, xlet]
        rw [nI_1]
    · rintro _ rc' ⟨V, rfl, vfr, vce, v20, v21⟩
      refine ⟨(nI s - 1, V), ⟨V, by rw [es'], vfr, fun u u1 u2 => ?_⟩, ?_⟩
      · rw [es'] at u1
        by_cases e : u = s
        · subst e
          unfold Pb.B Pb.W
          rw [hm, v20, v21]
          unfold Pb.wy Pb.bh
          rw [costs_succ]; exact ⟨rfl, rfl⟩
        · exact vce u (by omega) u2
      · show B_X3_fillBehind_44 _ _ rc' (nI P.n) V = _
        unfold B_X3_fillBehind_44
        have h14 : V 1 4 = nI P.n := by rw [vfr 1 (by decide) (by decide)]; exact hC.2.1
        rw [if_pos (by rw [h14]; exact (nI_leI (by omega) (by omega)).mpr (Nat.le_refl _))]
        rw [show nI s + (-1 : Int32) = nI s - 1 from (Int32.sub_eq_add_neg _ _).symm]
  · rintro _ rc ⟨S', rfl, hfr, hce⟩
    refine ⟨S', ?_, hfr, fun s hs => hce s (by omega) hs⟩
    show B_X3_fillBehind_23 _ rc (nI (2 ^ P.n - 1 - (2 ^ P.n - 1)) - 1) S' = _
    unfold B_X3_fillBehind_23
    rw [Nat.sub_self, if_pos (by decide)]
/-- what the search leaves: steps, behind, ways -/
def CS (P : Pb) (S : XSt) : Prop := (∀ s, s < 2 ^ P.n → ∀ g, g < P.n → S 18 (s * 8 + g) = stI P s g) ∧ (∃ a, P.isAh a ∧ ∀ s, s < 2 ^ P.n → a s ≤ NW ∧ S 19 s = nI (a s)) ∧ ∀ s, s < 2 ^ P.n → S 20 s = nI (P.B s) ∧ S 21 s = nI (P.W s)
def lnx (P : Pb) (s g : Nat) : Prop := P.ok s g = true ∧ 0 < P.W (s ||| 2 ^ g) ∧ P.B (s ||| 2 ^ g) + P.ct s g = P.B s
theorem leastNext_eq {P : Pb} {S : XSt} (hC : CP P S) (hS : CS P S) {s : Nat} (hs : s < 2 ^ P.n) (hex : ∃ g, g < P.n ∧ lnx P s g) : ∃ g, F_X3_leastNext S (nI s) = some (nI g) ∧ g < P.n ∧ lnx P s g ∧ ∀ h, h < g → ¬ lnx P s h := by
  have hn := hC.1.1
  have hN := two8 hn
  have hNW : NW = 1000000 := rfl
  have h88 : 8 ^ 8 = 16777216 := by decide
  obtain ⟨h18, -, h20⟩ := hS
  unfold F_X3_leastNext
  refine xlp_Q (Q := fun o => ∃ g, o = some (nI g) ∧ g < P.n ∧ lnx P s g ∧ ∀ h, h < g → ¬ lnx P s h) (I := fun j t => t = nI j ∧ ∀ h, h < j → ¬ lnx P s h) 0 P.n (by omega) (by omega) ⟨rfl, fun h hh => by omega⟩ ?_ ?_
  · rintro i _ rc - hi ⟨rfl, hno⟩
    show (∃ g, B_X3_leastNext_2 S (nI s) _ rc (nI i) = _ ∧ _) ∨ ∃ t', _ ∧ B_X3_leastNext_2 S (nI s) _ rc (nI i) = rc t'
    have hnext : ¬ lnx P s i → ∃ t', (t' = nI (i + 1) ∧ ∀ h, h < i + 1 → ¬ lnx P s h) ∧ rc (nI (i + 1)) = rc t' := fun hi' => ⟨_, ⟨rfl, fun h hh => by
      by_cases e : h = i
      · subst e; exact hi'
      · exact hno h (by omega)⟩, rfl⟩
    unfold B_X3_leastNext_2
    rw [if_neg (by rw [hC.2.1]; exact fun q => absurd ((nI_leI (by omega) (by omega)).mp q) (by omega)), nI_8, if_pos (xin_nI (by omega) (by decide)), xti_nI (by omega), h18 s hs i hi]
    simp only [xlet]
    by_cases ho : P.ok s i = true
    · have hor : s ||| 2 ^ i < 2 ^ P.n := Nat.or_lt_two_pow hs (two_lt hi)
      have hwg : F_X5_weigh S (stI P s i) = nI (P.ct s i) := by
        unfold stI; rw [if_pos ho]; exact hC.2.2.2.2.2.1 _ (stp_lt hC.1 s i)
      have l1 : P.B (s ||| 2 ^ i) ≤ NW := bh_lt P _ _
      have l1' : P.B s ≤ NW := bh_lt P _ _
      have l2 := ct_le hC.1 s i
      have l3 : P.W (s ||| 2 ^ i) ≤ 8 ^ 8 := wy_lt P hn (by omega)
      rw [if_neg (fun q => (stI_no hC.1).mp q ho), nI_shl1 (by omega), nI_or, if_pos (xin_nI (by omega) (by decide)), xti_nI (show s ||| 2 ^ i < 2 ^ 31 by omega), (h20 _ hor).1, (h20 _ hor).2, nI_1]
      by_cases hw : 0 < P.W (s ||| 2 ^ i)
      · rw [if_neg (nI_nle hw (by omega)), if_pos (xin_nI (by omega) (by decide)), if_pos (xin_nI (by omega) (by decide)), xti_nI (show s < 2 ^ 31 by omega), (h20 s hs).1, hwg, nI_add]
        by_cases he : P.B (s ||| 2 ^ i) + P.ct s i = P.B s
        · rw [if_pos (by rw [he])]
          exact Or.inl ⟨i, rfl, hi, ⟨ho, hw, he⟩, hno⟩
        · rw [if_neg (fun q => he ((nI_eq (by omega) (by omega)).mp q))]
          exact Or.inr (hnext (fun q => he q.2.2))
      · have e0 : P.W (s ||| 2 ^ i) = 0 := by omega
        rw [e0, if_pos (by decide)]
        exact Or.inr (hnext (fun q => hw q.2.1))
    · rw [if_pos ((stI_no hC.1).mpr ho), nI_1]
      exact Or.inr (hnext (fun q => ho q.1))
  · rintro _ rc ⟨rfl, hno⟩
    obtain ⟨g, hg, hl⟩ := hex
    exact absurd hl (hno g hg)
def ix (p : List Nat) (i : Nat) : Nat := p.getD i 0
theorem ix_app {p q : List Nat} {i : Nat} (h : i < p.length) : ix (p ++ q) i = ix p i := by
  unfold ix
  rw [List.getD_eq_getElem?_getD, List.getD_eq_getElem?_getD, List.getElem?_append_left h]
theorem ix_mid (p q : List Nat) (g : Nat) : ix (p ++ g :: q) p.length = g := by
  unfold ix
  rw [List.getD_eq_getElem?_getD, List.getElem?_append_right (Nat.le_refl _)]
  simp
theorem fillRow_eq {P : Pb} {S : XSt} (hC : CP P S) (hS : CS P S) : ∃ S' : XSt, F_X3_fillRow S = some S' ∧ (∀ q, q ≠ 22 → S' q = S q) ∧ (0 < P.W 0 → ∃ p, P.fst P.n 0 p ∧ ∀ i, i < P.n → S' 22 i = nI (ix p i)) := by
  have hn := hC.1.1
  have hN := two8 hn
  have hN0 : 0 < 2 ^ P.n := Nat.two_pow_pos _
  have h88 : 8 ^ 8 = 16777216 := by decide
  have hpop0 : P.n - popN P.n 0 = P.n := by rw [popN_0]; rfl
  unfold F_X3_fillRow
  by_cases hW : 0 < P.W 0
  · refine xlp_Q (Q := fun o => ∃ S' : XSt, o = some S' ∧ (∀ q, q ≠ 22 → S' q = S q) ∧ (0 < P.W 0 → ∃ p, P.fst P.n 0 p ∧ ∀ i, i < P.n → S' 22 i = nI (ix p i)))
      (I := fun j t => ∃ (s : Nat) (p : List Nat) (S' : XSt), t = (nI s, nI j, S') ∧ (∀ q, q ≠ 22 → S' q = S q) ∧ s < 2 ^ P.n ∧ popN P.n s = j ∧ p.length = j ∧ (∀ i, i < j → S' 22 i = nI (ix p i)) ∧ P.costs (P.n - j) s ≠ [] ∧ ∀ r, P.fst (P.n - j) s r → P.fst P.n 0 (p ++ r)) 0 P.n (by omega) (by omega) ?_ ?_ ?_
    · refine ⟨0, [], S, rfl, fun _ _ => rfl, hN0, popN_0 _, rfl, fun i hi => by omega, ?_, fun r hr => hr⟩
      have := (wy_pos hC.1 (m := P.n) (s := 0) hn).mp (by have h := hW; unfold Pb.W at h; rw [hpop0] at h; exact h)
      exact this
    · rintro j _ rc - hj ⟨s, p, S', rfl, hfr, hs, hpop, hlen, hce, hne, hfst⟩
      right
      have hC' : CP P S' := hC.keep (hfr 1 (by decide)) (hfr 7 (by decide)) (hfr 8 (by decide)) (hfr 9 (by decide)) (hfr 10 (by decide))
      have hS' : CS P S' := by
        unfold CS
        rw [hfr 18 (by decide), hfr 19 (by decide), hfr 20 (by decide), hfr 21 (by decide)]; exact hS
      obtain ⟨m, hm⟩ : ∃ m, P.n - j = m + 1 := ⟨P.n - j - 1, by omega⟩
      have hm7 : m ≤ 7 := by omega
      have hB : ∀ g, g < P.n → P.ok s g = true → P.B (s ||| 2 ^ g) = P.bh m (s ||| 2 ^ g) ∧ P.W (s ||| 2 ^ g) = P.wy m (s ||| 2 ^ g) := by
        intro g hg ho
        have e : P.n - popN P.n (s ||| 2 ^ g) = m := by have := popN_step hg (ok_bit ho); omega
        unfold Pb.B Pb.W
        rw [e]; exact ⟨rfl, rfl⟩
      have hBs : P.B s = P.bh (m + 1) s := by unfold Pb.B; rw [hpop, hm]
      rw [hm] at hne hfst
      have hex : ∃ g, g < P.n ∧ lnx P s g := by
        obtain ⟨g, g1, g2, g3, g4⟩ := least_ex hC.1 hm7 hne
        exact ⟨g, g1, g2, by rw [(hB g g1 g2).2]; exact g3, by rw [(hB g g1 g2).1, hBs]; exact g4⟩
      obtain ⟨g, h1, h2, h3, h4⟩ := leastNext_eq hC' hS' hs hex
      have hor : s ||| 2 ^ g < 2 ^ P.n := Nat.or_lt_two_pow hs (two_lt h2)
      have hWs : 0 < P.W s := by
        unfold Pb.W; rw [hpop, hm]; exact (wy_pos hC.1 (by omega)).mpr hne
      refine ⟨(nI (s ||| 2 ^ g), nI (j + 1), xst S' 22 j (nI g)), ⟨s ||| 2 ^ g, p ++ [g], _, rfl, fun q hq => ?_, hor, ?_, ?_, fun i hi => ?_, ?_, fun r hr => ?_⟩, ?_⟩
      · rw [xst_ne _ _ _ hq]; exact hfr q hq
      · rw [popN_or h2 (ok_bit h3.1), hpop]
      · rw [List.length_append, hlen]; rfl
      · by_cases e : i = j
        · subst e
          rw [xst_same, ← hlen, ix_mid]
        · rw [xst_idx _ _ _ e, ix_app (by omega)]; exact hce i (by omega)
      · have e : P.n - (j + 1) = m := by omega
        rw [e]
        have := h3.2.1
        rw [(hB g h2 h3.1).2] at this
        exact (wy_pos hC.1 (by omega)).mp this
      · have e : P.n - (j + 1) = m := by omega
        rw [e] at hr
        have := hfst (g :: r) (fst_step h2 h3.1 (by rw [← (hB g h2 h3.1).1, ← hBs]; exact h3.2.2) (fun h hh ho hw he => h4 h hh ⟨ho, by rw [(hB h (by omega) ho).2]; exact hw, by rw [(hB h (by omega) ho).1, hBs]; exact he⟩) hC.1 (by omega) hr)
        rw [List.append_assoc]; exact this
      · show B_X3_fillRow_4 _ rc (nI s) (nI j) S' = _
        unfold B_X3_fillRow_4
        have l3 : P.W s ≤ 8 ^ 8 := wy_lt P hn (by omega)
        rw [if_neg (by rw [hC'.2.1]; exact fun q => absurd ((nI_leI (by omega) (by omega)).mp q) (by omega)), if_pos (xin_nI (by omega) (by decide)), xti_nI (by omega), (hS'.2.2 s hs).2, if_neg (nI_nle hWs (by omega)), h1]
        simp only [Option.bind_some, xlet]
        rw [if_pos (xin_nI (by omega) (by decide)), xti_nI (by omega), nI_shl1 (by omega), nI_or, nI_1]
    · rintro _ rc ⟨s, p, S', rfl, hfr, hs, hpop, hlen, hce, hne, hfst⟩
      refine ⟨S', ?_, hfr, fun _ => ⟨p, ?_, hce⟩⟩
      · show B_X3_fillRow_4 _ rc (nI s) (nI P.n) S' = _
        unfold B_X3_fillRow_4
        have h14 : S' 1 4 = nI P.n := by rw [hfr 1 (by decide)]; exact hC.2.1
        rw [if_pos (by rw [h14]; exact (nI_leI (by omega) (by omega)).mpr (Nat.le_refl _))]
      · have := hfst [] (by
          rw [Nat.sub_self]
          refine ⟨[], [], rfl, ?_, fun q hq => absurd hq List.not_mem_nil⟩
          show 0 = min 0 (lmin NW [])
          exact (Nat.min_eq_left (Nat.zero_le _)).symm)
        rw [List.append_nil] at this
        exact this
  · refine xlp_Q (Q := fun o => ∃ S' : XSt, o = some S' ∧ (∀ q, q ≠ 22 → S' q = S q) ∧ (0 < P.W 0 → ∃ p, P.fst P.n 0 p ∧ ∀ i, i < P.n → S' 22 i = nI (ix p i)))
      (I := fun _ t => t = (0, 0, S)) 0 0 (by omega) (by omega) rfl (fun j t rc h1 h2 _ => by omega) ?_
    rintro _ rc rfl
    refine ⟨S, ?_, fun _ _ => rfl, fun h => absurd h hW⟩
    show B_X3_fillRow_4 _ rc 0 0 S = _
    unfold B_X3_fillRow_4
    have h0 : P.W 0 = 0 := by omega
    by_cases e : S 1 4 ≤ 0
    · rw [if_pos e]
    · rw [if_neg e, if_pos (by decide), show xti (0 : Int32) = 0 from rfl, (hS.2.2 0 hN0).2, h0, if_pos (by decide)]
/-- the class's cache is right for a problem -/
def CR (P : Pb) (S : XSt) : Prop := CS P S ∧ (0 < P.W 0 → ∃ p, P.fst P.n 0 p ∧ ∀ i, i < P.n → S 22 i = nI (ix p i))
theorem settle_new {P : Pb} {S : XSt} (hC : CP P S) (hst : ¬ S 4 12 = 0) : ∃ S' : XSt, F_X3_settle S = some (if 0 < P.W 0 then 1 else 0, S') ∧ (∀ q, q ≠ 4 → ¬ (16 ≤ q ∧ q ≤ 22) → S' q = S q) ∧ (∀ j, j ≠ 12 → j ≠ 13 → j ≠ 14 → S' 4 j = S 4 j) ∧ S' 4 12 = 0 ∧ S' 4 13 = 1 ∧ S' 4 14 = 1 ∧ CR P S' := by
  have hn := hC.1.1
  have hN0 : 0 < 2 ^ P.n := Nat.two_pow_pos _
  have h88 : 8 ^ 8 = 16777216 := by decide
  unfold F_X3_settle
  simp only [xlet]
  rw [if_neg hst]
  obtain ⟨S1, e1, f1, c1⟩ := fillSets_eq hC
  have hC1 : CP P S1 := hC.keep (f1 1 (by decide) (by decide)) (f1 7 (by decide) (by decide)) (f1 8 (by decide) (by decide)) (f1 9 (by decide) (by decide)) (f1 10 (by decide) (by decide))
  obtain ⟨S2, e2, f2, c2⟩ := fillSteps_eq hC1 c1
  have hC2 : CP P S2 := hC1.keep (f2 1 (by decide)) (f2 7 (by decide)) (f2 8 (by decide)) (f2 9 (by decide)) (f2 10 (by decide))
  obtain ⟨S3, e3, f3, c3⟩ := fillAhead_eq hC2 c2
  have hC3 : CP P S3 := hC2.keep (f3 1 (by decide)) (f3 7 (by decide)) (f3 8 (by decide)) (f3 9 (by decide)) (f3 10 (by decide))
  have c2' : ∀ s, s < 2 ^ P.n → ∀ g, g < P.n → S3 18 (s * 8 + g) = stI P s g := fun s hs g hg => by rw [f3 18 (by decide)]; exact c2 s hs g hg
  obtain ⟨S4, e4, f4, c4⟩ := fillBehind_eq hC3 c2'
  have hC4 : CP P S4 := hC3.keep (f4 1 (by decide) (by decide)) (f4 7 (by decide) (by decide)) (f4 8 (by decide) (by decide)) (f4 9 (by decide) (by decide)) (f4 10 (by decide) (by decide))
  have hS4 : CS P S4 := ⟨fun s hs g hg => by rw [f4 18 (by decide) (by decide)]; exact c2' s hs g hg, by rw [f4 19 (by decide) (by decide)]; exact c3, c4⟩
  obtain ⟨S5, e5, f5, c5⟩ := fillRow_eq hC4 hS4
  have hS5 : CS P S5 := by
    unfold CS
    rw [f5 18 (by decide), f5 19 (by decide), f5 20 (by decide), f5 21 (by decide)]; exact hS4
  rw [e1]; simp only [Option.bind_some]
  rw [e2]; simp only [Option.bind_some]
  rw [e3]; simp only [Option.bind_some]
  rw [e4]; simp only [Option.bind_some]
  rw [e5]; simp only [Option.bind_some]
  refine ⟨xst (xst (xst S5 4 12 0) 4 13 1) 4 14 1, ?_, fun q q1 q2 => ?_, fun j j1 j2 j3 => ?_, rfl, rfl, rfl, hS5, c5⟩
  · have e21 : (xst (xst (xst S5 4 12 0) 4 13 1) 4 14 1) 21 (xti 0) = nI (P.W 0) := (hS5.2.2 0 hN0).2
    rw [e21]
    have l3 : P.W 0 ≤ 8 ^ 8 := wy_lt P hn (by omega)
    by_cases h : 0 < P.W 0
    · rw [if_neg (nI_nle h (by omega)), if_pos h]
    · have h0 : P.W 0 = 0 := by omega
      rw [h0, if_pos (by decide), if_neg (by decide)]
  · rw [xst_ne _ _ _ q1, xst_ne _ _ _ q1, xst_ne _ _ _ q1, f5 q (by omega), f4 q (by omega) (by omega), f3 q (by omega), f2 q (by omega), f1 q (by omega) (by omega)]
  · rw [xst_idx _ _ _ j3, xst_idx _ _ _ j2, xst_idx _ _ _ j1, f5 4 (by decide), f4 4 (by decide) (by decide), f3 4 (by decide), f2 4 (by decide), f1 4 (by decide) (by decide)]
