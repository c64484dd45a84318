/-! LEFT OUT: the search, the step -/
def cand (P : Pb) (W c : Nat) : Prop := andn c W = 0 ∧ ∃ u ∈ P.L.map (P.uni 0), andn u c = 0
theorem cand_lt {P : Pb} {W c : Nat} (hW : W < 2 ^ 10) (h : cand P W c) : c < 2 ^ 10 := by
  have h := andn_0.mp h.1
  rcases Nat.lt_or_ge c (2 ^ 10) with h' | h'
  · exact h'
  · obtain ⟨k, hk1, hk2⟩ := Nat.exists_ge_and_testBit_of_ge_two_pow h'
    have := h k hk2
    rw [Nat.testBit_lt_two_pow (Nat.lt_of_lt_of_le hW (Nat.pow_le_pow_right (by decide) hk1))] at this
    cases this
def lres (P : Pb) (W r : Nat) : Prop := (andn r W = 0 ∧ (∃ u ∈ P.L.map (P.uni 0), andn u r = 0) ∧ ∀ c, andn c W = 0 → (∃ u ∈ P.L.map (P.uni 0), andn u c = 0) → ¬ lt2 c r) ∨ (r = W ∧ ∀ c, andn c W = 0 → (∃ u ∈ P.L.map (P.uni 0), andn u c = 0) → ¬ popN 10 c < popN 10 W)
theorem sB20 (W k j : Nat) (hW : W < 2 ^ 10) (hk : k ≤ 10) (hj : j < 1024) (c2 : Int32) (kx : XSt → Option (Int32 × XSt)) (rc : (Int32 × XSt) → Option (Int32 × XSt)) (X : XSt) : B_X3_searchLeftOut_20 (nI W) c2 (nI k) kx rc (nI j) X = if popN 10 j = k ∧ andn j W = 0 then (F_X3_reachesAllWithout X (nI j)).bind fun z6 => (if z6.1 = 0 then rc (nI (j + 1), z6.2) else some (nI j, z6.2)) else rc (nI (j + 1), X) := by
  unfold B_X3_searchLeftOut_20
  have hpj := popN_le 10 j
  have hal : andn j W < 2 ^ 31 := Nat.lt_of_lt_of_le (andn_lt (n := 10) (by omega)) (by decide)
  rw [if_neg (show ¬ (1023 : Int32) < nI j from nI_nlt (b := j) (a := 1023) (by omega) (by decide)), bitCount_10 j (by omega), nI_andn]
  simp only [xlet_eq, i10, ↓reduceIte]
  rw [nI_1]
  by_cases hp : popN 10 j = k
  · rw [if_pos (show nI (popN 10 j) = nI k by rw [hp])]
    by_cases ha : andn j W = 0
    · rw [if_pos ((nI_z hal).mpr ha), if_pos ⟨hp, ha⟩]
    · rw [if_neg (fun q => ha ((nI_z hal).mp q)), if_neg (fun q => ha q.2)]
  · rw [if_neg (fun q => hp ((nI_eq (by omega) (by omega)).mp q)), if_neg (fun q => hp q.1)]
theorem search_eq {P : Pb} {S : XSt} (hC : CP P S) (h18 : ∀ s, s < 2 ^ P.n → ∀ g, g < P.n → S 18 (s * 8 + g) = stI P s g) : ∃ (W r : Nat) (S' : XSt), W < 2 ^ 10 ∧ (∀ s, s < 2 ^ P.n → ∀ g, g < P.n → P.ok s g = true → andn (P.stp s g) W = 0) ∧ F_X3_searchLeftOut S = some (nI r, S') ∧ (∀ q, q ≠ 26 → S' q = S q) ∧ lres P W r := by
  obtain ⟨W, hW, eW, hWs⟩ := kwg_eq hC h18
  refine ⟨W, ?_⟩
  have hpW := popN_le 10 W
  suffices h : ∃ (r : Nat) (S' : XSt), F_X3_searchLeftOut S = some (nI r, S') ∧ (∀ q, q ≠ 26 → S' q = S q) ∧ lres P W r by
    obtain ⟨r, S', h1, h2, h3⟩ := h
    exact ⟨r, S', hW, hWs, h1, h2, h3⟩
  unfold F_X3_searchLeftOut
  rw [eW, Option.bind_some, xlet_eq, bitCount_10 W (by omega)]
  refine xlp_Q (Q := fun o => ∃ (r : Nat) (S' : XSt), o = some (nI r, S') ∧ (∀ q, q ≠ 26 → S' q = S q) ∧ lres P W r) (I := fun k t => ∃ V : XSt, t = (nI k, V) ∧ (∀ q, q ≠ 26 → V q = S q) ∧ ∀ c, cand P W c → ¬ popN 10 c < k) 0 (popN 10 W) (by omega) (by omega) ⟨S, rfl, fun _ _ => rfl, fun c _ h => by omega⟩ ?_ ?_
  · rintro k _ rc - hk ⟨V, rfl, vfr, hno⟩
    show (∃ (r : Nat) (S' : XSt), B_X3_searchLeftOut_12 (nI W) (nI (popN 10 W)) _ rc (nI k) V = some (nI r, S') ∧ _) ∨ ∃ t', _ ∧ B_X3_searchLeftOut_12 (nI W) (nI (popN 10 W)) _ rc (nI k) V = rc t'
    unfold B_X3_searchLeftOut_12
    rw [if_neg (fun q => absurd ((nI_leI (by omega) (by omega)).mp q) (by omega))]
    refine xlp_Q (Q := fun o => (∃ (r : Nat) (S' : XSt), o = some (nI r, S') ∧ (∀ q, q ≠ 26 → S' q = S q) ∧ lres P W r) ∨ ∃ t' : Int32 × XSt, (∃ V : XSt, t' = (nI (k + 1), V) ∧ (∀ q, q ≠ 26 → V q = S q) ∧ ∀ c, cand P W c → ¬ popN 10 c < k + 1) ∧ o = rc t') (I := fun j t => ∃ V : XSt, t = (nI j, V) ∧ (∀ q, q ≠ 26 → V q = S q) ∧ ∀ c, cand P W c → ¬ (popN 10 c = k ∧ c < j)) 0 1024 (by omega) (by omega) ⟨V, rfl, vfr, fun c _ h => by omega⟩ ?_ ?_
    · rintro j _ rc' - hj ⟨X, rfl, xfr, hxo⟩
      have hCX : CP P X := hC.keep (xfr 1 (by decide)) (xfr 7 (by decide)) (xfr 8 (by decide)) (xfr 9 (by decide)) (xfr 10 (by decide))
      have hpj := popN_le 10 j
      have next : ∀ X' : XSt, (∀ q, q ≠ 26 → X' q = S q) → ¬ (cand P W j ∧ popN 10 j = k) → ∃ t', (∃ V : XSt, t' = (nI (j + 1), V) ∧ (∀ q, q ≠ 26 → V q = S q) ∧ ∀ c, cand P W c → ¬ (popN 10 c = k ∧ c < j + 1)) ∧ rc' (nI (j + 1), X') = rc' t' := fun X' hf hn => ⟨_, ⟨X', rfl, hf, fun c hc h => by
        by_cases e : c = j
        · subst e; exact hn ⟨hc, h.1⟩
        · exact hxo c hc ⟨h.1, by omega⟩⟩, rfl⟩
      show ((∃ (r : Nat) (S' : XSt), B_X3_searchLeftOut_20 (nI W) (nI (popN 10 W)) (nI k) _ rc' (nI j) X = some (nI r, S') ∧ _) ∨ ∃ t', _ ∧ B_X3_searchLeftOut_20 (nI W) (nI (popN 10 W)) (nI k) _ rc' (nI j) X = rc t') ∨ ∃ t', _ ∧ B_X3_searchLeftOut_20 (nI W) (nI (popN 10 W)) (nI k) _ rc' (nI j) X = rc' t'
      rw [sB20 W k j hW (by omega) hj]
      by_cases hp : popN 10 j = k ∧ andn j W = 0
      · rw [if_pos hp]
        obtain ⟨v, X', e, f, hv⟩ := reach_eq hCX (fun s hs g hg => by rw [xfr 18 (by decide)]; exact h18 s hs g hg) (o := j) (by omega)
        rw [e, Option.bind_some]
        have hf' : ∀ q, q ≠ 26 → X' q = S q := fun q hq => by rw [f q hq]; exact xfr q hq
        rcases hv with ⟨hv1, hv2⟩ | ⟨hv1, hv2⟩
        · rw [hv1, if_neg i10]
          refine Or.inl (Or.inl ⟨j, X', rfl, hf', Or.inl ⟨hp.2, hv2, fun c h1 h2 => ?_⟩⟩)
          have n1 := hno c ⟨h1, h2⟩
          have n2 := hxo c ⟨h1, h2⟩
          unfold lt2
          rw [hp.1]
          omega
        · rw [hv1, if_pos rfl]
          exact Or.inr (next X' hf' (fun h => hv2 h.1.2))
      · rw [if_neg hp]
        exact Or.inr (next X xfr (fun h => hp ⟨h.2, h.1.1⟩))
    · rintro _ rc' ⟨X, rfl, xfr, hxo⟩
      right
      refine ⟨(nI (k + 1), X), ⟨X, rfl, xfr, fun c hc h => ?_⟩, ?_⟩
      · have h1 := cand_lt hW hc
        exact hxo c hc ⟨by have := hno c hc; omega, by omega⟩
      · show B_X3_searchLeftOut_20 (nI W) (nI (popN 10 W)) (nI k) _ rc' (nI 1024) X = _
        unfold B_X3_searchLeftOut_20
        rw [if_pos (show (1023 : Int32) < nI 1024 by decide)]
        simp only [xlet_eq]
        rw [nI_1]
  · rintro _ rc ⟨V, rfl, vfr, hno⟩
    refine ⟨W, V, ?_, vfr, Or.inr ⟨rfl, fun c h1 h2 => hno c ⟨h1, h2⟩⟩⟩
    show B_X3_searchLeftOut_12 (nI W) (nI (popN 10 W)) _ rc (nI (popN 10 W)) V = _
    unfold B_X3_searchLeftOut_12
    rw [if_pos ((nI_leI (by omega) (by omega)).mpr (Nat.le_refl _))]
theorem uni_sub {P : Pb} {W : Nat} (hW : ∀ s, s < 2 ^ P.n → ∀ g, g < P.n → P.ok s g = true → andn (P.stp s g) W = 0) : ∀ (p : List Nat) (s : Nat), s < 2 ^ P.n → P.okp s p = true → (∀ g ∈ p, g < P.n) → andn (P.uni s p) W = 0 := by
  intro p
  induction p with
  | nil => intro s _ _ _; show andn 0 W = 0; simp [andn]
  | cons g p ih =>
    intro s hs hok hlt
    have hok' : (P.ok s g && P.okp (s ||| 2 ^ g) p) = true := hok
    rw [Bool.and_eq_true] at hok'
    have hg := hlt g (List.mem_cons_self ..)
    show andn (P.stp s g ||| P.uni (s ||| 2 ^ g) p) W = 0
    rw [andn_or]
    exact ⟨hW s hs g hg hok'.1, ih _ (Nat.or_lt_two_pow hs (two_lt hg)) hok'.2 (fun x hx => hlt x (List.mem_cons_of_mem _ hx))⟩
theorem L_gbits {P : Pb} (hn : P.n ≤ 8) : P.L.map P.gbits = P.L.map (P.uni 0) := List.map_congr_left (fun p hp => gbits_uni hn (L_mem hp).1)
theorem lt2_tot {a b : Nat} (h1 : ¬ lt2 a b) (h2 : ¬ lt2 b a) : a = b := by unfold lt2 at h1 h2; omega
theorem left_now {S : XSt} {U : XSr} (hI : IX S U) : ∃ r S' U', F_X6_leftOut S = some (r, S') ∧ F_X7_leftNow U = some (r, U') ∧ FR (pbS S) S' U' := by
  obtain ⟨S1, V, e1, -, e3, hF⟩ := both hI
  unfold F_X6_leftOut F_X7_leftNow
  rw [e1, e3]
  simp only [Option.bind_some]
  by_cases hL : (pbS S).L = []
  · rw [anyI_0 hL, if_pos rfl, if_pos rfl]
    exact ⟨_, _, _, rfl, rfl, hF⟩
  · have hP := hF.2.2.1.1
    obtain ⟨r, r1, r2, r3⟩ := hF.2.2.2.2.2.1.2.1.2 hL
    rw [L_gbits hP.1] at r2 r3
    rw [anyI_1 hL, if_neg i10, if_neg i10, r1]
    unfold F_X3_fewestLeftOut
    by_cases h14 : S1 4 14 = 0
    · rw [if_pos h14]
      obtain ⟨r', q1, q2, q3⟩ := hF.2.2.2.2.1.2.2 h14
      rw [← hF.2.1] at q2 q3
      have : r' = r := lt2_tot (r3 r' q2) (q3 r r2)
      rw [q1, this, Option.bind_some]
      exact ⟨_, _, _, rfl, rfl, hF⟩
    · rw [if_neg h14]
      obtain ⟨W, o, S2, hW, hWs, es, fs, hl⟩ := search_eq hF.2.2.1 (hF.2.1 ▸ hF.2.2.2.2.1.1).1.1
      have heq : o = r := left_eq (L := (pbS S).L.map ((pbS S).uni 0)) (by simpa using hL) hW (fun u hu => by
        obtain ⟨p, hp, rfl⟩ := List.mem_map.mp hu
        have hm := (mem_pths (pbS S)).mp hp
        exact uni_sub hWs p 0 (Nat.two_pow_pos _) hm.2.2 hm.2.1) r2 r3 hl
      rw [es, heq]
      simp only [Option.bind_some, xlet_eq]
      have ep : pbS (xst (xst S2 4 15 (nI r)) 4 14 0) = pbS S1 := pbS_keep (by rw [xst_ne _ _ _ (by decide), xst_ne _ _ _ (by decide)]; exact fs 1 (by decide)) (by rw [xst_ne _ _ _ (by decide), xst_ne _ _ _ (by decide)]; exact fs 7 (by decide)) (by rw [xst_ne _ _ _ (by decide), xst_ne _ _ _ (by decide)]; exact fs 8 (by decide)) (by rw [xst_ne _ _ _ (by decide), xst_ne _ _ _ (by decide)]; exact fs 9 (by decide)) (by rw [xst_ne _ _ _ (by decide), xst_ne _ _ _ (by decide)]; exact fs 10 (by decide))
      have hq : ∀ q, q ≠ 4 → q ≠ 26 → (xst (xst S2 4 15 (nI r)) 4 14 0) q = S1 q := fun q h1 h2 => by rw [xst_ne _ _ _ h1, xst_ne _ _ _ h1]; exact fs q h2
      have hj : ∀ j, j ≠ 14 → j ≠ 15 → (xst (xst S2 4 15 (nI r)) 4 14 0) 4 j = S1 4 j := fun j h1 h2 => by rw [xst_idx _ _ _ h1, xst_idx _ _ _ h2, fs 4 (by decide)]
      have hSC : SCx (xst (xst S2 4 15 (nI r)) 4 14 0) := by
        refine ⟨by rw [ep]; exact hF.2.2.2.2.1.1.keep (fun q q1 q2 => hq q (by omega) (by omega)), fun h13 => ?_, fun _ => ?_⟩
        · rw [hj 13 (by decide) (by decide)] at h13
          have := hF.2.2.2.2.1.2.1 h13
          unfold SPR at this ⊢
          rw [ep, hq 23 (by decide) (by decide)]; exact this
        · rw [ep, ← hF.2.1]
          exact ⟨r, rfl, r2, r3⟩
      refine ⟨_, _, _, rfl, rfl, hF.keepS (fun q h1 h2 => hq q h1 (by omega)) (by rw [hj 12 (by decide) (by decide)]; exact hF.2.2.2.2.2.2.1) hSC⟩
theorem st_leftOut : St_leftOut IX := by
  intro S U hI
  obtain ⟨r, S', U', e1, e2, hF⟩ := left_now hI
  exact ⟨r, S', U', e1, by unfold F_X7_leftOut; rw [e2]; rfl, hF.1⟩
/-! WRITE -/
theorem st_write : St_write IX := by
  intro S U x1 hI
  by_cases hs0 : F_X6_isSheet x1 = 0
  · exact ⟨-2, S, U, by unfold F_X6_write; rw [if_pos hs0], by unfold F_X7_write; rw [isSheet_eq, if_pos hs0], hI⟩
  obtain ⟨s, rfl, hs⟩ := isSheet_n hs0
  have hxs : xin (nI s) 4 = true := xin_nI hs (by decide)
  have hs31 : xti (nI s) = s := xti_nI (by omega)
  obtain ⟨i1, -⟩ := hI.2.2.2.2.2.2.2.1 s hs
  unfold F_X6_write F_X7_write
  rw [isSheet_eq, if_neg hs0, if_neg hs0, if_pos hxs, if_pos hxs, hs31]
  rcases i1 with ⟨l1, l2⟩ | ⟨l1, l2⟩
  · rw [l1, l2, if_neg i10, if_pos rfl]
    obtain ⟨f1, f2, f3⟩ := finding_step SCok_x WRok_x hI 1
    rw [f1, f2]
    exact ⟨_, _, _, rfl, rfl, f3⟩
  · rw [l1, l2, if_pos rfl, if_neg i10]
    obtain ⟨S1, V, e1, -, e3, hF⟩ := both hI
    rw [e1, e3]
    simp only [Option.bind_some]
    by_cases hL : (pbS S).L = []
    · rw [anyI_0 hL, if_pos rfl, if_pos rfl]
      exact ⟨_, _, _, rfl, rfl, hF.1⟩
    · rw [anyI_1 hL, if_neg i10, if_neg i10, if_pos hxs, xlet_eq]
      obtain ⟨f, f1, f2, f3, f4, f5, f6, f7⟩ := the_row hF hL
      obtain ⟨-, -, -, k4, k5, -⟩ := hF.1.2.2.2.2.2.2.2.1 s hs
      have hn8 := hF.2.2.1.1.1
      have h14 := hF.2.2.1.2.1
      obtain ⟨z, hz, hz40⟩ : ∃ z, S1 (29 + s) 3 = nI z ∧ z ≤ 40 := ⟨_, k5.1, k5.2⟩
      have hzU : V.1 24 s = nI z := by rw [← k4, hz]
      have h00 := hF.2.2.2.1.2.1
      rw [hz, h14, xmin_nI (by omega) (by omega)]
      have hm1 : min z (pbS S).n ≤ (pbS S).n := Nat.min_le_right _ _
      have hm2 : min z (pbS S).n ≤ z := Nat.min_le_left _ _
      obtain ⟨E1, E2, hE, r1, r2⟩ := xlp_sim (Bd1 := fun k rc t => B_X6_write_63 (nI s) (nI (min z (pbS S).n)) k rc t.1 t.2) (k1 := fun e9 => some (nI (min z (pbS S).n), e9)) (Bd2 := fun k rc t => B_X7_write_37 (nI s) k rc t.1 t.2) (k2 := fun e7 => some (e7.1, e7.2))
        (fun m t1 t2 => ∃ (j : Nat) (X : XSt) (Y : XSr), j + m = min z (pbS S).n ∧ t1 = (nI j, X) ∧ t2 = (nI j, Y) ∧ IX X Y ∧ (∀ q, q < 29 → X q = S1 q) ∧ (∀ q, q ≠ 25 → Y.1 q = V.1 q))
        (fun E1 E2 => E2.1 = nI (min z (pbS S).n) ∧ IX E1 E2.2) (by
          intro m t1 t2 rc1 rc2 h
          obtain ⟨j, X, Y, hj, rfl, rfl, hXY, xq, yq⟩ := h
          by_cases he : j = min z (pbS S).n
          · left
            refine ⟨X, (nI j, Y), ⟨by rw [he], hXY⟩, ?_, ?_⟩
            · show B_X6_write_63 (nI s) (nI (min z (pbS S).n)) _ rc1 (nI j) X = _
              unfold B_X6_write_63
              rw [if_pos ((nI_leI (by omega) (by omega)).mpr (by omega))]
            · show B_X7_write_37 (nI s) _ rc2 (nI j) Y = _
              unfold B_X7_write_37
              rw [yq 0 (by decide), h00]
              by_cases h1 : (pbS S).n ≤ j
              · rw [if_pos ((nI_leI (by omega) (by omega)).mpr h1)]
              · rw [if_neg (fun q => h1 ((nI_leI (by omega) (by omega)).mp q)), if_pos hxs, hs31, yq 24 (by decide), hzU, if_pos ((nI_leI (by omega) (by omega)).mpr (by omega))]
          · right
            have hjn : j < (pbS S).n := by omega
            obtain ⟨X', Y', c1, c2, c3, c4, c5, -⟩ := keep_eq SCok_x WRok_x hXY (s := s) (i := j) hs (by omega) (nI (ix f j))
            refine ⟨m - 1, (nI (j + 1), X'), (nI (j + 1), Y'), by omega, ⟨j + 1, X', Y', by omega, rfl, rfl, c3, fun q hq => by rw [c4 q hq]; exact xq q hq, fun q hq => by rw [c5 q hq]; exact yq q hq⟩, ?_, ?_⟩
            · show B_X6_write_63 (nI s) (nI (min z (pbS S).n)) _ rc1 (nI j) X = _
              unfold B_X6_write_63
              rw [if_neg (fun q => absurd ((nI_leI (by omega) (by omega)).mp q) (by omega)), if_pos hxs, if_pos (xin_nI (by omega) (by decide)), hs31, xti_nI (by omega), xq 22 (by decide), f6 j hjn, c1, Option.bind_some, xlet_eq, nI_1]
            · show B_X7_write_37 (nI s) _ rc2 (nI j) Y = _
              unfold B_X7_write_37
              rw [yq 0 (by decide), h00, if_neg (fun q => absurd ((nI_leI (by omega) (by omega)).mp q) (by omega)), if_pos hxs, hs31, yq 24 (by decide), hzU, if_neg (fun q => absurd ((nI_leI (by omega) (by omega)).mp q) (by omega)), if_pos (xin_nI (by omega) (by decide)), xti_nI (by omega), yq 17 (by decide), f7 j hjn, c2, Option.bind_some, xlet_eq, nI_1]) (min z (pbS S).n) (0, S1) (0, V) ⟨0, S1, V, by omega, rfl, rfl, hF.1, fun _ _ => rfl, fun _ _ => rfl⟩ XFU XFU (by rw [XFU_eq]; omega) (by rw [XFU_eq]; omega)
      refine ⟨_, _, _, r1, ?_, hE.2⟩
      rw [r2, hE.1]
