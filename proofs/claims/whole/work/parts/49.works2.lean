/-! THE REFERENCE: counts whole, works -/
def RA (P : Pb) (D : List (List Nat)) (U : XSr) : Prop := RA1 P D U ∧ RA2 P D U ∧ RA3 P D U
theorem RA3.keep {P : Pb} {D : List (List Nat)} {U V : XSr} (h : RA3 P D U) (h23 : V.1 0 23 = U.1 0 23) (h24 : V.1 0 24 = U.1 0 24) (h17 : V.1 17 = U.1 17) (h18 : V.1 18 = U.1 18) (h19 : V.1 19 = U.1 19) : RA3 P D V := by
  unfold RA3 at h ⊢
  rw [h23, h24, h17, h18, h19]; exact h
theorem RA.keep {P : Pb} {D : List (List Nat)} {U V : XSr} (h : RA P D U) (hj : ∀ j, j = 23 ∨ j = 24 ∨ j = 25 ∨ j = 31 → V.1 0 j = U.1 0 j) (hq : ∀ q, 16 ≤ q → q ≤ 19 → V.1 q = U.1 q) (h2 : V.2 = U.2) : RA P D V := by
  refine ⟨?_, ?_, h.2.2.keep (hj 23 (by omega)) (hj 24 (by omega)) (hq 17 (by omega) (by omega)) (hq 18 (by omega) (by omega)) (hq 19 (by omega) (by omega))⟩
  · have := h.1
    unfold RA1 at this ⊢
    rw [hj 25 (by omega), h2, hq 16 (by omega) (by omega)]; exact this
  · have := h.2.1
    unfold RA2 at this ⊢
    rw [hj 31 (by omega)]; exact this
theorem gbits_lt (P : Pb) (p : List Nat) : P.gbits p < 2 ^ 10 := bitsN_lt _ _
/-- the part of counts behind its loop -/
theorem cOut_eq {P : Pb} {U : XSr} {D : List (List Nat)} {p : List Nat} (hP : P.good) (h0 : U.1 0 0 = nI P.n) (hO : RO P p U) (hA2 : RA2 P D U) (hA3 : RA3 P D U) : ∃ V : XSr, cOut (nI (P.gaps p)) (nI (P.gbits p)) U = some V ∧ RA2 P (D ++ [p]) V ∧ RA3 P (D ++ [p]) V ∧ (∀ q, q ≠ 0 → q ≠ 17 → q ≠ 18 → q ≠ 19 → V.1 q = U.1 q) ∧ (∀ j, j ≠ 23 → j ≠ 24 → j ≠ 31 → V.1 0 j = U.1 0 j) ∧ V.2 = U.2 := by
  have hb := gbits_lt P p
  have hlast : (D ++ [p]).map P.gbits = D.map P.gbits ++ [P.gbits p] := by rw [List.map_append]; rfl
  have hne : D ++ [p] ≠ [] := by simp
  have new : (∀ u ∈ D.map P.gbits, ¬ lt2 u (P.gbits p)) → ∃ V : XSr, cTail (nI (P.gaps p)) (xsr U 0 31 (nI (P.gbits p))) = some V ∧ RA2 P (D ++ [p]) V ∧ RA3 P (D ++ [p]) V ∧ (∀ q, q ≠ 0 → q ≠ 17 → q ≠ 18 → q ≠ 19 → V.1 q = U.1 q) ∧ (∀ j, j ≠ 23 → j ≠ 24 → j ≠ 31 → V.1 0 j = U.1 0 j) ∧ V.2 = U.2 := by
    intro hu
    obtain ⟨V, e, v3, f1, f2, f3⟩ := cTail_eq (P := P) (U := xsr U 0 31 (nI (P.gbits p))) (D := D) (p := p) hP h0 hO (hA3.keep rfl rfl rfl rfl rfl)
    refine ⟨V, e, ⟨fun h => absurd h hne, fun _ => ⟨P.gbits p, ?_, by rw [hlast]; simp, fun u hu' => ?_⟩⟩, v3, fun q q0 q1 q2 q3 => ?_, fun j j1 j2 j3 => ?_, f3⟩
    · rw [f2 31 (by decide) (by decide)]; rfl
    · rw [hlast] at hu'
      rcases List.mem_append.mp hu' with h | h
      · exact hu u h
      · rw [List.mem_singleton.mp h]; unfold lt2; omega
    · rw [f1 q q0 q1 q2 q3, xsr_1, xst_ne _ _ _ q0]
    · rw [f2 j j1 j2, xsr_1, xst_idx _ _ _ j3]
  have old : ∀ r, U.1 0 31 = nI r → r ∈ D.map P.gbits → (∀ u ∈ D.map P.gbits, ¬ lt2 u r) → ¬ lt2 (P.gbits p) r → ∃ V : XSr, cTail (nI (P.gaps p)) U = some V ∧ RA2 P (D ++ [p]) V ∧ RA3 P (D ++ [p]) V ∧ (∀ q, q ≠ 0 → q ≠ 17 → q ≠ 18 → q ≠ 19 → V.1 q = U.1 q) ∧ (∀ j, j ≠ 23 → j ≠ 24 → j ≠ 31 → V.1 0 j = U.1 0 j) ∧ V.2 = U.2 := by
    intro r hr hrm hru hnp
    obtain ⟨V, e, v3, f1, f2, f3⟩ := cTail_eq (P := P) (U := U) (D := D) (p := p) hP h0 hO hA3
    refine ⟨V, e, ⟨fun h => absurd h hne, fun _ => ⟨r, by rw [f2 31 (by decide) (by decide)]; exact hr, by rw [hlast]; exact List.mem_append_left _ hrm, fun u hu' => ?_⟩⟩, v3, f1, fun j j1 j2 _ => f2 j j1 j2, f3⟩
    rw [hlast] at hu'
    rcases List.mem_append.mp hu' with h | h
    · exact hru u h
    · rw [List.mem_singleton.mp h]; exact hnp
  unfold cOut
  by_cases hD : D = []
  · rw [hA2.1 hD, if_pos rfl]
    exact new (fun u hu => by rw [hD] at hu; cases hu)
  · obtain ⟨r, r1, r2, r3⟩ := hA2.2 hD
    have hr10 : r < 2 ^ 10 := by
      obtain ⟨q, -, rfl⟩ := List.mem_map.mp r2
      exact gbits_lt P q
    rw [r1, if_neg (nI_m1 (by omega)), ones_eq U (show P.gbits p < 2 ^ 31 by omega), ones_eq U (show r < 2 ^ 31 by omega), popN_12 hb, popN_12 hr10]
    simp only [Option.bind_some]
    have l1 := popN_le 10 (P.gbits p)
    have l2 := popN_le 10 r
    by_cases h1 : popN 10 (P.gbits p) < popN 10 r
    · rw [if_pos (nI_lt h1 (by omega))]
      exact new (fun u hu => by have := r3 u hu; unfold lt2 at this ⊢; omega)
    · rw [if_neg (nI_nlt (by omega) (by omega))]
      by_cases h2 : popN 10 (P.gbits p) = popN 10 r
      · rw [if_pos (by rw [h2])]
        by_cases h3 : r ≤ P.gbits p
        · rw [if_pos ((nI_leI (by omega) (by omega)).mpr h3)]
          exact old r r1 r2 r3 (by unfold lt2; omega)
        · rw [if_neg (fun q => h3 ((nI_leI (by omega) (by omega)).mp q))]
          exact new (fun u hu => by have := r3 u hu; unfold lt2 at this ⊢; omega)
      · rw [if_neg (fun q => h2 ((nI_eq (by omega) (by omega)).mp q))]
        exact old r r1 r2 r3 (by unfold lt2; omega)
theorem counts_eq {P : Pb} {U : XSr} {D : List (List Nat)} {p : List Nat} (hR : RP P U) (hO : RO P p U) (hA : RA P D U) : ∃ V : XSr, F_X7_counts U = some V ∧ RA P (D ++ [p]) V ∧ (∀ q, q ≠ 0 → ¬ (16 ≤ q ∧ q ≤ 19) → V.1 q = U.1 q) ∧ (∀ j, j ≠ 23 → j ≠ 24 → j ≠ 25 → j ≠ 31 → V.1 0 j = U.1 0 j) := by
  have hn := hR.1.1
  have hg := gaps_le hR.1 (p := p) (by rw [hO.1]; exact hn)
  obtain ⟨⟨a1, a2, a3⟩, hA2, hA3⟩ := hA
  rw [counts_f, counts_a hR hO]
  rw [if_pos (xin_nI (show P.gaps p < 1000 by omega) (by decide))]
  have c16 : ∀ k, (cS U (nI (P.gaps p))).1 16 k = if k = P.gaps p then U.1 16 (P.gaps p) + 1 else U.1 16 k := by
    intro k
    unfold cS
    rw [xti_nI (by omega), xsr_1, xst_at]; rfl
  have cq : ∀ q, q ≠ 0 → q ≠ 16 → (cS U (nI (P.gaps p))).1 q = U.1 q := by
    intro q h1 h2
    unfold cS
    rw [xsr_1, xst_ne _ _ _ h2]
    show (xsr U 0 25 _).1 q = _
    rw [xsr_1, xst_ne _ _ _ h1]
  have c0 : ∀ j, j ≠ 25 → (cS U (nI (P.gaps p))).1 0 j = U.1 0 j := by
    intro j h1
    unfold cS
    rw [xsr_1, xst_ne _ _ _ (by decide)]
    show (xsr U 0 25 _).1 0 j = _
    rw [xsr_1, xst_idx _ _ _ h1]
  have c25 : (cS U (nI (P.gaps p))).1 0 25 = nI (D.length + 1) := by
    show U.1 0 25 + 1 = _
    rw [a1, nI_1]
  have c2 : (cS U (nI (P.gaps p))).2 = lN ((D.map P.gaps).sum + P.gaps p) := by
    show U.2 + (nI (P.gaps p)).toInt64 = _
    rw [a2, nI_l (by omega), lN_add]
  obtain ⟨V, e, v2, v3, f1, f2, f3⟩ := cOut_eq (P := P) (U := cS U (nI (P.gaps p))) (D := D) (p := p) hR.1 (by rw [c0 0 (by decide)]; exact hR.2.1) ⟨hO.1, hO.2.1, hO.2.2.1, fun i hi => by rw [cq 15 (by decide) (by decide)]; exact hO.2.2.2 i hi⟩ (by unfold RA2; rw [c0 31 (by decide)]; exact hA2) (hA3.keep (c0 23 (by decide)) (c0 24 (by decide)) (cq 17 (by decide) (by decide)) (cq 18 (by decide) (by decide)) (cq 19 (by decide) (by decide)))
  refine ⟨V, e, ⟨⟨?_, ?_, fun k hk => ?_⟩, v2, v3⟩, fun q q1 q2 => ?_, fun j j1 j2 j3 j4 => ?_⟩
  · rw [f2 25 (by decide) (by decide) (by decide), c25]; simp
  · rw [f3, c2]; simp
  · rw [f1 16 (by decide) (by decide) (by decide) (by decide), c16, List.map_append, List.count_append]
    by_cases h : k = P.gaps p
    · rw [if_pos h, ← h, a3 k hk, nI_1]; simp [h]
    · rw [if_neg h, a3 k hk]
      have : ([p].map P.gaps).count k = 0 := List.count_eq_zero.mpr (fun hm => h (by simpa using hm))
      rw [this, Nat.add_zero]
  · rw [f1 q q1 (by omega) (by omega) (by omega), cq q q1 (by omega)]
  · rw [f2 j j1 j2 j4, c0 j j3]
theorem works_a {U : XSr} (K : XSr → Option XSr) (Q : Option XSr → Prop) (hk : ∀ V : XSr, (∀ q, q ≠ 16 → V.1 q = U.1 q) → V.2 = U.2 → (∀ k, k < 1000 → V.1 16 k = nI 0) → Q (K V)) : Q (xlp (fun k rc t => B_X7_works_45 k rc t.1 t.2) K XFU (0, U)) := by
  refine xlp_Q (Q := Q) (I := fun j t => ∃ V : XSr, t = (nI j, V) ∧ (∀ q, q ≠ 16 → V.1 q = U.1 q) ∧ V.2 = U.2 ∧ ∀ k, k < j → V.1 16 k = nI 0) 0 1000 (by omega) (by omega) ⟨U, rfl, fun _ _ => rfl, rfl, fun k hk => by omega⟩ ?_ ?_
  · rintro j _ rc - hj ⟨V, rfl, vfr, v2, vce⟩
    right
    refine ⟨(nI (j + 1), xsr V 16 j (nI 0)), ⟨_, rfl, fun q hq => ?_, v2, fun k hk => ?_⟩, ?_⟩
    · rw [xsr_1, xst_ne _ _ _ hq]; exact vfr q hq
    · rw [xsr_1, xst_at]
      by_cases e : k = j
      · rw [if_pos e]
      · rw [if_neg e]; exact vce k (by omega)
    · show B_X7_works_45 _ rc (nI j) V = _
      unfold B_X7_works_45
      rw [if_neg (show ¬ (1000 : Int32) ≤ nI j from nI_ge (b := 1000) (by omega) (by decide)), if_pos (xin_nI (by omega) (by decide)), xti_nI (by omega)]
      simp only [xlet_eq]
      rw [nI_1]; rfl
  · rintro _ rc ⟨V, rfl, vfr, v2, vce⟩
    have : B_X7_works_45 K rc (nI 1000) V = K V := by
      unfold B_X7_works_45
      rw [if_pos (show (1000 : Int32) ≤ nI 1000 by decide)]
    show Q (B_X7_works_45 K rc (nI 1000) V)
    rw [this]
    exact hk V vfr v2 vce
/-- cells that the loop of works leaves -/
def wfr (U V : XSr) : Prop := (∀ q, q ≠ 0 → ¬ (15 ≤ q ∧ q ≤ 19) → V.1 q = U.1 q) ∧ ∀ j, j ≠ 23 → j ≠ 24 → j ≠ 25 → j ≠ 31 → V.1 0 j = U.1 0 j
theorem works_b {P : Pb} {U : XSr} (hR : RP P U) (hA : RA P [] U) (ho : ∀ i, i < P.n → U.1 15 i = nI i) : ∃ V : XSr, xlp (fun k rc t => B_X7_works_71 k rc t.1 t.2) (fun e19 => some e19) XFU (1, U) = some V ∧ RP P V ∧ RA P (P.pths P.n 0) V ∧ wfr U V := by
  have hn := hR.1.1
  obtain ⟨L, hL, hch⟩ := perms_all P.n
  have hPL := perms_le hn
  have hz := range_desc P.n
  have hmem : ∀ p ∈ perms P.n P.n 0, p.length = P.n ∧ p.Nodup ∧ ∀ g ∈ p, g < P.n := fun p hp => by
    obtain ⟨h1, h2, h3, -⟩ := mem_perms.mp hp
    exact ⟨h1, h3, h2⟩
  have hpf : P.pths P.n 0 = (perms P.n P.n 0).filter (P.okp 0) := pths_filter P P.n 0
  generalize hLL : perms P.n P.n 0 = PL at *
  generalize (List.range P.n).reverse = z at *
  refine xlp_Q (Q := fun o => ∃ V : XSr, o = some V ∧ RP P V ∧ RA P (P.pths P.n 0) V ∧ wfr U V)
    (I := fun j t => ∃ V : XSr, RP P V ∧ wfr U V ∧ ((∃ X p R, PL = X ++ p :: R ∧ X.length = j ∧ ChT p R z ∧ t = (1, V) ∧ RO P p V ∧ RA P (X.filter (P.okp 0)) V) ∨ (j = PL.length ∧ t = (0, V) ∧ RA P (PL.filter (P.okp 0)) V))) 0 PL.length (by omega) (by omega) ?_ ?_ ?_
  · refine ⟨U, hR, ⟨fun _ _ _ => rfl, fun _ _ _ _ _ => rfl⟩, Or.inl ⟨[], List.range P.n, L, by rw [hL]; rfl, rfl, hch, rfl, ?_, hA⟩⟩
    obtain ⟨h1, h2, h3⟩ := hmem (List.range P.n) (by rw [hL]; exact List.mem_cons_self ..)
    refine ⟨h1, h2, h3, fun i hi => ?_⟩
    rw [ho i hi]
    unfold ix
    rw [List.getD_eq_getElem?_getD, List.getElem?_range hi]; rfl
  · rintro j t rc - hj ⟨V, vR, vW, h⟩
    rcases h with ⟨X, p, R, x1, x2, x3, rfl, x5, x6⟩ | ⟨h1, -, -⟩
    · right
      have e1 : F_X7_canBe V = some (if P.okp 0 p = true then 1 else 0) := canBe_eq vR x5
      have e2 : ∃ W : XSr, (if (if P.okp 0 p = true then (1 : Int32) else 0) = 0 then some V else F_X7_counts V) = some W ∧ RP P W ∧ wfr U W ∧ RO P p W ∧ RA P ((X ++ [p]).filter (P.okp 0)) W := by
        by_cases hok : P.okp 0 p = true
        · rw [if_pos hok, if_neg (by decide)]
          obtain ⟨W, w1, w2, w3, w4⟩ := counts_eq vR x5 x6
          refine ⟨W, w1, vR.keep (fun q hq => w3 q (by omega) (by omega)) (fun j hj => w4 j (by omega) (by omega) (by omega) (by omega)), ⟨fun q h1 h2 => by rw [w3 q h1 (by omega)]; exact vW.1 q h1 h2, fun j h1 h2 h3 h4 => by rw [w4 j h1 h2 h3 h4]; exact vW.2 j h1 h2 h3 h4⟩, ⟨x5.1, x5.2.1, x5.2.2.1, fun i hi => by rw [w3 15 (by decide) (by decide)]; exact x5.2.2.2 i hi⟩, ?_⟩
          rw [List.filter_append]
          have : [p].filter (P.okp 0) = [p] := by simp [hok]
          rw [this]; exact w2
        · rw [if_neg hok, if_pos rfl]
          refine ⟨V, rfl, vR, vW, x5, ?_⟩
          rw [List.filter_append]
          have : [p].filter (P.okp 0) = [] := by simp [hok]
          rw [this, List.append_nil]; exact x6
      obtain ⟨W, w1, w2, w3, w4, w5⟩ := e2
      show ∃ t', _ ∧ B_X7_works_71 _ rc 1 V = rc t'
      unfold B_X7_works_71
      rw [if_neg (by decide), e1]
      simp only [Option.bind_some, xlet_eq]
      have e3 : ∀ (F : XSr → Option XSr), (if (if P.okp 0 p = true then (1 : Int32) else 0) = 0 then F V else (F_X7_counts V).bind F) = F W := by
        intro F
        by_cases hok : (if P.okp 0 p = true then (1 : Int32) else 0) = 0
        · rw [if_pos hok] at w1 ⊢
          rw [Option.some.inj w1]
        · rw [if_neg hok] at w1 ⊢
          rw [w1]; rfl
      rw [e3 (fun t14 => (F_X7_turns t14).bind fun z16 => rc (z16.1, z16.2))]
      cases R with
      | nil =>
        have ed : p = z := x3
        have et := turns_desc w2.2.1 hn w4.1 w4.2.2.1 w4.2.2.2 (ed ▸ hz)
        rw [et]
        refine ⟨(0, W), ⟨W, w2, w3, Or.inr ⟨by rw [x1]; simp [x2], rfl, by rw [x1]; exact w5⟩⟩, rfl⟩
      | cons p' R =>
        obtain ⟨W', t1, t2, t3, t4⟩ := turns_nx w2.2.1 hn w4.1 w4.2.2.1 w4.2.2.2 x3.1
        rw [t1]
        have hp' := hmem p' (by rw [x1]; simp)
        refine ⟨(1, W'), ⟨W', w2.keep (fun q hq => t2 q (by omega)) (fun j _ => by rw [t2 0 (by decide)]), ⟨fun q h1 h2 => by rw [t2 q (by omega)]; exact w3.1 q h1 h2, fun j h1 h2 h3 h4 => by rw [t2 0 (by decide)]; exact w3.2 j h1 h2 h3 h4⟩, Or.inl ⟨X ++ [p], p', R, by rw [x1]; simp, by simp [x2], x3.2, rfl, ⟨hp'.1, hp'.2.1, hp'.2.2, t4⟩, w5.keep (fun j _ => by rw [t2 0 (by decide)]) (fun q h1 h2 => t2 q (by omega)) t3⟩⟩, rfl⟩
    · omega
  · rintro t rc ⟨V, vR, vW, h⟩
    rcases h with ⟨X, p, R, x1, x2, -⟩ | ⟨-, rfl, h3⟩
    · have := congrArg List.length x1
      simp at this; omega
    · refine ⟨V, ?_, vR, by rw [hpf]; exact h3, vW⟩
      show B_X7_works_71 _ rc 0 V = _
      unfold B_X7_works_71
      rw [if_pos rfl]
