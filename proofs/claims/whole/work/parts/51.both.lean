/-! BOTH ARE FRESH: settle here, works there -/
abbrev IX : XSt → XSr → Prop := Inv SCx WRx
def Pb.L (P : Pb) : List (List Nat) := P.pths P.n 0
/-- both caches are right, for one problem -/
def FR (P : Pb) (S : XSt) (U : XSr) : Prop := IX S U ∧ P = pbS S ∧ CP P S ∧ RP P U ∧ SCx S ∧ RA P P.L U ∧ S 4 12 = 0 ∧ U.1 0 14 = 1
def anyI (P : Pb) : Int32 := if P.L = [] then 0 else 1
theorem costs_L (P : Pb) : P.costs P.n 0 = P.L.map (P.cst 0) := rfl
theorem W0_pos {P : Pb} (hP : P.good) : 0 < P.W 0 ↔ P.L ≠ [] := by
  unfold Pb.W
  rw [popN_0, Nat.sub_zero, wy_pos hP hP.1, costs_L]
  simp
theorem settle_inv {S : XSt} {U : XSr} (hI : IX S U) : ∃ S' : XSt, F_X3_settle S = some (anyI (pbS S), S') ∧ IX S' U ∧ pbS S' = pbS S ∧ SCx S' ∧ S' 4 12 = 0 := by
  have hC := CP_of hI
  have hI0 := hI
  obtain ⟨hY, hW, hO, hL, hF, hA, hK, hS, hCc, hR⟩ := hI
  have hany : (if 0 < (pbS S).W 0 then (1 : Int32) else 0) = anyI (pbS S) := by
    unfold anyI
    by_cases h : (pbS S).L = []
    · rw [if_pos h, if_neg (fun q => (W0_pos hC.1).mp q h)]
    · rw [if_neg h, if_pos ((W0_pos hC.1).mpr h)]
  by_cases hst : S 4 12 = 0
  · have hsc := hCc.2 hst
    refine ⟨S, ?_, hI0, rfl, hsc, hst⟩
    unfold F_X3_settle
    simp only [xlet_eq]
    have e21 : S 21 (xti 0) = nI ((pbS S).W 0) := (hsc.1.1.2.2 0 (Nat.two_pow_pos _)).2
    have h88 : 8 ^ 8 = 16777216 := by decide
    have l3 : (pbS S).W 0 ≤ 8 ^ 8 := wy_lt _ hC.1.1 (by have := hC.1.1; omega)
    rw [if_pos hst, e21, ← hany]
    by_cases h : 0 < (pbS S).W 0
    · rw [if_neg (nI_nle h (by omega)), if_pos h]
    · have h0 : (pbS S).W 0 = 0 := by omega
      rw [h0, if_pos (by decide), if_neg (by decide)]
  · obtain ⟨S', e, f1, f2, s12, s13, s14, hCR⟩ := settle_new hC hst
    rw [hany] at e
    have ep : pbS S' = pbS S := pbS_keep (f1 1 (by decide) (by decide)) (f1 7 (by decide) (by decide)) (f1 8 (by decide) (by decide)) (f1 9 (by decide) (by decide)) (f1 10 (by decide) (by decide))
    have hsc : SCx S' := by
      refine ⟨by rw [ep]; exact hCR, fun h => ?_, fun h => ?_⟩
      · rw [s13] at h; exact absurd h (by decide)
      · rw [s14] at h; exact absurd h (by decide)
    refine ⟨S', e, ?_, ep, hsc, s12⟩
    have g := fun q (h : q ≠ 4 ∧ ¬ (16 ≤ q ∧ q ≤ 22)) => f1 q h.1 h.2
    refine ⟨?_, ?_, ?_, ?_, ?_, ?_, ?_, ?_, ⟨Or.inl s12, fun _ => hsc⟩, hR⟩
    · unfold IvY; rw [g 1 (by decide), g 7 (by decide), g 8 (by decide)]; exact hY
    · unfold IvW; rw [g 1 (by decide)]; exact hW
    · unfold IvO; rw [g 1 (by decide), g 9 (by decide)]; exact hO
    · unfold IvL; rw [g 2 (by decide), g 11 (by decide)]; exact hL
    · unfold IvF; rw [g 3 (by decide), g 12 (by decide), g 13 (by decide), g 14 (by decide), g 15 (by decide), g 1 (by decide)]; exact hF
    · unfold IvA; rw [g 0 (by decide)]; exact hA
    · unfold IvK layS; rw [g 10 (by decide), g 12 (by decide), g 13 (by decide), g 14 (by decide), g 15 (by decide), g 0 (by decide), g 3 (by decide)]; exact hK
    · intro s hs
      rw [g (29 + s) (by omega), g (33 + s) (by omega)]; exact hS s hs
theorem RA_0 {P : Pb} {U : XSr} (h23 : U.1 0 23 = 100000) (h24 : U.1 0 24 = 0) (h25 : U.1 0 25 = 0) (h31 : U.1 0 31 = -1) (h2 : U.2 = 0) (h16 : ∀ k, k < 1000 → U.1 16 k = nI 0) : RA P [] U :=
  ⟨⟨by rw [h25]; rfl, by rw [h2]; rfl, fun k hk => by rw [h16 k hk]; rfl⟩, ⟨fun _ => h31, fun h => absurd rfl h⟩, by rw [h23]; rfl, by rw [h24]; rfl, fun h => absurd rfl h⟩
theorem works_inv {S : XSt} {U : XSr} (hI : IX S U) : ∃ V : XSr, F_X7_works U = some V ∧ IX S V ∧ RP (pbS S) V ∧ RA (pbS S) (pbS S).L V ∧ V.1 0 14 = 1 := by
  have hb := pb_eq hI
  have hI0 := hI
  obtain ⟨hY, hW, hO, hL, hF, hA, hK, hS, hCc, hR⟩ := hI
  have hn0 : xti (U.1 0 0) = xti (S 1 4) := by rw [hY.2.1]
  by_cases h14 : U.1 0 14 = 0
  · -- gone through anew
    unfold F_X7_works
    rw [if_pos h14]
    simp only [xlet_eq]
    rw [lays_raw (S := S) (U := xsr U 0 14 1) hY hF hA]
    simp only [Option.bind_some]
    have hlay : layR (xsr U 0 14 1) = layR U := rfl
    rw [hlay]
    refine works_a _ (fun o => ∃ V : XSr, o = some V ∧ IX S V ∧ RP (pbS S) V ∧ RA (pbS S) (pbS S).L V ∧ V.1 0 14 = 1) (fun V0 f0 f02 f016 => ?_)
    have q0 : ∀ q, q ≠ 0 → q ≠ 14 → q ≠ 16 → V0.1 q = U.1 q := by
      intro q h1 h2 h3
      rw [f0 q h3]
      show xst (xst (xst (xst (setK (xst U.1 0 14 1) 14 (xti (S 1 4)) (layR U)) 0 23 100000) 0 24 0) 0 25 0) 0 31 (-1) q = _
      rw [xst_ne _ _ _ h1, xst_ne _ _ _ h1, xst_ne _ _ _ h1, xst_ne _ _ _ h1, setK_ne h2, xst_ne _ _ _ h1]
    have j0 : ∀ j, j ≠ 14 → j ≠ 23 → j ≠ 24 → j ≠ 25 → j ≠ 31 → V0.1 0 j = U.1 0 j := by
      intro j h1 h2 h3 h4 h5
      rw [f0 0 (by decide)]
      show xst (xst (xst (xst (setK (xst U.1 0 14 1) 14 (xti (S 1 4)) (layR U)) 0 23 100000) 0 24 0) 0 25 0) 0 31 (-1) 0 j = _
      rw [xst_idx _ _ _ h5, xst_idx _ _ _ h4, xst_idx _ _ _ h3, xst_idx _ _ _ h2, setK_ne (by decide), xst_idx _ _ _ h1]
    have v14 : ∀ g, g < xti (S 1 4) → V0.1 14 g = S 10 g := by
      intro g hg
      rw [f0 14 (by decide)]
      show setK (xst U.1 0 14 1) 14 (xti (S 1 4)) (layR U) 14 g = _
      rw [setK_in hg, layR_S hF hA]
      exact (hK g (by have := hY.1.2; omega)).symm
    have vlay : ∀ g, g < xti (S 1 4) → V0.1 14 g = nI (layR U g) := by
      intro g hg
      rw [v14 g hg, layR_S hF hA]
      exact hK g (by have := hY.1.2; omega)
    have vw : V0.1 0 14 = 1 := by rw [f0 0 (by decide)]; rfl
    obtain ⟨V1, e1, p1, p2, p3⟩ := plain_eq (P := pbS S) (U := V0) (by rw [j0 0 (by decide) (by decide) (by decide) (by decide) (by decide), ← hY.2.1]; exact hY.1.1) hY.1.2
    rw [e1]
    simp only [Option.bind_some]
    have hR1 : RP (pbS S) V1 := RP_of hI0 (fun q hq => by rw [p1 q (by omega), q0 q (by omega) (by omega) (by omega)]) (fun j hj => by rw [p1 0 (by decide), j0 j (by omega) (by omega) (by omega) (by omega) (by omega)]) (fun g hg => by rw [p1 14 (by decide)]; exact v14 g hg)
    have hA1 : RA (pbS S) [] V1 := RA_0 (by rw [p1 0 (by decide), f0 0 (by decide)]; rfl) (by rw [p1 0 (by decide), f0 0 (by decide)]; rfl) (by rw [p1 0 (by decide), f0 0 (by decide)]; rfl) (by rw [p1 0 (by decide), f0 0 (by decide)]; rfl) (by rw [p2, f02]; rfl) (fun k hk => by rw [p1 16 (by decide)]; exact f016 k hk)
    obtain ⟨V, e2, r1, r2, r3, r4⟩ := works_b hR1 hA1 p3
    rw [e2]
    have qq : ∀ q, q ≠ 0 → ¬ (14 ≤ q ∧ q ≤ 19) → V.1 q = U.1 q := fun q h1 h2 => by rw [r3 q h1 (by omega), p1 q (by omega), q0 q h1 (by omega) (by omega)]
    have jj : ∀ j, j ≠ 14 → j ≠ 23 → j ≠ 24 → j ≠ 25 → j ≠ 31 → V.1 0 j = U.1 0 j := fun j h1 h2 h3 h4 h5 => by rw [r4 j h2 h3 h4 h5, p1 0 (by decide), j0 j h1 h2 h3 h4 h5]
    have v114 : V.1 0 14 = 1 := by rw [r4 14 (by decide) (by decide) (by decide) (by decide), p1 0 (by decide)]; exact vw
    have ebR : pbR V = pbR U := pbR_keep (fun q hq => qq q (by omega) (by omega)) (fun j hj => jj j (by omega) (by omega) (by omega) (by omega) (by omega))
    have elay : layR V = layR U := by
      unfold layR
      rw [qq 9 (by decide) (by decide), qq 6 (by decide) (by decide), qq 7 (by decide) (by decide), qq 8 (by decide) (by decide), jj 13 (by decide) (by decide) (by decide) (by decide) (by decide), jj 8 (by decide) (by decide) (by decide) (by decide) (by decide)]
    have hWR : WRx V := by unfold WRx; rw [ebR, ← hb]; exact r2
    refine ⟨V, rfl, ⟨?_, ?_, ?_, ?_, ?_, ?_, hK, ?_, hCc, Or.inr v114, fun _ => ⟨hWR, fun g hg => ?_⟩⟩, r1, r2, v114⟩
    · unfold IvY; rw [jj 0 (by decide) (by decide) (by decide) (by decide) (by decide), jj 3 (by decide) (by decide) (by decide) (by decide) (by decide), qq 1 (by decide) (by decide), qq 2 (by decide) (by decide)]; exact hY
    · unfold IvW; rw [qq 3 (by decide) (by decide)]; exact hW
    · unfold IvO; rw [jj 5 (by decide) (by decide) (by decide) (by decide) (by decide), qq 4 (by decide) (by decide), qq 5 (by decide) (by decide)]; exact hO
    · unfold IvL; rw [jj 15 (by decide) (by decide) (by decide) (by decide) (by decide), qq 10 (by decide) (by decide)]; exact hL
    · unfold IvF; rw [jj 8 (by decide) (by decide) (by decide) (by decide) (by decide), qq 9 (by decide) (by decide), qq 6 (by decide) (by decide), qq 7 (by decide) (by decide), qq 8 (by decide) (by decide)]; exact hF
    · unfold IvA; rw [jj 13 (by decide) (by decide) (by decide) (by decide) (by decide), jj 39 (by decide) (by decide) (by decide) (by decide) (by decide)]; exact hA
    · intro s hs
      rw [qq 22 (by decide) (by decide), qq 23 (by decide) (by decide), qq 24 (by decide) (by decide), qq 25 (by decide) (by decide)]; exact hS s hs
    · rw [jj 0 (by decide) (by decide) (by decide) (by decide) (by decide), hn0] at hg
      rw [elay, r3 14 (by decide) (by decide), p1 14 (by decide)]
      exact vlay g hg
  · have h1 : U.1 0 14 = 1 := hR.1.resolve_left h14
    obtain ⟨hw, hl⟩ := hR.2 h1
    refine ⟨U, ?_, hI0, RP_of hI0 (fun _ _ => rfl) (fun _ _ => rfl) (fun g hg => ?_), ?_, h1⟩
    · unfold F_X7_works; rw [if_neg h14]
    · rw [hl g (by rw [hn0]; exact hg), layR_S hF hA]
      exact (hK g (by have := hY.1.2; omega)).symm
    · unfold WRx at hw; rw [← hb] at hw; exact hw
theorem both {S : XSt} {U : XSr} (hI : IX S U) : ∃ (S' : XSt) (V : XSr), F_X3_settle S = some (anyI (pbS S), S') ∧ F_X7_works U = some V ∧ F_X7_areAny U = some (anyI (pbS S), V) ∧ FR (pbS S) S' V := by
  obtain ⟨S', e1, i1, p1, c1, s1⟩ := settle_inv hI
  obtain ⟨V, e2, i2, r2, a2, w2⟩ := works_inv i1
  rw [p1] at r2 a2
  refine ⟨S', V, e1, e2, ?_, i2, p1.symm, ?_, r2, c1, a2, s1, w2⟩
  · unfold F_X7_areAny
    rw [e2]
    simp only [Option.bind_some]
    rw [a2.1.1]
    have hn := (good_of hI).1
    have hlen : (pbS S).L.length ≤ 40320 := by
      have h1 : (pbS S).L = (perms (pbS S).n (pbS S).n 0).filter ((pbS S).okp 0) := pths_filter _ _ _
      rw [h1]
      exact Nat.le_trans (List.length_filter_le _ _) (perms_le hn)
    unfold anyI
    by_cases h : (pbS S).L = []
    · rw [h, if_pos rfl, if_pos (by decide)]
    · have : 0 < (pbS S).L.length := List.length_pos_iff.mpr h
      rw [if_neg (nI_nle this (by omega)), if_neg h]
  · have := CP_of i1
    rw [p1] at this; exact this
theorem both_n {S : XSt} {U : XSr} (hI : IX S U) : S 1 4 = nI (pbS S).n ∧ (pbS S).n ≤ 8 ∧ (pbS S).n = xti (S 1 4) := ⟨hI.1.1.1, hI.1.1.2, rfl⟩
