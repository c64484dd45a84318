set_option maxHeartbeats 2000000 in
theorem faultNow_eq {U : XSr} {n t : Nat} {b : Nat → Nat} (hn : U.1 0 0 = nI n) (hn8 : n ≤ 8) (ht : U.1 0 15 = nI t) (ht40 : t ≤ 40) (hb : ∀ i, i < 40 → U.1 10 i = nI (b i) ∧ b i ≤ 255) : ∃ r, F_X7_faultNow U = some r ∧ rde U (runI n b t 0 0 0).1 (runI n b t 0 0 0).2 r := by
  obtain ⟨ALL, hALL⟩ : ∃ A, (runI n b t 0 0 0).1 = A := ⟨_, rfl⟩
  obtain ⟨RES, hRES⟩ : ∃ A, (runI n b t 0 0 0).2 = A := ⟨_, rfl⟩
  rw [hALL, hRES]
  have hrun := xlp_run (Bd := fun k rc q => B_X7_faultNow_7 k rc q.1 q.2) (k := fun e25 : Int32 × XSr => some (e25.1, e25.2)) (fun m q => ∃ i g U', q = (nI i, U') ∧ rdg U n t b ALL RES U' i 0 g ∧ i + m = t) (fun e => rde U ALL RES e) (fun r => rde U ALL RES r) (by
    intro m q rc hq
    obtain ⟨i, g, U', rfl, hr, him⟩ := hq
    have hr0 := hr
    obtain ⟨hit, hscr, acc, hsaid, hal, hall, hres⟩ := hr
    have htU : U'.1 0 15 = nI t := by rw [hscr.2.1 15 (by decide)]; exact ht
    have hnU : U'.1 0 0 = nI n := by rw [hscr.2.1 0 (by decide)]; exact hn
    have hbU : ∀ j, j < 40 → U'.1 10 j = nI (b j) ∧ b j ≤ 255 := fun j hj => by rw [hscr.1 10 (by decide) (by decide) (by decide) (by decide)]; exact hb j hj
    have fin : ∀ p, RES = some p → rde U ALL RES (nI p, U') := fun p hp => ⟨by rw [hp]; rfl, hscr, fun hno => absurd (hp.symm.trans hno) (by simp)⟩
    show (∃ e, rde U ALL RES e ∧ B_X7_faultNow_7 _ rc (nI i) U' = _) ∨ (∃ r, rde U ALL RES r ∧ B_X7_faultNow_7 _ rc (nI i) U' = some r) ∨ (∃ m' q', m' < m ∧ (∃ i g U'', q' = (nI i, U'') ∧ rdg U n t b ALL RES U'' i 0 g ∧ i + m' = t) ∧ B_X7_faultNow_7 _ rc (nI i) U' = rc q')
    by_cases hie : i = t
    · refine Or.inl ⟨(nI i, U'), fin i (by rw [← hres, hie, runI_end]; rfl), ?_⟩
      unfold B_X7_faultNow_7
      rw [byteAt_out htU ht40 (by omega) (by omega)]
      simp only [Option.bind_some, xlet]
      rw [if_pos (isGrave_m1 hnU hn8)]
    · have hlt : i < t := by omega
      have hbi := hbU i (by omega)
      by_cases hg : 48 ≤ b i ∧ b i < 48 + n
      · have hfl : fl 0 (b i) n = 1 := by unfold fl; simp [hg.1, hg.2]
        rw [runI_succ hlt (by rw [hfl]; decide), hfl] at hall hres
        simp only [show ¬ (1 = 4) by decide, if_false, if_true] at hall hres
        have hB : B_X7_faultNow_7 (fun e25 : Int32 × XSr => some (e25.1, e25.2)) rc (nI i) U' = (F_X7_byteAt U' (nI (i + 1))).bind fun z5 => (if z5 = 58 then (xlp (fun k rc t => B_X7_faultNow_47 (nI (b i - 48)) k rc t.1 t.2.1 t.2.2) (fun e24 => rc (e24.1, e24.2)) XFU (nI (i + 2), 44, U')) else (some (nI (i + 1), U'))) := by
          unfold B_X7_faultNow_7
          rw [byteAt_in htU ht40 hlt, hbi.1]
          simp only [Option.bind_some, xlet]
          rw [isGrave_c hnU hn8 (by omega), if_pos hg, if_neg (by decide), sub48 hg.1, nI_1, nI_1]
        by_cases hie1 : i + 1 = t
        · rw [hie1, runI_end] at hres
          refine Or.inr (Or.inl ⟨(nI (i + 1), U'), fin (i + 1) (by rw [← hres, hie1]; rfl), ?_⟩)
          rw [hB, byteAt_out htU ht40 (by omega) (by omega), Option.bind_some, if_neg (by decide)]
        · have hlt1 : i + 1 < t := by omega
          have hb1 := hbU (i + 1) (by omega)
          rw [byteAt_in htU ht40 hlt1, hb1.1, Option.bind_some] at hB
          by_cases h58 : b (i + 1) = 58
          · have hfl1 : fl 1 (b (i + 1)) n = 2 := by unfold fl; simp [h58]
            rw [runI_succ hlt1 (by rw [hfl1]; decide), hfl1] at hall hres
            simp only [show ¬ (2 = 4) by decide, if_false, show ¬ (1 = 0) by decide] at hall hres
            rw [if_pos (by rw [h58]; rfl)] at hB
            have hin := xlp_run (Bd := fun k rc (t : Int32 × Int32 × XSr) => B_X7_faultNow_47 (nI (b i - 48)) k rc t.1 t.2.1 t.2.2) (k := fun e24 : Int32 × XSr => rc (e24.1, e24.2)) (fun m q => ∃ j V, i + 1 < j ∧ t - j ≤ m ∧ ((q = (nI j, 44, V) ∧ rdg U n t b ALL RES V j 2 (b i - 48)) ∨ (q = (nI j, 59, V) ∧ rdg U n t b ALL RES V j 0 (b i - 48)))) (fun e => ∃ j V, i + 1 < j ∧ e = (nI j, V) ∧ rdg U n t b ALL RES V j 0 (b i - 48)) (fun r => rde U ALL RES r) (by
              intro m2 q2 rc2 hq2
              obtain ⟨j, V, hj, hm2, (⟨rfl, hrd⟩ | ⟨rfl, hrd⟩)⟩ := hq2
              · rcases kind_round hn8 ht ht40 hb hrd (fun e24 : Int32 × XSr => rc (e24.1, e24.2)) rc2 with ⟨r, h1, h2⟩ | ⟨j', V', h1, h2, h3⟩ | ⟨j', V', h1, h2, h3⟩
                · exact Or.inr (Or.inl ⟨r, h1, h2⟩)
                · exact Or.inr (Or.inr ⟨t - j', (nI j', 44, V'), by have := h2.1; omega, ⟨j', V', by omega, Nat.le_refl _, Or.inl ⟨rfl, h2⟩⟩, h3⟩)
                · exact Or.inr (Or.inr ⟨t - j', (nI j', 59, V'), by have := h2.1; omega, ⟨j', V', by omega, Nat.le_refl _, Or.inr ⟨rfl, h2⟩⟩, h3⟩)
              · refine Or.inl ⟨(nI j, V), ⟨j, V, hj, rfl, hrd⟩, ?_⟩
                show B_X7_faultNow_47 (nI (b i - 48)) _ rc2 (nI j) 59 V = _
                rw [B47_eq, if_neg (by decide)]) (t - (i + 2)) (nI (i + 2), 44, U') ⟨i + 2, U', by omega, Nat.le_refl _, Or.inl ⟨rfl, by omega, hscr, acc, hsaid, by omega, hall, hres⟩⟩ XFU (by rw [XFU_eq]; omega)
            rcases hin with ⟨e, ⟨j, V, hj, rfl, hrd⟩, h1⟩ | ⟨r, h0, h1⟩
            · exact Or.inr (Or.inr ⟨t - j, (nI j, V), by have := hrd.1; omega, ⟨j, b i - 48, V, rfl, hrd, by have := hrd.1; omega⟩, by rw [hB, h1]⟩)
            · exact Or.inr (Or.inl ⟨r, h0, by rw [hB, h1]⟩)
          · have hfl1 : fl 1 (b (i + 1)) n = 5 := by unfold fl; simp [h58]
            rw [runI_bad hlt1 hfl1] at hres
            refine Or.inr (Or.inl ⟨(nI (i + 1), U'), fin (i + 1) hres.symm, ?_⟩)
            rw [hB, if_neg (show ¬ nI (b (i + 1)) = 58 from fun q => h58 ((nI_eq (b := 58) (by omega) (by decide)).mp q))]
      · have hfl : fl 0 (b i) n = 5 := by unfold fl; simp; intro h1; omega
        rw [runI_bad hlt hfl] at hres
        refine Or.inl ⟨(nI i, U'), fin i hres.symm, ?_⟩
        unfold B_X7_faultNow_7
        rw [byteAt_in htU ht40 hlt, hbi.1]
        simp only [Option.bind_some, xlet]
        rw [isGrave_c hnU hn8 (by omega), if_neg hg, if_pos rfl]) t (0, xsr U 0 17 0) ⟨0, 0, xsr U 0 17 0, rfl, ⟨Nat.zero_le _, ⟨fun q h0 _ _ _ => by rw [xsr_1]; exact xst_ne _ _ _ h0, fun j hj => by rw [xsr_1]; exact xst_idx _ _ _ hj, rfl⟩, [], ⟨rfl, fun k q hq => by simp at hq⟩, Nat.le_refl _, hALL, hRES⟩, by omega⟩ XFU (by rw [XFU_eq]; omega)
  have hF : F_X7_faultNow U = xlp (fun k rc q => B_X7_faultNow_7 k rc q.1 q.2) (fun e25 : Int32 × XSr => some (e25.1, e25.2)) XFU (0, xsr U 0 17 0) := rfl
  rcases hrun with ⟨e, h0, h1⟩ | ⟨r, h0, h1⟩
  · exact ⟨(e.1, e.2), by rw [hF, h1], h0⟩
  · exact ⟨r, by rw [hF, h1], h0⟩
section Ops
variable {SC : XSt → Prop} {WR : XSr → Prop}
theorem Inv_scr (hWR : WRok WR) {S : XSt} {U U' : XSr} (h : scr U U') (hI : Inv SC WR S U) : Inv SC WR S U' := by
  obtain ⟨hY, hW, hO, hL, hF, hA, hK, hS, hC, hR⟩ := hI
  have q : ∀ q, q ≠ 0 → q ≠ 11 → q ≠ 12 → q ≠ 13 → U'.1 q = U.1 q := h.1
  refine ⟨?_, ?_, ?_, ?_, ?_, ?_, hK, ?_, hC, IvR.keep (U := U) (U' := U') hWR (fun a ha => q a (by omega) (by omega) (by omega) (by omega)) (fun j hj => h.2.1 j (by omega)) h.2.2 hR⟩
  · unfold IvY; rw [h.2.1 0 (by decide), h.2.1 3 (by decide), q 1 (by decide) (by decide) (by decide) (by decide), q 2 (by decide) (by decide) (by decide) (by decide)]; exact hY
  · unfold IvW; rw [q 3 (by decide) (by decide) (by decide) (by decide)]; exact hW
  · unfold IvO; rw [h.2.1 5 (by decide), q 4 (by decide) (by decide) (by decide) (by decide), q 5 (by decide) (by decide) (by decide) (by decide)]; exact hO
  · unfold IvL; rw [h.2.1 15 (by decide), q 10 (by decide) (by decide) (by decide) (by decide)]; exact hL
  · unfold IvF; rw [h.2.1 8 (by decide), q 9 (by decide) (by decide) (by decide) (by decide), q 6 (by decide) (by decide) (by decide) (by decide), q 7 (by decide) (by decide) (by decide) (by decide), q 8 (by decide) (by decide) (by decide) (by decide)]; exact hF
  · unfold IvA; rw [h.2.1 13 (by decide), h.2.1 39 (by decide)]; exact hA
  · unfold IvS; rw [q 22 (by decide) (by decide) (by decide) (by decide), q 23 (by decide) (by decide) (by decide) (by decide), q 24 (by decide) (by decide) (by decide) (by decide), q 25 (by decide) (by decide) (by decide) (by decide)]; exact hS
/-- both read the LINE alike -/
theorem line_eq (hWR : WRok WR) {S : XSt} {U : XSr} (hI : Inv SC WR S U) : ∃ r, F_X2_firstFault S (S 1 4) = some r.1 ∧ F_X7_faultNow U = some r ∧ Inv SC WR S r.2 ∧ rde U (runI (xti (S 1 4)) (btS S) (xti (S 2 1)) 0 0 0).1 (runI (xti (S 1 4)) (btS S) (xti (S 2 1)) 0 0 0).2 r := by
  have hI0 := hI
  obtain ⟨⟨hY1, hY2, hY3, hY4, hY5⟩, hW, hO, ⟨hL1, hL2, hL3⟩, hF, hA, hK, hS, hC, hR⟩ := hI
  obtain ⟨r, h1, h2⟩ := faultNow_eq (U := U) (n := xti (S 1 4)) (t := xti (S 2 1)) (b := btS S) (by rw [← hY2]; exact hY1.1) hY1.2 (by rw [← hL2]; exact hL1.1) hL1.2 (fun i hi => by
    obtain ⟨e, hb⟩ := hL3 i hi
    rw [← e]; exact hb)
  refine ⟨r, ?_, h1, Inv_scr hWR h2.2.1 hI0, h2⟩
  have := firstFault_eq (S := S) (n := xti (S 1 4)) (t := xti (S 2 1)) hY1.2 hL1.1 hL1.2 (fun i hi => (hL3 i hi).2)
  rw [← hY1.1] at this
  rw [this, h2.1]
theorem st_fault (hSC : SCok SC) (hWR : WRok WR) : St_fault (Inv SC WR) := by
  intro S U hI
  obtain ⟨r, e1, e2, hI', -⟩ := line_eq hWR hI
  refine ⟨r.1, r.2, ?_, ?_, hI'⟩
  · unfold F_X6_fault; rw [e1]; rfl
  · unfold F_X7_fault; rw [e2]; rfl
end Ops
