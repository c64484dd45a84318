/-! SPREAD, MEAN: the steps -/
theorem FR.keepS {P : Pb} {S S' : XSt} {U : XSr} (h : FR P S U) (hq : ∀ q, q ≠ 4 → ¬ (23 ≤ q ∧ q ≤ 26) → S' q = S q) (h12 : S' 4 12 = 0) (hSC : SCx S') : FR P S' U := by
  obtain ⟨h1, h2, h3, h4, h5, h6, h7, h8⟩ := h
  have g := fun q (h : q ≠ 4 ∧ ¬ (23 ≤ q ∧ q ≤ 26)) => hq q h.1 h.2
  refine ⟨?_, by rw [h2]; exact (pbS_keep (g 1 (by decide)) (g 7 (by decide)) (g 8 (by decide)) (g 9 (by decide)) (g 10 (by decide))).symm, h3.keep (g 1 (by decide)) (g 7 (by decide)) (g 8 (by decide)) (g 9 (by decide)) (g 10 (by decide)), h4, hSC, h6, h12, h8⟩
  obtain ⟨hY, hW, hO, hL, hF, hA, hK, hS, hC, hR⟩ := h1
  refine ⟨?_, ?_, ?_, ?_, ?_, ?_, ?_, ?_, ⟨Or.inl h12, fun _ => hSC⟩, hR⟩
  · unfold IvY; rw [g 1 (by decide), g 7 (by decide), g 8 (by decide)]; exact hY
  · unfold IvW; rw [g 1 (by decide)]; exact hW
  · unfold IvO; rw [g 1 (by decide), g 9 (by decide)]; exact hO
  · unfold IvL; rw [g 2 (by decide), g 11 (by decide)]; exact hL
  · unfold IvF; rw [g 3 (by decide), g 12 (by decide), g 13 (by decide), g 14 (by decide), g 15 (by decide), g 1 (by decide)]; exact hF
  · unfold IvA; rw [g 0 (by decide)]; exact hA
  · unfold IvK layS; rw [g 10 (by decide), g 12 (by decide), g 13 (by decide), g 14 (by decide), g 15 (by decide), g 0 (by decide), g 3 (by decide)]; exact hK
  · intro s hs
    rw [g (29 + s) (by omega), g (33 + s) (by omega)]; exact hS s hs
theorem sprd {P : Pb} {S : XSt} {U : XSr} (h : FR P S U) : ∃ S' : XSt, F_X3_settleSpread S = some S' ∧ FR P S' U ∧ SPR P S' := by
  have h0 := h
  obtain ⟨h1, h2, h3, h4, h5, h6, h7, h8⟩ := h
  by_cases h13 : S 4 13 = 0
  · exact ⟨S, by unfold F_X3_settleSpread; rw [if_pos h13], h0, by rw [h2]; exact h5.2.1 h13⟩
  · obtain ⟨S', e, f1, f2, s13, hs⟩ := spread_eq h3 (h2 ▸ h5.1).1.1 h13
    have ep : pbS S' = pbS S := pbS_keep (f1 1 (by decide) (by decide)) (f1 7 (by decide) (by decide)) (f1 8 (by decide) (by decide)) (f1 9 (by decide) (by decide)) (f1 10 (by decide) (by decide))
    have hSC : SCx S' := by
      refine ⟨by rw [ep]; exact h5.1.keep (fun q q1 q2 => f1 q (by omega) (by omega)), fun _ => by rw [ep, ← h2]; exact hs, fun h14 => ?_⟩
      rw [f2 14 (by decide)] at h14
      have := h5.2.2 h14
      unfold LFT at this ⊢
      rw [ep, f2 15 (by decide)]; exact this
    exact ⟨S', e, h0.keepS (fun q q1 q2 => f1 q q1 (by omega)) (by rw [f2 12 (by decide)]; exact h7) hSC, hs⟩
def Pb.cnt (P : Pb) (v : Nat) : Nat := (P.costs P.n 0).count v
theorem costs_180 {P : Pb} (hP : P.good) {x : Nat} (h : x ∈ P.costs P.n 0) : x ≤ 180 := by
  rw [← L_gaps hP.1] at h
  obtain ⟨p, hp, rfl⟩ := List.mem_map.mp h
  exact gaps_le hP (by rw [(mem_perms.mp (L_mem hp).1).1]; exact hP.1)
theorem cnt_0 {P : Pb} (hP : P.good) {v : Nat} (h : 180 < v) : P.cnt v = 0 := List.count_eq_zero.mpr (fun hm => by have := costs_180 hP hm; omega)
theorem upTo_eq {P : Pb} {S : XSt} (hS : SPR P S) {x : Nat} (hx : x < 2 ^ 31) : F_X3_withGapsUpTo S (nI x) = some (nI (smN P.cnt (min x 180 + 1))) := by
  unfold F_X3_withGapsUpTo
  have hm : min x 180 ≤ 180 := Nat.min_le_right _ _
  have hm2 : min x 180 ≤ x := Nat.min_le_left _ _
  refine xlp_Q (Q := fun o => o = some (nI (smN P.cnt (min x 180 + 1)))) (I := fun j t => t = (nI (smN P.cnt j), nI j)) 0 (min x 180 + 1) (by omega) (by omega) rfl ?_ ?_
  · rintro j _ rc - hj rfl
    right
    refine ⟨_, rfl, ?_⟩
    show B_X3_withGapsUpTo_4 S (nI x) _ rc (nI (smN P.cnt j)) (nI j) = _
    unfold B_X3_withGapsUpTo_4
    rw [if_neg (nI_nlt (by omega) hx), if_neg (show ¬ (180 : Int32) < nI j from nI_nlt (b := j) (a := 180) (by omega) (by decide)), if_pos (xin_nI (by omega) (by decide)), xti_nI (by omega), hS j (by omega), nI_add, nI_1]
    rfl
  · rintro _ rc rfl
    show B_X3_withGapsUpTo_4 S (nI x) _ rc (nI (smN P.cnt (min x 180 + 1))) (nI (min x 180 + 1)) = _
    unfold B_X3_withGapsUpTo_4
    by_cases h : x < min x 180 + 1
    · rw [if_pos (nI_lt h (by omega))]
    · rw [if_neg (nI_nlt (by omega) hx), if_pos (show (180 : Int32) < nI (min x 180 + 1) from nI_lt (a := 180) (by omega) (by omega))]
theorem smN_stop {f : Nat → Nat} {a : Nat} (h : ∀ v, a ≤ v → f v = 0) : ∀ r, smN f (a + r) = smN f a := by
  intro r
  induction r with
  | zero => rfl
  | succ r ih => show smN f (a + r) + f (a + r) = _; rw [ih, h _ (by omega)]; rfl
theorem cnt_sum {P : Pb} (hP : P.good) (x : Nat) : smN P.cnt (min x 180 + 1) = smN P.cnt (x + 1) := by
  by_cases h : x ≤ 180
  · rw [Nat.min_eq_left h]
  · rw [Nat.min_eq_right (by omega)]
    have := smN_stop (f := P.cnt) (a := 181) (fun v hv => cnt_0 hP (by omega)) (x - 180)
    rw [show 181 + (x - 180) = x + 1 by omega] at this
    exact this.symm
theorem spreadR {P : Pb} {V : XSr} (h16 : ∀ k, k < 1000 → V.1 16 k = nI (P.cnt k)) {x a : Nat} (hx : x ≤ 999) (ha : a ≤ x) (K : Int32 → Option (Int32 × XSr)) : xlp (fun k rc t => B_X7_spreadNow_17 V (nI x) k rc t.1 t.2) K XFU (0, nI a) = K (nI (smN (fun i => P.cnt (a + i)) (x + 1 - a))) := by
  refine xlp_Q (Q := fun o => o = K (nI (smN (fun i => P.cnt (a + i)) (x + 1 - a)))) (I := fun j t => t = (nI (smN (fun i => P.cnt (a + i)) (j - a)), nI j)) a (x + 1) (by omega) (by omega) (by rw [Nat.sub_self]; rfl) ?_ ?_
  · rintro j _ rc hj1 hj rfl
    right
    refine ⟨_, rfl, ?_⟩
    show B_X7_spreadNow_17 V (nI x) _ rc (nI (smN (fun i => P.cnt (a + i)) (j - a))) (nI j) = _
    unfold B_X7_spreadNow_17
    rw [if_neg (nI_nlt (by omega) (by omega)), if_pos (xin_nI (by omega) (by decide)), xti_nI (by omega), h16 j (by omega), nI_add, nI_1, show j + 1 - a = (j - a) + 1 by omega]
    show rc (nI (smN (fun i => P.cnt (a + i)) (j - a) + P.cnt j), nI (j + 1)) = rc (nI (smN (fun i => P.cnt (a + i)) (j - a) + P.cnt (a + (j - a))), nI (j + 1))
    rw [show a + (j - a) = j by omega]
  · rintro _ rc rfl
    show B_X7_spreadNow_17 V (nI x) _ rc _ (nI (x + 1)) = _
    unfold B_X7_spreadNow_17
    rw [if_pos (nI_lt (by omega) (by omega))]
theorem spread_now {S : XSt} {U : XSr} (hI : IX S U) {x : Nat} (hx : x ≤ 999) {y : Int32} (hy : ¬ F_X6_within y 0 1 = 0) : ∃ r S' U', F_X6_spread S (nI x) y = some (r, S') ∧ F_X7_spreadNow U (nI x) y = some (r, U') ∧ FR (pbS S) S' U' := by
  obtain ⟨S1, V, e1, e2, -, hF⟩ := both hI
  obtain ⟨S2, e4, hF2, hS⟩ := sprd hF
  have hP := hF.2.2.1.1
  have h16 : ∀ k, k < 1000 → V.1 16 k = nI ((pbS S).cnt k) := fun k hk => by
    rw [hF.2.2.2.2.2.1.1.2.2 k hk, L_gaps hP.1]; rfl
  unfold F_X6_spread F_X7_spreadNow
  have hw : ¬ F_X6_within (nI x) 0 999 = 0 := within_1.mpr ⟨nI_pos' (by omega), show nI x ≤ nI 999 from (nI_leI (by omega) (by decide)).mpr hx⟩
  rw [if_neg hw, if_neg hy, e1, e2]
  simp only [Option.bind_some, xlet_eq]
  rw [e4]
  simp only [Option.bind_some]
  by_cases h0 : y = 0
  · rw [if_pos h0, if_pos h0, spreadR h16 hx (Nat.le_refl x)]
    have e : smN (fun i => (pbS S).cnt (x + i)) (x + 1 - x) = (pbS S).cnt x := by
      rw [show x + 1 - x = 1 by omega]
      show 0 + (pbS S).cnt (x + 0) = _
      rw [Nat.zero_add]; rfl
    rw [e]
    unfold F_X3_withGaps
    by_cases h : 180 < x
    · rw [if_pos (show (180 : Int32) < nI x from nI_lt (a := 180) h (by omega)), cnt_0 hP h]
      exact ⟨_, _, _, rfl, rfl, hF2⟩
    · rw [if_neg (show ¬ (180 : Int32) < nI x from nI_nlt (b := x) (a := 180) (by omega) (by decide)), if_pos (xin_nI (by omega) (by decide)), xti_nI (by omega), hS x (by omega)]
      exact ⟨_, _, _, rfl, rfl, hF2⟩
  · rw [if_neg h0, if_neg h0, upTo_eq hS (by omega), cnt_sum hP]
    have hh := spreadR h16 hx (Nat.zero_le x) (fun e7 => some (e7, V))
    rw [nI_0] at hh
    rw [hh]
    have e : smN (fun i => (pbS S).cnt (0 + i)) (x + 1 - 0) = smN (pbS S).cnt (x + 1) := by
      rw [Nat.sub_zero]
      exact smN_congr (fun i _ => by rw [Nat.zero_add])
    rw [e]
    exact ⟨_, _, _, rfl, rfl, hF2⟩
theorem st_spread : St_spread IX := by
  intro S U x y hI
  by_cases h1 : F_X6_within x 0 999 = 0
  · exact ⟨-2, S, U, by unfold F_X6_spread; rw [if_pos h1], by unfold F_X7_spread; rw [in_within, if_pos h1], hI⟩
  by_cases h2 : F_X6_within y 0 1 = 0
  · exact ⟨-2, S, U, by unfold F_X6_spread; rw [if_neg h1, if_pos h2], by unfold F_X7_spread; rw [in_within, if_neg h1, in_within, if_pos h2], hI⟩
  obtain ⟨n, rfl, -, hn⟩ := within_nI (a := 0) (b := 999) (by decide) (by decide) h1
  obtain ⟨r, S', U', e1, e2, hF⟩ := spread_now hI hn h2
  exact ⟨r, S', U', e1, by unfold F_X7_spread; rw [in_within, if_neg h1, in_within, if_neg h2, e2]; rfl, hF.1⟩
theorem sum_cnt {l : List Nat} {N : Nat} (h : ∀ x ∈ l, x < N) : l.sum = smN (fun v => v * l.count v) N ∧ l.length = smN (fun v => l.count v) N := by
  induction l with
  | nil =>
    refine ⟨?_, ?_⟩
    · rw [show smN (fun v => v * ([] : List Nat).count v) N = smN (fun _ => 0) N from smN_congr (fun i _ => rfl), smN_zero]; rfl
    · rw [show smN (fun v => ([] : List Nat).count v) N = smN (fun _ => 0) N from smN_congr (fun i _ => rfl), smN_zero]; rfl
  | cons a l ih =>
    obtain ⟨i1, i2⟩ := ih (fun x hx => h x (List.mem_cons_of_mem _ hx))
    have ha := h a (List.mem_cons_self ..)
    have hc : ∀ v, (a :: l).count v = l.count v + if a = v then 1 else 0 := by
      intro v
      rw [List.count_cons]
      by_cases e : a = v
      · subst e; simp
      · rw [beq_eq_false_iff_ne.mpr e]; simp [e]
    constructor
    · rw [List.sum_cons, i1]
      have : smN (fun v => v * (a :: l).count v) N = smN (fun v => v * l.count v + if a = v then v else 0) N := smN_congr (fun v _ => by
        rw [hc v, Nat.mul_add]
        by_cases e : a = v
        · rw [if_pos e, if_pos e, Nat.mul_one]
        · rw [if_neg e, if_neg e, Nat.mul_zero])
      rw [this, smN_add, smN_single (fun v => v) ha]; omega
    · rw [List.length_cons, i2]
      have : smN (fun v => (a :: l).count v) N = smN (fun v => l.count v + if a = v then 1 else 0) N := smN_congr (fun v _ => hc v)
      rw [this, smN_add, smN_single (fun _ => 1) ha]
theorem all_gaps {P : Pb} {S : XSt} (hS : SPR P S) : F_X3_gapsOfAll S = some (nI (smN (fun v => v * P.cnt v) 181)) := by
  unfold F_X3_gapsOfAll
  refine xlp_Q (Q := fun o => o = some (nI (smN (fun v => v * P.cnt v) 181))) (I := fun j t => t = (nI (smN (fun v => v * P.cnt v) j), nI j)) 0 181 (by omega) (by omega) rfl ?_ ?_
  · rintro j _ rc - hj rfl
    right
    refine ⟨_, rfl, ?_⟩
    show B_X3_gapsOfAll_4 S _ rc (nI (smN (fun v => v * P.cnt v) j)) (nI j) = _
    unfold B_X3_gapsOfAll_4
    rw [if_neg (show ¬ (180 : Int32) < nI j from nI_nlt (b := j) (a := 180) (by omega) (by decide)), if_pos (xin_nI (by omega) (by decide)), xti_nI (by omega), hS j (by omega), pk_mul, nI_add, nI_1]
    rfl
  · rintro _ rc rfl
    show B_X3_gapsOfAll_4 S _ rc _ (nI 181) = _
    unfold B_X3_gapsOfAll_4
    rw [if_pos (show (180 : Int32) < nI 181 by decide)]
theorem L_len {P : Pb} (hn : P.n ≤ 8) : P.L.length ≤ 40320 := by
  have h1 : P.L = (perms P.n P.n 0).filter (P.okp 0) := pths_filter _ _ _
  rw [h1]
  exact Nat.le_trans (List.length_filter_le _ _) (perms_le hn)
theorem sum_le {l : List Nat} (h : ∀ x ∈ l, x ≤ 180) : l.sum ≤ 180 * l.length := by
  induction l with
  | nil => exact Nat.le_refl _
  | cons a l ih =>
    rw [List.sum_cons, List.length_cons]
    have h1 := h a (List.mem_cons_self ..)
    have h2 := ih (fun x hx => h x (List.mem_cons_of_mem _ hx))
    omega
theorem cnt_tot {P : Pb} (hP : P.good) (N : Nat) (hN : 180 < N) : smN P.cnt N = (P.costs P.n 0).length ∧ smN (fun v => v * P.cnt v) N = (P.costs P.n 0).sum := by
  obtain ⟨s1, s2⟩ := sum_cnt (l := P.costs P.n 0) (N := N) (fun x hx => by have := costs_180 hP hx; omega)
  exact ⟨s2.symm, s1.symm⟩
theorem cnt_len {P : Pb} (hP : P.good) {x : Nat} (hx : 180 ≤ x) : smN P.cnt (min x 180 + 1) = (P.costs P.n 0).length := by
  rw [cnt_sum hP]; exact (cnt_tot hP (x + 1) (by omega)).1
theorem no_eq (x : Int32) : F_X7_no x = F_X6_longRefusal x := rfl
theorem mean_now {S : XSt} {U : XSr} (hI : IX S U) {x : Int32} (hx : ¬ F_X6_within x 0 1 = 0) : ∃ r S' U', F_X6_mean S x = some (r, S') ∧ F_X7_meanNow U x = some (r, U') ∧ FR (pbS S) S' U' := by
  obtain ⟨S1, V, e1, -, e3, hF⟩ := both hI
  unfold F_X6_mean F_X7_meanNow
  rw [if_neg hx, e1, e3]
  simp only [Option.bind_some]
  by_cases hL : (pbS S).L = []
  · rw [anyI_0 hL, if_pos rfl, if_pos rfl, no_eq]
    exact ⟨_, _, _, rfl, rfl, hF⟩
  · obtain ⟨S2, e4, hF2, hS⟩ := sprd hF
    have hP := hF.2.2.1.1
    have hlen := L_len (P := pbS S) hP.1
    have hpos : 0 < (pbS S).L.length := List.length_pos_iff.mpr hL
    have hcl : ((pbS S).costs (pbS S).n 0).length = (pbS S).L.length := by rw [costs_L, List.length_map]
    have hsum := sum_le (l := (pbS S).costs (pbS S).n 0) (fun x hx => costs_180 hP hx)
    have hA := hF.2.2.2.2.2.1.1
    have a2 : V.2 = lN ((pbS S).costs (pbS S).n 0).sum := by rw [hA.2.1, L_gaps hP.1]
    rw [hcl] at hsum
    rw [anyI_1 hL, if_neg i10, if_neg i10, e4, Option.bind_some]
    rw [all_gaps hS, show (999 : Int32) = nI 999 from rfl, upTo_eq hS (by decide), cnt_len hP (by omega), (cnt_tot hP 181 (by omega)).2, hcl, Option.bind_some, Option.bind_some]
    have hprod : ((pbS S).costs (pbS S).n 0).sum * (pbS S).L.length < 2 ^ 40 := by
      have h1 : ((pbS S).costs (pbS S).n 0).sum ≤ 180 * 40320 := by omega
      have h2 := Nat.mul_le_mul h1 hlen
      exact Nat.lt_of_le_of_lt h2 (by decide)
    rw [inLowest_eq S2 (by omega) (by omega) hpos hprod, hA.1, nI_l (by omega), a2, lowest_eq V (by omega) (by omega) hpos]
    exact ⟨_, _, _, rfl, rfl, hF2⟩
theorem st_mean : St_mean IX := by
  intro S U x hI
  by_cases hx : F_X6_within x 0 1 = 0
  · exact ⟨F_X6_longRefusal (-2), S, U, by unfold F_X6_mean; rw [if_pos hx], by unfold F_X7_mean; rw [in_within, if_pos hx, no_eq], hI⟩
  · obtain ⟨r, S', U', e1, e2, hF⟩ := mean_now hI hx
    exact ⟨r, S', U', e1, by unfold F_X7_mean; rw [in_within, if_neg hx, e2]; rfl, hF.1⟩
