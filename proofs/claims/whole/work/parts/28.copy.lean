def mvS (V : XSt) (a n : Nat) : XSt := fun q => if q = 26 then (fun k => if k < n then V 25 (a + k) else V 26 k) else V q
def cpS (V : XSt) (b n : Nat) : XSt := fun q => if q = 25 then (fun k => if b ≤ k ∧ k < b + n then V 26 (k - b) else V 25 k) else V q
theorem mvS_0 (V : XSt) (a : Nat) : mvS V a 0 = V := by
  funext q k
  unfold mvS
  by_cases h : q = 26
  · rw [if_pos h, h]; rfl
  · rw [if_neg h]
theorem cpS_0 (V : XSt) (b : Nat) : cpS V b 0 = V := by
  funext q k
  unfold cpS
  by_cases h : q = 25
  · rw [if_pos h, h]; show (if b ≤ k ∧ k < b + 0 then _ else _) = _; rw [if_neg (by omega)]
  · rw [if_neg h]
theorem mvS_succ (V : XSt) (a n : Nat) : xst (mvS V a n) 26 n (mvS V a n 25 (a + n)) = mvS V a (n + 1) := by
  funext q k
  by_cases h : q = 26
  · subst h
    rw [xst_at]
    show (if k = n then V 25 (a + n) else if k < n then V 25 (a + k) else V 26 k) = (if k < n + 1 then V 25 (a + k) else V 26 k)
    by_cases h1 : k = n
    · rw [if_pos h1, if_pos (by omega), h1]
    · rw [if_neg h1]
      by_cases h2 : k < n
      · rw [if_pos h2, if_pos (by omega)]
      · rw [if_neg h2, if_neg (by omega)]
  · rw [xst_ne _ _ _ h]; unfold mvS; rw [if_neg h, if_neg h]
theorem cpS_succ (V : XSt) (b n : Nat) : xst (cpS V b n) 25 (b + n) (cpS V b n 26 n) = cpS V b (n + 1) := by
  funext q k
  by_cases h : q = 25
  · subst h
    rw [xst_at]
    show (if k = b + n then V 26 n else if b ≤ k ∧ k < b + n then V 26 (k - b) else V 25 k) = (if b ≤ k ∧ k < b + (n + 1) then V 26 (k - b) else V 25 k)
    by_cases h1 : k = b + n
    · rw [if_pos h1, if_pos (by omega), h1, Nat.add_sub_cancel_left]
    · rw [if_neg h1]
      by_cases h2 : b ≤ k ∧ k < b + n
      · rw [if_pos h2, if_pos (by omega)]
      · rw [if_neg h2, if_neg (by omega)]
  · rw [xst_ne _ _ _ h]; unfold cpS; rw [if_neg h, if_neg h]
theorem nI_40b {s i k : Nat} : (40 : Int32) * nI s + nI i + nI k = nI (40 * s + i + k) := by rw [nI_40, nI_add]
theorem copyR_a {U : XSr} {s i n : Nat} (hs : s < 4) (hi : i + n ≤ 40) (x3 x4 : Int32) (k : XSr → Option (Int32 × XSr)) : xlp (fun k rc t => B_X7_copy_120 (nI s) (nI i) x3 x4 (nI n) k rc t.1 t.2) k XFU (0, U) = k (mvS U.1 (40 * s + i) n, U.2) := by
  obtain ⟨e, he, h1⟩ := xlp_for (Bd := fun k rc t => B_X7_copy_120 (nI s) (nI i) x3 x4 (nI n) k rc t.1 t.2) (k := k) (fun m t => ∃ j, j + m = n ∧ t = (nI j, (mvS U.1 (40 * s + i) j, U.2))) (fun e => e = (mvS U.1 (40 * s + i) n, U.2)) (by
    intro m t rc ht
    obtain ⟨j, hj, rfl⟩ := ht
    by_cases hj8 : j = n
    · refine Or.inl ⟨(mvS U.1 (40 * s + i) j, U.2), by rw [hj8], ?_⟩
      show B_X7_copy_120 (nI s) (nI i) x3 x4 (nI n) _ rc (nI j) (mvS U.1 (40 * s + i) j, U.2) = _
      unfold B_X7_copy_120
      rw [if_pos (nI_le (by omega) (by omega))]
    · refine Or.inr ⟨m - 1, (nI (j + 1), (mvS U.1 (40 * s + i) (j + 1), U.2)), by omega, ⟨j + 1, by omega, rfl⟩, ?_⟩
      show B_X7_copy_120 (nI s) (nI i) x3 x4 (nI n) _ rc (nI j) (mvS U.1 (40 * s + i) j, U.2) = _
      unfold B_X7_copy_120
      rw [if_neg (nI_ge (by omega) (by omega)), nI_40b, if_pos (xin_nI (by omega) (by decide)), if_pos (xin_nI (by omega) (by decide))]
      simp only [xlet]
      rw [xti_nI (by omega), xti_nI (by omega), nI_1]
      unfold xsr
      rw [mvS_succ]) (m := n) (t := (0, U)) ⟨0, by omega, by rw [mvS_0]; rfl⟩ (n := XFU) (by rw [XFU_eq]; omega)
  rw [h1, he]
theorem copyR_b {U : XSr} {s i n : Nat} (hs : s < 4) (hi : i + n ≤ 40) (k : XSr → Option (Int32 × XSr)) : xlp (fun k rc t => B_X7_copy_157 (nI s) (nI i) (nI n) k rc t.1 t.2) k XFU (0, U) = k (cpS U.1 (40 * s + i) n, U.2) := by
  obtain ⟨e, he, h1⟩ := xlp_for (Bd := fun k rc t => B_X7_copy_157 (nI s) (nI i) (nI n) k rc t.1 t.2) (k := k) (fun m t => ∃ j, j + m = n ∧ t = (nI j, (cpS U.1 (40 * s + i) j, U.2))) (fun e => e = (cpS U.1 (40 * s + i) n, U.2)) (by
    intro m t rc ht
    obtain ⟨j, hj, rfl⟩ := ht
    by_cases hj8 : j = n
    · refine Or.inl ⟨(cpS U.1 (40 * s + i) j, U.2), by rw [hj8], ?_⟩
      show B_X7_copy_157 (nI s) (nI i) (nI n) _ rc (nI j) (cpS U.1 (40 * s + i) j, U.2) = _
      unfold B_X7_copy_157
      rw [if_pos (nI_le (by omega) (by omega))]
    · refine Or.inr ⟨m - 1, (nI (j + 1), (cpS U.1 (40 * s + i) (j + 1), U.2)), by omega, ⟨j + 1, by omega, rfl⟩, ?_⟩
      show B_X7_copy_157 (nI s) (nI i) (nI n) _ rc (nI j) (cpS U.1 (40 * s + i) j, U.2) = _
      unfold B_X7_copy_157
      rw [if_neg (nI_ge (by omega) (by omega)), if_pos (xin_nI (by omega) (by decide)), nI_40b, if_pos (xin_nI (by omega) (by decide))]
      simp only [xlet]
      rw [xti_nI (by omega), xti_nI (by omega), nI_1]
      unfold xsr
      rw [cpS_succ]) (m := n) (t := (0, U)) ⟨0, by omega, by rw [cpS_0]; rfl⟩ (n := XFU) (by rw [XFU_eq]; omega)
  rw [h1, he]
/-- whether a run lies within, as the class sees it and as the reference does -/
theorem run_C {S : XSt} {q n : Nat} (hn : S q 3 = nI n) (hn40 : n ≤ 40) {x y : Int32} (hx : ¬ x < 0) (hy : ¬ y < 0) : (¬ F_X4_holdsRun S q x y = 0) ↔ xti x + xti y ≤ n := by
  obtain ⟨i, hi, rfl⟩ := nI_of hx
  obtain ⟨m, hm, rfl⟩ := nI_of hy
  unfold F_X4_holdsRun
  rw [if_neg hx, if_neg hy, hn, xti_nI hi, xti_nI hm]
  have e : (nI n - nI m).toInt = (n : Int) - m := by
    rw [Int32.toInt_sub, nI_toInt (by omega), nI_toInt hm]
    rw [Int.bmod_eq_of_le] <;> omega
  have h : (nI n - nI m < nI i) ↔ n < i + m := by
    rw [Int32.lt_iff_toInt_lt, e, nI_toInt hi]; omega
  by_cases hc : nI n - nI m < nI i
  · rw [if_pos hc]
    have := h.mp hc
    constructor
    · intro h9; exact absurd rfl h9
    · intro h9; omega
  · rw [if_neg hc]
    have : ¬ n < i + m := fun q => hc (h.mpr q)
    exact ⟨fun _ => by omega, fun _ => by decide⟩
theorem xlg_gt (x y : Int64) : (0 < lg_cmp x y) ↔ y < x := by
  unfold lg_cmp
  by_cases h : x > y
  · rw [if_pos h]; exact ⟨fun _ => h, fun _ => by decide⟩
  · rw [if_neg h]
    by_cases h2 : x = y
    · rw [if_pos h2]; exact ⟨fun q => absurd q (by decide), fun q => absurd q h⟩
    · rw [if_neg h2]; exact ⟨fun q => absurd q (by decide), fun q => absurd q h⟩
theorem run_R {n : Nat} (hn40 : n ≤ 40) {x y : Int32} (hx : ¬ x < 0) (hy : ¬ y < 0) : (0 < lg_cmp (x.toInt64 + y.toInt64) (nI n).toInt64) ↔ n < xti x + xti y := by
  obtain ⟨i, hi, rfl⟩ := nI_of hx
  obtain ⟨m, hm, rfl⟩ := nI_of hy
  rw [xlg_gt, nI_l hi, nI_l hm, nI_l (by omega), lN_add, pk_lLT (by omega) (by omega), xti_nI hi, xti_nI hm]
section Ops
variable {SC : XSt → Prop} {WR : XSr → Prop}
theorem copy_inv (hSC : SCok SC) (hWR : WRok WR) {S : XSt} {U : XSr} (hI : Inv SC WR S U) {s t i j n : Nat} (hs : s < 4) (ht : t < 4) (hi : i + n ≤ 40) (hj : j + n ≤ 40) : Inv SC WR (xcp S (33 + s) (33 + t) i j n) (cpS (mvS U.1 (40 * s + i) n) (40 * t + j) n, U.2) := by
  have hS := hI.2.2.2.2.2.2.2.1
  have hxc : ∀ q, q ≠ 33 + t → xcp S (33 + s) (33 + t) i j n q = S q := fun q hq => by unfold xcp; rw [if_neg hq]
  have hUc : ∀ q, q ≠ 25 → q ≠ 26 → (cpS (mvS U.1 (40 * s + i) n) (40 * t + j) n, U.2).1 q = U.1 q := fun q h1 h2 => by
    show cpS (mvS U.1 (40 * s + i) n) (40 * t + j) n q = U.1 q
    unfold cpS; rw [if_neg h1]; unfold mvS; rw [if_neg h2]
  refine Inv_sheets hSC hWR hI (fun q hq => hxc q (by omega)) (fun q hq => hUc q (by omega) (by omega)) rfl (fun w hw => ?_)
  obtain ⟨q1, q2, q3, q4, q5, q6⟩ := hS w hw
  rw [hxc (29 + w) (by omega), hUc 22 (by decide) (by decide), hUc 23 (by decide) (by decide), hUc 24 (by decide) (by decide)]
  refine ⟨q1, q2, q3, q4, q5, fun k hk => ?_⟩
  have e25 : (cpS (mvS U.1 (40 * s + i) n) (40 * t + j) n, U.2).1 25 (40 * w + k) = if 40 * t + j ≤ 40 * w + k ∧ 40 * w + k < 40 * t + j + n then (if 40 * w + k - (40 * t + j) < n then U.1 25 (40 * s + i + (40 * w + k - (40 * t + j))) else U.1 26 (40 * w + k - (40 * t + j))) else U.1 25 (40 * w + k) := rfl
  rw [e25]
  by_cases hwt : w = t
  · subst hwt
    have ex : xcp S (33 + s) (33 + w) i j n (33 + w) k = if j ≤ k ∧ k < j + n then S (33 + s) (i + (k - j)) else S (33 + w) k := by unfold xcp; rw [if_pos rfl]; rfl
    rw [ex]
    by_cases hin : j ≤ k ∧ k < j + n
    · rw [if_pos hin, if_pos (by omega), if_pos (by omega), (hS s hs).2.2.2.2.2 (i + (k - j)) (by omega), show 40 * s + (i + (k - j)) = 40 * s + i + (40 * w + k - (40 * w + j)) by omega]
    · rw [if_neg hin, if_neg (by omega)]; exact q6 k hk
  · rw [hxc _ (by omega), if_neg (by omega)]; exact q6 k hk
set_option maxHeartbeats 1000000 in
theorem st_copy (hSC : SCok SC) (hWR : WRok WR) : St_copy (Inv SC WR) := by
  intro S U x1 x2 x3 x4 x5 hI
  by_cases h1 : F_X6_isSheet x1 = 0
  · exact ⟨-2, S, U, by unfold F_X6_copy; rw [if_pos h1], by unfold F_X7_copy; rw [isSheet_eq, if_pos h1], hI⟩
  by_cases h2 : F_X6_isSheet x3 = 0
  · exact ⟨-2, S, U, by unfold F_X6_copy; rw [if_neg h1, if_pos h2], by unfold F_X7_copy; rw [isSheet_eq, isSheet_eq, if_neg h1, if_pos h2], hI⟩
  obtain ⟨s, rfl, hs⟩ := isSheet_n h1
  obtain ⟨t, rfl, ht⟩ := isSheet_n h2
  have hx4 : xin (nI s) 4 = true := xin_nI hs (by decide)
  have hsx : xti (nI s) = s := xti_nI (by omega)
  have hx4t : xin (nI t) 4 = true := xin_nI ht (by decide)
  have hsxt : xti (nI t) = t := xti_nI (by omega)
  have hS := hI.2.2.2.2.2.2.2.1
  obtain ⟨p1, p2, p3, p4, p5, p6⟩ := hS s hs
  obtain ⟨q1, q2, q3, q4, q5, q6⟩ := hS t ht
  obtain ⟨ns, hns⟩ : ∃ n, xti (S (29 + s) 3) = n := ⟨_, rfl⟩
  have ens : S (29 + s) 3 = nI ns := by rw [← hns]; exact p5.1
  have hns40 : ns ≤ 40 := by rw [← hns]; exact p5.2
  obtain ⟨nt, hnt⟩ : ∃ n, xti (S (29 + t) 3) = n := ⟨_, rfl⟩
  have ent : S (29 + t) 3 = nI nt := by rw [← hnt]; exact q5.1
  have hnt40 : nt ≤ 40 := by rw [← hnt]; exact q5.2
  have es : U.1 24 s = nI ns := by rw [← p4, ens]
  have et : U.1 24 t = nI nt := by rw [← q4, ent]
  obtain ⟨a1, a2, aI⟩ := finding_step hSC hWR hI 1
  obtain ⟨b1, b2, bI⟩ := finding_step hSC hWR hI 2
  obtain ⟨d1, d2, dI⟩ := finding_step hSC hWR hI 4
  unfold F_X6_copy F_X7_copy
  rw [isSheet_eq, isSheet_eq]
  simp only [if_neg h1, if_neg h2, if_pos hx4, if_pos hx4t, hsx, hsxt, xlet, a1, a2, b1, b2, d1, d2, Option.bind_some, es, et, ← p2, ← q2]
  rcases p1 with ⟨l1, l2⟩ | ⟨l1, l2⟩
  · rw [l1, l2, if_neg (show ¬ (1 : Int32) = 0 by decide), if_pos rfl]
    exact ⟨_, _, _, rfl, rfl, aI⟩
  rw [l1, l2, if_pos rfl, if_neg (show ¬ (1 : Int32) = 0 by decide)]
  rcases q1 with ⟨m1, m2⟩ | ⟨m1, m2⟩
  · rw [m1, m2, if_neg (show ¬ (1 : Int32) = 0 by decide), if_pos rfl]
    exact ⟨_, _, _, rfl, rfl, aI⟩
  rw [m1, m2, if_pos rfl, if_neg (show ¬ (1 : Int32) = 0 by decide)]
  by_cases hf : S (29 + s) 2 = S (29 + t) 2
  case neg =>
    rw [if_neg hf, if_neg hf]
    exact ⟨_, _, _, rfl, rfl, dI⟩
  rw [if_pos hf, if_pos hf]
  by_cases c2 : x2 < 0
  · have : F_X4_holdsRun S (29 + s) x2 x5 = 0 := by unfold F_X4_holdsRun; rw [if_pos c2]
    rw [if_pos this, if_pos c2]
    exact ⟨_, _, _, rfl, rfl, bI⟩
  rw [if_neg c2]
  by_cases c5 : x5 < 0
  · have : F_X4_holdsRun S (29 + s) x2 x5 = 0 := by unfold F_X4_holdsRun; rw [if_neg c2, if_pos c5]
    rw [if_pos this, if_pos c5]
    by_cases c4 : x4 < 0
    · rw [if_pos c4]; exact ⟨_, _, _, rfl, rfl, bI⟩
    · rw [if_neg c4]; exact ⟨_, _, _, rfl, rfl, bI⟩
  have rc1 := run_C (S := S) (q := 29 + s) ens hns40 c2 c5
  have rr1 := run_R hns40 c2 c5
  by_cases k1 : xti x2 + xti x5 ≤ ns
  case neg =>
    have : F_X4_holdsRun S (29 + s) x2 x5 = 0 := Decidable.byContradiction (fun h => k1 (rc1.mp h))
    rw [if_pos this, if_neg c5, if_pos (rr1.mpr (by omega))]
    by_cases c4 : x4 < 0
    · rw [if_pos c4]; exact ⟨_, _, _, rfl, rfl, bI⟩
    · rw [if_neg c4]; exact ⟨_, _, _, rfl, rfl, bI⟩
  rw [if_neg (rc1.mpr k1), if_neg c5, if_neg (fun h => absurd (rr1.mp h) (by omega))]
  by_cases c4 : x4 < 0
  · have : F_X4_holdsRun S (29 + t) x4 x5 = 0 := by unfold F_X4_holdsRun; rw [if_pos c4]
    rw [if_pos this, if_pos c4]
    exact ⟨_, _, _, rfl, rfl, bI⟩
  rw [if_neg c4]
  have rc2 := run_C (S := S) (q := 29 + t) ent hnt40 c4 c5
  have rr2 := run_R hnt40 c4 c5
  by_cases k2 : xti x4 + xti x5 ≤ nt
  case neg =>
    have : F_X4_holdsRun S (29 + t) x4 x5 = 0 := Decidable.byContradiction (fun h => k2 (rc2.mp h))
    rw [if_pos this, if_neg (fun h => absurd (rr2.mpr (by omega)) (Int32.not_lt.mpr h))]
    exact ⟨_, _, _, rfl, rfl, bI⟩
  rw [if_neg (rc2.mpr k2), if_pos c2, if_pos c4, if_pos c5, if_pos (show xti x2 + xti x5 ≤ 40 by omega), if_pos (show xti x4 + xti x5 ≤ 40 by omega), if_pos (Int32.not_lt.mp (fun h => absurd (rr2.mp h) (by omega)))]
  obtain ⟨i, hi, rfl⟩ := nI_of c2
  obtain ⟨j, hj, rfl⟩ := nI_of c4
  obtain ⟨n, hn, rfl⟩ := nI_of c5
  rw [xti_nI hi, xti_nI hn] at k1
  rw [xti_nI hj, xti_nI hn] at k2
  rw [copyR_a hs (by omega), copyR_b (U := (mvS U.1 (40 * s + i) n, U.2)) ht (by omega), xti_nI hi, xti_nI hj, xti_nI hn, show 29 + s + 4 = 33 + s by omega, show 29 + t + 4 = 33 + t by omega]
  exact ⟨_, _, _, rfl, rfl, copy_inv hSC hWR hI hs ht (by omega) (by omega)⟩
end Ops
