/-! SPREAD: halves are joined -/
theorem count_take (l : List Nat) (a v : Nat) {j : Nat} (hj : j < l.length) : ((l.take (j + 1)).map (a + ·)).count v = ((l.take j).map (a + ·)).count v + (if a + ix l j = v then 1 else 0) := by
  rw [ix_take hj, List.map_append, List.count_append]
  congr 1
  show [a + ix l j].count v = _
  by_cases h : a + ix l j = v
  · rw [if_pos h, h]; simp
  · rw [if_neg h]
    exact List.count_eq_zero.mpr (fun hm => h (List.mem_singleton.mp hm).symm)
theorem prs_take (A B : List Nat) {i : Nat} (hi : i < A.length) (v : Nat) : (prs (A.take (i + 1)) B).count v = (prs (A.take i) B).count v + (B.map (ix A i + ·)).count v := by
  rw [ix_take hi]
  unfold prs
  rw [List.flatMap_append, List.count_append]
  simp
theorem join_eq {S : XSt} {A B : List Nat} {r : Nat → Nat} (hA : A.length ≤ 24) (hB : B.length ≤ 24) (hA2 : ∀ x ∈ A, x ≤ 1000) (hB2 : ∀ x ∈ B, x ≤ 1000) (h24 : ∀ i, i < A.length → S 24 i = nI (ix A i)) (h25 : ∀ i, i < B.length → S 25 i = nI (ix B i)) (h23 : ∀ v, v ≤ 180 → S 23 v = nI (r v)) : ∃ S' : XSt, F_X3_joinHalves S (nI A.length) (nI B.length) = some S' ∧ (∀ q, q ≠ 23 → S' q = S q) ∧ ∀ v, v ≤ 180 → S' 23 v = nI (r v + (prs A B).count v) := by
  unfold F_X3_joinHalves
  refine xlp_Q (Q := fun o => ∃ S' : XSt, o = some S' ∧ (∀ q, q ≠ 23 → S' q = S q) ∧ ∀ v, v ≤ 180 → S' 23 v = nI (r v + (prs A B).count v)) (I := fun i t => ∃ S' : XSt, t = (nI i, S') ∧ (∀ q, q ≠ 23 → S' q = S q) ∧ ∀ v, v ≤ 180 → S' 23 v = nI (r v + (prs (A.take i) B).count v)) 0 A.length (by omega) (by omega) ⟨S, rfl, fun _ _ => rfl, fun v hv => by rw [h23 v hv]; rfl⟩ ?_ ?_
  · rintro i _ rc - hi ⟨V, rfl, vfr, vce⟩
    right
    show ∃ t', _ ∧ B_X3_joinHalves_2 (nI A.length) (nI B.length) _ rc (nI i) V = rc t'
    unfold B_X3_joinHalves_2
    rw [if_neg (fun q => absurd ((nI_leI (by omega) (by omega)).mp q) (by omega))]
    have ha := hA2 _ (ix_mem hi)
    refine xlp_Q (Q := fun o => ∃ t' : Int32 × XSt, (∃ S' : XSt, t' = (nI (i + 1), S') ∧ (∀ q, q ≠ 23 → S' q = S q) ∧ ∀ v, v ≤ 180 → S' 23 v = nI (r v + (prs (A.take (i + 1)) B).count v)) ∧ o = rc t') (I := fun j t => ∃ S' : XSt, t = (nI j, S') ∧ (∀ q, q ≠ 23 → S' q = S q) ∧ ∀ v, v ≤ 180 → S' 23 v = nI (r v + (prs (A.take i) B).count v + ((B.take j).map (ix A i + ·)).count v)) 0 B.length (by omega) (by omega) ⟨V, rfl, vfr, fun v hv => by rw [vce v hv]; rfl⟩ ?_ ?_
    · rintro j _ rc' - hj ⟨W, rfl, wfr, wce⟩
      right
      have hb := hB2 _ (ix_mem hj)
      show ∃ t', _ ∧ B_X3_joinHalves_10 (nI A.length) (nI B.length) (nI i) _ rc' (nI j) W = rc' t'
      unfold B_X3_joinHalves_10
      rw [if_neg (fun q => absurd ((nI_leI (by omega) (by omega)).mp q) (by omega)), if_pos (xin_nI (by omega) (by decide)), if_pos (xin_nI (by omega) (by decide)), xti_nI (by omega), xti_nI (by omega), wfr 24 (by decide), wfr 25 (by decide), h24 i hi, h25 j hj, nI_add]
      simp only [xlet_eq]
      rw [nI_1]
      by_cases h180 : 180 < ix A i + ix B j
      · rw [if_pos (show (180 : Int32) < nI (ix A i + ix B j) from nI_lt (a := 180) h180 (by omega))]
        refine ⟨_, ⟨W, rfl, wfr, fun v hv => ?_⟩, rfl⟩
        rw [wce v hv, count_take B _ v hj, if_neg (by omega)]; rfl
      · have hx : xin (nI (ix A i + ix B j)) 181 = true := xin_nI (by omega) (by decide)
        rw [if_neg (show ¬ (180 : Int32) < nI (ix A i + ix B j) from nI_nlt (b := ix A i + ix B j) (a := 180) (by omega) (by decide)), if_pos hx, if_pos hx, xti_nI (by omega), wce _ (by omega), nI_1]
        refine ⟨_, ⟨xst W 23 (ix A i + ix B j) _, rfl, fun q hq => ?_, fun v hv => ?_⟩, rfl⟩
        · rw [xst_ne _ _ _ hq]; exact wfr q hq
        · rw [xst_at, count_take B _ v hj]
          by_cases e : v = ix A i + ix B j
          · rw [if_pos e, if_pos e.symm, e]; rfl
          · rw [if_neg e, if_neg (fun q => e q.symm), wce v hv]; rfl
    · rintro _ rc' ⟨W, rfl, wfr, wce⟩
      refine ⟨(nI (i + 1), W), ⟨W, rfl, wfr, fun v hv => ?_⟩, ?_⟩
      · rw [wce v hv, List.take_length, prs_take A B hi, Nat.add_assoc]
      · show B_X3_joinHalves_10 (nI A.length) (nI B.length) (nI i) _ rc' (nI B.length) W = _
        unfold B_X3_joinHalves_10
        rw [if_pos ((nI_leI (by omega) (by omega)).mpr (Nat.le_refl _))]
        simp only [xlet_eq]
        rw [nI_1]
  · rintro _ rc ⟨V, rfl, vfr, vce⟩
    refine ⟨V, ?_, vfr, fun v hv => by rw [vce v hv, List.take_length]⟩
    show B_X3_joinHalves_2 (nI A.length) (nI B.length) _ rc (nI A.length) V = _
    unfold B_X3_joinHalves_2
    rw [if_pos ((nI_leI (by omega) (by omega)).mpr (Nat.le_refl _))]
theorem ga_le {P : Pb} (hP : P.good) {m s t x : Nat} (h : x ∈ P.ga m s t) : x ≤ 30 * m := by
  induction m generalizing s x with
  | zero =>
    have h' : x ∈ (if s = t then [0] else []) := h
    by_cases e : s = t
    · rw [if_pos e] at h'; rw [List.mem_singleton.mp h']; exact Nat.zero_le _
    · rw [if_neg e] at h'; cases h'
  | succ m ih =>
    obtain ⟨g, hg, hx⟩ := List.mem_flatMap.mp h
    by_cases hc : (t.testBit g && P.ok s g) = true
    · rw [if_pos hc] at hx
      obtain ⟨y, hy, rfl⟩ := List.mem_map.mp hx
      have h1 := ih hy
      have h2 := ct_le hP s g
      omega
    · rw [if_neg hc] at hx; cases hx
theorem fct_4 : ∀ h, h ≤ 4 → fct h ≤ 24 := by
  have : ∀ h, h < 5 → fct h ≤ 24 := by decide
  intro h hh; exact this h (by omega)
def hcnt (P : Pb) (v t : Nat) : Nat := (prs (P.ga (P.n / 2) 0 t) (P.costs (P.n - P.n / 2) t)).count v
theorem hcnt_0 {P : Pb} {v t : Nat} (h : popN P.n t ≠ P.n / 2) : hcnt P v t = 0 := by
  unfold hcnt
  have : P.ga (P.n / 2) 0 t = [] := by
    cases hga : P.ga (P.n / 2) 0 t with
    | nil => rfl
    | cons x l =>
      have hx : x ∈ P.ga (P.n / 2) 0 t := by rw [hga]; exact List.mem_cons_self ..
      have := (ga_sub hx).2
      rw [popN_0] at this
      omega
  rw [this]; rfl
theorem hcnt_sum (P : Pb) (v : Nat) : smN (hcnt P v) (2 ^ P.n) = (P.costs P.n 0).count v := by
  have := ga_split P (P.n / 2) (P.n - P.n / 2) 0 v (Nat.two_pow_pos _)
  rw [show P.n / 2 + (P.n - P.n / 2) = P.n by omega] at this
  exact this.symm
theorem spread_a {S : XSt} (K : XSt → Option XSt) (Q : Option XSt → Prop) (hk : ∀ V : XSt, (∀ q, q ≠ 23 → V q = S q) → (∀ v, v ≤ 180 → V 23 v = nI 0) → Q (K V)) : Q (xlp (fun k rc t => B_X3_settleSpread_10 k rc t.1 t.2) K XFU (0, S)) := by
  refine xlp_Q (Q := Q) (I := fun j t => ∃ V : XSt, t = (nI j, V) ∧ (∀ q, q ≠ 23 → V q = S q) ∧ ∀ v, v < j → V 23 v = nI 0) 0 181 (by omega) (by omega) ⟨S, rfl, fun _ _ => rfl, fun v hv => by omega⟩ ?_ ?_
  · rintro j _ rc - hj ⟨V, rfl, vfr, vce⟩
    right
    refine ⟨(nI (j + 1), xst V 23 j (nI 0)), ⟨_, rfl, fun q hq => ?_, fun v hv => ?_⟩, ?_⟩
    · rw [xst_ne _ _ _ hq]; exact vfr q hq
    · rw [xst_at]
      by_cases e : v = j
      · rw [if_pos e]
      · rw [if_neg e]; exact vce v (by omega)
    · show B_X3_settleSpread_10 _ rc (nI j) V = _
      unfold B_X3_settleSpread_10
      rw [if_neg (show ¬ (180 : Int32) < nI j from nI_nlt (b := j) (a := 180) (by omega) (by decide)), if_pos (xin_nI (by omega) (by decide)), xti_nI (by omega)]
      simp only [xlet_eq]
      rw [nI_1]; rfl
  · rintro _ rc ⟨V, rfl, vfr, vce⟩
    have : B_X3_settleSpread_10 K rc (nI 181) V = K V := by
      unfold B_X3_settleSpread_10
      rw [if_pos (show (180 : Int32) < nI 181 by decide)]
    show Q (B_X3_settleSpread_10 K rc (nI 181) V)
    rw [this]
    exact hk V vfr (fun v hv => vce v (by omega))
theorem spread_eq {P : Pb} {S : XSt} (hC : CP P S) (h18 : ∀ s, s < 2 ^ P.n → ∀ g, g < P.n → S 18 (s * 8 + g) = stI P s g) (h13 : ¬ S 4 13 = 0) : ∃ S' : XSt, F_X3_settleSpread S = some S' ∧ (∀ q, q ≠ 4 → ¬ (23 ≤ q ∧ q ≤ 25) → S' q = S q) ∧ (∀ j, j ≠ 13 → S' 4 j = S 4 j) ∧ S' 4 13 = 0 ∧ SPR P S' := by
  have hP := hC.1
  have hn := hP.1
  have hN := two8 hn
  have hN0 : 0 < 2 ^ P.n := Nat.two_pow_pos _
  unfold F_X3_settleSpread
  rw [if_neg h13]
  refine spread_a _ (fun o => ∃ S' : XSt, o = some S' ∧ (∀ q, q ≠ 4 → ¬ (23 ≤ q ∧ q ≤ 25) → S' q = S q) ∧ (∀ j, j ≠ 13 → S' 4 j = S 4 j) ∧ S' 4 13 = 0 ∧ SPR P S') (fun S1 f1 c1 => ?_)
  have hC1 : CP P S1 := hC.keep (f1 1 (by decide)) (f1 7 (by decide)) (f1 8 (by decide)) (f1 9 (by decide)) (f1 10 (by decide))
  rw [all_eq hC1, xlet_eq]
  refine xlp_Q (Q := fun o => ∃ S' : XSt, o = some S' ∧ (∀ q, q ≠ 4 → ¬ (23 ≤ q ∧ q ≤ 25) → S' q = S q) ∧ (∀ j, j ≠ 13 → S' 4 j = S 4 j) ∧ S' 4 13 = 0 ∧ SPR P S') (I := fun j t => ∃ V : XSt, t = (nI j, V) ∧ (∀ q, ¬ (23 ≤ q ∧ q ≤ 25) → V q = S q) ∧ ∀ v, v ≤ 180 → V 23 v = nI (smN (hcnt P v) j)) 0 (2 ^ P.n) (by omega) (by omega) ⟨S1, rfl, fun q hq => f1 q (by omega), c1⟩ ?_ ?_
  · rintro j _ rc - hj ⟨V, rfl, vfr, vce⟩
    right
    have hCV : CP P V := hC.keep (vfr 1 (by decide)) (vfr 7 (by decide)) (vfr 8 (by decide)) (vfr 9 (by decide)) (vfr 10 (by decide))
    have h18V : ∀ s, s < 2 ^ P.n → ∀ g, g < P.n → V 18 (s * 8 + g) = stI P s g := fun s hs g hg => by rw [vfr 18 (by decide)]; exact h18 s hs g hg
    have hbc : F_J6_bitCount_0f7a4 (nI j) = nI (popN P.n j) := by rw [bitCount_10 j (by omega), popN_n10 (by omega) hj]
    have hpl := popN_le P.n j
    show ∃ t', _ ∧ B_X3_settleSpread_37 (nI (2 ^ P.n - 1)) _ rc (nI j) V = rc t'
    unfold B_X3_settleSpread_37
    rw [if_neg (nI_nlt (by omega) (by omega)), hbc, hCV.2.1, show (2 : Int32) = nI 2 from rfl, pk_div (by omega) (by decide) (by decide)]
    by_cases hp : popN P.n j = P.n / 2
    · rw [if_pos (by rw [hp])]
      have l1 := ga_len P (P.n / 2) 0 j
      have l2 := ga_len P (P.n - P.n / 2) j P.full
      have l3 := fct_4 (P.n / 2) (by omega)
      have l4 := fct_4 (P.n - P.n / 2) (by omega)
      have hgf := ga_full (P := P) (m := P.n - P.n / 2) (s := j) hj (by omega)
      obtain ⟨V1, g1, g2, g3, g4⟩ := gather_eq hP (q := 24) (Or.inl rfl) (P.n / 2) 9 0 j 0 0 V hCV h18V (by omega) hN0 hj (fun k hk => by simp at hk) (by rw [popN_0]; omega) (by omega)
      have hC1 : CP P V1 := hCV.keep (g2 1 (by decide)) (g2 7 (by decide)) (g2 8 (by decide)) (g2 9 (by decide)) (g2 10 (by decide))
      have h18V1 : ∀ s, s < 2 ^ P.n → ∀ g, g < P.n → V1 18 (s * 8 + g) = stI P s g := fun s hs g hg => by rw [g2 18 (by decide)]; exact h18V s hs g hg
      have hfull : (2 ^ P.n - 1) < 2 ^ P.n := by omega
      obtain ⟨V2, k1, k2, k3, k4⟩ := gather_eq hP (q := 25) (Or.inr rfl) (P.n - P.n / 2) 9 j (2 ^ P.n - 1) 0 0 V1 hC1 h18V1 (by omega) hj hfull (fun k hk => by
        rw [full_bit, decide_eq_true_eq]
        rcases Nat.lt_or_ge k P.n with h | h
        · exact h
        · rw [Nat.testBit_lt_two_pow (Nat.lt_of_lt_of_le hj (Nat.pow_le_pow_right (by decide) h))] at hk; cases hk) (by rw [popN_all]; omega) (by show 0 + (P.ga (P.n - P.n / 2) j P.full).length ≤ 24; omega)
      have hgf' : P.ga (P.n - P.n / 2) j (2 ^ P.n - 1) = P.costs (P.n - P.n / 2) j := hgf
      have e0 : (0 : Int32) = nI 0 := nI_0.symm
      rw [e0, g1]
      simp only [Option.bind_some, xlet_eq]
      rw [k1]
      simp only [Option.bind_some]
      rw [Nat.zero_add, Nat.zero_add]
      rw [hgf'] at k4 ⊢
      have m1 : ∀ i, i < (P.ga (P.n / 2) 0 j).length → V2 24 i = nI (ix (P.ga (P.n / 2) 0 j) i) := fun i hi => by
        rw [k2 24 (by decide)]
        have := g4 i hi
        rw [Nat.zero_add, Nat.zero_add] at this; exact this
      have m2 : ∀ i, i < (P.costs (P.n - P.n / 2) j).length → V2 25 i = nI (ix (P.costs (P.n - P.n / 2) j) i) := fun i hi => by
        have := k4 i hi
        rw [Nat.zero_add, Nat.zero_add] at this; exact this
      obtain ⟨V3, j1, j2, j3⟩ := join_eq (S := V2) (A := P.ga (P.n / 2) 0 j) (B := P.costs (P.n - P.n / 2) j) (r := fun v => smN (hcnt P v) j) (by omega) (by rw [← hgf]; omega) (fun x hx => by have := ga_le hP hx; omega) (fun x hx => by have := costs_le hP hx; omega) m1 m2 (fun v hv => by rw [k2 23 (by decide), g2 23 (by decide)]; exact vce v hv)
      rw [j1]
      simp only [Option.bind_some]
      rw [nI_1]
      refine ⟨_, ⟨V3, rfl, fun q hq => ?_, fun v hv => ?_⟩, rfl⟩
      · rw [j2 q (by omega), k2 q (by omega), g2 q (by omega)]; exact vfr q hq
      · rw [j3 v hv]; rfl
    · rw [if_neg (fun q => hp ((nI_eq (by omega) (by omega)).mp q)), xlet_eq, nI_1]
      refine ⟨_, ⟨V, rfl, vfr, fun v hv => ?_⟩, rfl⟩
      rw [vce v hv]
      show _ = nI (smN (hcnt P v) j + hcnt P v j)
      rw [hcnt_0 hp, Nat.add_zero]
  · rintro _ rc ⟨V, rfl, vfr, vce⟩
    refine ⟨xst V 4 13 0, ?_, fun q h1 h2 => ?_, fun j hj => ?_, rfl, fun v hv => ?_⟩
    · show B_X3_settleSpread_37 (nI (2 ^ P.n - 1)) _ rc (nI (2 ^ P.n)) V = _
      unfold B_X3_settleSpread_37
      rw [if_pos (nI_lt (by omega) (by omega))]
      rfl
    · rw [xst_ne _ _ _ h1]; exact vfr q h2
    · rw [xst_idx _ _ _ hj, vfr 4 (by decide)]
    · show V 23 v = _
      rw [vce v hv, hcnt_sum]
