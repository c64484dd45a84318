/-! THE CLASS's SEARCH: the fewest gaps ahead of a set -/
theorem pre_nil (P : Pb) : P.pre 0 [] := ⟨rfl, fun g hg => absurd hg List.not_mem_nil, rfl⟩
theorem fin_snoc (s g : Nat) (p : List Nat) : fin s (p ++ [g]) = fin s p ||| 2 ^ g := by rw [fin_append]; rfl
theorem okp_snoc (P : Pb) (s g : Nat) (p : List Nat) : P.okp s (p ++ [g]) = (P.okp s p && P.ok (fin s p) g) := by
  rw [okp_append]
  show (P.okp s p && (P.ok (fin s p) g && true)) = _
  rw [Bool.and_true]
theorem cst_snoc (P : Pb) (s g : Nat) (p : List Nat) : P.cst s (p ++ [g]) = P.cst s p + P.ct (fin s p) g := by
  rw [cst_append]; rfl
theorem pre_snoc {P : Pb} {s g : Nat} {p : List Nat} (h : P.pre s p) (hg : g < P.n) (ho : P.ok s g = true) : P.pre (s ||| 2 ^ g) (p ++ [g]) := by
  obtain ⟨h1, h2, h3⟩ := h
  refine ⟨by rw [okp_snoc, h1, h3, ho]; rfl, fun x hx => ?_, by rw [fin_snoc, h3]⟩
  rcases List.mem_append.mp hx with e | e
  · exact h2 x e
  · rw [List.mem_singleton.mp e]; exact hg
theorem or_gt {s g : Nat} (h : s.testBit g = false) : s < s ||| 2 ^ g := by
  rcases Nat.lt_or_ge s (s ||| 2 ^ g) with h1 | h1
  · exact h1
  · have h2 : s ≤ s ||| 2 ^ g := Nat.left_le_or
    have e : s ||| 2 ^ g = s := by omega
    have : (s ||| 2 ^ g).testBit g = true := by rw [or2_bit]; simp
    rw [e, h] at this; cases this
/-- what is known of the fewest gaps ahead of sets, once all sets below j, and graves below i of set j, have been gone through -/
def Pb.ahI (P : Pb) (j i : Nat) (a : Nat → Nat) : Prop := a 0 = 0 ∧ (∀ s, s < 2 ^ P.n → a s ≤ NW) ∧ (∀ s, s < 2 ^ P.n → a s = NW ∨ ∃ p, P.pre s p ∧ P.cst 0 p = a s) ∧ ∀ p g, P.okp 0 (p ++ [g]) = true → (∀ h ∈ p ++ [g], h < P.n) → (fin 0 p < j ∨ (fin 0 p = j ∧ g < i)) → a (fin 0 (p ++ [g])) ≤ P.cst 0 (p ++ [g])
theorem ahI_all {P : Pb} {j i : Nat} {a : Nat → Nat} (h : P.ahI j i a) {p : List Nat} (hp : P.pre j p) : a j ≤ P.cst 0 p := by
  obtain ⟨h1, h2, h3, h4⟩ := h
  rcases List.eq_nil_or_concat p with e | ⟨q, g, e⟩
  · subst e
    have : j = 0 := hp.2.2.symm
    subst this
    rw [h1]; exact Nat.zero_le _
  · rw [List.concat_eq_append] at e
    subst e
    obtain ⟨p1, p2, p3⟩ := hp
    have p1' := p1
    rw [okp_snoc, Bool.and_eq_true] at p1'
    have := h4 q g p1 p2 (Or.inl (by rw [← p3, fin_snoc]; exact or_gt (ok_bit p1'.2)))
    rw [p3] at this
    exact this
theorem ahI_step {P : Pb} {j i : Nat} {a : Nat → Nat} (h : P.ahI j i a) (hj : j < 2 ^ P.n) (hi : i < P.n) : P.ahI j (i + 1) (if P.ok j i = true then (fun s => if s = j ||| 2 ^ i then min (a s) (a j + P.ct j i) else a s) else a) := by
  have hall := fun p => ahI_all h (p := p)
  obtain ⟨h1, h2, h3, h4⟩ := h
  by_cases ho : P.ok j i = true
  · rw [if_pos ho]
    have hne : j ||| 2 ^ i ≠ 0 := by have := or_gt (ok_bit ho); omega
    refine ⟨?_, fun s hs => ?_, fun s hs => ?_, fun p g p1 p2 p3 => ?_⟩
    · show (if 0 = j ||| 2 ^ i then min (a 0) (a j + P.ct j i) else a 0) = 0
      rw [if_neg (fun e => hne (Eq.symm e))]; exact h1
    · show (if s = j ||| 2 ^ i then min (a s) (a j + P.ct j i) else a s) ≤ NW
      by_cases e : s = j ||| 2 ^ i
      · rw [if_pos e]; exact Nat.le_trans (Nat.min_le_left _ _) (h2 s hs)
      · rw [if_neg e]; exact h2 s hs
    · show (if s = j ||| 2 ^ i then min (a s) (a j + P.ct j i) else a s) = NW ∨ ∃ p, P.pre s p ∧ P.cst 0 p = (if s = j ||| 2 ^ i then min (a s) (a j + P.ct j i) else a s)
      by_cases e : s = j ||| 2 ^ i
      · rw [if_pos e]
        rcases Nat.le_total (a s) (a j + P.ct j i) with hl | hl
        · rw [Nat.min_eq_left hl]; exact h3 s hs
        · rw [Nat.min_eq_right hl]
          rcases h3 j hj with ej | ⟨p, hp, ep⟩
          · have := h2 s hs
            left; omega
          · right
            refine ⟨p ++ [i], ?_, ?_⟩
            · rw [e]; exact pre_snoc hp hi ho
            · rw [cst_snoc, hp.2.2, ep]
      · rw [if_neg e]; exact h3 s hs
    · show (if fin 0 (p ++ [g]) = j ||| 2 ^ i then min (a (fin 0 (p ++ [g]))) (a j + P.ct j i) else a (fin 0 (p ++ [g]))) ≤ _
      by_cases hd : fin 0 p < j ∨ (fin 0 p = j ∧ g < i)
      · have := h4 p g p1 p2 hd
        by_cases e : fin 0 (p ++ [g]) = j ||| 2 ^ i
        · rw [if_pos e]; exact Nat.le_trans (Nat.min_le_left _ _) this
        · rw [if_neg e]; exact this
      · have hp : fin 0 p = j := by omega
        have hg : g = i := by omega
        rw [if_pos (by rw [fin_snoc, hp, hg])]
        refine Nat.le_trans (Nat.min_le_right _ _) ?_
        rw [cst_snoc, hp, hg]
        have p1' := p1
        rw [okp_snoc, Bool.and_eq_true] at p1'
        have := hall p ⟨p1'.1, fun x hx => p2 x (List.mem_append_left _ hx), hp⟩
        omega
  · rw [if_neg ho]
    refine ⟨h1, h2, h3, fun p g p1 p2 p3 => ?_⟩
    by_cases hd : fin 0 p < j ∨ (fin 0 p = j ∧ g < i)
    · exact h4 p g p1 p2 hd
    · have hp : fin 0 p = j := by omega
      have hg : g = i := by omega
      rw [okp_snoc, Bool.and_eq_true, hp, hg] at p1
      exact absurd p1.2 ho
theorem ahI_next {P : Pb} {j : Nat} {a : Nat → Nat} (h : P.ahI j P.n a) : P.ahI (j + 1) 0 a := by
  obtain ⟨h1, h2, h3, h4⟩ := h
  refine ⟨h1, h2, h3, fun p g p1 p2 p3 => h4 p g p1 p2 ?_⟩
  have := p2 g (List.mem_append_right _ (List.mem_cons_self ..))
  omega
theorem ahI_end {P : Pb} {a : Nat → Nat} (h : P.ahI (2 ^ P.n - 1) 0 a) : P.isAh a := by
  obtain ⟨h1, h2, h3, h4⟩ := h
  intro s hs
  refine ⟨fun p hp => ?_, h3 s hs⟩
  rcases List.eq_nil_or_concat p with e | ⟨q, g, e⟩
  · subst e
    have : s = 0 := hp.2.2.symm
    subst this
    rw [h1]; exact Nat.zero_le _
  · rw [List.concat_eq_append] at e
    subst e
    obtain ⟨p1, p2, p3⟩ := hp
    have p1' := p1
    rw [okp_snoc, Bool.and_eq_true] at p1'
    have := h4 q g p1 p2 (Or.inl (by
      have := or_gt (ok_bit p1'.2)
      rw [← fin_snoc, p3] at this
      omega))
    rw [p3] at this
    exact this
theorem ahI_0 (P : Pb) : P.ahI 0 0 (fun s => if s = 0 then 0 else NW) := by
  refine ⟨rfl, fun s _ => ?_, fun s _ => ?_, fun p g _ _ h => by omega⟩
  · show (if s = 0 then 0 else NW) ≤ NW
    by_cases e : s = 0
    · rw [if_pos e]; exact Nat.zero_le _
    · rw [if_neg e]; exact Nat.le_refl _
  · show (if s = 0 then 0 else NW) = NW ∨ _
    by_cases e : s = 0
    · right; subst e; exact ⟨[], pre_nil P, rfl⟩
    · left; rw [if_neg e]
theorem NW_nI : (1000000 : Int32) = nI NW := rfl
theorem fillAhead_a {P : Pb} {S : XSt} (hC : CP P S) (k : XSt → Option XSt) (Q : Option XSt → Prop) (hk : ∀ S', (∀ q, q ≠ 19 → S' q = S q) → (∀ s, s < 2 ^ P.n → S' 19 s = nI (if s = 0 then 0 else NW)) → Q (k S')) : Q (xlp (fun k rc t => B_X3_fillAhead_7 (nI (2 ^ P.n - 1)) k rc t.1 t.2) k XFU (0, S)) := by
  have hn := hC.1.1
  have hN := two8 hn
  have hN0 : 0 < 2 ^ P.n := Nat.two_pow_pos _
  refine xlp_Q (Q := Q) (I := fun j t => ∃ S' : XSt, t = (nI j, S') ∧ (∀ q, q ≠ 19 → S' q = S q) ∧ ∀ s, s < j → S' 19 s = nI (if s = 0 then 0 else NW)) 0 (2 ^ P.n) (by omega) (by omega) ⟨S, rfl, fun _ _ => rfl, fun s hs => by omega⟩ ?_ ?_
  · rintro j _ rc - hj ⟨S', rfl, hfr, hce⟩
    right
    refine ⟨(nI (j + 1), xst S' 19 j (nI (if j = 0 then 0 else NW))), ⟨_, rfl, fun q hq => ?_, fun s hs => ?_⟩, ?_⟩
    · rw [xst_ne _ _ _ hq]; exact hfr q hq
    · by_cases e : s = j
      · subst e; rw [xst_same]
      · rw [xst_idx _ _ _ e]; exact hce s (by omega)
    · show B_X3_fillAhead_7 _ _ rc (nI j) S' = _
      unfold B_X3_fillAhead_7
      rw [if_neg (nI_nlt (by omega) (by omega))]
      by_cases e : j = 0
      · subst e
        rw [if_pos (show nI 0 = 0 from nI_0), if_pos (xin_nI (by omega) (by decide))]
        rfl
      · rw [if_neg (nI_ne0 (by omega) (by omega)), if_pos (xin_nI (by omega) (by decide)), if_neg e]
        simp only [xlet]
        rw [xti_nI (by omega), nI_1]; rfl
  · rintro _ rc ⟨S', rfl, hfr, hce⟩
    have : B_X3_fillAhead_7 (nI (2 ^ P.n - 1)) k rc (nI (2 ^ P.n)) S' = k S' := by
      unfold B_X3_fillAhead_7
      rw [if_pos (nI_lt (by omega) (by omega))]
    show Q (B_X3_fillAhead_7 (nI (2 ^ P.n - 1)) k rc (nI (2 ^ P.n)) S')
    rw [this]
    exact hk S' hfr hce
theorem stI_no {P : Pb} (hP : P.good) {s g : Nat} : stI P s g = -1 ↔ ¬ P.ok s g = true := by
  unfold stI
  by_cases h : P.ok s g = true
  · rw [if_pos h]
    have hl := stp_lt hP s g
    have : ¬ nI (P.stp s g) = -1 := by
      intro e
      have := nI_pos (n := P.stp s g) (by omega)
      rw [e] at this
      exact this (by decide)
    simp [this, h]
  · rw [if_neg h]; simp [h]
theorem fillAhead_eq {P : Pb} {S : XSt} (hC : CP P S) (hst : ∀ s, s < 2 ^ P.n → ∀ g, g < P.n → S 18 (s * 8 + g) = stI P s g) : ∃ S' : XSt, F_X3_fillAhead S = some S' ∧ (∀ q, q ≠ 19 → S' q = S q) ∧ ∃ a, P.isAh a ∧ ∀ s, s < 2 ^ P.n → a s ≤ NW ∧ S' 19 s = nI (a s) := by
  have hn := hC.1.1
  have hN := two8 hn
  have hN0 : 0 < 2 ^ P.n := Nat.two_pow_pos _
  unfold F_X3_fillAhead
  rw [all_eq hC]
  simp only [xlet]
  refine fillAhead_a hC _ (fun o => ∃ S' : XSt, o = some S' ∧ (∀ q, q ≠ 19 → S' q = S q) ∧ ∃ a, P.isAh a ∧ ∀ s, s < 2 ^ P.n → a s ≤ NW ∧ S' 19 s = nI (a s)) (fun S1 hfr1 hce1 => ?_)
  refine xlp_Q (Q := fun o => ∃ S' : XSt, o = some S' ∧ (∀ q, q ≠ 19 → S' q = S q) ∧ ∃ a, P.isAh a ∧ ∀ s, s < 2 ^ P.n → a s ≤ NW ∧ S' 19 s = nI (a s))
    (I := fun j t => ∃ S' : XSt, t = (nI j, S') ∧ (∀ q, q ≠ 19 → S' q = S q) ∧ ∃ a, P.ahI j 0 a ∧ ∀ s, s < 2 ^ P.n → S' 19 s = nI (a s)) 0 (2 ^ P.n - 1) (by omega) (by omega) ⟨S1, rfl, hfr1, _, ahI_0 P, hce1⟩ ?_ ?_
  · rintro j _ rc - hj ⟨S', rfl, hfr, a, ha, hce⟩
    right
    show ∃ t', _ ∧ B_X3_fillAhead_36 _ _ rc (nI j) S' = rc t'
    unfold B_X3_fillAhead_36
    rw [if_neg (fun q => absurd ((nI_leI (by omega) (by omega)).mp q) (by omega))]
    refine xlp_Q (Q := fun o => ∃ t' : Int32 × XSt, (∃ S' : XSt, t' = (nI (j + 1), S') ∧ (∀ q, q ≠ 19 → S' q = S q) ∧ ∃ a, P.ahI (j + 1) 0 a ∧ ∀ s, s < 2 ^ P.n → S' 19 s = nI (a s)) ∧ o = rc t')
      (I := fun i t => ∃ S' : XSt, t = (nI i, S') ∧ (∀ q, q ≠ 19 → S' q = S q) ∧ ∃ a, P.ahI j i a ∧ ∀ s, s < 2 ^ P.n → S' 19 s = nI (a s)) 0 P.n (by omega) (by omega) ⟨S', rfl, hfr, a, ha, hce⟩ ?_ ?_
    · rintro i _ rc' - hi ⟨V, rfl, vfr, b, hb, vce⟩
      right
      have hCV : CP P V := hC.keep (vfr 1 (by decide)) (vfr 7 (by decide)) (vfr 8 (by decide)) (vfr 9 (by decide)) (vfr 10 (by decide))
      have hs18 : V 18 (j * 8 + i) = stI P j i := by rw [vfr 18 (by decide)]; exact hst j (by omega) i hi
      have hstep := ahI_step hb (show j < 2 ^ P.n by omega) hi
      show ∃ t', _ ∧ B_X3_fillAhead_43 _ _ _ rc' (nI i) V = rc' t'
      unfold B_X3_fillAhead_43
      rw [if_neg (by rw [hCV.2.1]; exact fun q => absurd ((nI_leI (by omega) (by omega)).mp q) (by omega)), nI_8, if_pos (xin_nI (by omega) (by decide)), xti_nI (by omega), hs18]
      simp only [xlet]
      by_cases ho : P.ok j i = true
      · rw [if_pos ho] at hstep
        rw [if_neg (fun q => (stI_no hC.1).mp q ho), nI_shl1 (by omega), nI_or]
        have hor : j ||| 2 ^ i < 2 ^ P.n := Nat.or_lt_two_pow (by omega) (two_lt hi)
        rw [if_pos (xin_nI (by omega) (by decide)), if_pos (xin_nI (by omega) (by decide)), if_pos (xin_nI (by omega) (by decide)), xti_nI (show j ||| 2 ^ i < 2 ^ 31 by omega), xti_nI (show j < 2 ^ 31 by omega)]
        have hw : F_X5_weigh V (stI P j i) = nI (P.ct j i) := by
          unfold stI; rw [if_pos ho]; exact hCV.2.2.2.2.2.1 _ (stp_lt hC.1 j i)
        have h1 := hb.2.1 j (by omega)
        have h2 := hb.2.1 _ hor
        have h3 := ct_le hC.1 j i
        have hNW : NW = 1000000 := rfl
        rw [hw, vce _ hor, vce j (by omega), nI_add, xmin_nI (by omega) (by omega), nI_1]
        refine ⟨_, ⟨_, rfl, fun q hq => ?_, _, hstep, fun s hs => ?_⟩, rfl⟩
        · rw [xst_ne _ _ _ hq]; exact vfr q hq
        · rw [xst_at]
          by_cases e : s = j ||| 2 ^ i
          · rw [if_pos e, if_pos e, e]
          · rw [if_neg e, if_neg e]; exact vce s hs
      · rw [if_neg ho] at hstep
        rw [if_pos ((stI_no hC.1).mpr ho), nI_1]
        exact ⟨_, ⟨V, rfl, vfr, b, hstep, vce⟩, rfl⟩
    · rintro _ rc' ⟨V, rfl, vfr, b, hb, vce⟩
      refine ⟨(nI (j + 1), V), ⟨V, rfl, vfr, b, ahI_next hb, vce⟩, ?_⟩
      show B_X3_fillAhead_43 _ _ _ rc' (nI P.n) V = _
      unfold B_X3_fillAhead_43
      have h14 : V 1 4 = nI P.n := by rw [vfr 1 (by decide)]; exact hC.2.1
      rw [if_pos (by rw [h14]; exact (nI_leI (by omega) (by omega)).mpr (Nat.le_refl _))]
      simp only [xlet]
      rw [nI_1]
  · rintro _ rc ⟨S', rfl, hfr, a, ha, hce⟩
    refine ⟨S', ?_, hfr, a, ahI_end ha, fun s hs => ⟨ha.2.1 s hs, hce s hs⟩⟩
    show B_X3_fillAhead_36 _ _ rc (nI (2 ^ P.n - 1)) S' = _
    unfold B_X3_fillAhead_36
    rw [if_pos ((nI_leI (by omega) (by omega)).mpr (Nat.le_refl _))]
/-! THE CLASS's SEARCH: the fewest gaps behind a set, and how many ways have them -/
theorem costs_len (P : Pb) (hn : P.n ≤ 8) (m s : Nat) : (P.costs m s).length ≤ 8 ^ m := by
  induction m generalizing s with
  | zero => exact Nat.le_refl _
  | succ m ih =>
    rw [costs_succ]
    unfold Pb.costsJ
    rw [len_range]
    have h1 : smN (fun g => (if P.ok s g = true then (P.costs m (s ||| 2 ^ g)).map (P.ct s g + ·) else []).length) P.n ≤ smN (fun _ => 1 * 8 ^ m) P.n := smN_mono (fun g _ => by
      by_cases ho : P.ok s g = true
      · rw [if_pos ho, List.length_map, Nat.one_mul]; exact ih _
      · rw [if_neg ho]; exact Nat.zero_le _)
    have h2 : smN (fun _ => 1) P.n = P.n := by
      generalize P.n = n
      induction n with
      | zero => rfl
      | succ n ih => show smN (fun _ => 1) n + 1 = n + 1; rw [ih]
    rw [smN_mul, h2] at h1
    have h3 : P.n * 8 ^ m ≤ 8 * 8 ^ m := Nat.mul_le_mul_right _ hn
    rw [Nat.pow_succ, Nat.mul_comm]
    omega
theorem wy_lt (P : Pb) (hn : P.n ≤ 8) {m s : Nat} (hm : m ≤ 8) : P.wy m s ≤ 8 ^ 8 := by
  have h1 : P.wy m s ≤ (P.costs m s).length := List.count_le_length
  have h2 := costs_len P hn m s
  have h3 : 8 ^ m ≤ 8 ^ 8 := Nat.pow_le_pow_right (by decide) hm
  omega
theorem costsJ_len (P : Pb) (hn : P.n ≤ 8) {m s j : Nat} (hj : j ≤ P.n) (hm : m ≤ 7) (v : Nat) : (P.costsJ m s j).count v ≤ 8 ^ 8 := by
  have h1 : (P.costsJ m s j).count v ≤ (P.costsJ m s P.n).count v := by
    unfold Pb.costsJ
    rw [count_range, count_range]
    have : ∀ r, smN (fun g => (if P.ok s g = true then (P.costs m (s ||| 2 ^ g)).map (P.ct s g + ·) else []).count v) j ≤ smN (fun g => (if P.ok s g = true then (P.costs m (s ||| 2 ^ g)).map (P.ct s g + ·) else []).count v) (j + r) := by
      intro r
      induction r with
      | zero => exact Nat.le_refl _
      | succ r ih => exact Nat.le_trans ih (Nat.le_add_right _ _)
    have := this (P.n - j)
    rwa [show j + (P.n - j) = P.n by omega] at this
  have h2 : (P.costsJ m s P.n).count v ≤ (P.costsJ m s P.n).length := List.count_le_length
  have h3 := costs_len P hn (m + 1) s
  rw [costs_succ] at h3
  have h4 : 8 ^ (m + 1) ≤ 8 ^ 8 := Nat.pow_le_pow_right (by decide) (by omega)
  omega
def Pb.B (P : Pb) (s : Nat) : Nat := P.bh (P.n - popN P.n s) s
def Pb.W (P : Pb) (s : Nat) : Nat := P.wy (P.n - popN P.n s) s
theorem bh_lt (P : Pb) (m s : Nat) : P.bh m s ≤ NW := lmin_led _ _
theorem tryNext_eq {P : Pb} {S : XSt} (hC : CP P S) {s i b w : Nat} (hs : s < 2 ^ P.n) (hi : i < P.n) (hst : S 18 (s * 8 + i) = stI P s i)
    (hnx : P.ok s i = true → S 20 (s ||| 2 ^ i) = nI (P.B (s ||| 2 ^ i)) ∧ S 21 (s ||| 2 ^ i) = nI (P.W (s ||| 2 ^ i))) (hb : S 20 s = nI b) (hw : S 21 s = nI w) (hbl : b ≤ NW) (hwl : w ≤ 8 ^ 8) :
    ∃ S' : XSt, F_X3_tryNext S (nI s) (nI i) = some S' ∧ (∀ q j, ¬ ((q = 20 ∨ q = 21) ∧ j = s) → S' q j = S q j) ∧ (S' 20 s, S' 21 s) = (if P.ok s i = true then (nI (nxB b w (P.B (s ||| 2 ^ i) + P.ct s i) (P.W (s ||| 2 ^ i))).1, nI (nxB b w (P.B (s ||| 2 ^ i) + P.ct s i) (P.W (s ||| 2 ^ i))).2) else (nI b, nI w)) := by
  have hn := hC.1.1
  have hN := two8 hn
  have hNW : NW = 1000000 := rfl
  have h88 : 8 ^ 8 = 16777216 := by decide
  unfold F_X3_tryNext
  rw [nI_8, if_pos (xin_nI (by omega) (by decide)), xti_nI (by omega), hst]
  simp only [xlet]
  by_cases ho : P.ok s i = true
  · have hor : s ||| 2 ^ i < 2 ^ P.n := Nat.or_lt_two_pow hs (two_lt hi)
    obtain ⟨n1, n2⟩ := hnx ho
    have hwg : F_X5_weigh S (stI P s i) = nI (P.ct s i) := by
      unfold stI; rw [if_pos ho]; exact hC.2.2.2.2.2.1 _ (stp_lt hC.1 s i)
    rw [if_neg (fun q => (stI_no hC.1).mp q ho), nI_shl1 (by omega), nI_or, if_pos (xin_nI (by omega) (by decide)), if_pos (xin_nI (by omega) (by decide)), xti_nI (show s ||| 2 ^ i < 2 ^ 31 by omega), n1, n2, hwg, nI_add, if_pos ho]
    have l1 : P.B (s ||| 2 ^ i) ≤ NW := bh_lt P _ _
    have l2 := ct_le hC.1 s i
    have l3 : P.W (s ||| 2 ^ i) ≤ 8 ^ 8 := wy_lt P hn (by omega)
    have lg : P.B (s ||| 2 ^ i) + P.ct s i ≤ NW + 30 := by omega
    generalize P.B (s ||| 2 ^ i) + P.ct s i = g at *
    generalize P.W (s ||| 2 ^ i) = v at *
    unfold nxB
    by_cases hv : v = 0
    · rw [if_pos (by rw [nI_z (by omega)]; exact hv), if_pos (Or.inl hv)]
      exact ⟨S, rfl, fun _ _ _ => rfl, by rw [hb, hw]⟩
    · rw [if_neg (by rw [nI_z (by omega)]; exact hv), if_pos (xin_nI (by omega) (by decide)), xti_nI (show s < 2 ^ 31 by omega), hb]
      by_cases hgb : b < g
      · rw [if_neg (fun q => absurd ((nI_leI (by omega) (by omega)).mp q) (by omega)), if_pos (Or.inr hgb)]
        exact ⟨S, rfl, fun _ _ _ => rfl, by rw [hb, hw]⟩
      · rw [if_pos ((nI_leI (by omega) (by omega)).mpr (by omega)), if_pos (xin_nI (by omega) (by decide)), if_neg (show ¬ (v = 0 ∨ b < g) from fun q => q.elim hv hgb)]
        have fin : ∀ x : Nat, ∃ S' : XSt, (if xin (nI s) 256 = true then (if xin (nI s) 256 = true then some (xst (xst S 21 s (nI x)) 20 s (nI g)) else none) else none) = some S' ∧ (∀ q j, ¬ ((q = 20 ∨ q = 21) ∧ j = s) → S' q j = S q j) ∧ (S' 20 s, S' 21 s) = (nI g, nI x) := by
          intro x
          rw [if_pos (xin_nI (by omega) (by decide)), if_pos (xin_nI (by omega) (by decide))]
          refine ⟨_, rfl, fun q j hq => ?_, ?_⟩
          · by_cases e1 : q = 20
            · subst e1
              have ej : j ≠ s := fun e => hq ⟨Or.inl rfl, e⟩
              rw [xst_idx _ _ _ ej, xst_ne _ _ _ (by decide)]
            · rw [xst_ne _ _ _ e1]
              by_cases e2 : q = 21
              · subst e2
                have ej : j ≠ s := fun e => hq ⟨Or.inr rfl, e⟩
                rw [xst_idx _ _ _ ej]
              · rw [xst_ne _ _ _ e2]
          · rw [xst_same, xst_ne _ _ _ (by decide), xst_same]
        by_cases hlt : g < b
        · rw [if_neg (fun q => absurd ((nI_leI (by omega) (by omega)).mp q) (by omega)), if_pos (xin_nI (by omega) (by decide)), if_pos hlt]
          exact fin v
        · rw [if_pos ((nI_leI (by omega) (by omega)).mpr (by omega)), if_pos (xin_nI (by omega) (by decide)), if_pos (xin_nI (by omega) (by decide)), if_neg hlt, hw, nI_add]
          exact fin (w + v)
  · rw [if_pos ((stI_no hC.1).mpr ho), if_neg ho]
    exact ⟨S, rfl, fun _ _ _ => rfl, by rw [hb, hw]⟩
