/-! FRESH: a new grave at a place of the first row -/
def insL (P : Pb) (f : List Nat) (K pl : Nat) : List (Nat × Bool) := (P.rwl f).take pl ++ (K, false) :: (P.rwl f).drop pl
section FS
variable {P : Pb} {S : XSt} {U : XSr} {f : List Nat} {K pl : Nat}
theorem ins_len (hl : f.length = P.n) (hp : pl ≤ P.n) : (insL P f K pl).length = P.n + 1 := by
  unfold insL
  rw [List.length_append, List.length_cons, List.length_take, List.length_drop, rwl_len, hl]; omega
theorem lx_app {l m : List (Nat × Bool)} {i : Nat} (h : i < l.length) : lx (l ++ m) i = lx l i := by
  unfold lx
  rw [List.getD_eq_getElem?_getD, List.getD_eq_getElem?_getD, List.getElem?_append_left h]
theorem lx_right {l m : List (Nat × Bool)} {i : Nat} (h : l.length ≤ i) : lx (l ++ m) i = lx m (i - l.length) := by
  unfold lx
  rw [List.getD_eq_getElem?_getD, List.getD_eq_getElem?_getD, List.getElem?_append_right h]
theorem lx_cons (x : Nat × Bool) (l : List (Nat × Bool)) (i : Nat) : lx (x :: l) (i + 1) = lx l i := rfl
theorem lx_tk (l : List (Nat × Bool)) {i j : Nat} (h : j < i) (hi : i ≤ l.length) : lx (l.take i) j = lx l j := by
  have h1 := lx_app (l := l.take i) (m := l.drop i) (i := j) (by rw [List.length_take]; omega)
  rw [List.take_append_drop] at h1
  exact h1.symm
theorem lx_dp (l : List (Nat × Bool)) {i j : Nat} (hi : i ≤ l.length) : lx (l.drop i) j = lx l (i + j) := by
  have h1 := lx_right (l := l.take i) (m := l.drop i) (i := i + j) (by rw [List.length_take]; omega)
  rw [List.take_append_drop, List.length_take, show i + j - min i l.length = j by omega] at h1
  exact h1.symm
theorem ins_lx (hl : f.length = P.n) (hp : pl ≤ P.n) {q : Nat} (hq : q ≤ P.n) : lx (insL P f K pl) q = if q < pl then (P.kd (ix f q), P.rb.testBit (ix f q)) else if q = pl then (K, false) else (P.kd (ix f (q - 1)), P.rb.testBit (ix f (q - 1))) := by
  have htl : ((P.rwl f).take pl).length = pl := by rw [List.length_take, rwl_len, hl]; omega
  unfold insL
  by_cases h1 : q < pl
  · rw [if_pos h1, lx_app (by omega), lx_tk _ h1 (by rw [rwl_len]; omega), rwl_lx (by omega)]
  · rw [if_neg h1, lx_right (by omega), htl]
    by_cases h2 : q = pl
    · rw [if_pos h2, h2, Nat.sub_self]; rfl
    · obtain ⟨j, hj⟩ : ∃ j, q - pl = j + 1 := ⟨q - pl - 1, by omega⟩
      rw [if_neg h2, hj, lx_cons, lx_dp _ (by rw [rwl_len]; omega), show pl + j = q - 1 by omega, rwl_lx (by omega)]
def plc (pl i : Nat) : Nat := if i < pl then i else i + 1
theorem gapsWithC (hC : CP P S) (h22 : ∀ i, i < P.n → S 22 i = nI (ix f i)) (hl : f.length = P.n) (hlt : ∀ i, i < P.n → ix f i < P.n) (hK : K < 2 ^ 10) (hp : pl ≤ P.n) : ∃ S' : XSt, F_X1_gapsWith S (nI K) (nI pl) = some (nI (lcost P.w 0 (insL P f K pl)), S') ∧ ∀ q, q ≠ 28 → S' q = S q := by
  have hn := hC.1.1
  unfold F_X1_gapsWith
  refine xlp_Q (Q := fun o => ∃ S' : XSt, o = some (nI (lcost P.w 0 (insL P f K pl)), S') ∧ ∀ q, q ≠ 28 → S' q = S q) (I := fun j t => ∃ S' : XSt, t = (nI (orN (fun i => if rf P f i = true then 2 ^ plc pl i else 0) j), nI j, S') ∧ (∀ q, q ≠ 28 → S' q = S q) ∧ ∀ i, i < j → S' 28 (plc pl i) = nI (P.kd (ix f i))) 0 P.n (by omega) (by omega) ⟨S, rfl, fun _ _ => rfl, fun i hi => by omega⟩ ?_ ?_
  · rintro j _ rc - hj ⟨S', rfl, hfr, hce⟩
    right
    have hC' : CP P S' := hC.keep (hfr 1 (by decide)) (hfr 7 (by decide)) (hfr 8 (by decide)) (hfr 9 (by decide)) (hfr 10 (by decide))
    have h22' : ∀ i, i < P.n → S' 22 i = nI (ix f i) := fun i hi => by rw [hfr 22 (by decide)]; exact h22 i hi
    have hg := hlt j hj
    have hkd := (hC'.2.2.2.2.1 (ix f j) (by omega)).2.2.2.2.2.2
    have hpl9 : plc pl j < 9 := by unfold plc; by_cases h : j < pl <;> simp [h] <;> omega
    have hW : ∀ v, CP P (xst S' 28 (plc pl j) v) ∧ ∀ i, i < P.n → (xst S' 28 (plc pl j) v) 22 i = nI (ix f i) := fun v => ⟨hC'.keep (xst_ne _ _ _ (by decide)) (xst_ne _ _ _ (by decide)) (xst_ne _ _ _ (by decide)) (xst_ne _ _ _ (by decide)) (xst_ne _ _ _ (by decide)), fun i hi => by rw [xst_ne _ _ _ (by decide)]; exact h22' i hi⟩
    have hB : B_X1_gapsWith_5 (nI K) (nI pl) (fun e12 => (if xin (nI pl) 9 = true then (xlet (xst e12.2 28 (xti (nI pl)) (nI K)) fun S14 => ((F_X1_gapsAsLaid S14 ((S14 1 4) + (1 : Int32)) e12.1).bind fun z15 => (some (z15, S14)))) else none)) rc (nI (orN (fun i => if rf P f i = true then 2 ^ plc pl i else 0) j)) (nI j) S' = rc (nI (orN (fun i => if rf P f i = true then 2 ^ plc pl i else 0) (j + 1)), nI (j + 1), xst S' 28 (plc pl j) (nI (P.kd (ix f j)))) := by
      have key : ∀ t : Nat, t = plc pl j → (if xin (nI j) 8 = true then (if xin (S' 22 (xti (nI j))) 8 = true then (if xin (nI t) 9 = true then ((F_X1_robbedAt (xst S' 28 (xti (nI t)) (S' 10 (xti (S' 22 (xti (nI j)))))) (nI j)).bind fun z7 => (if z7 = 0 then rc (nI (orN (fun i => if rf P f i = true then 2 ^ plc pl i else 0) j) ||| 0, nI j + 1, xst S' 28 (xti (nI t)) (S' 10 (xti (S' 22 (xti (nI j)))))) else rc (nI (orN (fun i => if rf P f i = true then 2 ^ plc pl i else 0) j) ||| (1 : Int32) <<< (nI t &&& 31), nI j + 1, xst S' 28 (xti (nI t)) (S' 10 (xti (S' 22 (xti (nI j)))))))) else none) else none) else none) = rc (nI (orN (fun i => if rf P f i = true then 2 ^ plc pl i else 0) (j + 1)), nI (j + 1), xst S' 28 (plc pl j) (nI (P.kd (ix f j)))) := by
        intro t ht
        subst ht
        rw [if_pos (xin_nI (by omega) (by decide)), xti_nI (by omega), h22' j hj, if_pos (xin_nI (by omega) (by decide)), xti_nI (by omega), if_pos (xin_nI hpl9 (by decide)), xti_nI (by omega), hkd, robAt_eq (hW _).1 (hW _).2 hlt hj, Option.bind_some]
        have es : orN (fun i => if rf P f i = true then 2 ^ plc pl i else 0) (j + 1) = orN (fun i => if rf P f i = true then 2 ^ plc pl i else 0) j ||| (if rf P f j = true then 2 ^ plc pl j else 0) := rfl
        rw [es, nI_1]
        by_cases hr : rf P f j = true
        · rw [if_pos hr, if_neg i10, nI_shl1 (by omega), nI_or, if_pos hr]
        · rw [if_neg hr, if_pos rfl, if_neg hr, show (0 : Int32) = nI 0 from nI_0.symm, nI_or]
      unfold B_X1_gapsWith_5
      rw [hC'.2.1, if_neg (fun q => absurd ((nI_leI (by omega) (by omega)).mp q) (by omega))]
      simp only [xlet_eq]
      by_cases h : j < pl
      · rw [if_neg (fun q => absurd ((nI_leI (by omega) (by omega)).mp q) (by omega))]
        exact key j (by unfold plc; rw [if_pos h])
      · rw [if_pos ((nI_leI (by omega) (by omega)).mpr (by omega)), nI_1]
        have := key (j + 1) (by unfold plc; rw [if_neg h])
        rw [nI_1] at this
        exact this
    refine ⟨_, ⟨_, rfl, fun q hq => ?_, fun i hi => ?_⟩, hB⟩
    · rw [xst_ne _ _ _ hq]; exact hfr q hq
    · rw [xst_at]
      by_cases e : i = j
      · rw [if_pos (by rw [e]), e]
      · have : plc pl i ≠ plc pl j := by
          unfold plc
          by_cases h1 : i < pl <;> by_cases h2 : j < pl <;> simp [h1, h2] <;> omega
        rw [if_neg this]; exact hce i (by omega)
  · rintro _ rc ⟨S', rfl, hfr, hce⟩
    have h14 : S' 1 4 = nI P.n := by rw [hfr 1 (by decide)]; exact hC.2.1
    refine ⟨xst S' 28 pl (nI K), ?_, fun q hq => by rw [xst_ne _ _ _ hq]; exact hfr q hq⟩
    have hC' : CP P (xst S' 28 pl (nI K)) := hC.keep (by rw [xst_ne _ _ _ (by decide)]; exact hfr 1 (by decide)) (by rw [xst_ne _ _ _ (by decide)]; exact hfr 7 (by decide)) (by rw [xst_ne _ _ _ (by decide)]; exact hfr 8 (by decide)) (by rw [xst_ne _ _ _ (by decide)]; exact hfr 9 (by decide)) (by rw [xst_ne _ _ _ (by decide)]; exact hfr 10 (by decide))
    have hlen := ins_len (K := K) hl hp
    have hol : orN (fun i => if rf P f i = true then 2 ^ plc pl i else 0) P.n < 2 ^ 31 := Nat.lt_of_lt_of_le (orN_lt (k := 9) (fun i hi => by
      show (if rf P f i = true then 2 ^ plc pl i else 0) < 2 ^ 9
      by_cases hr : rf P f i = true
      · rw [if_pos hr]
        refine two_lt ?_
        unfold plc
        by_cases h : i < pl <;> simp [h] <;> omega
      · rw [if_neg hr]; decide)) (by decide)
    have hLD : LD (insL P f K pl) (orN (fun i => if rf P f i = true then 2 ^ plc pl i else 0) P.n) (xst S' 28 pl (nI K)) := by
      refine ⟨by omega, hol, fun q hq => ?_⟩
      rw [hlen] at hq
      have hlx := ins_lx (K := K) hl hp (q := q) (by omega)
      have hbit : ∀ i, i < P.n → q = plc pl i → (orN (fun i => if rf P f i = true then 2 ^ plc pl i else 0) P.n).testBit q = rf P f i := by
        intro i hi hqi
        cases hr : rf P f i with
        | true =>
          refine (orN_bit _ _ _).mpr ⟨i, hi, ?_⟩
          show (if rf P f i = true then 2 ^ plc pl i else 0).testBit q = true
          rw [if_pos hr, Nat.testBit_two_pow, hqi]; simp
        | false =>
          cases hc : (orN (fun i => if rf P f i = true then 2 ^ plc pl i else 0) P.n).testBit q with
          | false => rfl
          | true =>
            obtain ⟨i', hi', hb⟩ := (orN_bit _ _ _).mp hc
            have hb' : (if rf P f i' = true then 2 ^ plc pl i' else 0).testBit q = true := hb
            by_cases hr' : rf P f i' = true
            · rw [if_pos hr', Nat.testBit_two_pow, decide_eq_true_eq, hqi] at hb'
              have : i' = i := by
                unfold plc at hb'
                by_cases h1 : i' < pl <;> by_cases h2 : i < pl <;> simp [h1, h2] at hb' <;> omega
              rw [this, hr] at hr'; cases hr'
            · rw [if_neg hr'] at hb'; simp at hb'
      rw [hlx]
      by_cases h1 : q < pl
      · rw [if_pos h1, xst_idx _ _ _ (by omega)]
        have hq1 : plc pl q = q := if_pos h1
        have := hce q (by omega)
        rw [hq1] at this
        exact ⟨this, hC.1.2.1 _, hbit q (by omega) hq1.symm⟩
      · rw [if_neg h1]
        by_cases h2 : q = pl
        · rw [if_pos h2, h2, xst_same]
          refine ⟨rfl, hK, ?_⟩
          cases hc : (orN (fun i => if rf P f i = true then 2 ^ plc pl i else 0) P.n).testBit pl with
          | false => rfl
          | true =>
            obtain ⟨i', hi', hb⟩ := (orN_bit _ _ _).mp hc
            have hb' : (if rf P f i' = true then 2 ^ plc pl i' else 0).testBit pl = true := hb
            by_cases hr' : rf P f i' = true
            · rw [if_pos hr', Nat.testBit_two_pow, decide_eq_true_eq] at hb'
              unfold plc at hb'
              by_cases h1 : i' < pl <;> simp [h1] at hb' <;> omega
            · rw [if_neg hr'] at hb'; simp at hb'
        · rw [if_neg h2, xst_idx _ _ _ h2]
          have hq1 : plc pl (q - 1) = q := by unfold plc; rw [if_neg (by omega)]; omega
          have := hce (q - 1) (by omega)
          rw [hq1] at this
          exact ⟨this, hC.1.2.1 _, hbit (q - 1) (by omega) hq1.symm⟩
    have hla := laid_eq (P := P) hC'.2.2.2.2.2.1 hLD
    rw [hlen] at hla
    show B_X1_gapsWith_5 (nI K) (nI pl) _ rc _ (nI P.n) S' = _
    unfold B_X1_gapsWith_5
    rw [h14, if_pos ((nI_leI (by omega) (by omega)).mpr (Nat.le_refl _))]
    show (if xin (nI pl) 9 = true then (xlet (xst S' 28 (xti (nI pl)) (nI K)) fun S14 => ((F_X1_gapsAsLaid S14 ((S14 1 4) + (1 : Int32)) _).bind fun z15 => (some (z15, S14)))) else none) = _
    rw [if_pos (xin_nI (by omega) (by decide)), xlet_eq, xti_nI (by omega), xst_ne _ _ _ (by decide : (1 : Nat) ≠ 28), h14, nI_1, hla]
    rfl
end FS
