/-- two loops side by side -/
theorem xlp_sim {τ1 τ2 ε1 ε2 ρ1 ρ2 : Type} {Bd1 : (ε1 → Option ρ1) → (τ1 → Option ρ1) → τ1 → Option ρ1} {k1 : ε1 → Option ρ1} {Bd2 : (ε2 → Option ρ2) → (τ2 → Option ρ2) → τ2 → Option ρ2} {k2 : ε2 → Option ρ2} (I : Nat → τ1 → τ2 → Prop) (E : ε1 → ε2 → Prop)
    (hs : ∀ (m : Nat) (t1 : τ1) (t2 : τ2) (rc1 : τ1 → Option ρ1) (rc2 : τ2 → Option ρ2), I m t1 t2 → (∃ e1 e2, E e1 e2 ∧ Bd1 k1 rc1 t1 = k1 e1 ∧ Bd2 k2 rc2 t2 = k2 e2) ∨ (∃ m' t1' t2', m' < m ∧ I m' t1' t2' ∧ Bd1 k1 rc1 t1 = rc1 t1' ∧ Bd2 k2 rc2 t2 = rc2 t2')) :
    ∀ (m : Nat) (t1 : τ1) (t2 : τ2), I m t1 t2 → ∀ n1 n2, m < n1 → m < n2 → ∃ e1 e2, E e1 e2 ∧ xlp Bd1 k1 n1 t1 = k1 e1 ∧ xlp Bd2 k2 n2 t2 = k2 e2 := by
  intro m
  induction m using Nat.strongRecOn with
  | _ m ih =>
    intro t1 t2 ht n1 n2 h1 h2
    obtain ⟨n1, rfl⟩ : ∃ n', n1 = n' + 1 := ⟨n1 - 1, by omega⟩
    obtain ⟨n2, rfl⟩ : ∃ n', n2 = n' + 1 := ⟨n2 - 1, by omega⟩
    rcases hs m t1 t2 (xloop (Bd1 k1) n1) (xloop (Bd2 k2) n2) ht with ⟨e1, e2, hE, q1, q2⟩ | ⟨m', t1', t2', hm, hI, q1, q2⟩
    · exact ⟨e1, e2, hE, q1, q2⟩
    · obtain ⟨e1, e2, hE, r1, r2⟩ := ih m' hm t1' t2' hI n1 n2 (by omega) (by omega)
      exact ⟨e1, e2, hE, q1.trans r1, q2.trans r2⟩
theorem ones_eq (U : XSr) {m : Nat} (hm : m < 2 ^ 31) : F_X7_ones U (nI m) = some (nI (popN 12 m)) := by
  unfold F_X7_ones
  obtain ⟨e, he, h1⟩ := xlp_for (Bd := fun k rc t => B_X7_ones_4 U (nI m) k rc t.1 t.2) (k := fun e3 => some e3) (fun r t => ∃ j, j + r = 12 ∧ t = (nI (popN j m), nI j)) (fun e => e = nI (popN 12 m)) (by
    intro r t rc ht
    obtain ⟨j, hj, rfl⟩ := ht
    by_cases hj8 : j = 12
    · refine Or.inl ⟨nI (popN j m), by rw [hj8], ?_⟩
      show B_X7_ones_4 U (nI m) _ rc (nI (popN j m)) (nI j) = _
      unfold B_X7_ones_4
      rw [if_pos (show (12 : Int32) ≤ nI j from nI_le (a := 12) (by omega) (by omega))]
    · refine Or.inr ⟨r - 1, (nI (popN (j + 1) m), nI (j + 1)), by omega, ⟨j + 1, by omega, rfl⟩, ?_⟩
      show B_X7_ones_4 U (nI m) _ rc (nI (popN j m)) (nI j) = _
      unfold B_X7_ones_4
      rw [if_neg (show ¬ (12 : Int32) ≤ nI j from nI_ge (b := 12) (by omega) (by decide)), nI_bit hm (by omega)]
      simp only [xlet]
      rw [nI_add, nI_1]; rfl) (m := 12) (t := (0, 0)) ⟨0, rfl, rfl⟩ (n := XFU) (by rw [XFU_eq]; omega)
  rw [h1, he]
theorem popN_12 {m : Nat} (hm : m < 2 ^ 10) : popN 12 m = popN 10 m := by
  show popN 10 m + (m.testBit 10).toNat + (m.testBit 11).toNat = popN 10 m
  rw [Nat.testBit_lt_two_pow (i := 10) hm, Nat.testBit_lt_two_pow (i := 11) (Nat.lt_of_lt_of_le hm (by decide))]; rfl
theorem is_eq {m g : Nat} (hm : m < 2 ^ 31) (hg : g < 31) : F_X7_is (nI m) (nI g) = nI (m.testBit g).toNat := by
  unfold F_X7_is
  by_cases h : m.testBit g = true
  · rw [if_pos ((nI_bit1 hm hg).mpr h), h]; rfl
  · rw [if_neg (fun q => h ((nI_bit1 hm hg).mp q))]
    rw [Bool.not_eq_true] at h
    rw [h]; rfl
theorem weightOf_eq {U : XSr} (hw : ∀ k, k < 10 → bd (U.1 3 k) 3) {m : Nat} (hm : m < 2 ^ 31) : F_X7_weightOf U (nI m) = some (nI (wsum (wtU U) 10 m)) := by
  unfold F_X7_weightOf
  obtain ⟨e, he, h1⟩ := xlp_for (Bd := fun k rc t => B_X7_weightOf_4 U (nI m) k rc t.1 t.2) (k := fun e3 => some e3) (fun r t => ∃ j, j + r = 10 ∧ t = (nI (wsum (wtU U) j m), nI j)) (fun e => e = nI (wsum (wtU U) 10 m)) (by
    intro r t rc ht
    obtain ⟨j, hj, rfl⟩ := ht
    by_cases hj8 : j = 10
    · refine Or.inl ⟨nI (wsum (wtU U) j m), by rw [hj8], ?_⟩
      show B_X7_weightOf_4 U (nI m) _ rc (nI (wsum (wtU U) j m)) (nI j) = _
      unfold B_X7_weightOf_4
      rw [if_pos (show (10 : Int32) ≤ nI j from nI_le (a := 10) (by omega) (by omega))]
    · refine Or.inr ⟨r - 1, (nI (wsum (wtU U) (j + 1) m), nI (j + 1)), by omega, ⟨j + 1, by omega, rfl⟩, ?_⟩
      show B_X7_weightOf_4 U (nI m) _ rc (nI (wsum (wtU U) j m)) (nI j) = _
      unfold B_X7_weightOf_4
      rw [if_neg (show ¬ (10 : Int32) ≤ nI j from nI_ge (b := 10) (by omega) (by decide)), is_eq hm (by omega)]
      simp only [xlet]
      have es : wsum (wtU U) (j + 1) m = wsum (wtU U) j m + (if m.testBit j = true then wtU U j else 0) := rfl
      by_cases h : m.testBit j = true
      · rw [h, if_neg (by decide), if_pos (xin_nI (by omega) (by decide)), xti_nI (by omega), (hw j (by omega)).1, nI_add, nI_1, es, if_pos h]; rfl
      · rw [Bool.not_eq_true] at h
        rw [h, if_pos (by decide), nI_1, es, h, show (0 : Int32) = nI 0 from rfl, nI_add]; rfl) (m := 10) (t := (0, 0)) ⟨0, rfl, rfl⟩ (n := XFU) (by rw [XFU_eq]; omega)
  rw [h1, he]
def orN (f : Nat → Nat) : Nat → Nat
  | 0 => 0
  | n + 1 => orN f n ||| f n
def smN (f : Nat → Nat) : Nat → Nat
  | 0 => 0
  | n + 1 => smN f n + f n
theorem orN_lt {f : Nat → Nat} {n k : Nat} (h : ∀ g, g < n → f g < 2 ^ k) : orN f n < 2 ^ k := by
  induction n with
  | zero => exact Nat.pow_pos (by decide)
  | succ n ih => exact Nat.or_lt_two_pow (ih (fun g hg => h g (by omega))) (h n (by omega))
/-- kinds of graves, as numbers -/
def kdS (S : XSt) : Nat → Nat := fun g => xti (S 10 g)
theorem kinds_bd {S : XSt} {U : XSr} (hF : IvF S U) (hK : IvK S) {g : Nat} (hg : g < 8) : S 10 g = nI (kdS S g) ∧ kdS S g < 2 ^ 10 := by
  have hl : layS S g < 2 ^ 10 := layN_lt (fun i hi => by have h60 : i < 60 := (by have := hF.1.2; omega); have := (hF.2.2.1 i h60).2.2.2.2.2.2.1.2; omega) g
  have e : kdS S g = layS S g := by unfold kdS; rw [hK g hg, xti_nI (by omega)]
  rw [e]; exact ⟨hK g hg, hl⟩
theorem kindsOfAll_eq {S : XSt} {n : Nat} (hn : S 1 4 = nI n) (hn8 : n ≤ 8) (hk : ∀ g, g < 8 → S 10 g = nI (kdS S g)) : F_X5_kindsOfAll S = some (nI (orN (kdS S) n)) := by
  unfold F_X5_kindsOfAll
  obtain ⟨e, he, h1⟩ := xlp_for (Bd := fun k rc t => B_X5_kindsOfAll_4 S k rc t.1 t.2) (k := fun e3 => some e3) (fun r t => ∃ j, j + r = n ∧ t = (nI (orN (kdS S) j), nI j)) (fun e => e = nI (orN (kdS S) n)) (by
    intro r t rc ht
    obtain ⟨j, hj, rfl⟩ := ht
    by_cases hj8 : j = n
    · refine Or.inl ⟨nI (orN (kdS S) j), by rw [hj8], ?_⟩
      show B_X5_kindsOfAll_4 S _ rc (nI (orN (kdS S) j)) (nI j) = _
      unfold B_X5_kindsOfAll_4
      rw [hn, if_pos (nI_le (by omega) (by omega))]
    · refine Or.inr ⟨r - 1, (nI (orN (kdS S) (j + 1)), nI (j + 1)), by omega, ⟨j + 1, by omega, rfl⟩, ?_⟩
      show B_X5_kindsOfAll_4 S _ rc (nI (orN (kdS S) j)) (nI j) = _
      unfold B_X5_kindsOfAll_4
      rw [hn, if_neg (nI_ge (by omega) (by omega)), if_pos (xin_nI (by omega) (by decide))]
      simp only [xlet]
      rw [xti_nI (by omega), hk j (by omega), nI_or, nI_1]; rfl) (m := n) (t := (0, 0)) ⟨0, by omega, rfl⟩ (n := XFU) (by rw [XFU_eq]; omega)
  rw [h1, he]
theorem allFinds_eq {S : XSt} {n : Nat} (hn : S 1 4 = nI n) (hn8 : n ≤ 8) (hk : ∀ g, g < 8 → S 10 g = nI (kdS S g) ∧ kdS S g < 2 ^ 10) : F_X5_allFinds S = some (nI (smN (fun g => popN 10 (kdS S g)) n)) := by
  unfold F_X5_allFinds
  obtain ⟨e, he, h1⟩ := xlp_for (Bd := fun k rc t => B_X5_allFinds_4 S k rc t.1 t.2) (k := fun e3 => some e3) (fun r t => ∃ j, j + r = n ∧ t = (nI (smN (fun g => popN 10 (kdS S g)) j), nI j)) (fun e => e = nI (smN (fun g => popN 10 (kdS S g)) n)) (by
    intro r t rc ht
    obtain ⟨j, hj, rfl⟩ := ht
    by_cases hj8 : j = n
    · refine Or.inl ⟨nI (smN (fun g => popN 10 (kdS S g)) j), by rw [hj8], ?_⟩
      show B_X5_allFinds_4 S _ rc (nI (smN (fun g => popN 10 (kdS S g)) j)) (nI j) = _
      unfold B_X5_allFinds_4
      rw [hn, if_pos (nI_le (by omega) (by omega))]
    · refine Or.inr ⟨r - 1, (nI (smN (fun g => popN 10 (kdS S g)) (j + 1)), nI (j + 1)), by omega, ⟨j + 1, by omega, rfl⟩, ?_⟩
      show B_X5_allFinds_4 S _ rc (nI (smN (fun g => popN 10 (kdS S g)) j)) (nI j) = _
      unfold B_X5_allFinds_4
      rw [hn, if_neg (nI_ge (by omega) (by omega)), if_pos (xin_nI (by omega) (by decide))]
      simp only [xlet]
      rw [xti_nI (by omega), (hk j (by omega)).1, bitCount_10 _ (hk j (by omega)).2, nI_add, nI_1]; rfl) (m := n) (t := (0, 0)) ⟨0, by omega, rfl⟩ (n := XFU) (by rw [XFU_eq]; omega)
  rw [h1, he]
theorem countNow_a {U : XSr} {n : Nat} (kd : Nat → Nat) (hn : U.1 0 0 = nI n) (hn8 : n ≤ 8) (hk : ∀ g, g < n → U.1 14 g = nI (kd g) ∧ kd g < 2 ^ 10) (x1 : Int32) (k : Int32 × Int32 → Option (Int32 × XSr)) : xlp (fun k rc t => B_X7_countNow_11 U x1 k rc t.1 t.2.1 t.2.2) k XFU (0, 0, 0) = k (nI (orN kd n), nI (smN (fun g => popN 10 (kd g)) n)) := by
  obtain ⟨e, he, h1⟩ := xlp_for (Bd := fun k rc t => B_X7_countNow_11 U x1 k rc t.1 t.2.1 t.2.2) (k := k) (fun r t => ∃ j, j + r = n ∧ t = (nI (orN kd j), nI (smN (fun g => popN 10 (kd g)) j), nI j)) (fun e => e = (nI (orN kd n), nI (smN (fun g => popN 10 (kd g)) n))) (by
    intro r t rc ht
    obtain ⟨j, hj, rfl⟩ := ht
    by_cases hj8 : j = n
    · refine Or.inl ⟨(nI (orN kd j), nI (smN (fun g => popN 10 (kd g)) j)), by rw [hj8], ?_⟩
      show B_X7_countNow_11 U x1 _ rc (nI (orN kd j)) (nI (smN (fun g => popN 10 (kd g)) j)) (nI j) = _
      unfold B_X7_countNow_11
      rw [hn, if_pos (nI_le (by omega) (by omega))]
    · refine Or.inr ⟨r - 1, (nI (orN kd (j + 1)), nI (smN (fun g => popN 10 (kd g)) (j + 1)), nI (j + 1)), by omega, ⟨j + 1, by omega, rfl⟩, ?_⟩
      show B_X7_countNow_11 U x1 _ rc (nI (orN kd j)) (nI (smN (fun g => popN 10 (kd g)) j)) (nI j) = _
      obtain ⟨k1, k2⟩ := hk j (by omega)
      unfold B_X7_countNow_11
      rw [hn, if_neg (nI_ge (by omega) (by omega)), if_pos (xin_nI (by omega) (by decide))]
      simp only [xlet]
      rw [if_pos (xin_nI (by omega) (by decide)), xti_nI (by omega), k1, ones_eq U (by omega), popN_12 k2, Option.bind_some]
      rw [nI_or, nI_add, nI_1]; rfl) (m := n) (t := (0, 0, 0)) ⟨0, by omega, rfl⟩ (n := XFU) (by rw [XFU_eq]; omega)
  rw [h1, he]
theorem orN_congr {f g : Nat → Nat} {n : Nat} (h : ∀ i, i < n → f i = g i) : orN f n = orN g n := by
  induction n with
  | zero => rfl
  | succ n ih => show orN f n ||| f n = orN g n ||| g n; rw [ih (fun i hi => h i (by omega)), h n (by omega)]
section Ops
variable {SC : XSt → Prop} {WR : XSr → Prop}
theorem st_count (hSC : SCok SC) (hWR : WRok WR) : St_count (Inv SC WR) := by
  intro S U x1 hI
  have hI0 := hI
  obtain ⟨⟨hY1, hY2, hY3, hY4, hY5⟩, hW, ⟨hO1, hO2, hO3, hO4⟩, ⟨hL1, hL2, hL3⟩, hF, ⟨hA1, hA2, hA3⟩, hK, hS, hC, hR⟩ := hI
  unfold F_X6_count F_X7_count
  by_cases h0 : x1 = 0
  · rw [if_pos h0, if_pos h0]; exact ⟨_, _, rfl, by rw [hY2], hI0⟩
  rw [if_neg h0, if_neg h0]
  by_cases h1 : x1 = 1
  · rw [if_pos h1, if_pos h1]; exact ⟨_, _, rfl, by rw [hF.2.1], hI0⟩
  rw [if_neg h1, if_neg h1]
  obtain ⟨U', e1, hI', h14, hq, h2'⟩ := lays_eq hI0
  have hkb : ∀ g, g < 8 → S 10 g = nI (kdS S g) ∧ kdS S g < 2 ^ 10 := fun g hg => kinds_bd hF hK hg
  have hn : S 1 4 = nI (xti (S 1 4)) := hY1.1
  have cN := fun k => countNow_a (U := U') (n := xti (S 1 4)) (kdS S) (by rw [hq 0 (by decide), ← hY2]; exact hn) hY1.2 (fun g hg => by rw [h14 g hg]; exact hkb g (by have := hY1.2; omega)) x1 k
  by_cases h2 : x1 = 2
  · rw [if_pos h2, if_pos h2, kindsOfAll_eq hn hY1.2 (fun g hg => (hkb g hg).1)]
    unfold F_X7_countNow
    rw [e1, Option.bind_some, Option.bind_some, cN, if_pos h2, Option.bind_some]
    exact ⟨_, _, rfl, rfl, hI'⟩
  rw [if_neg h2, if_neg h2]
  by_cases h3 : x1 = 3
  · rw [if_pos h3, if_pos h3, allFinds_eq hn hY1.2 hkb]
    unfold F_X7_countNow
    rw [e1, Option.bind_some, Option.bind_some, cN, if_neg h2, Option.bind_some]
    exact ⟨_, _, rfl, rfl, hI'⟩
  rw [if_neg h3, if_neg h3]
  by_cases h4 : x1 = 4
  · rw [if_pos h4, if_pos h4]; exact ⟨_, _, rfl, by rw [hO2], hI0⟩
  rw [if_neg h4, if_neg h4]
  by_cases h5 : x1 = 5
  · rw [if_pos h5, if_pos h5]; exact ⟨_, _, rfl, by rw [hL2], hI0⟩
  rw [if_neg h5, if_neg h5]
  by_cases h6 : x1 = 6
  · rw [if_pos h6, if_pos h6]; exact ⟨_, _, rfl, by rw [hA2], hI0⟩
  rw [if_neg h6, if_neg h6]
  by_cases h7 : x1 = 7
  · rw [if_pos h7, if_pos h7]; exact ⟨_, _, rfl, by rw [hY5], hI0⟩
  rw [if_neg h7, if_neg h7]
  by_cases h8 : x1 = 8
  · rw [if_pos h8, if_pos h8]; exact ⟨_, _, rfl, by rw [hA3], hI0⟩
  rw [if_neg h8, if_neg h8]
  exact ⟨_, _, rfl, rfl, hI0⟩
end Ops
