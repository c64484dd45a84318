/-! FRESH: the reference's gaps with a new grave; the step -/
section FR2
variable {P : Pb} {S : XSt} {U : XSr} {f : List Nat} {K pl k : Nat}
theorem gapsWithR (hR : RP P U) (h17 : ∀ i, i < P.n → U.1 17 i = nI (ix f i)) (hl : f.length = P.n) (hlt : ∀ i, i < P.n → ix f i < P.n) (hK : K < 2 ^ 10) (hp : pl ≤ P.n) (hk : k < 10) : F_X7_gapsWith U (nI k) (nI pl) (nI (K.testBit k).toNat) = some (nI (gsc k none (insL P f K pl))) := by
  have hn := hR.1.1
  have hlen := ins_len (K := K) hl hp
  have hkl : ∀ g, P.kd g < 2 ^ 31 := fun g => Nat.lt_trans (hR.1.2.1 _) (by decide)
  unfold F_X7_gapsWith
  refine xlp_Q (Q := fun o => o = some (nI (gsc k none (insL P f K pl)))) (I := fun j t => ∃ (acc : Nat) (sc : Option Nat), t = (nI acc, sI sc, nI j) ∧ (∀ c, sc = some c → c ≤ j) ∧ acc + gsc k sc ((insL P f K pl).drop j) = gsc k none (insL P f K pl)) 0 (P.n + 1) (by omega) (by omega) ⟨0, none, rfl, fun c h => (nomatch h), by rw [List.drop_zero]; omega⟩ ?_ ?_
  · rintro j _ rc - hj ⟨acc, sc, rfl, hc, hacc⟩
    right
    rw [lx_drop (by omega)] at hacc
    have hlx := ins_lx (K := K) hl hp (q := j) (by omega)
    -- what the round does, by what the grave has
    have yes : (lx (insL P f K pl) j).1.testBit k = true → ∀ o, o = rc (nI acc + (if sI sc = -1 then 0 else sI sc), 0, nI (j + 1)) → ∃ t', (∃ (acc : Nat) (sc : Option Nat), t' = (nI acc, sI sc, nI (j + 1)) ∧ (∀ c, sc = some c → c ≤ j + 1) ∧ acc + gsc k sc ((insL P f K pl).drop (j + 1)) = gsc k none (insL P f K pl)) ∧ o = rc t' := by
      intro hb o ho
      cases sc with
      | none =>
        rw [if_pos (show sI none = -1 from rfl), show (0 : Int32) = nI 0 from nI_0.symm, nI_add] at ho
        refine ⟨_, ⟨acc + 0, some 0, rfl, fun c h => by cases h; omega, ?_⟩, ho⟩
        rw [← hacc]; simp [gsc, hb]
      | some c =>
        have hcj := hc c rfl
        rw [if_neg (show ¬ sI (some c) = -1 from nI_m1 (show c < 2 ^ 31 by omega))] at ho
        refine ⟨_, ⟨acc + c, some 0, rfl, fun c h => by cases h; omega, ?_⟩, by
          rw [ho]
          show rc (nI acc + nI c, 0, nI (j + 1)) = _
          rw [nI_add acc c]; rfl⟩
        rw [← hacc]; simp [gsc, hb]; omega
    have no : (lx (insL P f K pl) j).1.testBit k = false → ∀ o, o = (if sI sc = -1 then rc (nI acc, sI sc, nI (j + 1)) else rc (nI acc, sI sc + (if (lx (insL P f K pl) j).2 = true then 0 else 1), nI (j + 1))) → ∃ t', (∃ (acc : Nat) (sc : Option Nat), t' = (nI acc, sI sc, nI (j + 1)) ∧ (∀ c, sc = some c → c ≤ j + 1) ∧ acc + gsc k sc ((insL P f K pl).drop (j + 1)) = gsc k none (insL P f K pl)) ∧ o = rc t' := by
      intro hb o ho
      cases sc with
      | none =>
        rw [if_pos (show sI none = -1 from rfl)] at ho
        refine ⟨_, ⟨acc, none, rfl, fun c h => (nomatch h), ?_⟩, ho⟩
        rw [← hacc]; simp [gsc, hb]
      | some c =>
        have hcj := hc c rfl
        rw [if_neg (show ¬ sI (some c) = -1 from nI_m1 (show c < 2 ^ 31 by omega))] at ho
        cases hr : (lx (insL P f K pl) j).2 with
        | true =>
          rw [hr, if_pos rfl] at ho
          refine ⟨_, ⟨acc, some c, rfl, fun c' h => by cases h; omega, ?_⟩, by
            rw [ho]
            show rc (nI acc, nI c + 0, nI (j + 1)) = _
            rw [show (0 : Int32) = nI 0 from nI_0.symm, nI_add]; rfl⟩
          rw [← hacc]; simp [gsc, hb, hr]
        | false =>
          rw [hr, if_neg (by decide)] at ho
          refine ⟨_, ⟨acc, some (c + 1), rfl, fun c' h => by cases h; omega, ?_⟩, by
            rw [ho]
            show rc (nI acc, nI c + 1, nI (j + 1)) = _
            rw [nI_1]; rfl⟩
          rw [← hacc]; simp [gsc, hb, hr]
    show ∃ t', _ ∧ B_X7_gapsWith_9 U (nI k) (nI pl) (nI (K.testBit k).toNat) _ rc (nI acc) (sI sc) (nI j) = rc t'
    unfold B_X7_gapsWith_9
    rw [hR.2.1, if_neg (nI_nlt (by omega) (by omega))]
    simp only [xlet_eq, nI_1]
    by_cases hjp : j = pl
    · -- the new one
      rw [if_pos (by rw [hjp])]
      simp only [i10, ↓reduceIte]
      rw [if_neg (show ¬ j < pl by omega), if_pos hjp] at hlx
      cases hb : K.testBit k with
      | true =>
        rw [if_neg (by decide)]
        refine yes (by rw [hlx]; exact hb) _ ?_
        by_cases hs : sI sc = -1
        · rw [if_pos hs, if_pos hs]
        · rw [if_neg hs, if_neg hs]
      | false =>
        rw [if_pos (by decide)]
        refine no (by rw [hlx]; exact hb) _ ?_
        rw [hlx]
        rfl
    · rw [if_neg (fun q => hjp ((nI_eq (by omega) (by omega)).mp q))]
      simp only [↓reduceIte]
      have hgo : ∀ i : Nat, i < P.n → (lx (insL P f K pl) j) = (P.kd (ix f i), P.rb.testBit (ix f i)) → ∃ t', (∃ (acc : Nat) (sc : Option Nat), t' = (nI acc, sI sc, nI (j + 1)) ∧ (∀ c, sc = some c → c ≤ j + 1) ∧ acc + gsc k sc ((insL P f K pl).drop (j + 1)) = gsc k none (insL P f K pl)) ∧ (if xin (U.1 17 i) 8 = true then (if F_X7_is (U.1 14 (xti (U.1 17 i))) (nI k) = 0 then (if sI sc = -1 then rc (nI acc, sI sc, nI (j + 1)) else (if F_X7_is (U.1 0 3) (U.1 17 i) = 0 then rc (nI acc, sI sc + 1, nI (j + 1)) else rc (nI acc, sI sc + 0, nI (j + 1)))) else (if sI sc = -1 then rc (nI acc + 0, 0, nI (j + 1)) else rc (nI acc + sI sc, 0, nI (j + 1)))) else none) = rc t' := by
        intro i hi he
        have hg := hlt i hi
        rw [h17 i hi, if_pos (xin_nI (by omega) (by decide)), xti_nI (by omega), hR.2.2.2.2.2.2.2 _ hg, is_eq (hkl _) (by omega), hR.2.2.1, is_eq hR.2.2.2.1 (by omega)]
        cases hb : (P.kd (ix f i)).testBit k with
        | true =>
          rw [if_neg (by decide)]
          refine yes (by rw [he]; exact hb) _ ?_
          by_cases hs : sI sc = -1
          · rw [if_pos hs, if_pos hs]
          · rw [if_neg hs, if_neg hs]
        | false =>
          rw [if_pos (by decide)]
          refine no (by rw [he]; exact hb) _ ?_
          rw [he]
          by_cases hs : sI sc = -1
          · rw [if_pos hs, if_pos hs]
          · rw [if_neg hs, if_neg hs]
            cases hr : P.rb.testBit (ix f i) with
            | true => rw [if_neg (by decide), if_pos rfl]
            | false => rw [if_pos (by decide), if_neg (fun q => by cases q)]
      by_cases hlt2 : j < pl
      · rw [if_neg (fun q => absurd ((nI_leI (by omega) (by omega)).mp q) (by omega)), if_pos (xin_nI (by omega) (by decide)), xti_nI (by omega)]
        rw [if_pos hlt2] at hlx
        exact hgo j (by omega) hlx
      · obtain ⟨j', hj'⟩ : ∃ j', j = j' + 1 := ⟨j - 1, by omega⟩
        rw [if_pos ((nI_leI (by omega) (by omega)).mpr (by omega))]
        rw [if_neg hlt2, if_neg hjp] at hlx
        have e1 : nI j - (1 : Int32) = nI (j - 1) := pk_sub (b := 1) (by omega)
        rw [e1, if_pos (xin_nI (by omega) (by decide)), xti_nI (by omega)]
        exact hgo (j - 1) (by omega) hlx
  · rintro _ rc ⟨acc, sc, rfl, hc, hacc⟩
    have : (insL P f K pl).drop (P.n + 1) = [] := by rw [← hlen, List.drop_length]
    rw [this] at hacc
    have hz : gsc k sc [] = 0 := by cases sc <;> rfl
    rw [hz, Nat.add_zero] at hacc
    show B_X7_gapsWith_9 U (nI k) (nI pl) (nI (K.testBit k).toNat) _ rc (nI acc) (sI sc) (nI (P.n + 1)) = _
    unfold B_X7_gapsWith_9
    rw [hR.2.1, if_pos (nI_lt (by omega) (by omega)), hacc]
/-- gaps with the new grave at a place -/
def gN (P : Pb) (f : List Nat) (K pl : Nat) : Nat := lcost P.w 0 (insL P f K pl)
theorem gN_le (hP : P.good) (hl : f.length = P.n) (hp : pl ≤ P.n) : gN P f K pl ≤ 210 := by
  have h1 := lcost0_le hP.2.2 (insL P f K pl)
  rw [ins_len hl hp] at h1
  have := hP.1
  unfold gN
  omega
def lsN (g : Nat → Nat) : Nat → Nat
  | 0 => 100000
  | j + 1 => min (lsN g j) (g j)
theorem lsN_le (g : Nat → Nat) (j : Nat) : lsN g j ≤ 100000 := by
  induction j with
  | zero => exact Nat.le_refl _
  | succ j ih => exact Nat.le_trans (Nat.min_le_left _ _) ih
theorem lsN_lt (g : Nat → Nat) {j i : Nat} (hi : i < j) : lsN g j ≤ g i := by
  induction j with
  | zero => omega
  | succ j ih =>
    by_cases e : i = j
    · rw [e]; exact Nat.min_le_right _ _
    · exact Nat.le_trans (Nat.min_le_left _ _) (ih (by omega))
theorem freshR (hR : RP P U) (h17 : ∀ i, i < P.n → U.1 17 i = nI (ix f i)) (hl : f.length = P.n) (hlt : ∀ i, i < P.n → ix f i < P.n) (hK : K < 2 ^ 10) (x2 : Int32) (KK : Int32 × Int32 → Option (Int32 × XSr)) : xlp (fun k' rc t => B_X7_fresh_42 U (nI K) x2 k' rc t.1 t.2.1 t.2.2) KK XFU (100000, 0, 0) = KK (nI (lsN (gN P f K) (P.n + 1)), nI (bitsN (fun p => decide (gN P f K p = lsN (gN P f K) (P.n + 1))) (P.n + 1))) := by
  have hn := hR.1.1
  refine xlp_Q (Q := fun o => o = KK (nI (lsN (gN P f K) (P.n + 1)), nI (bitsN (fun p => decide (gN P f K p = lsN (gN P f K) (P.n + 1))) (P.n + 1)))) (I := fun j t => t = (nI (lsN (gN P f K) j), nI (bitsN (fun p => decide (gN P f K p = lsN (gN P f K) j)) j), nI j)) 0 (P.n + 1) (by omega) (by omega) rfl ?_ ?_
  · rintro j _ rc - hj rfl
    right
    refine ⟨_, rfl, ?_⟩
    have hg := gN_le (K := K) hR.1 hl (show j ≤ P.n by omega)
    have hls := lsN_le (gN P f K) j
    show B_X7_fresh_42 U (nI K) x2 _ rc (nI (lsN (gN P f K) j)) (nI (bitsN (fun p => decide (gN P f K p = lsN (gN P f K) j)) j)) (nI j) = _
    unfold B_X7_fresh_42
    rw [hR.2.1, if_neg (nI_nlt (by omega) (by omega))]
    -- the sum over kinds
    have hsum : ∀ (c3 c4 : Int32) (J : Int32 → Option (Int32 × XSr)), xlp (fun k' rc t => B_X7_fresh_57 U (nI K) x2 c3 c4 (nI j) k' rc t.1 t.2) J XFU (0, 0) = J (nI (gN P f K j)) := by
      intro c3 c4 J
      refine xlp_Q (Q := fun o => o = J (nI (gN P f K j))) (I := fun k t => t = (nI (smN (fun k => P.w k * gsc k none (insL P f K j)) k), nI k)) 0 10 (by omega) (by omega) rfl ?_ ?_
      · rintro k _ rc' - hk rfl
        right
        refine ⟨_, rfl, ?_⟩
        show B_X7_fresh_57 U (nI K) x2 c3 c4 (nI j) _ rc' (nI (smN (fun k => P.w k * gsc k none (insL P f K j)) k)) (nI k) = _
        unfold B_X7_fresh_57
        rw [if_neg (show ¬ (10 : Int32) ≤ nI k from nI_ge (b := 10) (by omega) (by decide)), if_pos (xin_nI (by omega) (by decide)), is_eq (show K < 2 ^ 31 by omega) (by omega), gapsWithR hR h17 hl hlt hK (by omega) hk, xti_nI (by omega), hR.2.2.2.2.2.1 k hk]
        simp only [Option.bind_some, xlet_eq, nI_1]
        rw [pk_mul, nI_add]
        rfl
      · rintro _ rc' rfl
        show B_X7_fresh_57 U (nI K) x2 c3 c4 (nI j) _ rc' _ (nI 10) = _
        unfold B_X7_fresh_57
        rw [if_pos (show (10 : Int32) ≤ nI 10 by decide)]
        have : gN P f K j = smN (fun k => P.w k * gsc k none (insL P f K j)) 10 := by
          unfold gN
          rw [← lcost_eq]
          exact smN_congr (fun k _ => by rw [gsc_none]; simp)
        rw [this]
    rw [hsum]
    simp only [xlet_eq, nI_1]
    rw [nI_shl1 (by omega), nI_or]
    have e1 : lsN (gN P f K) (j + 1) = min (lsN (gN P f K) j) (gN P f K j) := rfl
    have e2 : ∀ F : Nat → Bool, bitsN F (j + 1) = bitsN F j ||| (if F j = true then 2 ^ j else 0) := fun _ => rfl
    have bitsC : ∀ {F G : Nat → Bool}, (∀ i, i < j → F i = G i) → bitsN F j = bitsN G j := by
      intro F G h
      apply bits_eq
      intro q
      rw [bitsN_bit, bitsN_bit]
      constructor
      · rintro ⟨h1, h2⟩; exact ⟨h1, by rw [← h q h1]; exact h2⟩
      · rintro ⟨h1, h2⟩; exact ⟨h1, by rw [h q h1]; exact h2⟩
    rw [e1, e2]
    rcases Nat.lt_trichotomy (gN P f K j) (lsN (gN P f K) j) with h | h | h
    · rw [if_neg (fun q => absurd ((nI_leI (by omega) (by omega)).mp q) (by omega)), if_neg (fun q => absurd ((nI_leI (by omega) (by omega)).mp q) (by omega)), Nat.min_eq_right (by omega)]
      have hz : bitsN (fun p => decide (gN P f K p = gN P f K j)) j = 0 := by
        apply bits_eq
        intro q
        rw [bitsN_bit]
        constructor
        · rintro ⟨h1, h2⟩
          have h3 := lsN_lt (gN P f K) h1
          rw [decide_eq_true_eq] at h2
          omega
        · intro h; simp at h
      rw [hz, if_pos (by simp), Nat.zero_or]
    · rw [if_pos ((nI_leI (by omega) (by omega)).mpr (by omega)), if_pos (show nI (gN P f K j) = nI (lsN (gN P f K) j) by rw [h]), if_pos ((nI_leI (by omega) (by omega)).mpr (by omega)), Nat.min_eq_left (by omega), if_pos (by simpa using h)]
    · rw [if_pos ((nI_leI (by omega) (by omega)).mpr (by omega)), if_neg (fun q => absurd ((nI_eq (by omega) (by omega)).mp q) (by omega)), if_pos ((nI_leI (by omega) (by omega)).mpr (by omega)), Nat.min_eq_left (by omega), if_neg (by simp; omega), Nat.or_zero]
  · rintro _ rc rfl
    show B_X7_fresh_42 U (nI K) x2 _ rc _ _ (nI (P.n + 1)) = _
    unfold B_X7_fresh_42
    rw [hR.2.1, if_pos (nI_lt (by omega) (by omega))]
theorem fewestC (hC : CP P S) (h22 : ∀ i, i < P.n → S 22 i = nI (ix f i)) (hl : f.length = P.n) (hlt : ∀ i, i < P.n → ix f i < P.n) (hK : K < 2 ^ 10) : ∃ S' : XSt, F_X1_fewestGapsWith S (nI K) = some (nI (lsN (gN P f K) (P.n + 1)), S') ∧ ∀ q, q ≠ 28 → S' q = S q := by
  have hn := hC.1.1
  have kp : ∀ {T : XSt}, (∀ q, q ≠ 28 → T q = S q) → CP P T ∧ ∀ i, i < P.n → T 22 i = nI (ix f i) := fun hT => ⟨hC.keep (hT 1 (by decide)) (hT 7 (by decide)) (hT 8 (by decide)) (hT 9 (by decide)) (hT 10 (by decide)), fun i hi => by rw [hT 22 (by decide)]; exact h22 i hi⟩
  unfold F_X1_fewestGapsWith
  obtain ⟨S0, g1, g2⟩ := gapsWithC hC h22 hl hlt hK (pl := 0) (Nat.zero_le _)
  rw [show (0 : Int32) = nI 0 from nI_0.symm, g1, Option.bind_some, xlet_eq]
  refine xlp_Q (Q := fun o => ∃ S' : XSt, o = some (nI (lsN (gN P f K) (P.n + 1)), S') ∧ ∀ q, q ≠ 28 → S' q = S q) (I := fun j t => ∃ S' : XSt, t = (nI (lsN (gN P f K) j), nI j, S') ∧ ∀ q, q ≠ 28 → S' q = S q) 1 (P.n + 1) (by omega) (by omega) ⟨S0, by
    have h0 := gN_le (K := K) hC.1 hl (Nat.zero_le P.n)
    show (nI (gN P f K 0), 1, S0) = (nI (min 100000 (gN P f K 0)), nI 1, S0)
    rw [Nat.min_eq_right (by omega)]; rfl, g2⟩ ?_ ?_
  · rintro j _ rc hj1 hj ⟨T, rfl, hT⟩
    right
    obtain ⟨T', t1, t2⟩ := gapsWithC (kp hT).1 (kp hT).2 hl hlt hK (pl := j) (by omega)
    have hg := gN_le (K := K) hC.1 hl (show j ≤ P.n by omega)
    have hls := lsN_le (gN P f K) j
    refine ⟨(nI (lsN (gN P f K) (j + 1)), nI (j + 1), T'), ⟨T', rfl, fun q hq => by rw [t2 q hq]; exact hT q hq⟩, ?_⟩
    show B_X1_fewestGapsWith_9 (nI K) _ rc (nI (lsN (gN P f K) j)) (nI j) T = _
    unfold B_X1_fewestGapsWith_9
    rw [(kp hT).1.2.1, if_neg (nI_nlt (by omega) (by omega)), t1]
    simp only [Option.bind_some, xlet_eq, nI_1]
    rw [show lcost P.w 0 (insL P f K j) = gN P f K j from rfl, xmin_nI (by omega) (by omega)]
    rfl
  · rintro _ rc ⟨T, rfl, hT⟩
    refine ⟨T, ?_, hT⟩
    show B_X1_fewestGapsWith_9 (nI K) _ rc _ (nI (P.n + 1)) T = _
    unfold B_X1_fewestGapsWith_9
    rw [(kp hT).1.2.1, if_pos (nI_lt (by omega) (by omega))]
theorem placesWithC (hC : CP P S) (h22 : ∀ i, i < P.n → S 22 i = nI (ix f i)) (hl : f.length = P.n) (hlt : ∀ i, i < P.n → ix f i < P.n) (hK : K < 2 ^ 10) {M : Nat} (hM : M ≤ 100000) : ∃ S' : XSt, F_X1_placesWith S (nI K) (nI M) = some (nI (bitsN (fun p => decide (gN P f K p = M)) (P.n + 1)), S') ∧ ∀ q, q ≠ 28 → S' q = S q := by
  have hn := hC.1.1
  have kp : ∀ {T : XSt}, (∀ q, q ≠ 28 → T q = S q) → CP P T ∧ ∀ i, i < P.n → T 22 i = nI (ix f i) := fun hT => ⟨hC.keep (hT 1 (by decide)) (hT 7 (by decide)) (hT 8 (by decide)) (hT 9 (by decide)) (hT 10 (by decide)), fun i hi => by rw [hT 22 (by decide)]; exact h22 i hi⟩
  unfold F_X1_placesWith
  refine xlp_Q (Q := fun o => ∃ S' : XSt, o = some (nI (bitsN (fun p => decide (gN P f K p = M)) (P.n + 1)), S') ∧ ∀ q, q ≠ 28 → S' q = S q) (I := fun j t => ∃ S' : XSt, t = (nI (bitsN (fun p => decide (gN P f K p = M)) j), nI j, S') ∧ ∀ q, q ≠ 28 → S' q = S q) 0 (P.n + 1) (by omega) (by omega) ⟨S, rfl, fun _ _ => rfl⟩ ?_ ?_
  · rintro j _ rc - hj ⟨T, rfl, hT⟩
    right
    obtain ⟨T', t1, t2⟩ := gapsWithC (kp hT).1 (kp hT).2 hl hlt hK (pl := j) (by omega)
    have hg := gN_le (K := K) hC.1 hl (show j ≤ P.n by omega)
    refine ⟨(nI (bitsN (fun p => decide (gN P f K p = M)) (j + 1)), nI (j + 1), T'), ⟨T', rfl, fun q hq => by rw [t2 q hq]; exact hT q hq⟩, ?_⟩
    show B_X1_placesWith_5 (nI K) (nI M) _ rc (nI (bitsN (fun p => decide (gN P f K p = M)) j)) (nI j) T = _
    unfold B_X1_placesWith_5
    rw [(kp hT).1.2.1, if_neg (nI_nlt (by omega) (by omega)), t1]
    simp only [Option.bind_some, xlet_eq, nI_1]
    rw [show lcost P.w 0 (insL P f K j) = gN P f K j from rfl, nI_shl1 (by omega), nI_or]
    have e2 : bitsN (fun p => decide (gN P f K p = M)) (j + 1) = bitsN (fun p => decide (gN P f K p = M)) j ||| (if decide (gN P f K j = M) = true then 2 ^ j else 0) := rfl
    rw [e2]
    by_cases h : gN P f K j = M
    · rw [if_pos (show nI (gN P f K j) = nI M by rw [h]), if_pos (by simpa using h)]
    · rw [if_neg (fun q => h ((nI_eq (by omega) (by omega)).mp q)), if_neg (by simpa using h), show (0 : Int32) = nI 0 from nI_0.symm, nI_or]
  · rintro _ rc ⟨T, rfl, hT⟩
    refine ⟨T, ?_, hT⟩
    show B_X1_placesWith_5 (nI K) (nI M) _ rc _ (nI (P.n + 1)) T = _
    unfold B_X1_placesWith_5
    rw [(kp hT).1.2.1, if_pos (nI_lt (by omega) (by omega))]
end FR2
theorem st_fresh : St_fresh IX := by
  intro S U x1 x2 hI
  by_cases h1 : F_X6_within x1 0 1023 = 0
  · exact ⟨-2, S, U, by unfold F_X6_fresh; rw [if_pos h1], by unfold F_X7_fresh; rw [in_within, if_pos h1], hI⟩
  by_cases h2 : F_X6_within x2 0 1 = 0
  · exact ⟨-2, S, U, by unfold F_X6_fresh; rw [if_neg h1, if_pos h2], by unfold F_X7_fresh; rw [in_within, if_neg h1, in_within, if_pos h2], hI⟩
  obtain ⟨K, rfl, -, hK⟩ := within_nI (a := 0) (b := 1023) (by decide) (by decide) h1
  obtain ⟨S1, V, e1, -, e3, hF⟩ := both hI
  unfold F_X6_fresh F_X7_fresh
  rw [in_within, in_within, if_neg h1, if_neg h2, if_neg h1, if_neg h2, e1, e3]
  simp only [Option.bind_some]
  by_cases hL : (pbS S).L = []
  · rw [anyI_0 hL, if_pos rfl, if_pos rfl]
    exact ⟨_, _, _, rfl, rfl, hF.1⟩
  · obtain ⟨f, f1, f2, f3, f4, f5, f6, f7⟩ := the_row hF hL
    have hlt : ∀ i, i < (pbS S).n → ix f i < (pbS S).n := fun i hi => f5 _ (ix_mem (by omega))
    obtain ⟨S2, g1, g2⟩ := fewestC hF.2.2.1 f6 f3 hlt (K := K) (by omega)
    have hF2 : FR (pbS S) S2 V := hF.keepC (fun q _ h => g2 q h)
    obtain ⟨S3, p1, p2⟩ := placesWithC hF2.2.2.1 (fun i hi => by rw [g2 22 (by decide)]; exact f6 i hi) f3 hlt (K := K) (by omega) (M := lsN (gN (pbS S) f K) ((pbS S).n + 1)) (lsN_le _ _)
    rw [anyI_1 hL, if_neg i10, if_neg i10, g1, freshR hF.2.2.2.1 f7 f3 hlt (by omega)]
    simp only [Option.bind_some, xlet_eq]
    by_cases h0 : x2 = 0
    · rw [if_pos h0, if_pos h0, p1]
      exact ⟨_, _, _, rfl, rfl, (hF2.keepC (fun q _ h => p2 q h)).1⟩
    · rw [if_neg h0, if_neg h0]
      exact ⟨_, _, _, rfl, rfl, hF2.1⟩
