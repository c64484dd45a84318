/-! MENDED -/
def bN (h : Nat → Bool) : Nat → Nat := fun i => (h i).toNat
def mst (h r : Nat → Bool) (all a : Nat) : Nat → Nat × Nat × Nat
  | 0 => (all, 0, 0)
  | j + 1 => if h (a + j) = true then (min (mst h r all a j).1 (all - ((mst h r all a j).2.1 + 1) + (mst h r all a j).2.2), (mst h r all a j).2.1 + 1, (mst h r all a j).2.2) else ((mst h r all a j).1, (mst h r all a j).2.1, if r (a + j) = true then (mst h r all a j).2.2 else (mst h r all a j).2.2 + 1)
def mo (h r : Nat → Bool) (all n : Nat) : Nat → Nat
  | 0 => all
  | a + 1 => if h a = true then min (mo h r all n a) (mst h r all a (n - a)).1 else mo h r all n a
theorem mst_le (h r : Nat → Bool) (all a j : Nat) : (mst h r all a j).1 ≤ all ∧ (mst h r all a j).2.2 ≤ j ∧ (mst h r all a j).2.1 = smN (fun i => bN h (a + i)) j := by
  induction j with
  | zero => exact ⟨Nat.le_refl _, Nat.le_refl _, rfl⟩
  | succ j ih =>
    obtain ⟨i1, i2, i3⟩ := ih
    have es : smN (fun i => bN h (a + i)) (j + 1) = smN (fun i => bN h (a + i)) j + bN h (a + j) := rfl
    by_cases hh : h (a + j) = true
    · have e : mst h r all a (j + 1) = (min (mst h r all a j).1 (all - ((mst h r all a j).2.1 + 1) + (mst h r all a j).2.2), (mst h r all a j).2.1 + 1, (mst h r all a j).2.2) := if_pos hh
      rw [e, es]
      refine ⟨Nat.le_trans (Nat.min_le_left _ _) i1, by show (mst h r all a j).2.2 ≤ j + 1; omega, ?_⟩
      show (mst h r all a j).2.1 + 1 = _
      rw [i3]; unfold bN; rw [hh]; rfl
    · have e : mst h r all a (j + 1) = ((mst h r all a j).1, (mst h r all a j).2.1, if r (a + j) = true then (mst h r all a j).2.2 else (mst h r all a j).2.2 + 1) := if_neg hh
      rw [e, es]
      refine ⟨i1, ?_, ?_⟩
      · show (if r (a + j) = true then (mst h r all a j).2.2 else (mst h r all a j).2.2 + 1) ≤ j + 1
        by_cases hr : r (a + j) = true
        · rw [if_pos hr]; omega
        · rw [if_neg hr]; omega
      · show (mst h r all a j).2.1 = _
        rw [Bool.not_eq_true] at hh
        rw [i3]; unfold bN; rw [hh]; rfl
theorem smN_shift (f : Nat → Nat) (a j : Nat) : smN f (a + j) = smN f a + smN (fun i => f (a + i)) j := by
  induction j with
  | zero => rfl
  | succ j ih => show smN f (a + j) + f (a + j) = smN f a + (smN (fun i => f (a + i)) j + f (a + j)); rw [ih]; omega
theorem mst_kept {h r : Nat → Bool} {all a j n : Nat} (hall : all = smN (bN h) n) (hj : a + j < n) (hh : h (a + j) = true) : (mst h r all a j).2.1 + 1 ≤ all := by
  rw [(mst_le h r all a j).2.2, hall]
  have e1 := smN_shift (bN h) a (j + 1)
  have e2 : smN (fun i => bN h (a + i)) (j + 1) = smN (fun i => bN h (a + i)) j + bN h (a + j) := rfl
  have e3 : bN h (a + j) = 1 := by unfold bN; rw [hh]; rfl
  have e4 := smN_shift (bN h) (a + (j + 1)) (n - (a + (j + 1)))
  rw [show a + (j + 1) + (n - (a + (j + 1))) = n by omega] at e4
  omega
theorem smN_b8 (h : Nat → Bool) (n : Nat) : smN (bN h) n ≤ n := by
  induction n with
  | zero => exact Nat.le_refl _
  | succ n ih =>
    show smN (bN h) n + (h n).toNat ≤ n + 1
    have := Bool.toNat_le (h n)
    omega
section MD
variable {P : Pb} {S : XSt} {U : XSr} {f : List Nat} {k : Nat}
def hf (P : Pb) (f : List Nat) (k : Nat) : Nat → Bool := fun i => (P.kd (ix f i)).testBit k
def rf (P : Pb) (f : List Nat) : Nat → Bool := fun i => P.rb.testBit (ix f i)
theorem hasAt_eq (hC : CP P S) (h22 : ∀ i, i < P.n → S 22 i = nI (ix f i)) (hlt : ∀ i, i < P.n → ix f i < P.n) (hk : k < 10) {i : Nat} (hi : i < P.n) : F_X1_hasAt S (nI i) (nI k) = some (if hf P f k i = true then 1 else 0) := by
  have hn := hC.1.1
  have hg := hlt i hi
  have hkd := (hC.2.2.2.2.1 (ix f i) (by omega)).2.2.2.2.2.2
  have hl : P.kd (ix f i) < 2 ^ 31 := Nat.lt_trans (hC.1.2.1 _) (by decide)
  unfold F_X1_hasAt hf
  rw [if_pos (xin_nI (by omega) (by decide)), xti_nI (by omega), h22 i hi, if_pos (xin_nI (by omega) (by decide)), xti_nI (by omega), hkd]
  cases hb : (P.kd (ix f i)).testBit k with
  | true => rw [if_neg (fun q => by rw [nI_bit0 hl (by omega), hb] at q; cases q)]; rfl
  | false => rw [if_pos ((nI_bit0 hl (by omega)).mpr hb)]; rfl
theorem robAt_eq (hC : CP P S) (h22 : ∀ i, i < P.n → S 22 i = nI (ix f i)) (hlt : ∀ i, i < P.n → ix f i < P.n) {i : Nat} (hi : i < P.n) : F_X1_robbedAt S (nI i) = some (if rf P f i = true then 1 else 0) := by
  have hn := hC.1.1
  have hg := hlt i hi
  unfold F_X1_robbedAt rf
  rw [if_pos (xin_nI (by omega) (by decide)), xti_nI (by omega), h22 i hi, hC.2.2.1]
  cases hb : P.rb.testBit (ix f i) with
  | true => rw [if_neg (fun q => by rw [nI_bit0 hC.2.2.2.1 (by omega), hb] at q; cases q)]; rfl
  | false => rw [if_pos ((nI_bit0 hC.2.2.2.1 (by omega)).mpr hb)]; rfl
theorem mFrom_eq (hC : CP P S) (h22 : ∀ i, i < P.n → S 22 i = nI (ix f i)) (hlt : ∀ i, i < P.n → ix f i < P.n) (hk : k < 10) {a : Nat} (ha : a ≤ P.n) {all : Nat} (hall : all = smN (bN (hf P f k)) P.n) : F_X1_mendingFrom S (nI a) (nI k) (nI all) = some (nI (mst (hf P f k) (rf P f) all a (P.n - a)).1) := by
  have hn := hC.1.1
  have hal : all ≤ P.n := by rw [hall]; exact smN_b8 _ _
  unfold F_X1_mendingFrom
  refine xlp_Q (Q := fun o => o = some (nI (mst (hf P f k) (rf P f) all a (P.n - a)).1)) (I := fun p t => ∃ j, p = a + j ∧ t = (nI (mst (hf P f k) (rf P f) all a j).1, nI (mst (hf P f k) (rf P f) all a j).2.1, nI (mst (hf P f k) (rf P f) all a j).2.2, nI p)) a P.n (by omega) ha ⟨0, rfl, rfl⟩ ?_ ?_
  · rintro p _ rc hp1 hp ⟨j, rfl, rfl⟩
    right
    refine ⟨_, ⟨j + 1, rfl, rfl⟩, ?_⟩
    obtain ⟨m1, m2, m3⟩ := mst_le (hf P f k) (rf P f) all a j
    show B_X1_mendingFrom_12 S (nI k) (nI all) _ rc (nI (mst (hf P f k) (rf P f) all a j).1) (nI (mst (hf P f k) (rf P f) all a j).2.1) (nI (mst (hf P f k) (rf P f) all a j).2.2) (nI (a + j)) = _
    unfold B_X1_mendingFrom_12
    rw [hC.2.1, if_neg (fun q => absurd ((nI_leI (by omega) (by omega)).mp q) (by omega)), hasAt_eq hC h22 hlt hk hp, robAt_eq hC h22 hlt hp]
    simp only [Option.bind_some, xlet_eq]
    rw [nI_1, nI_1, nI_1]
    by_cases hh : hf P f k (a + j) = true
    · have e : mst (hf P f k) (rf P f) all a (j + 1) = (min (mst (hf P f k) (rf P f) all a j).1 (all - ((mst (hf P f k) (rf P f) all a j).2.1 + 1) + (mst (hf P f k) (rf P f) all a j).2.2), (mst (hf P f k) (rf P f) all a j).2.1 + 1, (mst (hf P f k) (rf P f) all a j).2.2) := if_pos hh
      have hkp := mst_kept (r := rf P f) hall hp hh
      rw [if_pos hh, if_neg i10, e, pk_sub hkp, nI_add, xmin_nI (by omega) (by omega)]
    · have e : mst (hf P f k) (rf P f) all a (j + 1) = ((mst (hf P f k) (rf P f) all a j).1, (mst (hf P f k) (rf P f) all a j).2.1, if rf P f (a + j) = true then (mst (hf P f k) (rf P f) all a j).2.2 else (mst (hf P f k) (rf P f) all a j).2.2 + 1) := if_neg hh
      rw [if_neg hh, if_pos rfl, e]
      by_cases hr : rf P f (a + j) = true
      · rw [if_pos hr, if_neg i10, if_pos hr]
      · rw [if_neg hr, if_pos rfl, if_neg hr]
  · rintro _ rc ⟨j, hj, rfl⟩
    have ej : j = P.n - a := by omega
    show B_X1_mendingFrom_12 S (nI k) (nI all) _ rc _ _ _ (nI P.n) = _
    unfold B_X1_mendingFrom_12
    rw [hC.2.1, if_pos ((nI_leI (by omega) (by omega)).mpr (Nat.le_refl _)), ej]
theorem mend_eq (hC : CP P S) (h22 : ∀ i, i < P.n → S 22 i = nI (ix f i)) (hlt : ∀ i, i < P.n → ix f i < P.n) (hk : k < 10) : F_X1_mending S (nI k) = some (nI (mo (hf P f k) (rf P f) (smN (bN (hf P f k)) P.n) P.n P.n)) := by
  have hn := hC.1.1
  have hal := smN_b8 (hf P f k) P.n
  unfold F_X1_mending
  refine xlp_Q (Q := fun o => o = some (nI (mo (hf P f k) (rf P f) (smN (bN (hf P f k)) P.n) P.n P.n))) (I := fun j t => t = (nI (smN (bN (hf P f k)) j), nI j)) 0 P.n (by omega) (by omega) rfl ?_ ?_
  · rintro j _ rc - hj rfl
    right
    refine ⟨_, rfl, ?_⟩
    show B_X1_mending_4 S (nI k) _ rc (nI (smN (bN (hf P f k)) j)) (nI j) = _
    unfold B_X1_mending_4
    rw [hC.2.1, if_neg (fun q => absurd ((nI_leI (by omega) (by omega)).mp q) (by omega)), hasAt_eq hC h22 hlt hk hj]
    simp only [Option.bind_some, xlet_eq]
    rw [nI_1, nI_1]
    have es : smN (bN (hf P f k)) (j + 1) = smN (bN (hf P f k)) j + (hf P f k j).toNat := rfl
    rw [es]
    by_cases hh : hf P f k j = true
    · rw [if_pos hh, if_neg i10, hh]; rfl
    · rw [if_neg hh, if_pos rfl, show (0 : Int32) = nI 0 from nI_0.symm, nI_add]
      rw [Bool.not_eq_true] at hh
      rw [hh]; rfl
  · rintro _ rc rfl
    have : B_X1_mending_4 S (nI k) (fun e6 => (xlp (fun k' rc t => B_X1_mending_43 S (nI k) e6 k' rc t.1 t.2) (fun e12 => (some e12)) XFU (e6, 0))) rc (nI (smN (bN (hf P f k)) P.n)) (nI P.n) = xlp (fun k' rc t => B_X1_mending_43 S (nI k) (nI (smN (bN (hf P f k)) P.n)) k' rc t.1 t.2) (fun e12 => (some e12)) XFU (nI (smN (bN (hf P f k)) P.n), 0) := by
      unfold B_X1_mending_4
      rw [hC.2.1, if_pos ((nI_leI (by omega) (by omega)).mpr (Nat.le_refl _))]
    show B_X1_mending_4 S (nI k) _ rc (nI (smN (bN (hf P f k)) P.n)) (nI P.n) = _
    rw [this]
    generalize hA : smN (bN (hf P f k)) P.n = all at *
    refine xlp_Q (Q := fun o => o = some (nI (mo (hf P f k) (rf P f) all P.n P.n))) (I := fun a t => t = (nI (mo (hf P f k) (rf P f) all P.n a), nI a)) 0 P.n (by omega) (by omega) rfl ?_ ?_
    · rintro a _ rc' - ha rfl
      right
      refine ⟨_, rfl, ?_⟩
      show B_X1_mending_43 S (nI k) (nI all) _ rc' (nI (mo (hf P f k) (rf P f) all P.n a)) (nI a) = _
      unfold B_X1_mending_43
      have hmo : ∀ a, mo (hf P f k) (rf P f) all P.n a ≤ all := by
        intro a
        induction a with
        | zero => exact Nat.le_refl _
        | succ a ih =>
          show (if hf P f k a = true then min (mo (hf P f k) (rf P f) all P.n a) (mst (hf P f k) (rf P f) all a (P.n - a)).1 else mo (hf P f k) (rf P f) all P.n a) ≤ all
          by_cases hh : hf P f k a = true
          · rw [if_pos hh]; exact Nat.le_trans (Nat.min_le_left _ _) ih
          · rw [if_neg hh]; exact ih
      have l1 := hmo a
      have l2 := (mst_le (hf P f k) (rf P f) all a (P.n - a)).1
      rw [hC.2.1, if_neg (fun q => absurd ((nI_leI (by omega) (by omega)).mp q) (by omega)), hasAt_eq hC h22 hlt hk ha, mFrom_eq hC h22 hlt hk (by omega) hA.symm]
      simp only [Option.bind_some, xlet_eq]
      rw [nI_1]
      have es : mo (hf P f k) (rf P f) all P.n (a + 1) = if hf P f k a = true then min (mo (hf P f k) (rf P f) all P.n a) (mst (hf P f k) (rf P f) all a (P.n - a)).1 else mo (hf P f k) (rf P f) all P.n a := rfl
      rw [es]
      by_cases hh : hf P f k a = true
      · rw [if_pos hh, if_neg i10, if_pos hh, xmin_nI (by omega) (by omega)]
      · rw [if_neg hh, if_pos rfl, if_neg hh]
    · rintro _ rc' rfl
      show B_X1_mending_43 S (nI k) (nI all) _ rc' _ (nI P.n) = _
      unfold B_X1_mending_43
      rw [hC.2.1, if_pos ((nI_leI (by omega) (by omega)).mpr (Nat.le_refl _))]
theorem mendR_in (hR : RP P U) (h17 : ∀ i, i < P.n → U.1 17 i = nI (ix f i)) (hlt : ∀ i, i < P.n → ix f i < P.n) (hk : k < 10) {a : Nat} (ha : a < P.n) {all B : Nat} (hall : all = smN (bN (hf P f k)) P.n) (hB : B ≤ all) (K : Int32 → Option (Int32 × XSr)) : xlp (fun k' rc t => B_X7_mendedNow_81 U (nI k) (nI all) (nI a) k' rc t.1 t.2.1 t.2.2.1 t.2.2.2.1 t.2.2.2.2) K XFU (nI B, 0, 0, 0, nI a) = K (nI (if hf P f k a = true then min B (mst (hf P f k) (rf P f) all a (P.n - a)).1 else B)) := by
  have hn := hR.1.1
  have hal : all ≤ P.n := by rw [hall]; exact smN_b8 _ _
  have hget : ∀ i, i < P.n → U.1 14 (ix f i) = nI (P.kd (ix f i)) := fun i hi => hR.2.2.2.2.2.2.2 _ (hlt i hi)
  have hkl : ∀ g, P.kd g < 2 ^ 31 := fun g => Nat.lt_trans (hR.1.2.1 _) (by decide)
  have hga := hlt a ha
  by_cases hha : hf P f k a = true
  · rw [if_pos hha]
    refine xlp_Q (Q := fun o => o = K (nI (min B (mst (hf P f k) (rf P f) all a (P.n - a)).1))) (I := fun p t => ∃ j fl gp, p = a + j ∧ fl + gp = (mst (hf P f k) (rf P f) all a j).2.2 ∧ t = (nI (min B (mst (hf P f k) (rf P f) all a j).1), nI (mst (hf P f k) (rf P f) all a j).2.1, nI fl, nI gp, nI p)) a P.n (by omega) (by omega) ⟨0, 0, 0, rfl, rfl, by
      show _ = (nI (min B all), nI 0, nI 0, nI 0, nI a)
      rw [Nat.min_eq_left hB]; rfl⟩ ?_ ?_
    · rintro p _ rc hp1 hp ⟨j, fl, gp, rfl, hfg, rfl⟩
      right
      obtain ⟨m1, m2, m3⟩ := mst_le (hf P f k) (rf P f) all a j
      have hgp := hlt (a + j) hp
      have hmin : min B (mst (hf P f k) (rf P f) all a j).1 ≤ B := Nat.min_le_left _ _
      show ∃ t', _ ∧ B_X7_mendedNow_81 U (nI k) (nI all) (nI a) _ rc (nI (min B (mst (hf P f k) (rf P f) all a j).1)) (nI (mst (hf P f k) (rf P f) all a j).2.1) (nI fl) (nI gp) (nI (a + j)) = rc t'
      unfold B_X7_mendedNow_81
      have hx1 : xin (nI a) 8 = true := xin_nI (by omega) (by decide)
      have hx2 : xin (nI (a + j)) 8 = true := xin_nI (by omega) (by decide)
      have ha31 : xti (nI a) = a := xti_nI (by omega)
      have hp31 : xti (nI (a + j)) = a + j := xti_nI (by omega)
      have hb1 : F_X7_is (nI (P.kd (ix f a))) (nI k) = 1 := by rw [is_eq (hkl _) (by omega)]; unfold hf at hha; rw [hha]; rfl
      rw [hR.2.1, if_neg (fun q => absurd ((nI_leI (by omega) (by omega)).mp q) (by omega)), if_pos hx1, if_pos hx2, if_pos hx2, ha31, hp31, h17 a ha, h17 (a + j) hp, if_pos (xin_nI (by omega) (by decide)), if_pos (xin_nI (by omega) (by decide)), xti_nI (show ix f a < 2 ^ 31 by omega), xti_nI (show ix f (a + j) < 2 ^ 31 by omega), hget a ha, hget (a + j) hp, hb1, if_neg i10, is_eq (hkl _) (by omega), hR.2.2.1, is_eq hR.2.2.2.1 (by omega)]
      simp only [xlet_eq, nI_1]
      by_cases hh : hf P f k (a + j) = true
      · have e : mst (hf P f k) (rf P f) all a (j + 1) = (min (mst (hf P f k) (rf P f) all a j).1 (all - ((mst (hf P f k) (rf P f) all a j).2.1 + 1) + (mst (hf P f k) (rf P f) all a j).2.2), (mst (hf P f k) (rf P f) all a j).2.1 + 1, (mst (hf P f k) (rf P f) all a j).2.2) := if_pos hh
        have hkp := mst_kept (r := rf P f) hall hp hh
        have hb : (P.kd (ix f (a + j))).testBit k = true := hh
        rw [hb, if_neg (by decide), nI_add, pk_sub hkp, nI_add, hfg]
        generalize hv : all - ((mst (hf P f k) (rf P f) all a j).2.1 + 1) + (mst (hf P f k) (rf P f) all a j).2.2 = v at e
        have hv8 : v ≤ 16 := by omega
        refine ⟨(nI (min B (mst (hf P f k) (rf P f) all a (j + 1)).1), nI ((mst (hf P f k) (rf P f) all a j).2.1 + 1), nI (mst (hf P f k) (rf P f) all a j).2.2, nI 0, nI (a + j + 1)), ⟨j + 1, (mst (hf P f k) (rf P f) all a j).2.2, 0, rfl, by rw [e]; rfl, by rw [e]⟩, ?_⟩
        rw [e]
        show _ = rc (nI (min B (min (mst (hf P f k) (rf P f) all a j).1 v)), _)
        rw [← Nat.min_assoc]
        by_cases hc : min B (mst (hf P f k) (rf P f) all a j).1 ≤ v
        · rw [if_pos ((nI_leI (by omega) (by omega)).mpr hc), Nat.min_eq_left hc]; rfl
        · rw [if_neg (fun q => hc ((nI_leI (by omega) (by omega)).mp q)), Nat.min_eq_right (show v ≤ min B (mst (hf P f k) (rf P f) all a j).1 by omega)]; rfl
      · have e : mst (hf P f k) (rf P f) all a (j + 1) = ((mst (hf P f k) (rf P f) all a j).1, (mst (hf P f k) (rf P f) all a j).2.1, if rf P f (a + j) = true then (mst (hf P f k) (rf P f) all a j).2.2 else (mst (hf P f k) (rf P f) all a j).2.2 + 1) := if_neg hh
        have hb : (P.kd (ix f (a + j))).testBit k = false := by
          have := hh; rw [Bool.not_eq_true] at this; exact this
        rw [hb, if_pos (by decide)]
        cases hr : P.rb.testBit (ix f (a + j)) with
        | true =>
          have hr' : rf P f (a + j) = true := hr
          rw [if_neg (by decide), show (0 : Int32) = nI 0 from nI_0.symm, nI_add]
          exact ⟨_, ⟨j + 1, fl, gp, rfl, by rw [e, if_pos hr']; exact hfg, by rw [e]; rfl⟩, rfl⟩
        | false =>
          have hr' : ¬ rf P f (a + j) = true := by
            have : rf P f (a + j) = false := hr
            rw [this]; decide
          rw [if_pos (by decide)]
          exact ⟨_, ⟨j + 1, fl, gp + 1, rfl, by rw [e, if_neg hr', ← hfg]; rfl, by rw [e]⟩, rfl⟩
    · rintro _ rc ⟨j, fl, gp, hj, hfg, rfl⟩
      have ej : j = P.n - a := by omega
      show B_X7_mendedNow_81 U (nI k) (nI all) (nI a) _ rc _ _ _ _ (nI P.n) = _
      unfold B_X7_mendedNow_81
      rw [hR.2.1, if_pos ((nI_leI (by omega) (by omega)).mpr (Nat.le_refl _)), ej]
  · rw [if_neg hha]
    refine xlp_Q (Q := fun o => o = K (nI B)) (I := fun _ t => t = (nI B, 0, 0, 0, nI a)) 0 0 (by omega) (by omega) rfl (fun j t rc h1 h2 _ => by omega) ?_
    rintro _ rc rfl
    show B_X7_mendedNow_81 U (nI k) (nI all) (nI a) _ rc (nI B) 0 0 0 (nI a) = _
    unfold B_X7_mendedNow_81
    have hx1 : xin (nI a) 8 = true := xin_nI (by omega) (by decide)
    have ha31 : xti (nI a) = a := xti_nI (by omega)
    have hb1 : F_X7_is (nI (P.kd (ix f a))) (nI k) = 0 := by
      rw [is_eq (hkl _) (by omega)]
      have : hf P f k a = false := by rw [Bool.not_eq_true] at hha; exact hha
      unfold hf at this; rw [this]; rfl
    rw [hR.2.1, if_neg (fun q => absurd ((nI_leI (by omega) (by omega)).mp q) (by omega)), if_pos hx1, ha31, h17 a ha, if_pos (xin_nI (by omega) (by decide)), xti_nI (show ix f a < 2 ^ 31 by omega), hget a ha, hb1, if_pos rfl]
theorem mendR_eq (hR : RP P U) (h17 : ∀ i, i < P.n → U.1 17 i = nI (ix f i)) (hlt : ∀ i, i < P.n → ix f i < P.n) (hk : k < 10) : xlp (fun k' rc t => B_X7_mendedNow_14 U (nI k) k' rc t.1 t.2) (fun e8 => (xlp (fun k' rc t => B_X7_mendedNow_59 U (nI k) e8 k' rc t.1 t.2) (fun e25 => (some (e25, U))) XFU (e8, 0))) XFU (0, 0) = some (nI (mo (hf P f k) (rf P f) (smN (bN (hf P f k)) P.n) P.n P.n), U) := by
  have hn := hR.1.1
  have hal := smN_b8 (hf P f k) P.n
  have hget : ∀ i, i < P.n → U.1 14 (ix f i) = nI (P.kd (ix f i)) := fun i hi => hR.2.2.2.2.2.2.2 _ (hlt i hi)
  have hkl : ∀ g, P.kd g < 2 ^ 31 := fun g => Nat.lt_trans (hR.1.2.1 _) (by decide)
  refine xlp_Q (Q := fun o => o = some (nI (mo (hf P f k) (rf P f) (smN (bN (hf P f k)) P.n) P.n P.n), U)) (I := fun j t => t = (nI (smN (bN (hf P f k)) j), nI j)) 0 P.n (by omega) (by omega) rfl ?_ ?_
  · rintro j _ rc - hj rfl
    right
    refine ⟨_, rfl, ?_⟩
    have hg := hlt j hj
    show B_X7_mendedNow_14 U (nI k) _ rc (nI (smN (bN (hf P f k)) j)) (nI j) = _
    unfold B_X7_mendedNow_14
    rw [hR.2.1, if_neg (fun q => absurd ((nI_leI (by omega) (by omega)).mp q) (by omega)), if_pos (xin_nI (by omega) (by decide)), xti_nI (by omega), h17 j hj, if_pos (xin_nI (by omega) (by decide)), xti_nI (by omega), hget j hj, is_eq (hkl _) (by omega)]
    simp only [xlet_eq, nI_1]
    have es : smN (bN (hf P f k)) (j + 1) = smN (bN (hf P f k)) j + ((P.kd (ix f j)).testBit k).toNat := rfl
    rw [es]
    cases hb : (P.kd (ix f j)).testBit k with
    | true => rw [if_neg (by decide)]; rfl
    | false => rw [if_pos (by decide), show (0 : Int32) = nI 0 from nI_0.symm, nI_add]; rfl
  · rintro _ rc rfl
    have : B_X7_mendedNow_14 U (nI k) (fun e8 => (xlp (fun k' rc t => B_X7_mendedNow_59 U (nI k) e8 k' rc t.1 t.2) (fun e25 => (some (e25, U))) XFU (e8, 0))) rc (nI (smN (bN (hf P f k)) P.n)) (nI P.n) = xlp (fun k' rc t => B_X7_mendedNow_59 U (nI k) (nI (smN (bN (hf P f k)) P.n)) k' rc t.1 t.2) (fun e25 => (some (e25, U))) XFU (nI (smN (bN (hf P f k)) P.n), 0) := by
      unfold B_X7_mendedNow_14
      rw [hR.2.1, if_pos ((nI_leI (by omega) (by omega)).mpr (Nat.le_refl _))]
    show B_X7_mendedNow_14 U (nI k) _ rc (nI (smN (bN (hf P f k)) P.n)) (nI P.n) = _
    rw [this]
    generalize hA : smN (bN (hf P f k)) P.n = all at *
    have hmo : ∀ a, mo (hf P f k) (rf P f) all P.n a ≤ all := by
      intro a
      induction a with
      | zero => exact Nat.le_refl _
      | succ a ih =>
        show (if hf P f k a = true then min (mo (hf P f k) (rf P f) all P.n a) (mst (hf P f k) (rf P f) all a (P.n - a)).1 else mo (hf P f k) (rf P f) all P.n a) ≤ all
        by_cases hh : hf P f k a = true
        · rw [if_pos hh]; exact Nat.le_trans (Nat.min_le_left _ _) ih
        · rw [if_neg hh]; exact ih
    refine xlp_Q (Q := fun o => o = some (nI (mo (hf P f k) (rf P f) all P.n P.n), U)) (I := fun a t => t = (nI (mo (hf P f k) (rf P f) all P.n a), nI a)) 0 P.n (by omega) (by omega) rfl ?_ ?_
    · rintro a _ rc' - ha rfl
      right
      refine ⟨_, rfl, ?_⟩
      show B_X7_mendedNow_59 U (nI k) (nI all) _ rc' (nI (mo (hf P f k) (rf P f) all P.n a)) (nI a) = _
      unfold B_X7_mendedNow_59
      rw [hR.2.1, if_neg (fun q => absurd ((nI_leI (by omega) (by omega)).mp q) (by omega)), mendR_in hR h17 hlt hk ha hA.symm (hmo a), xlet_eq, nI_1]
      rfl
    · rintro _ rc' rfl
      show B_X7_mendedNow_59 U (nI k) (nI all) _ rc' _ (nI P.n) = _
      unfold B_X7_mendedNow_59
      rw [hR.2.1, if_pos ((nI_leI (by omega) (by omega)).mpr (Nat.le_refl _))]
end MD
theorem mended_now {S : XSt} {U : XSr} (hI : IX S U) {k : Nat} (hk : k < 10) : ∃ r S' U', F_X6_mended S (nI k) = some (r, S') ∧ F_X7_mendedNow U (nI k) = some (r, U') ∧ FR (pbS S) S' U' := by
  obtain ⟨S1, V, e1, -, e3, hF⟩ := both hI
  unfold F_X6_mended F_X7_mendedNow F_X6_isKind
  have hw : ¬ F_X6_within (nI k) 0 9 = 0 := within_1.mpr ⟨nI_pos' (by omega), show nI k ≤ nI 9 from (nI_leI (by omega) (by decide)).mpr (by omega)⟩
  rw [if_neg hw, e1, e3]
  simp only [Option.bind_some]
  by_cases hL : (pbS S).L = []
  · rw [anyI_0 hL, if_pos rfl, if_pos rfl]
    exact ⟨_, _, _, rfl, rfl, hF⟩
  · obtain ⟨f, f1, f2, f3, f4, f5, f6, f7⟩ := the_row hF hL
    have hlt : ∀ i, i < (pbS S).n → ix f i < (pbS S).n := fun i hi => f5 _ (ix_mem (by omega))
    rw [anyI_1 hL, if_neg i10, if_neg i10, mend_eq hF.2.2.1 f6 hlt hk, mendR_eq hF.2.2.2.1 f7 hlt hk]
    exact ⟨_, _, _, rfl, rfl, hF⟩
theorem st_mended : St_mended IX := by
  intro S U x hI
  by_cases hx : F_X6_isKind x = 0
  · exact ⟨-2, S, U, by unfold F_X6_mended; rw [if_pos hx], by unfold F_X7_mended; rw [show F_X7_isKind x = F_X6_isKind x from rfl, if_pos hx], hI⟩
  · obtain ⟨k, rfl, -, hk⟩ := within_nI (a := 0) (b := 9) (by decide) (by decide) hx
    obtain ⟨r, S', U', e1, e2, hF⟩ := mended_now hI (k := k) (by omega)
    exact ⟨r, S', U', e1, by unfold F_X7_mended; rw [show F_X7_isKind (nI k) = F_X6_isKind (nI k) from rfl, if_neg hx, e2]; rfl, hF.1⟩
