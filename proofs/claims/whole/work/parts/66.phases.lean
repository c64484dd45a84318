/-! PHASES: parts of the first row, by where it is cut -/
def pt (x : Nat → Bool) : Nat → Nat
  | 0 => 0
  | i + 1 => pt x i + (x (i + 1)).toNat
theorem pt_le (x : Nat → Bool) (i : Nat) : pt x i ≤ i := by
  induction i with
  | zero => exact Nat.le_refl _
  | succ i ih =>
    show pt x i + (x (i + 1)).toNat ≤ i + 1
    have := Bool.toNat_le (x (i + 1))
    omega
theorem pt_mono (x : Nat → Bool) {i j : Nat} (h : i ≤ j) : pt x i ≤ pt x j := by
  induction j with
  | zero => rw [Nat.le_zero.mp h]; exact Nat.le_refl _
  | succ j ih =>
    by_cases e : i = j + 1
    · rw [e]; exact Nat.le_refl _
    · exact Nat.le_trans (ih (by omega)) (Nat.le_add_right _ _)
theorem pt_congr {x y : Nat → Bool} {n : Nat} (h : ∀ i, 0 < i → i < n → x i = y i) {i : Nat} (hi : i < n) : pt x i = pt y i := by
  induction i with
  | zero => rfl
  | succ i ih =>
    show pt x i + (x (i + 1)).toNat = pt y i + (y (i + 1)).toNat
    rw [ih (by omega), h (i + 1) (by omega) hi]
/-- parts in which a kind is, as bits, up to a place -/
def pkk (P : Pb) (f : List Nat) (x : Nat → Bool) (k : Nat) : Nat → Nat
  | 0 => 0
  | p + 1 => pkk P f x k p ||| (if hf P f k p = true then 2 ^ pt x p else 0)
def strN (P : Pb) (f : List Nat) (x : Nat → Bool) : Nat := smN (fun k => P.w k * (popN 12 (pkk P f x k P.n) - 1)) 10
theorem pkk_congr {P : Pb} {f : List Nat} {x y : Nat → Bool} {n : Nat} (h : ∀ i, 0 < i → i < n → x i = y i) (k : Nat) {p : Nat} (hp : p ≤ n) : pkk P f x k p = pkk P f y k p := by
  induction p with
  | zero => rfl
  | succ p ih =>
    show pkk P f x k p ||| _ = pkk P f y k p ||| _
    rw [ih (by omega), pt_congr h (show p < n by omega)]
theorem strN_congr {P : Pb} {f : List Nat} {x y : Nat → Bool} (h : ∀ i, 0 < i → i < P.n → x i = y i) : strN P f x = strN P f y := smN_congr (fun k _ => by rw [pkk_congr h k (Nat.le_refl _)])
theorem strN_le {P : Pb} (hP : P.good) (f : List Nat) (x : Nat → Bool) : strN P f x ≤ 360 := by
  have h1 : strN P f x ≤ smN (fun _ => 36) 10 := smN_mono (fun k _ => by
    have h1 := popN_le 12 (pkk P f x k P.n)
    have h2 := Nat.mul_le_mul (hP.2.2 k) (show popN 12 (pkk P f x k P.n) - 1 ≤ 12 by omega)
    omega)
  exact h1
theorem pkk_hi (P : Pb) (f : List Nat) (x : Nat → Bool) (k : Nat) {p b : Nat} (h : (pkk P f x k p).testBit b = true) : ∃ i, i < p ∧ pt x i = b := by
  induction p with
  | zero => simp [pkk] at h
  | succ p ih =>
    have h' : (pkk P f x k p ||| (if hf P f k p = true then 2 ^ pt x p else 0)).testBit b = true := h
    rw [Nat.testBit_or, Bool.or_eq_true] at h'
    rcases h' with h' | h'
    · obtain ⟨i, h1, h2⟩ := ih h'
      exact ⟨i, by omega, h2⟩
    · by_cases hh : hf P f k p = true
      · rw [if_pos hh, Nat.testBit_two_pow, decide_eq_true_eq] at h'
        exact ⟨p, by omega, h'⟩
      · rw [if_neg hh] at h'; simp at h'
theorem pkk_lt (P : Pb) (f : List Nat) (x : Nat → Bool) (k : Nat) {p : Nat} (hp : p ≤ 8) : pkk P f x k p < 2 ^ 8 := by
  induction p with
  | zero => exact Nat.two_pow_pos _
  | succ p ih =>
    refine Nat.or_lt_two_pow (ih (by omega)) ?_
    by_cases hh : hf P f k p = true
    · rw [if_pos hh]; exact two_lt (by have := pt_le x p; omega)
    · rw [if_neg hh]; exact Nat.two_pow_pos _
theorem pkk_any (P : Pb) (f : List Nat) (x : Nat → Bool) (k p : Nat) : pkk P f x k p = 0 ↔ ∀ i, i < p → hf P f k i = false := by
  induction p with
  | zero => exact ⟨fun _ i hi => by omega, fun _ => rfl⟩
  | succ p ih =>
    have e : pkk P f x k (p + 1) = pkk P f x k p ||| (if hf P f k p = true then 2 ^ pt x p else 0) := rfl
    rw [e, Nat.or_eq_zero_iff, ih]
    constructor
    · rintro ⟨h1, h2⟩ i hi
      by_cases ei : i = p
      · subst ei
        cases hh : hf P f k i with
        | false => rfl
        | true =>
          rw [if_pos hh] at h2
          have := Nat.two_pow_pos (pt x i)
          omega
      · exact h1 i (by omega)
    · intro h
      exact ⟨fun i hi => h i (by omega), by rw [h p (by omega)]; rfl⟩
/-- adding a place: what a kind's parts gain -/
theorem pkk_pop (P : Pb) (f : List Nat) (x : Nat → Bool) (k : Nat) {p : Nat} (hp : p < 8) : popN 12 (pkk P f x k (p + 1)) = popN 12 (pkk P f x k p) + (hf P f k p && !(pkk P f x k p).testBit (pt x p)).toNat := by
  have hpt := pt_le x p
  show popN 12 (pkk P f x k p ||| (if hf P f k p = true then 2 ^ pt x p else 0)) = _
  cases hh : hf P f k p with
  | false => rw [if_neg (by decide), Nat.or_zero]; rfl
  | true =>
    rw [if_pos rfl]
    cases hb : (pkk P f x k p).testBit (pt x p) with
    | false => rw [popN_or (by omega) hb]; rfl
    | true =>
      have : pkk P f x k p ||| 2 ^ pt x p = pkk P f x k p := by
        apply bits_eq
        intro q
        rw [or2_bit, Bool.or_eq_true, decide_eq_true_eq]
        constructor
        · rintro (h | h)
          · exact h
          · rw [← h]; exact hb
        · exact Or.inl
      rw [this]; rfl
section PH
variable {P : Pb} {S : XSt} {U : XSr} {f : List Nat}
def chC (n c : Nat) : Nat → Bool := fun i => c.testBit (n - 1 - i)
def chR (c : Nat) : Nat → Bool := fun i => c.testBit (i - 1)
theorem cutA_eq (hC : CP P S) {c p : Nat} (hc : c < 2 ^ 31) (hp : p < P.n) : F_X1_isCutAhead S (nI p) (nI c) = if p = 0 then 0 else nI (chC P.n c p).toNat := by
  have hn := hC.1.1
  unfold F_X1_isCutAhead chC
  by_cases h : p = 0
  · rw [if_pos h, h, if_pos (by decide)]
  · have e1 : nI P.n - (1 : Int32) = nI (P.n - 1) := pk_sub (b := 1) (by omega)
    have e2 : nI (P.n - 1) - nI p = nI (P.n - 1 - p) := pk_sub (by omega)
    rw [if_neg h, if_neg (nI_nle (by omega) (by omega)), hC.2.1, e1, e2]
    cases hb : c.testBit (P.n - 1 - p) with
    | true => rw [if_neg (fun q => by rw [nI_bit0 hc (by omega), hb] at q; cases q)]; rfl
    | false => rw [if_pos ((nI_bit0 hc (by omega)).mpr hb)]; rfl
theorem strC_eq (hC : CP P S) (h22 : ∀ i, i < P.n → S 22 i = nI (ix f i)) (hlt : ∀ i, i < P.n → ix f i < P.n) (hall : ∀ g, g < P.n → ∃ i, i < P.n ∧ ix f i = g) {c : Nat} (hc : c < 2 ^ 31) : F_X1_straddles S (nI c) = some (nI (strN P f (chC P.n c))) := by
  have hn := hC.1.1
  have hkd : ∀ i, i < P.n → S 10 (ix f i) = nI (P.kd (ix f i)) := fun i hi => (hC.2.2.2.2.1 _ (by have := hlt i hi; omega)).2.2.2.2.2.2
  unfold F_X1_straddles
  refine xlp_Q (Q := fun o => o = some (nI (strN P f (chC P.n c)))) (I := fun p t => ∃ a m, t = (nI a, nI m, nI p) ∧ m < 2 ^ 10 ∧ (∀ k, m.testBit k = true ↔ p ≠ 0 ∧ (pkk P f (chC P.n c) k p).testBit (pt (chC P.n c) (p - 1)) = true) ∧ a + wsum P.w 10 m = smN (fun k => P.w k * popN 12 (pkk P f (chC P.n c) k p)) 10) 0 P.n (by omega) (by omega) ⟨0, 0, rfl, by decide, fun k => ⟨fun h => by simp at h, fun h => absurd rfl h.1⟩, by
    rw [wsum_zero]
    have : smN (fun k => P.w k * popN 12 (pkk P f (chC P.n c) k 0)) 10 = smN (fun _ => 0) 10 := smN_congr (fun k _ => by show P.w k * popN 12 0 = 0; rw [popN_0, Nat.mul_zero])
    rw [this, smN_zero]⟩ ?_ ?_
  · rintro p _ rc - hp ⟨a, m, rfl, hm, hmk, hsum⟩
    right
    have hg := hlt p hp
    have hkl := hC.1.2.1 (ix f p)
    have hpop : ∀ k, popN 12 (pkk P f (chC P.n c) k (p + 1)) = popN 12 (pkk P f (chC P.n c) k p) + (hf P f k p && !(pkk P f (chC P.n c) k p).testBit (pt (chC P.n c) p)).toNat := fun k => pkk_pop P f _ k (by omega)
    have hnew : ∀ k, (pkk P f (chC P.n c) k (p + 1)).testBit (pt (chC P.n c) p) = ((pkk P f (chC P.n c) k p).testBit (pt (chC P.n c) p) || hf P f k p) := by
      intro k
      show (pkk P f (chC P.n c) k p ||| (if hf P f k p = true then 2 ^ pt (chC P.n c) p else 0)).testBit _ = _
      rw [Nat.testBit_or]
      cases hh : hf P f k p with
      | true => rw [if_pos rfl, Nat.testBit_two_pow]; simp
      | false => rw [if_neg (by decide)]; simp
    have tail : ∀ (a' m' : Nat), m' < 2 ^ 10 → (∀ k, m'.testBit k = (pkk P f (chC P.n c) k p).testBit (pt (chC P.n c) p)) → a' + wsum P.w 10 m' = smN (fun k => P.w k * popN 12 (pkk P f (chC P.n c) k p)) 10 → ∃ t', (∃ a m, t' = (nI a, nI m, nI (p + 1)) ∧ m < 2 ^ 10 ∧ (∀ k, m.testBit k = true ↔ p + 1 ≠ 0 ∧ (pkk P f (chC P.n c) k (p + 1)).testBit (pt (chC P.n c) (p + 1 - 1)) = true) ∧ a + wsum P.w 10 m = smN (fun k => P.w k * popN 12 (pkk P f (chC P.n c) k (p + 1))) 10) ∧ (if xin (nI p) 8 = true then (if xin (S 22 (xti (nI p))) 8 = true then rc (nI a', nI m' ||| S 10 (xti (S 22 (xti (nI p)))), nI (p + 1)) else none) else none) = rc t' := by
      intro a' m' hm' hmk' hs'
      rw [if_pos (xin_nI (by omega) (by decide)), xti_nI (by omega), h22 p hp, if_pos (xin_nI (by omega) (by decide)), xti_nI (by omega), hkd p hp, nI_or]
      refine ⟨_, ⟨a', m' ||| P.kd (ix f p), rfl, Nat.or_lt_two_pow hm' hkl, fun k => ?_, ?_⟩, rfl⟩
      · rw [Nat.testBit_or, hmk' k, show p + 1 - 1 = p from rfl, hnew k]
        exact ⟨fun h => ⟨by omega, h⟩, fun h => h.2⟩
      · have e1 : wsum P.w 10 (m' ||| P.kd (ix f p)) = wsum P.w 10 m' + smN (fun k => P.w k * (hf P f k p && !(pkk P f (chC P.n c) k p).testBit (pt (chC P.n c) p)).toNat) 10 := by
          rw [wsum_sm, wsum_sm, ← smN_add]
          apply smN_congr
          intro k _
          rw [Nat.testBit_or, hmk' k]
          show P.w k * ((pkk P f (chC P.n c) k p).testBit (pt (chC P.n c) p) || hf P f k p).toNat = _
          cases (pkk P f (chC P.n c) k p).testBit (pt (chC P.n c) p) <;> cases hf P f k p <;> simp
        have e2 : smN (fun k => P.w k * popN 12 (pkk P f (chC P.n c) k (p + 1))) 10 = smN (fun k => P.w k * popN 12 (pkk P f (chC P.n c) k p)) 10 + smN (fun k => P.w k * (hf P f k p && !(pkk P f (chC P.n c) k p).testBit (pt (chC P.n c) p)).toNat) 10 := by
          rw [← smN_add]
          apply smN_congr
          intro k _
          rw [hpop k, Nat.mul_add]
        rw [e1, e2, ← hs']; omega
    show ∃ t', _ ∧ B_X1_straddles_7 S (nI c) _ rc (nI a) (nI m) (nI p) = rc t'
    unfold B_X1_straddles_7
    rw [hC.2.1, if_neg (fun q => absurd ((nI_leI (by omega) (by omega)).mp q) (by omega)), cutA_eq hC hc hp]
    simp only [xlet_eq, nI_1]
    by_cases h0 : p = 0
    · rw [if_pos h0, if_pos rfl]
      refine tail a m hm (fun k => ?_) hsum
      have h1 := hmk k
      cases hb : m.testBit k with
      | true => exact absurd h0 (h1.mp hb).1
      | false =>
        rw [h0]
        show false = (0 : Nat).testBit _
        simp
    · rw [if_neg h0]
      obtain ⟨p', rfl⟩ : ∃ p', p = p' + 1 := ⟨p - 1, by omega⟩
      have ept : pt (chC P.n c) (p' + 1) = pt (chC P.n c) p' + (chC P.n c (p' + 1)).toNat := rfl
      cases hcut : chC P.n c (p' + 1) with
      | true =>
        rw [if_neg (by decide), hC.2.2.2.2.2.1 m hm, nI_add]
        have := tail (a + wsum P.w 10 m) 0 (by decide) (fun k => by
          cases hb : (pkk P f (chC P.n c) k (p' + 1)).testBit (pt (chC P.n c) (p' + 1)) with
          | false => simp
          | true =>
            obtain ⟨i, hi, e⟩ := pkk_hi P f _ k hb
            have := pt_mono (chC P.n c) (show i ≤ p' by omega)
            rw [hcut] at ept
            have : (true : Bool).toNat = 1 := rfl
            omega) (by rw [wsum_zero, ← hsum]; rfl)
        rw [nI_0] at this
        exact this
      | false =>
        rw [if_pos (by decide)]
        refine tail a m hm (fun k => ?_) hsum
        rw [hcut] at ept
        have ept' : pt (chC P.n c) (p' + 1) = pt (chC P.n c) p' := ept
        have h1 := hmk k
        rw [show p' + 1 - 1 = p' from rfl] at h1
        rw [ept']
        cases hb : m.testBit k with
        | true => exact (h1.mp hb).2.symm
        | false =>
          cases hb2 : (pkk P f (chC P.n c) k (p' + 1)).testBit (pt (chC P.n c) p') with
          | false => rfl
          | true =>
            have := h1.mpr ⟨by omega, hb2⟩
            rw [hb] at this; cases this
  · rintro _ rc ⟨a, m, rfl, hm, hmk, hsum⟩
    show B_X1_straddles_7 S (nI c) _ rc (nI a) (nI m) (nI P.n) = _
    unfold B_X1_straddles_7
    rw [hC.2.1, if_pos ((nI_leI (by omega) (by omega)).mpr (Nat.le_refl _))]
    have hkds : ∀ g, g < 8 → S 10 g = nI (kdS S g) := fun g hg => by
      have := (hC.2.2.2.2.1 g hg).2.2.2.2.2.2
      unfold kdS
      rw [this, xti_nI (Nat.lt_trans (hC.1.2.1 g) (by decide))]
    have hkd2 : ∀ g, g < P.n → kdS S g = P.kd g := fun g hg => by
      have := (hC.2.2.2.2.1 g (by omega)).2.2.2.2.2.2
      unfold kdS
      rw [this, xti_nI (Nat.lt_trans (hC.1.2.1 g) (by decide))]
    have hko := kindsOfAll_eq (S := S) (n := P.n) hC.2.1 hn hkds
    rw [orN_congr hkd2] at hko
    have hol : orN P.kd P.n < 2 ^ 10 := orN_lt (fun g _ => hC.1.2.1 g)
    rw [hko]
    show some (nI a + F_X5_weigh S (nI m) - F_X5_weigh S (nI (orN P.kd P.n))) = _
    rw [hC.2.2.2.2.2.1 m hm, hC.2.2.2.2.2.1 _ hol, nI_add, hsum]
    have e : smN (fun k => P.w k * popN 12 (pkk P f (chC P.n c) k P.n)) 10 = strN P f (chC P.n c) + wsum P.w 10 (orN P.kd P.n) := by
      unfold strN
      rw [wsum_sm, ← smN_add]
      apply smN_congr
      intro k _
      rw [← Nat.mul_add]
      congr 1
      have hiff : (orN P.kd P.n).testBit k = true ↔ ¬ pkk P f (chC P.n c) k P.n = 0 := by
        rw [orN_bit, pkk_any]
        constructor
        · rintro ⟨g, g1, g2⟩ h
          obtain ⟨i, hi, ei⟩ := hall g g1
          have := h i hi
          unfold hf at this
          rw [ei, g2] at this; cases this
        · intro h
          refine Classical.byContradiction (fun hc' => h (fun i hi => ?_))
          cases hb : hf P f k i with
          | false => rfl
          | true => exact absurd ⟨ix f i, hlt i hi, hb⟩ hc'
      by_cases hz : pkk P f (chC P.n c) k P.n = 0
      · have hb : (orN P.kd P.n).testBit k = false := by
          cases hb : (orN P.kd P.n).testBit k with
          | false => rfl
          | true => exact absurd hz (hiff.mp hb)
        rw [hz, hb, popN_0]; rfl
      · rw [hiff.mpr hz]
        have hpos : 0 < popN 12 (pkk P f (chC P.n c) k P.n) := by
          rcases Nat.eq_zero_or_pos (popN 12 (pkk P f (chC P.n c) k P.n)) with h | h
          · exfalso
            have h2 := popN_subs (a := 0) (b := pkk P f (chC P.n c) k P.n) (fun q hq => by simp at hq) 12
            have h3 := h2.2 (by rw [popN_0, h])
            apply hz
            apply bits_eq
            intro q
            rcases Nat.lt_or_ge q 12 with hq | hq
            · rw [← h3 q hq]
            · rw [Nat.testBit_lt_two_pow (Nat.lt_of_lt_of_le (pkk_lt P f _ k hn) (Nat.pow_le_pow_right (n := 2) (by decide) (by omega)))]; simp
          · exact h
        show _ = popN 12 (pkk P f (chC P.n c) k P.n) - 1 + 1
        omega
    rw [e, pk_sub (by omega), Nat.add_sub_cancel]
end PH
