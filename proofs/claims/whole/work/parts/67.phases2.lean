/-! PHASES: the best cuts of both; the step -/
theorem lt_tb {x y : Nat} (i : Nat) (hx : x.testBit i = false) (hy : y.testBit i = true) (h : ∀ j, i < j → x.testBit j = y.testBit j) : x < y := by
  have e : x >>> (i + 1) = y >>> (i + 1) := Nat.eq_of_testBit_eq (fun j => by rw [Nat.testBit_shiftRight, Nat.testBit_shiftRight]; exact h _ (by omega))
  rw [Nat.shiftRight_eq_div_pow, Nat.shiftRight_eq_div_pow, Nat.pow_succ, ← Nat.div_div_eq_div_mul, ← Nat.div_div_eq_div_mul] at e
  rw [Nat.testBit_eq_decide_div_mod_eq] at hx hy
  rw [decide_eq_false_iff_not] at hx
  rw [decide_eq_true_eq] at hy
  rcases Nat.lt_or_ge x y with hl | hl
  · exact hl
  · have := Nat.div_le_div_right (c := 2 ^ i) hl
    omega
def rv (n c : Nat) : Nat := bitsN (fun b => c.testBit (n - 2 - b)) (n - 1)
theorem rv_lt (n c : Nat) : rv n c < 2 ^ (n - 1) := bitsN_lt _ _
theorem rv_fact : ∀ n, n < 9 → ∀ c, c < 128 → c < 2 ^ (n - 1) → (rv n (rv n c) = c ∧ popN 12 (rv n c) = popN 12 c) := by decide +kernel
theorem rv_bit {n c i : Nat} (h0 : 0 < i) (hi : i < n) : chC n (rv n c) i = chR c i := by
  unfold chC chR
  cases hb : c.testBit (i - 1) with
  | true =>
    refine (bitsN_bit _ _ _).mpr ⟨by omega, ?_⟩
    show c.testBit (n - 2 - (n - 1 - i)) = true
    rw [show n - 2 - (n - 1 - i) = i - 1 by omega]; exact hb
  | false =>
    cases hc : (rv n c).testBit (n - 1 - i) with
    | false => rfl
    | true =>
      have := ((bitsN_bit _ _ _).mp hc).2
      have h2 : c.testBit (n - 2 - (n - 1 - i)) = true := this
      rw [show n - 2 - (n - 1 - i) = i - 1 by omega, hb] at h2; cases h2
theorem two7 {n : Nat} (h : n ≤ 8) : 2 ^ (n - 1) ≤ 128 := Nat.le_trans (Nat.pow_le_pow_right (by decide) (show n - 1 ≤ 7 by omega)) (by decide)
/-- b is the best of the cuts that hold Q, by straddles s, then by a number v -/
def bst (Q : Nat → Prop) (s v : Nat → Nat) (b : Nat) : Prop := Q b ∧ ∀ c, Q c → s b < s c ∨ (s b = s c ∧ v c ≤ v b)
section P2
variable {P : Pb} {S : XSt} {U : XSr} {f : List Nat}
def sC (P : Pb) (f : List Nat) (c : Nat) : Nat := strN P f (chC P.n c)
def sR (P : Pb) (f : List Nat) (c : Nat) : Nat := strN P f (chR c)
theorem sR_sC (c : Nat) : sC P f (rv P.n c) = sR P f c := strN_congr (fun i h0 hi => rv_bit h0 hi)
theorem bestC (hC : CP P S) (h22 : ∀ i, i < P.n → S 22 i = nI (ix f i)) (hlt : ∀ i, i < P.n → ix f i < P.n) (hall : ∀ g, g < P.n → ∃ i, i < P.n ∧ ix f i = g) {m : Nat} (hn0 : 0 < P.n) (hm : m ≤ 8) (hex : ∃ c, c < 2 ^ (P.n - 1) ∧ popN 12 c = m) : ∃ b, F_X1_bestCuts S (nI (m + 1)) = some (nI b) ∧ bst (fun c => c < 2 ^ (P.n - 1) ∧ popN 12 c = m) (sC P f) (fun c => c) b := by
  have hn := hC.1.1
  have hN := two7 hn
  have hN0 : 0 < 2 ^ (P.n - 1) := Nat.two_pow_pos _
  have hNW : NW = 1000000 := rfl
  have hs : ∀ c, sC P f c ≤ 360 := fun c => strN_le hC.1 f _
  unfold F_X1_bestCuts
  have e1 : nI P.n - (1 : Int32) = nI (P.n - 1) := pk_sub (b := 1) (by omega)
  have e2 : xmax 0 (nI (P.n - 1)) = nI (P.n - 1) := by
    rw [show (0 : Int32) = nI 0 from nI_0.symm, xmax_nI (by omega) (by omega), Nat.max_eq_right (Nat.zero_le _)]
  have e3 : nI (2 ^ (P.n - 1)) - (1 : Int32) = dI (2 ^ (P.n - 1)) := rfl
  rw [hC.2.1, e1, e2, nI_shl1 (by omega), e3, xlet_eq, NW_nI]
  refine xlp_Q (Q := fun o => ∃ b, o = some (nI b) ∧ bst (fun c => c < 2 ^ (P.n - 1) ∧ popN 12 c = m) (sC P f) (fun c => c) b) (I := fun j t => ∃ b w, t = (nI b, nI w, dI (2 ^ (P.n - 1) - j)) ∧ w ≤ NW ∧ ((w = NW ∧ ∀ c, 2 ^ (P.n - 1) - j ≤ c → c < 2 ^ (P.n - 1) → popN 12 c ≠ m) ∨ (w = sC P f b ∧ bst (fun c => 2 ^ (P.n - 1) - j ≤ c ∧ c < 2 ^ (P.n - 1) ∧ popN 12 c = m) (sC P f) (fun c => c) b))) 0 (2 ^ (P.n - 1)) (by omega) (by omega) ⟨0, NW, rfl, Nat.le_refl _, Or.inl ⟨rfl, fun c h1 h2 => by omega⟩⟩ ?_ ?_
  · rintro j _ rc - hj ⟨b, w, rfl, hw, hbw⟩
    right
    obtain ⟨c, hc⟩ : ∃ c, 2 ^ (P.n - 1) - j = c + 1 := ⟨2 ^ (P.n - 1) - j - 1, by omega⟩
    have hc' : 2 ^ (P.n - 1) - (j + 1) = c := by omega
    rw [hc] at hbw ⊢
    show ∃ t', _ ∧ B_X1_bestCuts_28 S (nI (m + 1)) _ rc (nI b) (nI w) (dI (c + 1)) = rc t'
    unfold B_X1_bestCuts_28
    have hm1 := dI_m1 c
    rw [dI_succ] at hm1 ⊢
    have hpop : F_J6_bitCount_0f7a4 (nI c) = nI (popN 12 c) := by rw [bitCount_10 c (by omega), popN_12 (by omega)]
    have hpl := popN_le 12 c
    have hsc := hs c
    have hst : F_X1_straddles S (nI c) = some (nI (sC P f c)) := strC_eq hC h22 hlt hall (by omega)
    rw [if_neg (nI_pos (by omega)), hpop, nI_sub1, hst]
    simp only [Option.bind_some, xlet_eq]
    rw [hm1, hc']
    by_cases hp : popN 12 c = m
    · rw [if_pos (by rw [hp])]
      by_cases hle : w ≤ sC P f c
      · rw [if_pos ((nI_leI (by omega) (by omega)).mpr hle)]
        refine ⟨_, ⟨b, w, rfl, hw, Or.inr ?_⟩, rfl⟩
        rcases hbw with ⟨h1, -⟩ | ⟨h1, ⟨b1, b2, b3⟩, h2⟩
        · omega
        · refine ⟨h1, ⟨by omega, b2, b3⟩, ?_⟩
          rintro c' ⟨q1, q2, q3⟩
          by_cases e : c' = c
          · subst e
            rcases Nat.lt_or_ge (sC P f b) (sC P f c') with h | h
            · exact Or.inl h
            · exact Or.inr ⟨by omega, show c' ≤ b by omega⟩
          · exact h2 c' ⟨by omega, q2, q3⟩
      · rw [if_neg (fun q => hle ((nI_leI (by omega) (by omega)).mp q))]
        refine ⟨_, ⟨c, sC P f c, rfl, by omega, Or.inr ⟨rfl, ⟨by omega, by omega, hp⟩, ?_⟩⟩, rfl⟩
        rintro c' ⟨q1, q2, q3⟩
        by_cases e : c' = c
        · subst e; exact Or.inr ⟨rfl, Nat.le_refl _⟩
        · left
          rcases hbw with ⟨h1, h2⟩ | ⟨h1, -, h2⟩
          · exact absurd q3 (h2 c' (by omega) q2)
          · rcases h2 c' ⟨by omega, q2, q3⟩ with h | h
            · omega
            · omega
    · rw [if_neg (fun q => hp ((nI_eq (by omega) (by omega)).mp q))]
      refine ⟨_, ⟨b, w, rfl, hw, ?_⟩, rfl⟩
      rcases hbw with ⟨h1, h2⟩ | ⟨h1, ⟨b1, b2, b3⟩, h2⟩
      · refine Or.inl ⟨h1, fun c' q1 q2 => ?_⟩
        by_cases e : c' = c
        · rw [e]; exact hp
        · exact h2 c' (by omega) q2
      · refine Or.inr ⟨h1, ⟨by omega, b2, b3⟩, ?_⟩
        rintro c' ⟨q1, q2, q3⟩
        by_cases e : c' = c
        · rw [e] at q3; exact absurd q3 hp
        · exact h2 c' ⟨by omega, q2, q3⟩
  · rintro _ rc ⟨b, w, rfl, hw, hbw⟩
    rw [Nat.sub_self] at hbw ⊢
    refine ⟨b, ?_, ?_⟩
    · show B_X1_bestCuts_28 S (nI (m + 1)) _ rc (nI b) (nI w) (dI 0) = _
      unfold B_X1_bestCuts_28
      rw [if_pos dI_neg]
    · rcases hbw with ⟨-, h2⟩ | ⟨-, ⟨b1, b2, b3⟩, h2⟩
      · obtain ⟨c, c1, c2⟩ := hex
        exact absurd c2 (h2 c (Nat.zero_le _) c1)
      · exact ⟨⟨b2, b3⟩, fun c hc => h2 c ⟨Nat.zero_le _, hc⟩⟩
/-- parts lie in the reference's row -/
def PA (P : Pb) (x : Nat → Bool) (q : Nat) (U : XSr) : Prop := ∀ i, i < P.n → U.1 q i = nI (pt x i)
theorem strR_eq (hR : RP P U) (h17 : ∀ i, i < P.n → U.1 17 i = nI (ix f i)) (hlt : ∀ i, i < P.n → ix f i < P.n) {x : Nat → Bool} (hA : PA P x 20 U) : F_X7_straddles U = some (nI (strN P f x)) := by
  have hn := hR.1.1
  have hkl : ∀ g, P.kd g < 2 ^ 31 := fun g => Nat.lt_trans (hR.1.2.1 _) (by decide)
  unfold F_X7_straddles
  refine xlp_Q (Q := fun o => o = some (nI (strN P f x))) (I := fun k t => t = (nI (smN (fun k => P.w k * (popN 12 (pkk P f x k P.n) - 1)) k), nI k)) 0 10 (by omega) (by omega) rfl ?_ ?_
  · rintro k _ rc - hk rfl
    right
    refine ⟨_, rfl, ?_⟩
    show B_X7_straddles_4 U _ rc (nI (smN (fun k => P.w k * (popN 12 (pkk P f x k P.n) - 1)) k)) (nI k) = _
    unfold B_X7_straddles_4
    rw [if_neg (show ¬ (10 : Int32) ≤ nI k from nI_ge (b := 10) (by omega) (by decide))]
    have hin : ∀ (c1 : Int32) (J : Int32 → Option Int32), xlp (fun k' rc t => B_X7_straddles_15 U c1 (nI k) k' rc t.1 t.2) J XFU (0, 0) = J (nI (pkk P f x k P.n)) := by
      intro c1 J
      refine xlp_Q (Q := fun o => o = J (nI (pkk P f x k P.n))) (I := fun p t => t = (nI (pkk P f x k p), nI p)) 0 P.n (by omega) (by omega) rfl ?_ ?_
      · rintro p _ rc' - hp rfl
        right
        refine ⟨_, rfl, ?_⟩
        have hg := hlt p hp
        have hpt := pt_le x p
        show B_X7_straddles_15 U c1 (nI k) _ rc' (nI (pkk P f x k p)) (nI p) = _
        unfold B_X7_straddles_15
        have hxp : xin (nI p) 8 = true := xin_nI (by omega) (by decide)
        rw [hR.2.1, if_neg (fun q => absurd ((nI_leI (by omega) (by omega)).mp q) (by omega)), if_pos hxp, if_pos hxp, xti_nI (by omega), h17 p hp, if_pos (xin_nI (by omega) (by decide)), xti_nI (by omega), hR.2.2.2.2.2.2.2 _ hg, is_eq (hkl _) (by omega), hA p hp]
        simp only [xlet_eq, nI_1]
        have es : pkk P f x k (p + 1) = pkk P f x k p ||| (if (P.kd (ix f p)).testBit k = true then 2 ^ pt x p else 0) := rfl
        rw [es, nI_shl1 (by omega), nI_or]
        cases hb : (P.kd (ix f p)).testBit k with
        | true => rw [if_neg (by decide), if_pos rfl]
        | false => rw [if_pos (by decide), if_neg (by decide), show (0 : Int32) = nI 0 from nI_0.symm, nI_or]
      · rintro _ rc' rfl
        show B_X7_straddles_15 U c1 (nI k) _ rc' _ (nI P.n) = _
        unfold B_X7_straddles_15
        rw [hR.2.1, if_pos ((nI_leI (by omega) (by omega)).mpr (Nat.le_refl _))]
    rw [hin, ones_eq U (show pkk P f x k P.n < 2 ^ 31 from Nat.lt_trans (pkk_lt P f x k hn) (by decide)), if_pos (xin_nI (by omega) (by decide)), xti_nI (by omega), hR.2.2.2.2.2.1 k hk]
    simp only [Option.bind_some, xlet_eq, nI_1]
    have es : smN (fun k => P.w k * (popN 12 (pkk P f x k P.n) - 1)) (k + 1) = smN (fun k => P.w k * (popN 12 (pkk P f x k P.n) - 1)) k + P.w k * (popN 12 (pkk P f x k P.n) - 1) := rfl
    rw [es]
    have hpl := pkk_lt P f x k hn
    by_cases hz : pkk P f x k P.n = 0
    · rw [if_pos ((nI_z (by omega)).mpr hz), hz, popN_0, show (0 : Int32) = nI 0 from nI_0.symm, nI_add]
      rfl
    · have hpos : 0 < popN 12 (pkk P f x k P.n) := by
        rcases Nat.eq_zero_or_pos (popN 12 (pkk P f x k P.n)) with h | h
        · exfalso
          have h2 := popN_subs (a := 0) (b := pkk P f x k P.n) (fun q hq => by simp at hq) 12
          have h3 := h2.2 (by rw [popN_0, h])
          apply hz
          apply bits_eq
          intro q
          rcases Nat.lt_or_ge q 12 with hq | hq
          · rw [← h3 q hq]
          · rw [Nat.testBit_lt_two_pow (Nat.lt_of_lt_of_le hpl (Nat.pow_le_pow_right (n := 2) (by decide) (by omega)))]; simp
        · exact h
      rw [if_neg (fun q => hz ((nI_z (by omega)).mp q)), show nI (popN 12 (pkk P f x k P.n)) - (1 : Int32) = nI (popN 12 (pkk P f x k P.n) - 1) from pk_sub (b := 1) hpos, pk_mul, nI_add]
  · rintro _ rc rfl
    show B_X7_straddles_4 U _ rc _ (nI 10) = _
    unfold B_X7_straddles_4
    rw [if_pos (show (10 : Int32) ≤ nI 10 by decide)]
    rfl
theorem parts_fill {c : Nat} (hc : c < 2 ^ 31) (h00 : U.1 0 0 = nI P.n) (hn : P.n ≤ 8) (hn0 : 0 < P.n) (c1 c2 c3 : Int32) (J : XSr → Option (Int32 × XSr)) (Q : Option (Int32 × XSr) → Prop) (hk : ∀ V : XSr, (∀ q, q ≠ 20 → V.1 q = U.1 q) → V.2 = U.2 → PA P (chR c) 20 V → Q (J V)) : Q (xlp (fun k rc t => B_X7_phasesNow_58 c1 c2 c3 (nI c) k rc t.1 t.2) J XFU (1, xsr U 20 0 0)) := by
  refine xlp_Q (Q := Q) (I := fun p t => ∃ V : XSr, t = (nI p, V) ∧ (∀ q, q ≠ 20 → V.1 q = U.1 q) ∧ V.2 = U.2 ∧ ∀ i, i < p → V.1 20 i = nI (pt (chR c) i)) 1 P.n (by omega) hn0 ⟨_, rfl, fun q hq => by rw [xsr_1, xst_ne _ _ _ hq], rfl, fun i hi => by
    have : i = 0 := by omega
    subst this
    rfl⟩ ?_ ?_
  · rintro p _ rc hp1 hp ⟨V, rfl, vfr, v2, vce⟩
    right
    obtain ⟨p', rfl⟩ : ∃ p', p = p' + 1 := ⟨p - 1, by omega⟩
    refine ⟨(nI (p' + 1 + 1), xsr V 20 (p' + 1) (nI (pt (chR c) (p' + 1)))), ⟨_, rfl, fun q hq => by rw [xsr_1, xst_ne _ _ _ hq]; exact vfr q hq, v2, fun i hi => ?_⟩, ?_⟩
    · rw [xsr_1, xst_at]
      by_cases e : i = p' + 1
      · rw [if_pos e, e]
      · rw [if_neg e]; exact vce i (by omega)
    · show B_X7_phasesNow_58 c1 c2 c3 (nI c) _ rc (nI (p' + 1)) V = _
      unfold B_X7_phasesNow_58
      rw [vfr 0 (by decide), h00, if_neg (fun q => absurd ((nI_leI (by omega) (by omega)).mp q) (by omega)), nI_sub1, if_pos (xin_nI (by omega) (by decide)), if_pos (xin_nI (by omega) (by decide)), xti_nI (by omega), xti_nI (by omega), vce p' (by omega), nI_bit hc (by omega), nI_add, nI_1]
      rfl
  · rintro _ rc ⟨V, rfl, vfr, v2, vce⟩
    have : B_X7_phasesNow_58 c1 c2 c3 (nI c) J rc (nI P.n) V = J V := by
      unfold B_X7_phasesNow_58
      rw [vfr 0 (by decide), h00, if_pos ((nI_leI (by omega) (by omega)).mpr (Nat.le_refl _))]
    show Q (B_X7_phasesNow_58 c1 c2 c3 (nI c) J rc (nI P.n) V)
    rw [this]
    exact hk V vfr v2 vce
theorem parts_copy {x : Nat → Bool} (hA : PA P x 20 U) (h00 : U.1 0 0 = nI P.n) (hn : P.n ≤ 8) (c1 c2 c3 c4 : Int32) (J : XSr → Option (Int32 × XSr)) (Q : Option (Int32 × XSr) → Prop) (hk : ∀ V : XSr, (∀ q, q ≠ 21 → V.1 q = U.1 q) → V.2 = U.2 → PA P x 21 V → Q (J V)) : Q (xlp (fun k rc t => B_X7_phasesNow_130 c1 c2 c3 c4 k rc t.1 t.2) J XFU (0, U)) := by
  refine xlp_Q (Q := Q) (I := fun p t => ∃ V : XSr, t = (nI p, V) ∧ (∀ q, q ≠ 21 → V.1 q = U.1 q) ∧ V.2 = U.2 ∧ ∀ i, i < p → V.1 21 i = nI (pt x i)) 0 P.n (by omega) (by omega) ⟨U, rfl, fun _ _ => rfl, rfl, fun i hi => by omega⟩ ?_ ?_
  · rintro p _ rc - hp ⟨V, rfl, vfr, v2, vce⟩
    right
    refine ⟨(nI (p + 1), xsr V 21 p (nI (pt x p))), ⟨_, rfl, fun q hq => by rw [xsr_1, xst_ne _ _ _ hq]; exact vfr q hq, v2, fun i hi => ?_⟩, ?_⟩
    · rw [xsr_1, xst_at]
      by_cases e : i = p
      · rw [if_pos e, e]
      · rw [if_neg e]; exact vce i (by omega)
    · show B_X7_phasesNow_130 c1 c2 c3 c4 _ rc (nI p) V = _
      unfold B_X7_phasesNow_130
      rw [vfr 0 (by decide), h00, if_neg (fun q => absurd ((nI_leI (by omega) (by omega)).mp q) (by omega)), if_pos (xin_nI (by omega) (by decide)), if_pos (xin_nI (by omega) (by decide)), xti_nI (by omega), vfr 20 (by decide), hA p hp, nI_1]
      rfl
  · rintro _ rc ⟨V, rfl, vfr, v2, vce⟩
    have : B_X7_phasesNow_130 c1 c2 c3 c4 J rc (nI P.n) V = J V := by
      unfold B_X7_phasesNow_130
      rw [vfr 0 (by decide), h00, if_pos ((nI_leI (by omega) (by omega)).mpr (Nat.le_refl _))]
    show Q (B_X7_phasesNow_130 c1 c2 c3 c4 J rc (nI P.n) V)
    rw [this]
    exact hk V vfr v2 vce
theorem earl_eq (hn : P.n ≤ 8) (h00 : U.1 0 0 = nI P.n) {c b : Nat} (hc : c < 2 ^ (P.n - 1)) (hb : b < 2 ^ (P.n - 1)) (hA : PA P (chR c) 20 U) (hB : PA P (chR b) 21 U) : F_X7_isEarlier U = some (if rv P.n b < rv P.n c then 1 else 0) := by
  have hN := two7 hn
  unfold F_X7_isEarlier
  refine xlp_Q (Q := fun o => o = some (if rv P.n b < rv P.n c then 1 else 0)) (I := fun p t => t = nI p ∧ (∀ i, i < p → pt (chR c) i = pt (chR b) i) ∧ ∀ i, 0 < i → i < p → chR c i = chR b i) 0 P.n (by omega) (by omega) ⟨rfl, fun i hi => by omega, fun i _ hi => by omega⟩ ?_ ?_
  · rintro p _ rc - hp ⟨rfl, heq, hch⟩
    have l1 := pt_le (chR c) p
    have l2 := pt_le (chR b) p
    show B_X7_isEarlier_2 U _ rc (nI p) = _ ∨ ∃ t', _ ∧ B_X7_isEarlier_2 U _ rc (nI p) = rc t'
    unfold B_X7_isEarlier_2
    have hx : xin (nI p) 8 = true := xin_nI (by omega) (by decide)
    rw [h00, if_neg (fun q => absurd ((nI_leI (by omega) (by omega)).mp q) (by omega)), if_pos hx, if_pos hx, if_pos hx, if_pos hx, xti_nI (by omega), hA p hp, hB p hp]
    by_cases e : pt (chR c) p = pt (chR b) p
    · rw [if_pos (by rw [e]), xlet_eq, nI_1]
      refine Or.inr ⟨_, ⟨rfl, fun i hi => ?_, fun i h0 hi => ?_⟩, rfl⟩
      · by_cases ei : i = p
        · rw [ei]; exact e
        · exact heq i (by omega)
      · by_cases ei : i = p
        · subst ei
          obtain ⟨i', rfl⟩ : ∃ i', i = i' + 1 := ⟨i - 1, by omega⟩
          have e1 : pt (chR c) i' + (chR c (i' + 1)).toNat = pt (chR b) i' + (chR b (i' + 1)).toNat := e
          rw [heq i' (by omega)] at e1
          have e2 : (chR c (i' + 1)).toNat = (chR b (i' + 1)).toNat := by omega
          cases h1 : chR c (i' + 1) <;> cases h2 : chR b (i' + 1) <;> simp_all
        · exact hch i h0 (by omega)
    · left
      rw [if_neg (fun q => e ((nI_eq (by omega) (by omega)).mp q))]
      have hp0 : p ≠ 0 := fun h => by rw [h] at e; exact e rfl
      obtain ⟨p', rfl⟩ : ∃ p', p = p' + 1 := ⟨p - 1, by omega⟩
      have e1 : pt (chR c) (p' + 1) = pt (chR c) p' + (chR c (p' + 1)).toNat := rfl
      have e2 : pt (chR b) (p' + 1) = pt (chR b) p' + (chR b (p' + 1)).toNat := rfl
      rw [e1, e2, heq p' (by omega)] at e
      -- the bits of the turned numbers
      have hbits : ∀ d, ∀ j, P.n - 1 - (p' + 1) < j → (rv P.n d).testBit j = if j < P.n - 1 then chR d (P.n - 1 - j) else false := by
        intro d j hj
        by_cases hj2 : j < P.n - 1
        · rw [if_pos hj2]
          have := rv_bit (n := P.n) (c := d) (i := P.n - 1 - j) (by omega) (by omega)
          unfold chC at this
          rw [show P.n - 1 - (P.n - 1 - j) = j by omega] at this
          exact this
        · rw [if_neg hj2]
          exact Nat.testBit_lt_two_pow (Nat.lt_of_lt_of_le (rv_lt P.n d) (Nat.pow_le_pow_right (by decide) (by omega)))
      have hsame : ∀ j, P.n - 1 - (p' + 1) < j → (rv P.n b).testBit j = (rv P.n c).testBit j := by
        intro j hj
        rw [hbits b j hj, hbits c j hj]
        by_cases hj2 : j < P.n - 1
        · rw [if_pos hj2, if_pos hj2, hch _ (by omega) (by omega)]
        · rw [if_neg hj2, if_neg hj2]
      have hcb := rv_bit (n := P.n) (c := c) (i := p' + 1) (by omega) hp
      have hbb := rv_bit (n := P.n) (c := b) (i := p' + 1) (by omega) hp
      unfold chC at hcb hbb
      cases h1 : chR c (p' + 1) with
      | true =>
        have h2 : chR b (p' + 1) = false := by
          cases h2 : chR b (p' + 1) with
          | false => rfl
          | true => rw [h1, h2] at e; exact absurd rfl e
        rw [if_neg (fun q => by
          have := (nI_leI (by omega) (by omega)).mp q
          rw [e1, e2, heq p' (by omega), h1, h2] at this
          have t1 : (true : Bool).toNat = 1 := rfl
          have t2 : (false : Bool).toNat = 0 := rfl
          omega), if_pos (lt_tb (P.n - 1 - (p' + 1)) (by rw [hbb]; exact h2) (by rw [hcb]; exact h1) hsame)]
      | false =>
        have h2 : chR b (p' + 1) = true := by
          cases h2 : chR b (p' + 1) with
          | true => rfl
          | false => rw [h1, h2] at e; exact absurd rfl e
        have hlt := lt_tb (P.n - 1 - (p' + 1)) (x := rv P.n c) (y := rv P.n b) (by rw [hcb]; exact h1) (by rw [hbb]; exact h2) (fun j hj => (hsame j hj).symm)
        rw [if_pos ((nI_leI (by omega) (by omega)).mpr (by
          rw [e1, e2, heq p' (by omega), h1, h2]
          have t1 : (true : Bool).toNat = 1 := rfl
          have t2 : (false : Bool).toNat = 0 := rfl
          omega)), if_neg (by omega)]
  · rintro _ rc ⟨rfl, heq, hch⟩
    show B_X7_isEarlier_2 U _ rc (nI P.n) = _
    unfold B_X7_isEarlier_2
    rw [h00, if_pos ((nI_leI (by omega) (by omega)).mpr (Nat.le_refl _))]
    have : rv P.n b = rv P.n c := by
      apply bits_eq
      intro j
      by_cases hj : j < P.n - 1
      · have h1 := rv_bit (n := P.n) (c := b) (i := P.n - 1 - j) (by omega) (by omega)
        have h2 := rv_bit (n := P.n) (c := c) (i := P.n - 1 - j) (by omega) (by omega)
        unfold chC at h1 h2
        rw [show P.n - 1 - (P.n - 1 - j) = j by omega] at h1 h2
        rw [h1, h2, hch _ (by omega) (by omega)]
      · rw [Nat.testBit_lt_two_pow (Nat.lt_of_lt_of_le (rv_lt P.n b) (Nat.pow_le_pow_right (by decide) (by omega))), Nat.testBit_lt_two_pow (Nat.lt_of_lt_of_le (rv_lt P.n c) (Nat.pow_le_pow_right (by decide) (by omega)))]
    rw [this, if_neg (Nat.lt_irrefl _)]
end P2
