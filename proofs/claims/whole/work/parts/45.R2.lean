/-! THE REFERENCE: gaps of a kind, of an order -/
def sI : Option Nat → Int32
  | none => -1
  | some c => nI c
theorem nI_m1 {c : Nat} (h : c < 2 ^ 31) : ¬ nI c = -1 := by
  intro e
  have := nI_pos h
  rw [e] at this
  exact this (by decide)
theorem gapsOf_eq {P : Pb} {U : XSr} {p : List Nat} (hR : RP P U) (hO : RO P p U) {k : Nat} (hk : k < 10) : F_X7_gapsOf U (nI k) = some (nI (gsc k none (P.rwl p))) := by
  have hn := hR.1.1
  obtain ⟨o1, o2, o3, o4⟩ := hO
  unfold F_X7_gapsOf
  refine xlp_Q (Q := fun o => o = some (nI (gsc k none (P.rwl p)))) (I := fun j t => ∃ (acc : Nat) (sc : Option Nat), t = (nI acc, sI sc, nI j) ∧ (∀ c, sc = some c → c ≤ j) ∧ acc + gsc k sc (P.rwl (p.drop j)) = gsc k none (P.rwl p)) 0 P.n (by omega) (by omega) ⟨0, none, rfl, fun c h => (nomatch h), by rw [List.drop_zero]; omega⟩ ?_ ?_
  · rintro j _ rc - hj ⟨acc, sc, rfl, hc, hacc⟩
    right
    have hjl : j < p.length := by omega
    have hg : ix p j < P.n := o3 _ (ix_mem hjl)
    have e15 := o4 j hj
    have hd := ix_drop hjl
    rw [hd] at hacc
    generalize ix p j = g at *
    have hkd : U.1 14 g = nI (P.kd g) := hR.2.2.2.2.2.2.2 g hg
    have hkl : P.kd g < 2 ^ 31 := Nat.lt_trans (hR.1.2.1 g) (by decide)
    show ∃ t', _ ∧ B_X7_gapsOf_7 U (nI k) _ rc (nI acc) (sI sc) (nI j) = rc t'
    unfold B_X7_gapsOf_7
    rw [hR.2.1, if_neg (fun q => absurd ((nI_leI (by omega) (by omega)).mp q) (by omega)), if_pos (xin_nI (by omega) (by decide)), xti_nI (show j < 2 ^ 31 by omega), e15, if_pos (xin_nI (by omega) (by decide)), xti_nI (show g < 2 ^ 31 by omega), hkd, is_eq hkl (by omega), hR.2.2.1, is_eq hR.2.2.2.1 (by omega)]
    simp only [xlet_eq]
    rw [nI_1]
    have hcons : P.rwl (g :: p.drop (j + 1)) = (P.kd g, P.rb.testBit g) :: P.rwl (p.drop (j + 1)) := rfl
    rw [hcons] at hacc
    cases hb : (P.kd g).testBit k with
    | true =>
      rw [if_neg (by decide)]
      cases sc with
      | none =>
        rw [if_pos (show sI none = -1 from rfl)]
        refine ⟨(nI acc + 0, 0, nI (j + 1)), ⟨acc, some 0, ?_, fun c h => ?_, ?_⟩, rfl⟩
        · show (nI acc + nI 0, 0, nI (j + 1)) = _
          rw [nI_add]; rfl
        · cases h; omega
        · rw [← hacc]; simp [gsc, hb]
      | some c =>
        have hcj := hc c rfl
        rw [if_neg (show ¬ sI (some c) = -1 from nI_m1 (show c < 2 ^ 31 by omega))]
        refine ⟨(nI acc + nI c, 0, nI (j + 1)), ⟨acc + c, some 0, ?_, fun c h => ?_, ?_⟩, rfl⟩
        · rw [nI_add]; rfl
        · cases h; omega
        · rw [← hacc]; simp [gsc, hb]; omega
    | false =>
      rw [if_pos (by decide)]
      cases sc with
      | none =>
        rw [if_pos (show sI none = -1 from rfl)]
        refine ⟨_, ⟨acc, none, rfl, fun c h => (nomatch h), ?_⟩, rfl⟩
        rw [← hacc]; simp [gsc, hb]
      | some c =>
        have hcj := hc c rfl
        rw [if_neg (show ¬ sI (some c) = -1 from nI_m1 (show c < 2 ^ 31 by omega)), if_pos (xin_nI (by omega) (by decide))]
        cases hr : P.rb.testBit g with
        | true =>
          rw [if_neg (by decide)]
          refine ⟨(nI acc, nI c + nI 0, nI (j + 1)), ⟨acc, some c, ?_, fun c' h => ?_, ?_⟩, rfl⟩
          · rw [nI_add]; rfl
          · cases h; omega
          · rw [← hacc]; simp [gsc, hb, hr]
        | false =>
          rw [if_pos (by decide)]
          refine ⟨(nI acc, nI c + nI 1, nI (j + 1)), ⟨acc, some (c + 1), ?_, fun c' h => ?_, ?_⟩, rfl⟩
          · rw [nI_add]; rfl
          · cases h; omega
          · rw [← hacc]; simp [gsc, hb, hr]
  · rintro _ rc ⟨acc, sc, rfl, hc, hacc⟩
    have : P.rwl (p.drop P.n) = [] := by rw [← o1, List.drop_length]; rfl
    rw [this] at hacc
    have hz : gsc k sc [] = 0 := by cases sc <;> rfl
    rw [hz, Nat.add_zero] at hacc
    show B_X7_gapsOf_7 U (nI k) _ rc (nI acc) (sI sc) (nI P.n) = _
    unfold B_X7_gapsOf_7
    rw [hR.2.1, if_pos ((nI_leI (by omega) (by omega)).mpr (Nat.le_refl _)), hacc]
theorem gapsNow_eq {P : Pb} {U : XSr} {p : List Nat} (hR : RP P U) (hO : RO P p U) : F_X7_gapsNow U = some (nI (P.gaps p)) := by
  unfold F_X7_gapsNow
  refine xlp_Q (Q := fun o => o = some (nI (P.gaps p))) (I := fun j t => t = (nI (smN (fun k => P.w k * gsc k none (P.rwl p)) j), nI j)) 0 10 (by omega) (by omega) rfl ?_ ?_
  · rintro j _ rc - hj rfl
    right
    refine ⟨_, rfl, ?_⟩
    show B_X7_gapsNow_4 U _ rc (nI (smN (fun k => P.w k * gsc k none (P.rwl p)) j)) (nI j) = _
    unfold B_X7_gapsNow_4
    have hw3 := hR.1.2.2 j
    rw [if_neg (show ¬ (10 : Int32) ≤ nI j from nI_ge (b := 10) (by omega) (by decide)), if_pos (xin_nI (by omega) (by decide)), if_pos (xin_nI (by omega) (by decide)), xti_nI (by omega), hR.2.2.2.2.2.1 j hj, gapsOf_eq hR hO hj]
    simp only [Option.bind_some, xlet_eq]
    rw [nI_1, pk_mul]
    have es : smN (fun k => P.w k * gsc k none (P.rwl p)) (j + 1) = smN (fun k => P.w k * gsc k none (P.rwl p)) j + P.w j * gsc j none (P.rwl p) := rfl
    rw [es]
    by_cases h0 : P.w j = 0
    · rw [if_pos ((nI_z (by omega)).mpr h0), show (0 : Int32) = nI 0 from nI_0.symm, nI_add, h0, Nat.zero_mul]
    · rw [if_neg (fun q => h0 ((nI_z (by omega)).mp q)), nI_add]
  · rintro _ rc rfl
    show B_X7_gapsNow_4 U _ rc _ (nI 10) = _
    unfold B_X7_gapsNow_4
    rw [if_pos (show (10 : Int32) ≤ nI 10 from by decide)]
    rfl
theorem counts_a {P : Pb} {U : XSr} {p : List Nat} (hR : RP P U) (hO : RO P p U) (K : (Int32 × Int32) → Option XSr) : xlp (fun k rc t => B_X7_counts_6 U k rc t.1 t.2.1 t.2.2) K XFU (0, 0, 0) = K (nI (P.gaps p), nI (P.gbits p)) := by
  refine xlp_Q (Q := fun o => o = K (nI (P.gaps p), nI (P.gbits p))) (I := fun j t => t = (nI (smN (fun k => P.w k * gsc k none (P.rwl p)) j), nI (bitsN (fun k => decide (P.w k ≠ 0) && decide (0 < gsc k none (P.rwl p))) j), nI j)) 0 10 (by omega) (by omega) rfl ?_ ?_
  · rintro j _ rc - hj rfl
    right
    refine ⟨_, rfl, ?_⟩
    show B_X7_counts_6 U _ rc (nI (smN (fun k => P.w k * gsc k none (P.rwl p)) j)) (nI (bitsN (fun k => decide (P.w k ≠ 0) && decide (0 < gsc k none (P.rwl p))) j)) (nI j) = _
    unfold B_X7_counts_6
    have hw3 := hR.1.2.2 j
    have hgl : gsc j none (P.rwl p) ≤ 8 := by
      rw [gsc_none]
      have : ∀ (l : List (Nat × Bool)) (b : Bool), gst j b l false ≤ l.length := by
        intro l
        induction l with
        | nil => intro b; exact Nat.le_refl _
        | cons x l ih =>
          intro b
          show _ + gst j (b || x.1.testBit j) l false ≤ l.length + 1
          have h1 := ih (b || x.1.testBit j)
          have h2 := Bool.toNat_le (b && !x.1.testBit j && !x.2 && (anyK j l || false))
          omega
      have h1 := this (P.rwl p) false
      rw [rwl_len, hO.1] at h1
      have := hR.1.1
      omega
    rw [if_neg (show ¬ (10 : Int32) ≤ nI j from nI_ge (b := 10) (by omega) (by decide)), if_pos (xin_nI (by omega) (by decide)), xti_nI (by omega), hR.2.2.2.2.2.1 j hj, gapsOf_eq hR hO hj]
    have hx : xin (nI j) 10 = true := xin_nI (by omega) (by decide)
    simp only [Option.bind_some, xlet_eq, hx, ↓reduceIte]
    have es : smN (fun k => P.w k * gsc k none (P.rwl p)) (j + 1) = smN (fun k => P.w k * gsc k none (P.rwl p)) j + P.w j * gsc j none (P.rwl p) := rfl
    have eb : bitsN (fun k => decide (P.w k ≠ 0) && decide (0 < gsc k none (P.rwl p))) (j + 1) = bitsN (fun k => decide (P.w k ≠ 0) && decide (0 < gsc k none (P.rwl p))) j ||| (if (decide (P.w j ≠ 0) && decide (0 < gsc j none (P.rwl p))) = true then 2 ^ j else 0) := rfl
    rw [es, eb, nI_1, nI_shl1 (by omega), nI_or]
    have o0 : ∀ a : Nat, nI a ||| (0 : Int32) = nI (a ||| 0) := fun a => by rw [show (0 : Int32) = nI 0 from nI_0.symm, nI_or]
    by_cases h0 : P.w j = 0
    · rw [if_pos ((nI_z (by omega)).mpr h0), if_pos (show (0 : Int32) ≤ 0 by decide), o0, h0, show (0 : Int32) = nI 0 from nI_0.symm, pk_mul, nI_add]
      simp
    · rw [if_neg (fun q => h0 ((nI_z (by omega)).mp q)), pk_mul, nI_add]
      by_cases hp : 0 < gsc j none (P.rwl p)
      · rw [if_neg (nI_nle hp (by omega))]
        simp [h0, hp]
      · have e0 : gsc j none (P.rwl p) = 0 := by omega
        rw [e0, if_pos (show nI 0 ≤ 0 by decide), o0]
        simp
  · rintro _ rc rfl
    show B_X7_counts_6 U _ rc _ _ (nI 10) = _
    unfold B_X7_counts_6
    rw [if_pos (show (10 : Int32) ≤ nI 10 from by decide)]
    rfl
theorem plain_eq {P : Pb} {U : XSr} (h0 : U.1 0 0 = nI P.n) (hn : P.n ≤ 8) : ∃ U' : XSr, F_X7_plain U = some U' ∧ (∀ q, q ≠ 15 → U'.1 q = U.1 q) ∧ U'.2 = U.2 ∧ ∀ i, i < P.n → U'.1 15 i = nI i := by
  unfold F_X7_plain
  refine xlp_Q (Q := fun o => ∃ U' : XSr, o = some U' ∧ (∀ q, q ≠ 15 → U'.1 q = U.1 q) ∧ U'.2 = U.2 ∧ ∀ i, i < P.n → U'.1 15 i = nI i) (I := fun j t => ∃ U' : XSr, t = (nI j, U') ∧ (∀ q, q ≠ 15 → U'.1 q = U.1 q) ∧ U'.2 = U.2 ∧ ∀ i, i < j → U'.1 15 i = nI i) 0 P.n (by omega) (by omega) ⟨U, rfl, fun _ _ => rfl, rfl, fun i hi => by omega⟩ ?_ ?_
  · rintro j _ rc - hj ⟨V, rfl, vfr, v2, vce⟩
    right
    refine ⟨(nI (j + 1), xsr V 15 j (nI j)), ⟨_, rfl, fun q hq => ?_, v2, fun i hi => ?_⟩, ?_⟩
    · rw [xsr_1, xst_ne _ _ _ hq]; exact vfr q hq
    · rw [xsr_1, xst_at]
      by_cases e : i = j
      · rw [if_pos e, e]
      · rw [if_neg e]; exact vce i (by omega)
    · show B_X7_plain_2 _ rc (nI j) V = _
      unfold B_X7_plain_2
      rw [vfr 0 (by decide), h0, if_neg (fun q => absurd ((nI_leI (by omega) (by omega)).mp q) (by omega)), if_pos (xin_nI (by omega) (by decide)), xti_nI (by omega)]
      simp only [xlet_eq]
      rw [nI_1]
  · rintro _ rc ⟨V, rfl, vfr, v2, vce⟩
    refine ⟨V, ?_, vfr, v2, vce⟩
    show B_X7_plain_2 _ rc (nI P.n) V = _
    unfold B_X7_plain_2
    rw [vfr 0 (by decide), h0, if_pos ((nI_leI (by omega) (by omega)).mpr (Nat.le_refl _))]
