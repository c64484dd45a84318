/-! THE REFERENCE: counts, works -/
def cTail (c : Int32) (t17 : XSr) : Option XSr := (xlet (fun (t19 : XSr) => (if c = (t19.1 0 23) then (xlet (xsr t19 0 24 ((t19.1 0 24) + (1 : Int32))) fun S21 => (xlp (fun k rc t => B_X7_counts_230   k rc t.1 t.2.1 t.2.2) (fun e33 => (some e33)) XFU (0, 0, S21))) else (some t19))) fun j20 => (if (t17.1 0 23) ≤ c then j20 t17 else (xlet (xsr t17 0 23 c) fun S34 => (xlet (xsr S34 0 24 0) fun S35 => (xlp (fun k rc t => B_X7_counts_165  c k rc t.1 t.2) (fun e44 => j20 e44) XFU (0, S35))))))
def cOut (c b : Int32) (S16 : XSr) : Option XSr := (if (S16.1 0 31) = (-1) then cTail c (xsr S16 0 31 b) else ((F_X7_ones S16 b).bind fun z46 => ((F_X7_ones S16 (S16.1 0 31)).bind fun z47 => (if z46 < z47 then cTail c (xsr S16 0 31 b) else ((F_X7_ones S16 b).bind fun z49 => ((F_X7_ones S16 (S16.1 0 31)).bind fun z50 => (if z49 = z50 then (if (S16.1 0 31) ≤ b then cTail c S16 else cTail c (xsr S16 0 31 b)) else cTail c S16)))))))
def cS (U : XSr) (c : Int32) : XSr := xsr (xsl (xsr U 0 25 ((U.1 0 25) + (1 : Int32))) ((xsr U 0 25 ((U.1 0 25) + (1 : Int32))).2 + (c.toInt64))) 16 (xti c) (((xsl (xsr U 0 25 ((U.1 0 25) + (1 : Int32))) ((xsr U 0 25 ((U.1 0 25) + (1 : Int32))).2 + (c.toInt64))).1 16 (xti c)) + (1 : Int32))
theorem counts_f (U : XSr) : F_X7_counts U = xlp (fun k rc t => B_X7_counts_6 U k rc t.1 t.2.1 t.2.2) (fun e11 => (if xin e11.1 1000 = true then cOut e11.1 e11.2 (cS U e11.1) else none)) XFU (0, 0, 0) := by
  unfold F_X7_counts
  congr 1
  funext e11
  unfold cOut cTail cS
  simp only [xlet_eq]
  by_cases h : xin e11.1 1000 = true
  · rw [if_pos h, if_pos h]
  · rw [if_neg h, if_neg h]
/-- what the tail leaves as it was -/
def tfr (U V : XSr) : Prop := (∀ q, q ≠ 0 → q ≠ 17 → q ≠ 18 → q ≠ 19 → V.1 q = U.1 q) ∧ (∀ j, j ≠ 23 → j ≠ 24 → V.1 0 j = U.1 0 j) ∧ V.2 = U.2
theorem find_snoc_no {D : List (List Nat)} {p : List Nat} {f : List Nat → Bool} (h : ∀ q ∈ D, f q = false) (hp : f p = true) : (D ++ [p]).find? f = some p := by
  rw [List.find?_append, List.find?_eq_none.mpr (fun q hq => by rw [h q hq]; decide)]
  simp [hp]
theorem cTail_eq {P : Pb} {U : XSr} {D : List (List Nat)} {p : List Nat} (hP : P.good) (h0 : U.1 0 0 = nI P.n) (hO : RO P p U) (hA : RA3 P D U) : ∃ V : XSr, cTail (nI (P.gaps p)) U = some V ∧ RA3 P (D ++ [p]) V ∧ tfr U V := by
  have hn := hP.1
  have hg := gaps_le hP (p := p) (by rw [hO.1]; exact hn)
  obtain ⟨o1, o2, o3, o4⟩ := hO
  have hmL : P.mg D ≤ 100000 := lmin_led _ _
  have hms := mg_snoc P D hg
  have hlast : (D ++ [p]).map P.gaps = D.map P.gaps ++ [P.gaps p] := by rw [List.map_append]; rfl
  have hne : D ++ [p] ≠ [] := by simp
  have hpl : ∀ g, g < P.n → ∃ i, i < P.n ∧ ix p i = g := by
    intro g hg
    -- an order of all graves has each
    have hfull : p ∈ perms P.n P.n 0 := mem_perms.mpr ⟨o1, o3, o2, fun x _ => by simp⟩
    have := (fills_of (P := P) (s := 0) (Nat.two_pow_pos _) (by rw [popN_0]; omega) hfull).2.2 g
    rcases this.mp hg with h | h
    · simp at h
    · obtain ⟨i, hi, e⟩ := ix_of h
      exact ⟨i, by omega, e⟩
  have hfin : ∀ i, i < P.n → fin 0 (p.take i) < 256 := fun i hi => Nat.lt_of_lt_of_le (fin_lt (n := P.n) (Nat.two_pow_pos _) (fun g hg => o3 g (List.mem_of_mem_take hg))) (two8 hn)
  obtain ⟨a1, a2, a3⟩ := hA
  unfold cTail
  simp only [xlet_eq]
  rw [a1]
  rcases Nat.lt_trichotomy (P.gaps p) (P.mg D) with hc | hc | hc
  · rw [if_neg (fun q => absurd ((nI_leI (by omega) (by omega)).mp q) (by omega))]
    have hm : P.mg (D ++ [p]) = P.gaps p := by rw [hms, Nat.min_eq_right (by omega)]
    have hnoD : ∀ q ∈ D, P.gaps q ≠ P.gaps p := fun q hq => by have := mg_le (P := P) hq; omega
    have hbest : ∀ q, (q ∈ D ++ [p] ∧ P.gaps q = P.gaps p) ↔ q = p := by
      intro q
      constructor
      · rintro ⟨h1, h2⟩
        rcases List.mem_append.mp h1 with h | h
        · exact absurd h2 (hnoD q h)
        · exact List.mem_singleton.mp h
      · rintro rfl; exact ⟨by simp, rfl⟩
    refine cnt165 hn (U := xsr (xsr U 0 23 (nI (P.gaps p))) 0 24 0) h0 ⟨o1, o2, o3, o4⟩ _ _ (fun o => ∃ V : XSr, o = some V ∧ RA3 P (D ++ [p]) V ∧ tfr U V) (fun W wfr w2 wce => ?_)
    have w23 : W.1 0 23 = nI (P.gaps p) := by rw [wfr 0 (by decide) (by decide) (by decide)]; rfl
    have w24 : W.1 0 24 = 0 := by rw [wfr 0 (by decide) (by decide) (by decide)]; rfl
    have w00 : W.1 0 0 = nI P.n := by rw [wfr 0 (by decide) (by decide) (by decide)]; exact h0
    have w15 : W.1 15 = U.1 15 := wfr 15 (by decide) (by decide) (by decide)
    rw [w23, if_pos rfl, w24]
    obtain ⟨V, e, vfr, v2, vce⟩ := cnt230 (P := P) (p := p) (U := xsr W 0 24 (0 + 1)) hn w00 ⟨o1, o2, o3, fun i hi => by show W.1 15 i = _; rw [w15]; exact o4 i hi⟩ (fun g hg => ⟨by show bd (W.1 18 g) 255; rw [(wce g hg).2.1]; exact bd_nI (by omega) (by decide), by show bd (W.1 19 g) 255; rw [(wce g hg).2.2]; exact bd_nI (by omega) (by decide)⟩)
    refine ⟨V, e, ⟨?_, ?_, fun _ => ⟨⟨p, ?_, fun i hi => ?_⟩, fun g hg => ?_, fun g hg => ?_⟩⟩, fun q q0 q1 q2 q3 => ?_, fun j j1 j2 => ?_, ?_⟩
    · rw [vfr 0 (by decide) (by decide), hm]; exact w23
    · rw [vfr 0 (by decide) (by decide), hm, hlast, List.count_append, count_low (fun x hx => by
        obtain ⟨q, hq, rfl⟩ := List.mem_map.mp hx
        have := mg_le (P := P) hq
        omega)]
      show (0 : Int32) + 1 = nI (0 + [P.gaps p].count (P.gaps p))
      simp
      rfl
    · exact find_snoc_no (fun q hq => by rw [hm]; simpa using hnoD q hq) (by rw [hm]; simp)
    · rw [vfr 17 (by decide) (by decide)]; exact (wce i hi).1
    · obtain ⟨i, hi, rfl⟩ := hpl g hg
      refine ⟨255 &&& fin 0 (p.take i), Nat.lt_of_le_of_lt Nat.and_le_left (by decide), ?_, fun a ha => ?_⟩
      · rw [(vce i hi).1]
        show nI (xti (W.1 18 (ix p i)) &&& _) = _
        rw [(wce _ hg).2.1, xti_nI (by decide)]
      · rw [Nat.testBit_and, show (255 : Nat).testBit a = true from by
          have : ∀ a, a < 8 → (255 : Nat).testBit a = true := by decide
          exact this a ha, Bool.true_and, ← bfr_take o2 (by omega), hm]
        constructor
        · intro h q hq hqg
          rw [(hbest q).mp ⟨hq, hqg⟩]; exact h
        · intro h; exact h p (by simp) rfl
    · obtain ⟨i, hi, rfl⟩ := hpl g hg
      refine ⟨0 ||| 2 ^ i, Nat.or_lt_two_pow (n := 8) (by decide) (two_lt (by omega)), ?_, fun j hj => ?_⟩
      · rw [(vce i hi).2]
        show nI (xti (W.1 19 (ix p i)) ||| _) = _
        rw [(wce _ hg).2.2, xti_nI (by decide)]
      · rw [or2_bit, hm]
        simp only [Nat.zero_testBit, Bool.false_or, decide_eq_true_eq]
        constructor
        · rintro rfl; exact ⟨p, by simp, rfl, hi, rfl⟩
        · rintro ⟨q, h1, h2, h3, h4⟩
          rw [(hbest q).mp ⟨h1, h2⟩] at h4
          exact (ix_inj o2 (by omega) (by omega) h4).symm
    · rw [vfr q q2 q3, xsr_1, xst_ne _ _ _ q0, wfr q q1 q2 q3, xsr_1, xsr_1, xst_ne _ _ _ q0, xst_ne _ _ _ q0]
    · rw [vfr 0 (by decide) (by decide), xsr_1, xst_idx _ _ _ j2, wfr 0 (by decide) (by decide) (by decide), xsr_1, xsr_1, xst_idx _ _ _ j2, xst_idx _ _ _ j1]
    · rw [v2]; exact w2
  · have hDne : D ≠ [] := fun e => by rw [e, mg_nil] at hc; omega
    obtain ⟨⟨f, f1, f2⟩, b1, b2⟩ := a3 hDne
    rw [if_pos ((nI_leI (by omega) (by omega)).mpr (by omega)), hc, if_pos rfl, a2]
    have hm : P.mg (D ++ [p]) = P.mg D := by rw [hms, Nat.min_eq_left (by omega)]
    obtain ⟨V, e, vfr, v2, vce⟩ := cnt230 (P := P) (p := p) (U := xsr U 0 24 (nI ((D.map P.gaps).count (P.mg D)) + 1)) hn h0 ⟨o1, o2, o3, o4⟩ (fun g hg => by
      obtain ⟨A, hA1, hA2, -⟩ := b1 g hg
      obtain ⟨A', hA1', hA2', -⟩ := b2 g hg
      refine ⟨?_, ?_⟩
      · show bd (U.1 18 g) 255
        rw [hA2]; exact bd_nI (by omega) (by decide)
      · show bd (U.1 19 g) 255
        rw [hA2']; exact bd_nI (by omega) (by decide))
    refine ⟨V, e, ⟨?_, ?_, fun _ => ⟨⟨f, ?_, fun i hi => ?_⟩, fun g hg => ?_, fun g hg => ?_⟩⟩, fun q q0 q1 q2 q3 => ?_, fun j j1 j2 => ?_, ?_⟩
    · rw [vfr 0 (by decide) (by decide), hm]; exact a1
    · rw [vfr 0 (by decide) (by decide), hm, hlast, List.count_append, hc]
      show nI ((D.map P.gaps).count (P.mg D)) + 1 = nI ((D.map P.gaps).count (P.mg D) + [P.mg D].count (P.mg D))
      rw [nI_1]; simp
    · rw [hm, List.find?_append, f1]; rfl
    · rw [vfr 17 (by decide) (by decide)]; exact f2 i hi
    · obtain ⟨i, hi, rfl⟩ := hpl g hg
      obtain ⟨A, hA1, hA2, hA3⟩ := b1 _ hg
      refine ⟨A &&& fin 0 (p.take i), Nat.lt_of_le_of_lt Nat.and_le_left hA1, ?_, fun a ha => ?_⟩
      · rw [(vce i hi).1]
        show nI (xti (U.1 18 (ix p i)) &&& _) = _
        rw [hA2, xti_nI (by omega)]
      · rw [Nat.testBit_and, Bool.and_eq_true, hA3 a ha, ← bfr_take o2 (by omega), hm]
        constructor
        · rintro ⟨h1, h2⟩ q hq hqg
          rcases List.mem_append.mp hq with h | h
          · exact h1 q h hqg
          · rw [List.mem_singleton.mp h]; exact h2
        · intro h
          exact ⟨fun q hq hqg => h q (List.mem_append_left _ hq) hqg, h p (by simp) hc⟩
    · obtain ⟨i, hi, rfl⟩ := hpl g hg
      obtain ⟨A, hA1, hA2, hA3⟩ := b2 _ hg
      refine ⟨A ||| 2 ^ i, Nat.or_lt_two_pow (n := 8) hA1 (two_lt (by omega)), ?_, fun j hj => ?_⟩
      · rw [(vce i hi).2]
        show nI (xti (U.1 19 (ix p i)) ||| _) = _
        rw [hA2, xti_nI (by omega)]
      · rw [or2_bit, Bool.or_eq_true, hA3 j hj, decide_eq_true_eq, hm]
        constructor
        · rintro (⟨q, h1, h2⟩ | rfl)
          · exact ⟨q, List.mem_append_left _ h1, h2⟩
          · exact ⟨p, by simp, hc, hi, rfl⟩
        · rintro ⟨q, h1, h2, h3, h4⟩
          rcases List.mem_append.mp h1 with h | h
          · exact Or.inl ⟨q, h, h2, h3, h4⟩
          · rw [List.mem_singleton.mp h] at h4
            exact Or.inr (ix_inj o2 (by omega) (by omega) h4).symm
    · rw [vfr q q2 q3, xsr_1, xst_ne _ _ _ q0]
    · rw [vfr 0 (by decide) (by decide), xsr_1, xst_idx _ _ _ j2]
    · rw [v2]; rfl
  · have hDne : D ≠ [] := fun e => by rw [e, mg_nil] at hc; omega
    have hm : P.mg (D ++ [p]) = P.mg D := by rw [hms, Nat.min_eq_left (by omega)]
    rw [if_pos ((nI_leI (by omega) (by omega)).mpr (by omega)), if_neg (fun q => absurd ((nI_eq (by omega) (by omega)).mp q) (by omega))]
    obtain ⟨⟨f, f1, f2⟩, b1, b2⟩ := a3 hDne
    have hbest : ∀ q, (q ∈ D ++ [p] ∧ P.gaps q = P.mg D) ↔ (q ∈ D ∧ P.gaps q = P.mg D) := by
      intro q
      constructor
      · rintro ⟨h1, h2⟩
        rcases List.mem_append.mp h1 with h | h
        · exact ⟨h, h2⟩
        · rw [List.mem_singleton.mp h] at h2; omega
      · rintro ⟨h1, h2⟩; exact ⟨List.mem_append_left _ h1, h2⟩
    refine ⟨U, rfl, ⟨by rw [hm]; exact a1, ?_, fun _ => ⟨⟨f, ?_, f2⟩, fun g hg => ?_, fun g hg => ?_⟩⟩, fun _ _ _ _ _ => rfl, fun _ _ _ => rfl, rfl⟩
    · rw [hm, hlast, List.count_append, a2]
      have : [P.gaps p].count (P.mg D) = 0 := count_low (fun x hx => by rw [List.mem_singleton.mp hx]; exact hc)
      rw [this, Nat.add_zero]
    · rw [hm, List.find?_append, f1]; rfl
    · obtain ⟨A, hA1, hA2, hA3⟩ := b1 _ hg
      refine ⟨A, hA1, hA2, fun a ha => ?_⟩
      rw [hA3 a ha, hm]
      constructor
      · intro h q h1 h2; have := (hbest q).mp ⟨h1, h2⟩; exact h q this.1 this.2
      · intro h q h1 h2; have := (hbest q).mpr ⟨h1, h2⟩; exact h q this.1 this.2
    · obtain ⟨A, hA1, hA2, hA3⟩ := b2 _ hg
      refine ⟨A, hA1, hA2, fun i hi => ?_⟩
      rw [hA3 i hi, hm]
      constructor
      · rintro ⟨q, h1, h2, h3⟩; have := (hbest q).mpr ⟨h1, h2⟩; exact ⟨q, this.1, this.2, h3⟩
      · rintro ⟨q, h1, h2, h3⟩; have := (hbest q).mp ⟨h1, h2⟩; exact ⟨q, this.1, this.2, h3⟩
