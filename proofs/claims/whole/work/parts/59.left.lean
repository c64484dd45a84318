/-! LEFT OUT -/
theorem andn_or {a b o : Nat} : andn (a ||| b) o = 0 ↔ andn a o = 0 ∧ andn b o = 0 := by
  rw [andn_0, andn_0, andn_0]
  constructor
  · intro h
    exact ⟨fun k hk => h k (by rw [Nat.testBit_or, hk]; rfl), fun k hk => h k (by rw [Nat.testBit_or, hk, Bool.or_true])⟩
  · rintro ⟨h1, h2⟩ k hk
    rw [Nat.testBit_or, Bool.or_eq_true] at hk
    exact hk.elim (h1 k) (h2 k)
theorem uni_append (P : Pb) (s : Nat) (p q : List Nat) : P.uni s (p ++ q) = P.uni s p ||| P.uni (fin s p) q := by
  induction p generalizing s with
  | nil => show P.uni s q = 0 ||| P.uni s q; rw [Nat.zero_or]
  | cons g p ih =>
    show P.stp s g ||| P.uni (s ||| 2 ^ g) (p ++ q) = (P.stp s g ||| P.uni (s ||| 2 ^ g) p) ||| P.uni (fin (s ||| 2 ^ g) p) q
    rw [ih, Nat.or_assoc]
theorem uni_snoc (P : Pb) (g : Nat) (p : List Nat) : P.uni 0 (p ++ [g]) = P.uni 0 p ||| P.stp (fin 0 p) g := by
  rw [uni_append]
  show _ ||| (P.stp (fin 0 p) g ||| 0) = _
  rw [Nat.or_zero]
theorem sub_or1 {a b c : Nat} (h : andn a b = 0) : andn a (b ||| c) = 0 := by
  rw [andn_0] at h ⊢
  intro k hk
  rw [Nat.testBit_or, h k hk]; rfl
theorem kwg_eq {P : Pb} {S : XSt} (hC : CP P S) (h18 : ∀ s, s < 2 ^ P.n → ∀ g, g < P.n → S 18 (s * 8 + g) = stI P s g) : ∃ W, W < 2 ^ 10 ∧ F_X3_kindsWithGaps S = some (nI W) ∧ ∀ s, s < 2 ^ P.n → ∀ g, g < P.n → P.ok s g = true → andn (P.stp s g) W = 0 := by
  have hn := hC.1.1
  have hN := two8 hn
  have hN0 : 0 < 2 ^ P.n := Nat.two_pow_pos _
  unfold F_X3_kindsWithGaps
  rw [all_eq hC, xlet_eq]
  refine xlp_Q (Q := fun o => ∃ W, W < 2 ^ 10 ∧ o = some (nI W) ∧ ∀ s, s < 2 ^ P.n → ∀ g, g < P.n → P.ok s g = true → andn (P.stp s g) W = 0) (I := fun j t => ∃ W, W < 2 ^ 10 ∧ t = (nI W, nI j) ∧ ∀ s, s < j → ∀ g, g < P.n → P.ok s g = true → andn (P.stp s g) W = 0) 0 (2 ^ P.n) (by omega) (by omega) ⟨0, by decide, rfl, fun s hs => by omega⟩ ?_ ?_
  · rintro j _ rc - hj ⟨W, hW, rfl, hWs⟩
    right
    show ∃ t', _ ∧ B_X3_kindsWithGaps_9 S (nI (2 ^ P.n - 1)) _ rc (nI W) (nI j) = rc t'
    unfold B_X3_kindsWithGaps_9
    rw [if_neg (nI_nlt (by omega) (by omega))]
    refine xlp_Q (Q := fun o => ∃ t' : Int32 × Int32, (∃ W, W < 2 ^ 10 ∧ t' = (nI W, nI (j + 1)) ∧ ∀ s, s < j + 1 → ∀ g, g < P.n → P.ok s g = true → andn (P.stp s g) W = 0) ∧ o = rc t') (I := fun i t => ∃ W, W < 2 ^ 10 ∧ t = (nI W, nI i) ∧ (∀ s, s < j → ∀ g, g < P.n → P.ok s g = true → andn (P.stp s g) W = 0) ∧ ∀ g, g < i → P.ok j g = true → andn (P.stp j g) W = 0) 0 P.n (by omega) (by omega) ⟨W, hW, rfl, hWs, fun g hg => by omega⟩ ?_ ?_
    · rintro i _ rc' - hi ⟨X, hX, rfl, x1, x2⟩
      right
      show ∃ t', _ ∧ B_X3_kindsWithGaps_17 S (nI (2 ^ P.n - 1)) (nI j) _ rc' (nI X) (nI i) = rc' t'
      unfold B_X3_kindsWithGaps_17
      rw [hC.2.1, if_neg (fun q => absurd ((nI_leI (by omega) (by omega)).mp q) (by omega)), nI_8, if_pos (xin_nI (by omega) (by decide)), xti_nI (by omega), h18 j hj i hi]
      simp only [xlet_eq]
      rw [nI_1]
      by_cases ho : P.ok j i = true
      · rw [if_neg (fun q => (stI_no hC.1).mp q ho)]
        unfold stI
        rw [if_pos ho, nI_or]
        refine ⟨_, ⟨X ||| P.stp j i, Nat.or_lt_two_pow hX (stp_lt hC.1 j i), rfl, fun s hs g hg h => sub_or1 (x1 s hs g hg h), fun g hg h => ?_⟩, rfl⟩
        by_cases e : g = i
        · subst e
          rw [andn_0]
          intro k hk
          rw [Nat.testBit_or, hk, Bool.or_true]
        · exact sub_or1 (x2 g (by omega) h)
      · rw [if_pos ((stI_no hC.1).mpr ho), show (0 : Int32) = nI 0 from nI_0.symm, nI_or, Nat.or_zero]
        refine ⟨_, ⟨X, hX, rfl, x1, fun g hg h => ?_⟩, rfl⟩
        by_cases e : g = i
        · subst e; exact absurd h ho
        · exact x2 g (by omega) h
    · rintro _ rc' ⟨X, hX, rfl, x1, x2⟩
      refine ⟨(nI X, nI (j + 1)), ⟨X, hX, rfl, fun s hs g hg h => ?_⟩, ?_⟩
      · by_cases e : s = j
        · subst e; exact x2 g hg h
        · exact x1 s (by omega) g hg h
      · show B_X3_kindsWithGaps_17 S (nI (2 ^ P.n - 1)) (nI j) _ rc' (nI X) (nI P.n) = _
        unfold B_X3_kindsWithGaps_17
        rw [hC.2.1, if_pos ((nI_leI (by omega) (by omega)).mpr (Nat.le_refl _))]
        simp only [xlet_eq]
        rw [nI_1]
  · rintro _ rc ⟨W, hW, rfl, hWs⟩
    refine ⟨W, hW, ?_, hWs⟩
    show B_X3_kindsWithGaps_9 S (nI (2 ^ P.n - 1)) _ rc (nI W) (nI (2 ^ P.n)) = _
    unfold B_X3_kindsWithGaps_9
    rw [if_pos (nI_lt (by omega) (by omega))]
/-- which sets are reached by ways that leave gaps to kinds of o alone -/
def Pb.rcI (P : Pb) (o j i : Nat) (c : Nat → Int32) : Prop := c 0 = 1 ∧ (∀ s, s < 2 ^ P.n → c s = 0 ∨ c s = 1) ∧ (∀ s, s < 2 ^ P.n → c s = 1 → ∃ p, P.pre s p ∧ andn (P.uni 0 p) o = 0) ∧ ∀ p g, P.okp 0 (p ++ [g]) = true → (∀ h ∈ p ++ [g], h < P.n) → andn (P.uni 0 (p ++ [g])) o = 0 → (fin 0 p < j ∨ (fin 0 p = j ∧ g < i)) → c (fin 0 (p ++ [g])) = 1
theorem rcI_all {P : Pb} {o j i : Nat} {c : Nat → Int32} (h : P.rcI o j i c) {p : List Nat} (hp : P.pre j p) (hu : andn (P.uni 0 p) o = 0) : c j = 1 := by
  obtain ⟨h1, h2, h3, h4⟩ := h
  rcases List.eq_nil_or_concat p with e | ⟨q, g, e⟩
  · subst e
    have : j = 0 := hp.2.2.symm
    subst this
    exact h1
  · rw [List.concat_eq_append] at e
    subst e
    obtain ⟨p1, p2, p3⟩ := hp
    have p1' := p1
    rw [okp_snoc, Bool.and_eq_true] at p1'
    have := h4 q g p1 p2 hu (Or.inl (by rw [← p3, fin_snoc]; exact or_gt (ok_bit p1'.2)))
    rw [p3] at this
    exact this
theorem rcI_no {P : Pb} {o j i : Nat} {c : Nat → Int32} (h : P.rcI o j i c) (hj : c j = 0) (i' : Nat) : P.rcI o j i' c := by
  have hall := fun p => rcI_all h (p := p)
  obtain ⟨h1, h2, h3, h4⟩ := h
  refine ⟨h1, h2, h3, fun p g p1 p2 p3 p4 => ?_⟩
  rcases p4 with h | ⟨h, -⟩
  · exact h4 p g p1 p2 p3 (Or.inl h)
  · have p1' := p1
    rw [okp_snoc, Bool.and_eq_true] at p1'
    rw [uni_snoc, andn_or] at p3
    have := hall p ⟨p1'.1, fun x hx => p2 x (List.mem_append_left _ hx), h⟩ p3.1
    rw [hj] at this
    exact absurd this (by decide)
theorem rcI_step {P : Pb} {o j i : Nat} {c : Nat → Int32} (h : P.rcI o j i c) (hi : i < P.n) (hj : j < 2 ^ P.n) (hcj : c j = 1) : P.rcI o j (i + 1) (if P.ok j i = true ∧ andn (P.stp j i) o = 0 then (fun s => if s = j ||| 2 ^ i then 1 else c s) else c) := by
  obtain ⟨h1, h2, h3, h4⟩ := h
  by_cases hc : P.ok j i = true ∧ andn (P.stp j i) o = 0
  · rw [if_pos hc]
    refine ⟨?_, fun s hs => ?_, fun s hs hs1 => ?_, fun p g p1 p2 p3 p4 => ?_⟩
    · show (if 0 = j ||| 2 ^ i then (1 : Int32) else c 0) = 1
      by_cases e : 0 = j ||| 2 ^ i
      · rw [if_pos e]
      · rw [if_neg e]; exact h1
    · show (if s = j ||| 2 ^ i then (1 : Int32) else c s) = 0 ∨ (if s = j ||| 2 ^ i then (1 : Int32) else c s) = 1
      by_cases e : s = j ||| 2 ^ i
      · rw [if_pos e]; exact Or.inr rfl
      · rw [if_neg e]; exact h2 s hs
    · by_cases e : s = j ||| 2 ^ i
      · obtain ⟨p, hp, hu⟩ := h3 j hj hcj
        refine ⟨p ++ [i], by rw [e]; exact pre_snoc hp hi hc.1, ?_⟩
        rw [uni_snoc, hp.2.2, andn_or]; exact ⟨hu, hc.2⟩
      · have hs1' : (if s = j ||| 2 ^ i then (1 : Int32) else c s) = 1 := hs1
        rw [if_neg e] at hs1'; exact h3 s hs hs1'
    · show (if fin 0 (p ++ [g]) = j ||| 2 ^ i then (1 : Int32) else c (fin 0 (p ++ [g]))) = 1
      by_cases e : fin 0 (p ++ [g]) = j ||| 2 ^ i
      · rw [if_pos e]
      · rw [if_neg e]
        refine h4 p g p1 p2 p3 ?_
        by_cases hd : fin 0 p < j ∨ (fin 0 p = j ∧ g < i)
        · exact hd
        · exfalso
          have hp : fin 0 p = j := by omega
          have hg : g = i := by omega
          exact e (by rw [fin_snoc, hp, hg])
  · rw [if_neg hc]
    refine ⟨h1, h2, h3, fun p g p1 p2 p3 p4 => ?_⟩
    by_cases hd : fin 0 p < j ∨ (fin 0 p = j ∧ g < i)
    · exact h4 p g p1 p2 p3 hd
    · exfalso
      have hp : fin 0 p = j := by omega
      have hg : g = i := by omega
      rw [okp_snoc, Bool.and_eq_true, hp, hg] at p1
      rw [uni_snoc, andn_or, hp, hg] at p3
      exact hc ⟨p1.2, p3.2⟩
theorem rcI_next {P : Pb} {o j : Nat} {c : Nat → Int32} (h : P.rcI o j P.n c) : P.rcI o (j + 1) 0 c := by
  obtain ⟨h1, h2, h3, h4⟩ := h
  refine ⟨h1, h2, h3, fun p g p1 p2 p3 p4 => h4 p g p1 p2 p3 ?_⟩
  have := p2 g (List.mem_append_right _ (List.mem_cons_self ..))
  omega
theorem rcI_end {P : Pb} {o : Nat} {c : Nat → Int32} (h : P.rcI o (2 ^ P.n - 1) 0 c) : (c (2 ^ P.n - 1) = 1 ↔ ∃ u ∈ P.L.map (P.uni 0), andn u o = 0) ∧ (c (2 ^ P.n - 1) = 0 ∨ c (2 ^ P.n - 1) = 1) := by
  have hN0 : 0 < 2 ^ P.n := Nat.two_pow_pos _
  refine ⟨⟨fun h1 => ?_, ?_⟩, h.2.1 _ (by omega)⟩
  · obtain ⟨p, hp, hu⟩ := h.2.2.1 _ (by omega) h1
    have hl := pre_len hp
    rw [popN_all] at hl
    exact ⟨P.uni 0 p, List.mem_map.mpr ⟨p, (mem_pths P).mpr ⟨hl.symm, hp.2.1, hp.1⟩, rfl⟩, hu⟩
  · rintro ⟨u, hu1, hu2⟩
    obtain ⟨p, hp, rfl⟩ := List.mem_map.mp hu1
    have hm := (mem_pths P).mp hp
    have hfin : fin 0 p = 2 ^ P.n - 1 := fin_full (Nat.two_pow_pos _) (by rw [popN_0]; omega) (L_mem hp).1
    exact rcI_all h ⟨hm.2.2, hm.2.1, hfin⟩ hu2
theorem nb0 : vp_nar .boolean 0 = 0 := nar_b (h := 0) (by omega)
theorem nb1 : vp_nar .boolean 1 = 1 := nar_b (h := 1) (by omega)
theorem reach_a {P : Pb} {S : XSt} (hC : CP P S) (o : Int32) (K : XSt → Option (Int32 × XSt)) (Q : Option (Int32 × XSt) → Prop) (hk : ∀ V : XSt, (∀ q, q ≠ 26 → V q = S q) → (∀ s, 0 < s → s < 2 ^ P.n → V 26 s = 0) → Q (K V)) : Q (xlp (fun k rc t => B_X3_reachesAllWithout_7 o (nI (2 ^ P.n - 1)) k rc t.1 t.2) K XFU (1, S)) := by
  have hN := two8 hC.1.1
  have hN0 : 0 < 2 ^ P.n := Nat.two_pow_pos _
  refine xlp_Q (Q := Q) (I := fun j t => ∃ V : XSt, t = (nI j, V) ∧ (∀ q, q ≠ 26 → V q = S q) ∧ ∀ s, 0 < s → s < j → V 26 s = 0) 1 (2 ^ P.n) (by omega) (by omega) ⟨S, rfl, fun _ _ => rfl, fun s h1 h2 => by omega⟩ ?_ ?_
  · rintro j _ rc hj1 hj ⟨V, rfl, vfr, vce⟩
    right
    refine ⟨(nI (j + 1), xst V 26 j 0), ⟨_, rfl, fun q hq => ?_, fun s h1 h2 => ?_⟩, ?_⟩
    · rw [xst_ne _ _ _ hq]; exact vfr q hq
    · rw [xst_at]
      by_cases e : s = j
      · rw [if_pos e]
      · rw [if_neg e]; exact vce s h1 (by omega)
    · show B_X3_reachesAllWithout_7 o (nI (2 ^ P.n - 1)) _ rc (nI j) V = _
      unfold B_X3_reachesAllWithout_7
      rw [if_neg (nI_nlt (by omega) (by omega)), if_pos (xin_nI (by omega) (by decide)), xti_nI (by omega), nb0, nI_1]
      rfl
  · rintro _ rc ⟨V, rfl, vfr, vce⟩
    have : B_X3_reachesAllWithout_7 o (nI (2 ^ P.n - 1)) K rc (nI (2 ^ P.n)) V = K V := by
      unfold B_X3_reachesAllWithout_7
      rw [if_pos (nI_lt (by omega) (by omega))]
    show Q (B_X3_reachesAllWithout_7 o (nI (2 ^ P.n - 1)) K rc (nI (2 ^ P.n)) V)
    rw [this]
    exact hk V vfr vce
theorem reach_eq {P : Pb} {S : XSt} (hC : CP P S) (h18 : ∀ s, s < 2 ^ P.n → ∀ g, g < P.n → S 18 (s * 8 + g) = stI P s g) {o : Nat} (ho10 : o < 2 ^ 10) : ∃ (v : Int32) (S' : XSt), F_X3_reachesAllWithout S (nI o) = some (v, S') ∧ (∀ q, q ≠ 26 → S' q = S q) ∧ ((v = 1 ∧ ∃ u ∈ P.L.map (P.uni 0), andn u o = 0) ∨ (v = 0 ∧ ¬ ∃ u ∈ P.L.map (P.uni 0), andn u o = 0)) := by
  have hn := hC.1.1
  have hN := two8 hn
  have hN0 : 0 < 2 ^ P.n := Nat.two_pow_pos _
  unfold F_X3_reachesAllWithout
  rw [all_eq hC, xlet_eq]
  refine reach_a hC _ _ (fun r => ∃ (v : Int32) (S' : XSt), r = some (v, S') ∧ (∀ q, q ≠ 26 → S' q = S q) ∧ ((v = 1 ∧ ∃ u ∈ P.L.map (P.uni 0), andn u o = 0) ∨ (v = 0 ∧ ¬ ∃ u ∈ P.L.map (P.uni 0), andn u o = 0))) (fun S1 f1 c1 => ?_)
  rw [xlet_eq, nb1, show xti (0 : Int32) = 0 from rfl]
  have hst : P.rcI o 0 0 (xst S1 26 0 1 26) := by
    refine ⟨by rw [xst_same], fun s hs => ?_, fun s hs h1 => ?_, fun p g _ _ _ h => by omega⟩
    · rw [xst_at]
      by_cases e : s = 0
      · rw [if_pos e]; exact Or.inr rfl
      · rw [if_neg e]; exact Or.inl (c1 s (by omega) hs)
    · rw [xst_at] at h1
      by_cases e : s = 0
      · subst e; exact ⟨[], pre_nil P, by show andn 0 o = 0; simp [andn]⟩
      · rw [if_neg e, c1 s (by omega) hs] at h1
        exact absurd h1 (by decide)
  refine xlp_Q (Q := fun r => ∃ (v : Int32) (S' : XSt), r = some (v, S') ∧ (∀ q, q ≠ 26 → S' q = S q) ∧ ((v = 1 ∧ ∃ u ∈ P.L.map (P.uni 0), andn u o = 0) ∨ (v = 0 ∧ ¬ ∃ u ∈ P.L.map (P.uni 0), andn u o = 0)))
    (I := fun j t => ∃ V : XSt, t = (nI j, V) ∧ (∀ q, q ≠ 26 → V q = S q) ∧ P.rcI o j 0 (V 26)) 0 (2 ^ P.n - 1) (by omega) (by omega) ⟨_, rfl, fun q hq => by rw [xst_ne _ _ _ hq]; exact f1 q hq, hst⟩ ?_ ?_
  · rintro j _ rc - hj ⟨V, rfl, vfr, hc⟩
    right
    show ∃ t', _ ∧ B_X3_reachesAllWithout_34 (nI o) (nI (2 ^ P.n - 1)) _ rc (nI j) V = rc t'
    unfold B_X3_reachesAllWithout_34
    rw [if_neg (fun q => absurd ((nI_leI (by omega) (by omega)).mp q) (by omega))]
    refine xlp_Q (Q := fun r => ∃ t' : Int32 × XSt, (∃ V : XSt, t' = (nI (j + 1), V) ∧ (∀ q, q ≠ 26 → V q = S q) ∧ P.rcI o (j + 1) 0 (V 26)) ∧ r = rc t')
      (I := fun i t => ∃ V : XSt, t = (nI i, V) ∧ (∀ q, q ≠ 26 → V q = S q) ∧ P.rcI o j i (V 26)) 0 P.n (by omega) (by omega) ⟨V, rfl, vfr, hc⟩ ?_ ?_
    · rintro i _ rc' - hi ⟨X, rfl, xfr, hx⟩
      have hCX : CP P X := hC.keep (xfr 1 (by decide)) (xfr 7 (by decide)) (xfr 8 (by decide)) (xfr 9 (by decide)) (xfr 10 (by decide))
      show (∃ t', _ ∧ B_X3_reachesAllWithout_42 (nI o) (nI (2 ^ P.n - 1)) (nI j) _ rc' (nI i) X = rc t') ∨ ∃ t', _ ∧ B_X3_reachesAllWithout_42 (nI o) (nI (2 ^ P.n - 1)) (nI j) _ rc' (nI i) X = rc' t'
      unfold B_X3_reachesAllWithout_42
      rw [hCX.2.1, if_neg (fun q => absurd ((nI_leI (by omega) (by omega)).mp q) (by omega)), if_pos (xin_nI (by omega) (by decide)), xti_nI (show j < 2 ^ 31 by omega)]
      rcases hx.2.1 j (by omega) with h0 | h1
      · rw [if_pos h0]
        left
        refine ⟨(nI (j + 1), X), ⟨X, rfl, xfr, rcI_next (rcI_no hx h0 P.n)⟩, ?_⟩
        simp only [xlet_eq]
        rw [nI_1]
      · rw [if_neg (by rw [h1]; exact i10), nI_8, if_pos (xin_nI (by omega) (by decide)), xti_nI (by omega), xfr 18 (by decide), h18 j (by omega) i hi]
        simp only [xlet_eq]
        rw [nI_1]
        right
        have hstep := rcI_step hx hi (by omega) h1
        by_cases ho : P.ok j i = true
        · rw [if_neg (fun q => (stI_no hC.1).mp q ho)]
          have hsl := stp_lt hC.1 j i
          have e : stI P j i &&& (nI o ^^^ (-1 : Int32)) = nI (andn (P.stp j i) o) := by
            unfold stI; rw [if_pos ho, nI_andn]
          rw [e, nb1]
          have hor : j ||| 2 ^ i < 2 ^ P.n := Nat.or_lt_two_pow (by omega) (two_lt hi)
          have hal : andn (P.stp j i) o < 2 ^ 31 := Nat.lt_of_lt_of_le (andn_lt hsl) (by decide)
          by_cases ha : andn (P.stp j i) o = 0
          · rw [if_pos ((nI_z hal).mpr ha), nI_shl1 (by omega), nI_or, if_pos (xin_nI (by omega) (by decide)), xti_nI (by omega)]
            rw [if_pos ⟨ho, ha⟩] at hstep
            refine ⟨_, ⟨xst X 26 (j ||| 2 ^ i) 1, rfl, fun q hq => by rw [xst_ne _ _ _ hq]; exact xfr q hq, ?_⟩, rfl⟩
            have ef : (xst X 26 (j ||| 2 ^ i) 1) 26 = fun s => if s = j ||| 2 ^ i then (1 : Int32) else X 26 s := by
              funext s; rw [xst_at]
            rw [ef]; exact hstep
          · rw [if_neg (fun q => ha ((nI_z hal).mp q))]
            rw [if_neg (fun q => ha q.2)] at hstep
            exact ⟨_, ⟨X, rfl, xfr, hstep⟩, rfl⟩
        · rw [if_pos ((stI_no hC.1).mpr ho)]
          rw [if_neg (fun q => ho q.1)] at hstep
          exact ⟨_, ⟨X, rfl, xfr, hstep⟩, rfl⟩
    · rintro _ rc' ⟨X, rfl, xfr, hx⟩
      refine ⟨(nI (j + 1), X), ⟨X, rfl, xfr, rcI_next hx⟩, ?_⟩
      show B_X3_reachesAllWithout_42 (nI o) (nI (2 ^ P.n - 1)) (nI j) _ rc' (nI P.n) X = _
      unfold B_X3_reachesAllWithout_42
      have h14 : X 1 4 = nI P.n := by rw [xfr 1 (by decide)]; exact hC.2.1
      rw [h14, if_pos ((nI_leI (by omega) (by omega)).mpr (Nat.le_refl _))]
      simp only [xlet_eq]
      rw [nI_1]
  · rintro _ rc ⟨V, rfl, vfr, hc⟩
    obtain ⟨e1, e2⟩ := rcI_end hc
    refine ⟨V 26 (2 ^ P.n - 1), V, ?_, vfr, ?_⟩
    · show B_X3_reachesAllWithout_34 (nI o) (nI (2 ^ P.n - 1)) _ rc (nI (2 ^ P.n - 1)) V = _
      unfold B_X3_reachesAllWithout_34
      rw [if_pos ((nI_leI (by omega) (by omega)).mpr (Nat.le_refl _))]
      show (if xin (nI (2 ^ P.n - 1)) 256 = true then (if xbool (V 26 (xti (nI (2 ^ P.n - 1)))) = true then some (V 26 (xti (nI (2 ^ P.n - 1))), V) else none) else none) = _
      rw [if_pos (xin_nI (by omega) (by decide)), xti_nI (by omega)]
      rcases e2 with h | h
      · rw [h, if_pos (by decide)]
      · rw [h, if_pos (by decide)]
    · rcases e2 with h | h
      · exact Or.inr ⟨h, fun hc => by rw [e1.mpr hc] at h; exact absurd h (by decide)⟩
      · exact Or.inl ⟨h, e1.mp h⟩
