/-! THE REFERENCE: one order that can be is counted -/
def Pb.mg (P : Pb) (D : List (List Nat)) : Nat := lmin 100000 (D.map P.gaps)
def bfr (q : List Nat) (a g : Nat) : Prop := ∃ i j, i < j ∧ j < q.length ∧ ix q i = a ∧ ix q j = g
def RA1 (P : Pb) (D : List (List Nat)) (U : XSr) : Prop := U.1 0 25 = nI D.length ∧ U.2 = lN (D.map P.gaps).sum ∧ ∀ k, k < 1000 → U.1 16 k = nI ((D.map P.gaps).count k)
def RA2 (P : Pb) (D : List (List Nat)) (U : XSr) : Prop := (D = [] → U.1 0 31 = -1) ∧ (D ≠ [] → ∃ r, U.1 0 31 = nI r ∧ r ∈ D.map P.gbits ∧ ∀ u ∈ D.map P.gbits, ¬ lt2 u r)
def RA3 (P : Pb) (D : List (List Nat)) (U : XSr) : Prop := U.1 0 23 = nI (P.mg D) ∧ U.1 0 24 = nI ((D.map P.gaps).count (P.mg D)) ∧ (D ≠ [] → (∃ f, D.find? (fun q => decide (P.gaps q = P.mg D)) = some f ∧ ∀ i, i < P.n → U.1 17 i = nI (ix f i)) ∧ (∀ g, g < P.n → ∃ A, A < 256 ∧ U.1 18 g = nI A ∧ ∀ a, a < 8 → (A.testBit a = true ↔ ∀ q ∈ D, P.gaps q = P.mg D → bfr q a g)) ∧ ∀ g, g < P.n → ∃ A, A < 256 ∧ U.1 19 g = nI A ∧ ∀ i, i < 8 → (A.testBit i = true ↔ ∃ q ∈ D, P.gaps q = P.mg D ∧ i < P.n ∧ ix q i = g))
theorem cnt230 {P : Pb} {U : XSr} {p : List Nat} (hn : P.n ≤ 8) (h0 : U.1 0 0 = nI P.n) (hO : RO P p U) (hA : ∀ g, g < P.n → bd (U.1 18 g) 255 ∧ bd (U.1 19 g) 255) : ∃ V : XSr, xlp (fun k rc t => B_X7_counts_230 k rc t.1 t.2.1 t.2.2) (fun e33 => some e33) XFU (0, 0, U) = some V ∧ (∀ q, q ≠ 18 → q ≠ 19 → V.1 q = U.1 q) ∧ V.2 = U.2 ∧ ∀ i, i < P.n → V.1 18 (ix p i) = nI (xti (U.1 18 (ix p i)) &&& fin 0 (p.take i)) ∧ V.1 19 (ix p i) = nI (xti (U.1 19 (ix p i)) ||| 2 ^ i) := by
  have hN := two8 hn
  obtain ⟨o1, o2, o3, o4⟩ := hO
  refine xlp_Q (Q := fun o => ∃ V : XSr, o = some V ∧ (∀ q, q ≠ 18 → q ≠ 19 → V.1 q = U.1 q) ∧ V.2 = U.2 ∧ ∀ i, i < P.n → V.1 18 (ix p i) = nI (xti (U.1 18 (ix p i)) &&& fin 0 (p.take i)) ∧ V.1 19 (ix p i) = nI (xti (U.1 19 (ix p i)) ||| 2 ^ i))
    (I := fun k t => ∃ V : XSr, t = (nI (fin 0 (p.take k)), nI k, V) ∧ (∀ q, q ≠ 18 → q ≠ 19 → V.1 q = U.1 q) ∧ V.2 = U.2 ∧ ∀ i, i < P.n → V.1 18 (ix p i) = (if i < k then nI (xti (U.1 18 (ix p i)) &&& fin 0 (p.take i)) else U.1 18 (ix p i)) ∧ V.1 19 (ix p i) = (if i < k then nI (xti (U.1 19 (ix p i)) ||| 2 ^ i) else U.1 19 (ix p i))) 0 P.n (by omega) (by omega) ⟨U, rfl, fun _ _ _ => rfl, rfl, fun i hi => ⟨rfl, rfl⟩⟩ ?_ ?_
  · rintro k _ rc - hk ⟨V, rfl, vfr, v2, vce⟩
    right
    have hkl : k < p.length := by omega
    have hg : ix p k < P.n := o3 _ (ix_mem hkl)
    have e15 : V.1 15 k = nI (ix p k) := by rw [vfr 15 (by decide) (by decide)]; exact o4 k hk
    have hs : fin 0 (p.take k) < 2 ^ P.n := fin_lt (Nat.two_pow_pos _) (fun g hg => o3 g (List.mem_of_mem_take hg))
    obtain ⟨c1, c2⟩ := vce k hk
    rw [if_neg (Nat.lt_irrefl k)] at c1 c2
    refine ⟨(nI (fin 0 (p.take (k + 1))), nI (k + 1), xsr (xsr V 18 (ix p k) (nI (xti (U.1 18 (ix p k)) &&& fin 0 (p.take k)))) 19 (ix p k) (nI (xti (U.1 19 (ix p k)) ||| 2 ^ k))), ⟨_, rfl, fun q h1 h2 => ?_, v2, fun i hi => ?_⟩, ?_⟩
    · rw [xsr_1, xsr_1, xst_ne _ _ _ h2, xst_ne _ _ _ h1]; exact vfr q h1 h2
    · rw [xsr_1, xsr_1, xst_ne _ _ _ (by decide : (18 : Nat) ≠ 19), xst_at, xst_at, xst_ne _ _ _ (by decide : (19 : Nat) ≠ 18)]
      by_cases e : i = k
      · subst e
        rw [if_pos rfl, if_pos rfl, if_pos (by omega), if_pos (by omega)]
        exact ⟨rfl, rfl⟩
      · have hne : ix p i ≠ ix p k := fun h => e (ix_inj o2 (by omega) hkl h)
        rw [if_neg hne, if_neg hne, (vce i hi).1, (vce i hi).2]
        by_cases h1 : i < k
        · rw [if_pos h1, if_pos h1, if_pos (by omega), if_pos (by omega)]; exact ⟨rfl, rfl⟩
        · rw [if_neg h1, if_neg h1, if_neg (by omega), if_neg (by omega)]; exact ⟨rfl, rfl⟩
    · show B_X7_counts_230 _ rc (nI (fin 0 (p.take k))) (nI k) V = _
      unfold B_X7_counts_230
      have hx : xin (nI k) 8 = true := xin_nI (by omega) (by decide)
      have hxg : xin (nI (ix p k)) 8 = true := xin_nI (by omega) (by decide)
      have r0 : ∀ (g : Nat) (v : Int32), (xsr V 18 g v).1 15 = V.1 15 := fun g v => by rw [xsr_1, xst_ne _ _ _ (by decide)]
      have r1 : ∀ (g : Nat) (v : Int32), (xsr V 18 g v).1 19 = V.1 19 := fun g v => by rw [xsr_1, xst_ne _ _ _ (by decide)]
      have r2 : ∀ (g h : Nat) (v w : Int32), (xsr (xsr V 18 g v) 19 h w).1 15 = V.1 15 := fun g h v w => by rw [xsr_1, xst_ne _ _ _ (by decide), r0]
      have hk31 : xti (nI k) = k := xti_nI (by omega)
      have hg31 : xti (nI (ix p k)) = ix p k := xti_nI (by omega)
      have h00 : V.1 0 0 = nI P.n := by rw [vfr 0 (by decide) (by decide)]; exact h0
      rw [h00, if_neg (fun q => absurd ((nI_leI (by omega) (by omega)).mp q) (by omega))]
      simp only [xlet_eq, hx, ↓reduceIte, hk31, e15, hxg, hg31, r0, r1, r2]
      rw [c1, c2, nI_1, nI_shl1 (by omega), nI_shl1 (by omega), nI_or, ix_take hkl, fin_snoc]
      have a1 := (hA _ hg).1.1
      have a2 := (hA _ hg).2.1
      rw [show U.1 18 (ix p k) &&& nI (fin 0 (p.take k)) = nI (xti (U.1 18 (ix p k)) &&& fin 0 (p.take k)) by
        conv => lhs; rw [a1]
        rw [nI_and], show U.1 19 (ix p k) ||| nI (2 ^ k) = nI (xti (U.1 19 (ix p k)) ||| 2 ^ k) by
        conv => lhs; rw [a2]
        rw [nI_or]]
  · rintro _ rc ⟨V, rfl, vfr, v2, vce⟩
    refine ⟨V, ?_, vfr, v2, fun i hi => ?_⟩
    · show B_X7_counts_230 _ rc _ (nI P.n) V = _
      unfold B_X7_counts_230
      have h00 : V.1 0 0 = nI P.n := by rw [vfr 0 (by decide) (by decide)]; exact h0
      rw [h00, if_pos ((nI_leI (by omega) (by omega)).mpr (Nat.le_refl _))]
    · have := vce i hi
      rw [if_pos hi, if_pos hi] at this
      exact this
theorem cnt165 {P : Pb} {U : XSr} {p : List Nat} (hn : P.n ≤ 8) (h0 : U.1 0 0 = nI P.n) (hO : RO P p U) (c : Int32) (K : XSr → Option XSr) (Q : Option XSr → Prop) (hk : ∀ V : XSr, (∀ q, q ≠ 17 → q ≠ 18 → q ≠ 19 → V.1 q = U.1 q) → V.2 = U.2 → (∀ i, i < P.n → V.1 17 i = nI (ix p i) ∧ V.1 18 i = nI 255 ∧ V.1 19 i = nI 0) → Q (K V)) : Q (xlp (fun k rc t => B_X7_counts_165 c k rc t.1 t.2) K XFU (0, U)) := by
  obtain ⟨o1, o2, o3, o4⟩ := hO
  refine xlp_Q (Q := Q) (I := fun k t => ∃ V : XSr, t = (nI k, V) ∧ (∀ q, q ≠ 17 → q ≠ 18 → q ≠ 19 → V.1 q = U.1 q) ∧ V.2 = U.2 ∧ ∀ i, i < k → V.1 17 i = nI (ix p i) ∧ V.1 18 i = nI 255 ∧ V.1 19 i = nI 0) 0 P.n (by omega) (by omega) ⟨U, rfl, fun _ _ _ _ => rfl, rfl, fun i hi => by omega⟩ ?_ ?_
  · rintro k _ rc - hk ⟨V, rfl, vfr, v2, vce⟩
    right
    have e15 : V.1 15 k = nI (ix p k) := by rw [vfr 15 (by decide) (by decide) (by decide)]; exact o4 k hk
    refine ⟨(nI (k + 1), xsr (xsr (xsr V 17 k (nI (ix p k))) 18 k (nI 255)) 19 k (nI 0)), ⟨_, rfl, fun q h1 h2 h3 => ?_, v2, fun i hi => ?_⟩, ?_⟩
    · rw [xsr_1, xsr_1, xsr_1, xst_ne _ _ _ h3, xst_ne _ _ _ h2, xst_ne _ _ _ h1]; exact vfr q h1 h2 h3
    · rw [xsr_1, xsr_1, xsr_1, xst_ne _ _ _ (by decide : (17 : Nat) ≠ 19), xst_ne _ _ _ (by decide : (17 : Nat) ≠ 18), xst_ne _ _ _ (by decide : (18 : Nat) ≠ 19), xst_at, xst_at, xst_at, xst_ne _ _ _ (by decide : (18 : Nat) ≠ 17), xst_ne _ _ _ (by decide : (19 : Nat) ≠ 18), xst_ne _ _ _ (by decide : (19 : Nat) ≠ 17)]
      by_cases e : i = k
      · rw [if_pos e, if_pos e, if_pos e, e]; exact ⟨rfl, rfl, rfl⟩
      · rw [if_neg e, if_neg e, if_neg e]; exact vce i (by omega)
    · show B_X7_counts_165 c _ rc (nI k) V = _
      unfold B_X7_counts_165
      have hx : xin (nI k) 8 = true := xin_nI (by omega) (by decide)
      have h00 : V.1 0 0 = nI P.n := by rw [vfr 0 (by decide) (by decide) (by decide)]; exact h0
      rw [h00, if_neg (fun q => absurd ((nI_leI (by omega) (by omega)).mp q) (by omega))]
      simp only [xlet_eq, hx, ↓reduceIte]
      rw [xti_nI (by omega), e15, nI_1]; rfl
  · rintro _ rc ⟨V, rfl, vfr, v2, vce⟩
    have : B_X7_counts_165 c K rc (nI P.n) V = K V := by
      unfold B_X7_counts_165
      have h00 : V.1 0 0 = nI P.n := by rw [vfr 0 (by decide) (by decide) (by decide)]; exact h0
      rw [h00, if_pos ((nI_leI (by omega) (by omega)).mpr (Nat.le_refl _))]
    show Q (B_X7_counts_165 c K rc (nI P.n) V)
    rw [this]
    exact hk V vfr v2 vce
theorem bfr_take {p : List Nat} (hn : p.Nodup) {i a : Nat} (hi : i < p.length) : bfr p a (ix p i) ↔ (fin 0 (p.take i)).testBit a = true := by
  have hix : ∀ j, j < i → ix (p.take i) j = ix p j := by
    intro j hj
    have h1 := ix_app (p := p.take i) (q := p.drop i) (i := j) (by rw [List.length_take]; omega)
    rw [List.take_append_drop] at h1
    exact h1.symm
  rw [fin_bit]
  constructor
  · rintro ⟨j, k, h1, h2, h3, h4⟩
    have : k = i := ix_inj hn h2 hi h4
    subst this
    right
    rw [← h3, ← hix j h1]
    exact ix_mem (by rw [List.length_take]; omega)
  · rintro (h | h)
    · simp at h
    · obtain ⟨j, hj, e⟩ := ix_of h
      rw [List.length_take] at hj
      rw [hix j (by omega)] at e
      exact ⟨j, i, by omega, hi, e, rfl⟩
theorem mg_snoc (P : Pb) (D : List (List Nat)) {p : List Nat} (hp : P.gaps p ≤ 180) : P.mg (D ++ [p]) = min (P.mg D) (P.gaps p) := by
  unfold Pb.mg
  rw [List.map_append, lmin_app]
  show min _ (min (P.gaps p) 100000) = _
  rw [Nat.min_eq_left (a := P.gaps p) (by omega)]
theorem mg_le {P : Pb} {D : List (List Nat)} {q : List Nat} (h : q ∈ D) : P.mg D ≤ P.gaps q := lmin_le (List.mem_map.mpr ⟨q, h, rfl⟩)
theorem mg_nil (P : Pb) : P.mg [] = 100000 := rfl
