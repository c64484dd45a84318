/-! FIRST, BEST -/
theorem Inv.keepC {SC : XSt → Prop} {WR : XSr → Prop} (hSC : SCok SC) {S S' : XSt} {U : XSr} (hI : Inv SC WR S U) (hq : ∀ q, q ≠ 27 → q ≠ 28 → S' q = S q) : Inv SC WR S' U := by
  obtain ⟨hY, hW, hO, hL, hF, hA, hK, hS, hC, hR⟩ := hI
  have g := fun q (h : q ≠ 27 ∧ q ≠ 28) => hq q h.1 h.2
  refine ⟨?_, ?_, ?_, ?_, ?_, ?_, ?_, ?_, hC.keep hSC (fun q h => g q (by omega)), hR⟩
  · unfold IvY; rw [g 1 (by decide), g 7 (by decide), g 8 (by decide)]; exact hY
  · unfold IvW; rw [g 1 (by decide)]; exact hW
  · unfold IvO; rw [g 1 (by decide), g 9 (by decide)]; exact hO
  · unfold IvL; rw [g 2 (by decide), g 11 (by decide)]; exact hL
  · unfold IvF; rw [g 3 (by decide), g 12 (by decide), g 13 (by decide), g 14 (by decide), g 15 (by decide), g 1 (by decide)]; exact hF
  · unfold IvA; rw [g 0 (by decide)]; exact hA
  · unfold IvK layS; rw [g 10 (by decide), g 12 (by decide), g 13 (by decide), g 14 (by decide), g 15 (by decide), g 0 (by decide), g 3 (by decide)]; exact hK
  · intro s hs
    rw [g (29 + s) (by omega), g (33 + s) (by omega)]; exact hS s hs
theorem Inv.keepR {SC : XSt → Prop} {WR : XSr → Prop} (hWR : WRok WR) {S : XSt} {U V : XSr} (hI : Inv SC WR S U) (hq : ∀ q, q ≠ 15 → q ≠ 20 → q ≠ 21 → V.1 q = U.1 q) (h2 : V.2 = U.2) : Inv SC WR S V := by
  obtain ⟨hY, hW, hO, hL, hF, hA, hK, hS, hC, hR⟩ := hI
  have g := fun q (h : q ≠ 15 ∧ q ≠ 20 ∧ q ≠ 21) => hq q h.1 h.2.1 h.2.2
  refine ⟨?_, ?_, ?_, ?_, ?_, ?_, hK, ?_, hC, hR.keep hWR (fun q h => g q (by omega)) (fun j _ => by rw [g 0 (by decide)]) h2⟩
  · unfold IvY; rw [g 0 (by decide), g 1 (by decide), g 2 (by decide)]; exact hY
  · unfold IvW; rw [g 3 (by decide)]; exact hW
  · unfold IvO; rw [g 0 (by decide), g 4 (by decide), g 5 (by decide)]; exact hO
  · unfold IvL; rw [g 0 (by decide), g 10 (by decide)]; exact hL
  · unfold IvF; rw [g 0 (by decide), g 9 (by decide), g 6 (by decide), g 7 (by decide), g 8 (by decide)]; exact hF
  · unfold IvA; rw [g 0 (by decide)]; exact hA
  · intro s hs
    rw [g 22 (by decide), g 23 (by decide), g 24 (by decide), g 25 (by decide)]; exact hS s hs
theorem FR.keepC {P : Pb} {S S' : XSt} {U : XSr} (h : FR P S U) (hq : ∀ q, q ≠ 27 → q ≠ 28 → S' q = S q) : FR P S' U := by
  obtain ⟨h1, h2, h3, h4, h5, h6, h7, h8⟩ := h
  exact ⟨h1.keepC SCok_x hq, by rw [h2]; exact (pbS_keep (hq 1 (by decide) (by decide)) (hq 7 (by decide) (by decide)) (hq 8 (by decide) (by decide)) (hq 9 (by decide) (by decide)) (hq 10 (by decide) (by decide))).symm, h3.keep (hq 1 (by decide) (by decide)) (hq 7 (by decide) (by decide)) (hq 8 (by decide) (by decide)) (hq 9 (by decide) (by decide)) (hq 10 (by decide) (by decide)), h4, SCok_x _ _ (fun q hq' => hq q (by omega) (by omega)) h5, h6, by rw [hq 4 (by decide) (by decide)]; exact h7, h8⟩
theorem FR.keepR {P : Pb} {S : XSt} {U V : XSr} (h : FR P S U) (hq : ∀ q, q ≠ 15 → q ≠ 20 → q ≠ 21 → V.1 q = U.1 q) (hv : V.2 = U.2) : FR P S V := by
  obtain ⟨h1, h2, h3, h4, h5, h6, h7, h8⟩ := h
  exact ⟨h1.keepR WRok_x hq hv, h2, h3, h4.keep (fun q _ => hq q (by omega) (by omega) (by omega)) (fun j _ => by rw [hq 0 (by decide) (by decide) (by decide)]), h5, h6.keep (fun j _ => by rw [hq 0 (by decide) (by decide) (by decide)]) (fun q _ _ => hq q (by omega) (by omega) (by omega)) hv, h7, by rw [hq 0 (by decide) (by decide) (by decide)]; exact h8⟩
theorem L_mem {P : Pb} {p : List Nat} (h : p ∈ P.L) : p ∈ perms P.n P.n 0 ∧ P.okp 0 p = true := by
  unfold Pb.L at h
  rw [pths_filter, List.mem_filter] at h
  exact h
theorem L_gaps {P : Pb} (hn : P.n ≤ 8) : P.L.map P.gaps = P.costs P.n 0 := by
  rw [costs_L]
  exact List.map_congr_left (fun p hp => gaps_cst hn (L_mem hp).1)
theorem lmin_any {d d' : Nat} {l : List Nat} (hl : l ≠ []) (h : ∀ x ∈ l, x < d) (h' : ∀ x ∈ l, x < d') : lmin d l = lmin d' l := Nat.le_antisymm (lmin_le (lmin_in hl h')) (lmin_le (lmin_in hl h))
theorem L_costs {P : Pb} (h : P.L ≠ []) : P.costs P.n 0 ≠ [] := by rw [costs_L]; simpa using h
theorem L_mg {P : Pb} (hP : P.good) (h : P.L ≠ []) : P.mg P.L = P.bh P.n 0 := by
  unfold Pb.mg Pb.bh
  rw [L_gaps hP.1]
  have hc : ∀ x ∈ P.costs P.n 0, x ≤ 240 := fun x hx => by have := costs_le hP hx; have := hP.1; omega
  exact lmin_any (L_costs h) (fun x hx => by have := hc x hx; omega) (fun x hx => by have := hc x hx; unfold NW; omega)
theorem B_0 (P : Pb) : P.B 0 = P.bh P.n 0 ∧ P.W 0 = P.wy P.n 0 := by
  unfold Pb.B Pb.W
  rw [popN_0, Nat.sub_zero]; exact ⟨rfl, rfl⟩
theorem find_congr {α : Type} {L : List α} {f g : α → Bool} (h : ∀ q ∈ L, f q = g q) : L.find? f = L.find? g := by
  induction L with
  | nil => rfl
  | cons a L ih =>
    rw [List.find?_cons, List.find?_cons, h a (List.mem_cons_self ..), ih (fun q hq => h q (List.mem_cons_of_mem _ hq))]
/-- the first row of both is one -/
theorem the_row {P : Pb} {S : XSt} {U : XSr} (h : FR P S U) (hL : P.L ≠ []) : ∃ f, f ∈ P.L ∧ P.gaps f = P.mg P.L ∧ f.length = P.n ∧ f.Nodup ∧ (∀ g ∈ f, g < P.n) ∧ (∀ i, i < P.n → S 22 i = nI (ix f i)) ∧ ∀ i, i < P.n → U.1 17 i = nI (ix f i) := by
  obtain ⟨h1, h2, h3, h4, h5, h6, h7, h8⟩ := h
  obtain ⟨p, hp, hrow⟩ := (h2 ▸ h5.1).2 ((W0_pos h3.1).mpr hL)
  obtain ⟨⟨f, hf, hrow2⟩, -⟩ := h6.2.2.2.2 hL
  have e : P.L.find? (fun q => decide (P.gaps q = P.mg P.L)) = (P.pths P.n 0).find? (fun q => decide (P.cst 0 q = P.bh P.n 0)) := find_congr (fun q hq => by rw [gaps_cst h3.1.1 (L_mem hq).1, L_mg h3.1 hL])
  rw [hf, fst_find hp] at e
  have ef : f = p := Option.some.inj e
  subst ef
  have hm : f ∈ P.L := List.mem_of_find?_eq_some hf
  obtain ⟨m1, m2, m3, -⟩ := mem_perms.mp (L_mem hm).1
  refine ⟨f, hm, ?_, m1, m3, m2, hrow, hrow2⟩
  have := List.find?_some hf
  simpa using this
theorem i10 : ¬ (1 : Int32) = 0 := by decide
theorem anyI_0 {P : Pb} (h : P.L = []) : anyI P = 0 := if_pos h
theorem anyI_1 {P : Pb} (h : ¬ P.L = []) : anyI P = 1 := if_neg h
theorem first_now {S : XSt} {U : XSr} (hI : IX S U) {x : Int32} (hx : 0 ≤ x) : ∃ r S' U', F_X6_first S x = some (r, S') ∧ F_X7_firstNow U x = some (r, U') ∧ FR (pbS S) S' U' := by
  obtain ⟨S', V, e1, -, e3, hF⟩ := both hI
  unfold F_X6_first F_X7_firstNow
  rw [if_pos hx, e1, e3]
  simp only [Option.bind_some]
  by_cases hL : (pbS S).L = []
  · rw [anyI_0 hL, if_pos rfl, if_pos rfl]
    exact ⟨_, _, _, rfl, rfl, hF⟩
  · rw [anyI_1 hL, if_neg i10, if_neg i10, hF.2.2.1.2.1, hF.2.2.2.1.2.1]
    obtain ⟨f, f1, f2, f3, f4, f5, f6, f7⟩ := the_row hF hL
    obtain ⟨i, hi, rfl⟩ := nI_of (Int32.not_lt.mpr hx)
    have hn := hF.2.2.1.1.1
    by_cases h : (pbS S).n ≤ i
    · rw [if_pos ((nI_leI (by omega) hi).mpr h), if_pos ((nI_leI (by omega) hi).mpr h)]
      exact ⟨_, _, _, rfl, rfl, hF⟩
    · rw [if_neg (fun q => h ((nI_leI (by omega) hi).mp q)), if_neg (fun q => h ((nI_leI (by omega) hi).mp q)), if_pos (xin_nI (by omega) (by decide)), if_pos (xin_nI (by omega) (by decide)), xti_nI hi, f6 i (by omega), f7 i (by omega)]
      exact ⟨_, _, _, rfl, rfl, hF⟩
theorem st_first : St_first IX := by
  intro S U x hI
  by_cases hx : 0 ≤ x
  · obtain ⟨r, S', U', e1, e2, hF⟩ := first_now hI hx
    exact ⟨r, S', U', e1, by unfold F_X7_first; rw [if_pos hx, e2]; rfl, hF.1⟩
  · exact ⟨-2, S, U, by unfold F_X6_first; rw [if_neg hx], by unfold F_X7_first; rw [if_neg hx], hI⟩
theorem canBeC {P : Pb} {S : XSt} {p : List Nat} {q1 n1 : Nat} (hC : CP P S) (o1 : p.length = P.n) (o2 : p.Nodup) (o3 : ∀ g ∈ p, g < P.n) (hn1 : P.n ≤ n1) (hn2 : n1 ≤ 40) (o4 : ∀ i, i < P.n → S q1 i = nI (ix p i)) : F_X5_canBe S q1 n1 = some (if P.okp 0 p = true then 1 else 0) := by
  have hn := hC.1.1
  have hN := two8 hn
  unfold F_X5_canBe
  refine xlp_Q (Q := fun o => o = some (if P.okp 0 p = true then 1 else 0)) (I := fun k t => t = (nI (fin 0 (p.take k)), nI (P.yr (fin 0 (p.take k))), nI k) ∧ P.okp 0 (p.take k) = true) 0 P.n (by omega) (by omega) ⟨by
    show (0, 0, 0) = (nI 0, nI (P.yr 0), nI 0)
    rw [yr_0]; rfl, rfl⟩ ?_ ?_
  · rintro k _ rc - hk ⟨rfl, hok⟩
    have hkl : k < p.length := by omega
    have hg : ix p k < P.n := o3 _ (ix_mem hkl)
    have hs : fin 0 (p.take k) < 2 ^ P.n := fin_lt (Nat.two_pow_pos _) (fun g hg => o3 g (List.mem_of_mem_take hg))
    have hfr := ix_fresh o2 hkl
    have htk := ix_take hkl
    have hsp := ix_split hkl
    have hokp : P.okp 0 p = (P.ok (fin 0 (p.take k)) (ix p k) && P.okp (fin 0 (p.take k) ||| 2 ^ ix p k) (p.drop (k + 1))) := by
      conv => lhs; rw [hsp]
      rw [okp_append, hok, Bool.true_and]; rfl
    have e15 := o4 k hk
    have hf := hC.2.2.2.2.1 (ix p k) (by omega)
    generalize ix p k = g at *
    generalize hs' : fin 0 (p.take k) = s at *
    have h99 := yr_le hC s
    have hy99 := yr_le hC (s ||| 2 ^ g)
    have hto := hf.2.2.2.1
    show B_X5_canBe_7 S q1 n1 _ rc (nI s) (nI (P.yr s)) (nI k) = _ ∨ ∃ t', _ ∧ B_X5_canBe_7 S q1 n1 _ rc (nI s) (nI (P.yr s)) (nI k) = rc t'
    unfold B_X5_canBe_7
    have hx : xin (nI g) 8 = true := xin_nI (by omega) (by decide)
    have hg31 : xti (nI g) = g := xti_nI (by omega)
    rw [hC.2.1, if_neg (fun q => absurd ((nI_leI (by omega) (by omega)).mp q) (by omega)), if_pos (xin_nI (by omega) (by omega)), xti_nI (by omega), e15]
    simp only [xlet_eq, hx, ↓reduceIte, hg31]
    have hyr : P.yr (s ||| 2 ^ g) = max (P.yr s) (P.fr g) := yr_or (by omega)
    rw [hf.1, xmax_nI (by omega) (by have := hf.2.1; omega), ← hyr, hf.2.2.1, hf.2.2.2.2.1, nI_andn, nI_shl1 (by omega), nI_or, nI_1]
    have hfin : fin 0 (p.take (k + 1)) = s ||| 2 ^ g := by rw [htk, fin_snoc, ← hs']
    have hokk : P.okp 0 (p.take (k + 1)) = P.ok s g := by rw [htk, okp_snoc, hok, Bool.true_and, ← hs']
    have hokd : P.ok s g = (decide (andn (P.bl g) s = 0) && decide (P.yr (s ||| 2 ^ g) ≤ P.to g)) := by
      unfold Pb.ok; rw [hfr]; rfl
    have hba : andn (P.bl g) s < 2 ^ 31 := Nat.lt_of_lt_of_le (andn_lt (n := 8) (by have := hf.2.2.2.2.2.1; omega)) (by decide)
    by_cases hc : P.yr (s ||| 2 ^ g) ≤ P.to g
    · rw [if_neg (nI_nlt hc (by omega))]
      by_cases h0 : andn (P.bl g) s = 0
      · rw [if_pos ((nI_z hba).mpr h0)]
        right
        exact ⟨_, ⟨by rw [hfin], by rw [hokk, hokd]; simp [h0, hc]⟩, rfl⟩
      · rw [if_neg (fun q => h0 ((nI_z hba).mp q))]
        left
        rw [hokp, hokd]; simp [h0]
    · rw [if_pos (nI_lt (by omega) (by omega))]
      left
      rw [hokp, hokd]; simp [hc]
  · rintro _ rc ⟨rfl, hok⟩
    rw [← o1, List.take_length] at hok
    show B_X5_canBe_7 S q1 n1 _ rc _ _ (nI P.n) = _
    unfold B_X5_canBe_7
    rw [hC.2.1, if_pos ((nI_leI (by omega) (by omega)).mpr (Nat.le_refl _)), hok]; rfl
