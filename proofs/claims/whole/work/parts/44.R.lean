/-! THE REFERENCE: an order that lies in its row; whether it can be; its gaps -/
theorem ix_get {p : List Nat} {i : Nat} (h : i < p.length) : ix p i = p[i] := by
  unfold ix
  rw [List.getD_eq_getElem?_getD, List.getElem?_eq_getElem h]; rfl
theorem ix_mem {p : List Nat} {i : Nat} (h : i < p.length) : ix p i ∈ p := by rw [ix_get h]; exact List.getElem_mem h
theorem ix_of {p : List Nat} {g : Nat} (h : g ∈ p) : ∃ i, i < p.length ∧ ix p i = g := by
  obtain ⟨i, hi, e⟩ := List.mem_iff_getElem.mp h
  exact ⟨i, hi, by rw [ix_get hi, e]⟩
theorem ix_take {p : List Nat} {i : Nat} (h : i < p.length) : p.take (i + 1) = p.take i ++ [ix p i] := by
  rw [List.take_succ_eq_append_getElem h, ix_get h]
theorem ix_drop {p : List Nat} {i : Nat} (h : i < p.length) : p.drop i = ix p i :: p.drop (i + 1) := by
  rw [List.drop_eq_getElem_cons h, ix_get h]
theorem ix_split {p : List Nat} {i : Nat} (h : i < p.length) : p = p.take i ++ ix p i :: p.drop (i + 1) := by
  rw [← ix_drop h, List.take_append_drop]
theorem ix_inj {p : List Nat} (hn : p.Nodup) {i j : Nat} (hi : i < p.length) (hj : j < p.length) (h : ix p i = ix p j) : i = j := by
  rw [ix_get hi, ix_get hj] at h
  have hp := List.pairwise_iff_getElem.mp hn
  rcases Nat.lt_trichotomy i j with h1 | h1 | h1
  · exact absurd h (hp i j hi hj h1)
  · exact h1
  · exact absurd h.symm (hp j i hj hi h1)
theorem ix_fresh {p : List Nat} (hn : p.Nodup) {i : Nat} (hi : i < p.length) : (fin 0 (p.take i)).testBit (ix p i) = false := by
  cases hb : (fin 0 (p.take i)).testBit (ix p i) with
  | false => rfl
  | true =>
    rw [fin_bit] at hb
    rcases hb with hb | hb
    · simp at hb
    · obtain ⟨j, hj, e⟩ := ix_of hb
      rw [List.length_take] at hj
      have e2 : ix (p.take i) j = ix p j := by
        have h1 := ix_app (p := p.take i) (q := p.drop i) (i := j) (by rw [List.length_take]; exact hj)
        rw [List.take_append_drop] at h1
        exact h1.symm
      rw [e2] at e
      have := ix_inj hn (by omega) hi e
      omega
/-- the problem lies in the reference's fields -/
def RP (P : Pb) (U : XSr) : Prop := P.good ∧ U.1 0 0 = nI P.n ∧ U.1 0 3 = nI P.rb ∧ P.rb < 2 ^ 31 ∧ (∀ g, g < 8 → U.1 1 g = nI (P.fr g) ∧ P.fr g ≤ 99 ∧ U.1 2 g = nI (P.to g) ∧ P.to g ≤ 99 ∧ P.bl g ≤ 255) ∧ (∀ k, k < 10 → U.1 3 k = nI (P.w k)) ∧ (∃ ov, U.1 0 5 = nI ov ∧ ov ≤ 16 ∧ (∀ j, j < ov → ∃ a b, U.1 4 j = nI a ∧ U.1 5 j = nI b ∧ a < 8 ∧ b < 8) ∧ ∀ g, g < 8 → ∀ h, h < 8 → ((P.bl g).testBit h = true ↔ ∃ j, j < ov ∧ U.1 4 j = nI g ∧ U.1 5 j = nI h)) ∧ ∀ g, g < P.n → U.1 14 g = nI (P.kd g)
theorem RP.keep {P : Pb} {U U' : XSr} (h : RP P U) (hq : ∀ q, (1 ≤ q ∧ q ≤ 5) ∨ q = 14 → U'.1 q = U.1 q) (h0 : ∀ j, j = 0 ∨ j = 3 ∨ j = 5 → U'.1 0 j = U.1 0 j) : RP P U' := by
  unfold RP at h ⊢
  rw [hq 1 (by omega), hq 2 (by omega), hq 3 (by omega), hq 4 (by omega), hq 5 (by omega), hq 14 (by omega), h0 0 (by omega), h0 3 (by omega), h0 5 (by omega)]
  exact h
/-- an order of all graves lies in the row of orders -/
def RO (P : Pb) (p : List Nat) (U : XSr) : Prop := p.length = P.n ∧ p.Nodup ∧ (∀ g ∈ p, g < P.n) ∧ ∀ i, i < P.n → U.1 15 i = nI (ix p i)
theorem canBe_in {P : Pb} {U : XSr} (hR : RP P U) {s g : Nat} (hs : s < 256) (hg : g < 8) (c1 c3 : Int32) (K : Unit → Option Int32) : xlp (fun k rc t => B_X7_canBe_61 U c1 (nI s) c3 (nI g) k rc t) K XFU 0 = if andn (P.bl g) s = 0 then K () else some 0 := by
  obtain ⟨ov, h1, h2, h3, h4⟩ := hR.2.2.2.2.2.2.1
  refine xlp_Q (Q := fun o => o = if andn (P.bl g) s = 0 then K () else some 0) (I := fun j t => t = nI j ∧ ∀ i, i < j → U.1 4 i = nI g → ∀ b, U.1 5 i = nI b → b < 8 → s.testBit b = true) 0 ov (by omega) (by omega) ⟨rfl, fun i hi => by omega⟩ ?_ ?_
  · rintro j _ rc - hj ⟨rfl, hno⟩
    show B_X7_canBe_61 U c1 (nI s) c3 (nI g) K rc (nI j) = _ ∨ ∃ t', _ ∧ B_X7_canBe_61 U c1 (nI s) c3 (nI g) K rc (nI j) = rc t'
    obtain ⟨a, b, e1, e2, ha, hb⟩ := h3 j hj
    unfold B_X7_canBe_61
    rw [h1, if_neg (fun q => absurd ((nI_leI (by omega) (by omega)).mp q) (by omega)), if_pos (xin_nI (by omega) (by decide)), if_pos (xin_nI (by omega) (by decide)), xti_nI (by omega), e1, e2]
    have next : (nI a = nI g → s.testBit b = true) → ∃ t', (t' = nI (j + 1) ∧ ∀ i, i < j + 1 → U.1 4 i = nI g → ∀ b, U.1 5 i = nI b → b < 8 → s.testBit b = true) ∧ rc (nI (j + 1)) = rc t' := fun hx => ⟨_, ⟨rfl, fun i hi u4 b' u5 hb' => by
      by_cases e : i = j
      · subst e
        rw [e1] at u4
        rw [e2] at u5
        have : b = b' := (nI_eq (by omega) (by omega)).mp u5
        subst this
        exact hx u4
      · exact hno i (by omega) u4 b' u5 hb'⟩, rfl⟩
    by_cases hag : nI a = nI g
    · rw [if_pos hag, is_eq (by omega) (by omega)]
      cases hsb : s.testBit b with
      | true =>
        rw [if_neg (by decide)]
        simp only [xlet_eq]
        rw [nI_1]
        exact Or.inr (next (fun _ => hsb))
      | false =>
        rw [if_pos (by decide)]
        left
        have hne : ¬ andn (P.bl g) s = 0 := by
          intro h0
          have := andn_0.mp h0 b ((h4 g hg b hb).mpr ⟨j, hj, by rw [e1, hag], e2⟩)
          rw [hsb] at this; cases this
        rw [if_neg hne]
    · rw [if_neg hag]
      simp only [xlet_eq]
      rw [nI_1]
      exact Or.inr (next (fun q => absurd q hag))
  · rintro _ rc ⟨rfl, hno⟩
    show B_X7_canBe_61 U c1 (nI s) c3 (nI g) K rc (nI ov) = _
    unfold B_X7_canBe_61
    rw [h1, if_pos ((nI_leI (by omega) (by omega)).mpr (Nat.le_refl _))]
    have h0 : andn (P.bl g) s = 0 := by
      apply andn_0.mpr
      intro b hb
      have hb8 : b < 8 := by
        rcases Nat.lt_or_ge b 8 with h | h
        · exact h
        · have := (hR.2.2.2.2.1 g hg).2.2.2.2
          rw [Nat.testBit_lt_two_pow (Nat.lt_of_le_of_lt this (Nat.lt_of_lt_of_le (show 255 < 2 ^ 8 by decide) (Nat.pow_le_pow_right (by decide) h)))] at hb; cases hb
      obtain ⟨j, hj, u4, u5⟩ := (h4 g hg b hb8).mp hb
      exact hno j hj u4 b u5 hb8
    rw [if_pos h0]
theorem xj_max {ρ : Type} (J : Int32 → Option ρ) {a b x : Nat} (ha : a < 2 ^ 31) (hb : b < 2 ^ 31) (hx : x < 8) : xlet J (fun j => if nI a ≤ nI b then j (nI b) else (if xin (nI x) 8 = true then j (nI a) else none)) = J (nI (max b a)) := by
  rw [xlet_eq]
  by_cases h : a ≤ b
  · rw [if_pos ((nI_leI ha hb).mpr h), Nat.max_eq_left h]
  · rw [if_neg (fun q => h ((nI_leI ha hb).mp q)), if_pos (xin_nI hx (by decide)), Nat.max_eq_right (by omega)]
theorem yr_or {P : Pb} {s g : Nat} (hg : g < 8) : P.yr (s ||| 2 ^ g) = max (P.yr s) (P.fr g) := yrB_or P.fr hg s
theorem yrR_le {P : Pb} {U : XSr} (h : RP P U) (s : Nat) : P.yr s ≤ 99 := (yrB_le P.fr 8 s 99).mpr (fun g hg _ => (h.2.2.2.2.1 g hg).2.1)
theorem canBe_eq {P : Pb} {U : XSr} {p : List Nat} (hR : RP P U) (hO : RO P p U) : F_X7_canBe U = some (if P.okp 0 p = true then 1 else 0) := by
  have hn := hR.1.1
  have hN := two8 hn
  obtain ⟨o1, o2, o3, o4⟩ := hO
  unfold F_X7_canBe
  refine xlp_Q (Q := fun o => o = some (if P.okp 0 p = true then 1 else 0)) (I := fun k t => t = (nI (P.yr (fin 0 (p.take k))), nI (fin 0 (p.take k)), nI k) ∧ P.okp 0 (p.take k) = true) 0 P.n (by omega) (by omega) ⟨by
    show (0, 0, 0) = (nI (P.yr 0), nI 0, nI 0)
    rw [yr_0]; rfl, rfl⟩ ?_ ?_
  · rintro k _ rc - hk ⟨rfl, hok⟩
    have hkl : k < p.length := by omega
    have hg : ix p k < P.n := o3 _ (ix_mem hkl)
    have hs : fin 0 (p.take k) < 2 ^ P.n := fin_lt (Nat.two_pow_pos _) (fun g hg => o3 g (List.mem_of_mem_take hg))
    have hfr := ix_fresh o2 hkl
    have htk := ix_take hkl
    have hsp := ix_split hkl
    have hokp : P.okp 0 p = (P.ok (fin 0 (p.take k)) (ix p k) && P.okp (fin 0 (p.take k) ||| 2 ^ ix p k) (p.drop (k + 1))) := by
      conv => lhs; rw [hsp]
      rw [okp_append, hok, Bool.true_and]; rfl
    have e15 := o4 k hk
    have hf := hR.2.2.2.2.1 (ix p k) (by omega)
    generalize ix p k = g at *
    generalize hs' : fin 0 (p.take k) = s at *
    have h99 := yrR_le hR s
    show B_X7_canBe_6 U _ rc (nI (P.yr s)) (nI s) (nI k) = _ ∨ ∃ t', _ ∧ B_X7_canBe_6 U _ rc (nI (P.yr s)) (nI s) (nI k) = rc t'
    unfold B_X7_canBe_6
    rw [hR.2.1, if_neg (fun q => absurd ((nI_leI (by omega) (by omega)).mp q) (by omega)), if_pos (xin_nI (by omega) (by decide)), xti_nI (by omega), e15, xlet_eq]
    rw [if_pos (xin_nI (by omega) (by decide)), xti_nI (by omega), hf.1, hf.2.2.1, xj_max _ (by omega) (by omega) (by omega), ← yr_or (by omega)]
    have hy99 := yrR_le hR (s ||| 2 ^ g)
    have hto := hf.2.2.2.1
    rw [if_pos (xin_nI (by omega) (by decide)), canBe_in hR (by omega) (by omega)]
    simp only [xlet_eq]
    rw [nI_shl1 (by omega), nI_or, nI_1]
    have hfin : fin 0 (p.take (k + 1)) = s ||| 2 ^ g := by rw [htk, fin_snoc, ← hs']
    have hokk : P.okp 0 (p.take (k + 1)) = P.ok s g := by rw [htk, okp_snoc, hok, Bool.true_and, ← hs']
    have hokd : P.ok s g = (decide (andn (P.bl g) s = 0) && decide (P.yr (s ||| 2 ^ g) ≤ P.to g)) := by
      unfold Pb.ok; rw [hfr]; rfl
    by_cases hc : P.yr (s ||| 2 ^ g) ≤ P.to g
    · rw [if_pos ((nI_leI (by omega) (by omega)).mpr hc)]
      by_cases h0 : andn (P.bl g) s = 0
      · rw [if_pos h0]
        right
        exact ⟨_, ⟨by rw [hfin], by rw [hokk, hokd]; simp [h0, hc]⟩, rfl⟩
      · rw [if_neg h0]
        left
        rw [hokp, hokd]; simp [h0]
    · rw [if_neg (fun q => hc ((nI_leI (by omega) (by omega)).mp q))]
      left
      rw [hokp, hokd]; simp [hc]
  · rintro _ rc ⟨rfl, hok⟩
    rw [← o1, List.take_length] at hok
    show B_X7_canBe_6 U _ rc _ _ (nI P.n) = _
    unfold B_X7_canBe_6
    rw [hR.2.1, if_pos ((nI_leI (by omega) (by omega)).mpr (Nat.le_refl _)), hok]; rfl
