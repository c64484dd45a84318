/-! SPREAD: the ways from a set to another one are gathered -/
def Pb.gaJ (P : Pb) (m s t j : Nat) : List Nat := (List.range j).flatMap (fun g => if (t.testBit g && P.ok s g) = true then (P.ga m (s ||| 2 ^ g) t).map (P.ct s g + ·) else [])
theorem gaJ_succ (P : Pb) (m s t j : Nat) : P.gaJ m s t (j + 1) = P.gaJ m s t j ++ (if (t.testBit j && P.ok s j) = true then (P.ga m (s ||| 2 ^ j) t).map (P.ct s j + ·) else []) := by
  unfold Pb.gaJ
  rw [List.range_succ, List.flatMap_append]
  simp
theorem gaJ_len (P : Pb) (m s t : Nat) {j : Nat} (hj : j ≤ P.n) : (P.gaJ m s t j).length ≤ (P.ga (m + 1) s t).length := by
  show _ ≤ ((List.range P.n).flatMap _).length
  unfold Pb.gaJ
  rw [len_range, len_range]
  have : ∀ (f : Nat → Nat) (r : Nat), smN f j ≤ smN f (j + r) := by
    intro f r
    induction r with
    | zero => exact Nat.le_refl _
    | succ r ih => exact Nat.le_trans ih (Nat.le_add_right _ _)
  have h := this (fun g => (if (t.testBit g && P.ok s g) = true then (P.ga m (s ||| 2 ^ g) t).map (P.ct s g + ·) else []).length) (P.n - j)
  rwa [show j + (P.n - j) = P.n by omega] at h
theorem subs_n {n a b : Nat} (h : ∀ k, a.testBit k = true → b.testBit k = true) (ha : a < 2 ^ n) (hb : b < 2 ^ n) (he : popN n a = popN n b) : a = b := by
  apply bits_eq
  intro k
  constructor
  · exact h k
  · intro hk
    rcases Nat.lt_or_ge k n with h1 | h1
    · rw [(popN_subs h n).2 he k h1]; exact hk
    · rw [Nat.testBit_lt_two_pow (Nat.lt_of_lt_of_le hb (Nat.pow_le_pow_right (by decide) h1))] at hk; cases hk
theorem ix_map {l : List Nat} {c i : Nat} (h : i < l.length) : ix (l.map (c + ·)) i = c + ix l i := by
  rw [ix_get (by rw [List.length_map]; exact h), ix_get h, List.getElem_map]
/-- a row of numbers lies in a cell from a place on -/
def inC (S : XSt) (q sz c : Nat) (l : List Nat) : Prop := ∀ i, i < l.length → S q (sz + i) = nI (c + ix l i)
theorem gather_eq {P : Pb} (hP : P.good) {q : Nat} (hq : q = 24 ∨ q = 25) (m : Nat) : ∀ (fu s t c sz : Nat) (S : XSt), CP P S → (∀ s, s < 2 ^ P.n → ∀ g, g < P.n → S 18 (s * 8 + g) = stI P s g) → m < fu → s < 2 ^ P.n → t < 2 ^ P.n → (∀ k, s.testBit k = true → t.testBit k = true) → popN P.n t = popN P.n s + m → sz + (P.ga m s t).length ≤ 24 →
    ∃ S' : XSt, F_X3_gather fu S (nI s) (nI t) (nI c) q 24 (nI sz) = some (nI (sz + (P.ga m s t).length), S') ∧ (∀ q', q' ≠ q → S' q' = S q') ∧ (∀ i, i < sz → S' q i = S q i) ∧ inC S' q sz c (P.ga m s t) := by
  have hn := hP.1
  have hN := two8 hn
  induction m with
  | zero =>
    intro fu s t c sz S hC h18 hfu hs ht hsub hpop hsz
    obtain ⟨fu, rfl⟩ : ∃ f', fu = f' + 1 := ⟨fu - 1, by omega⟩
    have est : s = t := subs_n hsub hs ht (by omega)
    subst est
    have ega : P.ga 0 s s = [0] := by show (if s = s then [0] else []) = [0]; rw [if_pos rfl]
    rw [ega] at hsz ⊢
    have hsz' : sz + 1 ≤ 24 := hsz
    refine ⟨xst S q sz (nI c), ?_, fun q' h' => xst_ne _ _ _ h', fun i hi => xst_idx _ _ _ (by omega), fun i hi => ?_⟩
    · show G_X3_gather (F_X3_gather fu) S (nI s) (nI s) (nI c) q 24 (nI sz) = _
      unfold G_X3_gather
      rw [if_pos rfl]
      simp only [xlet_eq]
      rw [show Int32.ofNat 24 = nI 24 from rfl, if_neg (fun q => absurd ((nI_leI (by omega) (by omega)).mp q) (by omega)), if_pos (xin_nI (by omega) (by decide)), xti_nI (by omega), nI_1, xmin_nI (by omega) (by omega), Nat.min_eq_left hsz']
      rfl
    · have : i = 0 := by
        have : i < 1 := hi
        omega
      subst this
      rw [Nat.add_zero, xst_same]; rfl
  | succ m ih =>
    intro fu s t c sz S hC h18 hfu hs ht hsub hpop hsz
    obtain ⟨fu, rfl⟩ : ∃ f', fu = f' + 1 := ⟨fu - 1, by omega⟩
    have hne : s ≠ t := fun e => by rw [e] at hpop; omega
    show ∃ S' : XSt, G_X3_gather (F_X3_gather fu) S (nI s) (nI t) (nI c) q 24 (nI sz) = _ ∧ _
    unfold G_X3_gather
    rw [if_neg (fun e => hne ((nI_eq (by omega) (by omega)).mp e))]
    refine xlp_Q (Q := fun o => ∃ S' : XSt, o = some (nI (sz + (P.ga (m + 1) s t).length), S') ∧ (∀ q', q' ≠ q → S' q' = S q') ∧ (∀ i, i < sz → S' q i = S q i) ∧ inC S' q sz c (P.ga (m + 1) s t))
      (I := fun j r => ∃ S' : XSt, r = (nI (sz + (P.gaJ m s t j).length), nI j, S') ∧ (∀ q', q' ≠ q → S' q' = S q') ∧ (∀ i, i < sz → S' q i = S q i) ∧ inC S' q sz c (P.gaJ m s t j)) 0 P.n (by omega) (by omega) ⟨S, rfl, fun _ _ => rfl, fun _ _ => rfl, fun i hi => absurd hi (Nat.not_lt_zero _)⟩ ?_ ?_
    · rintro j _ rc - hj ⟨V, rfl, vfr, vlo, vin⟩
      right
      have g := fun q' (h : q' ≠ 24 ∧ q' ≠ 25) => vfr q' (by omega)
      have hCV : CP P V := hC.keep (g 1 (by decide)) (g 7 (by decide)) (g 8 (by decide)) (g 9 (by decide)) (g 10 (by decide))
      have h18V : ∀ s, s < 2 ^ P.n → ∀ g', g' < P.n → V 18 (s * 8 + g') = stI P s g' := fun s hs g' hg => by rw [g 18 (by decide)]; exact h18 s hs g' hg
      have hlen := gaJ_len P m s t (show j + 1 ≤ P.n by omega)
      have hsucc := gaJ_succ P m s t j
      show ∃ t', _ ∧ B_X3_gather_37 (F_X3_gather fu) q 24 (nI s) (nI t) (nI c) _ rc (nI (sz + (P.gaJ m s t j).length)) (nI j) V = rc t'
      unfold B_X3_gather_37
      rw [hCV.2.1, if_neg (fun q => absurd ((nI_leI (by omega) (by omega)).mp q) (by omega)), nI_8, if_pos (xin_nI (by omega) (by decide)), xti_nI (by omega), h18V s hs j hj]
      simp only [xlet_eq]
      rw [nI_1]
      have skip : (t.testBit j && P.ok s j) = false → ∃ t', (∃ S' : XSt, t' = (nI (sz + (P.gaJ m s t (j + 1)).length), nI (j + 1), S') ∧ (∀ q', q' ≠ q → S' q' = S q') ∧ (∀ i, i < sz → S' q i = S q i) ∧ inC S' q sz c (P.gaJ m s t (j + 1))) ∧ rc (nI (sz + (P.gaJ m s t j).length), nI (j + 1), V) = rc t' := by
        intro h
        have e : P.gaJ m s t (j + 1) = P.gaJ m s t j := by rw [hsucc, h, if_neg (by decide), List.append_nil]
        rw [e]
        exact ⟨_, ⟨V, rfl, vfr, vlo, vin⟩, rfl⟩
      cases hb : t.testBit j with
      | false =>
        rw [if_pos ((nI_bit0 (by omega) (by omega)).mpr hb)]
        exact skip (by rw [hb]; rfl)
      | true =>
        rw [if_neg (fun q => by rw [nI_bit0 (by omega) (by omega), hb] at q; cases q)]
        by_cases ho : P.ok s j = true
        · have hwg : F_X5_weigh V (stI P s j) = nI (P.ct s j) := by
            unfold stI; rw [if_pos ho]; exact hCV.2.2.2.2.2.1 _ (stp_lt hP s j)
          rw [if_neg (fun q => (stI_no hP).mp q ho), nI_shl1 (by omega), nI_or, hwg, nI_add]
          rw [hb, ho, if_pos (by decide)] at hsucc
          have hor : s ||| 2 ^ j < 2 ^ P.n := Nat.or_lt_two_pow hs (two_lt hj)
          have hl2 : (P.gaJ m s t (j + 1)).length = (P.gaJ m s t j).length + (P.ga m (s ||| 2 ^ j) t).length := by rw [hsucc]; simp
          obtain ⟨V', e1, f1, f2, f3⟩ := ih fu (s ||| 2 ^ j) t (c + P.ct s j) (sz + (P.gaJ m s t j).length) V hCV h18V (by omega) hor ht (fun k hk => by
            rw [or2_bit, Bool.or_eq_true, decide_eq_true_eq] at hk
            rcases hk with h | h
            · exact hsub k h
            · rw [← h]; exact hb) (by rw [popN_or hj (ok_bit ho)]; omega) (by omega)
          rw [e1]
          simp only [Option.bind_some]
          refine ⟨(nI (sz + (P.gaJ m s t (j + 1)).length), nI (j + 1), V'), ⟨V', rfl, fun q' h' => by rw [f1 q' h']; exact vfr q' h', fun i hi => by rw [f2 i (by omega)]; exact vlo i hi, fun i hi => ?_⟩, by rw [hl2, Nat.add_assoc]⟩
          rw [hsucc]
          by_cases h1 : i < (P.gaJ m s t j).length
          · rw [f2 (sz + i) (by omega), ix_app h1]; exact vin i h1
          · have hi2 : i - (P.gaJ m s t j).length < (P.ga m (s ||| 2 ^ j) t).length := by omega
            have := f3 (i - (P.gaJ m s t j).length) hi2
            rw [show sz + (P.gaJ m s t j).length + (i - (P.gaJ m s t j).length) = sz + i by omega] at this
            rw [this, ix_right (by omega), ix_map hi2]
            congr 1; omega
        · rw [if_pos ((stI_no hP).mpr ho)]
          rw [Bool.not_eq_true] at ho
          exact skip (by rw [ho, Bool.and_false])
    · rintro _ rc ⟨V, rfl, vfr, vlo, vin⟩
      refine ⟨V, ?_, vfr, vlo, vin⟩
      show B_X3_gather_37 (F_X3_gather fu) q 24 (nI s) (nI t) (nI c) _ rc _ (nI P.n) V = _
      unfold B_X3_gather_37
      have h14 : V 1 4 = nI P.n := by rw [vfr 1 (by omega)]; exact hC.2.1
      rw [h14, if_pos ((nI_leI (by omega) (by omega)).mpr (Nat.le_refl _))]
      rfl
