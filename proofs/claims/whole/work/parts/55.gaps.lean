/-! GAPS of an order as it is laid -/
def lx (l : List (Nat × Bool)) (i : Nat) : Nat × Bool := l.getD i (0, false)
theorem lx_get {l : List (Nat × Bool)} {i : Nat} (h : i < l.length) : lx l i = l[i] := by
  unfold lx
  rw [List.getD_eq_getElem?_getD, List.getElem?_eq_getElem h]; rfl
theorem lx_drop {l : List (Nat × Bool)} {i : Nat} (h : i < l.length) : l.drop i = lx l i :: l.drop (i + 1) := by
  rw [List.drop_eq_getElem_cons h, lx_get h]
/-- a row lies in the class's row, with the bits of the robbed ones -/
def LD (l : List (Nat × Bool)) (rp : Nat) (S : XSt) : Prop := l.length ≤ 9 ∧ rp < 2 ^ 31 ∧ ∀ i, i < l.length → S 28 i = nI (lx l i).1 ∧ (lx l i).1 < 2 ^ 10 ∧ rp.testBit i = (lx l i).2
theorem laid_or {l : List (Nat × Bool)} {rp : Nat} {S : XSt} (h : LD l rp S) {a : Nat} (ha : a ≤ l.length) (c2 c3 c4 c5 : Int32) (K : Int32 → Option Int32) : xlp (fun k rc t => B_X1_gapsAsLaid_23 S (nI l.length) c2 c3 c4 c5 k rc t.1 t.2) K XFU (0, nI a) = K (nI (orL (l.drop a))) := by
  obtain ⟨h1, h2, h3⟩ := h
  refine xlp_Q (Q := fun o => o = K (nI (orL (l.drop a)))) (I := fun j t => ∃ e, t = (nI e, nI j) ∧ e ||| orL (l.drop j) = orL (l.drop a)) a l.length (by omega) ha ⟨0, rfl, by simp⟩ ?_ ?_
  · rintro j _ rc hj1 hj ⟨e, rfl, he⟩
    right
    rw [lx_drop hj] at he
    refine ⟨(nI (e ||| (lx l j).1), nI (j + 1)), ⟨_, rfl, ?_⟩, ?_⟩
    · rw [← he]
      show (e ||| (lx l j).1) ||| orL (l.drop (j + 1)) = e ||| ((lx l j).1 ||| orL (l.drop (j + 1)))
      rw [Nat.or_assoc]
    · show B_X1_gapsAsLaid_23 S (nI l.length) c2 c3 c4 c5 K rc (nI e) (nI j) = _
      unfold B_X1_gapsAsLaid_23
      rw [if_neg (fun q => absurd ((nI_leI (by omega) (by omega)).mp q) (by omega)), if_pos (xin_nI (by omega) (by decide)), xti_nI (by omega), (h3 j hj).1, nI_or, nI_1]
      rfl
  · rintro _ rc ⟨e, rfl, he⟩
    show B_X1_gapsAsLaid_23 S (nI l.length) c2 c3 c4 c5 K rc (nI e) (nI l.length) = _
    unfold B_X1_gapsAsLaid_23
    rw [if_pos ((nI_leI (by omega) (by omega)).mpr (Nat.le_refl _))]
    rw [List.drop_length] at he
    rw [← he]
    show K (nI e) = K (nI (e ||| 0))
    rw [Nat.or_zero]
theorem orL_lt {l : List (Nat × Bool)} (h : ∀ x ∈ l, x.1 < 2 ^ 10) : orL l < 2 ^ 10 := by
  induction l with
  | nil => exact Nat.two_pow_pos _
  | cons x l ih => exact Nat.or_lt_two_pow (h x (List.mem_cons_self ..)) (ih (fun y hy => h y (List.mem_cons_of_mem _ hy)))
theorem laid_eq {P : Pb} {l : List (Nat × Bool)} {rp : Nat} {S : XSt} (hw : ∀ m, m < 1024 → F_X5_weigh S (nI m) = nI (wsum P.w 10 m)) (h : LD l rp S) : F_X1_gapsAsLaid S (nI l.length) (nI rp) = some (nI (lcost P.w 0 l)) := by
  have hL := h
  obtain ⟨h1, h2, h3⟩ := h
  have hmem : ∀ x ∈ l, x.1 < 2 ^ 10 := by
    intro x hx
    obtain ⟨i, hi, e⟩ := List.mem_iff_getElem.mp hx
    have := (h3 i hi).2.1
    rw [lx_get hi, e] at this; exact this
  unfold F_X1_gapsAsLaid
  refine xlp_Q (Q := fun o => o = some (nI (lcost P.w 0 l))) (I := fun j t => ∃ acc s, t = (nI acc, nI s, nI j) ∧ s < 2 ^ 10 ∧ acc + lcost P.w s (l.drop j) = lcost P.w 0 l) 0 l.length (by omega) (by omega) ⟨0, 0, rfl, by decide, by rw [List.drop_zero]; omega⟩ ?_ ?_
  · rintro j _ rc - hj ⟨acc, s, rfl, hs, hacc⟩
    right
    rw [lx_drop hj] at hacc
    obtain ⟨c1, c2, c3⟩ := h3 j hj
    have hol : orL (l.drop (j + 1)) < 2 ^ 10 := orL_lt (fun x hx => hmem x (List.mem_of_mem_drop hx))
    show ∃ t', _ ∧ B_X1_gapsAsLaid_8 S (nI l.length) (nI rp) _ rc (nI acc) (nI s) (nI j) = rc t'
    unfold B_X1_gapsAsLaid_8
    rw [if_neg (fun q => absurd ((nI_leI (by omega) (by omega)).mp q) (by omega)), xlet_eq, nI_1, laid_or hL (by omega)]
    have hx : xin (nI j) 9 = true := xin_nI (by omega) (by decide)
    simp only [xlet_eq, hx, ↓reduceIte]
    rw [xti_nI (by omega), c1, nI_and, nI_andn, nI_or, hw _ (andn_lt (Nat.lt_of_le_of_lt Nat.and_le_left hs)), nI_add]
    have hacc' : acc + ((if (lx l j).2 = true then 0 else wsum P.w 10 (andn (s &&& orL (l.drop (j + 1))) (lx l j).1)) + lcost P.w (s ||| (lx l j).1) (l.drop (j + 1))) = lcost P.w 0 l := hacc
    cases hr : rp.testBit j with
    | false =>
      rw [if_pos ((nI_bit0 h2 (by omega)).mpr hr)]
      rw [← c3, hr, if_neg (by decide)] at hacc'
      exact ⟨_, ⟨_, _, rfl, Nat.or_lt_two_pow hs c2, by omega⟩, rfl⟩
    | true =>
      rw [if_neg (fun q => by rw [nI_bit0 h2 (by omega), hr] at q; cases q)]
      rw [← c3, hr, if_pos rfl] at hacc'
      exact ⟨_, ⟨_, _, rfl, Nat.or_lt_two_pow hs c2, by omega⟩, rfl⟩
  · rintro _ rc ⟨acc, s, rfl, hs, hacc⟩
    show B_X1_gapsAsLaid_8 S (nI l.length) (nI rp) _ rc (nI acc) (nI s) (nI l.length) = _
    unfold B_X1_gapsAsLaid_8
    rw [if_pos ((nI_leI (by omega) (by omega)).mpr (Nat.le_refl _))]
    rw [List.drop_length] at hacc
    rw [← hacc]; rfl
theorem rwl_lx {P : Pb} {p : List Nat} {i : Nat} (h : i < p.length) : lx (P.rwl p) i = (P.kd (ix p i), P.rb.testBit (ix p i)) := by
  rw [lx_get (by rw [rwl_len]; exact h), ix_get h]
  unfold Pb.rwl
  rw [List.getElem_map]
theorem bit_mul (b : Bool) (j : Nat) : b.toNat * 2 ^ j = if b = true then 2 ^ j else 0 := by cases b <;> simp
theorem gapsOfOrder_eq {P : Pb} {S : XSt} {p : List Nat} {q1 : Nat} (hC : CP P S) (hq1 : q1 ≠ 28) (o1 : p.length = P.n) (o3 : ∀ g ∈ p, g < P.n) (o4 : ∀ i, i < P.n → S q1 i = nI (ix p i)) : ∃ S' : XSt, F_X1_gapsOfOrder S q1 40 = some (nI (P.gaps p), S') ∧ ∀ q, q ≠ 28 → S' q = S q := by
  have hn := hC.1.1
  unfold F_X1_gapsOfOrder
  refine xlp_Q (Q := fun o => ∃ S' : XSt, o = some (nI (P.gaps p), S') ∧ ∀ q, q ≠ 28 → S' q = S q) (I := fun j t => ∃ S' : XSt, t = (nI (bitsN (fun i => P.rb.testBit (ix p i)) j), nI j, S') ∧ (∀ q, q ≠ 28 → S' q = S q) ∧ ∀ i, i < j → S' 28 i = nI (P.kd (ix p i))) 0 P.n (by omega) (by omega) ⟨S, rfl, fun _ _ => rfl, fun i hi => by omega⟩ ?_ ?_
  · rintro j _ rc - hj ⟨S', rfl, hfr, hce⟩
    right
    have hg : ix p j < P.n := o3 _ (ix_mem (by omega))
    have hk := (hC.2.2.2.2.1 (ix p j) (by omega)).2.2.2.2.2.2
    refine ⟨(nI (bitsN (fun i => P.rb.testBit (ix p i)) (j + 1)), nI (j + 1), xst S' 28 j (nI (P.kd (ix p j)))), ⟨_, rfl, fun q hq => ?_, fun i hi => ?_⟩, ?_⟩
    · rw [xst_ne _ _ _ hq]; exact hfr q hq
    · rw [xst_at]
      by_cases e : i = j
      · rw [if_pos e, e]
      · rw [if_neg e]; exact hce i (by omega)
    · show B_X1_gapsOfOrder_4 q1 40 _ rc (nI (bitsN (fun i => P.rb.testBit (ix p i)) j)) (nI j) S' = _
      unfold B_X1_gapsOfOrder_4
      have h14 : S' 1 4 = nI P.n := by rw [hfr 1 (by decide)]; exact hC.2.1
      have hx : xin (nI j) 40 = true := xin_nI (by omega) (by decide)
      have hx9 : xin (nI j) 9 = true := xin_nI (by omega) (by decide)
      have hx8 : xin (nI (ix p j)) 8 = true := xin_nI (by omega) (by decide)
      have hj31 : xti (nI j) = j := xti_nI (by omega)
      have hg31 : xti (nI (ix p j)) = ix p j := xti_nI (by omega)
      have hS' : S' q1 j = nI (ix p j) := by rw [hfr q1 hq1]; exact o4 j hj
      have r1 : ∀ v, (xst S' 28 j v) 1 5 = nI P.rb := fun v => by rw [xst_ne _ _ _ (by decide), hfr 1 (by decide)]; exact hC.2.2.1
      have r2 : ∀ v, (xst S' 28 j v) q1 j = nI (ix p j) := fun v => by rw [xst_ne _ _ _ hq1]; exact hS'
      rw [h14, if_neg (fun q => absurd ((nI_leI (by omega) (by omega)).mp q) (by omega))]
      simp only [xlet_eq, hx, hx9, hx8, ↓reduceIte, hj31, hS', hg31, r1, r2]
      rw [hfr 10 (by decide), hk, nI_bit hC.2.2.2.1 (by omega), nI_shl (by omega) (by
        have h1 := Bool.toNat_le (P.rb.testBit (ix p j))
        have h2 : 2 ^ j ≤ 2 ^ 8 := Nat.pow_le_pow_right (by decide) (by omega)
        have h3 : (P.rb.testBit (ix p j)).toNat * 2 ^ j ≤ 1 * 2 ^ 8 := Nat.mul_le_mul h1 h2
        omega), nI_or, nI_1, bit_mul]
      rfl
  · rintro _ rc ⟨S', rfl, hfr, hce⟩
    refine ⟨S', ?_, hfr⟩
    show B_X1_gapsOfOrder_4 q1 40 _ rc _ (nI P.n) S' = _
    unfold B_X1_gapsOfOrder_4
    have h14 : S' 1 4 = nI P.n := by rw [hfr 1 (by decide)]; exact hC.2.1
    have hC' : CP P S' := hC.keep (hfr 1 (by decide)) (hfr 7 (by decide)) (hfr 8 (by decide)) (hfr 9 (by decide)) (hfr 10 (by decide))
    have hlen : (P.rwl p).length = P.n := by rw [rwl_len]; exact o1
    have hbl : bitsN (fun i => P.rb.testBit (ix p i)) P.n < 2 ^ 31 := Nat.lt_of_lt_of_le (bitsN_lt _ _) (Nat.pow_le_pow_right (by decide) (by omega))
    have hLD : LD (P.rwl p) (bitsN (fun i => P.rb.testBit (ix p i)) P.n) S' := ⟨by omega, hbl, fun i hi => by
      rw [hlen] at hi
      rw [rwl_lx (by omega)]
      refine ⟨hce i hi, hC.1.2.1 _, ?_⟩
      cases hb : P.rb.testBit (ix p i) with
      | true => exact (bitsN_bit _ _ _).mpr ⟨hi, hb⟩
      | false =>
        cases hc : (bitsN (fun i => P.rb.testBit (ix p i)) P.n).testBit i with
        | false => rfl
        | true =>
          have := ((bitsN_bit _ _ _).mp hc).2
          rw [hb] at this; cases this⟩
    rw [h14, if_pos ((nI_leI (by omega) (by omega)).mpr (Nat.le_refl _))]
    show (F_X1_gapsAsLaid S' (S' 1 4) _).bind _ = _
    have := laid_eq (P := P) hC'.2.2.2.2.2.1 hLD
    rw [hlen, ← gaps_lcost] at this
    rw [h14, this]; rfl
/-- the items tell an order -/
def tord (n : Nat) (it : Nat → Int32) (p : List Nat) : Prop := p.length = n ∧ p.Nodup ∧ (∀ g ∈ p, g < n) ∧ ∀ i, i < n → it i = nI (ix p i)
theorem tord_no {n : Nat} {it : Nat → Int32} (hn : n ≤ 8) {k : Nat} (hk : k < n) {q : List Nat} (hql : q.length = k) (hq : ∀ i, i < k → it i = nI (ix q i)) (hlt : ∀ g ∈ q, g < n) (h : it k < 0 ∨ nI n ≤ it k ∨ ∃ g, it k = nI g ∧ g ∈ q) (p : List Nat) : ¬ tord n it p := by
  rintro ⟨p1, p2, p3, p4⟩
  have hg := p3 _ (ix_mem (p := p) (i := k) (by omega))
  have e := p4 k hk
  rcases h with h | h | ⟨g, h1, h2⟩
  · rw [e] at h; exact nI_pos (by omega) h
  · rw [e] at h
    have := (nI_leI (by omega) (by omega)).mp h
    omega
  · obtain ⟨i, hi, ei⟩ := ix_of h2
    have hgn := hlt g h2
    have e1 := hq i (by omega)
    have e2 := p4 i (by omega)
    have hg2 := p3 _ (ix_mem (p := p) (i := i) (by omega))
    rw [e1, ei] at e2
    rw [h1] at e
    have h3 : g = ix p i := (nI_eq (by omega) (by omega)).mp e2
    have h4 : g = ix p k := (nI_eq (by omega) (by omega)).mp e
    have := ix_inj p2 (i := i) (j := k) (by omega) (by omega) (by omega)
    omega
theorem isOrder_eq {P : Pb} {S : XSt} (h14 : S 1 4 = nI P.n) (hn : P.n ≤ 8) (q1 : Nat) : (∃ p, tord P.n (S q1) p ∧ F_X5_isOrder S q1 40 (nI P.n) = some 1) ∨ (F_X5_isOrder S q1 40 (nI P.n) = some 0 ∧ ∀ p, ¬ tord P.n (S q1) p) := by
  unfold F_X5_isOrder
  rw [h14, if_pos rfl]
  have hN := two8 hn
  refine xlp_Q (Q := fun o => (∃ p, tord P.n (S q1) p ∧ o = some 1) ∨ (o = some 0 ∧ ∀ p, ¬ tord P.n (S q1) p)) (I := fun k t => ∃ p, t = (nI (fin 0 p), nI k) ∧ p.length = k ∧ p.Nodup ∧ (∀ g ∈ p, g < P.n) ∧ ∀ i, i < k → S q1 i = nI (ix p i)) 0 P.n (by omega) (by omega) ⟨[], rfl, rfl, List.nodup_nil, fun g hg => absurd hg List.not_mem_nil, fun i hi => by omega⟩ ?_ ?_
  · rintro k _ rc - hk ⟨p, rfl, p1, p2, p3, p4⟩
    have hfl : fin 0 p < 2 ^ P.n := fin_lt (Nat.two_pow_pos _) p3
    show ((∃ p', tord P.n (S q1) p' ∧ B_X5_isOrder_15 S q1 40 _ rc (nI (fin 0 p)) (nI k) = some 1) ∨ (B_X5_isOrder_15 S q1 40 _ rc (nI (fin 0 p)) (nI k) = some 0 ∧ ∀ p, ¬ tord P.n (S q1) p)) ∨ ∃ t', _ ∧ B_X5_isOrder_15 S q1 40 _ rc (nI (fin 0 p)) (nI k) = rc t'
    unfold B_X5_isOrder_15
    rw [h14, if_neg (fun q => absurd ((nI_leI (by omega) (by omega)).mp q) (by omega)), if_pos (xin_nI (by omega) (by decide)), xti_nI (by omega), xlet_eq]
    by_cases h1 : S q1 k < 0
    · rw [if_pos h1]
      exact Or.inl (Or.inr ⟨rfl, tord_no hn hk p1 p4 p3 (Or.inl h1)⟩)
    · rw [if_neg h1]
      by_cases h2 : nI P.n ≤ S q1 k
      · rw [if_pos h2]
        exact Or.inl (Or.inr ⟨rfl, tord_no hn hk p1 p4 p3 (Or.inr (Or.inl h2))⟩)
      · rw [if_neg h2]
        obtain ⟨g, hg31, eg⟩ := nI_of h1
        rw [eg] at h2 ⊢
        have hg : g < P.n := by
          rcases Nat.lt_or_ge g P.n with h | h
          · exact h
          · exact absurd ((nI_leI (by omega) hg31).mpr h) h2
        cases hb : (fin 0 p).testBit g with
        | true =>
          rw [if_neg (fun q => by rw [nI_bit0 (by omega) (by omega), hb] at q; cases q)]
          exact Or.inl (Or.inr ⟨rfl, tord_no hn hk p1 p4 p3 (Or.inr (Or.inr ⟨g, eg, (fin0_bit p g).mp hb⟩))⟩)
        | false =>
          rw [if_pos ((nI_bit0 (by omega) (by omega)).mpr hb), nI_shl1 (by omega), nI_or]
          simp only [xlet_eq]
          rw [nI_1]
          have hgp : ¬ g ∈ p := fun h => by rw [(fin0_bit p g).mpr h] at hb; cases hb
          refine Or.inr ⟨_, ⟨p ++ [g], by rw [fin_snoc], by simp [p1], ?_, fun x hx => ?_, fun i hi => ?_⟩, rfl⟩
          · refine List.pairwise_append.mpr ⟨p2, List.pairwise_singleton _ _, fun a ha b hb' => ?_⟩
            rw [List.mem_singleton.mp hb']
            intro e; exact hgp (e ▸ ha)
          · rcases List.mem_append.mp hx with h | h
            · exact p3 x h
            · rw [List.mem_singleton.mp h]; exact hg
          · by_cases e : i = k
            · rw [e, eg, ← p1, ix_mid]
            · rw [ix_app (by omega)]; exact p4 i (by omega)
  · rintro _ rc ⟨p, rfl, p1, p2, p3, p4⟩
    left
    refine ⟨p, ⟨p1, p2, p3, p4⟩, ?_⟩
    show B_X5_isOrder_15 S q1 40 _ rc _ (nI P.n) = _
    unfold B_X5_isOrder_15
    rw [h14, if_pos ((nI_leI (by omega) (by omega)).mpr (Nat.le_refl _))]
theorem isOrderR {P : Pb} {U : XSr} (h0 : U.1 0 0 = nI P.n) (hn : P.n ≤ 8) {s : Nat} (hs : s < 4) (c2 : Int32) (K : XSr → Option (Int32 × XSr)) : (∃ p V, tord P.n (fun i => U.1 25 (40 * s + i)) p ∧ xlp (fun k rc t => B_X7_gaps_55 (nI s) c2 k rc t.1 t.2.1 t.2.2) K XFU (0, 0, U) = K V ∧ (∀ q, q ≠ 15 → V.1 q = U.1 q) ∧ V.2 = U.2 ∧ ∀ i, i < P.n → V.1 15 i = nI (ix p i)) ∨ (∃ V, xlp (fun k rc t => B_X7_gaps_55 (nI s) c2 k rc t.1 t.2.1 t.2.2) K XFU (0, 0, U) = some (-3, V) ∧ (∀ q, q ≠ 15 → V.1 q = U.1 q) ∧ V.2 = U.2 ∧ ∀ p, ¬ tord P.n (fun i => U.1 25 (40 * s + i)) p) := by
  have hN := two8 hn
  refine xlp_Q (Q := fun o => (∃ p V, tord P.n (fun i => U.1 25 (40 * s + i)) p ∧ o = K V ∧ (∀ q, q ≠ 15 → V.1 q = U.1 q) ∧ V.2 = U.2 ∧ ∀ i, i < P.n → V.1 15 i = nI (ix p i)) ∨ (∃ V, o = some (-3, V) ∧ (∀ q, q ≠ 15 → V.1 q = U.1 q) ∧ V.2 = U.2 ∧ ∀ p, ¬ tord P.n (fun i => U.1 25 (40 * s + i)) p)) (I := fun k t => ∃ (p : List Nat) (V : XSr), t = (nI (fin 0 p), nI k, V) ∧ p.length = k ∧ p.Nodup ∧ (∀ g ∈ p, g < P.n) ∧ (∀ i, i < k → U.1 25 (40 * s + i) = nI (ix p i)) ∧ (∀ q, q ≠ 15 → V.1 q = U.1 q) ∧ V.2 = U.2 ∧ ∀ i, i < k → V.1 15 i = nI (ix p i)) 0 P.n (by omega) (by omega) ⟨[], U, rfl, rfl, List.nodup_nil, fun g hg => absurd hg List.not_mem_nil, fun i hi => by omega, fun _ _ => rfl, rfl, fun i hi => by omega⟩ ?_ ?_
  · rintro k _ rc - hk ⟨p, V, rfl, p1, p2, p3, p4, vfr, v2, vce⟩
    have hfl : fin 0 p < 2 ^ P.n := fin_lt (Nat.two_pow_pos _) p3
    have h00 : V.1 0 0 = nI P.n := by rw [vfr 0 (by decide)]; exact h0
    have bad : ∀ o : Option (Int32 × XSr), (U.1 25 (40 * s + k) < 0 ∨ nI P.n ≤ U.1 25 (40 * s + k) ∨ ∃ g, U.1 25 (40 * s + k) = nI g ∧ g ∈ p) → o = some (-3, V) → ((∃ p V, tord P.n (fun i => U.1 25 (40 * s + i)) p ∧ o = K V ∧ (∀ q, q ≠ 15 → V.1 q = U.1 q) ∧ V.2 = U.2 ∧ ∀ i, i < P.n → V.1 15 i = nI (ix p i)) ∨ (∃ V, o = some (-3, V) ∧ (∀ q, q ≠ 15 → V.1 q = U.1 q) ∧ V.2 = U.2 ∧ ∀ p, ¬ tord P.n (fun i => U.1 25 (40 * s + i)) p)) := fun o h e => Or.inr ⟨V, e, vfr, v2, tord_no hn hk p1 p4 p3 h⟩
    have hB : B_X7_gaps_55 (nI s) c2 K rc (nI (fin 0 p)) (nI k) V = (if (F_X7_isGrave V (U.1 25 (40 * s + k))) = 0 then (some ((-3), V)) else (if (F_X7_is (nI (fin 0 p)) (U.1 25 (40 * s + k))) = 0 then rc (nI (fin 0 p) ||| ((1 : Int32) <<< ((U.1 25 (40 * s + k)) &&& 31)), nI (k + 1), xsr V 15 k (U.1 25 (40 * s + k))) else (some ((-3), V)))) := by
      unfold B_X7_gaps_55
      have hx : xin (nI k) 8 = true := xin_nI (by omega) (by decide)
      rw [h00, if_neg (fun q => absurd ((nI_leI (by omega) (by omega)).mp q) (by omega)), nI_40, if_pos (xin_nI (by omega) (by decide)), xti_nI (by omega), vfr 25 (by decide)]
      simp only [xlet_eq, hx, ↓reduceIte]
      rw [xti_nI (by omega), nI_1]
    show ((∃ p' V', _ ∧ B_X7_gaps_55 (nI s) c2 K rc (nI (fin 0 p)) (nI k) V = K V' ∧ _) ∨ (∃ V', B_X7_gaps_55 (nI s) c2 K rc (nI (fin 0 p)) (nI k) V = some (-3, V') ∧ _)) ∨ ∃ t', _ ∧ B_X7_gaps_55 (nI s) c2 K rc (nI (fin 0 p)) (nI k) V = rc t'
    rw [hB]
    by_cases hg0 : F_X7_isGrave V (U.1 25 (40 * s + k)) = 0
    · rw [if_pos hg0]
      refine Or.inl (bad _ ?_ rfl)
      by_cases h1 : U.1 25 (40 * s + k) < 0
      · exact Or.inl h1
      · right; left
        obtain ⟨g, hg31, eg⟩ := nI_of h1
        rw [eg] at hg0 ⊢
        rcases Nat.lt_or_ge g P.n with h | h
        · exfalso
          unfold F_X7_isGrave at hg0
          rw [h00, in_within] at hg0
          have e1 : nI P.n - (1 : Int32) = nI (P.n - 1) := pk_sub (b := 1) (by omega)
          rw [e1] at hg0
          exact (within_1.mpr ⟨nI_pos' hg31, (nI_leI hg31 (by omega)).mpr (by omega)⟩) hg0
        · exact (nI_leI (by omega) hg31).mpr h
    · rw [if_neg hg0]
      have hgr : ∃ g, U.1 25 (40 * s + k) = nI g ∧ g < P.n := by
        unfold F_X7_isGrave at hg0
        rw [h00, in_within] at hg0
        have e1 : nI P.n - (1 : Int32) = nI (P.n - 1) := pk_sub (b := 1) (by omega)
        rw [e1] at hg0
        obtain ⟨g, eg, -, hg⟩ := within_nI (a := 0) (b := P.n - 1) (by decide) (by omega) hg0
        exact ⟨g, eg, by omega⟩
      obtain ⟨g, eg, hg⟩ := hgr
      rw [eg, is_eq (by omega) (by omega)]
      cases hb : (fin 0 p).testBit g with
      | true =>
        rw [if_neg (by decide)]
        exact Or.inl (bad _ (Or.inr (Or.inr ⟨g, eg, (fin0_bit p g).mp hb⟩)) rfl)
      | false =>
        rw [if_pos (by decide), nI_shl1 (by omega), nI_or]
        have hgp : ¬ g ∈ p := fun h => by rw [(fin0_bit p g).mpr h] at hb; cases hb
        refine Or.inr ⟨_, ⟨p ++ [g], xsr V 15 k (nI g), by rw [fin_snoc], by simp [p1], ?_, fun x hx => ?_, fun i hi => ?_, fun q hq => ?_, v2, fun i hi => ?_⟩, rfl⟩
        · refine List.pairwise_append.mpr ⟨p2, List.pairwise_singleton _ _, fun a ha b hb' => ?_⟩
          rw [List.mem_singleton.mp hb']
          intro e; exact hgp (e ▸ ha)
        · rcases List.mem_append.mp hx with h | h
          · exact p3 x h
          · rw [List.mem_singleton.mp h]; exact hg
        · by_cases e : i = k
          · rw [e, eg, ← p1, ix_mid]
          · rw [ix_app (by omega)]; exact p4 i (by omega)
        · rw [xsr_1, xst_ne _ _ _ hq]; exact vfr q hq
        · rw [xsr_1, xst_at]
          by_cases e : i = k
          · rw [if_pos e, e, ← p1, ix_mid]
          · rw [if_neg e, ix_app (by omega)]; exact vce i (by omega)
  · rintro _ rc ⟨p, V, rfl, p1, p2, p3, p4, vfr, v2, vce⟩
    left
    refine ⟨p, V, ⟨p1, p2, p3, p4⟩, ?_, vfr, v2, vce⟩
    have h00 : V.1 0 0 = nI P.n := by rw [vfr 0 (by decide)]; exact h0
    show B_X7_gaps_55 (nI s) c2 K rc _ (nI P.n) V = _
    unfold B_X7_gaps_55
    rw [h00, if_pos ((nI_leI (by omega) (by omega)).mpr (Nat.le_refl _))]
theorem st_gaps : St_gaps IX := by
  intro S U x1 x2 hI
  by_cases hs0 : F_X6_isSheet x1 = 0
  · exact ⟨-2, S, U, by unfold F_X6_gaps; rw [if_pos hs0], by unfold F_X7_gaps; rw [isSheet_eq, if_pos hs0], hI⟩
  by_cases hw0 : F_X6_within x2 0 1 = 0
  · exact ⟨-2, S, U, by unfold F_X6_gaps; rw [if_neg hs0, if_pos hw0], by unfold F_X7_gaps; rw [isSheet_eq, if_neg hs0, in_within, if_pos hw0], hI⟩
  obtain ⟨s, rfl, hs⟩ := isSheet_n hs0
  have hxs : xin (nI s) 4 = true := xin_nI hs (by decide)
  have hs31 : xti (nI s) = s := xti_nI (by omega)
  obtain ⟨i1, i2, i3, i4, i5, i6⟩ := hI.2.2.2.2.2.2.2.1 s hs
  have hY2 := hI.1.2.1
  have hn8 := hI.1.1.2
  have hC := CP_of hI
  have h14 : S 1 4 = nI (pbS S).n := hI.1.1.1
  have h00 : U.1 0 0 = nI (pbS S).n := by rw [← hY2]; exact h14
  have hnn : (pbS S).n = xti (S 1 4) := rfl
  unfold F_X6_gaps F_X7_gaps
  rw [isSheet_eq, if_neg hs0, if_neg hs0, in_within, if_neg hw0, if_neg hw0]
  simp only [hxs, ↓reduceIte, hs31]
  rcases i1 with ⟨l1, l2⟩ | ⟨l1, l2⟩
  · rw [l1, l2, if_neg i10, if_pos rfl]
    obtain ⟨f1, f2, f3⟩ := finding_step SCok_x WRok_x hI 1
    rw [f1, f2]
    exact ⟨_, _, _, rfl, rfl, f3⟩
  · rw [l1, l2, if_pos rfl, if_neg i10]
    by_cases hsz : S (29 + s) 3 = nI (pbS S).n
    · rw [hsz, ← i4, hsz, h00, if_pos rfl, show 29 + s + 4 = 33 + s by omega]
      have hit : ∀ p, tord (pbS S).n (S (33 + s)) p ↔ tord (pbS S).n (fun i => U.1 25 (40 * s + i)) p := by
        intro p
        unfold tord
        have : ∀ i, i < (pbS S).n → S (33 + s) i = U.1 25 (40 * s + i) := fun i hi => i6 i (by omega)
        constructor
        · rintro ⟨h1, h2, h3, h4⟩; exact ⟨h1, h2, h3, fun i hi => by show U.1 25 (40 * s + i) = _; rw [← this i hi]; exact h4 i hi⟩
        · rintro ⟨h1, h2, h3, h4⟩; exact ⟨h1, h2, h3, fun i hi => by rw [this i hi]; exact h4 i hi⟩
      rcases isOrderR h00 hn8 hs x2 (fun e9 => ((F_X7_lays e9).bind fun z10 => (if x2 = 0 then ((F_X7_gapsNow z10).bind fun z12 => (some (z12, z10))) else ((F_X7_canBe z10).bind fun z11 => (if z11 = 0 then (some (0, z10)) else (some (1, z10))))))) with ⟨p, V, t1, e1, v1, v2, v3⟩ | ⟨V, e1, v1, v2, t1⟩
      · rw [e1]
        rcases isOrder_eq h14 hn8 (33 + s) with ⟨p', t2, e2⟩ | ⟨-, t2⟩
        · rw [e2]
          simp only [Option.bind_some]
          rw [if_neg i10]
          have hIV : IX S V := hI.keepR WRok_x (fun q h _ _ => v1 q h) v2
          obtain ⟨W, l1, l2, l3, l4, l5⟩ := lays_eq hIV
          rw [l1]
          simp only [Option.bind_some]
          have tc := (hit p).mpr t1
          have hRW : RP (pbS S) W := RP_of hI (fun q hq => by rw [l4 q (by omega), v1 q (by omega)]) (fun j _ => by rw [l4 0 (by decide), v1 0 (by decide)]) l3
          have hOW : RO (pbS S) p W := ⟨t1.1, t1.2.1, t1.2.2.1, fun i hi => by rw [l4 15 (by decide)]; exact v3 i hi⟩
          by_cases h0 : x2 = 0
          · rw [if_pos h0, if_pos h0, gapsNow_eq hRW hOW]
            obtain ⟨S', g1, g2⟩ := gapsOfOrder_eq hC (q1 := 33 + s) (by omega) tc.1 tc.2.2.1 tc.2.2.2
            rw [g1]
            exact ⟨_, _, _, rfl, rfl, l2.keepC SCok_x (fun q _ h => g2 q h)⟩
          · rw [if_neg h0, if_neg h0, canBe_eq hRW hOW, canBeC hC tc.1 tc.2.1 tc.2.2.1 (by omega) (by omega) tc.2.2.2]
            simp only [Option.bind_some]
            by_cases hok : (pbS S).okp 0 p = true
            · rw [if_pos hok, if_neg i10]
              exact ⟨_, _, _, rfl, rfl, l2⟩
            · rw [if_neg hok, if_pos rfl]
              exact ⟨_, _, _, rfl, rfl, l2⟩
        · exact absurd ((hit p).mpr t1) (t2 p)
      · rw [e1]
        rcases isOrder_eq h14 hn8 (33 + s) with ⟨p', t2, e2⟩ | ⟨e2, t2⟩
        · exact absurd ((hit p').mp t2) (t1 p')
        · rw [e2]
          simp only [Option.bind_some]
          exact ⟨_, _, _, if_pos trivial, rfl, hI.keepR WRok_x (fun q h _ _ => v1 q h) v2⟩
    · rw [if_neg (show ¬ U.1 24 s = U.1 0 0 from fun e => hsz (by rw [i4, e, h00]))]
      unfold F_X5_isOrder
      rw [h14, if_neg hsz]
      exact ⟨_, _, _, rfl, rfl, hI⟩
