/-! HALVES: the ways to a set, and those behind it; LEFT OUT: the least set of kinds -/
def Pb.ga (P : Pb) : Nat → Nat → Nat → List Nat
  | 0, s, t => if s = t then [0] else []
  | m + 1, s, t => (List.range P.n).flatMap (fun g => if (t.testBit g && P.ok s g) = true then (P.ga m (s ||| 2 ^ g) t).map (P.ct s g + ·) else [])
def prs (A B : List Nat) : List Nat := A.flatMap (fun a => B.map (a + ·))
theorem count_range (f : Nat → List Nat) (v n : Nat) : ((List.range n).flatMap f).count v = smN (fun g => (f g).count v) n := by
  induction n with
  | zero => rfl
  | succ n ih =>
    rw [List.range_succ, List.flatMap_append, List.count_append, ih]
    show _ + ([n].flatMap f).count v = smN (fun g => (f g).count v) n + (f n).count v
    simp
theorem count_shift (c v : Nat) (l : List Nat) : (l.map (c + ·)).count v = if c ≤ v then l.count (v - c) else 0 := by
  by_cases h : c ≤ v
  · rw [if_pos h]
    have e : v = c + (v - c) := by omega
    rw [e, count_add]
    congr 1; omega
  · rw [if_neg h]
    exact List.count_eq_zero.mpr (fun hv => by
      obtain ⟨x, _, e⟩ := List.mem_map.mp hv
      omega)
theorem smN_swap (f : Nat → Nat → Nat) (n m : Nat) : smN (fun i => smN (fun j => f i j) m) n = smN (fun j => smN (fun i => f i j) n) m := by
  induction n with
  | zero => exact (smN_zero m).symm
  | succ n ih =>
    show smN (fun i => smN (fun j => f i j) m) n + smN (fun j => f n j) m = smN (fun j => smN (fun i => f i j) n + f n j) m
    rw [ih, smN_add]
theorem smN_single (f : Nat → Nat) {s N : Nat} (h : s < N) : smN (fun t => if s = t then f t else 0) N = f s := by
  induction N with
  | zero => omega
  | succ N ih =>
    show smN (fun t => if s = t then f t else 0) N + (if s = N then f N else 0) = f s
    by_cases e : s = N
    · subst e
      rw [if_pos rfl]
      have : smN (fun t => if s = t then f t else 0) s = smN (fun _ => 0) s := smN_congr (fun i hi => if_neg (by omega))
      rw [this, smN_zero]; omega
    · rw [if_neg e, ih (by omega)]; omega
theorem smN_if (c : Prop) [Decidable c] (f : Nat → Nat) (n : Nat) : (if c then smN f n else 0) = smN (fun t => if c then f t else 0) n := by
  by_cases h : c
  · rw [if_pos h]; exact smN_congr (fun i _ => (if_pos h).symm)
  · have h1 : smN (fun t => if c then f t else 0) n = smN (fun _ => 0) n := smN_congr (fun i _ => if_neg h)
    rw [if_neg h, h1, smN_zero]
theorem prs_flat (f : Nat → List Nat) (R B : List Nat) : prs (R.flatMap f) B = R.flatMap (fun g => prs (f g) B) := by
  unfold prs; rw [List.flatMap_assoc]
theorem prs_map (c : Nat) (A B : List Nat) : prs (A.map (c + ·)) B = (prs A B).map (c + ·) := by
  unfold prs
  rw [List.flatMap_map, List.map_flatMap]
  apply flatMap_congr'
  intro a _
  rw [List.map_map]
  apply List.map_congr_left
  intro b _
  show c + a + b = c + (a + b)
  omega
theorem ga_sub {P : Pb} {m s t x : Nat} (h : x ∈ P.ga m s t) : (∀ g, s.testBit g = true → t.testBit g = true) ∧ popN P.n t = popN P.n s + m := by
  induction m generalizing s x with
  | zero =>
    have h' : x ∈ (if s = t then [0] else []) := h
    by_cases e : s = t
    · subst e; exact ⟨fun _ h => h, rfl⟩
    · rw [if_neg e] at h'; cases h'
  | succ m ih =>
    obtain ⟨g, hg, hx⟩ := List.mem_flatMap.mp h
    rw [List.mem_range] at hg
    by_cases hc : (t.testBit g && P.ok s g) = true
    · rw [if_pos hc] at hx
      obtain ⟨y, hy, _⟩ := List.mem_map.mp hx
      obtain ⟨h1, h2⟩ := ih hy
      rw [Bool.and_eq_true] at hc
      refine ⟨fun k hk => h1 k (by rw [or2_bit, hk]; rfl), ?_⟩
      rw [h2, popN_or hg (ok_bit hc.2)]; omega
    · rw [if_neg hc] at hx; cases hx
theorem ga_split (P : Pb) (m1 m2 s v : Nat) (hs : s < 2 ^ P.n) : (P.costs (m1 + m2) s).count v = smN (fun t => (prs (P.ga m1 s t) (P.costs m2 t)).count v) (2 ^ P.n) := by
  induction m1 generalizing s v with
  | zero =>
    rw [Nat.zero_add]
    have e : ∀ t, (prs (P.ga 0 s t) (P.costs m2 t)).count v = if s = t then (P.costs m2 t).count v else 0 := by
      intro t
      show (prs (if s = t then [0] else []) (P.costs m2 t)).count v = _
      by_cases h : s = t
      · rw [if_pos h, if_pos h]
        simp [prs]
      · rw [if_neg h, if_neg h]; rfl
    rw [smN_congr (fun t _ => e t), smN_single _ hs]
  | succ m1 ih =>
    have e1 : P.costs (m1 + 1 + m2) s = P.costsJ (m1 + m2) s P.n := by
      rw [show m1 + 1 + m2 = (m1 + m2) + 1 by omega, costs_succ]
    rw [e1]
    unfold Pb.costsJ
    rw [count_range]
    have e2 : ∀ t, (prs (P.ga (m1 + 1) s t) (P.costs m2 t)).count v = smN (fun g => if P.ok s g = true then ((prs (P.ga m1 (s ||| 2 ^ g) t) (P.costs m2 t)).map (P.ct s g + ·)).count v else 0) P.n := by
      intro t
      show (prs ((List.range P.n).flatMap _) _).count v = _
      rw [prs_flat, count_range]
      apply smN_congr
      intro g hg
      by_cases ho : P.ok s g = true
      · rw [if_pos ho]
        by_cases hb : t.testBit g = true
        · rw [if_pos (by rw [hb, ho]; rfl), prs_map]
        · rw [if_neg (by rw [Bool.and_eq_true]; exact fun q => hb q.1)]
          have : P.ga m1 (s ||| 2 ^ g) t = [] := by
            cases hga : P.ga m1 (s ||| 2 ^ g) t with
            | nil => rfl
            | cons x l =>
              have hx : x ∈ P.ga m1 (s ||| 2 ^ g) t := by rw [hga]; exact List.mem_cons_self ..
              exact absurd ((ga_sub hx).1 g (by rw [or2_bit]; simp)) hb
          rw [this]; rfl
      · rw [if_neg ho, if_neg (by rw [Bool.and_eq_true]; exact fun q => ho q.2)]; rfl
    rw [smN_congr (fun t _ => e2 t), smN_swap]
    apply smN_congr
    intro g hg
    by_cases ho : P.ok s g = true
    · rw [if_pos ho, count_shift, ih (s ||| 2 ^ g) _ (Nat.or_lt_two_pow hs (two_lt hg)), smN_if]
      apply smN_congr
      intro t _
      rw [if_pos ho, count_shift]
    · rw [if_neg ho]
      have : smN (fun t => if P.ok s g = true then ((prs (P.ga m1 (s ||| 2 ^ g) t) (P.costs m2 t)).map (P.ct s g + ·)).count v else 0) (2 ^ P.n) = smN (fun _ => 0) (2 ^ P.n) := smN_congr (fun _ _ => if_neg ho)
      rw [this, smN_zero]; rfl
theorem ga_full {P : Pb} {m s : Nat} (hs : s < 2 ^ P.n) (hm : popN P.n s + m = P.n) : P.ga m s P.full = P.costs m s := by
  induction m generalizing s with
  | zero =>
    have : s = P.full := full_of hs (by omega)
    show (if s = P.full then [0] else []) = _
    rw [if_pos this]; rfl
  | succ m ih =>
    rw [costs_succ]
    show (List.range P.n).flatMap _ = (List.range P.n).flatMap _
    apply flatMap_congr'
    intro g hg
    rw [List.mem_range] at hg
    have hb : P.full.testBit g = true := by
      show (2 ^ P.n - 1).testBit g = true
      rw [Nat.testBit_two_pow_sub_one]; simpa using hg
    rw [hb, Bool.true_and]
    by_cases ho : P.ok s g = true
    · rw [if_pos ho, if_pos ho, ih (Nat.or_lt_two_pow hs (two_lt hg)) (by rw [popN_or hg (ok_bit ho)]; omega)]
    · rw [if_neg ho, if_neg ho]
theorem popN_sm (n s : Nat) : popN n s = smN (fun g => (s.testBit g).toNat) n := by
  induction n with
  | zero => rfl
  | succ n ih => show popN n s + _ = smN _ n + _; rw [ih]
theorem len_range (f : Nat → List Nat) (n : Nat) : ((List.range n).flatMap f).length = smN (fun g => (f g).length) n := by
  induction n with
  | zero => rfl
  | succ n ih =>
    rw [List.range_succ, List.flatMap_append, List.length_append, ih]
    show _ + ([n].flatMap f).length = smN (fun g => (f g).length) n + (f n).length
    simp
theorem smN_mono {f g : Nat → Nat} {n : Nat} (h : ∀ i, i < n → f i ≤ g i) : smN f n ≤ smN g n := by
  induction n with
  | zero => exact Nat.le_refl _
  | succ n ih =>
    show smN f n + f n ≤ smN g n + g n
    have h1 := ih (fun i hi => h i (by omega))
    have h2 := h n (by omega)
    omega
theorem smN_mul (c : Nat) (f : Nat → Nat) (n : Nat) : smN (fun i => f i * c) n = smN f n * c := by
  induction n with
  | zero => simp [smN]
  | succ n ih => show smN (fun i => f i * c) n + f n * c = (smN f n + f n) * c; rw [ih, Nat.add_mul]
theorem ga_len (P : Pb) (m s t : Nat) : (P.ga m s t).length ≤ fct m := by
  induction m generalizing s with
  | zero =>
    show (if s = t then [0] else []).length ≤ 1
    by_cases h : s = t
    · rw [if_pos h]; exact Nat.le_refl _
    · rw [if_neg h]; exact Nat.zero_le _
  | succ m ih =>
    cases hga : P.ga (m + 1) s t with
    | nil => exact Nat.zero_le _
    | cons x l =>
      have hx : x ∈ P.ga (m + 1) s t := by rw [hga]; exact List.mem_cons_self ..
      obtain ⟨h1, h2⟩ := ga_sub hx
      rw [← hga]
      show ((List.range P.n).flatMap _).length ≤ (m + 1) * fct m
      rw [len_range]
      have e : popN P.n t = popN P.n s + smN (fun g => (t.testBit g && !s.testBit g).toNat) P.n := by
        rw [popN_sm, popN_sm, ← smN_add]
        apply smN_congr
        intro g _
        have := h1 g
        cases hs : s.testBit g <;> cases ht : t.testBit g <;> simp_all
      have e2 : smN (fun g => (t.testBit g && !s.testBit g).toNat) P.n = m + 1 := by omega
      rw [← e2, ← smN_mul]
      apply smN_mono
      intro g _
      by_cases hc : (t.testBit g && P.ok s g) = true
      · rw [if_pos hc, List.length_map]
        rw [Bool.and_eq_true] at hc
        rw [hc.1, ok_bit hc.2]
        have := ih (s ||| 2 ^ g)
        simpa using this
      · rw [if_neg hc]; exact Nat.zero_le _
/-! LEFT OUT -/
def lt2 (a b : Nat) : Prop := popN 10 a < popN 10 b ∨ (popN 10 a = popN 10 b ∧ a < b)
theorem popN_subs {a b : Nat} (h : ∀ k, a.testBit k = true → b.testBit k = true) (n : Nat) : popN n a ≤ popN n b ∧ (popN n a = popN n b → ∀ k, k < n → a.testBit k = b.testBit k) := by
  induction n with
  | zero => exact ⟨Nat.le_refl _, fun _ k hk => by omega⟩
  | succ n ih =>
    have hn := h n
    have e1 : popN (n + 1) a = popN n a + (a.testBit n).toNat := rfl
    have e2 : popN (n + 1) b = popN n b + (b.testBit n).toNat := rfl
    have hl : (a.testBit n).toNat ≤ (b.testBit n).toNat := by
      cases ha : a.testBit n <;> cases hb : b.testBit n <;> simp_all
    refine ⟨by omega, fun he k hk => ?_⟩
    have h1 : popN n a = popN n b := by omega
    have h2 : (a.testBit n).toNat = (b.testBit n).toNat := by omega
    by_cases e : k = n
    · subst e
      cases ha : a.testBit k <;> cases hb : b.testBit k <;> simp_all
    · exact ih.2 h1 k (by omega)
theorem subs_eq {a b : Nat} (h : ∀ k, a.testBit k = true → b.testBit k = true) (hb : b < 2 ^ 10) (he : popN 10 a = popN 10 b) : a = b := by
  apply bits_eq
  intro k
  constructor
  · exact h k
  · intro hk
    rcases Nat.lt_or_ge k 10 with h1 | h1
    · rw [(popN_subs h 10).2 he k h1]; exact hk
    · rw [Nat.testBit_lt_two_pow (Nat.lt_of_lt_of_le hb (Nat.pow_le_pow_right (by decide) h1))] at hk; cases hk
theorem andn_0 {a b : Nat} : andn a b = 0 ↔ ∀ k, a.testBit k = true → b.testBit k = true := by
  constructor
  · intro h k hk
    have : (andn a b).testBit k = false := by rw [h]; simp
    rw [andn_bit, hk] at this
    simpa using this
  · intro h
    apply bits_eq
    intro k
    rw [andn_bit]
    have := h k
    cases ha : a.testBit k <;> cases hb : b.testBit k <;> simp_all
/-- of all sets that hold one of the rows, the least is the least of the rows -/
theorem left_eq {L : List Nat} {W o r : Nat} (hL : L ≠ []) (hW : W < 2 ^ 10) (hs : ∀ u ∈ L, andn u W = 0) (hr : r ∈ L) (hrm : ∀ u ∈ L, ¬ lt2 u r)
    (ho : (andn o W = 0 ∧ (∃ u ∈ L, andn u o = 0) ∧ ∀ c, andn c W = 0 → (∃ u ∈ L, andn u c = 0) → ¬ lt2 c o) ∨ (o = W ∧ ∀ c, andn c W = 0 → (∃ u ∈ L, andn u c = 0) → ¬ popN 10 c < popN 10 W)) : o = r := by
  have hrr : andn r r = 0 := andn_0.mpr (fun _ h => h)
  rcases ho with ⟨h1, ⟨u, hu, hu2⟩, h3⟩ | ⟨rfl, h3⟩
  · have n1 := h3 r (hs r hr) ⟨r, hr, hrr⟩
    have n2 := hrm u hu
    have ho10 : o < 2 ^ 10 := by
      have h := andn_0.mp h1
      rcases Nat.lt_or_ge o (2 ^ 10) with h' | h'
      · exact h'
      · obtain ⟨k, hk1, hk2⟩ := Nat.exists_ge_and_testBit_of_ge_two_pow h'
        have := h k hk2
        rw [Nat.testBit_lt_two_pow (Nat.lt_of_lt_of_le hW (Nat.pow_le_pow_right (by decide) hk1))] at this
        cases this
    have hsub := andn_0.mp hu2
    have hp := (popN_subs hsub 10).1
    unfold lt2 at n1 n2
    rcases Nat.lt_or_ge (popN 10 u) (popN 10 o) with hlt | hge
    · omega
    · have : u = o := subs_eq hsub ho10 (by omega)
      subst this
      omega
  · have n1 := h3 r (hs r hr) ⟨r, hr, hrr⟩
    have hsub := andn_0.mp (hs r hr)
    have hp := (popN_subs hsub 10).1
    exact (subs_eq hsub hW (by omega)).symm
