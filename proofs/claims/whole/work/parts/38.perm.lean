/-! THE NEXT ORDER: all orders, the least row first, one behind the other -/
def Desc (l : List Nat) : Prop := l.Pairwise (fun a b => b < a)
def NX (p p' : List Nat) : Prop := ∃ q x d1 y d2, p = q ++ x :: (d1 ++ y :: d2) ∧ Desc (d1 ++ y :: d2) ∧ x < y ∧ (∀ z ∈ d2, z < x) ∧ p' = q ++ y :: (d2.reverse ++ x :: d1.reverse)
theorem NX.cons {p p' : List Nat} (g : Nat) (h : NX p p') : NX (g :: p) (g :: p') := by
  obtain ⟨q, x, d1, y, d2, h1, h2, h3, h4, h5⟩ := h
  exact ⟨g :: q, x, d1, y, d2, by rw [h1]; rfl, h2, h3, h4, by rw [h5]; rfl⟩
def ChT : List Nat → List (List Nat) → List Nat → Prop
  | p, [], z => p = z
  | p, q :: L, z => NX p q ∧ ChT q L z
theorem ChT.map (g : Nat) {p z : List Nat} {L : List (List Nat)} (h : ChT p L z) : ChT (g :: p) (L.map (g :: ·)) (g :: z) := by
  induction L generalizing p with
  | nil => exact congrArg (g :: ·) h
  | cons q L ih => exact ⟨h.1.cons g, ih h.2⟩
theorem ChT.join {p z p' z' : List Nat} {L L' : List (List Nat)} (h : ChT p L z) (hn : NX z p') (h' : ChT p' L' z') : ChT p (L ++ p' :: L') z' := by
  induction L generalizing p with
  | nil =>
    have e : p = z := h
    subst e
    exact ⟨hn, h'⟩
  | cons q L ih => exact ⟨h.1, ih h.2⟩
/-- graves that are not in a set -/
def cmp (n s : Nat) : List Nat := (List.range n).filter (fun g => !s.testBit g)
theorem cmp_sorted (n s : Nat) : (cmp n s).Pairwise (· < ·) := List.Pairwise.filter _ List.pairwise_lt_range
theorem cmp_or {n s g : Nat} {A B : List Nat} (h : cmp n s = A ++ g :: B) : cmp n (s ||| 2 ^ g) = A ++ B := by
  have e : cmp n (s ||| 2 ^ g) = (cmp n s).filter (fun h => !decide (g = h)) := by
    unfold cmp
    rw [List.filter_filter]
    apply List.filter_congr
    intro x _
    rw [or2_bit, Bool.not_or, Bool.and_comm]
  have hs := cmp_sorted n s
  rw [h] at hs
  obtain ⟨hA, hgB, hAB⟩ := List.pairwise_append.mp hs
  obtain ⟨hgb, -⟩ := List.pairwise_cons.mp hgB
  rw [e, h, List.filter_append, List.filter_cons]
  have h1 : A.filter (fun h => !decide (g = h)) = A := List.filter_eq_self.mpr (fun x hx => by
    have := hAB x hx g (List.mem_cons_self ..)
    simp only [Bool.not_eq_true', decide_eq_false_iff_not]; omega)
  have h2 : B.filter (fun h => !decide (g = h)) = B := List.filter_eq_self.mpr (fun x hx => by
    have := hgb x hx
    simp only [Bool.not_eq_true', decide_eq_false_iff_not]; omega)
  rw [h1, h2]
  simp
theorem perms_cmp (n m s : Nat) : perms n (m + 1) s = (cmp n s).flatMap (fun g => (perms n m (s ||| 2 ^ g)).map (g :: ·)) := by
  show (List.range n).flatMap (fun g => if s.testBit g = true then [] else (perms n m (s ||| 2 ^ g)).map (g :: ·)) = _
  unfold cmp
  generalize List.range n = R
  induction R with
  | nil => rfl
  | cons g R ih =>
    rw [List.flatMap_cons, ih, List.filter_cons]
    by_cases hb : s.testBit g = true
    · rw [if_pos hb, hb]; simp
    · rw [if_neg hb]
      rw [Bool.not_eq_true] at hb
      rw [hb]; simp
theorem perms_chain (n m s : Nat) (hm : (cmp n s).length = m) : ∃ L, perms n m s = cmp n s :: L ∧ ChT (cmp n s) L (cmp n s).reverse := by
  induction m generalizing s with
  | zero =>
    have e : cmp n s = [] := List.length_eq_zero_iff.mp hm
    rw [e]
    exact ⟨[], rfl, rfl⟩
  | succ m ih =>
    rw [perms_cmp]
    have key : ∀ (B A : List Nat) (g : Nat), cmp n s = A ++ g :: B → ∃ L, (g :: B).flatMap (fun g => (perms n m (s ||| 2 ^ g)).map (g :: ·)) = (g :: (A ++ B)) :: L ∧ ChT (g :: (A ++ B)) L (cmp n s).reverse := by
      intro B
      induction B with
      | nil =>
        intro A g hC
        have e := cmp_or hC
        obtain ⟨L, h1, h2⟩ := ih (s ||| 2 ^ g) (by rw [e]; rw [hC] at hm; simp at hm ⊢; omega)
        rw [e] at h1 h2
        refine ⟨L.map (g :: ·), by simp [h1], ?_⟩
        have := h2.map g
        rw [hC]
        simpa using this
      | cons b B ihB =>
        intro A g hC
        have e := cmp_or hC
        obtain ⟨L, h1, h2⟩ := ih (s ||| 2 ^ g) (by rw [e]; rw [hC] at hm; simp at hm ⊢; omega)
        rw [e] at h1 h2
        obtain ⟨L', h3, h4⟩ := ihB (A ++ [g]) b (by rw [hC]; simp)
        refine ⟨L.map (g :: ·) ++ (b :: (A ++ [g] ++ B)) :: L', ?_, ?_⟩
        · rw [List.flatMap_cons, h3, h1]; simp
        · refine (h2.map g).join ?_ h4
          have hs := cmp_sorted n s
          rw [hC] at hs
          obtain ⟨hA, hgB, hAB⟩ := List.pairwise_append.mp hs
          obtain ⟨hgb, hbB⟩ := List.pairwise_cons.mp hgB
          refine ⟨[], g, B.reverse, b, A.reverse, by simp, ?_, hgb b (List.mem_cons_self ..), fun z hz => hAB z (List.mem_reverse.mp hz) g (List.mem_cons_self ..), by simp⟩
          show (B.reverse ++ b :: A.reverse).Pairwise (fun a b => b < a)
          have e2 : B.reverse ++ b :: A.reverse = (A ++ b :: B).reverse := by simp
          rw [e2, List.pairwise_reverse]
          refine List.pairwise_append.mpr ⟨hA, hbB, fun x hx y hy => ?_⟩
          exact hAB x hx y (List.mem_cons_of_mem _ hy)
    cases hC : cmp n s with
    | nil => rw [hC] at hm; simp at hm
    | cons g B =>
      obtain ⟨L, h1, h2⟩ := key B [] g (by rw [hC]; rfl)
      rw [hC] at h2
      exact ⟨L, h1, h2⟩
theorem perms_all (n : Nat) : ∃ L, perms n n 0 = List.range n :: L ∧ ChT (List.range n) L (List.range n).reverse := by
  have e : cmp n 0 = List.range n := List.filter_eq_self.mpr (fun x _ => by simp)
  have := perms_chain n n 0 (by rw [e]; simp)
  rw [e] at this
  exact this
theorem range_desc (n : Nat) : Desc (List.range n).reverse := List.pairwise_reverse.mpr List.pairwise_lt_range
def fct : Nat → Nat
  | 0 => 1
  | m + 1 => (m + 1) * fct m
theorem perms_fct (n m s : Nat) (hm : (cmp n s).length = m) : (perms n m s).length = fct m := by
  induction m generalizing s with
  | zero => rfl
  | succ m ih =>
    rw [perms_cmp, List.length_flatMap]
    have key : ∀ l : List Nat, (∀ g ∈ l, g ∈ cmp n s) → (l.map (fun g => ((perms n m (s ||| 2 ^ g)).map (g :: ·)).length)).sum = l.length * fct m := by
      intro l
      induction l with
      | nil => intro _; simp
      | cons g l ihl =>
        intro h
        obtain ⟨A, B, hC⟩ := List.append_of_mem (h g (List.mem_cons_self ..))
        have e := cmp_or hC
        have h1 : (perms n m (s ||| 2 ^ g)).length = fct m := ih (s ||| 2 ^ g) (by rw [e]; rw [hC] at hm; simp at hm ⊢; omega)
        rw [List.map_cons, List.sum_cons, ihl (fun x hx => h x (List.mem_cons_of_mem _ hx)), List.length_map, h1, List.length_cons, Nat.succ_mul, Nat.add_comm]
    rw [key (cmp n s) (fun g hg => hg), hm]; rfl
theorem perms_le {n : Nat} (hn : n ≤ 8) : (perms n n 0).length ≤ 40320 := by
  have e : cmp n 0 = List.range n := List.filter_eq_self.mpr (fun x _ => by simp)
  rw [perms_fct n n 0 (by rw [e]; simp)]
  have : ∀ n, n < 9 → fct n ≤ 40320 := by decide +kernel
  exact this n (by omega)
