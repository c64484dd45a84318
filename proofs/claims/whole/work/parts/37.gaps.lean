/-! GAPS of a row of (kinds, robbed) -/
def gsc (k : Nat) : Option Nat → List (Nat × Bool) → Nat
  | _, [] => 0
  | none, x :: l => if x.1.testBit k = true then gsc k (some 0) l else gsc k none l
  | some c, x :: l => if x.1.testBit k = true then c + gsc k (some 0) l else gsc k (some (if x.2 = true then c else c + 1)) l
def anyK (k : Nat) : List (Nat × Bool) → Bool
  | [] => false
  | x :: l => x.1.testBit k || anyK k l
def gst (k : Nat) : Bool → List (Nat × Bool) → Bool → Nat
  | _, [], _ => 0
  | b, x :: l, e => (b && !x.1.testBit k && !x.2 && (anyK k l || e)).toNat + gst k (b || x.1.testBit k) l e
theorem gsc_some (k c : Nat) (l : List (Nat × Bool)) : gsc k (some c) l = (if anyK k l = true then c else 0) + gst k true l false := by
  induction l generalizing c with
  | nil => simp [gsc, anyK, gst]
  | cons x l ih =>
    cases h : x.1.testBit k <;> cases hr : x.2 <;> cases ha : anyK k l <;> simp [gsc, anyK, gst, h, hr, ha, ih] <;> omega
theorem gsc_none (k : Nat) (l : List (Nat × Bool)) : gsc k none l = gst k false l false := by
  induction l with
  | nil => rfl
  | cons x l ih =>
    cases h : x.1.testBit k <;> simp [gsc, gst, h, ih, gsc_some]
theorem anyK_append (k : Nat) (l m : List (Nat × Bool)) : anyK k (l ++ m) = (anyK k l || anyK k m) := by
  induction l with
  | nil => rfl
  | cons x l ih => show (x.1.testBit k || anyK k (l ++ m)) = ((x.1.testBit k || anyK k l) || anyK k m); rw [ih, Bool.or_assoc]
theorem anyK_rev (k : Nat) (l : List (Nat × Bool)) : anyK k l.reverse = anyK k l := by
  induction l with
  | nil => rfl
  | cons x l ih =>
    rw [List.reverse_cons, anyK_append, ih]
    show (anyK k l || (x.1.testBit k || false)) = (x.1.testBit k || anyK k l)
    rw [Bool.or_false, Bool.or_comm]
theorem gst_snoc (k : Nat) (b e : Bool) (l : List (Nat × Bool)) (x : Nat × Bool) : gst k b (l ++ [x]) e = gst k b l (e || x.1.testBit k) + ((b || anyK k l) && !x.1.testBit k && !x.2 && e).toNat := by
  induction l generalizing b with
  | nil =>
    show (b && !x.1.testBit k && !x.2 && (false || e)).toNat + 0 = 0 + ((b || false) && !x.1.testBit k && !x.2 && e).toNat
    rw [Bool.false_or, Bool.or_false]; omega
  | cons y l ih =>
    show (b && !y.1.testBit k && !y.2 && (anyK k (l ++ [x]) || e)).toNat + gst k (b || y.1.testBit k) (l ++ [x]) e = (b && !y.1.testBit k && !y.2 && (anyK k l || (e || x.1.testBit k))).toNat + gst k (b || y.1.testBit k) l (e || x.1.testBit k) + ((b || (y.1.testBit k || anyK k l)) && !x.1.testBit k && !x.2 && e).toNat
    have h1 : (anyK k (l ++ [x]) || e) = (anyK k l || (e || x.1.testBit k)) := by
      rw [anyK_append]
      show ((anyK k l || (x.1.testBit k || false)) || e) = _
      rw [Bool.or_false, Bool.or_assoc, Bool.or_comm e]
    rw [ih, h1, Bool.or_assoc]; omega
theorem gst_rev (k : Nat) (b e : Bool) (l : List (Nat × Bool)) : gst k b l.reverse e = gst k e l b := by
  induction l generalizing e with
  | nil => rfl
  | cons x l ih =>
    rw [List.reverse_cons, gst_snoc, ih, anyK_rev]
    show gst k (e || x.1.testBit k) l b + _ = (e && !x.1.testBit k && !x.2 && (anyK k l || b)).toNat + gst k (e || x.1.testBit k) l b
    have : ((b || anyK k l) && !x.1.testBit k && !x.2 && e) = (e && !x.1.testBit k && !x.2 && (anyK k l || b)) := by
      cases b <;> cases anyK k l <;> cases x.1.testBit k <;> cases x.2 <;> cases e <;> rfl
    rw [this]; omega
def orL : List (Nat × Bool) → Nat
  | [] => 0
  | x :: l => x.1 ||| orL l
def lcost (w : Nat → Nat) : Nat → List (Nat × Bool) → Nat
  | _, [] => 0
  | s, x :: l => (if x.2 = true then 0 else wsum w 10 (andn (s &&& orL l) x.1)) + lcost w (s ||| x.1) l
def luni (z : Nat) : Nat → List (Nat × Bool) → Nat
  | _, [] => 0
  | s, x :: l => (if x.2 = true then 0 else andn (s &&& orL l) x.1 &&& z) ||| luni z (s ||| x.1) l
theorem orL_bit (k : Nat) (l : List (Nat × Bool)) : (orL l).testBit k = anyK k l := by
  induction l with
  | nil => simp [orL, anyK]
  | cons x l ih => show (x.1 ||| orL l).testBit k = (x.1.testBit k || anyK k l); rw [Nat.testBit_or, ih]
theorem smN_add (f g : Nat → Nat) (n : Nat) : smN (fun k => f k + g k) n = smN f n + smN g n := by
  induction n with
  | zero => rfl
  | succ n ih => show smN (fun k => f k + g k) n + (f n + g n) = (smN f n + f n) + (smN g n + g n); rw [ih]; omega
theorem smN_congr {f g : Nat → Nat} {n : Nat} (h : ∀ i, i < n → f i = g i) : smN f n = smN g n := by
  induction n with
  | zero => rfl
  | succ n ih => show smN f n + f n = smN g n + g n; rw [ih (fun i hi => h i (by omega)), h n (by omega)]
theorem smN_zero (n : Nat) : smN (fun _ => 0) n = 0 := by
  induction n with
  | zero => rfl
  | succ n ih => show smN (fun _ => 0) n + 0 = 0; rw [ih]
theorem wsum_sm (w : Nat → Nat) (n m : Nat) : wsum w n m = smN (fun k => w k * (m.testBit k).toNat) n := by
  induction n with
  | zero => rfl
  | succ n ih =>
    show wsum w n m + (if m.testBit n = true then w n else 0) = smN (fun k => w k * (m.testBit k).toNat) n + w n * (m.testBit n).toNat
    rw [ih]; cases m.testBit n <;> simp
theorem wsum_zero (w : Nat → Nat) (n : Nat) : wsum w n 0 = 0 := by
  have h : smN (fun k => w k * ((0 : Nat).testBit k).toNat) n = smN (fun _ => 0) n := smN_congr (fun i _ => by simp)
  rw [wsum_sm, h, smN_zero]
theorem lcost_eq (w : Nat → Nat) (s : Nat) (l : List (Nat × Bool)) : smN (fun k => w k * gst k (s.testBit k) l false) 10 = lcost w s l := by
  induction l generalizing s with
  | nil => exact smN_zero 10
  | cons x l ih =>
    have e1 : smN (fun k => w k * gst k (s.testBit k) (x :: l) false) 10 = smN (fun k => w k * (s.testBit k && !x.1.testBit k && !x.2 && (anyK k l || false)).toNat + w k * gst k ((s ||| x.1).testBit k) l false) 10 := by
      apply smN_congr
      intro k _
      show w k * ((s.testBit k && !x.1.testBit k && !x.2 && (anyK k l || false)).toNat + gst k (s.testBit k || x.1.testBit k) l false) = _
      rw [Nat.mul_add, Nat.testBit_or]
    rw [e1, smN_add, ih]
    show _ = (if x.2 = true then 0 else wsum w 10 (andn (s &&& orL l) x.1)) + lcost w (s ||| x.1) l
    congr 1
    cases hr : x.2 with
    | true =>
      rw [if_pos rfl, ← smN_zero 10]
      apply smN_congr
      intro k _
      simp
    | false =>
      rw [if_neg (by decide), wsum_sm]
      apply smN_congr
      intro k _
      rw [andn_bit, Nat.testBit_and, orL_bit]
      cases s.testBit k <;> cases x.1.testBit k <;> cases anyK k l <;> rfl
theorem lcost_le {w : Nat → Nat} (hw : ∀ k, w k ≤ 3) (s : Nat) (l : List (Nat × Bool)) : lcost w s l ≤ 30 * (l.length - 1) := by
  induction l generalizing s with
  | nil => exact Nat.le_refl _
  | cons x l ih =>
    show (if x.2 = true then 0 else wsum w 10 (andn (s &&& orL l) x.1)) + lcost w (s ||| x.1) l ≤ _
    have h1 := ih (s ||| x.1)
    cases l with
    | nil =>
      have : andn (s &&& orL []) x.1 = 0 := by show andn (s &&& 0) x.1 = 0; simp [andn]
      rw [this, wsum_zero]
      simp [lcost]
    | cons y l =>
      have h2 : wsum w 10 (andn (s &&& orL (y :: l)) x.1) ≤ 30 := wsum_le (n := 10) (fun k _ => hw k) _
      simp only [List.length_cons] at h1 ⊢
      by_cases hx : x.2 = true
      · rw [if_pos hx]; omega
      · rw [if_neg hx]; omega
theorem lcost0_le {w : Nat → Nat} (hw : ∀ k, w k ≤ 3) (l : List (Nat × Bool)) : lcost w 0 l ≤ 30 * (l.length - 2) := by
  cases l with
  | nil => exact Nat.le_refl _
  | cons x l =>
    show (if x.2 = true then 0 else wsum w 10 (andn (0 &&& orL l) x.1)) + lcost w (0 ||| x.1) l ≤ _
    have : andn (0 &&& orL l) x.1 = 0 := by simp [andn]
    rw [this, wsum_zero]
    have h1 := lcost_le hw (0 ||| x.1) l
    simp only [List.length_cons]
    simp only [ite_self]
    omega
theorem luni_bit (z s k : Nat) (l : List (Nat × Bool)) : (luni z s l).testBit k = true ↔ z.testBit k = true ∧ 0 < gst k (s.testBit k) l false := by
  induction l generalizing s with
  | nil => simp [luni, gst]
  | cons x l ih =>
    show ((if x.2 = true then 0 else andn (s &&& orL l) x.1 &&& z) ||| luni z (s ||| x.1) l).testBit k = true ↔ z.testBit k = true ∧ 0 < (s.testBit k && !x.1.testBit k && !x.2 && (anyK k l || false)).toNat + gst k (s.testBit k || x.1.testBit k) l false
    rw [Nat.testBit_or, Bool.or_eq_true, ih, Nat.testBit_or]
    have e : (if x.2 = true then 0 else andn (s &&& orL l) x.1 &&& z).testBit k = ((s.testBit k && !x.1.testBit k && !x.2 && (anyK k l || false)) && z.testBit k) := by
      cases hr : x.2 with
      | true => rw [if_pos rfl]; simp
      | false =>
        rw [if_neg (by decide), Nat.testBit_and, andn_bit, Nat.testBit_and, orL_bit]
        cases s.testBit k <;> cases x.1.testBit k <;> cases anyK k l <;> rfl
    rw [e]
    generalize (s.testBit k && !x.1.testBit k && !x.2 && (anyK k l || false)) = A
    generalize gst k (s.testBit k || x.1.testBit k) l false = G
    cases A <;> cases z.testBit k <;> simp <;> omega
theorem wsum_mask (w : Nat → Nat) (m : Nat) : wsum w 10 (m &&& wzB w 10) = wsum w 10 m := by
  rw [wsum_sm, wsum_sm]
  apply smN_congr
  intro k hk
  rw [Nat.testBit_and]
  by_cases h0 : w k = 0
  · rw [h0]; omega
  · have : (wzB w 10).testBit k = true := (wzB_bit w 10 k).mpr ⟨hk, h0⟩
    rw [this, Bool.and_true]
def Pb.rwl (P : Pb) (p : List Nat) : List (Nat × Bool) := p.map (fun g => (P.kd g, P.rb.testBit g))
theorem anyK_rwl (P : Pb) (k : Nat) (p : List Nat) : anyK k (P.rwl p) = true ↔ ∃ g, g ∈ p ∧ (P.kd g).testBit k = true := by
  induction p with
  | nil => simp [Pb.rwl, anyK]
  | cons g p ih =>
    show ((P.kd g).testBit k || anyK k (P.rwl p)) = true ↔ _
    rw [Bool.or_eq_true, ih]
    constructor
    · rintro (h | ⟨x, h1, h2⟩)
      · exact ⟨g, List.mem_cons_self .., h⟩
      · exact ⟨x, List.mem_cons_of_mem _ h1, h2⟩
    · rintro ⟨x, h1, h2⟩
      rcases List.mem_cons.mp h1 with e | e
      · subst e; exact Or.inl h2
      · exact Or.inr ⟨x, e, h2⟩
/-- a row that fills up a set to all graves -/
def Pb.fills (P : Pb) (s : Nat) (p : List Nat) : Prop := p.Nodup ∧ (∀ h ∈ p, s.testBit h = false) ∧ ∀ h, h < P.n ↔ s.testBit h = true ∨ h ∈ p
theorem Pb.fills.tail {P : Pb} {s g : Nat} {p : List Nat} (h : P.fills s (g :: p)) : P.fills (s ||| 2 ^ g) p := by
  obtain ⟨h1, h2, h3⟩ := h
  obtain ⟨h4, h5⟩ := List.nodup_cons.mp h1
  refine ⟨h5, fun x hx => ?_, fun x => ?_⟩
  · rw [or2_bit, h2 x (List.mem_cons_of_mem _ hx)]
    simp only [Bool.false_or, decide_eq_false_iff_not]
    intro e; subst e; exact h4 hx
  · rw [h3 x, or2_bit, Bool.or_eq_true, decide_eq_true_eq, List.mem_cons]
    constructor
    · rintro (h | h | h)
      · exact Or.inl (Or.inl h)
      · exact Or.inl (Or.inr h.symm)
      · exact Or.inr h
    · rintro ((h | h) | h)
      · exact Or.inl h
      · exact Or.inr (Or.inl h.symm)
      · exact Or.inr (Or.inr h)
theorem seen_later {P : Pb} (hn : P.n ≤ 8) {s g : Nat} {p : List Nat} (h : P.fills s (g :: p)) : P.seen (andn (andn P.full s) (2 ^ g)) = orL (P.rwl p) := by
  have hb : ∀ x, (andn (andn P.full s) (2 ^ g)).testBit x = true ↔ x ∈ p := by
    intro x
    rw [andn_bit, andn_bit, Nat.testBit_two_pow]
    show ((2 ^ P.n - 1).testBit x && !s.testBit x && !decide (g = x)) = true ↔ _
    rw [Nat.testBit_two_pow_sub_one]
    obtain ⟨h1, h2, h3⟩ := h
    obtain ⟨h4, h5⟩ := List.nodup_cons.mp h1
    constructor
    · intro hx
      simp only [Bool.and_eq_true, decide_eq_true_eq, Bool.not_eq_true', decide_eq_false_iff_not] at hx
      rcases (h3 x).mp hx.1.1 with h | h
      · rw [hx.1.2] at h; cases h
      · rcases List.mem_cons.mp h with e | e
        · exact absurd e.symm hx.2
        · exact e
    · intro hx
      simp only [Bool.and_eq_true, decide_eq_true_eq, Bool.not_eq_true', decide_eq_false_iff_not]
      exact ⟨⟨(h3 x).mpr (Or.inr (List.mem_cons_of_mem _ hx)), h2 x (List.mem_cons_of_mem _ hx)⟩, fun e => h4 (e ▸ hx)⟩
  apply bits_eq
  intro k
  rw [orL_bit, anyK_rwl]
  unfold Pb.seen
  rw [seenB_bit]
  constructor
  · rintro ⟨x, _, h2, h3⟩; exact ⟨x, (hb x).mp h2, h3⟩
  · rintro ⟨x, h2, h3⟩
    have : x < P.n := (h.2.2 x).mpr (Or.inr (List.mem_cons_of_mem _ h2))
    exact ⟨x, by omega, (hb x).mpr h2, h3⟩
theorem cst_rwl {P : Pb} (hn : P.n ≤ 8) {s : Nat} {p : List Nat} (h : P.fills s p) : P.cst s p = lcost P.w (P.seen s) (P.rwl p) ∧ P.uni s p = luni (wzB P.w 10) (P.seen s) (P.rwl p) := by
  induction p generalizing s with
  | nil => exact ⟨rfl, rfl⟩
  | cons g p ih =>
    obtain ⟨ih1, ih2⟩ := ih h.tail
    have hg : g < 8 := by have : g < P.n := (h.2.2 g).mpr (Or.inr (List.mem_cons_self ..)); omega
    have es : P.seen (s ||| 2 ^ g) = P.seen s ||| P.kd g := seenB_or P.kd hg s
    have hs : P.stp s g = if P.rb.testBit g = true then 0 else andn (P.seen s &&& orL (P.rwl p)) (P.kd g) &&& wzB P.w 10 := by
      unfold Pb.stp; rw [seen_later hn h]
    constructor
    · show wsum P.w 10 (P.stp s g) + P.cst (s ||| 2 ^ g) p = (if P.rb.testBit g = true then 0 else wsum P.w 10 (andn (P.seen s &&& orL (P.rwl p)) (P.kd g))) + lcost P.w (P.seen s ||| P.kd g) (P.rwl p)
      rw [ih1, es, hs]
      by_cases hr : P.rb.testBit g = true
      · rw [if_pos hr, if_pos hr, wsum_zero]
      · rw [if_neg hr, if_neg hr, wsum_mask]
    · show P.stp s g ||| P.uni (s ||| 2 ^ g) p = (if P.rb.testBit g = true then 0 else andn (P.seen s &&& orL (P.rwl p)) (P.kd g) &&& wzB P.w 10) ||| luni (wzB P.w 10) (P.seen s ||| P.kd g) (P.rwl p)
      rw [ih2, es, hs]
theorem fills_of {P : Pb} {m s : Nat} {p : List Nat} (hs : s < 2 ^ P.n) (hm : popN P.n s + m = P.n) (hp : p ∈ perms P.n m s) : P.fills s p := by
  obtain ⟨h1, h2, h3, h4⟩ := mem_perms.mp hp
  refine ⟨h3, h4, fun x => ?_⟩
  have e := fin_full hs hm hp
  rw [← fin_bit, e, Nat.testBit_two_pow_sub_one, decide_eq_true_eq]
theorem seen_0 (P : Pb) : P.seen 0 = 0 := by
  apply bits_eq
  intro k
  unfold Pb.seen
  rw [seenB_bit]
  simp
/-- gaps of a whole order -/
def Pb.gaps (P : Pb) (p : List Nat) : Nat := smN (fun k => P.w k * gsc k none (P.rwl p)) 10
theorem gaps_lcost (P : Pb) (p : List Nat) : P.gaps p = lcost P.w 0 (P.rwl p) := by
  rw [← lcost_eq]
  apply smN_congr
  intro k _
  rw [gsc_none]; simp
theorem gaps_cst {P : Pb} (hn : P.n ≤ 8) {p : List Nat} (hp : p ∈ perms P.n P.n 0) : P.gaps p = P.cst 0 p := by
  have h := fills_of (P := P) (s := 0) (Nat.two_pow_pos _) (by rw [popN_0]; omega) hp
  rw [(cst_rwl hn h).1, gaps_lcost, seen_0]
theorem rwl_len (P : Pb) (p : List Nat) : (P.rwl p).length = p.length := List.length_map ..
theorem gaps_le {P : Pb} (hP : P.good) {p : List Nat} (hp : p.length ≤ 8) : P.gaps p ≤ 180 := by
  rw [gaps_lcost]
  have := lcost0_le hP.2.2 (P.rwl p)
  rw [rwl_len] at this
  omega
theorem gaps_rev (P : Pb) (p : List Nat) : P.gaps p.reverse = P.gaps p := by
  apply smN_congr
  intro k _
  rw [gsc_none, gsc_none]
  have : P.rwl p.reverse = (P.rwl p).reverse := List.map_reverse
  rw [this, gst_rev]
/-- kinds with weight that have gaps in an order, as bits -/
def bitsN (f : Nat → Bool) : Nat → Nat
  | 0 => 0
  | j + 1 => bitsN f j ||| (if f j = true then 2 ^ j else 0)
theorem bitsN_bit (f : Nat → Bool) (j k : Nat) : (bitsN f j).testBit k = true ↔ k < j ∧ f k = true := by
  induction j with
  | zero => simp [bitsN]
  | succ j ih =>
    show (bitsN f j ||| (if f j = true then 2 ^ j else 0)).testBit k = true ↔ _
    rw [Nat.testBit_or, Bool.or_eq_true, ih]
    by_cases h0 : f j = true
    · rw [if_pos h0, Nat.testBit_two_pow, decide_eq_true_eq]
      constructor
      · rintro (h | h)
        · exact ⟨by omega, h.2⟩
        · subst h; exact ⟨by omega, h0⟩
      · intro h
        rcases Nat.lt_or_ge k j with h' | h'
        · exact Or.inl ⟨h', h.2⟩
        · right; omega
    · rw [if_neg h0]
      constructor
      · rintro (h | h)
        · exact ⟨by omega, h.2⟩
        · simp at h
      · intro h
        left
        refine ⟨?_, h.2⟩
        rcases Nat.lt_or_ge k j with h' | h'
        · exact h'
        · have : k = j := by omega
          subst this; exact absurd h.2 h0
theorem bitsN_lt (f : Nat → Bool) (j : Nat) : bitsN f j < 2 ^ j := by
  induction j with
  | zero => exact Nat.one_pos
  | succ j ih =>
    refine Nat.or_lt_two_pow (Nat.lt_of_lt_of_le ih (Nat.pow_le_pow_right (by decide) (by omega))) ?_
    by_cases h0 : f j = true
    · rw [if_pos h0]; exact two_lt (by omega)
    · rw [if_neg h0]; exact Nat.two_pow_pos _
def Pb.gbits (P : Pb) (p : List Nat) : Nat := bitsN (fun k => decide (P.w k ≠ 0) && decide (0 < gsc k none (P.rwl p))) 10
theorem gbits_uni {P : Pb} (hn : P.n ≤ 8) {p : List Nat} (hp : p ∈ perms P.n P.n 0) : P.gbits p = P.uni 0 p := by
  have h := fills_of (P := P) (s := 0) (Nat.two_pow_pos _) (by rw [popN_0]; omega) hp
  rw [(cst_rwl hn h).2, seen_0]
  apply bits_eq
  intro k
  unfold Pb.gbits
  rw [bitsN_bit, luni_bit, wzB_bit]
  simp only [Bool.and_eq_true, decide_eq_true_eq, gsc_none, Nat.zero_testBit]
  constructor
  · rintro ⟨h1, h2, h3⟩; exact ⟨⟨h1, h2⟩, h3⟩
  · rintro ⟨⟨h1, h2⟩, h3⟩; exact ⟨h1, h2, h3⟩
