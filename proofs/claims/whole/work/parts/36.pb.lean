/-! THE PROBLEM, as numbers: sets of graves are bits; orders are lists -/
def Pb : Type := Nat × Nat × (Nat → Nat) × (Nat → Nat) × (Nat → Nat) × (Nat → Nat) × (Nat → Nat)
def Pb.n (P : Pb) : Nat := P.1
def Pb.rb (P : Pb) : Nat := P.2.1
def Pb.fr (P : Pb) : Nat → Nat := P.2.2.1
def Pb.to (P : Pb) : Nat → Nat := P.2.2.2.1
def Pb.bl (P : Pb) : Nat → Nat := P.2.2.2.2.1
def Pb.kd (P : Pb) : Nat → Nat := P.2.2.2.2.2.1
def Pb.w (P : Pb) : Nat → Nat := P.2.2.2.2.2.2
def Pb.good (P : Pb) : Prop := P.n ≤ 8 ∧ (∀ g, P.kd g < 2 ^ 10) ∧ (∀ k, P.w k ≤ 3)
def seenB (f : Nat → Nat) : Nat → Nat → Nat
  | 0, _ => 0
  | j + 1, s => seenB f j s ||| (if s.testBit j = true then f j else 0)
def yrB (f : Nat → Nat) : Nat → Nat → Nat
  | 0, _ => 0
  | j + 1, s => max (yrB f j s) (if s.testBit j = true then f j else 0)
def wzB (w : Nat → Nat) : Nat → Nat
  | 0 => 0
  | j + 1 => wzB w j ||| (if w j = 0 then 0 else 2 ^ j)
theorem or2_bit (s g h : Nat) : (s ||| 2 ^ g).testBit h = (s.testBit h || decide (g = h)) := by rw [Nat.testBit_or, Nat.testBit_two_pow]
theorem seenB_bit (f : Nat → Nat) (j s k : Nat) : (seenB f j s).testBit k = true ↔ ∃ g, g < j ∧ s.testBit g = true ∧ (f g).testBit k = true := by
  induction j with
  | zero => simp [seenB]
  | succ j ih =>
    show (seenB f j s ||| (if s.testBit j = true then f j else 0)).testBit k = true ↔ _
    rw [Nat.testBit_or, Bool.or_eq_true, ih]
    constructor
    · rintro (⟨g, h1, h2⟩ | h)
      · exact ⟨g, by omega, h2⟩
      · by_cases hb : s.testBit j = true
        · rw [if_pos hb] at h; exact ⟨j, by omega, hb, h⟩
        · rw [if_neg hb] at h; simp at h
    · rintro ⟨g, h1, h2, h3⟩
      by_cases hg : g = j
      · subst hg; right; rw [if_pos h2]; exact h3
      · left; exact ⟨g, by omega, h2, h3⟩
theorem seenB_lt {f : Nat → Nat} {e : Nat} (h : ∀ g, f g < 2 ^ e) (j s : Nat) : seenB f j s < 2 ^ e := by
  induction j with
  | zero => exact Nat.pow_pos (by decide)
  | succ j ih =>
    refine Nat.or_lt_two_pow ih ?_
    by_cases hb : s.testBit j = true
    · rw [if_pos hb]; exact h j
    · rw [if_neg hb]; exact Nat.pow_pos (by decide)
theorem yrB_le (f : Nat → Nat) (j s y : Nat) : yrB f j s ≤ y ↔ ∀ g, g < j → s.testBit g = true → f g ≤ y := by
  induction j with
  | zero => simp [yrB]
  | succ j ih =>
    show max (yrB f j s) (if s.testBit j = true then f j else 0) ≤ y ↔ _
    rw [Nat.max_le, ih]
    constructor
    · rintro ⟨h1, h2⟩ g hg hb
      by_cases e : g = j
      · subst e; rw [if_pos hb] at h2; exact h2
      · exact h1 g (by omega) hb
    · intro h
      refine ⟨fun g hg hb => h g (by omega) hb, ?_⟩
      by_cases hb : s.testBit j = true
      · rw [if_pos hb]; exact h j (by omega) hb
      · rw [if_neg hb]; exact Nat.zero_le _
theorem eq_of_le_iff {a b : Nat} (h : ∀ y, a ≤ y ↔ b ≤ y) : a = b := Nat.le_antisymm ((h b).mpr (Nat.le_refl _)) ((h a).mp (Nat.le_refl _))
theorem bits_eq {a b : Nat} (h : ∀ k, a.testBit k = true ↔ b.testBit k = true) : a = b := Nat.eq_of_testBit_eq (fun k => by
  have := h k
  cases h1 : a.testBit k <;> cases h2 : b.testBit k <;> simp_all)
theorem seenB_or (f : Nat → Nat) {j g : Nat} (hg : g < j) (s : Nat) : seenB f j (s ||| 2 ^ g) = seenB f j s ||| f g := by
  apply bits_eq
  intro k
  rw [seenB_bit, Nat.testBit_or, Bool.or_eq_true, seenB_bit]
  constructor
  · rintro ⟨h, h1, h2, h3⟩
    rw [or2_bit, Bool.or_eq_true, decide_eq_true_eq] at h2
    rcases h2 with h2 | h2
    · exact Or.inl ⟨h, h1, h2, h3⟩
    · subst h2; exact Or.inr h3
  · rintro (⟨h, h1, h2, h3⟩ | h)
    · exact ⟨h, h1, by rw [or2_bit, h2]; rfl, h3⟩
    · exact ⟨g, hg, by rw [or2_bit]; simp, h⟩
theorem yrB_or (f : Nat → Nat) {j g : Nat} (hg : g < j) (s : Nat) : yrB f j (s ||| 2 ^ g) = max (yrB f j s) (f g) := by
  apply eq_of_le_iff
  intro y
  rw [yrB_le, Nat.max_le, yrB_le]
  constructor
  · intro h
    exact ⟨fun h' h1 h2 => h h' h1 (by rw [or2_bit, h2]; rfl), h g hg (by rw [or2_bit]; simp)⟩
  · rintro ⟨h1, h2⟩ h hj hb
    rw [or2_bit, Bool.or_eq_true, decide_eq_true_eq] at hb
    rcases hb with hb | hb
    · exact h1 h hj hb
    · subst hb; exact h2
theorem wzB_bit (w : Nat → Nat) (j k : Nat) : (wzB w j).testBit k = true ↔ k < j ∧ w k ≠ 0 := by
  induction j with
  | zero => simp [wzB]
  | succ j ih =>
    show (wzB w j ||| (if w j = 0 then 0 else 2 ^ j)).testBit k = true ↔ _
    rw [Nat.testBit_or, Bool.or_eq_true, ih]
    by_cases h0 : w j = 0
    · rw [if_pos h0]
      constructor
      · rintro (h | h)
        · exact ⟨by omega, h.2⟩
        · simp at h
      · intro h
        left
        refine ⟨?_, h.2⟩
        rcases Nat.lt_or_ge k j with h' | h'
        · exact h'
        · have : k = j := by omega
          subst this; exact absurd h0 h.2
    · rw [if_neg h0, Nat.testBit_two_pow, decide_eq_true_eq]
      constructor
      · rintro (h | h)
        · exact ⟨by omega, h.2⟩
        · subst h; exact ⟨by omega, h0⟩
      · intro h
        rcases Nat.lt_or_ge k j with h' | h'
        · exact Or.inl ⟨h', h.2⟩
        · right; omega
def Pb.seen (P : Pb) (s : Nat) : Nat := seenB P.kd 8 s
def Pb.yr (P : Pb) (s : Nat) : Nat := yrB P.fr 8 s
def Pb.full (P : Pb) : Nat := 2 ^ P.n - 1
def Pb.ok (P : Pb) (s g : Nat) : Bool := !s.testBit g && decide (andn (P.bl g) s = 0) && decide (P.yr (s ||| 2 ^ g) ≤ P.to g)
def Pb.stp (P : Pb) (s g : Nat) : Nat := if P.rb.testBit g = true then 0 else andn (P.seen s &&& P.seen (andn (andn P.full s) (2 ^ g))) (P.kd g) &&& wzB P.w 10
def Pb.ct (P : Pb) (s g : Nat) : Nat := wsum P.w 10 (P.stp s g)
def Pb.okp (P : Pb) : Nat → List Nat → Bool
  | _, [] => true
  | s, g :: p => P.ok s g && P.okp (s ||| 2 ^ g) p
def Pb.cst (P : Pb) : Nat → List Nat → Nat
  | _, [] => 0
  | s, g :: p => P.ct s g + P.cst (s ||| 2 ^ g) p
def Pb.uni (P : Pb) : Nat → List Nat → Nat
  | _, [] => 0
  | s, g :: p => P.stp s g ||| P.uni (s ||| 2 ^ g) p
def fin : Nat → List Nat → Nat
  | s, [] => s
  | s, g :: p => fin (s ||| 2 ^ g) p
def perms (n : Nat) : Nat → Nat → List (List Nat)
  | 0, _ => [[]]
  | m + 1, s => (List.range n).flatMap (fun g => if s.testBit g = true then [] else (perms n m (s ||| 2 ^ g)).map (g :: ·))
def Pb.pths (P : Pb) : Nat → Nat → List (List Nat)
  | 0, _ => [[]]
  | m + 1, s => (List.range P.n).flatMap (fun g => if P.ok s g = true then (P.pths m (s ||| 2 ^ g)).map (g :: ·) else [])
theorem flatMap_congr' {α β : Type} {l : List α} {f g : α → List β} (h : ∀ a, a ∈ l → f a = g a) : l.flatMap f = l.flatMap g := by
  induction l with
  | nil => rfl
  | cons a l ih => rw [List.flatMap_cons, List.flatMap_cons, h a (List.mem_cons_self ..), ih (fun b hb => h b (List.mem_cons_of_mem _ hb))]
theorem pths_filter (P : Pb) (m s : Nat) : P.pths m s = (perms P.n m s).filter (P.okp s) := by
  induction m generalizing s with
  | zero => rfl
  | succ m ih =>
    show (List.range P.n).flatMap _ = ((List.range P.n).flatMap _).filter (P.okp s)
    rw [List.filter_flatMap]
    apply flatMap_congr'
    intro g hg
    by_cases hb : s.testBit g = true
    · have : P.ok s g = false := by unfold Pb.ok; rw [hb]; rfl
      rw [this]; simp [hb]
    · rw [if_neg hb, List.filter_map]
      by_cases ho : P.ok s g = true
      · rw [if_pos ho, ih]
        congr 1
        apply List.filter_congr
        intro p hp
        show P.okp (s ||| 2 ^ g) p = (P.ok s g && P.okp (s ||| 2 ^ g) p)
        rw [ho]; rfl
      · rw [if_neg ho]
        rw [Bool.not_eq_true] at ho
        have : (P.okp s ∘ fun x => g :: x) = fun _ => false := by
          funext p
          show (P.ok s g && P.okp (s ||| 2 ^ g) p) = false
          rw [ho]; rfl
        rw [this]; simp
theorem mem_perms {n m s : Nat} {p : List Nat} : p ∈ perms n m s ↔ p.length = m ∧ (∀ g ∈ p, g < n) ∧ p.Nodup ∧ ∀ g ∈ p, s.testBit g = false := by
  induction m generalizing s p with
  | zero =>
    show p ∈ [[]] ↔ _
    rw [List.mem_singleton]
    constructor
    · rintro rfl; simp
    · intro h; exact List.length_eq_zero_iff.mp h.1
  | succ m ih =>
    show p ∈ (List.range n).flatMap _ ↔ _
    rw [List.mem_flatMap]
    constructor
    · rintro ⟨g, hg, hp⟩
      rw [List.mem_range] at hg
      by_cases hb : s.testBit g = true
      · rw [if_pos hb] at hp; simp at hp
      · rw [if_neg hb, List.mem_map] at hp
        obtain ⟨q, hq, rfl⟩ := hp
        obtain ⟨h1, h2, h3, h4⟩ := ih.mp hq
        have h5 : ∀ h ∈ q, s.testBit h = false ∧ ¬ g = h := by
          intro h hh
          have := h4 h hh
          rw [or2_bit, Bool.or_eq_false_iff, decide_eq_false_iff_not] at this
          exact this
        refine ⟨by simp [h1], ?_, ?_, ?_⟩
        · intro h hh; rcases List.mem_cons.mp hh with e | e
          · rw [e]; exact hg
          · exact h2 h e
        · rw [List.nodup_cons]; exact ⟨fun hm => (h5 g hm).2 rfl, h3⟩
        · intro h hh; rcases List.mem_cons.mp hh with e | e
          · rw [e]; simpa using hb
          · exact (h5 h e).1
    · rintro ⟨h1, h2, h3, h4⟩
      match p, h1, h2, h3, h4 with
      | g :: q, h1, h2, h3, h4 =>
        have hgn := h2 g (List.mem_cons_self ..)
        have hgb := h4 g (List.mem_cons_self ..)
        refine ⟨g, List.mem_range.mpr hgn, ?_⟩
        rw [if_neg (by rw [hgb]; decide)]
        refine List.mem_map.mpr ⟨q, ih.mpr ⟨by simpa using h1, fun h hh => h2 h (List.mem_cons_of_mem _ hh), (List.nodup_cons.mp h3).2, ?_⟩, rfl⟩
        intro h hh
        rw [or2_bit, h4 h (List.mem_cons_of_mem _ hh)]
        simp only [Bool.false_or, decide_eq_false_iff_not]
        intro e; subst e; exact (List.nodup_cons.mp h3).1 hh
theorem okp_nodup (P : Pb) {s : Nat} {p : List Nat} (h : P.okp s p = true) : p.Nodup ∧ ∀ g ∈ p, s.testBit g = false := by
  induction p generalizing s with
  | nil => simp
  | cons g p ih =>
    have h' : (P.ok s g && P.okp (s ||| 2 ^ g) p) = true := h
    rw [Bool.and_eq_true] at h'
    obtain ⟨h1, h2⟩ := ih h'.2
    have hg : s.testBit g = false := by
      have := h'.1
      unfold Pb.ok at this
      rw [Bool.and_eq_true, Bool.and_eq_true] at this
      simpa using this.1.1
    have h3 : ∀ x ∈ p, s.testBit x = false ∧ ¬ g = x := fun x hx => by
      have := h2 x hx
      rw [or2_bit, Bool.or_eq_false_iff, decide_eq_false_iff_not] at this
      exact this
    refine ⟨List.nodup_cons.mpr ⟨fun hm => (h3 g hm).2 rfl, h1⟩, ?_⟩
    intro x hx
    rcases List.mem_cons.mp hx with e | e
    · rw [e]; exact hg
    · exact (h3 x e).1
theorem mem_pths (P : Pb) {m s : Nat} {p : List Nat} : p ∈ P.pths m s ↔ p.length = m ∧ (∀ g ∈ p, g < P.n) ∧ P.okp s p = true := by
  rw [pths_filter, List.mem_filter, mem_perms]
  constructor
  · rintro ⟨⟨h1, h2, _, _⟩, h3⟩; exact ⟨h1, h2, h3⟩
  · rintro ⟨h1, h2, h3⟩
    have := okp_nodup P h3
    exact ⟨⟨h1, h2, this.1, this.2⟩, h3⟩
theorem fin_append (s : Nat) (p q : List Nat) : fin s (p ++ q) = fin (fin s p) q := by
  induction p generalizing s with
  | nil => rfl
  | cons g p ih => exact ih _
theorem okp_append (P : Pb) (s : Nat) (p q : List Nat) : P.okp s (p ++ q) = (P.okp s p && P.okp (fin s p) q) := by
  induction p generalizing s with
  | nil => simp [Pb.okp, fin]
  | cons g p ih =>
    show (P.ok s g && P.okp (s ||| 2 ^ g) (p ++ q)) = ((P.ok s g && P.okp (s ||| 2 ^ g) p) && P.okp (fin (s ||| 2 ^ g) p) q)
    rw [ih, Bool.and_assoc]
theorem cst_append (P : Pb) (s : Nat) (p q : List Nat) : P.cst s (p ++ q) = P.cst s p + P.cst (fin s p) q := by
  induction p generalizing s with
  | nil => simp [Pb.cst, fin]
  | cons g p ih =>
    show P.ct s g + P.cst (s ||| 2 ^ g) (p ++ q) = P.ct s g + P.cst (s ||| 2 ^ g) p + P.cst (fin (s ||| 2 ^ g) p) q
    rw [ih, Nat.add_assoc]
theorem fin_bit (s : Nat) (p : List Nat) (h : Nat) : (fin s p).testBit h = true ↔ s.testBit h = true ∨ h ∈ p := by
  induction p generalizing s with
  | nil => simp [fin]
  | cons g p ih =>
    show (fin (s ||| 2 ^ g) p).testBit h = true ↔ _
    rw [ih, or2_bit, Bool.or_eq_true, decide_eq_true_eq, List.mem_cons, or_assoc]
    constructor
    · rintro (h | h | h)
      · exact Or.inl h
      · exact Or.inr (Or.inl h.symm)
      · exact Or.inr (Or.inr h)
    · rintro (h | h | h)
      · exact Or.inl h
      · exact Or.inr (Or.inl h.symm)
      · exact Or.inr (Or.inr h)
theorem fin_lt {n s : Nat} {p : List Nat} (hs : s < 2 ^ n) (hp : ∀ g ∈ p, g < n) : fin s p < 2 ^ n := by
  induction p generalizing s with
  | nil => exact hs
  | cons g p ih => exact ih (Nat.or_lt_two_pow hs (Nat.pow_lt_pow_right (by decide) (hp g (List.mem_cons_self ..)))) (fun x hx => hp x (List.mem_cons_of_mem _ hx))
theorem popN_or {g : Nat} {j : Nat} (hg : g < j) {s : Nat} (h : s.testBit g = false) : popN j (s ||| 2 ^ g) = popN j s + 1 := by
  have key : ∀ j, popN j (s ||| 2 ^ g) = popN j s + (if g < j then 1 else 0) := by
    intro j
    induction j with
    | zero => rfl
    | succ j ih =>
      show popN j (s ||| 2 ^ g) + ((s ||| 2 ^ g).testBit j).toNat = popN j s + (s.testBit j).toNat + _
      rw [ih, or2_bit]
      by_cases e : g = j
      · subst e
        rw [h, if_neg (by omega), if_pos (by omega)]; simp
      · have e2 : decide (g = j) = false := by simp [e]
        rw [e2, Bool.or_false]
        by_cases h1 : g < j
        · rw [if_pos h1, if_pos (by omega)]; omega
        · rw [if_neg h1, if_neg (by omega)]; omega
  rw [key, if_pos hg]
theorem popN_fin {n j s : Nat} {p : List Nat} (hnj : n ≤ j) (hp : ∀ g ∈ p, g < n) (hn : p.Nodup) (hs : ∀ g ∈ p, s.testBit g = false) : popN j (fin s p) = popN j s + p.length := by
  induction p generalizing s with
  | nil => rfl
  | cons g p ih =>
    show popN j (fin (s ||| 2 ^ g) p) = _
    obtain ⟨hn1, hn2⟩ := List.nodup_cons.mp hn
    rw [ih (fun x hx => hp x (List.mem_cons_of_mem _ hx)) hn2 (fun x hx => ?_), popN_or (by have := hp g (List.mem_cons_self ..); omega) (hs g (List.mem_cons_self ..))]
    · simp only [List.length_cons]; omega
    · rw [or2_bit, hs x (List.mem_cons_of_mem _ hx)]
      simp only [Bool.false_or, decide_eq_false_iff_not]
      intro e; subst e; exact hn1 hx
theorem popN_le (j s : Nat) : popN j s ≤ j := by
  induction j with
  | zero => exact Nat.le_refl _
  | succ j ih =>
    show popN j s + (s.testBit j).toNat ≤ j + 1
    have : (s.testBit j).toNat ≤ 1 := Bool.toNat_le _
    omega
theorem popN_full {j s : Nat} (h : popN j s = j) : ∀ g, g < j → s.testBit g = true := by
  induction j with
  | zero => intro g hg; omega
  | succ j ih =>
    have h' : popN j s + (s.testBit j).toNat = j + 1 := h
    have h1 : (s.testBit j).toNat ≤ 1 := Bool.toNat_le _
    have h2 := popN_le j s
    intro g hg
    by_cases e : g = j
    · subst e
      cases hb : s.testBit g with
      | true => rfl
      | false => rw [hb] at h'; simp at h'; omega
    · exact ih (by omega) g (by omega)
theorem popN_0 (j : Nat) : popN j 0 = 0 := by
  induction j with
  | zero => rfl
  | succ j ih => show popN j 0 + ((0 : Nat).testBit j).toNat = 0; rw [ih]; simp
/-- a whole order reaches all graves -/
theorem full_of {n s : Nat} (hs : s < 2 ^ n) (h : popN n s = n) : s = 2 ^ n - 1 := by
  apply bits_eq
  intro k
  rw [Nat.testBit_two_pow_sub_one, decide_eq_true_eq]
  constructor
  · intro hk
    rcases Nat.lt_or_ge k n with h1 | h1
    · exact h1
    · rw [Nat.testBit_lt_two_pow (Nat.lt_of_lt_of_le hs (Nat.pow_le_pow_right (by decide) h1))] at hk; cases hk
  · exact popN_full h k
theorem fin_full {n m s : Nat} {p : List Nat} (hs : s < 2 ^ n) (hm : popN n s + m = n) (hp : p ∈ perms n m s) : fin s p = 2 ^ n - 1 := by
  obtain ⟨h1, h2, h3, h4⟩ := mem_perms.mp hp
  exact full_of (fin_lt hs h2) (by rw [popN_fin (Nat.le_refl _) h2 h3 h4, h1]; exact hm)

theorem xlp_Q {τ ε ρ : Type} {Bd : (ε → Option ρ) → (τ → Option ρ) → τ → Option ρ} {k : ε → Option ρ} {t0 : τ} (Q : Option ρ → Prop) (I : Nat → τ → Prop) (a n : Nat) (hn : n < 99999) (ha : a ≤ n) (h0 : I a t0)
    (hs : ∀ (j : Nat) (t : τ) (rc : τ → Option ρ), a ≤ j → j < n → I j t → Q (Bd k rc t) ∨ ∃ t', I (j + 1) t' ∧ Bd k rc t = rc t')
    (he : ∀ (t : τ) (rc : τ → Option ρ), I n t → Q (Bd k rc t)) : Q (xlp Bd k XFU t0) := by
  have key : ∀ (m j : Nat) (t : τ) (fu : Nat), j + m = n → a ≤ j → m < fu → I j t → Q (xlp Bd k fu t) := by
    intro m
    induction m with
    | zero =>
      intro j t fu hj haj hf hI
      obtain ⟨fu, rfl⟩ : ∃ f', fu = f' + 1 := ⟨fu - 1, by omega⟩
      have e : j = n := by omega
      subst e
      exact he t (xloop (Bd k) fu) hI
    | succ m ih =>
      intro j t fu hj haj hf hI
      obtain ⟨fu, rfl⟩ : ∃ f', fu = f' + 1 := ⟨fu - 1, by omega⟩
      rcases hs j t (xloop (Bd k) fu) haj (by omega) hI with h | ⟨t', h1, h2⟩
      · exact h
      · have e : xlp Bd k (fu + 1) t = xlp Bd k fu t' := h2
        rw [e]
        exact ih (j + 1) t' fu (by omega) (by omega) (by omega) h1
  exact key (n - a) a t0 XFU (by omega) (Nat.le_refl _) (by rw [XFU_eq]; omega) h0
