/-! PATHS: costs of all ways on from a set; the least of them, how many have it, the first -/
def lmin (d : Nat) : List Nat → Nat
  | [] => d
  | a :: l => min a (lmin d l)
theorem lmin_le {d x : Nat} {l : List Nat} (h : x ∈ l) : lmin d l ≤ x := by
  induction l with
  | nil => cases h
  | cons a l ih =>
    show min a (lmin d l) ≤ x
    rcases List.mem_cons.mp h with e | e
    · subst e; exact Nat.min_le_left _ _
    · exact Nat.le_trans (Nat.min_le_right _ _) (ih e)
theorem lmin_led (d : Nat) (l : List Nat) : lmin d l ≤ d := by
  induction l with
  | nil => exact Nat.le_refl _
  | cons a l ih => exact Nat.le_trans (Nat.min_le_right _ _) ih
theorem lmin_mem (d : Nat) (l : List Nat) : lmin d l = d ∨ lmin d l ∈ l := by
  induction l with
  | nil => exact Or.inl rfl
  | cons a l ih =>
    show min a (lmin d l) = d ∨ min a (lmin d l) ∈ a :: l
    rcases Nat.le_total a (lmin d l) with h | h
    · right; rw [Nat.min_eq_left h]; exact List.mem_cons_self ..
    · rw [Nat.min_eq_right h]
      rcases ih with e | e
      · exact Or.inl e
      · exact Or.inr (List.mem_cons_of_mem _ e)
theorem lmin_in {d : Nat} {l : List Nat} (hl : l ≠ []) (hd : ∀ x ∈ l, x < d) : lmin d l ∈ l := by
  rcases lmin_mem d l with e | e
  · obtain ⟨x, hx⟩ := List.exists_mem_of_ne_nil l hl
    have h1 := lmin_le (d := d) hx
    have h2 := hd x hx
    omega
  · exact e
theorem lmin_app (d : Nat) (a b : List Nat) : lmin d (a ++ b) = min (lmin d a) (lmin d b) := by
  induction a with
  | nil =>
    show lmin d b = min d (lmin d b)
    rw [Nat.min_eq_right (lmin_led d b)]
  | cons x a ih =>
    show min x (lmin d (a ++ b)) = min (min x (lmin d a)) (lmin d b)
    rw [ih, Nat.min_assoc]
theorem lmin_add {d c : Nat} {l : List Nat} (hl : l ≠ []) (hd : ∀ x ∈ l, c + x < d) : lmin d (l.map (c + ·)) = c + lmin d l := by
  have h1 : lmin d (l.map (c + ·)) ∈ l.map (c + ·) := lmin_in (by simpa using hl) (fun x hx => by
    obtain ⟨y, hy, rfl⟩ := List.mem_map.mp hx
    exact hd y hy)
  obtain ⟨y, hy, e⟩ := List.mem_map.mp h1
  have h2 : lmin d l ∈ l := lmin_in hl (fun x hx => by have := hd x hx; omega)
  have h3 : lmin d (l.map (c + ·)) ≤ c + lmin d l := lmin_le (List.mem_map.mpr ⟨_, h2, rfl⟩)
  have h4 := lmin_le (d := d) hy
  omega
theorem count_add (c v : Nat) (l : List Nat) : (l.map (c + ·)).count (c + v) = l.count v := by
  induction l with
  | nil => rfl
  | cons a l ih =>
    rw [List.map_cons, List.count_cons, List.count_cons, ih]
    have : (c + a == c + v) = (a == v) := by
      by_cases h : a = v
      · subst h; simp
      · have h' : ¬ c + a = c + v := by omega
        rw [beq_eq_false_iff_ne.mpr h', beq_eq_false_iff_ne.mpr h]
    rw [this]
theorem count_low {v : Nat} {l : List Nat} (h : ∀ x ∈ l, v < x) : l.count v = 0 := List.count_eq_zero.mpr (fun hv => by have := h v hv; omega)
theorem count_lmin {d v : Nat} {l : List Nat} (h : v < lmin d l) : l.count v = 0 := count_low (fun x hx => Nat.lt_of_lt_of_le h (lmin_le hx))
/-- how a row of costs comes behind another one -/
theorem lm_join (d : Nat) (C D : List Nat) :
    (lmin d C < lmin d D → lmin d (C ++ D) = lmin d C ∧ (C ++ D).count (lmin d (C ++ D)) = C.count (lmin d C)) ∧
    (lmin d D < lmin d C → lmin d (C ++ D) = lmin d D ∧ (C ++ D).count (lmin d (C ++ D)) = D.count (lmin d D)) ∧
    (lmin d D = lmin d C → lmin d (C ++ D) = lmin d D ∧ (C ++ D).count (lmin d (C ++ D)) = C.count (lmin d C) + D.count (lmin d D)) := by
  refine ⟨fun h => ?_, fun h => ?_, fun h => ?_⟩
  · have e : lmin d (C ++ D) = lmin d C := by rw [lmin_app, Nat.min_eq_left (by omega)]
    exact ⟨e, by rw [e, List.count_append, count_lmin h, Nat.add_zero]⟩
  · have e : lmin d (C ++ D) = lmin d D := by rw [lmin_app, Nat.min_eq_right (by omega)]
    exact ⟨e, by rw [e, List.count_append, count_lmin h, Nat.zero_add]⟩
  · have e : lmin d (C ++ D) = lmin d D := by rw [lmin_app, Nat.min_eq_right (by omega)]
    exact ⟨e, by rw [e, List.count_append, h]⟩
def Pb.costs (P : Pb) (m s : Nat) : List Nat := (P.pths m s).map (P.cst s)
/-- costs over the first j graves alone -/
def Pb.costsJ (P : Pb) (m s j : Nat) : List Nat := (List.range j).flatMap (fun g => if P.ok s g = true then (P.costs m (s ||| 2 ^ g)).map (P.ct s g + ·) else [])
theorem costs_succ (P : Pb) (m s : Nat) : P.costs (m + 1) s = P.costsJ m s P.n := by
  show ((List.range P.n).flatMap _).map (P.cst s) = _
  rw [List.map_flatMap]
  apply flatMap_congr'
  intro g _
  by_cases h : P.ok s g = true
  · rw [if_pos h, if_pos h, List.map_map]
    show _ = ((P.pths m (s ||| 2 ^ g)).map (P.cst (s ||| 2 ^ g))).map (P.ct s g + ·)
    rw [List.map_map]
    rfl
  · rw [if_neg h, if_neg h]; rfl
theorem costsJ_succ (P : Pb) (m s j : Nat) : P.costsJ m s (j + 1) = P.costsJ m s j ++ (if P.ok s j = true then (P.costs m (s ||| 2 ^ j)).map (P.ct s j + ·) else []) := by
  unfold Pb.costsJ
  rw [List.range_succ, List.flatMap_append]
  simp
theorem ct_le {P : Pb} (hP : P.good) (s g : Nat) : P.ct s g ≤ 30 := wsum_le (n := 10) (fun k _ => hP.2.2 k) _
theorem cst_le {P : Pb} (hP : P.good) (s : Nat) (p : List Nat) : P.cst s p ≤ 30 * p.length := by
  induction p generalizing s with
  | nil => exact Nat.le_refl _
  | cons g p ih =>
    show P.ct s g + P.cst (s ||| 2 ^ g) p ≤ 30 * (p.length + 1)
    have h1 := ct_le hP s g
    have h2 := ih (s ||| 2 ^ g)
    omega
theorem costs_le {P : Pb} (hP : P.good) {m s c : Nat} (h : c ∈ P.costs m s) : c ≤ 30 * m := by
  obtain ⟨p, hp, rfl⟩ := List.mem_map.mp h
  have := cst_le hP s p
  rw [((mem_pths P).mp hp).1] at this
  exact this
theorem costsJ_le {P : Pb} (hP : P.good) {m s j c : Nat} (h : c ∈ P.costsJ m s j) : c ≤ 30 * (m + 1) := by
  unfold Pb.costsJ at h
  obtain ⟨g, hg, hc⟩ := List.mem_flatMap.mp h
  by_cases ho : P.ok s g = true
  · rw [if_pos ho] at hc
    obtain ⟨x, hx, rfl⟩ := List.mem_map.mp hc
    have h1 := costs_le hP hx
    have h2 := ct_le hP s g
    omega
  · rw [if_neg ho] at hc; cases hc
def NW : Nat := 1000000
def Pb.bh (P : Pb) (m s : Nat) : Nat := lmin NW (P.costs m s)
def Pb.wy (P : Pb) (m s : Nat) : Nat := (P.costs m s).count (P.bh m s)
theorem bh_in {P : Pb} (hP : P.good) {m s : Nat} (hm : m ≤ 8) (h : P.costs m s ≠ []) : P.bh m s ∈ P.costs m s := lmin_in h (fun x hx => by have := costs_le hP hx; unfold NW; omega)
theorem bh_nil {P : Pb} {m s : Nat} (h : P.costs m s = []) : P.bh m s = NW ∧ P.wy m s = 0 := by
  unfold Pb.wy Pb.bh; rw [h]; exact ⟨rfl, rfl⟩
theorem wy_pos {P : Pb} (hP : P.good) {m s : Nat} (hm : m ≤ 8) : 0 < P.wy m s ↔ P.costs m s ≠ [] := by
  constructor
  · intro h e; rw [(bh_nil e).2] at h; omega
  · intro h; exact List.count_pos_iff.mpr (bh_in hP hm h)
theorem bh_le {P : Pb} (hP : P.good) {m s : Nat} (hm : m ≤ 8) (h : P.costs m s ≠ []) : P.bh m s ≤ 240 := by
  have := costs_le hP (bh_in hP hm h)
  omega
theorem wy_le {P : Pb} (hn : P.n ≤ 8) {m s : Nat} : P.wy m s ≤ (P.pths m s).length := by
  have h1 : P.wy m s ≤ (P.costs m s).length := List.count_le_length
  have h2 : (P.costs m s).length = (P.pths m s).length := List.length_map ..
  omega
/-- one round of the search for the fewest gaps behind a set -/
def nxB (b w g v : Nat) : Nat × Nat := if v = 0 ∨ b < g then (b, w) else (g, if g < b then v else w + v)
theorem bh_round {P : Pb} (hP : P.good) {m s j : Nat} (hm : m ≤ 7) :
    (lmin NW (P.costsJ m s (j + 1)), (P.costsJ m s (j + 1)).count (lmin NW (P.costsJ m s (j + 1)))) = (if P.ok s j = true then nxB (lmin NW (P.costsJ m s j)) ((P.costsJ m s j).count (lmin NW (P.costsJ m s j))) (P.bh m (s ||| 2 ^ j) + P.ct s j) (P.wy m (s ||| 2 ^ j)) else (lmin NW (P.costsJ m s j), (P.costsJ m s j).count (lmin NW (P.costsJ m s j)))) := by
  rw [costsJ_succ]
  by_cases ho : P.ok s j = true
  · rw [if_pos ho, if_pos ho]
    generalize P.costsJ m s j = C
    by_cases he : P.costs m (s ||| 2 ^ j) = []
    · rw [he, (bh_nil he).2]
      unfold nxB
      rw [if_pos (Or.inl rfl)]
      simp
    · have hw : ¬ P.wy m (s ||| 2 ^ j) = 0 := by have := (wy_pos hP (s := s ||| 2 ^ j) (show m ≤ 8 by omega)).mpr he; omega
      have e1 : lmin NW ((P.costs m (s ||| 2 ^ j)).map (P.ct s j + ·)) = P.bh m (s ||| 2 ^ j) + P.ct s j := by
        rw [lmin_add he (fun x hx => by have h1 := costs_le hP hx; have h2 := ct_le hP s j; unfold NW; omega), Nat.add_comm]; rfl
      have e2 : ((P.costs m (s ||| 2 ^ j)).map (P.ct s j + ·)).count (P.bh m (s ||| 2 ^ j) + P.ct s j) = P.wy m (s ||| 2 ^ j) := by
        rw [Nat.add_comm, count_add]; rfl
      obtain ⟨j1, j2, j3⟩ := lm_join NW C ((P.costs m (s ||| 2 ^ j)).map (P.ct s j + ·))
      rw [e1, e2] at j2 j3
      rw [e1] at j1
      unfold nxB
      by_cases h1 : lmin NW C < P.bh m (s ||| 2 ^ j) + P.ct s j
      · rw [if_pos (Or.inr h1), (j1 h1).2, (j1 h1).1]
      · rw [if_neg (fun q => q.elim hw h1)]
        by_cases h2 : P.bh m (s ||| 2 ^ j) + P.ct s j < lmin NW C
        · rw [if_pos h2, (j2 h2).2, (j2 h2).1]
        · have h3 : P.bh m (s ||| 2 ^ j) + P.ct s j = lmin NW C := by omega
          rw [if_neg h2, (j3 h3).2, (j3 h3).1]
  · rw [if_neg ho, if_neg ho, List.append_nil]
/-- the ways from nothing to a set -/
def Pb.pre (P : Pb) (s : Nat) (p : List Nat) : Prop := P.okp 0 p = true ∧ (∀ g ∈ p, g < P.n) ∧ fin 0 p = s
def Pb.isAh (P : Pb) (a : Nat → Nat) : Prop := ∀ s, s < 2 ^ P.n → (∀ p, P.pre s p → a s ≤ P.cst 0 p) ∧ (a s = NW ∨ ∃ p, P.pre s p ∧ P.cst 0 p = a s)
theorem pre_len {P : Pb} {s : Nat} {p : List Nat} (h : P.pre s p) : popN P.n s = p.length := by
  obtain ⟨h1, h2, h3⟩ := h
  obtain ⟨h4, h5⟩ := okp_nodup P h1
  have := popN_fin (s := 0) (Nat.le_refl P.n) h2 h4 h5
  rw [h3, popN_0] at this
  omega
theorem pre_app {P : Pb} {s : Nat} {p q : List Nat} (h : P.pre s p) (hq : q ∈ P.pths (P.n - popN P.n s) s) : p ++ q ∈ P.pths P.n 0 ∧ P.cst 0 (p ++ q) = P.cst 0 p + P.cst s q := by
  have hl := pre_len h
  obtain ⟨h1, h2, h3⟩ := h
  obtain ⟨h4, h5, h6⟩ := (mem_pths P).mp hq
  refine ⟨(mem_pths P).mpr ⟨?_, fun g hg => ?_, ?_⟩, ?_⟩
  · rw [List.length_append, h4]
    have := popN_le P.n s
    omega
  · rcases List.mem_append.mp hg with e | e
    · exact h2 g e
    · exact h5 g e
  · rw [okp_append, h1, h3, h6]; rfl
  · rw [cst_append, h3]
theorem app_pre {P : Pb} {p q : List Nat} (h : p ++ q ∈ P.pths P.n 0) : P.pre (fin 0 p) p ∧ q ∈ P.pths (P.n - popN P.n (fin 0 p)) (fin 0 p) := by
  obtain ⟨h1, h2, h3⟩ := (mem_pths P).mp h
  rw [okp_append, Bool.and_eq_true] at h3
  have hp : P.pre (fin 0 p) p := ⟨h3.1, fun g hg => h2 g (List.mem_append_left _ hg), rfl⟩
  refine ⟨hp, (mem_pths P).mpr ⟨?_, fun g hg => h2 g (List.mem_append_right _ hg), h3.2⟩⟩
  rw [pre_len hp]
  rw [List.length_append] at h1
  omega
theorem pre_lt {P : Pb} {s : Nat} {p : List Nat} (h : P.pre s p) : s < 2 ^ P.n := by
  rw [← h.2.2]; exact fin_lt (Nat.two_pow_pos _) h.2.1
theorem pass_iff {P : Pb} (hP : P.good) {a : Nat → Nat} (ha : P.isAh a) (h0 : P.costs P.n 0 ≠ []) {s : Nat} (hs : s < 2 ^ P.n) :
    a s + P.bh (P.n - popN P.n s) s = P.bh P.n 0 ↔ ∃ p q, fin 0 p = s ∧ p ++ q ∈ P.pths P.n 0 ∧ P.cst 0 (p ++ q) = P.bh P.n 0 := by
  have hn := hP.1
  have hM := bh_le hP hn h0
  obtain ⟨a1, a2⟩ := ha s hs
  have att : a s + P.bh (P.n - popN P.n s) s < NW → ∃ p q, fin 0 p = s ∧ p ++ q ∈ P.pths P.n 0 ∧ P.cst 0 (p ++ q) = a s + P.bh (P.n - popN P.n s) s := by
    intro h
    rcases a2 with e | ⟨p, hp, ep⟩
    · rw [e] at h; omega
    · have hc : P.costs (P.n - popN P.n s) s ≠ [] := fun e => by rw [(bh_nil e).1] at h; omega
      obtain ⟨q, hq, eq⟩ := List.mem_map.mp (bh_in hP (by omega) hc)
      obtain ⟨h1, h2⟩ := pre_app hp hq
      exact ⟨p, q, hp.2.2, h1, by rw [h2, ep, eq]⟩
  constructor
  · intro h
    obtain ⟨p, q, h1, h2, h3⟩ := att (by rw [h]; unfold NW; omega)
    exact ⟨p, q, h1, h2, by rw [h3, h]⟩
  · rintro ⟨p, q, rfl, h2, h3⟩
    obtain ⟨hp, hq⟩ := app_pre h2
    have e := (pre_app hp hq).2
    have l1 := a1 p hp
    have l2 : P.bh (P.n - popN P.n (fin 0 p)) (fin 0 p) ≤ P.cst (fin 0 p) q := lmin_le (List.mem_map.mpr ⟨q, hq, rfl⟩)
    obtain ⟨p', q', h1', h2', h3'⟩ := att (by unfold NW; omega)
    have l3 : P.bh P.n 0 ≤ P.cst 0 (p' ++ q') := lmin_le (List.mem_map.mpr ⟨_, h2', rfl⟩)
    omega
theorem popN_step {P : Pb} {s g : Nat} (hg : g < P.n) (h : s.testBit g = false) : P.n - popN P.n s = P.n - popN P.n (s ||| 2 ^ g) + 1 := by
  have h1 := popN_or hg h
  have h2 := popN_le P.n (s ||| 2 ^ g)
  omega
theorem ok_bit {P : Pb} {s g : Nat} (h : P.ok s g = true) : s.testBit g = false := by
  unfold Pb.ok at h
  rw [Bool.and_eq_true, Bool.and_eq_true] at h
  simpa using h.1.1
theorem place_iff {P : Pb} (hP : P.good) {a : Nat → Nat} (ha : P.isAh a) (h0 : P.costs P.n 0 ≠ []) {s g : Nat} (hs : s < 2 ^ P.n) (hg : g < P.n) (ho : P.ok s g = true) :
    a s + P.ct s g + P.bh (P.n - popN P.n (s ||| 2 ^ g)) (s ||| 2 ^ g) = P.bh P.n 0 ↔ ∃ p q, fin 0 p = s ∧ p ++ g :: q ∈ P.pths P.n 0 ∧ P.cst 0 (p ++ g :: q) = P.bh P.n 0 := by
  have hn := hP.1
  have hM := bh_le hP hn h0
  obtain ⟨a1, a2⟩ := ha s hs
  have hst := popN_step hg (ok_bit ho)
  have att : a s + P.ct s g + P.bh (P.n - popN P.n (s ||| 2 ^ g)) (s ||| 2 ^ g) < NW → ∃ p q, fin 0 p = s ∧ p ++ g :: q ∈ P.pths P.n 0 ∧ P.cst 0 (p ++ g :: q) = a s + P.ct s g + P.bh (P.n - popN P.n (s ||| 2 ^ g)) (s ||| 2 ^ g) := by
    intro h
    rcases a2 with e | ⟨p, hp, ep⟩
    · rw [e] at h; omega
    · have hc : P.costs (P.n - popN P.n (s ||| 2 ^ g)) (s ||| 2 ^ g) ≠ [] := fun e => by rw [(bh_nil e).1] at h; omega
      obtain ⟨q, hq, eq⟩ := List.mem_map.mp (bh_in hP (by omega) hc)
      obtain ⟨q1, q2, q3⟩ := (mem_pths P).mp hq
      have hq' : g :: q ∈ P.pths (P.n - popN P.n s) s := (mem_pths P).mpr ⟨by rw [List.length_cons, q1]; omega, fun x hx => by
        rcases List.mem_cons.mp hx with e | e
        · rw [e]; exact hg
        · exact q2 x e, by show (P.ok s g && P.okp (s ||| 2 ^ g) q) = true; rw [ho, q3]; rfl⟩
      obtain ⟨h1, h2⟩ := pre_app hp hq'
      refine ⟨p, q, hp.2.2, h1, ?_⟩
      rw [h2, ep]
      show a s + (P.ct s g + P.cst (s ||| 2 ^ g) q) = _
      rw [eq]; omega
  constructor
  · intro h
    obtain ⟨p, q, h1, h2, h3⟩ := att (by rw [h]; unfold NW; omega)
    exact ⟨p, q, h1, h2, by rw [h3, h]⟩
  · rintro ⟨p, q, rfl, h2, h3⟩
    obtain ⟨hp, hq⟩ := app_pre h2
    have e := (pre_app hp hq).2
    have l1 := a1 p hp
    obtain ⟨q1, q2, q3⟩ := (mem_pths P).mp hq
    have q3' : (P.ok (fin 0 p) g && P.okp (fin 0 p ||| 2 ^ g) q) = true := q3
    rw [Bool.and_eq_true] at q3'
    have l2 : P.bh (P.n - popN P.n (fin 0 p ||| 2 ^ g)) (fin 0 p ||| 2 ^ g) ≤ P.cst (fin 0 p ||| 2 ^ g) q := lmin_le (List.mem_map.mpr ⟨q, (mem_pths P).mpr ⟨by rw [List.length_cons] at q1; omega, fun x hx => q2 x (List.mem_cons_of_mem _ hx), q3'.2⟩, rfl⟩)
    have e' : P.cst (fin 0 p) (g :: q) = P.ct (fin 0 p) g + P.cst (fin 0 p ||| 2 ^ g) q := rfl
    obtain ⟨p', q', h1', h2', h3'⟩ := att (by unfold NW; omega)
    have l3 : P.bh P.n 0 ≤ P.cst 0 (p' ++ g :: q') := lmin_le (List.mem_map.mpr ⟨_, h2', rfl⟩)
    omega
/-- the first row of those with the fewest gaps -/
def Pb.fst (P : Pb) (m s : Nat) (p : List Nat) : Prop := ∃ A B, P.pths m s = A ++ p :: B ∧ P.cst s p = P.bh m s ∧ ∀ q ∈ A, P.cst s q ≠ P.bh m s
theorem fst_step {P : Pb} {m s g : Nat} {q : List Nat} (hg : g < P.n) (ho : P.ok s g = true) (he : P.bh m (s ||| 2 ^ g) + P.ct s g = P.bh (m + 1) s)
    (hl : ∀ h, h < g → P.ok s h = true → 0 < P.wy m (s ||| 2 ^ h) → P.bh m (s ||| 2 ^ h) + P.ct s h ≠ P.bh (m + 1) s) (hP : P.good) (hm : m ≤ 8) (hq : P.fst m (s ||| 2 ^ g) q) : P.fst (m + 1) s (g :: q) := by
  obtain ⟨A, B, h1, h2, h3⟩ := hq
  obtain ⟨r, er⟩ : ∃ r, P.n = g + 1 + r := ⟨P.n - (g + 1), by omega⟩
  have eR : List.range P.n = List.range g ++ g :: (List.range r).map (g + 1 + ·) := by
    rw [er, List.range_add, List.range_succ]; simp
  have eL : P.pths (m + 1) s = ((List.range g).flatMap (fun g => if P.ok s g = true then (P.pths m (s ||| 2 ^ g)).map (g :: ·) else []) ++ A.map (g :: ·)) ++ (g :: q) :: (B.map (g :: ·) ++ ((List.range r).map (g + 1 + ·)).flatMap (fun g => if P.ok s g = true then (P.pths m (s ||| 2 ^ g)).map (g :: ·) else [])) := by
    show (List.range P.n).flatMap _ = _
    rw [eR, List.flatMap_append, List.flatMap_cons, if_pos ho, h1]
    simp
  refine ⟨_, _, eL, ?_, ?_⟩
  · show P.ct s g + P.cst (s ||| 2 ^ g) q = _
    rw [h2]; omega
  · intro x hx
    rcases List.mem_append.mp hx with hx | hx
    · obtain ⟨h, hh, hx⟩ := List.mem_flatMap.mp hx
      rw [List.mem_range] at hh
      by_cases hoh : P.ok s h = true
      · rw [if_pos hoh] at hx
        obtain ⟨y, hy, rfl⟩ := List.mem_map.mp hx
        intro e
        have e' : P.ct s h + P.cst (s ||| 2 ^ h) y = P.bh (m + 1) s := e
        have hc : P.cst (s ||| 2 ^ h) y ∈ P.costs m (s ||| 2 ^ h) := List.mem_map.mpr ⟨y, hy, rfl⟩
        have hne : P.costs m (s ||| 2 ^ h) ≠ [] := fun e => by rw [e] at hc; cases hc
        have l1 : P.bh m (s ||| 2 ^ h) ≤ P.cst (s ||| 2 ^ h) y := lmin_le hc
        have l2 : P.bh (m + 1) s ≤ P.ct s h + P.bh m (s ||| 2 ^ h) := by
          obtain ⟨z, hz, ez⟩ := List.mem_map.mp (bh_in hP hm hne)
          rw [← ez]
          refine lmin_le (List.mem_map.mpr ⟨h :: z, ?_, rfl⟩)
          obtain ⟨z1, z2, z3⟩ := (mem_pths P).mp hz
          exact (mem_pths P).mpr ⟨by rw [List.length_cons, z1], fun w hw => by
            rcases List.mem_cons.mp hw with e | e
            · rw [e]; omega
            · exact z2 w e, by show (P.ok s h && P.okp (s ||| 2 ^ h) z) = true; rw [hoh, z3]; rfl⟩
        exact hl h hh hoh ((wy_pos hP hm).mpr hne) (by omega)
      · rw [if_neg hoh] at hx; cases hx
    · obtain ⟨y, hy, rfl⟩ := List.mem_map.mp hx
      intro e
      have e' : P.ct s g + P.cst (s ||| 2 ^ g) y = P.bh (m + 1) s := e
      exact h3 y hy (by omega)
theorem fst_find {P : Pb} {m s : Nat} {p : List Nat} (h : P.fst m s p) : (P.pths m s).find? (fun q => decide (P.cst s q = P.bh m s)) = some p := by
  obtain ⟨A, B, h1, h2, h3⟩ := h
  rw [List.find?_eq_some_iff_append]
  refine ⟨by simpa using h2, A, B, h1, fun a ha => ?_⟩
  simpa using h3 a ha
/-- where there is a way there is a least next grave -/
theorem least_ex {P : Pb} (hP : P.good) {m s : Nat} (hm : m ≤ 7) (h : P.costs (m + 1) s ≠ []) : ∃ g, g < P.n ∧ P.ok s g = true ∧ 0 < P.wy m (s ||| 2 ^ g) ∧ P.bh m (s ||| 2 ^ g) + P.ct s g = P.bh (m + 1) s := by
  have h1 := bh_in hP (show m + 1 ≤ 8 by omega) h
  rw [costs_succ] at h1
  obtain ⟨g, hg, hc⟩ := List.mem_flatMap.mp h1
  rw [List.mem_range] at hg
  by_cases ho : P.ok s g = true
  · rw [if_pos ho] at hc
    obtain ⟨x, hx, ex⟩ := List.mem_map.mp hc
    have hne : P.costs m (s ||| 2 ^ g) ≠ [] := fun e => by rw [e] at hx; cases hx
    have l1 : P.bh m (s ||| 2 ^ g) ≤ x := lmin_le hx
    have hb := bh_in hP (show m ≤ 8 by omega) hne
    have l2 : P.bh (m + 1) s ≤ P.ct s g + P.bh m (s ||| 2 ^ g) := by
      unfold Pb.bh
      rw [costs_succ]
      exact lmin_le (List.mem_flatMap.mpr ⟨g, List.mem_range.mpr hg, by rw [if_pos ho]; exact List.mem_map.mpr ⟨_, hb, rfl⟩⟩)
    exact ⟨g, hg, ho, (wy_pos hP (by omega)).mpr hne, by
      have ex' : P.ct s g + x = P.bh (m + 1) s := ex
      omega⟩
  · rw [if_neg ho] at hc; cases hc
