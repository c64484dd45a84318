/-! NUMBERS: ints that are small naturals, their bits -/
theorem nI_and (a b : Nat) : nI a &&& nI b = nI (a &&& b) := Int32.toBitVec_inj.1 (by
  show BitVec.ofNat 32 a &&& BitVec.ofNat 32 b = BitVec.ofNat 32 (a &&& b)
  rw [BitVec.ofNat_and])
theorem nI_or (a b : Nat) : nI a ||| nI b = nI (a ||| b) := Int32.toBitVec_inj.1 (by
  show BitVec.ofNat 32 a ||| BitVec.ofNat 32 b = BitVec.ofNat 32 (a ||| b)
  rw [BitVec.ofNat_or])
def andn (a b : Nat) : Nat := a ^^^ (a &&& b)
theorem andn_bit (a b i : Nat) : (andn a b).testBit i = (a.testBit i && !b.testBit i) := by
  unfold andn
  rw [Nat.testBit_xor, Nat.testBit_and]
  cases a.testBit i <;> cases b.testBit i <;> rfl
theorem nI_andn (a b : Nat) : nI a &&& (nI b ^^^ (-1 : Int32)) = nI (andn a b) := Int32.toBitVec_inj.1 (by
  show BitVec.ofNat 32 a &&& (BitVec.ofNat 32 b ^^^ (-1 : Int32).toBitVec) = BitVec.ofNat 32 (a ^^^ (a &&& b))
  have h1 : (-1 : Int32).toBitVec = BitVec.allOnes 32 := by decide
  rw [h1, BitVec.xor_allOnes, BitVec.ofNat_xor, BitVec.ofNat_and]
  apply BitVec.eq_of_getLsbD_eq
  intro i hi
  simp only [BitVec.getLsbD_and, BitVec.getLsbD_not, BitVec.getLsbD_xor, hi, decide_true, Bool.true_and]
  cases (BitVec.ofNat 32 a).getLsbD i <;> cases (BitVec.ofNat 32 b).getLsbD i <;> rfl)
theorem nI_shl1 {g : Nat} (h : g < 31) : (1 : Int32) <<< (nI g &&& 31) = nI (2 ^ g) := by
  have : ∀ g, g < 31 → (1 : Int32) <<< (nI g &&& 31) = nI (2 ^ g) := by decide +kernel
  exact this g h
theorem nI_smod {g : Nat} (h : g < 31) : ((nI g &&& 31).toBitVec.smod 32).toNat = g := by
  have : ∀ g, g < 31 → ((nI g &&& 31).toBitVec.smod 32).toNat = g := by decide +kernel
  exact this g h
theorem nI_shr {m g : Nat} (hm : m < 2 ^ 31) (h : g < 31) : nI m >>> (nI g &&& 31) = nI (m / 2 ^ g) := pk_shrN hm _ g (nI_smod h)
theorem nI_shl {m g : Nat} (h : g < 31) (hm : m * 2 ^ g < 2 ^ 32) : nI m <<< (nI g &&& 31) = nI (m * 2 ^ g) := pk_shlN _ g (nI_smod h) hm
theorem nI_bit {m g : Nat} (hm : m < 2 ^ 31) (h : g < 31) : (nI m >>> (nI g &&& 31)) &&& (1 : Int32) = nI (m.testBit g).toNat := by
  rw [nI_shr hm h]
  have h1 : m / 2 ^ g < 2 ^ 32 := Nat.lt_of_le_of_lt (Nat.div_le_self _ _) (by omega)
  rw [pk_andN h1 1 (by decide), Nat.toNat_testBit]
theorem nI_bit1 {m g : Nat} (hm : m < 2 ^ 31) (h : g < 31) : ((nI m >>> (nI g &&& 31)) &&& (1 : Int32) = 1) ↔ m.testBit g = true := by
  rw [nI_bit hm h]
  cases m.testBit g <;> decide
theorem nI_bit0 {m g : Nat} (hm : m < 2 ^ 31) (h : g < 31) : ((nI m >>> (nI g &&& 31)) &&& (1 : Int32) = 0) ↔ m.testBit g = false := by
  rw [nI_bit hm h]
  cases m.testBit g <;> decide
/-- between 0 and B -/
def bd (x : Int32) (B : Nat) : Prop := x = nI (xti x) ∧ xti x ≤ B
theorem xti_nI {n : Nat} (h : n < 2 ^ 31) : xti (nI n) = n := nI_clamp h
theorem bd_nI {n B : Nat} (h : n ≤ B) (hB : B < 2 ^ 31) : bd (nI n) B := by
  have e : xti (nI n) = n := nI_clamp (by omega)
  exact ⟨by rw [e], by rw [e]; exact h⟩
theorem bd_mono {x : Int32} {B B' : Nat} (h : bd x B) (hB : B ≤ B') : bd x B' := ⟨h.1, Nat.le_trans h.2 hB⟩
theorem xin_nI {n N : Nat} (h : n < N) (hN : N < 2 ^ 31) : xin (nI n) N = true := by
  have h1 := nI_in h hN
  simp only [not_or] at h1
  simp only [xin, Bool.not_eq_true', Bool.or_eq_false_iff, decide_eq_false_iff_not]
  exact h1
theorem xin_bd {x : Int32} {B N : Nat} (h : bd x B) (hB : B < N) (hN : N < 2 ^ 31) : xin x N = true := by
  rw [h.1]; exact xin_nI (by have := h.2; omega) hN
theorem xin_of {x : Int32} {N : Nat} (h : xin x N = true) (hN : N < 2 ^ 31) : ∃ n, n < N ∧ x = nI n := vp_in_of (xin_in h) hN
theorem within_1 {x a b : Int32} : (¬ F_X6_within x a b = 0) ↔ (a ≤ x ∧ x ≤ b) := by
  unfold F_X6_within
  by_cases h1 : x < a
  · rw [if_pos h1]
    constructor
    · intro h; exact absurd rfl h
    · intro h; exact absurd h1 (Int32.not_lt.mpr h.1)
  · rw [if_neg h1]
    by_cases h2 : b < x
    · rw [if_pos h2]
      constructor
      · intro h; exact absurd rfl h
      · intro h; exact absurd h2 (Int32.not_lt.mpr h.2)
    · rw [if_neg h2]
      exact ⟨fun _ => ⟨Int32.not_lt.mp h1, Int32.not_lt.mp h2⟩, fun _ => by decide⟩
theorem in_within (x a b : Int32) : F_X7_in x a b = F_X6_within x a b := rfl
theorem within_nI {x : Int32} {a b : Nat} (ha : a < 2 ^ 31) (hb : b < 2 ^ 31) (h : ¬ F_X6_within x (nI a) (nI b) = 0) : ∃ n, x = nI n ∧ a ≤ n ∧ n ≤ b := by
  obtain ⟨h1, h2⟩ := within_1.mp h
  have h0 : ¬ x < 0 := by
    intro hx
    have : nI a < 0 := Int32.lt_of_le_of_lt h1 hx
    exact absurd this (nI_pos ha)
  obtain ⟨n, hn, rfl⟩ := nI_of h0
  exact ⟨n, rfl, (nI_leI ha hn).mp h1, (nI_leI hn hb).mp h2⟩
/-- a loop that runs to its end: I is what holds with m rounds left at most -/
theorem xlp_run {τ ε ρ : Type} {Bd : (ε → Option ρ) → (τ → Option ρ) → τ → Option ρ} {k : ε → Option ρ} (I : Nat → τ → Prop) (E : ε → Prop) (Q : ρ → Prop)
    (hs : ∀ (m : Nat) (t : τ) (rc : τ → Option ρ), I m t → (∃ e, E e ∧ Bd k rc t = k e) ∨ (∃ r, Q r ∧ Bd k rc t = some r) ∨ (∃ m' t', m' < m ∧ I m' t' ∧ Bd k rc t = rc t')) :
    ∀ (m : Nat) (t : τ), I m t → ∀ n, m < n → (∃ e, E e ∧ xlp Bd k n t = k e) ∨ (∃ r, Q r ∧ xlp Bd k n t = some r) := by
  intro m
  induction m using Nat.strongRecOn with
  | _ m ih =>
    intro t ht n hn
    obtain ⟨n, rfl⟩ : ∃ n', n = n' + 1 := ⟨n - 1, by omega⟩
    rcases hs m t (xloop (Bd k) n) ht with ⟨e, h1, h2⟩ | ⟨r, h1, h2⟩ | ⟨m', t', h1, h2, h3⟩
    · exact Or.inl ⟨e, h1, h2⟩
    · exact Or.inr ⟨r, h1, h2⟩
    · have := ih m' h1 t' h2 n (by omega)
      have e1 : xlp Bd k (n + 1) t = xlp Bd k n t' := h3
      rw [e1]; exact this
theorem xlp_for {τ ε ρ : Type} {Bd : (ε → Option ρ) → (τ → Option ρ) → τ → Option ρ} {k : ε → Option ρ} (I : Nat → τ → Prop) (E : ε → Prop)
    (hs : ∀ (m : Nat) (t : τ) (rc : τ → Option ρ), I m t → (∃ e, E e ∧ Bd k rc t = k e) ∨ (∃ m' t', m' < m ∧ I m' t' ∧ Bd k rc t = rc t')) {m : Nat} {t : τ} (h0 : I m t) {n : Nat} (hn : m < n) : ∃ e, E e ∧ xlp Bd k n t = k e := by
  rcases xlp_run I E (fun _ => False) (fun m t rc h => (hs m t rc h).imp id Or.inr) m t h0 n hn with h | ⟨r, h, -⟩
  · exact h
  · exact h.elim
theorem XFU_eq : XFU = 100000 := rfl
theorem xst_same (S : XSt) (q i : Nat) (v : Int32) : xst S q i v q i = v := by simp [xst, upd]
theorem xst_idx (S : XSt) (q : Nat) {i j : Nat} (v : Int32) (h : j ≠ i) : xst S q i v q j = S q j := by simp [xst, upd, h]
theorem xst_ne (S : XSt) {q q' : Nat} (i : Nat) (v : Int32) (h : q' ≠ q) : xst S q i v q' = S q' := by simp [xst, h]
theorem xst_at (S : XSt) (q i j : Nat) (v : Int32) : xst S q i v q j = if j = i then v else S q j := by simp [xst, upd]
theorem xsr_1 (U : XSr) (q i : Nat) (v : Int32) : (xsr U q i v).1 = xst U.1 q i v := rfl
theorem xsr_2 (U : XSr) (q i : Nat) (v : Int32) : (xsr U q i v).2 = U.2 := rfl
