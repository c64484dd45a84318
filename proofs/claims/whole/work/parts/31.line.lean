/-! a LINE: its fault, its finds -/
def fl (st c n : Nat) : Nat := if st = 0 then (if 48 ≤ c ∧ c < 48 + n then 1 else 5) else if st = 1 then (if c = 58 then 2 else 5) else if st = 2 then (if c = 45 then 3 else if 48 ≤ c ∧ c ≤ 57 then 4 else 5) else if st = 3 then (if 48 ≤ c ∧ c ≤ 57 then 4 else 5) else if st = 4 then (if c = 44 then 2 else if c = 59 then 0 else 5) else 5
theorem follow_eq : ∀ st, st < 5 → ∀ c, c < 256 → ∀ n, n < 9 → F_X2_follow (nI st) (nI c) (nI n) = nI (fl st c n) := by decide +kernel
theorem fl_le (st c n : Nat) : fl st c n ≤ 5 := by
  unfold fl
  repeat' split
  all_goals omega
/-- m bytes are left, from the byte i on, in a state, with the grave that was read last: the finds, the fault (none: there is none) -/
def runI (n : Nat) (b : Nat → Nat) : Nat → Nat → Nat → Nat → List (Nat × Nat × Nat) × Option Nat
  | 0, st, i, _ => ([], if st = 4 then none else some i)
  | m + 1, st, i, g => if fl st (b i) n = 5 then ([], some i) else
      ((if fl st (b i) n = 4 then ((if st = 0 then b i - 48 else g), b i - 48, if st = 2 then 1 else 0) :: (runI n b m (fl st (b i) n) (i + 1) (if st = 0 then b i - 48 else g)).1 else (runI n b m (fl st (b i) n) (i + 1) (if st = 0 then b i - 48 else g)).1),
        (runI n b m (fl st (b i) n) (i + 1) (if st = 0 then b i - 48 else g)).2)
def codeF (r : Option Nat) : Int32 := match r with
  | none => -1
  | some p => nI p
def btS (S : XSt) : Nat → Nat := fun i => xti (S 11 i)
theorem firstFault_eq {S : XSt} {n t : Nat} (hn : n ≤ 8) (ht : S 2 1 = nI t) (ht40 : t ≤ 40) (hb : ∀ i, i < 40 → bd (S 11 i) 255) : F_X2_firstFault S (nI n) = some (codeF (runI n (btS S) t 0 0 0).2) := by
  unfold F_X2_firstFault
  have := xlp_run (Bd := fun k rc t => B_X2_firstFault_4 S (nI n) k rc t.1 t.2) (k := fun e4 => (if e4 = 4 then (some (-1)) else (some (S 2 1)))) (fun m q => ∃ st i g, q = (nI st, nI i) ∧ i + m = t ∧ st < 5 ∧ (runI n (btS S) m st i g).2 = (runI n (btS S) t 0 0 0).2) (fun e => ∃ st g, st < 5 ∧ e = nI st ∧ (runI n (btS S) 0 st t g).2 = (runI n (btS S) t 0 0 0).2) (fun r => r = codeF (runI n (btS S) t 0 0 0).2) (by
    intro m q rc hq
    obtain ⟨st, i, g, rfl, hi, hst, hr⟩ := hq
    cases m with
    | zero =>
      refine Or.inl ⟨nI st, ⟨st, g, hst, rfl, by rw [← hr, show i = t by omega]⟩, ?_⟩
      show B_X2_firstFault_4 S (nI n) _ rc (nI st) (nI i) = _
      unfold B_X2_firstFault_4
      rw [ht, if_pos (nI_le (by omega) (by omega))]
    | succ m =>
      have hc := hb i (by omega)
      have ec : S 11 i = nI (btS S i) := hc.1
      have hc2 : btS S i ≤ 255 := hc.2
      have hB : B_X2_firstFault_4 S (nI n) (fun e4 => (if e4 = 4 then (some (-1)) else (some (S 2 1)))) rc (nI st) (nI i) = if nI (fl st (btS S i) n) = 5 then some (nI i) else rc (nI (fl st (btS S i) n), nI (i + 1)) := by
        unfold B_X2_firstFault_4
        rw [ht, if_neg (nI_ge (by omega) (by omega)), if_pos (xin_nI (by omega) (by decide)), xti_nI (by omega), ec, follow_eq st hst _ (by omega) n (by omega)]
        simp only [xlet, nI_1]
      have hle := fl_le st (btS S i) n
      by_cases h5 : fl st (btS S i) n = 5
      · refine Or.inr (Or.inl ⟨nI i, ?_, ?_⟩)
        · rw [← hr]; unfold runI; rw [if_pos h5]; rfl
        · show B_X2_firstFault_4 S (nI n) _ rc (nI st) (nI i) = _
          rw [hB, h5, if_pos (by decide)]
      · refine Or.inr (Or.inr ⟨m, (nI (fl st (btS S i) n), nI (i + 1)), by omega, ⟨fl st (btS S i) n, i + 1, (if st = 0 then btS S i - 48 else g), rfl, by omega, by omega, ?_⟩, ?_⟩)
        · rw [← hr]
          conv => rhs; unfold runI
          rw [if_neg h5]
        · show B_X2_firstFault_4 S (nI n) _ rc (nI st) (nI i) = _
          rw [hB, if_neg (show ¬ nI (fl st (btS S i) n) = 5 from fun h => h5 ((nI_eq (b := 5) (by omega) (by decide)).mp h))]) t (0, 0) ⟨0, 0, 0, rfl, by omega, by decide, rfl⟩ XFU (by rw [XFU_eq]; omega)
  rcases this with ⟨e, ⟨st, g, hst, rfl, hr⟩, h1⟩ | ⟨r, rfl, h1⟩
  · rw [h1, ← hr]
    unfold runI
    by_cases h4 : st = 4
    · rw [if_pos (by rw [h4]; rfl), if_pos h4]; rfl
    · rw [if_neg (show ¬ nI st = 4 from fun h => h4 ((nI_eq (b := 4) (by omega) (by decide)).mp h)), if_neg h4, ht]; rfl
  · exact h1
/-- what faultNow has said so far -/
def said (U : XSr) (l : List (Nat × Nat × Nat)) : Prop := U.1 0 17 = nI l.length ∧ ∀ (k : Nat) (q : Nat × Nat × Nat), l[k]? = some q → U.1 11 k = nI q.1 ∧ U.1 12 k = nI q.2.1 ∧ U.1 13 k = nI q.2.2
/-- nothing but what is said has changed -/
def scr (U U' : XSr) : Prop := (∀ q, q ≠ 0 → q ≠ 11 → q ≠ 12 → q ≠ 13 → U'.1 q = U.1 q) ∧ (∀ j, j ≠ 17 → U'.1 0 j = U.1 0 j) ∧ U'.2 = U.2
theorem scr.rf (U : XSr) : scr U U := ⟨fun _ _ _ _ _ => rfl, fun _ _ => rfl, rfl⟩
theorem byteAt_in {U : XSr} {t i : Nat} (ht : U.1 0 15 = nI t) (ht40 : t ≤ 40) (hi : i < t) : F_X7_byteAt U (nI i) = some (U.1 10 i) := by
  unfold F_X7_byteAt
  rw [ht, if_neg (nI_ge hi (by omega)), if_pos (xin_nI (by omega) (by decide)), xti_nI (by omega)]
theorem byteAt_out {U : XSr} {t i : Nat} (ht : U.1 0 15 = nI t) (ht40 : t ≤ 40) (hi : t ≤ i) (hi41 : i < 2 ^ 31) : F_X7_byteAt U (nI i) = some (-1) := by
  unfold F_X7_byteAt
  rw [ht, if_pos (nI_le hi hi41)]
theorem isKind_c : ∀ c, c < 256 → F_X7_isKind (nI c - 48) = if 48 ≤ c ∧ c ≤ 57 then 1 else 0 := by decide +kernel
theorem sub48 {c : Nat} (h : 48 ≤ c) : nI c - (48 : Int32) = nI (c - 48) := pk_sub (b := 48) h
theorem isGrave_c {U : XSr} {n c : Nat} (hn : U.1 0 0 = nI n) (hn8 : n ≤ 8) (hc : c < 256) : F_X7_isGrave U (nI c - 48) = if 48 ≤ c ∧ c < 48 + n then 1 else 0 := by
  have : ∀ n, n < 9 → ∀ c, c < 256 → F_X7_in (nI c - 48) 0 (nI n - 1) = if 48 ≤ c ∧ c < 48 + n then 1 else 0 := by decide +kernel
  unfold F_X7_isGrave
  rw [hn]; exact this n (by omega) c hc
theorem isGrave_m1 {U : XSr} {n : Nat} (hn : U.1 0 0 = nI n) (hn8 : n ≤ 8) : F_X7_isGrave U ((-1 : Int32) - 48) = 0 := by
  have : ∀ n, n < 9 → F_X7_in ((-1 : Int32) - 48) 0 (nI n - 1) = 0 := by decide +kernel
  unfold F_X7_isGrave
  rw [hn]; exact this n (by omega)
