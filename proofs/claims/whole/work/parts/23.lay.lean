/-! what is told, laid out: kinds of graves -/
def zst (S : XSt) (q n : Nat) : XSt := fun q' => if q' = q then (fun i => if i < n then 0 else S q i) else S q'
def setK (S : XSt) (q n : Nat) (f : Nat → Nat) : XSt := fun q' => if q' = q then (fun i => if i < n then nI (f i) else S q i) else S q'
theorem setK_ne {S : XSt} {q n : Nat} {f : Nat → Nat} {q' : Nat} (h : q' ≠ q) : setK S q n f q' = S q' := by unfold setK; rw [if_neg h]
theorem setK_in {S : XSt} {q n : Nat} {f : Nat → Nat} {i : Nat} (h : i < n) : setK S q n f q i = nI (f i) := by unfold setK; rw [if_pos rfl]; show (if i < n then _ else _) = _; rw [if_pos h]
theorem setK_put (S : XSt) (q n : Nat) (f : Nat → Nat) {i : Nat} (hi : i < n) (v : Nat) : xst (setK S q n f) q i (nI v) = setK S q n (fun j => if j = i then v else f j) := by
  funext q' j
  unfold xst
  by_cases h : q' = q
  · rw [if_pos h, h]
    unfold setK upd
    rw [if_pos rfl, if_pos rfl]
    show (if j = i then nI v else if j < n then nI (f j) else S q j) = (if j < n then nI (if j = i then v else f j) else S q j)
    by_cases hj : j = i
    · rw [if_pos hj, hj, if_pos hi, if_pos rfl]
    · rw [if_neg hj, if_neg hj]
  · rw [if_neg h, setK_ne h, setK_ne h]
theorem zst_succ (S : XSt) (q n : Nat) : xst (zst S q n) q n 0 = zst S q (n + 1) := by
  funext q' j
  unfold xst
  by_cases h : q' = q
  · rw [if_pos h, h]
    unfold zst upd
    rw [if_pos rfl, if_pos rfl]
    show (if j = n then 0 else if j < n then 0 else S q j) = (if j < n + 1 then 0 else S q j)
    by_cases hj : j = n
    · rw [if_pos hj, if_pos (by omega)]
    · rw [if_neg hj]
      by_cases h2 : j < n
      · rw [if_pos h2, if_pos (by omega)]
      · rw [if_neg h2, if_neg (by omega)]
  · rw [if_neg h]; unfold zst; rw [if_neg h, if_neg h]
theorem zst_0 (S : XSt) (q : Nat) : zst S q 0 = S := by
  funext q' j
  unfold zst
  by_cases h : q' = q
  · rw [if_pos h, h]; rfl
  · rw [if_neg h]
theorem zst_setK (S : XSt) (q n : Nat) : zst S q n = setK S q n (fun _ => 0) := rfl
theorem layN_stop {tm gr kd hs : Nat → Nat} {ao j z : Nat} (hj : j ≤ z) (h : ∀ i, j ≤ i → i < z → ao < tm i) : layN tm gr kd hs ao z = layN tm gr kd hs ao j := by
  induction z with
  | zero => rw [show j = 0 by omega]
  | succ z ih =>
    by_cases e : j = z + 1
    · rw [e]
    · have hz : ao < tm z := h z (by omega) (by omega)
      have : layN tm gr kd hs ao (z + 1) = layN tm gr kd hs ao z := by
        show (if tm z ≤ ao then _ else _) = _
        rw [if_neg (by omega)]
      rw [this]
      exact ih (by omega) (fun i h1 h2 => h i h1 (by omega))
theorem layN_congr {tm gr kd hs tm' gr' kd' hs' : Nat → Nat} {ao z : Nat} (h : ∀ i, i < z → tm i = tm' i ∧ gr i = gr' i ∧ kd i = kd' i ∧ hs i = hs' i) : layN tm gr kd hs ao z = layN tm' gr' kd' hs' ao z := by
  induction z with
  | zero => rfl
  | succ z ih =>
    have := ih (fun i hi => h i (by omega))
    obtain ⟨e1, e2, e3, e4⟩ := h z (by omega)
    show (if tm z ≤ ao then _ else _) = (if tm' z ≤ ao then _ else _)
    rw [this, e1, e2, e3, e4]
theorem layN_lt {tm gr kd hs : Nat → Nat} {ao z : Nat} (h : ∀ i, i < z → kd i < 10) (g : Nat) : layN tm gr kd hs ao z g < 2 ^ 10 := by
  induction z generalizing g with
  | zero => exact Nat.pow_pos (by decide)
  | succ z ih =>
    have ih := ih (fun i hi => h i (by omega))
    show (if tm z ≤ ao then (fun g => if g = gr z then (if hs z = 1 then layN tm gr kd hs ao z g ||| 2 ^ kd z else andn (layN tm gr kd hs ao z g) (2 ^ kd z)) else layN tm gr kd hs ao z g) else layN tm gr kd hs ao z) g < 2 ^ 10
    by_cases h1 : tm z ≤ ao
    · rw [if_pos h1]
      show (if g = gr z then (if hs z = 1 then layN tm gr kd hs ao z g ||| 2 ^ kd z else andn (layN tm gr kd hs ao z g) (2 ^ kd z)) else layN tm gr kd hs ao z g) < 2 ^ 10
      by_cases h2 : g = gr z
      · rw [if_pos h2]
        by_cases h3 : hs z = 1
        · rw [if_pos h3]; exact Nat.or_lt_two_pow (ih g) (two_lt (h z (by omega)))
        · rw [if_neg h3]; exact andn_lt (ih g)
      · rw [if_neg h2]; exact ih g
    · rw [if_neg h1]; exact ih g
theorem layN_succ (tm gr kd hs : Nat → Nat) (ao z : Nat) (h1 : tm z ≤ ao) : layN tm gr kd hs ao (z + 1) = fun g => if g = gr z then (if hs z = 1 then layN tm gr kd hs ao z g ||| 2 ^ kd z else andn (layN tm gr kd hs ao z g) (2 ^ kd z)) else layN tm gr kd hs ao z g := by
  show (if tm z ≤ ao then _ else _) = _
  rw [if_pos h1]
theorem layN_skip (tm gr kd hs : Nat → Nat) (ao z : Nat) (h1 : ¬ tm z ≤ ao) : layN tm gr kd hs ao (z + 1) = layN tm gr kd hs ao z := by
  show (if tm z ≤ ao then _ else _) = _
  rw [if_neg h1]
/-- what a row of tellings is -/
def tels (times graves kinds there : Nat → Int32) (z : Nat) : Prop := z ≤ 60 ∧ (∀ i, i < 60 → bd (times i) 999 ∧ bd (graves i) 7 ∧ bd (kinds i) 9 ∧ bd (there i) 1) ∧ ∀ i j, i ≤ j → j < z → xti (times i) ≤ xti (times j)
def layT (S : XSt) (ao j : Nat) : Nat → Nat := layN (fun i => xti (S 12 i)) (fun i => xti (S 13 i)) (fun i => xti (S 14 i)) (fun i => xti (S 15 i)) ao j
theorem layInto_a (S : XSt) (x : Int32) (k : XSt → Option XSt) : xlp (fun k rc t => B_X0_layInto_2 10 8 x k rc t.1 t.2) k XFU (0, S) = k (zst S 10 8) := by
  obtain ⟨e, he, h1⟩ := xlp_for (Bd := fun k rc t => B_X0_layInto_2 10 8 x k rc t.1 t.2) (k := k) (fun m t => ∃ j, j + m = 8 ∧ t = (nI j, zst S 10 j)) (fun e => e = zst S 10 8) (by
    intro m t rc ht
    obtain ⟨j, hj, rfl⟩ := ht
    by_cases hj8 : j = 8
    · refine Or.inl ⟨zst S 10 j, by rw [hj8], ?_⟩
      show B_X0_layInto_2 10 8 x k rc (nI j) (zst S 10 j) = _
      unfold B_X0_layInto_2
      rw [if_pos (show (8 : Int32) ≤ nI j from nI_le (a := 8) (by omega) (by omega))]
    · refine Or.inr ⟨m - 1, (nI (j + 1), zst S 10 (j + 1)), by omega, ⟨j + 1, by omega, rfl⟩, ?_⟩
      show B_X0_layInto_2 10 8 x k rc (nI j) (zst S 10 j) = _
      unfold B_X0_layInto_2
      rw [if_neg (show ¬ (8 : Int32) ≤ nI j from nI_ge (b := 8) (by omega) (by decide)), if_pos (xin_nI (by omega) (by decide))]
      simp only [xlet]
      rw [xti_nI (by omega), zst_succ, nI_1]) (m := 8) (t := (0, S)) ⟨0, rfl, by rw [zst_0]; rfl⟩ (n := XFU) (by rw [XFU_eq]; omega)
  rw [h1, he]
set_option maxHeartbeats 1000000 in
theorem layInto_b {S : XSt} {z ao : Nat} (hz : S 3 4 = nI z) (hT : tels (S 12) (S 13) (S 14) (S 15) z) (hao : ao ≤ 999) (k : XSt → Option XSt) : xlp (fun k rc t => B_X0_layInto_20 10 8 (nI ao) k rc t.1 t.2) k XFU (0, zst S 10 8) = k (setK S 10 8 (layT S ao z)) := by
  obtain ⟨hz60, hT1, hT2⟩ := hT
  obtain ⟨e, he, h1⟩ := xlp_for (Bd := fun k rc t => B_X0_layInto_20 10 8 (nI ao) k rc t.1 t.2) (k := k) (fun m t => ∃ j, j + m = z ∧ t = (nI j, setK S 10 8 (layT S ao j))) (fun e => e = setK S 10 8 (layT S ao z)) (by
    intro m t rc ht
    obtain ⟨j, hj, rfl⟩ := ht
    by_cases hjz : j = z
    · refine Or.inl ⟨setK S 10 8 (layT S ao j), by rw [hjz], ?_⟩
      show B_X0_layInto_20 10 8 (nI ao) k rc (nI j) (setK S 10 8 (layT S ao j)) = _
      unfold B_X0_layInto_20
      rw [setK_ne (q := 10) (by decide), hz, if_pos (nI_le (by omega) (by omega))]
    · have hlt : j < z := by omega
      obtain ⟨b1, b2, b3, b4⟩ := hT1 j (by omega)
      have hx60 : xin (nI j) 60 = true := xin_nI (by omega) (by decide)
      have hjx : xti (nI j) = j := xti_nI (by omega)
      by_cases hta : xti (S 12 j) ≤ ao
      · refine Or.inr ⟨m - 1, (nI (j + 1), setK S 10 8 (layT S ao (j + 1))), by omega, ⟨j + 1, by omega, rfl⟩, ?_⟩
        show B_X0_layInto_20 10 8 (nI ao) k rc (nI j) (setK S 10 8 (layT S ao j)) = _
        unfold B_X0_layInto_20
        have hk31 : xti (S 14 j) < 31 := by have := b3.2; omega
        have hg8 : xti (S 13 j) < 8 := by have := b2.2; omega
        have hgin : xin (S 13 j) 8 = true := xin_bd b2 (by decide) (by decide)
        have e14 : (1 : Int32) <<< (S 14 j &&& 31) = nI (2 ^ xti (S 14 j)) := by
          have := nI_shl1 hk31; rw [← b3.1] at this; exact this
        have hna : ¬ nI ao < S 12 j := by rw [b1.1]; exact nI_nlt hta (by omega)
        rw [setK_ne (q := 10) (q' := 3) (by decide), setK_ne (q := 10) (q' := 12) (by decide), setK_ne (q := 10) (q' := 13) (by decide), setK_ne (q := 10) (q' := 14) (by decide), setK_ne (q := 10) (q' := 15) (by decide), hz, if_neg (nI_ge hlt (by omega)), if_pos hx60, hjx, if_neg hna, if_pos hx60]
        simp only [xlet]
        rw [if_pos hx60, if_pos hgin, if_pos hx60, if_pos hx60, if_pos hgin, if_pos hgin]
        rw [setK_in hg8, show layT S ao (j + 1) = _ from layN_succ _ _ _ _ _ _ hta, e14]
        by_cases hh : xti (S 15 j) = 1
        · have : ¬ S 15 j = 0 := by rw [b4.1, hh]; decide
          rw [if_neg this, nI_or, setK_put S 10 8 _ hg8, nI_1]
          simp only [if_pos hh]
          congr 3
          funext g
          by_cases hg : g = xti (S 13 j)
          · rw [if_pos hg, if_pos hg, hg]; rfl
          · rw [if_neg hg, if_neg hg]; rfl
        · have : S 15 j = 0 := by rw [b4.1]; have := b4.2; rw [show xti (S 15 j) = 0 by omega]; rfl
          rw [if_pos this, nI_andn, setK_put S 10 8 _ hg8, nI_1]
          simp only [if_neg hh]
          congr 3
          funext g
          by_cases hg : g = xti (S 13 j)
          · rw [if_pos hg, if_pos hg, hg]; rfl
          · rw [if_neg hg, if_neg hg]; rfl
      · refine Or.inl ⟨setK S 10 8 (layT S ao j), ?_, ?_⟩
        · rw [show layT S ao z = layT S ao j from layN_stop (j := j) (z := z) (by omega) (fun i h1 h2 => by have := hT2 j i h1 h2; show ao < xti (S 12 i); omega)]
        · show B_X0_layInto_20 10 8 (nI ao) k rc (nI j) (setK S 10 8 (layT S ao j)) = _
          unfold B_X0_layInto_20
          have hya : nI ao < S 12 j := by rw [b1.1]; exact nI_lt (by omega) (by have := b1.2; omega)
          rw [setK_ne (q := 10) (q' := 3) (by decide), setK_ne (q := 10) (q' := 12) (by decide), hz, if_neg (nI_ge hlt (by omega)), if_pos hx60, hjx, if_pos hya]) (m := z) (t := (0, zst S 10 8)) ⟨0, by omega, rfl⟩ (n := XFU) (by rw [XFU_eq]; omega)
  rw [h1, he]
theorem layInto_eq {S : XSt} {z ao : Nat} (hz : S 3 4 = nI z) (hT : tels (S 12) (S 13) (S 14) (S 15) z) (hao : ao ≤ 999) : F_X0_layInto S 10 8 (nI ao) = some (setK S 10 8 (layT S ao z)) := by
  unfold F_X0_layInto
  rw [layInto_a, layInto_b hz hT hao]
