/-! THE REFERENCE: the next order in its row -/
def dI (k : Nat) : Int32 := nI k - 1
theorem dI_succ (k : Nat) : dI (k + 1) = nI k := nI_sub1 k
theorem dI_neg : dI 0 < 0 := by decide
theorem sub2 (m : Nat) : nI (m + 1) - (2 : Int32) = dI m := by
  unfold dI
  rw [nI_succ, Int32.sub_eq_add_neg, Int32.add_assoc, Int32.sub_eq_add_neg]
  rfl
theorem dI_m1 (k : Nat) : dI (k + 1) + (-1) = dI k := by
  rw [dI_succ]
  exact (Int32.sub_eq_add_neg _ _).symm
theorem ix_right {u w : List Nat} {i : Nat} (h : u.length ≤ i) : ix (u ++ w) i = ix w (i - u.length) := by
  unfold ix
  rw [List.getD_eq_getElem?_getD, List.getD_eq_getElem?_getD, List.getElem?_append_right h]
theorem ix_cons (v : Nat) (w : List Nat) (i : Nat) : ix (v :: w) (i + 1) = ix w i := rfl
theorem ix_repl (u w : List Nat) (v v' : Nat) {i : Nat} (h : i ≠ u.length) : ix (u ++ v :: w) i = ix (u ++ v' :: w) i := by
  rcases Nat.lt_or_ge i u.length with h1 | h1
  · rw [ix_app h1, ix_app h1]
  · obtain ⟨j, hj⟩ : ∃ j, i - u.length = j + 1 := ⟨i - u.length - 1, by omega⟩
    rw [ix_right h1, ix_right h1, hj, ix_cons, ix_cons]
theorem ix_rev {l : List Nat} {i : Nat} (h : i < l.length) : ix l.reverse i = ix l (l.length - 1 - i) := by
  unfold ix
  rw [List.getD_eq_getElem?_getD, List.getD_eq_getElem?_getD, List.getElem?_reverse h]
theorem desc_ix {l : List Nat} (hd : Desc l) {i j : Nat} (hij : i < j) (hj : j < l.length) : ix l j < ix l i := by
  rw [ix_get hj, ix_get (show i < l.length by omega)]
  exact List.pairwise_iff_getElem.mp hd i j (by omega) hj hij
theorem turns_desc {U : XSr} {p : List Nat} {n : Nat} (h0 : U.1 0 0 = nI n) (hn : n ≤ 8) (hl : p.length = n) (h8 : ∀ g ∈ p, g < n) (hc : ∀ i, i < n → U.1 15 i = nI (ix p i)) (hd : Desc p) : F_X7_turns U = some (0, U) := by
  unfold F_X7_turns
  rw [h0, xlet_eq]
  cases n with
  | zero =>
    refine xlp_Q (Q := fun o => o = some ((0 : Int32), U)) (I := fun _ t => t = nI 0 - 2) 0 0 (by omega) (by omega) rfl (fun j t rc h1 h2 _ => by omega) ?_
    rintro _ rc rfl
    show B_X7_turns_7 U _ rc (nI 0 - 2) = _
    unfold B_X7_turns_7
    rw [if_pos (by decide)]
    exact if_neg (show ¬ (0 : Int32) ≤ nI 0 - 2 by decide)
  | succ m =>
    rw [sub2]
    refine xlp_Q (Q := fun o => o = some ((0 : Int32), U)) (I := fun j t => t = dI (m - j)) 0 m (by omega) (by omega) rfl ?_ ?_
    · rintro j _ rc - hj rfl
      right
      obtain ⟨i, hi⟩ : ∃ i, m - j = i + 1 := ⟨m - j - 1, by omega⟩
      have hi' : m - (j + 1) = i := by omega
      have hlt : ix p (i + 1) < ix p i := desc_ix hd (by omega) (by omega)
      have h88 := h8 _ (ix_mem (p := p) (i := i) (by omega))
      refine ⟨dI (m - (j + 1)), rfl, ?_⟩
      rw [hi', hi]
      show B_X7_turns_7 U _ rc (dI (i + 1)) = _
      unfold B_X7_turns_7
      have hm1 := dI_m1 i
      rw [dI_succ] at hm1 ⊢
      rw [if_neg (nI_pos (by omega)), if_pos (xin_nI (by omega) (by decide)), nI_1, if_pos (xin_nI (by omega) (by decide)), xti_nI (by omega), xti_nI (by omega), hc i (by omega), hc (i + 1) (by omega), if_neg (fun q => absurd ((nI_leI (by omega) (by omega)).mp q) (by omega)), xlet_eq, hm1]
    · rintro _ rc rfl
      show B_X7_turns_7 U _ rc (dI (m - m)) = _
      unfold B_X7_turns_7
      rw [Nat.sub_self, if_pos dI_neg]
      exact if_neg (show ¬ (0 : Int32) ≤ dI 0 by decide)
/-- the part behind is turned round -/
theorem turn_rev {U : XSr} {n lo : Nat} (hn : n ≤ 8) (hlo : lo < n) (K : XSr → Option (Int32 × XSr)) (Q : Option (Int32 × XSr) → Prop) (hk : ∀ V : XSr, (∀ q, q ≠ 15 → V.1 q = U.1 q) → V.2 = U.2 → (∀ i, i < n → V.1 15 i = if lo ≤ i then U.1 15 (lo + (n - 1) - i) else U.1 15 i) → Q (K V)) : Q (xlp (fun k rc t => B_X7_turns_107 k rc t.1 t.2.1 t.2.2) K XFU (nI lo, nI (n - 1), U)) := by
  refine xlp_Q (Q := Q) (I := fun r t => ∃ V : XSr, t = (nI (lo + r), nI (n - 1 - r), V) ∧ (∀ q, q ≠ 15 → V.1 q = U.1 q) ∧ V.2 = U.2 ∧ ∀ i, i < n → V.1 15 i = if (lo ≤ i ∧ i < lo + r) ∨ (n - 1 - r < i ∧ lo ≤ i) then U.1 15 (lo + (n - 1) - i) else U.1 15 i) 0 ((n - lo) / 2) (by omega) (by omega) ⟨U, rfl, fun _ _ => rfl, rfl, fun i hi => by rw [if_neg (by omega)]⟩ ?_ ?_
  · rintro r _ rc - hr ⟨V, rfl, vfr, v2, vce⟩
    right
    have hlt : lo + r < n - 1 - r := by omega
    obtain ⟨h, hh⟩ : ∃ h, n - 1 - r = h + 1 := ⟨n - 1 - r - 1, by omega⟩
    have e1 := vce (lo + r) (by omega)
    have e2 := vce (n - 1 - r) (by omega)
    rw [if_neg (by omega)] at e1 e2
    refine ⟨(nI (lo + (r + 1)), nI (n - 1 - (r + 1)), xsr (xsr V 15 (lo + r) (V.1 15 (n - 1 - r))) 15 (n - 1 - r) (V.1 15 (lo + r))), ⟨_, rfl, fun q hq => ?_, v2, fun i hi => ?_⟩, ?_⟩
    · rw [xsr_1, xsr_1, xst_ne _ _ _ hq, xst_ne _ _ _ hq]; exact vfr q hq
    · rw [xsr_1, xsr_1, xst_at, xst_at]
      by_cases h1 : i = n - 1 - r
      · rw [if_pos h1, if_pos (by omega), e1, show lo + (n - 1) - i = lo + r by omega]
      · rw [if_neg h1]
        by_cases h2 : i = lo + r
        · rw [if_pos h2, if_pos (by omega), e2, show lo + (n - 1) - i = n - 1 - r by omega]
        · rw [if_neg h2, vce i hi]
          by_cases h3 : (lo ≤ i ∧ i < lo + r) ∨ (n - 1 - r < i ∧ lo ≤ i)
          · rw [if_pos h3, if_pos (by omega)]
          · rw [if_neg h3, if_neg (by omega)]
    · show B_X7_turns_107 _ rc (nI (lo + r)) (nI (n - 1 - r)) V = _
      unfold B_X7_turns_107
      rw [if_neg (fun q => absurd ((nI_leI (by omega) (by omega)).mp q) (by omega)), if_pos (xin_nI (by omega) (by decide))]
      have hx : xin (nI (n - 1 - r)) 8 = true := xin_nI (by omega) (by decide)
      have hy : xin (nI (lo + r)) 8 = true := xin_nI (by omega) (by decide)
      simp only [xlet_eq, hx, hy, ↓reduceIte]
      rw [xti_nI (by omega), xti_nI (by omega), nI_1, hh, pk_m1, show n - 1 - (r + 1) = h by omega, show lo + r + 1 = lo + (r + 1) by omega]
  · rintro _ rc ⟨V, rfl, vfr, v2, vce⟩
    have : B_X7_turns_107 K rc (nI (lo + (n - lo) / 2)) (nI (n - 1 - (n - lo) / 2)) V = K V := by
      unfold B_X7_turns_107
      rw [if_pos ((nI_leI (by omega) (by omega)).mpr (by omega))]
    show Q (B_X7_turns_107 K rc (nI (lo + (n - lo) / 2)) (nI (n - 1 - (n - lo) / 2)) V)
    rw [this]
    refine hk V vfr v2 (fun i hi => ?_)
    rw [vce i hi]
    by_cases h1 : lo ≤ i
    · rw [if_pos h1]
      by_cases h2 : (lo ≤ i ∧ i < lo + (n - lo) / 2) ∨ (n - 1 - (n - lo) / 2 < i ∧ lo ≤ i)
      · rw [if_pos h2]
      · rw [if_neg h2, show lo + (n - 1) - i = i by omega]
    · rw [if_neg h1, if_neg (by omega)]
theorem turns_nx {U : XSr} {p p' : List Nat} {n : Nat} (h0 : U.1 0 0 = nI n) (hn : n ≤ 8) (hl : p.length = n) (h8 : ∀ g ∈ p, g < n) (hc : ∀ i, i < n → U.1 15 i = nI (ix p i)) (hx : NX p p') : ∃ U' : XSr, F_X7_turns U = some (1, U') ∧ (∀ q, q ≠ 15 → U'.1 q = U.1 q) ∧ U'.2 = U.2 ∧ ∀ i, i < n → U'.1 15 i = nI (ix p' i) := by
  obtain ⟨q, x, d1, y, d2, ep, hd, hxy, hd2, ep'⟩ := hx
  have hlen : q.length + 1 + (d1.length + 1 + d2.length) = n := by
    rw [← hl, ep]; simp; omega
  have hpa : ix p q.length = x := by rw [ep]; exact ix_mid _ _ _
  have hpb : ix p (q.length + 1 + d1.length) = y := by
    have e : q ++ x :: (d1 ++ y :: d2) = (q ++ x :: d1) ++ y :: d2 := by simp
    rw [ep, e]
    have := ix_mid (q ++ x :: d1) d2 y
    rw [show (q ++ x :: d1).length = q.length + 1 + d1.length by simp; omega] at this
    exact this
  have hsuf : ∀ i, q.length < i → ix p i = ix (d1 ++ y :: d2) (i - q.length - 1) := by
    intro i hi
    obtain ⟨j, hj⟩ : ∃ j, i - q.length = j + 1 := ⟨i - q.length - 1, by omega⟩
    rw [ep, ix_right (by omega), hj, ix_cons]; rfl
  have hdl : (d1 ++ y :: d2).length = d1.length + 1 + d2.length := by simp; omega
  have hfirst : x < ix p (q.length + 1) := by
    rw [hsuf _ (by omega), show q.length + 1 - q.length - 1 = 0 by omega]
    by_cases e : d1.length = 0
    · rw [List.length_eq_zero_iff.mp e]; exact hxy
    · have h1 := desc_ix hd (i := 0) (j := d1.length) (by omega) (by omega)
      rw [ix_mid] at h1
      omega
  have hbeh : ∀ i, q.length + 1 + d1.length < i → i < n → ix p i < x := by
    intro i h1 h2
    rw [hsuf i (by omega)]
    obtain ⟨j, hj⟩ : ∃ j, i - q.length - 1 - d1.length = j + 1 := ⟨i - q.length - 1 - d1.length - 1, by omega⟩
    rw [ix_right (by omega), hj, ix_cons]
    exact hd2 _ (ix_mem (by omega))
  have hb8 : ∀ i, i < n → ix p i < n := fun i hi => h8 _ (ix_mem (by omega))
  have e2 : nI n - (2 : Int32) = dI (n - 1) := by
    obtain ⟨m, em⟩ : ∃ m, n = m + 1 := ⟨n - 1, by omega⟩
    rw [em, sub2]; rfl
  have e1 : nI n - (1 : Int32) = nI (n - 1) := pk_sub (b := 1) (by omega)
  obtain ⟨a, ea⟩ : ∃ a, q.length = a := ⟨_, rfl⟩
  obtain ⟨b, eb⟩ : ∃ b, q.length + 1 + d1.length = b := ⟨_, rfl⟩
  rw [eb] at hpb hbeh
  rw [ea] at hpa hfirst
  have han : a + 1 < n := by omega
  have hbn : b < n := by omega
  have hab : a < b := by omega
  unfold F_X7_turns
  rw [h0, xlet_eq, e2, e1]
  refine xlp_Q (Q := fun o => ∃ U' : XSr, o = some (1, U') ∧ (∀ q, q ≠ 15 → U'.1 q = U.1 q) ∧ U'.2 = U.2 ∧ ∀ i, i < n → U'.1 15 i = nI (ix p' i)) (I := fun j t => t = dI (n - 1 - j)) 0 (n - 2 - a) (by omega) (by omega) rfl ?_ ?_
  · rintro j _ rc - hj rfl
    right
    obtain ⟨i, hi⟩ : ∃ i, n - 1 - j = i + 1 := ⟨n - 1 - j - 1, by omega⟩
    have hi' : n - 1 - (j + 1) = i := by omega
    have hlt : ix p (i + 1) < ix p i := by
      rw [hsuf i (by omega), hsuf (i + 1) (by omega)]
      exact desc_ix hd (by omega) (by omega)
    have h88 := hb8 i (by omega)
    refine ⟨dI (n - 1 - (j + 1)), rfl, ?_⟩
    rw [hi', hi]
    show B_X7_turns_7 U _ rc (dI (i + 1)) = _
    unfold B_X7_turns_7
    have hm1 := dI_m1 i
    rw [dI_succ] at hm1 ⊢
    rw [if_neg (nI_pos (by omega)), if_pos (xin_nI (by omega) (by decide)), nI_1, if_pos (xin_nI (by omega) (by decide)), xti_nI (by omega), xti_nI (by omega), hc i (by omega), hc (i + 1) (by omega), if_neg (fun q => absurd ((nI_leI (by omega) (by omega)).mp q) (by omega)), xlet_eq, hm1]
  · rintro _ rc rfl
    rw [show n - 1 - (n - 2 - a) = a + 1 by omega, dI_succ]
    unfold B_X7_turns_7
    have h88 := hb8 (a + 1) (by omega)
    rw [if_neg (nI_pos (by omega)), if_pos (xin_nI (by omega) (by decide)), nI_1, if_pos (xin_nI (by omega) (by decide)), xti_nI (by omega), xti_nI (by omega), hc a (by omega), hc (a + 1) (by omega), if_pos ((nI_leI (by omega) (by omega)).mpr (by omega))]
    simp only [xlet_eq]
    rw [if_pos (nI_pos' (by omega))]
    refine xlp_Q (Q := fun o => ∃ U' : XSr, o = some (1, U') ∧ (∀ q, q ≠ 15 → U'.1 q = U.1 q) ∧ U'.2 = U.2 ∧ ∀ i, i < n → U'.1 15 i = nI (ix p' i)) (I := fun j t => t = nI (n - 1 - j)) 0 (n - 1 - b) (by omega) (by omega) rfl ?_ ?_
    · rintro j _ rc' - hj rfl
      right
      obtain ⟨i, hi⟩ : ∃ i, n - 1 - j = i + 1 := ⟨n - 1 - j - 1, by omega⟩
      have hlt := hbeh (i + 1) (by omega) (by omega)
      have h88 := hb8 a (by omega)
      refine ⟨nI (n - 1 - (j + 1)), rfl, ?_⟩
      rw [show n - 1 - (j + 1) = i by omega, hi]
      show B_X7_turns_47 U (nI a) _ rc' (nI (i + 1)) = _
      unfold B_X7_turns_47
      rw [if_pos (xin_nI (by omega) (by decide)), if_pos (xin_nI (by omega) (by decide)), xti_nI (by omega), xti_nI (by omega), hc a (by omega), hc (i + 1) (by omega), if_neg (fun q => absurd ((nI_leI (by omega) (by omega)).mp q) (by omega)), xlet_eq, pk_m1]
    · rintro _ rc' rfl
      rw [show n - 1 - (n - 1 - b) = b by omega]
      unfold B_X7_turns_47
      have h88 := hb8 b (by omega)
      rw [if_pos (xin_nI (by omega) (by decide)), if_pos (xin_nI (by omega) (by decide)), xti_nI (by omega), xti_nI (by omega), hc a (by omega), hc b (by omega), if_pos ((nI_leI (by omega) (by omega)).mpr (by omega))]
      have hxa : xin (nI a) 8 = true := xin_nI (by omega) (by decide)
      have hxb : xin (nI b) 8 = true := xin_nI (by omega) (by decide)
      simp only [hxa, hxb, ↓reduceIte]
      rw [nI_1, xti_nI (show b < 2 ^ 31 by omega), hc b (by omega), show (xsr (xsr U 15 a (nI (ix p b))) 15 b (nI (ix p a))).1 0 0 = U.1 0 0 from rfl, h0, e1]
      refine turn_rev hn han _ (fun o => ∃ U' : XSr, o = some (1, U') ∧ (∀ q, q ≠ 15 → U'.1 q = U.1 q) ∧ U'.2 = U.2 ∧ ∀ i, i < n → U'.1 15 i = nI (ix p' i)) (fun V vfr v2 vce => ?_)
      refine ⟨V, rfl, fun q hq => ?_, v2, fun i hi => ?_⟩
      · rw [vfr q hq, xsr_1, xsr_1, xst_ne _ _ _ hq, xst_ne _ _ _ hq]
      · have hsw : ∀ i, i < n → (xsr (xsr U 15 a (nI (ix p b))) 15 b (nI (ix p a))).1 15 i = nI (ix (q ++ y :: (d1 ++ x :: d2)) i) := by
          intro i hi
          have es : q ++ y :: (d1 ++ x :: d2) = (q ++ y :: d1) ++ x :: d2 := by simp
          have hql : (q ++ y :: d1).length = b := by rw [← eb]; simp; omega
          rw [xsr_1, xsr_1, xst_at, xst_at]
          by_cases h1 : i = b
          · rw [if_pos h1, hpa, es, h1, ← hql, ix_mid]
          · rw [if_neg h1]
            by_cases h2 : i = a
            · rw [if_pos h2, hpb, h2, ← ea, ix_mid]
            · rw [if_neg h2, hc i hi, es, ix_repl (q ++ y :: d1) d2 x y (by omega), ep, ← ix_repl q (d1 ++ y :: d2) y x (by omega)]
              simp
        have ep2 : p' = q ++ y :: (d1 ++ x :: d2).reverse := by rw [ep']; simp
        rw [vce i hi, ep2]
        by_cases h1 : a + 1 ≤ i
        · rw [if_pos h1, hsw _ (by omega)]
          obtain ⟨j, hj⟩ : ∃ j, i - q.length = j + 1 := ⟨i - q.length - 1, by omega⟩
          have hml : (d1 ++ x :: d2).length = d1.length + 1 + d2.length := by simp; omega
          obtain ⟨j', hj'⟩ : ∃ j', a + 1 + (n - 1) - i - q.length = j' + 1 := ⟨a + 1 + (n - 1) - i - q.length - 1, by omega⟩
          rw [ix_right (show q.length ≤ i by omega), hj, ix_cons, ix_rev (by omega), ix_right (show q.length ≤ a + 1 + (n - 1) - i by omega), hj', ix_cons, show (d1 ++ x :: d2).length - 1 - j = j' by omega]
        · rw [if_neg h1, hsw i hi]
          by_cases h2 : i = a
          · rw [h2, ← ea, ix_mid, ix_mid]
          · rw [ix_app (by omega), ix_app (by omega)]
