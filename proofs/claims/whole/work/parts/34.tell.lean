/-! telling -/
def kC (S : XSt) (z : Nat) (a b c d : Int32) : XSt := xst (xst (xst (xst (xst S 12 z a) 13 z b) 14 z c) 15 z d) 3 4 (nI (z + 1))
def kR (U : XSr) (z : Nat) (a b c d : Int32) : XSr := xsr (xsr (xsr (xsr (xsr (xsr U 6 z b) 7 z c) 8 z d) 9 z a) 0 8 (nI (z + 1))) 0 14 0
theorem nar_b {h : Nat} (hh : h ≤ 1) : vp_nar .boolean (nI h) = nI h := by
  have : h = 0 ∨ h = 1 := by omega
  rcases this with rfl | rfl <;> decide
theorem keep_in {S : XSt} {z h : Nat} (hz : S 3 4 = nI z) (hz60 : z < 60) (hh : h ≤ 1) (a b c : Int32) : F_X0_keep S a b c (nI h) = some (1, kC S z a b c (nI h)) := by
  have hx : xin (S 3 4) 60 = true := by rw [hz]; exact xin_nI hz60 (by decide)
  have hzx : xti (S 3 4) = z := by rw [hz]; exact xti_nI (by omega)
  unfold F_X0_keep
  rw [if_pos (by rw [hz]; exact nI_lt (b := 60) hz60 (by decide)), if_pos hx]
  simp only [xlet]
  rw [show (xst S 12 (xti (S 3 4)) a) 3 4 = S 3 4 from rfl, if_pos hx, show (xst (xst S 12 (xti (S 3 4)) a) 13 (xti (S 3 4)) b) 3 4 = S 3 4 from rfl, if_pos hx, show (xst (xst (xst S 12 (xti (S 3 4)) a) 13 (xti (S 3 4)) b) 14 (xti (S 3 4)) c) 3 4 = S 3 4 from rfl, if_pos hx, nar_b hh, hzx]
  show some ((1 : Int32), xst (xst (xst (xst (xst S 12 z a) 13 z b) 14 z c) 15 z (nI h)) 3 4 (S 3 4 + 1)) = _
  rw [hz, nI_1]; rfl
theorem keep_full {S : XSt} (hz : S 3 4 = nI 60) (a b c d : Int32) : F_X0_keep S a b c d = some (0, S) := by
  unfold F_X0_keep
  rw [hz, if_neg (by decide)]
theorem tells_in {U : XSr} {z : Nat} (hz : U.1 0 8 = nI z) (hz60 : z < 60) (a b c d : Int32) : F_X7_tells U b c d a = some (kR U z a b c d) := by
  have hx : xin (U.1 0 8) 60 = true := by rw [hz]; exact xin_nI hz60 (by decide)
  have hzx : xti (U.1 0 8) = z := by rw [hz]; exact xti_nI (by omega)
  unfold F_X7_tells
  rw [if_pos hx]
  simp only [xlet]
  rw [show (xsr U 6 (xti (U.1 0 8)) b).1 0 8 = U.1 0 8 from rfl, if_pos hx, show (xsr (xsr U 6 (xti (U.1 0 8)) b) 7 (xti (U.1 0 8)) c).1 0 8 = U.1 0 8 from rfl, if_pos hx, show (xsr (xsr (xsr U 6 (xti (U.1 0 8)) b) 7 (xti (U.1 0 8)) c) 8 (xti (U.1 0 8)) d).1 0 8 = U.1 0 8 from rfl, if_pos hx, hzx]
  show some (xsr (xsr (xsr (xsr (xsr (xsr U 6 z b) 7 z c) 8 z d) 9 z a) 0 8 (U.1 0 8 + 1)) 0 14 0) = _
  rw [hz, nI_1]; rfl
/-- all but the kinds and the caches -/
def Pre (S : XSt) (U : XSr) : Prop := IvY S U ∧ IvW S U ∧ IvO S U ∧ IvL S U ∧ IvF S U ∧ IvA S U ∧ IvS S U
/-- no time is later than tm -/
def Tb (S : XSt) (tm : Nat) : Prop := ∀ i, i < xti (S 3 4) → xti (S 12 i) ≤ tm
theorem keep_pre {S : XSt} {U : XSr} {z tm g k h : Nat} (hP : Pre S U) (hz : S 3 4 = nI z) (hz60 : z < 60) (hT : Tb S tm) (htm : tm ≤ 999) (hg : g < xti (S 1 4)) (hk : k ≤ 9) (hh : h ≤ 1) : Pre (kC S z (nI tm) (nI g) (nI k) (nI h)) (kR U z (nI tm) (nI g) (nI k) (nI h)) ∧ Tb (kC S z (nI tm) (nI g) (nI k) (nI h)) tm ∧ xti (kC S z (nI tm) (nI g) (nI k) (nI h) 3 4) = z + 1 := by
  obtain ⟨hY, hW, hO, hL, ⟨hF1, hF2, hF3, hF4, hF5⟩, hA, hS⟩ := hP
  have hzx : xti (S 3 4) = z := by rw [hz]; exact xti_nI (by omega)
  have hz1 : xti (nI (z + 1)) = z + 1 := xti_nI (by omega)
  have hn8 : xti (S 1 4) ≤ 8 := hY.1.2
  have e12 : ∀ i, kC S z (nI tm) (nI g) (nI k) (nI h) 12 i = if i = z then nI tm else S 12 i := fun i => rfl
  have e13 : ∀ i, kC S z (nI tm) (nI g) (nI k) (nI h) 13 i = if i = z then nI g else S 13 i := fun i => rfl
  have e14 : ∀ i, kC S z (nI tm) (nI g) (nI k) (nI h) 14 i = if i = z then nI k else S 14 i := fun i => rfl
  have e15 : ∀ i, kC S z (nI tm) (nI g) (nI k) (nI h) 15 i = if i = z then nI h else S 15 i := fun i => rfl
  have f9 : ∀ i, (kR U z (nI tm) (nI g) (nI k) (nI h)).1 9 i = if i = z then nI tm else U.1 9 i := fun i => rfl
  have f6 : ∀ i, (kR U z (nI tm) (nI g) (nI k) (nI h)).1 6 i = if i = z then nI g else U.1 6 i := fun i => rfl
  have f7 : ∀ i, (kR U z (nI tm) (nI g) (nI k) (nI h)).1 7 i = if i = z then nI k else U.1 7 i := fun i => rfl
  have f8 : ∀ i, (kR U z (nI tm) (nI g) (nI k) (nI h)).1 8 i = if i = z then nI h else U.1 8 i := fun i => rfl
  refine ⟨⟨hY, hW, hO, hL, ⟨bd_nI (by omega) (by decide), rfl, fun i hi => ?_, fun i hi => ?_, fun i j hij hj => ?_⟩, hA, ?_⟩, fun i hi => ?_, hz1⟩
  · rw [e12, e13, e14, e15, f9, f6, f7, f8]
    by_cases hiz : i = z
    · simp only [if_pos hiz]
      exact ⟨trivial, trivial, trivial, trivial, bd_nI htm (by decide), bd_nI (by omega) (by decide), bd_nI hk (by decide), bd_nI hh (by decide)⟩
    · simp only [if_neg hiz]; exact hF3 i hi
  · have hi' : i < z + 1 := by have : i < xti (nI (z + 1)) := hi; rw [hz1] at this; exact this
    rw [e13]
    show xti (if i = z then nI g else S 13 i) < xti (S 1 4)
    by_cases hiz : i = z
    · rw [if_pos hiz, xti_nI (by omega)]; exact hg
    · rw [if_neg hiz]; exact hF4 i (by rw [hzx]; omega)
  · have hj' : j < z + 1 := by have : j < xti (nI (z + 1)) := hj; rw [hz1] at this; exact this
    rw [e12, e12]
    by_cases hjz : j = z
    · rw [if_pos hjz, xti_nI (by omega)]
      by_cases hiz : i = z
      · rw [if_pos hiz, xti_nI (by omega)]; exact Nat.le_refl _
      · rw [if_neg hiz]; exact hT i (by rw [hzx]; omega)
    · rw [if_neg hjz, if_neg (by omega)]
      exact hF5 i j hij (by rw [hzx]; omega)
  · intro s hs
    unfold kC kR
    rw [xst_ne _ _ _ (by omega), xst_ne _ _ _ (by omega), xst_ne _ _ _ (by omega), xst_ne _ _ _ (by omega), xst_ne _ _ _ (by omega), xst_ne _ _ _ (by omega), xst_ne _ _ _ (by omega), xst_ne _ _ _ (by omega), xst_ne _ _ _ (by omega), xst_ne _ _ _ (by omega)]
    exact hS s hs
  · have hi' : i < z + 1 := by have : i < xti (nI (z + 1)) := hi; rw [hz1] at this; exact this
    rw [e12]
    by_cases hiz : i = z
    · rw [if_pos hiz, xti_nI (by omega)]; exact Nat.le_refl _
    · rw [if_neg hiz]; exact hT i (by rw [hzx]; omega)
section Ops
variable {SC : XSt → Prop} {WR : XSr → Prop}
/-- behind a telling: the kinds are laid anew -/
theorem laid_inv {S : XSt} {U : XSr} (hP : Pre S U) (hR : IvR WR U) : ∃ S', F_X6_findsChanged S = some S' ∧ Inv SC WR S' U := by
  obtain ⟨hY, hW, hO, hL, ⟨hF1, hF2, hF3, hF4, hF5⟩, ⟨hA1, hA2, hA3⟩, hS⟩ := hP
  have hT : tels (S 12) (S 13) (S 14) (S 15) (xti (S 3 4)) := ⟨hF1.2, fun i hi => (hF3 i hi).2.2.2.2, hF5⟩
  refine ⟨_, findsChanged_eq hF1.1 hA1.1 hA1.2 hT, hY, hW, hO, hL, ⟨hF1, hF2, hF3, hF4, hF5⟩, ⟨hA1, hA2, hA3⟩, fun g hg => ?_, fun s hs => ?_, IvC.stale rfl, hR⟩
  · show setK S 10 8 (layT S (xti (S 0 6)) (xti (S 3 4))) 10 g = nI (layS S g)
    rw [setK_in hg]; rfl
  · rw [xst_ne _ _ _ (by omega), xst_ne _ _ _ (by omega), setK_ne (by omega), setK_ne (by omega)]
    exact hS s hs
theorem time_eq {S : XSt} {U : XSr} (hF : IvF S U) (x : Int32) : ∃ l, F_X7_lastTime U = some (nI l) ∧ F_X6_canTellAt S x = some (F_X6_within x (nI l) 999) ∧ l ≤ 999 ∧ Tb S l := by
  obtain ⟨hF1, hF2, hF3, hF4, hF5⟩ := hF
  obtain ⟨z, hz⟩ : ∃ z, xti (S 3 4) = z := ⟨_, rfl⟩
  have ez : S 3 4 = nI z := by rw [← hz]; exact hF1.1
  have hz60 : z ≤ 60 := by rw [← hz]; exact hF1.2
  have ez2 : U.1 0 8 = nI z := by rw [← hF2, ez]
  unfold F_X7_lastTime F_X6_canTellAt F_X0_timeBefore Tb
  rw [ez, ez2, xti_nI (show z < 2 ^ 31 by omega)]
  cases z with
  | zero =>
    rw [if_pos (by decide), if_pos (by decide)]
    exact ⟨0, rfl, rfl, by decide, fun i hi => absurd hi (Nat.not_lt_zero _)⟩
  | succ m =>
    obtain ⟨e1, e2, e3, e4, b1, b2, b3, b4⟩ := hF3 m (by omega)
    rw [if_neg (nI_ne0 (by omega) (by omega)), if_neg (nI_nle (by omega) (by omega)), nI_sub1, if_pos (xin_nI (by omega) (by decide)), if_pos (xin_nI (by omega) (by decide)), xti_nI (by omega)]
    refine ⟨xti (S 12 m), by rw [← e1, ← b1.1], by rw [Option.bind_some, ← b1.1], b1.2, fun i hi => hF5 i m (by omega) (by rw [hz]; omega)⟩
theorem Tb_mono {S : XSt} {a b : Nat} (h : Tb S a) (hab : a ≤ b) : Tb S b := fun i hi => Nat.le_trans (h i hi) hab
set_option maxHeartbeats 2000000 in
theorem st_read (hSC : SCok SC) (hWR : WRok WR) : St_read (Inv SC WR) := by
  intro S U x1 x2 x3 hI
  have hI0 := hI
  obtain ⟨hY, hW, hO, hL, hF, hA, hK, hS, hC, hR⟩ := hI
  obtain ⟨l, t1, t2, hl, hTb⟩ := time_eq hF x3
  unfold F_X6_read F_X7_read
  rw [isSheet_eq, isGrave_eq hY.2.1]
  by_cases h1 : F_X6_isSheet x1 = 0
  · rw [if_pos h1, if_pos h1]; exact ⟨_, _, _, rfl, rfl, hI0⟩
  rw [if_neg h1, if_neg h1]
  by_cases h2 : F_X6_isGrave S x2 = 0
  · rw [if_pos h2, if_pos h2]; exact ⟨_, _, _, rfl, rfl, hI0⟩
  rw [if_neg h2, if_neg h2, t1, t2, Option.bind_some, Option.bind_some, in_within]
  by_cases h3 : F_X6_within x3 (nI l) 999 = 0
  · rw [if_pos h3, if_pos h3]; exact ⟨_, _, _, rfl, rfl, hI0⟩
  rw [if_neg h3, if_neg h3]
  obtain ⟨s, rfl, hs⟩ := isSheet_n h1
  obtain ⟨g, rfl, hg⟩ := isGrave_n hY.1 h2
  obtain ⟨tm, rfl, hl2, htm⟩ := within_nI (a := l) (b := 999) (by omega) (by decide) h3
  have hx4 : xin (nI s) 4 = true := xin_nI hs (by decide)
  have hsx : xti (nI s) = s := xti_nI (by omega)
  rw [if_pos hx4, if_pos hx4, if_pos hx4, hsx]
  obtain ⟨p1, p2, p3, p4, p5, p6⟩ := hS s hs
  rcases p1 with ⟨l1, l2⟩ | ⟨l1, l2⟩
  · obtain ⟨a1, a2, aI⟩ := finding_step hSC hWR hI0 1
    rw [l1, l2, if_neg (show ¬ (1 : Int32) = 0 by decide), if_pos rfl, a1, a2]
    exact ⟨_, _, _, rfl, rfl, aI⟩
  rw [l1, l2, if_pos rfl, if_neg (show ¬ (1 : Int32) = 0 by decide)]
  obtain ⟨sz, hsz⟩ : ∃ n, xti (S (29 + s) 3) = n := ⟨_, rfl⟩
  have esz : S (29 + s) 3 = nI sz := by rw [← hsz]; exact p5.1
  have hsz40 : sz ≤ 40 := by rw [← hsz]; exact p5.2
  unfold F_X6_tellSheet
  obtain ⟨e1, e2, ⟨j, S', U', rfl, rfl, hP', hR'⟩, q1, q2⟩ := xlp_sim (Bd1 := fun k rc t => B_X6_tellSheet_6 (29 + s) (nI g) (nI tm) k rc t.1 t.2.1 t.2.2) (k1 := fun e8 : Int32 × XSt => some (e8.1, e8.2)) (Bd2 := fun k rc t => B_X7_read_50 (nI s) (nI g) (nI tm) k rc t.1 t.2) (k2 := fun e8 : Int32 × XSr => some (e8.1, e8.2)) (fun m t1 t2 => ∃ j S' U', t1 = (nI j, nI j, S') ∧ t2 = (nI j, U') ∧ j + m = 10 ∧ Pre S' U' ∧ IvR WR U' ∧ Tb S' tm ∧ S' 1 = S 1 ∧ (∀ q, 29 ≤ q → S' q = S q) ∧ (∀ q, 22 ≤ q → U'.1 q = U.1 q)) (fun e1 e2 => ∃ j S' U', e1 = (nI j, S') ∧ e2 = (nI j, U') ∧ Pre S' U' ∧ IvR WR U') (by
    intro m t1 t2 rc1 rc2 ht
    obtain ⟨j, S', U', rfl, rfl, hjm, hP', hR', hTb', hS1, hSq, hUq⟩ := ht
    have ex : ∀ (b1 : B_X6_tellSheet_6 (29 + s) (nI g) (nI tm) (fun e8 : Int32 × XSt => some (e8.1, e8.2)) rc1 (nI j) (nI j) S' = some (nI j, S')) (b2 : B_X7_read_50 (nI s) (nI g) (nI tm) (fun e8 : Int32 × XSr => some (e8.1, e8.2)) rc2 (nI j) U' = some (nI j, U')), (∃ e1 e2, (∃ j S' U', e1 = (nI j, S') ∧ e2 = (nI j, U') ∧ Pre S' U' ∧ IvR WR U') ∧ B_X6_tellSheet_6 (29 + s) (nI g) (nI tm) (fun e8 : Int32 × XSt => some (e8.1, e8.2)) rc1 (nI j) (nI j) S' = (fun e8 : Int32 × XSt => some (e8.1, e8.2)) e1 ∧ B_X7_read_50 (nI s) (nI g) (nI tm) (fun e8 : Int32 × XSr => some (e8.1, e8.2)) rc2 (nI j) U' = (fun e8 : Int32 × XSr => some (e8.1, e8.2)) e2) := fun b1 b2 => ⟨(nI j, S'), (nI j, U'), ⟨j, S', U', rfl, rfl, hP', hR'⟩, b1, b2⟩
    by_cases hj10 : j = 10
    · refine Or.inl (ex ?_ ?_)
      · unfold B_X6_tellSheet_6; rw [if_pos (show (10 : Int32) ≤ nI j from nI_le (a := 10) (by omega) (by omega))]
      · unfold B_X7_read_50; rw [if_pos (show (10 : Int32) ≤ nI j from nI_le (a := 10) (by omega) (by omega))]
    have n10 : ¬ (10 : Int32) ≤ nI j := nI_ge (b := 10) (by omega) (by decide)
    have c1 : S' (29 + s) 3 = nI sz := by rw [hSq _ (by omega)]; exact esz
    have c2 : U'.1 24 s = nI sz := by rw [hUq 24 (by decide), ← p4]; exact esz
    by_cases hjs : sz ≤ j
    · refine Or.inl (ex ?_ ?_)
      · unfold B_X6_tellSheet_6; rw [if_neg n10, c1, if_pos (nI_le hjs (by omega))]
      · unfold B_X7_read_50; rw [if_neg n10, if_pos hx4, hsx, c2, if_pos (nI_le hjs (by omega))]
    have njs : ¬ nI sz ≤ nI j := nI_ge (by omega) (by omega)
    have hxj : xin (nI j) 40 = true := xin_nI (by omega) (by decide)
    have hxj2 : xin (nI (40 * s + j)) 160 = true := xin_nI (by omega) (by decide)
    have hv : S' (33 + s) j = U'.1 25 (40 * s + j) := hP'.2.2.2.2.2.2 s hs |>.2.2.2.2.2 j (by omega)
    obtain ⟨z, hz⟩ : ∃ z, xti (S' 3 4) = z := ⟨_, rfl⟩
    have hFp := hP'.2.2.2.2.1
    have ez : S' 3 4 = nI z := by rw [← hz]; exact hFp.1.1
    have hz60 : z ≤ 60 := by rw [← hz]; exact hFp.1.2
    have ez2 : U'.1 0 8 = nI z := by rw [← hFp.2.1, ez]
    have hB1 : B_X6_tellSheet_6 (29 + s) (nI g) (nI tm) (fun e8 : Int32 × XSt => some (e8.1, e8.2)) rc1 (nI j) (nI j) S' = (if (F_X6_within (S' (33 + s) j) 0 1) = 0 then some (nI j, S') else (if S' (33 + s) j = 1 then ((F_X0_keep S' (nI tm) (nI g) (nI j) 1).bind fun z5 => (if z5.1 = 0 then some (nI j, z5.2) else rc1 (nI (j + 1), nI (j + 1), z5.2))) else ((F_X0_keep S' (nI tm) (nI g) (nI j) 0).bind fun z5 => (if z5.1 = 0 then some (nI j, z5.2) else rc1 (nI (j + 1), nI (j + 1), z5.2))))) := by
      unfold B_X6_tellSheet_6
      rw [if_neg n10, c1, if_neg njs, if_pos hxj, show 29 + s + 4 = 33 + s by omega, xti_nI (by omega)]
      simp only [xlet, nI_1]
    have hB2 : B_X7_read_50 (nI s) (nI g) (nI tm) (fun e8 : Int32 × XSr => some (e8.1, e8.2)) rc2 (nI j) U' = (if 60 ≤ U'.1 0 8 then some (nI j, U') else (if (F_X6_within (U'.1 25 (40 * s + j)) 0 1) = 0 then some (nI j, U') else ((F_X7_tells U' (nI g) (nI j) (U'.1 25 (40 * s + j)) (nI tm)).bind fun z6 => rc2 (nI (j + 1), z6)))) := by
      unfold B_X7_read_50
      rw [if_neg n10, if_pos hx4, hsx, c2, if_neg njs, nI_40, if_pos hxj2, if_pos hxj2, xti_nI (show 40 * s + j < 2 ^ 31 by omega), in_within]
      simp only [xlet, nI_1]
    by_cases hw : F_X6_within (S' (33 + s) j) 0 1 = 0
    · refine Or.inl (ex (by rw [hB1, if_pos hw]) ?_)
      rw [hB2, ← hv, if_pos hw]
      by_cases h60 : (60 : Int32) ≤ U'.1 0 8
      · rw [if_pos h60]
      · rw [if_neg h60]
    · obtain ⟨v, ev, -, hv1⟩ := within_nI (a := 0) (b := 1) (by decide) (by decide) hw
      by_cases hzf : z = 60
      · refine Or.inl (ex ?_ ?_)
        · rw [hB1, if_neg hw, keep_full (by rw [ez, hzf]), keep_full (by rw [ez, hzf])]
          by_cases hone : S' (33 + s) j = 1
          · rw [if_pos hone]; rfl
          · rw [if_neg hone]; rfl
        · rw [hB2, ez2, if_pos (show (60 : Int32) ≤ nI z from nI_le (a := 60) (by omega) (by omega))]
      · have hzl : z < 60 := by omega
        obtain ⟨k1, k2, k3⟩ := keep_pre (k := j) hP' ez hzl hTb' htm (by rw [hS1]; exact hg) (show j ≤ 9 by omega) hv1
        refine Or.inr ⟨m - 1, (nI (j + 1), nI (j + 1), kC S' z (nI tm) (nI g) (nI j) (nI v)), (nI (j + 1), kR U' z (nI tm) (nI g) (nI j) (nI v)), by omega, ⟨j + 1, _, _, rfl, rfl, by omega, k1, IvR.stale rfl, k2, hS1, fun q hq => ?_, fun q hq => ?_⟩, ?_, ?_⟩
        · unfold kC
          rw [xst_ne _ _ _ (by omega), xst_ne _ _ _ (by omega), xst_ne _ _ _ (by omega), xst_ne _ _ _ (by omega), xst_ne _ _ _ (by omega)]; exact hSq q hq
        · unfold kR
          simp only [xsr_1]
          rw [xst_ne _ _ _ (by omega), xst_ne _ _ _ (by omega), xst_ne _ _ _ (by omega), xst_ne _ _ _ (by omega), xst_ne _ _ _ (by omega), xst_ne _ _ _ (by omega)]; exact hUq q hq
        · show B_X6_tellSheet_6 (29 + s) (nI g) (nI tm) (fun e8 : Int32 × XSt => some (e8.1, e8.2)) rc1 (nI j) (nI j) S' = _
          rw [hB1, if_neg hw, ev]
          have hv01 : v = 0 ∨ v = 1 := by omega
          rcases hv01 with rfl | rfl
          · rw [if_neg (by decide), show F_X0_keep S' (nI tm) (nI g) (nI j) 0 = F_X0_keep S' (nI tm) (nI g) (nI j) (nI 0) from rfl, keep_in ez hzl (by decide), Option.bind_some]
            exact if_neg (show ¬ (1 : Int32) = 0 by decide)
          · rw [if_pos (by decide), show F_X0_keep S' (nI tm) (nI g) (nI j) 1 = F_X0_keep S' (nI tm) (nI g) (nI j) (nI 1) from rfl, keep_in ez hzl (by decide), Option.bind_some]
            exact if_neg (show ¬ (1 : Int32) = 0 by decide)
        · show B_X7_read_50 (nI s) (nI g) (nI tm) (fun e8 : Int32 × XSr => some (e8.1, e8.2)) rc2 (nI j) U' = _
          rw [hB2, ez2, if_neg (show ¬ (60 : Int32) ≤ nI z from nI_ge (b := 60) hzl (by decide)), ← hv, if_neg hw, ev, tells_in ez2 hzl, Option.bind_some]) 10 (0, 0, S) (0, U) ⟨0, S, U, rfl, rfl, rfl, ⟨hY, hW, hO, hL, hF, hA, hS⟩, hR, Tb_mono hTb hl2, rfl, fun _ _ => rfl, fun _ _ => rfl⟩ XFU XFU (by rw [XFU_eq]; omega) (by rw [XFU_eq]; omega)
  rw [q1, q2, Option.bind_some]
  obtain ⟨S2, f1, hI2⟩ := laid_inv (SC := SC) hP' hR'
  simp only [xlet]
  rw [f1]
  exact ⟨_, _, _, rfl, rfl, hI2⟩
end Ops
