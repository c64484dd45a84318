def jk (g : Int32) (rc : (Int32 × Int32 × XSr) → Option (Int32 × XSr)) (y1 : Int32) (S1 : XSr) (t8 : Int32) : Option (Int32 × XSr) :=
  (xlet (y1 + ((1 : Int32) - t8)) fun v1_10 => ((F_X7_byteAt S1 v1_10).bind fun z11 => (xlet (z11 - (48 : Int32)) fun v5_12 => (if (F_X7_isKind v5_12) = 0 then (some (v1_10, S1)) else (xlet (v1_10 + 1) fun v1_13 => (if xin (S1.1 0 17) 40 = true then (xlet (xsr S1 11 (xti (S1.1 0 17)) g) fun S15 => (if xin (S15.1 0 17) 40 = true then (xlet (xsr S15 12 (xti (S15.1 0 17)) v5_12) fun S17 => (if xin (S17.1 0 17) 40 = true then (xlet (xsr S17 13 (xti (S17.1 0 17)) t8) fun S19 => (xlet (xsr S19 0 17 ((S19.1 0 17) + (1 : Int32))) fun S20 => (if v1_13 = (S20.1 0 15) then (some ((-1), S20)) else ((F_X7_byteAt S20 v1_13).bind fun z21 => (if z21 = 44 then (xlet (v1_13 + 1) fun v1_22 => rc (v1_22, z21, S20)) else (if z21 = 59 then (xlet (v1_13 + 1) fun v1_23 => rc (v1_23, z21, S20)) else (some (v1_13, S20)))))))) else none)) else none)) else none))))))
theorem B47_eq (g : Int32) (kx : (Int32 × XSr) → Option (Int32 × XSr)) (rc : (Int32 × Int32 × XSr) → Option (Int32 × XSr)) (y1 y3 : Int32) (S1 : XSr) : B_X7_faultNow_47 g kx rc y1 y3 S1 = if y3 = 44 then (F_X7_byteAt S1 y1).bind fun z7 => (if z7 = 45 then jk g rc y1 S1 0 else jk g rc y1 S1 1) else kx (y1, S1) := rfl
theorem jk_no {g : Int32} {rc : (Int32 × Int32 × XSr) → Option (Int32 × XSr)} {y1 t8 z : Int32} {S1 : XSr} (hb : F_X7_byteAt S1 (y1 + ((1 : Int32) - t8)) = some z) (hk : F_X7_isKind (z - 48) = 0) : jk g rc y1 S1 t8 = some (y1 + ((1 : Int32) - t8), S1) := by
  unfold jk
  simp only [xlet]
  rw [hb]
  simp only [Option.bind_some]
  rw [if_pos hk]
/-- one find more is said -/
def sayU (U : XSr) (s : Nat) (g k h : Int32) : XSr := xsr (xsr (xsr (xsr U 11 s g) 12 s k) 13 s h) 0 17 (nI (s + 1))
theorem jk_yes {g : Int32} {rc : (Int32 × Int32 × XSr) → Option (Int32 × XSr)} {y1 t8 : Int32} {S1 : XSr} {p c s t : Nat} (hp : y1 + ((1 : Int32) - t8) = nI p) (hb : F_X7_byteAt S1 (nI p) = some (nI c)) (hc : 48 ≤ c ∧ c ≤ 57) (hs : S1.1 0 17 = nI s) (hs40 : s < 40) (ht : S1.1 0 15 = nI t) (ht40 : t ≤ 40) (hpt : p < t) : jk g rc y1 S1 t8 = if p + 1 = t then some (-1, sayU S1 s g (nI (c - 48)) t8) else (F_X7_byteAt (sayU S1 s g (nI (c - 48)) t8) (nI (p + 1))).bind fun z21 => (if z21 = 44 then rc (nI (p + 2), z21, sayU S1 s g (nI (c - 48)) t8) else (if z21 = 59 then rc (nI (p + 2), z21, sayU S1 s g (nI (c - 48)) t8) else some (nI (p + 1), sayU S1 s g (nI (c - 48)) t8))) := by
  have hk : ¬ F_X7_isKind (nI c - 48) = 0 := by rw [isKind_c c (by omega), if_pos hc]; decide
  have hx : xin (S1.1 0 17) 40 = true := by rw [hs]; exact xin_nI hs40 (by decide)
  have hsx : xti (S1.1 0 17) = s := by rw [hs]; exact xti_nI (by omega)
  unfold jk
  simp only [xlet]
  rw [hp, hb]
  simp only [Option.bind_some]
  rw [if_neg hk, if_pos hx]
  have e1 : (xsr S1 11 (xti (S1.1 0 17)) g).1 0 17 = S1.1 0 17 := rfl
  have e2 : ∀ v, (xsr (xsr S1 11 (xti (S1.1 0 17)) g) 12 (xti (S1.1 0 17)) v).1 0 17 = S1.1 0 17 := fun _ => rfl
  rw [e1, if_pos hx, e2, if_pos hx, sub48 hc.1, nI_1, hsx]
  show (if nI (p + 1) = S1.1 0 15 then some ((-1 : Int32), xsr (xsr (xsr (xsr S1 11 s g) 12 s (nI (c - 48))) 13 s t8) 0 17 (S1.1 0 17 + 1)) else _) = _
  have e3 : xsr (xsr (xsr (xsr S1 11 s g) 12 s (nI (c - 48))) 13 s t8) 0 17 (S1.1 0 17 + 1) = sayU S1 s g (nI (c - 48)) t8 := by rw [hs, nI_1]; rfl
  rw [show (xsr (xsr (xsr S1 11 s g) 12 s (nI (c - 48))) 13 s t8).1 0 17 = S1.1 0 17 from rfl, e3, ht]
  by_cases h : p + 1 = t
  · rw [if_pos (by rw [h]), if_pos h]
  · rw [if_neg (fun q => h ((nI_eq (by omega) (by omega)).mp q)), if_neg h, nI_1]
theorem said_say {U : XSr} {l : List (Nat × Nat × Nat)} (h : said U l) (g k e : Nat) : said (sayU U l.length (nI g) (nI k) (nI e)) (l ++ [(g, k, e)]) := by
  refine ⟨by rw [List.length_append]; rfl, fun i q hq => ?_⟩
  show upd (U.1 11) l.length (nI g) i = nI q.1 ∧ upd (U.1 12) l.length (nI k) i = nI q.2.1 ∧ upd (U.1 13) l.length (nI e) i = nI q.2.2
  unfold upd
  by_cases hi : i = l.length
  · subst hi
    rw [List.getElem?_append_right (Nat.le_refl _), Nat.sub_self] at hq
    cases hq
    rw [if_pos rfl, if_pos rfl, if_pos rfl]; exact ⟨rfl, rfl, rfl⟩
  · have hlt : i < l.length := by
      have := (List.getElem?_eq_some_iff.mp hq).1
      rw [List.length_append] at this
      have : i < l.length + 1 := this
      omega
    rw [List.getElem?_append_left hlt] at hq
    rw [if_neg hi, if_neg hi, if_neg hi]
    exact h.2 i q hq
theorem scr_say {U0 U : XSr} (h : scr U0 U) (s : Nat) (g k e : Int32) : scr U0 (sayU U s g k e) := by
  refine ⟨fun q h0 h1 h2 h3 => ?_, fun j hj => ?_, h.2.2⟩
  · show xst (xst (xst (xst U.1 11 s g) 12 s k) 13 s e) 0 17 (nI (s + 1)) q = U0.1 q
    rw [xst_ne _ _ _ h0, xst_ne _ _ _ h3, xst_ne _ _ _ h2, xst_ne _ _ _ h1]; exact h.1 q h0 h1 h2 h3
  · show upd (U.1 0) 17 (nI (s + 1)) j = U0.1 0 j
    unfold upd; rw [if_neg hj]; exact h.2.1 j hj
/-- what holds of a reading under way: i bytes are read, the state is st -/
def rdg (U0 : XSr) (n t : Nat) (b : Nat → Nat) (ALL : List (Nat × Nat × Nat)) (RES : Option Nat) (U : XSr) (i st g : Nat) : Prop := i ≤ t ∧ scr U0 U ∧ ∃ acc, said U acc ∧ acc.length ≤ i ∧ acc ++ (runI n b (t - i) st i g).1 = ALL ∧ (runI n b (t - i) st i g).2 = RES
/-- and of one that has ended -/
def rde (U0 : XSr) (ALL : List (Nat × Nat × Nat)) (RES : Option Nat) (r : Int32 × XSr) : Prop := r.1 = codeF RES ∧ scr U0 r.2 ∧ (RES = none → said r.2 ALL)
theorem runI_succ {n : Nat} {b : Nat → Nat} {t i st g : Nat} (h : i < t) (h5 : fl st (b i) n ≠ 5) : runI n b (t - i) st i g = ((if fl st (b i) n = 4 then ((if st = 0 then b i - 48 else g), b i - 48, if st = 2 then 1 else 0) :: (runI n b (t - (i + 1)) (fl st (b i) n) (i + 1) (if st = 0 then b i - 48 else g)).1 else (runI n b (t - (i + 1)) (fl st (b i) n) (i + 1) (if st = 0 then b i - 48 else g)).1), (runI n b (t - (i + 1)) (fl st (b i) n) (i + 1) (if st = 0 then b i - 48 else g)).2) := by
  rw [show t - i = (t - (i + 1)) + 1 by omega]
  conv => lhs; unfold runI
  rw [if_neg h5]
theorem runI_bad {n : Nat} {b : Nat → Nat} {t i st g : Nat} (h : i < t) (h5 : fl st (b i) n = 5) : runI n b (t - i) st i g = ([], some i) := by
  rw [show t - i = (t - (i + 1)) + 1 by omega]
  unfold runI
  rw [if_pos h5]
theorem runI_end {n : Nat} {b : Nat → Nat} {t st g : Nat} : runI n b (t - t) st t g = ([], if st = 4 then none else some t) := by
  rw [Nat.sub_self]; rfl
set_option maxHeartbeats 2000000 in
/-- one round of the inner loop: a kind is read -/
theorem kind_round {U0 U : XSr} {n t : Nat} {b : Nat → Nat} {ALL : List (Nat × Nat × Nat)} {RES : Option Nat} (hn8 : n ≤ 8) (ht : U0.1 0 15 = nI t) (ht40 : t ≤ 40) (hb : ∀ i, i < 40 → U0.1 10 i = nI (b i) ∧ b i ≤ 255) {i g : Nat} (h : rdg U0 n t b ALL RES U i 2 g) (kx : (Int32 × XSr) → Option (Int32 × XSr)) (rc : (Int32 × Int32 × XSr) → Option (Int32 × XSr)) :
    (∃ r, rde U0 ALL RES r ∧ B_X7_faultNow_47 (nI g) kx rc (nI i) 44 U = some r) ∨ (∃ i' U', i < i' ∧ rdg U0 n t b ALL RES U' i' 2 g ∧ B_X7_faultNow_47 (nI g) kx rc (nI i) 44 U = rc (nI i', 44, U')) ∨ (∃ i' U', i < i' ∧ rdg U0 n t b ALL RES U' i' 0 g ∧ B_X7_faultNow_47 (nI g) kx rc (nI i) 44 U = rc (nI i', 59, U')) := by
  obtain ⟨hit, hscr, acc, hsaid, hal, hall, hres⟩ := h
  have htU : U.1 0 15 = nI t := by rw [hscr.2.1 15 (by decide)]; exact ht
  have hbU : ∀ j, j < 40 → U.1 10 j = nI (b j) ∧ b j ≤ 255 := fun j hj => by rw [hscr.1 10 (by decide) (by decide) (by decide) (by decide)]; exact hb j hj
  rw [B47_eq, if_pos rfl]
  -- a kind at p, with sign e: what follows
  have tail : ∀ (p e : Nat) (t8 : Int32), t8 = nI e → nI i + ((1 : Int32) - t8) = nI p → i ≤ p → p < t → 48 ≤ b p → b p ≤ 57 → (acc ++ [(g, b p - 48, e)]) ++ (runI n b (t - (p + 1)) 4 (p + 1) g).1 = ALL → (runI n b (t - (p + 1)) 4 (p + 1) g).2 = RES →
      (∃ r, rde U0 ALL RES r ∧ jk (nI g) rc (nI i) U t8 = some r) ∨ (∃ i' U', i < i' ∧ rdg U0 n t b ALL RES U' i' 2 g ∧ jk (nI g) rc (nI i) U t8 = rc (nI i', 44, U')) ∨ (∃ i' U', i < i' ∧ rdg U0 n t b ALL RES U' i' 0 g ∧ jk (nI g) rc (nI i) U t8 = rc (nI i', 59, U')) := by
    intro p e t8 h8 hp hip hpt c1 c2 ha hr
    subst h8
    have hbp := hbU p (by omega)
    have hby : F_X7_byteAt U (nI p) = some (nI (b p)) := by rw [byteAt_in htU ht40 hpt, hbp.1]
    rw [jk_yes hp hby ⟨c1, c2⟩ hsaid.1 (by omega) htU ht40 hpt]
    have hs' := said_say hsaid g (b p - 48) e
    have hsc' := scr_say hscr acc.length (nI g) (nI (b p - 48)) (nI e)
    by_cases hpe : p + 1 = t
    · rw [if_pos hpe]
      rw [hpe, runI_end, if_pos rfl] at hr ha
      refine Or.inl ⟨_, ⟨by rw [← hr]; rfl, hsc', fun _ => ?_⟩, rfl⟩
      rw [List.append_nil] at ha
      rw [← ha]; exact hs'
    · rw [if_neg hpe]
      have hlt : p + 1 < t := by omega
      have htU' : (sayU U acc.length (nI g) (nI (b p - 48)) (nI e)).1 0 15 = nI t := htU
      have hbq := hbU (p + 1) (by omega)
      have hby' : F_X7_byteAt (sayU U acc.length (nI g) (nI (b p - 48)) (nI e)) (nI (p + 1)) = some (nI (b (p + 1))) := by rw [byteAt_in htU' ht40 hlt]; exact congrArg some hbq.1
      rw [hby', Option.bind_some]
      by_cases h44 : b (p + 1) = 44
      · rw [h44, if_pos (by decide)]
        have hfl : fl 4 (b (p + 1)) n = 2 := by unfold fl; simp [h44]
        rw [runI_succ hlt (by rw [hfl]; decide), hfl] at ha hr
        simp only [show ¬ (2 = 4) by decide, if_false, show ¬ (4 = 0) by decide] at ha hr
        exact Or.inr (Or.inl ⟨p + 2, _, by omega, ⟨by omega, hsc', acc ++ [(g, b p - 48, e)], hs', by rw [List.length_append]; show acc.length + 1 ≤ p + 2; omega, ha, hr⟩, rfl⟩)
      · rw [if_neg (show ¬ nI (b (p + 1)) = 44 from fun q => h44 ((nI_eq (b := 44) (by omega) (by decide)).mp q))]
        by_cases h59 : b (p + 1) = 59
        · rw [h59, if_pos (by decide)]
          have hfl : fl 4 (b (p + 1)) n = 0 := by unfold fl; simp [h59]
          rw [runI_succ hlt (by rw [hfl]; decide), hfl] at ha hr
          simp only [show ¬ (0 = 4) by decide, if_false, show ¬ (4 = 0) by decide] at ha hr
          exact Or.inr (Or.inr ⟨p + 2, _, by omega, ⟨by omega, hsc', acc ++ [(g, b p - 48, e)], hs', by rw [List.length_append]; show acc.length + 1 ≤ p + 2; omega, ha, hr⟩, rfl⟩)
        · rw [if_neg (show ¬ nI (b (p + 1)) = 59 from fun q => h59 ((nI_eq (b := 59) (by omega) (by decide)).mp q))]
          have hfl : fl 4 (b (p + 1)) n = 5 := by unfold fl; simp [h44, h59]
          rw [runI_bad hlt hfl] at hr
          refine Or.inl ⟨_, ⟨by rw [← hr]; rfl, hsc', fun hno => absurd (hr.trans hno) (by simp)⟩, rfl⟩
  -- no kind at p
  have bad : ∀ (p : Nat) (t8 z : Int32), nI i + ((1 : Int32) - t8) = nI p → F_X7_byteAt U (nI p) = some z → F_X7_isKind (z - 48) = 0 → RES = some p → ∃ r, rde U0 ALL RES r ∧ jk (nI g) rc (nI i) U t8 = some r := by
    intro p t8 z hp hz hk hr
    rw [jk_no (by rw [hp]; exact hz) hk, hp]
    exact ⟨_, ⟨by rw [hr]; rfl, hscr, fun hno => absurd (hr.symm.trans hno) (by simp)⟩, rfl⟩
  have one0 : nI i + ((1 : Int32) - 0) = nI (i + 1) := by rw [show (1 : Int32) - 0 = 1 by decide, nI_1]
  have one1 : nI i + ((1 : Int32) - 1) = nI i := by rw [show (1 : Int32) - 1 = nI 0 by decide, nI_add]; rfl
  by_cases hie : i = t
  · have hz : F_X7_byteAt U (nI i) = some (-1) := byteAt_out htU ht40 (by omega) (by omega)
    rw [hz, Option.bind_some, if_neg (by decide)]
    rw [hie, runI_end] at hres
    exact Or.inl (bad i 1 (-1) one1 hz (by decide) (by rw [← hres, hie]; rfl))
  · have hlt : i < t := by omega
    have hbi := hbU i (by omega)
    have hz : F_X7_byteAt U (nI i) = some (nI (b i)) := by rw [byteAt_in htU ht40 hlt, hbi.1]
    rw [hz, Option.bind_some]
    by_cases h45 : b i = 45
    · rw [if_pos (by rw [h45]; rfl)]
      have hfl : fl 2 (b i) n = 3 := by unfold fl; simp [h45]
      rw [runI_succ hlt (by rw [hfl]; decide), hfl] at hall hres
      simp only [show ¬ (3 = 4) by decide, if_false, show ¬ (2 = 0) by decide] at hall hres
      by_cases hie1 : i + 1 = t
      · rw [hie1, runI_end] at hres
        have hz1 : F_X7_byteAt U (nI (i + 1)) = some (-1) := byteAt_out htU ht40 (by omega) (by omega)
        exact Or.inl (bad (i + 1) 0 (-1) one0 hz1 (by decide) (by rw [← hres, hie1]; rfl))
      · have hlt1 : i + 1 < t := by omega
        have hb1 := hbU (i + 1) (by omega)
        have hz1 : F_X7_byteAt U (nI (i + 1)) = some (nI (b (i + 1))) := by rw [byteAt_in htU ht40 hlt1, hb1.1]
        by_cases hk : 48 ≤ b (i + 1) ∧ b (i + 1) ≤ 57
        · have hfl1 : fl 3 (b (i + 1)) n = 4 := by unfold fl; simp [hk.1, hk.2]
          rw [runI_succ hlt1 (by rw [hfl1]; decide), hfl1] at hall hres
          simp only [show ¬ (3 = 0) by decide, show ¬ (3 = 2) by decide, if_false, if_true] at hall hres
          exact tail (i + 1) 0 0 rfl one0 (by omega) hlt1 hk.1 hk.2 (by rw [List.append_assoc]; exact hall) hres
        · have hfl1 : fl 3 (b (i + 1)) n = 5 := by unfold fl; simp; intro h1; omega
          rw [runI_bad hlt1 hfl1] at hres
          exact Or.inl (bad (i + 1) 0 _ one0 hz1 (by rw [isKind_c _ (by omega), if_neg hk]) hres.symm)
    · rw [if_neg (show ¬ nI (b i) = 45 from fun q => h45 ((nI_eq (b := 45) (by omega) (by decide)).mp q))]
      by_cases hk : 48 ≤ b i ∧ b i ≤ 57
      · have hfl1 : fl 2 (b i) n = 4 := by unfold fl; simp [hk.1, hk.2, h45]
        rw [runI_succ hlt (by rw [hfl1]; decide), hfl1] at hall hres
        simp only [show ¬ (2 = 0) by decide, if_false, if_true] at hall hres
        exact tail i 1 1 rfl one1 (by omega) hlt hk.1 hk.2 (by rw [List.append_assoc]; exact hall) hres
      · have hfl1 : fl 2 (b i) n = 5 := by unfold fl; simp [h45]; intro h1; omega
        rw [runI_bad hlt hfl1] at hres
        exact Or.inl (bad i 1 _ one1 hz (by rw [isKind_c _ (by omega), if_neg hk]) hres.symm)
