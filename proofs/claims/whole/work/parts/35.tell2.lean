def kp (tm : Nat) (S : XSt) (q : Nat × Nat × Nat) : XSt := if xti (S 3 4) < 60 then kC S (xti (S 3 4)) (nI tm) (nI q.1) (nI q.2.1) (nI q.2.2) else S
def kpR (tm : Nat) (U : XSr) (q : Nat × Nat × Nat) : XSr := if xti (U.1 0 8) < 60 then kR U (xti (U.1 0 8)) (nI tm) (nI q.1) (nI q.2.1) (nI q.2.2) else U
def addC (tm : Nat) (l : List (Nat × Nat × Nat)) (S : XSt) : XSt := l.foldl (kp tm) S
def addR (tm : Nat) (l : List (Nat × Nat × Nat)) (U : XSr) : XSr := l.foldl (kpR tm) U
def okI (n : Nat) (l : List (Nat × Nat × Nat)) : Prop := ∀ q ∈ l, q.1 < n ∧ q.2.1 ≤ 9 ∧ q.2.2 ≤ 1
theorem kp_q (tm : Nat) (S : XSt) (x : Nat × Nat × Nat) {q : Nat} (h : q ≠ 3 ∧ q ≠ 12 ∧ q ≠ 13 ∧ q ≠ 14 ∧ q ≠ 15) : kp tm S x q = S q := by
  unfold kp
  by_cases hz : xti (S 3 4) < 60
  · rw [if_pos hz]; unfold kC
    rw [xst_ne _ _ _ h.1, xst_ne _ _ _ h.2.2.2.2, xst_ne _ _ _ h.2.2.2.1, xst_ne _ _ _ h.2.2.1, xst_ne _ _ _ h.2.1]
  · rw [if_neg hz]
theorem addC_q (tm : Nat) (l : List (Nat × Nat × Nat)) (S : XSt) {q : Nat} (h : q ≠ 3 ∧ q ≠ 12 ∧ q ≠ 13 ∧ q ≠ 14 ∧ q ≠ 15) : addC tm l S q = S q := by
  induction l generalizing S with
  | nil => rfl
  | cons x l ih => show addC tm l (kp tm S x) q = S q; rw [ih, kp_q tm S x h]
theorem kpR_q (tm : Nat) (U : XSr) (x : Nat × Nat × Nat) {q : Nat} (h : q ≠ 0 ∧ q ≠ 6 ∧ q ≠ 7 ∧ q ≠ 8 ∧ q ≠ 9) : (kpR tm U x).1 q = U.1 q := by
  unfold kpR
  by_cases hz : xti (U.1 0 8) < 60
  · rw [if_pos hz]; unfold kR; simp only [xsr_1]
    rw [xst_ne _ _ _ h.1, xst_ne _ _ _ h.1, xst_ne _ _ _ h.2.2.2.2, xst_ne _ _ _ h.2.2.2.1, xst_ne _ _ _ h.2.2.1, xst_ne _ _ _ h.2.1]
  · rw [if_neg hz]
theorem addR_q (tm : Nat) (l : List (Nat × Nat × Nat)) (U : XSr) {q : Nat} (h : q ≠ 0 ∧ q ≠ 6 ∧ q ≠ 7 ∧ q ≠ 8 ∧ q ≠ 9) : (addR tm l U).1 q = U.1 q := by
  induction l generalizing U with
  | nil => rfl
  | cons x l ih => show (addR tm l (kpR tm U x)).1 q = U.1 q; rw [ih, kpR_q tm U x h]
theorem kpR_0 (tm : Nat) (U : XSr) (x : Nat × Nat × Nat) {j : Nat} (h : j ≠ 8 ∧ j ≠ 14) : (kpR tm U x).1 0 j = U.1 0 j := by
  unfold kpR
  by_cases hz : xti (U.1 0 8) < 60
  · rw [if_pos hz]; unfold kR; simp only [xsr_1]
    rw [xst_idx _ _ _ h.2, xst_idx _ _ _ h.1, xst_ne _ _ _ (by decide), xst_ne _ _ _ (by decide), xst_ne _ _ _ (by decide), xst_ne _ _ _ (by decide)]
  · rw [if_neg hz]
theorem addR_0 (tm : Nat) (l : List (Nat × Nat × Nat)) (U : XSr) {j : Nat} (h : j ≠ 8 ∧ j ≠ 14) : (addR tm l U).1 0 j = U.1 0 j := by
  induction l generalizing U with
  | nil => rfl
  | cons x l ih => show (addR tm l (kpR tm U x)).1 0 j = U.1 0 j; rw [ih, kpR_0 tm U x h]
theorem addC_size (tm : Nat) (l : List (Nat × Nat × Nat)) {S : XSt} {z : Nat} (hz : S 3 4 = nI z) (hz60 : z ≤ 60) : addC tm l S 3 4 = nI (min 60 (z + l.length)) := by
  induction l generalizing S z with
  | nil => rw [List.length_nil, Nat.add_zero, Nat.min_eq_right hz60]; exact hz
  | cons x l ih =>
    show addC tm l (kp tm S x) 3 4 = _
    have hzx : xti (S 3 4) = z := by rw [hz]; exact xti_nI (by omega)
    unfold kp
    by_cases h : z < 60
    · rw [hzx, if_pos h, ih (z := z + 1) rfl (by omega), List.length_cons]
      congr 1; omega
    · rw [hzx, if_neg h, ih (z := z) hz hz60, List.length_cons]
      congr 1; omega
theorem addR_size (tm : Nat) (l : List (Nat × Nat × Nat)) {U : XSr} {z : Nat} (hz : U.1 0 8 = nI z) (hz60 : z ≤ 60) : (addR tm l U).1 0 8 = nI (min 60 (z + l.length)) := by
  induction l generalizing U z with
  | nil => rw [List.length_nil, Nat.add_zero, Nat.min_eq_right hz60]; exact hz
  | cons x l ih =>
    show (addR tm l (kpR tm U x)).1 0 8 = _
    have hzx : xti (U.1 0 8) = z := by rw [hz]; exact xti_nI (by omega)
    unfold kpR
    by_cases h : z < 60
    · rw [hzx, if_pos h, ih (z := z + 1) rfl (by omega), List.length_cons]
      congr 1; omega
    · rw [hzx, if_neg h, ih (z := z) hz hz60, List.length_cons]
      congr 1; omega
theorem addR_full (tm : Nat) (l : List (Nat × Nat × Nat)) {U : XSr} (hz : U.1 0 8 = nI 60) : addR tm l U = U := by
  induction l with
  | nil => rfl
  | cons x l ih =>
    show addR tm l (kpR tm U x) = U
    have : kpR tm U x = U := by unfold kpR; rw [hz, if_neg (by decide)]
    rw [this, ih]
theorem add_pre {WR : XSr → Prop} {tm : Nat} (htm : tm ≤ 999) (l : List (Nat × Nat × Nat)) {S : XSt} {U : XSr} (hP : Pre S U) (hR : IvR WR U) (hT : Tb S tm) (hl : okI (xti (S 1 4)) l) : Pre (addC tm l S) (addR tm l U) ∧ IvR WR (addR tm l U) := by
  induction l generalizing S U with
  | nil => exact ⟨hP, hR⟩
  | cons x l ih =>
    show Pre (addC tm l (kp tm S x)) (addR tm l (kpR tm U x)) ∧ IvR WR (addR tm l (kpR tm U x))
    have hF := hP.2.2.2.2.1
    obtain ⟨z, hz⟩ : ∃ z, xti (S 3 4) = z := ⟨_, rfl⟩
    have ez : S 3 4 = nI z := by rw [← hz]; exact hF.1.1
    have hzU : xti (U.1 0 8) = z := by rw [← hF.2.1]; exact hz
    obtain ⟨x1, x2, x3⟩ := hl x List.mem_cons_self
    unfold kp kpR
    rw [hz, hzU]
    by_cases h : z < 60
    · rw [if_pos h, if_pos h]
      obtain ⟨k1, k2, -⟩ := keep_pre hP ez h hT htm x1 x2 x3
      exact ih k1 (IvR.stale rfl) k2 (fun q hq => hl q (List.mem_cons_of_mem _ hq))
    · rw [if_neg h, if_neg h]
      exact ih hP hR hT (fun q hq => hl q (List.mem_cons_of_mem _ hq))
theorem runI_len (n : Nat) (b : Nat → Nat) (m st i g : Nat) : (runI n b m st i g).1.length ≤ m := by
  induction m generalizing st i g with
  | zero => exact Nat.le_refl _
  | succ m ih =>
    unfold runI
    by_cases h5 : fl st (b i) n = 5
    · rw [if_pos h5]; exact Nat.zero_le _
    · rw [if_neg h5]
      have := ih (fl st (b i) n) (i + 1) (if st = 0 then b i - 48 else g)
      by_cases h4 : fl st (b i) n = 4
      · rw [if_pos h4]; show _ + 1 ≤ m + 1; omega
      · rw [if_neg h4]; exact Nat.le_succ_of_le this
theorem fl_0 {c n : Nat} (h : fl 0 c n ≠ 5) : 48 ≤ c ∧ c < 48 + n ∧ fl 0 c n = 1 := by
  unfold fl at h ⊢
  simp only [if_true] at h ⊢
  by_cases hc : 48 ≤ c ∧ c < 48 + n
  · rw [if_pos hc]; exact ⟨hc.1, hc.2, rfl⟩
  · rw [if_neg hc] at h; exact absurd rfl h
theorem fl_4 {st c n : Nat} (h : fl st c n = 4) : (st = 2 ∨ st = 3) ∧ 48 ≤ c ∧ c ≤ 57 := by
  unfold fl at h
  repeat' split at h
  all_goals omega
theorem fl_st {st c n : Nat} (hst : st < 5) (h5 : fl st c n ≠ 5) : fl st c n < 5 := by
  have := fl_le st c n; omega
theorem fl_0' {st c n : Nat} (h : fl st c n = 0) : st = 4 := by
  unfold fl at h
  repeat' split at h
  all_goals omega
theorem runI_ok (n : Nat) (b : Nat → Nat) (m st i g : Nat) (hg : st = 0 ∨ g < n) : okI n (runI n b m st i g).1 := by
  induction m generalizing st i g with
  | zero => intro q hq; cases hq
  | succ m ih =>
    unfold runI
    by_cases h5 : fl st (b i) n = 5
    · rw [if_pos h5]; intro q hq; cases hq
    · rw [if_neg h5]
      have hg' : (if st = 0 then b i - 48 else g) < n := by
        by_cases h0 : st = 0
        · rw [if_pos h0]; subst h0; have := fl_0 h5; omega
        · rw [if_neg h0]; rcases hg with q | q
          · exact absurd q h0
          · exact q
      have := ih (fl st (b i) n) (i + 1) (if st = 0 then b i - 48 else g) (Or.inr hg')
      by_cases h4 : fl st (b i) n = 4
      · rw [if_pos h4]
        intro q hq
        rcases List.mem_cons.mp hq with rfl | hq
        · have hk := fl_4 h4
          refine ⟨hg', by show b i - 48 ≤ 9; omega, ?_⟩
          show (if st = 2 then 1 else 0) ≤ 1
          by_cases h2 : st = 2
          · rw [if_pos h2]; exact Nat.le_refl _
          · rw [if_neg h2]; exact Nat.zero_le _
        · exact this q hq
      · rw [if_neg h4]; exact this
set_option maxHeartbeats 2000000 in
theorem tellLine_eq {S : XSt} {n t z tm : Nat} (hn : S 1 4 = nI n) (hn8 : n ≤ 8) (ht : S 2 1 = nI t) (ht40 : t ≤ 40) (hb : ∀ i, i < 40 → bd (S 11 i) 255) (hz : S 3 4 = nI z) (hz60 : z ≤ 60) (hr : (runI n (btS S) t 0 0 0).2 = none) : F_X6_tellLine S (nI tm) = some (nI (min (runI n (btS S) t 0 0 0).1.length (60 - z)), addC tm (runI n (btS S) t 0 0 0).1 S) := by
  obtain ⟨ALL, hALL⟩ : ∃ A, (runI n (btS S) t 0 0 0).1 = A := ⟨_, rfl⟩
  rw [hALL]
  unfold F_X6_tellLine
  obtain ⟨e, he, h1⟩ := xlp_for (Bd := fun k rc (q : Int32 × Int32 × Int32 × Int32 × XSt) => B_X6_tellLine_10 (nI tm) k rc q.1 q.2.1 q.2.2.1 q.2.2.2.1 q.2.2.2.2) (k := fun e14 : Int32 × XSt => some (e14.1, e14.2)) (fun m q => ∃ st g acc i, q = (nI st, nI g, nI (min acc.length (60 - z)), nI i, addC tm acc S) ∧ i + m = t ∧ st < 5 ∧ g < 256 ∧ acc ++ (runI n (btS S) m st i g).1 = ALL ∧ (runI n (btS S) m st i g).2 = none) (fun e => e = (nI (min ALL.length (60 - z)), addC tm ALL S)) (by
    intro m q rc hq
    obtain ⟨st, g, acc, i, rfl, him, hst, hg, hall, hres⟩ := hq
    have f2 : addC tm acc S 2 1 = nI t := by rw [addC_q tm acc S (by decide)]; exact ht
    cases m with
    | zero =>
      have ha : acc = ALL := by rw [← hall]; show acc = acc ++ []; rw [List.append_nil]
      refine Or.inl ⟨(nI (min acc.length (60 - z)), addC tm acc S), by rw [ha], ?_⟩
      show B_X6_tellLine_10 (nI tm) _ rc (nI st) (nI g) (nI (min acc.length (60 - z))) (nI i) (addC tm acc S) = _
      unfold B_X6_tellLine_10
      rw [f2, if_pos (nI_le (by omega) (by omega))]
    | succ m =>
      have hc := hb i (by omega)
      have ec : addC tm acc S 11 i = nI (btS S i) := by rw [addC_q tm acc S (by decide)]; exact hc.1
      have hc2 : btS S i ≤ 255 := hc.2
      have f1 : addC tm acc S 1 4 = nI n := by rw [addC_q tm acc S (by decide)]; exact hn
      have h5 : fl st (btS S i) n ≠ 5 := fun h => by
        unfold runI at hres; rw [if_pos h] at hres; cases hres
      have hr' := hres
      have ha' := hall
      unfold runI at hr' ha'
      rw [if_neg h5] at hr' ha'
      obtain ⟨f, hf⟩ : ∃ f, fl st (btS S i) n = f := ⟨_, rfl⟩
      have hf5 : f < 5 := by rw [← hf]; exact fl_st hst h5
      obtain ⟨g', hg'⟩ : ∃ g', (if st = 0 then btS S i - 48 else g) = g' := ⟨_, rfl⟩
      have hg256 : g' < 256 := by
        rw [← hg']
        by_cases h0 : st = 0
        · rw [if_pos h0]; omega
        · rw [if_neg h0]; exact hg
      have eg : (if nI st = 0 then (nI (btS S i) - 48 : Int32) else nI g) = nI g' := by
        rw [← hg']
        by_cases h0 : st = 0
        · subst h0
          rw [if_pos rfl, if_pos (show nI 0 = 0 from rfl), sub48 (fl_0 h5).1]
        · rw [if_neg h0, if_neg (nI_ne0 (by omega) (by omega))]
      rw [hf, hg'] at hr' ha'
      have hB : B_X6_tellLine_10 (nI tm) (fun e14 : Int32 × XSt => some (e14.1, e14.2)) rc (nI st) (nI g) (nI (min acc.length (60 - z))) (nI i) (addC tm acc S) = (if nI f = 4 then ((F_X0_keep (addC tm acc S) (nI tm) (nI g') (nI (btS S i) - 48) (if nI st = 2 then 1 else 0)).bind fun z9 => (if z9.1 = 0 then rc (nI f, nI g', nI (min acc.length (60 - z)), nI (i + 1), z9.2) else rc (nI f, nI g', nI (min acc.length (60 - z) + 1), nI (i + 1), z9.2))) else rc (nI f, nI g', nI (min acc.length (60 - z)), nI (i + 1), addC tm acc S)) := by
        unfold B_X6_tellLine_10
        rw [f2, if_neg (nI_ge (by omega) (by omega)), if_pos (xin_nI (by omega) (by decide)), xti_nI (by omega), ec, f1]
        simp only [xlet, nI_1]
        rw [follow_eq st hst _ (by omega) n (by omega), hf, ← eg]
        by_cases h0 : nI st = 0
        · simp only [if_pos h0]
          by_cases h2 : nI st = 2
          · simp only [if_pos h2]
          · simp only [if_neg h2]
        · simp only [if_neg h0]
          by_cases h2 : nI st = 2
          · simp only [if_pos h2]
          · simp only [if_neg h2]
      by_cases h4 : f = 4
      · have hk := fl_4 (hf.trans h4)
        rw [if_pos h4] at ha'
        have e2 : (if nI st = 2 then (1 : Int32) else 0) = nI (if st = 2 then 1 else 0) := by
          by_cases h2 : st = 2
          · rw [if_pos h2, if_pos (by rw [h2]; rfl)]; rfl
          · rw [if_neg h2, if_neg (show ¬ nI st = 2 from fun q => h2 ((nI_eq (b := 2) (by omega) (by decide)).mp q))]; rfl
        have hh1 : (if st = 2 then 1 else 0) ≤ 1 := by
          by_cases h2 : st = 2
          · rw [if_pos h2]; exact Nat.le_refl _
          · rw [if_neg h2]; exact Nat.zero_le _
        obtain ⟨it, hit⟩ : ∃ it : Nat × Nat × Nat, it = (g', btS S i - 48, if st = 2 then 1 else 0) := ⟨_, rfl⟩
        have hadd : addC tm (acc ++ [it]) S = kp tm (addC tm acc S) it := by unfold addC; rw [List.foldl_append]; rfl
        have hsz := addC_size tm acc hz hz60
        rw [hB, if_pos (show nI f = 4 by rw [h4]; rfl), e2, sub48 hk.2.1]
        by_cases hroom : z + acc.length < 60
        · have hmin : min 60 (z + acc.length) = z + acc.length := Nat.min_eq_right (by omega)
          rw [hmin] at hsz
          rw [keep_in hsz hroom hh1, Option.bind_some, if_neg (show ¬ (1 : Int32) = 0 by decide)]
          have hkp : kp tm (addC tm acc S) it = kC (addC tm acc S) (z + acc.length) (nI tm) (nI g') (nI (btS S i - 48)) (nI (if st = 2 then 1 else 0)) := by
            unfold kp; rw [hsz, xti_nI (by omega), if_pos hroom, hit]
          refine Or.inr ⟨m, (nI f, nI g', nI (min (acc ++ [it]).length (60 - z)), nI (i + 1), addC tm (acc ++ [it]) S), by omega, ⟨f, g', acc ++ [it], i + 1, rfl, by omega, hf5, hg256, by rw [List.append_assoc, hit]; exact ha', hr'⟩, ?_⟩
          show rc _ = rc _
          rw [hadd, hkp, List.length_append, show min (acc.length + [it].length) (60 - z) = min acc.length (60 - z) + 1 by show min (acc.length + 1) (60 - z) = _; omega]
        · have hmin : min 60 (z + acc.length) = 60 := Nat.min_eq_left (by omega)
          rw [hmin] at hsz
          rw [keep_full hsz, Option.bind_some, if_pos rfl]
          have hkp : kp tm (addC tm acc S) it = addC tm acc S := by
            unfold kp; rw [hsz, if_neg (by decide)]
          refine Or.inr ⟨m, (nI f, nI g', nI (min (acc ++ [it]).length (60 - z)), nI (i + 1), addC tm (acc ++ [it]) S), by omega, ⟨f, g', acc ++ [it], i + 1, rfl, by omega, hf5, hg256, by rw [List.append_assoc, hit]; exact ha', hr'⟩, ?_⟩
          show rc _ = rc _
          rw [hadd, hkp, List.length_append, show min (acc.length + [it].length) (60 - z) = min acc.length (60 - z) by show min (acc.length + 1) (60 - z) = _; omega]
      · rw [if_neg h4] at ha'
        refine Or.inr ⟨m, (nI f, nI g', nI (min acc.length (60 - z)), nI (i + 1), addC tm acc S), by omega, ⟨f, g', acc, i + 1, rfl, by omega, hf5, hg256, ha', hr'⟩, ?_⟩
        show B_X6_tellLine_10 (nI tm) _ rc (nI st) (nI g) (nI (min acc.length (60 - z))) (nI i) (addC tm acc S) = _
        rw [hB, if_neg (show ¬ nI f = 4 from fun q => h4 ((nI_eq (b := 4) (by omega) (by decide)).mp q))]) (m := t) (t := (0, 0, 0, 0, S)) ⟨0, 0, [], 0, by rw [List.length_nil, Nat.zero_min]; rfl, by omega, by decide, by decide, hALL, hr⟩ (n := XFU) (by rw [XFU_eq]; omega)
  rw [h1, he]
theorem tellR_eq {V : XSr} {z tm : Nat} {ALL : List (Nat × Nat × Nat)} (hs : said V ALL) (hl : ALL.length ≤ 40) (hz : V.1 0 8 = nI z) (hz60 : z ≤ 60) (k : Int32 × XSr → Option (Int32 × XSr)) : xlp (fun k rc (q : Int32 × XSr) => B_X7_tell_30 (nI tm) k rc q.1 q.2) k XFU (0, V) = k (nI (min ALL.length (60 - z)), addR tm ALL V) := by
  obtain ⟨e, he, h1⟩ := xlp_for (Bd := fun k rc (q : Int32 × XSr) => B_X7_tell_30 (nI tm) k rc q.1 q.2) (k := k) (fun m q => ∃ j, q = (nI j, addR tm (ALL.take j) V) ∧ j + m = ALL.length ∧ z + j ≤ 60) (fun e => e = (nI (min ALL.length (60 - z)), addR tm ALL V)) (by
    intro m q rc hq
    obtain ⟨j, rfl, hjm, hj60⟩ := hq
    have hlen : (ALL.take j).length = j := by rw [List.length_take]; omega
    have hsz : (addR tm (ALL.take j) V).1 0 8 = nI (z + j) := by rw [addR_size tm _ hz hz60, hlen, Nat.min_eq_right hj60]
    have h17 : (addR tm (ALL.take j) V).1 0 17 = nI ALL.length := by rw [addR_0 tm _ V (by decide)]; exact hs.1
    by_cases hje : j = ALL.length
    · refine Or.inl ⟨(nI j, addR tm (ALL.take j) V), by rw [hje, List.take_length, show min ALL.length (60 - z) = ALL.length by omega], ?_⟩
      show B_X7_tell_30 (nI tm) _ rc (nI j) (addR tm (ALL.take j) V) = _
      unfold B_X7_tell_30
      rw [h17, if_pos (nI_le (by omega) (by omega))]
    · have hjl : j < ALL.length := by omega
      by_cases hf : z + j = 60
      · have hfull : addR tm ALL V = addR tm (ALL.take j) V := by
          conv => lhs; rw [← List.take_append_drop j ALL]
          unfold addR
          rw [List.foldl_append]
          exact addR_full tm _ (by show (addR tm (ALL.take j) V).1 0 8 = _; rw [hsz, hf])
        refine Or.inl ⟨(nI j, addR tm (ALL.take j) V), by rw [hfull, show min ALL.length (60 - z) = j by omega], ?_⟩
        show B_X7_tell_30 (nI tm) _ rc (nI j) (addR tm (ALL.take j) V) = _
        unfold B_X7_tell_30
        rw [h17, if_neg (nI_ge hjl (by omega)), hsz, if_pos (show (60 : Int32) ≤ nI (z + j) from nI_le (a := 60) (by omega) (by omega))]
      · obtain ⟨x, hx⟩ : ∃ x, ALL[j]? = some x := ⟨_, List.getElem?_eq_getElem hjl⟩
        obtain ⟨s1, s2, s3⟩ := hs.2 j x hx
        have hx40 : xin (nI j) 40 = true := xin_nI (by omega) (by decide)
        refine Or.inr ⟨m - 1, (nI (j + 1), addR tm (ALL.take (j + 1)) V), by omega, ⟨j + 1, rfl, by omega, by omega⟩, ?_⟩
        show B_X7_tell_30 (nI tm) _ rc (nI j) (addR tm (ALL.take j) V) = _
        unfold B_X7_tell_30
        rw [h17, if_neg (nI_ge hjl (by omega)), hsz, if_neg (show ¬ (60 : Int32) ≤ nI (z + j) from nI_ge (b := 60) (by omega) (by decide)), if_pos hx40, if_pos hx40, if_pos hx40, xti_nI (by omega), addR_q tm _ V (q := 11) (by decide), addR_q tm _ V (q := 12) (by decide), addR_q tm _ V (q := 13) (by decide), s1, s2, s3, tells_in hsz (by omega), Option.bind_some]
        simp only [xlet]
        rw [nI_1]
        have htk : ALL.take (j + 1) = ALL.take j ++ [x] := by rw [List.take_succ, hx]; rfl
        have : addR tm (ALL.take (j + 1)) V = kR (addR tm (ALL.take j) V) (z + j) (nI tm) (nI x.1) (nI x.2.1) (nI x.2.2) := by
          rw [htk]
          unfold addR
          rw [List.foldl_append]
          show kpR tm (addR tm (ALL.take j) V) x = _
          unfold kpR
          rw [hsz, xti_nI (by omega), if_pos (by omega)]; rfl
        rw [this]) (m := ALL.length) (t := (0, V)) ⟨0, rfl, by omega, by omega⟩ (n := XFU) (by rw [XFU_eq]; omega)
  rw [h1, he]
section Ops
variable {SC : XSt → Prop} {WR : XSr → Prop}
theorem st_tell (hSC : SCok SC) (hWR : WRok WR) : St_tell (Inv SC WR) := by
  intro S U x1 hI
  have hI0 := hI
  obtain ⟨hY, hW, hO, hL, hF, hA, hK, hS, hC, hR⟩ := hI
  obtain ⟨l, t1, t2, hl, hTb⟩ := time_eq hF x1
  unfold F_X6_tell F_X7_tell
  rw [t1, t2, Option.bind_some, Option.bind_some, in_within]
  by_cases h3 : F_X6_within x1 (nI l) 999 = 0
  · rw [if_pos h3, if_pos h3]; exact ⟨_, _, _, rfl, rfl, hI0⟩
  rw [if_neg h3, if_neg h3]
  obtain ⟨tm, rfl, hl2, htm⟩ := within_nI (a := l) (b := 999) (by omega) (by decide) h3
  obtain ⟨r, e1, e2, hI', hrd⟩ := line_eq hWR hI0
  rw [e1, e2, Option.bind_some, Option.bind_some]
  by_cases hr : r.1 = -1
  · rw [if_pos hr, if_pos hr]
    have hn8 := hY.1.2
    have ht40 := hL.1.2
    have hnone : (runI (xti (S 1 4)) (btS S) (xti (S 2 1)) 0 0 0).2 = none := by
      have h1 := hrd.1
      rw [hr] at h1
      cases hc : (runI (xti (S 1 4)) (btS S) (xti (S 2 1)) 0 0 0).2 with
      | none => rfl
      | some p =>
        exfalso
        rw [hc] at h1
        have h1 : (-1 : Int32) = nI p := h1
        have hp : p < 2 ^ 31 := by
          -- a fault lies within the LINE
          have : ∀ m st i g p, (runI (xti (S 1 4)) (btS S) m st i g).2 = some p → p ≤ i + m := by
            intro m
            induction m with
            | zero =>
              intro st i g p h
              unfold runI at h
              by_cases h4 : st = 4
              · rw [if_pos h4] at h; cases h
              · rw [if_neg h4] at h; cases h; omega
            | succ m ih =>
              intro st i g p h
              unfold runI at h
              by_cases h5 : fl st (btS S i) (xti (S 1 4)) = 5
              · rw [if_pos h5] at h; cases h; omega
              · rw [if_neg h5] at h
                have := ih _ _ _ _ h
                omega
          have := this _ _ _ _ _ hc
          omega
        exact absurd (by rw [← h1]; decide) (nI_pos hp)
    have hsaid := hrd.2.2 hnone
    have hz := hF.1.1
    have hz60 := hF.1.2
    rw [tellLine_eq hY.1.1 hn8 hL.1.1 ht40 (fun i hi => (hL.2.2 i hi).2) hz hz60 hnone, Option.bind_some]
    have hVF := hI'.2.2.2.2.1
    have hVz : r.2.1 0 8 = nI (xti (S 3 4)) := by rw [← hVF.2.1]; exact hz
    rw [tellR_eq hsaid (Nat.le_trans (runI_len _ _ _ _ _ _) ht40) hVz hz60]
    obtain ⟨hY', hW', hO', hL', hF', hA', hK', hS', hC', hR'⟩ := hI'
    obtain ⟨p1, p2⟩ := add_pre (WR := WR) htm (runI (xti (S 1 4)) (btS S) (xti (S 2 1)) 0 0 0).1 (S := S) (U := r.2) ⟨hY', hW', hO', hL', hF', hA', hS'⟩ hR' (Tb_mono hTb hl2) (runI_ok _ _ _ _ _ _ (Or.inl rfl))
    obtain ⟨ALL, hALL⟩ : ∃ A, (runI (xti (S 1 4)) (btS S) (xti (S 2 1)) 0 0 0).1 = A := ⟨_, rfl⟩
    rw [hALL] at p1 p2 ⊢
    have pre : Pre (xst (addC tm ALL S) 2 1 0) (xsr (addR tm ALL r.2) 0 15 0) := by
      obtain ⟨a1, a2, a3, a4, a5, a6, a7⟩ := p1
      exact ⟨a1, a2, a3, ⟨bd0 40, rfl, a4.2.2⟩, a5, a6, (a7.putC (by decide)).putR (by decide)⟩
    obtain ⟨S2, f1, hI2⟩ := laid_inv (SC := SC) pre (p2.put hWR (by decide) (by decide))
    simp only [xlet]
    rw [f1]
    exact ⟨_, _, _, rfl, rfl, hI2⟩
  · rw [if_neg hr, if_neg hr]
    exact ⟨_, _, _, rfl, rfl, hI'⟩
end Ops
