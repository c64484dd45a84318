theorem xpC_moved {s U : State} (hW : s.WarmedH U.vm) (h : xpC s) : xpC U := ⟨va_Nw.warmM hW h.1, va_Nw.warmM hW h.2.1, va_Nw.warmM hW h.2.2.1, va_Nw.warmM hW h.2.2.2.1, va_AO.moved hW.alike h.2.2.2.2⟩
theorem xpC_same {s U : State} (e : s.vm = U.vm) (h : xpC s) : xpC U := ⟨va_Nw.same rfl e h.1, va_Nw.same rfl e h.2.1, va_Nw.same rfl e h.2.2.1, va_Nw.same rfl e h.2.2.2.1, va_AO.moved (by rw [e]; exact Vm.Alike.refl U.vm) h.2.2.2.2⟩
theorem kn_0 : Cond.methodLinkNest "GraveOrder" 11 yX5_init "GraveOrder" ∈ lw_tbl := List.mem_of_getElem? (i := 86) (by decide +kernel)
theorem kn_1 : Cond.methodLinkNest "GraveOrder" 18 yX2_init "GraveOrder" ∈ lw_tbl := List.mem_of_getElem? (i := 139) (by decide +kernel)
theorem kn_2 : Cond.methodLinkNest "GraveOrder" 25 yX0_init "GraveOrder" ∈ lw_tbl := List.mem_of_getElem? (i := 154) (by decide +kernel)
theorem kn_3 : Cond.methodLinkNest "GraveOrder" 65 yX4_init "GraveOrder" ∈ lw_tbl := List.mem_of_getElem? (i := 257) (by decide +kernel)
theorem kn_ao : Cond.arrayOver (.object RX4) ∈ lw_tbl := List.mem_of_getElem? (i := 255) (by decide +kernel)
theorem kll_X6 : Cond.methodLink "GraveOrderLaw" 9 yX6_init ∈ xtb := xtb_in 78 (by decide +kernel) (by decide +kernel)
theorem kll_X7 : Cond.methodLink "GraveOrderLaw" 12 yX7_init ∈ xtb := xtb_in 782 (by decide +kernel) (by decide +kernel)
theorem kcc_X6 : Cond.classLink "GraveOrderLaw" 7 RX6 ∈ xtb := xtb_in 76 (by decide +kernel) (by decide +kernel)
theorem kcc_X7 : Cond.classLink "GraveOrderLaw" 10 RX7 ∈ xtb := xtb_in 780 (by decide +kernel) (by decide +kernel)
theorem k_known {s : State} {args : Array Value} (hts : ∀ w ∈ xtb, w.before args s = true) : ∃ (dC : Nat → ClassId) (dI : Nat → Nat → Nat), va_K (dC, dI) vwCl [] s := by
  obtain ⟨c0, i0, h0⟩ := u_known (C := RX0) (T := TX0) (N := 5) (n := 5) hts wiX0 (hts _ kin_X0.1)
  obtain ⟨c1, i1, h1⟩ := u_known (C := RX1) (T := TX1) (N := 4) (n := 4) hts wiX1 (hts _ kin_X1.1)
  obtain ⟨c2, i2, h2⟩ := u_known (C := RX2) (T := TX2) (N := 2) (n := 2) hts wiX2 (hts _ kin_X2.1)
  obtain ⟨c3, i3, h3⟩ := u_known (C := RX3) (T := TX3) (N := 16) (n := 16) hts wiX3 (hts _ kin_X3.1)
  obtain ⟨c4, i4, h4⟩ := u_known (C := RX4) (T := TX4) (N := 4) (n := 4) hts wiX4 (hts _ kin_X4.1)
  obtain ⟨c5, i5, h5⟩ := u_known (C := RX5) (T := TX5) (N := 9) (n := 9) hts wiX5 (hts _ kin_X5.1)
  obtain ⟨c6, i6, h6⟩ := u_known (C := RX6) (T := TX6) (N := 8) (n := 8) hts wiX6 (hts _ kin_X6.1)
  obtain ⟨c7, i7, h7⟩ := u_known (C := RX7) (T := TX7) (N := 40) (n := 40) hts wiX7 (hts _ kin_X7.1)
  refine ⟨fun k => if k = 0 then c0 else if k = 1 then c1 else if k = 2 then c2 else if k = 3 then c3 else if k = 4 then c4 else if k = 5 then c5 else if k = 6 then c6 else c7, fun k => if k = 0 then i0 else if k = 1 then i1 else if k = 2 then i2 else if k = 3 then i3 else if k = 4 then i4 else if k = 5 then i5 else if k = 6 then i6 else i7, fun k q hq => ?_, fun k q h => by simp at h⟩
  match k, hq with
  | 0, hq => cases hq; exact h0
  | 1, hq => cases hq; exact h1
  | 2, hq => cases hq; exact h2
  | 3, hq => cases hq; exact h3
  | 4, hq => cases hq; exact h4
  | 5, hq => cases hq; exact h5
  | 6, hq => cases hq; exact h6
  | 7, hq => cases hq; exact h7
  | k + 8, hq => simp [vwCl] at hq
set_option maxHeartbeats 4000000 in
set_option maxRecDepth 100000 in
/-- the law from its entry, given an invariant that every call keeps -/
theorem whole_of (Inv : XSt → XSr → Prop) (hInv : StAll Inv) (hI0 : Inv initC initR) {p : Program} {e : Env} {s : State} {m : MethodId} {below : List Frame} {meth : Method} {c : Code} (l : Launch) {b L : Nat} {xs : Nat → Int32} (hL : L ≤ 3072) (C0 : lw_At p s m meth c b L xs) : W p l e room_1 s m #[Value.ref b] below meth c s.heap [] 0 0 (lw_Z below #[Value.ref b] s) (entryFrame m ([Value.ref b] : List Value).toArray 4) := by
  obtain ⟨hx, hb, hr, hml, hown, hts0, hX, hbl, hlocks, hgv⟩ := id C0
  have hts : ∀ w ∈ xtb, w.before #[Value.ref b] s = true := fun w hw => hts0 w (List.mem_filter.mp hw).1
  have hA : ∀ q : Nat, s.heap.size ≤ q → lA s q := fun _ h => h
  have hxp : xpC s := ⟨va_Nw.of rfl (hts0 _ kn_0), va_Nw.of rfl (hts0 _ kn_1), va_Nw.of rfl (hts0 _ kn_2), va_Nw.of rfl (hts0 _ kn_3), va_AO.of (hts0 _ kn_ao)⟩
  obtain ⟨dC, dI, hK⟩ := k_known hts
  have hS : va_S (lA s) s.heap s.heap [] := va_S.rf
  have hP : va_P (dC, dI) vwCl [] s.heap := fun k q h => by simp at h
  have hD : va_D (lA s) [] := ⟨fun i j p q h => by simp at h, fun k q h => by simp at h⟩
  have hl := lv_entry ([.ref b]) (n := 4) (Nat.le_of_ble_eq_true rfl)
  rw [lg_entry_eq]
  generalize (lg_sl ([.ref b]) ++ List.replicate (4 - (lg_sl ([.ref b])).length) Slot.unset).toArray = ls at hl ⊢
  have hl : lv_has ls 4 [(0, .ref b)] := hl
  refine va_new (ci := 6) (fs := [.null, .null, .null, .null, .null, .null, .int 0, .int 0]) (C := RX6) (T := TX6) (N := 8) hx hb hts wiX6 tyX6 tyX6_ok hown (hts _ kcc_X6) (hts _ kin_X6.1) (hts _ kin_X6.2) hK hP hD hS hA rfl (fun j hj => by have h9 : j = 0 ∨ j = 1 ∨ j = 2 ∨ j = 3 ∨ j = 4 ∨ j = 5 ∨ j = 6 ∨ j = 7 := (by omega); rcases h9 with rfl | rfl | rfl | rfl | rfl | rfl | rfl | rfl <;> rfl) (Nat.le_of_ble_eq_true rfl) (Nat.le_of_ble_eq_true rfl) dL_law_0 (fun o1 H hP hD hS => ?_)
  have hP : va_P (dC, dI) vwCl [(o1, .inr (6, [.null, .null, .null, .null, .null, .null, .int 0, .int 0]))] H := hP
  have hD : va_D (lA s) [(o1, .inr (6, [.null, .null, .null, .null, .null, .null, .int 0, .int 0]))] := hD
  refine W.widen (k := 1) (n := 8) (by omega) (by omega) ?_
  refine lv_dup hx hb dL_law_3 rfl ?_
  have hFc := va_free (wc := [(o1, .inr (6, [.null, .null, .null, .null, .null, .null, .int 0, .int 0]))]) hD hS hA [0] rfl
  have hgood : GoodIn (Cond.initialized RX6 :: xtb) (.code yX6_init cX6_init 2 none :: xtb) := x_goodS mi_X6.2.2
  have hts6 : ∀ w ∈ (Cond.initialized RX6 :: xtb), w.before #[Value.ref b] s = true := fun w h => by
    rcases List.mem_cons.mp h with rfl | h
    · exact hts _ mi_X6.2.1
    · exact hts _ h
  refine va_callv (va_runI (As := []) (rest := [.ref o1]) ⟨hx, hb, hml, hown, hts⟩ (K_X6 l (dC, dI) o1 H.size) (cwI 0 hts6 hgood rfl rfl rfl (hts _ mi_X6.2.1) (hts _ kll_X6) (hts _ mi_X6.1) rfl mj_X6 ⟨(Nat.le_of_ble_eq_true rfl), (Nat.le_of_ble_eq_true rfl)⟩) ⟨fun a U g mk q => by obtain ⟨q0, q1, qP, qK, qD, qX⟩ := q; exact ⟨q0, q1, qP, va_K.moved (u := U) (U := U.calling g mk a) (Vm.Alike.refl U.vm) qK, qD, xpC_same rfl qX⟩, fun U hU hW => ⟨rfl, by rw [hU], by rw [hU]; exact hP, va_K.moved hW.alike hK, hD.weaken (fun _ _ _ _ => trivial), xpC_moved hW hxp⟩⟩ rfl rfl hl.1 rfl (lv_room (Nat.le_of_ble_eq_true rfl)) dL_law_4 ⟨(Nat.le_of_ble_eq_true rfl), (Nat.le_of_ble_eq_true rfl)⟩) hS (fun q _ h => hFc q h) hFc (fun u t H1 locs ht hvm hw hB hz1 hk1 hS => ?_)
  obtain ⟨qa, qb⟩ := u
  obtain ⟨hP1, hK1, hD1⟩ := hB
  rw [ht] at hP1
  have hK1 := va_K.moved hvm.symm hK1
  have hw : qa 0 = o1 := hw
  obtain ⟨hP, hD⟩ := va_join (wr := []) (w1 := wC qa qb initC) hP hD [0] [] rfl rfl (by decide) (by decide) hk1 hFc hP1 hD1
  have hP : va_P (dC, dI) vwCl (wC qa qb initC) H1 := hP
  have hD : va_D (lA s) (wC qa qb initC) := hD
  have hKC : va_K (dC, dI) vwCl (tyC qb) s := hK1
  refine W.widen (k := 37) (n := 4374) (by show 1 + 36 ≤ 37; omega) (by show 8 + 4366 ≤ 4374; omega) ?_
  refine lv_astore_n (lv' := [(1, .ref o1), (0, .ref b)]) hx hb dL_law_7 rfl hl (by decide) rfl (fun ls hl => ?_)
  refine va_new (ci := 7) (fs := [.int 0, .null, .null, .int 0, .null, .int 0, .null, .null, .int 0, .null, .null, .null, .null, .int 0, .int 0, .int 0, .null, .int 0, .null, .null, .null, .null, .null, .int 0, .int 0, .int 0, .long 0, .null, .null, .null, .null, .int 0, .null, .null, .null, .null, .null, .null, .null, .int 0]) (C := RX7) (T := TX7) (N := 40) hx hb hts wiX7 tyX7 tyX7_ok hown (hts _ kcc_X7) (hts _ kin_X7.1) (hts _ kin_X7.2) hKC hP hD hS hA rfl (fun j hj => by have h9 : j = 0 ∨ j = 1 ∨ j = 2 ∨ j = 3 ∨ j = 4 ∨ j = 5 ∨ j = 6 ∨ j = 7 ∨ j = 8 ∨ j = 9 ∨ j = 10 ∨ j = 11 ∨ j = 12 ∨ j = 13 ∨ j = 14 ∨ j = 15 ∨ j = 16 ∨ j = 17 ∨ j = 18 ∨ j = 19 ∨ j = 20 ∨ j = 21 ∨ j = 22 ∨ j = 23 ∨ j = 24 ∨ j = 25 ∨ j = 26 ∨ j = 27 ∨ j = 28 ∨ j = 29 ∨ j = 30 ∨ j = 31 ∨ j = 32 ∨ j = 33 ∨ j = 34 ∨ j = 35 ∨ j = 36 ∨ j = 37 ∨ j = 38 ∨ j = 39 := (by omega); rcases h9 with rfl | rfl | rfl | rfl | rfl | rfl | rfl | rfl | rfl | rfl | rfl | rfl | rfl | rfl | rfl | rfl | rfl | rfl | rfl | rfl | rfl | rfl | rfl | rfl | rfl | rfl | rfl | rfl | rfl | rfl | rfl | rfl | rfl | rfl | rfl | rfl | rfl | rfl | rfl | rfl <;> rfl) (Nat.le_of_ble_eq_true rfl) (Nat.le_of_ble_eq_true rfl) dL_law_8 (fun o2 H hP hD hS => ?_)
  refine W.widen (k := 38) (n := 4414) (by omega) (by omega) ?_
  refine lv_dup hx hb dL_law_11 rfl ?_
  have hPc : va_P (dC, dI) vwCl [(o2, .inr (7, [.int 0, .null, .null, .int 0, .null, .int 0, .null, .null, .int 0, .null, .null, .null, .null, .int 0, .int 0, .int 0, .null, .int 0, .null, .null, .null, .null, .null, .int 0, .int 0, .int 0, .long 0, .null, .null, .null, .null, .int 0, .null, .null, .null, .null, .null, .null, .null, .int 0]))] H := hP.right
  have hi37 : [37].map (fun i => (wC qa qb initC ++ [(o2, (.inr (7, [.int 0, .null, .null, .int 0, .null, .int 0, .null, .null, .int 0, .null, .null, .null, .null, .int 0, .int 0, .int 0, .null, .int 0, .null, .null, .null, .null, .null, .int 0, .int 0, .int 0, .long 0, .null, .null, .null, .null, .int 0, .null, .null, .null, .null, .null, .null, .null, .int 0]) : va_E))])[i]?) = ([(o2, (.inr (7, [.int 0, .null, .null, .int 0, .null, .int 0, .null, .null, .int 0, .null, .null, .null, .null, .int 0, .int 0, .int 0, .null, .int 0, .null, .null, .null, .null, .null, .int 0, .int 0, .int 0, .long 0, .null, .null, .null, .null, .int 0, .null, .null, .null, .null, .null, .null, .null, .int 0]) : va_E))] : va_W).map some := rfl
  have hDc := hD.sub (ws' := [(o2, .inr (7, [.int 0, .null, .null, .int 0, .null, .int 0, .null, .null, .int 0, .null, .null, .null, .null, .int 0, .int 0, .int 0, .null, .int 0, .null, .null, .null, .null, .null, .int 0, .int 0, .int 0, .long 0, .null, .null, .null, .null, .int 0, .null, .null, .null, .null, .null, .null, .null, .int 0]))]) [37] (by decide) hi37
  have hFc := va_free (wc := [(o2, .inr (7, [.int 0, .null, .null, .int 0, .null, .int 0, .null, .null, .int 0, .null, .null, .null, .null, .int 0, .int 0, .int 0, .null, .int 0, .null, .null, .null, .null, .null, .int 0, .int 0, .int 0, .long 0, .null, .null, .null, .null, .int 0, .null, .null, .null, .null, .null, .null, .null, .int 0]))]) hD hS hA [37] hi37
  have hgood7 : GoodIn (Cond.initialized RX7 :: xtb) (.code yX7_init cX7_init 2 none :: xtb) := x_goodS mi_X7.2.2
  have hts7 : ∀ w ∈ (Cond.initialized RX7 :: xtb), w.before #[Value.ref b] s = true := fun w h => by
    rcases List.mem_cons.mp h with rfl | h
    · exact hts _ mi_X7.2.1
    · exact hts _ h
  refine va_callv (va_runI (As := []) (rest := [.ref o2]) ⟨hx, hb, hml, hown, hts⟩ (K_X7 l (dC, dI) o2 H.size) (cwI 0 hts7 hgood7 rfl rfl rfl (hts _ mi_X7.2.1) (hts _ kll_X7) (hts _ mi_X7.1) rfl mj_X7 ⟨(Nat.le_of_ble_eq_true rfl), (Nat.le_of_ble_eq_true rfl)⟩) ⟨fun a U g mk q => by obtain ⟨q0, q1, qP, qK, qD, qX⟩ := q; exact ⟨q0, q1, qP, va_K.moved (u := U) (U := U.calling g mk a) (Vm.Alike.refl U.vm) qK, qD, trivial⟩, fun U hU hW => ⟨rfl, by rw [hU], by rw [hU]; exact hPc, va_K.moved hW.alike hK, hDc.weaken (fun _ _ _ _ => trivial), trivial⟩⟩ rfl rfl hl.1 rfl (lv_room (Nat.le_of_ble_eq_true rfl)) dL_law_12 ⟨(Nat.le_of_ble_eq_true rfl), (Nat.le_of_ble_eq_true rfl)⟩) hS (fun q _ h => hFc q h) hFc (fun u t H1 locs ht hvm hw7 hB hz1 hk1 hS => ?_)
  obtain ⟨qa7, qb7⟩ := u
  obtain ⟨hP1, hK1, hD1⟩ := hB
  rw [ht] at hP1
  have hKR := va_K.moved hvm.symm hK1
  have hw7 : qa7 0 = o2 := hw7
  obtain ⟨hP, hD⟩ := va_join (wr := wC qa qb initC) (w1 := wR qa7 qb7 initR) hP hD [37] (List.range 37) hi37 rfl (by decide) (by decide) hk1 hFc hP1 hD1
  refine W.widen (k := 64) (n := 6140) (by show 38 + 26 ≤ 64; omega) (by show 4414 + 1726 ≤ 6140; omega) ?_
  refine lv_astore_n (lv' := [(2, .ref o2), (1, .ref o1), (0, .ref b)]) hx hb dL_law_15 rfl hl (by decide) rfl (fun ls hl => ?_)
  refine lv_iconst (v := 0) hx hb dL_law_16 (by decide) ?_
  refine lv_istore_n (lv' := [(3, .int 0), (2, .ref o2), (1, .ref o1), (0, .ref b)]) hx hb dL_law_17 rfl hl (by decide) rfl (fun ls hl => ?_)
  have hlf : lv_has ls 4 [(0, .ref b), (1, .ref (qa 0)), (2, .ref (qa7 0)), (3, .int 0)] := by rw [hw, hw7]; exact lv_sub hl [3, 2, 1, 0] rfl
  exact lw_loop (l := l) (κ := (p, e, s, m, #[Value.ref b], below, meth, c)) (D := (dC, dI)) (a := qa) (b := qb) (a' := qa7) (b' := qb7) (sb := b) (L := L) (xs := xs) hL ⟨rfl, ⟨hx, hb, hml, hown, hts⟩, hlocks, hr, hKC, hKR, hX, hbl⟩ hInv (L + 1) 0 (Nat.zero_le L) (by omega) 0 rfl initC initR hI0 H1 locs ls hP hD hS hlf
