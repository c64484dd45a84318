/-! GraveOrder.best (I)I -/
def F_X6_best (S0 : XSt) (x1 : Int32) : (Option (Int32 × XSt)) :=
  (if (F_X6_within x1 0 2) = 0 then (some ((-2), S0)) else ((F_X3_settle S0).bind fun z1 => (if z1.1 = 0 then (some ((-3), z1.2)) else (if x1 = 0 then (some ((z1.2 20 (xti 0)), z1.2)) else (if x1 = 1 then (some ((z1.2 21 (xti 0)), z1.2)) else ((F_X1_turnedCanBe z1.2).bind fun z2 => (some ((F_X6_bit z2.1), z2.2))))))))
abbrev rm_X6_best : Room := { frames := 5, cells := 0, slots := 0, locals := 109 }
set_option maxRecDepth 100000 in
set_option maxHeartbeats 4000000 in
theorem M_X6_best (l : Launch) (D : va_G) (a : Nat → Nat) (b : Nat → ClassId) (S0 : XSt) (x1 : Int32)  {r9 : Int32} {S9 : XSt} (h : F_X6_best S0 x1 = some (r9, S9)) : xM l (ωC D a b) yX6_best cX6_best 2 (some .int) rm_X6_best [.ref (a 0), .int x1] S0 (some (.int r9), S9) := by
  unfold F_X6_best at h
  refine xM_of (own := "GraveOrder") (by decide) rfl (Nat.le_of_ble_eq_true rfl) (fun Γ C => ?_)
  refine x_sub 0 [0, 1] (lv' := [(0, .ref (a 0)), (1, .int x1)]) rfl ?_
  refine x_iload_n 0 C dX6_best_0 rfl 1 rfl ?_
  refine x_iconst 1 C dX6_best_1 ci_0 ?_
  refine x_iconst 2 C dX6_best_2 ci_2 ?_
  refine x_callS 3 C 3 (As := [.int x1, .int 0, .int 2]) (rest := []) (M_X6_within l (ωC D a b) S0 x1 0 2) kw_307 ms_X6_within mh_X6_within ⟨rfl, rfl⟩ ⟨Nat.le_of_ble_eq_true rfl, Nat.le_of_ble_eq_true rfl⟩ rfl rfl (Nat.le_of_ble_eq_true rfl) dX6_best_3 ?_
  refine x_if_ne 6 C 12 dX6_best_6 rfl h (fun h => ?_) (fun h => ?_)
  · refine x_aload_n 12 C dX6_best_12 rfl 0 rfl ?_
    refine gX6_orders 13 C kw_281 dX6_best_13 ?_
    obtain ⟨z1, hz1, h⟩ := xbind_some h
    refine x_callV 16 C (q0 := 4) (ci := 3) 0 (As := []) (rest := []) (M_X3_settle l D a b S0   hz1) (by rfl) rfl kw_453 mv_X3_settle mh_X3_settle ⟨rfl, rfl⟩ ⟨Nat.le_of_ble_eq_true rfl, Nat.le_of_ble_eq_true rfl⟩ rfl rfl (Nat.le_of_ble_eq_true rfl) dX6_best_16 ?_
    refine x_if_ne 19 C 25 dX6_best_19 rfl h (fun h => ?_) (fun h => ?_)
    · refine x_iload_n 25 C dX6_best_25 rfl 1 rfl ?_
      refine x_if_ne 26 C 39 dX6_best_26 rfl h (fun h => ?_) (fun h => ?_)
      · refine x_iload_n 39 C dX6_best_39 rfl 1 rfl ?_
        refine x_iconst 40 C dX6_best_40 ci_1 ?_
        refine x_icmp_ne 41 C 56 dX6_best_41 rfl h (fun h => ?_) (fun h => ?_)
        · refine x_aload_n 56 C dX6_best_56 rfl 0 rfl ?_
          refine gX6_firstRow 57 C kw_282 dX6_best_57 ?_
          obtain ⟨z2, hz2, h⟩ := xbind_some h
          refine x_callV 60 C (q0 := 5) (ci := 1) 0 (As := []) (rest := []) (M_X1_turnedCanBe l D a b z1.2   hz2) (by rfl) rfl kw_507 mv_X1_turnedCanBe mh_X1_turnedCanBe ⟨rfl, rfl⟩ ⟨Nat.le_of_ble_eq_true rfl, Nat.le_of_ble_eq_true rfl⟩ rfl rfl (Nat.le_of_ble_eq_true rfl) dX6_best_60 ?_
          refine x_callS 63 C 1 (As := [.int z2.1]) (rest := []) (M_X6_bit l (ωC D a b) z2.2 z2.1) kw_446 ms_X6_bit mh_X6_bit ⟨rfl, rfl⟩ ⟨Nat.le_of_ble_eq_true rfl, Nat.le_of_ble_eq_true rfl⟩ rfl rfl (Nat.le_of_ble_eq_true rfl) dX6_best_63 ?_
          exact x_iret 66 C dX6_best_66 (Prod.mk.inj (Option.some.inj h)).1 (Prod.mk.inj (Option.some.inj h)).2
        · refine x_aload_n 44 C dX6_best_44 rfl 0 rfl ?_
          refine gX6_orders 45 C kw_281 dX6_best_45 ?_
          refine gX3_ways 48 C kw_190 dX6_best_48 ?_
          refine x_iconst 51 C dX6_best_51 ci_0 ?_
          refine c_iald 52 C (n := 256) rfl (by decide) dX6_best_52 ?_
          refine x_goto 53 C 66 dX6_best_53 rfl ?_
          exact x_iret 66 C dX6_best_66 (Prod.mk.inj (Option.some.inj h)).1 (Prod.mk.inj (Option.some.inj h)).2
      · refine x_aload_n 29 C dX6_best_29 rfl 0 rfl ?_
        refine gX6_orders 30 C kw_281 dX6_best_30 ?_
        refine gX3_behind 33 C kw_188 dX6_best_33 ?_
        refine x_iconst 36 C dX6_best_36 ci_0 ?_
        refine c_iald 37 C (n := 256) rfl (by decide) dX6_best_37 ?_
        exact x_iret 38 C dX6_best_38 (Prod.mk.inj (Option.some.inj h)).1 (Prod.mk.inj (Option.some.inj h)).2
    · refine x_bipush 22 C dX6_best_22 cb_m3 ?_
      exact x_iret 24 C dX6_best_24 (Prod.mk.inj (Option.some.inj h)).1 (Prod.mk.inj (Option.some.inj h)).2
  · refine x_bipush 9 C dX6_best_9 cb_m2 ?_
    exact x_iret 11 C dX6_best_11 (Prod.mk.inj (Option.some.inj h)).1 (Prod.mk.inj (Option.some.inj h)).2
/-! GraveOrder.first (I)I -/
def F_X6_first (S0 : XSt) (x1 : Int32) : (Option (Int32 × XSt)) :=
  (if 0 ≤ x1 then ((F_X3_settle S0).bind fun z1 => (if z1.1 = 0 then (some ((-3), z1.2)) else (if (z1.2 1 4) ≤ x1 then (some ((-1), z1.2)) else (if xin x1 8 = true then (some ((z1.2 22 (xti x1)), z1.2)) else none)))) else (some ((-2), S0)))
abbrev rm_X6_first : Room := { frames := 5, cells := 0, slots := 0, locals := 109 }
set_option maxRecDepth 100000 in
set_option maxHeartbeats 4000000 in
theorem M_X6_first (l : Launch) (D : va_G) (a : Nat → Nat) (b : Nat → ClassId) (S0 : XSt) (x1 : Int32)  {r9 : Int32} {S9 : XSt} (h : F_X6_first S0 x1 = some (r9, S9)) : xM l (ωC D a b) yX6_first cX6_first 2 (some .int) rm_X6_first [.ref (a 0), .int x1] S0 (some (.int r9), S9) := by
  unfold F_X6_first at h
  refine xM_of (own := "GraveOrder") (by decide) rfl (Nat.le_of_ble_eq_true rfl) (fun Γ C => ?_)
  refine x_sub 0 [0, 1] (lv' := [(0, .ref (a 0)), (1, .int x1)]) rfl ?_
  refine x_iload_n 0 C dX6_first_0 rfl 1 rfl ?_
  refine x_if_ge 1 C 7 dX6_first_1 rfl h (fun h => ?_) (fun h => ?_)
  · refine x_aload_n 7 C dX6_first_7 rfl 0 rfl ?_
    refine gX6_orders 8 C kw_281 dX6_first_8 ?_
    obtain ⟨z1, hz1, h⟩ := xbind_some h
    refine x_callV 11 C (q0 := 4) (ci := 3) 0 (As := []) (rest := []) (M_X3_settle l D a b S0   hz1) (by rfl) rfl kw_453 mv_X3_settle mh_X3_settle ⟨rfl, rfl⟩ ⟨Nat.le_of_ble_eq_true rfl, Nat.le_of_ble_eq_true rfl⟩ rfl rfl (Nat.le_of_ble_eq_true rfl) dX6_first_11 ?_
    refine x_if_ne 14 C 20 dX6_first_14 rfl h (fun h => ?_) (fun h => ?_)
    · refine x_iload_n 20 C dX6_first_20 rfl 1 rfl ?_
      refine x_aload_n 21 C dX6_first_21 rfl 0 rfl ?_
      refine gX6_yard 22 C kw_278 dX6_first_22 ?_
      refine gX5_graves 25 C kw_104 dX6_first_25 ?_
      refine x_icmp_ge 28 C 43 dX6_first_28 rfl h (fun h => ?_) (fun h => ?_)
      · refine x_iconst 43 C dX6_first_43 ci_m1 ?_
        exact x_iret 44 C dX6_first_44 (Prod.mk.inj (Option.some.inj h)).1 (Prod.mk.inj (Option.some.inj h)).2
      · refine x_aload_n 31 C dX6_first_31 rfl 0 rfl ?_
        refine gX6_orders 32 C kw_281 dX6_first_32 ?_
        refine gX3_row 35 C kw_192 dX6_first_35 ?_
        refine x_iload_n 38 C dX6_first_38 rfl 1 rfl ?_
        obtain ⟨hg2, h⟩ := xif_some h
        refine c_iald 39 C (n := 8) rfl hg2 dX6_first_39 ?_
        refine x_goto 40 C 44 dX6_first_40 rfl ?_
        exact x_iret 44 C dX6_first_44 (Prod.mk.inj (Option.some.inj h)).1 (Prod.mk.inj (Option.some.inj h)).2
    · refine x_bipush 17 C dX6_first_17 cb_m3 ?_
      exact x_iret 19 C dX6_first_19 (Prod.mk.inj (Option.some.inj h)).1 (Prod.mk.inj (Option.some.inj h)).2
  · refine x_bipush 4 C dX6_first_4 cb_m2 ?_
    exact x_iret 6 C dX6_first_6 (Prod.mk.inj (Option.some.inj h)).1 (Prod.mk.inj (Option.some.inj h)).2
/-! GraveOrder.sure (II)I -/
def F_X6_sure (S0 : XSt) (x1 : Int32) (x2 : Int32) : (Option (Int32 × XSt)) :=
  (if (F_X6_isPair S0 x1 x2) = 0 then (some ((-2), S0)) else ((F_X3_settle S0).bind fun z1 => (if z1.1 = 0 then (some ((-3), z1.2)) else ((F_X3_alwaysAhead z1.2 x1 x2).bind fun z2 => (some ((F_X6_bit z2), z1.2))))))
abbrev rm_X6_sure : Room := { frames := 5, cells := 0, slots := 0, locals := 109 }
set_option maxRecDepth 100000 in
set_option maxHeartbeats 4000000 in
theorem M_X6_sure (l : Launch) (D : va_G) (a : Nat → Nat) (b : Nat → ClassId) (S0 : XSt) (x1 : Int32) (x2 : Int32)  {r9 : Int32} {S9 : XSt} (h : F_X6_sure S0 x1 x2 = some (r9, S9)) : xM l (ωC D a b) yX6_sure cX6_sure 3 (some .int) rm_X6_sure [.ref (a 0), .int x1, .int x2] S0 (some (.int r9), S9) := by
  unfold F_X6_sure at h
  refine xM_of (own := "GraveOrder") (by decide) rfl (Nat.le_of_ble_eq_true rfl) (fun Γ C => ?_)
  refine x_sub 0 [0, 1, 2] (lv' := [(0, .ref (a 0)), (1, .int x1), (2, .int x2)]) rfl ?_
  refine x_aload_n 0 C dX6_sure_0 rfl 0 rfl ?_
  refine x_iload_n 1 C dX6_sure_1 rfl 1 rfl ?_
  refine x_iload_n 2 C dX6_sure_2 rfl 2 rfl ?_
  refine x_callV 3 C (q0 := 0) (ci := 6) 2 (As := [.int x1, .int x2]) (rest := []) (M_X6_isPair l D a b S0 x1 x2 ) (by rfl) rfl kw_347 mv_X6_isPair mh_X6_isPair ⟨rfl, rfl⟩ ⟨Nat.le_of_ble_eq_true rfl, Nat.le_of_ble_eq_true rfl⟩ rfl rfl (Nat.le_of_ble_eq_true rfl) dX6_sure_3 ?_
  refine x_if_ne 6 C 12 dX6_sure_6 rfl h (fun h => ?_) (fun h => ?_)
  · refine x_aload_n 12 C dX6_sure_12 rfl 0 rfl ?_
    refine gX6_orders 13 C kw_281 dX6_sure_13 ?_
    obtain ⟨z1, hz1, h⟩ := xbind_some h
    refine x_callV 16 C (q0 := 4) (ci := 3) 0 (As := []) (rest := []) (M_X3_settle l D a b S0   hz1) (by rfl) rfl kw_453 mv_X3_settle mh_X3_settle ⟨rfl, rfl⟩ ⟨Nat.le_of_ble_eq_true rfl, Nat.le_of_ble_eq_true rfl⟩ rfl rfl (Nat.le_of_ble_eq_true rfl) dX6_sure_16 ?_
    refine x_if_ne 19 C 25 dX6_sure_19 rfl h (fun h => ?_) (fun h => ?_)
    · refine x_aload_n 25 C dX6_sure_25 rfl 0 rfl ?_
      refine gX6_orders 26 C kw_281 dX6_sure_26 ?_
      refine x_iload_n 29 C dX6_sure_29 rfl 1 rfl ?_
      refine x_iload_n 30 C dX6_sure_30 rfl 2 rfl ?_
      obtain ⟨z2, hz2, h⟩ := xbind_some h
      refine x_callV 31 C (q0 := 4) (ci := 3) 2 (As := [.int x1, .int x2]) (rest := []) (M_X3_alwaysAhead l D a b z1.2 x1 x2  hz2) (by rfl) rfl kw_520 mv_X3_alwaysAhead mh_X3_alwaysAhead ⟨rfl, rfl⟩ ⟨Nat.le_of_ble_eq_true rfl, Nat.le_of_ble_eq_true rfl⟩ rfl rfl (Nat.le_of_ble_eq_true rfl) dX6_sure_31 ?_
      refine x_callS 34 C 1 (As := [.int z2]) (rest := []) (M_X6_bit l (ωC D a b) z1.2 z2) kw_446 ms_X6_bit mh_X6_bit ⟨rfl, rfl⟩ ⟨Nat.le_of_ble_eq_true rfl, Nat.le_of_ble_eq_true rfl⟩ rfl rfl (Nat.le_of_ble_eq_true rfl) dX6_sure_34 ?_
      exact x_iret 37 C dX6_sure_37 (Prod.mk.inj (Option.some.inj h)).1 (Prod.mk.inj (Option.some.inj h)).2
    · refine x_bipush 22 C dX6_sure_22 cb_m3 ?_
      exact x_iret 24 C dX6_sure_24 (Prod.mk.inj (Option.some.inj h)).1 (Prod.mk.inj (Option.some.inj h)).2
  · refine x_bipush 9 C dX6_sure_9 cb_m2 ?_
    exact x_iret 11 C dX6_sure_11 (Prod.mk.inj (Option.some.inj h)).1 (Prod.mk.inj (Option.some.inj h)).2
/-! GraveOrder.places (I)I -/
def F_X6_places (S0 : XSt) (x1 : Int32) : (Option (Int32 × XSt)) :=
  (if (F_X6_isGrave S0 x1) = 0 then (some ((-2), S0)) else ((F_X3_settle S0).bind fun z1 => (if z1.1 = 0 then (some ((-3), z1.2)) else ((F_X3_placesInBest z1.2 x1).bind fun z2 => (some (z2, z1.2))))))
abbrev rm_X6_places : Room := { frames := 5, cells := 0, slots := 0, locals := 109 }
set_option maxRecDepth 100000 in
set_option maxHeartbeats 4000000 in
theorem M_X6_places (l : Launch) (D : va_G) (a : Nat → Nat) (b : Nat → ClassId) (S0 : XSt) (x1 : Int32)  {r9 : Int32} {S9 : XSt} (h : F_X6_places S0 x1 = some (r9, S9)) : xM l (ωC D a b) yX6_places cX6_places 2 (some .int) rm_X6_places [.ref (a 0), .int x1] S0 (some (.int r9), S9) := by
  unfold F_X6_places at h
  refine xM_of (own := "GraveOrder") (by decide) rfl (Nat.le_of_ble_eq_true rfl) (fun Γ C => ?_)
  refine x_sub 0 [0, 1] (lv' := [(0, .ref (a 0)), (1, .int x1)]) rfl ?_
  refine x_aload_n 0 C dX6_places_0 rfl 0 rfl ?_
  refine x_iload_n 1 C dX6_places_1 rfl 1 rfl ?_
  refine x_callV 2 C (q0 := 0) (ci := 6) 1 (As := [.int x1]) (rest := []) (M_X6_isGrave l D a b S0 x1 ) (by rfl) rfl kw_318 mv_X6_isGrave mh_X6_isGrave ⟨rfl, rfl⟩ ⟨Nat.le_of_ble_eq_true rfl, Nat.le_of_ble_eq_true rfl⟩ rfl rfl (Nat.le_of_ble_eq_true rfl) dX6_places_2 ?_
  refine x_if_ne 5 C 11 dX6_places_5 rfl h (fun h => ?_) (fun h => ?_)
  · refine x_aload_n 11 C dX6_places_11 rfl 0 rfl ?_
    refine gX6_orders 12 C kw_281 dX6_places_12 ?_
    obtain ⟨z1, hz1, h⟩ := xbind_some h
    refine x_callV 15 C (q0 := 4) (ci := 3) 0 (As := []) (rest := []) (M_X3_settle l D a b S0   hz1) (by rfl) rfl kw_453 mv_X3_settle mh_X3_settle ⟨rfl, rfl⟩ ⟨Nat.le_of_ble_eq_true rfl, Nat.le_of_ble_eq_true rfl⟩ rfl rfl (Nat.le_of_ble_eq_true rfl) dX6_places_15 ?_
    refine x_if_ne 18 C 24 dX6_places_18 rfl h (fun h => ?_) (fun h => ?_)
    · refine x_aload_n 24 C dX6_places_24 rfl 0 rfl ?_
      refine gX6_orders 25 C kw_281 dX6_places_25 ?_
      refine x_iload_n 28 C dX6_places_28 rfl 1 rfl ?_
      obtain ⟨z2, hz2, h⟩ := xbind_some h
      refine x_callV 29 C (q0 := 4) (ci := 3) 1 (As := [.int x1]) (rest := []) (M_X3_placesInBest l D a b z1.2 x1  hz2) (by rfl) rfl kw_528 mv_X3_placesInBest mh_X3_placesInBest ⟨rfl, rfl⟩ ⟨Nat.le_of_ble_eq_true rfl, Nat.le_of_ble_eq_true rfl⟩ rfl rfl (Nat.le_of_ble_eq_true rfl) dX6_places_29 ?_
      exact x_iret 32 C dX6_places_32 (Prod.mk.inj (Option.some.inj h)).1 (Prod.mk.inj (Option.some.inj h)).2
    · refine x_bipush 21 C dX6_places_21 cb_m3 ?_
      exact x_iret 23 C dX6_places_23 (Prod.mk.inj (Option.some.inj h)).1 (Prod.mk.inj (Option.some.inj h)).2
  · refine x_bipush 8 C dX6_places_8 cb_m2 ?_
    exact x_iret 10 C dX6_places_10 (Prod.mk.inj (Option.some.inj h)).1 (Prod.mk.inj (Option.some.inj h)).2
/-! GraveOrder.spread (II)I -/
def F_X6_spread (S0 : XSt) (x1 : Int32) (x2 : Int32) : (Option (Int32 × XSt)) :=
  (if (F_X6_within x1 0 999) = 0 then (some ((-2), S0)) else (if (F_X6_within x2 0 1) = 0 then (some ((-2), S0)) else ((F_X3_settle S0).bind fun z1 => ((F_X3_settleSpread z1.2).bind fun z2 => (if x2 = 0 then ((F_X3_withGaps z2 x1).bind fun z4 => (some (z4, z2))) else ((F_X3_withGapsUpTo z2 x1).bind fun z3 => (some (z3, z2))))))))
abbrev rm_X6_spread : Room := { frames := 13, cells := 0, slots := 0, locals := 345 }
set_option maxRecDepth 100000 in
set_option maxHeartbeats 4000000 in
theorem M_X6_spread (l : Launch) (D : va_G) (a : Nat → Nat) (b : Nat → ClassId) (S0 : XSt) (x1 : Int32) (x2 : Int32)  {r9 : Int32} {S9 : XSt} (h : F_X6_spread S0 x1 x2 = some (r9, S9)) : xM l (ωC D a b) yX6_spread cX6_spread 3 (some .int) rm_X6_spread [.ref (a 0), .int x1, .int x2] S0 (some (.int r9), S9) := by
  unfold F_X6_spread at h
  refine xM_of (own := "GraveOrder") (by decide) rfl (Nat.le_of_ble_eq_true rfl) (fun Γ C => ?_)
  refine x_sub 0 [0, 1, 2] (lv' := [(0, .ref (a 0)), (1, .int x1), (2, .int x2)]) rfl ?_
  refine x_iload_n 0 C dX6_spread_0 rfl 1 rfl ?_
  refine x_iconst 1 C dX6_spread_1 ci_0 ?_
  refine x_sipush 2 C dX6_spread_2 cs_999 ?_
  refine x_callS 5 C 3 (As := [.int x1, .int 0, .int 999]) (rest := []) (M_X6_within l (ωC D a b) S0 x1 0 999) kw_307 ms_X6_within mh_X6_within ⟨rfl, rfl⟩ ⟨Nat.le_of_ble_eq_true rfl, Nat.le_of_ble_eq_true rfl⟩ rfl rfl (Nat.le_of_ble_eq_true rfl) dX6_spread_5 ?_
  refine x_if_eq 8 C 20 dX6_spread_8 rfl h (fun h => ?_) (fun h => ?_)
  · refine x_bipush 20 C dX6_spread_20 cb_m2 ?_
    exact x_iret 22 C dX6_spread_22 (Prod.mk.inj (Option.some.inj h)).1 (Prod.mk.inj (Option.some.inj h)).2
  · refine x_iload_n 11 C dX6_spread_11 rfl 2 rfl ?_
    refine x_iconst 12 C dX6_spread_12 ci_0 ?_
    refine x_iconst 13 C dX6_spread_13 ci_1 ?_
    refine x_callS 14 C 3 (As := [.int x2, .int 0, .int 1]) (rest := []) (M_X6_within l (ωC D a b) S0 x2 0 1) kw_307 ms_X6_within mh_X6_within ⟨rfl, rfl⟩ ⟨Nat.le_of_ble_eq_true rfl, Nat.le_of_ble_eq_true rfl⟩ rfl rfl (Nat.le_of_ble_eq_true rfl) dX6_spread_14 ?_
    refine x_if_ne 17 C 23 dX6_spread_17 rfl h (fun h => ?_) (fun h => ?_)
    · refine x_aload_n 23 C dX6_spread_23 rfl 0 rfl ?_
      refine gX6_orders 24 C kw_281 dX6_spread_24 ?_
      obtain ⟨z1, hz1, h⟩ := xbind_some h
      refine x_callV 27 C (q0 := 4) (ci := 3) 0 (As := []) (rest := []) (M_X3_settle l D a b S0   hz1) (by rfl) rfl kw_453 mv_X3_settle mh_X3_settle ⟨rfl, rfl⟩ ⟨Nat.le_of_ble_eq_true rfl, Nat.le_of_ble_eq_true rfl⟩ rfl rfl (Nat.le_of_ble_eq_true rfl) dX6_spread_27 ?_
      refine x_pop 30 C dX6_spread_30 rfl ?_
      refine x_aload_n 31 C dX6_spread_31 rfl 0 rfl ?_
      refine gX6_orders 32 C kw_281 dX6_spread_32 ?_
      obtain ⟨z2, hz2, h⟩ := xbind_some h
      refine x_callV 35 C (q0 := 4) (ci := 3) 0 (As := []) (rest := []) (M_X3_settleSpread l D a b z1.2   hz2) (by rfl) rfl kw_537 mv_X3_settleSpread mh_X3_settleSpread ⟨rfl, rfl⟩ ⟨Nat.le_of_ble_eq_true rfl, Nat.le_of_ble_eq_true rfl⟩ rfl rfl (Nat.le_of_ble_eq_true rfl) dX6_spread_35 ?_
      refine x_iload_n 38 C dX6_spread_38 rfl 2 rfl ?_
      refine x_if_ne 39 C 53 dX6_spread_39 rfl h (fun h => ?_) (fun h => ?_)
      · refine x_aload_n 53 C dX6_spread_53 rfl 0 rfl ?_
        refine gX6_orders 54 C kw_281 dX6_spread_54 ?_
        refine x_iload_n 57 C dX6_spread_57 rfl 1 rfl ?_
        obtain ⟨z3, hz3, h⟩ := xbind_some h
        refine x_callV 58 C (q0 := 4) (ci := 3) 1 (As := [.int x1]) (rest := []) (M_X3_withGapsUpTo l D a b z2 x1  hz3) (by rfl) rfl kw_552 mv_X3_withGapsUpTo mh_X3_withGapsUpTo ⟨rfl, rfl⟩ ⟨Nat.le_of_ble_eq_true rfl, Nat.le_of_ble_eq_true rfl⟩ rfl rfl (Nat.le_of_ble_eq_true rfl) dX6_spread_58 ?_
        exact x_iret 61 C dX6_spread_61 (Prod.mk.inj (Option.some.inj h)).1 (Prod.mk.inj (Option.some.inj h)).2
      · refine x_aload_n 42 C dX6_spread_42 rfl 0 rfl ?_
        refine gX6_orders 43 C kw_281 dX6_spread_43 ?_
        refine x_iload_n 46 C dX6_spread_46 rfl 1 rfl ?_
        obtain ⟨z4, hz4, h⟩ := xbind_some h
        refine x_callV 47 C (q0 := 4) (ci := 3) 1 (As := [.int x1]) (rest := []) (M_X3_withGaps l D a b z2 x1  hz4) (by rfl) rfl kw_548 mv_X3_withGaps mh_X3_withGaps ⟨rfl, rfl⟩ ⟨Nat.le_of_ble_eq_true rfl, Nat.le_of_ble_eq_true rfl⟩ rfl rfl (Nat.le_of_ble_eq_true rfl) dX6_spread_47 ?_
        refine x_goto 50 C 61 dX6_spread_50 rfl ?_
        exact x_iret 61 C dX6_spread_61 (Prod.mk.inj (Option.some.inj h)).1 (Prod.mk.inj (Option.some.inj h)).2
    · refine x_bipush 20 C dX6_spread_20 cb_m2 ?_
      exact x_iret 22 C dX6_spread_22 (Prod.mk.inj (Option.some.inj h)).1 (Prod.mk.inj (Option.some.inj h)).2
/-! GraveOrder.longRefusal (I)J -/
def F_X6_longRefusal (x0 : Int32) : Int64 :=
  ((-9223372036854775808 : Int64) - ((x0).toInt64))
abbrev rm_X6_longRefusal : Room := { frames := 0, cells := 0, slots := 0, locals := 0 }
set_option maxRecDepth 100000 in
set_option maxHeartbeats 4000000 in
theorem M_X6_longRefusal {σ : Type} (l : Launch) (ω : XW σ) (S0 : σ) (x0 : Int32)  : xM l ω yX6_longRefusal cX6_longRefusal 1 (some .long) rm_X6_longRefusal [.int x0] S0 (some (.long (F_X6_longRefusal x0)), S0) := by
  obtain ⟨r9, h⟩ : ∃ r9, F_X6_longRefusal x0 = r9 := ⟨_, rfl⟩
  rw [h]
  unfold F_X6_longRefusal at h
  refine xM_of (own := "GraveOrder") (by decide) rfl (Nat.le_of_ble_eq_true rfl) (fun Γ C => ?_)
  refine x_sub 0 [0] (lv' := [(0, .int x0)]) rfl ?_
  refine x_ldc2 0 C kw_563 dX6_longRefusal_0 ?_
  refine x_iload_n 3 C dX6_longRefusal_3 rfl 0 rfl ?_
  refine x_i2l 4 C dX6_longRefusal_4 ?_
  refine x_lsub 5 C dX6_longRefusal_5 ?_
  exact x_lret 6 C dX6_longRefusal_6 h rfl
/-! GraveOrder.commonDivisor (II)I -/
def B_X6_commonDivisor_7 (S0 : XSt)  (kx : Int32 → Option Int32) (rc : (Int32 × Int32 × Int32) → Option Int32) (y2 : Int32) (y3 : Int32) (y4 : Int32) : Option Int32 :=
  (if 50 ≤ y4 then kx y2 else (if y3 = 0 then kx y2 else (if ¬ y3 = 0 then (xlet (y2 - y2 / y3 * y3) fun v5_2 => (xlet (y4 + 1) fun v4_3 => rc (y3, v5_2, v4_3))) else none)))
def F_X6_commonDivisor (S0 : XSt) (x0 : Int32) (x1 : Int32) : (Option Int32) :=
  (xlp (fun k rc t => B_X6_commonDivisor_7 S0   k rc t.1 t.2.1 t.2.2) (fun e4 => (some e4)) XFU (x0, x1, 0))
abbrev rm_X6_commonDivisor : Room := { frames := 0, cells := 0, slots := 0, locals := 0 }
set_option maxRecDepth 100000 in
set_option maxHeartbeats 4000000 in
theorem w_X6_commonDivisor_7 (l : Launch) (D : va_G) (a : Nat → Nat) (b : Nat → ClassId) (S0 : XSt) {Γ : XG XSt} {r9 : Int32} (C : Cx (ωC D a b) Γ cX6_commonDivisor "GraveOrder" (some .int) l rm_X6_commonDivisor 6 (some (.int r9), S0))   (kx : Int32 → Option Int32) (rc : (Int32 × Int32 × Int32) → Option Int32) (hk : ∀ e, kx e = some r9 → XAt (ωC D a b) Γ 34 [(2, .int e)] [] S0) (ih : ∀ t, rc t = some r9 → XAt (ωC D a b) Γ 7 [(2, .int t.1), (3, .int t.2.1), (4, .int t.2.2)] [] S0) (y2 : Int32) (y3 : Int32) (y4 : Int32) (h : B_X6_commonDivisor_7 S0   kx rc y2 y3 y4 = some r9) : XAt (ωC D a b) Γ 7 [(2, .int y2), (3, .int y3), (4, .int y4)] [] S0 := by
  unfold B_X6_commonDivisor_7 at h
  refine x_iload 7 C dX6_commonDivisor_7 2 rfl ?_
  refine x_bipush 9 C dX6_commonDivisor_9 cb_50 ?_
  refine x_icmp_ge 11 C 34 dX6_commonDivisor_11 rfl h (fun h => ?_) (fun h => ?_)
  · exact x_sub 34 [0] rfl (hk _ h)
  · refine x_iload_n 14 C dX6_commonDivisor_14 rfl 1 rfl ?_
    refine x_if_eq 15 C 34 dX6_commonDivisor_15 rfl h (fun h => ?_) (fun h => ?_)
    · exact x_sub 34 [0] rfl (hk _ h)
    · refine x_iload_n 18 C dX6_commonDivisor_18 rfl 0 rfl ?_
      refine x_iload_n 19 C dX6_commonDivisor_19 rfl 1 rfl ?_
      obtain ⟨hg1, h⟩ := xif_some h
      refine x_irem 20 C hg1 dX6_commonDivisor_20 ?_
      refine x_top h (fun v5_2 h => ?_)
      refine x_istore 21 C (lv' := [(3, .int y3), (4, .int y4), (5, .int v5_2)]) dX6_commonDivisor_21 (Nat.le_of_ble_eq_true rfl) [2, 3, 0] rfl ?_
      refine x_iload_n 23 C dX6_commonDivisor_23 rfl 0 rfl ?_
      refine x_istore_n 24 C (lv' := [(2, .int y3), (4, .int y4), (5, .int v5_2)]) dX6_commonDivisor_24 rfl (Nat.le_of_ble_eq_true rfl) [0, 2, 3] rfl ?_
      refine x_iload 25 C dX6_commonDivisor_25 2 rfl ?_
      refine x_istore_n 27 C (lv' := [(2, .int y3), (3, .int v5_2), (4, .int y4)]) dX6_commonDivisor_27 rfl (Nat.le_of_ble_eq_true rfl) [1, 0, 2] rfl ?_
      refine x_iinc 28 C (L := fun v4_3 => [(2, .int y3), (3, .int v5_2), (4, .int v4_3)]) dX6_commonDivisor_28 2 rfl ci_1 (Nat.le_of_ble_eq_true rfl) [1, 2, 0] (fun _ => rfl) h (fun v4_3 h => ?_)
      refine x_goto 31 C 7 dX6_commonDivisor_31 rfl ?_
      exact ih _ h
set_option maxRecDepth 100000 in
set_option maxHeartbeats 4000000 in
theorem M_X6_commonDivisor (l : Launch) (D : va_G) (a : Nat → Nat) (b : Nat → ClassId) (S0 : XSt) (x0 : Int32) (x1 : Int32)  {r9 : Int32} (h : F_X6_commonDivisor S0 x0 x1 = some r9) : xM l (ωC D a b) yX6_commonDivisor cX6_commonDivisor 6 (some .int) rm_X6_commonDivisor [.int x0, .int x1] S0 (some (.int r9), S0) := by
  unfold F_X6_commonDivisor at h
  refine xM_of (own := "GraveOrder") (by decide) rfl (Nat.le_of_ble_eq_true rfl) (fun Γ C => ?_)
  refine x_sub 0 [0, 1] (lv' := [(0, .int x0), (1, .int x1)]) rfl ?_
  refine x_iload_n 0 C dX6_commonDivisor_0 rfl 0 rfl ?_
  refine x_istore_n 1 C (lv' := [(1, .int x1), (2, .int x0)]) dX6_commonDivisor_1 rfl (Nat.le_of_ble_eq_true rfl) [2, 0] rfl ?_
  refine x_iload_n 2 C dX6_commonDivisor_2 rfl 0 rfl ?_
  refine x_istore_n 3 C (lv' := [(2, .int x0), (3, .int x1)]) dX6_commonDivisor_3 rfl (Nat.le_of_ble_eq_true rfl) [2, 0] rfl ?_
  refine x_iconst 4 C dX6_commonDivisor_4 ci_0 ?_
  refine x_istore 5 C (lv' := [(2, .int x0), (3, .int x1), (4, .int 0)]) dX6_commonDivisor_5 (Nat.le_of_ble_eq_true rfl) [1, 2, 0] rfl ?_
  refine x_loop (E := fun e => XAt (ωC D a b) Γ 34 [(2, .int e)] [] S0) (P := fun t => XAt (ωC D a b) Γ 7 [(2, .int t.1), (3, .int t.2.1), (4, .int t.2.2)] [] S0) h (fun e4 h => ?_) (fun kx rc t hk ih h => w_X6_commonDivisor_7 l D a b S0 C    kx rc hk ih t.1 t.2.1 t.2.2 h)
  refine x_iload_n 34 C dX6_commonDivisor_34 rfl 0 rfl ?_
  exact x_iret 35 C dX6_commonDivisor_35 (Option.some.inj h) rfl
/-! GraveOrder.inLowestTerms (III)J -/
def F_X6_inLowestTerms (S0 : XSt) (x0 : Int32) (x1 : Int32) (x2 : Int32) : (Option Int64) :=
  ((F_X6_commonDivisor S0 x0 x1).bind fun z1 => (xlet (xmax 1 z1) fun v3_2 => (if x2 = 0 then (if ¬ v3_2 = 0 then (some (((x0 / v3_2)).toInt64)) else none) else (if ¬ v3_2 = 0 then (some (((x1 / v3_2)).toInt64)) else none))))
abbrev rm_X6_inLowestTerms : Room := { frames := 1, cells := 0, slots := 0, locals := 25 }
set_option maxRecDepth 100000 in
set_option maxHeartbeats 4000000 in
theorem M_X6_inLowestTerms (l : Launch) (D : va_G) (a : Nat → Nat) (b : Nat → ClassId) (S0 : XSt) (x0 : Int32) (x1 : Int32) (x2 : Int32)  {r9 : Int64} (h : F_X6_inLowestTerms S0 x0 x1 x2 = some r9) : xM l (ωC D a b) yX6_inLowestTerms cX6_inLowestTerms 4 (some .long) rm_X6_inLowestTerms [.int x0, .int x1, .int x2] S0 (some (.long r9), S0) := by
  unfold F_X6_inLowestTerms at h
  refine xM_of (own := "GraveOrder") (by decide) rfl (Nat.le_of_ble_eq_true rfl) (fun Γ C => ?_)
  refine x_sub 0 [0, 1, 2] (lv' := [(0, .int x0), (1, .int x1), (2, .int x2)]) rfl ?_
  refine x_iconst 0 C dX6_inLowestTerms_0 ci_1 ?_
  refine x_iload_n 1 C dX6_inLowestTerms_1 rfl 0 rfl ?_
  refine x_iload_n 2 C dX6_inLowestTerms_2 rfl 1 rfl ?_
  obtain ⟨z1, hz1, h⟩ := xbind_some h
  refine x_callS 3 C 2 (As := [.int x0, .int x1]) (rest := [.int 1]) (M_X6_commonDivisor l D a b S0 x0 x1  hz1) kw_571 ms_X6_commonDivisor mh_X6_commonDivisor ⟨rfl, rfl⟩ ⟨Nat.le_of_ble_eq_true rfl, Nat.le_of_ble_eq_true rfl⟩ rfl rfl (Nat.le_of_ble_eq_true rfl) dX6_inLowestTerms_3 ?_
  refine y_mmax 6 C kw_574_max kmath_max.1 kmath kmath_max.2 (Nat.le_of_ble_eq_true rfl) (Nat.le_of_ble_eq_true rfl) dX6_inLowestTerms_6 ?_
  refine x_top h (fun v3_2 h => ?_)
  refine x_istore_n 9 C (lv' := [(0, .int x0), (1, .int x1), (2, .int x2), (3, .int v3_2)]) dX6_inLowestTerms_9 rfl (Nat.le_of_ble_eq_true rfl) [1, 2, 3, 0] rfl ?_
  refine x_iload_n 10 C dX6_inLowestTerms_10 rfl 2 rfl ?_
  refine x_if_ne 11 C 18 dX6_inLowestTerms_11 rfl h (fun h => ?_) (fun h => ?_)
  · refine x_iload_n 18 C dX6_inLowestTerms_18 rfl 1 rfl ?_
    refine x_iload_n 19 C dX6_inLowestTerms_19 rfl 3 rfl ?_
    obtain ⟨hg3, h⟩ := xif_some h
    refine x_idiv 20 C hg3 dX6_inLowestTerms_20 ?_
    refine x_i2l 21 C dX6_inLowestTerms_21 ?_
    exact x_lret 22 C dX6_inLowestTerms_22 (Option.some.inj h) rfl
  · refine x_iload_n 14 C dX6_inLowestTerms_14 rfl 0 rfl ?_
    refine x_goto 15 C 19 dX6_inLowestTerms_15 rfl ?_
    refine x_iload_n 19 C dX6_inLowestTerms_19 rfl 3 rfl ?_
    obtain ⟨hg4, h⟩ := xif_some h
    refine x_idiv 20 C hg4 dX6_inLowestTerms_20 ?_
    refine x_i2l 21 C dX6_inLowestTerms_21 ?_
    exact x_lret 22 C dX6_inLowestTerms_22 (Option.some.inj h) rfl
/-! GraveOrder.mean (I)J -/
def F_X6_mean (S0 : XSt) (x1 : Int32) : (Option (Int64 × XSt)) :=
  (if (F_X6_within x1 0 1) = 0 then (some ((F_X6_longRefusal (-2)), S0)) else ((F_X3_settle S0).bind fun z1 => (if z1.1 = 0 then (some ((F_X6_longRefusal (-3)), z1.2)) else ((F_X3_settleSpread z1.2).bind fun z2 => ((F_X3_gapsOfAll z2).bind fun z3 => ((F_X3_withGapsUpTo z2 999).bind fun z4 => ((F_X6_inLowestTerms z2 z3 z4 x1).bind fun z5 => (some (z5, z2)))))))))
abbrev rm_X6_mean : Room := { frames := 13, cells := 0, slots := 0, locals := 345 }
set_option maxRecDepth 100000 in
set_option maxHeartbeats 4000000 in
theorem M_X6_mean (l : Launch) (D : va_G) (a : Nat → Nat) (b : Nat → ClassId) (S0 : XSt) (x1 : Int32)  {r9 : Int64} {S9 : XSt} (h : F_X6_mean S0 x1 = some (r9, S9)) : xM l (ωC D a b) yX6_mean cX6_mean 2 (some .long) rm_X6_mean [.ref (a 0), .int x1] S0 (some (.long r9), S9) := by
  unfold F_X6_mean at h
  refine xM_of (own := "GraveOrder") (by decide) rfl (Nat.le_of_ble_eq_true rfl) (fun Γ C => ?_)
  refine x_sub 0 [0, 1] (lv' := [(0, .ref (a 0)), (1, .int x1)]) rfl ?_
  refine x_iload_n 0 C dX6_mean_0 rfl 1 rfl ?_
  refine x_iconst 1 C dX6_mean_1 ci_0 ?_
  refine x_iconst 2 C dX6_mean_2 ci_1 ?_
  refine x_callS 3 C 3 (As := [.int x1, .int 0, .int 1]) (rest := []) (M_X6_within l (ωC D a b) S0 x1 0 1) kw_307 ms_X6_within mh_X6_within ⟨rfl, rfl⟩ ⟨Nat.le_of_ble_eq_true rfl, Nat.le_of_ble_eq_true rfl⟩ rfl rfl (Nat.le_of_ble_eq_true rfl) dX6_mean_3 ?_
  refine x_if_ne 6 C 15 dX6_mean_6 rfl h (fun h => ?_) (fun h => ?_)
  · refine x_aload_n 15 C dX6_mean_15 rfl 0 rfl ?_
    refine gX6_orders 16 C kw_281 dX6_mean_16 ?_
    obtain ⟨z1, hz1, h⟩ := xbind_some h
    refine x_callV 19 C (q0 := 4) (ci := 3) 0 (As := []) (rest := []) (M_X3_settle l D a b S0   hz1) (by rfl) rfl kw_453 mv_X3_settle mh_X3_settle ⟨rfl, rfl⟩ ⟨Nat.le_of_ble_eq_true rfl, Nat.le_of_ble_eq_true rfl⟩ rfl rfl (Nat.le_of_ble_eq_true rfl) dX6_mean_19 ?_
    refine x_if_ne 22 C 31 dX6_mean_22 rfl h (fun h => ?_) (fun h => ?_)
    · refine x_aload_n 31 C dX6_mean_31 rfl 0 rfl ?_
      refine gX6_orders 32 C kw_281 dX6_mean_32 ?_
      obtain ⟨z2, hz2, h⟩ := xbind_some h
      refine x_callV 35 C (q0 := 4) (ci := 3) 0 (As := []) (rest := []) (M_X3_settleSpread l D a b z1.2   hz2) (by rfl) rfl kw_537 mv_X3_settleSpread mh_X3_settleSpread ⟨rfl, rfl⟩ ⟨Nat.le_of_ble_eq_true rfl, Nat.le_of_ble_eq_true rfl⟩ rfl rfl (Nat.le_of_ble_eq_true rfl) dX6_mean_35 ?_
      refine x_aload_n 38 C dX6_mean_38 rfl 0 rfl ?_
      refine gX6_orders 39 C kw_281 dX6_mean_39 ?_
      obtain ⟨z3, hz3, h⟩ := xbind_some h
      refine x_callV 42 C (q0 := 4) (ci := 3) 0 (As := []) (rest := []) (M_X3_gapsOfAll l D a b z2   hz3) (by rfl) rfl kw_564 mv_X3_gapsOfAll mh_X3_gapsOfAll ⟨rfl, rfl⟩ ⟨Nat.le_of_ble_eq_true rfl, Nat.le_of_ble_eq_true rfl⟩ rfl rfl (Nat.le_of_ble_eq_true rfl) dX6_mean_42 ?_
      refine x_aload_n 45 C dX6_mean_45 rfl 0 rfl ?_
      refine gX6_orders 46 C kw_281 dX6_mean_46 ?_
      refine x_sipush 49 C dX6_mean_49 cs_999 ?_
      obtain ⟨z4, hz4, h⟩ := xbind_some h
      refine x_callV 52 C (q0 := 4) (ci := 3) 1 (As := [.int 999]) (rest := [.int z3]) (M_X3_withGapsUpTo l D a b z2 999  hz4) (by rfl) rfl kw_552 mv_X3_withGapsUpTo mh_X3_withGapsUpTo ⟨rfl, rfl⟩ ⟨Nat.le_of_ble_eq_true rfl, Nat.le_of_ble_eq_true rfl⟩ rfl rfl (Nat.le_of_ble_eq_true rfl) dX6_mean_52 ?_
      refine x_iload_n 55 C dX6_mean_55 rfl 1 rfl ?_
      obtain ⟨z5, hz5, h⟩ := xbind_some h
      refine x_callS 56 C 3 (As := [.int z3, .int z4, .int x1]) (rest := []) (M_X6_inLowestTerms l D a b z2 z3 z4 x1  hz5) kw_568 ms_X6_inLowestTerms mh_X6_inLowestTerms ⟨rfl, rfl⟩ ⟨Nat.le_of_ble_eq_true rfl, Nat.le_of_ble_eq_true rfl⟩ rfl rfl (Nat.le_of_ble_eq_true rfl) dX6_mean_56 ?_
      exact x_lret 59 C dX6_mean_59 (Prod.mk.inj (Option.some.inj h)).1 (Prod.mk.inj (Option.some.inj h)).2
    · refine x_bipush 25 C dX6_mean_25 cb_m3 ?_
      refine x_callS 27 C 1 (As := [.int (-3)]) (rest := []) (M_X6_longRefusal l (ωC D a b) z1.2 (-3)) kw_560 ms_X6_longRefusal mh_X6_longRefusal ⟨rfl, rfl⟩ ⟨Nat.le_of_ble_eq_true rfl, Nat.le_of_ble_eq_true rfl⟩ rfl rfl (Nat.le_of_ble_eq_true rfl) dX6_mean_27 ?_
      exact x_lret 30 C dX6_mean_30 (Prod.mk.inj (Option.some.inj h)).1 (Prod.mk.inj (Option.some.inj h)).2
  · refine x_bipush 9 C dX6_mean_9 cb_m2 ?_
    refine x_callS 11 C 1 (As := [.int (-2)]) (rest := []) (M_X6_longRefusal l (ωC D a b) S0 (-2)) kw_560 ms_X6_longRefusal mh_X6_longRefusal ⟨rfl, rfl⟩ ⟨Nat.le_of_ble_eq_true rfl, Nat.le_of_ble_eq_true rfl⟩ rfl rfl (Nat.le_of_ble_eq_true rfl) dX6_mean_11 ?_
    exact x_lret 14 C dX6_mean_14 (Prod.mk.inj (Option.some.inj h)).1 (Prod.mk.inj (Option.some.inj h)).2
/-! GraveOrder.leftOut ()I -/
def F_X6_leftOut (S0 : XSt)  : (Option (Int32 × XSt)) :=
  ((F_X3_settle S0).bind fun z1 => (if z1.1 = 0 then (some ((-3), z1.2)) else ((F_X3_fewestLeftOut z1.2).bind fun z2 => (some (z2.1, z2.2)))))
abbrev rm_X6_leftOut : Room := { frames := 5, cells := 0, slots := 0, locals := 109 }
set_option maxRecDepth 100000 in
set_option maxHeartbeats 4000000 in
theorem M_X6_leftOut (l : Launch) (D : va_G) (a : Nat → Nat) (b : Nat → ClassId) (S0 : XSt)   {r9 : Int32} {S9 : XSt} (h : F_X6_leftOut S0 = some (r9, S9)) : xM l (ωC D a b) yX6_leftOut cX6_leftOut 1 (some .int) rm_X6_leftOut [.ref (a 0)] S0 (some (.int r9), S9) := by
  unfold F_X6_leftOut at h
  refine xM_of (own := "GraveOrder") (by decide) rfl (Nat.le_of_ble_eq_true rfl) (fun Γ C => ?_)
  refine x_sub 0 [0] (lv' := [(0, .ref (a 0))]) rfl ?_
  refine x_aload_n 0 C dX6_leftOut_0 rfl 0 rfl ?_
  refine gX6_orders 1 C kw_281 dX6_leftOut_1 ?_
  obtain ⟨z1, hz1, h⟩ := xbind_some h
  refine x_callV 4 C (q0 := 4) (ci := 3) 0 (As := []) (rest := []) (M_X3_settle l D a b S0   hz1) (by rfl) rfl kw_453 mv_X3_settle mh_X3_settle ⟨rfl, rfl⟩ ⟨Nat.le_of_ble_eq_true rfl, Nat.le_of_ble_eq_true rfl⟩ rfl rfl (Nat.le_of_ble_eq_true rfl) dX6_leftOut_4 ?_
  refine x_if_eq 7 C 20 dX6_leftOut_7 rfl h (fun h => ?_) (fun h => ?_)
  · refine x_bipush 20 C dX6_leftOut_20 cb_m3 ?_
    exact x_iret 22 C dX6_leftOut_22 (Prod.mk.inj (Option.some.inj h)).1 (Prod.mk.inj (Option.some.inj h)).2
  · refine x_aload_n 10 C dX6_leftOut_10 rfl 0 rfl ?_
    refine gX6_orders 11 C kw_281 dX6_leftOut_11 ?_
    obtain ⟨z2, hz2, h⟩ := xbind_some h
    refine x_callV 14 C (q0 := 4) (ci := 3) 0 (As := []) (rest := []) (M_X3_fewestLeftOut l D a b z1.2   hz2) (by rfl) rfl kw_579 mv_X3_fewestLeftOut mh_X3_fewestLeftOut ⟨rfl, rfl⟩ ⟨Nat.le_of_ble_eq_true rfl, Nat.le_of_ble_eq_true rfl⟩ rfl rfl (Nat.le_of_ble_eq_true rfl) dX6_leftOut_14 ?_
    refine x_goto 17 C 22 dX6_leftOut_17 rfl ?_
    exact x_iret 22 C dX6_leftOut_22 (Prod.mk.inj (Option.some.inj h)).1 (Prod.mk.inj (Option.some.inj h)).2
/-! GraveOrder.mended (I)I -/
def F_X6_mended (S0 : XSt) (x1 : Int32) : (Option (Int32 × XSt)) :=
  (if (F_X6_isKind x1) = 0 then (some ((-2), S0)) else ((F_X3_settle S0).bind fun z1 => (if z1.1 = 0 then (some ((-3), z1.2)) else ((F_X1_mending z1.2 x1).bind fun z2 => (some (z2, z1.2))))))
abbrev rm_X6_mended : Room := { frames := 5, cells := 0, slots := 0, locals := 109 }
set_option maxRecDepth 100000 in
set_option maxHeartbeats 4000000 in
theorem M_X6_mended (l : Launch) (D : va_G) (a : Nat → Nat) (b : Nat → ClassId) (S0 : XSt) (x1 : Int32)  {r9 : Int32} {S9 : XSt} (h : F_X6_mended S0 x1 = some (r9, S9)) : xM l (ωC D a b) yX6_mended cX6_mended 2 (some .int) rm_X6_mended [.ref (a 0), .int x1] S0 (some (.int r9), S9) := by
  unfold F_X6_mended at h
  refine xM_of (own := "GraveOrder") (by decide) rfl (Nat.le_of_ble_eq_true rfl) (fun Γ C => ?_)
  refine x_sub 0 [0, 1] (lv' := [(0, .ref (a 0)), (1, .int x1)]) rfl ?_
  refine x_iload_n 0 C dX6_mended_0 rfl 1 rfl ?_
  refine x_callS 1 C 1 (As := [.int x1]) (rest := []) (M_X6_isKind l (ωC D a b) S0 x1) kw_326 ms_X6_isKind mh_X6_isKind ⟨rfl, rfl⟩ ⟨Nat.le_of_ble_eq_true rfl, Nat.le_of_ble_eq_true rfl⟩ rfl rfl (Nat.le_of_ble_eq_true rfl) dX6_mended_1 ?_
  refine x_if_ne 4 C 10 dX6_mended_4 rfl h (fun h => ?_) (fun h => ?_)
  · refine x_aload_n 10 C dX6_mended_10 rfl 0 rfl ?_
    refine gX6_orders 11 C kw_281 dX6_mended_11 ?_
    obtain ⟨z1, hz1, h⟩ := xbind_some h
    refine x_callV 14 C (q0 := 4) (ci := 3) 0 (As := []) (rest := []) (M_X3_settle l D a b S0   hz1) (by rfl) rfl kw_453 mv_X3_settle mh_X3_settle ⟨rfl, rfl⟩ ⟨Nat.le_of_ble_eq_true rfl, Nat.le_of_ble_eq_true rfl⟩ rfl rfl (Nat.le_of_ble_eq_true rfl) dX6_mended_14 ?_
    refine x_if_eq 17 C 31 dX6_mended_17 rfl h (fun h => ?_) (fun h => ?_)
    · refine x_bipush 31 C dX6_mended_31 cb_m3 ?_
      exact x_iret 33 C dX6_mended_33 (Prod.mk.inj (Option.some.inj h)).1 (Prod.mk.inj (Option.some.inj h)).2
    · refine x_aload_n 20 C dX6_mended_20 rfl 0 rfl ?_
      refine gX6_firstRow 21 C kw_282 dX6_mended_21 ?_
      refine x_iload_n 24 C dX6_mended_24 rfl 1 rfl ?_
      obtain ⟨z2, hz2, h⟩ := xbind_some h
      refine x_callV 25 C (q0 := 5) (ci := 1) 1 (As := [.int x1]) (rest := []) (M_X1_mending l D a b z1.2 x1  hz2) (by rfl) rfl kw_599 mv_X1_mending mh_X1_mending ⟨rfl, rfl⟩ ⟨Nat.le_of_ble_eq_true rfl, Nat.le_of_ble_eq_true rfl⟩ rfl rfl (Nat.le_of_ble_eq_true rfl) dX6_mended_25 ?_
      refine x_goto 28 C 33 dX6_mended_28 rfl ?_
      exact x_iret 33 C dX6_mended_33 (Prod.mk.inj (Option.some.inj h)).1 (Prod.mk.inj (Option.some.inj h)).2
  · refine x_bipush 7 C dX6_mended_7 cb_m2 ?_
    exact x_iret 9 C dX6_mended_9 (Prod.mk.inj (Option.some.inj h)).1 (Prod.mk.inj (Option.some.inj h)).2
/-! GraveOrder.phases (II)I -/
def F_X6_phases (S0 : XSt) (x1 : Int32) (x2 : Int32) : (Option (Int32 × XSt)) :=
  (if (F_X6_within x1 1 8) = 0 then (some ((-2), S0)) else (xlet (fun (t1 : Unit) => (if (S0 1 4) < x1 then (some ((-3), S0)) else ((F_X3_settle S0).bind fun z3 => (if z3.1 = 0 then (some ((-3), z3.2)) else ((F_X1_bestCuts z3.2 x1).bind fun z4 => (if x2 = (-1) then ((F_X1_straddles z3.2 z4).bind fun z6 => (some (z6, z3.2))) else ((F_X1_partOf z3.2 x2 z4).bind fun z5 => (some (z5, z3.2))))))))) fun j2 => (if x2 = (-1) then j2 () else (if (F_X6_isGrave S0 x2) = 0 then (some ((-2), S0)) else j2 ()))))
abbrev rm_X6_phases : Room := { frames := 5, cells := 0, slots := 0, locals := 109 }
set_option maxRecDepth 100000 in
set_option maxHeartbeats 4000000 in
theorem M_X6_phases (l : Launch) (D : va_G) (a : Nat → Nat) (b : Nat → ClassId) (S0 : XSt) (x1 : Int32) (x2 : Int32)  {r9 : Int32} {S9 : XSt} (h : F_X6_phases S0 x1 x2 = some (r9, S9)) : xM l (ωC D a b) yX6_phases cX6_phases 4 (some .int) rm_X6_phases [.ref (a 0), .int x1, .int x2] S0 (some (.int r9), S9) := by
  unfold F_X6_phases at h
  refine xM_of (own := "GraveOrder") (by decide) rfl (Nat.le_of_ble_eq_true rfl) (fun Γ C => ?_)
  refine x_sub 0 [0, 1, 2] (lv' := [(0, .ref (a 0)), (1, .int x1), (2, .int x2)]) rfl ?_
  refine x_iload_n 0 C dX6_phases_0 rfl 1 rfl ?_
  refine x_iconst 1 C dX6_phases_1 ci_1 ?_
  refine x_bipush 2 C dX6_phases_2 cb_8 ?_
  refine x_callS 4 C 3 (As := [.int x1, .int 1, .int 8]) (rest := []) (M_X6_within l (ωC D a b) S0 x1 1 8) kw_307 ms_X6_within mh_X6_within ⟨rfl, rfl⟩ ⟨Nat.le_of_ble_eq_true rfl, Nat.le_of_ble_eq_true rfl⟩ rfl rfl (Nat.le_of_ble_eq_true rfl) dX6_phases_4 ?_
  refine x_if_eq 7 C 23 dX6_phases_7 rfl h (fun h => ?_) (fun h => ?_)
  · refine x_bipush 23 C dX6_phases_23 cb_m2 ?_
    exact x_iret 25 C dX6_phases_25 (Prod.mk.inj (Option.some.inj h)).1 (Prod.mk.inj (Option.some.inj h)).2
  · refine x_iload_n 10 C dX6_phases_10 rfl 2 rfl ?_
    refine x_iconst 11 C dX6_phases_11 ci_m1 ?_
    refine x_join (P := fun t1 => XAt (ωC D a b) Γ 26 [(0, .ref (a 0)), (1, .int x1), (2, .int x2)] [] S0) h (fun t1 h => ?_) (fun j2 hj2 h => ?_)
    · refine x_iload_n 26 C dX6_phases_26 rfl 1 rfl ?_
      refine x_aload_n 27 C dX6_phases_27 rfl 0 rfl ?_
      refine gX6_yard 28 C kw_278 dX6_phases_28 ?_
      refine gX5_graves 31 C kw_104 dX6_phases_31 ?_
      refine x_icmp_gt 34 C 47 dX6_phases_34 rfl h (fun h => ?_) (fun h => ?_)
      · refine x_bipush 47 C dX6_phases_47 cb_m3 ?_
        exact x_iret 49 C dX6_phases_49 (Prod.mk.inj (Option.some.inj h)).1 (Prod.mk.inj (Option.some.inj h)).2
      · refine x_aload_n 37 C dX6_phases_37 rfl 0 rfl ?_
        refine gX6_orders 38 C kw_281 dX6_phases_38 ?_
        obtain ⟨z3, hz3, h⟩ := xbind_some h
        refine x_callV 41 C (q0 := 4) (ci := 3) 0 (As := []) (rest := []) (M_X3_settle l D a b S0   hz3) (by rfl) rfl kw_453 mv_X3_settle mh_X3_settle ⟨rfl, rfl⟩ ⟨Nat.le_of_ble_eq_true rfl, Nat.le_of_ble_eq_true rfl⟩ rfl rfl (Nat.le_of_ble_eq_true rfl) dX6_phases_41 ?_
        refine x_if_ne 44 C 50 dX6_phases_44 rfl h (fun h => ?_) (fun h => ?_)
        · refine x_aload_n 50 C dX6_phases_50 rfl 0 rfl ?_
          refine gX6_firstRow 51 C kw_282 dX6_phases_51 ?_
          refine x_iload_n 54 C dX6_phases_54 rfl 1 rfl ?_
          obtain ⟨z4, hz4, h⟩ := xbind_some h
          refine x_callV 55 C (q0 := 5) (ci := 1) 1 (As := [.int x1]) (rest := []) (M_X1_bestCuts l D a b z3.2 x1  hz4) (by rfl) rfl kw_620 mv_X1_bestCuts mh_X1_bestCuts ⟨rfl, rfl⟩ ⟨Nat.le_of_ble_eq_true rfl, Nat.le_of_ble_eq_true rfl⟩ rfl rfl (Nat.le_of_ble_eq_true rfl) dX6_phases_55 ?_
          refine x_istore_n 58 C (lv' := [(0, .ref (a 0)), (2, .int x2), (3, .int z4)]) dX6_phases_58 rfl (Nat.le_of_ble_eq_true rfl) [1, 3, 0] rfl ?_
          refine x_iload_n 59 C dX6_phases_59 rfl 1 rfl ?_
          refine x_iconst 60 C dX6_phases_60 ci_m1 ?_
          refine x_icmp_ne 61 C 75 dX6_phases_61 rfl h (fun h => ?_) (fun h => ?_)
          · refine x_aload_n 75 C dX6_phases_75 rfl 0 rfl ?_
            refine gX6_firstRow 76 C kw_282 dX6_phases_76 ?_
            refine x_iload_n 79 C dX6_phases_79 rfl 1 rfl ?_
            refine x_iload_n 80 C dX6_phases_80 rfl 2 rfl ?_
            obtain ⟨z5, hz5, h⟩ := xbind_some h
            refine x_callV 81 C (q0 := 5) (ci := 1) 2 (As := [.int x2, .int z4]) (rest := []) (M_X1_partOf l D a b z3.2 x2 z4  hz5) (by rfl) rfl kw_640 mv_X1_partOf mh_X1_partOf ⟨rfl, rfl⟩ ⟨Nat.le_of_ble_eq_true rfl, Nat.le_of_ble_eq_true rfl⟩ rfl rfl (Nat.le_of_ble_eq_true rfl) dX6_phases_81 ?_
            exact x_iret 84 C dX6_phases_84 (Prod.mk.inj (Option.some.inj h)).1 (Prod.mk.inj (Option.some.inj h)).2
          · refine x_aload_n 64 C dX6_phases_64 rfl 0 rfl ?_
            refine gX6_firstRow 65 C kw_282 dX6_phases_65 ?_
            refine x_iload_n 68 C dX6_phases_68 rfl 2 rfl ?_
            obtain ⟨z6, hz6, h⟩ := xbind_some h
            refine x_callV 69 C (q0 := 5) (ci := 1) 1 (As := [.int z4]) (rest := []) (M_X1_straddles l D a b z3.2 z4  hz6) (by rfl) rfl kw_639 mv_X1_straddles mh_X1_straddles ⟨rfl, rfl⟩ ⟨Nat.le_of_ble_eq_true rfl, Nat.le_of_ble_eq_true rfl⟩ rfl rfl (Nat.le_of_ble_eq_true rfl) dX6_phases_69 ?_
            refine x_goto 72 C 84 dX6_phases_72 rfl ?_
            exact x_iret 84 C dX6_phases_84 (Prod.mk.inj (Option.some.inj h)).1 (Prod.mk.inj (Option.some.inj h)).2
        · refine x_bipush 47 C dX6_phases_47 cb_m3 ?_
          exact x_iret 49 C dX6_phases_49 (Prod.mk.inj (Option.some.inj h)).1 (Prod.mk.inj (Option.some.inj h)).2
    refine x_icmp_eq 12 C 26 dX6_phases_12 rfl h (fun h => ?_) (fun h => ?_)
    · exact hj2 _ h
    · refine x_aload_n 15 C dX6_phases_15 rfl 0 rfl ?_
      refine x_iload_n 16 C dX6_phases_16 rfl 2 rfl ?_
      refine x_callV 17 C (q0 := 0) (ci := 6) 1 (As := [.int x2]) (rest := []) (M_X6_isGrave l D a b S0 x2 ) (by rfl) rfl kw_318 mv_X6_isGrave mh_X6_isGrave ⟨rfl, rfl⟩ ⟨Nat.le_of_ble_eq_true rfl, Nat.le_of_ble_eq_true rfl⟩ rfl rfl (Nat.le_of_ble_eq_true rfl) dX6_phases_17 ?_
      refine x_if_ne 20 C 26 dX6_phases_20 rfl h (fun h => ?_) (fun h => ?_)
      · exact hj2 _ h
      · refine x_bipush 23 C dX6_phases_23 cb_m2 ?_
        exact x_iret 25 C dX6_phases_25 (Prod.mk.inj (Option.some.inj h)).1 (Prod.mk.inj (Option.some.inj h)).2
/-! GraveOrder.years (III)I -/
def F_X6_years (S0 : XSt) (x1 : Int32) (x2 : Int32) (x3 : Int32) : (Option (Int32 × XSt)) :=
  (if (F_X6_within x1 0 1) = 0 then (some ((-2), S0)) else (if (F_X6_within x3 0 1) = 0 then (some ((-2), S0)) else (xlet (fun (t1 : Unit) => ((F_X3_settle S0).bind fun z3 => (if z3.1 = 0 then (some ((-3), z3.2)) else (if x1 = 0 then ((F_X1_yearOfGrave z3.2 x2 x3).bind fun z6 => (some (z6, z3.2))) else ((F_X5_kindsOfAll z3.2).bind fun z4 => (if ((z4 >>> (x2 &&& 31)) &&& (1 : Int32)) = 0 then (some ((-3), z3.2)) else ((F_X1_yearOfKind z3.2 x2 x3).bind fun z5 => (some (z5, z3.2))))))))) fun j2 => (if x1 = 0 then (if (F_X6_isGrave S0 x2) = 0 then (some ((-2), S0)) else j2 ()) else (if (F_X6_isKind x2) = 0 then (some ((-2), S0)) else j2 ())))))
abbrev rm_X6_years : Room := { frames := 5, cells := 0, slots := 0, locals := 109 }
set_option maxRecDepth 100000 in
set_option maxHeartbeats 4000000 in
theorem M_X6_years (l : Launch) (D : va_G) (a : Nat → Nat) (b : Nat → ClassId) (S0 : XSt) (x1 : Int32) (x2 : Int32) (x3 : Int32)  {r9 : Int32} {S9 : XSt} (h : F_X6_years S0 x1 x2 x3 = some (r9, S9)) : xM l (ωC D a b) yX6_years cX6_years 4 (some .int) rm_X6_years [.ref (a 0), .int x1, .int x2, .int x3] S0 (some (.int r9), S9) := by
  unfold F_X6_years at h
  refine xM_of (own := "GraveOrder") (by decide) rfl (Nat.le_of_ble_eq_true rfl) (fun Γ C => ?_)
  refine x_sub 0 [0, 1, 2, 3] (lv' := [(0, .ref (a 0)), (1, .int x1), (2, .int x2), (3, .int x3)]) rfl ?_
  refine x_iload_n 0 C dX6_years_0 rfl 1 rfl ?_
  refine x_iconst 1 C dX6_years_1 ci_0 ?_
  refine x_iconst 2 C dX6_years_2 ci_1 ?_
  refine x_callS 3 C 3 (As := [.int x1, .int 0, .int 1]) (rest := []) (M_X6_within l (ωC D a b) S0 x1 0 1) kw_307 ms_X6_within mh_X6_within ⟨rfl, rfl⟩ ⟨Nat.le_of_ble_eq_true rfl, Nat.le_of_ble_eq_true rfl⟩ rfl rfl (Nat.le_of_ble_eq_true rfl) dX6_years_3 ?_
  refine x_if_eq 6 C 40 dX6_years_6 rfl h (fun h => ?_) (fun h => ?_)
  · refine x_bipush 40 C dX6_years_40 cb_m2 ?_
    exact x_iret 42 C dX6_years_42 (Prod.mk.inj (Option.some.inj h)).1 (Prod.mk.inj (Option.some.inj h)).2
  · refine x_iload_n 9 C dX6_years_9 rfl 3 rfl ?_
    refine x_iconst 10 C dX6_years_10 ci_0 ?_
    refine x_iconst 11 C dX6_years_11 ci_1 ?_
    refine x_callS 12 C 3 (As := [.int x3, .int 0, .int 1]) (rest := []) (M_X6_within l (ωC D a b) S0 x3 0 1) kw_307 ms_X6_within mh_X6_within ⟨rfl, rfl⟩ ⟨Nat.le_of_ble_eq_true rfl, Nat.le_of_ble_eq_true rfl⟩ rfl rfl (Nat.le_of_ble_eq_true rfl) dX6_years_12 ?_
    refine x_if_eq 15 C 40 dX6_years_15 rfl h (fun h => ?_) (fun h => ?_)
    · refine x_bipush 40 C dX6_years_40 cb_m2 ?_
      exact x_iret 42 C dX6_years_42 (Prod.mk.inj (Option.some.inj h)).1 (Prod.mk.inj (Option.some.inj h)).2
    · refine x_iload_n 18 C dX6_years_18 rfl 1 rfl ?_
      refine x_join (P := fun t1 => XAt (ωC D a b) Γ 43 [(0, .ref (a 0)), (1, .int x1), (2, .int x2), (3, .int x3)] [] S0) h (fun t1 h => ?_) (fun j2 hj2 h => ?_)
      · refine x_aload_n 43 C dX6_years_43 rfl 0 rfl ?_
        refine gX6_orders 44 C kw_281 dX6_years_44 ?_
        obtain ⟨z3, hz3, h⟩ := xbind_some h
        refine x_callV 47 C (q0 := 4) (ci := 3) 0 (As := []) (rest := []) (M_X3_settle l D a b S0   hz3) (by rfl) rfl kw_453 mv_X3_settle mh_X3_settle ⟨rfl, rfl⟩ ⟨Nat.le_of_ble_eq_true rfl, Nat.le_of_ble_eq_true rfl⟩ rfl rfl (Nat.le_of_ble_eq_true rfl) dX6_years_47 ?_
        refine x_if_ne 50 C 56 dX6_years_50 rfl h (fun h => ?_) (fun h => ?_)
        · refine x_iload_n 56 C dX6_years_56 rfl 1 rfl ?_
          refine x_if_ne 57 C 70 dX6_years_57 rfl h (fun h => ?_) (fun h => ?_)
          · refine x_aload_n 70 C dX6_years_70 rfl 0 rfl ?_
            refine gX6_yard 71 C kw_278 dX6_years_71 ?_
            obtain ⟨z4, hz4, h⟩ := xbind_some h
            refine x_callV 74 C (q0 := 1) (ci := 5) 0 (As := []) (rest := []) (M_X5_kindsOfAll l D a b z3.2   hz4) (by rfl) rfl kw_656 mv_X5_kindsOfAll mh_X5_kindsOfAll ⟨rfl, rfl⟩ ⟨Nat.le_of_ble_eq_true rfl, Nat.le_of_ble_eq_true rfl⟩ rfl rfl (Nat.le_of_ble_eq_true rfl) dX6_years_74 ?_
            refine x_iload_n 77 C dX6_years_77 rfl 2 rfl ?_
            refine x_ishr 78 C dX6_years_78 ?_
            refine x_iconst 79 C dX6_years_79 ci_1 ?_
            refine x_iand 80 C dX6_years_80 ?_
            refine x_if_ne 81 C 89 dX6_years_81 rfl h (fun h => ?_) (fun h => ?_)
            · refine x_aload_n 89 C dX6_years_89 rfl 0 rfl ?_
              refine gX6_firstRow 90 C kw_282 dX6_years_90 ?_
              refine x_iload_n 93 C dX6_years_93 rfl 2 rfl ?_
              refine x_iload_n 94 C dX6_years_94 rfl 3 rfl ?_
              obtain ⟨z5, hz5, h⟩ := xbind_some h
              refine x_callV 95 C (q0 := 5) (ci := 1) 2 (As := [.int x2, .int x3]) (rest := []) (M_X1_yearOfKind l D a b z3.2 x2 x3  hz5) (by rfl) rfl kw_657 mv_X1_yearOfKind mh_X1_yearOfKind ⟨rfl, rfl⟩ ⟨Nat.le_of_ble_eq_true rfl, Nat.le_of_ble_eq_true rfl⟩ rfl rfl (Nat.le_of_ble_eq_true rfl) dX6_years_95 ?_
              exact x_iret 98 C dX6_years_98 (Prod.mk.inj (Option.some.inj h)).1 (Prod.mk.inj (Option.some.inj h)).2
            · refine x_bipush 84 C dX6_years_84 cb_m3 ?_
              refine x_goto 86 C 98 dX6_years_86 rfl ?_
              exact x_iret 98 C dX6_years_98 (Prod.mk.inj (Option.some.inj h)).1 (Prod.mk.inj (Option.some.inj h)).2
          · refine x_aload_n 60 C dX6_years_60 rfl 0 rfl ?_
            refine gX6_firstRow 61 C kw_282 dX6_years_61 ?_
            refine x_iload_n 64 C dX6_years_64 rfl 2 rfl ?_
            refine x_iload_n 65 C dX6_years_65 rfl 3 rfl ?_
            obtain ⟨z6, hz6, h⟩ := xbind_some h
            refine x_callV 66 C (q0 := 5) (ci := 1) 2 (As := [.int x2, .int x3]) (rest := []) (M_X1_yearOfGrave l D a b z3.2 x2 x3  hz6) (by rfl) rfl kw_652 mv_X1_yearOfGrave mh_X1_yearOfGrave ⟨rfl, rfl⟩ ⟨Nat.le_of_ble_eq_true rfl, Nat.le_of_ble_eq_true rfl⟩ rfl rfl (Nat.le_of_ble_eq_true rfl) dX6_years_66 ?_
            exact x_iret 69 C dX6_years_69 (Prod.mk.inj (Option.some.inj h)).1 (Prod.mk.inj (Option.some.inj h)).2
        · refine x_bipush 53 C dX6_years_53 cb_m3 ?_
          exact x_iret 55 C dX6_years_55 (Prod.mk.inj (Option.some.inj h)).1 (Prod.mk.inj (Option.some.inj h)).2
      refine x_if_ne 19 C 33 dX6_years_19 rfl h (fun h => ?_) (fun h => ?_)
      · refine x_iload_n 33 C dX6_years_33 rfl 2 rfl ?_
        refine x_callS 34 C 1 (As := [.int x2]) (rest := []) (M_X6_isKind l (ωC D a b) S0 x2) kw_326 ms_X6_isKind mh_X6_isKind ⟨rfl, rfl⟩ ⟨Nat.le_of_ble_eq_true rfl, Nat.le_of_ble_eq_true rfl⟩ rfl rfl (Nat.le_of_ble_eq_true rfl) dX6_years_34 ?_
        refine x_if_ne 37 C 43 dX6_years_37 rfl h (fun h => ?_) (fun h => ?_)
        · exact hj2 _ h
        · refine x_bipush 40 C dX6_years_40 cb_m2 ?_
          exact x_iret 42 C dX6_years_42 (Prod.mk.inj (Option.some.inj h)).1 (Prod.mk.inj (Option.some.inj h)).2
      · refine x_aload_n 22 C dX6_years_22 rfl 0 rfl ?_
        refine x_iload_n 23 C dX6_years_23 rfl 2 rfl ?_
        refine x_callV 24 C (q0 := 0) (ci := 6) 1 (As := [.int x2]) (rest := []) (M_X6_isGrave l D a b S0 x2 ) (by rfl) rfl kw_318 mv_X6_isGrave mh_X6_isGrave ⟨rfl, rfl⟩ ⟨Nat.le_of_ble_eq_true rfl, Nat.le_of_ble_eq_true rfl⟩ rfl rfl (Nat.le_of_ble_eq_true rfl) dX6_years_24 ?_
        refine x_if_eq 27 C 40 dX6_years_27 rfl h (fun h => ?_) (fun h => ?_)
        · refine x_bipush 40 C dX6_years_40 cb_m2 ?_
          exact x_iret 42 C dX6_years_42 (Prod.mk.inj (Option.some.inj h)).1 (Prod.mk.inj (Option.some.inj h)).2
        · refine x_goto 30 C 43 dX6_years_30 rfl ?_
          exact hj2 _ h
/-! GraveOrder.fresh (II)I -/
def F_X6_fresh (S0 : XSt) (x1 : Int32) (x2 : Int32) : (Option (Int32 × XSt)) :=
  (if (F_X6_within x1 0 1023) = 0 then (some ((-2), S0)) else (if (F_X6_within x2 0 1) = 0 then (some ((-2), S0)) else ((F_X3_settle S0).bind fun z1 => (if z1.1 = 0 then (some ((-3), z1.2)) else ((F_X1_fewestGapsWith z1.2 x1).bind fun z2 => (xlet z2.1 fun v3_3 => (if x2 = 0 then ((F_X1_placesWith z2.2 x1 v3_3).bind fun z4 => (some (z4.1, z4.2))) else (some (v3_3, z2.2)))))))))
abbrev rm_X6_fresh : Room := { frames := 5, cells := 0, slots := 0, locals := 117 }
set_option maxRecDepth 100000 in
set_option maxHeartbeats 4000000 in
theorem M_X6_fresh (l : Launch) (D : va_G) (a : Nat → Nat) (b : Nat → ClassId) (S0 : XSt) (x1 : Int32) (x2 : Int32)  {r9 : Int32} {S9 : XSt} (h : F_X6_fresh S0 x1 x2 = some (r9, S9)) : xM l (ωC D a b) yX6_fresh cX6_fresh 4 (some .int) rm_X6_fresh [.ref (a 0), .int x1, .int x2] S0 (some (.int r9), S9) := by
  unfold F_X6_fresh at h
  refine xM_of (own := "GraveOrder") (by decide) rfl (Nat.le_of_ble_eq_true rfl) (fun Γ C => ?_)
  refine x_sub 0 [0, 1, 2] (lv' := [(0, .ref (a 0)), (1, .int x1), (2, .int x2)]) rfl ?_
  refine x_iload_n 0 C dX6_fresh_0 rfl 1 rfl ?_
  refine x_iconst 1 C dX6_fresh_1 ci_0 ?_
  refine x_sipush 2 C dX6_fresh_2 cs_1023 ?_
  refine x_callS 5 C 3 (As := [.int x1, .int 0, .int 1023]) (rest := []) (M_X6_within l (ωC D a b) S0 x1 0 1023) kw_307 ms_X6_within mh_X6_within ⟨rfl, rfl⟩ ⟨Nat.le_of_ble_eq_true rfl, Nat.le_of_ble_eq_true rfl⟩ rfl rfl (Nat.le_of_ble_eq_true rfl) dX6_fresh_5 ?_
  refine x_if_eq 8 C 20 dX6_fresh_8 rfl h (fun h => ?_) (fun h => ?_)
  · refine x_bipush 20 C dX6_fresh_20 cb_m2 ?_
    exact x_iret 22 C dX6_fresh_22 (Prod.mk.inj (Option.some.inj h)).1 (Prod.mk.inj (Option.some.inj h)).2
  · refine x_iload_n 11 C dX6_fresh_11 rfl 2 rfl ?_
    refine x_iconst 12 C dX6_fresh_12 ci_0 ?_
    refine x_iconst 13 C dX6_fresh_13 ci_1 ?_
    refine x_callS 14 C 3 (As := [.int x2, .int 0, .int 1]) (rest := []) (M_X6_within l (ωC D a b) S0 x2 0 1) kw_307 ms_X6_within mh_X6_within ⟨rfl, rfl⟩ ⟨Nat.le_of_ble_eq_true rfl, Nat.le_of_ble_eq_true rfl⟩ rfl rfl (Nat.le_of_ble_eq_true rfl) dX6_fresh_14 ?_
    refine x_if_ne 17 C 23 dX6_fresh_17 rfl h (fun h => ?_) (fun h => ?_)
    · refine x_aload_n 23 C dX6_fresh_23 rfl 0 rfl ?_
      refine gX6_orders 24 C kw_281 dX6_fresh_24 ?_
      obtain ⟨z1, hz1, h⟩ := xbind_some h
      refine x_callV 27 C (q0 := 4) (ci := 3) 0 (As := []) (rest := []) (M_X3_settle l D a b S0   hz1) (by rfl) rfl kw_453 mv_X3_settle mh_X3_settle ⟨rfl, rfl⟩ ⟨Nat.le_of_ble_eq_true rfl, Nat.le_of_ble_eq_true rfl⟩ rfl rfl (Nat.le_of_ble_eq_true rfl) dX6_fresh_27 ?_
      refine x_if_ne 30 C 36 dX6_fresh_30 rfl h (fun h => ?_) (fun h => ?_)
      · refine x_aload_n 36 C dX6_fresh_36 rfl 0 rfl ?_
        refine gX6_firstRow 37 C kw_282 dX6_fresh_37 ?_
        refine x_iload_n 40 C dX6_fresh_40 rfl 1 rfl ?_
        obtain ⟨z2, hz2, h⟩ := xbind_some h
        refine x_callV 41 C (q0 := 5) (ci := 1) 1 (As := [.int x1]) (rest := []) (M_X1_fewestGapsWith l D a b z1.2 x1  hz2) (by rfl) rfl kw_666 mv_X1_fewestGapsWith mh_X1_fewestGapsWith ⟨rfl, rfl⟩ ⟨Nat.le_of_ble_eq_true rfl, Nat.le_of_ble_eq_true rfl⟩ rfl rfl (Nat.le_of_ble_eq_true rfl) dX6_fresh_41 ?_
        refine x_top h (fun v3_3 h => ?_)
        refine x_istore_n 44 C (lv' := [(0, .ref (a 0)), (1, .int x1), (2, .int x2), (3, .int v3_3)]) dX6_fresh_44 rfl (Nat.le_of_ble_eq_true rfl) [1, 2, 3, 0] rfl ?_
        refine x_iload_n 45 C dX6_fresh_45 rfl 2 rfl ?_
        refine x_if_ne 46 C 61 dX6_fresh_46 rfl h (fun h => ?_) (fun h => ?_)
        · refine x_iload_n 61 C dX6_fresh_61 rfl 3 rfl ?_
          exact x_iret 62 C dX6_fresh_62 (Prod.mk.inj (Option.some.inj h)).1 (Prod.mk.inj (Option.some.inj h)).2
        · refine x_aload_n 49 C dX6_fresh_49 rfl 0 rfl ?_
          refine gX6_firstRow 50 C kw_282 dX6_fresh_50 ?_
          refine x_iload_n 53 C dX6_fresh_53 rfl 1 rfl ?_
          refine x_iload_n 54 C dX6_fresh_54 rfl 3 rfl ?_
          obtain ⟨z4, hz4, h⟩ := xbind_some h
          refine x_callV 55 C (q0 := 5) (ci := 1) 2 (As := [.int x1, .int v3_3]) (rest := []) (M_X1_placesWith l D a b z2.2 x1 v3_3  hz4) (by rfl) rfl kw_674 mv_X1_placesWith mh_X1_placesWith ⟨rfl, rfl⟩ ⟨Nat.le_of_ble_eq_true rfl, Nat.le_of_ble_eq_true rfl⟩ rfl rfl (Nat.le_of_ble_eq_true rfl) dX6_fresh_55 ?_
          refine x_goto 58 C 62 dX6_fresh_58 rfl ?_
          exact x_iret 62 C dX6_fresh_62 (Prod.mk.inj (Option.some.inj h)).1 (Prod.mk.inj (Option.some.inj h)).2
      · refine x_bipush 33 C dX6_fresh_33 cb_m3 ?_
        exact x_iret 35 C dX6_fresh_35 (Prod.mk.inj (Option.some.inj h)).1 (Prod.mk.inj (Option.some.inj h)).2
    · refine x_bipush 20 C dX6_fresh_20 cb_m2 ?_
      exact x_iret 22 C dX6_fresh_22 (Prod.mk.inj (Option.some.inj h)).1 (Prod.mk.inj (Option.some.inj h)).2
/-! GraveOrder.alike (III)J -/
def F_X6_alike (S0 : XSt) (x1 : Int32) (x2 : Int32) (x3 : Int32) : (Option Int64) :=
  (xlet (fun (t1 : Unit) => (some (F_X6_longRefusal (-2)))) fun j2 => (if (F_X6_isPair S0 x1 x2) = 0 then j2 () else (if (F_X6_within x3 0 1) = 0 then j2 () else ((F_X5_weightOfEither S0 x1 x2).bind fun z3 => (if z3 = 0 then (some (F_X6_longRefusal (-3))) else ((F_X5_weightOfBoth S0 x1 x2).bind fun z4 => ((F_X6_inLowestTerms S0 z4 z3 x3).bind fun z5 => (some z5))))))))
abbrev rm_X6_alike : Room := { frames := 3, cells := 0, slots := 0, locals := 65 }
set_option maxRecDepth 100000 in
set_option maxHeartbeats 4000000 in
theorem M_X6_alike (l : Launch) (D : va_G) (a : Nat → Nat) (b : Nat → ClassId) (S0 : XSt) (x1 : Int32) (x2 : Int32) (x3 : Int32)  {r9 : Int64} (h : F_X6_alike S0 x1 x2 x3 = some r9) : xM l (ωC D a b) yX6_alike cX6_alike 5 (some .long) rm_X6_alike [.ref (a 0), .int x1, .int x2, .int x3] S0 (some (.long r9), S0) := by
  unfold F_X6_alike at h
  refine xM_of (own := "GraveOrder") (by decide) rfl (Nat.le_of_ble_eq_true rfl) (fun Γ C => ?_)
  refine x_sub 0 [0, 1, 2, 3] (lv' := [(0, .ref (a 0)), (1, .int x1), (2, .int x2), (3, .int x3)]) rfl ?_
  refine x_aload_n 0 C dX6_alike_0 rfl 0 rfl ?_
  refine x_iload_n 1 C dX6_alike_1 rfl 1 rfl ?_
  refine x_iload_n 2 C dX6_alike_2 rfl 2 rfl ?_
  refine x_callV 3 C (q0 := 0) (ci := 6) 2 (As := [.int x1, .int x2]) (rest := []) (M_X6_isPair l D a b S0 x1 x2 ) (by rfl) rfl kw_347 mv_X6_isPair mh_X6_isPair ⟨rfl, rfl⟩ ⟨Nat.le_of_ble_eq_true rfl, Nat.le_of_ble_eq_true rfl⟩ rfl rfl (Nat.le_of_ble_eq_true rfl) dX6_alike_3 ?_
  refine x_join (P := fun t1 => XAt (ωC D a b) Γ 18 [] [] S0) h (fun t1 h => ?_) (fun j2 hj2 h => ?_)
  · refine x_bipush 18 C dX6_alike_18 cb_m2 ?_
    refine x_callS 20 C 1 (As := [.int (-2)]) (rest := []) (M_X6_longRefusal l (ωC D a b) S0 (-2)) kw_560 ms_X6_longRefusal mh_X6_longRefusal ⟨rfl, rfl⟩ ⟨Nat.le_of_ble_eq_true rfl, Nat.le_of_ble_eq_true rfl⟩ rfl rfl (Nat.le_of_ble_eq_true rfl) dX6_alike_20 ?_
    exact x_lret 23 C dX6_alike_23 (Option.some.inj h) rfl
  refine x_if_eq 6 C 18 dX6_alike_6 rfl h (fun h => ?_) (fun h => ?_)
  · exact x_sub 18 [] rfl (hj2 _ h)
  · refine x_iload_n 9 C dX6_alike_9 rfl 3 rfl ?_
    refine x_iconst 10 C dX6_alike_10 ci_0 ?_
    refine x_iconst 11 C dX6_alike_11 ci_1 ?_
    refine x_callS 12 C 3 (As := [.int x3, .int 0, .int 1]) (rest := []) (M_X6_within l (ωC D a b) S0 x3 0 1) kw_307 ms_X6_within mh_X6_within ⟨rfl, rfl⟩ ⟨Nat.le_of_ble_eq_true rfl, Nat.le_of_ble_eq_true rfl⟩ rfl rfl (Nat.le_of_ble_eq_true rfl) dX6_alike_12 ?_
    refine x_if_ne 15 C 24 dX6_alike_15 rfl h (fun h => ?_) (fun h => ?_)
    · refine x_aload_n 24 C dX6_alike_24 rfl 0 rfl ?_
      refine gX6_yard 25 C kw_278 dX6_alike_25 ?_
      refine x_iload_n 28 C dX6_alike_28 rfl 1 rfl ?_
      refine x_iload_n 29 C dX6_alike_29 rfl 2 rfl ?_
      obtain ⟨z3, hz3, h⟩ := xbind_some h
      refine x_callV 30 C (q0 := 1) (ci := 5) 2 (As := [.int x1, .int x2]) (rest := []) (M_X5_weightOfEither l D a b S0 x1 x2  hz3) (by rfl) rfl kw_682 mv_X5_weightOfEither mh_X5_weightOfEither ⟨rfl, rfl⟩ ⟨Nat.le_of_ble_eq_true rfl, Nat.le_of_ble_eq_true rfl⟩ rfl rfl (Nat.le_of_ble_eq_true rfl) dX6_alike_30 ?_
      refine x_istore 33 C (lv' := [(0, .ref (a 0)), (1, .int x1), (2, .int x2), (3, .int x3), (4, .int z3)]) dX6_alike_33 (Nat.le_of_ble_eq_true rfl) [1, 2, 3, 4, 0] rfl ?_
      refine x_iload 35 C dX6_alike_35 4 rfl ?_
      refine x_if_ne 37 C 48 dX6_alike_37 rfl h (fun h => ?_) (fun h => ?_)
      · refine x_aload_n 48 C dX6_alike_48 rfl 0 rfl ?_
        refine gX6_yard 49 C kw_278 dX6_alike_49 ?_
        refine x_iload_n 52 C dX6_alike_52 rfl 1 rfl ?_
        refine x_iload_n 53 C dX6_alike_53 rfl 2 rfl ?_
        obtain ⟨z4, hz4, h⟩ := xbind_some h
        refine x_callV 54 C (q0 := 1) (ci := 5) 2 (As := [.int x1, .int x2]) (rest := []) (M_X5_weightOfBoth l D a b S0 x1 x2  hz4) (by rfl) rfl kw_686 mv_X5_weightOfBoth mh_X5_weightOfBoth ⟨rfl, rfl⟩ ⟨Nat.le_of_ble_eq_true rfl, Nat.le_of_ble_eq_true rfl⟩ rfl rfl (Nat.le_of_ble_eq_true rfl) dX6_alike_54 ?_
        refine x_iload 57 C dX6_alike_57 4 rfl ?_
        refine x_iload_n 59 C dX6_alike_59 rfl 3 rfl ?_
        obtain ⟨z5, hz5, h⟩ := xbind_some h
        refine x_callS 60 C 3 (As := [.int z4, .int z3, .int x3]) (rest := []) (M_X6_inLowestTerms l D a b S0 z4 z3 x3  hz5) kw_568 ms_X6_inLowestTerms mh_X6_inLowestTerms ⟨rfl, rfl⟩ ⟨Nat.le_of_ble_eq_true rfl, Nat.le_of_ble_eq_true rfl⟩ rfl rfl (Nat.le_of_ble_eq_true rfl) dX6_alike_60 ?_
        exact x_lret 63 C dX6_alike_63 (Option.some.inj h) rfl
      · refine x_bipush 40 C dX6_alike_40 cb_m3 ?_
        refine x_callS 42 C 1 (As := [.int (-3)]) (rest := []) (M_X6_longRefusal l (ωC D a b) S0 (-3)) kw_560 ms_X6_longRefusal mh_X6_longRefusal ⟨rfl, rfl⟩ ⟨Nat.le_of_ble_eq_true rfl, Nat.le_of_ble_eq_true rfl⟩ rfl rfl (Nat.le_of_ble_eq_true rfl) dX6_alike_42 ?_
        refine x_goto 45 C 63 dX6_alike_45 rfl ?_
        exact x_lret 63 C dX6_alike_63 (Option.some.inj h) rfl
    · exact x_sub 18 [] rfl (hj2 _ h)
/-! GraveOrder.nearest (I)I -/
def F_X6_nearest (S0 : XSt) (x1 : Int32) : (Option Int32) :=
  (if (F_X6_isGrave S0 x1) = 0 then (some (-2)) else ((F_X5_mostAlike S0 x1).bind fun z1 => (some z1)))
abbrev rm_X6_nearest : Room := { frames := 4, cells := 0, slots := 0, locals := 90 }
set_option maxRecDepth 100000 in
set_option maxHeartbeats 4000000 in
theorem M_X6_nearest (l : Launch) (D : va_G) (a : Nat → Nat) (b : Nat → ClassId) (S0 : XSt) (x1 : Int32)  {r9 : Int32} (h : F_X6_nearest S0 x1 = some r9) : xM l (ωC D a b) yX6_nearest cX6_nearest 2 (some .int) rm_X6_nearest [.ref (a 0), .int x1] S0 (some (.int r9), S0) := by
  unfold F_X6_nearest at h
  refine xM_of (own := "GraveOrder") (by decide) rfl (Nat.le_of_ble_eq_true rfl) (fun Γ C => ?_)
  refine x_sub 0 [0, 1] (lv' := [(0, .ref (a 0)), (1, .int x1)]) rfl ?_
  refine x_aload_n 0 C dX6_nearest_0 rfl 0 rfl ?_
  refine x_iload_n 1 C dX6_nearest_1 rfl 1 rfl ?_
  refine x_callV 2 C (q0 := 0) (ci := 6) 1 (As := [.int x1]) (rest := []) (M_X6_isGrave l D a b S0 x1 ) (by rfl) rfl kw_318 mv_X6_isGrave mh_X6_isGrave ⟨rfl, rfl⟩ ⟨Nat.le_of_ble_eq_true rfl, Nat.le_of_ble_eq_true rfl⟩ rfl rfl (Nat.le_of_ble_eq_true rfl) dX6_nearest_2 ?_
  refine x_if_eq 5 C 19 dX6_nearest_5 rfl h (fun h => ?_) (fun h => ?_)
  · refine x_bipush 19 C dX6_nearest_19 cb_m2 ?_
    exact x_iret 21 C dX6_nearest_21 (Option.some.inj h) rfl
  · refine x_aload_n 8 C dX6_nearest_8 rfl 0 rfl ?_
    refine gX6_yard 9 C kw_278 dX6_nearest_9 ?_
    refine x_iload_n 12 C dX6_nearest_12 rfl 1 rfl ?_
    obtain ⟨z1, hz1, h⟩ := xbind_some h
    refine x_callV 13 C (q0 := 1) (ci := 5) 1 (As := [.int x1]) (rest := []) (M_X5_mostAlike l D a b S0 x1  hz1) (by rfl) rfl kw_694 mv_X5_mostAlike mh_X5_mostAlike ⟨rfl, rfl⟩ ⟨Nat.le_of_ble_eq_true rfl, Nat.le_of_ble_eq_true rfl⟩ rfl rfl (Nat.le_of_ble_eq_true rfl) dX6_nearest_13 ?_
    refine x_goto 16 C 21 dX6_nearest_16 rfl ?_
    exact x_iret 21 C dX6_nearest_21 (Option.some.inj h) rfl
/-! GraveOrder.sheet (III)I -/
def F_X6_sheet (S0 : XSt) (x1 : Int32) (x2 : Int32) (x3 : Int32) : (Option (Int32 × XSt)) :=
  (if (F_X6_isSheet x1) = 0 then (some ((-2), S0)) else (if (F_X6_within x2 0 2) = 0 then (some ((-2), S0)) else (if x3 ≤ 40 then (if 0 ≤ x3 then (if xin x1 4 = true then ((F_X4_renew S0 (29 + xti x1) x2 x3).bind fun z2 => (some (x3, z2))) else none) else ((F_X6_finding S0 5).bind fun z3 => (some (z3.1, z3.2)))) else (some ((-2), S0)))))
abbrev rm_X6_sheet : Room := { frames := 2, cells := 0, slots := 0, locals := 42 }
set_option maxRecDepth 100000 in
set_option maxHeartbeats 4000000 in
theorem M_X6_sheet (l : Launch) (D : va_G) (a : Nat → Nat) (b : Nat → ClassId) (S0 : XSt) (x1 : Int32) (x2 : Int32) (x3 : Int32)  {r9 : Int32} {S9 : XSt} (h : F_X6_sheet S0 x1 x2 x3 = some (r9, S9)) : xM l (ωC D a b) yX6_sheet cX6_sheet 4 (some .int) rm_X6_sheet [.ref (a 0), .int x1, .int x2, .int x3] S0 (some (.int r9), S9) := by
  unfold F_X6_sheet at h
  refine xM_of (own := "GraveOrder") (by decide) rfl (Nat.le_of_ble_eq_true rfl) (fun Γ C => ?_)
  refine x_sub 0 [0, 1, 2, 3] (lv' := [(0, .ref (a 0)), (1, .int x1), (2, .int x2), (3, .int x3)]) rfl ?_
  refine x_iload_n 0 C dX6_sheet_0 rfl 1 rfl ?_
  refine x_callS 1 C 1 (As := [.int x1]) (rest := []) (M_X6_isSheet l (ωC D a b) S0 x1) kw_403 ms_X6_isSheet mh_X6_isSheet ⟨rfl, rfl⟩ ⟨Nat.le_of_ble_eq_true rfl, Nat.le_of_ble_eq_true rfl⟩ rfl rfl (Nat.le_of_ble_eq_true rfl) dX6_sheet_1 ?_
  refine x_if_eq 4 C 22 dX6_sheet_4 rfl h (fun h => ?_) (fun h => ?_)
  · refine x_bipush 22 C dX6_sheet_22 cb_m2 ?_
    exact x_iret 24 C dX6_sheet_24 (Prod.mk.inj (Option.some.inj h)).1 (Prod.mk.inj (Option.some.inj h)).2
  · refine x_iload_n 7 C dX6_sheet_7 rfl 2 rfl ?_
    refine x_iconst 8 C dX6_sheet_8 ci_0 ?_
    refine x_iconst 9 C dX6_sheet_9 ci_2 ?_
    refine x_callS 10 C 3 (As := [.int x2, .int 0, .int 2]) (rest := []) (M_X6_within l (ωC D a b) S0 x2 0 2) kw_307 ms_X6_within mh_X6_within ⟨rfl, rfl⟩ ⟨Nat.le_of_ble_eq_true rfl, Nat.le_of_ble_eq_true rfl⟩ rfl rfl (Nat.le_of_ble_eq_true rfl) dX6_sheet_10 ?_
    refine x_if_eq 13 C 22 dX6_sheet_13 rfl h (fun h => ?_) (fun h => ?_)
    · refine x_bipush 22 C dX6_sheet_22 cb_m2 ?_
      exact x_iret 24 C dX6_sheet_24 (Prod.mk.inj (Option.some.inj h)).1 (Prod.mk.inj (Option.some.inj h)).2
    · refine x_iload_n 16 C dX6_sheet_16 rfl 3 rfl ?_
      refine x_bipush 17 C dX6_sheet_17 cb_40 ?_
      refine x_icmp_le 19 C 25 dX6_sheet_19 rfl h (fun h => ?_) (fun h => ?_)
      · refine x_iload_n 25 C dX6_sheet_25 rfl 3 rfl ?_
        refine x_if_ge 26 C 35 dX6_sheet_26 rfl h (fun h => ?_) (fun h => ?_)
        · refine x_aload_n 35 C dX6_sheet_35 rfl 0 rfl ?_
          refine gX6_sheets 36 C kw_283 dX6_sheet_36 ?_
          refine x_iload_n 39 C dX6_sheet_39 rfl 1 rfl ?_
          obtain ⟨hg1, h⟩ := xif_some h
          refine c_aald 40 C hg1 dX6_sheet_40 ?_
          refine x_iload_n 41 C dX6_sheet_41 rfl 2 rfl ?_
          refine x_iload_n 42 C dX6_sheet_42 rfl 3 rfl ?_
          obtain ⟨z2, hz2, h⟩ := xbind_some h
          refine x_callV 43 C (q0 := (29 + xti x1)) (ci := 4) 2 (As := [.int x2, .int x3]) (rest := []) (M_X4_renew l D a b S0 (29 + xti x1) x2 x3 (shC_of hg1) hz2) (wC_sh (shC_of hg1)) rfl kw_704 mv_X4_renew mh_X4_renew ⟨rfl, rfl⟩ ⟨Nat.le_of_ble_eq_true rfl, Nat.le_of_ble_eq_true rfl⟩ rfl rfl (Nat.le_of_ble_eq_true rfl) dX6_sheet_43 ?_
          refine x_iload_n 46 C dX6_sheet_46 rfl 3 rfl ?_
          exact x_iret 47 C dX6_sheet_47 (Prod.mk.inj (Option.some.inj h)).1 (Prod.mk.inj (Option.some.inj h)).2
        · refine x_aload_n 29 C dX6_sheet_29 rfl 0 rfl ?_
          refine x_iconst 30 C dX6_sheet_30 ci_5 ?_
          obtain ⟨z3, hz3, h⟩ := xbind_some h
          refine x_callV 31 C (q0 := 0) (ci := 6) 1 (As := [.int 5]) (rest := []) (M_X6_finding l D a b S0 5  hz3) (by rfl) rfl kw_406 mv_X6_finding mh_X6_finding ⟨rfl, rfl⟩ ⟨Nat.le_of_ble_eq_true rfl, Nat.le_of_ble_eq_true rfl⟩ rfl rfl (Nat.le_of_ble_eq_true rfl) dX6_sheet_31 ?_
          exact x_iret 34 C dX6_sheet_34 (Prod.mk.inj (Option.some.inj h)).1 (Prod.mk.inj (Option.some.inj h)).2
      · refine x_bipush 22 C dX6_sheet_22 cb_m2 ?_
        exact x_iret 24 C dX6_sheet_24 (Prod.mk.inj (Option.some.inj h)).1 (Prod.mk.inj (Option.some.inj h)).2
/-! GraveOrder.lose (I)I -/
def F_X6_lose (S0 : XSt) (x1 : Int32) : (Option (Int32 × XSt)) :=
  (if (F_X6_isSheet x1) = 0 then (some ((-2), S0)) else (if xin x1 4 = true then (if (S0 (29 + xti x1) 1) = 0 then (if xin x1 4 = true then (xlet (xst S0 (29 + xti x1) 1 1) fun S3 => (if xin x1 4 = true then (some ((S3 (29 + xti x1) 3), S3)) else none)) else none) else ((F_X6_finding S0 1).bind fun z5 => (some (z5.1, z5.2)))) else none))
abbrev rm_X6_lose : Room := { frames := 2, cells := 0, slots := 0, locals := 42 }
set_option maxRecDepth 100000 in
set_option maxHeartbeats 4000000 in
theorem M_X6_lose (l : Launch) (D : va_G) (a : Nat → Nat) (b : Nat → ClassId) (S0 : XSt) (x1 : Int32)  {r9 : Int32} {S9 : XSt} (h : F_X6_lose S0 x1 = some (r9, S9)) : xM l (ωC D a b) yX6_lose cX6_lose 2 (some .int) rm_X6_lose [.ref (a 0), .int x1] S0 (some (.int r9), S9) := by
  unfold F_X6_lose at h
  refine xM_of (own := "GraveOrder") (by decide) rfl (Nat.le_of_ble_eq_true rfl) (fun Γ C => ?_)
  refine x_sub 0 [0, 1] (lv' := [(0, .ref (a 0)), (1, .int x1)]) rfl ?_
  refine x_iload_n 0 C dX6_lose_0 rfl 1 rfl ?_
  refine x_callS 1 C 1 (As := [.int x1]) (rest := []) (M_X6_isSheet l (ωC D a b) S0 x1) kw_403 ms_X6_isSheet mh_X6_isSheet ⟨rfl, rfl⟩ ⟨Nat.le_of_ble_eq_true rfl, Nat.le_of_ble_eq_true rfl⟩ rfl rfl (Nat.le_of_ble_eq_true rfl) dX6_lose_1 ?_
  refine x_if_ne 4 C 10 dX6_lose_4 rfl h (fun h => ?_) (fun h => ?_)
  · refine x_aload_n 10 C dX6_lose_10 rfl 0 rfl ?_
    refine gX6_sheets 11 C kw_283 dX6_lose_11 ?_
    refine x_iload_n 14 C dX6_lose_14 rfl 1 rfl ?_
    obtain ⟨hg1, h⟩ := xif_some h
    refine c_aald 15 C hg1 dX6_lose_15 ?_
    refine gX4_lost 16 C (shC_of hg1) kw_264 dX6_lose_16 ?_
    refine x_if_eq 19 C 28 dX6_lose_19 rfl h (fun h => ?_) (fun h => ?_)
    · refine x_aload_n 28 C dX6_lose_28 rfl 0 rfl ?_
      refine gX6_sheets 29 C kw_283 dX6_lose_29 ?_
      refine x_iload_n 32 C dX6_lose_32 rfl 1 rfl ?_
      obtain ⟨hg2, h⟩ := xif_some h
      refine c_aald 33 C hg2 dX6_lose_33 ?_
      refine x_iconst 34 C dX6_lose_34 ci_1 ?_
      refine pX4_lost 35 C (shC_of hg2) rfl kw_264 dX6_lose_35 ?_
      refine x_topS h (fun S3 h => ?_)
      refine x_aload_n 38 C dX6_lose_38 rfl 0 rfl ?_
      refine gX6_sheets 39 C kw_283 dX6_lose_39 ?_
      refine x_iload_n 42 C dX6_lose_42 rfl 1 rfl ?_
      obtain ⟨hg4, h⟩ := xif_some h
      refine c_aald 43 C hg4 dX6_lose_43 ?_
      refine gX4_size 44 C (shC_of hg4) kw_268 dX6_lose_44 ?_
      exact x_iret 47 C dX6_lose_47 (Prod.mk.inj (Option.some.inj h)).1 (Prod.mk.inj (Option.some.inj h)).2
    · refine x_aload_n 22 C dX6_lose_22 rfl 0 rfl ?_
      refine x_iconst 23 C dX6_lose_23 ci_1 ?_
      obtain ⟨z5, hz5, h⟩ := xbind_some h
      refine x_callV 24 C (q0 := 0) (ci := 6) 1 (As := [.int 1]) (rest := []) (M_X6_finding l D a b S0 1  hz5) (by rfl) rfl kw_406 mv_X6_finding mh_X6_finding ⟨rfl, rfl⟩ ⟨Nat.le_of_ble_eq_true rfl, Nat.le_of_ble_eq_true rfl⟩ rfl rfl (Nat.le_of_ble_eq_true rfl) dX6_lose_24 ?_
      exact x_iret 27 C dX6_lose_27 (Prod.mk.inj (Option.some.inj h)).1 (Prod.mk.inj (Option.some.inj h)).2
  · refine x_bipush 7 C dX6_lose_7 cb_m2 ?_
    exact x_iret 9 C dX6_lose_9 (Prod.mk.inj (Option.some.inj h)).1 (Prod.mk.inj (Option.some.inj h)).2
/-! GraveOrder.put (IIII)I -/
def F_X6_put (S0 : XSt) (x1 : Int32) (x2 : Int32) (x3 : Int32) (x4 : Int32) : (Option (Int32 × XSt)) :=
  (if (F_X6_isSheet x1) = 0 then (some ((-2), S0)) else (if (F_X6_within x2 0 2) = 0 then (some ((-2), S0)) else (if xin x1 4 = true then (xlet (F_X4_findingAt S0 (29 + xti x1) x2 x3) fun v5_2 => (if v5_2 = 0 then (if xin x1 4 = true then ((F_X4_store S0 (29 + xti x1) x3 x4).bind fun z4 => (some (1, z4))) else none) else ((F_X6_finding S0 v5_2).bind fun z5 => (some (z5.1, z5.2))))) else none)))
abbrev rm_X6_put : Room := { frames := 2, cells := 0, slots := 0, locals := 42 }
set_option maxRecDepth 100000 in
set_option maxHeartbeats 4000000 in
theorem M_X6_put (l : Launch) (D : va_G) (a : Nat → Nat) (b : Nat → ClassId) (S0 : XSt) (x1 : Int32) (x2 : Int32) (x3 : Int32) (x4 : Int32)  {r9 : Int32} {S9 : XSt} (h : F_X6_put S0 x1 x2 x3 x4 = some (r9, S9)) : xM l (ωC D a b) yX6_put cX6_put 6 (some .int) rm_X6_put [.ref (a 0), .int x1, .int x2, .int x3, .int x4] S0 (some (.int r9), S9) := by
  unfold F_X6_put at h
  refine xM_of (own := "GraveOrder") (by decide) rfl (Nat.le_of_ble_eq_true rfl) (fun Γ C => ?_)
  refine x_sub 0 [0, 1, 2, 3, 4] (lv' := [(0, .ref (a 0)), (1, .int x1), (2, .int x2), (3, .int x3), (4, .int x4)]) rfl ?_
  refine x_iload_n 0 C dX6_put_0 rfl 1 rfl ?_
  refine x_callS 1 C 1 (As := [.int x1]) (rest := []) (M_X6_isSheet l (ωC D a b) S0 x1) kw_403 ms_X6_isSheet mh_X6_isSheet ⟨rfl, rfl⟩ ⟨Nat.le_of_ble_eq_true rfl, Nat.le_of_ble_eq_true rfl⟩ rfl rfl (Nat.le_of_ble_eq_true rfl) dX6_put_1 ?_
  refine x_if_eq 4 C 16 dX6_put_4 rfl h (fun h => ?_) (fun h => ?_)
  · refine x_bipush 16 C dX6_put_16 cb_m2 ?_
    exact x_iret 18 C dX6_put_18 (Prod.mk.inj (Option.some.inj h)).1 (Prod.mk.inj (Option.some.inj h)).2
  · refine x_iload_n 7 C dX6_put_7 rfl 2 rfl ?_
    refine x_iconst 8 C dX6_put_8 ci_0 ?_
    refine x_iconst 9 C dX6_put_9 ci_2 ?_
    refine x_callS 10 C 3 (As := [.int x2, .int 0, .int 2]) (rest := []) (M_X6_within l (ωC D a b) S0 x2 0 2) kw_307 ms_X6_within mh_X6_within ⟨rfl, rfl⟩ ⟨Nat.le_of_ble_eq_true rfl, Nat.le_of_ble_eq_true rfl⟩ rfl rfl (Nat.le_of_ble_eq_true rfl) dX6_put_10 ?_
    refine x_if_ne 13 C 19 dX6_put_13 rfl h (fun h => ?_) (fun h => ?_)
    · refine x_aload_n 19 C dX6_put_19 rfl 0 rfl ?_
      refine gX6_sheets 20 C kw_283 dX6_put_20 ?_
      refine x_iload_n 23 C dX6_put_23 rfl 1 rfl ?_
      obtain ⟨hg1, h⟩ := xif_some h
      refine c_aald 24 C hg1 dX6_put_24 ?_
      refine x_iload_n 25 C dX6_put_25 rfl 2 rfl ?_
      refine x_iload_n 26 C dX6_put_26 rfl 3 rfl ?_
      refine x_callV 27 C (q0 := (29 + xti x1)) (ci := 4) 2 (As := [.int x2, .int x3]) (rest := []) (M_X4_findingAt l D a b S0 (29 + xti x1) x2 x3 (shC_of hg1)) (wC_sh (shC_of hg1)) rfl kw_716 mv_X4_findingAt mh_X4_findingAt ⟨rfl, rfl⟩ ⟨Nat.le_of_ble_eq_true rfl, Nat.le_of_ble_eq_true rfl⟩ rfl rfl (Nat.le_of_ble_eq_true rfl) dX6_put_27 ?_
      refine x_top h (fun v5_2 h => ?_)
      refine x_istore 30 C (lv' := [(0, .ref (a 0)), (1, .int x1), (3, .int x3), (4, .int x4), (5, .int v5_2)]) dX6_put_30 (Nat.le_of_ble_eq_true rfl) [1, 2, 4, 5, 0] rfl ?_
      refine x_iload 32 C dX6_put_32 4 rfl ?_
      refine x_if_eq 34 C 44 dX6_put_34 rfl h (fun h => ?_) (fun h => ?_)
      · refine x_aload_n 44 C dX6_put_44 rfl 0 rfl ?_
        refine gX6_sheets 45 C kw_283 dX6_put_45 ?_
        refine x_iload_n 48 C dX6_put_48 rfl 1 rfl ?_
        obtain ⟨hg3, h⟩ := xif_some h
        refine c_aald 49 C hg3 dX6_put_49 ?_
        refine x_iload_n 50 C dX6_put_50 rfl 2 rfl ?_
        refine x_iload 51 C dX6_put_51 3 rfl ?_
        obtain ⟨z4, hz4, h⟩ := xbind_some h
        refine x_callV 53 C (q0 := (29 + xti x1)) (ci := 4) 2 (As := [.int x3, .int x4]) (rest := []) (M_X4_store l D a b S0 (29 + xti x1) x3 x4 (shC_of hg3) hz4) (wC_sh (shC_of hg3)) rfl kw_720 mv_X4_store mh_X4_store ⟨rfl, rfl⟩ ⟨Nat.le_of_ble_eq_true rfl, Nat.le_of_ble_eq_true rfl⟩ rfl rfl (Nat.le_of_ble_eq_true rfl) dX6_put_53 ?_
        refine x_iconst 56 C dX6_put_56 ci_1 ?_
        exact x_iret 57 C dX6_put_57 (Prod.mk.inj (Option.some.inj h)).1 (Prod.mk.inj (Option.some.inj h)).2
      · refine x_aload_n 37 C dX6_put_37 rfl 0 rfl ?_
        refine x_iload 38 C dX6_put_38 4 rfl ?_
        obtain ⟨z5, hz5, h⟩ := xbind_some h
        refine x_callV 40 C (q0 := 0) (ci := 6) 1 (As := [.int v5_2]) (rest := []) (M_X6_finding l D a b S0 v5_2  hz5) (by rfl) rfl kw_406 mv_X6_finding mh_X6_finding ⟨rfl, rfl⟩ ⟨Nat.le_of_ble_eq_true rfl, Nat.le_of_ble_eq_true rfl⟩ rfl rfl (Nat.le_of_ble_eq_true rfl) dX6_put_40 ?_
        exact x_iret 43 C dX6_put_43 (Prod.mk.inj (Option.some.inj h)).1 (Prod.mk.inj (Option.some.inj h)).2
    · refine x_bipush 16 C dX6_put_16 cb_m2 ?_
      exact x_iret 18 C dX6_put_18 (Prod.mk.inj (Option.some.inj h)).1 (Prod.mk.inj (Option.some.inj h)).2
/-! GraveOrder.get (III)I -/
def F_X6_get (S0 : XSt) (x1 : Int32) (x2 : Int32) (x3 : Int32) : (Option (Int32 × XSt)) :=
  (if (F_X6_isSheet x1) = 0 then (some ((-2147483648), S0)) else (if (F_X6_within x2 0 2) = 0 then (some ((-2147483648), S0)) else (if xin x1 4 = true then (xlet (F_X4_findingAt S0 (29 + xti x1) x2 x3) fun v4_2 => (if v4_2 = 0 then (if xin x1 4 = true then (if xin x3 40 = true then (some ((S0 ((29 + xti x1) + 4) (xti x3)), S0)) else none) else none) else (xlet (xst S0 0 7 v4_2) fun S5 => (some ((-2147483648), S5))))) else none)))
abbrev rm_X6_get : Room := { frames := 2, cells := 0, slots := 0, locals := 42 }
set_option maxRecDepth 100000 in
set_option maxHeartbeats 4000000 in
theorem M_X6_get (l : Launch) (D : va_G) (a : Nat → Nat) (b : Nat → ClassId) (S0 : XSt) (x1 : Int32) (x2 : Int32) (x3 : Int32)  {r9 : Int32} {S9 : XSt} (h : F_X6_get S0 x1 x2 x3 = some (r9, S9)) : xM l (ωC D a b) yX6_get cX6_get 5 (some .int) rm_X6_get [.ref (a 0), .int x1, .int x2, .int x3] S0 (some (.int r9), S9) := by
  unfold F_X6_get at h
  refine xM_of (own := "GraveOrder") (by decide) rfl (Nat.le_of_ble_eq_true rfl) (fun Γ C => ?_)
  refine x_sub 0 [0, 1, 2, 3] (lv' := [(0, .ref (a 0)), (1, .int x1), (2, .int x2), (3, .int x3)]) rfl ?_
  refine x_iload_n 0 C dX6_get_0 rfl 1 rfl ?_
  refine x_callS 1 C 1 (As := [.int x1]) (rest := []) (M_X6_isSheet l (ωC D a b) S0 x1) kw_403 ms_X6_isSheet mh_X6_isSheet ⟨rfl, rfl⟩ ⟨Nat.le_of_ble_eq_true rfl, Nat.le_of_ble_eq_true rfl⟩ rfl rfl (Nat.le_of_ble_eq_true rfl) dX6_get_1 ?_
  refine x_if_eq 4 C 16 dX6_get_4 rfl h (fun h => ?_) (fun h => ?_)
  · refine x_ldc 16 C kw_728 dX6_get_16 ?_
    exact x_iret 18 C dX6_get_18 (Prod.mk.inj (Option.some.inj h)).1 (Prod.mk.inj (Option.some.inj h)).2
  · refine x_iload_n 7 C dX6_get_7 rfl 2 rfl ?_
    refine x_iconst 8 C dX6_get_8 ci_0 ?_
    refine x_iconst 9 C dX6_get_9 ci_2 ?_
    refine x_callS 10 C 3 (As := [.int x2, .int 0, .int 2]) (rest := []) (M_X6_within l (ωC D a b) S0 x2 0 2) kw_307 ms_X6_within mh_X6_within ⟨rfl, rfl⟩ ⟨Nat.le_of_ble_eq_true rfl, Nat.le_of_ble_eq_true rfl⟩ rfl rfl (Nat.le_of_ble_eq_true rfl) dX6_get_10 ?_
    refine x_if_ne 13 C 19 dX6_get_13 rfl h (fun h => ?_) (fun h => ?_)
    · refine x_aload_n 19 C dX6_get_19 rfl 0 rfl ?_
      refine gX6_sheets 20 C kw_283 dX6_get_20 ?_
      refine x_iload_n 23 C dX6_get_23 rfl 1 rfl ?_
      obtain ⟨hg1, h⟩ := xif_some h
      refine c_aald 24 C hg1 dX6_get_24 ?_
      refine x_iload_n 25 C dX6_get_25 rfl 2 rfl ?_
      refine x_iload_n 26 C dX6_get_26 rfl 3 rfl ?_
      refine x_callV 27 C (q0 := (29 + xti x1)) (ci := 4) 2 (As := [.int x2, .int x3]) (rest := []) (M_X4_findingAt l D a b S0 (29 + xti x1) x2 x3 (shC_of hg1)) (wC_sh (shC_of hg1)) rfl kw_716 mv_X4_findingAt mh_X4_findingAt ⟨rfl, rfl⟩ ⟨Nat.le_of_ble_eq_true rfl, Nat.le_of_ble_eq_true rfl⟩ rfl rfl (Nat.le_of_ble_eq_true rfl) dX6_get_27 ?_
      refine x_top h (fun v4_2 h => ?_)
      refine x_istore 30 C (lv' := [(0, .ref (a 0)), (1, .int x1), (3, .int x3), (4, .int v4_2)]) dX6_get_30 (Nat.le_of_ble_eq_true rfl) [1, 2, 4, 0] rfl ?_
      refine x_iload 32 C dX6_get_32 3 rfl ?_
      refine x_if_eq 34 C 46 dX6_get_34 rfl h (fun h => ?_) (fun h => ?_)
      · refine x_aload_n 46 C dX6_get_46 rfl 0 rfl ?_
        refine gX6_sheets 47 C kw_283 dX6_get_47 ?_
        refine x_iload_n 50 C dX6_get_50 rfl 1 rfl ?_
        obtain ⟨hg3, h⟩ := xif_some h
        refine c_aald 51 C hg3 dX6_get_51 ?_
        refine gX4_items 52 C (shC_of hg3) kw_262 dX6_get_52 ?_
        refine x_iload_n 55 C dX6_get_55 rfl 2 rfl ?_
        obtain ⟨hg4, h⟩ := xif_some h
        refine c_iald 56 C (n := 40) (shC_items (shC_of hg3)) hg4 dX6_get_56 ?_
        exact x_iret 57 C dX6_get_57 (Prod.mk.inj (Option.some.inj h)).1 (Prod.mk.inj (Option.some.inj h)).2
      · refine x_aload_n 37 C dX6_get_37 rfl 0 rfl ?_
        refine x_iload 38 C dX6_get_38 3 rfl ?_
        refine pX6_latestFinding 40 C kw_285 dX6_get_40 ?_
        refine x_topS h (fun S5 h => ?_)
        refine x_ldc 43 C kw_728 dX6_get_43 ?_
        exact x_iret 45 C dX6_get_45 (Prod.mk.inj (Option.some.inj h)).1 (Prod.mk.inj (Option.some.inj h)).2
    · refine x_ldc 16 C kw_728 dX6_get_16 ?_
      exact x_iret 18 C dX6_get_18 (Prod.mk.inj (Option.some.inj h)).1 (Prod.mk.inj (Option.some.inj h)).2
/-! GraveOrder.copy (IIIII)I -/
def F_X6_copy (S0 : XSt) (x1 : Int32) (x2 : Int32) (x3 : Int32) (x4 : Int32) (x5 : Int32) : (Option (Int32 × XSt)) :=
  (if (F_X6_isSheet x1) = 0 then (some ((-2), S0)) else (if (F_X6_isSheet x3) = 0 then (some ((-2), S0)) else (if xin x1 4 = true then (xlet (fun (t2 : Unit) => ((F_X6_finding S0 1).bind fun z4 => (some (z4.1, z4.2)))) fun j3 => (if (S0 (29 + xti x1) 1) = 0 then (if xin x3 4 = true then (if (S0 (29 + xti x3) 1) = 0 then (if xin x1 4 = true then (if xin x3 4 = true then (if (S0 (29 + xti x1) 2) = (S0 (29 + xti x3) 2) then (if xin x1 4 = true then (xlet (fun (t9 : Unit) => ((F_X6_finding S0 2).bind fun z11 => (some (z11.1, z11.2)))) fun j10 => (if (F_X4_holdsRun S0 (29 + xti x1) x2 x5) = 0 then j10 () else (if xin x3 4 = true then (if (F_X4_holdsRun S0 (29 + xti x3) x4 x5) = 0 then j10 () else (if xin x1 4 = true then (if xin x3 4 = true then (if ¬ x2 < 0 then (if ¬ x4 < 0 then (if ¬ x5 < 0 then (if xti x2 + xti x5 ≤ 40 then (if xti x4 + xti x5 ≤ 40 then (xlet (xcp S0 ((29 + xti x1) + 4) ((29 + xti x3) + 4) (xti x2) (xti x4) (xti x5)) fun S20 => (some (1, S20))) else none) else none) else none) else none) else none) else none) else none)) else none))) else none) else ((F_X6_finding S0 4).bind fun z21 => (some (z21.1, z21.2)))) else none) else none) else j3 ()) else none) else j3 ())) else none)))
abbrev rm_X6_copy : Room := { frames := 2, cells := 0, slots := 0, locals := 80 }
set_option maxRecDepth 100000 in
set_option maxHeartbeats 4000000 in
theorem M_X6_copy (l : Launch) (D : va_G) (a : Nat → Nat) (b : Nat → ClassId) (S0 : XSt) (x1 : Int32) (x2 : Int32) (x3 : Int32) (x4 : Int32) (x5 : Int32)  {r9 : Int32} {S9 : XSt} (h : F_X6_copy S0 x1 x2 x3 x4 x5 = some (r9, S9)) : xM l (ωC D a b) yX6_copy cX6_copy 6 (some .int) rm_X6_copy [.ref (a 0), .int x1, .int x2, .int x3, .int x4, .int x5] S0 (some (.int r9), S9) := by
  unfold F_X6_copy at h
  refine xM_of (own := "GraveOrder") (by decide) rfl (Nat.le_of_ble_eq_true rfl) (fun Γ C => ?_)
  refine x_sub 0 [0, 1, 2, 3, 4, 5] (lv' := [(0, .ref (a 0)), (1, .int x1), (2, .int x2), (3, .int x3), (4, .int x4), (5, .int x5)]) rfl ?_
  refine x_iload_n 0 C dX6_copy_0 rfl 1 rfl ?_
  refine x_callS 1 C 1 (As := [.int x1]) (rest := []) (M_X6_isSheet l (ωC D a b) S0 x1) kw_403 ms_X6_isSheet mh_X6_isSheet ⟨rfl, rfl⟩ ⟨Nat.le_of_ble_eq_true rfl, Nat.le_of_ble_eq_true rfl⟩ rfl rfl (Nat.le_of_ble_eq_true rfl) dX6_copy_1 ?_
  refine x_if_eq 4 C 14 dX6_copy_4 rfl h (fun h => ?_) (fun h => ?_)
  · refine x_bipush 14 C dX6_copy_14 cb_m2 ?_
    exact x_iret 16 C dX6_copy_16 (Prod.mk.inj (Option.some.inj h)).1 (Prod.mk.inj (Option.some.inj h)).2
  · refine x_iload_n 7 C dX6_copy_7 rfl 3 rfl ?_
    refine x_callS 8 C 1 (As := [.int x3]) (rest := []) (M_X6_isSheet l (ωC D a b) S0 x3) kw_403 ms_X6_isSheet mh_X6_isSheet ⟨rfl, rfl⟩ ⟨Nat.le_of_ble_eq_true rfl, Nat.le_of_ble_eq_true rfl⟩ rfl rfl (Nat.le_of_ble_eq_true rfl) dX6_copy_8 ?_
    refine x_if_ne 11 C 17 dX6_copy_11 rfl h (fun h => ?_) (fun h => ?_)
    · refine x_aload_n 17 C dX6_copy_17 rfl 0 rfl ?_
      refine gX6_sheets 18 C kw_283 dX6_copy_18 ?_
      refine x_iload_n 21 C dX6_copy_21 rfl 1 rfl ?_
      obtain ⟨hg1, h⟩ := xif_some h
      refine c_aald 22 C hg1 dX6_copy_22 ?_
      refine gX4_lost 23 C (shC_of hg1) kw_264 dX6_copy_23 ?_
      refine x_join (P := fun t2 => XAt (ωC D a b) Γ 41 [(0, .ref (a 0))] [] S0) h (fun t2 h => ?_) (fun j3 hj3 h => ?_)
      · refine x_aload_n 41 C dX6_copy_41 rfl 0 rfl ?_
        refine x_iconst 42 C dX6_copy_42 ci_1 ?_
        obtain ⟨z4, hz4, h⟩ := xbind_some h
        refine x_callV 43 C (q0 := 0) (ci := 6) 1 (As := [.int 1]) (rest := []) (M_X6_finding l D a b S0 1  hz4) (by rfl) rfl kw_406 mv_X6_finding mh_X6_finding ⟨rfl, rfl⟩ ⟨Nat.le_of_ble_eq_true rfl, Nat.le_of_ble_eq_true rfl⟩ rfl rfl (Nat.le_of_ble_eq_true rfl) dX6_copy_43 ?_
        exact x_iret 46 C dX6_copy_46 (Prod.mk.inj (Option.some.inj h)).1 (Prod.mk.inj (Option.some.inj h)).2
      refine x_if_ne 26 C 41 dX6_copy_26 rfl h (fun h => ?_) (fun h => ?_)
      · exact x_sub 41 [0] rfl (hj3 _ h)
      · refine x_aload_n 29 C dX6_copy_29 rfl 0 rfl ?_
        refine gX6_sheets 30 C kw_283 dX6_copy_30 ?_
        refine x_iload_n 33 C dX6_copy_33 rfl 3 rfl ?_
        obtain ⟨hg5, h⟩ := xif_some h
        refine c_aald 34 C hg5 dX6_copy_34 ?_
        refine gX4_lost 35 C (shC_of hg5) kw_264 dX6_copy_35 ?_
        refine x_if_eq 38 C 47 dX6_copy_38 rfl h (fun h => ?_) (fun h => ?_)
        · refine x_aload_n 47 C dX6_copy_47 rfl 0 rfl ?_
          refine gX6_sheets 48 C kw_283 dX6_copy_48 ?_
          refine x_iload_n 51 C dX6_copy_51 rfl 1 rfl ?_
          obtain ⟨hg6, h⟩ := xif_some h
          refine c_aald 52 C hg6 dX6_copy_52 ?_
          refine gX4_form 53 C (shC_of hg6) kw_266 dX6_copy_53 ?_
          refine x_aload_n 56 C dX6_copy_56 rfl 0 rfl ?_
          refine gX6_sheets 57 C kw_283 dX6_copy_57 ?_
          refine x_iload_n 60 C dX6_copy_60 rfl 3 rfl ?_
          obtain ⟨hg7, h⟩ := xif_some h
          refine c_aald 61 C hg7 dX6_copy_61 ?_
          refine gX4_form 62 C (shC_of hg7) kw_266 dX6_copy_62 ?_
          refine x_icmp_eq 65 C 74 dX6_copy_65 rfl h (fun h => ?_) (fun h => ?_)
          · refine x_aload_n 74 C dX6_copy_74 rfl 0 rfl ?_
            refine gX6_sheets 75 C kw_283 dX6_copy_75 ?_
            refine x_iload_n 78 C dX6_copy_78 rfl 1 rfl ?_
            obtain ⟨hg8, h⟩ := xif_some h
            refine c_aald 79 C hg8 dX6_copy_79 ?_
            refine x_iload_n 80 C dX6_copy_80 rfl 2 rfl ?_
            refine x_iload 81 C dX6_copy_81 5 rfl ?_
            refine x_callV 83 C (q0 := (29 + xti x1)) (ci := 4) 2 (As := [.int x2, .int x5]) (rest := []) (M_X4_holdsRun l D a b S0 (29 + xti x1) x2 x5 (shC_of hg8)) (wC_sh (shC_of hg8)) rfl kw_733 mv_X4_holdsRun mh_X4_holdsRun ⟨rfl, rfl⟩ ⟨Nat.le_of_ble_eq_true rfl, Nat.le_of_ble_eq_true rfl⟩ rfl rfl (Nat.le_of_ble_eq_true rfl) dX6_copy_83 ?_
            refine x_join (P := fun t9 => XAt (ωC D a b) Γ 105 [(0, .ref (a 0))] [] S0) h (fun t9 h => ?_) (fun j10 hj10 h => ?_)
            · refine x_aload_n 105 C dX6_copy_105 rfl 0 rfl ?_
              refine x_iconst 106 C dX6_copy_106 ci_2 ?_
              obtain ⟨z11, hz11, h⟩ := xbind_some h
              refine x_callV 107 C (q0 := 0) (ci := 6) 1 (As := [.int 2]) (rest := []) (M_X6_finding l D a b S0 2  hz11) (by rfl) rfl kw_406 mv_X6_finding mh_X6_finding ⟨rfl, rfl⟩ ⟨Nat.le_of_ble_eq_true rfl, Nat.le_of_ble_eq_true rfl⟩ rfl rfl (Nat.le_of_ble_eq_true rfl) dX6_copy_107 ?_
              exact x_iret 110 C dX6_copy_110 (Prod.mk.inj (Option.some.inj h)).1 (Prod.mk.inj (Option.some.inj h)).2
            refine x_if_eq 86 C 105 dX6_copy_86 rfl h (fun h => ?_) (fun h => ?_)
            · exact x_sub 105 [0] rfl (hj10 _ h)
            · refine x_aload_n 89 C dX6_copy_89 rfl 0 rfl ?_
              refine gX6_sheets 90 C kw_283 dX6_copy_90 ?_
              refine x_iload_n 93 C dX6_copy_93 rfl 3 rfl ?_
              obtain ⟨hg12, h⟩ := xif_some h
              refine c_aald 94 C hg12 dX6_copy_94 ?_
              refine x_iload 95 C dX6_copy_95 4 rfl ?_
              refine x_iload 97 C dX6_copy_97 5 rfl ?_
              refine x_callV 99 C (q0 := (29 + xti x3)) (ci := 4) 2 (As := [.int x4, .int x5]) (rest := []) (M_X4_holdsRun l D a b S0 (29 + xti x3) x4 x5 (shC_of hg12)) (wC_sh (shC_of hg12)) rfl kw_733 mv_X4_holdsRun mh_X4_holdsRun ⟨rfl, rfl⟩ ⟨Nat.le_of_ble_eq_true rfl, Nat.le_of_ble_eq_true rfl⟩ rfl rfl (Nat.le_of_ble_eq_true rfl) dX6_copy_99 ?_
              refine x_if_ne 102 C 111 dX6_copy_102 rfl h (fun h => ?_) (fun h => ?_)
              · refine x_aload_n 111 C dX6_copy_111 rfl 0 rfl ?_
                refine gX6_sheets 112 C kw_283 dX6_copy_112 ?_
                refine x_iload_n 115 C dX6_copy_115 rfl 1 rfl ?_
                obtain ⟨hg13, h⟩ := xif_some h
                refine c_aald 116 C hg13 dX6_copy_116 ?_
                refine gX4_items 117 C (shC_of hg13) kw_262 dX6_copy_117 ?_
                refine x_iload_n 120 C dX6_copy_120 rfl 2 rfl ?_
                refine x_aload_n 121 C dX6_copy_121 rfl 0 rfl ?_
                refine gX6_sheets 122 C kw_283 dX6_copy_122 ?_
                refine x_iload_n 125 C dX6_copy_125 rfl 3 rfl ?_
                obtain ⟨hg14, h⟩ := xif_some h
                refine c_aald 126 C hg14 dX6_copy_126 ?_
                refine gX4_items 127 C (shC_of hg14) kw_262 dX6_copy_127 ?_
                refine x_iload 130 C dX6_copy_130 4 rfl ?_
                refine x_iload 132 C dX6_copy_132 5 rfl ?_
                obtain ⟨hg15, h⟩ := xif_some h
                obtain ⟨hg16, h⟩ := xif_some h
                obtain ⟨hg17, h⟩ := xif_some h
                obtain ⟨hg18, h⟩ := xif_some h
                obtain ⟨hg19, h⟩ := xif_some h
                refine c_copy 134 C kw_737 kcopy (shC_items (shC_of hg13)) (shC_items (shC_of hg14)) hg15 hg16 hg17 hg18 hg19 (Nat.le_of_ble_eq_true rfl) (Nat.le_of_ble_eq_true rfl) dX6_copy_134 ?_
                refine x_topS h (fun S20 h => ?_)
                refine x_iconst 137 C dX6_copy_137 ci_1 ?_
                exact x_iret 138 C dX6_copy_138 (Prod.mk.inj (Option.some.inj h)).1 (Prod.mk.inj (Option.some.inj h)).2
              · exact x_sub 105 [0] rfl (hj10 _ h)
          · refine x_aload_n 68 C dX6_copy_68 rfl 0 rfl ?_
            refine x_iconst 69 C dX6_copy_69 ci_4 ?_
            obtain ⟨z21, hz21, h⟩ := xbind_some h
            refine x_callV 70 C (q0 := 0) (ci := 6) 1 (As := [.int 4]) (rest := []) (M_X6_finding l D a b S0 4  hz21) (by rfl) rfl kw_406 mv_X6_finding mh_X6_finding ⟨rfl, rfl⟩ ⟨Nat.le_of_ble_eq_true rfl, Nat.le_of_ble_eq_true rfl⟩ rfl rfl (Nat.le_of_ble_eq_true rfl) dX6_copy_70 ?_
            exact x_iret 73 C dX6_copy_73 (Prod.mk.inj (Option.some.inj h)).1 (Prod.mk.inj (Option.some.inj h)).2
        · exact x_sub 41 [0] rfl (hj3 _ h)
    · refine x_bipush 14 C dX6_copy_14 cb_m2 ?_
      exact x_iret 16 C dX6_copy_16 (Prod.mk.inj (Option.some.inj h)).1 (Prod.mk.inj (Option.some.inj h)).2
/-! GraveOrder.write (I)I -/
def B_X6_write_63 (c1 : Int32) (c2 : Int32) (kx : XSt → Option (Int32 × XSt)) (rc : (Int32 × XSt) → Option (Int32 × XSt)) (y3 : Int32) (S1 : XSt) : Option (Int32 × XSt) :=
  (if c2 ≤ y3 then kx S1 else (if xin c1 4 = true then (if xin y3 8 = true then ((F_X4_store S1 (29 + xti c1) y3 (S1 22 (xti y3))).bind fun z7 => (xlet (y3 + 1) fun v3_8 => rc (v3_8, z7))) else none) else none))
def F_X6_write (S0 : XSt) (x1 : Int32) : (Option (Int32 × XSt)) :=
  (if (F_X6_isSheet x1) = 0 then (some ((-2), S0)) else (if xin x1 4 = true then (if (S0 (29 + xti x1) 1) = 0 then ((F_X3_settle S0).bind fun z2 => (if z2.1 = 0 then (some ((-3), z2.2)) else (if xin x1 4 = true then (xlet (xmin (z2.2 (29 + xti x1) 3) (z2.2 1 4)) fun v2_4 => (xlp (fun k rc t => B_X6_write_63  x1 v2_4 k rc t.1 t.2) (fun e9 => (some (v2_4, e9))) XFU (0, z2.2))) else none))) else ((F_X6_finding S0 1).bind fun z10 => (some (z10.1, z10.2)))) else none))
abbrev rm_X6_write : Room := { frames := 5, cells := 0, slots := 0, locals := 109 }
set_option maxRecDepth 100000 in
set_option maxHeartbeats 4000000 in
theorem w_X6_write_63 (l : Launch) (D : va_G) (a : Nat → Nat) (b : Nat → ClassId) (S0 : XSt) {Γ : XG XSt} {r9 : Int32} {S9 : XSt} (C : Cx (ωC D a b) Γ cX6_write "GraveOrder" (some .int) l rm_X6_write 4 (some (.int r9), S9)) (c1 : Int32) (c2 : Int32)  (kx : XSt → Option (Int32 × XSt)) (rc : (Int32 × XSt) → Option (Int32 × XSt)) (hk : ∀ e, kx e = some (r9, S9) → XAt (ωC D a b) Γ 93 [(2, .int c2)] [] e) (ih : ∀ t, rc t = some (r9, S9) → XAt (ωC D a b) Γ 63 [(0, .ref (a 0)), (1, .int c1), (2, .int c2), (3, .int t.1)] [] t.2) (y3 : Int32) (S1 : XSt) (h : B_X6_write_63  c1 c2 kx rc y3 S1 = some (r9, S9)) : XAt (ωC D a b) Γ 63 [(0, .ref (a 0)), (1, .int c1), (2, .int c2), (3, .int y3)] [] S1 := by
  unfold B_X6_write_63 at h
  refine x_iload_n 63 C dX6_write_63 rfl 3 rfl ?_
  refine x_iload_n 64 C dX6_write_64 rfl 2 rfl ?_
  refine x_icmp_ge 65 C 93 dX6_write_65 rfl h (fun h => ?_) (fun h => ?_)
  · exact x_sub 93 [2] rfl (hk _ h)
  · refine x_aload_n 68 C dX6_write_68 rfl 0 rfl ?_
    refine gX6_sheets 69 C kw_283 dX6_write_69 ?_
    refine x_iload_n 72 C dX6_write_72 rfl 1 rfl ?_
    obtain ⟨hg5, h⟩ := xif_some h
    refine c_aald 73 C hg5 dX6_write_73 ?_
    refine x_iload_n 74 C dX6_write_74 rfl 3 rfl ?_
    refine x_aload_n 75 C dX6_write_75 rfl 0 rfl ?_
    refine gX6_orders 76 C kw_281 dX6_write_76 ?_
    refine gX3_row 79 C kw_192 dX6_write_79 ?_
    refine x_iload_n 82 C dX6_write_82 rfl 3 rfl ?_
    obtain ⟨hg6, h⟩ := xif_some h
    refine c_iald 83 C (n := 8) rfl hg6 dX6_write_83 ?_
    obtain ⟨z7, hz7, h⟩ := xbind_some h
    refine x_callV 84 C (q0 := (29 + xti c1)) (ci := 4) 2 (As := [.int y3, .int (S1 22 (xti y3))]) (rest := []) (M_X4_store l D a b S1 (29 + xti c1) y3 (S1 22 (xti y3)) (shC_of hg5) hz7) (wC_sh (shC_of hg5)) rfl kw_720 mv_X4_store mh_X4_store ⟨rfl, rfl⟩ ⟨Nat.le_of_ble_eq_true rfl, Nat.le_of_ble_eq_true rfl⟩ rfl rfl (Nat.le_of_ble_eq_true rfl) dX6_write_84 ?_
    refine x_iinc 87 C (L := fun v3_8 => [(0, .ref (a 0)), (1, .int c1), (2, .int c2), (3, .int v3_8)]) dX6_write_87 3 rfl ci_1 (Nat.le_of_ble_eq_true rfl) [1, 2, 3, 0] (fun _ => rfl) h (fun v3_8 h => ?_)
    refine x_goto 90 C 63 dX6_write_90 rfl ?_
    exact ih _ h
set_option maxRecDepth 100000 in
set_option maxHeartbeats 4000000 in
theorem M_X6_write (l : Launch) (D : va_G) (a : Nat → Nat) (b : Nat → ClassId) (S0 : XSt) (x1 : Int32)  {r9 : Int32} {S9 : XSt} (h : F_X6_write S0 x1 = some (r9, S9)) : xM l (ωC D a b) yX6_write cX6_write 4 (some .int) rm_X6_write [.ref (a 0), .int x1] S0 (some (.int r9), S9) := by
  unfold F_X6_write at h
  refine xM_of (own := "GraveOrder") (by decide) rfl (Nat.le_of_ble_eq_true rfl) (fun Γ C => ?_)
  refine x_sub 0 [0, 1] (lv' := [(0, .ref (a 0)), (1, .int x1)]) rfl ?_
  refine x_iload_n 0 C dX6_write_0 rfl 1 rfl ?_
  refine x_callS 1 C 1 (As := [.int x1]) (rest := []) (M_X6_isSheet l (ωC D a b) S0 x1) kw_403 ms_X6_isSheet mh_X6_isSheet ⟨rfl, rfl⟩ ⟨Nat.le_of_ble_eq_true rfl, Nat.le_of_ble_eq_true rfl⟩ rfl rfl (Nat.le_of_ble_eq_true rfl) dX6_write_1 ?_
  refine x_if_ne 4 C 10 dX6_write_4 rfl h (fun h => ?_) (fun h => ?_)
  · refine x_aload_n 10 C dX6_write_10 rfl 0 rfl ?_
    refine gX6_sheets 11 C kw_283 dX6_write_11 ?_
    refine x_iload_n 14 C dX6_write_14 rfl 1 rfl ?_
    obtain ⟨hg1, h⟩ := xif_some h
    refine c_aald 15 C hg1 dX6_write_15 ?_
    refine gX4_lost 16 C (shC_of hg1) kw_264 dX6_write_16 ?_
    refine x_if_eq 19 C 28 dX6_write_19 rfl h (fun h => ?_) (fun h => ?_)
    · refine x_aload_n 28 C dX6_write_28 rfl 0 rfl ?_
      refine gX6_orders 29 C kw_281 dX6_write_29 ?_
      obtain ⟨z2, hz2, h⟩ := xbind_some h
      refine x_callV 32 C (q0 := 4) (ci := 3) 0 (As := []) (rest := []) (M_X3_settle l D a b S0   hz2) (by rfl) rfl kw_453 mv_X3_settle mh_X3_settle ⟨rfl, rfl⟩ ⟨Nat.le_of_ble_eq_true rfl, Nat.le_of_ble_eq_true rfl⟩ rfl rfl (Nat.le_of_ble_eq_true rfl) dX6_write_32 ?_
      refine x_if_ne 35 C 41 dX6_write_35 rfl h (fun h => ?_) (fun h => ?_)
      · refine x_aload_n 41 C dX6_write_41 rfl 0 rfl ?_
        refine gX6_sheets 42 C kw_283 dX6_write_42 ?_
        refine x_iload_n 45 C dX6_write_45 rfl 1 rfl ?_
        obtain ⟨hg3, h⟩ := xif_some h
        refine c_aald 46 C hg3 dX6_write_46 ?_
        refine gX4_size 47 C (shC_of hg3) kw_268 dX6_write_47 ?_
        refine x_aload_n 50 C dX6_write_50 rfl 0 rfl ?_
        refine gX6_yard 51 C kw_278 dX6_write_51 ?_
        refine gX5_graves 54 C kw_104 dX6_write_54 ?_
        refine y_mmin 57 C kw_744_min kmath_min.1 kmath kmath_min.2 (Nat.le_of_ble_eq_true rfl) (Nat.le_of_ble_eq_true rfl) dX6_write_57 ?_
        refine x_top h (fun v2_4 h => ?_)
        refine x_istore_n 60 C (lv' := [(0, .ref (a 0)), (1, .int x1), (2, .int v2_4)]) dX6_write_60 rfl (Nat.le_of_ble_eq_true rfl) [1, 2, 0] rfl ?_
        refine x_iconst 61 C dX6_write_61 ci_0 ?_
        refine x_istore_n 62 C (lv' := [(0, .ref (a 0)), (1, .int x1), (2, .int v2_4), (3, .int 0)]) dX6_write_62 rfl (Nat.le_of_ble_eq_true rfl) [1, 2, 3, 0] rfl ?_
        refine x_loop (E := fun e => XAt (ωC D a b) Γ 93 [(2, .int v2_4)] [] e) (P := fun t => XAt (ωC D a b) Γ 63 [(0, .ref (a 0)), (1, .int x1), (2, .int v2_4), (3, .int t.1)] [] t.2) h (fun e9 h => ?_) (fun kx rc t hk ih h => w_X6_write_63 l D a b S0 C   x1 v2_4 kx rc hk ih t.1 t.2 h)
        refine x_iload_n 93 C dX6_write_93 rfl 0 rfl ?_
        exact x_iret 94 C dX6_write_94 (Prod.mk.inj (Option.some.inj h)).1 (Prod.mk.inj (Option.some.inj h)).2
      · refine x_bipush 38 C dX6_write_38 cb_m3 ?_
        exact x_iret 40 C dX6_write_40 (Prod.mk.inj (Option.some.inj h)).1 (Prod.mk.inj (Option.some.inj h)).2
    · refine x_aload_n 22 C dX6_write_22 rfl 0 rfl ?_
      refine x_iconst 23 C dX6_write_23 ci_1 ?_
      obtain ⟨z10, hz10, h⟩ := xbind_some h
      refine x_callV 24 C (q0 := 0) (ci := 6) 1 (As := [.int 1]) (rest := []) (M_X6_finding l D a b S0 1  hz10) (by rfl) rfl kw_406 mv_X6_finding mh_X6_finding ⟨rfl, rfl⟩ ⟨Nat.le_of_ble_eq_true rfl, Nat.le_of_ble_eq_true rfl⟩ rfl rfl (Nat.le_of_ble_eq_true rfl) dX6_write_24 ?_
      exact x_iret 27 C dX6_write_27 (Prod.mk.inj (Option.some.inj h)).1 (Prod.mk.inj (Option.some.inj h)).2
  · refine x_bipush 7 C dX6_write_7 cb_m2 ?_
    exact x_iret 9 C dX6_write_9 (Prod.mk.inj (Option.some.inj h)).1 (Prod.mk.inj (Option.some.inj h)).2
/-! GraveOrder.count (I)I -/
def F_X6_count (S0 : XSt) (x1 : Int32) : (Option Int32) :=
  (if x1 = 0 then (some (S0 1 4)) else (if x1 = 1 then (some (S0 3 4)) else (if x1 = 2 then ((F_X5_kindsOfAll S0).bind fun z1 => (some z1)) else (if x1 = 3 then ((F_X5_allFinds S0).bind fun z2 => (some z2)) else (if x1 = 4 then (some (S0 1 6)) else (if x1 = 5 then (some (S0 2 1)) else (if x1 = 6 then (some (S0 0 6)) else (if x1 = 7 then (some (S0 1 5)) else (if x1 = 8 then (some (S0 0 7)) else (some (-2)))))))))))
abbrev rm_X6_count : Room := { frames := 2, cells := 0, slots := 0, locals := 42 }
set_option maxRecDepth 100000 in
set_option maxHeartbeats 4000000 in
theorem M_X6_count (l : Launch) (D : va_G) (a : Nat → Nat) (b : Nat → ClassId) (S0 : XSt) (x1 : Int32)  {r9 : Int32} (h : F_X6_count S0 x1 = some r9) : xM l (ωC D a b) yX6_count cX6_count 2 (some .int) rm_X6_count [.ref (a 0), .int x1] S0 (some (.int r9), S0) := by
  unfold F_X6_count at h
  refine xM_of (own := "GraveOrder") (by decide) rfl (Nat.le_of_ble_eq_true rfl) (fun Γ C => ?_)
  refine x_sub 0 [0, 1] (lv' := [(0, .ref (a 0)), (1, .int x1)]) rfl ?_
  refine x_iload_n 0 C dX6_count_0 rfl 1 rfl ?_
  refine x_split h (fun e0 h => ?_) (fun e0 h => ?_)
  · refine x_tswIn 1 C 0 52 dX6_count_1 e0 (by decide) (by decide) rfl rfl ?_
    refine x_aload_n 52 C dX6_count_52 rfl 0 rfl ?_
    refine gX6_yard 53 C kw_278 dX6_count_53 ?_
    refine gX5_graves 56 C kw_104 dX6_count_56 ?_
    exact x_iret 59 C dX6_count_59 (Option.some.inj h) rfl
  · refine x_split h (fun e1 h => ?_) (fun e1 h => ?_)
    · refine x_tswIn 1 C 1 60 dX6_count_1 e1 (by decide) (by decide) rfl rfl ?_
      refine x_aload_n 60 C dX6_count_60 rfl 0 rfl ?_
      refine gX6_finds 61 C kw_280 dX6_count_61 ?_
      refine gX0_size 64 C kw_163 dX6_count_64 ?_
      exact x_iret 67 C dX6_count_67 (Option.some.inj h) rfl
    · refine x_split h (fun e2 h => ?_) (fun e2 h => ?_)
      · refine x_tswIn 1 C 2 68 dX6_count_1 e2 (by decide) (by decide) rfl rfl ?_
        refine x_aload_n 68 C dX6_count_68 rfl 0 rfl ?_
        refine gX6_yard 69 C kw_278 dX6_count_69 ?_
        obtain ⟨z1, hz1, h⟩ := xbind_some h
        refine x_callV 72 C (q0 := 1) (ci := 5) 0 (As := []) (rest := []) (M_X5_kindsOfAll l D a b S0   hz1) (by rfl) rfl kw_656 mv_X5_kindsOfAll mh_X5_kindsOfAll ⟨rfl, rfl⟩ ⟨Nat.le_of_ble_eq_true rfl, Nat.le_of_ble_eq_true rfl⟩ rfl rfl (Nat.le_of_ble_eq_true rfl) dX6_count_72 ?_
        exact x_iret 75 C dX6_count_75 (Option.some.inj h) rfl
      · refine x_split h (fun e3 h => ?_) (fun e3 h => ?_)
        · refine x_tswIn 1 C 3 76 dX6_count_1 e3 (by decide) (by decide) rfl rfl ?_
          refine x_aload_n 76 C dX6_count_76 rfl 0 rfl ?_
          refine gX6_yard 77 C kw_278 dX6_count_77 ?_
          obtain ⟨z2, hz2, h⟩ := xbind_some h
          refine x_callV 80 C (q0 := 1) (ci := 5) 0 (As := []) (rest := []) (M_X5_allFinds l D a b S0   hz2) (by rfl) rfl kw_749 mv_X5_allFinds mh_X5_allFinds ⟨rfl, rfl⟩ ⟨Nat.le_of_ble_eq_true rfl, Nat.le_of_ble_eq_true rfl⟩ rfl rfl (Nat.le_of_ble_eq_true rfl) dX6_count_80 ?_
          exact x_iret 83 C dX6_count_83 (Option.some.inj h) rfl
        · refine x_split h (fun e4 h => ?_) (fun e4 h => ?_)
          · refine x_tswIn 1 C 4 84 dX6_count_1 e4 (by decide) (by decide) rfl rfl ?_
            refine x_aload_n 84 C dX6_count_84 rfl 0 rfl ?_
            refine gX6_yard 85 C kw_278 dX6_count_85 ?_
            refine gX5_overs 88 C kw_112 dX6_count_88 ?_
            exact x_iret 91 C dX6_count_91 (Option.some.inj h) rfl
          · refine x_split h (fun e5 h => ?_) (fun e5 h => ?_)
            · refine x_tswIn 1 C 5 92 dX6_count_1 e5 (by decide) (by decide) rfl rfl ?_
              refine x_aload_n 92 C dX6_count_92 rfl 0 rfl ?_
              refine gX6_line 93 C kw_279 dX6_count_93 ?_
              refine gX2_length 96 C kw_146 dX6_count_96 ?_
              exact x_iret 99 C dX6_count_99 (Option.some.inj h) rfl
            · refine x_split h (fun e6 h => ?_) (fun e6 h => ?_)
              · refine x_tswIn 1 C 6 100 dX6_count_1 e6 (by decide) (by decide) rfl rfl ?_
                refine x_aload_n 100 C dX6_count_100 rfl 0 rfl ?_
                refine gX6_asOfTime 101 C kw_284 dX6_count_101 ?_
                exact x_iret 104 C dX6_count_104 (Option.some.inj h) rfl
              · refine x_split h (fun e7 h => ?_) (fun e7 h => ?_)
                · refine x_tswIn 1 C 7 105 dX6_count_1 e7 (by decide) (by decide) rfl rfl ?_
                  refine x_aload_n 105 C dX6_count_105 rfl 0 rfl ?_
                  refine gX6_yard 106 C kw_278 dX6_count_106 ?_
                  refine gX5_robbedBits 109 C kw_109 dX6_count_109 ?_
                  exact x_iret 112 C dX6_count_112 (Option.some.inj h) rfl
                · refine x_split h (fun e8 h => ?_) (fun e8 h => ?_)
                  · refine x_tswIn 1 C 8 113 dX6_count_1 e8 (by decide) (by decide) rfl rfl ?_
                    refine x_aload_n 113 C dX6_count_113 rfl 0 rfl ?_
                    refine gX6_latestFinding 114 C kw_285 dX6_count_114 ?_
                    exact x_iret 117 C dX6_count_117 (Option.some.inj h) rfl
                  · refine x_tswOut 1 C 118 dX6_count_1 (by have e0_ := xi_ne 0 0 rfl e0; have e1_ := xi_ne 1 1 rfl e1; have e2_ := xi_ne 2 2 rfl e2; have e3_ := xi_ne 3 3 rfl e3; have e4_ := xi_ne 4 4 rfl e4; have e5_ := xi_ne 5 5 rfl e5; have e6_ := xi_ne 6 6 rfl e6; have e7_ := xi_ne 7 7 rfl e7; have e8_ := xi_ne 8 8 rfl e8; omega) rfl ?_
                    refine x_bipush 118 C dX6_count_118 cb_m2 ?_
                    exact x_iret 120 C dX6_count_120 (Option.some.inj h) rfl
/-! GraveOrder.digestOfGraves (J)J -/
def B_X6_digestOfGraves_5  (kx : (Int64 × XSt) → Option (Int64 × XSt)) (rc : (Int64 × Int32 × XSt) → Option (Int64 × XSt)) (y3 : Int64) (y5 : Int32) (S1 : XSt) : Option (Int64 × XSt) :=
  (if (S1 1 4) ≤ y5 then kx (y3, S1) else ((F_X6_has S1 y5).bind fun z1 => (xlet (((31 : Int64) * y3) + ((z1).toInt64)) fun v3_2 => ((F_X6_first S1 y5).bind fun z3 => (xlet (((31 : Int64) * v3_2) + ((z3.1).toInt64)) fun v3_4 => ((F_X6_places z3.2 y5).bind fun z5 => (xlet (((31 : Int64) * v3_4) + ((z5.1).toInt64)) fun v3_6 => ((F_X6_years z5.2 0 y5 0).bind fun z7 => (xlet (((31 : Int64) * v3_6) + ((z7.1).toInt64)) fun v3_8 => ((F_X6_years z7.2 0 y5 1).bind fun z9 => (xlet (((31 : Int64) * v3_8) + ((z9.1).toInt64)) fun v3_10 => ((F_X6_nearest z9.2 y5).bind fun z11 => (xlet (((31 : Int64) * v3_10) + ((z11).toInt64)) fun v3_12 => (xlet (y5 + 1) fun v5_13 => rc (v3_12, v5_13, z9.2)))))))))))))))
def F_X6_digestOfGraves (S0 : XSt) (x1 : Int64) : (Option (Int64 × XSt)) :=
  (xlp (fun k rc t => B_X6_digestOfGraves_5   k rc t.1 t.2.1 t.2.2) (fun e14 => (some (e14.1, e14.2))) XFU (x1, 0, S0))
abbrev rm_X6_digestOfGraves : Room := { frames := 6, cells := 0, slots := 0, locals := 132 }
set_option maxRecDepth 100000 in
set_option maxHeartbeats 4000000 in
theorem w_X6_digestOfGraves_5 (l : Launch) (D : va_G) (a : Nat → Nat) (b : Nat → ClassId) (S0 : XSt) {Γ : XG XSt} {r9 : Int64} {S9 : XSt} (C : Cx (ωC D a b) Γ cX6_digestOfGraves "GraveOrder" (some .long) l rm_X6_digestOfGraves 6 (some (.long r9), S9))   (kx : (Int64 × XSt) → Option (Int64 × XSt)) (rc : (Int64 × Int32 × XSt) → Option (Int64 × XSt)) (hk : ∀ e, kx e = some (r9, S9) → XAt (ωC D a b) Γ 111 [(3, .long e.1)] [] e.2) (ih : ∀ t, rc t = some (r9, S9) → XAt (ωC D a b) Γ 5 [(0, .ref (a 0)), (3, .long t.1), (5, .int t.2.1)] [] t.2.2) (y3 : Int64) (y5 : Int32) (S1 : XSt) (h : B_X6_digestOfGraves_5   kx rc y3 y5 S1 = some (r9, S9)) : XAt (ωC D a b) Γ 5 [(0, .ref (a 0)), (3, .long y3), (5, .int y5)] [] S1 := by
  unfold B_X6_digestOfGraves_5 at h
  refine x_iload 5 C dX6_digestOfGraves_5 2 rfl ?_
  refine x_aload_n 7 C dX6_digestOfGraves_7 rfl 0 rfl ?_
  refine gX6_yard 8 C kw_278 dX6_digestOfGraves_8 ?_
  refine gX5_graves 11 C kw_104 dX6_digestOfGraves_11 ?_
  refine x_icmp_ge 14 C 111 dX6_digestOfGraves_14 rfl h (fun h => ?_) (fun h => ?_)
  · exact x_sub 111 [1] rfl (hk _ h)
  · refine x_ldc2 17 C kw_758 dX6_digestOfGraves_17 ?_
    refine x_lload_n 20 C dX6_digestOfGraves_20 rfl 1 rfl ?_
    refine x_lmul 21 C dX6_digestOfGraves_21 ?_
    refine x_aload_n 22 C dX6_digestOfGraves_22 rfl 0 rfl ?_
    refine x_iload 23 C dX6_digestOfGraves_23 2 rfl ?_
    obtain ⟨z1, hz1, h⟩ := xbind_some h
    refine x_callV 25 C (q0 := 0) (ci := 6) 1 (As := [.int y5]) (rest := [.long ((31 : Int64) * y3)]) (M_X6_has l D a b S1 y5  hz1) (by rfl) rfl kw_765 mv_X6_has mh_X6_has ⟨rfl, rfl⟩ ⟨Nat.le_of_ble_eq_true rfl, Nat.le_of_ble_eq_true rfl⟩ rfl rfl (Nat.le_of_ble_eq_true rfl) dX6_digestOfGraves_25 ?_
    refine x_i2l 28 C dX6_digestOfGraves_28 ?_
    refine x_ladd 29 C dX6_digestOfGraves_29 ?_
    refine x_topl h (fun v3_2 h => ?_)
    refine x_lstore_n 30 C (lv' := [(0, .ref (a 0)), (3, .long v3_2), (5, .int y5)]) dX6_digestOfGraves_30 rfl (Nat.le_of_ble_eq_true rfl) [1, 0, 2] rfl ?_
    refine x_ldc2 31 C kw_758 dX6_digestOfGraves_31 ?_
    refine x_lload_n 34 C dX6_digestOfGraves_34 rfl 1 rfl ?_
    refine x_lmul 35 C dX6_digestOfGraves_35 ?_
    refine x_aload_n 36 C dX6_digestOfGraves_36 rfl 0 rfl ?_
    refine x_iload 37 C dX6_digestOfGraves_37 2 rfl ?_
    obtain ⟨z3, hz3, h⟩ := xbind_some h
    refine x_callV 39 C (q0 := 0) (ci := 6) 1 (As := [.int y5]) (rest := [.long ((31 : Int64) * v3_2)]) (M_X6_first l D a b S1 y5  hz3) (by rfl) rfl kw_766 mv_X6_first mh_X6_first ⟨rfl, rfl⟩ ⟨Nat.le_of_ble_eq_true rfl, Nat.le_of_ble_eq_true rfl⟩ rfl rfl (Nat.le_of_ble_eq_true rfl) dX6_digestOfGraves_39 ?_
    refine x_i2l 42 C dX6_digestOfGraves_42 ?_
    refine x_ladd 43 C dX6_digestOfGraves_43 ?_
    refine x_topl h (fun v3_4 h => ?_)
    refine x_lstore_n 44 C (lv' := [(0, .ref (a 0)), (3, .long v3_4), (5, .int y5)]) dX6_digestOfGraves_44 rfl (Nat.le_of_ble_eq_true rfl) [1, 0, 2] rfl ?_
    refine x_ldc2 45 C kw_758 dX6_digestOfGraves_45 ?_
    refine x_lload_n 48 C dX6_digestOfGraves_48 rfl 1 rfl ?_
    refine x_lmul 49 C dX6_digestOfGraves_49 ?_
    refine x_aload_n 50 C dX6_digestOfGraves_50 rfl 0 rfl ?_
    refine x_iload 51 C dX6_digestOfGraves_51 2 rfl ?_
    obtain ⟨z5, hz5, h⟩ := xbind_some h
    refine x_callV 53 C (q0 := 0) (ci := 6) 1 (As := [.int y5]) (rest := [.long ((31 : Int64) * v3_4)]) (M_X6_places l D a b z3.2 y5  hz5) (by rfl) rfl kw_767 mv_X6_places mh_X6_places ⟨rfl, rfl⟩ ⟨Nat.le_of_ble_eq_true rfl, Nat.le_of_ble_eq_true rfl⟩ rfl rfl (Nat.le_of_ble_eq_true rfl) dX6_digestOfGraves_53 ?_
    refine x_i2l 56 C dX6_digestOfGraves_56 ?_
    refine x_ladd 57 C dX6_digestOfGraves_57 ?_
    refine x_topl h (fun v3_6 h => ?_)
    refine x_lstore_n 58 C (lv' := [(0, .ref (a 0)), (3, .long v3_6), (5, .int y5)]) dX6_digestOfGraves_58 rfl (Nat.le_of_ble_eq_true rfl) [1, 0, 2] rfl ?_
    refine x_ldc2 59 C kw_758 dX6_digestOfGraves_59 ?_
    refine x_lload_n 62 C dX6_digestOfGraves_62 rfl 1 rfl ?_
    refine x_lmul 63 C dX6_digestOfGraves_63 ?_
    refine x_aload_n 64 C dX6_digestOfGraves_64 rfl 0 rfl ?_
    refine x_iconst 65 C dX6_digestOfGraves_65 ci_0 ?_
    refine x_iload 66 C dX6_digestOfGraves_66 2 rfl ?_
    refine x_iconst 68 C dX6_digestOfGraves_68 ci_0 ?_
    obtain ⟨z7, hz7, h⟩ := xbind_some h
    refine x_callV 69 C (q0 := 0) (ci := 6) 3 (As := [.int 0, .int y5, .int 0]) (rest := [.long ((31 : Int64) * v3_6)]) (M_X6_years l D a b z5.2 0 y5 0  hz7) (by rfl) rfl kw_768 mv_X6_years mh_X6_years ⟨rfl, rfl⟩ ⟨Nat.le_of_ble_eq_true rfl, Nat.le_of_ble_eq_true rfl⟩ rfl rfl (Nat.le_of_ble_eq_true rfl) dX6_digestOfGraves_69 ?_
    refine x_i2l 72 C dX6_digestOfGraves_72 ?_
    refine x_ladd 73 C dX6_digestOfGraves_73 ?_
    refine x_topl h (fun v3_8 h => ?_)
    refine x_lstore_n 74 C (lv' := [(0, .ref (a 0)), (3, .long v3_8), (5, .int y5)]) dX6_digestOfGraves_74 rfl (Nat.le_of_ble_eq_true rfl) [1, 0, 2] rfl ?_
    refine x_ldc2 75 C kw_758 dX6_digestOfGraves_75 ?_
    refine x_lload_n 78 C dX6_digestOfGraves_78 rfl 1 rfl ?_
    refine x_lmul 79 C dX6_digestOfGraves_79 ?_
    refine x_aload_n 80 C dX6_digestOfGraves_80 rfl 0 rfl ?_
    refine x_iconst 81 C dX6_digestOfGraves_81 ci_0 ?_
    refine x_iload 82 C dX6_digestOfGraves_82 2 rfl ?_
    refine x_iconst 84 C dX6_digestOfGraves_84 ci_1 ?_
    obtain ⟨z9, hz9, h⟩ := xbind_some h
    refine x_callV 85 C (q0 := 0) (ci := 6) 3 (As := [.int 0, .int y5, .int 1]) (rest := [.long ((31 : Int64) * v3_8)]) (M_X6_years l D a b z7.2 0 y5 1  hz9) (by rfl) rfl kw_768 mv_X6_years mh_X6_years ⟨rfl, rfl⟩ ⟨Nat.le_of_ble_eq_true rfl, Nat.le_of_ble_eq_true rfl⟩ rfl rfl (Nat.le_of_ble_eq_true rfl) dX6_digestOfGraves_85 ?_
    refine x_i2l 88 C dX6_digestOfGraves_88 ?_
    refine x_ladd 89 C dX6_digestOfGraves_89 ?_
    refine x_topl h (fun v3_10 h => ?_)
    refine x_lstore_n 90 C (lv' := [(0, .ref (a 0)), (3, .long v3_10), (5, .int y5)]) dX6_digestOfGraves_90 rfl (Nat.le_of_ble_eq_true rfl) [1, 0, 2] rfl ?_
    refine x_ldc2 91 C kw_758 dX6_digestOfGraves_91 ?_
    refine x_lload_n 94 C dX6_digestOfGraves_94 rfl 1 rfl ?_
    refine x_lmul 95 C dX6_digestOfGraves_95 ?_
    refine x_aload_n 96 C dX6_digestOfGraves_96 rfl 0 rfl ?_
    refine x_iload 97 C dX6_digestOfGraves_97 2 rfl ?_
    obtain ⟨z11, hz11, h⟩ := xbind_some h
    refine x_callV 99 C (q0 := 0) (ci := 6) 1 (As := [.int y5]) (rest := [.long ((31 : Int64) * v3_10)]) (M_X6_nearest l D a b z9.2 y5  hz11) (by rfl) rfl kw_769 mv_X6_nearest mh_X6_nearest ⟨rfl, rfl⟩ ⟨Nat.le_of_ble_eq_true rfl, Nat.le_of_ble_eq_true rfl⟩ rfl rfl (Nat.le_of_ble_eq_true rfl) dX6_digestOfGraves_99 ?_
    refine x_i2l 102 C dX6_digestOfGraves_102 ?_
    refine x_ladd 103 C dX6_digestOfGraves_103 ?_
    refine x_topl h (fun v3_12 h => ?_)
    refine x_lstore_n 104 C (lv' := [(0, .ref (a 0)), (3, .long v3_12), (5, .int y5)]) dX6_digestOfGraves_104 rfl (Nat.le_of_ble_eq_true rfl) [1, 0, 2] rfl ?_
    refine x_iinc 105 C (L := fun v5_13 => [(0, .ref (a 0)), (3, .long v3_12), (5, .int v5_13)]) dX6_digestOfGraves_105 2 rfl ci_1 (Nat.le_of_ble_eq_true rfl) [1, 2, 0] (fun _ => rfl) h (fun v5_13 h => ?_)
    refine x_goto 108 C 5 dX6_digestOfGraves_108 rfl ?_
    exact ih _ h
set_option maxRecDepth 100000 in
set_option maxHeartbeats 4000000 in
theorem M_X6_digestOfGraves (l : Launch) (D : va_G) (a : Nat → Nat) (b : Nat → ClassId) (S0 : XSt) (x1 : Int64)  {r9 : Int64} {S9 : XSt} (h : F_X6_digestOfGraves S0 x1 = some (r9, S9)) : xM l (ωC D a b) yX6_digestOfGraves cX6_digestOfGraves 6 (some .long) rm_X6_digestOfGraves [.ref (a 0), .long x1] S0 (some (.long r9), S9) := by
  unfold F_X6_digestOfGraves at h
  refine xM_of (own := "GraveOrder") (by decide) rfl (Nat.le_of_ble_eq_true rfl) (fun Γ C => ?_)
  refine x_sub 0 [0, 1] (lv' := [(0, .ref (a 0)), (1, .long x1)]) rfl ?_
  refine x_lload_n 0 C dX6_digestOfGraves_0 rfl 1 rfl ?_
  refine x_lstore_n 1 C (lv' := [(0, .ref (a 0)), (3, .long x1)]) dX6_digestOfGraves_1 rfl (Nat.le_of_ble_eq_true rfl) [1, 0] rfl ?_
  refine x_iconst 2 C dX6_digestOfGraves_2 ci_0 ?_
  refine x_istore 3 C (lv' := [(0, .ref (a 0)), (3, .long x1), (5, .int 0)]) dX6_digestOfGraves_3 (Nat.le_of_ble_eq_true rfl) [1, 2, 0] rfl ?_
  refine x_loop (E := fun e => XAt (ωC D a b) Γ 111 [(3, .long e.1)] [] e.2) (P := fun t => XAt (ωC D a b) Γ 5 [(0, .ref (a 0)), (3, .long t.1), (5, .int t.2.1)] [] t.2.2) h (fun e14 h => ?_) (fun kx rc t hk ih h => w_X6_digestOfGraves_5 l D a b S0 C    kx rc hk ih t.1 t.2.1 t.2.2 h)
  refine x_lload_n 111 C dX6_digestOfGraves_111 rfl 0 rfl ?_
  exact x_lret 112 C dX6_digestOfGraves_112 (Prod.mk.inj (Option.some.inj h)).1 (Prod.mk.inj (Option.some.inj h)).2
/-! GraveOrder.digestOfOrders (J)J -/
def B_X6_digestOfOrders_5  (kx : (Int64 × XSt) → Option (Int64 × XSt)) (rc : (Int64 × Int32 × XSt) → Option (Int64 × XSt)) (y3 : Int64) (y5 : Int32) (S1 : XSt) : Option (Int64 × XSt) :=
  (if 3 ≤ y5 then kx (y3, S1) else ((F_X6_best S1 y5).bind fun z1 => (xlet (((31 : Int64) * y3) + ((z1.1).toInt64)) fun v3_2 => (xlet (y5 + 1) fun v5_3 => rc (v3_2, v5_3, z1.2)))))
def F_X6_digestOfOrders (S0 : XSt) (x1 : Int64) : (Option (Int64 × XSt)) :=
  (xlp (fun k rc t => B_X6_digestOfOrders_5   k rc t.1 t.2.1 t.2.2) (fun e4 => ((F_X6_spread e4.2 0 1).bind fun z5 => (xlet (((31 : Int64) * e4.1) + ((z5.1).toInt64)) fun v3_6 => ((F_X6_mean z5.2 0).bind fun z7 => (xlet (((31 : Int64) * v3_6) + z7.1) fun v3_8 => ((F_X6_mean z7.2 1).bind fun z9 => (xlet (((31 : Int64) * v3_8) + z9.1) fun v3_10 => ((F_X6_leftOut z9.2).bind fun z11 => (xlet (((31 : Int64) * v3_10) + ((z11.1).toInt64)) fun v3_12 => ((F_X6_phases z11.2 2 (-1)).bind fun z13 => (some ((((31 : Int64) * v3_12) + ((z13.1).toInt64)), z13.2)))))))))))) XFU (x1, 0, S0))
abbrev rm_X6_digestOfOrders : Room := { frames := 14, cells := 0, slots := 0, locals := 367 }
set_option maxRecDepth 100000 in
set_option maxHeartbeats 4000000 in
theorem w_X6_digestOfOrders_5 (l : Launch) (D : va_G) (a : Nat → Nat) (b : Nat → ClassId) (S0 : XSt) {Γ : XG XSt} {r9 : Int64} {S9 : XSt} (C : Cx (ωC D a b) Γ cX6_digestOfOrders "GraveOrder" (some .long) l rm_X6_digestOfOrders 6 (some (.long r9), S9))   (kx : (Int64 × XSt) → Option (Int64 × XSt)) (rc : (Int64 × Int32 × XSt) → Option (Int64 × XSt)) (hk : ∀ e, kx e = some (r9, S9) → XAt (ωC D a b) Γ 31 [(0, .ref (a 0)), (3, .long e.1)] [] e.2) (ih : ∀ t, rc t = some (r9, S9) → XAt (ωC D a b) Γ 5 [(0, .ref (a 0)), (3, .long t.1), (5, .int t.2.1)] [] t.2.2) (y3 : Int64) (y5 : Int32) (S1 : XSt) (h : B_X6_digestOfOrders_5   kx rc y3 y5 S1 = some (r9, S9)) : XAt (ωC D a b) Γ 5 [(0, .ref (a 0)), (3, .long y3), (5, .int y5)] [] S1 := by
  unfold B_X6_digestOfOrders_5 at h
  refine x_iload 5 C dX6_digestOfOrders_5 2 rfl ?_
  refine x_iconst 7 C dX6_digestOfOrders_7 ci_3 ?_
  refine x_icmp_ge 8 C 31 dX6_digestOfOrders_8 rfl h (fun h => ?_) (fun h => ?_)
  · exact x_sub 31 [0, 1] rfl (hk _ h)
  · refine x_ldc2 11 C kw_758 dX6_digestOfOrders_11 ?_
    refine x_lload_n 14 C dX6_digestOfOrders_14 rfl 1 rfl ?_
    refine x_lmul 15 C dX6_digestOfOrders_15 ?_
    refine x_aload_n 16 C dX6_digestOfOrders_16 rfl 0 rfl ?_
    refine x_iload 17 C dX6_digestOfOrders_17 2 rfl ?_
    obtain ⟨z1, hz1, h⟩ := xbind_some h
    refine x_callV 19 C (q0 := 0) (ci := 6) 1 (As := [.int y5]) (rest := [.long ((31 : Int64) * y3)]) (M_X6_best l D a b S1 y5  hz1) (by rfl) rfl kw_774 mv_X6_best mh_X6_best ⟨rfl, rfl⟩ ⟨Nat.le_of_ble_eq_true rfl, Nat.le_of_ble_eq_true rfl⟩ rfl rfl (Nat.le_of_ble_eq_true rfl) dX6_digestOfOrders_19 ?_
    refine x_i2l 22 C dX6_digestOfOrders_22 ?_
    refine x_ladd 23 C dX6_digestOfOrders_23 ?_
    refine x_topl h (fun v3_2 h => ?_)
    refine x_lstore_n 24 C (lv' := [(0, .ref (a 0)), (3, .long v3_2), (5, .int y5)]) dX6_digestOfOrders_24 rfl (Nat.le_of_ble_eq_true rfl) [1, 0, 2] rfl ?_
    refine x_iinc 25 C (L := fun v5_3 => [(0, .ref (a 0)), (3, .long v3_2), (5, .int v5_3)]) dX6_digestOfOrders_25 2 rfl ci_1 (Nat.le_of_ble_eq_true rfl) [1, 2, 0] (fun _ => rfl) h (fun v5_3 h => ?_)
    refine x_goto 28 C 5 dX6_digestOfOrders_28 rfl ?_
    exact ih _ h
set_option maxRecDepth 100000 in
set_option maxHeartbeats 4000000 in
theorem M_X6_digestOfOrders (l : Launch) (D : va_G) (a : Nat → Nat) (b : Nat → ClassId) (S0 : XSt) (x1 : Int64)  {r9 : Int64} {S9 : XSt} (h : F_X6_digestOfOrders S0 x1 = some (r9, S9)) : xM l (ωC D a b) yX6_digestOfOrders cX6_digestOfOrders 6 (some .long) rm_X6_digestOfOrders [.ref (a 0), .long x1] S0 (some (.long r9), S9) := by
  unfold F_X6_digestOfOrders at h
  refine xM_of (own := "GraveOrder") (by decide) rfl (Nat.le_of_ble_eq_true rfl) (fun Γ C => ?_)
  refine x_sub 0 [0, 1] (lv' := [(0, .ref (a 0)), (1, .long x1)]) rfl ?_
  refine x_lload_n 0 C dX6_digestOfOrders_0 rfl 1 rfl ?_
  refine x_lstore_n 1 C (lv' := [(0, .ref (a 0)), (3, .long x1)]) dX6_digestOfOrders_1 rfl (Nat.le_of_ble_eq_true rfl) [1, 0] rfl ?_
  refine x_iconst 2 C dX6_digestOfOrders_2 ci_0 ?_
  refine x_istore 3 C (lv' := [(0, .ref (a 0)), (3, .long x1), (5, .int 0)]) dX6_digestOfOrders_3 (Nat.le_of_ble_eq_true rfl) [1, 2, 0] rfl ?_
  refine x_loop (E := fun e => XAt (ωC D a b) Γ 31 [(0, .ref (a 0)), (3, .long e.1)] [] e.2) (P := fun t => XAt (ωC D a b) Γ 5 [(0, .ref (a 0)), (3, .long t.1), (5, .int t.2.1)] [] t.2.2) h (fun e4 h => ?_) (fun kx rc t hk ih h => w_X6_digestOfOrders_5 l D a b S0 C    kx rc hk ih t.1 t.2.1 t.2.2 h)
  refine x_ldc2 31 C kw_758 dX6_digestOfOrders_31 ?_
  refine x_lload_n 34 C dX6_digestOfOrders_34 rfl 1 rfl ?_
  refine x_lmul 35 C dX6_digestOfOrders_35 ?_
  refine x_aload_n 36 C dX6_digestOfOrders_36 rfl 0 rfl ?_
  refine x_iconst 37 C dX6_digestOfOrders_37 ci_0 ?_
  refine x_iconst 38 C dX6_digestOfOrders_38 ci_1 ?_
  obtain ⟨z5, hz5, h⟩ := xbind_some h
  refine x_callV 39 C (q0 := 0) (ci := 6) 2 (As := [.int 0, .int 1]) (rest := [.long ((31 : Int64) * e4.1)]) (M_X6_spread l D a b e4.2 0 1  hz5) (by rfl) rfl kw_775 mv_X6_spread mh_X6_spread ⟨rfl, rfl⟩ ⟨Nat.le_of_ble_eq_true rfl, Nat.le_of_ble_eq_true rfl⟩ rfl rfl (Nat.le_of_ble_eq_true rfl) dX6_digestOfOrders_39 ?_
  refine x_i2l 42 C dX6_digestOfOrders_42 ?_
  refine x_ladd 43 C dX6_digestOfOrders_43 ?_
  refine x_topl h (fun v3_6 h => ?_)
  refine x_lstore_n 44 C (lv' := [(0, .ref (a 0)), (3, .long v3_6)]) dX6_digestOfOrders_44 rfl (Nat.le_of_ble_eq_true rfl) [1, 0] rfl ?_
  refine x_ldc2 45 C kw_758 dX6_digestOfOrders_45 ?_
  refine x_lload_n 48 C dX6_digestOfOrders_48 rfl 1 rfl ?_
  refine x_lmul 49 C dX6_digestOfOrders_49 ?_
  refine x_aload_n 50 C dX6_digestOfOrders_50 rfl 0 rfl ?_
  refine x_iconst 51 C dX6_digestOfOrders_51 ci_0 ?_
  obtain ⟨z7, hz7, h⟩ := xbind_some h
  refine x_callV 52 C (q0 := 0) (ci := 6) 1 (As := [.int 0]) (rest := [.long ((31 : Int64) * v3_6)]) (M_X6_mean l D a b z5.2 0  hz7) (by rfl) rfl kw_776 mv_X6_mean mh_X6_mean ⟨rfl, rfl⟩ ⟨Nat.le_of_ble_eq_true rfl, Nat.le_of_ble_eq_true rfl⟩ rfl rfl (Nat.le_of_ble_eq_true rfl) dX6_digestOfOrders_52 ?_
  refine x_ladd 55 C dX6_digestOfOrders_55 ?_
  refine x_topl h (fun v3_8 h => ?_)
  refine x_lstore_n 56 C (lv' := [(0, .ref (a 0)), (3, .long v3_8)]) dX6_digestOfOrders_56 rfl (Nat.le_of_ble_eq_true rfl) [1, 0] rfl ?_
  refine x_ldc2 57 C kw_758 dX6_digestOfOrders_57 ?_
  refine x_lload_n 60 C dX6_digestOfOrders_60 rfl 1 rfl ?_
  refine x_lmul 61 C dX6_digestOfOrders_61 ?_
  refine x_aload_n 62 C dX6_digestOfOrders_62 rfl 0 rfl ?_
  refine x_iconst 63 C dX6_digestOfOrders_63 ci_1 ?_
  obtain ⟨z9, hz9, h⟩ := xbind_some h
  refine x_callV 64 C (q0 := 0) (ci := 6) 1 (As := [.int 1]) (rest := [.long ((31 : Int64) * v3_8)]) (M_X6_mean l D a b z7.2 1  hz9) (by rfl) rfl kw_776 mv_X6_mean mh_X6_mean ⟨rfl, rfl⟩ ⟨Nat.le_of_ble_eq_true rfl, Nat.le_of_ble_eq_true rfl⟩ rfl rfl (Nat.le_of_ble_eq_true rfl) dX6_digestOfOrders_64 ?_
  refine x_ladd 67 C dX6_digestOfOrders_67 ?_
  refine x_topl h (fun v3_10 h => ?_)
  refine x_lstore_n 68 C (lv' := [(0, .ref (a 0)), (3, .long v3_10)]) dX6_digestOfOrders_68 rfl (Nat.le_of_ble_eq_true rfl) [1, 0] rfl ?_
  refine x_ldc2 69 C kw_758 dX6_digestOfOrders_69 ?_
  refine x_lload_n 72 C dX6_digestOfOrders_72 rfl 1 rfl ?_
  refine x_lmul 73 C dX6_digestOfOrders_73 ?_
  refine x_aload_n 74 C dX6_digestOfOrders_74 rfl 0 rfl ?_
  obtain ⟨z11, hz11, h⟩ := xbind_some h
  refine x_callV 75 C (q0 := 0) (ci := 6) 0 (As := []) (rest := [.long ((31 : Int64) * v3_10)]) (M_X6_leftOut l D a b z9.2   hz11) (by rfl) rfl kw_777 mv_X6_leftOut mh_X6_leftOut ⟨rfl, rfl⟩ ⟨Nat.le_of_ble_eq_true rfl, Nat.le_of_ble_eq_true rfl⟩ rfl rfl (Nat.le_of_ble_eq_true rfl) dX6_digestOfOrders_75 ?_
  refine x_i2l 78 C dX6_digestOfOrders_78 ?_
  refine x_ladd 79 C dX6_digestOfOrders_79 ?_
  refine x_topl h (fun v3_12 h => ?_)
  refine x_lstore_n 80 C (lv' := [(0, .ref (a 0)), (3, .long v3_12)]) dX6_digestOfOrders_80 rfl (Nat.le_of_ble_eq_true rfl) [1, 0] rfl ?_
  refine x_ldc2 81 C kw_758 dX6_digestOfOrders_81 ?_
  refine x_lload_n 84 C dX6_digestOfOrders_84 rfl 1 rfl ?_
  refine x_lmul 85 C dX6_digestOfOrders_85 ?_
  refine x_aload_n 86 C dX6_digestOfOrders_86 rfl 0 rfl ?_
  refine x_iconst 87 C dX6_digestOfOrders_87 ci_2 ?_
  refine x_iconst 88 C dX6_digestOfOrders_88 ci_m1 ?_
  obtain ⟨z13, hz13, h⟩ := xbind_some h
  refine x_callV 89 C (q0 := 0) (ci := 6) 2 (As := [.int 2, .int (-1)]) (rest := [.long ((31 : Int64) * v3_12)]) (M_X6_phases l D a b z11.2 2 (-1)  hz13) (by rfl) rfl kw_778 mv_X6_phases mh_X6_phases ⟨rfl, rfl⟩ ⟨Nat.le_of_ble_eq_true rfl, Nat.le_of_ble_eq_true rfl⟩ rfl rfl (Nat.le_of_ble_eq_true rfl) dX6_digestOfOrders_89 ?_
  refine x_i2l 92 C dX6_digestOfOrders_92 ?_
  refine x_ladd 93 C dX6_digestOfOrders_93 ?_
  exact x_lret 94 C dX6_digestOfOrders_94 (Prod.mk.inj (Option.some.inj h)).1 (Prod.mk.inj (Option.some.inj h)).2
/-! GraveOrder.digest ()J -/
def B_X6_digest_6 (S0 : XSt)  (kx : Int64 → Option (Int64 × XSt)) (rc : (Int64 × Int32) → Option (Int64 × XSt)) (y1 : Int64) (y3 : Int32) : Option (Int64 × XSt) :=
  (if 8 ≤ y3 then kx y1 else ((F_X6_count S0 y3).bind fun z1 => (xlet (((31 : Int64) * y1) + ((z1).toInt64)) fun v1_2 => (xlet (y3 + 1) fun v3_3 => rc (v1_2, v3_3)))))
def B_X6_digest_55  (kx : (Int64 × XSt) → Option (Int64 × XSt)) (rc : (Int64 × Int32 × XSt) → Option (Int64 × XSt)) (y1 : Int64) (y3 : Int32) (S1 : XSt) : Option (Int64 × XSt) :=
  (if 10 ≤ y3 then kx (y1, S1) else ((F_X6_mended S1 y3).bind fun z10 => (xlet (((31 : Int64) * y1) + ((z10.1).toInt64)) fun v1_11 => (xlet (y3 + 1) fun v3_12 => rc (v1_11, v3_12, z10.2)))))
def F_X6_digest (S0 : XSt)  : (Option (Int64 × XSt)) :=
  (xlp (fun k rc t => B_X6_digest_6 S0   k rc t.1 t.2) (fun e4 => ((F_X6_fault S0).bind fun z5 => (xlet (((31 : Int64) * e4) + ((z5).toInt64)) fun v1_6 => ((F_X6_digestOfGraves S0 v1_6).bind fun z7 => ((F_X6_digestOfOrders z7.2 z7.1).bind fun z8 => (xlet z8.1 fun v1_9 => (xlp (fun k rc t => B_X6_digest_55   k rc t.1 t.2.1 t.2.2) (fun e13 => (some (e13.1, e13.2))) XFU (v1_9, 0, z8.2)))))))) XFU (17, 0))
abbrev rm_X6_digest : Room := { frames := 15, cells := 0, slots := 0, locals := 392 }
set_option maxRecDepth 100000 in
set_option maxHeartbeats 4000000 in
theorem w_X6_digest_6 (l : Launch) (D : va_G) (a : Nat → Nat) (b : Nat → ClassId) (S0 : XSt) {Γ : XG XSt} {r9 : Int64} {S9 : XSt} (C : Cx (ωC D a b) Γ cX6_digest "GraveOrder" (some .long) l rm_X6_digest 4 (some (.long r9), S9))   (kx : Int64 → Option (Int64 × XSt)) (rc : (Int64 × Int32) → Option (Int64 × XSt)) (hk : ∀ e, kx e = some (r9, S9) → XAt (ωC D a b) Γ 31 [(0, .ref (a 0)), (1, .long e)] [] S0) (ih : ∀ t, rc t = some (r9, S9) → XAt (ωC D a b) Γ 6 [(0, .ref (a 0)), (1, .long t.1), (3, .int t.2)] [] S0) (y1 : Int64) (y3 : Int32) (h : B_X6_digest_6 S0   kx rc y1 y3 = some (r9, S9)) : XAt (ωC D a b) Γ 6 [(0, .ref (a 0)), (1, .long y1), (3, .int y3)] [] S0 := by
  unfold B_X6_digest_6 at h
  refine x_iload_n 6 C dX6_digest_6 rfl 2 rfl ?_
  refine x_bipush 7 C dX6_digest_7 cb_8 ?_
  refine x_icmp_ge 9 C 31 dX6_digest_9 rfl h (fun h => ?_) (fun h => ?_)
  · exact x_sub 31 [0, 1] rfl (hk _ h)
  · refine x_ldc2 12 C kw_758 dX6_digest_12 ?_
    refine x_lload_n 15 C dX6_digest_15 rfl 1 rfl ?_
    refine x_lmul 16 C dX6_digest_16 ?_
    refine x_aload_n 17 C dX6_digest_17 rfl 0 rfl ?_
    refine x_iload_n 18 C dX6_digest_18 rfl 2 rfl ?_
    obtain ⟨z1, hz1, h⟩ := xbind_some h
    refine x_callV 19 C (q0 := 0) (ci := 6) 1 (As := [.int y3]) (rest := [.long ((31 : Int64) * y1)]) (M_X6_count l D a b S0 y3  hz1) (by rfl) rfl kw_759 mv_X6_count mh_X6_count ⟨rfl, rfl⟩ ⟨Nat.le_of_ble_eq_true rfl, Nat.le_of_ble_eq_true rfl⟩ rfl rfl (Nat.le_of_ble_eq_true rfl) dX6_digest_19 ?_
    refine x_i2l 22 C dX6_digest_22 ?_
    refine x_ladd 23 C dX6_digest_23 ?_
    refine x_topl h (fun v1_2 h => ?_)
    refine x_lstore_n 24 C (lv' := [(0, .ref (a 0)), (1, .long v1_2), (3, .int y3)]) dX6_digest_24 rfl (Nat.le_of_ble_eq_true rfl) [1, 0, 2] rfl ?_
    refine x_iinc 25 C (L := fun v3_3 => [(0, .ref (a 0)), (1, .long v1_2), (3, .int v3_3)]) dX6_digest_25 2 rfl ci_1 (Nat.le_of_ble_eq_true rfl) [1, 2, 0] (fun _ => rfl) h (fun v3_3 h => ?_)
    refine x_goto 28 C 6 dX6_digest_28 rfl ?_
    exact ih _ h
set_option maxRecDepth 100000 in
set_option maxHeartbeats 4000000 in
theorem w_X6_digest_55 (l : Launch) (D : va_G) (a : Nat → Nat) (b : Nat → ClassId) (S0 : XSt) {Γ : XG XSt} {r9 : Int64} {S9 : XSt} (C : Cx (ωC D a b) Γ cX6_digest "GraveOrder" (some .long) l rm_X6_digest 4 (some (.long r9), S9))   (kx : (Int64 × XSt) → Option (Int64 × XSt)) (rc : (Int64 × Int32 × XSt) → Option (Int64 × XSt)) (hk : ∀ e, kx e = some (r9, S9) → XAt (ωC D a b) Γ 80 [(1, .long e.1)] [] e.2) (ih : ∀ t, rc t = some (r9, S9) → XAt (ωC D a b) Γ 55 [(0, .ref (a 0)), (1, .long t.1), (3, .int t.2.1)] [] t.2.2) (y1 : Int64) (y3 : Int32) (S1 : XSt) (h : B_X6_digest_55   kx rc y1 y3 S1 = some (r9, S9)) : XAt (ωC D a b) Γ 55 [(0, .ref (a 0)), (1, .long y1), (3, .int y3)] [] S1 := by
  unfold B_X6_digest_55 at h
  refine x_iload_n 55 C dX6_digest_55 rfl 2 rfl ?_
  refine x_bipush 56 C dX6_digest_56 cb_10 ?_
  refine x_icmp_ge 58 C 80 dX6_digest_58 rfl h (fun h => ?_) (fun h => ?_)
  · exact x_sub 80 [1] rfl (hk _ h)
  · refine x_ldc2 61 C kw_758 dX6_digest_61 ?_
    refine x_lload_n 64 C dX6_digest_64 rfl 1 rfl ?_
    refine x_lmul 65 C dX6_digest_65 ?_
    refine x_aload_n 66 C dX6_digest_66 rfl 0 rfl ?_
    refine x_iload_n 67 C dX6_digest_67 rfl 2 rfl ?_
    obtain ⟨z10, hz10, h⟩ := xbind_some h
    refine x_callV 68 C (q0 := 0) (ci := 6) 1 (As := [.int y3]) (rest := [.long ((31 : Int64) * y1)]) (M_X6_mended l D a b S1 y3  hz10) (by rfl) rfl kw_779 mv_X6_mended mh_X6_mended ⟨rfl, rfl⟩ ⟨Nat.le_of_ble_eq_true rfl, Nat.le_of_ble_eq_true rfl⟩ rfl rfl (Nat.le_of_ble_eq_true rfl) dX6_digest_68 ?_
    refine x_i2l 71 C dX6_digest_71 ?_
    refine x_ladd 72 C dX6_digest_72 ?_
    refine x_topl h (fun v1_11 h => ?_)
    refine x_lstore_n 73 C (lv' := [(0, .ref (a 0)), (1, .long v1_11), (3, .int y3)]) dX6_digest_73 rfl (Nat.le_of_ble_eq_true rfl) [1, 0, 2] rfl ?_
    refine x_iinc 74 C (L := fun v3_12 => [(0, .ref (a 0)), (1, .long v1_11), (3, .int v3_12)]) dX6_digest_74 2 rfl ci_1 (Nat.le_of_ble_eq_true rfl) [1, 2, 0] (fun _ => rfl) h (fun v3_12 h => ?_)
    refine x_goto 77 C 55 dX6_digest_77 rfl ?_
    exact ih _ h
set_option maxRecDepth 100000 in
set_option maxHeartbeats 4000000 in
theorem M_X6_digest (l : Launch) (D : va_G) (a : Nat → Nat) (b : Nat → ClassId) (S0 : XSt)   {r9 : Int64} {S9 : XSt} (h : F_X6_digest S0 = some (r9, S9)) : xM l (ωC D a b) yX6_digest cX6_digest 4 (some .long) rm_X6_digest [.ref (a 0)] S0 (some (.long r9), S9) := by
  unfold F_X6_digest at h
  refine xM_of (own := "GraveOrder") (by decide) rfl (Nat.le_of_ble_eq_true rfl) (fun Γ C => ?_)
  refine x_sub 0 [0] (lv' := [(0, .ref (a 0))]) rfl ?_
  refine x_ldc2 0 C kw_757 dX6_digest_0 ?_
  refine x_lstore_n 3 C (lv' := [(0, .ref (a 0)), (1, .long 17)]) dX6_digest_3 rfl (Nat.le_of_ble_eq_true rfl) [1, 0] rfl ?_
  refine x_iconst 4 C dX6_digest_4 ci_0 ?_
  refine x_istore_n 5 C (lv' := [(0, .ref (a 0)), (1, .long 17), (3, .int 0)]) dX6_digest_5 rfl (Nat.le_of_ble_eq_true rfl) [1, 2, 0] rfl ?_
  refine x_loop (E := fun e => XAt (ωC D a b) Γ 31 [(0, .ref (a 0)), (1, .long e)] [] S0) (P := fun t => XAt (ωC D a b) Γ 6 [(0, .ref (a 0)), (1, .long t.1), (3, .int t.2)] [] S0) h (fun e4 h => ?_) (fun kx rc t hk ih h => w_X6_digest_6 l D a b S0 C    kx rc hk ih t.1 t.2 h)
  refine x_ldc2 31 C kw_758 dX6_digest_31 ?_
  refine x_lload_n 34 C dX6_digest_34 rfl 1 rfl ?_
  refine x_lmul 35 C dX6_digest_35 ?_
  refine x_aload_n 36 C dX6_digest_36 rfl 0 rfl ?_
  obtain ⟨z5, hz5, h⟩ := xbind_some h
  refine x_callV 37 C (q0 := 0) (ci := 6) 0 (As := []) (rest := [.long ((31 : Int64) * e4)]) (M_X6_fault l D a b S0   hz5) (by rfl) rfl kw_760 mv_X6_fault mh_X6_fault ⟨rfl, rfl⟩ ⟨Nat.le_of_ble_eq_true rfl, Nat.le_of_ble_eq_true rfl⟩ rfl rfl (Nat.le_of_ble_eq_true rfl) dX6_digest_37 ?_
  refine x_i2l 40 C dX6_digest_40 ?_
  refine x_ladd 41 C dX6_digest_41 ?_
  refine x_topl h (fun v1_6 h => ?_)
  refine x_lstore_n 42 C (lv' := [(0, .ref (a 0)), (1, .long v1_6)]) dX6_digest_42 rfl (Nat.le_of_ble_eq_true rfl) [1, 0] rfl ?_
  refine x_aload_n 43 C dX6_digest_43 rfl 0 rfl ?_
  refine x_aload_n 44 C dX6_digest_44 rfl 0 rfl ?_
  refine x_lload_n 45 C dX6_digest_45 rfl 1 rfl ?_
  obtain ⟨z7, hz7, h⟩ := xbind_some h
  refine x_callV 46 C (q0 := 0) (ci := 6) 1 (As := [.long v1_6]) (rest := [.ref (a 0)]) (M_X6_digestOfGraves l D a b S0 v1_6  hz7) (by rfl) rfl kw_761 mv_X6_digestOfGraves mh_X6_digestOfGraves ⟨rfl, rfl⟩ ⟨Nat.le_of_ble_eq_true rfl, Nat.le_of_ble_eq_true rfl⟩ rfl rfl (Nat.le_of_ble_eq_true rfl) dX6_digest_46 ?_
  obtain ⟨z8, hz8, h⟩ := xbind_some h
  refine x_callV 49 C (q0 := 0) (ci := 6) 1 (As := [.long z7.1]) (rest := []) (M_X6_digestOfOrders l D a b z7.2 z7.1  hz8) (by rfl) rfl kw_770 mv_X6_digestOfOrders mh_X6_digestOfOrders ⟨rfl, rfl⟩ ⟨Nat.le_of_ble_eq_true rfl, Nat.le_of_ble_eq_true rfl⟩ rfl rfl (Nat.le_of_ble_eq_true rfl) dX6_digest_49 ?_
  refine x_topl h (fun v1_9 h => ?_)
  refine x_lstore_n 52 C (lv' := [(0, .ref (a 0)), (1, .long v1_9)]) dX6_digest_52 rfl (Nat.le_of_ble_eq_true rfl) [1, 0] rfl ?_
  refine x_iconst 53 C dX6_digest_53 ci_0 ?_
  refine x_istore_n 54 C (lv' := [(0, .ref (a 0)), (1, .long v1_9), (3, .int 0)]) dX6_digest_54 rfl (Nat.le_of_ble_eq_true rfl) [1, 2, 0] rfl ?_
  refine x_loop (E := fun e => XAt (ωC D a b) Γ 80 [(1, .long e.1)] [] e.2) (P := fun t => XAt (ωC D a b) Γ 55 [(0, .ref (a 0)), (1, .long t.1), (3, .int t.2.1)] [] t.2.2) h (fun e13 h => ?_) (fun kx rc t hk ih h => w_X6_digest_55 l D a b S0 C    kx rc hk ih t.1 t.2.1 t.2.2 h)
  refine x_lload_n 80 C dX6_digest_80 rfl 0 rfl ?_
  exact x_lret 81 C dX6_digest_81 (Prod.mk.inj (Option.some.inj h)).1 (Prod.mk.inj (Option.some.inj h)).2
