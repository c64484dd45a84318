/-! GraveOrderModel.in (III)Z -/
def F_X7_in (x0 : Int32) (x1 : Int32) (x2 : Int32) : Int32 :=
  (if x0 < x1 then 0 else (if x2 < x0 then 0 else 1))
theorem Z_X7_in (x0 : Int32) (x1 : Int32) (x2 : Int32) : xbool (F_X7_in x0 x1 x2) = true := by
  unfold F_X7_in
  repeat' split
  all_goals first | rfl | exact Z_X6_within _ _ _ | exact Z_X7_in _ _ _ | apply Z_X7_is
abbrev rm_X7_in : Room := { frames := 0, cells := 0, slots := 0, locals := 0 }
set_option maxRecDepth 100000 in
set_option maxHeartbeats 4000000 in
theorem M_X7_in {σ : Type} (l : Launch) (ω : XW σ) (S0 : σ) (x0 : Int32) (x1 : Int32) (x2 : Int32)  : xM l ω yX7_in cX7_in 3 (some .boolean) rm_X7_in [.int x0, .int x1, .int x2] S0 (some (.int (F_X7_in x0 x1 x2)), S0) := by
  obtain ⟨r9, h⟩ : ∃ r9, F_X7_in x0 x1 x2 = r9 := ⟨_, rfl⟩
  rw [h]
  unfold F_X7_in at h
  refine xM_of (own := "GraveOrderModel") (by decide) rfl (Nat.le_of_ble_eq_true rfl) (fun Γ C => ?_)
  refine x_sub 0 [0, 1, 2] (lv' := [(0, .int x0), (1, .int x1), (2, .int x2)]) rfl ?_
  refine x_iload_n 0 C dX7_in_0 rfl 0 rfl ?_
  refine x_iload_n 1 C dX7_in_1 rfl 1 rfl ?_
  refine x_icmp_lt 2 C 14 dX7_in_2 rfl h (fun h => ?_) (fun h => ?_)
  · refine x_iconst 14 C dX7_in_14 ci_0 ?_
    exact x_zret 15 C dX7_in_15 rfl h rfl
  · refine x_iload_n 5 C dX7_in_5 rfl 0 rfl ?_
    refine x_iload_n 6 C dX7_in_6 rfl 2 rfl ?_
    refine x_icmp_gt 7 C 14 dX7_in_7 rfl h (fun h => ?_) (fun h => ?_)
    · refine x_iconst 14 C dX7_in_14 ci_0 ?_
      exact x_zret 15 C dX7_in_15 rfl h rfl
    · refine x_iconst 10 C dX7_in_10 ci_1 ?_
      refine x_goto 11 C 15 dX7_in_11 rfl ?_
      exact x_zret 15 C dX7_in_15 rfl h rfl
/-! GraveOrderModel.is (II)Z -/
def F_X7_is (x0 : Int32) (x1 : Int32) : Int32 :=
  (if ((x0 >>> (x1 &&& 31)) &&& (1 : Int32)) = 1 then 1 else 0)
theorem Z_X7_is (x0 : Int32) (x1 : Int32) : xbool (F_X7_is x0 x1) = true := by
  unfold F_X7_is
  repeat' split
  all_goals first | rfl | exact Z_X6_within _ _ _ | exact Z_X7_in _ _ _ | apply Z_X7_is
abbrev rm_X7_is : Room := { frames := 0, cells := 0, slots := 0, locals := 0 }
set_option maxRecDepth 100000 in
set_option maxHeartbeats 4000000 in
theorem M_X7_is {σ : Type} (l : Launch) (ω : XW σ) (S0 : σ) (x0 : Int32) (x1 : Int32)  : xM l ω yX7_is cX7_is 2 (some .boolean) rm_X7_is [.int x0, .int x1] S0 (some (.int (F_X7_is x0 x1)), S0) := by
  obtain ⟨r9, h⟩ : ∃ r9, F_X7_is x0 x1 = r9 := ⟨_, rfl⟩
  rw [h]
  unfold F_X7_is at h
  refine xM_of (own := "GraveOrderModel") (by decide) rfl (Nat.le_of_ble_eq_true rfl) (fun Γ C => ?_)
  refine x_sub 0 [0, 1] (lv' := [(0, .int x0), (1, .int x1)]) rfl ?_
  refine x_iload_n 0 C dX7_is_0 rfl 0 rfl ?_
  refine x_iload_n 1 C dX7_is_1 rfl 1 rfl ?_
  refine x_ishr 2 C dX7_is_2 ?_
  refine x_iconst 3 C dX7_is_3 ci_1 ?_
  refine x_iand 4 C dX7_is_4 ?_
  refine x_iconst 5 C dX7_is_5 ci_1 ?_
  refine x_icmp_ne 6 C 13 dX7_is_6 rfl h (fun h => ?_) (fun h => ?_)
  · refine x_iconst 13 C dX7_is_13 ci_0 ?_
    exact x_zret 14 C dX7_is_14 rfl h rfl
  · refine x_iconst 9 C dX7_is_9 ci_1 ?_
    refine x_goto 10 C 14 dX7_is_10 rfl ?_
    exact x_zret 14 C dX7_is_14 rfl h rfl
/-! GraveOrderModel.ones (I)I -/
def B_X7_ones_4 (S0 : XSr) (c0 : Int32) (kx : Int32 → Option Int32) (rc : (Int32 × Int32) → Option Int32) (y1 : Int32) (y2 : Int32) : Option Int32 :=
  (if 12 ≤ y2 then kx y1 else (xlet (y1 + ((c0 >>> (y2 &&& 31)) &&& (1 : Int32))) fun v1_1 => (xlet (y2 + 1) fun v2_2 => rc (v1_1, v2_2))))
def F_X7_ones (S0 : XSr) (x0 : Int32) : (Option Int32) :=
  (xlp (fun k rc t => B_X7_ones_4 S0  x0 k rc t.1 t.2) (fun e3 => (some e3)) XFU (0, 0))
abbrev rm_X7_ones : Room := { frames := 0, cells := 0, slots := 0, locals := 0 }
set_option maxRecDepth 100000 in
set_option maxHeartbeats 4000000 in
theorem w_X7_ones_4 (l : Launch) (D : va_G) (a : Nat → Nat) (b : Nat → ClassId) (S0 : XSr) {Γ : XG XSr} {r9 : Int32} (C : Cx (ωR D a b) Γ cX7_ones "GraveOrderModel" (some .int) l rm_X7_ones 3 (some (.int r9), S0)) (c0 : Int32)  (kx : Int32 → Option Int32) (rc : (Int32 × Int32) → Option Int32) (hk : ∀ e, kx e = some r9 → XAt (ωR D a b) Γ 24 [(1, .int e)] [] S0) (ih : ∀ t, rc t = some r9 → XAt (ωR D a b) Γ 4 [(0, .int c0), (1, .int t.1), (2, .int t.2)] [] S0) (y1 : Int32) (y2 : Int32) (h : B_X7_ones_4 S0  c0 kx rc y1 y2 = some r9) : XAt (ωR D a b) Γ 4 [(0, .int c0), (1, .int y1), (2, .int y2)] [] S0 := by
  unfold B_X7_ones_4 at h
  refine x_iload_n 4 C dX7_ones_4 rfl 2 rfl ?_
  refine x_bipush 5 C dX7_ones_5 cb_12 ?_
  refine x_icmp_ge 7 C 24 dX7_ones_7 rfl h (fun h => ?_) (fun h => ?_)
  · exact x_sub 24 [1] rfl (hk _ h)
  · refine x_iload_n 10 C dX7_ones_10 rfl 1 rfl ?_
    refine x_iload_n 11 C dX7_ones_11 rfl 0 rfl ?_
    refine x_iload_n 12 C dX7_ones_12 rfl 2 rfl ?_
    refine x_ishr 13 C dX7_ones_13 ?_
    refine x_iconst 14 C dX7_ones_14 ci_1 ?_
    refine x_iand 15 C dX7_ones_15 ?_
    refine x_iadd 16 C dX7_ones_16 ?_
    refine x_top h (fun v1_1 h => ?_)
    refine x_istore_n 17 C (lv' := [(0, .int c0), (1, .int v1_1), (2, .int y2)]) dX7_ones_17 rfl (Nat.le_of_ble_eq_true rfl) [1, 0, 2] rfl ?_
    refine x_iinc 18 C (L := fun v2_2 => [(0, .int c0), (1, .int v1_1), (2, .int v2_2)]) dX7_ones_18 2 rfl ci_1 (Nat.le_of_ble_eq_true rfl) [1, 2, 0] (fun _ => rfl) h (fun v2_2 h => ?_)
    refine x_goto 21 C 4 dX7_ones_21 rfl ?_
    exact ih _ h
set_option maxRecDepth 100000 in
set_option maxHeartbeats 4000000 in
theorem M_X7_ones (l : Launch) (D : va_G) (a : Nat → Nat) (b : Nat → ClassId) (S0 : XSr) (x0 : Int32)  {r9 : Int32} (h : F_X7_ones S0 x0 = some r9) : xM l (ωR D a b) yX7_ones cX7_ones 3 (some .int) rm_X7_ones [.int x0] S0 (some (.int r9), S0) := by
  unfold F_X7_ones at h
  refine xM_of (own := "GraveOrderModel") (by decide) rfl (Nat.le_of_ble_eq_true rfl) (fun Γ C => ?_)
  refine x_sub 0 [0] (lv' := [(0, .int x0)]) rfl ?_
  refine x_iconst 0 C dX7_ones_0 ci_0 ?_
  refine x_istore_n 1 C (lv' := [(0, .int x0), (1, .int 0)]) dX7_ones_1 rfl (Nat.le_of_ble_eq_true rfl) [1, 0] rfl ?_
  refine x_iconst 2 C dX7_ones_2 ci_0 ?_
  refine x_istore_n 3 C (lv' := [(0, .int x0), (1, .int 0), (2, .int 0)]) dX7_ones_3 rfl (Nat.le_of_ble_eq_true rfl) [1, 2, 0] rfl ?_
  refine x_loop (E := fun e => XAt (ωR D a b) Γ 24 [(1, .int e)] [] S0) (P := fun t => XAt (ωR D a b) Γ 4 [(0, .int x0), (1, .int t.1), (2, .int t.2)] [] S0) h (fun e3 h => ?_) (fun kx rc t hk ih h => w_X7_ones_4 l D a b S0 C   x0 kx rc hk ih t.1 t.2 h)
  refine x_iload_n 24 C dX7_ones_24 rfl 0 rfl ?_
  exact x_iret 25 C dX7_ones_25 (Option.some.inj h) rfl
/-! GraveOrderModel.no (I)J -/
def F_X7_no (x0 : Int32) : Int64 :=
  ((-9223372036854775808 : Int64) - ((x0).toInt64))
abbrev rm_X7_no : Room := { frames := 0, cells := 0, slots := 0, locals := 0 }
set_option maxRecDepth 100000 in
set_option maxHeartbeats 4000000 in
theorem M_X7_no {σ : Type} (l : Launch) (ω : XW σ) (S0 : σ) (x0 : Int32)  : xM l ω yX7_no cX7_no 1 (some .long) rm_X7_no [.int x0] S0 (some (.long (F_X7_no x0)), S0) := by
  obtain ⟨r9, h⟩ : ∃ r9, F_X7_no x0 = r9 := ⟨_, rfl⟩
  rw [h]
  unfold F_X7_no at h
  refine xM_of (own := "GraveOrderModel") (by decide) rfl (Nat.le_of_ble_eq_true rfl) (fun Γ C => ?_)
  refine x_sub 0 [0] (lv' := [(0, .int x0)]) rfl ?_
  refine x_ldc2 0 C kw_1085 dX7_no_0 ?_
  refine x_iload_n 3 C dX7_no_3 rfl 0 rfl ?_
  refine x_i2l 4 C dX7_no_4 ?_
  refine x_lsub 5 C dX7_no_5 ?_
  exact x_lret 6 C dX7_no_6 h rfl
/-! GraveOrderModel.lowest (JJI)J -/
def B_X7_lowest_6 (S0 : XSr) (c0 : Int64) (c2 : Int64) (c4 : Int32) (kx : Int64 → Option Int64) (rc : (Int64 × Int64) → Option Int64) (y5 : Int64) (y7 : Int64) : Option Int64 :=
  (if (lg_cmp y7 (0 : Int64)) = 0 then kx y5 else (if ¬ y7 = 0 then (xlet (y5 - y5 / y7 * y7) fun v9_2 => rc (y7, v9_2)) else none))
def F_X7_lowest (S0 : XSr) (x0 : Int64) (x2 : Int64) (x4 : Int32) : (Option Int64) :=
  (xlp (fun k rc t => B_X7_lowest_6 S0  x0 x2 x4 k rc t.1 t.2) (fun e3 => (if x4 = 0 then (if ¬ e3 = 0 then (some (x0 / e3)) else none) else (if ¬ e3 = 0 then (some (x2 / e3)) else none))) XFU (x0, x2))
abbrev rm_X7_lowest : Room := { frames := 0, cells := 0, slots := 0, locals := 0 }
set_option maxRecDepth 100000 in
set_option maxHeartbeats 4000000 in
theorem w_X7_lowest_6 (l : Launch) (D : va_G) (a : Nat → Nat) (b : Nat → ClassId) (S0 : XSr) {Γ : XG XSr} {r9 : Int64} (C : Cx (ωR D a b) Γ cX7_lowest "GraveOrderModel" (some .long) l rm_X7_lowest 11 (some (.long r9), S0)) (c0 : Int64) (c2 : Int64) (c4 : Int32)  (kx : Int64 → Option Int64) (rc : (Int64 × Int64) → Option Int64) (hk : ∀ e, kx e = some r9 → XAt (ωR D a b) Γ 31 [(0, .long c0), (2, .long c2), (4, .int c4), (5, .long e)] [] S0) (ih : ∀ t, rc t = some r9 → XAt (ωR D a b) Γ 6 [(0, .long c0), (2, .long c2), (4, .int c4), (5, .long t.1), (7, .long t.2)] [] S0) (y5 : Int64) (y7 : Int64) (h : B_X7_lowest_6 S0  c0 c2 c4 kx rc y5 y7 = some r9) : XAt (ωR D a b) Γ 6 [(0, .long c0), (2, .long c2), (4, .int c4), (5, .long y5), (7, .long y7)] [] S0 := by
  unfold B_X7_lowest_6 at h
  refine x_lload 6 C dX7_lowest_6 4 rfl ?_
  refine x_lconst 8 C dX7_lowest_8 cl_0 ?_
  refine x_lcmp 9 C dX7_lowest_9 ?_
  refine x_if_eq 10 C 31 dX7_lowest_10 rfl h (fun h => ?_) (fun h => ?_)
  · exact x_sub 31 [0, 1, 2, 3] rfl (hk _ h)
  · refine x_lload 13 C dX7_lowest_13 3 rfl ?_
    refine x_lload 15 C dX7_lowest_15 4 rfl ?_
    obtain ⟨hg1, h⟩ := xif_some h
    refine x_lrem 17 C hg1 dX7_lowest_17 ?_
    refine x_topl h (fun v9_2 h => ?_)
    refine x_lstore 18 C (lv' := [(0, .long c0), (2, .long c2), (4, .int c4), (7, .long y7), (9, .long v9_2)]) dX7_lowest_18 (Nat.le_of_ble_eq_true rfl) [1, 2, 3, 5, 0] rfl ?_
    refine x_lload 20 C dX7_lowest_20 3 rfl ?_
    refine x_lstore 22 C (lv' := [(0, .long c0), (2, .long c2), (4, .int c4), (5, .long y7), (9, .long v9_2)]) dX7_lowest_22 (Nat.le_of_ble_eq_true rfl) [1, 2, 3, 0, 5] rfl ?_
    refine x_lload 24 C dX7_lowest_24 4 rfl ?_
    refine x_lstore 26 C (lv' := [(0, .long c0), (2, .long c2), (4, .int c4), (5, .long y7), (7, .long v9_2)]) dX7_lowest_26 (Nat.le_of_ble_eq_true rfl) [1, 2, 3, 4, 0] rfl ?_
    refine x_goto 28 C 6 dX7_lowest_28 rfl ?_
    exact ih _ h
set_option maxRecDepth 100000 in
set_option maxHeartbeats 4000000 in
theorem M_X7_lowest (l : Launch) (D : va_G) (a : Nat → Nat) (b : Nat → ClassId) (S0 : XSr) (x0 : Int64) (x2 : Int64) (x4 : Int32)  {r9 : Int64} (h : F_X7_lowest S0 x0 x2 x4 = some r9) : xM l (ωR D a b) yX7_lowest cX7_lowest 11 (some .long) rm_X7_lowest [.long x0, .long x2, .int x4] S0 (some (.long r9), S0) := by
  unfold F_X7_lowest at h
  refine xM_of (own := "GraveOrderModel") (by decide) rfl (Nat.le_of_ble_eq_true rfl) (fun Γ C => ?_)
  refine x_sub 0 [0, 1, 2] (lv' := [(0, .long x0), (2, .long x2), (4, .int x4)]) rfl ?_
  refine x_lload_n 0 C dX7_lowest_0 rfl 0 rfl ?_
  refine x_lstore 1 C (lv' := [(0, .long x0), (2, .long x2), (4, .int x4), (5, .long x0)]) dX7_lowest_1 (Nat.le_of_ble_eq_true rfl) [1, 2, 3, 0] rfl ?_
  refine x_lload_n 3 C dX7_lowest_3 rfl 1 rfl ?_
  refine x_lstore 4 C (lv' := [(0, .long x0), (2, .long x2), (4, .int x4), (5, .long x0), (7, .long x2)]) dX7_lowest_4 (Nat.le_of_ble_eq_true rfl) [1, 2, 3, 4, 0] rfl ?_
  refine x_loop (E := fun e => XAt (ωR D a b) Γ 31 [(0, .long x0), (2, .long x2), (4, .int x4), (5, .long e)] [] S0) (P := fun t => XAt (ωR D a b) Γ 6 [(0, .long x0), (2, .long x2), (4, .int x4), (5, .long t.1), (7, .long t.2)] [] S0) h (fun e3 h => ?_) (fun kx rc t hk ih h => w_X7_lowest_6 l D a b S0 C   x0 x2 x4 kx rc hk ih t.1 t.2 h)
  refine x_iload 31 C dX7_lowest_31 2 rfl ?_
  refine x_if_ne 33 C 43 dX7_lowest_33 rfl h (fun h => ?_) (fun h => ?_)
  · refine x_lload_n 43 C dX7_lowest_43 rfl 1 rfl ?_
    refine x_lload 44 C dX7_lowest_44 3 rfl ?_
    obtain ⟨hg4, h⟩ := xif_some h
    refine x_ldiv 46 C hg4 dX7_lowest_46 ?_
    exact x_lret 47 C dX7_lowest_47 (Option.some.inj h) rfl
  · refine x_lload_n 36 C dX7_lowest_36 rfl 0 rfl ?_
    refine x_lload 37 C dX7_lowest_37 3 rfl ?_
    obtain ⟨hg5, h⟩ := xif_some h
    refine x_ldiv 39 C hg5 dX7_lowest_39 ?_
    refine x_goto 40 C 47 dX7_lowest_40 rfl ?_
    exact x_lret 47 C dX7_lowest_47 (Option.some.inj h) rfl
/-! GraveOrderModel.isGrave (I)Z -/
def F_X7_isGrave (S0 : XSr) (x1 : Int32) : Int32 :=
  (F_X7_in x1 0 ((S0.1 0 0) - (1 : Int32)))
theorem Z_X7_isGrave (S0 : XSr) (x1 : Int32) : xbool (F_X7_isGrave S0 x1) = true := by
  unfold F_X7_isGrave
  repeat' split
  all_goals first | rfl | exact Z_X6_within _ _ _ | exact Z_X7_in _ _ _ | apply Z_X7_is
abbrev rm_X7_isGrave : Room := { frames := 1, cells := 0, slots := 0, locals := 22 }
set_option maxRecDepth 100000 in
set_option maxHeartbeats 4000000 in
theorem M_X7_isGrave (l : Launch) (D : va_G) (a : Nat → Nat) (b : Nat → ClassId) (S0 : XSr) (x1 : Int32)  : xM l (ωR D a b) yX7_isGrave cX7_isGrave 2 (some .boolean) rm_X7_isGrave [.ref (a 0), .int x1] S0 (some (.int (F_X7_isGrave S0 x1)), S0) := by
  obtain ⟨r9, h⟩ : ∃ r9, F_X7_isGrave S0 x1 = r9 := ⟨_, rfl⟩
  rw [h]
  unfold F_X7_isGrave at h
  refine xM_of (own := "GraveOrderModel") (by decide) rfl (Nat.le_of_ble_eq_true rfl) (fun Γ C => ?_)
  refine x_sub 0 [0, 1] (lv' := [(0, .ref (a 0)), (1, .int x1)]) rfl ?_
  refine x_iload_n 0 C dX7_isGrave_0 rfl 1 rfl ?_
  refine x_iconst 1 C dX7_isGrave_1 ci_0 ?_
  refine x_aload_n 2 C dX7_isGrave_2 rfl 0 rfl ?_
  refine gX7_graves 3 C kw_786 dX7_isGrave_3 ?_
  refine x_iconst 6 C dX7_isGrave_6 ci_1 ?_
  refine x_isub 7 C dX7_isGrave_7 ?_
  refine x_callS 8 C 3 (As := [.int x1, .int 0, .int ((S0.1 0 0) - (1 : Int32))]) (rest := []) (M_X7_in l (ωR D a b) S0 x1 0 ((S0.1 0 0) - (1 : Int32))) kw_911 ms_X7_in mh_X7_in ⟨rfl, rfl⟩ ⟨Nat.le_of_ble_eq_true rfl, Nat.le_of_ble_eq_true rfl⟩ rfl rfl (Nat.le_of_ble_eq_true rfl) dX7_isGrave_8 ?_
  exact x_zret 11 C dX7_isGrave_11 (Z_X7_in x1 0 ((S0.1 0 0) - (1 : Int32))) h rfl
/-! GraveOrderModel.isKind (I)Z -/
def F_X7_isKind (x0 : Int32) : Int32 :=
  (F_X7_in x0 0 9)
theorem Z_X7_isKind (x0 : Int32) : xbool (F_X7_isKind x0) = true := by
  unfold F_X7_isKind
  repeat' split
  all_goals first | rfl | exact Z_X6_within _ _ _ | exact Z_X7_in _ _ _ | apply Z_X7_is
abbrev rm_X7_isKind : Room := { frames := 1, cells := 0, slots := 0, locals := 22 }
set_option maxRecDepth 100000 in
set_option maxHeartbeats 4000000 in
theorem M_X7_isKind {σ : Type} (l : Launch) (ω : XW σ) (S0 : σ) (x0 : Int32)  : xM l ω yX7_isKind cX7_isKind 1 (some .boolean) rm_X7_isKind [.int x0] S0 (some (.int (F_X7_isKind x0)), S0) := by
  obtain ⟨r9, h⟩ : ∃ r9, F_X7_isKind x0 = r9 := ⟨_, rfl⟩
  rw [h]
  unfold F_X7_isKind at h
  refine xM_of (own := "GraveOrderModel") (by decide) rfl (Nat.le_of_ble_eq_true rfl) (fun Γ C => ?_)
  refine x_sub 0 [0] (lv' := [(0, .int x0)]) rfl ?_
  refine x_iload_n 0 C dX7_isKind_0 rfl 0 rfl ?_
  refine x_iconst 1 C dX7_isKind_1 ci_0 ?_
  refine x_bipush 2 C dX7_isKind_2 cb_9 ?_
  refine x_callS 4 C 3 (As := [.int x0, .int 0, .int 9]) (rest := []) (M_X7_in l ω S0 x0 0 9) kw_911 ms_X7_in mh_X7_in ⟨rfl, rfl⟩ ⟨Nat.le_of_ble_eq_true rfl, Nat.le_of_ble_eq_true rfl⟩ rfl rfl (Nat.le_of_ble_eq_true rfl) dX7_isKind_4 ?_
  exact x_zret 7 C dX7_isKind_7 (Z_X7_in x0 0 9) h rfl
/-! GraveOrderModel.grave (II)I -/
def F_X7_grave (S0 : XSr) (x1 : Int32) (x2 : Int32) : (Option (Int32 × XSr)) :=
  (if (F_X7_in x1 0 99) = 0 then (some ((-2), S0)) else (if (F_X7_in x2 x1 99) = 0 then (some ((-2), S0)) else (if (S0.1 0 0) = 8 then (some ((-4), S0)) else (if xin (S0.1 0 0) 8 = true then (xlet (xsr S0 1 (xti (S0.1 0 0)) x1) fun S2 => (if xin (S2.1 0 0) 8 = true then (xlet (xsr S2 2 (xti (S2.1 0 0)) x2) fun S4 => (xlet (xsr S4 0 0 ((S4.1 0 0) + (1 : Int32))) fun S5 => (xlet (xsr S5 0 14 0) fun S6 => (some (((S6.1 0 0) - (1 : Int32)), S6))))) else none)) else none))))
abbrev rm_X7_grave : Room := { frames := 1, cells := 0, slots := 0, locals := 22 }
set_option maxRecDepth 100000 in
set_option maxHeartbeats 4000000 in
theorem M_X7_grave (l : Launch) (D : va_G) (a : Nat → Nat) (b : Nat → ClassId) (S0 : XSr) (x1 : Int32) (x2 : Int32)  {r9 : Int32} {S9 : XSr} (h : F_X7_grave S0 x1 x2 = some (r9, S9)) : xM l (ωR D a b) yX7_grave cX7_grave 3 (some .int) rm_X7_grave [.ref (a 0), .int x1, .int x2] S0 (some (.int r9), S9) := by
  unfold F_X7_grave at h
  refine xM_of (own := "GraveOrderModel") (by decide) rfl (Nat.le_of_ble_eq_true rfl) (fun Γ C => ?_)
  refine x_sub 0 [0, 1, 2] (lv' := [(0, .ref (a 0)), (1, .int x1), (2, .int x2)]) rfl ?_
  refine x_iload_n 0 C dX7_grave_0 rfl 1 rfl ?_
  refine x_iconst 1 C dX7_grave_1 ci_0 ?_
  refine x_bipush 2 C dX7_grave_2 cb_99 ?_
  refine x_callS 4 C 3 (As := [.int x1, .int 0, .int 99]) (rest := []) (M_X7_in l (ωR D a b) S0 x1 0 99) kw_911 ms_X7_in mh_X7_in ⟨rfl, rfl⟩ ⟨Nat.le_of_ble_eq_true rfl, Nat.le_of_ble_eq_true rfl⟩ rfl rfl (Nat.le_of_ble_eq_true rfl) dX7_grave_4 ?_
  refine x_if_eq 7 C 20 dX7_grave_7 rfl h (fun h => ?_) (fun h => ?_)
  · refine x_bipush 20 C dX7_grave_20 cb_m2 ?_
    exact x_iret 22 C dX7_grave_22 (Prod.mk.inj (Option.some.inj h)).1 (Prod.mk.inj (Option.some.inj h)).2
  · refine x_iload_n 10 C dX7_grave_10 rfl 2 rfl ?_
    refine x_iload_n 11 C dX7_grave_11 rfl 1 rfl ?_
    refine x_bipush 12 C dX7_grave_12 cb_99 ?_
    refine x_callS 14 C 3 (As := [.int x2, .int x1, .int 99]) (rest := []) (M_X7_in l (ωR D a b) S0 x2 x1 99) kw_911 ms_X7_in mh_X7_in ⟨rfl, rfl⟩ ⟨Nat.le_of_ble_eq_true rfl, Nat.le_of_ble_eq_true rfl⟩ rfl rfl (Nat.le_of_ble_eq_true rfl) dX7_grave_14 ?_
    refine x_if_ne 17 C 23 dX7_grave_17 rfl h (fun h => ?_) (fun h => ?_)
    · refine x_aload_n 23 C dX7_grave_23 rfl 0 rfl ?_
      refine gX7_graves 24 C kw_786 dX7_grave_24 ?_
      refine x_bipush 27 C dX7_grave_27 cb_8 ?_
      refine x_icmp_ne 29 C 35 dX7_grave_29 rfl h (fun h => ?_) (fun h => ?_)
      · refine x_aload_n 35 C dX7_grave_35 rfl 0 rfl ?_
        refine gX7_from 36 C kw_787 dX7_grave_36 ?_
        refine x_aload_n 39 C dX7_grave_39 rfl 0 rfl ?_
        refine gX7_graves 40 C kw_786 dX7_grave_40 ?_
        refine x_iload_n 43 C dX7_grave_43 rfl 1 rfl ?_
        obtain ⟨hg1, h⟩ := xif_some h
        refine r_iast1 44 C hg1 dX7_grave_44 ?_
        refine x_topS h (fun S2 h => ?_)
        refine x_aload_n 45 C dX7_grave_45 rfl 0 rfl ?_
        refine gX7_to 46 C kw_788 dX7_grave_46 ?_
        refine x_aload_n 49 C dX7_grave_49 rfl 0 rfl ?_
        refine gX7_graves 50 C kw_786 dX7_grave_50 ?_
        refine x_iload_n 53 C dX7_grave_53 rfl 2 rfl ?_
        obtain ⟨hg3, h⟩ := xif_some h
        refine r_iast2 54 C hg3 dX7_grave_54 ?_
        refine x_topS h (fun S4 h => ?_)
        refine x_aload_n 55 C dX7_grave_55 rfl 0 rfl ?_
        refine x_dup 56 C dX7_grave_56 rfl ?_
        refine gX7_graves 57 C kw_786 dX7_grave_57 ?_
        refine x_iconst 60 C dX7_grave_60 ci_1 ?_
        refine x_iadd 61 C dX7_grave_61 ?_
        refine pX7_graves 62 C kw_786 dX7_grave_62 ?_
        refine x_topS h (fun S5 h => ?_)
        refine x_aload_n 65 C dX7_grave_65 rfl 0 rfl ?_
        refine x_iconst 66 C dX7_grave_66 ci_0 ?_
        refine pX7_isWorked 67 C rfl kw_800 dX7_grave_67 ?_
        refine x_topS h (fun S6 h => ?_)
        refine x_aload_n 70 C dX7_grave_70 rfl 0 rfl ?_
        refine gX7_graves 71 C kw_786 dX7_grave_71 ?_
        refine x_iconst 74 C dX7_grave_74 ci_1 ?_
        refine x_isub 75 C dX7_grave_75 ?_
        exact x_iret 76 C dX7_grave_76 (Prod.mk.inj (Option.some.inj h)).1 (Prod.mk.inj (Option.some.inj h)).2
      · refine x_bipush 32 C dX7_grave_32 cb_m4 ?_
        exact x_iret 34 C dX7_grave_34 (Prod.mk.inj (Option.some.inj h)).1 (Prod.mk.inj (Option.some.inj h)).2
    · refine x_bipush 20 C dX7_grave_20 cb_m2 ?_
      exact x_iret 22 C dX7_grave_22 (Prod.mk.inj (Option.some.inj h)).1 (Prod.mk.inj (Option.some.inj h)).2
/-! GraveOrderModel.robbed (II)I -/
def F_X7_robbed (S0 : XSr) (x1 : Int32) (x2 : Int32) : (Option (Int32 × XSr)) :=
  (if (F_X7_isGrave S0 x1) = 0 then (some ((-2), S0)) else (if (F_X7_in x2 0 1) = 0 then (some ((-2), S0)) else (xlet (((S0.1 0 3) >>> (x1 &&& 31)) &&& (1 : Int32)) fun v3_1 => (if x2 = 1 then (xlet (xsr S0 0 3 ((S0.1 0 3) ||| ((1 : Int32) <<< (x1 &&& 31)))) fun S4 => (xlet (xsr S4 0 14 0) fun S5 => (some (v3_1, S5)))) else (xlet (xsr S0 0 3 ((S0.1 0 3) &&& (((1 : Int32) <<< (x1 &&& 31)) ^^^ (-1 : Int32)))) fun S2 => (xlet (xsr S2 0 14 0) fun S3 => (some (v3_1, S3))))))))
abbrev rm_X7_robbed : Room := { frames := 2, cells := 0, slots := 0, locals := 43 }
set_option maxRecDepth 100000 in
set_option maxHeartbeats 4000000 in
theorem M_X7_robbed (l : Launch) (D : va_G) (a : Nat → Nat) (b : Nat → ClassId) (S0 : XSr) (x1 : Int32) (x2 : Int32)  {r9 : Int32} {S9 : XSr} (h : F_X7_robbed S0 x1 x2 = some (r9, S9)) : xM l (ωR D a b) yX7_robbed cX7_robbed 4 (some .int) rm_X7_robbed [.ref (a 0), .int x1, .int x2] S0 (some (.int r9), S9) := by
  unfold F_X7_robbed at h
  refine xM_of (own := "GraveOrderModel") (by decide) rfl (Nat.le_of_ble_eq_true rfl) (fun Γ C => ?_)
  refine x_sub 0 [0, 1, 2] (lv' := [(0, .ref (a 0)), (1, .int x1), (2, .int x2)]) rfl ?_
  refine x_aload_n 0 C dX7_robbed_0 rfl 0 rfl ?_
  refine x_iload_n 1 C dX7_robbed_1 rfl 1 rfl ?_
  refine x_callV 2 C (q0 := 0) (ci := 7) 1 (As := [.int x1]) (rest := []) (M_X7_isGrave l D a b S0 x1 ) (by rfl) rfl kw_918 mv_X7_isGrave mh_X7_isGrave ⟨rfl, rfl⟩ ⟨Nat.le_of_ble_eq_true rfl, Nat.le_of_ble_eq_true rfl⟩ rfl rfl (Nat.le_of_ble_eq_true rfl) dX7_robbed_2 ?_
  refine x_if_eq 5 C 17 dX7_robbed_5 rfl h (fun h => ?_) (fun h => ?_)
  · refine x_bipush 17 C dX7_robbed_17 cb_m2 ?_
    exact x_iret 19 C dX7_robbed_19 (Prod.mk.inj (Option.some.inj h)).1 (Prod.mk.inj (Option.some.inj h)).2
  · refine x_iload_n 8 C dX7_robbed_8 rfl 2 rfl ?_
    refine x_iconst 9 C dX7_robbed_9 ci_0 ?_
    refine x_iconst 10 C dX7_robbed_10 ci_1 ?_
    refine x_callS 11 C 3 (As := [.int x2, .int 0, .int 1]) (rest := []) (M_X7_in l (ωR D a b) S0 x2 0 1) kw_911 ms_X7_in mh_X7_in ⟨rfl, rfl⟩ ⟨Nat.le_of_ble_eq_true rfl, Nat.le_of_ble_eq_true rfl⟩ rfl rfl (Nat.le_of_ble_eq_true rfl) dX7_robbed_11 ?_
    refine x_if_ne 14 C 20 dX7_robbed_14 rfl h (fun h => ?_) (fun h => ?_)
    · refine x_aload_n 20 C dX7_robbed_20 rfl 0 rfl ?_
      refine gX7_robbers 21 C kw_789 dX7_robbed_21 ?_
      refine x_iload_n 24 C dX7_robbed_24 rfl 1 rfl ?_
      refine x_ishr 25 C dX7_robbed_25 ?_
      refine x_iconst 26 C dX7_robbed_26 ci_1 ?_
      refine x_iand 27 C dX7_robbed_27 ?_
      refine x_top h (fun v3_1 h => ?_)
      refine x_istore_n 28 C (lv' := [(0, .ref (a 0)), (1, .int x1), (2, .int x2), (3, .int v3_1)]) dX7_robbed_28 rfl (Nat.le_of_ble_eq_true rfl) [1, 2, 3, 0] rfl ?_
      refine x_aload_n 29 C dX7_robbed_29 rfl 0 rfl ?_
      refine x_iload_n 30 C dX7_robbed_30 rfl 2 rfl ?_
      refine x_iconst 31 C dX7_robbed_31 ci_1 ?_
      refine x_icmp_ne 32 C 46 dX7_robbed_32 rfl h (fun h => ?_) (fun h => ?_)
      · refine x_aload_n 46 C dX7_robbed_46 rfl 0 rfl ?_
        refine gX7_robbers 47 C kw_789 dX7_robbed_47 ?_
        refine x_iconst 50 C dX7_robbed_50 ci_1 ?_
        refine x_iload_n 51 C dX7_robbed_51 rfl 1 rfl ?_
        refine x_ishl 52 C dX7_robbed_52 ?_
        refine x_iconst 53 C dX7_robbed_53 ci_m1 ?_
        refine x_ixor 54 C dX7_robbed_54 ?_
        refine x_iand 55 C dX7_robbed_55 ?_
        refine pX7_robbers 56 C kw_789 dX7_robbed_56 ?_
        refine x_topS h (fun S2 h => ?_)
        refine x_aload_n 59 C dX7_robbed_59 rfl 0 rfl ?_
        refine x_iconst 60 C dX7_robbed_60 ci_0 ?_
        refine pX7_isWorked 61 C rfl kw_800 dX7_robbed_61 ?_
        refine x_topS h (fun S3 h => ?_)
        refine x_iload_n 64 C dX7_robbed_64 rfl 3 rfl ?_
        exact x_iret 65 C dX7_robbed_65 (Prod.mk.inj (Option.some.inj h)).1 (Prod.mk.inj (Option.some.inj h)).2
      · refine x_aload_n 35 C dX7_robbed_35 rfl 0 rfl ?_
        refine gX7_robbers 36 C kw_789 dX7_robbed_36 ?_
        refine x_iconst 39 C dX7_robbed_39 ci_1 ?_
        refine x_iload_n 40 C dX7_robbed_40 rfl 1 rfl ?_
        refine x_ishl 41 C dX7_robbed_41 ?_
        refine x_ior 42 C dX7_robbed_42 ?_
        refine x_goto 43 C 56 dX7_robbed_43 rfl ?_
        refine pX7_robbers 56 C kw_789 dX7_robbed_56 ?_
        refine x_topS h (fun S4 h => ?_)
        refine x_aload_n 59 C dX7_robbed_59 rfl 0 rfl ?_
        refine x_iconst 60 C dX7_robbed_60 ci_0 ?_
        refine pX7_isWorked 61 C rfl kw_800 dX7_robbed_61 ?_
        refine x_topS h (fun S5 h => ?_)
        refine x_iload_n 64 C dX7_robbed_64 rfl 3 rfl ?_
        exact x_iret 65 C dX7_robbed_65 (Prod.mk.inj (Option.some.inj h)).1 (Prod.mk.inj (Option.some.inj h)).2
    · refine x_bipush 17 C dX7_robbed_17 cb_m2 ?_
      exact x_iret 19 C dX7_robbed_19 (Prod.mk.inj (Option.some.inj h)).1 (Prod.mk.inj (Option.some.inj h)).2
/-! GraveOrderModel.weight (II)I -/
def F_X7_weight (S0 : XSr) (x1 : Int32) (x2 : Int32) : (Option (Int32 × XSr)) :=
  (if (F_X7_isKind x1) = 0 then (some ((-2), S0)) else (if (F_X7_in x2 0 3) = 0 then (some ((-2), S0)) else (if xin x1 10 = true then (xlet (S0.1 3 (xti x1)) fun v3_2 => (if xin x1 10 = true then (xlet (xsr S0 3 (xti x1) x2) fun S4 => (xlet (xsr S4 0 14 0) fun S5 => (some (v3_2, S5)))) else none)) else none)))
abbrev rm_X7_weight : Room := { frames := 2, cells := 0, slots := 0, locals := 42 }
set_option maxRecDepth 100000 in
set_option maxHeartbeats 4000000 in
theorem M_X7_weight (l : Launch) (D : va_G) (a : Nat → Nat) (b : Nat → ClassId) (S0 : XSr) (x1 : Int32) (x2 : Int32)  {r9 : Int32} {S9 : XSr} (h : F_X7_weight S0 x1 x2 = some (r9, S9)) : xM l (ωR D a b) yX7_weight cX7_weight 4 (some .int) rm_X7_weight [.ref (a 0), .int x1, .int x2] S0 (some (.int r9), S9) := by
  unfold F_X7_weight at h
  refine xM_of (own := "GraveOrderModel") (by decide) rfl (Nat.le_of_ble_eq_true rfl) (fun Γ C => ?_)
  refine x_sub 0 [0, 1, 2] (lv' := [(0, .ref (a 0)), (1, .int x1), (2, .int x2)]) rfl ?_
  refine x_iload_n 0 C dX7_weight_0 rfl 1 rfl ?_
  refine x_callS 1 C 1 (As := [.int x1]) (rest := []) (M_X7_isKind l (ωR D a b) S0 x1) kw_926 ms_X7_isKind mh_X7_isKind ⟨rfl, rfl⟩ ⟨Nat.le_of_ble_eq_true rfl, Nat.le_of_ble_eq_true rfl⟩ rfl rfl (Nat.le_of_ble_eq_true rfl) dX7_weight_1 ?_
  refine x_if_eq 4 C 16 dX7_weight_4 rfl h (fun h => ?_) (fun h => ?_)
  · refine x_bipush 16 C dX7_weight_16 cb_m2 ?_
    exact x_iret 18 C dX7_weight_18 (Prod.mk.inj (Option.some.inj h)).1 (Prod.mk.inj (Option.some.inj h)).2
  · refine x_iload_n 7 C dX7_weight_7 rfl 2 rfl ?_
    refine x_iconst 8 C dX7_weight_8 ci_0 ?_
    refine x_iconst 9 C dX7_weight_9 ci_3 ?_
    refine x_callS 10 C 3 (As := [.int x2, .int 0, .int 3]) (rest := []) (M_X7_in l (ωR D a b) S0 x2 0 3) kw_911 ms_X7_in mh_X7_in ⟨rfl, rfl⟩ ⟨Nat.le_of_ble_eq_true rfl, Nat.le_of_ble_eq_true rfl⟩ rfl rfl (Nat.le_of_ble_eq_true rfl) dX7_weight_10 ?_
    refine x_if_ne 13 C 19 dX7_weight_13 rfl h (fun h => ?_) (fun h => ?_)
    · refine x_aload_n 19 C dX7_weight_19 rfl 0 rfl ?_
      refine gX7_weights 20 C kw_790 dX7_weight_20 ?_
      refine x_iload_n 23 C dX7_weight_23 rfl 1 rfl ?_
      obtain ⟨hg1, h⟩ := xif_some h
      refine r_iald3 24 C hg1 dX7_weight_24 ?_
      refine x_top h (fun v3_2 h => ?_)
      refine x_istore_n 25 C (lv' := [(0, .ref (a 0)), (1, .int x1), (2, .int x2), (3, .int v3_2)]) dX7_weight_25 rfl (Nat.le_of_ble_eq_true rfl) [1, 2, 3, 0] rfl ?_
      refine x_aload_n 26 C dX7_weight_26 rfl 0 rfl ?_
      refine gX7_weights 27 C kw_790 dX7_weight_27 ?_
      refine x_iload_n 30 C dX7_weight_30 rfl 1 rfl ?_
      refine x_iload_n 31 C dX7_weight_31 rfl 2 rfl ?_
      obtain ⟨hg3, h⟩ := xif_some h
      refine r_iast3 32 C hg3 dX7_weight_32 ?_
      refine x_topS h (fun S4 h => ?_)
      refine x_aload_n 33 C dX7_weight_33 rfl 0 rfl ?_
      refine x_iconst 34 C dX7_weight_34 ci_0 ?_
      refine pX7_isWorked 35 C rfl kw_800 dX7_weight_35 ?_
      refine x_topS h (fun S5 h => ?_)
      refine x_iload_n 38 C dX7_weight_38 rfl 3 rfl ?_
      exact x_iret 39 C dX7_weight_39 (Prod.mk.inj (Option.some.inj h)).1 (Prod.mk.inj (Option.some.inj h)).2
    · refine x_bipush 16 C dX7_weight_16 cb_m2 ?_
      exact x_iret 18 C dX7_weight_18 (Prod.mk.inj (Option.some.inj h)).1 (Prod.mk.inj (Option.some.inj h)).2
/-! GraveOrderModel.over (II)I -/
def F_X7_over (S0 : XSr) (x1 : Int32) (x2 : Int32) : (Option (Int32 × XSr)) :=
  (if (F_X7_isGrave S0 x1) = 0 then (some ((-2), S0)) else (if (F_X7_isGrave S0 x2) = 0 then (some ((-2), S0)) else (if x1 = x2 then (some ((-2), S0)) else (if (S0.1 0 5) = 16 then (some ((-4), S0)) else (if xin (S0.1 0 5) 16 = true then (xlet (xsr S0 4 (xti (S0.1 0 5)) x1) fun S2 => (if xin (S2.1 0 5) 16 = true then (xlet (xsr S2 5 (xti (S2.1 0 5)) x2) fun S4 => (xlet (xsr S4 0 5 ((S4.1 0 5) + (1 : Int32))) fun S5 => (xlet (xsr S5 0 14 0) fun S6 => (some ((S6.1 0 5), S6))))) else none)) else none)))))
abbrev rm_X7_over : Room := { frames := 2, cells := 0, slots := 0, locals := 43 }
set_option maxRecDepth 100000 in
set_option maxHeartbeats 4000000 in
theorem M_X7_over (l : Launch) (D : va_G) (a : Nat → Nat) (b : Nat → ClassId) (S0 : XSr) (x1 : Int32) (x2 : Int32)  {r9 : Int32} {S9 : XSr} (h : F_X7_over S0 x1 x2 = some (r9, S9)) : xM l (ωR D a b) yX7_over cX7_over 3 (some .int) rm_X7_over [.ref (a 0), .int x1, .int x2] S0 (some (.int r9), S9) := by
  unfold F_X7_over at h
  refine xM_of (own := "GraveOrderModel") (by decide) rfl (Nat.le_of_ble_eq_true rfl) (fun Γ C => ?_)
  refine x_sub 0 [0, 1, 2] (lv' := [(0, .ref (a 0)), (1, .int x1), (2, .int x2)]) rfl ?_
  refine x_aload_n 0 C dX7_over_0 rfl 0 rfl ?_
  refine x_iload_n 1 C dX7_over_1 rfl 1 rfl ?_
  refine x_callV 2 C (q0 := 0) (ci := 7) 1 (As := [.int x1]) (rest := []) (M_X7_isGrave l D a b S0 x1 ) (by rfl) rfl kw_918 mv_X7_isGrave mh_X7_isGrave ⟨rfl, rfl⟩ ⟨Nat.le_of_ble_eq_true rfl, Nat.le_of_ble_eq_true rfl⟩ rfl rfl (Nat.le_of_ble_eq_true rfl) dX7_over_2 ?_
  refine x_if_eq 5 C 21 dX7_over_5 rfl h (fun h => ?_) (fun h => ?_)
  · refine x_bipush 21 C dX7_over_21 cb_m2 ?_
    exact x_iret 23 C dX7_over_23 (Prod.mk.inj (Option.some.inj h)).1 (Prod.mk.inj (Option.some.inj h)).2
  · refine x_aload_n 8 C dX7_over_8 rfl 0 rfl ?_
    refine x_iload_n 9 C dX7_over_9 rfl 2 rfl ?_
    refine x_callV 10 C (q0 := 0) (ci := 7) 1 (As := [.int x2]) (rest := []) (M_X7_isGrave l D a b S0 x2 ) (by rfl) rfl kw_918 mv_X7_isGrave mh_X7_isGrave ⟨rfl, rfl⟩ ⟨Nat.le_of_ble_eq_true rfl, Nat.le_of_ble_eq_true rfl⟩ rfl rfl (Nat.le_of_ble_eq_true rfl) dX7_over_10 ?_
    refine x_if_eq 13 C 21 dX7_over_13 rfl h (fun h => ?_) (fun h => ?_)
    · refine x_bipush 21 C dX7_over_21 cb_m2 ?_
      exact x_iret 23 C dX7_over_23 (Prod.mk.inj (Option.some.inj h)).1 (Prod.mk.inj (Option.some.inj h)).2
    · refine x_iload_n 16 C dX7_over_16 rfl 1 rfl ?_
      refine x_iload_n 17 C dX7_over_17 rfl 2 rfl ?_
      refine x_icmp_ne 18 C 24 dX7_over_18 rfl h (fun h => ?_) (fun h => ?_)
      · refine x_aload_n 24 C dX7_over_24 rfl 0 rfl ?_
        refine gX7_overs 25 C kw_791 dX7_over_25 ?_
        refine x_bipush 28 C dX7_over_28 cb_16 ?_
        refine x_icmp_ne 30 C 36 dX7_over_30 rfl h (fun h => ?_) (fun h => ?_)
        · refine x_aload_n 36 C dX7_over_36 rfl 0 rfl ?_
          refine gX7_upper 37 C kw_792 dX7_over_37 ?_
          refine x_aload_n 40 C dX7_over_40 rfl 0 rfl ?_
          refine gX7_overs 41 C kw_791 dX7_over_41 ?_
          refine x_iload_n 44 C dX7_over_44 rfl 1 rfl ?_
          obtain ⟨hg1, h⟩ := xif_some h
          refine r_iast4 45 C hg1 dX7_over_45 ?_
          refine x_topS h (fun S2 h => ?_)
          refine x_aload_n 46 C dX7_over_46 rfl 0 rfl ?_
          refine gX7_lower 47 C kw_793 dX7_over_47 ?_
          refine x_aload_n 50 C dX7_over_50 rfl 0 rfl ?_
          refine gX7_overs 51 C kw_791 dX7_over_51 ?_
          refine x_iload_n 54 C dX7_over_54 rfl 2 rfl ?_
          obtain ⟨hg3, h⟩ := xif_some h
          refine r_iast5 55 C hg3 dX7_over_55 ?_
          refine x_topS h (fun S4 h => ?_)
          refine x_aload_n 56 C dX7_over_56 rfl 0 rfl ?_
          refine x_dup 57 C dX7_over_57 rfl ?_
          refine gX7_overs 58 C kw_791 dX7_over_58 ?_
          refine x_iconst 61 C dX7_over_61 ci_1 ?_
          refine x_iadd 62 C dX7_over_62 ?_
          refine pX7_overs 63 C kw_791 dX7_over_63 ?_
          refine x_topS h (fun S5 h => ?_)
          refine x_aload_n 66 C dX7_over_66 rfl 0 rfl ?_
          refine x_iconst 67 C dX7_over_67 ci_0 ?_
          refine pX7_isWorked 68 C rfl kw_800 dX7_over_68 ?_
          refine x_topS h (fun S6 h => ?_)
          refine x_aload_n 71 C dX7_over_71 rfl 0 rfl ?_
          refine gX7_overs 72 C kw_791 dX7_over_72 ?_
          exact x_iret 75 C dX7_over_75 (Prod.mk.inj (Option.some.inj h)).1 (Prod.mk.inj (Option.some.inj h)).2
        · refine x_bipush 33 C dX7_over_33 cb_m4 ?_
          exact x_iret 35 C dX7_over_35 (Prod.mk.inj (Option.some.inj h)).1 (Prod.mk.inj (Option.some.inj h)).2
      · refine x_bipush 21 C dX7_over_21 cb_m2 ?_
        exact x_iret 23 C dX7_over_23 (Prod.mk.inj (Option.some.inj h)).1 (Prod.mk.inj (Option.some.inj h)).2
/-! GraveOrderModel.type (I)I -/
def F_X7_type (S0 : XSr) (x1 : Int32) : (Option (Int32 × XSr)) :=
  (if (F_X7_in x1 0 255) = 0 then (some ((-2), S0)) else (if (S0.1 0 15) = 40 then (some ((-4), S0)) else (if xin (S0.1 0 15) 40 = true then (xlet (xsr S0 10 (xti (S0.1 0 15)) x1) fun S2 => (xlet (xsr S2 0 15 ((S2.1 0 15) + (1 : Int32))) fun S3 => (some ((S3.1 0 15), S3)))) else none)))
abbrev rm_X7_type : Room := { frames := 1, cells := 0, slots := 0, locals := 22 }
set_option maxRecDepth 100000 in
set_option maxHeartbeats 4000000 in
theorem M_X7_type (l : Launch) (D : va_G) (a : Nat → Nat) (b : Nat → ClassId) (S0 : XSr) (x1 : Int32)  {r9 : Int32} {S9 : XSr} (h : F_X7_type S0 x1 = some (r9, S9)) : xM l (ωR D a b) yX7_type cX7_type 2 (some .int) rm_X7_type [.ref (a 0), .int x1] S0 (some (.int r9), S9) := by
  unfold F_X7_type at h
  refine xM_of (own := "GraveOrderModel") (by decide) rfl (Nat.le_of_ble_eq_true rfl) (fun Γ C => ?_)
  refine x_sub 0 [0, 1] (lv' := [(0, .ref (a 0)), (1, .int x1)]) rfl ?_
  refine x_iload_n 0 C dX7_type_0 rfl 1 rfl ?_
  refine x_iconst 1 C dX7_type_1 ci_0 ?_
  refine x_sipush 2 C dX7_type_2 cs_255 ?_
  refine x_callS 5 C 3 (As := [.int x1, .int 0, .int 255]) (rest := []) (M_X7_in l (ωR D a b) S0 x1 0 255) kw_911 ms_X7_in mh_X7_in ⟨rfl, rfl⟩ ⟨Nat.le_of_ble_eq_true rfl, Nat.le_of_ble_eq_true rfl⟩ rfl rfl (Nat.le_of_ble_eq_true rfl) dX7_type_5 ?_
  refine x_if_ne 8 C 14 dX7_type_8 rfl h (fun h => ?_) (fun h => ?_)
  · refine x_aload_n 14 C dX7_type_14 rfl 0 rfl ?_
    refine gX7_typed 15 C kw_801 dX7_type_15 ?_
    refine x_bipush 18 C dX7_type_18 cb_40 ?_
    refine x_icmp_ne 20 C 26 dX7_type_20 rfl h (fun h => ?_) (fun h => ?_)
    · refine x_aload_n 26 C dX7_type_26 rfl 0 rfl ?_
      refine gX7_text 27 C kw_802 dX7_type_27 ?_
      refine x_aload_n 30 C dX7_type_30 rfl 0 rfl ?_
      refine gX7_typed 31 C kw_801 dX7_type_31 ?_
      refine x_iload_n 34 C dX7_type_34 rfl 1 rfl ?_
      obtain ⟨hg1, h⟩ := xif_some h
      refine r_iast10 35 C hg1 dX7_type_35 ?_
      refine x_topS h (fun S2 h => ?_)
      refine x_aload_n 36 C dX7_type_36 rfl 0 rfl ?_
      refine x_dup 37 C dX7_type_37 rfl ?_
      refine gX7_typed 38 C kw_801 dX7_type_38 ?_
      refine x_iconst 41 C dX7_type_41 ci_1 ?_
      refine x_iadd 42 C dX7_type_42 ?_
      refine pX7_typed 43 C kw_801 dX7_type_43 ?_
      refine x_topS h (fun S3 h => ?_)
      refine x_aload_n 46 C dX7_type_46 rfl 0 rfl ?_
      refine gX7_typed 47 C kw_801 dX7_type_47 ?_
      exact x_iret 50 C dX7_type_50 (Prod.mk.inj (Option.some.inj h)).1 (Prod.mk.inj (Option.some.inj h)).2
    · refine x_bipush 23 C dX7_type_23 cb_m4 ?_
      exact x_iret 25 C dX7_type_25 (Prod.mk.inj (Option.some.inj h)).1 (Prod.mk.inj (Option.some.inj h)).2
  · refine x_bipush 11 C dX7_type_11 cb_m2 ?_
    exact x_iret 13 C dX7_type_13 (Prod.mk.inj (Option.some.inj h)).1 (Prod.mk.inj (Option.some.inj h)).2
/-! GraveOrderModel.wipe ()I -/
def F_X7_wipe (S0 : XSr)  : (Option (Int32 × XSr)) :=
  (xlet (S0.1 0 15) fun v1_1 => (xlet (xsr S0 0 15 0) fun S2 => (some (v1_1, S2))))
abbrev rm_X7_wipe : Room := { frames := 0, cells := 0, slots := 0, locals := 0 }
set_option maxRecDepth 100000 in
set_option maxHeartbeats 4000000 in
theorem M_X7_wipe (l : Launch) (D : va_G) (a : Nat → Nat) (b : Nat → ClassId) (S0 : XSr)   {r9 : Int32} {S9 : XSr} (h : F_X7_wipe S0 = some (r9, S9)) : xM l (ωR D a b) yX7_wipe cX7_wipe 2 (some .int) rm_X7_wipe [.ref (a 0)] S0 (some (.int r9), S9) := by
  unfold F_X7_wipe at h
  refine xM_of (own := "GraveOrderModel") (by decide) rfl (Nat.le_of_ble_eq_true rfl) (fun Γ C => ?_)
  refine x_sub 0 [0] (lv' := [(0, .ref (a 0))]) rfl ?_
  refine x_aload_n 0 C dX7_wipe_0 rfl 0 rfl ?_
  refine gX7_typed 1 C kw_801 dX7_wipe_1 ?_
  refine x_top h (fun v1_1 h => ?_)
  refine x_istore_n 4 C (lv' := [(0, .ref (a 0)), (1, .int v1_1)]) dX7_wipe_4 rfl (Nat.le_of_ble_eq_true rfl) [1, 0] rfl ?_
  refine x_aload_n 5 C dX7_wipe_5 rfl 0 rfl ?_
  refine x_iconst 6 C dX7_wipe_6 ci_0 ?_
  refine pX7_typed 7 C kw_801 dX7_wipe_7 ?_
  refine x_topS h (fun S2 h => ?_)
  refine x_iload_n 10 C dX7_wipe_10 rfl 1 rfl ?_
  exact x_iret 11 C dX7_wipe_11 (Prod.mk.inj (Option.some.inj h)).1 (Prod.mk.inj (Option.some.inj h)).2
/-! GraveOrderModel.byteAt (I)I -/
def F_X7_byteAt (S0 : XSr) (x1 : Int32) : (Option Int32) :=
  (if (S0.1 0 15) ≤ x1 then (some (-1)) else (if xin x1 40 = true then (some (S0.1 10 (xti x1))) else none))
abbrev rm_X7_byteAt : Room := { frames := 0, cells := 0, slots := 0, locals := 0 }
set_option maxRecDepth 100000 in
set_option maxHeartbeats 4000000 in
theorem M_X7_byteAt (l : Launch) (D : va_G) (a : Nat → Nat) (b : Nat → ClassId) (S0 : XSr) (x1 : Int32)  {r9 : Int32} (h : F_X7_byteAt S0 x1 = some r9) : xM l (ωR D a b) yX7_byteAt cX7_byteAt 2 (some .int) rm_X7_byteAt [.ref (a 0), .int x1] S0 (some (.int r9), S0) := by
  unfold F_X7_byteAt at h
  refine xM_of (own := "GraveOrderModel") (by decide) rfl (Nat.le_of_ble_eq_true rfl) (fun Γ C => ?_)
  refine x_sub 0 [0, 1] (lv' := [(0, .ref (a 0)), (1, .int x1)]) rfl ?_
  refine x_iload_n 0 C dX7_byteAt_0 rfl 1 rfl ?_
  refine x_aload_n 1 C dX7_byteAt_1 rfl 0 rfl ?_
  refine gX7_typed 2 C kw_801 dX7_byteAt_2 ?_
  refine x_icmp_ge 5 C 17 dX7_byteAt_5 rfl h (fun h => ?_) (fun h => ?_)
  · refine x_iconst 17 C dX7_byteAt_17 ci_m1 ?_
    exact x_iret 18 C dX7_byteAt_18 (Option.some.inj h) rfl
  · refine x_aload_n 8 C dX7_byteAt_8 rfl 0 rfl ?_
    refine gX7_text 9 C kw_802 dX7_byteAt_9 ?_
    refine x_iload_n 12 C dX7_byteAt_12 rfl 1 rfl ?_
    obtain ⟨hg1, h⟩ := xif_some h
    refine r_iald10 13 C hg1 dX7_byteAt_13 ?_
    refine x_goto 14 C 18 dX7_byteAt_14 rfl ?_
    exact x_iret 18 C dX7_byteAt_18 (Option.some.inj h) rfl
/-! GraveOrderModel.faultNow ()I -/
def B_X7_faultNow_47 (c2 : Int32) (kx : (Int32 × XSr) → Option (Int32 × XSr)) (rc : (Int32 × Int32 × XSr) → Option (Int32 × XSr)) (y1 : Int32) (y3 : Int32) (S1 : XSr) : Option (Int32 × XSr) :=
  (if y3 = 44 then ((F_X7_byteAt S1 y1).bind fun z7 => (xlet (fun (t8 : Int32) => (xlet (y1 + ((1 : Int32) - t8)) fun v1_10 => ((F_X7_byteAt S1 v1_10).bind fun z11 => (xlet (z11 - (48 : Int32)) fun v5_12 => (if (F_X7_isKind v5_12) = 0 then (some (v1_10, S1)) else (xlet (v1_10 + 1) fun v1_13 => (if xin (S1.1 0 17) 40 = true then (xlet (xsr S1 11 (xti (S1.1 0 17)) c2) fun S15 => (if xin (S15.1 0 17) 40 = true then (xlet (xsr S15 12 (xti (S15.1 0 17)) v5_12) fun S17 => (if xin (S17.1 0 17) 40 = true then (xlet (xsr S17 13 (xti (S17.1 0 17)) t8) fun S19 => (xlet (xsr S19 0 17 ((S19.1 0 17) + (1 : Int32))) fun S20 => (if v1_13 = (S20.1 0 15) then (some ((-1), S20)) else ((F_X7_byteAt S20 v1_13).bind fun z21 => (if z21 = 44 then (xlet (v1_13 + 1) fun v1_22 => rc (v1_22, z21, S20)) else (if z21 = 59 then (xlet (v1_13 + 1) fun v1_23 => rc (v1_23, z21, S20)) else (some (v1_13, S20)))))))) else none)) else none)) else none))))))) fun j9 => (if z7 = 45 then j9 0 else j9 1))) else kx (y1, S1))
def B_X7_faultNow_7  (kx : (Int32 × XSr) → Option (Int32 × XSr)) (rc : (Int32 × XSr) → Option (Int32 × XSr)) (y1 : Int32) (S1 : XSr) : Option (Int32 × XSr) :=
  ((F_X7_byteAt S1 y1).bind fun z2 => (xlet (z2 - (48 : Int32)) fun v2_3 => (if (F_X7_isGrave S1 v2_3) = 0 then kx (y1, S1) else (xlet (y1 + 1) fun v1_4 => ((F_X7_byteAt S1 v1_4).bind fun z5 => (if z5 = 58 then (xlet (v1_4 + 1) fun v1_6 => (xlp (fun k rc t => B_X7_faultNow_47  v2_3 k rc t.1 t.2.1 t.2.2) (fun e24 => rc (e24.1, e24.2)) XFU (v1_6, 44, S1))) else (some (v1_4, S1))))))))
def F_X7_faultNow (S0 : XSr)  : (Option (Int32 × XSr)) :=
  (xlet (xsr S0 0 17 0) fun S1 => (xlp (fun k rc t => B_X7_faultNow_7   k rc t.1 t.2) (fun e25 => (some (e25.1, e25.2))) XFU (0, S1)))
abbrev rm_X7_faultNow : Room := { frames := 2, cells := 0, slots := 0, locals := 43 }
set_option maxRecDepth 100000 in
set_option maxHeartbeats 4000000 in
theorem w_X7_faultNow_47 (l : Launch) (D : va_G) (a : Nat → Nat) (b : Nat → ClassId) (S0 : XSr) {Γ : XG XSr} {r9 : Int32} {S9 : XSr} (C : Cx (ωR D a b) Γ cX7_faultNow "GraveOrderModel" (some .int) l rm_X7_faultNow 6 (some (.int r9), S9)) (c2 : Int32)  (kx : (Int32 × XSr) → Option (Int32 × XSr)) (rc : (Int32 × Int32 × XSr) → Option (Int32 × XSr)) (hk : ∀ e, kx e = some (r9, S9) → XAt (ωR D a b) Γ 178 [(0, .ref (a 0)), (1, .int e.1)] [] e.2) (ih : ∀ t, rc t = some (r9, S9) → XAt (ωR D a b) Γ 47 [(0, .ref (a 0)), (1, .int t.1), (2, .int c2), (3, .int t.2.1)] [] t.2.2) (y1 : Int32) (y3 : Int32) (S1 : XSr) (h : B_X7_faultNow_47  c2 kx rc y1 y3 S1 = some (r9, S9)) : XAt (ωR D a b) Γ 47 [(0, .ref (a 0)), (1, .int y1), (2, .int c2), (3, .int y3)] [] S1 := by
  unfold B_X7_faultNow_47 at h
  refine x_iload_n 47 C dX7_faultNow_47 rfl 3 rfl ?_
  refine x_bipush 48 C dX7_faultNow_48 cb_44 ?_
  refine x_icmp_ne 50 C 178 dX7_faultNow_50 rfl h (fun h => ?_) (fun h => ?_)
  · exact x_sub 178 [0, 1] rfl (hk _ h)
  · refine x_aload_n 53 C dX7_faultNow_53 rfl 0 rfl ?_
    refine x_iload_n 54 C dX7_faultNow_54 rfl 1 rfl ?_
    obtain ⟨z7, hz7, h⟩ := xbind_some h
    refine x_callV 55 C (q0 := 0) (ci := 7) 1 (As := [.int y1]) (rest := []) (M_X7_byteAt l D a b S1 y1  hz7) (by rfl) rfl kw_949 mv_X7_byteAt mh_X7_byteAt ⟨rfl, rfl⟩ ⟨Nat.le_of_ble_eq_true rfl, Nat.le_of_ble_eq_true rfl⟩ rfl rfl (Nat.le_of_ble_eq_true rfl) dX7_faultNow_55 ?_
    refine x_bipush 58 C dX7_faultNow_58 cb_45 ?_
    refine x_join (P := fun t8 => XAt (ωR D a b) Γ 68 [(0, .ref (a 0)), (1, .int y1), (2, .int c2)] [.int t8] S1) h (fun t8 h => ?_) (fun j9 hj9 h => ?_)
    · refine x_istore 68 C (lv' := [(0, .ref (a 0)), (1, .int y1), (2, .int c2), (4, .int t8)]) dX7_faultNow_68 (Nat.le_of_ble_eq_true rfl) [1, 2, 3, 0] rfl ?_
      refine x_iload_n 70 C dX7_faultNow_70 rfl 1 rfl ?_
      refine x_iconst 71 C dX7_faultNow_71 ci_1 ?_
      refine x_iload 72 C dX7_faultNow_72 3 rfl ?_
      refine x_isub 74 C dX7_faultNow_74 ?_
      refine x_iadd 75 C dX7_faultNow_75 ?_
      refine x_top h (fun v1_10 h => ?_)
      refine x_istore_n 76 C (lv' := [(0, .ref (a 0)), (1, .int v1_10), (2, .int c2), (4, .int t8)]) dX7_faultNow_76 rfl (Nat.le_of_ble_eq_true rfl) [1, 0, 2, 3] rfl ?_
      refine x_aload_n 77 C dX7_faultNow_77 rfl 0 rfl ?_
      refine x_iload_n 78 C dX7_faultNow_78 rfl 1 rfl ?_
      obtain ⟨z11, hz11, h⟩ := xbind_some h
      refine x_callV 79 C (q0 := 0) (ci := 7) 1 (As := [.int v1_10]) (rest := []) (M_X7_byteAt l D a b S1 v1_10  hz11) (by rfl) rfl kw_949 mv_X7_byteAt mh_X7_byteAt ⟨rfl, rfl⟩ ⟨Nat.le_of_ble_eq_true rfl, Nat.le_of_ble_eq_true rfl⟩ rfl rfl (Nat.le_of_ble_eq_true rfl) dX7_faultNow_79 ?_
      refine x_bipush 82 C dX7_faultNow_82 cb_48 ?_
      refine x_isub 84 C dX7_faultNow_84 ?_
      refine x_top h (fun v5_12 h => ?_)
      refine x_istore 85 C (lv' := [(0, .ref (a 0)), (1, .int v1_10), (2, .int c2), (4, .int t8), (5, .int v5_12)]) dX7_faultNow_85 (Nat.le_of_ble_eq_true rfl) [1, 2, 3, 4, 0] rfl ?_
      refine x_iload 87 C dX7_faultNow_87 4 rfl ?_
      refine x_callS 89 C 1 (As := [.int v5_12]) (rest := []) (M_X7_isKind l (ωR D a b) S1 v5_12) kw_926 ms_X7_isKind mh_X7_isKind ⟨rfl, rfl⟩ ⟨Nat.le_of_ble_eq_true rfl, Nat.le_of_ble_eq_true rfl⟩ rfl rfl (Nat.le_of_ble_eq_true rfl) dX7_faultNow_89 ?_
      refine x_if_ne 92 C 97 dX7_faultNow_92 rfl h (fun h => ?_) (fun h => ?_)
      · refine x_iinc 97 C (L := fun v1_13 => [(0, .ref (a 0)), (1, .int v1_13), (2, .int c2), (4, .int t8), (5, .int v5_12)]) dX7_faultNow_97 1 rfl ci_1 (Nat.le_of_ble_eq_true rfl) [1, 0, 2, 3, 4] (fun _ => rfl) h (fun v1_13 h => ?_)
        refine x_aload_n 100 C dX7_faultNow_100 rfl 0 rfl ?_
        refine gX7_saidGrave 101 C kw_804 dX7_faultNow_101 ?_
        refine x_aload_n 104 C dX7_faultNow_104 rfl 0 rfl ?_
        refine gX7_said 105 C kw_803 dX7_faultNow_105 ?_
        refine x_iload_n 108 C dX7_faultNow_108 rfl 2 rfl ?_
        obtain ⟨hg14, h⟩ := xif_some h
        refine r_iast11 109 C hg14 dX7_faultNow_109 ?_
        refine x_topS h (fun S15 h => ?_)
        refine x_aload_n 110 C dX7_faultNow_110 rfl 0 rfl ?_
        refine gX7_saidKind 111 C kw_805 dX7_faultNow_111 ?_
        refine x_aload_n 114 C dX7_faultNow_114 rfl 0 rfl ?_
        refine gX7_said 115 C kw_803 dX7_faultNow_115 ?_
        refine x_iload 118 C dX7_faultNow_118 4 rfl ?_
        obtain ⟨hg16, h⟩ := xif_some h
        refine r_iast12 120 C hg16 dX7_faultNow_120 ?_
        refine x_topS h (fun S17 h => ?_)
        refine x_aload_n 121 C dX7_faultNow_121 rfl 0 rfl ?_
        refine gX7_saidHas 122 C kw_806 dX7_faultNow_122 ?_
        refine x_aload_n 125 C dX7_faultNow_125 rfl 0 rfl ?_
        refine gX7_said 126 C kw_803 dX7_faultNow_126 ?_
        refine x_iload 129 C dX7_faultNow_129 3 rfl ?_
        obtain ⟨hg18, h⟩ := xif_some h
        refine r_iast13 131 C hg18 dX7_faultNow_131 ?_
        refine x_topS h (fun S19 h => ?_)
        refine x_aload_n 132 C dX7_faultNow_132 rfl 0 rfl ?_
        refine x_dup 133 C dX7_faultNow_133 rfl ?_
        refine gX7_said 134 C kw_803 dX7_faultNow_134 ?_
        refine x_iconst 137 C dX7_faultNow_137 ci_1 ?_
        refine x_iadd 138 C dX7_faultNow_138 ?_
        refine pX7_said 139 C kw_803 dX7_faultNow_139 ?_
        refine x_topS h (fun S20 h => ?_)
        refine x_iload_n 142 C dX7_faultNow_142 rfl 1 rfl ?_
        refine x_aload_n 143 C dX7_faultNow_143 rfl 0 rfl ?_
        refine gX7_typed 144 C kw_801 dX7_faultNow_144 ?_
        refine x_icmp_ne 147 C 152 dX7_faultNow_147 rfl h (fun h => ?_) (fun h => ?_)
        · refine x_aload_n 152 C dX7_faultNow_152 rfl 0 rfl ?_
          refine x_iload_n 153 C dX7_faultNow_153 rfl 1 rfl ?_
          obtain ⟨z21, hz21, h⟩ := xbind_some h
          refine x_callV 154 C (q0 := 0) (ci := 7) 1 (As := [.int v1_13]) (rest := []) (M_X7_byteAt l D a b S20 v1_13  hz21) (by rfl) rfl kw_949 mv_X7_byteAt mh_X7_byteAt ⟨rfl, rfl⟩ ⟨Nat.le_of_ble_eq_true rfl, Nat.le_of_ble_eq_true rfl⟩ rfl rfl (Nat.le_of_ble_eq_true rfl) dX7_faultNow_154 ?_
          refine x_istore_n 157 C (lv' := [(0, .ref (a 0)), (1, .int v1_13), (2, .int c2), (3, .int z21)]) dX7_faultNow_157 rfl (Nat.le_of_ble_eq_true rfl) [1, 2, 3, 0] rfl ?_
          refine x_iload_n 158 C dX7_faultNow_158 rfl 3 rfl ?_
          refine x_bipush 159 C dX7_faultNow_159 cb_44 ?_
          refine x_icmp_eq 161 C 172 dX7_faultNow_161 rfl h (fun h => ?_) (fun h => ?_)
          · refine x_iinc 172 C (L := fun v1_22 => [(0, .ref (a 0)), (1, .int v1_22), (2, .int c2), (3, .int z21)]) dX7_faultNow_172 1 rfl ci_1 (Nat.le_of_ble_eq_true rfl) [1, 0, 2, 3] (fun _ => rfl) h (fun v1_22 h => ?_)
            refine x_goto 175 C 47 dX7_faultNow_175 rfl ?_
            exact ih _ h
          · refine x_iload_n 164 C dX7_faultNow_164 rfl 3 rfl ?_
            refine x_bipush 165 C dX7_faultNow_165 cb_59 ?_
            refine x_icmp_eq 167 C 172 dX7_faultNow_167 rfl h (fun h => ?_) (fun h => ?_)
            · refine x_iinc 172 C (L := fun v1_23 => [(0, .ref (a 0)), (1, .int v1_23), (2, .int c2), (3, .int z21)]) dX7_faultNow_172 1 rfl ci_1 (Nat.le_of_ble_eq_true rfl) [1, 0, 2, 3] (fun _ => rfl) h (fun v1_23 h => ?_)
              refine x_goto 175 C 47 dX7_faultNow_175 rfl ?_
              exact ih _ h
            · refine x_iload_n 170 C dX7_faultNow_170 rfl 1 rfl ?_
              exact x_iret 171 C dX7_faultNow_171 (Prod.mk.inj (Option.some.inj h)).1 (Prod.mk.inj (Option.some.inj h)).2
        · refine x_iconst 150 C dX7_faultNow_150 ci_m1 ?_
          exact x_iret 151 C dX7_faultNow_151 (Prod.mk.inj (Option.some.inj h)).1 (Prod.mk.inj (Option.some.inj h)).2
      · refine x_iload_n 95 C dX7_faultNow_95 rfl 1 rfl ?_
        exact x_iret 96 C dX7_faultNow_96 (Prod.mk.inj (Option.some.inj h)).1 (Prod.mk.inj (Option.some.inj h)).2
    refine x_icmp_ne 60 C 67 dX7_faultNow_60 rfl h (fun h => ?_) (fun h => ?_)
    · refine x_iconst 67 C dX7_faultNow_67 ci_1 ?_
      exact x_sub 68 [0, 1, 2] rfl (hj9 _ h)
    · refine x_iconst 63 C dX7_faultNow_63 ci_0 ?_
      refine x_goto 64 C 68 dX7_faultNow_64 rfl ?_
      exact x_sub 68 [0, 1, 2] rfl (hj9 _ h)
set_option maxRecDepth 100000 in
set_option maxHeartbeats 4000000 in
theorem w_X7_faultNow_7 (l : Launch) (D : va_G) (a : Nat → Nat) (b : Nat → ClassId) (S0 : XSr) {Γ : XG XSr} {r9 : Int32} {S9 : XSr} (C : Cx (ωR D a b) Γ cX7_faultNow "GraveOrderModel" (some .int) l rm_X7_faultNow 6 (some (.int r9), S9))   (kx : (Int32 × XSr) → Option (Int32 × XSr)) (rc : (Int32 × XSr) → Option (Int32 × XSr)) (hk : ∀ e, kx e = some (r9, S9) → XAt (ωR D a b) Γ 24 [(1, .int e.1)] [] e.2) (ih : ∀ t, rc t = some (r9, S9) → XAt (ωR D a b) Γ 7 [(0, .ref (a 0)), (1, .int t.1)] [] t.2) (y1 : Int32) (S1 : XSr) (h : B_X7_faultNow_7   kx rc y1 S1 = some (r9, S9)) : XAt (ωR D a b) Γ 7 [(0, .ref (a 0)), (1, .int y1)] [] S1 := by
  unfold B_X7_faultNow_7 at h
  refine x_aload_n 7 C dX7_faultNow_7 rfl 0 rfl ?_
  refine x_iload_n 8 C dX7_faultNow_8 rfl 1 rfl ?_
  obtain ⟨z2, hz2, h⟩ := xbind_some h
  refine x_callV 9 C (q0 := 0) (ci := 7) 1 (As := [.int y1]) (rest := []) (M_X7_byteAt l D a b S1 y1  hz2) (by rfl) rfl kw_949 mv_X7_byteAt mh_X7_byteAt ⟨rfl, rfl⟩ ⟨Nat.le_of_ble_eq_true rfl, Nat.le_of_ble_eq_true rfl⟩ rfl rfl (Nat.le_of_ble_eq_true rfl) dX7_faultNow_9 ?_
  refine x_bipush 12 C dX7_faultNow_12 cb_48 ?_
  refine x_isub 14 C dX7_faultNow_14 ?_
  refine x_top h (fun v2_3 h => ?_)
  refine x_istore_n 15 C (lv' := [(0, .ref (a 0)), (1, .int y1), (2, .int v2_3)]) dX7_faultNow_15 rfl (Nat.le_of_ble_eq_true rfl) [1, 2, 0] rfl ?_
  refine x_aload_n 16 C dX7_faultNow_16 rfl 0 rfl ?_
  refine x_iload_n 17 C dX7_faultNow_17 rfl 2 rfl ?_
  refine x_callV 18 C (q0 := 0) (ci := 7) 1 (As := [.int v2_3]) (rest := []) (M_X7_isGrave l D a b S1 v2_3 ) (by rfl) rfl kw_918 mv_X7_isGrave mh_X7_isGrave ⟨rfl, rfl⟩ ⟨Nat.le_of_ble_eq_true rfl, Nat.le_of_ble_eq_true rfl⟩ rfl rfl (Nat.le_of_ble_eq_true rfl) dX7_faultNow_18 ?_
  refine x_if_ne 21 C 26 dX7_faultNow_21 rfl h (fun h => ?_) (fun h => ?_)
  · refine x_iinc 26 C (L := fun v1_4 => [(0, .ref (a 0)), (1, .int v1_4), (2, .int v2_3)]) dX7_faultNow_26 1 rfl ci_1 (Nat.le_of_ble_eq_true rfl) [1, 0, 2] (fun _ => rfl) h (fun v1_4 h => ?_)
    refine x_aload_n 29 C dX7_faultNow_29 rfl 0 rfl ?_
    refine x_iload_n 30 C dX7_faultNow_30 rfl 1 rfl ?_
    obtain ⟨z5, hz5, h⟩ := xbind_some h
    refine x_callV 31 C (q0 := 0) (ci := 7) 1 (As := [.int v1_4]) (rest := []) (M_X7_byteAt l D a b S1 v1_4  hz5) (by rfl) rfl kw_949 mv_X7_byteAt mh_X7_byteAt ⟨rfl, rfl⟩ ⟨Nat.le_of_ble_eq_true rfl, Nat.le_of_ble_eq_true rfl⟩ rfl rfl (Nat.le_of_ble_eq_true rfl) dX7_faultNow_31 ?_
    refine x_bipush 34 C dX7_faultNow_34 cb_58 ?_
    refine x_icmp_eq 36 C 41 dX7_faultNow_36 rfl h (fun h => ?_) (fun h => ?_)
    · refine x_bipush 41 C dX7_faultNow_41 cb_44 ?_
      refine x_istore_n 43 C (lv' := [(0, .ref (a 0)), (1, .int v1_4), (2, .int v2_3), (3, .int 44)]) dX7_faultNow_43 rfl (Nat.le_of_ble_eq_true rfl) [1, 2, 3, 0] rfl ?_
      refine x_iinc 44 C (L := fun v1_6 => [(0, .ref (a 0)), (1, .int v1_6), (2, .int v2_3), (3, .int 44)]) dX7_faultNow_44 1 rfl ci_1 (Nat.le_of_ble_eq_true rfl) [1, 0, 2, 3] (fun _ => rfl) h (fun v1_6 h => ?_)
      refine x_loop (E := fun e => XAt (ωR D a b) Γ 178 [(0, .ref (a 0)), (1, .int e.1)] [] e.2) (P := fun t => XAt (ωR D a b) Γ 47 [(0, .ref (a 0)), (1, .int t.1), (2, .int v2_3), (3, .int t.2.1)] [] t.2.2) h (fun e24 h => ?_) (fun kx rc t hk ih h => w_X7_faultNow_47 l D a b S0 C   v2_3 kx rc hk ih t.1 t.2.1 t.2.2 h)
      refine x_goto 178 C 7 dX7_faultNow_178 rfl ?_
      exact ih _ h
    · refine x_iload_n 39 C dX7_faultNow_39 rfl 1 rfl ?_
      exact x_iret 40 C dX7_faultNow_40 (Prod.mk.inj (Option.some.inj h)).1 (Prod.mk.inj (Option.some.inj h)).2
  · exact x_sub 24 [1] rfl (hk _ h)
set_option maxRecDepth 100000 in
set_option maxHeartbeats 4000000 in
theorem M_X7_faultNow (l : Launch) (D : va_G) (a : Nat → Nat) (b : Nat → ClassId) (S0 : XSr)   {r9 : Int32} {S9 : XSr} (h : F_X7_faultNow S0 = some (r9, S9)) : xM l (ωR D a b) yX7_faultNow cX7_faultNow 6 (some .int) rm_X7_faultNow [.ref (a 0)] S0 (some (.int r9), S9) := by
  unfold F_X7_faultNow at h
  refine xM_of (own := "GraveOrderModel") (by decide) rfl (Nat.le_of_ble_eq_true rfl) (fun Γ C => ?_)
  refine x_sub 0 [0] (lv' := [(0, .ref (a 0))]) rfl ?_
  refine x_aload_n 0 C dX7_faultNow_0 rfl 0 rfl ?_
  refine x_iconst 1 C dX7_faultNow_1 ci_0 ?_
  refine pX7_said 2 C kw_803 dX7_faultNow_2 ?_
  refine x_topS h (fun S1 h => ?_)
  refine x_iconst 5 C dX7_faultNow_5 ci_0 ?_
  refine x_istore_n 6 C (lv' := [(0, .ref (a 0)), (1, .int 0)]) dX7_faultNow_6 rfl (Nat.le_of_ble_eq_true rfl) [1, 0] rfl ?_
  refine x_loop (E := fun e => XAt (ωR D a b) Γ 24 [(1, .int e.1)] [] e.2) (P := fun t => XAt (ωR D a b) Γ 7 [(0, .ref (a 0)), (1, .int t.1)] [] t.2) h (fun e25 h => ?_) (fun kx rc t hk ih h => w_X7_faultNow_7 l D a b S0 C    kx rc hk ih t.1 t.2 h)
  refine x_iload_n 24 C dX7_faultNow_24 rfl 0 rfl ?_
  exact x_iret 25 C dX7_faultNow_25 (Prod.mk.inj (Option.some.inj h)).1 (Prod.mk.inj (Option.some.inj h)).2
/-! GraveOrderModel.fault ()I -/
def F_X7_fault (S0 : XSr)  : (Option (Int32 × XSr)) :=
  ((F_X7_faultNow S0).bind fun z1 => (some (z1.1, z1.2)))
abbrev rm_X7_fault : Room := { frames := 3, cells := 0, slots := 0, locals := 68 }
set_option maxRecDepth 100000 in
set_option maxHeartbeats 4000000 in
theorem M_X7_fault (l : Launch) (D : va_G) (a : Nat → Nat) (b : Nat → ClassId) (S0 : XSr)   {r9 : Int32} {S9 : XSr} (h : F_X7_fault S0 = some (r9, S9)) : xM l (ωR D a b) yX7_fault cX7_fault 1 (some .int) rm_X7_fault [.ref (a 0)] S0 (some (.int r9), S9) := by
  unfold F_X7_fault at h
  refine xM_of (own := "GraveOrderModel") (by decide) rfl (Nat.le_of_ble_eq_true rfl) (fun Γ C => ?_)
  refine x_sub 0 [0] (lv' := [(0, .ref (a 0))]) rfl ?_
  refine x_aload_n 0 C dX7_fault_0 rfl 0 rfl ?_
  obtain ⟨z1, hz1, h⟩ := xbind_some h
  refine x_callV 1 C (q0 := 0) (ci := 7) 0 (As := []) (rest := []) (M_X7_faultNow l D a b S0   hz1) (by rfl) rfl kw_945 mv_X7_faultNow mh_X7_faultNow ⟨rfl, rfl⟩ ⟨Nat.le_of_ble_eq_true rfl, Nat.le_of_ble_eq_true rfl⟩ rfl rfl (Nat.le_of_ble_eq_true rfl) dX7_fault_1 ?_
  exact x_iret 4 C dX7_fault_4 (Prod.mk.inj (Option.some.inj h)).1 (Prod.mk.inj (Option.some.inj h)).2
/-! GraveOrderModel.lastTime ()I -/
def F_X7_lastTime (S0 : XSr)  : (Option Int32) :=
  (if (S0.1 0 8) = 0 then (some 0) else (if xin ((S0.1 0 8) - (1 : Int32)) 60 = true then (some (S0.1 9 (xti ((S0.1 0 8) - (1 : Int32))))) else none))
abbrev rm_X7_lastTime : Room := { frames := 0, cells := 0, slots := 0, locals := 0 }
set_option maxRecDepth 100000 in
set_option maxHeartbeats 4000000 in
theorem M_X7_lastTime (l : Launch) (D : va_G) (a : Nat → Nat) (b : Nat → ClassId) (S0 : XSr)   {r9 : Int32} (h : F_X7_lastTime S0 = some r9) : xM l (ωR D a b) yX7_lastTime cX7_lastTime 1 (some .int) rm_X7_lastTime [.ref (a 0)] S0 (some (.int r9), S0) := by
  unfold F_X7_lastTime at h
  refine xM_of (own := "GraveOrderModel") (by decide) rfl (Nat.le_of_ble_eq_true rfl) (fun Γ C => ?_)
  refine x_sub 0 [0] (lv' := [(0, .ref (a 0))]) rfl ?_
  refine x_aload_n 0 C dX7_lastTime_0 rfl 0 rfl ?_
  refine gX7_tellings 1 C kw_794 dX7_lastTime_1 ?_
  refine x_if_ne 4 C 11 dX7_lastTime_4 rfl h (fun h => ?_) (fun h => ?_)
  · refine x_aload_n 11 C dX7_lastTime_11 rfl 0 rfl ?_
    refine gX7_toldTime 12 C kw_798 dX7_lastTime_12 ?_
    refine x_aload_n 15 C dX7_lastTime_15 rfl 0 rfl ?_
    refine gX7_tellings 16 C kw_794 dX7_lastTime_16 ?_
    refine x_iconst 19 C dX7_lastTime_19 ci_1 ?_
    refine x_isub 20 C dX7_lastTime_20 ?_
    obtain ⟨hg1, h⟩ := xif_some h
    refine r_iald9 21 C hg1 dX7_lastTime_21 ?_
    exact x_iret 22 C dX7_lastTime_22 (Option.some.inj h) rfl
  · refine x_iconst 7 C dX7_lastTime_7 ci_0 ?_
    refine x_goto 8 C 22 dX7_lastTime_8 rfl ?_
    exact x_iret 22 C dX7_lastTime_22 (Option.some.inj h) rfl
/-! GraveOrderModel.tells (IIII)V -/
def F_X7_tells (S0 : XSr) (x1 : Int32) (x2 : Int32) (x3 : Int32) (x4 : Int32) : (Option XSr) :=
  (if xin (S0.1 0 8) 60 = true then (xlet (xsr S0 6 (xti (S0.1 0 8)) x1) fun S2 => (if xin (S2.1 0 8) 60 = true then (xlet (xsr S2 7 (xti (S2.1 0 8)) x2) fun S4 => (if xin (S4.1 0 8) 60 = true then (xlet (xsr S4 8 (xti (S4.1 0 8)) x3) fun S6 => (if xin (S6.1 0 8) 60 = true then (xlet (xsr S6 9 (xti (S6.1 0 8)) x4) fun S8 => (xlet (xsr S8 0 8 ((S8.1 0 8) + (1 : Int32))) fun S9 => (xlet (xsr S9 0 14 0) fun S10 => (some S10)))) else none)) else none)) else none)) else none)
abbrev rm_X7_tells : Room := { frames := 0, cells := 0, slots := 0, locals := 0 }
set_option maxRecDepth 100000 in
set_option maxHeartbeats 4000000 in
theorem M_X7_tells (l : Launch) (D : va_G) (a : Nat → Nat) (b : Nat → ClassId) (S0 : XSr) (x1 : Int32) (x2 : Int32) (x3 : Int32) (x4 : Int32)  {S9 : XSr} (h : F_X7_tells S0 x1 x2 x3 x4 = some S9) : xM l (ωR D a b) yX7_tells cX7_tells 5 none rm_X7_tells [.ref (a 0), .int x1, .int x2, .int x3, .int x4] S0 (none, S9) := by
  unfold F_X7_tells at h
  refine xM_of (own := "GraveOrderModel") (by decide) rfl (Nat.le_of_ble_eq_true rfl) (fun Γ C => ?_)
  refine x_sub 0 [0, 1, 2, 3, 4] (lv' := [(0, .ref (a 0)), (1, .int x1), (2, .int x2), (3, .int x3), (4, .int x4)]) rfl ?_
  refine x_aload_n 0 C dX7_tells_0 rfl 0 rfl ?_
  refine gX7_toldGrave 1 C kw_795 dX7_tells_1 ?_
  refine x_aload_n 4 C dX7_tells_4 rfl 0 rfl ?_
  refine gX7_tellings 5 C kw_794 dX7_tells_5 ?_
  refine x_iload_n 8 C dX7_tells_8 rfl 1 rfl ?_
  obtain ⟨hg1, h⟩ := xif_some h
  refine r_iast6 9 C hg1 dX7_tells_9 ?_
  refine x_topS h (fun S2 h => ?_)
  refine x_aload_n 10 C dX7_tells_10 rfl 0 rfl ?_
  refine gX7_toldKind 11 C kw_796 dX7_tells_11 ?_
  refine x_aload_n 14 C dX7_tells_14 rfl 0 rfl ?_
  refine gX7_tellings 15 C kw_794 dX7_tells_15 ?_
  refine x_iload_n 18 C dX7_tells_18 rfl 2 rfl ?_
  obtain ⟨hg3, h⟩ := xif_some h
  refine r_iast7 19 C hg3 dX7_tells_19 ?_
  refine x_topS h (fun S4 h => ?_)
  refine x_aload_n 20 C dX7_tells_20 rfl 0 rfl ?_
  refine gX7_toldHas 21 C kw_797 dX7_tells_21 ?_
  refine x_aload_n 24 C dX7_tells_24 rfl 0 rfl ?_
  refine gX7_tellings 25 C kw_794 dX7_tells_25 ?_
  refine x_iload_n 28 C dX7_tells_28 rfl 3 rfl ?_
  obtain ⟨hg5, h⟩ := xif_some h
  refine r_iast8 29 C hg5 dX7_tells_29 ?_
  refine x_topS h (fun S6 h => ?_)
  refine x_aload_n 30 C dX7_tells_30 rfl 0 rfl ?_
  refine gX7_toldTime 31 C kw_798 dX7_tells_31 ?_
  refine x_aload_n 34 C dX7_tells_34 rfl 0 rfl ?_
  refine gX7_tellings 35 C kw_794 dX7_tells_35 ?_
  refine x_iload 38 C dX7_tells_38 4 rfl ?_
  obtain ⟨hg7, h⟩ := xif_some h
  refine r_iast9 40 C hg7 dX7_tells_40 ?_
  refine x_topS h (fun S8 h => ?_)
  refine x_aload_n 41 C dX7_tells_41 rfl 0 rfl ?_
  refine x_dup 42 C dX7_tells_42 rfl ?_
  refine gX7_tellings 43 C kw_794 dX7_tells_43 ?_
  refine x_iconst 46 C dX7_tells_46 ci_1 ?_
  refine x_iadd 47 C dX7_tells_47 ?_
  refine pX7_tellings 48 C kw_794 dX7_tells_48 ?_
  refine x_topS h (fun S9 h => ?_)
  refine x_aload_n 51 C dX7_tells_51 rfl 0 rfl ?_
  refine x_iconst 52 C dX7_tells_52 ci_0 ?_
  refine pX7_isWorked 53 C rfl kw_800 dX7_tells_53 ?_
  refine x_topS h (fun S10 h => ?_)
  exact x_vret 56 C dX7_tells_56 (Option.some.inj h)
/-! GraveOrderModel.tell (I)I -/
def B_X7_tell_30 (c1 : Int32) (kx : (Int32 × XSr) → Option (Int32 × XSr)) (rc : (Int32 × XSr) → Option (Int32 × XSr)) (y2 : Int32) (S1 : XSr) : Option (Int32 × XSr) :=
  (if (S1.1 0 17) ≤ y2 then kx (y2, S1) else (if 60 ≤ (S1.1 0 8) then kx (y2, S1) else (if xin y2 40 = true then (if xin y2 40 = true then (if xin y2 40 = true then ((F_X7_tells S1 (S1.1 11 (xti y2)) (S1.1 12 (xti y2)) (S1.1 13 (xti y2)) c1).bind fun z6 => (xlet (y2 + 1) fun v2_7 => rc (v2_7, z6))) else none) else none) else none)))
def F_X7_tell (S0 : XSr) (x1 : Int32) : (Option (Int32 × XSr)) :=
  ((F_X7_lastTime S0).bind fun z1 => (if (F_X7_in x1 z1 999) = 0 then (some ((-2), S0)) else ((F_X7_faultNow S0).bind fun z2 => (if z2.1 = (-1) then (xlp (fun k rc t => B_X7_tell_30  x1 k rc t.1 t.2) (fun e8 => (xlet (xsr e8.2 0 15 0) fun S9 => (some (e8.1, S9)))) XFU (0, z2.2)) else (some ((-3), z2.2))))))
abbrev rm_X7_tell : Room := { frames := 3, cells := 0, slots := 0, locals := 68 }
set_option maxRecDepth 100000 in
set_option maxHeartbeats 4000000 in
theorem w_X7_tell_30 (l : Launch) (D : va_G) (a : Nat → Nat) (b : Nat → ClassId) (S0 : XSr) {Γ : XG XSr} {r9 : Int32} {S9 : XSr} (C : Cx (ωR D a b) Γ cX7_tell "GraveOrderModel" (some .int) l rm_X7_tell 3 (some (.int r9), S9)) (c1 : Int32)  (kx : (Int32 × XSr) → Option (Int32 × XSr)) (rc : (Int32 × XSr) → Option (Int32 × XSr)) (hk : ∀ e, kx e = some (r9, S9) → XAt (ωR D a b) Γ 76 [(0, .ref (a 0)), (2, .int e.1)] [] e.2) (ih : ∀ t, rc t = some (r9, S9) → XAt (ωR D a b) Γ 30 [(0, .ref (a 0)), (1, .int c1), (2, .int t.1)] [] t.2) (y2 : Int32) (S1 : XSr) (h : B_X7_tell_30  c1 kx rc y2 S1 = some (r9, S9)) : XAt (ωR D a b) Γ 30 [(0, .ref (a 0)), (1, .int c1), (2, .int y2)] [] S1 := by
  unfold B_X7_tell_30 at h
  refine x_iload_n 30 C dX7_tell_30 rfl 2 rfl ?_
  refine x_aload_n 31 C dX7_tell_31 rfl 0 rfl ?_
  refine gX7_said 32 C kw_803 dX7_tell_32 ?_
  refine x_icmp_ge 35 C 76 dX7_tell_35 rfl h (fun h => ?_) (fun h => ?_)
  · exact x_sub 76 [0, 2] rfl (hk _ h)
  · refine x_aload_n 38 C dX7_tell_38 rfl 0 rfl ?_
    refine gX7_tellings 39 C kw_794 dX7_tell_39 ?_
    refine x_bipush 42 C dX7_tell_42 cb_60 ?_
    refine x_icmp_ge 44 C 76 dX7_tell_44 rfl h (fun h => ?_) (fun h => ?_)
    · exact x_sub 76 [0, 2] rfl (hk _ h)
    · refine x_aload_n 47 C dX7_tell_47 rfl 0 rfl ?_
      refine x_aload_n 48 C dX7_tell_48 rfl 0 rfl ?_
      refine gX7_saidGrave 49 C kw_804 dX7_tell_49 ?_
      refine x_iload_n 52 C dX7_tell_52 rfl 2 rfl ?_
      obtain ⟨hg3, h⟩ := xif_some h
      refine r_iald11 53 C hg3 dX7_tell_53 ?_
      refine x_aload_n 54 C dX7_tell_54 rfl 0 rfl ?_
      refine gX7_saidKind 55 C kw_805 dX7_tell_55 ?_
      refine x_iload_n 58 C dX7_tell_58 rfl 2 rfl ?_
      obtain ⟨hg4, h⟩ := xif_some h
      refine r_iald12 59 C hg4 dX7_tell_59 ?_
      refine x_aload_n 60 C dX7_tell_60 rfl 0 rfl ?_
      refine gX7_saidHas 61 C kw_806 dX7_tell_61 ?_
      refine x_iload_n 64 C dX7_tell_64 rfl 2 rfl ?_
      obtain ⟨hg5, h⟩ := xif_some h
      refine r_iald13 65 C hg5 dX7_tell_65 ?_
      refine x_iload_n 66 C dX7_tell_66 rfl 1 rfl ?_
      obtain ⟨z6, hz6, h⟩ := xbind_some h
      refine x_callV 67 C (q0 := 0) (ci := 7) 4 (As := [.int (S1.1 11 (xti y2)), .int (S1.1 12 (xti y2)), .int (S1.1 13 (xti y2)), .int c1]) (rest := []) (M_X7_tells l D a b S1 (S1.1 11 (xti y2)) (S1.1 12 (xti y2)) (S1.1 13 (xti y2)) c1  hz6) (by rfl) rfl kw_961 mv_X7_tells mh_X7_tells ⟨rfl, rfl⟩ ⟨Nat.le_of_ble_eq_true rfl, Nat.le_of_ble_eq_true rfl⟩ rfl rfl (Nat.le_of_ble_eq_true rfl) dX7_tell_67 ?_
      refine x_iinc 70 C (L := fun v2_7 => [(0, .ref (a 0)), (1, .int c1), (2, .int v2_7)]) dX7_tell_70 2 rfl ci_1 (Nat.le_of_ble_eq_true rfl) [1, 2, 0] (fun _ => rfl) h (fun v2_7 h => ?_)
      refine x_goto 73 C 30 dX7_tell_73 rfl ?_
      exact ih _ h
set_option maxRecDepth 100000 in
set_option maxHeartbeats 4000000 in
theorem M_X7_tell (l : Launch) (D : va_G) (a : Nat → Nat) (b : Nat → ClassId) (S0 : XSr) (x1 : Int32)  {r9 : Int32} {S9 : XSr} (h : F_X7_tell S0 x1 = some (r9, S9)) : xM l (ωR D a b) yX7_tell cX7_tell 3 (some .int) rm_X7_tell [.ref (a 0), .int x1] S0 (some (.int r9), S9) := by
  unfold F_X7_tell at h
  refine xM_of (own := "GraveOrderModel") (by decide) rfl (Nat.le_of_ble_eq_true rfl) (fun Γ C => ?_)
  refine x_sub 0 [0, 1] (lv' := [(0, .ref (a 0)), (1, .int x1)]) rfl ?_
  refine x_iload_n 0 C dX7_tell_0 rfl 1 rfl ?_
  refine x_aload_n 1 C dX7_tell_1 rfl 0 rfl ?_
  obtain ⟨z1, hz1, h⟩ := xbind_some h
  refine x_callV 2 C (q0 := 0) (ci := 7) 0 (As := []) (rest := [.int x1]) (M_X7_lastTime l D a b S0   hz1) (by rfl) rfl kw_957 mv_X7_lastTime mh_X7_lastTime ⟨rfl, rfl⟩ ⟨Nat.le_of_ble_eq_true rfl, Nat.le_of_ble_eq_true rfl⟩ rfl rfl (Nat.le_of_ble_eq_true rfl) dX7_tell_2 ?_
  refine x_sipush 5 C dX7_tell_5 cs_999 ?_
  refine x_callS 8 C 3 (As := [.int x1, .int z1, .int 999]) (rest := []) (M_X7_in l (ωR D a b) S0 x1 z1 999) kw_911 ms_X7_in mh_X7_in ⟨rfl, rfl⟩ ⟨Nat.le_of_ble_eq_true rfl, Nat.le_of_ble_eq_true rfl⟩ rfl rfl (Nat.le_of_ble_eq_true rfl) dX7_tell_8 ?_
  refine x_if_ne 11 C 17 dX7_tell_11 rfl h (fun h => ?_) (fun h => ?_)
  · refine x_aload_n 17 C dX7_tell_17 rfl 0 rfl ?_
    obtain ⟨z2, hz2, h⟩ := xbind_some h
    refine x_callV 18 C (q0 := 0) (ci := 7) 0 (As := []) (rest := []) (M_X7_faultNow l D a b S0   hz2) (by rfl) rfl kw_945 mv_X7_faultNow mh_X7_faultNow ⟨rfl, rfl⟩ ⟨Nat.le_of_ble_eq_true rfl, Nat.le_of_ble_eq_true rfl⟩ rfl rfl (Nat.le_of_ble_eq_true rfl) dX7_tell_18 ?_
    refine x_iconst 21 C dX7_tell_21 ci_m1 ?_
    refine x_icmp_eq 22 C 28 dX7_tell_22 rfl h (fun h => ?_) (fun h => ?_)
    · refine x_iconst 28 C dX7_tell_28 ci_0 ?_
      refine x_istore_n 29 C (lv' := [(0, .ref (a 0)), (1, .int x1), (2, .int 0)]) dX7_tell_29 rfl (Nat.le_of_ble_eq_true rfl) [1, 2, 0] rfl ?_
      refine x_loop (E := fun e => XAt (ωR D a b) Γ 76 [(0, .ref (a 0)), (2, .int e.1)] [] e.2) (P := fun t => XAt (ωR D a b) Γ 30 [(0, .ref (a 0)), (1, .int x1), (2, .int t.1)] [] t.2) h (fun e8 h => ?_) (fun kx rc t hk ih h => w_X7_tell_30 l D a b S0 C   x1 kx rc hk ih t.1 t.2 h)
      refine x_aload_n 76 C dX7_tell_76 rfl 0 rfl ?_
      refine x_iconst 77 C dX7_tell_77 ci_0 ?_
      refine pX7_typed 78 C kw_801 dX7_tell_78 ?_
      refine x_topS h (fun S9 h => ?_)
      refine x_iload_n 81 C dX7_tell_81 rfl 1 rfl ?_
      exact x_iret 82 C dX7_tell_82 (Prod.mk.inj (Option.some.inj h)).1 (Prod.mk.inj (Option.some.inj h)).2
    · refine x_bipush 25 C dX7_tell_25 cb_m3 ?_
      exact x_iret 27 C dX7_tell_27 (Prod.mk.inj (Option.some.inj h)).1 (Prod.mk.inj (Option.some.inj h)).2
  · refine x_bipush 14 C dX7_tell_14 cb_m2 ?_
    exact x_iret 16 C dX7_tell_16 (Prod.mk.inj (Option.some.inj h)).1 (Prod.mk.inj (Option.some.inj h)).2
/-! GraveOrderModel.isSheet (I)Z -/
def F_X7_isSheet (x0 : Int32) : Int32 :=
  (F_X7_in x0 0 3)
theorem Z_X7_isSheet (x0 : Int32) : xbool (F_X7_isSheet x0) = true := by
  unfold F_X7_isSheet
  repeat' split
  all_goals first | rfl | exact Z_X6_within _ _ _ | exact Z_X7_in _ _ _ | apply Z_X7_is
abbrev rm_X7_isSheet : Room := { frames := 1, cells := 0, slots := 0, locals := 22 }
set_option maxRecDepth 100000 in
set_option maxHeartbeats 4000000 in
theorem M_X7_isSheet {σ : Type} (l : Launch) (ω : XW σ) (S0 : σ) (x0 : Int32)  : xM l ω yX7_isSheet cX7_isSheet 1 (some .boolean) rm_X7_isSheet [.int x0] S0 (some (.int (F_X7_isSheet x0)), S0) := by
  obtain ⟨r9, h⟩ : ∃ r9, F_X7_isSheet x0 = r9 := ⟨_, rfl⟩
  rw [h]
  unfold F_X7_isSheet at h
  refine xM_of (own := "GraveOrderModel") (by decide) rfl (Nat.le_of_ble_eq_true rfl) (fun Γ C => ?_)
  refine x_sub 0 [0] (lv' := [(0, .int x0)]) rfl ?_
  refine x_iload_n 0 C dX7_isSheet_0 rfl 0 rfl ?_
  refine x_iconst 1 C dX7_isSheet_1 ci_0 ?_
  refine x_iconst 2 C dX7_isSheet_2 ci_3 ?_
  refine x_callS 3 C 3 (As := [.int x0, .int 0, .int 3]) (rest := []) (M_X7_in l ω S0 x0 0 3) kw_911 ms_X7_in mh_X7_in ⟨rfl, rfl⟩ ⟨Nat.le_of_ble_eq_true rfl, Nat.le_of_ble_eq_true rfl⟩ rfl rfl (Nat.le_of_ble_eq_true rfl) dX7_isSheet_3 ?_
  exact x_zret 6 C dX7_isSheet_6 (Z_X7_in x0 0 3) h rfl
/-! GraveOrderModel.meets (I)I -/
def F_X7_meets (S0 : XSr) (x1 : Int32) : (Option (Int32 × XSr)) :=
  (xlet (xsr S0 0 39 x1) fun S1 => (some (((-10 : Int32) - x1), S1)))
abbrev rm_X7_meets : Room := { frames := 0, cells := 0, slots := 0, locals := 0 }
set_option maxRecDepth 100000 in
set_option maxHeartbeats 4000000 in
theorem M_X7_meets (l : Launch) (D : va_G) (a : Nat → Nat) (b : Nat → ClassId) (S0 : XSr) (x1 : Int32)  {r9 : Int32} {S9 : XSr} (h : F_X7_meets S0 x1 = some (r9, S9)) : xM l (ωR D a b) yX7_meets cX7_meets 2 (some .int) rm_X7_meets [.ref (a 0), .int x1] S0 (some (.int r9), S9) := by
  unfold F_X7_meets at h
  refine xM_of (own := "GraveOrderModel") (by decide) rfl (Nat.le_of_ble_eq_true rfl) (fun Γ C => ?_)
  refine x_sub 0 [0, 1] (lv' := [(0, .ref (a 0)), (1, .int x1)]) rfl ?_
  refine x_aload_n 0 C dX7_meets_0 rfl 0 rfl ?_
  refine x_iload_n 1 C dX7_meets_1 rfl 1 rfl ?_
  refine pX7_finding 2 C kw_825 dX7_meets_2 ?_
  refine x_topS h (fun S1 h => ?_)
  refine x_bipush 5 C dX7_meets_5 cb_m10 ?_
  refine x_iload_n 7 C dX7_meets_7 rfl 1 rfl ?_
  refine x_isub 8 C dX7_meets_8 ?_
  exact x_iret 9 C dX7_meets_9 (Prod.mk.inj (Option.some.inj h)).1 (Prod.mk.inj (Option.some.inj h)).2
/-! GraveOrderModel.read (III)I -/
def B_X7_read_50 (c1 : Int32) (c2 : Int32) (c3 : Int32) (kx : (Int32 × XSr) → Option (Int32 × XSr)) (rc : (Int32 × XSr) → Option (Int32 × XSr)) (y4 : Int32) (S1 : XSr) : Option (Int32 × XSr) :=
  (if 10 ≤ y4 then kx (y4, S1) else (if xin c1 4 = true then (if (S1.1 24 (xti c1)) ≤ y4 then kx (y4, S1) else (if 60 ≤ (S1.1 0 8) then kx (y4, S1) else (if xin (((40 : Int32) * c1) + y4) 160 = true then (if (F_X7_in (S1.1 25 (xti (((40 : Int32) * c1) + y4))) 0 1) = 0 then kx (y4, S1) else (if xin (((40 : Int32) * c1) + y4) 160 = true then ((F_X7_tells S1 c2 y4 (S1.1 25 (xti (((40 : Int32) * c1) + y4))) c3).bind fun z6 => (xlet (y4 + 1) fun v4_7 => rc (v4_7, z6))) else none)) else none))) else none))
def F_X7_read (S0 : XSr) (x1 : Int32) (x2 : Int32) (x3 : Int32) : (Option (Int32 × XSr)) :=
  (if (F_X7_isSheet x1) = 0 then (some ((-2), S0)) else (if (F_X7_isGrave S0 x2) = 0 then (some ((-2), S0)) else ((F_X7_lastTime S0).bind fun z1 => (if (F_X7_in x3 z1 999) = 0 then (some ((-2), S0)) else (if xin x1 4 = true then (if (S0.1 22 (xti x1)) = 0 then ((F_X7_meets S0 1).bind fun z9 => (some (z9.1, z9.2))) else (xlp (fun k rc t => B_X7_read_50  x1 x2 x3 k rc t.1 t.2) (fun e8 => (some (e8.1, e8.2))) XFU (0, S0))) else none)))))
abbrev rm_X7_read : Room := { frames := 2, cells := 0, slots := 0, locals := 43 }
set_option maxRecDepth 100000 in
set_option maxHeartbeats 4000000 in
theorem w_X7_read_50 (l : Launch) (D : va_G) (a : Nat → Nat) (b : Nat → ClassId) (S0 : XSr) {Γ : XG XSr} {r9 : Int32} {S9 : XSr} (C : Cx (ωR D a b) Γ cX7_read "GraveOrderModel" (some .int) l rm_X7_read 5 (some (.int r9), S9)) (c1 : Int32) (c2 : Int32) (c3 : Int32)  (kx : (Int32 × XSr) → Option (Int32 × XSr)) (rc : (Int32 × XSr) → Option (Int32 × XSr)) (hk : ∀ e, kx e = some (r9, S9) → XAt (ωR D a b) Γ 123 [(4, .int e.1)] [] e.2) (ih : ∀ t, rc t = some (r9, S9) → XAt (ωR D a b) Γ 50 [(0, .ref (a 0)), (1, .int c1), (2, .int c2), (3, .int c3), (4, .int t.1)] [] t.2) (y4 : Int32) (S1 : XSr) (h : B_X7_read_50  c1 c2 c3 kx rc y4 S1 = some (r9, S9)) : XAt (ωR D a b) Γ 50 [(0, .ref (a 0)), (1, .int c1), (2, .int c2), (3, .int c3), (4, .int y4)] [] S1 := by
  unfold B_X7_read_50 at h
  refine x_iload 50 C dX7_read_50 4 rfl ?_
  refine x_bipush 52 C dX7_read_52 cb_10 ?_
  refine x_icmp_ge 54 C 123 dX7_read_54 rfl h (fun h => ?_) (fun h => ?_)
  · exact x_sub 123 [4] rfl (hk _ h)
  · refine x_iload 57 C dX7_read_57 4 rfl ?_
    refine x_aload_n 59 C dX7_read_59 rfl 0 rfl ?_
    refine gX7_sizes 60 C kw_822 dX7_read_60 ?_
    refine x_iload_n 63 C dX7_read_63 rfl 1 rfl ?_
    obtain ⟨hg3, h⟩ := xif_some h
    refine r_iald24 64 C hg3 dX7_read_64 ?_
    refine x_icmp_ge 65 C 123 dX7_read_65 rfl h (fun h => ?_) (fun h => ?_)
    · exact x_sub 123 [4] rfl (hk _ h)
    · refine x_aload_n 68 C dX7_read_68 rfl 0 rfl ?_
      refine gX7_tellings 69 C kw_794 dX7_read_69 ?_
      refine x_bipush 72 C dX7_read_72 cb_60 ?_
      refine x_icmp_ge 74 C 123 dX7_read_74 rfl h (fun h => ?_) (fun h => ?_)
      · exact x_sub 123 [4] rfl (hk _ h)
      · refine x_aload_n 77 C dX7_read_77 rfl 0 rfl ?_
        refine gX7_items 78 C kw_823 dX7_read_78 ?_
        refine x_bipush 81 C dX7_read_81 cb_40 ?_
        refine x_iload_n 83 C dX7_read_83 rfl 1 rfl ?_
        refine x_imul 84 C dX7_read_84 ?_
        refine x_iload 85 C dX7_read_85 4 rfl ?_
        refine x_iadd 87 C dX7_read_87 ?_
        obtain ⟨hg4, h⟩ := xif_some h
        refine r_iald25 88 C hg4 dX7_read_88 ?_
        refine x_iconst 89 C dX7_read_89 ci_0 ?_
        refine x_iconst 90 C dX7_read_90 ci_1 ?_
        refine x_callS 91 C 3 (As := [.int (S1.1 25 (xti (((40 : Int32) * c1) + y4))), .int 0, .int 1]) (rest := []) (M_X7_in l (ωR D a b) S1 (S1.1 25 (xti (((40 : Int32) * c1) + y4))) 0 1) kw_911 ms_X7_in mh_X7_in ⟨rfl, rfl⟩ ⟨Nat.le_of_ble_eq_true rfl, Nat.le_of_ble_eq_true rfl⟩ rfl rfl (Nat.le_of_ble_eq_true rfl) dX7_read_91 ?_
        refine x_if_eq 94 C 123 dX7_read_94 rfl h (fun h => ?_) (fun h => ?_)
        · exact x_sub 123 [4] rfl (hk _ h)
        · refine x_aload_n 97 C dX7_read_97 rfl 0 rfl ?_
          refine x_iload_n 98 C dX7_read_98 rfl 2 rfl ?_
          refine x_iload 99 C dX7_read_99 4 rfl ?_
          refine x_aload_n 101 C dX7_read_101 rfl 0 rfl ?_
          refine gX7_items 102 C kw_823 dX7_read_102 ?_
          refine x_bipush 105 C dX7_read_105 cb_40 ?_
          refine x_iload_n 107 C dX7_read_107 rfl 1 rfl ?_
          refine x_imul 108 C dX7_read_108 ?_
          refine x_iload 109 C dX7_read_109 4 rfl ?_
          refine x_iadd 111 C dX7_read_111 ?_
          obtain ⟨hg5, h⟩ := xif_some h
          refine r_iald25 112 C hg5 dX7_read_112 ?_
          refine x_iload_n 113 C dX7_read_113 rfl 3 rfl ?_
          obtain ⟨z6, hz6, h⟩ := xbind_some h
          refine x_callV 114 C (q0 := 0) (ci := 7) 4 (As := [.int c2, .int y4, .int (S1.1 25 (xti (((40 : Int32) * c1) + y4))), .int c3]) (rest := []) (M_X7_tells l D a b S1 c2 y4 (S1.1 25 (xti (((40 : Int32) * c1) + y4))) c3  hz6) (by rfl) rfl kw_961 mv_X7_tells mh_X7_tells ⟨rfl, rfl⟩ ⟨Nat.le_of_ble_eq_true rfl, Nat.le_of_ble_eq_true rfl⟩ rfl rfl (Nat.le_of_ble_eq_true rfl) dX7_read_114 ?_
          refine x_iinc 117 C (L := fun v4_7 => [(0, .ref (a 0)), (1, .int c1), (2, .int c2), (3, .int c3), (4, .int v4_7)]) dX7_read_117 4 rfl ci_1 (Nat.le_of_ble_eq_true rfl) [1, 2, 3, 4, 0] (fun _ => rfl) h (fun v4_7 h => ?_)
          refine x_goto 120 C 50 dX7_read_120 rfl ?_
          exact ih _ h
set_option maxRecDepth 100000 in
set_option maxHeartbeats 4000000 in
theorem M_X7_read (l : Launch) (D : va_G) (a : Nat → Nat) (b : Nat → ClassId) (S0 : XSr) (x1 : Int32) (x2 : Int32) (x3 : Int32)  {r9 : Int32} {S9 : XSr} (h : F_X7_read S0 x1 x2 x3 = some (r9, S9)) : xM l (ωR D a b) yX7_read cX7_read 5 (some .int) rm_X7_read [.ref (a 0), .int x1, .int x2, .int x3] S0 (some (.int r9), S9) := by
  unfold F_X7_read at h
  refine xM_of (own := "GraveOrderModel") (by decide) rfl (Nat.le_of_ble_eq_true rfl) (fun Γ C => ?_)
  refine x_sub 0 [0, 1, 2, 3] (lv' := [(0, .ref (a 0)), (1, .int x1), (2, .int x2), (3, .int x3)]) rfl ?_
  refine x_iload_n 0 C dX7_read_0 rfl 1 rfl ?_
  refine x_callS 1 C 1 (As := [.int x1]) (rest := []) (M_X7_isSheet l (ωR D a b) S0 x1) kw_969 ms_X7_isSheet mh_X7_isSheet ⟨rfl, rfl⟩ ⟨Nat.le_of_ble_eq_true rfl, Nat.le_of_ble_eq_true rfl⟩ rfl rfl (Nat.le_of_ble_eq_true rfl) dX7_read_1 ?_
  refine x_if_eq 4 C 29 dX7_read_4 rfl h (fun h => ?_) (fun h => ?_)
  · refine x_bipush 29 C dX7_read_29 cb_m2 ?_
    exact x_iret 31 C dX7_read_31 (Prod.mk.inj (Option.some.inj h)).1 (Prod.mk.inj (Option.some.inj h)).2
  · refine x_aload_n 7 C dX7_read_7 rfl 0 rfl ?_
    refine x_iload_n 8 C dX7_read_8 rfl 2 rfl ?_
    refine x_callV 9 C (q0 := 0) (ci := 7) 1 (As := [.int x2]) (rest := []) (M_X7_isGrave l D a b S0 x2 ) (by rfl) rfl kw_918 mv_X7_isGrave mh_X7_isGrave ⟨rfl, rfl⟩ ⟨Nat.le_of_ble_eq_true rfl, Nat.le_of_ble_eq_true rfl⟩ rfl rfl (Nat.le_of_ble_eq_true rfl) dX7_read_9 ?_
    refine x_if_eq 12 C 29 dX7_read_12 rfl h (fun h => ?_) (fun h => ?_)
    · refine x_bipush 29 C dX7_read_29 cb_m2 ?_
      exact x_iret 31 C dX7_read_31 (Prod.mk.inj (Option.some.inj h)).1 (Prod.mk.inj (Option.some.inj h)).2
    · refine x_iload_n 15 C dX7_read_15 rfl 3 rfl ?_
      refine x_aload_n 16 C dX7_read_16 rfl 0 rfl ?_
      obtain ⟨z1, hz1, h⟩ := xbind_some h
      refine x_callV 17 C (q0 := 0) (ci := 7) 0 (As := []) (rest := [.int x3]) (M_X7_lastTime l D a b S0   hz1) (by rfl) rfl kw_957 mv_X7_lastTime mh_X7_lastTime ⟨rfl, rfl⟩ ⟨Nat.le_of_ble_eq_true rfl, Nat.le_of_ble_eq_true rfl⟩ rfl rfl (Nat.le_of_ble_eq_true rfl) dX7_read_17 ?_
      refine x_sipush 20 C dX7_read_20 cs_999 ?_
      refine x_callS 23 C 3 (As := [.int x3, .int z1, .int 999]) (rest := []) (M_X7_in l (ωR D a b) S0 x3 z1 999) kw_911 ms_X7_in mh_X7_in ⟨rfl, rfl⟩ ⟨Nat.le_of_ble_eq_true rfl, Nat.le_of_ble_eq_true rfl⟩ rfl rfl (Nat.le_of_ble_eq_true rfl) dX7_read_23 ?_
      refine x_if_ne 26 C 32 dX7_read_26 rfl h (fun h => ?_) (fun h => ?_)
      · refine x_aload_n 32 C dX7_read_32 rfl 0 rfl ?_
        refine gX7_isThere 33 C kw_820 dX7_read_33 ?_
        refine x_iload_n 36 C dX7_read_36 rfl 1 rfl ?_
        obtain ⟨hg2, h⟩ := xif_some h
        refine r_zald22 37 C hg2 dX7_read_37 ?_
        refine x_if_ne 38 C 47 dX7_read_38 rfl h (fun h => ?_) (fun h => ?_)
        · refine x_iconst 47 C dX7_read_47 ci_0 ?_
          refine x_istore 48 C (lv' := [(0, .ref (a 0)), (1, .int x1), (2, .int x2), (3, .int x3), (4, .int 0)]) dX7_read_48 (Nat.le_of_ble_eq_true rfl) [1, 2, 3, 4, 0] rfl ?_
          refine x_loop (E := fun e => XAt (ωR D a b) Γ 123 [(4, .int e.1)] [] e.2) (P := fun t => XAt (ωR D a b) Γ 50 [(0, .ref (a 0)), (1, .int x1), (2, .int x2), (3, .int x3), (4, .int t.1)] [] t.2) h (fun e8 h => ?_) (fun kx rc t hk ih h => w_X7_read_50 l D a b S0 C   x1 x2 x3 kx rc hk ih t.1 t.2 h)
          refine x_iload 123 C dX7_read_123 0 rfl ?_
          exact x_iret 125 C dX7_read_125 (Prod.mk.inj (Option.some.inj h)).1 (Prod.mk.inj (Option.some.inj h)).2
        · refine x_aload_n 41 C dX7_read_41 rfl 0 rfl ?_
          refine x_iconst 42 C dX7_read_42 ci_1 ?_
          obtain ⟨z9, hz9, h⟩ := xbind_some h
          refine x_callV 43 C (q0 := 0) (ci := 7) 1 (As := [.int 1]) (rest := []) (M_X7_meets l D a b S0 1  hz9) (by rfl) rfl kw_972 mv_X7_meets mh_X7_meets ⟨rfl, rfl⟩ ⟨Nat.le_of_ble_eq_true rfl, Nat.le_of_ble_eq_true rfl⟩ rfl rfl (Nat.le_of_ble_eq_true rfl) dX7_read_43 ?_
          exact x_iret 46 C dX7_read_46 (Prod.mk.inj (Option.some.inj h)).1 (Prod.mk.inj (Option.some.inj h)).2
      · refine x_bipush 29 C dX7_read_29 cb_m2 ?_
        exact x_iret 31 C dX7_read_31 (Prod.mk.inj (Option.some.inj h)).1 (Prod.mk.inj (Option.some.inj h)).2
/-! GraveOrderModel.asOf (I)I -/
def F_X7_asOf (S0 : XSr) (x1 : Int32) : (Option (Int32 × XSr)) :=
  (if (F_X7_in x1 0 999) = 0 then (some ((-2), S0)) else (xlet (S0.1 0 13) fun v2_1 => (xlet (xsr S0 0 13 x1) fun S2 => (xlet (xsr S2 0 14 0) fun S3 => (some (v2_1, S3))))))
abbrev rm_X7_asOf : Room := { frames := 1, cells := 0, slots := 0, locals := 22 }
set_option maxRecDepth 100000 in
set_option maxHeartbeats 4000000 in
theorem M_X7_asOf (l : Launch) (D : va_G) (a : Nat → Nat) (b : Nat → ClassId) (S0 : XSr) (x1 : Int32)  {r9 : Int32} {S9 : XSr} (h : F_X7_asOf S0 x1 = some (r9, S9)) : xM l (ωR D a b) yX7_asOf cX7_asOf 3 (some .int) rm_X7_asOf [.ref (a 0), .int x1] S0 (some (.int r9), S9) := by
  unfold F_X7_asOf at h
  refine xM_of (own := "GraveOrderModel") (by decide) rfl (Nat.le_of_ble_eq_true rfl) (fun Γ C => ?_)
  refine x_sub 0 [0, 1] (lv' := [(0, .ref (a 0)), (1, .int x1)]) rfl ?_
  refine x_iload_n 0 C dX7_asOf_0 rfl 1 rfl ?_
  refine x_iconst 1 C dX7_asOf_1 ci_0 ?_
  refine x_sipush 2 C dX7_asOf_2 cs_999 ?_
  refine x_callS 5 C 3 (As := [.int x1, .int 0, .int 999]) (rest := []) (M_X7_in l (ωR D a b) S0 x1 0 999) kw_911 ms_X7_in mh_X7_in ⟨rfl, rfl⟩ ⟨Nat.le_of_ble_eq_true rfl, Nat.le_of_ble_eq_true rfl⟩ rfl rfl (Nat.le_of_ble_eq_true rfl) dX7_asOf_5 ?_
  refine x_if_ne 8 C 14 dX7_asOf_8 rfl h (fun h => ?_) (fun h => ?_)
  · refine x_aload_n 14 C dX7_asOf_14 rfl 0 rfl ?_
    refine gX7_knownTo 15 C kw_799 dX7_asOf_15 ?_
    refine x_top h (fun v2_1 h => ?_)
    refine x_istore_n 18 C (lv' := [(0, .ref (a 0)), (1, .int x1), (2, .int v2_1)]) dX7_asOf_18 rfl (Nat.le_of_ble_eq_true rfl) [1, 2, 0] rfl ?_
    refine x_aload_n 19 C dX7_asOf_19 rfl 0 rfl ?_
    refine x_iload_n 20 C dX7_asOf_20 rfl 1 rfl ?_
    refine pX7_knownTo 21 C kw_799 dX7_asOf_21 ?_
    refine x_topS h (fun S2 h => ?_)
    refine x_aload_n 24 C dX7_asOf_24 rfl 0 rfl ?_
    refine x_iconst 25 C dX7_asOf_25 ci_0 ?_
    refine pX7_isWorked 26 C rfl kw_800 dX7_asOf_26 ?_
    refine x_topS h (fun S3 h => ?_)
    refine x_iload_n 29 C dX7_asOf_29 rfl 2 rfl ?_
    exact x_iret 30 C dX7_asOf_30 (Prod.mk.inj (Option.some.inj h)).1 (Prod.mk.inj (Option.some.inj h)).2
  · refine x_bipush 11 C dX7_asOf_11 cb_m2 ?_
    exact x_iret 13 C dX7_asOf_13 (Prod.mk.inj (Option.some.inj h)).1 (Prod.mk.inj (Option.some.inj h)).2
/-! GraveOrderModel.lays ()V -/
def B_X7_lays_2  (kx : XSr → Option XSr) (rc : (Int32 × XSr) → Option XSr) (y1 : Int32) (S1 : XSr) : Option XSr :=
  (if (S1.1 0 0) ≤ y1 then kx S1 else (if xin y1 8 = true then (xlet (xsr S1 14 (xti y1) 0) fun S2 => (xlet (y1 + 1) fun v1_3 => rc (v1_3, S2))) else none))
def B_X7_lays_25  (kx : XSr → Option XSr) (rc : (Int32 × XSr) → Option XSr) (y1 : Int32) (S1 : XSr) : Option XSr :=
  (if (S1.1 0 8) ≤ y1 then kx S1 else (if xin y1 60 = true then (if (S1.1 0 13) < (S1.1 9 (xti y1)) then (xlet (y1 + 1) fun v1_6 => rc (v1_6, S1)) else (if xin y1 60 = true then (xlet ((1 : Int32) <<< ((S1.1 7 (xti y1)) &&& 31)) fun v2_8 => (if xin y1 60 = true then (if xin y1 60 = true then (if (S1.1 8 (xti y1)) = 1 then (if xin y1 60 = true then (if xin (S1.1 6 (xti y1)) 8 = true then (if xin (S1.1 6 (xti y1)) 8 = true then (xlet (xsr S1 14 (xti (S1.1 6 (xti y1))) ((S1.1 14 (xti (S1.1 6 (xti y1)))) ||| v2_8)) fun S19 => (xlet (y1 + 1) fun v1_20 => rc (v1_20, S19))) else none) else none) else none) else (if xin y1 60 = true then (if xin (S1.1 6 (xti y1)) 8 = true then (if xin (S1.1 6 (xti y1)) 8 = true then (xlet (xsr S1 14 (xti (S1.1 6 (xti y1))) ((S1.1 14 (xti (S1.1 6 (xti y1)))) &&& (v2_8 ^^^ (-1 : Int32)))) fun S14 => (xlet (y1 + 1) fun v1_15 => rc (v1_15, S14))) else none) else none) else none)) else none) else none)) else none)) else none))
def F_X7_lays (S0 : XSr)  : (Option XSr) :=
  (xlp (fun k rc t => B_X7_lays_2   k rc t.1 t.2) (fun e4 => (xlp (fun k rc t => B_X7_lays_25   k rc t.1 t.2) (fun e21 => (some e21)) XFU (0, e4))) XFU (0, S0))
abbrev rm_X7_lays : Room := { frames := 0, cells := 0, slots := 0, locals := 0 }
set_option maxRecDepth 100000 in
set_option maxHeartbeats 4000000 in
theorem w_X7_lays_2 (l : Launch) (D : va_G) (a : Nat → Nat) (b : Nat → ClassId) (S0 : XSr) {Γ : XG XSr} {S9 : XSr} (C : Cx (ωR D a b) Γ cX7_lays "GraveOrderModel" none l rm_X7_lays 3 (none, S9))   (kx : XSr → Option XSr) (rc : (Int32 × XSr) → Option XSr) (hk : ∀ e, kx e = some S9 → XAt (ωR D a b) Γ 23 [(0, .ref (a 0))] [] e) (ih : ∀ t, rc t = some S9 → XAt (ωR D a b) Γ 2 [(0, .ref (a 0)), (1, .int t.1)] [] t.2) (y1 : Int32) (S1 : XSr) (h : B_X7_lays_2   kx rc y1 S1 = some S9) : XAt (ωR D a b) Γ 2 [(0, .ref (a 0)), (1, .int y1)] [] S1 := by
  unfold B_X7_lays_2 at h
  refine x_iload_n 2 C dX7_lays_2 rfl 1 rfl ?_
  refine x_aload_n 3 C dX7_lays_3 rfl 0 rfl ?_
  refine gX7_graves 4 C kw_786 dX7_lays_4 ?_
  refine x_icmp_ge 7 C 23 dX7_lays_7 rfl h (fun h => ?_) (fun h => ?_)
  · exact x_sub 23 [0] rfl (hk _ h)
  · refine x_aload_n 10 C dX7_lays_10 rfl 0 rfl ?_
    refine gX7_have 11 C kw_807 dX7_lays_11 ?_
    refine x_iload_n 14 C dX7_lays_14 rfl 1 rfl ?_
    refine x_iconst 15 C dX7_lays_15 ci_0 ?_
    obtain ⟨hg1, h⟩ := xif_some h
    refine r_iast14 16 C hg1 dX7_lays_16 ?_
    refine x_topS h (fun S2 h => ?_)
    refine x_iinc 17 C (L := fun v1_3 => [(0, .ref (a 0)), (1, .int v1_3)]) dX7_lays_17 1 rfl ci_1 (Nat.le_of_ble_eq_true rfl) [1, 0] (fun _ => rfl) h (fun v1_3 h => ?_)
    refine x_goto 20 C 2 dX7_lays_20 rfl ?_
    exact ih _ h
set_option maxRecDepth 100000 in
set_option maxHeartbeats 4000000 in
theorem w_X7_lays_25 (l : Launch) (D : va_G) (a : Nat → Nat) (b : Nat → ClassId) (S0 : XSr) {Γ : XG XSr} {S9 : XSr} (C : Cx (ωR D a b) Γ cX7_lays "GraveOrderModel" none l rm_X7_lays 3 (none, S9))   (kx : XSr → Option XSr) (rc : (Int32 × XSr) → Option XSr) (hk : ∀ e, kx e = some S9 → XAt (ωR D a b) Γ 113 [] [] e) (ih : ∀ t, rc t = some S9 → XAt (ωR D a b) Γ 25 [(0, .ref (a 0)), (1, .int t.1)] [] t.2) (y1 : Int32) (S1 : XSr) (h : B_X7_lays_25   kx rc y1 S1 = some S9) : XAt (ωR D a b) Γ 25 [(0, .ref (a 0)), (1, .int y1)] [] S1 := by
  unfold B_X7_lays_25 at h
  refine x_iload_n 25 C dX7_lays_25 rfl 1 rfl ?_
  refine x_aload_n 26 C dX7_lays_26 rfl 0 rfl ?_
  refine gX7_tellings 27 C kw_794 dX7_lays_27 ?_
  refine x_icmp_ge 30 C 113 dX7_lays_30 rfl h (fun h => ?_) (fun h => ?_)
  · exact x_sub 113 [] rfl (hk _ h)
  · refine x_aload_n 33 C dX7_lays_33 rfl 0 rfl ?_
    refine gX7_toldTime 34 C kw_798 dX7_lays_34 ?_
    refine x_iload_n 37 C dX7_lays_37 rfl 1 rfl ?_
    obtain ⟨hg5, h⟩ := xif_some h
    refine r_iald9 38 C hg5 dX7_lays_38 ?_
    refine x_aload_n 39 C dX7_lays_39 rfl 0 rfl ?_
    refine gX7_knownTo 40 C kw_799 dX7_lays_40 ?_
    refine x_icmp_gt 43 C 107 dX7_lays_43 rfl h (fun h => ?_) (fun h => ?_)
    · refine x_iinc 107 C (L := fun v1_6 => [(0, .ref (a 0)), (1, .int v1_6)]) dX7_lays_107 1 rfl ci_1 (Nat.le_of_ble_eq_true rfl) [1, 0] (fun _ => rfl) h (fun v1_6 h => ?_)
      refine x_goto 110 C 25 dX7_lays_110 rfl ?_
      exact ih _ h
    · refine x_iconst 46 C dX7_lays_46 ci_1 ?_
      refine x_aload_n 47 C dX7_lays_47 rfl 0 rfl ?_
      refine gX7_toldKind 48 C kw_796 dX7_lays_48 ?_
      refine x_iload_n 51 C dX7_lays_51 rfl 1 rfl ?_
      obtain ⟨hg7, h⟩ := xif_some h
      refine r_iald7 52 C hg7 dX7_lays_52 ?_
      refine x_ishl 53 C dX7_lays_53 ?_
      refine x_top h (fun v2_8 h => ?_)
      refine x_istore_n 54 C (lv' := [(0, .ref (a 0)), (1, .int y1), (2, .int v2_8)]) dX7_lays_54 rfl (Nat.le_of_ble_eq_true rfl) [1, 2, 0] rfl ?_
      refine x_aload_n 55 C dX7_lays_55 rfl 0 rfl ?_
      refine gX7_have 56 C kw_807 dX7_lays_56 ?_
      refine x_aload_n 59 C dX7_lays_59 rfl 0 rfl ?_
      refine gX7_toldGrave 60 C kw_795 dX7_lays_60 ?_
      refine x_iload_n 63 C dX7_lays_63 rfl 1 rfl ?_
      obtain ⟨hg9, h⟩ := xif_some h
      refine r_iald6 64 C hg9 dX7_lays_64 ?_
      refine x_aload_n 65 C dX7_lays_65 rfl 0 rfl ?_
      refine gX7_toldHas 66 C kw_797 dX7_lays_66 ?_
      refine x_iload_n 69 C dX7_lays_69 rfl 1 rfl ?_
      obtain ⟨hg10, h⟩ := xif_some h
      refine r_iald8 70 C hg10 dX7_lays_70 ?_
      refine x_iconst 71 C dX7_lays_71 ci_1 ?_
      refine x_icmp_ne 72 C 91 dX7_lays_72 rfl h (fun h => ?_) (fun h => ?_)
      · refine x_aload_n 91 C dX7_lays_91 rfl 0 rfl ?_
        refine gX7_have 92 C kw_807 dX7_lays_92 ?_
        refine x_aload_n 95 C dX7_lays_95 rfl 0 rfl ?_
        refine gX7_toldGrave 96 C kw_795 dX7_lays_96 ?_
        refine x_iload_n 99 C dX7_lays_99 rfl 1 rfl ?_
        obtain ⟨hg11, h⟩ := xif_some h
        refine r_iald6 100 C hg11 dX7_lays_100 ?_
        obtain ⟨hg12, h⟩ := xif_some h
        refine r_iald14 101 C hg12 dX7_lays_101 ?_
        refine x_iload_n 102 C dX7_lays_102 rfl 2 rfl ?_
        refine x_iconst 103 C dX7_lays_103 ci_m1 ?_
        refine x_ixor 104 C dX7_lays_104 ?_
        refine x_iand 105 C dX7_lays_105 ?_
        obtain ⟨hg13, h⟩ := xif_some h
        refine r_iast14 106 C hg13 dX7_lays_106 ?_
        refine x_topS h (fun S14 h => ?_)
        refine x_iinc 107 C (L := fun v1_15 => [(0, .ref (a 0)), (1, .int v1_15)]) dX7_lays_107 1 rfl ci_1 (Nat.le_of_ble_eq_true rfl) [1, 0] (fun _ => rfl) h (fun v1_15 h => ?_)
        refine x_goto 110 C 25 dX7_lays_110 rfl ?_
        exact ih _ h
      · refine x_aload_n 75 C dX7_lays_75 rfl 0 rfl ?_
        refine gX7_have 76 C kw_807 dX7_lays_76 ?_
        refine x_aload_n 79 C dX7_lays_79 rfl 0 rfl ?_
        refine gX7_toldGrave 80 C kw_795 dX7_lays_80 ?_
        refine x_iload_n 83 C dX7_lays_83 rfl 1 rfl ?_
        obtain ⟨hg16, h⟩ := xif_some h
        refine r_iald6 84 C hg16 dX7_lays_84 ?_
        obtain ⟨hg17, h⟩ := xif_some h
        refine r_iald14 85 C hg17 dX7_lays_85 ?_
        refine x_iload_n 86 C dX7_lays_86 rfl 2 rfl ?_
        refine x_ior 87 C dX7_lays_87 ?_
        refine x_goto 88 C 106 dX7_lays_88 rfl ?_
        obtain ⟨hg18, h⟩ := xif_some h
        refine r_iast14 106 C hg18 dX7_lays_106 ?_
        refine x_topS h (fun S19 h => ?_)
        refine x_iinc 107 C (L := fun v1_20 => [(0, .ref (a 0)), (1, .int v1_20)]) dX7_lays_107 1 rfl ci_1 (Nat.le_of_ble_eq_true rfl) [1, 0] (fun _ => rfl) h (fun v1_20 h => ?_)
        refine x_goto 110 C 25 dX7_lays_110 rfl ?_
        exact ih _ h
set_option maxRecDepth 100000 in
set_option maxHeartbeats 4000000 in
theorem M_X7_lays (l : Launch) (D : va_G) (a : Nat → Nat) (b : Nat → ClassId) (S0 : XSr)   {S9 : XSr} (h : F_X7_lays S0 = some S9) : xM l (ωR D a b) yX7_lays cX7_lays 3 none rm_X7_lays [.ref (a 0)] S0 (none, S9) := by
  unfold F_X7_lays at h
  refine xM_of (own := "GraveOrderModel") (by decide) rfl (Nat.le_of_ble_eq_true rfl) (fun Γ C => ?_)
  refine x_sub 0 [0] (lv' := [(0, .ref (a 0))]) rfl ?_
  refine x_iconst 0 C dX7_lays_0 ci_0 ?_
  refine x_istore_n 1 C (lv' := [(0, .ref (a 0)), (1, .int 0)]) dX7_lays_1 rfl (Nat.le_of_ble_eq_true rfl) [1, 0] rfl ?_
  refine x_loop (E := fun e => XAt (ωR D a b) Γ 23 [(0, .ref (a 0))] [] e) (P := fun t => XAt (ωR D a b) Γ 2 [(0, .ref (a 0)), (1, .int t.1)] [] t.2) h (fun e4 h => ?_) (fun kx rc t hk ih h => w_X7_lays_2 l D a b S0 C    kx rc hk ih t.1 t.2 h)
  refine x_iconst 23 C dX7_lays_23 ci_0 ?_
  refine x_istore_n 24 C (lv' := [(0, .ref (a 0)), (1, .int 0)]) dX7_lays_24 rfl (Nat.le_of_ble_eq_true rfl) [1, 0] rfl ?_
  refine x_loop (E := fun e => XAt (ωR D a b) Γ 113 [] [] e) (P := fun t => XAt (ωR D a b) Γ 25 [(0, .ref (a 0)), (1, .int t.1)] [] t.2) h (fun e21 h => ?_) (fun kx rc t hk ih h => w_X7_lays_25 l D a b S0 C    kx rc hk ih t.1 t.2 h)
  exact x_vret 113 C dX7_lays_113 (Option.some.inj h)
/-! GraveOrderModel.has (I)I -/
def F_X7_has (S0 : XSr) (x1 : Int32) : (Option (Int32 × XSr)) :=
  (if (F_X7_isGrave S0 x1) = 0 then (some ((-2), S0)) else ((F_X7_lays S0).bind fun z1 => (if xin x1 8 = true then (some ((z1.1 14 (xti x1)), z1)) else none)))
abbrev rm_X7_has : Room := { frames := 2, cells := 0, slots := 0, locals := 43 }
set_option maxRecDepth 100000 in
set_option maxHeartbeats 4000000 in
theorem M_X7_has (l : Launch) (D : va_G) (a : Nat → Nat) (b : Nat → ClassId) (S0 : XSr) (x1 : Int32)  {r9 : Int32} {S9 : XSr} (h : F_X7_has S0 x1 = some (r9, S9)) : xM l (ωR D a b) yX7_has cX7_has 2 (some .int) rm_X7_has [.ref (a 0), .int x1] S0 (some (.int r9), S9) := by
  unfold F_X7_has at h
  refine xM_of (own := "GraveOrderModel") (by decide) rfl (Nat.le_of_ble_eq_true rfl) (fun Γ C => ?_)
  refine x_sub 0 [0, 1] (lv' := [(0, .ref (a 0)), (1, .int x1)]) rfl ?_
  refine x_aload_n 0 C dX7_has_0 rfl 0 rfl ?_
  refine x_iload_n 1 C dX7_has_1 rfl 1 rfl ?_
  refine x_callV 2 C (q0 := 0) (ci := 7) 1 (As := [.int x1]) (rest := []) (M_X7_isGrave l D a b S0 x1 ) (by rfl) rfl kw_918 mv_X7_isGrave mh_X7_isGrave ⟨rfl, rfl⟩ ⟨Nat.le_of_ble_eq_true rfl, Nat.le_of_ble_eq_true rfl⟩ rfl rfl (Nat.le_of_ble_eq_true rfl) dX7_has_2 ?_
  refine x_if_ne 5 C 11 dX7_has_5 rfl h (fun h => ?_) (fun h => ?_)
  · refine x_aload_n 11 C dX7_has_11 rfl 0 rfl ?_
    obtain ⟨z1, hz1, h⟩ := xbind_some h
    refine x_callV 12 C (q0 := 0) (ci := 7) 0 (As := []) (rest := []) (M_X7_lays l D a b S0   hz1) (by rfl) rfl kw_984 mv_X7_lays mh_X7_lays ⟨rfl, rfl⟩ ⟨Nat.le_of_ble_eq_true rfl, Nat.le_of_ble_eq_true rfl⟩ rfl rfl (Nat.le_of_ble_eq_true rfl) dX7_has_12 ?_
    refine x_aload_n 15 C dX7_has_15 rfl 0 rfl ?_
    refine gX7_have 16 C kw_807 dX7_has_16 ?_
    refine x_iload_n 19 C dX7_has_19 rfl 1 rfl ?_
    obtain ⟨hg2, h⟩ := xif_some h
    refine r_iald14 20 C hg2 dX7_has_20 ?_
    exact x_iret 21 C dX7_has_21 (Prod.mk.inj (Option.some.inj h)).1 (Prod.mk.inj (Option.some.inj h)).2
  · refine x_bipush 8 C dX7_has_8 cb_m2 ?_
    exact x_iret 10 C dX7_has_10 (Prod.mk.inj (Option.some.inj h)).1 (Prod.mk.inj (Option.some.inj h)).2
/-! GraveOrderModel.gapsOf (I)I -/
def B_X7_gapsOf_7 (S0 : XSr) (c1 : Int32) (kx : Int32 → Option Int32) (rc : (Int32 × Int32 × Int32) → Option Int32) (y2 : Int32) (y3 : Int32) (y4 : Int32) : Option Int32 :=
  (if (S0.1 0 0) ≤ y4 then kx y2 else (if xin y4 8 = true then (if xin (S0.1 15 (xti y4)) 8 = true then (if (F_X7_is (S0.1 14 (xti (S0.1 15 (xti y4)))) c1) = 0 then (if y3 = (-1) then (xlet (y4 + 1) fun v4_3 => rc (y2, y3, v4_3)) else (if xin y4 8 = true then (if (F_X7_is (S0.1 0 3) (S0.1 15 (xti y4))) = 0 then (xlet (y3 + (1 : Int32)) fun v3_5 => (xlet (y4 + 1) fun v4_6 => rc (y2, v3_5, v4_6))) else (xlet (y3 + (0 : Int32)) fun v3_7 => (xlet (y4 + 1) fun v4_8 => rc (y2, v3_7, v4_8)))) else none)) else (xlet (fun (t9 : Int32) => (xlet (y2 + t9) fun v2_11 => (xlet (y4 + 1) fun v4_12 => rc (v2_11, 0, v4_12)))) fun j10 => (if y3 = (-1) then j10 0 else j10 y3))) else none) else none))
def F_X7_gapsOf (S0 : XSr) (x1 : Int32) : (Option Int32) :=
  (xlp (fun k rc t => B_X7_gapsOf_7 S0  x1 k rc t.1 t.2.1 t.2.2) (fun e13 => (some e13)) XFU (0, (-1), 0))
abbrev rm_X7_gapsOf : Room := { frames := 1, cells := 0, slots := 0, locals := 21 }
set_option maxRecDepth 100000 in
set_option maxHeartbeats 4000000 in
theorem w_X7_gapsOf_7 (l : Launch) (D : va_G) (a : Nat → Nat) (b : Nat → ClassId) (S0 : XSr) {Γ : XG XSr} {r9 : Int32} (C : Cx (ωR D a b) Γ cX7_gapsOf "GraveOrderModel" (some .int) l rm_X7_gapsOf 5 (some (.int r9), S0)) (c1 : Int32)  (kx : Int32 → Option Int32) (rc : (Int32 × Int32 × Int32) → Option Int32) (hk : ∀ e, kx e = some r9 → XAt (ωR D a b) Γ 89 [(2, .int e)] [] S0) (ih : ∀ t, rc t = some r9 → XAt (ωR D a b) Γ 7 [(0, .ref (a 0)), (1, .int c1), (2, .int t.1), (3, .int t.2.1), (4, .int t.2.2)] [] S0) (y2 : Int32) (y3 : Int32) (y4 : Int32) (h : B_X7_gapsOf_7 S0  c1 kx rc y2 y3 y4 = some r9) : XAt (ωR D a b) Γ 7 [(0, .ref (a 0)), (1, .int c1), (2, .int y2), (3, .int y3), (4, .int y4)] [] S0 := by
  unfold B_X7_gapsOf_7 at h
  refine x_iload 7 C dX7_gapsOf_7 4 rfl ?_
  refine x_aload_n 9 C dX7_gapsOf_9 rfl 0 rfl ?_
  refine gX7_graves 10 C kw_786 dX7_gapsOf_10 ?_
  refine x_icmp_ge 13 C 89 dX7_gapsOf_13 rfl h (fun h => ?_) (fun h => ?_)
  · exact x_sub 89 [2] rfl (hk _ h)
  · refine x_aload_n 16 C dX7_gapsOf_16 rfl 0 rfl ?_
    refine gX7_have 17 C kw_807 dX7_gapsOf_17 ?_
    refine x_aload_n 20 C dX7_gapsOf_20 rfl 0 rfl ?_
    refine gX7_order 21 C kw_808 dX7_gapsOf_21 ?_
    refine x_iload 24 C dX7_gapsOf_24 4 rfl ?_
    obtain ⟨hg1, h⟩ := xif_some h
    refine r_iald15 26 C hg1 dX7_gapsOf_26 ?_
    obtain ⟨hg2, h⟩ := xif_some h
    refine r_iald14 27 C hg2 dX7_gapsOf_27 ?_
    refine x_iload_n 28 C dX7_gapsOf_28 rfl 1 rfl ?_
    refine x_callS 29 C 2 (As := [.int (S0.1 14 (xti (S0.1 15 (xti y4)))), .int c1]) (rest := []) (M_X7_is l (ωR D a b) S0 (S0.1 14 (xti (S0.1 15 (xti y4)))) c1) kw_992 ms_X7_is mh_X7_is ⟨rfl, rfl⟩ ⟨Nat.le_of_ble_eq_true rfl, Nat.le_of_ble_eq_true rfl⟩ rfl rfl (Nat.le_of_ble_eq_true rfl) dX7_gapsOf_29 ?_
    refine x_if_eq 32 C 53 dX7_gapsOf_32 rfl h (fun h => ?_) (fun h => ?_)
    · refine x_iload_n 53 C dX7_gapsOf_53 rfl 3 rfl ?_
      refine x_iconst 54 C dX7_gapsOf_54 ci_m1 ?_
      refine x_icmp_eq 55 C 83 dX7_gapsOf_55 rfl h (fun h => ?_) (fun h => ?_)
      · refine x_iinc 83 C (L := fun v4_3 => [(0, .ref (a 0)), (1, .int c1), (2, .int y2), (3, .int y3), (4, .int v4_3)]) dX7_gapsOf_83 4 rfl ci_1 (Nat.le_of_ble_eq_true rfl) [1, 2, 3, 4, 0] (fun _ => rfl) h (fun v4_3 h => ?_)
        refine x_goto 86 C 7 dX7_gapsOf_86 rfl ?_
        exact ih _ h
      · refine x_iload_n 58 C dX7_gapsOf_58 rfl 3 rfl ?_
        refine x_aload_n 59 C dX7_gapsOf_59 rfl 0 rfl ?_
        refine gX7_robbers 60 C kw_789 dX7_gapsOf_60 ?_
        refine x_aload_n 63 C dX7_gapsOf_63 rfl 0 rfl ?_
        refine gX7_order 64 C kw_808 dX7_gapsOf_64 ?_
        refine x_iload 67 C dX7_gapsOf_67 4 rfl ?_
        obtain ⟨hg4, h⟩ := xif_some h
        refine r_iald15 69 C hg4 dX7_gapsOf_69 ?_
        refine x_callS 70 C 2 (As := [.int (S0.1 0 3), .int (S0.1 15 (xti y4))]) (rest := [.int y3]) (M_X7_is l (ωR D a b) S0 (S0.1 0 3) (S0.1 15 (xti y4))) kw_992 ms_X7_is mh_X7_is ⟨rfl, rfl⟩ ⟨Nat.le_of_ble_eq_true rfl, Nat.le_of_ble_eq_true rfl⟩ rfl rfl (Nat.le_of_ble_eq_true rfl) dX7_gapsOf_70 ?_
        refine x_if_eq 73 C 80 dX7_gapsOf_73 rfl h (fun h => ?_) (fun h => ?_)
        · refine x_iconst 80 C dX7_gapsOf_80 ci_1 ?_
          refine x_iadd 81 C dX7_gapsOf_81 ?_
          refine x_top h (fun v3_5 h => ?_)
          refine x_istore_n 82 C (lv' := [(0, .ref (a 0)), (1, .int c1), (2, .int y2), (3, .int v3_5), (4, .int y4)]) dX7_gapsOf_82 rfl (Nat.le_of_ble_eq_true rfl) [1, 2, 3, 0, 4] rfl ?_
          refine x_iinc 83 C (L := fun v4_6 => [(0, .ref (a 0)), (1, .int c1), (2, .int y2), (3, .int v3_5), (4, .int v4_6)]) dX7_gapsOf_83 4 rfl ci_1 (Nat.le_of_ble_eq_true rfl) [1, 2, 3, 4, 0] (fun _ => rfl) h (fun v4_6 h => ?_)
          refine x_goto 86 C 7 dX7_gapsOf_86 rfl ?_
          exact ih _ h
        · refine x_iconst 76 C dX7_gapsOf_76 ci_0 ?_
          refine x_goto 77 C 81 dX7_gapsOf_77 rfl ?_
          refine x_iadd 81 C dX7_gapsOf_81 ?_
          refine x_top h (fun v3_7 h => ?_)
          refine x_istore_n 82 C (lv' := [(0, .ref (a 0)), (1, .int c1), (2, .int y2), (3, .int v3_7), (4, .int y4)]) dX7_gapsOf_82 rfl (Nat.le_of_ble_eq_true rfl) [1, 2, 3, 0, 4] rfl ?_
          refine x_iinc 83 C (L := fun v4_8 => [(0, .ref (a 0)), (1, .int c1), (2, .int y2), (3, .int v3_7), (4, .int v4_8)]) dX7_gapsOf_83 4 rfl ci_1 (Nat.le_of_ble_eq_true rfl) [1, 2, 3, 4, 0] (fun _ => rfl) h (fun v4_8 h => ?_)
          refine x_goto 86 C 7 dX7_gapsOf_86 rfl ?_
          exact ih _ h
    · refine x_iload_n 35 C dX7_gapsOf_35 rfl 2 rfl ?_
      refine x_iload_n 36 C dX7_gapsOf_36 rfl 3 rfl ?_
      refine x_iconst 37 C dX7_gapsOf_37 ci_m1 ?_
      refine x_join (P := fun t9 => XAt (ωR D a b) Γ 46 [(0, .ref (a 0)), (1, .int c1), (4, .int y4)] [.int t9, .int y2] S0) h (fun t9 h => ?_) (fun j10 hj10 h => ?_)
      · refine x_iadd 46 C dX7_gapsOf_46 ?_
        refine x_top h (fun v2_11 h => ?_)
        refine x_istore_n 47 C (lv' := [(0, .ref (a 0)), (1, .int c1), (2, .int v2_11), (4, .int y4)]) dX7_gapsOf_47 rfl (Nat.le_of_ble_eq_true rfl) [1, 2, 0, 3] rfl ?_
        refine x_iconst 48 C dX7_gapsOf_48 ci_0 ?_
        refine x_istore_n 49 C (lv' := [(0, .ref (a 0)), (1, .int c1), (2, .int v2_11), (3, .int 0), (4, .int y4)]) dX7_gapsOf_49 rfl (Nat.le_of_ble_eq_true rfl) [1, 2, 3, 0, 4] rfl ?_
        refine x_goto 50 C 83 dX7_gapsOf_50 rfl ?_
        refine x_iinc 83 C (L := fun v4_12 => [(0, .ref (a 0)), (1, .int c1), (2, .int v2_11), (3, .int 0), (4, .int v4_12)]) dX7_gapsOf_83 4 rfl ci_1 (Nat.le_of_ble_eq_true rfl) [1, 2, 3, 4, 0] (fun _ => rfl) h (fun v4_12 h => ?_)
        refine x_goto 86 C 7 dX7_gapsOf_86 rfl ?_
        exact ih _ h
      refine x_icmp_ne 38 C 45 dX7_gapsOf_38 rfl h (fun h => ?_) (fun h => ?_)
      · refine x_iload_n 45 C dX7_gapsOf_45 rfl 3 rfl ?_
        exact x_sub 46 [0, 1, 4] rfl (hj10 _ h)
      · refine x_iconst 41 C dX7_gapsOf_41 ci_0 ?_
        refine x_goto 42 C 46 dX7_gapsOf_42 rfl ?_
        exact x_sub 46 [0, 1, 4] rfl (hj10 _ h)
set_option maxRecDepth 100000 in
set_option maxHeartbeats 4000000 in
theorem M_X7_gapsOf (l : Launch) (D : va_G) (a : Nat → Nat) (b : Nat → ClassId) (S0 : XSr) (x1 : Int32)  {r9 : Int32} (h : F_X7_gapsOf S0 x1 = some r9) : xM l (ωR D a b) yX7_gapsOf cX7_gapsOf 5 (some .int) rm_X7_gapsOf [.ref (a 0), .int x1] S0 (some (.int r9), S0) := by
  unfold F_X7_gapsOf at h
  refine xM_of (own := "GraveOrderModel") (by decide) rfl (Nat.le_of_ble_eq_true rfl) (fun Γ C => ?_)
  refine x_sub 0 [0, 1] (lv' := [(0, .ref (a 0)), (1, .int x1)]) rfl ?_
  refine x_iconst 0 C dX7_gapsOf_0 ci_0 ?_
  refine x_istore_n 1 C (lv' := [(0, .ref (a 0)), (1, .int x1), (2, .int 0)]) dX7_gapsOf_1 rfl (Nat.le_of_ble_eq_true rfl) [1, 2, 0] rfl ?_
  refine x_iconst 2 C dX7_gapsOf_2 ci_m1 ?_
  refine x_istore_n 3 C (lv' := [(0, .ref (a 0)), (1, .int x1), (2, .int 0), (3, .int (-1))]) dX7_gapsOf_3 rfl (Nat.le_of_ble_eq_true rfl) [1, 2, 3, 0] rfl ?_
  refine x_iconst 4 C dX7_gapsOf_4 ci_0 ?_
  refine x_istore 5 C (lv' := [(0, .ref (a 0)), (1, .int x1), (2, .int 0), (3, .int (-1)), (4, .int 0)]) dX7_gapsOf_5 (Nat.le_of_ble_eq_true rfl) [1, 2, 3, 4, 0] rfl ?_
  refine x_loop (E := fun e => XAt (ωR D a b) Γ 89 [(2, .int e)] [] S0) (P := fun t => XAt (ωR D a b) Γ 7 [(0, .ref (a 0)), (1, .int x1), (2, .int t.1), (3, .int t.2.1), (4, .int t.2.2)] [] S0) h (fun e13 h => ?_) (fun kx rc t hk ih h => w_X7_gapsOf_7 l D a b S0 C   x1 kx rc hk ih t.1 t.2.1 t.2.2 h)
  refine x_iload_n 89 C dX7_gapsOf_89 rfl 0 rfl ?_
  exact x_iret 90 C dX7_gapsOf_90 (Option.some.inj h) rfl
/-! GraveOrderModel.gapsNow ()I -/
def B_X7_gapsNow_4 (S0 : XSr)  (kx : Int32 → Option Int32) (rc : (Int32 × Int32) → Option Int32) (y1 : Int32) (y2 : Int32) : Option Int32 :=
  (if 10 ≤ y2 then kx y1 else (if xin y2 10 = true then (if (S0.1 3 (xti y2)) = 0 then (xlet (y1 + (0 : Int32)) fun v1_6 => (xlet (y2 + 1) fun v2_7 => rc (v1_6, v2_7))) else (if xin y2 10 = true then ((F_X7_gapsOf S0 y2).bind fun z3 => (xlet (y1 + ((S0.1 3 (xti y2)) * z3)) fun v1_4 => (xlet (y2 + 1) fun v2_5 => rc (v1_4, v2_5)))) else none)) else none))
def F_X7_gapsNow (S0 : XSr)  : (Option Int32) :=
  (xlp (fun k rc t => B_X7_gapsNow_4 S0   k rc t.1 t.2) (fun e8 => (some e8)) XFU (0, 0))
abbrev rm_X7_gapsNow : Room := { frames := 2, cells := 0, slots := 0, locals := 45 }
set_option maxRecDepth 100000 in
set_option maxHeartbeats 4000000 in
theorem w_X7_gapsNow_4 (l : Launch) (D : va_G) (a : Nat → Nat) (b : Nat → ClassId) (S0 : XSr) {Γ : XG XSr} {r9 : Int32} (C : Cx (ωR D a b) Γ cX7_gapsNow "GraveOrderModel" (some .int) l rm_X7_gapsNow 3 (some (.int r9), S0))   (kx : Int32 → Option Int32) (rc : (Int32 × Int32) → Option Int32) (hk : ∀ e, kx e = some r9 → XAt (ωR D a b) Γ 44 [(1, .int e)] [] S0) (ih : ∀ t, rc t = some r9 → XAt (ωR D a b) Γ 4 [(0, .ref (a 0)), (1, .int t.1), (2, .int t.2)] [] S0) (y1 : Int32) (y2 : Int32) (h : B_X7_gapsNow_4 S0   kx rc y1 y2 = some r9) : XAt (ωR D a b) Γ 4 [(0, .ref (a 0)), (1, .int y1), (2, .int y2)] [] S0 := by
  unfold B_X7_gapsNow_4 at h
  refine x_iload_n 4 C dX7_gapsNow_4 rfl 2 rfl ?_
  refine x_bipush 5 C dX7_gapsNow_5 cb_10 ?_
  refine x_icmp_ge 7 C 44 dX7_gapsNow_7 rfl h (fun h => ?_) (fun h => ?_)
  · exact x_sub 44 [1] rfl (hk _ h)
  · refine x_iload_n 10 C dX7_gapsNow_10 rfl 1 rfl ?_
    refine x_aload_n 11 C dX7_gapsNow_11 rfl 0 rfl ?_
    refine gX7_weights 12 C kw_790 dX7_gapsNow_12 ?_
    refine x_iload_n 15 C dX7_gapsNow_15 rfl 2 rfl ?_
    obtain ⟨hg1, h⟩ := xif_some h
    refine r_iald3 16 C hg1 dX7_gapsNow_16 ?_
    refine x_if_ne 17 C 24 dX7_gapsNow_17 rfl h (fun h => ?_) (fun h => ?_)
    · refine x_aload_n 24 C dX7_gapsNow_24 rfl 0 rfl ?_
      refine gX7_weights 25 C kw_790 dX7_gapsNow_25 ?_
      refine x_iload_n 28 C dX7_gapsNow_28 rfl 2 rfl ?_
      obtain ⟨hg2, h⟩ := xif_some h
      refine r_iald3 29 C hg2 dX7_gapsNow_29 ?_
      refine x_aload_n 30 C dX7_gapsNow_30 rfl 0 rfl ?_
      refine x_iload_n 31 C dX7_gapsNow_31 rfl 2 rfl ?_
      obtain ⟨z3, hz3, h⟩ := xbind_some h
      refine x_callV 32 C (q0 := 0) (ci := 7) 1 (As := [.int y2]) (rest := [.int (S0.1 3 (xti y2)), .int y1]) (M_X7_gapsOf l D a b S0 y2  hz3) (by rfl) rfl kw_999 mv_X7_gapsOf mh_X7_gapsOf ⟨rfl, rfl⟩ ⟨Nat.le_of_ble_eq_true rfl, Nat.le_of_ble_eq_true rfl⟩ rfl rfl (Nat.le_of_ble_eq_true rfl) dX7_gapsNow_32 ?_
      refine x_imul 35 C dX7_gapsNow_35 ?_
      refine x_iadd 36 C dX7_gapsNow_36 ?_
      refine x_top h (fun v1_4 h => ?_)
      refine x_istore_n 37 C (lv' := [(0, .ref (a 0)), (1, .int v1_4), (2, .int y2)]) dX7_gapsNow_37 rfl (Nat.le_of_ble_eq_true rfl) [1, 0, 2] rfl ?_
      refine x_iinc 38 C (L := fun v2_5 => [(0, .ref (a 0)), (1, .int v1_4), (2, .int v2_5)]) dX7_gapsNow_38 2 rfl ci_1 (Nat.le_of_ble_eq_true rfl) [1, 2, 0] (fun _ => rfl) h (fun v2_5 h => ?_)
      refine x_goto 41 C 4 dX7_gapsNow_41 rfl ?_
      exact ih _ h
    · refine x_iconst 20 C dX7_gapsNow_20 ci_0 ?_
      refine x_goto 21 C 36 dX7_gapsNow_21 rfl ?_
      refine x_iadd 36 C dX7_gapsNow_36 ?_
      refine x_top h (fun v1_6 h => ?_)
      refine x_istore_n 37 C (lv' := [(0, .ref (a 0)), (1, .int v1_6), (2, .int y2)]) dX7_gapsNow_37 rfl (Nat.le_of_ble_eq_true rfl) [1, 0, 2] rfl ?_
      refine x_iinc 38 C (L := fun v2_7 => [(0, .ref (a 0)), (1, .int v1_6), (2, .int v2_7)]) dX7_gapsNow_38 2 rfl ci_1 (Nat.le_of_ble_eq_true rfl) [1, 2, 0] (fun _ => rfl) h (fun v2_7 h => ?_)
      refine x_goto 41 C 4 dX7_gapsNow_41 rfl ?_
      exact ih _ h
set_option maxRecDepth 100000 in
set_option maxHeartbeats 4000000 in
theorem M_X7_gapsNow (l : Launch) (D : va_G) (a : Nat → Nat) (b : Nat → ClassId) (S0 : XSr)   {r9 : Int32} (h : F_X7_gapsNow S0 = some r9) : xM l (ωR D a b) yX7_gapsNow cX7_gapsNow 3 (some .int) rm_X7_gapsNow [.ref (a 0)] S0 (some (.int r9), S0) := by
  unfold F_X7_gapsNow at h
  refine xM_of (own := "GraveOrderModel") (by decide) rfl (Nat.le_of_ble_eq_true rfl) (fun Γ C => ?_)
  refine x_sub 0 [0] (lv' := [(0, .ref (a 0))]) rfl ?_
  refine x_iconst 0 C dX7_gapsNow_0 ci_0 ?_
  refine x_istore_n 1 C (lv' := [(0, .ref (a 0)), (1, .int 0)]) dX7_gapsNow_1 rfl (Nat.le_of_ble_eq_true rfl) [1, 0] rfl ?_
  refine x_iconst 2 C dX7_gapsNow_2 ci_0 ?_
  refine x_istore_n 3 C (lv' := [(0, .ref (a 0)), (1, .int 0), (2, .int 0)]) dX7_gapsNow_3 rfl (Nat.le_of_ble_eq_true rfl) [1, 2, 0] rfl ?_
  refine x_loop (E := fun e => XAt (ωR D a b) Γ 44 [(1, .int e)] [] S0) (P := fun t => XAt (ωR D a b) Γ 4 [(0, .ref (a 0)), (1, .int t.1), (2, .int t.2)] [] S0) h (fun e8 h => ?_) (fun kx rc t hk ih h => w_X7_gapsNow_4 l D a b S0 C    kx rc hk ih t.1 t.2 h)
  refine x_iload_n 44 C dX7_gapsNow_44 rfl 0 rfl ?_
  exact x_iret 45 C dX7_gapsNow_45 (Option.some.inj h) rfl
/-! GraveOrderModel.canBe ()Z -/
def B_X7_canBe_61 (S0 : XSr) (c1 : Int32) (c2 : Int32) (c3 : Int32) (c4 : Int32) (kx : Unit → Option Int32) (rc : Int32 → Option Int32) (y5 : Int32) : Option Int32 :=
  (if (S0.1 0 5) ≤ y5 then kx () else (if xin y5 16 = true then (if (S0.1 4 (xti y5)) = c4 then (if xin y5 16 = true then (if (F_X7_is c2 (S0.1 5 (xti y5))) = 0 then (some 0) else (xlet (y5 + 1) fun v5_10 => rc v5_10)) else none) else (xlet (y5 + 1) fun v5_8 => rc v5_8)) else none))
def B_X7_canBe_6 (S0 : XSr)  (kx : Unit → Option Int32) (rc : (Int32 × Int32 × Int32) → Option Int32) (y1 : Int32) (y2 : Int32) (y3 : Int32) : Option Int32 :=
  (if (S0.1 0 0) ≤ y3 then kx () else (if xin y3 8 = true then (xlet (S0.1 15 (xti y3)) fun v4_2 => (if xin v4_2 8 = true then (xlet (fun (t4 : Int32) => (if xin v4_2 8 = true then (if t4 ≤ (S0.1 2 (xti v4_2)) then (xlp (fun k rc t => B_X7_canBe_61 S0  t4 y2 y3 v4_2 k rc t) (fun e11 => (xlet (y2 ||| ((1 : Int32) <<< (v4_2 &&& 31))) fun v2_12 => (xlet (y3 + 1) fun v3_13 => rc (t4, v2_12, v3_13)))) XFU 0) else (some 0)) else none)) fun j5 => (if (S0.1 1 (xti v4_2)) ≤ y1 then j5 y1 else (if xin v4_2 8 = true then j5 (S0.1 1 (xti v4_2)) else none))) else none)) else none))
def F_X7_canBe (S0 : XSr)  : (Option Int32) :=
  (xlp (fun k rc t => B_X7_canBe_6 S0   k rc t.1 t.2.1 t.2.2) (fun e15 => (some 1)) XFU (0, 0, 0))
abbrev rm_X7_canBe : Room := { frames := 1, cells := 0, slots := 0, locals := 21 }
set_option maxRecDepth 100000 in
set_option maxHeartbeats 4000000 in
theorem w_X7_canBe_61 (l : Launch) (D : va_G) (a : Nat → Nat) (b : Nat → ClassId) (S0 : XSr) {Γ : XG XSr} {r9 : Int32} (C : Cx (ωR D a b) Γ cX7_canBe "GraveOrderModel" (some .boolean) l rm_X7_canBe 6 (some (.int r9), S0)) (c1 : Int32) (c2 : Int32) (c3 : Int32) (c4 : Int32)  (kx : Unit → Option Int32) (rc : Int32 → Option Int32) (hk : ∀ e, kx e = some r9 → XAt (ωR D a b) Γ 104 [(0, .ref (a 0)), (1, .int c1), (2, .int c2), (3, .int c3), (4, .int c4)] [] S0) (ih : ∀ t, rc t = some r9 → XAt (ωR D a b) Γ 61 [(0, .ref (a 0)), (1, .int c1), (2, .int c2), (3, .int c3), (4, .int c4), (5, .int t)] [] S0) (y5 : Int32) (h : B_X7_canBe_61 S0  c1 c2 c3 c4 kx rc y5 = some r9) : XAt (ωR D a b) Γ 61 [(0, .ref (a 0)), (1, .int c1), (2, .int c2), (3, .int c3), (4, .int c4), (5, .int y5)] [] S0 := by
  unfold B_X7_canBe_61 at h
  refine x_iload 61 C dX7_canBe_61 5 rfl ?_
  refine x_aload_n 63 C dX7_canBe_63 rfl 0 rfl ?_
  refine gX7_overs 64 C kw_791 dX7_canBe_64 ?_
  refine x_icmp_ge 67 C 104 dX7_canBe_67 rfl h (fun h => ?_) (fun h => ?_)
  · exact x_sub 104 [0, 1, 2, 3, 4] rfl (hk _ h)
  · refine x_aload_n 70 C dX7_canBe_70 rfl 0 rfl ?_
    refine gX7_upper 71 C kw_792 dX7_canBe_71 ?_
    refine x_iload 74 C dX7_canBe_74 5 rfl ?_
    obtain ⟨hg7, h⟩ := xif_some h
    refine r_iald4 76 C hg7 dX7_canBe_76 ?_
    refine x_iload 77 C dX7_canBe_77 4 rfl ?_
    refine x_icmp_ne 79 C 98 dX7_canBe_79 rfl h (fun h => ?_) (fun h => ?_)
    · refine x_iinc 98 C (L := fun v5_8 => [(0, .ref (a 0)), (1, .int c1), (2, .int c2), (3, .int c3), (4, .int c4), (5, .int v5_8)]) dX7_canBe_98 5 rfl ci_1 (Nat.le_of_ble_eq_true rfl) [1, 2, 3, 4, 5, 0] (fun _ => rfl) h (fun v5_8 h => ?_)
      refine x_goto 101 C 61 dX7_canBe_101 rfl ?_
      exact ih _ h
    · refine x_iload_n 82 C dX7_canBe_82 rfl 2 rfl ?_
      refine x_aload_n 83 C dX7_canBe_83 rfl 0 rfl ?_
      refine gX7_lower 84 C kw_793 dX7_canBe_84 ?_
      refine x_iload 87 C dX7_canBe_87 5 rfl ?_
      obtain ⟨hg9, h⟩ := xif_some h
      refine r_iald5 89 C hg9 dX7_canBe_89 ?_
      refine x_callS 90 C 2 (As := [.int c2, .int (S0.1 5 (xti y5))]) (rest := []) (M_X7_is l (ωR D a b) S0 c2 (S0.1 5 (xti y5))) kw_992 ms_X7_is mh_X7_is ⟨rfl, rfl⟩ ⟨Nat.le_of_ble_eq_true rfl, Nat.le_of_ble_eq_true rfl⟩ rfl rfl (Nat.le_of_ble_eq_true rfl) dX7_canBe_90 ?_
      refine x_if_ne 93 C 98 dX7_canBe_93 rfl h (fun h => ?_) (fun h => ?_)
      · refine x_iinc 98 C (L := fun v5_10 => [(0, .ref (a 0)), (1, .int c1), (2, .int c2), (3, .int c3), (4, .int c4), (5, .int v5_10)]) dX7_canBe_98 5 rfl ci_1 (Nat.le_of_ble_eq_true rfl) [1, 2, 3, 4, 5, 0] (fun _ => rfl) h (fun v5_10 h => ?_)
        refine x_goto 101 C 61 dX7_canBe_101 rfl ?_
        exact ih _ h
      · refine x_iconst 96 C dX7_canBe_96 ci_0 ?_
        exact x_zret 97 C dX7_canBe_97 rfl (Option.some.inj h) rfl
set_option maxRecDepth 100000 in
set_option maxHeartbeats 4000000 in
theorem w_X7_canBe_6 (l : Launch) (D : va_G) (a : Nat → Nat) (b : Nat → ClassId) (S0 : XSr) {Γ : XG XSr} {r9 : Int32} (C : Cx (ωR D a b) Γ cX7_canBe "GraveOrderModel" (some .boolean) l rm_X7_canBe 6 (some (.int r9), S0))   (kx : Unit → Option Int32) (rc : (Int32 × Int32 × Int32) → Option Int32) (hk : ∀ e, kx e = some r9 → XAt (ωR D a b) Γ 117 [] [] S0) (ih : ∀ t, rc t = some r9 → XAt (ωR D a b) Γ 6 [(0, .ref (a 0)), (1, .int t.1), (2, .int t.2.1), (3, .int t.2.2)] [] S0) (y1 : Int32) (y2 : Int32) (y3 : Int32) (h : B_X7_canBe_6 S0   kx rc y1 y2 y3 = some r9) : XAt (ωR D a b) Γ 6 [(0, .ref (a 0)), (1, .int y1), (2, .int y2), (3, .int y3)] [] S0 := by
  unfold B_X7_canBe_6 at h
  refine x_iload_n 6 C dX7_canBe_6 rfl 3 rfl ?_
  refine x_aload_n 7 C dX7_canBe_7 rfl 0 rfl ?_
  refine gX7_graves 8 C kw_786 dX7_canBe_8 ?_
  refine x_icmp_ge 11 C 117 dX7_canBe_11 rfl h (fun h => ?_) (fun h => ?_)
  · exact x_sub 117 [] rfl (hk _ h)
  · refine x_aload_n 14 C dX7_canBe_14 rfl 0 rfl ?_
    refine gX7_order 15 C kw_808 dX7_canBe_15 ?_
    refine x_iload_n 18 C dX7_canBe_18 rfl 3 rfl ?_
    obtain ⟨hg1, h⟩ := xif_some h
    refine r_iald15 19 C hg1 dX7_canBe_19 ?_
    refine x_top h (fun v4_2 h => ?_)
    refine x_istore 20 C (lv' := [(0, .ref (a 0)), (1, .int y1), (2, .int y2), (3, .int y3), (4, .int v4_2)]) dX7_canBe_20 (Nat.le_of_ble_eq_true rfl) [1, 2, 3, 4, 0] rfl ?_
    refine x_aload_n 22 C dX7_canBe_22 rfl 0 rfl ?_
    refine gX7_from 23 C kw_787 dX7_canBe_23 ?_
    refine x_iload 26 C dX7_canBe_26 4 rfl ?_
    obtain ⟨hg3, h⟩ := xif_some h
    refine r_iald1 28 C hg3 dX7_canBe_28 ?_
    refine x_iload_n 29 C dX7_canBe_29 rfl 1 rfl ?_
    refine x_join (P := fun t4 => XAt (ωR D a b) Γ 44 [(0, .ref (a 0)), (2, .int y2), (3, .int y3), (4, .int v4_2)] [.int t4] S0) h (fun t4 h => ?_) (fun j5 hj5 h => ?_)
    · refine x_istore_n 44 C (lv' := [(0, .ref (a 0)), (1, .int t4), (2, .int y2), (3, .int y3), (4, .int v4_2)]) dX7_canBe_44 rfl (Nat.le_of_ble_eq_true rfl) [1, 0, 2, 3, 4] rfl ?_
      refine x_iload_n 45 C dX7_canBe_45 rfl 1 rfl ?_
      refine x_aload_n 46 C dX7_canBe_46 rfl 0 rfl ?_
      refine gX7_to 47 C kw_788 dX7_canBe_47 ?_
      refine x_iload 50 C dX7_canBe_50 4 rfl ?_
      obtain ⟨hg6, h⟩ := xif_some h
      refine r_iald2 52 C hg6 dX7_canBe_52 ?_
      refine x_icmp_le 53 C 58 dX7_canBe_53 rfl h (fun h => ?_) (fun h => ?_)
      · refine x_iconst 58 C dX7_canBe_58 ci_0 ?_
        refine x_istore 59 C (lv' := [(0, .ref (a 0)), (1, .int t4), (2, .int y2), (3, .int y3), (4, .int v4_2), (5, .int 0)]) dX7_canBe_59 (Nat.le_of_ble_eq_true rfl) [1, 2, 3, 4, 5, 0] rfl ?_
        refine x_loop (E := fun e => XAt (ωR D a b) Γ 104 [(0, .ref (a 0)), (1, .int t4), (2, .int y2), (3, .int y3), (4, .int v4_2)] [] S0) (P := fun t => XAt (ωR D a b) Γ 61 [(0, .ref (a 0)), (1, .int t4), (2, .int y2), (3, .int y3), (4, .int v4_2), (5, .int t)] [] S0) h (fun e11 h => ?_) (fun kx rc t hk ih h => w_X7_canBe_61 l D a b S0 C   t4 y2 y3 v4_2 kx rc hk ih t h)
        refine x_iload_n 104 C dX7_canBe_104 rfl 2 rfl ?_
        refine x_iconst 105 C dX7_canBe_105 ci_1 ?_
        refine x_iload 106 C dX7_canBe_106 4 rfl ?_
        refine x_ishl 108 C dX7_canBe_108 ?_
        refine x_ior 109 C dX7_canBe_109 ?_
        refine x_top h (fun v2_12 h => ?_)
        refine x_istore_n 110 C (lv' := [(0, .ref (a 0)), (1, .int t4), (2, .int v2_12), (3, .int y3)]) dX7_canBe_110 rfl (Nat.le_of_ble_eq_true rfl) [1, 2, 0, 3] rfl ?_
        refine x_iinc 111 C (L := fun v3_13 => [(0, .ref (a 0)), (1, .int t4), (2, .int v2_12), (3, .int v3_13)]) dX7_canBe_111 3 rfl ci_1 (Nat.le_of_ble_eq_true rfl) [1, 2, 3, 0] (fun _ => rfl) h (fun v3_13 h => ?_)
        refine x_goto 114 C 6 dX7_canBe_114 rfl ?_
        exact ih _ h
      · refine x_iconst 56 C dX7_canBe_56 ci_0 ?_
        exact x_zret 57 C dX7_canBe_57 rfl (Option.some.inj h) rfl
    refine x_icmp_le 30 C 43 dX7_canBe_30 rfl h (fun h => ?_) (fun h => ?_)
    · refine x_iload_n 43 C dX7_canBe_43 rfl 1 rfl ?_
      exact x_sub 44 [0, 2, 3, 4] rfl (hj5 _ h)
    · refine x_aload_n 33 C dX7_canBe_33 rfl 0 rfl ?_
      refine gX7_from 34 C kw_787 dX7_canBe_34 ?_
      refine x_iload 37 C dX7_canBe_37 4 rfl ?_
      obtain ⟨hg14, h⟩ := xif_some h
      refine r_iald1 39 C hg14 dX7_canBe_39 ?_
      refine x_goto 40 C 44 dX7_canBe_40 rfl ?_
      exact x_sub 44 [0, 2, 3, 4] rfl (hj5 _ h)
set_option maxRecDepth 100000 in
set_option maxHeartbeats 4000000 in
theorem M_X7_canBe (l : Launch) (D : va_G) (a : Nat → Nat) (b : Nat → ClassId) (S0 : XSr)   {r9 : Int32} (h : F_X7_canBe S0 = some r9) : xM l (ωR D a b) yX7_canBe cX7_canBe 6 (some .boolean) rm_X7_canBe [.ref (a 0)] S0 (some (.int r9), S0) := by
  unfold F_X7_canBe at h
  refine xM_of (own := "GraveOrderModel") (by decide) rfl (Nat.le_of_ble_eq_true rfl) (fun Γ C => ?_)
  refine x_sub 0 [0] (lv' := [(0, .ref (a 0))]) rfl ?_
  refine x_iconst 0 C dX7_canBe_0 ci_0 ?_
  refine x_istore_n 1 C (lv' := [(0, .ref (a 0)), (1, .int 0)]) dX7_canBe_1 rfl (Nat.le_of_ble_eq_true rfl) [1, 0] rfl ?_
  refine x_iconst 2 C dX7_canBe_2 ci_0 ?_
  refine x_istore_n 3 C (lv' := [(0, .ref (a 0)), (1, .int 0), (2, .int 0)]) dX7_canBe_3 rfl (Nat.le_of_ble_eq_true rfl) [1, 2, 0] rfl ?_
  refine x_iconst 4 C dX7_canBe_4 ci_0 ?_
  refine x_istore_n 5 C (lv' := [(0, .ref (a 0)), (1, .int 0), (2, .int 0), (3, .int 0)]) dX7_canBe_5 rfl (Nat.le_of_ble_eq_true rfl) [1, 2, 3, 0] rfl ?_
  refine x_loop (E := fun e => XAt (ωR D a b) Γ 117 [] [] S0) (P := fun t => XAt (ωR D a b) Γ 6 [(0, .ref (a 0)), (1, .int t.1), (2, .int t.2.1), (3, .int t.2.2)] [] S0) h (fun e15 h => ?_) (fun kx rc t hk ih h => w_X7_canBe_6 l D a b S0 C    kx rc hk ih t.1 t.2.1 t.2.2 h)
  refine x_iconst 117 C dX7_canBe_117 ci_1 ?_
  exact x_zret 118 C dX7_canBe_118 rfl (Option.some.inj h) rfl
