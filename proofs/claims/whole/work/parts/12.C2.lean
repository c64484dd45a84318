/-! GraveOrder$Yard.allFinds ()I -/
def B_X5_allFinds_4 (S0 : XSt)  (kx : Int32 → Option Int32) (rc : (Int32 × Int32) → Option Int32) (y1 : Int32) (y2 : Int32) : Option Int32 :=
  (if (S0 1 4) ≤ y2 then kx y1 else (if xin y2 8 = true then (xlet (y1 + (F_J6_bitCount_0f7a4 (S0 10 (xti y2)))) fun v1_2 => (xlet (y2 + 1) fun v2_3 => rc (v1_2, v2_3))) else none))
def F_X5_allFinds (S0 : XSt)  : (Option Int32) :=
  (xlp (fun k rc t => B_X5_allFinds_4 S0   k rc t.1 t.2) (fun e4 => (some e4)) XFU (0, 0))
abbrev rm_X5_allFinds : Room := { frames := 1, cells := 0, slots := 0, locals := 20 }
set_option maxRecDepth 100000 in
set_option maxHeartbeats 4000000 in
theorem w_X5_allFinds_4 (l : Launch) (D : va_G) (a : Nat → Nat) (b : Nat → ClassId) (S0 : XSt) {Γ : XG XSt} {r9 : Int32} (C : Cx (ωC D a b) Γ cX5_allFinds "GraveOrder$Yard" (some .int) l rm_X5_allFinds 3 (some (.int r9), S0))   (kx : Int32 → Option Int32) (rc : (Int32 × Int32) → Option Int32) (hk : ∀ e, kx e = some r9 → XAt (ωC D a b) Γ 30 [(1, .int e)] [] S0) (ih : ∀ t, rc t = some r9 → XAt (ωC D a b) Γ 4 [(0, .ref (a 1)), (1, .int t.1), (2, .int t.2)] [] S0) (y1 : Int32) (y2 : Int32) (h : B_X5_allFinds_4 S0   kx rc y1 y2 = some r9) : XAt (ωC D a b) Γ 4 [(0, .ref (a 1)), (1, .int y1), (2, .int y2)] [] S0 := by
  unfold B_X5_allFinds_4 at h
  refine x_iload_n 4 C dX5_allFinds_4 rfl 2 rfl ?_
  refine x_aload_n 5 C dX5_allFinds_5 rfl 0 rfl ?_
  refine gX5_graves 6 C kw_103 dX5_allFinds_6 ?_
  refine x_icmp_ge 9 C 30 dX5_allFinds_9 rfl h (fun h => ?_) (fun h => ?_)
  · exact x_sub 30 [1] rfl (hk _ h)
  · refine x_iload_n 12 C dX5_allFinds_12 rfl 1 rfl ?_
    refine x_aload_n 13 C dX5_allFinds_13 rfl 0 rfl ?_
    refine gX5_kinds 14 C kw_99 dX5_allFinds_14 ?_
    refine x_iload_n 17 C dX5_allFinds_17 rfl 2 rfl ?_
    obtain ⟨hg1, h⟩ := xif_some h
    refine c_iald 18 C (n := 8) rfl hg1 dX5_allFinds_18 ?_
    refine x_callS 19 C 1 (As := [.int (S0 10 (xti y2))]) (rest := [.int y1]) (M_J6_bitCount_0f7a4 l (ωC D a b) S0 (S0 10 (xti y2))) kw_337 ms_J6_bitCount_0f7a4 mh_J6_bitCount_0f7a4 ⟨rfl, rfl⟩ ⟨Nat.le_of_ble_eq_true rfl, Nat.le_of_ble_eq_true rfl⟩ rfl rfl (Nat.le_of_ble_eq_true rfl) dX5_allFinds_19 ?_
    refine x_iadd 22 C dX5_allFinds_22 ?_
    refine x_top h (fun v1_2 h => ?_)
    refine x_istore_n 23 C (lv' := [(0, .ref (a 1)), (1, .int v1_2), (2, .int y2)]) dX5_allFinds_23 rfl (Nat.le_of_ble_eq_true rfl) [1, 0, 2] rfl ?_
    refine x_iinc 24 C (L := fun v2_3 => [(0, .ref (a 1)), (1, .int v1_2), (2, .int v2_3)]) dX5_allFinds_24 2 rfl ci_1 (Nat.le_of_ble_eq_true rfl) [1, 2, 0] (fun _ => rfl) h (fun v2_3 h => ?_)
    refine x_goto 27 C 4 dX5_allFinds_27 rfl ?_
    exact ih _ h
set_option maxRecDepth 100000 in
set_option maxHeartbeats 4000000 in
theorem M_X5_allFinds (l : Launch) (D : va_G) (a : Nat → Nat) (b : Nat → ClassId) (S0 : XSt)   {r9 : Int32} (h : F_X5_allFinds S0 = some r9) : xM l (ωC D a b) yX5_allFinds cX5_allFinds 3 (some .int) rm_X5_allFinds [.ref (a 1)] S0 (some (.int r9), S0) := by
  unfold F_X5_allFinds at h
  refine xM_of (own := "GraveOrder$Yard") (by decide) rfl (Nat.le_of_ble_eq_true rfl) (fun Γ C => ?_)
  refine x_sub 0 [0] (lv' := [(0, .ref (a 1))]) rfl ?_
  refine x_iconst 0 C dX5_allFinds_0 ci_0 ?_
  refine x_istore_n 1 C (lv' := [(0, .ref (a 1)), (1, .int 0)]) dX5_allFinds_1 rfl (Nat.le_of_ble_eq_true rfl) [1, 0] rfl ?_
  refine x_iconst 2 C dX5_allFinds_2 ci_0 ?_
  refine x_istore_n 3 C (lv' := [(0, .ref (a 1)), (1, .int 0), (2, .int 0)]) dX5_allFinds_3 rfl (Nat.le_of_ble_eq_true rfl) [1, 2, 0] rfl ?_
  refine x_loop (E := fun e => XAt (ωC D a b) Γ 30 [(1, .int e)] [] S0) (P := fun t => XAt (ωC D a b) Γ 4 [(0, .ref (a 1)), (1, .int t.1), (2, .int t.2)] [] S0) h (fun e4 h => ?_) (fun kx rc t hk ih h => w_X5_allFinds_4 l D a b S0 C    kx rc hk ih t.1 t.2 h)
  refine x_iload_n 30 C dX5_allFinds_30 rfl 0 rfl ?_
  exact x_iret 31 C dX5_allFinds_31 (Option.some.inj h) rfl
/-! GraveOrder$Yard.isOrder ([II)Z -/
def B_X5_isOrder_15 (S0 : XSt) (qq1 nn1 : Nat)  (kx : Unit → Option Int32) (rc : (Int32 × Int32) → Option Int32) (y3 : Int32) (y4 : Int32) : Option Int32 :=
  (if (S0 1 4) ≤ y4 then kx () else (if xin y4 nn1 = true then (xlet (S0 qq1 (xti y4)) fun v5_2 => (if v5_2 < 0 then (some 0) else (if (S0 1 4) ≤ v5_2 then (some 0) else (if ((y3 >>> (v5_2 &&& 31)) &&& (1 : Int32)) = 0 then (xlet (y3 ||| ((1 : Int32) <<< (v5_2 &&& 31))) fun v3_3 => (xlet (y4 + 1) fun v4_4 => rc (v3_3, v4_4))) else (some 0))))) else none))
def F_X5_isOrder (S0 : XSt) (q1 n1 : Nat) (x2 : Int32) : (Option Int32) :=
  (if x2 = (S0 1 4) then (xlp (fun k rc t => B_X5_isOrder_15 S0 q1 n1   k rc t.1 t.2) (fun e5 => (some 1)) XFU (0, 0)) else (some 0))
abbrev rm_X5_isOrder : Room := { frames := 0, cells := 0, slots := 0, locals := 0 }
set_option maxRecDepth 100000 in
set_option maxHeartbeats 4000000 in
theorem w_X5_isOrder_15 (l : Launch) (D : va_G) (a : Nat → Nat) (b : Nat → ClassId) (S0 : XSt) {Γ : XG XSt} {r9 : Int32} (C : Cx (ωC D a b) Γ cX5_isOrder "GraveOrder$Yard" (some .boolean) l rm_X5_isOrder 6 (some (.int r9), S0)) (qq1 nn1 : Nat) (hqq1 : iaC qq1 nn1 = true)   (kx : Unit → Option Int32) (rc : (Int32 × Int32) → Option Int32) (hk : ∀ e, kx e = some r9 → XAt (ωC D a b) Γ 68 [] [] S0) (ih : ∀ t, rc t = some r9 → XAt (ωC D a b) Γ 15 [(0, .ref (a 1)), (1, .ref (a qq1)), (3, .int t.1), (4, .int t.2)] [] S0) (y3 : Int32) (y4 : Int32) (h : B_X5_isOrder_15 S0 qq1 nn1   kx rc y3 y4 = some r9) : XAt (ωC D a b) Γ 15 [(0, .ref (a 1)), (1, .ref (a qq1)), (3, .int y3), (4, .int y4)] [] S0 := by
  unfold B_X5_isOrder_15 at h
  refine x_iload 15 C dX5_isOrder_15 3 rfl ?_
  refine x_aload_n 17 C dX5_isOrder_17 rfl 0 rfl ?_
  refine gX5_graves 18 C kw_103 dX5_isOrder_18 ?_
  refine x_icmp_ge 21 C 68 dX5_isOrder_21 rfl h (fun h => ?_) (fun h => ?_)
  · exact x_sub 68 [] rfl (hk _ h)
  · refine x_aload_n 24 C dX5_isOrder_24 rfl 1 rfl ?_
    refine x_iload 25 C dX5_isOrder_25 3 rfl ?_
    obtain ⟨hg1, h⟩ := xif_some h
    refine c_iald 27 C (n := nn1) hqq1 hg1 dX5_isOrder_27 ?_
    refine x_top h (fun v5_2 h => ?_)
    refine x_istore 28 C (lv' := [(0, .ref (a 1)), (1, .ref (a qq1)), (3, .int y3), (4, .int y4), (5, .int v5_2)]) dX5_isOrder_28 (Nat.le_of_ble_eq_true rfl) [1, 2, 3, 4, 0] rfl ?_
    refine x_iload 30 C dX5_isOrder_30 4 rfl ?_
    refine x_if_lt 32 C 53 dX5_isOrder_32 rfl h (fun h => ?_) (fun h => ?_)
    · refine x_iconst 53 C dX5_isOrder_53 ci_0 ?_
      exact x_zret 54 C dX5_isOrder_54 rfl (Option.some.inj h) rfl
    · refine x_iload 35 C dX5_isOrder_35 4 rfl ?_
      refine x_aload_n 37 C dX5_isOrder_37 rfl 0 rfl ?_
      refine gX5_graves 38 C kw_103 dX5_isOrder_38 ?_
      refine x_icmp_ge 41 C 53 dX5_isOrder_41 rfl h (fun h => ?_) (fun h => ?_)
      · refine x_iconst 53 C dX5_isOrder_53 ci_0 ?_
        exact x_zret 54 C dX5_isOrder_54 rfl (Option.some.inj h) rfl
      · refine x_iload_n 44 C dX5_isOrder_44 rfl 2 rfl ?_
        refine x_iload 45 C dX5_isOrder_45 4 rfl ?_
        refine x_ishr 47 C dX5_isOrder_47 ?_
        refine x_iconst 48 C dX5_isOrder_48 ci_1 ?_
        refine x_iand 49 C dX5_isOrder_49 ?_
        refine x_if_eq 50 C 55 dX5_isOrder_50 rfl h (fun h => ?_) (fun h => ?_)
        · refine x_iload_n 55 C dX5_isOrder_55 rfl 2 rfl ?_
          refine x_iconst 56 C dX5_isOrder_56 ci_1 ?_
          refine x_iload 57 C dX5_isOrder_57 4 rfl ?_
          refine x_ishl 59 C dX5_isOrder_59 ?_
          refine x_ior 60 C dX5_isOrder_60 ?_
          refine x_top h (fun v3_3 h => ?_)
          refine x_istore_n 61 C (lv' := [(0, .ref (a 1)), (1, .ref (a qq1)), (3, .int v3_3), (4, .int y4)]) dX5_isOrder_61 rfl (Nat.le_of_ble_eq_true rfl) [1, 2, 0, 3] rfl ?_
          refine x_iinc 62 C (L := fun v4_4 => [(0, .ref (a 1)), (1, .ref (a qq1)), (3, .int v3_3), (4, .int v4_4)]) dX5_isOrder_62 3 rfl ci_1 (Nat.le_of_ble_eq_true rfl) [1, 2, 3, 0] (fun _ => rfl) h (fun v4_4 h => ?_)
          refine x_goto 65 C 15 dX5_isOrder_65 rfl ?_
          exact ih _ h
        · refine x_iconst 53 C dX5_isOrder_53 ci_0 ?_
          exact x_zret 54 C dX5_isOrder_54 rfl (Option.some.inj h) rfl
set_option maxRecDepth 100000 in
set_option maxHeartbeats 4000000 in
theorem M_X5_isOrder (l : Launch) (D : va_G) (a : Nat → Nat) (b : Nat → ClassId) (S0 : XSt) (q1 n1 : Nat) (x2 : Int32) (hq1 : iaC q1 n1 = true) {r9 : Int32} (h : F_X5_isOrder S0 q1 n1 x2 = some r9) : xM l (ωC D a b) yX5_isOrder cX5_isOrder 6 (some .boolean) rm_X5_isOrder [.ref (a 1), .ref (a q1), .int x2] S0 (some (.int r9), S0) := by
  unfold F_X5_isOrder at h
  refine xM_of (own := "GraveOrder$Yard") (by decide) rfl (Nat.le_of_ble_eq_true rfl) (fun Γ C => ?_)
  refine x_sub 0 [0, 1, 2] (lv' := [(0, .ref (a 1)), (1, .ref (a q1)), (2, .int x2)]) rfl ?_
  refine x_iload_n 0 C dX5_isOrder_0 rfl 2 rfl ?_
  refine x_aload_n 1 C dX5_isOrder_1 rfl 0 rfl ?_
  refine gX5_graves 2 C kw_103 dX5_isOrder_2 ?_
  refine x_icmp_eq 5 C 10 dX5_isOrder_5 rfl h (fun h => ?_) (fun h => ?_)
  · refine x_iconst 10 C dX5_isOrder_10 ci_0 ?_
    refine x_istore_n 11 C (lv' := [(0, .ref (a 1)), (1, .ref (a q1)), (3, .int 0)]) dX5_isOrder_11 rfl (Nat.le_of_ble_eq_true rfl) [1, 2, 0] rfl ?_
    refine x_iconst 12 C dX5_isOrder_12 ci_0 ?_
    refine x_istore 13 C (lv' := [(0, .ref (a 1)), (1, .ref (a q1)), (3, .int 0), (4, .int 0)]) dX5_isOrder_13 (Nat.le_of_ble_eq_true rfl) [1, 2, 3, 0] rfl ?_
    refine x_loop (E := fun e => XAt (ωC D a b) Γ 68 [] [] S0) (P := fun t => XAt (ωC D a b) Γ 15 [(0, .ref (a 1)), (1, .ref (a q1)), (3, .int t.1), (4, .int t.2)] [] S0) h (fun e5 h => ?_) (fun kx rc t hk ih h => w_X5_isOrder_15 l D a b S0 C q1 n1  hq1   kx rc hk ih t.1 t.2 h)
    refine x_iconst 68 C dX5_isOrder_68 ci_1 ?_
    exact x_zret 69 C dX5_isOrder_69 rfl (Option.some.inj h) rfl
  · refine x_iconst 8 C dX5_isOrder_8 ci_0 ?_
    exact x_zret 9 C dX5_isOrder_9 rfl (Option.some.inj h) rfl
/-! GraveOrder$Yard.weightOfBoth (II)I -/
def F_X5_weightOfBoth (S0 : XSt) (x1 : Int32) (x2 : Int32) : (Option Int32) :=
  (if xin x1 8 = true then (if xin x2 8 = true then (some (F_X5_weigh S0 ((S0 10 (xti x1)) &&& (S0 10 (xti x2))))) else none) else none)
abbrev rm_X5_weightOfBoth : Room := { frames := 2, cells := 0, slots := 0, locals := 41 }
set_option maxRecDepth 100000 in
set_option maxHeartbeats 4000000 in
theorem M_X5_weightOfBoth (l : Launch) (D : va_G) (a : Nat → Nat) (b : Nat → ClassId) (S0 : XSt) (x1 : Int32) (x2 : Int32)  {r9 : Int32} (h : F_X5_weightOfBoth S0 x1 x2 = some r9) : xM l (ωC D a b) yX5_weightOfBoth cX5_weightOfBoth 3 (some .int) rm_X5_weightOfBoth [.ref (a 1), .int x1, .int x2] S0 (some (.int r9), S0) := by
  unfold F_X5_weightOfBoth at h
  refine xM_of (own := "GraveOrder$Yard") (by decide) rfl (Nat.le_of_ble_eq_true rfl) (fun Γ C => ?_)
  refine x_sub 0 [0, 1, 2] (lv' := [(0, .ref (a 1)), (1, .int x1), (2, .int x2)]) rfl ?_
  refine x_aload_n 0 C dX5_weightOfBoth_0 rfl 0 rfl ?_
  refine x_aload_n 1 C dX5_weightOfBoth_1 rfl 0 rfl ?_
  refine gX5_kinds 2 C kw_99 dX5_weightOfBoth_2 ?_
  refine x_iload_n 5 C dX5_weightOfBoth_5 rfl 1 rfl ?_
  obtain ⟨hg1, h⟩ := xif_some h
  refine c_iald 6 C (n := 8) rfl hg1 dX5_weightOfBoth_6 ?_
  refine x_aload_n 7 C dX5_weightOfBoth_7 rfl 0 rfl ?_
  refine gX5_kinds 8 C kw_99 dX5_weightOfBoth_8 ?_
  refine x_iload_n 11 C dX5_weightOfBoth_11 rfl 2 rfl ?_
  obtain ⟨hg2, h⟩ := xif_some h
  refine c_iald 12 C (n := 8) rfl hg2 dX5_weightOfBoth_12 ?_
  refine x_iand 13 C dX5_weightOfBoth_13 ?_
  refine x_callV 14 C (q0 := 1) (ci := 5) 1 (As := [.int ((S0 10 (xti x1)) &&& (S0 10 (xti x2)))]) (rest := []) (M_X5_weigh l D a b S0 ((S0 10 (xti x1)) &&& (S0 10 (xti x2))) ) (by rfl) rfl kw_333 mv_X5_weigh mh_X5_weigh ⟨rfl, rfl⟩ ⟨Nat.le_of_ble_eq_true rfl, Nat.le_of_ble_eq_true rfl⟩ rfl rfl (Nat.le_of_ble_eq_true rfl) dX5_weightOfBoth_14 ?_
  exact x_iret 17 C dX5_weightOfBoth_17 (Option.some.inj h) rfl
/-! GraveOrder$Yard.weightOfEither (II)I -/
def F_X5_weightOfEither (S0 : XSt) (x1 : Int32) (x2 : Int32) : (Option Int32) :=
  (if xin x1 8 = true then (if xin x2 8 = true then (some (F_X5_weigh S0 ((S0 10 (xti x1)) ||| (S0 10 (xti x2))))) else none) else none)
abbrev rm_X5_weightOfEither : Room := { frames := 2, cells := 0, slots := 0, locals := 41 }
set_option maxRecDepth 100000 in
set_option maxHeartbeats 4000000 in
theorem M_X5_weightOfEither (l : Launch) (D : va_G) (a : Nat → Nat) (b : Nat → ClassId) (S0 : XSt) (x1 : Int32) (x2 : Int32)  {r9 : Int32} (h : F_X5_weightOfEither S0 x1 x2 = some r9) : xM l (ωC D a b) yX5_weightOfEither cX5_weightOfEither 3 (some .int) rm_X5_weightOfEither [.ref (a 1), .int x1, .int x2] S0 (some (.int r9), S0) := by
  unfold F_X5_weightOfEither at h
  refine xM_of (own := "GraveOrder$Yard") (by decide) rfl (Nat.le_of_ble_eq_true rfl) (fun Γ C => ?_)
  refine x_sub 0 [0, 1, 2] (lv' := [(0, .ref (a 1)), (1, .int x1), (2, .int x2)]) rfl ?_
  refine x_aload_n 0 C dX5_weightOfEither_0 rfl 0 rfl ?_
  refine x_aload_n 1 C dX5_weightOfEither_1 rfl 0 rfl ?_
  refine gX5_kinds 2 C kw_99 dX5_weightOfEither_2 ?_
  refine x_iload_n 5 C dX5_weightOfEither_5 rfl 1 rfl ?_
  obtain ⟨hg1, h⟩ := xif_some h
  refine c_iald 6 C (n := 8) rfl hg1 dX5_weightOfEither_6 ?_
  refine x_aload_n 7 C dX5_weightOfEither_7 rfl 0 rfl ?_
  refine gX5_kinds 8 C kw_99 dX5_weightOfEither_8 ?_
  refine x_iload_n 11 C dX5_weightOfEither_11 rfl 2 rfl ?_
  obtain ⟨hg2, h⟩ := xif_some h
  refine c_iald 12 C (n := 8) rfl hg2 dX5_weightOfEither_12 ?_
  refine x_ior 13 C dX5_weightOfEither_13 ?_
  refine x_callV 14 C (q0 := 1) (ci := 5) 1 (As := [.int ((S0 10 (xti x1)) ||| (S0 10 (xti x2)))]) (rest := []) (M_X5_weigh l D a b S0 ((S0 10 (xti x1)) ||| (S0 10 (xti x2))) ) (by rfl) rfl kw_333 mv_X5_weigh mh_X5_weigh ⟨rfl, rfl⟩ ⟨Nat.le_of_ble_eq_true rfl, Nat.le_of_ble_eq_true rfl⟩ rfl rfl (Nat.le_of_ble_eq_true rfl) dX5_weightOfEither_14 ?_
  exact x_iret 17 C dX5_weightOfEither_17 (Option.some.inj h) rfl
/-! GraveOrder$Yard.mostAlike (I)I -/
def B_X5_mostAlike_10 (S0 : XSt) (c1 : Int32) (kx : Int32 → Option Int32) (rc : (Int32 × Int32 × Int32 × Int32) → Option Int32) (y2 : Int32) (y3 : Int32) (y4 : Int32) (y5 : Int32) : Option Int32 :=
  (if (S0 1 4) ≤ y5 then kx y2 else ((F_X5_weightOfEither S0 c1 y5).bind fun z1 => (if y5 = c1 then (xlet (y5 + 1) fun v5_2 => rc (y2, y3, y4, v5_2)) else (if z1 = 0 then (xlet (y5 + 1) fun v5_11 => rc (y2, y3, y4, v5_11)) else ((F_X5_weightOfBoth S0 c1 y5).bind fun z3 => (xlet (fun (t4 : (Int32 × Int32 × Int32)) => (xlet t4.1 fun v2_6 => (xlet t4.2.2 fun v3_7 => (xlet t4.2.1 fun v4_8 => (xlet (t4.1 + 1) fun v5_9 => rc (v2_6, v3_7, v4_8, v5_9)))))) fun j5 => (if y2 = (-1) then j5 (y5, z1, z3) else (if (z3 * y4) ≤ (y3 * z1) then (xlet (y5 + 1) fun v5_10 => rc (y2, y3, y4, v5_10)) else j5 (y5, z1, z3)))))))))
def F_X5_mostAlike (S0 : XSt) (x1 : Int32) : (Option Int32) :=
  (xlp (fun k rc t => B_X5_mostAlike_10 S0  x1 k rc t.1 t.2.1 t.2.2.1 t.2.2.2) (fun e12 => (some e12)) XFU ((-1), 0, 1, 0))
abbrev rm_X5_mostAlike : Room := { frames := 3, cells := 0, slots := 0, locals := 63 }
set_option maxRecDepth 100000 in
set_option maxHeartbeats 4000000 in
theorem w_X5_mostAlike_10 (l : Launch) (D : va_G) (a : Nat → Nat) (b : Nat → ClassId) (S0 : XSt) {Γ : XG XSt} {r9 : Int32} (C : Cx (ωC D a b) Γ cX5_mostAlike "GraveOrder$Yard" (some .int) l rm_X5_mostAlike 8 (some (.int r9), S0)) (c1 : Int32)  (kx : Int32 → Option Int32) (rc : (Int32 × Int32 × Int32 × Int32) → Option Int32) (hk : ∀ e, kx e = some r9 → XAt (ωC D a b) Γ 84 [(2, .int e)] [] S0) (ih : ∀ t, rc t = some r9 → XAt (ωC D a b) Γ 10 [(0, .ref (a 1)), (1, .int c1), (2, .int t.1), (3, .int t.2.1), (4, .int t.2.2.1), (5, .int t.2.2.2)] [] S0) (y2 : Int32) (y3 : Int32) (y4 : Int32) (y5 : Int32) (h : B_X5_mostAlike_10 S0  c1 kx rc y2 y3 y4 y5 = some r9) : XAt (ωC D a b) Γ 10 [(0, .ref (a 1)), (1, .int c1), (2, .int y2), (3, .int y3), (4, .int y4), (5, .int y5)] [] S0 := by
  unfold B_X5_mostAlike_10 at h
  refine x_iload 10 C dX5_mostAlike_10 5 rfl ?_
  refine x_aload_n 12 C dX5_mostAlike_12 rfl 0 rfl ?_
  refine gX5_graves 13 C kw_103 dX5_mostAlike_13 ?_
  refine x_icmp_ge 16 C 84 dX5_mostAlike_16 rfl h (fun h => ?_) (fun h => ?_)
  · exact x_sub 84 [2] rfl (hk _ h)
  · refine x_aload_n 19 C dX5_mostAlike_19 rfl 0 rfl ?_
    refine x_iload_n 20 C dX5_mostAlike_20 rfl 1 rfl ?_
    refine x_iload 21 C dX5_mostAlike_21 5 rfl ?_
    obtain ⟨z1, hz1, h⟩ := xbind_some h
    refine x_callV 23 C (q0 := 1) (ci := 5) 2 (As := [.int c1, .int y5]) (rest := []) (M_X5_weightOfEither l D a b S0 c1 y5  hz1) (by rfl) rfl kw_698 mv_X5_weightOfEither mh_X5_weightOfEither ⟨rfl, rfl⟩ ⟨Nat.le_of_ble_eq_true rfl, Nat.le_of_ble_eq_true rfl⟩ rfl rfl (Nat.le_of_ble_eq_true rfl) dX5_mostAlike_23 ?_
    refine x_istore 26 C (lv' := [(0, .ref (a 1)), (1, .int c1), (2, .int y2), (3, .int y3), (4, .int y4), (5, .int y5), (6, .int z1)]) dX5_mostAlike_26 (Nat.le_of_ble_eq_true rfl) [1, 2, 3, 4, 5, 6, 0] rfl ?_
    refine x_iload 28 C dX5_mostAlike_28 5 rfl ?_
    refine x_iload_n 30 C dX5_mostAlike_30 rfl 1 rfl ?_
    refine x_icmp_eq 31 C 78 dX5_mostAlike_31 rfl h (fun h => ?_) (fun h => ?_)
    · refine x_iinc 78 C (L := fun v5_2 => [(0, .ref (a 1)), (1, .int c1), (2, .int y2), (3, .int y3), (4, .int y4), (5, .int v5_2)]) dX5_mostAlike_78 5 rfl ci_1 (Nat.le_of_ble_eq_true rfl) [1, 2, 3, 4, 5, 0] (fun _ => rfl) h (fun v5_2 h => ?_)
      refine x_goto 81 C 10 dX5_mostAlike_81 rfl ?_
      exact ih _ h
    · refine x_iload 34 C dX5_mostAlike_34 6 rfl ?_
      refine x_if_ne 36 C 42 dX5_mostAlike_36 rfl h (fun h => ?_) (fun h => ?_)
      · refine x_aload_n 42 C dX5_mostAlike_42 rfl 0 rfl ?_
        refine x_iload_n 43 C dX5_mostAlike_43 rfl 1 rfl ?_
        refine x_iload 44 C dX5_mostAlike_44 5 rfl ?_
        obtain ⟨z3, hz3, h⟩ := xbind_some h
        refine x_callV 46 C (q0 := 1) (ci := 5) 2 (As := [.int c1, .int y5]) (rest := []) (M_X5_weightOfBoth l D a b S0 c1 y5  hz3) (by rfl) rfl kw_699 mv_X5_weightOfBoth mh_X5_weightOfBoth ⟨rfl, rfl⟩ ⟨Nat.le_of_ble_eq_true rfl, Nat.le_of_ble_eq_true rfl⟩ rfl rfl (Nat.le_of_ble_eq_true rfl) dX5_mostAlike_46 ?_
        refine x_istore 49 C (lv' := [(0, .ref (a 1)), (1, .int c1), (2, .int y2), (3, .int y3), (4, .int y4), (5, .int y5), (6, .int z1), (7, .int z3)]) dX5_mostAlike_49 (Nat.le_of_ble_eq_true rfl) [1, 2, 3, 4, 5, 6, 7, 0] rfl ?_
        refine x_iload_n 51 C dX5_mostAlike_51 rfl 2 rfl ?_
        refine x_iconst 52 C dX5_mostAlike_52 ci_m1 ?_
        refine x_join (P := fun t4 => XAt (ωC D a b) Γ 68 [(0, .ref (a 1)), (1, .int c1), (5, .int t4.1), (6, .int t4.2.1), (7, .int t4.2.2)] [] S0) h (fun t4 h => ?_) (fun j5 hj5 h => ?_)
        · refine x_iload 68 C dX5_mostAlike_68 2 rfl ?_
          refine x_top h (fun v2_6 h => ?_)
          refine x_istore_n 70 C (lv' := [(0, .ref (a 1)), (1, .int c1), (2, .int v2_6), (5, .int t4.1), (6, .int t4.2.1), (7, .int t4.2.2)]) dX5_mostAlike_70 rfl (Nat.le_of_ble_eq_true rfl) [1, 2, 0, 3, 4, 5] rfl ?_
          refine x_iload 71 C dX5_mostAlike_71 5 rfl ?_
          refine x_top h (fun v3_7 h => ?_)
          refine x_istore_n 73 C (lv' := [(0, .ref (a 1)), (1, .int c1), (2, .int v2_6), (3, .int v3_7), (5, .int t4.1), (6, .int t4.2.1)]) dX5_mostAlike_73 rfl (Nat.le_of_ble_eq_true rfl) [1, 2, 3, 0, 4, 5] rfl ?_
          refine x_iload 74 C dX5_mostAlike_74 5 rfl ?_
          refine x_top h (fun v4_8 h => ?_)
          refine x_istore 76 C (lv' := [(0, .ref (a 1)), (1, .int c1), (2, .int v2_6), (3, .int v3_7), (4, .int v4_8), (5, .int t4.1)]) dX5_mostAlike_76 (Nat.le_of_ble_eq_true rfl) [1, 2, 3, 4, 0, 5] rfl ?_
          refine x_iinc 78 C (L := fun v5_9 => [(0, .ref (a 1)), (1, .int c1), (2, .int v2_6), (3, .int v3_7), (4, .int v4_8), (5, .int v5_9)]) dX5_mostAlike_78 5 rfl ci_1 (Nat.le_of_ble_eq_true rfl) [1, 2, 3, 4, 5, 0] (fun _ => rfl) h (fun v5_9 h => ?_)
          refine x_goto 81 C 10 dX5_mostAlike_81 rfl ?_
          exact ih _ h
        refine x_icmp_eq 53 C 68 dX5_mostAlike_53 rfl h (fun h => ?_) (fun h => ?_)
        · exact x_sub 68 [0, 1, 5, 6, 7] rfl (hj5 _ h)
        · refine x_iload 56 C dX5_mostAlike_56 7 rfl ?_
          refine x_iload 58 C dX5_mostAlike_58 4 rfl ?_
          refine x_imul 60 C dX5_mostAlike_60 ?_
          refine x_iload_n 61 C dX5_mostAlike_61 rfl 3 rfl ?_
          refine x_iload 62 C dX5_mostAlike_62 6 rfl ?_
          refine x_imul 64 C dX5_mostAlike_64 ?_
          refine x_icmp_le 65 C 78 dX5_mostAlike_65 rfl h (fun h => ?_) (fun h => ?_)
          · refine x_iinc 78 C (L := fun v5_10 => [(0, .ref (a 1)), (1, .int c1), (2, .int y2), (3, .int y3), (4, .int y4), (5, .int v5_10)]) dX5_mostAlike_78 5 rfl ci_1 (Nat.le_of_ble_eq_true rfl) [1, 2, 3, 4, 5, 0] (fun _ => rfl) h (fun v5_10 h => ?_)
            refine x_goto 81 C 10 dX5_mostAlike_81 rfl ?_
            exact ih _ h
          · exact x_sub 68 [0, 1, 5, 6, 7] rfl (hj5 _ h)
      · refine x_goto 39 C 78 dX5_mostAlike_39 rfl ?_
        refine x_iinc 78 C (L := fun v5_11 => [(0, .ref (a 1)), (1, .int c1), (2, .int y2), (3, .int y3), (4, .int y4), (5, .int v5_11)]) dX5_mostAlike_78 5 rfl ci_1 (Nat.le_of_ble_eq_true rfl) [1, 2, 3, 4, 5, 0] (fun _ => rfl) h (fun v5_11 h => ?_)
        refine x_goto 81 C 10 dX5_mostAlike_81 rfl ?_
        exact ih _ h
set_option maxRecDepth 100000 in
set_option maxHeartbeats 4000000 in
theorem M_X5_mostAlike (l : Launch) (D : va_G) (a : Nat → Nat) (b : Nat → ClassId) (S0 : XSt) (x1 : Int32)  {r9 : Int32} (h : F_X5_mostAlike S0 x1 = some r9) : xM l (ωC D a b) yX5_mostAlike cX5_mostAlike 8 (some .int) rm_X5_mostAlike [.ref (a 1), .int x1] S0 (some (.int r9), S0) := by
  unfold F_X5_mostAlike at h
  refine xM_of (own := "GraveOrder$Yard") (by decide) rfl (Nat.le_of_ble_eq_true rfl) (fun Γ C => ?_)
  refine x_sub 0 [0, 1] (lv' := [(0, .ref (a 1)), (1, .int x1)]) rfl ?_
  refine x_iconst 0 C dX5_mostAlike_0 ci_m1 ?_
  refine x_istore_n 1 C (lv' := [(0, .ref (a 1)), (1, .int x1), (2, .int (-1))]) dX5_mostAlike_1 rfl (Nat.le_of_ble_eq_true rfl) [1, 2, 0] rfl ?_
  refine x_iconst 2 C dX5_mostAlike_2 ci_0 ?_
  refine x_istore_n 3 C (lv' := [(0, .ref (a 1)), (1, .int x1), (2, .int (-1)), (3, .int 0)]) dX5_mostAlike_3 rfl (Nat.le_of_ble_eq_true rfl) [1, 2, 3, 0] rfl ?_
  refine x_iconst 4 C dX5_mostAlike_4 ci_1 ?_
  refine x_istore 5 C (lv' := [(0, .ref (a 1)), (1, .int x1), (2, .int (-1)), (3, .int 0), (4, .int 1)]) dX5_mostAlike_5 (Nat.le_of_ble_eq_true rfl) [1, 2, 3, 4, 0] rfl ?_
  refine x_iconst 7 C dX5_mostAlike_7 ci_0 ?_
  refine x_istore 8 C (lv' := [(0, .ref (a 1)), (1, .int x1), (2, .int (-1)), (3, .int 0), (4, .int 1), (5, .int 0)]) dX5_mostAlike_8 (Nat.le_of_ble_eq_true rfl) [1, 2, 3, 4, 5, 0] rfl ?_
  refine x_loop (E := fun e => XAt (ωC D a b) Γ 84 [(2, .int e)] [] S0) (P := fun t => XAt (ωC D a b) Γ 10 [(0, .ref (a 1)), (1, .int x1), (2, .int t.1), (3, .int t.2.1), (4, .int t.2.2.1), (5, .int t.2.2.2)] [] S0) h (fun e12 h => ?_) (fun kx rc t hk ih h => w_X5_mostAlike_10 l D a b S0 C   x1 kx rc hk ih t.1 t.2.1 t.2.2.1 t.2.2.2 h)
  refine x_iload_n 84 C dX5_mostAlike_84 rfl 0 rfl ?_
  exact x_iret 85 C dX5_mostAlike_85 (Option.some.inj h) rfl
/-! GraveOrder.within (III)Z -/
def F_X6_within (x0 : Int32) (x1 : Int32) (x2 : Int32) : Int32 :=
  (if x0 < x1 then 0 else (if x2 < x0 then 0 else 1))
theorem Z_X6_within (x0 : Int32) (x1 : Int32) (x2 : Int32) : xbool (F_X6_within x0 x1 x2) = true := by
  unfold F_X6_within
  repeat' split
  all_goals first | rfl | exact Z_X6_within _ _ _ | exact Z_X7_in _ _ _ | apply Z_X7_is
abbrev rm_X6_within : Room := { frames := 0, cells := 0, slots := 0, locals := 0 }
set_option maxRecDepth 100000 in
set_option maxHeartbeats 4000000 in
theorem M_X6_within {σ : Type} (l : Launch) (ω : XW σ) (S0 : σ) (x0 : Int32) (x1 : Int32) (x2 : Int32)  : xM l ω yX6_within cX6_within 3 (some .boolean) rm_X6_within [.int x0, .int x1, .int x2] S0 (some (.int (F_X6_within x0 x1 x2)), S0) := by
  obtain ⟨r9, h⟩ : ∃ r9, F_X6_within x0 x1 x2 = r9 := ⟨_, rfl⟩
  rw [h]
  unfold F_X6_within at h
  refine xM_of (own := "GraveOrder") (by decide) rfl (Nat.le_of_ble_eq_true rfl) (fun Γ C => ?_)
  refine x_sub 0 [0, 1, 2] (lv' := [(0, .int x0), (1, .int x1), (2, .int x2)]) rfl ?_
  refine x_iload_n 0 C dX6_within_0 rfl 0 rfl ?_
  refine x_iload_n 1 C dX6_within_1 rfl 1 rfl ?_
  refine x_icmp_lt 2 C 14 dX6_within_2 rfl h (fun h => ?_) (fun h => ?_)
  · refine x_iconst 14 C dX6_within_14 ci_0 ?_
    exact x_zret 15 C dX6_within_15 rfl h rfl
  · refine x_iload_n 5 C dX6_within_5 rfl 0 rfl ?_
    refine x_iload_n 6 C dX6_within_6 rfl 2 rfl ?_
    refine x_icmp_gt 7 C 14 dX6_within_7 rfl h (fun h => ?_) (fun h => ?_)
    · refine x_iconst 14 C dX6_within_14 ci_0 ?_
      exact x_zret 15 C dX6_within_15 rfl h rfl
    · refine x_iconst 10 C dX6_within_10 ci_1 ?_
      refine x_goto 11 C 15 dX6_within_11 rfl ?_
      exact x_zret 15 C dX6_within_15 rfl h rfl
/-! GraveOrder.grave (II)I -/
def F_X6_grave (S0 : XSt) (x1 : Int32) (x2 : Int32) : (Option (Int32 × XSt)) :=
  (if (F_X6_within x1 0 99) = 0 then (some ((-2), S0)) else (if (F_X6_within x2 x1 99) = 0 then (some ((-2), S0)) else (if (S0 1 4) < 8 then (xlet (xst S0 4 12 1) fun S1 => ((F_X5_dig S1 x1 x2).bind fun z2 => (some (z2.1, z2.2)))) else (some ((-4), S0)))))
abbrev rm_X6_grave : Room := { frames := 1, cells := 0, slots := 0, locals := 22 }
set_option maxRecDepth 100000 in
set_option maxHeartbeats 4000000 in
theorem M_X6_grave (l : Launch) (D : va_G) (a : Nat → Nat) (b : Nat → ClassId) (S0 : XSt) (x1 : Int32) (x2 : Int32)  {r9 : Int32} {S9 : XSt} (h : F_X6_grave S0 x1 x2 = some (r9, S9)) : xM l (ωC D a b) yX6_grave cX6_grave 3 (some .int) rm_X6_grave [.ref (a 0), .int x1, .int x2] S0 (some (.int r9), S9) := by
  unfold F_X6_grave at h
  refine xM_of (own := "GraveOrder") (by decide) rfl (Nat.le_of_ble_eq_true rfl) (fun Γ C => ?_)
  refine x_sub 0 [0, 1, 2] (lv' := [(0, .ref (a 0)), (1, .int x1), (2, .int x2)]) rfl ?_
  refine x_iload_n 0 C dX6_grave_0 rfl 1 rfl ?_
  refine x_iconst 1 C dX6_grave_1 ci_0 ?_
  refine x_bipush 2 C dX6_grave_2 cb_99 ?_
  refine x_callS 4 C 3 (As := [.int x1, .int 0, .int 99]) (rest := []) (M_X6_within l (ωC D a b) S0 x1 0 99) kw_307 ms_X6_within mh_X6_within ⟨rfl, rfl⟩ ⟨Nat.le_of_ble_eq_true rfl, Nat.le_of_ble_eq_true rfl⟩ rfl rfl (Nat.le_of_ble_eq_true rfl) dX6_grave_4 ?_
  refine x_if_eq 7 C 20 dX6_grave_7 rfl h (fun h => ?_) (fun h => ?_)
  · refine x_bipush 20 C dX6_grave_20 cb_m2 ?_
    exact x_iret 22 C dX6_grave_22 (Prod.mk.inj (Option.some.inj h)).1 (Prod.mk.inj (Option.some.inj h)).2
  · refine x_iload_n 10 C dX6_grave_10 rfl 2 rfl ?_
    refine x_iload_n 11 C dX6_grave_11 rfl 1 rfl ?_
    refine x_bipush 12 C dX6_grave_12 cb_99 ?_
    refine x_callS 14 C 3 (As := [.int x2, .int x1, .int 99]) (rest := []) (M_X6_within l (ωC D a b) S0 x2 x1 99) kw_307 ms_X6_within mh_X6_within ⟨rfl, rfl⟩ ⟨Nat.le_of_ble_eq_true rfl, Nat.le_of_ble_eq_true rfl⟩ rfl rfl (Nat.le_of_ble_eq_true rfl) dX6_grave_14 ?_
    refine x_if_ne 17 C 23 dX6_grave_17 rfl h (fun h => ?_) (fun h => ?_)
    · refine x_aload_n 23 C dX6_grave_23 rfl 0 rfl ?_
      refine gX6_yard 24 C kw_278 dX6_grave_24 ?_
      refine gX5_graves 27 C kw_104 dX6_grave_27 ?_
      refine x_bipush 30 C dX6_grave_30 cb_8 ?_
      refine x_icmp_lt 32 C 38 dX6_grave_32 rfl h (fun h => ?_) (fun h => ?_)
      · refine x_aload_n 38 C dX6_grave_38 rfl 0 rfl ?_
        refine gX6_orders 39 C kw_281 dX6_grave_39 ?_
        refine x_iconst 42 C dX6_grave_42 ci_1 ?_
        refine pX3_stale 43 C rfl kw_198 dX6_grave_43 ?_
        refine x_topS h (fun S1 h => ?_)
        refine x_aload_n 46 C dX6_grave_46 rfl 0 rfl ?_
        refine gX6_yard 47 C kw_278 dX6_grave_47 ?_
        refine x_iload_n 50 C dX6_grave_50 rfl 1 rfl ?_
        refine x_iload_n 51 C dX6_grave_51 rfl 2 rfl ?_
        obtain ⟨z2, hz2, h⟩ := xbind_some h
        refine x_callV 52 C (q0 := 1) (ci := 5) 2 (As := [.int x1, .int x2]) (rest := []) (M_X5_dig l D a b S1 x1 x2  hz2) (by rfl) rfl kw_310 mv_X5_dig mh_X5_dig ⟨rfl, rfl⟩ ⟨Nat.le_of_ble_eq_true rfl, Nat.le_of_ble_eq_true rfl⟩ rfl rfl (Nat.le_of_ble_eq_true rfl) dX6_grave_52 ?_
        exact x_iret 55 C dX6_grave_55 (Prod.mk.inj (Option.some.inj h)).1 (Prod.mk.inj (Option.some.inj h)).2
      · refine x_bipush 35 C dX6_grave_35 cb_m4 ?_
        exact x_iret 37 C dX6_grave_37 (Prod.mk.inj (Option.some.inj h)).1 (Prod.mk.inj (Option.some.inj h)).2
    · refine x_bipush 20 C dX6_grave_20 cb_m2 ?_
      exact x_iret 22 C dX6_grave_22 (Prod.mk.inj (Option.some.inj h)).1 (Prod.mk.inj (Option.some.inj h)).2
/-! GraveOrder.isGrave (I)Z -/
def F_X6_isGrave (S0 : XSt) (x1 : Int32) : Int32 :=
  (F_X6_within x1 0 ((S0 1 4) - (1 : Int32)))
theorem Z_X6_isGrave (S0 : XSt) (x1 : Int32) : xbool (F_X6_isGrave S0 x1) = true := by
  unfold F_X6_isGrave
  repeat' split
  all_goals first | rfl | exact Z_X6_within _ _ _ | exact Z_X7_in _ _ _ | apply Z_X7_is
abbrev rm_X6_isGrave : Room := { frames := 1, cells := 0, slots := 0, locals := 22 }
set_option maxRecDepth 100000 in
set_option maxHeartbeats 4000000 in
theorem M_X6_isGrave (l : Launch) (D : va_G) (a : Nat → Nat) (b : Nat → ClassId) (S0 : XSt) (x1 : Int32)  : xM l (ωC D a b) yX6_isGrave cX6_isGrave 2 (some .boolean) rm_X6_isGrave [.ref (a 0), .int x1] S0 (some (.int (F_X6_isGrave S0 x1)), S0) := by
  obtain ⟨r9, h⟩ : ∃ r9, F_X6_isGrave S0 x1 = r9 := ⟨_, rfl⟩
  rw [h]
  unfold F_X6_isGrave at h
  refine xM_of (own := "GraveOrder") (by decide) rfl (Nat.le_of_ble_eq_true rfl) (fun Γ C => ?_)
  refine x_sub 0 [0, 1] (lv' := [(0, .ref (a 0)), (1, .int x1)]) rfl ?_
  refine x_iload_n 0 C dX6_isGrave_0 rfl 1 rfl ?_
  refine x_iconst 1 C dX6_isGrave_1 ci_0 ?_
  refine x_aload_n 2 C dX6_isGrave_2 rfl 0 rfl ?_
  refine gX6_yard 3 C kw_278 dX6_isGrave_3 ?_
  refine gX5_graves 6 C kw_104 dX6_isGrave_6 ?_
  refine x_iconst 9 C dX6_isGrave_9 ci_1 ?_
  refine x_isub 10 C dX6_isGrave_10 ?_
  refine x_callS 11 C 3 (As := [.int x1, .int 0, .int ((S0 1 4) - (1 : Int32))]) (rest := []) (M_X6_within l (ωC D a b) S0 x1 0 ((S0 1 4) - (1 : Int32))) kw_307 ms_X6_within mh_X6_within ⟨rfl, rfl⟩ ⟨Nat.le_of_ble_eq_true rfl, Nat.le_of_ble_eq_true rfl⟩ rfl rfl (Nat.le_of_ble_eq_true rfl) dX6_isGrave_11 ?_
  exact x_zret 14 C dX6_isGrave_14 (Z_X6_within x1 0 ((S0 1 4) - (1 : Int32))) h rfl
/-! GraveOrder.robbed (II)I -/
def F_X6_robbed (S0 : XSt) (x1 : Int32) (x2 : Int32) : (Option (Int32 × XSt)) :=
  (if (F_X6_isGrave S0 x1) = 0 then (some ((-2), S0)) else (if (F_X6_within x2 0 1) = 0 then (some ((-2), S0)) else (xlet (((S0 1 5) >>> (x1 &&& 31)) &&& (1 : Int32)) fun v3_1 => (xlet (xst S0 1 5 (((S0 1 5) &&& (((1 : Int32) <<< (x1 &&& 31)) ^^^ (-1 : Int32))) ||| (x2 <<< (x1 &&& 31)))) fun S2 => (xlet (xst S2 4 12 1) fun S3 => (some (v3_1, S3)))))))
abbrev rm_X6_robbed : Room := { frames := 2, cells := 0, slots := 0, locals := 43 }
set_option maxRecDepth 100000 in
set_option maxHeartbeats 4000000 in
theorem M_X6_robbed (l : Launch) (D : va_G) (a : Nat → Nat) (b : Nat → ClassId) (S0 : XSt) (x1 : Int32) (x2 : Int32)  {r9 : Int32} {S9 : XSt} (h : F_X6_robbed S0 x1 x2 = some (r9, S9)) : xM l (ωC D a b) yX6_robbed cX6_robbed 4 (some .int) rm_X6_robbed [.ref (a 0), .int x1, .int x2] S0 (some (.int r9), S9) := by
  unfold F_X6_robbed at h
  refine xM_of (own := "GraveOrder") (by decide) rfl (Nat.le_of_ble_eq_true rfl) (fun Γ C => ?_)
  refine x_sub 0 [0, 1, 2] (lv' := [(0, .ref (a 0)), (1, .int x1), (2, .int x2)]) rfl ?_
  refine x_aload_n 0 C dX6_robbed_0 rfl 0 rfl ?_
  refine x_iload_n 1 C dX6_robbed_1 rfl 1 rfl ?_
  refine x_callV 2 C (q0 := 0) (ci := 6) 1 (As := [.int x1]) (rest := []) (M_X6_isGrave l D a b S0 x1 ) (by rfl) rfl kw_318 mv_X6_isGrave mh_X6_isGrave ⟨rfl, rfl⟩ ⟨Nat.le_of_ble_eq_true rfl, Nat.le_of_ble_eq_true rfl⟩ rfl rfl (Nat.le_of_ble_eq_true rfl) dX6_robbed_2 ?_
  refine x_if_eq 5 C 17 dX6_robbed_5 rfl h (fun h => ?_) (fun h => ?_)
  · refine x_bipush 17 C dX6_robbed_17 cb_m2 ?_
    exact x_iret 19 C dX6_robbed_19 (Prod.mk.inj (Option.some.inj h)).1 (Prod.mk.inj (Option.some.inj h)).2
  · refine x_iload_n 8 C dX6_robbed_8 rfl 2 rfl ?_
    refine x_iconst 9 C dX6_robbed_9 ci_0 ?_
    refine x_iconst 10 C dX6_robbed_10 ci_1 ?_
    refine x_callS 11 C 3 (As := [.int x2, .int 0, .int 1]) (rest := []) (M_X6_within l (ωC D a b) S0 x2 0 1) kw_307 ms_X6_within mh_X6_within ⟨rfl, rfl⟩ ⟨Nat.le_of_ble_eq_true rfl, Nat.le_of_ble_eq_true rfl⟩ rfl rfl (Nat.le_of_ble_eq_true rfl) dX6_robbed_11 ?_
    refine x_if_ne 14 C 20 dX6_robbed_14 rfl h (fun h => ?_) (fun h => ?_)
    · refine x_aload_n 20 C dX6_robbed_20 rfl 0 rfl ?_
      refine gX6_yard 21 C kw_278 dX6_robbed_21 ?_
      refine gX5_robbedBits 24 C kw_109 dX6_robbed_24 ?_
      refine x_iload_n 27 C dX6_robbed_27 rfl 1 rfl ?_
      refine x_ishr 28 C dX6_robbed_28 ?_
      refine x_iconst 29 C dX6_robbed_29 ci_1 ?_
      refine x_iand 30 C dX6_robbed_30 ?_
      refine x_top h (fun v3_1 h => ?_)
      refine x_istore_n 31 C (lv' := [(0, .ref (a 0)), (1, .int x1), (2, .int x2), (3, .int v3_1)]) dX6_robbed_31 rfl (Nat.le_of_ble_eq_true rfl) [1, 2, 3, 0] rfl ?_
      refine x_aload_n 32 C dX6_robbed_32 rfl 0 rfl ?_
      refine gX6_yard 33 C kw_278 dX6_robbed_33 ?_
      refine x_aload_n 36 C dX6_robbed_36 rfl 0 rfl ?_
      refine gX6_yard 37 C kw_278 dX6_robbed_37 ?_
      refine gX5_robbedBits 40 C kw_109 dX6_robbed_40 ?_
      refine x_iconst 43 C dX6_robbed_43 ci_1 ?_
      refine x_iload_n 44 C dX6_robbed_44 rfl 1 rfl ?_
      refine x_ishl 45 C dX6_robbed_45 ?_
      refine x_iconst 46 C dX6_robbed_46 ci_m1 ?_
      refine x_ixor 47 C dX6_robbed_47 ?_
      refine x_iand 48 C dX6_robbed_48 ?_
      refine x_iload_n 49 C dX6_robbed_49 rfl 2 rfl ?_
      refine x_iload_n 50 C dX6_robbed_50 rfl 1 rfl ?_
      refine x_ishl 51 C dX6_robbed_51 ?_
      refine x_ior 52 C dX6_robbed_52 ?_
      refine pX5_robbedBits 53 C kw_109 dX6_robbed_53 ?_
      refine x_topS h (fun S2 h => ?_)
      refine x_aload_n 56 C dX6_robbed_56 rfl 0 rfl ?_
      refine gX6_orders 57 C kw_281 dX6_robbed_57 ?_
      refine x_iconst 60 C dX6_robbed_60 ci_1 ?_
      refine pX3_stale 61 C rfl kw_198 dX6_robbed_61 ?_
      refine x_topS h (fun S3 h => ?_)
      refine x_iload_n 64 C dX6_robbed_64 rfl 3 rfl ?_
      exact x_iret 65 C dX6_robbed_65 (Prod.mk.inj (Option.some.inj h)).1 (Prod.mk.inj (Option.some.inj h)).2
    · refine x_bipush 17 C dX6_robbed_17 cb_m2 ?_
      exact x_iret 19 C dX6_robbed_19 (Prod.mk.inj (Option.some.inj h)).1 (Prod.mk.inj (Option.some.inj h)).2
/-! GraveOrder.isKind (I)Z -/
def F_X6_isKind (x0 : Int32) : Int32 :=
  (F_X6_within x0 0 9)
theorem Z_X6_isKind (x0 : Int32) : xbool (F_X6_isKind x0) = true := by
  unfold F_X6_isKind
  repeat' split
  all_goals first | rfl | exact Z_X6_within _ _ _ | exact Z_X7_in _ _ _ | apply Z_X7_is
abbrev rm_X6_isKind : Room := { frames := 1, cells := 0, slots := 0, locals := 22 }
set_option maxRecDepth 100000 in
set_option maxHeartbeats 4000000 in
theorem M_X6_isKind {σ : Type} (l : Launch) (ω : XW σ) (S0 : σ) (x0 : Int32)  : xM l ω yX6_isKind cX6_isKind 1 (some .boolean) rm_X6_isKind [.int x0] S0 (some (.int (F_X6_isKind x0)), S0) := by
  obtain ⟨r9, h⟩ : ∃ r9, F_X6_isKind x0 = r9 := ⟨_, rfl⟩
  rw [h]
  unfold F_X6_isKind at h
  refine xM_of (own := "GraveOrder") (by decide) rfl (Nat.le_of_ble_eq_true rfl) (fun Γ C => ?_)
  refine x_sub 0 [0] (lv' := [(0, .int x0)]) rfl ?_
  refine x_iload_n 0 C dX6_isKind_0 rfl 0 rfl ?_
  refine x_iconst 1 C dX6_isKind_1 ci_0 ?_
  refine x_bipush 2 C dX6_isKind_2 cb_9 ?_
  refine x_callS 4 C 3 (As := [.int x0, .int 0, .int 9]) (rest := []) (M_X6_within l ω S0 x0 0 9) kw_307 ms_X6_within mh_X6_within ⟨rfl, rfl⟩ ⟨Nat.le_of_ble_eq_true rfl, Nat.le_of_ble_eq_true rfl⟩ rfl rfl (Nat.le_of_ble_eq_true rfl) dX6_isKind_4 ?_
  exact x_zret 7 C dX6_isKind_7 (Z_X6_within x0 0 9) h rfl
/-! GraveOrder.weight (II)I -/
def F_X6_weight (S0 : XSt) (x1 : Int32) (x2 : Int32) : (Option (Int32 × XSt)) :=
  (if (F_X6_isKind x1) = 0 then (some ((-2), S0)) else (if (F_X6_within x2 0 3) = 0 then (some ((-2), S0)) else (xlet (xst S0 4 12 1) fun S1 => ((F_X5_reweigh S1 x1 x2).bind fun z2 => (some (z2.1, z2.2))))))
abbrev rm_X6_weight : Room := { frames := 3, cells := 0, slots := 0, locals := 64 }
set_option maxRecDepth 100000 in
set_option maxHeartbeats 4000000 in
theorem M_X6_weight (l : Launch) (D : va_G) (a : Nat → Nat) (b : Nat → ClassId) (S0 : XSt) (x1 : Int32) (x2 : Int32)  {r9 : Int32} {S9 : XSt} (h : F_X6_weight S0 x1 x2 = some (r9, S9)) : xM l (ωC D a b) yX6_weight cX6_weight 3 (some .int) rm_X6_weight [.ref (a 0), .int x1, .int x2] S0 (some (.int r9), S9) := by
  unfold F_X6_weight at h
  refine xM_of (own := "GraveOrder") (by decide) rfl (Nat.le_of_ble_eq_true rfl) (fun Γ C => ?_)
  refine x_sub 0 [0, 1, 2] (lv' := [(0, .ref (a 0)), (1, .int x1), (2, .int x2)]) rfl ?_
  refine x_iload_n 0 C dX6_weight_0 rfl 1 rfl ?_
  refine x_callS 1 C 1 (As := [.int x1]) (rest := []) (M_X6_isKind l (ωC D a b) S0 x1) kw_326 ms_X6_isKind mh_X6_isKind ⟨rfl, rfl⟩ ⟨Nat.le_of_ble_eq_true rfl, Nat.le_of_ble_eq_true rfl⟩ rfl rfl (Nat.le_of_ble_eq_true rfl) dX6_weight_1 ?_
  refine x_if_eq 4 C 16 dX6_weight_4 rfl h (fun h => ?_) (fun h => ?_)
  · refine x_bipush 16 C dX6_weight_16 cb_m2 ?_
    exact x_iret 18 C dX6_weight_18 (Prod.mk.inj (Option.some.inj h)).1 (Prod.mk.inj (Option.some.inj h)).2
  · refine x_iload_n 7 C dX6_weight_7 rfl 2 rfl ?_
    refine x_iconst 8 C dX6_weight_8 ci_0 ?_
    refine x_iconst 9 C dX6_weight_9 ci_3 ?_
    refine x_callS 10 C 3 (As := [.int x2, .int 0, .int 3]) (rest := []) (M_X6_within l (ωC D a b) S0 x2 0 3) kw_307 ms_X6_within mh_X6_within ⟨rfl, rfl⟩ ⟨Nat.le_of_ble_eq_true rfl, Nat.le_of_ble_eq_true rfl⟩ rfl rfl (Nat.le_of_ble_eq_true rfl) dX6_weight_10 ?_
    refine x_if_ne 13 C 19 dX6_weight_13 rfl h (fun h => ?_) (fun h => ?_)
    · refine x_aload_n 19 C dX6_weight_19 rfl 0 rfl ?_
      refine gX6_orders 20 C kw_281 dX6_weight_20 ?_
      refine x_iconst 23 C dX6_weight_23 ci_1 ?_
      refine pX3_stale 24 C rfl kw_198 dX6_weight_24 ?_
      refine x_topS h (fun S1 h => ?_)
      refine x_aload_n 27 C dX6_weight_27 rfl 0 rfl ?_
      refine gX6_yard 28 C kw_278 dX6_weight_28 ?_
      refine x_iload_n 31 C dX6_weight_31 rfl 1 rfl ?_
      refine x_iload_n 32 C dX6_weight_32 rfl 2 rfl ?_
      obtain ⟨z2, hz2, h⟩ := xbind_some h
      refine x_callV 33 C (q0 := 1) (ci := 5) 2 (As := [.int x1, .int x2]) (rest := []) (M_X5_reweigh l D a b S1 x1 x2  hz2) (by rfl) rfl kw_329 mv_X5_reweigh mh_X5_reweigh ⟨rfl, rfl⟩ ⟨Nat.le_of_ble_eq_true rfl, Nat.le_of_ble_eq_true rfl⟩ rfl rfl (Nat.le_of_ble_eq_true rfl) dX6_weight_33 ?_
      exact x_iret 36 C dX6_weight_36 (Prod.mk.inj (Option.some.inj h)).1 (Prod.mk.inj (Option.some.inj h)).2
    · refine x_bipush 16 C dX6_weight_16 cb_m2 ?_
      exact x_iret 18 C dX6_weight_18 (Prod.mk.inj (Option.some.inj h)).1 (Prod.mk.inj (Option.some.inj h)).2
/-! GraveOrder.isPair (II)Z -/
def F_X6_isPair (S0 : XSt) (x1 : Int32) (x2 : Int32) : Int32 :=
  (if (F_X6_isGrave S0 x1) = 0 then 0 else (if (F_X6_isGrave S0 x2) = 0 then 0 else (if x1 = x2 then 0 else 1)))
theorem Z_X6_isPair (S0 : XSt) (x1 : Int32) (x2 : Int32) : xbool (F_X6_isPair S0 x1 x2) = true := by
  unfold F_X6_isPair
  repeat' split
  all_goals first | rfl | exact Z_X6_within _ _ _ | exact Z_X7_in _ _ _ | apply Z_X7_is
abbrev rm_X6_isPair : Room := { frames := 2, cells := 0, slots := 0, locals := 43 }
set_option maxRecDepth 100000 in
set_option maxHeartbeats 4000000 in
theorem M_X6_isPair (l : Launch) (D : va_G) (a : Nat → Nat) (b : Nat → ClassId) (S0 : XSt) (x1 : Int32) (x2 : Int32)  : xM l (ωC D a b) yX6_isPair cX6_isPair 3 (some .boolean) rm_X6_isPair [.ref (a 0), .int x1, .int x2] S0 (some (.int (F_X6_isPair S0 x1 x2)), S0) := by
  obtain ⟨r9, h⟩ : ∃ r9, F_X6_isPair S0 x1 x2 = r9 := ⟨_, rfl⟩
  rw [h]
  unfold F_X6_isPair at h
  refine xM_of (own := "GraveOrder") (by decide) rfl (Nat.le_of_ble_eq_true rfl) (fun Γ C => ?_)
  refine x_sub 0 [0, 1, 2] (lv' := [(0, .ref (a 0)), (1, .int x1), (2, .int x2)]) rfl ?_
  refine x_aload_n 0 C dX6_isPair_0 rfl 0 rfl ?_
  refine x_iload_n 1 C dX6_isPair_1 rfl 1 rfl ?_
  refine x_callV 2 C (q0 := 0) (ci := 6) 1 (As := [.int x1]) (rest := []) (M_X6_isGrave l D a b S0 x1 ) (by rfl) rfl kw_318 mv_X6_isGrave mh_X6_isGrave ⟨rfl, rfl⟩ ⟨Nat.le_of_ble_eq_true rfl, Nat.le_of_ble_eq_true rfl⟩ rfl rfl (Nat.le_of_ble_eq_true rfl) dX6_isPair_2 ?_
  refine x_if_eq 5 C 25 dX6_isPair_5 rfl h (fun h => ?_) (fun h => ?_)
  · refine x_iconst 25 C dX6_isPair_25 ci_0 ?_
    exact x_zret 26 C dX6_isPair_26 rfl h rfl
  · refine x_aload_n 8 C dX6_isPair_8 rfl 0 rfl ?_
    refine x_iload_n 9 C dX6_isPair_9 rfl 2 rfl ?_
    refine x_callV 10 C (q0 := 0) (ci := 6) 1 (As := [.int x2]) (rest := []) (M_X6_isGrave l D a b S0 x2 ) (by rfl) rfl kw_318 mv_X6_isGrave mh_X6_isGrave ⟨rfl, rfl⟩ ⟨Nat.le_of_ble_eq_true rfl, Nat.le_of_ble_eq_true rfl⟩ rfl rfl (Nat.le_of_ble_eq_true rfl) dX6_isPair_10 ?_
    refine x_if_eq 13 C 25 dX6_isPair_13 rfl h (fun h => ?_) (fun h => ?_)
    · refine x_iconst 25 C dX6_isPair_25 ci_0 ?_
      exact x_zret 26 C dX6_isPair_26 rfl h rfl
    · refine x_iload_n 16 C dX6_isPair_16 rfl 1 rfl ?_
      refine x_iload_n 17 C dX6_isPair_17 rfl 2 rfl ?_
      refine x_icmp_eq 18 C 25 dX6_isPair_18 rfl h (fun h => ?_) (fun h => ?_)
      · refine x_iconst 25 C dX6_isPair_25 ci_0 ?_
        exact x_zret 26 C dX6_isPair_26 rfl h rfl
      · refine x_iconst 21 C dX6_isPair_21 ci_1 ?_
        refine x_goto 22 C 26 dX6_isPair_22 rfl ?_
        exact x_zret 26 C dX6_isPair_26 rfl h rfl
/-! GraveOrder.over (II)I -/
def F_X6_over (S0 : XSt) (x1 : Int32) (x2 : Int32) : (Option (Int32 × XSt)) :=
  (if (F_X6_isPair S0 x1 x2) = 0 then (some ((-2), S0)) else (if (S0 1 6) < 16 then (if xin x1 8 = true then (if xin x1 8 = true then (xlet (xst S0 9 (xti x1) ((S0 9 (xti x1)) ||| ((1 : Int32) <<< (x2 &&& 31)))) fun S3 => (xlet (xst S3 1 6 ((S3 1 6) + (1 : Int32))) fun S4 => (xlet (xst S4 4 12 1) fun S5 => (some ((S5 1 6), S5))))) else none) else none) else (some ((-4), S0))))
abbrev rm_X6_over : Room := { frames := 3, cells := 0, slots := 0, locals := 65 }
set_option maxRecDepth 100000 in
set_option maxHeartbeats 4000000 in
theorem M_X6_over (l : Launch) (D : va_G) (a : Nat → Nat) (b : Nat → ClassId) (S0 : XSt) (x1 : Int32) (x2 : Int32)  {r9 : Int32} {S9 : XSt} (h : F_X6_over S0 x1 x2 = some (r9, S9)) : xM l (ωC D a b) yX6_over cX6_over 3 (some .int) rm_X6_over [.ref (a 0), .int x1, .int x2] S0 (some (.int r9), S9) := by
  unfold F_X6_over at h
  refine xM_of (own := "GraveOrder") (by decide) rfl (Nat.le_of_ble_eq_true rfl) (fun Γ C => ?_)
  refine x_sub 0 [0, 1, 2] (lv' := [(0, .ref (a 0)), (1, .int x1), (2, .int x2)]) rfl ?_
  refine x_aload_n 0 C dX6_over_0 rfl 0 rfl ?_
  refine x_iload_n 1 C dX6_over_1 rfl 1 rfl ?_
  refine x_iload_n 2 C dX6_over_2 rfl 2 rfl ?_
  refine x_callV 3 C (q0 := 0) (ci := 6) 2 (As := [.int x1, .int x2]) (rest := []) (M_X6_isPair l D a b S0 x1 x2 ) (by rfl) rfl kw_347 mv_X6_isPair mh_X6_isPair ⟨rfl, rfl⟩ ⟨Nat.le_of_ble_eq_true rfl, Nat.le_of_ble_eq_true rfl⟩ rfl rfl (Nat.le_of_ble_eq_true rfl) dX6_over_3 ?_
  refine x_if_ne 6 C 12 dX6_over_6 rfl h (fun h => ?_) (fun h => ?_)
  · refine x_aload_n 12 C dX6_over_12 rfl 0 rfl ?_
    refine gX6_yard 13 C kw_278 dX6_over_13 ?_
    refine gX5_overs 16 C kw_112 dX6_over_16 ?_
    refine x_bipush 19 C dX6_over_19 cb_16 ?_
    refine x_icmp_lt 21 C 27 dX6_over_21 rfl h (fun h => ?_) (fun h => ?_)
    · refine x_aload_n 27 C dX6_over_27 rfl 0 rfl ?_
      refine gX6_yard 28 C kw_278 dX6_over_28 ?_
      refine gX5_below 31 C kw_97 dX6_over_31 ?_
      refine x_iload_n 34 C dX6_over_34 rfl 1 rfl ?_
      refine x_dup2 35 C dX6_over_35 rfl rfl ?_
      obtain ⟨hg1, h⟩ := xif_some h
      refine c_iald 36 C (n := 8) rfl hg1 dX6_over_36 ?_
      refine x_iconst 37 C dX6_over_37 ci_1 ?_
      refine x_iload_n 38 C dX6_over_38 rfl 2 rfl ?_
      refine x_ishl 39 C dX6_over_39 ?_
      refine x_ior 40 C dX6_over_40 ?_
      obtain ⟨hg2, h⟩ := xif_some h
      refine c_iast 41 C (n := 8) rfl hg2 dX6_over_41 ?_
      refine x_topS h (fun S3 h => ?_)
      refine x_aload_n 42 C dX6_over_42 rfl 0 rfl ?_
      refine gX6_yard 43 C kw_278 dX6_over_43 ?_
      refine x_dup 46 C dX6_over_46 rfl ?_
      refine gX5_overs 47 C kw_112 dX6_over_47 ?_
      refine x_iconst 50 C dX6_over_50 ci_1 ?_
      refine x_iadd 51 C dX6_over_51 ?_
      refine pX5_overs 52 C kw_112 dX6_over_52 ?_
      refine x_topS h (fun S4 h => ?_)
      refine x_aload_n 55 C dX6_over_55 rfl 0 rfl ?_
      refine gX6_orders 56 C kw_281 dX6_over_56 ?_
      refine x_iconst 59 C dX6_over_59 ci_1 ?_
      refine pX3_stale 60 C rfl kw_198 dX6_over_60 ?_
      refine x_topS h (fun S5 h => ?_)
      refine x_aload_n 63 C dX6_over_63 rfl 0 rfl ?_
      refine gX6_yard 64 C kw_278 dX6_over_64 ?_
      refine gX5_overs 67 C kw_112 dX6_over_67 ?_
      exact x_iret 70 C dX6_over_70 (Prod.mk.inj (Option.some.inj h)).1 (Prod.mk.inj (Option.some.inj h)).2
    · refine x_bipush 24 C dX6_over_24 cb_m4 ?_
      exact x_iret 26 C dX6_over_26 (Prod.mk.inj (Option.some.inj h)).1 (Prod.mk.inj (Option.some.inj h)).2
  · refine x_bipush 9 C dX6_over_9 cb_m2 ?_
    exact x_iret 11 C dX6_over_11 (Prod.mk.inj (Option.some.inj h)).1 (Prod.mk.inj (Option.some.inj h)).2
/-! GraveOrder.type (I)I -/
def F_X6_type (S0 : XSt) (x1 : Int32) : (Option (Int32 × XSt)) :=
  (if (F_X6_within x1 0 255) = 0 then (some ((-2), S0)) else (if (S0 2 1) < 40 then (if xin (S0 2 1) 40 = true then (xlet (xst S0 11 (xti (S0 2 1)) x1) fun S2 => (xlet (xst S2 2 1 ((S2 2 1) + (1 : Int32))) fun S3 => (some ((S3 2 1), S3)))) else none) else (some ((-4), S0))))
abbrev rm_X6_type : Room := { frames := 1, cells := 0, slots := 0, locals := 22 }
set_option maxRecDepth 100000 in
set_option maxHeartbeats 4000000 in
theorem M_X6_type (l : Launch) (D : va_G) (a : Nat → Nat) (b : Nat → ClassId) (S0 : XSt) (x1 : Int32)  {r9 : Int32} {S9 : XSt} (h : F_X6_type S0 x1 = some (r9, S9)) : xM l (ωC D a b) yX6_type cX6_type 2 (some .int) rm_X6_type [.ref (a 0), .int x1] S0 (some (.int r9), S9) := by
  unfold F_X6_type at h
  refine xM_of (own := "GraveOrder") (by decide) rfl (Nat.le_of_ble_eq_true rfl) (fun Γ C => ?_)
  refine x_sub 0 [0, 1] (lv' := [(0, .ref (a 0)), (1, .int x1)]) rfl ?_
  refine x_iload_n 0 C dX6_type_0 rfl 1 rfl ?_
  refine x_iconst 1 C dX6_type_1 ci_0 ?_
  refine x_sipush 2 C dX6_type_2 cs_255 ?_
  refine x_callS 5 C 3 (As := [.int x1, .int 0, .int 255]) (rest := []) (M_X6_within l (ωC D a b) S0 x1 0 255) kw_307 ms_X6_within mh_X6_within ⟨rfl, rfl⟩ ⟨Nat.le_of_ble_eq_true rfl, Nat.le_of_ble_eq_true rfl⟩ rfl rfl (Nat.le_of_ble_eq_true rfl) dX6_type_5 ?_
  refine x_if_ne 8 C 14 dX6_type_8 rfl h (fun h => ?_) (fun h => ?_)
  · refine x_aload_n 14 C dX6_type_14 rfl 0 rfl ?_
    refine gX6_line 15 C kw_279 dX6_type_15 ?_
    refine gX2_length 18 C kw_146 dX6_type_18 ?_
    refine x_bipush 21 C dX6_type_21 cb_40 ?_
    refine x_icmp_lt 23 C 29 dX6_type_23 rfl h (fun h => ?_) (fun h => ?_)
    · refine x_aload_n 29 C dX6_type_29 rfl 0 rfl ?_
      refine gX6_line 30 C kw_279 dX6_type_30 ?_
      refine gX2_bytes 33 C kw_144 dX6_type_33 ?_
      refine x_aload_n 36 C dX6_type_36 rfl 0 rfl ?_
      refine gX6_line 37 C kw_279 dX6_type_37 ?_
      refine gX2_length 40 C kw_146 dX6_type_40 ?_
      refine x_iload_n 43 C dX6_type_43 rfl 1 rfl ?_
      obtain ⟨hg1, h⟩ := xif_some h
      refine c_iast 44 C (n := 40) rfl hg1 dX6_type_44 ?_
      refine x_topS h (fun S2 h => ?_)
      refine x_aload_n 45 C dX6_type_45 rfl 0 rfl ?_
      refine gX6_line 46 C kw_279 dX6_type_46 ?_
      refine x_dup 49 C dX6_type_49 rfl ?_
      refine gX2_length 50 C kw_146 dX6_type_50 ?_
      refine x_iconst 53 C dX6_type_53 ci_1 ?_
      refine x_iadd 54 C dX6_type_54 ?_
      refine pX2_length 55 C kw_146 dX6_type_55 ?_
      refine x_topS h (fun S3 h => ?_)
      refine x_aload_n 58 C dX6_type_58 rfl 0 rfl ?_
      refine gX6_line 59 C kw_279 dX6_type_59 ?_
      refine gX2_length 62 C kw_146 dX6_type_62 ?_
      exact x_iret 65 C dX6_type_65 (Prod.mk.inj (Option.some.inj h)).1 (Prod.mk.inj (Option.some.inj h)).2
    · refine x_bipush 26 C dX6_type_26 cb_m4 ?_
      exact x_iret 28 C dX6_type_28 (Prod.mk.inj (Option.some.inj h)).1 (Prod.mk.inj (Option.some.inj h)).2
  · refine x_bipush 11 C dX6_type_11 cb_m2 ?_
    exact x_iret 13 C dX6_type_13 (Prod.mk.inj (Option.some.inj h)).1 (Prod.mk.inj (Option.some.inj h)).2
/-! GraveOrder.wipe ()I -/
def F_X6_wipe (S0 : XSt)  : (Option (Int32 × XSt)) :=
  (xlet (S0 2 1) fun v1_1 => (xlet (xst S0 2 1 0) fun S2 => (some (v1_1, S2))))
abbrev rm_X6_wipe : Room := { frames := 0, cells := 0, slots := 0, locals := 0 }
set_option maxRecDepth 100000 in
set_option maxHeartbeats 4000000 in
theorem M_X6_wipe (l : Launch) (D : va_G) (a : Nat → Nat) (b : Nat → ClassId) (S0 : XSt)   {r9 : Int32} {S9 : XSt} (h : F_X6_wipe S0 = some (r9, S9)) : xM l (ωC D a b) yX6_wipe cX6_wipe 2 (some .int) rm_X6_wipe [.ref (a 0)] S0 (some (.int r9), S9) := by
  unfold F_X6_wipe at h
  refine xM_of (own := "GraveOrder") (by decide) rfl (Nat.le_of_ble_eq_true rfl) (fun Γ C => ?_)
  refine x_sub 0 [0] (lv' := [(0, .ref (a 0))]) rfl ?_
  refine x_aload_n 0 C dX6_wipe_0 rfl 0 rfl ?_
  refine gX6_line 1 C kw_279 dX6_wipe_1 ?_
  refine gX2_length 4 C kw_146 dX6_wipe_4 ?_
  refine x_top h (fun v1_1 h => ?_)
  refine x_istore_n 7 C (lv' := [(0, .ref (a 0)), (1, .int v1_1)]) dX6_wipe_7 rfl (Nat.le_of_ble_eq_true rfl) [1, 0] rfl ?_
  refine x_aload_n 8 C dX6_wipe_8 rfl 0 rfl ?_
  refine gX6_line 9 C kw_279 dX6_wipe_9 ?_
  refine x_iconst 12 C dX6_wipe_12 ci_0 ?_
  refine pX2_length 13 C kw_146 dX6_wipe_13 ?_
  refine x_topS h (fun S2 h => ?_)
  refine x_iload_n 16 C dX6_wipe_16 rfl 1 rfl ?_
  exact x_iret 17 C dX6_wipe_17 (Prod.mk.inj (Option.some.inj h)).1 (Prod.mk.inj (Option.some.inj h)).2
/-! GraveOrder.fault ()I -/
def F_X6_fault (S0 : XSt)  : (Option Int32) :=
  ((F_X2_firstFault S0 (S0 1 4)).bind fun z1 => (some z1))
abbrev rm_X6_fault : Room := { frames := 2, cells := 0, slots := 0, locals := 46 }
set_option maxRecDepth 100000 in
set_option maxHeartbeats 4000000 in
theorem M_X6_fault (l : Launch) (D : va_G) (a : Nat → Nat) (b : Nat → ClassId) (S0 : XSt)   {r9 : Int32} (h : F_X6_fault S0 = some r9) : xM l (ωC D a b) yX6_fault cX6_fault 1 (some .int) rm_X6_fault [.ref (a 0)] S0 (some (.int r9), S0) := by
  unfold F_X6_fault at h
  refine xM_of (own := "GraveOrder") (by decide) rfl (Nat.le_of_ble_eq_true rfl) (fun Γ C => ?_)
  refine x_sub 0 [0] (lv' := [(0, .ref (a 0))]) rfl ?_
  refine x_aload_n 0 C dX6_fault_0 rfl 0 rfl ?_
  refine gX6_line 1 C kw_279 dX6_fault_1 ?_
  refine x_aload_n 4 C dX6_fault_4 rfl 0 rfl ?_
  refine gX6_yard 5 C kw_278 dX6_fault_5 ?_
  refine gX5_graves 8 C kw_104 dX6_fault_8 ?_
  obtain ⟨z1, hz1, h⟩ := xbind_some h
  refine x_callV 11 C (q0 := 2) (ci := 2) 1 (As := [.int (S0 1 4)]) (rest := []) (M_X2_firstFault l D a b S0 (S0 1 4)  hz1) (by rfl) rfl kw_363 mv_X2_firstFault mh_X2_firstFault ⟨rfl, rfl⟩ ⟨Nat.le_of_ble_eq_true rfl, Nat.le_of_ble_eq_true rfl⟩ rfl rfl (Nat.le_of_ble_eq_true rfl) dX6_fault_11 ?_
  exact x_iret 14 C dX6_fault_14 (Option.some.inj h) rfl
/-! GraveOrder.canTellAt (I)Z -/
def F_X6_canTellAt (S0 : XSt) (x1 : Int32) : (Option Int32) :=
  ((F_X0_timeBefore S0).bind fun z1 => (some (F_X6_within x1 z1 999)))
abbrev rm_X6_canTellAt : Room := { frames := 1, cells := 0, slots := 0, locals := 22 }
set_option maxRecDepth 100000 in
set_option maxHeartbeats 4000000 in
theorem M_X6_canTellAt (l : Launch) (D : va_G) (a : Nat → Nat) (b : Nat → ClassId) (S0 : XSt) (x1 : Int32)  {r9 : Int32} (h : F_X6_canTellAt S0 x1 = some r9) : xM l (ωC D a b) yX6_canTellAt cX6_canTellAt 2 (some .boolean) rm_X6_canTellAt [.ref (a 0), .int x1] S0 (some (.int r9), S0) := by
  unfold F_X6_canTellAt at h
  refine xM_of (own := "GraveOrder") (by decide) rfl (Nat.le_of_ble_eq_true rfl) (fun Γ C => ?_)
  refine x_sub 0 [0, 1] (lv' := [(0, .ref (a 0)), (1, .int x1)]) rfl ?_
  refine x_iload_n 0 C dX6_canTellAt_0 rfl 1 rfl ?_
  refine x_aload_n 1 C dX6_canTellAt_1 rfl 0 rfl ?_
  refine gX6_finds 2 C kw_280 dX6_canTellAt_2 ?_
  obtain ⟨z1, hz1, h⟩ := xbind_some h
  refine x_callV 5 C (q0 := 3) (ci := 0) 0 (As := []) (rest := [.int x1]) (M_X0_timeBefore l D a b S0   hz1) (by rfl) rfl kw_378 mv_X0_timeBefore mh_X0_timeBefore ⟨rfl, rfl⟩ ⟨Nat.le_of_ble_eq_true rfl, Nat.le_of_ble_eq_true rfl⟩ rfl rfl (Nat.le_of_ble_eq_true rfl) dX6_canTellAt_5 ?_
  refine x_sipush 8 C dX6_canTellAt_8 cs_999 ?_
  refine x_callS 11 C 3 (As := [.int x1, .int z1, .int 999]) (rest := []) (M_X6_within l (ωC D a b) S0 x1 z1 999) kw_307 ms_X6_within mh_X6_within ⟨rfl, rfl⟩ ⟨Nat.le_of_ble_eq_true rfl, Nat.le_of_ble_eq_true rfl⟩ rfl rfl (Nat.le_of_ble_eq_true rfl) dX6_canTellAt_11 ?_
  exact x_zret 14 C dX6_canTellAt_14 (Z_X6_within x1 z1 999) (Option.some.inj h) rfl
/-! GraveOrder.tellLine (I)I -/
def B_X6_tellLine_10 (c1 : Int32) (kx : (Int32 × XSt) → Option (Int32 × XSt)) (rc : (Int32 × Int32 × Int32 × Int32 × XSt) → Option (Int32 × XSt)) (y2 : Int32) (y3 : Int32) (y4 : Int32) (y5 : Int32) (S1 : XSt) : Option (Int32 × XSt) :=
  (if (S1 2 1) ≤ y5 then kx (y4, S1) else (if xin y5 40 = true then (xlet (S1 11 (xti y5)) fun v6_2 => (xlet (F_X2_follow y2 v6_2 (S1 1 4)) fun v7_3 => (xlet (fun (t4 : Int32) => (if v7_3 = 4 then (xlet (fun (t7 : Int32) => ((F_X0_keep S1 c1 t4 (v6_2 - (48 : Int32)) t7).bind fun z9 => (if z9.1 = 0 then (xlet (y5 + 1) fun v5_10 => rc (v7_3, t4, y4, v5_10, z9.2)) else (xlet (y4 + 1) fun v4_11 => (xlet (y5 + 1) fun v5_12 => rc (v7_3, t4, v4_11, v5_12, z9.2)))))) fun j8 => (if y2 = 2 then j8 1 else j8 0)) else (xlet (y5 + 1) fun v5_6 => rc (v7_3, t4, y4, v5_6, S1)))) fun j5 => (if y2 = 0 then (xlet (v6_2 - (48 : Int32)) fun v3_13 => j5 v3_13) else j5 y3)))) else none))
def F_X6_tellLine (S0 : XSt) (x1 : Int32) : (Option (Int32 × XSt)) :=
  (xlp (fun k rc t => B_X6_tellLine_10  x1 k rc t.1 t.2.1 t.2.2.1 t.2.2.2.1 t.2.2.2.2) (fun e14 => (some (e14.1, e14.2))) XFU (0, 0, 0, 0, S0))
abbrev rm_X6_tellLine : Room := { frames := 1, cells := 0, slots := 0, locals := 24 }
set_option maxRecDepth 100000 in
set_option maxHeartbeats 4000000 in
theorem w_X6_tellLine_10 (l : Launch) (D : va_G) (a : Nat → Nat) (b : Nat → ClassId) (S0 : XSt) {Γ : XG XSt} {r9 : Int32} {S9 : XSt} (C : Cx (ωC D a b) Γ cX6_tellLine "GraveOrder" (some .int) l rm_X6_tellLine 8 (some (.int r9), S9)) (c1 : Int32)  (kx : (Int32 × XSt) → Option (Int32 × XSt)) (rc : (Int32 × Int32 × Int32 × Int32 × XSt) → Option (Int32 × XSt)) (hk : ∀ e, kx e = some (r9, S9) → XAt (ωC D a b) Γ 104 [(4, .int e.1)] [] e.2) (ih : ∀ t, rc t = some (r9, S9) → XAt (ωC D a b) Γ 10 [(0, .ref (a 0)), (1, .int c1), (2, .int t.1), (3, .int t.2.1), (4, .int t.2.2.1), (5, .int t.2.2.2.1)] [] t.2.2.2.2) (y2 : Int32) (y3 : Int32) (y4 : Int32) (y5 : Int32) (S1 : XSt) (h : B_X6_tellLine_10  c1 kx rc y2 y3 y4 y5 S1 = some (r9, S9)) : XAt (ωC D a b) Γ 10 [(0, .ref (a 0)), (1, .int c1), (2, .int y2), (3, .int y3), (4, .int y4), (5, .int y5)] [] S1 := by
  unfold B_X6_tellLine_10 at h
  refine x_iload 10 C dX6_tellLine_10 5 rfl ?_
  refine x_aload_n 12 C dX6_tellLine_12 rfl 0 rfl ?_
  refine gX6_line 13 C kw_279 dX6_tellLine_13 ?_
  refine gX2_length 16 C kw_146 dX6_tellLine_16 ?_
  refine x_icmp_ge 19 C 104 dX6_tellLine_19 rfl h (fun h => ?_) (fun h => ?_)
  · exact x_sub 104 [4] rfl (hk _ h)
  · refine x_aload_n 22 C dX6_tellLine_22 rfl 0 rfl ?_
    refine gX6_line 23 C kw_279 dX6_tellLine_23 ?_
    refine gX2_bytes 26 C kw_144 dX6_tellLine_26 ?_
    refine x_iload 29 C dX6_tellLine_29 5 rfl ?_
    obtain ⟨hg1, h⟩ := xif_some h
    refine c_iald 31 C (n := 40) rfl hg1 dX6_tellLine_31 ?_
    refine x_top h (fun v6_2 h => ?_)
    refine x_istore 32 C (lv' := [(0, .ref (a 0)), (1, .int c1), (2, .int y2), (3, .int y3), (4, .int y4), (5, .int y5), (6, .int v6_2)]) dX6_tellLine_32 (Nat.le_of_ble_eq_true rfl) [1, 2, 3, 4, 5, 6, 0] rfl ?_
    refine x_iload_n 34 C dX6_tellLine_34 rfl 2 rfl ?_
    refine x_iload 35 C dX6_tellLine_35 6 rfl ?_
    refine x_aload_n 37 C dX6_tellLine_37 rfl 0 rfl ?_
    refine gX6_yard 38 C kw_278 dX6_tellLine_38 ?_
    refine gX5_graves 41 C kw_104 dX6_tellLine_41 ?_
    refine x_callS 44 C 3 (As := [.int y2, .int v6_2, .int (S1 1 4)]) (rest := []) (M_X2_follow l (ωC D a b) S1 y2 v6_2 (S1 1 4)) kw_386 ms_X2_follow mh_X2_follow ⟨rfl, rfl⟩ ⟨Nat.le_of_ble_eq_true rfl, Nat.le_of_ble_eq_true rfl⟩ rfl rfl (Nat.le_of_ble_eq_true rfl) dX6_tellLine_44 ?_
    refine x_top h (fun v7_3 h => ?_)
    refine x_istore 47 C (lv' := [(0, .ref (a 0)), (1, .int c1), (2, .int y2), (3, .int y3), (4, .int y4), (5, .int y5), (6, .int v6_2), (7, .int v7_3)]) dX6_tellLine_47 (Nat.le_of_ble_eq_true rfl) [1, 2, 3, 4, 5, 6, 7, 0] rfl ?_
    refine x_iload_n 49 C dX6_tellLine_49 rfl 2 rfl ?_
    refine x_join (P := fun t4 => XAt (ωC D a b) Γ 59 [(0, .ref (a 0)), (1, .int c1), (2, .int y2), (3, .int t4), (4, .int y4), (5, .int y5), (6, .int v6_2), (7, .int v7_3)] [] S1) h (fun t4 h => ?_) (fun j5 hj5 h => ?_)
    · refine x_iload 59 C dX6_tellLine_59 7 rfl ?_
      refine x_iconst 61 C dX6_tellLine_61 ci_4 ?_
      refine x_icmp_ne 62 C 95 dX6_tellLine_62 rfl h (fun h => ?_) (fun h => ?_)
      · refine x_iload 95 C dX6_tellLine_95 7 rfl ?_
        refine x_istore_n 97 C (lv' := [(0, .ref (a 0)), (1, .int c1), (2, .int v7_3), (3, .int t4), (4, .int y4), (5, .int y5)]) dX6_tellLine_97 rfl (Nat.le_of_ble_eq_true rfl) [1, 2, 0, 3, 4, 5] rfl ?_
        refine x_iinc 98 C (L := fun v5_6 => [(0, .ref (a 0)), (1, .int c1), (2, .int v7_3), (3, .int t4), (4, .int y4), (5, .int v5_6)]) dX6_tellLine_98 5 rfl ci_1 (Nat.le_of_ble_eq_true rfl) [1, 2, 3, 4, 5, 0] (fun _ => rfl) h (fun v5_6 h => ?_)
        refine x_goto 101 C 10 dX6_tellLine_101 rfl ?_
        exact ih _ h
      · refine x_aload_n 65 C dX6_tellLine_65 rfl 0 rfl ?_
        refine gX6_finds 66 C kw_280 dX6_tellLine_66 ?_
        refine x_iload_n 69 C dX6_tellLine_69 rfl 1 rfl ?_
        refine x_iload_n 70 C dX6_tellLine_70 rfl 3 rfl ?_
        refine x_iload 71 C dX6_tellLine_71 6 rfl ?_
        refine x_bipush 73 C dX6_tellLine_73 cb_48 ?_
        refine x_isub 75 C dX6_tellLine_75 ?_
        refine x_iload_n 76 C dX6_tellLine_76 rfl 2 rfl ?_
        refine x_iconst 77 C dX6_tellLine_77 ci_2 ?_
        refine x_join (P := fun t7 => XAt (ωC D a b) Γ 86 [(0, .ref (a 0)), (1, .int c1), (3, .int t4), (4, .int y4), (5, .int y5), (7, .int v7_3)] [.int t7, .int (v6_2 - (48 : Int32)), .int t4, .int c1, .ref (a 3)] S1) h (fun t7 h => ?_) (fun j8 hj8 h => ?_)
        · obtain ⟨z9, hz9, h⟩ := xbind_some h
          refine x_callV 86 C (q0 := 3) (ci := 0) 4 (As := [.int c1, .int t4, .int (v6_2 - (48 : Int32)), .int t7]) (rest := []) (M_X0_keep l D a b S1 c1 t4 (v6_2 - (48 : Int32)) t7  hz9) (by rfl) rfl kw_387 mv_X0_keep mh_X0_keep ⟨rfl, rfl⟩ ⟨Nat.le_of_ble_eq_true rfl, Nat.le_of_ble_eq_true rfl⟩ rfl rfl (Nat.le_of_ble_eq_true rfl) dX6_tellLine_86 ?_
          refine x_if_eq 89 C 95 dX6_tellLine_89 rfl h (fun h => ?_) (fun h => ?_)
          · refine x_iload 95 C dX6_tellLine_95 5 rfl ?_
            refine x_istore_n 97 C (lv' := [(0, .ref (a 0)), (1, .int c1), (2, .int v7_3), (3, .int t4), (4, .int y4), (5, .int y5)]) dX6_tellLine_97 rfl (Nat.le_of_ble_eq_true rfl) [1, 2, 0, 3, 4, 5] rfl ?_
            refine x_iinc 98 C (L := fun v5_10 => [(0, .ref (a 0)), (1, .int c1), (2, .int v7_3), (3, .int t4), (4, .int y4), (5, .int v5_10)]) dX6_tellLine_98 5 rfl ci_1 (Nat.le_of_ble_eq_true rfl) [1, 2, 3, 4, 5, 0] (fun _ => rfl) h (fun v5_10 h => ?_)
            refine x_goto 101 C 10 dX6_tellLine_101 rfl ?_
            exact ih _ h
          · refine x_iinc 92 C (L := fun v4_11 => [(0, .ref (a 0)), (1, .int c1), (3, .int t4), (4, .int v4_11), (5, .int y5), (7, .int v7_3)]) dX6_tellLine_92 3 rfl ci_1 (Nat.le_of_ble_eq_true rfl) [1, 2, 3, 0, 4, 5] (fun _ => rfl) h (fun v4_11 h => ?_)
            refine x_iload 95 C dX6_tellLine_95 5 rfl ?_
            refine x_istore_n 97 C (lv' := [(0, .ref (a 0)), (1, .int c1), (2, .int v7_3), (3, .int t4), (4, .int v4_11), (5, .int y5)]) dX6_tellLine_97 rfl (Nat.le_of_ble_eq_true rfl) [1, 2, 0, 3, 4, 5] rfl ?_
            refine x_iinc 98 C (L := fun v5_12 => [(0, .ref (a 0)), (1, .int c1), (2, .int v7_3), (3, .int t4), (4, .int v4_11), (5, .int v5_12)]) dX6_tellLine_98 5 rfl ci_1 (Nat.le_of_ble_eq_true rfl) [1, 2, 3, 4, 5, 0] (fun _ => rfl) h (fun v5_12 h => ?_)
            refine x_goto 101 C 10 dX6_tellLine_101 rfl ?_
            exact ih _ h
        refine x_icmp_ne 78 C 85 dX6_tellLine_78 rfl h (fun h => ?_) (fun h => ?_)
        · refine x_iconst 85 C dX6_tellLine_85 ci_0 ?_
          exact x_sub 86 [0, 1, 3, 4, 5, 7] rfl (hj8 _ h)
        · refine x_iconst 81 C dX6_tellLine_81 ci_1 ?_
          refine x_goto 82 C 86 dX6_tellLine_82 rfl ?_
          exact x_sub 86 [0, 1, 3, 4, 5, 7] rfl (hj8 _ h)
    refine x_if_ne 50 C 59 dX6_tellLine_50 rfl h (fun h => ?_) (fun h => ?_)
    · exact hj5 _ h
    · refine x_iload 53 C dX6_tellLine_53 6 rfl ?_
      refine x_bipush 55 C dX6_tellLine_55 cb_48 ?_
      refine x_isub 57 C dX6_tellLine_57 ?_
      refine x_top h (fun v3_13 h => ?_)
      refine x_istore_n 58 C (lv' := [(0, .ref (a 0)), (1, .int c1), (2, .int y2), (3, .int v3_13), (4, .int y4), (5, .int y5), (6, .int v6_2), (7, .int v7_3)]) dX6_tellLine_58 rfl (Nat.le_of_ble_eq_true rfl) [1, 2, 3, 0, 4, 5, 6, 7] rfl ?_
      exact hj5 _ h
set_option maxRecDepth 100000 in
set_option maxHeartbeats 4000000 in
theorem M_X6_tellLine (l : Launch) (D : va_G) (a : Nat → Nat) (b : Nat → ClassId) (S0 : XSt) (x1 : Int32)  {r9 : Int32} {S9 : XSt} (h : F_X6_tellLine S0 x1 = some (r9, S9)) : xM l (ωC D a b) yX6_tellLine cX6_tellLine 8 (some .int) rm_X6_tellLine [.ref (a 0), .int x1] S0 (some (.int r9), S9) := by
  unfold F_X6_tellLine at h
  refine xM_of (own := "GraveOrder") (by decide) rfl (Nat.le_of_ble_eq_true rfl) (fun Γ C => ?_)
  refine x_sub 0 [0, 1] (lv' := [(0, .ref (a 0)), (1, .int x1)]) rfl ?_
  refine x_iconst 0 C dX6_tellLine_0 ci_0 ?_
  refine x_istore_n 1 C (lv' := [(0, .ref (a 0)), (1, .int x1), (2, .int 0)]) dX6_tellLine_1 rfl (Nat.le_of_ble_eq_true rfl) [1, 2, 0] rfl ?_
  refine x_iconst 2 C dX6_tellLine_2 ci_0 ?_
  refine x_istore_n 3 C (lv' := [(0, .ref (a 0)), (1, .int x1), (2, .int 0), (3, .int 0)]) dX6_tellLine_3 rfl (Nat.le_of_ble_eq_true rfl) [1, 2, 3, 0] rfl ?_
  refine x_iconst 4 C dX6_tellLine_4 ci_0 ?_
  refine x_istore 5 C (lv' := [(0, .ref (a 0)), (1, .int x1), (2, .int 0), (3, .int 0), (4, .int 0)]) dX6_tellLine_5 (Nat.le_of_ble_eq_true rfl) [1, 2, 3, 4, 0] rfl ?_
  refine x_iconst 7 C dX6_tellLine_7 ci_0 ?_
  refine x_istore 8 C (lv' := [(0, .ref (a 0)), (1, .int x1), (2, .int 0), (3, .int 0), (4, .int 0), (5, .int 0)]) dX6_tellLine_8 (Nat.le_of_ble_eq_true rfl) [1, 2, 3, 4, 5, 0] rfl ?_
  refine x_loop (E := fun e => XAt (ωC D a b) Γ 104 [(4, .int e.1)] [] e.2) (P := fun t => XAt (ωC D a b) Γ 10 [(0, .ref (a 0)), (1, .int x1), (2, .int t.1), (3, .int t.2.1), (4, .int t.2.2.1), (5, .int t.2.2.2.1)] [] t.2.2.2.2) h (fun e14 h => ?_) (fun kx rc t hk ih h => w_X6_tellLine_10 l D a b S0 C   x1 kx rc hk ih t.1 t.2.1 t.2.2.1 t.2.2.2.1 t.2.2.2.2 h)
  refine x_iload 104 C dX6_tellLine_104 0 rfl ?_
  exact x_iret 106 C dX6_tellLine_106 (Prod.mk.inj (Option.some.inj h)).1 (Prod.mk.inj (Option.some.inj h)).2
/-! GraveOrder.findsChanged ()V -/
def F_X6_findsChanged (S0 : XSt)  : (Option XSt) :=
  ((F_X0_layInto S0 10 8 (S0 0 6)).bind fun z1 => (xlet (xst z1 4 12 1) fun S2 => (some S2)))
abbrev rm_X6_findsChanged : Room := { frames := 1, cells := 0, slots := 0, locals := 25 }
set_option maxRecDepth 100000 in
set_option maxHeartbeats 4000000 in
theorem M_X6_findsChanged (l : Launch) (D : va_G) (a : Nat → Nat) (b : Nat → ClassId) (S0 : XSt)   {S9 : XSt} (h : F_X6_findsChanged S0 = some S9) : xM l (ωC D a b) yX6_findsChanged cX6_findsChanged 1 none rm_X6_findsChanged [.ref (a 0)] S0 (none, S9) := by
  unfold F_X6_findsChanged at h
  refine xM_of (own := "GraveOrder") (by decide) rfl (Nat.le_of_ble_eq_true rfl) (fun Γ C => ?_)
  refine x_sub 0 [0] (lv' := [(0, .ref (a 0))]) rfl ?_
  refine x_aload_n 0 C dX6_findsChanged_0 rfl 0 rfl ?_
  refine gX6_finds 1 C kw_280 dX6_findsChanged_1 ?_
  refine x_aload_n 4 C dX6_findsChanged_4 rfl 0 rfl ?_
  refine gX6_yard 5 C kw_278 dX6_findsChanged_5 ?_
  refine gX5_kinds 8 C kw_102 dX6_findsChanged_8 ?_
  refine x_aload_n 11 C dX6_findsChanged_11 rfl 0 rfl ?_
  refine gX6_asOfTime 12 C kw_284 dX6_findsChanged_12 ?_
  obtain ⟨z1, hz1, h⟩ := xbind_some h
  refine x_callV 15 C (q0 := 3) (ci := 0) 2 (As := [.ref (a 10), .int (S0 0 6)]) (rest := []) (M_X0_layInto l D a b S0 10 8 (S0 0 6) rfl hz1) (by rfl) rfl kw_395 mv_X0_layInto mh_X0_layInto ⟨rfl, rfl⟩ ⟨Nat.le_of_ble_eq_true rfl, Nat.le_of_ble_eq_true rfl⟩ rfl rfl (Nat.le_of_ble_eq_true rfl) dX6_findsChanged_15 ?_
  refine x_aload_n 18 C dX6_findsChanged_18 rfl 0 rfl ?_
  refine gX6_orders 19 C kw_281 dX6_findsChanged_19 ?_
  refine x_iconst 22 C dX6_findsChanged_22 ci_1 ?_
  refine pX3_stale 23 C rfl kw_198 dX6_findsChanged_23 ?_
  refine x_topS h (fun S2 h => ?_)
  exact x_vret 26 C dX6_findsChanged_26 (Option.some.inj h)
/-! GraveOrder.tell (I)I -/
def F_X6_tell (S0 : XSt) (x1 : Int32) : (Option (Int32 × XSt)) :=
  ((F_X6_canTellAt S0 x1).bind fun z1 => (if z1 = 0 then (some ((-2), S0)) else ((F_X2_firstFault S0 (S0 1 4)).bind fun z2 => (if z2 = (-1) then ((F_X6_tellLine S0 x1).bind fun z3 => (xlet z3.1 fun v2_4 => (xlet (xst z3.2 2 1 0) fun S5 => ((F_X6_findsChanged S5).bind fun z6 => (some (v2_4, z6)))))) else (some ((-3), S0))))))
abbrev rm_X6_tell : Room := { frames := 2, cells := 0, slots := 0, locals := 51 }
set_option maxRecDepth 100000 in
set_option maxHeartbeats 4000000 in
theorem M_X6_tell (l : Launch) (D : va_G) (a : Nat → Nat) (b : Nat → ClassId) (S0 : XSt) (x1 : Int32)  {r9 : Int32} {S9 : XSt} (h : F_X6_tell S0 x1 = some (r9, S9)) : xM l (ωC D a b) yX6_tell cX6_tell 3 (some .int) rm_X6_tell [.ref (a 0), .int x1] S0 (some (.int r9), S9) := by
  unfold F_X6_tell at h
  refine xM_of (own := "GraveOrder") (by decide) rfl (Nat.le_of_ble_eq_true rfl) (fun Γ C => ?_)
  refine x_sub 0 [0, 1] (lv' := [(0, .ref (a 0)), (1, .int x1)]) rfl ?_
  refine x_aload_n 0 C dX6_tell_0 rfl 0 rfl ?_
  refine x_iload_n 1 C dX6_tell_1 rfl 1 rfl ?_
  obtain ⟨z1, hz1, h⟩ := xbind_some h
  refine x_callV 2 C (q0 := 0) (ci := 6) 1 (As := [.int x1]) (rest := []) (M_X6_canTellAt l D a b S0 x1  hz1) (by rfl) rfl kw_374 mv_X6_canTellAt mh_X6_canTellAt ⟨rfl, rfl⟩ ⟨Nat.le_of_ble_eq_true rfl, Nat.le_of_ble_eq_true rfl⟩ rfl rfl (Nat.le_of_ble_eq_true rfl) dX6_tell_2 ?_
  refine x_if_ne 5 C 11 dX6_tell_5 rfl h (fun h => ?_) (fun h => ?_)
  · refine x_aload_n 11 C dX6_tell_11 rfl 0 rfl ?_
    refine gX6_line 12 C kw_279 dX6_tell_12 ?_
    refine x_aload_n 15 C dX6_tell_15 rfl 0 rfl ?_
    refine gX6_yard 16 C kw_278 dX6_tell_16 ?_
    refine gX5_graves 19 C kw_104 dX6_tell_19 ?_
    obtain ⟨z2, hz2, h⟩ := xbind_some h
    refine x_callV 22 C (q0 := 2) (ci := 2) 1 (As := [.int (S0 1 4)]) (rest := []) (M_X2_firstFault l D a b S0 (S0 1 4)  hz2) (by rfl) rfl kw_363 mv_X2_firstFault mh_X2_firstFault ⟨rfl, rfl⟩ ⟨Nat.le_of_ble_eq_true rfl, Nat.le_of_ble_eq_true rfl⟩ rfl rfl (Nat.le_of_ble_eq_true rfl) dX6_tell_22 ?_
    refine x_iconst 25 C dX6_tell_25 ci_m1 ?_
    refine x_icmp_eq 26 C 32 dX6_tell_26 rfl h (fun h => ?_) (fun h => ?_)
    · refine x_aload_n 32 C dX6_tell_32 rfl 0 rfl ?_
      refine x_iload_n 33 C dX6_tell_33 rfl 1 rfl ?_
      obtain ⟨z3, hz3, h⟩ := xbind_some h
      refine x_callV 34 C (q0 := 0) (ci := 6) 1 (As := [.int x1]) (rest := []) (M_X6_tellLine l D a b S0 x1  hz3) (by rfl) rfl kw_382 mv_X6_tellLine mh_X6_tellLine ⟨rfl, rfl⟩ ⟨Nat.le_of_ble_eq_true rfl, Nat.le_of_ble_eq_true rfl⟩ rfl rfl (Nat.le_of_ble_eq_true rfl) dX6_tell_34 ?_
      refine x_top h (fun v2_4 h => ?_)
      refine x_istore_n 37 C (lv' := [(0, .ref (a 0)), (2, .int v2_4)]) dX6_tell_37 rfl (Nat.le_of_ble_eq_true rfl) [1, 0] rfl ?_
      refine x_aload_n 38 C dX6_tell_38 rfl 0 rfl ?_
      refine gX6_line 39 C kw_279 dX6_tell_39 ?_
      refine x_iconst 42 C dX6_tell_42 ci_0 ?_
      refine pX2_length 43 C kw_146 dX6_tell_43 ?_
      refine x_topS h (fun S5 h => ?_)
      refine x_aload_n 46 C dX6_tell_46 rfl 0 rfl ?_
      obtain ⟨z6, hz6, h⟩ := xbind_some h
      refine x_callV 47 C (q0 := 0) (ci := 6) 0 (As := []) (rest := []) (M_X6_findsChanged l D a b S5   hz6) (by rfl) rfl kw_391 mv_X6_findsChanged mh_X6_findsChanged ⟨rfl, rfl⟩ ⟨Nat.le_of_ble_eq_true rfl, Nat.le_of_ble_eq_true rfl⟩ rfl rfl (Nat.le_of_ble_eq_true rfl) dX6_tell_47 ?_
      refine x_iload_n 50 C dX6_tell_50 rfl 1 rfl ?_
      exact x_iret 51 C dX6_tell_51 (Prod.mk.inj (Option.some.inj h)).1 (Prod.mk.inj (Option.some.inj h)).2
    · refine x_bipush 29 C dX6_tell_29 cb_m3 ?_
      exact x_iret 31 C dX6_tell_31 (Prod.mk.inj (Option.some.inj h)).1 (Prod.mk.inj (Option.some.inj h)).2
  · refine x_bipush 8 C dX6_tell_8 cb_m2 ?_
    exact x_iret 10 C dX6_tell_10 (Prod.mk.inj (Option.some.inj h)).1 (Prod.mk.inj (Option.some.inj h)).2
/-! GraveOrder.isSheet (I)Z -/
def F_X6_isSheet (x0 : Int32) : Int32 :=
  (F_X6_within x0 0 3)
theorem Z_X6_isSheet (x0 : Int32) : xbool (F_X6_isSheet x0) = true := by
  unfold F_X6_isSheet
  repeat' split
  all_goals first | rfl | exact Z_X6_within _ _ _ | exact Z_X7_in _ _ _ | apply Z_X7_is
abbrev rm_X6_isSheet : Room := { frames := 1, cells := 0, slots := 0, locals := 22 }
set_option maxRecDepth 100000 in
set_option maxHeartbeats 4000000 in
theorem M_X6_isSheet {σ : Type} (l : Launch) (ω : XW σ) (S0 : σ) (x0 : Int32)  : xM l ω yX6_isSheet cX6_isSheet 1 (some .boolean) rm_X6_isSheet [.int x0] S0 (some (.int (F_X6_isSheet x0)), S0) := by
  obtain ⟨r9, h⟩ : ∃ r9, F_X6_isSheet x0 = r9 := ⟨_, rfl⟩
  rw [h]
  unfold F_X6_isSheet at h
  refine xM_of (own := "GraveOrder") (by decide) rfl (Nat.le_of_ble_eq_true rfl) (fun Γ C => ?_)
  refine x_sub 0 [0] (lv' := [(0, .int x0)]) rfl ?_
  refine x_iload_n 0 C dX6_isSheet_0 rfl 0 rfl ?_
  refine x_iconst 1 C dX6_isSheet_1 ci_0 ?_
  refine x_iconst 2 C dX6_isSheet_2 ci_3 ?_
  refine x_callS 3 C 3 (As := [.int x0, .int 0, .int 3]) (rest := []) (M_X6_within l ω S0 x0 0 3) kw_307 ms_X6_within mh_X6_within ⟨rfl, rfl⟩ ⟨Nat.le_of_ble_eq_true rfl, Nat.le_of_ble_eq_true rfl⟩ rfl rfl (Nat.le_of_ble_eq_true rfl) dX6_isSheet_3 ?_
  exact x_zret 6 C dX6_isSheet_6 (Z_X6_within x0 0 3) h rfl
/-! GraveOrder.finding (I)I -/
def F_X6_finding (S0 : XSt) (x1 : Int32) : (Option (Int32 × XSt)) :=
  (xlet (xst S0 0 7 x1) fun S1 => (some (((-10 : Int32) - x1), S1)))
abbrev rm_X6_finding : Room := { frames := 0, cells := 0, slots := 0, locals := 0 }
set_option maxRecDepth 100000 in
set_option maxHeartbeats 4000000 in
theorem M_X6_finding (l : Launch) (D : va_G) (a : Nat → Nat) (b : Nat → ClassId) (S0 : XSt) (x1 : Int32)  {r9 : Int32} {S9 : XSt} (h : F_X6_finding S0 x1 = some (r9, S9)) : xM l (ωC D a b) yX6_finding cX6_finding 2 (some .int) rm_X6_finding [.ref (a 0), .int x1] S0 (some (.int r9), S9) := by
  unfold F_X6_finding at h
  refine xM_of (own := "GraveOrder") (by decide) rfl (Nat.le_of_ble_eq_true rfl) (fun Γ C => ?_)
  refine x_sub 0 [0, 1] (lv' := [(0, .ref (a 0)), (1, .int x1)]) rfl ?_
  refine x_aload_n 0 C dX6_finding_0 rfl 0 rfl ?_
  refine x_iload_n 1 C dX6_finding_1 rfl 1 rfl ?_
  refine pX6_latestFinding 2 C kw_285 dX6_finding_2 ?_
  refine x_topS h (fun S1 h => ?_)
  refine x_bipush 5 C dX6_finding_5 cb_m10 ?_
  refine x_iload_n 7 C dX6_finding_7 rfl 1 rfl ?_
  refine x_isub 8 C dX6_finding_8 ?_
  exact x_iret 9 C dX6_finding_9 (Prod.mk.inj (Option.some.inj h)).1 (Prod.mk.inj (Option.some.inj h)).2
/-! GraveOrder.tellSheet (LGraveOrder$Sheet;II)I -/
def B_X6_tellSheet_6 (qq1 : Nat) (c2 : Int32) (c3 : Int32) (kx : (Int32 × XSt) → Option (Int32 × XSt)) (rc : (Int32 × Int32 × XSt) → Option (Int32 × XSt)) (y4 : Int32) (y5 : Int32) (S1 : XSt) : Option (Int32 × XSt) :=
  (if 10 ≤ y5 then kx (y4, S1) else (if (S1 qq1 3) ≤ y5 then kx (y4, S1) else (if xin y5 40 = true then (xlet (S1 (qq1 + 4) (xti y5)) fun v6_2 => (if (F_X6_within v6_2 0 1) = 0 then kx (y4, S1) else (xlet (fun (t3 : Int32) => ((F_X0_keep S1 c3 c2 y5 t3).bind fun z5 => (if z5.1 = 0 then kx (y4, z5.2) else (xlet (y4 + 1) fun v4_6 => (xlet (y5 + 1) fun v5_7 => rc (v4_6, v5_7, z5.2)))))) fun j4 => (if v6_2 = 1 then j4 1 else j4 0)))) else none)))
def F_X6_tellSheet (S0 : XSt) (q1 : Nat) (x2 : Int32) (x3 : Int32) : (Option (Int32 × XSt)) :=
  (xlp (fun k rc t => B_X6_tellSheet_6 q1  x2 x3 k rc t.1 t.2.1 t.2.2) (fun e8 => (some (e8.1, e8.2))) XFU (0, 0, S0))
abbrev rm_X6_tellSheet : Room := { frames := 1, cells := 0, slots := 0, locals := 24 }
set_option maxRecDepth 100000 in
set_option maxHeartbeats 4000000 in
theorem w_X6_tellSheet_6 (l : Launch) (D : va_G) (a : Nat → Nat) (b : Nat → ClassId) (S0 : XSt) {Γ : XG XSt} {r9 : Int32} {S9 : XSt} (C : Cx (ωC D a b) Γ cX6_tellSheet "GraveOrder" (some .int) l rm_X6_tellSheet 7 (some (.int r9), S9)) (qq1 : Nat) (hqq1 : shC qq1 = true) (c2 : Int32) (c3 : Int32)  (kx : (Int32 × XSt) → Option (Int32 × XSt)) (rc : (Int32 × Int32 × XSt) → Option (Int32 × XSt)) (hk : ∀ e, kx e = some (r9, S9) → XAt (ωC D a b) Γ 78 [(4, .int e.1)] [] e.2) (ih : ∀ t, rc t = some (r9, S9) → XAt (ωC D a b) Γ 6 [(0, .ref (a 0)), (1, .ref (a qq1)), (2, .int c2), (3, .int c3), (4, .int t.1), (5, .int t.2.1)] [] t.2.2) (y4 : Int32) (y5 : Int32) (S1 : XSt) (h : B_X6_tellSheet_6 qq1  c2 c3 kx rc y4 y5 S1 = some (r9, S9)) : XAt (ωC D a b) Γ 6 [(0, .ref (a 0)), (1, .ref (a qq1)), (2, .int c2), (3, .int c3), (4, .int y4), (5, .int y5)] [] S1 := by
  unfold B_X6_tellSheet_6 at h
  refine x_iload 6 C dX6_tellSheet_6 5 rfl ?_
  refine x_bipush 8 C dX6_tellSheet_8 cb_10 ?_
  refine x_icmp_ge 10 C 78 dX6_tellSheet_10 rfl h (fun h => ?_) (fun h => ?_)
  · exact x_sub 78 [4] rfl (hk _ h)
  · refine x_iload 13 C dX6_tellSheet_13 5 rfl ?_
    refine x_aload_n 15 C dX6_tellSheet_15 rfl 1 rfl ?_
    refine gX4_size 16 C hqq1 kw_268 dX6_tellSheet_16 ?_
    refine x_icmp_ge 19 C 78 dX6_tellSheet_19 rfl h (fun h => ?_) (fun h => ?_)
    · exact x_sub 78 [4] rfl (hk _ h)
    · refine x_aload_n 22 C dX6_tellSheet_22 rfl 1 rfl ?_
      refine gX4_items 23 C hqq1 kw_262 dX6_tellSheet_23 ?_
      refine x_iload 26 C dX6_tellSheet_26 5 rfl ?_
      obtain ⟨hg1, h⟩ := xif_some h
      refine c_iald 28 C (n := 40) (shC_items hqq1) hg1 dX6_tellSheet_28 ?_
      refine x_top h (fun v6_2 h => ?_)
      refine x_istore 29 C (lv' := [(0, .ref (a 0)), (1, .ref (a qq1)), (2, .int c2), (3, .int c3), (4, .int y4), (5, .int y5), (6, .int v6_2)]) dX6_tellSheet_29 (Nat.le_of_ble_eq_true rfl) [1, 2, 3, 4, 5, 6, 0] rfl ?_
      refine x_iload 31 C dX6_tellSheet_31 6 rfl ?_
      refine x_iconst 33 C dX6_tellSheet_33 ci_0 ?_
      refine x_iconst 34 C dX6_tellSheet_34 ci_1 ?_
      refine x_callS 35 C 3 (As := [.int v6_2, .int 0, .int 1]) (rest := []) (M_X6_within l (ωC D a b) S1 v6_2 0 1) kw_307 ms_X6_within mh_X6_within ⟨rfl, rfl⟩ ⟨Nat.le_of_ble_eq_true rfl, Nat.le_of_ble_eq_true rfl⟩ rfl rfl (Nat.le_of_ble_eq_true rfl) dX6_tellSheet_35 ?_
      refine x_if_eq 38 C 78 dX6_tellSheet_38 rfl h (fun h => ?_) (fun h => ?_)
      · exact x_sub 78 [4] rfl (hk _ h)
      · refine x_aload_n 41 C dX6_tellSheet_41 rfl 0 rfl ?_
        refine gX6_finds 42 C kw_280 dX6_tellSheet_42 ?_
        refine x_iload_n 45 C dX6_tellSheet_45 rfl 3 rfl ?_
        refine x_iload_n 46 C dX6_tellSheet_46 rfl 2 rfl ?_
        refine x_iload 47 C dX6_tellSheet_47 5 rfl ?_
        refine x_iload 49 C dX6_tellSheet_49 6 rfl ?_
        refine x_iconst 51 C dX6_tellSheet_51 ci_1 ?_
        refine x_join (P := fun t3 => XAt (ωC D a b) Γ 60 [(0, .ref (a 0)), (1, .ref (a qq1)), (2, .int c2), (3, .int c3), (4, .int y4), (5, .int y5)] [.int t3, .int y5, .int c2, .int c3, .ref (a 3)] S1) h (fun t3 h => ?_) (fun j4 hj4 h => ?_)
        · obtain ⟨z5, hz5, h⟩ := xbind_some h
          refine x_callV 60 C (q0 := 3) (ci := 0) 4 (As := [.int c3, .int c2, .int y5, .int t3]) (rest := []) (M_X0_keep l D a b S1 c3 c2 y5 t3  hz5) (by rfl) rfl kw_387 mv_X0_keep mh_X0_keep ⟨rfl, rfl⟩ ⟨Nat.le_of_ble_eq_true rfl, Nat.le_of_ble_eq_true rfl⟩ rfl rfl (Nat.le_of_ble_eq_true rfl) dX6_tellSheet_60 ?_
          refine x_if_ne 63 C 69 dX6_tellSheet_63 rfl h (fun h => ?_) (fun h => ?_)
          · refine x_iinc 69 C (L := fun v4_6 => [(0, .ref (a 0)), (1, .ref (a qq1)), (2, .int c2), (3, .int c3), (4, .int v4_6), (5, .int y5)]) dX6_tellSheet_69 4 rfl ci_1 (Nat.le_of_ble_eq_true rfl) [1, 2, 3, 4, 0, 5] (fun _ => rfl) h (fun v4_6 h => ?_)
            refine x_iinc 72 C (L := fun v5_7 => [(0, .ref (a 0)), (1, .ref (a qq1)), (2, .int c2), (3, .int c3), (4, .int v4_6), (5, .int v5_7)]) dX6_tellSheet_72 5 rfl ci_1 (Nat.le_of_ble_eq_true rfl) [1, 2, 3, 4, 5, 0] (fun _ => rfl) h (fun v5_7 h => ?_)
            refine x_goto 75 C 6 dX6_tellSheet_75 rfl ?_
            exact ih _ h
          · refine x_goto 66 C 78 dX6_tellSheet_66 rfl ?_
            exact x_sub 78 [4] rfl (hk _ h)
        refine x_icmp_ne 52 C 59 dX6_tellSheet_52 rfl h (fun h => ?_) (fun h => ?_)
        · refine x_iconst 59 C dX6_tellSheet_59 ci_0 ?_
          exact x_sub 60 [0, 1, 2, 3, 4, 5] rfl (hj4 _ h)
        · refine x_iconst 55 C dX6_tellSheet_55 ci_1 ?_
          refine x_goto 56 C 60 dX6_tellSheet_56 rfl ?_
          exact x_sub 60 [0, 1, 2, 3, 4, 5] rfl (hj4 _ h)
set_option maxRecDepth 100000 in
set_option maxHeartbeats 4000000 in
theorem M_X6_tellSheet (l : Launch) (D : va_G) (a : Nat → Nat) (b : Nat → ClassId) (S0 : XSt) (q1 : Nat) (x2 : Int32) (x3 : Int32) (hq1 : shC q1 = true) {r9 : Int32} {S9 : XSt} (h : F_X6_tellSheet S0 q1 x2 x3 = some (r9, S9)) : xM l (ωC D a b) yX6_tellSheet cX6_tellSheet 7 (some .int) rm_X6_tellSheet [.ref (a 0), .ref (a q1), .int x2, .int x3] S0 (some (.int r9), S9) := by
  unfold F_X6_tellSheet at h
  refine xM_of (own := "GraveOrder") (by decide) rfl (Nat.le_of_ble_eq_true rfl) (fun Γ C => ?_)
  refine x_sub 0 [0, 1, 2, 3] (lv' := [(0, .ref (a 0)), (1, .ref (a q1)), (2, .int x2), (3, .int x3)]) rfl ?_
  refine x_iconst 0 C dX6_tellSheet_0 ci_0 ?_
  refine x_istore 1 C (lv' := [(0, .ref (a 0)), (1, .ref (a q1)), (2, .int x2), (3, .int x3), (4, .int 0)]) dX6_tellSheet_1 (Nat.le_of_ble_eq_true rfl) [1, 2, 3, 4, 0] rfl ?_
  refine x_iconst 3 C dX6_tellSheet_3 ci_0 ?_
  refine x_istore 4 C (lv' := [(0, .ref (a 0)), (1, .ref (a q1)), (2, .int x2), (3, .int x3), (4, .int 0), (5, .int 0)]) dX6_tellSheet_4 (Nat.le_of_ble_eq_true rfl) [1, 2, 3, 4, 5, 0] rfl ?_
  refine x_loop (E := fun e => XAt (ωC D a b) Γ 78 [(4, .int e.1)] [] e.2) (P := fun t => XAt (ωC D a b) Γ 6 [(0, .ref (a 0)), (1, .ref (a q1)), (2, .int x2), (3, .int x3), (4, .int t.1), (5, .int t.2.1)] [] t.2.2) h (fun e8 h => ?_) (fun kx rc t hk ih h => w_X6_tellSheet_6 l D a b S0 C q1  hq1  x2 x3 kx rc hk ih t.1 t.2.1 t.2.2 h)
  refine x_iload 78 C dX6_tellSheet_78 0 rfl ?_
  exact x_iret 80 C dX6_tellSheet_80 (Prod.mk.inj (Option.some.inj h)).1 (Prod.mk.inj (Option.some.inj h)).2
/-! GraveOrder.read (III)I -/
def F_X6_read (S0 : XSt) (x1 : Int32) (x2 : Int32) (x3 : Int32) : (Option (Int32 × XSt)) :=
  (if (F_X6_isSheet x1) = 0 then (some ((-2), S0)) else (if (F_X6_isGrave S0 x2) = 0 then (some ((-2), S0)) else ((F_X6_canTellAt S0 x3).bind fun z1 => (if z1 = 0 then (some ((-2), S0)) else (if xin x1 4 = true then (if (S0 (29 + xti x1) 1) = 0 then (if xin x1 4 = true then ((F_X6_tellSheet S0 (29 + xti x1) x2 x3).bind fun z4 => (xlet z4.1 fun v4_5 => ((F_X6_findsChanged z4.2).bind fun z6 => (some (v4_5, z6))))) else none) else ((F_X6_finding S0 1).bind fun z7 => (some (z7.1, z7.2)))) else none)))))
abbrev rm_X6_read : Room := { frames := 2, cells := 0, slots := 0, locals := 50 }
set_option maxRecDepth 100000 in
set_option maxHeartbeats 4000000 in
theorem M_X6_read (l : Launch) (D : va_G) (a : Nat → Nat) (b : Nat → ClassId) (S0 : XSt) (x1 : Int32) (x2 : Int32) (x3 : Int32)  {r9 : Int32} {S9 : XSt} (h : F_X6_read S0 x1 x2 x3 = some (r9, S9)) : xM l (ωC D a b) yX6_read cX6_read 5 (some .int) rm_X6_read [.ref (a 0), .int x1, .int x2, .int x3] S0 (some (.int r9), S9) := by
  unfold F_X6_read at h
  refine xM_of (own := "GraveOrder") (by decide) rfl (Nat.le_of_ble_eq_true rfl) (fun Γ C => ?_)
  refine x_sub 0 [0, 1, 2, 3] (lv' := [(0, .ref (a 0)), (1, .int x1), (2, .int x2), (3, .int x3)]) rfl ?_
  refine x_iload_n 0 C dX6_read_0 rfl 1 rfl ?_
  refine x_callS 1 C 1 (As := [.int x1]) (rest := []) (M_X6_isSheet l (ωC D a b) S0 x1) kw_403 ms_X6_isSheet mh_X6_isSheet ⟨rfl, rfl⟩ ⟨Nat.le_of_ble_eq_true rfl, Nat.le_of_ble_eq_true rfl⟩ rfl rfl (Nat.le_of_ble_eq_true rfl) dX6_read_1 ?_
  refine x_if_eq 4 C 23 dX6_read_4 rfl h (fun h => ?_) (fun h => ?_)
  · refine x_bipush 23 C dX6_read_23 cb_m2 ?_
    exact x_iret 25 C dX6_read_25 (Prod.mk.inj (Option.some.inj h)).1 (Prod.mk.inj (Option.some.inj h)).2
  · refine x_aload_n 7 C dX6_read_7 rfl 0 rfl ?_
    refine x_iload_n 8 C dX6_read_8 rfl 2 rfl ?_
    refine x_callV 9 C (q0 := 0) (ci := 6) 1 (As := [.int x2]) (rest := []) (M_X6_isGrave l D a b S0 x2 ) (by rfl) rfl kw_318 mv_X6_isGrave mh_X6_isGrave ⟨rfl, rfl⟩ ⟨Nat.le_of_ble_eq_true rfl, Nat.le_of_ble_eq_true rfl⟩ rfl rfl (Nat.le_of_ble_eq_true rfl) dX6_read_9 ?_
    refine x_if_eq 12 C 23 dX6_read_12 rfl h (fun h => ?_) (fun h => ?_)
    · refine x_bipush 23 C dX6_read_23 cb_m2 ?_
      exact x_iret 25 C dX6_read_25 (Prod.mk.inj (Option.some.inj h)).1 (Prod.mk.inj (Option.some.inj h)).2
    · refine x_aload_n 15 C dX6_read_15 rfl 0 rfl ?_
      refine x_iload_n 16 C dX6_read_16 rfl 3 rfl ?_
      obtain ⟨z1, hz1, h⟩ := xbind_some h
      refine x_callV 17 C (q0 := 0) (ci := 6) 1 (As := [.int x3]) (rest := []) (M_X6_canTellAt l D a b S0 x3  hz1) (by rfl) rfl kw_374 mv_X6_canTellAt mh_X6_canTellAt ⟨rfl, rfl⟩ ⟨Nat.le_of_ble_eq_true rfl, Nat.le_of_ble_eq_true rfl⟩ rfl rfl (Nat.le_of_ble_eq_true rfl) dX6_read_17 ?_
      refine x_if_ne 20 C 26 dX6_read_20 rfl h (fun h => ?_) (fun h => ?_)
      · refine x_aload_n 26 C dX6_read_26 rfl 0 rfl ?_
        refine gX6_sheets 27 C kw_283 dX6_read_27 ?_
        refine x_iload_n 30 C dX6_read_30 rfl 1 rfl ?_
        obtain ⟨hg2, h⟩ := xif_some h
        refine c_aald 31 C hg2 dX6_read_31 ?_
        refine gX4_lost 32 C (shC_of hg2) kw_264 dX6_read_32 ?_
        refine x_if_eq 35 C 44 dX6_read_35 rfl h (fun h => ?_) (fun h => ?_)
        · refine x_aload_n 44 C dX6_read_44 rfl 0 rfl ?_
          refine x_aload_n 45 C dX6_read_45 rfl 0 rfl ?_
          refine gX6_sheets 46 C kw_283 dX6_read_46 ?_
          refine x_iload_n 49 C dX6_read_49 rfl 1 rfl ?_
          obtain ⟨hg3, h⟩ := xif_some h
          refine c_aald 50 C hg3 dX6_read_50 ?_
          refine x_iload_n 51 C dX6_read_51 rfl 2 rfl ?_
          refine x_iload_n 52 C dX6_read_52 rfl 3 rfl ?_
          obtain ⟨z4, hz4, h⟩ := xbind_some h
          refine x_callV 53 C (q0 := 0) (ci := 6) 3 (As := [.ref (a (29 + xti x1)), .int x2, .int x3]) (rest := []) (M_X6_tellSheet l D a b S0 (29 + xti x1) x2 x3 (shC_of hg3) hz4) (by rfl) rfl kw_410 mv_X6_tellSheet mh_X6_tellSheet ⟨rfl, rfl⟩ ⟨Nat.le_of_ble_eq_true rfl, Nat.le_of_ble_eq_true rfl⟩ rfl rfl (Nat.le_of_ble_eq_true rfl) dX6_read_53 ?_
          refine x_top h (fun v4_5 h => ?_)
          refine x_istore 56 C (lv' := [(0, .ref (a 0)), (4, .int v4_5)]) dX6_read_56 (Nat.le_of_ble_eq_true rfl) [1, 0] rfl ?_
          refine x_aload_n 58 C dX6_read_58 rfl 0 rfl ?_
          obtain ⟨z6, hz6, h⟩ := xbind_some h
          refine x_callV 59 C (q0 := 0) (ci := 6) 0 (As := []) (rest := []) (M_X6_findsChanged l D a b z4.2   hz6) (by rfl) rfl kw_391 mv_X6_findsChanged mh_X6_findsChanged ⟨rfl, rfl⟩ ⟨Nat.le_of_ble_eq_true rfl, Nat.le_of_ble_eq_true rfl⟩ rfl rfl (Nat.le_of_ble_eq_true rfl) dX6_read_59 ?_
          refine x_iload 62 C dX6_read_62 1 rfl ?_
          exact x_iret 64 C dX6_read_64 (Prod.mk.inj (Option.some.inj h)).1 (Prod.mk.inj (Option.some.inj h)).2
        · refine x_aload_n 38 C dX6_read_38 rfl 0 rfl ?_
          refine x_iconst 39 C dX6_read_39 ci_1 ?_
          obtain ⟨z7, hz7, h⟩ := xbind_some h
          refine x_callV 40 C (q0 := 0) (ci := 6) 1 (As := [.int 1]) (rest := []) (M_X6_finding l D a b S0 1  hz7) (by rfl) rfl kw_406 mv_X6_finding mh_X6_finding ⟨rfl, rfl⟩ ⟨Nat.le_of_ble_eq_true rfl, Nat.le_of_ble_eq_true rfl⟩ rfl rfl (Nat.le_of_ble_eq_true rfl) dX6_read_40 ?_
          exact x_iret 43 C dX6_read_43 (Prod.mk.inj (Option.some.inj h)).1 (Prod.mk.inj (Option.some.inj h)).2
      · refine x_bipush 23 C dX6_read_23 cb_m2 ?_
        exact x_iret 25 C dX6_read_25 (Prod.mk.inj (Option.some.inj h)).1 (Prod.mk.inj (Option.some.inj h)).2
/-! GraveOrder.asOf (I)I -/
def F_X6_asOf (S0 : XSt) (x1 : Int32) : (Option (Int32 × XSt)) :=
  (if (F_X6_within x1 0 999) = 0 then (some ((-2), S0)) else (xlet (S0 0 6) fun v2_1 => (xlet (xst S0 0 6 x1) fun S2 => ((F_X6_findsChanged S2).bind fun z3 => (some (v2_1, z3))))))
abbrev rm_X6_asOf : Room := { frames := 2, cells := 0, slots := 0, locals := 45 }
set_option maxRecDepth 100000 in
set_option maxHeartbeats 4000000 in
theorem M_X6_asOf (l : Launch) (D : va_G) (a : Nat → Nat) (b : Nat → ClassId) (S0 : XSt) (x1 : Int32)  {r9 : Int32} {S9 : XSt} (h : F_X6_asOf S0 x1 = some (r9, S9)) : xM l (ωC D a b) yX6_asOf cX6_asOf 3 (some .int) rm_X6_asOf [.ref (a 0), .int x1] S0 (some (.int r9), S9) := by
  unfold F_X6_asOf at h
  refine xM_of (own := "GraveOrder") (by decide) rfl (Nat.le_of_ble_eq_true rfl) (fun Γ C => ?_)
  refine x_sub 0 [0, 1] (lv' := [(0, .ref (a 0)), (1, .int x1)]) rfl ?_
  refine x_iload_n 0 C dX6_asOf_0 rfl 1 rfl ?_
  refine x_iconst 1 C dX6_asOf_1 ci_0 ?_
  refine x_sipush 2 C dX6_asOf_2 cs_999 ?_
  refine x_callS 5 C 3 (As := [.int x1, .int 0, .int 999]) (rest := []) (M_X6_within l (ωC D a b) S0 x1 0 999) kw_307 ms_X6_within mh_X6_within ⟨rfl, rfl⟩ ⟨Nat.le_of_ble_eq_true rfl, Nat.le_of_ble_eq_true rfl⟩ rfl rfl (Nat.le_of_ble_eq_true rfl) dX6_asOf_5 ?_
  refine x_if_ne 8 C 14 dX6_asOf_8 rfl h (fun h => ?_) (fun h => ?_)
  · refine x_aload_n 14 C dX6_asOf_14 rfl 0 rfl ?_
    refine gX6_asOfTime 15 C kw_284 dX6_asOf_15 ?_
    refine x_top h (fun v2_1 h => ?_)
    refine x_istore_n 18 C (lv' := [(0, .ref (a 0)), (1, .int x1), (2, .int v2_1)]) dX6_asOf_18 rfl (Nat.le_of_ble_eq_true rfl) [1, 2, 0] rfl ?_
    refine x_aload_n 19 C dX6_asOf_19 rfl 0 rfl ?_
    refine x_iload_n 20 C dX6_asOf_20 rfl 1 rfl ?_
    refine pX6_asOfTime 21 C kw_284 dX6_asOf_21 ?_
    refine x_topS h (fun S2 h => ?_)
    refine x_aload_n 24 C dX6_asOf_24 rfl 0 rfl ?_
    obtain ⟨z3, hz3, h⟩ := xbind_some h
    refine x_callV 25 C (q0 := 0) (ci := 6) 0 (As := []) (rest := []) (M_X6_findsChanged l D a b S2   hz3) (by rfl) rfl kw_391 mv_X6_findsChanged mh_X6_findsChanged ⟨rfl, rfl⟩ ⟨Nat.le_of_ble_eq_true rfl, Nat.le_of_ble_eq_true rfl⟩ rfl rfl (Nat.le_of_ble_eq_true rfl) dX6_asOf_25 ?_
    refine x_iload_n 28 C dX6_asOf_28 rfl 2 rfl ?_
    exact x_iret 29 C dX6_asOf_29 (Prod.mk.inj (Option.some.inj h)).1 (Prod.mk.inj (Option.some.inj h)).2
  · refine x_bipush 11 C dX6_asOf_11 cb_m2 ?_
    exact x_iret 13 C dX6_asOf_13 (Prod.mk.inj (Option.some.inj h)).1 (Prod.mk.inj (Option.some.inj h)).2
/-! GraveOrder.has (I)I -/
def F_X6_has (S0 : XSt) (x1 : Int32) : (Option Int32) :=
  (if (F_X6_isGrave S0 x1) = 0 then (some (-2)) else (if xin x1 8 = true then (some (S0 10 (xti x1))) else none))
abbrev rm_X6_has : Room := { frames := 2, cells := 0, slots := 0, locals := 43 }
set_option maxRecDepth 100000 in
set_option maxHeartbeats 4000000 in
theorem M_X6_has (l : Launch) (D : va_G) (a : Nat → Nat) (b : Nat → ClassId) (S0 : XSt) (x1 : Int32)  {r9 : Int32} (h : F_X6_has S0 x1 = some r9) : xM l (ωC D a b) yX6_has cX6_has 2 (some .int) rm_X6_has [.ref (a 0), .int x1] S0 (some (.int r9), S0) := by
  unfold F_X6_has at h
  refine xM_of (own := "GraveOrder") (by decide) rfl (Nat.le_of_ble_eq_true rfl) (fun Γ C => ?_)
  refine x_sub 0 [0, 1] (lv' := [(0, .ref (a 0)), (1, .int x1)]) rfl ?_
  refine x_aload_n 0 C dX6_has_0 rfl 0 rfl ?_
  refine x_iload_n 1 C dX6_has_1 rfl 1 rfl ?_
  refine x_callV 2 C (q0 := 0) (ci := 6) 1 (As := [.int x1]) (rest := []) (M_X6_isGrave l D a b S0 x1 ) (by rfl) rfl kw_318 mv_X6_isGrave mh_X6_isGrave ⟨rfl, rfl⟩ ⟨Nat.le_of_ble_eq_true rfl, Nat.le_of_ble_eq_true rfl⟩ rfl rfl (Nat.le_of_ble_eq_true rfl) dX6_has_2 ?_
  refine x_if_eq 5 C 20 dX6_has_5 rfl h (fun h => ?_) (fun h => ?_)
  · refine x_bipush 20 C dX6_has_20 cb_m2 ?_
    exact x_iret 22 C dX6_has_22 (Option.some.inj h) rfl
  · refine x_aload_n 8 C dX6_has_8 rfl 0 rfl ?_
    refine gX6_yard 9 C kw_278 dX6_has_9 ?_
    refine gX5_kinds 12 C kw_102 dX6_has_12 ?_
    refine x_iload_n 15 C dX6_has_15 rfl 1 rfl ?_
    obtain ⟨hg1, h⟩ := xif_some h
    refine c_iald 16 C (n := 8) rfl hg1 dX6_has_16 ?_
    refine x_goto 17 C 22 dX6_has_17 rfl ?_
    exact x_iret 22 C dX6_has_22 (Option.some.inj h) rfl
/-! GraveOrder.bit (Z)I -/
def F_X6_bit (x0 : Int32) : Int32 :=
  (if x0 = 0 then 0 else 1)
abbrev rm_X6_bit : Room := { frames := 0, cells := 0, slots := 0, locals := 0 }
set_option maxRecDepth 100000 in
set_option maxHeartbeats 4000000 in
theorem M_X6_bit {σ : Type} (l : Launch) (ω : XW σ) (S0 : σ) (x0 : Int32)  : xM l ω yX6_bit cX6_bit 1 (some .int) rm_X6_bit [.int x0] S0 (some (.int (F_X6_bit x0)), S0) := by
  obtain ⟨r9, h⟩ : ∃ r9, F_X6_bit x0 = r9 := ⟨_, rfl⟩
  rw [h]
  unfold F_X6_bit at h
  refine xM_of (own := "GraveOrder") (by decide) rfl (Nat.le_of_ble_eq_true rfl) (fun Γ C => ?_)
  refine x_sub 0 [0] (lv' := [(0, .int x0)]) rfl ?_
  refine x_iload_n 0 C dX6_bit_0 rfl 0 rfl ?_
  refine x_if_eq 1 C 8 dX6_bit_1 rfl h (fun h => ?_) (fun h => ?_)
  · refine x_iconst 8 C dX6_bit_8 ci_0 ?_
    exact x_iret 9 C dX6_bit_9 h rfl
  · refine x_iconst 4 C dX6_bit_4 ci_1 ?_
    refine x_goto 5 C 9 dX6_bit_5 rfl ?_
    exact x_iret 9 C dX6_bit_9 h rfl
/-! GraveOrder.gaps (II)I -/
def F_X6_gaps (S0 : XSt) (x1 : Int32) (x2 : Int32) : (Option (Int32 × XSt)) :=
  (if (F_X6_isSheet x1) = 0 then (some ((-2), S0)) else (if (F_X6_within x2 0 1) = 0 then (some ((-2), S0)) else (if xin x1 4 = true then (if (S0 (29 + xti x1) 1) = 0 then (if xin x1 4 = true then (if xin x1 4 = true then ((F_X5_isOrder S0 ((29 + xti x1) + 4) 40 (S0 (29 + xti x1) 3)).bind fun z4 => (if z4 = 0 then (some ((-3), S0)) else (if x2 = 0 then (if xin x1 4 = true then ((F_X1_gapsOfOrder S0 ((29 + xti x1) + 4) 40).bind fun z8 => (some (z8.1, z8.2))) else none) else (if xin x1 4 = true then ((F_X5_canBe S0 ((29 + xti x1) + 4) 40).bind fun z6 => (some ((F_X6_bit z6), S0))) else none)))) else none) else none) else ((F_X6_finding S0 1).bind fun z9 => (some (z9.1, z9.2)))) else none)))
abbrev rm_X6_gaps : Room := { frames := 4, cells := 0, slots := 0, locals := 91 }
set_option maxRecDepth 100000 in
set_option maxHeartbeats 4000000 in
theorem M_X6_gaps (l : Launch) (D : va_G) (a : Nat → Nat) (b : Nat → ClassId) (S0 : XSt) (x1 : Int32) (x2 : Int32)  {r9 : Int32} {S9 : XSt} (h : F_X6_gaps S0 x1 x2 = some (r9, S9)) : xM l (ωC D a b) yX6_gaps cX6_gaps 3 (some .int) rm_X6_gaps [.ref (a 0), .int x1, .int x2] S0 (some (.int r9), S9) := by
  unfold F_X6_gaps at h
  refine xM_of (own := "GraveOrder") (by decide) rfl (Nat.le_of_ble_eq_true rfl) (fun Γ C => ?_)
  refine x_sub 0 [0, 1, 2] (lv' := [(0, .ref (a 0)), (1, .int x1), (2, .int x2)]) rfl ?_
  refine x_iload_n 0 C dX6_gaps_0 rfl 1 rfl ?_
  refine x_callS 1 C 1 (As := [.int x1]) (rest := []) (M_X6_isSheet l (ωC D a b) S0 x1) kw_403 ms_X6_isSheet mh_X6_isSheet ⟨rfl, rfl⟩ ⟨Nat.le_of_ble_eq_true rfl, Nat.le_of_ble_eq_true rfl⟩ rfl rfl (Nat.le_of_ble_eq_true rfl) dX6_gaps_1 ?_
  refine x_if_eq 4 C 16 dX6_gaps_4 rfl h (fun h => ?_) (fun h => ?_)
  · refine x_bipush 16 C dX6_gaps_16 cb_m2 ?_
    exact x_iret 18 C dX6_gaps_18 (Prod.mk.inj (Option.some.inj h)).1 (Prod.mk.inj (Option.some.inj h)).2
  · refine x_iload_n 7 C dX6_gaps_7 rfl 2 rfl ?_
    refine x_iconst 8 C dX6_gaps_8 ci_0 ?_
    refine x_iconst 9 C dX6_gaps_9 ci_1 ?_
    refine x_callS 10 C 3 (As := [.int x2, .int 0, .int 1]) (rest := []) (M_X6_within l (ωC D a b) S0 x2 0 1) kw_307 ms_X6_within mh_X6_within ⟨rfl, rfl⟩ ⟨Nat.le_of_ble_eq_true rfl, Nat.le_of_ble_eq_true rfl⟩ rfl rfl (Nat.le_of_ble_eq_true rfl) dX6_gaps_10 ?_
    refine x_if_ne 13 C 19 dX6_gaps_13 rfl h (fun h => ?_) (fun h => ?_)
    · refine x_aload_n 19 C dX6_gaps_19 rfl 0 rfl ?_
      refine gX6_sheets 20 C kw_283 dX6_gaps_20 ?_
      refine x_iload_n 23 C dX6_gaps_23 rfl 1 rfl ?_
      obtain ⟨hg1, h⟩ := xif_some h
      refine c_aald 24 C hg1 dX6_gaps_24 ?_
      refine gX4_lost 25 C (shC_of hg1) kw_264 dX6_gaps_25 ?_
      refine x_if_eq 28 C 37 dX6_gaps_28 rfl h (fun h => ?_) (fun h => ?_)
      · refine x_aload_n 37 C dX6_gaps_37 rfl 0 rfl ?_
        refine gX6_yard 38 C kw_278 dX6_gaps_38 ?_
        refine x_aload_n 41 C dX6_gaps_41 rfl 0 rfl ?_
        refine gX6_sheets 42 C kw_283 dX6_gaps_42 ?_
        refine x_iload_n 45 C dX6_gaps_45 rfl 1 rfl ?_
        obtain ⟨hg2, h⟩ := xif_some h
        refine c_aald 46 C hg2 dX6_gaps_46 ?_
        refine gX4_items 47 C (shC_of hg2) kw_262 dX6_gaps_47 ?_
        refine x_aload_n 50 C dX6_gaps_50 rfl 0 rfl ?_
        refine gX6_sheets 51 C kw_283 dX6_gaps_51 ?_
        refine x_iload_n 54 C dX6_gaps_54 rfl 1 rfl ?_
        obtain ⟨hg3, h⟩ := xif_some h
        refine c_aald 55 C hg3 dX6_gaps_55 ?_
        refine gX4_size 56 C (shC_of hg3) kw_268 dX6_gaps_56 ?_
        obtain ⟨z4, hz4, h⟩ := xbind_some h
        refine x_callV 59 C (q0 := 1) (ci := 5) 2 (As := [.ref (a ((29 + xti x1) + 4)), .int (S0 (29 + xti x1) 3)]) (rest := []) (M_X5_isOrder l D a b S0 ((29 + xti x1) + 4) 40 (S0 (29 + xti x1) 3) (shC_items (shC_of hg2)) hz4) (by rfl) rfl kw_426 mv_X5_isOrder mh_X5_isOrder ⟨rfl, rfl⟩ ⟨Nat.le_of_ble_eq_true rfl, Nat.le_of_ble_eq_true rfl⟩ rfl rfl (Nat.le_of_ble_eq_true rfl) dX6_gaps_59 ?_
        refine x_if_ne 62 C 68 dX6_gaps_62 rfl h (fun h => ?_) (fun h => ?_)
        · refine x_iload_n 68 C dX6_gaps_68 rfl 2 rfl ?_
          refine x_if_ne 69 C 89 dX6_gaps_69 rfl h (fun h => ?_) (fun h => ?_)
          · refine x_aload_n 89 C dX6_gaps_89 rfl 0 rfl ?_
            refine gX6_yard 90 C kw_278 dX6_gaps_90 ?_
            refine x_aload_n 93 C dX6_gaps_93 rfl 0 rfl ?_
            refine gX6_sheets 94 C kw_283 dX6_gaps_94 ?_
            refine x_iload_n 97 C dX6_gaps_97 rfl 1 rfl ?_
            obtain ⟨hg5, h⟩ := xif_some h
            refine c_aald 98 C hg5 dX6_gaps_98 ?_
            refine gX4_items 99 C (shC_of hg5) kw_262 dX6_gaps_99 ?_
            obtain ⟨z6, hz6, h⟩ := xbind_some h
            refine x_callV 102 C (q0 := 1) (ci := 5) 1 (As := [.ref (a ((29 + xti x1) + 4))]) (rest := []) (M_X5_canBe l D a b S0 ((29 + xti x1) + 4) 40 (shC_items (shC_of hg5)) hz6) (by rfl) rfl kw_439 mv_X5_canBe mh_X5_canBe ⟨rfl, rfl⟩ ⟨Nat.le_of_ble_eq_true rfl, Nat.le_of_ble_eq_true rfl⟩ rfl rfl (Nat.le_of_ble_eq_true rfl) dX6_gaps_102 ?_
            refine x_callS 105 C 1 (As := [.int z6]) (rest := []) (M_X6_bit l (ωC D a b) S0 z6) kw_446 ms_X6_bit mh_X6_bit ⟨rfl, rfl⟩ ⟨Nat.le_of_ble_eq_true rfl, Nat.le_of_ble_eq_true rfl⟩ rfl rfl (Nat.le_of_ble_eq_true rfl) dX6_gaps_105 ?_
            exact x_iret 108 C dX6_gaps_108 (Prod.mk.inj (Option.some.inj h)).1 (Prod.mk.inj (Option.some.inj h)).2
          · refine x_aload_n 72 C dX6_gaps_72 rfl 0 rfl ?_
            refine gX6_firstRow 73 C kw_282 dX6_gaps_73 ?_
            refine x_aload_n 76 C dX6_gaps_76 rfl 0 rfl ?_
            refine gX6_sheets 77 C kw_283 dX6_gaps_77 ?_
            refine x_iload_n 80 C dX6_gaps_80 rfl 1 rfl ?_
            obtain ⟨hg7, h⟩ := xif_some h
            refine c_aald 81 C hg7 dX6_gaps_81 ?_
            refine gX4_items 82 C (shC_of hg7) kw_262 dX6_gaps_82 ?_
            obtain ⟨z8, hz8, h⟩ := xbind_some h
            refine x_callV 85 C (q0 := 5) (ci := 1) 1 (As := [.ref (a ((29 + xti x1) + 4))]) (rest := []) (M_X1_gapsOfOrder l D a b S0 ((29 + xti x1) + 4) 40 (shC_items (shC_of hg7)) hz8) (by rfl) rfl kw_430 mv_X1_gapsOfOrder mh_X1_gapsOfOrder ⟨rfl, rfl⟩ ⟨Nat.le_of_ble_eq_true rfl, Nat.le_of_ble_eq_true rfl⟩ rfl rfl (Nat.le_of_ble_eq_true rfl) dX6_gaps_85 ?_
            exact x_iret 88 C dX6_gaps_88 (Prod.mk.inj (Option.some.inj h)).1 (Prod.mk.inj (Option.some.inj h)).2
        · refine x_bipush 65 C dX6_gaps_65 cb_m3 ?_
          exact x_iret 67 C dX6_gaps_67 (Prod.mk.inj (Option.some.inj h)).1 (Prod.mk.inj (Option.some.inj h)).2
      · refine x_aload_n 31 C dX6_gaps_31 rfl 0 rfl ?_
        refine x_iconst 32 C dX6_gaps_32 ci_1 ?_
        obtain ⟨z9, hz9, h⟩ := xbind_some h
        refine x_callV 33 C (q0 := 0) (ci := 6) 1 (As := [.int 1]) (rest := []) (M_X6_finding l D a b S0 1  hz9) (by rfl) rfl kw_406 mv_X6_finding mh_X6_finding ⟨rfl, rfl⟩ ⟨Nat.le_of_ble_eq_true rfl, Nat.le_of_ble_eq_true rfl⟩ rfl rfl (Nat.le_of_ble_eq_true rfl) dX6_gaps_33 ?_
        exact x_iret 36 C dX6_gaps_36 (Prod.mk.inj (Option.some.inj h)).1 (Prod.mk.inj (Option.some.inj h)).2
    · refine x_bipush 16 C dX6_gaps_16 cb_m2 ?_
      exact x_iret 18 C dX6_gaps_18 (Prod.mk.inj (Option.some.inj h)).1 (Prod.mk.inj (Option.some.inj h)).2
