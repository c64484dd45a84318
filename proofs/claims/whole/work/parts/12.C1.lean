/-! GraveOrder$Orders.fillSets ()V -/
def B_X3_fillSets_21 (c1 : Int32) (kx : XSt → Option XSt) (rc : (Int32 × XSt) → Option XSt) (y2 : Int32) (S1 : XSt) : Option XSt :=
  (if c1 < y2 then kx S1 else (xlet (F_J6_numberOfTrailingZeros_0f7a4 y2) fun v3_4 => (xlet (y2 &&& (y2 - (1 : Int32))) fun v4_5 => (if xin v4_5 256 = true then (if xin v3_4 8 = true then (if xin y2 256 = true then (xlet (xst S1 16 (xti y2) ((S1 16 (xti v4_5)) ||| (S1 10 (xti v3_4)))) fun S9 => (if xin v4_5 256 = true then (if xin v3_4 8 = true then (if xin y2 256 = true then (xlet (xst S9 17 (xti y2) (xmax (S9 17 (xti v4_5)) (S9 7 (xti v3_4)))) fun S13 => (xlet (y2 + 1) fun v2_14 => rc (v2_14, S13))) else none) else none) else none)) else none) else none) else none))))
def F_X3_fillSets (S0 : XSt)  : (Option XSt) :=
  (xlet (F_X3_allGraves S0) fun v1_1 => (xlet (xst S0 16 (xti 0) 0) fun S2 => (xlet (xst S2 17 (xti 0) 0) fun S3 => (xlp (fun k rc t => B_X3_fillSets_21  v1_1 k rc t.1 t.2) (fun e15 => (some e15)) XFU (1, S3)))))
abbrev rm_X3_fillSets : Room := { frames := 1, cells := 0, slots := 0, locals := 24 }
set_option maxRecDepth 100000 in
set_option maxHeartbeats 4000000 in
theorem w_X3_fillSets_21 (l : Launch) (D : va_G) (a : Nat → Nat) (b : Nat → ClassId) (S0 : XSt) {Γ : XG XSt} {S9 : XSt} (C : Cx (ωC D a b) Γ cX3_fillSets "GraveOrder$Orders" none l rm_X3_fillSets 5 (none, S9)) (c1 : Int32)  (kx : XSt → Option XSt) (rc : (Int32 × XSt) → Option XSt) (hk : ∀ e, kx e = some S9 → XAt (ωC D a b) Γ 92 [] [] e) (ih : ∀ t, rc t = some S9 → XAt (ωC D a b) Γ 21 [(0, .ref (a 4)), (1, .int c1), (2, .int t.1)] [] t.2) (y2 : Int32) (S1 : XSt) (h : B_X3_fillSets_21  c1 kx rc y2 S1 = some S9) : XAt (ωC D a b) Γ 21 [(0, .ref (a 4)), (1, .int c1), (2, .int y2)] [] S1 := by
  unfold B_X3_fillSets_21 at h
  refine x_iload_n 21 C dX3_fillSets_21 rfl 2 rfl ?_
  refine x_iload_n 22 C dX3_fillSets_22 rfl 1 rfl ?_
  refine x_icmp_gt 23 C 92 dX3_fillSets_23 rfl h (fun h => ?_) (fun h => ?_)
  · exact x_sub 92 [] rfl (hk _ h)
  · refine x_iload_n 26 C dX3_fillSets_26 rfl 2 rfl ?_
    refine x_callS 27 C 1 (As := [.int y2]) (rest := []) (M_J6_numberOfTrailingZeros_0f7a4 l (ωC D a b) S1 y2) kw_465 ms_J6_numberOfTrailingZeros_0f7a4 mh_J6_numberOfTrailingZeros_0f7a4 ⟨rfl, rfl⟩ ⟨Nat.le_of_ble_eq_true rfl, Nat.le_of_ble_eq_true rfl⟩ rfl rfl (Nat.le_of_ble_eq_true rfl) dX3_fillSets_27 ?_
    refine x_top h (fun v3_4 h => ?_)
    refine x_istore_n 30 C (lv' := [(0, .ref (a 4)), (1, .int c1), (2, .int y2), (3, .int v3_4)]) dX3_fillSets_30 rfl (Nat.le_of_ble_eq_true rfl) [1, 2, 3, 0] rfl ?_
    refine x_iload_n 31 C dX3_fillSets_31 rfl 2 rfl ?_
    refine x_iload_n 32 C dX3_fillSets_32 rfl 2 rfl ?_
    refine x_iconst 33 C dX3_fillSets_33 ci_1 ?_
    refine x_isub 34 C dX3_fillSets_34 ?_
    refine x_iand 35 C dX3_fillSets_35 ?_
    refine x_top h (fun v4_5 h => ?_)
    refine x_istore 36 C (lv' := [(0, .ref (a 4)), (1, .int c1), (2, .int y2), (3, .int v3_4), (4, .int v4_5)]) dX3_fillSets_36 (Nat.le_of_ble_eq_true rfl) [1, 2, 3, 4, 0] rfl ?_
    refine x_aload_n 38 C dX3_fillSets_38 rfl 0 rfl ?_
    refine gX3_seen 39 C kw_183 dX3_fillSets_39 ?_
    refine x_iload_n 42 C dX3_fillSets_42 rfl 2 rfl ?_
    refine x_aload_n 43 C dX3_fillSets_43 rfl 0 rfl ?_
    refine gX3_seen 44 C kw_183 dX3_fillSets_44 ?_
    refine x_iload 47 C dX3_fillSets_47 4 rfl ?_
    obtain ⟨hg6, h⟩ := xif_some h
    refine c_iald 49 C (n := 256) rfl hg6 dX3_fillSets_49 ?_
    refine x_aload_n 50 C dX3_fillSets_50 rfl 0 rfl ?_
    refine gX3_yard 51 C kw_182 dX3_fillSets_51 ?_
    refine gX5_kinds 54 C kw_101 dX3_fillSets_54 ?_
    refine x_iload_n 57 C dX3_fillSets_57 rfl 3 rfl ?_
    obtain ⟨hg7, h⟩ := xif_some h
    refine c_iald 58 C (n := 8) rfl hg7 dX3_fillSets_58 ?_
    refine x_ior 59 C dX3_fillSets_59 ?_
    obtain ⟨hg8, h⟩ := xif_some h
    refine c_iast 60 C (n := 256) rfl hg8 dX3_fillSets_60 ?_
    refine x_topS h (fun S9 h => ?_)
    refine x_aload_n 61 C dX3_fillSets_61 rfl 0 rfl ?_
    refine gX3_year 62 C kw_184 dX3_fillSets_62 ?_
    refine x_iload_n 65 C dX3_fillSets_65 rfl 2 rfl ?_
    refine x_aload_n 66 C dX3_fillSets_66 rfl 0 rfl ?_
    refine gX3_year 67 C kw_184 dX3_fillSets_67 ?_
    refine x_iload 70 C dX3_fillSets_70 4 rfl ?_
    obtain ⟨hg10, h⟩ := xif_some h
    refine c_iald 72 C (n := 256) rfl hg10 dX3_fillSets_72 ?_
    refine x_aload_n 73 C dX3_fillSets_73 rfl 0 rfl ?_
    refine gX3_yard 74 C kw_182 dX3_fillSets_74 ?_
    refine gX5_from 77 C kw_91 dX3_fillSets_77 ?_
    refine x_iload_n 80 C dX3_fillSets_80 rfl 3 rfl ?_
    obtain ⟨hg11, h⟩ := xif_some h
    refine c_iald 81 C (n := 8) rfl hg11 dX3_fillSets_81 ?_
    refine y_mmax 82 C kw_469_max kmath_max.1 kmath kmath_max.2 (Nat.le_of_ble_eq_true rfl) (Nat.le_of_ble_eq_true rfl) dX3_fillSets_82 ?_
    obtain ⟨hg12, h⟩ := xif_some h
    refine c_iast 85 C (n := 256) rfl hg12 dX3_fillSets_85 ?_
    refine x_topS h (fun S13 h => ?_)
    refine x_iinc 86 C (L := fun v2_14 => [(0, .ref (a 4)), (1, .int c1), (2, .int v2_14)]) dX3_fillSets_86 2 rfl ci_1 (Nat.le_of_ble_eq_true rfl) [1, 2, 0] (fun _ => rfl) h (fun v2_14 h => ?_)
    refine x_goto 89 C 21 dX3_fillSets_89 rfl ?_
    exact ih _ h
set_option maxRecDepth 100000 in
set_option maxHeartbeats 4000000 in
theorem M_X3_fillSets (l : Launch) (D : va_G) (a : Nat → Nat) (b : Nat → ClassId) (S0 : XSt)   {S9 : XSt} (h : F_X3_fillSets S0 = some S9) : xM l (ωC D a b) yX3_fillSets cX3_fillSets 5 none rm_X3_fillSets [.ref (a 4)] S0 (none, S9) := by
  unfold F_X3_fillSets at h
  refine xM_of (own := "GraveOrder$Orders") (by decide) rfl (Nat.le_of_ble_eq_true rfl) (fun Γ C => ?_)
  refine x_sub 0 [0] (lv' := [(0, .ref (a 4))]) rfl ?_
  refine x_aload_n 0 C dX3_fillSets_0 rfl 0 rfl ?_
  refine x_callV 1 C (q0 := 4) (ci := 3) 0 (As := []) (rest := []) (M_X3_allGraves l D a b S0  ) (by rfl) rfl kw_461 mv_X3_allGraves mh_X3_allGraves ⟨rfl, rfl⟩ ⟨Nat.le_of_ble_eq_true rfl, Nat.le_of_ble_eq_true rfl⟩ rfl rfl (Nat.le_of_ble_eq_true rfl) dX3_fillSets_1 ?_
  refine x_top h (fun v1_1 h => ?_)
  refine x_istore_n 4 C (lv' := [(0, .ref (a 4)), (1, .int v1_1)]) dX3_fillSets_4 rfl (Nat.le_of_ble_eq_true rfl) [1, 0] rfl ?_
  refine x_aload_n 5 C dX3_fillSets_5 rfl 0 rfl ?_
  refine gX3_seen 6 C kw_183 dX3_fillSets_6 ?_
  refine x_iconst 9 C dX3_fillSets_9 ci_0 ?_
  refine x_iconst 10 C dX3_fillSets_10 ci_0 ?_
  refine c_iast 11 C (n := 256) rfl (by decide) dX3_fillSets_11 ?_
  refine x_topS h (fun S2 h => ?_)
  refine x_aload_n 12 C dX3_fillSets_12 rfl 0 rfl ?_
  refine gX3_year 13 C kw_184 dX3_fillSets_13 ?_
  refine x_iconst 16 C dX3_fillSets_16 ci_0 ?_
  refine x_iconst 17 C dX3_fillSets_17 ci_0 ?_
  refine c_iast 18 C (n := 256) rfl (by decide) dX3_fillSets_18 ?_
  refine x_topS h (fun S3 h => ?_)
  refine x_iconst 19 C dX3_fillSets_19 ci_1 ?_
  refine x_istore_n 20 C (lv' := [(0, .ref (a 4)), (1, .int v1_1), (2, .int 1)]) dX3_fillSets_20 rfl (Nat.le_of_ble_eq_true rfl) [1, 2, 0] rfl ?_
  refine x_loop (E := fun e => XAt (ωC D a b) Γ 92 [] [] e) (P := fun t => XAt (ωC D a b) Γ 21 [(0, .ref (a 4)), (1, .int v1_1), (2, .int t.1)] [] t.2) h (fun e15 h => ?_) (fun kx rc t hk ih h => w_X3_fillSets_21 l D a b S0 C   v1_1 kx rc hk ih t.1 t.2 h)
  exact x_vret 92 C dX3_fillSets_92 (Option.some.inj h)
/-! GraveOrder$Orders.canFollow (II)Z -/
def F_X3_canFollow (S0 : XSt) (x1 : Int32) (x2 : Int32) : (Option Int32) :=
  (if ((x1 >>> (x2 &&& 31)) &&& (1 : Int32)) = 0 then (if xin x2 8 = true then (if ((S0 9 (xti x2)) &&& (x1 ^^^ (-1 : Int32))) = 0 then (if xin (x1 ||| ((1 : Int32) <<< (x2 &&& 31))) 256 = true then (if xin x2 8 = true then (if (S0 8 (xti x2)) < (S0 17 (xti (x1 ||| ((1 : Int32) <<< (x2 &&& 31))))) then (some 0) else (some 1)) else none) else none) else (some 0)) else none) else (some 0))
abbrev rm_X3_canFollow : Room := { frames := 0, cells := 0, slots := 0, locals := 0 }
set_option maxRecDepth 100000 in
set_option maxHeartbeats 4000000 in
theorem M_X3_canFollow (l : Launch) (D : va_G) (a : Nat → Nat) (b : Nat → ClassId) (S0 : XSt) (x1 : Int32) (x2 : Int32)  {r9 : Int32} (h : F_X3_canFollow S0 x1 x2 = some r9) : xM l (ωC D a b) yX3_canFollow cX3_canFollow 3 (some .boolean) rm_X3_canFollow [.ref (a 4), .int x1, .int x2] S0 (some (.int r9), S0) := by
  unfold F_X3_canFollow at h
  refine xM_of (own := "GraveOrder$Orders") (by decide) rfl (Nat.le_of_ble_eq_true rfl) (fun Γ C => ?_)
  refine x_sub 0 [0, 1, 2] (lv' := [(0, .ref (a 4)), (1, .int x1), (2, .int x2)]) rfl ?_
  refine x_iload_n 0 C dX3_canFollow_0 rfl 1 rfl ?_
  refine x_iload_n 1 C dX3_canFollow_1 rfl 2 rfl ?_
  refine x_ishr 2 C dX3_canFollow_2 ?_
  refine x_iconst 3 C dX3_canFollow_3 ci_1 ?_
  refine x_iand 4 C dX3_canFollow_4 ?_
  refine x_if_ne 5 C 50 dX3_canFollow_5 rfl h (fun h => ?_) (fun h => ?_)
  · refine x_iconst 50 C dX3_canFollow_50 ci_0 ?_
    exact x_zret 51 C dX3_canFollow_51 rfl (Option.some.inj h) rfl
  · refine x_aload_n 8 C dX3_canFollow_8 rfl 0 rfl ?_
    refine gX3_yard 9 C kw_182 dX3_canFollow_9 ?_
    refine gX5_below 12 C kw_98 dX3_canFollow_12 ?_
    refine x_iload_n 15 C dX3_canFollow_15 rfl 2 rfl ?_
    obtain ⟨hg1, h⟩ := xif_some h
    refine c_iald 16 C (n := 8) rfl hg1 dX3_canFollow_16 ?_
    refine x_iload_n 17 C dX3_canFollow_17 rfl 1 rfl ?_
    refine x_iconst 18 C dX3_canFollow_18 ci_m1 ?_
    refine x_ixor 19 C dX3_canFollow_19 ?_
    refine x_iand 20 C dX3_canFollow_20 ?_
    refine x_if_ne 21 C 50 dX3_canFollow_21 rfl h (fun h => ?_) (fun h => ?_)
    · refine x_iconst 50 C dX3_canFollow_50 ci_0 ?_
      exact x_zret 51 C dX3_canFollow_51 rfl (Option.some.inj h) rfl
    · refine x_aload_n 24 C dX3_canFollow_24 rfl 0 rfl ?_
      refine gX3_year 25 C kw_184 dX3_canFollow_25 ?_
      refine x_iload_n 28 C dX3_canFollow_28 rfl 1 rfl ?_
      refine x_iconst 29 C dX3_canFollow_29 ci_1 ?_
      refine x_iload_n 30 C dX3_canFollow_30 rfl 2 rfl ?_
      refine x_ishl 31 C dX3_canFollow_31 ?_
      refine x_ior 32 C dX3_canFollow_32 ?_
      obtain ⟨hg2, h⟩ := xif_some h
      refine c_iald 33 C (n := 256) rfl hg2 dX3_canFollow_33 ?_
      refine x_aload_n 34 C dX3_canFollow_34 rfl 0 rfl ?_
      refine gX3_yard 35 C kw_182 dX3_canFollow_35 ?_
      refine gX5_to 38 C kw_94 dX3_canFollow_38 ?_
      refine x_iload_n 41 C dX3_canFollow_41 rfl 2 rfl ?_
      obtain ⟨hg3, h⟩ := xif_some h
      refine c_iald 42 C (n := 8) rfl hg3 dX3_canFollow_42 ?_
      refine x_icmp_gt 43 C 50 dX3_canFollow_43 rfl h (fun h => ?_) (fun h => ?_)
      · refine x_iconst 50 C dX3_canFollow_50 ci_0 ?_
        exact x_zret 51 C dX3_canFollow_51 rfl (Option.some.inj h) rfl
      · refine x_iconst 46 C dX3_canFollow_46 ci_1 ?_
        refine x_goto 47 C 51 dX3_canFollow_47 rfl ?_
        exact x_zret 51 C dX3_canFollow_51 rfl (Option.some.inj h) rfl
/-! GraveOrder$Orders.gapsAt (II)I -/
def F_X3_gapsAt (S0 : XSt) (x1 : Int32) (x2 : Int32) : (Option Int32) :=
  (if (((S0 1 5) >>> (x2 &&& 31)) &&& (1 : Int32)) = 0 then (xlet (((F_X3_allGraves S0) &&& (x1 ^^^ (-1 : Int32))) &&& (((1 : Int32) <<< (x2 &&& 31)) ^^^ (-1 : Int32))) fun v3_1 => (xlet ((S0 1 7) ||| (S0 1 8)) fun v4_2 => (if xin x1 256 = true then (if xin v3_1 256 = true then (if xin x2 8 = true then (some ((((S0 16 (xti x1)) &&& (S0 16 (xti v3_1))) &&& ((S0 10 (xti x2)) ^^^ (-1 : Int32))) &&& v4_2)) else none) else none) else none))) else (some 0))
abbrev rm_X3_gapsAt : Room := { frames := 1, cells := 0, slots := 0, locals := 20 }
set_option maxRecDepth 100000 in
set_option maxHeartbeats 4000000 in
theorem M_X3_gapsAt (l : Launch) (D : va_G) (a : Nat → Nat) (b : Nat → ClassId) (S0 : XSt) (x1 : Int32) (x2 : Int32)  {r9 : Int32} (h : F_X3_gapsAt S0 x1 x2 = some r9) : xM l (ωC D a b) yX3_gapsAt cX3_gapsAt 5 (some .int) rm_X3_gapsAt [.ref (a 4), .int x1, .int x2] S0 (some (.int r9), S0) := by
  unfold F_X3_gapsAt at h
  refine xM_of (own := "GraveOrder$Orders") (by decide) rfl (Nat.le_of_ble_eq_true rfl) (fun Γ C => ?_)
  refine x_sub 0 [0, 1, 2] (lv' := [(0, .ref (a 4)), (1, .int x1), (2, .int x2)]) rfl ?_
  refine x_aload_n 0 C dX3_gapsAt_0 rfl 0 rfl ?_
  refine gX3_yard 1 C kw_182 dX3_gapsAt_1 ?_
  refine gX5_robbedBits 4 C kw_110 dX3_gapsAt_4 ?_
  refine x_iload_n 7 C dX3_gapsAt_7 rfl 2 rfl ?_
  refine x_ishr 8 C dX3_gapsAt_8 ?_
  refine x_iconst 9 C dX3_gapsAt_9 ci_1 ?_
  refine x_iand 10 C dX3_gapsAt_10 ?_
  refine x_if_eq 11 C 16 dX3_gapsAt_11 rfl h (fun h => ?_) (fun h => ?_)
  · refine x_aload_n 16 C dX3_gapsAt_16 rfl 0 rfl ?_
    refine x_callV 17 C (q0 := 4) (ci := 3) 0 (As := []) (rest := []) (M_X3_allGraves l D a b S0  ) (by rfl) rfl kw_461 mv_X3_allGraves mh_X3_allGraves ⟨rfl, rfl⟩ ⟨Nat.le_of_ble_eq_true rfl, Nat.le_of_ble_eq_true rfl⟩ rfl rfl (Nat.le_of_ble_eq_true rfl) dX3_gapsAt_17 ?_
    refine x_iload_n 20 C dX3_gapsAt_20 rfl 1 rfl ?_
    refine x_iconst 21 C dX3_gapsAt_21 ci_m1 ?_
    refine x_ixor 22 C dX3_gapsAt_22 ?_
    refine x_iand 23 C dX3_gapsAt_23 ?_
    refine x_iconst 24 C dX3_gapsAt_24 ci_1 ?_
    refine x_iload_n 25 C dX3_gapsAt_25 rfl 2 rfl ?_
    refine x_ishl 26 C dX3_gapsAt_26 ?_
    refine x_iconst 27 C dX3_gapsAt_27 ci_m1 ?_
    refine x_ixor 28 C dX3_gapsAt_28 ?_
    refine x_iand 29 C dX3_gapsAt_29 ?_
    refine x_top h (fun v3_1 h => ?_)
    refine x_istore_n 30 C (lv' := [(0, .ref (a 4)), (1, .int x1), (2, .int x2), (3, .int v3_1)]) dX3_gapsAt_30 rfl (Nat.le_of_ble_eq_true rfl) [1, 2, 3, 0] rfl ?_
    refine x_aload_n 31 C dX3_gapsAt_31 rfl 0 rfl ?_
    refine gX3_yard 32 C kw_182 dX3_gapsAt_32 ?_
    refine gX5_weightOnes 35 C kw_114 dX3_gapsAt_35 ?_
    refine x_aload_n 38 C dX3_gapsAt_38 rfl 0 rfl ?_
    refine gX3_yard 39 C kw_182 dX3_gapsAt_39 ?_
    refine gX5_weightTwos 42 C kw_116 dX3_gapsAt_42 ?_
    refine x_ior 45 C dX3_gapsAt_45 ?_
    refine x_top h (fun v4_2 h => ?_)
    refine x_istore 46 C (lv' := [(0, .ref (a 4)), (1, .int x1), (2, .int x2), (3, .int v3_1), (4, .int v4_2)]) dX3_gapsAt_46 (Nat.le_of_ble_eq_true rfl) [1, 2, 3, 4, 0] rfl ?_
    refine x_aload_n 48 C dX3_gapsAt_48 rfl 0 rfl ?_
    refine gX3_seen 49 C kw_183 dX3_gapsAt_49 ?_
    refine x_iload_n 52 C dX3_gapsAt_52 rfl 1 rfl ?_
    obtain ⟨hg3, h⟩ := xif_some h
    refine c_iald 53 C (n := 256) rfl hg3 dX3_gapsAt_53 ?_
    refine x_aload_n 54 C dX3_gapsAt_54 rfl 0 rfl ?_
    refine gX3_seen 55 C kw_183 dX3_gapsAt_55 ?_
    refine x_iload_n 58 C dX3_gapsAt_58 rfl 3 rfl ?_
    obtain ⟨hg4, h⟩ := xif_some h
    refine c_iald 59 C (n := 256) rfl hg4 dX3_gapsAt_59 ?_
    refine x_iand 60 C dX3_gapsAt_60 ?_
    refine x_aload_n 61 C dX3_gapsAt_61 rfl 0 rfl ?_
    refine gX3_yard 62 C kw_182 dX3_gapsAt_62 ?_
    refine gX5_kinds 65 C kw_101 dX3_gapsAt_65 ?_
    refine x_iload_n 68 C dX3_gapsAt_68 rfl 2 rfl ?_
    obtain ⟨hg5, h⟩ := xif_some h
    refine c_iald 69 C (n := 8) rfl hg5 dX3_gapsAt_69 ?_
    refine x_iconst 70 C dX3_gapsAt_70 ci_m1 ?_
    refine x_ixor 71 C dX3_gapsAt_71 ?_
    refine x_iand 72 C dX3_gapsAt_72 ?_
    refine x_iload 73 C dX3_gapsAt_73 4 rfl ?_
    refine x_iand 75 C dX3_gapsAt_75 ?_
    exact x_iret 76 C dX3_gapsAt_76 (Option.some.inj h) rfl
  · refine x_iconst 14 C dX3_gapsAt_14 ci_0 ?_
    exact x_iret 15 C dX3_gapsAt_15 (Option.some.inj h) rfl
/-! GraveOrder$Orders.fillSteps ()V -/
def B_X3_fillSteps_14 (c1 : Int32) (c2 : Int32) (kx : XSt → Option XSt) (rc : (Int32 × XSt) → Option XSt) (y3 : Int32) (S1 : XSt) : Option XSt :=
  (if (S1 1 4) ≤ y3 then kx S1 else ((F_X3_canFollow S1 c2 y3).bind fun z2 => (if z2 = 0 then (if xin ((c2 * (8 : Int32)) + y3) 2048 = true then (xlet (xst S1 18 (xti ((c2 * (8 : Int32)) + y3)) (-1)) fun S4 => (xlet (y3 + 1) fun v3_5 => rc (v3_5, S4))) else none) else ((F_X3_gapsAt S1 c2 y3).bind fun z6 => (if xin ((c2 * (8 : Int32)) + y3) 2048 = true then (xlet (xst S1 18 (xti ((c2 * (8 : Int32)) + y3)) z6) fun S8 => (xlet (y3 + 1) fun v3_9 => rc (v3_9, S8))) else none)))))
def B_X3_fillSteps_7 (c1 : Int32) (kx : XSt → Option XSt) (rc : (Int32 × XSt) → Option XSt) (y2 : Int32) (S1 : XSt) : Option XSt :=
  (if c1 < y2 then kx S1 else (xlp (fun k rc t => B_X3_fillSteps_14  c1 y2 k rc t.1 t.2) (fun e10 => (xlet (y2 + 1) fun v2_11 => rc (v2_11, e10))) XFU (0, S1)))
def F_X3_fillSteps (S0 : XSt)  : (Option XSt) :=
  (xlet (F_X3_allGraves S0) fun v1_1 => (xlp (fun k rc t => B_X3_fillSteps_7  v1_1 k rc t.1 t.2) (fun e12 => (some e12)) XFU (0, S0)))
abbrev rm_X3_fillSteps : Room := { frames := 2, cells := 0, slots := 0, locals := 44 }
set_option maxRecDepth 100000 in
set_option maxHeartbeats 4000000 in
theorem w_X3_fillSteps_14 (l : Launch) (D : va_G) (a : Nat → Nat) (b : Nat → ClassId) (S0 : XSt) {Γ : XG XSt} {S9 : XSt} (C : Cx (ωC D a b) Γ cX3_fillSteps "GraveOrder$Orders" none l rm_X3_fillSteps 4 (none, S9)) (c1 : Int32) (c2 : Int32)  (kx : XSt → Option XSt) (rc : (Int32 × XSt) → Option XSt) (hk : ∀ e, kx e = some S9 → XAt (ωC D a b) Γ 61 [(0, .ref (a 4)), (1, .int c1), (2, .int c2)] [] e) (ih : ∀ t, rc t = some S9 → XAt (ωC D a b) Γ 14 [(0, .ref (a 4)), (1, .int c1), (2, .int c2), (3, .int t.1)] [] t.2) (y3 : Int32) (S1 : XSt) (h : B_X3_fillSteps_14  c1 c2 kx rc y3 S1 = some S9) : XAt (ωC D a b) Γ 14 [(0, .ref (a 4)), (1, .int c1), (2, .int c2), (3, .int y3)] [] S1 := by
  unfold B_X3_fillSteps_14 at h
  refine x_iload_n 14 C dX3_fillSteps_14 rfl 3 rfl ?_
  refine x_aload_n 15 C dX3_fillSteps_15 rfl 0 rfl ?_
  refine gX3_yard 16 C kw_182 dX3_fillSteps_16 ?_
  refine gX5_graves 19 C kw_105 dX3_fillSteps_19 ?_
  refine x_icmp_ge 22 C 61 dX3_fillSteps_22 rfl h (fun h => ?_) (fun h => ?_)
  · exact x_sub 61 [0, 1, 2] rfl (hk _ h)
  · refine x_aload_n 25 C dX3_fillSteps_25 rfl 0 rfl ?_
    refine gX3_steps 26 C kw_185 dX3_fillSteps_26 ?_
    refine x_iload_n 29 C dX3_fillSteps_29 rfl 2 rfl ?_
    refine x_bipush 30 C dX3_fillSteps_30 cb_8 ?_
    refine x_imul 32 C dX3_fillSteps_32 ?_
    refine x_iload_n 33 C dX3_fillSteps_33 rfl 3 rfl ?_
    refine x_iadd 34 C dX3_fillSteps_34 ?_
    refine x_aload_n 35 C dX3_fillSteps_35 rfl 0 rfl ?_
    refine x_iload_n 36 C dX3_fillSteps_36 rfl 2 rfl ?_
    refine x_iload_n 37 C dX3_fillSteps_37 rfl 3 rfl ?_
    obtain ⟨z2, hz2, h⟩ := xbind_some h
    refine x_callV 38 C (q0 := 4) (ci := 3) 2 (As := [.int c2, .int y3]) (rest := [.int ((c2 * (8 : Int32)) + y3), .ref (a 18)]) (M_X3_canFollow l D a b S1 c2 y3  hz2) (by rfl) rfl kw_474 mv_X3_canFollow mh_X3_canFollow ⟨rfl, rfl⟩ ⟨Nat.le_of_ble_eq_true rfl, Nat.le_of_ble_eq_true rfl⟩ rfl rfl (Nat.le_of_ble_eq_true rfl) dX3_fillSteps_38 ?_
    refine x_if_eq 41 C 53 dX3_fillSteps_41 rfl h (fun h => ?_) (fun h => ?_)
    · refine x_iconst 53 C dX3_fillSteps_53 ci_m1 ?_
      obtain ⟨hg3, h⟩ := xif_some h
      refine c_iast 54 C (n := 2048) rfl hg3 dX3_fillSteps_54 ?_
      refine x_topS h (fun S4 h => ?_)
      refine x_iinc 55 C (L := fun v3_5 => [(0, .ref (a 4)), (1, .int c1), (2, .int c2), (3, .int v3_5)]) dX3_fillSteps_55 3 rfl ci_1 (Nat.le_of_ble_eq_true rfl) [1, 2, 3, 0] (fun _ => rfl) h (fun v3_5 h => ?_)
      refine x_goto 58 C 14 dX3_fillSteps_58 rfl ?_
      exact ih _ h
    · refine x_aload_n 44 C dX3_fillSteps_44 rfl 0 rfl ?_
      refine x_iload_n 45 C dX3_fillSteps_45 rfl 2 rfl ?_
      refine x_iload_n 46 C dX3_fillSteps_46 rfl 3 rfl ?_
      obtain ⟨z6, hz6, h⟩ := xbind_some h
      refine x_callV 47 C (q0 := 4) (ci := 3) 2 (As := [.int c2, .int y3]) (rest := [.int ((c2 * (8 : Int32)) + y3), .ref (a 18)]) (M_X3_gapsAt l D a b S1 c2 y3  hz6) (by rfl) rfl kw_478 mv_X3_gapsAt mh_X3_gapsAt ⟨rfl, rfl⟩ ⟨Nat.le_of_ble_eq_true rfl, Nat.le_of_ble_eq_true rfl⟩ rfl rfl (Nat.le_of_ble_eq_true rfl) dX3_fillSteps_47 ?_
      refine x_goto 50 C 54 dX3_fillSteps_50 rfl ?_
      obtain ⟨hg7, h⟩ := xif_some h
      refine c_iast 54 C (n := 2048) rfl hg7 dX3_fillSteps_54 ?_
      refine x_topS h (fun S8 h => ?_)
      refine x_iinc 55 C (L := fun v3_9 => [(0, .ref (a 4)), (1, .int c1), (2, .int c2), (3, .int v3_9)]) dX3_fillSteps_55 3 rfl ci_1 (Nat.le_of_ble_eq_true rfl) [1, 2, 3, 0] (fun _ => rfl) h (fun v3_9 h => ?_)
      refine x_goto 58 C 14 dX3_fillSteps_58 rfl ?_
      exact ih _ h
set_option maxRecDepth 100000 in
set_option maxHeartbeats 4000000 in
theorem w_X3_fillSteps_7 (l : Launch) (D : va_G) (a : Nat → Nat) (b : Nat → ClassId) (S0 : XSt) {Γ : XG XSt} {S9 : XSt} (C : Cx (ωC D a b) Γ cX3_fillSteps "GraveOrder$Orders" none l rm_X3_fillSteps 4 (none, S9)) (c1 : Int32)  (kx : XSt → Option XSt) (rc : (Int32 × XSt) → Option XSt) (hk : ∀ e, kx e = some S9 → XAt (ωC D a b) Γ 67 [] [] e) (ih : ∀ t, rc t = some S9 → XAt (ωC D a b) Γ 7 [(0, .ref (a 4)), (1, .int c1), (2, .int t.1)] [] t.2) (y2 : Int32) (S1 : XSt) (h : B_X3_fillSteps_7  c1 kx rc y2 S1 = some S9) : XAt (ωC D a b) Γ 7 [(0, .ref (a 4)), (1, .int c1), (2, .int y2)] [] S1 := by
  unfold B_X3_fillSteps_7 at h
  refine x_iload_n 7 C dX3_fillSteps_7 rfl 2 rfl ?_
  refine x_iload_n 8 C dX3_fillSteps_8 rfl 1 rfl ?_
  refine x_icmp_gt 9 C 67 dX3_fillSteps_9 rfl h (fun h => ?_) (fun h => ?_)
  · exact x_sub 67 [] rfl (hk _ h)
  · refine x_iconst 12 C dX3_fillSteps_12 ci_0 ?_
    refine x_istore_n 13 C (lv' := [(0, .ref (a 4)), (1, .int c1), (2, .int y2), (3, .int 0)]) dX3_fillSteps_13 rfl (Nat.le_of_ble_eq_true rfl) [1, 2, 3, 0] rfl ?_
    refine x_loop (E := fun e => XAt (ωC D a b) Γ 61 [(0, .ref (a 4)), (1, .int c1), (2, .int y2)] [] e) (P := fun t => XAt (ωC D a b) Γ 14 [(0, .ref (a 4)), (1, .int c1), (2, .int y2), (3, .int t.1)] [] t.2) h (fun e10 h => ?_) (fun kx rc t hk ih h => w_X3_fillSteps_14 l D a b S0 C   c1 y2 kx rc hk ih t.1 t.2 h)
    refine x_iinc 61 C (L := fun v2_11 => [(0, .ref (a 4)), (1, .int c1), (2, .int v2_11)]) dX3_fillSteps_61 2 rfl ci_1 (Nat.le_of_ble_eq_true rfl) [1, 2, 0] (fun _ => rfl) h (fun v2_11 h => ?_)
    refine x_goto 64 C 7 dX3_fillSteps_64 rfl ?_
    exact ih _ h
set_option maxRecDepth 100000 in
set_option maxHeartbeats 4000000 in
theorem M_X3_fillSteps (l : Launch) (D : va_G) (a : Nat → Nat) (b : Nat → ClassId) (S0 : XSt)   {S9 : XSt} (h : F_X3_fillSteps S0 = some S9) : xM l (ωC D a b) yX3_fillSteps cX3_fillSteps 4 none rm_X3_fillSteps [.ref (a 4)] S0 (none, S9) := by
  unfold F_X3_fillSteps at h
  refine xM_of (own := "GraveOrder$Orders") (by decide) rfl (Nat.le_of_ble_eq_true rfl) (fun Γ C => ?_)
  refine x_sub 0 [0] (lv' := [(0, .ref (a 4))]) rfl ?_
  refine x_aload_n 0 C dX3_fillSteps_0 rfl 0 rfl ?_
  refine x_callV 1 C (q0 := 4) (ci := 3) 0 (As := []) (rest := []) (M_X3_allGraves l D a b S0  ) (by rfl) rfl kw_461 mv_X3_allGraves mh_X3_allGraves ⟨rfl, rfl⟩ ⟨Nat.le_of_ble_eq_true rfl, Nat.le_of_ble_eq_true rfl⟩ rfl rfl (Nat.le_of_ble_eq_true rfl) dX3_fillSteps_1 ?_
  refine x_top h (fun v1_1 h => ?_)
  refine x_istore_n 4 C (lv' := [(0, .ref (a 4)), (1, .int v1_1)]) dX3_fillSteps_4 rfl (Nat.le_of_ble_eq_true rfl) [1, 0] rfl ?_
  refine x_iconst 5 C dX3_fillSteps_5 ci_0 ?_
  refine x_istore_n 6 C (lv' := [(0, .ref (a 4)), (1, .int v1_1), (2, .int 0)]) dX3_fillSteps_6 rfl (Nat.le_of_ble_eq_true rfl) [1, 2, 0] rfl ?_
  refine x_loop (E := fun e => XAt (ωC D a b) Γ 67 [] [] e) (P := fun t => XAt (ωC D a b) Γ 7 [(0, .ref (a 4)), (1, .int v1_1), (2, .int t.1)] [] t.2) h (fun e12 h => ?_) (fun kx rc t hk ih h => w_X3_fillSteps_7 l D a b S0 C   v1_1 kx rc hk ih t.1 t.2 h)
  exact x_vret 67 C dX3_fillSteps_67 (Option.some.inj h)
/-! GraveOrder$Orders.fillAhead ()V -/
def B_X3_fillAhead_7 (c1 : Int32) (kx : XSt → Option XSt) (rc : (Int32 × XSt) → Option XSt) (y2 : Int32) (S1 : XSt) : Option XSt :=
  (if c1 < y2 then kx S1 else (if y2 = 0 then (if xin y2 256 = true then (xlet (xst S1 19 (xti y2) 0) fun S6 => (xlet (y2 + 1) fun v2_7 => rc (v2_7, S6))) else none) else (if xin y2 256 = true then (xlet (xst S1 19 (xti y2) 1000000) fun S3 => (xlet (y2 + 1) fun v2_4 => rc (v2_4, S3))) else none)))
def B_X3_fillAhead_43 (c1 : Int32) (c2 : Int32) (kx : XSt → Option XSt) (rc : (Int32 × XSt) → Option XSt) (y3 : Int32) (S1 : XSt) : Option XSt :=
  (if (S1 1 4) ≤ y3 then kx S1 else (if xin ((c2 * (8 : Int32)) + y3) 2048 = true then (xlet (S1 18 (xti ((c2 * (8 : Int32)) + y3))) fun v4_10 => (if v4_10 = (-1) then (xlet (y3 + 1) fun v3_11 => rc (v3_11, S1)) else (xlet (c2 ||| ((1 : Int32) <<< (y3 &&& 31))) fun v5_12 => (if xin v5_12 256 = true then (if xin c2 256 = true then (if xin v5_12 256 = true then (xlet (xst S1 19 (xti v5_12) (xmin (S1 19 (xti v5_12)) ((S1 19 (xti c2)) + (F_X5_weigh S1 v4_10)))) fun S16 => (xlet (y3 + 1) fun v3_17 => rc (v3_17, S16))) else none) else none) else none)))) else none))
def B_X3_fillAhead_36 (c1 : Int32) (kx : XSt → Option XSt) (rc : (Int32 × XSt) → Option XSt) (y2 : Int32) (S1 : XSt) : Option XSt :=
  (if c1 ≤ y2 then kx S1 else (xlp (fun k rc t => B_X3_fillAhead_43  c1 y2 k rc t.1 t.2) (fun e18 => (xlet (y2 + 1) fun v2_19 => rc (v2_19, e18))) XFU (0, S1)))
def F_X3_fillAhead (S0 : XSt)  : (Option XSt) :=
  (xlet (F_X3_allGraves S0) fun v1_1 => (xlp (fun k rc t => B_X3_fillAhead_7  v1_1 k rc t.1 t.2) (fun e8 => (xlp (fun k rc t => B_X3_fillAhead_36  v1_1 k rc t.1 t.2) (fun e20 => (some e20)) XFU (0, e8))) XFU (0, S0)))
abbrev rm_X3_fillAhead : Room := { frames := 2, cells := 0, slots := 0, locals := 41 }
set_option maxRecDepth 100000 in
set_option maxHeartbeats 4000000 in
theorem w_X3_fillAhead_7 (l : Launch) (D : va_G) (a : Nat → Nat) (b : Nat → ClassId) (S0 : XSt) {Γ : XG XSt} {S9 : XSt} (C : Cx (ωC D a b) Γ cX3_fillAhead "GraveOrder$Orders" none l rm_X3_fillAhead 6 (none, S9)) (c1 : Int32)  (kx : XSt → Option XSt) (rc : (Int32 × XSt) → Option XSt) (hk : ∀ e, kx e = some S9 → XAt (ωC D a b) Γ 34 [(0, .ref (a 4)), (1, .int c1)] [] e) (ih : ∀ t, rc t = some S9 → XAt (ωC D a b) Γ 7 [(0, .ref (a 4)), (1, .int c1), (2, .int t.1)] [] t.2) (y2 : Int32) (S1 : XSt) (h : B_X3_fillAhead_7  c1 kx rc y2 S1 = some S9) : XAt (ωC D a b) Γ 7 [(0, .ref (a 4)), (1, .int c1), (2, .int y2)] [] S1 := by
  unfold B_X3_fillAhead_7 at h
  refine x_iload_n 7 C dX3_fillAhead_7 rfl 2 rfl ?_
  refine x_iload_n 8 C dX3_fillAhead_8 rfl 1 rfl ?_
  refine x_icmp_gt 9 C 34 dX3_fillAhead_9 rfl h (fun h => ?_) (fun h => ?_)
  · exact x_sub 34 [0, 1] rfl (hk _ h)
  · refine x_aload_n 12 C dX3_fillAhead_12 rfl 0 rfl ?_
    refine gX3_ahead 13 C kw_186 dX3_fillAhead_13 ?_
    refine x_iload_n 16 C dX3_fillAhead_16 rfl 2 rfl ?_
    refine x_iload_n 17 C dX3_fillAhead_17 rfl 2 rfl ?_
    refine x_if_ne 18 C 25 dX3_fillAhead_18 rfl h (fun h => ?_) (fun h => ?_)
    · refine x_ldc 25 C kw_486 dX3_fillAhead_25 ?_
      obtain ⟨hg2, h⟩ := xif_some h
      refine c_iast 27 C (n := 256) rfl hg2 dX3_fillAhead_27 ?_
      refine x_topS h (fun S3 h => ?_)
      refine x_iinc 28 C (L := fun v2_4 => [(0, .ref (a 4)), (1, .int c1), (2, .int v2_4)]) dX3_fillAhead_28 2 rfl ci_1 (Nat.le_of_ble_eq_true rfl) [1, 2, 0] (fun _ => rfl) h (fun v2_4 h => ?_)
      refine x_goto 31 C 7 dX3_fillAhead_31 rfl ?_
      exact ih _ h
    · refine x_iconst 21 C dX3_fillAhead_21 ci_0 ?_
      refine x_goto 22 C 27 dX3_fillAhead_22 rfl ?_
      obtain ⟨hg5, h⟩ := xif_some h
      refine c_iast 27 C (n := 256) rfl hg5 dX3_fillAhead_27 ?_
      refine x_topS h (fun S6 h => ?_)
      refine x_iinc 28 C (L := fun v2_7 => [(0, .ref (a 4)), (1, .int c1), (2, .int v2_7)]) dX3_fillAhead_28 2 rfl ci_1 (Nat.le_of_ble_eq_true rfl) [1, 2, 0] (fun _ => rfl) h (fun v2_7 h => ?_)
      refine x_goto 31 C 7 dX3_fillAhead_31 rfl ?_
      exact ih _ h
set_option maxRecDepth 100000 in
set_option maxHeartbeats 4000000 in
theorem w_X3_fillAhead_43 (l : Launch) (D : va_G) (a : Nat → Nat) (b : Nat → ClassId) (S0 : XSt) {Γ : XG XSt} {S9 : XSt} (C : Cx (ωC D a b) Γ cX3_fillAhead "GraveOrder$Orders" none l rm_X3_fillAhead 6 (none, S9)) (c1 : Int32) (c2 : Int32)  (kx : XSt → Option XSt) (rc : (Int32 × XSt) → Option XSt) (hk : ∀ e, kx e = some S9 → XAt (ωC D a b) Γ 119 [(0, .ref (a 4)), (1, .int c1), (2, .int c2)] [] e) (ih : ∀ t, rc t = some S9 → XAt (ωC D a b) Γ 43 [(0, .ref (a 4)), (1, .int c1), (2, .int c2), (3, .int t.1)] [] t.2) (y3 : Int32) (S1 : XSt) (h : B_X3_fillAhead_43  c1 c2 kx rc y3 S1 = some S9) : XAt (ωC D a b) Γ 43 [(0, .ref (a 4)), (1, .int c1), (2, .int c2), (3, .int y3)] [] S1 := by
  unfold B_X3_fillAhead_43 at h
  refine x_iload_n 43 C dX3_fillAhead_43 rfl 3 rfl ?_
  refine x_aload_n 44 C dX3_fillAhead_44 rfl 0 rfl ?_
  refine gX3_yard 45 C kw_182 dX3_fillAhead_45 ?_
  refine gX5_graves 48 C kw_105 dX3_fillAhead_48 ?_
  refine x_icmp_ge 51 C 119 dX3_fillAhead_51 rfl h (fun h => ?_) (fun h => ?_)
  · exact x_sub 119 [0, 1, 2] rfl (hk _ h)
  · refine x_aload_n 54 C dX3_fillAhead_54 rfl 0 rfl ?_
    refine gX3_steps 55 C kw_185 dX3_fillAhead_55 ?_
    refine x_iload_n 58 C dX3_fillAhead_58 rfl 2 rfl ?_
    refine x_bipush 59 C dX3_fillAhead_59 cb_8 ?_
    refine x_imul 61 C dX3_fillAhead_61 ?_
    refine x_iload_n 62 C dX3_fillAhead_62 rfl 3 rfl ?_
    refine x_iadd 63 C dX3_fillAhead_63 ?_
    obtain ⟨hg9, h⟩ := xif_some h
    refine c_iald 64 C (n := 2048) rfl hg9 dX3_fillAhead_64 ?_
    refine x_top h (fun v4_10 h => ?_)
    refine x_istore 65 C (lv' := [(0, .ref (a 4)), (1, .int c1), (2, .int c2), (3, .int y3), (4, .int v4_10)]) dX3_fillAhead_65 (Nat.le_of_ble_eq_true rfl) [1, 2, 3, 4, 0] rfl ?_
    refine x_iload 67 C dX3_fillAhead_67 4 rfl ?_
    refine x_iconst 69 C dX3_fillAhead_69 ci_m1 ?_
    refine x_icmp_eq 70 C 113 dX3_fillAhead_70 rfl h (fun h => ?_) (fun h => ?_)
    · refine x_iinc 113 C (L := fun v3_11 => [(0, .ref (a 4)), (1, .int c1), (2, .int c2), (3, .int v3_11)]) dX3_fillAhead_113 3 rfl ci_1 (Nat.le_of_ble_eq_true rfl) [1, 2, 3, 0] (fun _ => rfl) h (fun v3_11 h => ?_)
      refine x_goto 116 C 43 dX3_fillAhead_116 rfl ?_
      exact ih _ h
    · refine x_iload_n 73 C dX3_fillAhead_73 rfl 2 rfl ?_
      refine x_iconst 74 C dX3_fillAhead_74 ci_1 ?_
      refine x_iload_n 75 C dX3_fillAhead_75 rfl 3 rfl ?_
      refine x_ishl 76 C dX3_fillAhead_76 ?_
      refine x_ior 77 C dX3_fillAhead_77 ?_
      refine x_top h (fun v5_12 h => ?_)
      refine x_istore 78 C (lv' := [(0, .ref (a 4)), (1, .int c1), (2, .int c2), (3, .int y3), (4, .int v4_10), (5, .int v5_12)]) dX3_fillAhead_78 (Nat.le_of_ble_eq_true rfl) [1, 2, 3, 4, 5, 0] rfl ?_
      refine x_aload_n 80 C dX3_fillAhead_80 rfl 0 rfl ?_
      refine gX3_ahead 81 C kw_186 dX3_fillAhead_81 ?_
      refine x_iload 84 C dX3_fillAhead_84 5 rfl ?_
      refine x_aload_n 86 C dX3_fillAhead_86 rfl 0 rfl ?_
      refine gX3_ahead 87 C kw_186 dX3_fillAhead_87 ?_
      refine x_iload 90 C dX3_fillAhead_90 5 rfl ?_
      obtain ⟨hg13, h⟩ := xif_some h
      refine c_iald 92 C (n := 256) rfl hg13 dX3_fillAhead_92 ?_
      refine x_aload_n 93 C dX3_fillAhead_93 rfl 0 rfl ?_
      refine gX3_ahead 94 C kw_186 dX3_fillAhead_94 ?_
      refine x_iload_n 97 C dX3_fillAhead_97 rfl 2 rfl ?_
      obtain ⟨hg14, h⟩ := xif_some h
      refine c_iald 98 C (n := 256) rfl hg14 dX3_fillAhead_98 ?_
      refine x_aload_n 99 C dX3_fillAhead_99 rfl 0 rfl ?_
      refine gX3_yard 100 C kw_182 dX3_fillAhead_100 ?_
      refine x_iload 103 C dX3_fillAhead_103 4 rfl ?_
      refine x_callV 105 C (q0 := 1) (ci := 5) 1 (As := [.int v4_10]) (rest := [.int (S1 19 (xti c2)), .int (S1 19 (xti v5_12)), .int v5_12, .ref (a 19)]) (M_X5_weigh l D a b S1 v4_10 ) (by rfl) rfl kw_487 mv_X5_weigh mh_X5_weigh ⟨rfl, rfl⟩ ⟨Nat.le_of_ble_eq_true rfl, Nat.le_of_ble_eq_true rfl⟩ rfl rfl (Nat.le_of_ble_eq_true rfl) dX3_fillAhead_105 ?_
      refine x_iadd 108 C dX3_fillAhead_108 ?_
      refine y_mmin 109 C kw_488_min kmath_min.1 kmath kmath_min.2 (Nat.le_of_ble_eq_true rfl) (Nat.le_of_ble_eq_true rfl) dX3_fillAhead_109 ?_
      obtain ⟨hg15, h⟩ := xif_some h
      refine c_iast 112 C (n := 256) rfl hg15 dX3_fillAhead_112 ?_
      refine x_topS h (fun S16 h => ?_)
      refine x_iinc 113 C (L := fun v3_17 => [(0, .ref (a 4)), (1, .int c1), (2, .int c2), (3, .int v3_17)]) dX3_fillAhead_113 3 rfl ci_1 (Nat.le_of_ble_eq_true rfl) [1, 2, 3, 0] (fun _ => rfl) h (fun v3_17 h => ?_)
      refine x_goto 116 C 43 dX3_fillAhead_116 rfl ?_
      exact ih _ h
set_option maxRecDepth 100000 in
set_option maxHeartbeats 4000000 in
theorem w_X3_fillAhead_36 (l : Launch) (D : va_G) (a : Nat → Nat) (b : Nat → ClassId) (S0 : XSt) {Γ : XG XSt} {S9 : XSt} (C : Cx (ωC D a b) Γ cX3_fillAhead "GraveOrder$Orders" none l rm_X3_fillAhead 6 (none, S9)) (c1 : Int32)  (kx : XSt → Option XSt) (rc : (Int32 × XSt) → Option XSt) (hk : ∀ e, kx e = some S9 → XAt (ωC D a b) Γ 125 [] [] e) (ih : ∀ t, rc t = some S9 → XAt (ωC D a b) Γ 36 [(0, .ref (a 4)), (1, .int c1), (2, .int t.1)] [] t.2) (y2 : Int32) (S1 : XSt) (h : B_X3_fillAhead_36  c1 kx rc y2 S1 = some S9) : XAt (ωC D a b) Γ 36 [(0, .ref (a 4)), (1, .int c1), (2, .int y2)] [] S1 := by
  unfold B_X3_fillAhead_36 at h
  refine x_iload_n 36 C dX3_fillAhead_36 rfl 2 rfl ?_
  refine x_iload_n 37 C dX3_fillAhead_37 rfl 1 rfl ?_
  refine x_icmp_ge 38 C 125 dX3_fillAhead_38 rfl h (fun h => ?_) (fun h => ?_)
  · exact x_sub 125 [] rfl (hk _ h)
  · refine x_iconst 41 C dX3_fillAhead_41 ci_0 ?_
    refine x_istore_n 42 C (lv' := [(0, .ref (a 4)), (1, .int c1), (2, .int y2), (3, .int 0)]) dX3_fillAhead_42 rfl (Nat.le_of_ble_eq_true rfl) [1, 2, 3, 0] rfl ?_
    refine x_loop (E := fun e => XAt (ωC D a b) Γ 119 [(0, .ref (a 4)), (1, .int c1), (2, .int y2)] [] e) (P := fun t => XAt (ωC D a b) Γ 43 [(0, .ref (a 4)), (1, .int c1), (2, .int y2), (3, .int t.1)] [] t.2) h (fun e18 h => ?_) (fun kx rc t hk ih h => w_X3_fillAhead_43 l D a b S0 C   c1 y2 kx rc hk ih t.1 t.2 h)
    refine x_iinc 119 C (L := fun v2_19 => [(0, .ref (a 4)), (1, .int c1), (2, .int v2_19)]) dX3_fillAhead_119 2 rfl ci_1 (Nat.le_of_ble_eq_true rfl) [1, 2, 0] (fun _ => rfl) h (fun v2_19 h => ?_)
    refine x_goto 122 C 36 dX3_fillAhead_122 rfl ?_
    exact ih _ h
set_option maxRecDepth 100000 in
set_option maxHeartbeats 4000000 in
theorem M_X3_fillAhead (l : Launch) (D : va_G) (a : Nat → Nat) (b : Nat → ClassId) (S0 : XSt)   {S9 : XSt} (h : F_X3_fillAhead S0 = some S9) : xM l (ωC D a b) yX3_fillAhead cX3_fillAhead 6 none rm_X3_fillAhead [.ref (a 4)] S0 (none, S9) := by
  unfold F_X3_fillAhead at h
  refine xM_of (own := "GraveOrder$Orders") (by decide) rfl (Nat.le_of_ble_eq_true rfl) (fun Γ C => ?_)
  refine x_sub 0 [0] (lv' := [(0, .ref (a 4))]) rfl ?_
  refine x_aload_n 0 C dX3_fillAhead_0 rfl 0 rfl ?_
  refine x_callV 1 C (q0 := 4) (ci := 3) 0 (As := []) (rest := []) (M_X3_allGraves l D a b S0  ) (by rfl) rfl kw_461 mv_X3_allGraves mh_X3_allGraves ⟨rfl, rfl⟩ ⟨Nat.le_of_ble_eq_true rfl, Nat.le_of_ble_eq_true rfl⟩ rfl rfl (Nat.le_of_ble_eq_true rfl) dX3_fillAhead_1 ?_
  refine x_top h (fun v1_1 h => ?_)
  refine x_istore_n 4 C (lv' := [(0, .ref (a 4)), (1, .int v1_1)]) dX3_fillAhead_4 rfl (Nat.le_of_ble_eq_true rfl) [1, 0] rfl ?_
  refine x_iconst 5 C dX3_fillAhead_5 ci_0 ?_
  refine x_istore_n 6 C (lv' := [(0, .ref (a 4)), (1, .int v1_1), (2, .int 0)]) dX3_fillAhead_6 rfl (Nat.le_of_ble_eq_true rfl) [1, 2, 0] rfl ?_
  refine x_loop (E := fun e => XAt (ωC D a b) Γ 34 [(0, .ref (a 4)), (1, .int v1_1)] [] e) (P := fun t => XAt (ωC D a b) Γ 7 [(0, .ref (a 4)), (1, .int v1_1), (2, .int t.1)] [] t.2) h (fun e8 h => ?_) (fun kx rc t hk ih h => w_X3_fillAhead_7 l D a b S0 C   v1_1 kx rc hk ih t.1 t.2 h)
  refine x_iconst 34 C dX3_fillAhead_34 ci_0 ?_
  refine x_istore_n 35 C (lv' := [(0, .ref (a 4)), (1, .int v1_1), (2, .int 0)]) dX3_fillAhead_35 rfl (Nat.le_of_ble_eq_true rfl) [1, 2, 0] rfl ?_
  refine x_loop (E := fun e => XAt (ωC D a b) Γ 125 [] [] e) (P := fun t => XAt (ωC D a b) Γ 36 [(0, .ref (a 4)), (1, .int v1_1), (2, .int t.1)] [] t.2) h (fun e20 h => ?_) (fun kx rc t hk ih h => w_X3_fillAhead_36 l D a b S0 C   v1_1 kx rc hk ih t.1 t.2 h)
  exact x_vret 125 C dX3_fillAhead_125 (Option.some.inj h)
/-! GraveOrder$Orders.tryNext (II)V -/
def F_X3_tryNext (S0 : XSt) (x1 : Int32) (x2 : Int32) : (Option XSt) :=
  (if xin ((x1 * (8 : Int32)) + x2) 2048 = true then (xlet (S0 18 (xti ((x1 * (8 : Int32)) + x2))) fun v3_2 => (if v3_2 = (-1) then (some S0) else (xlet (x1 ||| ((1 : Int32) <<< (x2 &&& 31))) fun v4_3 => (if xin v4_3 256 = true then (xlet ((S0 20 (xti v4_3)) + (F_X5_weigh S0 v3_2)) fun v5_5 => (if xin v4_3 256 = true then (if (S0 21 (xti v4_3)) = 0 then (some S0) else (if xin x1 256 = true then (if v5_5 ≤ (S0 20 (xti x1)) then (if xin x1 256 = true then (xlet (fun (t9 : Int32) => (if xin x1 256 = true then (xlet (xst S0 21 (xti x1) t9) fun S12 => (if xin x1 256 = true then (xlet (xst S12 20 (xti x1) v5_5) fun S14 => (some S14)) else none)) else none)) fun j10 => (if (S0 20 (xti x1)) ≤ v5_5 then (if xin x1 256 = true then (if xin v4_3 256 = true then j10 ((S0 21 (xti x1)) + (S0 21 (xti v4_3))) else none) else none) else (if xin v4_3 256 = true then j10 (S0 21 (xti v4_3)) else none))) else none) else (some S0)) else none)) else none)) else none)))) else none)
abbrev rm_X3_tryNext : Room := { frames := 2, cells := 0, slots := 0, locals := 41 }
set_option maxRecDepth 100000 in
set_option maxHeartbeats 4000000 in
theorem M_X3_tryNext (l : Launch) (D : va_G) (a : Nat → Nat) (b : Nat → ClassId) (S0 : XSt) (x1 : Int32) (x2 : Int32)  {S9 : XSt} (h : F_X3_tryNext S0 x1 x2 = some S9) : xM l (ωC D a b) yX3_tryNext cX3_tryNext 6 none rm_X3_tryNext [.ref (a 4), .int x1, .int x2] S0 (none, S9) := by
  unfold F_X3_tryNext at h
  refine xM_of (own := "GraveOrder$Orders") (by decide) rfl (Nat.le_of_ble_eq_true rfl) (fun Γ C => ?_)
  refine x_sub 0 [0, 1, 2] (lv' := [(0, .ref (a 4)), (1, .int x1), (2, .int x2)]) rfl ?_
  refine x_aload_n 0 C dX3_tryNext_0 rfl 0 rfl ?_
  refine gX3_steps 1 C kw_185 dX3_tryNext_1 ?_
  refine x_iload_n 4 C dX3_tryNext_4 rfl 1 rfl ?_
  refine x_bipush 5 C dX3_tryNext_5 cb_8 ?_
  refine x_imul 7 C dX3_tryNext_7 ?_
  refine x_iload_n 8 C dX3_tryNext_8 rfl 2 rfl ?_
  refine x_iadd 9 C dX3_tryNext_9 ?_
  obtain ⟨hg1, h⟩ := xif_some h
  refine c_iald 10 C (n := 2048) rfl hg1 dX3_tryNext_10 ?_
  refine x_top h (fun v3_2 h => ?_)
  refine x_istore_n 11 C (lv' := [(0, .ref (a 4)), (1, .int x1), (2, .int x2), (3, .int v3_2)]) dX3_tryNext_11 rfl (Nat.le_of_ble_eq_true rfl) [1, 2, 3, 0] rfl ?_
  refine x_iload_n 12 C dX3_tryNext_12 rfl 3 rfl ?_
  refine x_iconst 13 C dX3_tryNext_13 ci_m1 ?_
  refine x_icmp_ne 14 C 18 dX3_tryNext_14 rfl h (fun h => ?_) (fun h => ?_)
  · refine x_iload_n 18 C dX3_tryNext_18 rfl 1 rfl ?_
    refine x_iconst 19 C dX3_tryNext_19 ci_1 ?_
    refine x_iload_n 20 C dX3_tryNext_20 rfl 2 rfl ?_
    refine x_ishl 21 C dX3_tryNext_21 ?_
    refine x_ior 22 C dX3_tryNext_22 ?_
    refine x_top h (fun v4_3 h => ?_)
    refine x_istore 23 C (lv' := [(0, .ref (a 4)), (1, .int x1), (3, .int v3_2), (4, .int v4_3)]) dX3_tryNext_23 (Nat.le_of_ble_eq_true rfl) [1, 2, 4, 0] rfl ?_
    refine x_aload_n 25 C dX3_tryNext_25 rfl 0 rfl ?_
    refine gX3_behind 26 C kw_187 dX3_tryNext_26 ?_
    refine x_iload 29 C dX3_tryNext_29 3 rfl ?_
    obtain ⟨hg4, h⟩ := xif_some h
    refine c_iald 31 C (n := 256) rfl hg4 dX3_tryNext_31 ?_
    refine x_aload_n 32 C dX3_tryNext_32 rfl 0 rfl ?_
    refine gX3_yard 33 C kw_182 dX3_tryNext_33 ?_
    refine x_iload_n 36 C dX3_tryNext_36 rfl 2 rfl ?_
    refine x_callV 37 C (q0 := 1) (ci := 5) 1 (As := [.int v3_2]) (rest := [.int (S0 20 (xti v4_3))]) (M_X5_weigh l D a b S0 v3_2 ) (by rfl) rfl kw_487 mv_X5_weigh mh_X5_weigh ⟨rfl, rfl⟩ ⟨Nat.le_of_ble_eq_true rfl, Nat.le_of_ble_eq_true rfl⟩ rfl rfl (Nat.le_of_ble_eq_true rfl) dX3_tryNext_37 ?_
    refine x_iadd 40 C dX3_tryNext_40 ?_
    refine x_top h (fun v5_5 h => ?_)
    refine x_istore 41 C (lv' := [(0, .ref (a 4)), (1, .int x1), (4, .int v4_3), (5, .int v5_5)]) dX3_tryNext_41 (Nat.le_of_ble_eq_true rfl) [1, 2, 4, 0] rfl ?_
    refine x_aload_n 43 C dX3_tryNext_43 rfl 0 rfl ?_
    refine gX3_ways 44 C kw_189 dX3_tryNext_44 ?_
    refine x_iload 47 C dX3_tryNext_47 2 rfl ?_
    obtain ⟨hg6, h⟩ := xif_some h
    refine c_iald 49 C (n := 256) rfl hg6 dX3_tryNext_49 ?_
    refine x_if_eq 50 C 64 dX3_tryNext_50 rfl h (fun h => ?_) (fun h => ?_)
    · exact x_vret 64 C dX3_tryNext_64 (Option.some.inj h)
    · refine x_iload 53 C dX3_tryNext_53 3 rfl ?_
      refine x_aload_n 55 C dX3_tryNext_55 rfl 0 rfl ?_
      refine gX3_behind 56 C kw_187 dX3_tryNext_56 ?_
      refine x_iload_n 59 C dX3_tryNext_59 rfl 1 rfl ?_
      obtain ⟨hg7, h⟩ := xif_some h
      refine c_iald 60 C (n := 256) rfl hg7 dX3_tryNext_60 ?_
      refine x_icmp_le 61 C 65 dX3_tryNext_61 rfl h (fun h => ?_) (fun h => ?_)
      · refine x_aload_n 65 C dX3_tryNext_65 rfl 0 rfl ?_
        refine gX3_ways 66 C kw_189 dX3_tryNext_66 ?_
        refine x_iload_n 69 C dX3_tryNext_69 rfl 1 rfl ?_
        refine x_iload 70 C dX3_tryNext_70 3 rfl ?_
        refine x_aload_n 72 C dX3_tryNext_72 rfl 0 rfl ?_
        refine gX3_behind 73 C kw_187 dX3_tryNext_73 ?_
        refine x_iload_n 76 C dX3_tryNext_76 rfl 1 rfl ?_
        obtain ⟨hg8, h⟩ := xif_some h
        refine c_iald 77 C (n := 256) rfl hg8 dX3_tryNext_77 ?_
        refine x_join (P := fun t9 => XAt (ωC D a b) Γ 105 [(0, .ref (a 4)), (1, .int x1), (5, .int v5_5)] [.int t9, .int x1, .ref (a 21)] S0) h (fun t9 h => ?_) (fun j10 hj10 h => ?_)
        · obtain ⟨hg11, h⟩ := xif_some h
          refine c_iast 105 C (n := 256) rfl hg11 dX3_tryNext_105 ?_
          refine x_topS h (fun S12 h => ?_)
          refine x_aload_n 106 C dX3_tryNext_106 rfl 0 rfl ?_
          refine gX3_behind 107 C kw_187 dX3_tryNext_107 ?_
          refine x_iload_n 110 C dX3_tryNext_110 rfl 1 rfl ?_
          refine x_iload 111 C dX3_tryNext_111 2 rfl ?_
          obtain ⟨hg13, h⟩ := xif_some h
          refine c_iast 113 C (n := 256) rfl hg13 dX3_tryNext_113 ?_
          refine x_topS h (fun S14 h => ?_)
          exact x_vret 114 C dX3_tryNext_114 (Option.some.inj h)
        refine x_icmp_ge 78 C 91 dX3_tryNext_78 rfl h (fun h => ?_) (fun h => ?_)
        · refine x_aload_n 91 C dX3_tryNext_91 rfl 0 rfl ?_
          refine gX3_ways 92 C kw_189 dX3_tryNext_92 ?_
          refine x_iload_n 95 C dX3_tryNext_95 rfl 1 rfl ?_
          obtain ⟨hg15, h⟩ := xif_some h
          refine c_iald 96 C (n := 256) rfl hg15 dX3_tryNext_96 ?_
          refine x_aload_n 97 C dX3_tryNext_97 rfl 0 rfl ?_
          refine gX3_ways 98 C kw_189 dX3_tryNext_98 ?_
          refine x_iload 101 C dX3_tryNext_101 2 rfl ?_
          obtain ⟨hg16, h⟩ := xif_some h
          refine c_iald 103 C (n := 256) rfl hg16 dX3_tryNext_103 ?_
          refine x_iadd 104 C dX3_tryNext_104 ?_
          exact x_sub 105 [0, 1, 3] rfl (hj10 _ h)
        · refine x_aload_n 81 C dX3_tryNext_81 rfl 0 rfl ?_
          refine gX3_ways 82 C kw_189 dX3_tryNext_82 ?_
          refine x_iload 85 C dX3_tryNext_85 2 rfl ?_
          obtain ⟨hg17, h⟩ := xif_some h
          refine c_iald 87 C (n := 256) rfl hg17 dX3_tryNext_87 ?_
          refine x_goto 88 C 105 dX3_tryNext_88 rfl ?_
          exact x_sub 105 [0, 1, 3] rfl (hj10 _ h)
      · exact x_vret 64 C dX3_tryNext_64 (Option.some.inj h)
  · exact x_vret 17 C dX3_tryNext_17 (Option.some.inj h)
/-! GraveOrder$Orders.fillBehind ()V -/
def B_X3_fillBehind_44 (c2 : Int32) (kx : XSt → Option XSt) (rc : (Int32 × XSt) → Option XSt) (y3 : Int32) (S1 : XSt) : Option XSt :=
  (if (S1 1 4) ≤ y3 then kx S1 else ((F_X3_tryNext S1 c2 y3).bind fun z11 => (xlet (y3 + 1) fun v3_12 => rc (v3_12, z11))))
def B_X3_fillBehind_23  (kx : XSt → Option XSt) (rc : (Int32 × XSt) → Option XSt) (y2 : Int32) (S1 : XSt) : Option XSt :=
  (if y2 < 0 then kx S1 else (if xin y2 256 = true then (xlet (xst S1 20 (xti y2) 1000000) fun S8 => (if xin y2 256 = true then (xlet (xst S8 21 (xti y2) 0) fun S10 => (xlp (fun k rc t => B_X3_fillBehind_44  y2 k rc t.1 t.2) (fun e13 => (xlet (y2 + (-1)) fun v2_14 => rc (v2_14, e13))) XFU (0, S10))) else none)) else none))
def F_X3_fillBehind (S0 : XSt)  : (Option XSt) :=
  (xlet (F_X3_allGraves S0) fun v1_1 => (if xin v1_1 256 = true then (xlet (xst S0 20 (xti v1_1) 0) fun S3 => (if xin v1_1 256 = true then (xlet (xst S3 21 (xti v1_1) 1) fun S5 => (xlet (v1_1 - (1 : Int32)) fun v2_6 => (xlp (fun k rc t => B_X3_fillBehind_23   k rc t.1 t.2) (fun e15 => (some e15)) XFU (v2_6, S5)))) else none)) else none))
abbrev rm_X3_fillBehind : Room := { frames := 3, cells := 0, slots := 0, locals := 66 }
set_option maxRecDepth 100000 in
set_option maxHeartbeats 4000000 in
theorem w_X3_fillBehind_44 (l : Launch) (D : va_G) (a : Nat → Nat) (b : Nat → ClassId) (S0 : XSt) {Γ : XG XSt} {S9 : XSt} (C : Cx (ωC D a b) Γ cX3_fillBehind "GraveOrder$Orders" none l rm_X3_fillBehind 4 (none, S9)) (c2 : Int32)  (kx : XSt → Option XSt) (rc : (Int32 × XSt) → Option XSt) (hk : ∀ e, kx e = some S9 → XAt (ωC D a b) Γ 67 [(0, .ref (a 4)), (2, .int c2)] [] e) (ih : ∀ t, rc t = some S9 → XAt (ωC D a b) Γ 44 [(0, .ref (a 4)), (2, .int c2), (3, .int t.1)] [] t.2) (y3 : Int32) (S1 : XSt) (h : B_X3_fillBehind_44  c2 kx rc y3 S1 = some S9) : XAt (ωC D a b) Γ 44 [(0, .ref (a 4)), (2, .int c2), (3, .int y3)] [] S1 := by
  unfold B_X3_fillBehind_44 at h
  refine x_iload_n 44 C dX3_fillBehind_44 rfl 2 rfl ?_
  refine x_aload_n 45 C dX3_fillBehind_45 rfl 0 rfl ?_
  refine gX3_yard 46 C kw_182 dX3_fillBehind_46 ?_
  refine gX5_graves 49 C kw_105 dX3_fillBehind_49 ?_
  refine x_icmp_ge 52 C 67 dX3_fillBehind_52 rfl h (fun h => ?_) (fun h => ?_)
  · exact x_sub 67 [0, 1] rfl (hk _ h)
  · refine x_aload_n 55 C dX3_fillBehind_55 rfl 0 rfl ?_
    refine x_iload_n 56 C dX3_fillBehind_56 rfl 1 rfl ?_
    refine x_iload_n 57 C dX3_fillBehind_57 rfl 2 rfl ?_
    obtain ⟨z11, hz11, h⟩ := xbind_some h
    refine x_callV 58 C (q0 := 4) (ci := 3) 2 (As := [.int c2, .int y3]) (rest := []) (M_X3_tryNext l D a b S1 c2 y3  hz11) (by rfl) rfl kw_495 mv_X3_tryNext mh_X3_tryNext ⟨rfl, rfl⟩ ⟨Nat.le_of_ble_eq_true rfl, Nat.le_of_ble_eq_true rfl⟩ rfl rfl (Nat.le_of_ble_eq_true rfl) dX3_fillBehind_58 ?_
    refine x_iinc 61 C (L := fun v3_12 => [(0, .ref (a 4)), (2, .int c2), (3, .int v3_12)]) dX3_fillBehind_61 2 rfl ci_1 (Nat.le_of_ble_eq_true rfl) [1, 2, 0] (fun _ => rfl) h (fun v3_12 h => ?_)
    refine x_goto 64 C 44 dX3_fillBehind_64 rfl ?_
    exact ih _ h
set_option maxRecDepth 100000 in
set_option maxHeartbeats 4000000 in
theorem w_X3_fillBehind_23 (l : Launch) (D : va_G) (a : Nat → Nat) (b : Nat → ClassId) (S0 : XSt) {Γ : XG XSt} {S9 : XSt} (C : Cx (ωC D a b) Γ cX3_fillBehind "GraveOrder$Orders" none l rm_X3_fillBehind 4 (none, S9))   (kx : XSt → Option XSt) (rc : (Int32 × XSt) → Option XSt) (hk : ∀ e, kx e = some S9 → XAt (ωC D a b) Γ 73 [] [] e) (ih : ∀ t, rc t = some S9 → XAt (ωC D a b) Γ 23 [(0, .ref (a 4)), (2, .int t.1)] [] t.2) (y2 : Int32) (S1 : XSt) (h : B_X3_fillBehind_23   kx rc y2 S1 = some S9) : XAt (ωC D a b) Γ 23 [(0, .ref (a 4)), (2, .int y2)] [] S1 := by
  unfold B_X3_fillBehind_23 at h
  refine x_iload_n 23 C dX3_fillBehind_23 rfl 1 rfl ?_
  refine x_if_lt 24 C 73 dX3_fillBehind_24 rfl h (fun h => ?_) (fun h => ?_)
  · exact x_sub 73 [] rfl (hk _ h)
  · refine x_aload_n 27 C dX3_fillBehind_27 rfl 0 rfl ?_
    refine gX3_behind 28 C kw_187 dX3_fillBehind_28 ?_
    refine x_iload_n 31 C dX3_fillBehind_31 rfl 1 rfl ?_
    refine x_ldc 32 C kw_486 dX3_fillBehind_32 ?_
    obtain ⟨hg7, h⟩ := xif_some h
    refine c_iast 34 C (n := 256) rfl hg7 dX3_fillBehind_34 ?_
    refine x_topS h (fun S8 h => ?_)
    refine x_aload_n 35 C dX3_fillBehind_35 rfl 0 rfl ?_
    refine gX3_ways 36 C kw_189 dX3_fillBehind_36 ?_
    refine x_iload_n 39 C dX3_fillBehind_39 rfl 1 rfl ?_
    refine x_iconst 40 C dX3_fillBehind_40 ci_0 ?_
    obtain ⟨hg9, h⟩ := xif_some h
    refine c_iast 41 C (n := 256) rfl hg9 dX3_fillBehind_41 ?_
    refine x_topS h (fun S10 h => ?_)
    refine x_iconst 42 C dX3_fillBehind_42 ci_0 ?_
    refine x_istore_n 43 C (lv' := [(0, .ref (a 4)), (2, .int y2), (3, .int 0)]) dX3_fillBehind_43 rfl (Nat.le_of_ble_eq_true rfl) [1, 2, 0] rfl ?_
    refine x_loop (E := fun e => XAt (ωC D a b) Γ 67 [(0, .ref (a 4)), (2, .int y2)] [] e) (P := fun t => XAt (ωC D a b) Γ 44 [(0, .ref (a 4)), (2, .int y2), (3, .int t.1)] [] t.2) h (fun e13 h => ?_) (fun kx rc t hk ih h => w_X3_fillBehind_44 l D a b S0 C   y2 kx rc hk ih t.1 t.2 h)
    refine x_iinc 67 C (L := fun v2_14 => [(0, .ref (a 4)), (2, .int v2_14)]) dX3_fillBehind_67 1 rfl ci_m1 (Nat.le_of_ble_eq_true rfl) [1, 0] (fun _ => rfl) h (fun v2_14 h => ?_)
    refine x_goto 70 C 23 dX3_fillBehind_70 rfl ?_
    exact ih _ h
set_option maxRecDepth 100000 in
set_option maxHeartbeats 4000000 in
theorem M_X3_fillBehind (l : Launch) (D : va_G) (a : Nat → Nat) (b : Nat → ClassId) (S0 : XSt)   {S9 : XSt} (h : F_X3_fillBehind S0 = some S9) : xM l (ωC D a b) yX3_fillBehind cX3_fillBehind 4 none rm_X3_fillBehind [.ref (a 4)] S0 (none, S9) := by
  unfold F_X3_fillBehind at h
  refine xM_of (own := "GraveOrder$Orders") (by decide) rfl (Nat.le_of_ble_eq_true rfl) (fun Γ C => ?_)
  refine x_sub 0 [0] (lv' := [(0, .ref (a 4))]) rfl ?_
  refine x_aload_n 0 C dX3_fillBehind_0 rfl 0 rfl ?_
  refine x_callV 1 C (q0 := 4) (ci := 3) 0 (As := []) (rest := []) (M_X3_allGraves l D a b S0  ) (by rfl) rfl kw_461 mv_X3_allGraves mh_X3_allGraves ⟨rfl, rfl⟩ ⟨Nat.le_of_ble_eq_true rfl, Nat.le_of_ble_eq_true rfl⟩ rfl rfl (Nat.le_of_ble_eq_true rfl) dX3_fillBehind_1 ?_
  refine x_top h (fun v1_1 h => ?_)
  refine x_istore_n 4 C (lv' := [(0, .ref (a 4)), (1, .int v1_1)]) dX3_fillBehind_4 rfl (Nat.le_of_ble_eq_true rfl) [1, 0] rfl ?_
  refine x_aload_n 5 C dX3_fillBehind_5 rfl 0 rfl ?_
  refine gX3_behind 6 C kw_187 dX3_fillBehind_6 ?_
  refine x_iload_n 9 C dX3_fillBehind_9 rfl 1 rfl ?_
  refine x_iconst 10 C dX3_fillBehind_10 ci_0 ?_
  obtain ⟨hg2, h⟩ := xif_some h
  refine c_iast 11 C (n := 256) rfl hg2 dX3_fillBehind_11 ?_
  refine x_topS h (fun S3 h => ?_)
  refine x_aload_n 12 C dX3_fillBehind_12 rfl 0 rfl ?_
  refine gX3_ways 13 C kw_189 dX3_fillBehind_13 ?_
  refine x_iload_n 16 C dX3_fillBehind_16 rfl 1 rfl ?_
  refine x_iconst 17 C dX3_fillBehind_17 ci_1 ?_
  obtain ⟨hg4, h⟩ := xif_some h
  refine c_iast 18 C (n := 256) rfl hg4 dX3_fillBehind_18 ?_
  refine x_topS h (fun S5 h => ?_)
  refine x_iload_n 19 C dX3_fillBehind_19 rfl 1 rfl ?_
  refine x_iconst 20 C dX3_fillBehind_20 ci_1 ?_
  refine x_isub 21 C dX3_fillBehind_21 ?_
  refine x_top h (fun v2_6 h => ?_)
  refine x_istore_n 22 C (lv' := [(0, .ref (a 4)), (2, .int v2_6)]) dX3_fillBehind_22 rfl (Nat.le_of_ble_eq_true rfl) [1, 0] rfl ?_
  refine x_loop (E := fun e => XAt (ωC D a b) Γ 73 [] [] e) (P := fun t => XAt (ωC D a b) Γ 23 [(0, .ref (a 4)), (2, .int t.1)] [] t.2) h (fun e15 h => ?_) (fun kx rc t hk ih h => w_X3_fillBehind_23 l D a b S0 C    kx rc hk ih t.1 t.2 h)
  exact x_vret 73 C dX3_fillBehind_73 (Option.some.inj h)
/-! GraveOrder$Orders.leastNext (I)I -/
def B_X3_leastNext_2 (S0 : XSt) (c1 : Int32) (kx : Unit → Option Int32) (rc : Int32 → Option Int32) (y2 : Int32) : Option Int32 :=
  (if (S0 1 4) ≤ y2 then kx () else (if xin ((c1 * (8 : Int32)) + y2) 2048 = true then (xlet (S0 18 (xti ((c1 * (8 : Int32)) + y2))) fun v3_2 => (xlet (c1 ||| ((1 : Int32) <<< (y2 &&& 31))) fun v4_3 => (if v3_2 = (-1) then (xlet (y2 + 1) fun v2_4 => rc v2_4) else (if xin v4_3 256 = true then (if (S0 21 (xti v4_3)) ≤ 0 then (xlet (y2 + 1) fun v2_6 => rc v2_6) else (if xin v4_3 256 = true then (if xin c1 256 = true then (if ((S0 20 (xti v4_3)) + (F_X5_weigh S0 v3_2)) = (S0 20 (xti c1)) then (some y2) else (xlet (y2 + 1) fun v2_9 => rc v2_9)) else none) else none)) else none)))) else none))
def F_X3_leastNext (S0 : XSt) (x1 : Int32) : (Option Int32) :=
  (xlp (fun k rc t => B_X3_leastNext_2 S0  x1 k rc t) (fun e10 => (some 0)) XFU 0)
abbrev rm_X3_leastNext : Room := { frames := 2, cells := 0, slots := 0, locals := 41 }
set_option maxRecDepth 100000 in
set_option maxHeartbeats 4000000 in
theorem w_X3_leastNext_2 (l : Launch) (D : va_G) (a : Nat → Nat) (b : Nat → ClassId) (S0 : XSt) {Γ : XG XSt} {r9 : Int32} (C : Cx (ωC D a b) Γ cX3_leastNext "GraveOrder$Orders" (some .int) l rm_X3_leastNext 5 (some (.int r9), S0)) (c1 : Int32)  (kx : Unit → Option Int32) (rc : Int32 → Option Int32) (hk : ∀ e, kx e = some r9 → XAt (ωC D a b) Γ 80 [] [] S0) (ih : ∀ t, rc t = some r9 → XAt (ωC D a b) Γ 2 [(0, .ref (a 4)), (1, .int c1), (2, .int t)] [] S0) (y2 : Int32) (h : B_X3_leastNext_2 S0  c1 kx rc y2 = some r9) : XAt (ωC D a b) Γ 2 [(0, .ref (a 4)), (1, .int c1), (2, .int y2)] [] S0 := by
  unfold B_X3_leastNext_2 at h
  refine x_iload_n 2 C dX3_leastNext_2 rfl 2 rfl ?_
  refine x_aload_n 3 C dX3_leastNext_3 rfl 0 rfl ?_
  refine gX3_yard 4 C kw_182 dX3_leastNext_4 ?_
  refine gX5_graves 7 C kw_105 dX3_leastNext_7 ?_
  refine x_icmp_ge 10 C 80 dX3_leastNext_10 rfl h (fun h => ?_) (fun h => ?_)
  · exact x_sub 80 [] rfl (hk _ h)
  · refine x_aload_n 13 C dX3_leastNext_13 rfl 0 rfl ?_
    refine gX3_steps 14 C kw_185 dX3_leastNext_14 ?_
    refine x_iload_n 17 C dX3_leastNext_17 rfl 1 rfl ?_
    refine x_bipush 18 C dX3_leastNext_18 cb_8 ?_
    refine x_imul 20 C dX3_leastNext_20 ?_
    refine x_iload_n 21 C dX3_leastNext_21 rfl 2 rfl ?_
    refine x_iadd 22 C dX3_leastNext_22 ?_
    obtain ⟨hg1, h⟩ := xif_some h
    refine c_iald 23 C (n := 2048) rfl hg1 dX3_leastNext_23 ?_
    refine x_top h (fun v3_2 h => ?_)
    refine x_istore_n 24 C (lv' := [(0, .ref (a 4)), (1, .int c1), (2, .int y2), (3, .int v3_2)]) dX3_leastNext_24 rfl (Nat.le_of_ble_eq_true rfl) [1, 2, 3, 0] rfl ?_
    refine x_iload_n 25 C dX3_leastNext_25 rfl 1 rfl ?_
    refine x_iconst 26 C dX3_leastNext_26 ci_1 ?_
    refine x_iload_n 27 C dX3_leastNext_27 rfl 2 rfl ?_
    refine x_ishl 28 C dX3_leastNext_28 ?_
    refine x_ior 29 C dX3_leastNext_29 ?_
    refine x_top h (fun v4_3 h => ?_)
    refine x_istore 30 C (lv' := [(0, .ref (a 4)), (1, .int c1), (2, .int y2), (3, .int v3_2), (4, .int v4_3)]) dX3_leastNext_30 (Nat.le_of_ble_eq_true rfl) [1, 2, 3, 4, 0] rfl ?_
    refine x_iload_n 32 C dX3_leastNext_32 rfl 3 rfl ?_
    refine x_iconst 33 C dX3_leastNext_33 ci_m1 ?_
    refine x_icmp_eq 34 C 74 dX3_leastNext_34 rfl h (fun h => ?_) (fun h => ?_)
    · refine x_iinc 74 C (L := fun v2_4 => [(0, .ref (a 4)), (1, .int c1), (2, .int v2_4)]) dX3_leastNext_74 2 rfl ci_1 (Nat.le_of_ble_eq_true rfl) [1, 2, 0] (fun _ => rfl) h (fun v2_4 h => ?_)
      refine x_goto 77 C 2 dX3_leastNext_77 rfl ?_
      exact ih _ h
    · refine x_aload_n 37 C dX3_leastNext_37 rfl 0 rfl ?_
      refine gX3_ways 38 C kw_189 dX3_leastNext_38 ?_
      refine x_iload 41 C dX3_leastNext_41 4 rfl ?_
      obtain ⟨hg5, h⟩ := xif_some h
      refine c_iald 43 C (n := 256) rfl hg5 dX3_leastNext_43 ?_
      refine x_if_le 44 C 74 dX3_leastNext_44 rfl h (fun h => ?_) (fun h => ?_)
      · refine x_iinc 74 C (L := fun v2_6 => [(0, .ref (a 4)), (1, .int c1), (2, .int v2_6)]) dX3_leastNext_74 2 rfl ci_1 (Nat.le_of_ble_eq_true rfl) [1, 2, 0] (fun _ => rfl) h (fun v2_6 h => ?_)
        refine x_goto 77 C 2 dX3_leastNext_77 rfl ?_
        exact ih _ h
      · refine x_aload_n 47 C dX3_leastNext_47 rfl 0 rfl ?_
        refine gX3_behind 48 C kw_187 dX3_leastNext_48 ?_
        refine x_iload 51 C dX3_leastNext_51 4 rfl ?_
        obtain ⟨hg7, h⟩ := xif_some h
        refine c_iald 53 C (n := 256) rfl hg7 dX3_leastNext_53 ?_
        refine x_aload_n 54 C dX3_leastNext_54 rfl 0 rfl ?_
        refine gX3_yard 55 C kw_182 dX3_leastNext_55 ?_
        refine x_iload_n 58 C dX3_leastNext_58 rfl 3 rfl ?_
        refine x_callV 59 C (q0 := 1) (ci := 5) 1 (As := [.int v3_2]) (rest := [.int (S0 20 (xti v4_3))]) (M_X5_weigh l D a b S0 v3_2 ) (by rfl) rfl kw_487 mv_X5_weigh mh_X5_weigh ⟨rfl, rfl⟩ ⟨Nat.le_of_ble_eq_true rfl, Nat.le_of_ble_eq_true rfl⟩ rfl rfl (Nat.le_of_ble_eq_true rfl) dX3_leastNext_59 ?_
        refine x_iadd 62 C dX3_leastNext_62 ?_
        refine x_aload_n 63 C dX3_leastNext_63 rfl 0 rfl ?_
        refine gX3_behind 64 C kw_187 dX3_leastNext_64 ?_
        refine x_iload_n 67 C dX3_leastNext_67 rfl 1 rfl ?_
        obtain ⟨hg8, h⟩ := xif_some h
        refine c_iald 68 C (n := 256) rfl hg8 dX3_leastNext_68 ?_
        refine x_icmp_ne 69 C 74 dX3_leastNext_69 rfl h (fun h => ?_) (fun h => ?_)
        · refine x_iinc 74 C (L := fun v2_9 => [(0, .ref (a 4)), (1, .int c1), (2, .int v2_9)]) dX3_leastNext_74 2 rfl ci_1 (Nat.le_of_ble_eq_true rfl) [1, 2, 0] (fun _ => rfl) h (fun v2_9 h => ?_)
          refine x_goto 77 C 2 dX3_leastNext_77 rfl ?_
          exact ih _ h
        · refine x_iload_n 72 C dX3_leastNext_72 rfl 2 rfl ?_
          exact x_iret 73 C dX3_leastNext_73 (Option.some.inj h) rfl
set_option maxRecDepth 100000 in
set_option maxHeartbeats 4000000 in
theorem M_X3_leastNext (l : Launch) (D : va_G) (a : Nat → Nat) (b : Nat → ClassId) (S0 : XSt) (x1 : Int32)  {r9 : Int32} (h : F_X3_leastNext S0 x1 = some r9) : xM l (ωC D a b) yX3_leastNext cX3_leastNext 5 (some .int) rm_X3_leastNext [.ref (a 4), .int x1] S0 (some (.int r9), S0) := by
  unfold F_X3_leastNext at h
  refine xM_of (own := "GraveOrder$Orders") (by decide) rfl (Nat.le_of_ble_eq_true rfl) (fun Γ C => ?_)
  refine x_sub 0 [0, 1] (lv' := [(0, .ref (a 4)), (1, .int x1)]) rfl ?_
  refine x_iconst 0 C dX3_leastNext_0 ci_0 ?_
  refine x_istore_n 1 C (lv' := [(0, .ref (a 4)), (1, .int x1), (2, .int 0)]) dX3_leastNext_1 rfl (Nat.le_of_ble_eq_true rfl) [1, 2, 0] rfl ?_
  refine x_loop (E := fun e => XAt (ωC D a b) Γ 80 [] [] S0) (P := fun t => XAt (ωC D a b) Γ 2 [(0, .ref (a 4)), (1, .int x1), (2, .int t)] [] S0) h (fun e10 h => ?_) (fun kx rc t hk ih h => w_X3_leastNext_2 l D a b S0 C   x1 kx rc hk ih t h)
  refine x_iconst 80 C dX3_leastNext_80 ci_0 ?_
  exact x_iret 81 C dX3_leastNext_81 (Option.some.inj h) rfl
/-! GraveOrder$Orders.fillRow ()V -/
def B_X3_fillRow_4  (kx : XSt → Option XSt) (rc : (Int32 × Int32 × XSt) → Option XSt) (y1 : Int32) (y2 : Int32) (S1 : XSt) : Option XSt :=
  (if (S1 1 4) ≤ y2 then kx S1 else (if xin y1 256 = true then (if (S1 21 (xti y1)) ≤ 0 then kx S1 else ((F_X3_leastNext S1 y1).bind fun z2 => (if xin y2 8 = true then (xlet (xst S1 22 (xti y2) z2) fun S4 => (xlet (y1 ||| ((1 : Int32) <<< (z2 &&& 31))) fun v1_5 => (xlet (y2 + 1) fun v2_6 => rc (v1_5, v2_6, S4)))) else none))) else none))
def F_X3_fillRow (S0 : XSt)  : (Option XSt) :=
  (xlp (fun k rc t => B_X3_fillRow_4   k rc t.1 t.2.1 t.2.2) (fun e7 => (some e7)) XFU (0, 0, S0))
abbrev rm_X3_fillRow : Room := { frames := 3, cells := 0, slots := 0, locals := 65 }
set_option maxRecDepth 100000 in
set_option maxHeartbeats 4000000 in
theorem w_X3_fillRow_4 (l : Launch) (D : va_G) (a : Nat → Nat) (b : Nat → ClassId) (S0 : XSt) {Γ : XG XSt} {S9 : XSt} (C : Cx (ωC D a b) Γ cX3_fillRow "GraveOrder$Orders" none l rm_X3_fillRow 4 (none, S9))   (kx : XSt → Option XSt) (rc : (Int32 × Int32 × XSt) → Option XSt) (hk : ∀ e, kx e = some S9 → XAt (ωC D a b) Γ 49 [] [] e) (ih : ∀ t, rc t = some S9 → XAt (ωC D a b) Γ 4 [(0, .ref (a 4)), (1, .int t.1), (2, .int t.2.1)] [] t.2.2) (y1 : Int32) (y2 : Int32) (S1 : XSt) (h : B_X3_fillRow_4   kx rc y1 y2 S1 = some S9) : XAt (ωC D a b) Γ 4 [(0, .ref (a 4)), (1, .int y1), (2, .int y2)] [] S1 := by
  unfold B_X3_fillRow_4 at h
  refine x_iload_n 4 C dX3_fillRow_4 rfl 2 rfl ?_
  refine x_aload_n 5 C dX3_fillRow_5 rfl 0 rfl ?_
  refine gX3_yard 6 C kw_182 dX3_fillRow_6 ?_
  refine gX5_graves 9 C kw_105 dX3_fillRow_9 ?_
  refine x_icmp_ge 12 C 49 dX3_fillRow_12 rfl h (fun h => ?_) (fun h => ?_)
  · exact x_sub 49 [] rfl (hk _ h)
  · refine x_aload_n 15 C dX3_fillRow_15 rfl 0 rfl ?_
    refine gX3_ways 16 C kw_189 dX3_fillRow_16 ?_
    refine x_iload_n 19 C dX3_fillRow_19 rfl 1 rfl ?_
    obtain ⟨hg1, h⟩ := xif_some h
    refine c_iald 20 C (n := 256) rfl hg1 dX3_fillRow_20 ?_
    refine x_if_le 21 C 49 dX3_fillRow_21 rfl h (fun h => ?_) (fun h => ?_)
    · exact x_sub 49 [] rfl (hk _ h)
    · refine x_aload_n 24 C dX3_fillRow_24 rfl 0 rfl ?_
      refine x_iload_n 25 C dX3_fillRow_25 rfl 1 rfl ?_
      obtain ⟨z2, hz2, h⟩ := xbind_some h
      refine x_callV 26 C (q0 := 4) (ci := 3) 1 (As := [.int y1]) (rest := []) (M_X3_leastNext l D a b S1 y1  hz2) (by rfl) rfl kw_503 mv_X3_leastNext mh_X3_leastNext ⟨rfl, rfl⟩ ⟨Nat.le_of_ble_eq_true rfl, Nat.le_of_ble_eq_true rfl⟩ rfl rfl (Nat.le_of_ble_eq_true rfl) dX3_fillRow_26 ?_
      refine x_istore_n 29 C (lv' := [(0, .ref (a 4)), (1, .int y1), (2, .int y2), (3, .int z2)]) dX3_fillRow_29 rfl (Nat.le_of_ble_eq_true rfl) [1, 2, 3, 0] rfl ?_
      refine x_aload_n 30 C dX3_fillRow_30 rfl 0 rfl ?_
      refine gX3_row 31 C kw_191 dX3_fillRow_31 ?_
      refine x_iload_n 34 C dX3_fillRow_34 rfl 2 rfl ?_
      refine x_iload_n 35 C dX3_fillRow_35 rfl 3 rfl ?_
      obtain ⟨hg3, h⟩ := xif_some h
      refine c_iast 36 C (n := 8) rfl hg3 dX3_fillRow_36 ?_
      refine x_topS h (fun S4 h => ?_)
      refine x_iload_n 37 C dX3_fillRow_37 rfl 1 rfl ?_
      refine x_iconst 38 C dX3_fillRow_38 ci_1 ?_
      refine x_iload_n 39 C dX3_fillRow_39 rfl 3 rfl ?_
      refine x_ishl 40 C dX3_fillRow_40 ?_
      refine x_ior 41 C dX3_fillRow_41 ?_
      refine x_top h (fun v1_5 h => ?_)
      refine x_istore_n 42 C (lv' := [(0, .ref (a 4)), (1, .int v1_5), (2, .int y2)]) dX3_fillRow_42 rfl (Nat.le_of_ble_eq_true rfl) [1, 0, 2] rfl ?_
      refine x_iinc 43 C (L := fun v2_6 => [(0, .ref (a 4)), (1, .int v1_5), (2, .int v2_6)]) dX3_fillRow_43 2 rfl ci_1 (Nat.le_of_ble_eq_true rfl) [1, 2, 0] (fun _ => rfl) h (fun v2_6 h => ?_)
      refine x_goto 46 C 4 dX3_fillRow_46 rfl ?_
      exact ih _ h
set_option maxRecDepth 100000 in
set_option maxHeartbeats 4000000 in
theorem M_X3_fillRow (l : Launch) (D : va_G) (a : Nat → Nat) (b : Nat → ClassId) (S0 : XSt)   {S9 : XSt} (h : F_X3_fillRow S0 = some S9) : xM l (ωC D a b) yX3_fillRow cX3_fillRow 4 none rm_X3_fillRow [.ref (a 4)] S0 (none, S9) := by
  unfold F_X3_fillRow at h
  refine xM_of (own := "GraveOrder$Orders") (by decide) rfl (Nat.le_of_ble_eq_true rfl) (fun Γ C => ?_)
  refine x_sub 0 [0] (lv' := [(0, .ref (a 4))]) rfl ?_
  refine x_iconst 0 C dX3_fillRow_0 ci_0 ?_
  refine x_istore_n 1 C (lv' := [(0, .ref (a 4)), (1, .int 0)]) dX3_fillRow_1 rfl (Nat.le_of_ble_eq_true rfl) [1, 0] rfl ?_
  refine x_iconst 2 C dX3_fillRow_2 ci_0 ?_
  refine x_istore_n 3 C (lv' := [(0, .ref (a 4)), (1, .int 0), (2, .int 0)]) dX3_fillRow_3 rfl (Nat.le_of_ble_eq_true rfl) [1, 2, 0] rfl ?_
  refine x_loop (E := fun e => XAt (ωC D a b) Γ 49 [] [] e) (P := fun t => XAt (ωC D a b) Γ 4 [(0, .ref (a 4)), (1, .int t.1), (2, .int t.2.1)] [] t.2.2) h (fun e7 h => ?_) (fun kx rc t hk ih h => w_X3_fillRow_4 l D a b S0 C    kx rc hk ih t.1 t.2.1 t.2.2 h)
  exact x_vret 49 C dX3_fillRow_49 (Option.some.inj h)
/-! GraveOrder$Orders.settle ()Z -/
def F_X3_settle (S0 : XSt)  : (Option (Int32 × XSt)) :=
  (xlet (fun (t1 : XSt) => (if (t1 21 (xti 0)) ≤ 0 then (some (0, t1)) else (some (1, t1)))) fun j2 => (if (S0 4 12) = 0 then j2 S0 else ((F_X3_fillSets S0).bind fun z3 => ((F_X3_fillSteps z3).bind fun z4 => ((F_X3_fillAhead z4).bind fun z5 => ((F_X3_fillBehind z5).bind fun z6 => ((F_X3_fillRow z6).bind fun z7 => (xlet (xst z7 4 12 0) fun S8 => (xlet (xst S8 4 13 1) fun S9 => (xlet (xst S9 4 14 1) fun S10 => j2 S10))))))))))
abbrev rm_X3_settle : Room := { frames := 4, cells := 0, slots := 0, locals := 89 }
set_option maxRecDepth 100000 in
set_option maxHeartbeats 4000000 in
theorem M_X3_settle (l : Launch) (D : va_G) (a : Nat → Nat) (b : Nat → ClassId) (S0 : XSt)   {r9 : Int32} {S9 : XSt} (h : F_X3_settle S0 = some (r9, S9)) : xM l (ωC D a b) yX3_settle cX3_settle 1 (some .boolean) rm_X3_settle [.ref (a 4)] S0 (some (.int r9), S9) := by
  unfold F_X3_settle at h
  refine xM_of (own := "GraveOrder$Orders") (by decide) rfl (Nat.le_of_ble_eq_true rfl) (fun Γ C => ?_)
  refine x_sub 0 [0] (lv' := [(0, .ref (a 4))]) rfl ?_
  refine x_aload_n 0 C dX3_settle_0 rfl 0 rfl ?_
  refine gX3_stale 1 C kw_197 dX3_settle_1 ?_
  refine x_join (P := fun t1 => XAt (ωC D a b) Γ 42 [(0, .ref (a 4))] [] t1) h (fun t1 h => ?_) (fun j2 hj2 h => ?_)
  · refine x_aload_n 42 C dX3_settle_42 rfl 0 rfl ?_
    refine gX3_ways 43 C kw_189 dX3_settle_43 ?_
    refine x_iconst 46 C dX3_settle_46 ci_0 ?_
    refine c_iald 47 C (n := 256) rfl (by decide) dX3_settle_47 ?_
    refine x_if_le 48 C 55 dX3_settle_48 rfl h (fun h => ?_) (fun h => ?_)
    · refine x_iconst 55 C dX3_settle_55 ci_0 ?_
      exact x_zret 56 C dX3_settle_56 rfl (Prod.mk.inj (Option.some.inj h)).1 (Prod.mk.inj (Option.some.inj h)).2
    · refine x_iconst 51 C dX3_settle_51 ci_1 ?_
      refine x_goto 52 C 56 dX3_settle_52 rfl ?_
      exact x_zret 56 C dX3_settle_56 rfl (Prod.mk.inj (Option.some.inj h)).1 (Prod.mk.inj (Option.some.inj h)).2
  refine x_if_eq 4 C 42 dX3_settle_4 rfl h (fun h => ?_) (fun h => ?_)
  · exact hj2 _ h
  · refine x_aload_n 7 C dX3_settle_7 rfl 0 rfl ?_
    obtain ⟨z3, hz3, h⟩ := xbind_some h
    refine x_callV 8 C (q0 := 4) (ci := 3) 0 (As := []) (rest := []) (M_X3_fillSets l D a b S0   hz3) (by rfl) rfl kw_457 mv_X3_fillSets mh_X3_fillSets ⟨rfl, rfl⟩ ⟨Nat.le_of_ble_eq_true rfl, Nat.le_of_ble_eq_true rfl⟩ rfl rfl (Nat.le_of_ble_eq_true rfl) dX3_settle_8 ?_
    refine x_aload_n 11 C dX3_settle_11 rfl 0 rfl ?_
    obtain ⟨z4, hz4, h⟩ := xbind_some h
    refine x_callV 12 C (q0 := 4) (ci := 3) 0 (As := []) (rest := []) (M_X3_fillSteps l D a b z3   hz4) (by rfl) rfl kw_470 mv_X3_fillSteps mh_X3_fillSteps ⟨rfl, rfl⟩ ⟨Nat.le_of_ble_eq_true rfl, Nat.le_of_ble_eq_true rfl⟩ rfl rfl (Nat.le_of_ble_eq_true rfl) dX3_settle_12 ?_
    refine x_aload_n 15 C dX3_settle_15 rfl 0 rfl ?_
    obtain ⟨z5, hz5, h⟩ := xbind_some h
    refine x_callV 16 C (q0 := 4) (ci := 3) 0 (As := []) (rest := []) (M_X3_fillAhead l D a b z4   hz5) (by rfl) rfl kw_482 mv_X3_fillAhead mh_X3_fillAhead ⟨rfl, rfl⟩ ⟨Nat.le_of_ble_eq_true rfl, Nat.le_of_ble_eq_true rfl⟩ rfl rfl (Nat.le_of_ble_eq_true rfl) dX3_settle_16 ?_
    refine x_aload_n 19 C dX3_settle_19 rfl 0 rfl ?_
    obtain ⟨z6, hz6, h⟩ := xbind_some h
    refine x_callV 20 C (q0 := 4) (ci := 3) 0 (As := []) (rest := []) (M_X3_fillBehind l D a b z5   hz6) (by rfl) rfl kw_491 mv_X3_fillBehind mh_X3_fillBehind ⟨rfl, rfl⟩ ⟨Nat.le_of_ble_eq_true rfl, Nat.le_of_ble_eq_true rfl⟩ rfl rfl (Nat.le_of_ble_eq_true rfl) dX3_settle_20 ?_
    refine x_aload_n 23 C dX3_settle_23 rfl 0 rfl ?_
    obtain ⟨z7, hz7, h⟩ := xbind_some h
    refine x_callV 24 C (q0 := 4) (ci := 3) 0 (As := []) (rest := []) (M_X3_fillRow l D a b z6   hz7) (by rfl) rfl kw_499 mv_X3_fillRow mh_X3_fillRow ⟨rfl, rfl⟩ ⟨Nat.le_of_ble_eq_true rfl, Nat.le_of_ble_eq_true rfl⟩ rfl rfl (Nat.le_of_ble_eq_true rfl) dX3_settle_24 ?_
    refine x_aload_n 27 C dX3_settle_27 rfl 0 rfl ?_
    refine x_iconst 28 C dX3_settle_28 ci_0 ?_
    refine pX3_stale 29 C rfl kw_197 dX3_settle_29 ?_
    refine x_topS h (fun S8 h => ?_)
    refine x_aload_n 32 C dX3_settle_32 rfl 0 rfl ?_
    refine x_iconst 33 C dX3_settle_33 ci_1 ?_
    refine pX3_spreadStale 34 C rfl kw_199 dX3_settle_34 ?_
    refine x_topS h (fun S9 h => ?_)
    refine x_aload_n 37 C dX3_settle_37 rfl 0 rfl ?_
    refine x_iconst 38 C dX3_settle_38 ci_1 ?_
    refine pX3_leftOutStale 39 C rfl kw_200 dX3_settle_39 ?_
    refine x_topS h (fun S10 h => ?_)
    exact hj2 _ h
/-! GraveOrder$Orders.alwaysAhead (II)Z -/
def B_X3_alwaysAhead_8 (S0 : XSt) (c1 : Int32) (c2 : Int32) (c3 : Int32) (kx : Unit → Option Int32) (rc : Int32 → Option Int32) (y4 : Int32) : Option Int32 :=
  (if c3 < y4 then kx () else (xlet (fun (t2 : Int32) => (if t2 = 0 then (xlet (y4 + 1) fun v4_4 => rc v4_4) else (if xin y4 256 = true then (if xin y4 256 = true then (if ((S0 19 (xti y4)) + (S0 20 (xti y4))) = (S0 20 (xti 0)) then (some 0) else (xlet (y4 + 1) fun v4_7 => rc v4_7)) else none) else none))) fun j3 => (if ((y4 >>> (c2 &&& 31)) &&& (1 : Int32)) = 0 then j3 0 else (if ((y4 >>> (c1 &&& 31)) &&& (1 : Int32)) = 0 then j3 1 else j3 0))))
def F_X3_alwaysAhead (S0 : XSt) (x1 : Int32) (x2 : Int32) : (Option Int32) :=
  (xlet (F_X3_allGraves S0) fun v3_1 => (xlp (fun k rc t => B_X3_alwaysAhead_8 S0  x1 x2 v3_1 k rc t) (fun e8 => (some 1)) XFU 0))
abbrev rm_X3_alwaysAhead : Room := { frames := 1, cells := 0, slots := 0, locals := 20 }
set_option maxRecDepth 100000 in
set_option maxHeartbeats 4000000 in
theorem w_X3_alwaysAhead_8 (l : Launch) (D : va_G) (a : Nat → Nat) (b : Nat → ClassId) (S0 : XSt) {Γ : XG XSt} {r9 : Int32} (C : Cx (ωC D a b) Γ cX3_alwaysAhead "GraveOrder$Orders" (some .boolean) l rm_X3_alwaysAhead 6 (some (.int r9), S0)) (c1 : Int32) (c2 : Int32) (c3 : Int32)  (kx : Unit → Option Int32) (rc : Int32 → Option Int32) (hk : ∀ e, kx e = some r9 → XAt (ωC D a b) Γ 76 [] [] S0) (ih : ∀ t, rc t = some r9 → XAt (ωC D a b) Γ 8 [(0, .ref (a 4)), (1, .int c1), (2, .int c2), (3, .int c3), (4, .int t)] [] S0) (y4 : Int32) (h : B_X3_alwaysAhead_8 S0  c1 c2 c3 kx rc y4 = some r9) : XAt (ωC D a b) Γ 8 [(0, .ref (a 4)), (1, .int c1), (2, .int c2), (3, .int c3), (4, .int y4)] [] S0 := by
  unfold B_X3_alwaysAhead_8 at h
  refine x_iload 8 C dX3_alwaysAhead_8 4 rfl ?_
  refine x_iload_n 10 C dX3_alwaysAhead_10 rfl 3 rfl ?_
  refine x_icmp_gt 11 C 76 dX3_alwaysAhead_11 rfl h (fun h => ?_) (fun h => ?_)
  · exact x_sub 76 [] rfl (hk _ h)
  · refine x_iload 14 C dX3_alwaysAhead_14 4 rfl ?_
    refine x_iload_n 16 C dX3_alwaysAhead_16 rfl 2 rfl ?_
    refine x_ishr 17 C dX3_alwaysAhead_17 ?_
    refine x_iconst 18 C dX3_alwaysAhead_18 ci_1 ?_
    refine x_iand 19 C dX3_alwaysAhead_19 ?_
    refine x_join (P := fun t2 => XAt (ωC D a b) Γ 37 [(0, .ref (a 4)), (1, .int c1), (2, .int c2), (3, .int c3), (4, .int y4)] [.int t2] S0) h (fun t2 h => ?_) (fun j3 hj3 h => ?_)
    · refine x_istore 37 C (lv' := [(0, .ref (a 4)), (1, .int c1), (2, .int c2), (3, .int c3), (4, .int y4), (5, .int t2)]) dX3_alwaysAhead_37 (Nat.le_of_ble_eq_true rfl) [1, 2, 3, 4, 5, 0] rfl ?_
      refine x_iload 39 C dX3_alwaysAhead_39 5 rfl ?_
      refine x_if_eq 41 C 70 dX3_alwaysAhead_41 rfl h (fun h => ?_) (fun h => ?_)
      · refine x_iinc 70 C (L := fun v4_4 => [(0, .ref (a 4)), (1, .int c1), (2, .int c2), (3, .int c3), (4, .int v4_4)]) dX3_alwaysAhead_70 4 rfl ci_1 (Nat.le_of_ble_eq_true rfl) [1, 2, 3, 4, 0] (fun _ => rfl) h (fun v4_4 h => ?_)
        refine x_goto 73 C 8 dX3_alwaysAhead_73 rfl ?_
        exact ih _ h
      · refine x_aload_n 44 C dX3_alwaysAhead_44 rfl 0 rfl ?_
        refine gX3_ahead 45 C kw_186 dX3_alwaysAhead_45 ?_
        refine x_iload 48 C dX3_alwaysAhead_48 4 rfl ?_
        obtain ⟨hg5, h⟩ := xif_some h
        refine c_iald 50 C (n := 256) rfl hg5 dX3_alwaysAhead_50 ?_
        refine x_aload_n 51 C dX3_alwaysAhead_51 rfl 0 rfl ?_
        refine gX3_behind 52 C kw_187 dX3_alwaysAhead_52 ?_
        refine x_iload 55 C dX3_alwaysAhead_55 4 rfl ?_
        obtain ⟨hg6, h⟩ := xif_some h
        refine c_iald 57 C (n := 256) rfl hg6 dX3_alwaysAhead_57 ?_
        refine x_iadd 58 C dX3_alwaysAhead_58 ?_
        refine x_aload_n 59 C dX3_alwaysAhead_59 rfl 0 rfl ?_
        refine gX3_behind 60 C kw_187 dX3_alwaysAhead_60 ?_
        refine x_iconst 63 C dX3_alwaysAhead_63 ci_0 ?_
        refine c_iald 64 C (n := 256) rfl (by decide) dX3_alwaysAhead_64 ?_
        refine x_icmp_ne 65 C 70 dX3_alwaysAhead_65 rfl h (fun h => ?_) (fun h => ?_)
        · refine x_iinc 70 C (L := fun v4_7 => [(0, .ref (a 4)), (1, .int c1), (2, .int c2), (3, .int c3), (4, .int v4_7)]) dX3_alwaysAhead_70 4 rfl ci_1 (Nat.le_of_ble_eq_true rfl) [1, 2, 3, 4, 0] (fun _ => rfl) h (fun v4_7 h => ?_)
          refine x_goto 73 C 8 dX3_alwaysAhead_73 rfl ?_
          exact ih _ h
        · refine x_iconst 68 C dX3_alwaysAhead_68 ci_0 ?_
          exact x_zret 69 C dX3_alwaysAhead_69 rfl (Option.some.inj h) rfl
    refine x_if_eq 20 C 36 dX3_alwaysAhead_20 rfl h (fun h => ?_) (fun h => ?_)
    · refine x_iconst 36 C dX3_alwaysAhead_36 ci_0 ?_
      exact hj3 _ h
    · refine x_iload 23 C dX3_alwaysAhead_23 4 rfl ?_
      refine x_iload_n 25 C dX3_alwaysAhead_25 rfl 1 rfl ?_
      refine x_ishr 26 C dX3_alwaysAhead_26 ?_
      refine x_iconst 27 C dX3_alwaysAhead_27 ci_1 ?_
      refine x_iand 28 C dX3_alwaysAhead_28 ?_
      refine x_if_ne 29 C 36 dX3_alwaysAhead_29 rfl h (fun h => ?_) (fun h => ?_)
      · refine x_iconst 36 C dX3_alwaysAhead_36 ci_0 ?_
        exact hj3 _ h
      · refine x_iconst 32 C dX3_alwaysAhead_32 ci_1 ?_
        refine x_goto 33 C 37 dX3_alwaysAhead_33 rfl ?_
        exact hj3 _ h
set_option maxRecDepth 100000 in
set_option maxHeartbeats 4000000 in
theorem M_X3_alwaysAhead (l : Launch) (D : va_G) (a : Nat → Nat) (b : Nat → ClassId) (S0 : XSt) (x1 : Int32) (x2 : Int32)  {r9 : Int32} (h : F_X3_alwaysAhead S0 x1 x2 = some r9) : xM l (ωC D a b) yX3_alwaysAhead cX3_alwaysAhead 6 (some .boolean) rm_X3_alwaysAhead [.ref (a 4), .int x1, .int x2] S0 (some (.int r9), S0) := by
  unfold F_X3_alwaysAhead at h
  refine xM_of (own := "GraveOrder$Orders") (by decide) rfl (Nat.le_of_ble_eq_true rfl) (fun Γ C => ?_)
  refine x_sub 0 [0, 1, 2] (lv' := [(0, .ref (a 4)), (1, .int x1), (2, .int x2)]) rfl ?_
  refine x_aload_n 0 C dX3_alwaysAhead_0 rfl 0 rfl ?_
  refine x_callV 1 C (q0 := 4) (ci := 3) 0 (As := []) (rest := []) (M_X3_allGraves l D a b S0  ) (by rfl) rfl kw_461 mv_X3_allGraves mh_X3_allGraves ⟨rfl, rfl⟩ ⟨Nat.le_of_ble_eq_true rfl, Nat.le_of_ble_eq_true rfl⟩ rfl rfl (Nat.le_of_ble_eq_true rfl) dX3_alwaysAhead_1 ?_
  refine x_top h (fun v3_1 h => ?_)
  refine x_istore_n 4 C (lv' := [(0, .ref (a 4)), (1, .int x1), (2, .int x2), (3, .int v3_1)]) dX3_alwaysAhead_4 rfl (Nat.le_of_ble_eq_true rfl) [1, 2, 3, 0] rfl ?_
  refine x_iconst 5 C dX3_alwaysAhead_5 ci_0 ?_
  refine x_istore 6 C (lv' := [(0, .ref (a 4)), (1, .int x1), (2, .int x2), (3, .int v3_1), (4, .int 0)]) dX3_alwaysAhead_6 (Nat.le_of_ble_eq_true rfl) [1, 2, 3, 4, 0] rfl ?_
  refine x_loop (E := fun e => XAt (ωC D a b) Γ 76 [] [] S0) (P := fun t => XAt (ωC D a b) Γ 8 [(0, .ref (a 4)), (1, .int x1), (2, .int x2), (3, .int v3_1), (4, .int t)] [] S0) h (fun e8 h => ?_) (fun kx rc t hk ih h => w_X3_alwaysAhead_8 l D a b S0 C   x1 x2 v3_1 kx rc hk ih t h)
  refine x_iconst 76 C dX3_alwaysAhead_76 ci_1 ?_
  exact x_zret 77 C dX3_alwaysAhead_77 rfl (Option.some.inj h) rfl
/-! GraveOrder$Orders.placesInBest (I)I -/
def B_X3_placesInBest_10 (S0 : XSt) (c1 : Int32) (c2 : Int32) (kx : Int32 → Option Int32) (rc : (Int32 × Int32) → Option Int32) (y3 : Int32) (y4 : Int32) : Option Int32 :=
  (if c2 < y4 then kx y3 else (if xin ((y4 * (8 : Int32)) + c1) 2048 = true then (xlet (S0 18 (xti ((y4 * (8 : Int32)) + c1))) fun v5_3 => (if v5_3 = (-1) then (xlet (y4 + 1) fun v4_9 => rc (y3, v4_9)) else (if xin y4 256 = true then (if xin (y4 ||| ((1 : Int32) <<< (c1 &&& 31))) 256 = true then (if (((S0 19 (xti y4)) + (F_X5_weigh S0 v5_3)) + (S0 20 (xti (y4 ||| ((1 : Int32) <<< (c1 &&& 31)))))) = (S0 20 (xti 0)) then (xlet (y3 ||| ((1 : Int32) <<< ((F_J6_bitCount_0f7a4 y4) &&& 31))) fun v3_7 => (xlet (y4 + 1) fun v4_8 => rc (v3_7, v4_8))) else (xlet (y4 + 1) fun v4_6 => rc (y3, v4_6))) else none) else none))) else none))
def F_X3_placesInBest (S0 : XSt) (x1 : Int32) : (Option Int32) :=
  (xlet (F_X3_allGraves S0) fun v2_1 => (xlp (fun k rc t => B_X3_placesInBest_10 S0  x1 v2_1 k rc t.1 t.2) (fun e10 => (some e10)) XFU (0, 0)))
abbrev rm_X3_placesInBest : Room := { frames := 2, cells := 0, slots := 0, locals := 41 }
set_option maxRecDepth 100000 in
set_option maxHeartbeats 4000000 in
theorem w_X3_placesInBest_10 (l : Launch) (D : va_G) (a : Nat → Nat) (b : Nat → ClassId) (S0 : XSt) {Γ : XG XSt} {r9 : Int32} (C : Cx (ωC D a b) Γ cX3_placesInBest "GraveOrder$Orders" (some .int) l rm_X3_placesInBest 6 (some (.int r9), S0)) (c1 : Int32) (c2 : Int32)  (kx : Int32 → Option Int32) (rc : (Int32 × Int32) → Option Int32) (hk : ∀ e, kx e = some r9 → XAt (ωC D a b) Γ 93 [(3, .int e)] [] S0) (ih : ∀ t, rc t = some r9 → XAt (ωC D a b) Γ 10 [(0, .ref (a 4)), (1, .int c1), (2, .int c2), (3, .int t.1), (4, .int t.2)] [] S0) (y3 : Int32) (y4 : Int32) (h : B_X3_placesInBest_10 S0  c1 c2 kx rc y3 y4 = some r9) : XAt (ωC D a b) Γ 10 [(0, .ref (a 4)), (1, .int c1), (2, .int c2), (3, .int y3), (4, .int y4)] [] S0 := by
  unfold B_X3_placesInBest_10 at h
  refine x_iload 10 C dX3_placesInBest_10 4 rfl ?_
  refine x_iload_n 12 C dX3_placesInBest_12 rfl 2 rfl ?_
  refine x_icmp_gt 13 C 93 dX3_placesInBest_13 rfl h (fun h => ?_) (fun h => ?_)
  · exact x_sub 93 [3] rfl (hk _ h)
  · refine x_aload_n 16 C dX3_placesInBest_16 rfl 0 rfl ?_
    refine gX3_steps 17 C kw_185 dX3_placesInBest_17 ?_
    refine x_iload 20 C dX3_placesInBest_20 4 rfl ?_
    refine x_bipush 22 C dX3_placesInBest_22 cb_8 ?_
    refine x_imul 24 C dX3_placesInBest_24 ?_
    refine x_iload_n 25 C dX3_placesInBest_25 rfl 1 rfl ?_
    refine x_iadd 26 C dX3_placesInBest_26 ?_
    obtain ⟨hg2, h⟩ := xif_some h
    refine c_iald 27 C (n := 2048) rfl hg2 dX3_placesInBest_27 ?_
    refine x_top h (fun v5_3 h => ?_)
    refine x_istore 28 C (lv' := [(0, .ref (a 4)), (1, .int c1), (2, .int c2), (3, .int y3), (4, .int y4), (5, .int v5_3)]) dX3_placesInBest_28 (Nat.le_of_ble_eq_true rfl) [1, 2, 3, 4, 5, 0] rfl ?_
    refine x_iload 30 C dX3_placesInBest_30 5 rfl ?_
    refine x_iconst 32 C dX3_placesInBest_32 ci_m1 ?_
    refine x_icmp_ne 33 C 39 dX3_placesInBest_33 rfl h (fun h => ?_) (fun h => ?_)
    · refine x_aload_n 39 C dX3_placesInBest_39 rfl 0 rfl ?_
      refine gX3_ahead 40 C kw_186 dX3_placesInBest_40 ?_
      refine x_iload 43 C dX3_placesInBest_43 4 rfl ?_
      obtain ⟨hg4, h⟩ := xif_some h
      refine c_iald 45 C (n := 256) rfl hg4 dX3_placesInBest_45 ?_
      refine x_aload_n 46 C dX3_placesInBest_46 rfl 0 rfl ?_
      refine gX3_yard 47 C kw_182 dX3_placesInBest_47 ?_
      refine x_iload 50 C dX3_placesInBest_50 5 rfl ?_
      refine x_callV 52 C (q0 := 1) (ci := 5) 1 (As := [.int v5_3]) (rest := [.int (S0 19 (xti y4))]) (M_X5_weigh l D a b S0 v5_3 ) (by rfl) rfl kw_487 mv_X5_weigh mh_X5_weigh ⟨rfl, rfl⟩ ⟨Nat.le_of_ble_eq_true rfl, Nat.le_of_ble_eq_true rfl⟩ rfl rfl (Nat.le_of_ble_eq_true rfl) dX3_placesInBest_52 ?_
      refine x_iadd 55 C dX3_placesInBest_55 ?_
      refine x_aload_n 56 C dX3_placesInBest_56 rfl 0 rfl ?_
      refine gX3_behind 57 C kw_187 dX3_placesInBest_57 ?_
      refine x_iload 60 C dX3_placesInBest_60 4 rfl ?_
      refine x_iconst 62 C dX3_placesInBest_62 ci_1 ?_
      refine x_iload_n 63 C dX3_placesInBest_63 rfl 1 rfl ?_
      refine x_ishl 64 C dX3_placesInBest_64 ?_
      refine x_ior 65 C dX3_placesInBest_65 ?_
      obtain ⟨hg5, h⟩ := xif_some h
      refine c_iald 66 C (n := 256) rfl hg5 dX3_placesInBest_66 ?_
      refine x_iadd 67 C dX3_placesInBest_67 ?_
      refine x_aload_n 68 C dX3_placesInBest_68 rfl 0 rfl ?_
      refine gX3_behind 69 C kw_187 dX3_placesInBest_69 ?_
      refine x_iconst 72 C dX3_placesInBest_72 ci_0 ?_
      refine c_iald 73 C (n := 256) rfl (by decide) dX3_placesInBest_73 ?_
      refine x_icmp_ne 74 C 87 dX3_placesInBest_74 rfl h (fun h => ?_) (fun h => ?_)
      · refine x_iinc 87 C (L := fun v4_6 => [(0, .ref (a 4)), (1, .int c1), (2, .int c2), (3, .int y3), (4, .int v4_6)]) dX3_placesInBest_87 4 rfl ci_1 (Nat.le_of_ble_eq_true rfl) [1, 2, 3, 4, 0] (fun _ => rfl) h (fun v4_6 h => ?_)
        refine x_goto 90 C 10 dX3_placesInBest_90 rfl ?_
        exact ih _ h
      · refine x_iload_n 77 C dX3_placesInBest_77 rfl 3 rfl ?_
        refine x_iconst 78 C dX3_placesInBest_78 ci_1 ?_
        refine x_iload 79 C dX3_placesInBest_79 4 rfl ?_
        refine x_callS 81 C 1 (As := [.int y4]) (rest := [.int 1, .int y3]) (M_J6_bitCount_0f7a4 l (ωC D a b) S0 y4) kw_532 ms_J6_bitCount_0f7a4 mh_J6_bitCount_0f7a4 ⟨rfl, rfl⟩ ⟨Nat.le_of_ble_eq_true rfl, Nat.le_of_ble_eq_true rfl⟩ rfl rfl (Nat.le_of_ble_eq_true rfl) dX3_placesInBest_81 ?_
        refine x_ishl 84 C dX3_placesInBest_84 ?_
        refine x_ior 85 C dX3_placesInBest_85 ?_
        refine x_top h (fun v3_7 h => ?_)
        refine x_istore_n 86 C (lv' := [(0, .ref (a 4)), (1, .int c1), (2, .int c2), (3, .int v3_7), (4, .int y4)]) dX3_placesInBest_86 rfl (Nat.le_of_ble_eq_true rfl) [1, 2, 3, 0, 4] rfl ?_
        refine x_iinc 87 C (L := fun v4_8 => [(0, .ref (a 4)), (1, .int c1), (2, .int c2), (3, .int v3_7), (4, .int v4_8)]) dX3_placesInBest_87 4 rfl ci_1 (Nat.le_of_ble_eq_true rfl) [1, 2, 3, 4, 0] (fun _ => rfl) h (fun v4_8 h => ?_)
        refine x_goto 90 C 10 dX3_placesInBest_90 rfl ?_
        exact ih _ h
    · refine x_goto 36 C 87 dX3_placesInBest_36 rfl ?_
      refine x_iinc 87 C (L := fun v4_9 => [(0, .ref (a 4)), (1, .int c1), (2, .int c2), (3, .int y3), (4, .int v4_9)]) dX3_placesInBest_87 4 rfl ci_1 (Nat.le_of_ble_eq_true rfl) [1, 2, 3, 4, 0] (fun _ => rfl) h (fun v4_9 h => ?_)
      refine x_goto 90 C 10 dX3_placesInBest_90 rfl ?_
      exact ih _ h
set_option maxRecDepth 100000 in
set_option maxHeartbeats 4000000 in
theorem M_X3_placesInBest (l : Launch) (D : va_G) (a : Nat → Nat) (b : Nat → ClassId) (S0 : XSt) (x1 : Int32)  {r9 : Int32} (h : F_X3_placesInBest S0 x1 = some r9) : xM l (ωC D a b) yX3_placesInBest cX3_placesInBest 6 (some .int) rm_X3_placesInBest [.ref (a 4), .int x1] S0 (some (.int r9), S0) := by
  unfold F_X3_placesInBest at h
  refine xM_of (own := "GraveOrder$Orders") (by decide) rfl (Nat.le_of_ble_eq_true rfl) (fun Γ C => ?_)
  refine x_sub 0 [0, 1] (lv' := [(0, .ref (a 4)), (1, .int x1)]) rfl ?_
  refine x_aload_n 0 C dX3_placesInBest_0 rfl 0 rfl ?_
  refine x_callV 1 C (q0 := 4) (ci := 3) 0 (As := []) (rest := []) (M_X3_allGraves l D a b S0  ) (by rfl) rfl kw_461 mv_X3_allGraves mh_X3_allGraves ⟨rfl, rfl⟩ ⟨Nat.le_of_ble_eq_true rfl, Nat.le_of_ble_eq_true rfl⟩ rfl rfl (Nat.le_of_ble_eq_true rfl) dX3_placesInBest_1 ?_
  refine x_top h (fun v2_1 h => ?_)
  refine x_istore_n 4 C (lv' := [(0, .ref (a 4)), (1, .int x1), (2, .int v2_1)]) dX3_placesInBest_4 rfl (Nat.le_of_ble_eq_true rfl) [1, 2, 0] rfl ?_
  refine x_iconst 5 C dX3_placesInBest_5 ci_0 ?_
  refine x_istore_n 6 C (lv' := [(0, .ref (a 4)), (1, .int x1), (2, .int v2_1), (3, .int 0)]) dX3_placesInBest_6 rfl (Nat.le_of_ble_eq_true rfl) [1, 2, 3, 0] rfl ?_
  refine x_iconst 7 C dX3_placesInBest_7 ci_0 ?_
  refine x_istore 8 C (lv' := [(0, .ref (a 4)), (1, .int x1), (2, .int v2_1), (3, .int 0), (4, .int 0)]) dX3_placesInBest_8 (Nat.le_of_ble_eq_true rfl) [1, 2, 3, 4, 0] rfl ?_
  refine x_loop (E := fun e => XAt (ωC D a b) Γ 93 [(3, .int e)] [] S0) (P := fun t => XAt (ωC D a b) Γ 10 [(0, .ref (a 4)), (1, .int x1), (2, .int v2_1), (3, .int t.1), (4, .int t.2)] [] S0) h (fun e10 h => ?_) (fun kx rc t hk ih h => w_X3_placesInBest_10 l D a b S0 C   x1 v2_1 kx rc hk ih t.1 t.2 h)
  refine x_iload_n 93 C dX3_placesInBest_93 rfl 0 rfl ?_
  exact x_iret 94 C dX3_placesInBest_94 (Option.some.inj h) rfl
/-! GraveOrder$Orders.gather (LGraveOrder$Orders;III[II)I -/
def B_X3_gather_37 (gr : XSt → Int32 → Int32 → Int32 → Nat → Nat → Int32 → (Option (Int32 × XSt))) (qq4 nn4 : Nat) (c1 : Int32) (c2 : Int32) (c3 : Int32) (kx : (Int32 × XSt) → Option (Int32 × XSt)) (rc : (Int32 × Int32 × XSt) → Option (Int32 × XSt)) (y6 : Int32) (y7 : Int32) (S1 : XSt) : Option (Int32 × XSt) :=
  (if (S1 1 4) ≤ y7 then kx (y6, S1) else (if xin ((c1 * (8 : Int32)) + y7) 2048 = true then (xlet (S1 18 (xti ((c1 * (8 : Int32)) + y7))) fun v8_2 => (if ((c2 >>> (y7 &&& 31)) &&& (1 : Int32)) = 0 then (xlet (y7 + 1) fun v7_3 => rc (y6, v7_3, S1)) else (if v8_2 = (-1) then (xlet (y7 + 1) fun v7_4 => rc (y6, v7_4, S1)) else ((gr S1 (c1 ||| ((1 : Int32) <<< (y7 &&& 31))) c2 (c3 + (F_X5_weigh S1 v8_2)) qq4 nn4 y6).bind fun z5 => (xlet z5.1 fun v6_6 => (xlet (y7 + 1) fun v7_7 => rc (v6_6, v7_7, z5.2))))))) else none))
def G_X3_gather (gr : XSt → Int32 → Int32 → Int32 → Nat → Nat → Int32 → (Option (Int32 × XSt))) (S0 : XSt) (x1 : Int32) (x2 : Int32) (x3 : Int32) (q4 n4 : Nat) (x5 : Int32) : (Option (Int32 × XSt)) :=
  (if x1 = x2 then (xlet (fun (t9 : XSt) => (some ((xmin (x5 + (1 : Int32)) (Int32.ofNat n4)), t9))) fun j10 => (if (Int32.ofNat n4) ≤ x5 then j10 S0 else (if xin x5 n4 = true then (xlet (xst S0 q4 (xti x5) x3) fun S12 => j10 S12) else none))) else (xlp (fun k rc t => B_X3_gather_37 gr q4 n4  x1 x2 x3 k rc t.1 t.2.1 t.2.2) (fun e8 => (some (e8.1, e8.2))) XFU (x5, 0, S0)))
def F_X3_gather : Nat → XSt → Int32 → Int32 → Int32 → Nat → Nat → Int32 → (Option (Int32 × XSt))
  | 0 => fun _ _ _ _ _ _ _ => none
  | n + 1 => G_X3_gather (F_X3_gather n)
def rm_X3_gather (n : Nat) : Room := { frames := 2 + n, cells := 0, slots := 0, locals := 41 + n * 28 }
set_option maxRecDepth 100000 in
set_option maxHeartbeats 4000000 in
theorem w_X3_gather_37 (l : Launch) (D : va_G) (a : Nat → Nat) (b : Nat → ClassId) (S0 : XSt) (nr : Nat) (gr : XSt → Int32 → Int32 → Int32 → Nat → Nat → Int32 → (Option (Int32 × XSt))) (IH : ∀ (S0 : XSt) (x1 : Int32) (x2 : Int32) (x3 : Int32) (q4 n4 : Nat) (x5 : Int32) (hq4 : iaC q4 n4 = true) (r9 : Int32) (S9 : XSt), gr S0 x1 x2 x3 q4 n4 x5 = some (r9, S9) → xM l (ωC D a b) yX3_gather cX3_gather 9 (some .int) (rm_X3_gather nr) [.ref (a 4), .int x1, .int x2, .int x3, .ref (a q4), .int x5] S0 (some (.int r9), S9)) {Γ : XG XSt} {r9 : Int32} {S9 : XSt} (C : Cx (ωC D a b) Γ cX3_gather "GraveOrder$Orders" (some .int) l (rm_X3_gather (nr + 1)) 9 (some (.int r9), S9)) (qq4 nn4 : Nat) (hqq4 : iaC qq4 nn4 = true) (c1 : Int32) (c2 : Int32) (c3 : Int32)  (kx : (Int32 × XSt) → Option (Int32 × XSt)) (rc : (Int32 × Int32 × XSt) → Option (Int32 × XSt)) (hk : ∀ e, kx e = some (r9, S9) → XAt (ωC D a b) Γ 112 [(6, .int e.1)] [] e.2) (ih : ∀ t, rc t = some (r9, S9) → XAt (ωC D a b) Γ 37 [(0, .ref (a 4)), (1, .int c1), (2, .int c2), (3, .int c3), (4, .ref (a qq4)), (6, .int t.1), (7, .int t.2.1)] [] t.2.2) (y6 : Int32) (y7 : Int32) (S1 : XSt) (h : B_X3_gather_37 gr qq4 nn4  c1 c2 c3 kx rc y6 y7 S1 = some (r9, S9)) : XAt (ωC D a b) Γ 37 [(0, .ref (a 4)), (1, .int c1), (2, .int c2), (3, .int c3), (4, .ref (a qq4)), (6, .int y6), (7, .int y7)] [] S1 := by
  unfold B_X3_gather_37 at h
  refine x_iload 37 C dX3_gather_37 6 rfl ?_
  refine x_aload_n 39 C dX3_gather_39 rfl 0 rfl ?_
  refine gX3_yard 40 C kw_182 dX3_gather_40 ?_
  refine gX5_graves 43 C kw_105 dX3_gather_43 ?_
  refine x_icmp_ge 46 C 112 dX3_gather_46 rfl h (fun h => ?_) (fun h => ?_)
  · exact x_sub 112 [5] rfl (hk _ h)
  · refine x_aload_n 49 C dX3_gather_49 rfl 0 rfl ?_
    refine gX3_steps 50 C kw_185 dX3_gather_50 ?_
    refine x_iload_n 53 C dX3_gather_53 rfl 1 rfl ?_
    refine x_bipush 54 C dX3_gather_54 cb_8 ?_
    refine x_imul 56 C dX3_gather_56 ?_
    refine x_iload 57 C dX3_gather_57 6 rfl ?_
    refine x_iadd 59 C dX3_gather_59 ?_
    obtain ⟨hg1, h⟩ := xif_some h
    refine c_iald 60 C (n := 2048) rfl hg1 dX3_gather_60 ?_
    refine x_top h (fun v8_2 h => ?_)
    refine x_istore 61 C (lv' := [(0, .ref (a 4)), (1, .int c1), (2, .int c2), (3, .int c3), (4, .ref (a qq4)), (6, .int y6), (7, .int y7), (8, .int v8_2)]) dX3_gather_61 (Nat.le_of_ble_eq_true rfl) [1, 2, 3, 4, 5, 6, 7, 0] rfl ?_
    refine x_iload_n 63 C dX3_gather_63 rfl 2 rfl ?_
    refine x_iload 64 C dX3_gather_64 6 rfl ?_
    refine x_ishr 66 C dX3_gather_66 ?_
    refine x_iconst 67 C dX3_gather_67 ci_1 ?_
    refine x_iand 68 C dX3_gather_68 ?_
    refine x_if_eq 69 C 106 dX3_gather_69 rfl h (fun h => ?_) (fun h => ?_)
    · refine x_iinc 106 C (L := fun v7_3 => [(0, .ref (a 4)), (1, .int c1), (2, .int c2), (3, .int c3), (4, .ref (a qq4)), (6, .int y6), (7, .int v7_3)]) dX3_gather_106 6 rfl ci_1 (Nat.le_of_ble_eq_true rfl) [1, 2, 3, 4, 5, 6, 0] (fun _ => rfl) h (fun v7_3 h => ?_)
      refine x_goto 109 C 37 dX3_gather_109 rfl ?_
      exact ih _ h
    · refine x_iload 72 C dX3_gather_72 7 rfl ?_
      refine x_iconst 74 C dX3_gather_74 ci_m1 ?_
      refine x_icmp_eq 75 C 106 dX3_gather_75 rfl h (fun h => ?_) (fun h => ?_)
      · refine x_iinc 106 C (L := fun v7_4 => [(0, .ref (a 4)), (1, .int c1), (2, .int c2), (3, .int c3), (4, .ref (a qq4)), (6, .int y6), (7, .int v7_4)]) dX3_gather_106 6 rfl ci_1 (Nat.le_of_ble_eq_true rfl) [1, 2, 3, 4, 5, 6, 0] (fun _ => rfl) h (fun v7_4 h => ?_)
        refine x_goto 109 C 37 dX3_gather_109 rfl ?_
        exact ih _ h
      · refine x_aload_n 78 C dX3_gather_78 rfl 0 rfl ?_
        refine x_iload_n 79 C dX3_gather_79 rfl 1 rfl ?_
        refine x_iconst 80 C dX3_gather_80 ci_1 ?_
        refine x_iload 81 C dX3_gather_81 6 rfl ?_
        refine x_ishl 83 C dX3_gather_83 ?_
        refine x_ior 84 C dX3_gather_84 ?_
        refine x_iload_n 85 C dX3_gather_85 rfl 2 rfl ?_
        refine x_iload_n 86 C dX3_gather_86 rfl 3 rfl ?_
        refine x_aload_n 87 C dX3_gather_87 rfl 0 rfl ?_
        refine gX3_yard 88 C kw_182 dX3_gather_88 ?_
        refine x_iload 91 C dX3_gather_91 7 rfl ?_
        refine x_callV 93 C (q0 := 1) (ci := 5) 1 (As := [.int v8_2]) (rest := [.int c3, .int c2, .int (c1 ||| ((1 : Int32) <<< (y7 &&& 31))), .ref (a 4)]) (M_X5_weigh l D a b S1 v8_2 ) (by rfl) rfl kw_487 mv_X5_weigh mh_X5_weigh ⟨rfl, rfl⟩ ⟨by simp only [rm_X3_gather, rm_X5_weigh] <;> omega, by simp only [rm_X3_gather, rm_X5_weigh] <;> omega⟩ rfl rfl (Nat.le_of_ble_eq_true rfl) dX3_gather_93 ?_
        refine x_iadd 96 C dX3_gather_96 ?_
        refine x_aload 97 C dX3_gather_97 4 rfl ?_
        refine x_iload 99 C dX3_gather_99 5 rfl ?_
        obtain ⟨z5, hz5, h⟩ := xbind_some h
        refine x_callS 101 C 6 (As := [.ref (a 4), .int (c1 ||| ((1 : Int32) <<< (y7 &&& 31))), .int c2, .int (c3 + (F_X5_weigh S1 v8_2)), .ref (a qq4), .int y6]) (rest := []) (IH S1 (c1 ||| ((1 : Int32) <<< (y7 &&& 31))) c2 (c3 + (F_X5_weigh S1 v8_2)) qq4 nn4 y6 hqq4 _ _ hz5) kw_541 ms_X3_gather mh_X3_gather ⟨rfl, rfl⟩ ⟨by simp only [rm_X3_gather] <;> omega, by simp only [rm_X3_gather] <;> omega⟩ rfl rfl (Nat.le_of_ble_eq_true rfl) dX3_gather_101 ?_
        refine x_top h (fun v6_6 h => ?_)
        refine x_istore 104 C (lv' := [(0, .ref (a 4)), (1, .int c1), (2, .int c2), (3, .int c3), (4, .ref (a qq4)), (6, .int v6_6), (7, .int y7)]) dX3_gather_104 (Nat.le_of_ble_eq_true rfl) [1, 2, 3, 4, 5, 0, 6] rfl ?_
        refine x_iinc 106 C (L := fun v7_7 => [(0, .ref (a 4)), (1, .int c1), (2, .int c2), (3, .int c3), (4, .ref (a qq4)), (6, .int v6_6), (7, .int v7_7)]) dX3_gather_106 6 rfl ci_1 (Nat.le_of_ble_eq_true rfl) [1, 2, 3, 4, 5, 6, 0] (fun _ => rfl) h (fun v7_7 h => ?_)
        refine x_goto 109 C 37 dX3_gather_109 rfl ?_
        exact ih _ h
set_option maxRecDepth 100000 in
set_option maxHeartbeats 4000000 in
theorem N_X3_gather (l : Launch) (D : va_G) (a : Nat → Nat) (b : Nat → ClassId) (S0 : XSt) (nr : Nat) (gr : XSt → Int32 → Int32 → Int32 → Nat → Nat → Int32 → (Option (Int32 × XSt))) (IH : ∀ (S0 : XSt) (x1 : Int32) (x2 : Int32) (x3 : Int32) (q4 n4 : Nat) (x5 : Int32) (hq4 : iaC q4 n4 = true) (r9 : Int32) (S9 : XSt), gr S0 x1 x2 x3 q4 n4 x5 = some (r9, S9) → xM l (ωC D a b) yX3_gather cX3_gather 9 (some .int) (rm_X3_gather nr) [.ref (a 4), .int x1, .int x2, .int x3, .ref (a q4), .int x5] S0 (some (.int r9), S9)) (x1 : Int32) (x2 : Int32) (x3 : Int32) (q4 n4 : Nat) (x5 : Int32) (hq4 : iaC q4 n4 = true) {r9 : Int32} {S9 : XSt} (h : G_X3_gather gr S0 x1 x2 x3 q4 n4 x5 = some (r9, S9)) : xM l (ωC D a b) yX3_gather cX3_gather 9 (some .int) (rm_X3_gather (nr + 1)) [.ref (a 4), .int x1, .int x2, .int x3, .ref (a q4), .int x5] S0 (some (.int r9), S9) := by
  unfold G_X3_gather at h
  refine xM_of (own := "GraveOrder$Orders") (by decide) rfl (Nat.le_of_ble_eq_true rfl) (fun Γ C => ?_)
  refine x_sub 0 [0, 1, 2, 3, 4, 5] (lv' := [(0, .ref (a 4)), (1, .int x1), (2, .int x2), (3, .int x3), (4, .ref (a q4)), (5, .int x5)]) rfl ?_
  refine x_iload_n 0 C dX3_gather_0 rfl 1 rfl ?_
  refine x_iload_n 1 C dX3_gather_1 rfl 2 rfl ?_
  refine x_icmp_ne 2 C 30 dX3_gather_2 rfl h (fun h => ?_) (fun h => ?_)
  · refine x_iload 30 C dX3_gather_30 5 rfl ?_
    refine x_istore 32 C (lv' := [(0, .ref (a 4)), (1, .int x1), (2, .int x2), (3, .int x3), (4, .ref (a q4)), (6, .int x5)]) dX3_gather_32 (Nat.le_of_ble_eq_true rfl) [1, 2, 3, 4, 5, 0] rfl ?_
    refine x_iconst 34 C dX3_gather_34 ci_0 ?_
    refine x_istore 35 C (lv' := [(0, .ref (a 4)), (1, .int x1), (2, .int x2), (3, .int x3), (4, .ref (a q4)), (6, .int x5), (7, .int 0)]) dX3_gather_35 (Nat.le_of_ble_eq_true rfl) [1, 2, 3, 4, 5, 6, 0] rfl ?_
    refine x_loop (E := fun e => XAt (ωC D a b) Γ 112 [(6, .int e.1)] [] e.2) (P := fun t => XAt (ωC D a b) Γ 37 [(0, .ref (a 4)), (1, .int x1), (2, .int x2), (3, .int x3), (4, .ref (a q4)), (6, .int t.1), (7, .int t.2.1)] [] t.2.2) h (fun e8 h => ?_) (fun kx rc t hk ih h => w_X3_gather_37 l D a b S0 nr gr IH C q4 n4  hq4  x1 x2 x3 kx rc hk ih t.1 t.2.1 t.2.2 h)
    refine x_iload 112 C dX3_gather_112 0 rfl ?_
    exact x_iret 114 C dX3_gather_114 (Prod.mk.inj (Option.some.inj h)).1 (Prod.mk.inj (Option.some.inj h)).2
  · refine x_iload 5 C dX3_gather_5 5 rfl ?_
    refine x_aload 7 C dX3_gather_7 4 rfl ?_
    refine c_alen 9 C (n := n4) hq4 dX3_gather_9 ?_
    refine x_join (P := fun t9 => XAt (ωC D a b) Γ 19 [(4, .ref (a q4)), (5, .int x5)] [] t9) h (fun t9 h => ?_) (fun j10 hj10 h => ?_)
    · refine x_iload 19 C dX3_gather_19 1 rfl ?_
      refine x_iconst 21 C dX3_gather_21 ci_1 ?_
      refine x_iadd 22 C dX3_gather_22 ?_
      refine x_aload 23 C dX3_gather_23 0 rfl ?_
      refine c_alen 25 C (n := n4) hq4 dX3_gather_25 ?_
      refine y_mmin 26 C kw_488_min kmath_min.1 kmath kmath_min.2 (by simp only [rm_X3_gather, List.map, List.sum_nil, List.sum_cons, Value.category] <;> omega) (by simp only [rm_X3_gather, List.map, List.sum_nil, List.sum_cons, Value.category] <;> omega) dX3_gather_26 ?_
      exact x_iret 29 C dX3_gather_29 (Prod.mk.inj (Option.some.inj h)).1 (Prod.mk.inj (Option.some.inj h)).2
    refine x_icmp_ge 10 C 19 dX3_gather_10 rfl h (fun h => ?_) (fun h => ?_)
    · exact x_sub 19 [4, 5] rfl (hj10 _ h)
    · refine x_aload 13 C dX3_gather_13 4 rfl ?_
      refine x_iload 15 C dX3_gather_15 5 rfl ?_
      refine x_iload_n 17 C dX3_gather_17 rfl 3 rfl ?_
      obtain ⟨hg11, h⟩ := xif_some h
      refine c_iast 18 C (n := n4) hq4 hg11 dX3_gather_18 ?_
      refine x_topS h (fun S12 h => ?_)
      exact x_sub 19 [4, 5] rfl (hj10 _ h)
theorem M_X3_gather (gr : Nat) (l : Launch) (D : va_G) (a : Nat → Nat) (b : Nat → ClassId) (S0 : XSt) (x1 : Int32) (x2 : Int32) (x3 : Int32) (q4 n4 : Nat) (x5 : Int32) (hq4 : iaC q4 n4 = true) {r9 : Int32} {S9 : XSt} (h : F_X3_gather gr S0 x1 x2 x3 q4 n4 x5 = some (r9, S9)) : xM l (ωC D a b) yX3_gather cX3_gather 9 (some .int) (rm_X3_gather gr) [.ref (a 4), .int x1, .int x2, .int x3, .ref (a q4), .int x5] S0 (some (.int r9), S9) := by
  induction gr generalizing S0 x1 x2 x3 q4 n4 x5 r9 S9 with
  | zero => cases h
  | succ n ih => exact N_X3_gather l D a b S0 n (F_X3_gather n) (fun S0 x1 x2 x3 q4 n4 x5 hq4 r9 S9 h => ih S0 x1 x2 x3 q4 n4 x5 hq4 h) x1 x2 x3 q4 n4 x5 hq4 h
/-! GraveOrder$Orders.joinHalves (II)V -/
def B_X3_joinHalves_10 (c1 : Int32) (c2 : Int32) (c3 : Int32) (kx : XSt → Option XSt) (rc : (Int32 × XSt) → Option XSt) (y4 : Int32) (S1 : XSt) : Option XSt :=
  (if c2 ≤ y4 then kx S1 else (if xin c3 24 = true then (if xin y4 24 = true then (xlet ((S1 24 (xti c3)) + (S1 25 (xti y4))) fun v5_3 => (if 180 < v5_3 then (xlet (y4 + 1) fun v4_4 => rc (v4_4, S1)) else (if xin v5_3 181 = true then (if xin v5_3 181 = true then (xlet (xst S1 23 (xti v5_3) ((S1 23 (xti v5_3)) + (1 : Int32))) fun S7 => (xlet (y4 + 1) fun v4_8 => rc (v4_8, S7))) else none) else none))) else none) else none))
def B_X3_joinHalves_2 (c1 : Int32) (c2 : Int32) (kx : XSt → Option XSt) (rc : (Int32 × XSt) → Option XSt) (y3 : Int32) (S1 : XSt) : Option XSt :=
  (if c1 ≤ y3 then kx S1 else (xlp (fun k rc t => B_X3_joinHalves_10  c1 c2 y3 k rc t.1 t.2) (fun e9 => (xlet (y3 + 1) fun v3_10 => rc (v3_10, e9))) XFU (0, S1)))
def F_X3_joinHalves (S0 : XSt) (x1 : Int32) (x2 : Int32) : (Option XSt) :=
  (xlp (fun k rc t => B_X3_joinHalves_2  x1 x2 k rc t.1 t.2) (fun e11 => (some e11)) XFU (0, S0))
abbrev rm_X3_joinHalves : Room := { frames := 0, cells := 0, slots := 0, locals := 0 }
set_option maxRecDepth 100000 in
set_option maxHeartbeats 4000000 in
theorem w_X3_joinHalves_10 (l : Launch) (D : va_G) (a : Nat → Nat) (b : Nat → ClassId) (S0 : XSt) {Γ : XG XSt} {S9 : XSt} (C : Cx (ωC D a b) Γ cX3_joinHalves "GraveOrder$Orders" none l rm_X3_joinHalves 6 (none, S9)) (c1 : Int32) (c2 : Int32) (c3 : Int32)  (kx : XSt → Option XSt) (rc : (Int32 × XSt) → Option XSt) (hk : ∀ e, kx e = some S9 → XAt (ωC D a b) Γ 57 [(0, .ref (a 4)), (1, .int c1), (2, .int c2), (3, .int c3)] [] e) (ih : ∀ t, rc t = some S9 → XAt (ωC D a b) Γ 10 [(0, .ref (a 4)), (1, .int c1), (2, .int c2), (3, .int c3), (4, .int t.1)] [] t.2) (y4 : Int32) (S1 : XSt) (h : B_X3_joinHalves_10  c1 c2 c3 kx rc y4 S1 = some S9) : XAt (ωC D a b) Γ 10 [(0, .ref (a 4)), (1, .int c1), (2, .int c2), (3, .int c3), (4, .int y4)] [] S1 := by
  unfold B_X3_joinHalves_10 at h
  refine x_iload 10 C dX3_joinHalves_10 4 rfl ?_
  refine x_iload_n 12 C dX3_joinHalves_12 rfl 2 rfl ?_
  refine x_icmp_ge 13 C 57 dX3_joinHalves_13 rfl h (fun h => ?_) (fun h => ?_)
  · exact x_sub 57 [0, 1, 2, 3] rfl (hk _ h)
  · refine x_aload_n 16 C dX3_joinHalves_16 rfl 0 rfl ?_
    refine gX3_firstHalf 17 C kw_194 dX3_joinHalves_17 ?_
    refine x_iload_n 20 C dX3_joinHalves_20 rfl 3 rfl ?_
    obtain ⟨hg1, h⟩ := xif_some h
    refine c_iald 21 C (n := 24) rfl hg1 dX3_joinHalves_21 ?_
    refine x_aload_n 22 C dX3_joinHalves_22 rfl 0 rfl ?_
    refine gX3_secondHalf 23 C kw_195 dX3_joinHalves_23 ?_
    refine x_iload 26 C dX3_joinHalves_26 4 rfl ?_
    obtain ⟨hg2, h⟩ := xif_some h
    refine c_iald 28 C (n := 24) rfl hg2 dX3_joinHalves_28 ?_
    refine x_iadd 29 C dX3_joinHalves_29 ?_
    refine x_top h (fun v5_3 h => ?_)
    refine x_istore 30 C (lv' := [(0, .ref (a 4)), (1, .int c1), (2, .int c2), (3, .int c3), (4, .int y4), (5, .int v5_3)]) dX3_joinHalves_30 (Nat.le_of_ble_eq_true rfl) [1, 2, 3, 4, 5, 0] rfl ?_
    refine x_iload 32 C dX3_joinHalves_32 5 rfl ?_
    refine x_sipush 34 C dX3_joinHalves_34 cs_180 ?_
    refine x_icmp_gt 37 C 51 dX3_joinHalves_37 rfl h (fun h => ?_) (fun h => ?_)
    · refine x_iinc 51 C (L := fun v4_4 => [(0, .ref (a 4)), (1, .int c1), (2, .int c2), (3, .int c3), (4, .int v4_4)]) dX3_joinHalves_51 4 rfl ci_1 (Nat.le_of_ble_eq_true rfl) [1, 2, 3, 4, 0] (fun _ => rfl) h (fun v4_4 h => ?_)
      refine x_goto 54 C 10 dX3_joinHalves_54 rfl ?_
      exact ih _ h
    · refine x_aload_n 40 C dX3_joinHalves_40 rfl 0 rfl ?_
      refine gX3_withGapsRow 41 C kw_193 dX3_joinHalves_41 ?_
      refine x_iload 44 C dX3_joinHalves_44 5 rfl ?_
      refine x_dup2 46 C dX3_joinHalves_46 rfl rfl ?_
      obtain ⟨hg5, h⟩ := xif_some h
      refine c_iald 47 C (n := 181) rfl hg5 dX3_joinHalves_47 ?_
      refine x_iconst 48 C dX3_joinHalves_48 ci_1 ?_
      refine x_iadd 49 C dX3_joinHalves_49 ?_
      obtain ⟨hg6, h⟩ := xif_some h
      refine c_iast 50 C (n := 181) rfl hg6 dX3_joinHalves_50 ?_
      refine x_topS h (fun S7 h => ?_)
      refine x_iinc 51 C (L := fun v4_8 => [(0, .ref (a 4)), (1, .int c1), (2, .int c2), (3, .int c3), (4, .int v4_8)]) dX3_joinHalves_51 4 rfl ci_1 (Nat.le_of_ble_eq_true rfl) [1, 2, 3, 4, 0] (fun _ => rfl) h (fun v4_8 h => ?_)
      refine x_goto 54 C 10 dX3_joinHalves_54 rfl ?_
      exact ih _ h
set_option maxRecDepth 100000 in
set_option maxHeartbeats 4000000 in
theorem w_X3_joinHalves_2 (l : Launch) (D : va_G) (a : Nat → Nat) (b : Nat → ClassId) (S0 : XSt) {Γ : XG XSt} {S9 : XSt} (C : Cx (ωC D a b) Γ cX3_joinHalves "GraveOrder$Orders" none l rm_X3_joinHalves 6 (none, S9)) (c1 : Int32) (c2 : Int32)  (kx : XSt → Option XSt) (rc : (Int32 × XSt) → Option XSt) (hk : ∀ e, kx e = some S9 → XAt (ωC D a b) Γ 63 [] [] e) (ih : ∀ t, rc t = some S9 → XAt (ωC D a b) Γ 2 [(0, .ref (a 4)), (1, .int c1), (2, .int c2), (3, .int t.1)] [] t.2) (y3 : Int32) (S1 : XSt) (h : B_X3_joinHalves_2  c1 c2 kx rc y3 S1 = some S9) : XAt (ωC D a b) Γ 2 [(0, .ref (a 4)), (1, .int c1), (2, .int c2), (3, .int y3)] [] S1 := by
  unfold B_X3_joinHalves_2 at h
  refine x_iload_n 2 C dX3_joinHalves_2 rfl 3 rfl ?_
  refine x_iload_n 3 C dX3_joinHalves_3 rfl 1 rfl ?_
  refine x_icmp_ge 4 C 63 dX3_joinHalves_4 rfl h (fun h => ?_) (fun h => ?_)
  · exact x_sub 63 [] rfl (hk _ h)
  · refine x_iconst 7 C dX3_joinHalves_7 ci_0 ?_
    refine x_istore 8 C (lv' := [(0, .ref (a 4)), (1, .int c1), (2, .int c2), (3, .int y3), (4, .int 0)]) dX3_joinHalves_8 (Nat.le_of_ble_eq_true rfl) [1, 2, 3, 4, 0] rfl ?_
    refine x_loop (E := fun e => XAt (ωC D a b) Γ 57 [(0, .ref (a 4)), (1, .int c1), (2, .int c2), (3, .int y3)] [] e) (P := fun t => XAt (ωC D a b) Γ 10 [(0, .ref (a 4)), (1, .int c1), (2, .int c2), (3, .int y3), (4, .int t.1)] [] t.2) h (fun e9 h => ?_) (fun kx rc t hk ih h => w_X3_joinHalves_10 l D a b S0 C   c1 c2 y3 kx rc hk ih t.1 t.2 h)
    refine x_iinc 57 C (L := fun v3_10 => [(0, .ref (a 4)), (1, .int c1), (2, .int c2), (3, .int v3_10)]) dX3_joinHalves_57 3 rfl ci_1 (Nat.le_of_ble_eq_true rfl) [1, 2, 3, 0] (fun _ => rfl) h (fun v3_10 h => ?_)
    refine x_goto 60 C 2 dX3_joinHalves_60 rfl ?_
    exact ih _ h
set_option maxRecDepth 100000 in
set_option maxHeartbeats 4000000 in
theorem M_X3_joinHalves (l : Launch) (D : va_G) (a : Nat → Nat) (b : Nat → ClassId) (S0 : XSt) (x1 : Int32) (x2 : Int32)  {S9 : XSt} (h : F_X3_joinHalves S0 x1 x2 = some S9) : xM l (ωC D a b) yX3_joinHalves cX3_joinHalves 6 none rm_X3_joinHalves [.ref (a 4), .int x1, .int x2] S0 (none, S9) := by
  unfold F_X3_joinHalves at h
  refine xM_of (own := "GraveOrder$Orders") (by decide) rfl (Nat.le_of_ble_eq_true rfl) (fun Γ C => ?_)
  refine x_sub 0 [0, 1, 2] (lv' := [(0, .ref (a 4)), (1, .int x1), (2, .int x2)]) rfl ?_
  refine x_iconst 0 C dX3_joinHalves_0 ci_0 ?_
  refine x_istore_n 1 C (lv' := [(0, .ref (a 4)), (1, .int x1), (2, .int x2), (3, .int 0)]) dX3_joinHalves_1 rfl (Nat.le_of_ble_eq_true rfl) [1, 2, 3, 0] rfl ?_
  refine x_loop (E := fun e => XAt (ωC D a b) Γ 63 [] [] e) (P := fun t => XAt (ωC D a b) Γ 2 [(0, .ref (a 4)), (1, .int x1), (2, .int x2), (3, .int t.1)] [] t.2) h (fun e11 h => ?_) (fun kx rc t hk ih h => w_X3_joinHalves_2 l D a b S0 C   x1 x2 kx rc hk ih t.1 t.2 h)
  exact x_vret 63 C dX3_joinHalves_63 (Option.some.inj h)
/-! GraveOrder$Orders.settleSpread ()V -/
def B_X3_settleSpread_10  (kx : XSt → Option XSt) (rc : (Int32 × XSt) → Option XSt) (y1 : Int32) (S1 : XSt) : Option XSt :=
  (if 180 < y1 then kx S1 else (if xin y1 181 = true then (xlet (xst S1 23 (xti y1) 0) fun S2 => (xlet (y1 + 1) fun v1_3 => rc (v1_3, S2))) else none))
def B_X3_settleSpread_37 (c1 : Int32) (kx : XSt → Option XSt) (rc : (Int32 × XSt) → Option XSt) (y2 : Int32) (S1 : XSt) : Option XSt :=
  (if c1 < y2 then kx S1 else (if (F_J6_bitCount_0f7a4 y2) = ((S1 1 4) / 2) then ((F_X3_gather 9 S1 0 y2 0 24 24 0).bind fun z7 => (xlet z7.1 fun v3_8 => ((F_X3_gather 9 z7.2 y2 c1 0 25 24 0).bind fun z9 => (xlet z9.1 fun v4_10 => ((F_X3_joinHalves z9.2 v3_8 v4_10).bind fun z11 => (xlet (y2 + 1) fun v2_12 => rc (v2_12, z11))))))) else (xlet (y2 + 1) fun v2_6 => rc (v2_6, S1))))
def F_X3_settleSpread (S0 : XSt)  : (Option XSt) :=
  (if (S0 4 13) = 0 then (some S0) else (xlp (fun k rc t => B_X3_settleSpread_10   k rc t.1 t.2) (fun e4 => (xlet (F_X3_allGraves e4) fun v1_5 => (xlp (fun k rc t => B_X3_settleSpread_37  v1_5 k rc t.1 t.2) (fun e13 => (xlet (xst e13 4 13 0) fun S14 => (some S14))) XFU (0, e4)))) XFU (0, S0)))
abbrev rm_X3_settleSpread : Room := { frames := 12, cells := 0, slots := 0, locals := 321 }
set_option maxRecDepth 100000 in
set_option maxHeartbeats 4000000 in
theorem w_X3_settleSpread_10 (l : Launch) (D : va_G) (a : Nat → Nat) (b : Nat → ClassId) (S0 : XSt) {Γ : XG XSt} {S9 : XSt} (C : Cx (ωC D a b) Γ cX3_settleSpread "GraveOrder$Orders" none l rm_X3_settleSpread 5 (none, S9))   (kx : XSt → Option XSt) (rc : (Int32 × XSt) → Option XSt) (hk : ∀ e, kx e = some S9 → XAt (ωC D a b) Γ 30 [(0, .ref (a 4))] [] e) (ih : ∀ t, rc t = some S9 → XAt (ωC D a b) Γ 10 [(0, .ref (a 4)), (1, .int t.1)] [] t.2) (y1 : Int32) (S1 : XSt) (h : B_X3_settleSpread_10   kx rc y1 S1 = some S9) : XAt (ωC D a b) Γ 10 [(0, .ref (a 4)), (1, .int y1)] [] S1 := by
  unfold B_X3_settleSpread_10 at h
  refine x_iload_n 10 C dX3_settleSpread_10 rfl 1 rfl ?_
  refine x_sipush 11 C dX3_settleSpread_11 cs_180 ?_
  refine x_icmp_gt 14 C 30 dX3_settleSpread_14 rfl h (fun h => ?_) (fun h => ?_)
  · exact x_sub 30 [0] rfl (hk _ h)
  · refine x_aload_n 17 C dX3_settleSpread_17 rfl 0 rfl ?_
    refine gX3_withGapsRow 18 C kw_193 dX3_settleSpread_18 ?_
    refine x_iload_n 21 C dX3_settleSpread_21 rfl 1 rfl ?_
    refine x_iconst 22 C dX3_settleSpread_22 ci_0 ?_
    obtain ⟨hg1, h⟩ := xif_some h
    refine c_iast 23 C (n := 181) rfl hg1 dX3_settleSpread_23 ?_
    refine x_topS h (fun S2 h => ?_)
    refine x_iinc 24 C (L := fun v1_3 => [(0, .ref (a 4)), (1, .int v1_3)]) dX3_settleSpread_24 1 rfl ci_1 (Nat.le_of_ble_eq_true rfl) [1, 0] (fun _ => rfl) h (fun v1_3 h => ?_)
    refine x_goto 27 C 10 dX3_settleSpread_27 rfl ?_
    exact ih _ h
set_option maxRecDepth 100000 in
set_option maxHeartbeats 4000000 in
theorem w_X3_settleSpread_37 (l : Launch) (D : va_G) (a : Nat → Nat) (b : Nat → ClassId) (S0 : XSt) {Γ : XG XSt} {S9 : XSt} (C : Cx (ωC D a b) Γ cX3_settleSpread "GraveOrder$Orders" none l rm_X3_settleSpread 5 (none, S9)) (c1 : Int32)  (kx : XSt → Option XSt) (rc : (Int32 × XSt) → Option XSt) (hk : ∀ e, kx e = some S9 → XAt (ωC D a b) Γ 98 [(0, .ref (a 4))] [] e) (ih : ∀ t, rc t = some S9 → XAt (ωC D a b) Γ 37 [(0, .ref (a 4)), (1, .int c1), (2, .int t.1)] [] t.2) (y2 : Int32) (S1 : XSt) (h : B_X3_settleSpread_37  c1 kx rc y2 S1 = some S9) : XAt (ωC D a b) Γ 37 [(0, .ref (a 4)), (1, .int c1), (2, .int y2)] [] S1 := by
  unfold B_X3_settleSpread_37 at h
  refine x_iload_n 37 C dX3_settleSpread_37 rfl 2 rfl ?_
  refine x_iload_n 38 C dX3_settleSpread_38 rfl 1 rfl ?_
  refine x_icmp_gt 39 C 98 dX3_settleSpread_39 rfl h (fun h => ?_) (fun h => ?_)
  · exact x_sub 98 [0] rfl (hk _ h)
  · refine x_iload_n 42 C dX3_settleSpread_42 rfl 2 rfl ?_
    refine x_callS 43 C 1 (As := [.int y2]) (rest := []) (M_J6_bitCount_0f7a4 l (ωC D a b) S1 y2) kw_532 ms_J6_bitCount_0f7a4 mh_J6_bitCount_0f7a4 ⟨rfl, rfl⟩ ⟨Nat.le_of_ble_eq_true rfl, Nat.le_of_ble_eq_true rfl⟩ rfl rfl (Nat.le_of_ble_eq_true rfl) dX3_settleSpread_43 ?_
    refine x_aload_n 46 C dX3_settleSpread_46 rfl 0 rfl ?_
    refine gX3_yard 47 C kw_182 dX3_settleSpread_47 ?_
    refine gX5_graves 50 C kw_105 dX3_settleSpread_50 ?_
    refine x_iconst 53 C dX3_settleSpread_53 ci_2 ?_
    refine x_idiv 54 C (by decide) dX3_settleSpread_54 ?_
    refine x_icmp_ne 55 C 92 dX3_settleSpread_55 rfl h (fun h => ?_) (fun h => ?_)
    · refine x_iinc 92 C (L := fun v2_6 => [(0, .ref (a 4)), (1, .int c1), (2, .int v2_6)]) dX3_settleSpread_92 2 rfl ci_1 (Nat.le_of_ble_eq_true rfl) [1, 2, 0] (fun _ => rfl) h (fun v2_6 h => ?_)
      refine x_goto 95 C 37 dX3_settleSpread_95 rfl ?_
      exact ih _ h
    · refine x_aload_n 58 C dX3_settleSpread_58 rfl 0 rfl ?_
      refine x_iconst 59 C dX3_settleSpread_59 ci_0 ?_
      refine x_iload_n 60 C dX3_settleSpread_60 rfl 2 rfl ?_
      refine x_iconst 61 C dX3_settleSpread_61 ci_0 ?_
      refine x_aload_n 62 C dX3_settleSpread_62 rfl 0 rfl ?_
      refine gX3_firstHalf 63 C kw_194 dX3_settleSpread_63 ?_
      refine x_iconst 66 C dX3_settleSpread_66 ci_0 ?_
      obtain ⟨z7, hz7, h⟩ := xbind_some h
      refine x_callS 67 C 6 (As := [.ref (a 4), .int 0, .int y2, .int 0, .ref (a 24), .int 0]) (rest := []) (M_X3_gather 9 l D a b S1 0 y2 0 24 24 0 rfl hz7) kw_541 ms_X3_gather mh_X3_gather ⟨rfl, rfl⟩ ⟨Nat.le_of_ble_eq_true rfl, Nat.le_of_ble_eq_true rfl⟩ rfl rfl (Nat.le_of_ble_eq_true rfl) dX3_settleSpread_67 ?_
      refine x_top h (fun v3_8 h => ?_)
      refine x_istore_n 70 C (lv' := [(0, .ref (a 4)), (1, .int c1), (2, .int y2), (3, .int v3_8)]) dX3_settleSpread_70 rfl (Nat.le_of_ble_eq_true rfl) [1, 2, 3, 0] rfl ?_
      refine x_aload_n 71 C dX3_settleSpread_71 rfl 0 rfl ?_
      refine x_iload_n 72 C dX3_settleSpread_72 rfl 2 rfl ?_
      refine x_iload_n 73 C dX3_settleSpread_73 rfl 1 rfl ?_
      refine x_iconst 74 C dX3_settleSpread_74 ci_0 ?_
      refine x_aload_n 75 C dX3_settleSpread_75 rfl 0 rfl ?_
      refine gX3_secondHalf 76 C kw_195 dX3_settleSpread_76 ?_
      refine x_iconst 79 C dX3_settleSpread_79 ci_0 ?_
      obtain ⟨z9, hz9, h⟩ := xbind_some h
      refine x_callS 80 C 6 (As := [.ref (a 4), .int y2, .int c1, .int 0, .ref (a 25), .int 0]) (rest := []) (M_X3_gather 9 l D a b z7.2 y2 c1 0 25 24 0 rfl hz9) kw_541 ms_X3_gather mh_X3_gather ⟨rfl, rfl⟩ ⟨Nat.le_of_ble_eq_true rfl, Nat.le_of_ble_eq_true rfl⟩ rfl rfl (Nat.le_of_ble_eq_true rfl) dX3_settleSpread_80 ?_
      refine x_top h (fun v4_10 h => ?_)
      refine x_istore 83 C (lv' := [(0, .ref (a 4)), (1, .int c1), (2, .int y2), (3, .int v3_8), (4, .int v4_10)]) dX3_settleSpread_83 (Nat.le_of_ble_eq_true rfl) [1, 2, 3, 4, 0] rfl ?_
      refine x_aload_n 85 C dX3_settleSpread_85 rfl 0 rfl ?_
      refine x_iload_n 86 C dX3_settleSpread_86 rfl 3 rfl ?_
      refine x_iload 87 C dX3_settleSpread_87 4 rfl ?_
      obtain ⟨z11, hz11, h⟩ := xbind_some h
      refine x_callV 89 C (q0 := 4) (ci := 3) 2 (As := [.int v3_8, .int v4_10]) (rest := []) (M_X3_joinHalves l D a b z9.2 v3_8 v4_10  hz11) (by rfl) rfl kw_544 mv_X3_joinHalves mh_X3_joinHalves ⟨rfl, rfl⟩ ⟨Nat.le_of_ble_eq_true rfl, Nat.le_of_ble_eq_true rfl⟩ rfl rfl (Nat.le_of_ble_eq_true rfl) dX3_settleSpread_89 ?_
      refine x_iinc 92 C (L := fun v2_12 => [(0, .ref (a 4)), (1, .int c1), (2, .int v2_12)]) dX3_settleSpread_92 2 rfl ci_1 (Nat.le_of_ble_eq_true rfl) [1, 2, 0] (fun _ => rfl) h (fun v2_12 h => ?_)
      refine x_goto 95 C 37 dX3_settleSpread_95 rfl ?_
      exact ih _ h
set_option maxRecDepth 100000 in
set_option maxHeartbeats 4000000 in
theorem M_X3_settleSpread (l : Launch) (D : va_G) (a : Nat → Nat) (b : Nat → ClassId) (S0 : XSt)   {S9 : XSt} (h : F_X3_settleSpread S0 = some S9) : xM l (ωC D a b) yX3_settleSpread cX3_settleSpread 5 none rm_X3_settleSpread [.ref (a 4)] S0 (none, S9) := by
  unfold F_X3_settleSpread at h
  refine xM_of (own := "GraveOrder$Orders") (by decide) rfl (Nat.le_of_ble_eq_true rfl) (fun Γ C => ?_)
  refine x_sub 0 [0] (lv' := [(0, .ref (a 4))]) rfl ?_
  refine x_aload_n 0 C dX3_settleSpread_0 rfl 0 rfl ?_
  refine gX3_spreadStale 1 C kw_199 dX3_settleSpread_1 ?_
  refine x_if_ne 4 C 8 dX3_settleSpread_4 rfl h (fun h => ?_) (fun h => ?_)
  · refine x_iconst 8 C dX3_settleSpread_8 ci_0 ?_
    refine x_istore_n 9 C (lv' := [(0, .ref (a 4)), (1, .int 0)]) dX3_settleSpread_9 rfl (Nat.le_of_ble_eq_true rfl) [1, 0] rfl ?_
    refine x_loop (E := fun e => XAt (ωC D a b) Γ 30 [(0, .ref (a 4))] [] e) (P := fun t => XAt (ωC D a b) Γ 10 [(0, .ref (a 4)), (1, .int t.1)] [] t.2) h (fun e4 h => ?_) (fun kx rc t hk ih h => w_X3_settleSpread_10 l D a b S0 C    kx rc hk ih t.1 t.2 h)
    refine x_aload_n 30 C dX3_settleSpread_30 rfl 0 rfl ?_
    refine x_callV 31 C (q0 := 4) (ci := 3) 0 (As := []) (rest := []) (M_X3_allGraves l D a b e4  ) (by rfl) rfl kw_461 mv_X3_allGraves mh_X3_allGraves ⟨rfl, rfl⟩ ⟨Nat.le_of_ble_eq_true rfl, Nat.le_of_ble_eq_true rfl⟩ rfl rfl (Nat.le_of_ble_eq_true rfl) dX3_settleSpread_31 ?_
    refine x_top h (fun v1_5 h => ?_)
    refine x_istore_n 34 C (lv' := [(0, .ref (a 4)), (1, .int v1_5)]) dX3_settleSpread_34 rfl (Nat.le_of_ble_eq_true rfl) [1, 0] rfl ?_
    refine x_iconst 35 C dX3_settleSpread_35 ci_0 ?_
    refine x_istore_n 36 C (lv' := [(0, .ref (a 4)), (1, .int v1_5), (2, .int 0)]) dX3_settleSpread_36 rfl (Nat.le_of_ble_eq_true rfl) [1, 2, 0] rfl ?_
    refine x_loop (E := fun e => XAt (ωC D a b) Γ 98 [(0, .ref (a 4))] [] e) (P := fun t => XAt (ωC D a b) Γ 37 [(0, .ref (a 4)), (1, .int v1_5), (2, .int t.1)] [] t.2) h (fun e13 h => ?_) (fun kx rc t hk ih h => w_X3_settleSpread_37 l D a b S0 C   v1_5 kx rc hk ih t.1 t.2 h)
    refine x_aload_n 98 C dX3_settleSpread_98 rfl 0 rfl ?_
    refine x_iconst 99 C dX3_settleSpread_99 ci_0 ?_
    refine pX3_spreadStale 100 C rfl kw_199 dX3_settleSpread_100 ?_
    refine x_topS h (fun S14 h => ?_)
    exact x_vret 103 C dX3_settleSpread_103 (Option.some.inj h)
  · exact x_vret 7 C dX3_settleSpread_7 (Option.some.inj h)
/-! GraveOrder$Orders.withGaps (I)I -/
def F_X3_withGaps (S0 : XSt) (x1 : Int32) : (Option Int32) :=
  (if 180 < x1 then (some 0) else (if xin x1 181 = true then (some (S0 23 (xti x1))) else none))
abbrev rm_X3_withGaps : Room := { frames := 0, cells := 0, slots := 0, locals := 0 }
set_option maxRecDepth 100000 in
set_option maxHeartbeats 4000000 in
theorem M_X3_withGaps (l : Launch) (D : va_G) (a : Nat → Nat) (b : Nat → ClassId) (S0 : XSt) (x1 : Int32)  {r9 : Int32} (h : F_X3_withGaps S0 x1 = some r9) : xM l (ωC D a b) yX3_withGaps cX3_withGaps 2 (some .int) rm_X3_withGaps [.ref (a 4), .int x1] S0 (some (.int r9), S0) := by
  unfold F_X3_withGaps at h
  refine xM_of (own := "GraveOrder$Orders") (by decide) rfl (Nat.le_of_ble_eq_true rfl) (fun Γ C => ?_)
  refine x_sub 0 [0, 1] (lv' := [(0, .ref (a 4)), (1, .int x1)]) rfl ?_
  refine x_iload_n 0 C dX3_withGaps_0 rfl 1 rfl ?_
  refine x_sipush 1 C dX3_withGaps_1 cs_180 ?_
  refine x_icmp_gt 4 C 16 dX3_withGaps_4 rfl h (fun h => ?_) (fun h => ?_)
  · refine x_iconst 16 C dX3_withGaps_16 ci_0 ?_
    exact x_iret 17 C dX3_withGaps_17 (Option.some.inj h) rfl
  · refine x_aload_n 7 C dX3_withGaps_7 rfl 0 rfl ?_
    refine gX3_withGapsRow 8 C kw_193 dX3_withGaps_8 ?_
    refine x_iload_n 11 C dX3_withGaps_11 rfl 1 rfl ?_
    obtain ⟨hg1, h⟩ := xif_some h
    refine c_iald 12 C (n := 181) rfl hg1 dX3_withGaps_12 ?_
    refine x_goto 13 C 17 dX3_withGaps_13 rfl ?_
    exact x_iret 17 C dX3_withGaps_17 (Option.some.inj h) rfl
/-! GraveOrder$Orders.withGapsUpTo (I)I -/
def B_X3_withGapsUpTo_4 (S0 : XSt) (c1 : Int32) (kx : Int32 → Option Int32) (rc : (Int32 × Int32) → Option Int32) (y2 : Int32) (y3 : Int32) : Option Int32 :=
  (if c1 < y3 then kx y2 else (if 180 < y3 then kx y2 else (if xin y3 181 = true then (xlet (y2 + (S0 23 (xti y3))) fun v2_2 => (xlet (y3 + 1) fun v3_3 => rc (v2_2, v3_3))) else none)))
def F_X3_withGapsUpTo (S0 : XSt) (x1 : Int32) : (Option Int32) :=
  (xlp (fun k rc t => B_X3_withGapsUpTo_4 S0  x1 k rc t.1 t.2) (fun e4 => (some e4)) XFU (0, 0))
abbrev rm_X3_withGapsUpTo : Room := { frames := 0, cells := 0, slots := 0, locals := 0 }
set_option maxRecDepth 100000 in
set_option maxHeartbeats 4000000 in
theorem w_X3_withGapsUpTo_4 (l : Launch) (D : va_G) (a : Nat → Nat) (b : Nat → ClassId) (S0 : XSt) {Γ : XG XSt} {r9 : Int32} (C : Cx (ωC D a b) Γ cX3_withGapsUpTo "GraveOrder$Orders" (some .int) l rm_X3_withGapsUpTo 4 (some (.int r9), S0)) (c1 : Int32)  (kx : Int32 → Option Int32) (rc : (Int32 × Int32) → Option Int32) (hk : ∀ e, kx e = some r9 → XAt (ωC D a b) Γ 31 [(2, .int e)] [] S0) (ih : ∀ t, rc t = some r9 → XAt (ωC D a b) Γ 4 [(0, .ref (a 4)), (1, .int c1), (2, .int t.1), (3, .int t.2)] [] S0) (y2 : Int32) (y3 : Int32) (h : B_X3_withGapsUpTo_4 S0  c1 kx rc y2 y3 = some r9) : XAt (ωC D a b) Γ 4 [(0, .ref (a 4)), (1, .int c1), (2, .int y2), (3, .int y3)] [] S0 := by
  unfold B_X3_withGapsUpTo_4 at h
  refine x_iload_n 4 C dX3_withGapsUpTo_4 rfl 3 rfl ?_
  refine x_iload_n 5 C dX3_withGapsUpTo_5 rfl 1 rfl ?_
  refine x_icmp_gt 6 C 31 dX3_withGapsUpTo_6 rfl h (fun h => ?_) (fun h => ?_)
  · exact x_sub 31 [2] rfl (hk _ h)
  · refine x_iload_n 9 C dX3_withGapsUpTo_9 rfl 3 rfl ?_
    refine x_sipush 10 C dX3_withGapsUpTo_10 cs_180 ?_
    refine x_icmp_gt 13 C 31 dX3_withGapsUpTo_13 rfl h (fun h => ?_) (fun h => ?_)
    · exact x_sub 31 [2] rfl (hk _ h)
    · refine x_iload_n 16 C dX3_withGapsUpTo_16 rfl 2 rfl ?_
      refine x_aload_n 17 C dX3_withGapsUpTo_17 rfl 0 rfl ?_
      refine gX3_withGapsRow 18 C kw_193 dX3_withGapsUpTo_18 ?_
      refine x_iload_n 21 C dX3_withGapsUpTo_21 rfl 3 rfl ?_
      obtain ⟨hg1, h⟩ := xif_some h
      refine c_iald 22 C (n := 181) rfl hg1 dX3_withGapsUpTo_22 ?_
      refine x_iadd 23 C dX3_withGapsUpTo_23 ?_
      refine x_top h (fun v2_2 h => ?_)
      refine x_istore_n 24 C (lv' := [(0, .ref (a 4)), (1, .int c1), (2, .int v2_2), (3, .int y3)]) dX3_withGapsUpTo_24 rfl (Nat.le_of_ble_eq_true rfl) [1, 2, 0, 3] rfl ?_
      refine x_iinc 25 C (L := fun v3_3 => [(0, .ref (a 4)), (1, .int c1), (2, .int v2_2), (3, .int v3_3)]) dX3_withGapsUpTo_25 3 rfl ci_1 (Nat.le_of_ble_eq_true rfl) [1, 2, 3, 0] (fun _ => rfl) h (fun v3_3 h => ?_)
      refine x_goto 28 C 4 dX3_withGapsUpTo_28 rfl ?_
      exact ih _ h
set_option maxRecDepth 100000 in
set_option maxHeartbeats 4000000 in
theorem M_X3_withGapsUpTo (l : Launch) (D : va_G) (a : Nat → Nat) (b : Nat → ClassId) (S0 : XSt) (x1 : Int32)  {r9 : Int32} (h : F_X3_withGapsUpTo S0 x1 = some r9) : xM l (ωC D a b) yX3_withGapsUpTo cX3_withGapsUpTo 4 (some .int) rm_X3_withGapsUpTo [.ref (a 4), .int x1] S0 (some (.int r9), S0) := by
  unfold F_X3_withGapsUpTo at h
  refine xM_of (own := "GraveOrder$Orders") (by decide) rfl (Nat.le_of_ble_eq_true rfl) (fun Γ C => ?_)
  refine x_sub 0 [0, 1] (lv' := [(0, .ref (a 4)), (1, .int x1)]) rfl ?_
  refine x_iconst 0 C dX3_withGapsUpTo_0 ci_0 ?_
  refine x_istore_n 1 C (lv' := [(0, .ref (a 4)), (1, .int x1), (2, .int 0)]) dX3_withGapsUpTo_1 rfl (Nat.le_of_ble_eq_true rfl) [1, 2, 0] rfl ?_
  refine x_iconst 2 C dX3_withGapsUpTo_2 ci_0 ?_
  refine x_istore_n 3 C (lv' := [(0, .ref (a 4)), (1, .int x1), (2, .int 0), (3, .int 0)]) dX3_withGapsUpTo_3 rfl (Nat.le_of_ble_eq_true rfl) [1, 2, 3, 0] rfl ?_
  refine x_loop (E := fun e => XAt (ωC D a b) Γ 31 [(2, .int e)] [] S0) (P := fun t => XAt (ωC D a b) Γ 4 [(0, .ref (a 4)), (1, .int x1), (2, .int t.1), (3, .int t.2)] [] S0) h (fun e4 h => ?_) (fun kx rc t hk ih h => w_X3_withGapsUpTo_4 l D a b S0 C   x1 kx rc hk ih t.1 t.2 h)
  refine x_iload_n 31 C dX3_withGapsUpTo_31 rfl 0 rfl ?_
  exact x_iret 32 C dX3_withGapsUpTo_32 (Option.some.inj h) rfl
/-! GraveOrder$Orders.gapsOfAll ()I -/
def B_X3_gapsOfAll_4 (S0 : XSt)  (kx : Int32 → Option Int32) (rc : (Int32 × Int32) → Option Int32) (y1 : Int32) (y2 : Int32) : Option Int32 :=
  (if 180 < y2 then kx y1 else (if xin y2 181 = true then (xlet (y1 + (y2 * (S0 23 (xti y2)))) fun v1_2 => (xlet (y2 + 1) fun v2_3 => rc (v1_2, v2_3))) else none))
def F_X3_gapsOfAll (S0 : XSt)  : (Option Int32) :=
  (xlp (fun k rc t => B_X3_gapsOfAll_4 S0   k rc t.1 t.2) (fun e4 => (some e4)) XFU (0, 0))
abbrev rm_X3_gapsOfAll : Room := { frames := 0, cells := 0, slots := 0, locals := 0 }
set_option maxRecDepth 100000 in
set_option maxHeartbeats 4000000 in
theorem w_X3_gapsOfAll_4 (l : Launch) (D : va_G) (a : Nat → Nat) (b : Nat → ClassId) (S0 : XSt) {Γ : XG XSt} {r9 : Int32} (C : Cx (ωC D a b) Γ cX3_gapsOfAll "GraveOrder$Orders" (some .int) l rm_X3_gapsOfAll 3 (some (.int r9), S0))   (kx : Int32 → Option Int32) (rc : (Int32 × Int32) → Option Int32) (hk : ∀ e, kx e = some r9 → XAt (ωC D a b) Γ 28 [(1, .int e)] [] S0) (ih : ∀ t, rc t = some r9 → XAt (ωC D a b) Γ 4 [(0, .ref (a 4)), (1, .int t.1), (2, .int t.2)] [] S0) (y1 : Int32) (y2 : Int32) (h : B_X3_gapsOfAll_4 S0   kx rc y1 y2 = some r9) : XAt (ωC D a b) Γ 4 [(0, .ref (a 4)), (1, .int y1), (2, .int y2)] [] S0 := by
  unfold B_X3_gapsOfAll_4 at h
  refine x_iload_n 4 C dX3_gapsOfAll_4 rfl 2 rfl ?_
  refine x_sipush 5 C dX3_gapsOfAll_5 cs_180 ?_
  refine x_icmp_gt 8 C 28 dX3_gapsOfAll_8 rfl h (fun h => ?_) (fun h => ?_)
  · exact x_sub 28 [1] rfl (hk _ h)
  · refine x_iload_n 11 C dX3_gapsOfAll_11 rfl 1 rfl ?_
    refine x_iload_n 12 C dX3_gapsOfAll_12 rfl 2 rfl ?_
    refine x_aload_n 13 C dX3_gapsOfAll_13 rfl 0 rfl ?_
    refine gX3_withGapsRow 14 C kw_193 dX3_gapsOfAll_14 ?_
    refine x_iload_n 17 C dX3_gapsOfAll_17 rfl 2 rfl ?_
    obtain ⟨hg1, h⟩ := xif_some h
    refine c_iald 18 C (n := 181) rfl hg1 dX3_gapsOfAll_18 ?_
    refine x_imul 19 C dX3_gapsOfAll_19 ?_
    refine x_iadd 20 C dX3_gapsOfAll_20 ?_
    refine x_top h (fun v1_2 h => ?_)
    refine x_istore_n 21 C (lv' := [(0, .ref (a 4)), (1, .int v1_2), (2, .int y2)]) dX3_gapsOfAll_21 rfl (Nat.le_of_ble_eq_true rfl) [1, 0, 2] rfl ?_
    refine x_iinc 22 C (L := fun v2_3 => [(0, .ref (a 4)), (1, .int v1_2), (2, .int v2_3)]) dX3_gapsOfAll_22 2 rfl ci_1 (Nat.le_of_ble_eq_true rfl) [1, 2, 0] (fun _ => rfl) h (fun v2_3 h => ?_)
    refine x_goto 25 C 4 dX3_gapsOfAll_25 rfl ?_
    exact ih _ h
set_option maxRecDepth 100000 in
set_option maxHeartbeats 4000000 in
theorem M_X3_gapsOfAll (l : Launch) (D : va_G) (a : Nat → Nat) (b : Nat → ClassId) (S0 : XSt)   {r9 : Int32} (h : F_X3_gapsOfAll S0 = some r9) : xM l (ωC D a b) yX3_gapsOfAll cX3_gapsOfAll 3 (some .int) rm_X3_gapsOfAll [.ref (a 4)] S0 (some (.int r9), S0) := by
  unfold F_X3_gapsOfAll at h
  refine xM_of (own := "GraveOrder$Orders") (by decide) rfl (Nat.le_of_ble_eq_true rfl) (fun Γ C => ?_)
  refine x_sub 0 [0] (lv' := [(0, .ref (a 4))]) rfl ?_
  refine x_iconst 0 C dX3_gapsOfAll_0 ci_0 ?_
  refine x_istore_n 1 C (lv' := [(0, .ref (a 4)), (1, .int 0)]) dX3_gapsOfAll_1 rfl (Nat.le_of_ble_eq_true rfl) [1, 0] rfl ?_
  refine x_iconst 2 C dX3_gapsOfAll_2 ci_0 ?_
  refine x_istore_n 3 C (lv' := [(0, .ref (a 4)), (1, .int 0), (2, .int 0)]) dX3_gapsOfAll_3 rfl (Nat.le_of_ble_eq_true rfl) [1, 2, 0] rfl ?_
  refine x_loop (E := fun e => XAt (ωC D a b) Γ 28 [(1, .int e)] [] S0) (P := fun t => XAt (ωC D a b) Γ 4 [(0, .ref (a 4)), (1, .int t.1), (2, .int t.2)] [] S0) h (fun e4 h => ?_) (fun kx rc t hk ih h => w_X3_gapsOfAll_4 l D a b S0 C    kx rc hk ih t.1 t.2 h)
  refine x_iload_n 28 C dX3_gapsOfAll_28 rfl 0 rfl ?_
  exact x_iret 29 C dX3_gapsOfAll_29 (Option.some.inj h) rfl
/-! GraveOrder$Orders.kindsWithGaps ()I -/
def B_X3_kindsWithGaps_17 (S0 : XSt) (c1 : Int32) (c3 : Int32) (kx : Int32 → Option Int32) (rc : (Int32 × Int32) → Option Int32) (y2 : Int32) (y4 : Int32) : Option Int32 :=
  (if (S0 1 4) ≤ y4 then kx y2 else (if xin ((c3 * (8 : Int32)) + y4) 2048 = true then (xlet (S0 18 (xti ((c3 * (8 : Int32)) + y4))) fun v5_3 => (if v5_3 = (-1) then (xlet (y2 ||| (0 : Int32)) fun v2_6 => (xlet (y4 + 1) fun v4_7 => rc (v2_6, v4_7))) else (xlet (y2 ||| v5_3) fun v2_4 => (xlet (y4 + 1) fun v4_5 => rc (v2_4, v4_5))))) else none))
def B_X3_kindsWithGaps_9 (S0 : XSt) (c1 : Int32) (kx : Int32 → Option Int32) (rc : (Int32 × Int32) → Option Int32) (y2 : Int32) (y3 : Int32) : Option Int32 :=
  (if c1 < y3 then kx y2 else (xlp (fun k rc t => B_X3_kindsWithGaps_17 S0  c1 y3 k rc t.1 t.2) (fun e8 => (xlet (y3 + 1) fun v3_9 => rc (e8, v3_9))) XFU (y2, 0)))
def F_X3_kindsWithGaps (S0 : XSt)  : (Option Int32) :=
  (xlet (F_X3_allGraves S0) fun v1_1 => (xlp (fun k rc t => B_X3_kindsWithGaps_9 S0  v1_1 k rc t.1 t.2) (fun e10 => (some e10)) XFU (0, 0)))
abbrev rm_X3_kindsWithGaps : Room := { frames := 1, cells := 0, slots := 0, locals := 20 }
set_option maxRecDepth 100000 in
set_option maxHeartbeats 4000000 in
theorem w_X3_kindsWithGaps_17 (l : Launch) (D : va_G) (a : Nat → Nat) (b : Nat → ClassId) (S0 : XSt) {Γ : XG XSt} {r9 : Int32} (C : Cx (ωC D a b) Γ cX3_kindsWithGaps "GraveOrder$Orders" (some .int) l rm_X3_kindsWithGaps 6 (some (.int r9), S0)) (c1 : Int32) (c3 : Int32)  (kx : Int32 → Option Int32) (rc : (Int32 × Int32) → Option Int32) (hk : ∀ e, kx e = some r9 → XAt (ωC D a b) Γ 64 [(0, .ref (a 4)), (1, .int c1), (2, .int e), (3, .int c3)] [] S0) (ih : ∀ t, rc t = some r9 → XAt (ωC D a b) Γ 17 [(0, .ref (a 4)), (1, .int c1), (2, .int t.1), (3, .int c3), (4, .int t.2)] [] S0) (y2 : Int32) (y4 : Int32) (h : B_X3_kindsWithGaps_17 S0  c1 c3 kx rc y2 y4 = some r9) : XAt (ωC D a b) Γ 17 [(0, .ref (a 4)), (1, .int c1), (2, .int y2), (3, .int c3), (4, .int y4)] [] S0 := by
  unfold B_X3_kindsWithGaps_17 at h
  refine x_iload 17 C dX3_kindsWithGaps_17 4 rfl ?_
  refine x_aload_n 19 C dX3_kindsWithGaps_19 rfl 0 rfl ?_
  refine gX3_yard 20 C kw_182 dX3_kindsWithGaps_20 ?_
  refine gX5_graves 23 C kw_105 dX3_kindsWithGaps_23 ?_
  refine x_icmp_ge 26 C 64 dX3_kindsWithGaps_26 rfl h (fun h => ?_) (fun h => ?_)
  · exact x_sub 64 [0, 1, 2, 3] rfl (hk _ h)
  · refine x_aload_n 29 C dX3_kindsWithGaps_29 rfl 0 rfl ?_
    refine gX3_steps 30 C kw_185 dX3_kindsWithGaps_30 ?_
    refine x_iload_n 33 C dX3_kindsWithGaps_33 rfl 3 rfl ?_
    refine x_bipush 34 C dX3_kindsWithGaps_34 cb_8 ?_
    refine x_imul 36 C dX3_kindsWithGaps_36 ?_
    refine x_iload 37 C dX3_kindsWithGaps_37 4 rfl ?_
    refine x_iadd 39 C dX3_kindsWithGaps_39 ?_
    obtain ⟨hg2, h⟩ := xif_some h
    refine c_iald 40 C (n := 2048) rfl hg2 dX3_kindsWithGaps_40 ?_
    refine x_top h (fun v5_3 h => ?_)
    refine x_istore 41 C (lv' := [(0, .ref (a 4)), (1, .int c1), (2, .int y2), (3, .int c3), (4, .int y4), (5, .int v5_3)]) dX3_kindsWithGaps_41 (Nat.le_of_ble_eq_true rfl) [1, 2, 3, 4, 5, 0] rfl ?_
    refine x_iload_n 43 C dX3_kindsWithGaps_43 rfl 2 rfl ?_
    refine x_iload 44 C dX3_kindsWithGaps_44 5 rfl ?_
    refine x_iconst 46 C dX3_kindsWithGaps_46 ci_m1 ?_
    refine x_icmp_ne 47 C 54 dX3_kindsWithGaps_47 rfl h (fun h => ?_) (fun h => ?_)
    · refine x_iload 54 C dX3_kindsWithGaps_54 5 rfl ?_
      refine x_ior 56 C dX3_kindsWithGaps_56 ?_
      refine x_top h (fun v2_4 h => ?_)
      refine x_istore_n 57 C (lv' := [(0, .ref (a 4)), (1, .int c1), (2, .int v2_4), (3, .int c3), (4, .int y4)]) dX3_kindsWithGaps_57 rfl (Nat.le_of_ble_eq_true rfl) [1, 2, 0, 3, 4] rfl ?_
      refine x_iinc 58 C (L := fun v4_5 => [(0, .ref (a 4)), (1, .int c1), (2, .int v2_4), (3, .int c3), (4, .int v4_5)]) dX3_kindsWithGaps_58 4 rfl ci_1 (Nat.le_of_ble_eq_true rfl) [1, 2, 3, 4, 0] (fun _ => rfl) h (fun v4_5 h => ?_)
      refine x_goto 61 C 17 dX3_kindsWithGaps_61 rfl ?_
      exact ih _ h
    · refine x_iconst 50 C dX3_kindsWithGaps_50 ci_0 ?_
      refine x_goto 51 C 56 dX3_kindsWithGaps_51 rfl ?_
      refine x_ior 56 C dX3_kindsWithGaps_56 ?_
      refine x_top h (fun v2_6 h => ?_)
      refine x_istore_n 57 C (lv' := [(0, .ref (a 4)), (1, .int c1), (2, .int v2_6), (3, .int c3), (4, .int y4)]) dX3_kindsWithGaps_57 rfl (Nat.le_of_ble_eq_true rfl) [1, 2, 0, 3, 4] rfl ?_
      refine x_iinc 58 C (L := fun v4_7 => [(0, .ref (a 4)), (1, .int c1), (2, .int v2_6), (3, .int c3), (4, .int v4_7)]) dX3_kindsWithGaps_58 4 rfl ci_1 (Nat.le_of_ble_eq_true rfl) [1, 2, 3, 4, 0] (fun _ => rfl) h (fun v4_7 h => ?_)
      refine x_goto 61 C 17 dX3_kindsWithGaps_61 rfl ?_
      exact ih _ h
set_option maxRecDepth 100000 in
set_option maxHeartbeats 4000000 in
theorem w_X3_kindsWithGaps_9 (l : Launch) (D : va_G) (a : Nat → Nat) (b : Nat → ClassId) (S0 : XSt) {Γ : XG XSt} {r9 : Int32} (C : Cx (ωC D a b) Γ cX3_kindsWithGaps "GraveOrder$Orders" (some .int) l rm_X3_kindsWithGaps 6 (some (.int r9), S0)) (c1 : Int32)  (kx : Int32 → Option Int32) (rc : (Int32 × Int32) → Option Int32) (hk : ∀ e, kx e = some r9 → XAt (ωC D a b) Γ 70 [(2, .int e)] [] S0) (ih : ∀ t, rc t = some r9 → XAt (ωC D a b) Γ 9 [(0, .ref (a 4)), (1, .int c1), (2, .int t.1), (3, .int t.2)] [] S0) (y2 : Int32) (y3 : Int32) (h : B_X3_kindsWithGaps_9 S0  c1 kx rc y2 y3 = some r9) : XAt (ωC D a b) Γ 9 [(0, .ref (a 4)), (1, .int c1), (2, .int y2), (3, .int y3)] [] S0 := by
  unfold B_X3_kindsWithGaps_9 at h
  refine x_iload_n 9 C dX3_kindsWithGaps_9 rfl 3 rfl ?_
  refine x_iload_n 10 C dX3_kindsWithGaps_10 rfl 1 rfl ?_
  refine x_icmp_gt 11 C 70 dX3_kindsWithGaps_11 rfl h (fun h => ?_) (fun h => ?_)
  · exact x_sub 70 [2] rfl (hk _ h)
  · refine x_iconst 14 C dX3_kindsWithGaps_14 ci_0 ?_
    refine x_istore 15 C (lv' := [(0, .ref (a 4)), (1, .int c1), (2, .int y2), (3, .int y3), (4, .int 0)]) dX3_kindsWithGaps_15 (Nat.le_of_ble_eq_true rfl) [1, 2, 3, 4, 0] rfl ?_
    refine x_loop (E := fun e => XAt (ωC D a b) Γ 64 [(0, .ref (a 4)), (1, .int c1), (2, .int e), (3, .int y3)] [] S0) (P := fun t => XAt (ωC D a b) Γ 17 [(0, .ref (a 4)), (1, .int c1), (2, .int t.1), (3, .int y3), (4, .int t.2)] [] S0) h (fun e8 h => ?_) (fun kx rc t hk ih h => w_X3_kindsWithGaps_17 l D a b S0 C   c1 y3 kx rc hk ih t.1 t.2 h)
    refine x_iinc 64 C (L := fun v3_9 => [(0, .ref (a 4)), (1, .int c1), (2, .int e8), (3, .int v3_9)]) dX3_kindsWithGaps_64 3 rfl ci_1 (Nat.le_of_ble_eq_true rfl) [1, 2, 3, 0] (fun _ => rfl) h (fun v3_9 h => ?_)
    refine x_goto 67 C 9 dX3_kindsWithGaps_67 rfl ?_
    exact ih _ h
set_option maxRecDepth 100000 in
set_option maxHeartbeats 4000000 in
theorem M_X3_kindsWithGaps (l : Launch) (D : va_G) (a : Nat → Nat) (b : Nat → ClassId) (S0 : XSt)   {r9 : Int32} (h : F_X3_kindsWithGaps S0 = some r9) : xM l (ωC D a b) yX3_kindsWithGaps cX3_kindsWithGaps 6 (some .int) rm_X3_kindsWithGaps [.ref (a 4)] S0 (some (.int r9), S0) := by
  unfold F_X3_kindsWithGaps at h
  refine xM_of (own := "GraveOrder$Orders") (by decide) rfl (Nat.le_of_ble_eq_true rfl) (fun Γ C => ?_)
  refine x_sub 0 [0] (lv' := [(0, .ref (a 4))]) rfl ?_
  refine x_aload_n 0 C dX3_kindsWithGaps_0 rfl 0 rfl ?_
  refine x_callV 1 C (q0 := 4) (ci := 3) 0 (As := []) (rest := []) (M_X3_allGraves l D a b S0  ) (by rfl) rfl kw_461 mv_X3_allGraves mh_X3_allGraves ⟨rfl, rfl⟩ ⟨Nat.le_of_ble_eq_true rfl, Nat.le_of_ble_eq_true rfl⟩ rfl rfl (Nat.le_of_ble_eq_true rfl) dX3_kindsWithGaps_1 ?_
  refine x_top h (fun v1_1 h => ?_)
  refine x_istore_n 4 C (lv' := [(0, .ref (a 4)), (1, .int v1_1)]) dX3_kindsWithGaps_4 rfl (Nat.le_of_ble_eq_true rfl) [1, 0] rfl ?_
  refine x_iconst 5 C dX3_kindsWithGaps_5 ci_0 ?_
  refine x_istore_n 6 C (lv' := [(0, .ref (a 4)), (1, .int v1_1), (2, .int 0)]) dX3_kindsWithGaps_6 rfl (Nat.le_of_ble_eq_true rfl) [1, 2, 0] rfl ?_
  refine x_iconst 7 C dX3_kindsWithGaps_7 ci_0 ?_
  refine x_istore_n 8 C (lv' := [(0, .ref (a 4)), (1, .int v1_1), (2, .int 0), (3, .int 0)]) dX3_kindsWithGaps_8 rfl (Nat.le_of_ble_eq_true rfl) [1, 2, 3, 0] rfl ?_
  refine x_loop (E := fun e => XAt (ωC D a b) Γ 70 [(2, .int e)] [] S0) (P := fun t => XAt (ωC D a b) Γ 9 [(0, .ref (a 4)), (1, .int v1_1), (2, .int t.1), (3, .int t.2)] [] S0) h (fun e10 h => ?_) (fun kx rc t hk ih h => w_X3_kindsWithGaps_9 l D a b S0 C   v1_1 kx rc hk ih t.1 t.2 h)
  refine x_iload_n 70 C dX3_kindsWithGaps_70 rfl 0 rfl ?_
  exact x_iret 71 C dX3_kindsWithGaps_71 (Option.some.inj h) rfl
/-! GraveOrder$Orders.reachesAllWithout (I)Z -/
def B_X3_reachesAllWithout_7 (c1 : Int32) (c2 : Int32) (kx : XSt → Option (Int32 × XSt)) (rc : (Int32 × XSt) → Option (Int32 × XSt)) (y3 : Int32) (S1 : XSt) : Option (Int32 × XSt) :=
  (if c2 < y3 then kx S1 else (if xin y3 256 = true then (xlet (xst S1 26 (xti y3) (vp_nar .boolean 0)) fun S3 => (xlet (y3 + 1) fun v3_4 => rc (v3_4, S3))) else none))
def B_X3_reachesAllWithout_42 (c1 : Int32) (c2 : Int32) (c3 : Int32) (kx : XSt → Option (Int32 × XSt)) (rc : (Int32 × XSt) → Option (Int32 × XSt)) (y4 : Int32) (S1 : XSt) : Option (Int32 × XSt) :=
  (if (S1 1 4) ≤ y4 then kx S1 else (if xin c3 256 = true then (if (S1 26 (xti c3)) = 0 then kx S1 else (if xin ((c3 * (8 : Int32)) + y4) 2048 = true then (xlet (S1 18 (xti ((c3 * (8 : Int32)) + y4))) fun v5_9 => (if v5_9 = (-1) then (xlet (y4 + 1) fun v4_10 => rc (v4_10, S1)) else (if (v5_9 &&& (c1 ^^^ (-1 : Int32))) = 0 then (if xin (c3 ||| ((1 : Int32) <<< (y4 &&& 31))) 256 = true then (xlet (xst S1 26 (xti (c3 ||| ((1 : Int32) <<< (y4 &&& 31)))) (vp_nar .boolean 1)) fun S13 => (xlet (y4 + 1) fun v4_14 => rc (v4_14, S13))) else none) else (xlet (y4 + 1) fun v4_11 => rc (v4_11, S1))))) else none)) else none))
def B_X3_reachesAllWithout_34 (c1 : Int32) (c2 : Int32) (kx : XSt → Option (Int32 × XSt)) (rc : (Int32 × XSt) → Option (Int32 × XSt)) (y3 : Int32) (S1 : XSt) : Option (Int32 × XSt) :=
  (if c2 ≤ y3 then kx S1 else (xlp (fun k rc t => B_X3_reachesAllWithout_42  c1 c2 y3 k rc t.1 t.2) (fun e15 => (xlet (y3 + 1) fun v3_16 => rc (v3_16, e15))) XFU (0, S1)))
def F_X3_reachesAllWithout (S0 : XSt) (x1 : Int32) : (Option (Int32 × XSt)) :=
  (xlet (F_X3_allGraves S0) fun v2_1 => (xlp (fun k rc t => B_X3_reachesAllWithout_7  x1 v2_1 k rc t.1 t.2) (fun e5 => (xlet (xst e5 26 (xti 0) (vp_nar .boolean 1)) fun S6 => (xlp (fun k rc t => B_X3_reachesAllWithout_34  x1 v2_1 k rc t.1 t.2) (fun e17 => (if xin v2_1 256 = true then (if xbool (e17 26 (xti v2_1)) = true then (some ((e17 26 (xti v2_1)), e17)) else none) else none)) XFU (0, S6)))) XFU (1, S0)))
abbrev rm_X3_reachesAllWithout : Room := { frames := 1, cells := 0, slots := 0, locals := 20 }
set_option maxRecDepth 100000 in
set_option maxHeartbeats 4000000 in
theorem w_X3_reachesAllWithout_7 (l : Launch) (D : va_G) (a : Nat → Nat) (b : Nat → ClassId) (S0 : XSt) {Γ : XG XSt} {r9 : Int32} {S9 : XSt} (C : Cx (ωC D a b) Γ cX3_reachesAllWithout "GraveOrder$Orders" (some .boolean) l rm_X3_reachesAllWithout 6 (some (.int r9), S9)) (c1 : Int32) (c2 : Int32)  (kx : XSt → Option (Int32 × XSt)) (rc : (Int32 × XSt) → Option (Int32 × XSt)) (hk : ∀ e, kx e = some (r9, S9) → XAt (ωC D a b) Γ 25 [(0, .ref (a 4)), (1, .int c1), (2, .int c2)] [] e) (ih : ∀ t, rc t = some (r9, S9) → XAt (ωC D a b) Γ 7 [(0, .ref (a 4)), (1, .int c1), (2, .int c2), (3, .int t.1)] [] t.2) (y3 : Int32) (S1 : XSt) (h : B_X3_reachesAllWithout_7  c1 c2 kx rc y3 S1 = some (r9, S9)) : XAt (ωC D a b) Γ 7 [(0, .ref (a 4)), (1, .int c1), (2, .int c2), (3, .int y3)] [] S1 := by
  unfold B_X3_reachesAllWithout_7 at h
  refine x_iload_n 7 C dX3_reachesAllWithout_7 rfl 3 rfl ?_
  refine x_iload_n 8 C dX3_reachesAllWithout_8 rfl 2 rfl ?_
  refine x_icmp_gt 9 C 25 dX3_reachesAllWithout_9 rfl h (fun h => ?_) (fun h => ?_)
  · exact x_sub 25 [0, 1, 2] rfl (hk _ h)
  · refine x_aload_n 12 C dX3_reachesAllWithout_12 rfl 0 rfl ?_
    refine gX3_reached 13 C kw_196 dX3_reachesAllWithout_13 ?_
    refine x_iload_n 16 C dX3_reachesAllWithout_16 rfl 3 rfl ?_
    refine x_iconst 17 C dX3_reachesAllWithout_17 ci_0 ?_
    obtain ⟨hg2, h⟩ := xif_some h
    refine c_zast26 18 C hg2 dX3_reachesAllWithout_18 ?_
    refine x_topS h (fun S3 h => ?_)
    refine x_iinc 19 C (L := fun v3_4 => [(0, .ref (a 4)), (1, .int c1), (2, .int c2), (3, .int v3_4)]) dX3_reachesAllWithout_19 3 rfl ci_1 (Nat.le_of_ble_eq_true rfl) [1, 2, 3, 0] (fun _ => rfl) h (fun v3_4 h => ?_)
    refine x_goto 22 C 7 dX3_reachesAllWithout_22 rfl ?_
    exact ih _ h
set_option maxRecDepth 100000 in
set_option maxHeartbeats 4000000 in
theorem w_X3_reachesAllWithout_42 (l : Launch) (D : va_G) (a : Nat → Nat) (b : Nat → ClassId) (S0 : XSt) {Γ : XG XSt} {r9 : Int32} {S9 : XSt} (C : Cx (ωC D a b) Γ cX3_reachesAllWithout "GraveOrder$Orders" (some .boolean) l rm_X3_reachesAllWithout 6 (some (.int r9), S9)) (c1 : Int32) (c2 : Int32) (c3 : Int32)  (kx : XSt → Option (Int32 × XSt)) (rc : (Int32 × XSt) → Option (Int32 × XSt)) (hk : ∀ e, kx e = some (r9, S9) → XAt (ωC D a b) Γ 110 [(0, .ref (a 4)), (1, .int c1), (2, .int c2), (3, .int c3)] [] e) (ih : ∀ t, rc t = some (r9, S9) → XAt (ωC D a b) Γ 42 [(0, .ref (a 4)), (1, .int c1), (2, .int c2), (3, .int c3), (4, .int t.1)] [] t.2) (y4 : Int32) (S1 : XSt) (h : B_X3_reachesAllWithout_42  c1 c2 c3 kx rc y4 S1 = some (r9, S9)) : XAt (ωC D a b) Γ 42 [(0, .ref (a 4)), (1, .int c1), (2, .int c2), (3, .int c3), (4, .int y4)] [] S1 := by
  unfold B_X3_reachesAllWithout_42 at h
  refine x_iload 42 C dX3_reachesAllWithout_42 4 rfl ?_
  refine x_aload_n 44 C dX3_reachesAllWithout_44 rfl 0 rfl ?_
  refine gX3_yard 45 C kw_182 dX3_reachesAllWithout_45 ?_
  refine gX5_graves 48 C kw_105 dX3_reachesAllWithout_48 ?_
  refine x_icmp_ge 51 C 110 dX3_reachesAllWithout_51 rfl h (fun h => ?_) (fun h => ?_)
  · exact x_sub 110 [0, 1, 2, 3] rfl (hk _ h)
  · refine x_aload_n 54 C dX3_reachesAllWithout_54 rfl 0 rfl ?_
    refine gX3_reached 55 C kw_196 dX3_reachesAllWithout_55 ?_
    refine x_iload_n 58 C dX3_reachesAllWithout_58 rfl 3 rfl ?_
    obtain ⟨hg7, h⟩ := xif_some h
    refine c_zald26 59 C hg7 dX3_reachesAllWithout_59 ?_
    refine x_if_eq 60 C 110 dX3_reachesAllWithout_60 rfl h (fun h => ?_) (fun h => ?_)
    · exact x_sub 110 [0, 1, 2, 3] rfl (hk _ h)
    · refine x_aload_n 63 C dX3_reachesAllWithout_63 rfl 0 rfl ?_
      refine gX3_steps 64 C kw_185 dX3_reachesAllWithout_64 ?_
      refine x_iload_n 67 C dX3_reachesAllWithout_67 rfl 3 rfl ?_
      refine x_bipush 68 C dX3_reachesAllWithout_68 cb_8 ?_
      refine x_imul 70 C dX3_reachesAllWithout_70 ?_
      refine x_iload 71 C dX3_reachesAllWithout_71 4 rfl ?_
      refine x_iadd 73 C dX3_reachesAllWithout_73 ?_
      obtain ⟨hg8, h⟩ := xif_some h
      refine c_iald 74 C (n := 2048) rfl hg8 dX3_reachesAllWithout_74 ?_
      refine x_top h (fun v5_9 h => ?_)
      refine x_istore 75 C (lv' := [(0, .ref (a 4)), (1, .int c1), (2, .int c2), (3, .int c3), (4, .int y4), (5, .int v5_9)]) dX3_reachesAllWithout_75 (Nat.le_of_ble_eq_true rfl) [1, 2, 3, 4, 5, 0] rfl ?_
      refine x_iload 77 C dX3_reachesAllWithout_77 5 rfl ?_
      refine x_iconst 79 C dX3_reachesAllWithout_79 ci_m1 ?_
      refine x_icmp_eq 80 C 104 dX3_reachesAllWithout_80 rfl h (fun h => ?_) (fun h => ?_)
      · refine x_iinc 104 C (L := fun v4_10 => [(0, .ref (a 4)), (1, .int c1), (2, .int c2), (3, .int c3), (4, .int v4_10)]) dX3_reachesAllWithout_104 4 rfl ci_1 (Nat.le_of_ble_eq_true rfl) [1, 2, 3, 4, 0] (fun _ => rfl) h (fun v4_10 h => ?_)
        refine x_goto 107 C 42 dX3_reachesAllWithout_107 rfl ?_
        exact ih _ h
      · refine x_iload 83 C dX3_reachesAllWithout_83 5 rfl ?_
        refine x_iload_n 85 C dX3_reachesAllWithout_85 rfl 1 rfl ?_
        refine x_iconst 86 C dX3_reachesAllWithout_86 ci_m1 ?_
        refine x_ixor 87 C dX3_reachesAllWithout_87 ?_
        refine x_iand 88 C dX3_reachesAllWithout_88 ?_
        refine x_if_ne 89 C 104 dX3_reachesAllWithout_89 rfl h (fun h => ?_) (fun h => ?_)
        · refine x_iinc 104 C (L := fun v4_11 => [(0, .ref (a 4)), (1, .int c1), (2, .int c2), (3, .int c3), (4, .int v4_11)]) dX3_reachesAllWithout_104 4 rfl ci_1 (Nat.le_of_ble_eq_true rfl) [1, 2, 3, 4, 0] (fun _ => rfl) h (fun v4_11 h => ?_)
          refine x_goto 107 C 42 dX3_reachesAllWithout_107 rfl ?_
          exact ih _ h
        · refine x_aload_n 92 C dX3_reachesAllWithout_92 rfl 0 rfl ?_
          refine gX3_reached 93 C kw_196 dX3_reachesAllWithout_93 ?_
          refine x_iload_n 96 C dX3_reachesAllWithout_96 rfl 3 rfl ?_
          refine x_iconst 97 C dX3_reachesAllWithout_97 ci_1 ?_
          refine x_iload 98 C dX3_reachesAllWithout_98 4 rfl ?_
          refine x_ishl 100 C dX3_reachesAllWithout_100 ?_
          refine x_ior 101 C dX3_reachesAllWithout_101 ?_
          refine x_iconst 102 C dX3_reachesAllWithout_102 ci_1 ?_
          obtain ⟨hg12, h⟩ := xif_some h
          refine c_zast26 103 C hg12 dX3_reachesAllWithout_103 ?_
          refine x_topS h (fun S13 h => ?_)
          refine x_iinc 104 C (L := fun v4_14 => [(0, .ref (a 4)), (1, .int c1), (2, .int c2), (3, .int c3), (4, .int v4_14)]) dX3_reachesAllWithout_104 4 rfl ci_1 (Nat.le_of_ble_eq_true rfl) [1, 2, 3, 4, 0] (fun _ => rfl) h (fun v4_14 h => ?_)
          refine x_goto 107 C 42 dX3_reachesAllWithout_107 rfl ?_
          exact ih _ h
set_option maxRecDepth 100000 in
set_option maxHeartbeats 4000000 in
theorem w_X3_reachesAllWithout_34 (l : Launch) (D : va_G) (a : Nat → Nat) (b : Nat → ClassId) (S0 : XSt) {Γ : XG XSt} {r9 : Int32} {S9 : XSt} (C : Cx (ωC D a b) Γ cX3_reachesAllWithout "GraveOrder$Orders" (some .boolean) l rm_X3_reachesAllWithout 6 (some (.int r9), S9)) (c1 : Int32) (c2 : Int32)  (kx : XSt → Option (Int32 × XSt)) (rc : (Int32 × XSt) → Option (Int32 × XSt)) (hk : ∀ e, kx e = some (r9, S9) → XAt (ωC D a b) Γ 116 [(0, .ref (a 4)), (2, .int c2)] [] e) (ih : ∀ t, rc t = some (r9, S9) → XAt (ωC D a b) Γ 34 [(0, .ref (a 4)), (1, .int c1), (2, .int c2), (3, .int t.1)] [] t.2) (y3 : Int32) (S1 : XSt) (h : B_X3_reachesAllWithout_34  c1 c2 kx rc y3 S1 = some (r9, S9)) : XAt (ωC D a b) Γ 34 [(0, .ref (a 4)), (1, .int c1), (2, .int c2), (3, .int y3)] [] S1 := by
  unfold B_X3_reachesAllWithout_34 at h
  refine x_iload_n 34 C dX3_reachesAllWithout_34 rfl 3 rfl ?_
  refine x_iload_n 35 C dX3_reachesAllWithout_35 rfl 2 rfl ?_
  refine x_icmp_ge 36 C 116 dX3_reachesAllWithout_36 rfl h (fun h => ?_) (fun h => ?_)
  · exact x_sub 116 [0, 2] rfl (hk _ h)
  · refine x_iconst 39 C dX3_reachesAllWithout_39 ci_0 ?_
    refine x_istore 40 C (lv' := [(0, .ref (a 4)), (1, .int c1), (2, .int c2), (3, .int y3), (4, .int 0)]) dX3_reachesAllWithout_40 (Nat.le_of_ble_eq_true rfl) [1, 2, 3, 4, 0] rfl ?_
    refine x_loop (E := fun e => XAt (ωC D a b) Γ 110 [(0, .ref (a 4)), (1, .int c1), (2, .int c2), (3, .int y3)] [] e) (P := fun t => XAt (ωC D a b) Γ 42 [(0, .ref (a 4)), (1, .int c1), (2, .int c2), (3, .int y3), (4, .int t.1)] [] t.2) h (fun e15 h => ?_) (fun kx rc t hk ih h => w_X3_reachesAllWithout_42 l D a b S0 C   c1 c2 y3 kx rc hk ih t.1 t.2 h)
    refine x_iinc 110 C (L := fun v3_16 => [(0, .ref (a 4)), (1, .int c1), (2, .int c2), (3, .int v3_16)]) dX3_reachesAllWithout_110 3 rfl ci_1 (Nat.le_of_ble_eq_true rfl) [1, 2, 3, 0] (fun _ => rfl) h (fun v3_16 h => ?_)
    refine x_goto 113 C 34 dX3_reachesAllWithout_113 rfl ?_
    exact ih _ h
set_option maxRecDepth 100000 in
set_option maxHeartbeats 4000000 in
theorem M_X3_reachesAllWithout (l : Launch) (D : va_G) (a : Nat → Nat) (b : Nat → ClassId) (S0 : XSt) (x1 : Int32)  {r9 : Int32} {S9 : XSt} (h : F_X3_reachesAllWithout S0 x1 = some (r9, S9)) : xM l (ωC D a b) yX3_reachesAllWithout cX3_reachesAllWithout 6 (some .boolean) rm_X3_reachesAllWithout [.ref (a 4), .int x1] S0 (some (.int r9), S9) := by
  unfold F_X3_reachesAllWithout at h
  refine xM_of (own := "GraveOrder$Orders") (by decide) rfl (Nat.le_of_ble_eq_true rfl) (fun Γ C => ?_)
  refine x_sub 0 [0, 1] (lv' := [(0, .ref (a 4)), (1, .int x1)]) rfl ?_
  refine x_aload_n 0 C dX3_reachesAllWithout_0 rfl 0 rfl ?_
  refine x_callV 1 C (q0 := 4) (ci := 3) 0 (As := []) (rest := []) (M_X3_allGraves l D a b S0  ) (by rfl) rfl kw_461 mv_X3_allGraves mh_X3_allGraves ⟨rfl, rfl⟩ ⟨Nat.le_of_ble_eq_true rfl, Nat.le_of_ble_eq_true rfl⟩ rfl rfl (Nat.le_of_ble_eq_true rfl) dX3_reachesAllWithout_1 ?_
  refine x_top h (fun v2_1 h => ?_)
  refine x_istore_n 4 C (lv' := [(0, .ref (a 4)), (1, .int x1), (2, .int v2_1)]) dX3_reachesAllWithout_4 rfl (Nat.le_of_ble_eq_true rfl) [1, 2, 0] rfl ?_
  refine x_iconst 5 C dX3_reachesAllWithout_5 ci_1 ?_
  refine x_istore_n 6 C (lv' := [(0, .ref (a 4)), (1, .int x1), (2, .int v2_1), (3, .int 1)]) dX3_reachesAllWithout_6 rfl (Nat.le_of_ble_eq_true rfl) [1, 2, 3, 0] rfl ?_
  refine x_loop (E := fun e => XAt (ωC D a b) Γ 25 [(0, .ref (a 4)), (1, .int x1), (2, .int v2_1)] [] e) (P := fun t => XAt (ωC D a b) Γ 7 [(0, .ref (a 4)), (1, .int x1), (2, .int v2_1), (3, .int t.1)] [] t.2) h (fun e5 h => ?_) (fun kx rc t hk ih h => w_X3_reachesAllWithout_7 l D a b S0 C   x1 v2_1 kx rc hk ih t.1 t.2 h)
  refine x_aload_n 25 C dX3_reachesAllWithout_25 rfl 0 rfl ?_
  refine gX3_reached 26 C kw_196 dX3_reachesAllWithout_26 ?_
  refine x_iconst 29 C dX3_reachesAllWithout_29 ci_0 ?_
  refine x_iconst 30 C dX3_reachesAllWithout_30 ci_1 ?_
  refine c_zast26 31 C (by decide) dX3_reachesAllWithout_31 ?_
  refine x_topS h (fun S6 h => ?_)
  refine x_iconst 32 C dX3_reachesAllWithout_32 ci_0 ?_
  refine x_istore_n 33 C (lv' := [(0, .ref (a 4)), (1, .int x1), (2, .int v2_1), (3, .int 0)]) dX3_reachesAllWithout_33 rfl (Nat.le_of_ble_eq_true rfl) [1, 2, 3, 0] rfl ?_
  refine x_loop (E := fun e => XAt (ωC D a b) Γ 116 [(0, .ref (a 4)), (2, .int v2_1)] [] e) (P := fun t => XAt (ωC D a b) Γ 34 [(0, .ref (a 4)), (1, .int x1), (2, .int v2_1), (3, .int t.1)] [] t.2) h (fun e17 h => ?_) (fun kx rc t hk ih h => w_X3_reachesAllWithout_34 l D a b S0 C   x1 v2_1 kx rc hk ih t.1 t.2 h)
  refine x_aload_n 116 C dX3_reachesAllWithout_116 rfl 0 rfl ?_
  refine gX3_reached 117 C kw_196 dX3_reachesAllWithout_117 ?_
  refine x_iload_n 120 C dX3_reachesAllWithout_120 rfl 1 rfl ?_
  obtain ⟨hg18, h⟩ := xif_some h
  refine c_zald26 121 C hg18 dX3_reachesAllWithout_121 ?_
  obtain ⟨hg19, h⟩ := xif_some h
  exact x_zret 122 C dX3_reachesAllWithout_122 hg19 (Prod.mk.inj (Option.some.inj h)).1 (Prod.mk.inj (Option.some.inj h)).2
/-! GraveOrder$Orders.searchLeftOut ()I -/
def B_X3_searchLeftOut_20 (c1 : Int32) (c2 : Int32) (c3 : Int32) (kx : XSt → Option (Int32 × XSt)) (rc : (Int32 × XSt) → Option (Int32 × XSt)) (y4 : Int32) (S1 : XSt) : Option (Int32 × XSt) :=
  (if 1023 < y4 then kx S1 else (xlet (fun (t3 : Int32) => (if t3 = 0 then (xlet (y4 + 1) fun v4_5 => rc (v4_5, S1)) else ((F_X3_reachesAllWithout S1 y4).bind fun z6 => (if z6.1 = 0 then (xlet (y4 + 1) fun v4_7 => rc (v4_7, z6.2)) else (some (y4, z6.2)))))) fun j4 => (if (F_J6_bitCount_0f7a4 y4) = c3 then (if (y4 &&& (c1 ^^^ (-1 : Int32))) = 0 then j4 1 else j4 0) else j4 0)))
def B_X3_searchLeftOut_12 (c1 : Int32) (c2 : Int32) (kx : XSt → Option (Int32 × XSt)) (rc : (Int32 × XSt) → Option (Int32 × XSt)) (y3 : Int32) (S1 : XSt) : Option (Int32 × XSt) :=
  (if c2 ≤ y3 then kx S1 else (xlp (fun k rc t => B_X3_searchLeftOut_20  c1 c2 y3 k rc t.1 t.2) (fun e8 => (xlet (y3 + 1) fun v3_9 => rc (v3_9, e8))) XFU (0, S1)))
def F_X3_searchLeftOut (S0 : XSt)  : (Option (Int32 × XSt)) :=
  ((F_X3_kindsWithGaps S0).bind fun z1 => (xlet (F_J6_bitCount_0f7a4 z1) fun v2_2 => (xlp (fun k rc t => B_X3_searchLeftOut_12  z1 v2_2 k rc t.1 t.2) (fun e10 => (some (z1, e10))) XFU (0, S0))))
abbrev rm_X3_searchLeftOut : Room := { frames := 2, cells := 0, slots := 0, locals := 45 }
set_option maxRecDepth 100000 in
set_option maxHeartbeats 4000000 in
theorem w_X3_searchLeftOut_20 (l : Launch) (D : va_G) (a : Nat → Nat) (b : Nat → ClassId) (S0 : XSt) {Γ : XG XSt} {r9 : Int32} {S9 : XSt} (C : Cx (ωC D a b) Γ cX3_searchLeftOut "GraveOrder$Orders" (some .int) l rm_X3_searchLeftOut 6 (some (.int r9), S9)) (c1 : Int32) (c2 : Int32) (c3 : Int32)  (kx : XSt → Option (Int32 × XSt)) (rc : (Int32 × XSt) → Option (Int32 × XSt)) (hk : ∀ e, kx e = some (r9, S9) → XAt (ωC D a b) Γ 76 [(0, .ref (a 4)), (1, .int c1), (2, .int c2), (3, .int c3)] [] e) (ih : ∀ t, rc t = some (r9, S9) → XAt (ωC D a b) Γ 20 [(0, .ref (a 4)), (1, .int c1), (2, .int c2), (3, .int c3), (4, .int t.1)] [] t.2) (y4 : Int32) (S1 : XSt) (h : B_X3_searchLeftOut_20  c1 c2 c3 kx rc y4 S1 = some (r9, S9)) : XAt (ωC D a b) Γ 20 [(0, .ref (a 4)), (1, .int c1), (2, .int c2), (3, .int c3), (4, .int y4)] [] S1 := by
  unfold B_X3_searchLeftOut_20 at h
  refine x_iload 20 C dX3_searchLeftOut_20 4 rfl ?_
  refine x_sipush 22 C dX3_searchLeftOut_22 cs_1023 ?_
  refine x_icmp_gt 25 C 76 dX3_searchLeftOut_25 rfl h (fun h => ?_) (fun h => ?_)
  · exact x_sub 76 [0, 1, 2, 3] rfl (hk _ h)
  · refine x_iload 28 C dX3_searchLeftOut_28 4 rfl ?_
    refine x_callS 30 C 1 (As := [.int y4]) (rest := []) (M_J6_bitCount_0f7a4 l (ωC D a b) S1 y4) kw_532 ms_J6_bitCount_0f7a4 mh_J6_bitCount_0f7a4 ⟨rfl, rfl⟩ ⟨Nat.le_of_ble_eq_true rfl, Nat.le_of_ble_eq_true rfl⟩ rfl rfl (Nat.le_of_ble_eq_true rfl) dX3_searchLeftOut_30 ?_
    refine x_iload_n 33 C dX3_searchLeftOut_33 rfl 3 rfl ?_
    refine x_join (P := fun t3 => XAt (ωC D a b) Γ 51 [(0, .ref (a 4)), (1, .int c1), (2, .int c2), (3, .int c3), (4, .int y4)] [.int t3] S1) h (fun t3 h => ?_) (fun j4 hj4 h => ?_)
    · refine x_istore 51 C (lv' := [(0, .ref (a 4)), (1, .int c1), (2, .int c2), (3, .int c3), (4, .int y4), (5, .int t3)]) dX3_searchLeftOut_51 (Nat.le_of_ble_eq_true rfl) [1, 2, 3, 4, 5, 0] rfl ?_
      refine x_iload 53 C dX3_searchLeftOut_53 5 rfl ?_
      refine x_if_eq 55 C 70 dX3_searchLeftOut_55 rfl h (fun h => ?_) (fun h => ?_)
      · refine x_iinc 70 C (L := fun v4_5 => [(0, .ref (a 4)), (1, .int c1), (2, .int c2), (3, .int c3), (4, .int v4_5)]) dX3_searchLeftOut_70 4 rfl ci_1 (Nat.le_of_ble_eq_true rfl) [1, 2, 3, 4, 0] (fun _ => rfl) h (fun v4_5 h => ?_)
        refine x_goto 73 C 20 dX3_searchLeftOut_73 rfl ?_
        exact ih _ h
      · refine x_aload_n 58 C dX3_searchLeftOut_58 rfl 0 rfl ?_
        refine x_iload 59 C dX3_searchLeftOut_59 4 rfl ?_
        obtain ⟨z6, hz6, h⟩ := xbind_some h
        refine x_callV 61 C (q0 := 4) (ci := 3) 1 (As := [.int y4]) (rest := []) (M_X3_reachesAllWithout l D a b S1 y4  hz6) (by rfl) rfl kw_591 mv_X3_reachesAllWithout mh_X3_reachesAllWithout ⟨rfl, rfl⟩ ⟨Nat.le_of_ble_eq_true rfl, Nat.le_of_ble_eq_true rfl⟩ rfl rfl (Nat.le_of_ble_eq_true rfl) dX3_searchLeftOut_61 ?_
        refine x_if_eq 64 C 70 dX3_searchLeftOut_64 rfl h (fun h => ?_) (fun h => ?_)
        · refine x_iinc 70 C (L := fun v4_7 => [(0, .ref (a 4)), (1, .int c1), (2, .int c2), (3, .int c3), (4, .int v4_7)]) dX3_searchLeftOut_70 4 rfl ci_1 (Nat.le_of_ble_eq_true rfl) [1, 2, 3, 4, 0] (fun _ => rfl) h (fun v4_7 h => ?_)
          refine x_goto 73 C 20 dX3_searchLeftOut_73 rfl ?_
          exact ih _ h
        · refine x_iload 67 C dX3_searchLeftOut_67 4 rfl ?_
          exact x_iret 69 C dX3_searchLeftOut_69 (Prod.mk.inj (Option.some.inj h)).1 (Prod.mk.inj (Option.some.inj h)).2
    refine x_icmp_ne 34 C 50 dX3_searchLeftOut_34 rfl h (fun h => ?_) (fun h => ?_)
    · refine x_iconst 50 C dX3_searchLeftOut_50 ci_0 ?_
      exact hj4 _ h
    · refine x_iload 37 C dX3_searchLeftOut_37 4 rfl ?_
      refine x_iload_n 39 C dX3_searchLeftOut_39 rfl 1 rfl ?_
      refine x_iconst 40 C dX3_searchLeftOut_40 ci_m1 ?_
      refine x_ixor 41 C dX3_searchLeftOut_41 ?_
      refine x_iand 42 C dX3_searchLeftOut_42 ?_
      refine x_if_ne 43 C 50 dX3_searchLeftOut_43 rfl h (fun h => ?_) (fun h => ?_)
      · refine x_iconst 50 C dX3_searchLeftOut_50 ci_0 ?_
        exact hj4 _ h
      · refine x_iconst 46 C dX3_searchLeftOut_46 ci_1 ?_
        refine x_goto 47 C 51 dX3_searchLeftOut_47 rfl ?_
        exact hj4 _ h
set_option maxRecDepth 100000 in
set_option maxHeartbeats 4000000 in
theorem w_X3_searchLeftOut_12 (l : Launch) (D : va_G) (a : Nat → Nat) (b : Nat → ClassId) (S0 : XSt) {Γ : XG XSt} {r9 : Int32} {S9 : XSt} (C : Cx (ωC D a b) Γ cX3_searchLeftOut "GraveOrder$Orders" (some .int) l rm_X3_searchLeftOut 6 (some (.int r9), S9)) (c1 : Int32) (c2 : Int32)  (kx : XSt → Option (Int32 × XSt)) (rc : (Int32 × XSt) → Option (Int32 × XSt)) (hk : ∀ e, kx e = some (r9, S9) → XAt (ωC D a b) Γ 82 [(1, .int c1)] [] e) (ih : ∀ t, rc t = some (r9, S9) → XAt (ωC D a b) Γ 12 [(0, .ref (a 4)), (1, .int c1), (2, .int c2), (3, .int t.1)] [] t.2) (y3 : Int32) (S1 : XSt) (h : B_X3_searchLeftOut_12  c1 c2 kx rc y3 S1 = some (r9, S9)) : XAt (ωC D a b) Γ 12 [(0, .ref (a 4)), (1, .int c1), (2, .int c2), (3, .int y3)] [] S1 := by
  unfold B_X3_searchLeftOut_12 at h
  refine x_iload_n 12 C dX3_searchLeftOut_12 rfl 3 rfl ?_
  refine x_iload_n 13 C dX3_searchLeftOut_13 rfl 2 rfl ?_
  refine x_icmp_ge 14 C 82 dX3_searchLeftOut_14 rfl h (fun h => ?_) (fun h => ?_)
  · exact x_sub 82 [1] rfl (hk _ h)
  · refine x_iconst 17 C dX3_searchLeftOut_17 ci_0 ?_
    refine x_istore 18 C (lv' := [(0, .ref (a 4)), (1, .int c1), (2, .int c2), (3, .int y3), (4, .int 0)]) dX3_searchLeftOut_18 (Nat.le_of_ble_eq_true rfl) [1, 2, 3, 4, 0] rfl ?_
    refine x_loop (E := fun e => XAt (ωC D a b) Γ 76 [(0, .ref (a 4)), (1, .int c1), (2, .int c2), (3, .int y3)] [] e) (P := fun t => XAt (ωC D a b) Γ 20 [(0, .ref (a 4)), (1, .int c1), (2, .int c2), (3, .int y3), (4, .int t.1)] [] t.2) h (fun e8 h => ?_) (fun kx rc t hk ih h => w_X3_searchLeftOut_20 l D a b S0 C   c1 c2 y3 kx rc hk ih t.1 t.2 h)
    refine x_iinc 76 C (L := fun v3_9 => [(0, .ref (a 4)), (1, .int c1), (2, .int c2), (3, .int v3_9)]) dX3_searchLeftOut_76 3 rfl ci_1 (Nat.le_of_ble_eq_true rfl) [1, 2, 3, 0] (fun _ => rfl) h (fun v3_9 h => ?_)
    refine x_goto 79 C 12 dX3_searchLeftOut_79 rfl ?_
    exact ih _ h
set_option maxRecDepth 100000 in
set_option maxHeartbeats 4000000 in
theorem M_X3_searchLeftOut (l : Launch) (D : va_G) (a : Nat → Nat) (b : Nat → ClassId) (S0 : XSt)   {r9 : Int32} {S9 : XSt} (h : F_X3_searchLeftOut S0 = some (r9, S9)) : xM l (ωC D a b) yX3_searchLeftOut cX3_searchLeftOut 6 (some .int) rm_X3_searchLeftOut [.ref (a 4)] S0 (some (.int r9), S9) := by
  unfold F_X3_searchLeftOut at h
  refine xM_of (own := "GraveOrder$Orders") (by decide) rfl (Nat.le_of_ble_eq_true rfl) (fun Γ C => ?_)
  refine x_sub 0 [0] (lv' := [(0, .ref (a 4))]) rfl ?_
  refine x_aload_n 0 C dX3_searchLeftOut_0 rfl 0 rfl ?_
  obtain ⟨z1, hz1, h⟩ := xbind_some h
  refine x_callV 1 C (q0 := 4) (ci := 3) 0 (As := []) (rest := []) (M_X3_kindsWithGaps l D a b S0   hz1) (by rfl) rfl kw_587 mv_X3_kindsWithGaps mh_X3_kindsWithGaps ⟨rfl, rfl⟩ ⟨Nat.le_of_ble_eq_true rfl, Nat.le_of_ble_eq_true rfl⟩ rfl rfl (Nat.le_of_ble_eq_true rfl) dX3_searchLeftOut_1 ?_
  refine x_istore_n 4 C (lv' := [(0, .ref (a 4)), (1, .int z1)]) dX3_searchLeftOut_4 rfl (Nat.le_of_ble_eq_true rfl) [1, 0] rfl ?_
  refine x_iload_n 5 C dX3_searchLeftOut_5 rfl 1 rfl ?_
  refine x_callS 6 C 1 (As := [.int z1]) (rest := []) (M_J6_bitCount_0f7a4 l (ωC D a b) S0 z1) kw_532 ms_J6_bitCount_0f7a4 mh_J6_bitCount_0f7a4 ⟨rfl, rfl⟩ ⟨Nat.le_of_ble_eq_true rfl, Nat.le_of_ble_eq_true rfl⟩ rfl rfl (Nat.le_of_ble_eq_true rfl) dX3_searchLeftOut_6 ?_
  refine x_top h (fun v2_2 h => ?_)
  refine x_istore_n 9 C (lv' := [(0, .ref (a 4)), (1, .int z1), (2, .int v2_2)]) dX3_searchLeftOut_9 rfl (Nat.le_of_ble_eq_true rfl) [1, 2, 0] rfl ?_
  refine x_iconst 10 C dX3_searchLeftOut_10 ci_0 ?_
  refine x_istore_n 11 C (lv' := [(0, .ref (a 4)), (1, .int z1), (2, .int v2_2), (3, .int 0)]) dX3_searchLeftOut_11 rfl (Nat.le_of_ble_eq_true rfl) [1, 2, 3, 0] rfl ?_
  refine x_loop (E := fun e => XAt (ωC D a b) Γ 82 [(1, .int z1)] [] e) (P := fun t => XAt (ωC D a b) Γ 12 [(0, .ref (a 4)), (1, .int z1), (2, .int v2_2), (3, .int t.1)] [] t.2) h (fun e10 h => ?_) (fun kx rc t hk ih h => w_X3_searchLeftOut_12 l D a b S0 C   z1 v2_2 kx rc hk ih t.1 t.2 h)
  refine x_iload_n 82 C dX3_searchLeftOut_82 rfl 0 rfl ?_
  exact x_iret 83 C dX3_searchLeftOut_83 (Prod.mk.inj (Option.some.inj h)).1 (Prod.mk.inj (Option.some.inj h)).2
/-! GraveOrder$Orders.fewestLeftOut ()I -/
def F_X3_fewestLeftOut (S0 : XSt)  : (Option (Int32 × XSt)) :=
  (if (S0 4 14) = 0 then (some ((S0 4 15), S0)) else ((F_X3_searchLeftOut S0).bind fun z1 => (xlet (xst z1.2 4 15 z1.1) fun S2 => (xlet (xst S2 4 14 0) fun S3 => (some ((S3 4 15), S3))))))
abbrev rm_X3_fewestLeftOut : Room := { frames := 3, cells := 0, slots := 0, locals := 70 }
set_option maxRecDepth 100000 in
set_option maxHeartbeats 4000000 in
theorem M_X3_fewestLeftOut (l : Launch) (D : va_G) (a : Nat → Nat) (b : Nat → ClassId) (S0 : XSt)   {r9 : Int32} {S9 : XSt} (h : F_X3_fewestLeftOut S0 = some (r9, S9)) : xM l (ωC D a b) yX3_fewestLeftOut cX3_fewestLeftOut 1 (some .int) rm_X3_fewestLeftOut [.ref (a 4)] S0 (some (.int r9), S9) := by
  unfold F_X3_fewestLeftOut at h
  refine xM_of (own := "GraveOrder$Orders") (by decide) rfl (Nat.le_of_ble_eq_true rfl) (fun Γ C => ?_)
  refine x_sub 0 [0] (lv' := [(0, .ref (a 4))]) rfl ?_
  refine x_aload_n 0 C dX3_fewestLeftOut_0 rfl 0 rfl ?_
  refine gX3_leftOutStale 1 C kw_200 dX3_fewestLeftOut_1 ?_
  refine x_if_eq 4 C 20 dX3_fewestLeftOut_4 rfl h (fun h => ?_) (fun h => ?_)
  · refine x_aload_n 20 C dX3_fewestLeftOut_20 rfl 0 rfl ?_
    refine gX3_leftOutBits 21 C kw_201 dX3_fewestLeftOut_21 ?_
    exact x_iret 24 C dX3_fewestLeftOut_24 (Prod.mk.inj (Option.some.inj h)).1 (Prod.mk.inj (Option.some.inj h)).2
  · refine x_aload_n 7 C dX3_fewestLeftOut_7 rfl 0 rfl ?_
    refine x_aload_n 8 C dX3_fewestLeftOut_8 rfl 0 rfl ?_
    obtain ⟨z1, hz1, h⟩ := xbind_some h
    refine x_callV 9 C (q0 := 4) (ci := 3) 0 (As := []) (rest := [.ref (a 4)]) (M_X3_searchLeftOut l D a b S0   hz1) (by rfl) rfl kw_583 mv_X3_searchLeftOut mh_X3_searchLeftOut ⟨rfl, rfl⟩ ⟨Nat.le_of_ble_eq_true rfl, Nat.le_of_ble_eq_true rfl⟩ rfl rfl (Nat.le_of_ble_eq_true rfl) dX3_fewestLeftOut_9 ?_
    refine pX3_leftOutBits 12 C kw_201 dX3_fewestLeftOut_12 ?_
    refine x_topS h (fun S2 h => ?_)
    refine x_aload_n 15 C dX3_fewestLeftOut_15 rfl 0 rfl ?_
    refine x_iconst 16 C dX3_fewestLeftOut_16 ci_0 ?_
    refine pX3_leftOutStale 17 C rfl kw_200 dX3_fewestLeftOut_17 ?_
    refine x_topS h (fun S3 h => ?_)
    refine x_aload_n 20 C dX3_fewestLeftOut_20 rfl 0 rfl ?_
    refine gX3_leftOutBits 21 C kw_201 dX3_fewestLeftOut_21 ?_
    exact x_iret 24 C dX3_fewestLeftOut_24 (Prod.mk.inj (Option.some.inj h)).1 (Prod.mk.inj (Option.some.inj h)).2
/-! GraveOrder$Sheet.renew (II)V -/
def B_X4_renew_2 (qq0 : Nat) (c1 : Int32) (c2 : Int32) (kx : XSt → Option XSt) (rc : (Int32 × XSt) → Option XSt) (y3 : Int32) (S1 : XSt) : Option XSt :=
  (if 40 ≤ y3 then kx S1 else (if xin y3 40 = true then (xlet (xst S1 (qq0 + 4) (xti y3) 0) fun S2 => (xlet (y3 + 1) fun v3_3 => rc (v3_3, S2))) else none))
def F_X4_renew (S0 : XSt) (q0 : Nat) (x1 : Int32) (x2 : Int32) : (Option XSt) :=
  (xlp (fun k rc t => B_X4_renew_2 q0  x1 x2 k rc t.1 t.2) (fun e4 => (xlet (xst e4 q0 1 0) fun S5 => (xlet (xst S5 q0 2 x1) fun S6 => (xlet (xst S6 q0 3 x2) fun S7 => (some S7))))) XFU (0, S0))
abbrev rm_X4_renew : Room := { frames := 0, cells := 0, slots := 0, locals := 0 }
set_option maxRecDepth 100000 in
set_option maxHeartbeats 4000000 in
theorem w_X4_renew_2 (l : Launch) (D : va_G) (a : Nat → Nat) (b : Nat → ClassId) (S0 : XSt) {Γ : XG XSt} {S9 : XSt} (C : Cx (ωC D a b) Γ cX4_renew "GraveOrder$Sheet" none l rm_X4_renew 4 (none, S9)) (qq0 : Nat) (hqq0 : shC qq0 = true) (c1 : Int32) (c2 : Int32)  (kx : XSt → Option XSt) (rc : (Int32 × XSt) → Option XSt) (hk : ∀ e, kx e = some S9 → XAt (ωC D a b) Γ 21 [(0, .ref (a qq0)), (1, .int c1), (2, .int c2)] [] e) (ih : ∀ t, rc t = some S9 → XAt (ωC D a b) Γ 2 [(0, .ref (a qq0)), (1, .int c1), (2, .int c2), (3, .int t.1)] [] t.2) (y3 : Int32) (S1 : XSt) (h : B_X4_renew_2 qq0  c1 c2 kx rc y3 S1 = some S9) : XAt (ωC D a b) Γ 2 [(0, .ref (a qq0)), (1, .int c1), (2, .int c2), (3, .int y3)] [] S1 := by
  unfold B_X4_renew_2 at h
  refine x_iload_n 2 C dX4_renew_2 rfl 3 rfl ?_
  refine x_bipush 3 C dX4_renew_3 cb_40 ?_
  refine x_icmp_ge 5 C 21 dX4_renew_5 rfl h (fun h => ?_) (fun h => ?_)
  · exact x_sub 21 [0, 1, 2] rfl (hk _ h)
  · refine x_aload_n 8 C dX4_renew_8 rfl 0 rfl ?_
    refine gX4_items 9 C hqq0 kw_261 dX4_renew_9 ?_
    refine x_iload_n 12 C dX4_renew_12 rfl 3 rfl ?_
    refine x_iconst 13 C dX4_renew_13 ci_0 ?_
    obtain ⟨hg1, h⟩ := xif_some h
    refine c_iast 14 C (n := 40) (shC_items hqq0) hg1 dX4_renew_14 ?_
    refine x_topS h (fun S2 h => ?_)
    refine x_iinc 15 C (L := fun v3_3 => [(0, .ref (a qq0)), (1, .int c1), (2, .int c2), (3, .int v3_3)]) dX4_renew_15 3 rfl ci_1 (Nat.le_of_ble_eq_true rfl) [1, 2, 3, 0] (fun _ => rfl) h (fun v3_3 h => ?_)
    refine x_goto 18 C 2 dX4_renew_18 rfl ?_
    exact ih _ h
set_option maxRecDepth 100000 in
set_option maxHeartbeats 4000000 in
theorem M_X4_renew (l : Launch) (D : va_G) (a : Nat → Nat) (b : Nat → ClassId) (S0 : XSt) (q0 : Nat) (x1 : Int32) (x2 : Int32) (hq0 : shC q0 = true) {S9 : XSt} (h : F_X4_renew S0 q0 x1 x2 = some S9) : xM l (ωC D a b) yX4_renew cX4_renew 4 none rm_X4_renew [.ref (a q0), .int x1, .int x2] S0 (none, S9) := by
  unfold F_X4_renew at h
  refine xM_of (own := "GraveOrder$Sheet") (by decide) rfl (Nat.le_of_ble_eq_true rfl) (fun Γ C => ?_)
  refine x_sub 0 [0, 1, 2] (lv' := [(0, .ref (a q0)), (1, .int x1), (2, .int x2)]) rfl ?_
  refine x_iconst 0 C dX4_renew_0 ci_0 ?_
  refine x_istore_n 1 C (lv' := [(0, .ref (a q0)), (1, .int x1), (2, .int x2), (3, .int 0)]) dX4_renew_1 rfl (Nat.le_of_ble_eq_true rfl) [1, 2, 3, 0] rfl ?_
  refine x_loop (E := fun e => XAt (ωC D a b) Γ 21 [(0, .ref (a q0)), (1, .int x1), (2, .int x2)] [] e) (P := fun t => XAt (ωC D a b) Γ 2 [(0, .ref (a q0)), (1, .int x1), (2, .int x2), (3, .int t.1)] [] t.2) h (fun e4 h => ?_) (fun kx rc t hk ih h => w_X4_renew_2 l D a b S0 C q0  hq0  x1 x2 kx rc hk ih t.1 t.2 h)
  refine x_aload_n 21 C dX4_renew_21 rfl 0 rfl ?_
  refine x_iconst 22 C dX4_renew_22 ci_0 ?_
  refine pX4_lost 23 C hq0 rfl kw_263 dX4_renew_23 ?_
  refine x_topS h (fun S5 h => ?_)
  refine x_aload_n 26 C dX4_renew_26 rfl 0 rfl ?_
  refine x_iload_n 27 C dX4_renew_27 rfl 1 rfl ?_
  refine pX4_form 28 C hq0 kw_265 dX4_renew_28 ?_
  refine x_topS h (fun S6 h => ?_)
  refine x_aload_n 31 C dX4_renew_31 rfl 0 rfl ?_
  refine x_iload_n 32 C dX4_renew_32 rfl 2 rfl ?_
  refine pX4_size 33 C hq0 kw_267 dX4_renew_33 ?_
  refine x_topS h (fun S7 h => ?_)
  exact x_vret 36 C dX4_renew_36 (Option.some.inj h)
/-! GraveOrder$Sheet.findingAt (II)I -/
def F_X4_findingAt (S0 : XSt) (q0 : Nat) (x1 : Int32) (x2 : Int32) : Int32 :=
  (if (S0 q0 1) = 0 then (if (S0 q0 2) = x1 then (if x2 < 0 then 2 else (if x2 < (S0 q0 3) then 0 else 2)) else 3) else 1)
abbrev rm_X4_findingAt : Room := { frames := 0, cells := 0, slots := 0, locals := 0 }
set_option maxRecDepth 100000 in
set_option maxHeartbeats 4000000 in
theorem M_X4_findingAt (l : Launch) (D : va_G) (a : Nat → Nat) (b : Nat → ClassId) (S0 : XSt) (q0 : Nat) (x1 : Int32) (x2 : Int32) (hq0 : shC q0 = true) : xM l (ωC D a b) yX4_findingAt cX4_findingAt 3 (some .int) rm_X4_findingAt [.ref (a q0), .int x1, .int x2] S0 (some (.int (F_X4_findingAt S0 q0 x1 x2)), S0) := by
  obtain ⟨r9, h⟩ : ∃ r9, F_X4_findingAt S0 q0 x1 x2 = r9 := ⟨_, rfl⟩
  rw [h]
  unfold F_X4_findingAt at h
  refine xM_of (own := "GraveOrder$Sheet") (by decide) rfl (Nat.le_of_ble_eq_true rfl) (fun Γ C => ?_)
  refine x_sub 0 [0, 1, 2] (lv' := [(0, .ref (a q0)), (1, .int x1), (2, .int x2)]) rfl ?_
  refine x_aload_n 0 C dX4_findingAt_0 rfl 0 rfl ?_
  refine gX4_lost 1 C hq0 kw_263 dX4_findingAt_1 ?_
  refine x_if_eq 4 C 9 dX4_findingAt_4 rfl h (fun h => ?_) (fun h => ?_)
  · refine x_aload_n 9 C dX4_findingAt_9 rfl 0 rfl ?_
    refine gX4_form 10 C hq0 kw_265 dX4_findingAt_10 ?_
    refine x_iload_n 13 C dX4_findingAt_13 rfl 1 rfl ?_
    refine x_icmp_eq 14 C 19 dX4_findingAt_14 rfl h (fun h => ?_) (fun h => ?_)
    · refine x_iload_n 19 C dX4_findingAt_19 rfl 2 rfl ?_
      refine x_if_lt 20 C 31 dX4_findingAt_20 rfl h (fun h => ?_) (fun h => ?_)
      · refine x_iconst 31 C dX4_findingAt_31 ci_2 ?_
        refine x_goto 32 C 36 dX4_findingAt_32 rfl ?_
        exact x_iret 36 C dX4_findingAt_36 h rfl
      · refine x_iload_n 23 C dX4_findingAt_23 rfl 2 rfl ?_
        refine x_aload_n 24 C dX4_findingAt_24 rfl 0 rfl ?_
        refine gX4_size 25 C hq0 kw_267 dX4_findingAt_25 ?_
        refine x_icmp_lt 28 C 35 dX4_findingAt_28 rfl h (fun h => ?_) (fun h => ?_)
        · refine x_iconst 35 C dX4_findingAt_35 ci_0 ?_
          exact x_iret 36 C dX4_findingAt_36 h rfl
        · refine x_iconst 31 C dX4_findingAt_31 ci_2 ?_
          refine x_goto 32 C 36 dX4_findingAt_32 rfl ?_
          exact x_iret 36 C dX4_findingAt_36 h rfl
    · refine x_iconst 17 C dX4_findingAt_17 ci_3 ?_
      exact x_iret 18 C dX4_findingAt_18 h rfl
  · refine x_iconst 7 C dX4_findingAt_7 ci_1 ?_
    exact x_iret 8 C dX4_findingAt_8 h rfl
/-! GraveOrder$Sheet.holdsRun (II)Z -/
def F_X4_holdsRun (S0 : XSt) (q0 : Nat) (x1 : Int32) (x2 : Int32) : Int32 :=
  (if x1 < 0 then 0 else (if x2 < 0 then 0 else (if ((S0 q0 3) - x2) < x1 then 0 else 1)))
theorem Z_X4_holdsRun (S0 : XSt) (q0 : Nat) (x1 : Int32) (x2 : Int32) : xbool (F_X4_holdsRun S0 q0 x1 x2) = true := by
  unfold F_X4_holdsRun
  repeat' split
  all_goals first | rfl | exact Z_X6_within _ _ _ | exact Z_X7_in _ _ _ | apply Z_X7_is
abbrev rm_X4_holdsRun : Room := { frames := 0, cells := 0, slots := 0, locals := 0 }
set_option maxRecDepth 100000 in
set_option maxHeartbeats 4000000 in
theorem M_X4_holdsRun (l : Launch) (D : va_G) (a : Nat → Nat) (b : Nat → ClassId) (S0 : XSt) (q0 : Nat) (x1 : Int32) (x2 : Int32) (hq0 : shC q0 = true) : xM l (ωC D a b) yX4_holdsRun cX4_holdsRun 3 (some .boolean) rm_X4_holdsRun [.ref (a q0), .int x1, .int x2] S0 (some (.int (F_X4_holdsRun S0 q0 x1 x2)), S0) := by
  obtain ⟨r9, h⟩ : ∃ r9, F_X4_holdsRun S0 q0 x1 x2 = r9 := ⟨_, rfl⟩
  rw [h]
  unfold F_X4_holdsRun at h
  refine xM_of (own := "GraveOrder$Sheet") (by decide) rfl (Nat.le_of_ble_eq_true rfl) (fun Γ C => ?_)
  refine x_sub 0 [0, 1, 2] (lv' := [(0, .ref (a q0)), (1, .int x1), (2, .int x2)]) rfl ?_
  refine x_iload_n 0 C dX4_holdsRun_0 rfl 1 rfl ?_
  refine x_if_lt 1 C 22 dX4_holdsRun_1 rfl h (fun h => ?_) (fun h => ?_)
  · refine x_iconst 22 C dX4_holdsRun_22 ci_0 ?_
    exact x_zret 23 C dX4_holdsRun_23 rfl h rfl
  · refine x_iload_n 4 C dX4_holdsRun_4 rfl 2 rfl ?_
    refine x_if_lt 5 C 22 dX4_holdsRun_5 rfl h (fun h => ?_) (fun h => ?_)
    · refine x_iconst 22 C dX4_holdsRun_22 ci_0 ?_
      exact x_zret 23 C dX4_holdsRun_23 rfl h rfl
    · refine x_iload_n 8 C dX4_holdsRun_8 rfl 1 rfl ?_
      refine x_aload_n 9 C dX4_holdsRun_9 rfl 0 rfl ?_
      refine gX4_size 10 C hq0 kw_267 dX4_holdsRun_10 ?_
      refine x_iload_n 13 C dX4_holdsRun_13 rfl 2 rfl ?_
      refine x_isub 14 C dX4_holdsRun_14 ?_
      refine x_icmp_gt 15 C 22 dX4_holdsRun_15 rfl h (fun h => ?_) (fun h => ?_)
      · refine x_iconst 22 C dX4_holdsRun_22 ci_0 ?_
        exact x_zret 23 C dX4_holdsRun_23 rfl h rfl
      · refine x_iconst 18 C dX4_holdsRun_18 ci_1 ?_
        refine x_goto 19 C 23 dX4_holdsRun_19 rfl ?_
        exact x_zret 23 C dX4_holdsRun_23 rfl h rfl
/-! GraveOrder$Sheet.store (II)V -/
def F_X4_store (S0 : XSt) (q0 : Nat) (x1 : Int32) (x2 : Int32) : (Option XSt) :=
  (if (S0 q0 2) = 0 then (if xin x1 40 = true then (xlet (xst S0 (q0 + 4) (xti x1) ((x2).toInt8.toInt32)) fun S6 => (some S6)) else none) else (if (S0 q0 2) = 1 then (if xin x1 40 = true then (xlet (xst S0 (q0 + 4) (xti x1) ((x2).toInt16.toInt32)) fun S4 => (some S4)) else none) else (if xin x1 40 = true then (xlet (xst S0 (q0 + 4) (xti x1) x2) fun S2 => (some S2)) else none)))
abbrev rm_X4_store : Room := { frames := 0, cells := 0, slots := 0, locals := 0 }
set_option maxRecDepth 100000 in
set_option maxHeartbeats 4000000 in
theorem M_X4_store (l : Launch) (D : va_G) (a : Nat → Nat) (b : Nat → ClassId) (S0 : XSt) (q0 : Nat) (x1 : Int32) (x2 : Int32) (hq0 : shC q0 = true) {S9 : XSt} (h : F_X4_store S0 q0 x1 x2 = some S9) : xM l (ωC D a b) yX4_store cX4_store 3 none rm_X4_store [.ref (a q0), .int x1, .int x2] S0 (none, S9) := by
  unfold F_X4_store at h
  refine xM_of (own := "GraveOrder$Sheet") (by decide) rfl (Nat.le_of_ble_eq_true rfl) (fun Γ C => ?_)
  refine x_sub 0 [0, 1, 2] (lv' := [(0, .ref (a q0)), (1, .int x1), (2, .int x2)]) rfl ?_
  refine x_aload_n 0 C dX4_store_0 rfl 0 rfl ?_
  refine gX4_form 1 C hq0 kw_265 dX4_store_1 ?_
  refine x_if_ne 4 C 18 dX4_store_4 rfl h (fun h => ?_) (fun h => ?_)
  · refine x_aload_n 18 C dX4_store_18 rfl 0 rfl ?_
    refine gX4_items 19 C hq0 kw_261 dX4_store_19 ?_
    refine x_iload_n 22 C dX4_store_22 rfl 1 rfl ?_
    refine x_aload_n 23 C dX4_store_23 rfl 0 rfl ?_
    refine gX4_form 24 C hq0 kw_265 dX4_store_24 ?_
    refine x_iconst 27 C dX4_store_27 ci_1 ?_
    refine x_icmp_ne 28 C 36 dX4_store_28 rfl h (fun h => ?_) (fun h => ?_)
    · refine x_iload_n 36 C dX4_store_36 rfl 2 rfl ?_
      obtain ⟨hg1, h⟩ := xif_some h
      refine c_iast 37 C (n := 40) (shC_items hq0) hg1 dX4_store_37 ?_
      refine x_topS h (fun S2 h => ?_)
      exact x_vret 38 C dX4_store_38 (Option.some.inj h)
    · refine x_iload_n 31 C dX4_store_31 rfl 2 rfl ?_
      refine x_i2s 32 C dX4_store_32 ?_
      refine x_goto 33 C 37 dX4_store_33 rfl ?_
      obtain ⟨hg3, h⟩ := xif_some h
      refine c_iast 37 C (n := 40) (shC_items hq0) hg3 dX4_store_37 ?_
      refine x_topS h (fun S4 h => ?_)
      exact x_vret 38 C dX4_store_38 (Option.some.inj h)
  · refine x_aload_n 7 C dX4_store_7 rfl 0 rfl ?_
    refine gX4_items 8 C hq0 kw_261 dX4_store_8 ?_
    refine x_iload_n 11 C dX4_store_11 rfl 1 rfl ?_
    refine x_iload_n 12 C dX4_store_12 rfl 2 rfl ?_
    refine x_i2b 13 C dX4_store_13 ?_
    obtain ⟨hg5, h⟩ := xif_some h
    refine c_iast 14 C (n := 40) (shC_items hq0) hg5 dX4_store_14 ?_
    refine x_topS h (fun S6 h => ?_)
    refine x_goto 15 C 38 dX4_store_15 rfl ?_
    exact x_vret 38 C dX4_store_38 (Option.some.inj h)
/-! GraveOrder$Yard.dig (II)I -/
def F_X5_dig (S0 : XSt) (x1 : Int32) (x2 : Int32) : (Option (Int32 × XSt)) :=
  (if xin (S0 1 4) 8 = true then (xlet (xst S0 7 (xti (S0 1 4)) x1) fun S2 => (if xin (S2 1 4) 8 = true then (xlet (xst S2 8 (xti (S2 1 4)) x2) fun S4 => (xlet (xst S4 1 4 ((S4 1 4) + (1 : Int32))) fun S5 => (some (((S5 1 4) - (1 : Int32)), S5)))) else none)) else none)
abbrev rm_X5_dig : Room := { frames := 0, cells := 0, slots := 0, locals := 0 }
set_option maxRecDepth 100000 in
set_option maxHeartbeats 4000000 in
theorem M_X5_dig (l : Launch) (D : va_G) (a : Nat → Nat) (b : Nat → ClassId) (S0 : XSt) (x1 : Int32) (x2 : Int32)  {r9 : Int32} {S9 : XSt} (h : F_X5_dig S0 x1 x2 = some (r9, S9)) : xM l (ωC D a b) yX5_dig cX5_dig 3 (some .int) rm_X5_dig [.ref (a 1), .int x1, .int x2] S0 (some (.int r9), S9) := by
  unfold F_X5_dig at h
  refine xM_of (own := "GraveOrder$Yard") (by decide) rfl (Nat.le_of_ble_eq_true rfl) (fun Γ C => ?_)
  refine x_sub 0 [0, 1, 2] (lv' := [(0, .ref (a 1)), (1, .int x1), (2, .int x2)]) rfl ?_
  refine x_aload_n 0 C dX5_dig_0 rfl 0 rfl ?_
  refine gX5_from 1 C kw_90 dX5_dig_1 ?_
  refine x_aload_n 4 C dX5_dig_4 rfl 0 rfl ?_
  refine gX5_graves 5 C kw_103 dX5_dig_5 ?_
  refine x_iload_n 8 C dX5_dig_8 rfl 1 rfl ?_
  obtain ⟨hg1, h⟩ := xif_some h
  refine c_iast 9 C (n := 8) rfl hg1 dX5_dig_9 ?_
  refine x_topS h (fun S2 h => ?_)
  refine x_aload_n 10 C dX5_dig_10 rfl 0 rfl ?_
  refine gX5_to 11 C kw_93 dX5_dig_11 ?_
  refine x_aload_n 14 C dX5_dig_14 rfl 0 rfl ?_
  refine gX5_graves 15 C kw_103 dX5_dig_15 ?_
  refine x_iload_n 18 C dX5_dig_18 rfl 2 rfl ?_
  obtain ⟨hg3, h⟩ := xif_some h
  refine c_iast 19 C (n := 8) rfl hg3 dX5_dig_19 ?_
  refine x_topS h (fun S4 h => ?_)
  refine x_aload_n 20 C dX5_dig_20 rfl 0 rfl ?_
  refine x_dup 21 C dX5_dig_21 rfl ?_
  refine gX5_graves 22 C kw_103 dX5_dig_22 ?_
  refine x_iconst 25 C dX5_dig_25 ci_1 ?_
  refine x_iadd 26 C dX5_dig_26 ?_
  refine pX5_graves 27 C kw_103 dX5_dig_27 ?_
  refine x_topS h (fun S5 h => ?_)
  refine x_aload_n 30 C dX5_dig_30 rfl 0 rfl ?_
  refine gX5_graves 31 C kw_103 dX5_dig_31 ?_
  refine x_iconst 34 C dX5_dig_34 ci_1 ?_
  refine x_isub 35 C dX5_dig_35 ?_
  exact x_iret 36 C dX5_dig_36 (Prod.mk.inj (Option.some.inj h)).1 (Prod.mk.inj (Option.some.inj h)).2
/-! GraveOrder$Yard.reweigh (II)I -/
def F_X5_reweigh (S0 : XSt) (x1 : Int32) (x2 : Int32) : (Option (Int32 × XSt)) :=
  (xlet (F_X5_weigh S0 ((1 : Int32) <<< (x1 &&& 31))) fun v3_1 => (xlet (xst S0 1 7 (((S0 1 7) &&& (((1 : Int32) <<< (x1 &&& 31)) ^^^ (-1 : Int32))) ||| ((x2 &&& (1 : Int32)) <<< (x1 &&& 31)))) fun S2 => (xlet (xst S2 1 8 (((S2 1 8) &&& (((1 : Int32) <<< (x1 &&& 31)) ^^^ (-1 : Int32))) ||| ((x2 >>> ((1 : Int32) &&& 31)) <<< (x1 &&& 31)))) fun S3 => (some (v3_1, S3)))))
abbrev rm_X5_reweigh : Room := { frames := 2, cells := 0, slots := 0, locals := 41 }
set_option maxRecDepth 100000 in
set_option maxHeartbeats 4000000 in
theorem M_X5_reweigh (l : Launch) (D : va_G) (a : Nat → Nat) (b : Nat → ClassId) (S0 : XSt) (x1 : Int32) (x2 : Int32)  {r9 : Int32} {S9 : XSt} (h : F_X5_reweigh S0 x1 x2 = some (r9, S9)) : xM l (ωC D a b) yX5_reweigh cX5_reweigh 4 (some .int) rm_X5_reweigh [.ref (a 1), .int x1, .int x2] S0 (some (.int r9), S9) := by
  unfold F_X5_reweigh at h
  refine xM_of (own := "GraveOrder$Yard") (by decide) rfl (Nat.le_of_ble_eq_true rfl) (fun Γ C => ?_)
  refine x_sub 0 [0, 1, 2] (lv' := [(0, .ref (a 1)), (1, .int x1), (2, .int x2)]) rfl ?_
  refine x_aload_n 0 C dX5_reweigh_0 rfl 0 rfl ?_
  refine x_iconst 1 C dX5_reweigh_1 ci_1 ?_
  refine x_iload_n 2 C dX5_reweigh_2 rfl 1 rfl ?_
  refine x_ishl 3 C dX5_reweigh_3 ?_
  refine x_callV 4 C (q0 := 1) (ci := 5) 1 (As := [.int ((1 : Int32) <<< (x1 &&& 31))]) (rest := []) (M_X5_weigh l D a b S0 ((1 : Int32) <<< (x1 &&& 31)) ) (by rfl) rfl kw_333 mv_X5_weigh mh_X5_weigh ⟨rfl, rfl⟩ ⟨Nat.le_of_ble_eq_true rfl, Nat.le_of_ble_eq_true rfl⟩ rfl rfl (Nat.le_of_ble_eq_true rfl) dX5_reweigh_4 ?_
  refine x_top h (fun v3_1 h => ?_)
  refine x_istore_n 7 C (lv' := [(0, .ref (a 1)), (1, .int x1), (2, .int x2), (3, .int v3_1)]) dX5_reweigh_7 rfl (Nat.le_of_ble_eq_true rfl) [1, 2, 3, 0] rfl ?_
  refine x_aload_n 8 C dX5_reweigh_8 rfl 0 rfl ?_
  refine x_aload_n 9 C dX5_reweigh_9 rfl 0 rfl ?_
  refine gX5_weightOnes 10 C kw_113 dX5_reweigh_10 ?_
  refine x_iconst 13 C dX5_reweigh_13 ci_1 ?_
  refine x_iload_n 14 C dX5_reweigh_14 rfl 1 rfl ?_
  refine x_ishl 15 C dX5_reweigh_15 ?_
  refine x_iconst 16 C dX5_reweigh_16 ci_m1 ?_
  refine x_ixor 17 C dX5_reweigh_17 ?_
  refine x_iand 18 C dX5_reweigh_18 ?_
  refine x_iload_n 19 C dX5_reweigh_19 rfl 2 rfl ?_
  refine x_iconst 20 C dX5_reweigh_20 ci_1 ?_
  refine x_iand 21 C dX5_reweigh_21 ?_
  refine x_iload_n 22 C dX5_reweigh_22 rfl 1 rfl ?_
  refine x_ishl 23 C dX5_reweigh_23 ?_
  refine x_ior 24 C dX5_reweigh_24 ?_
  refine pX5_weightOnes 25 C kw_113 dX5_reweigh_25 ?_
  refine x_topS h (fun S2 h => ?_)
  refine x_aload_n 28 C dX5_reweigh_28 rfl 0 rfl ?_
  refine x_aload_n 29 C dX5_reweigh_29 rfl 0 rfl ?_
  refine gX5_weightTwos 30 C kw_115 dX5_reweigh_30 ?_
  refine x_iconst 33 C dX5_reweigh_33 ci_1 ?_
  refine x_iload_n 34 C dX5_reweigh_34 rfl 1 rfl ?_
  refine x_ishl 35 C dX5_reweigh_35 ?_
  refine x_iconst 36 C dX5_reweigh_36 ci_m1 ?_
  refine x_ixor 37 C dX5_reweigh_37 ?_
  refine x_iand 38 C dX5_reweigh_38 ?_
  refine x_iload_n 39 C dX5_reweigh_39 rfl 2 rfl ?_
  refine x_iconst 40 C dX5_reweigh_40 ci_1 ?_
  refine x_ishr 41 C dX5_reweigh_41 ?_
  refine x_iload_n 42 C dX5_reweigh_42 rfl 1 rfl ?_
  refine x_ishl 43 C dX5_reweigh_43 ?_
  refine x_ior 44 C dX5_reweigh_44 ?_
  refine pX5_weightTwos 45 C kw_115 dX5_reweigh_45 ?_
  refine x_topS h (fun S3 h => ?_)
  refine x_iload_n 48 C dX5_reweigh_48 rfl 3 rfl ?_
  exact x_iret 49 C dX5_reweigh_49 (Prod.mk.inj (Option.some.inj h)).1 (Prod.mk.inj (Option.some.inj h)).2
