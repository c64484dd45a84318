/-! GraveOrder$Finds.timeBefore ()I -/
def F_X0_timeBefore (S0 : XSt)  : (Option Int32) :=
  (if (S0 3 4) ≤ 0 then (some 0) else (if xin ((S0 3 4) - (1 : Int32)) 60 = true then (some (S0 12 (xti ((S0 3 4) - (1 : Int32))))) else none))
abbrev rm_X0_timeBefore : Room := { frames := 0, cells := 0, slots := 0, locals := 0 }
set_option maxRecDepth 100000 in
set_option maxHeartbeats 4000000 in
theorem M_X0_timeBefore (l : Launch) (D : va_G) (a : Nat → Nat) (b : Nat → ClassId) (S0 : XSt)   {r9 : Int32} (h : F_X0_timeBefore S0 = some r9) : xM l (ωC D a b) yX0_timeBefore cX0_timeBefore 1 (some .int) rm_X0_timeBefore [.ref (a 3)] S0 (some (.int r9), S0) := by
  unfold F_X0_timeBefore at h
  refine xM_of (own := "GraveOrder$Finds") (by decide) rfl (Nat.le_of_ble_eq_true rfl) (fun Γ C => ?_)
  refine x_sub 0 [0] (lv' := [(0, .ref (a 3))]) rfl ?_
  refine x_aload_n 0 C dX0_timeBefore_0 rfl 0 rfl ?_
  refine gX0_size 1 C kw_162 dX0_timeBefore_1 ?_
  refine x_if_le 4 C 21 dX0_timeBefore_4 rfl h (fun h => ?_) (fun h => ?_)
  · refine x_iconst 21 C dX0_timeBefore_21 ci_0 ?_
    exact x_iret 22 C dX0_timeBefore_22 (Option.some.inj h) rfl
  · refine x_aload_n 7 C dX0_timeBefore_7 rfl 0 rfl ?_
    refine gX0_times 8 C kw_158 dX0_timeBefore_8 ?_
    refine x_aload_n 11 C dX0_timeBefore_11 rfl 0 rfl ?_
    refine gX0_size 12 C kw_162 dX0_timeBefore_12 ?_
    refine x_iconst 15 C dX0_timeBefore_15 ci_1 ?_
    refine x_isub 16 C dX0_timeBefore_16 ?_
    obtain ⟨hg1, h⟩ := xif_some h
    refine c_iald 17 C (n := 60) rfl hg1 dX0_timeBefore_17 ?_
    refine x_goto 18 C 22 dX0_timeBefore_18 rfl ?_
    exact x_iret 22 C dX0_timeBefore_22 (Option.some.inj h) rfl
/-! GraveOrder$Finds.keep (IIIZ)Z -/
def F_X0_keep (S0 : XSt) (x1 : Int32) (x2 : Int32) (x3 : Int32) (x4 : Int32) : (Option (Int32 × XSt)) :=
  (if (S0 3 4) < 60 then (if xin (S0 3 4) 60 = true then (xlet (xst S0 12 (xti (S0 3 4)) x1) fun S2 => (if xin (S2 3 4) 60 = true then (xlet (xst S2 13 (xti (S2 3 4)) x2) fun S4 => (if xin (S4 3 4) 60 = true then (xlet (xst S4 14 (xti (S4 3 4)) x3) fun S6 => (if xin (S6 3 4) 60 = true then (xlet (xst S6 15 (xti (S6 3 4)) (vp_nar .boolean x4)) fun S8 => (xlet (xst S8 3 4 ((S8 3 4) + (1 : Int32))) fun S9 => (some (1, S9)))) else none)) else none)) else none)) else none) else (some (0, S0)))
abbrev rm_X0_keep : Room := { frames := 0, cells := 0, slots := 0, locals := 0 }
set_option maxRecDepth 100000 in
set_option maxHeartbeats 4000000 in
theorem M_X0_keep (l : Launch) (D : va_G) (a : Nat → Nat) (b : Nat → ClassId) (S0 : XSt) (x1 : Int32) (x2 : Int32) (x3 : Int32) (x4 : Int32)  {r9 : Int32} {S9 : XSt} (h : F_X0_keep S0 x1 x2 x3 x4 = some (r9, S9)) : xM l (ωC D a b) yX0_keep cX0_keep 5 (some .boolean) rm_X0_keep [.ref (a 3), .int x1, .int x2, .int x3, .int x4] S0 (some (.int r9), S9) := by
  unfold F_X0_keep at h
  refine xM_of (own := "GraveOrder$Finds") (by decide) rfl (Nat.le_of_ble_eq_true rfl) (fun Γ C => ?_)
  refine x_sub 0 [0, 1, 2, 3, 4] (lv' := [(0, .ref (a 3)), (1, .int x1), (2, .int x2), (3, .int x3), (4, .int x4)]) rfl ?_
  refine x_aload_n 0 C dX0_keep_0 rfl 0 rfl ?_
  refine gX0_size 1 C kw_162 dX0_keep_1 ?_
  refine x_bipush 4 C dX0_keep_4 cb_60 ?_
  refine x_icmp_lt 6 C 11 dX0_keep_6 rfl h (fun h => ?_) (fun h => ?_)
  · refine x_aload_n 11 C dX0_keep_11 rfl 0 rfl ?_
    refine gX0_times 12 C kw_158 dX0_keep_12 ?_
    refine x_aload_n 15 C dX0_keep_15 rfl 0 rfl ?_
    refine gX0_size 16 C kw_162 dX0_keep_16 ?_
    refine x_iload_n 19 C dX0_keep_19 rfl 1 rfl ?_
    obtain ⟨hg1, h⟩ := xif_some h
    refine c_iast 20 C (n := 60) rfl hg1 dX0_keep_20 ?_
    refine x_topS h (fun S2 h => ?_)
    refine x_aload_n 21 C dX0_keep_21 rfl 0 rfl ?_
    refine gX0_graves 22 C kw_159 dX0_keep_22 ?_
    refine x_aload_n 25 C dX0_keep_25 rfl 0 rfl ?_
    refine gX0_size 26 C kw_162 dX0_keep_26 ?_
    refine x_iload_n 29 C dX0_keep_29 rfl 2 rfl ?_
    obtain ⟨hg3, h⟩ := xif_some h
    refine c_iast 30 C (n := 60) rfl hg3 dX0_keep_30 ?_
    refine x_topS h (fun S4 h => ?_)
    refine x_aload_n 31 C dX0_keep_31 rfl 0 rfl ?_
    refine gX0_kinds 32 C kw_160 dX0_keep_32 ?_
    refine x_aload_n 35 C dX0_keep_35 rfl 0 rfl ?_
    refine gX0_size 36 C kw_162 dX0_keep_36 ?_
    refine x_iload_n 39 C dX0_keep_39 rfl 3 rfl ?_
    obtain ⟨hg5, h⟩ := xif_some h
    refine c_iast 40 C (n := 60) rfl hg5 dX0_keep_40 ?_
    refine x_topS h (fun S6 h => ?_)
    refine x_aload_n 41 C dX0_keep_41 rfl 0 rfl ?_
    refine gX0_there 42 C kw_161 dX0_keep_42 ?_
    refine x_aload_n 45 C dX0_keep_45 rfl 0 rfl ?_
    refine gX0_size 46 C kw_162 dX0_keep_46 ?_
    refine x_iload 49 C dX0_keep_49 4 rfl ?_
    obtain ⟨hg7, h⟩ := xif_some h
    refine c_zast15 51 C hg7 dX0_keep_51 ?_
    refine x_topS h (fun S8 h => ?_)
    refine x_aload_n 52 C dX0_keep_52 rfl 0 rfl ?_
    refine x_dup 53 C dX0_keep_53 rfl ?_
    refine gX0_size 54 C kw_162 dX0_keep_54 ?_
    refine x_iconst 57 C dX0_keep_57 ci_1 ?_
    refine x_iadd 58 C dX0_keep_58 ?_
    refine pX0_size 59 C kw_162 dX0_keep_59 ?_
    refine x_topS h (fun S9 h => ?_)
    refine x_iconst 62 C dX0_keep_62 ci_1 ?_
    exact x_zret 63 C dX0_keep_63 rfl (Prod.mk.inj (Option.some.inj h)).1 (Prod.mk.inj (Option.some.inj h)).2
  · refine x_iconst 9 C dX0_keep_9 ci_0 ?_
    exact x_zret 10 C dX0_keep_10 rfl (Prod.mk.inj (Option.some.inj h)).1 (Prod.mk.inj (Option.some.inj h)).2
/-! GraveOrder$Finds.layInto ([II)V -/
def B_X0_layInto_2 (qq1 nn1 : Nat) (c2 : Int32) (kx : XSt → Option XSt) (rc : (Int32 × XSt) → Option XSt) (y3 : Int32) (S1 : XSt) : Option XSt :=
  (if 8 ≤ y3 then kx S1 else (if xin y3 nn1 = true then (xlet (xst S1 qq1 (xti y3) 0) fun S2 => (xlet (y3 + 1) fun v3_3 => rc (v3_3, S2))) else none))
def B_X0_layInto_20 (qq1 nn1 : Nat) (c2 : Int32) (kx : XSt → Option XSt) (rc : (Int32 × XSt) → Option XSt) (y3 : Int32) (S1 : XSt) : Option XSt :=
  (if (S1 3 4) ≤ y3 then kx S1 else (if xin y3 60 = true then (if c2 < (S1 12 (xti y3)) then kx S1 else (if xin y3 60 = true then (xlet ((1 : Int32) <<< ((S1 14 (xti y3)) &&& 31)) fun v4_7 => (if xin y3 60 = true then (if xin (S1 13 (xti y3)) nn1 = true then (xlet (S1 qq1 (xti (S1 13 (xti y3)))) fun v5_10 => (if xin y3 60 = true then (if xin y3 60 = true then (if (S1 15 (xti y3)) = 0 then (if xin (S1 13 (xti y3)) nn1 = true then (xlet (xst S1 qq1 (xti (S1 13 (xti y3))) (v5_10 &&& (v4_7 ^^^ (-1 : Int32)))) fun S14 => (xlet (y3 + 1) fun v3_15 => rc (v3_15, S14))) else none) else (if xin (S1 13 (xti y3)) nn1 = true then (xlet (xst S1 qq1 (xti (S1 13 (xti y3))) (v5_10 ||| v4_7)) fun S17 => (xlet (y3 + 1) fun v3_18 => rc (v3_18, S17))) else none)) else none) else none)) else none) else none)) else none)) else none))
def F_X0_layInto (S0 : XSt) (q1 n1 : Nat) (x2 : Int32) : (Option XSt) :=
  (xlp (fun k rc t => B_X0_layInto_2 q1 n1  x2 k rc t.1 t.2) (fun e4 => (xlp (fun k rc t => B_X0_layInto_20 q1 n1  x2 k rc t.1 t.2) (fun e19 => (some e19)) XFU (0, e4))) XFU (0, S0))
abbrev rm_X0_layInto : Room := { frames := 0, cells := 0, slots := 0, locals := 0 }
set_option maxRecDepth 100000 in
set_option maxHeartbeats 4000000 in
theorem w_X0_layInto_2 (l : Launch) (D : va_G) (a : Nat → Nat) (b : Nat → ClassId) (S0 : XSt) {Γ : XG XSt} {S9 : XSt} (C : Cx (ωC D a b) Γ cX0_layInto "GraveOrder$Finds" none l rm_X0_layInto 6 (none, S9)) (qq1 nn1 : Nat) (hqq1 : iaC qq1 nn1 = true) (c2 : Int32)  (kx : XSt → Option XSt) (rc : (Int32 × XSt) → Option XSt) (hk : ∀ e, kx e = some S9 → XAt (ωC D a b) Γ 18 [(0, .ref (a 3)), (1, .ref (a qq1)), (2, .int c2)] [] e) (ih : ∀ t, rc t = some S9 → XAt (ωC D a b) Γ 2 [(0, .ref (a 3)), (1, .ref (a qq1)), (2, .int c2), (3, .int t.1)] [] t.2) (y3 : Int32) (S1 : XSt) (h : B_X0_layInto_2 qq1 nn1  c2 kx rc y3 S1 = some S9) : XAt (ωC D a b) Γ 2 [(0, .ref (a 3)), (1, .ref (a qq1)), (2, .int c2), (3, .int y3)] [] S1 := by
  unfold B_X0_layInto_2 at h
  refine x_iload_n 2 C dX0_layInto_2 rfl 3 rfl ?_
  refine x_bipush 3 C dX0_layInto_3 cb_8 ?_
  refine x_icmp_ge 5 C 18 dX0_layInto_5 rfl h (fun h => ?_) (fun h => ?_)
  · exact x_sub 18 [0, 1, 2] rfl (hk _ h)
  · refine x_aload_n 8 C dX0_layInto_8 rfl 1 rfl ?_
    refine x_iload_n 9 C dX0_layInto_9 rfl 3 rfl ?_
    refine x_iconst 10 C dX0_layInto_10 ci_0 ?_
    obtain ⟨hg1, h⟩ := xif_some h
    refine c_iast 11 C (n := nn1) hqq1 hg1 dX0_layInto_11 ?_
    refine x_topS h (fun S2 h => ?_)
    refine x_iinc 12 C (L := fun v3_3 => [(0, .ref (a 3)), (1, .ref (a qq1)), (2, .int c2), (3, .int v3_3)]) dX0_layInto_12 3 rfl ci_1 (Nat.le_of_ble_eq_true rfl) [1, 2, 3, 0] (fun _ => rfl) h (fun v3_3 h => ?_)
    refine x_goto 15 C 2 dX0_layInto_15 rfl ?_
    exact ih _ h
set_option maxRecDepth 100000 in
set_option maxHeartbeats 4000000 in
theorem w_X0_layInto_20 (l : Launch) (D : va_G) (a : Nat → Nat) (b : Nat → ClassId) (S0 : XSt) {Γ : XG XSt} {S9 : XSt} (C : Cx (ωC D a b) Γ cX0_layInto "GraveOrder$Finds" none l rm_X0_layInto 6 (none, S9)) (qq1 nn1 : Nat) (hqq1 : iaC qq1 nn1 = true) (c2 : Int32)  (kx : XSt → Option XSt) (rc : (Int32 × XSt) → Option XSt) (hk : ∀ e, kx e = some S9 → XAt (ωC D a b) Γ 96 [] [] e) (ih : ∀ t, rc t = some S9 → XAt (ωC D a b) Γ 20 [(0, .ref (a 3)), (1, .ref (a qq1)), (2, .int c2), (3, .int t.1)] [] t.2) (y3 : Int32) (S1 : XSt) (h : B_X0_layInto_20 qq1 nn1  c2 kx rc y3 S1 = some S9) : XAt (ωC D a b) Γ 20 [(0, .ref (a 3)), (1, .ref (a qq1)), (2, .int c2), (3, .int y3)] [] S1 := by
  unfold B_X0_layInto_20 at h
  refine x_iload_n 20 C dX0_layInto_20 rfl 3 rfl ?_
  refine x_aload_n 21 C dX0_layInto_21 rfl 0 rfl ?_
  refine gX0_size 22 C kw_162 dX0_layInto_22 ?_
  refine x_icmp_ge 25 C 96 dX0_layInto_25 rfl h (fun h => ?_) (fun h => ?_)
  · exact x_sub 96 [] rfl (hk _ h)
  · refine x_aload_n 28 C dX0_layInto_28 rfl 0 rfl ?_
    refine gX0_times 29 C kw_158 dX0_layInto_29 ?_
    refine x_iload_n 32 C dX0_layInto_32 rfl 3 rfl ?_
    obtain ⟨hg5, h⟩ := xif_some h
    refine c_iald 33 C (n := 60) rfl hg5 dX0_layInto_33 ?_
    refine x_iload_n 34 C dX0_layInto_34 rfl 2 rfl ?_
    refine x_icmp_gt 35 C 96 dX0_layInto_35 rfl h (fun h => ?_) (fun h => ?_)
    · exact x_sub 96 [] rfl (hk _ h)
    · refine x_iconst 38 C dX0_layInto_38 ci_1 ?_
      refine x_aload_n 39 C dX0_layInto_39 rfl 0 rfl ?_
      refine gX0_kinds 40 C kw_160 dX0_layInto_40 ?_
      refine x_iload_n 43 C dX0_layInto_43 rfl 3 rfl ?_
      obtain ⟨hg6, h⟩ := xif_some h
      refine c_iald 44 C (n := 60) rfl hg6 dX0_layInto_44 ?_
      refine x_ishl 45 C dX0_layInto_45 ?_
      refine x_top h (fun v4_7 h => ?_)
      refine x_istore 46 C (lv' := [(0, .ref (a 3)), (1, .ref (a qq1)), (2, .int c2), (3, .int y3), (4, .int v4_7)]) dX0_layInto_46 (Nat.le_of_ble_eq_true rfl) [1, 2, 3, 4, 0] rfl ?_
      refine x_aload_n 48 C dX0_layInto_48 rfl 1 rfl ?_
      refine x_aload_n 49 C dX0_layInto_49 rfl 0 rfl ?_
      refine gX0_graves 50 C kw_159 dX0_layInto_50 ?_
      refine x_iload_n 53 C dX0_layInto_53 rfl 3 rfl ?_
      obtain ⟨hg8, h⟩ := xif_some h
      refine c_iald 54 C (n := 60) rfl hg8 dX0_layInto_54 ?_
      obtain ⟨hg9, h⟩ := xif_some h
      refine c_iald 55 C (n := nn1) hqq1 hg9 dX0_layInto_55 ?_
      refine x_top h (fun v5_10 h => ?_)
      refine x_istore 56 C (lv' := [(0, .ref (a 3)), (1, .ref (a qq1)), (2, .int c2), (3, .int y3), (4, .int v4_7), (5, .int v5_10)]) dX0_layInto_56 (Nat.le_of_ble_eq_true rfl) [1, 2, 3, 4, 5, 0] rfl ?_
      refine x_aload_n 58 C dX0_layInto_58 rfl 1 rfl ?_
      refine x_aload_n 59 C dX0_layInto_59 rfl 0 rfl ?_
      refine gX0_graves 60 C kw_159 dX0_layInto_60 ?_
      refine x_iload_n 63 C dX0_layInto_63 rfl 3 rfl ?_
      obtain ⟨hg11, h⟩ := xif_some h
      refine c_iald 64 C (n := 60) rfl hg11 dX0_layInto_64 ?_
      refine x_aload_n 65 C dX0_layInto_65 rfl 0 rfl ?_
      refine gX0_there 66 C kw_161 dX0_layInto_66 ?_
      refine x_iload_n 69 C dX0_layInto_69 rfl 3 rfl ?_
      obtain ⟨hg12, h⟩ := xif_some h
      refine c_zald15 70 C hg12 dX0_layInto_70 ?_
      refine x_if_eq 71 C 82 dX0_layInto_71 rfl h (fun h => ?_) (fun h => ?_)
      · refine x_iload 82 C dX0_layInto_82 5 rfl ?_
        refine x_iload 84 C dX0_layInto_84 4 rfl ?_
        refine x_iconst 86 C dX0_layInto_86 ci_m1 ?_
        refine x_ixor 87 C dX0_layInto_87 ?_
        refine x_iand 88 C dX0_layInto_88 ?_
        obtain ⟨hg13, h⟩ := xif_some h
        refine c_iast 89 C (n := nn1) hqq1 hg13 dX0_layInto_89 ?_
        refine x_topS h (fun S14 h => ?_)
        refine x_iinc 90 C (L := fun v3_15 => [(0, .ref (a 3)), (1, .ref (a qq1)), (2, .int c2), (3, .int v3_15)]) dX0_layInto_90 3 rfl ci_1 (Nat.le_of_ble_eq_true rfl) [1, 2, 3, 0] (fun _ => rfl) h (fun v3_15 h => ?_)
        refine x_goto 93 C 20 dX0_layInto_93 rfl ?_
        exact ih _ h
      · refine x_iload 74 C dX0_layInto_74 5 rfl ?_
        refine x_iload 76 C dX0_layInto_76 4 rfl ?_
        refine x_ior 78 C dX0_layInto_78 ?_
        refine x_goto 79 C 89 dX0_layInto_79 rfl ?_
        obtain ⟨hg16, h⟩ := xif_some h
        refine c_iast 89 C (n := nn1) hqq1 hg16 dX0_layInto_89 ?_
        refine x_topS h (fun S17 h => ?_)
        refine x_iinc 90 C (L := fun v3_18 => [(0, .ref (a 3)), (1, .ref (a qq1)), (2, .int c2), (3, .int v3_18)]) dX0_layInto_90 3 rfl ci_1 (Nat.le_of_ble_eq_true rfl) [1, 2, 3, 0] (fun _ => rfl) h (fun v3_18 h => ?_)
        refine x_goto 93 C 20 dX0_layInto_93 rfl ?_
        exact ih _ h
set_option maxRecDepth 100000 in
set_option maxHeartbeats 4000000 in
theorem M_X0_layInto (l : Launch) (D : va_G) (a : Nat → Nat) (b : Nat → ClassId) (S0 : XSt) (q1 n1 : Nat) (x2 : Int32) (hq1 : iaC q1 n1 = true) {S9 : XSt} (h : F_X0_layInto S0 q1 n1 x2 = some S9) : xM l (ωC D a b) yX0_layInto cX0_layInto 6 none rm_X0_layInto [.ref (a 3), .ref (a q1), .int x2] S0 (none, S9) := by
  unfold F_X0_layInto at h
  refine xM_of (own := "GraveOrder$Finds") (by decide) rfl (Nat.le_of_ble_eq_true rfl) (fun Γ C => ?_)
  refine x_sub 0 [0, 1, 2] (lv' := [(0, .ref (a 3)), (1, .ref (a q1)), (2, .int x2)]) rfl ?_
  refine x_iconst 0 C dX0_layInto_0 ci_0 ?_
  refine x_istore_n 1 C (lv' := [(0, .ref (a 3)), (1, .ref (a q1)), (2, .int x2), (3, .int 0)]) dX0_layInto_1 rfl (Nat.le_of_ble_eq_true rfl) [1, 2, 3, 0] rfl ?_
  refine x_loop (E := fun e => XAt (ωC D a b) Γ 18 [(0, .ref (a 3)), (1, .ref (a q1)), (2, .int x2)] [] e) (P := fun t => XAt (ωC D a b) Γ 2 [(0, .ref (a 3)), (1, .ref (a q1)), (2, .int x2), (3, .int t.1)] [] t.2) h (fun e4 h => ?_) (fun kx rc t hk ih h => w_X0_layInto_2 l D a b S0 C q1 n1  hq1  x2 kx rc hk ih t.1 t.2 h)
  refine x_iconst 18 C dX0_layInto_18 ci_0 ?_
  refine x_istore_n 19 C (lv' := [(0, .ref (a 3)), (1, .ref (a q1)), (2, .int x2), (3, .int 0)]) dX0_layInto_19 rfl (Nat.le_of_ble_eq_true rfl) [1, 2, 3, 0] rfl ?_
  refine x_loop (E := fun e => XAt (ωC D a b) Γ 96 [] [] e) (P := fun t => XAt (ωC D a b) Γ 20 [(0, .ref (a 3)), (1, .ref (a q1)), (2, .int x2), (3, .int t.1)] [] t.2) h (fun e19 h => ?_) (fun kx rc t hk ih h => w_X0_layInto_20 l D a b S0 C q1 n1  hq1  x2 kx rc hk ih t.1 t.2 h)
  exact x_vret 96 C dX0_layInto_96 (Option.some.inj h)
/-! GraveOrder$FirstRow.hasAt (II)Z -/
def F_X1_hasAt (S0 : XSt) (x1 : Int32) (x2 : Int32) : (Option Int32) :=
  (if xin x1 8 = true then (if xin (S0 22 (xti x1)) 8 = true then (if (((S0 10 (xti (S0 22 (xti x1)))) >>> (x2 &&& 31)) &&& (1 : Int32)) = 0 then (some 0) else (some 1)) else none) else none)
abbrev rm_X1_hasAt : Room := { frames := 0, cells := 0, slots := 0, locals := 0 }
set_option maxRecDepth 100000 in
set_option maxHeartbeats 4000000 in
theorem M_X1_hasAt (l : Launch) (D : va_G) (a : Nat → Nat) (b : Nat → ClassId) (S0 : XSt) (x1 : Int32) (x2 : Int32)  {r9 : Int32} (h : F_X1_hasAt S0 x1 x2 = some r9) : xM l (ωC D a b) yX1_hasAt cX1_hasAt 3 (some .boolean) rm_X1_hasAt [.ref (a 5), .int x1, .int x2] S0 (some (.int r9), S0) := by
  unfold F_X1_hasAt at h
  refine xM_of (own := "GraveOrder$FirstRow") (by decide) rfl (Nat.le_of_ble_eq_true rfl) (fun Γ C => ?_)
  refine x_sub 0 [0, 1, 2] (lv' := [(0, .ref (a 5)), (1, .int x1), (2, .int x2)]) rfl ?_
  refine x_aload_n 0 C dX1_hasAt_0 rfl 0 rfl ?_
  refine gX1_yard 1 C kw_241 dX1_hasAt_1 ?_
  refine gX5_kinds 4 C kw_100 dX1_hasAt_4 ?_
  refine x_aload_n 7 C dX1_hasAt_7 rfl 0 rfl ?_
  refine gX1_row 8 C kw_242 dX1_hasAt_8 ?_
  refine x_iload_n 11 C dX1_hasAt_11 rfl 1 rfl ?_
  obtain ⟨hg1, h⟩ := xif_some h
  refine c_iald 12 C (n := 8) rfl hg1 dX1_hasAt_12 ?_
  obtain ⟨hg2, h⟩ := xif_some h
  refine c_iald 13 C (n := 8) rfl hg2 dX1_hasAt_13 ?_
  refine x_iload_n 14 C dX1_hasAt_14 rfl 2 rfl ?_
  refine x_ishr 15 C dX1_hasAt_15 ?_
  refine x_iconst 16 C dX1_hasAt_16 ci_1 ?_
  refine x_iand 17 C dX1_hasAt_17 ?_
  refine x_if_eq 18 C 25 dX1_hasAt_18 rfl h (fun h => ?_) (fun h => ?_)
  · refine x_iconst 25 C dX1_hasAt_25 ci_0 ?_
    exact x_zret 26 C dX1_hasAt_26 rfl (Option.some.inj h) rfl
  · refine x_iconst 21 C dX1_hasAt_21 ci_1 ?_
    refine x_goto 22 C 26 dX1_hasAt_22 rfl ?_
    exact x_zret 26 C dX1_hasAt_26 rfl (Option.some.inj h) rfl
/-! GraveOrder$FirstRow.robbedAt (I)Z -/
def F_X1_robbedAt (S0 : XSt) (x1 : Int32) : (Option Int32) :=
  (if xin x1 8 = true then (if (((S0 1 5) >>> ((S0 22 (xti x1)) &&& 31)) &&& (1 : Int32)) = 0 then (some 0) else (some 1)) else none)
abbrev rm_X1_robbedAt : Room := { frames := 0, cells := 0, slots := 0, locals := 0 }
set_option maxRecDepth 100000 in
set_option maxHeartbeats 4000000 in
theorem M_X1_robbedAt (l : Launch) (D : va_G) (a : Nat → Nat) (b : Nat → ClassId) (S0 : XSt) (x1 : Int32)  {r9 : Int32} (h : F_X1_robbedAt S0 x1 = some r9) : xM l (ωC D a b) yX1_robbedAt cX1_robbedAt 2 (some .boolean) rm_X1_robbedAt [.ref (a 5), .int x1] S0 (some (.int r9), S0) := by
  unfold F_X1_robbedAt at h
  refine xM_of (own := "GraveOrder$FirstRow") (by decide) rfl (Nat.le_of_ble_eq_true rfl) (fun Γ C => ?_)
  refine x_sub 0 [0, 1] (lv' := [(0, .ref (a 5)), (1, .int x1)]) rfl ?_
  refine x_aload_n 0 C dX1_robbedAt_0 rfl 0 rfl ?_
  refine gX1_yard 1 C kw_241 dX1_robbedAt_1 ?_
  refine gX5_robbedBits 4 C kw_108 dX1_robbedAt_4 ?_
  refine x_aload_n 7 C dX1_robbedAt_7 rfl 0 rfl ?_
  refine gX1_row 8 C kw_242 dX1_robbedAt_8 ?_
  refine x_iload_n 11 C dX1_robbedAt_11 rfl 1 rfl ?_
  obtain ⟨hg1, h⟩ := xif_some h
  refine c_iald 12 C (n := 8) rfl hg1 dX1_robbedAt_12 ?_
  refine x_ishr 13 C dX1_robbedAt_13 ?_
  refine x_iconst 14 C dX1_robbedAt_14 ci_1 ?_
  refine x_iand 15 C dX1_robbedAt_15 ?_
  refine x_if_eq 16 C 23 dX1_robbedAt_16 rfl h (fun h => ?_) (fun h => ?_)
  · refine x_iconst 23 C dX1_robbedAt_23 ci_0 ?_
    exact x_zret 24 C dX1_robbedAt_24 rfl (Option.some.inj h) rfl
  · refine x_iconst 19 C dX1_robbedAt_19 ci_1 ?_
    refine x_goto 20 C 24 dX1_robbedAt_20 rfl ?_
    exact x_zret 24 C dX1_robbedAt_24 rfl (Option.some.inj h) rfl
/-! GraveOrder$FirstRow.placeOf (I)I -/
def B_X1_placeOf_4 (S0 : XSt) (c1 : Int32) (kx : Int32 → Option Int32) (rc : (Int32 × Int32) → Option Int32) (y2 : Int32) (y3 : Int32) : Option Int32 :=
  (if (S0 1 4) ≤ y3 then kx y2 else (if xin y3 8 = true then (if (S0 22 (xti y3)) = c1 then (xlet (y3 + 1) fun v3_3 => rc (y3, v3_3)) else (xlet (y3 + 1) fun v3_2 => rc (y2, v3_2))) else none))
def F_X1_placeOf (S0 : XSt) (x1 : Int32) : (Option Int32) :=
  (xlp (fun k rc t => B_X1_placeOf_4 S0  x1 k rc t.1 t.2) (fun e4 => (some e4)) XFU (0, 0))
abbrev rm_X1_placeOf : Room := { frames := 0, cells := 0, slots := 0, locals := 0 }
set_option maxRecDepth 100000 in
set_option maxHeartbeats 4000000 in
theorem w_X1_placeOf_4 (l : Launch) (D : va_G) (a : Nat → Nat) (b : Nat → ClassId) (S0 : XSt) {Γ : XG XSt} {r9 : Int32} (C : Cx (ωC D a b) Γ cX1_placeOf "GraveOrder$FirstRow" (some .int) l rm_X1_placeOf 4 (some (.int r9), S0)) (c1 : Int32)  (kx : Int32 → Option Int32) (rc : (Int32 × Int32) → Option Int32) (hk : ∀ e, kx e = some r9 → XAt (ωC D a b) Γ 37 [(2, .int e)] [] S0) (ih : ∀ t, rc t = some r9 → XAt (ωC D a b) Γ 4 [(0, .ref (a 5)), (1, .int c1), (2, .int t.1), (3, .int t.2)] [] S0) (y2 : Int32) (y3 : Int32) (h : B_X1_placeOf_4 S0  c1 kx rc y2 y3 = some r9) : XAt (ωC D a b) Γ 4 [(0, .ref (a 5)), (1, .int c1), (2, .int y2), (3, .int y3)] [] S0 := by
  unfold B_X1_placeOf_4 at h
  refine x_iload_n 4 C dX1_placeOf_4 rfl 3 rfl ?_
  refine x_aload_n 5 C dX1_placeOf_5 rfl 0 rfl ?_
  refine gX1_yard 6 C kw_241 dX1_placeOf_6 ?_
  refine gX5_graves 9 C kw_106 dX1_placeOf_9 ?_
  refine x_icmp_ge 12 C 37 dX1_placeOf_12 rfl h (fun h => ?_) (fun h => ?_)
  · exact x_sub 37 [2] rfl (hk _ h)
  · refine x_aload_n 15 C dX1_placeOf_15 rfl 0 rfl ?_
    refine gX1_row 16 C kw_242 dX1_placeOf_16 ?_
    refine x_iload_n 19 C dX1_placeOf_19 rfl 3 rfl ?_
    obtain ⟨hg1, h⟩ := xif_some h
    refine c_iald 20 C (n := 8) rfl hg1 dX1_placeOf_20 ?_
    refine x_iload_n 21 C dX1_placeOf_21 rfl 1 rfl ?_
    refine x_icmp_ne 22 C 29 dX1_placeOf_22 rfl h (fun h => ?_) (fun h => ?_)
    · refine x_iload_n 29 C dX1_placeOf_29 rfl 2 rfl ?_
      refine x_istore_n 30 C (lv' := [(0, .ref (a 5)), (1, .int c1), (2, .int y2), (3, .int y3)]) dX1_placeOf_30 rfl (Nat.le_of_ble_eq_true rfl) [1, 2, 0, 3] rfl ?_
      refine x_iinc 31 C (L := fun v3_2 => [(0, .ref (a 5)), (1, .int c1), (2, .int y2), (3, .int v3_2)]) dX1_placeOf_31 3 rfl ci_1 (Nat.le_of_ble_eq_true rfl) [1, 2, 3, 0] (fun _ => rfl) h (fun v3_2 h => ?_)
      refine x_goto 34 C 4 dX1_placeOf_34 rfl ?_
      exact ih _ h
    · refine x_iload_n 25 C dX1_placeOf_25 rfl 3 rfl ?_
      refine x_goto 26 C 30 dX1_placeOf_26 rfl ?_
      refine x_istore_n 30 C (lv' := [(0, .ref (a 5)), (1, .int c1), (2, .int y3), (3, .int y3)]) dX1_placeOf_30 rfl (Nat.le_of_ble_eq_true rfl) [1, 2, 0, 3] rfl ?_
      refine x_iinc 31 C (L := fun v3_3 => [(0, .ref (a 5)), (1, .int c1), (2, .int y3), (3, .int v3_3)]) dX1_placeOf_31 3 rfl ci_1 (Nat.le_of_ble_eq_true rfl) [1, 2, 3, 0] (fun _ => rfl) h (fun v3_3 h => ?_)
      refine x_goto 34 C 4 dX1_placeOf_34 rfl ?_
      exact ih _ h
set_option maxRecDepth 100000 in
set_option maxHeartbeats 4000000 in
theorem M_X1_placeOf (l : Launch) (D : va_G) (a : Nat → Nat) (b : Nat → ClassId) (S0 : XSt) (x1 : Int32)  {r9 : Int32} (h : F_X1_placeOf S0 x1 = some r9) : xM l (ωC D a b) yX1_placeOf cX1_placeOf 4 (some .int) rm_X1_placeOf [.ref (a 5), .int x1] S0 (some (.int r9), S0) := by
  unfold F_X1_placeOf at h
  refine xM_of (own := "GraveOrder$FirstRow") (by decide) rfl (Nat.le_of_ble_eq_true rfl) (fun Γ C => ?_)
  refine x_sub 0 [0, 1] (lv' := [(0, .ref (a 5)), (1, .int x1)]) rfl ?_
  refine x_iconst 0 C dX1_placeOf_0 ci_0 ?_
  refine x_istore_n 1 C (lv' := [(0, .ref (a 5)), (1, .int x1), (2, .int 0)]) dX1_placeOf_1 rfl (Nat.le_of_ble_eq_true rfl) [1, 2, 0] rfl ?_
  refine x_iconst 2 C dX1_placeOf_2 ci_0 ?_
  refine x_istore_n 3 C (lv' := [(0, .ref (a 5)), (1, .int x1), (2, .int 0), (3, .int 0)]) dX1_placeOf_3 rfl (Nat.le_of_ble_eq_true rfl) [1, 2, 3, 0] rfl ?_
  refine x_loop (E := fun e => XAt (ωC D a b) Γ 37 [(2, .int e)] [] S0) (P := fun t => XAt (ωC D a b) Γ 4 [(0, .ref (a 5)), (1, .int x1), (2, .int t.1), (3, .int t.2)] [] S0) h (fun e4 h => ?_) (fun kx rc t hk ih h => w_X1_placeOf_4 l D a b S0 C   x1 kx rc hk ih t.1 t.2 h)
  refine x_iload_n 37 C dX1_placeOf_37 rfl 0 rfl ?_
  exact x_iret 38 C dX1_placeOf_38 (Option.some.inj h) rfl
/-! GraveOrder$Yard.canBe ([I)Z -/
def B_X5_canBe_7 (S0 : XSt) (qq1 nn1 : Nat)  (kx : Unit → Option Int32) (rc : (Int32 × Int32 × Int32) → Option Int32) (y2 : Int32) (y3 : Int32) (y4 : Int32) : Option Int32 :=
  (if (S0 1 4) ≤ y4 then kx () else (if xin y4 nn1 = true then (xlet (S0 qq1 (xti y4)) fun v5_2 => (if xin v5_2 8 = true then (xlet (xmax y3 (S0 7 (xti v5_2))) fun v3_4 => (if xin v5_2 8 = true then (if (S0 8 (xti v5_2)) < v3_4 then (some 0) else (if xin v5_2 8 = true then (if ((S0 9 (xti v5_2)) &&& (y2 ^^^ (-1 : Int32))) = 0 then (xlet (y2 ||| ((1 : Int32) <<< (v5_2 &&& 31))) fun v2_7 => (xlet (y4 + 1) fun v4_8 => rc (v2_7, v3_4, v4_8))) else (some 0)) else none)) else none)) else none)) else none))
def F_X5_canBe (S0 : XSt) (q1 n1 : Nat) : (Option Int32) :=
  (xlp (fun k rc t => B_X5_canBe_7 S0 q1 n1   k rc t.1 t.2.1 t.2.2) (fun e9 => (some 1)) XFU (0, 0, 0))
abbrev rm_X5_canBe : Room := { frames := 1, cells := 0, slots := 0, locals := 24 }
set_option maxRecDepth 100000 in
set_option maxHeartbeats 4000000 in
theorem w_X5_canBe_7 (l : Launch) (D : va_G) (a : Nat → Nat) (b : Nat → ClassId) (S0 : XSt) {Γ : XG XSt} {r9 : Int32} (C : Cx (ωC D a b) Γ cX5_canBe "GraveOrder$Yard" (some .boolean) l rm_X5_canBe 6 (some (.int r9), S0)) (qq1 nn1 : Nat) (hqq1 : iaC qq1 nn1 = true)   (kx : Unit → Option Int32) (rc : (Int32 × Int32 × Int32) → Option Int32) (hk : ∀ e, kx e = some r9 → XAt (ωC D a b) Γ 74 [] [] S0) (ih : ∀ t, rc t = some r9 → XAt (ωC D a b) Γ 7 [(0, .ref (a 1)), (1, .ref (a qq1)), (2, .int t.1), (3, .int t.2.1), (4, .int t.2.2)] [] S0) (y2 : Int32) (y3 : Int32) (y4 : Int32) (h : B_X5_canBe_7 S0 qq1 nn1   kx rc y2 y3 y4 = some r9) : XAt (ωC D a b) Γ 7 [(0, .ref (a 1)), (1, .ref (a qq1)), (2, .int y2), (3, .int y3), (4, .int y4)] [] S0 := by
  unfold B_X5_canBe_7 at h
  refine x_iload 7 C dX5_canBe_7 4 rfl ?_
  refine x_aload_n 9 C dX5_canBe_9 rfl 0 rfl ?_
  refine gX5_graves 10 C kw_103 dX5_canBe_10 ?_
  refine x_icmp_ge 13 C 74 dX5_canBe_13 rfl h (fun h => ?_) (fun h => ?_)
  · exact x_sub 74 [] rfl (hk _ h)
  · refine x_aload_n 16 C dX5_canBe_16 rfl 1 rfl ?_
    refine x_iload 17 C dX5_canBe_17 4 rfl ?_
    obtain ⟨hg1, h⟩ := xif_some h
    refine c_iald 19 C (n := nn1) hqq1 hg1 dX5_canBe_19 ?_
    refine x_top h (fun v5_2 h => ?_)
    refine x_istore 20 C (lv' := [(0, .ref (a 1)), (1, .ref (a qq1)), (2, .int y2), (3, .int y3), (4, .int y4), (5, .int v5_2)]) dX5_canBe_20 (Nat.le_of_ble_eq_true rfl) [1, 2, 3, 4, 5, 0] rfl ?_
    refine x_iload_n 22 C dX5_canBe_22 rfl 3 rfl ?_
    refine x_aload_n 23 C dX5_canBe_23 rfl 0 rfl ?_
    refine gX5_from 24 C kw_90 dX5_canBe_24 ?_
    refine x_iload 27 C dX5_canBe_27 5 rfl ?_
    obtain ⟨hg3, h⟩ := xif_some h
    refine c_iald 29 C (n := 8) rfl hg3 dX5_canBe_29 ?_
    refine y_mmax 30 C kw_443_max kmath_max.1 kmath kmath_max.2 (Nat.le_of_ble_eq_true rfl) (Nat.le_of_ble_eq_true rfl) dX5_canBe_30 ?_
    refine x_top h (fun v3_4 h => ?_)
    refine x_istore_n 33 C (lv' := [(0, .ref (a 1)), (1, .ref (a qq1)), (2, .int y2), (3, .int v3_4), (4, .int y4), (5, .int v5_2)]) dX5_canBe_33 rfl (Nat.le_of_ble_eq_true rfl) [1, 2, 3, 0, 4, 5] rfl ?_
    refine x_iload_n 34 C dX5_canBe_34 rfl 3 rfl ?_
    refine x_aload_n 35 C dX5_canBe_35 rfl 0 rfl ?_
    refine gX5_to 36 C kw_93 dX5_canBe_36 ?_
    refine x_iload 39 C dX5_canBe_39 5 rfl ?_
    obtain ⟨hg5, h⟩ := xif_some h
    refine c_iald 41 C (n := 8) rfl hg5 dX5_canBe_41 ?_
    refine x_icmp_gt 42 C 59 dX5_canBe_42 rfl h (fun h => ?_) (fun h => ?_)
    · refine x_iconst 59 C dX5_canBe_59 ci_0 ?_
      exact x_zret 60 C dX5_canBe_60 rfl (Option.some.inj h) rfl
    · refine x_aload_n 45 C dX5_canBe_45 rfl 0 rfl ?_
      refine gX5_below 46 C kw_96 dX5_canBe_46 ?_
      refine x_iload 49 C dX5_canBe_49 5 rfl ?_
      obtain ⟨hg6, h⟩ := xif_some h
      refine c_iald 51 C (n := 8) rfl hg6 dX5_canBe_51 ?_
      refine x_iload_n 52 C dX5_canBe_52 rfl 2 rfl ?_
      refine x_iconst 53 C dX5_canBe_53 ci_m1 ?_
      refine x_ixor 54 C dX5_canBe_54 ?_
      refine x_iand 55 C dX5_canBe_55 ?_
      refine x_if_eq 56 C 61 dX5_canBe_56 rfl h (fun h => ?_) (fun h => ?_)
      · refine x_iload_n 61 C dX5_canBe_61 rfl 2 rfl ?_
        refine x_iconst 62 C dX5_canBe_62 ci_1 ?_
        refine x_iload 63 C dX5_canBe_63 5 rfl ?_
        refine x_ishl 65 C dX5_canBe_65 ?_
        refine x_ior 66 C dX5_canBe_66 ?_
        refine x_top h (fun v2_7 h => ?_)
        refine x_istore_n 67 C (lv' := [(0, .ref (a 1)), (1, .ref (a qq1)), (2, .int v2_7), (3, .int v3_4), (4, .int y4)]) dX5_canBe_67 rfl (Nat.le_of_ble_eq_true rfl) [1, 2, 0, 3, 4] rfl ?_
        refine x_iinc 68 C (L := fun v4_8 => [(0, .ref (a 1)), (1, .ref (a qq1)), (2, .int v2_7), (3, .int v3_4), (4, .int v4_8)]) dX5_canBe_68 4 rfl ci_1 (Nat.le_of_ble_eq_true rfl) [1, 2, 3, 4, 0] (fun _ => rfl) h (fun v4_8 h => ?_)
        refine x_goto 71 C 7 dX5_canBe_71 rfl ?_
        exact ih _ h
      · refine x_iconst 59 C dX5_canBe_59 ci_0 ?_
        exact x_zret 60 C dX5_canBe_60 rfl (Option.some.inj h) rfl
set_option maxRecDepth 100000 in
set_option maxHeartbeats 4000000 in
theorem M_X5_canBe (l : Launch) (D : va_G) (a : Nat → Nat) (b : Nat → ClassId) (S0 : XSt) (q1 n1 : Nat) (hq1 : iaC q1 n1 = true) {r9 : Int32} (h : F_X5_canBe S0 q1 n1 = some r9) : xM l (ωC D a b) yX5_canBe cX5_canBe 6 (some .boolean) rm_X5_canBe [.ref (a 1), .ref (a q1)] S0 (some (.int r9), S0) := by
  unfold F_X5_canBe at h
  refine xM_of (own := "GraveOrder$Yard") (by decide) rfl (Nat.le_of_ble_eq_true rfl) (fun Γ C => ?_)
  refine x_sub 0 [0, 1] (lv' := [(0, .ref (a 1)), (1, .ref (a q1))]) rfl ?_
  refine x_iconst 0 C dX5_canBe_0 ci_0 ?_
  refine x_istore_n 1 C (lv' := [(0, .ref (a 1)), (1, .ref (a q1)), (2, .int 0)]) dX5_canBe_1 rfl (Nat.le_of_ble_eq_true rfl) [1, 2, 0] rfl ?_
  refine x_iconst 2 C dX5_canBe_2 ci_0 ?_
  refine x_istore_n 3 C (lv' := [(0, .ref (a 1)), (1, .ref (a q1)), (2, .int 0), (3, .int 0)]) dX5_canBe_3 rfl (Nat.le_of_ble_eq_true rfl) [1, 2, 3, 0] rfl ?_
  refine x_iconst 4 C dX5_canBe_4 ci_0 ?_
  refine x_istore 5 C (lv' := [(0, .ref (a 1)), (1, .ref (a q1)), (2, .int 0), (3, .int 0), (4, .int 0)]) dX5_canBe_5 (Nat.le_of_ble_eq_true rfl) [1, 2, 3, 4, 0] rfl ?_
  refine x_loop (E := fun e => XAt (ωC D a b) Γ 74 [] [] S0) (P := fun t => XAt (ωC D a b) Γ 7 [(0, .ref (a 1)), (1, .ref (a q1)), (2, .int t.1), (3, .int t.2.1), (4, .int t.2.2)] [] S0) h (fun e9 h => ?_) (fun kx rc t hk ih h => w_X5_canBe_7 l D a b S0 C q1 n1  hq1   kx rc hk ih t.1 t.2.1 t.2.2 h)
  refine x_iconst 74 C dX5_canBe_74 ci_1 ?_
  exact x_zret 75 C dX5_canBe_75 rfl (Option.some.inj h) rfl
/-! GraveOrder$FirstRow.turnedCanBe ()Z -/
def B_X1_turnedCanBe_2  (kx : XSt → Option (Int32 × XSt)) (rc : (Int32 × XSt) → Option (Int32 × XSt)) (y1 : Int32) (S1 : XSt) : Option (Int32 × XSt) :=
  (if (S1 1 4) ≤ y1 then kx S1 else (if xin (((S1 1 4) - (1 : Int32)) - y1) 8 = true then (if xin y1 8 = true then (xlet (xst S1 27 (xti y1) (S1 22 (xti (((S1 1 4) - (1 : Int32)) - y1)))) fun S3 => (xlet (y1 + 1) fun v1_4 => rc (v1_4, S3))) else none) else none))
def F_X1_turnedCanBe (S0 : XSt)  : (Option (Int32 × XSt)) :=
  (xlp (fun k rc t => B_X1_turnedCanBe_2   k rc t.1 t.2) (fun e5 => ((F_X5_canBe e5 27 8).bind fun z6 => (if xbool z6 = true then (some (z6, e5)) else none))) XFU (0, S0))
abbrev rm_X1_turnedCanBe : Room := { frames := 2, cells := 0, slots := 0, locals := 49 }
set_option maxRecDepth 100000 in
set_option maxHeartbeats 4000000 in
theorem w_X1_turnedCanBe_2 (l : Launch) (D : va_G) (a : Nat → Nat) (b : Nat → ClassId) (S0 : XSt) {Γ : XG XSt} {r9 : Int32} {S9 : XSt} (C : Cx (ωC D a b) Γ cX1_turnedCanBe "GraveOrder$FirstRow" (some .boolean) l rm_X1_turnedCanBe 2 (some (.int r9), S9))   (kx : XSt → Option (Int32 × XSt)) (rc : (Int32 × XSt) → Option (Int32 × XSt)) (hk : ∀ e, kx e = some (r9, S9) → XAt (ωC D a b) Γ 41 [(0, .ref (a 5))] [] e) (ih : ∀ t, rc t = some (r9, S9) → XAt (ωC D a b) Γ 2 [(0, .ref (a 5)), (1, .int t.1)] [] t.2) (y1 : Int32) (S1 : XSt) (h : B_X1_turnedCanBe_2   kx rc y1 S1 = some (r9, S9)) : XAt (ωC D a b) Γ 2 [(0, .ref (a 5)), (1, .int y1)] [] S1 := by
  unfold B_X1_turnedCanBe_2 at h
  refine x_iload_n 2 C dX1_turnedCanBe_2 rfl 1 rfl ?_
  refine x_aload_n 3 C dX1_turnedCanBe_3 rfl 0 rfl ?_
  refine gX1_yard 4 C kw_241 dX1_turnedCanBe_4 ?_
  refine gX5_graves 7 C kw_106 dX1_turnedCanBe_7 ?_
  refine x_icmp_ge 10 C 41 dX1_turnedCanBe_10 rfl h (fun h => ?_) (fun h => ?_)
  · exact x_sub 41 [0] rfl (hk _ h)
  · refine x_aload_n 13 C dX1_turnedCanBe_13 rfl 0 rfl ?_
    refine gX1_turned 14 C kw_243 dX1_turnedCanBe_14 ?_
    refine x_iload_n 17 C dX1_turnedCanBe_17 rfl 1 rfl ?_
    refine x_aload_n 18 C dX1_turnedCanBe_18 rfl 0 rfl ?_
    refine gX1_row 19 C kw_242 dX1_turnedCanBe_19 ?_
    refine x_aload_n 22 C dX1_turnedCanBe_22 rfl 0 rfl ?_
    refine gX1_yard 23 C kw_241 dX1_turnedCanBe_23 ?_
    refine gX5_graves 26 C kw_106 dX1_turnedCanBe_26 ?_
    refine x_iconst 29 C dX1_turnedCanBe_29 ci_1 ?_
    refine x_isub 30 C dX1_turnedCanBe_30 ?_
    refine x_iload_n 31 C dX1_turnedCanBe_31 rfl 1 rfl ?_
    refine x_isub 32 C dX1_turnedCanBe_32 ?_
    obtain ⟨hg1, h⟩ := xif_some h
    refine c_iald 33 C (n := 8) rfl hg1 dX1_turnedCanBe_33 ?_
    obtain ⟨hg2, h⟩ := xif_some h
    refine c_iast 34 C (n := 8) rfl hg2 dX1_turnedCanBe_34 ?_
    refine x_topS h (fun S3 h => ?_)
    refine x_iinc 35 C (L := fun v1_4 => [(0, .ref (a 5)), (1, .int v1_4)]) dX1_turnedCanBe_35 1 rfl ci_1 (Nat.le_of_ble_eq_true rfl) [1, 0] (fun _ => rfl) h (fun v1_4 h => ?_)
    refine x_goto 38 C 2 dX1_turnedCanBe_38 rfl ?_
    exact ih _ h
set_option maxRecDepth 100000 in
set_option maxHeartbeats 4000000 in
theorem M_X1_turnedCanBe (l : Launch) (D : va_G) (a : Nat → Nat) (b : Nat → ClassId) (S0 : XSt)   {r9 : Int32} {S9 : XSt} (h : F_X1_turnedCanBe S0 = some (r9, S9)) : xM l (ωC D a b) yX1_turnedCanBe cX1_turnedCanBe 2 (some .boolean) rm_X1_turnedCanBe [.ref (a 5)] S0 (some (.int r9), S9) := by
  unfold F_X1_turnedCanBe at h
  refine xM_of (own := "GraveOrder$FirstRow") (by decide) rfl (Nat.le_of_ble_eq_true rfl) (fun Γ C => ?_)
  refine x_sub 0 [0] (lv' := [(0, .ref (a 5))]) rfl ?_
  refine x_iconst 0 C dX1_turnedCanBe_0 ci_0 ?_
  refine x_istore_n 1 C (lv' := [(0, .ref (a 5)), (1, .int 0)]) dX1_turnedCanBe_1 rfl (Nat.le_of_ble_eq_true rfl) [1, 0] rfl ?_
  refine x_loop (E := fun e => XAt (ωC D a b) Γ 41 [(0, .ref (a 5))] [] e) (P := fun t => XAt (ωC D a b) Γ 2 [(0, .ref (a 5)), (1, .int t.1)] [] t.2) h (fun e5 h => ?_) (fun kx rc t hk ih h => w_X1_turnedCanBe_2 l D a b S0 C    kx rc hk ih t.1 t.2 h)
  refine x_aload_n 41 C dX1_turnedCanBe_41 rfl 0 rfl ?_
  refine gX1_yard 42 C kw_241 dX1_turnedCanBe_42 ?_
  refine x_aload_n 45 C dX1_turnedCanBe_45 rfl 0 rfl ?_
  refine gX1_turned 46 C kw_243 dX1_turnedCanBe_46 ?_
  obtain ⟨z6, hz6, h⟩ := xbind_some h
  refine x_callV 49 C (q0 := 1) (ci := 5) 1 (As := [.ref (a 27)]) (rest := []) (M_X5_canBe l D a b e5 27 8 rfl hz6) (by rfl) rfl kw_511 mv_X5_canBe mh_X5_canBe ⟨rfl, rfl⟩ ⟨Nat.le_of_ble_eq_true rfl, Nat.le_of_ble_eq_true rfl⟩ rfl rfl (Nat.le_of_ble_eq_true rfl) dX1_turnedCanBe_49 ?_
  obtain ⟨hg7, h⟩ := xif_some h
  exact x_zret 52 C dX1_turnedCanBe_52 hg7 (Prod.mk.inj (Option.some.inj h)).1 (Prod.mk.inj (Option.some.inj h)).2
/-! java/lang/Integer.bitCount (I)I -/
def F_J6_bitCount_0f7a4 (x0 : Int32) : Int32 :=
  (xlet (x0 - ((xushr x0 (1 : Int32)) &&& (1431655765 : Int32))) fun v0_1 => (xlet ((v0_1 &&& (858993459 : Int32)) + ((xushr v0_1 (2 : Int32)) &&& (858993459 : Int32))) fun v0_2 => (xlet ((v0_2 + (xushr v0_2 (4 : Int32))) &&& (252645135 : Int32)) fun v0_3 => (xlet (v0_3 + (xushr v0_3 (8 : Int32))) fun v0_4 => (xlet (v0_4 + (xushr v0_4 (16 : Int32))) fun v0_5 => (v0_5 &&& (63 : Int32)))))))
abbrev rm_J6_bitCount_0f7a4 : Room := { frames := 0, cells := 0, slots := 0, locals := 0 }
set_option maxRecDepth 100000 in
set_option maxHeartbeats 4000000 in
theorem M_J6_bitCount_0f7a4 {σ : Type} (l : Launch) (ω : XW σ) (S0 : σ) (x0 : Int32)  : xM l ω yJ6_bitCount_0f7a4 cJ6_bitCount_0f7a4 1 (some .int) rm_J6_bitCount_0f7a4 [.int x0] S0 (some (.int (F_J6_bitCount_0f7a4 x0)), S0) := by
  obtain ⟨r9, h⟩ : ∃ r9, F_J6_bitCount_0f7a4 x0 = r9 := ⟨_, rfl⟩
  rw [h]
  unfold F_J6_bitCount_0f7a4 at h
  refine xM_of (own := "java/lang/Integer") (by decide) rfl (Nat.le_of_ble_eq_true rfl) (fun Γ C => ?_)
  refine x_sub 0 [0] (lv' := [(0, .int x0)]) rfl ?_
  refine x_iload_n 0 C dJ6_bitCount_0f7a4_0 rfl 0 rfl ?_
  refine x_iload_n 1 C dJ6_bitCount_0f7a4_1 rfl 0 rfl ?_
  refine x_iconst 2 C dJ6_bitCount_0f7a4_2 ci_1 ?_
  refine x_iushr 3 C dJ6_bitCount_0f7a4_3 ?_
  refine x_ldcw 4 C kw_340 dJ6_bitCount_0f7a4_4 ?_
  refine x_iand 7 C dJ6_bitCount_0f7a4_7 ?_
  refine x_isub 8 C dJ6_bitCount_0f7a4_8 ?_
  refine x_top h (fun v0_1 h => ?_)
  refine x_istore_n 9 C (lv' := [(0, .int v0_1)]) dJ6_bitCount_0f7a4_9 rfl (Nat.le_of_ble_eq_true rfl) [0] rfl ?_
  refine x_iload_n 10 C dJ6_bitCount_0f7a4_10 rfl 0 rfl ?_
  refine x_ldcw 11 C kw_341 dJ6_bitCount_0f7a4_11 ?_
  refine x_iand 14 C dJ6_bitCount_0f7a4_14 ?_
  refine x_iload_n 15 C dJ6_bitCount_0f7a4_15 rfl 0 rfl ?_
  refine x_iconst 16 C dJ6_bitCount_0f7a4_16 ci_2 ?_
  refine x_iushr 17 C dJ6_bitCount_0f7a4_17 ?_
  refine x_ldcw 18 C kw_341 dJ6_bitCount_0f7a4_18 ?_
  refine x_iand 21 C dJ6_bitCount_0f7a4_21 ?_
  refine x_iadd 22 C dJ6_bitCount_0f7a4_22 ?_
  refine x_top h (fun v0_2 h => ?_)
  refine x_istore_n 23 C (lv' := [(0, .int v0_2)]) dJ6_bitCount_0f7a4_23 rfl (Nat.le_of_ble_eq_true rfl) [0] rfl ?_
  refine x_iload_n 24 C dJ6_bitCount_0f7a4_24 rfl 0 rfl ?_
  refine x_iload_n 25 C dJ6_bitCount_0f7a4_25 rfl 0 rfl ?_
  refine x_iconst 26 C dJ6_bitCount_0f7a4_26 ci_4 ?_
  refine x_iushr 27 C dJ6_bitCount_0f7a4_27 ?_
  refine x_iadd 28 C dJ6_bitCount_0f7a4_28 ?_
  refine x_ldcw 29 C kw_342 dJ6_bitCount_0f7a4_29 ?_
  refine x_iand 32 C dJ6_bitCount_0f7a4_32 ?_
  refine x_top h (fun v0_3 h => ?_)
  refine x_istore_n 33 C (lv' := [(0, .int v0_3)]) dJ6_bitCount_0f7a4_33 rfl (Nat.le_of_ble_eq_true rfl) [0] rfl ?_
  refine x_iload_n 34 C dJ6_bitCount_0f7a4_34 rfl 0 rfl ?_
  refine x_iload_n 35 C dJ6_bitCount_0f7a4_35 rfl 0 rfl ?_
  refine x_bipush 36 C dJ6_bitCount_0f7a4_36 cb_8 ?_
  refine x_iushr 38 C dJ6_bitCount_0f7a4_38 ?_
  refine x_iadd 39 C dJ6_bitCount_0f7a4_39 ?_
  refine x_top h (fun v0_4 h => ?_)
  refine x_istore_n 40 C (lv' := [(0, .int v0_4)]) dJ6_bitCount_0f7a4_40 rfl (Nat.le_of_ble_eq_true rfl) [0] rfl ?_
  refine x_iload_n 41 C dJ6_bitCount_0f7a4_41 rfl 0 rfl ?_
  refine x_iload_n 42 C dJ6_bitCount_0f7a4_42 rfl 0 rfl ?_
  refine x_bipush 43 C dJ6_bitCount_0f7a4_43 cb_16 ?_
  refine x_iushr 45 C dJ6_bitCount_0f7a4_45 ?_
  refine x_iadd 46 C dJ6_bitCount_0f7a4_46 ?_
  refine x_top h (fun v0_5 h => ?_)
  refine x_istore_n 47 C (lv' := [(0, .int v0_5)]) dJ6_bitCount_0f7a4_47 rfl (Nat.le_of_ble_eq_true rfl) [0] rfl ?_
  refine x_iload_n 48 C dJ6_bitCount_0f7a4_48 rfl 0 rfl ?_
  refine x_bipush 49 C dJ6_bitCount_0f7a4_49 cb_63 ?_
  refine x_iand 51 C dJ6_bitCount_0f7a4_51 ?_
  exact x_iret 52 C dJ6_bitCount_0f7a4_52 h rfl
/-! GraveOrder$Yard.weigh (I)I -/
def F_X5_weigh (S0 : XSt) (x1 : Int32) : Int32 :=
  ((F_J6_bitCount_0f7a4 (x1 &&& (S0 1 7))) + ((2 : Int32) * (F_J6_bitCount_0f7a4 (x1 &&& (S0 1 8)))))
abbrev rm_X5_weigh : Room := { frames := 1, cells := 0, slots := 0, locals := 20 }
set_option maxRecDepth 100000 in
set_option maxHeartbeats 4000000 in
theorem M_X5_weigh (l : Launch) (D : va_G) (a : Nat → Nat) (b : Nat → ClassId) (S0 : XSt) (x1 : Int32)  : xM l (ωC D a b) yX5_weigh cX5_weigh 2 (some .int) rm_X5_weigh [.ref (a 1), .int x1] S0 (some (.int (F_X5_weigh S0 x1)), S0) := by
  obtain ⟨r9, h⟩ : ∃ r9, F_X5_weigh S0 x1 = r9 := ⟨_, rfl⟩
  rw [h]
  unfold F_X5_weigh at h
  refine xM_of (own := "GraveOrder$Yard") (by decide) rfl (Nat.le_of_ble_eq_true rfl) (fun Γ C => ?_)
  refine x_sub 0 [0, 1] (lv' := [(0, .ref (a 1)), (1, .int x1)]) rfl ?_
  refine x_iload_n 0 C dX5_weigh_0 rfl 1 rfl ?_
  refine x_aload_n 1 C dX5_weigh_1 rfl 0 rfl ?_
  refine gX5_weightOnes 2 C kw_113 dX5_weigh_2 ?_
  refine x_iand 5 C dX5_weigh_5 ?_
  refine x_callS 6 C 1 (As := [.int (x1 &&& (S0 1 7))]) (rest := []) (M_J6_bitCount_0f7a4 l (ωC D a b) S0 (x1 &&& (S0 1 7))) kw_337 ms_J6_bitCount_0f7a4 mh_J6_bitCount_0f7a4 ⟨rfl, rfl⟩ ⟨Nat.le_of_ble_eq_true rfl, Nat.le_of_ble_eq_true rfl⟩ rfl rfl (Nat.le_of_ble_eq_true rfl) dX5_weigh_6 ?_
  refine x_iconst 9 C dX5_weigh_9 ci_2 ?_
  refine x_iload_n 10 C dX5_weigh_10 rfl 1 rfl ?_
  refine x_aload_n 11 C dX5_weigh_11 rfl 0 rfl ?_
  refine gX5_weightTwos 12 C kw_115 dX5_weigh_12 ?_
  refine x_iand 15 C dX5_weigh_15 ?_
  refine x_callS 16 C 1 (As := [.int (x1 &&& (S0 1 8))]) (rest := [.int 2, .int (F_J6_bitCount_0f7a4 (x1 &&& (S0 1 7)))]) (M_J6_bitCount_0f7a4 l (ωC D a b) S0 (x1 &&& (S0 1 8))) kw_337 ms_J6_bitCount_0f7a4 mh_J6_bitCount_0f7a4 ⟨rfl, rfl⟩ ⟨Nat.le_of_ble_eq_true rfl, Nat.le_of_ble_eq_true rfl⟩ rfl rfl (Nat.le_of_ble_eq_true rfl) dX5_weigh_16 ?_
  refine x_imul 19 C dX5_weigh_19 ?_
  refine x_iadd 20 C dX5_weigh_20 ?_
  exact x_iret 21 C dX5_weigh_21 h rfl
/-! GraveOrder$FirstRow.gapsAsLaid (II)I -/
def B_X1_gapsAsLaid_23 (S0 : XSt) (c1 : Int32) (c2 : Int32) (c3 : Int32) (c4 : Int32) (c5 : Int32) (kx : Int32 → Option Int32) (rc : (Int32 × Int32) → Option Int32) (y6 : Int32) (y7 : Int32) : Option Int32 :=
  (if c1 ≤ y7 then kx y6 else (if xin y7 9 = true then (xlet (y6 ||| (S0 28 (xti y7))) fun v6_3 => (xlet (y7 + 1) fun v7_4 => rc (v6_3, v7_4))) else none))
def B_X1_gapsAsLaid_8 (S0 : XSt) (c1 : Int32) (c2 : Int32) (kx : Int32 → Option Int32) (rc : (Int32 × Int32 × Int32) → Option Int32) (y3 : Int32) (y4 : Int32) (y5 : Int32) : Option Int32 :=
  (if c1 ≤ y5 then kx y3 else (xlet (y5 + (1 : Int32)) fun v7_1 => (xlp (fun k rc t => B_X1_gapsAsLaid_23 S0  c1 c2 y3 y4 y5 k rc t.1 t.2) (fun e5 => (xlet (fun (t6 : Int32) => (if xin y5 9 = true then (xlet (y4 ||| (S0 28 (xti y5))) fun v4_9 => (xlet (y5 + 1) fun v5_10 => rc (t6, v4_9, v5_10))) else none)) fun j7 => (if ((c2 >>> (y5 &&& 31)) &&& (1 : Int32)) = 0 then (if xin y5 9 = true then (xlet (y3 + (F_X5_weigh S0 ((y4 &&& e5) &&& ((S0 28 (xti y5)) ^^^ (-1 : Int32))))) fun v3_12 => j7 v3_12) else none) else j7 y3))) XFU (0, v7_1))))
def F_X1_gapsAsLaid (S0 : XSt) (x1 : Int32) (x2 : Int32) : (Option Int32) :=
  (xlp (fun k rc t => B_X1_gapsAsLaid_8 S0  x1 x2 k rc t.1 t.2.1 t.2.2) (fun e13 => (some e13)) XFU (0, 0, 0))
abbrev rm_X1_gapsAsLaid : Room := { frames := 2, cells := 0, slots := 0, locals := 41 }
set_option maxRecDepth 100000 in
set_option maxHeartbeats 4000000 in
theorem w_X1_gapsAsLaid_23 (l : Launch) (D : va_G) (a : Nat → Nat) (b : Nat → ClassId) (S0 : XSt) {Γ : XG XSt} {r9 : Int32} (C : Cx (ωC D a b) Γ cX1_gapsAsLaid "GraveOrder$FirstRow" (some .int) l rm_X1_gapsAsLaid 8 (some (.int r9), S0)) (c1 : Int32) (c2 : Int32) (c3 : Int32) (c4 : Int32) (c5 : Int32)  (kx : Int32 → Option Int32) (rc : (Int32 × Int32) → Option Int32) (hk : ∀ e, kx e = some r9 → XAt (ωC D a b) Γ 47 [(0, .ref (a 5)), (1, .int c1), (2, .int c2), (3, .int c3), (4, .int c4), (5, .int c5), (6, .int e)] [] S0) (ih : ∀ t, rc t = some r9 → XAt (ωC D a b) Γ 23 [(0, .ref (a 5)), (1, .int c1), (2, .int c2), (3, .int c3), (4, .int c4), (5, .int c5), (6, .int t.1), (7, .int t.2)] [] S0) (y6 : Int32) (y7 : Int32) (h : B_X1_gapsAsLaid_23 S0  c1 c2 c3 c4 c5 kx rc y6 y7 = some r9) : XAt (ωC D a b) Γ 23 [(0, .ref (a 5)), (1, .int c1), (2, .int c2), (3, .int c3), (4, .int c4), (5, .int c5), (6, .int y6), (7, .int y7)] [] S0 := by
  unfold B_X1_gapsAsLaid_23 at h
  refine x_iload 23 C dX1_gapsAsLaid_23 7 rfl ?_
  refine x_iload_n 25 C dX1_gapsAsLaid_25 rfl 1 rfl ?_
  refine x_icmp_ge 26 C 47 dX1_gapsAsLaid_26 rfl h (fun h => ?_) (fun h => ?_)
  · exact x_sub 47 [0, 1, 2, 3, 4, 5, 6] rfl (hk _ h)
  · refine x_iload 29 C dX1_gapsAsLaid_29 6 rfl ?_
    refine x_aload_n 31 C dX1_gapsAsLaid_31 rfl 0 rfl ?_
    refine gX1_laid 32 C kw_244 dX1_gapsAsLaid_32 ?_
    refine x_iload 35 C dX1_gapsAsLaid_35 7 rfl ?_
    obtain ⟨hg2, h⟩ := xif_some h
    refine c_iald 37 C (n := 9) rfl hg2 dX1_gapsAsLaid_37 ?_
    refine x_ior 38 C dX1_gapsAsLaid_38 ?_
    refine x_top h (fun v6_3 h => ?_)
    refine x_istore 39 C (lv' := [(0, .ref (a 5)), (1, .int c1), (2, .int c2), (3, .int c3), (4, .int c4), (5, .int c5), (6, .int v6_3), (7, .int y7)]) dX1_gapsAsLaid_39 (Nat.le_of_ble_eq_true rfl) [1, 2, 3, 4, 5, 6, 0, 7] rfl ?_
    refine x_iinc 41 C (L := fun v7_4 => [(0, .ref (a 5)), (1, .int c1), (2, .int c2), (3, .int c3), (4, .int c4), (5, .int c5), (6, .int v6_3), (7, .int v7_4)]) dX1_gapsAsLaid_41 7 rfl ci_1 (Nat.le_of_ble_eq_true rfl) [1, 2, 3, 4, 5, 6, 7, 0] (fun _ => rfl) h (fun v7_4 h => ?_)
    refine x_goto 44 C 23 dX1_gapsAsLaid_44 rfl ?_
    exact ih _ h
set_option maxRecDepth 100000 in
set_option maxHeartbeats 4000000 in
theorem w_X1_gapsAsLaid_8 (l : Launch) (D : va_G) (a : Nat → Nat) (b : Nat → ClassId) (S0 : XSt) {Γ : XG XSt} {r9 : Int32} (C : Cx (ωC D a b) Γ cX1_gapsAsLaid "GraveOrder$FirstRow" (some .int) l rm_X1_gapsAsLaid 8 (some (.int r9), S0)) (c1 : Int32) (c2 : Int32)  (kx : Int32 → Option Int32) (rc : (Int32 × Int32 × Int32) → Option Int32) (hk : ∀ e, kx e = some r9 → XAt (ωC D a b) Γ 99 [(3, .int e)] [] S0) (ih : ∀ t, rc t = some r9 → XAt (ωC D a b) Γ 8 [(0, .ref (a 5)), (1, .int c1), (2, .int c2), (3, .int t.1), (4, .int t.2.1), (5, .int t.2.2)] [] S0) (y3 : Int32) (y4 : Int32) (y5 : Int32) (h : B_X1_gapsAsLaid_8 S0  c1 c2 kx rc y3 y4 y5 = some r9) : XAt (ωC D a b) Γ 8 [(0, .ref (a 5)), (1, .int c1), (2, .int c2), (3, .int y3), (4, .int y4), (5, .int y5)] [] S0 := by
  unfold B_X1_gapsAsLaid_8 at h
  refine x_iload 8 C dX1_gapsAsLaid_8 5 rfl ?_
  refine x_iload_n 10 C dX1_gapsAsLaid_10 rfl 1 rfl ?_
  refine x_icmp_ge 11 C 99 dX1_gapsAsLaid_11 rfl h (fun h => ?_) (fun h => ?_)
  · exact x_sub 99 [3] rfl (hk _ h)
  · refine x_iconst 14 C dX1_gapsAsLaid_14 ci_0 ?_
    refine x_istore 15 C (lv' := [(0, .ref (a 5)), (1, .int c1), (2, .int c2), (3, .int y3), (4, .int y4), (5, .int y5), (6, .int 0)]) dX1_gapsAsLaid_15 (Nat.le_of_ble_eq_true rfl) [1, 2, 3, 4, 5, 6, 0] rfl ?_
    refine x_iload 17 C dX1_gapsAsLaid_17 5 rfl ?_
    refine x_iconst 19 C dX1_gapsAsLaid_19 ci_1 ?_
    refine x_iadd 20 C dX1_gapsAsLaid_20 ?_
    refine x_top h (fun v7_1 h => ?_)
    refine x_istore 21 C (lv' := [(0, .ref (a 5)), (1, .int c1), (2, .int c2), (3, .int y3), (4, .int y4), (5, .int y5), (6, .int 0), (7, .int v7_1)]) dX1_gapsAsLaid_21 (Nat.le_of_ble_eq_true rfl) [1, 2, 3, 4, 5, 6, 7, 0] rfl ?_
    refine x_loop (E := fun e => XAt (ωC D a b) Γ 47 [(0, .ref (a 5)), (1, .int c1), (2, .int c2), (3, .int y3), (4, .int y4), (5, .int y5), (6, .int e)] [] S0) (P := fun t => XAt (ωC D a b) Γ 23 [(0, .ref (a 5)), (1, .int c1), (2, .int c2), (3, .int y3), (4, .int y4), (5, .int y5), (6, .int t.1), (7, .int t.2)] [] S0) h (fun e5 h => ?_) (fun kx rc t hk ih h => w_X1_gapsAsLaid_23 l D a b S0 C   c1 c2 y3 y4 y5 kx rc hk ih t.1 t.2 h)
    refine x_iload_n 47 C dX1_gapsAsLaid_47 rfl 2 rfl ?_
    refine x_iload 48 C dX1_gapsAsLaid_48 5 rfl ?_
    refine x_ishr 50 C dX1_gapsAsLaid_50 ?_
    refine x_iconst 51 C dX1_gapsAsLaid_51 ci_1 ?_
    refine x_iand 52 C dX1_gapsAsLaid_52 ?_
    refine x_join (P := fun t6 => XAt (ωC D a b) Γ 81 [(0, .ref (a 5)), (1, .int c1), (2, .int c2), (3, .int t6), (4, .int y4), (5, .int y5)] [] S0) h (fun t6 h => ?_) (fun j7 hj7 h => ?_)
    · refine x_iload 81 C dX1_gapsAsLaid_81 4 rfl ?_
      refine x_aload_n 83 C dX1_gapsAsLaid_83 rfl 0 rfl ?_
      refine gX1_laid 84 C kw_244 dX1_gapsAsLaid_84 ?_
      refine x_iload 87 C dX1_gapsAsLaid_87 5 rfl ?_
      obtain ⟨hg8, h⟩ := xif_some h
      refine c_iald 89 C (n := 9) rfl hg8 dX1_gapsAsLaid_89 ?_
      refine x_ior 90 C dX1_gapsAsLaid_90 ?_
      refine x_top h (fun v4_9 h => ?_)
      refine x_istore 91 C (lv' := [(0, .ref (a 5)), (1, .int c1), (2, .int c2), (3, .int t6), (4, .int v4_9), (5, .int y5)]) dX1_gapsAsLaid_91 (Nat.le_of_ble_eq_true rfl) [1, 2, 3, 4, 0, 5] rfl ?_
      refine x_iinc 93 C (L := fun v5_10 => [(0, .ref (a 5)), (1, .int c1), (2, .int c2), (3, .int t6), (4, .int v4_9), (5, .int v5_10)]) dX1_gapsAsLaid_93 5 rfl ci_1 (Nat.le_of_ble_eq_true rfl) [1, 2, 3, 4, 5, 0] (fun _ => rfl) h (fun v5_10 h => ?_)
      refine x_goto 96 C 8 dX1_gapsAsLaid_96 rfl ?_
      exact ih _ h
    refine x_if_ne 53 C 81 dX1_gapsAsLaid_53 rfl h (fun h => ?_) (fun h => ?_)
    · exact x_sub 81 [0, 1, 2, 3, 4, 5] rfl (hj7 _ h)
    · refine x_iload_n 56 C dX1_gapsAsLaid_56 rfl 3 rfl ?_
      refine x_aload_n 57 C dX1_gapsAsLaid_57 rfl 0 rfl ?_
      refine gX1_yard 58 C kw_241 dX1_gapsAsLaid_58 ?_
      refine x_iload 61 C dX1_gapsAsLaid_61 4 rfl ?_
      refine x_iload 63 C dX1_gapsAsLaid_63 6 rfl ?_
      refine x_iand 65 C dX1_gapsAsLaid_65 ?_
      refine x_aload_n 66 C dX1_gapsAsLaid_66 rfl 0 rfl ?_
      refine gX1_laid 67 C kw_244 dX1_gapsAsLaid_67 ?_
      refine x_iload 70 C dX1_gapsAsLaid_70 5 rfl ?_
      obtain ⟨hg11, h⟩ := xif_some h
      refine c_iald 72 C (n := 9) rfl hg11 dX1_gapsAsLaid_72 ?_
      refine x_iconst 73 C dX1_gapsAsLaid_73 ci_m1 ?_
      refine x_ixor 74 C dX1_gapsAsLaid_74 ?_
      refine x_iand 75 C dX1_gapsAsLaid_75 ?_
      refine x_callV 76 C (q0 := 1) (ci := 5) 1 (As := [.int ((y4 &&& e5) &&& ((S0 28 (xti y5)) ^^^ (-1 : Int32)))]) (rest := [.int y3]) (M_X5_weigh l D a b S0 ((y4 &&& e5) &&& ((S0 28 (xti y5)) ^^^ (-1 : Int32))) ) (by rfl) rfl kw_438 mv_X5_weigh mh_X5_weigh ⟨rfl, rfl⟩ ⟨Nat.le_of_ble_eq_true rfl, Nat.le_of_ble_eq_true rfl⟩ rfl rfl (Nat.le_of_ble_eq_true rfl) dX1_gapsAsLaid_76 ?_
      refine x_iadd 79 C dX1_gapsAsLaid_79 ?_
      refine x_top h (fun v3_12 h => ?_)
      refine x_istore_n 80 C (lv' := [(0, .ref (a 5)), (1, .int c1), (2, .int c2), (3, .int v3_12), (4, .int y4), (5, .int y5)]) dX1_gapsAsLaid_80 rfl (Nat.le_of_ble_eq_true rfl) [1, 2, 3, 0, 4, 5] rfl ?_
      exact hj7 _ h
set_option maxRecDepth 100000 in
set_option maxHeartbeats 4000000 in
theorem M_X1_gapsAsLaid (l : Launch) (D : va_G) (a : Nat → Nat) (b : Nat → ClassId) (S0 : XSt) (x1 : Int32) (x2 : Int32)  {r9 : Int32} (h : F_X1_gapsAsLaid S0 x1 x2 = some r9) : xM l (ωC D a b) yX1_gapsAsLaid cX1_gapsAsLaid 8 (some .int) rm_X1_gapsAsLaid [.ref (a 5), .int x1, .int x2] S0 (some (.int r9), S0) := by
  unfold F_X1_gapsAsLaid at h
  refine xM_of (own := "GraveOrder$FirstRow") (by decide) rfl (Nat.le_of_ble_eq_true rfl) (fun Γ C => ?_)
  refine x_sub 0 [0, 1, 2] (lv' := [(0, .ref (a 5)), (1, .int x1), (2, .int x2)]) rfl ?_
  refine x_iconst 0 C dX1_gapsAsLaid_0 ci_0 ?_
  refine x_istore_n 1 C (lv' := [(0, .ref (a 5)), (1, .int x1), (2, .int x2), (3, .int 0)]) dX1_gapsAsLaid_1 rfl (Nat.le_of_ble_eq_true rfl) [1, 2, 3, 0] rfl ?_
  refine x_iconst 2 C dX1_gapsAsLaid_2 ci_0 ?_
  refine x_istore 3 C (lv' := [(0, .ref (a 5)), (1, .int x1), (2, .int x2), (3, .int 0), (4, .int 0)]) dX1_gapsAsLaid_3 (Nat.le_of_ble_eq_true rfl) [1, 2, 3, 4, 0] rfl ?_
  refine x_iconst 5 C dX1_gapsAsLaid_5 ci_0 ?_
  refine x_istore 6 C (lv' := [(0, .ref (a 5)), (1, .int x1), (2, .int x2), (3, .int 0), (4, .int 0), (5, .int 0)]) dX1_gapsAsLaid_6 (Nat.le_of_ble_eq_true rfl) [1, 2, 3, 4, 5, 0] rfl ?_
  refine x_loop (E := fun e => XAt (ωC D a b) Γ 99 [(3, .int e)] [] S0) (P := fun t => XAt (ωC D a b) Γ 8 [(0, .ref (a 5)), (1, .int x1), (2, .int x2), (3, .int t.1), (4, .int t.2.1), (5, .int t.2.2)] [] S0) h (fun e13 h => ?_) (fun kx rc t hk ih h => w_X1_gapsAsLaid_8 l D a b S0 C   x1 x2 kx rc hk ih t.1 t.2.1 t.2.2 h)
  refine x_iload_n 99 C dX1_gapsAsLaid_99 rfl 0 rfl ?_
  exact x_iret 100 C dX1_gapsAsLaid_100 (Option.some.inj h) rfl
/-! GraveOrder$FirstRow.gapsOfOrder ([I)I -/
def B_X1_gapsOfOrder_4 (qq1 nn1 : Nat)  (kx : (Int32 × XSt) → Option (Int32 × XSt)) (rc : (Int32 × Int32 × XSt) → Option (Int32 × XSt)) (y2 : Int32) (y3 : Int32) (S1 : XSt) : Option (Int32 × XSt) :=
  (if (S1 1 4) ≤ y3 then kx (y2, S1) else (if xin y3 nn1 = true then (if xin (S1 qq1 (xti y3)) 8 = true then (if xin y3 9 = true then (xlet (xst S1 28 (xti y3) (S1 10 (xti (S1 qq1 (xti y3))))) fun S4 => (if xin y3 nn1 = true then (xlet (y2 ||| ((((S4 1 5) >>> ((S4 qq1 (xti y3)) &&& 31)) &&& (1 : Int32)) <<< (y3 &&& 31))) fun v2_6 => (xlet (y3 + 1) fun v3_7 => rc (v2_6, v3_7, S4))) else none)) else none) else none) else none))
def F_X1_gapsOfOrder (S0 : XSt) (q1 n1 : Nat) : (Option (Int32 × XSt)) :=
  (xlp (fun k rc t => B_X1_gapsOfOrder_4 q1 n1   k rc t.1 t.2.1 t.2.2) (fun e8 => ((F_X1_gapsAsLaid e8.2 (e8.2 1 4) e8.1).bind fun z9 => (some (z9, e8.2)))) XFU (0, 0, S0))
abbrev rm_X1_gapsOfOrder : Room := { frames := 3, cells := 0, slots := 0, locals := 68 }
set_option maxRecDepth 100000 in
set_option maxHeartbeats 4000000 in
theorem w_X1_gapsOfOrder_4 (l : Launch) (D : va_G) (a : Nat → Nat) (b : Nat → ClassId) (S0 : XSt) {Γ : XG XSt} {r9 : Int32} {S9 : XSt} (C : Cx (ωC D a b) Γ cX1_gapsOfOrder "GraveOrder$FirstRow" (some .int) l rm_X1_gapsOfOrder 4 (some (.int r9), S9)) (qq1 nn1 : Nat) (hqq1 : iaC qq1 nn1 = true)   (kx : (Int32 × XSt) → Option (Int32 × XSt)) (rc : (Int32 × Int32 × XSt) → Option (Int32 × XSt)) (hk : ∀ e, kx e = some (r9, S9) → XAt (ωC D a b) Γ 56 [(0, .ref (a 5)), (2, .int e.1)] [] e.2) (ih : ∀ t, rc t = some (r9, S9) → XAt (ωC D a b) Γ 4 [(0, .ref (a 5)), (1, .ref (a qq1)), (2, .int t.1), (3, .int t.2.1)] [] t.2.2) (y2 : Int32) (y3 : Int32) (S1 : XSt) (h : B_X1_gapsOfOrder_4 qq1 nn1   kx rc y2 y3 S1 = some (r9, S9)) : XAt (ωC D a b) Γ 4 [(0, .ref (a 5)), (1, .ref (a qq1)), (2, .int y2), (3, .int y3)] [] S1 := by
  unfold B_X1_gapsOfOrder_4 at h
  refine x_iload_n 4 C dX1_gapsOfOrder_4 rfl 3 rfl ?_
  refine x_aload_n 5 C dX1_gapsOfOrder_5 rfl 0 rfl ?_
  refine gX1_yard 6 C kw_241 dX1_gapsOfOrder_6 ?_
  refine gX5_graves 9 C kw_106 dX1_gapsOfOrder_9 ?_
  refine x_icmp_ge 12 C 56 dX1_gapsOfOrder_12 rfl h (fun h => ?_) (fun h => ?_)
  · exact x_sub 56 [0, 2] rfl (hk _ h)
  · refine x_aload_n 15 C dX1_gapsOfOrder_15 rfl 0 rfl ?_
    refine gX1_laid 16 C kw_244 dX1_gapsOfOrder_16 ?_
    refine x_iload_n 19 C dX1_gapsOfOrder_19 rfl 3 rfl ?_
    refine x_aload_n 20 C dX1_gapsOfOrder_20 rfl 0 rfl ?_
    refine gX1_yard 21 C kw_241 dX1_gapsOfOrder_21 ?_
    refine gX5_kinds 24 C kw_100 dX1_gapsOfOrder_24 ?_
    refine x_aload_n 27 C dX1_gapsOfOrder_27 rfl 1 rfl ?_
    refine x_iload_n 28 C dX1_gapsOfOrder_28 rfl 3 rfl ?_
    obtain ⟨hg1, h⟩ := xif_some h
    refine c_iald 29 C (n := nn1) hqq1 hg1 dX1_gapsOfOrder_29 ?_
    obtain ⟨hg2, h⟩ := xif_some h
    refine c_iald 30 C (n := 8) rfl hg2 dX1_gapsOfOrder_30 ?_
    obtain ⟨hg3, h⟩ := xif_some h
    refine c_iast 31 C (n := 9) rfl hg3 dX1_gapsOfOrder_31 ?_
    refine x_topS h (fun S4 h => ?_)
    refine x_iload_n 32 C dX1_gapsOfOrder_32 rfl 2 rfl ?_
    refine x_aload_n 33 C dX1_gapsOfOrder_33 rfl 0 rfl ?_
    refine gX1_yard 34 C kw_241 dX1_gapsOfOrder_34 ?_
    refine gX5_robbedBits 37 C kw_108 dX1_gapsOfOrder_37 ?_
    refine x_aload_n 40 C dX1_gapsOfOrder_40 rfl 1 rfl ?_
    refine x_iload_n 41 C dX1_gapsOfOrder_41 rfl 3 rfl ?_
    obtain ⟨hg5, h⟩ := xif_some h
    refine c_iald 42 C (n := nn1) hqq1 hg5 dX1_gapsOfOrder_42 ?_
    refine x_ishr 43 C dX1_gapsOfOrder_43 ?_
    refine x_iconst 44 C dX1_gapsOfOrder_44 ci_1 ?_
    refine x_iand 45 C dX1_gapsOfOrder_45 ?_
    refine x_iload_n 46 C dX1_gapsOfOrder_46 rfl 3 rfl ?_
    refine x_ishl 47 C dX1_gapsOfOrder_47 ?_
    refine x_ior 48 C dX1_gapsOfOrder_48 ?_
    refine x_top h (fun v2_6 h => ?_)
    refine x_istore_n 49 C (lv' := [(0, .ref (a 5)), (1, .ref (a qq1)), (2, .int v2_6), (3, .int y3)]) dX1_gapsOfOrder_49 rfl (Nat.le_of_ble_eq_true rfl) [1, 2, 0, 3] rfl ?_
    refine x_iinc 50 C (L := fun v3_7 => [(0, .ref (a 5)), (1, .ref (a qq1)), (2, .int v2_6), (3, .int v3_7)]) dX1_gapsOfOrder_50 3 rfl ci_1 (Nat.le_of_ble_eq_true rfl) [1, 2, 3, 0] (fun _ => rfl) h (fun v3_7 h => ?_)
    refine x_goto 53 C 4 dX1_gapsOfOrder_53 rfl ?_
    exact ih _ h
set_option maxRecDepth 100000 in
set_option maxHeartbeats 4000000 in
theorem M_X1_gapsOfOrder (l : Launch) (D : va_G) (a : Nat → Nat) (b : Nat → ClassId) (S0 : XSt) (q1 n1 : Nat) (hq1 : iaC q1 n1 = true) {r9 : Int32} {S9 : XSt} (h : F_X1_gapsOfOrder S0 q1 n1 = some (r9, S9)) : xM l (ωC D a b) yX1_gapsOfOrder cX1_gapsOfOrder 4 (some .int) rm_X1_gapsOfOrder [.ref (a 5), .ref (a q1)] S0 (some (.int r9), S9) := by
  unfold F_X1_gapsOfOrder at h
  refine xM_of (own := "GraveOrder$FirstRow") (by decide) rfl (Nat.le_of_ble_eq_true rfl) (fun Γ C => ?_)
  refine x_sub 0 [0, 1] (lv' := [(0, .ref (a 5)), (1, .ref (a q1))]) rfl ?_
  refine x_iconst 0 C dX1_gapsOfOrder_0 ci_0 ?_
  refine x_istore_n 1 C (lv' := [(0, .ref (a 5)), (1, .ref (a q1)), (2, .int 0)]) dX1_gapsOfOrder_1 rfl (Nat.le_of_ble_eq_true rfl) [1, 2, 0] rfl ?_
  refine x_iconst 2 C dX1_gapsOfOrder_2 ci_0 ?_
  refine x_istore_n 3 C (lv' := [(0, .ref (a 5)), (1, .ref (a q1)), (2, .int 0), (3, .int 0)]) dX1_gapsOfOrder_3 rfl (Nat.le_of_ble_eq_true rfl) [1, 2, 3, 0] rfl ?_
  refine x_loop (E := fun e => XAt (ωC D a b) Γ 56 [(0, .ref (a 5)), (2, .int e.1)] [] e.2) (P := fun t => XAt (ωC D a b) Γ 4 [(0, .ref (a 5)), (1, .ref (a q1)), (2, .int t.1), (3, .int t.2.1)] [] t.2.2) h (fun e8 h => ?_) (fun kx rc t hk ih h => w_X1_gapsOfOrder_4 l D a b S0 C q1 n1  hq1   kx rc hk ih t.1 t.2.1 t.2.2 h)
  refine x_aload_n 56 C dX1_gapsOfOrder_56 rfl 0 rfl ?_
  refine x_aload_n 57 C dX1_gapsOfOrder_57 rfl 0 rfl ?_
  refine gX1_yard 58 C kw_241 dX1_gapsOfOrder_58 ?_
  refine gX5_graves 61 C kw_106 dX1_gapsOfOrder_61 ?_
  refine x_iload_n 64 C dX1_gapsOfOrder_64 rfl 1 rfl ?_
  obtain ⟨z9, hz9, h⟩ := xbind_some h
  refine x_callV 65 C (q0 := 5) (ci := 1) 2 (As := [.int (e8.2 1 4), .int e8.1]) (rest := []) (M_X1_gapsAsLaid l D a b e8.2 (e8.2 1 4) e8.1  hz9) (by rfl) rfl kw_434 mv_X1_gapsAsLaid mh_X1_gapsAsLaid ⟨rfl, rfl⟩ ⟨Nat.le_of_ble_eq_true rfl, Nat.le_of_ble_eq_true rfl⟩ rfl rfl (Nat.le_of_ble_eq_true rfl) dX1_gapsOfOrder_65 ?_
  exact x_iret 68 C dX1_gapsOfOrder_68 (Prod.mk.inj (Option.some.inj h)).1 (Prod.mk.inj (Option.some.inj h)).2
/-! GraveOrder$FirstRow.gapsWith (II)I -/
def B_X1_gapsWith_5 (c1 : Int32) (c2 : Int32) (kx : (Int32 × XSt) → Option (Int32 × XSt)) (rc : (Int32 × Int32 × XSt) → Option (Int32 × XSt)) (y3 : Int32) (y4 : Int32) (S1 : XSt) : Option (Int32 × XSt) :=
  (if (S1 1 4) ≤ y4 then kx (y3, S1) else (xlet (fun (t1 : Int32) => (if xin y4 8 = true then (if xin (S1 22 (xti y4)) 8 = true then (if xin t1 9 = true then (xlet (xst S1 28 (xti t1) (S1 10 (xti (S1 22 (xti y4))))) fun S6 => ((F_X1_robbedAt S6 y4).bind fun z7 => (if z7 = 0 then (xlet (y3 ||| (0 : Int32)) fun v3_8 => (xlet (y4 + 1) fun v4_9 => rc (v3_8, v4_9, S6))) else (xlet (y3 ||| ((1 : Int32) <<< (t1 &&& 31))) fun v3_10 => (xlet (y4 + 1) fun v4_11 => rc (v3_10, v4_11, S6)))))) else none) else none) else none)) fun j2 => (if c2 ≤ y4 then j2 (y4 + (1 : Int32)) else j2 y4)))
def F_X1_gapsWith (S0 : XSt) (x1 : Int32) (x2 : Int32) : (Option (Int32 × XSt)) :=
  (xlp (fun k rc t => B_X1_gapsWith_5  x1 x2 k rc t.1 t.2.1 t.2.2) (fun e12 => (if xin x2 9 = true then (xlet (xst e12.2 28 (xti x2) x1) fun S14 => ((F_X1_gapsAsLaid S14 ((S14 1 4) + (1 : Int32)) e12.1).bind fun z15 => (some (z15, S14)))) else none)) XFU (0, 0, S0))
abbrev rm_X1_gapsWith : Room := { frames := 3, cells := 0, slots := 0, locals := 68 }
set_option maxRecDepth 100000 in
set_option maxHeartbeats 4000000 in
theorem w_X1_gapsWith_5 (l : Launch) (D : va_G) (a : Nat → Nat) (b : Nat → ClassId) (S0 : XSt) {Γ : XG XSt} {r9 : Int32} {S9 : XSt} (C : Cx (ωC D a b) Γ cX1_gapsWith "GraveOrder$FirstRow" (some .int) l rm_X1_gapsWith 6 (some (.int r9), S9)) (c1 : Int32) (c2 : Int32)  (kx : (Int32 × XSt) → Option (Int32 × XSt)) (rc : (Int32 × Int32 × XSt) → Option (Int32 × XSt)) (hk : ∀ e, kx e = some (r9, S9) → XAt (ωC D a b) Γ 82 [(0, .ref (a 5)), (1, .int c1), (2, .int c2), (3, .int e.1)] [] e.2) (ih : ∀ t, rc t = some (r9, S9) → XAt (ωC D a b) Γ 5 [(0, .ref (a 5)), (1, .int c1), (2, .int c2), (3, .int t.1), (4, .int t.2.1)] [] t.2.2) (y3 : Int32) (y4 : Int32) (S1 : XSt) (h : B_X1_gapsWith_5  c1 c2 kx rc y3 y4 S1 = some (r9, S9)) : XAt (ωC D a b) Γ 5 [(0, .ref (a 5)), (1, .int c1), (2, .int c2), (3, .int y3), (4, .int y4)] [] S1 := by
  unfold B_X1_gapsWith_5 at h
  refine x_iload 5 C dX1_gapsWith_5 4 rfl ?_
  refine x_aload_n 7 C dX1_gapsWith_7 rfl 0 rfl ?_
  refine gX1_yard 8 C kw_241 dX1_gapsWith_8 ?_
  refine gX5_graves 11 C kw_106 dX1_gapsWith_11 ?_
  refine x_icmp_ge 14 C 82 dX1_gapsWith_14 rfl h (fun h => ?_) (fun h => ?_)
  · exact x_sub 82 [0, 1, 2, 3] rfl (hk _ h)
  · refine x_iload 17 C dX1_gapsWith_17 4 rfl ?_
    refine x_iload_n 19 C dX1_gapsWith_19 rfl 2 rfl ?_
    refine x_join (P := fun t1 => XAt (ωC D a b) Γ 32 [(0, .ref (a 5)), (1, .int c1), (2, .int c2), (3, .int y3), (4, .int y4)] [.int t1] S1) h (fun t1 h => ?_) (fun j2 hj2 h => ?_)
    · refine x_istore 32 C (lv' := [(0, .ref (a 5)), (1, .int c1), (2, .int c2), (3, .int y3), (4, .int y4), (5, .int t1)]) dX1_gapsWith_32 (Nat.le_of_ble_eq_true rfl) [1, 2, 3, 4, 5, 0] rfl ?_
      refine x_aload_n 34 C dX1_gapsWith_34 rfl 0 rfl ?_
      refine gX1_laid 35 C kw_244 dX1_gapsWith_35 ?_
      refine x_iload 38 C dX1_gapsWith_38 5 rfl ?_
      refine x_aload_n 40 C dX1_gapsWith_40 rfl 0 rfl ?_
      refine gX1_yard 41 C kw_241 dX1_gapsWith_41 ?_
      refine gX5_kinds 44 C kw_100 dX1_gapsWith_44 ?_
      refine x_aload_n 47 C dX1_gapsWith_47 rfl 0 rfl ?_
      refine gX1_row 48 C kw_242 dX1_gapsWith_48 ?_
      refine x_iload 51 C dX1_gapsWith_51 4 rfl ?_
      obtain ⟨hg3, h⟩ := xif_some h
      refine c_iald 53 C (n := 8) rfl hg3 dX1_gapsWith_53 ?_
      obtain ⟨hg4, h⟩ := xif_some h
      refine c_iald 54 C (n := 8) rfl hg4 dX1_gapsWith_54 ?_
      obtain ⟨hg5, h⟩ := xif_some h
      refine c_iast 55 C (n := 9) rfl hg5 dX1_gapsWith_55 ?_
      refine x_topS h (fun S6 h => ?_)
      refine x_iload_n 56 C dX1_gapsWith_56 rfl 3 rfl ?_
      refine x_aload_n 57 C dX1_gapsWith_57 rfl 0 rfl ?_
      refine x_iload 58 C dX1_gapsWith_58 4 rfl ?_
      obtain ⟨z7, hz7, h⟩ := xbind_some h
      refine x_callV 60 C (q0 := 5) (ci := 1) 1 (As := [.int y4]) (rest := [.int y3]) (M_X1_robbedAt l D a b S6 y4  hz7) (by rfl) rfl kw_612 mv_X1_robbedAt mh_X1_robbedAt ⟨rfl, rfl⟩ ⟨Nat.le_of_ble_eq_true rfl, Nat.le_of_ble_eq_true rfl⟩ rfl rfl (Nat.le_of_ble_eq_true rfl) dX1_gapsWith_60 ?_
      refine x_if_eq 63 C 73 dX1_gapsWith_63 rfl h (fun h => ?_) (fun h => ?_)
      · refine x_iconst 73 C dX1_gapsWith_73 ci_0 ?_
        refine x_ior 74 C dX1_gapsWith_74 ?_
        refine x_top h (fun v3_8 h => ?_)
        refine x_istore_n 75 C (lv' := [(0, .ref (a 5)), (1, .int c1), (2, .int c2), (3, .int v3_8), (4, .int y4)]) dX1_gapsWith_75 rfl (Nat.le_of_ble_eq_true rfl) [1, 2, 3, 0, 4] rfl ?_
        refine x_iinc 76 C (L := fun v4_9 => [(0, .ref (a 5)), (1, .int c1), (2, .int c2), (3, .int v3_8), (4, .int v4_9)]) dX1_gapsWith_76 4 rfl ci_1 (Nat.le_of_ble_eq_true rfl) [1, 2, 3, 4, 0] (fun _ => rfl) h (fun v4_9 h => ?_)
        refine x_goto 79 C 5 dX1_gapsWith_79 rfl ?_
        exact ih _ h
      · refine x_iconst 66 C dX1_gapsWith_66 ci_1 ?_
        refine x_iload 67 C dX1_gapsWith_67 5 rfl ?_
        refine x_ishl 69 C dX1_gapsWith_69 ?_
        refine x_goto 70 C 74 dX1_gapsWith_70 rfl ?_
        refine x_ior 74 C dX1_gapsWith_74 ?_
        refine x_top h (fun v3_10 h => ?_)
        refine x_istore_n 75 C (lv' := [(0, .ref (a 5)), (1, .int c1), (2, .int c2), (3, .int v3_10), (4, .int y4)]) dX1_gapsWith_75 rfl (Nat.le_of_ble_eq_true rfl) [1, 2, 3, 0, 4] rfl ?_
        refine x_iinc 76 C (L := fun v4_11 => [(0, .ref (a 5)), (1, .int c1), (2, .int c2), (3, .int v3_10), (4, .int v4_11)]) dX1_gapsWith_76 4 rfl ci_1 (Nat.le_of_ble_eq_true rfl) [1, 2, 3, 4, 0] (fun _ => rfl) h (fun v4_11 h => ?_)
        refine x_goto 79 C 5 dX1_gapsWith_79 rfl ?_
        exact ih _ h
    refine x_icmp_ge 20 C 28 dX1_gapsWith_20 rfl h (fun h => ?_) (fun h => ?_)
    · refine x_iload 28 C dX1_gapsWith_28 4 rfl ?_
      refine x_iconst 30 C dX1_gapsWith_30 ci_1 ?_
      refine x_iadd 31 C dX1_gapsWith_31 ?_
      exact hj2 _ h
    · refine x_iload 23 C dX1_gapsWith_23 4 rfl ?_
      refine x_goto 25 C 32 dX1_gapsWith_25 rfl ?_
      exact hj2 _ h
set_option maxRecDepth 100000 in
set_option maxHeartbeats 4000000 in
theorem M_X1_gapsWith (l : Launch) (D : va_G) (a : Nat → Nat) (b : Nat → ClassId) (S0 : XSt) (x1 : Int32) (x2 : Int32)  {r9 : Int32} {S9 : XSt} (h : F_X1_gapsWith S0 x1 x2 = some (r9, S9)) : xM l (ωC D a b) yX1_gapsWith cX1_gapsWith 6 (some .int) rm_X1_gapsWith [.ref (a 5), .int x1, .int x2] S0 (some (.int r9), S9) := by
  unfold F_X1_gapsWith at h
  refine xM_of (own := "GraveOrder$FirstRow") (by decide) rfl (Nat.le_of_ble_eq_true rfl) (fun Γ C => ?_)
  refine x_sub 0 [0, 1, 2] (lv' := [(0, .ref (a 5)), (1, .int x1), (2, .int x2)]) rfl ?_
  refine x_iconst 0 C dX1_gapsWith_0 ci_0 ?_
  refine x_istore_n 1 C (lv' := [(0, .ref (a 5)), (1, .int x1), (2, .int x2), (3, .int 0)]) dX1_gapsWith_1 rfl (Nat.le_of_ble_eq_true rfl) [1, 2, 3, 0] rfl ?_
  refine x_iconst 2 C dX1_gapsWith_2 ci_0 ?_
  refine x_istore 3 C (lv' := [(0, .ref (a 5)), (1, .int x1), (2, .int x2), (3, .int 0), (4, .int 0)]) dX1_gapsWith_3 (Nat.le_of_ble_eq_true rfl) [1, 2, 3, 4, 0] rfl ?_
  refine x_loop (E := fun e => XAt (ωC D a b) Γ 82 [(0, .ref (a 5)), (1, .int x1), (2, .int x2), (3, .int e.1)] [] e.2) (P := fun t => XAt (ωC D a b) Γ 5 [(0, .ref (a 5)), (1, .int x1), (2, .int x2), (3, .int t.1), (4, .int t.2.1)] [] t.2.2) h (fun e12 h => ?_) (fun kx rc t hk ih h => w_X1_gapsWith_5 l D a b S0 C   x1 x2 kx rc hk ih t.1 t.2.1 t.2.2 h)
  refine x_aload_n 82 C dX1_gapsWith_82 rfl 0 rfl ?_
  refine gX1_laid 83 C kw_244 dX1_gapsWith_83 ?_
  refine x_iload_n 86 C dX1_gapsWith_86 rfl 2 rfl ?_
  refine x_iload_n 87 C dX1_gapsWith_87 rfl 1 rfl ?_
  obtain ⟨hg13, h⟩ := xif_some h
  refine c_iast 88 C (n := 9) rfl hg13 dX1_gapsWith_88 ?_
  refine x_topS h (fun S14 h => ?_)
  refine x_aload_n 89 C dX1_gapsWith_89 rfl 0 rfl ?_
  refine x_aload_n 90 C dX1_gapsWith_90 rfl 0 rfl ?_
  refine gX1_yard 91 C kw_241 dX1_gapsWith_91 ?_
  refine gX5_graves 94 C kw_106 dX1_gapsWith_94 ?_
  refine x_iconst 97 C dX1_gapsWith_97 ci_1 ?_
  refine x_iadd 98 C dX1_gapsWith_98 ?_
  refine x_iload_n 99 C dX1_gapsWith_99 rfl 3 rfl ?_
  obtain ⟨z15, hz15, h⟩ := xbind_some h
  refine x_callV 100 C (q0 := 5) (ci := 1) 2 (As := [.int ((S14 1 4) + (1 : Int32)), .int e12.1]) (rest := []) (M_X1_gapsAsLaid l D a b S14 ((S14 1 4) + (1 : Int32)) e12.1  hz15) (by rfl) rfl kw_434 mv_X1_gapsAsLaid mh_X1_gapsAsLaid ⟨rfl, rfl⟩ ⟨Nat.le_of_ble_eq_true rfl, Nat.le_of_ble_eq_true rfl⟩ rfl rfl (Nat.le_of_ble_eq_true rfl) dX1_gapsWith_100 ?_
  exact x_iret 103 C dX1_gapsWith_103 (Prod.mk.inj (Option.some.inj h)).1 (Prod.mk.inj (Option.some.inj h)).2
/-! GraveOrder$FirstRow.fewestGapsWith (I)I -/
def B_X1_fewestGapsWith_9 (c1 : Int32) (kx : (Int32 × XSt) → Option (Int32 × XSt)) (rc : (Int32 × Int32 × XSt) → Option (Int32 × XSt)) (y2 : Int32) (y3 : Int32) (S1 : XSt) : Option (Int32 × XSt) :=
  (if (S1 1 4) < y3 then kx (y2, S1) else ((F_X1_gapsWith S1 c1 y3).bind fun z3 => (xlet (xmin y2 z3.1) fun v2_4 => (xlet (y3 + 1) fun v3_5 => rc (v2_4, v3_5, z3.2)))))
def F_X1_fewestGapsWith (S0 : XSt) (x1 : Int32) : (Option (Int32 × XSt)) :=
  ((F_X1_gapsWith S0 x1 0).bind fun z1 => (xlet z1.1 fun v2_2 => (xlp (fun k rc t => B_X1_fewestGapsWith_9  x1 k rc t.1 t.2.1 t.2.2) (fun e6 => (some (e6.1, e6.2))) XFU (v2_2, 1, z1.2))))
abbrev rm_X1_fewestGapsWith : Room := { frames := 4, cells := 0, slots := 0, locals := 93 }
set_option maxRecDepth 100000 in
set_option maxHeartbeats 4000000 in
theorem w_X1_fewestGapsWith_9 (l : Launch) (D : va_G) (a : Nat → Nat) (b : Nat → ClassId) (S0 : XSt) {Γ : XG XSt} {r9 : Int32} {S9 : XSt} (C : Cx (ωC D a b) Γ cX1_fewestGapsWith "GraveOrder$FirstRow" (some .int) l rm_X1_fewestGapsWith 4 (some (.int r9), S9)) (c1 : Int32)  (kx : (Int32 × XSt) → Option (Int32 × XSt)) (rc : (Int32 × Int32 × XSt) → Option (Int32 × XSt)) (hk : ∀ e, kx e = some (r9, S9) → XAt (ωC D a b) Γ 37 [(2, .int e.1)] [] e.2) (ih : ∀ t, rc t = some (r9, S9) → XAt (ωC D a b) Γ 9 [(0, .ref (a 5)), (1, .int c1), (2, .int t.1), (3, .int t.2.1)] [] t.2.2) (y2 : Int32) (y3 : Int32) (S1 : XSt) (h : B_X1_fewestGapsWith_9  c1 kx rc y2 y3 S1 = some (r9, S9)) : XAt (ωC D a b) Γ 9 [(0, .ref (a 5)), (1, .int c1), (2, .int y2), (3, .int y3)] [] S1 := by
  unfold B_X1_fewestGapsWith_9 at h
  refine x_iload_n 9 C dX1_fewestGapsWith_9 rfl 3 rfl ?_
  refine x_aload_n 10 C dX1_fewestGapsWith_10 rfl 0 rfl ?_
  refine gX1_yard 11 C kw_241 dX1_fewestGapsWith_11 ?_
  refine gX5_graves 14 C kw_106 dX1_fewestGapsWith_14 ?_
  refine x_icmp_gt 17 C 37 dX1_fewestGapsWith_17 rfl h (fun h => ?_) (fun h => ?_)
  · exact x_sub 37 [2] rfl (hk _ h)
  · refine x_iload_n 20 C dX1_fewestGapsWith_20 rfl 2 rfl ?_
    refine x_aload_n 21 C dX1_fewestGapsWith_21 rfl 0 rfl ?_
    refine x_iload_n 22 C dX1_fewestGapsWith_22 rfl 1 rfl ?_
    refine x_iload_n 23 C dX1_fewestGapsWith_23 rfl 3 rfl ?_
    obtain ⟨z3, hz3, h⟩ := xbind_some h
    refine x_callV 24 C (q0 := 5) (ci := 1) 2 (As := [.int c1, .int y3]) (rest := [.int y2]) (M_X1_gapsWith l D a b S1 c1 y3  hz3) (by rfl) rfl kw_670 mv_X1_gapsWith mh_X1_gapsWith ⟨rfl, rfl⟩ ⟨Nat.le_of_ble_eq_true rfl, Nat.le_of_ble_eq_true rfl⟩ rfl rfl (Nat.le_of_ble_eq_true rfl) dX1_fewestGapsWith_24 ?_
    refine y_mmin 27 C kw_611_min kmath_min.1 kmath kmath_min.2 (Nat.le_of_ble_eq_true rfl) (Nat.le_of_ble_eq_true rfl) dX1_fewestGapsWith_27 ?_
    refine x_top h (fun v2_4 h => ?_)
    refine x_istore_n 30 C (lv' := [(0, .ref (a 5)), (1, .int c1), (2, .int v2_4), (3, .int y3)]) dX1_fewestGapsWith_30 rfl (Nat.le_of_ble_eq_true rfl) [1, 2, 0, 3] rfl ?_
    refine x_iinc 31 C (L := fun v3_5 => [(0, .ref (a 5)), (1, .int c1), (2, .int v2_4), (3, .int v3_5)]) dX1_fewestGapsWith_31 3 rfl ci_1 (Nat.le_of_ble_eq_true rfl) [1, 2, 3, 0] (fun _ => rfl) h (fun v3_5 h => ?_)
    refine x_goto 34 C 9 dX1_fewestGapsWith_34 rfl ?_
    exact ih _ h
set_option maxRecDepth 100000 in
set_option maxHeartbeats 4000000 in
theorem M_X1_fewestGapsWith (l : Launch) (D : va_G) (a : Nat → Nat) (b : Nat → ClassId) (S0 : XSt) (x1 : Int32)  {r9 : Int32} {S9 : XSt} (h : F_X1_fewestGapsWith S0 x1 = some (r9, S9)) : xM l (ωC D a b) yX1_fewestGapsWith cX1_fewestGapsWith 4 (some .int) rm_X1_fewestGapsWith [.ref (a 5), .int x1] S0 (some (.int r9), S9) := by
  unfold F_X1_fewestGapsWith at h
  refine xM_of (own := "GraveOrder$FirstRow") (by decide) rfl (Nat.le_of_ble_eq_true rfl) (fun Γ C => ?_)
  refine x_sub 0 [0, 1] (lv' := [(0, .ref (a 5)), (1, .int x1)]) rfl ?_
  refine x_aload_n 0 C dX1_fewestGapsWith_0 rfl 0 rfl ?_
  refine x_iload_n 1 C dX1_fewestGapsWith_1 rfl 1 rfl ?_
  refine x_iconst 2 C dX1_fewestGapsWith_2 ci_0 ?_
  obtain ⟨z1, hz1, h⟩ := xbind_some h
  refine x_callV 3 C (q0 := 5) (ci := 1) 2 (As := [.int x1, .int 0]) (rest := []) (M_X1_gapsWith l D a b S0 x1 0  hz1) (by rfl) rfl kw_670 mv_X1_gapsWith mh_X1_gapsWith ⟨rfl, rfl⟩ ⟨Nat.le_of_ble_eq_true rfl, Nat.le_of_ble_eq_true rfl⟩ rfl rfl (Nat.le_of_ble_eq_true rfl) dX1_fewestGapsWith_3 ?_
  refine x_top h (fun v2_2 h => ?_)
  refine x_istore_n 6 C (lv' := [(0, .ref (a 5)), (1, .int x1), (2, .int v2_2)]) dX1_fewestGapsWith_6 rfl (Nat.le_of_ble_eq_true rfl) [1, 2, 0] rfl ?_
  refine x_iconst 7 C dX1_fewestGapsWith_7 ci_1 ?_
  refine x_istore_n 8 C (lv' := [(0, .ref (a 5)), (1, .int x1), (2, .int v2_2), (3, .int 1)]) dX1_fewestGapsWith_8 rfl (Nat.le_of_ble_eq_true rfl) [1, 2, 3, 0] rfl ?_
  refine x_loop (E := fun e => XAt (ωC D a b) Γ 37 [(2, .int e.1)] [] e.2) (P := fun t => XAt (ωC D a b) Γ 9 [(0, .ref (a 5)), (1, .int x1), (2, .int t.1), (3, .int t.2.1)] [] t.2.2) h (fun e6 h => ?_) (fun kx rc t hk ih h => w_X1_fewestGapsWith_9 l D a b S0 C   x1 kx rc hk ih t.1 t.2.1 t.2.2 h)
  refine x_iload_n 37 C dX1_fewestGapsWith_37 rfl 0 rfl ?_
  exact x_iret 38 C dX1_fewestGapsWith_38 (Prod.mk.inj (Option.some.inj h)).1 (Prod.mk.inj (Option.some.inj h)).2
/-! GraveOrder$FirstRow.placesWith (II)I -/
def B_X1_placesWith_5 (c1 : Int32) (c2 : Int32) (kx : (Int32 × XSt) → Option (Int32 × XSt)) (rc : (Int32 × Int32 × XSt) → Option (Int32 × XSt)) (y3 : Int32) (y4 : Int32) (S1 : XSt) : Option (Int32 × XSt) :=
  (if (S1 1 4) < y4 then kx (y3, S1) else ((F_X1_gapsWith S1 c1 y4).bind fun z1 => (if z1.1 = c2 then (xlet (y3 ||| ((1 : Int32) <<< (y4 &&& 31))) fun v3_4 => (xlet (y4 + 1) fun v4_5 => rc (v3_4, v4_5, z1.2))) else (xlet (y3 ||| (0 : Int32)) fun v3_2 => (xlet (y4 + 1) fun v4_3 => rc (v3_2, v4_3, z1.2))))))
def F_X1_placesWith (S0 : XSt) (x1 : Int32) (x2 : Int32) : (Option (Int32 × XSt)) :=
  (xlp (fun k rc t => B_X1_placesWith_5  x1 x2 k rc t.1 t.2.1 t.2.2) (fun e6 => (some (e6.1, e6.2))) XFU (0, 0, S0))
abbrev rm_X1_placesWith : Room := { frames := 4, cells := 0, slots := 0, locals := 93 }
set_option maxRecDepth 100000 in
set_option maxHeartbeats 4000000 in
theorem w_X1_placesWith_5 (l : Launch) (D : va_G) (a : Nat → Nat) (b : Nat → ClassId) (S0 : XSt) {Γ : XG XSt} {r9 : Int32} {S9 : XSt} (C : Cx (ωC D a b) Γ cX1_placesWith "GraveOrder$FirstRow" (some .int) l rm_X1_placesWith 5 (some (.int r9), S9)) (c1 : Int32) (c2 : Int32)  (kx : (Int32 × XSt) → Option (Int32 × XSt)) (rc : (Int32 × Int32 × XSt) → Option (Int32 × XSt)) (hk : ∀ e, kx e = some (r9, S9) → XAt (ωC D a b) Γ 45 [(3, .int e.1)] [] e.2) (ih : ∀ t, rc t = some (r9, S9) → XAt (ωC D a b) Γ 5 [(0, .ref (a 5)), (1, .int c1), (2, .int c2), (3, .int t.1), (4, .int t.2.1)] [] t.2.2) (y3 : Int32) (y4 : Int32) (S1 : XSt) (h : B_X1_placesWith_5  c1 c2 kx rc y3 y4 S1 = some (r9, S9)) : XAt (ωC D a b) Γ 5 [(0, .ref (a 5)), (1, .int c1), (2, .int c2), (3, .int y3), (4, .int y4)] [] S1 := by
  unfold B_X1_placesWith_5 at h
  refine x_iload 5 C dX1_placesWith_5 4 rfl ?_
  refine x_aload_n 7 C dX1_placesWith_7 rfl 0 rfl ?_
  refine gX1_yard 8 C kw_241 dX1_placesWith_8 ?_
  refine gX5_graves 11 C kw_106 dX1_placesWith_11 ?_
  refine x_icmp_gt 14 C 45 dX1_placesWith_14 rfl h (fun h => ?_) (fun h => ?_)
  · exact x_sub 45 [3] rfl (hk _ h)
  · refine x_iload_n 17 C dX1_placesWith_17 rfl 3 rfl ?_
    refine x_aload_n 18 C dX1_placesWith_18 rfl 0 rfl ?_
    refine x_iload_n 19 C dX1_placesWith_19 rfl 1 rfl ?_
    refine x_iload 20 C dX1_placesWith_20 4 rfl ?_
    obtain ⟨z1, hz1, h⟩ := xbind_some h
    refine x_callV 22 C (q0 := 5) (ci := 1) 2 (As := [.int c1, .int y4]) (rest := [.int y3]) (M_X1_gapsWith l D a b S1 c1 y4  hz1) (by rfl) rfl kw_670 mv_X1_gapsWith mh_X1_gapsWith ⟨rfl, rfl⟩ ⟨Nat.le_of_ble_eq_true rfl, Nat.le_of_ble_eq_true rfl⟩ rfl rfl (Nat.le_of_ble_eq_true rfl) dX1_placesWith_22 ?_
    refine x_iload_n 25 C dX1_placesWith_25 rfl 2 rfl ?_
    refine x_icmp_ne 26 C 36 dX1_placesWith_26 rfl h (fun h => ?_) (fun h => ?_)
    · refine x_iconst 36 C dX1_placesWith_36 ci_0 ?_
      refine x_ior 37 C dX1_placesWith_37 ?_
      refine x_top h (fun v3_2 h => ?_)
      refine x_istore_n 38 C (lv' := [(0, .ref (a 5)), (1, .int c1), (2, .int c2), (3, .int v3_2), (4, .int y4)]) dX1_placesWith_38 rfl (Nat.le_of_ble_eq_true rfl) [1, 2, 3, 0, 4] rfl ?_
      refine x_iinc 39 C (L := fun v4_3 => [(0, .ref (a 5)), (1, .int c1), (2, .int c2), (3, .int v3_2), (4, .int v4_3)]) dX1_placesWith_39 4 rfl ci_1 (Nat.le_of_ble_eq_true rfl) [1, 2, 3, 4, 0] (fun _ => rfl) h (fun v4_3 h => ?_)
      refine x_goto 42 C 5 dX1_placesWith_42 rfl ?_
      exact ih _ h
    · refine x_iconst 29 C dX1_placesWith_29 ci_1 ?_
      refine x_iload 30 C dX1_placesWith_30 4 rfl ?_
      refine x_ishl 32 C dX1_placesWith_32 ?_
      refine x_goto 33 C 37 dX1_placesWith_33 rfl ?_
      refine x_ior 37 C dX1_placesWith_37 ?_
      refine x_top h (fun v3_4 h => ?_)
      refine x_istore_n 38 C (lv' := [(0, .ref (a 5)), (1, .int c1), (2, .int c2), (3, .int v3_4), (4, .int y4)]) dX1_placesWith_38 rfl (Nat.le_of_ble_eq_true rfl) [1, 2, 3, 0, 4] rfl ?_
      refine x_iinc 39 C (L := fun v4_5 => [(0, .ref (a 5)), (1, .int c1), (2, .int c2), (3, .int v3_4), (4, .int v4_5)]) dX1_placesWith_39 4 rfl ci_1 (Nat.le_of_ble_eq_true rfl) [1, 2, 3, 4, 0] (fun _ => rfl) h (fun v4_5 h => ?_)
      refine x_goto 42 C 5 dX1_placesWith_42 rfl ?_
      exact ih _ h
set_option maxRecDepth 100000 in
set_option maxHeartbeats 4000000 in
theorem M_X1_placesWith (l : Launch) (D : va_G) (a : Nat → Nat) (b : Nat → ClassId) (S0 : XSt) (x1 : Int32) (x2 : Int32)  {r9 : Int32} {S9 : XSt} (h : F_X1_placesWith S0 x1 x2 = some (r9, S9)) : xM l (ωC D a b) yX1_placesWith cX1_placesWith 5 (some .int) rm_X1_placesWith [.ref (a 5), .int x1, .int x2] S0 (some (.int r9), S9) := by
  unfold F_X1_placesWith at h
  refine xM_of (own := "GraveOrder$FirstRow") (by decide) rfl (Nat.le_of_ble_eq_true rfl) (fun Γ C => ?_)
  refine x_sub 0 [0, 1, 2] (lv' := [(0, .ref (a 5)), (1, .int x1), (2, .int x2)]) rfl ?_
  refine x_iconst 0 C dX1_placesWith_0 ci_0 ?_
  refine x_istore_n 1 C (lv' := [(0, .ref (a 5)), (1, .int x1), (2, .int x2), (3, .int 0)]) dX1_placesWith_1 rfl (Nat.le_of_ble_eq_true rfl) [1, 2, 3, 0] rfl ?_
  refine x_iconst 2 C dX1_placesWith_2 ci_0 ?_
  refine x_istore 3 C (lv' := [(0, .ref (a 5)), (1, .int x1), (2, .int x2), (3, .int 0), (4, .int 0)]) dX1_placesWith_3 (Nat.le_of_ble_eq_true rfl) [1, 2, 3, 4, 0] rfl ?_
  refine x_loop (E := fun e => XAt (ωC D a b) Γ 45 [(3, .int e.1)] [] e.2) (P := fun t => XAt (ωC D a b) Γ 5 [(0, .ref (a 5)), (1, .int x1), (2, .int x2), (3, .int t.1), (4, .int t.2.1)] [] t.2.2) h (fun e6 h => ?_) (fun kx rc t hk ih h => w_X1_placesWith_5 l D a b S0 C   x1 x2 kx rc hk ih t.1 t.2.1 t.2.2 h)
  refine x_iload_n 45 C dX1_placesWith_45 rfl 0 rfl ?_
  exact x_iret 46 C dX1_placesWith_46 (Prod.mk.inj (Option.some.inj h)).1 (Prod.mk.inj (Option.some.inj h)).2
/-! GraveOrder$FirstRow.mendingFrom (III)I -/
def B_X1_mendingFrom_12 (S0 : XSt) (c2 : Int32) (c3 : Int32) (kx : Int32 → Option Int32) (rc : (Int32 × Int32 × Int32 × Int32) → Option Int32) (y4 : Int32) (y5 : Int32) (y6 : Int32) (y7 : Int32) : Option Int32 :=
  (if (S0 1 4) ≤ y7 then kx y4 else ((F_X1_hasAt S0 y7 c2).bind fun z1 => (if z1 = 0 then ((F_X1_robbedAt S0 y7).bind fun z2 => (if z2 = 0 then (xlet (y6 + 1) fun v6_4 => (xlet (y7 + 1) fun v7_5 => rc (y4, y5, v6_4, v7_5))) else (xlet (y7 + 1) fun v7_3 => rc (y4, y5, y6, v7_3)))) else (xlet (y5 + 1) fun v5_6 => (xlet (xmin y4 ((c3 - v5_6) + y6)) fun v4_7 => (xlet (y7 + 1) fun v7_8 => rc (v4_7, v5_6, y6, v7_8)))))))
def F_X1_mendingFrom (S0 : XSt) (x1 : Int32) (x2 : Int32) (x3 : Int32) : (Option Int32) :=
  (xlp (fun k rc t => B_X1_mendingFrom_12 S0  x2 x3 k rc t.1 t.2.1 t.2.2.1 t.2.2.2) (fun e9 => (some e9)) XFU (x3, 0, 0, x1))
abbrev rm_X1_mendingFrom : Room := { frames := 1, cells := 0, slots := 0, locals := 24 }
set_option maxRecDepth 100000 in
set_option maxHeartbeats 4000000 in
theorem w_X1_mendingFrom_12 (l : Launch) (D : va_G) (a : Nat → Nat) (b : Nat → ClassId) (S0 : XSt) {Γ : XG XSt} {r9 : Int32} (C : Cx (ωC D a b) Γ cX1_mendingFrom "GraveOrder$FirstRow" (some .int) l rm_X1_mendingFrom 8 (some (.int r9), S0)) (c2 : Int32) (c3 : Int32)  (kx : Int32 → Option Int32) (rc : (Int32 × Int32 × Int32 × Int32) → Option Int32) (hk : ∀ e, kx e = some r9 → XAt (ωC D a b) Γ 72 [(4, .int e)] [] S0) (ih : ∀ t, rc t = some r9 → XAt (ωC D a b) Γ 12 [(0, .ref (a 5)), (2, .int c2), (3, .int c3), (4, .int t.1), (5, .int t.2.1), (6, .int t.2.2.1), (7, .int t.2.2.2)] [] S0) (y4 : Int32) (y5 : Int32) (y6 : Int32) (y7 : Int32) (h : B_X1_mendingFrom_12 S0  c2 c3 kx rc y4 y5 y6 y7 = some r9) : XAt (ωC D a b) Γ 12 [(0, .ref (a 5)), (2, .int c2), (3, .int c3), (4, .int y4), (5, .int y5), (6, .int y6), (7, .int y7)] [] S0 := by
  unfold B_X1_mendingFrom_12 at h
  refine x_iload 12 C dX1_mendingFrom_12 6 rfl ?_
  refine x_aload_n 14 C dX1_mendingFrom_14 rfl 0 rfl ?_
  refine gX1_yard 15 C kw_241 dX1_mendingFrom_15 ?_
  refine gX5_graves 18 C kw_106 dX1_mendingFrom_18 ?_
  refine x_icmp_ge 21 C 72 dX1_mendingFrom_21 rfl h (fun h => ?_) (fun h => ?_)
  · exact x_sub 72 [3] rfl (hk _ h)
  · refine x_aload_n 24 C dX1_mendingFrom_24 rfl 0 rfl ?_
    refine x_iload 25 C dX1_mendingFrom_25 6 rfl ?_
    refine x_iload_n 27 C dX1_mendingFrom_27 rfl 1 rfl ?_
    obtain ⟨z1, hz1, h⟩ := xbind_some h
    refine x_callV 28 C (q0 := 5) (ci := 1) 2 (As := [.int y7, .int c2]) (rest := []) (M_X1_hasAt l D a b S0 y7 c2  hz1) (by rfl) rfl kw_603 mv_X1_hasAt mh_X1_hasAt ⟨rfl, rfl⟩ ⟨Nat.le_of_ble_eq_true rfl, Nat.le_of_ble_eq_true rfl⟩ rfl rfl (Nat.le_of_ble_eq_true rfl) dX1_mendingFrom_28 ?_
    refine x_if_eq 31 C 54 dX1_mendingFrom_31 rfl h (fun h => ?_) (fun h => ?_)
    · refine x_aload_n 54 C dX1_mendingFrom_54 rfl 0 rfl ?_
      refine x_iload 55 C dX1_mendingFrom_55 6 rfl ?_
      obtain ⟨z2, hz2, h⟩ := xbind_some h
      refine x_callV 57 C (q0 := 5) (ci := 1) 1 (As := [.int y7]) (rest := []) (M_X1_robbedAt l D a b S0 y7  hz2) (by rfl) rfl kw_612 mv_X1_robbedAt mh_X1_robbedAt ⟨rfl, rfl⟩ ⟨Nat.le_of_ble_eq_true rfl, Nat.le_of_ble_eq_true rfl⟩ rfl rfl (Nat.le_of_ble_eq_true rfl) dX1_mendingFrom_57 ?_
      refine x_if_ne 60 C 66 dX1_mendingFrom_60 rfl h (fun h => ?_) (fun h => ?_)
      · refine x_iinc 66 C (L := fun v7_3 => [(0, .ref (a 5)), (2, .int c2), (3, .int c3), (4, .int y4), (5, .int y5), (6, .int y6), (7, .int v7_3)]) dX1_mendingFrom_66 6 rfl ci_1 (Nat.le_of_ble_eq_true rfl) [1, 2, 3, 4, 5, 6, 0] (fun _ => rfl) h (fun v7_3 h => ?_)
        refine x_goto 69 C 12 dX1_mendingFrom_69 rfl ?_
        exact ih _ h
      · refine x_iinc 63 C (L := fun v6_4 => [(0, .ref (a 5)), (2, .int c2), (3, .int c3), (4, .int y4), (5, .int y5), (6, .int v6_4), (7, .int y7)]) dX1_mendingFrom_63 5 rfl ci_1 (Nat.le_of_ble_eq_true rfl) [1, 2, 3, 4, 5, 0, 6] (fun _ => rfl) h (fun v6_4 h => ?_)
        refine x_iinc 66 C (L := fun v7_5 => [(0, .ref (a 5)), (2, .int c2), (3, .int c3), (4, .int y4), (5, .int y5), (6, .int v6_4), (7, .int v7_5)]) dX1_mendingFrom_66 6 rfl ci_1 (Nat.le_of_ble_eq_true rfl) [1, 2, 3, 4, 5, 6, 0] (fun _ => rfl) h (fun v7_5 h => ?_)
        refine x_goto 69 C 12 dX1_mendingFrom_69 rfl ?_
        exact ih _ h
    · refine x_iinc 34 C (L := fun v5_6 => [(0, .ref (a 5)), (2, .int c2), (3, .int c3), (4, .int y4), (5, .int v5_6), (6, .int y6), (7, .int y7)]) dX1_mendingFrom_34 4 rfl ci_1 (Nat.le_of_ble_eq_true rfl) [1, 2, 3, 4, 0, 5, 6] (fun _ => rfl) h (fun v5_6 h => ?_)
      refine x_iload 37 C dX1_mendingFrom_37 3 rfl ?_
      refine x_iload_n 39 C dX1_mendingFrom_39 rfl 2 rfl ?_
      refine x_iload 40 C dX1_mendingFrom_40 4 rfl ?_
      refine x_isub 42 C dX1_mendingFrom_42 ?_
      refine x_iload 43 C dX1_mendingFrom_43 5 rfl ?_
      refine x_iadd 45 C dX1_mendingFrom_45 ?_
      refine y_mmin 46 C kw_611_min kmath_min.1 kmath kmath_min.2 (Nat.le_of_ble_eq_true rfl) (Nat.le_of_ble_eq_true rfl) dX1_mendingFrom_46 ?_
      refine x_top h (fun v4_7 h => ?_)
      refine x_istore 49 C (lv' := [(0, .ref (a 5)), (2, .int c2), (3, .int c3), (4, .int v4_7), (5, .int v5_6), (6, .int y6), (7, .int y7)]) dX1_mendingFrom_49 (Nat.le_of_ble_eq_true rfl) [1, 2, 3, 0, 4, 5, 6] rfl ?_
      refine x_goto 51 C 66 dX1_mendingFrom_51 rfl ?_
      refine x_iinc 66 C (L := fun v7_8 => [(0, .ref (a 5)), (2, .int c2), (3, .int c3), (4, .int v4_7), (5, .int v5_6), (6, .int y6), (7, .int v7_8)]) dX1_mendingFrom_66 6 rfl ci_1 (Nat.le_of_ble_eq_true rfl) [1, 2, 3, 4, 5, 6, 0] (fun _ => rfl) h (fun v7_8 h => ?_)
      refine x_goto 69 C 12 dX1_mendingFrom_69 rfl ?_
      exact ih _ h
set_option maxRecDepth 100000 in
set_option maxHeartbeats 4000000 in
theorem M_X1_mendingFrom (l : Launch) (D : va_G) (a : Nat → Nat) (b : Nat → ClassId) (S0 : XSt) (x1 : Int32) (x2 : Int32) (x3 : Int32)  {r9 : Int32} (h : F_X1_mendingFrom S0 x1 x2 x3 = some r9) : xM l (ωC D a b) yX1_mendingFrom cX1_mendingFrom 8 (some .int) rm_X1_mendingFrom [.ref (a 5), .int x1, .int x2, .int x3] S0 (some (.int r9), S0) := by
  unfold F_X1_mendingFrom at h
  refine xM_of (own := "GraveOrder$FirstRow") (by decide) rfl (Nat.le_of_ble_eq_true rfl) (fun Γ C => ?_)
  refine x_sub 0 [0, 1, 2, 3] (lv' := [(0, .ref (a 5)), (1, .int x1), (2, .int x2), (3, .int x3)]) rfl ?_
  refine x_iload_n 0 C dX1_mendingFrom_0 rfl 3 rfl ?_
  refine x_istore 1 C (lv' := [(0, .ref (a 5)), (1, .int x1), (2, .int x2), (3, .int x3), (4, .int x3)]) dX1_mendingFrom_1 (Nat.le_of_ble_eq_true rfl) [1, 2, 3, 4, 0] rfl ?_
  refine x_iconst 3 C dX1_mendingFrom_3 ci_0 ?_
  refine x_istore 4 C (lv' := [(0, .ref (a 5)), (1, .int x1), (2, .int x2), (3, .int x3), (4, .int x3), (5, .int 0)]) dX1_mendingFrom_4 (Nat.le_of_ble_eq_true rfl) [1, 2, 3, 4, 5, 0] rfl ?_
  refine x_iconst 6 C dX1_mendingFrom_6 ci_0 ?_
  refine x_istore 7 C (lv' := [(0, .ref (a 5)), (1, .int x1), (2, .int x2), (3, .int x3), (4, .int x3), (5, .int 0), (6, .int 0)]) dX1_mendingFrom_7 (Nat.le_of_ble_eq_true rfl) [1, 2, 3, 4, 5, 6, 0] rfl ?_
  refine x_iload_n 9 C dX1_mendingFrom_9 rfl 1 rfl ?_
  refine x_istore 10 C (lv' := [(0, .ref (a 5)), (2, .int x2), (3, .int x3), (4, .int x3), (5, .int 0), (6, .int 0), (7, .int x1)]) dX1_mendingFrom_10 (Nat.le_of_ble_eq_true rfl) [1, 3, 4, 5, 6, 7, 0] rfl ?_
  refine x_loop (E := fun e => XAt (ωC D a b) Γ 72 [(4, .int e)] [] S0) (P := fun t => XAt (ωC D a b) Γ 12 [(0, .ref (a 5)), (2, .int x2), (3, .int x3), (4, .int t.1), (5, .int t.2.1), (6, .int t.2.2.1), (7, .int t.2.2.2)] [] S0) h (fun e9 h => ?_) (fun kx rc t hk ih h => w_X1_mendingFrom_12 l D a b S0 C   x2 x3 kx rc hk ih t.1 t.2.1 t.2.2.1 t.2.2.2 h)
  refine x_iload 72 C dX1_mendingFrom_72 0 rfl ?_
  exact x_iret 74 C dX1_mendingFrom_74 (Option.some.inj h) rfl
/-! GraveOrder$FirstRow.mending (I)I -/
def B_X1_mending_4 (S0 : XSt) (c1 : Int32) (kx : Int32 → Option Int32) (rc : (Int32 × Int32) → Option Int32) (y2 : Int32) (y3 : Int32) : Option Int32 :=
  (if (S0 1 4) ≤ y3 then kx y2 else ((F_X1_hasAt S0 y3 c1).bind fun z1 => (if z1 = 0 then (xlet (y2 + (0 : Int32)) fun v2_2 => (xlet (y3 + 1) fun v3_3 => rc (v2_2, v3_3))) else (xlet (y2 + (1 : Int32)) fun v2_4 => (xlet (y3 + 1) fun v3_5 => rc (v2_4, v3_5))))))
def B_X1_mending_43 (S0 : XSt) (c1 : Int32) (c2 : Int32) (kx : Int32 → Option Int32) (rc : (Int32 × Int32) → Option Int32) (y3 : Int32) (y4 : Int32) : Option Int32 :=
  (if (S0 1 4) ≤ y4 then kx y3 else ((F_X1_hasAt S0 y4 c1).bind fun z7 => (if z7 = 0 then (xlet (y4 + 1) fun v4_8 => rc (y3, v4_8)) else ((F_X1_mendingFrom S0 y4 c1 c2).bind fun z9 => (xlet (xmin y3 z9) fun v3_10 => (xlet (y4 + 1) fun v4_11 => rc (v3_10, v4_11)))))))
def F_X1_mending (S0 : XSt) (x1 : Int32) : (Option Int32) :=
  (xlp (fun k rc t => B_X1_mending_4 S0  x1 k rc t.1 t.2) (fun e6 => (xlp (fun k rc t => B_X1_mending_43 S0  x1 e6 k rc t.1 t.2) (fun e12 => (some e12)) XFU (e6, 0))) XFU (0, 0))
abbrev rm_X1_mending : Room := { frames := 2, cells := 0, slots := 0, locals := 51 }
set_option maxRecDepth 100000 in
set_option maxHeartbeats 4000000 in
theorem w_X1_mending_4 (l : Launch) (D : va_G) (a : Nat → Nat) (b : Nat → ClassId) (S0 : XSt) {Γ : XG XSt} {r9 : Int32} (C : Cx (ωC D a b) Γ cX1_mending "GraveOrder$FirstRow" (some .int) l rm_X1_mending 5 (some (.int r9), S0)) (c1 : Int32)  (kx : Int32 → Option Int32) (rc : (Int32 × Int32) → Option Int32) (hk : ∀ e, kx e = some r9 → XAt (ωC D a b) Γ 38 [(0, .ref (a 5)), (1, .int c1), (2, .int e)] [] S0) (ih : ∀ t, rc t = some r9 → XAt (ωC D a b) Γ 4 [(0, .ref (a 5)), (1, .int c1), (2, .int t.1), (3, .int t.2)] [] S0) (y2 : Int32) (y3 : Int32) (h : B_X1_mending_4 S0  c1 kx rc y2 y3 = some r9) : XAt (ωC D a b) Γ 4 [(0, .ref (a 5)), (1, .int c1), (2, .int y2), (3, .int y3)] [] S0 := by
  unfold B_X1_mending_4 at h
  refine x_iload_n 4 C dX1_mending_4 rfl 3 rfl ?_
  refine x_aload_n 5 C dX1_mending_5 rfl 0 rfl ?_
  refine gX1_yard 6 C kw_241 dX1_mending_6 ?_
  refine gX5_graves 9 C kw_106 dX1_mending_9 ?_
  refine x_icmp_ge 12 C 38 dX1_mending_12 rfl h (fun h => ?_) (fun h => ?_)
  · exact x_sub 38 [0, 1, 2] rfl (hk _ h)
  · refine x_iload_n 15 C dX1_mending_15 rfl 2 rfl ?_
    refine x_aload_n 16 C dX1_mending_16 rfl 0 rfl ?_
    refine x_iload_n 17 C dX1_mending_17 rfl 3 rfl ?_
    refine x_iload_n 18 C dX1_mending_18 rfl 1 rfl ?_
    obtain ⟨z1, hz1, h⟩ := xbind_some h
    refine x_callV 19 C (q0 := 5) (ci := 1) 2 (As := [.int y3, .int c1]) (rest := [.int y2]) (M_X1_hasAt l D a b S0 y3 c1  hz1) (by rfl) rfl kw_603 mv_X1_hasAt mh_X1_hasAt ⟨rfl, rfl⟩ ⟨Nat.le_of_ble_eq_true rfl, Nat.le_of_ble_eq_true rfl⟩ rfl rfl (Nat.le_of_ble_eq_true rfl) dX1_mending_19 ?_
    refine x_if_eq 22 C 29 dX1_mending_22 rfl h (fun h => ?_) (fun h => ?_)
    · refine x_iconst 29 C dX1_mending_29 ci_0 ?_
      refine x_iadd 30 C dX1_mending_30 ?_
      refine x_top h (fun v2_2 h => ?_)
      refine x_istore_n 31 C (lv' := [(0, .ref (a 5)), (1, .int c1), (2, .int v2_2), (3, .int y3)]) dX1_mending_31 rfl (Nat.le_of_ble_eq_true rfl) [1, 2, 0, 3] rfl ?_
      refine x_iinc 32 C (L := fun v3_3 => [(0, .ref (a 5)), (1, .int c1), (2, .int v2_2), (3, .int v3_3)]) dX1_mending_32 3 rfl ci_1 (Nat.le_of_ble_eq_true rfl) [1, 2, 3, 0] (fun _ => rfl) h (fun v3_3 h => ?_)
      refine x_goto 35 C 4 dX1_mending_35 rfl ?_
      exact ih _ h
    · refine x_iconst 25 C dX1_mending_25 ci_1 ?_
      refine x_goto 26 C 30 dX1_mending_26 rfl ?_
      refine x_iadd 30 C dX1_mending_30 ?_
      refine x_top h (fun v2_4 h => ?_)
      refine x_istore_n 31 C (lv' := [(0, .ref (a 5)), (1, .int c1), (2, .int v2_4), (3, .int y3)]) dX1_mending_31 rfl (Nat.le_of_ble_eq_true rfl) [1, 2, 0, 3] rfl ?_
      refine x_iinc 32 C (L := fun v3_5 => [(0, .ref (a 5)), (1, .int c1), (2, .int v2_4), (3, .int v3_5)]) dX1_mending_32 3 rfl ci_1 (Nat.le_of_ble_eq_true rfl) [1, 2, 3, 0] (fun _ => rfl) h (fun v3_5 h => ?_)
      refine x_goto 35 C 4 dX1_mending_35 rfl ?_
      exact ih _ h
set_option maxRecDepth 100000 in
set_option maxHeartbeats 4000000 in
theorem w_X1_mending_43 (l : Launch) (D : va_G) (a : Nat → Nat) (b : Nat → ClassId) (S0 : XSt) {Γ : XG XSt} {r9 : Int32} (C : Cx (ωC D a b) Γ cX1_mending "GraveOrder$FirstRow" (some .int) l rm_X1_mending 5 (some (.int r9), S0)) (c1 : Int32) (c2 : Int32)  (kx : Int32 → Option Int32) (rc : (Int32 × Int32) → Option Int32) (hk : ∀ e, kx e = some r9 → XAt (ωC D a b) Γ 84 [(3, .int e)] [] S0) (ih : ∀ t, rc t = some r9 → XAt (ωC D a b) Γ 43 [(0, .ref (a 5)), (1, .int c1), (2, .int c2), (3, .int t.1), (4, .int t.2)] [] S0) (y3 : Int32) (y4 : Int32) (h : B_X1_mending_43 S0  c1 c2 kx rc y3 y4 = some r9) : XAt (ωC D a b) Γ 43 [(0, .ref (a 5)), (1, .int c1), (2, .int c2), (3, .int y3), (4, .int y4)] [] S0 := by
  unfold B_X1_mending_43 at h
  refine x_iload 43 C dX1_mending_43 4 rfl ?_
  refine x_aload_n 45 C dX1_mending_45 rfl 0 rfl ?_
  refine gX1_yard 46 C kw_241 dX1_mending_46 ?_
  refine gX5_graves 49 C kw_106 dX1_mending_49 ?_
  refine x_icmp_ge 52 C 84 dX1_mending_52 rfl h (fun h => ?_) (fun h => ?_)
  · exact x_sub 84 [3] rfl (hk _ h)
  · refine x_aload_n 55 C dX1_mending_55 rfl 0 rfl ?_
    refine x_iload 56 C dX1_mending_56 4 rfl ?_
    refine x_iload_n 58 C dX1_mending_58 rfl 1 rfl ?_
    obtain ⟨z7, hz7, h⟩ := xbind_some h
    refine x_callV 59 C (q0 := 5) (ci := 1) 2 (As := [.int y4, .int c1]) (rest := []) (M_X1_hasAt l D a b S0 y4 c1  hz7) (by rfl) rfl kw_603 mv_X1_hasAt mh_X1_hasAt ⟨rfl, rfl⟩ ⟨Nat.le_of_ble_eq_true rfl, Nat.le_of_ble_eq_true rfl⟩ rfl rfl (Nat.le_of_ble_eq_true rfl) dX1_mending_59 ?_
    refine x_if_eq 62 C 78 dX1_mending_62 rfl h (fun h => ?_) (fun h => ?_)
    · refine x_iinc 78 C (L := fun v4_8 => [(0, .ref (a 5)), (1, .int c1), (2, .int c2), (3, .int y3), (4, .int v4_8)]) dX1_mending_78 4 rfl ci_1 (Nat.le_of_ble_eq_true rfl) [1, 2, 3, 4, 0] (fun _ => rfl) h (fun v4_8 h => ?_)
      refine x_goto 81 C 43 dX1_mending_81 rfl ?_
      exact ih _ h
    · refine x_iload_n 65 C dX1_mending_65 rfl 3 rfl ?_
      refine x_aload_n 66 C dX1_mending_66 rfl 0 rfl ?_
      refine x_iload 67 C dX1_mending_67 4 rfl ?_
      refine x_iload_n 69 C dX1_mending_69 rfl 1 rfl ?_
      refine x_iload_n 70 C dX1_mending_70 rfl 2 rfl ?_
      obtain ⟨z9, hz9, h⟩ := xbind_some h
      refine x_callV 71 C (q0 := 5) (ci := 1) 3 (As := [.int y4, .int c1, .int c2]) (rest := [.int y3]) (M_X1_mendingFrom l D a b S0 y4 c1 c2  hz9) (by rfl) rfl kw_607 mv_X1_mendingFrom mh_X1_mendingFrom ⟨rfl, rfl⟩ ⟨Nat.le_of_ble_eq_true rfl, Nat.le_of_ble_eq_true rfl⟩ rfl rfl (Nat.le_of_ble_eq_true rfl) dX1_mending_71 ?_
      refine y_mmin 74 C kw_611_min kmath_min.1 kmath kmath_min.2 (Nat.le_of_ble_eq_true rfl) (Nat.le_of_ble_eq_true rfl) dX1_mending_74 ?_
      refine x_top h (fun v3_10 h => ?_)
      refine x_istore_n 77 C (lv' := [(0, .ref (a 5)), (1, .int c1), (2, .int c2), (3, .int v3_10), (4, .int y4)]) dX1_mending_77 rfl (Nat.le_of_ble_eq_true rfl) [1, 2, 3, 0, 4] rfl ?_
      refine x_iinc 78 C (L := fun v4_11 => [(0, .ref (a 5)), (1, .int c1), (2, .int c2), (3, .int v3_10), (4, .int v4_11)]) dX1_mending_78 4 rfl ci_1 (Nat.le_of_ble_eq_true rfl) [1, 2, 3, 4, 0] (fun _ => rfl) h (fun v4_11 h => ?_)
      refine x_goto 81 C 43 dX1_mending_81 rfl ?_
      exact ih _ h
set_option maxRecDepth 100000 in
set_option maxHeartbeats 4000000 in
theorem M_X1_mending (l : Launch) (D : va_G) (a : Nat → Nat) (b : Nat → ClassId) (S0 : XSt) (x1 : Int32)  {r9 : Int32} (h : F_X1_mending S0 x1 = some r9) : xM l (ωC D a b) yX1_mending cX1_mending 5 (some .int) rm_X1_mending [.ref (a 5), .int x1] S0 (some (.int r9), S0) := by
  unfold F_X1_mending at h
  refine xM_of (own := "GraveOrder$FirstRow") (by decide) rfl (Nat.le_of_ble_eq_true rfl) (fun Γ C => ?_)
  refine x_sub 0 [0, 1] (lv' := [(0, .ref (a 5)), (1, .int x1)]) rfl ?_
  refine x_iconst 0 C dX1_mending_0 ci_0 ?_
  refine x_istore_n 1 C (lv' := [(0, .ref (a 5)), (1, .int x1), (2, .int 0)]) dX1_mending_1 rfl (Nat.le_of_ble_eq_true rfl) [1, 2, 0] rfl ?_
  refine x_iconst 2 C dX1_mending_2 ci_0 ?_
  refine x_istore_n 3 C (lv' := [(0, .ref (a 5)), (1, .int x1), (2, .int 0), (3, .int 0)]) dX1_mending_3 rfl (Nat.le_of_ble_eq_true rfl) [1, 2, 3, 0] rfl ?_
  refine x_loop (E := fun e => XAt (ωC D a b) Γ 38 [(0, .ref (a 5)), (1, .int x1), (2, .int e)] [] S0) (P := fun t => XAt (ωC D a b) Γ 4 [(0, .ref (a 5)), (1, .int x1), (2, .int t.1), (3, .int t.2)] [] S0) h (fun e6 h => ?_) (fun kx rc t hk ih h => w_X1_mending_4 l D a b S0 C   x1 kx rc hk ih t.1 t.2 h)
  refine x_iload_n 38 C dX1_mending_38 rfl 2 rfl ?_
  refine x_istore_n 39 C (lv' := [(0, .ref (a 5)), (1, .int x1), (2, .int e6), (3, .int e6)]) dX1_mending_39 rfl (Nat.le_of_ble_eq_true rfl) [1, 2, 3, 0] rfl ?_
  refine x_iconst 40 C dX1_mending_40 ci_0 ?_
  refine x_istore 41 C (lv' := [(0, .ref (a 5)), (1, .int x1), (2, .int e6), (3, .int e6), (4, .int 0)]) dX1_mending_41 (Nat.le_of_ble_eq_true rfl) [1, 2, 3, 4, 0] rfl ?_
  refine x_loop (E := fun e => XAt (ωC D a b) Γ 84 [(3, .int e)] [] S0) (P := fun t => XAt (ωC D a b) Γ 43 [(0, .ref (a 5)), (1, .int x1), (2, .int e6), (3, .int t.1), (4, .int t.2)] [] S0) h (fun e12 h => ?_) (fun kx rc t hk ih h => w_X1_mending_43 l D a b S0 C   x1 e6 kx rc hk ih t.1 t.2 h)
  refine x_iload_n 84 C dX1_mending_84 rfl 0 rfl ?_
  exact x_iret 85 C dX1_mending_85 (Option.some.inj h) rfl
/-! GraveOrder$FirstRow.isCutAhead (II)Z -/
def F_X1_isCutAhead (S0 : XSt) (x1 : Int32) (x2 : Int32) : Int32 :=
  (if x1 ≤ 0 then 0 else (if ((x2 >>> ((((S0 1 4) - (1 : Int32)) - x1) &&& 31)) &&& (1 : Int32)) = 0 then 0 else 1))
theorem Z_X1_isCutAhead (S0 : XSt) (x1 : Int32) (x2 : Int32) : xbool (F_X1_isCutAhead S0 x1 x2) = true := by
  unfold F_X1_isCutAhead
  repeat' split
  all_goals first | rfl | exact Z_X6_within _ _ _ | exact Z_X7_in _ _ _ | apply Z_X7_is
abbrev rm_X1_isCutAhead : Room := { frames := 0, cells := 0, slots := 0, locals := 0 }
set_option maxRecDepth 100000 in
set_option maxHeartbeats 4000000 in
theorem M_X1_isCutAhead (l : Launch) (D : va_G) (a : Nat → Nat) (b : Nat → ClassId) (S0 : XSt) (x1 : Int32) (x2 : Int32)  : xM l (ωC D a b) yX1_isCutAhead cX1_isCutAhead 3 (some .boolean) rm_X1_isCutAhead [.ref (a 5), .int x1, .int x2] S0 (some (.int (F_X1_isCutAhead S0 x1 x2)), S0) := by
  obtain ⟨r9, h⟩ : ∃ r9, F_X1_isCutAhead S0 x1 x2 = r9 := ⟨_, rfl⟩
  rw [h]
  unfold F_X1_isCutAhead at h
  refine xM_of (own := "GraveOrder$FirstRow") (by decide) rfl (Nat.le_of_ble_eq_true rfl) (fun Γ C => ?_)
  refine x_sub 0 [0, 1, 2] (lv' := [(0, .ref (a 5)), (1, .int x1), (2, .int x2)]) rfl ?_
  refine x_iload_n 0 C dX1_isCutAhead_0 rfl 1 rfl ?_
  refine x_if_le 1 C 26 dX1_isCutAhead_1 rfl h (fun h => ?_) (fun h => ?_)
  · refine x_iconst 26 C dX1_isCutAhead_26 ci_0 ?_
    exact x_zret 27 C dX1_isCutAhead_27 rfl h rfl
  · refine x_iload_n 4 C dX1_isCutAhead_4 rfl 2 rfl ?_
    refine x_aload_n 5 C dX1_isCutAhead_5 rfl 0 rfl ?_
    refine gX1_yard 6 C kw_241 dX1_isCutAhead_6 ?_
    refine gX5_graves 9 C kw_106 dX1_isCutAhead_9 ?_
    refine x_iconst 12 C dX1_isCutAhead_12 ci_1 ?_
    refine x_isub 13 C dX1_isCutAhead_13 ?_
    refine x_iload_n 14 C dX1_isCutAhead_14 rfl 1 rfl ?_
    refine x_isub 15 C dX1_isCutAhead_15 ?_
    refine x_ishr 16 C dX1_isCutAhead_16 ?_
    refine x_iconst 17 C dX1_isCutAhead_17 ci_1 ?_
    refine x_iand 18 C dX1_isCutAhead_18 ?_
    refine x_if_eq 19 C 26 dX1_isCutAhead_19 rfl h (fun h => ?_) (fun h => ?_)
    · refine x_iconst 26 C dX1_isCutAhead_26 ci_0 ?_
      exact x_zret 27 C dX1_isCutAhead_27 rfl h rfl
    · refine x_iconst 22 C dX1_isCutAhead_22 ci_1 ?_
      refine x_goto 23 C 27 dX1_isCutAhead_23 rfl ?_
      exact x_zret 27 C dX1_isCutAhead_27 rfl h rfl
/-! GraveOrder$Yard.kindsOfAll ()I -/
def B_X5_kindsOfAll_4 (S0 : XSt)  (kx : Int32 → Option Int32) (rc : (Int32 × Int32) → Option Int32) (y1 : Int32) (y2 : Int32) : Option Int32 :=
  (if (S0 1 4) ≤ y2 then kx y1 else (if xin y2 8 = true then (xlet (y1 ||| (S0 10 (xti y2))) fun v1_2 => (xlet (y2 + 1) fun v2_3 => rc (v1_2, v2_3))) else none))
def F_X5_kindsOfAll (S0 : XSt)  : (Option Int32) :=
  (xlp (fun k rc t => B_X5_kindsOfAll_4 S0   k rc t.1 t.2) (fun e4 => (some e4)) XFU (0, 0))
abbrev rm_X5_kindsOfAll : Room := { frames := 0, cells := 0, slots := 0, locals := 0 }
set_option maxRecDepth 100000 in
set_option maxHeartbeats 4000000 in
theorem w_X5_kindsOfAll_4 (l : Launch) (D : va_G) (a : Nat → Nat) (b : Nat → ClassId) (S0 : XSt) {Γ : XG XSt} {r9 : Int32} (C : Cx (ωC D a b) Γ cX5_kindsOfAll "GraveOrder$Yard" (some .int) l rm_X5_kindsOfAll 3 (some (.int r9), S0))   (kx : Int32 → Option Int32) (rc : (Int32 × Int32) → Option Int32) (hk : ∀ e, kx e = some r9 → XAt (ωC D a b) Γ 27 [(1, .int e)] [] S0) (ih : ∀ t, rc t = some r9 → XAt (ωC D a b) Γ 4 [(0, .ref (a 1)), (1, .int t.1), (2, .int t.2)] [] S0) (y1 : Int32) (y2 : Int32) (h : B_X5_kindsOfAll_4 S0   kx rc y1 y2 = some r9) : XAt (ωC D a b) Γ 4 [(0, .ref (a 1)), (1, .int y1), (2, .int y2)] [] S0 := by
  unfold B_X5_kindsOfAll_4 at h
  refine x_iload_n 4 C dX5_kindsOfAll_4 rfl 2 rfl ?_
  refine x_aload_n 5 C dX5_kindsOfAll_5 rfl 0 rfl ?_
  refine gX5_graves 6 C kw_103 dX5_kindsOfAll_6 ?_
  refine x_icmp_ge 9 C 27 dX5_kindsOfAll_9 rfl h (fun h => ?_) (fun h => ?_)
  · exact x_sub 27 [1] rfl (hk _ h)
  · refine x_iload_n 12 C dX5_kindsOfAll_12 rfl 1 rfl ?_
    refine x_aload_n 13 C dX5_kindsOfAll_13 rfl 0 rfl ?_
    refine gX5_kinds 14 C kw_99 dX5_kindsOfAll_14 ?_
    refine x_iload_n 17 C dX5_kindsOfAll_17 rfl 2 rfl ?_
    obtain ⟨hg1, h⟩ := xif_some h
    refine c_iald 18 C (n := 8) rfl hg1 dX5_kindsOfAll_18 ?_
    refine x_ior 19 C dX5_kindsOfAll_19 ?_
    refine x_top h (fun v1_2 h => ?_)
    refine x_istore_n 20 C (lv' := [(0, .ref (a 1)), (1, .int v1_2), (2, .int y2)]) dX5_kindsOfAll_20 rfl (Nat.le_of_ble_eq_true rfl) [1, 0, 2] rfl ?_
    refine x_iinc 21 C (L := fun v2_3 => [(0, .ref (a 1)), (1, .int v1_2), (2, .int v2_3)]) dX5_kindsOfAll_21 2 rfl ci_1 (Nat.le_of_ble_eq_true rfl) [1, 2, 0] (fun _ => rfl) h (fun v2_3 h => ?_)
    refine x_goto 24 C 4 dX5_kindsOfAll_24 rfl ?_
    exact ih _ h
set_option maxRecDepth 100000 in
set_option maxHeartbeats 4000000 in
theorem M_X5_kindsOfAll (l : Launch) (D : va_G) (a : Nat → Nat) (b : Nat → ClassId) (S0 : XSt)   {r9 : Int32} (h : F_X5_kindsOfAll S0 = some r9) : xM l (ωC D a b) yX5_kindsOfAll cX5_kindsOfAll 3 (some .int) rm_X5_kindsOfAll [.ref (a 1)] S0 (some (.int r9), S0) := by
  unfold F_X5_kindsOfAll at h
  refine xM_of (own := "GraveOrder$Yard") (by decide) rfl (Nat.le_of_ble_eq_true rfl) (fun Γ C => ?_)
  refine x_sub 0 [0] (lv' := [(0, .ref (a 1))]) rfl ?_
  refine x_iconst 0 C dX5_kindsOfAll_0 ci_0 ?_
  refine x_istore_n 1 C (lv' := [(0, .ref (a 1)), (1, .int 0)]) dX5_kindsOfAll_1 rfl (Nat.le_of_ble_eq_true rfl) [1, 0] rfl ?_
  refine x_iconst 2 C dX5_kindsOfAll_2 ci_0 ?_
  refine x_istore_n 3 C (lv' := [(0, .ref (a 1)), (1, .int 0), (2, .int 0)]) dX5_kindsOfAll_3 rfl (Nat.le_of_ble_eq_true rfl) [1, 2, 0] rfl ?_
  refine x_loop (E := fun e => XAt (ωC D a b) Γ 27 [(1, .int e)] [] S0) (P := fun t => XAt (ωC D a b) Γ 4 [(0, .ref (a 1)), (1, .int t.1), (2, .int t.2)] [] S0) h (fun e4 h => ?_) (fun kx rc t hk ih h => w_X5_kindsOfAll_4 l D a b S0 C    kx rc hk ih t.1 t.2 h)
  refine x_iload_n 27 C dX5_kindsOfAll_27 rfl 0 rfl ?_
  exact x_iret 28 C dX5_kindsOfAll_28 (Option.some.inj h) rfl
/-! GraveOrder$FirstRow.straddles (I)I -/
def B_X1_straddles_7 (S0 : XSt) (c1 : Int32) (kx : (Int32 × Int32) → Option Int32) (rc : (Int32 × Int32 × Int32) → Option Int32) (y2 : Int32) (y3 : Int32) (y4 : Int32) : Option Int32 :=
  (if (S0 1 4) ≤ y4 then kx (y2, y3) else (xlet (fun (t1 : (Int32 × Int32)) => (if xin y4 8 = true then (if xin (S0 22 (xti y4)) 8 = true then (xlet (t1.2 ||| (S0 10 (xti (S0 22 (xti y4))))) fun v3_5 => (xlet (y4 + 1) fun v4_6 => rc (t1.1, v3_5, v4_6))) else none) else none)) fun j2 => (if (F_X1_isCutAhead S0 y4 c1) = 0 then j2 (y2, y3) else (xlet (y2 + (F_X5_weigh S0 y3)) fun v2_7 => j2 (v2_7, 0)))))
def F_X1_straddles (S0 : XSt) (x1 : Int32) : (Option Int32) :=
  (xlp (fun k rc t => B_X1_straddles_7 S0  x1 k rc t.1 t.2.1 t.2.2) (fun e8 => ((F_X5_kindsOfAll S0).bind fun z9 => (some ((e8.1 + (F_X5_weigh S0 e8.2)) - (F_X5_weigh S0 z9))))) XFU (0, 0, 0))
abbrev rm_X1_straddles : Room := { frames := 2, cells := 0, slots := 0, locals := 41 }
set_option maxRecDepth 100000 in
set_option maxHeartbeats 4000000 in
theorem w_X1_straddles_7 (l : Launch) (D : va_G) (a : Nat → Nat) (b : Nat → ClassId) (S0 : XSt) {Γ : XG XSt} {r9 : Int32} (C : Cx (ωC D a b) Γ cX1_straddles "GraveOrder$FirstRow" (some .int) l rm_X1_straddles 5 (some (.int r9), S0)) (c1 : Int32)  (kx : (Int32 × Int32) → Option Int32) (rc : (Int32 × Int32 × Int32) → Option Int32) (hk : ∀ e, kx e = some r9 → XAt (ωC D a b) Γ 66 [(0, .ref (a 5)), (2, .int e.1), (3, .int e.2)] [] S0) (ih : ∀ t, rc t = some r9 → XAt (ωC D a b) Γ 7 [(0, .ref (a 5)), (1, .int c1), (2, .int t.1), (3, .int t.2.1), (4, .int t.2.2)] [] S0) (y2 : Int32) (y3 : Int32) (y4 : Int32) (h : B_X1_straddles_7 S0  c1 kx rc y2 y3 y4 = some r9) : XAt (ωC D a b) Γ 7 [(0, .ref (a 5)), (1, .int c1), (2, .int y2), (3, .int y3), (4, .int y4)] [] S0 := by
  unfold B_X1_straddles_7 at h
  refine x_iload 7 C dX1_straddles_7 4 rfl ?_
  refine x_aload_n 9 C dX1_straddles_9 rfl 0 rfl ?_
  refine gX1_yard 10 C kw_241 dX1_straddles_10 ?_
  refine gX5_graves 13 C kw_106 dX1_straddles_13 ?_
  refine x_icmp_ge 16 C 66 dX1_straddles_16 rfl h (fun h => ?_) (fun h => ?_)
  · exact x_sub 66 [0, 2, 3] rfl (hk _ h)
  · refine x_aload_n 19 C dX1_straddles_19 rfl 0 rfl ?_
    refine x_iload 20 C dX1_straddles_20 4 rfl ?_
    refine x_iload_n 22 C dX1_straddles_22 rfl 1 rfl ?_
    refine x_callV 23 C (q0 := 5) (ci := 1) 2 (As := [.int y4, .int c1]) (rest := []) (M_X1_isCutAhead l D a b S0 y4 c1 ) (by rfl) rfl kw_631 mv_X1_isCutAhead mh_X1_isCutAhead ⟨rfl, rfl⟩ ⟨Nat.le_of_ble_eq_true rfl, Nat.le_of_ble_eq_true rfl⟩ rfl rfl (Nat.le_of_ble_eq_true rfl) dX1_straddles_23 ?_
    refine x_join (P := fun t1 => XAt (ωC D a b) Γ 42 [(0, .ref (a 5)), (1, .int c1), (2, .int t1.1), (3, .int t1.2), (4, .int y4)] [] S0) h (fun t1 h => ?_) (fun j2 hj2 h => ?_)
    · refine x_iload_n 42 C dX1_straddles_42 rfl 3 rfl ?_
      refine x_aload_n 43 C dX1_straddles_43 rfl 0 rfl ?_
      refine gX1_yard 44 C kw_241 dX1_straddles_44 ?_
      refine gX5_kinds 47 C kw_100 dX1_straddles_47 ?_
      refine x_aload_n 50 C dX1_straddles_50 rfl 0 rfl ?_
      refine gX1_row 51 C kw_242 dX1_straddles_51 ?_
      refine x_iload 54 C dX1_straddles_54 4 rfl ?_
      obtain ⟨hg3, h⟩ := xif_some h
      refine c_iald 56 C (n := 8) rfl hg3 dX1_straddles_56 ?_
      obtain ⟨hg4, h⟩ := xif_some h
      refine c_iald 57 C (n := 8) rfl hg4 dX1_straddles_57 ?_
      refine x_ior 58 C dX1_straddles_58 ?_
      refine x_top h (fun v3_5 h => ?_)
      refine x_istore_n 59 C (lv' := [(0, .ref (a 5)), (1, .int c1), (2, .int t1.1), (3, .int v3_5), (4, .int y4)]) dX1_straddles_59 rfl (Nat.le_of_ble_eq_true rfl) [1, 2, 3, 0, 4] rfl ?_
      refine x_iinc 60 C (L := fun v4_6 => [(0, .ref (a 5)), (1, .int c1), (2, .int t1.1), (3, .int v3_5), (4, .int v4_6)]) dX1_straddles_60 4 rfl ci_1 (Nat.le_of_ble_eq_true rfl) [1, 2, 3, 4, 0] (fun _ => rfl) h (fun v4_6 h => ?_)
      refine x_goto 63 C 7 dX1_straddles_63 rfl ?_
      exact ih _ h
    refine x_if_eq 26 C 42 dX1_straddles_26 rfl h (fun h => ?_) (fun h => ?_)
    · exact hj2 _ h
    · refine x_iload_n 29 C dX1_straddles_29 rfl 2 rfl ?_
      refine x_aload_n 30 C dX1_straddles_30 rfl 0 rfl ?_
      refine gX1_yard 31 C kw_241 dX1_straddles_31 ?_
      refine x_iload_n 34 C dX1_straddles_34 rfl 3 rfl ?_
      refine x_callV 35 C (q0 := 1) (ci := 5) 1 (As := [.int y3]) (rest := [.int y2]) (M_X5_weigh l D a b S0 y3 ) (by rfl) rfl kw_438 mv_X5_weigh mh_X5_weigh ⟨rfl, rfl⟩ ⟨Nat.le_of_ble_eq_true rfl, Nat.le_of_ble_eq_true rfl⟩ rfl rfl (Nat.le_of_ble_eq_true rfl) dX1_straddles_35 ?_
      refine x_iadd 38 C dX1_straddles_38 ?_
      refine x_top h (fun v2_7 h => ?_)
      refine x_istore_n 39 C (lv' := [(0, .ref (a 5)), (1, .int c1), (2, .int v2_7), (4, .int y4)]) dX1_straddles_39 rfl (Nat.le_of_ble_eq_true rfl) [1, 2, 0, 4] rfl ?_
      refine x_iconst 40 C dX1_straddles_40 ci_0 ?_
      refine x_istore_n 41 C (lv' := [(0, .ref (a 5)), (1, .int c1), (2, .int v2_7), (3, .int 0), (4, .int y4)]) dX1_straddles_41 rfl (Nat.le_of_ble_eq_true rfl) [1, 2, 3, 0, 4] rfl ?_
      exact hj2 _ h
set_option maxRecDepth 100000 in
set_option maxHeartbeats 4000000 in
theorem M_X1_straddles (l : Launch) (D : va_G) (a : Nat → Nat) (b : Nat → ClassId) (S0 : XSt) (x1 : Int32)  {r9 : Int32} (h : F_X1_straddles S0 x1 = some r9) : xM l (ωC D a b) yX1_straddles cX1_straddles 5 (some .int) rm_X1_straddles [.ref (a 5), .int x1] S0 (some (.int r9), S0) := by
  unfold F_X1_straddles at h
  refine xM_of (own := "GraveOrder$FirstRow") (by decide) rfl (Nat.le_of_ble_eq_true rfl) (fun Γ C => ?_)
  refine x_sub 0 [0, 1] (lv' := [(0, .ref (a 5)), (1, .int x1)]) rfl ?_
  refine x_iconst 0 C dX1_straddles_0 ci_0 ?_
  refine x_istore_n 1 C (lv' := [(0, .ref (a 5)), (1, .int x1), (2, .int 0)]) dX1_straddles_1 rfl (Nat.le_of_ble_eq_true rfl) [1, 2, 0] rfl ?_
  refine x_iconst 2 C dX1_straddles_2 ci_0 ?_
  refine x_istore_n 3 C (lv' := [(0, .ref (a 5)), (1, .int x1), (2, .int 0), (3, .int 0)]) dX1_straddles_3 rfl (Nat.le_of_ble_eq_true rfl) [1, 2, 3, 0] rfl ?_
  refine x_iconst 4 C dX1_straddles_4 ci_0 ?_
  refine x_istore 5 C (lv' := [(0, .ref (a 5)), (1, .int x1), (2, .int 0), (3, .int 0), (4, .int 0)]) dX1_straddles_5 (Nat.le_of_ble_eq_true rfl) [1, 2, 3, 4, 0] rfl ?_
  refine x_loop (E := fun e => XAt (ωC D a b) Γ 66 [(0, .ref (a 5)), (2, .int e.1), (3, .int e.2)] [] S0) (P := fun t => XAt (ωC D a b) Γ 7 [(0, .ref (a 5)), (1, .int x1), (2, .int t.1), (3, .int t.2.1), (4, .int t.2.2)] [] S0) h (fun e8 h => ?_) (fun kx rc t hk ih h => w_X1_straddles_7 l D a b S0 C   x1 kx rc hk ih t.1 t.2.1 t.2.2 h)
  refine x_iload_n 66 C dX1_straddles_66 rfl 1 rfl ?_
  refine x_aload_n 67 C dX1_straddles_67 rfl 0 rfl ?_
  refine gX1_yard 68 C kw_241 dX1_straddles_68 ?_
  refine x_iload_n 71 C dX1_straddles_71 rfl 2 rfl ?_
  refine x_callV 72 C (q0 := 1) (ci := 5) 1 (As := [.int e8.2]) (rest := [.int e8.1]) (M_X5_weigh l D a b S0 e8.2 ) (by rfl) rfl kw_438 mv_X5_weigh mh_X5_weigh ⟨rfl, rfl⟩ ⟨Nat.le_of_ble_eq_true rfl, Nat.le_of_ble_eq_true rfl⟩ rfl rfl (Nat.le_of_ble_eq_true rfl) dX1_straddles_72 ?_
  refine x_iadd 75 C dX1_straddles_75 ?_
  refine x_aload_n 76 C dX1_straddles_76 rfl 0 rfl ?_
  refine gX1_yard 77 C kw_241 dX1_straddles_77 ?_
  refine x_aload_n 80 C dX1_straddles_80 rfl 0 rfl ?_
  refine gX1_yard 81 C kw_241 dX1_straddles_81 ?_
  obtain ⟨z9, hz9, h⟩ := xbind_some h
  refine x_callV 84 C (q0 := 1) (ci := 5) 0 (As := []) (rest := [.ref (a 1), .int (e8.1 + (F_X5_weigh S0 e8.2))]) (M_X5_kindsOfAll l D a b S0   hz9) (by rfl) rfl kw_635 mv_X5_kindsOfAll mh_X5_kindsOfAll ⟨rfl, rfl⟩ ⟨Nat.le_of_ble_eq_true rfl, Nat.le_of_ble_eq_true rfl⟩ rfl rfl (Nat.le_of_ble_eq_true rfl) dX1_straddles_84 ?_
  refine x_callV 87 C (q0 := 1) (ci := 5) 1 (As := [.int z9]) (rest := [.int (e8.1 + (F_X5_weigh S0 e8.2))]) (M_X5_weigh l D a b S0 z9 ) (by rfl) rfl kw_438 mv_X5_weigh mh_X5_weigh ⟨rfl, rfl⟩ ⟨Nat.le_of_ble_eq_true rfl, Nat.le_of_ble_eq_true rfl⟩ rfl rfl (Nat.le_of_ble_eq_true rfl) dX1_straddles_87 ?_
  refine x_isub 90 C dX1_straddles_90 ?_
  exact x_iret 91 C dX1_straddles_91 (Option.some.inj h) rfl
/-! GraveOrder$FirstRow.bestCuts (I)I -/
def B_X1_bestCuts_28 (S0 : XSt) (c1 : Int32) (kx : Int32 → Option Int32) (rc : (Int32 × Int32 × Int32) → Option Int32) (y2 : Int32) (y3 : Int32) (y5 : Int32) : Option Int32 :=
  (if y5 < 0 then kx y2 else (if (F_J6_bitCount_0f7a4 y5) = (c1 - (1 : Int32)) then ((F_X1_straddles S0 y5).bind fun z3 => (if y3 ≤ z3 then (xlet (y5 + (-1)) fun v5_4 => rc (y2, y3, v5_4)) else ((F_X1_straddles S0 y5).bind fun z5 => (xlet (y5 + (-1)) fun v5_6 => rc (y5, z5, v5_6))))) else (xlet (y5 + (-1)) fun v5_2 => rc (y2, y3, v5_2))))
def F_X1_bestCuts (S0 : XSt) (x1 : Int32) : (Option Int32) :=
  (xlet (((1 : Int32) <<< ((xmax 0 ((S0 1 4) - (1 : Int32))) &&& 31)) - (1 : Int32)) fun v4_1 => (xlp (fun k rc t => B_X1_bestCuts_28 S0  x1 k rc t.1 t.2.1 t.2.2) (fun e7 => (some e7)) XFU (0, 1000000, v4_1)))
abbrev rm_X1_bestCuts : Room := { frames := 3, cells := 0, slots := 0, locals := 65 }
set_option maxRecDepth 100000 in
set_option maxHeartbeats 4000000 in
theorem w_X1_bestCuts_28 (l : Launch) (D : va_G) (a : Nat → Nat) (b : Nat → ClassId) (S0 : XSt) {Γ : XG XSt} {r9 : Int32} (C : Cx (ωC D a b) Γ cX1_bestCuts "GraveOrder$FirstRow" (some .int) l rm_X1_bestCuts 6 (some (.int r9), S0)) (c1 : Int32)  (kx : Int32 → Option Int32) (rc : (Int32 × Int32 × Int32) → Option Int32) (hk : ∀ e, kx e = some r9 → XAt (ωC D a b) Γ 70 [(2, .int e)] [] S0) (ih : ∀ t, rc t = some r9 → XAt (ωC D a b) Γ 28 [(0, .ref (a 5)), (1, .int c1), (2, .int t.1), (3, .int t.2.1), (5, .int t.2.2)] [] S0) (y2 : Int32) (y3 : Int32) (y5 : Int32) (h : B_X1_bestCuts_28 S0  c1 kx rc y2 y3 y5 = some r9) : XAt (ωC D a b) Γ 28 [(0, .ref (a 5)), (1, .int c1), (2, .int y2), (3, .int y3), (5, .int y5)] [] S0 := by
  unfold B_X1_bestCuts_28 at h
  refine x_iload 28 C dX1_bestCuts_28 4 rfl ?_
  refine x_if_lt 30 C 70 dX1_bestCuts_30 rfl h (fun h => ?_) (fun h => ?_)
  · exact x_sub 70 [2] rfl (hk _ h)
  · refine x_iload 33 C dX1_bestCuts_33 4 rfl ?_
    refine x_callS 35 C 1 (As := [.int y5]) (rest := []) (M_J6_bitCount_0f7a4 l (ωC D a b) S0 y5) kw_626 ms_J6_bitCount_0f7a4 mh_J6_bitCount_0f7a4 ⟨rfl, rfl⟩ ⟨Nat.le_of_ble_eq_true rfl, Nat.le_of_ble_eq_true rfl⟩ rfl rfl (Nat.le_of_ble_eq_true rfl) dX1_bestCuts_35 ?_
    refine x_iload_n 38 C dX1_bestCuts_38 rfl 1 rfl ?_
    refine x_iconst 39 C dX1_bestCuts_39 ci_1 ?_
    refine x_isub 40 C dX1_bestCuts_40 ?_
    refine x_icmp_ne 41 C 64 dX1_bestCuts_41 rfl h (fun h => ?_) (fun h => ?_)
    · refine x_iinc 64 C (L := fun v5_2 => [(0, .ref (a 5)), (1, .int c1), (2, .int y2), (3, .int y3), (5, .int v5_2)]) dX1_bestCuts_64 4 rfl ci_m1 (Nat.le_of_ble_eq_true rfl) [1, 2, 3, 4, 0] (fun _ => rfl) h (fun v5_2 h => ?_)
      refine x_goto 67 C 28 dX1_bestCuts_67 rfl ?_
      exact ih _ h
    · refine x_aload_n 44 C dX1_bestCuts_44 rfl 0 rfl ?_
      refine x_iload 45 C dX1_bestCuts_45 4 rfl ?_
      obtain ⟨z3, hz3, h⟩ := xbind_some h
      refine x_callV 47 C (q0 := 5) (ci := 1) 1 (As := [.int y5]) (rest := []) (M_X1_straddles l D a b S0 y5  hz3) (by rfl) rfl kw_627 mv_X1_straddles mh_X1_straddles ⟨rfl, rfl⟩ ⟨Nat.le_of_ble_eq_true rfl, Nat.le_of_ble_eq_true rfl⟩ rfl rfl (Nat.le_of_ble_eq_true rfl) dX1_bestCuts_47 ?_
      refine x_iload_n 50 C dX1_bestCuts_50 rfl 3 rfl ?_
      refine x_icmp_ge 51 C 64 dX1_bestCuts_51 rfl h (fun h => ?_) (fun h => ?_)
      · refine x_iinc 64 C (L := fun v5_4 => [(0, .ref (a 5)), (1, .int c1), (2, .int y2), (3, .int y3), (5, .int v5_4)]) dX1_bestCuts_64 4 rfl ci_m1 (Nat.le_of_ble_eq_true rfl) [1, 2, 3, 4, 0] (fun _ => rfl) h (fun v5_4 h => ?_)
        refine x_goto 67 C 28 dX1_bestCuts_67 rfl ?_
        exact ih _ h
      · refine x_iload 54 C dX1_bestCuts_54 4 rfl ?_
        refine x_istore_n 56 C (lv' := [(0, .ref (a 5)), (1, .int c1), (2, .int y5), (5, .int y5)]) dX1_bestCuts_56 rfl (Nat.le_of_ble_eq_true rfl) [1, 2, 0, 4] rfl ?_
        refine x_aload_n 57 C dX1_bestCuts_57 rfl 0 rfl ?_
        refine x_iload 58 C dX1_bestCuts_58 3 rfl ?_
        obtain ⟨z5, hz5, h⟩ := xbind_some h
        refine x_callV 60 C (q0 := 5) (ci := 1) 1 (As := [.int y5]) (rest := []) (M_X1_straddles l D a b S0 y5  hz5) (by rfl) rfl kw_627 mv_X1_straddles mh_X1_straddles ⟨rfl, rfl⟩ ⟨Nat.le_of_ble_eq_true rfl, Nat.le_of_ble_eq_true rfl⟩ rfl rfl (Nat.le_of_ble_eq_true rfl) dX1_bestCuts_60 ?_
        refine x_istore_n 63 C (lv' := [(0, .ref (a 5)), (1, .int c1), (2, .int y5), (3, .int z5), (5, .int y5)]) dX1_bestCuts_63 rfl (Nat.le_of_ble_eq_true rfl) [1, 2, 3, 0, 4] rfl ?_
        refine x_iinc 64 C (L := fun v5_6 => [(0, .ref (a 5)), (1, .int c1), (2, .int y5), (3, .int z5), (5, .int v5_6)]) dX1_bestCuts_64 4 rfl ci_m1 (Nat.le_of_ble_eq_true rfl) [1, 2, 3, 4, 0] (fun _ => rfl) h (fun v5_6 h => ?_)
        refine x_goto 67 C 28 dX1_bestCuts_67 rfl ?_
        exact ih _ h
set_option maxRecDepth 100000 in
set_option maxHeartbeats 4000000 in
theorem M_X1_bestCuts (l : Launch) (D : va_G) (a : Nat → Nat) (b : Nat → ClassId) (S0 : XSt) (x1 : Int32)  {r9 : Int32} (h : F_X1_bestCuts S0 x1 = some r9) : xM l (ωC D a b) yX1_bestCuts cX1_bestCuts 6 (some .int) rm_X1_bestCuts [.ref (a 5), .int x1] S0 (some (.int r9), S0) := by
  unfold F_X1_bestCuts at h
  refine xM_of (own := "GraveOrder$FirstRow") (by decide) rfl (Nat.le_of_ble_eq_true rfl) (fun Γ C => ?_)
  refine x_sub 0 [0, 1] (lv' := [(0, .ref (a 5)), (1, .int x1)]) rfl ?_
  refine x_iconst 0 C dX1_bestCuts_0 ci_0 ?_
  refine x_istore_n 1 C (lv' := [(0, .ref (a 5)), (1, .int x1), (2, .int 0)]) dX1_bestCuts_1 rfl (Nat.le_of_ble_eq_true rfl) [1, 2, 0] rfl ?_
  refine x_ldc 2 C kw_624 dX1_bestCuts_2 ?_
  refine x_istore_n 4 C (lv' := [(0, .ref (a 5)), (1, .int x1), (2, .int 0), (3, .int 1000000)]) dX1_bestCuts_4 rfl (Nat.le_of_ble_eq_true rfl) [1, 2, 3, 0] rfl ?_
  refine x_iconst 5 C dX1_bestCuts_5 ci_1 ?_
  refine x_iconst 6 C dX1_bestCuts_6 ci_0 ?_
  refine x_aload_n 7 C dX1_bestCuts_7 rfl 0 rfl ?_
  refine gX1_yard 8 C kw_241 dX1_bestCuts_8 ?_
  refine gX5_graves 11 C kw_106 dX1_bestCuts_11 ?_
  refine x_iconst 14 C dX1_bestCuts_14 ci_1 ?_
  refine x_isub 15 C dX1_bestCuts_15 ?_
  refine y_mmax 16 C kw_625_max kmath_max.1 kmath kmath_max.2 (Nat.le_of_ble_eq_true rfl) (Nat.le_of_ble_eq_true rfl) dX1_bestCuts_16 ?_
  refine x_ishl 19 C dX1_bestCuts_19 ?_
  refine x_iconst 20 C dX1_bestCuts_20 ci_1 ?_
  refine x_isub 21 C dX1_bestCuts_21 ?_
  refine x_top h (fun v4_1 h => ?_)
  refine x_istore 22 C (lv' := [(0, .ref (a 5)), (1, .int x1), (2, .int 0), (3, .int 1000000), (4, .int v4_1)]) dX1_bestCuts_22 (Nat.le_of_ble_eq_true rfl) [1, 2, 3, 4, 0] rfl ?_
  refine x_iload 24 C dX1_bestCuts_24 4 rfl ?_
  refine x_istore 26 C (lv' := [(0, .ref (a 5)), (1, .int x1), (2, .int 0), (3, .int 1000000), (5, .int v4_1)]) dX1_bestCuts_26 (Nat.le_of_ble_eq_true rfl) [1, 2, 3, 4, 0] rfl ?_
  refine x_loop (E := fun e => XAt (ωC D a b) Γ 70 [(2, .int e)] [] S0) (P := fun t => XAt (ωC D a b) Γ 28 [(0, .ref (a 5)), (1, .int x1), (2, .int t.1), (3, .int t.2.1), (5, .int t.2.2)] [] S0) h (fun e7 h => ?_) (fun kx rc t hk ih h => w_X1_bestCuts_28 l D a b S0 C   x1 kx rc hk ih t.1 t.2.1 t.2.2 h)
  refine x_iload_n 70 C dX1_bestCuts_70 rfl 0 rfl ?_
  exact x_iret 71 C dX1_bestCuts_71 (Option.some.inj h) rfl
/-! GraveOrder$FirstRow.partOf (II)I -/
def B_X1_partOf_12 (S0 : XSt) (c2 : Int32) (c3 : Int32) (kx : Int32 → Option Int32) (rc : (Int32 × Int32) → Option Int32) (y4 : Int32) (y5 : Int32) : Option Int32 :=
  (if c3 < y5 then kx y4 else (if (F_X1_isCutAhead S0 y5 c2) = 0 then (xlet (y4 + (0 : Int32)) fun v4_2 => (xlet (y5 + 1) fun v5_3 => rc (v4_2, v5_3))) else (xlet (y4 + (1 : Int32)) fun v4_4 => (xlet (y5 + 1) fun v5_5 => rc (v4_4, v5_5)))))
def F_X1_partOf (S0 : XSt) (x1 : Int32) (x2 : Int32) : (Option Int32) :=
  ((F_X1_placeOf S0 x1).bind fun z1 => (xlp (fun k rc t => B_X1_partOf_12 S0  x2 z1 k rc t.1 t.2) (fun e6 => (some e6)) XFU (0, 1)))
abbrev rm_X1_partOf : Room := { frames := 1, cells := 0, slots := 0, locals := 23 }
set_option maxRecDepth 100000 in
set_option maxHeartbeats 4000000 in
theorem w_X1_partOf_12 (l : Launch) (D : va_G) (a : Nat → Nat) (b : Nat → ClassId) (S0 : XSt) {Γ : XG XSt} {r9 : Int32} (C : Cx (ωC D a b) Γ cX1_partOf "GraveOrder$FirstRow" (some .int) l rm_X1_partOf 6 (some (.int r9), S0)) (c2 : Int32) (c3 : Int32)  (kx : Int32 → Option Int32) (rc : (Int32 × Int32) → Option Int32) (hk : ∀ e, kx e = some r9 → XAt (ωC D a b) Γ 44 [(4, .int e)] [] S0) (ih : ∀ t, rc t = some r9 → XAt (ωC D a b) Γ 12 [(0, .ref (a 5)), (2, .int c2), (3, .int c3), (4, .int t.1), (5, .int t.2)] [] S0) (y4 : Int32) (y5 : Int32) (h : B_X1_partOf_12 S0  c2 c3 kx rc y4 y5 = some r9) : XAt (ωC D a b) Γ 12 [(0, .ref (a 5)), (2, .int c2), (3, .int c3), (4, .int y4), (5, .int y5)] [] S0 := by
  unfold B_X1_partOf_12 at h
  refine x_iload 12 C dX1_partOf_12 4 rfl ?_
  refine x_iload_n 14 C dX1_partOf_14 rfl 2 rfl ?_
  refine x_icmp_gt 15 C 44 dX1_partOf_15 rfl h (fun h => ?_) (fun h => ?_)
  · exact x_sub 44 [3] rfl (hk _ h)
  · refine x_iload 18 C dX1_partOf_18 3 rfl ?_
    refine x_aload_n 20 C dX1_partOf_20 rfl 0 rfl ?_
    refine x_iload 21 C dX1_partOf_21 4 rfl ?_
    refine x_iload_n 23 C dX1_partOf_23 rfl 1 rfl ?_
    refine x_callV 24 C (q0 := 5) (ci := 1) 2 (As := [.int y5, .int c2]) (rest := [.int y4]) (M_X1_isCutAhead l D a b S0 y5 c2 ) (by rfl) rfl kw_631 mv_X1_isCutAhead mh_X1_isCutAhead ⟨rfl, rfl⟩ ⟨Nat.le_of_ble_eq_true rfl, Nat.le_of_ble_eq_true rfl⟩ rfl rfl (Nat.le_of_ble_eq_true rfl) dX1_partOf_24 ?_
    refine x_if_eq 27 C 34 dX1_partOf_27 rfl h (fun h => ?_) (fun h => ?_)
    · refine x_iconst 34 C dX1_partOf_34 ci_0 ?_
      refine x_iadd 35 C dX1_partOf_35 ?_
      refine x_top h (fun v4_2 h => ?_)
      refine x_istore 36 C (lv' := [(0, .ref (a 5)), (2, .int c2), (3, .int c3), (4, .int v4_2), (5, .int y5)]) dX1_partOf_36 (Nat.le_of_ble_eq_true rfl) [1, 2, 3, 0, 4] rfl ?_
      refine x_iinc 38 C (L := fun v5_3 => [(0, .ref (a 5)), (2, .int c2), (3, .int c3), (4, .int v4_2), (5, .int v5_3)]) dX1_partOf_38 4 rfl ci_1 (Nat.le_of_ble_eq_true rfl) [1, 2, 3, 4, 0] (fun _ => rfl) h (fun v5_3 h => ?_)
      refine x_goto 41 C 12 dX1_partOf_41 rfl ?_
      exact ih _ h
    · refine x_iconst 30 C dX1_partOf_30 ci_1 ?_
      refine x_goto 31 C 35 dX1_partOf_31 rfl ?_
      refine x_iadd 35 C dX1_partOf_35 ?_
      refine x_top h (fun v4_4 h => ?_)
      refine x_istore 36 C (lv' := [(0, .ref (a 5)), (2, .int c2), (3, .int c3), (4, .int v4_4), (5, .int y5)]) dX1_partOf_36 (Nat.le_of_ble_eq_true rfl) [1, 2, 3, 0, 4] rfl ?_
      refine x_iinc 38 C (L := fun v5_5 => [(0, .ref (a 5)), (2, .int c2), (3, .int c3), (4, .int v4_4), (5, .int v5_5)]) dX1_partOf_38 4 rfl ci_1 (Nat.le_of_ble_eq_true rfl) [1, 2, 3, 4, 0] (fun _ => rfl) h (fun v5_5 h => ?_)
      refine x_goto 41 C 12 dX1_partOf_41 rfl ?_
      exact ih _ h
set_option maxRecDepth 100000 in
set_option maxHeartbeats 4000000 in
theorem M_X1_partOf (l : Launch) (D : va_G) (a : Nat → Nat) (b : Nat → ClassId) (S0 : XSt) (x1 : Int32) (x2 : Int32)  {r9 : Int32} (h : F_X1_partOf S0 x1 x2 = some r9) : xM l (ωC D a b) yX1_partOf cX1_partOf 6 (some .int) rm_X1_partOf [.ref (a 5), .int x1, .int x2] S0 (some (.int r9), S0) := by
  unfold F_X1_partOf at h
  refine xM_of (own := "GraveOrder$FirstRow") (by decide) rfl (Nat.le_of_ble_eq_true rfl) (fun Γ C => ?_)
  refine x_sub 0 [0, 1, 2] (lv' := [(0, .ref (a 5)), (1, .int x1), (2, .int x2)]) rfl ?_
  refine x_aload_n 0 C dX1_partOf_0 rfl 0 rfl ?_
  refine x_iload_n 1 C dX1_partOf_1 rfl 1 rfl ?_
  obtain ⟨z1, hz1, h⟩ := xbind_some h
  refine x_callV 2 C (q0 := 5) (ci := 1) 1 (As := [.int x1]) (rest := []) (M_X1_placeOf l D a b S0 x1  hz1) (by rfl) rfl kw_644 mv_X1_placeOf mh_X1_placeOf ⟨rfl, rfl⟩ ⟨Nat.le_of_ble_eq_true rfl, Nat.le_of_ble_eq_true rfl⟩ rfl rfl (Nat.le_of_ble_eq_true rfl) dX1_partOf_2 ?_
  refine x_istore_n 5 C (lv' := [(0, .ref (a 5)), (2, .int x2), (3, .int z1)]) dX1_partOf_5 rfl (Nat.le_of_ble_eq_true rfl) [1, 3, 0] rfl ?_
  refine x_iconst 6 C dX1_partOf_6 ci_0 ?_
  refine x_istore 7 C (lv' := [(0, .ref (a 5)), (2, .int x2), (3, .int z1), (4, .int 0)]) dX1_partOf_7 (Nat.le_of_ble_eq_true rfl) [1, 2, 3, 0] rfl ?_
  refine x_iconst 9 C dX1_partOf_9 ci_1 ?_
  refine x_istore 10 C (lv' := [(0, .ref (a 5)), (2, .int x2), (3, .int z1), (4, .int 0), (5, .int 1)]) dX1_partOf_10 (Nat.le_of_ble_eq_true rfl) [1, 2, 3, 4, 0] rfl ?_
  refine x_loop (E := fun e => XAt (ωC D a b) Γ 44 [(4, .int e)] [] S0) (P := fun t => XAt (ωC D a b) Γ 12 [(0, .ref (a 5)), (2, .int x2), (3, .int z1), (4, .int t.1), (5, .int t.2)] [] S0) h (fun e6 h => ?_) (fun kx rc t hk ih h => w_X1_partOf_12 l D a b S0 C   x2 z1 kx rc hk ih t.1 t.2 h)
  refine x_iload 44 C dX1_partOf_44 0 rfl ?_
  exact x_iret 46 C dX1_partOf_46 (Option.some.inj h) rfl
/-! GraveOrder$FirstRow.yearOfGrave (II)I -/
def B_X1_yearOfGrave_36 (S0 : XSt) (c2 : Int32) (c3 : Int32) (kx : Int32 → Option Int32) (rc : (Int32 × Int32) → Option Int32) (y4 : Int32) (y5 : Int32) : Option Int32 :=
  (if (S0 1 4) ≤ y5 then kx y4 else (xlet (fun (t4 : (Int32 × Int32)) => (if c2 = 1 then (if t4.2 ≤ c3 then (xlet (t4.2 + 1) fun v5_7 => rc (t4.1, v5_7)) else (if xin t4.2 8 = true then (if xin (S0 22 (xti t4.2)) 8 = true then (xlet (xmin t4.1 (S0 8 (xti (S0 22 (xti t4.2))))) fun v4_10 => (xlet (t4.2 + 1) fun v5_11 => rc (v4_10, v5_11))) else none) else none)) else (xlet (t4.2 + 1) fun v5_6 => rc (t4.1, v5_6)))) fun j5 => (if c2 = 0 then (if c3 ≤ y5 then j5 (y4, y5) else (if xin y5 8 = true then (if xin (S0 22 (xti y5)) 8 = true then (xlet (xmax y4 (S0 7 (xti (S0 22 (xti y5))))) fun v4_14 => (xlet (y5 + 1) fun v5_15 => rc (v4_14, v5_15))) else none) else none)) else j5 (y4, y5))))
def F_X1_yearOfGrave (S0 : XSt) (x1 : Int32) (x2 : Int32) : (Option Int32) :=
  ((F_X1_placeOf S0 x1).bind fun z1 => (xlet (fun (t2 : Int32) => (xlp (fun k rc t => B_X1_yearOfGrave_36 S0  x2 z1 k rc t.1 t.2) (fun e16 => (some e16)) XFU (t2, 0))) fun j3 => (if x2 = 0 then (if xin x1 8 = true then j3 (S0 7 (xti x1)) else none) else (if xin x1 8 = true then j3 (S0 8 (xti x1)) else none))))
abbrev rm_X1_yearOfGrave : Room := { frames := 1, cells := 0, slots := 0, locals := 24 }
set_option maxRecDepth 100000 in
set_option maxHeartbeats 4000000 in
theorem w_X1_yearOfGrave_36 (l : Launch) (D : va_G) (a : Nat → Nat) (b : Nat → ClassId) (S0 : XSt) {Γ : XG XSt} {r9 : Int32} (C : Cx (ωC D a b) Γ cX1_yearOfGrave "GraveOrder$FirstRow" (some .int) l rm_X1_yearOfGrave 6 (some (.int r9), S0)) (c2 : Int32) (c3 : Int32)  (kx : Int32 → Option Int32) (rc : (Int32 × Int32) → Option Int32) (hk : ∀ e, kx e = some r9 → XAt (ωC D a b) Γ 122 [(4, .int e)] [] S0) (ih : ∀ t, rc t = some r9 → XAt (ωC D a b) Γ 36 [(0, .ref (a 5)), (2, .int c2), (3, .int c3), (4, .int t.1), (5, .int t.2)] [] S0) (y4 : Int32) (y5 : Int32) (h : B_X1_yearOfGrave_36 S0  c2 c3 kx rc y4 y5 = some r9) : XAt (ωC D a b) Γ 36 [(0, .ref (a 5)), (2, .int c2), (3, .int c3), (4, .int y4), (5, .int y5)] [] S0 := by
  unfold B_X1_yearOfGrave_36 at h
  refine x_iload 36 C dX1_yearOfGrave_36 4 rfl ?_
  refine x_aload_n 38 C dX1_yearOfGrave_38 rfl 0 rfl ?_
  refine gX1_yard 39 C kw_241 dX1_yearOfGrave_39 ?_
  refine gX5_graves 42 C kw_106 dX1_yearOfGrave_42 ?_
  refine x_icmp_ge 45 C 122 dX1_yearOfGrave_45 rfl h (fun h => ?_) (fun h => ?_)
  · exact x_sub 122 [3] rfl (hk _ h)
  · refine x_iload_n 48 C dX1_yearOfGrave_48 rfl 1 rfl ?_
    refine x_join (P := fun t4 => XAt (ωC D a b) Γ 83 [(0, .ref (a 5)), (2, .int c2), (3, .int c3), (4, .int t4.1), (5, .int t4.2)] [] S0) h (fun t4 h => ?_) (fun j5 hj5 h => ?_)
    · refine x_iload_n 83 C dX1_yearOfGrave_83 rfl 1 rfl ?_
      refine x_iconst 84 C dX1_yearOfGrave_84 ci_1 ?_
      refine x_icmp_ne 85 C 116 dX1_yearOfGrave_85 rfl h (fun h => ?_) (fun h => ?_)
      · refine x_iinc 116 C (L := fun v5_6 => [(0, .ref (a 5)), (2, .int c2), (3, .int c3), (4, .int t4.1), (5, .int v5_6)]) dX1_yearOfGrave_116 4 rfl ci_1 (Nat.le_of_ble_eq_true rfl) [1, 2, 3, 4, 0] (fun _ => rfl) h (fun v5_6 h => ?_)
        refine x_goto 119 C 36 dX1_yearOfGrave_119 rfl ?_
        exact ih _ h
      · refine x_iload 88 C dX1_yearOfGrave_88 4 rfl ?_
        refine x_iload_n 90 C dX1_yearOfGrave_90 rfl 2 rfl ?_
        refine x_icmp_le 91 C 116 dX1_yearOfGrave_91 rfl h (fun h => ?_) (fun h => ?_)
        · refine x_iinc 116 C (L := fun v5_7 => [(0, .ref (a 5)), (2, .int c2), (3, .int c3), (4, .int t4.1), (5, .int v5_7)]) dX1_yearOfGrave_116 4 rfl ci_1 (Nat.le_of_ble_eq_true rfl) [1, 2, 3, 4, 0] (fun _ => rfl) h (fun v5_7 h => ?_)
          refine x_goto 119 C 36 dX1_yearOfGrave_119 rfl ?_
          exact ih _ h
        · refine x_iload 94 C dX1_yearOfGrave_94 3 rfl ?_
          refine x_aload_n 96 C dX1_yearOfGrave_96 rfl 0 rfl ?_
          refine gX1_yard 97 C kw_241 dX1_yearOfGrave_97 ?_
          refine gX5_to 100 C kw_95 dX1_yearOfGrave_100 ?_
          refine x_aload_n 103 C dX1_yearOfGrave_103 rfl 0 rfl ?_
          refine gX1_row 104 C kw_242 dX1_yearOfGrave_104 ?_
          refine x_iload 107 C dX1_yearOfGrave_107 4 rfl ?_
          obtain ⟨hg8, h⟩ := xif_some h
          refine c_iald 109 C (n := 8) rfl hg8 dX1_yearOfGrave_109 ?_
          obtain ⟨hg9, h⟩ := xif_some h
          refine c_iald 110 C (n := 8) rfl hg9 dX1_yearOfGrave_110 ?_
          refine y_mmin 111 C kw_611_min kmath_min.1 kmath kmath_min.2 (Nat.le_of_ble_eq_true rfl) (Nat.le_of_ble_eq_true rfl) dX1_yearOfGrave_111 ?_
          refine x_top h (fun v4_10 h => ?_)
          refine x_istore 114 C (lv' := [(0, .ref (a 5)), (2, .int c2), (3, .int c3), (4, .int v4_10), (5, .int t4.2)]) dX1_yearOfGrave_114 (Nat.le_of_ble_eq_true rfl) [1, 2, 3, 0, 4] rfl ?_
          refine x_iinc 116 C (L := fun v5_11 => [(0, .ref (a 5)), (2, .int c2), (3, .int c3), (4, .int v4_10), (5, .int v5_11)]) dX1_yearOfGrave_116 4 rfl ci_1 (Nat.le_of_ble_eq_true rfl) [1, 2, 3, 4, 0] (fun _ => rfl) h (fun v5_11 h => ?_)
          refine x_goto 119 C 36 dX1_yearOfGrave_119 rfl ?_
          exact ih _ h
    refine x_if_ne 49 C 83 dX1_yearOfGrave_49 rfl h (fun h => ?_) (fun h => ?_)
    · exact hj5 _ h
    · refine x_iload 52 C dX1_yearOfGrave_52 4 rfl ?_
      refine x_iload_n 54 C dX1_yearOfGrave_54 rfl 2 rfl ?_
      refine x_icmp_ge 55 C 83 dX1_yearOfGrave_55 rfl h (fun h => ?_) (fun h => ?_)
      · exact hj5 _ h
      · refine x_iload 58 C dX1_yearOfGrave_58 3 rfl ?_
        refine x_aload_n 60 C dX1_yearOfGrave_60 rfl 0 rfl ?_
        refine gX1_yard 61 C kw_241 dX1_yearOfGrave_61 ?_
        refine gX5_from 64 C kw_92 dX1_yearOfGrave_64 ?_
        refine x_aload_n 67 C dX1_yearOfGrave_67 rfl 0 rfl ?_
        refine gX1_row 68 C kw_242 dX1_yearOfGrave_68 ?_
        refine x_iload 71 C dX1_yearOfGrave_71 4 rfl ?_
        obtain ⟨hg12, h⟩ := xif_some h
        refine c_iald 73 C (n := 8) rfl hg12 dX1_yearOfGrave_73 ?_
        obtain ⟨hg13, h⟩ := xif_some h
        refine c_iald 74 C (n := 8) rfl hg13 dX1_yearOfGrave_74 ?_
        refine y_mmax 75 C kw_625_max kmath_max.1 kmath kmath_max.2 (Nat.le_of_ble_eq_true rfl) (Nat.le_of_ble_eq_true rfl) dX1_yearOfGrave_75 ?_
        refine x_top h (fun v4_14 h => ?_)
        refine x_istore 78 C (lv' := [(0, .ref (a 5)), (2, .int c2), (3, .int c3), (4, .int v4_14), (5, .int y5)]) dX1_yearOfGrave_78 (Nat.le_of_ble_eq_true rfl) [1, 2, 3, 0, 4] rfl ?_
        refine x_goto 80 C 116 dX1_yearOfGrave_80 rfl ?_
        refine x_iinc 116 C (L := fun v5_15 => [(0, .ref (a 5)), (2, .int c2), (3, .int c3), (4, .int v4_14), (5, .int v5_15)]) dX1_yearOfGrave_116 4 rfl ci_1 (Nat.le_of_ble_eq_true rfl) [1, 2, 3, 4, 0] (fun _ => rfl) h (fun v5_15 h => ?_)
        refine x_goto 119 C 36 dX1_yearOfGrave_119 rfl ?_
        exact ih _ h
set_option maxRecDepth 100000 in
set_option maxHeartbeats 4000000 in
theorem M_X1_yearOfGrave (l : Launch) (D : va_G) (a : Nat → Nat) (b : Nat → ClassId) (S0 : XSt) (x1 : Int32) (x2 : Int32)  {r9 : Int32} (h : F_X1_yearOfGrave S0 x1 x2 = some r9) : xM l (ωC D a b) yX1_yearOfGrave cX1_yearOfGrave 6 (some .int) rm_X1_yearOfGrave [.ref (a 5), .int x1, .int x2] S0 (some (.int r9), S0) := by
  unfold F_X1_yearOfGrave at h
  refine xM_of (own := "GraveOrder$FirstRow") (by decide) rfl (Nat.le_of_ble_eq_true rfl) (fun Γ C => ?_)
  refine x_sub 0 [0, 1, 2] (lv' := [(0, .ref (a 5)), (1, .int x1), (2, .int x2)]) rfl ?_
  refine x_aload_n 0 C dX1_yearOfGrave_0 rfl 0 rfl ?_
  refine x_iload_n 1 C dX1_yearOfGrave_1 rfl 1 rfl ?_
  obtain ⟨z1, hz1, h⟩ := xbind_some h
  refine x_callV 2 C (q0 := 5) (ci := 1) 1 (As := [.int x1]) (rest := []) (M_X1_placeOf l D a b S0 x1  hz1) (by rfl) rfl kw_644 mv_X1_placeOf mh_X1_placeOf ⟨rfl, rfl⟩ ⟨Nat.le_of_ble_eq_true rfl, Nat.le_of_ble_eq_true rfl⟩ rfl rfl (Nat.le_of_ble_eq_true rfl) dX1_yearOfGrave_2 ?_
  refine x_istore_n 5 C (lv' := [(0, .ref (a 5)), (1, .int x1), (2, .int x2), (3, .int z1)]) dX1_yearOfGrave_5 rfl (Nat.le_of_ble_eq_true rfl) [1, 2, 3, 0] rfl ?_
  refine x_iload_n 6 C dX1_yearOfGrave_6 rfl 2 rfl ?_
  refine x_join (P := fun t2 => XAt (ωC D a b) Γ 31 [(0, .ref (a 5)), (2, .int x2), (3, .int z1)] [.int t2] S0) h (fun t2 h => ?_) (fun j3 hj3 h => ?_)
  · refine x_istore 31 C (lv' := [(0, .ref (a 5)), (2, .int x2), (3, .int z1), (4, .int t2)]) dX1_yearOfGrave_31 (Nat.le_of_ble_eq_true rfl) [1, 2, 3, 0] rfl ?_
    refine x_iconst 33 C dX1_yearOfGrave_33 ci_0 ?_
    refine x_istore 34 C (lv' := [(0, .ref (a 5)), (2, .int x2), (3, .int z1), (4, .int t2), (5, .int 0)]) dX1_yearOfGrave_34 (Nat.le_of_ble_eq_true rfl) [1, 2, 3, 4, 0] rfl ?_
    refine x_loop (E := fun e => XAt (ωC D a b) Γ 122 [(4, .int e)] [] S0) (P := fun t => XAt (ωC D a b) Γ 36 [(0, .ref (a 5)), (2, .int x2), (3, .int z1), (4, .int t.1), (5, .int t.2)] [] S0) h (fun e16 h => ?_) (fun kx rc t hk ih h => w_X1_yearOfGrave_36 l D a b S0 C   x2 z1 kx rc hk ih t.1 t.2 h)
    refine x_iload 122 C dX1_yearOfGrave_122 0 rfl ?_
    exact x_iret 124 C dX1_yearOfGrave_124 (Option.some.inj h) rfl
  refine x_if_ne 7 C 22 dX1_yearOfGrave_7 rfl h (fun h => ?_) (fun h => ?_)
  · refine x_aload_n 22 C dX1_yearOfGrave_22 rfl 0 rfl ?_
    refine gX1_yard 23 C kw_241 dX1_yearOfGrave_23 ?_
    refine gX5_to 26 C kw_95 dX1_yearOfGrave_26 ?_
    refine x_iload_n 29 C dX1_yearOfGrave_29 rfl 1 rfl ?_
    obtain ⟨hg17, h⟩ := xif_some h
    refine c_iald 30 C (n := 8) rfl hg17 dX1_yearOfGrave_30 ?_
    exact x_sub 31 [0, 2, 3] rfl (hj3 _ h)
  · refine x_aload_n 10 C dX1_yearOfGrave_10 rfl 0 rfl ?_
    refine gX1_yard 11 C kw_241 dX1_yearOfGrave_11 ?_
    refine gX5_from 14 C kw_92 dX1_yearOfGrave_14 ?_
    refine x_iload_n 17 C dX1_yearOfGrave_17 rfl 1 rfl ?_
    obtain ⟨hg18, h⟩ := xif_some h
    refine c_iald 18 C (n := 8) rfl hg18 dX1_yearOfGrave_18 ?_
    refine x_goto 19 C 31 dX1_yearOfGrave_19 rfl ?_
    exact x_sub 31 [0, 2, 3] rfl (hj3 _ h)
/-! GraveOrder$FirstRow.yearOfKind (II)I -/
def B_X1_yearOfKind_14 (S0 : XSt) (c1 : Int32) (c2 : Int32) (kx : Int32 → Option Int32) (rc : (Int32 × Int32) → Option Int32) (y3 : Int32) (y4 : Int32) : Option Int32 :=
  (if (S0 1 4) ≤ y4 then kx y3 else ((F_X1_hasAt S0 y4 c1).bind fun z3 => (if z3 = 0 then (xlet (y4 + 1) fun v4_4 => rc (y3, v4_4)) else (if xin y4 8 = true then ((F_X1_yearOfGrave S0 (S0 22 (xti y4)) c2).bind fun z6 => (if c2 = 0 then (xlet (xmin y3 z6) fun v3_9 => (xlet (y4 + 1) fun v4_10 => rc (v3_9, v4_10))) else (xlet (xmax y3 z6) fun v3_7 => (xlet (y4 + 1) fun v4_8 => rc (v3_7, v4_8))))) else none))))
def F_X1_yearOfKind (S0 : XSt) (x1 : Int32) (x2 : Int32) : (Option Int32) :=
  (xlet (fun (t1 : Int32) => (xlp (fun k rc t => B_X1_yearOfKind_14 S0  x1 x2 k rc t.1 t.2) (fun e11 => (some e11)) XFU (t1, 0))) fun j2 => (if x2 = 0 then j2 99 else j2 0))
abbrev rm_X1_yearOfKind : Room := { frames := 2, cells := 0, slots := 0, locals := 49 }
set_option maxRecDepth 100000 in
set_option maxHeartbeats 4000000 in
theorem w_X1_yearOfKind_14 (l : Launch) (D : va_G) (a : Nat → Nat) (b : Nat → ClassId) (S0 : XSt) {Γ : XG XSt} {r9 : Int32} (C : Cx (ωC D a b) Γ cX1_yearOfKind "GraveOrder$FirstRow" (some .int) l rm_X1_yearOfKind 6 (some (.int r9), S0)) (c1 : Int32) (c2 : Int32)  (kx : Int32 → Option Int32) (rc : (Int32 × Int32) → Option Int32) (hk : ∀ e, kx e = some r9 → XAt (ωC D a b) Γ 76 [(3, .int e)] [] S0) (ih : ∀ t, rc t = some r9 → XAt (ωC D a b) Γ 14 [(0, .ref (a 5)), (1, .int c1), (2, .int c2), (3, .int t.1), (4, .int t.2)] [] S0) (y3 : Int32) (y4 : Int32) (h : B_X1_yearOfKind_14 S0  c1 c2 kx rc y3 y4 = some r9) : XAt (ωC D a b) Γ 14 [(0, .ref (a 5)), (1, .int c1), (2, .int c2), (3, .int y3), (4, .int y4)] [] S0 := by
  unfold B_X1_yearOfKind_14 at h
  refine x_iload 14 C dX1_yearOfKind_14 4 rfl ?_
  refine x_aload_n 16 C dX1_yearOfKind_16 rfl 0 rfl ?_
  refine gX1_yard 17 C kw_241 dX1_yearOfKind_17 ?_
  refine gX5_graves 20 C kw_106 dX1_yearOfKind_20 ?_
  refine x_icmp_ge 23 C 76 dX1_yearOfKind_23 rfl h (fun h => ?_) (fun h => ?_)
  · exact x_sub 76 [3] rfl (hk _ h)
  · refine x_aload_n 26 C dX1_yearOfKind_26 rfl 0 rfl ?_
    refine x_iload 27 C dX1_yearOfKind_27 4 rfl ?_
    refine x_iload_n 29 C dX1_yearOfKind_29 rfl 1 rfl ?_
    obtain ⟨z3, hz3, h⟩ := xbind_some h
    refine x_callV 30 C (q0 := 5) (ci := 1) 2 (As := [.int y4, .int c1]) (rest := []) (M_X1_hasAt l D a b S0 y4 c1  hz3) (by rfl) rfl kw_603 mv_X1_hasAt mh_X1_hasAt ⟨rfl, rfl⟩ ⟨Nat.le_of_ble_eq_true rfl, Nat.le_of_ble_eq_true rfl⟩ rfl rfl (Nat.le_of_ble_eq_true rfl) dX1_yearOfKind_30 ?_
    refine x_if_eq 33 C 70 dX1_yearOfKind_33 rfl h (fun h => ?_) (fun h => ?_)
    · refine x_iinc 70 C (L := fun v4_4 => [(0, .ref (a 5)), (1, .int c1), (2, .int c2), (3, .int y3), (4, .int v4_4)]) dX1_yearOfKind_70 4 rfl ci_1 (Nat.le_of_ble_eq_true rfl) [1, 2, 3, 4, 0] (fun _ => rfl) h (fun v4_4 h => ?_)
      refine x_goto 73 C 14 dX1_yearOfKind_73 rfl ?_
      exact ih _ h
    · refine x_aload_n 36 C dX1_yearOfKind_36 rfl 0 rfl ?_
      refine x_aload_n 37 C dX1_yearOfKind_37 rfl 0 rfl ?_
      refine gX1_row 38 C kw_242 dX1_yearOfKind_38 ?_
      refine x_iload 41 C dX1_yearOfKind_41 4 rfl ?_
      obtain ⟨hg5, h⟩ := xif_some h
      refine c_iald 43 C (n := 8) rfl hg5 dX1_yearOfKind_43 ?_
      refine x_iload_n 44 C dX1_yearOfKind_44 rfl 2 rfl ?_
      obtain ⟨z6, hz6, h⟩ := xbind_some h
      refine x_callV 45 C (q0 := 5) (ci := 1) 2 (As := [.int (S0 22 (xti y4)), .int c2]) (rest := []) (M_X1_yearOfGrave l D a b S0 (S0 22 (xti y4)) c2  hz6) (by rfl) rfl kw_661 mv_X1_yearOfGrave mh_X1_yearOfGrave ⟨rfl, rfl⟩ ⟨Nat.le_of_ble_eq_true rfl, Nat.le_of_ble_eq_true rfl⟩ rfl rfl (Nat.le_of_ble_eq_true rfl) dX1_yearOfKind_45 ?_
      refine x_istore 48 C (lv' := [(0, .ref (a 5)), (1, .int c1), (2, .int c2), (3, .int y3), (4, .int y4), (5, .int z6)]) dX1_yearOfKind_48 (Nat.le_of_ble_eq_true rfl) [1, 2, 3, 4, 5, 0] rfl ?_
      refine x_iload_n 50 C dX1_yearOfKind_50 rfl 2 rfl ?_
      refine x_if_ne 51 C 63 dX1_yearOfKind_51 rfl h (fun h => ?_) (fun h => ?_)
      · refine x_iload_n 63 C dX1_yearOfKind_63 rfl 3 rfl ?_
        refine x_iload 64 C dX1_yearOfKind_64 5 rfl ?_
        refine y_mmax 66 C kw_625_max kmath_max.1 kmath kmath_max.2 (Nat.le_of_ble_eq_true rfl) (Nat.le_of_ble_eq_true rfl) dX1_yearOfKind_66 ?_
        refine x_top h (fun v3_7 h => ?_)
        refine x_istore_n 69 C (lv' := [(0, .ref (a 5)), (1, .int c1), (2, .int c2), (3, .int v3_7), (4, .int y4)]) dX1_yearOfKind_69 rfl (Nat.le_of_ble_eq_true rfl) [1, 2, 3, 0, 4] rfl ?_
        refine x_iinc 70 C (L := fun v4_8 => [(0, .ref (a 5)), (1, .int c1), (2, .int c2), (3, .int v3_7), (4, .int v4_8)]) dX1_yearOfKind_70 4 rfl ci_1 (Nat.le_of_ble_eq_true rfl) [1, 2, 3, 4, 0] (fun _ => rfl) h (fun v4_8 h => ?_)
        refine x_goto 73 C 14 dX1_yearOfKind_73 rfl ?_
        exact ih _ h
      · refine x_iload_n 54 C dX1_yearOfKind_54 rfl 3 rfl ?_
        refine x_iload 55 C dX1_yearOfKind_55 5 rfl ?_
        refine y_mmin 57 C kw_611_min kmath_min.1 kmath kmath_min.2 (Nat.le_of_ble_eq_true rfl) (Nat.le_of_ble_eq_true rfl) dX1_yearOfKind_57 ?_
        refine x_goto 60 C 69 dX1_yearOfKind_60 rfl ?_
        refine x_top h (fun v3_9 h => ?_)
        refine x_istore_n 69 C (lv' := [(0, .ref (a 5)), (1, .int c1), (2, .int c2), (3, .int v3_9), (4, .int y4)]) dX1_yearOfKind_69 rfl (Nat.le_of_ble_eq_true rfl) [1, 2, 3, 0, 4] rfl ?_
        refine x_iinc 70 C (L := fun v4_10 => [(0, .ref (a 5)), (1, .int c1), (2, .int c2), (3, .int v3_9), (4, .int v4_10)]) dX1_yearOfKind_70 4 rfl ci_1 (Nat.le_of_ble_eq_true rfl) [1, 2, 3, 4, 0] (fun _ => rfl) h (fun v4_10 h => ?_)
        refine x_goto 73 C 14 dX1_yearOfKind_73 rfl ?_
        exact ih _ h
set_option maxRecDepth 100000 in
set_option maxHeartbeats 4000000 in
theorem M_X1_yearOfKind (l : Launch) (D : va_G) (a : Nat → Nat) (b : Nat → ClassId) (S0 : XSt) (x1 : Int32) (x2 : Int32)  {r9 : Int32} (h : F_X1_yearOfKind S0 x1 x2 = some r9) : xM l (ωC D a b) yX1_yearOfKind cX1_yearOfKind 6 (some .int) rm_X1_yearOfKind [.ref (a 5), .int x1, .int x2] S0 (some (.int r9), S0) := by
  unfold F_X1_yearOfKind at h
  refine xM_of (own := "GraveOrder$FirstRow") (by decide) rfl (Nat.le_of_ble_eq_true rfl) (fun Γ C => ?_)
  refine x_sub 0 [0, 1, 2] (lv' := [(0, .ref (a 5)), (1, .int x1), (2, .int x2)]) rfl ?_
  refine x_iload_n 0 C dX1_yearOfKind_0 rfl 2 rfl ?_
  refine x_join (P := fun t1 => XAt (ωC D a b) Γ 10 [(0, .ref (a 5)), (1, .int x1), (2, .int x2)] [.int t1] S0) h (fun t1 h => ?_) (fun j2 hj2 h => ?_)
  · refine x_istore_n 10 C (lv' := [(0, .ref (a 5)), (1, .int x1), (2, .int x2), (3, .int t1)]) dX1_yearOfKind_10 rfl (Nat.le_of_ble_eq_true rfl) [1, 2, 3, 0] rfl ?_
    refine x_iconst 11 C dX1_yearOfKind_11 ci_0 ?_
    refine x_istore 12 C (lv' := [(0, .ref (a 5)), (1, .int x1), (2, .int x2), (3, .int t1), (4, .int 0)]) dX1_yearOfKind_12 (Nat.le_of_ble_eq_true rfl) [1, 2, 3, 4, 0] rfl ?_
    refine x_loop (E := fun e => XAt (ωC D a b) Γ 76 [(3, .int e)] [] S0) (P := fun t => XAt (ωC D a b) Γ 14 [(0, .ref (a 5)), (1, .int x1), (2, .int x2), (3, .int t.1), (4, .int t.2)] [] S0) h (fun e11 h => ?_) (fun kx rc t hk ih h => w_X1_yearOfKind_14 l D a b S0 C   x1 x2 kx rc hk ih t.1 t.2 h)
    refine x_iload_n 76 C dX1_yearOfKind_76 rfl 0 rfl ?_
    exact x_iret 77 C dX1_yearOfKind_77 (Option.some.inj h) rfl
  refine x_if_ne 1 C 9 dX1_yearOfKind_1 rfl h (fun h => ?_) (fun h => ?_)
  · refine x_iconst 9 C dX1_yearOfKind_9 ci_0 ?_
    exact hj2 _ h
  · refine x_bipush 4 C dX1_yearOfKind_4 cb_99 ?_
    refine x_goto 6 C 10 dX1_yearOfKind_6 rfl ?_
    exact hj2 _ h
/-! GraveOrder$Line.follow (III)I -/
def F_X2_follow (x0 : Int32) (x1 : Int32) (x2 : Int32) : Int32 :=
  (xlet (fun (t1 : Int32) => (if x0 = 0 then (if t1 = 0 then 5 else (if x2 ≤ (x1 - (48 : Int32)) then 5 else 1)) else (if x0 = 1 then (if x1 = 58 then 2 else 5) else (if x0 = 2 then (if x1 = 45 then 3 else (if t1 = 0 then 5 else 4)) else (if x0 = 3 then (if t1 = 0 then 5 else 4) else (if x0 = 4 then (if x1 = 44 then 2 else (if x1 = 59 then 0 else 5)) else 5)))))) fun j2 => (if x1 < 48 then j2 0 else (if 57 < x1 then j2 0 else j2 1)))
abbrev rm_X2_follow : Room := { frames := 0, cells := 0, slots := 0, locals := 0 }
set_option maxRecDepth 100000 in
set_option maxHeartbeats 4000000 in
theorem M_X2_follow {σ : Type} (l : Launch) (ω : XW σ) (S0 : σ) (x0 : Int32) (x1 : Int32) (x2 : Int32)  : xM l ω yX2_follow cX2_follow 4 (some .int) rm_X2_follow [.int x0, .int x1, .int x2] S0 (some (.int (F_X2_follow x0 x1 x2)), S0) := by
  obtain ⟨r9, h⟩ : ∃ r9, F_X2_follow x0 x1 x2 = r9 := ⟨_, rfl⟩
  rw [h]
  unfold F_X2_follow at h
  refine xM_of (own := "GraveOrder$Line") (by decide) rfl (Nat.le_of_ble_eq_true rfl) (fun Γ C => ?_)
  refine x_sub 0 [0, 1, 2] (lv' := [(0, .int x0), (1, .int x1), (2, .int x2)]) rfl ?_
  refine x_iload_n 0 C dX2_follow_0 rfl 1 rfl ?_
  refine x_bipush 1 C dX2_follow_1 cb_48 ?_
  refine x_join (P := fun t1 => XAt ω Γ 17 [(0, .int x0), (1, .int x1), (2, .int x2)] [.int t1] S0) h (fun t1 h => ?_) (fun j2 hj2 h => ?_)
  · refine x_istore_n 17 C (lv' := [(0, .int x0), (1, .int x1), (2, .int x2), (3, .int t1)]) dX2_follow_17 rfl (Nat.le_of_ble_eq_true rfl) [1, 2, 3, 0] rfl ?_
    refine x_iload_n 18 C dX2_follow_18 rfl 0 rfl ?_
    refine x_split h (fun e0 h => ?_) (fun e0 h => ?_)
    · refine x_tswIn 19 C 0 52 dX2_follow_19 e0 (by decide) (by decide) rfl rfl ?_
      refine x_iload_n 52 C dX2_follow_52 rfl 3 rfl ?_
      refine x_if_eq 53 C 68 dX2_follow_53 rfl h (fun h => ?_) (fun h => ?_)
      · refine x_iconst 68 C dX2_follow_68 ci_5 ?_
        exact x_iret 69 C dX2_follow_69 h rfl
      · refine x_iload_n 56 C dX2_follow_56 rfl 1 rfl ?_
        refine x_bipush 57 C dX2_follow_57 cb_48 ?_
        refine x_isub 59 C dX2_follow_59 ?_
        refine x_iload_n 60 C dX2_follow_60 rfl 2 rfl ?_
        refine x_icmp_ge 61 C 68 dX2_follow_61 rfl h (fun h => ?_) (fun h => ?_)
        · refine x_iconst 68 C dX2_follow_68 ci_5 ?_
          exact x_iret 69 C dX2_follow_69 h rfl
        · refine x_iconst 64 C dX2_follow_64 ci_1 ?_
          refine x_goto 65 C 69 dX2_follow_65 rfl ?_
          exact x_iret 69 C dX2_follow_69 h rfl
    · refine x_split h (fun e1 h => ?_) (fun e1 h => ?_)
      · refine x_tswIn 19 C 1 70 dX2_follow_19 e1 (by decide) (by decide) rfl rfl ?_
        refine x_iload_n 70 C dX2_follow_70 rfl 1 rfl ?_
        refine x_bipush 71 C dX2_follow_71 cb_58 ?_
        refine x_icmp_ne 73 C 80 dX2_follow_73 rfl h (fun h => ?_) (fun h => ?_)
        · refine x_iconst 80 C dX2_follow_80 ci_5 ?_
          exact x_iret 81 C dX2_follow_81 h rfl
        · refine x_iconst 76 C dX2_follow_76 ci_2 ?_
          refine x_goto 77 C 81 dX2_follow_77 rfl ?_
          exact x_iret 81 C dX2_follow_81 h rfl
      · refine x_split h (fun e2 h => ?_) (fun e2 h => ?_)
        · refine x_tswIn 19 C 2 82 dX2_follow_19 e2 (by decide) (by decide) rfl rfl ?_
          refine x_iload_n 82 C dX2_follow_82 rfl 1 rfl ?_
          refine x_bipush 83 C dX2_follow_83 cb_45 ?_
          refine x_icmp_ne 85 C 90 dX2_follow_85 rfl h (fun h => ?_) (fun h => ?_)
          · refine x_iload_n 90 C dX2_follow_90 rfl 3 rfl ?_
            refine x_if_eq 91 C 98 dX2_follow_91 rfl h (fun h => ?_) (fun h => ?_)
            · refine x_iconst 98 C dX2_follow_98 ci_5 ?_
              exact x_iret 99 C dX2_follow_99 h rfl
            · refine x_iconst 94 C dX2_follow_94 ci_4 ?_
              refine x_goto 95 C 99 dX2_follow_95 rfl ?_
              exact x_iret 99 C dX2_follow_99 h rfl
          · refine x_iconst 88 C dX2_follow_88 ci_3 ?_
            exact x_iret 89 C dX2_follow_89 h rfl
        · refine x_split h (fun e3 h => ?_) (fun e3 h => ?_)
          · refine x_tswIn 19 C 3 100 dX2_follow_19 e3 (by decide) (by decide) rfl rfl ?_
            refine x_iload_n 100 C dX2_follow_100 rfl 3 rfl ?_
            refine x_if_eq 101 C 108 dX2_follow_101 rfl h (fun h => ?_) (fun h => ?_)
            · refine x_iconst 108 C dX2_follow_108 ci_5 ?_
              exact x_iret 109 C dX2_follow_109 h rfl
            · refine x_iconst 104 C dX2_follow_104 ci_4 ?_
              refine x_goto 105 C 109 dX2_follow_105 rfl ?_
              exact x_iret 109 C dX2_follow_109 h rfl
          · refine x_split h (fun e4 h => ?_) (fun e4 h => ?_)
            · refine x_tswIn 19 C 4 110 dX2_follow_19 e4 (by decide) (by decide) rfl rfl ?_
              refine x_iload_n 110 C dX2_follow_110 rfl 1 rfl ?_
              refine x_bipush 111 C dX2_follow_111 cb_44 ?_
              refine x_icmp_ne 113 C 118 dX2_follow_113 rfl h (fun h => ?_) (fun h => ?_)
              · refine x_iload_n 118 C dX2_follow_118 rfl 1 rfl ?_
                refine x_bipush 119 C dX2_follow_119 cb_59 ?_
                refine x_icmp_ne 121 C 128 dX2_follow_121 rfl h (fun h => ?_) (fun h => ?_)
                · refine x_iconst 128 C dX2_follow_128 ci_5 ?_
                  exact x_iret 129 C dX2_follow_129 h rfl
                · refine x_iconst 124 C dX2_follow_124 ci_0 ?_
                  refine x_goto 125 C 129 dX2_follow_125 rfl ?_
                  exact x_iret 129 C dX2_follow_129 h rfl
              · refine x_iconst 116 C dX2_follow_116 ci_2 ?_
                exact x_iret 117 C dX2_follow_117 h rfl
            · refine x_tswOut 19 C 130 dX2_follow_19 (by have e0_ := xi_ne 0 0 rfl e0; have e1_ := xi_ne 1 1 rfl e1; have e2_ := xi_ne 2 2 rfl e2; have e3_ := xi_ne 3 3 rfl e3; have e4_ := xi_ne 4 4 rfl e4; omega) rfl ?_
              refine x_iconst 130 C dX2_follow_130 ci_5 ?_
              exact x_iret 131 C dX2_follow_131 h rfl
  refine x_icmp_lt 3 C 16 dX2_follow_3 rfl h (fun h => ?_) (fun h => ?_)
  · refine x_iconst 16 C dX2_follow_16 ci_0 ?_
    exact hj2 _ h
  · refine x_iload_n 6 C dX2_follow_6 rfl 1 rfl ?_
    refine x_bipush 7 C dX2_follow_7 cb_57 ?_
    refine x_icmp_gt 9 C 16 dX2_follow_9 rfl h (fun h => ?_) (fun h => ?_)
    · refine x_iconst 16 C dX2_follow_16 ci_0 ?_
      exact hj2 _ h
    · refine x_iconst 12 C dX2_follow_12 ci_1 ?_
      refine x_goto 13 C 17 dX2_follow_13 rfl ?_
      exact hj2 _ h
/-! GraveOrder$Line.firstFault (I)I -/
def B_X2_firstFault_4 (S0 : XSt) (c1 : Int32) (kx : Int32 → Option Int32) (rc : (Int32 × Int32) → Option Int32) (y2 : Int32) (y3 : Int32) : Option Int32 :=
  (if (S0 2 1) ≤ y3 then kx y2 else (if xin y3 40 = true then (xlet (F_X2_follow y2 (S0 11 (xti y3)) c1) fun v2_2 => (if v2_2 = 5 then (some y3) else (xlet (y3 + 1) fun v3_3 => rc (v2_2, v3_3)))) else none))
def F_X2_firstFault (S0 : XSt) (x1 : Int32) : (Option Int32) :=
  (xlp (fun k rc t => B_X2_firstFault_4 S0  x1 k rc t.1 t.2) (fun e4 => (if e4 = 4 then (some (-1)) else (some (S0 2 1)))) XFU (0, 0))
abbrev rm_X2_firstFault : Room := { frames := 1, cells := 0, slots := 0, locals := 23 }
set_option maxRecDepth 100000 in
set_option maxHeartbeats 4000000 in
theorem w_X2_firstFault_4 (l : Launch) (D : va_G) (a : Nat → Nat) (b : Nat → ClassId) (S0 : XSt) {Γ : XG XSt} {r9 : Int32} (C : Cx (ωC D a b) Γ cX2_firstFault "GraveOrder$Line" (some .int) l rm_X2_firstFault 4 (some (.int r9), S0)) (c1 : Int32)  (kx : Int32 → Option Int32) (rc : (Int32 × Int32) → Option Int32) (hk : ∀ e, kx e = some r9 → XAt (ωC D a b) Γ 37 [(0, .ref (a 2)), (2, .int e)] [] S0) (ih : ∀ t, rc t = some r9 → XAt (ωC D a b) Γ 4 [(0, .ref (a 2)), (1, .int c1), (2, .int t.1), (3, .int t.2)] [] S0) (y2 : Int32) (y3 : Int32) (h : B_X2_firstFault_4 S0  c1 kx rc y2 y3 = some r9) : XAt (ωC D a b) Γ 4 [(0, .ref (a 2)), (1, .int c1), (2, .int y2), (3, .int y3)] [] S0 := by
  unfold B_X2_firstFault_4 at h
  refine x_iload_n 4 C dX2_firstFault_4 rfl 3 rfl ?_
  refine x_aload_n 5 C dX2_firstFault_5 rfl 0 rfl ?_
  refine gX2_length 6 C kw_145 dX2_firstFault_6 ?_
  refine x_icmp_ge 9 C 37 dX2_firstFault_9 rfl h (fun h => ?_) (fun h => ?_)
  · exact x_sub 37 [0, 2] rfl (hk _ h)
  · refine x_iload_n 12 C dX2_firstFault_12 rfl 2 rfl ?_
    refine x_aload_n 13 C dX2_firstFault_13 rfl 0 rfl ?_
    refine gX2_bytes 14 C kw_143 dX2_firstFault_14 ?_
    refine x_iload_n 17 C dX2_firstFault_17 rfl 3 rfl ?_
    obtain ⟨hg1, h⟩ := xif_some h
    refine c_iald 18 C (n := 40) rfl hg1 dX2_firstFault_18 ?_
    refine x_iload_n 19 C dX2_firstFault_19 rfl 1 rfl ?_
    refine x_callS 20 C 3 (As := [.int y2, .int (S0 11 (xti y3)), .int c1]) (rest := []) (M_X2_follow l (ωC D a b) S0 y2 (S0 11 (xti y3)) c1) kw_367 ms_X2_follow mh_X2_follow ⟨rfl, rfl⟩ ⟨Nat.le_of_ble_eq_true rfl, Nat.le_of_ble_eq_true rfl⟩ rfl rfl (Nat.le_of_ble_eq_true rfl) dX2_firstFault_20 ?_
    refine x_top h (fun v2_2 h => ?_)
    refine x_istore_n 23 C (lv' := [(0, .ref (a 2)), (1, .int c1), (2, .int v2_2), (3, .int y3)]) dX2_firstFault_23 rfl (Nat.le_of_ble_eq_true rfl) [1, 2, 0, 3] rfl ?_
    refine x_iload_n 24 C dX2_firstFault_24 rfl 2 rfl ?_
    refine x_iconst 25 C dX2_firstFault_25 ci_5 ?_
    refine x_icmp_ne 26 C 31 dX2_firstFault_26 rfl h (fun h => ?_) (fun h => ?_)
    · refine x_iinc 31 C (L := fun v3_3 => [(0, .ref (a 2)), (1, .int c1), (2, .int v2_2), (3, .int v3_3)]) dX2_firstFault_31 3 rfl ci_1 (Nat.le_of_ble_eq_true rfl) [1, 2, 3, 0] (fun _ => rfl) h (fun v3_3 h => ?_)
      refine x_goto 34 C 4 dX2_firstFault_34 rfl ?_
      exact ih _ h
    · refine x_iload_n 29 C dX2_firstFault_29 rfl 3 rfl ?_
      exact x_iret 30 C dX2_firstFault_30 (Option.some.inj h) rfl
set_option maxRecDepth 100000 in
set_option maxHeartbeats 4000000 in
theorem M_X2_firstFault (l : Launch) (D : va_G) (a : Nat → Nat) (b : Nat → ClassId) (S0 : XSt) (x1 : Int32)  {r9 : Int32} (h : F_X2_firstFault S0 x1 = some r9) : xM l (ωC D a b) yX2_firstFault cX2_firstFault 4 (some .int) rm_X2_firstFault [.ref (a 2), .int x1] S0 (some (.int r9), S0) := by
  unfold F_X2_firstFault at h
  refine xM_of (own := "GraveOrder$Line") (by decide) rfl (Nat.le_of_ble_eq_true rfl) (fun Γ C => ?_)
  refine x_sub 0 [0, 1] (lv' := [(0, .ref (a 2)), (1, .int x1)]) rfl ?_
  refine x_iconst 0 C dX2_firstFault_0 ci_0 ?_
  refine x_istore_n 1 C (lv' := [(0, .ref (a 2)), (1, .int x1), (2, .int 0)]) dX2_firstFault_1 rfl (Nat.le_of_ble_eq_true rfl) [1, 2, 0] rfl ?_
  refine x_iconst 2 C dX2_firstFault_2 ci_0 ?_
  refine x_istore_n 3 C (lv' := [(0, .ref (a 2)), (1, .int x1), (2, .int 0), (3, .int 0)]) dX2_firstFault_3 rfl (Nat.le_of_ble_eq_true rfl) [1, 2, 3, 0] rfl ?_
  refine x_loop (E := fun e => XAt (ωC D a b) Γ 37 [(0, .ref (a 2)), (2, .int e)] [] S0) (P := fun t => XAt (ωC D a b) Γ 4 [(0, .ref (a 2)), (1, .int x1), (2, .int t.1), (3, .int t.2)] [] S0) h (fun e4 h => ?_) (fun kx rc t hk ih h => w_X2_firstFault_4 l D a b S0 C   x1 kx rc hk ih t.1 t.2 h)
  refine x_iload_n 37 C dX2_firstFault_37 rfl 1 rfl ?_
  refine x_iconst 38 C dX2_firstFault_38 ci_4 ?_
  refine x_icmp_ne 39 C 46 dX2_firstFault_39 rfl h (fun h => ?_) (fun h => ?_)
  · refine x_aload_n 46 C dX2_firstFault_46 rfl 0 rfl ?_
    refine gX2_length 47 C kw_145 dX2_firstFault_47 ?_
    exact x_iret 50 C dX2_firstFault_50 (Option.some.inj h) rfl
  · refine x_iconst 42 C dX2_firstFault_42 ci_m1 ?_
    refine x_goto 43 C 50 dX2_firstFault_43 rfl ?_
    exact x_iret 50 C dX2_firstFault_50 (Option.some.inj h) rfl
/-! GraveOrder$Orders.allGraves ()I -/
def F_X3_allGraves (S0 : XSt)  : Int32 :=
  (((1 : Int32) <<< ((S0 1 4) &&& 31)) - (1 : Int32))
abbrev rm_X3_allGraves : Room := { frames := 0, cells := 0, slots := 0, locals := 0 }
set_option maxRecDepth 100000 in
set_option maxHeartbeats 4000000 in
theorem M_X3_allGraves (l : Launch) (D : va_G) (a : Nat → Nat) (b : Nat → ClassId) (S0 : XSt)   : xM l (ωC D a b) yX3_allGraves cX3_allGraves 1 (some .int) rm_X3_allGraves [.ref (a 4)] S0 (some (.int (F_X3_allGraves S0)), S0) := by
  obtain ⟨r9, h⟩ : ∃ r9, F_X3_allGraves S0 = r9 := ⟨_, rfl⟩
  rw [h]
  unfold F_X3_allGraves at h
  refine xM_of (own := "GraveOrder$Orders") (by decide) rfl (Nat.le_of_ble_eq_true rfl) (fun Γ C => ?_)
  refine x_sub 0 [0] (lv' := [(0, .ref (a 4))]) rfl ?_
  refine x_iconst 0 C dX3_allGraves_0 ci_1 ?_
  refine x_aload_n 1 C dX3_allGraves_1 rfl 0 rfl ?_
  refine gX3_yard 2 C kw_182 dX3_allGraves_2 ?_
  refine gX5_graves 5 C kw_105 dX3_allGraves_5 ?_
  refine x_ishl 8 C dX3_allGraves_8 ?_
  refine x_iconst 9 C dX3_allGraves_9 ci_1 ?_
  refine x_isub 10 C dX3_allGraves_10 ?_
  exact x_iret 11 C dX3_allGraves_11 h rfl
/-! java/lang/Integer.numberOfTrailingZeros (I)I -/
def F_J6_numberOfTrailingZeros_0f7a4 (x0 : Int32) : Int32 :=
  (xlet ((x0 ^^^ (-1 : Int32)) &&& (x0 - (1 : Int32))) fun v0_1 => (if 0 < v0_1 then (xlet (fun (t2 : (Int32 × Int32)) => (xlet (fun (t4 : (Int32 × Int32)) => (xlet (fun (t6 : (Int32 × Int32)) => (if t6.1 ≤ 4 then (t6.2 + (xushr t6.1 (1 : Int32))) else (xlet (t6.2 + 2) fun v1_8 => (xlet (xushr t6.1 (2 : Int32)) fun v0_9 => (v1_8 + (xushr v0_9 (1 : Int32))))))) fun j7 => (if t4.1 ≤ 16 then j7 (t4.1, t4.2) else (xlet (t4.2 + 4) fun v1_10 => (xlet (xushr t4.1 (4 : Int32)) fun v0_11 => j7 (v0_11, v1_10)))))) fun j5 => (if t2.1 ≤ 256 then j5 (t2.1, t2.2) else (xlet (t2.2 + 8) fun v1_12 => (xlet (xushr t2.1 (8 : Int32)) fun v0_13 => j5 (v0_13, v1_12)))))) fun j3 => (if v0_1 ≤ 65536 then j3 (v0_1, 1) else (xlet (1 + 16) fun v1_14 => (xlet (xushr v0_1 (16 : Int32)) fun v0_15 => j3 (v0_15, v1_14))))) else (v0_1 &&& (32 : Int32))))
abbrev rm_J6_numberOfTrailingZeros_0f7a4 : Room := { frames := 0, cells := 0, slots := 0, locals := 0 }
set_option maxRecDepth 100000 in
set_option maxHeartbeats 4000000 in
theorem M_J6_numberOfTrailingZeros_0f7a4 {σ : Type} (l : Launch) (ω : XW σ) (S0 : σ) (x0 : Int32)  : xM l ω yJ6_numberOfTrailingZeros_0f7a4 cJ6_numberOfTrailingZeros_0f7a4 2 (some .int) rm_J6_numberOfTrailingZeros_0f7a4 [.int x0] S0 (some (.int (F_J6_numberOfTrailingZeros_0f7a4 x0)), S0) := by
  obtain ⟨r9, h⟩ : ∃ r9, F_J6_numberOfTrailingZeros_0f7a4 x0 = r9 := ⟨_, rfl⟩
  rw [h]
  unfold F_J6_numberOfTrailingZeros_0f7a4 at h
  refine xM_of (own := "java/lang/Integer") (by decide) rfl (Nat.le_of_ble_eq_true rfl) (fun Γ C => ?_)
  refine x_sub 0 [0] (lv' := [(0, .int x0)]) rfl ?_
  refine x_iload_n 0 C dJ6_numberOfTrailingZeros_0f7a4_0 rfl 0 rfl ?_
  refine x_iconst 1 C dJ6_numberOfTrailingZeros_0f7a4_1 ci_m1 ?_
  refine x_ixor 2 C dJ6_numberOfTrailingZeros_0f7a4_2 ?_
  refine x_iload_n 3 C dJ6_numberOfTrailingZeros_0f7a4_3 rfl 0 rfl ?_
  refine x_iconst 4 C dJ6_numberOfTrailingZeros_0f7a4_4 ci_1 ?_
  refine x_isub 5 C dJ6_numberOfTrailingZeros_0f7a4_5 ?_
  refine x_iand 6 C dJ6_numberOfTrailingZeros_0f7a4_6 ?_
  refine x_top h (fun v0_1 h => ?_)
  refine x_istore_n 7 C (lv' := [(0, .int v0_1)]) dJ6_numberOfTrailingZeros_0f7a4_7 rfl (Nat.le_of_ble_eq_true rfl) [0] rfl ?_
  refine x_iload_n 8 C dJ6_numberOfTrailingZeros_0f7a4_8 rfl 0 rfl ?_
  refine x_if_gt 9 C 17 dJ6_numberOfTrailingZeros_0f7a4_9 rfl h (fun h => ?_) (fun h => ?_)
  · refine x_iconst 17 C dJ6_numberOfTrailingZeros_0f7a4_17 ci_1 ?_
    refine x_istore_n 18 C (lv' := [(0, .int v0_1), (1, .int 1)]) dJ6_numberOfTrailingZeros_0f7a4_18 rfl (Nat.le_of_ble_eq_true rfl) [1, 0] rfl ?_
    refine x_iload_n 19 C dJ6_numberOfTrailingZeros_0f7a4_19 rfl 0 rfl ?_
    refine x_ldcw 20 C kw_468 dJ6_numberOfTrailingZeros_0f7a4_20 ?_
    refine x_join (P := fun t2 => XAt ω Γ 34 [(0, .int t2.1), (1, .int t2.2)] [] S0) h (fun t2 h => ?_) (fun j3 hj3 h => ?_)
    · refine x_iload_n 34 C dJ6_numberOfTrailingZeros_0f7a4_34 rfl 0 rfl ?_
      refine x_sipush 35 C dJ6_numberOfTrailingZeros_0f7a4_35 cs_256 ?_
      refine x_join (P := fun t4 => XAt ω Γ 49 [(0, .int t4.1), (1, .int t4.2)] [] S0) h (fun t4 h => ?_) (fun j5 hj5 h => ?_)
      · refine x_iload_n 49 C dJ6_numberOfTrailingZeros_0f7a4_49 rfl 0 rfl ?_
        refine x_bipush 50 C dJ6_numberOfTrailingZeros_0f7a4_50 cb_16 ?_
        refine x_join (P := fun t6 => XAt ω Γ 62 [(0, .int t6.1), (1, .int t6.2)] [] S0) h (fun t6 h => ?_) (fun j7 hj7 h => ?_)
        · refine x_iload_n 62 C dJ6_numberOfTrailingZeros_0f7a4_62 rfl 0 rfl ?_
          refine x_iconst 63 C dJ6_numberOfTrailingZeros_0f7a4_63 ci_4 ?_
          refine x_icmp_le 64 C 74 dJ6_numberOfTrailingZeros_0f7a4_64 rfl h (fun h => ?_) (fun h => ?_)
          · refine x_iload_n 74 C dJ6_numberOfTrailingZeros_0f7a4_74 rfl 1 rfl ?_
            refine x_iload_n 75 C dJ6_numberOfTrailingZeros_0f7a4_75 rfl 0 rfl ?_
            refine x_iconst 76 C dJ6_numberOfTrailingZeros_0f7a4_76 ci_1 ?_
            refine x_iushr 77 C dJ6_numberOfTrailingZeros_0f7a4_77 ?_
            refine x_iadd 78 C dJ6_numberOfTrailingZeros_0f7a4_78 ?_
            exact x_iret 79 C dJ6_numberOfTrailingZeros_0f7a4_79 h rfl
          · refine x_iinc 67 C (L := fun v1_8 => [(0, .int t6.1), (1, .int v1_8)]) dJ6_numberOfTrailingZeros_0f7a4_67 1 rfl ci_2 (Nat.le_of_ble_eq_true rfl) [1, 0] (fun _ => rfl) h (fun v1_8 h => ?_)
            refine x_iload_n 70 C dJ6_numberOfTrailingZeros_0f7a4_70 rfl 0 rfl ?_
            refine x_iconst 71 C dJ6_numberOfTrailingZeros_0f7a4_71 ci_2 ?_
            refine x_iushr 72 C dJ6_numberOfTrailingZeros_0f7a4_72 ?_
            refine x_top h (fun v0_9 h => ?_)
            refine x_istore_n 73 C (lv' := [(0, .int v0_9), (1, .int v1_8)]) dJ6_numberOfTrailingZeros_0f7a4_73 rfl (Nat.le_of_ble_eq_true rfl) [0, 1] rfl ?_
            refine x_iload_n 74 C dJ6_numberOfTrailingZeros_0f7a4_74 rfl 1 rfl ?_
            refine x_iload_n 75 C dJ6_numberOfTrailingZeros_0f7a4_75 rfl 0 rfl ?_
            refine x_iconst 76 C dJ6_numberOfTrailingZeros_0f7a4_76 ci_1 ?_
            refine x_iushr 77 C dJ6_numberOfTrailingZeros_0f7a4_77 ?_
            refine x_iadd 78 C dJ6_numberOfTrailingZeros_0f7a4_78 ?_
            exact x_iret 79 C dJ6_numberOfTrailingZeros_0f7a4_79 h rfl
        refine x_icmp_le 52 C 62 dJ6_numberOfTrailingZeros_0f7a4_52 rfl h (fun h => ?_) (fun h => ?_)
        · exact hj7 _ h
        · refine x_iinc 55 C (L := fun v1_10 => [(0, .int t4.1), (1, .int v1_10)]) dJ6_numberOfTrailingZeros_0f7a4_55 1 rfl ci_4 (Nat.le_of_ble_eq_true rfl) [1, 0] (fun _ => rfl) h (fun v1_10 h => ?_)
          refine x_iload_n 58 C dJ6_numberOfTrailingZeros_0f7a4_58 rfl 0 rfl ?_
          refine x_iconst 59 C dJ6_numberOfTrailingZeros_0f7a4_59 ci_4 ?_
          refine x_iushr 60 C dJ6_numberOfTrailingZeros_0f7a4_60 ?_
          refine x_top h (fun v0_11 h => ?_)
          refine x_istore_n 61 C (lv' := [(0, .int v0_11), (1, .int v1_10)]) dJ6_numberOfTrailingZeros_0f7a4_61 rfl (Nat.le_of_ble_eq_true rfl) [0, 1] rfl ?_
          exact hj7 _ h
      refine x_icmp_le 38 C 49 dJ6_numberOfTrailingZeros_0f7a4_38 rfl h (fun h => ?_) (fun h => ?_)
      · exact hj5 _ h
      · refine x_iinc 41 C (L := fun v1_12 => [(0, .int t2.1), (1, .int v1_12)]) dJ6_numberOfTrailingZeros_0f7a4_41 1 rfl ci_8 (Nat.le_of_ble_eq_true rfl) [1, 0] (fun _ => rfl) h (fun v1_12 h => ?_)
        refine x_iload_n 44 C dJ6_numberOfTrailingZeros_0f7a4_44 rfl 0 rfl ?_
        refine x_bipush 45 C dJ6_numberOfTrailingZeros_0f7a4_45 cb_8 ?_
        refine x_iushr 47 C dJ6_numberOfTrailingZeros_0f7a4_47 ?_
        refine x_top h (fun v0_13 h => ?_)
        refine x_istore_n 48 C (lv' := [(0, .int v0_13), (1, .int v1_12)]) dJ6_numberOfTrailingZeros_0f7a4_48 rfl (Nat.le_of_ble_eq_true rfl) [0, 1] rfl ?_
        exact hj5 _ h
    refine x_icmp_le 23 C 34 dJ6_numberOfTrailingZeros_0f7a4_23 rfl h (fun h => ?_) (fun h => ?_)
    · exact hj3 _ h
    · refine x_iinc 26 C (L := fun v1_14 => [(0, .int v0_1), (1, .int v1_14)]) dJ6_numberOfTrailingZeros_0f7a4_26 1 rfl ci_16 (Nat.le_of_ble_eq_true rfl) [1, 0] (fun _ => rfl) h (fun v1_14 h => ?_)
      refine x_iload_n 29 C dJ6_numberOfTrailingZeros_0f7a4_29 rfl 0 rfl ?_
      refine x_bipush 30 C dJ6_numberOfTrailingZeros_0f7a4_30 cb_16 ?_
      refine x_iushr 32 C dJ6_numberOfTrailingZeros_0f7a4_32 ?_
      refine x_top h (fun v0_15 h => ?_)
      refine x_istore_n 33 C (lv' := [(0, .int v0_15), (1, .int v1_14)]) dJ6_numberOfTrailingZeros_0f7a4_33 rfl (Nat.le_of_ble_eq_true rfl) [0, 1] rfl ?_
      exact hj3 _ h
  · refine x_iload_n 12 C dJ6_numberOfTrailingZeros_0f7a4_12 rfl 0 rfl ?_
    refine x_bipush 13 C dJ6_numberOfTrailingZeros_0f7a4_13 cb_32 ?_
    refine x_iand 15 C dJ6_numberOfTrailingZeros_0f7a4_15 ?_
    exact x_iret 16 C dJ6_numberOfTrailingZeros_0f7a4_16 h rfl
