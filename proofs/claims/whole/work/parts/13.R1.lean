/-! GraveOrderModel.turns ()Z -/
def B_X7_turns_7 (S0 : XSr)  (kx : Int32 → Option (Int32 × XSr)) (rc : Int32 → Option (Int32 × XSr)) (y1 : Int32) : Option (Int32 × XSr) :=
  (if y1 < 0 then kx y1 else (if xin y1 8 = true then (if xin (y1 + (1 : Int32)) 8 = true then (if (S0.1 15 (xti y1)) ≤ (S0.1 15 (xti (y1 + (1 : Int32)))) then kx y1 else (xlet (y1 + (-1)) fun v1_4 => rc v1_4)) else none) else none))
def B_X7_turns_47 (S0 : XSr) (c1 : Int32) (kx : Int32 → Option (Int32 × XSr)) (rc : Int32 → Option (Int32 × XSr)) (y2 : Int32) : Option (Int32 × XSr) :=
  (if xin y2 8 = true then (if xin c1 8 = true then (if (S0.1 15 (xti c1)) ≤ (S0.1 15 (xti y2)) then kx y2 else (xlet (y2 + (-1)) fun v2_9 => rc v2_9)) else none) else none)
def B_X7_turns_107  (kx : XSr → Option (Int32 × XSr)) (rc : (Int32 × Int32 × XSr) → Option (Int32 × XSr)) (y4 : Int32) (y5 : Int32) (S1 : XSr) : Option (Int32 × XSr) :=
  (if y5 ≤ y4 then kx S1 else (if xin y4 8 = true then (xlet (S1.1 15 (xti y4)) fun v3_21 => (if xin y5 8 = true then (if xin y4 8 = true then (xlet (xsr S1 15 (xti y4) (S1.1 15 (xti y5))) fun S24 => (if xin y5 8 = true then (xlet (xsr S24 15 (xti y5) v3_21) fun S26 => (xlet (y4 + 1) fun v4_27 => (xlet (y5 + (-1)) fun v5_28 => rc (v4_27, v5_28, S26)))) else none)) else none) else none)) else none))
def F_X7_turns (S0 : XSr)  : (Option (Int32 × XSr)) :=
  (xlet ((S0.1 0 0) - (2 : Int32)) fun v1_1 => (xlp (fun k rc t => B_X7_turns_7 S0   k rc t) (fun e5 => (if 0 ≤ e5 then (xlet ((S0.1 0 0) - (1 : Int32)) fun v2_6 => (xlp (fun k rc t => B_X7_turns_47 S0  e5 k rc t) (fun e10 => (if xin e5 8 = true then (xlet (S0.1 15 (xti e5)) fun v3_12 => (if xin e10 8 = true then (if xin e5 8 = true then (xlet (xsr S0 15 (xti e5) (S0.1 15 (xti e10))) fun S15 => (if xin e10 8 = true then (xlet (xsr S15 15 (xti e10) v3_12) fun S17 => (xlet (e5 + (1 : Int32)) fun v4_18 => (xlet ((S17.1 0 0) - (1 : Int32)) fun v5_19 => (xlp (fun k rc t => B_X7_turns_107   k rc t.1 t.2.1 t.2.2) (fun e29 => (some (1, e29))) XFU (v4_18, v5_19, S17))))) else none)) else none) else none)) else none)) XFU v2_6)) else (some (0, S0)))) XFU v1_1))
abbrev rm_X7_turns : Room := { frames := 0, cells := 0, slots := 0, locals := 0 }
set_option maxRecDepth 100000 in
set_option maxHeartbeats 4000000 in
theorem w_X7_turns_7 (l : Launch) (D : va_G) (a : Nat → Nat) (b : Nat → ClassId) (S0 : XSr) {Γ : XG XSr} {r9 : Int32} {S9 : XSr} (C : Cx (ωR D a b) Γ cX7_turns "GraveOrderModel" (some .boolean) l rm_X7_turns 6 (some (.int r9), S9))   (kx : Int32 → Option (Int32 × XSr)) (rc : Int32 → Option (Int32 × XSr)) (hk : ∀ e, kx e = some (r9, S9) → XAt (ωR D a b) Γ 34 [(0, .ref (a 0)), (1, .int e)] [] S0) (ih : ∀ t, rc t = some (r9, S9) → XAt (ωR D a b) Γ 7 [(0, .ref (a 0)), (1, .int t)] [] S0) (y1 : Int32) (h : B_X7_turns_7 S0   kx rc y1 = some (r9, S9)) : XAt (ωR D a b) Γ 7 [(0, .ref (a 0)), (1, .int y1)] [] S0 := by
  unfold B_X7_turns_7 at h
  refine x_iload_n 7 C dX7_turns_7 rfl 1 rfl ?_
  refine x_if_lt 8 C 34 dX7_turns_8 rfl h (fun h => ?_) (fun h => ?_)
  · exact hk _ h
  · refine x_aload_n 11 C dX7_turns_11 rfl 0 rfl ?_
    refine gX7_order 12 C kw_808 dX7_turns_12 ?_
    refine x_iload_n 15 C dX7_turns_15 rfl 1 rfl ?_
    obtain ⟨hg2, h⟩ := xif_some h
    refine r_iald15 16 C hg2 dX7_turns_16 ?_
    refine x_aload_n 17 C dX7_turns_17 rfl 0 rfl ?_
    refine gX7_order 18 C kw_808 dX7_turns_18 ?_
    refine x_iload_n 21 C dX7_turns_21 rfl 1 rfl ?_
    refine x_iconst 22 C dX7_turns_22 ci_1 ?_
    refine x_iadd 23 C dX7_turns_23 ?_
    obtain ⟨hg3, h⟩ := xif_some h
    refine r_iald15 24 C hg3 dX7_turns_24 ?_
    refine x_icmp_le 25 C 34 dX7_turns_25 rfl h (fun h => ?_) (fun h => ?_)
    · exact hk _ h
    · refine x_iinc 28 C (L := fun v1_4 => [(0, .ref (a 0)), (1, .int v1_4)]) dX7_turns_28 1 rfl ci_m1 (Nat.le_of_ble_eq_true rfl) [1, 0] (fun _ => rfl) h (fun v1_4 h => ?_)
      refine x_goto 31 C 7 dX7_turns_31 rfl ?_
      exact ih _ h
set_option maxRecDepth 100000 in
set_option maxHeartbeats 4000000 in
theorem w_X7_turns_47 (l : Launch) (D : va_G) (a : Nat → Nat) (b : Nat → ClassId) (S0 : XSr) {Γ : XG XSr} {r9 : Int32} {S9 : XSr} (C : Cx (ωR D a b) Γ cX7_turns "GraveOrderModel" (some .boolean) l rm_X7_turns 6 (some (.int r9), S9)) (c1 : Int32)  (kx : Int32 → Option (Int32 × XSr)) (rc : Int32 → Option (Int32 × XSr)) (hk : ∀ e, kx e = some (r9, S9) → XAt (ωR D a b) Γ 68 [(0, .ref (a 0)), (1, .int c1), (2, .int e)] [] S0) (ih : ∀ t, rc t = some (r9, S9) → XAt (ωR D a b) Γ 47 [(0, .ref (a 0)), (1, .int c1), (2, .int t)] [] S0) (y2 : Int32) (h : B_X7_turns_47 S0  c1 kx rc y2 = some (r9, S9)) : XAt (ωR D a b) Γ 47 [(0, .ref (a 0)), (1, .int c1), (2, .int y2)] [] S0 := by
  unfold B_X7_turns_47 at h
  refine x_aload_n 47 C dX7_turns_47 rfl 0 rfl ?_
  refine gX7_order 48 C kw_808 dX7_turns_48 ?_
  refine x_iload_n 51 C dX7_turns_51 rfl 2 rfl ?_
  obtain ⟨hg7, h⟩ := xif_some h
  refine r_iald15 52 C hg7 dX7_turns_52 ?_
  refine x_aload_n 53 C dX7_turns_53 rfl 0 rfl ?_
  refine gX7_order 54 C kw_808 dX7_turns_54 ?_
  refine x_iload_n 57 C dX7_turns_57 rfl 1 rfl ?_
  obtain ⟨hg8, h⟩ := xif_some h
  refine r_iald15 58 C hg8 dX7_turns_58 ?_
  refine x_icmp_ge 59 C 68 dX7_turns_59 rfl h (fun h => ?_) (fun h => ?_)
  · exact hk _ h
  · refine x_iinc 62 C (L := fun v2_9 => [(0, .ref (a 0)), (1, .int c1), (2, .int v2_9)]) dX7_turns_62 2 rfl ci_m1 (Nat.le_of_ble_eq_true rfl) [1, 2, 0] (fun _ => rfl) h (fun v2_9 h => ?_)
    refine x_goto 65 C 47 dX7_turns_65 rfl ?_
    exact ih _ h
set_option maxRecDepth 100000 in
set_option maxHeartbeats 4000000 in
theorem w_X7_turns_107 (l : Launch) (D : va_G) (a : Nat → Nat) (b : Nat → ClassId) (S0 : XSr) {Γ : XG XSr} {r9 : Int32} {S9 : XSr} (C : Cx (ωR D a b) Γ cX7_turns "GraveOrderModel" (some .boolean) l rm_X7_turns 6 (some (.int r9), S9))   (kx : XSr → Option (Int32 × XSr)) (rc : (Int32 × Int32 × XSr) → Option (Int32 × XSr)) (hk : ∀ e, kx e = some (r9, S9) → XAt (ωR D a b) Γ 153 [] [] e) (ih : ∀ t, rc t = some (r9, S9) → XAt (ωR D a b) Γ 107 [(0, .ref (a 0)), (4, .int t.1), (5, .int t.2.1)] [] t.2.2) (y4 : Int32) (y5 : Int32) (S1 : XSr) (h : B_X7_turns_107   kx rc y4 y5 S1 = some (r9, S9)) : XAt (ωR D a b) Γ 107 [(0, .ref (a 0)), (4, .int y4), (5, .int y5)] [] S1 := by
  unfold B_X7_turns_107 at h
  refine x_iload 107 C dX7_turns_107 1 rfl ?_
  refine x_iload 109 C dX7_turns_109 2 rfl ?_
  refine x_icmp_ge 111 C 153 dX7_turns_111 rfl h (fun h => ?_) (fun h => ?_)
  · exact x_sub 153 [] rfl (hk _ h)
  · refine x_aload_n 114 C dX7_turns_114 rfl 0 rfl ?_
    refine gX7_order 115 C kw_808 dX7_turns_115 ?_
    refine x_iload 118 C dX7_turns_118 1 rfl ?_
    obtain ⟨hg20, h⟩ := xif_some h
    refine r_iald15 120 C hg20 dX7_turns_120 ?_
    refine x_top h (fun v3_21 h => ?_)
    refine x_istore_n 121 C (lv' := [(0, .ref (a 0)), (3, .int v3_21), (4, .int y4), (5, .int y5)]) dX7_turns_121 rfl (Nat.le_of_ble_eq_true rfl) [1, 0, 2, 3] rfl ?_
    refine x_aload_n 122 C dX7_turns_122 rfl 0 rfl ?_
    refine gX7_order 123 C kw_808 dX7_turns_123 ?_
    refine x_iload 126 C dX7_turns_126 2 rfl ?_
    refine x_aload_n 128 C dX7_turns_128 rfl 0 rfl ?_
    refine gX7_order 129 C kw_808 dX7_turns_129 ?_
    refine x_iload 132 C dX7_turns_132 3 rfl ?_
    obtain ⟨hg22, h⟩ := xif_some h
    refine r_iald15 134 C hg22 dX7_turns_134 ?_
    obtain ⟨hg23, h⟩ := xif_some h
    refine r_iast15 135 C hg23 dX7_turns_135 ?_
    refine x_topS h (fun S24 h => ?_)
    refine x_aload_n 136 C dX7_turns_136 rfl 0 rfl ?_
    refine gX7_order 137 C kw_808 dX7_turns_137 ?_
    refine x_iload 140 C dX7_turns_140 3 rfl ?_
    refine x_iload_n 142 C dX7_turns_142 rfl 1 rfl ?_
    obtain ⟨hg25, h⟩ := xif_some h
    refine r_iast15 143 C hg25 dX7_turns_143 ?_
    refine x_topS h (fun S26 h => ?_)
    refine x_iinc 144 C (L := fun v4_27 => [(0, .ref (a 0)), (4, .int v4_27), (5, .int y5)]) dX7_turns_144 2 rfl ci_1 (Nat.le_of_ble_eq_true rfl) [1, 0, 3] (fun _ => rfl) h (fun v4_27 h => ?_)
    refine x_iinc 147 C (L := fun v5_28 => [(0, .ref (a 0)), (4, .int v4_27), (5, .int v5_28)]) dX7_turns_147 2 rfl ci_m1 (Nat.le_of_ble_eq_true rfl) [1, 2, 0] (fun _ => rfl) h (fun v5_28 h => ?_)
    refine x_goto 150 C 107 dX7_turns_150 rfl ?_
    exact ih _ h
set_option maxRecDepth 100000 in
set_option maxHeartbeats 4000000 in
theorem M_X7_turns (l : Launch) (D : va_G) (a : Nat → Nat) (b : Nat → ClassId) (S0 : XSr)   {r9 : Int32} {S9 : XSr} (h : F_X7_turns S0 = some (r9, S9)) : xM l (ωR D a b) yX7_turns cX7_turns 6 (some .boolean) rm_X7_turns [.ref (a 0)] S0 (some (.int r9), S9) := by
  unfold F_X7_turns at h
  refine xM_of (own := "GraveOrderModel") (by decide) rfl (Nat.le_of_ble_eq_true rfl) (fun Γ C => ?_)
  refine x_sub 0 [0] (lv' := [(0, .ref (a 0))]) rfl ?_
  refine x_aload_n 0 C dX7_turns_0 rfl 0 rfl ?_
  refine gX7_graves 1 C kw_786 dX7_turns_1 ?_
  refine x_iconst 4 C dX7_turns_4 ci_2 ?_
  refine x_isub 5 C dX7_turns_5 ?_
  refine x_top h (fun v1_1 h => ?_)
  refine x_istore_n 6 C (lv' := [(0, .ref (a 0)), (1, .int v1_1)]) dX7_turns_6 rfl (Nat.le_of_ble_eq_true rfl) [1, 0] rfl ?_
  refine x_loop (E := fun e => XAt (ωR D a b) Γ 34 [(0, .ref (a 0)), (1, .int e)] [] S0) (P := fun t => XAt (ωR D a b) Γ 7 [(0, .ref (a 0)), (1, .int t)] [] S0) h (fun e5 h => ?_) (fun kx rc t hk ih h => w_X7_turns_7 l D a b S0 C    kx rc hk ih t h)
  refine x_iload_n 34 C dX7_turns_34 rfl 1 rfl ?_
  refine x_if_ge 35 C 40 dX7_turns_35 rfl h (fun h => ?_) (fun h => ?_)
  · refine x_aload_n 40 C dX7_turns_40 rfl 0 rfl ?_
    refine gX7_graves 41 C kw_786 dX7_turns_41 ?_
    refine x_iconst 44 C dX7_turns_44 ci_1 ?_
    refine x_isub 45 C dX7_turns_45 ?_
    refine x_top h (fun v2_6 h => ?_)
    refine x_istore_n 46 C (lv' := [(0, .ref (a 0)), (1, .int e5), (2, .int v2_6)]) dX7_turns_46 rfl (Nat.le_of_ble_eq_true rfl) [1, 2, 0] rfl ?_
    refine x_loop (E := fun e => XAt (ωR D a b) Γ 68 [(0, .ref (a 0)), (1, .int e5), (2, .int e)] [] S0) (P := fun t => XAt (ωR D a b) Γ 47 [(0, .ref (a 0)), (1, .int e5), (2, .int t)] [] S0) h (fun e10 h => ?_) (fun kx rc t hk ih h => w_X7_turns_47 l D a b S0 C   e5 kx rc hk ih t h)
    refine x_aload_n 68 C dX7_turns_68 rfl 0 rfl ?_
    refine gX7_order 69 C kw_808 dX7_turns_69 ?_
    refine x_iload_n 72 C dX7_turns_72 rfl 1 rfl ?_
    obtain ⟨hg11, h⟩ := xif_some h
    refine r_iald15 73 C hg11 dX7_turns_73 ?_
    refine x_top h (fun v3_12 h => ?_)
    refine x_istore_n 74 C (lv' := [(0, .ref (a 0)), (1, .int e5), (2, .int e10), (3, .int v3_12)]) dX7_turns_74 rfl (Nat.le_of_ble_eq_true rfl) [1, 2, 3, 0] rfl ?_
    refine x_aload_n 75 C dX7_turns_75 rfl 0 rfl ?_
    refine gX7_order 76 C kw_808 dX7_turns_76 ?_
    refine x_iload_n 79 C dX7_turns_79 rfl 1 rfl ?_
    refine x_aload_n 80 C dX7_turns_80 rfl 0 rfl ?_
    refine gX7_order 81 C kw_808 dX7_turns_81 ?_
    refine x_iload_n 84 C dX7_turns_84 rfl 2 rfl ?_
    obtain ⟨hg13, h⟩ := xif_some h
    refine r_iald15 85 C hg13 dX7_turns_85 ?_
    obtain ⟨hg14, h⟩ := xif_some h
    refine r_iast15 86 C hg14 dX7_turns_86 ?_
    refine x_topS h (fun S15 h => ?_)
    refine x_aload_n 87 C dX7_turns_87 rfl 0 rfl ?_
    refine gX7_order 88 C kw_808 dX7_turns_88 ?_
    refine x_iload_n 91 C dX7_turns_91 rfl 2 rfl ?_
    refine x_iload_n 92 C dX7_turns_92 rfl 3 rfl ?_
    obtain ⟨hg16, h⟩ := xif_some h
    refine r_iast15 93 C hg16 dX7_turns_93 ?_
    refine x_topS h (fun S17 h => ?_)
    refine x_iload_n 94 C dX7_turns_94 rfl 1 rfl ?_
    refine x_iconst 95 C dX7_turns_95 ci_1 ?_
    refine x_iadd 96 C dX7_turns_96 ?_
    refine x_top h (fun v4_18 h => ?_)
    refine x_istore 97 C (lv' := [(0, .ref (a 0)), (4, .int v4_18)]) dX7_turns_97 (Nat.le_of_ble_eq_true rfl) [1, 0] rfl ?_
    refine x_aload_n 99 C dX7_turns_99 rfl 0 rfl ?_
    refine gX7_graves 100 C kw_786 dX7_turns_100 ?_
    refine x_iconst 103 C dX7_turns_103 ci_1 ?_
    refine x_isub 104 C dX7_turns_104 ?_
    refine x_top h (fun v5_19 h => ?_)
    refine x_istore 105 C (lv' := [(0, .ref (a 0)), (4, .int v4_18), (5, .int v5_19)]) dX7_turns_105 (Nat.le_of_ble_eq_true rfl) [1, 2, 0] rfl ?_
    refine x_loop (E := fun e => XAt (ωR D a b) Γ 153 [] [] e) (P := fun t => XAt (ωR D a b) Γ 107 [(0, .ref (a 0)), (4, .int t.1), (5, .int t.2.1)] [] t.2.2) h (fun e29 h => ?_) (fun kx rc t hk ih h => w_X7_turns_107 l D a b S0 C    kx rc hk ih t.1 t.2.1 t.2.2 h)
    refine x_iconst 153 C dX7_turns_153 ci_1 ?_
    exact x_zret 154 C dX7_turns_154 rfl (Prod.mk.inj (Option.some.inj h)).1 (Prod.mk.inj (Option.some.inj h)).2
  · refine x_iconst 38 C dX7_turns_38 ci_0 ?_
    exact x_zret 39 C dX7_turns_39 rfl (Prod.mk.inj (Option.some.inj h)).1 (Prod.mk.inj (Option.some.inj h)).2
/-! GraveOrderModel.plain ()V -/
def B_X7_plain_2  (kx : XSr → Option XSr) (rc : (Int32 × XSr) → Option XSr) (y1 : Int32) (S1 : XSr) : Option XSr :=
  (if (S1.1 0 0) ≤ y1 then kx S1 else (if xin y1 8 = true then (xlet (xsr S1 15 (xti y1) y1) fun S2 => (xlet (y1 + 1) fun v1_3 => rc (v1_3, S2))) else none))
def F_X7_plain (S0 : XSr)  : (Option XSr) :=
  (xlp (fun k rc t => B_X7_plain_2   k rc t.1 t.2) (fun e4 => (some e4)) XFU (0, S0))
abbrev rm_X7_plain : Room := { frames := 0, cells := 0, slots := 0, locals := 0 }
set_option maxRecDepth 100000 in
set_option maxHeartbeats 4000000 in
theorem w_X7_plain_2 (l : Launch) (D : va_G) (a : Nat → Nat) (b : Nat → ClassId) (S0 : XSr) {Γ : XG XSr} {S9 : XSr} (C : Cx (ωR D a b) Γ cX7_plain "GraveOrderModel" none l rm_X7_plain 2 (none, S9))   (kx : XSr → Option XSr) (rc : (Int32 × XSr) → Option XSr) (hk : ∀ e, kx e = some S9 → XAt (ωR D a b) Γ 23 [] [] e) (ih : ∀ t, rc t = some S9 → XAt (ωR D a b) Γ 2 [(0, .ref (a 0)), (1, .int t.1)] [] t.2) (y1 : Int32) (S1 : XSr) (h : B_X7_plain_2   kx rc y1 S1 = some S9) : XAt (ωR D a b) Γ 2 [(0, .ref (a 0)), (1, .int y1)] [] S1 := by
  unfold B_X7_plain_2 at h
  refine x_iload_n 2 C dX7_plain_2 rfl 1 rfl ?_
  refine x_aload_n 3 C dX7_plain_3 rfl 0 rfl ?_
  refine gX7_graves 4 C kw_786 dX7_plain_4 ?_
  refine x_icmp_ge 7 C 23 dX7_plain_7 rfl h (fun h => ?_) (fun h => ?_)
  · exact x_sub 23 [] rfl (hk _ h)
  · refine x_aload_n 10 C dX7_plain_10 rfl 0 rfl ?_
    refine gX7_order 11 C kw_808 dX7_plain_11 ?_
    refine x_iload_n 14 C dX7_plain_14 rfl 1 rfl ?_
    refine x_iload_n 15 C dX7_plain_15 rfl 1 rfl ?_
    obtain ⟨hg1, h⟩ := xif_some h
    refine r_iast15 16 C hg1 dX7_plain_16 ?_
    refine x_topS h (fun S2 h => ?_)
    refine x_iinc 17 C (L := fun v1_3 => [(0, .ref (a 0)), (1, .int v1_3)]) dX7_plain_17 1 rfl ci_1 (Nat.le_of_ble_eq_true rfl) [1, 0] (fun _ => rfl) h (fun v1_3 h => ?_)
    refine x_goto 20 C 2 dX7_plain_20 rfl ?_
    exact ih _ h
set_option maxRecDepth 100000 in
set_option maxHeartbeats 4000000 in
theorem M_X7_plain (l : Launch) (D : va_G) (a : Nat → Nat) (b : Nat → ClassId) (S0 : XSr)   {S9 : XSr} (h : F_X7_plain S0 = some S9) : xM l (ωR D a b) yX7_plain cX7_plain 2 none rm_X7_plain [.ref (a 0)] S0 (none, S9) := by
  unfold F_X7_plain at h
  refine xM_of (own := "GraveOrderModel") (by decide) rfl (Nat.le_of_ble_eq_true rfl) (fun Γ C => ?_)
  refine x_sub 0 [0] (lv' := [(0, .ref (a 0))]) rfl ?_
  refine x_iconst 0 C dX7_plain_0 ci_0 ?_
  refine x_istore_n 1 C (lv' := [(0, .ref (a 0)), (1, .int 0)]) dX7_plain_1 rfl (Nat.le_of_ble_eq_true rfl) [1, 0] rfl ?_
  refine x_loop (E := fun e => XAt (ωR D a b) Γ 23 [] [] e) (P := fun t => XAt (ωR D a b) Γ 2 [(0, .ref (a 0)), (1, .int t.1)] [] t.2) h (fun e4 h => ?_) (fun kx rc t hk ih h => w_X7_plain_2 l D a b S0 C    kx rc hk ih t.1 t.2 h)
  exact x_vret 23 C dX7_plain_23 (Option.some.inj h)
/-! GraveOrderModel.counts ()V -/
def B_X7_counts_6 (S0 : XSr)  (kx : (Int32 × Int32) → Option XSr) (rc : (Int32 × Int32 × Int32) → Option XSr) (y1 : Int32) (y2 : Int32) (y3 : Int32) : Option XSr :=
  (if 10 ≤ y3 then kx (y1, y2) else (if xin y3 10 = true then (xlet (fun (t2 : Int32) => (if xin y3 10 = true then (xlet (y1 + ((S0.1 3 (xti y3)) * t2)) fun v1_5 => (if t2 ≤ 0 then (xlet (y2 ||| (0 : Int32)) fun v2_6 => (xlet (y3 + 1) fun v3_7 => rc (v1_5, v2_6, v3_7))) else (xlet (y2 ||| ((1 : Int32) <<< (y3 &&& 31))) fun v2_8 => (xlet (y3 + 1) fun v3_9 => rc (v1_5, v2_8, v3_9))))) else none)) fun j3 => (if (S0.1 3 (xti y3)) = 0 then j3 0 else ((F_X7_gapsOf S0 y3).bind fun z10 => j3 z10))) else none))
def B_X7_counts_230  (kx : XSr → Option XSr) (rc : (Int32 × Int32 × XSr) → Option XSr) (y3 : Int32) (y4 : Int32) (S1 : XSr) : Option XSr :=
  (if (S1.1 0 0) ≤ y4 then kx S1 else (if xin y4 8 = true then (if xin (S1.1 15 (xti y4)) 8 = true then (if xin (S1.1 15 (xti y4)) 8 = true then (xlet (xsr S1 18 (xti (S1.1 15 (xti y4))) ((S1.1 18 (xti (S1.1 15 (xti y4)))) &&& y3)) fun S25 => (if xin y4 8 = true then (if xin (S25.1 15 (xti y4)) 8 = true then (if xin (S25.1 15 (xti y4)) 8 = true then (xlet (xsr S25 19 (xti (S25.1 15 (xti y4))) ((S25.1 19 (xti (S25.1 15 (xti y4)))) ||| ((1 : Int32) <<< (y4 &&& 31)))) fun S29 => (if xin y4 8 = true then (xlet (y3 ||| ((1 : Int32) <<< ((S29.1 15 (xti y4)) &&& 31))) fun v3_31 => (xlet (y4 + 1) fun v4_32 => rc (v3_31, v4_32, S29))) else none)) else none) else none) else none)) else none) else none) else none))
def B_X7_counts_165 (c1 : Int32) (kx : XSr → Option XSr) (rc : (Int32 × XSr) → Option XSr) (y3 : Int32) (S1 : XSr) : Option XSr :=
  (if (S1.1 0 0) ≤ y3 then kx S1 else (if xin y3 8 = true then (if xin y3 8 = true then (xlet (xsr S1 17 (xti y3) (S1.1 15 (xti y3))) fun S38 => (if xin y3 8 = true then (xlet (xsr S38 18 (xti y3) 255) fun S40 => (if xin y3 8 = true then (xlet (xsr S40 19 (xti y3) 0) fun S42 => (xlet (y3 + 1) fun v3_43 => rc (v3_43, S42))) else none)) else none)) else none) else none))
def F_X7_counts (S0 : XSr)  : (Option XSr) :=
  (xlp (fun k rc t => B_X7_counts_6 S0   k rc t.1 t.2.1 t.2.2) (fun e11 => (xlet (xsr S0 0 25 ((S0.1 0 25) + (1 : Int32))) fun S12 => (xlet (xsl S12 (S12.2 + ((e11.1).toInt64))) fun S13 => (if xin e11.1 1000 = true then (if xin e11.1 1000 = true then (xlet (xsr S13 16 (xti e11.1) ((S13.1 16 (xti e11.1)) + (1 : Int32))) fun S16 => (xlet (fun (t17 : XSr) => (xlet (fun (t19 : XSr) => (if e11.1 = (t19.1 0 23) then (xlet (xsr t19 0 24 ((t19.1 0 24) + (1 : Int32))) fun S21 => (xlp (fun k rc t => B_X7_counts_230   k rc t.1 t.2.1 t.2.2) (fun e33 => (some e33)) XFU (0, 0, S21))) else (some t19))) fun j20 => (if (t17.1 0 23) ≤ e11.1 then j20 t17 else (xlet (xsr t17 0 23 e11.1) fun S34 => (xlet (xsr S34 0 24 0) fun S35 => (xlp (fun k rc t => B_X7_counts_165  e11.1 k rc t.1 t.2) (fun e44 => j20 e44) XFU (0, S35))))))) fun j18 => (if (S16.1 0 31) = (-1) then (xlet (xsr S16 0 31 e11.2) fun S45 => j18 S45) else ((F_X7_ones S16 e11.2).bind fun z46 => ((F_X7_ones S16 (S16.1 0 31)).bind fun z47 => (if z46 < z47 then (xlet (xsr S16 0 31 e11.2) fun S48 => j18 S48) else ((F_X7_ones S16 e11.2).bind fun z49 => ((F_X7_ones S16 (S16.1 0 31)).bind fun z50 => (if z49 = z50 then (if (S16.1 0 31) ≤ e11.2 then j18 S16 else (xlet (xsr S16 0 31 e11.2) fun S51 => j18 S51)) else j18 S16))))))))) else none) else none)))) XFU (0, 0, 0))
abbrev rm_X7_counts : Room := { frames := 2, cells := 0, slots := 0, locals := 45 }
set_option maxRecDepth 100000 in
set_option maxHeartbeats 4000000 in
theorem w_X7_counts_6 (l : Launch) (D : va_G) (a : Nat → Nat) (b : Nat → ClassId) (S0 : XSr) {Γ : XG XSr} {S9 : XSr} (C : Cx (ωR D a b) Γ cX7_counts "GraveOrderModel" none l rm_X7_counts 5 (none, S9))   (kx : (Int32 × Int32) → Option XSr) (rc : (Int32 × Int32 × Int32) → Option XSr) (hk : ∀ e, kx e = some S9 → XAt (ωR D a b) Γ 65 [(0, .ref (a 0)), (1, .int e.1), (2, .int e.2)] [] S0) (ih : ∀ t, rc t = some S9 → XAt (ωR D a b) Γ 6 [(0, .ref (a 0)), (1, .int t.1), (2, .int t.2.1), (3, .int t.2.2)] [] S0) (y1 : Int32) (y2 : Int32) (y3 : Int32) (h : B_X7_counts_6 S0   kx rc y1 y2 y3 = some S9) : XAt (ωR D a b) Γ 6 [(0, .ref (a 0)), (1, .int y1), (2, .int y2), (3, .int y3)] [] S0 := by
  unfold B_X7_counts_6 at h
  refine x_iload_n 6 C dX7_counts_6 rfl 3 rfl ?_
  refine x_bipush 7 C dX7_counts_7 cb_10 ?_
  refine x_icmp_ge 9 C 65 dX7_counts_9 rfl h (fun h => ?_) (fun h => ?_)
  · exact x_sub 65 [0, 1, 2] rfl (hk _ h)
  · refine x_aload_n 12 C dX7_counts_12 rfl 0 rfl ?_
    refine gX7_weights 13 C kw_790 dX7_counts_13 ?_
    refine x_iload_n 16 C dX7_counts_16 rfl 3 rfl ?_
    obtain ⟨hg1, h⟩ := xif_some h
    refine r_iald3 17 C hg1 dX7_counts_17 ?_
    refine x_join (P := fun t2 => XAt (ωR D a b) Γ 30 [(0, .ref (a 0)), (1, .int y1), (2, .int y2), (3, .int y3)] [.int t2] S0) h (fun t2 h => ?_) (fun j3 hj3 h => ?_)
    · refine x_istore 30 C (lv' := [(0, .ref (a 0)), (1, .int y1), (2, .int y2), (3, .int y3), (4, .int t2)]) dX7_counts_30 (Nat.le_of_ble_eq_true rfl) [1, 2, 3, 4, 0] rfl ?_
      refine x_iload_n 32 C dX7_counts_32 rfl 1 rfl ?_
      refine x_aload_n 33 C dX7_counts_33 rfl 0 rfl ?_
      refine gX7_weights 34 C kw_790 dX7_counts_34 ?_
      refine x_iload_n 37 C dX7_counts_37 rfl 3 rfl ?_
      obtain ⟨hg4, h⟩ := xif_some h
      refine r_iald3 38 C hg4 dX7_counts_38 ?_
      refine x_iload 39 C dX7_counts_39 4 rfl ?_
      refine x_imul 41 C dX7_counts_41 ?_
      refine x_iadd 42 C dX7_counts_42 ?_
      refine x_top h (fun v1_5 h => ?_)
      refine x_istore_n 43 C (lv' := [(0, .ref (a 0)), (1, .int v1_5), (2, .int y2), (3, .int y3), (4, .int t2)]) dX7_counts_43 rfl (Nat.le_of_ble_eq_true rfl) [1, 0, 2, 3, 4] rfl ?_
      refine x_iload_n 44 C dX7_counts_44 rfl 2 rfl ?_
      refine x_iload 45 C dX7_counts_45 4 rfl ?_
      refine x_if_le 47 C 56 dX7_counts_47 rfl h (fun h => ?_) (fun h => ?_)
      · refine x_iconst 56 C dX7_counts_56 ci_0 ?_
        refine x_ior 57 C dX7_counts_57 ?_
        refine x_top h (fun v2_6 h => ?_)
        refine x_istore_n 58 C (lv' := [(0, .ref (a 0)), (1, .int v1_5), (2, .int v2_6), (3, .int y3)]) dX7_counts_58 rfl (Nat.le_of_ble_eq_true rfl) [1, 2, 0, 3] rfl ?_
        refine x_iinc 59 C (L := fun v3_7 => [(0, .ref (a 0)), (1, .int v1_5), (2, .int v2_6), (3, .int v3_7)]) dX7_counts_59 3 rfl ci_1 (Nat.le_of_ble_eq_true rfl) [1, 2, 3, 0] (fun _ => rfl) h (fun v3_7 h => ?_)
        refine x_goto 62 C 6 dX7_counts_62 rfl ?_
        exact ih _ h
      · refine x_iconst 50 C dX7_counts_50 ci_1 ?_
        refine x_iload_n 51 C dX7_counts_51 rfl 3 rfl ?_
        refine x_ishl 52 C dX7_counts_52 ?_
        refine x_goto 53 C 57 dX7_counts_53 rfl ?_
        refine x_ior 57 C dX7_counts_57 ?_
        refine x_top h (fun v2_8 h => ?_)
        refine x_istore_n 58 C (lv' := [(0, .ref (a 0)), (1, .int v1_5), (2, .int v2_8), (3, .int y3)]) dX7_counts_58 rfl (Nat.le_of_ble_eq_true rfl) [1, 2, 0, 3] rfl ?_
        refine x_iinc 59 C (L := fun v3_9 => [(0, .ref (a 0)), (1, .int v1_5), (2, .int v2_8), (3, .int v3_9)]) dX7_counts_59 3 rfl ci_1 (Nat.le_of_ble_eq_true rfl) [1, 2, 3, 0] (fun _ => rfl) h (fun v3_9 h => ?_)
        refine x_goto 62 C 6 dX7_counts_62 rfl ?_
        exact ih _ h
    refine x_if_ne 18 C 25 dX7_counts_18 rfl h (fun h => ?_) (fun h => ?_)
    · refine x_aload_n 25 C dX7_counts_25 rfl 0 rfl ?_
      refine x_iload_n 26 C dX7_counts_26 rfl 3 rfl ?_
      obtain ⟨z10, hz10, h⟩ := xbind_some h
      refine x_callV 27 C (q0 := 0) (ci := 7) 1 (As := [.int y3]) (rest := []) (M_X7_gapsOf l D a b S0 y3  hz10) (by rfl) rfl kw_999 mv_X7_gapsOf mh_X7_gapsOf ⟨rfl, rfl⟩ ⟨Nat.le_of_ble_eq_true rfl, Nat.le_of_ble_eq_true rfl⟩ rfl rfl (Nat.le_of_ble_eq_true rfl) dX7_counts_27 ?_
      exact hj3 _ h
    · refine x_iconst 21 C dX7_counts_21 ci_0 ?_
      refine x_goto 22 C 30 dX7_counts_22 rfl ?_
      exact hj3 _ h
set_option maxRecDepth 100000 in
set_option maxHeartbeats 4000000 in
theorem w_X7_counts_230 (l : Launch) (D : va_G) (a : Nat → Nat) (b : Nat → ClassId) (S0 : XSr) {Γ : XG XSr} {S9 : XSr} (C : Cx (ωR D a b) Γ cX7_counts "GraveOrderModel" none l rm_X7_counts 5 (none, S9))   (kx : XSr → Option XSr) (rc : (Int32 × Int32 × XSr) → Option XSr) (hk : ∀ e, kx e = some S9 → XAt (ωR D a b) Γ 292 [] [] e) (ih : ∀ t, rc t = some S9 → XAt (ωR D a b) Γ 230 [(0, .ref (a 0)), (3, .int t.1), (4, .int t.2.1)] [] t.2.2) (y3 : Int32) (y4 : Int32) (S1 : XSr) (h : B_X7_counts_230   kx rc y3 y4 S1 = some S9) : XAt (ωR D a b) Γ 230 [(0, .ref (a 0)), (3, .int y3), (4, .int y4)] [] S1 := by
  unfold B_X7_counts_230 at h
  refine x_iload 230 C dX7_counts_230 2 rfl ?_
  refine x_aload_n 232 C dX7_counts_232 rfl 0 rfl ?_
  refine gX7_graves 233 C kw_786 dX7_counts_233 ?_
  refine x_icmp_ge 236 C 292 dX7_counts_236 rfl h (fun h => ?_) (fun h => ?_)
  · exact x_sub 292 [] rfl (hk _ h)
  · refine x_aload_n 239 C dX7_counts_239 rfl 0 rfl ?_
    refine gX7_ahead 240 C kw_815 dX7_counts_240 ?_
    refine x_aload_n 243 C dX7_counts_243 rfl 0 rfl ?_
    refine gX7_order 244 C kw_808 dX7_counts_244 ?_
    refine x_iload 247 C dX7_counts_247 2 rfl ?_
    obtain ⟨hg22, h⟩ := xif_some h
    refine r_iald15 249 C hg22 dX7_counts_249 ?_
    refine x_dup2 250 C dX7_counts_250 rfl rfl ?_
    obtain ⟨hg23, h⟩ := xif_some h
    refine r_iald18 251 C hg23 dX7_counts_251 ?_
    refine x_iload_n 252 C dX7_counts_252 rfl 1 rfl ?_
    refine x_iand 253 C dX7_counts_253 ?_
    obtain ⟨hg24, h⟩ := xif_some h
    refine r_iast18 254 C hg24 dX7_counts_254 ?_
    refine x_topS h (fun S25 h => ?_)
    refine x_aload_n 255 C dX7_counts_255 rfl 0 rfl ?_
    refine gX7_placesOf 256 C kw_816 dX7_counts_256 ?_
    refine x_aload_n 259 C dX7_counts_259 rfl 0 rfl ?_
    refine gX7_order 260 C kw_808 dX7_counts_260 ?_
    refine x_iload 263 C dX7_counts_263 2 rfl ?_
    obtain ⟨hg26, h⟩ := xif_some h
    refine r_iald15 265 C hg26 dX7_counts_265 ?_
    refine x_dup2 266 C dX7_counts_266 rfl rfl ?_
    obtain ⟨hg27, h⟩ := xif_some h
    refine r_iald19 267 C hg27 dX7_counts_267 ?_
    refine x_iconst 268 C dX7_counts_268 ci_1 ?_
    refine x_iload 269 C dX7_counts_269 2 rfl ?_
    refine x_ishl 271 C dX7_counts_271 ?_
    refine x_ior 272 C dX7_counts_272 ?_
    obtain ⟨hg28, h⟩ := xif_some h
    refine r_iast19 273 C hg28 dX7_counts_273 ?_
    refine x_topS h (fun S29 h => ?_)
    refine x_iload_n 274 C dX7_counts_274 rfl 1 rfl ?_
    refine x_iconst 275 C dX7_counts_275 ci_1 ?_
    refine x_aload_n 276 C dX7_counts_276 rfl 0 rfl ?_
    refine gX7_order 277 C kw_808 dX7_counts_277 ?_
    refine x_iload 280 C dX7_counts_280 2 rfl ?_
    obtain ⟨hg30, h⟩ := xif_some h
    refine r_iald15 282 C hg30 dX7_counts_282 ?_
    refine x_ishl 283 C dX7_counts_283 ?_
    refine x_ior 284 C dX7_counts_284 ?_
    refine x_top h (fun v3_31 h => ?_)
    refine x_istore_n 285 C (lv' := [(0, .ref (a 0)), (3, .int v3_31), (4, .int y4)]) dX7_counts_285 rfl (Nat.le_of_ble_eq_true rfl) [1, 0, 2] rfl ?_
    refine x_iinc 286 C (L := fun v4_32 => [(0, .ref (a 0)), (3, .int v3_31), (4, .int v4_32)]) dX7_counts_286 2 rfl ci_1 (Nat.le_of_ble_eq_true rfl) [1, 2, 0] (fun _ => rfl) h (fun v4_32 h => ?_)
    refine x_goto 289 C 230 dX7_counts_289 rfl ?_
    exact ih _ h
set_option maxRecDepth 100000 in
set_option maxHeartbeats 4000000 in
theorem w_X7_counts_165 (l : Launch) (D : va_G) (a : Nat → Nat) (b : Nat → ClassId) (S0 : XSr) {Γ : XG XSr} {S9 : XSr} (C : Cx (ωR D a b) Γ cX7_counts "GraveOrderModel" none l rm_X7_counts 5 (none, S9)) (c1 : Int32)  (kx : XSr → Option XSr) (rc : (Int32 × XSr) → Option XSr) (hk : ∀ e, kx e = some S9 → XAt (ωR D a b) Γ 207 [(0, .ref (a 0)), (1, .int c1)] [] e) (ih : ∀ t, rc t = some S9 → XAt (ωR D a b) Γ 165 [(0, .ref (a 0)), (1, .int c1), (3, .int t.1)] [] t.2) (y3 : Int32) (S1 : XSr) (h : B_X7_counts_165  c1 kx rc y3 S1 = some S9) : XAt (ωR D a b) Γ 165 [(0, .ref (a 0)), (1, .int c1), (3, .int y3)] [] S1 := by
  unfold B_X7_counts_165 at h
  refine x_iload_n 165 C dX7_counts_165 rfl 2 rfl ?_
  refine x_aload_n 166 C dX7_counts_166 rfl 0 rfl ?_
  refine gX7_graves 167 C kw_786 dX7_counts_167 ?_
  refine x_icmp_ge 170 C 207 dX7_counts_170 rfl h (fun h => ?_) (fun h => ?_)
  · exact x_sub 207 [0, 1] rfl (hk _ h)
  · refine x_aload_n 173 C dX7_counts_173 rfl 0 rfl ?_
    refine gX7_firstOrder 174 C kw_814 dX7_counts_174 ?_
    refine x_iload_n 177 C dX7_counts_177 rfl 2 rfl ?_
    refine x_aload_n 178 C dX7_counts_178 rfl 0 rfl ?_
    refine gX7_order 179 C kw_808 dX7_counts_179 ?_
    refine x_iload_n 182 C dX7_counts_182 rfl 2 rfl ?_
    obtain ⟨hg36, h⟩ := xif_some h
    refine r_iald15 183 C hg36 dX7_counts_183 ?_
    obtain ⟨hg37, h⟩ := xif_some h
    refine r_iast17 184 C hg37 dX7_counts_184 ?_
    refine x_topS h (fun S38 h => ?_)
    refine x_aload_n 185 C dX7_counts_185 rfl 0 rfl ?_
    refine gX7_ahead 186 C kw_815 dX7_counts_186 ?_
    refine x_iload_n 189 C dX7_counts_189 rfl 2 rfl ?_
    refine x_sipush 190 C dX7_counts_190 cs_255 ?_
    obtain ⟨hg39, h⟩ := xif_some h
    refine r_iast18 193 C hg39 dX7_counts_193 ?_
    refine x_topS h (fun S40 h => ?_)
    refine x_aload_n 194 C dX7_counts_194 rfl 0 rfl ?_
    refine gX7_placesOf 195 C kw_816 dX7_counts_195 ?_
    refine x_iload_n 198 C dX7_counts_198 rfl 2 rfl ?_
    refine x_iconst 199 C dX7_counts_199 ci_0 ?_
    obtain ⟨hg41, h⟩ := xif_some h
    refine r_iast19 200 C hg41 dX7_counts_200 ?_
    refine x_topS h (fun S42 h => ?_)
    refine x_iinc 201 C (L := fun v3_43 => [(0, .ref (a 0)), (1, .int c1), (3, .int v3_43)]) dX7_counts_201 2 rfl ci_1 (Nat.le_of_ble_eq_true rfl) [1, 2, 0] (fun _ => rfl) h (fun v3_43 h => ?_)
    refine x_goto 204 C 165 dX7_counts_204 rfl ?_
    exact ih _ h
set_option maxRecDepth 100000 in
set_option maxHeartbeats 4000000 in
theorem M_X7_counts (l : Launch) (D : va_G) (a : Nat → Nat) (b : Nat → ClassId) (S0 : XSr)   {S9 : XSr} (h : F_X7_counts S0 = some S9) : xM l (ωR D a b) yX7_counts cX7_counts 5 none rm_X7_counts [.ref (a 0)] S0 (none, S9) := by
  unfold F_X7_counts at h
  refine xM_of (own := "GraveOrderModel") (by decide) rfl (Nat.le_of_ble_eq_true rfl) (fun Γ C => ?_)
  refine x_sub 0 [0] (lv' := [(0, .ref (a 0))]) rfl ?_
  refine x_iconst 0 C dX7_counts_0 ci_0 ?_
  refine x_istore_n 1 C (lv' := [(0, .ref (a 0)), (1, .int 0)]) dX7_counts_1 rfl (Nat.le_of_ble_eq_true rfl) [1, 0] rfl ?_
  refine x_iconst 2 C dX7_counts_2 ci_0 ?_
  refine x_istore_n 3 C (lv' := [(0, .ref (a 0)), (1, .int 0), (2, .int 0)]) dX7_counts_3 rfl (Nat.le_of_ble_eq_true rfl) [1, 2, 0] rfl ?_
  refine x_iconst 4 C dX7_counts_4 ci_0 ?_
  refine x_istore_n 5 C (lv' := [(0, .ref (a 0)), (1, .int 0), (2, .int 0), (3, .int 0)]) dX7_counts_5 rfl (Nat.le_of_ble_eq_true rfl) [1, 2, 3, 0] rfl ?_
  refine x_loop (E := fun e => XAt (ωR D a b) Γ 65 [(0, .ref (a 0)), (1, .int e.1), (2, .int e.2)] [] S0) (P := fun t => XAt (ωR D a b) Γ 6 [(0, .ref (a 0)), (1, .int t.1), (2, .int t.2.1), (3, .int t.2.2)] [] S0) h (fun e11 h => ?_) (fun kx rc t hk ih h => w_X7_counts_6 l D a b S0 C    kx rc hk ih t.1 t.2.1 t.2.2 h)
  refine x_aload_n 65 C dX7_counts_65 rfl 0 rfl ?_
  refine x_dup 66 C dX7_counts_66 rfl ?_
  refine gX7_canMany 67 C kw_811 dX7_counts_67 ?_
  refine x_iconst 70 C dX7_counts_70 ci_1 ?_
  refine x_iadd 71 C dX7_counts_71 ?_
  refine pX7_canMany 72 C kw_811 dX7_counts_72 ?_
  refine x_topS h (fun S12 h => ?_)
  refine x_aload_n 75 C dX7_counts_75 rfl 0 rfl ?_
  refine x_dup 76 C dX7_counts_76 rfl ?_
  refine gX7_gapSum 77 C kw_812 dX7_counts_77 ?_
  refine x_iload_n 80 C dX7_counts_80 rfl 1 rfl ?_
  refine x_i2l 81 C dX7_counts_81 ?_
  refine x_ladd 82 C dX7_counts_82 ?_
  refine pX7_gapSum 83 C kw_812 dX7_counts_83 ?_
  refine x_topS h (fun S13 h => ?_)
  refine x_aload_n 86 C dX7_counts_86 rfl 0 rfl ?_
  refine gX7_spreads 87 C kw_813 dX7_counts_87 ?_
  refine x_iload_n 90 C dX7_counts_90 rfl 1 rfl ?_
  refine x_dup2 91 C dX7_counts_91 rfl rfl ?_
  obtain ⟨hg14, h⟩ := xif_some h
  refine r_iald16 92 C hg14 dX7_counts_92 ?_
  refine x_iconst 93 C dX7_counts_93 ci_1 ?_
  refine x_iadd 94 C dX7_counts_94 ?_
  obtain ⟨hg15, h⟩ := xif_some h
  refine r_iast16 95 C hg15 dX7_counts_95 ?_
  refine x_topS h (fun S16 h => ?_)
  refine x_aload_n 96 C dX7_counts_96 rfl 0 rfl ?_
  refine gX7_out 97 C kw_817 dX7_counts_97 ?_
  refine x_iconst 100 C dX7_counts_100 ci_m1 ?_
  refine x_join (P := fun t17 => XAt (ωR D a b) Γ 145 [(0, .ref (a 0)), (1, .int e11.1)] [] t17) h (fun t17 h => ?_) (fun j18 hj18 h => ?_)
  · refine x_iload_n 145 C dX7_counts_145 rfl 1 rfl ?_
    refine x_aload_n 146 C dX7_counts_146 rfl 0 rfl ?_
    refine gX7_fewest 147 C kw_809 dX7_counts_147 ?_
    refine x_join (P := fun t19 => XAt (ωR D a b) Γ 207 [(0, .ref (a 0)), (1, .int e11.1)] [] t19) h (fun t19 h => ?_) (fun j20 hj20 h => ?_)
    · refine x_iload_n 207 C dX7_counts_207 rfl 1 rfl ?_
      refine x_aload_n 208 C dX7_counts_208 rfl 0 rfl ?_
      refine gX7_fewest 209 C kw_809 dX7_counts_209 ?_
      refine x_icmp_ne 212 C 292 dX7_counts_212 rfl h (fun h => ?_) (fun h => ?_)
      · exact x_vret 292 C dX7_counts_292 (Option.some.inj h)
      · refine x_aload_n 215 C dX7_counts_215 rfl 0 rfl ?_
        refine x_dup 216 C dX7_counts_216 rfl ?_
        refine gX7_bestMany 217 C kw_810 dX7_counts_217 ?_
        refine x_iconst 220 C dX7_counts_220 ci_1 ?_
        refine x_iadd 221 C dX7_counts_221 ?_
        refine pX7_bestMany 222 C kw_810 dX7_counts_222 ?_
        refine x_topS h (fun S21 h => ?_)
        refine x_iconst 225 C dX7_counts_225 ci_0 ?_
        refine x_istore_n 226 C (lv' := [(0, .ref (a 0)), (3, .int 0)]) dX7_counts_226 rfl (Nat.le_of_ble_eq_true rfl) [1, 0] rfl ?_
        refine x_iconst 227 C dX7_counts_227 ci_0 ?_
        refine x_istore 228 C (lv' := [(0, .ref (a 0)), (3, .int 0), (4, .int 0)]) dX7_counts_228 (Nat.le_of_ble_eq_true rfl) [1, 2, 0] rfl ?_
        refine x_loop (E := fun e => XAt (ωR D a b) Γ 292 [] [] e) (P := fun t => XAt (ωR D a b) Γ 230 [(0, .ref (a 0)), (3, .int t.1), (4, .int t.2.1)] [] t.2.2) h (fun e33 h => ?_) (fun kx rc t hk ih h => w_X7_counts_230 l D a b S0 C    kx rc hk ih t.1 t.2.1 t.2.2 h)
        exact x_vret 292 C dX7_counts_292 (Option.some.inj h)
    refine x_icmp_ge 150 C 207 dX7_counts_150 rfl h (fun h => ?_) (fun h => ?_)
    · exact hj20 _ h
    · refine x_aload_n 153 C dX7_counts_153 rfl 0 rfl ?_
      refine x_iload_n 154 C dX7_counts_154 rfl 1 rfl ?_
      refine pX7_fewest 155 C kw_809 dX7_counts_155 ?_
      refine x_topS h (fun S34 h => ?_)
      refine x_aload_n 158 C dX7_counts_158 rfl 0 rfl ?_
      refine x_iconst 159 C dX7_counts_159 ci_0 ?_
      refine pX7_bestMany 160 C kw_810 dX7_counts_160 ?_
      refine x_topS h (fun S35 h => ?_)
      refine x_iconst 163 C dX7_counts_163 ci_0 ?_
      refine x_istore_n 164 C (lv' := [(0, .ref (a 0)), (1, .int e11.1), (3, .int 0)]) dX7_counts_164 rfl (Nat.le_of_ble_eq_true rfl) [1, 2, 0] rfl ?_
      refine x_loop (E := fun e => XAt (ωR D a b) Γ 207 [(0, .ref (a 0)), (1, .int e11.1)] [] e) (P := fun t => XAt (ωR D a b) Γ 165 [(0, .ref (a 0)), (1, .int e11.1), (3, .int t.1)] [] t.2) h (fun e44 h => ?_) (fun kx rc t hk ih h => w_X7_counts_165 l D a b S0 C   e11.1 kx rc hk ih t.1 t.2 h)
      exact hj20 _ h
  refine x_icmp_eq 101 C 140 dX7_counts_101 rfl h (fun h => ?_) (fun h => ?_)
  · refine x_aload_n 140 C dX7_counts_140 rfl 0 rfl ?_
    refine x_iload_n 141 C dX7_counts_141 rfl 2 rfl ?_
    refine pX7_out 142 C kw_817 dX7_counts_142 ?_
    refine x_topS h (fun S45 h => ?_)
    exact x_sub 145 [0, 1] rfl (hj18 _ h)
  · refine x_iload_n 104 C dX7_counts_104 rfl 2 rfl ?_
    obtain ⟨z46, hz46, h⟩ := xbind_some h
    refine x_callS 105 C 1 (As := [.int e11.2]) (rest := []) (M_X7_ones l D a b S16 e11.2  hz46) kw_1032 ms_X7_ones mh_X7_ones ⟨rfl, rfl⟩ ⟨Nat.le_of_ble_eq_true rfl, Nat.le_of_ble_eq_true rfl⟩ rfl rfl (Nat.le_of_ble_eq_true rfl) dX7_counts_105 ?_
    refine x_aload_n 108 C dX7_counts_108 rfl 0 rfl ?_
    refine gX7_out 109 C kw_817 dX7_counts_109 ?_
    obtain ⟨z47, hz47, h⟩ := xbind_some h
    refine x_callS 112 C 1 (As := [.int (S16.1 0 31)]) (rest := [.int z46]) (M_X7_ones l D a b S16 (S16.1 0 31)  hz47) kw_1032 ms_X7_ones mh_X7_ones ⟨rfl, rfl⟩ ⟨Nat.le_of_ble_eq_true rfl, Nat.le_of_ble_eq_true rfl⟩ rfl rfl (Nat.le_of_ble_eq_true rfl) dX7_counts_112 ?_
    refine x_icmp_lt 115 C 140 dX7_counts_115 rfl h (fun h => ?_) (fun h => ?_)
    · refine x_aload_n 140 C dX7_counts_140 rfl 0 rfl ?_
      refine x_iload_n 141 C dX7_counts_141 rfl 2 rfl ?_
      refine pX7_out 142 C kw_817 dX7_counts_142 ?_
      refine x_topS h (fun S48 h => ?_)
      exact x_sub 145 [0, 1] rfl (hj18 _ h)
    · refine x_iload_n 118 C dX7_counts_118 rfl 2 rfl ?_
      obtain ⟨z49, hz49, h⟩ := xbind_some h
      refine x_callS 119 C 1 (As := [.int e11.2]) (rest := []) (M_X7_ones l D a b S16 e11.2  hz49) kw_1032 ms_X7_ones mh_X7_ones ⟨rfl, rfl⟩ ⟨Nat.le_of_ble_eq_true rfl, Nat.le_of_ble_eq_true rfl⟩ rfl rfl (Nat.le_of_ble_eq_true rfl) dX7_counts_119 ?_
      refine x_aload_n 122 C dX7_counts_122 rfl 0 rfl ?_
      refine gX7_out 123 C kw_817 dX7_counts_123 ?_
      obtain ⟨z50, hz50, h⟩ := xbind_some h
      refine x_callS 126 C 1 (As := [.int (S16.1 0 31)]) (rest := [.int z49]) (M_X7_ones l D a b S16 (S16.1 0 31)  hz50) kw_1032 ms_X7_ones mh_X7_ones ⟨rfl, rfl⟩ ⟨Nat.le_of_ble_eq_true rfl, Nat.le_of_ble_eq_true rfl⟩ rfl rfl (Nat.le_of_ble_eq_true rfl) dX7_counts_126 ?_
      refine x_icmp_ne 129 C 145 dX7_counts_129 rfl h (fun h => ?_) (fun h => ?_)
      · exact x_sub 145 [0, 1] rfl (hj18 _ h)
      · refine x_iload_n 132 C dX7_counts_132 rfl 2 rfl ?_
        refine x_aload_n 133 C dX7_counts_133 rfl 0 rfl ?_
        refine gX7_out 134 C kw_817 dX7_counts_134 ?_
        refine x_icmp_ge 137 C 145 dX7_counts_137 rfl h (fun h => ?_) (fun h => ?_)
        · exact x_sub 145 [0, 1] rfl (hj18 _ h)
        · refine x_aload_n 140 C dX7_counts_140 rfl 0 rfl ?_
          refine x_iload_n 141 C dX7_counts_141 rfl 2 rfl ?_
          refine pX7_out 142 C kw_817 dX7_counts_142 ?_
          refine x_topS h (fun S51 h => ?_)
          exact x_sub 145 [0, 1] rfl (hj18 _ h)
/-! GraveOrderModel.works ()V -/
def B_X7_works_45  (kx : XSr → Option XSr) (rc : (Int32 × XSr) → Option XSr) (y1 : Int32) (S1 : XSr) : Option XSr :=
  (if 1000 ≤ y1 then kx S1 else (if xin y1 1000 = true then (xlet (xsr S1 16 (xti y1) 0) fun S9 => (xlet (y1 + 1) fun v1_10 => rc (v1_10, S9))) else none))
def B_X7_works_71  (kx : XSr → Option XSr) (rc : (Int32 × XSr) → Option XSr) (y1 : Int32) (S1 : XSr) : Option XSr :=
  (if y1 = 0 then kx S1 else ((F_X7_canBe S1).bind fun z13 => (xlet (fun (t14 : XSr) => ((F_X7_turns t14).bind fun z16 => (xlet z16.1 fun v1_17 => rc (v1_17, z16.2)))) fun j15 => (if z13 = 0 then j15 S1 else ((F_X7_counts S1).bind fun z18 => j15 z18)))))
def F_X7_works (S0 : XSr)  : (Option XSr) :=
  (if (S0.1 0 14) = 0 then (xlet (xsr S0 0 14 1) fun S1 => ((F_X7_lays S1).bind fun z2 => (xlet (xsr z2 0 23 100000) fun S3 => (xlet (xsr S3 0 24 0) fun S4 => (xlet (xsr S4 0 25 0) fun S5 => (xlet (xsl S5 0) fun S6 => (xlet (xsr S6 0 31 (-1)) fun S7 => (xlp (fun k rc t => B_X7_works_45   k rc t.1 t.2) (fun e11 => ((F_X7_plain e11).bind fun z12 => (xlp (fun k rc t => B_X7_works_71   k rc t.1 t.2) (fun e19 => (some e19)) XFU (1, z12)))) XFU (0, S7))))))))) else (some S0))
abbrev rm_X7_works : Room := { frames := 3, cells := 0, slots := 0, locals := 69 }
set_option maxRecDepth 100000 in
set_option maxHeartbeats 4000000 in
theorem w_X7_works_45 (l : Launch) (D : va_G) (a : Nat → Nat) (b : Nat → ClassId) (S0 : XSr) {Γ : XG XSr} {S9 : XSr} (C : Cx (ωR D a b) Γ cX7_works "GraveOrderModel" none l rm_X7_works 2 (none, S9))   (kx : XSr → Option XSr) (rc : (Int32 × XSr) → Option XSr) (hk : ∀ e, kx e = some S9 → XAt (ωR D a b) Γ 65 [(0, .ref (a 0))] [] e) (ih : ∀ t, rc t = some S9 → XAt (ωR D a b) Γ 45 [(0, .ref (a 0)), (1, .int t.1)] [] t.2) (y1 : Int32) (S1 : XSr) (h : B_X7_works_45   kx rc y1 S1 = some S9) : XAt (ωR D a b) Γ 45 [(0, .ref (a 0)), (1, .int y1)] [] S1 := by
  unfold B_X7_works_45 at h
  refine x_iload_n 45 C dX7_works_45 rfl 1 rfl ?_
  refine x_sipush 46 C dX7_works_46 cs_1000 ?_
  refine x_icmp_ge 49 C 65 dX7_works_49 rfl h (fun h => ?_) (fun h => ?_)
  · exact x_sub 65 [0] rfl (hk _ h)
  · refine x_aload_n 52 C dX7_works_52 rfl 0 rfl ?_
    refine gX7_spreads 53 C kw_813 dX7_works_53 ?_
    refine x_iload_n 56 C dX7_works_56 rfl 1 rfl ?_
    refine x_iconst 57 C dX7_works_57 ci_0 ?_
    obtain ⟨hg8, h⟩ := xif_some h
    refine r_iast16 58 C hg8 dX7_works_58 ?_
    refine x_topS h (fun S9 h => ?_)
    refine x_iinc 59 C (L := fun v1_10 => [(0, .ref (a 0)), (1, .int v1_10)]) dX7_works_59 1 rfl ci_1 (Nat.le_of_ble_eq_true rfl) [1, 0] (fun _ => rfl) h (fun v1_10 h => ?_)
    refine x_goto 62 C 45 dX7_works_62 rfl ?_
    exact ih _ h
set_option maxRecDepth 100000 in
set_option maxHeartbeats 4000000 in
theorem w_X7_works_71 (l : Launch) (D : va_G) (a : Nat → Nat) (b : Nat → ClassId) (S0 : XSr) {Γ : XG XSr} {S9 : XSr} (C : Cx (ωR D a b) Γ cX7_works "GraveOrderModel" none l rm_X7_works 2 (none, S9))   (kx : XSr → Option XSr) (rc : (Int32 × XSr) → Option XSr) (hk : ∀ e, kx e = some S9 → XAt (ωR D a b) Γ 94 [] [] e) (ih : ∀ t, rc t = some S9 → XAt (ωR D a b) Γ 71 [(0, .ref (a 0)), (1, .int t.1)] [] t.2) (y1 : Int32) (S1 : XSr) (h : B_X7_works_71   kx rc y1 S1 = some S9) : XAt (ωR D a b) Γ 71 [(0, .ref (a 0)), (1, .int y1)] [] S1 := by
  unfold B_X7_works_71 at h
  refine x_iload_n 71 C dX7_works_71 rfl 1 rfl ?_
  refine x_if_eq 72 C 94 dX7_works_72 rfl h (fun h => ?_) (fun h => ?_)
  · exact x_sub 94 [] rfl (hk _ h)
  · refine x_aload_n 75 C dX7_works_75 rfl 0 rfl ?_
    obtain ⟨z13, hz13, h⟩ := xbind_some h
    refine x_callV 76 C (q0 := 0) (ci := 7) 0 (As := []) (rest := []) (M_X7_canBe l D a b S1   hz13) (by rfl) rfl kw_1003 mv_X7_canBe mh_X7_canBe ⟨rfl, rfl⟩ ⟨Nat.le_of_ble_eq_true rfl, Nat.le_of_ble_eq_true rfl⟩ rfl rfl (Nat.le_of_ble_eq_true rfl) dX7_works_76 ?_
    refine x_join (P := fun t14 => XAt (ωR D a b) Γ 86 [(0, .ref (a 0))] [] t14) h (fun t14 h => ?_) (fun j15 hj15 h => ?_)
    · refine x_aload_n 86 C dX7_works_86 rfl 0 rfl ?_
      obtain ⟨z16, hz16, h⟩ := xbind_some h
      refine x_callV 87 C (q0 := 0) (ci := 7) 0 (As := []) (rest := []) (M_X7_turns l D a b t14   hz16) (by rfl) rfl kw_1035 mv_X7_turns mh_X7_turns ⟨rfl, rfl⟩ ⟨Nat.le_of_ble_eq_true rfl, Nat.le_of_ble_eq_true rfl⟩ rfl rfl (Nat.le_of_ble_eq_true rfl) dX7_works_87 ?_
      refine x_top h (fun v1_17 h => ?_)
      refine x_istore_n 90 C (lv' := [(0, .ref (a 0)), (1, .int v1_17)]) dX7_works_90 rfl (Nat.le_of_ble_eq_true rfl) [1, 0] rfl ?_
      refine x_goto 91 C 71 dX7_works_91 rfl ?_
      exact ih _ h
    refine x_if_eq 79 C 86 dX7_works_79 rfl h (fun h => ?_) (fun h => ?_)
    · exact x_sub 86 [0] rfl (hj15 _ h)
    · refine x_aload_n 82 C dX7_works_82 rfl 0 rfl ?_
      obtain ⟨z18, hz18, h⟩ := xbind_some h
      refine x_callV 83 C (q0 := 0) (ci := 7) 0 (As := []) (rest := []) (M_X7_counts l D a b S1   hz18) (by rfl) rfl kw_1028 mv_X7_counts mh_X7_counts ⟨rfl, rfl⟩ ⟨Nat.le_of_ble_eq_true rfl, Nat.le_of_ble_eq_true rfl⟩ rfl rfl (Nat.le_of_ble_eq_true rfl) dX7_works_83 ?_
      exact x_sub 86 [0] rfl (hj15 _ h)
set_option maxRecDepth 100000 in
set_option maxHeartbeats 4000000 in
theorem M_X7_works (l : Launch) (D : va_G) (a : Nat → Nat) (b : Nat → ClassId) (S0 : XSr)   {S9 : XSr} (h : F_X7_works S0 = some S9) : xM l (ωR D a b) yX7_works cX7_works 2 none rm_X7_works [.ref (a 0)] S0 (none, S9) := by
  unfold F_X7_works at h
  refine xM_of (own := "GraveOrderModel") (by decide) rfl (Nat.le_of_ble_eq_true rfl) (fun Γ C => ?_)
  refine x_sub 0 [0] (lv' := [(0, .ref (a 0))]) rfl ?_
  refine x_aload_n 0 C dX7_works_0 rfl 0 rfl ?_
  refine gX7_isWorked 1 C kw_800 dX7_works_1 ?_
  refine x_if_eq 4 C 8 dX7_works_4 rfl h (fun h => ?_) (fun h => ?_)
  · refine x_aload_n 8 C dX7_works_8 rfl 0 rfl ?_
    refine x_iconst 9 C dX7_works_9 ci_1 ?_
    refine pX7_isWorked 10 C rfl kw_800 dX7_works_10 ?_
    refine x_topS h (fun S1 h => ?_)
    refine x_aload_n 13 C dX7_works_13 rfl 0 rfl ?_
    obtain ⟨z2, hz2, h⟩ := xbind_some h
    refine x_callV 14 C (q0 := 0) (ci := 7) 0 (As := []) (rest := []) (M_X7_lays l D a b S1   hz2) (by rfl) rfl kw_984 mv_X7_lays mh_X7_lays ⟨rfl, rfl⟩ ⟨Nat.le_of_ble_eq_true rfl, Nat.le_of_ble_eq_true rfl⟩ rfl rfl (Nat.le_of_ble_eq_true rfl) dX7_works_14 ?_
    refine x_aload_n 17 C dX7_works_17 rfl 0 rfl ?_
    refine x_ldc 18 C kw_1023 dX7_works_18 ?_
    refine pX7_fewest 20 C kw_809 dX7_works_20 ?_
    refine x_topS h (fun S3 h => ?_)
    refine x_aload_n 23 C dX7_works_23 rfl 0 rfl ?_
    refine x_iconst 24 C dX7_works_24 ci_0 ?_
    refine pX7_bestMany 25 C kw_810 dX7_works_25 ?_
    refine x_topS h (fun S4 h => ?_)
    refine x_aload_n 28 C dX7_works_28 rfl 0 rfl ?_
    refine x_iconst 29 C dX7_works_29 ci_0 ?_
    refine pX7_canMany 30 C kw_811 dX7_works_30 ?_
    refine x_topS h (fun S5 h => ?_)
    refine x_aload_n 33 C dX7_works_33 rfl 0 rfl ?_
    refine x_lconst 34 C dX7_works_34 cl_0 ?_
    refine pX7_gapSum 35 C kw_812 dX7_works_35 ?_
    refine x_topS h (fun S6 h => ?_)
    refine x_aload_n 38 C dX7_works_38 rfl 0 rfl ?_
    refine x_iconst 39 C dX7_works_39 ci_m1 ?_
    refine pX7_out 40 C kw_817 dX7_works_40 ?_
    refine x_topS h (fun S7 h => ?_)
    refine x_iconst 43 C dX7_works_43 ci_0 ?_
    refine x_istore_n 44 C (lv' := [(0, .ref (a 0)), (1, .int 0)]) dX7_works_44 rfl (Nat.le_of_ble_eq_true rfl) [1, 0] rfl ?_
    refine x_loop (E := fun e => XAt (ωR D a b) Γ 65 [(0, .ref (a 0))] [] e) (P := fun t => XAt (ωR D a b) Γ 45 [(0, .ref (a 0)), (1, .int t.1)] [] t.2) h (fun e11 h => ?_) (fun kx rc t hk ih h => w_X7_works_45 l D a b S0 C    kx rc hk ih t.1 t.2 h)
    refine x_aload_n 65 C dX7_works_65 rfl 0 rfl ?_
    obtain ⟨z12, hz12, h⟩ := xbind_some h
    refine x_callV 66 C (q0 := 0) (ci := 7) 0 (As := []) (rest := []) (M_X7_plain l D a b e11   hz12) (by rfl) rfl kw_1024 mv_X7_plain mh_X7_plain ⟨rfl, rfl⟩ ⟨Nat.le_of_ble_eq_true rfl, Nat.le_of_ble_eq_true rfl⟩ rfl rfl (Nat.le_of_ble_eq_true rfl) dX7_works_66 ?_
    refine x_iconst 69 C dX7_works_69 ci_1 ?_
    refine x_istore_n 70 C (lv' := [(0, .ref (a 0)), (1, .int 1)]) dX7_works_70 rfl (Nat.le_of_ble_eq_true rfl) [1, 0] rfl ?_
    refine x_loop (E := fun e => XAt (ωR D a b) Γ 94 [] [] e) (P := fun t => XAt (ωR D a b) Γ 71 [(0, .ref (a 0)), (1, .int t.1)] [] t.2) h (fun e19 h => ?_) (fun kx rc t hk ih h => w_X7_works_71 l D a b S0 C    kx rc hk ih t.1 t.2 h)
    exact x_vret 94 C dX7_works_94 (Option.some.inj h)
  · exact x_vret 7 C dX7_works_7 (Option.some.inj h)
/-! GraveOrderModel.areAny ()Z -/
def F_X7_areAny (S0 : XSr)  : (Option (Int32 × XSr)) :=
  ((F_X7_works S0).bind fun z1 => (if (z1.1 0 25) ≤ 0 then (some (0, z1)) else (some (1, z1))))
abbrev rm_X7_areAny : Room := { frames := 4, cells := 0, slots := 0, locals := 90 }
set_option maxRecDepth 100000 in
set_option maxHeartbeats 4000000 in
theorem M_X7_areAny (l : Launch) (D : va_G) (a : Nat → Nat) (b : Nat → ClassId) (S0 : XSr)   {r9 : Int32} {S9 : XSr} (h : F_X7_areAny S0 = some (r9, S9)) : xM l (ωR D a b) yX7_areAny cX7_areAny 1 (some .boolean) rm_X7_areAny [.ref (a 0)] S0 (some (.int r9), S9) := by
  unfold F_X7_areAny at h
  refine xM_of (own := "GraveOrderModel") (by decide) rfl (Nat.le_of_ble_eq_true rfl) (fun Γ C => ?_)
  refine x_sub 0 [0] (lv' := [(0, .ref (a 0))]) rfl ?_
  refine x_aload_n 0 C dX7_areAny_0 rfl 0 rfl ?_
  obtain ⟨z1, hz1, h⟩ := xbind_some h
  refine x_callV 1 C (q0 := 0) (ci := 7) 0 (As := []) (rest := []) (M_X7_works l D a b S0   hz1) (by rfl) rfl kw_1019 mv_X7_works mh_X7_works ⟨rfl, rfl⟩ ⟨Nat.le_of_ble_eq_true rfl, Nat.le_of_ble_eq_true rfl⟩ rfl rfl (Nat.le_of_ble_eq_true rfl) dX7_areAny_1 ?_
  refine x_aload_n 4 C dX7_areAny_4 rfl 0 rfl ?_
  refine gX7_canMany 5 C kw_811 dX7_areAny_5 ?_
  refine x_if_le 8 C 15 dX7_areAny_8 rfl h (fun h => ?_) (fun h => ?_)
  · refine x_iconst 15 C dX7_areAny_15 ci_0 ?_
    exact x_zret 16 C dX7_areAny_16 rfl (Prod.mk.inj (Option.some.inj h)).1 (Prod.mk.inj (Option.some.inj h)).2
  · refine x_iconst 11 C dX7_areAny_11 ci_1 ?_
    refine x_goto 12 C 16 dX7_areAny_12 rfl ?_
    exact x_zret 16 C dX7_areAny_16 rfl (Prod.mk.inj (Option.some.inj h)).1 (Prod.mk.inj (Option.some.inj h)).2
/-! GraveOrderModel.gaps (II)I -/
def B_X7_gaps_55 (c1 : Int32) (c2 : Int32) (kx : XSr → Option (Int32 × XSr)) (rc : (Int32 × Int32 × XSr) → Option (Int32 × XSr)) (y3 : Int32) (y4 : Int32) (S1 : XSr) : Option (Int32 × XSr) :=
  (if (S1.1 0 0) ≤ y4 then kx S1 else (if xin (((40 : Int32) * c1) + y4) 160 = true then (xlet (S1.1 25 (xti (((40 : Int32) * c1) + y4))) fun v5_4 => (if (F_X7_isGrave S1 v5_4) = 0 then (some ((-3), S1)) else (if (F_X7_is y3 v5_4) = 0 then (xlet (y3 ||| ((1 : Int32) <<< (v5_4 &&& 31))) fun v3_5 => (if xin y4 8 = true then (xlet (xsr S1 15 (xti y4) v5_4) fun S7 => (xlet (y4 + 1) fun v4_8 => rc (v3_5, v4_8, S7))) else none)) else (some ((-3), S1))))) else none))
def F_X7_gaps (S0 : XSr) (x1 : Int32) (x2 : Int32) : (Option (Int32 × XSr)) :=
  (if (F_X7_isSheet x1) = 0 then (some ((-2), S0)) else (if (F_X7_in x2 0 1) = 0 then (some ((-2), S0)) else (if xin x1 4 = true then (if (S0.1 22 (xti x1)) = 0 then ((F_X7_meets S0 1).bind fun z13 => (some (z13.1, z13.2))) else (if xin x1 4 = true then (if (S0.1 24 (xti x1)) = (S0.1 0 0) then (xlp (fun k rc t => B_X7_gaps_55  x1 x2 k rc t.1 t.2.1 t.2.2) (fun e9 => ((F_X7_lays e9).bind fun z10 => (if x2 = 0 then ((F_X7_gapsNow z10).bind fun z12 => (some (z12, z10))) else ((F_X7_canBe z10).bind fun z11 => (if z11 = 0 then (some (0, z10)) else (some (1, z10))))))) XFU (0, 0, S0)) else (some ((-3), S0))) else none)) else none)))
abbrev rm_X7_gaps : Room := { frames := 3, cells := 0, slots := 0, locals := 67 }
set_option maxRecDepth 100000 in
set_option maxHeartbeats 4000000 in
theorem w_X7_gaps_55 (l : Launch) (D : va_G) (a : Nat → Nat) (b : Nat → ClassId) (S0 : XSr) {Γ : XG XSr} {r9 : Int32} {S9 : XSr} (C : Cx (ωR D a b) Γ cX7_gaps "GraveOrderModel" (some .int) l rm_X7_gaps 6 (some (.int r9), S9)) (c1 : Int32) (c2 : Int32)  (kx : XSr → Option (Int32 × XSr)) (rc : (Int32 × Int32 × XSr) → Option (Int32 × XSr)) (hk : ∀ e, kx e = some (r9, S9) → XAt (ωR D a b) Γ 121 [(0, .ref (a 0)), (2, .int c2)] [] e) (ih : ∀ t, rc t = some (r9, S9) → XAt (ωR D a b) Γ 55 [(0, .ref (a 0)), (1, .int c1), (2, .int c2), (3, .int t.1), (4, .int t.2.1)] [] t.2.2) (y3 : Int32) (y4 : Int32) (S1 : XSr) (h : B_X7_gaps_55  c1 c2 kx rc y3 y4 S1 = some (r9, S9)) : XAt (ωR D a b) Γ 55 [(0, .ref (a 0)), (1, .int c1), (2, .int c2), (3, .int y3), (4, .int y4)] [] S1 := by
  unfold B_X7_gaps_55 at h
  refine x_iload 55 C dX7_gaps_55 4 rfl ?_
  refine x_aload_n 57 C dX7_gaps_57 rfl 0 rfl ?_
  refine gX7_graves 58 C kw_786 dX7_gaps_58 ?_
  refine x_icmp_ge 61 C 121 dX7_gaps_61 rfl h (fun h => ?_) (fun h => ?_)
  · exact x_sub 121 [0, 2] rfl (hk _ h)
  · refine x_aload_n 64 C dX7_gaps_64 rfl 0 rfl ?_
    refine gX7_items 65 C kw_823 dX7_gaps_65 ?_
    refine x_bipush 68 C dX7_gaps_68 cb_40 ?_
    refine x_iload_n 70 C dX7_gaps_70 rfl 1 rfl ?_
    refine x_imul 71 C dX7_gaps_71 ?_
    refine x_iload 72 C dX7_gaps_72 4 rfl ?_
    refine x_iadd 74 C dX7_gaps_74 ?_
    obtain ⟨hg3, h⟩ := xif_some h
    refine r_iald25 75 C hg3 dX7_gaps_75 ?_
    refine x_top h (fun v5_4 h => ?_)
    refine x_istore 76 C (lv' := [(0, .ref (a 0)), (1, .int c1), (2, .int c2), (3, .int y3), (4, .int y4), (5, .int v5_4)]) dX7_gaps_76 (Nat.le_of_ble_eq_true rfl) [1, 2, 3, 4, 5, 0] rfl ?_
    refine x_aload_n 78 C dX7_gaps_78 rfl 0 rfl ?_
    refine x_iload 79 C dX7_gaps_79 5 rfl ?_
    refine x_callV 81 C (q0 := 0) (ci := 7) 1 (As := [.int v5_4]) (rest := []) (M_X7_isGrave l D a b S1 v5_4 ) (by rfl) rfl kw_918 mv_X7_isGrave mh_X7_isGrave ⟨rfl, rfl⟩ ⟨Nat.le_of_ble_eq_true rfl, Nat.le_of_ble_eq_true rfl⟩ rfl rfl (Nat.le_of_ble_eq_true rfl) dX7_gaps_81 ?_
    refine x_if_eq 84 C 96 dX7_gaps_84 rfl h (fun h => ?_) (fun h => ?_)
    · refine x_bipush 96 C dX7_gaps_96 cb_m3 ?_
      exact x_iret 98 C dX7_gaps_98 (Prod.mk.inj (Option.some.inj h)).1 (Prod.mk.inj (Option.some.inj h)).2
    · refine x_iload_n 87 C dX7_gaps_87 rfl 3 rfl ?_
      refine x_iload 88 C dX7_gaps_88 5 rfl ?_
      refine x_callS 90 C 2 (As := [.int y3, .int v5_4]) (rest := []) (M_X7_is l (ωR D a b) S1 y3 v5_4) kw_992 ms_X7_is mh_X7_is ⟨rfl, rfl⟩ ⟨Nat.le_of_ble_eq_true rfl, Nat.le_of_ble_eq_true rfl⟩ rfl rfl (Nat.le_of_ble_eq_true rfl) dX7_gaps_90 ?_
      refine x_if_eq 93 C 99 dX7_gaps_93 rfl h (fun h => ?_) (fun h => ?_)
      · refine x_iload_n 99 C dX7_gaps_99 rfl 3 rfl ?_
        refine x_iconst 100 C dX7_gaps_100 ci_1 ?_
        refine x_iload 101 C dX7_gaps_101 5 rfl ?_
        refine x_ishl 103 C dX7_gaps_103 ?_
        refine x_ior 104 C dX7_gaps_104 ?_
        refine x_top h (fun v3_5 h => ?_)
        refine x_istore_n 105 C (lv' := [(0, .ref (a 0)), (1, .int c1), (2, .int c2), (3, .int v3_5), (4, .int y4), (5, .int v5_4)]) dX7_gaps_105 rfl (Nat.le_of_ble_eq_true rfl) [1, 2, 3, 0, 4, 5] rfl ?_
        refine x_aload_n 106 C dX7_gaps_106 rfl 0 rfl ?_
        refine gX7_order 107 C kw_808 dX7_gaps_107 ?_
        refine x_iload 110 C dX7_gaps_110 4 rfl ?_
        refine x_iload 112 C dX7_gaps_112 5 rfl ?_
        obtain ⟨hg6, h⟩ := xif_some h
        refine r_iast15 114 C hg6 dX7_gaps_114 ?_
        refine x_topS h (fun S7 h => ?_)
        refine x_iinc 115 C (L := fun v4_8 => [(0, .ref (a 0)), (1, .int c1), (2, .int c2), (3, .int v3_5), (4, .int v4_8)]) dX7_gaps_115 4 rfl ci_1 (Nat.le_of_ble_eq_true rfl) [1, 2, 3, 4, 0] (fun _ => rfl) h (fun v4_8 h => ?_)
        refine x_goto 118 C 55 dX7_gaps_118 rfl ?_
        exact ih _ h
      · refine x_bipush 96 C dX7_gaps_96 cb_m3 ?_
        exact x_iret 98 C dX7_gaps_98 (Prod.mk.inj (Option.some.inj h)).1 (Prod.mk.inj (Option.some.inj h)).2
set_option maxRecDepth 100000 in
set_option maxHeartbeats 4000000 in
theorem M_X7_gaps (l : Launch) (D : va_G) (a : Nat → Nat) (b : Nat → ClassId) (S0 : XSr) (x1 : Int32) (x2 : Int32)  {r9 : Int32} {S9 : XSr} (h : F_X7_gaps S0 x1 x2 = some (r9, S9)) : xM l (ωR D a b) yX7_gaps cX7_gaps 6 (some .int) rm_X7_gaps [.ref (a 0), .int x1, .int x2] S0 (some (.int r9), S9) := by
  unfold F_X7_gaps at h
  refine xM_of (own := "GraveOrderModel") (by decide) rfl (Nat.le_of_ble_eq_true rfl) (fun Γ C => ?_)
  refine x_sub 0 [0, 1, 2] (lv' := [(0, .ref (a 0)), (1, .int x1), (2, .int x2)]) rfl ?_
  refine x_iload_n 0 C dX7_gaps_0 rfl 1 rfl ?_
  refine x_callS 1 C 1 (As := [.int x1]) (rest := []) (M_X7_isSheet l (ωR D a b) S0 x1) kw_969 ms_X7_isSheet mh_X7_isSheet ⟨rfl, rfl⟩ ⟨Nat.le_of_ble_eq_true rfl, Nat.le_of_ble_eq_true rfl⟩ rfl rfl (Nat.le_of_ble_eq_true rfl) dX7_gaps_1 ?_
  refine x_if_eq 4 C 16 dX7_gaps_4 rfl h (fun h => ?_) (fun h => ?_)
  · refine x_bipush 16 C dX7_gaps_16 cb_m2 ?_
    exact x_iret 18 C dX7_gaps_18 (Prod.mk.inj (Option.some.inj h)).1 (Prod.mk.inj (Option.some.inj h)).2
  · refine x_iload_n 7 C dX7_gaps_7 rfl 2 rfl ?_
    refine x_iconst 8 C dX7_gaps_8 ci_0 ?_
    refine x_iconst 9 C dX7_gaps_9 ci_1 ?_
    refine x_callS 10 C 3 (As := [.int x2, .int 0, .int 1]) (rest := []) (M_X7_in l (ωR D a b) S0 x2 0 1) kw_911 ms_X7_in mh_X7_in ⟨rfl, rfl⟩ ⟨Nat.le_of_ble_eq_true rfl, Nat.le_of_ble_eq_true rfl⟩ rfl rfl (Nat.le_of_ble_eq_true rfl) dX7_gaps_10 ?_
    refine x_if_ne 13 C 19 dX7_gaps_13 rfl h (fun h => ?_) (fun h => ?_)
    · refine x_aload_n 19 C dX7_gaps_19 rfl 0 rfl ?_
      refine gX7_isThere 20 C kw_820 dX7_gaps_20 ?_
      refine x_iload_n 23 C dX7_gaps_23 rfl 1 rfl ?_
      obtain ⟨hg1, h⟩ := xif_some h
      refine r_zald22 24 C hg1 dX7_gaps_24 ?_
      refine x_if_ne 25 C 34 dX7_gaps_25 rfl h (fun h => ?_) (fun h => ?_)
      · refine x_aload_n 34 C dX7_gaps_34 rfl 0 rfl ?_
        refine gX7_sizes 35 C kw_822 dX7_gaps_35 ?_
        refine x_iload_n 38 C dX7_gaps_38 rfl 1 rfl ?_
        obtain ⟨hg2, h⟩ := xif_some h
        refine r_iald24 39 C hg2 dX7_gaps_39 ?_
        refine x_aload_n 40 C dX7_gaps_40 rfl 0 rfl ?_
        refine gX7_graves 41 C kw_786 dX7_gaps_41 ?_
        refine x_icmp_eq 44 C 50 dX7_gaps_44 rfl h (fun h => ?_) (fun h => ?_)
        · refine x_iconst 50 C dX7_gaps_50 ci_0 ?_
          refine x_istore_n 51 C (lv' := [(0, .ref (a 0)), (1, .int x1), (2, .int x2), (3, .int 0)]) dX7_gaps_51 rfl (Nat.le_of_ble_eq_true rfl) [1, 2, 3, 0] rfl ?_
          refine x_iconst 52 C dX7_gaps_52 ci_0 ?_
          refine x_istore 53 C (lv' := [(0, .ref (a 0)), (1, .int x1), (2, .int x2), (3, .int 0), (4, .int 0)]) dX7_gaps_53 (Nat.le_of_ble_eq_true rfl) [1, 2, 3, 4, 0] rfl ?_
          refine x_loop (E := fun e => XAt (ωR D a b) Γ 121 [(0, .ref (a 0)), (2, .int x2)] [] e) (P := fun t => XAt (ωR D a b) Γ 55 [(0, .ref (a 0)), (1, .int x1), (2, .int x2), (3, .int t.1), (4, .int t.2.1)] [] t.2.2) h (fun e9 h => ?_) (fun kx rc t hk ih h => w_X7_gaps_55 l D a b S0 C   x1 x2 kx rc hk ih t.1 t.2.1 t.2.2 h)
          refine x_aload_n 121 C dX7_gaps_121 rfl 0 rfl ?_
          obtain ⟨z10, hz10, h⟩ := xbind_some h
          refine x_callV 122 C (q0 := 0) (ci := 7) 0 (As := []) (rest := []) (M_X7_lays l D a b e9   hz10) (by rfl) rfl kw_984 mv_X7_lays mh_X7_lays ⟨rfl, rfl⟩ ⟨Nat.le_of_ble_eq_true rfl, Nat.le_of_ble_eq_true rfl⟩ rfl rfl (Nat.le_of_ble_eq_true rfl) dX7_gaps_122 ?_
          refine x_iload_n 125 C dX7_gaps_125 rfl 1 rfl ?_
          refine x_if_ne 126 C 136 dX7_gaps_126 rfl h (fun h => ?_) (fun h => ?_)
          · refine x_aload_n 136 C dX7_gaps_136 rfl 0 rfl ?_
            obtain ⟨z11, hz11, h⟩ := xbind_some h
            refine x_callV 137 C (q0 := 0) (ci := 7) 0 (As := []) (rest := []) (M_X7_canBe l D a b z10   hz11) (by rfl) rfl kw_1003 mv_X7_canBe mh_X7_canBe ⟨rfl, rfl⟩ ⟨Nat.le_of_ble_eq_true rfl, Nat.le_of_ble_eq_true rfl⟩ rfl rfl (Nat.le_of_ble_eq_true rfl) dX7_gaps_137 ?_
            refine x_if_eq 140 C 147 dX7_gaps_140 rfl h (fun h => ?_) (fun h => ?_)
            · refine x_iconst 147 C dX7_gaps_147 ci_0 ?_
              exact x_iret 148 C dX7_gaps_148 (Prod.mk.inj (Option.some.inj h)).1 (Prod.mk.inj (Option.some.inj h)).2
            · refine x_iconst 143 C dX7_gaps_143 ci_1 ?_
              refine x_goto 144 C 148 dX7_gaps_144 rfl ?_
              exact x_iret 148 C dX7_gaps_148 (Prod.mk.inj (Option.some.inj h)).1 (Prod.mk.inj (Option.some.inj h)).2
          · refine x_aload_n 129 C dX7_gaps_129 rfl 0 rfl ?_
            obtain ⟨z12, hz12, h⟩ := xbind_some h
            refine x_callV 130 C (q0 := 0) (ci := 7) 0 (As := []) (rest := []) (M_X7_gapsNow l D a b z10   hz12) (by rfl) rfl kw_995 mv_X7_gapsNow mh_X7_gapsNow ⟨rfl, rfl⟩ ⟨Nat.le_of_ble_eq_true rfl, Nat.le_of_ble_eq_true rfl⟩ rfl rfl (Nat.le_of_ble_eq_true rfl) dX7_gaps_130 ?_
            refine x_goto 133 C 148 dX7_gaps_133 rfl ?_
            exact x_iret 148 C dX7_gaps_148 (Prod.mk.inj (Option.some.inj h)).1 (Prod.mk.inj (Option.some.inj h)).2
        · refine x_bipush 47 C dX7_gaps_47 cb_m3 ?_
          exact x_iret 49 C dX7_gaps_49 (Prod.mk.inj (Option.some.inj h)).1 (Prod.mk.inj (Option.some.inj h)).2
      · refine x_aload_n 28 C dX7_gaps_28 rfl 0 rfl ?_
        refine x_iconst 29 C dX7_gaps_29 ci_1 ?_
        obtain ⟨z13, hz13, h⟩ := xbind_some h
        refine x_callV 30 C (q0 := 0) (ci := 7) 1 (As := [.int 1]) (rest := []) (M_X7_meets l D a b S0 1  hz13) (by rfl) rfl kw_972 mv_X7_meets mh_X7_meets ⟨rfl, rfl⟩ ⟨Nat.le_of_ble_eq_true rfl, Nat.le_of_ble_eq_true rfl⟩ rfl rfl (Nat.le_of_ble_eq_true rfl) dX7_gaps_30 ?_
        exact x_iret 33 C dX7_gaps_33 (Prod.mk.inj (Option.some.inj h)).1 (Prod.mk.inj (Option.some.inj h)).2
    · refine x_bipush 16 C dX7_gaps_16 cb_m2 ?_
      exact x_iret 18 C dX7_gaps_18 (Prod.mk.inj (Option.some.inj h)).1 (Prod.mk.inj (Option.some.inj h)).2
/-! GraveOrderModel.turnedNow ()I -/
def B_X7_turnedNow_2  (kx : XSr → Option (Int32 × XSr)) (rc : (Int32 × XSr) → Option (Int32 × XSr)) (y1 : Int32) (S1 : XSr) : Option (Int32 × XSr) :=
  (if (S1.1 0 0) ≤ y1 then kx S1 else (if xin (((S1.1 0 0) - (1 : Int32)) - y1) 8 = true then (if xin y1 8 = true then (xlet (xsr S1 15 (xti y1) (S1.1 17 (xti (((S1.1 0 0) - (1 : Int32)) - y1)))) fun S3 => (xlet (y1 + 1) fun v1_4 => rc (v1_4, S3))) else none) else none))
def F_X7_turnedNow (S0 : XSr)  : (Option (Int32 × XSr)) :=
  (xlp (fun k rc t => B_X7_turnedNow_2   k rc t.1 t.2) (fun e5 => ((F_X7_canBe e5).bind fun z6 => (if z6 = 0 then (some (0, e5)) else ((F_X7_gapsNow e5).bind fun z7 => (if z7 = (e5.1 0 23) then (some (1, e5)) else (some (0, e5))))))) XFU (0, S0))
abbrev rm_X7_turnedNow : Room := { frames := 3, cells := 0, slots := 0, locals := 67 }
set_option maxRecDepth 100000 in
set_option maxHeartbeats 4000000 in
theorem w_X7_turnedNow_2 (l : Launch) (D : va_G) (a : Nat → Nat) (b : Nat → ClassId) (S0 : XSr) {Γ : XG XSr} {r9 : Int32} {S9 : XSr} (C : Cx (ωR D a b) Γ cX7_turnedNow "GraveOrderModel" (some .int) l rm_X7_turnedNow 2 (some (.int r9), S9))   (kx : XSr → Option (Int32 × XSr)) (rc : (Int32 × XSr) → Option (Int32 × XSr)) (hk : ∀ e, kx e = some (r9, S9) → XAt (ωR D a b) Γ 35 [(0, .ref (a 0))] [] e) (ih : ∀ t, rc t = some (r9, S9) → XAt (ωR D a b) Γ 2 [(0, .ref (a 0)), (1, .int t.1)] [] t.2) (y1 : Int32) (S1 : XSr) (h : B_X7_turnedNow_2   kx rc y1 S1 = some (r9, S9)) : XAt (ωR D a b) Γ 2 [(0, .ref (a 0)), (1, .int y1)] [] S1 := by
  unfold B_X7_turnedNow_2 at h
  refine x_iload_n 2 C dX7_turnedNow_2 rfl 1 rfl ?_
  refine x_aload_n 3 C dX7_turnedNow_3 rfl 0 rfl ?_
  refine gX7_graves 4 C kw_786 dX7_turnedNow_4 ?_
  refine x_icmp_ge 7 C 35 dX7_turnedNow_7 rfl h (fun h => ?_) (fun h => ?_)
  · exact x_sub 35 [0] rfl (hk _ h)
  · refine x_aload_n 10 C dX7_turnedNow_10 rfl 0 rfl ?_
    refine gX7_order 11 C kw_808 dX7_turnedNow_11 ?_
    refine x_iload_n 14 C dX7_turnedNow_14 rfl 1 rfl ?_
    refine x_aload_n 15 C dX7_turnedNow_15 rfl 0 rfl ?_
    refine gX7_firstOrder 16 C kw_814 dX7_turnedNow_16 ?_
    refine x_aload_n 19 C dX7_turnedNow_19 rfl 0 rfl ?_
    refine gX7_graves 20 C kw_786 dX7_turnedNow_20 ?_
    refine x_iconst 23 C dX7_turnedNow_23 ci_1 ?_
    refine x_isub 24 C dX7_turnedNow_24 ?_
    refine x_iload_n 25 C dX7_turnedNow_25 rfl 1 rfl ?_
    refine x_isub 26 C dX7_turnedNow_26 ?_
    obtain ⟨hg1, h⟩ := xif_some h
    refine r_iald17 27 C hg1 dX7_turnedNow_27 ?_
    obtain ⟨hg2, h⟩ := xif_some h
    refine r_iast15 28 C hg2 dX7_turnedNow_28 ?_
    refine x_topS h (fun S3 h => ?_)
    refine x_iinc 29 C (L := fun v1_4 => [(0, .ref (a 0)), (1, .int v1_4)]) dX7_turnedNow_29 1 rfl ci_1 (Nat.le_of_ble_eq_true rfl) [1, 0] (fun _ => rfl) h (fun v1_4 h => ?_)
    refine x_goto 32 C 2 dX7_turnedNow_32 rfl ?_
    exact ih _ h
set_option maxRecDepth 100000 in
set_option maxHeartbeats 4000000 in
theorem M_X7_turnedNow (l : Launch) (D : va_G) (a : Nat → Nat) (b : Nat → ClassId) (S0 : XSr)   {r9 : Int32} {S9 : XSr} (h : F_X7_turnedNow S0 = some (r9, S9)) : xM l (ωR D a b) yX7_turnedNow cX7_turnedNow 2 (some .int) rm_X7_turnedNow [.ref (a 0)] S0 (some (.int r9), S9) := by
  unfold F_X7_turnedNow at h
  refine xM_of (own := "GraveOrderModel") (by decide) rfl (Nat.le_of_ble_eq_true rfl) (fun Γ C => ?_)
  refine x_sub 0 [0] (lv' := [(0, .ref (a 0))]) rfl ?_
  refine x_iconst 0 C dX7_turnedNow_0 ci_0 ?_
  refine x_istore_n 1 C (lv' := [(0, .ref (a 0)), (1, .int 0)]) dX7_turnedNow_1 rfl (Nat.le_of_ble_eq_true rfl) [1, 0] rfl ?_
  refine x_loop (E := fun e => XAt (ωR D a b) Γ 35 [(0, .ref (a 0))] [] e) (P := fun t => XAt (ωR D a b) Γ 2 [(0, .ref (a 0)), (1, .int t.1)] [] t.2) h (fun e5 h => ?_) (fun kx rc t hk ih h => w_X7_turnedNow_2 l D a b S0 C    kx rc hk ih t.1 t.2 h)
  refine x_aload_n 35 C dX7_turnedNow_35 rfl 0 rfl ?_
  obtain ⟨z6, hz6, h⟩ := xbind_some h
  refine x_callV 36 C (q0 := 0) (ci := 7) 0 (As := []) (rest := []) (M_X7_canBe l D a b e5   hz6) (by rfl) rfl kw_1003 mv_X7_canBe mh_X7_canBe ⟨rfl, rfl⟩ ⟨Nat.le_of_ble_eq_true rfl, Nat.le_of_ble_eq_true rfl⟩ rfl rfl (Nat.le_of_ble_eq_true rfl) dX7_turnedNow_36 ?_
  refine x_if_eq 39 C 57 dX7_turnedNow_39 rfl h (fun h => ?_) (fun h => ?_)
  · refine x_iconst 57 C dX7_turnedNow_57 ci_0 ?_
    exact x_iret 58 C dX7_turnedNow_58 (Prod.mk.inj (Option.some.inj h)).1 (Prod.mk.inj (Option.some.inj h)).2
  · refine x_aload_n 42 C dX7_turnedNow_42 rfl 0 rfl ?_
    obtain ⟨z7, hz7, h⟩ := xbind_some h
    refine x_callV 43 C (q0 := 0) (ci := 7) 0 (As := []) (rest := []) (M_X7_gapsNow l D a b e5   hz7) (by rfl) rfl kw_995 mv_X7_gapsNow mh_X7_gapsNow ⟨rfl, rfl⟩ ⟨Nat.le_of_ble_eq_true rfl, Nat.le_of_ble_eq_true rfl⟩ rfl rfl (Nat.le_of_ble_eq_true rfl) dX7_turnedNow_43 ?_
    refine x_aload_n 46 C dX7_turnedNow_46 rfl 0 rfl ?_
    refine gX7_fewest 47 C kw_809 dX7_turnedNow_47 ?_
    refine x_icmp_ne 50 C 57 dX7_turnedNow_50 rfl h (fun h => ?_) (fun h => ?_)
    · refine x_iconst 57 C dX7_turnedNow_57 ci_0 ?_
      exact x_iret 58 C dX7_turnedNow_58 (Prod.mk.inj (Option.some.inj h)).1 (Prod.mk.inj (Option.some.inj h)).2
    · refine x_iconst 53 C dX7_turnedNow_53 ci_1 ?_
      refine x_goto 54 C 58 dX7_turnedNow_54 rfl ?_
      exact x_iret 58 C dX7_turnedNow_58 (Prod.mk.inj (Option.some.inj h)).1 (Prod.mk.inj (Option.some.inj h)).2
/-! GraveOrderModel.bestNow (I)I -/
def F_X7_bestNow (S0 : XSr) (x1 : Int32) : (Option (Int32 × XSr)) :=
  ((F_X7_areAny S0).bind fun z1 => (if z1.1 = 0 then (some ((-3), z1.2)) else (if x1 = 0 then (some ((z1.2.1 0 23), z1.2)) else (if x1 = 1 then (some ((z1.2.1 0 24), z1.2)) else ((F_X7_turnedNow z1.2).bind fun z2 => (some (z2.1, z2.2)))))))
abbrev rm_X7_bestNow : Room := { frames := 5, cells := 0, slots := 0, locals := 110 }
set_option maxRecDepth 100000 in
set_option maxHeartbeats 4000000 in
theorem M_X7_bestNow (l : Launch) (D : va_G) (a : Nat → Nat) (b : Nat → ClassId) (S0 : XSr) (x1 : Int32)  {r9 : Int32} {S9 : XSr} (h : F_X7_bestNow S0 x1 = some (r9, S9)) : xM l (ωR D a b) yX7_bestNow cX7_bestNow 2 (some .int) rm_X7_bestNow [.ref (a 0), .int x1] S0 (some (.int r9), S9) := by
  unfold F_X7_bestNow at h
  refine xM_of (own := "GraveOrderModel") (by decide) rfl (Nat.le_of_ble_eq_true rfl) (fun Γ C => ?_)
  refine x_sub 0 [0, 1] (lv' := [(0, .ref (a 0)), (1, .int x1)]) rfl ?_
  refine x_aload_n 0 C dX7_bestNow_0 rfl 0 rfl ?_
  obtain ⟨z1, hz1, h⟩ := xbind_some h
  refine x_callV 1 C (q0 := 0) (ci := 7) 0 (As := []) (rest := []) (M_X7_areAny l D a b S0   hz1) (by rfl) rfl kw_1015 mv_X7_areAny mh_X7_areAny ⟨rfl, rfl⟩ ⟨Nat.le_of_ble_eq_true rfl, Nat.le_of_ble_eq_true rfl⟩ rfl rfl (Nat.le_of_ble_eq_true rfl) dX7_bestNow_1 ?_
  refine x_if_ne 4 C 10 dX7_bestNow_4 rfl h (fun h => ?_) (fun h => ?_)
  · refine x_iload_n 10 C dX7_bestNow_10 rfl 1 rfl ?_
    refine x_if_ne 11 C 21 dX7_bestNow_11 rfl h (fun h => ?_) (fun h => ?_)
    · refine x_iload_n 21 C dX7_bestNow_21 rfl 1 rfl ?_
      refine x_iconst 22 C dX7_bestNow_22 ci_1 ?_
      refine x_icmp_ne 23 C 33 dX7_bestNow_23 rfl h (fun h => ?_) (fun h => ?_)
      · refine x_aload_n 33 C dX7_bestNow_33 rfl 0 rfl ?_
        obtain ⟨z2, hz2, h⟩ := xbind_some h
        refine x_callV 34 C (q0 := 0) (ci := 7) 0 (As := []) (rest := []) (M_X7_turnedNow l D a b z1.2   hz2) (by rfl) rfl kw_1039 mv_X7_turnedNow mh_X7_turnedNow ⟨rfl, rfl⟩ ⟨Nat.le_of_ble_eq_true rfl, Nat.le_of_ble_eq_true rfl⟩ rfl rfl (Nat.le_of_ble_eq_true rfl) dX7_bestNow_34 ?_
        exact x_iret 37 C dX7_bestNow_37 (Prod.mk.inj (Option.some.inj h)).1 (Prod.mk.inj (Option.some.inj h)).2
      · refine x_aload_n 26 C dX7_bestNow_26 rfl 0 rfl ?_
        refine gX7_bestMany 27 C kw_810 dX7_bestNow_27 ?_
        refine x_goto 30 C 37 dX7_bestNow_30 rfl ?_
        exact x_iret 37 C dX7_bestNow_37 (Prod.mk.inj (Option.some.inj h)).1 (Prod.mk.inj (Option.some.inj h)).2
    · refine x_aload_n 14 C dX7_bestNow_14 rfl 0 rfl ?_
      refine gX7_fewest 15 C kw_809 dX7_bestNow_15 ?_
      refine x_goto 18 C 37 dX7_bestNow_18 rfl ?_
      exact x_iret 37 C dX7_bestNow_37 (Prod.mk.inj (Option.some.inj h)).1 (Prod.mk.inj (Option.some.inj h)).2
  · refine x_bipush 7 C dX7_bestNow_7 cb_m3 ?_
    exact x_iret 9 C dX7_bestNow_9 (Prod.mk.inj (Option.some.inj h)).1 (Prod.mk.inj (Option.some.inj h)).2
/-! GraveOrderModel.best (I)I -/
def F_X7_best (S0 : XSr) (x1 : Int32) : (Option (Int32 × XSr)) :=
  (if (F_X7_in x1 0 2) = 0 then (some ((-2), S0)) else ((F_X7_bestNow S0 x1).bind fun z1 => (some (z1.1, z1.2))))
abbrev rm_X7_best : Room := { frames := 6, cells := 0, slots := 0, locals := 131 }
set_option maxRecDepth 100000 in
set_option maxHeartbeats 4000000 in
theorem M_X7_best (l : Launch) (D : va_G) (a : Nat → Nat) (b : Nat → ClassId) (S0 : XSr) (x1 : Int32)  {r9 : Int32} {S9 : XSr} (h : F_X7_best S0 x1 = some (r9, S9)) : xM l (ωR D a b) yX7_best cX7_best 2 (some .int) rm_X7_best [.ref (a 0), .int x1] S0 (some (.int r9), S9) := by
  unfold F_X7_best at h
  refine xM_of (own := "GraveOrderModel") (by decide) rfl (Nat.le_of_ble_eq_true rfl) (fun Γ C => ?_)
  refine x_sub 0 [0, 1] (lv' := [(0, .ref (a 0)), (1, .int x1)]) rfl ?_
  refine x_iload_n 0 C dX7_best_0 rfl 1 rfl ?_
  refine x_iconst 1 C dX7_best_1 ci_0 ?_
  refine x_iconst 2 C dX7_best_2 ci_2 ?_
  refine x_callS 3 C 3 (As := [.int x1, .int 0, .int 2]) (rest := []) (M_X7_in l (ωR D a b) S0 x1 0 2) kw_911 ms_X7_in mh_X7_in ⟨rfl, rfl⟩ ⟨Nat.le_of_ble_eq_true rfl, Nat.le_of_ble_eq_true rfl⟩ rfl rfl (Nat.le_of_ble_eq_true rfl) dX7_best_3 ?_
  refine x_if_eq 6 C 17 dX7_best_6 rfl h (fun h => ?_) (fun h => ?_)
  · refine x_bipush 17 C dX7_best_17 cb_m2 ?_
    exact x_iret 19 C dX7_best_19 (Prod.mk.inj (Option.some.inj h)).1 (Prod.mk.inj (Option.some.inj h)).2
  · refine x_aload_n 9 C dX7_best_9 rfl 0 rfl ?_
    refine x_iload_n 10 C dX7_best_10 rfl 1 rfl ?_
    obtain ⟨z1, hz1, h⟩ := xbind_some h
    refine x_callV 11 C (q0 := 0) (ci := 7) 1 (As := [.int x1]) (rest := []) (M_X7_bestNow l D a b S0 x1  hz1) (by rfl) rfl kw_1011 mv_X7_bestNow mh_X7_bestNow ⟨rfl, rfl⟩ ⟨Nat.le_of_ble_eq_true rfl, Nat.le_of_ble_eq_true rfl⟩ rfl rfl (Nat.le_of_ble_eq_true rfl) dX7_best_11 ?_
    refine x_goto 14 C 19 dX7_best_14 rfl ?_
    exact x_iret 19 C dX7_best_19 (Prod.mk.inj (Option.some.inj h)).1 (Prod.mk.inj (Option.some.inj h)).2
/-! GraveOrderModel.firstNow (I)I -/
def F_X7_firstNow (S0 : XSr) (x1 : Int32) : (Option (Int32 × XSr)) :=
  ((F_X7_areAny S0).bind fun z1 => (if z1.1 = 0 then (some ((-3), z1.2)) else (if (z1.2.1 0 0) ≤ x1 then (some ((-1), z1.2)) else (if xin x1 8 = true then (some ((z1.2.1 17 (xti x1)), z1.2)) else none))))
abbrev rm_X7_firstNow : Room := { frames := 5, cells := 0, slots := 0, locals := 110 }
set_option maxRecDepth 100000 in
set_option maxHeartbeats 4000000 in
theorem M_X7_firstNow (l : Launch) (D : va_G) (a : Nat → Nat) (b : Nat → ClassId) (S0 : XSr) (x1 : Int32)  {r9 : Int32} {S9 : XSr} (h : F_X7_firstNow S0 x1 = some (r9, S9)) : xM l (ωR D a b) yX7_firstNow cX7_firstNow 2 (some .int) rm_X7_firstNow [.ref (a 0), .int x1] S0 (some (.int r9), S9) := by
  unfold F_X7_firstNow at h
  refine xM_of (own := "GraveOrderModel") (by decide) rfl (Nat.le_of_ble_eq_true rfl) (fun Γ C => ?_)
  refine x_sub 0 [0, 1] (lv' := [(0, .ref (a 0)), (1, .int x1)]) rfl ?_
  refine x_aload_n 0 C dX7_firstNow_0 rfl 0 rfl ?_
  obtain ⟨z1, hz1, h⟩ := xbind_some h
  refine x_callV 1 C (q0 := 0) (ci := 7) 0 (As := []) (rest := []) (M_X7_areAny l D a b S0   hz1) (by rfl) rfl kw_1015 mv_X7_areAny mh_X7_areAny ⟨rfl, rfl⟩ ⟨Nat.le_of_ble_eq_true rfl, Nat.le_of_ble_eq_true rfl⟩ rfl rfl (Nat.le_of_ble_eq_true rfl) dX7_firstNow_1 ?_
  refine x_if_ne 4 C 12 dX7_firstNow_4 rfl h (fun h => ?_) (fun h => ?_)
  · refine x_iload_n 12 C dX7_firstNow_12 rfl 1 rfl ?_
    refine x_aload_n 13 C dX7_firstNow_13 rfl 0 rfl ?_
    refine gX7_graves 14 C kw_786 dX7_firstNow_14 ?_
    refine x_icmp_ge 17 C 29 dX7_firstNow_17 rfl h (fun h => ?_) (fun h => ?_)
    · refine x_iconst 29 C dX7_firstNow_29 ci_m1 ?_
      exact x_iret 30 C dX7_firstNow_30 (Prod.mk.inj (Option.some.inj h)).1 (Prod.mk.inj (Option.some.inj h)).2
    · refine x_aload_n 20 C dX7_firstNow_20 rfl 0 rfl ?_
      refine gX7_firstOrder 21 C kw_814 dX7_firstNow_21 ?_
      refine x_iload_n 24 C dX7_firstNow_24 rfl 1 rfl ?_
      obtain ⟨hg2, h⟩ := xif_some h
      refine r_iald17 25 C hg2 dX7_firstNow_25 ?_
      refine x_goto 26 C 30 dX7_firstNow_26 rfl ?_
      exact x_iret 30 C dX7_firstNow_30 (Prod.mk.inj (Option.some.inj h)).1 (Prod.mk.inj (Option.some.inj h)).2
  · refine x_bipush 7 C dX7_firstNow_7 cb_m3 ?_
    refine x_goto 9 C 30 dX7_firstNow_9 rfl ?_
    exact x_iret 30 C dX7_firstNow_30 (Prod.mk.inj (Option.some.inj h)).1 (Prod.mk.inj (Option.some.inj h)).2
/-! GraveOrderModel.first (I)I -/
def F_X7_first (S0 : XSr) (x1 : Int32) : (Option (Int32 × XSr)) :=
  (if 0 ≤ x1 then ((F_X7_firstNow S0 x1).bind fun z1 => (some (z1.1, z1.2))) else (some ((-2), S0)))
abbrev rm_X7_first : Room := { frames := 6, cells := 0, slots := 0, locals := 131 }
set_option maxRecDepth 100000 in
set_option maxHeartbeats 4000000 in
theorem M_X7_first (l : Launch) (D : va_G) (a : Nat → Nat) (b : Nat → ClassId) (S0 : XSr) (x1 : Int32)  {r9 : Int32} {S9 : XSr} (h : F_X7_first S0 x1 = some (r9, S9)) : xM l (ωR D a b) yX7_first cX7_first 2 (some .int) rm_X7_first [.ref (a 0), .int x1] S0 (some (.int r9), S9) := by
  unfold F_X7_first at h
  refine xM_of (own := "GraveOrderModel") (by decide) rfl (Nat.le_of_ble_eq_true rfl) (fun Γ C => ?_)
  refine x_sub 0 [0, 1] (lv' := [(0, .ref (a 0)), (1, .int x1)]) rfl ?_
  refine x_iload_n 0 C dX7_first_0 rfl 1 rfl ?_
  refine x_if_ge 1 C 9 dX7_first_1 rfl h (fun h => ?_) (fun h => ?_)
  · refine x_aload_n 9 C dX7_first_9 rfl 0 rfl ?_
    refine x_iload_n 10 C dX7_first_10 rfl 1 rfl ?_
    obtain ⟨z1, hz1, h⟩ := xbind_some h
    refine x_callV 11 C (q0 := 0) (ci := 7) 1 (As := [.int x1]) (rest := []) (M_X7_firstNow l D a b S0 x1  hz1) (by rfl) rfl kw_1047 mv_X7_firstNow mh_X7_firstNow ⟨rfl, rfl⟩ ⟨Nat.le_of_ble_eq_true rfl, Nat.le_of_ble_eq_true rfl⟩ rfl rfl (Nat.le_of_ble_eq_true rfl) dX7_first_11 ?_
    exact x_iret 14 C dX7_first_14 (Prod.mk.inj (Option.some.inj h)).1 (Prod.mk.inj (Option.some.inj h)).2
  · refine x_bipush 4 C dX7_first_4 cb_m2 ?_
    refine x_goto 6 C 14 dX7_first_6 rfl ?_
    exact x_iret 14 C dX7_first_14 (Prod.mk.inj (Option.some.inj h)).1 (Prod.mk.inj (Option.some.inj h)).2
/-! GraveOrderModel.sure (II)I -/
def F_X7_sure (S0 : XSr) (x1 : Int32) (x2 : Int32) : (Option (Int32 × XSr)) :=
  (if (F_X7_isGrave S0 x1) = 0 then (some ((-2), S0)) else (if (F_X7_isGrave S0 x2) = 0 then (some ((-2), S0)) else (if x1 = x2 then (some ((-2), S0)) else ((F_X7_areAny S0).bind fun z1 => (if z1.1 = 0 then (some ((-3), z1.2)) else (if xin x2 8 = true then (if (F_X7_is (z1.2.1 18 (xti x2)) x1) = 0 then (some (0, z1.2)) else (some (1, z1.2))) else none))))))
abbrev rm_X7_sure : Room := { frames := 5, cells := 0, slots := 0, locals := 110 }
set_option maxRecDepth 100000 in
set_option maxHeartbeats 4000000 in
theorem M_X7_sure (l : Launch) (D : va_G) (a : Nat → Nat) (b : Nat → ClassId) (S0 : XSr) (x1 : Int32) (x2 : Int32)  {r9 : Int32} {S9 : XSr} (h : F_X7_sure S0 x1 x2 = some (r9, S9)) : xM l (ωR D a b) yX7_sure cX7_sure 3 (some .int) rm_X7_sure [.ref (a 0), .int x1, .int x2] S0 (some (.int r9), S9) := by
  unfold F_X7_sure at h
  refine xM_of (own := "GraveOrderModel") (by decide) rfl (Nat.le_of_ble_eq_true rfl) (fun Γ C => ?_)
  refine x_sub 0 [0, 1, 2] (lv' := [(0, .ref (a 0)), (1, .int x1), (2, .int x2)]) rfl ?_
  refine x_aload_n 0 C dX7_sure_0 rfl 0 rfl ?_
  refine x_iload_n 1 C dX7_sure_1 rfl 1 rfl ?_
  refine x_callV 2 C (q0 := 0) (ci := 7) 1 (As := [.int x1]) (rest := []) (M_X7_isGrave l D a b S0 x1 ) (by rfl) rfl kw_918 mv_X7_isGrave mh_X7_isGrave ⟨rfl, rfl⟩ ⟨Nat.le_of_ble_eq_true rfl, Nat.le_of_ble_eq_true rfl⟩ rfl rfl (Nat.le_of_ble_eq_true rfl) dX7_sure_2 ?_
  refine x_if_eq 5 C 21 dX7_sure_5 rfl h (fun h => ?_) (fun h => ?_)
  · refine x_bipush 21 C dX7_sure_21 cb_m2 ?_
    exact x_iret 23 C dX7_sure_23 (Prod.mk.inj (Option.some.inj h)).1 (Prod.mk.inj (Option.some.inj h)).2
  · refine x_aload_n 8 C dX7_sure_8 rfl 0 rfl ?_
    refine x_iload_n 9 C dX7_sure_9 rfl 2 rfl ?_
    refine x_callV 10 C (q0 := 0) (ci := 7) 1 (As := [.int x2]) (rest := []) (M_X7_isGrave l D a b S0 x2 ) (by rfl) rfl kw_918 mv_X7_isGrave mh_X7_isGrave ⟨rfl, rfl⟩ ⟨Nat.le_of_ble_eq_true rfl, Nat.le_of_ble_eq_true rfl⟩ rfl rfl (Nat.le_of_ble_eq_true rfl) dX7_sure_10 ?_
    refine x_if_eq 13 C 21 dX7_sure_13 rfl h (fun h => ?_) (fun h => ?_)
    · refine x_bipush 21 C dX7_sure_21 cb_m2 ?_
      exact x_iret 23 C dX7_sure_23 (Prod.mk.inj (Option.some.inj h)).1 (Prod.mk.inj (Option.some.inj h)).2
    · refine x_iload_n 16 C dX7_sure_16 rfl 1 rfl ?_
      refine x_iload_n 17 C dX7_sure_17 rfl 2 rfl ?_
      refine x_icmp_ne 18 C 24 dX7_sure_18 rfl h (fun h => ?_) (fun h => ?_)
      · refine x_aload_n 24 C dX7_sure_24 rfl 0 rfl ?_
        obtain ⟨z1, hz1, h⟩ := xbind_some h
        refine x_callV 25 C (q0 := 0) (ci := 7) 0 (As := []) (rest := []) (M_X7_areAny l D a b S0   hz1) (by rfl) rfl kw_1015 mv_X7_areAny mh_X7_areAny ⟨rfl, rfl⟩ ⟨Nat.le_of_ble_eq_true rfl, Nat.le_of_ble_eq_true rfl⟩ rfl rfl (Nat.le_of_ble_eq_true rfl) dX7_sure_25 ?_
        refine x_if_ne 28 C 36 dX7_sure_28 rfl h (fun h => ?_) (fun h => ?_)
        · refine x_aload_n 36 C dX7_sure_36 rfl 0 rfl ?_
          refine gX7_ahead 37 C kw_815 dX7_sure_37 ?_
          refine x_iload_n 40 C dX7_sure_40 rfl 2 rfl ?_
          obtain ⟨hg2, h⟩ := xif_some h
          refine r_iald18 41 C hg2 dX7_sure_41 ?_
          refine x_iload_n 42 C dX7_sure_42 rfl 1 rfl ?_
          refine x_callS 43 C 2 (As := [.int (z1.2.1 18 (xti x2)), .int x1]) (rest := []) (M_X7_is l (ωR D a b) z1.2 (z1.2.1 18 (xti x2)) x1) kw_992 ms_X7_is mh_X7_is ⟨rfl, rfl⟩ ⟨Nat.le_of_ble_eq_true rfl, Nat.le_of_ble_eq_true rfl⟩ rfl rfl (Nat.le_of_ble_eq_true rfl) dX7_sure_43 ?_
          refine x_if_eq 46 C 53 dX7_sure_46 rfl h (fun h => ?_) (fun h => ?_)
          · refine x_iconst 53 C dX7_sure_53 ci_0 ?_
            exact x_iret 54 C dX7_sure_54 (Prod.mk.inj (Option.some.inj h)).1 (Prod.mk.inj (Option.some.inj h)).2
          · refine x_iconst 49 C dX7_sure_49 ci_1 ?_
            refine x_goto 50 C 54 dX7_sure_50 rfl ?_
            exact x_iret 54 C dX7_sure_54 (Prod.mk.inj (Option.some.inj h)).1 (Prod.mk.inj (Option.some.inj h)).2
        · refine x_bipush 31 C dX7_sure_31 cb_m3 ?_
          refine x_goto 33 C 54 dX7_sure_33 rfl ?_
          exact x_iret 54 C dX7_sure_54 (Prod.mk.inj (Option.some.inj h)).1 (Prod.mk.inj (Option.some.inj h)).2
      · refine x_bipush 21 C dX7_sure_21 cb_m2 ?_
        exact x_iret 23 C dX7_sure_23 (Prod.mk.inj (Option.some.inj h)).1 (Prod.mk.inj (Option.some.inj h)).2
/-! GraveOrderModel.placesNow (I)I -/
def F_X7_placesNow (S0 : XSr) (x1 : Int32) : (Option (Int32 × XSr)) :=
  ((F_X7_areAny S0).bind fun z1 => (if z1.1 = 0 then (some ((-3), z1.2)) else (if xin x1 8 = true then (some ((z1.2.1 19 (xti x1)), z1.2)) else none)))
abbrev rm_X7_placesNow : Room := { frames := 5, cells := 0, slots := 0, locals := 110 }
set_option maxRecDepth 100000 in
set_option maxHeartbeats 4000000 in
theorem M_X7_placesNow (l : Launch) (D : va_G) (a : Nat → Nat) (b : Nat → ClassId) (S0 : XSr) (x1 : Int32)  {r9 : Int32} {S9 : XSr} (h : F_X7_placesNow S0 x1 = some (r9, S9)) : xM l (ωR D a b) yX7_placesNow cX7_placesNow 2 (some .int) rm_X7_placesNow [.ref (a 0), .int x1] S0 (some (.int r9), S9) := by
  unfold F_X7_placesNow at h
  refine xM_of (own := "GraveOrderModel") (by decide) rfl (Nat.le_of_ble_eq_true rfl) (fun Γ C => ?_)
  refine x_sub 0 [0, 1] (lv' := [(0, .ref (a 0)), (1, .int x1)]) rfl ?_
  refine x_aload_n 0 C dX7_placesNow_0 rfl 0 rfl ?_
  obtain ⟨z1, hz1, h⟩ := xbind_some h
  refine x_callV 1 C (q0 := 0) (ci := 7) 0 (As := []) (rest := []) (M_X7_areAny l D a b S0   hz1) (by rfl) rfl kw_1015 mv_X7_areAny mh_X7_areAny ⟨rfl, rfl⟩ ⟨Nat.le_of_ble_eq_true rfl, Nat.le_of_ble_eq_true rfl⟩ rfl rfl (Nat.le_of_ble_eq_true rfl) dX7_placesNow_1 ?_
  refine x_if_eq 4 C 16 dX7_placesNow_4 rfl h (fun h => ?_) (fun h => ?_)
  · refine x_bipush 16 C dX7_placesNow_16 cb_m3 ?_
    exact x_iret 18 C dX7_placesNow_18 (Prod.mk.inj (Option.some.inj h)).1 (Prod.mk.inj (Option.some.inj h)).2
  · refine x_aload_n 7 C dX7_placesNow_7 rfl 0 rfl ?_
    refine gX7_placesOf 8 C kw_816 dX7_placesNow_8 ?_
    refine x_iload_n 11 C dX7_placesNow_11 rfl 1 rfl ?_
    obtain ⟨hg2, h⟩ := xif_some h
    refine r_iald19 12 C hg2 dX7_placesNow_12 ?_
    refine x_goto 13 C 18 dX7_placesNow_13 rfl ?_
    exact x_iret 18 C dX7_placesNow_18 (Prod.mk.inj (Option.some.inj h)).1 (Prod.mk.inj (Option.some.inj h)).2
/-! GraveOrderModel.places (I)I -/
def F_X7_places (S0 : XSr) (x1 : Int32) : (Option (Int32 × XSr)) :=
  (if (F_X7_isGrave S0 x1) = 0 then (some ((-2), S0)) else ((F_X7_placesNow S0 x1).bind fun z1 => (some (z1.1, z1.2))))
abbrev rm_X7_places : Room := { frames := 6, cells := 0, slots := 0, locals := 131 }
set_option maxRecDepth 100000 in
set_option maxHeartbeats 4000000 in
theorem M_X7_places (l : Launch) (D : va_G) (a : Nat → Nat) (b : Nat → ClassId) (S0 : XSr) (x1 : Int32)  {r9 : Int32} {S9 : XSr} (h : F_X7_places S0 x1 = some (r9, S9)) : xM l (ωR D a b) yX7_places cX7_places 2 (some .int) rm_X7_places [.ref (a 0), .int x1] S0 (some (.int r9), S9) := by
  unfold F_X7_places at h
  refine xM_of (own := "GraveOrderModel") (by decide) rfl (Nat.le_of_ble_eq_true rfl) (fun Γ C => ?_)
  refine x_sub 0 [0, 1] (lv' := [(0, .ref (a 0)), (1, .int x1)]) rfl ?_
  refine x_aload_n 0 C dX7_places_0 rfl 0 rfl ?_
  refine x_iload_n 1 C dX7_places_1 rfl 1 rfl ?_
  refine x_callV 2 C (q0 := 0) (ci := 7) 1 (As := [.int x1]) (rest := []) (M_X7_isGrave l D a b S0 x1 ) (by rfl) rfl kw_918 mv_X7_isGrave mh_X7_isGrave ⟨rfl, rfl⟩ ⟨Nat.le_of_ble_eq_true rfl, Nat.le_of_ble_eq_true rfl⟩ rfl rfl (Nat.le_of_ble_eq_true rfl) dX7_places_2 ?_
  refine x_if_eq 5 C 16 dX7_places_5 rfl h (fun h => ?_) (fun h => ?_)
  · refine x_bipush 16 C dX7_places_16 cb_m2 ?_
    exact x_iret 18 C dX7_places_18 (Prod.mk.inj (Option.some.inj h)).1 (Prod.mk.inj (Option.some.inj h)).2
  · refine x_aload_n 8 C dX7_places_8 rfl 0 rfl ?_
    refine x_iload_n 9 C dX7_places_9 rfl 1 rfl ?_
    obtain ⟨z1, hz1, h⟩ := xbind_some h
    refine x_callV 10 C (q0 := 0) (ci := 7) 1 (As := [.int x1]) (rest := []) (M_X7_placesNow l D a b S0 x1  hz1) (by rfl) rfl kw_1059 mv_X7_placesNow mh_X7_placesNow ⟨rfl, rfl⟩ ⟨Nat.le_of_ble_eq_true rfl, Nat.le_of_ble_eq_true rfl⟩ rfl rfl (Nat.le_of_ble_eq_true rfl) dX7_places_10 ?_
    refine x_goto 13 C 18 dX7_places_13 rfl ?_
    exact x_iret 18 C dX7_places_18 (Prod.mk.inj (Option.some.inj h)).1 (Prod.mk.inj (Option.some.inj h)).2
/-! GraveOrderModel.spreadNow (II)I -/
def B_X7_spreadNow_17 (S0 : XSr) (c1 : Int32) (kx : Int32 → Option (Int32 × XSr)) (rc : (Int32 × Int32) → Option (Int32 × XSr)) (y3 : Int32) (y4 : Int32) : Option (Int32 × XSr) :=
  (if c1 < y4 then kx y3 else (if xin y4 1000 = true then (xlet (y3 + (S0.1 16 (xti y4))) fun v3_5 => (xlet (y4 + 1) fun v4_6 => rc (v3_5, v4_6))) else none))
def F_X7_spreadNow (S0 : XSr) (x1 : Int32) (x2 : Int32) : (Option (Int32 × XSr)) :=
  ((F_X7_works S0).bind fun z1 => (xlet (fun (t2 : Int32) => (xlp (fun k rc t => B_X7_spreadNow_17 z1  x1 k rc t.1 t.2) (fun e7 => (some (e7, z1))) XFU (0, t2))) fun j3 => (if x2 = 0 then j3 x1 else j3 0)))
abbrev rm_X7_spreadNow : Room := { frames := 4, cells := 0, slots := 0, locals := 90 }
set_option maxRecDepth 100000 in
set_option maxHeartbeats 4000000 in
theorem w_X7_spreadNow_17 (l : Launch) (D : va_G) (a : Nat → Nat) (b : Nat → ClassId) (S0 : XSr) {Γ : XG XSr} {r9 : Int32} {S9 : XSr} (C : Cx (ωR D a b) Γ cX7_spreadNow "GraveOrderModel" (some .int) l rm_X7_spreadNow 5 (some (.int r9), S9)) (c1 : Int32)  (kx : Int32 → Option (Int32 × XSr)) (rc : (Int32 × Int32) → Option (Int32 × XSr)) (hk : ∀ e, kx e = some (r9, S9) → XAt (ωR D a b) Γ 39 [(3, .int e)] [] S0) (ih : ∀ t, rc t = some (r9, S9) → XAt (ωR D a b) Γ 17 [(0, .ref (a 0)), (1, .int c1), (3, .int t.1), (4, .int t.2)] [] S0) (y3 : Int32) (y4 : Int32) (h : B_X7_spreadNow_17 S0  c1 kx rc y3 y4 = some (r9, S9)) : XAt (ωR D a b) Γ 17 [(0, .ref (a 0)), (1, .int c1), (3, .int y3), (4, .int y4)] [] S0 := by
  unfold B_X7_spreadNow_17 at h
  refine x_iload 17 C dX7_spreadNow_17 3 rfl ?_
  refine x_iload_n 19 C dX7_spreadNow_19 rfl 1 rfl ?_
  refine x_icmp_gt 20 C 39 dX7_spreadNow_20 rfl h (fun h => ?_) (fun h => ?_)
  · exact x_sub 39 [2] rfl (hk _ h)
  · refine x_iload_n 23 C dX7_spreadNow_23 rfl 2 rfl ?_
    refine x_aload_n 24 C dX7_spreadNow_24 rfl 0 rfl ?_
    refine gX7_spreads 25 C kw_813 dX7_spreadNow_25 ?_
    refine x_iload 28 C dX7_spreadNow_28 3 rfl ?_
    obtain ⟨hg4, h⟩ := xif_some h
    refine r_iald16 30 C hg4 dX7_spreadNow_30 ?_
    refine x_iadd 31 C dX7_spreadNow_31 ?_
    refine x_top h (fun v3_5 h => ?_)
    refine x_istore_n 32 C (lv' := [(0, .ref (a 0)), (1, .int c1), (3, .int v3_5), (4, .int y4)]) dX7_spreadNow_32 rfl (Nat.le_of_ble_eq_true rfl) [1, 2, 0, 3] rfl ?_
    refine x_iinc 33 C (L := fun v4_6 => [(0, .ref (a 0)), (1, .int c1), (3, .int v3_5), (4, .int v4_6)]) dX7_spreadNow_33 3 rfl ci_1 (Nat.le_of_ble_eq_true rfl) [1, 2, 3, 0] (fun _ => rfl) h (fun v4_6 h => ?_)
    refine x_goto 36 C 17 dX7_spreadNow_36 rfl ?_
    exact ih _ h
set_option maxRecDepth 100000 in
set_option maxHeartbeats 4000000 in
theorem M_X7_spreadNow (l : Launch) (D : va_G) (a : Nat → Nat) (b : Nat → ClassId) (S0 : XSr) (x1 : Int32) (x2 : Int32)  {r9 : Int32} {S9 : XSr} (h : F_X7_spreadNow S0 x1 x2 = some (r9, S9)) : xM l (ωR D a b) yX7_spreadNow cX7_spreadNow 5 (some .int) rm_X7_spreadNow [.ref (a 0), .int x1, .int x2] S0 (some (.int r9), S9) := by
  unfold F_X7_spreadNow at h
  refine xM_of (own := "GraveOrderModel") (by decide) rfl (Nat.le_of_ble_eq_true rfl) (fun Γ C => ?_)
  refine x_sub 0 [0, 1, 2] (lv' := [(0, .ref (a 0)), (1, .int x1), (2, .int x2)]) rfl ?_
  refine x_aload_n 0 C dX7_spreadNow_0 rfl 0 rfl ?_
  obtain ⟨z1, hz1, h⟩ := xbind_some h
  refine x_callV 1 C (q0 := 0) (ci := 7) 0 (As := []) (rest := []) (M_X7_works l D a b S0   hz1) (by rfl) rfl kw_1019 mv_X7_works mh_X7_works ⟨rfl, rfl⟩ ⟨Nat.le_of_ble_eq_true rfl, Nat.le_of_ble_eq_true rfl⟩ rfl rfl (Nat.le_of_ble_eq_true rfl) dX7_spreadNow_1 ?_
  refine x_iconst 4 C dX7_spreadNow_4 ci_0 ?_
  refine x_istore_n 5 C (lv' := [(0, .ref (a 0)), (1, .int x1), (2, .int x2), (3, .int 0)]) dX7_spreadNow_5 rfl (Nat.le_of_ble_eq_true rfl) [1, 2, 3, 0] rfl ?_
  refine x_iload_n 6 C dX7_spreadNow_6 rfl 2 rfl ?_
  refine x_join (P := fun t2 => XAt (ωR D a b) Γ 15 [(0, .ref (a 0)), (1, .int x1), (3, .int 0)] [.int t2] z1) h (fun t2 h => ?_) (fun j3 hj3 h => ?_)
  · refine x_istore 15 C (lv' := [(0, .ref (a 0)), (1, .int x1), (3, .int 0), (4, .int t2)]) dX7_spreadNow_15 (Nat.le_of_ble_eq_true rfl) [1, 2, 3, 0] rfl ?_
    refine x_loop (E := fun e => XAt (ωR D a b) Γ 39 [(3, .int e)] [] z1) (P := fun t => XAt (ωR D a b) Γ 17 [(0, .ref (a 0)), (1, .int x1), (3, .int t.1), (4, .int t.2)] [] z1) h (fun e7 h => ?_) (fun kx rc t hk ih h => w_X7_spreadNow_17 l D a b z1 C   x1 kx rc hk ih t.1 t.2 h)
    refine x_iload_n 39 C dX7_spreadNow_39 rfl 0 rfl ?_
    exact x_iret 40 C dX7_spreadNow_40 (Prod.mk.inj (Option.some.inj h)).1 (Prod.mk.inj (Option.some.inj h)).2
  refine x_if_ne 7 C 14 dX7_spreadNow_7 rfl h (fun h => ?_) (fun h => ?_)
  · refine x_iconst 14 C dX7_spreadNow_14 ci_0 ?_
    exact x_sub 15 [0, 1, 3] rfl (hj3 _ h)
  · refine x_iload_n 10 C dX7_spreadNow_10 rfl 1 rfl ?_
    refine x_goto 11 C 15 dX7_spreadNow_11 rfl ?_
    exact x_sub 15 [0, 1, 3] rfl (hj3 _ h)
/-! GraveOrderModel.spread (II)I -/
def F_X7_spread (S0 : XSr) (x1 : Int32) (x2 : Int32) : (Option (Int32 × XSr)) :=
  (if (F_X7_in x1 0 999) = 0 then (some ((-2), S0)) else (if (F_X7_in x2 0 1) = 0 then (some ((-2), S0)) else ((F_X7_spreadNow S0 x1 x2).bind fun z1 => (some (z1.1, z1.2)))))
abbrev rm_X7_spread : Room := { frames := 5, cells := 0, slots := 0, locals := 114 }
set_option maxRecDepth 100000 in
set_option maxHeartbeats 4000000 in
theorem M_X7_spread (l : Launch) (D : va_G) (a : Nat → Nat) (b : Nat → ClassId) (S0 : XSr) (x1 : Int32) (x2 : Int32)  {r9 : Int32} {S9 : XSr} (h : F_X7_spread S0 x1 x2 = some (r9, S9)) : xM l (ωR D a b) yX7_spread cX7_spread 3 (some .int) rm_X7_spread [.ref (a 0), .int x1, .int x2] S0 (some (.int r9), S9) := by
  unfold F_X7_spread at h
  refine xM_of (own := "GraveOrderModel") (by decide) rfl (Nat.le_of_ble_eq_true rfl) (fun Γ C => ?_)
  refine x_sub 0 [0, 1, 2] (lv' := [(0, .ref (a 0)), (1, .int x1), (2, .int x2)]) rfl ?_
  refine x_iload_n 0 C dX7_spread_0 rfl 1 rfl ?_
  refine x_iconst 1 C dX7_spread_1 ci_0 ?_
  refine x_sipush 2 C dX7_spread_2 cs_999 ?_
  refine x_callS 5 C 3 (As := [.int x1, .int 0, .int 999]) (rest := []) (M_X7_in l (ωR D a b) S0 x1 0 999) kw_911 ms_X7_in mh_X7_in ⟨rfl, rfl⟩ ⟨Nat.le_of_ble_eq_true rfl, Nat.le_of_ble_eq_true rfl⟩ rfl rfl (Nat.le_of_ble_eq_true rfl) dX7_spread_5 ?_
  refine x_if_eq 8 C 29 dX7_spread_8 rfl h (fun h => ?_) (fun h => ?_)
  · refine x_bipush 29 C dX7_spread_29 cb_m2 ?_
    exact x_iret 31 C dX7_spread_31 (Prod.mk.inj (Option.some.inj h)).1 (Prod.mk.inj (Option.some.inj h)).2
  · refine x_iload_n 11 C dX7_spread_11 rfl 2 rfl ?_
    refine x_iconst 12 C dX7_spread_12 ci_0 ?_
    refine x_iconst 13 C dX7_spread_13 ci_1 ?_
    refine x_callS 14 C 3 (As := [.int x2, .int 0, .int 1]) (rest := []) (M_X7_in l (ωR D a b) S0 x2 0 1) kw_911 ms_X7_in mh_X7_in ⟨rfl, rfl⟩ ⟨Nat.le_of_ble_eq_true rfl, Nat.le_of_ble_eq_true rfl⟩ rfl rfl (Nat.le_of_ble_eq_true rfl) dX7_spread_14 ?_
    refine x_if_eq 17 C 29 dX7_spread_17 rfl h (fun h => ?_) (fun h => ?_)
    · refine x_bipush 29 C dX7_spread_29 cb_m2 ?_
      exact x_iret 31 C dX7_spread_31 (Prod.mk.inj (Option.some.inj h)).1 (Prod.mk.inj (Option.some.inj h)).2
    · refine x_aload_n 20 C dX7_spread_20 rfl 0 rfl ?_
      refine x_iload_n 21 C dX7_spread_21 rfl 1 rfl ?_
      refine x_iload_n 22 C dX7_spread_22 rfl 2 rfl ?_
      obtain ⟨z1, hz1, h⟩ := xbind_some h
      refine x_callV 23 C (q0 := 0) (ci := 7) 2 (As := [.int x1, .int x2]) (rest := []) (M_X7_spreadNow l D a b S0 x1 x2  hz1) (by rfl) rfl kw_1067 mv_X7_spreadNow mh_X7_spreadNow ⟨rfl, rfl⟩ ⟨Nat.le_of_ble_eq_true rfl, Nat.le_of_ble_eq_true rfl⟩ rfl rfl (Nat.le_of_ble_eq_true rfl) dX7_spread_23 ?_
      refine x_goto 26 C 31 dX7_spread_26 rfl ?_
      exact x_iret 31 C dX7_spread_31 (Prod.mk.inj (Option.some.inj h)).1 (Prod.mk.inj (Option.some.inj h)).2
/-! GraveOrderModel.meanNow (I)J -/
def F_X7_meanNow (S0 : XSr) (x1 : Int32) : (Option (Int64 × XSr)) :=
  ((F_X7_areAny S0).bind fun z1 => (if z1.1 = 0 then (some ((F_X7_no (-3)), z1.2)) else ((F_X7_lowest z1.2 z1.2.2 (((z1.2.1 0 25)).toInt64) x1).bind fun z2 => (some (z2, z1.2)))))
abbrev rm_X7_meanNow : Room := { frames := 5, cells := 0, slots := 0, locals := 110 }
set_option maxRecDepth 100000 in
set_option maxHeartbeats 4000000 in
theorem M_X7_meanNow (l : Launch) (D : va_G) (a : Nat → Nat) (b : Nat → ClassId) (S0 : XSr) (x1 : Int32)  {r9 : Int64} {S9 : XSr} (h : F_X7_meanNow S0 x1 = some (r9, S9)) : xM l (ωR D a b) yX7_meanNow cX7_meanNow 2 (some .long) rm_X7_meanNow [.ref (a 0), .int x1] S0 (some (.long r9), S9) := by
  unfold F_X7_meanNow at h
  refine xM_of (own := "GraveOrderModel") (by decide) rfl (Nat.le_of_ble_eq_true rfl) (fun Γ C => ?_)
  refine x_sub 0 [0, 1] (lv' := [(0, .ref (a 0)), (1, .int x1)]) rfl ?_
  refine x_aload_n 0 C dX7_meanNow_0 rfl 0 rfl ?_
  obtain ⟨z1, hz1, h⟩ := xbind_some h
  refine x_callV 1 C (q0 := 0) (ci := 7) 0 (As := []) (rest := []) (M_X7_areAny l D a b S0   hz1) (by rfl) rfl kw_1015 mv_X7_areAny mh_X7_areAny ⟨rfl, rfl⟩ ⟨Nat.le_of_ble_eq_true rfl, Nat.le_of_ble_eq_true rfl⟩ rfl rfl (Nat.le_of_ble_eq_true rfl) dX7_meanNow_1 ?_
  refine x_if_eq 4 C 23 dX7_meanNow_4 rfl h (fun h => ?_) (fun h => ?_)
  · refine x_bipush 23 C dX7_meanNow_23 cb_m3 ?_
    refine x_callS 25 C 1 (As := [.int (-3)]) (rest := []) (M_X7_no l (ωR D a b) z1.2 (-3)) kw_1082 ms_X7_no mh_X7_no ⟨rfl, rfl⟩ ⟨Nat.le_of_ble_eq_true rfl, Nat.le_of_ble_eq_true rfl⟩ rfl rfl (Nat.le_of_ble_eq_true rfl) dX7_meanNow_25 ?_
    exact x_lret 28 C dX7_meanNow_28 (Prod.mk.inj (Option.some.inj h)).1 (Prod.mk.inj (Option.some.inj h)).2
  · refine x_aload_n 7 C dX7_meanNow_7 rfl 0 rfl ?_
    refine gX7_gapSum 8 C kw_812 dX7_meanNow_8 ?_
    refine x_aload_n 11 C dX7_meanNow_11 rfl 0 rfl ?_
    refine gX7_canMany 12 C kw_811 dX7_meanNow_12 ?_
    refine x_i2l 15 C dX7_meanNow_15 ?_
    refine x_iload_n 16 C dX7_meanNow_16 rfl 1 rfl ?_
    obtain ⟨z2, hz2, h⟩ := xbind_some h
    refine x_callS 17 C 3 (As := [.long z1.2.2, .long (((z1.2.1 0 25)).toInt64), .int x1]) (rest := []) (M_X7_lowest l D a b z1.2 z1.2.2 (((z1.2.1 0 25)).toInt64) x1  hz2) kw_1079 ms_X7_lowest mh_X7_lowest ⟨rfl, rfl⟩ ⟨Nat.le_of_ble_eq_true rfl, Nat.le_of_ble_eq_true rfl⟩ rfl rfl (Nat.le_of_ble_eq_true rfl) dX7_meanNow_17 ?_
    refine x_goto 20 C 28 dX7_meanNow_20 rfl ?_
    exact x_lret 28 C dX7_meanNow_28 (Prod.mk.inj (Option.some.inj h)).1 (Prod.mk.inj (Option.some.inj h)).2
/-! GraveOrderModel.mean (I)J -/
def F_X7_mean (S0 : XSr) (x1 : Int32) : (Option (Int64 × XSr)) :=
  (if (F_X7_in x1 0 1) = 0 then (some ((F_X7_no (-2)), S0)) else ((F_X7_meanNow S0 x1).bind fun z1 => (some (z1.1, z1.2))))
abbrev rm_X7_mean : Room := { frames := 6, cells := 0, slots := 0, locals := 131 }
set_option maxRecDepth 100000 in
set_option maxHeartbeats 4000000 in
theorem M_X7_mean (l : Launch) (D : va_G) (a : Nat → Nat) (b : Nat → ClassId) (S0 : XSr) (x1 : Int32)  {r9 : Int64} {S9 : XSr} (h : F_X7_mean S0 x1 = some (r9, S9)) : xM l (ωR D a b) yX7_mean cX7_mean 2 (some .long) rm_X7_mean [.ref (a 0), .int x1] S0 (some (.long r9), S9) := by
  unfold F_X7_mean at h
  refine xM_of (own := "GraveOrderModel") (by decide) rfl (Nat.le_of_ble_eq_true rfl) (fun Γ C => ?_)
  refine x_sub 0 [0, 1] (lv' := [(0, .ref (a 0)), (1, .int x1)]) rfl ?_
  refine x_iload_n 0 C dX7_mean_0 rfl 1 rfl ?_
  refine x_iconst 1 C dX7_mean_1 ci_0 ?_
  refine x_iconst 2 C dX7_mean_2 ci_1 ?_
  refine x_callS 3 C 3 (As := [.int x1, .int 0, .int 1]) (rest := []) (M_X7_in l (ωR D a b) S0 x1 0 1) kw_911 ms_X7_in mh_X7_in ⟨rfl, rfl⟩ ⟨Nat.le_of_ble_eq_true rfl, Nat.le_of_ble_eq_true rfl⟩ rfl rfl (Nat.le_of_ble_eq_true rfl) dX7_mean_3 ?_
  refine x_if_eq 6 C 17 dX7_mean_6 rfl h (fun h => ?_) (fun h => ?_)
  · refine x_bipush 17 C dX7_mean_17 cb_m2 ?_
    refine x_callS 19 C 1 (As := [.int (-2)]) (rest := []) (M_X7_no l (ωR D a b) S0 (-2)) kw_1082 ms_X7_no mh_X7_no ⟨rfl, rfl⟩ ⟨Nat.le_of_ble_eq_true rfl, Nat.le_of_ble_eq_true rfl⟩ rfl rfl (Nat.le_of_ble_eq_true rfl) dX7_mean_19 ?_
    exact x_lret 22 C dX7_mean_22 (Prod.mk.inj (Option.some.inj h)).1 (Prod.mk.inj (Option.some.inj h)).2
  · refine x_aload_n 9 C dX7_mean_9 rfl 0 rfl ?_
    refine x_iload_n 10 C dX7_mean_10 rfl 1 rfl ?_
    obtain ⟨z1, hz1, h⟩ := xbind_some h
    refine x_callV 11 C (q0 := 0) (ci := 7) 1 (As := [.int x1]) (rest := []) (M_X7_meanNow l D a b S0 x1  hz1) (by rfl) rfl kw_1075 mv_X7_meanNow mh_X7_meanNow ⟨rfl, rfl⟩ ⟨Nat.le_of_ble_eq_true rfl, Nat.le_of_ble_eq_true rfl⟩ rfl rfl (Nat.le_of_ble_eq_true rfl) dX7_mean_11 ?_
    refine x_goto 14 C 22 dX7_mean_14 rfl ?_
    exact x_lret 22 C dX7_mean_22 (Prod.mk.inj (Option.some.inj h)).1 (Prod.mk.inj (Option.some.inj h)).2
/-! GraveOrderModel.leftNow ()I -/
def F_X7_leftNow (S0 : XSr)  : (Option (Int32 × XSr)) :=
  ((F_X7_areAny S0).bind fun z1 => (if z1.1 = 0 then (some ((-3), z1.2)) else (some ((z1.2.1 0 31), z1.2))))
abbrev rm_X7_leftNow : Room := { frames := 5, cells := 0, slots := 0, locals := 110 }
set_option maxRecDepth 100000 in
set_option maxHeartbeats 4000000 in
theorem M_X7_leftNow (l : Launch) (D : va_G) (a : Nat → Nat) (b : Nat → ClassId) (S0 : XSr)   {r9 : Int32} {S9 : XSr} (h : F_X7_leftNow S0 = some (r9, S9)) : xM l (ωR D a b) yX7_leftNow cX7_leftNow 1 (some .int) rm_X7_leftNow [.ref (a 0)] S0 (some (.int r9), S9) := by
  unfold F_X7_leftNow at h
  refine xM_of (own := "GraveOrderModel") (by decide) rfl (Nat.le_of_ble_eq_true rfl) (fun Γ C => ?_)
  refine x_sub 0 [0] (lv' := [(0, .ref (a 0))]) rfl ?_
  refine x_aload_n 0 C dX7_leftNow_0 rfl 0 rfl ?_
  obtain ⟨z1, hz1, h⟩ := xbind_some h
  refine x_callV 1 C (q0 := 0) (ci := 7) 0 (As := []) (rest := []) (M_X7_areAny l D a b S0   hz1) (by rfl) rfl kw_1015 mv_X7_areAny mh_X7_areAny ⟨rfl, rfl⟩ ⟨Nat.le_of_ble_eq_true rfl, Nat.le_of_ble_eq_true rfl⟩ rfl rfl (Nat.le_of_ble_eq_true rfl) dX7_leftNow_1 ?_
  refine x_if_eq 4 C 14 dX7_leftNow_4 rfl h (fun h => ?_) (fun h => ?_)
  · refine x_bipush 14 C dX7_leftNow_14 cb_m3 ?_
    exact x_iret 16 C dX7_leftNow_16 (Prod.mk.inj (Option.some.inj h)).1 (Prod.mk.inj (Option.some.inj h)).2
  · refine x_aload_n 7 C dX7_leftNow_7 rfl 0 rfl ?_
    refine gX7_out 8 C kw_817 dX7_leftNow_8 ?_
    refine x_goto 11 C 16 dX7_leftNow_11 rfl ?_
    exact x_iret 16 C dX7_leftNow_16 (Prod.mk.inj (Option.some.inj h)).1 (Prod.mk.inj (Option.some.inj h)).2
/-! GraveOrderModel.leftOut ()I -/
def F_X7_leftOut (S0 : XSr)  : (Option (Int32 × XSr)) :=
  ((F_X7_leftNow S0).bind fun z1 => (some (z1.1, z1.2)))
abbrev rm_X7_leftOut : Room := { frames := 6, cells := 0, slots := 0, locals := 130 }
set_option maxRecDepth 100000 in
set_option maxHeartbeats 4000000 in
theorem M_X7_leftOut (l : Launch) (D : va_G) (a : Nat → Nat) (b : Nat → ClassId) (S0 : XSr)   {r9 : Int32} {S9 : XSr} (h : F_X7_leftOut S0 = some (r9, S9)) : xM l (ωR D a b) yX7_leftOut cX7_leftOut 1 (some .int) rm_X7_leftOut [.ref (a 0)] S0 (some (.int r9), S9) := by
  unfold F_X7_leftOut at h
  refine xM_of (own := "GraveOrderModel") (by decide) rfl (Nat.le_of_ble_eq_true rfl) (fun Γ C => ?_)
  refine x_sub 0 [0] (lv' := [(0, .ref (a 0))]) rfl ?_
  refine x_aload_n 0 C dX7_leftOut_0 rfl 0 rfl ?_
  obtain ⟨z1, hz1, h⟩ := xbind_some h
  refine x_callV 1 C (q0 := 0) (ci := 7) 0 (As := []) (rest := []) (M_X7_leftNow l D a b S0   hz1) (by rfl) rfl kw_1090 mv_X7_leftNow mh_X7_leftNow ⟨rfl, rfl⟩ ⟨Nat.le_of_ble_eq_true rfl, Nat.le_of_ble_eq_true rfl⟩ rfl rfl (Nat.le_of_ble_eq_true rfl) dX7_leftOut_1 ?_
  exact x_iret 4 C dX7_leftOut_4 (Prod.mk.inj (Option.some.inj h)).1 (Prod.mk.inj (Option.some.inj h)).2
/-! GraveOrderModel.mendedNow (I)I -/
def B_X7_mendedNow_14 (S0 : XSr) (c1 : Int32) (kx : Int32 → Option (Int32 × XSr)) (rc : (Int32 × Int32) → Option (Int32 × XSr)) (y2 : Int32) (y3 : Int32) : Option (Int32 × XSr) :=
  (if (S0.1 0 0) ≤ y3 then kx y2 else (if xin y3 8 = true then (if xin (S0.1 17 (xti y3)) 8 = true then (if (F_X7_is (S0.1 14 (xti (S0.1 17 (xti y3)))) c1) = 0 then (xlet (y2 + (0 : Int32)) fun v2_4 => (xlet (y3 + 1) fun v3_5 => rc (v2_4, v3_5))) else (xlet (y2 + (1 : Int32)) fun v2_6 => (xlet (y3 + 1) fun v3_7 => rc (v2_6, v3_7)))) else none) else none))
def B_X7_mendedNow_81 (S0 : XSr) (c1 : Int32) (c2 : Int32) (c4 : Int32) (kx : Int32 → Option (Int32 × XSr)) (rc : (Int32 × Int32 × Int32 × Int32 × Int32) → Option (Int32 × XSr)) (y3 : Int32) (y5 : Int32) (y6 : Int32) (y7 : Int32) (y8 : Int32) : Option (Int32 × XSr) :=
  (if (S0.1 0 0) ≤ y8 then kx y3 else (if xin c4 8 = true then (if xin (S0.1 17 (xti c4)) 8 = true then (if (F_X7_is (S0.1 14 (xti (S0.1 17 (xti c4)))) c1) = 0 then kx y3 else (if xin y8 8 = true then (if xin (S0.1 17 (xti y8)) 8 = true then (if (F_X7_is (S0.1 14 (xti (S0.1 17 (xti y8)))) c1) = 0 then (if xin y8 8 = true then (if (F_X7_is (S0.1 0 3) (S0.1 17 (xti y8))) = 0 then (xlet (y7 + (1 : Int32)) fun v7_14 => (xlet (y8 + 1) fun v8_15 => rc (y3, y5, y6, v7_14, v8_15))) else (xlet (y7 + (0 : Int32)) fun v7_16 => (xlet (y8 + 1) fun v8_17 => rc (y3, y5, y6, v7_16, v8_17)))) else none) else (xlet (y5 + 1) fun v5_18 => (xlet (y6 + y7) fun v6_19 => (if y3 ≤ ((c2 - v5_18) + v6_19) then (xlet (y8 + 1) fun v8_20 => rc (y3, v5_18, v6_19, 0, v8_20)) else (xlet ((c2 - v5_18) + v6_19) fun v3_21 => (xlet (y8 + 1) fun v8_22 => rc (v3_21, v5_18, v6_19, 0, v8_22))))))) else none) else none)) else none) else none))
def B_X7_mendedNow_59 (S0 : XSr) (c1 : Int32) (c2 : Int32) (kx : Int32 → Option (Int32 × XSr)) (rc : (Int32 × Int32) → Option (Int32 × XSr)) (y3 : Int32) (y4 : Int32) : Option (Int32 × XSr) :=
  (if (S0.1 0 0) ≤ y4 then kx y3 else (xlp (fun k rc t => B_X7_mendedNow_81 S0  c1 c2 y4 k rc t.1 t.2.1 t.2.2.1 t.2.2.2.1 t.2.2.2.2) (fun e23 => (xlet (y4 + 1) fun v4_24 => rc (e23, v4_24))) XFU (y3, 0, 0, 0, y4)))
def F_X7_mendedNow (S0 : XSr) (x1 : Int32) : (Option (Int32 × XSr)) :=
  ((F_X7_areAny S0).bind fun z1 => (if z1.1 = 0 then (some ((-3), z1.2)) else (xlp (fun k rc t => B_X7_mendedNow_14 z1.2  x1 k rc t.1 t.2) (fun e8 => (xlp (fun k rc t => B_X7_mendedNow_59 z1.2  x1 e8 k rc t.1 t.2) (fun e25 => (some (e25, z1.2))) XFU (e8, 0))) XFU (0, 0))))
abbrev rm_X7_mendedNow : Room := { frames := 5, cells := 0, slots := 0, locals := 110 }
set_option maxRecDepth 100000 in
set_option maxHeartbeats 4000000 in
theorem w_X7_mendedNow_14 (l : Launch) (D : va_G) (a : Nat → Nat) (b : Nat → ClassId) (S0 : XSr) {Γ : XG XSr} {r9 : Int32} {S9 : XSr} (C : Cx (ωR D a b) Γ cX7_mendedNow "GraveOrderModel" (some .int) l rm_X7_mendedNow 9 (some (.int r9), S9)) (c1 : Int32)  (kx : Int32 → Option (Int32 × XSr)) (rc : (Int32 × Int32) → Option (Int32 × XSr)) (hk : ∀ e, kx e = some (r9, S9) → XAt (ωR D a b) Γ 54 [(0, .ref (a 0)), (1, .int c1), (2, .int e)] [] S0) (ih : ∀ t, rc t = some (r9, S9) → XAt (ωR D a b) Γ 14 [(0, .ref (a 0)), (1, .int c1), (2, .int t.1), (3, .int t.2)] [] S0) (y2 : Int32) (y3 : Int32) (h : B_X7_mendedNow_14 S0  c1 kx rc y2 y3 = some (r9, S9)) : XAt (ωR D a b) Γ 14 [(0, .ref (a 0)), (1, .int c1), (2, .int y2), (3, .int y3)] [] S0 := by
  unfold B_X7_mendedNow_14 at h
  refine x_iload_n 14 C dX7_mendedNow_14 rfl 3 rfl ?_
  refine x_aload_n 15 C dX7_mendedNow_15 rfl 0 rfl ?_
  refine gX7_graves 16 C kw_786 dX7_mendedNow_16 ?_
  refine x_icmp_ge 19 C 54 dX7_mendedNow_19 rfl h (fun h => ?_) (fun h => ?_)
  · exact x_sub 54 [0, 1, 2] rfl (hk _ h)
  · refine x_iload_n 22 C dX7_mendedNow_22 rfl 2 rfl ?_
    refine x_aload_n 23 C dX7_mendedNow_23 rfl 0 rfl ?_
    refine gX7_have 24 C kw_807 dX7_mendedNow_24 ?_
    refine x_aload_n 27 C dX7_mendedNow_27 rfl 0 rfl ?_
    refine gX7_firstOrder 28 C kw_814 dX7_mendedNow_28 ?_
    refine x_iload_n 31 C dX7_mendedNow_31 rfl 3 rfl ?_
    obtain ⟨hg2, h⟩ := xif_some h
    refine r_iald17 32 C hg2 dX7_mendedNow_32 ?_
    obtain ⟨hg3, h⟩ := xif_some h
    refine r_iald14 33 C hg3 dX7_mendedNow_33 ?_
    refine x_iload_n 34 C dX7_mendedNow_34 rfl 1 rfl ?_
    refine x_callS 35 C 2 (As := [.int (S0.1 14 (xti (S0.1 17 (xti y3)))), .int c1]) (rest := [.int y2]) (M_X7_is l (ωR D a b) S0 (S0.1 14 (xti (S0.1 17 (xti y3)))) c1) kw_992 ms_X7_is mh_X7_is ⟨rfl, rfl⟩ ⟨Nat.le_of_ble_eq_true rfl, Nat.le_of_ble_eq_true rfl⟩ rfl rfl (Nat.le_of_ble_eq_true rfl) dX7_mendedNow_35 ?_
    refine x_if_eq 38 C 45 dX7_mendedNow_38 rfl h (fun h => ?_) (fun h => ?_)
    · refine x_iconst 45 C dX7_mendedNow_45 ci_0 ?_
      refine x_iadd 46 C dX7_mendedNow_46 ?_
      refine x_top h (fun v2_4 h => ?_)
      refine x_istore_n 47 C (lv' := [(0, .ref (a 0)), (1, .int c1), (2, .int v2_4), (3, .int y3)]) dX7_mendedNow_47 rfl (Nat.le_of_ble_eq_true rfl) [1, 2, 0, 3] rfl ?_
      refine x_iinc 48 C (L := fun v3_5 => [(0, .ref (a 0)), (1, .int c1), (2, .int v2_4), (3, .int v3_5)]) dX7_mendedNow_48 3 rfl ci_1 (Nat.le_of_ble_eq_true rfl) [1, 2, 3, 0] (fun _ => rfl) h (fun v3_5 h => ?_)
      refine x_goto 51 C 14 dX7_mendedNow_51 rfl ?_
      exact ih _ h
    · refine x_iconst 41 C dX7_mendedNow_41 ci_1 ?_
      refine x_goto 42 C 46 dX7_mendedNow_42 rfl ?_
      refine x_iadd 46 C dX7_mendedNow_46 ?_
      refine x_top h (fun v2_6 h => ?_)
      refine x_istore_n 47 C (lv' := [(0, .ref (a 0)), (1, .int c1), (2, .int v2_6), (3, .int y3)]) dX7_mendedNow_47 rfl (Nat.le_of_ble_eq_true rfl) [1, 2, 0, 3] rfl ?_
      refine x_iinc 48 C (L := fun v3_7 => [(0, .ref (a 0)), (1, .int c1), (2, .int v2_6), (3, .int v3_7)]) dX7_mendedNow_48 3 rfl ci_1 (Nat.le_of_ble_eq_true rfl) [1, 2, 3, 0] (fun _ => rfl) h (fun v3_7 h => ?_)
      refine x_goto 51 C 14 dX7_mendedNow_51 rfl ?_
      exact ih _ h
set_option maxRecDepth 100000 in
set_option maxHeartbeats 4000000 in
theorem w_X7_mendedNow_81 (l : Launch) (D : va_G) (a : Nat → Nat) (b : Nat → ClassId) (S0 : XSr) {Γ : XG XSr} {r9 : Int32} {S9 : XSr} (C : Cx (ωR D a b) Γ cX7_mendedNow "GraveOrderModel" (some .int) l rm_X7_mendedNow 9 (some (.int r9), S9)) (c1 : Int32) (c2 : Int32) (c4 : Int32)  (kx : Int32 → Option (Int32 × XSr)) (rc : (Int32 × Int32 × Int32 × Int32 × Int32) → Option (Int32 × XSr)) (hk : ∀ e, kx e = some (r9, S9) → XAt (ωR D a b) Γ 200 [(0, .ref (a 0)), (1, .int c1), (2, .int c2), (3, .int e), (4, .int c4)] [] S0) (ih : ∀ t, rc t = some (r9, S9) → XAt (ωR D a b) Γ 81 [(0, .ref (a 0)), (1, .int c1), (2, .int c2), (3, .int t.1), (4, .int c4), (5, .int t.2.1), (6, .int t.2.2.1), (7, .int t.2.2.2.1), (8, .int t.2.2.2.2)] [] S0) (y3 : Int32) (y5 : Int32) (y6 : Int32) (y7 : Int32) (y8 : Int32) (h : B_X7_mendedNow_81 S0  c1 c2 c4 kx rc y3 y5 y6 y7 y8 = some (r9, S9)) : XAt (ωR D a b) Γ 81 [(0, .ref (a 0)), (1, .int c1), (2, .int c2), (3, .int y3), (4, .int c4), (5, .int y5), (6, .int y6), (7, .int y7), (8, .int y8)] [] S0 := by
  unfold B_X7_mendedNow_81 at h
  refine x_iload 81 C dX7_mendedNow_81 8 rfl ?_
  refine x_aload_n 83 C dX7_mendedNow_83 rfl 0 rfl ?_
  refine gX7_graves 84 C kw_786 dX7_mendedNow_84 ?_
  refine x_icmp_ge 87 C 200 dX7_mendedNow_87 rfl h (fun h => ?_) (fun h => ?_)
  · exact x_sub 200 [0, 1, 2, 3, 4] rfl (hk _ h)
  · refine x_aload_n 90 C dX7_mendedNow_90 rfl 0 rfl ?_
    refine gX7_have 91 C kw_807 dX7_mendedNow_91 ?_
    refine x_aload_n 94 C dX7_mendedNow_94 rfl 0 rfl ?_
    refine gX7_firstOrder 95 C kw_814 dX7_mendedNow_95 ?_
    refine x_iload 98 C dX7_mendedNow_98 4 rfl ?_
    obtain ⟨hg9, h⟩ := xif_some h
    refine r_iald17 100 C hg9 dX7_mendedNow_100 ?_
    obtain ⟨hg10, h⟩ := xif_some h
    refine r_iald14 101 C hg10 dX7_mendedNow_101 ?_
    refine x_iload_n 102 C dX7_mendedNow_102 rfl 1 rfl ?_
    refine x_callS 103 C 2 (As := [.int (S0.1 14 (xti (S0.1 17 (xti c4)))), .int c1]) (rest := []) (M_X7_is l (ωR D a b) S0 (S0.1 14 (xti (S0.1 17 (xti c4)))) c1) kw_992 ms_X7_is mh_X7_is ⟨rfl, rfl⟩ ⟨Nat.le_of_ble_eq_true rfl, Nat.le_of_ble_eq_true rfl⟩ rfl rfl (Nat.le_of_ble_eq_true rfl) dX7_mendedNow_103 ?_
    refine x_if_eq 106 C 200 dX7_mendedNow_106 rfl h (fun h => ?_) (fun h => ?_)
    · exact x_sub 200 [0, 1, 2, 3, 4] rfl (hk _ h)
    · refine x_aload_n 109 C dX7_mendedNow_109 rfl 0 rfl ?_
      refine gX7_have 110 C kw_807 dX7_mendedNow_110 ?_
      refine x_aload_n 113 C dX7_mendedNow_113 rfl 0 rfl ?_
      refine gX7_firstOrder 114 C kw_814 dX7_mendedNow_114 ?_
      refine x_iload 117 C dX7_mendedNow_117 8 rfl ?_
      obtain ⟨hg11, h⟩ := xif_some h
      refine r_iald17 119 C hg11 dX7_mendedNow_119 ?_
      obtain ⟨hg12, h⟩ := xif_some h
      refine r_iald14 120 C hg12 dX7_mendedNow_120 ?_
      refine x_iload_n 121 C dX7_mendedNow_121 rfl 1 rfl ?_
      refine x_callS 122 C 2 (As := [.int (S0.1 14 (xti (S0.1 17 (xti y8)))), .int c1]) (rest := []) (M_X7_is l (ωR D a b) S0 (S0.1 14 (xti (S0.1 17 (xti y8)))) c1) kw_992 ms_X7_is mh_X7_is ⟨rfl, rfl⟩ ⟨Nat.le_of_ble_eq_true rfl, Nat.le_of_ble_eq_true rfl⟩ rfl rfl (Nat.le_of_ble_eq_true rfl) dX7_mendedNow_122 ?_
      refine x_if_eq 125 C 167 dX7_mendedNow_125 rfl h (fun h => ?_) (fun h => ?_)
      · refine x_iload 167 C dX7_mendedNow_167 7 rfl ?_
        refine x_aload_n 169 C dX7_mendedNow_169 rfl 0 rfl ?_
        refine gX7_robbers 170 C kw_789 dX7_mendedNow_170 ?_
        refine x_aload_n 173 C dX7_mendedNow_173 rfl 0 rfl ?_
        refine gX7_firstOrder 174 C kw_814 dX7_mendedNow_174 ?_
        refine x_iload 177 C dX7_mendedNow_177 8 rfl ?_
        obtain ⟨hg13, h⟩ := xif_some h
        refine r_iald17 179 C hg13 dX7_mendedNow_179 ?_
        refine x_callS 180 C 2 (As := [.int (S0.1 0 3), .int (S0.1 17 (xti y8))]) (rest := [.int y7]) (M_X7_is l (ωR D a b) S0 (S0.1 0 3) (S0.1 17 (xti y8))) kw_992 ms_X7_is mh_X7_is ⟨rfl, rfl⟩ ⟨Nat.le_of_ble_eq_true rfl, Nat.le_of_ble_eq_true rfl⟩ rfl rfl (Nat.le_of_ble_eq_true rfl) dX7_mendedNow_180 ?_
        refine x_if_eq 183 C 190 dX7_mendedNow_183 rfl h (fun h => ?_) (fun h => ?_)
        · refine x_iconst 190 C dX7_mendedNow_190 ci_1 ?_
          refine x_iadd 191 C dX7_mendedNow_191 ?_
          refine x_top h (fun v7_14 h => ?_)
          refine x_istore 192 C (lv' := [(0, .ref (a 0)), (1, .int c1), (2, .int c2), (3, .int y3), (4, .int c4), (5, .int y5), (6, .int y6), (7, .int v7_14), (8, .int y8)]) dX7_mendedNow_192 (Nat.le_of_ble_eq_true rfl) [1, 2, 3, 4, 5, 6, 7, 0, 8] rfl ?_
          refine x_iinc 194 C (L := fun v8_15 => [(0, .ref (a 0)), (1, .int c1), (2, .int c2), (3, .int y3), (4, .int c4), (5, .int y5), (6, .int y6), (7, .int v7_14), (8, .int v8_15)]) dX7_mendedNow_194 8 rfl ci_1 (Nat.le_of_ble_eq_true rfl) [1, 2, 3, 4, 5, 6, 7, 8, 0] (fun _ => rfl) h (fun v8_15 h => ?_)
          refine x_goto 197 C 81 dX7_mendedNow_197 rfl ?_
          exact ih _ h
        · refine x_iconst 186 C dX7_mendedNow_186 ci_0 ?_
          refine x_goto 187 C 191 dX7_mendedNow_187 rfl ?_
          refine x_iadd 191 C dX7_mendedNow_191 ?_
          refine x_top h (fun v7_16 h => ?_)
          refine x_istore 192 C (lv' := [(0, .ref (a 0)), (1, .int c1), (2, .int c2), (3, .int y3), (4, .int c4), (5, .int y5), (6, .int y6), (7, .int v7_16), (8, .int y8)]) dX7_mendedNow_192 (Nat.le_of_ble_eq_true rfl) [1, 2, 3, 4, 5, 6, 7, 0, 8] rfl ?_
          refine x_iinc 194 C (L := fun v8_17 => [(0, .ref (a 0)), (1, .int c1), (2, .int c2), (3, .int y3), (4, .int c4), (5, .int y5), (6, .int y6), (7, .int v7_16), (8, .int v8_17)]) dX7_mendedNow_194 8 rfl ci_1 (Nat.le_of_ble_eq_true rfl) [1, 2, 3, 4, 5, 6, 7, 8, 0] (fun _ => rfl) h (fun v8_17 h => ?_)
          refine x_goto 197 C 81 dX7_mendedNow_197 rfl ?_
          exact ih _ h
      · refine x_iinc 128 C (L := fun v5_18 => [(0, .ref (a 0)), (1, .int c1), (2, .int c2), (3, .int y3), (4, .int c4), (5, .int v5_18), (6, .int y6), (7, .int y7), (8, .int y8)]) dX7_mendedNow_128 5 rfl ci_1 (Nat.le_of_ble_eq_true rfl) [1, 2, 3, 4, 5, 0, 6, 7, 8] (fun _ => rfl) h (fun v5_18 h => ?_)
        refine x_iload 131 C dX7_mendedNow_131 6 rfl ?_
        refine x_iload 133 C dX7_mendedNow_133 7 rfl ?_
        refine x_iadd 135 C dX7_mendedNow_135 ?_
        refine x_top h (fun v6_19 h => ?_)
        refine x_istore 136 C (lv' := [(0, .ref (a 0)), (1, .int c1), (2, .int c2), (3, .int y3), (4, .int c4), (5, .int v5_18), (6, .int v6_19), (8, .int y8)]) dX7_mendedNow_136 (Nat.le_of_ble_eq_true rfl) [1, 2, 3, 4, 5, 6, 0, 8] rfl ?_
        refine x_iconst 138 C dX7_mendedNow_138 ci_0 ?_
        refine x_istore 139 C (lv' := [(0, .ref (a 0)), (1, .int c1), (2, .int c2), (3, .int y3), (4, .int c4), (5, .int v5_18), (6, .int v6_19), (7, .int 0), (8, .int y8)]) dX7_mendedNow_139 (Nat.le_of_ble_eq_true rfl) [1, 2, 3, 4, 5, 6, 7, 0, 8] rfl ?_
        refine x_iload_n 141 C dX7_mendedNow_141 rfl 2 rfl ?_
        refine x_iload 142 C dX7_mendedNow_142 5 rfl ?_
        refine x_isub 144 C dX7_mendedNow_144 ?_
        refine x_iload 145 C dX7_mendedNow_145 6 rfl ?_
        refine x_iadd 147 C dX7_mendedNow_147 ?_
        refine x_iload_n 148 C dX7_mendedNow_148 rfl 3 rfl ?_
        refine x_icmp_ge 149 C 162 dX7_mendedNow_149 rfl h (fun h => ?_) (fun h => ?_)
        · refine x_iload_n 162 C dX7_mendedNow_162 rfl 3 rfl ?_
          refine x_istore_n 163 C (lv' := [(0, .ref (a 0)), (1, .int c1), (2, .int c2), (3, .int y3), (4, .int c4), (5, .int v5_18), (6, .int v6_19), (7, .int 0), (8, .int y8)]) dX7_mendedNow_163 rfl (Nat.le_of_ble_eq_true rfl) [1, 2, 3, 0, 4, 5, 6, 7, 8] rfl ?_
          refine x_goto 164 C 194 dX7_mendedNow_164 rfl ?_
          refine x_iinc 194 C (L := fun v8_20 => [(0, .ref (a 0)), (1, .int c1), (2, .int c2), (3, .int y3), (4, .int c4), (5, .int v5_18), (6, .int v6_19), (7, .int 0), (8, .int v8_20)]) dX7_mendedNow_194 8 rfl ci_1 (Nat.le_of_ble_eq_true rfl) [1, 2, 3, 4, 5, 6, 7, 8, 0] (fun _ => rfl) h (fun v8_20 h => ?_)
          refine x_goto 197 C 81 dX7_mendedNow_197 rfl ?_
          exact ih _ h
        · refine x_iload_n 152 C dX7_mendedNow_152 rfl 2 rfl ?_
          refine x_iload 153 C dX7_mendedNow_153 5 rfl ?_
          refine x_isub 155 C dX7_mendedNow_155 ?_
          refine x_iload 156 C dX7_mendedNow_156 6 rfl ?_
          refine x_iadd 158 C dX7_mendedNow_158 ?_
          refine x_goto 159 C 163 dX7_mendedNow_159 rfl ?_
          refine x_top h (fun v3_21 h => ?_)
          refine x_istore_n 163 C (lv' := [(0, .ref (a 0)), (1, .int c1), (2, .int c2), (3, .int v3_21), (4, .int c4), (5, .int v5_18), (6, .int v6_19), (7, .int 0), (8, .int y8)]) dX7_mendedNow_163 rfl (Nat.le_of_ble_eq_true rfl) [1, 2, 3, 0, 4, 5, 6, 7, 8] rfl ?_
          refine x_goto 164 C 194 dX7_mendedNow_164 rfl ?_
          refine x_iinc 194 C (L := fun v8_22 => [(0, .ref (a 0)), (1, .int c1), (2, .int c2), (3, .int v3_21), (4, .int c4), (5, .int v5_18), (6, .int v6_19), (7, .int 0), (8, .int v8_22)]) dX7_mendedNow_194 8 rfl ci_1 (Nat.le_of_ble_eq_true rfl) [1, 2, 3, 4, 5, 6, 7, 8, 0] (fun _ => rfl) h (fun v8_22 h => ?_)
          refine x_goto 197 C 81 dX7_mendedNow_197 rfl ?_
          exact ih _ h
set_option maxRecDepth 100000 in
set_option maxHeartbeats 4000000 in
theorem w_X7_mendedNow_59 (l : Launch) (D : va_G) (a : Nat → Nat) (b : Nat → ClassId) (S0 : XSr) {Γ : XG XSr} {r9 : Int32} {S9 : XSr} (C : Cx (ωR D a b) Γ cX7_mendedNow "GraveOrderModel" (some .int) l rm_X7_mendedNow 9 (some (.int r9), S9)) (c1 : Int32) (c2 : Int32)  (kx : Int32 → Option (Int32 × XSr)) (rc : (Int32 × Int32) → Option (Int32 × XSr)) (hk : ∀ e, kx e = some (r9, S9) → XAt (ωR D a b) Γ 206 [(3, .int e)] [] S0) (ih : ∀ t, rc t = some (r9, S9) → XAt (ωR D a b) Γ 59 [(0, .ref (a 0)), (1, .int c1), (2, .int c2), (3, .int t.1), (4, .int t.2)] [] S0) (y3 : Int32) (y4 : Int32) (h : B_X7_mendedNow_59 S0  c1 c2 kx rc y3 y4 = some (r9, S9)) : XAt (ωR D a b) Γ 59 [(0, .ref (a 0)), (1, .int c1), (2, .int c2), (3, .int y3), (4, .int y4)] [] S0 := by
  unfold B_X7_mendedNow_59 at h
  refine x_iload 59 C dX7_mendedNow_59 4 rfl ?_
  refine x_aload_n 61 C dX7_mendedNow_61 rfl 0 rfl ?_
  refine gX7_graves 62 C kw_786 dX7_mendedNow_62 ?_
  refine x_icmp_ge 65 C 206 dX7_mendedNow_65 rfl h (fun h => ?_) (fun h => ?_)
  · exact x_sub 206 [3] rfl (hk _ h)
  · refine x_iconst 68 C dX7_mendedNow_68 ci_0 ?_
    refine x_istore 69 C (lv' := [(0, .ref (a 0)), (1, .int c1), (2, .int c2), (3, .int y3), (4, .int y4), (5, .int 0)]) dX7_mendedNow_69 (Nat.le_of_ble_eq_true rfl) [1, 2, 3, 4, 5, 0] rfl ?_
    refine x_iconst 71 C dX7_mendedNow_71 ci_0 ?_
    refine x_istore 72 C (lv' := [(0, .ref (a 0)), (1, .int c1), (2, .int c2), (3, .int y3), (4, .int y4), (5, .int 0), (6, .int 0)]) dX7_mendedNow_72 (Nat.le_of_ble_eq_true rfl) [1, 2, 3, 4, 5, 6, 0] rfl ?_
    refine x_iconst 74 C dX7_mendedNow_74 ci_0 ?_
    refine x_istore 75 C (lv' := [(0, .ref (a 0)), (1, .int c1), (2, .int c2), (3, .int y3), (4, .int y4), (5, .int 0), (6, .int 0), (7, .int 0)]) dX7_mendedNow_75 (Nat.le_of_ble_eq_true rfl) [1, 2, 3, 4, 5, 6, 7, 0] rfl ?_
    refine x_iload 77 C dX7_mendedNow_77 4 rfl ?_
    refine x_istore 79 C (lv' := [(0, .ref (a 0)), (1, .int c1), (2, .int c2), (3, .int y3), (4, .int y4), (5, .int 0), (6, .int 0), (7, .int 0), (8, .int y4)]) dX7_mendedNow_79 (Nat.le_of_ble_eq_true rfl) [1, 2, 3, 4, 5, 6, 7, 8, 0] rfl ?_
    refine x_loop (E := fun e => XAt (ωR D a b) Γ 200 [(0, .ref (a 0)), (1, .int c1), (2, .int c2), (3, .int e), (4, .int y4)] [] S0) (P := fun t => XAt (ωR D a b) Γ 81 [(0, .ref (a 0)), (1, .int c1), (2, .int c2), (3, .int t.1), (4, .int y4), (5, .int t.2.1), (6, .int t.2.2.1), (7, .int t.2.2.2.1), (8, .int t.2.2.2.2)] [] S0) h (fun e23 h => ?_) (fun kx rc t hk ih h => w_X7_mendedNow_81 l D a b S0 C   c1 c2 y4 kx rc hk ih t.1 t.2.1 t.2.2.1 t.2.2.2.1 t.2.2.2.2 h)
    refine x_iinc 200 C (L := fun v4_24 => [(0, .ref (a 0)), (1, .int c1), (2, .int c2), (3, .int e23), (4, .int v4_24)]) dX7_mendedNow_200 4 rfl ci_1 (Nat.le_of_ble_eq_true rfl) [1, 2, 3, 4, 0] (fun _ => rfl) h (fun v4_24 h => ?_)
    refine x_goto 203 C 59 dX7_mendedNow_203 rfl ?_
    exact ih _ h
set_option maxRecDepth 100000 in
set_option maxHeartbeats 4000000 in
theorem M_X7_mendedNow (l : Launch) (D : va_G) (a : Nat → Nat) (b : Nat → ClassId) (S0 : XSr) (x1 : Int32)  {r9 : Int32} {S9 : XSr} (h : F_X7_mendedNow S0 x1 = some (r9, S9)) : xM l (ωR D a b) yX7_mendedNow cX7_mendedNow 9 (some .int) rm_X7_mendedNow [.ref (a 0), .int x1] S0 (some (.int r9), S9) := by
  unfold F_X7_mendedNow at h
  refine xM_of (own := "GraveOrderModel") (by decide) rfl (Nat.le_of_ble_eq_true rfl) (fun Γ C => ?_)
  refine x_sub 0 [0, 1] (lv' := [(0, .ref (a 0)), (1, .int x1)]) rfl ?_
  refine x_aload_n 0 C dX7_mendedNow_0 rfl 0 rfl ?_
  obtain ⟨z1, hz1, h⟩ := xbind_some h
  refine x_callV 1 C (q0 := 0) (ci := 7) 0 (As := []) (rest := []) (M_X7_areAny l D a b S0   hz1) (by rfl) rfl kw_1015 mv_X7_areAny mh_X7_areAny ⟨rfl, rfl⟩ ⟨Nat.le_of_ble_eq_true rfl, Nat.le_of_ble_eq_true rfl⟩ rfl rfl (Nat.le_of_ble_eq_true rfl) dX7_mendedNow_1 ?_
  refine x_if_ne 4 C 10 dX7_mendedNow_4 rfl h (fun h => ?_) (fun h => ?_)
  · refine x_iconst 10 C dX7_mendedNow_10 ci_0 ?_
    refine x_istore_n 11 C (lv' := [(0, .ref (a 0)), (1, .int x1), (2, .int 0)]) dX7_mendedNow_11 rfl (Nat.le_of_ble_eq_true rfl) [1, 2, 0] rfl ?_
    refine x_iconst 12 C dX7_mendedNow_12 ci_0 ?_
    refine x_istore_n 13 C (lv' := [(0, .ref (a 0)), (1, .int x1), (2, .int 0), (3, .int 0)]) dX7_mendedNow_13 rfl (Nat.le_of_ble_eq_true rfl) [1, 2, 3, 0] rfl ?_
    refine x_loop (E := fun e => XAt (ωR D a b) Γ 54 [(0, .ref (a 0)), (1, .int x1), (2, .int e)] [] z1.2) (P := fun t => XAt (ωR D a b) Γ 14 [(0, .ref (a 0)), (1, .int x1), (2, .int t.1), (3, .int t.2)] [] z1.2) h (fun e8 h => ?_) (fun kx rc t hk ih h => w_X7_mendedNow_14 l D a b z1.2 C   x1 kx rc hk ih t.1 t.2 h)
    refine x_iload_n 54 C dX7_mendedNow_54 rfl 2 rfl ?_
    refine x_istore_n 55 C (lv' := [(0, .ref (a 0)), (1, .int x1), (2, .int e8), (3, .int e8)]) dX7_mendedNow_55 rfl (Nat.le_of_ble_eq_true rfl) [1, 2, 3, 0] rfl ?_
    refine x_iconst 56 C dX7_mendedNow_56 ci_0 ?_
    refine x_istore 57 C (lv' := [(0, .ref (a 0)), (1, .int x1), (2, .int e8), (3, .int e8), (4, .int 0)]) dX7_mendedNow_57 (Nat.le_of_ble_eq_true rfl) [1, 2, 3, 4, 0] rfl ?_
    refine x_loop (E := fun e => XAt (ωR D a b) Γ 206 [(3, .int e)] [] z1.2) (P := fun t => XAt (ωR D a b) Γ 59 [(0, .ref (a 0)), (1, .int x1), (2, .int e8), (3, .int t.1), (4, .int t.2)] [] z1.2) h (fun e25 h => ?_) (fun kx rc t hk ih h => w_X7_mendedNow_59 l D a b z1.2 C   x1 e8 kx rc hk ih t.1 t.2 h)
    refine x_iload_n 206 C dX7_mendedNow_206 rfl 0 rfl ?_
    exact x_iret 207 C dX7_mendedNow_207 (Prod.mk.inj (Option.some.inj h)).1 (Prod.mk.inj (Option.some.inj h)).2
  · refine x_bipush 7 C dX7_mendedNow_7 cb_m3 ?_
    exact x_iret 9 C dX7_mendedNow_9 (Prod.mk.inj (Option.some.inj h)).1 (Prod.mk.inj (Option.some.inj h)).2
/-! GraveOrderModel.mended (I)I -/
def F_X7_mended (S0 : XSr) (x1 : Int32) : (Option (Int32 × XSr)) :=
  (if (F_X7_isKind x1) = 0 then (some ((-2), S0)) else ((F_X7_mendedNow S0 x1).bind fun z1 => (some (z1.1, z1.2))))
abbrev rm_X7_mended : Room := { frames := 6, cells := 0, slots := 0, locals := 138 }
set_option maxRecDepth 100000 in
set_option maxHeartbeats 4000000 in
theorem M_X7_mended (l : Launch) (D : va_G) (a : Nat → Nat) (b : Nat → ClassId) (S0 : XSr) (x1 : Int32)  {r9 : Int32} {S9 : XSr} (h : F_X7_mended S0 x1 = some (r9, S9)) : xM l (ωR D a b) yX7_mended cX7_mended 2 (some .int) rm_X7_mended [.ref (a 0), .int x1] S0 (some (.int r9), S9) := by
  unfold F_X7_mended at h
  refine xM_of (own := "GraveOrderModel") (by decide) rfl (Nat.le_of_ble_eq_true rfl) (fun Γ C => ?_)
  refine x_sub 0 [0, 1] (lv' := [(0, .ref (a 0)), (1, .int x1)]) rfl ?_
  refine x_iload_n 0 C dX7_mended_0 rfl 1 rfl ?_
  refine x_callS 1 C 1 (As := [.int x1]) (rest := []) (M_X7_isKind l (ωR D a b) S0 x1) kw_926 ms_X7_isKind mh_X7_isKind ⟨rfl, rfl⟩ ⟨Nat.le_of_ble_eq_true rfl, Nat.le_of_ble_eq_true rfl⟩ rfl rfl (Nat.le_of_ble_eq_true rfl) dX7_mended_1 ?_
  refine x_if_eq 4 C 15 dX7_mended_4 rfl h (fun h => ?_) (fun h => ?_)
  · refine x_bipush 15 C dX7_mended_15 cb_m2 ?_
    exact x_iret 17 C dX7_mended_17 (Prod.mk.inj (Option.some.inj h)).1 (Prod.mk.inj (Option.some.inj h)).2
  · refine x_aload_n 7 C dX7_mended_7 rfl 0 rfl ?_
    refine x_iload_n 8 C dX7_mended_8 rfl 1 rfl ?_
    obtain ⟨z1, hz1, h⟩ := xbind_some h
    refine x_callV 9 C (q0 := 0) (ci := 7) 1 (As := [.int x1]) (rest := []) (M_X7_mendedNow l D a b S0 x1  hz1) (by rfl) rfl kw_1098 mv_X7_mendedNow mh_X7_mendedNow ⟨rfl, rfl⟩ ⟨Nat.le_of_ble_eq_true rfl, Nat.le_of_ble_eq_true rfl⟩ rfl rfl (Nat.le_of_ble_eq_true rfl) dX7_mended_9 ?_
    refine x_goto 12 C 17 dX7_mended_12 rfl ?_
    exact x_iret 17 C dX7_mended_17 (Prod.mk.inj (Option.some.inj h)).1 (Prod.mk.inj (Option.some.inj h)).2
/-! GraveOrderModel.straddles ()I -/
def B_X7_straddles_15 (S0 : XSr) (c1 : Int32) (c2 : Int32) (kx : Int32 → Option Int32) (rc : (Int32 × Int32) → Option Int32) (y3 : Int32) (y4 : Int32) : Option Int32 :=
  (if (S0.1 0 0) ≤ y4 then kx y3 else (if xin y4 8 = true then (if xin (S0.1 17 (xti y4)) 8 = true then (if (F_X7_is (S0.1 14 (xti (S0.1 17 (xti y4)))) c2) = 0 then (xlet (y3 ||| (0 : Int32)) fun v3_3 => (xlet (y4 + 1) fun v4_4 => rc (v3_3, v4_4))) else (if xin y4 8 = true then (xlet (y3 ||| ((1 : Int32) <<< ((S0.1 20 (xti y4)) &&& 31))) fun v3_6 => (xlet (y4 + 1) fun v4_7 => rc (v3_6, v4_7))) else none)) else none) else none))
def B_X7_straddles_4 (S0 : XSr)  (kx : Int32 → Option Int32) (rc : (Int32 × Int32) → Option Int32) (y1 : Int32) (y2 : Int32) : Option Int32 :=
  (if 10 ≤ y2 then kx y1 else (xlp (fun k rc t => B_X7_straddles_15 S0  y1 y2 k rc t.1 t.2) (fun e8 => (if e8 = 0 then (xlet (y1 + (0 : Int32)) fun v1_13 => (xlet (y2 + 1) fun v2_14 => rc (v1_13, v2_14))) else (if xin y2 10 = true then ((F_X7_ones S0 e8).bind fun z10 => (xlet (y1 + ((S0.1 3 (xti y2)) * (z10 - (1 : Int32)))) fun v1_11 => (xlet (y2 + 1) fun v2_12 => rc (v1_11, v2_12)))) else none))) XFU (0, 0)))
def F_X7_straddles (S0 : XSr)  : (Option Int32) :=
  (xlp (fun k rc t => B_X7_straddles_4 S0   k rc t.1 t.2) (fun e15 => (some e15)) XFU (0, 0))
abbrev rm_X7_straddles : Room := { frames := 1, cells := 0, slots := 0, locals := 22 }
set_option maxRecDepth 100000 in
set_option maxHeartbeats 4000000 in
theorem w_X7_straddles_15 (l : Launch) (D : va_G) (a : Nat → Nat) (b : Nat → ClassId) (S0 : XSr) {Γ : XG XSr} {r9 : Int32} (C : Cx (ωR D a b) Γ cX7_straddles "GraveOrderModel" (some .int) l rm_X7_straddles 5 (some (.int r9), S0)) (c1 : Int32) (c2 : Int32)  (kx : Int32 → Option Int32) (rc : (Int32 × Int32) → Option Int32) (hk : ∀ e, kx e = some r9 → XAt (ωR D a b) Γ 65 [(0, .ref (a 0)), (1, .int c1), (2, .int c2), (3, .int e)] [] S0) (ih : ∀ t, rc t = some r9 → XAt (ωR D a b) Γ 15 [(0, .ref (a 0)), (1, .int c1), (2, .int c2), (3, .int t.1), (4, .int t.2)] [] S0) (y3 : Int32) (y4 : Int32) (h : B_X7_straddles_15 S0  c1 c2 kx rc y3 y4 = some r9) : XAt (ωR D a b) Γ 15 [(0, .ref (a 0)), (1, .int c1), (2, .int c2), (3, .int y3), (4, .int y4)] [] S0 := by
  unfold B_X7_straddles_15 at h
  refine x_iload 15 C dX7_straddles_15 4 rfl ?_
  refine x_aload_n 17 C dX7_straddles_17 rfl 0 rfl ?_
  refine gX7_graves 18 C kw_786 dX7_straddles_18 ?_
  refine x_icmp_ge 21 C 65 dX7_straddles_21 rfl h (fun h => ?_) (fun h => ?_)
  · exact x_sub 65 [0, 1, 2, 3] rfl (hk _ h)
  · refine x_iload_n 24 C dX7_straddles_24 rfl 3 rfl ?_
    refine x_aload_n 25 C dX7_straddles_25 rfl 0 rfl ?_
    refine gX7_have 26 C kw_807 dX7_straddles_26 ?_
    refine x_aload_n 29 C dX7_straddles_29 rfl 0 rfl ?_
    refine gX7_firstOrder 30 C kw_814 dX7_straddles_30 ?_
    refine x_iload 33 C dX7_straddles_33 4 rfl ?_
    obtain ⟨hg1, h⟩ := xif_some h
    refine r_iald17 35 C hg1 dX7_straddles_35 ?_
    obtain ⟨hg2, h⟩ := xif_some h
    refine r_iald14 36 C hg2 dX7_straddles_36 ?_
    refine x_iload_n 37 C dX7_straddles_37 rfl 2 rfl ?_
    refine x_callS 38 C 2 (As := [.int (S0.1 14 (xti (S0.1 17 (xti y4)))), .int c2]) (rest := [.int y3]) (M_X7_is l (ωR D a b) S0 (S0.1 14 (xti (S0.1 17 (xti y4)))) c2) kw_992 ms_X7_is mh_X7_is ⟨rfl, rfl⟩ ⟨Nat.le_of_ble_eq_true rfl, Nat.le_of_ble_eq_true rfl⟩ rfl rfl (Nat.le_of_ble_eq_true rfl) dX7_straddles_38 ?_
    refine x_if_eq 41 C 56 dX7_straddles_41 rfl h (fun h => ?_) (fun h => ?_)
    · refine x_iconst 56 C dX7_straddles_56 ci_0 ?_
      refine x_ior 57 C dX7_straddles_57 ?_
      refine x_top h (fun v3_3 h => ?_)
      refine x_istore_n 58 C (lv' := [(0, .ref (a 0)), (1, .int c1), (2, .int c2), (3, .int v3_3), (4, .int y4)]) dX7_straddles_58 rfl (Nat.le_of_ble_eq_true rfl) [1, 2, 3, 0, 4] rfl ?_
      refine x_iinc 59 C (L := fun v4_4 => [(0, .ref (a 0)), (1, .int c1), (2, .int c2), (3, .int v3_3), (4, .int v4_4)]) dX7_straddles_59 4 rfl ci_1 (Nat.le_of_ble_eq_true rfl) [1, 2, 3, 4, 0] (fun _ => rfl) h (fun v4_4 h => ?_)
      refine x_goto 62 C 15 dX7_straddles_62 rfl ?_
      exact ih _ h
    · refine x_iconst 44 C dX7_straddles_44 ci_1 ?_
      refine x_aload_n 45 C dX7_straddles_45 rfl 0 rfl ?_
      refine gX7_partAt 46 C kw_818 dX7_straddles_46 ?_
      refine x_iload 49 C dX7_straddles_49 4 rfl ?_
      obtain ⟨hg5, h⟩ := xif_some h
      refine r_iald20 51 C hg5 dX7_straddles_51 ?_
      refine x_ishl 52 C dX7_straddles_52 ?_
      refine x_goto 53 C 57 dX7_straddles_53 rfl ?_
      refine x_ior 57 C dX7_straddles_57 ?_
      refine x_top h (fun v3_6 h => ?_)
      refine x_istore_n 58 C (lv' := [(0, .ref (a 0)), (1, .int c1), (2, .int c2), (3, .int v3_6), (4, .int y4)]) dX7_straddles_58 rfl (Nat.le_of_ble_eq_true rfl) [1, 2, 3, 0, 4] rfl ?_
      refine x_iinc 59 C (L := fun v4_7 => [(0, .ref (a 0)), (1, .int c1), (2, .int c2), (3, .int v3_6), (4, .int v4_7)]) dX7_straddles_59 4 rfl ci_1 (Nat.le_of_ble_eq_true rfl) [1, 2, 3, 4, 0] (fun _ => rfl) h (fun v4_7 h => ?_)
      refine x_goto 62 C 15 dX7_straddles_62 rfl ?_
      exact ih _ h
set_option maxRecDepth 100000 in
set_option maxHeartbeats 4000000 in
theorem w_X7_straddles_4 (l : Launch) (D : va_G) (a : Nat → Nat) (b : Nat → ClassId) (S0 : XSr) {Γ : XG XSr} {r9 : Int32} (C : Cx (ωR D a b) Γ cX7_straddles "GraveOrderModel" (some .int) l rm_X7_straddles 5 (some (.int r9), S0))   (kx : Int32 → Option Int32) (rc : (Int32 × Int32) → Option Int32) (hk : ∀ e, kx e = some r9 → XAt (ωR D a b) Γ 95 [(1, .int e)] [] S0) (ih : ∀ t, rc t = some r9 → XAt (ωR D a b) Γ 4 [(0, .ref (a 0)), (1, .int t.1), (2, .int t.2)] [] S0) (y1 : Int32) (y2 : Int32) (h : B_X7_straddles_4 S0   kx rc y1 y2 = some r9) : XAt (ωR D a b) Γ 4 [(0, .ref (a 0)), (1, .int y1), (2, .int y2)] [] S0 := by
  unfold B_X7_straddles_4 at h
  refine x_iload_n 4 C dX7_straddles_4 rfl 2 rfl ?_
  refine x_bipush 5 C dX7_straddles_5 cb_10 ?_
  refine x_icmp_ge 7 C 95 dX7_straddles_7 rfl h (fun h => ?_) (fun h => ?_)
  · exact x_sub 95 [1] rfl (hk _ h)
  · refine x_iconst 10 C dX7_straddles_10 ci_0 ?_
    refine x_istore_n 11 C (lv' := [(0, .ref (a 0)), (1, .int y1), (2, .int y2), (3, .int 0)]) dX7_straddles_11 rfl (Nat.le_of_ble_eq_true rfl) [1, 2, 3, 0] rfl ?_
    refine x_iconst 12 C dX7_straddles_12 ci_0 ?_
    refine x_istore 13 C (lv' := [(0, .ref (a 0)), (1, .int y1), (2, .int y2), (3, .int 0), (4, .int 0)]) dX7_straddles_13 (Nat.le_of_ble_eq_true rfl) [1, 2, 3, 4, 0] rfl ?_
    refine x_loop (E := fun e => XAt (ωR D a b) Γ 65 [(0, .ref (a 0)), (1, .int y1), (2, .int y2), (3, .int e)] [] S0) (P := fun t => XAt (ωR D a b) Γ 15 [(0, .ref (a 0)), (1, .int y1), (2, .int y2), (3, .int t.1), (4, .int t.2)] [] S0) h (fun e8 h => ?_) (fun kx rc t hk ih h => w_X7_straddles_15 l D a b S0 C   y1 y2 kx rc hk ih t.1 t.2 h)
    refine x_iload_n 65 C dX7_straddles_65 rfl 1 rfl ?_
    refine x_iload_n 66 C dX7_straddles_66 rfl 3 rfl ?_
    refine x_if_ne 67 C 74 dX7_straddles_67 rfl h (fun h => ?_) (fun h => ?_)
    · refine x_aload_n 74 C dX7_straddles_74 rfl 0 rfl ?_
      refine gX7_weights 75 C kw_790 dX7_straddles_75 ?_
      refine x_iload_n 78 C dX7_straddles_78 rfl 2 rfl ?_
      obtain ⟨hg9, h⟩ := xif_some h
      refine r_iald3 79 C hg9 dX7_straddles_79 ?_
      refine x_iload_n 80 C dX7_straddles_80 rfl 3 rfl ?_
      obtain ⟨z10, hz10, h⟩ := xbind_some h
      refine x_callS 81 C 1 (As := [.int e8]) (rest := [.int (S0.1 3 (xti y2)), .int y1]) (M_X7_ones l D a b S0 e8  hz10) kw_1032 ms_X7_ones mh_X7_ones ⟨rfl, rfl⟩ ⟨Nat.le_of_ble_eq_true rfl, Nat.le_of_ble_eq_true rfl⟩ rfl rfl (Nat.le_of_ble_eq_true rfl) dX7_straddles_81 ?_
      refine x_iconst 84 C dX7_straddles_84 ci_1 ?_
      refine x_isub 85 C dX7_straddles_85 ?_
      refine x_imul 86 C dX7_straddles_86 ?_
      refine x_iadd 87 C dX7_straddles_87 ?_
      refine x_top h (fun v1_11 h => ?_)
      refine x_istore_n 88 C (lv' := [(0, .ref (a 0)), (1, .int v1_11), (2, .int y2)]) dX7_straddles_88 rfl (Nat.le_of_ble_eq_true rfl) [1, 0, 2] rfl ?_
      refine x_iinc 89 C (L := fun v2_12 => [(0, .ref (a 0)), (1, .int v1_11), (2, .int v2_12)]) dX7_straddles_89 2 rfl ci_1 (Nat.le_of_ble_eq_true rfl) [1, 2, 0] (fun _ => rfl) h (fun v2_12 h => ?_)
      refine x_goto 92 C 4 dX7_straddles_92 rfl ?_
      exact ih _ h
    · refine x_iconst 70 C dX7_straddles_70 ci_0 ?_
      refine x_goto 71 C 87 dX7_straddles_71 rfl ?_
      refine x_iadd 87 C dX7_straddles_87 ?_
      refine x_top h (fun v1_13 h => ?_)
      refine x_istore_n 88 C (lv' := [(0, .ref (a 0)), (1, .int v1_13), (2, .int y2)]) dX7_straddles_88 rfl (Nat.le_of_ble_eq_true rfl) [1, 0, 2] rfl ?_
      refine x_iinc 89 C (L := fun v2_14 => [(0, .ref (a 0)), (1, .int v1_13), (2, .int v2_14)]) dX7_straddles_89 2 rfl ci_1 (Nat.le_of_ble_eq_true rfl) [1, 2, 0] (fun _ => rfl) h (fun v2_14 h => ?_)
      refine x_goto 92 C 4 dX7_straddles_92 rfl ?_
      exact ih _ h
set_option maxRecDepth 100000 in
set_option maxHeartbeats 4000000 in
theorem M_X7_straddles (l : Launch) (D : va_G) (a : Nat → Nat) (b : Nat → ClassId) (S0 : XSr)   {r9 : Int32} (h : F_X7_straddles S0 = some r9) : xM l (ωR D a b) yX7_straddles cX7_straddles 5 (some .int) rm_X7_straddles [.ref (a 0)] S0 (some (.int r9), S0) := by
  unfold F_X7_straddles at h
  refine xM_of (own := "GraveOrderModel") (by decide) rfl (Nat.le_of_ble_eq_true rfl) (fun Γ C => ?_)
  refine x_sub 0 [0] (lv' := [(0, .ref (a 0))]) rfl ?_
  refine x_iconst 0 C dX7_straddles_0 ci_0 ?_
  refine x_istore_n 1 C (lv' := [(0, .ref (a 0)), (1, .int 0)]) dX7_straddles_1 rfl (Nat.le_of_ble_eq_true rfl) [1, 0] rfl ?_
  refine x_iconst 2 C dX7_straddles_2 ci_0 ?_
  refine x_istore_n 3 C (lv' := [(0, .ref (a 0)), (1, .int 0), (2, .int 0)]) dX7_straddles_3 rfl (Nat.le_of_ble_eq_true rfl) [1, 2, 0] rfl ?_
  refine x_loop (E := fun e => XAt (ωR D a b) Γ 95 [(1, .int e)] [] S0) (P := fun t => XAt (ωR D a b) Γ 4 [(0, .ref (a 0)), (1, .int t.1), (2, .int t.2)] [] S0) h (fun e15 h => ?_) (fun kx rc t hk ih h => w_X7_straddles_4 l D a b S0 C    kx rc hk ih t.1 t.2 h)
  refine x_iload_n 95 C dX7_straddles_95 rfl 0 rfl ?_
  exact x_iret 96 C dX7_straddles_96 (Option.some.inj h) rfl
/-! GraveOrderModel.isEarlier ()Z -/
def B_X7_isEarlier_2 (S0 : XSr)  (kx : Unit → Option Int32) (rc : Int32 → Option Int32) (y1 : Int32) : Option Int32 :=
  (if (S0.1 0 0) ≤ y1 then kx () else (if xin y1 8 = true then (if xin y1 8 = true then (if (S0.1 20 (xti y1)) = (S0.1 21 (xti y1)) then (xlet (y1 + 1) fun v1_3 => rc v1_3) else (if xin y1 8 = true then (if xin y1 8 = true then (if (S0.1 20 (xti y1)) ≤ (S0.1 21 (xti y1)) then (some 0) else (some 1)) else none) else none)) else none) else none))
def F_X7_isEarlier (S0 : XSr)  : (Option Int32) :=
  (xlp (fun k rc t => B_X7_isEarlier_2 S0   k rc t) (fun e6 => (some 0)) XFU 0)
abbrev rm_X7_isEarlier : Room := { frames := 0, cells := 0, slots := 0, locals := 0 }
set_option maxRecDepth 100000 in
set_option maxHeartbeats 4000000 in
theorem w_X7_isEarlier_2 (l : Launch) (D : va_G) (a : Nat → Nat) (b : Nat → ClassId) (S0 : XSr) {Γ : XG XSr} {r9 : Int32} (C : Cx (ωR D a b) Γ cX7_isEarlier "GraveOrderModel" (some .boolean) l rm_X7_isEarlier 2 (some (.int r9), S0))   (kx : Unit → Option Int32) (rc : Int32 → Option Int32) (hk : ∀ e, kx e = some r9 → XAt (ωR D a b) Γ 52 [] [] S0) (ih : ∀ t, rc t = some r9 → XAt (ωR D a b) Γ 2 [(0, .ref (a 0)), (1, .int t)] [] S0) (y1 : Int32) (h : B_X7_isEarlier_2 S0   kx rc y1 = some r9) : XAt (ωR D a b) Γ 2 [(0, .ref (a 0)), (1, .int y1)] [] S0 := by
  unfold B_X7_isEarlier_2 at h
  refine x_iload_n 2 C dX7_isEarlier_2 rfl 1 rfl ?_
  refine x_aload_n 3 C dX7_isEarlier_3 rfl 0 rfl ?_
  refine gX7_graves 4 C kw_786 dX7_isEarlier_4 ?_
  refine x_icmp_ge 7 C 52 dX7_isEarlier_7 rfl h (fun h => ?_) (fun h => ?_)
  · exact x_sub 52 [] rfl (hk _ h)
  · refine x_aload_n 10 C dX7_isEarlier_10 rfl 0 rfl ?_
    refine gX7_partAt 11 C kw_818 dX7_isEarlier_11 ?_
    refine x_iload_n 14 C dX7_isEarlier_14 rfl 1 rfl ?_
    obtain ⟨hg1, h⟩ := xif_some h
    refine r_iald20 15 C hg1 dX7_isEarlier_15 ?_
    refine x_aload_n 16 C dX7_isEarlier_16 rfl 0 rfl ?_
    refine gX7_bestPart 17 C kw_819 dX7_isEarlier_17 ?_
    refine x_iload_n 20 C dX7_isEarlier_20 rfl 1 rfl ?_
    obtain ⟨hg2, h⟩ := xif_some h
    refine r_iald21 21 C hg2 dX7_isEarlier_21 ?_
    refine x_icmp_eq 22 C 46 dX7_isEarlier_22 rfl h (fun h => ?_) (fun h => ?_)
    · refine x_iinc 46 C (L := fun v1_3 => [(0, .ref (a 0)), (1, .int v1_3)]) dX7_isEarlier_46 1 rfl ci_1 (Nat.le_of_ble_eq_true rfl) [1, 0] (fun _ => rfl) h (fun v1_3 h => ?_)
      refine x_goto 49 C 2 dX7_isEarlier_49 rfl ?_
      exact ih _ h
    · refine x_aload_n 25 C dX7_isEarlier_25 rfl 0 rfl ?_
      refine gX7_partAt 26 C kw_818 dX7_isEarlier_26 ?_
      refine x_iload_n 29 C dX7_isEarlier_29 rfl 1 rfl ?_
      obtain ⟨hg4, h⟩ := xif_some h
      refine r_iald20 30 C hg4 dX7_isEarlier_30 ?_
      refine x_aload_n 31 C dX7_isEarlier_31 rfl 0 rfl ?_
      refine gX7_bestPart 32 C kw_819 dX7_isEarlier_32 ?_
      refine x_iload_n 35 C dX7_isEarlier_35 rfl 1 rfl ?_
      obtain ⟨hg5, h⟩ := xif_some h
      refine r_iald21 36 C hg5 dX7_isEarlier_36 ?_
      refine x_icmp_le 37 C 44 dX7_isEarlier_37 rfl h (fun h => ?_) (fun h => ?_)
      · refine x_iconst 44 C dX7_isEarlier_44 ci_0 ?_
        exact x_zret 45 C dX7_isEarlier_45 rfl (Option.some.inj h) rfl
      · refine x_iconst 40 C dX7_isEarlier_40 ci_1 ?_
        refine x_goto 41 C 45 dX7_isEarlier_41 rfl ?_
        exact x_zret 45 C dX7_isEarlier_45 rfl (Option.some.inj h) rfl
set_option maxRecDepth 100000 in
set_option maxHeartbeats 4000000 in
theorem M_X7_isEarlier (l : Launch) (D : va_G) (a : Nat → Nat) (b : Nat → ClassId) (S0 : XSr)   {r9 : Int32} (h : F_X7_isEarlier S0 = some r9) : xM l (ωR D a b) yX7_isEarlier cX7_isEarlier 2 (some .boolean) rm_X7_isEarlier [.ref (a 0)] S0 (some (.int r9), S0) := by
  unfold F_X7_isEarlier at h
  refine xM_of (own := "GraveOrderModel") (by decide) rfl (Nat.le_of_ble_eq_true rfl) (fun Γ C => ?_)
  refine x_sub 0 [0] (lv' := [(0, .ref (a 0))]) rfl ?_
  refine x_iconst 0 C dX7_isEarlier_0 ci_0 ?_
  refine x_istore_n 1 C (lv' := [(0, .ref (a 0)), (1, .int 0)]) dX7_isEarlier_1 rfl (Nat.le_of_ble_eq_true rfl) [1, 0] rfl ?_
  refine x_loop (E := fun e => XAt (ωR D a b) Γ 52 [] [] S0) (P := fun t => XAt (ωR D a b) Γ 2 [(0, .ref (a 0)), (1, .int t)] [] S0) h (fun e6 h => ?_) (fun kx rc t hk ih h => w_X7_isEarlier_2 l D a b S0 C    kx rc hk ih t h)
  refine x_iconst 52 C dX7_isEarlier_52 ci_0 ?_
  exact x_zret 53 C dX7_isEarlier_53 rfl (Option.some.inj h) rfl
/-! GraveOrderModel.phasesNow (II)I -/
def B_X7_phasesNow_58 (c1 : Int32) (c2 : Int32) (c3 : Int32) (c4 : Int32) (kx : XSr → Option (Int32 × XSr)) (rc : (Int32 × XSr) → Option (Int32 × XSr)) (y5 : Int32) (S1 : XSr) : Option (Int32 × XSr) :=
  (if (S1.1 0 0) ≤ y5 then kx S1 else (if xin (y5 - (1 : Int32)) 8 = true then (if xin y5 8 = true then (xlet (xsr S1 20 (xti y5) ((S1.1 20 (xti (y5 - (1 : Int32)))) + ((c4 >>> ((y5 - (1 : Int32)) &&& 31)) &&& (1 : Int32)))) fun S7 => (xlet (y5 + 1) fun v5_8 => rc (v5_8, S7))) else none) else none))
def B_X7_phasesNow_130 (c1 : Int32) (c2 : Int32) (c3 : Int32) (c4 : Int32) (kx : XSr → Option (Int32 × XSr)) (rc : (Int32 × XSr) → Option (Int32 × XSr)) (y6 : Int32) (S1 : XSr) : Option (Int32 × XSr) :=
  (if (S1.1 0 0) ≤ y6 then kx S1 else (if xin y6 8 = true then (if xin y6 8 = true then (xlet (xsr S1 21 (xti y6) (S1.1 20 (xti y6))) fun S16 => (xlet (y6 + 1) fun v6_17 => rc (v6_17, S16))) else none) else none))
def B_X7_phasesNow_24 (c1 : Int32) (c2 : Int32) (kx : (Int32 × XSr) → Option (Int32 × XSr)) (rc : (Int32 × Int32 × XSr) → Option (Int32 × XSr)) (y3 : Int32) (y4 : Int32) (S1 : XSr) : Option (Int32 × XSr) :=
  (if ((1 : Int32) <<< (((S1.1 0 0) - (1 : Int32)) &&& 31)) ≤ y4 then kx (y3, S1) else ((F_X7_ones S1 y4).bind fun z2 => (if z2 = (c1 - (1 : Int32)) then (xlet (xsr S1 20 (xti 0) 0) fun S4 => (xlp (fun k rc t => B_X7_phasesNow_58  c1 c2 y3 y4 k rc t.1 t.2) (fun e9 => ((F_X7_straddles e9).bind fun z10 => (xlet (fun (t11 : (Int32 × Int32 × XSr)) => (xlet t11.2.1 fun v3_13 => (xlp (fun k rc t => B_X7_phasesNow_130  c1 c2 v3_13 t11.1 k rc t.1 t.2) (fun e18 => (xlet (t11.1 + 1) fun v4_19 => rc (v3_13, v4_19, e18))) XFU (0, t11.2.2)))) fun j12 => (if z10 < y3 then j12 (y4, z10, e9) else (if z10 = y3 then ((F_X7_isEarlier e9).bind fun z21 => (if z21 = 0 then (xlet (y4 + 1) fun v4_22 => rc (y3, v4_22, e9)) else j12 (y4, z10, e9))) else (xlet (y4 + 1) fun v4_20 => rc (y3, v4_20, e9))))))) XFU (1, S4))) else (xlet (y4 + 1) fun v4_3 => rc (y3, v4_3, S1)))))
def B_X7_phasesNow_178 (S0 : XSr) (c2 : Int32) (kx : Int32 → Option (Int32 × XSr)) (rc : (Int32 × Int32) → Option (Int32 × XSr)) (y4 : Int32) (y5 : Int32) : Option (Int32 × XSr) :=
  (if (S0.1 0 0) ≤ y5 then kx y4 else (if xin y5 8 = true then (if (S0.1 17 (xti y5)) = c2 then (if xin y5 8 = true then (xlet (S0.1 21 (xti y5)) fun v4_27 => (xlet (y5 + 1) fun v5_28 => rc (v4_27, v5_28))) else none) else (xlet (y5 + 1) fun v5_25 => rc (y4, v5_25))) else none))
def F_X7_phasesNow (S0 : XSr) (x1 : Int32) (x2 : Int32) : (Option (Int32 × XSr)) :=
  ((F_X7_areAny S0).bind fun z1 => (if z1.1 = 0 then (some ((-3), z1.2)) else (if x1 ≤ (z1.2.1 0 0) then (xlp (fun k rc t => B_X7_phasesNow_24  x1 x2 k rc t.1 t.2.1 t.2.2) (fun e23 => (if x2 = (-1) then (some (e23.1, e23.2)) else (xlp (fun k rc t => B_X7_phasesNow_178 e23.2  x2 k rc t.1 t.2) (fun e29 => (some (e29, e23.2))) XFU (0, 0)))) XFU (100000, 0, z1.2)) else (some ((-3), z1.2)))))
abbrev rm_X7_phasesNow : Room := { frames := 5, cells := 0, slots := 0, locals := 110 }
set_option maxRecDepth 100000 in
set_option maxHeartbeats 4000000 in
theorem w_X7_phasesNow_58 (l : Launch) (D : va_G) (a : Nat → Nat) (b : Nat → ClassId) (S0 : XSr) {Γ : XG XSr} {r9 : Int32} {S9 : XSr} (C : Cx (ωR D a b) Γ cX7_phasesNow "GraveOrderModel" (some .int) l rm_X7_phasesNow 7 (some (.int r9), S9)) (c1 : Int32) (c2 : Int32) (c3 : Int32) (c4 : Int32)  (kx : XSr → Option (Int32 × XSr)) (rc : (Int32 × XSr) → Option (Int32 × XSr)) (hk : ∀ e, kx e = some (r9, S9) → XAt (ωR D a b) Γ 99 [(0, .ref (a 0)), (1, .int c1), (2, .int c2), (3, .int c3), (4, .int c4)] [] e) (ih : ∀ t, rc t = some (r9, S9) → XAt (ωR D a b) Γ 58 [(0, .ref (a 0)), (1, .int c1), (2, .int c2), (3, .int c3), (4, .int c4), (5, .int t.1)] [] t.2) (y5 : Int32) (S1 : XSr) (h : B_X7_phasesNow_58  c1 c2 c3 c4 kx rc y5 S1 = some (r9, S9)) : XAt (ωR D a b) Γ 58 [(0, .ref (a 0)), (1, .int c1), (2, .int c2), (3, .int c3), (4, .int c4), (5, .int y5)] [] S1 := by
  unfold B_X7_phasesNow_58 at h
  refine x_iload 58 C dX7_phasesNow_58 5 rfl ?_
  refine x_aload_n 60 C dX7_phasesNow_60 rfl 0 rfl ?_
  refine gX7_graves 61 C kw_786 dX7_phasesNow_61 ?_
  refine x_icmp_ge 64 C 99 dX7_phasesNow_64 rfl h (fun h => ?_) (fun h => ?_)
  · exact x_sub 99 [0, 1, 2, 3, 4] rfl (hk _ h)
  · refine x_aload_n 67 C dX7_phasesNow_67 rfl 0 rfl ?_
    refine gX7_partAt 68 C kw_818 dX7_phasesNow_68 ?_
    refine x_iload 71 C dX7_phasesNow_71 5 rfl ?_
    refine x_aload_n 73 C dX7_phasesNow_73 rfl 0 rfl ?_
    refine gX7_partAt 74 C kw_818 dX7_phasesNow_74 ?_
    refine x_iload 77 C dX7_phasesNow_77 5 rfl ?_
    refine x_iconst 79 C dX7_phasesNow_79 ci_1 ?_
    refine x_isub 80 C dX7_phasesNow_80 ?_
    obtain ⟨hg5, h⟩ := xif_some h
    refine r_iald20 81 C hg5 dX7_phasesNow_81 ?_
    refine x_iload 82 C dX7_phasesNow_82 4 rfl ?_
    refine x_iload 84 C dX7_phasesNow_84 5 rfl ?_
    refine x_iconst 86 C dX7_phasesNow_86 ci_1 ?_
    refine x_isub 87 C dX7_phasesNow_87 ?_
    refine x_ishr 88 C dX7_phasesNow_88 ?_
    refine x_iconst 89 C dX7_phasesNow_89 ci_1 ?_
    refine x_iand 90 C dX7_phasesNow_90 ?_
    refine x_iadd 91 C dX7_phasesNow_91 ?_
    obtain ⟨hg6, h⟩ := xif_some h
    refine r_iast20 92 C hg6 dX7_phasesNow_92 ?_
    refine x_topS h (fun S7 h => ?_)
    refine x_iinc 93 C (L := fun v5_8 => [(0, .ref (a 0)), (1, .int c1), (2, .int c2), (3, .int c3), (4, .int c4), (5, .int v5_8)]) dX7_phasesNow_93 5 rfl ci_1 (Nat.le_of_ble_eq_true rfl) [1, 2, 3, 4, 5, 0] (fun _ => rfl) h (fun v5_8 h => ?_)
    refine x_goto 96 C 58 dX7_phasesNow_96 rfl ?_
    exact ih _ h
set_option maxRecDepth 100000 in
set_option maxHeartbeats 4000000 in
theorem w_X7_phasesNow_130 (l : Launch) (D : va_G) (a : Nat → Nat) (b : Nat → ClassId) (S0 : XSr) {Γ : XG XSr} {r9 : Int32} {S9 : XSr} (C : Cx (ωR D a b) Γ cX7_phasesNow "GraveOrderModel" (some .int) l rm_X7_phasesNow 7 (some (.int r9), S9)) (c1 : Int32) (c2 : Int32) (c3 : Int32) (c4 : Int32)  (kx : XSr → Option (Int32 × XSr)) (rc : (Int32 × XSr) → Option (Int32 × XSr)) (hk : ∀ e, kx e = some (r9, S9) → XAt (ωR D a b) Γ 159 [(0, .ref (a 0)), (1, .int c1), (2, .int c2), (3, .int c3), (4, .int c4)] [] e) (ih : ∀ t, rc t = some (r9, S9) → XAt (ωR D a b) Γ 130 [(0, .ref (a 0)), (1, .int c1), (2, .int c2), (3, .int c3), (4, .int c4), (6, .int t.1)] [] t.2) (y6 : Int32) (S1 : XSr) (h : B_X7_phasesNow_130  c1 c2 c3 c4 kx rc y6 S1 = some (r9, S9)) : XAt (ωR D a b) Γ 130 [(0, .ref (a 0)), (1, .int c1), (2, .int c2), (3, .int c3), (4, .int c4), (6, .int y6)] [] S1 := by
  unfold B_X7_phasesNow_130 at h
  refine x_iload 130 C dX7_phasesNow_130 5 rfl ?_
  refine x_aload_n 132 C dX7_phasesNow_132 rfl 0 rfl ?_
  refine gX7_graves 133 C kw_786 dX7_phasesNow_133 ?_
  refine x_icmp_ge 136 C 159 dX7_phasesNow_136 rfl h (fun h => ?_) (fun h => ?_)
  · exact x_sub 159 [0, 1, 2, 3, 4] rfl (hk _ h)
  · refine x_aload_n 139 C dX7_phasesNow_139 rfl 0 rfl ?_
    refine gX7_bestPart 140 C kw_819 dX7_phasesNow_140 ?_
    refine x_iload 143 C dX7_phasesNow_143 5 rfl ?_
    refine x_aload_n 145 C dX7_phasesNow_145 rfl 0 rfl ?_
    refine gX7_partAt 146 C kw_818 dX7_phasesNow_146 ?_
    refine x_iload 149 C dX7_phasesNow_149 5 rfl ?_
    obtain ⟨hg14, h⟩ := xif_some h
    refine r_iald20 151 C hg14 dX7_phasesNow_151 ?_
    obtain ⟨hg15, h⟩ := xif_some h
    refine r_iast21 152 C hg15 dX7_phasesNow_152 ?_
    refine x_topS h (fun S16 h => ?_)
    refine x_iinc 153 C (L := fun v6_17 => [(0, .ref (a 0)), (1, .int c1), (2, .int c2), (3, .int c3), (4, .int c4), (6, .int v6_17)]) dX7_phasesNow_153 5 rfl ci_1 (Nat.le_of_ble_eq_true rfl) [1, 2, 3, 4, 5, 0] (fun _ => rfl) h (fun v6_17 h => ?_)
    refine x_goto 156 C 130 dX7_phasesNow_156 rfl ?_
    exact ih _ h
set_option maxRecDepth 100000 in
set_option maxHeartbeats 4000000 in
theorem w_X7_phasesNow_24 (l : Launch) (D : va_G) (a : Nat → Nat) (b : Nat → ClassId) (S0 : XSr) {Γ : XG XSr} {r9 : Int32} {S9 : XSr} (C : Cx (ωR D a b) Γ cX7_phasesNow "GraveOrderModel" (some .int) l rm_X7_phasesNow 7 (some (.int r9), S9)) (c1 : Int32) (c2 : Int32)  (kx : (Int32 × XSr) → Option (Int32 × XSr)) (rc : (Int32 × Int32 × XSr) → Option (Int32 × XSr)) (hk : ∀ e, kx e = some (r9, S9) → XAt (ωR D a b) Γ 165 [(0, .ref (a 0)), (2, .int c2), (3, .int e.1)] [] e.2) (ih : ∀ t, rc t = some (r9, S9) → XAt (ωR D a b) Γ 24 [(0, .ref (a 0)), (1, .int c1), (2, .int c2), (3, .int t.1), (4, .int t.2.1)] [] t.2.2) (y3 : Int32) (y4 : Int32) (S1 : XSr) (h : B_X7_phasesNow_24  c1 c2 kx rc y3 y4 S1 = some (r9, S9)) : XAt (ωR D a b) Γ 24 [(0, .ref (a 0)), (1, .int c1), (2, .int c2), (3, .int y3), (4, .int y4)] [] S1 := by
  unfold B_X7_phasesNow_24 at h
  refine x_iload 24 C dX7_phasesNow_24 4 rfl ?_
  refine x_iconst 26 C dX7_phasesNow_26 ci_1 ?_
  refine x_aload_n 27 C dX7_phasesNow_27 rfl 0 rfl ?_
  refine gX7_graves 28 C kw_786 dX7_phasesNow_28 ?_
  refine x_iconst 31 C dX7_phasesNow_31 ci_1 ?_
  refine x_isub 32 C dX7_phasesNow_32 ?_
  refine x_ishl 33 C dX7_phasesNow_33 ?_
  refine x_icmp_ge 34 C 165 dX7_phasesNow_34 rfl h (fun h => ?_) (fun h => ?_)
  · exact x_sub 165 [0, 2, 3] rfl (hk _ h)
  · refine x_iload 37 C dX7_phasesNow_37 4 rfl ?_
    obtain ⟨z2, hz2, h⟩ := xbind_some h
    refine x_callS 39 C 1 (As := [.int y4]) (rest := []) (M_X7_ones l D a b S1 y4  hz2) kw_1032 ms_X7_ones mh_X7_ones ⟨rfl, rfl⟩ ⟨Nat.le_of_ble_eq_true rfl, Nat.le_of_ble_eq_true rfl⟩ rfl rfl (Nat.le_of_ble_eq_true rfl) dX7_phasesNow_39 ?_
    refine x_iload_n 42 C dX7_phasesNow_42 rfl 1 rfl ?_
    refine x_iconst 43 C dX7_phasesNow_43 ci_1 ?_
    refine x_isub 44 C dX7_phasesNow_44 ?_
    refine x_icmp_ne 45 C 159 dX7_phasesNow_45 rfl h (fun h => ?_) (fun h => ?_)
    · refine x_iinc 159 C (L := fun v4_3 => [(0, .ref (a 0)), (1, .int c1), (2, .int c2), (3, .int y3), (4, .int v4_3)]) dX7_phasesNow_159 4 rfl ci_1 (Nat.le_of_ble_eq_true rfl) [1, 2, 3, 4, 0] (fun _ => rfl) h (fun v4_3 h => ?_)
      refine x_goto 162 C 24 dX7_phasesNow_162 rfl ?_
      exact ih _ h
    · refine x_aload_n 48 C dX7_phasesNow_48 rfl 0 rfl ?_
      refine gX7_partAt 49 C kw_818 dX7_phasesNow_49 ?_
      refine x_iconst 52 C dX7_phasesNow_52 ci_0 ?_
      refine x_iconst 53 C dX7_phasesNow_53 ci_0 ?_
      refine r_iast20 54 C (by decide) dX7_phasesNow_54 ?_
      refine x_topS h (fun S4 h => ?_)
      refine x_iconst 55 C dX7_phasesNow_55 ci_1 ?_
      refine x_istore 56 C (lv' := [(0, .ref (a 0)), (1, .int c1), (2, .int c2), (3, .int y3), (4, .int y4), (5, .int 1)]) dX7_phasesNow_56 (Nat.le_of_ble_eq_true rfl) [1, 2, 3, 4, 5, 0] rfl ?_
      refine x_loop (E := fun e => XAt (ωR D a b) Γ 99 [(0, .ref (a 0)), (1, .int c1), (2, .int c2), (3, .int y3), (4, .int y4)] [] e) (P := fun t => XAt (ωR D a b) Γ 58 [(0, .ref (a 0)), (1, .int c1), (2, .int c2), (3, .int y3), (4, .int y4), (5, .int t.1)] [] t.2) h (fun e9 h => ?_) (fun kx rc t hk ih h => w_X7_phasesNow_58 l D a b S0 C   c1 c2 y3 y4 kx rc hk ih t.1 t.2 h)
      refine x_aload_n 99 C dX7_phasesNow_99 rfl 0 rfl ?_
      obtain ⟨z10, hz10, h⟩ := xbind_some h
      refine x_callV 100 C (q0 := 0) (ci := 7) 0 (As := []) (rest := []) (M_X7_straddles l D a b e9   hz10) (by rfl) rfl kw_1110 mv_X7_straddles mh_X7_straddles ⟨rfl, rfl⟩ ⟨Nat.le_of_ble_eq_true rfl, Nat.le_of_ble_eq_true rfl⟩ rfl rfl (Nat.le_of_ble_eq_true rfl) dX7_phasesNow_100 ?_
      refine x_istore 103 C (lv' := [(0, .ref (a 0)), (1, .int c1), (2, .int c2), (3, .int y3), (4, .int y4), (5, .int z10)]) dX7_phasesNow_103 (Nat.le_of_ble_eq_true rfl) [1, 2, 3, 4, 5, 0] rfl ?_
      refine x_iload 105 C dX7_phasesNow_105 5 rfl ?_
      refine x_iload_n 107 C dX7_phasesNow_107 rfl 3 rfl ?_
      refine x_join (P := fun t11 => XAt (ωR D a b) Γ 124 [(0, .ref (a 0)), (1, .int c1), (2, .int c2), (4, .int t11.1), (5, .int t11.2.1)] [] t11.2.2) h (fun t11 h => ?_) (fun j12 hj12 h => ?_)
      · refine x_iload 124 C dX7_phasesNow_124 4 rfl ?_
        refine x_top h (fun v3_13 h => ?_)
        refine x_istore_n 126 C (lv' := [(0, .ref (a 0)), (1, .int c1), (2, .int c2), (3, .int v3_13), (4, .int t11.1)]) dX7_phasesNow_126 rfl (Nat.le_of_ble_eq_true rfl) [1, 2, 3, 0, 4] rfl ?_
        refine x_iconst 127 C dX7_phasesNow_127 ci_0 ?_
        refine x_istore 128 C (lv' := [(0, .ref (a 0)), (1, .int c1), (2, .int c2), (3, .int v3_13), (4, .int t11.1), (6, .int 0)]) dX7_phasesNow_128 (Nat.le_of_ble_eq_true rfl) [1, 2, 3, 4, 5, 0] rfl ?_
        refine x_loop (E := fun e => XAt (ωR D a b) Γ 159 [(0, .ref (a 0)), (1, .int c1), (2, .int c2), (3, .int v3_13), (4, .int t11.1)] [] e) (P := fun t => XAt (ωR D a b) Γ 130 [(0, .ref (a 0)), (1, .int c1), (2, .int c2), (3, .int v3_13), (4, .int t11.1), (6, .int t.1)] [] t.2) h (fun e18 h => ?_) (fun kx rc t hk ih h => w_X7_phasesNow_130 l D a b S0 C   c1 c2 v3_13 t11.1 kx rc hk ih t.1 t.2 h)
        refine x_iinc 159 C (L := fun v4_19 => [(0, .ref (a 0)), (1, .int c1), (2, .int c2), (3, .int v3_13), (4, .int v4_19)]) dX7_phasesNow_159 4 rfl ci_1 (Nat.le_of_ble_eq_true rfl) [1, 2, 3, 4, 0] (fun _ => rfl) h (fun v4_19 h => ?_)
        refine x_goto 162 C 24 dX7_phasesNow_162 rfl ?_
        exact ih _ h
      refine x_icmp_lt 108 C 124 dX7_phasesNow_108 rfl h (fun h => ?_) (fun h => ?_)
      · exact x_sub 124 [0, 1, 2, 4, 5] rfl (hj12 _ h)
      · refine x_iload 111 C dX7_phasesNow_111 5 rfl ?_
        refine x_iload_n 113 C dX7_phasesNow_113 rfl 3 rfl ?_
        refine x_icmp_ne 114 C 159 dX7_phasesNow_114 rfl h (fun h => ?_) (fun h => ?_)
        · refine x_iinc 159 C (L := fun v4_20 => [(0, .ref (a 0)), (1, .int c1), (2, .int c2), (3, .int y3), (4, .int v4_20)]) dX7_phasesNow_159 4 rfl ci_1 (Nat.le_of_ble_eq_true rfl) [1, 2, 3, 4, 0] (fun _ => rfl) h (fun v4_20 h => ?_)
          refine x_goto 162 C 24 dX7_phasesNow_162 rfl ?_
          exact ih _ h
        · refine x_aload_n 117 C dX7_phasesNow_117 rfl 0 rfl ?_
          obtain ⟨z21, hz21, h⟩ := xbind_some h
          refine x_callV 118 C (q0 := 0) (ci := 7) 0 (As := []) (rest := []) (M_X7_isEarlier l D a b e9   hz21) (by rfl) rfl kw_1114 mv_X7_isEarlier mh_X7_isEarlier ⟨rfl, rfl⟩ ⟨Nat.le_of_ble_eq_true rfl, Nat.le_of_ble_eq_true rfl⟩ rfl rfl (Nat.le_of_ble_eq_true rfl) dX7_phasesNow_118 ?_
          refine x_if_eq 121 C 159 dX7_phasesNow_121 rfl h (fun h => ?_) (fun h => ?_)
          · refine x_iinc 159 C (L := fun v4_22 => [(0, .ref (a 0)), (1, .int c1), (2, .int c2), (3, .int y3), (4, .int v4_22)]) dX7_phasesNow_159 4 rfl ci_1 (Nat.le_of_ble_eq_true rfl) [1, 2, 3, 4, 0] (fun _ => rfl) h (fun v4_22 h => ?_)
            refine x_goto 162 C 24 dX7_phasesNow_162 rfl ?_
            exact ih _ h
          · exact x_sub 124 [0, 1, 2, 4, 5] rfl (hj12 _ h)
set_option maxRecDepth 100000 in
set_option maxHeartbeats 4000000 in
theorem w_X7_phasesNow_178 (l : Launch) (D : va_G) (a : Nat → Nat) (b : Nat → ClassId) (S0 : XSr) {Γ : XG XSr} {r9 : Int32} {S9 : XSr} (C : Cx (ωR D a b) Γ cX7_phasesNow "GraveOrderModel" (some .int) l rm_X7_phasesNow 7 (some (.int r9), S9)) (c2 : Int32)  (kx : Int32 → Option (Int32 × XSr)) (rc : (Int32 × Int32) → Option (Int32 × XSr)) (hk : ∀ e, kx e = some (r9, S9) → XAt (ωR D a b) Γ 218 [(4, .int e)] [] S0) (ih : ∀ t, rc t = some (r9, S9) → XAt (ωR D a b) Γ 178 [(0, .ref (a 0)), (2, .int c2), (4, .int t.1), (5, .int t.2)] [] S0) (y4 : Int32) (y5 : Int32) (h : B_X7_phasesNow_178 S0  c2 kx rc y4 y5 = some (r9, S9)) : XAt (ωR D a b) Γ 178 [(0, .ref (a 0)), (2, .int c2), (4, .int y4), (5, .int y5)] [] S0 := by
  unfold B_X7_phasesNow_178 at h
  refine x_iload 178 C dX7_phasesNow_178 3 rfl ?_
  refine x_aload_n 180 C dX7_phasesNow_180 rfl 0 rfl ?_
  refine gX7_graves 181 C kw_786 dX7_phasesNow_181 ?_
  refine x_icmp_ge 184 C 218 dX7_phasesNow_184 rfl h (fun h => ?_) (fun h => ?_)
  · exact x_sub 218 [2] rfl (hk _ h)
  · refine x_aload_n 187 C dX7_phasesNow_187 rfl 0 rfl ?_
    refine gX7_firstOrder 188 C kw_814 dX7_phasesNow_188 ?_
    refine x_iload 191 C dX7_phasesNow_191 3 rfl ?_
    obtain ⟨hg24, h⟩ := xif_some h
    refine r_iald17 193 C hg24 dX7_phasesNow_193 ?_
    refine x_iload_n 194 C dX7_phasesNow_194 rfl 1 rfl ?_
    refine x_icmp_ne 195 C 208 dX7_phasesNow_195 rfl h (fun h => ?_) (fun h => ?_)
    · refine x_iload 208 C dX7_phasesNow_208 2 rfl ?_
      refine x_istore 210 C (lv' := [(0, .ref (a 0)), (2, .int c2), (4, .int y4), (5, .int y5)]) dX7_phasesNow_210 (Nat.le_of_ble_eq_true rfl) [1, 2, 0, 3] rfl ?_
      refine x_iinc 212 C (L := fun v5_25 => [(0, .ref (a 0)), (2, .int c2), (4, .int y4), (5, .int v5_25)]) dX7_phasesNow_212 3 rfl ci_1 (Nat.le_of_ble_eq_true rfl) [1, 2, 3, 0] (fun _ => rfl) h (fun v5_25 h => ?_)
      refine x_goto 215 C 178 dX7_phasesNow_215 rfl ?_
      exact ih _ h
    · refine x_aload_n 198 C dX7_phasesNow_198 rfl 0 rfl ?_
      refine gX7_bestPart 199 C kw_819 dX7_phasesNow_199 ?_
      refine x_iload 202 C dX7_phasesNow_202 3 rfl ?_
      obtain ⟨hg26, h⟩ := xif_some h
      refine r_iald21 204 C hg26 dX7_phasesNow_204 ?_
      refine x_goto 205 C 210 dX7_phasesNow_205 rfl ?_
      refine x_top h (fun v4_27 h => ?_)
      refine x_istore 210 C (lv' := [(0, .ref (a 0)), (2, .int c2), (4, .int v4_27), (5, .int y5)]) dX7_phasesNow_210 (Nat.le_of_ble_eq_true rfl) [1, 2, 0, 3] rfl ?_
      refine x_iinc 212 C (L := fun v5_28 => [(0, .ref (a 0)), (2, .int c2), (4, .int v4_27), (5, .int v5_28)]) dX7_phasesNow_212 3 rfl ci_1 (Nat.le_of_ble_eq_true rfl) [1, 2, 3, 0] (fun _ => rfl) h (fun v5_28 h => ?_)
      refine x_goto 215 C 178 dX7_phasesNow_215 rfl ?_
      exact ih _ h
set_option maxRecDepth 100000 in
set_option maxHeartbeats 4000000 in
theorem M_X7_phasesNow (l : Launch) (D : va_G) (a : Nat → Nat) (b : Nat → ClassId) (S0 : XSr) (x1 : Int32) (x2 : Int32)  {r9 : Int32} {S9 : XSr} (h : F_X7_phasesNow S0 x1 x2 = some (r9, S9)) : xM l (ωR D a b) yX7_phasesNow cX7_phasesNow 7 (some .int) rm_X7_phasesNow [.ref (a 0), .int x1, .int x2] S0 (some (.int r9), S9) := by
  unfold F_X7_phasesNow at h
  refine xM_of (own := "GraveOrderModel") (by decide) rfl (Nat.le_of_ble_eq_true rfl) (fun Γ C => ?_)
  refine x_sub 0 [0, 1, 2] (lv' := [(0, .ref (a 0)), (1, .int x1), (2, .int x2)]) rfl ?_
  refine x_aload_n 0 C dX7_phasesNow_0 rfl 0 rfl ?_
  obtain ⟨z1, hz1, h⟩ := xbind_some h
  refine x_callV 1 C (q0 := 0) (ci := 7) 0 (As := []) (rest := []) (M_X7_areAny l D a b S0   hz1) (by rfl) rfl kw_1015 mv_X7_areAny mh_X7_areAny ⟨rfl, rfl⟩ ⟨Nat.le_of_ble_eq_true rfl, Nat.le_of_ble_eq_true rfl⟩ rfl rfl (Nat.le_of_ble_eq_true rfl) dX7_phasesNow_1 ?_
  refine x_if_eq 4 C 15 dX7_phasesNow_4 rfl h (fun h => ?_) (fun h => ?_)
  · refine x_bipush 15 C dX7_phasesNow_15 cb_m3 ?_
    exact x_iret 17 C dX7_phasesNow_17 (Prod.mk.inj (Option.some.inj h)).1 (Prod.mk.inj (Option.some.inj h)).2
  · refine x_iload_n 7 C dX7_phasesNow_7 rfl 1 rfl ?_
    refine x_aload_n 8 C dX7_phasesNow_8 rfl 0 rfl ?_
    refine gX7_graves 9 C kw_786 dX7_phasesNow_9 ?_
    refine x_icmp_le 12 C 18 dX7_phasesNow_12 rfl h (fun h => ?_) (fun h => ?_)
    · refine x_ldc 18 C kw_1023 dX7_phasesNow_18 ?_
      refine x_istore_n 20 C (lv' := [(0, .ref (a 0)), (1, .int x1), (2, .int x2), (3, .int 100000)]) dX7_phasesNow_20 rfl (Nat.le_of_ble_eq_true rfl) [1, 2, 3, 0] rfl ?_
      refine x_iconst 21 C dX7_phasesNow_21 ci_0 ?_
      refine x_istore 22 C (lv' := [(0, .ref (a 0)), (1, .int x1), (2, .int x2), (3, .int 100000), (4, .int 0)]) dX7_phasesNow_22 (Nat.le_of_ble_eq_true rfl) [1, 2, 3, 4, 0] rfl ?_
      refine x_loop (E := fun e => XAt (ωR D a b) Γ 165 [(0, .ref (a 0)), (2, .int x2), (3, .int e.1)] [] e.2) (P := fun t => XAt (ωR D a b) Γ 24 [(0, .ref (a 0)), (1, .int x1), (2, .int x2), (3, .int t.1), (4, .int t.2.1)] [] t.2.2) h (fun e23 h => ?_) (fun kx rc t hk ih h => w_X7_phasesNow_24 l D a b S0 C   x1 x2 kx rc hk ih t.1 t.2.1 t.2.2 h)
      refine x_iload_n 165 C dX7_phasesNow_165 rfl 1 rfl ?_
      refine x_iconst 166 C dX7_phasesNow_166 ci_m1 ?_
      refine x_icmp_ne 167 C 172 dX7_phasesNow_167 rfl h (fun h => ?_) (fun h => ?_)
      · refine x_iconst 172 C dX7_phasesNow_172 ci_0 ?_
        refine x_istore 173 C (lv' := [(0, .ref (a 0)), (2, .int x2), (4, .int 0)]) dX7_phasesNow_173 (Nat.le_of_ble_eq_true rfl) [1, 2, 0] rfl ?_
        refine x_iconst 175 C dX7_phasesNow_175 ci_0 ?_
        refine x_istore 176 C (lv' := [(0, .ref (a 0)), (2, .int x2), (4, .int 0), (5, .int 0)]) dX7_phasesNow_176 (Nat.le_of_ble_eq_true rfl) [1, 2, 3, 0] rfl ?_
        refine x_loop (E := fun e => XAt (ωR D a b) Γ 218 [(4, .int e)] [] e23.2) (P := fun t => XAt (ωR D a b) Γ 178 [(0, .ref (a 0)), (2, .int x2), (4, .int t.1), (5, .int t.2)] [] e23.2) h (fun e29 h => ?_) (fun kx rc t hk ih h => w_X7_phasesNow_178 l D a b e23.2 C   x2 kx rc hk ih t.1 t.2 h)
        refine x_iload 218 C dX7_phasesNow_218 0 rfl ?_
        exact x_iret 220 C dX7_phasesNow_220 (Prod.mk.inj (Option.some.inj h)).1 (Prod.mk.inj (Option.some.inj h)).2
      · refine x_iload_n 170 C dX7_phasesNow_170 rfl 2 rfl ?_
        exact x_iret 171 C dX7_phasesNow_171 (Prod.mk.inj (Option.some.inj h)).1 (Prod.mk.inj (Option.some.inj h)).2
    · refine x_bipush 15 C dX7_phasesNow_15 cb_m3 ?_
      exact x_iret 17 C dX7_phasesNow_17 (Prod.mk.inj (Option.some.inj h)).1 (Prod.mk.inj (Option.some.inj h)).2
/-! GraveOrderModel.phases (II)I -/
def F_X7_phases (S0 : XSr) (x1 : Int32) (x2 : Int32) : (Option (Int32 × XSr)) :=
  (if (F_X7_in x1 1 8) = 0 then (some ((-2), S0)) else (xlet (fun (t1 : Unit) => ((F_X7_phasesNow S0 x1 x2).bind fun z3 => (some (z3.1, z3.2)))) fun j2 => (if x2 = (-1) then j2 () else (if (F_X7_isGrave S0 x2) = 0 then (some ((-2), S0)) else j2 ()))))
abbrev rm_X7_phases : Room := { frames := 6, cells := 0, slots := 0, locals := 136 }
set_option maxRecDepth 100000 in
set_option maxHeartbeats 4000000 in
theorem M_X7_phases (l : Launch) (D : va_G) (a : Nat → Nat) (b : Nat → ClassId) (S0 : XSr) (x1 : Int32) (x2 : Int32)  {r9 : Int32} {S9 : XSr} (h : F_X7_phases S0 x1 x2 = some (r9, S9)) : xM l (ωR D a b) yX7_phases cX7_phases 3 (some .int) rm_X7_phases [.ref (a 0), .int x1, .int x2] S0 (some (.int r9), S9) := by
  unfold F_X7_phases at h
  refine xM_of (own := "GraveOrderModel") (by decide) rfl (Nat.le_of_ble_eq_true rfl) (fun Γ C => ?_)
  refine x_sub 0 [0, 1, 2] (lv' := [(0, .ref (a 0)), (1, .int x1), (2, .int x2)]) rfl ?_
  refine x_iload_n 0 C dX7_phases_0 rfl 1 rfl ?_
  refine x_iconst 1 C dX7_phases_1 ci_1 ?_
  refine x_bipush 2 C dX7_phases_2 cb_8 ?_
  refine x_callS 4 C 3 (As := [.int x1, .int 1, .int 8]) (rest := []) (M_X7_in l (ωR D a b) S0 x1 1 8) kw_911 ms_X7_in mh_X7_in ⟨rfl, rfl⟩ ⟨Nat.le_of_ble_eq_true rfl, Nat.le_of_ble_eq_true rfl⟩ rfl rfl (Nat.le_of_ble_eq_true rfl) dX7_phases_4 ?_
  refine x_if_eq 7 C 32 dX7_phases_7 rfl h (fun h => ?_) (fun h => ?_)
  · refine x_bipush 32 C dX7_phases_32 cb_m2 ?_
    exact x_iret 34 C dX7_phases_34 (Prod.mk.inj (Option.some.inj h)).1 (Prod.mk.inj (Option.some.inj h)).2
  · refine x_iload_n 10 C dX7_phases_10 rfl 2 rfl ?_
    refine x_iconst 11 C dX7_phases_11 ci_m1 ?_
    refine x_join (P := fun t1 => XAt (ωR D a b) Γ 23 [(0, .ref (a 0)), (1, .int x1), (2, .int x2)] [] S0) h (fun t1 h => ?_) (fun j2 hj2 h => ?_)
    · refine x_aload_n 23 C dX7_phases_23 rfl 0 rfl ?_
      refine x_iload_n 24 C dX7_phases_24 rfl 1 rfl ?_
      refine x_iload_n 25 C dX7_phases_25 rfl 2 rfl ?_
      obtain ⟨z3, hz3, h⟩ := xbind_some h
      refine x_callV 26 C (q0 := 0) (ci := 7) 2 (As := [.int x1, .int x2]) (rest := []) (M_X7_phasesNow l D a b S0 x1 x2  hz3) (by rfl) rfl kw_1106 mv_X7_phasesNow mh_X7_phasesNow ⟨rfl, rfl⟩ ⟨Nat.le_of_ble_eq_true rfl, Nat.le_of_ble_eq_true rfl⟩ rfl rfl (Nat.le_of_ble_eq_true rfl) dX7_phases_26 ?_
      refine x_goto 29 C 34 dX7_phases_29 rfl ?_
      exact x_iret 34 C dX7_phases_34 (Prod.mk.inj (Option.some.inj h)).1 (Prod.mk.inj (Option.some.inj h)).2
    refine x_icmp_eq 12 C 23 dX7_phases_12 rfl h (fun h => ?_) (fun h => ?_)
    · exact hj2 _ h
    · refine x_aload_n 15 C dX7_phases_15 rfl 0 rfl ?_
      refine x_iload_n 16 C dX7_phases_16 rfl 2 rfl ?_
      refine x_callV 17 C (q0 := 0) (ci := 7) 1 (As := [.int x2]) (rest := []) (M_X7_isGrave l D a b S0 x2 ) (by rfl) rfl kw_918 mv_X7_isGrave mh_X7_isGrave ⟨rfl, rfl⟩ ⟨Nat.le_of_ble_eq_true rfl, Nat.le_of_ble_eq_true rfl⟩ rfl rfl (Nat.le_of_ble_eq_true rfl) dX7_phases_17 ?_
      refine x_if_eq 20 C 32 dX7_phases_20 rfl h (fun h => ?_) (fun h => ?_)
      · refine x_bipush 32 C dX7_phases_32 cb_m2 ?_
        exact x_iret 34 C dX7_phases_34 (Prod.mk.inj (Option.some.inj h)).1 (Prod.mk.inj (Option.some.inj h)).2
      · exact hj2 _ h
/-! GraveOrderModel.yearOf (II)I -/
def B_X7_yearOf_17 (S0 : XSr) (c1 : Int32) (c2 : Int32) (kx : Int32 → Option Int32) (rc : (Int32 × Int32 × Int32) → Option Int32) (y3 : Int32) (y4 : Int32) (y5 : Int32) : Option Int32 :=
  (if (S0.1 0 0) ≤ y5 then kx y3 else (if y4 = 0 then kx y3 else (xlet (fun (t3 : Int32) => (if xin t3 8 = true then (xlet (S0.1 17 (xti t3)) fun v6_6 => (xlet (fun (t7 : Int32) => (if v6_6 = c1 then (xlet (y5 + 1) fun v5_9 => rc (t7, 0, v5_9)) else (xlet (y5 + 1) fun v5_10 => rc (t7, 1, v5_10)))) fun j8 => (if c2 = 0 then (if xin v6_6 8 = true then (if (S0.1 1 (xti v6_6)) ≤ y3 then j8 y3 else (if xin v6_6 8 = true then j8 (S0.1 1 (xti v6_6)) else none)) else none) else (if xin v6_6 8 = true then (if y3 ≤ (S0.1 2 (xti v6_6)) then j8 y3 else (if xin v6_6 8 = true then j8 (S0.1 2 (xti v6_6)) else none)) else none)))) else none)) fun j4 => (if c2 = 0 then j4 y5 else j4 (((S0.1 0 0) - (1 : Int32)) - y5)))))
def F_X7_yearOf (S0 : XSr) (x1 : Int32) (x2 : Int32) : (Option Int32) :=
  (xlet (fun (t1 : Int32) => (xlp (fun k rc t => B_X7_yearOf_17 S0  x1 x2 k rc t.1 t.2.1 t.2.2) (fun e15 => (some e15)) XFU (t1, 1, 0))) fun j2 => (if x2 = 0 then j2 0 else j2 99))
abbrev rm_X7_yearOf : Room := { frames := 0, cells := 0, slots := 0, locals := 0 }
set_option maxRecDepth 100000 in
set_option maxHeartbeats 4000000 in
theorem w_X7_yearOf_17 (l : Launch) (D : va_G) (a : Nat → Nat) (b : Nat → ClassId) (S0 : XSr) {Γ : XG XSr} {r9 : Int32} (C : Cx (ωR D a b) Γ cX7_yearOf "GraveOrderModel" (some .int) l rm_X7_yearOf 7 (some (.int r9), S0)) (c1 : Int32) (c2 : Int32)  (kx : Int32 → Option Int32) (rc : (Int32 × Int32 × Int32) → Option Int32) (hk : ∀ e, kx e = some r9 → XAt (ωR D a b) Γ 127 [(3, .int e)] [] S0) (ih : ∀ t, rc t = some r9 → XAt (ωR D a b) Γ 17 [(0, .ref (a 0)), (1, .int c1), (2, .int c2), (3, .int t.1), (4, .int t.2.1), (5, .int t.2.2)] [] S0) (y3 : Int32) (y4 : Int32) (y5 : Int32) (h : B_X7_yearOf_17 S0  c1 c2 kx rc y3 y4 y5 = some r9) : XAt (ωR D a b) Γ 17 [(0, .ref (a 0)), (1, .int c1), (2, .int c2), (3, .int y3), (4, .int y4), (5, .int y5)] [] S0 := by
  unfold B_X7_yearOf_17 at h
  refine x_iload 17 C dX7_yearOf_17 5 rfl ?_
  refine x_aload_n 19 C dX7_yearOf_19 rfl 0 rfl ?_
  refine gX7_graves 20 C kw_786 dX7_yearOf_20 ?_
  refine x_icmp_ge 23 C 127 dX7_yearOf_23 rfl h (fun h => ?_) (fun h => ?_)
  · exact x_sub 127 [3] rfl (hk _ h)
  · refine x_iload 26 C dX7_yearOf_26 4 rfl ?_
    refine x_if_eq 28 C 127 dX7_yearOf_28 rfl h (fun h => ?_) (fun h => ?_)
    · exact x_sub 127 [3] rfl (hk _ h)
    · refine x_aload_n 31 C dX7_yearOf_31 rfl 0 rfl ?_
      refine gX7_firstOrder 32 C kw_814 dX7_yearOf_32 ?_
      refine x_iload_n 35 C dX7_yearOf_35 rfl 2 rfl ?_
      refine x_join (P := fun t3 => XAt (ωR D a b) Γ 53 [(0, .ref (a 0)), (1, .int c1), (2, .int c2), (3, .int y3), (5, .int y5)] [.int t3, .ref (a 17)] S0) h (fun t3 h => ?_) (fun j4 hj4 h => ?_)
      · obtain ⟨hg5, h⟩ := xif_some h
        refine r_iald17 53 C hg5 dX7_yearOf_53 ?_
        refine x_top h (fun v6_6 h => ?_)
        refine x_istore 54 C (lv' := [(0, .ref (a 0)), (1, .int c1), (2, .int c2), (3, .int y3), (5, .int y5), (6, .int v6_6)]) dX7_yearOf_54 (Nat.le_of_ble_eq_true rfl) [1, 2, 3, 4, 5, 0] rfl ?_
        refine x_iload_n 56 C dX7_yearOf_56 rfl 2 rfl ?_
        refine x_join (P := fun t7 => XAt (ωR D a b) Γ 107 [(0, .ref (a 0)), (1, .int c1), (2, .int c2), (5, .int y5), (6, .int v6_6)] [.int t7] S0) h (fun t7 h => ?_) (fun j8 hj8 h => ?_)
        · refine x_istore_n 107 C (lv' := [(0, .ref (a 0)), (1, .int c1), (2, .int c2), (3, .int t7), (5, .int y5), (6, .int v6_6)]) dX7_yearOf_107 rfl (Nat.le_of_ble_eq_true rfl) [1, 2, 3, 0, 4, 5] rfl ?_
          refine x_iload 108 C dX7_yearOf_108 5 rfl ?_
          refine x_iload_n 110 C dX7_yearOf_110 rfl 1 rfl ?_
          refine x_icmp_eq 111 C 118 dX7_yearOf_111 rfl h (fun h => ?_) (fun h => ?_)
          · refine x_iconst 118 C dX7_yearOf_118 ci_0 ?_
            refine x_istore 119 C (lv' := [(0, .ref (a 0)), (1, .int c1), (2, .int c2), (3, .int t7), (4, .int 0), (5, .int y5)]) dX7_yearOf_119 (Nat.le_of_ble_eq_true rfl) [1, 2, 3, 4, 0, 5] rfl ?_
            refine x_iinc 121 C (L := fun v5_9 => [(0, .ref (a 0)), (1, .int c1), (2, .int c2), (3, .int t7), (4, .int 0), (5, .int v5_9)]) dX7_yearOf_121 5 rfl ci_1 (Nat.le_of_ble_eq_true rfl) [1, 2, 3, 4, 5, 0] (fun _ => rfl) h (fun v5_9 h => ?_)
            refine x_goto 124 C 17 dX7_yearOf_124 rfl ?_
            exact ih _ h
          · refine x_iconst 114 C dX7_yearOf_114 ci_1 ?_
            refine x_goto 115 C 119 dX7_yearOf_115 rfl ?_
            refine x_istore 119 C (lv' := [(0, .ref (a 0)), (1, .int c1), (2, .int c2), (3, .int t7), (4, .int 1), (5, .int y5)]) dX7_yearOf_119 (Nat.le_of_ble_eq_true rfl) [1, 2, 3, 4, 0, 5] rfl ?_
            refine x_iinc 121 C (L := fun v5_10 => [(0, .ref (a 0)), (1, .int c1), (2, .int c2), (3, .int t7), (4, .int 1), (5, .int v5_10)]) dX7_yearOf_121 5 rfl ci_1 (Nat.le_of_ble_eq_true rfl) [1, 2, 3, 4, 5, 0] (fun _ => rfl) h (fun v5_10 h => ?_)
            refine x_goto 124 C 17 dX7_yearOf_124 rfl ?_
            exact ih _ h
        refine x_if_ne 57 C 85 dX7_yearOf_57 rfl h (fun h => ?_) (fun h => ?_)
        · refine x_aload_n 85 C dX7_yearOf_85 rfl 0 rfl ?_
          refine gX7_to 86 C kw_788 dX7_yearOf_86 ?_
          refine x_iload 89 C dX7_yearOf_89 5 rfl ?_
          obtain ⟨hg11, h⟩ := xif_some h
          refine r_iald2 91 C hg11 dX7_yearOf_91 ?_
          refine x_iload_n 92 C dX7_yearOf_92 rfl 3 rfl ?_
          refine x_icmp_ge 93 C 106 dX7_yearOf_93 rfl h (fun h => ?_) (fun h => ?_)
          · refine x_iload_n 106 C dX7_yearOf_106 rfl 3 rfl ?_
            exact x_sub 107 [0, 1, 2, 4, 5] rfl (hj8 _ h)
          · refine x_aload_n 96 C dX7_yearOf_96 rfl 0 rfl ?_
            refine gX7_to 97 C kw_788 dX7_yearOf_97 ?_
            refine x_iload 100 C dX7_yearOf_100 5 rfl ?_
            obtain ⟨hg12, h⟩ := xif_some h
            refine r_iald2 102 C hg12 dX7_yearOf_102 ?_
            refine x_goto 103 C 107 dX7_yearOf_103 rfl ?_
            exact x_sub 107 [0, 1, 2, 4, 5] rfl (hj8 _ h)
        · refine x_aload_n 60 C dX7_yearOf_60 rfl 0 rfl ?_
          refine gX7_from 61 C kw_787 dX7_yearOf_61 ?_
          refine x_iload 64 C dX7_yearOf_64 5 rfl ?_
          obtain ⟨hg13, h⟩ := xif_some h
          refine r_iald1 66 C hg13 dX7_yearOf_66 ?_
          refine x_iload_n 67 C dX7_yearOf_67 rfl 3 rfl ?_
          refine x_icmp_le 68 C 81 dX7_yearOf_68 rfl h (fun h => ?_) (fun h => ?_)
          · refine x_iload_n 81 C dX7_yearOf_81 rfl 3 rfl ?_
            refine x_goto 82 C 107 dX7_yearOf_82 rfl ?_
            exact x_sub 107 [0, 1, 2, 4, 5] rfl (hj8 _ h)
          · refine x_aload_n 71 C dX7_yearOf_71 rfl 0 rfl ?_
            refine gX7_from 72 C kw_787 dX7_yearOf_72 ?_
            refine x_iload 75 C dX7_yearOf_75 5 rfl ?_
            obtain ⟨hg14, h⟩ := xif_some h
            refine r_iald1 77 C hg14 dX7_yearOf_77 ?_
            refine x_goto 78 C 107 dX7_yearOf_78 rfl ?_
            exact x_sub 107 [0, 1, 2, 4, 5] rfl (hj8 _ h)
      refine x_if_ne 36 C 44 dX7_yearOf_36 rfl h (fun h => ?_) (fun h => ?_)
      · refine x_aload_n 44 C dX7_yearOf_44 rfl 0 rfl ?_
        refine gX7_graves 45 C kw_786 dX7_yearOf_45 ?_
        refine x_iconst 48 C dX7_yearOf_48 ci_1 ?_
        refine x_isub 49 C dX7_yearOf_49 ?_
        refine x_iload 50 C dX7_yearOf_50 5 rfl ?_
        refine x_isub 52 C dX7_yearOf_52 ?_
        exact x_sub 53 [0, 1, 2, 3, 5] rfl (hj4 _ h)
      · refine x_iload 39 C dX7_yearOf_39 5 rfl ?_
        refine x_goto 41 C 53 dX7_yearOf_41 rfl ?_
        exact x_sub 53 [0, 1, 2, 3, 5] rfl (hj4 _ h)
set_option maxRecDepth 100000 in
set_option maxHeartbeats 4000000 in
theorem M_X7_yearOf (l : Launch) (D : va_G) (a : Nat → Nat) (b : Nat → ClassId) (S0 : XSr) (x1 : Int32) (x2 : Int32)  {r9 : Int32} (h : F_X7_yearOf S0 x1 x2 = some r9) : xM l (ωR D a b) yX7_yearOf cX7_yearOf 7 (some .int) rm_X7_yearOf [.ref (a 0), .int x1, .int x2] S0 (some (.int r9), S0) := by
  unfold F_X7_yearOf at h
  refine xM_of (own := "GraveOrderModel") (by decide) rfl (Nat.le_of_ble_eq_true rfl) (fun Γ C => ?_)
  refine x_sub 0 [0, 1, 2] (lv' := [(0, .ref (a 0)), (1, .int x1), (2, .int x2)]) rfl ?_
  refine x_iload_n 0 C dX7_yearOf_0 rfl 2 rfl ?_
  refine x_join (P := fun t1 => XAt (ωR D a b) Γ 10 [(0, .ref (a 0)), (1, .int x1), (2, .int x2)] [.int t1] S0) h (fun t1 h => ?_) (fun j2 hj2 h => ?_)
  · refine x_istore_n 10 C (lv' := [(0, .ref (a 0)), (1, .int x1), (2, .int x2), (3, .int t1)]) dX7_yearOf_10 rfl (Nat.le_of_ble_eq_true rfl) [1, 2, 3, 0] rfl ?_
    refine x_iconst 11 C dX7_yearOf_11 ci_1 ?_
    refine x_istore 12 C (lv' := [(0, .ref (a 0)), (1, .int x1), (2, .int x2), (3, .int t1), (4, .int 1)]) dX7_yearOf_12 (Nat.le_of_ble_eq_true rfl) [1, 2, 3, 4, 0] rfl ?_
    refine x_iconst 14 C dX7_yearOf_14 ci_0 ?_
    refine x_istore 15 C (lv' := [(0, .ref (a 0)), (1, .int x1), (2, .int x2), (3, .int t1), (4, .int 1), (5, .int 0)]) dX7_yearOf_15 (Nat.le_of_ble_eq_true rfl) [1, 2, 3, 4, 5, 0] rfl ?_
    refine x_loop (E := fun e => XAt (ωR D a b) Γ 127 [(3, .int e)] [] S0) (P := fun t => XAt (ωR D a b) Γ 17 [(0, .ref (a 0)), (1, .int x1), (2, .int x2), (3, .int t.1), (4, .int t.2.1), (5, .int t.2.2)] [] S0) h (fun e15 h => ?_) (fun kx rc t hk ih h => w_X7_yearOf_17 l D a b S0 C   x1 x2 kx rc hk ih t.1 t.2.1 t.2.2 h)
    refine x_iload_n 127 C dX7_yearOf_127 rfl 0 rfl ?_
    exact x_iret 128 C dX7_yearOf_128 (Option.some.inj h) rfl
  refine x_if_ne 1 C 8 dX7_yearOf_1 rfl h (fun h => ?_) (fun h => ?_)
  · refine x_bipush 8 C dX7_yearOf_8 cb_99 ?_
    exact hj2 _ h
  · refine x_iconst 4 C dX7_yearOf_4 ci_0 ?_
    refine x_goto 5 C 10 dX7_yearOf_5 rfl ?_
    exact hj2 _ h
/-! GraveOrderModel.graveYear (II)I -/
def F_X7_graveYear (S0 : XSr) (x1 : Int32) (x2 : Int32) : (Option (Int32 × XSr)) :=
  ((F_X7_areAny S0).bind fun z1 => (if z1.1 = 0 then (some ((-3), z1.2)) else ((F_X7_yearOf z1.2 x1 x2).bind fun z2 => (some (z2, z1.2)))))
abbrev rm_X7_graveYear : Room := { frames := 5, cells := 0, slots := 0, locals := 110 }
set_option maxRecDepth 100000 in
set_option maxHeartbeats 4000000 in
theorem M_X7_graveYear (l : Launch) (D : va_G) (a : Nat → Nat) (b : Nat → ClassId) (S0 : XSr) (x1 : Int32) (x2 : Int32)  {r9 : Int32} {S9 : XSr} (h : F_X7_graveYear S0 x1 x2 = some (r9, S9)) : xM l (ωR D a b) yX7_graveYear cX7_graveYear 3 (some .int) rm_X7_graveYear [.ref (a 0), .int x1, .int x2] S0 (some (.int r9), S9) := by
  unfold F_X7_graveYear at h
  refine xM_of (own := "GraveOrderModel") (by decide) rfl (Nat.le_of_ble_eq_true rfl) (fun Γ C => ?_)
  refine x_sub 0 [0, 1, 2] (lv' := [(0, .ref (a 0)), (1, .int x1), (2, .int x2)]) rfl ?_
  refine x_aload_n 0 C dX7_graveYear_0 rfl 0 rfl ?_
  obtain ⟨z1, hz1, h⟩ := xbind_some h
  refine x_callV 1 C (q0 := 0) (ci := 7) 0 (As := []) (rest := []) (M_X7_areAny l D a b S0   hz1) (by rfl) rfl kw_1015 mv_X7_areAny mh_X7_areAny ⟨rfl, rfl⟩ ⟨Nat.le_of_ble_eq_true rfl, Nat.le_of_ble_eq_true rfl⟩ rfl rfl (Nat.le_of_ble_eq_true rfl) dX7_graveYear_1 ?_
  refine x_if_eq 4 C 16 dX7_graveYear_4 rfl h (fun h => ?_) (fun h => ?_)
  · refine x_bipush 16 C dX7_graveYear_16 cb_m3 ?_
    exact x_iret 18 C dX7_graveYear_18 (Prod.mk.inj (Option.some.inj h)).1 (Prod.mk.inj (Option.some.inj h)).2
  · refine x_aload_n 7 C dX7_graveYear_7 rfl 0 rfl ?_
    refine x_iload_n 8 C dX7_graveYear_8 rfl 1 rfl ?_
    refine x_iload_n 9 C dX7_graveYear_9 rfl 2 rfl ?_
    obtain ⟨z2, hz2, h⟩ := xbind_some h
    refine x_callV 10 C (q0 := 0) (ci := 7) 2 (As := [.int x1, .int x2]) (rest := []) (M_X7_yearOf l D a b z1.2 x1 x2  hz2) (by rfl) rfl kw_1126 mv_X7_yearOf mh_X7_yearOf ⟨rfl, rfl⟩ ⟨Nat.le_of_ble_eq_true rfl, Nat.le_of_ble_eq_true rfl⟩ rfl rfl (Nat.le_of_ble_eq_true rfl) dX7_graveYear_10 ?_
    refine x_goto 13 C 18 dX7_graveYear_13 rfl ?_
    exact x_iret 18 C dX7_graveYear_18 (Prod.mk.inj (Option.some.inj h)).1 (Prod.mk.inj (Option.some.inj h)).2
