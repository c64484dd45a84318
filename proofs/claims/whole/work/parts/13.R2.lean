/-! GraveOrderModel.years (III)I -/
def B_X7_years_61 (c2 : Int32) (c3 : Int32) (kx : (Int32 × XSr) → Option (Int32 × XSr)) (rc : (Int32 × Int32 × XSr) → Option (Int32 × XSr)) (y4 : Int32) (y5 : Int32) (S1 : XSr) : Option (Int32 × XSr) :=
  (if (S1.1 0 0) ≤ y5 then kx (y4, S1) else ((F_X7_areAny S1).bind fun z3 => (if z3.1 = 0 then kx (y4, z3.2) else (if xin y5 8 = true then (if (F_X7_is (z3.2.1 14 (xti y5)) c2) = 0 then (xlet (y5 + 1) fun v5_5 => rc (y4, v5_5, z3.2)) else ((F_X7_yearOf z3.2 y5 c3).bind fun z6 => (if y4 = (-3) then (xlet (y5 + 1) fun v5_7 => rc (z6, v5_7, z3.2)) else (if c3 = 0 then (if y4 ≤ z6 then (xlet (y5 + 1) fun v5_10 => rc (y4, v5_10, z3.2)) else (xlet (y5 + 1) fun v5_11 => rc (z6, v5_11, z3.2))) else (if z6 ≤ y4 then (xlet (y5 + 1) fun v5_8 => rc (y4, v5_8, z3.2)) else (xlet (y5 + 1) fun v5_9 => rc (z6, v5_9, z3.2))))))) else none))))
def F_X7_years (S0 : XSr) (x1 : Int32) (x2 : Int32) (x3 : Int32) : (Option (Int32 × XSr)) :=
  (if (F_X7_in x1 0 1) = 0 then (some ((-2), S0)) else (xlet (fun (t1 : Unit) => (if (F_X7_in x3 0 1) = 0 then (some ((-2), S0)) else (if x1 = 0 then ((F_X7_graveYear S0 x2 x3).bind fun z13 => (some (z13.1, z13.2))) else (xlp (fun k rc t => B_X7_years_61  x2 x3 k rc t.1 t.2.1 t.2.2) (fun e12 => (some (e12.1, e12.2))) XFU ((-3), 0, S0))))) fun j2 => (if x1 = 0 then (if (F_X7_isGrave S0 x2) = 0 then (some ((-2), S0)) else j2 ()) else (if (F_X7_isKind x2) = 0 then (some ((-2), S0)) else j2 ()))))
abbrev rm_X7_years : Room := { frames := 6, cells := 0, slots := 0, locals := 132 }
set_option maxRecDepth 100000 in
set_option maxHeartbeats 4000000 in
theorem w_X7_years_61 (l : Launch) (D : va_G) (a : Nat → Nat) (b : Nat → ClassId) (S0 : XSr) {Γ : XG XSr} {r9 : Int32} {S9 : XSr} (C : Cx (ωR D a b) Γ cX7_years "GraveOrderModel" (some .int) l rm_X7_years 7 (some (.int r9), S9)) (c2 : Int32) (c3 : Int32)  (kx : (Int32 × XSr) → Option (Int32 × XSr)) (rc : (Int32 × Int32 × XSr) → Option (Int32 × XSr)) (hk : ∀ e, kx e = some (r9, S9) → XAt (ωR D a b) Γ 143 [(4, .int e.1)] [] e.2) (ih : ∀ t, rc t = some (r9, S9) → XAt (ωR D a b) Γ 61 [(0, .ref (a 0)), (2, .int c2), (3, .int c3), (4, .int t.1), (5, .int t.2.1)] [] t.2.2) (y4 : Int32) (y5 : Int32) (S1 : XSr) (h : B_X7_years_61  c2 c3 kx rc y4 y5 S1 = some (r9, S9)) : XAt (ωR D a b) Γ 61 [(0, .ref (a 0)), (2, .int c2), (3, .int c3), (4, .int y4), (5, .int y5)] [] S1 := by
  unfold B_X7_years_61 at h
  refine x_iload 61 C dX7_years_61 4 rfl ?_
  refine x_aload_n 63 C dX7_years_63 rfl 0 rfl ?_
  refine gX7_graves 64 C kw_786 dX7_years_64 ?_
  refine x_icmp_ge 67 C 143 dX7_years_67 rfl h (fun h => ?_) (fun h => ?_)
  · exact x_sub 143 [3] rfl (hk _ h)
  · refine x_aload_n 70 C dX7_years_70 rfl 0 rfl ?_
    obtain ⟨z3, hz3, h⟩ := xbind_some h
    refine x_callV 71 C (q0 := 0) (ci := 7) 0 (As := []) (rest := []) (M_X7_areAny l D a b S1   hz3) (by rfl) rfl kw_1015 mv_X7_areAny mh_X7_areAny ⟨rfl, rfl⟩ ⟨Nat.le_of_ble_eq_true rfl, Nat.le_of_ble_eq_true rfl⟩ rfl rfl (Nat.le_of_ble_eq_true rfl) dX7_years_71 ?_
    refine x_if_eq 74 C 143 dX7_years_74 rfl h (fun h => ?_) (fun h => ?_)
    · exact x_sub 143 [3] rfl (hk _ h)
    · refine x_aload_n 77 C dX7_years_77 rfl 0 rfl ?_
      refine gX7_have 78 C kw_807 dX7_years_78 ?_
      refine x_iload 81 C dX7_years_81 4 rfl ?_
      obtain ⟨hg4, h⟩ := xif_some h
      refine r_iald14 83 C hg4 dX7_years_83 ?_
      refine x_iload_n 84 C dX7_years_84 rfl 1 rfl ?_
      refine x_callS 85 C 2 (As := [.int (z3.2.1 14 (xti y5)), .int c2]) (rest := []) (M_X7_is l (ωR D a b) z3.2 (z3.2.1 14 (xti y5)) c2) kw_992 ms_X7_is mh_X7_is ⟨rfl, rfl⟩ ⟨Nat.le_of_ble_eq_true rfl, Nat.le_of_ble_eq_true rfl⟩ rfl rfl (Nat.le_of_ble_eq_true rfl) dX7_years_85 ?_
      refine x_if_eq 88 C 137 dX7_years_88 rfl h (fun h => ?_) (fun h => ?_)
      · refine x_iinc 137 C (L := fun v5_5 => [(0, .ref (a 0)), (2, .int c2), (3, .int c3), (4, .int y4), (5, .int v5_5)]) dX7_years_137 4 rfl ci_1 (Nat.le_of_ble_eq_true rfl) [1, 2, 3, 4, 0] (fun _ => rfl) h (fun v5_5 h => ?_)
        refine x_goto 140 C 61 dX7_years_140 rfl ?_
        exact ih _ h
      · refine x_aload_n 91 C dX7_years_91 rfl 0 rfl ?_
        refine x_iload 92 C dX7_years_92 4 rfl ?_
        refine x_iload_n 94 C dX7_years_94 rfl 2 rfl ?_
        obtain ⟨z6, hz6, h⟩ := xbind_some h
        refine x_callV 95 C (q0 := 0) (ci := 7) 2 (As := [.int y5, .int c3]) (rest := []) (M_X7_yearOf l D a b z3.2 y5 c3  hz6) (by rfl) rfl kw_1126 mv_X7_yearOf mh_X7_yearOf ⟨rfl, rfl⟩ ⟨Nat.le_of_ble_eq_true rfl, Nat.le_of_ble_eq_true rfl⟩ rfl rfl (Nat.le_of_ble_eq_true rfl) dX7_years_95 ?_
        refine x_istore 98 C (lv' := [(0, .ref (a 0)), (2, .int c2), (3, .int c3), (4, .int y4), (5, .int y5), (6, .int z6)]) dX7_years_98 (Nat.le_of_ble_eq_true rfl) [1, 2, 3, 4, 5, 0] rfl ?_
        refine x_iload 100 C dX7_years_100 3 rfl ?_
        refine x_bipush 102 C dX7_years_102 cb_m3 ?_
        refine x_icmp_eq 104 C 128 dX7_years_104 rfl h (fun h => ?_) (fun h => ?_)
        · refine x_iload 128 C dX7_years_128 5 rfl ?_
          refine x_goto 130 C 135 dX7_years_130 rfl ?_
          refine x_istore 135 C (lv' := [(0, .ref (a 0)), (2, .int c2), (3, .int c3), (4, .int z6), (5, .int y5)]) dX7_years_135 (Nat.le_of_ble_eq_true rfl) [1, 2, 3, 0, 4] rfl ?_
          refine x_iinc 137 C (L := fun v5_7 => [(0, .ref (a 0)), (2, .int c2), (3, .int c3), (4, .int z6), (5, .int v5_7)]) dX7_years_137 4 rfl ci_1 (Nat.le_of_ble_eq_true rfl) [1, 2, 3, 4, 0] (fun _ => rfl) h (fun v5_7 h => ?_)
          refine x_goto 140 C 61 dX7_years_140 rfl ?_
          exact ih _ h
        · refine x_iload_n 107 C dX7_years_107 rfl 2 rfl ?_
          refine x_if_ne 108 C 121 dX7_years_108 rfl h (fun h => ?_) (fun h => ?_)
          · refine x_iload 121 C dX7_years_121 5 rfl ?_
            refine x_iload 123 C dX7_years_123 3 rfl ?_
            refine x_icmp_le 125 C 133 dX7_years_125 rfl h (fun h => ?_) (fun h => ?_)
            · refine x_iload 133 C dX7_years_133 3 rfl ?_
              refine x_istore 135 C (lv' := [(0, .ref (a 0)), (2, .int c2), (3, .int c3), (4, .int y4), (5, .int y5)]) dX7_years_135 (Nat.le_of_ble_eq_true rfl) [1, 2, 3, 0, 4] rfl ?_
              refine x_iinc 137 C (L := fun v5_8 => [(0, .ref (a 0)), (2, .int c2), (3, .int c3), (4, .int y4), (5, .int v5_8)]) dX7_years_137 4 rfl ci_1 (Nat.le_of_ble_eq_true rfl) [1, 2, 3, 4, 0] (fun _ => rfl) h (fun v5_8 h => ?_)
              refine x_goto 140 C 61 dX7_years_140 rfl ?_
              exact ih _ h
            · refine x_iload 128 C dX7_years_128 5 rfl ?_
              refine x_goto 130 C 135 dX7_years_130 rfl ?_
              refine x_istore 135 C (lv' := [(0, .ref (a 0)), (2, .int c2), (3, .int c3), (4, .int z6), (5, .int y5)]) dX7_years_135 (Nat.le_of_ble_eq_true rfl) [1, 2, 3, 0, 4] rfl ?_
              refine x_iinc 137 C (L := fun v5_9 => [(0, .ref (a 0)), (2, .int c2), (3, .int c3), (4, .int z6), (5, .int v5_9)]) dX7_years_137 4 rfl ci_1 (Nat.le_of_ble_eq_true rfl) [1, 2, 3, 4, 0] (fun _ => rfl) h (fun v5_9 h => ?_)
              refine x_goto 140 C 61 dX7_years_140 rfl ?_
              exact ih _ h
          · refine x_iload 111 C dX7_years_111 5 rfl ?_
            refine x_iload 113 C dX7_years_113 3 rfl ?_
            refine x_icmp_ge 115 C 133 dX7_years_115 rfl h (fun h => ?_) (fun h => ?_)
            · refine x_iload 133 C dX7_years_133 3 rfl ?_
              refine x_istore 135 C (lv' := [(0, .ref (a 0)), (2, .int c2), (3, .int c3), (4, .int y4), (5, .int y5)]) dX7_years_135 (Nat.le_of_ble_eq_true rfl) [1, 2, 3, 0, 4] rfl ?_
              refine x_iinc 137 C (L := fun v5_10 => [(0, .ref (a 0)), (2, .int c2), (3, .int c3), (4, .int y4), (5, .int v5_10)]) dX7_years_137 4 rfl ci_1 (Nat.le_of_ble_eq_true rfl) [1, 2, 3, 4, 0] (fun _ => rfl) h (fun v5_10 h => ?_)
              refine x_goto 140 C 61 dX7_years_140 rfl ?_
              exact ih _ h
            · refine x_goto 118 C 128 dX7_years_118 rfl ?_
              refine x_iload 128 C dX7_years_128 5 rfl ?_
              refine x_goto 130 C 135 dX7_years_130 rfl ?_
              refine x_istore 135 C (lv' := [(0, .ref (a 0)), (2, .int c2), (3, .int c3), (4, .int z6), (5, .int y5)]) dX7_years_135 (Nat.le_of_ble_eq_true rfl) [1, 2, 3, 0, 4] rfl ?_
              refine x_iinc 137 C (L := fun v5_11 => [(0, .ref (a 0)), (2, .int c2), (3, .int c3), (4, .int z6), (5, .int v5_11)]) dX7_years_137 4 rfl ci_1 (Nat.le_of_ble_eq_true rfl) [1, 2, 3, 4, 0] (fun _ => rfl) h (fun v5_11 h => ?_)
              refine x_goto 140 C 61 dX7_years_140 rfl ?_
              exact ih _ h
set_option maxRecDepth 100000 in
set_option maxHeartbeats 4000000 in
theorem M_X7_years (l : Launch) (D : va_G) (a : Nat → Nat) (b : Nat → ClassId) (S0 : XSr) (x1 : Int32) (x2 : Int32) (x3 : Int32)  {r9 : Int32} {S9 : XSr} (h : F_X7_years S0 x1 x2 x3 = some (r9, S9)) : xM l (ωR D a b) yX7_years cX7_years 7 (some .int) rm_X7_years [.ref (a 0), .int x1, .int x2, .int x3] S0 (some (.int r9), S9) := by
  unfold F_X7_years at h
  refine xM_of (own := "GraveOrderModel") (by decide) rfl (Nat.le_of_ble_eq_true rfl) (fun Γ C => ?_)
  refine x_sub 0 [0, 1, 2, 3] (lv' := [(0, .ref (a 0)), (1, .int x1), (2, .int x2), (3, .int x3)]) rfl ?_
  refine x_iload_n 0 C dX7_years_0 rfl 1 rfl ?_
  refine x_iconst 1 C dX7_years_1 ci_0 ?_
  refine x_iconst 2 C dX7_years_2 ci_1 ?_
  refine x_callS 3 C 3 (As := [.int x1, .int 0, .int 1]) (rest := []) (M_X7_in l (ωR D a b) S0 x1 0 1) kw_911 ms_X7_in mh_X7_in ⟨rfl, rfl⟩ ⟨Nat.le_of_ble_eq_true rfl, Nat.le_of_ble_eq_true rfl⟩ rfl rfl (Nat.le_of_ble_eq_true rfl) dX7_years_3 ?_
  refine x_if_eq 6 C 40 dX7_years_6 rfl h (fun h => ?_) (fun h => ?_)
  · refine x_bipush 40 C dX7_years_40 cb_m2 ?_
    exact x_iret 42 C dX7_years_42 (Prod.mk.inj (Option.some.inj h)).1 (Prod.mk.inj (Option.some.inj h)).2
  · refine x_iload_n 9 C dX7_years_9 rfl 1 rfl ?_
    refine x_join (P := fun t1 => XAt (ωR D a b) Γ 31 [(0, .ref (a 0)), (1, .int x1), (2, .int x2), (3, .int x3)] [] S0) h (fun t1 h => ?_) (fun j2 hj2 h => ?_)
    · refine x_iload_n 31 C dX7_years_31 rfl 3 rfl ?_
      refine x_iconst 32 C dX7_years_32 ci_0 ?_
      refine x_iconst 33 C dX7_years_33 ci_1 ?_
      refine x_callS 34 C 3 (As := [.int x3, .int 0, .int 1]) (rest := []) (M_X7_in l (ωR D a b) S0 x3 0 1) kw_911 ms_X7_in mh_X7_in ⟨rfl, rfl⟩ ⟨Nat.le_of_ble_eq_true rfl, Nat.le_of_ble_eq_true rfl⟩ rfl rfl (Nat.le_of_ble_eq_true rfl) dX7_years_34 ?_
      refine x_if_ne 37 C 43 dX7_years_37 rfl h (fun h => ?_) (fun h => ?_)
      · refine x_iload_n 43 C dX7_years_43 rfl 1 rfl ?_
        refine x_if_ne 44 C 54 dX7_years_44 rfl h (fun h => ?_) (fun h => ?_)
        · refine x_bipush 54 C dX7_years_54 cb_m3 ?_
          refine x_istore 56 C (lv' := [(0, .ref (a 0)), (2, .int x2), (3, .int x3), (4, .int (-3))]) dX7_years_56 (Nat.le_of_ble_eq_true rfl) [1, 3, 4, 0] rfl ?_
          refine x_iconst 58 C dX7_years_58 ci_0 ?_
          refine x_istore 59 C (lv' := [(0, .ref (a 0)), (2, .int x2), (3, .int x3), (4, .int (-3)), (5, .int 0)]) dX7_years_59 (Nat.le_of_ble_eq_true rfl) [1, 2, 3, 4, 0] rfl ?_
          refine x_loop (E := fun e => XAt (ωR D a b) Γ 143 [(4, .int e.1)] [] e.2) (P := fun t => XAt (ωR D a b) Γ 61 [(0, .ref (a 0)), (2, .int x2), (3, .int x3), (4, .int t.1), (5, .int t.2.1)] [] t.2.2) h (fun e12 h => ?_) (fun kx rc t hk ih h => w_X7_years_61 l D a b S0 C   x2 x3 kx rc hk ih t.1 t.2.1 t.2.2 h)
          refine x_iload 143 C dX7_years_143 0 rfl ?_
          exact x_iret 145 C dX7_years_145 (Prod.mk.inj (Option.some.inj h)).1 (Prod.mk.inj (Option.some.inj h)).2
        · refine x_aload_n 47 C dX7_years_47 rfl 0 rfl ?_
          refine x_iload_n 48 C dX7_years_48 rfl 2 rfl ?_
          refine x_iload_n 49 C dX7_years_49 rfl 3 rfl ?_
          obtain ⟨z13, hz13, h⟩ := xbind_some h
          refine x_callV 50 C (q0 := 0) (ci := 7) 2 (As := [.int x2, .int x3]) (rest := []) (M_X7_graveYear l D a b S0 x2 x3  hz13) (by rfl) rfl kw_1122 mv_X7_graveYear mh_X7_graveYear ⟨rfl, rfl⟩ ⟨Nat.le_of_ble_eq_true rfl, Nat.le_of_ble_eq_true rfl⟩ rfl rfl (Nat.le_of_ble_eq_true rfl) dX7_years_50 ?_
          exact x_iret 53 C dX7_years_53 (Prod.mk.inj (Option.some.inj h)).1 (Prod.mk.inj (Option.some.inj h)).2
      · refine x_bipush 40 C dX7_years_40 cb_m2 ?_
        exact x_iret 42 C dX7_years_42 (Prod.mk.inj (Option.some.inj h)).1 (Prod.mk.inj (Option.some.inj h)).2
    refine x_if_ne 10 C 24 dX7_years_10 rfl h (fun h => ?_) (fun h => ?_)
    · refine x_iload_n 24 C dX7_years_24 rfl 2 rfl ?_
      refine x_callS 25 C 1 (As := [.int x2]) (rest := []) (M_X7_isKind l (ωR D a b) S0 x2) kw_926 ms_X7_isKind mh_X7_isKind ⟨rfl, rfl⟩ ⟨Nat.le_of_ble_eq_true rfl, Nat.le_of_ble_eq_true rfl⟩ rfl rfl (Nat.le_of_ble_eq_true rfl) dX7_years_25 ?_
      refine x_if_eq 28 C 40 dX7_years_28 rfl h (fun h => ?_) (fun h => ?_)
      · refine x_bipush 40 C dX7_years_40 cb_m2 ?_
        exact x_iret 42 C dX7_years_42 (Prod.mk.inj (Option.some.inj h)).1 (Prod.mk.inj (Option.some.inj h)).2
      · exact hj2 _ h
    · refine x_aload_n 13 C dX7_years_13 rfl 0 rfl ?_
      refine x_iload_n 14 C dX7_years_14 rfl 2 rfl ?_
      refine x_callV 15 C (q0 := 0) (ci := 7) 1 (As := [.int x2]) (rest := []) (M_X7_isGrave l D a b S0 x2 ) (by rfl) rfl kw_918 mv_X7_isGrave mh_X7_isGrave ⟨rfl, rfl⟩ ⟨Nat.le_of_ble_eq_true rfl, Nat.le_of_ble_eq_true rfl⟩ rfl rfl (Nat.le_of_ble_eq_true rfl) dX7_years_15 ?_
      refine x_if_eq 18 C 40 dX7_years_18 rfl h (fun h => ?_) (fun h => ?_)
      · refine x_bipush 40 C dX7_years_40 cb_m2 ?_
        exact x_iret 42 C dX7_years_42 (Prod.mk.inj (Option.some.inj h)).1 (Prod.mk.inj (Option.some.inj h)).2
      · refine x_goto 21 C 31 dX7_years_21 rfl ?_
        exact hj2 _ h
/-! GraveOrderModel.gapsWith (IIZ)I -/
def B_X7_gapsWith_9 (S0 : XSr) (c1 : Int32) (c2 : Int32) (c3 : Int32) (kx : Int32 → Option Int32) (rc : (Int32 × Int32 × Int32) → Option Int32) (y4 : Int32) (y5 : Int32) (y6 : Int32) : Option Int32 :=
  (if (S0.1 0 0) < y6 then kx y4 else (xlet (fun (t1 : Int32) => (xlet (fun (t3 : Int32) => (xlet (fun (t5 : (Int32 × Int32 × Int32 × Int32 × Int32)) => (if t5.2.1 = (-1) then (xlet (t5.2.2.1 + 1) fun v6_7 => rc (t5.1, t5.2.1, v6_7)) else (if t5.2.2.2.1 = 0 then (if (F_X7_is (S0.1 0 3) t5.2.2.2.2) = 0 then (xlet (t5.2.1 + (1 : Int32)) fun v5_10 => (xlet (t5.2.2.1 + 1) fun v6_11 => rc (t5.1, v5_10, v6_11))) else (xlet (t5.2.1 + (0 : Int32)) fun v5_12 => (xlet (t5.2.2.1 + 1) fun v6_13 => rc (t5.1, v5_12, v6_13)))) else (xlet (t5.2.1 + (1 : Int32)) fun v5_8 => (xlet (t5.2.2.1 + 1) fun v6_9 => rc (t5.1, v5_8, v6_9)))))) fun j6 => (xlet (fun (t14 : (Int32 × Int32)) => (xlet (fun (t16 : Int32) => (xlet (y4 + t16) fun v4_18 => (xlet (t14.2 + 1) fun v6_19 => rc (v4_18, 0, v6_19)))) fun j17 => (if t14.1 = (-1) then j17 0 else j17 t14.1))) fun j15 => (if t1 = 0 then (if xin t3 8 = true then (if (F_X7_is (S0.1 14 (xti t3)) c1) = 0 then j6 (y4, y5, y6, t1, t3) else j15 (y5, y6)) else none) else (if c3 = 0 then j6 (y4, y5, y6, t1, t3) else j15 (y5, y6)))))) fun j4 => (if t1 = 0 then (if c2 ≤ y6 then (if xin (y6 - (1 : Int32)) 8 = true then j4 (S0.1 17 (xti (y6 - (1 : Int32)))) else none) else (if xin y6 8 = true then j4 (S0.1 17 (xti y6)) else none)) else j4 0))) fun j2 => (if y6 = c2 then j2 1 else j2 0)))
def F_X7_gapsWith (S0 : XSr) (x1 : Int32) (x2 : Int32) (x3 : Int32) : (Option Int32) :=
  (xlp (fun k rc t => B_X7_gapsWith_9 S0  x1 x2 x3 k rc t.1 t.2.1 t.2.2) (fun e23 => (some e23)) XFU (0, (-1), 0))
abbrev rm_X7_gapsWith : Room := { frames := 1, cells := 0, slots := 0, locals := 21 }
set_option maxRecDepth 100000 in
set_option maxHeartbeats 4000000 in
theorem w_X7_gapsWith_9 (l : Launch) (D : va_G) (a : Nat → Nat) (b : Nat → ClassId) (S0 : XSr) {Γ : XG XSr} {r9 : Int32} (C : Cx (ωR D a b) Γ cX7_gapsWith "GraveOrderModel" (some .int) l rm_X7_gapsWith 9 (some (.int r9), S0)) (c1 : Int32) (c2 : Int32) (c3 : Int32)  (kx : Int32 → Option Int32) (rc : (Int32 × Int32 × Int32) → Option Int32) (hk : ∀ e, kx e = some r9 → XAt (ωR D a b) Γ 150 [(4, .int e)] [] S0) (ih : ∀ t, rc t = some r9 → XAt (ωR D a b) Γ 9 [(0, .ref (a 0)), (1, .int c1), (2, .int c2), (3, .int c3), (4, .int t.1), (5, .int t.2.1), (6, .int t.2.2)] [] S0) (y4 : Int32) (y5 : Int32) (y6 : Int32) (h : B_X7_gapsWith_9 S0  c1 c2 c3 kx rc y4 y5 y6 = some r9) : XAt (ωR D a b) Γ 9 [(0, .ref (a 0)), (1, .int c1), (2, .int c2), (3, .int c3), (4, .int y4), (5, .int y5), (6, .int y6)] [] S0 := by
  unfold B_X7_gapsWith_9 at h
  refine x_iload 9 C dX7_gapsWith_9 6 rfl ?_
  refine x_aload_n 11 C dX7_gapsWith_11 rfl 0 rfl ?_
  refine gX7_graves 12 C kw_786 dX7_gapsWith_12 ?_
  refine x_icmp_gt 15 C 150 dX7_gapsWith_15 rfl h (fun h => ?_) (fun h => ?_)
  · exact x_sub 150 [4] rfl (hk _ h)
  · refine x_iload 18 C dX7_gapsWith_18 6 rfl ?_
    refine x_iload_n 20 C dX7_gapsWith_20 rfl 2 rfl ?_
    refine x_join (P := fun t1 => XAt (ωR D a b) Γ 29 [(0, .ref (a 0)), (1, .int c1), (2, .int c2), (3, .int c3), (4, .int y4), (5, .int y5), (6, .int y6)] [.int t1] S0) h (fun t1 h => ?_) (fun j2 hj2 h => ?_)
    · refine x_istore 29 C (lv' := [(0, .ref (a 0)), (1, .int c1), (2, .int c2), (3, .int c3), (4, .int y4), (5, .int y5), (6, .int y6), (7, .int t1)]) dX7_gapsWith_29 (Nat.le_of_ble_eq_true rfl) [1, 2, 3, 4, 5, 6, 7, 0] rfl ?_
      refine x_iload 31 C dX7_gapsWith_31 7 rfl ?_
      refine x_join (P := fun t3 => XAt (ωR D a b) Γ 60 [(0, .ref (a 0)), (1, .int c1), (2, .int c2), (3, .int c3), (4, .int y4), (5, .int y5), (6, .int y6), (7, .int t1)] [.int t3] S0) h (fun t3 h => ?_) (fun j4 hj4 h => ?_)
      · refine x_istore 60 C (lv' := [(0, .ref (a 0)), (1, .int c1), (2, .int c2), (3, .int c3), (4, .int y4), (5, .int y5), (6, .int y6), (7, .int t1), (8, .int t3)]) dX7_gapsWith_60 (Nat.le_of_ble_eq_true rfl) [1, 2, 3, 4, 5, 6, 7, 8, 0] rfl ?_
        refine x_iload 62 C dX7_gapsWith_62 7 rfl ?_
        refine x_join (P := fun t5 => XAt (ωR D a b) Γ 111 [(0, .ref (a 0)), (1, .int c1), (2, .int c2), (3, .int c3), (4, .int t5.1), (5, .int t5.2.1), (6, .int t5.2.2.1), (7, .int t5.2.2.2.1), (8, .int t5.2.2.2.2)] [] S0) h (fun t5 h => ?_) (fun j6 hj6 h => ?_)
        · refine x_iload 111 C dX7_gapsWith_111 5 rfl ?_
          refine x_iconst 113 C dX7_gapsWith_113 ci_m1 ?_
          refine x_icmp_eq 114 C 144 dX7_gapsWith_114 rfl h (fun h => ?_) (fun h => ?_)
          · refine x_iinc 144 C (L := fun v6_7 => [(0, .ref (a 0)), (1, .int c1), (2, .int c2), (3, .int c3), (4, .int t5.1), (5, .int t5.2.1), (6, .int v6_7)]) dX7_gapsWith_144 6 rfl ci_1 (Nat.le_of_ble_eq_true rfl) [1, 2, 3, 4, 5, 6, 0] (fun _ => rfl) h (fun v6_7 h => ?_)
            refine x_goto 147 C 9 dX7_gapsWith_147 rfl ?_
            exact ih _ h
          · refine x_iload 117 C dX7_gapsWith_117 5 rfl ?_
            refine x_iload 119 C dX7_gapsWith_119 7 rfl ?_
            refine x_if_ne 121 C 140 dX7_gapsWith_121 rfl h (fun h => ?_) (fun h => ?_)
            · refine x_iconst 140 C dX7_gapsWith_140 ci_1 ?_
              refine x_iadd 141 C dX7_gapsWith_141 ?_
              refine x_top h (fun v5_8 h => ?_)
              refine x_istore 142 C (lv' := [(0, .ref (a 0)), (1, .int c1), (2, .int c2), (3, .int c3), (4, .int t5.1), (5, .int v5_8), (6, .int t5.2.2.1)]) dX7_gapsWith_142 (Nat.le_of_ble_eq_true rfl) [1, 2, 3, 4, 5, 0, 6] rfl ?_
              refine x_iinc 144 C (L := fun v6_9 => [(0, .ref (a 0)), (1, .int c1), (2, .int c2), (3, .int c3), (4, .int t5.1), (5, .int v5_8), (6, .int v6_9)]) dX7_gapsWith_144 6 rfl ci_1 (Nat.le_of_ble_eq_true rfl) [1, 2, 3, 4, 5, 6, 0] (fun _ => rfl) h (fun v6_9 h => ?_)
              refine x_goto 147 C 9 dX7_gapsWith_147 rfl ?_
              exact ih _ h
            · refine x_aload_n 124 C dX7_gapsWith_124 rfl 0 rfl ?_
              refine gX7_robbers 125 C kw_789 dX7_gapsWith_125 ?_
              refine x_iload 128 C dX7_gapsWith_128 8 rfl ?_
              refine x_callS 130 C 2 (As := [.int (S0.1 0 3), .int t5.2.2.2.2]) (rest := [.int t5.2.1]) (M_X7_is l (ωR D a b) S0 (S0.1 0 3) t5.2.2.2.2) kw_992 ms_X7_is mh_X7_is ⟨rfl, rfl⟩ ⟨Nat.le_of_ble_eq_true rfl, Nat.le_of_ble_eq_true rfl⟩ rfl rfl (Nat.le_of_ble_eq_true rfl) dX7_gapsWith_130 ?_
              refine x_if_eq 133 C 140 dX7_gapsWith_133 rfl h (fun h => ?_) (fun h => ?_)
              · refine x_iconst 140 C dX7_gapsWith_140 ci_1 ?_
                refine x_iadd 141 C dX7_gapsWith_141 ?_
                refine x_top h (fun v5_10 h => ?_)
                refine x_istore 142 C (lv' := [(0, .ref (a 0)), (1, .int c1), (2, .int c2), (3, .int c3), (4, .int t5.1), (5, .int v5_10), (6, .int t5.2.2.1)]) dX7_gapsWith_142 (Nat.le_of_ble_eq_true rfl) [1, 2, 3, 4, 5, 0, 6] rfl ?_
                refine x_iinc 144 C (L := fun v6_11 => [(0, .ref (a 0)), (1, .int c1), (2, .int c2), (3, .int c3), (4, .int t5.1), (5, .int v5_10), (6, .int v6_11)]) dX7_gapsWith_144 6 rfl ci_1 (Nat.le_of_ble_eq_true rfl) [1, 2, 3, 4, 5, 6, 0] (fun _ => rfl) h (fun v6_11 h => ?_)
                refine x_goto 147 C 9 dX7_gapsWith_147 rfl ?_
                exact ih _ h
              · refine x_iconst 136 C dX7_gapsWith_136 ci_0 ?_
                refine x_goto 137 C 141 dX7_gapsWith_137 rfl ?_
                refine x_iadd 141 C dX7_gapsWith_141 ?_
                refine x_top h (fun v5_12 h => ?_)
                refine x_istore 142 C (lv' := [(0, .ref (a 0)), (1, .int c1), (2, .int c2), (3, .int c3), (4, .int t5.1), (5, .int v5_12), (6, .int t5.2.2.1)]) dX7_gapsWith_142 (Nat.le_of_ble_eq_true rfl) [1, 2, 3, 4, 5, 0, 6] rfl ?_
                refine x_iinc 144 C (L := fun v6_13 => [(0, .ref (a 0)), (1, .int c1), (2, .int c2), (3, .int c3), (4, .int t5.1), (5, .int v5_12), (6, .int v6_13)]) dX7_gapsWith_144 6 rfl ci_1 (Nat.le_of_ble_eq_true rfl) [1, 2, 3, 4, 5, 6, 0] (fun _ => rfl) h (fun v6_13 h => ?_)
                refine x_goto 147 C 9 dX7_gapsWith_147 rfl ?_
                exact ih _ h
        refine x_join (P := fun t14 => XAt (ωR D a b) Γ 88 [(0, .ref (a 0)), (1, .int c1), (2, .int c2), (3, .int c3), (4, .int y4), (5, .int t14.1), (6, .int t14.2)] [] S0) h (fun t14 h => ?_) (fun j15 hj15 h => ?_)
        · refine x_iload 88 C dX7_gapsWith_88 4 rfl ?_
          refine x_iload 90 C dX7_gapsWith_90 5 rfl ?_
          refine x_iconst 92 C dX7_gapsWith_92 ci_m1 ?_
          refine x_join (P := fun t16 => XAt (ωR D a b) Γ 102 [(0, .ref (a 0)), (1, .int c1), (2, .int c2), (3, .int c3), (6, .int t14.2)] [.int t16, .int y4] S0) h (fun t16 h => ?_) (fun j17 hj17 h => ?_)
          · refine x_iadd 102 C dX7_gapsWith_102 ?_
            refine x_top h (fun v4_18 h => ?_)
            refine x_istore 103 C (lv' := [(0, .ref (a 0)), (1, .int c1), (2, .int c2), (3, .int c3), (4, .int v4_18), (6, .int t14.2)]) dX7_gapsWith_103 (Nat.le_of_ble_eq_true rfl) [1, 2, 3, 4, 0, 5] rfl ?_
            refine x_iconst 105 C dX7_gapsWith_105 ci_0 ?_
            refine x_istore 106 C (lv' := [(0, .ref (a 0)), (1, .int c1), (2, .int c2), (3, .int c3), (4, .int v4_18), (5, .int 0), (6, .int t14.2)]) dX7_gapsWith_106 (Nat.le_of_ble_eq_true rfl) [1, 2, 3, 4, 5, 0, 6] rfl ?_
            refine x_goto 108 C 144 dX7_gapsWith_108 rfl ?_
            refine x_iinc 144 C (L := fun v6_19 => [(0, .ref (a 0)), (1, .int c1), (2, .int c2), (3, .int c3), (4, .int v4_18), (5, .int 0), (6, .int v6_19)]) dX7_gapsWith_144 6 rfl ci_1 (Nat.le_of_ble_eq_true rfl) [1, 2, 3, 4, 5, 6, 0] (fun _ => rfl) h (fun v6_19 h => ?_)
            refine x_goto 147 C 9 dX7_gapsWith_147 rfl ?_
            exact ih _ h
          refine x_icmp_ne 93 C 100 dX7_gapsWith_93 rfl h (fun h => ?_) (fun h => ?_)
          · refine x_iload 100 C dX7_gapsWith_100 5 rfl ?_
            exact x_sub 102 [0, 1, 2, 3, 6] rfl (hj17 _ h)
          · refine x_iconst 96 C dX7_gapsWith_96 ci_0 ?_
            refine x_goto 97 C 102 dX7_gapsWith_97 rfl ?_
            exact x_sub 102 [0, 1, 2, 3, 6] rfl (hj17 _ h)
        refine x_if_eq 64 C 74 dX7_gapsWith_64 rfl h (fun h => ?_) (fun h => ?_)
        · refine x_aload_n 74 C dX7_gapsWith_74 rfl 0 rfl ?_
          refine gX7_have 75 C kw_807 dX7_gapsWith_75 ?_
          refine x_iload 78 C dX7_gapsWith_78 8 rfl ?_
          obtain ⟨hg20, h⟩ := xif_some h
          refine r_iald14 80 C hg20 dX7_gapsWith_80 ?_
          refine x_iload_n 81 C dX7_gapsWith_81 rfl 1 rfl ?_
          refine x_callS 82 C 2 (As := [.int (S0.1 14 (xti t3)), .int c1]) (rest := []) (M_X7_is l (ωR D a b) S0 (S0.1 14 (xti t3)) c1) kw_992 ms_X7_is mh_X7_is ⟨rfl, rfl⟩ ⟨Nat.le_of_ble_eq_true rfl, Nat.le_of_ble_eq_true rfl⟩ rfl rfl (Nat.le_of_ble_eq_true rfl) dX7_gapsWith_82 ?_
          refine x_if_eq 85 C 111 dX7_gapsWith_85 rfl h (fun h => ?_) (fun h => ?_)
          · exact hj6 _ h
          · exact x_sub 88 [0, 1, 2, 3, 4, 5, 6] rfl (hj15 _ h)
        · refine x_iload_n 67 C dX7_gapsWith_67 rfl 3 rfl ?_
          refine x_if_eq 68 C 111 dX7_gapsWith_68 rfl h (fun h => ?_) (fun h => ?_)
          · exact hj6 _ h
          · refine x_goto 71 C 88 dX7_gapsWith_71 rfl ?_
            exact x_sub 88 [0, 1, 2, 3, 4, 5, 6] rfl (hj15 _ h)
      refine x_if_eq 33 C 40 dX7_gapsWith_33 rfl h (fun h => ?_) (fun h => ?_)
      · refine x_aload_n 40 C dX7_gapsWith_40 rfl 0 rfl ?_
        refine gX7_firstOrder 41 C kw_814 dX7_gapsWith_41 ?_
        refine x_iload 44 C dX7_gapsWith_44 6 rfl ?_
        refine x_iload_n 46 C dX7_gapsWith_46 rfl 2 rfl ?_
        refine x_icmp_ge 47 C 55 dX7_gapsWith_47 rfl h (fun h => ?_) (fun h => ?_)
        · refine x_iload 55 C dX7_gapsWith_55 6 rfl ?_
          refine x_iconst 57 C dX7_gapsWith_57 ci_1 ?_
          refine x_isub 58 C dX7_gapsWith_58 ?_
          obtain ⟨hg21, h⟩ := xif_some h
          refine r_iald17 59 C hg21 dX7_gapsWith_59 ?_
          exact hj4 _ h
        · refine x_iload 50 C dX7_gapsWith_50 6 rfl ?_
          refine x_goto 52 C 59 dX7_gapsWith_52 rfl ?_
          obtain ⟨hg22, h⟩ := xif_some h
          refine r_iald17 59 C hg22 dX7_gapsWith_59 ?_
          exact hj4 _ h
      · refine x_iconst 36 C dX7_gapsWith_36 ci_0 ?_
        refine x_goto 37 C 60 dX7_gapsWith_37 rfl ?_
        exact hj4 _ h
    refine x_icmp_ne 21 C 28 dX7_gapsWith_21 rfl h (fun h => ?_) (fun h => ?_)
    · refine x_iconst 28 C dX7_gapsWith_28 ci_0 ?_
      exact hj2 _ h
    · refine x_iconst 24 C dX7_gapsWith_24 ci_1 ?_
      refine x_goto 25 C 29 dX7_gapsWith_25 rfl ?_
      exact hj2 _ h
set_option maxRecDepth 100000 in
set_option maxHeartbeats 4000000 in
theorem M_X7_gapsWith (l : Launch) (D : va_G) (a : Nat → Nat) (b : Nat → ClassId) (S0 : XSr) (x1 : Int32) (x2 : Int32) (x3 : Int32)  {r9 : Int32} (h : F_X7_gapsWith S0 x1 x2 x3 = some r9) : xM l (ωR D a b) yX7_gapsWith cX7_gapsWith 9 (some .int) rm_X7_gapsWith [.ref (a 0), .int x1, .int x2, .int x3] S0 (some (.int r9), S0) := by
  unfold F_X7_gapsWith at h
  refine xM_of (own := "GraveOrderModel") (by decide) rfl (Nat.le_of_ble_eq_true rfl) (fun Γ C => ?_)
  refine x_sub 0 [0, 1, 2, 3] (lv' := [(0, .ref (a 0)), (1, .int x1), (2, .int x2), (3, .int x3)]) rfl ?_
  refine x_iconst 0 C dX7_gapsWith_0 ci_0 ?_
  refine x_istore 1 C (lv' := [(0, .ref (a 0)), (1, .int x1), (2, .int x2), (3, .int x3), (4, .int 0)]) dX7_gapsWith_1 (Nat.le_of_ble_eq_true rfl) [1, 2, 3, 4, 0] rfl ?_
  refine x_iconst 3 C dX7_gapsWith_3 ci_m1 ?_
  refine x_istore 4 C (lv' := [(0, .ref (a 0)), (1, .int x1), (2, .int x2), (3, .int x3), (4, .int 0), (5, .int (-1))]) dX7_gapsWith_4 (Nat.le_of_ble_eq_true rfl) [1, 2, 3, 4, 5, 0] rfl ?_
  refine x_iconst 6 C dX7_gapsWith_6 ci_0 ?_
  refine x_istore 7 C (lv' := [(0, .ref (a 0)), (1, .int x1), (2, .int x2), (3, .int x3), (4, .int 0), (5, .int (-1)), (6, .int 0)]) dX7_gapsWith_7 (Nat.le_of_ble_eq_true rfl) [1, 2, 3, 4, 5, 6, 0] rfl ?_
  refine x_loop (E := fun e => XAt (ωR D a b) Γ 150 [(4, .int e)] [] S0) (P := fun t => XAt (ωR D a b) Γ 9 [(0, .ref (a 0)), (1, .int x1), (2, .int x2), (3, .int x3), (4, .int t.1), (5, .int t.2.1), (6, .int t.2.2)] [] S0) h (fun e23 h => ?_) (fun kx rc t hk ih h => w_X7_gapsWith_9 l D a b S0 C   x1 x2 x3 kx rc hk ih t.1 t.2.1 t.2.2 h)
  refine x_iload 150 C dX7_gapsWith_150 0 rfl ?_
  exact x_iret 152 C dX7_gapsWith_152 (Option.some.inj h) rfl
/-! GraveOrderModel.fresh (II)I -/
def B_X7_fresh_57 (S0 : XSr) (c1 : Int32) (c2 : Int32) (c3 : Int32) (c4 : Int32) (c5 : Int32) (kx : Int32 → Option (Int32 × XSr)) (rc : (Int32 × Int32) → Option (Int32 × XSr)) (y6 : Int32) (y7 : Int32) : Option (Int32 × XSr) :=
  (if 10 ≤ y7 then kx y6 else (if xin y7 10 = true then ((F_X7_gapsWith S0 y7 c5 (F_X7_is c1 y7)).bind fun z3 => (xlet (y6 + ((S0.1 3 (xti y7)) * z3)) fun v6_4 => (xlet (y7 + 1) fun v7_5 => rc (v6_4, v7_5)))) else none))
def B_X7_fresh_42 (S0 : XSr) (c1 : Int32) (c2 : Int32) (kx : (Int32 × Int32) → Option (Int32 × XSr)) (rc : (Int32 × Int32 × Int32) → Option (Int32 × XSr)) (y3 : Int32) (y4 : Int32) (y5 : Int32) : Option (Int32 × XSr) :=
  (if (S0.1 0 0) < y5 then kx (y3, y4) else (xlp (fun k rc t => B_X7_fresh_57 S0  c1 c2 y3 y4 y5 k rc t.1 t.2) (fun e6 => (xlet (fun (t7 : Int32) => (if y3 ≤ e6 then (xlet (y5 + 1) fun v5_9 => rc (y3, t7, v5_9)) else (xlet (y5 + 1) fun v5_10 => rc (e6, t7, v5_10)))) fun j8 => (if y3 ≤ e6 then (if e6 = y3 then j8 (y4 ||| ((1 : Int32) <<< (y5 &&& 31))) else j8 y4) else j8 ((1 : Int32) <<< (y5 &&& 31))))) XFU (0, 0)))
def F_X7_fresh (S0 : XSr) (x1 : Int32) (x2 : Int32) : (Option (Int32 × XSr)) :=
  (if (F_X7_in x1 0 1023) = 0 then (some ((-2), S0)) else (if (F_X7_in x2 0 1) = 0 then (some ((-2), S0)) else ((F_X7_areAny S0).bind fun z1 => (if z1.1 = 0 then (some ((-3), z1.2)) else (xlp (fun k rc t => B_X7_fresh_42 z1.2  x1 x2 k rc t.1 t.2.1 t.2.2) (fun e11 => (if x2 = 0 then (some (e11.2, z1.2)) else (some (e11.1, z1.2)))) XFU (100000, 0, 0))))))
abbrev rm_X7_fresh : Room := { frames := 5, cells := 0, slots := 0, locals := 110 }
set_option maxRecDepth 100000 in
set_option maxHeartbeats 4000000 in
theorem w_X7_fresh_57 (l : Launch) (D : va_G) (a : Nat → Nat) (b : Nat → ClassId) (S0 : XSr) {Γ : XG XSr} {r9 : Int32} {S9 : XSr} (C : Cx (ωR D a b) Γ cX7_fresh "GraveOrderModel" (some .int) l rm_X7_fresh 8 (some (.int r9), S9)) (c1 : Int32) (c2 : Int32) (c3 : Int32) (c4 : Int32) (c5 : Int32)  (kx : Int32 → Option (Int32 × XSr)) (rc : (Int32 × Int32) → Option (Int32 × XSr)) (hk : ∀ e, kx e = some (r9, S9) → XAt (ωR D a b) Γ 97 [(0, .ref (a 0)), (1, .int c1), (2, .int c2), (3, .int c3), (4, .int c4), (5, .int c5), (6, .int e)] [] S0) (ih : ∀ t, rc t = some (r9, S9) → XAt (ωR D a b) Γ 57 [(0, .ref (a 0)), (1, .int c1), (2, .int c2), (3, .int c3), (4, .int c4), (5, .int c5), (6, .int t.1), (7, .int t.2)] [] S0) (y6 : Int32) (y7 : Int32) (h : B_X7_fresh_57 S0  c1 c2 c3 c4 c5 kx rc y6 y7 = some (r9, S9)) : XAt (ωR D a b) Γ 57 [(0, .ref (a 0)), (1, .int c1), (2, .int c2), (3, .int c3), (4, .int c4), (5, .int c5), (6, .int y6), (7, .int y7)] [] S0 := by
  unfold B_X7_fresh_57 at h
  refine x_iload 57 C dX7_fresh_57 7 rfl ?_
  refine x_bipush 59 C dX7_fresh_59 cb_10 ?_
  refine x_icmp_ge 61 C 97 dX7_fresh_61 rfl h (fun h => ?_) (fun h => ?_)
  · exact x_sub 97 [0, 1, 2, 3, 4, 5, 6] rfl (hk _ h)
  · refine x_iload 64 C dX7_fresh_64 6 rfl ?_
    refine x_aload_n 66 C dX7_fresh_66 rfl 0 rfl ?_
    refine gX7_weights 67 C kw_790 dX7_fresh_67 ?_
    refine x_iload 70 C dX7_fresh_70 7 rfl ?_
    obtain ⟨hg2, h⟩ := xif_some h
    refine r_iald3 72 C hg2 dX7_fresh_72 ?_
    refine x_aload_n 73 C dX7_fresh_73 rfl 0 rfl ?_
    refine x_iload 74 C dX7_fresh_74 7 rfl ?_
    refine x_iload 76 C dX7_fresh_76 5 rfl ?_
    refine x_iload_n 78 C dX7_fresh_78 rfl 1 rfl ?_
    refine x_iload 79 C dX7_fresh_79 7 rfl ?_
    refine x_callS 81 C 2 (As := [.int c1, .int y7]) (rest := [.int c5, .int y7, .ref (a 0), .int (S0.1 3 (xti y7)), .int y6]) (M_X7_is l (ωR D a b) S0 c1 y7) kw_992 ms_X7_is mh_X7_is ⟨rfl, rfl⟩ ⟨Nat.le_of_ble_eq_true rfl, Nat.le_of_ble_eq_true rfl⟩ rfl rfl (Nat.le_of_ble_eq_true rfl) dX7_fresh_81 ?_
    obtain ⟨z3, hz3, h⟩ := xbind_some h
    refine x_callV 84 C (q0 := 0) (ci := 7) 3 (As := [.int y7, .int c5, .int (F_X7_is c1 y7)]) (rest := [.int (S0.1 3 (xti y7)), .int y6]) (M_X7_gapsWith l D a b S0 y7 c5 (F_X7_is c1 y7)  hz3) (by rfl) rfl kw_1134 mv_X7_gapsWith mh_X7_gapsWith ⟨rfl, rfl⟩ ⟨Nat.le_of_ble_eq_true rfl, Nat.le_of_ble_eq_true rfl⟩ rfl rfl (Nat.le_of_ble_eq_true rfl) dX7_fresh_84 ?_
    refine x_imul 87 C dX7_fresh_87 ?_
    refine x_iadd 88 C dX7_fresh_88 ?_
    refine x_top h (fun v6_4 h => ?_)
    refine x_istore 89 C (lv' := [(0, .ref (a 0)), (1, .int c1), (2, .int c2), (3, .int c3), (4, .int c4), (5, .int c5), (6, .int v6_4), (7, .int y7)]) dX7_fresh_89 (Nat.le_of_ble_eq_true rfl) [1, 2, 3, 4, 5, 6, 0, 7] rfl ?_
    refine x_iinc 91 C (L := fun v7_5 => [(0, .ref (a 0)), (1, .int c1), (2, .int c2), (3, .int c3), (4, .int c4), (5, .int c5), (6, .int v6_4), (7, .int v7_5)]) dX7_fresh_91 7 rfl ci_1 (Nat.le_of_ble_eq_true rfl) [1, 2, 3, 4, 5, 6, 7, 0] (fun _ => rfl) h (fun v7_5 h => ?_)
    refine x_goto 94 C 57 dX7_fresh_94 rfl ?_
    exact ih _ h
set_option maxRecDepth 100000 in
set_option maxHeartbeats 4000000 in
theorem w_X7_fresh_42 (l : Launch) (D : va_G) (a : Nat → Nat) (b : Nat → ClassId) (S0 : XSr) {Γ : XG XSr} {r9 : Int32} {S9 : XSr} (C : Cx (ωR D a b) Γ cX7_fresh "GraveOrderModel" (some .int) l rm_X7_fresh 8 (some (.int r9), S9)) (c1 : Int32) (c2 : Int32)  (kx : (Int32 × Int32) → Option (Int32 × XSr)) (rc : (Int32 × Int32 × Int32) → Option (Int32 × XSr)) (hk : ∀ e, kx e = some (r9, S9) → XAt (ωR D a b) Γ 149 [(2, .int c2), (3, .int e.1), (4, .int e.2)] [] S0) (ih : ∀ t, rc t = some (r9, S9) → XAt (ωR D a b) Γ 42 [(0, .ref (a 0)), (1, .int c1), (2, .int c2), (3, .int t.1), (4, .int t.2.1), (5, .int t.2.2)] [] S0) (y3 : Int32) (y4 : Int32) (y5 : Int32) (h : B_X7_fresh_42 S0  c1 c2 kx rc y3 y4 y5 = some (r9, S9)) : XAt (ωR D a b) Γ 42 [(0, .ref (a 0)), (1, .int c1), (2, .int c2), (3, .int y3), (4, .int y4), (5, .int y5)] [] S0 := by
  unfold B_X7_fresh_42 at h
  refine x_iload 42 C dX7_fresh_42 5 rfl ?_
  refine x_aload_n 44 C dX7_fresh_44 rfl 0 rfl ?_
  refine gX7_graves 45 C kw_786 dX7_fresh_45 ?_
  refine x_icmp_gt 48 C 149 dX7_fresh_48 rfl h (fun h => ?_) (fun h => ?_)
  · exact x_sub 149 [2, 3, 4] rfl (hk _ h)
  · refine x_iconst 51 C dX7_fresh_51 ci_0 ?_
    refine x_istore 52 C (lv' := [(0, .ref (a 0)), (1, .int c1), (2, .int c2), (3, .int y3), (4, .int y4), (5, .int y5), (6, .int 0)]) dX7_fresh_52 (Nat.le_of_ble_eq_true rfl) [1, 2, 3, 4, 5, 6, 0] rfl ?_
    refine x_iconst 54 C dX7_fresh_54 ci_0 ?_
    refine x_istore 55 C (lv' := [(0, .ref (a 0)), (1, .int c1), (2, .int c2), (3, .int y3), (4, .int y4), (5, .int y5), (6, .int 0), (7, .int 0)]) dX7_fresh_55 (Nat.le_of_ble_eq_true rfl) [1, 2, 3, 4, 5, 6, 7, 0] rfl ?_
    refine x_loop (E := fun e => XAt (ωR D a b) Γ 97 [(0, .ref (a 0)), (1, .int c1), (2, .int c2), (3, .int y3), (4, .int y4), (5, .int y5), (6, .int e)] [] S0) (P := fun t => XAt (ωR D a b) Γ 57 [(0, .ref (a 0)), (1, .int c1), (2, .int c2), (3, .int y3), (4, .int y4), (5, .int y5), (6, .int t.1), (7, .int t.2)] [] S0) h (fun e6 h => ?_) (fun kx rc t hk ih h => w_X7_fresh_57 l D a b S0 C   c1 c2 y3 y4 y5 kx rc hk ih t.1 t.2 h)
    refine x_iload 97 C dX7_fresh_97 6 rfl ?_
    refine x_iload_n 99 C dX7_fresh_99 rfl 3 rfl ?_
    refine x_join (P := fun t7 => XAt (ωR D a b) Γ 128 [(0, .ref (a 0)), (1, .int c1), (2, .int c2), (3, .int y3), (5, .int y5), (6, .int e6)] [.int t7] S0) h (fun t7 h => ?_) (fun j8 hj8 h => ?_)
    · refine x_istore 128 C (lv' := [(0, .ref (a 0)), (1, .int c1), (2, .int c2), (3, .int y3), (4, .int t7), (5, .int y5), (6, .int e6)]) dX7_fresh_128 (Nat.le_of_ble_eq_true rfl) [1, 2, 3, 4, 0, 5, 6] rfl ?_
      refine x_iload 130 C dX7_fresh_130 6 rfl ?_
      refine x_iload_n 132 C dX7_fresh_132 rfl 3 rfl ?_
      refine x_icmp_ge 133 C 141 dX7_fresh_133 rfl h (fun h => ?_) (fun h => ?_)
      · refine x_iload_n 141 C dX7_fresh_141 rfl 3 rfl ?_
        refine x_istore_n 142 C (lv' := [(0, .ref (a 0)), (1, .int c1), (2, .int c2), (3, .int y3), (4, .int t7), (5, .int y5)]) dX7_fresh_142 rfl (Nat.le_of_ble_eq_true rfl) [1, 2, 3, 0, 4, 5] rfl ?_
        refine x_iinc 143 C (L := fun v5_9 => [(0, .ref (a 0)), (1, .int c1), (2, .int c2), (3, .int y3), (4, .int t7), (5, .int v5_9)]) dX7_fresh_143 5 rfl ci_1 (Nat.le_of_ble_eq_true rfl) [1, 2, 3, 4, 5, 0] (fun _ => rfl) h (fun v5_9 h => ?_)
        refine x_goto 146 C 42 dX7_fresh_146 rfl ?_
        exact ih _ h
      · refine x_iload 136 C dX7_fresh_136 6 rfl ?_
        refine x_goto 138 C 142 dX7_fresh_138 rfl ?_
        refine x_istore_n 142 C (lv' := [(0, .ref (a 0)), (1, .int c1), (2, .int c2), (3, .int e6), (4, .int t7), (5, .int y5)]) dX7_fresh_142 rfl (Nat.le_of_ble_eq_true rfl) [1, 2, 3, 0, 4, 5] rfl ?_
        refine x_iinc 143 C (L := fun v5_10 => [(0, .ref (a 0)), (1, .int c1), (2, .int c2), (3, .int e6), (4, .int t7), (5, .int v5_10)]) dX7_fresh_143 5 rfl ci_1 (Nat.le_of_ble_eq_true rfl) [1, 2, 3, 4, 5, 0] (fun _ => rfl) h (fun v5_10 h => ?_)
        refine x_goto 146 C 42 dX7_fresh_146 rfl ?_
        exact ih _ h
    refine x_icmp_ge 100 C 110 dX7_fresh_100 rfl h (fun h => ?_) (fun h => ?_)
    · refine x_iload 110 C dX7_fresh_110 6 rfl ?_
      refine x_iload_n 112 C dX7_fresh_112 rfl 3 rfl ?_
      refine x_icmp_ne 113 C 126 dX7_fresh_113 rfl h (fun h => ?_) (fun h => ?_)
      · refine x_iload 126 C dX7_fresh_126 4 rfl ?_
        exact x_sub 128 [0, 1, 2, 3, 5, 6] rfl (hj8 _ h)
      · refine x_iload 116 C dX7_fresh_116 4 rfl ?_
        refine x_iconst 118 C dX7_fresh_118 ci_1 ?_
        refine x_iload 119 C dX7_fresh_119 5 rfl ?_
        refine x_ishl 121 C dX7_fresh_121 ?_
        refine x_ior 122 C dX7_fresh_122 ?_
        refine x_goto 123 C 128 dX7_fresh_123 rfl ?_
        exact x_sub 128 [0, 1, 2, 3, 5, 6] rfl (hj8 _ h)
    · refine x_iconst 103 C dX7_fresh_103 ci_1 ?_
      refine x_iload 104 C dX7_fresh_104 5 rfl ?_
      refine x_ishl 106 C dX7_fresh_106 ?_
      refine x_goto 107 C 128 dX7_fresh_107 rfl ?_
      exact x_sub 128 [0, 1, 2, 3, 5, 6] rfl (hj8 _ h)
set_option maxRecDepth 100000 in
set_option maxHeartbeats 4000000 in
theorem M_X7_fresh (l : Launch) (D : va_G) (a : Nat → Nat) (b : Nat → ClassId) (S0 : XSr) (x1 : Int32) (x2 : Int32)  {r9 : Int32} {S9 : XSr} (h : F_X7_fresh S0 x1 x2 = some (r9, S9)) : xM l (ωR D a b) yX7_fresh cX7_fresh 8 (some .int) rm_X7_fresh [.ref (a 0), .int x1, .int x2] S0 (some (.int r9), S9) := by
  unfold F_X7_fresh at h
  refine xM_of (own := "GraveOrderModel") (by decide) rfl (Nat.le_of_ble_eq_true rfl) (fun Γ C => ?_)
  refine x_sub 0 [0, 1, 2] (lv' := [(0, .ref (a 0)), (1, .int x1), (2, .int x2)]) rfl ?_
  refine x_iload_n 0 C dX7_fresh_0 rfl 1 rfl ?_
  refine x_iconst 1 C dX7_fresh_1 ci_0 ?_
  refine x_sipush 2 C dX7_fresh_2 cs_1023 ?_
  refine x_callS 5 C 3 (As := [.int x1, .int 0, .int 1023]) (rest := []) (M_X7_in l (ωR D a b) S0 x1 0 1023) kw_911 ms_X7_in mh_X7_in ⟨rfl, rfl⟩ ⟨Nat.le_of_ble_eq_true rfl, Nat.le_of_ble_eq_true rfl⟩ rfl rfl (Nat.le_of_ble_eq_true rfl) dX7_fresh_5 ?_
  refine x_if_eq 8 C 20 dX7_fresh_8 rfl h (fun h => ?_) (fun h => ?_)
  · refine x_bipush 20 C dX7_fresh_20 cb_m2 ?_
    exact x_iret 22 C dX7_fresh_22 (Prod.mk.inj (Option.some.inj h)).1 (Prod.mk.inj (Option.some.inj h)).2
  · refine x_iload_n 11 C dX7_fresh_11 rfl 2 rfl ?_
    refine x_iconst 12 C dX7_fresh_12 ci_0 ?_
    refine x_iconst 13 C dX7_fresh_13 ci_1 ?_
    refine x_callS 14 C 3 (As := [.int x2, .int 0, .int 1]) (rest := []) (M_X7_in l (ωR D a b) S0 x2 0 1) kw_911 ms_X7_in mh_X7_in ⟨rfl, rfl⟩ ⟨Nat.le_of_ble_eq_true rfl, Nat.le_of_ble_eq_true rfl⟩ rfl rfl (Nat.le_of_ble_eq_true rfl) dX7_fresh_14 ?_
    refine x_if_ne 17 C 23 dX7_fresh_17 rfl h (fun h => ?_) (fun h => ?_)
    · refine x_aload_n 23 C dX7_fresh_23 rfl 0 rfl ?_
      obtain ⟨z1, hz1, h⟩ := xbind_some h
      refine x_callV 24 C (q0 := 0) (ci := 7) 0 (As := []) (rest := []) (M_X7_areAny l D a b S0   hz1) (by rfl) rfl kw_1015 mv_X7_areAny mh_X7_areAny ⟨rfl, rfl⟩ ⟨Nat.le_of_ble_eq_true rfl, Nat.le_of_ble_eq_true rfl⟩ rfl rfl (Nat.le_of_ble_eq_true rfl) dX7_fresh_24 ?_
      refine x_if_ne 27 C 33 dX7_fresh_27 rfl h (fun h => ?_) (fun h => ?_)
      · refine x_ldc 33 C kw_1023 dX7_fresh_33 ?_
        refine x_istore_n 35 C (lv' := [(0, .ref (a 0)), (1, .int x1), (2, .int x2), (3, .int 100000)]) dX7_fresh_35 rfl (Nat.le_of_ble_eq_true rfl) [1, 2, 3, 0] rfl ?_
        refine x_iconst 36 C dX7_fresh_36 ci_0 ?_
        refine x_istore 37 C (lv' := [(0, .ref (a 0)), (1, .int x1), (2, .int x2), (3, .int 100000), (4, .int 0)]) dX7_fresh_37 (Nat.le_of_ble_eq_true rfl) [1, 2, 3, 4, 0] rfl ?_
        refine x_iconst 39 C dX7_fresh_39 ci_0 ?_
        refine x_istore 40 C (lv' := [(0, .ref (a 0)), (1, .int x1), (2, .int x2), (3, .int 100000), (4, .int 0), (5, .int 0)]) dX7_fresh_40 (Nat.le_of_ble_eq_true rfl) [1, 2, 3, 4, 5, 0] rfl ?_
        refine x_loop (E := fun e => XAt (ωR D a b) Γ 149 [(2, .int x2), (3, .int e.1), (4, .int e.2)] [] z1.2) (P := fun t => XAt (ωR D a b) Γ 42 [(0, .ref (a 0)), (1, .int x1), (2, .int x2), (3, .int t.1), (4, .int t.2.1), (5, .int t.2.2)] [] z1.2) h (fun e11 h => ?_) (fun kx rc t hk ih h => w_X7_fresh_42 l D a b z1.2 C   x1 x2 kx rc hk ih t.1 t.2.1 t.2.2 h)
        refine x_iload_n 149 C dX7_fresh_149 rfl 0 rfl ?_
        refine x_if_ne 150 C 158 dX7_fresh_150 rfl h (fun h => ?_) (fun h => ?_)
        · refine x_iload_n 158 C dX7_fresh_158 rfl 1 rfl ?_
          exact x_iret 159 C dX7_fresh_159 (Prod.mk.inj (Option.some.inj h)).1 (Prod.mk.inj (Option.some.inj h)).2
        · refine x_iload 153 C dX7_fresh_153 2 rfl ?_
          refine x_goto 155 C 159 dX7_fresh_155 rfl ?_
          exact x_iret 159 C dX7_fresh_159 (Prod.mk.inj (Option.some.inj h)).1 (Prod.mk.inj (Option.some.inj h)).2
      · refine x_bipush 30 C dX7_fresh_30 cb_m3 ?_
        exact x_iret 32 C dX7_fresh_32 (Prod.mk.inj (Option.some.inj h)).1 (Prod.mk.inj (Option.some.inj h)).2
    · refine x_bipush 20 C dX7_fresh_20 cb_m2 ?_
      exact x_iret 22 C dX7_fresh_22 (Prod.mk.inj (Option.some.inj h)).1 (Prod.mk.inj (Option.some.inj h)).2
/-! GraveOrderModel.weightOf (I)I -/
def B_X7_weightOf_4 (S0 : XSr) (c1 : Int32) (kx : Int32 → Option Int32) (rc : (Int32 × Int32) → Option Int32) (y2 : Int32) (y3 : Int32) : Option Int32 :=
  (if 10 ≤ y3 then kx y2 else (if (F_X7_is c1 y3) = 0 then (xlet (y2 + (0 : Int32)) fun v2_1 => (xlet (y3 + 1) fun v3_2 => rc (v2_1, v3_2))) else (if xin y3 10 = true then (xlet (y2 + (S0.1 3 (xti y3))) fun v2_4 => (xlet (y3 + 1) fun v3_5 => rc (v2_4, v3_5))) else none)))
def F_X7_weightOf (S0 : XSr) (x1 : Int32) : (Option Int32) :=
  (xlp (fun k rc t => B_X7_weightOf_4 S0  x1 k rc t.1 t.2) (fun e6 => (some e6)) XFU (0, 0))
abbrev rm_X7_weightOf : Room := { frames := 1, cells := 0, slots := 0, locals := 21 }
set_option maxRecDepth 100000 in
set_option maxHeartbeats 4000000 in
theorem w_X7_weightOf_4 (l : Launch) (D : va_G) (a : Nat → Nat) (b : Nat → ClassId) (S0 : XSr) {Γ : XG XSr} {r9 : Int32} (C : Cx (ωR D a b) Γ cX7_weightOf "GraveOrderModel" (some .int) l rm_X7_weightOf 4 (some (.int r9), S0)) (c1 : Int32)  (kx : Int32 → Option Int32) (rc : (Int32 × Int32) → Option Int32) (hk : ∀ e, kx e = some r9 → XAt (ωR D a b) Γ 37 [(2, .int e)] [] S0) (ih : ∀ t, rc t = some r9 → XAt (ωR D a b) Γ 4 [(0, .ref (a 0)), (1, .int c1), (2, .int t.1), (3, .int t.2)] [] S0) (y2 : Int32) (y3 : Int32) (h : B_X7_weightOf_4 S0  c1 kx rc y2 y3 = some r9) : XAt (ωR D a b) Γ 4 [(0, .ref (a 0)), (1, .int c1), (2, .int y2), (3, .int y3)] [] S0 := by
  unfold B_X7_weightOf_4 at h
  refine x_iload_n 4 C dX7_weightOf_4 rfl 3 rfl ?_
  refine x_bipush 5 C dX7_weightOf_5 cb_10 ?_
  refine x_icmp_ge 7 C 37 dX7_weightOf_7 rfl h (fun h => ?_) (fun h => ?_)
  · exact x_sub 37 [2] rfl (hk _ h)
  · refine x_iload_n 10 C dX7_weightOf_10 rfl 2 rfl ?_
    refine x_iload_n 11 C dX7_weightOf_11 rfl 1 rfl ?_
    refine x_iload_n 12 C dX7_weightOf_12 rfl 3 rfl ?_
    refine x_callS 13 C 2 (As := [.int c1, .int y3]) (rest := [.int y2]) (M_X7_is l (ωR D a b) S0 c1 y3) kw_992 ms_X7_is mh_X7_is ⟨rfl, rfl⟩ ⟨Nat.le_of_ble_eq_true rfl, Nat.le_of_ble_eq_true rfl⟩ rfl rfl (Nat.le_of_ble_eq_true rfl) dX7_weightOf_13 ?_
    refine x_if_eq 16 C 28 dX7_weightOf_16 rfl h (fun h => ?_) (fun h => ?_)
    · refine x_iconst 28 C dX7_weightOf_28 ci_0 ?_
      refine x_iadd 29 C dX7_weightOf_29 ?_
      refine x_top h (fun v2_1 h => ?_)
      refine x_istore_n 30 C (lv' := [(0, .ref (a 0)), (1, .int c1), (2, .int v2_1), (3, .int y3)]) dX7_weightOf_30 rfl (Nat.le_of_ble_eq_true rfl) [1, 2, 0, 3] rfl ?_
      refine x_iinc 31 C (L := fun v3_2 => [(0, .ref (a 0)), (1, .int c1), (2, .int v2_1), (3, .int v3_2)]) dX7_weightOf_31 3 rfl ci_1 (Nat.le_of_ble_eq_true rfl) [1, 2, 3, 0] (fun _ => rfl) h (fun v3_2 h => ?_)
      refine x_goto 34 C 4 dX7_weightOf_34 rfl ?_
      exact ih _ h
    · refine x_aload_n 19 C dX7_weightOf_19 rfl 0 rfl ?_
      refine gX7_weights 20 C kw_790 dX7_weightOf_20 ?_
      refine x_iload_n 23 C dX7_weightOf_23 rfl 3 rfl ?_
      obtain ⟨hg3, h⟩ := xif_some h
      refine r_iald3 24 C hg3 dX7_weightOf_24 ?_
      refine x_goto 25 C 29 dX7_weightOf_25 rfl ?_
      refine x_iadd 29 C dX7_weightOf_29 ?_
      refine x_top h (fun v2_4 h => ?_)
      refine x_istore_n 30 C (lv' := [(0, .ref (a 0)), (1, .int c1), (2, .int v2_4), (3, .int y3)]) dX7_weightOf_30 rfl (Nat.le_of_ble_eq_true rfl) [1, 2, 0, 3] rfl ?_
      refine x_iinc 31 C (L := fun v3_5 => [(0, .ref (a 0)), (1, .int c1), (2, .int v2_4), (3, .int v3_5)]) dX7_weightOf_31 3 rfl ci_1 (Nat.le_of_ble_eq_true rfl) [1, 2, 3, 0] (fun _ => rfl) h (fun v3_5 h => ?_)
      refine x_goto 34 C 4 dX7_weightOf_34 rfl ?_
      exact ih _ h
set_option maxRecDepth 100000 in
set_option maxHeartbeats 4000000 in
theorem M_X7_weightOf (l : Launch) (D : va_G) (a : Nat → Nat) (b : Nat → ClassId) (S0 : XSr) (x1 : Int32)  {r9 : Int32} (h : F_X7_weightOf S0 x1 = some r9) : xM l (ωR D a b) yX7_weightOf cX7_weightOf 4 (some .int) rm_X7_weightOf [.ref (a 0), .int x1] S0 (some (.int r9), S0) := by
  unfold F_X7_weightOf at h
  refine xM_of (own := "GraveOrderModel") (by decide) rfl (Nat.le_of_ble_eq_true rfl) (fun Γ C => ?_)
  refine x_sub 0 [0, 1] (lv' := [(0, .ref (a 0)), (1, .int x1)]) rfl ?_
  refine x_iconst 0 C dX7_weightOf_0 ci_0 ?_
  refine x_istore_n 1 C (lv' := [(0, .ref (a 0)), (1, .int x1), (2, .int 0)]) dX7_weightOf_1 rfl (Nat.le_of_ble_eq_true rfl) [1, 2, 0] rfl ?_
  refine x_iconst 2 C dX7_weightOf_2 ci_0 ?_
  refine x_istore_n 3 C (lv' := [(0, .ref (a 0)), (1, .int x1), (2, .int 0), (3, .int 0)]) dX7_weightOf_3 rfl (Nat.le_of_ble_eq_true rfl) [1, 2, 3, 0] rfl ?_
  refine x_loop (E := fun e => XAt (ωR D a b) Γ 37 [(2, .int e)] [] S0) (P := fun t => XAt (ωR D a b) Γ 4 [(0, .ref (a 0)), (1, .int x1), (2, .int t.1), (3, .int t.2)] [] S0) h (fun e6 h => ?_) (fun kx rc t hk ih h => w_X7_weightOf_4 l D a b S0 C   x1 kx rc hk ih t.1 t.2 h)
  refine x_iload_n 37 C dX7_weightOf_37 rfl 0 rfl ?_
  exact x_iret 38 C dX7_weightOf_38 (Option.some.inj h) rfl
/-! GraveOrderModel.alike (III)J -/
def F_X7_alike (S0 : XSr) (x1 : Int32) (x2 : Int32) (x3 : Int32) : (Option (Int64 × XSr)) :=
  (xlet (fun (t1 : Unit) => (some ((F_X7_no (-2)), S0))) fun j2 => (if (F_X7_isGrave S0 x1) = 0 then j2 () else (if (F_X7_isGrave S0 x2) = 0 then j2 () else (if x1 = x2 then j2 () else (if (F_X7_in x3 0 1) = 0 then j2 () else ((F_X7_lays S0).bind fun z3 => (if xin x1 8 = true then (if xin x2 8 = true then ((F_X7_weightOf z3 ((z3.1 14 (xti x1)) ||| (z3.1 14 (xti x2)))).bind fun z6 => (if z6 = 0 then (some ((F_X7_no (-3)), z3)) else (if xin x1 8 = true then (if xin x2 8 = true then ((F_X7_weightOf z3 ((z3.1 14 (xti x1)) &&& (z3.1 14 (xti x2)))).bind fun z9 => ((F_X7_lowest z3 ((z9).toInt64) ((z6).toInt64) x3).bind fun z10 => (some (z10, z3)))) else none) else none))) else none) else none)))))))
abbrev rm_X7_alike : Room := { frames := 2, cells := 0, slots := 0, locals := 44 }
set_option maxRecDepth 100000 in
set_option maxHeartbeats 4000000 in
theorem M_X7_alike (l : Launch) (D : va_G) (a : Nat → Nat) (b : Nat → ClassId) (S0 : XSr) (x1 : Int32) (x2 : Int32) (x3 : Int32)  {r9 : Int64} {S9 : XSr} (h : F_X7_alike S0 x1 x2 x3 = some (r9, S9)) : xM l (ωR D a b) yX7_alike cX7_alike 5 (some .long) rm_X7_alike [.ref (a 0), .int x1, .int x2, .int x3] S0 (some (.long r9), S9) := by
  unfold F_X7_alike at h
  refine xM_of (own := "GraveOrderModel") (by decide) rfl (Nat.le_of_ble_eq_true rfl) (fun Γ C => ?_)
  refine x_sub 0 [0, 1, 2, 3] (lv' := [(0, .ref (a 0)), (1, .int x1), (2, .int x2), (3, .int x3)]) rfl ?_
  refine x_aload_n 0 C dX7_alike_0 rfl 0 rfl ?_
  refine x_iload_n 1 C dX7_alike_1 rfl 1 rfl ?_
  refine x_callV 2 C (q0 := 0) (ci := 7) 1 (As := [.int x1]) (rest := []) (M_X7_isGrave l D a b S0 x1 ) (by rfl) rfl kw_918 mv_X7_isGrave mh_X7_isGrave ⟨rfl, rfl⟩ ⟨Nat.le_of_ble_eq_true rfl, Nat.le_of_ble_eq_true rfl⟩ rfl rfl (Nat.le_of_ble_eq_true rfl) dX7_alike_2 ?_
  refine x_join (P := fun t1 => XAt (ωR D a b) Γ 30 [] [] S0) h (fun t1 h => ?_) (fun j2 hj2 h => ?_)
  · refine x_bipush 30 C dX7_alike_30 cb_m2 ?_
    refine x_callS 32 C 1 (As := [.int (-2)]) (rest := []) (M_X7_no l (ωR D a b) S0 (-2)) kw_1082 ms_X7_no mh_X7_no ⟨rfl, rfl⟩ ⟨Nat.le_of_ble_eq_true rfl, Nat.le_of_ble_eq_true rfl⟩ rfl rfl (Nat.le_of_ble_eq_true rfl) dX7_alike_32 ?_
    exact x_lret 35 C dX7_alike_35 (Prod.mk.inj (Option.some.inj h)).1 (Prod.mk.inj (Option.some.inj h)).2
  refine x_if_eq 5 C 30 dX7_alike_5 rfl h (fun h => ?_) (fun h => ?_)
  · exact x_sub 30 [] rfl (hj2 _ h)
  · refine x_aload_n 8 C dX7_alike_8 rfl 0 rfl ?_
    refine x_iload_n 9 C dX7_alike_9 rfl 2 rfl ?_
    refine x_callV 10 C (q0 := 0) (ci := 7) 1 (As := [.int x2]) (rest := []) (M_X7_isGrave l D a b S0 x2 ) (by rfl) rfl kw_918 mv_X7_isGrave mh_X7_isGrave ⟨rfl, rfl⟩ ⟨Nat.le_of_ble_eq_true rfl, Nat.le_of_ble_eq_true rfl⟩ rfl rfl (Nat.le_of_ble_eq_true rfl) dX7_alike_10 ?_
    refine x_if_eq 13 C 30 dX7_alike_13 rfl h (fun h => ?_) (fun h => ?_)
    · exact x_sub 30 [] rfl (hj2 _ h)
    · refine x_iload_n 16 C dX7_alike_16 rfl 1 rfl ?_
      refine x_iload_n 17 C dX7_alike_17 rfl 2 rfl ?_
      refine x_icmp_eq 18 C 30 dX7_alike_18 rfl h (fun h => ?_) (fun h => ?_)
      · exact x_sub 30 [] rfl (hj2 _ h)
      · refine x_iload_n 21 C dX7_alike_21 rfl 3 rfl ?_
        refine x_iconst 22 C dX7_alike_22 ci_0 ?_
        refine x_iconst 23 C dX7_alike_23 ci_1 ?_
        refine x_callS 24 C 3 (As := [.int x3, .int 0, .int 1]) (rest := []) (M_X7_in l (ωR D a b) S0 x3 0 1) kw_911 ms_X7_in mh_X7_in ⟨rfl, rfl⟩ ⟨Nat.le_of_ble_eq_true rfl, Nat.le_of_ble_eq_true rfl⟩ rfl rfl (Nat.le_of_ble_eq_true rfl) dX7_alike_24 ?_
        refine x_if_ne 27 C 36 dX7_alike_27 rfl h (fun h => ?_) (fun h => ?_)
        · refine x_aload_n 36 C dX7_alike_36 rfl 0 rfl ?_
          obtain ⟨z3, hz3, h⟩ := xbind_some h
          refine x_callV 37 C (q0 := 0) (ci := 7) 0 (As := []) (rest := []) (M_X7_lays l D a b S0   hz3) (by rfl) rfl kw_984 mv_X7_lays mh_X7_lays ⟨rfl, rfl⟩ ⟨Nat.le_of_ble_eq_true rfl, Nat.le_of_ble_eq_true rfl⟩ rfl rfl (Nat.le_of_ble_eq_true rfl) dX7_alike_37 ?_
          refine x_aload_n 40 C dX7_alike_40 rfl 0 rfl ?_
          refine x_aload_n 41 C dX7_alike_41 rfl 0 rfl ?_
          refine gX7_have 42 C kw_807 dX7_alike_42 ?_
          refine x_iload_n 45 C dX7_alike_45 rfl 1 rfl ?_
          obtain ⟨hg4, h⟩ := xif_some h
          refine r_iald14 46 C hg4 dX7_alike_46 ?_
          refine x_aload_n 47 C dX7_alike_47 rfl 0 rfl ?_
          refine gX7_have 48 C kw_807 dX7_alike_48 ?_
          refine x_iload_n 51 C dX7_alike_51 rfl 2 rfl ?_
          obtain ⟨hg5, h⟩ := xif_some h
          refine r_iald14 52 C hg5 dX7_alike_52 ?_
          refine x_ior 53 C dX7_alike_53 ?_
          obtain ⟨z6, hz6, h⟩ := xbind_some h
          refine x_callV 54 C (q0 := 0) (ci := 7) 1 (As := [.int ((z3.1 14 (xti x1)) ||| (z3.1 14 (xti x2)))]) (rest := []) (M_X7_weightOf l D a b z3 ((z3.1 14 (xti x1)) ||| (z3.1 14 (xti x2)))  hz6) (by rfl) rfl kw_1142 mv_X7_weightOf mh_X7_weightOf ⟨rfl, rfl⟩ ⟨Nat.le_of_ble_eq_true rfl, Nat.le_of_ble_eq_true rfl⟩ rfl rfl (Nat.le_of_ble_eq_true rfl) dX7_alike_54 ?_
          refine x_istore 57 C (lv' := [(0, .ref (a 0)), (1, .int x1), (2, .int x2), (3, .int x3), (4, .int z6)]) dX7_alike_57 (Nat.le_of_ble_eq_true rfl) [1, 2, 3, 4, 0] rfl ?_
          refine x_iload 59 C dX7_alike_59 4 rfl ?_
          refine x_if_ne 61 C 72 dX7_alike_61 rfl h (fun h => ?_) (fun h => ?_)
          · refine x_aload_n 72 C dX7_alike_72 rfl 0 rfl ?_
            refine x_aload_n 73 C dX7_alike_73 rfl 0 rfl ?_
            refine gX7_have 74 C kw_807 dX7_alike_74 ?_
            refine x_iload_n 77 C dX7_alike_77 rfl 1 rfl ?_
            obtain ⟨hg7, h⟩ := xif_some h
            refine r_iald14 78 C hg7 dX7_alike_78 ?_
            refine x_aload_n 79 C dX7_alike_79 rfl 0 rfl ?_
            refine gX7_have 80 C kw_807 dX7_alike_80 ?_
            refine x_iload_n 83 C dX7_alike_83 rfl 2 rfl ?_
            obtain ⟨hg8, h⟩ := xif_some h
            refine r_iald14 84 C hg8 dX7_alike_84 ?_
            refine x_iand 85 C dX7_alike_85 ?_
            obtain ⟨z9, hz9, h⟩ := xbind_some h
            refine x_callV 86 C (q0 := 0) (ci := 7) 1 (As := [.int ((z3.1 14 (xti x1)) &&& (z3.1 14 (xti x2)))]) (rest := []) (M_X7_weightOf l D a b z3 ((z3.1 14 (xti x1)) &&& (z3.1 14 (xti x2)))  hz9) (by rfl) rfl kw_1142 mv_X7_weightOf mh_X7_weightOf ⟨rfl, rfl⟩ ⟨Nat.le_of_ble_eq_true rfl, Nat.le_of_ble_eq_true rfl⟩ rfl rfl (Nat.le_of_ble_eq_true rfl) dX7_alike_86 ?_
            refine x_i2l 89 C dX7_alike_89 ?_
            refine x_iload 90 C dX7_alike_90 4 rfl ?_
            refine x_i2l 92 C dX7_alike_92 ?_
            refine x_iload_n 93 C dX7_alike_93 rfl 3 rfl ?_
            obtain ⟨z10, hz10, h⟩ := xbind_some h
            refine x_callS 94 C 3 (As := [.long ((z9).toInt64), .long ((z6).toInt64), .int x3]) (rest := []) (M_X7_lowest l D a b z3 ((z9).toInt64) ((z6).toInt64) x3  hz10) kw_1079 ms_X7_lowest mh_X7_lowest ⟨rfl, rfl⟩ ⟨Nat.le_of_ble_eq_true rfl, Nat.le_of_ble_eq_true rfl⟩ rfl rfl (Nat.le_of_ble_eq_true rfl) dX7_alike_94 ?_
            exact x_lret 97 C dX7_alike_97 (Prod.mk.inj (Option.some.inj h)).1 (Prod.mk.inj (Option.some.inj h)).2
          · refine x_bipush 64 C dX7_alike_64 cb_m3 ?_
            refine x_callS 66 C 1 (As := [.int (-3)]) (rest := []) (M_X7_no l (ωR D a b) z3 (-3)) kw_1082 ms_X7_no mh_X7_no ⟨rfl, rfl⟩ ⟨Nat.le_of_ble_eq_true rfl, Nat.le_of_ble_eq_true rfl⟩ rfl rfl (Nat.le_of_ble_eq_true rfl) dX7_alike_66 ?_
            refine x_goto 69 C 97 dX7_alike_69 rfl ?_
            exact x_lret 97 C dX7_alike_97 (Prod.mk.inj (Option.some.inj h)).1 (Prod.mk.inj (Option.some.inj h)).2
        · exact x_sub 30 [] rfl (hj2 _ h)
/-! GraveOrderModel.nearestNow (I)I -/
def B_X7_nearestNow_14 (S0 : XSr) (c1 : Int32) (kx : Int32 → Option (Int32 × XSr)) (rc : (Int32 × Int32 × Int32 × Int32) → Option (Int32 × XSr)) (y2 : Int32) (y3 : Int32) (y4 : Int32) (y5 : Int32) : Option (Int32 × XSr) :=
  (if (S0.1 0 0) ≤ y5 then kx y2 else (if xin y5 8 = true then (if xin c1 8 = true then ((F_X7_weightOf S0 ((S0.1 14 (xti y5)) ||| (S0.1 14 (xti c1)))).bind fun z4 => (if xin y5 8 = true then (if xin c1 8 = true then ((F_X7_weightOf S0 ((S0.1 14 (xti y5)) &&& (S0.1 14 (xti c1)))).bind fun z7 => (if y5 = c1 then (xlet (y5 + 1) fun v5_8 => rc (y2, y3, y4, v5_8)) else (if z4 ≤ 0 then (xlet (y5 + 1) fun v5_9 => rc (y2, y3, y4, v5_9)) else (xlet (fun (t10 : (Int32 × Int32 × Int32)) => (xlet t10.1 fun v2_12 => (xlet t10.2.2 fun v3_13 => (xlet t10.2.1 fun v4_14 => (xlet (t10.1 + 1) fun v5_15 => rc (v2_12, v3_13, v4_14, v5_15)))))) fun j11 => (if y2 = (-1) then j11 (y5, z4, z7) else (if (z7 * y4) ≤ (y3 * z4) then (xlet (y5 + 1) fun v5_16 => rc (y2, y3, y4, v5_16)) else j11 (y5, z4, z7))))))) else none) else none)) else none) else none))
def F_X7_nearestNow (S0 : XSr) (x1 : Int32) : (Option (Int32 × XSr)) :=
  ((F_X7_lays S0).bind fun z1 => (xlp (fun k rc t => B_X7_nearestNow_14 z1  x1 k rc t.1 t.2.1 t.2.2.1 t.2.2.2) (fun e17 => (some (e17, z1))) XFU ((-1), 0, 1, 0)))
abbrev rm_X7_nearestNow : Room := { frames := 2, cells := 0, slots := 0, locals := 44 }
set_option maxRecDepth 100000 in
set_option maxHeartbeats 4000000 in
theorem w_X7_nearestNow_14 (l : Launch) (D : va_G) (a : Nat → Nat) (b : Nat → ClassId) (S0 : XSr) {Γ : XG XSr} {r9 : Int32} {S9 : XSr} (C : Cx (ωR D a b) Γ cX7_nearestNow "GraveOrderModel" (some .int) l rm_X7_nearestNow 8 (some (.int r9), S9)) (c1 : Int32)  (kx : Int32 → Option (Int32 × XSr)) (rc : (Int32 × Int32 × Int32 × Int32) → Option (Int32 × XSr)) (hk : ∀ e, kx e = some (r9, S9) → XAt (ωR D a b) Γ 107 [(2, .int e)] [] S0) (ih : ∀ t, rc t = some (r9, S9) → XAt (ωR D a b) Γ 14 [(0, .ref (a 0)), (1, .int c1), (2, .int t.1), (3, .int t.2.1), (4, .int t.2.2.1), (5, .int t.2.2.2)] [] S0) (y2 : Int32) (y3 : Int32) (y4 : Int32) (y5 : Int32) (h : B_X7_nearestNow_14 S0  c1 kx rc y2 y3 y4 y5 = some (r9, S9)) : XAt (ωR D a b) Γ 14 [(0, .ref (a 0)), (1, .int c1), (2, .int y2), (3, .int y3), (4, .int y4), (5, .int y5)] [] S0 := by
  unfold B_X7_nearestNow_14 at h
  refine x_iload 14 C dX7_nearestNow_14 5 rfl ?_
  refine x_aload_n 16 C dX7_nearestNow_16 rfl 0 rfl ?_
  refine gX7_graves 17 C kw_786 dX7_nearestNow_17 ?_
  refine x_icmp_ge 20 C 107 dX7_nearestNow_20 rfl h (fun h => ?_) (fun h => ?_)
  · exact x_sub 107 [2] rfl (hk _ h)
  · refine x_aload_n 23 C dX7_nearestNow_23 rfl 0 rfl ?_
    refine x_aload_n 24 C dX7_nearestNow_24 rfl 0 rfl ?_
    refine gX7_have 25 C kw_807 dX7_nearestNow_25 ?_
    refine x_iload 28 C dX7_nearestNow_28 5 rfl ?_
    obtain ⟨hg2, h⟩ := xif_some h
    refine r_iald14 30 C hg2 dX7_nearestNow_30 ?_
    refine x_aload_n 31 C dX7_nearestNow_31 rfl 0 rfl ?_
    refine gX7_have 32 C kw_807 dX7_nearestNow_32 ?_
    refine x_iload_n 35 C dX7_nearestNow_35 rfl 1 rfl ?_
    obtain ⟨hg3, h⟩ := xif_some h
    refine r_iald14 36 C hg3 dX7_nearestNow_36 ?_
    refine x_ior 37 C dX7_nearestNow_37 ?_
    obtain ⟨z4, hz4, h⟩ := xbind_some h
    refine x_callV 38 C (q0 := 0) (ci := 7) 1 (As := [.int ((S0.1 14 (xti y5)) ||| (S0.1 14 (xti c1)))]) (rest := []) (M_X7_weightOf l D a b S0 ((S0.1 14 (xti y5)) ||| (S0.1 14 (xti c1)))  hz4) (by rfl) rfl kw_1142 mv_X7_weightOf mh_X7_weightOf ⟨rfl, rfl⟩ ⟨Nat.le_of_ble_eq_true rfl, Nat.le_of_ble_eq_true rfl⟩ rfl rfl (Nat.le_of_ble_eq_true rfl) dX7_nearestNow_38 ?_
    refine x_istore 41 C (lv' := [(0, .ref (a 0)), (1, .int c1), (2, .int y2), (3, .int y3), (4, .int y4), (5, .int y5), (6, .int z4)]) dX7_nearestNow_41 (Nat.le_of_ble_eq_true rfl) [1, 2, 3, 4, 5, 6, 0] rfl ?_
    refine x_aload_n 43 C dX7_nearestNow_43 rfl 0 rfl ?_
    refine x_aload_n 44 C dX7_nearestNow_44 rfl 0 rfl ?_
    refine gX7_have 45 C kw_807 dX7_nearestNow_45 ?_
    refine x_iload 48 C dX7_nearestNow_48 5 rfl ?_
    obtain ⟨hg5, h⟩ := xif_some h
    refine r_iald14 50 C hg5 dX7_nearestNow_50 ?_
    refine x_aload_n 51 C dX7_nearestNow_51 rfl 0 rfl ?_
    refine gX7_have 52 C kw_807 dX7_nearestNow_52 ?_
    refine x_iload_n 55 C dX7_nearestNow_55 rfl 1 rfl ?_
    obtain ⟨hg6, h⟩ := xif_some h
    refine r_iald14 56 C hg6 dX7_nearestNow_56 ?_
    refine x_iand 57 C dX7_nearestNow_57 ?_
    obtain ⟨z7, hz7, h⟩ := xbind_some h
    refine x_callV 58 C (q0 := 0) (ci := 7) 1 (As := [.int ((S0.1 14 (xti y5)) &&& (S0.1 14 (xti c1)))]) (rest := []) (M_X7_weightOf l D a b S0 ((S0.1 14 (xti y5)) &&& (S0.1 14 (xti c1)))  hz7) (by rfl) rfl kw_1142 mv_X7_weightOf mh_X7_weightOf ⟨rfl, rfl⟩ ⟨Nat.le_of_ble_eq_true rfl, Nat.le_of_ble_eq_true rfl⟩ rfl rfl (Nat.le_of_ble_eq_true rfl) dX7_nearestNow_58 ?_
    refine x_istore 61 C (lv' := [(0, .ref (a 0)), (1, .int c1), (2, .int y2), (3, .int y3), (4, .int y4), (5, .int y5), (6, .int z4), (7, .int z7)]) dX7_nearestNow_61 (Nat.le_of_ble_eq_true rfl) [1, 2, 3, 4, 5, 6, 7, 0] rfl ?_
    refine x_iload 63 C dX7_nearestNow_63 5 rfl ?_
    refine x_iload_n 65 C dX7_nearestNow_65 rfl 1 rfl ?_
    refine x_icmp_eq 66 C 101 dX7_nearestNow_66 rfl h (fun h => ?_) (fun h => ?_)
    · refine x_iinc 101 C (L := fun v5_8 => [(0, .ref (a 0)), (1, .int c1), (2, .int y2), (3, .int y3), (4, .int y4), (5, .int v5_8)]) dX7_nearestNow_101 5 rfl ci_1 (Nat.le_of_ble_eq_true rfl) [1, 2, 3, 4, 5, 0] (fun _ => rfl) h (fun v5_8 h => ?_)
      refine x_goto 104 C 14 dX7_nearestNow_104 rfl ?_
      exact ih _ h
    · refine x_iload 69 C dX7_nearestNow_69 6 rfl ?_
      refine x_if_le 71 C 101 dX7_nearestNow_71 rfl h (fun h => ?_) (fun h => ?_)
      · refine x_iinc 101 C (L := fun v5_9 => [(0, .ref (a 0)), (1, .int c1), (2, .int y2), (3, .int y3), (4, .int y4), (5, .int v5_9)]) dX7_nearestNow_101 5 rfl ci_1 (Nat.le_of_ble_eq_true rfl) [1, 2, 3, 4, 5, 0] (fun _ => rfl) h (fun v5_9 h => ?_)
        refine x_goto 104 C 14 dX7_nearestNow_104 rfl ?_
        exact ih _ h
      · refine x_iload_n 74 C dX7_nearestNow_74 rfl 2 rfl ?_
        refine x_iconst 75 C dX7_nearestNow_75 ci_m1 ?_
        refine x_join (P := fun t10 => XAt (ωR D a b) Γ 91 [(0, .ref (a 0)), (1, .int c1), (5, .int t10.1), (6, .int t10.2.1), (7, .int t10.2.2)] [] S0) h (fun t10 h => ?_) (fun j11 hj11 h => ?_)
        · refine x_iload 91 C dX7_nearestNow_91 2 rfl ?_
          refine x_top h (fun v2_12 h => ?_)
          refine x_istore_n 93 C (lv' := [(0, .ref (a 0)), (1, .int c1), (2, .int v2_12), (5, .int t10.1), (6, .int t10.2.1), (7, .int t10.2.2)]) dX7_nearestNow_93 rfl (Nat.le_of_ble_eq_true rfl) [1, 2, 0, 3, 4, 5] rfl ?_
          refine x_iload 94 C dX7_nearestNow_94 5 rfl ?_
          refine x_top h (fun v3_13 h => ?_)
          refine x_istore_n 96 C (lv' := [(0, .ref (a 0)), (1, .int c1), (2, .int v2_12), (3, .int v3_13), (5, .int t10.1), (6, .int t10.2.1)]) dX7_nearestNow_96 rfl (Nat.le_of_ble_eq_true rfl) [1, 2, 3, 0, 4, 5] rfl ?_
          refine x_iload 97 C dX7_nearestNow_97 5 rfl ?_
          refine x_top h (fun v4_14 h => ?_)
          refine x_istore 99 C (lv' := [(0, .ref (a 0)), (1, .int c1), (2, .int v2_12), (3, .int v3_13), (4, .int v4_14), (5, .int t10.1)]) dX7_nearestNow_99 (Nat.le_of_ble_eq_true rfl) [1, 2, 3, 4, 0, 5] rfl ?_
          refine x_iinc 101 C (L := fun v5_15 => [(0, .ref (a 0)), (1, .int c1), (2, .int v2_12), (3, .int v3_13), (4, .int v4_14), (5, .int v5_15)]) dX7_nearestNow_101 5 rfl ci_1 (Nat.le_of_ble_eq_true rfl) [1, 2, 3, 4, 5, 0] (fun _ => rfl) h (fun v5_15 h => ?_)
          refine x_goto 104 C 14 dX7_nearestNow_104 rfl ?_
          exact ih _ h
        refine x_icmp_eq 76 C 91 dX7_nearestNow_76 rfl h (fun h => ?_) (fun h => ?_)
        · exact x_sub 91 [0, 1, 5, 6, 7] rfl (hj11 _ h)
        · refine x_iload 79 C dX7_nearestNow_79 7 rfl ?_
          refine x_iload 81 C dX7_nearestNow_81 4 rfl ?_
          refine x_imul 83 C dX7_nearestNow_83 ?_
          refine x_iload_n 84 C dX7_nearestNow_84 rfl 3 rfl ?_
          refine x_iload 85 C dX7_nearestNow_85 6 rfl ?_
          refine x_imul 87 C dX7_nearestNow_87 ?_
          refine x_icmp_le 88 C 101 dX7_nearestNow_88 rfl h (fun h => ?_) (fun h => ?_)
          · refine x_iinc 101 C (L := fun v5_16 => [(0, .ref (a 0)), (1, .int c1), (2, .int y2), (3, .int y3), (4, .int y4), (5, .int v5_16)]) dX7_nearestNow_101 5 rfl ci_1 (Nat.le_of_ble_eq_true rfl) [1, 2, 3, 4, 5, 0] (fun _ => rfl) h (fun v5_16 h => ?_)
            refine x_goto 104 C 14 dX7_nearestNow_104 rfl ?_
            exact ih _ h
          · exact x_sub 91 [0, 1, 5, 6, 7] rfl (hj11 _ h)
set_option maxRecDepth 100000 in
set_option maxHeartbeats 4000000 in
theorem M_X7_nearestNow (l : Launch) (D : va_G) (a : Nat → Nat) (b : Nat → ClassId) (S0 : XSr) (x1 : Int32)  {r9 : Int32} {S9 : XSr} (h : F_X7_nearestNow S0 x1 = some (r9, S9)) : xM l (ωR D a b) yX7_nearestNow cX7_nearestNow 8 (some .int) rm_X7_nearestNow [.ref (a 0), .int x1] S0 (some (.int r9), S9) := by
  unfold F_X7_nearestNow at h
  refine xM_of (own := "GraveOrderModel") (by decide) rfl (Nat.le_of_ble_eq_true rfl) (fun Γ C => ?_)
  refine x_sub 0 [0, 1] (lv' := [(0, .ref (a 0)), (1, .int x1)]) rfl ?_
  refine x_aload_n 0 C dX7_nearestNow_0 rfl 0 rfl ?_
  obtain ⟨z1, hz1, h⟩ := xbind_some h
  refine x_callV 1 C (q0 := 0) (ci := 7) 0 (As := []) (rest := []) (M_X7_lays l D a b S0   hz1) (by rfl) rfl kw_984 mv_X7_lays mh_X7_lays ⟨rfl, rfl⟩ ⟨Nat.le_of_ble_eq_true rfl, Nat.le_of_ble_eq_true rfl⟩ rfl rfl (Nat.le_of_ble_eq_true rfl) dX7_nearestNow_1 ?_
  refine x_iconst 4 C dX7_nearestNow_4 ci_m1 ?_
  refine x_istore_n 5 C (lv' := [(0, .ref (a 0)), (1, .int x1), (2, .int (-1))]) dX7_nearestNow_5 rfl (Nat.le_of_ble_eq_true rfl) [1, 2, 0] rfl ?_
  refine x_iconst 6 C dX7_nearestNow_6 ci_0 ?_
  refine x_istore_n 7 C (lv' := [(0, .ref (a 0)), (1, .int x1), (2, .int (-1)), (3, .int 0)]) dX7_nearestNow_7 rfl (Nat.le_of_ble_eq_true rfl) [1, 2, 3, 0] rfl ?_
  refine x_iconst 8 C dX7_nearestNow_8 ci_1 ?_
  refine x_istore 9 C (lv' := [(0, .ref (a 0)), (1, .int x1), (2, .int (-1)), (3, .int 0), (4, .int 1)]) dX7_nearestNow_9 (Nat.le_of_ble_eq_true rfl) [1, 2, 3, 4, 0] rfl ?_
  refine x_iconst 11 C dX7_nearestNow_11 ci_0 ?_
  refine x_istore 12 C (lv' := [(0, .ref (a 0)), (1, .int x1), (2, .int (-1)), (3, .int 0), (4, .int 1), (5, .int 0)]) dX7_nearestNow_12 (Nat.le_of_ble_eq_true rfl) [1, 2, 3, 4, 5, 0] rfl ?_
  refine x_loop (E := fun e => XAt (ωR D a b) Γ 107 [(2, .int e)] [] z1) (P := fun t => XAt (ωR D a b) Γ 14 [(0, .ref (a 0)), (1, .int x1), (2, .int t.1), (3, .int t.2.1), (4, .int t.2.2.1), (5, .int t.2.2.2)] [] z1) h (fun e17 h => ?_) (fun kx rc t hk ih h => w_X7_nearestNow_14 l D a b z1 C   x1 kx rc hk ih t.1 t.2.1 t.2.2.1 t.2.2.2 h)
  refine x_iload_n 107 C dX7_nearestNow_107 rfl 0 rfl ?_
  exact x_iret 108 C dX7_nearestNow_108 (Prod.mk.inj (Option.some.inj h)).1 (Prod.mk.inj (Option.some.inj h)).2
/-! GraveOrderModel.nearest (I)I -/
def F_X7_nearest (S0 : XSr) (x1 : Int32) : (Option (Int32 × XSr)) :=
  (if (F_X7_isGrave S0 x1) = 0 then (some ((-2), S0)) else ((F_X7_nearestNow S0 x1).bind fun z1 => (some (z1.1, z1.2))))
abbrev rm_X7_nearest : Room := { frames := 3, cells := 0, slots := 0, locals := 71 }
set_option maxRecDepth 100000 in
set_option maxHeartbeats 4000000 in
theorem M_X7_nearest (l : Launch) (D : va_G) (a : Nat → Nat) (b : Nat → ClassId) (S0 : XSr) (x1 : Int32)  {r9 : Int32} {S9 : XSr} (h : F_X7_nearest S0 x1 = some (r9, S9)) : xM l (ωR D a b) yX7_nearest cX7_nearest 2 (some .int) rm_X7_nearest [.ref (a 0), .int x1] S0 (some (.int r9), S9) := by
  unfold F_X7_nearest at h
  refine xM_of (own := "GraveOrderModel") (by decide) rfl (Nat.le_of_ble_eq_true rfl) (fun Γ C => ?_)
  refine x_sub 0 [0, 1] (lv' := [(0, .ref (a 0)), (1, .int x1)]) rfl ?_
  refine x_aload_n 0 C dX7_nearest_0 rfl 0 rfl ?_
  refine x_iload_n 1 C dX7_nearest_1 rfl 1 rfl ?_
  refine x_callV 2 C (q0 := 0) (ci := 7) 1 (As := [.int x1]) (rest := []) (M_X7_isGrave l D a b S0 x1 ) (by rfl) rfl kw_918 mv_X7_isGrave mh_X7_isGrave ⟨rfl, rfl⟩ ⟨Nat.le_of_ble_eq_true rfl, Nat.le_of_ble_eq_true rfl⟩ rfl rfl (Nat.le_of_ble_eq_true rfl) dX7_nearest_2 ?_
  refine x_if_eq 5 C 16 dX7_nearest_5 rfl h (fun h => ?_) (fun h => ?_)
  · refine x_bipush 16 C dX7_nearest_16 cb_m2 ?_
    exact x_iret 18 C dX7_nearest_18 (Prod.mk.inj (Option.some.inj h)).1 (Prod.mk.inj (Option.some.inj h)).2
  · refine x_aload_n 8 C dX7_nearest_8 rfl 0 rfl ?_
    refine x_iload_n 9 C dX7_nearest_9 rfl 1 rfl ?_
    obtain ⟨z1, hz1, h⟩ := xbind_some h
    refine x_callV 10 C (q0 := 0) (ci := 7) 1 (As := [.int x1]) (rest := []) (M_X7_nearestNow l D a b S0 x1  hz1) (by rfl) rfl kw_1150 mv_X7_nearestNow mh_X7_nearestNow ⟨rfl, rfl⟩ ⟨Nat.le_of_ble_eq_true rfl, Nat.le_of_ble_eq_true rfl⟩ rfl rfl (Nat.le_of_ble_eq_true rfl) dX7_nearest_10 ?_
    refine x_goto 13 C 18 dX7_nearest_13 rfl ?_
    exact x_iret 18 C dX7_nearest_18 (Prod.mk.inj (Option.some.inj h)).1 (Prod.mk.inj (Option.some.inj h)).2
/-! GraveOrderModel.sheet (III)I -/
def B_X7_sheet_59 (c1 : Int32) (c3 : Int32) (kx : XSr → Option (Int32 × XSr)) (rc : (Int32 × XSr) → Option (Int32 × XSr)) (y4 : Int32) (S1 : XSr) : Option (Int32 × XSr) :=
  (if 40 ≤ y4 then kx S1 else (if xin (((40 : Int32) * c1) + y4) 160 = true then (xlet (xsr S1 25 (xti (((40 : Int32) * c1) + y4)) 0) fun S8 => (xlet (y4 + 1) fun v4_9 => rc (v4_9, S8))) else none))
def F_X7_sheet (S0 : XSr) (x1 : Int32) (x2 : Int32) (x3 : Int32) : (Option (Int32 × XSr)) :=
  (if (F_X7_isSheet x1) = 0 then (some ((-2), S0)) else (if (F_X7_in x2 0 2) = 0 then (some ((-2), S0)) else (if x3 ≤ 40 then (if 0 ≤ x3 then (if xin x1 4 = true then (xlet (xsr S0 22 (xti x1) (vp_nar .boolean 1)) fun S2 => (if xin x1 4 = true then (xlet (xsr S2 23 (xti x1) x2) fun S4 => (if xin x1 4 = true then (xlet (xsr S4 24 (xti x1) x3) fun S6 => (xlp (fun k rc t => B_X7_sheet_59  x1 x3 k rc t.1 t.2) (fun e10 => (some (x3, e10))) XFU (0, S6))) else none)) else none)) else none) else ((F_X7_meets S0 5).bind fun z11 => (some (z11.1, z11.2)))) else (some ((-2), S0)))))
abbrev rm_X7_sheet : Room := { frames := 2, cells := 0, slots := 0, locals := 42 }
set_option maxRecDepth 100000 in
set_option maxHeartbeats 4000000 in
theorem w_X7_sheet_59 (l : Launch) (D : va_G) (a : Nat → Nat) (b : Nat → ClassId) (S0 : XSr) {Γ : XG XSr} {r9 : Int32} {S9 : XSr} (C : Cx (ωR D a b) Γ cX7_sheet "GraveOrderModel" (some .int) l rm_X7_sheet 5 (some (.int r9), S9)) (c1 : Int32) (c3 : Int32)  (kx : XSr → Option (Int32 × XSr)) (rc : (Int32 × XSr) → Option (Int32 × XSr)) (hk : ∀ e, kx e = some (r9, S9) → XAt (ωR D a b) Γ 85 [(3, .int c3)] [] e) (ih : ∀ t, rc t = some (r9, S9) → XAt (ωR D a b) Γ 59 [(0, .ref (a 0)), (1, .int c1), (3, .int c3), (4, .int t.1)] [] t.2) (y4 : Int32) (S1 : XSr) (h : B_X7_sheet_59  c1 c3 kx rc y4 S1 = some (r9, S9)) : XAt (ωR D a b) Γ 59 [(0, .ref (a 0)), (1, .int c1), (3, .int c3), (4, .int y4)] [] S1 := by
  unfold B_X7_sheet_59 at h
  refine x_iload 59 C dX7_sheet_59 3 rfl ?_
  refine x_bipush 61 C dX7_sheet_61 cb_40 ?_
  refine x_icmp_ge 63 C 85 dX7_sheet_63 rfl h (fun h => ?_) (fun h => ?_)
  · exact x_sub 85 [2] rfl (hk _ h)
  · refine x_aload_n 66 C dX7_sheet_66 rfl 0 rfl ?_
    refine gX7_items 67 C kw_823 dX7_sheet_67 ?_
    refine x_bipush 70 C dX7_sheet_70 cb_40 ?_
    refine x_iload_n 72 C dX7_sheet_72 rfl 1 rfl ?_
    refine x_imul 73 C dX7_sheet_73 ?_
    refine x_iload 74 C dX7_sheet_74 3 rfl ?_
    refine x_iadd 76 C dX7_sheet_76 ?_
    refine x_iconst 77 C dX7_sheet_77 ci_0 ?_
    obtain ⟨hg7, h⟩ := xif_some h
    refine r_iast25 78 C hg7 dX7_sheet_78 ?_
    refine x_topS h (fun S8 h => ?_)
    refine x_iinc 79 C (L := fun v4_9 => [(0, .ref (a 0)), (1, .int c1), (3, .int c3), (4, .int v4_9)]) dX7_sheet_79 3 rfl ci_1 (Nat.le_of_ble_eq_true rfl) [1, 2, 3, 0] (fun _ => rfl) h (fun v4_9 h => ?_)
    refine x_goto 82 C 59 dX7_sheet_82 rfl ?_
    exact ih _ h
set_option maxRecDepth 100000 in
set_option maxHeartbeats 4000000 in
theorem M_X7_sheet (l : Launch) (D : va_G) (a : Nat → Nat) (b : Nat → ClassId) (S0 : XSr) (x1 : Int32) (x2 : Int32) (x3 : Int32)  {r9 : Int32} {S9 : XSr} (h : F_X7_sheet S0 x1 x2 x3 = some (r9, S9)) : xM l (ωR D a b) yX7_sheet cX7_sheet 5 (some .int) rm_X7_sheet [.ref (a 0), .int x1, .int x2, .int x3] S0 (some (.int r9), S9) := by
  unfold F_X7_sheet at h
  refine xM_of (own := "GraveOrderModel") (by decide) rfl (Nat.le_of_ble_eq_true rfl) (fun Γ C => ?_)
  refine x_sub 0 [0, 1, 2, 3] (lv' := [(0, .ref (a 0)), (1, .int x1), (2, .int x2), (3, .int x3)]) rfl ?_
  refine x_iload_n 0 C dX7_sheet_0 rfl 1 rfl ?_
  refine x_callS 1 C 1 (As := [.int x1]) (rest := []) (M_X7_isSheet l (ωR D a b) S0 x1) kw_969 ms_X7_isSheet mh_X7_isSheet ⟨rfl, rfl⟩ ⟨Nat.le_of_ble_eq_true rfl, Nat.le_of_ble_eq_true rfl⟩ rfl rfl (Nat.le_of_ble_eq_true rfl) dX7_sheet_1 ?_
  refine x_if_eq 4 C 22 dX7_sheet_4 rfl h (fun h => ?_) (fun h => ?_)
  · refine x_bipush 22 C dX7_sheet_22 cb_m2 ?_
    exact x_iret 24 C dX7_sheet_24 (Prod.mk.inj (Option.some.inj h)).1 (Prod.mk.inj (Option.some.inj h)).2
  · refine x_iload_n 7 C dX7_sheet_7 rfl 2 rfl ?_
    refine x_iconst 8 C dX7_sheet_8 ci_0 ?_
    refine x_iconst 9 C dX7_sheet_9 ci_2 ?_
    refine x_callS 10 C 3 (As := [.int x2, .int 0, .int 2]) (rest := []) (M_X7_in l (ωR D a b) S0 x2 0 2) kw_911 ms_X7_in mh_X7_in ⟨rfl, rfl⟩ ⟨Nat.le_of_ble_eq_true rfl, Nat.le_of_ble_eq_true rfl⟩ rfl rfl (Nat.le_of_ble_eq_true rfl) dX7_sheet_10 ?_
    refine x_if_eq 13 C 22 dX7_sheet_13 rfl h (fun h => ?_) (fun h => ?_)
    · refine x_bipush 22 C dX7_sheet_22 cb_m2 ?_
      exact x_iret 24 C dX7_sheet_24 (Prod.mk.inj (Option.some.inj h)).1 (Prod.mk.inj (Option.some.inj h)).2
    · refine x_iload_n 16 C dX7_sheet_16 rfl 3 rfl ?_
      refine x_bipush 17 C dX7_sheet_17 cb_40 ?_
      refine x_icmp_le 19 C 25 dX7_sheet_19 rfl h (fun h => ?_) (fun h => ?_)
      · refine x_iload_n 25 C dX7_sheet_25 rfl 3 rfl ?_
        refine x_if_ge 26 C 35 dX7_sheet_26 rfl h (fun h => ?_) (fun h => ?_)
        · refine x_aload_n 35 C dX7_sheet_35 rfl 0 rfl ?_
          refine gX7_isThere 36 C kw_820 dX7_sheet_36 ?_
          refine x_iload_n 39 C dX7_sheet_39 rfl 1 rfl ?_
          refine x_iconst 40 C dX7_sheet_40 ci_1 ?_
          obtain ⟨hg1, h⟩ := xif_some h
          refine r_zast22 41 C hg1 dX7_sheet_41 ?_
          refine x_topS h (fun S2 h => ?_)
          refine x_aload_n 42 C dX7_sheet_42 rfl 0 rfl ?_
          refine gX7_forms 43 C kw_821 dX7_sheet_43 ?_
          refine x_iload_n 46 C dX7_sheet_46 rfl 1 rfl ?_
          refine x_iload_n 47 C dX7_sheet_47 rfl 2 rfl ?_
          obtain ⟨hg3, h⟩ := xif_some h
          refine r_iast23 48 C hg3 dX7_sheet_48 ?_
          refine x_topS h (fun S4 h => ?_)
          refine x_aload_n 49 C dX7_sheet_49 rfl 0 rfl ?_
          refine gX7_sizes 50 C kw_822 dX7_sheet_50 ?_
          refine x_iload_n 53 C dX7_sheet_53 rfl 1 rfl ?_
          refine x_iload_n 54 C dX7_sheet_54 rfl 3 rfl ?_
          obtain ⟨hg5, h⟩ := xif_some h
          refine r_iast24 55 C hg5 dX7_sheet_55 ?_
          refine x_topS h (fun S6 h => ?_)
          refine x_iconst 56 C dX7_sheet_56 ci_0 ?_
          refine x_istore 57 C (lv' := [(0, .ref (a 0)), (1, .int x1), (3, .int x3), (4, .int 0)]) dX7_sheet_57 (Nat.le_of_ble_eq_true rfl) [1, 2, 4, 0] rfl ?_
          refine x_loop (E := fun e => XAt (ωR D a b) Γ 85 [(3, .int x3)] [] e) (P := fun t => XAt (ωR D a b) Γ 59 [(0, .ref (a 0)), (1, .int x1), (3, .int x3), (4, .int t.1)] [] t.2) h (fun e10 h => ?_) (fun kx rc t hk ih h => w_X7_sheet_59 l D a b S0 C   x1 x3 kx rc hk ih t.1 t.2 h)
          refine x_iload_n 85 C dX7_sheet_85 rfl 0 rfl ?_
          exact x_iret 86 C dX7_sheet_86 (Prod.mk.inj (Option.some.inj h)).1 (Prod.mk.inj (Option.some.inj h)).2
        · refine x_aload_n 29 C dX7_sheet_29 rfl 0 rfl ?_
          refine x_iconst 30 C dX7_sheet_30 ci_5 ?_
          obtain ⟨z11, hz11, h⟩ := xbind_some h
          refine x_callV 31 C (q0 := 0) (ci := 7) 1 (As := [.int 5]) (rest := []) (M_X7_meets l D a b S0 5  hz11) (by rfl) rfl kw_972 mv_X7_meets mh_X7_meets ⟨rfl, rfl⟩ ⟨Nat.le_of_ble_eq_true rfl, Nat.le_of_ble_eq_true rfl⟩ rfl rfl (Nat.le_of_ble_eq_true rfl) dX7_sheet_31 ?_
          exact x_iret 34 C dX7_sheet_34 (Prod.mk.inj (Option.some.inj h)).1 (Prod.mk.inj (Option.some.inj h)).2
      · refine x_bipush 22 C dX7_sheet_22 cb_m2 ?_
        exact x_iret 24 C dX7_sheet_24 (Prod.mk.inj (Option.some.inj h)).1 (Prod.mk.inj (Option.some.inj h)).2
/-! GraveOrderModel.lose (I)I -/
def F_X7_lose (S0 : XSr) (x1 : Int32) : (Option (Int32 × XSr)) :=
  (if (F_X7_isSheet x1) = 0 then (some ((-2), S0)) else (if xin x1 4 = true then (if (S0.1 22 (xti x1)) = 0 then ((F_X7_meets S0 1).bind fun z5 => (some (z5.1, z5.2))) else (if xin x1 4 = true then (xlet (xsr S0 22 (xti x1) (vp_nar .boolean 0)) fun S3 => (if xin x1 4 = true then (some ((S3.1 24 (xti x1)), S3)) else none)) else none)) else none))
abbrev rm_X7_lose : Room := { frames := 2, cells := 0, slots := 0, locals := 42 }
set_option maxRecDepth 100000 in
set_option maxHeartbeats 4000000 in
theorem M_X7_lose (l : Launch) (D : va_G) (a : Nat → Nat) (b : Nat → ClassId) (S0 : XSr) (x1 : Int32)  {r9 : Int32} {S9 : XSr} (h : F_X7_lose S0 x1 = some (r9, S9)) : xM l (ωR D a b) yX7_lose cX7_lose 2 (some .int) rm_X7_lose [.ref (a 0), .int x1] S0 (some (.int r9), S9) := by
  unfold F_X7_lose at h
  refine xM_of (own := "GraveOrderModel") (by decide) rfl (Nat.le_of_ble_eq_true rfl) (fun Γ C => ?_)
  refine x_sub 0 [0, 1] (lv' := [(0, .ref (a 0)), (1, .int x1)]) rfl ?_
  refine x_iload_n 0 C dX7_lose_0 rfl 1 rfl ?_
  refine x_callS 1 C 1 (As := [.int x1]) (rest := []) (M_X7_isSheet l (ωR D a b) S0 x1) kw_969 ms_X7_isSheet mh_X7_isSheet ⟨rfl, rfl⟩ ⟨Nat.le_of_ble_eq_true rfl, Nat.le_of_ble_eq_true rfl⟩ rfl rfl (Nat.le_of_ble_eq_true rfl) dX7_lose_1 ?_
  refine x_if_ne 4 C 10 dX7_lose_4 rfl h (fun h => ?_) (fun h => ?_)
  · refine x_aload_n 10 C dX7_lose_10 rfl 0 rfl ?_
    refine gX7_isThere 11 C kw_820 dX7_lose_11 ?_
    refine x_iload_n 14 C dX7_lose_14 rfl 1 rfl ?_
    obtain ⟨hg1, h⟩ := xif_some h
    refine r_zald22 15 C hg1 dX7_lose_15 ?_
    refine x_if_ne 16 C 25 dX7_lose_16 rfl h (fun h => ?_) (fun h => ?_)
    · refine x_aload_n 25 C dX7_lose_25 rfl 0 rfl ?_
      refine gX7_isThere 26 C kw_820 dX7_lose_26 ?_
      refine x_iload_n 29 C dX7_lose_29 rfl 1 rfl ?_
      refine x_iconst 30 C dX7_lose_30 ci_0 ?_
      obtain ⟨hg2, h⟩ := xif_some h
      refine r_zast22 31 C hg2 dX7_lose_31 ?_
      refine x_topS h (fun S3 h => ?_)
      refine x_aload_n 32 C dX7_lose_32 rfl 0 rfl ?_
      refine gX7_sizes 33 C kw_822 dX7_lose_33 ?_
      refine x_iload_n 36 C dX7_lose_36 rfl 1 rfl ?_
      obtain ⟨hg4, h⟩ := xif_some h
      refine r_iald24 37 C hg4 dX7_lose_37 ?_
      exact x_iret 38 C dX7_lose_38 (Prod.mk.inj (Option.some.inj h)).1 (Prod.mk.inj (Option.some.inj h)).2
    · refine x_aload_n 19 C dX7_lose_19 rfl 0 rfl ?_
      refine x_iconst 20 C dX7_lose_20 ci_1 ?_
      obtain ⟨z5, hz5, h⟩ := xbind_some h
      refine x_callV 21 C (q0 := 0) (ci := 7) 1 (As := [.int 1]) (rest := []) (M_X7_meets l D a b S0 1  hz5) (by rfl) rfl kw_972 mv_X7_meets mh_X7_meets ⟨rfl, rfl⟩ ⟨Nat.le_of_ble_eq_true rfl, Nat.le_of_ble_eq_true rfl⟩ rfl rfl (Nat.le_of_ble_eq_true rfl) dX7_lose_21 ?_
      exact x_iret 24 C dX7_lose_24 (Prod.mk.inj (Option.some.inj h)).1 (Prod.mk.inj (Option.some.inj h)).2
  · refine x_bipush 7 C dX7_lose_7 cb_m2 ?_
    exact x_iret 9 C dX7_lose_9 (Prod.mk.inj (Option.some.inj h)).1 (Prod.mk.inj (Option.some.inj h)).2
/-! GraveOrderModel.lacks (III)I -/
def F_X7_lacks (S0 : XSr) (x1 : Int32) (x2 : Int32) (x3 : Int32) : (Option Int32) :=
  (if xin x1 4 = true then (if (S0.1 22 (xti x1)) = 0 then (some 1) else (if xin x1 4 = true then (if (S0.1 23 (xti x1)) = x2 then (if xin x1 4 = true then (if (F_X7_in x3 0 ((S0.1 24 (xti x1)) - (1 : Int32))) = 0 then (some 2) else (some 0)) else none) else (some 3)) else none)) else none)
abbrev rm_X7_lacks : Room := { frames := 1, cells := 0, slots := 0, locals := 22 }
set_option maxRecDepth 100000 in
set_option maxHeartbeats 4000000 in
theorem M_X7_lacks (l : Launch) (D : va_G) (a : Nat → Nat) (b : Nat → ClassId) (S0 : XSr) (x1 : Int32) (x2 : Int32) (x3 : Int32)  {r9 : Int32} (h : F_X7_lacks S0 x1 x2 x3 = some r9) : xM l (ωR D a b) yX7_lacks cX7_lacks 4 (some .int) rm_X7_lacks [.ref (a 0), .int x1, .int x2, .int x3] S0 (some (.int r9), S0) := by
  unfold F_X7_lacks at h
  refine xM_of (own := "GraveOrderModel") (by decide) rfl (Nat.le_of_ble_eq_true rfl) (fun Γ C => ?_)
  refine x_sub 0 [0, 1, 2, 3] (lv' := [(0, .ref (a 0)), (1, .int x1), (2, .int x2), (3, .int x3)]) rfl ?_
  refine x_aload_n 0 C dX7_lacks_0 rfl 0 rfl ?_
  refine gX7_isThere 1 C kw_820 dX7_lacks_1 ?_
  refine x_iload_n 4 C dX7_lacks_4 rfl 1 rfl ?_
  obtain ⟨hg1, h⟩ := xif_some h
  refine r_zald22 5 C hg1 dX7_lacks_5 ?_
  refine x_if_ne 6 C 13 dX7_lacks_6 rfl h (fun h => ?_) (fun h => ?_)
  · refine x_aload_n 13 C dX7_lacks_13 rfl 0 rfl ?_
    refine gX7_forms 14 C kw_821 dX7_lacks_14 ?_
    refine x_iload_n 17 C dX7_lacks_17 rfl 1 rfl ?_
    obtain ⟨hg2, h⟩ := xif_some h
    refine r_iald23 18 C hg2 dX7_lacks_18 ?_
    refine x_iload_n 19 C dX7_lacks_19 rfl 2 rfl ?_
    refine x_icmp_eq 20 C 27 dX7_lacks_20 rfl h (fun h => ?_) (fun h => ?_)
    · refine x_iload_n 27 C dX7_lacks_27 rfl 3 rfl ?_
      refine x_iconst 28 C dX7_lacks_28 ci_0 ?_
      refine x_aload_n 29 C dX7_lacks_29 rfl 0 rfl ?_
      refine gX7_sizes 30 C kw_822 dX7_lacks_30 ?_
      refine x_iload_n 33 C dX7_lacks_33 rfl 1 rfl ?_
      obtain ⟨hg3, h⟩ := xif_some h
      refine r_iald24 34 C hg3 dX7_lacks_34 ?_
      refine x_iconst 35 C dX7_lacks_35 ci_1 ?_
      refine x_isub 36 C dX7_lacks_36 ?_
      refine x_callS 37 C 3 (As := [.int x3, .int 0, .int ((S0.1 24 (xti x1)) - (1 : Int32))]) (rest := []) (M_X7_in l (ωR D a b) S0 x3 0 ((S0.1 24 (xti x1)) - (1 : Int32))) kw_911 ms_X7_in mh_X7_in ⟨rfl, rfl⟩ ⟨Nat.le_of_ble_eq_true rfl, Nat.le_of_ble_eq_true rfl⟩ rfl rfl (Nat.le_of_ble_eq_true rfl) dX7_lacks_37 ?_
      refine x_if_eq 40 C 47 dX7_lacks_40 rfl h (fun h => ?_) (fun h => ?_)
      · refine x_iconst 47 C dX7_lacks_47 ci_2 ?_
        exact x_iret 48 C dX7_lacks_48 (Option.some.inj h) rfl
      · refine x_iconst 43 C dX7_lacks_43 ci_0 ?_
        refine x_goto 44 C 48 dX7_lacks_44 rfl ?_
        exact x_iret 48 C dX7_lacks_48 (Option.some.inj h) rfl
    · refine x_iconst 23 C dX7_lacks_23 ci_3 ?_
      refine x_goto 24 C 48 dX7_lacks_24 rfl ?_
      exact x_iret 48 C dX7_lacks_48 (Option.some.inj h) rfl
  · refine x_iconst 9 C dX7_lacks_9 ci_1 ?_
    refine x_goto 10 C 48 dX7_lacks_10 rfl ?_
    exact x_iret 48 C dX7_lacks_48 (Option.some.inj h) rfl
/-! GraveOrderModel.keep (III)V -/
def F_X7_keep (S0 : XSr) (x1 : Int32) (x2 : Int32) (x3 : Int32) : (Option XSr) :=
  (if xin x1 4 = true then (if (S0.1 23 (xti x1)) = 0 then (if xin (((40 : Int32) * x1) + x2) 160 = true then (xlet (xsr S0 25 (xti (((40 : Int32) * x1) + x2)) ((x3).toInt8.toInt32)) fun S8 => (some S8)) else none) else (if xin x1 4 = true then (if (S0.1 23 (xti x1)) = 1 then (if xin (((40 : Int32) * x1) + x2) 160 = true then (xlet (xsr S0 25 (xti (((40 : Int32) * x1) + x2)) ((x3).toInt16.toInt32)) fun S6 => (some S6)) else none) else (if xin (((40 : Int32) * x1) + x2) 160 = true then (xlet (xsr S0 25 (xti (((40 : Int32) * x1) + x2)) x3) fun S4 => (some S4)) else none)) else none)) else none)
abbrev rm_X7_keep : Room := { frames := 0, cells := 0, slots := 0, locals := 0 }
set_option maxRecDepth 100000 in
set_option maxHeartbeats 4000000 in
theorem M_X7_keep (l : Launch) (D : va_G) (a : Nat → Nat) (b : Nat → ClassId) (S0 : XSr) (x1 : Int32) (x2 : Int32) (x3 : Int32)  {S9 : XSr} (h : F_X7_keep S0 x1 x2 x3 = some S9) : xM l (ωR D a b) yX7_keep cX7_keep 4 none rm_X7_keep [.ref (a 0), .int x1, .int x2, .int x3] S0 (none, S9) := by
  unfold F_X7_keep at h
  refine xM_of (own := "GraveOrderModel") (by decide) rfl (Nat.le_of_ble_eq_true rfl) (fun Γ C => ?_)
  refine x_sub 0 [0, 1, 2, 3] (lv' := [(0, .ref (a 0)), (1, .int x1), (2, .int x2), (3, .int x3)]) rfl ?_
  refine x_aload_n 0 C dX7_keep_0 rfl 0 rfl ?_
  refine gX7_items 1 C kw_823 dX7_keep_1 ?_
  refine x_bipush 4 C dX7_keep_4 cb_40 ?_
  refine x_iload_n 6 C dX7_keep_6 rfl 1 rfl ?_
  refine x_imul 7 C dX7_keep_7 ?_
  refine x_iload_n 8 C dX7_keep_8 rfl 2 rfl ?_
  refine x_iadd 9 C dX7_keep_9 ?_
  refine x_aload_n 10 C dX7_keep_10 rfl 0 rfl ?_
  refine gX7_forms 11 C kw_821 dX7_keep_11 ?_
  refine x_iload_n 14 C dX7_keep_14 rfl 1 rfl ?_
  obtain ⟨hg1, h⟩ := xif_some h
  refine r_iald23 15 C hg1 dX7_keep_15 ?_
  refine x_if_ne 16 C 24 dX7_keep_16 rfl h (fun h => ?_) (fun h => ?_)
  · refine x_aload_n 24 C dX7_keep_24 rfl 0 rfl ?_
    refine gX7_forms 25 C kw_821 dX7_keep_25 ?_
    refine x_iload_n 28 C dX7_keep_28 rfl 1 rfl ?_
    obtain ⟨hg2, h⟩ := xif_some h
    refine r_iald23 29 C hg2 dX7_keep_29 ?_
    refine x_iconst 30 C dX7_keep_30 ci_1 ?_
    refine x_icmp_ne 31 C 39 dX7_keep_31 rfl h (fun h => ?_) (fun h => ?_)
    · refine x_iload_n 39 C dX7_keep_39 rfl 3 rfl ?_
      obtain ⟨hg3, h⟩ := xif_some h
      refine r_iast25 40 C hg3 dX7_keep_40 ?_
      refine x_topS h (fun S4 h => ?_)
      exact x_vret 41 C dX7_keep_41 (Option.some.inj h)
    · refine x_iload_n 34 C dX7_keep_34 rfl 3 rfl ?_
      refine x_i2s 35 C dX7_keep_35 ?_
      refine x_goto 36 C 40 dX7_keep_36 rfl ?_
      obtain ⟨hg5, h⟩ := xif_some h
      refine r_iast25 40 C hg5 dX7_keep_40 ?_
      refine x_topS h (fun S6 h => ?_)
      exact x_vret 41 C dX7_keep_41 (Option.some.inj h)
  · refine x_iload_n 19 C dX7_keep_19 rfl 3 rfl ?_
    refine x_i2b 20 C dX7_keep_20 ?_
    refine x_goto 21 C 40 dX7_keep_21 rfl ?_
    obtain ⟨hg7, h⟩ := xif_some h
    refine r_iast25 40 C hg7 dX7_keep_40 ?_
    refine x_topS h (fun S8 h => ?_)
    exact x_vret 41 C dX7_keep_41 (Option.some.inj h)
/-! GraveOrderModel.put (IIII)I -/
def F_X7_put (S0 : XSr) (x1 : Int32) (x2 : Int32) (x3 : Int32) (x4 : Int32) : (Option (Int32 × XSr)) :=
  (if (F_X7_isSheet x1) = 0 then (some ((-2), S0)) else (if (F_X7_in x2 0 2) = 0 then (some ((-2), S0)) else ((F_X7_lacks S0 x1 x2 x3).bind fun z1 => (if z1 ≤ 0 then ((F_X7_keep S0 x1 x3 x4).bind fun z2 => (some (1, z2))) else ((F_X7_meets S0 z1).bind fun z3 => (some (z3.1, z3.2)))))))
abbrev rm_X7_put : Room := { frames := 2, cells := 0, slots := 0, locals := 45 }
set_option maxRecDepth 100000 in
set_option maxHeartbeats 4000000 in
theorem M_X7_put (l : Launch) (D : va_G) (a : Nat → Nat) (b : Nat → ClassId) (S0 : XSr) (x1 : Int32) (x2 : Int32) (x3 : Int32) (x4 : Int32)  {r9 : Int32} {S9 : XSr} (h : F_X7_put S0 x1 x2 x3 x4 = some (r9, S9)) : xM l (ωR D a b) yX7_put cX7_put 6 (some .int) rm_X7_put [.ref (a 0), .int x1, .int x2, .int x3, .int x4] S0 (some (.int r9), S9) := by
  unfold F_X7_put at h
  refine xM_of (own := "GraveOrderModel") (by decide) rfl (Nat.le_of_ble_eq_true rfl) (fun Γ C => ?_)
  refine x_sub 0 [0, 1, 2, 3, 4] (lv' := [(0, .ref (a 0)), (1, .int x1), (2, .int x2), (3, .int x3), (4, .int x4)]) rfl ?_
  refine x_iload_n 0 C dX7_put_0 rfl 1 rfl ?_
  refine x_callS 1 C 1 (As := [.int x1]) (rest := []) (M_X7_isSheet l (ωR D a b) S0 x1) kw_969 ms_X7_isSheet mh_X7_isSheet ⟨rfl, rfl⟩ ⟨Nat.le_of_ble_eq_true rfl, Nat.le_of_ble_eq_true rfl⟩ rfl rfl (Nat.le_of_ble_eq_true rfl) dX7_put_1 ?_
  refine x_if_eq 4 C 16 dX7_put_4 rfl h (fun h => ?_) (fun h => ?_)
  · refine x_bipush 16 C dX7_put_16 cb_m2 ?_
    exact x_iret 18 C dX7_put_18 (Prod.mk.inj (Option.some.inj h)).1 (Prod.mk.inj (Option.some.inj h)).2
  · refine x_iload_n 7 C dX7_put_7 rfl 2 rfl ?_
    refine x_iconst 8 C dX7_put_8 ci_0 ?_
    refine x_iconst 9 C dX7_put_9 ci_2 ?_
    refine x_callS 10 C 3 (As := [.int x2, .int 0, .int 2]) (rest := []) (M_X7_in l (ωR D a b) S0 x2 0 2) kw_911 ms_X7_in mh_X7_in ⟨rfl, rfl⟩ ⟨Nat.le_of_ble_eq_true rfl, Nat.le_of_ble_eq_true rfl⟩ rfl rfl (Nat.le_of_ble_eq_true rfl) dX7_put_10 ?_
    refine x_if_ne 13 C 19 dX7_put_13 rfl h (fun h => ?_) (fun h => ?_)
    · refine x_aload_n 19 C dX7_put_19 rfl 0 rfl ?_
      refine x_iload_n 20 C dX7_put_20 rfl 1 rfl ?_
      refine x_iload_n 21 C dX7_put_21 rfl 2 rfl ?_
      refine x_iload_n 22 C dX7_put_22 rfl 3 rfl ?_
      obtain ⟨z1, hz1, h⟩ := xbind_some h
      refine x_callV 23 C (q0 := 0) (ci := 7) 3 (As := [.int x1, .int x2, .int x3]) (rest := []) (M_X7_lacks l D a b S0 x1 x2 x3  hz1) (by rfl) rfl kw_1166 mv_X7_lacks mh_X7_lacks ⟨rfl, rfl⟩ ⟨Nat.le_of_ble_eq_true rfl, Nat.le_of_ble_eq_true rfl⟩ rfl rfl (Nat.le_of_ble_eq_true rfl) dX7_put_23 ?_
      refine x_istore 26 C (lv' := [(0, .ref (a 0)), (1, .int x1), (3, .int x3), (4, .int x4), (5, .int z1)]) dX7_put_26 (Nat.le_of_ble_eq_true rfl) [1, 2, 4, 5, 0] rfl ?_
      refine x_iload 28 C dX7_put_28 4 rfl ?_
      refine x_if_le 30 C 40 dX7_put_30 rfl h (fun h => ?_) (fun h => ?_)
      · refine x_aload_n 40 C dX7_put_40 rfl 0 rfl ?_
        refine x_iload_n 41 C dX7_put_41 rfl 1 rfl ?_
        refine x_iload_n 42 C dX7_put_42 rfl 2 rfl ?_
        refine x_iload 43 C dX7_put_43 3 rfl ?_
        obtain ⟨z2, hz2, h⟩ := xbind_some h
        refine x_callV 45 C (q0 := 0) (ci := 7) 3 (As := [.int x1, .int x3, .int x4]) (rest := []) (M_X7_keep l D a b S0 x1 x3 x4  hz2) (by rfl) rfl kw_1170 mv_X7_keep mh_X7_keep ⟨rfl, rfl⟩ ⟨Nat.le_of_ble_eq_true rfl, Nat.le_of_ble_eq_true rfl⟩ rfl rfl (Nat.le_of_ble_eq_true rfl) dX7_put_45 ?_
        refine x_iconst 48 C dX7_put_48 ci_1 ?_
        exact x_iret 49 C dX7_put_49 (Prod.mk.inj (Option.some.inj h)).1 (Prod.mk.inj (Option.some.inj h)).2
      · refine x_aload_n 33 C dX7_put_33 rfl 0 rfl ?_
        refine x_iload 34 C dX7_put_34 4 rfl ?_
        obtain ⟨z3, hz3, h⟩ := xbind_some h
        refine x_callV 36 C (q0 := 0) (ci := 7) 1 (As := [.int z1]) (rest := []) (M_X7_meets l D a b S0 z1  hz3) (by rfl) rfl kw_972 mv_X7_meets mh_X7_meets ⟨rfl, rfl⟩ ⟨Nat.le_of_ble_eq_true rfl, Nat.le_of_ble_eq_true rfl⟩ rfl rfl (Nat.le_of_ble_eq_true rfl) dX7_put_36 ?_
        exact x_iret 39 C dX7_put_39 (Prod.mk.inj (Option.some.inj h)).1 (Prod.mk.inj (Option.some.inj h)).2
    · refine x_bipush 16 C dX7_put_16 cb_m2 ?_
      exact x_iret 18 C dX7_put_18 (Prod.mk.inj (Option.some.inj h)).1 (Prod.mk.inj (Option.some.inj h)).2
/-! GraveOrderModel.get (III)I -/
def F_X7_get (S0 : XSr) (x1 : Int32) (x2 : Int32) (x3 : Int32) : (Option (Int32 × XSr)) :=
  (if (F_X7_isSheet x1) = 0 then (some ((-2147483648), S0)) else (if (F_X7_in x2 0 2) = 0 then (some ((-2147483648), S0)) else ((F_X7_lacks S0 x1 x2 x3).bind fun z1 => (if z1 ≤ 0 then (if xin (((40 : Int32) * x1) + x3) 160 = true then (some ((S0.1 25 (xti (((40 : Int32) * x1) + x3))), S0)) else none) else (xlet (xsr S0 0 39 z1) fun S3 => (some ((-2147483648), S3)))))))
abbrev rm_X7_get : Room := { frames := 2, cells := 0, slots := 0, locals := 45 }
set_option maxRecDepth 100000 in
set_option maxHeartbeats 4000000 in
theorem M_X7_get (l : Launch) (D : va_G) (a : Nat → Nat) (b : Nat → ClassId) (S0 : XSr) (x1 : Int32) (x2 : Int32) (x3 : Int32)  {r9 : Int32} {S9 : XSr} (h : F_X7_get S0 x1 x2 x3 = some (r9, S9)) : xM l (ωR D a b) yX7_get cX7_get 5 (some .int) rm_X7_get [.ref (a 0), .int x1, .int x2, .int x3] S0 (some (.int r9), S9) := by
  unfold F_X7_get at h
  refine xM_of (own := "GraveOrderModel") (by decide) rfl (Nat.le_of_ble_eq_true rfl) (fun Γ C => ?_)
  refine x_sub 0 [0, 1, 2, 3] (lv' := [(0, .ref (a 0)), (1, .int x1), (2, .int x2), (3, .int x3)]) rfl ?_
  refine x_iload_n 0 C dX7_get_0 rfl 1 rfl ?_
  refine x_callS 1 C 1 (As := [.int x1]) (rest := []) (M_X7_isSheet l (ωR D a b) S0 x1) kw_969 ms_X7_isSheet mh_X7_isSheet ⟨rfl, rfl⟩ ⟨Nat.le_of_ble_eq_true rfl, Nat.le_of_ble_eq_true rfl⟩ rfl rfl (Nat.le_of_ble_eq_true rfl) dX7_get_1 ?_
  refine x_if_eq 4 C 16 dX7_get_4 rfl h (fun h => ?_) (fun h => ?_)
  · refine x_ldcw 16 C kw_1178 dX7_get_16 ?_
    exact x_iret 19 C dX7_get_19 (Prod.mk.inj (Option.some.inj h)).1 (Prod.mk.inj (Option.some.inj h)).2
  · refine x_iload_n 7 C dX7_get_7 rfl 2 rfl ?_
    refine x_iconst 8 C dX7_get_8 ci_0 ?_
    refine x_iconst 9 C dX7_get_9 ci_2 ?_
    refine x_callS 10 C 3 (As := [.int x2, .int 0, .int 2]) (rest := []) (M_X7_in l (ωR D a b) S0 x2 0 2) kw_911 ms_X7_in mh_X7_in ⟨rfl, rfl⟩ ⟨Nat.le_of_ble_eq_true rfl, Nat.le_of_ble_eq_true rfl⟩ rfl rfl (Nat.le_of_ble_eq_true rfl) dX7_get_10 ?_
    refine x_if_ne 13 C 20 dX7_get_13 rfl h (fun h => ?_) (fun h => ?_)
    · refine x_aload_n 20 C dX7_get_20 rfl 0 rfl ?_
      refine x_iload_n 21 C dX7_get_21 rfl 1 rfl ?_
      refine x_iload_n 22 C dX7_get_22 rfl 2 rfl ?_
      refine x_iload_n 23 C dX7_get_23 rfl 3 rfl ?_
      obtain ⟨z1, hz1, h⟩ := xbind_some h
      refine x_callV 24 C (q0 := 0) (ci := 7) 3 (As := [.int x1, .int x2, .int x3]) (rest := []) (M_X7_lacks l D a b S0 x1 x2 x3  hz1) (by rfl) rfl kw_1166 mv_X7_lacks mh_X7_lacks ⟨rfl, rfl⟩ ⟨Nat.le_of_ble_eq_true rfl, Nat.le_of_ble_eq_true rfl⟩ rfl rfl (Nat.le_of_ble_eq_true rfl) dX7_get_24 ?_
      refine x_istore 27 C (lv' := [(0, .ref (a 0)), (1, .int x1), (3, .int x3), (4, .int z1)]) dX7_get_27 (Nat.le_of_ble_eq_true rfl) [1, 2, 4, 0] rfl ?_
      refine x_iload 29 C dX7_get_29 3 rfl ?_
      refine x_if_le 31 C 44 dX7_get_31 rfl h (fun h => ?_) (fun h => ?_)
      · refine x_aload_n 44 C dX7_get_44 rfl 0 rfl ?_
        refine gX7_items 45 C kw_823 dX7_get_45 ?_
        refine x_bipush 48 C dX7_get_48 cb_40 ?_
        refine x_iload_n 50 C dX7_get_50 rfl 1 rfl ?_
        refine x_imul 51 C dX7_get_51 ?_
        refine x_iload_n 52 C dX7_get_52 rfl 2 rfl ?_
        refine x_iadd 53 C dX7_get_53 ?_
        obtain ⟨hg2, h⟩ := xif_some h
        refine r_iald25 54 C hg2 dX7_get_54 ?_
        exact x_iret 55 C dX7_get_55 (Prod.mk.inj (Option.some.inj h)).1 (Prod.mk.inj (Option.some.inj h)).2
      · refine x_aload_n 34 C dX7_get_34 rfl 0 rfl ?_
        refine x_iload 35 C dX7_get_35 3 rfl ?_
        refine pX7_finding 37 C kw_825 dX7_get_37 ?_
        refine x_topS h (fun S3 h => ?_)
        refine x_ldcw 40 C kw_1178 dX7_get_40 ?_
        exact x_iret 43 C dX7_get_43 (Prod.mk.inj (Option.some.inj h)).1 (Prod.mk.inj (Option.some.inj h)).2
    · refine x_ldcw 16 C kw_1178 dX7_get_16 ?_
      exact x_iret 19 C dX7_get_19 (Prod.mk.inj (Option.some.inj h)).1 (Prod.mk.inj (Option.some.inj h)).2
/-! GraveOrderModel.copy (IIIII)I -/
def B_X7_copy_120 (c1 : Int32) (c2 : Int32) (c3 : Int32) (c4 : Int32) (c5 : Int32) (kx : XSr → Option (Int32 × XSr)) (rc : (Int32 × XSr) → Option (Int32 × XSr)) (y6 : Int32) (S1 : XSr) : Option (Int32 × XSr) :=
  (if c5 ≤ y6 then kx S1 else (if xin ((((40 : Int32) * c1) + c2) + y6) 160 = true then (if xin y6 40 = true then (xlet (xsr S1 26 (xti y6) (S1.1 25 (xti ((((40 : Int32) * c1) + c2) + y6)))) fun S15 => (xlet (y6 + 1) fun v6_16 => rc (v6_16, S15))) else none) else none))
def B_X7_copy_157 (c3 : Int32) (c4 : Int32) (c5 : Int32) (kx : XSr → Option (Int32 × XSr)) (rc : (Int32 × XSr) → Option (Int32 × XSr)) (y6 : Int32) (S1 : XSr) : Option (Int32 × XSr) :=
  (if c5 ≤ y6 then kx S1 else (if xin y6 40 = true then (if xin ((((40 : Int32) * c3) + c4) + y6) 160 = true then (xlet (xsr S1 25 (xti ((((40 : Int32) * c3) + c4) + y6)) (S1.1 26 (xti y6))) fun S20 => (xlet (y6 + 1) fun v6_21 => rc (v6_21, S20))) else none) else none))
def F_X7_copy (S0 : XSr) (x1 : Int32) (x2 : Int32) (x3 : Int32) (x4 : Int32) (x5 : Int32) : (Option (Int32 × XSr)) :=
  (if (F_X7_isSheet x1) = 0 then (some ((-2), S0)) else (if (F_X7_isSheet x3) = 0 then (some ((-2), S0)) else (if xin x1 4 = true then (xlet (fun (t2 : Unit) => ((F_X7_meets S0 1).bind fun z4 => (some (z4.1, z4.2)))) fun j3 => (if (S0.1 22 (xti x1)) = 0 then j3 () else (if xin x3 4 = true then (if (S0.1 22 (xti x3)) = 0 then j3 () else (if xin x1 4 = true then (if xin x3 4 = true then (if (S0.1 23 (xti x1)) = (S0.1 23 (xti x3)) then (xlet (fun (t8 : Unit) => ((F_X7_meets S0 2).bind fun z10 => (some (z10.1, z10.2)))) fun j9 => (if x2 < 0 then j9 () else (if x4 < 0 then j9 () else (if x5 < 0 then j9 () else (if xin x1 4 = true then (if 0 < (lg_cmp (((x2).toInt64) + ((x5).toInt64)) (((S0.1 24 (xti x1))).toInt64)) then j9 () else (if xin x3 4 = true then (if (lg_cmp (((x4).toInt64) + ((x5).toInt64)) (((S0.1 24 (xti x3))).toInt64)) ≤ 0 then (xlp (fun k rc t => B_X7_copy_120  x1 x2 x3 x4 x5 k rc t.1 t.2) (fun e17 => (xlp (fun k rc t => B_X7_copy_157  x3 x4 x5 k rc t.1 t.2) (fun e22 => (some (1, e22))) XFU (0, e17))) XFU (0, S0)) else j9 ()) else none)) else none))))) else ((F_X7_meets S0 4).bind fun z23 => (some (z23.1, z23.2)))) else none) else none)) else none))) else none)))
abbrev rm_X7_copy : Room := { frames := 2, cells := 0, slots := 0, locals := 42 }
set_option maxRecDepth 100000 in
set_option maxHeartbeats 4000000 in
theorem w_X7_copy_120 (l : Launch) (D : va_G) (a : Nat → Nat) (b : Nat → ClassId) (S0 : XSr) {Γ : XG XSr} {r9 : Int32} {S9 : XSr} (C : Cx (ωR D a b) Γ cX7_copy "GraveOrderModel" (some .int) l rm_X7_copy 7 (some (.int r9), S9)) (c1 : Int32) (c2 : Int32) (c3 : Int32) (c4 : Int32) (c5 : Int32)  (kx : XSr → Option (Int32 × XSr)) (rc : (Int32 × XSr) → Option (Int32 × XSr)) (hk : ∀ e, kx e = some (r9, S9) → XAt (ωR D a b) Γ 154 [(0, .ref (a 0)), (3, .int c3), (4, .int c4), (5, .int c5)] [] e) (ih : ∀ t, rc t = some (r9, S9) → XAt (ωR D a b) Γ 120 [(0, .ref (a 0)), (1, .int c1), (2, .int c2), (3, .int c3), (4, .int c4), (5, .int c5), (6, .int t.1)] [] t.2) (y6 : Int32) (S1 : XSr) (h : B_X7_copy_120  c1 c2 c3 c4 c5 kx rc y6 S1 = some (r9, S9)) : XAt (ωR D a b) Γ 120 [(0, .ref (a 0)), (1, .int c1), (2, .int c2), (3, .int c3), (4, .int c4), (5, .int c5), (6, .int y6)] [] S1 := by
  unfold B_X7_copy_120 at h
  refine x_iload 120 C dX7_copy_120 6 rfl ?_
  refine x_iload 122 C dX7_copy_122 5 rfl ?_
  refine x_icmp_ge 124 C 154 dX7_copy_124 rfl h (fun h => ?_) (fun h => ?_)
  · exact x_sub 154 [0, 3, 4, 5] rfl (hk _ h)
  · refine x_aload_n 127 C dX7_copy_127 rfl 0 rfl ?_
    refine gX7_moved 128 C kw_824 dX7_copy_128 ?_
    refine x_iload 131 C dX7_copy_131 6 rfl ?_
    refine x_aload_n 133 C dX7_copy_133 rfl 0 rfl ?_
    refine gX7_items 134 C kw_823 dX7_copy_134 ?_
    refine x_bipush 137 C dX7_copy_137 cb_40 ?_
    refine x_iload_n 139 C dX7_copy_139 rfl 1 rfl ?_
    refine x_imul 140 C dX7_copy_140 ?_
    refine x_iload_n 141 C dX7_copy_141 rfl 2 rfl ?_
    refine x_iadd 142 C dX7_copy_142 ?_
    refine x_iload 143 C dX7_copy_143 6 rfl ?_
    refine x_iadd 145 C dX7_copy_145 ?_
    obtain ⟨hg13, h⟩ := xif_some h
    refine r_iald25 146 C hg13 dX7_copy_146 ?_
    obtain ⟨hg14, h⟩ := xif_some h
    refine r_iast26 147 C hg14 dX7_copy_147 ?_
    refine x_topS h (fun S15 h => ?_)
    refine x_iinc 148 C (L := fun v6_16 => [(0, .ref (a 0)), (1, .int c1), (2, .int c2), (3, .int c3), (4, .int c4), (5, .int c5), (6, .int v6_16)]) dX7_copy_148 6 rfl ci_1 (Nat.le_of_ble_eq_true rfl) [1, 2, 3, 4, 5, 6, 0] (fun _ => rfl) h (fun v6_16 h => ?_)
    refine x_goto 151 C 120 dX7_copy_151 rfl ?_
    exact ih _ h
set_option maxRecDepth 100000 in
set_option maxHeartbeats 4000000 in
theorem w_X7_copy_157 (l : Launch) (D : va_G) (a : Nat → Nat) (b : Nat → ClassId) (S0 : XSr) {Γ : XG XSr} {r9 : Int32} {S9 : XSr} (C : Cx (ωR D a b) Γ cX7_copy "GraveOrderModel" (some .int) l rm_X7_copy 7 (some (.int r9), S9)) (c3 : Int32) (c4 : Int32) (c5 : Int32)  (kx : XSr → Option (Int32 × XSr)) (rc : (Int32 × XSr) → Option (Int32 × XSr)) (hk : ∀ e, kx e = some (r9, S9) → XAt (ωR D a b) Γ 192 [] [] e) (ih : ∀ t, rc t = some (r9, S9) → XAt (ωR D a b) Γ 157 [(0, .ref (a 0)), (3, .int c3), (4, .int c4), (5, .int c5), (6, .int t.1)] [] t.2) (y6 : Int32) (S1 : XSr) (h : B_X7_copy_157  c3 c4 c5 kx rc y6 S1 = some (r9, S9)) : XAt (ωR D a b) Γ 157 [(0, .ref (a 0)), (3, .int c3), (4, .int c4), (5, .int c5), (6, .int y6)] [] S1 := by
  unfold B_X7_copy_157 at h
  refine x_iload 157 C dX7_copy_157 4 rfl ?_
  refine x_iload 159 C dX7_copy_159 3 rfl ?_
  refine x_icmp_ge 161 C 192 dX7_copy_161 rfl h (fun h => ?_) (fun h => ?_)
  · exact x_sub 192 [] rfl (hk _ h)
  · refine x_aload_n 164 C dX7_copy_164 rfl 0 rfl ?_
    refine gX7_items 165 C kw_823 dX7_copy_165 ?_
    refine x_bipush 168 C dX7_copy_168 cb_40 ?_
    refine x_iload_n 170 C dX7_copy_170 rfl 1 rfl ?_
    refine x_imul 171 C dX7_copy_171 ?_
    refine x_iload 172 C dX7_copy_172 2 rfl ?_
    refine x_iadd 174 C dX7_copy_174 ?_
    refine x_iload 175 C dX7_copy_175 4 rfl ?_
    refine x_iadd 177 C dX7_copy_177 ?_
    refine x_aload_n 178 C dX7_copy_178 rfl 0 rfl ?_
    refine gX7_moved 179 C kw_824 dX7_copy_179 ?_
    refine x_iload 182 C dX7_copy_182 4 rfl ?_
    obtain ⟨hg18, h⟩ := xif_some h
    refine r_iald26 184 C hg18 dX7_copy_184 ?_
    obtain ⟨hg19, h⟩ := xif_some h
    refine r_iast25 185 C hg19 dX7_copy_185 ?_
    refine x_topS h (fun S20 h => ?_)
    refine x_iinc 186 C (L := fun v6_21 => [(0, .ref (a 0)), (3, .int c3), (4, .int c4), (5, .int c5), (6, .int v6_21)]) dX7_copy_186 4 rfl ci_1 (Nat.le_of_ble_eq_true rfl) [1, 2, 3, 4, 0] (fun _ => rfl) h (fun v6_21 h => ?_)
    refine x_goto 189 C 157 dX7_copy_189 rfl ?_
    exact ih _ h
set_option maxRecDepth 100000 in
set_option maxHeartbeats 4000000 in
theorem M_X7_copy (l : Launch) (D : va_G) (a : Nat → Nat) (b : Nat → ClassId) (S0 : XSr) (x1 : Int32) (x2 : Int32) (x3 : Int32) (x4 : Int32) (x5 : Int32)  {r9 : Int32} {S9 : XSr} (h : F_X7_copy S0 x1 x2 x3 x4 x5 = some (r9, S9)) : xM l (ωR D a b) yX7_copy cX7_copy 7 (some .int) rm_X7_copy [.ref (a 0), .int x1, .int x2, .int x3, .int x4, .int x5] S0 (some (.int r9), S9) := by
  unfold F_X7_copy at h
  refine xM_of (own := "GraveOrderModel") (by decide) rfl (Nat.le_of_ble_eq_true rfl) (fun Γ C => ?_)
  refine x_sub 0 [0, 1, 2, 3, 4, 5] (lv' := [(0, .ref (a 0)), (1, .int x1), (2, .int x2), (3, .int x3), (4, .int x4), (5, .int x5)]) rfl ?_
  refine x_iload_n 0 C dX7_copy_0 rfl 1 rfl ?_
  refine x_callS 1 C 1 (As := [.int x1]) (rest := []) (M_X7_isSheet l (ωR D a b) S0 x1) kw_969 ms_X7_isSheet mh_X7_isSheet ⟨rfl, rfl⟩ ⟨Nat.le_of_ble_eq_true rfl, Nat.le_of_ble_eq_true rfl⟩ rfl rfl (Nat.le_of_ble_eq_true rfl) dX7_copy_1 ?_
  refine x_if_eq 4 C 14 dX7_copy_4 rfl h (fun h => ?_) (fun h => ?_)
  · refine x_bipush 14 C dX7_copy_14 cb_m2 ?_
    exact x_iret 16 C dX7_copy_16 (Prod.mk.inj (Option.some.inj h)).1 (Prod.mk.inj (Option.some.inj h)).2
  · refine x_iload_n 7 C dX7_copy_7 rfl 3 rfl ?_
    refine x_callS 8 C 1 (As := [.int x3]) (rest := []) (M_X7_isSheet l (ωR D a b) S0 x3) kw_969 ms_X7_isSheet mh_X7_isSheet ⟨rfl, rfl⟩ ⟨Nat.le_of_ble_eq_true rfl, Nat.le_of_ble_eq_true rfl⟩ rfl rfl (Nat.le_of_ble_eq_true rfl) dX7_copy_8 ?_
    refine x_if_ne 11 C 17 dX7_copy_11 rfl h (fun h => ?_) (fun h => ?_)
    · refine x_aload_n 17 C dX7_copy_17 rfl 0 rfl ?_
      refine gX7_isThere 18 C kw_820 dX7_copy_18 ?_
      refine x_iload_n 21 C dX7_copy_21 rfl 1 rfl ?_
      obtain ⟨hg1, h⟩ := xif_some h
      refine r_zald22 22 C hg1 dX7_copy_22 ?_
      refine x_join (P := fun t2 => XAt (ωR D a b) Γ 35 [(0, .ref (a 0))] [] S0) h (fun t2 h => ?_) (fun j3 hj3 h => ?_)
      · refine x_aload_n 35 C dX7_copy_35 rfl 0 rfl ?_
        refine x_iconst 36 C dX7_copy_36 ci_1 ?_
        obtain ⟨z4, hz4, h⟩ := xbind_some h
        refine x_callV 37 C (q0 := 0) (ci := 7) 1 (As := [.int 1]) (rest := []) (M_X7_meets l D a b S0 1  hz4) (by rfl) rfl kw_972 mv_X7_meets mh_X7_meets ⟨rfl, rfl⟩ ⟨Nat.le_of_ble_eq_true rfl, Nat.le_of_ble_eq_true rfl⟩ rfl rfl (Nat.le_of_ble_eq_true rfl) dX7_copy_37 ?_
        exact x_iret 40 C dX7_copy_40 (Prod.mk.inj (Option.some.inj h)).1 (Prod.mk.inj (Option.some.inj h)).2
      refine x_if_eq 23 C 35 dX7_copy_23 rfl h (fun h => ?_) (fun h => ?_)
      · exact x_sub 35 [0] rfl (hj3 _ h)
      · refine x_aload_n 26 C dX7_copy_26 rfl 0 rfl ?_
        refine gX7_isThere 27 C kw_820 dX7_copy_27 ?_
        refine x_iload_n 30 C dX7_copy_30 rfl 3 rfl ?_
        obtain ⟨hg5, h⟩ := xif_some h
        refine r_zald22 31 C hg5 dX7_copy_31 ?_
        refine x_if_ne 32 C 41 dX7_copy_32 rfl h (fun h => ?_) (fun h => ?_)
        · refine x_aload_n 41 C dX7_copy_41 rfl 0 rfl ?_
          refine gX7_forms 42 C kw_821 dX7_copy_42 ?_
          refine x_iload_n 45 C dX7_copy_45 rfl 1 rfl ?_
          obtain ⟨hg6, h⟩ := xif_some h
          refine r_iald23 46 C hg6 dX7_copy_46 ?_
          refine x_aload_n 47 C dX7_copy_47 rfl 0 rfl ?_
          refine gX7_forms 48 C kw_821 dX7_copy_48 ?_
          refine x_iload_n 51 C dX7_copy_51 rfl 3 rfl ?_
          obtain ⟨hg7, h⟩ := xif_some h
          refine r_iald23 52 C hg7 dX7_copy_52 ?_
          refine x_icmp_eq 53 C 62 dX7_copy_53 rfl h (fun h => ?_) (fun h => ?_)
          · refine x_iload_n 62 C dX7_copy_62 rfl 2 rfl ?_
            refine x_join (P := fun t8 => XAt (ωR D a b) Γ 111 [(0, .ref (a 0))] [] S0) h (fun t8 h => ?_) (fun j9 hj9 h => ?_)
            · refine x_aload_n 111 C dX7_copy_111 rfl 0 rfl ?_
              refine x_iconst 112 C dX7_copy_112 ci_2 ?_
              obtain ⟨z10, hz10, h⟩ := xbind_some h
              refine x_callV 113 C (q0 := 0) (ci := 7) 1 (As := [.int 2]) (rest := []) (M_X7_meets l D a b S0 2  hz10) (by rfl) rfl kw_972 mv_X7_meets mh_X7_meets ⟨rfl, rfl⟩ ⟨Nat.le_of_ble_eq_true rfl, Nat.le_of_ble_eq_true rfl⟩ rfl rfl (Nat.le_of_ble_eq_true rfl) dX7_copy_113 ?_
              exact x_iret 116 C dX7_copy_116 (Prod.mk.inj (Option.some.inj h)).1 (Prod.mk.inj (Option.some.inj h)).2
            refine x_if_lt 63 C 111 dX7_copy_63 rfl h (fun h => ?_) (fun h => ?_)
            · exact x_sub 111 [0] rfl (hj9 _ h)
            · refine x_iload 66 C dX7_copy_66 4 rfl ?_
              refine x_if_lt 68 C 111 dX7_copy_68 rfl h (fun h => ?_) (fun h => ?_)
              · exact x_sub 111 [0] rfl (hj9 _ h)
              · refine x_iload 71 C dX7_copy_71 5 rfl ?_
                refine x_if_lt 73 C 111 dX7_copy_73 rfl h (fun h => ?_) (fun h => ?_)
                · exact x_sub 111 [0] rfl (hj9 _ h)
                · refine x_iload_n 76 C dX7_copy_76 rfl 2 rfl ?_
                  refine x_i2l 77 C dX7_copy_77 ?_
                  refine x_iload 78 C dX7_copy_78 5 rfl ?_
                  refine x_i2l 80 C dX7_copy_80 ?_
                  refine x_ladd 81 C dX7_copy_81 ?_
                  refine x_aload_n 82 C dX7_copy_82 rfl 0 rfl ?_
                  refine gX7_sizes 83 C kw_822 dX7_copy_83 ?_
                  refine x_iload_n 86 C dX7_copy_86 rfl 1 rfl ?_
                  obtain ⟨hg11, h⟩ := xif_some h
                  refine r_iald24 87 C hg11 dX7_copy_87 ?_
                  refine x_i2l 88 C dX7_copy_88 ?_
                  refine x_lcmp 89 C dX7_copy_89 ?_
                  refine x_if_gt 90 C 111 dX7_copy_90 rfl h (fun h => ?_) (fun h => ?_)
                  · exact x_sub 111 [0] rfl (hj9 _ h)
                  · refine x_iload 93 C dX7_copy_93 4 rfl ?_
                    refine x_i2l 95 C dX7_copy_95 ?_
                    refine x_iload 96 C dX7_copy_96 5 rfl ?_
                    refine x_i2l 98 C dX7_copy_98 ?_
                    refine x_ladd 99 C dX7_copy_99 ?_
                    refine x_aload_n 100 C dX7_copy_100 rfl 0 rfl ?_
                    refine gX7_sizes 101 C kw_822 dX7_copy_101 ?_
                    refine x_iload_n 104 C dX7_copy_104 rfl 3 rfl ?_
                    obtain ⟨hg12, h⟩ := xif_some h
                    refine r_iald24 105 C hg12 dX7_copy_105 ?_
                    refine x_i2l 106 C dX7_copy_106 ?_
                    refine x_lcmp 107 C dX7_copy_107 ?_
                    refine x_if_le 108 C 117 dX7_copy_108 rfl h (fun h => ?_) (fun h => ?_)
                    · refine x_iconst 117 C dX7_copy_117 ci_0 ?_
                      refine x_istore 118 C (lv' := [(0, .ref (a 0)), (1, .int x1), (2, .int x2), (3, .int x3), (4, .int x4), (5, .int x5), (6, .int 0)]) dX7_copy_118 (Nat.le_of_ble_eq_true rfl) [1, 2, 3, 4, 5, 6, 0] rfl ?_
                      refine x_loop (E := fun e => XAt (ωR D a b) Γ 154 [(0, .ref (a 0)), (3, .int x3), (4, .int x4), (5, .int x5)] [] e) (P := fun t => XAt (ωR D a b) Γ 120 [(0, .ref (a 0)), (1, .int x1), (2, .int x2), (3, .int x3), (4, .int x4), (5, .int x5), (6, .int t.1)] [] t.2) h (fun e17 h => ?_) (fun kx rc t hk ih h => w_X7_copy_120 l D a b S0 C   x1 x2 x3 x4 x5 kx rc hk ih t.1 t.2 h)
                      refine x_iconst 154 C dX7_copy_154 ci_0 ?_
                      refine x_istore 155 C (lv' := [(0, .ref (a 0)), (3, .int x3), (4, .int x4), (5, .int x5), (6, .int 0)]) dX7_copy_155 (Nat.le_of_ble_eq_true rfl) [1, 2, 3, 4, 0] rfl ?_
                      refine x_loop (E := fun e => XAt (ωR D a b) Γ 192 [] [] e) (P := fun t => XAt (ωR D a b) Γ 157 [(0, .ref (a 0)), (3, .int x3), (4, .int x4), (5, .int x5), (6, .int t.1)] [] t.2) h (fun e22 h => ?_) (fun kx rc t hk ih h => w_X7_copy_157 l D a b S0 C   x3 x4 x5 kx rc hk ih t.1 t.2 h)
                      refine x_iconst 192 C dX7_copy_192 ci_1 ?_
                      exact x_iret 193 C dX7_copy_193 (Prod.mk.inj (Option.some.inj h)).1 (Prod.mk.inj (Option.some.inj h)).2
                    · exact x_sub 111 [0] rfl (hj9 _ h)
          · refine x_aload_n 56 C dX7_copy_56 rfl 0 rfl ?_
            refine x_iconst 57 C dX7_copy_57 ci_4 ?_
            obtain ⟨z23, hz23, h⟩ := xbind_some h
            refine x_callV 58 C (q0 := 0) (ci := 7) 1 (As := [.int 4]) (rest := []) (M_X7_meets l D a b S0 4  hz23) (by rfl) rfl kw_972 mv_X7_meets mh_X7_meets ⟨rfl, rfl⟩ ⟨Nat.le_of_ble_eq_true rfl, Nat.le_of_ble_eq_true rfl⟩ rfl rfl (Nat.le_of_ble_eq_true rfl) dX7_copy_58 ?_
            exact x_iret 61 C dX7_copy_61 (Prod.mk.inj (Option.some.inj h)).1 (Prod.mk.inj (Option.some.inj h)).2
        · exact x_sub 35 [0] rfl (hj3 _ h)
    · refine x_bipush 14 C dX7_copy_14 cb_m2 ?_
      exact x_iret 16 C dX7_copy_16 (Prod.mk.inj (Option.some.inj h)).1 (Prod.mk.inj (Option.some.inj h)).2
/-! GraveOrderModel.write (I)I -/
def B_X7_write_37 (c1 : Int32) (kx : (Int32 × XSr) → Option (Int32 × XSr)) (rc : (Int32 × XSr) → Option (Int32 × XSr)) (y2 : Int32) (S1 : XSr) : Option (Int32 × XSr) :=
  (if (S1.1 0 0) ≤ y2 then kx (y2, S1) else (if xin c1 4 = true then (if (S1.1 24 (xti c1)) ≤ y2 then kx (y2, S1) else (if xin y2 8 = true then ((F_X7_keep S1 c1 y2 (S1.1 17 (xti y2))).bind fun z5 => (xlet (y2 + 1) fun v2_6 => rc (v2_6, z5))) else none)) else none))
def F_X7_write (S0 : XSr) (x1 : Int32) : (Option (Int32 × XSr)) :=
  (if (F_X7_isSheet x1) = 0 then (some ((-2), S0)) else (if xin x1 4 = true then (if (S0.1 22 (xti x1)) = 0 then ((F_X7_meets S0 1).bind fun z8 => (some (z8.1, z8.2))) else ((F_X7_areAny S0).bind fun z2 => (if z2.1 = 0 then (some ((-3), z2.2)) else (xlp (fun k rc t => B_X7_write_37  x1 k rc t.1 t.2) (fun e7 => (some (e7.1, e7.2))) XFU (0, z2.2))))) else none))
abbrev rm_X7_write : Room := { frames := 5, cells := 0, slots := 0, locals := 110 }
set_option maxRecDepth 100000 in
set_option maxHeartbeats 4000000 in
theorem w_X7_write_37 (l : Launch) (D : va_G) (a : Nat → Nat) (b : Nat → ClassId) (S0 : XSr) {Γ : XG XSr} {r9 : Int32} {S9 : XSr} (C : Cx (ωR D a b) Γ cX7_write "GraveOrderModel" (some .int) l rm_X7_write 3 (some (.int r9), S9)) (c1 : Int32)  (kx : (Int32 × XSr) → Option (Int32 × XSr)) (rc : (Int32 × XSr) → Option (Int32 × XSr)) (hk : ∀ e, kx e = some (r9, S9) → XAt (ωR D a b) Γ 73 [(2, .int e.1)] [] e.2) (ih : ∀ t, rc t = some (r9, S9) → XAt (ωR D a b) Γ 37 [(0, .ref (a 0)), (1, .int c1), (2, .int t.1)] [] t.2) (y2 : Int32) (S1 : XSr) (h : B_X7_write_37  c1 kx rc y2 S1 = some (r9, S9)) : XAt (ωR D a b) Γ 37 [(0, .ref (a 0)), (1, .int c1), (2, .int y2)] [] S1 := by
  unfold B_X7_write_37 at h
  refine x_iload_n 37 C dX7_write_37 rfl 2 rfl ?_
  refine x_aload_n 38 C dX7_write_38 rfl 0 rfl ?_
  refine gX7_graves 39 C kw_786 dX7_write_39 ?_
  refine x_icmp_ge 42 C 73 dX7_write_42 rfl h (fun h => ?_) (fun h => ?_)
  · exact x_sub 73 [2] rfl (hk _ h)
  · refine x_iload_n 45 C dX7_write_45 rfl 2 rfl ?_
    refine x_aload_n 46 C dX7_write_46 rfl 0 rfl ?_
    refine gX7_sizes 47 C kw_822 dX7_write_47 ?_
    refine x_iload_n 50 C dX7_write_50 rfl 1 rfl ?_
    obtain ⟨hg3, h⟩ := xif_some h
    refine r_iald24 51 C hg3 dX7_write_51 ?_
    refine x_icmp_ge 52 C 73 dX7_write_52 rfl h (fun h => ?_) (fun h => ?_)
    · exact x_sub 73 [2] rfl (hk _ h)
    · refine x_aload_n 55 C dX7_write_55 rfl 0 rfl ?_
      refine x_iload_n 56 C dX7_write_56 rfl 1 rfl ?_
      refine x_iload_n 57 C dX7_write_57 rfl 2 rfl ?_
      refine x_aload_n 58 C dX7_write_58 rfl 0 rfl ?_
      refine gX7_firstOrder 59 C kw_814 dX7_write_59 ?_
      refine x_iload_n 62 C dX7_write_62 rfl 2 rfl ?_
      obtain ⟨hg4, h⟩ := xif_some h
      refine r_iald17 63 C hg4 dX7_write_63 ?_
      obtain ⟨z5, hz5, h⟩ := xbind_some h
      refine x_callV 64 C (q0 := 0) (ci := 7) 3 (As := [.int c1, .int y2, .int (S1.1 17 (xti y2))]) (rest := []) (M_X7_keep l D a b S1 c1 y2 (S1.1 17 (xti y2))  hz5) (by rfl) rfl kw_1170 mv_X7_keep mh_X7_keep ⟨rfl, rfl⟩ ⟨Nat.le_of_ble_eq_true rfl, Nat.le_of_ble_eq_true rfl⟩ rfl rfl (Nat.le_of_ble_eq_true rfl) dX7_write_64 ?_
      refine x_iinc 67 C (L := fun v2_6 => [(0, .ref (a 0)), (1, .int c1), (2, .int v2_6)]) dX7_write_67 2 rfl ci_1 (Nat.le_of_ble_eq_true rfl) [1, 2, 0] (fun _ => rfl) h (fun v2_6 h => ?_)
      refine x_goto 70 C 37 dX7_write_70 rfl ?_
      exact ih _ h
set_option maxRecDepth 100000 in
set_option maxHeartbeats 4000000 in
theorem M_X7_write (l : Launch) (D : va_G) (a : Nat → Nat) (b : Nat → ClassId) (S0 : XSr) (x1 : Int32)  {r9 : Int32} {S9 : XSr} (h : F_X7_write S0 x1 = some (r9, S9)) : xM l (ωR D a b) yX7_write cX7_write 3 (some .int) rm_X7_write [.ref (a 0), .int x1] S0 (some (.int r9), S9) := by
  unfold F_X7_write at h
  refine xM_of (own := "GraveOrderModel") (by decide) rfl (Nat.le_of_ble_eq_true rfl) (fun Γ C => ?_)
  refine x_sub 0 [0, 1] (lv' := [(0, .ref (a 0)), (1, .int x1)]) rfl ?_
  refine x_iload_n 0 C dX7_write_0 rfl 1 rfl ?_
  refine x_callS 1 C 1 (As := [.int x1]) (rest := []) (M_X7_isSheet l (ωR D a b) S0 x1) kw_969 ms_X7_isSheet mh_X7_isSheet ⟨rfl, rfl⟩ ⟨Nat.le_of_ble_eq_true rfl, Nat.le_of_ble_eq_true rfl⟩ rfl rfl (Nat.le_of_ble_eq_true rfl) dX7_write_1 ?_
  refine x_if_ne 4 C 10 dX7_write_4 rfl h (fun h => ?_) (fun h => ?_)
  · refine x_aload_n 10 C dX7_write_10 rfl 0 rfl ?_
    refine gX7_isThere 11 C kw_820 dX7_write_11 ?_
    refine x_iload_n 14 C dX7_write_14 rfl 1 rfl ?_
    obtain ⟨hg1, h⟩ := xif_some h
    refine r_zald22 15 C hg1 dX7_write_15 ?_
    refine x_if_ne 16 C 25 dX7_write_16 rfl h (fun h => ?_) (fun h => ?_)
    · refine x_aload_n 25 C dX7_write_25 rfl 0 rfl ?_
      obtain ⟨z2, hz2, h⟩ := xbind_some h
      refine x_callV 26 C (q0 := 0) (ci := 7) 0 (As := []) (rest := []) (M_X7_areAny l D a b S0   hz2) (by rfl) rfl kw_1015 mv_X7_areAny mh_X7_areAny ⟨rfl, rfl⟩ ⟨Nat.le_of_ble_eq_true rfl, Nat.le_of_ble_eq_true rfl⟩ rfl rfl (Nat.le_of_ble_eq_true rfl) dX7_write_26 ?_
      refine x_if_ne 29 C 35 dX7_write_29 rfl h (fun h => ?_) (fun h => ?_)
      · refine x_iconst 35 C dX7_write_35 ci_0 ?_
        refine x_istore_n 36 C (lv' := [(0, .ref (a 0)), (1, .int x1), (2, .int 0)]) dX7_write_36 rfl (Nat.le_of_ble_eq_true rfl) [1, 2, 0] rfl ?_
        refine x_loop (E := fun e => XAt (ωR D a b) Γ 73 [(2, .int e.1)] [] e.2) (P := fun t => XAt (ωR D a b) Γ 37 [(0, .ref (a 0)), (1, .int x1), (2, .int t.1)] [] t.2) h (fun e7 h => ?_) (fun kx rc t hk ih h => w_X7_write_37 l D a b S0 C   x1 kx rc hk ih t.1 t.2 h)
        refine x_iload_n 73 C dX7_write_73 rfl 0 rfl ?_
        exact x_iret 74 C dX7_write_74 (Prod.mk.inj (Option.some.inj h)).1 (Prod.mk.inj (Option.some.inj h)).2
      · refine x_bipush 32 C dX7_write_32 cb_m3 ?_
        exact x_iret 34 C dX7_write_34 (Prod.mk.inj (Option.some.inj h)).1 (Prod.mk.inj (Option.some.inj h)).2
    · refine x_aload_n 19 C dX7_write_19 rfl 0 rfl ?_
      refine x_iconst 20 C dX7_write_20 ci_1 ?_
      obtain ⟨z8, hz8, h⟩ := xbind_some h
      refine x_callV 21 C (q0 := 0) (ci := 7) 1 (As := [.int 1]) (rest := []) (M_X7_meets l D a b S0 1  hz8) (by rfl) rfl kw_972 mv_X7_meets mh_X7_meets ⟨rfl, rfl⟩ ⟨Nat.le_of_ble_eq_true rfl, Nat.le_of_ble_eq_true rfl⟩ rfl rfl (Nat.le_of_ble_eq_true rfl) dX7_write_21 ?_
      exact x_iret 24 C dX7_write_24 (Prod.mk.inj (Option.some.inj h)).1 (Prod.mk.inj (Option.some.inj h)).2
  · refine x_bipush 7 C dX7_write_7 cb_m2 ?_
    exact x_iret 9 C dX7_write_9 (Prod.mk.inj (Option.some.inj h)).1 (Prod.mk.inj (Option.some.inj h)).2
/-! GraveOrderModel.countNow (I)I -/
def B_X7_countNow_11 (S0 : XSr) (c1 : Int32) (kx : (Int32 × Int32) → Option (Int32 × XSr)) (rc : (Int32 × Int32 × Int32) → Option (Int32 × XSr)) (y2 : Int32) (y3 : Int32) (y4 : Int32) : Option (Int32 × XSr) :=
  (if (S0.1 0 0) ≤ y4 then kx (y2, y3) else (if xin y4 8 = true then (xlet (y2 ||| (S0.1 14 (xti y4))) fun v2_3 => (if xin y4 8 = true then ((F_X7_ones S0 (S0.1 14 (xti y4))).bind fun z5 => (xlet (y3 + z5) fun v3_6 => (xlet (y4 + 1) fun v4_7 => rc (v2_3, v3_6, v4_7)))) else none)) else none))
def F_X7_countNow (S0 : XSr) (x1 : Int32) : (Option (Int32 × XSr)) :=
  ((F_X7_lays S0).bind fun z1 => (xlp (fun k rc t => B_X7_countNow_11 z1  x1 k rc t.1 t.2.1 t.2.2) (fun e8 => (if x1 = 2 then (some (e8.1, z1)) else (some (e8.2, z1)))) XFU (0, 0, 0)))
abbrev rm_X7_countNow : Room := { frames := 1, cells := 0, slots := 0, locals := 22 }
set_option maxRecDepth 100000 in
set_option maxHeartbeats 4000000 in
theorem w_X7_countNow_11 (l : Launch) (D : va_G) (a : Nat → Nat) (b : Nat → ClassId) (S0 : XSr) {Γ : XG XSr} {r9 : Int32} {S9 : XSr} (C : Cx (ωR D a b) Γ cX7_countNow "GraveOrderModel" (some .int) l rm_X7_countNow 5 (some (.int r9), S9)) (c1 : Int32)  (kx : (Int32 × Int32) → Option (Int32 × XSr)) (rc : (Int32 × Int32 × Int32) → Option (Int32 × XSr)) (hk : ∀ e, kx e = some (r9, S9) → XAt (ωR D a b) Γ 49 [(1, .int c1), (2, .int e.1), (3, .int e.2)] [] S0) (ih : ∀ t, rc t = some (r9, S9) → XAt (ωR D a b) Γ 11 [(0, .ref (a 0)), (1, .int c1), (2, .int t.1), (3, .int t.2.1), (4, .int t.2.2)] [] S0) (y2 : Int32) (y3 : Int32) (y4 : Int32) (h : B_X7_countNow_11 S0  c1 kx rc y2 y3 y4 = some (r9, S9)) : XAt (ωR D a b) Γ 11 [(0, .ref (a 0)), (1, .int c1), (2, .int y2), (3, .int y3), (4, .int y4)] [] S0 := by
  unfold B_X7_countNow_11 at h
  refine x_iload 11 C dX7_countNow_11 4 rfl ?_
  refine x_aload_n 13 C dX7_countNow_13 rfl 0 rfl ?_
  refine gX7_graves 14 C kw_786 dX7_countNow_14 ?_
  refine x_icmp_ge 17 C 49 dX7_countNow_17 rfl h (fun h => ?_) (fun h => ?_)
  · exact x_sub 49 [1, 2, 3] rfl (hk _ h)
  · refine x_iload_n 20 C dX7_countNow_20 rfl 2 rfl ?_
    refine x_aload_n 21 C dX7_countNow_21 rfl 0 rfl ?_
    refine gX7_have 22 C kw_807 dX7_countNow_22 ?_
    refine x_iload 25 C dX7_countNow_25 4 rfl ?_
    obtain ⟨hg2, h⟩ := xif_some h
    refine r_iald14 27 C hg2 dX7_countNow_27 ?_
    refine x_ior 28 C dX7_countNow_28 ?_
    refine x_top h (fun v2_3 h => ?_)
    refine x_istore_n 29 C (lv' := [(0, .ref (a 0)), (1, .int c1), (2, .int v2_3), (3, .int y3), (4, .int y4)]) dX7_countNow_29 rfl (Nat.le_of_ble_eq_true rfl) [1, 2, 0, 3, 4] rfl ?_
    refine x_iload_n 30 C dX7_countNow_30 rfl 3 rfl ?_
    refine x_aload_n 31 C dX7_countNow_31 rfl 0 rfl ?_
    refine gX7_have 32 C kw_807 dX7_countNow_32 ?_
    refine x_iload 35 C dX7_countNow_35 4 rfl ?_
    obtain ⟨hg4, h⟩ := xif_some h
    refine r_iald14 37 C hg4 dX7_countNow_37 ?_
    obtain ⟨z5, hz5, h⟩ := xbind_some h
    refine x_callS 38 C 1 (As := [.int (S0.1 14 (xti y4))]) (rest := [.int y3]) (M_X7_ones l D a b S0 (S0.1 14 (xti y4))  hz5) kw_1032 ms_X7_ones mh_X7_ones ⟨rfl, rfl⟩ ⟨Nat.le_of_ble_eq_true rfl, Nat.le_of_ble_eq_true rfl⟩ rfl rfl (Nat.le_of_ble_eq_true rfl) dX7_countNow_38 ?_
    refine x_iadd 41 C dX7_countNow_41 ?_
    refine x_top h (fun v3_6 h => ?_)
    refine x_istore_n 42 C (lv' := [(0, .ref (a 0)), (1, .int c1), (2, .int v2_3), (3, .int v3_6), (4, .int y4)]) dX7_countNow_42 rfl (Nat.le_of_ble_eq_true rfl) [1, 2, 3, 0, 4] rfl ?_
    refine x_iinc 43 C (L := fun v4_7 => [(0, .ref (a 0)), (1, .int c1), (2, .int v2_3), (3, .int v3_6), (4, .int v4_7)]) dX7_countNow_43 4 rfl ci_1 (Nat.le_of_ble_eq_true rfl) [1, 2, 3, 4, 0] (fun _ => rfl) h (fun v4_7 h => ?_)
    refine x_goto 46 C 11 dX7_countNow_46 rfl ?_
    exact ih _ h
set_option maxRecDepth 100000 in
set_option maxHeartbeats 4000000 in
theorem M_X7_countNow (l : Launch) (D : va_G) (a : Nat → Nat) (b : Nat → ClassId) (S0 : XSr) (x1 : Int32)  {r9 : Int32} {S9 : XSr} (h : F_X7_countNow S0 x1 = some (r9, S9)) : xM l (ωR D a b) yX7_countNow cX7_countNow 5 (some .int) rm_X7_countNow [.ref (a 0), .int x1] S0 (some (.int r9), S9) := by
  unfold F_X7_countNow at h
  refine xM_of (own := "GraveOrderModel") (by decide) rfl (Nat.le_of_ble_eq_true rfl) (fun Γ C => ?_)
  refine x_sub 0 [0, 1] (lv' := [(0, .ref (a 0)), (1, .int x1)]) rfl ?_
  refine x_aload_n 0 C dX7_countNow_0 rfl 0 rfl ?_
  obtain ⟨z1, hz1, h⟩ := xbind_some h
  refine x_callV 1 C (q0 := 0) (ci := 7) 0 (As := []) (rest := []) (M_X7_lays l D a b S0   hz1) (by rfl) rfl kw_984 mv_X7_lays mh_X7_lays ⟨rfl, rfl⟩ ⟨Nat.le_of_ble_eq_true rfl, Nat.le_of_ble_eq_true rfl⟩ rfl rfl (Nat.le_of_ble_eq_true rfl) dX7_countNow_1 ?_
  refine x_iconst 4 C dX7_countNow_4 ci_0 ?_
  refine x_istore_n 5 C (lv' := [(0, .ref (a 0)), (1, .int x1), (2, .int 0)]) dX7_countNow_5 rfl (Nat.le_of_ble_eq_true rfl) [1, 2, 0] rfl ?_
  refine x_iconst 6 C dX7_countNow_6 ci_0 ?_
  refine x_istore_n 7 C (lv' := [(0, .ref (a 0)), (1, .int x1), (2, .int 0), (3, .int 0)]) dX7_countNow_7 rfl (Nat.le_of_ble_eq_true rfl) [1, 2, 3, 0] rfl ?_
  refine x_iconst 8 C dX7_countNow_8 ci_0 ?_
  refine x_istore 9 C (lv' := [(0, .ref (a 0)), (1, .int x1), (2, .int 0), (3, .int 0), (4, .int 0)]) dX7_countNow_9 (Nat.le_of_ble_eq_true rfl) [1, 2, 3, 4, 0] rfl ?_
  refine x_loop (E := fun e => XAt (ωR D a b) Γ 49 [(1, .int x1), (2, .int e.1), (3, .int e.2)] [] z1) (P := fun t => XAt (ωR D a b) Γ 11 [(0, .ref (a 0)), (1, .int x1), (2, .int t.1), (3, .int t.2.1), (4, .int t.2.2)] [] z1) h (fun e8 h => ?_) (fun kx rc t hk ih h => w_X7_countNow_11 l D a b z1 C   x1 kx rc hk ih t.1 t.2.1 t.2.2 h)
  refine x_iload_n 49 C dX7_countNow_49 rfl 0 rfl ?_
  refine x_iconst 50 C dX7_countNow_50 ci_2 ?_
  refine x_icmp_ne 51 C 58 dX7_countNow_51 rfl h (fun h => ?_) (fun h => ?_)
  · refine x_iload_n 58 C dX7_countNow_58 rfl 2 rfl ?_
    exact x_iret 59 C dX7_countNow_59 (Prod.mk.inj (Option.some.inj h)).1 (Prod.mk.inj (Option.some.inj h)).2
  · refine x_iload_n 54 C dX7_countNow_54 rfl 1 rfl ?_
    refine x_goto 55 C 59 dX7_countNow_55 rfl ?_
    exact x_iret 59 C dX7_countNow_59 (Prod.mk.inj (Option.some.inj h)).1 (Prod.mk.inj (Option.some.inj h)).2
/-! GraveOrderModel.count (I)I -/
def F_X7_count (S0 : XSr) (x1 : Int32) : (Option (Int32 × XSr)) :=
  (if x1 = 0 then (some ((S0.1 0 0), S0)) else (if x1 = 1 then (some ((S0.1 0 8), S0)) else (if x1 = 2 then ((F_X7_countNow S0 x1).bind fun z1 => (some (z1.1, z1.2))) else (if x1 = 3 then ((F_X7_countNow S0 x1).bind fun z2 => (some (z2.1, z2.2))) else (if x1 = 4 then (some ((S0.1 0 5), S0)) else (if x1 = 5 then (some ((S0.1 0 15), S0)) else (if x1 = 6 then (some ((S0.1 0 13), S0)) else (if x1 = 7 then (some ((S0.1 0 3), S0)) else (if x1 = 8 then (some ((S0.1 0 39), S0)) else (some ((-2), S0)))))))))))
abbrev rm_X7_count : Room := { frames := 2, cells := 0, slots := 0, locals := 46 }
set_option maxRecDepth 100000 in
set_option maxHeartbeats 4000000 in
theorem M_X7_count (l : Launch) (D : va_G) (a : Nat → Nat) (b : Nat → ClassId) (S0 : XSr) (x1 : Int32)  {r9 : Int32} {S9 : XSr} (h : F_X7_count S0 x1 = some (r9, S9)) : xM l (ωR D a b) yX7_count cX7_count 2 (some .int) rm_X7_count [.ref (a 0), .int x1] S0 (some (.int r9), S9) := by
  unfold F_X7_count at h
  refine xM_of (own := "GraveOrderModel") (by decide) rfl (Nat.le_of_ble_eq_true rfl) (fun Γ C => ?_)
  refine x_sub 0 [0, 1] (lv' := [(0, .ref (a 0)), (1, .int x1)]) rfl ?_
  refine x_iload_n 0 C dX7_count_0 rfl 1 rfl ?_
  refine x_split h (fun e0 h => ?_) (fun e0 h => ?_)
  · refine x_tswIn 1 C 0 52 dX7_count_1 e0 (by decide) (by decide) rfl rfl ?_
    refine x_aload_n 52 C dX7_count_52 rfl 0 rfl ?_
    refine gX7_graves 53 C kw_786 dX7_count_53 ?_
    exact x_iret 56 C dX7_count_56 (Prod.mk.inj (Option.some.inj h)).1 (Prod.mk.inj (Option.some.inj h)).2
  · refine x_split h (fun e1 h => ?_) (fun e1 h => ?_)
    · refine x_tswIn 1 C 1 57 dX7_count_1 e1 (by decide) (by decide) rfl rfl ?_
      refine x_aload_n 57 C dX7_count_57 rfl 0 rfl ?_
      refine gX7_tellings 58 C kw_794 dX7_count_58 ?_
      exact x_iret 61 C dX7_count_61 (Prod.mk.inj (Option.some.inj h)).1 (Prod.mk.inj (Option.some.inj h)).2
    · refine x_split h (fun e2 h => ?_) (fun e2 h => ?_)
      · refine x_tswIn 1 C 2 62 dX7_count_1 e2 (by decide) (by decide) rfl rfl ?_
        refine x_aload_n 62 C dX7_count_62 rfl 0 rfl ?_
        refine x_iload_n 63 C dX7_count_63 rfl 1 rfl ?_
        obtain ⟨z1, hz1, h⟩ := xbind_some h
        refine x_callV 64 C (q0 := 0) (ci := 7) 1 (As := [.int x1]) (rest := []) (M_X7_countNow l D a b S0 x1  hz1) (by rfl) rfl kw_1191 mv_X7_countNow mh_X7_countNow ⟨rfl, rfl⟩ ⟨Nat.le_of_ble_eq_true rfl, Nat.le_of_ble_eq_true rfl⟩ rfl rfl (Nat.le_of_ble_eq_true rfl) dX7_count_64 ?_
        exact x_iret 67 C dX7_count_67 (Prod.mk.inj (Option.some.inj h)).1 (Prod.mk.inj (Option.some.inj h)).2
      · refine x_split h (fun e3 h => ?_) (fun e3 h => ?_)
        · refine x_tswIn 1 C 3 62 dX7_count_1 e3 (by decide) (by decide) rfl rfl ?_
          refine x_aload_n 62 C dX7_count_62 rfl 0 rfl ?_
          refine x_iload_n 63 C dX7_count_63 rfl 1 rfl ?_
          obtain ⟨z2, hz2, h⟩ := xbind_some h
          refine x_callV 64 C (q0 := 0) (ci := 7) 1 (As := [.int x1]) (rest := []) (M_X7_countNow l D a b S0 x1  hz2) (by rfl) rfl kw_1191 mv_X7_countNow mh_X7_countNow ⟨rfl, rfl⟩ ⟨Nat.le_of_ble_eq_true rfl, Nat.le_of_ble_eq_true rfl⟩ rfl rfl (Nat.le_of_ble_eq_true rfl) dX7_count_64 ?_
          exact x_iret 67 C dX7_count_67 (Prod.mk.inj (Option.some.inj h)).1 (Prod.mk.inj (Option.some.inj h)).2
        · refine x_split h (fun e4 h => ?_) (fun e4 h => ?_)
          · refine x_tswIn 1 C 4 68 dX7_count_1 e4 (by decide) (by decide) rfl rfl ?_
            refine x_aload_n 68 C dX7_count_68 rfl 0 rfl ?_
            refine gX7_overs 69 C kw_791 dX7_count_69 ?_
            exact x_iret 72 C dX7_count_72 (Prod.mk.inj (Option.some.inj h)).1 (Prod.mk.inj (Option.some.inj h)).2
          · refine x_split h (fun e5 h => ?_) (fun e5 h => ?_)
            · refine x_tswIn 1 C 5 73 dX7_count_1 e5 (by decide) (by decide) rfl rfl ?_
              refine x_aload_n 73 C dX7_count_73 rfl 0 rfl ?_
              refine gX7_typed 74 C kw_801 dX7_count_74 ?_
              exact x_iret 77 C dX7_count_77 (Prod.mk.inj (Option.some.inj h)).1 (Prod.mk.inj (Option.some.inj h)).2
            · refine x_split h (fun e6 h => ?_) (fun e6 h => ?_)
              · refine x_tswIn 1 C 6 78 dX7_count_1 e6 (by decide) (by decide) rfl rfl ?_
                refine x_aload_n 78 C dX7_count_78 rfl 0 rfl ?_
                refine gX7_knownTo 79 C kw_799 dX7_count_79 ?_
                exact x_iret 82 C dX7_count_82 (Prod.mk.inj (Option.some.inj h)).1 (Prod.mk.inj (Option.some.inj h)).2
              · refine x_split h (fun e7 h => ?_) (fun e7 h => ?_)
                · refine x_tswIn 1 C 7 83 dX7_count_1 e7 (by decide) (by decide) rfl rfl ?_
                  refine x_aload_n 83 C dX7_count_83 rfl 0 rfl ?_
                  refine gX7_robbers 84 C kw_789 dX7_count_84 ?_
                  exact x_iret 87 C dX7_count_87 (Prod.mk.inj (Option.some.inj h)).1 (Prod.mk.inj (Option.some.inj h)).2
                · refine x_split h (fun e8 h => ?_) (fun e8 h => ?_)
                  · refine x_tswIn 1 C 8 88 dX7_count_1 e8 (by decide) (by decide) rfl rfl ?_
                    refine x_aload_n 88 C dX7_count_88 rfl 0 rfl ?_
                    refine gX7_finding 89 C kw_825 dX7_count_89 ?_
                    exact x_iret 92 C dX7_count_92 (Prod.mk.inj (Option.some.inj h)).1 (Prod.mk.inj (Option.some.inj h)).2
                  · refine x_tswOut 1 C 93 dX7_count_1 (by have e0_ := xi_ne 0 0 rfl e0; have e1_ := xi_ne 1 1 rfl e1; have e2_ := xi_ne 2 2 rfl e2; have e3_ := xi_ne 3 3 rfl e3; have e4_ := xi_ne 4 4 rfl e4; have e5_ := xi_ne 5 5 rfl e5; have e6_ := xi_ne 6 6 rfl e6; have e7_ := xi_ne 7 7 rfl e7; have e8_ := xi_ne 8 8 rfl e8; omega) rfl ?_
                    refine x_bipush 93 C dX7_count_93 cb_m2 ?_
                    exact x_iret 95 C dX7_count_95 (Prod.mk.inj (Option.some.inj h)).1 (Prod.mk.inj (Option.some.inj h)).2
/-! GraveOrderModel.digest ()J -/
def B_X7_digest_6  (kx : (Int64 × XSr) → Option (Int64 × XSr)) (rc : (Int64 × Int32 × XSr) → Option (Int64 × XSr)) (y1 : Int64) (y3 : Int32) (S1 : XSr) : Option (Int64 × XSr) :=
  (if 8 ≤ y3 then kx (y1, S1) else ((F_X7_count S1 y3).bind fun z1 => (xlet (((31 : Int64) * y1) + ((z1.1).toInt64)) fun v1_2 => (xlet (y3 + 1) fun v3_3 => rc (v1_2, v3_3, z1.2)))))
def B_X7_digest_49  (kx : (Int64 × XSr) → Option (Int64 × XSr)) (rc : (Int64 × Int32 × XSr) → Option (Int64 × XSr)) (y1 : Int64) (y3 : Int32) (S1 : XSr) : Option (Int64 × XSr) :=
  (if (S1.1 0 0) ≤ y3 then kx (y1, S1) else (if xin y3 8 = true then (xlet (((31 : Int64) * y1) + (((S1.1 14 (xti y3))).toInt64)) fun v1_9 => ((F_X7_firstNow S1 y3).bind fun z10 => (xlet (((31 : Int64) * v1_9) + ((z10.1).toInt64)) fun v1_11 => ((F_X7_placesNow z10.2 y3).bind fun z12 => (xlet (((31 : Int64) * v1_11) + ((z12.1).toInt64)) fun v1_13 => ((F_X7_graveYear z12.2 y3 0).bind fun z14 => (xlet (((31 : Int64) * v1_13) + ((z14.1).toInt64)) fun v1_15 => ((F_X7_graveYear z14.2 y3 1).bind fun z16 => (xlet (((31 : Int64) * v1_15) + ((z16.1).toInt64)) fun v1_17 => ((F_X7_nearestNow z16.2 y3).bind fun z18 => (xlet (((31 : Int64) * v1_17) + ((z18.1).toInt64)) fun v1_19 => (xlet (y3 + 1) fun v3_20 => rc (v1_19, v3_20, z18.2))))))))))))) else none))
def B_X7_digest_146  (kx : (Int64 × XSr) → Option (Int64 × XSr)) (rc : (Int64 × Int32 × XSr) → Option (Int64 × XSr)) (y1 : Int64) (y3 : Int32) (S1 : XSr) : Option (Int64 × XSr) :=
  (if 3 ≤ y3 then kx (y1, S1) else ((F_X7_bestNow S1 y3).bind fun z22 => (xlet (((31 : Int64) * y1) + ((z22.1).toInt64)) fun v1_23 => (xlet (y3 + 1) fun v3_24 => rc (v1_23, v3_24, z22.2)))))
def B_X7_digest_236  (kx : (Int64 × XSr) → Option (Int64 × XSr)) (rc : (Int64 × Int32 × XSr) → Option (Int64 × XSr)) (y1 : Int64) (y3 : Int32) (S1 : XSr) : Option (Int64 × XSr) :=
  (if 10 ≤ y3 then kx (y1, S1) else ((F_X7_mendedNow S1 y3).bind fun z36 => (xlet (((31 : Int64) * y1) + ((z36.1).toInt64)) fun v1_37 => (xlet (y3 + 1) fun v3_38 => rc (v1_37, v3_38, z36.2)))))
def F_X7_digest (S0 : XSr)  : (Option (Int64 × XSr)) :=
  (xlp (fun k rc t => B_X7_digest_6   k rc t.1 t.2.1 t.2.2) (fun e4 => ((F_X7_faultNow e4.2).bind fun z5 => (xlet (((31 : Int64) * e4.1) + ((z5.1).toInt64)) fun v1_6 => ((F_X7_lays z5.2).bind fun z7 => (xlp (fun k rc t => B_X7_digest_49   k rc t.1 t.2.1 t.2.2) (fun e21 => (xlp (fun k rc t => B_X7_digest_146   k rc t.1 t.2.1 t.2.2) (fun e25 => ((F_X7_spreadNow e25.2 0 1).bind fun z26 => (xlet (((31 : Int64) * e25.1) + ((z26.1).toInt64)) fun v1_27 => ((F_X7_meanNow z26.2 0).bind fun z28 => (xlet (((31 : Int64) * v1_27) + z28.1) fun v1_29 => ((F_X7_meanNow z28.2 1).bind fun z30 => (xlet (((31 : Int64) * v1_29) + z30.1) fun v1_31 => ((F_X7_leftNow z30.2).bind fun z32 => (xlet (((31 : Int64) * v1_31) + ((z32.1).toInt64)) fun v1_33 => ((F_X7_phasesNow z32.2 2 (-1)).bind fun z34 => (xlet (((31 : Int64) * v1_33) + ((z34.1).toInt64)) fun v1_35 => (xlp (fun k rc t => B_X7_digest_236   k rc t.1 t.2.1 t.2.2) (fun e39 => (some (e39.1, e39.2))) XFU (v1_35, 0, z34.2))))))))))))) XFU (e21.1, 0, e21.2))) XFU (v1_6, 0, z7)))))) XFU (17, 0, S0))
abbrev rm_X7_digest : Room := { frames := 6, cells := 0, slots := 0, locals := 138 }
set_option maxRecDepth 100000 in
set_option maxHeartbeats 4000000 in
theorem w_X7_digest_6 (l : Launch) (D : va_G) (a : Nat → Nat) (b : Nat → ClassId) (S0 : XSr) {Γ : XG XSr} {r9 : Int64} {S9 : XSr} (C : Cx (ωR D a b) Γ cX7_digest "GraveOrderModel" (some .long) l rm_X7_digest 4 (some (.long r9), S9))   (kx : (Int64 × XSr) → Option (Int64 × XSr)) (rc : (Int64 × Int32 × XSr) → Option (Int64 × XSr)) (hk : ∀ e, kx e = some (r9, S9) → XAt (ωR D a b) Γ 31 [(0, .ref (a 0)), (1, .long e.1)] [] e.2) (ih : ∀ t, rc t = some (r9, S9) → XAt (ωR D a b) Γ 6 [(0, .ref (a 0)), (1, .long t.1), (3, .int t.2.1)] [] t.2.2) (y1 : Int64) (y3 : Int32) (S1 : XSr) (h : B_X7_digest_6   kx rc y1 y3 S1 = some (r9, S9)) : XAt (ωR D a b) Γ 6 [(0, .ref (a 0)), (1, .long y1), (3, .int y3)] [] S1 := by
  unfold B_X7_digest_6 at h
  refine x_iload_n 6 C dX7_digest_6 rfl 2 rfl ?_
  refine x_bipush 7 C dX7_digest_7 cb_8 ?_
  refine x_icmp_ge 9 C 31 dX7_digest_9 rfl h (fun h => ?_) (fun h => ?_)
  · exact x_sub 31 [0, 1] rfl (hk _ h)
  · refine x_ldc2 12 C kw_1200 dX7_digest_12 ?_
    refine x_lload_n 15 C dX7_digest_15 rfl 1 rfl ?_
    refine x_lmul 16 C dX7_digest_16 ?_
    refine x_aload_n 17 C dX7_digest_17 rfl 0 rfl ?_
    refine x_iload_n 18 C dX7_digest_18 rfl 2 rfl ?_
    obtain ⟨z1, hz1, h⟩ := xbind_some h
    refine x_callV 19 C (q0 := 0) (ci := 7) 1 (As := [.int y3]) (rest := [.long ((31 : Int64) * y1)]) (M_X7_count l D a b S1 y3  hz1) (by rfl) rfl kw_1201 mv_X7_count mh_X7_count ⟨rfl, rfl⟩ ⟨Nat.le_of_ble_eq_true rfl, Nat.le_of_ble_eq_true rfl⟩ rfl rfl (Nat.le_of_ble_eq_true rfl) dX7_digest_19 ?_
    refine x_i2l 22 C dX7_digest_22 ?_
    refine x_ladd 23 C dX7_digest_23 ?_
    refine x_topl h (fun v1_2 h => ?_)
    refine x_lstore_n 24 C (lv' := [(0, .ref (a 0)), (1, .long v1_2), (3, .int y3)]) dX7_digest_24 rfl (Nat.le_of_ble_eq_true rfl) [1, 0, 2] rfl ?_
    refine x_iinc 25 C (L := fun v3_3 => [(0, .ref (a 0)), (1, .long v1_2), (3, .int v3_3)]) dX7_digest_25 2 rfl ci_1 (Nat.le_of_ble_eq_true rfl) [1, 2, 0] (fun _ => rfl) h (fun v3_3 h => ?_)
    refine x_goto 28 C 6 dX7_digest_28 rfl ?_
    exact ih _ h
set_option maxRecDepth 100000 in
set_option maxHeartbeats 4000000 in
theorem w_X7_digest_49 (l : Launch) (D : va_G) (a : Nat → Nat) (b : Nat → ClassId) (S0 : XSr) {Γ : XG XSr} {r9 : Int64} {S9 : XSr} (C : Cx (ωR D a b) Γ cX7_digest "GraveOrderModel" (some .long) l rm_X7_digest 4 (some (.long r9), S9))   (kx : (Int64 × XSr) → Option (Int64 × XSr)) (rc : (Int64 × Int32 × XSr) → Option (Int64 × XSr)) (hk : ∀ e, kx e = some (r9, S9) → XAt (ωR D a b) Γ 144 [(0, .ref (a 0)), (1, .long e.1)] [] e.2) (ih : ∀ t, rc t = some (r9, S9) → XAt (ωR D a b) Γ 49 [(0, .ref (a 0)), (1, .long t.1), (3, .int t.2.1)] [] t.2.2) (y1 : Int64) (y3 : Int32) (S1 : XSr) (h : B_X7_digest_49   kx rc y1 y3 S1 = some (r9, S9)) : XAt (ωR D a b) Γ 49 [(0, .ref (a 0)), (1, .long y1), (3, .int y3)] [] S1 := by
  unfold B_X7_digest_49 at h
  refine x_iload_n 49 C dX7_digest_49 rfl 2 rfl ?_
  refine x_aload_n 50 C dX7_digest_50 rfl 0 rfl ?_
  refine gX7_graves 51 C kw_786 dX7_digest_51 ?_
  refine x_icmp_ge 54 C 144 dX7_digest_54 rfl h (fun h => ?_) (fun h => ?_)
  · exact x_sub 144 [0, 1] rfl (hk _ h)
  · refine x_ldc2 57 C kw_1200 dX7_digest_57 ?_
    refine x_lload_n 60 C dX7_digest_60 rfl 1 rfl ?_
    refine x_lmul 61 C dX7_digest_61 ?_
    refine x_aload_n 62 C dX7_digest_62 rfl 0 rfl ?_
    refine gX7_have 63 C kw_807 dX7_digest_63 ?_
    refine x_iload_n 66 C dX7_digest_66 rfl 2 rfl ?_
    obtain ⟨hg8, h⟩ := xif_some h
    refine r_iald14 67 C hg8 dX7_digest_67 ?_
    refine x_i2l 68 C dX7_digest_68 ?_
    refine x_ladd 69 C dX7_digest_69 ?_
    refine x_topl h (fun v1_9 h => ?_)
    refine x_lstore_n 70 C (lv' := [(0, .ref (a 0)), (1, .long v1_9), (3, .int y3)]) dX7_digest_70 rfl (Nat.le_of_ble_eq_true rfl) [1, 0, 2] rfl ?_
    refine x_ldc2 71 C kw_1200 dX7_digest_71 ?_
    refine x_lload_n 74 C dX7_digest_74 rfl 1 rfl ?_
    refine x_lmul 75 C dX7_digest_75 ?_
    refine x_aload_n 76 C dX7_digest_76 rfl 0 rfl ?_
    refine x_iload_n 77 C dX7_digest_77 rfl 2 rfl ?_
    obtain ⟨z10, hz10, h⟩ := xbind_some h
    refine x_callV 78 C (q0 := 0) (ci := 7) 1 (As := [.int y3]) (rest := [.long ((31 : Int64) * v1_9)]) (M_X7_firstNow l D a b S1 y3  hz10) (by rfl) rfl kw_1047 mv_X7_firstNow mh_X7_firstNow ⟨rfl, rfl⟩ ⟨Nat.le_of_ble_eq_true rfl, Nat.le_of_ble_eq_true rfl⟩ rfl rfl (Nat.le_of_ble_eq_true rfl) dX7_digest_78 ?_
    refine x_i2l 81 C dX7_digest_81 ?_
    refine x_ladd 82 C dX7_digest_82 ?_
    refine x_topl h (fun v1_11 h => ?_)
    refine x_lstore_n 83 C (lv' := [(0, .ref (a 0)), (1, .long v1_11), (3, .int y3)]) dX7_digest_83 rfl (Nat.le_of_ble_eq_true rfl) [1, 0, 2] rfl ?_
    refine x_ldc2 84 C kw_1200 dX7_digest_84 ?_
    refine x_lload_n 87 C dX7_digest_87 rfl 1 rfl ?_
    refine x_lmul 88 C dX7_digest_88 ?_
    refine x_aload_n 89 C dX7_digest_89 rfl 0 rfl ?_
    refine x_iload_n 90 C dX7_digest_90 rfl 2 rfl ?_
    obtain ⟨z12, hz12, h⟩ := xbind_some h
    refine x_callV 91 C (q0 := 0) (ci := 7) 1 (As := [.int y3]) (rest := [.long ((31 : Int64) * v1_11)]) (M_X7_placesNow l D a b z10.2 y3  hz12) (by rfl) rfl kw_1059 mv_X7_placesNow mh_X7_placesNow ⟨rfl, rfl⟩ ⟨Nat.le_of_ble_eq_true rfl, Nat.le_of_ble_eq_true rfl⟩ rfl rfl (Nat.le_of_ble_eq_true rfl) dX7_digest_91 ?_
    refine x_i2l 94 C dX7_digest_94 ?_
    refine x_ladd 95 C dX7_digest_95 ?_
    refine x_topl h (fun v1_13 h => ?_)
    refine x_lstore_n 96 C (lv' := [(0, .ref (a 0)), (1, .long v1_13), (3, .int y3)]) dX7_digest_96 rfl (Nat.le_of_ble_eq_true rfl) [1, 0, 2] rfl ?_
    refine x_ldc2 97 C kw_1200 dX7_digest_97 ?_
    refine x_lload_n 100 C dX7_digest_100 rfl 1 rfl ?_
    refine x_lmul 101 C dX7_digest_101 ?_
    refine x_aload_n 102 C dX7_digest_102 rfl 0 rfl ?_
    refine x_iload_n 103 C dX7_digest_103 rfl 2 rfl ?_
    refine x_iconst 104 C dX7_digest_104 ci_0 ?_
    obtain ⟨z14, hz14, h⟩ := xbind_some h
    refine x_callV 105 C (q0 := 0) (ci := 7) 2 (As := [.int y3, .int 0]) (rest := [.long ((31 : Int64) * v1_13)]) (M_X7_graveYear l D a b z12.2 y3 0  hz14) (by rfl) rfl kw_1122 mv_X7_graveYear mh_X7_graveYear ⟨rfl, rfl⟩ ⟨Nat.le_of_ble_eq_true rfl, Nat.le_of_ble_eq_true rfl⟩ rfl rfl (Nat.le_of_ble_eq_true rfl) dX7_digest_105 ?_
    refine x_i2l 108 C dX7_digest_108 ?_
    refine x_ladd 109 C dX7_digest_109 ?_
    refine x_topl h (fun v1_15 h => ?_)
    refine x_lstore_n 110 C (lv' := [(0, .ref (a 0)), (1, .long v1_15), (3, .int y3)]) dX7_digest_110 rfl (Nat.le_of_ble_eq_true rfl) [1, 0, 2] rfl ?_
    refine x_ldc2 111 C kw_1200 dX7_digest_111 ?_
    refine x_lload_n 114 C dX7_digest_114 rfl 1 rfl ?_
    refine x_lmul 115 C dX7_digest_115 ?_
    refine x_aload_n 116 C dX7_digest_116 rfl 0 rfl ?_
    refine x_iload_n 117 C dX7_digest_117 rfl 2 rfl ?_
    refine x_iconst 118 C dX7_digest_118 ci_1 ?_
    obtain ⟨z16, hz16, h⟩ := xbind_some h
    refine x_callV 119 C (q0 := 0) (ci := 7) 2 (As := [.int y3, .int 1]) (rest := [.long ((31 : Int64) * v1_15)]) (M_X7_graveYear l D a b z14.2 y3 1  hz16) (by rfl) rfl kw_1122 mv_X7_graveYear mh_X7_graveYear ⟨rfl, rfl⟩ ⟨Nat.le_of_ble_eq_true rfl, Nat.le_of_ble_eq_true rfl⟩ rfl rfl (Nat.le_of_ble_eq_true rfl) dX7_digest_119 ?_
    refine x_i2l 122 C dX7_digest_122 ?_
    refine x_ladd 123 C dX7_digest_123 ?_
    refine x_topl h (fun v1_17 h => ?_)
    refine x_lstore_n 124 C (lv' := [(0, .ref (a 0)), (1, .long v1_17), (3, .int y3)]) dX7_digest_124 rfl (Nat.le_of_ble_eq_true rfl) [1, 0, 2] rfl ?_
    refine x_ldc2 125 C kw_1200 dX7_digest_125 ?_
    refine x_lload_n 128 C dX7_digest_128 rfl 1 rfl ?_
    refine x_lmul 129 C dX7_digest_129 ?_
    refine x_aload_n 130 C dX7_digest_130 rfl 0 rfl ?_
    refine x_iload_n 131 C dX7_digest_131 rfl 2 rfl ?_
    obtain ⟨z18, hz18, h⟩ := xbind_some h
    refine x_callV 132 C (q0 := 0) (ci := 7) 1 (As := [.int y3]) (rest := [.long ((31 : Int64) * v1_17)]) (M_X7_nearestNow l D a b z16.2 y3  hz18) (by rfl) rfl kw_1150 mv_X7_nearestNow mh_X7_nearestNow ⟨rfl, rfl⟩ ⟨Nat.le_of_ble_eq_true rfl, Nat.le_of_ble_eq_true rfl⟩ rfl rfl (Nat.le_of_ble_eq_true rfl) dX7_digest_132 ?_
    refine x_i2l 135 C dX7_digest_135 ?_
    refine x_ladd 136 C dX7_digest_136 ?_
    refine x_topl h (fun v1_19 h => ?_)
    refine x_lstore_n 137 C (lv' := [(0, .ref (a 0)), (1, .long v1_19), (3, .int y3)]) dX7_digest_137 rfl (Nat.le_of_ble_eq_true rfl) [1, 0, 2] rfl ?_
    refine x_iinc 138 C (L := fun v3_20 => [(0, .ref (a 0)), (1, .long v1_19), (3, .int v3_20)]) dX7_digest_138 2 rfl ci_1 (Nat.le_of_ble_eq_true rfl) [1, 2, 0] (fun _ => rfl) h (fun v3_20 h => ?_)
    refine x_goto 141 C 49 dX7_digest_141 rfl ?_
    exact ih _ h
set_option maxRecDepth 100000 in
set_option maxHeartbeats 4000000 in
theorem w_X7_digest_146 (l : Launch) (D : va_G) (a : Nat → Nat) (b : Nat → ClassId) (S0 : XSr) {Γ : XG XSr} {r9 : Int64} {S9 : XSr} (C : Cx (ωR D a b) Γ cX7_digest "GraveOrderModel" (some .long) l rm_X7_digest 4 (some (.long r9), S9))   (kx : (Int64 × XSr) → Option (Int64 × XSr)) (rc : (Int64 × Int32 × XSr) → Option (Int64 × XSr)) (hk : ∀ e, kx e = some (r9, S9) → XAt (ωR D a b) Γ 170 [(0, .ref (a 0)), (1, .long e.1)] [] e.2) (ih : ∀ t, rc t = some (r9, S9) → XAt (ωR D a b) Γ 146 [(0, .ref (a 0)), (1, .long t.1), (3, .int t.2.1)] [] t.2.2) (y1 : Int64) (y3 : Int32) (S1 : XSr) (h : B_X7_digest_146   kx rc y1 y3 S1 = some (r9, S9)) : XAt (ωR D a b) Γ 146 [(0, .ref (a 0)), (1, .long y1), (3, .int y3)] [] S1 := by
  unfold B_X7_digest_146 at h
  refine x_iload_n 146 C dX7_digest_146 rfl 2 rfl ?_
  refine x_iconst 147 C dX7_digest_147 ci_3 ?_
  refine x_icmp_ge 148 C 170 dX7_digest_148 rfl h (fun h => ?_) (fun h => ?_)
  · exact x_sub 170 [0, 1] rfl (hk _ h)
  · refine x_ldc2 151 C kw_1200 dX7_digest_151 ?_
    refine x_lload_n 154 C dX7_digest_154 rfl 1 rfl ?_
    refine x_lmul 155 C dX7_digest_155 ?_
    refine x_aload_n 156 C dX7_digest_156 rfl 0 rfl ?_
    refine x_iload_n 157 C dX7_digest_157 rfl 2 rfl ?_
    obtain ⟨z22, hz22, h⟩ := xbind_some h
    refine x_callV 158 C (q0 := 0) (ci := 7) 1 (As := [.int y3]) (rest := [.long ((31 : Int64) * y1)]) (M_X7_bestNow l D a b S1 y3  hz22) (by rfl) rfl kw_1011 mv_X7_bestNow mh_X7_bestNow ⟨rfl, rfl⟩ ⟨Nat.le_of_ble_eq_true rfl, Nat.le_of_ble_eq_true rfl⟩ rfl rfl (Nat.le_of_ble_eq_true rfl) dX7_digest_158 ?_
    refine x_i2l 161 C dX7_digest_161 ?_
    refine x_ladd 162 C dX7_digest_162 ?_
    refine x_topl h (fun v1_23 h => ?_)
    refine x_lstore_n 163 C (lv' := [(0, .ref (a 0)), (1, .long v1_23), (3, .int y3)]) dX7_digest_163 rfl (Nat.le_of_ble_eq_true rfl) [1, 0, 2] rfl ?_
    refine x_iinc 164 C (L := fun v3_24 => [(0, .ref (a 0)), (1, .long v1_23), (3, .int v3_24)]) dX7_digest_164 2 rfl ci_1 (Nat.le_of_ble_eq_true rfl) [1, 2, 0] (fun _ => rfl) h (fun v3_24 h => ?_)
    refine x_goto 167 C 146 dX7_digest_167 rfl ?_
    exact ih _ h
set_option maxRecDepth 100000 in
set_option maxHeartbeats 4000000 in
theorem w_X7_digest_236 (l : Launch) (D : va_G) (a : Nat → Nat) (b : Nat → ClassId) (S0 : XSr) {Γ : XG XSr} {r9 : Int64} {S9 : XSr} (C : Cx (ωR D a b) Γ cX7_digest "GraveOrderModel" (some .long) l rm_X7_digest 4 (some (.long r9), S9))   (kx : (Int64 × XSr) → Option (Int64 × XSr)) (rc : (Int64 × Int32 × XSr) → Option (Int64 × XSr)) (hk : ∀ e, kx e = some (r9, S9) → XAt (ωR D a b) Γ 261 [(1, .long e.1)] [] e.2) (ih : ∀ t, rc t = some (r9, S9) → XAt (ωR D a b) Γ 236 [(0, .ref (a 0)), (1, .long t.1), (3, .int t.2.1)] [] t.2.2) (y1 : Int64) (y3 : Int32) (S1 : XSr) (h : B_X7_digest_236   kx rc y1 y3 S1 = some (r9, S9)) : XAt (ωR D a b) Γ 236 [(0, .ref (a 0)), (1, .long y1), (3, .int y3)] [] S1 := by
  unfold B_X7_digest_236 at h
  refine x_iload_n 236 C dX7_digest_236 rfl 2 rfl ?_
  refine x_bipush 237 C dX7_digest_237 cb_10 ?_
  refine x_icmp_ge 239 C 261 dX7_digest_239 rfl h (fun h => ?_) (fun h => ?_)
  · exact x_sub 261 [1] rfl (hk _ h)
  · refine x_ldc2 242 C kw_1200 dX7_digest_242 ?_
    refine x_lload_n 245 C dX7_digest_245 rfl 1 rfl ?_
    refine x_lmul 246 C dX7_digest_246 ?_
    refine x_aload_n 247 C dX7_digest_247 rfl 0 rfl ?_
    refine x_iload_n 248 C dX7_digest_248 rfl 2 rfl ?_
    obtain ⟨z36, hz36, h⟩ := xbind_some h
    refine x_callV 249 C (q0 := 0) (ci := 7) 1 (As := [.int y3]) (rest := [.long ((31 : Int64) * y1)]) (M_X7_mendedNow l D a b S1 y3  hz36) (by rfl) rfl kw_1098 mv_X7_mendedNow mh_X7_mendedNow ⟨rfl, rfl⟩ ⟨Nat.le_of_ble_eq_true rfl, Nat.le_of_ble_eq_true rfl⟩ rfl rfl (Nat.le_of_ble_eq_true rfl) dX7_digest_249 ?_
    refine x_i2l 252 C dX7_digest_252 ?_
    refine x_ladd 253 C dX7_digest_253 ?_
    refine x_topl h (fun v1_37 h => ?_)
    refine x_lstore_n 254 C (lv' := [(0, .ref (a 0)), (1, .long v1_37), (3, .int y3)]) dX7_digest_254 rfl (Nat.le_of_ble_eq_true rfl) [1, 0, 2] rfl ?_
    refine x_iinc 255 C (L := fun v3_38 => [(0, .ref (a 0)), (1, .long v1_37), (3, .int v3_38)]) dX7_digest_255 2 rfl ci_1 (Nat.le_of_ble_eq_true rfl) [1, 2, 0] (fun _ => rfl) h (fun v3_38 h => ?_)
    refine x_goto 258 C 236 dX7_digest_258 rfl ?_
    exact ih _ h
set_option maxRecDepth 100000 in
set_option maxHeartbeats 4000000 in
theorem M_X7_digest (l : Launch) (D : va_G) (a : Nat → Nat) (b : Nat → ClassId) (S0 : XSr)   {r9 : Int64} {S9 : XSr} (h : F_X7_digest S0 = some (r9, S9)) : xM l (ωR D a b) yX7_digest cX7_digest 4 (some .long) rm_X7_digest [.ref (a 0)] S0 (some (.long r9), S9) := by
  unfold F_X7_digest at h
  refine xM_of (own := "GraveOrderModel") (by decide) rfl (Nat.le_of_ble_eq_true rfl) (fun Γ C => ?_)
  refine x_sub 0 [0] (lv' := [(0, .ref (a 0))]) rfl ?_
  refine x_ldc2 0 C kw_1199 dX7_digest_0 ?_
  refine x_lstore_n 3 C (lv' := [(0, .ref (a 0)), (1, .long 17)]) dX7_digest_3 rfl (Nat.le_of_ble_eq_true rfl) [1, 0] rfl ?_
  refine x_iconst 4 C dX7_digest_4 ci_0 ?_
  refine x_istore_n 5 C (lv' := [(0, .ref (a 0)), (1, .long 17), (3, .int 0)]) dX7_digest_5 rfl (Nat.le_of_ble_eq_true rfl) [1, 2, 0] rfl ?_
  refine x_loop (E := fun e => XAt (ωR D a b) Γ 31 [(0, .ref (a 0)), (1, .long e.1)] [] e.2) (P := fun t => XAt (ωR D a b) Γ 6 [(0, .ref (a 0)), (1, .long t.1), (3, .int t.2.1)] [] t.2.2) h (fun e4 h => ?_) (fun kx rc t hk ih h => w_X7_digest_6 l D a b S0 C    kx rc hk ih t.1 t.2.1 t.2.2 h)
  refine x_ldc2 31 C kw_1200 dX7_digest_31 ?_
  refine x_lload_n 34 C dX7_digest_34 rfl 1 rfl ?_
  refine x_lmul 35 C dX7_digest_35 ?_
  refine x_aload_n 36 C dX7_digest_36 rfl 0 rfl ?_
  obtain ⟨z5, hz5, h⟩ := xbind_some h
  refine x_callV 37 C (q0 := 0) (ci := 7) 0 (As := []) (rest := [.long ((31 : Int64) * e4.1)]) (M_X7_faultNow l D a b e4.2   hz5) (by rfl) rfl kw_945 mv_X7_faultNow mh_X7_faultNow ⟨rfl, rfl⟩ ⟨Nat.le_of_ble_eq_true rfl, Nat.le_of_ble_eq_true rfl⟩ rfl rfl (Nat.le_of_ble_eq_true rfl) dX7_digest_37 ?_
  refine x_i2l 40 C dX7_digest_40 ?_
  refine x_ladd 41 C dX7_digest_41 ?_
  refine x_topl h (fun v1_6 h => ?_)
  refine x_lstore_n 42 C (lv' := [(0, .ref (a 0)), (1, .long v1_6)]) dX7_digest_42 rfl (Nat.le_of_ble_eq_true rfl) [1, 0] rfl ?_
  refine x_aload_n 43 C dX7_digest_43 rfl 0 rfl ?_
  obtain ⟨z7, hz7, h⟩ := xbind_some h
  refine x_callV 44 C (q0 := 0) (ci := 7) 0 (As := []) (rest := []) (M_X7_lays l D a b z5.2   hz7) (by rfl) rfl kw_984 mv_X7_lays mh_X7_lays ⟨rfl, rfl⟩ ⟨Nat.le_of_ble_eq_true rfl, Nat.le_of_ble_eq_true rfl⟩ rfl rfl (Nat.le_of_ble_eq_true rfl) dX7_digest_44 ?_
  refine x_iconst 47 C dX7_digest_47 ci_0 ?_
  refine x_istore_n 48 C (lv' := [(0, .ref (a 0)), (1, .long v1_6), (3, .int 0)]) dX7_digest_48 rfl (Nat.le_of_ble_eq_true rfl) [1, 2, 0] rfl ?_
  refine x_loop (E := fun e => XAt (ωR D a b) Γ 144 [(0, .ref (a 0)), (1, .long e.1)] [] e.2) (P := fun t => XAt (ωR D a b) Γ 49 [(0, .ref (a 0)), (1, .long t.1), (3, .int t.2.1)] [] t.2.2) h (fun e21 h => ?_) (fun kx rc t hk ih h => w_X7_digest_49 l D a b S0 C    kx rc hk ih t.1 t.2.1 t.2.2 h)
  refine x_iconst 144 C dX7_digest_144 ci_0 ?_
  refine x_istore_n 145 C (lv' := [(0, .ref (a 0)), (1, .long e21.1), (3, .int 0)]) dX7_digest_145 rfl (Nat.le_of_ble_eq_true rfl) [1, 2, 0] rfl ?_
  refine x_loop (E := fun e => XAt (ωR D a b) Γ 170 [(0, .ref (a 0)), (1, .long e.1)] [] e.2) (P := fun t => XAt (ωR D a b) Γ 146 [(0, .ref (a 0)), (1, .long t.1), (3, .int t.2.1)] [] t.2.2) h (fun e25 h => ?_) (fun kx rc t hk ih h => w_X7_digest_146 l D a b S0 C    kx rc hk ih t.1 t.2.1 t.2.2 h)
  refine x_ldc2 170 C kw_1200 dX7_digest_170 ?_
  refine x_lload_n 173 C dX7_digest_173 rfl 1 rfl ?_
  refine x_lmul 174 C dX7_digest_174 ?_
  refine x_aload_n 175 C dX7_digest_175 rfl 0 rfl ?_
  refine x_iconst 176 C dX7_digest_176 ci_0 ?_
  refine x_iconst 177 C dX7_digest_177 ci_1 ?_
  obtain ⟨z26, hz26, h⟩ := xbind_some h
  refine x_callV 178 C (q0 := 0) (ci := 7) 2 (As := [.int 0, .int 1]) (rest := [.long ((31 : Int64) * e25.1)]) (M_X7_spreadNow l D a b e25.2 0 1  hz26) (by rfl) rfl kw_1067 mv_X7_spreadNow mh_X7_spreadNow ⟨rfl, rfl⟩ ⟨Nat.le_of_ble_eq_true rfl, Nat.le_of_ble_eq_true rfl⟩ rfl rfl (Nat.le_of_ble_eq_true rfl) dX7_digest_178 ?_
  refine x_i2l 181 C dX7_digest_181 ?_
  refine x_ladd 182 C dX7_digest_182 ?_
  refine x_topl h (fun v1_27 h => ?_)
  refine x_lstore_n 183 C (lv' := [(0, .ref (a 0)), (1, .long v1_27)]) dX7_digest_183 rfl (Nat.le_of_ble_eq_true rfl) [1, 0] rfl ?_
  refine x_ldc2 184 C kw_1200 dX7_digest_184 ?_
  refine x_lload_n 187 C dX7_digest_187 rfl 1 rfl ?_
  refine x_lmul 188 C dX7_digest_188 ?_
  refine x_aload_n 189 C dX7_digest_189 rfl 0 rfl ?_
  refine x_iconst 190 C dX7_digest_190 ci_0 ?_
  obtain ⟨z28, hz28, h⟩ := xbind_some h
  refine x_callV 191 C (q0 := 0) (ci := 7) 1 (As := [.int 0]) (rest := [.long ((31 : Int64) * v1_27)]) (M_X7_meanNow l D a b z26.2 0  hz28) (by rfl) rfl kw_1075 mv_X7_meanNow mh_X7_meanNow ⟨rfl, rfl⟩ ⟨Nat.le_of_ble_eq_true rfl, Nat.le_of_ble_eq_true rfl⟩ rfl rfl (Nat.le_of_ble_eq_true rfl) dX7_digest_191 ?_
  refine x_ladd 194 C dX7_digest_194 ?_
  refine x_topl h (fun v1_29 h => ?_)
  refine x_lstore_n 195 C (lv' := [(0, .ref (a 0)), (1, .long v1_29)]) dX7_digest_195 rfl (Nat.le_of_ble_eq_true rfl) [1, 0] rfl ?_
  refine x_ldc2 196 C kw_1200 dX7_digest_196 ?_
  refine x_lload_n 199 C dX7_digest_199 rfl 1 rfl ?_
  refine x_lmul 200 C dX7_digest_200 ?_
  refine x_aload_n 201 C dX7_digest_201 rfl 0 rfl ?_
  refine x_iconst 202 C dX7_digest_202 ci_1 ?_
  obtain ⟨z30, hz30, h⟩ := xbind_some h
  refine x_callV 203 C (q0 := 0) (ci := 7) 1 (As := [.int 1]) (rest := [.long ((31 : Int64) * v1_29)]) (M_X7_meanNow l D a b z28.2 1  hz30) (by rfl) rfl kw_1075 mv_X7_meanNow mh_X7_meanNow ⟨rfl, rfl⟩ ⟨Nat.le_of_ble_eq_true rfl, Nat.le_of_ble_eq_true rfl⟩ rfl rfl (Nat.le_of_ble_eq_true rfl) dX7_digest_203 ?_
  refine x_ladd 206 C dX7_digest_206 ?_
  refine x_topl h (fun v1_31 h => ?_)
  refine x_lstore_n 207 C (lv' := [(0, .ref (a 0)), (1, .long v1_31)]) dX7_digest_207 rfl (Nat.le_of_ble_eq_true rfl) [1, 0] rfl ?_
  refine x_ldc2 208 C kw_1200 dX7_digest_208 ?_
  refine x_lload_n 211 C dX7_digest_211 rfl 1 rfl ?_
  refine x_lmul 212 C dX7_digest_212 ?_
  refine x_aload_n 213 C dX7_digest_213 rfl 0 rfl ?_
  obtain ⟨z32, hz32, h⟩ := xbind_some h
  refine x_callV 214 C (q0 := 0) (ci := 7) 0 (As := []) (rest := [.long ((31 : Int64) * v1_31)]) (M_X7_leftNow l D a b z30.2   hz32) (by rfl) rfl kw_1090 mv_X7_leftNow mh_X7_leftNow ⟨rfl, rfl⟩ ⟨Nat.le_of_ble_eq_true rfl, Nat.le_of_ble_eq_true rfl⟩ rfl rfl (Nat.le_of_ble_eq_true rfl) dX7_digest_214 ?_
  refine x_i2l 217 C dX7_digest_217 ?_
  refine x_ladd 218 C dX7_digest_218 ?_
  refine x_topl h (fun v1_33 h => ?_)
  refine x_lstore_n 219 C (lv' := [(0, .ref (a 0)), (1, .long v1_33)]) dX7_digest_219 rfl (Nat.le_of_ble_eq_true rfl) [1, 0] rfl ?_
  refine x_ldc2 220 C kw_1200 dX7_digest_220 ?_
  refine x_lload_n 223 C dX7_digest_223 rfl 1 rfl ?_
  refine x_lmul 224 C dX7_digest_224 ?_
  refine x_aload_n 225 C dX7_digest_225 rfl 0 rfl ?_
  refine x_iconst 226 C dX7_digest_226 ci_2 ?_
  refine x_iconst 227 C dX7_digest_227 ci_m1 ?_
  obtain ⟨z34, hz34, h⟩ := xbind_some h
  refine x_callV 228 C (q0 := 0) (ci := 7) 2 (As := [.int 2, .int (-1)]) (rest := [.long ((31 : Int64) * v1_33)]) (M_X7_phasesNow l D a b z32.2 2 (-1)  hz34) (by rfl) rfl kw_1106 mv_X7_phasesNow mh_X7_phasesNow ⟨rfl, rfl⟩ ⟨Nat.le_of_ble_eq_true rfl, Nat.le_of_ble_eq_true rfl⟩ rfl rfl (Nat.le_of_ble_eq_true rfl) dX7_digest_228 ?_
  refine x_i2l 231 C dX7_digest_231 ?_
  refine x_ladd 232 C dX7_digest_232 ?_
  refine x_topl h (fun v1_35 h => ?_)
  refine x_lstore_n 233 C (lv' := [(0, .ref (a 0)), (1, .long v1_35)]) dX7_digest_233 rfl (Nat.le_of_ble_eq_true rfl) [1, 0] rfl ?_
  refine x_iconst 234 C dX7_digest_234 ci_0 ?_
  refine x_istore_n 235 C (lv' := [(0, .ref (a 0)), (1, .long v1_35), (3, .int 0)]) dX7_digest_235 rfl (Nat.le_of_ble_eq_true rfl) [1, 2, 0] rfl ?_
  refine x_loop (E := fun e => XAt (ωR D a b) Γ 261 [(1, .long e.1)] [] e.2) (P := fun t => XAt (ωR D a b) Γ 236 [(0, .ref (a 0)), (1, .long t.1), (3, .int t.2.1)] [] t.2.2) h (fun e39 h => ?_) (fun kx rc t hk ih h => w_X7_digest_236 l D a b S0 C    kx rc hk ih t.1 t.2.1 t.2.2 h)
  refine x_lload_n 261 C dX7_digest_261 rfl 0 rfl ?_
  exact x_lret 262 C dX7_digest_262 (Prod.mk.inj (Option.some.inj h)).1 (Prod.mk.inj (Option.some.inj h)).2
