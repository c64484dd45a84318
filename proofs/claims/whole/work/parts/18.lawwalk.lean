def St_grave (Inv : XSt → XSr → Prop) : Prop := ∀ (S : XSt) (U : XSr) (x1 x2 : Int32), Inv S U → ∃ (r : Int32) (S1 : XSt) (U1 : XSr), F_X6_grave S x1 x2 = some (r, S1) ∧ F_X7_grave U x1 x2 = some (r, U1) ∧ Inv S1 U1
def St_robbed (Inv : XSt → XSr → Prop) : Prop := ∀ (S : XSt) (U : XSr) (x1 x2 : Int32), Inv S U → ∃ (r : Int32) (S1 : XSt) (U1 : XSr), F_X6_robbed S x1 x2 = some (r, S1) ∧ F_X7_robbed U x1 x2 = some (r, U1) ∧ Inv S1 U1
def St_weight (Inv : XSt → XSr → Prop) : Prop := ∀ (S : XSt) (U : XSr) (x1 x2 : Int32), Inv S U → ∃ (r : Int32) (S1 : XSt) (U1 : XSr), F_X6_weight S x1 x2 = some (r, S1) ∧ F_X7_weight U x1 x2 = some (r, U1) ∧ Inv S1 U1
def St_over (Inv : XSt → XSr → Prop) : Prop := ∀ (S : XSt) (U : XSr) (x1 x2 : Int32), Inv S U → ∃ (r : Int32) (S1 : XSt) (U1 : XSr), F_X6_over S x1 x2 = some (r, S1) ∧ F_X7_over U x1 x2 = some (r, U1) ∧ Inv S1 U1
def St_type (Inv : XSt → XSr → Prop) : Prop := ∀ (S : XSt) (U : XSr) (x1 : Int32), Inv S U → ∃ (r : Int32) (S1 : XSt) (U1 : XSr), F_X6_type S x1 = some (r, S1) ∧ F_X7_type U x1 = some (r, U1) ∧ Inv S1 U1
def St_wipe (Inv : XSt → XSr → Prop) : Prop := ∀ (S : XSt) (U : XSr) , Inv S U → ∃ (r : Int32) (S1 : XSt) (U1 : XSr), F_X6_wipe S = some (r, S1) ∧ F_X7_wipe U = some (r, U1) ∧ Inv S1 U1
def St_fault (Inv : XSt → XSr → Prop) : Prop := ∀ (S : XSt) (U : XSr) , Inv S U → ∃ (r : Int32) (U1 : XSr), F_X6_fault S = some r ∧ F_X7_fault U = some (r, U1) ∧ Inv S U1
def St_tell (Inv : XSt → XSr → Prop) : Prop := ∀ (S : XSt) (U : XSr) (x1 : Int32), Inv S U → ∃ (r : Int32) (S1 : XSt) (U1 : XSr), F_X6_tell S x1 = some (r, S1) ∧ F_X7_tell U x1 = some (r, U1) ∧ Inv S1 U1
def St_read (Inv : XSt → XSr → Prop) : Prop := ∀ (S : XSt) (U : XSr) (x1 x2 x3 : Int32), Inv S U → ∃ (r : Int32) (S1 : XSt) (U1 : XSr), F_X6_read S x1 x2 x3 = some (r, S1) ∧ F_X7_read U x1 x2 x3 = some (r, U1) ∧ Inv S1 U1
def St_asOf (Inv : XSt → XSr → Prop) : Prop := ∀ (S : XSt) (U : XSr) (x1 : Int32), Inv S U → ∃ (r : Int32) (S1 : XSt) (U1 : XSr), F_X6_asOf S x1 = some (r, S1) ∧ F_X7_asOf U x1 = some (r, U1) ∧ Inv S1 U1
def St_has (Inv : XSt → XSr → Prop) : Prop := ∀ (S : XSt) (U : XSr) (x1 : Int32), Inv S U → ∃ (r : Int32) (U1 : XSr), F_X6_has S x1 = some r ∧ F_X7_has U x1 = some (r, U1) ∧ Inv S U1
def St_gaps (Inv : XSt → XSr → Prop) : Prop := ∀ (S : XSt) (U : XSr) (x1 x2 : Int32), Inv S U → ∃ (r : Int32) (S1 : XSt) (U1 : XSr), F_X6_gaps S x1 x2 = some (r, S1) ∧ F_X7_gaps U x1 x2 = some (r, U1) ∧ Inv S1 U1
def St_best (Inv : XSt → XSr → Prop) : Prop := ∀ (S : XSt) (U : XSr) (x1 : Int32), Inv S U → ∃ (r : Int32) (S1 : XSt) (U1 : XSr), F_X6_best S x1 = some (r, S1) ∧ F_X7_best U x1 = some (r, U1) ∧ Inv S1 U1
def St_first (Inv : XSt → XSr → Prop) : Prop := ∀ (S : XSt) (U : XSr) (x1 : Int32), Inv S U → ∃ (r : Int32) (S1 : XSt) (U1 : XSr), F_X6_first S x1 = some (r, S1) ∧ F_X7_first U x1 = some (r, U1) ∧ Inv S1 U1
def St_sure (Inv : XSt → XSr → Prop) : Prop := ∀ (S : XSt) (U : XSr) (x1 x2 : Int32), Inv S U → ∃ (r : Int32) (S1 : XSt) (U1 : XSr), F_X6_sure S x1 x2 = some (r, S1) ∧ F_X7_sure U x1 x2 = some (r, U1) ∧ Inv S1 U1
def St_places (Inv : XSt → XSr → Prop) : Prop := ∀ (S : XSt) (U : XSr) (x1 : Int32), Inv S U → ∃ (r : Int32) (S1 : XSt) (U1 : XSr), F_X6_places S x1 = some (r, S1) ∧ F_X7_places U x1 = some (r, U1) ∧ Inv S1 U1
def St_spread (Inv : XSt → XSr → Prop) : Prop := ∀ (S : XSt) (U : XSr) (x1 x2 : Int32), Inv S U → ∃ (r : Int32) (S1 : XSt) (U1 : XSr), F_X6_spread S x1 x2 = some (r, S1) ∧ F_X7_spread U x1 x2 = some (r, U1) ∧ Inv S1 U1
def St_mean (Inv : XSt → XSr → Prop) : Prop := ∀ (S : XSt) (U : XSr) (x1 : Int32), Inv S U → ∃ (r : Int64) (S1 : XSt) (U1 : XSr), F_X6_mean S x1 = some (r, S1) ∧ F_X7_mean U x1 = some (r, U1) ∧ Inv S1 U1
def St_leftOut (Inv : XSt → XSr → Prop) : Prop := ∀ (S : XSt) (U : XSr) , Inv S U → ∃ (r : Int32) (S1 : XSt) (U1 : XSr), F_X6_leftOut S = some (r, S1) ∧ F_X7_leftOut U = some (r, U1) ∧ Inv S1 U1
def St_mended (Inv : XSt → XSr → Prop) : Prop := ∀ (S : XSt) (U : XSr) (x1 : Int32), Inv S U → ∃ (r : Int32) (S1 : XSt) (U1 : XSr), F_X6_mended S x1 = some (r, S1) ∧ F_X7_mended U x1 = some (r, U1) ∧ Inv S1 U1
def St_phases (Inv : XSt → XSr → Prop) : Prop := ∀ (S : XSt) (U : XSr) (x1 x2 : Int32), Inv S U → ∃ (r : Int32) (S1 : XSt) (U1 : XSr), F_X6_phases S x1 x2 = some (r, S1) ∧ F_X7_phases U x1 x2 = some (r, U1) ∧ Inv S1 U1
def St_years (Inv : XSt → XSr → Prop) : Prop := ∀ (S : XSt) (U : XSr) (x1 x2 x3 : Int32), Inv S U → ∃ (r : Int32) (S1 : XSt) (U1 : XSr), F_X6_years S x1 x2 x3 = some (r, S1) ∧ F_X7_years U x1 x2 x3 = some (r, U1) ∧ Inv S1 U1
def St_fresh (Inv : XSt → XSr → Prop) : Prop := ∀ (S : XSt) (U : XSr) (x1 x2 : Int32), Inv S U → ∃ (r : Int32) (S1 : XSt) (U1 : XSr), F_X6_fresh S x1 x2 = some (r, S1) ∧ F_X7_fresh U x1 x2 = some (r, U1) ∧ Inv S1 U1
def St_alike (Inv : XSt → XSr → Prop) : Prop := ∀ (S : XSt) (U : XSr) (x1 x2 x3 : Int32), Inv S U → ∃ (r : Int64) (U1 : XSr), F_X6_alike S x1 x2 x3 = some r ∧ F_X7_alike U x1 x2 x3 = some (r, U1) ∧ Inv S U1
def St_nearest (Inv : XSt → XSr → Prop) : Prop := ∀ (S : XSt) (U : XSr) (x1 : Int32), Inv S U → ∃ (r : Int32) (U1 : XSr), F_X6_nearest S x1 = some r ∧ F_X7_nearest U x1 = some (r, U1) ∧ Inv S U1
def St_sheet (Inv : XSt → XSr → Prop) : Prop := ∀ (S : XSt) (U : XSr) (x1 x2 x3 : Int32), Inv S U → ∃ (r : Int32) (S1 : XSt) (U1 : XSr), F_X6_sheet S x1 x2 x3 = some (r, S1) ∧ F_X7_sheet U x1 x2 x3 = some (r, U1) ∧ Inv S1 U1
def St_lose (Inv : XSt → XSr → Prop) : Prop := ∀ (S : XSt) (U : XSr) (x1 : Int32), Inv S U → ∃ (r : Int32) (S1 : XSt) (U1 : XSr), F_X6_lose S x1 = some (r, S1) ∧ F_X7_lose U x1 = some (r, U1) ∧ Inv S1 U1
def St_put (Inv : XSt → XSr → Prop) : Prop := ∀ (S : XSt) (U : XSr) (x1 x2 x3 x4 : Int32), Inv S U → ∃ (r : Int32) (S1 : XSt) (U1 : XSr), F_X6_put S x1 x2 x3 x4 = some (r, S1) ∧ F_X7_put U x1 x2 x3 x4 = some (r, U1) ∧ Inv S1 U1
def St_get (Inv : XSt → XSr → Prop) : Prop := ∀ (S : XSt) (U : XSr) (x1 x2 x3 : Int32), Inv S U → ∃ (r : Int32) (S1 : XSt) (U1 : XSr), F_X6_get S x1 x2 x3 = some (r, S1) ∧ F_X7_get U x1 x2 x3 = some (r, U1) ∧ Inv S1 U1
def St_copy (Inv : XSt → XSr → Prop) : Prop := ∀ (S : XSt) (U : XSr) (x1 x2 x3 x4 x5 : Int32), Inv S U → ∃ (r : Int32) (S1 : XSt) (U1 : XSr), F_X6_copy S x1 x2 x3 x4 x5 = some (r, S1) ∧ F_X7_copy U x1 x2 x3 x4 x5 = some (r, U1) ∧ Inv S1 U1
def St_write (Inv : XSt → XSr → Prop) : Prop := ∀ (S : XSt) (U : XSr) (x1 : Int32), Inv S U → ∃ (r : Int32) (S1 : XSt) (U1 : XSr), F_X6_write S x1 = some (r, S1) ∧ F_X7_write U x1 = some (r, U1) ∧ Inv S1 U1
def St_count (Inv : XSt → XSr → Prop) : Prop := ∀ (S : XSt) (U : XSr) (x1 : Int32), Inv S U → ∃ (r : Int32) (U1 : XSr), F_X6_count S x1 = some r ∧ F_X7_count U x1 = some (r, U1) ∧ Inv S U1
def St_digest (Inv : XSt → XSr → Prop) : Prop := ∀ (S : XSt) (U : XSr) , Inv S U → ∃ (r : Int64) (S1 : XSt) (U1 : XSr), F_X6_digest S = some (r, S1) ∧ F_X7_digest U = some (r, U1) ∧ Inv S1 U1
set_option maxRecDepth 100000 in
set_option maxHeartbeats 4000000 in
theorem lw_grave {l : Launch} {κ : XK} {D : va_G} {a : Nat → Nat} {b : Nat → ClassId} {a' : Nat → Nat} {b' : Nat → ClassId} {sb L : Nat} {xs : Nat → Int32} (C : LCx (l, κ, D, a, b, a', b', sb, L, xs)) {Inv : XSt → XSr → Prop} (h_grave : St_grave Inv) (x3 : Int32) (h1 : vp_in (x3 + 1) L) (h2 : vp_in (x3 + 2) L) (h3 : vp_in (x3 + 3) L) (h4 : vp_in (x3 + 4) L) (h5 : vp_in (x3 + 5) L) (S : XSt) (U : XSr) (hI : Inv S U)
    (K : ∀ S U, Inv S U → LAt (l, κ, D, a, b, a', b', sb, L, xs) 1162 [(0, .ref sb), (1, .ref (a 0)), (2, .ref (a' 0)), (3, .int x3)] [] S U) : LAt (l, κ, D, a, b, a', b', sb, L, xs) 180 [(0, .ref sb), (1, .ref (a 0)), (2, .ref (a' 0)), (3, .int x3)] [] S U := by
  obtain ⟨r, S1, U1, hC, hR, hI1⟩ := h_grave S U (xs (x3 + 1).toNatClampNeg) (xs (x3 + 2).toNatClampNeg) hI
  refine l_aload_n 180 C dL_law_180 rfl 1 rfl ?_
  refine l_aload_n 181 C dL_law_181 rfl 0 rfl ?_
  refine l_iload_n 182 C dL_law_182 rfl 3 rfl ?_
  refine l_iconst 183 C dL_law_183 ci_1 ?_
  refine l_iadd 184 C dL_law_184 ?_
  refine l_sld 185 C h1 dL_law_185 ?_
  refine l_aload_n 186 C dL_law_186 rfl 0 rfl ?_
  refine l_iload_n 187 C dL_law_187 rfl 3 rfl ?_
  refine l_iconst 188 C dL_law_188 ci_2 ?_
  refine l_iadd 189 C dL_law_189 ?_
  refine l_sld 190 C h2 dL_law_190 ?_
  refine l_callC 191 C 2 (As := [.int (xs (x3 + 1).toNatClampNeg), .int (xs (x3 + 2).toNatClampNeg)]) (rest := []) (M_X6_grave l D a b S (xs (x3 + 1).toNatClampNeg) (xs (x3 + 2).toNatClampNeg) hC) (by rfl) rfl kw_303 mv_X6_grave mh_X6_grave ⟨rfl, rfl⟩ ⟨Nat.le_of_ble_eq_true rfl, Nat.le_of_ble_eq_true rfl⟩ rfl rfl (Nat.le_of_ble_eq_true rfl) dL_law_191 ?_
  refine l_aload_n 194 C dL_law_194 rfl 2 rfl ?_
  refine l_aload_n 195 C dL_law_195 rfl 0 rfl ?_
  refine l_iload_n 196 C dL_law_196 rfl 3 rfl ?_
  refine l_iconst 197 C dL_law_197 ci_1 ?_
  refine l_iadd 198 C dL_law_198 ?_
  refine l_sld 199 C h1 dL_law_199 ?_
  refine l_aload_n 200 C dL_law_200 rfl 0 rfl ?_
  refine l_iload_n 201 C dL_law_201 rfl 3 rfl ?_
  refine l_iconst 202 C dL_law_202 ci_2 ?_
  refine l_iadd 203 C dL_law_203 ?_
  refine l_sld 204 C h2 dL_law_204 ?_
  refine l_callR 205 C 2 (As := [.int (xs (x3 + 1).toNatClampNeg), .int (xs (x3 + 2).toNatClampNeg)]) (rest := [.int r]) (M_X7_grave l D a' b' U (xs (x3 + 1).toNatClampNeg) (xs (x3 + 2).toNatClampNeg) hR) (by rfl) rfl kw_907 mv_X7_grave mh_X7_grave ⟨rfl, rfl⟩ ⟨Nat.le_of_ble_eq_true rfl, Nat.le_of_ble_eq_true rfl⟩ rfl rfl (Nat.le_of_ble_eq_true rfl) dL_law_205 ?_
  refine l_same 208 C 1162 dL_law_208 rfl ?_
  exact K _ _ hI1
set_option maxRecDepth 100000 in
set_option maxHeartbeats 4000000 in
theorem lw_robbed {l : Launch} {κ : XK} {D : va_G} {a : Nat → Nat} {b : Nat → ClassId} {a' : Nat → Nat} {b' : Nat → ClassId} {sb L : Nat} {xs : Nat → Int32} (C : LCx (l, κ, D, a, b, a', b', sb, L, xs)) {Inv : XSt → XSr → Prop} (h_robbed : St_robbed Inv) (x3 : Int32) (h1 : vp_in (x3 + 1) L) (h2 : vp_in (x3 + 2) L) (h3 : vp_in (x3 + 3) L) (h4 : vp_in (x3 + 4) L) (h5 : vp_in (x3 + 5) L) (S : XSt) (U : XSr) (hI : Inv S U)
    (K : ∀ S U, Inv S U → LAt (l, κ, D, a, b, a', b', sb, L, xs) 1162 [(0, .ref sb), (1, .ref (a 0)), (2, .ref (a' 0)), (3, .int x3)] [] S U) : LAt (l, κ, D, a, b, a', b', sb, L, xs) 213 [(0, .ref sb), (1, .ref (a 0)), (2, .ref (a' 0)), (3, .int x3)] [] S U := by
  obtain ⟨r, S1, U1, hC, hR, hI1⟩ := h_robbed S U (xs (x3 + 1).toNatClampNeg) (xs (x3 + 2).toNatClampNeg) hI
  refine l_aload_n 213 C dL_law_213 rfl 1 rfl ?_
  refine l_aload_n 214 C dL_law_214 rfl 0 rfl ?_
  refine l_iload_n 215 C dL_law_215 rfl 3 rfl ?_
  refine l_iconst 216 C dL_law_216 ci_1 ?_
  refine l_iadd 217 C dL_law_217 ?_
  refine l_sld 218 C h1 dL_law_218 ?_
  refine l_aload_n 219 C dL_law_219 rfl 0 rfl ?_
  refine l_iload_n 220 C dL_law_220 rfl 3 rfl ?_
  refine l_iconst 221 C dL_law_221 ci_2 ?_
  refine l_iadd 222 C dL_law_222 ?_
  refine l_sld 223 C h2 dL_law_223 ?_
  refine l_callC 224 C 2 (As := [.int (xs (x3 + 1).toNatClampNeg), .int (xs (x3 + 2).toNatClampNeg)]) (rest := []) (M_X6_robbed l D a b S (xs (x3 + 1).toNatClampNeg) (xs (x3 + 2).toNatClampNeg) hC) (by rfl) rfl kw_314 mv_X6_robbed mh_X6_robbed ⟨rfl, rfl⟩ ⟨Nat.le_of_ble_eq_true rfl, Nat.le_of_ble_eq_true rfl⟩ rfl rfl (Nat.le_of_ble_eq_true rfl) dL_law_224 ?_
  refine l_aload_n 227 C dL_law_227 rfl 2 rfl ?_
  refine l_aload_n 228 C dL_law_228 rfl 0 rfl ?_
  refine l_iload_n 229 C dL_law_229 rfl 3 rfl ?_
  refine l_iconst 230 C dL_law_230 ci_1 ?_
  refine l_iadd 231 C dL_law_231 ?_
  refine l_sld 232 C h1 dL_law_232 ?_
  refine l_aload_n 233 C dL_law_233 rfl 0 rfl ?_
  refine l_iload_n 234 C dL_law_234 rfl 3 rfl ?_
  refine l_iconst 235 C dL_law_235 ci_2 ?_
  refine l_iadd 236 C dL_law_236 ?_
  refine l_sld 237 C h2 dL_law_237 ?_
  refine l_callR 238 C 2 (As := [.int (xs (x3 + 1).toNatClampNeg), .int (xs (x3 + 2).toNatClampNeg)]) (rest := [.int r]) (M_X7_robbed l D a' b' U (xs (x3 + 1).toNatClampNeg) (xs (x3 + 2).toNatClampNeg) hR) (by rfl) rfl kw_914 mv_X7_robbed mh_X7_robbed ⟨rfl, rfl⟩ ⟨Nat.le_of_ble_eq_true rfl, Nat.le_of_ble_eq_true rfl⟩ rfl rfl (Nat.le_of_ble_eq_true rfl) dL_law_238 ?_
  refine l_same 241 C 1162 dL_law_241 rfl ?_
  exact K _ _ hI1
set_option maxRecDepth 100000 in
set_option maxHeartbeats 4000000 in
theorem lw_weight {l : Launch} {κ : XK} {D : va_G} {a : Nat → Nat} {b : Nat → ClassId} {a' : Nat → Nat} {b' : Nat → ClassId} {sb L : Nat} {xs : Nat → Int32} (C : LCx (l, κ, D, a, b, a', b', sb, L, xs)) {Inv : XSt → XSr → Prop} (h_weight : St_weight Inv) (x3 : Int32) (h1 : vp_in (x3 + 1) L) (h2 : vp_in (x3 + 2) L) (h3 : vp_in (x3 + 3) L) (h4 : vp_in (x3 + 4) L) (h5 : vp_in (x3 + 5) L) (S : XSt) (U : XSr) (hI : Inv S U)
    (K : ∀ S U, Inv S U → LAt (l, κ, D, a, b, a', b', sb, L, xs) 1162 [(0, .ref sb), (1, .ref (a 0)), (2, .ref (a' 0)), (3, .int x3)] [] S U) : LAt (l, κ, D, a, b, a', b', sb, L, xs) 246 [(0, .ref sb), (1, .ref (a 0)), (2, .ref (a' 0)), (3, .int x3)] [] S U := by
  obtain ⟨r, S1, U1, hC, hR, hI1⟩ := h_weight S U (xs (x3 + 1).toNatClampNeg) (xs (x3 + 2).toNatClampNeg) hI
  refine l_aload_n 246 C dL_law_246 rfl 1 rfl ?_
  refine l_aload_n 247 C dL_law_247 rfl 0 rfl ?_
  refine l_iload_n 248 C dL_law_248 rfl 3 rfl ?_
  refine l_iconst 249 C dL_law_249 ci_1 ?_
  refine l_iadd 250 C dL_law_250 ?_
  refine l_sld 251 C h1 dL_law_251 ?_
  refine l_aload_n 252 C dL_law_252 rfl 0 rfl ?_
  refine l_iload_n 253 C dL_law_253 rfl 3 rfl ?_
  refine l_iconst 254 C dL_law_254 ci_2 ?_
  refine l_iadd 255 C dL_law_255 ?_
  refine l_sld 256 C h2 dL_law_256 ?_
  refine l_callC 257 C 2 (As := [.int (xs (x3 + 1).toNatClampNeg), .int (xs (x3 + 2).toNatClampNeg)]) (rest := []) (M_X6_weight l D a b S (xs (x3 + 1).toNatClampNeg) (xs (x3 + 2).toNatClampNeg) hC) (by rfl) rfl kw_322 mv_X6_weight mh_X6_weight ⟨rfl, rfl⟩ ⟨Nat.le_of_ble_eq_true rfl, Nat.le_of_ble_eq_true rfl⟩ rfl rfl (Nat.le_of_ble_eq_true rfl) dL_law_257 ?_
  refine l_aload_n 260 C dL_law_260 rfl 2 rfl ?_
  refine l_aload_n 261 C dL_law_261 rfl 0 rfl ?_
  refine l_iload_n 262 C dL_law_262 rfl 3 rfl ?_
  refine l_iconst 263 C dL_law_263 ci_1 ?_
  refine l_iadd 264 C dL_law_264 ?_
  refine l_sld 265 C h1 dL_law_265 ?_
  refine l_aload_n 266 C dL_law_266 rfl 0 rfl ?_
  refine l_iload_n 267 C dL_law_267 rfl 3 rfl ?_
  refine l_iconst 268 C dL_law_268 ci_2 ?_
  refine l_iadd 269 C dL_law_269 ?_
  refine l_sld 270 C h2 dL_law_270 ?_
  refine l_callR 271 C 2 (As := [.int (xs (x3 + 1).toNatClampNeg), .int (xs (x3 + 2).toNatClampNeg)]) (rest := [.int r]) (M_X7_weight l D a' b' U (xs (x3 + 1).toNatClampNeg) (xs (x3 + 2).toNatClampNeg) hR) (by rfl) rfl kw_922 mv_X7_weight mh_X7_weight ⟨rfl, rfl⟩ ⟨Nat.le_of_ble_eq_true rfl, Nat.le_of_ble_eq_true rfl⟩ rfl rfl (Nat.le_of_ble_eq_true rfl) dL_law_271 ?_
  refine l_same 274 C 1162 dL_law_274 rfl ?_
  exact K _ _ hI1
set_option maxRecDepth 100000 in
set_option maxHeartbeats 4000000 in
theorem lw_over {l : Launch} {κ : XK} {D : va_G} {a : Nat → Nat} {b : Nat → ClassId} {a' : Nat → Nat} {b' : Nat → ClassId} {sb L : Nat} {xs : Nat → Int32} (C : LCx (l, κ, D, a, b, a', b', sb, L, xs)) {Inv : XSt → XSr → Prop} (h_over : St_over Inv) (x3 : Int32) (h1 : vp_in (x3 + 1) L) (h2 : vp_in (x3 + 2) L) (h3 : vp_in (x3 + 3) L) (h4 : vp_in (x3 + 4) L) (h5 : vp_in (x3 + 5) L) (S : XSt) (U : XSr) (hI : Inv S U)
    (K : ∀ S U, Inv S U → LAt (l, κ, D, a, b, a', b', sb, L, xs) 1162 [(0, .ref sb), (1, .ref (a 0)), (2, .ref (a' 0)), (3, .int x3)] [] S U) : LAt (l, κ, D, a, b, a', b', sb, L, xs) 279 [(0, .ref sb), (1, .ref (a 0)), (2, .ref (a' 0)), (3, .int x3)] [] S U := by
  obtain ⟨r, S1, U1, hC, hR, hI1⟩ := h_over S U (xs (x3 + 1).toNatClampNeg) (xs (x3 + 2).toNatClampNeg) hI
  refine l_aload_n 279 C dL_law_279 rfl 1 rfl ?_
  refine l_aload_n 280 C dL_law_280 rfl 0 rfl ?_
  refine l_iload_n 281 C dL_law_281 rfl 3 rfl ?_
  refine l_iconst 282 C dL_law_282 ci_1 ?_
  refine l_iadd 283 C dL_law_283 ?_
  refine l_sld 284 C h1 dL_law_284 ?_
  refine l_aload_n 285 C dL_law_285 rfl 0 rfl ?_
  refine l_iload_n 286 C dL_law_286 rfl 3 rfl ?_
  refine l_iconst 287 C dL_law_287 ci_2 ?_
  refine l_iadd 288 C dL_law_288 ?_
  refine l_sld 289 C h2 dL_law_289 ?_
  refine l_callC 290 C 2 (As := [.int (xs (x3 + 1).toNatClampNeg), .int (xs (x3 + 2).toNatClampNeg)]) (rest := []) (M_X6_over l D a b S (xs (x3 + 1).toNatClampNeg) (xs (x3 + 2).toNatClampNeg) hC) (by rfl) rfl kw_343 mv_X6_over mh_X6_over ⟨rfl, rfl⟩ ⟨Nat.le_of_ble_eq_true rfl, Nat.le_of_ble_eq_true rfl⟩ rfl rfl (Nat.le_of_ble_eq_true rfl) dL_law_290 ?_
  refine l_aload_n 293 C dL_law_293 rfl 2 rfl ?_
  refine l_aload_n 294 C dL_law_294 rfl 0 rfl ?_
  refine l_iload_n 295 C dL_law_295 rfl 3 rfl ?_
  refine l_iconst 296 C dL_law_296 ci_1 ?_
  refine l_iadd 297 C dL_law_297 ?_
  refine l_sld 298 C h1 dL_law_298 ?_
  refine l_aload_n 299 C dL_law_299 rfl 0 rfl ?_
  refine l_iload_n 300 C dL_law_300 rfl 3 rfl ?_
  refine l_iconst 301 C dL_law_301 ci_2 ?_
  refine l_iadd 302 C dL_law_302 ?_
  refine l_sld 303 C h2 dL_law_303 ?_
  refine l_callR 304 C 2 (As := [.int (xs (x3 + 1).toNatClampNeg), .int (xs (x3 + 2).toNatClampNeg)]) (rest := [.int r]) (M_X7_over l D a' b' U (xs (x3 + 1).toNatClampNeg) (xs (x3 + 2).toNatClampNeg) hR) (by rfl) rfl kw_929 mv_X7_over mh_X7_over ⟨rfl, rfl⟩ ⟨Nat.le_of_ble_eq_true rfl, Nat.le_of_ble_eq_true rfl⟩ rfl rfl (Nat.le_of_ble_eq_true rfl) dL_law_304 ?_
  refine l_same 307 C 1162 dL_law_307 rfl ?_
  exact K _ _ hI1
set_option maxRecDepth 100000 in
set_option maxHeartbeats 4000000 in
theorem lw_type {l : Launch} {κ : XK} {D : va_G} {a : Nat → Nat} {b : Nat → ClassId} {a' : Nat → Nat} {b' : Nat → ClassId} {sb L : Nat} {xs : Nat → Int32} (C : LCx (l, κ, D, a, b, a', b', sb, L, xs)) {Inv : XSt → XSr → Prop} (h_type : St_type Inv) (x3 : Int32) (h1 : vp_in (x3 + 1) L) (h2 : vp_in (x3 + 2) L) (h3 : vp_in (x3 + 3) L) (h4 : vp_in (x3 + 4) L) (h5 : vp_in (x3 + 5) L) (S : XSt) (U : XSr) (hI : Inv S U)
    (K : ∀ S U, Inv S U → LAt (l, κ, D, a, b, a', b', sb, L, xs) 1162 [(0, .ref sb), (1, .ref (a 0)), (2, .ref (a' 0)), (3, .int x3)] [] S U) : LAt (l, κ, D, a, b, a', b', sb, L, xs) 312 [(0, .ref sb), (1, .ref (a 0)), (2, .ref (a' 0)), (3, .int x3)] [] S U := by
  obtain ⟨r, S1, U1, hC, hR, hI1⟩ := h_type S U (xs (x3 + 1).toNatClampNeg) hI
  refine l_aload_n 312 C dL_law_312 rfl 1 rfl ?_
  refine l_aload_n 313 C dL_law_313 rfl 0 rfl ?_
  refine l_iload_n 314 C dL_law_314 rfl 3 rfl ?_
  refine l_iconst 315 C dL_law_315 ci_1 ?_
  refine l_iadd 316 C dL_law_316 ?_
  refine l_sld 317 C h1 dL_law_317 ?_
  refine l_callC 318 C 1 (As := [.int (xs (x3 + 1).toNatClampNeg)]) (rest := []) (M_X6_type l D a b S (xs (x3 + 1).toNatClampNeg) hC) (by rfl) rfl kw_351 mv_X6_type mh_X6_type ⟨rfl, rfl⟩ ⟨Nat.le_of_ble_eq_true rfl, Nat.le_of_ble_eq_true rfl⟩ rfl rfl (Nat.le_of_ble_eq_true rfl) dL_law_318 ?_
  refine l_aload_n 321 C dL_law_321 rfl 2 rfl ?_
  refine l_aload_n 322 C dL_law_322 rfl 0 rfl ?_
  refine l_iload_n 323 C dL_law_323 rfl 3 rfl ?_
  refine l_iconst 324 C dL_law_324 ci_1 ?_
  refine l_iadd 325 C dL_law_325 ?_
  refine l_sld 326 C h1 dL_law_326 ?_
  refine l_callR 327 C 1 (As := [.int (xs (x3 + 1).toNatClampNeg)]) (rest := [.int r]) (M_X7_type l D a' b' U (xs (x3 + 1).toNatClampNeg) hR) (by rfl) rfl kw_933 mv_X7_type mh_X7_type ⟨rfl, rfl⟩ ⟨Nat.le_of_ble_eq_true rfl, Nat.le_of_ble_eq_true rfl⟩ rfl rfl (Nat.le_of_ble_eq_true rfl) dL_law_327 ?_
  refine l_same 330 C 1162 dL_law_330 rfl ?_
  exact K _ _ hI1
set_option maxRecDepth 100000 in
set_option maxHeartbeats 4000000 in
theorem lw_wipe {l : Launch} {κ : XK} {D : va_G} {a : Nat → Nat} {b : Nat → ClassId} {a' : Nat → Nat} {b' : Nat → ClassId} {sb L : Nat} {xs : Nat → Int32} (C : LCx (l, κ, D, a, b, a', b', sb, L, xs)) {Inv : XSt → XSr → Prop} (h_wipe : St_wipe Inv) (x3 : Int32) (h1 : vp_in (x3 + 1) L) (h2 : vp_in (x3 + 2) L) (h3 : vp_in (x3 + 3) L) (h4 : vp_in (x3 + 4) L) (h5 : vp_in (x3 + 5) L) (S : XSt) (U : XSr) (hI : Inv S U)
    (K : ∀ S U, Inv S U → LAt (l, κ, D, a, b, a', b', sb, L, xs) 1162 [(0, .ref sb), (1, .ref (a 0)), (2, .ref (a' 0)), (3, .int x3)] [] S U) : LAt (l, κ, D, a, b, a', b', sb, L, xs) 335 [(0, .ref sb), (1, .ref (a 0)), (2, .ref (a' 0)), (3, .int x3)] [] S U := by
  obtain ⟨r, S1, U1, hC, hR, hI1⟩ := h_wipe S U  hI
  refine l_aload_n 335 C dL_law_335 rfl 1 rfl ?_
  refine l_callC 336 C 0 (As := []) (rest := []) (M_X6_wipe l D a b S  hC) (by rfl) rfl kw_355 mv_X6_wipe mh_X6_wipe ⟨rfl, rfl⟩ ⟨Nat.le_of_ble_eq_true rfl, Nat.le_of_ble_eq_true rfl⟩ rfl rfl (Nat.le_of_ble_eq_true rfl) dL_law_336 ?_
  refine l_aload_n 339 C dL_law_339 rfl 2 rfl ?_
  refine l_callR 340 C 0 (As := []) (rest := [.int r]) (M_X7_wipe l D a' b' U  hR) (by rfl) rfl kw_937 mv_X7_wipe mh_X7_wipe ⟨rfl, rfl⟩ ⟨Nat.le_of_ble_eq_true rfl, Nat.le_of_ble_eq_true rfl⟩ rfl rfl (Nat.le_of_ble_eq_true rfl) dL_law_340 ?_
  refine l_same 343 C 1162 dL_law_343 rfl ?_
  exact K _ _ hI1
set_option maxRecDepth 100000 in
set_option maxHeartbeats 4000000 in
theorem lw_fault {l : Launch} {κ : XK} {D : va_G} {a : Nat → Nat} {b : Nat → ClassId} {a' : Nat → Nat} {b' : Nat → ClassId} {sb L : Nat} {xs : Nat → Int32} (C : LCx (l, κ, D, a, b, a', b', sb, L, xs)) {Inv : XSt → XSr → Prop} (h_fault : St_fault Inv) (x3 : Int32) (h1 : vp_in (x3 + 1) L) (h2 : vp_in (x3 + 2) L) (h3 : vp_in (x3 + 3) L) (h4 : vp_in (x3 + 4) L) (h5 : vp_in (x3 + 5) L) (S : XSt) (U : XSr) (hI : Inv S U)
    (K : ∀ S U, Inv S U → LAt (l, κ, D, a, b, a', b', sb, L, xs) 1162 [(0, .ref sb), (1, .ref (a 0)), (2, .ref (a' 0)), (3, .int x3)] [] S U) : LAt (l, κ, D, a, b, a', b', sb, L, xs) 348 [(0, .ref sb), (1, .ref (a 0)), (2, .ref (a' 0)), (3, .int x3)] [] S U := by
  obtain ⟨r, U1, hC, hR, hI1⟩ := h_fault S U  hI
  refine l_aload_n 348 C dL_law_348 rfl 1 rfl ?_
  refine l_callC 349 C 0 (As := []) (rest := []) (M_X6_fault l D a b S  hC) (by rfl) rfl kw_359 mv_X6_fault mh_X6_fault ⟨rfl, rfl⟩ ⟨Nat.le_of_ble_eq_true rfl, Nat.le_of_ble_eq_true rfl⟩ rfl rfl (Nat.le_of_ble_eq_true rfl) dL_law_349 ?_
  refine l_aload_n 352 C dL_law_352 rfl 2 rfl ?_
  refine l_callR 353 C 0 (As := []) (rest := [.int r]) (M_X7_fault l D a' b' U  hR) (by rfl) rfl kw_941 mv_X7_fault mh_X7_fault ⟨rfl, rfl⟩ ⟨Nat.le_of_ble_eq_true rfl, Nat.le_of_ble_eq_true rfl⟩ rfl rfl (Nat.le_of_ble_eq_true rfl) dL_law_353 ?_
  refine l_same 356 C 1162 dL_law_356 rfl ?_
  exact K _ _ hI1
set_option maxRecDepth 100000 in
set_option maxHeartbeats 4000000 in
theorem lw_tell {l : Launch} {κ : XK} {D : va_G} {a : Nat → Nat} {b : Nat → ClassId} {a' : Nat → Nat} {b' : Nat → ClassId} {sb L : Nat} {xs : Nat → Int32} (C : LCx (l, κ, D, a, b, a', b', sb, L, xs)) {Inv : XSt → XSr → Prop} (h_tell : St_tell Inv) (x3 : Int32) (h1 : vp_in (x3 + 1) L) (h2 : vp_in (x3 + 2) L) (h3 : vp_in (x3 + 3) L) (h4 : vp_in (x3 + 4) L) (h5 : vp_in (x3 + 5) L) (S : XSt) (U : XSr) (hI : Inv S U)
    (K : ∀ S U, Inv S U → LAt (l, κ, D, a, b, a', b', sb, L, xs) 1162 [(0, .ref sb), (1, .ref (a 0)), (2, .ref (a' 0)), (3, .int x3)] [] S U) : LAt (l, κ, D, a, b, a', b', sb, L, xs) 361 [(0, .ref sb), (1, .ref (a 0)), (2, .ref (a' 0)), (3, .int x3)] [] S U := by
  obtain ⟨r, S1, U1, hC, hR, hI1⟩ := h_tell S U (xs (x3 + 1).toNatClampNeg) hI
  refine l_aload_n 361 C dL_law_361 rfl 1 rfl ?_
  refine l_aload_n 362 C dL_law_362 rfl 0 rfl ?_
  refine l_iload_n 363 C dL_law_363 rfl 3 rfl ?_
  refine l_iconst 364 C dL_law_364 ci_1 ?_
  refine l_iadd 365 C dL_law_365 ?_
  refine l_sld 366 C h1 dL_law_366 ?_
  refine l_callC 367 C 1 (As := [.int (xs (x3 + 1).toNatClampNeg)]) (rest := []) (M_X6_tell l D a b S (xs (x3 + 1).toNatClampNeg) hC) (by rfl) rfl kw_370 mv_X6_tell mh_X6_tell ⟨rfl, rfl⟩ ⟨Nat.le_of_ble_eq_true rfl, Nat.le_of_ble_eq_true rfl⟩ rfl rfl (Nat.le_of_ble_eq_true rfl) dL_law_367 ?_
  refine l_aload_n 370 C dL_law_370 rfl 2 rfl ?_
  refine l_aload_n 371 C dL_law_371 rfl 0 rfl ?_
  refine l_iload_n 372 C dL_law_372 rfl 3 rfl ?_
  refine l_iconst 373 C dL_law_373 ci_1 ?_
  refine l_iadd 374 C dL_law_374 ?_
  refine l_sld 375 C h1 dL_law_375 ?_
  refine l_callR 376 C 1 (As := [.int (xs (x3 + 1).toNatClampNeg)]) (rest := [.int r]) (M_X7_tell l D a' b' U (xs (x3 + 1).toNatClampNeg) hR) (by rfl) rfl kw_953 mv_X7_tell mh_X7_tell ⟨rfl, rfl⟩ ⟨Nat.le_of_ble_eq_true rfl, Nat.le_of_ble_eq_true rfl⟩ rfl rfl (Nat.le_of_ble_eq_true rfl) dL_law_376 ?_
  refine l_same 379 C 1162 dL_law_379 rfl ?_
  exact K _ _ hI1
set_option maxRecDepth 100000 in
set_option maxHeartbeats 4000000 in
theorem lw_read {l : Launch} {κ : XK} {D : va_G} {a : Nat → Nat} {b : Nat → ClassId} {a' : Nat → Nat} {b' : Nat → ClassId} {sb L : Nat} {xs : Nat → Int32} (C : LCx (l, κ, D, a, b, a', b', sb, L, xs)) {Inv : XSt → XSr → Prop} (h_read : St_read Inv) (x3 : Int32) (h1 : vp_in (x3 + 1) L) (h2 : vp_in (x3 + 2) L) (h3 : vp_in (x3 + 3) L) (h4 : vp_in (x3 + 4) L) (h5 : vp_in (x3 + 5) L) (S : XSt) (U : XSr) (hI : Inv S U)
    (K : ∀ S U, Inv S U → LAt (l, κ, D, a, b, a', b', sb, L, xs) 1162 [(0, .ref sb), (1, .ref (a 0)), (2, .ref (a' 0)), (3, .int x3)] [] S U) : LAt (l, κ, D, a, b, a', b', sb, L, xs) 384 [(0, .ref sb), (1, .ref (a 0)), (2, .ref (a' 0)), (3, .int x3)] [] S U := by
  obtain ⟨r, S1, U1, hC, hR, hI1⟩ := h_read S U (xs (x3 + 1).toNatClampNeg) (xs (x3 + 2).toNatClampNeg) (xs (x3 + 3).toNatClampNeg) hI
  refine l_aload_n 384 C dL_law_384 rfl 1 rfl ?_
  refine l_aload_n 385 C dL_law_385 rfl 0 rfl ?_
  refine l_iload_n 386 C dL_law_386 rfl 3 rfl ?_
  refine l_iconst 387 C dL_law_387 ci_1 ?_
  refine l_iadd 388 C dL_law_388 ?_
  refine l_sld 389 C h1 dL_law_389 ?_
  refine l_aload_n 390 C dL_law_390 rfl 0 rfl ?_
  refine l_iload_n 391 C dL_law_391 rfl 3 rfl ?_
  refine l_iconst 392 C dL_law_392 ci_2 ?_
  refine l_iadd 393 C dL_law_393 ?_
  refine l_sld 394 C h2 dL_law_394 ?_
  refine l_aload_n 395 C dL_law_395 rfl 0 rfl ?_
  refine l_iload_n 396 C dL_law_396 rfl 3 rfl ?_
  refine l_iconst 397 C dL_law_397 ci_3 ?_
  refine l_iadd 398 C dL_law_398 ?_
  refine l_sld 399 C h3 dL_law_399 ?_
  refine l_callC 400 C 3 (As := [.int (xs (x3 + 1).toNatClampNeg), .int (xs (x3 + 2).toNatClampNeg), .int (xs (x3 + 3).toNatClampNeg)]) (rest := []) (M_X6_read l D a b S (xs (x3 + 1).toNatClampNeg) (xs (x3 + 2).toNatClampNeg) (xs (x3 + 3).toNatClampNeg) hC) (by rfl) rfl kw_399 mv_X6_read mh_X6_read ⟨rfl, rfl⟩ ⟨Nat.le_of_ble_eq_true rfl, Nat.le_of_ble_eq_true rfl⟩ rfl rfl (Nat.le_of_ble_eq_true rfl) dL_law_400 ?_
  refine l_aload_n 403 C dL_law_403 rfl 2 rfl ?_
  refine l_aload_n 404 C dL_law_404 rfl 0 rfl ?_
  refine l_iload_n 405 C dL_law_405 rfl 3 rfl ?_
  refine l_iconst 406 C dL_law_406 ci_1 ?_
  refine l_iadd 407 C dL_law_407 ?_
  refine l_sld 408 C h1 dL_law_408 ?_
  refine l_aload_n 409 C dL_law_409 rfl 0 rfl ?_
  refine l_iload_n 410 C dL_law_410 rfl 3 rfl ?_
  refine l_iconst 411 C dL_law_411 ci_2 ?_
  refine l_iadd 412 C dL_law_412 ?_
  refine l_sld 413 C h2 dL_law_413 ?_
  refine l_aload_n 414 C dL_law_414 rfl 0 rfl ?_
  refine l_iload_n 415 C dL_law_415 rfl 3 rfl ?_
  refine l_iconst 416 C dL_law_416 ci_3 ?_
  refine l_iadd 417 C dL_law_417 ?_
  refine l_sld 418 C h3 dL_law_418 ?_
  refine l_callR 419 C 3 (As := [.int (xs (x3 + 1).toNatClampNeg), .int (xs (x3 + 2).toNatClampNeg), .int (xs (x3 + 3).toNatClampNeg)]) (rest := [.int r]) (M_X7_read l D a' b' U (xs (x3 + 1).toNatClampNeg) (xs (x3 + 2).toNatClampNeg) (xs (x3 + 3).toNatClampNeg) hR) (by rfl) rfl kw_965 mv_X7_read mh_X7_read ⟨rfl, rfl⟩ ⟨Nat.le_of_ble_eq_true rfl, Nat.le_of_ble_eq_true rfl⟩ rfl rfl (Nat.le_of_ble_eq_true rfl) dL_law_419 ?_
  refine l_same 422 C 1162 dL_law_422 rfl ?_
  exact K _ _ hI1
set_option maxRecDepth 100000 in
set_option maxHeartbeats 4000000 in
theorem lw_asOf {l : Launch} {κ : XK} {D : va_G} {a : Nat → Nat} {b : Nat → ClassId} {a' : Nat → Nat} {b' : Nat → ClassId} {sb L : Nat} {xs : Nat → Int32} (C : LCx (l, κ, D, a, b, a', b', sb, L, xs)) {Inv : XSt → XSr → Prop} (h_asOf : St_asOf Inv) (x3 : Int32) (h1 : vp_in (x3 + 1) L) (h2 : vp_in (x3 + 2) L) (h3 : vp_in (x3 + 3) L) (h4 : vp_in (x3 + 4) L) (h5 : vp_in (x3 + 5) L) (S : XSt) (U : XSr) (hI : Inv S U)
    (K : ∀ S U, Inv S U → LAt (l, κ, D, a, b, a', b', sb, L, xs) 1162 [(0, .ref sb), (1, .ref (a 0)), (2, .ref (a' 0)), (3, .int x3)] [] S U) : LAt (l, κ, D, a, b, a', b', sb, L, xs) 427 [(0, .ref sb), (1, .ref (a 0)), (2, .ref (a' 0)), (3, .int x3)] [] S U := by
  obtain ⟨r, S1, U1, hC, hR, hI1⟩ := h_asOf S U (xs (x3 + 1).toNatClampNeg) hI
  refine l_aload_n 427 C dL_law_427 rfl 1 rfl ?_
  refine l_aload_n 428 C dL_law_428 rfl 0 rfl ?_
  refine l_iload_n 429 C dL_law_429 rfl 3 rfl ?_
  refine l_iconst 430 C dL_law_430 ci_1 ?_
  refine l_iadd 431 C dL_law_431 ?_
  refine l_sld 432 C h1 dL_law_432 ?_
  refine l_callC 433 C 1 (As := [.int (xs (x3 + 1).toNatClampNeg)]) (rest := []) (M_X6_asOf l D a b S (xs (x3 + 1).toNatClampNeg) hC) (by rfl) rfl kw_414 mv_X6_asOf mh_X6_asOf ⟨rfl, rfl⟩ ⟨Nat.le_of_ble_eq_true rfl, Nat.le_of_ble_eq_true rfl⟩ rfl rfl (Nat.le_of_ble_eq_true rfl) dL_law_433 ?_
  refine l_aload_n 436 C dL_law_436 rfl 2 rfl ?_
  refine l_aload_n 437 C dL_law_437 rfl 0 rfl ?_
  refine l_iload_n 438 C dL_law_438 rfl 3 rfl ?_
  refine l_iconst 439 C dL_law_439 ci_1 ?_
  refine l_iadd 440 C dL_law_440 ?_
  refine l_sld 441 C h1 dL_law_441 ?_
  refine l_callR 442 C 1 (As := [.int (xs (x3 + 1).toNatClampNeg)]) (rest := [.int r]) (M_X7_asOf l D a' b' U (xs (x3 + 1).toNatClampNeg) hR) (by rfl) rfl kw_976 mv_X7_asOf mh_X7_asOf ⟨rfl, rfl⟩ ⟨Nat.le_of_ble_eq_true rfl, Nat.le_of_ble_eq_true rfl⟩ rfl rfl (Nat.le_of_ble_eq_true rfl) dL_law_442 ?_
  refine l_same 445 C 1162 dL_law_445 rfl ?_
  exact K _ _ hI1
set_option maxRecDepth 100000 in
set_option maxHeartbeats 4000000 in
theorem lw_has {l : Launch} {κ : XK} {D : va_G} {a : Nat → Nat} {b : Nat → ClassId} {a' : Nat → Nat} {b' : Nat → ClassId} {sb L : Nat} {xs : Nat → Int32} (C : LCx (l, κ, D, a, b, a', b', sb, L, xs)) {Inv : XSt → XSr → Prop} (h_has : St_has Inv) (x3 : Int32) (h1 : vp_in (x3 + 1) L) (h2 : vp_in (x3 + 2) L) (h3 : vp_in (x3 + 3) L) (h4 : vp_in (x3 + 4) L) (h5 : vp_in (x3 + 5) L) (S : XSt) (U : XSr) (hI : Inv S U)
    (K : ∀ S U, Inv S U → LAt (l, κ, D, a, b, a', b', sb, L, xs) 1162 [(0, .ref sb), (1, .ref (a 0)), (2, .ref (a' 0)), (3, .int x3)] [] S U) : LAt (l, κ, D, a, b, a', b', sb, L, xs) 450 [(0, .ref sb), (1, .ref (a 0)), (2, .ref (a' 0)), (3, .int x3)] [] S U := by
  obtain ⟨r, U1, hC, hR, hI1⟩ := h_has S U (xs (x3 + 1).toNatClampNeg) hI
  refine l_aload_n 450 C dL_law_450 rfl 1 rfl ?_
  refine l_aload_n 451 C dL_law_451 rfl 0 rfl ?_
  refine l_iload_n 452 C dL_law_452 rfl 3 rfl ?_
  refine l_iconst 453 C dL_law_453 ci_1 ?_
  refine l_iadd 454 C dL_law_454 ?_
  refine l_sld 455 C h1 dL_law_455 ?_
  refine l_callC 456 C 1 (As := [.int (xs (x3 + 1).toNatClampNeg)]) (rest := []) (M_X6_has l D a b S (xs (x3 + 1).toNatClampNeg) hC) (by rfl) rfl kw_418 mv_X6_has mh_X6_has ⟨rfl, rfl⟩ ⟨Nat.le_of_ble_eq_true rfl, Nat.le_of_ble_eq_true rfl⟩ rfl rfl (Nat.le_of_ble_eq_true rfl) dL_law_456 ?_
  refine l_aload_n 459 C dL_law_459 rfl 2 rfl ?_
  refine l_aload_n 460 C dL_law_460 rfl 0 rfl ?_
  refine l_iload_n 461 C dL_law_461 rfl 3 rfl ?_
  refine l_iconst 462 C dL_law_462 ci_1 ?_
  refine l_iadd 463 C dL_law_463 ?_
  refine l_sld 464 C h1 dL_law_464 ?_
  refine l_callR 465 C 1 (As := [.int (xs (x3 + 1).toNatClampNeg)]) (rest := [.int r]) (M_X7_has l D a' b' U (xs (x3 + 1).toNatClampNeg) hR) (by rfl) rfl kw_980 mv_X7_has mh_X7_has ⟨rfl, rfl⟩ ⟨Nat.le_of_ble_eq_true rfl, Nat.le_of_ble_eq_true rfl⟩ rfl rfl (Nat.le_of_ble_eq_true rfl) dL_law_465 ?_
  refine l_same 468 C 1162 dL_law_468 rfl ?_
  exact K _ _ hI1
set_option maxRecDepth 100000 in
set_option maxHeartbeats 4000000 in
theorem lw_gaps {l : Launch} {κ : XK} {D : va_G} {a : Nat → Nat} {b : Nat → ClassId} {a' : Nat → Nat} {b' : Nat → ClassId} {sb L : Nat} {xs : Nat → Int32} (C : LCx (l, κ, D, a, b, a', b', sb, L, xs)) {Inv : XSt → XSr → Prop} (h_gaps : St_gaps Inv) (x3 : Int32) (h1 : vp_in (x3 + 1) L) (h2 : vp_in (x3 + 2) L) (h3 : vp_in (x3 + 3) L) (h4 : vp_in (x3 + 4) L) (h5 : vp_in (x3 + 5) L) (S : XSt) (U : XSr) (hI : Inv S U)
    (K : ∀ S U, Inv S U → LAt (l, κ, D, a, b, a', b', sb, L, xs) 1162 [(0, .ref sb), (1, .ref (a 0)), (2, .ref (a' 0)), (3, .int x3)] [] S U) : LAt (l, κ, D, a, b, a', b', sb, L, xs) 473 [(0, .ref sb), (1, .ref (a 0)), (2, .ref (a' 0)), (3, .int x3)] [] S U := by
  obtain ⟨r, S1, U1, hC, hR, hI1⟩ := h_gaps S U (xs (x3 + 1).toNatClampNeg) (xs (x3 + 2).toNatClampNeg) hI
  refine l_aload_n 473 C dL_law_473 rfl 1 rfl ?_
  refine l_aload_n 474 C dL_law_474 rfl 0 rfl ?_
  refine l_iload_n 475 C dL_law_475 rfl 3 rfl ?_
  refine l_iconst 476 C dL_law_476 ci_1 ?_
  refine l_iadd 477 C dL_law_477 ?_
  refine l_sld 478 C h1 dL_law_478 ?_
  refine l_aload_n 479 C dL_law_479 rfl 0 rfl ?_
  refine l_iload_n 480 C dL_law_480 rfl 3 rfl ?_
  refine l_iconst 481 C dL_law_481 ci_2 ?_
  refine l_iadd 482 C dL_law_482 ?_
  refine l_sld 483 C h2 dL_law_483 ?_
  refine l_callC 484 C 2 (As := [.int (xs (x3 + 1).toNatClampNeg), .int (xs (x3 + 2).toNatClampNeg)]) (rest := []) (M_X6_gaps l D a b S (xs (x3 + 1).toNatClampNeg) (xs (x3 + 2).toNatClampNeg) hC) (by rfl) rfl kw_422 mv_X6_gaps mh_X6_gaps ⟨rfl, rfl⟩ ⟨Nat.le_of_ble_eq_true rfl, Nat.le_of_ble_eq_true rfl⟩ rfl rfl (Nat.le_of_ble_eq_true rfl) dL_law_484 ?_
  refine l_aload_n 487 C dL_law_487 rfl 2 rfl ?_
  refine l_aload_n 488 C dL_law_488 rfl 0 rfl ?_
  refine l_iload_n 489 C dL_law_489 rfl 3 rfl ?_
  refine l_iconst 490 C dL_law_490 ci_1 ?_
  refine l_iadd 491 C dL_law_491 ?_
  refine l_sld 492 C h1 dL_law_492 ?_
  refine l_aload_n 493 C dL_law_493 rfl 0 rfl ?_
  refine l_iload_n 494 C dL_law_494 rfl 3 rfl ?_
  refine l_iconst 495 C dL_law_495 ci_2 ?_
  refine l_iadd 496 C dL_law_496 ?_
  refine l_sld 497 C h2 dL_law_497 ?_
  refine l_callR 498 C 2 (As := [.int (xs (x3 + 1).toNatClampNeg), .int (xs (x3 + 2).toNatClampNeg)]) (rest := [.int r]) (M_X7_gaps l D a' b' U (xs (x3 + 1).toNatClampNeg) (xs (x3 + 2).toNatClampNeg) hR) (by rfl) rfl kw_988 mv_X7_gaps mh_X7_gaps ⟨rfl, rfl⟩ ⟨Nat.le_of_ble_eq_true rfl, Nat.le_of_ble_eq_true rfl⟩ rfl rfl (Nat.le_of_ble_eq_true rfl) dL_law_498 ?_
  refine l_same 501 C 1162 dL_law_501 rfl ?_
  exact K _ _ hI1
set_option maxRecDepth 100000 in
set_option maxHeartbeats 4000000 in
theorem lw_best {l : Launch} {κ : XK} {D : va_G} {a : Nat → Nat} {b : Nat → ClassId} {a' : Nat → Nat} {b' : Nat → ClassId} {sb L : Nat} {xs : Nat → Int32} (C : LCx (l, κ, D, a, b, a', b', sb, L, xs)) {Inv : XSt → XSr → Prop} (h_best : St_best Inv) (x3 : Int32) (h1 : vp_in (x3 + 1) L) (h2 : vp_in (x3 + 2) L) (h3 : vp_in (x3 + 3) L) (h4 : vp_in (x3 + 4) L) (h5 : vp_in (x3 + 5) L) (S : XSt) (U : XSr) (hI : Inv S U)
    (K : ∀ S U, Inv S U → LAt (l, κ, D, a, b, a', b', sb, L, xs) 1162 [(0, .ref sb), (1, .ref (a 0)), (2, .ref (a' 0)), (3, .int x3)] [] S U) : LAt (l, κ, D, a, b, a', b', sb, L, xs) 506 [(0, .ref sb), (1, .ref (a 0)), (2, .ref (a' 0)), (3, .int x3)] [] S U := by
  obtain ⟨r, S1, U1, hC, hR, hI1⟩ := h_best S U (xs (x3 + 1).toNatClampNeg) hI
  refine l_aload_n 506 C dL_law_506 rfl 1 rfl ?_
  refine l_aload_n 507 C dL_law_507 rfl 0 rfl ?_
  refine l_iload_n 508 C dL_law_508 rfl 3 rfl ?_
  refine l_iconst 509 C dL_law_509 ci_1 ?_
  refine l_iadd 510 C dL_law_510 ?_
  refine l_sld 511 C h1 dL_law_511 ?_
  refine l_callC 512 C 1 (As := [.int (xs (x3 + 1).toNatClampNeg)]) (rest := []) (M_X6_best l D a b S (xs (x3 + 1).toNatClampNeg) hC) (by rfl) rfl kw_449 mv_X6_best mh_X6_best ⟨rfl, rfl⟩ ⟨Nat.le_of_ble_eq_true rfl, Nat.le_of_ble_eq_true rfl⟩ rfl rfl (Nat.le_of_ble_eq_true rfl) dL_law_512 ?_
  refine l_aload_n 515 C dL_law_515 rfl 2 rfl ?_
  refine l_aload_n 516 C dL_law_516 rfl 0 rfl ?_
  refine l_iload_n 517 C dL_law_517 rfl 3 rfl ?_
  refine l_iconst 518 C dL_law_518 ci_1 ?_
  refine l_iadd 519 C dL_law_519 ?_
  refine l_sld 520 C h1 dL_law_520 ?_
  refine l_callR 521 C 1 (As := [.int (xs (x3 + 1).toNatClampNeg)]) (rest := [.int r]) (M_X7_best l D a' b' U (xs (x3 + 1).toNatClampNeg) hR) (by rfl) rfl kw_1007 mv_X7_best mh_X7_best ⟨rfl, rfl⟩ ⟨Nat.le_of_ble_eq_true rfl, Nat.le_of_ble_eq_true rfl⟩ rfl rfl (Nat.le_of_ble_eq_true rfl) dL_law_521 ?_
  refine l_same 524 C 1162 dL_law_524 rfl ?_
  exact K _ _ hI1
set_option maxRecDepth 100000 in
set_option maxHeartbeats 4000000 in
theorem lw_first {l : Launch} {κ : XK} {D : va_G} {a : Nat → Nat} {b : Nat → ClassId} {a' : Nat → Nat} {b' : Nat → ClassId} {sb L : Nat} {xs : Nat → Int32} (C : LCx (l, κ, D, a, b, a', b', sb, L, xs)) {Inv : XSt → XSr → Prop} (h_first : St_first Inv) (x3 : Int32) (h1 : vp_in (x3 + 1) L) (h2 : vp_in (x3 + 2) L) (h3 : vp_in (x3 + 3) L) (h4 : vp_in (x3 + 4) L) (h5 : vp_in (x3 + 5) L) (S : XSt) (U : XSr) (hI : Inv S U)
    (K : ∀ S U, Inv S U → LAt (l, κ, D, a, b, a', b', sb, L, xs) 1162 [(0, .ref sb), (1, .ref (a 0)), (2, .ref (a' 0)), (3, .int x3)] [] S U) : LAt (l, κ, D, a, b, a', b', sb, L, xs) 529 [(0, .ref sb), (1, .ref (a 0)), (2, .ref (a' 0)), (3, .int x3)] [] S U := by
  obtain ⟨r, S1, U1, hC, hR, hI1⟩ := h_first S U (xs (x3 + 1).toNatClampNeg) hI
  refine l_aload_n 529 C dL_law_529 rfl 1 rfl ?_
  refine l_aload_n 530 C dL_law_530 rfl 0 rfl ?_
  refine l_iload_n 531 C dL_law_531 rfl 3 rfl ?_
  refine l_iconst 532 C dL_law_532 ci_1 ?_
  refine l_iadd 533 C dL_law_533 ?_
  refine l_sld 534 C h1 dL_law_534 ?_
  refine l_callC 535 C 1 (As := [.int (xs (x3 + 1).toNatClampNeg)]) (rest := []) (M_X6_first l D a b S (xs (x3 + 1).toNatClampNeg) hC) (by rfl) rfl kw_512 mv_X6_first mh_X6_first ⟨rfl, rfl⟩ ⟨Nat.le_of_ble_eq_true rfl, Nat.le_of_ble_eq_true rfl⟩ rfl rfl (Nat.le_of_ble_eq_true rfl) dL_law_535 ?_
  refine l_aload_n 538 C dL_law_538 rfl 2 rfl ?_
  refine l_aload_n 539 C dL_law_539 rfl 0 rfl ?_
  refine l_iload_n 540 C dL_law_540 rfl 3 rfl ?_
  refine l_iconst 541 C dL_law_541 ci_1 ?_
  refine l_iadd 542 C dL_law_542 ?_
  refine l_sld 543 C h1 dL_law_543 ?_
  refine l_callR 544 C 1 (As := [.int (xs (x3 + 1).toNatClampNeg)]) (rest := [.int r]) (M_X7_first l D a' b' U (xs (x3 + 1).toNatClampNeg) hR) (by rfl) rfl kw_1043 mv_X7_first mh_X7_first ⟨rfl, rfl⟩ ⟨Nat.le_of_ble_eq_true rfl, Nat.le_of_ble_eq_true rfl⟩ rfl rfl (Nat.le_of_ble_eq_true rfl) dL_law_544 ?_
  refine l_same 547 C 1162 dL_law_547 rfl ?_
  exact K _ _ hI1
set_option maxRecDepth 100000 in
set_option maxHeartbeats 4000000 in
theorem lw_sure {l : Launch} {κ : XK} {D : va_G} {a : Nat → Nat} {b : Nat → ClassId} {a' : Nat → Nat} {b' : Nat → ClassId} {sb L : Nat} {xs : Nat → Int32} (C : LCx (l, κ, D, a, b, a', b', sb, L, xs)) {Inv : XSt → XSr → Prop} (h_sure : St_sure Inv) (x3 : Int32) (h1 : vp_in (x3 + 1) L) (h2 : vp_in (x3 + 2) L) (h3 : vp_in (x3 + 3) L) (h4 : vp_in (x3 + 4) L) (h5 : vp_in (x3 + 5) L) (S : XSt) (U : XSr) (hI : Inv S U)
    (K : ∀ S U, Inv S U → LAt (l, κ, D, a, b, a', b', sb, L, xs) 1162 [(0, .ref sb), (1, .ref (a 0)), (2, .ref (a' 0)), (3, .int x3)] [] S U) : LAt (l, κ, D, a, b, a', b', sb, L, xs) 552 [(0, .ref sb), (1, .ref (a 0)), (2, .ref (a' 0)), (3, .int x3)] [] S U := by
  obtain ⟨r, S1, U1, hC, hR, hI1⟩ := h_sure S U (xs (x3 + 1).toNatClampNeg) (xs (x3 + 2).toNatClampNeg) hI
  refine l_aload_n 552 C dL_law_552 rfl 1 rfl ?_
  refine l_aload_n 553 C dL_law_553 rfl 0 rfl ?_
  refine l_iload_n 554 C dL_law_554 rfl 3 rfl ?_
  refine l_iconst 555 C dL_law_555 ci_1 ?_
  refine l_iadd 556 C dL_law_556 ?_
  refine l_sld 557 C h1 dL_law_557 ?_
  refine l_aload_n 558 C dL_law_558 rfl 0 rfl ?_
  refine l_iload_n 559 C dL_law_559 rfl 3 rfl ?_
  refine l_iconst 560 C dL_law_560 ci_2 ?_
  refine l_iadd 561 C dL_law_561 ?_
  refine l_sld 562 C h2 dL_law_562 ?_
  refine l_callC 563 C 2 (As := [.int (xs (x3 + 1).toNatClampNeg), .int (xs (x3 + 2).toNatClampNeg)]) (rest := []) (M_X6_sure l D a b S (xs (x3 + 1).toNatClampNeg) (xs (x3 + 2).toNatClampNeg) hC) (by rfl) rfl kw_516 mv_X6_sure mh_X6_sure ⟨rfl, rfl⟩ ⟨Nat.le_of_ble_eq_true rfl, Nat.le_of_ble_eq_true rfl⟩ rfl rfl (Nat.le_of_ble_eq_true rfl) dL_law_563 ?_
  refine l_aload_n 566 C dL_law_566 rfl 2 rfl ?_
  refine l_aload_n 567 C dL_law_567 rfl 0 rfl ?_
  refine l_iload_n 568 C dL_law_568 rfl 3 rfl ?_
  refine l_iconst 569 C dL_law_569 ci_1 ?_
  refine l_iadd 570 C dL_law_570 ?_
  refine l_sld 571 C h1 dL_law_571 ?_
  refine l_aload_n 572 C dL_law_572 rfl 0 rfl ?_
  refine l_iload_n 573 C dL_law_573 rfl 3 rfl ?_
  refine l_iconst 574 C dL_law_574 ci_2 ?_
  refine l_iadd 575 C dL_law_575 ?_
  refine l_sld 576 C h2 dL_law_576 ?_
  refine l_callR 577 C 2 (As := [.int (xs (x3 + 1).toNatClampNeg), .int (xs (x3 + 2).toNatClampNeg)]) (rest := [.int r]) (M_X7_sure l D a' b' U (xs (x3 + 1).toNatClampNeg) (xs (x3 + 2).toNatClampNeg) hR) (by rfl) rfl kw_1051 mv_X7_sure mh_X7_sure ⟨rfl, rfl⟩ ⟨Nat.le_of_ble_eq_true rfl, Nat.le_of_ble_eq_true rfl⟩ rfl rfl (Nat.le_of_ble_eq_true rfl) dL_law_577 ?_
  refine l_same 580 C 1162 dL_law_580 rfl ?_
  exact K _ _ hI1
set_option maxRecDepth 100000 in
set_option maxHeartbeats 4000000 in
theorem lw_places {l : Launch} {κ : XK} {D : va_G} {a : Nat → Nat} {b : Nat → ClassId} {a' : Nat → Nat} {b' : Nat → ClassId} {sb L : Nat} {xs : Nat → Int32} (C : LCx (l, κ, D, a, b, a', b', sb, L, xs)) {Inv : XSt → XSr → Prop} (h_places : St_places Inv) (x3 : Int32) (h1 : vp_in (x3 + 1) L) (h2 : vp_in (x3 + 2) L) (h3 : vp_in (x3 + 3) L) (h4 : vp_in (x3 + 4) L) (h5 : vp_in (x3 + 5) L) (S : XSt) (U : XSr) (hI : Inv S U)
    (K : ∀ S U, Inv S U → LAt (l, κ, D, a, b, a', b', sb, L, xs) 1162 [(0, .ref sb), (1, .ref (a 0)), (2, .ref (a' 0)), (3, .int x3)] [] S U) : LAt (l, κ, D, a, b, a', b', sb, L, xs) 585 [(0, .ref sb), (1, .ref (a 0)), (2, .ref (a' 0)), (3, .int x3)] [] S U := by
  obtain ⟨r, S1, U1, hC, hR, hI1⟩ := h_places S U (xs (x3 + 1).toNatClampNeg) hI
  refine l_aload_n 585 C dL_law_585 rfl 1 rfl ?_
  refine l_aload_n 586 C dL_law_586 rfl 0 rfl ?_
  refine l_iload_n 587 C dL_law_587 rfl 3 rfl ?_
  refine l_iconst 588 C dL_law_588 ci_1 ?_
  refine l_iadd 589 C dL_law_589 ?_
  refine l_sld 590 C h1 dL_law_590 ?_
  refine l_callC 591 C 1 (As := [.int (xs (x3 + 1).toNatClampNeg)]) (rest := []) (M_X6_places l D a b S (xs (x3 + 1).toNatClampNeg) hC) (by rfl) rfl kw_524 mv_X6_places mh_X6_places ⟨rfl, rfl⟩ ⟨Nat.le_of_ble_eq_true rfl, Nat.le_of_ble_eq_true rfl⟩ rfl rfl (Nat.le_of_ble_eq_true rfl) dL_law_591 ?_
  refine l_aload_n 594 C dL_law_594 rfl 2 rfl ?_
  refine l_aload_n 595 C dL_law_595 rfl 0 rfl ?_
  refine l_iload_n 596 C dL_law_596 rfl 3 rfl ?_
  refine l_iconst 597 C dL_law_597 ci_1 ?_
  refine l_iadd 598 C dL_law_598 ?_
  refine l_sld 599 C h1 dL_law_599 ?_
  refine l_callR 600 C 1 (As := [.int (xs (x3 + 1).toNatClampNeg)]) (rest := [.int r]) (M_X7_places l D a' b' U (xs (x3 + 1).toNatClampNeg) hR) (by rfl) rfl kw_1055 mv_X7_places mh_X7_places ⟨rfl, rfl⟩ ⟨Nat.le_of_ble_eq_true rfl, Nat.le_of_ble_eq_true rfl⟩ rfl rfl (Nat.le_of_ble_eq_true rfl) dL_law_600 ?_
  refine l_same 603 C 1162 dL_law_603 rfl ?_
  exact K _ _ hI1
set_option maxRecDepth 100000 in
set_option maxHeartbeats 4000000 in
theorem lw_spread {l : Launch} {κ : XK} {D : va_G} {a : Nat → Nat} {b : Nat → ClassId} {a' : Nat → Nat} {b' : Nat → ClassId} {sb L : Nat} {xs : Nat → Int32} (C : LCx (l, κ, D, a, b, a', b', sb, L, xs)) {Inv : XSt → XSr → Prop} (h_spread : St_spread Inv) (x3 : Int32) (h1 : vp_in (x3 + 1) L) (h2 : vp_in (x3 + 2) L) (h3 : vp_in (x3 + 3) L) (h4 : vp_in (x3 + 4) L) (h5 : vp_in (x3 + 5) L) (S : XSt) (U : XSr) (hI : Inv S U)
    (K : ∀ S U, Inv S U → LAt (l, κ, D, a, b, a', b', sb, L, xs) 1162 [(0, .ref sb), (1, .ref (a 0)), (2, .ref (a' 0)), (3, .int x3)] [] S U) : LAt (l, κ, D, a, b, a', b', sb, L, xs) 608 [(0, .ref sb), (1, .ref (a 0)), (2, .ref (a' 0)), (3, .int x3)] [] S U := by
  obtain ⟨r, S1, U1, hC, hR, hI1⟩ := h_spread S U (xs (x3 + 1).toNatClampNeg) (xs (x3 + 2).toNatClampNeg) hI
  refine l_aload_n 608 C dL_law_608 rfl 1 rfl ?_
  refine l_aload_n 609 C dL_law_609 rfl 0 rfl ?_
  refine l_iload_n 610 C dL_law_610 rfl 3 rfl ?_
  refine l_iconst 611 C dL_law_611 ci_1 ?_
  refine l_iadd 612 C dL_law_612 ?_
  refine l_sld 613 C h1 dL_law_613 ?_
  refine l_aload_n 614 C dL_law_614 rfl 0 rfl ?_
  refine l_iload_n 615 C dL_law_615 rfl 3 rfl ?_
  refine l_iconst 616 C dL_law_616 ci_2 ?_
  refine l_iadd 617 C dL_law_617 ?_
  refine l_sld 618 C h2 dL_law_618 ?_
  refine l_callC 619 C 2 (As := [.int (xs (x3 + 1).toNatClampNeg), .int (xs (x3 + 2).toNatClampNeg)]) (rest := []) (M_X6_spread l D a b S (xs (x3 + 1).toNatClampNeg) (xs (x3 + 2).toNatClampNeg) hC) (by rfl) rfl kw_533 mv_X6_spread mh_X6_spread ⟨rfl, rfl⟩ ⟨Nat.le_of_ble_eq_true rfl, Nat.le_of_ble_eq_true rfl⟩ rfl rfl (Nat.le_of_ble_eq_true rfl) dL_law_619 ?_
  refine l_aload_n 622 C dL_law_622 rfl 2 rfl ?_
  refine l_aload_n 623 C dL_law_623 rfl 0 rfl ?_
  refine l_iload_n 624 C dL_law_624 rfl 3 rfl ?_
  refine l_iconst 625 C dL_law_625 ci_1 ?_
  refine l_iadd 626 C dL_law_626 ?_
  refine l_sld 627 C h1 dL_law_627 ?_
  refine l_aload_n 628 C dL_law_628 rfl 0 rfl ?_
  refine l_iload_n 629 C dL_law_629 rfl 3 rfl ?_
  refine l_iconst 630 C dL_law_630 ci_2 ?_
  refine l_iadd 631 C dL_law_631 ?_
  refine l_sld 632 C h2 dL_law_632 ?_
  refine l_callR 633 C 2 (As := [.int (xs (x3 + 1).toNatClampNeg), .int (xs (x3 + 2).toNatClampNeg)]) (rest := [.int r]) (M_X7_spread l D a' b' U (xs (x3 + 1).toNatClampNeg) (xs (x3 + 2).toNatClampNeg) hR) (by rfl) rfl kw_1063 mv_X7_spread mh_X7_spread ⟨rfl, rfl⟩ ⟨Nat.le_of_ble_eq_true rfl, Nat.le_of_ble_eq_true rfl⟩ rfl rfl (Nat.le_of_ble_eq_true rfl) dL_law_633 ?_
  refine l_same 636 C 1162 dL_law_636 rfl ?_
  exact K _ _ hI1
set_option maxRecDepth 100000 in
set_option maxHeartbeats 4000000 in
theorem lw_mean {l : Launch} {κ : XK} {D : va_G} {a : Nat → Nat} {b : Nat → ClassId} {a' : Nat → Nat} {b' : Nat → ClassId} {sb L : Nat} {xs : Nat → Int32} (C : LCx (l, κ, D, a, b, a', b', sb, L, xs)) {Inv : XSt → XSr → Prop} (h_mean : St_mean Inv) (x3 : Int32) (h1 : vp_in (x3 + 1) L) (h2 : vp_in (x3 + 2) L) (h3 : vp_in (x3 + 3) L) (h4 : vp_in (x3 + 4) L) (h5 : vp_in (x3 + 5) L) (S : XSt) (U : XSr) (hI : Inv S U)
    (K : ∀ S U, Inv S U → LAt (l, κ, D, a, b, a', b', sb, L, xs) 1162 [(0, .ref sb), (1, .ref (a 0)), (2, .ref (a' 0)), (3, .int x3)] [] S U) : LAt (l, κ, D, a, b, a', b', sb, L, xs) 641 [(0, .ref sb), (1, .ref (a 0)), (2, .ref (a' 0)), (3, .int x3)] [] S U := by
  obtain ⟨r, S1, U1, hC, hR, hI1⟩ := h_mean S U (xs (x3 + 1).toNatClampNeg) hI
  refine l_aload_n 641 C dL_law_641 rfl 1 rfl ?_
  refine l_aload_n 642 C dL_law_642 rfl 0 rfl ?_
  refine l_iload_n 643 C dL_law_643 rfl 3 rfl ?_
  refine l_iconst 644 C dL_law_644 ci_1 ?_
  refine l_iadd 645 C dL_law_645 ?_
  refine l_sld 646 C h1 dL_law_646 ?_
  refine l_callC 647 C 1 (As := [.int (xs (x3 + 1).toNatClampNeg)]) (rest := []) (M_X6_mean l D a b S (xs (x3 + 1).toNatClampNeg) hC) (by rfl) rfl kw_556 mv_X6_mean mh_X6_mean ⟨rfl, rfl⟩ ⟨Nat.le_of_ble_eq_true rfl, Nat.le_of_ble_eq_true rfl⟩ rfl rfl (Nat.le_of_ble_eq_true rfl) dL_law_647 ?_
  refine l_aload_n 650 C dL_law_650 rfl 2 rfl ?_
  refine l_aload_n 651 C dL_law_651 rfl 0 rfl ?_
  refine l_iload_n 652 C dL_law_652 rfl 3 rfl ?_
  refine l_iconst 653 C dL_law_653 ci_1 ?_
  refine l_iadd 654 C dL_law_654 ?_
  refine l_sld 655 C h1 dL_law_655 ?_
  refine l_callR 656 C 1 (As := [.int (xs (x3 + 1).toNatClampNeg)]) (rest := [.long r]) (M_X7_mean l D a' b' U (xs (x3 + 1).toNatClampNeg) hR) (by rfl) rfl kw_1071 mv_X7_mean mh_X7_mean ⟨rfl, rfl⟩ ⟨Nat.le_of_ble_eq_true rfl, Nat.le_of_ble_eq_true rfl⟩ rfl rfl (Nat.le_of_ble_eq_true rfl) dL_law_656 ?_
  refine l_lcmp 659 C dL_law_659 ?_
  refine l_samel 660 C 1162 dL_law_660 rfl ?_
  exact K _ _ hI1
set_option maxRecDepth 100000 in
set_option maxHeartbeats 4000000 in
theorem lw_leftOut {l : Launch} {κ : XK} {D : va_G} {a : Nat → Nat} {b : Nat → ClassId} {a' : Nat → Nat} {b' : Nat → ClassId} {sb L : Nat} {xs : Nat → Int32} (C : LCx (l, κ, D, a, b, a', b', sb, L, xs)) {Inv : XSt → XSr → Prop} (h_leftOut : St_leftOut Inv) (x3 : Int32) (h1 : vp_in (x3 + 1) L) (h2 : vp_in (x3 + 2) L) (h3 : vp_in (x3 + 3) L) (h4 : vp_in (x3 + 4) L) (h5 : vp_in (x3 + 5) L) (S : XSt) (U : XSr) (hI : Inv S U)
    (K : ∀ S U, Inv S U → LAt (l, κ, D, a, b, a', b', sb, L, xs) 1162 [(0, .ref sb), (1, .ref (a 0)), (2, .ref (a' 0)), (3, .int x3)] [] S U) : LAt (l, κ, D, a, b, a', b', sb, L, xs) 665 [(0, .ref sb), (1, .ref (a 0)), (2, .ref (a' 0)), (3, .int x3)] [] S U := by
  obtain ⟨r, S1, U1, hC, hR, hI1⟩ := h_leftOut S U  hI
  refine l_aload_n 665 C dL_law_665 rfl 1 rfl ?_
  refine l_callC 666 C 0 (As := []) (rest := []) (M_X6_leftOut l D a b S  hC) (by rfl) rfl kw_575 mv_X6_leftOut mh_X6_leftOut ⟨rfl, rfl⟩ ⟨Nat.le_of_ble_eq_true rfl, Nat.le_of_ble_eq_true rfl⟩ rfl rfl (Nat.le_of_ble_eq_true rfl) dL_law_666 ?_
  refine l_aload_n 669 C dL_law_669 rfl 2 rfl ?_
  refine l_callR 670 C 0 (As := []) (rest := [.int r]) (M_X7_leftOut l D a' b' U  hR) (by rfl) rfl kw_1086 mv_X7_leftOut mh_X7_leftOut ⟨rfl, rfl⟩ ⟨Nat.le_of_ble_eq_true rfl, Nat.le_of_ble_eq_true rfl⟩ rfl rfl (Nat.le_of_ble_eq_true rfl) dL_law_670 ?_
  refine l_same 673 C 1162 dL_law_673 rfl ?_
  exact K _ _ hI1
set_option maxRecDepth 100000 in
set_option maxHeartbeats 4000000 in
theorem lw_mended {l : Launch} {κ : XK} {D : va_G} {a : Nat → Nat} {b : Nat → ClassId} {a' : Nat → Nat} {b' : Nat → ClassId} {sb L : Nat} {xs : Nat → Int32} (C : LCx (l, κ, D, a, b, a', b', sb, L, xs)) {Inv : XSt → XSr → Prop} (h_mended : St_mended Inv) (x3 : Int32) (h1 : vp_in (x3 + 1) L) (h2 : vp_in (x3 + 2) L) (h3 : vp_in (x3 + 3) L) (h4 : vp_in (x3 + 4) L) (h5 : vp_in (x3 + 5) L) (S : XSt) (U : XSr) (hI : Inv S U)
    (K : ∀ S U, Inv S U → LAt (l, κ, D, a, b, a', b', sb, L, xs) 1162 [(0, .ref sb), (1, .ref (a 0)), (2, .ref (a' 0)), (3, .int x3)] [] S U) : LAt (l, κ, D, a, b, a', b', sb, L, xs) 678 [(0, .ref sb), (1, .ref (a 0)), (2, .ref (a' 0)), (3, .int x3)] [] S U := by
  obtain ⟨r, S1, U1, hC, hR, hI1⟩ := h_mended S U (xs (x3 + 1).toNatClampNeg) hI
  refine l_aload_n 678 C dL_law_678 rfl 1 rfl ?_
  refine l_aload_n 679 C dL_law_679 rfl 0 rfl ?_
  refine l_iload_n 680 C dL_law_680 rfl 3 rfl ?_
  refine l_iconst 681 C dL_law_681 ci_1 ?_
  refine l_iadd 682 C dL_law_682 ?_
  refine l_sld 683 C h1 dL_law_683 ?_
  refine l_callC 684 C 1 (As := [.int (xs (x3 + 1).toNatClampNeg)]) (rest := []) (M_X6_mended l D a b S (xs (x3 + 1).toNatClampNeg) hC) (by rfl) rfl kw_595 mv_X6_mended mh_X6_mended ⟨rfl, rfl⟩ ⟨Nat.le_of_ble_eq_true rfl, Nat.le_of_ble_eq_true rfl⟩ rfl rfl (Nat.le_of_ble_eq_true rfl) dL_law_684 ?_
  refine l_aload_n 687 C dL_law_687 rfl 2 rfl ?_
  refine l_aload_n 688 C dL_law_688 rfl 0 rfl ?_
  refine l_iload_n 689 C dL_law_689 rfl 3 rfl ?_
  refine l_iconst 690 C dL_law_690 ci_1 ?_
  refine l_iadd 691 C dL_law_691 ?_
  refine l_sld 692 C h1 dL_law_692 ?_
  refine l_callR 693 C 1 (As := [.int (xs (x3 + 1).toNatClampNeg)]) (rest := [.int r]) (M_X7_mended l D a' b' U (xs (x3 + 1).toNatClampNeg) hR) (by rfl) rfl kw_1094 mv_X7_mended mh_X7_mended ⟨rfl, rfl⟩ ⟨Nat.le_of_ble_eq_true rfl, Nat.le_of_ble_eq_true rfl⟩ rfl rfl (Nat.le_of_ble_eq_true rfl) dL_law_693 ?_
  refine l_same 696 C 1162 dL_law_696 rfl ?_
  exact K _ _ hI1
set_option maxRecDepth 100000 in
set_option maxHeartbeats 4000000 in
theorem lw_phases {l : Launch} {κ : XK} {D : va_G} {a : Nat → Nat} {b : Nat → ClassId} {a' : Nat → Nat} {b' : Nat → ClassId} {sb L : Nat} {xs : Nat → Int32} (C : LCx (l, κ, D, a, b, a', b', sb, L, xs)) {Inv : XSt → XSr → Prop} (h_phases : St_phases Inv) (x3 : Int32) (h1 : vp_in (x3 + 1) L) (h2 : vp_in (x3 + 2) L) (h3 : vp_in (x3 + 3) L) (h4 : vp_in (x3 + 4) L) (h5 : vp_in (x3 + 5) L) (S : XSt) (U : XSr) (hI : Inv S U)
    (K : ∀ S U, Inv S U → LAt (l, κ, D, a, b, a', b', sb, L, xs) 1162 [(0, .ref sb), (1, .ref (a 0)), (2, .ref (a' 0)), (3, .int x3)] [] S U) : LAt (l, κ, D, a, b, a', b', sb, L, xs) 701 [(0, .ref sb), (1, .ref (a 0)), (2, .ref (a' 0)), (3, .int x3)] [] S U := by
  obtain ⟨r, S1, U1, hC, hR, hI1⟩ := h_phases S U (xs (x3 + 1).toNatClampNeg) (xs (x3 + 2).toNatClampNeg) hI
  refine l_aload_n 701 C dL_law_701 rfl 1 rfl ?_
  refine l_aload_n 702 C dL_law_702 rfl 0 rfl ?_
  refine l_iload_n 703 C dL_law_703 rfl 3 rfl ?_
  refine l_iconst 704 C dL_law_704 ci_1 ?_
  refine l_iadd 705 C dL_law_705 ?_
  refine l_sld 706 C h1 dL_law_706 ?_
  refine l_aload_n 707 C dL_law_707 rfl 0 rfl ?_
  refine l_iload_n 708 C dL_law_708 rfl 3 rfl ?_
  refine l_iconst 709 C dL_law_709 ci_2 ?_
  refine l_iadd 710 C dL_law_710 ?_
  refine l_sld 711 C h2 dL_law_711 ?_
  refine l_callC 712 C 2 (As := [.int (xs (x3 + 1).toNatClampNeg), .int (xs (x3 + 2).toNatClampNeg)]) (rest := []) (M_X6_phases l D a b S (xs (x3 + 1).toNatClampNeg) (xs (x3 + 2).toNatClampNeg) hC) (by rfl) rfl kw_616 mv_X6_phases mh_X6_phases ⟨rfl, rfl⟩ ⟨Nat.le_of_ble_eq_true rfl, Nat.le_of_ble_eq_true rfl⟩ rfl rfl (Nat.le_of_ble_eq_true rfl) dL_law_712 ?_
  refine l_aload_n 715 C dL_law_715 rfl 2 rfl ?_
  refine l_aload_n 716 C dL_law_716 rfl 0 rfl ?_
  refine l_iload_n 717 C dL_law_717 rfl 3 rfl ?_
  refine l_iconst 718 C dL_law_718 ci_1 ?_
  refine l_iadd 719 C dL_law_719 ?_
  refine l_sld 720 C h1 dL_law_720 ?_
  refine l_aload_n 721 C dL_law_721 rfl 0 rfl ?_
  refine l_iload_n 722 C dL_law_722 rfl 3 rfl ?_
  refine l_iconst 723 C dL_law_723 ci_2 ?_
  refine l_iadd 724 C dL_law_724 ?_
  refine l_sld 725 C h2 dL_law_725 ?_
  refine l_callR 726 C 2 (As := [.int (xs (x3 + 1).toNatClampNeg), .int (xs (x3 + 2).toNatClampNeg)]) (rest := [.int r]) (M_X7_phases l D a' b' U (xs (x3 + 1).toNatClampNeg) (xs (x3 + 2).toNatClampNeg) hR) (by rfl) rfl kw_1102 mv_X7_phases mh_X7_phases ⟨rfl, rfl⟩ ⟨Nat.le_of_ble_eq_true rfl, Nat.le_of_ble_eq_true rfl⟩ rfl rfl (Nat.le_of_ble_eq_true rfl) dL_law_726 ?_
  refine l_same 729 C 1162 dL_law_729 rfl ?_
  exact K _ _ hI1
set_option maxRecDepth 100000 in
set_option maxHeartbeats 4000000 in
theorem lw_years {l : Launch} {κ : XK} {D : va_G} {a : Nat → Nat} {b : Nat → ClassId} {a' : Nat → Nat} {b' : Nat → ClassId} {sb L : Nat} {xs : Nat → Int32} (C : LCx (l, κ, D, a, b, a', b', sb, L, xs)) {Inv : XSt → XSr → Prop} (h_years : St_years Inv) (x3 : Int32) (h1 : vp_in (x3 + 1) L) (h2 : vp_in (x3 + 2) L) (h3 : vp_in (x3 + 3) L) (h4 : vp_in (x3 + 4) L) (h5 : vp_in (x3 + 5) L) (S : XSt) (U : XSr) (hI : Inv S U)
    (K : ∀ S U, Inv S U → LAt (l, κ, D, a, b, a', b', sb, L, xs) 1162 [(0, .ref sb), (1, .ref (a 0)), (2, .ref (a' 0)), (3, .int x3)] [] S U) : LAt (l, κ, D, a, b, a', b', sb, L, xs) 734 [(0, .ref sb), (1, .ref (a 0)), (2, .ref (a' 0)), (3, .int x3)] [] S U := by
  obtain ⟨r, S1, U1, hC, hR, hI1⟩ := h_years S U (xs (x3 + 1).toNatClampNeg) (xs (x3 + 2).toNatClampNeg) (xs (x3 + 3).toNatClampNeg) hI
  refine l_aload_n 734 C dL_law_734 rfl 1 rfl ?_
  refine l_aload_n 735 C dL_law_735 rfl 0 rfl ?_
  refine l_iload_n 736 C dL_law_736 rfl 3 rfl ?_
  refine l_iconst 737 C dL_law_737 ci_1 ?_
  refine l_iadd 738 C dL_law_738 ?_
  refine l_sld 739 C h1 dL_law_739 ?_
  refine l_aload_n 740 C dL_law_740 rfl 0 rfl ?_
  refine l_iload_n 741 C dL_law_741 rfl 3 rfl ?_
  refine l_iconst 742 C dL_law_742 ci_2 ?_
  refine l_iadd 743 C dL_law_743 ?_
  refine l_sld 744 C h2 dL_law_744 ?_
  refine l_aload_n 745 C dL_law_745 rfl 0 rfl ?_
  refine l_iload_n 746 C dL_law_746 rfl 3 rfl ?_
  refine l_iconst 747 C dL_law_747 ci_3 ?_
  refine l_iadd 748 C dL_law_748 ?_
  refine l_sld 749 C h3 dL_law_749 ?_
  refine l_callC 750 C 3 (As := [.int (xs (x3 + 1).toNatClampNeg), .int (xs (x3 + 2).toNatClampNeg), .int (xs (x3 + 3).toNatClampNeg)]) (rest := []) (M_X6_years l D a b S (xs (x3 + 1).toNatClampNeg) (xs (x3 + 2).toNatClampNeg) (xs (x3 + 3).toNatClampNeg) hC) (by rfl) rfl kw_648 mv_X6_years mh_X6_years ⟨rfl, rfl⟩ ⟨Nat.le_of_ble_eq_true rfl, Nat.le_of_ble_eq_true rfl⟩ rfl rfl (Nat.le_of_ble_eq_true rfl) dL_law_750 ?_
  refine l_aload_n 753 C dL_law_753 rfl 2 rfl ?_
  refine l_aload_n 754 C dL_law_754 rfl 0 rfl ?_
  refine l_iload_n 755 C dL_law_755 rfl 3 rfl ?_
  refine l_iconst 756 C dL_law_756 ci_1 ?_
  refine l_iadd 757 C dL_law_757 ?_
  refine l_sld 758 C h1 dL_law_758 ?_
  refine l_aload_n 759 C dL_law_759 rfl 0 rfl ?_
  refine l_iload_n 760 C dL_law_760 rfl 3 rfl ?_
  refine l_iconst 761 C dL_law_761 ci_2 ?_
  refine l_iadd 762 C dL_law_762 ?_
  refine l_sld 763 C h2 dL_law_763 ?_
  refine l_aload_n 764 C dL_law_764 rfl 0 rfl ?_
  refine l_iload_n 765 C dL_law_765 rfl 3 rfl ?_
  refine l_iconst 766 C dL_law_766 ci_3 ?_
  refine l_iadd 767 C dL_law_767 ?_
  refine l_sld 768 C h3 dL_law_768 ?_
  refine l_callR 769 C 3 (As := [.int (xs (x3 + 1).toNatClampNeg), .int (xs (x3 + 2).toNatClampNeg), .int (xs (x3 + 3).toNatClampNeg)]) (rest := [.int r]) (M_X7_years l D a' b' U (xs (x3 + 1).toNatClampNeg) (xs (x3 + 2).toNatClampNeg) (xs (x3 + 3).toNatClampNeg) hR) (by rfl) rfl kw_1118 mv_X7_years mh_X7_years ⟨rfl, rfl⟩ ⟨Nat.le_of_ble_eq_true rfl, Nat.le_of_ble_eq_true rfl⟩ rfl rfl (Nat.le_of_ble_eq_true rfl) dL_law_769 ?_
  refine l_same 772 C 1162 dL_law_772 rfl ?_
  exact K _ _ hI1
set_option maxRecDepth 100000 in
set_option maxHeartbeats 4000000 in
theorem lw_fresh {l : Launch} {κ : XK} {D : va_G} {a : Nat → Nat} {b : Nat → ClassId} {a' : Nat → Nat} {b' : Nat → ClassId} {sb L : Nat} {xs : Nat → Int32} (C : LCx (l, κ, D, a, b, a', b', sb, L, xs)) {Inv : XSt → XSr → Prop} (h_fresh : St_fresh Inv) (x3 : Int32) (h1 : vp_in (x3 + 1) L) (h2 : vp_in (x3 + 2) L) (h3 : vp_in (x3 + 3) L) (h4 : vp_in (x3 + 4) L) (h5 : vp_in (x3 + 5) L) (S : XSt) (U : XSr) (hI : Inv S U)
    (K : ∀ S U, Inv S U → LAt (l, κ, D, a, b, a', b', sb, L, xs) 1162 [(0, .ref sb), (1, .ref (a 0)), (2, .ref (a' 0)), (3, .int x3)] [] S U) : LAt (l, κ, D, a, b, a', b', sb, L, xs) 777 [(0, .ref sb), (1, .ref (a 0)), (2, .ref (a' 0)), (3, .int x3)] [] S U := by
  obtain ⟨r, S1, U1, hC, hR, hI1⟩ := h_fresh S U (xs (x3 + 1).toNatClampNeg) (xs (x3 + 2).toNatClampNeg) hI
  refine l_aload_n 777 C dL_law_777 rfl 1 rfl ?_
  refine l_aload_n 778 C dL_law_778 rfl 0 rfl ?_
  refine l_iload_n 779 C dL_law_779 rfl 3 rfl ?_
  refine l_iconst 780 C dL_law_780 ci_1 ?_
  refine l_iadd 781 C dL_law_781 ?_
  refine l_sld 782 C h1 dL_law_782 ?_
  refine l_aload_n 783 C dL_law_783 rfl 0 rfl ?_
  refine l_iload_n 784 C dL_law_784 rfl 3 rfl ?_
  refine l_iconst 785 C dL_law_785 ci_2 ?_
  refine l_iadd 786 C dL_law_786 ?_
  refine l_sld 787 C h2 dL_law_787 ?_
  refine l_callC 788 C 2 (As := [.int (xs (x3 + 1).toNatClampNeg), .int (xs (x3 + 2).toNatClampNeg)]) (rest := []) (M_X6_fresh l D a b S (xs (x3 + 1).toNatClampNeg) (xs (x3 + 2).toNatClampNeg) hC) (by rfl) rfl kw_662 mv_X6_fresh mh_X6_fresh ⟨rfl, rfl⟩ ⟨Nat.le_of_ble_eq_true rfl, Nat.le_of_ble_eq_true rfl⟩ rfl rfl (Nat.le_of_ble_eq_true rfl) dL_law_788 ?_
  refine l_aload_n 791 C dL_law_791 rfl 2 rfl ?_
  refine l_aload_n 792 C dL_law_792 rfl 0 rfl ?_
  refine l_iload_n 793 C dL_law_793 rfl 3 rfl ?_
  refine l_iconst 794 C dL_law_794 ci_1 ?_
  refine l_iadd 795 C dL_law_795 ?_
  refine l_sld 796 C h1 dL_law_796 ?_
  refine l_aload_n 797 C dL_law_797 rfl 0 rfl ?_
  refine l_iload_n 798 C dL_law_798 rfl 3 rfl ?_
  refine l_iconst 799 C dL_law_799 ci_2 ?_
  refine l_iadd 800 C dL_law_800 ?_
  refine l_sld 801 C h2 dL_law_801 ?_
  refine l_callR 802 C 2 (As := [.int (xs (x3 + 1).toNatClampNeg), .int (xs (x3 + 2).toNatClampNeg)]) (rest := [.int r]) (M_X7_fresh l D a' b' U (xs (x3 + 1).toNatClampNeg) (xs (x3 + 2).toNatClampNeg) hR) (by rfl) rfl kw_1130 mv_X7_fresh mh_X7_fresh ⟨rfl, rfl⟩ ⟨Nat.le_of_ble_eq_true rfl, Nat.le_of_ble_eq_true rfl⟩ rfl rfl (Nat.le_of_ble_eq_true rfl) dL_law_802 ?_
  refine l_same 805 C 1162 dL_law_805 rfl ?_
  exact K _ _ hI1
set_option maxRecDepth 100000 in
set_option maxHeartbeats 4000000 in
theorem lw_alike {l : Launch} {κ : XK} {D : va_G} {a : Nat → Nat} {b : Nat → ClassId} {a' : Nat → Nat} {b' : Nat → ClassId} {sb L : Nat} {xs : Nat → Int32} (C : LCx (l, κ, D, a, b, a', b', sb, L, xs)) {Inv : XSt → XSr → Prop} (h_alike : St_alike Inv) (x3 : Int32) (h1 : vp_in (x3 + 1) L) (h2 : vp_in (x3 + 2) L) (h3 : vp_in (x3 + 3) L) (h4 : vp_in (x3 + 4) L) (h5 : vp_in (x3 + 5) L) (S : XSt) (U : XSr) (hI : Inv S U)
    (K : ∀ S U, Inv S U → LAt (l, κ, D, a, b, a', b', sb, L, xs) 1162 [(0, .ref sb), (1, .ref (a 0)), (2, .ref (a' 0)), (3, .int x3)] [] S U) : LAt (l, κ, D, a, b, a', b', sb, L, xs) 810 [(0, .ref sb), (1, .ref (a 0)), (2, .ref (a' 0)), (3, .int x3)] [] S U := by
  obtain ⟨r, U1, hC, hR, hI1⟩ := h_alike S U (xs (x3 + 1).toNatClampNeg) (xs (x3 + 2).toNatClampNeg) (xs (x3 + 3).toNatClampNeg) hI
  refine l_aload_n 810 C dL_law_810 rfl 1 rfl ?_
  refine l_aload_n 811 C dL_law_811 rfl 0 rfl ?_
  refine l_iload_n 812 C dL_law_812 rfl 3 rfl ?_
  refine l_iconst 813 C dL_law_813 ci_1 ?_
  refine l_iadd 814 C dL_law_814 ?_
  refine l_sld 815 C h1 dL_law_815 ?_
  refine l_aload_n 816 C dL_law_816 rfl 0 rfl ?_
  refine l_iload_n 817 C dL_law_817 rfl 3 rfl ?_
  refine l_iconst 818 C dL_law_818 ci_2 ?_
  refine l_iadd 819 C dL_law_819 ?_
  refine l_sld 820 C h2 dL_law_820 ?_
  refine l_aload_n 821 C dL_law_821 rfl 0 rfl ?_
  refine l_iload_n 822 C dL_law_822 rfl 3 rfl ?_
  refine l_iconst 823 C dL_law_823 ci_3 ?_
  refine l_iadd 824 C dL_law_824 ?_
  refine l_sld 825 C h3 dL_law_825 ?_
  refine l_callC 826 C 3 (As := [.int (xs (x3 + 1).toNatClampNeg), .int (xs (x3 + 2).toNatClampNeg), .int (xs (x3 + 3).toNatClampNeg)]) (rest := []) (M_X6_alike l D a b S (xs (x3 + 1).toNatClampNeg) (xs (x3 + 2).toNatClampNeg) (xs (x3 + 3).toNatClampNeg) hC) (by rfl) rfl kw_678 mv_X6_alike mh_X6_alike ⟨rfl, rfl⟩ ⟨Nat.le_of_ble_eq_true rfl, Nat.le_of_ble_eq_true rfl⟩ rfl rfl (Nat.le_of_ble_eq_true rfl) dL_law_826 ?_
  refine l_aload_n 829 C dL_law_829 rfl 2 rfl ?_
  refine l_aload_n 830 C dL_law_830 rfl 0 rfl ?_
  refine l_iload_n 831 C dL_law_831 rfl 3 rfl ?_
  refine l_iconst 832 C dL_law_832 ci_1 ?_
  refine l_iadd 833 C dL_law_833 ?_
  refine l_sld 834 C h1 dL_law_834 ?_
  refine l_aload_n 835 C dL_law_835 rfl 0 rfl ?_
  refine l_iload_n 836 C dL_law_836 rfl 3 rfl ?_
  refine l_iconst 837 C dL_law_837 ci_2 ?_
  refine l_iadd 838 C dL_law_838 ?_
  refine l_sld 839 C h2 dL_law_839 ?_
  refine l_aload_n 840 C dL_law_840 rfl 0 rfl ?_
  refine l_iload_n 841 C dL_law_841 rfl 3 rfl ?_
  refine l_iconst 842 C dL_law_842 ci_3 ?_
  refine l_iadd 843 C dL_law_843 ?_
  refine l_sld 844 C h3 dL_law_844 ?_
  refine l_callR 845 C 3 (As := [.int (xs (x3 + 1).toNatClampNeg), .int (xs (x3 + 2).toNatClampNeg), .int (xs (x3 + 3).toNatClampNeg)]) (rest := [.long r]) (M_X7_alike l D a' b' U (xs (x3 + 1).toNatClampNeg) (xs (x3 + 2).toNatClampNeg) (xs (x3 + 3).toNatClampNeg) hR) (by rfl) rfl kw_1138 mv_X7_alike mh_X7_alike ⟨rfl, rfl⟩ ⟨Nat.le_of_ble_eq_true rfl, Nat.le_of_ble_eq_true rfl⟩ rfl rfl (Nat.le_of_ble_eq_true rfl) dL_law_845 ?_
  refine l_lcmp 848 C dL_law_848 ?_
  refine l_samel 849 C 1162 dL_law_849 rfl ?_
  exact K _ _ hI1
set_option maxRecDepth 100000 in
set_option maxHeartbeats 4000000 in
theorem lw_nearest {l : Launch} {κ : XK} {D : va_G} {a : Nat → Nat} {b : Nat → ClassId} {a' : Nat → Nat} {b' : Nat → ClassId} {sb L : Nat} {xs : Nat → Int32} (C : LCx (l, κ, D, a, b, a', b', sb, L, xs)) {Inv : XSt → XSr → Prop} (h_nearest : St_nearest Inv) (x3 : Int32) (h1 : vp_in (x3 + 1) L) (h2 : vp_in (x3 + 2) L) (h3 : vp_in (x3 + 3) L) (h4 : vp_in (x3 + 4) L) (h5 : vp_in (x3 + 5) L) (S : XSt) (U : XSr) (hI : Inv S U)
    (K : ∀ S U, Inv S U → LAt (l, κ, D, a, b, a', b', sb, L, xs) 1162 [(0, .ref sb), (1, .ref (a 0)), (2, .ref (a' 0)), (3, .int x3)] [] S U) : LAt (l, κ, D, a, b, a', b', sb, L, xs) 854 [(0, .ref sb), (1, .ref (a 0)), (2, .ref (a' 0)), (3, .int x3)] [] S U := by
  obtain ⟨r, U1, hC, hR, hI1⟩ := h_nearest S U (xs (x3 + 1).toNatClampNeg) hI
  refine l_aload_n 854 C dL_law_854 rfl 1 rfl ?_
  refine l_aload_n 855 C dL_law_855 rfl 0 rfl ?_
  refine l_iload_n 856 C dL_law_856 rfl 3 rfl ?_
  refine l_iconst 857 C dL_law_857 ci_1 ?_
  refine l_iadd 858 C dL_law_858 ?_
  refine l_sld 859 C h1 dL_law_859 ?_
  refine l_callC 860 C 1 (As := [.int (xs (x3 + 1).toNatClampNeg)]) (rest := []) (M_X6_nearest l D a b S (xs (x3 + 1).toNatClampNeg) hC) (by rfl) rfl kw_690 mv_X6_nearest mh_X6_nearest ⟨rfl, rfl⟩ ⟨Nat.le_of_ble_eq_true rfl, Nat.le_of_ble_eq_true rfl⟩ rfl rfl (Nat.le_of_ble_eq_true rfl) dL_law_860 ?_
  refine l_aload_n 863 C dL_law_863 rfl 2 rfl ?_
  refine l_aload_n 864 C dL_law_864 rfl 0 rfl ?_
  refine l_iload_n 865 C dL_law_865 rfl 3 rfl ?_
  refine l_iconst 866 C dL_law_866 ci_1 ?_
  refine l_iadd 867 C dL_law_867 ?_
  refine l_sld 868 C h1 dL_law_868 ?_
  refine l_callR 869 C 1 (As := [.int (xs (x3 + 1).toNatClampNeg)]) (rest := [.int r]) (M_X7_nearest l D a' b' U (xs (x3 + 1).toNatClampNeg) hR) (by rfl) rfl kw_1146 mv_X7_nearest mh_X7_nearest ⟨rfl, rfl⟩ ⟨Nat.le_of_ble_eq_true rfl, Nat.le_of_ble_eq_true rfl⟩ rfl rfl (Nat.le_of_ble_eq_true rfl) dL_law_869 ?_
  refine l_same 872 C 1162 dL_law_872 rfl ?_
  exact K _ _ hI1
set_option maxRecDepth 100000 in
set_option maxHeartbeats 4000000 in
theorem lw_sheet {l : Launch} {κ : XK} {D : va_G} {a : Nat → Nat} {b : Nat → ClassId} {a' : Nat → Nat} {b' : Nat → ClassId} {sb L : Nat} {xs : Nat → Int32} (C : LCx (l, κ, D, a, b, a', b', sb, L, xs)) {Inv : XSt → XSr → Prop} (h_sheet : St_sheet Inv) (x3 : Int32) (h1 : vp_in (x3 + 1) L) (h2 : vp_in (x3 + 2) L) (h3 : vp_in (x3 + 3) L) (h4 : vp_in (x3 + 4) L) (h5 : vp_in (x3 + 5) L) (S : XSt) (U : XSr) (hI : Inv S U)
    (K : ∀ S U, Inv S U → LAt (l, κ, D, a, b, a', b', sb, L, xs) 1162 [(0, .ref sb), (1, .ref (a 0)), (2, .ref (a' 0)), (3, .int x3)] [] S U) : LAt (l, κ, D, a, b, a', b', sb, L, xs) 877 [(0, .ref sb), (1, .ref (a 0)), (2, .ref (a' 0)), (3, .int x3)] [] S U := by
  obtain ⟨r, S1, U1, hC, hR, hI1⟩ := h_sheet S U (xs (x3 + 1).toNatClampNeg) (xs (x3 + 2).toNatClampNeg) (xs (x3 + 3).toNatClampNeg) hI
  refine l_aload_n 877 C dL_law_877 rfl 1 rfl ?_
  refine l_aload_n 878 C dL_law_878 rfl 0 rfl ?_
  refine l_iload_n 879 C dL_law_879 rfl 3 rfl ?_
  refine l_iconst 880 C dL_law_880 ci_1 ?_
  refine l_iadd 881 C dL_law_881 ?_
  refine l_sld 882 C h1 dL_law_882 ?_
  refine l_aload_n 883 C dL_law_883 rfl 0 rfl ?_
  refine l_iload_n 884 C dL_law_884 rfl 3 rfl ?_
  refine l_iconst 885 C dL_law_885 ci_2 ?_
  refine l_iadd 886 C dL_law_886 ?_
  refine l_sld 887 C h2 dL_law_887 ?_
  refine l_aload_n 888 C dL_law_888 rfl 0 rfl ?_
  refine l_iload_n 889 C dL_law_889 rfl 3 rfl ?_
  refine l_iconst 890 C dL_law_890 ci_3 ?_
  refine l_iadd 891 C dL_law_891 ?_
  refine l_sld 892 C h3 dL_law_892 ?_
  refine l_callC 893 C 3 (As := [.int (xs (x3 + 1).toNatClampNeg), .int (xs (x3 + 2).toNatClampNeg), .int (xs (x3 + 3).toNatClampNeg)]) (rest := []) (M_X6_sheet l D a b S (xs (x3 + 1).toNatClampNeg) (xs (x3 + 2).toNatClampNeg) (xs (x3 + 3).toNatClampNeg) hC) (by rfl) rfl kw_700 mv_X6_sheet mh_X6_sheet ⟨rfl, rfl⟩ ⟨Nat.le_of_ble_eq_true rfl, Nat.le_of_ble_eq_true rfl⟩ rfl rfl (Nat.le_of_ble_eq_true rfl) dL_law_893 ?_
  refine l_aload_n 896 C dL_law_896 rfl 2 rfl ?_
  refine l_aload_n 897 C dL_law_897 rfl 0 rfl ?_
  refine l_iload_n 898 C dL_law_898 rfl 3 rfl ?_
  refine l_iconst 899 C dL_law_899 ci_1 ?_
  refine l_iadd 900 C dL_law_900 ?_
  refine l_sld 901 C h1 dL_law_901 ?_
  refine l_aload_n 902 C dL_law_902 rfl 0 rfl ?_
  refine l_iload_n 903 C dL_law_903 rfl 3 rfl ?_
  refine l_iconst 904 C dL_law_904 ci_2 ?_
  refine l_iadd 905 C dL_law_905 ?_
  refine l_sld 906 C h2 dL_law_906 ?_
  refine l_aload_n 907 C dL_law_907 rfl 0 rfl ?_
  refine l_iload_n 908 C dL_law_908 rfl 3 rfl ?_
  refine l_iconst 909 C dL_law_909 ci_3 ?_
  refine l_iadd 910 C dL_law_910 ?_
  refine l_sld 911 C h3 dL_law_911 ?_
  refine l_callR 912 C 3 (As := [.int (xs (x3 + 1).toNatClampNeg), .int (xs (x3 + 2).toNatClampNeg), .int (xs (x3 + 3).toNatClampNeg)]) (rest := [.int r]) (M_X7_sheet l D a' b' U (xs (x3 + 1).toNatClampNeg) (xs (x3 + 2).toNatClampNeg) (xs (x3 + 3).toNatClampNeg) hR) (by rfl) rfl kw_1154 mv_X7_sheet mh_X7_sheet ⟨rfl, rfl⟩ ⟨Nat.le_of_ble_eq_true rfl, Nat.le_of_ble_eq_true rfl⟩ rfl rfl (Nat.le_of_ble_eq_true rfl) dL_law_912 ?_
  refine l_same 915 C 1162 dL_law_915 rfl ?_
  exact K _ _ hI1
set_option maxRecDepth 100000 in
set_option maxHeartbeats 4000000 in
theorem lw_lose {l : Launch} {κ : XK} {D : va_G} {a : Nat → Nat} {b : Nat → ClassId} {a' : Nat → Nat} {b' : Nat → ClassId} {sb L : Nat} {xs : Nat → Int32} (C : LCx (l, κ, D, a, b, a', b', sb, L, xs)) {Inv : XSt → XSr → Prop} (h_lose : St_lose Inv) (x3 : Int32) (h1 : vp_in (x3 + 1) L) (h2 : vp_in (x3 + 2) L) (h3 : vp_in (x3 + 3) L) (h4 : vp_in (x3 + 4) L) (h5 : vp_in (x3 + 5) L) (S : XSt) (U : XSr) (hI : Inv S U)
    (K : ∀ S U, Inv S U → LAt (l, κ, D, a, b, a', b', sb, L, xs) 1162 [(0, .ref sb), (1, .ref (a 0)), (2, .ref (a' 0)), (3, .int x3)] [] S U) : LAt (l, κ, D, a, b, a', b', sb, L, xs) 920 [(0, .ref sb), (1, .ref (a 0)), (2, .ref (a' 0)), (3, .int x3)] [] S U := by
  obtain ⟨r, S1, U1, hC, hR, hI1⟩ := h_lose S U (xs (x3 + 1).toNatClampNeg) hI
  refine l_aload_n 920 C dL_law_920 rfl 1 rfl ?_
  refine l_aload_n 921 C dL_law_921 rfl 0 rfl ?_
  refine l_iload_n 922 C dL_law_922 rfl 3 rfl ?_
  refine l_iconst 923 C dL_law_923 ci_1 ?_
  refine l_iadd 924 C dL_law_924 ?_
  refine l_sld 925 C h1 dL_law_925 ?_
  refine l_callC 926 C 1 (As := [.int (xs (x3 + 1).toNatClampNeg)]) (rest := []) (M_X6_lose l D a b S (xs (x3 + 1).toNatClampNeg) hC) (by rfl) rfl kw_708 mv_X6_lose mh_X6_lose ⟨rfl, rfl⟩ ⟨Nat.le_of_ble_eq_true rfl, Nat.le_of_ble_eq_true rfl⟩ rfl rfl (Nat.le_of_ble_eq_true rfl) dL_law_926 ?_
  refine l_aload_n 929 C dL_law_929 rfl 2 rfl ?_
  refine l_aload_n 930 C dL_law_930 rfl 0 rfl ?_
  refine l_iload_n 931 C dL_law_931 rfl 3 rfl ?_
  refine l_iconst 932 C dL_law_932 ci_1 ?_
  refine l_iadd 933 C dL_law_933 ?_
  refine l_sld 934 C h1 dL_law_934 ?_
  refine l_callR 935 C 1 (As := [.int (xs (x3 + 1).toNatClampNeg)]) (rest := [.int r]) (M_X7_lose l D a' b' U (xs (x3 + 1).toNatClampNeg) hR) (by rfl) rfl kw_1158 mv_X7_lose mh_X7_lose ⟨rfl, rfl⟩ ⟨Nat.le_of_ble_eq_true rfl, Nat.le_of_ble_eq_true rfl⟩ rfl rfl (Nat.le_of_ble_eq_true rfl) dL_law_935 ?_
  refine l_same 938 C 1162 dL_law_938 rfl ?_
  exact K _ _ hI1
set_option maxRecDepth 100000 in
set_option maxHeartbeats 4000000 in
theorem lw_put {l : Launch} {κ : XK} {D : va_G} {a : Nat → Nat} {b : Nat → ClassId} {a' : Nat → Nat} {b' : Nat → ClassId} {sb L : Nat} {xs : Nat → Int32} (C : LCx (l, κ, D, a, b, a', b', sb, L, xs)) {Inv : XSt → XSr → Prop} (h_put : St_put Inv) (x3 : Int32) (h1 : vp_in (x3 + 1) L) (h2 : vp_in (x3 + 2) L) (h3 : vp_in (x3 + 3) L) (h4 : vp_in (x3 + 4) L) (h5 : vp_in (x3 + 5) L) (S : XSt) (U : XSr) (hI : Inv S U)
    (K : ∀ S U, Inv S U → LAt (l, κ, D, a, b, a', b', sb, L, xs) 1162 [(0, .ref sb), (1, .ref (a 0)), (2, .ref (a' 0)), (3, .int x3)] [] S U) : LAt (l, κ, D, a, b, a', b', sb, L, xs) 943 [(0, .ref sb), (1, .ref (a 0)), (2, .ref (a' 0)), (3, .int x3)] [] S U := by
  obtain ⟨r, S1, U1, hC, hR, hI1⟩ := h_put S U (xs (x3 + 1).toNatClampNeg) (xs (x3 + 2).toNatClampNeg) (xs (x3 + 3).toNatClampNeg) (xs (x3 + 4).toNatClampNeg) hI
  refine l_aload_n 943 C dL_law_943 rfl 1 rfl ?_
  refine l_aload_n 944 C dL_law_944 rfl 0 rfl ?_
  refine l_iload_n 945 C dL_law_945 rfl 3 rfl ?_
  refine l_iconst 946 C dL_law_946 ci_1 ?_
  refine l_iadd 947 C dL_law_947 ?_
  refine l_sld 948 C h1 dL_law_948 ?_
  refine l_aload_n 949 C dL_law_949 rfl 0 rfl ?_
  refine l_iload_n 950 C dL_law_950 rfl 3 rfl ?_
  refine l_iconst 951 C dL_law_951 ci_2 ?_
  refine l_iadd 952 C dL_law_952 ?_
  refine l_sld 953 C h2 dL_law_953 ?_
  refine l_aload_n 954 C dL_law_954 rfl 0 rfl ?_
  refine l_iload_n 955 C dL_law_955 rfl 3 rfl ?_
  refine l_iconst 956 C dL_law_956 ci_3 ?_
  refine l_iadd 957 C dL_law_957 ?_
  refine l_sld 958 C h3 dL_law_958 ?_
  refine l_aload_n 959 C dL_law_959 rfl 0 rfl ?_
  refine l_iload_n 960 C dL_law_960 rfl 3 rfl ?_
  refine l_iconst 961 C dL_law_961 ci_4 ?_
  refine l_iadd 962 C dL_law_962 ?_
  refine l_sld 963 C h4 dL_law_963 ?_
  refine l_callC 964 C 4 (As := [.int (xs (x3 + 1).toNatClampNeg), .int (xs (x3 + 2).toNatClampNeg), .int (xs (x3 + 3).toNatClampNeg), .int (xs (x3 + 4).toNatClampNeg)]) (rest := []) (M_X6_put l D a b S (xs (x3 + 1).toNatClampNeg) (xs (x3 + 2).toNatClampNeg) (xs (x3 + 3).toNatClampNeg) (xs (x3 + 4).toNatClampNeg) hC) (by rfl) rfl kw_712 mv_X6_put mh_X6_put ⟨rfl, rfl⟩ ⟨Nat.le_of_ble_eq_true rfl, Nat.le_of_ble_eq_true rfl⟩ rfl rfl (Nat.le_of_ble_eq_true rfl) dL_law_964 ?_
  refine l_aload_n 967 C dL_law_967 rfl 2 rfl ?_
  refine l_aload_n 968 C dL_law_968 rfl 0 rfl ?_
  refine l_iload_n 969 C dL_law_969 rfl 3 rfl ?_
  refine l_iconst 970 C dL_law_970 ci_1 ?_
  refine l_iadd 971 C dL_law_971 ?_
  refine l_sld 972 C h1 dL_law_972 ?_
  refine l_aload_n 973 C dL_law_973 rfl 0 rfl ?_
  refine l_iload_n 974 C dL_law_974 rfl 3 rfl ?_
  refine l_iconst 975 C dL_law_975 ci_2 ?_
  refine l_iadd 976 C dL_law_976 ?_
  refine l_sld 977 C h2 dL_law_977 ?_
  refine l_aload_n 978 C dL_law_978 rfl 0 rfl ?_
  refine l_iload_n 979 C dL_law_979 rfl 3 rfl ?_
  refine l_iconst 980 C dL_law_980 ci_3 ?_
  refine l_iadd 981 C dL_law_981 ?_
  refine l_sld 982 C h3 dL_law_982 ?_
  refine l_aload_n 983 C dL_law_983 rfl 0 rfl ?_
  refine l_iload_n 984 C dL_law_984 rfl 3 rfl ?_
  refine l_iconst 985 C dL_law_985 ci_4 ?_
  refine l_iadd 986 C dL_law_986 ?_
  refine l_sld 987 C h4 dL_law_987 ?_
  refine l_callR 988 C 4 (As := [.int (xs (x3 + 1).toNatClampNeg), .int (xs (x3 + 2).toNatClampNeg), .int (xs (x3 + 3).toNatClampNeg), .int (xs (x3 + 4).toNatClampNeg)]) (rest := [.int r]) (M_X7_put l D a' b' U (xs (x3 + 1).toNatClampNeg) (xs (x3 + 2).toNatClampNeg) (xs (x3 + 3).toNatClampNeg) (xs (x3 + 4).toNatClampNeg) hR) (by rfl) rfl kw_1162 mv_X7_put mh_X7_put ⟨rfl, rfl⟩ ⟨Nat.le_of_ble_eq_true rfl, Nat.le_of_ble_eq_true rfl⟩ rfl rfl (Nat.le_of_ble_eq_true rfl) dL_law_988 ?_
  refine l_same 991 C 1162 dL_law_991 rfl ?_
  exact K _ _ hI1
set_option maxRecDepth 100000 in
set_option maxHeartbeats 4000000 in
theorem lw_get {l : Launch} {κ : XK} {D : va_G} {a : Nat → Nat} {b : Nat → ClassId} {a' : Nat → Nat} {b' : Nat → ClassId} {sb L : Nat} {xs : Nat → Int32} (C : LCx (l, κ, D, a, b, a', b', sb, L, xs)) {Inv : XSt → XSr → Prop} (h_get : St_get Inv) (x3 : Int32) (h1 : vp_in (x3 + 1) L) (h2 : vp_in (x3 + 2) L) (h3 : vp_in (x3 + 3) L) (h4 : vp_in (x3 + 4) L) (h5 : vp_in (x3 + 5) L) (S : XSt) (U : XSr) (hI : Inv S U)
    (K : ∀ S U, Inv S U → LAt (l, κ, D, a, b, a', b', sb, L, xs) 1162 [(0, .ref sb), (1, .ref (a 0)), (2, .ref (a' 0)), (3, .int x3)] [] S U) : LAt (l, κ, D, a, b, a', b', sb, L, xs) 996 [(0, .ref sb), (1, .ref (a 0)), (2, .ref (a' 0)), (3, .int x3)] [] S U := by
  obtain ⟨r, S1, U1, hC, hR, hI1⟩ := h_get S U (xs (x3 + 1).toNatClampNeg) (xs (x3 + 2).toNatClampNeg) (xs (x3 + 3).toNatClampNeg) hI
  refine l_aload_n 996 C dL_law_996 rfl 1 rfl ?_
  refine l_aload_n 997 C dL_law_997 rfl 0 rfl ?_
  refine l_iload_n 998 C dL_law_998 rfl 3 rfl ?_
  refine l_iconst 999 C dL_law_999 ci_1 ?_
  refine l_iadd 1000 C dL_law_1000 ?_
  refine l_sld 1001 C h1 dL_law_1001 ?_
  refine l_aload_n 1002 C dL_law_1002 rfl 0 rfl ?_
  refine l_iload_n 1003 C dL_law_1003 rfl 3 rfl ?_
  refine l_iconst 1004 C dL_law_1004 ci_2 ?_
  refine l_iadd 1005 C dL_law_1005 ?_
  refine l_sld 1006 C h2 dL_law_1006 ?_
  refine l_aload_n 1007 C dL_law_1007 rfl 0 rfl ?_
  refine l_iload_n 1008 C dL_law_1008 rfl 3 rfl ?_
  refine l_iconst 1009 C dL_law_1009 ci_3 ?_
  refine l_iadd 1010 C dL_law_1010 ?_
  refine l_sld 1011 C h3 dL_law_1011 ?_
  refine l_callC 1012 C 3 (As := [.int (xs (x3 + 1).toNatClampNeg), .int (xs (x3 + 2).toNatClampNeg), .int (xs (x3 + 3).toNatClampNeg)]) (rest := []) (M_X6_get l D a b S (xs (x3 + 1).toNatClampNeg) (xs (x3 + 2).toNatClampNeg) (xs (x3 + 3).toNatClampNeg) hC) (by rfl) rfl kw_724 mv_X6_get mh_X6_get ⟨rfl, rfl⟩ ⟨Nat.le_of_ble_eq_true rfl, Nat.le_of_ble_eq_true rfl⟩ rfl rfl (Nat.le_of_ble_eq_true rfl) dL_law_1012 ?_
  refine l_aload_n 1015 C dL_law_1015 rfl 2 rfl ?_
  refine l_aload_n 1016 C dL_law_1016 rfl 0 rfl ?_
  refine l_iload_n 1017 C dL_law_1017 rfl 3 rfl ?_
  refine l_iconst 1018 C dL_law_1018 ci_1 ?_
  refine l_iadd 1019 C dL_law_1019 ?_
  refine l_sld 1020 C h1 dL_law_1020 ?_
  refine l_aload_n 1021 C dL_law_1021 rfl 0 rfl ?_
  refine l_iload_n 1022 C dL_law_1022 rfl 3 rfl ?_
  refine l_iconst 1023 C dL_law_1023 ci_2 ?_
  refine l_iadd 1024 C dL_law_1024 ?_
  refine l_sld 1025 C h2 dL_law_1025 ?_
  refine l_aload_n 1026 C dL_law_1026 rfl 0 rfl ?_
  refine l_iload_n 1027 C dL_law_1027 rfl 3 rfl ?_
  refine l_iconst 1028 C dL_law_1028 ci_3 ?_
  refine l_iadd 1029 C dL_law_1029 ?_
  refine l_sld 1030 C h3 dL_law_1030 ?_
  refine l_callR 1031 C 3 (As := [.int (xs (x3 + 1).toNatClampNeg), .int (xs (x3 + 2).toNatClampNeg), .int (xs (x3 + 3).toNatClampNeg)]) (rest := [.int r]) (M_X7_get l D a' b' U (xs (x3 + 1).toNatClampNeg) (xs (x3 + 2).toNatClampNeg) (xs (x3 + 3).toNatClampNeg) hR) (by rfl) rfl kw_1174 mv_X7_get mh_X7_get ⟨rfl, rfl⟩ ⟨Nat.le_of_ble_eq_true rfl, Nat.le_of_ble_eq_true rfl⟩ rfl rfl (Nat.le_of_ble_eq_true rfl) dL_law_1031 ?_
  refine l_same 1034 C 1162 dL_law_1034 rfl ?_
  exact K _ _ hI1
set_option maxRecDepth 100000 in
set_option maxHeartbeats 4000000 in
theorem lw_copy {l : Launch} {κ : XK} {D : va_G} {a : Nat → Nat} {b : Nat → ClassId} {a' : Nat → Nat} {b' : Nat → ClassId} {sb L : Nat} {xs : Nat → Int32} (C : LCx (l, κ, D, a, b, a', b', sb, L, xs)) {Inv : XSt → XSr → Prop} (h_copy : St_copy Inv) (x3 : Int32) (h1 : vp_in (x3 + 1) L) (h2 : vp_in (x3 + 2) L) (h3 : vp_in (x3 + 3) L) (h4 : vp_in (x3 + 4) L) (h5 : vp_in (x3 + 5) L) (S : XSt) (U : XSr) (hI : Inv S U)
    (K : ∀ S U, Inv S U → LAt (l, κ, D, a, b, a', b', sb, L, xs) 1162 [(0, .ref sb), (1, .ref (a 0)), (2, .ref (a' 0)), (3, .int x3)] [] S U) : LAt (l, κ, D, a, b, a', b', sb, L, xs) 1039 [(0, .ref sb), (1, .ref (a 0)), (2, .ref (a' 0)), (3, .int x3)] [] S U := by
  obtain ⟨r, S1, U1, hC, hR, hI1⟩ := h_copy S U (xs (x3 + 1).toNatClampNeg) (xs (x3 + 2).toNatClampNeg) (xs (x3 + 3).toNatClampNeg) (xs (x3 + 4).toNatClampNeg) (xs (x3 + 5).toNatClampNeg) hI
  refine l_aload_n 1039 C dL_law_1039 rfl 1 rfl ?_
  refine l_aload_n 1040 C dL_law_1040 rfl 0 rfl ?_
  refine l_iload_n 1041 C dL_law_1041 rfl 3 rfl ?_
  refine l_iconst 1042 C dL_law_1042 ci_1 ?_
  refine l_iadd 1043 C dL_law_1043 ?_
  refine l_sld 1044 C h1 dL_law_1044 ?_
  refine l_aload_n 1045 C dL_law_1045 rfl 0 rfl ?_
  refine l_iload_n 1046 C dL_law_1046 rfl 3 rfl ?_
  refine l_iconst 1047 C dL_law_1047 ci_2 ?_
  refine l_iadd 1048 C dL_law_1048 ?_
  refine l_sld 1049 C h2 dL_law_1049 ?_
  refine l_aload_n 1050 C dL_law_1050 rfl 0 rfl ?_
  refine l_iload_n 1051 C dL_law_1051 rfl 3 rfl ?_
  refine l_iconst 1052 C dL_law_1052 ci_3 ?_
  refine l_iadd 1053 C dL_law_1053 ?_
  refine l_sld 1054 C h3 dL_law_1054 ?_
  refine l_aload_n 1055 C dL_law_1055 rfl 0 rfl ?_
  refine l_iload_n 1056 C dL_law_1056 rfl 3 rfl ?_
  refine l_iconst 1057 C dL_law_1057 ci_4 ?_
  refine l_iadd 1058 C dL_law_1058 ?_
  refine l_sld 1059 C h4 dL_law_1059 ?_
  refine l_aload_n 1060 C dL_law_1060 rfl 0 rfl ?_
  refine l_iload_n 1061 C dL_law_1061 rfl 3 rfl ?_
  refine l_iconst 1062 C dL_law_1062 ci_5 ?_
  refine l_iadd 1063 C dL_law_1063 ?_
  refine l_sld 1064 C h5 dL_law_1064 ?_
  refine l_callC 1065 C 5 (As := [.int (xs (x3 + 1).toNatClampNeg), .int (xs (x3 + 2).toNatClampNeg), .int (xs (x3 + 3).toNatClampNeg), .int (xs (x3 + 4).toNatClampNeg), .int (xs (x3 + 5).toNatClampNeg)]) (rest := []) (M_X6_copy l D a b S (xs (x3 + 1).toNatClampNeg) (xs (x3 + 2).toNatClampNeg) (xs (x3 + 3).toNatClampNeg) (xs (x3 + 4).toNatClampNeg) (xs (x3 + 5).toNatClampNeg) hC) (by rfl) rfl kw_729 mv_X6_copy mh_X6_copy ⟨rfl, rfl⟩ ⟨Nat.le_of_ble_eq_true rfl, Nat.le_of_ble_eq_true rfl⟩ rfl rfl (Nat.le_of_ble_eq_true rfl) dL_law_1065 ?_
  refine l_aload_n 1068 C dL_law_1068 rfl 2 rfl ?_
  refine l_aload_n 1069 C dL_law_1069 rfl 0 rfl ?_
  refine l_iload_n 1070 C dL_law_1070 rfl 3 rfl ?_
  refine l_iconst 1071 C dL_law_1071 ci_1 ?_
  refine l_iadd 1072 C dL_law_1072 ?_
  refine l_sld 1073 C h1 dL_law_1073 ?_
  refine l_aload_n 1074 C dL_law_1074 rfl 0 rfl ?_
  refine l_iload_n 1075 C dL_law_1075 rfl 3 rfl ?_
  refine l_iconst 1076 C dL_law_1076 ci_2 ?_
  refine l_iadd 1077 C dL_law_1077 ?_
  refine l_sld 1078 C h2 dL_law_1078 ?_
  refine l_aload_n 1079 C dL_law_1079 rfl 0 rfl ?_
  refine l_iload_n 1080 C dL_law_1080 rfl 3 rfl ?_
  refine l_iconst 1081 C dL_law_1081 ci_3 ?_
  refine l_iadd 1082 C dL_law_1082 ?_
  refine l_sld 1083 C h3 dL_law_1083 ?_
  refine l_aload_n 1084 C dL_law_1084 rfl 0 rfl ?_
  refine l_iload_n 1085 C dL_law_1085 rfl 3 rfl ?_
  refine l_iconst 1086 C dL_law_1086 ci_4 ?_
  refine l_iadd 1087 C dL_law_1087 ?_
  refine l_sld 1088 C h4 dL_law_1088 ?_
  refine l_aload_n 1089 C dL_law_1089 rfl 0 rfl ?_
  refine l_iload_n 1090 C dL_law_1090 rfl 3 rfl ?_
  refine l_iconst 1091 C dL_law_1091 ci_5 ?_
  refine l_iadd 1092 C dL_law_1092 ?_
  refine l_sld 1093 C h5 dL_law_1093 ?_
  refine l_callR 1094 C 5 (As := [.int (xs (x3 + 1).toNatClampNeg), .int (xs (x3 + 2).toNatClampNeg), .int (xs (x3 + 3).toNatClampNeg), .int (xs (x3 + 4).toNatClampNeg), .int (xs (x3 + 5).toNatClampNeg)]) (rest := [.int r]) (M_X7_copy l D a' b' U (xs (x3 + 1).toNatClampNeg) (xs (x3 + 2).toNatClampNeg) (xs (x3 + 3).toNatClampNeg) (xs (x3 + 4).toNatClampNeg) (xs (x3 + 5).toNatClampNeg) hR) (by rfl) rfl kw_1179 mv_X7_copy mh_X7_copy ⟨rfl, rfl⟩ ⟨Nat.le_of_ble_eq_true rfl, Nat.le_of_ble_eq_true rfl⟩ rfl rfl (Nat.le_of_ble_eq_true rfl) dL_law_1094 ?_
  refine l_same 1097 C 1162 dL_law_1097 rfl ?_
  exact K _ _ hI1
set_option maxRecDepth 100000 in
set_option maxHeartbeats 4000000 in
theorem lw_write {l : Launch} {κ : XK} {D : va_G} {a : Nat → Nat} {b : Nat → ClassId} {a' : Nat → Nat} {b' : Nat → ClassId} {sb L : Nat} {xs : Nat → Int32} (C : LCx (l, κ, D, a, b, a', b', sb, L, xs)) {Inv : XSt → XSr → Prop} (h_write : St_write Inv) (x3 : Int32) (h1 : vp_in (x3 + 1) L) (h2 : vp_in (x3 + 2) L) (h3 : vp_in (x3 + 3) L) (h4 : vp_in (x3 + 4) L) (h5 : vp_in (x3 + 5) L) (S : XSt) (U : XSr) (hI : Inv S U)
    (K : ∀ S U, Inv S U → LAt (l, κ, D, a, b, a', b', sb, L, xs) 1162 [(0, .ref sb), (1, .ref (a 0)), (2, .ref (a' 0)), (3, .int x3)] [] S U) : LAt (l, κ, D, a, b, a', b', sb, L, xs) 1102 [(0, .ref sb), (1, .ref (a 0)), (2, .ref (a' 0)), (3, .int x3)] [] S U := by
  obtain ⟨r, S1, U1, hC, hR, hI1⟩ := h_write S U (xs (x3 + 1).toNatClampNeg) hI
  refine l_aload_n 1102 C dL_law_1102 rfl 1 rfl ?_
  refine l_aload_n 1103 C dL_law_1103 rfl 0 rfl ?_
  refine l_iload_n 1104 C dL_law_1104 rfl 3 rfl ?_
  refine l_iconst 1105 C dL_law_1105 ci_1 ?_
  refine l_iadd 1106 C dL_law_1106 ?_
  refine l_sld 1107 C h1 dL_law_1107 ?_
  refine l_callC 1108 C 1 (As := [.int (xs (x3 + 1).toNatClampNeg)]) (rest := []) (M_X6_write l D a b S (xs (x3 + 1).toNatClampNeg) hC) (by rfl) rfl kw_740 mv_X6_write mh_X6_write ⟨rfl, rfl⟩ ⟨Nat.le_of_ble_eq_true rfl, Nat.le_of_ble_eq_true rfl⟩ rfl rfl (Nat.le_of_ble_eq_true rfl) dL_law_1108 ?_
  refine l_aload_n 1111 C dL_law_1111 rfl 2 rfl ?_
  refine l_aload_n 1112 C dL_law_1112 rfl 0 rfl ?_
  refine l_iload_n 1113 C dL_law_1113 rfl 3 rfl ?_
  refine l_iconst 1114 C dL_law_1114 ci_1 ?_
  refine l_iadd 1115 C dL_law_1115 ?_
  refine l_sld 1116 C h1 dL_law_1116 ?_
  refine l_callR 1117 C 1 (As := [.int (xs (x3 + 1).toNatClampNeg)]) (rest := [.int r]) (M_X7_write l D a' b' U (xs (x3 + 1).toNatClampNeg) hR) (by rfl) rfl kw_1183 mv_X7_write mh_X7_write ⟨rfl, rfl⟩ ⟨Nat.le_of_ble_eq_true rfl, Nat.le_of_ble_eq_true rfl⟩ rfl rfl (Nat.le_of_ble_eq_true rfl) dL_law_1117 ?_
  refine l_same 1120 C 1162 dL_law_1120 rfl ?_
  exact K _ _ hI1
set_option maxRecDepth 100000 in
set_option maxHeartbeats 4000000 in
theorem lw_count {l : Launch} {κ : XK} {D : va_G} {a : Nat → Nat} {b : Nat → ClassId} {a' : Nat → Nat} {b' : Nat → ClassId} {sb L : Nat} {xs : Nat → Int32} (C : LCx (l, κ, D, a, b, a', b', sb, L, xs)) {Inv : XSt → XSr → Prop} (h_count : St_count Inv) (x3 : Int32) (h1 : vp_in (x3 + 1) L) (h2 : vp_in (x3 + 2) L) (h3 : vp_in (x3 + 3) L) (h4 : vp_in (x3 + 4) L) (h5 : vp_in (x3 + 5) L) (S : XSt) (U : XSr) (hI : Inv S U)
    (K : ∀ S U, Inv S U → LAt (l, κ, D, a, b, a', b', sb, L, xs) 1162 [(0, .ref sb), (1, .ref (a 0)), (2, .ref (a' 0)), (3, .int x3)] [] S U) : LAt (l, κ, D, a, b, a', b', sb, L, xs) 1125 [(0, .ref sb), (1, .ref (a 0)), (2, .ref (a' 0)), (3, .int x3)] [] S U := by
  obtain ⟨r, U1, hC, hR, hI1⟩ := h_count S U (xs (x3 + 1).toNatClampNeg) hI
  refine l_aload_n 1125 C dL_law_1125 rfl 1 rfl ?_
  refine l_aload_n 1126 C dL_law_1126 rfl 0 rfl ?_
  refine l_iload_n 1127 C dL_law_1127 rfl 3 rfl ?_
  refine l_iconst 1128 C dL_law_1128 ci_1 ?_
  refine l_iadd 1129 C dL_law_1129 ?_
  refine l_sld 1130 C h1 dL_law_1130 ?_
  refine l_callC 1131 C 1 (As := [.int (xs (x3 + 1).toNatClampNeg)]) (rest := []) (M_X6_count l D a b S (xs (x3 + 1).toNatClampNeg) hC) (by rfl) rfl kw_745 mv_X6_count mh_X6_count ⟨rfl, rfl⟩ ⟨Nat.le_of_ble_eq_true rfl, Nat.le_of_ble_eq_true rfl⟩ rfl rfl (Nat.le_of_ble_eq_true rfl) dL_law_1131 ?_
  refine l_aload_n 1134 C dL_law_1134 rfl 2 rfl ?_
  refine l_aload_n 1135 C dL_law_1135 rfl 0 rfl ?_
  refine l_iload_n 1136 C dL_law_1136 rfl 3 rfl ?_
  refine l_iconst 1137 C dL_law_1137 ci_1 ?_
  refine l_iadd 1138 C dL_law_1138 ?_
  refine l_sld 1139 C h1 dL_law_1139 ?_
  refine l_callR 1140 C 1 (As := [.int (xs (x3 + 1).toNatClampNeg)]) (rest := [.int r]) (M_X7_count l D a' b' U (xs (x3 + 1).toNatClampNeg) hR) (by rfl) rfl kw_1187 mv_X7_count mh_X7_count ⟨rfl, rfl⟩ ⟨Nat.le_of_ble_eq_true rfl, Nat.le_of_ble_eq_true rfl⟩ rfl rfl (Nat.le_of_ble_eq_true rfl) dL_law_1140 ?_
  refine l_same 1143 C 1162 dL_law_1143 rfl ?_
  exact K _ _ hI1
set_option maxRecDepth 100000 in
set_option maxHeartbeats 4000000 in
theorem lw_digest {l : Launch} {κ : XK} {D : va_G} {a : Nat → Nat} {b : Nat → ClassId} {a' : Nat → Nat} {b' : Nat → ClassId} {sb L : Nat} {xs : Nat → Int32} (C : LCx (l, κ, D, a, b, a', b', sb, L, xs)) {Inv : XSt → XSr → Prop} (h_digest : St_digest Inv) (x3 : Int32) (h1 : vp_in (x3 + 1) L) (h2 : vp_in (x3 + 2) L) (h3 : vp_in (x3 + 3) L) (h4 : vp_in (x3 + 4) L) (h5 : vp_in (x3 + 5) L) (S : XSt) (U : XSr) (hI : Inv S U)
    (K : ∀ S U, Inv S U → LAt (l, κ, D, a, b, a', b', sb, L, xs) 1162 [(0, .ref sb), (1, .ref (a 0)), (2, .ref (a' 0)), (3, .int x3)] [] S U) : LAt (l, κ, D, a, b, a', b', sb, L, xs) 1148 [(0, .ref sb), (1, .ref (a 0)), (2, .ref (a' 0)), (3, .int x3)] [] S U := by
  obtain ⟨r, S1, U1, hC, hR, hI1⟩ := h_digest S U  hI
  refine l_aload_n 1148 C dL_law_1148 rfl 1 rfl ?_
  refine l_callC 1149 C 0 (As := []) (rest := []) (M_X6_digest l D a b S  hC) (by rfl) rfl kw_753 mv_X6_digest mh_X6_digest ⟨rfl, rfl⟩ ⟨Nat.le_of_ble_eq_true rfl, Nat.le_of_ble_eq_true rfl⟩ rfl rfl (Nat.le_of_ble_eq_true rfl) dL_law_1149 ?_
  refine l_aload_n 1152 C dL_law_1152 rfl 2 rfl ?_
  refine l_callR 1153 C 0 (As := []) (rest := [.long r]) (M_X7_digest l D a' b' U  hR) (by rfl) rfl kw_1195 mv_X7_digest mh_X7_digest ⟨rfl, rfl⟩ ⟨Nat.le_of_ble_eq_true rfl, Nat.le_of_ble_eq_true rfl⟩ rfl rfl (Nat.le_of_ble_eq_true rfl) dL_law_1153 ?_
  refine l_lcmp 1156 C dL_law_1156 ?_
  refine l_samel 1157 C 1162 dL_law_1157 rfl ?_
  exact K _ _ hI1
def StAll (Inv : XSt → XSr → Prop) : Prop := St_grave Inv ∧ St_robbed Inv ∧ St_weight Inv ∧ St_over Inv ∧ St_type Inv ∧ St_wipe Inv ∧ St_fault Inv ∧ St_tell Inv ∧ St_read Inv ∧ St_asOf Inv ∧ St_has Inv ∧ St_gaps Inv ∧ St_best Inv ∧ St_first Inv ∧ St_sure Inv ∧ St_places Inv ∧ St_spread Inv ∧ St_mean Inv ∧ St_leftOut Inv ∧ St_mended Inv ∧ St_phases Inv ∧ St_years Inv ∧ St_fresh Inv ∧ St_alike Inv ∧ St_nearest Inv ∧ St_sheet Inv ∧ St_lose Inv ∧ St_put Inv ∧ St_get Inv ∧ St_copy Inv ∧ St_write Inv ∧ St_count Inv ∧ St_digest Inv
theorem i32_in {i j L : Nat} (h : i + j < L) (hL : L ≤ 3072) {x y : Int32} (hx : x = Int32.ofNat i) (hy : y = Int32.ofNat j) : vp_in (x + y) L := by
  have e : x + y = nI (i + j) := by
    rw [hx, hy]
    show _ = Int32.ofNat (i + j)
    rw [Int32.ofNat_add]
  rw [e]
  exact vp_in_nI h (by omega)
theorem i32_loop {i L : Nat} (hL : L ≤ 3072) (hi : i ≤ 4000) (h : ¬ Int32.ofNat L - 6 < Int32.ofNat i) : i + 6 ≤ L := by
  rw [Int32.lt_iff_toInt_lt] at h
  have h1 : (Int32.ofNat L).toInt = (L : Int) := nI_toInt (by omega)
  have h2 : (Int32.ofNat i).toInt = (i : Int) := nI_toInt (by omega)
  have h3 : (Int32.ofNat L - 6).toInt = (L : Int) - 6 := by
    rw [Int32.toInt_sub, h1]
    show Int.bmod ((L : Int) - 6) (2 ^ 32) = _
    rw [Int.bmod_eq_of_le] <;> omega
  rw [h2, h3] at h
  omega
set_option maxRecDepth 100000 in
set_option maxHeartbeats 4000000 in
theorem lw_loop {l : Launch} {κ : XK} {D : va_G} {a : Nat → Nat} {b : Nat → ClassId} {a' : Nat → Nat} {b' : Nat → ClassId} {sb L : Nat} {xs : Nat → Int32} (hL : L ≤ 3072) (C : LCx (l, κ, D, a, b, a', b', sb, L, xs)) {Inv : XSt → XSr → Prop} (hA : StAll Inv) :
    ∀ (n i : Nat), i ≤ L → L + 1 ≤ i + n → ∀ (x3 : Int32), x3 = Int32.ofNat i → ∀ (S : XSt) (U : XSr), Inv S U → LAt (l, κ, D, a, b, a', b', sb, L, xs) 18 [(0, .ref sb), (1, .ref (a 0)), (2, .ref (a' 0)), (3, .int x3)] [] S U := by
  obtain ⟨h_grave, h_robbed, h_weight, h_over, h_type, h_wipe, h_fault, h_tell, h_read, h_asOf, h_has, h_gaps, h_best, h_first, h_sure, h_places, h_spread, h_mean, h_leftOut, h_mended, h_phases, h_years, h_fresh, h_alike, h_nearest, h_sheet, h_lose, h_put, h_get, h_copy, h_write, h_count, h_digest⟩ := hA
  intro n
  induction n with
  | zero => intro i h1 h2; exact absurd h2 (by omega)
  | succ n ih =>
    intro i hi hin x3 ex S U hI
    refine l_iload_n 18 C dL_law_18 rfl 3 rfl ?_
    refine l_aload_n 19 C dL_law_19 rfl 0 rfl ?_
    refine l_slen 20 C dL_law_20 ?_
    refine l_bipush 21 C dL_law_21 (v := 6) (by decide) ?_
    refine l_isub 23 C dL_law_23 ?_
    refine l_gt 24 C 1168 dL_law_24 rfl (fun _ => ?_) (fun hg => ?_)
    · refine l_iconst 1168 C dL_law_1168 ci_1 ?_
      exact l_ret 1169 C dL_law_1169
    · have h6 : i + 6 ≤ L := i32_loop hL (by omega) (by rw [← ex]; exact hg)
      have h0 : vp_in x3 L := by rw [ex]; exact vp_in_nI (by omega) (by omega)
      have h1 : vp_in (x3 + 1) L := i32_in (i := i) (j := 1) (by omega) hL ex rfl
      have h2 : vp_in (x3 + 2) L := i32_in (i := i) (j := 2) (by omega) hL ex rfl
      have h3 : vp_in (x3 + 3) L := i32_in (i := i) (j := 3) (by omega) hL ex rfl
      have h4 : vp_in (x3 + 4) L := i32_in (i := i) (j := 4) (by omega) hL ex rfl
      have h5 : vp_in (x3 + 5) L := i32_in (i := i) (j := 5) (by omega) hL ex rfl
      have K : ∀ S U, Inv S U → LAt (l, κ, D, a, b, a', b', sb, L, xs) 1162 [(0, .ref sb), (1, .ref (a 0)), (2, .ref (a' 0)), (3, .int x3)] [] S U := by
        intro S U hI
        obtain ⟨x4, ex4⟩ : ∃ y : Int32, y = x3 + 6 := ⟨_, rfl⟩
        refine l_iinc 1162 C (v := x4) (lv' := [(0, .ref sb), (1, .ref (a 0)), (2, .ref (a' 0)), (3, .int x4)]) dL_law_1162 3 rfl (by rw [ex4]; rfl) (by decide) [1, 2, 3, 0] rfl ?_
        refine l_goto 1165 C 18 dL_law_1165 rfl ?_
        exact ih (i + 6) (by omega) (by omega) x4 (by rw [ex4, ex, Int32.ofNat_add]; rfl) S U hI
      refine l_aload_n 27 C dL_law_27 rfl 0 rfl ?_
      refine l_iload_n 28 C dL_law_28 rfl 3 rfl ?_
      refine l_sld 29 C h0 dL_law_29 ?_
      refine l_bipush 30 C dL_law_30 (v := 63) (by decide) ?_
      refine l_iand 32 C dL_law_32 ?_
      generalize xs x3.toNatClampNeg &&& 63 = o
      by_cases e0 : o = 0
      · exact l_tswIn 33 C 0 180 dL_law_33 e0 (by decide) (by decide) rfl rfl (lw_grave C h_grave x3 h1 h2 h3 h4 h5 S U hI K)
      by_cases e1 : o = 1
      · exact l_tswIn 33 C 1 213 dL_law_33 e1 (by decide) (by decide) rfl rfl (lw_robbed C h_robbed x3 h1 h2 h3 h4 h5 S U hI K)
      by_cases e2 : o = 2
      · exact l_tswIn 33 C 2 246 dL_law_33 e2 (by decide) (by decide) rfl rfl (lw_weight C h_weight x3 h1 h2 h3 h4 h5 S U hI K)
      by_cases e3 : o = 3
      · exact l_tswIn 33 C 3 279 dL_law_33 e3 (by decide) (by decide) rfl rfl (lw_over C h_over x3 h1 h2 h3 h4 h5 S U hI K)
      by_cases e4 : o = 4
      · exact l_tswIn 33 C 4 312 dL_law_33 e4 (by decide) (by decide) rfl rfl (lw_type C h_type x3 h1 h2 h3 h4 h5 S U hI K)
      by_cases e5 : o = 5
      · exact l_tswIn 33 C 5 335 dL_law_33 e5 (by decide) (by decide) rfl rfl (lw_wipe C h_wipe x3 h1 h2 h3 h4 h5 S U hI K)
      by_cases e6 : o = 6
      · exact l_tswIn 33 C 6 348 dL_law_33 e6 (by decide) (by decide) rfl rfl (lw_fault C h_fault x3 h1 h2 h3 h4 h5 S U hI K)
      by_cases e7 : o = 7
      · exact l_tswIn 33 C 7 361 dL_law_33 e7 (by decide) (by decide) rfl rfl (lw_tell C h_tell x3 h1 h2 h3 h4 h5 S U hI K)
      by_cases e8 : o = 8
      · exact l_tswIn 33 C 8 384 dL_law_33 e8 (by decide) (by decide) rfl rfl (lw_read C h_read x3 h1 h2 h3 h4 h5 S U hI K)
      by_cases e9 : o = 9
      · exact l_tswIn 33 C 9 427 dL_law_33 e9 (by decide) (by decide) rfl rfl (lw_asOf C h_asOf x3 h1 h2 h3 h4 h5 S U hI K)
      by_cases e10 : o = 10
      · exact l_tswIn 33 C 10 450 dL_law_33 e10 (by decide) (by decide) rfl rfl (lw_has C h_has x3 h1 h2 h3 h4 h5 S U hI K)
      by_cases e11 : o = 11
      · exact l_tswIn 33 C 11 473 dL_law_33 e11 (by decide) (by decide) rfl rfl (lw_gaps C h_gaps x3 h1 h2 h3 h4 h5 S U hI K)
      by_cases e12 : o = 12
      · exact l_tswIn 33 C 12 506 dL_law_33 e12 (by decide) (by decide) rfl rfl (lw_best C h_best x3 h1 h2 h3 h4 h5 S U hI K)
      by_cases e13 : o = 13
      · exact l_tswIn 33 C 13 529 dL_law_33 e13 (by decide) (by decide) rfl rfl (lw_first C h_first x3 h1 h2 h3 h4 h5 S U hI K)
      by_cases e14 : o = 14
      · exact l_tswIn 33 C 14 552 dL_law_33 e14 (by decide) (by decide) rfl rfl (lw_sure C h_sure x3 h1 h2 h3 h4 h5 S U hI K)
      by_cases e15 : o = 15
      · exact l_tswIn 33 C 15 585 dL_law_33 e15 (by decide) (by decide) rfl rfl (lw_places C h_places x3 h1 h2 h3 h4 h5 S U hI K)
      by_cases e16 : o = 16
      · exact l_tswIn 33 C 16 608 dL_law_33 e16 (by decide) (by decide) rfl rfl (lw_spread C h_spread x3 h1 h2 h3 h4 h5 S U hI K)
      by_cases e17 : o = 17
      · exact l_tswIn 33 C 17 641 dL_law_33 e17 (by decide) (by decide) rfl rfl (lw_mean C h_mean x3 h1 h2 h3 h4 h5 S U hI K)
      by_cases e18 : o = 18
      · exact l_tswIn 33 C 18 665 dL_law_33 e18 (by decide) (by decide) rfl rfl (lw_leftOut C h_leftOut x3 h1 h2 h3 h4 h5 S U hI K)
      by_cases e19 : o = 19
      · exact l_tswIn 33 C 19 678 dL_law_33 e19 (by decide) (by decide) rfl rfl (lw_mended C h_mended x3 h1 h2 h3 h4 h5 S U hI K)
      by_cases e20 : o = 20
      · exact l_tswIn 33 C 20 701 dL_law_33 e20 (by decide) (by decide) rfl rfl (lw_phases C h_phases x3 h1 h2 h3 h4 h5 S U hI K)
      by_cases e21 : o = 21
      · exact l_tswIn 33 C 21 734 dL_law_33 e21 (by decide) (by decide) rfl rfl (lw_years C h_years x3 h1 h2 h3 h4 h5 S U hI K)
      by_cases e22 : o = 22
      · exact l_tswIn 33 C 22 777 dL_law_33 e22 (by decide) (by decide) rfl rfl (lw_fresh C h_fresh x3 h1 h2 h3 h4 h5 S U hI K)
      by_cases e23 : o = 23
      · exact l_tswIn 33 C 23 810 dL_law_33 e23 (by decide) (by decide) rfl rfl (lw_alike C h_alike x3 h1 h2 h3 h4 h5 S U hI K)
      by_cases e24 : o = 24
      · exact l_tswIn 33 C 24 854 dL_law_33 e24 (by decide) (by decide) rfl rfl (lw_nearest C h_nearest x3 h1 h2 h3 h4 h5 S U hI K)
      by_cases e25 : o = 25
      · exact l_tswIn 33 C 25 877 dL_law_33 e25 (by decide) (by decide) rfl rfl (lw_sheet C h_sheet x3 h1 h2 h3 h4 h5 S U hI K)
      by_cases e26 : o = 26
      · exact l_tswIn 33 C 26 920 dL_law_33 e26 (by decide) (by decide) rfl rfl (lw_lose C h_lose x3 h1 h2 h3 h4 h5 S U hI K)
      by_cases e27 : o = 27
      · exact l_tswIn 33 C 27 943 dL_law_33 e27 (by decide) (by decide) rfl rfl (lw_put C h_put x3 h1 h2 h3 h4 h5 S U hI K)
      by_cases e28 : o = 28
      · exact l_tswIn 33 C 28 996 dL_law_33 e28 (by decide) (by decide) rfl rfl (lw_get C h_get x3 h1 h2 h3 h4 h5 S U hI K)
      by_cases e29 : o = 29
      · exact l_tswIn 33 C 29 1039 dL_law_33 e29 (by decide) (by decide) rfl rfl (lw_copy C h_copy x3 h1 h2 h3 h4 h5 S U hI K)
      by_cases e30 : o = 30
      · exact l_tswIn 33 C 30 1102 dL_law_33 e30 (by decide) (by decide) rfl rfl (lw_write C h_write x3 h1 h2 h3 h4 h5 S U hI K)
      by_cases e31 : o = 31
      · exact l_tswIn 33 C 31 1125 dL_law_33 e31 (by decide) (by decide) rfl rfl (lw_count C h_count x3 h1 h2 h3 h4 h5 S U hI K)
      by_cases e32 : o = 32
      · exact l_tswIn 33 C 32 1148 dL_law_33 e32 (by decide) (by decide) rfl rfl (lw_digest C h_digest x3 h1 h2 h3 h4 h5 S U hI K)
      exact l_tswOut 33 C 1162 dL_law_33 (by have q0 := xi_ne 0 0 rfl e0; have q1 := xi_ne 1 1 rfl e1; have q2 := xi_ne 2 2 rfl e2; have q3 := xi_ne 3 3 rfl e3; have q4 := xi_ne 4 4 rfl e4; have q5 := xi_ne 5 5 rfl e5; have q6 := xi_ne 6 6 rfl e6; have q7 := xi_ne 7 7 rfl e7; have q8 := xi_ne 8 8 rfl e8; have q9 := xi_ne 9 9 rfl e9; have q10 := xi_ne 10 10 rfl e10; have q11 := xi_ne 11 11 rfl e11; have q12 := xi_ne 12 12 rfl e12; have q13 := xi_ne 13 13 rfl e13; have q14 := xi_ne 14 14 rfl e14; have q15 := xi_ne 15 15 rfl e15; have q16 := xi_ne 16 16 rfl e16; have q17 := xi_ne 17 17 rfl e17; have q18 := xi_ne 18 18 rfl e18; have q19 := xi_ne 19 19 rfl e19; have q20 := xi_ne 20 20 rfl e20; have q21 := xi_ne 21 21 rfl e21; have q22 := xi_ne 22 22 rfl e22; have q23 := xi_ne 23 23 rfl e23; have q24 := xi_ne 24 24 rfl e24; have q25 := xi_ne 25 25 rfl e25; have q26 := xi_ne 26 26 rfl e26; have q27 := xi_ne 27 27 rfl e27; have q28 := xi_ne 28 28 rfl e28; have q29 := xi_ne 29 29 rfl e29; have q30 := xi_ne 30 30 rfl e30; have q31 := xi_ne 31 31 rfl e31; have q32 := xi_ne 32 32 rfl e32; omega) rfl (K S U hI)
