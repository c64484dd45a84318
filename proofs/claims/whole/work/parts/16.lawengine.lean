/-! THE CLAIM OUT OF ONE WALK OF THE LAW'S BODY. Your part is whole_start (and what it stands on); all else here is the same for every law, but numbers. -/
def R_law : String := "GraveOrderLaw"
def lw_P (b : Addr) (xs : List Int32) (args : Array Value) (s : State) : Prop := args = #[.ref b] ∧ s.IntsAt b xs ∧ xs.length ≤ 3072 ∧ (Jvm.Cond.and given_1 narrow_1).before args s = true
def lw_Q (_ : Array Value) (s : State) (o : Outcome) (t : State) : Prop := o = .returned (some (.int 1)) ∧ Framed s o t [] 600000 7302250
def lw_Z (below : List Frame) (a : Array Value) (s : State) : State → Prop := fun t => ∃ o, t.status = .running ∧ Ended t below o ∧ lw_Q a s o t
/-- the law's own end, with 1 on the stack, nothing written that was there before, its room as the claim has it -/
theorem lw_ret {p : Program} {l : Launch} {e : Env} {s : State} {m : MethodId} {below : List Frame} {meth : Method} {c : Code} {b : Nat} (hx : p.tables.exec = Jvm.exec) (hb : c.code = code) (hr : meth.sig.returnType = ret) (hlocks : meth.locks = false) {pc : Nat} {H : Heap} {ls : Array Slot} (hdg : decode code pc = .ok (.ireturn, 1)) : W p l e room_1 s m #[Value.ref b] below meth c H [] 600000 7302250 (lw_Z below #[Value.ref b] s) (F0 m pc ls [.int 1]) := by
  intro T hT X
  obtain ⟨fs, hret, hrun, hended, hW, hframe⟩ := X.leave (v := some (.int 1)) (hlocks := hlocks) (fun h => by rw [hr] at h; cases h)
  have hmeth' : T.vm.method? m = some meth := X.method'
  refine ⟨T.setFrames fs, ?_, .returned (some (.int 1)), hrun, hended, rfl, ⟨_, rfl⟩, hW, hframe⟩
  jvm_step X.here [X.here.top, hx, hb, hdg, hmeth', hr, ret, narrow_b1]
  (try refine ⟨rfl, ?_⟩); (try refine ⟨rfl, ?_⟩)
  first | (intro acts; rw [hret _ acts rfl rfl rfl]) | rw [hret _ _ rfl rfl rfl]
  exact Steps.refl _
/-- what holds at the law's entry: the machine, the code, the tables' words (any of lw_tbl by 'hts w (by decide +kernel)'), the script of L ints xs at the cell b, what the Statement gives of the start (any of its parts by flat_of_before) -/
def lw_At (p : Program) (s : State) (m : MethodId) (meth : Method) (c : Code) (b L : Nat) (xs : Nat → Int32) : Prop :=
  p.tables.exec = Jvm.exec ∧ c.code = code ∧ meth.sig.returnType = ret ∧ c.maxLocals = 4 ∧ s.vm.findClass R_law = some m.cls ∧ (∀ w ∈ lw_tbl, w.before #[Value.ref b] s = true) ∧ va_X b L xs s s.heap ∧ b < s.heap.size ∧ meth.locks = false ∧ (Jvm.Cond.and given_1 narrow_1).before #[Value.ref b] s = true
theorem va_P.left {D : va_G} {cl : List vw_C} {w1 w2 : va_W} {H : Heap} (h : va_P D cl (w1 ++ w2) H) : va_P D cl w1 H := fun k q hk => h k q (by rw [List.getElem?_append_left (List.getElem?_eq_some_iff.mp hk).1]; exact hk)
theorem va_P.right {D : va_G} {cl : List vw_C} {w1 w2 : va_W} {H : Heap} (h : va_P D cl (w1 ++ w2) H) : va_P D cl w2 H := fun k q hk => h (w1.length + k) q (by rw [List.getElem?_append_right (by omega)]; simpa using hk)
theorem ws_fst {w w' : va_W} (h : w.map Prod.fst = w'.map Prod.fst) {k : Nat} {q : Nat × va_E} (hk : w[k]? = some q) : ∃ q', w'[k]? = some q' ∧ q'.1 = q.1 := by
  have h1 : (w.map Prod.fst)[k]? = some q.1 := by rw [List.getElem?_map, hk]; rfl
  rw [h, List.getElem?_map] at h1
  cases h2 : w'[k]? with
  | none => rw [h2] at h1; cases h1
  | some q' => rw [h2] at h1; exact ⟨q', rfl, Option.some.inj h1⟩
theorem va_D.fst {A : Nat → Prop} {w w' : va_W} (hD : va_D A w) (h : w.map Prod.fst = w'.map Prod.fst) : va_D A w' := by
  refine ⟨fun i j x y hi hj hxy => ?_, fun k q hk => ?_⟩
  · obtain ⟨x', h1, e1⟩ := ws_fst h.symm hi
    obtain ⟨y', h2, e2⟩ := ws_fst h.symm hj
    exact hD.1 i j x' y' h1 h2 (e1.trans (hxy.trans e2.symm))
  · obtain ⟨q', h1, e1⟩ := ws_fst h.symm hk
    rw [← e1]; exact hD.2 k q' h1
theorem wC_fst (a : Nat → Nat) (b : Nat → ClassId) (S : XSt) : (wC a b S).map Prod.fst = (List.range 37).map a := rfl
theorem wR_fst (a : Nat → Nat) (b : Nat → ClassId) (S : XSr) : (wR a b S).map Prod.fst = (List.range 27).map a := rfl
theorem fst_in {w : va_W} {a : Nat → Nat} {n : Nat} (h : w.map Prod.fst = (List.range n).map a) {k : Nat} {q : Nat × va_E} (hk : w[k]? = some q) : k < n ∧ q.1 = a k := by
  have h1 : (w.map Prod.fst)[k]? = some q.1 := by rw [List.getElem?_map, hk]; rfl
  rw [h, List.getElem?_map] at h1
  by_cases hn : k < n
  · rw [List.getElem?_range hn] at h1
    exact ⟨hn, (Option.some.inj h1).symm⟩
  · rw [List.getElem?_eq_none (by simp; omega)] at h1; cases h1
theorem fst_at {w : va_W} {a : Nat → Nat} {n : Nat} (h : w.map Prod.fst = (List.range n).map a) {k : Nat} (hk : k < n) : ∃ q, w[k]? = some q ∧ q.1 = a k := by
  have h1 : (w.map Prod.fst)[k]? = some (a k) := by rw [h, List.getElem?_map, List.getElem?_range hk]; rfl
  rw [List.getElem?_map] at h1
  cases h2 : w[k]? with
  | none => rw [h2] at h1; cases h1
  | some q => rw [h2] at h1; exact ⟨q, rfl, Option.some.inj h1⟩
abbrev LG : Type := Launch × XK × va_G × (Nat → Nat) × (Nat → ClassId) × (Nat → Nat) × (Nat → ClassId) × Nat × Nat × (Nat → Int32)
def lA (s : State) : Nat → Prop := fun q => s.heap.size ≤ q
def LAt (Γ : LG) (pc : Nat) (lv : List (Nat × Value)) (vs : List Value) (S : XSt) (U : XSr) : Prop := match Γ with
  | (l, (p, e, s, m, args, below, meth, c), D, a, b, a', b', _, _, _) => ∀ (H : Heap) (locs : List Loc) (ls : Array Slot), va_P D vwCl (wC a b S ++ wR a' b' U) H → va_D (lA s) (wC a b S ++ wR a' b' U) → va_S (lA s) s.heap H locs → lv_has ls 4 lv →
    W p l e room_1 s m args below meth c H locs 64 6140 (lw_Z below args s) (F0 m pc ls vs)
def LCx (Γ : LG) : Prop := match Γ with
  | (l, (p, _, s, m, args, _, meth, c), D, a, b, a', b', sb, L, xs) => args = #[Value.ref sb] ∧ (p.tables.exec = Jvm.exec ∧ c.code = code ∧ c.maxLocals = 4 ∧ s.vm.findClass "GraveOrderLaw" = some m.cls ∧ (∀ w ∈ xtb, w.before args s = true)) ∧ meth.locks = false ∧ meth.sig.returnType = ret ∧ va_K D vwCl (tyC b) s ∧ va_K D vwCl (tyR b') s ∧ va_X sb L xs s s.heap ∧ sb < s.heap.size
section LR
variable {Γ : LG} {lv : List (Nat × Value)} {vs : List Value} {S : XSt} {U : XSr}
theorem l_aload_n (pc : Nat) (C : LCx Γ) {n : Fin 4} {i x : Nat} (hd : decode code pc = .ok (.aload_n n, 1)) (hi : (n : Nat) = i) (j : Nat) (hj : lv[j]? = some (i, .ref x)) (k : LAt Γ (pc + 1) lv (.ref x :: vs) S U) : LAt Γ pc lv (vs) S U := by
  obtain ⟨l, ⟨p, e, s, m, args, below, meth, c⟩, D, a, b, a', b', sb, L, xs⟩ := Γ
  exact fun H locs ls hP hD hS hl => lv_aload_n C.2.1.1 C.2.1.2.1 hd hi (lv_at hl j hj) (k H locs ls hP hD hS hl)
theorem l_iload_n (pc : Nat) (C : LCx Γ) {n : Fin 4} {i : Nat} {x : Int32} (hd : decode code pc = .ok (.iload_n n, 1)) (hi : (n : Nat) = i) (j : Nat) (hj : lv[j]? = some (i, .int x)) (k : LAt Γ (pc + 1) lv (.int x :: vs) S U) : LAt Γ pc lv (vs) S U := by
  obtain ⟨l, ⟨p, e, s, m, args, below, meth, c⟩, D, a, b, a', b', sb, L, xs⟩ := Γ
  exact fun H locs ls hP hD hS hl => lv_iload_n C.2.1.1 C.2.1.2.1 hd hi (lv_at hl j hj) (k H locs ls hP hD hS hl)
theorem l_iconst (pc : Nat) (C : LCx Γ) {n : Int} {v : Int32} (hd : decode code pc = .ok (.iconst n, 1)) (hv : Int32.ofInt n = v) (k : LAt Γ (pc + 1) lv (.int v :: vs) S U) : LAt Γ pc lv (vs) S U := by
  obtain ⟨l, ⟨p, e, s, m, args, below, meth, c⟩, D, a, b, a', b', sb, L, xs⟩ := Γ
  exact fun H locs ls hP hD hS hl => lv_iconst C.2.1.1 C.2.1.2.1 hd hv (k H locs ls hP hD hS hl)
theorem l_bipush (pc : Nat) (C : LCx Γ) {n : Int} {v : Int32} (hd : decode code pc = .ok (.bipush n, 2)) (hv : (Int8.ofInt n).toInt32 = v) (k : LAt Γ (pc + 2) lv (.int v :: vs) S U) : LAt Γ pc lv (vs) S U := by
  obtain ⟨l, ⟨p, e, s, m, args, below, meth, c⟩, D, a, b, a', b', sb, L, xs⟩ := Γ
  exact fun H locs ls hP hD hS hl => lv_bipush C.2.1.1 C.2.1.2.1 hd hv (k H locs ls hP hD hS hl)
theorem l_iadd (pc : Nat) (C : LCx Γ) {x y : Int32} (hd : decode code pc = .ok (.iadd, 1)) (k : LAt Γ (pc + 1) lv (.int (x + y) :: vs) S U) : LAt Γ pc lv (.int y :: .int x :: vs) S U := by
  obtain ⟨l, ⟨p, e, s, m, args, below, meth, c⟩, D, a, b, a', b', sb, L, xs⟩ := Γ
  exact fun H locs ls hP hD hS hl => lv_iadd C.2.1.1 C.2.1.2.1 hd (k H locs ls hP hD hS hl)
theorem l_isub (pc : Nat) (C : LCx Γ) {x y : Int32} (hd : decode code pc = .ok (.isub, 1)) (k : LAt Γ (pc + 1) lv (.int (x - y) :: vs) S U) : LAt Γ pc lv (.int y :: .int x :: vs) S U := by
  obtain ⟨l, ⟨p, e, s, m, args, below, meth, c⟩, D, a, b, a', b', sb, L, xs⟩ := Γ
  exact fun H locs ls hP hD hS hl => lv_isub C.2.1.1 C.2.1.2.1 hd (k H locs ls hP hD hS hl)
theorem l_iand (pc : Nat) (C : LCx Γ) {x y : Int32} (hd : decode code pc = .ok (.iand, 1)) (k : LAt Γ (pc + 1) lv (.int (x &&& y) :: vs) S U) : LAt Γ pc lv (.int y :: .int x :: vs) S U := by
  obtain ⟨l, ⟨p, e, s, m, args, below, meth, c⟩, D, a, b, a', b', sb, L, xs⟩ := Γ
  exact fun H locs ls hP hD hS hl => lv_iand C.2.1.1 C.2.1.2.1 hd (k H locs ls hP hD hS hl)
theorem l_lcmp (pc : Nat) (C : LCx Γ) {x y : Int64} (hd : decode code pc = .ok (.lcmp, 1)) (k : LAt Γ (pc + 1) lv (.int (lg_cmp x y) :: vs) S U) : LAt Γ pc lv (.long y :: .long x :: vs) S U := by
  obtain ⟨l, ⟨p, e, s, m, args, below, meth, c⟩, D, a, b, a', b', sb, L, xs⟩ := Γ
  exact fun H locs ls hP hD hS hl => W.lcmp C.2.1.1 C.2.1.2.1 hd (k H locs ls hP hD hS hl)
theorem l_goto (pc : Nat) (C : LCx Γ) {off : Int} (tgt : Nat) (hd : decode code pc = .ok (.goto off, 3)) (ht : (pc : Int) + off = (tgt : Int)) (k : LAt Γ tgt lv vs S U) : LAt Γ pc lv (vs) S U := by
  obtain ⟨l, ⟨p, e, s, m, args, below, meth, c⟩, D, a, b, a', b', sb, L, xs⟩ := Γ
  exact fun H locs ls hP hD hS hl => lv_goto C.2.1.1 C.2.1.2.1 hd ht (k H locs ls hP hD hS hl)
theorem l_same (pc : Nat) (C : LCx Γ) {x : Int32} {off : Int} (tgt : Nat) (hd : decode code pc = .ok (.if_icmp .eq off, 3)) (ht : (pc : Int) + off = (tgt : Int)) (k : LAt Γ tgt lv vs S U) : LAt Γ pc lv (.int x :: .int x :: vs) S U := by
  obtain ⟨l, ⟨p, e, s, m, args, below, meth, c⟩, D, a, b, a', b', sb, L, xs⟩ := Γ
  exact fun H locs ls hP hD hS hl => lv_icmp_eq C.2.1.1 C.2.1.2.1 hd ht (fun _ => (k H locs ls hP hD hS hl)) (fun q => absurd rfl q)
theorem l_samel (pc : Nat) (C : LCx Γ) {x : Int64} {off : Int} (tgt : Nat) (hd : decode code pc = .ok (.ifCond .eq off, 3)) (ht : (pc : Int) + off = (tgt : Int)) (k : LAt Γ tgt lv vs S U) : LAt Γ pc lv (.int (lg_cmp x x) :: vs) S U := by
  obtain ⟨l, ⟨p, e, s, m, args, below, meth, c⟩, D, a, b, a', b', sb, L, xs⟩ := Γ
  exact fun H locs ls hP hD hS hl => lv_if_eq C.2.1.1 C.2.1.2.1 hd ht (fun _ => (k H locs ls hP hD hS hl)) (fun q => absurd (by simp [lg_cmp, Int64.lt_irrefl]) q)
theorem l_gt (pc : Nat) (C : LCx Γ) {x y : Int32} {off : Int} (tgt : Nat) (hd : decode code pc = .ok (.if_icmp .gt off, 3)) (ht : (pc : Int) + off = (tgt : Int)) (kt : y < x → LAt Γ tgt lv vs S U) (kf : ¬ y < x → LAt Γ (pc + 3) lv vs S U) : LAt Γ pc lv (.int y :: .int x :: vs) S U := by
  obtain ⟨l, ⟨p, e, s, m, args, below, meth, c⟩, D, a, b, a', b', sb, L, xs⟩ := Γ
  exact fun H locs ls hP hD hS hl => lv_icmp_gt C.2.1.1 C.2.1.2.1 hd ht (fun q => kt q H locs ls hP hD hS hl) (fun q => kf q H locs ls hP hD hS hl)
theorem l_iinc (pc : Nat) (C : LCx Γ) {i : Nat} {n : Int} {x v : Int32} {lv' : List (Nat × Value)} (hd : decode code pc = .ok (.iinc i n, 3)) (j : Nat) (hj : lv[j]? = some (i, .int x)) (hv : x + Int32.ofInt n = v) (hn : i < 4) (ks : List Nat) (hl' : lv_pick (xl1 lv i (.int v)) ks = lv') (k : LAt Γ (pc + 3) lv' vs S U) : LAt Γ pc lv vs S U := by
  obtain ⟨l, ⟨p, e, s, m, args, below, meth, c⟩, D, a, b, a', b', sb, L, xs⟩ := Γ
  exact fun H locs ls hP hD hS hl => lv_iinc C.2.1.1 C.2.1.2.1 hd hl hj hv hn rfl (fun ls hl => k H locs ls hP hD hS (lv_sub hl ks hl'))
theorem l_tswIn (pc : Nat) (C : LCx Γ) {x : Int32} (v : Int32) (tgt : Nat) {dflt lo hi off : Int} {offs : Array Int} {len : Nat} (hd : decode code pc = .ok (.tableswitch dflt lo hi offs, len)) (hx : x = v) (h1 : ¬ v.toInt < lo) (h2 : ¬ hi < v.toInt) (ho : offs[(v.toInt - lo).toNat]? = some off) (ht : (pc : Int) + off = (tgt : Int)) (k : LAt Γ tgt lv vs S U) : LAt Γ pc lv (.int x :: vs) S U := by
  obtain ⟨l, ⟨p, e, s, m, args, below, meth, c⟩, D, a, b, a', b', sb, L, xs⟩ := Γ
  subst hx
  exact fun H locs ls hP hD hS hl => lv_tableIn C.2.1.1 C.2.1.2.1 hd h1 h2 ho ht (k H locs ls hP hD hS hl)
theorem l_tswOut (pc : Nat) (C : LCx Γ) {x : Int32} (tgt : Nat) {dflt lo hi : Int} {offs : Array Int} {len : Nat} (hd : decode code pc = .ok (.tableswitch dflt lo hi offs, len)) (h : x.toInt < lo ∨ hi < x.toInt) (ht : (pc : Int) + dflt = (tgt : Int)) (k : LAt Γ tgt lv vs S U) : LAt Γ pc lv (.int x :: vs) S U := by
  obtain ⟨l, ⟨p, e, s, m, args, below, meth, c⟩, D, a, b, a', b', sb, L, xs⟩ := Γ
  exact fun H locs ls hP hD hS hl => lv_tableOut C.2.1.1 C.2.1.2.1 hd h ht (k H locs ls hP hD hS hl)
theorem l_ret (pc : Nat) (C : LCx Γ) (hd : decode code pc = .ok (.ireturn, 1)) : LAt Γ pc lv [.int 1] S U := by
  obtain ⟨l, ⟨p, e, s, m, args, below, meth, c⟩, D, a, b, a', b', sb, L, xs⟩ := Γ
  obtain ⟨e1, hF, hlk, hr, -⟩ := C
  subst e1
  exact fun H locs ls hP hD hS hl => va_forget (fun q hq => hS.2.2 q hq) (W.widen (k := 600000) (n := 7302250) (Nat.le_of_ble_eq_true rfl) (Nat.le_of_ble_eq_true rfl) (lw_ret hF.1 hF.2.1 hr hlk hd))
theorem l_slen (pc : Nat) (C : LCx Γ) (hd : decode code pc = .ok (.arraylength, 1)) (k : LAt Γ (pc + 1) lv (.int (Int32.ofNat Γ.2.2.2.2.2.2.2.2.1) :: vs) S U) : LAt Γ pc lv (.ref Γ.2.2.2.2.2.2.2.1 :: vs) S U := by
  obtain ⟨l, ⟨p, e, s, m, args, below, meth, c⟩, D, a, b, a', b', sb, L, xs⟩ := Γ
  obtain ⟨e1, hF, hlk, hr, -, -, hX, hb⟩ := C
  exact fun H locs ls hP hD hS hl => va_slen hF.1 hF.2.1 hX hb (fun h => absurd h (Nat.not_le.mpr hb)) hS hd (k H locs ls hP hD hS hl)
theorem l_sld (pc : Nat) (C : LCx Γ) {i : Int32} (hin : vp_in i Γ.2.2.2.2.2.2.2.2.1) (hd : decode code pc = .ok (.iaload, 1)) (k : LAt Γ (pc + 1) lv (.int (Γ.2.2.2.2.2.2.2.2.2 i.toNatClampNeg) :: vs) S U) : LAt Γ pc lv (.int i :: .ref Γ.2.2.2.2.2.2.2.1 :: vs) S U := by
  obtain ⟨l, ⟨p, e, s, m, args, below, meth, c⟩, D, a, b, a', b', sb, L, xs⟩ := Γ
  obtain ⟨e1, hF, hlk, hr, -, -, hX, hb⟩ := C
  exact fun H locs ls hP hD hS hl => va_sld hF.1 hF.2.1 hX hb (fun h => absurd h (Nat.not_le.mpr hb)) hS hin hd (k H locs ls hP hD hS hl)
theorem l_callC (pc : Nat) (C : LCx Γ) {y : MethodName} {bytes : ByteArray} {maxL index : Nat} {ret1 : Option FieldType} {rm1 : Room} {As rest : List Value} {Cl : String} {T : u_T} {N : Nat} {fs : List Value} {o1 : Option Value} {S1 : XSt} (n : Nat)
    (hM : xM Γ.1 (ωC Γ.2.2.1 Γ.2.2.2.1 Γ.2.2.2.2.1) y bytes maxL ret1 rm1 (.ref (Γ.2.2.2.1 0) :: As) S (o1, S1)) (he : (wC Γ.2.2.2.1 Γ.2.2.2.2.1 S)[0]? = some (Γ.2.2.2.1 0, .inr (6, fs))) (hc : vwCl[6]? = some (Cl, T, N))
    (h1 : Cond.methodLink "GraveOrderLaw" index y ∈ xtb) (h2 : Cond.instanceMethod y ∈ xtb ∧ Cond.selects Cl y y ∈ xtb ∧ Cond.initialized Cl ∈ xtb ∧ Cond.code y bytes maxL ret1 ∈ xtb)
    (hd : y.cls = Cl ∧ y.cls ≠ "java/lang/invoke/MethodHandle" ∧ y.cls ≠ "java/lang/invoke/VarHandle" ∧ (parseMethodDescriptor y.desc).map (fun d => d.parameters.length) = some n) (hcs : rm1.cells = 0 ∧ rm1.slots = 0) (hR : rm1.frames + 1 ≤ room_1.frames ∧ 8 + (maxL + 11) + rm1.locals ≤ room_1.locals)
    (hn : As.length = n) (hst : vs = As.reverse ++ .ref (Γ.2.2.2.1 0) :: rest) (hW : (rest.map fun v => v.category).sum ≤ 8) (hdg : decode code pc = .ok (.invokevirtual index, 3)) (k : LAt Γ (pc + 3) lv (o1.toList ++ rest) S1 U) : LAt Γ pc lv vs S U := by
  obtain ⟨l, ⟨p, e, s, m, args, below, meth, c⟩, D, a, b, a', b', sb, L, xs⟩ := Γ
  obtain ⟨e1, hF, hlk, hr, hKC, hKR, -⟩ := C
  subst hst
  intro H locs ls hP hD hS hl
  have hts : ∀ w ∈ (Cond.initialized Cl :: xtb), w.before args s = true := fun w h => by
    rcases List.mem_cons.mp h with rfl | h
    · exact hF.2.2.2.2 _ h2.2.2.1
    · exact hF.2.2.2.2 _ h
  have hPm : va_P D vwCl (wC a b S) H := hP.left
  have hfst := wC_fst a b S
  have hplace : ∀ (k : Nat) (q : Nat × va_E), (wC a b S)[k]? = some q → (wC a b S ++ wR a' b' U)[k]? = some q := fun k q hk => by
    rw [List.getElem?_append_left (List.getElem?_eq_some_iff.mp hk).1]; exact hk
  have hDm : va_D (aC a) (wC a b S) := ⟨fun i j x y hi hj hxy => by have := hD.1 _ _ x y (hplace i x hi) (hplace j y hj) hxy; omega, fun k q hk => ⟨k, fst_in hfst hk⟩⟩
  have hAl : ∀ q, aC a q → lA s q := fun q h => by
    obtain ⟨k, hk, rfl⟩ := h
    obtain ⟨q, h1, h2⟩ := fst_at hfst hk
    rw [← h2]; exact hD.2 _ q (hplace k q h1)
  have hr0 := va_runV (cells := 64) (slots := 6140) (locs := locs) (e := e) (below := below) (meth := meth) (g := F0 m pc ls (As.reverse ++ .ref (a 0) :: rest)) (As := As) (rest := rest) hF hM (cwV (R := room_1) n hts (x_goodV h1 h2.1 h2.2.1 h2.2.2.1 h2.2.2.2) rfl hcs.1 hcs.2 hd hR) ⟨xPc_blind _ _, va_recv hKC hPm hc he, fun U9 hU hW => ⟨rfl, by rw [hU]; exact hPm, va_K.moved hW.alike hKC, hDm⟩⟩ rfl hn hl.1 rfl (lv_room hW) hdg ⟨Nat.le_of_ble_eq_true rfl, Nat.le_of_ble_eq_true rfl⟩
  intro T9 hT X
  obtain ⟨v, st₀, t, T', L9, h0, X', hL, e3, e4, ⟨hv, ⟨qP, qK, qD⟩, hz, hk⟩, st⟩ := hr0 T9 hT X
  have hv := Outcome.returned.inj hv
  subst hv
  rw [h0] at hz hk
  have hoth : va_P D vwCl (wR a' b' U) T'.heap := by
    refine (hP.right).kept (fun k q hq => ?_)
    rw [e3]
    refine hk q.1 ((hP.right k q hq).lt) (fun hin => ?_)
    obtain ⟨k2, hk2, e5⟩ := hin
    obtain ⟨q2, h3, h4⟩ := fst_at hfst hk2
    have h6 : (wC a b S ++ wR a' b' U)[37 + k]? = some q := by
      rw [List.getElem?_append_right (by show (wC a b S).length ≤ _; exact Nat.le_add_right 37 k)]; show (wR a' b' U)[37 + k - 37]? = _; rw [Nat.add_sub_cancel_left]; exact hq
    have h7 := hD.1 _ _ q q2 h6 (hplace k2 q2 h3) (e5.trans h4.symm)
    omega
  obtain ⟨t2, a1, b1⟩ := k T'.heap (locs ++ L9) ls (va_P.app (by rw [e3]; exact qP) hoth) (hD.fst (w' := wC a b S1 ++ wR a' b' U) (by rw [List.map_append, List.map_append, wC_fst, wC_fst])) ⟨Nat.le_trans hS.1 (by rw [e3]; exact hz), fun q h1 h2 => by rw [e3, hk q (Nat.lt_of_lt_of_le h1 hS.1) (fun z => h2 (hAl q z))]; exact hS.2.1 q h1 h2, fun q hq => by
      rcases List.mem_append.mp hq with h | h
      · exact hS.2.2 q h
      · exact hAl _ (hL q h)⟩ hl T' rfl X'
  exact ⟨t2, st t2 a1, b1⟩
theorem l_callR (pc : Nat) (C : LCx Γ) {y : MethodName} {bytes : ByteArray} {maxL index : Nat} {ret1 : Option FieldType} {rm1 : Room} {As rest : List Value} {Cl : String} {T : u_T} {N : Nat} {fs : List Value} {o1 : Option Value} {U1 : XSr} (n : Nat)
    (hM : xM Γ.1 (ωR Γ.2.2.1 Γ.2.2.2.2.2.1 Γ.2.2.2.2.2.2.1) y bytes maxL ret1 rm1 (.ref (Γ.2.2.2.2.2.1 0) :: As) U (o1, U1)) (he : (wR Γ.2.2.2.2.2.1 Γ.2.2.2.2.2.2.1 U)[0]? = some (Γ.2.2.2.2.2.1 0, .inr (7, fs))) (hc : vwCl[7]? = some (Cl, T, N))
    (h1 : Cond.methodLink "GraveOrderLaw" index y ∈ xtb) (h2 : Cond.instanceMethod y ∈ xtb ∧ Cond.selects Cl y y ∈ xtb ∧ Cond.initialized Cl ∈ xtb ∧ Cond.code y bytes maxL ret1 ∈ xtb)
    (hd : y.cls = Cl ∧ y.cls ≠ "java/lang/invoke/MethodHandle" ∧ y.cls ≠ "java/lang/invoke/VarHandle" ∧ (parseMethodDescriptor y.desc).map (fun d => d.parameters.length) = some n) (hcs : rm1.cells = 0 ∧ rm1.slots = 0) (hR : rm1.frames + 1 ≤ room_1.frames ∧ 8 + (maxL + 11) + rm1.locals ≤ room_1.locals)
    (hn : As.length = n) (hst : vs = As.reverse ++ .ref (Γ.2.2.2.2.2.1 0) :: rest) (hW : (rest.map fun v => v.category).sum ≤ 8) (hdg : decode code pc = .ok (.invokevirtual index, 3)) (k : LAt Γ (pc + 3) lv (o1.toList ++ rest) S U1) : LAt Γ pc lv vs S U := by
  obtain ⟨l, ⟨p, e, s, m, args, below, meth, c⟩, D, a, b, a', b', sb, L, xs⟩ := Γ
  obtain ⟨e1, hF, hlk, hr, hKC, hKR, -⟩ := C
  subst hst
  intro H locs ls hP hD hS hl
  have hts : ∀ w ∈ (Cond.initialized Cl :: xtb), w.before args s = true := fun w h => by
    rcases List.mem_cons.mp h with rfl | h
    · exact hF.2.2.2.2 _ h2.2.2.1
    · exact hF.2.2.2.2 _ h
  have hPm : va_P D vwCl (wR a' b' U) H := hP.right
  have hfst := wR_fst a' b' U
  have hplace : ∀ (k : Nat) (q : Nat × va_E), (wR a' b' U)[k]? = some q → (wC a b S ++ wR a' b' U)[37 + k]? = some q := fun k q hk => by
    rw [List.getElem?_append_right (by show (wC a b S).length ≤ _; exact Nat.le_add_right 37 k)]; show (wR a' b' U)[37 + k - 37]? = _; rw [Nat.add_sub_cancel_left]; exact hk
  have hDm : va_D (aR a') (wR a' b' U) := ⟨fun i j x y hi hj hxy => by have := hD.1 _ _ x y (hplace i x hi) (hplace j y hj) hxy; omega, fun k q hk => ⟨k, fst_in hfst hk⟩⟩
  have hAl : ∀ q, aR a' q → lA s q := fun q h => by
    obtain ⟨k, hk, rfl⟩ := h
    obtain ⟨q, h1, h2⟩ := fst_at hfst hk
    rw [← h2]; exact hD.2 _ q (hplace k q h1)
  have hr0 := va_runV (cells := 64) (slots := 6140) (locs := locs) (e := e) (below := below) (meth := meth) (g := F0 m pc ls (As.reverse ++ .ref (a' 0) :: rest)) (As := As) (rest := rest) hF hM (cwV (R := room_1) n hts (x_goodV h1 h2.1 h2.2.1 h2.2.2.1 h2.2.2.2) rfl hcs.1 hcs.2 hd hR) ⟨xPc_blind _ _, va_recv hKR hPm hc he, fun U9 hU hW => ⟨rfl, by rw [hU]; exact hPm, va_K.moved hW.alike hKR, hDm⟩⟩ rfl hn hl.1 rfl (lv_room hW) hdg ⟨Nat.le_of_ble_eq_true rfl, Nat.le_of_ble_eq_true rfl⟩
  intro T9 hT X
  obtain ⟨v, st₀, t, T', L9, h0, X', hL, e3, e4, ⟨hv, ⟨qP, qK, qD⟩, hz, hk⟩, st⟩ := hr0 T9 hT X
  have hv := Outcome.returned.inj hv
  subst hv
  rw [h0] at hz hk
  have hoth : va_P D vwCl (wC a b S) T'.heap := by
    refine (hP.left).kept (fun k q hq => ?_)
    rw [e3]
    refine hk q.1 ((hP.left k q hq).lt) (fun hin => ?_)
    obtain ⟨k2, hk2, e5⟩ := hin
    obtain ⟨q2, h3, h4⟩ := fst_at hfst hk2
    have h6 : (wC a b S ++ wR a' b' U)[k]? = some q := by
      rw [List.getElem?_append_left (List.getElem?_eq_some_iff.mp hq).1]; exact hq
    have h7 := hD.1 _ _ q q2 h6 (hplace k2 q2 h3) (e5.trans h4.symm)
    have h8 := (fst_in (wC_fst a b S) hq).1; omega
  obtain ⟨t2, a1, b1⟩ := k T'.heap (locs ++ L9) ls (va_P.app hoth (by rw [e3]; exact qP)) (hD.fst (w' := wC a b S ++ wR a' b' U1) (by rw [List.map_append, List.map_append, wR_fst, wR_fst])) ⟨Nat.le_trans hS.1 (by rw [e3]; exact hz), fun q h1 h2 => by rw [e3, hk q (Nat.lt_of_lt_of_le h1 hS.1) (fun z => h2 (hAl q z))]; exact hS.2.1 q h1 h2, fun q hq => by
      rcases List.mem_append.mp hq with h | h
      · exact hS.2.2 q h
      · exact hAl _ (hL q h)⟩ hl T' rfl X'
  exact ⟨t2, st t2 a1, b1⟩
end LR
