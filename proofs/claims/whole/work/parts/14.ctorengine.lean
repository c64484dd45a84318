/-! CONSTRUCTORS: a walk over a world that grows -/
abbrev KG : Type := Launch × Room × XK × Nat × (State → Prop)
def KAt (Γ : KG) (D : va_G) (A : Nat → Prop) (cells slots : Nat) (pc : Nat) (lv : List (Nat × Value)) (vs : List Value) (ws : va_W) (tys : List (ClassId × FieldType)) : Prop := match Γ with
  | (l, R, (p, e, s, m, args, below, meth, c), nL, Q) => ∀ (H : Heap) (locs : List Loc) (ls : Array Slot), va_K D vwCl tys s → va_P D vwCl ws H → va_D A ws → va_S A s.heap H locs → lv_has ls nL lv → W p l e R s m args below meth c H locs cells slots Q (F0 m pc ls vs)
def kQ (D : va_G) (A : Nat → Prop) (post : Nat → Prop) (Wf : (Nat → Nat) → (Nat → ClassId) → va_W) (Ty : (Nat → ClassId) → List (ClassId × FieldType)) : Array Value → State → Outcome → State → Prop :=
  va_Qv (fun u : (Nat → Nat) × (Nat → ClassId) => post (u.1 0)) (fun (u : (Nat → Nat) × (Nat → ClassId)) t => va_P D vwCl (Wf u.1 u.2) t.heap ∧ va_K D vwCl (Ty u.2) t ∧ va_D A (Wf u.1 u.2)) A
def KCx (Γ : KG) (D : va_G) (A : Nat → Prop) (cc : ByteArray) (own : String) (l0 : Launch) (rm : Room) (nL0 : Nat) (Xp : State → Prop) (post : Nat → Prop) (Wf : (Nat → Nat) → (Nat → ClassId) → va_W) (Ty : (Nat → ClassId) → List (ClassId × FieldType)) : Prop := match Γ with
  | (l, R, (p, _, s, m, args, below, meth, c), nL, Q) => (p.tables.exec = Jvm.exec ∧ c.code = cc ∧ c.maxLocals = nL ∧ s.vm.findClass own = some m.cls ∧ (∀ w ∈ xtb, w.before args s = true)) ∧ meth.locks = false ∧ meth.sig.returnType = none ∧ meth.name = "<init>" ∧ l = l0 ∧ R = rm ∧ nL = nL0 ∧ Q = MQ below (kQ D A post Wf Ty) args s rm.cells rm.slots A ∧ (∀ q, s.heap.size ≤ q → A q) ∧ Xp s
def kM (l : Launch) (D : va_G) (y : MethodName) (cc : ByteArray) (n : Nat) (rm : Room) (av : List Value) (ws0 : va_W) (sz : Nat) (Xp : State → Prop) (post : Nat → Prop) (Wf : (Nat → Nat) → (Nat → ClassId) → va_W) (Ty : (Nat → ClassId) → List (ClassId × FieldType)) : Prop :=
  Met l y (.code y cc n none :: xtb) rm (va_Pc av (fun U => U.heap.size = sz ∧ va_P D vwCl ws0 U.heap ∧ va_K D vwCl [] U ∧ va_D (fun _ => True) ws0 ∧ Xp U)) (kQ D (va_A ws0 sz) post Wf Ty) rm.cells rm.slots (va_A ws0 sz)
theorem kM_of {l : Launch} {D : va_G} {y : MethodName} {cc : ByteArray} {n : Nat} {rm : Room} {av : List Value} {ws0 : va_W} {sz : Nat} {Xp : State → Prop} {post : Nat → Prop} {Wf : (Nat → Nat) → (Nat → ClassId) → va_W} {Ty : (Nat → ClassId) → List (ClassId × FieldType)} {own : String} (hy : plainName y.cls = true) (ho : y.cls = own) (hi : y.name = "<init>") (hn : (lg_sl av).length ≤ n)
    (k : ∀ (Γ : KG) (A : Nat → Prop), KCx Γ D A cc own l rm n Xp post Wf Ty → KAt Γ D A 0 0 0 (lv_args 0 av) [] ws0 []) : kM l D y cc n rm av ws0 sz Xp post Wf Ty := by
  refine Met.ofW (cc := cc) (maxL := n) (ret := none) hy rfl ?_
  intro p e s m args below meth c s₁ B hml hv
  obtain ⟨rfl, hsz, hP, hK, hD, hXp⟩ := hv
  have hts := atoms_spec (ws := .code y cc n none :: xtb) B.pre
  have hown : s.vm.findClass own = some m.cls := by rw [← ho]; exact findClass_of_methodNamed B.named
  have hin : meth.name = "<init>" := by rw [← hi]; exact (name_of_methodNamed B.named B.method).1
  have hl := lv_entry av (n := n) hn
  rw [lg_entry_eq]
  subst hsz
  exact k (l, rm, (p, e, s, m, av.toArray, below, meth, c), n, _) (va_A ws0 s.heap.size) ⟨⟨B.exec, B.bytes, hml, hown, fun w hw => hts w (List.mem_cons_of_mem _ hw)⟩, B.notSynchronized, B.returns, hin, rfl, rfl, rfl, rfl, fun q h => Or.inr h, hXp⟩ s.heap [] _ hK hP hD.self va_S.rf hl
section KR
variable {Γ : KG} {D : va_G} {A : Nat → Prop} {cells slots : Nat} {cc : ByteArray} {own : String} {l0 : Launch} {rm : Room} {nL0 : Nat} {Xp : State → Prop} {post : Nat → Prop} {Wf : (Nat → Nat) → (Nat → ClassId) → va_W} {Ty : (Nat → ClassId) → List (ClassId × FieldType)} {lv : List (Nat × Value)} {vs : List Value} {ws : va_W} {tys : List (ClassId × FieldType)}
theorem k_w (pc : Nat) {cells' slots' : Nat} {ws' : va_W} {tys' : List (ClassId × FieldType)} (h1 : cells = cells') (h2 : slots = slots') (h3 : ws = ws') (h4 : tys = tys') (k : KAt Γ D A cells' slots' pc lv vs ws' tys') : KAt Γ D A cells slots pc lv vs ws tys := by
  subst h1; subst h2; subst h3; subst h4; exact k
theorem k_lv (pc : Nat) {lv' : List (Nat × Value)} (ks : List Nat) (hl : lv_pick lv ks = lv') (k : KAt Γ D A cells slots pc lv' vs ws tys) : KAt Γ D A cells slots pc lv vs ws tys := by
  obtain ⟨l, R, ⟨p, e, s, m, args, below, meth, c⟩, nL, Q⟩ := Γ
  exact fun H locs ls hK hP hD hS hv => k H locs ls hK hP hD hS (lv_sub hv ks hl)
theorem k_perm (pc : Nat) {ws' : va_W} {tys' : List (ClassId × FieldType)} (is js : List Nat) (h1 : is.filterMap (fun i => ws[i]?) = ws') (h2 : va_nd is = true) (h3 : is.map (fun i => ws[i]?) = ws'.map some) (h4 : js.filterMap (fun i => tys[i]?) = tys') (k : KAt Γ D A cells slots pc lv vs ws' tys') : KAt Γ D A cells slots pc lv vs ws tys := by
  obtain ⟨l, R, ⟨p, e, s, m, args, below, meth, c⟩, nL, Q⟩ := Γ
  exact fun H locs ls hK hP hD hS hv => k H locs ls (hK.sub js h4) (hP.sub is h1) (hD.sub is h2 h3) hS hv
theorem k_cell (pc : Nat) (q a : Nat) {cA : ClassId} {x y : vp_A} (he : ws[q]? = some (a, .inl (cA, x))) (hx : vp_cell cA x = vp_cell cA y) (k : KAt Γ D A cells slots pc lv vs (ws.set q (a, .inl (cA, y))) tys) : KAt Γ D A cells slots pc lv vs ws tys := by
  obtain ⟨l, R, ⟨p, e, s, m, args, below, meth, c⟩, nL, Q⟩ := Γ
  exact fun H locs ls hK hP hD hS hv => k H locs ls hK (hP.set hD he (by have := hP q _ he; exact (show H[a]? = some (vp_cell cA x) from this).trans (by rw [hx])) (fun _ _ => rfl)) (hD.set he) hS hv
theorem k_ret (pc : Nat) (C : KCx Γ D A cc own l0 rm nL0 Xp post Wf Ty) (q : Nat → Nat) (c' : Nat → ClassId) (hw : ws = Wf q c') (ht : tys = Ty c') (hp : post (q 0)) (h1 : cells ≤ rm.cells) (h2 : slots ≤ rm.slots) (hd : decode cc pc = .ok (.return_, 1)) : KAt Γ D A cells slots pc lv [] ws tys := by
  obtain ⟨l, R, ⟨p, e, s, m, args, below, meth, c⟩, nL, Q⟩ := Γ
  obtain ⟨⟨hx, hb, -⟩, hlk, hr, -, -, -, -, hQ, -⟩ := C
  subst hQ; subst hw; subst ht
  exact fun H locs ls hK hP hD hS hv => W.widen h1 h2 (W.vret hx hb hr (fun t ht hW => ⟨⟨(q, c'), rfl, hp, by rw [ht]; exact hP, va_K.moved hW.alike hK, hD⟩, hS.F ht⟩) hS.2.2 hd hlk)
theorem k_aload_n (pc : Nat) (C : KCx Γ D A cc own l0 rm nL0 Xp post Wf Ty) {n : Fin 4} {i x : Nat} (hd : decode cc pc = .ok (.aload_n n, 1)) (hi : (n : Nat) = i) (j : Nat) (hj : lv[j]? = some (i, .ref x)) (k : KAt Γ D A cells slots (pc + 1) lv (.ref x :: vs) ws tys) : KAt Γ D A cells slots pc lv vs ws tys := by
  obtain ⟨l, R, ⟨p, e, s, m, args, below, meth, c⟩, nL, Q⟩ := Γ
  exact fun H locs ls hK hP hD hS hl => lv_aload_n C.1.1 C.1.2.1 hd hi (lv_at hl j hj) (k H locs ls hK hP hD hS hl)
theorem k_iload_n (pc : Nat) (C : KCx Γ D A cc own l0 rm nL0 Xp post Wf Ty) {n : Fin 4} {i : Nat} {x : Int32} (hd : decode cc pc = .ok (.iload_n n, 1)) (hi : (n : Nat) = i) (j : Nat) (hj : lv[j]? = some (i, .int x)) (k : KAt Γ D A cells slots (pc + 1) lv (.int x :: vs) ws tys) : KAt Γ D A cells slots pc lv vs ws tys := by
  obtain ⟨l, R, ⟨p, e, s, m, args, below, meth, c⟩, nL, Q⟩ := Γ
  exact fun H locs ls hK hP hD hS hl => lv_iload_n C.1.1 C.1.2.1 hd hi (lv_at hl j hj) (k H locs ls hK hP hD hS hl)
theorem k_iconst (pc : Nat) (C : KCx Γ D A cc own l0 rm nL0 Xp post Wf Ty) {n : Int} {v : Int32} (hd : decode cc pc = .ok (.iconst n, 1)) (hv : Int32.ofInt n = v) (k : KAt Γ D A cells slots (pc + 1) lv (.int v :: vs) ws tys) : KAt Γ D A cells slots pc lv vs ws tys := by
  obtain ⟨l, R, ⟨p, e, s, m, args, below, meth, c⟩, nL, Q⟩ := Γ
  exact fun H locs ls hK hP hD hS hl => lv_iconst C.1.1 C.1.2.1 hd hv (k H locs ls hK hP hD hS hl)
theorem k_lconst (pc : Nat) (C : KCx Γ D A cc own l0 rm nL0 Xp post Wf Ty) {n : Fin 2} {v : Int64} (hd : decode cc pc = .ok (.lconst n, 1)) (hv : Int64.ofNat (n : Nat) = v) (k : KAt Γ D A cells slots (pc + 1) lv (.long v :: vs) ws tys) : KAt Γ D A cells slots pc lv vs ws tys := by
  obtain ⟨l, R, ⟨p, e, s, m, args, below, meth, c⟩, nL, Q⟩ := Γ
  exact fun H locs ls hK hP hD hS hl => lv_lconst C.1.1 C.1.2.1 hd hv (k H locs ls hK hP hD hS hl)
theorem k_bipush (pc : Nat) (C : KCx Γ D A cc own l0 rm nL0 Xp post Wf Ty) {n : Int} {v : Int32} (hd : decode cc pc = .ok (.bipush n, 2)) (hv : (Int8.ofInt n).toInt32 = v) (k : KAt Γ D A cells slots (pc + 2) lv (.int v :: vs) ws tys) : KAt Γ D A cells slots pc lv vs ws tys := by
  obtain ⟨l, R, ⟨p, e, s, m, args, below, meth, c⟩, nL, Q⟩ := Γ
  exact fun H locs ls hK hP hD hS hl => lv_bipush C.1.1 C.1.2.1 hd hv (k H locs ls hK hP hD hS hl)
theorem k_sipush (pc : Nat) (C : KCx Γ D A cc own l0 rm nL0 Xp post Wf Ty) {n : Int} {v : Int32} (hd : decode cc pc = .ok (.sipush n, 3)) (hv : (Int16.ofInt n).toInt32 = v) (k : KAt Γ D A cells slots (pc + 3) lv (.int v :: vs) ws tys) : KAt Γ D A cells slots pc lv vs ws tys := by
  obtain ⟨l, R, ⟨p, e, s, m, args, below, meth, c⟩, nL, Q⟩ := Γ
  exact fun H locs ls hK hP hD hS hl => lv_sipush C.1.1 C.1.2.1 hd hv (k H locs ls hK hP hD hS hl)
theorem k_dup (pc : Nat) (C : KCx Γ D A cc own l0 rm nL0 Xp post Wf Ty) {v : Value} (hd : decode cc pc = .ok (.dup, 1)) (h1 : v.category = 1) (k : KAt Γ D A cells slots (pc + 1) lv (v :: v :: vs) ws tys) : KAt Γ D A cells slots pc lv (v :: vs) ws tys := by
  obtain ⟨l, R, ⟨p, e, s, m, args, below, meth, c⟩, nL, Q⟩ := Γ
  exact fun H locs ls hK hP hD hS hl => lv_dup C.1.1 C.1.2.1 hd h1 (k H locs ls hK hP hD hS hl)
theorem k_goto (pc : Nat) (C : KCx Γ D A cc own l0 rm nL0 Xp post Wf Ty) {off : Int} (tgt : Nat) (hd : decode cc pc = .ok (.goto off, 3)) (ht : (pc : Int) + off = (tgt : Int)) (k : KAt Γ D A cells slots tgt lv vs ws tys) : KAt Γ D A cells slots pc lv vs ws tys := by
  obtain ⟨l, R, ⟨p, e, s, m, args, below, meth, c⟩, nL, Q⟩ := Γ
  exact fun H locs ls hK hP hD hS hl => lv_goto C.1.1 C.1.2.1 hd ht (k H locs ls hK hP hD hS hl)
theorem k_ge_no (pc : Nat) (C : KCx Γ D A cc own l0 rm nL0 Xp post Wf Ty) {x y : Int32} {off : Int} (tgt : Nat) (hd : decode cc pc = .ok (.if_icmp .ge off, 3)) (ht : (pc : Int) + off = (tgt : Int)) (hn : ¬ y ≤ x) (k : KAt Γ D A cells slots (pc + 3) lv vs ws tys) : KAt Γ D A cells slots pc lv (.int y :: .int x :: vs) ws tys := by
  obtain ⟨l, R, ⟨p, e, s, m, args, below, meth, c⟩, nL, Q⟩ := Γ
  exact fun H locs ls hK hP hD hS hl => lv_icmp_ge C.1.1 C.1.2.1 hd ht (fun q => absurd q hn) (fun _ => k H locs ls hK hP hD hS hl)
theorem k_ge_yes (pc : Nat) (C : KCx Γ D A cc own l0 rm nL0 Xp post Wf Ty) {x y : Int32} {off : Int} (tgt : Nat) (hd : decode cc pc = .ok (.if_icmp .ge off, 3)) (ht : (pc : Int) + off = (tgt : Int)) (hn : y ≤ x) (k : KAt Γ D A cells slots tgt lv vs ws tys) : KAt Γ D A cells slots pc lv (.int y :: .int x :: vs) ws tys := by
  obtain ⟨l, R, ⟨p, e, s, m, args, below, meth, c⟩, nL, Q⟩ := Γ
  exact fun H locs ls hK hP hD hS hl => lv_icmp_ge C.1.1 C.1.2.1 hd ht (fun _ => k H locs ls hK hP hD hS hl) (fun q => absurd hn q)
theorem k_istore_n (pc : Nat) (C : KCx Γ D A cc own l0 rm nL0 Xp post Wf Ty) {n : Fin 4} {i : Nat} {x : Int32} {lv' : List (Nat × Value)} (hd : decode cc pc = .ok (.istore_n n, 1)) (hi : (n : Nat) = i) (hn : i < nL0) (ks : List Nat) (hl' : lv_pick (xl1 lv i (.int x)) ks = lv') (k : KAt Γ D A cells slots (pc + 1) lv' vs ws tys) : KAt Γ D A cells slots pc lv (.int x :: vs) ws tys := by
  obtain ⟨l, R, ⟨p, e, s, m, args, below, meth, c⟩, nL, Q⟩ := Γ
  obtain ⟨⟨hx, hb, -⟩, -, -, -, -, -, e3, -⟩ := C
  exact fun H locs ls hK hP hD hS hl => lv_istore_n hx hb hd hi hl (by rw [e3]; exact hn) rfl (fun ls hl => k H locs ls hK hP hD hS (lv_sub hl ks hl'))
theorem k_iinc (pc : Nat) (C : KCx Γ D A cc own l0 rm nL0 Xp post Wf Ty) {i : Nat} {n : Int} {x : Int32} (v : Int32) {lv' : List (Nat × Value)} (hd : decode cc pc = .ok (.iinc i n, 3)) (j : Nat) (hj : lv[j]? = some (i, .int x)) (hv : x + Int32.ofInt n = v) (hn : i < nL0) (ks : List Nat) (hl' : lv_pick (xl1 lv i (.int v)) ks = lv') (k : KAt Γ D A cells slots (pc + 3) lv' vs ws tys) : KAt Γ D A cells slots pc lv vs ws tys := by
  obtain ⟨l, R, ⟨p, e, s, m, args, below, meth, c⟩, nL, Q⟩ := Γ
  obtain ⟨⟨hx, hb, -⟩, -, -, -, -, -, e3, -⟩ := C
  exact fun H locs ls hK hP hD hS hl => lv_iinc hx hb hd hl hj hv (by rw [e3]; exact hn) rfl (fun ls hl => k H locs ls hK hP hD hS (lv_sub hl ks hl'))
theorem k_obj (pc : Nat) (C : KCx Γ D A cc own l0 rm nL0 Xp post Wf Ty) {idx a : Nat} (h1 : Cond.methodLink own idx Lib.objectInit ∈ xtb) (h2 : Cond.instanceMethod Lib.objectInit ∈ xtb) (h3 : Cond.code Lib.objectInit ⟨#[0xb1]⟩ 1 none ∈ xtb) (hd : decode cc pc = .ok (.invokespecial idx, 3)) (hf : 1 ≤ rm.frames) (hlo : (vs.map fun v => v.category).sum + 12 ≤ rm.locals) (k : KAt Γ D A cells slots (pc + 3) lv vs ws tys) : KAt Γ D A cells slots pc lv (.ref a :: vs) ws tys := by
  obtain ⟨l, R, ⟨p, e, s, m, args, below, meth, c⟩, nL, Q⟩ := Γ
  obtain ⟨hF, -, -, -, -, e2, e3, -⟩ := C
  subst e2
  exact fun H locs ls hK hP hD hS hl => W.objInit hF.1 hF.2.1 hF.2.2.2.1 (hF.2.2.2.2 _ h1) (hF.2.2.2.2 _ h2) (hF.2.2.2.2 _ h3) rfl (by rw [hF.2.2.1]; exact hl.1) rfl hd hf (by show 2 * 0 + _ + 12 ≤ _; omega) (k H locs ls hK hP hD hS hl)
theorem k_newa (pc : Nat) (C : KCx Γ D A cc own l0 rm nL0 Xp post Wf Ty) {atype : ArrayType} {ty : FieldType} {n : Int32} {N' : Nat} {a0 : vp_A} (h1 : Cond.arrayClass (newarray.typeOf atype) ∈ xtb) (hty : newarray.typeOf atype = ty) (ha : ∀ cA : ClassId, vp_cell cA a0 = arrV cA N' (fun _ => defaultValue ty)) (hn : ¬ n < 0) (hN : n.toNatClampNeg = N') (hb : N' * componentBytes ty ≤ 536870912) (hc : cells + 1 ≤ rm.cells) (hs : slots + N' ≤ rm.slots) (hd : decode cc pc = .ok (.newarray atype, 2)) (k : ∀ (q : Nat) (cA : ClassId), KAt Γ D A (cells + 1) (slots + N') (pc + 2) lv (.ref q :: vs) (ws ++ [(q, .inl (cA, a0))]) (tys ++ [(cA, ty)])) : KAt Γ D A cells slots pc lv (.int n :: vs) ws tys := by
  obtain ⟨l, R, ⟨p, e, s, m, args, below, meth, c⟩, nL, Q⟩ := Γ
  obtain ⟨hF, -, -, -, -, e2, e3, -, hA, hXp⟩ := C
  subst e2
  exact fun H locs ls hK hP hD hS hl => va_newa hF.1 hF.2.1 (hF.2.2.2.2 _ h1) hty hK hP hD hS hA ha hn hN hb hc hs hd (fun q cA H1 hK hP hD hS => k q cA H1 locs ls hK hP hD hS hl)
theorem k_anew (pc : Nat) (C : KCx Γ D A cc own l0 rm nL0 Xp post Wf Ty) {E : String} {index : Nat} {n : Int32} {N' : Nat} (h1 : Cond.classLink own index E ∈ xtb) (ho : ∀ U, Xp U → va_AO E U) (hn : ¬ n < 0) (hN : n.toNatClampNeg = N') (hb : N' * 4 ≤ 536870912) (hc : cells + 1 ≤ rm.cells) (hs : slots + N' ≤ rm.slots) (hd : decode cc pc = .ok (.anewarray index, 3)) (k : ∀ (q : Nat) (cA : ClassId), KAt Γ D A (cells + 1) (slots + N') (pc + 3) lv (.ref q :: vs) (ws ++ [(q, .inl (cA, N', .inr (.inr (.inr (.inr (fun _ => none))))))]) (tys ++ [(cA, .object E)])) : KAt Γ D A cells slots pc lv (.int n :: vs) ws tys := by
  obtain ⟨l, R, ⟨p, e, s, m, args, below, meth, c⟩, nL, Q⟩ := Γ
  obtain ⟨hF, -, -, -, -, e2, e3, -, hA, hXp⟩ := C
  subst e2
  exact fun H locs ls hK hP hD hS hl => va_newq hF.1 hF.2.1 hF.2.2.2.1 (hF.2.2.2.2 _ h1) (ho _ hXp) hK hP hD hS hA hn hN hb hc hs hd (fun q cA H1 hK hP hD hS => k q cA H1 locs ls hK hP hD hS hl)
theorem k_new (pc : Nat) (C : KCx Γ D A cc own l0 rm nL0 Xp post Wf Ty) {Cl : String} {T : u_T} {N ci index : Nat} {ty : Nat → FieldType} {fs : List Value} (hin : ∀ w ∈ u_ws Cl T N, w ∈ xtb) (hty : ∀ k, k < N → parseFieldDescriptor (T k).2.2.1 = some (ty k)) (h1 : Cond.classLink own index Cl ∈ xtb) (h2 : Cond.instantiable Cl N ∈ xtb) (h3 : Cond.initialized Cl ∈ xtb) (hci : vwCl[ci]? = some (Cl, T, N)) (hfs : ∀ j, j < N → defaultValue (ty j) = vp_V fs j) (hc : cells + 1 ≤ rm.cells) (hs : slots + N ≤ rm.slots) (hd : decode cc pc = .ok (.new index, 3)) (k : ∀ q : Nat, KAt Γ D A (cells + 1) (slots + N) (pc + 3) lv (.ref q :: vs) (ws ++ [(q, .inr (ci, fs))]) tys) : KAt Γ D A cells slots pc lv vs ws tys := by
  obtain ⟨l, R, ⟨p, e, s, m, args, below, meth, c⟩, nL, Q⟩ := Γ
  obtain ⟨hF, -, -, -, -, e2, e3, -, hA, hXp⟩ := C
  subst e2
  exact fun H locs ls hK hP hD hS hl => va_new hF.1 hF.2.1 hF.2.2.2.2 hin ty hty hF.2.2.2.1 (hF.2.2.2.2 _ h1) (hF.2.2.2.2 _ h2) (hF.2.2.2.2 _ h3) hK hP hD hS hA hci hfs hc hs hd (fun q H1 hP hD hS => k q H1 locs ls hK hP hD hS hl)
theorem k_putF (pc : Nat) (C : KCx Γ D A cc own l0 rm nL0 Xp post Wf Ty) {q a ci index k0 N : Nat} {fs : List Value} {Cl fn fd : String} {T : u_T} {v : Value} {ty0 : Nat → FieldType} {ty : FieldType} (he : ws[q]? = some (a, .inr (ci, fs))) (hc : vwCl[ci]? = some (Cl, T, N)) (hin : ∀ w ∈ u_ws Cl T N, w ∈ xtb) (hty : ∀ k, k < N → parseFieldDescriptor (T k).2.2.1 = some (ty0 k)) (hnm : ∀ a, a < N → ∀ b, b < N → a ≠ b → (T a).2.1 ≠ (T b).2.1) (hk : k0 < N) (hT : T k0 = (own, fn, fd, true)) (hty0 : ty0 k0 = ty) (hn : narrow ty v = v) (hfit : fits ty v = true) (hlen : k0 < fs.length) (hl0 : Cond.fieldLink own index own fn fd ∈ xtb) (hd : decode cc pc = .ok (.putfield index, 3)) (k : KAt Γ D A cells slots (pc + 3) lv vs (ws.set q (a, .inr (ci, fs.set k0 v))) tys) : KAt Γ D A cells slots pc lv (v :: .ref a :: vs) ws tys := by
  obtain ⟨l, R, ⟨p, e, s, m, args, below, meth, c⟩, nL, Q⟩ := Γ
  obtain ⟨hF, -, -, hin2, -, -, -, -⟩ := C
  refine fun H locs ls hK hP hD hS hl => va_putF (ref := own) (ty := ty) hF.1 hF.2.1 hF.2.2.2.2 hin ty0 hty hnm hF.2.2.2.1 hK hP hD hS q he hc k0 hk ?_ (fun x h => ?_) (by rw [hT]) hin2 (by rw [hT]) (by rw [← hty0]; exact hty k0 hk) hn hfit hlen hd (fun H1 locs1 hP hD hS => k H1 locs1 ls hK hP hD hS hl)
  · rw [hT]; exact hF.2.2.2.2 _ hl0
  · rw [hT] at h ⊢; exact h
theorem k_put (pc : Nat) (C : KCx Γ D A cc own l0 rm nL0 Xp post Wf Ty) {q a ci index k0 N : Nat} {fs : List Value} {Cl fr fn fd : String} {T : u_T} {v : Value} {ty0 : Nat → FieldType} {ty : FieldType} (he : ws[q]? = some (a, .inr (ci, fs))) (hc : vwCl[ci]? = some (Cl, T, N)) (hin : ∀ w ∈ u_ws Cl T N, w ∈ xtb) (hty : ∀ k, k < N → parseFieldDescriptor (T k).2.2.1 = some (ty0 k)) (hnm : ∀ a, a < N → ∀ b, b < N → a ≠ b → (T a).2.1 ≠ (T b).2.1) (hk : k0 < N) (hT : T k0 = (fr, fn, fd, false)) (hty0 : ty0 k0 = ty) (hn : narrow ty v = v) (hfit : fits ty v = true) (hlen : k0 < fs.length) (hl0 : Cond.fieldLink own index fr fn fd ∈ xtb) (hd : decode cc pc = .ok (.putfield index, 3)) (k : KAt Γ D A cells slots (pc + 3) lv vs (ws.set q (a, .inr (ci, fs.set k0 v))) tys) : KAt Γ D A cells slots pc lv (v :: .ref a :: vs) ws tys := by
  obtain ⟨l, R, ⟨p, e, s, m, args, below, meth, c⟩, nL, Q⟩ := Γ
  obtain ⟨hF, -⟩ := C
  refine fun H locs ls hK hP hD hS hl => va_put (ref := fr) (ty := ty) hF.1 hF.2.1 hF.2.2.2.2 hin ty0 hty hnm hF.2.2.2.1 hK hP hD hS q he hc k0 hk ?_ (fun x h => ?_) (by rw [hT]) (by rw [← hty0]; exact hty k0 hk) hn hfit hlen hd (fun H1 locs1 hP hD hS => k H1 locs1 ls hK hP hD hS hl)
  · rw [hT]; exact hF.2.2.2.2 _ hl0
  · rw [hT] at h ⊢; exact h
theorem k_get (pc : Nat) (C : KCx Γ D A cc own l0 rm nL0 Xp post Wf Ty) {q a ci index k0 N : Nat} {fs : List Value} {Cl fr fn fd : String} {T : u_T} {v : Value} (he : ws[q]? = some (a, .inr (ci, fs))) (hc : vwCl[ci]? = some (Cl, T, N)) (hin : ∀ w ∈ u_ws Cl T N, w ∈ xtb) (hk : k0 < N) (hT : T k0 = (fr, fn, fd, (T k0).2.2.2)) (hl0 : Cond.fieldLink own index fr fn fd ∈ xtb) (hv : fs[k0]? = some v) (hd : decode cc pc = .ok (.getfield index, 3)) (k : KAt Γ D A cells slots (pc + 3) lv (v :: vs) ws tys) : KAt Γ D A cells slots pc lv (.ref a :: vs) ws tys := by
  obtain ⟨l, R, ⟨p, e, s, m, args, below, meth, c⟩, nL, Q⟩ := Γ
  obtain ⟨hF, -⟩ := C
  refine fun H locs ls hK hP hD hS hl => va_get (ref := fr) hF.1 hF.2.1 hF.2.2.2.2 hin hF.2.2.2.1 hK hP q he hc k0 hk ?_ (fun x h => ?_) hv hd (k H locs ls hK hP hD hS hl)
  · rw [hT]; exact hF.2.2.2.2 _ hl0
  · rw [hT] at h ⊢; exact h
theorem k_iast (pc : Nat) (C : KCx Γ D A cc own l0 rm nL0 Xp post Wf Ty) {q t n a : Nat} {cA : ClassId} {f : Nat → Int32} {i x : Int32} (ha : ws[q]? = some (a, .inl (cA, n, .inl f))) (ht : tys[t]? = some (cA, .int)) (hin : xin i n = true) (hd : decode cc pc = .ok (.iastore, 1)) (k : KAt Γ D A cells slots (pc + 1) lv vs (ws.set q (a, .inl (cA, n, .inl (upd f (xti i) x)))) tys) : KAt Γ D A cells slots pc lv (.int x :: .int i :: .ref a :: vs) ws tys := by
  obtain ⟨l, R, ⟨p, e, s, m, args, below, meth, c⟩, nL, Q⟩ := Γ
  exact fun H locs ls hK hP hD hS hl => va_iast C.1.1 C.1.2.1 hK hP hD hS q t ha ht (xin_in hin) hd (fun H1 locs1 hP hD hS => k H1 locs1 ls hK hP hD hS hl)
theorem k_aast (pc : Nat) (C : KCx Γ D A cc own l0 rm nL0 Xp post Wf Ty) {q t qk ci n a v : Nat} {cA : ClassId} {r : vw_C} {fs : List Value} {f : Nat → Option Nat} {i : Int32} (ha : ws[q]? = some (a, .inl (cA, n, .inr (.inr (.inr (.inr f)))))) (ht : tys[t]? = some (cA, .object r.1)) (hv : ws[qk]? = some (v, .inr (ci, fs))) (hc : vwCl[ci]? = some r) (hin : xin i n = true) (hd : decode cc pc = .ok (.aastore, 1)) (k : KAt Γ D A cells slots (pc + 1) lv vs (ws.set q (a, .inl (cA, n, .inr (.inr (.inr (.inr (va_up f (xti i) (some v)))))))) tys) : KAt Γ D A cells slots pc lv (.ref v :: .int i :: .ref a :: vs) ws tys := by
  obtain ⟨l, R, ⟨p, e, s, m, args, below, meth, c⟩, nL, Q⟩ := Γ
  exact fun H locs ls hK hP hD hS hl => va_astq C.1.1 C.1.2.1 hK hP hD hS q t qk ci ha ht hv hc (xin_in hin) hd (fun H1 locs1 hP hD hS => k H1 locs1 ls hK hP hD hS hl)
theorem kPc_blind (av : List Value) (ws0 : va_W) (sz : Nat) : FrameBlind (va_Pc av (fun U => U.heap.size = sz ∧ va_P D vwCl ws0 U.heap ∧ va_K D vwCl [] U ∧ va_D (fun _ => True) ws0 ∧ True)) := by
  intro a U g mk q
  obtain ⟨q0, q1, qP, qK, qD, -⟩ := q
  exact ⟨q0, q1, qP, va_K.moved (u := U) (U := U.calling g mk a) (Vm.Alike.refl U.vm) qK, qD, trivial⟩
/-- a constructor is called: its object is the cell at place i of the world; behind it come its own cells -/
theorem k_callI (pc : Nat) (C : KCx Γ D A cc own l0 rm nL0 Xp post Wf Ty) {y : MethodName} {bytes : ByteArray} {maxL index : Nat} {rm1 : Room} {As rest : List Value} {b : Nat} {e0 : va_E} {Wf1 : (Nat → Nat) → (Nat → ClassId) → va_W} {Ty1 : (Nat → ClassId) → List (ClassId × FieldType)} (n : Nat) (post1 : Nat → Prop) (i : Nat) (isR : List Nat) {wr : va_W}
    (hM : ∀ sz, kM l0 D y bytes maxL rm1 (.ref b :: As) [(b, e0)] sz (fun _ => True) post1 Wf1 Ty1) (hi : [i].map (fun i => ws[i]?) = [(b, e0)].map some) (hi0 : [i].filterMap (fun i => ws[i]?) = [(b, e0)]) (hR' : isR.map (fun i => ws[i]?) = wr.map some) (hnd : va_nd isR = true) (hdis : ∀ j ∈ isR, j ∉ [i])
    (hlk0 : Cond.methodLink own index y ∈ xtb) (h2 : Cond.instanceMethod y ∈ xtb ∧ Cond.initialized y.cls ∈ xtb ∧ Cond.code y bytes maxL none ∈ xtb) (hy1 : y.name = "<init>")
    (hd : y.cls ≠ "java/lang/invoke/MethodHandle" ∧ y.cls ≠ "java/lang/invoke/VarHandle" ∧ (parseMethodDescriptor y.desc).map (fun d => d.parameters.length) = some n) (hR : rm1.frames + 1 ≤ rm.frames ∧ 8 + (maxL + 11) + rm1.locals ≤ rm.locals)
    (hn : As.length = n) (hst : vs = As.reverse ++ .ref b :: rest) (hW : (rest.map fun v => v.category).sum ≤ 8) (hdg : decode cc pc = .ok (.invokespecial index, 3)) (hc : cells + rm1.cells ≤ rm.cells) (hs : slots + rm1.slots ≤ rm.slots)
    (k : ∀ (q : Nat → Nat) (c' : Nat → ClassId), post1 (q 0) → KAt Γ D A (cells + rm1.cells) (slots + rm1.slots) (pc + 3) lv rest (wr ++ Wf1 q c') (tys ++ Ty1 c')) : KAt Γ D A cells slots pc lv vs ws tys := by
  obtain ⟨l, R, ⟨p, e, s, m, args, below, meth, c⟩, nL, Q⟩ := Γ
  obtain ⟨hF, -, -, -, e1, e2, e3, -, hA, hXp⟩ := C
  subst e1; subst e2; subst hst
  intro H locs ls hK hP hD hS hl
  have hts : ∀ w ∈ (Cond.initialized y.cls :: xtb), w.before args s = true := fun w h => by
    rcases List.mem_cons.mp h with rfl | h
    · exact hF.2.2.2.2 _ h2.2.1
    · exact hF.2.2.2.2 _ h
  have hPc := hP.sub [i] hi0
  have hDc := hD.sub [i] rfl hi
  have hFc := va_free (wc := [(b, e0)]) hD hS hA [i] hi
  refine va_callv (va_runI (As := As) (rest := rest) hF (hM H.size) (cwI n hts (x_goodS h2.2.2) rfl rfl rfl (hF.2.2.2.2 _ h2.2.1) (hF.2.2.2.2 _ hlk0) (hF.2.2.2.2 _ h2.1) hy1 hd hR) ⟨kPc_blind _ _ _, fun U hU hW => ⟨rfl, by rw [hU], by rw [hU]; exact hPc, va_K.moved hW.alike (hK.sub (tys' := []) [] rfl), hDc.weaken (fun _ _ _ _ => trivial), trivial⟩⟩ rfl hn hl.1 rfl (lv_room hW) hdg ⟨hc, hs⟩) hS (fun q _ h => hFc q h) hFc (fun u t H1 locs ht hvm hw hB hz1 hk1 hS => ?_)
  obtain ⟨q, c'⟩ := u
  obtain ⟨hP1, hK1, hD1⟩ := hB
  rw [ht] at hP1
  obtain ⟨hP2, hD2⟩ := va_join (wr := wr) hP hD [i] isR hi hR' hnd hdis hk1 hFc hP1 hD1
  exact k q c' hw H1 locs ls (hK.app (va_K.moved hvm.symm hK1)) hP2 hD2 hS hl
theorem k_callN (pc : Nat) (C : KCx Γ D A cc own l0 rm nL0 Xp post Wf Ty) {y : MethodName} {bytes : ByteArray} {host : String} {maxL index : Nat} {rm1 : Room} {As rest : List Value} {b : Nat} {e0 : va_E} {Wf1 : (Nat → Nat) → (Nat → ClassId) → va_W} {Ty1 : (Nat → ClassId) → List (ClassId × FieldType)} (n : Nat) (post1 : Nat → Prop) (i : Nat) (isR : List Nat) {wr : va_W}
    (hM : ∀ sz, kM l0 D y bytes maxL rm1 (.ref b :: As) [(b, e0)] sz (fun _ => True) post1 Wf1 Ty1) (hi : [i].map (fun i => ws[i]?) = [(b, e0)].map some) (hi0 : [i].filterMap (fun i => ws[i]?) = [(b, e0)]) (hR' : isR.map (fun i => ws[i]?) = wr.map some) (hnd : va_nd isR = true) (hdis : ∀ j ∈ isR, j ∉ [i])
    (hlk0 : ∀ U, Xp U → va_Nw (.methodLinkNest own index y host) U) (h2 : Cond.instanceMethod y ∈ xtb ∧ Cond.initialized y.cls ∈ xtb ∧ Cond.code y bytes maxL none ∈ xtb) (hy1 : y.name = "<init>")
    (hd : y.cls ≠ "java/lang/invoke/MethodHandle" ∧ y.cls ≠ "java/lang/invoke/VarHandle" ∧ (parseMethodDescriptor y.desc).map (fun d => d.parameters.length) = some n) (hR : rm1.frames + 1 ≤ rm.frames ∧ 8 + (maxL + 11) + rm1.locals ≤ rm.locals)
    (hn : As.length = n) (hst : vs = As.reverse ++ .ref b :: rest) (hW : (rest.map fun v => v.category).sum ≤ 8) (hdg : decode cc pc = .ok (.invokespecial index, 3)) (hc : cells + rm1.cells ≤ rm.cells) (hs : slots + rm1.slots ≤ rm.slots)
    (k : ∀ (q : Nat → Nat) (c' : Nat → ClassId), post1 (q 0) → KAt Γ D A (cells + rm1.cells) (slots + rm1.slots) (pc + 3) lv rest (wr ++ Wf1 q c') (tys ++ Ty1 c')) : KAt Γ D A cells slots pc lv vs ws tys := by
  obtain ⟨l, R, ⟨p, e, s, m, args, below, meth, c⟩, nL, Q⟩ := Γ
  obtain ⟨hF, -, -, -, e1, e2, e3, -, hA, hXp⟩ := C
  subst e1; subst e2; subst hst
  intro H locs ls hK hP hD hS hl
  have hts : ∀ w ∈ (Cond.initialized y.cls :: xtb), w.before args s = true := fun w h => by
    rcases List.mem_cons.mp h with rfl | h
    · exact hF.2.2.2.2 _ h2.2.1
    · exact hF.2.2.2.2 _ h
  have hPc := hP.sub [i] hi0
  have hDc := hD.sub [i] rfl hi
  have hFc := va_free (wc := [(b, e0)]) hD hS hA [i] hi
  refine va_callv (va_runIN (As := As) (rest := rest) hF (hM H.size) ⟨va_cnB n hts (x_goodS h2.2.2) rfl rfl rfl (hlk0 _ hXp) (hF.2.2.2.2 _ h2.2.1) hd hR, hy1, hF.2.2.2.2 _ h2.1⟩ ⟨kPc_blind _ _ _, fun U hU hW => ⟨rfl, by rw [hU], by rw [hU]; exact hPc, va_K.moved hW.alike (hK.sub (tys' := []) [] rfl), hDc.weaken (fun _ _ _ _ => trivial), trivial⟩⟩ rfl hn hl.1 rfl (lv_room hW) hdg ⟨hc, hs⟩) hS (fun q _ h => hFc q h) hFc (fun u t H1 locs ht hvm hw hB hz1 hk1 hS => ?_)
  obtain ⟨q, c'⟩ := u
  obtain ⟨hP1, hK1, hD1⟩ := hB
  rw [ht] at hP1
  obtain ⟨hP2, hD2⟩ := va_join (wr := wr) hP hD [i] isR hi hR' hnd hdis hk1 hFc hP1 hD1
  exact k q c' hw H1 locs ls (hK.app (va_K.moved hvm.symm hK1)) hP2 hD2 hS hl
end KR
theorem vp_cell_congr {cA : ClassId} {n : Nat} {f g : Nat → Int32} (h : ∀ i, i < n → f i = g i) : vp_cell cA (n, .inl f) = vp_cell cA (n, .inl g) := by
  rw [vp_cell_i, vp_cell_i]
  have e : (fun j : Fin n => Value.int (f j.val)) = fun j => Value.int (g j.val) := funext fun j => by rw [h j.val j.isLt]
  simp only [arrV, e]
theorem vp_cell_congrq {cA : ClassId} {n : Nat} {f g : Nat → Option Nat} (h : ∀ i, i < n → f i = g i) : vp_cell cA (n, .inr (.inr (.inr (.inr f)))) = vp_cell cA (n, .inr (.inr (.inr (.inr g)))) := by
  rw [vp_cell_q, vp_cell_q]
  have e : (fun j : Fin n => va_rf (f j.val)) = fun j => va_rf (g j.val) := funext fun j => by rw [h j.val j.isLt]
  simp only [arrV, e]
