/-! ENGINE: a walk at the level of 'what is on the locals, the stack and the store', over any world that is a function of a store -/
abbrev XSt : Type := Nat → Nat → Int32
def xst (S : XSt) (q i : Nat) (v : Int32) : XSt := fun q' => if q' = q then upd (S q) i v else S q'
abbrev XSr : Type := XSt × Int64
def xsr (S : XSr) (q i : Nat) (v : Int32) : XSr := (xst S.1 q i v, S.2)
def xsl (S : XSr) (v : Int64) : XSr := (S.1, v)
def xlet {α β : Type} (e : α) (F : α → β) : β := F e
def xin (i : Int32) (n : Nat) : Bool := !(decide (i < 0) || decide (n ≤ i.toNatClampNeg))
def xbool (v : Int32) : Bool := decide (v = 0) || decide (v = 1)
abbrev xti (i : Int32) : Nat := i.toNatClampNeg
theorem xin_in {i : Int32} {n : Nat} (h : xin i n = true) : vp_in i n := by
  intro hc
  simp only [xin, Bool.not_eq_true', Bool.or_eq_false_iff, decide_eq_false_iff_not] at h
  rcases hc with hc | hc
  · exact h.1 hc
  · exact h.2 hc
theorem xif_some {α : Type} {c : Prop} [Decidable c] {A : Option α} {o : α} (h : (if c then A else none) = some o) : c ∧ A = some o := by
  by_cases hc : c
  · rw [if_pos hc] at h; exact ⟨hc, h⟩
  · rw [if_neg hc] at h; cases h
theorem xbind_some {α β : Type} {x : Option α} {F : α → Option β} {o : β} (h : x.bind F = some o) : ∃ q, x = some q ∧ F q = some o := by
  cases x with
  | none => cases h
  | some q => exact ⟨q, rfl, h⟩
def xloop {τ ρ : Type} (body : (τ → Option ρ) → τ → Option ρ) : Nat → τ → Option ρ
  | 0, _ => none
  | n + 1, t => body (xloop body n) t
def xlp {τ ε ρ : Type} (Bd : (ε → Option ρ) → (τ → Option ρ) → τ → Option ρ) (k : ε → Option ρ) (n : Nat) (t : τ) : Option ρ := xloop (Bd k) n t
def XFU : Nat := 100000
theorem x_loop {τ ε ρ : Type} {Bd : (ε → Option ρ) → (τ → Option ρ) → τ → Option ρ} {k : ε → Option ρ} {o : ρ} {n : Nat} {t : τ} (E : ε → Prop) (P : τ → Prop) (h : xlp Bd k n t = some o) (hk : ∀ e, k e = some o → E e)
    (hb : ∀ (k' : ε → Option ρ) (rc : τ → Option ρ) (t : τ), (∀ e, k' e = some o → E e) → (∀ t', rc t' = some o → P t') → Bd k' rc t = some o → P t) : P t := by
  unfold xlp at h
  induction n generalizing t with
  | zero => cases h
  | succ n ih => exact hb k (xloop (Bd k) n) t hk (fun t' h' => ih h') h
theorem x_join {τ ρ : Type} {o : ρ} {J : τ → ρ} {F : (τ → ρ) → ρ} {G : Prop} (P : τ → Prop) (h : xlet J F = o) (hJ : ∀ t, J t = o → P t) (k : ∀ j : τ → ρ, (∀ t, j t = o → P t) → F j = o → G) : G := k J hJ h
def xtb : List Cond := lw_tbl.filter goodWord
theorem xtb_in {w : Cond} (i : Nat) (h : lw_tbl[i]? = some w) (g : goodWord w = true) : w ∈ xtb := List.mem_filter.mpr ⟨List.mem_of_getElem? h, g⟩
theorem xtb_ws (ws : List Cond) (ps : List Nat) (hp : ws = ps.filterMap (fun i => lw_tbl[i]?)) (h : ws.all goodWord = true) : ∀ w ∈ ws, w ∈ xtb := by
  intro w hw
  have h1 := List.all_eq_true.mp h w hw
  rw [hp] at hw
  obtain ⟨i, -, hi⟩ := List.mem_filterMap.mp hw
  exact xtb_in i hi h1
theorem xnar {v : Int32} (hz : xbool v = true) : narrow .boolean (.int v) = .int v := by
  simp only [xbool, Bool.or_eq_true, decide_eq_true_eq] at hz
  rcases hz with rfl | rfl <;> rfl
theorem xfit {v : Int32} (hz : xbool v = true) : fits .boolean (.int v) = true := by
  simp only [xbool, Bool.or_eq_true, decide_eq_true_eq] at hz
  rcases hz with rfl | rfl <;> rfl
theorem xtb_good {w c0 : Cond} (h : w ∈ xtb) : w ∈ c0 :: xtb ∧ ((w.onTables && w.keeps) = true ∨ ∃ ty, w = .arrayClass ty) := ⟨List.mem_cons_of_mem _ h, good_of_word (List.mem_filter.mp h).2⟩
abbrev XK : Type := Program × Env × State × MethodId × Array Value × List Frame × Method × Code
abbrev XW (σ : Type) : Type := va_G × (Nat → Prop) × List (ClassId × FieldType) × (σ → va_W)
abbrev XG (σ : Type) : Type := Launch × Room × XK × Nat × (Option Value × σ)
def xWd {σ : Type} (ω : XW σ) (S : σ) (U : State) : Prop := va_P ω.1 vwCl (ω.2.2.2 S) U.heap ∧ va_K ω.1 vwCl ω.2.2.1 U ∧ va_D ω.2.1 (ω.2.2.2 S)
def xQ {σ : Type} (ω : XW σ) (out : Option Value × σ) : Array Value → State → Outcome → State → Prop := fun _ st oc t => oc = .returned out.1 ∧ xWd ω out.2 t ∧ va_F ω.2.1 st t
def XAt {σ : Type} (ω : XW σ) (Γ : XG σ) (pc : Nat) (lv : List (Nat × Value)) (vs : List Value) (S : σ) : Prop := match Γ with
  | (l, R, (p, e, s, m, args, below, meth, c), nL, out) => ∀ (H : Heap) (locs : List Loc) (ls : Array Slot), va_P ω.1 vwCl (ω.2.2.2 S) H → va_D ω.2.1 (ω.2.2.2 S) → va_S ω.2.1 s.heap H locs → lv_has ls nL lv →
    W p l e R s m args below meth c H locs 0 0 (MQ below (xQ ω out) args s 0 0 ω.2.1) (F0 m pc ls vs)
def Cx {σ : Type} (ω : XW σ) (Γ : XG σ) (cc : ByteArray) (own : String) (ret : Option FieldType) (l0 : Launch) (rm : Room) (nL0 : Nat) (out0 : Option Value × σ) : Prop := match Γ with
  | (l, R, (p, _, s, m, args, _, meth, c), nL, out) => (p.tables.exec = Jvm.exec ∧ c.code = cc ∧ c.maxLocals = nL ∧ s.vm.findClass own = some m.cls ∧ (∀ w ∈ xtb, w.before args s = true)) ∧ meth.locks = false ∧ meth.sig.returnType = ret ∧ va_K ω.1 vwCl ω.2.2.1 s ∧ l = l0 ∧ R = rm ∧ nL = nL0 ∧ out = out0
/-- a method's contract: from the store S to the answer and the store of out -/
def xM {σ : Type} (l : Launch) (ω : XW σ) (y : MethodName) (cc : ByteArray) (n : Nat) (ret : Option FieldType) (rm : Room) (av : List Value) (S : σ) (out : Option Value × σ) : Prop :=
  Met l y (.code y cc n ret :: xtb) rm (va_Pc av (xWd ω S)) (xQ ω out) 0 0 ω.2.1
theorem xM_of {σ : Type} {l : Launch} {ω : XW σ} {y : MethodName} {cc : ByteArray} {n : Nat} {ret : Option FieldType} {rm : Room} {av : List Value} {S : σ} {out : Option Value × σ} {own : String} (hy : plainName y.cls = true) (ho : y.cls = own) (hn : (lg_sl av).length ≤ n)
    (k : ∀ Γ : XG σ, Cx ω Γ cc own ret l rm n out → XAt ω Γ 0 (lv_args 0 av) [] S) : xM l ω y cc n ret rm av S out := by
  refine Met.ofW (cc := cc) (maxL := n) (ret := ret) hy rfl ?_
  intro p e s m args below meth c s₁ B hml hv
  obtain ⟨rfl, hP, hK, hD⟩ := hv
  have hts := atoms_spec (ws := .code y cc n ret :: xtb) B.pre
  have hown : s.vm.findClass own = some m.cls := by rw [← ho]; exact findClass_of_methodNamed B.named
  have hl := lv_entry av (n := n) hn
  rw [lg_entry_eq]
  exact k (l, rm, (p, e, s, m, av.toArray, below, meth, c), n, out) ⟨⟨B.exec, B.bytes, hml, hown, fun w hw => hts w (List.mem_cons_of_mem _ hw)⟩, B.notSynchronized, B.returns, hK, rfl, rfl, rfl, rfl⟩ s.heap [] _ hP hD va_S.rf hl
section XR
variable {σ : Type} {ω : XW σ} {Γ : XG σ} {cc : ByteArray} {own : String} {ret : Option FieldType} {l0 : Launch} {rm : Room} {nL0 : Nat} {out0 : Option Value × σ} {lv : List (Nat × Value)} {vs : List Value} {S : σ}
theorem x_sub (pc : Nat) {lv' : List (Nat × Value)} (ks : List Nat) (hl : lv_pick lv ks = lv') (k : XAt ω Γ pc lv' vs S) : XAt ω Γ pc lv vs S := by
  obtain ⟨l, R, ⟨p, e, s, m, args, below, meth, c⟩, nL, out⟩ := Γ
  exact fun H locs ls hP hD hS hv => k H locs ls hP hD hS (lv_sub hv ks hl)
theorem x_top {ρ : Type} {o : ρ} {x : Int32} {F : Int32 → ρ} {pc : Nat} (h : xlet x F = o) (k : ∀ y : Int32, F y = o → XAt ω Γ pc lv (.int y :: vs) S) : XAt ω Γ pc lv (.int x :: vs) S := k x h
theorem x_topS {ρ : Type} {o : ρ} {x : σ} {F : σ → ρ} {pc : Nat} (h : xlet x F = o) (k : ∀ y : σ, F y = o → XAt ω Γ pc lv vs y) : XAt ω Γ pc lv vs x := k x h
theorem x_topl {ρ : Type} {o : ρ} {x : Int64} {F : Int64 → ρ} {pc : Nat} (h : xlet x F = o) (k : ∀ y : Int64, F y = o → XAt ω Γ pc lv (.long y :: vs) S) : XAt ω Γ pc lv (.long x :: vs) S := k x h
theorem x_iconst (pc : Nat) (C : Cx ω Γ cc own ret l0 rm nL0 out0) {n : Int} {v : Int32} (hd : decode cc pc = .ok (.iconst n, 1)) (hv : Int32.ofInt n = v) (k : XAt ω Γ (pc + 1) lv (.int v :: vs) S) : XAt ω Γ pc lv vs S := by
  obtain ⟨l, R, ⟨p, e, s, m, args, below, meth, c⟩, nL, out⟩ := Γ
  exact fun H locs ls hP hD hS hl => lv_iconst C.1.1 C.1.2.1 hd hv (k H locs ls hP hD hS hl)
theorem x_bipush (pc : Nat) (C : Cx ω Γ cc own ret l0 rm nL0 out0) {n : Int} {v : Int32} (hd : decode cc pc = .ok (.bipush n, 2)) (hv : (Int8.ofInt n).toInt32 = v) (k : XAt ω Γ (pc + 2) lv (.int v :: vs) S) : XAt ω Γ pc lv vs S := by
  obtain ⟨l, R, ⟨p, e, s, m, args, below, meth, c⟩, nL, out⟩ := Γ
  exact fun H locs ls hP hD hS hl => lv_bipush C.1.1 C.1.2.1 hd hv (k H locs ls hP hD hS hl)
theorem x_sipush (pc : Nat) (C : Cx ω Γ cc own ret l0 rm nL0 out0) {n : Int} {v : Int32} (hd : decode cc pc = .ok (.sipush n, 3)) (hv : (Int16.ofInt n).toInt32 = v) (k : XAt ω Γ (pc + 3) lv (.int v :: vs) S) : XAt ω Γ pc lv vs S := by
  obtain ⟨l, R, ⟨p, e, s, m, args, below, meth, c⟩, nL, out⟩ := Γ
  exact fun H locs ls hP hD hS hl => lv_sipush C.1.1 C.1.2.1 hd hv (k H locs ls hP hD hS hl)
theorem x_lconst (pc : Nat) (C : Cx ω Γ cc own ret l0 rm nL0 out0) {n : Fin 2} {v : Int64} (hd : decode cc pc = .ok (.lconst n, 1)) (hv : Int64.ofNat (n : Nat) = v) (k : XAt ω Γ (pc + 1) lv (.long v :: vs) S) : XAt ω Γ pc lv vs S := by
  obtain ⟨l, R, ⟨p, e, s, m, args, below, meth, c⟩, nL, out⟩ := Γ
  exact fun H locs ls hP hD hS hl => lv_lconst C.1.1 C.1.2.1 hd hv (k H locs ls hP hD hS hl)
theorem x_ldc (pc : Nat) (C : Cx ω Γ cc own ret l0 rm nL0 out0) {index : Nat} {v : Int32} (hw : Cond.constant own index v ∈ xtb) (hd : decode cc pc = .ok (.ldc index, 2)) (k : XAt ω Γ (pc + 2) lv (.int v :: vs) S) : XAt ω Γ pc lv vs S := by
  obtain ⟨l, R, ⟨p, e, s, m, args, below, meth, c⟩, nL, out⟩ := Γ
  exact fun H locs ls hP hD hS hl => lv_ldc C.1.1 C.1.2.1 C.1.2.2.2.1 (C.1.2.2.2.2 _ hw) hd (k H locs ls hP hD hS hl)
theorem x_ldcw (pc : Nat) (C : Cx ω Γ cc own ret l0 rm nL0 out0) {index : Nat} {v : Int32} (hw : Cond.constant own index v ∈ xtb) (hd : decode cc pc = .ok (.ldc_w index, 3)) (k : XAt ω Γ (pc + 3) lv (.int v :: vs) S) : XAt ω Γ pc lv vs S := by
  obtain ⟨l, R, ⟨p, e, s, m, args, below, meth, c⟩, nL, out⟩ := Γ
  exact fun H locs ls hP hD hS hl => lv_ldcw C.1.1 C.1.2.1 C.1.2.2.2.1 (C.1.2.2.2.2 _ hw) hd (k H locs ls hP hD hS hl)
theorem x_ldc2 (pc : Nat) (C : Cx ω Γ cc own ret l0 rm nL0 out0) {index : Nat} {v : Int64} (hw : Cond.constantLong own index v ∈ xtb) (hd : decode cc pc = .ok (.ldc2_w index, 3)) (k : XAt ω Γ (pc + 3) lv (.long v :: vs) S) : XAt ω Γ pc lv vs S := by
  obtain ⟨l, R, ⟨p, e, s, m, args, below, meth, c⟩, nL, out⟩ := Γ
  exact fun H locs ls hP hD hS hl => lv_ldc2 C.1.1 C.1.2.1 C.1.2.2.2.1 (C.1.2.2.2.2 _ hw) hd (k H locs ls hP hD hS hl)
theorem x_iload_n (pc : Nat) (C : Cx ω Γ cc own ret l0 rm nL0 out0) {n : Fin 4} {i : Nat} {x : Int32} (hd : decode cc pc = .ok (.iload_n n, 1)) (hi : (n : Nat) = i) (j : Nat) (hj : lv[j]? = some (i, .int x)) (k : XAt ω Γ (pc + 1) lv (.int x :: vs) S) : XAt ω Γ pc lv vs S := by
  obtain ⟨l, R, ⟨p, e, s, m, args, below, meth, c⟩, nL, out⟩ := Γ
  exact fun H locs ls hP hD hS hl => lv_iload_n C.1.1 C.1.2.1 hd hi (lv_at hl j hj) (k H locs ls hP hD hS hl)
theorem x_iload (pc : Nat) (C : Cx ω Γ cc own ret l0 rm nL0 out0) {i : Nat} {x : Int32} (hd : decode cc pc = .ok (.iload i, 2)) (j : Nat) (hj : lv[j]? = some (i, .int x)) (k : XAt ω Γ (pc + 2) lv (.int x :: vs) S) : XAt ω Γ pc lv vs S := by
  obtain ⟨l, R, ⟨p, e, s, m, args, below, meth, c⟩, nL, out⟩ := Γ
  exact fun H locs ls hP hD hS hl => lv_iload C.1.1 C.1.2.1 hd (lv_at hl j hj) (k H locs ls hP hD hS hl)
theorem x_lload_n (pc : Nat) (C : Cx ω Γ cc own ret l0 rm nL0 out0) {n : Fin 4} {i : Nat} {x : Int64} (hd : decode cc pc = .ok (.lload_n n, 1)) (hi : (n : Nat) = i) (j : Nat) (hj : lv[j]? = some (i, .long x)) (k : XAt ω Γ (pc + 1) lv (.long x :: vs) S) : XAt ω Γ pc lv vs S := by
  obtain ⟨l, R, ⟨p, e, s, m, args, below, meth, c⟩, nL, out⟩ := Γ
  exact fun H locs ls hP hD hS hl => lv_lload_n C.1.1 C.1.2.1 hd hi (lv_at hl j hj) (k H locs ls hP hD hS hl)
theorem x_lload (pc : Nat) (C : Cx ω Γ cc own ret l0 rm nL0 out0) {i : Nat} {x : Int64} (hd : decode cc pc = .ok (.lload i, 2)) (j : Nat) (hj : lv[j]? = some (i, .long x)) (k : XAt ω Γ (pc + 2) lv (.long x :: vs) S) : XAt ω Γ pc lv vs S := by
  obtain ⟨l, R, ⟨p, e, s, m, args, below, meth, c⟩, nL, out⟩ := Γ
  exact fun H locs ls hP hD hS hl => lv_lload C.1.1 C.1.2.1 hd (lv_at hl j hj) (k H locs ls hP hD hS hl)
theorem x_aload_n (pc : Nat) (C : Cx ω Γ cc own ret l0 rm nL0 out0) {n : Fin 4} {i : Nat} {x : Nat} (hd : decode cc pc = .ok (.aload_n n, 1)) (hi : (n : Nat) = i) (j : Nat) (hj : lv[j]? = some (i, .ref x)) (k : XAt ω Γ (pc + 1) lv (.ref x :: vs) S) : XAt ω Γ pc lv vs S := by
  obtain ⟨l, R, ⟨p, e, s, m, args, below, meth, c⟩, nL, out⟩ := Γ
  exact fun H locs ls hP hD hS hl => lv_aload_n C.1.1 C.1.2.1 hd hi (lv_at hl j hj) (k H locs ls hP hD hS hl)
theorem x_aload (pc : Nat) (C : Cx ω Γ cc own ret l0 rm nL0 out0) {i : Nat} {x : Nat} (hd : decode cc pc = .ok (.aload i, 2)) (j : Nat) (hj : lv[j]? = some (i, .ref x)) (k : XAt ω Γ (pc + 2) lv (.ref x :: vs) S) : XAt ω Γ pc lv vs S := by
  obtain ⟨l, R, ⟨p, e, s, m, args, below, meth, c⟩, nL, out⟩ := Γ
  exact fun H locs ls hP hD hS hl => lv_aload C.1.1 C.1.2.1 hd (lv_at hl j hj) (k H locs ls hP hD hS hl)
/-- the locals behind a store of one word, of two words -/
def xl1 (lv : List (Nat × Value)) (i : Nat) (v : Value) : List (Nat × Value) := (i, v) :: lv.filter (fun q => !(q.1 == i) && !(q.1 + 1 == i && q.2.category == 2))
def xl2 (lv : List (Nat × Value)) (i : Nat) (v : Value) : List (Nat × Value) := (i, v) :: lv.filter (fun q => !(q.1 == i) && (!(q.1 == i + 1) && !(q.1 + 1 == i && q.2.category == 2)))
theorem x_istore_n (pc : Nat) (C : Cx ω Γ cc own ret l0 rm nL0 out0) {n : Fin 4} {i : Nat} {x : Int32} {lv' : List (Nat × Value)} (hd : decode cc pc = .ok (.istore_n n, 1)) (hi : (n : Nat) = i) (hn : i < nL0) (ks : List Nat) (hl' : lv_pick (xl1 lv i (.int x)) ks = lv') (k : XAt ω Γ (pc + 1) lv' vs S) : XAt ω Γ pc lv (.int x :: vs) S := by
  obtain ⟨l, R, ⟨p, e, s, m, args, below, meth, c⟩, nL, out⟩ := Γ
  exact fun H locs ls hP hD hS hl => lv_istore_n C.1.1 C.1.2.1 hd hi hl (by rw [C.2.2.2.2.2.2.1]; exact hn) rfl (fun ls hl => k H locs ls hP hD hS (lv_sub hl ks hl'))
theorem x_istore (pc : Nat) (C : Cx ω Γ cc own ret l0 rm nL0 out0) {i : Nat} {x : Int32} {lv' : List (Nat × Value)} (hd : decode cc pc = .ok (.istore i, 2)) (hn : i < nL0) (ks : List Nat) (hl' : lv_pick (xl1 lv i (.int x)) ks = lv') (k : XAt ω Γ (pc + 2) lv' vs S) : XAt ω Γ pc lv (.int x :: vs) S := by
  obtain ⟨l, R, ⟨p, e, s, m, args, below, meth, c⟩, nL, out⟩ := Γ
  exact fun H locs ls hP hD hS hl => lv_istore C.1.1 C.1.2.1 hd hl (by rw [C.2.2.2.2.2.2.1]; exact hn) rfl (fun ls hl => k H locs ls hP hD hS (lv_sub hl ks hl'))
theorem x_lstore_n (pc : Nat) (C : Cx ω Γ cc own ret l0 rm nL0 out0) {n : Fin 4} {i : Nat} {x : Int64} {lv' : List (Nat × Value)} (hd : decode cc pc = .ok (.lstore_n n, 1)) (hi : (n : Nat) = i) (hn : i + 1 < nL0) (ks : List Nat) (hl' : lv_pick (xl2 lv i (.long x)) ks = lv') (k : XAt ω Γ (pc + 1) lv' vs S) : XAt ω Γ pc lv (.long x :: vs) S := by
  obtain ⟨l, R, ⟨p, e, s, m, args, below, meth, c⟩, nL, out⟩ := Γ
  exact fun H locs ls hP hD hS hl => lv_lstore_n C.1.1 C.1.2.1 hd hi hl (by rw [C.2.2.2.2.2.2.1]; exact hn) rfl (fun ls hl => k H locs ls hP hD hS (lv_sub hl ks hl'))
theorem x_lstore (pc : Nat) (C : Cx ω Γ cc own ret l0 rm nL0 out0) {i : Nat} {x : Int64} {lv' : List (Nat × Value)} (hd : decode cc pc = .ok (.lstore i, 2)) (hn : i + 1 < nL0) (ks : List Nat) (hl' : lv_pick (xl2 lv i (.long x)) ks = lv') (k : XAt ω Γ (pc + 2) lv' vs S) : XAt ω Γ pc lv (.long x :: vs) S := by
  obtain ⟨l, R, ⟨p, e, s, m, args, below, meth, c⟩, nL, out⟩ := Γ
  exact fun H locs ls hP hD hS hl => lv_lstore C.1.1 C.1.2.1 hd hl (by rw [C.2.2.2.2.2.2.1]; exact hn) rfl (fun ls hl => k H locs ls hP hD hS (lv_sub hl ks hl'))
theorem x_iinc {ρ : Type} {o : ρ} {F : Int32 → ρ} (pc : Nat) (C : Cx ω Γ cc own ret l0 rm nL0 out0) {i : Nat} {n : Int} {x w : Int32} {L : Int32 → List (Nat × Value)} (hd : decode cc pc = .ok (.iinc i n, 3)) (j : Nat) (hj : lv[j]? = some (i, .int x)) (hw : Int32.ofInt n = w) (hn : i < nL0) (ks : List Nat) (hl' : ∀ v, lv_pick (xl1 lv i (.int v)) ks = L v) (h : xlet (x + w) F = o) (k : ∀ v, F v = o → XAt ω Γ (pc + 3) (L v) vs S) : XAt ω Γ pc lv vs S := by
  obtain ⟨l, R, ⟨p, e, s, m, args, below, meth, c⟩, nL, out⟩ := Γ
  exact fun H locs ls hP hD hS hl => lv_iinc C.1.1 C.1.2.1 (v := x + w) hd hl hj (by rw [hw]) (by rw [C.2.2.2.2.2.2.1]; exact hn) rfl (fun ls hl => k _ h H locs ls hP hD hS (lv_sub hl ks (hl' _)))
end XR
