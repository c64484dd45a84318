section XR2
variable {σ : Type} {ω : XW σ} {Γ : XG σ} {cc : ByteArray} {own : String} {ret : Option FieldType} {l0 : Launch} {rm : Room} {nL0 : Nat} {out0 : Option Value × σ} {lv : List (Nat × Value)} {vs : List Value} {S : σ}
theorem x_iadd (pc : Nat) (C : Cx ω Γ cc own ret l0 rm nL0 out0) {x y : Int32} (hd : decode cc pc = .ok (.iadd, 1)) (k : XAt ω Γ (pc + 1) lv (.int (x + y) :: vs) S) : XAt ω Γ pc lv (.int y :: .int x :: vs) S := by
  obtain ⟨l, R, ⟨p, e, s, m, args, below, meth, c⟩, nL, out⟩ := Γ
  exact fun H locs ls hP hD hS hl => lv_iadd C.1.1 C.1.2.1 hd (k H locs ls hP hD hS hl)
theorem x_isub (pc : Nat) (C : Cx ω Γ cc own ret l0 rm nL0 out0) {x y : Int32} (hd : decode cc pc = .ok (.isub, 1)) (k : XAt ω Γ (pc + 1) lv (.int (x - y) :: vs) S) : XAt ω Γ pc lv (.int y :: .int x :: vs) S := by
  obtain ⟨l, R, ⟨p, e, s, m, args, below, meth, c⟩, nL, out⟩ := Γ
  exact fun H locs ls hP hD hS hl => lv_isub C.1.1 C.1.2.1 hd (k H locs ls hP hD hS hl)
theorem x_imul (pc : Nat) (C : Cx ω Γ cc own ret l0 rm nL0 out0) {x y : Int32} (hd : decode cc pc = .ok (.imul, 1)) (k : XAt ω Γ (pc + 1) lv (.int (x * y) :: vs) S) : XAt ω Γ pc lv (.int y :: .int x :: vs) S := by
  obtain ⟨l, R, ⟨p, e, s, m, args, below, meth, c⟩, nL, out⟩ := Γ
  exact fun H locs ls hP hD hS hl => lv_imul C.1.1 C.1.2.1 hd (k H locs ls hP hD hS hl)
theorem x_iand (pc : Nat) (C : Cx ω Γ cc own ret l0 rm nL0 out0) {x y : Int32} (hd : decode cc pc = .ok (.iand, 1)) (k : XAt ω Γ (pc + 1) lv (.int (x &&& y) :: vs) S) : XAt ω Γ pc lv (.int y :: .int x :: vs) S := by
  obtain ⟨l, R, ⟨p, e, s, m, args, below, meth, c⟩, nL, out⟩ := Γ
  exact fun H locs ls hP hD hS hl => lv_iand C.1.1 C.1.2.1 hd (k H locs ls hP hD hS hl)
theorem x_ior (pc : Nat) (C : Cx ω Γ cc own ret l0 rm nL0 out0) {x y : Int32} (hd : decode cc pc = .ok (.ior, 1)) (k : XAt ω Γ (pc + 1) lv (.int (x ||| y) :: vs) S) : XAt ω Γ pc lv (.int y :: .int x :: vs) S := by
  obtain ⟨l, R, ⟨p, e, s, m, args, below, meth, c⟩, nL, out⟩ := Γ
  exact fun H locs ls hP hD hS hl => lv_ior C.1.1 C.1.2.1 hd (k H locs ls hP hD hS hl)
theorem x_ixor (pc : Nat) (C : Cx ω Γ cc own ret l0 rm nL0 out0) {x y : Int32} (hd : decode cc pc = .ok (.ixor, 1)) (k : XAt ω Γ (pc + 1) lv (.int (x ^^^ y) :: vs) S) : XAt ω Γ pc lv (.int y :: .int x :: vs) S := by
  obtain ⟨l, R, ⟨p, e, s, m, args, below, meth, c⟩, nL, out⟩ := Γ
  exact fun H locs ls hP hD hS hl => lv_ixor C.1.1 C.1.2.1 hd (k H locs ls hP hD hS hl)
theorem x_ishl (pc : Nat) (C : Cx ω Γ cc own ret l0 rm nL0 out0) {x y : Int32} (hd : decode cc pc = .ok (.ishl, 1)) (k : XAt ω Γ (pc + 1) lv (.int (x <<< (y &&& 31)) :: vs) S) : XAt ω Γ pc lv (.int y :: .int x :: vs) S := by
  obtain ⟨l, R, ⟨p, e, s, m, args, below, meth, c⟩, nL, out⟩ := Γ
  exact fun H locs ls hP hD hS hl => lv_ishl C.1.1 C.1.2.1 hd (k H locs ls hP hD hS hl)
theorem x_ishr (pc : Nat) (C : Cx ω Γ cc own ret l0 rm nL0 out0) {x y : Int32} (hd : decode cc pc = .ok (.ishr, 1)) (k : XAt ω Γ (pc + 1) lv (.int (x >>> (y &&& 31)) :: vs) S) : XAt ω Γ pc lv (.int y :: .int x :: vs) S := by
  obtain ⟨l, R, ⟨p, e, s, m, args, below, meth, c⟩, nL, out⟩ := Γ
  exact fun H locs ls hP hD hS hl => lv_ishr C.1.1 C.1.2.1 hd (k H locs ls hP hD hS hl)
theorem x_ladd (pc : Nat) (C : Cx ω Γ cc own ret l0 rm nL0 out0) {x y : Int64} (hd : decode cc pc = .ok (.ladd, 1)) (k : XAt ω Γ (pc + 1) lv (.long (x + y) :: vs) S) : XAt ω Γ pc lv (.long y :: .long x :: vs) S := by
  obtain ⟨l, R, ⟨p, e, s, m, args, below, meth, c⟩, nL, out⟩ := Γ
  exact fun H locs ls hP hD hS hl => lv_ladd C.1.1 C.1.2.1 hd (k H locs ls hP hD hS hl)
theorem x_lsub (pc : Nat) (C : Cx ω Γ cc own ret l0 rm nL0 out0) {x y : Int64} (hd : decode cc pc = .ok (.lsub, 1)) (k : XAt ω Γ (pc + 1) lv (.long (x - y) :: vs) S) : XAt ω Γ pc lv (.long y :: .long x :: vs) S := by
  obtain ⟨l, R, ⟨p, e, s, m, args, below, meth, c⟩, nL, out⟩ := Γ
  exact fun H locs ls hP hD hS hl => lv_lsub C.1.1 C.1.2.1 hd (k H locs ls hP hD hS hl)
theorem x_lmul (pc : Nat) (C : Cx ω Γ cc own ret l0 rm nL0 out0) {x y : Int64} (hd : decode cc pc = .ok (.lmul, 1)) (k : XAt ω Γ (pc + 1) lv (.long (x * y) :: vs) S) : XAt ω Γ pc lv (.long y :: .long x :: vs) S := by
  obtain ⟨l, R, ⟨p, e, s, m, args, below, meth, c⟩, nL, out⟩ := Γ
  exact fun H locs ls hP hD hS hl => lv_lmul C.1.1 C.1.2.1 hd (k H locs ls hP hD hS hl)
theorem x_idiv (pc : Nat) (C : Cx ω Γ cc own ret l0 rm nL0 out0) {x y : Int32} (hne : ¬ y = 0) (hd : decode cc pc = .ok (.idiv, 1)) (k : XAt ω Γ (pc + 1) lv (.int (x / y) :: vs) S) : XAt ω Γ pc lv (.int y :: .int x :: vs) S := by
  obtain ⟨l, R, ⟨p, e, s, m, args, below, meth, c⟩, nL, out⟩ := Γ
  exact fun H locs ls hP hD hS hl => lv_idiv C.1.1 C.1.2.1 hd hne (k H locs ls hP hD hS hl)
theorem x_irem (pc : Nat) (C : Cx ω Γ cc own ret l0 rm nL0 out0) {x y : Int32} (hne : ¬ y = 0) (hd : decode cc pc = .ok (.irem, 1)) (k : XAt ω Γ (pc + 1) lv (.int (x - x / y * y) :: vs) S) : XAt ω Γ pc lv (.int y :: .int x :: vs) S := by
  obtain ⟨l, R, ⟨p, e, s, m, args, below, meth, c⟩, nL, out⟩ := Γ
  exact fun H locs ls hP hD hS hl => lv_irem C.1.1 C.1.2.1 hd hne (k H locs ls hP hD hS hl)
theorem x_ldiv (pc : Nat) (C : Cx ω Γ cc own ret l0 rm nL0 out0) {x y : Int64} (hne : ¬ y = 0) (hd : decode cc pc = .ok (.ldiv, 1)) (k : XAt ω Γ (pc + 1) lv (.long (x / y) :: vs) S) : XAt ω Γ pc lv (.long y :: .long x :: vs) S := by
  obtain ⟨l, R, ⟨p, e, s, m, args, below, meth, c⟩, nL, out⟩ := Γ
  exact fun H locs ls hP hD hS hl => lv_ldiv C.1.1 C.1.2.1 hd hne (k H locs ls hP hD hS hl)
theorem x_lrem (pc : Nat) (C : Cx ω Γ cc own ret l0 rm nL0 out0) {x y : Int64} (hne : ¬ y = 0) (hd : decode cc pc = .ok (.lrem, 1)) (k : XAt ω Γ (pc + 1) lv (.long (x - x / y * y) :: vs) S) : XAt ω Γ pc lv (.long y :: .long x :: vs) S := by
  obtain ⟨l, R, ⟨p, e, s, m, args, below, meth, c⟩, nL, out⟩ := Γ
  exact fun H locs ls hP hD hS hl => lv_lrem C.1.1 C.1.2.1 hd hne (k H locs ls hP hD hS hl)
def xushr (x y : Int32) : Int32 := (x.toUInt32 >>> (y.toUInt32 &&& Int32.toUInt32 31)).toInt32
theorem x_iushr (pc : Nat) (C : Cx ω Γ cc own ret l0 rm nL0 out0) {x y : Int32} (hd : decode cc pc = .ok (.iushr, 1)) (k : XAt ω Γ (pc + 1) lv (.int (xushr x y) :: vs) S) : XAt ω Γ pc lv (.int y :: .int x :: vs) S := by
  obtain ⟨l, R, ⟨p, e, s, m, args, below, meth, c⟩, nL, out⟩ := Γ
  exact fun H locs ls hP hD hS hl => lv_iushr C.1.1 C.1.2.1 hd rfl (k H locs ls hP hD hS hl)
theorem x_ineg (pc : Nat) (C : Cx ω Γ cc own ret l0 rm nL0 out0) {x : Int32} (hd : decode cc pc = .ok (.ineg, 1)) (k : XAt ω Γ (pc + 1) lv (.int (-x) :: vs) S) : XAt ω Γ pc lv (.int x :: vs) S := by
  obtain ⟨l, R, ⟨p, e, s, m, args, below, meth, c⟩, nL, out⟩ := Γ
  exact fun H locs ls hP hD hS hl => lv_ineg C.1.1 C.1.2.1 hd (k H locs ls hP hD hS hl)
theorem x_i2l (pc : Nat) (C : Cx ω Γ cc own ret l0 rm nL0 out0) {x : Int32} (hd : decode cc pc = .ok (.i2l, 1)) (k : XAt ω Γ (pc + 1) lv (.long (x.toInt64) :: vs) S) : XAt ω Γ pc lv (.int x :: vs) S := by
  obtain ⟨l, R, ⟨p, e, s, m, args, below, meth, c⟩, nL, out⟩ := Γ
  exact fun H locs ls hP hD hS hl => lv_i2l C.1.1 C.1.2.1 hd rfl (k H locs ls hP hD hS hl)
theorem x_l2i (pc : Nat) (C : Cx ω Γ cc own ret l0 rm nL0 out0) {x : Int64} (hd : decode cc pc = .ok (.l2i, 1)) (k : XAt ω Γ (pc + 1) lv (.int (x.toInt32) :: vs) S) : XAt ω Γ pc lv (.long x :: vs) S := by
  obtain ⟨l, R, ⟨p, e, s, m, args, below, meth, c⟩, nL, out⟩ := Γ
  exact fun H locs ls hP hD hS hl => lv_l2i C.1.1 C.1.2.1 hd rfl (k H locs ls hP hD hS hl)
theorem x_i2b (pc : Nat) (C : Cx ω Γ cc own ret l0 rm nL0 out0) {x : Int32} (hd : decode cc pc = .ok (.i2b, 1)) (k : XAt ω Γ (pc + 1) lv (.int (x.toInt8.toInt32) :: vs) S) : XAt ω Γ pc lv (.int x :: vs) S := by
  obtain ⟨l, R, ⟨p, e, s, m, args, below, meth, c⟩, nL, out⟩ := Γ
  exact fun H locs ls hP hD hS hl => lv_i2b C.1.1 C.1.2.1 hd rfl (k H locs ls hP hD hS hl)
theorem x_i2s (pc : Nat) (C : Cx ω Γ cc own ret l0 rm nL0 out0) {x : Int32} (hd : decode cc pc = .ok (.i2s, 1)) (k : XAt ω Γ (pc + 1) lv (.int (x.toInt16.toInt32) :: vs) S) : XAt ω Γ pc lv (.int x :: vs) S := by
  obtain ⟨l, R, ⟨p, e, s, m, args, below, meth, c⟩, nL, out⟩ := Γ
  exact fun H locs ls hP hD hS hl => lv_i2s C.1.1 C.1.2.1 hd rfl (k H locs ls hP hD hS hl)
theorem x_lcmp (pc : Nat) (C : Cx ω Γ cc own ret l0 rm nL0 out0) {x y : Int64} (hd : decode cc pc = .ok (.lcmp, 1)) (k : XAt ω Γ (pc + 1) lv (.int (lg_cmp x y) :: vs) S) : XAt ω Γ pc lv (.long y :: .long x :: vs) S := by
  obtain ⟨l, R, ⟨p, e, s, m, args, below, meth, c⟩, nL, out⟩ := Γ
  exact fun H locs ls hP hD hS hl => W.lcmp C.1.1 C.1.2.1 hd (k H locs ls hP hD hS hl)
theorem x_dup (pc : Nat) (C : Cx ω Γ cc own ret l0 rm nL0 out0) {v : Value} (hd : decode cc pc = .ok (.dup, 1)) (h1 : v.category = 1) (k : XAt ω Γ (pc + 1) lv (v :: v :: vs) S) : XAt ω Γ pc lv (v :: vs) S := by
  obtain ⟨l, R, ⟨p, e, s, m, args, below, meth, c⟩, nL, out⟩ := Γ
  exact fun H locs ls hP hD hS hl => lv_dup C.1.1 C.1.2.1 hd h1 (k H locs ls hP hD hS hl)
theorem x_pop (pc : Nat) (C : Cx ω Γ cc own ret l0 rm nL0 out0) {v : Value} (hd : decode cc pc = .ok (.pop, 1)) (h1 : v.category = 1) (k : XAt ω Γ (pc + 1) lv vs S) : XAt ω Γ pc lv (v :: vs) S := by
  obtain ⟨l, R, ⟨p, e, s, m, args, below, meth, c⟩, nL, out⟩ := Γ
  exact fun H locs ls hP hD hS hl => lv_pop C.1.1 C.1.2.1 hd h1 (k H locs ls hP hD hS hl)
theorem x_dup2 (pc : Nat) (C : Cx ω Γ cc own ret l0 rm nL0 out0) {v w : Value} (hd : decode cc pc = .ok (.dup2, 1)) (h1 : v.category = 1) (h2 : w.category = 1) (k : XAt ω Γ (pc + 1) lv (v :: w :: v :: w :: vs) S) : XAt ω Γ pc lv (v :: w :: vs) S := by
  obtain ⟨l, R, ⟨p, e, s, m, args, below, meth, c⟩, nL, out⟩ := Γ
  exact fun H locs ls hP hD hS hl => lv_dup2_11 C.1.1 C.1.2.1 hd h1 h2 (k H locs ls hP hD hS hl)
theorem x_goto (pc : Nat) (C : Cx ω Γ cc own ret l0 rm nL0 out0) {off : Int} (tgt : Nat) (hd : decode cc pc = .ok (.goto off, 3)) (ht : (pc : Int) + off = (tgt : Int)) (k : XAt ω Γ tgt lv vs S) : XAt ω Γ pc lv vs S := by
  obtain ⟨l, R, ⟨p, e, s, m, args, below, meth, c⟩, nL, out⟩ := Γ
  exact fun H locs ls hP hD hS hl => lv_goto C.1.1 C.1.2.1 hd ht (k H locs ls hP hD hS hl)
theorem x_if_eq {ρ : Type} {o A B : ρ} (pc : Nat) (C : Cx ω Γ cc own ret l0 rm nL0 out0) {x : Int32} {off : Int} (tgt : Nat) (hd : decode cc pc = .ok (.ifCond .eq off, 3)) (ht : (pc : Int) + off = (tgt : Int)) (h : (if x = 0 then A else B) = o) (kt : A = o → XAt ω Γ tgt lv vs S) (kf : B = o → XAt ω Γ (pc + 3) lv vs S) : XAt ω Γ pc lv (.int x :: vs) S := by
  obtain ⟨l, R, ⟨p, e, s, m, args, below, meth, c⟩, nL, out⟩ := Γ
  exact fun H locs ls hP hD hS hl => lv_if_eq C.1.1 C.1.2.1 hd ht (fun q => kt ((if_pos q).symm.trans h) H locs ls hP hD hS hl) (fun q => kf ((if_neg q).symm.trans h) H locs ls hP hD hS hl)
theorem x_icmp_eq {ρ : Type} {o A B : ρ} (pc : Nat) (C : Cx ω Γ cc own ret l0 rm nL0 out0) {x y : Int32} {off : Int} (tgt : Nat) (hd : decode cc pc = .ok (.if_icmp .eq off, 3)) (ht : (pc : Int) + off = (tgt : Int)) (h : (if x = y then A else B) = o) (kt : A = o → XAt ω Γ tgt lv vs S) (kf : B = o → XAt ω Γ (pc + 3) lv vs S) : XAt ω Γ pc lv (.int y :: .int x :: vs) S := by
  obtain ⟨l, R, ⟨p, e, s, m, args, below, meth, c⟩, nL, out⟩ := Γ
  exact fun H locs ls hP hD hS hl => lv_icmp_eq C.1.1 C.1.2.1 hd ht (fun q => kt ((if_pos q).symm.trans h) H locs ls hP hD hS hl) (fun q => kf ((if_neg q).symm.trans h) H locs ls hP hD hS hl)
theorem x_if_ne {ρ : Type} {o A B : ρ} (pc : Nat) (C : Cx ω Γ cc own ret l0 rm nL0 out0) {x : Int32} {off : Int} (tgt : Nat) (hd : decode cc pc = .ok (.ifCond .ne off, 3)) (ht : (pc : Int) + off = (tgt : Int)) (h : (if x = 0 then B else A) = o) (kt : A = o → XAt ω Γ tgt lv vs S) (kf : B = o → XAt ω Γ (pc + 3) lv vs S) : XAt ω Γ pc lv (.int x :: vs) S := by
  obtain ⟨l, R, ⟨p, e, s, m, args, below, meth, c⟩, nL, out⟩ := Γ
  exact fun H locs ls hP hD hS hl => lv_if_ne C.1.1 C.1.2.1 hd ht (fun q => kt ((if_neg q).symm.trans h) H locs ls hP hD hS hl) (fun q => kf ((if_pos q).symm.trans h) H locs ls hP hD hS hl)
theorem x_icmp_ne {ρ : Type} {o A B : ρ} (pc : Nat) (C : Cx ω Γ cc own ret l0 rm nL0 out0) {x y : Int32} {off : Int} (tgt : Nat) (hd : decode cc pc = .ok (.if_icmp .ne off, 3)) (ht : (pc : Int) + off = (tgt : Int)) (h : (if x = y then B else A) = o) (kt : A = o → XAt ω Γ tgt lv vs S) (kf : B = o → XAt ω Γ (pc + 3) lv vs S) : XAt ω Γ pc lv (.int y :: .int x :: vs) S := by
  obtain ⟨l, R, ⟨p, e, s, m, args, below, meth, c⟩, nL, out⟩ := Γ
  exact fun H locs ls hP hD hS hl => lv_icmp_ne C.1.1 C.1.2.1 hd ht (fun q => kt ((if_neg q).symm.trans h) H locs ls hP hD hS hl) (fun q => kf ((if_pos q).symm.trans h) H locs ls hP hD hS hl)
theorem x_if_lt {ρ : Type} {o A B : ρ} (pc : Nat) (C : Cx ω Γ cc own ret l0 rm nL0 out0) {x : Int32} {off : Int} (tgt : Nat) (hd : decode cc pc = .ok (.ifCond .lt off, 3)) (ht : (pc : Int) + off = (tgt : Int)) (h : (if x < 0 then A else B) = o) (kt : A = o → XAt ω Γ tgt lv vs S) (kf : B = o → XAt ω Γ (pc + 3) lv vs S) : XAt ω Γ pc lv (.int x :: vs) S := by
  obtain ⟨l, R, ⟨p, e, s, m, args, below, meth, c⟩, nL, out⟩ := Γ
  exact fun H locs ls hP hD hS hl => lv_if_lt C.1.1 C.1.2.1 hd ht (fun q => kt ((if_pos q).symm.trans h) H locs ls hP hD hS hl) (fun q => kf ((if_neg q).symm.trans h) H locs ls hP hD hS hl)
theorem x_icmp_lt {ρ : Type} {o A B : ρ} (pc : Nat) (C : Cx ω Γ cc own ret l0 rm nL0 out0) {x y : Int32} {off : Int} (tgt : Nat) (hd : decode cc pc = .ok (.if_icmp .lt off, 3)) (ht : (pc : Int) + off = (tgt : Int)) (h : (if x < y then A else B) = o) (kt : A = o → XAt ω Γ tgt lv vs S) (kf : B = o → XAt ω Γ (pc + 3) lv vs S) : XAt ω Γ pc lv (.int y :: .int x :: vs) S := by
  obtain ⟨l, R, ⟨p, e, s, m, args, below, meth, c⟩, nL, out⟩ := Γ
  exact fun H locs ls hP hD hS hl => lv_icmp_lt C.1.1 C.1.2.1 hd ht (fun q => kt ((if_pos q).symm.trans h) H locs ls hP hD hS hl) (fun q => kf ((if_neg q).symm.trans h) H locs ls hP hD hS hl)
theorem x_if_ge {ρ : Type} {o A B : ρ} (pc : Nat) (C : Cx ω Γ cc own ret l0 rm nL0 out0) {x : Int32} {off : Int} (tgt : Nat) (hd : decode cc pc = .ok (.ifCond .ge off, 3)) (ht : (pc : Int) + off = (tgt : Int)) (h : (if 0 ≤ x then A else B) = o) (kt : A = o → XAt ω Γ tgt lv vs S) (kf : B = o → XAt ω Γ (pc + 3) lv vs S) : XAt ω Γ pc lv (.int x :: vs) S := by
  obtain ⟨l, R, ⟨p, e, s, m, args, below, meth, c⟩, nL, out⟩ := Γ
  exact fun H locs ls hP hD hS hl => lv_if_ge C.1.1 C.1.2.1 hd ht (fun q => kt ((if_pos q).symm.trans h) H locs ls hP hD hS hl) (fun q => kf ((if_neg q).symm.trans h) H locs ls hP hD hS hl)
theorem x_icmp_ge {ρ : Type} {o A B : ρ} (pc : Nat) (C : Cx ω Γ cc own ret l0 rm nL0 out0) {x y : Int32} {off : Int} (tgt : Nat) (hd : decode cc pc = .ok (.if_icmp .ge off, 3)) (ht : (pc : Int) + off = (tgt : Int)) (h : (if y ≤ x then A else B) = o) (kt : A = o → XAt ω Γ tgt lv vs S) (kf : B = o → XAt ω Γ (pc + 3) lv vs S) : XAt ω Γ pc lv (.int y :: .int x :: vs) S := by
  obtain ⟨l, R, ⟨p, e, s, m, args, below, meth, c⟩, nL, out⟩ := Γ
  exact fun H locs ls hP hD hS hl => lv_icmp_ge C.1.1 C.1.2.1 hd ht (fun q => kt ((if_pos q).symm.trans h) H locs ls hP hD hS hl) (fun q => kf ((if_neg q).symm.trans h) H locs ls hP hD hS hl)
theorem x_if_gt {ρ : Type} {o A B : ρ} (pc : Nat) (C : Cx ω Γ cc own ret l0 rm nL0 out0) {x : Int32} {off : Int} (tgt : Nat) (hd : decode cc pc = .ok (.ifCond .gt off, 3)) (ht : (pc : Int) + off = (tgt : Int)) (h : (if 0 < x then A else B) = o) (kt : A = o → XAt ω Γ tgt lv vs S) (kf : B = o → XAt ω Γ (pc + 3) lv vs S) : XAt ω Γ pc lv (.int x :: vs) S := by
  obtain ⟨l, R, ⟨p, e, s, m, args, below, meth, c⟩, nL, out⟩ := Γ
  exact fun H locs ls hP hD hS hl => lv_if_gt C.1.1 C.1.2.1 hd ht (fun q => kt ((if_pos q).symm.trans h) H locs ls hP hD hS hl) (fun q => kf ((if_neg q).symm.trans h) H locs ls hP hD hS hl)
theorem x_icmp_gt {ρ : Type} {o A B : ρ} (pc : Nat) (C : Cx ω Γ cc own ret l0 rm nL0 out0) {x y : Int32} {off : Int} (tgt : Nat) (hd : decode cc pc = .ok (.if_icmp .gt off, 3)) (ht : (pc : Int) + off = (tgt : Int)) (h : (if y < x then A else B) = o) (kt : A = o → XAt ω Γ tgt lv vs S) (kf : B = o → XAt ω Γ (pc + 3) lv vs S) : XAt ω Γ pc lv (.int y :: .int x :: vs) S := by
  obtain ⟨l, R, ⟨p, e, s, m, args, below, meth, c⟩, nL, out⟩ := Γ
  exact fun H locs ls hP hD hS hl => lv_icmp_gt C.1.1 C.1.2.1 hd ht (fun q => kt ((if_pos q).symm.trans h) H locs ls hP hD hS hl) (fun q => kf ((if_neg q).symm.trans h) H locs ls hP hD hS hl)
theorem x_if_le {ρ : Type} {o A B : ρ} (pc : Nat) (C : Cx ω Γ cc own ret l0 rm nL0 out0) {x : Int32} {off : Int} (tgt : Nat) (hd : decode cc pc = .ok (.ifCond .le off, 3)) (ht : (pc : Int) + off = (tgt : Int)) (h : (if x ≤ 0 then A else B) = o) (kt : A = o → XAt ω Γ tgt lv vs S) (kf : B = o → XAt ω Γ (pc + 3) lv vs S) : XAt ω Γ pc lv (.int x :: vs) S := by
  obtain ⟨l, R, ⟨p, e, s, m, args, below, meth, c⟩, nL, out⟩ := Γ
  exact fun H locs ls hP hD hS hl => lv_if_le C.1.1 C.1.2.1 hd ht (fun q => kt ((if_pos q).symm.trans h) H locs ls hP hD hS hl) (fun q => kf ((if_neg q).symm.trans h) H locs ls hP hD hS hl)
theorem x_icmp_le {ρ : Type} {o A B : ρ} (pc : Nat) (C : Cx ω Γ cc own ret l0 rm nL0 out0) {x y : Int32} {off : Int} (tgt : Nat) (hd : decode cc pc = .ok (.if_icmp .le off, 3)) (ht : (pc : Int) + off = (tgt : Int)) (h : (if x ≤ y then A else B) = o) (kt : A = o → XAt ω Γ tgt lv vs S) (kf : B = o → XAt ω Γ (pc + 3) lv vs S) : XAt ω Γ pc lv (.int y :: .int x :: vs) S := by
  obtain ⟨l, R, ⟨p, e, s, m, args, below, meth, c⟩, nL, out⟩ := Γ
  exact fun H locs ls hP hD hS hl => lv_icmp_le C.1.1 C.1.2.1 hd ht (fun q => kt ((if_pos q).symm.trans h) H locs ls hP hD hS hl) (fun q => kf ((if_neg q).symm.trans h) H locs ls hP hD hS hl)
theorem x_iret (pc : Nat) {v r : Int32} {S' : σ} (C : Cx ω Γ cc own (some .int) l0 rm nL0 (some (.int r), S')) (hd : decode cc pc = .ok (.ireturn, 1)) (h : v = r) (hS' : S = S') : XAt ω Γ pc lv [.int v] S := by
  obtain ⟨l, R, ⟨p, e, s, m, args, below, meth, c⟩, nL, out⟩ := Γ
  obtain ⟨⟨hx, hb, -⟩, hlk, hr, hK, -, -, -, ho⟩ := C
  subst ho; subst h; subst hS'
  exact fun H locs ls hP hD hS hl => W.iret (v := v) hx hb hr (fun t ht hW => ⟨rfl, ⟨by rw [ht]; exact hP, va_K.moved hW.alike hK, hD⟩, hS.F ht⟩) hS.2.2 hd hlk
theorem x_lret (pc : Nat) {v r : Int64} {S' : σ} (C : Cx ω Γ cc own (some .long) l0 rm nL0 (some (.long r), S')) (hd : decode cc pc = .ok (.lreturn, 1)) (h : v = r) (hS' : S = S') : XAt ω Γ pc lv [.long v] S := by
  obtain ⟨l, R, ⟨p, e, s, m, args, below, meth, c⟩, nL, out⟩ := Γ
  obtain ⟨⟨hx, hb, -⟩, hlk, hr, hK, -, -, -, ho⟩ := C
  subst ho; subst h; subst hS'
  exact fun H locs ls hP hD hS hl => W.lret (v := v) hx hb hr (fun t ht hW => ⟨rfl, ⟨by rw [ht]; exact hP, va_K.moved hW.alike hK, hD⟩, hS.F ht⟩) hS.2.2 hd hlk
theorem x_zret (pc : Nat) {v r : Int32} {S' : σ} (C : Cx ω Γ cc own (some .boolean) l0 rm nL0 (some (.int r), S')) (hd : decode cc pc = .ok (.ireturn, 1)) (hz : xbool v = true) (h : v = r) (hS' : S = S') : XAt ω Γ pc lv [.int v] S := by
  obtain ⟨l, R, ⟨p, e, s, m, args, below, meth, c⟩, nL, out⟩ := Γ
  obtain ⟨⟨hx, hb, -⟩, hlk, hr, hK, -, -, -, ho⟩ := C
  subst ho; subst h; subst hS'
  have hn : narrow .boolean (.int v) = .int v := by
    simp only [xbool, Bool.or_eq_true, decide_eq_true_eq] at hz
    rcases hz with rfl | rfl <;> rfl
  exact fun H locs ls hP hD hS hl => W.zret (v := v) hx hb hr hn (fun t ht hW => ⟨rfl, ⟨by rw [ht]; exact hP, va_K.moved hW.alike hK, hD⟩, hS.F ht⟩) hS.2.2 hd hlk
theorem x_vret (pc : Nat) {S' : σ} (C : Cx ω Γ cc own none l0 rm nL0 (none, S')) (hd : decode cc pc = .ok (.return_, 1)) (hS' : S = S') : XAt ω Γ pc lv [] S := by
  obtain ⟨l, R, ⟨p, e, s, m, args, below, meth, c⟩, nL, out⟩ := Γ
  obtain ⟨⟨hx, hb, -⟩, hlk, hr, hK, -, -, -, ho⟩ := C
  subst ho; subst hS'
  exact fun H locs ls hP hD hS hl => W.vret hx hb hr (fun t ht hW => ⟨rfl, ⟨by rw [ht]; exact hP, va_K.moved hW.alike hK, hD⟩, hS.F ht⟩) hS.2.2 hd hlk
theorem xPc_blind (av : List Value) (S : σ) : FrameBlind (va_Pc av (xWd ω S)) := by
  intro a U g mk q
  obtain ⟨q0, qP, qK, qD⟩ := q
  exact ⟨q0, qP, va_K.moved (u := U) (U := U.calling g mk a) (Vm.Alike.refl U.vm) qK, qD⟩
theorem x_goodV {c0 : Cond} {own C : String} {index : Nat} {y : MethodName} {bytes : ByteArray} {maxL : Nat} {ret : Option FieldType} (h1 : Cond.methodLink own index y ∈ xtb) (h2 : Cond.instanceMethod y ∈ xtb) (h3 : Cond.selects C y y ∈ xtb) (h4 : Cond.initialized C ∈ xtb) (h5 : Cond.code y bytes maxL ret ∈ xtb) : GoodIn (c0 :: xtb) (wsV own index C y (.code y bytes maxL ret :: xtb)) := by
  intro w hw
  rcases List.mem_append.mp hw with h | h
  · simp only [List.mem_cons, List.not_mem_nil, or_false] at h
    rcases h with rfl | rfl | rfl | rfl
    · exact xtb_good h1
    · exact xtb_good h2
    · exact xtb_good h3
    · exact xtb_good h4
  · rcases List.mem_cons.mp h with rfl | h
    · exact xtb_good h5
    · exact xtb_good h
theorem x_goodS {c0 : Cond} {y : MethodName} {bytes : ByteArray} {maxL : Nat} {ret : Option FieldType} (h5 : Cond.code y bytes maxL ret ∈ xtb) : GoodIn (c0 :: xtb) (.code y bytes maxL ret :: xtb) := by
  intro w hw
  rcases List.mem_cons.mp hw with rfl | h
  · exact xtb_good h5
  · exact xtb_good h
/-- what stays of a call: the callee's end, at the caller -/
theorem x_back {l : Launch} {p : Program} {e : Env} {R : Room} {s : State} {m : MethodId} {args : Array Value} {below : List Frame} {meth : Method} {c : Code} {nL pc : Nat} {ls : Array Slot} {out : Option Value × σ} {o1 : Option Value} {S1 : σ} {a : Array Value} {H : Heap} {locs : List Loc} {rest st0 : List Value}
    (hr : va_Run p l e R s m args below meth c H locs 0 0 0 0 (F0 m pc ls st0) rest (xQ ω (o1, S1) a) ω.2.1) (hS : va_S ω.2.1 s.heap H locs) (hl : lv_has ls nL lv)
    (k : ∀ (H : Heap) (locs : List Loc) (ls : Array Slot), va_P ω.1 vwCl (ω.2.2.2 S1) H → va_D ω.2.1 (ω.2.2.2 S1) → va_S ω.2.1 s.heap H locs → lv_has ls nL lv → W p l e R s m args below meth c H locs 0 0 (MQ below (xQ ω out) args s 0 0 ω.2.1) (F0 m (pc + 3) ls (o1.toList ++ rest))) :
    W p l e R s m args below meth c H locs 0 0 (MQ below (xQ ω out) args s 0 0 ω.2.1) (F0 m pc ls st0) := by
  intro T hT X
  obtain ⟨v, st₀, t, T', L, h0, X', hL, e1, e2, ⟨hv, ⟨qP, qK, qD⟩, hz, hk⟩, st⟩ := hr T hT X
  have hv := Outcome.returned.inj hv
  subst hv
  rw [h0] at hz hk
  obtain ⟨t2, a1, b1⟩ := k T'.heap (locs ++ L) ls (by rw [e1]; exact qP) qD ⟨Nat.le_trans hS.1 (by rw [e1]; exact hz), fun q h1 h2 => by rw [e1, hk q (Nat.lt_of_lt_of_le h1 hS.1) h2]; exact hS.2.1 q h1 h2, fun q hq => by
      rcases List.mem_append.mp hq with h | h
      · exact hS.2.2 q h
      · exact hL q h⟩ hl T' rfl X'
  exact ⟨t2, st t2 a1, b1⟩
theorem x_callV (pc : Nat) (C : Cx ω Γ cc own ret l0 rm nL0 out0) {y : MethodName} {bytes : ByteArray} {maxL index : Nat} {ret1 : Option FieldType} {rm1 : Room} {As rest : List Value} {b q0 ci : Nat} {fs : List Value} {T : u_T} {N : Nat} {Cl : String} {o1 : Option Value} {S1 : σ} (n : Nat)
    (hM : xM l0 ω y bytes maxL ret1 rm1 (.ref b :: As) S (o1, S1)) (he : (ω.2.2.2 S)[q0]? = some (b, .inr (ci, fs))) (hc : vwCl[ci]? = some (Cl, T, N))
    (h1 : Cond.methodLink own index y ∈ xtb) (h2 : Cond.instanceMethod y ∈ xtb ∧ Cond.selects Cl y y ∈ xtb ∧ Cond.initialized Cl ∈ xtb ∧ Cond.code y bytes maxL ret1 ∈ xtb)
    (hd : y.cls = Cl ∧ y.cls ≠ "java/lang/invoke/MethodHandle" ∧ y.cls ≠ "java/lang/invoke/VarHandle" ∧ (parseMethodDescriptor y.desc).map (fun d => d.parameters.length) = some n) (hcs : rm1.cells = 0 ∧ rm1.slots = 0) (hR : rm1.frames + 1 ≤ rm.frames ∧ 8 + (maxL + 11) + rm1.locals ≤ rm.locals)
    (hn : As.length = n) (hst : vs = As.reverse ++ .ref b :: rest) (hW : (rest.map fun v => v.category).sum ≤ 8) (hdg : decode cc pc = .ok (.invokevirtual index, 3)) (k : XAt ω Γ (pc + 3) lv (o1.toList ++ rest) S1) : XAt ω Γ pc lv vs S := by
  obtain ⟨l, R, ⟨p, e, s, m, args, below, meth, c⟩, nL, out⟩ := Γ
  obtain ⟨hF, hlk, hr, hK, e1, e2, e3, e4⟩ := C
  subst e1; subst e2; subst hst
  intro H locs ls hP hD hS hl
  have hts : ∀ w ∈ (Cond.initialized Cl :: xtb), w.before args s = true := fun w h => by
    rcases List.mem_cons.mp h with rfl | h
    · exact hF.2.2.2.2 _ h2.2.2.1
    · exact hF.2.2.2.2 _ h
  refine x_back (va_runV (As := As) (rest := rest) hF hM (cwV n hts (x_goodV h1 h2.1 h2.2.1 h2.2.2.1 h2.2.2.2) rfl hcs.1 hcs.2 hd hR) ⟨xPc_blind _ _, va_recv hK hP hc he, fun U hU hW => ⟨rfl, by rw [hU]; exact hP, va_K.moved hW.alike hK, hD⟩⟩ rfl hn hl.1 rfl (lv_room hW) hdg ⟨Nat.zero_le _, Nat.zero_le _⟩) hS hl k
theorem x_callS (pc : Nat) (C : Cx ω Γ cc own ret l0 rm nL0 out0) {y : MethodName} {bytes : ByteArray} {maxL index : Nat} {ret1 : Option FieldType} {rm1 : Room} {As rest : List Value} {o1 : Option Value} {S1 : σ} (n : Nat)
    (hM : xM l0 ω y bytes maxL ret1 rm1 As S (o1, S1))
    (h1 : Cond.methodLink own index y ∈ xtb) (h2 : Cond.static y ∈ xtb ∧ Cond.initialized y.cls ∈ xtb ∧ Cond.code y bytes maxL ret1 ∈ xtb)
    (hd : y.cls ≠ "java/lang/invoke/MethodHandle" ∧ y.cls ≠ "java/lang/invoke/VarHandle" ∧ (parseMethodDescriptor y.desc).map (fun d => d.parameters.length) = some n) (hcs : rm1.cells = 0 ∧ rm1.slots = 0) (hR : rm1.frames + 1 ≤ rm.frames ∧ 8 + (maxL + 11) + rm1.locals ≤ rm.locals)
    (hn : As.length = n) (hst : vs = As.reverse ++ rest) (hW : (rest.map fun v => v.category).sum ≤ 8) (hdg : decode cc pc = .ok (.invokestatic index, 3)) (k : XAt ω Γ (pc + 3) lv (o1.toList ++ rest) S1) : XAt ω Γ pc lv vs S := by
  obtain ⟨l, R, ⟨p, e, s, m, args, below, meth, c⟩, nL, out⟩ := Γ
  obtain ⟨hF, hlk, hr, hK, e1, e2, e3, e4⟩ := C
  subst e1; subst e2; subst hst
  intro H locs ls hP hD hS hl
  have hts : ∀ w ∈ (Cond.initialized y.cls :: xtb), w.before args s = true := fun w h => by
    rcases List.mem_cons.mp h with rfl | h
    · exact hF.2.2.2.2 _ h2.2.1
    · exact hF.2.2.2.2 _ h
  refine x_back (va_runS (As := As) (rest := rest) hF hM ⟨callB_of n hts (x_goodS h2.2.2) rfl hcs.1 hcs.2 (hF.2.2.2.2 _ h2.2.1) (hF.2.2.2.2 _ h1) hd hR, hF.2.2.2.2 _ h2.1⟩ ⟨xPc_blind _ _, fun U hU hW => ⟨rfl, by rw [hU]; exact hP, va_K.moved hW.alike hK, hD⟩⟩ rfl hn hl.1 rfl (lv_room hW) hdg ⟨Nat.zero_le _, Nat.zero_le _⟩) hS hl k
theorem x_mmax (pc : Nat) (C : Cx ω Γ cc own ret l0 rm nL0 out0) {index : Nat} {x y : Int32} (h1 : Cond.methodLink own index Lib.Math.max.name ∈ xtb) (h2 : Cond.static Lib.Math.max.name ∈ xtb) (h3 : Cond.initialized "java/lang/Math" ∈ xtb) (h4 : Cond.code Lib.Math.max.name Lib.Math.max.code 2 (some .int) ∈ xtb) (hf : 1 ≤ rm.frames) (hlo : (vs.map fun v => v.category).sum + 13 ≤ rm.locals) (hd : decode cc pc = .ok (.invokestatic index, 3)) (k : XAt ω Γ (pc + 3) lv (.int (if x < y then y else x) :: vs) S) : XAt ω Γ pc lv (.int y :: .int x :: vs) S := by
  obtain ⟨l, R, ⟨p, e, s, m, args, below, meth, c⟩, nL, out⟩ := Γ
  obtain ⟨hF, hlk, hr, hK, e1, e2, e3, e4⟩ := C
  subst e2
  exact fun H locs ls hP hD hS hl => va_mmax hF.1 hF.2.1 (by rw [hF.2.2.1, hl.1]) hF.2.2.2.1 (hF.2.2.2.2 _ h1) (hF.2.2.2.2 _ h2) (hF.2.2.2.2 _ h3) (hF.2.2.2.2 _ h4) hf hlo (Nat.zero_le _) (Nat.zero_le _) hd (k H locs ls hP hD hS hl)
theorem x_mmin (pc : Nat) (C : Cx ω Γ cc own ret l0 rm nL0 out0) {index : Nat} {x y : Int32} (h1 : Cond.methodLink own index Lib.Math.min.name ∈ xtb) (h2 : Cond.static Lib.Math.min.name ∈ xtb) (h3 : Cond.initialized "java/lang/Math" ∈ xtb) (h4 : Cond.code Lib.Math.min.name Lib.Math.min.code 2 (some .int) ∈ xtb) (hf : 1 ≤ rm.frames) (hlo : (vs.map fun v => v.category).sum + 13 ≤ rm.locals) (hd : decode cc pc = .ok (.invokestatic index, 3)) (k : XAt ω Γ (pc + 3) lv (.int (if y < x then y else x) :: vs) S) : XAt ω Γ pc lv (.int y :: .int x :: vs) S := by
  obtain ⟨l, R, ⟨p, e, s, m, args, below, meth, c⟩, nL, out⟩ := Γ
  obtain ⟨hF, hlk, hr, hK, e1, e2, e3, e4⟩ := C
  subst e2
  exact fun H locs ls hP hD hS hl => va_mmin hF.1 hF.2.1 (by rw [hF.2.2.1, hl.1]) hF.2.2.2.1 (hF.2.2.2.2 _ h1) (hF.2.2.2.2 _ h2) (hF.2.2.2.2 _ h3) (hF.2.2.2.2 _ h4) hf hlo (Nat.zero_le _) (Nat.zero_le _) hd (k H locs ls hP hD hS hl)
theorem x_iald (pc : Nat) (C : Cx ω Γ cc own ret l0 rm nL0 out0) {q t n a : Nat} {cA : ClassId} {f : Nat → Int32} {i : Int32} (ha : (ω.2.2.2 S)[q]? = some (a, .inl (cA, n, .inl f))) (ht : ω.2.2.1[t]? = some (cA, .int)) (hin : xin i n = true) (hd : decode cc pc = .ok (.iaload, 1)) (k : XAt ω Γ (pc + 1) lv (.int (f (xti i)) :: vs) S) : XAt ω Γ pc lv (.int i :: .ref a :: vs) S := by
  obtain ⟨l, R, ⟨p, e, s, m, args, below, meth, c⟩, nL, out⟩ := Γ
  exact fun H locs ls hP hD hS hl => va_iald C.1.1 C.1.2.1 C.2.2.2.1 hP q t ha ht (xin_in hin) hd (k H locs ls hP hD hS hl)
theorem x_zald (pc : Nat) (C : Cx ω Γ cc own ret l0 rm nL0 out0) {q t n a : Nat} {cA : ClassId} {f : Nat → Int32} {i : Int32} (ha : (ω.2.2.2 S)[q]? = some (a, .inl (cA, n, .inl f))) (ht : ω.2.2.1[t]? = some (cA, .boolean)) (hin : xin i n = true) (hd : decode cc pc = .ok (.baload, 1)) (k : XAt ω Γ (pc + 1) lv (.int (f (xti i)) :: vs) S) : XAt ω Γ pc lv (.int i :: .ref a :: vs) S := by
  obtain ⟨l, R, ⟨p, e, s, m, args, below, meth, c⟩, nL, out⟩ := Γ
  exact fun H locs ls hP hD hS hl => va_zald C.1.1 C.1.2.1 C.2.2.2.1 hP q t ha ht (xin_in hin) hd (k H locs ls hP hD hS hl)
theorem x_iast (pc : Nat) (C : Cx ω Γ cc own ret l0 rm nL0 out0) {q t n a : Nat} {cA : ClassId} {f : Nat → Int32} {i x : Int32} {S1 : σ} (ha : (ω.2.2.2 S)[q]? = some (a, .inl (cA, n, .inl f))) (ht : ω.2.2.1[t]? = some (cA, .int)) (hin : xin i n = true) (hs : (ω.2.2.2 S).set q (a, .inl (cA, n, .inl (upd f (xti i) x))) = ω.2.2.2 S1) (hd : decode cc pc = .ok (.iastore, 1)) (k : XAt ω Γ (pc + 1) lv vs S1) : XAt ω Γ pc lv (.int x :: .int i :: .ref a :: vs) S := by
  obtain ⟨l, R, ⟨p, e, s, m, args, below, meth, c⟩, nL, out⟩ := Γ
  exact fun H locs ls hP hD hS hl => va_iast C.1.1 C.1.2.1 C.2.2.2.1 hP hD hS q t ha ht (xin_in hin) hd (fun H1 locs1 hP hD hS => k H1 locs1 ls (by rw [← hs]; exact hP) (by rw [← hs]; exact hD) hS hl)
theorem x_zast (pc : Nat) (C : Cx ω Γ cc own ret l0 rm nL0 out0) {q t n a : Nat} {cA : ClassId} {f : Nat → Int32} {i x : Int32} {S1 : σ} (ha : (ω.2.2.2 S)[q]? = some (a, .inl (cA, n, .inl f))) (ht : ω.2.2.1[t]? = some (cA, .boolean)) (hin : xin i n = true) (hs : (ω.2.2.2 S).set q (a, .inl (cA, n, .inl (upd f (xti i) (vp_nar .boolean x)))) = ω.2.2.2 S1) (hd : decode cc pc = .ok (.bastore, 1)) (k : XAt ω Γ (pc + 1) lv vs S1) : XAt ω Γ pc lv (.int x :: .int i :: .ref a :: vs) S := by
  obtain ⟨l, R, ⟨p, e, s, m, args, below, meth, c⟩, nL, out⟩ := Γ
  exact fun H locs ls hP hD hS hl => va_zast C.1.1 C.1.2.1 C.2.2.2.1 hP hD hS q t ha ht (xin_in hin) hd (fun H1 locs1 hP hD hS => k H1 locs1 ls (by rw [← hs]; exact hP) (by rw [← hs]; exact hD) hS hl)
theorem x_alen (pc : Nat) (C : Cx ω Γ cc own ret l0 rm nL0 out0) {q t a : Nat} {cA : ClassId} {x : vp_A} {ty : FieldType} {v : Int32} (ha : (ω.2.2.2 S)[q]? = some (a, .inl (cA, x))) (ht : ω.2.2.1[t]? = some (cA, ty)) (hv : Int32.ofNat x.1 = v) (hd : decode cc pc = .ok (.arraylength, 1)) (k : XAt ω Γ (pc + 1) lv (.int v :: vs) S) : XAt ω Γ pc lv (.ref a :: vs) S := by
  obtain ⟨l, R, ⟨p, e, s, m, args, below, meth, c⟩, nL, out⟩ := Γ
  exact fun H locs ls hP hD hS hl => va_alen C.1.1 C.1.2.1 C.2.2.2.1 hP q t ha ht hv hd (k H locs ls hP hD hS hl)
theorem x_aald (pc : Nat) (C : Cx ω Γ cc own ret l0 rm nL0 out0) {q t n a : Nat} {cA : ClassId} {E : String} {f : Nat → Option Nat} {i : Int32} {r : Nat} (ha : (ω.2.2.2 S)[q]? = some (a, .inl (cA, n, .inr (.inr (.inr (.inr f)))))) (ht : ω.2.2.1[t]? = some (cA, .object E)) (hin : xin i n = true) (hf : va_rf (f (xti i)) = .ref r) (hd : decode cc pc = .ok (.aaload, 1)) (k : XAt ω Γ (pc + 1) lv (.ref r :: vs) S) : XAt ω Γ pc lv (.int i :: .ref a :: vs) S := by
  obtain ⟨l, R, ⟨p, e, s, m, args, below, meth, c⟩, nL, out⟩ := Γ
  exact fun H locs ls hP hD hS hl => va_aldq C.1.1 C.1.2.1 C.2.2.2.1 hP q t ha ht (xin_in hin) hd (by rw [hf]; exact (k H locs ls hP hD hS hl))
theorem x_get (pc : Nat) (C : Cx ω Γ cc own ret l0 rm nL0 out0) {q a ci index k0 N : Nat} {fs : List Value} {Cl fr fn fd : String} {T : u_T} {v : Value} (he : (ω.2.2.2 S)[q]? = some (a, .inr (ci, fs))) (hc : vwCl[ci]? = some (Cl, T, N)) (hin : ∀ w ∈ u_ws Cl T N, w ∈ xtb) (hk : k0 < N) (hT : T k0 = (fr, fn, fd, (T k0).2.2.2)) (hl0 : Cond.fieldLink own index fr fn fd ∈ xtb) (hv : fs[k0]? = some v) (hd : decode cc pc = .ok (.getfield index, 3)) (k : XAt ω Γ (pc + 3) lv (v :: vs) S) : XAt ω Γ pc lv (.ref a :: vs) S := by
  obtain ⟨l, R, ⟨p, e, s, m, args, below, meth, c⟩, nL, out⟩ := Γ
  refine fun H locs ls hP hD hS hl => va_get (ref := fr) C.1.1 C.1.2.1 C.1.2.2.2.2 hin C.1.2.2.2.1 C.2.2.2.1 hP q he hc k0 hk ?_ (fun x h => ?_) hv hd (k H locs ls hP hD hS hl)
  · rw [hT]; exact C.1.2.2.2.2 _ hl0
  · rw [hT] at h ⊢; exact h
theorem x_put (pc : Nat) (C : Cx ω Γ cc own ret l0 rm nL0 out0) {q a ci index k0 N : Nat} {fs : List Value} {Cl fr fn fd : String} {T : u_T} {v : Value} {ty0 : Nat → FieldType} {ty : FieldType} {S1 : σ} (he : (ω.2.2.2 S)[q]? = some (a, .inr (ci, fs))) (hc : vwCl[ci]? = some (Cl, T, N)) (hin : ∀ w ∈ u_ws Cl T N, w ∈ xtb) (hty : ∀ k, k < N → parseFieldDescriptor (T k).2.2.1 = some (ty0 k)) (hnm : ∀ a, a < N → ∀ b, b < N → a ≠ b → (T a).2.1 ≠ (T b).2.1) (hk : k0 < N) (hT : T k0 = (fr, fn, fd, false)) (hty0 : ty0 k0 = ty) (hn : narrow ty v = v) (hfit : fits ty v = true) (hlen : k0 < fs.length) (hs : (ω.2.2.2 S).set q (a, .inr (ci, fs.set k0 v)) = ω.2.2.2 S1) (hl0 : Cond.fieldLink own index fr fn fd ∈ xtb) (hd : decode cc pc = .ok (.putfield index, 3)) (k : XAt ω Γ (pc + 3) lv vs S1) : XAt ω Γ pc lv (v :: .ref a :: vs) S := by
  obtain ⟨l, R, ⟨p, e, s, m, args, below, meth, c⟩, nL, out⟩ := Γ
  refine fun H locs ls hP hD hS hl => va_put (ref := fr) (ty := ty) C.1.1 C.1.2.1 C.1.2.2.2.2 hin ty0 hty hnm C.1.2.2.2.1 C.2.2.2.1 hP hD hS q he hc k0 hk ?_ (fun x h => ?_) (by rw [hT]) (by rw [← hty0]; exact hty k0 hk) hn hfit hlen hd (fun H1 locs1 hP hD hS => k H1 locs1 ls (by rw [← hs]; exact hP) (by rw [← hs]; exact hD) hS hl)
  · rw [hT]; exact C.1.2.2.2.2 _ hl0
  · rw [hT] at h ⊢; exact h
end XR2
