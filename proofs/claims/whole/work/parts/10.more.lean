def xmax (x y : Int32) : Int32 := if x < y then y else x
def xmin (x y : Int32) : Int32 := if y < x then y else x
def xcp (S : XSt) (q q' sp dp n : Nat) : XSt := fun k => if k = q' then va_cpy (S q) (S q') sp dp n else S k
theorem xi_ne {x : Int32} (v : Int32) (n : Int) (hv : v.toInt = n) (h : ¬ x = v) : x.toInt ≠ n := fun e => h (Int32.toInt_inj.mp (e.trans hv.symm))
theorem x_split {ρ : Type} {c : Prop} [Decidable c] {A B o : ρ} {G : Prop} (h : (if c then A else B) = o) (kt : c → A = o → G) (kf : ¬ c → B = o → G) : G := by
  by_cases hc : c
  · exact kt hc ((if_pos hc).symm.trans h)
  · exact kf hc ((if_neg hc).symm.trans h)
section XR3
variable {σ : Type} {ω : XW σ} {Γ : XG σ} {cc : ByteArray} {own : String} {ret : Option FieldType} {l0 : Launch} {rm : Room} {nL0 : Nat} {out0 : Option Value × σ} {lv : List (Nat × Value)} {vs : List Value} {S : σ}
theorem y_mmax (pc : Nat) (C : Cx ω Γ cc own ret l0 rm nL0 out0) {index : Nat} {x y : Int32} (h1 : Cond.methodLink own index Lib.Math.max.name ∈ xtb) (h2 : Cond.static Lib.Math.max.name ∈ xtb) (h3 : Cond.initialized "java/lang/Math" ∈ xtb) (h4 : Cond.code Lib.Math.max.name Lib.Math.max.code 2 (some .int) ∈ xtb) (hf : 1 ≤ rm.frames) (hlo : (vs.map fun v => v.category).sum + 13 ≤ rm.locals) (hd : decode cc pc = .ok (.invokestatic index, 3)) (k : XAt ω Γ (pc + 3) lv (.int (xmax x y) :: vs) S) : XAt ω Γ pc lv (.int y :: .int x :: vs) S := x_mmax pc C h1 h2 h3 h4 hf hlo hd k
theorem y_mmin (pc : Nat) (C : Cx ω Γ cc own ret l0 rm nL0 out0) {index : Nat} {x y : Int32} (h1 : Cond.methodLink own index Lib.Math.min.name ∈ xtb) (h2 : Cond.static Lib.Math.min.name ∈ xtb) (h3 : Cond.initialized "java/lang/Math" ∈ xtb) (h4 : Cond.code Lib.Math.min.name Lib.Math.min.code 2 (some .int) ∈ xtb) (hf : 1 ≤ rm.frames) (hlo : (vs.map fun v => v.category).sum + 13 ≤ rm.locals) (hd : decode cc pc = .ok (.invokestatic index, 3)) (k : XAt ω Γ (pc + 3) lv (.int (xmin x y) :: vs) S) : XAt ω Γ pc lv (.int y :: .int x :: vs) S := x_mmin pc C h1 h2 h3 h4 hf hlo hd k
theorem x_tswIn (pc : Nat) (C : Cx ω Γ cc own ret l0 rm nL0 out0) {x : Int32} (v : Int32) (tgt : Nat) {dflt lo hi off : Int} {offs : Array Int} {len : Nat} (hd : decode cc pc = .ok (.tableswitch dflt lo hi offs, len)) (hx : x = v) (h1 : ¬ v.toInt < lo) (h2 : ¬ hi < v.toInt) (ho : offs[(v.toInt - lo).toNat]? = some off) (ht : (pc : Int) + off = (tgt : Int)) (k : XAt ω Γ tgt lv vs S) : XAt ω Γ pc lv (.int x :: vs) S := by
  obtain ⟨l, R, ⟨p, e, s, m, args, below, meth, c⟩, nL, out⟩ := Γ
  subst hx
  exact fun H locs ls hP hD hS hl => lv_tableIn C.1.1 C.1.2.1 hd h1 h2 ho ht (k H locs ls hP hD hS hl)
theorem x_tswOut (pc : Nat) (C : Cx ω Γ cc own ret l0 rm nL0 out0) {x : Int32} (tgt : Nat) {dflt lo hi : Int} {offs : Array Int} {len : Nat} (hd : decode cc pc = .ok (.tableswitch dflt lo hi offs, len)) (h : x.toInt < lo ∨ hi < x.toInt) (ht : (pc : Int) + dflt = (tgt : Int)) (k : XAt ω Γ tgt lv vs S) : XAt ω Γ pc lv (.int x :: vs) S := by
  obtain ⟨l, R, ⟨p, e, s, m, args, below, meth, c⟩, nL, out⟩ := Γ
  exact fun H locs ls hP hD hS hl => lv_tableOut C.1.1 C.1.2.1 hd h ht (k H locs ls hP hD hS hl)
end XR3
theorem kw_737 : Cond.methodLink "GraveOrder" 257 arraycopyName ∈ xtb := xtb_in 737 (by decide +kernel) (by decide +kernel)
theorem kcopy : Cond.native arraycopyName ∈ xtb ∧ Cond.static arraycopyName ∈ xtb ∧ Cond.initialized "java/lang/System" ∈ xtb := ⟨xtb_in 739 (by decide +kernel) (by decide +kernel), xtb_in 738 (by decide +kernel) (by decide +kernel), xtb_in 75 (by decide +kernel) (by decide +kernel)⟩
theorem wC_setg {a : Nat → Nat} {b : Nat → ClassId} {S : XSt} {q n : Nat} {g : Nat → Int32} (hq : iaC q n = true) : (wC a b S).set q (a q, .inl (b q, n, .inl g)) = wC a b (fun k => if k = q then g else S k) := by
  have h := of_decide_eq_true hq
  simp only [List.mem_cons, Prod.mk.injEq, List.not_mem_nil, or_false] at h
  rcases h with ⟨rfl, rfl⟩ | ⟨rfl, rfl⟩ | ⟨rfl, rfl⟩ | ⟨rfl, rfl⟩ | ⟨rfl, rfl⟩ | ⟨rfl, rfl⟩ | ⟨rfl, rfl⟩ | ⟨rfl, rfl⟩ | ⟨rfl, rfl⟩ | ⟨rfl, rfl⟩ | ⟨rfl, rfl⟩ | ⟨rfl, rfl⟩ | ⟨rfl, rfl⟩ | ⟨rfl, rfl⟩ | ⟨rfl, rfl⟩ | ⟨rfl, rfl⟩ | ⟨rfl, rfl⟩ | ⟨rfl, rfl⟩ | ⟨rfl, rfl⟩ | ⟨rfl, rfl⟩ | ⟨rfl, rfl⟩ | ⟨rfl, rfl⟩ | ⟨rfl, rfl⟩ | ⟨rfl, rfl⟩ <;> rfl
theorem c_copy {D : va_G} {a : Nat → Nat} {b : Nat → ClassId} {Γ : XG XSt} {cc : ByteArray} {own : String} {ret : Option FieldType} {l0 : Launch} {rm : Room} {nL0 : Nat} {out0 : Option Value × XSt} {lv : List (Nat × Value)} {vs : List Value} {S : XSt} (pc : Nat) (C : Cx (ωC D a b) Γ cc own ret l0 rm nL0 out0) {index q q' n0 n1 : Nat} {sp dp n : Int32} (hl0 : Cond.methodLink own index arraycopyName ∈ xtb) (hk : Cond.native arraycopyName ∈ xtb ∧ Cond.static arraycopyName ∈ xtb ∧ Cond.initialized "java/lang/System" ∈ xtb) (hq : iaC q n0 = true) (hq' : iaC q' n1 = true) (h1 : ¬ sp < 0) (h2 : ¬ dp < 0) (h3 : ¬ n < 0) (h4 : xti sp + xti n ≤ n0) (h5 : xti dp + xti n ≤ n1) (hf : 1 ≤ rm.frames) (hlo : (vs.map fun v => v.category).sum + (nativeFrameWords "java/lang/System" "arraycopy" 5 + 11) ≤ rm.locals) (hd : decode cc pc = .ok (.invokestatic index, 3)) (k : XAt (ωC D a b) Γ (pc + 3) lv vs (xcp S q q' (xti sp) (xti dp) (xti n))) : XAt (ωC D a b) Γ pc lv (.int n :: .int dp :: .ref (a q') :: .int sp :: .ref (a q) :: vs) S := by
  obtain ⟨l, R, ⟨p, e, s, m, args, below, meth, c⟩, nL, out⟩ := Γ
  obtain ⟨hF, hlk, hr, hK, e1, e2, e3, e4⟩ := C
  subst e2
  exact fun H locs ls hP hD hS hl => va_copyi hF.1 hF.2.1 (by rw [hF.2.2.1, hl.1]) hF.2.2.2.1 (hF.2.2.2.2 _ hl0) (hF.2.2.2.2 _ hk.1) (hF.2.2.2.2 _ hk.2.1) (hF.2.2.2.2 _ hk.2.2) hK hP hD hS q q' (tpC q) (tpC q') (wC_ia hq) (wC_ia hq') (wC_ty hq) (wC_ty hq') rfl h1 h2 h3 h4 h5 (fun _ _ => rfl) hf hlo hd (fun H1 locs1 hP hD hS => k H1 locs1 ls (by
    have hh : (wC a b S).set q' (a q', .inl (b q', n1, .inl (va_cpy (S q) (S q') (xti sp) (xti dp) (xti n)))) = wC a b (xcp S q q' (xti sp) (xti dp) (xti n)) := wC_setg hq'
    show va_P D vwCl (wC a b (xcp S q q' (xti sp) (xti dp) (xti n))) H1
    rw [← hh]; exact hP) (by
    have hh : (wC a b S).set q' (a q', .inl (b q', n1, .inl (va_cpy (S q) (S q') (xti sp) (xti dp) (xti n)))) = wC a b (xcp S q q' (xti sp) (xti dp) (xti n)) := wC_setg hq'
    show va_D (aC a) (wC a b (xcp S q q' (xti sp) (xti dp) (xti n)))
    rw [← hh]; exact hD) hS hl)
