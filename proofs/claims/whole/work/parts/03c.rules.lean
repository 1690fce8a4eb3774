def w_iand (x y : Int) : Int := ((Int32.ofInt x &&& Int32.ofInt y)).toInt
def w_ior (x y : Int) : Int := ((Int32.ofInt x ||| Int32.ofInt y)).toInt
def w_ixor (x y : Int) : Int := ((Int32.ofInt x ^^^ Int32.ofInt y)).toInt
def w_ishl (x y : Int) : Int := ((Int32.ofInt x <<< (Int32.ofInt y &&& 31))).toInt
def w_ishr (x y : Int) : Int := ((Int32.ofInt x >>> (Int32.ofInt y &&& 31))).toInt
def w_iushr (x y : Int) : Int := (((Int32.ofInt x).toUInt32 >>> ((Int32.ofInt y).toUInt32 &&& Int32.toUInt32 31)).toInt32).toInt
def w_idiv (x y : Int) : Int := ((Int32.ofInt x / Int32.ofInt y)).toInt
def w_irem (x y : Int) : Int := ((Int32.ofInt x - Int32.ofInt x / Int32.ofInt y * Int32.ofInt y)).toInt
def w_i2b (x : Int) : Int := ((Int32.ofInt x).toInt8.toInt32).toInt
def w_l2i (x : Int64) : Int := (x.toInt32).toInt
def w_i2l (x : Int) : Int64 := (Int32.ofInt x).toInt64
def w_lushr (x : Int64) (y : Int) : Int64 := (x.toUInt64 >>> ((Int32.ofInt y).toInt64.toUInt64 &&& Int64.toUInt64 63)).toInt64
def w_lshl (x : Int64) (y : Int) : Int64 := x <<< ((Int32.ofInt y).toInt64 &&& 63)
section Rules
variable {l : Launch} {Γ : Gam} {own : String} {cc : ByteArray} {Y : Yt} {QQ : List Frame → Array Value → State → State → Prop} {g n ca sl : Nat} {μ : Mem} {pc : Nat} {lv : List (Nat × Value)} {st : List Value}
theorem z_iconst {x : Int} (hd : decode cc pc = .ok (.iconst x, 1)) (k : SWQ l Γ own cc Y QQ g n ca sl μ (pc + 1) lv (vi x :: st)) : SWQ l Γ own cc Y QQ g n ca sl μ pc lv st := by
  intro p e s m args below meth c H locs ls F hH hL hl
  exact lv_iconst F.1.1 F.1.2.1 hd rfl (k p e s m args below meth c H locs ls F hH hL hl)
theorem z_bipush {x : Int} (hd : decode cc pc = .ok (.bipush x, 2)) (hv : (Int8.ofInt x).toInt32 = Int32.ofInt x) (k : SWQ l Γ own cc Y QQ g n ca sl μ (pc + 2) lv (vi x :: st)) : SWQ l Γ own cc Y QQ g n ca sl μ pc lv st := by
  intro p e s m args below meth c H locs ls F hH hL hl
  exact lv_bipush F.1.1 F.1.2.1 hd hv (k p e s m args below meth c H locs ls F hH hL hl)
theorem z_sipush {x : Int} (hd : decode cc pc = .ok (.sipush x, 3)) (hv : (Int16.ofInt x).toInt32 = Int32.ofInt x) (k : SWQ l Γ own cc Y QQ g n ca sl μ (pc + 3) lv (vi x :: st)) : SWQ l Γ own cc Y QQ g n ca sl μ pc lv st := by
  intro p e s m args below meth c H locs ls F hH hL hl
  exact lv_sipush F.1.1 F.1.2.1 hd hv (k p e s m args below meth c H locs ls F hH hL hl)
theorem z_lconst {x : Fin 2} {v : Int64} (hd : decode cc pc = .ok (.lconst x, 1)) (hv : Int64.ofNat (x : Nat) = v) (k : SWQ l Γ own cc Y QQ g n ca sl μ (pc + 1) lv (vl v :: st)) : SWQ l Γ own cc Y QQ g n ca sl μ pc lv st := by
  intro p e s m args below meth c H locs ls F hH hL hl
  exact lv_lconst F.1.1 F.1.2.1 hd hv (k p e s m args below meth c H locs ls F hH hL hl)
theorem z_ldc {x : Int} {i : Nat} (hd : decode cc pc = .ok (.ldc i, 2)) (hw : Cond.constant own i (Int32.ofInt x) ∈ BW) (k : SWQ l Γ own cc Y QQ g n ca sl μ (pc + 2) lv (vi x :: st)) : SWQ l Γ own cc Y QQ g n ca sl μ pc lv st := by
  intro p e s m args below meth c H locs ls F hH hL hl
  exact lv_ldc F.1.1 F.1.2.1 F.1.2.2.2.1 (F.1.2.2.2.2 _ hw) hd (k p e s m args below meth c H locs ls F hH hL hl)
theorem z_ldcw {x : Int} {i : Nat} (hd : decode cc pc = .ok (.ldc_w i, 3)) (hw : Cond.constant own i (Int32.ofInt x) ∈ BW) (k : SWQ l Γ own cc Y QQ g n ca sl μ (pc + 3) lv (vi x :: st)) : SWQ l Γ own cc Y QQ g n ca sl μ pc lv st := by
  intro p e s m args below meth c H locs ls F hH hL hl
  exact lv_ldcw F.1.1 F.1.2.1 F.1.2.2.2.1 (F.1.2.2.2.2 _ hw) hd (k p e s m args below meth c H locs ls F hH hL hl)
theorem z_ldc2 {v : Int64} {i : Nat} (hd : decode cc pc = .ok (.ldc2_w i, 3)) (hw : Cond.constantLong own i v ∈ BW) (k : SWQ l Γ own cc Y QQ g n ca sl μ (pc + 3) lv (vl v :: st)) : SWQ l Γ own cc Y QQ g n ca sl μ pc lv st := by
  intro p e s m args below meth c H locs ls F hH hL hl
  exact lv_ldc2 F.1.1 F.1.2.1 F.1.2.2.2.1 (F.1.2.2.2.2 _ hw) hd (k p e s m args below meth c H locs ls F hH hL hl)
theorem z_ldcS {i q : Nat} {tx : String} (hd : decode cc pc = .ok (.ldc i, 2)) (hw : (own, i, tx, q) ∈ STL) (k : SWQ l Γ own cc Y QQ g n ca sl μ (pc + 2) lv (.ref (Γ.2.2.2.2.1 q) :: st)) : SWQ l Γ own cc Y QQ g n ca sl μ pc lv st := by
  intro p e s m args below meth c H locs ls F hH hL hl
  exact va_ldcS F.1.1 F.1.2.1 F.1.2.2.2.1 (F.2.2.2.2.2.2.2.1 _ hw) hd (k p e s m args below meth c H locs ls F hH hL hl)
theorem z_ldcSw {i q : Nat} {tx : String} (hd : decode cc pc = .ok (.ldc_w i, 3)) (hw : (own, i, tx, q) ∈ STL) (k : SWQ l Γ own cc Y QQ g n ca sl μ (pc + 3) lv (.ref (Γ.2.2.2.2.1 q) :: st)) : SWQ l Γ own cc Y QQ g n ca sl μ pc lv st := by
  intro p e s m args below meth c H locs ls F hH hL hl T hT X
  obtain ⟨t, a1, b1⟩ := k p e s m args below meth c H locs ls F hH hL hl T hT X
  have hZ := F.2.2.2.2.2.2.2.1 _ hw
  obtain ⟨kc, cf, j, a', hk, hcf, hcp, -, hr, hev'⟩ := Cond.stringRef_spec F.1.2.2.2.1 (show (Cond.stringRef own i tx).before #[] s = true from hZ.1)
  have hev : a' = Γ.2.2.2.2.1 q := by
    have := (show (Term.string own i).eval #[] s none [] s = some (.ref (Γ.2.2.2.2.1 q)) from hZ.2).symm.trans hev'
    injection this with this
    injection this with this
    exact this.symm
  subst hev
  obtain ⟨k', hk', he⟩ := X.warmed.alike.2.2 _ _ hk
  have hr' : k'.resolved[i]? = some (some (.string (Γ.2.2.2.2.1 q))) := by
    rcases X.warmed.entry hk hk' i with h | ⟨h, -⟩
    · rw [h]; exact hr
    · rw [hr] at h; cases h
  refine ⟨t, ?_, b1⟩
  have hdg : decode c.code (F0 m pc ls st).pc = .ok (.ldc_w i, 3) := by rw [F.1.2.1]; exact hd
  jvm_step X.here [F.1.1, hdg, ldc_w.wp_string (e := e) (s := T) (f := F0 m pc ls st) X.here.top hk' (by rw [he]; exact hcf) hcp hr']
  exact a1
theorem z_iload_n {q : Fin 4} {i : Nat} {x : Int} (hd : decode cc pc = .ok (.iload_n q, 1)) (hi : (q : Nat) = i) (j : Nat) (hj : lv[j]? = some (i, vi x)) (k : SWQ l Γ own cc Y QQ g n ca sl μ (pc + 1) lv (vi x :: st)) : SWQ l Γ own cc Y QQ g n ca sl μ pc lv st := by
  intro p e s m args below meth c H locs ls F hH hL hl
  exact lv_iload_n F.1.1 F.1.2.1 hd hi (lv_at hl j hj) (k p e s m args below meth c H locs ls F hH hL hl)
theorem z_iload {i : Nat} {x : Int} (hd : decode cc pc = .ok (.iload i, 2)) (j : Nat) (hj : lv[j]? = some (i, vi x)) (k : SWQ l Γ own cc Y QQ g n ca sl μ (pc + 2) lv (vi x :: st)) : SWQ l Γ own cc Y QQ g n ca sl μ pc lv st := by
  intro p e s m args below meth c H locs ls F hH hL hl
  exact lv_iload F.1.1 F.1.2.1 hd (lv_at hl j hj) (k p e s m args below meth c H locs ls F hH hL hl)
theorem z_istore_n {q : Fin 4} {i : Nat} {x : Int} {lv' : List (Nat × Value)} (hd : decode cc pc = .ok (.istore_n q, 1)) (hi : (q : Nat) = i) (hn : i < Y.1) (hv : (i, vi x) :: lv.filter (fun q => !(q.1 == i) && !(q.1 + 1 == i && q.2.category == 2)) = lv') (k : SWQ l Γ own cc Y QQ g n ca sl μ (pc + 1) lv' st) : SWQ l Γ own cc Y QQ g n ca sl μ pc lv (vi x :: st) := by
  intro p e s m args below meth c H locs ls F hH hL hl
  exact lv_istore_n F.1.1 F.1.2.1 hd hi hl hn hv (fun ls' hl' => k p e s m args below meth c H locs ls' F hH hL hl')
theorem z_istore {i : Nat} {x : Int} {lv' : List (Nat × Value)} (hd : decode cc pc = .ok (.istore i, 2)) (hn : i < Y.1) (hv : (i, vi x) :: lv.filter (fun q => !(q.1 == i) && !(q.1 + 1 == i && q.2.category == 2)) = lv') (k : SWQ l Γ own cc Y QQ g n ca sl μ (pc + 2) lv' st) : SWQ l Γ own cc Y QQ g n ca sl μ pc lv (vi x :: st) := by
  intro p e s m args below meth c H locs ls F hH hL hl
  exact lv_istore F.1.1 F.1.2.1 hd hl hn hv (fun ls' hl' => k p e s m args below meth c H locs ls' F hH hL hl')
theorem z_lload_n {q : Fin 4} {i : Nat} {x : Int64} (hd : decode cc pc = .ok (.lload_n q, 1)) (hi : (q : Nat) = i) (j : Nat) (hj : lv[j]? = some (i, vl x)) (k : SWQ l Γ own cc Y QQ g n ca sl μ (pc + 1) lv (vl x :: st)) : SWQ l Γ own cc Y QQ g n ca sl μ pc lv st := by
  intro p e s m args below meth c H locs ls F hH hL hl
  exact lv_lload_n F.1.1 F.1.2.1 hd hi (lv_at hl j hj) (k p e s m args below meth c H locs ls F hH hL hl)
theorem z_lload {i : Nat} {x : Int64} (hd : decode cc pc = .ok (.lload i, 2)) (j : Nat) (hj : lv[j]? = some (i, vl x)) (k : SWQ l Γ own cc Y QQ g n ca sl μ (pc + 2) lv (vl x :: st)) : SWQ l Γ own cc Y QQ g n ca sl μ pc lv st := by
  intro p e s m args below meth c H locs ls F hH hL hl
  exact lv_lload F.1.1 F.1.2.1 hd (lv_at hl j hj) (k p e s m args below meth c H locs ls F hH hL hl)
theorem z_lstore_n {q : Fin 4} {i : Nat} {x : Int64} {lv' : List (Nat × Value)} (hd : decode cc pc = .ok (.lstore_n q, 1)) (hi : (q : Nat) = i) (hn : i + 1 < Y.1) (hv : (i, vl x) :: lv.filter (fun q => !(q.1 == i) && (!(q.1 == i + 1) && !(q.1 + 1 == i && q.2.category == 2))) = lv') (k : SWQ l Γ own cc Y QQ g n ca sl μ (pc + 1) lv' st) : SWQ l Γ own cc Y QQ g n ca sl μ pc lv (vl x :: st) := by
  intro p e s m args below meth c H locs ls F hH hL hl
  exact lv_lstore_n F.1.1 F.1.2.1 hd hi hl hn hv (fun ls' hl' => k p e s m args below meth c H locs ls' F hH hL hl')
theorem z_lstore {i : Nat} {x : Int64} {lv' : List (Nat × Value)} (hd : decode cc pc = .ok (.lstore i, 2)) (hn : i + 1 < Y.1) (hv : (i, vl x) :: lv.filter (fun q => !(q.1 == i) && (!(q.1 == i + 1) && !(q.1 + 1 == i && q.2.category == 2))) = lv') (k : SWQ l Γ own cc Y QQ g n ca sl μ (pc + 2) lv' st) : SWQ l Γ own cc Y QQ g n ca sl μ pc lv (vl x :: st) := by
  intro p e s m args below meth c H locs ls F hH hL hl
  exact lv_lstore F.1.1 F.1.2.1 hd hl hn hv (fun ls' hl' => k p e s m args below meth c H locs ls' F hH hL hl')
theorem z_aload_n {q : Fin 4} {i : Nat} {x : Nat} (hd : decode cc pc = .ok (.aload_n q, 1)) (hi : (q : Nat) = i) (j : Nat) (hj : lv[j]? = some (i, .ref x)) (k : SWQ l Γ own cc Y QQ g n ca sl μ (pc + 1) lv (.ref x :: st)) : SWQ l Γ own cc Y QQ g n ca sl μ pc lv st := by
  intro p e s m args below meth c H locs ls F hH hL hl
  exact lv_aload_n F.1.1 F.1.2.1 hd hi (lv_at hl j hj) (k p e s m args below meth c H locs ls F hH hL hl)
theorem z_aload {i : Nat} {x : Nat} (hd : decode cc pc = .ok (.aload i, 2)) (j : Nat) (hj : lv[j]? = some (i, .ref x)) (k : SWQ l Γ own cc Y QQ g n ca sl μ (pc + 2) lv (.ref x :: st)) : SWQ l Γ own cc Y QQ g n ca sl μ pc lv st := by
  intro p e s m args below meth c H locs ls F hH hL hl
  exact lv_aload F.1.1 F.1.2.1 hd (lv_at hl j hj) (k p e s m args below meth c H locs ls F hH hL hl)
theorem z_astore_n {q : Fin 4} {i : Nat} {x : Nat} {lv' : List (Nat × Value)} (hd : decode cc pc = .ok (.astore_n q, 1)) (hi : (q : Nat) = i) (hn : i < Y.1) (hv : (i, Value.ref x) :: lv.filter (fun q => !(q.1 == i) && !(q.1 + 1 == i && q.2.category == 2)) = lv') (k : SWQ l Γ own cc Y QQ g n ca sl μ (pc + 1) lv' st) : SWQ l Γ own cc Y QQ g n ca sl μ pc lv (.ref x :: st) := by
  intro p e s m args below meth c H locs ls F hH hL hl
  exact lv_astore_n F.1.1 F.1.2.1 hd hi hl hn hv (fun ls' hl' => k p e s m args below meth c H locs ls' F hH hL hl')
theorem z_astore {i : Nat} {x : Nat} {lv' : List (Nat × Value)} (hd : decode cc pc = .ok (.astore i, 2)) (hn : i < Y.1) (hv : (i, Value.ref x) :: lv.filter (fun q => !(q.1 == i) && !(q.1 + 1 == i && q.2.category == 2)) = lv') (k : SWQ l Γ own cc Y QQ g n ca sl μ (pc + 2) lv' st) : SWQ l Γ own cc Y QQ g n ca sl μ pc lv (.ref x :: st) := by
  intro p e s m args below meth c H locs ls F hH hL hl
  exact lv_astore F.1.1 F.1.2.1 hd hl hn hv (fun ls' hl' => k p e s m args below meth c H locs ls' F hH hL hl')
theorem z_iinc {i j : Nat} {x y : Int} {lv' : List (Nat × Value)} (hd : decode cc pc = .ok (.iinc i y, 3)) (hj : lv[j]? = some (i, vi x)) (hn : i < Y.1) (hv : (i, vi (x + y)) :: lv.filter (fun q => !(q.1 == i) && !(q.1 + 1 == i && q.2.category == 2)) = lv') (k : SWQ l Γ own cc Y QQ g n ca sl μ (pc + 3) lv' st) : SWQ l Γ own cc Y QQ g n ca sl μ pc lv st := by
  intro p e s m args below meth c H locs ls F hH hL hl
  exact lv_iinc F.1.1 F.1.2.1 hd hl (k := j) hj (Int32.ofInt_add _ _).symm hn hv (fun ls' hl' => k p e s m args below meth c H locs ls' F hH hL hl')
theorem z_iadd {x y : Int} (hd : decode cc pc = .ok (.iadd, 1)) (k : SWQ l Γ own cc Y QQ g n ca sl μ (pc + 1) lv (vi (x + y) :: st)) : SWQ l Γ own cc Y QQ g n ca sl μ pc lv (vi y :: vi x :: st) := by
  intro p e s m args below meth c H locs ls F hH hL hl
  refine lv_iadd F.1.1 F.1.2.1 hd ?_
  have h := k p e s m args below meth c H locs ls F hH hL hl
  unfold vi at h
  rw [Int32.ofInt_add] at h
  exact h
theorem z_isub {x y : Int} (hd : decode cc pc = .ok (.isub, 1)) (k : SWQ l Γ own cc Y QQ g n ca sl μ (pc + 1) lv (vi (x - y) :: st)) : SWQ l Γ own cc Y QQ g n ca sl μ pc lv (vi y :: vi x :: st) := by
  intro p e s m args below meth c H locs ls F hH hL hl
  refine lv_isub F.1.1 F.1.2.1 hd ?_
  have h := k p e s m args below meth c H locs ls F hH hL hl
  unfold vi at h
  rw [Int32.ofInt_sub] at h
  exact h
theorem z_imul {x y : Int} (hd : decode cc pc = .ok (.imul, 1)) (k : SWQ l Γ own cc Y QQ g n ca sl μ (pc + 1) lv (vi (x * y) :: st)) : SWQ l Γ own cc Y QQ g n ca sl μ pc lv (vi y :: vi x :: st) := by
  intro p e s m args below meth c H locs ls F hH hL hl
  refine lv_imul F.1.1 F.1.2.1 hd ?_
  have h := k p e s m args below meth c H locs ls F hH hL hl
  unfold vi at h
  rw [Int32.ofInt_mul] at h
  exact h
theorem z_ineg {x : Int} (hd : decode cc pc = .ok (.ineg, 1)) (k : SWQ l Γ own cc Y QQ g n ca sl μ (pc + 1) lv (vi (-x) :: st)) : SWQ l Γ own cc Y QQ g n ca sl μ pc lv (vi x :: st) := by
  intro p e s m args below meth c H locs ls F hH hL hl
  refine lv_ineg F.1.1 F.1.2.1 hd ?_
  have h := k p e s m args below meth c H locs ls F hH hL hl
  unfold vi at h
  rw [Int32.ofInt_neg] at h
  exact h
theorem z_iand {x y : Int} (hd : decode cc pc = .ok (.iand, 1)) (k : SWQ l Γ own cc Y QQ g n ca sl μ (pc + 1) lv (vi (w_iand x y) :: st)) : SWQ l Γ own cc Y QQ g n ca sl μ pc lv (vi y :: vi x :: st) := by
  intro p e s m args below meth c H locs ls F hH hL hl
  refine lv_iand F.1.1 F.1.2.1 hd ?_
  have h := k p e s m args below meth c H locs ls F hH hL hl
  unfold vi w_iand at h
  rw [Int32.ofInt_toInt] at h
  exact h
theorem z_ior {x y : Int} (hd : decode cc pc = .ok (.ior, 1)) (k : SWQ l Γ own cc Y QQ g n ca sl μ (pc + 1) lv (vi (w_ior x y) :: st)) : SWQ l Γ own cc Y QQ g n ca sl μ pc lv (vi y :: vi x :: st) := by
  intro p e s m args below meth c H locs ls F hH hL hl
  refine lv_ior F.1.1 F.1.2.1 hd ?_
  have h := k p e s m args below meth c H locs ls F hH hL hl
  unfold vi w_ior at h
  rw [Int32.ofInt_toInt] at h
  exact h
theorem z_ixor {x y : Int} (hd : decode cc pc = .ok (.ixor, 1)) (k : SWQ l Γ own cc Y QQ g n ca sl μ (pc + 1) lv (vi (w_ixor x y) :: st)) : SWQ l Γ own cc Y QQ g n ca sl μ pc lv (vi y :: vi x :: st) := by
  intro p e s m args below meth c H locs ls F hH hL hl
  refine lv_ixor F.1.1 F.1.2.1 hd ?_
  have h := k p e s m args below meth c H locs ls F hH hL hl
  unfold vi w_ixor at h
  rw [Int32.ofInt_toInt] at h
  exact h
theorem z_ishl {x y : Int} (hd : decode cc pc = .ok (.ishl, 1)) (k : SWQ l Γ own cc Y QQ g n ca sl μ (pc + 1) lv (vi (w_ishl x y) :: st)) : SWQ l Γ own cc Y QQ g n ca sl μ pc lv (vi y :: vi x :: st) := by
  intro p e s m args below meth c H locs ls F hH hL hl
  refine lv_ishl F.1.1 F.1.2.1 hd ?_
  have h := k p e s m args below meth c H locs ls F hH hL hl
  unfold vi w_ishl at h
  rw [Int32.ofInt_toInt] at h
  exact h
theorem z_ishr {x y : Int} (hd : decode cc pc = .ok (.ishr, 1)) (k : SWQ l Γ own cc Y QQ g n ca sl μ (pc + 1) lv (vi (w_ishr x y) :: st)) : SWQ l Γ own cc Y QQ g n ca sl μ pc lv (vi y :: vi x :: st) := by
  intro p e s m args below meth c H locs ls F hH hL hl
  refine lv_ishr F.1.1 F.1.2.1 hd ?_
  have h := k p e s m args below meth c H locs ls F hH hL hl
  unfold vi w_ishr at h
  rw [Int32.ofInt_toInt] at h
  exact h
theorem z_iushr {x y : Int} (hd : decode cc pc = .ok (.iushr, 1)) (k : SWQ l Γ own cc Y QQ g n ca sl μ (pc + 1) lv (vi (w_iushr x y) :: st)) : SWQ l Γ own cc Y QQ g n ca sl μ pc lv (vi y :: vi x :: st) := by
  intro p e s m args below meth c H locs ls F hH hL hl
  refine lv_iushr F.1.1 F.1.2.1 hd rfl ?_
  have h := k p e s m args below meth c H locs ls F hH hL hl
  unfold vi w_iushr at h
  rw [Int32.ofInt_toInt] at h
  exact h
theorem z_idiv {x y : Int} (hd : decode cc pc = .ok (.idiv, 1)) (hne : ¬ w y = 0) (k : SWQ l Γ own cc Y QQ g n ca sl μ (pc + 1) lv (vi (w_idiv x y) :: st)) : SWQ l Γ own cc Y QQ g n ca sl μ pc lv (vi y :: vi x :: st) := by
  intro p e s m args below meth c H locs ls F hH hL hl
  refine lv_idiv F.1.1 F.1.2.1 hd (fun h => hne ((ofInt_eq (x := y) (y := 0)).mp h)) ?_
  have h := k p e s m args below meth c H locs ls F hH hL hl
  unfold vi w_idiv at h
  rw [Int32.ofInt_toInt] at h
  exact h
theorem z_irem {x y : Int} (hd : decode cc pc = .ok (.irem, 1)) (hne : ¬ w y = 0) (k : SWQ l Γ own cc Y QQ g n ca sl μ (pc + 1) lv (vi (w_irem x y) :: st)) : SWQ l Γ own cc Y QQ g n ca sl μ pc lv (vi y :: vi x :: st) := by
  intro p e s m args below meth c H locs ls F hH hL hl
  refine lv_irem F.1.1 F.1.2.1 hd (fun h => hne ((ofInt_eq (x := y) (y := 0)).mp h)) ?_
  have h := k p e s m args below meth c H locs ls F hH hL hl
  unfold vi w_irem at h
  rw [Int32.ofInt_toInt] at h
  exact h
theorem z_i2b {x : Int} (hd : decode cc pc = .ok (.i2b, 1)) (k : SWQ l Γ own cc Y QQ g n ca sl μ (pc + 1) lv (vi (w_i2b x) :: st)) : SWQ l Γ own cc Y QQ g n ca sl μ pc lv (vi x :: st) := by
  intro p e s m args below meth c H locs ls F hH hL hl
  refine lv_i2b F.1.1 F.1.2.1 hd rfl ?_
  have h := k p e s m args below meth c H locs ls F hH hL hl
  unfold vi w_i2b at h
  rw [Int32.ofInt_toInt] at h
  exact h
theorem z_l2i {x : Int64} (hd : decode cc pc = .ok (.l2i, 1)) (k : SWQ l Γ own cc Y QQ g n ca sl μ (pc + 1) lv (vi (w_l2i x) :: st)) : SWQ l Γ own cc Y QQ g n ca sl μ pc lv (vl x :: st) := by
  intro p e s m args below meth c H locs ls F hH hL hl
  refine lv_l2i F.1.1 F.1.2.1 hd rfl ?_
  have h := k p e s m args below meth c H locs ls F hH hL hl
  unfold vi w_l2i at h
  rw [Int32.ofInt_toInt] at h
  exact h
theorem z_i2l {x : Int} (hd : decode cc pc = .ok (.i2l, 1)) (k : SWQ l Γ own cc Y QQ g n ca sl μ (pc + 1) lv (vl (w_i2l x) :: st)) : SWQ l Γ own cc Y QQ g n ca sl μ pc lv (vi x :: st) := by
  intro p e s m args below meth c H locs ls F hH hL hl
  exact lv_i2l F.1.1 F.1.2.1 hd rfl (k p e s m args below meth c H locs ls F hH hL hl)
theorem z_ladd {x y : Int64} (hd : decode cc pc = .ok (.ladd, 1)) (k : SWQ l Γ own cc Y QQ g n ca sl μ (pc + 1) lv (vl (x + y) :: st)) : SWQ l Γ own cc Y QQ g n ca sl μ pc lv (vl y :: vl x :: st) := by
  intro p e s m args below meth c H locs ls F hH hL hl
  exact lv_ladd F.1.1 F.1.2.1 hd (k p e s m args below meth c H locs ls F hH hL hl)
theorem z_lsub {x y : Int64} (hd : decode cc pc = .ok (.lsub, 1)) (k : SWQ l Γ own cc Y QQ g n ca sl μ (pc + 1) lv (vl (x - y) :: st)) : SWQ l Γ own cc Y QQ g n ca sl μ pc lv (vl y :: vl x :: st) := by
  intro p e s m args below meth c H locs ls F hH hL hl
  exact lv_lsub F.1.1 F.1.2.1 hd (k p e s m args below meth c H locs ls F hH hL hl)
theorem z_lmul {x y : Int64} (hd : decode cc pc = .ok (.lmul, 1)) (k : SWQ l Γ own cc Y QQ g n ca sl μ (pc + 1) lv (vl (x * y) :: st)) : SWQ l Γ own cc Y QQ g n ca sl μ pc lv (vl y :: vl x :: st) := by
  intro p e s m args below meth c H locs ls F hH hL hl
  exact lv_lmul F.1.1 F.1.2.1 hd (k p e s m args below meth c H locs ls F hH hL hl)
theorem z_land {x y : Int64} (hd : decode cc pc = .ok (.land, 1)) (k : SWQ l Γ own cc Y QQ g n ca sl μ (pc + 1) lv (vl (x &&& y) :: st)) : SWQ l Γ own cc Y QQ g n ca sl μ pc lv (vl y :: vl x :: st) := by
  intro p e s m args below meth c H locs ls F hH hL hl
  exact lv_land F.1.1 F.1.2.1 hd (k p e s m args below meth c H locs ls F hH hL hl)
theorem z_lor {x y : Int64} (hd : decode cc pc = .ok (.lor, 1)) (k : SWQ l Γ own cc Y QQ g n ca sl μ (pc + 1) lv (vl (x ||| y) :: st)) : SWQ l Γ own cc Y QQ g n ca sl μ pc lv (vl y :: vl x :: st) := by
  intro p e s m args below meth c H locs ls F hH hL hl
  exact lv_lor F.1.1 F.1.2.1 hd (k p e s m args below meth c H locs ls F hH hL hl)
theorem z_lxor {x y : Int64} (hd : decode cc pc = .ok (.lxor, 1)) (k : SWQ l Γ own cc Y QQ g n ca sl μ (pc + 1) lv (vl (x ^^^ y) :: st)) : SWQ l Γ own cc Y QQ g n ca sl μ pc lv (vl y :: vl x :: st) := by
  intro p e s m args below meth c H locs ls F hH hL hl
  exact lv_lxor F.1.1 F.1.2.1 hd (k p e s m args below meth c H locs ls F hH hL hl)
theorem z_ldiv {x y : Int64} (hd : decode cc pc = .ok (.ldiv, 1)) (hne : ¬ y = 0) (k : SWQ l Γ own cc Y QQ g n ca sl μ (pc + 1) lv (vl (x / y) :: st)) : SWQ l Γ own cc Y QQ g n ca sl μ pc lv (vl y :: vl x :: st) := by
  intro p e s m args below meth c H locs ls F hH hL hl
  exact lv_ldiv F.1.1 F.1.2.1 hd hne (k p e s m args below meth c H locs ls F hH hL hl)
theorem z_lneg {x : Int64} (hd : decode cc pc = .ok (.lneg, 1)) (k : SWQ l Γ own cc Y QQ g n ca sl μ (pc + 1) lv (vl (-x) :: st)) : SWQ l Γ own cc Y QQ g n ca sl μ pc lv (vl x :: st) := by
  intro p e s m args below meth c H locs ls F hH hL hl
  exact lv_lneg F.1.1 F.1.2.1 hd (k p e s m args below meth c H locs ls F hH hL hl)
theorem z_lushr {x : Int64} {y : Int} (hd : decode cc pc = .ok (.lushr, 1)) (k : SWQ l Γ own cc Y QQ g n ca sl μ (pc + 1) lv (vl (w_lushr x y) :: st)) : SWQ l Γ own cc Y QQ g n ca sl μ pc lv (vi y :: vl x :: st) := by
  intro p e s m args below meth c H locs ls F hH hL hl
  exact lv_lushr F.1.1 F.1.2.1 hd rfl (k p e s m args below meth c H locs ls F hH hL hl)
theorem z_lshl {x : Int64} {y : Int} (hd : decode cc pc = .ok (.lshl, 1)) (k : SWQ l Γ own cc Y QQ g n ca sl μ (pc + 1) lv (vl (w_lshl x y) :: st)) : SWQ l Γ own cc Y QQ g n ca sl μ pc lv (vi y :: vl x :: st) := by
  intro p e s m args below meth c H locs ls F hH hL hl
  exact lv_lshl F.1.1 F.1.2.1 hd rfl (k p e s m args below meth c H locs ls F hH hL hl)
theorem z_dup {va : Value} (hd : decode cc pc = .ok (.dup, 1)) (hva : va.category = 1) (k : SWQ l Γ own cc Y QQ g n ca sl μ (pc + 1) lv (va :: va :: st)) : SWQ l Γ own cc Y QQ g n ca sl μ pc lv (va :: st) := by
  intro p e s m args below meth c H locs ls F hH hL hl
  exact lv_dup F.1.1 F.1.2.1 hd hva (k p e s m args below meth c H locs ls F hH hL hl)
theorem z_pop {va : Value} (hd : decode cc pc = .ok (.pop, 1)) (hva : va.category = 1) (k : SWQ l Γ own cc Y QQ g n ca sl μ (pc + 1) lv st) : SWQ l Γ own cc Y QQ g n ca sl μ pc lv (va :: st) := by
  intro p e s m args below meth c H locs ls F hH hL hl
  exact lv_pop F.1.1 F.1.2.1 hd hva (k p e s m args below meth c H locs ls F hH hL hl)
theorem z_dup2 {va vb : Value} (hd : decode cc pc = .ok (.dup2, 1)) (hva : va.category = 1) (hvb : vb.category = 1) (k : SWQ l Γ own cc Y QQ g n ca sl μ (pc + 1) lv (va :: vb :: va :: vb :: st)) : SWQ l Γ own cc Y QQ g n ca sl μ pc lv (va :: vb :: st) := by
  intro p e s m args below meth c H locs ls F hH hL hl
  exact lv_dup2_11 F.1.1 F.1.2.1 hd hva hvb (k p e s m args below meth c H locs ls F hH hL hl)
theorem z_icmp_eq {x y : Int} {A B : Prop} {off : Int} {tgt : Nat} (hd : decode cc pc = .ok (.if_icmp .eq off, 3)) (ht : (pc : Int) + off = (tgt : Int)) (h : if w x = w y then A else B) (kt : A → SWQ l Γ own cc Y QQ g n ca sl μ tgt lv st) (kf : B → SWQ l Γ own cc Y QQ g n ca sl μ (pc + 3) lv st) : SWQ l Γ own cc Y QQ g n ca sl μ pc lv (vi y :: vi x :: st) := by
  intro p e s m args below meth c H locs ls F hH hL hl
  have key : ∀ q : Prop, True := fun _ => trivial
  by_cases hc : w x = w y
  · rw [if_pos hc] at h
    exact lv_icmp_eq F.1.1 F.1.2.1 hd ht (fun q => kt h p e s m args below meth c H locs ls F hH hL hl) (fun q => absurd ((ofInt_eq (x := x) (y := y)).mpr hc) (by first | exact q | (simpa using q)))
  · rw [if_neg hc] at h
    exact lv_icmp_eq F.1.1 F.1.2.1 hd ht (fun q => absurd ((ofInt_eq (x := x) (y := y)).mp (by first | exact q | (simpa using q))) hc) (fun q => kf h p e s m args below meth c H locs ls F hH hL hl)
theorem z_if_eq {x : Int} {A B : Prop} {off : Int} {tgt : Nat} (hd : decode cc pc = .ok (.ifCond .eq off, 3)) (ht : (pc : Int) + off = (tgt : Int)) (h : if w x = 0 then A else B) (kt : A → SWQ l Γ own cc Y QQ g n ca sl μ tgt lv st) (kf : B → SWQ l Γ own cc Y QQ g n ca sl μ (pc + 3) lv st) : SWQ l Γ own cc Y QQ g n ca sl μ pc lv (vi x :: st) := by
  intro p e s m args below meth c H locs ls F hH hL hl
  have key : ∀ q : Prop, True := fun _ => trivial
  by_cases hc : w x = 0
  · rw [if_pos hc] at h
    exact lv_if_eq F.1.1 F.1.2.1 hd ht (fun q => kt h p e s m args below meth c H locs ls F hH hL hl) (fun q => absurd ((ofInt_eq (x := x) (y := 0)).mpr hc) (by first | exact q | (simpa using q)))
  · rw [if_neg hc] at h
    exact lv_if_eq F.1.1 F.1.2.1 hd ht (fun q => absurd ((ofInt_eq (x := x) (y := 0)).mp (by first | exact q | (simpa using q))) hc) (fun q => kf h p e s m args below meth c H locs ls F hH hL hl)
theorem z_icmp_ne {x y : Int} {A B : Prop} {off : Int} {tgt : Nat} (hd : decode cc pc = .ok (.if_icmp .ne off, 3)) (ht : (pc : Int) + off = (tgt : Int)) (h : if w x = w y then A else B) (kt : A → SWQ l Γ own cc Y QQ g n ca sl μ (pc + 3) lv st) (kf : B → SWQ l Γ own cc Y QQ g n ca sl μ tgt lv st) : SWQ l Γ own cc Y QQ g n ca sl μ pc lv (vi y :: vi x :: st) := by
  intro p e s m args below meth c H locs ls F hH hL hl
  have key : ∀ q : Prop, True := fun _ => trivial
  by_cases hc : w x = w y
  · rw [if_pos hc] at h
    exact lv_icmp_ne F.1.1 F.1.2.1 hd ht (fun q => absurd ((ofInt_eq (x := x) (y := y)).mpr hc) (by first | exact q | (intro z; exact absurd q (by simpa using z)) | (simpa using q))) (fun q => kt h p e s m args below meth c H locs ls F hH hL hl)
  · rw [if_neg hc] at h
    exact lv_icmp_ne F.1.1 F.1.2.1 hd ht (fun q => kf h p e s m args below meth c H locs ls F hH hL hl) (fun q => absurd ((ofInt_eq (x := x) (y := y)).mp (by first | exact q | (simpa using q))) hc)
theorem z_if_ne {x : Int} {A B : Prop} {off : Int} {tgt : Nat} (hd : decode cc pc = .ok (.ifCond .ne off, 3)) (ht : (pc : Int) + off = (tgt : Int)) (h : if w x = 0 then A else B) (kt : A → SWQ l Γ own cc Y QQ g n ca sl μ (pc + 3) lv st) (kf : B → SWQ l Γ own cc Y QQ g n ca sl μ tgt lv st) : SWQ l Γ own cc Y QQ g n ca sl μ pc lv (vi x :: st) := by
  intro p e s m args below meth c H locs ls F hH hL hl
  have key : ∀ q : Prop, True := fun _ => trivial
  by_cases hc : w x = 0
  · rw [if_pos hc] at h
    exact lv_if_ne F.1.1 F.1.2.1 hd ht (fun q => absurd ((ofInt_eq (x := x) (y := 0)).mpr hc) (by first | exact q | (intro z; exact absurd q (by simpa using z)) | (simpa using q))) (fun q => kt h p e s m args below meth c H locs ls F hH hL hl)
  · rw [if_neg hc] at h
    exact lv_if_ne F.1.1 F.1.2.1 hd ht (fun q => kf h p e s m args below meth c H locs ls F hH hL hl) (fun q => absurd ((ofInt_eq (x := x) (y := 0)).mp (by first | exact q | (simpa using q))) hc)
theorem z_icmp_lt {x y : Int} {A B : Prop} {off : Int} {tgt : Nat} (hd : decode cc pc = .ok (.if_icmp .lt off, 3)) (ht : (pc : Int) + off = (tgt : Int)) (h : if w x < w y then A else B) (kt : A → SWQ l Γ own cc Y QQ g n ca sl μ tgt lv st) (kf : B → SWQ l Γ own cc Y QQ g n ca sl μ (pc + 3) lv st) : SWQ l Γ own cc Y QQ g n ca sl μ pc lv (vi y :: vi x :: st) := by
  intro p e s m args below meth c H locs ls F hH hL hl
  have key : ∀ q : Prop, True := fun _ => trivial
  by_cases hc : w x < w y
  · rw [if_pos hc] at h
    exact lv_icmp_lt F.1.1 F.1.2.1 hd ht (fun q => kt h p e s m args below meth c H locs ls F hH hL hl) (fun q => absurd ((ofInt_lt (x := x) (y := y)).mpr hc) (by first | exact q | (simpa using q)))
  · rw [if_neg hc] at h
    exact lv_icmp_lt F.1.1 F.1.2.1 hd ht (fun q => absurd ((ofInt_lt (x := x) (y := y)).mp (by first | exact q | (simpa using q))) hc) (fun q => kf h p e s m args below meth c H locs ls F hH hL hl)
theorem z_if_lt {x : Int} {A B : Prop} {off : Int} {tgt : Nat} (hd : decode cc pc = .ok (.ifCond .lt off, 3)) (ht : (pc : Int) + off = (tgt : Int)) (h : if w x < 0 then A else B) (kt : A → SWQ l Γ own cc Y QQ g n ca sl μ tgt lv st) (kf : B → SWQ l Γ own cc Y QQ g n ca sl μ (pc + 3) lv st) : SWQ l Γ own cc Y QQ g n ca sl μ pc lv (vi x :: st) := by
  intro p e s m args below meth c H locs ls F hH hL hl
  have key : ∀ q : Prop, True := fun _ => trivial
  by_cases hc : w x < 0
  · rw [if_pos hc] at h
    exact lv_if_lt F.1.1 F.1.2.1 hd ht (fun q => kt h p e s m args below meth c H locs ls F hH hL hl) (fun q => absurd ((ofInt_lt (x := x) (y := 0)).mpr hc) (by first | exact q | (simpa using q)))
  · rw [if_neg hc] at h
    exact lv_if_lt F.1.1 F.1.2.1 hd ht (fun q => absurd ((ofInt_lt (x := x) (y := 0)).mp (by first | exact q | (simpa using q))) hc) (fun q => kf h p e s m args below meth c H locs ls F hH hL hl)
theorem z_icmp_ge {x y : Int} {A B : Prop} {off : Int} {tgt : Nat} (hd : decode cc pc = .ok (.if_icmp .ge off, 3)) (ht : (pc : Int) + off = (tgt : Int)) (h : if w x < w y then A else B) (kt : A → SWQ l Γ own cc Y QQ g n ca sl μ (pc + 3) lv st) (kf : B → SWQ l Γ own cc Y QQ g n ca sl μ tgt lv st) : SWQ l Γ own cc Y QQ g n ca sl μ pc lv (vi y :: vi x :: st) := by
  intro p e s m args below meth c H locs ls F hH hL hl
  have key : ∀ q : Prop, True := fun _ => trivial
  by_cases hc : w x < w y
  · rw [if_pos hc] at h
    exact lv_icmp_ge F.1.1 F.1.2.1 hd ht (fun q => absurd ((ofInt_lt (x := x) (y := y)).mpr hc) (by first | exact q | (intro z; exact absurd q (by simpa using z)) | (simpa using q))) (fun q => kt h p e s m args below meth c H locs ls F hH hL hl)
  · rw [if_neg hc] at h
    exact lv_icmp_ge F.1.1 F.1.2.1 hd ht (fun q => kf h p e s m args below meth c H locs ls F hH hL hl) (fun q => absurd ((ofInt_lt (x := x) (y := y)).mp (by first | exact q | (simpa using q))) hc)
theorem z_if_ge {x : Int} {A B : Prop} {off : Int} {tgt : Nat} (hd : decode cc pc = .ok (.ifCond .ge off, 3)) (ht : (pc : Int) + off = (tgt : Int)) (h : if w x < 0 then A else B) (kt : A → SWQ l Γ own cc Y QQ g n ca sl μ (pc + 3) lv st) (kf : B → SWQ l Γ own cc Y QQ g n ca sl μ tgt lv st) : SWQ l Γ own cc Y QQ g n ca sl μ pc lv (vi x :: st) := by
  intro p e s m args below meth c H locs ls F hH hL hl
  have key : ∀ q : Prop, True := fun _ => trivial
  by_cases hc : w x < 0
  · rw [if_pos hc] at h
    exact lv_if_ge F.1.1 F.1.2.1 hd ht (fun q => absurd ((ofInt_lt (x := x) (y := 0)).mpr hc) (by first | exact q | (intro z; exact absurd q (by simpa using z)) | (simpa using q))) (fun q => kt h p e s m args below meth c H locs ls F hH hL hl)
  · rw [if_neg hc] at h
    exact lv_if_ge F.1.1 F.1.2.1 hd ht (fun q => kf h p e s m args below meth c H locs ls F hH hL hl) (fun q => absurd ((ofInt_lt (x := x) (y := 0)).mp (by first | exact q | (simpa using q))) hc)
theorem z_icmp_gt {x y : Int} {A B : Prop} {off : Int} {tgt : Nat} (hd : decode cc pc = .ok (.if_icmp .gt off, 3)) (ht : (pc : Int) + off = (tgt : Int)) (h : if w y < w x then A else B) (kt : A → SWQ l Γ own cc Y QQ g n ca sl μ tgt lv st) (kf : B → SWQ l Γ own cc Y QQ g n ca sl μ (pc + 3) lv st) : SWQ l Γ own cc Y QQ g n ca sl μ pc lv (vi y :: vi x :: st) := by
  intro p e s m args below meth c H locs ls F hH hL hl
  have key : ∀ q : Prop, True := fun _ => trivial
  by_cases hc : w y < w x
  · rw [if_pos hc] at h
    exact lv_icmp_gt F.1.1 F.1.2.1 hd ht (fun q => kt h p e s m args below meth c H locs ls F hH hL hl) (fun q => absurd ((ofInt_lt (x := y) (y := x)).mpr hc) (by first | exact q | (simpa using q)))
  · rw [if_neg hc] at h
    exact lv_icmp_gt F.1.1 F.1.2.1 hd ht (fun q => absurd ((ofInt_lt (x := y) (y := x)).mp (by first | exact q | (simpa using q))) hc) (fun q => kf h p e s m args below meth c H locs ls F hH hL hl)
theorem z_if_gt {x : Int} {A B : Prop} {off : Int} {tgt : Nat} (hd : decode cc pc = .ok (.ifCond .gt off, 3)) (ht : (pc : Int) + off = (tgt : Int)) (h : if 0 < w x then A else B) (kt : A → SWQ l Γ own cc Y QQ g n ca sl μ tgt lv st) (kf : B → SWQ l Γ own cc Y QQ g n ca sl μ (pc + 3) lv st) : SWQ l Γ own cc Y QQ g n ca sl μ pc lv (vi x :: st) := by
  intro p e s m args below meth c H locs ls F hH hL hl
  have key : ∀ q : Prop, True := fun _ => trivial
  by_cases hc : 0 < w x
  · rw [if_pos hc] at h
    exact lv_if_gt F.1.1 F.1.2.1 hd ht (fun q => kt h p e s m args below meth c H locs ls F hH hL hl) (fun q => absurd ((ofInt_lt (x := 0) (y := x)).mpr hc) (by first | exact q | (simpa using q)))
  · rw [if_neg hc] at h
    exact lv_if_gt F.1.1 F.1.2.1 hd ht (fun q => absurd ((ofInt_lt (x := 0) (y := x)).mp (by first | exact q | (simpa using q))) hc) (fun q => kf h p e s m args below meth c H locs ls F hH hL hl)
theorem z_icmp_le {x y : Int} {A B : Prop} {off : Int} {tgt : Nat} (hd : decode cc pc = .ok (.if_icmp .le off, 3)) (ht : (pc : Int) + off = (tgt : Int)) (h : if w y < w x then A else B) (kt : A → SWQ l Γ own cc Y QQ g n ca sl μ (pc + 3) lv st) (kf : B → SWQ l Γ own cc Y QQ g n ca sl μ tgt lv st) : SWQ l Γ own cc Y QQ g n ca sl μ pc lv (vi y :: vi x :: st) := by
  intro p e s m args below meth c H locs ls F hH hL hl
  have key : ∀ q : Prop, True := fun _ => trivial
  by_cases hc : w y < w x
  · rw [if_pos hc] at h
    exact lv_icmp_le F.1.1 F.1.2.1 hd ht (fun q => absurd ((ofInt_lt (x := y) (y := x)).mpr hc) (by first | exact q | (intro z; exact absurd q (by simpa using z)) | (simpa using q))) (fun q => kt h p e s m args below meth c H locs ls F hH hL hl)
  · rw [if_neg hc] at h
    exact lv_icmp_le F.1.1 F.1.2.1 hd ht (fun q => kf h p e s m args below meth c H locs ls F hH hL hl) (fun q => absurd ((ofInt_lt (x := y) (y := x)).mp (by first | exact q | (simpa using q))) hc)
theorem z_if_le {x : Int} {A B : Prop} {off : Int} {tgt : Nat} (hd : decode cc pc = .ok (.ifCond .le off, 3)) (ht : (pc : Int) + off = (tgt : Int)) (h : if 0 < w x then A else B) (kt : A → SWQ l Γ own cc Y QQ g n ca sl μ (pc + 3) lv st) (kf : B → SWQ l Γ own cc Y QQ g n ca sl μ tgt lv st) : SWQ l Γ own cc Y QQ g n ca sl μ pc lv (vi x :: st) := by
  intro p e s m args below meth c H locs ls F hH hL hl
  have key : ∀ q : Prop, True := fun _ => trivial
  by_cases hc : 0 < w x
  · rw [if_pos hc] at h
    exact lv_if_le F.1.1 F.1.2.1 hd ht (fun q => absurd ((ofInt_lt (x := 0) (y := x)).mpr hc) (by first | exact q | (intro z; exact absurd q (by simpa using z)) | (simpa using q))) (fun q => kt h p e s m args below meth c H locs ls F hH hL hl)
  · rw [if_neg hc] at h
    exact lv_if_le F.1.1 F.1.2.1 hd ht (fun q => kf h p e s m args below meth c H locs ls F hH hL hl) (fun q => absurd ((ofInt_lt (x := 0) (y := x)).mp (by first | exact q | (simpa using q))) hc)
theorem z_icmp_eq_T {x y : Int} {off : Int} {tgt : Nat} (hd : decode cc pc = .ok (.if_icmp .eq off, 3)) (ht : (pc : Int) + off = (tgt : Int)) (hc : w x = w y) (k : SWQ l Γ own cc Y QQ g n ca sl μ tgt lv st) : SWQ l Γ own cc Y QQ g n ca sl μ pc lv (vi y :: vi x :: st) := z_icmp_eq (A := True) (B := ¬ (w x = w y)) hd ht (by rw [if_pos hc]; trivial) (fun _ => k) (fun q => absurd hc q)
theorem z_icmp_eq_F {x y : Int} {off : Int} {tgt : Nat} (hd : decode cc pc = .ok (.if_icmp .eq off, 3)) (ht : (pc : Int) + off = (tgt : Int)) (hc : ¬ (w x = w y)) (k : SWQ l Γ own cc Y QQ g n ca sl μ (pc + 3) lv st) : SWQ l Γ own cc Y QQ g n ca sl μ pc lv (vi y :: vi x :: st) := z_icmp_eq (A := w x = w y) (B := True) hd ht (by rw [if_neg hc]; trivial) (fun q => absurd q hc) (fun _ => k)
theorem z_if_eq_T {x : Int} {off : Int} {tgt : Nat} (hd : decode cc pc = .ok (.ifCond .eq off, 3)) (ht : (pc : Int) + off = (tgt : Int)) (hc : w x = 0) (k : SWQ l Γ own cc Y QQ g n ca sl μ tgt lv st) : SWQ l Γ own cc Y QQ g n ca sl μ pc lv (vi x :: st) := z_if_eq (A := True) (B := ¬ (w x = 0)) hd ht (by rw [if_pos hc]; trivial) (fun _ => k) (fun q => absurd hc q)
theorem z_if_eq_F {x : Int} {off : Int} {tgt : Nat} (hd : decode cc pc = .ok (.ifCond .eq off, 3)) (ht : (pc : Int) + off = (tgt : Int)) (hc : ¬ (w x = 0)) (k : SWQ l Γ own cc Y QQ g n ca sl μ (pc + 3) lv st) : SWQ l Γ own cc Y QQ g n ca sl μ pc lv (vi x :: st) := z_if_eq (A := w x = 0) (B := True) hd ht (by rw [if_neg hc]; trivial) (fun q => absurd q hc) (fun _ => k)
theorem z_icmp_ne_T {x y : Int} {off : Int} {tgt : Nat} (hd : decode cc pc = .ok (.if_icmp .ne off, 3)) (ht : (pc : Int) + off = (tgt : Int)) (hc : w x = w y) (k : SWQ l Γ own cc Y QQ g n ca sl μ (pc + 3) lv st) : SWQ l Γ own cc Y QQ g n ca sl μ pc lv (vi y :: vi x :: st) := z_icmp_ne (A := True) (B := ¬ (w x = w y)) hd ht (by rw [if_pos hc]; trivial) (fun _ => k) (fun q => absurd hc q)
theorem z_icmp_ne_F {x y : Int} {off : Int} {tgt : Nat} (hd : decode cc pc = .ok (.if_icmp .ne off, 3)) (ht : (pc : Int) + off = (tgt : Int)) (hc : ¬ (w x = w y)) (k : SWQ l Γ own cc Y QQ g n ca sl μ tgt lv st) : SWQ l Γ own cc Y QQ g n ca sl μ pc lv (vi y :: vi x :: st) := z_icmp_ne (A := w x = w y) (B := True) hd ht (by rw [if_neg hc]; trivial) (fun q => absurd q hc) (fun _ => k)
theorem z_if_ne_T {x : Int} {off : Int} {tgt : Nat} (hd : decode cc pc = .ok (.ifCond .ne off, 3)) (ht : (pc : Int) + off = (tgt : Int)) (hc : w x = 0) (k : SWQ l Γ own cc Y QQ g n ca sl μ (pc + 3) lv st) : SWQ l Γ own cc Y QQ g n ca sl μ pc lv (vi x :: st) := z_if_ne (A := True) (B := ¬ (w x = 0)) hd ht (by rw [if_pos hc]; trivial) (fun _ => k) (fun q => absurd hc q)
theorem z_if_ne_F {x : Int} {off : Int} {tgt : Nat} (hd : decode cc pc = .ok (.ifCond .ne off, 3)) (ht : (pc : Int) + off = (tgt : Int)) (hc : ¬ (w x = 0)) (k : SWQ l Γ own cc Y QQ g n ca sl μ tgt lv st) : SWQ l Γ own cc Y QQ g n ca sl μ pc lv (vi x :: st) := z_if_ne (A := w x = 0) (B := True) hd ht (by rw [if_neg hc]; trivial) (fun q => absurd q hc) (fun _ => k)
theorem z_icmp_lt_T {x y : Int} {off : Int} {tgt : Nat} (hd : decode cc pc = .ok (.if_icmp .lt off, 3)) (ht : (pc : Int) + off = (tgt : Int)) (hc : w x < w y) (k : SWQ l Γ own cc Y QQ g n ca sl μ tgt lv st) : SWQ l Γ own cc Y QQ g n ca sl μ pc lv (vi y :: vi x :: st) := z_icmp_lt (A := True) (B := ¬ (w x < w y)) hd ht (by rw [if_pos hc]; trivial) (fun _ => k) (fun q => absurd hc q)
theorem z_icmp_lt_F {x y : Int} {off : Int} {tgt : Nat} (hd : decode cc pc = .ok (.if_icmp .lt off, 3)) (ht : (pc : Int) + off = (tgt : Int)) (hc : ¬ (w x < w y)) (k : SWQ l Γ own cc Y QQ g n ca sl μ (pc + 3) lv st) : SWQ l Γ own cc Y QQ g n ca sl μ pc lv (vi y :: vi x :: st) := z_icmp_lt (A := w x < w y) (B := True) hd ht (by rw [if_neg hc]; trivial) (fun q => absurd q hc) (fun _ => k)
theorem z_if_lt_T {x : Int} {off : Int} {tgt : Nat} (hd : decode cc pc = .ok (.ifCond .lt off, 3)) (ht : (pc : Int) + off = (tgt : Int)) (hc : w x < 0) (k : SWQ l Γ own cc Y QQ g n ca sl μ tgt lv st) : SWQ l Γ own cc Y QQ g n ca sl μ pc lv (vi x :: st) := z_if_lt (A := True) (B := ¬ (w x < 0)) hd ht (by rw [if_pos hc]; trivial) (fun _ => k) (fun q => absurd hc q)
theorem z_if_lt_F {x : Int} {off : Int} {tgt : Nat} (hd : decode cc pc = .ok (.ifCond .lt off, 3)) (ht : (pc : Int) + off = (tgt : Int)) (hc : ¬ (w x < 0)) (k : SWQ l Γ own cc Y QQ g n ca sl μ (pc + 3) lv st) : SWQ l Γ own cc Y QQ g n ca sl μ pc lv (vi x :: st) := z_if_lt (A := w x < 0) (B := True) hd ht (by rw [if_neg hc]; trivial) (fun q => absurd q hc) (fun _ => k)
theorem z_icmp_ge_T {x y : Int} {off : Int} {tgt : Nat} (hd : decode cc pc = .ok (.if_icmp .ge off, 3)) (ht : (pc : Int) + off = (tgt : Int)) (hc : w x < w y) (k : SWQ l Γ own cc Y QQ g n ca sl μ (pc + 3) lv st) : SWQ l Γ own cc Y QQ g n ca sl μ pc lv (vi y :: vi x :: st) := z_icmp_ge (A := True) (B := ¬ (w x < w y)) hd ht (by rw [if_pos hc]; trivial) (fun _ => k) (fun q => absurd hc q)
theorem z_icmp_ge_F {x y : Int} {off : Int} {tgt : Nat} (hd : decode cc pc = .ok (.if_icmp .ge off, 3)) (ht : (pc : Int) + off = (tgt : Int)) (hc : ¬ (w x < w y)) (k : SWQ l Γ own cc Y QQ g n ca sl μ tgt lv st) : SWQ l Γ own cc Y QQ g n ca sl μ pc lv (vi y :: vi x :: st) := z_icmp_ge (A := w x < w y) (B := True) hd ht (by rw [if_neg hc]; trivial) (fun q => absurd q hc) (fun _ => k)
theorem z_if_ge_T {x : Int} {off : Int} {tgt : Nat} (hd : decode cc pc = .ok (.ifCond .ge off, 3)) (ht : (pc : Int) + off = (tgt : Int)) (hc : w x < 0) (k : SWQ l Γ own cc Y QQ g n ca sl μ (pc + 3) lv st) : SWQ l Γ own cc Y QQ g n ca sl μ pc lv (vi x :: st) := z_if_ge (A := True) (B := ¬ (w x < 0)) hd ht (by rw [if_pos hc]; trivial) (fun _ => k) (fun q => absurd hc q)
theorem z_if_ge_F {x : Int} {off : Int} {tgt : Nat} (hd : decode cc pc = .ok (.ifCond .ge off, 3)) (ht : (pc : Int) + off = (tgt : Int)) (hc : ¬ (w x < 0)) (k : SWQ l Γ own cc Y QQ g n ca sl μ tgt lv st) : SWQ l Γ own cc Y QQ g n ca sl μ pc lv (vi x :: st) := z_if_ge (A := w x < 0) (B := True) hd ht (by rw [if_neg hc]; trivial) (fun q => absurd q hc) (fun _ => k)
theorem z_icmp_gt_T {x y : Int} {off : Int} {tgt : Nat} (hd : decode cc pc = .ok (.if_icmp .gt off, 3)) (ht : (pc : Int) + off = (tgt : Int)) (hc : w y < w x) (k : SWQ l Γ own cc Y QQ g n ca sl μ tgt lv st) : SWQ l Γ own cc Y QQ g n ca sl μ pc lv (vi y :: vi x :: st) := z_icmp_gt (A := True) (B := ¬ (w y < w x)) hd ht (by rw [if_pos hc]; trivial) (fun _ => k) (fun q => absurd hc q)
theorem z_icmp_gt_F {x y : Int} {off : Int} {tgt : Nat} (hd : decode cc pc = .ok (.if_icmp .gt off, 3)) (ht : (pc : Int) + off = (tgt : Int)) (hc : ¬ (w y < w x)) (k : SWQ l Γ own cc Y QQ g n ca sl μ (pc + 3) lv st) : SWQ l Γ own cc Y QQ g n ca sl μ pc lv (vi y :: vi x :: st) := z_icmp_gt (A := w y < w x) (B := True) hd ht (by rw [if_neg hc]; trivial) (fun q => absurd q hc) (fun _ => k)
theorem z_if_gt_T {x : Int} {off : Int} {tgt : Nat} (hd : decode cc pc = .ok (.ifCond .gt off, 3)) (ht : (pc : Int) + off = (tgt : Int)) (hc : 0 < w x) (k : SWQ l Γ own cc Y QQ g n ca sl μ tgt lv st) : SWQ l Γ own cc Y QQ g n ca sl μ pc lv (vi x :: st) := z_if_gt (A := True) (B := ¬ (0 < w x)) hd ht (by rw [if_pos hc]; trivial) (fun _ => k) (fun q => absurd hc q)
theorem z_if_gt_F {x : Int} {off : Int} {tgt : Nat} (hd : decode cc pc = .ok (.ifCond .gt off, 3)) (ht : (pc : Int) + off = (tgt : Int)) (hc : ¬ (0 < w x)) (k : SWQ l Γ own cc Y QQ g n ca sl μ (pc + 3) lv st) : SWQ l Γ own cc Y QQ g n ca sl μ pc lv (vi x :: st) := z_if_gt (A := 0 < w x) (B := True) hd ht (by rw [if_neg hc]; trivial) (fun q => absurd q hc) (fun _ => k)
theorem z_icmp_le_T {x y : Int} {off : Int} {tgt : Nat} (hd : decode cc pc = .ok (.if_icmp .le off, 3)) (ht : (pc : Int) + off = (tgt : Int)) (hc : w y < w x) (k : SWQ l Γ own cc Y QQ g n ca sl μ (pc + 3) lv st) : SWQ l Γ own cc Y QQ g n ca sl μ pc lv (vi y :: vi x :: st) := z_icmp_le (A := True) (B := ¬ (w y < w x)) hd ht (by rw [if_pos hc]; trivial) (fun _ => k) (fun q => absurd hc q)
theorem z_icmp_le_F {x y : Int} {off : Int} {tgt : Nat} (hd : decode cc pc = .ok (.if_icmp .le off, 3)) (ht : (pc : Int) + off = (tgt : Int)) (hc : ¬ (w y < w x)) (k : SWQ l Γ own cc Y QQ g n ca sl μ tgt lv st) : SWQ l Γ own cc Y QQ g n ca sl μ pc lv (vi y :: vi x :: st) := z_icmp_le (A := w y < w x) (B := True) hd ht (by rw [if_neg hc]; trivial) (fun q => absurd q hc) (fun _ => k)
theorem z_if_le_T {x : Int} {off : Int} {tgt : Nat} (hd : decode cc pc = .ok (.ifCond .le off, 3)) (ht : (pc : Int) + off = (tgt : Int)) (hc : 0 < w x) (k : SWQ l Γ own cc Y QQ g n ca sl μ (pc + 3) lv st) : SWQ l Γ own cc Y QQ g n ca sl μ pc lv (vi x :: st) := z_if_le (A := True) (B := ¬ (0 < w x)) hd ht (by rw [if_pos hc]; trivial) (fun _ => k) (fun q => absurd hc q)
theorem z_if_le_F {x : Int} {off : Int} {tgt : Nat} (hd : decode cc pc = .ok (.ifCond .le off, 3)) (ht : (pc : Int) + off = (tgt : Int)) (hc : ¬ (0 < w x)) (k : SWQ l Γ own cc Y QQ g n ca sl μ tgt lv st) : SWQ l Γ own cc Y QQ g n ca sl μ pc lv (vi x :: st) := z_if_le (A := 0 < w x) (B := True) hd ht (by rw [if_neg hc]; trivial) (fun q => absurd q hc) (fun _ => k)
theorem z_ifeq_b {b : Bool} {A B : Prop} {off : Int} {tgt : Nat} (hd : decode cc pc = .ok (.ifCond .eq off, 3)) (ht : (pc : Int) + off = (tgt : Int)) (h : if b = true then A else B) (kt : A → SWQ l Γ own cc Y QQ g n ca sl μ (pc + 3) lv st) (kf : B → SWQ l Γ own cc Y QQ g n ca sl μ tgt lv st) : SWQ l Γ own cc Y QQ g n ca sl μ pc lv (vi (b2i b) :: st) := by
  refine z_if_eq (A := B) (B := A) hd ht ?_ kf kt
  rw [w_b2i]
  cases b
  · exact h
  · exact h
theorem z_ifne_b {b : Bool} {A B : Prop} {off : Int} {tgt : Nat} (hd : decode cc pc = .ok (.ifCond .ne off, 3)) (ht : (pc : Int) + off = (tgt : Int)) (h : if b = true then A else B) (kt : A → SWQ l Γ own cc Y QQ g n ca sl μ tgt lv st) (kf : B → SWQ l Γ own cc Y QQ g n ca sl μ (pc + 3) lv st) : SWQ l Γ own cc Y QQ g n ca sl μ pc lv (vi (b2i b) :: st) := by
  refine z_if_ne (A := B) (B := A) hd ht ?_ kf kt
  rw [w_b2i]
  cases b
  · exact h
  · exact h
theorem z_goto {off : Int} {tgt : Nat} (hd : decode cc pc = .ok (.goto off, 3)) (ht : (pc : Int) + off = (tgt : Int)) (k : SWQ l Γ own cc Y QQ g n ca sl μ tgt lv st) : SWQ l Γ own cc Y QQ g n ca sl μ pc lv st := by
  intro p e s m args below meth c H locs ls F hH hL hl
  exact lv_goto F.1.1 F.1.2.1 hd ht (k p e s m args below meth c H locs ls F hH hL hl)
theorem z_ifnonnull {x : Nat} {off : Int} {tgt : Nat} (hd : decode cc pc = .ok (.ifnonnull off, 3)) (ht : (pc : Int) + off = (tgt : Int)) (k : SWQ l Γ own cc Y QQ g n ca sl μ tgt lv st) : SWQ l Γ own cc Y QQ g n ca sl μ pc lv (.ref x :: st) := by
  intro p e s m args below meth c H locs ls F hH hL hl
  exact lv_ifnonnull F.1.1 F.1.2.1 hd ht (k p e s m args below meth c H locs ls F hH hL hl)
theorem z_lcmp_lt {x y : Int64} {A B : Prop} {off : Int} {tgt : Nat} (hd1 : decode cc pc = .ok (.lcmp, 1)) (hd : decode cc (pc + 1) = .ok (.ifCond .lt off, 3)) (ht : ((pc + 1 : Nat) : Int) + off = (tgt : Int)) (h : if x < y then A else B) (kt : A → SWQ l Γ own cc Y QQ g n ca sl μ tgt lv st) (kf : B → SWQ l Γ own cc Y QQ g n ca sl μ (pc + 1 + 3) lv st) : SWQ l Γ own cc Y QQ g n ca sl μ pc lv (vl y :: vl x :: st) := by
  intro p e s m args below meth c H locs ls F hH hL hl
  refine W.lcmp F.1.1 F.1.2.1 hd1 ?_
  have key : (lg_cmp x y < 0) ↔ (x < y) := by have := (lg_cmp_lt x y); first | exact this | (simpa using this)
  by_cases hc : x < y
  · rw [if_pos hc] at h
    exact lv_if_lt F.1.1 F.1.2.1 hd ht (fun q => kt h p e s m args below meth c H locs ls F hH hL hl) (fun q => absurd (key.mpr hc) (by first | exact q | (simpa using q)))
  · rw [if_neg hc] at h
    exact lv_if_lt F.1.1 F.1.2.1 hd ht (fun q => absurd (key.mp (by first | exact q | (simpa using q))) hc) (fun q => kf h p e s m args below meth c H locs ls F hH hL hl)
theorem z_lcmp_ge {x y : Int64} {A B : Prop} {off : Int} {tgt : Nat} (hd1 : decode cc pc = .ok (.lcmp, 1)) (hd : decode cc (pc + 1) = .ok (.ifCond .ge off, 3)) (ht : ((pc + 1 : Nat) : Int) + off = (tgt : Int)) (h : if x < y then A else B) (kt : A → SWQ l Γ own cc Y QQ g n ca sl μ (pc + 1 + 3) lv st) (kf : B → SWQ l Γ own cc Y QQ g n ca sl μ tgt lv st) : SWQ l Γ own cc Y QQ g n ca sl μ pc lv (vl y :: vl x :: st) := by
  intro p e s m args below meth c H locs ls F hH hL hl
  refine W.lcmp F.1.1 F.1.2.1 hd1 ?_
  have key : (lg_cmp x y < 0) ↔ (x < y) := by have := (lg_cmp_lt x y); first | exact this | (simpa using this)
  by_cases hc : x < y
  · rw [if_pos hc] at h
    exact lv_if_ge F.1.1 F.1.2.1 hd ht (fun q => absurd (key.mpr hc) (by first | exact q | (simpa using q))) (fun q => kt h p e s m args below meth c H locs ls F hH hL hl)
  · rw [if_neg hc] at h
    exact lv_if_ge F.1.1 F.1.2.1 hd ht (fun q => kf h p e s m args below meth c H locs ls F hH hL hl) (fun q => absurd (key.mp (by first | exact q | (simpa using q))) hc)
theorem z_lcmp_gt {x y : Int64} {A B : Prop} {off : Int} {tgt : Nat} (hd1 : decode cc pc = .ok (.lcmp, 1)) (hd : decode cc (pc + 1) = .ok (.ifCond .gt off, 3)) (ht : ((pc + 1 : Nat) : Int) + off = (tgt : Int)) (h : if y < x then A else B) (kt : A → SWQ l Γ own cc Y QQ g n ca sl μ tgt lv st) (kf : B → SWQ l Γ own cc Y QQ g n ca sl μ (pc + 1 + 3) lv st) : SWQ l Γ own cc Y QQ g n ca sl μ pc lv (vl y :: vl x :: st) := by
  intro p e s m args below meth c H locs ls F hH hL hl
  refine W.lcmp F.1.1 F.1.2.1 hd1 ?_
  have key : (0 < lg_cmp x y) ↔ (y < x) := by have := (lg_cmp_gt x y); first | exact this | (simpa using this)
  by_cases hc : y < x
  · rw [if_pos hc] at h
    exact lv_if_gt F.1.1 F.1.2.1 hd ht (fun q => kt h p e s m args below meth c H locs ls F hH hL hl) (fun q => absurd (key.mpr hc) (by first | exact q | (simpa using q)))
  · rw [if_neg hc] at h
    exact lv_if_gt F.1.1 F.1.2.1 hd ht (fun q => absurd (key.mp (by first | exact q | (simpa using q))) hc) (fun q => kf h p e s m args below meth c H locs ls F hH hL hl)
theorem z_lcmp_le {x y : Int64} {A B : Prop} {off : Int} {tgt : Nat} (hd1 : decode cc pc = .ok (.lcmp, 1)) (hd : decode cc (pc + 1) = .ok (.ifCond .le off, 3)) (ht : ((pc + 1 : Nat) : Int) + off = (tgt : Int)) (h : if y < x then A else B) (kt : A → SWQ l Γ own cc Y QQ g n ca sl μ (pc + 1 + 3) lv st) (kf : B → SWQ l Γ own cc Y QQ g n ca sl μ tgt lv st) : SWQ l Γ own cc Y QQ g n ca sl μ pc lv (vl y :: vl x :: st) := by
  intro p e s m args below meth c H locs ls F hH hL hl
  refine W.lcmp F.1.1 F.1.2.1 hd1 ?_
  have key : (0 < lg_cmp x y) ↔ (y < x) := by have := (lg_cmp_gt x y); first | exact this | (simpa using this)
  by_cases hc : y < x
  · rw [if_pos hc] at h
    exact lv_if_le F.1.1 F.1.2.1 hd ht (fun q => absurd (key.mpr hc) (by first | exact q | (simpa using q))) (fun q => kt h p e s m args below meth c H locs ls F hH hL hl)
  · rw [if_neg hc] at h
    exact lv_if_le F.1.1 F.1.2.1 hd ht (fun q => kf h p e s m args below meth c H locs ls F hH hL hl) (fun q => absurd (key.mp (by first | exact q | (simpa using q))) hc)
theorem z_lcmp_eq {x y : Int64} {A B : Prop} {off : Int} {tgt : Nat} (hd1 : decode cc pc = .ok (.lcmp, 1)) (hd : decode cc (pc + 1) = .ok (.ifCond .eq off, 3)) (ht : ((pc + 1 : Nat) : Int) + off = (tgt : Int)) (h : if x = y then A else B) (kt : A → SWQ l Γ own cc Y QQ g n ca sl μ tgt lv st) (kf : B → SWQ l Γ own cc Y QQ g n ca sl μ (pc + 1 + 3) lv st) : SWQ l Γ own cc Y QQ g n ca sl μ pc lv (vl y :: vl x :: st) := by
  intro p e s m args below meth c H locs ls F hH hL hl
  refine W.lcmp F.1.1 F.1.2.1 hd1 ?_
  have key : (lg_cmp x y = 0) ↔ (x = y) := by have := (lg_cmp_eq x y); first | exact this | (simpa using this)
  by_cases hc : x = y
  · rw [if_pos hc] at h
    exact lv_if_eq F.1.1 F.1.2.1 hd ht (fun q => kt h p e s m args below meth c H locs ls F hH hL hl) (fun q => absurd (key.mpr hc) (by first | exact q | (simpa using q)))
  · rw [if_neg hc] at h
    exact lv_if_eq F.1.1 F.1.2.1 hd ht (fun q => absurd (key.mp (by first | exact q | (simpa using q))) hc) (fun q => kf h p e s m args below meth c H locs ls F hH hL hl)
theorem z_lcmp_ne {x y : Int64} {A B : Prop} {off : Int} {tgt : Nat} (hd1 : decode cc pc = .ok (.lcmp, 1)) (hd : decode cc (pc + 1) = .ok (.ifCond .ne off, 3)) (ht : ((pc + 1 : Nat) : Int) + off = (tgt : Int)) (h : if x = y then A else B) (kt : A → SWQ l Γ own cc Y QQ g n ca sl μ (pc + 1 + 3) lv st) (kf : B → SWQ l Γ own cc Y QQ g n ca sl μ tgt lv st) : SWQ l Γ own cc Y QQ g n ca sl μ pc lv (vl y :: vl x :: st) := by
  intro p e s m args below meth c H locs ls F hH hL hl
  refine W.lcmp F.1.1 F.1.2.1 hd1 ?_
  have key : (lg_cmp x y = 0) ↔ (x = y) := by have := (lg_cmp_eq x y); first | exact this | (simpa using this)
  by_cases hc : x = y
  · rw [if_pos hc] at h
    exact lv_if_ne F.1.1 F.1.2.1 hd ht (fun q => absurd (key.mpr hc) (by first | exact q | (simpa using q))) (fun q => kt h p e s m args below meth c H locs ls F hH hL hl)
  · rw [if_neg hc] at h
    exact lv_if_ne F.1.1 F.1.2.1 hd ht (fun q => kf h p e s m args below meth c H locs ls F hH hL hl) (fun q => absurd (key.mp (by first | exact q | (simpa using q))) hc)
theorem z_sub {lv' : List (Nat × Value)} (ks : List Nat) (hv : lv_pick lv ks = lv') (k : SWQ l Γ own cc Y QQ g n ca sl μ pc lv' st) : SWQ l Γ own cc Y QQ g n ca sl μ pc lv st := by
  intro p e s m args below meth c H locs ls F hH hL hl
  exact k p e s m args below meth c H locs ls F hH hL (lv_sub hl ks hv)
theorem z_rload_n {q : Fin 4} {i x : Nat} (hd : decode cc pc = .ok (.aload_n q, 1)) (hi : (q : Nat) = i) (j : Nat) (hj : lv[j]? = some (i, vr Γ x)) (k : SWQ l Γ own cc Y QQ g n ca sl μ (pc + 1) lv (vr Γ x :: st)) : SWQ l Γ own cc Y QQ g n ca sl μ pc lv st := by
  intro p e s m args below meth c H locs ls F hH hL hl
  exact lv_aload_n F.1.1 F.1.2.1 hd hi (lv_at hl j hj) (k p e s m args below meth c H locs ls F hH hL hl)
theorem z_rload {i x : Nat} (hd : decode cc pc = .ok (.aload i, 2)) (j : Nat) (hj : lv[j]? = some (i, vr Γ x)) (k : SWQ l Γ own cc Y QQ g n ca sl μ (pc + 2) lv (vr Γ x :: st)) : SWQ l Γ own cc Y QQ g n ca sl μ pc lv st := by
  intro p e s m args below meth c H locs ls F hH hL hl
  exact lv_aload F.1.1 F.1.2.1 hd (lv_at hl j hj) (k p e s m args below meth c H locs ls F hH hL hl)
theorem z_rstore_n {q : Fin 4} {i x : Nat} {lv' : List (Nat × Value)} (hd : decode cc pc = .ok (.astore_n q, 1)) (hi : (q : Nat) = i) (hn : i < Y.1) (hv : (i, vr Γ x) :: lv.filter (fun q => !(q.1 == i) && !(q.1 + 1 == i && q.2.category == 2)) = lv') (k : SWQ l Γ own cc Y QQ g n ca sl μ (pc + 1) lv' st) : SWQ l Γ own cc Y QQ g n ca sl μ pc lv (vr Γ x :: st) := by
  intro p e s m args below meth c H locs ls F hH hL hl
  exact lv_astore_n F.1.1 F.1.2.1 hd hi hl hn hv (fun ls' hl' => k p e s m args below meth c H locs ls' F hH hL hl')
theorem z_rstore {i x : Nat} {lv' : List (Nat × Value)} (hd : decode cc pc = .ok (.astore i, 2)) (hn : i < Y.1) (hv : (i, vr Γ x) :: lv.filter (fun q => !(q.1 == i) && !(q.1 + 1 == i && q.2.category == 2)) = lv') (k : SWQ l Γ own cc Y QQ g n ca sl μ (pc + 2) lv' st) : SWQ l Γ own cc Y QQ g n ca sl μ pc lv (vr Γ x :: st) := by
  intro p e s m args below meth c H locs ls F hH hL hl
  exact lv_astore F.1.1 F.1.2.1 hd hl hn hv (fun ls' hl' => k p e s m args below meth c H locs ls' F hH hL hl')
theorem z_nmB {x : Bool} (k : ∀ y : Bool, y = x → SWQ l Γ own cc Y QQ g n ca sl μ pc lv (vi (b2i y) :: st)) : SWQ l Γ own cc Y QQ g n ca sl μ pc lv (vi (b2i x) :: st) := k x rfl
theorem z_nmL {x : Int64} (k : ∀ y : Int64, y = x → SWQ l Γ own cc Y QQ g n ca sl μ pc lv (vl y :: st)) : SWQ l Γ own cc Y QQ g n ca sl μ pc lv (vl x :: st) := k x rfl
theorem z_mm (k : ∀ ν : Mem, ν = μ → SWQ l Γ own cc Y QQ g n ca sl ν pc lv st) : SWQ l Γ own cc Y QQ g n ca sl μ pc lv st := k μ rfl
theorem z_phi {V : Int} {P : Int → Prop} (pj : Nat) (sj : List Value) (region : ∀ V' : Int, V' = V → (∀ x : Int, x = V' → SWQ l Γ own cc Y QQ g n ca sl μ pj lv (vi x :: sj)) → SWQ l Γ own cc Y QQ g n ca sl μ pc lv st) (h : ∀ x : Int, x = V → P x) (kj : ∀ x : Int, P x → SWQ l Γ own cc Y QQ g n ca sl μ pj lv (vi x :: sj)) : SWQ l Γ own cc Y QQ g n ca sl μ pc lv st := region V rfl fun x e => kj x (h x e)
theorem z_phiB {V : Bool} {P : Bool → Prop} (pj : Nat) (sj : List Value) (region : ∀ V' : Bool, V' = V → (∀ x : Bool, x = V' → SWQ l Γ own cc Y QQ g n ca sl μ pj lv (vi (b2i x) :: sj)) → SWQ l Γ own cc Y QQ g n ca sl μ pc lv st) (h : ∀ x : Bool, x = V → P x) (kj : ∀ x : Bool, P x → SWQ l Γ own cc Y QQ g n ca sl μ pj lv (vi (b2i x) :: sj)) : SWQ l Γ own cc Y QQ g n ca sl μ pc lv st := region V rfl fun x e => kj x (h x e)
theorem z_phiL {V : Int64} {P : Int64 → Prop} (pj : Nat) (sj : List Value) (region : ∀ V' : Int64, V' = V → (∀ x : Int64, x = V' → SWQ l Γ own cc Y QQ g n ca sl μ pj lv (vl x :: sj)) → SWQ l Γ own cc Y QQ g n ca sl μ pc lv st) (h : ∀ x : Int64, x = V → P x) (kj : ∀ x : Int64, P x → SWQ l Γ own cc Y QQ g n ca sl μ pj lv (vl x :: sj)) : SWQ l Γ own cc Y QQ g n ca sl μ pc lv st := region V rfl fun x e => kj x (h x e)
/-- a case of a table: its place, its jump -/
theorem z_tcase {x lo hi dflt off : Int} {offs : Array Int} {len tgt : Nat} (v : Int) (hc : w x = v) (hd : decode cc pc = .ok (.tableswitch dflt lo hi offs, len)) (h1 : ¬ v < lo) (h2 : ¬ hi < v) (ho : offs[(v - lo).toNat]? = some off) (ht : (pc : Int) + off = (tgt : Int)) (k : SWQ l Γ own cc Y QQ g n ca sl μ tgt lv st) : SWQ l Γ own cc Y QQ g n ca sl μ pc lv (vi x :: st) := by
  intro p e s m args below meth c H locs ls F hH hL hl
  have e1 : (Int32.ofInt x).toInt = v := (w_ofInt x).trans hc
  exact lv_tableIn F.1.1 F.1.2.1 hd (by rw [e1]; exact h1) (by rw [e1]; exact h2) (by rw [e1]; exact ho) ht (k p e s m args below meth c H locs ls F hH hL hl)
theorem z_tdef {x lo hi dflt : Int} {offs : Array Int} {len tgt : Nat} (hc : w x < lo ∨ hi < w x) (hd : decode cc pc = .ok (.tableswitch dflt lo hi offs, len)) (ht : (pc : Int) + dflt = (tgt : Int)) (k : SWQ l Γ own cc Y QQ g n ca sl μ tgt lv st) : SWQ l Γ own cc Y QQ g n ca sl μ pc lv (vi x :: st) := by
  intro p e s m args below meth c H locs ls F hH hL hl
  exact lv_tableOut F.1.1 F.1.2.1 hd (by rw [w_ofInt]; exact hc) ht (k p e s m args below meth c H locs ls F hH hL hl)
theorem z_lcase {x dflt off : Int} {ps : Array (Int × Int)} {len tgt : Nat} (hd : decode cc pc = .ok (.lookupswitch dflt ps, len)) (hp : (ps.toList.zip (ps.toList.drop 1)).all (fun (a, next) => a.1 < next.1) = true) (ho : Op.lookupswitch.offset ps.toList dflt (w x) = off) (ht : (pc : Int) + off = (tgt : Int)) (k : SWQ l Γ own cc Y QQ g n ca sl μ tgt lv st) : SWQ l Γ own cc Y QQ g n ca sl μ pc lv (vi x :: st) := by
  intro p e s m args below meth c H locs ls F hH hL hl
  exact lv_lookup F.1.1 F.1.2.1 hd hp (by rw [w_ofInt]; exact ho) ht (k p e s m args below meth c H locs ls F hH hL hl)
def w_min (x y : Int) : Int := if w y < w x then y else x
def w_max (x y : Int) : Int := if w x < w y then y else x
def w_abs (x : Int) : Int := if 0 ≤ w x then x else 0 - x
theorem z_min {x y : Int} {i : Nat} (hd : decode cc pc = .ok (.invokestatic i, 3)) (hl_ : Cond.methodLink own i Lib.Math.min.name ∈ BW) (h1 : Cond.static Lib.Math.min.name ∈ BW) (h2 : Cond.initialized "java/lang/Math" ∈ BW) (h3 : Cond.code Lib.Math.min.name Lib.Math.min.code 2 (some .int) ∈ BW) (hR : 1 ≤ Y.2.2.2.1.frames ∧ (st.map fun v => v.category).sum + 13 ≤ Y.2.2.2.1.locals) (hcs : ca ≤ Y.2.2.2.1.cells ∧ sl ≤ Y.2.2.2.1.slots) (k : SWQ l Γ own cc Y QQ g n ca sl μ (pc + 3) lv (vi (w_min x y) :: st)) : SWQ l Γ own cc Y QQ g n ca sl μ pc lv (vi y :: vi x :: st) := by
  intro p e s m args below meth c H locs ls F hH hL hl
  have hts := F.1.2.2.2.2
  refine va_mmin F.1.1 F.1.2.1 (F.1.2.2.1.trans hl.1.symm) F.1.2.2.2.1 (hts _ hl_) (hts _ h1) (hts _ h2) (hts _ h3) hR.1 hR.2 hcs.1 hcs.2 hd ?_
  have h := k p e s m args below meth c H locs ls F hH hL hl
  have e0 : (if Int32.ofInt y < Int32.ofInt x then Int32.ofInt y else Int32.ofInt x) = Int32.ofInt (w_min x y) := by
    unfold w_min
    by_cases q : w y < w x
    · rw [if_pos q, if_pos (ofInt_lt.mpr q)]
    · rw [if_neg q, if_neg (fun z => q (ofInt_lt.mp z))]
  rw [e0]
  exact h
theorem z_nm {x : Int} (k : ∀ y : Int, y = x → SWQ l Γ own cc Y QQ g n ca sl μ pc lv (vi y :: st)) : SWQ l Γ own cc Y QQ g n ca sl μ pc lv (vi x :: st) := k x rfl
theorem z_get {i ci k idx N : Nat} {C ref : String} {T : u_T} (hd : decode cc pc = .ok (.getfield idx, 3)) (hk : KT i = (0, ci)) (hi : i < n) (hc : vwCl[ci]? = some (C, T, N)) (hu : ∀ w ∈ u_ws C T N, w ∈ BW) (hN : NF ci = N) (hkN : k < N) (hr : ref = (T k).1) (hl : Cond.fieldLink own idx ref (T k).2.1 (T k).2.2.1 ∈ BW) (k : SWQ l Γ own cc Y QQ g n ca sl μ (pc + 3) lv (fval Γ.1 μ i k (fty ci k) :: st)) : SWQ l Γ own cc Y QQ g n ca sl μ pc lv (vr Γ i :: st) := by
  subst hr
  intro p e s m args below meth c H locs ls F hH hL hl'
  have hP : va_P Γ.2.2.1 vwCl [(Γ.1 + i, .inr (ci, flds Γ.1 μ i ci))] H := by
    intro a q hq
    cases a with
    | zero => cases hq; have := hH.1 i hi; rw [cellE_obj hk] at this; exact this
    | succ a => simp at hq
  exact va_get F.1.1 F.1.2.1 F.1.2.2.2.2 hu F.1.2.2.2.1 F.2.2.2.2.1 hP 0 rfl hc _ hkN (F.1.2.2.2.2 _ hl) (fun _ h => h) (flds_get (by rw [hN]; exact hkN)) hd (k p e s m args below meth c H locs ls F hH hL hl')
theorem z_max {x y : Int} {i : Nat} (hd : decode cc pc = .ok (.invokestatic i, 3)) (hl_ : Cond.methodLink own i Lib.Math.max.name ∈ BW) (h1 : Cond.static Lib.Math.max.name ∈ BW) (h2 : Cond.initialized "java/lang/Math" ∈ BW) (h3 : Cond.code Lib.Math.max.name Lib.Math.max.code 2 (some .int) ∈ BW) (hR : 1 ≤ Y.2.2.2.1.frames ∧ (st.map fun v => v.category).sum + 13 ≤ Y.2.2.2.1.locals) (hcs : ca ≤ Y.2.2.2.1.cells ∧ sl ≤ Y.2.2.2.1.slots) (k : SWQ l Γ own cc Y QQ g n ca sl μ (pc + 3) lv (vi (w_max x y) :: st)) : SWQ l Γ own cc Y QQ g n ca sl μ pc lv (vi y :: vi x :: st) := by
  intro p e s m args below meth c H locs ls F hH hL hl
  have hts := F.1.2.2.2.2
  refine va_mmax F.1.1 F.1.2.1 (F.1.2.2.1.trans hl.1.symm) F.1.2.2.2.1 (hts _ hl_) (hts _ h1) (hts _ h2) (hts _ h3) hR.1 hR.2 hcs.1 hcs.2 hd ?_
  have h := k p e s m args below meth c H locs ls F hH hL hl
  have e0 : (if Int32.ofInt x < Int32.ofInt y then Int32.ofInt y else Int32.ofInt x) = Int32.ofInt (w_max x y) := by
    unfold w_max
    by_cases q : w x < w y
    · rw [if_pos q, if_pos (ofInt_lt.mpr q)]
    · rw [if_neg q, if_neg (fun z => q (ofInt_lt.mp z))]
  rw [e0]
  exact h
theorem z_abs {x : Int} {i : Nat} (hd : decode cc pc = .ok (.invokestatic i, 3)) (hl_ : Cond.methodLink own i Lib.Math.abs.name ∈ BW) (h1 : Cond.static Lib.Math.abs.name ∈ BW) (h2 : Cond.initialized "java/lang/Math" ∈ BW) (h3 : Cond.code Lib.Math.abs.name Lib.Math.abs.code 1 (some .int) ∈ BW) (hR : 1 ≤ Y.2.2.2.1.frames ∧ (st.map fun v => v.category).sum + 13 ≤ Y.2.2.2.1.locals) (hcs : ca ≤ Y.2.2.2.1.cells ∧ sl ≤ Y.2.2.2.1.slots) (k : SWQ l Γ own cc Y QQ g n ca sl μ (pc + 3) lv (vi (w_abs x) :: st)) : SWQ l Γ own cc Y QQ g n ca sl μ pc lv (vi x :: st) := by
  intro p e s m args below meth c H locs ls F hH hL hl
  have hts := F.1.2.2.2.2
  refine va_mabs F.1.1 F.1.2.1 (F.1.2.2.1.trans hl.1.symm) F.1.2.2.2.1 (hts _ hl_) (hts _ h1) (hts _ h2) (hts _ h3) hR.1 hR.2 hcs.1 hcs.2 hd ?_
  have h := k p e s m args below meth c H locs ls F hH hL hl
  have e0 : (if 0 ≤ Int32.ofInt x then Int32.ofInt x else 0 - Int32.ofInt x) = Int32.ofInt (w_abs x) := by
    unfold w_abs
    by_cases q : 0 ≤ w x
    · rw [if_pos q, show (0 : Int32) = Int32.ofInt 0 from rfl, if_pos ((ofInt_le (x := 0) (y := x)).mpr q)]
    · rw [if_neg q, show (0 : Int32) = Int32.ofInt 0 from rfl, if_neg (fun z => q ((ofInt_le (x := 0) (y := x)).mp z)), Int32.ofInt_sub]
  rw [e0]
  exact h
end Rules
