section Rules3
variable {l : Launch} {Γ : Gam} {own : String} {cc : ByteArray} {Y : Yt} {post : Option Value → Mem → Prop} {g n ca sl : Nat} {μ : Mem} {pc : Nat} {lv : List (Nat × Value)} {st : List Value}
theorem locs_put {Γ : Gam} {locs : List Loc} {a k : Nat} (hL : ∀ q ∈ locs, Γ.1 ≤ q.base) : ∀ q ∈ locs ++ [(⟨Γ.1 + a, k⟩ : Loc)], Γ.1 ≤ q.base := by
  intro q hq
  rcases List.mem_append.mp hq with h | h
  · exact hL q h
  · rw [List.mem_singleton.mp h]; exact Nat.le_add_right _ _
theorem z_iast {a len : Nat} {x v : Int} (hd : decode cc pc = .ok (.iastore, 1)) (hk : KT a = (1, len)) (hi : a < n) (h0 : 0 ≤ w x) (h1 : w x < (len : Int)) (kk : SW l Γ own cc Y post g n ca sl (sI μ a (w x) v) (pc + 1) lv st) : SW l Γ own cc Y post g n ca sl μ pc lv (vi v :: vi x :: vr Γ a :: st) := by
  intro p e s m args below meth c H locs ls F hH hL hl'
  have hat := hH.1 a hi
  rw [cellE_1 hk] at hat
  have ha : a < 1000 := Nat.lt_of_lt_of_le hi hH.2.2.2.2
  have hin := in_w h0 h1
  refine W.iast F.1.1 F.1.2.1 hat ((F.2.2.2.2.1.2 0 _ rfl).1 len (fun j => .int (μ.1 a (j : Int)))) (fun q => by cases q) (by show ¬ (_ ∨ (arrV _ _ _).slots.size ≤ _); rw [arrV_size]; exact hin) rfl rfl hd fun H1 e1 z oq => ?_
  refine kk p e s m args below meth c H1 _ ls F (hH.upd hi ?_ z oq (sI_off (cof_arr ha))) (locs_put hL) hl'
  rw [cellE_1 hk]
  show H1[Γ.1 + a]? = some (vp_cell _ _)
  rw [e1]
  show some ((arrV _ _ _).setSlot _ _) = _
  rw [vp_cell_i, arrV_store]
  congr 2
  funext q
  show (if q = _ then _ else _) = Value.int (if a = a ∧ (q : Int) = w x then _ else _)
  by_cases hq : q = (Int32.ofInt x).toNatClampNeg
  · rw [if_pos hq, if_pos ⟨rfl, by rw [hq]; exact clamp_w h0⟩]
  · rw [if_neg hq, if_neg (fun h => hq (by have := clamp_w h0; omega))]
theorem z_last {a len : Nat} {x : Int} {v : Int64} (hd : decode cc pc = .ok (.lastore, 1)) (hk : KT a = (2, len)) (hi : a < n) (h0 : 0 ≤ w x) (h1 : w x < (len : Int)) (kk : SW l Γ own cc Y post g n ca sl (sL μ a (w x) v) (pc + 1) lv st) : SW l Γ own cc Y post g n ca sl μ pc lv (vl v :: vi x :: vr Γ a :: st) := by
  intro p e s m args below meth c H locs ls F hH hL hl'
  have hat := hH.1 a hi
  rw [cellE_2 hk] at hat
  have ha : a < 1000 := Nat.lt_of_lt_of_le hi hH.2.2.2.2
  have hin := in_w h0 h1
  refine W.last F.1.1 F.1.2.1 hat ((F.2.2.2.2.1.2 1 _ rfl).1 len (fun j => .long (μ.2.1 a (j : Int)))) (fun q => by cases q) (by show ¬ (_ ∨ (arrV _ _ _).slots.size ≤ _); rw [arrV_size]; exact hin) rfl rfl hd fun H1 e1 z oq => ?_
  refine kk p e s m args below meth c H1 _ ls F (hH.upd hi ?_ z oq (sL_off (cof_arr ha))) (locs_put hL) hl'
  rw [cellE_2 hk]
  show H1[Γ.1 + a]? = some (vp_cell _ _)
  rw [e1]
  show some ((arrV _ _ _).setSlot _ _) = _
  rw [vp_cell_l, arrV_store]
  congr 2
  funext q
  show (if q = _ then _ else _) = Value.long (if a = a ∧ (q : Int) = w x then _ else _)
  by_cases hq : q = (Int32.ofInt x).toNatClampNeg
  · rw [if_pos hq, if_pos ⟨rfl, by rw [hq]; exact clamp_w h0⟩]
  · rw [if_neg hq, if_neg (fun h => hq (by have := clamp_w h0; omega))]
theorem narB (x : Int) : narrow .byte (.int (Int32.ofInt x)) = .int (Int32.ofInt (w_i2b x)) := by
  unfold w_i2b
  rw [Int32.ofInt_toInt]
  rfl
theorem z_bast {a len : Nat} {x v : Int} (hd : decode cc pc = .ok (.bastore, 1)) (hk : KT a = (3, len)) (hi : a < n) (h0 : 0 ≤ w x) (h1 : w x < (len : Int)) (kk : SW l Γ own cc Y post g n ca sl (sI μ a (w x) (w_i2b v)) (pc + 1) lv st) : SW l Γ own cc Y post g n ca sl μ pc lv (vi v :: vi x :: vr Γ a :: st) := by
  intro p e s m args below meth c H locs ls F hH hL hl'
  have hat := hH.1 a hi
  rw [cellE_3 hk] at hat
  have ha : a < 1000 := Nat.lt_of_lt_of_le hi hH.2.2.2.2
  have hin := in_w h0 h1
  refine W.bast F.1.1 F.1.2.1 hat ((F.2.2.2.2.1.2 2 _ rfl).1 len (fun j => .int (μ.1 a (j : Int)))) (fun q => by cases q) (by show ¬ (_ ∨ (arrV _ _ _).slots.size ≤ _); rw [arrV_size]; exact hin) rfl rfl hd fun H1 e1 z oq => ?_
  refine kk p e s m args below meth c H1 _ ls F (hH.upd hi ?_ z oq (sI_off (cof_arr ha))) (locs_put hL) hl'
  rw [cellE_3 hk]
  show H1[Γ.1 + a]? = some (vp_cell _ _)
  rw [e1, narB]
  show some ((arrV _ _ _).setSlot _ _) = _
  rw [vp_cell_i, arrV_store]
  congr 2
  funext q
  show (if q = _ then _ else _) = Value.int (if a = a ∧ (q : Int) = w x then _ else _)
  by_cases hq : q = (Int32.ofInt x).toNatClampNeg
  · rw [if_pos hq, if_pos ⟨rfl, by rw [hq]; exact clamp_w h0⟩]
  · rw [if_neg hq, if_neg (fun h => hq (by have := clamp_w h0; omega))]
theorem narZ (b : Bool) : narrow .boolean (.int (Int32.ofInt (b2i b))) = .int (Int32.ofInt (b2i b)) := by cases b <;> rfl
theorem z_zast {a len : Nat} {x : Int} {b : Bool} (hd : decode cc pc = .ok (.bastore, 1)) (hk : KT a = (4, len)) (hi : a < n) (h0 : 0 ≤ w x) (h1 : w x < (len : Int)) (kk : SW l Γ own cc Y post g n ca sl (sB μ a (w x) b) (pc + 1) lv st) : SW l Γ own cc Y post g n ca sl μ pc lv (vi (b2i b) :: vi x :: vr Γ a :: st) := by
  intro p e s m args below meth c H locs ls F hH hL hl'
  have hat := hH.1 a hi
  rw [cellE_4 hk] at hat
  have ha : a < 1000 := Nat.lt_of_lt_of_le hi hH.2.2.2.2
  have hin := in_w h0 h1
  refine W.zast F.1.1 F.1.2.1 hat ((F.2.2.2.2.1.2 3 _ rfl).1 len (fun j => .int (if μ.1 a (j : Int) = 0 then 0 else 1))) (fun q => by cases q) (by show ¬ (_ ∨ (arrV _ _ _).slots.size ≤ _); rw [arrV_size]; exact hin) rfl rfl hd fun H1 e1 z oq => ?_
  refine kk p e s m args below meth c H1 _ ls F (hH.upd hi ?_ z oq (sI_off (cof_arr ha))) (locs_put hL) hl'
  rw [cellE_4 hk]
  show H1[Γ.1 + a]? = some (vp_cell _ _)
  rw [e1, narZ]
  show some ((arrV _ _ _).setSlot _ _) = _
  rw [vp_cell_i, arrV_store]
  congr 2
  funext q
  have e0 : (sB μ a (w x) b).1 a (q : Int) = if a = a ∧ (q : Int) = w x then Int32.ofInt (b2i b) else μ.1 a (q : Int) := rfl
  rw [e0]
  by_cases hq : q = (Int32.ofInt x).toNatClampNeg
  · rw [if_pos (⟨rfl, by rw [hq]; exact clamp_w h0⟩ : a = a ∧ (q : Int) = w x)]
    show (if q = _ then _ else _) = _
    rw [if_pos hq]
    cases b <;> rfl
  · rw [if_neg (fun h => hq (by have := clamp_w h0; omega) : ¬ (a = a ∧ (q : Int) = w x))]
    show (if q = _ then _ else _) = _
    rw [if_neg hq]
-- ends
theorem z_iret {x : Int} (hr : Y.2.1 = some .int) (hd : decode cc pc = .ok (.ireturn, 1)) (hn : Y.2.2.2.2.1 = n) (hca : Y.2.2.2.2.2.1 = ca) (hsl : Y.2.2.2.2.2.2 = sl) (h : post (some (vi x)) μ) : SW l Γ own cc Y post g n ca sl μ pc lv [vi x] := by
  intro p e s m args below meth c H locs ls F hH hL hl'
  rw [hca, hsl, hn]
  exact W.iret (v := Int32.ofInt x) F.1.1 F.1.2.1 (F.2.1.trans hr) (fun t ht _ => ⟨_, μ, rfl, h, by rw [ht]; exact hH⟩) hL hd F.2.2.1
theorem z_zret {b : Bool} (hr : Y.2.1 = some .boolean) (hd : decode cc pc = .ok (.ireturn, 1)) (hn : Y.2.2.2.2.1 = n) (hca : Y.2.2.2.2.2.1 = ca) (hsl : Y.2.2.2.2.2.2 = sl) (h : post (some (vi (b2i b))) μ) : SW l Γ own cc Y post g n ca sl μ pc lv [vi (b2i b)] := by
  intro p e s m args below meth c H locs ls F hH hL hl'
  rw [hca, hsl, hn]
  exact W.zret (v := Int32.ofInt (b2i b)) F.1.1 F.1.2.1 (F.2.1.trans hr) (narZ b) (fun t ht _ => ⟨_, μ, rfl, h, by rw [ht]; exact hH⟩) hL hd F.2.2.1
theorem z_lret {x : Int64} (hr : Y.2.1 = some .long) (hd : decode cc pc = .ok (.lreturn, 1)) (hn : Y.2.2.2.2.1 = n) (hca : Y.2.2.2.2.2.1 = ca) (hsl : Y.2.2.2.2.2.2 = sl) (h : post (some (vl x)) μ) : SW l Γ own cc Y post g n ca sl μ pc lv [vl x] := by
  intro p e s m args below meth c H locs ls F hH hL hl'
  rw [hca, hsl, hn]
  exact W.lret (v := x) F.1.1 F.1.2.1 (F.2.1.trans hr) (fun t ht _ => ⟨_, μ, rfl, h, by rw [ht]; exact hH⟩) hL hd F.2.2.1
theorem z_aret {i : Nat} {rt : FieldType} (hr : Y.2.1 = some rt) (hrt : (∃ n, rt = .object n) ∨ ∃ t, rt = .array t) (hd : decode cc pc = .ok (.areturn, 1)) (hn : Y.2.2.2.2.1 = n) (hca : Y.2.2.2.2.2.1 = ca) (hsl : Y.2.2.2.2.2.2 = sl) (h : post (some (vr Γ i)) μ) : SW l Γ own cc Y post g n ca sl μ pc lv [vr Γ i] := by
  intro p e s m args below meth c H locs ls F hH hL hl'
  rw [hca, hsl, hn]
  exact W.aret (v := vr Γ i) F.1.1 F.1.2.1 (F.2.1.trans hr) hrt (Or.inr ⟨_, rfl⟩) (fun t ht _ => ⟨_, μ, rfl, h, by rw [ht]; exact hH⟩) hL hd F.2.2.1
theorem z_vret (hr : Y.2.1 = none) (hd : decode cc pc = .ok (.return_, 1)) (hn : Y.2.2.2.2.1 = n) (hca : Y.2.2.2.2.2.1 = ca) (hsl : Y.2.2.2.2.2.2 = sl) (h : post none μ) : SW l Γ own cc Y post g n ca sl μ pc lv [] := by
  intro p e s m args below meth c H locs ls F hH hL hl'
  rw [hca, hsl, hn]
  exact W.vret F.1.1 F.1.2.1 (F.2.1.trans hr) (fun t ht _ => ⟨_, μ, rfl, h, by rw [ht]; exact hH⟩) hL hd F.2.2.1
-- contracts out of walks
theorem SW.ct {y : MethodName} {cc : ByteArray} {nL fr lo mc ms g n : Nat} {ret : Option FieldType} {As : List Value} {μ : Mem} (hy : plainName y.cls = true) (hA : (lg_sl As).length ≤ nL)
    (h : SW l Γ y.cls cc (nL, ret, y.name, { frames := fr, cells := mc, slots := ms, locals := lo }, n + mc, mc, ms) post g n 0 0 μ 0 (lv_args 0 As) []) : CT l Γ y cc nL ret fr lo mc ms As g n μ post := by
  refine Met.ofW (cc := cc) (maxL := nL) (ret := ret) hy rfl ?_
  intro p e s m args below meth c s₁ B hml hv
  obtain ⟨rfl, hH, hK⟩ := hv
  have hts := atoms_spec (ws := Cond.code y cc nL ret :: BW) B.pre
  have hown : s.vm.findClass y.cls = some m.cls := findClass_of_methodNamed B.named
  have hl := lv_entry As (n := nL) hA
  rw [lg_entry_eq]
  exact h p e s m As.toArray below meth c s.heap [] _ ⟨⟨B.exec, B.bytes, hml, hown, fun w hw => hts w (List.mem_cons_of_mem _ hw)⟩, B.returns, B.notSynchronized, (name_of_methodNamed B.named B.method).1, hK⟩ hH (fun _ h => by cases h) hl
theorem CT.mono {y : MethodName} {cc : ByteArray} {nL fr lo mc ms g n : Nat} {ret : Option FieldType} {As : List Value} {μ : Mem} {post' : Option Value → Mem → Prop} (h : CT l Γ y cc nL ret fr lo mc ms As g n μ post) (hp : ∀ v ν, post v ν → post' v ν) : CT l Γ y cc nL ret fr lo mc ms As g n μ post' := by
  intro p e s1 s2 s3 s m a b c d hp1 hp2
  obtain ⟨t, o, h1, h2, h3, ⟨v, ν, e1, e2, e3⟩, h5⟩ := h p e s1 s2 s3 s m a b c d hp1 hp2
  exact ⟨t, o, h1, h2, h3, ⟨v, ν, e1, hp v ν e2, e3⟩, h5⟩
end Rules3
