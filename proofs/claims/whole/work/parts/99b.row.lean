/-! ROW: rules in one environment, and the system's method that may throw -/
abbrev nsE : String := "java/util/NoSuchElementException"
abbrev nsP : String := "java/lang/RuntimeException"
abbrev nsL : List String := ["java/lang/Exception"]
abbrev nsD : List MethodName := [Bundle.initS nsP, Bundle.initS "java/lang/Exception", Bundle.initS Bundle.tN]
/-- what stands of Throwable's statics, and the words that no table of good ones holds -/
def ZX (Γ : Gam) (U : State) : Prop := (vx_Zq Bundle.tN "UNASSIGNED_STACK" Bundle.steD (fun q => Γ.1 ≤ q) U Γ.2.1 ∧ vx_Zq Bundle.tN "SUPPRESSED_SENTINEL" Bundle.listD (fun q => Γ.1 ≤ q) U Γ.2.1) ∧ va_Nw (.castable nsE nsE) U ∧ ∀ y ∈ nsD, va_Nw (.declares y) U
theorem ZX.moved {Γ : Gam} {s U : State} (hW : s.WarmedH U.vm) (h : ZX Γ s) : ZX Γ U := ⟨⟨vx_Zq.moved hW.alike h.1.1, vx_Zq.moved hW.alike h.1.2⟩, va_Nw.warmC hW h.2.1, fun y hy => va_Nw.warmD hW (h.2.2 y hy)⟩
theorem ZX.same {Γ : Gam} {s U : State} (hv : U.vm = s.vm) (h : ZX Γ s) : ZX Γ U := ⟨⟨vx_Zq.moved (by rw [hv]; exact Vm.Alike.refl _) h.1.1, vx_Zq.moved (by rw [hv]; exact Vm.Alike.refl _) h.1.2⟩, va_Nw.same rfl hv.symm h.2.1, fun y hy => va_Nw.same rfl hv.symm (h.2.2 y hy)⟩
theorem HWKSX_blind {Γ : Gam} {n g : Nat} {μ : Mem} {As : List Value} : FrameBlind (va_Pc As (fun U => HW Γ n g μ U.heap ∧ KS Γ U ∧ ZX Γ U)) := fun a U gf mk q => ⟨q.1, q.2.1, KS.same (s := U) (U := U.calling gf mk a) rfl q.2.2.1, ZX.same (s := U) (U := U.calling gf mk a) rfl q.2.2.2⟩
theorem HW.more {Γ : Gam} {n g : Nat} {μ : Mem} {H H1 : Heap} (h : HW Γ n g μ H) (hs : H.size ≤ H1.size) (hq : ∀ q : Nat, q < H.size → H1[q]? = H[q]?) : HW Γ n (H1.size - Γ.1 - n) μ H1 := by
  have hz := h.2.2.1
  refine ⟨fun i hi => ?_, h.2.1, by omega, fun q hq1 => by rw [hq q (by omega)]; exact h.2.2.2.1 q hq1, h.2.2.2.2⟩
  have hP : va_P Γ.2.2.1 vwCl [(Γ.1 + i, cellE Γ μ i)] H := fun b q hq => by
    cases b with
    | zero => cases hq; exact h.1 i hi
    | succ b => simp at hq
  have hP1 := hP.kept (H1 := H1) (fun k x hx => hq x.1 ((hP k x hx).lt))
  exact hP1 0 _ rfl
section One
variable {p : Program} {l : Launch} {e : Env} {s : State} {m : MethodId} {args : Array Value} {below : List Frame} {meth : Method} {c : Code} {Γ : Gam} {R : Room} {nL : Nat} {Q : State → Prop} {n g ca sl : Nat} {μ : Mem} {pc : Nat} {lv : List (Nat × Value)} {st : List Value} {cc : ByteArray} {own : String}
def SW1 (p : Program) (l : Launch) (e : Env) (s : State) (m : MethodId) (args : Array Value) (below : List Frame) (meth : Method) (c : Code) (Γ : Gam) (R : Room) (nL : Nat) (Q : State → Prop) (g n ca sl : Nat) (μ : Mem) (pc : Nat) (lv : List (Nat × Value)) (st : List Value) : Prop :=
  ∀ (H : Heap) (locs : List Loc) (ls : Array Slot), HW Γ n g μ H → (∀ q ∈ locs, Γ.1 ≤ q.base) → lv_has ls nL lv → W p l e R s m args below meth c H locs ca sl Q (F0 m pc ls st)
theorem y_iload_n (F : CallFix p m c cc nL s args BW own) {q : Fin 4} {i : Nat} {x : Int} (hd : decode cc pc = .ok (.iload_n q, 1)) (hi : (q : Nat) = i) (j : Nat) (hj : lv[j]? = some (i, vi x)) (k : SW1 p l e s m args below meth c Γ R nL Q g n ca sl μ (pc + 1) lv (vi x :: st)) : SW1 p l e s m args below meth c Γ R nL Q g n ca sl μ pc lv st := fun H locs ls hH hL hl => lv_iload_n F.1 F.2.1 hd hi (lv_at hl j hj) (k H locs ls hH hL hl)
theorem y_rload_n (F : CallFix p m c cc nL s args BW own) {q : Fin 4} {i x : Nat} (hd : decode cc pc = .ok (.aload_n q, 1)) (hi : (q : Nat) = i) (j : Nat) (hj : lv[j]? = some (i, vr Γ x)) (k : SW1 p l e s m args below meth c Γ R nL Q g n ca sl μ (pc + 1) lv (vr Γ x :: st)) : SW1 p l e s m args below meth c Γ R nL Q g n ca sl μ pc lv st := fun H locs ls hH hL hl => lv_aload_n F.1 F.2.1 hd hi (lv_at hl j hj) (k H locs ls hH hL hl)
theorem y_iconst (F : CallFix p m c cc nL s args BW own) {x : Int} (hd : decode cc pc = .ok (.iconst x, 1)) (k : SW1 p l e s m args below meth c Γ R nL Q g n ca sl μ (pc + 1) lv (vi x :: st)) : SW1 p l e s m args below meth c Γ R nL Q g n ca sl μ pc lv st := fun H locs ls hH hL hl => lv_iconst F.1 F.2.1 hd rfl (k H locs ls hH hL hl)
theorem y_bipush (F : CallFix p m c cc nL s args BW own) {x : Int} (hd : decode cc pc = .ok (.bipush x, 2)) (hv : (Int8.ofInt x).toInt32 = Int32.ofInt x) (k : SW1 p l e s m args below meth c Γ R nL Q g n ca sl μ (pc + 2) lv (vi x :: st)) : SW1 p l e s m args below meth c Γ R nL Q g n ca sl μ pc lv st := fun H locs ls hH hL hl => lv_bipush F.1 F.2.1 hd hv (k H locs ls hH hL hl)
theorem y_if_lt (F : CallFix p m c cc nL s args BW own) {x : Int} {off : Int} {tgt : Nat} (hd : decode cc pc = .ok (.ifCond .lt off, 3)) (ht : (pc : Int) + off = (tgt : Int)) (kt : w x < 0 → SW1 p l e s m args below meth c Γ R nL Q g n ca sl μ tgt lv st) (kf : ¬ w x < 0 → SW1 p l e s m args below meth c Γ R nL Q g n ca sl μ (pc + 3) lv st) : SW1 p l e s m args below meth c Γ R nL Q g n ca sl μ pc lv (vi x :: st) := fun H locs ls hH hL hl => by
  by_cases hc : w x < 0
  · exact lv_if_lt F.1 F.2.1 hd ht (fun q => kt hc H locs ls hH hL hl) (fun q => absurd ((ofInt_lt (x := x) (y := 0)).mpr hc) (by first | exact q | (simpa using q)))
  · exact lv_if_lt F.1 F.2.1 hd ht (fun q => absurd ((ofInt_lt (x := x) (y := 0)).mp (by first | exact q | (simpa using q))) hc) (fun q => kf hc H locs ls hH hL hl)
theorem y_icmp_ge (F : CallFix p m c cc nL s args BW own) {x y : Int} {off : Int} {tgt : Nat} (hd : decode cc pc = .ok (.if_icmp .ge off, 3)) (ht : (pc : Int) + off = (tgt : Int)) (kt : w x < w y → SW1 p l e s m args below meth c Γ R nL Q g n ca sl μ (pc + 3) lv st) (kf : ¬ w x < w y → SW1 p l e s m args below meth c Γ R nL Q g n ca sl μ tgt lv st) : SW1 p l e s m args below meth c Γ R nL Q g n ca sl μ pc lv (vi y :: vi x :: st) := fun H locs ls hH hL hl => by
  by_cases hc : w x < w y
  · exact lv_icmp_ge F.1 F.2.1 hd ht (fun q => absurd ((ofInt_lt (x := x) (y := y)).mpr hc) (by first | exact q | (intro z; exact absurd q (by simpa using z)) | (simpa using q))) (fun q => kt hc H locs ls hH hL hl)
  · exact lv_icmp_ge F.1 F.2.1 hd ht (fun q => kf hc H locs ls hH hL hl) (fun q => absurd ((ofInt_lt (x := x) (y := y)).mp (by first | exact q | (simpa using q))) hc)
theorem y_icmp_lt (F : CallFix p m c cc nL s args BW own) {x y : Int} {off : Int} {tgt : Nat} (hd : decode cc pc = .ok (.if_icmp .lt off, 3)) (ht : (pc : Int) + off = (tgt : Int)) (kt : w x < w y → SW1 p l e s m args below meth c Γ R nL Q g n ca sl μ tgt lv st) (kf : ¬ w x < w y → SW1 p l e s m args below meth c Γ R nL Q g n ca sl μ (pc + 3) lv st) : SW1 p l e s m args below meth c Γ R nL Q g n ca sl μ pc lv (vi y :: vi x :: st) := fun H locs ls hH hL hl => by
  by_cases hc : w x < w y
  · exact lv_icmp_lt F.1 F.2.1 hd ht (fun q => kt hc H locs ls hH hL hl) (fun q => absurd ((ofInt_lt (x := x) (y := y)).mpr hc) (by first | exact q | (simpa using q)))
  · exact lv_icmp_lt F.1 F.2.1 hd ht (fun q => absurd ((ofInt_lt (x := x) (y := y)).mp (by first | exact q | (simpa using q))) hc) (fun q => kf hc H locs ls hH hL hl)
theorem y_getF (F : CallFix p m c cc nL s args BW own) (hK : KS Γ s) {i ci k idx ty : Nat} {C nm ds : String} {fin : Bool} (hF : FF ci k C nm ds ty fin) (hd : decode cc pc = .ok (.getfield idx, 3)) (hk : KT i = (0, ci)) (hi : i < n) (hl : Cond.fieldLink own idx C nm ds ∈ BW) (kk : SW1 p l e s m args below meth c Γ R nL Q g n ca sl μ (pc + 3) lv (fval Γ.1 μ i k ty :: st)) : SW1 p l e s m args below meth c Γ R nL Q g n ca sl μ pc lv (vr Γ i :: st) := by
  obtain ⟨T, N, ty0, h1, h2, h3, h4, h5, h6, -, -⟩ := hF
  subst h6
  intro H locs ls hH hL hl'
  have hP : va_P Γ.2.2.1 vwCl [(Γ.1 + i, .inr (ci, flds Γ.1 μ i ci))] H := by
    intro a q hq
    cases a with
    | zero => cases hq; have := hH.1 i hi; rw [cellE_obj hk] at this; exact this
    | succ a => simp at hq
  exact va_get F.1 F.2.1 F.2.2.2.2 h2 F.2.2.2.1 hK.1 hP 0 rfl h1 _ h4 (F.2.2.2.2 _ (by rw [h5]; exact hl)) (fun _ h => h) (flds_get (by rw [h3]; exact h4)) hd (kk H locs ls hH hL hl')
theorem y_callV (F : CallFix p m c cc nL s args BW own) (hK : KS Γ s) {y : MethodName} {cc' : ByteArray} {nL' fr lo na i ci idx N mc ms : Nat} {ret' : Option FieldType} {As rest : List Value} {T : u_T} {post' : Option Value → Mem → Prop} (h : CT l Γ y cc' nL' ret' fr lo mc ms (vr Γ i :: As) g n μ post') (hM : VOK y cc' nL' ret' na) (hk : KT i = (0, ci)) (hi : i < n) (hc : vwCl[ci]? = some (y.cls, T, N)) (hl : Cond.methodLink own idx y ∈ BW)
    (hR : fr + 1 ≤ R.frames ∧ 8 + (nL' + 11) + lo ≤ R.locals) (hcs : ca + mc ≤ R.cells ∧ sl + ms ≤ R.slots) (hna : As.length = na) (hst : st = As.reverse ++ vr Γ i :: rest) (hW : (rest.map fun v => v.category).sum ≤ 8) (hd : decode cc pc = .ok (.invokevirtual idx, 3))
    (kk : ∀ v ν, post' v ν → SW1 p l e s m args below meth c Γ R nL Q g (n + mc) (ca + mc) (sl + ms) ν (pc + 3) lv (v.toList ++ rest)) : SW1 p l e s m args below meth c Γ R nL Q g n ca sl μ pc lv st := by
  subst hst
  intro H locs ls hH hL hl'
  obtain ⟨⟨hM1, hM2, hM3⟩, hM4, hM5⟩ := hM
  refine run_W (va_runV F h (cwV na F.2.2.2.2 (BW_in ?_) rfl rfl rfl ⟨rfl, hM3⟩ hR) ⟨HWKS_blind, HW.recv hK.1 hH hk hi hc, fun U hU hWm => ⟨rfl, by rw [hU]; exact hH, KS.moved hWm hK⟩⟩ rfl hna hl'.1 rfl (lv_room hW) hd hcs) hL (fun v ν H1 locs1 hp h1 h2 => kk v ν hp H1 locs1 ls h1 h2 hl')
  intro w hw
  simp only [wsV, List.mem_append, List.mem_cons, List.not_mem_nil, or_false] at hw
  rcases hw with (rfl | rfl | rfl | rfl) | rfl | hw
  · exact hl
  · exact hM4
  · exact hM5
  · exact hM2
  · exact hM1
  · exact hw
end One
theorem ml_X11_293 : Cond.methodLink RX11 293 yX0_rowField ∈ BW := (bw7 104 (by decide +kernel) rfl)
theorem ck_X11_286 : Cond.classLink RX11 286 "java/util/NoSuchElementException" ∈ BW := (bw7 39 (by decide +kernel) rfl)
theorem in_ns : Cond.initialized "java/util/NoSuchElementException" ∈ BW := (bw1 23 (by decide +kernel) rfl)
def RowIn (a f : Int) (μ : Mem) : Prop := ¬ w a < 0 ∧ w a < w (rI μ 11632 0) ∧ ¬ w f < 0 ∧ w f < w 7
abbrev nsA : List Cond := (nx_all RX11 290 nsE nsP 13 prog_29_method_4_code nsL).filter vx_no
theorem ns_in : ∀ w ∈ nsA.filter goodWord, w ∈ lw_tbl := by decide +kernel
theorem ns_bad : ∀ w ∈ nsA.filter (fun w => !goodWord w), w ∈ nsD.map Cond.declares := by decide +kernel
theorem ns_ot : ((Cond.classLink RX11 286 nsE :: Cond.initialized nsE :: nsA).all vx_ot) = true := by decide +kernel
theorem ns_at {Γ : Gam} {s : State} {args : Array Value} (h : ∀ w ∈ BW, w.before args s = true) (hZ : ZX Γ s) : ∀ w ∈ nsA, w.before args s = true := vx_hat (fun w hw => h w (List.mem_filter.mpr ⟨ns_in w hw, (List.mem_filter.mp hw).2⟩)) ns_bad (fun w hw => by
  obtain ⟨y, hy, rfl⟩ := List.mem_map.mp hw
  exact va_Nw.use rfl (hZ.2.2 y hy))
set_option maxHeartbeats 4000000 in
theorem i_row {l : Launch} (hst : l.stackTraces = false) {Γ : Gam} {g : Nat} {a f : Int} {μ : Mem} (hs : StatR μ.2.2) : vx_Met l yX11_row (Cond.code yX11_row cX11_row 3 (some .int) :: BW) { frames := 6, cells := 1, slots := 6, locals := 150 } (va_Pc [vr Γ 0, vi a, vi f] (fun U => HW Γ 175 g μ U.heap ∧ KS Γ U ∧ ZX Γ U)) (QcOf Γ 175 g (fun v ν => v = some (vi (v_Chair_rowField a f μ)) ∧ ν = μ ∧ RowIn a f μ)) (fun E _ t => E = nsE ∧ ¬ RowIn a f μ ∧ ∃ g1 : Nat, HW Γ 175 g1 μ t.heap) 1 6 (fun q => Γ.1 ≤ q) := by
  refine vx_ofW (cc := cX11_row) (maxL := 3) (ret := some .int) (by decide) rfl ?_
  intro p e s m args below meth c s₁ B hml htab hv
  obtain ⟨rfl, hH0, hK, hZ⟩ := hv
  have hts := atoms_spec (ws := Cond.code yX11_row cX11_row 3 (some .int) :: BW) B.pre
  have hown : s.vm.findClass RX11 = some m.cls := findClass_of_methodNamed B.named
  have hBW : ∀ w ∈ BW, w.before [vr Γ 0, vi a, vi f].toArray s = true := fun w hw => hts w (List.mem_cons_of_mem _ hw)
  have F : CallFix p m c cX11_row 3 s [vr Γ 0, vi a, vi f].toArray BW RX11 := ⟨B.exec, B.bytes, hml, hown, hBW⟩
  have hl := lv_entry [vr Γ 0, vi a, vi f] (n := 3) (Nat.le_of_ble_eq_true rfl)
  rw [lg_entry_eq]
  generalize (lg_sl [vr Γ 0, vi a, vi f] ++ List.replicate (3 - (lg_sl [vr Γ 0, vi a, vi f]).length) Slot.unset).toArray = ls at hl ⊢
  have hl : lv_has ls 3 [(0, vr Γ 0), (1, vi a), (2, vi f)] := hl
  have hsame : ∀ H : Heap, HW Γ 175 g μ H → ∀ locs : List Loc, (∀ q ∈ locs, Γ.1 ≤ q.base) → va_S (fun q => Γ.1 ≤ q) s.heap H locs := fun H hH locs hL => ⟨by rw [hH.2.2.1, hH0.2.2.1]; exact Nat.le_refl _, fun q _ hq => by rw [hH.2.2.2.1 q (by omega), hH0.2.2.2.1 q (by omega)], fun q hq => hL q hq⟩
  have hk0 : ∀ q : Nat, q < Γ.2.1.size → ¬ Γ.1 ≤ q → s.heap[q]? = Γ.2.1[q]? := fun q _ hq => hH0.2.2.2.1 q (by omega)
  have thr : ¬ RowIn a f μ → SW1 p l e s m [vr Γ 0, vi a, vi f].toArray below meth c Γ { frames := 6, cells := 1, slots := 6, locals := 150 } 3 (vx_MQ below (QcOf Γ 175 g (fun v ν => v = some (vi (v_Chair_rowField a f μ)) ∧ ν = μ ∧ RowIn a f μ)) (fun E _ t => E = nsE ∧ ¬ RowIn a f μ ∧ ∃ g1 : Nat, HW Γ 175 g1 μ t.heap) [vr Γ 0, vi a, vi f].toArray s 1 6 (fun q => Γ.1 ≤ q)) g 175 0 0 μ 25 [(0, vr Γ 0), (1, vi a), (2, vi f)] [] := fun no H locs ls hH hL hl => by
    have hstr : vk_R RX11 288 "no such row" (Γ.2.2.2.2.1 29) s := hK.2.2.2.1 (RX11, 288, "no such row", 29) (List.mem_of_getElem? (i := 30) rfl)
    exact nx_throw (names := nsL) (cls := nsE) (par := nsP) (ix := 13) (rx := prog_29_method_4_code) (own := RX11) (text := "no such row") (ik := 286) (is := 288) (ic := 290) F.1 F.2.1 hst (by decide +kernel) (by decide +kernel) (by decide +kernel) (by decide +kernel) (by decide +kernel) hown (by decide +kernel) (by decide +kernel) (hBW _ ck_X11_286) (hBW _ in_ns) hstr (ns_at hBW hZ) (fun w hw => List.all_eq_true.mp ns_ot w hw) (vx_Zq.kept hZ.1.1 hk0) (vx_Zq.kept hZ.1.2 hk0) (hsame H hH locs hL) (hl.1.trans hml.symm) dX11_row_25 dX11_row_28 dX11_row_29 dX11_row_32 dX11_row_35 (fun x hx => (htab x hx).elim) (by decide) (by decide) (by decide) (by decide) B.notSynchronized (fun t _ h1 h2 => ⟨rfl, no, _, hH.more h1 h2⟩) (fun z hz => hL z hz) (by decide) (by decide)
  have go : SW1 p l e s m [vr Γ 0, vi a, vi f].toArray below meth c Γ { frames := 6, cells := 1, slots := 6, locals := 150 } 3 (vx_MQ below (QcOf Γ 175 g (fun v ν => v = some (vi (v_Chair_rowField a f μ)) ∧ ν = μ ∧ RowIn a f μ)) (fun E _ t => E = nsE ∧ ¬ RowIn a f μ ∧ ∃ g1 : Nat, HW Γ 175 g1 μ t.heap) [vr Γ 0, vi a, vi f].toArray s 1 6 (fun q => Γ.1 ≤ q)) g 175 0 0 μ 0 [(0, vr Γ 0), (1, vi a), (2, vi f)] [] := by
    refine y_iload_n F dX11_row_0 rfl 1 rfl ?_
    refine y_if_lt F (tgt := 25) dX11_row_1 rfl (fun z => thr (fun y => y.1 z)) (fun z1 => ?_)
    refine y_iload_n F dX11_row_4 rfl 1 rfl ?_
    refine y_rload_n F dX11_row_5 rfl 0 rfl ?_
    refine y_getF F hK ff_11_7 dX11_row_6 kt_0 (by decide) fl_X11_75 ?_
    rw [fval_3 rfl rfl (hs.1 1007 83 (by decide +kernel))]
    refine y_getF F hK ff_0_8 dX11_row_9 kt_83 (by decide) fl_X11_283 ?_
    rw [fval_0 rfl rfl]
    refine y_icmp_ge F (tgt := 25) dX11_row_12 rfl (fun z2 => ?_) (fun z2 => thr (fun y => z2 y.2.1))
    refine y_iload_n F dX11_row_15 rfl 2 rfl ?_
    refine y_if_lt F (tgt := 25) dX11_row_16 rfl (fun z => thr (fun y => y.2.2.1 z)) (fun z3 => ?_)
    refine y_iload_n F dX11_row_19 rfl 2 rfl ?_
    refine y_bipush F dX11_row_20 (by decide) ?_
    refine y_icmp_lt F (tgt := 36) dX11_row_22 rfl (fun z4 => ?_) (fun z4 => thr (fun y => z4 y.2.2.2))
    have hin : RowIn a f μ := ⟨z1, z2, z3, z4⟩
    refine y_rload_n F dX11_row_36 rfl 0 rfl ?_
    refine y_getF F hK ff_11_7 dX11_row_37 kt_0 (by decide) fl_X11_75 ?_
    rw [fval_3 rfl rfl (hs.1 1007 83 (by decide +kernel))]
    refine y_iload_n F dX11_row_40 rfl 1 rfl ?_
    refine y_iload_n F dX11_row_41 rfl 2 rfl ?_
    refine y_callV F hK (i_Chair_rowField hs) vk_X0_rowField kt_83 (by decide) rfl ml_X11_293 ⟨by decide, by decide⟩ ⟨by decide, by decide⟩ rfl rfl (by decide) dX11_row_42 (fun v ν hv => ?_)
    obtain ⟨rfl, rfl⟩ := hv
    intro H locs ls hH hL hl
    refine W.widen (k := 1) (n := 6) (by decide) (by decide) ?_
    refine vx_ret ?_
    exact W.iret (v := Int32.ofInt (v_Chair_rowField a f ν)) F.1 F.2.1 B.returns (fun t ht _ => ⟨_, ν, rfl, ⟨rfl, rfl, hin⟩, by rw [ht]; exact hH⟩) hL dX11_row_45 B.notSynchronized
  exact go s.heap [] ls hH0 (fun _ h => by cases h) hl
