section CallRules
variable {l : Launch} {Γ : Gam} {own : String} {cc : ByteArray} {Y : Yt} {QQ : List Frame → Array Value → State → State → Prop} {g n ca sl : Nat} {μ : Mem} {pc : Nat} {lv : List (Nat × Value)} {st rest : List Value}
theorem BW_good {w : Cond} (h : w ∈ BW) : (w.onTables && w.keeps) = true ∨ ∃ ty, w = .arrayClass ty := good_of_word (List.mem_filter.mp h).2
theorem BW_in {ws : List Cond} (h : ∀ w ∈ ws, w ∈ BW) : GoodIn BW ws := fun w hw => ⟨h w hw, BW_good (h w hw)⟩
def AOK (y : MethodName) (cc : ByteArray) (nL : Nat) (ret : Option FieldType) (na : Nat) : Prop := Cond.code y cc nL ret ∈ BW ∧ Cond.initialized y.cls ∈ BW ∧ y.cls ≠ "java/lang/invoke/MethodHandle" ∧ y.cls ≠ "java/lang/invoke/VarHandle" ∧ (parseMethodDescriptor y.desc).map (fun d => d.parameters.length) = some na
def VOK (y : MethodName) (cc : ByteArray) (nL : Nat) (ret : Option FieldType) (na : Nat) : Prop := AOK y cc nL ret na ∧ Cond.instanceMethod y ∈ BW ∧ Cond.selects y.cls y y ∈ BW
def SOK (y : MethodName) (cc : ByteArray) (nL : Nat) (ret : Option FieldType) (na : Nat) : Prop := AOK y cc nL ret na ∧ Cond.static y ∈ BW
def IOK (y : MethodName) (cc : ByteArray) (nL : Nat) (na : Nat) : Prop := AOK y cc nL none na ∧ Cond.instanceMethod y ∈ BW ∧ y.name = "<init>"
theorem HWKS_blind {Γ : Gam} {n g : Nat} {μ : Mem} {As : List Value} : FrameBlind (va_Pc As (fun U => HW Γ n g μ U.heap ∧ KS Γ U)) := fun a U gf mk q => ⟨q.1, q.2.1, KS.same (s := U) (U := U.calling gf mk a) rfl q.2.2⟩
theorem run_W {p : Program} {e : Env} {R : Room} {s : State} {m : MethodId} {args : Array Value} {below : List Frame} {meth : Method} {c : Code} {H : Heap} {locs : List Loc} {mc ms n' : Nat} {ls : Array Slot} {st0 : List Value} {post' : Option Value → Mem → Prop} {a : Array Value} {Q : State → Prop}
    (hr : va_Run p l e R s m args below meth c H locs ca sl mc ms (F0 m pc ls st0) rest (QcOf Γ n' g post' a) (fun q => Γ.1 ≤ q)) (hL : ∀ q ∈ locs, Γ.1 ≤ q.base)
    (kk : ∀ (v : Option Value) (ν : Mem) (H1 : Heap) (locs1 : List Loc), post' v ν → HW Γ n' g ν H1 → (∀ q ∈ locs1, Γ.1 ≤ q.base) → W p l e R s m args below meth c H1 locs1 (ca + mc) (sl + ms) Q (F0 m (pc + 3) ls (v.toList ++ rest))) : W p l e R s m args below meth c H locs ca sl Q (F0 m pc ls st0) := by
  intro T hT X
  obtain ⟨v, st₀, t, T', L, h0, X', hL', e1, e2, ⟨v', ν, hv, hp, hH⟩, stp⟩ := hr T hT X
  cases hv
  obtain ⟨t2, a1, b1⟩ := kk v ν T'.heap (locs ++ L) hp (by rw [e1]; exact hH) (fun q hq => by
    rcases List.mem_append.mp hq with h | h
    · exact hL q h
    · exact hL' q h) T' rfl X'
  exact ⟨t2, stp t2 a1, b1⟩
theorem HW.recv {s : State} {H : Heap} {i ci N : Nat} {C : String} {T : u_T} (hK : va_K Γ.2.2.1 vwCl (tysOf Γ) s) (hH : HW Γ n g μ H) (hk : KT i = (0, ci)) (hi : i < n) (hc : vwCl[ci]? = some (C, T, N)) : ∃ cell : Cell, H[Γ.1 + i]? = some cell ∧ cell.vm.isStatics = false ∧ s.vm.findClass C = some cell.cls := by
  have hat := hH.1 i hi
  rw [cellE_obj hk] at hat
  have hP : va_P Γ.2.2.1 vwCl [(Γ.1 + i, .inr (ci, flds Γ.1 μ i ci))] H := by
    intro b q hq
    cases b with
    | zero => cases hq; exact hat
    | succ b => simp at hq
  exact va_recv hK hP hc (q0 := 0) rfl
theorem z_callV {y : MethodName} {cc' : ByteArray} {nL' fr lo na i ci idx N mc ms : Nat} {ret' : Option FieldType} {As : List Value} {T : u_T} {post' : Option Value → Mem → Prop} (h : CT l Γ y cc' nL' ret' fr lo mc ms (vr Γ i :: As) g n μ post') (hM : VOK y cc' nL' ret' na) (hk : KT i = (0, ci)) (hi : i < n) (hc : vwCl[ci]? = some (y.cls, T, N)) (hl : Cond.methodLink own idx y ∈ BW)
    (hR : fr + 1 ≤ Y.2.2.2.1.frames ∧ 8 + (nL' + 11) + lo ≤ Y.2.2.2.1.locals) (hcs : ca + mc ≤ Y.2.2.2.1.cells ∧ sl + ms ≤ Y.2.2.2.1.slots) (hna : As.length = na) (hst : st = As.reverse ++ vr Γ i :: rest) (hW : (rest.map fun v => v.category).sum ≤ 8) (hd : decode cc pc = .ok (.invokevirtual idx, 3))
    (kk : ∀ v ν, post' v ν → SWQ l Γ own cc Y QQ g (n + mc) (ca + mc) (sl + ms) ν (pc + 3) lv (v.toList ++ rest)) : SWQ l Γ own cc Y QQ g n ca sl μ pc lv st := by
  subst hst
  intro p e s m args below meth c H locs ls F hH hL hl'
  obtain ⟨⟨hM1, hM2, hM3⟩, hM4, hM5⟩ := hM
  refine run_W (va_runV F.1 h (cwV na F.1.2.2.2.2 (BW_in ?_) rfl rfl rfl ⟨rfl, hM3⟩ hR) ⟨HWKS_blind, HW.recv F.2.2.2.2.1 hH hk hi hc, fun U hU hWm => ⟨rfl, by rw [hU]; exact hH, KS.moved hWm F.2.2.2.2⟩⟩ rfl hna hl'.1 rfl (lv_room hW) hd hcs) hL (fun v ν H1 locs1 hp h1 h2 => kk v ν hp p e s m args below meth c H1 locs1 ls F h1 h2 hl')
  intro w hw
  simp only [wsV, List.mem_append, List.mem_cons, List.not_mem_nil, or_false] at hw
  rcases hw with (rfl | rfl | rfl | rfl) | rfl | hw
  · exact hl
  · exact hM4
  · exact hM5
  · exact hM2
  · exact hM1
  · exact hw
theorem z_callS {y : MethodName} {cc' : ByteArray} {nL' fr lo na idx mc ms : Nat} {ret' : Option FieldType} {As : List Value} {post' : Option Value → Mem → Prop} (h : CT l Γ y cc' nL' ret' fr lo mc ms As g n μ post') (hM : SOK y cc' nL' ret' na) (hl : Cond.methodLink own idx y ∈ BW)
    (hR : fr + 1 ≤ Y.2.2.2.1.frames ∧ 8 + (nL' + 11) + lo ≤ Y.2.2.2.1.locals) (hcs : ca + mc ≤ Y.2.2.2.1.cells ∧ sl + ms ≤ Y.2.2.2.1.slots) (hna : As.length = na) (hst : st = As.reverse ++ rest) (hW : (rest.map fun v => v.category).sum ≤ 8) (hd : decode cc pc = .ok (.invokestatic idx, 3))
    (kk : ∀ v ν, post' v ν → SWQ l Γ own cc Y QQ g (n + mc) (ca + mc) (sl + ms) ν (pc + 3) lv (v.toList ++ rest)) : SWQ l Γ own cc Y QQ g n ca sl μ pc lv st := by
  subst hst
  intro p e s m args below meth c H locs ls F hH hL hl'
  obtain ⟨⟨hM1, hM2, hM3⟩, hM4⟩ := hM
  refine run_W (va_runS F.1 h (va_cwS na F.1.2.2.2.2 (BW_in ?_) rfl rfl rfl hM3 hR) ⟨HWKS_blind, fun U hU hWm => ⟨rfl, by rw [hU]; exact hH, KS.moved hWm F.2.2.2.2⟩⟩ rfl hna hl'.1 rfl (lv_room hW) hd hcs) hL (fun v ν H1 locs1 hp h1 h2 => kk v ν hp p e s m args below meth c H1 locs1 ls F h1 h2 hl')
  intro w hw
  simp only [va_wsS, List.mem_append, List.mem_cons, List.not_mem_nil, or_false] at hw
  rcases hw with (rfl | rfl | rfl) | rfl | hw
  · exact hl
  · exact hM4
  · exact hM2
  · exact hM1
  · exact hw
theorem z_callN {y : MethodName} {cc' : ByteArray} {nL' fr lo na idx mc ms : Nat} {ret' : Option FieldType} {host : String} {As : List Value} {post' : Option Value → Mem → Prop} (h : CT l Γ y cc' nL' ret' fr lo mc ms As g n μ post') (hM : SOK y cc' nL' ret' na) (hl : (own, idx, y, host) ∈ NWL)
    (hR : fr + 1 ≤ Y.2.2.2.1.frames ∧ 8 + (nL' + 11) + lo ≤ Y.2.2.2.1.locals) (hcs : ca + mc ≤ Y.2.2.2.1.cells ∧ sl + ms ≤ Y.2.2.2.1.slots) (hna : As.length = na) (hst : st = As.reverse ++ rest) (hW : (rest.map fun v => v.category).sum ≤ 8) (hd : decode cc pc = .ok (.invokestatic idx, 3))
    (kk : ∀ v ν, post' v ν → SWQ l Γ own cc Y QQ g (n + mc) (ca + mc) (sl + ms) ν (pc + 3) lv (v.toList ++ rest)) : SWQ l Γ own cc Y QQ g n ca sl μ pc lv st := by
  subst hst
  intro p e s m args below meth c H locs ls F hH hL hl'
  obtain ⟨⟨hM1, hM2, hM3⟩, hM4⟩ := hM
  have hN := F.2.2.2.2.2.1 _ hl
  refine run_W (va_runSN F.1 h ⟨va_cnB na F.1.2.2.2.2 (BW_in ?_) rfl rfl rfl hN (F.1.2.2.2.2 _ hM2) hM3 hR, F.1.2.2.2.2 _ hM4, trivial⟩ ⟨HWKS_blind, fun U hU hWm => ⟨rfl, by rw [hU]; exact hH, KS.moved hWm F.2.2.2.2⟩⟩ rfl hna hl'.1 rfl (lv_room hW) hd hcs) hL (fun v ν H1 locs1 hp h1 h2 => kk v ν hp p e s m args below meth c H1 locs1 ls F h1 h2 hl')
  intro w hw
  rcases List.mem_cons.mp hw with rfl | hw
  · exact hM1
  · exact hw
theorem z_callI {y : MethodName} {cc' : ByteArray} {nL' fr lo na i idx mc ms : Nat} {As : List Value} {post' : Option Value → Mem → Prop} (h : CT l Γ y cc' nL' none fr lo mc ms (vr Γ i :: As) g n μ post') (hM : IOK y cc' nL' na) (hl : Cond.methodLink own idx y ∈ BW)
    (hR : fr + 1 ≤ Y.2.2.2.1.frames ∧ 8 + (nL' + 11) + lo ≤ Y.2.2.2.1.locals) (hcs : ca + mc ≤ Y.2.2.2.1.cells ∧ sl + ms ≤ Y.2.2.2.1.slots) (hna : As.length = na) (hst : st = As.reverse ++ vr Γ i :: rest) (hW : (rest.map fun v => v.category).sum ≤ 8) (hd : decode cc pc = .ok (.invokespecial idx, 3))
    (kk : ∀ v ν, post' v ν → SWQ l Γ own cc Y QQ g (n + mc) (ca + mc) (sl + ms) ν (pc + 3) lv (v.toList ++ rest)) : SWQ l Γ own cc Y QQ g n ca sl μ pc lv st := by
  subst hst
  intro p e s m args below meth c H locs ls F hH hL hl'
  obtain ⟨⟨hM1, hM2, hM3⟩, hM4, hM5⟩ := hM
  have hts := F.1.2.2.2.2
  refine run_W (va_runI F.1 h (cwI na hts (BW_in ?_) rfl rfl rfl (hts _ hM2) (hts _ hl) (hts _ hM4) hM5 hM3 hR) ⟨HWKS_blind, fun U hU hWm => ⟨rfl, by rw [hU]; exact hH, KS.moved hWm F.2.2.2.2⟩⟩ rfl hna hl'.1 rfl (lv_room hW) hd hcs) hL (fun v ν H1 locs1 hp h1 h2 => kk v ν hp p e s m args below meth c H1 locs1 ls F h1 h2 hl')
  intro w hw
  rcases List.mem_cons.mp hw with rfl | hw
  · exact hM1
  · exact hw
theorem z_callIN {y : MethodName} {cc' : ByteArray} {nL' fr lo na i idx mc ms : Nat} {host : String} {As : List Value} {post' : Option Value → Mem → Prop} (h : CT l Γ y cc' nL' none fr lo mc ms (vr Γ i :: As) g n μ post') (hM : IOK y cc' nL' na) (hl : (own, idx, y, host) ∈ NWL)
    (hR : fr + 1 ≤ Y.2.2.2.1.frames ∧ 8 + (nL' + 11) + lo ≤ Y.2.2.2.1.locals) (hcs : ca + mc ≤ Y.2.2.2.1.cells ∧ sl + ms ≤ Y.2.2.2.1.slots) (hna : As.length = na) (hst : st = As.reverse ++ vr Γ i :: rest) (hW : (rest.map fun v => v.category).sum ≤ 8) (hd : decode cc pc = .ok (.invokespecial idx, 3))
    (kk : ∀ v ν, post' v ν → SWQ l Γ own cc Y QQ g (n + mc) (ca + mc) (sl + ms) ν (pc + 3) lv (v.toList ++ rest)) : SWQ l Γ own cc Y QQ g n ca sl μ pc lv st := by
  subst hst
  intro p e s m args below meth c H locs ls F hH hL hl'
  obtain ⟨⟨hM1, hM2, hM3⟩, hM4, hM5⟩ := hM
  have hts := F.1.2.2.2.2
  have hN := F.2.2.2.2.2.1 _ hl
  refine run_W (va_runIN F.1 h ⟨va_cnB na hts (BW_in ?_) rfl rfl rfl hN (hts _ hM2) hM3 hR, hM5, hts _ hM4⟩ ⟨HWKS_blind, fun U hU hWm => ⟨rfl, by rw [hU]; exact hH, KS.moved hWm F.2.2.2.2⟩⟩ rfl hna hl'.1 rfl (lv_room hW) hd hcs) hL (fun v ν H1 locs1 hp h1 h2 => kk v ν hp p e s m args below meth c H1 locs1 ls F h1 h2 hl')
  intro w hw
  rcases List.mem_cons.mp hw with rfl | hw
  · exact hM1
  · exact hw
theorem z_objInit {i idx : Nat} (hl : Cond.methodLink own idx objectInit ∈ BW) (h1 : Cond.instanceMethod objectInit ∈ BW) (h2 : Cond.code objectInit ⟨#[0xb1]⟩ 1 none ∈ BW) (hd : decode cc pc = .ok (.invokespecial idx, 3)) (hR : 1 ≤ Y.2.2.2.1.frames ∧ (rest.map fun v => v.category).sum + 12 ≤ Y.2.2.2.1.locals)
    (kk : SWQ l Γ own cc Y QQ g n ca sl μ (pc + 3) lv rest) : SWQ l Γ own cc Y QQ g n ca sl μ pc lv (vr Γ i :: rest) := by
  intro p e s m args below meth c H locs ls F hH hL hl'
  have hts := F.1.2.2.2.2
  exact W.objInit F.1.1 F.1.2.1 F.1.2.2.2.1 (hts _ hl) (hts _ h1) (hts _ h2) rfl (by rw [F.1.2.2.1]; exact hl'.1) rfl hd hR.1 (by show 2 * 0 + _ + 12 ≤ _; rw [Nat.mul_zero, Nat.zero_add]; exact hR.2) (kk p e s m args below meth c H locs ls F hH hL hl')
-- new cells
theorem clr_off {μ : Mem} {i : Nat} : ∀ (q : Nat) (j : Int), cof q ≠ i → μ.1 q j = (clr μ i).1 q j ∧ μ.2.1 q j = (clr μ i).2.1 q j ∧ μ.2.2 q j = (clr μ i).2.2 q j := by
  intro q j hq
  refine ⟨?_, ?_, ?_⟩ <;> (show _ = if _ then _ else _; rw [if_neg hq])
theorem HW.grow {n : Nat} {H H1 : Heap} (h : HW Γ n 0 μ H) (hn : n < 1000) (he : va_at Γ.2.2.1 vwCl (Γ.1 + n, cellE Γ (clr μ n) n) H1) (z : H1.size = H.size + 1) (oq : ∀ q : Nat, q < H.size → H1[q]? = H[q]?) : HW Γ (n + 1) 0 (clr μ n) H1 := by
  obtain ⟨h1, h2, h3, h4, h5⟩ := h
  refine ⟨fun k hk => ?_, h2, by omega, fun q hq => (oq q (by omega)).trans (h4 q hq), hn⟩
  by_cases hki : k = n
  · subst hki; exact he
  · have e : cellE Γ (clr μ n) k = cellE Γ μ k := (cellE_congr (fun q j hq => clr_off q j (by omega)) (by omega) (fun ci _ => NF_le ci)).symm
    rw [e]
    exact (h1 k (by omega)).kept (oq (Γ.1 + k) (by omega))
def dvt (t : Nat) : Value := match t with | 0 => .int 0 | 1 => .int 0 | 2 => .long 0 | _ => .null
theorem fval_clr {z i k t : Nat} (hk : k < 128) : fval z (clr μ i) i k t = dvt t := by
  have hg : cof (gid i k) = i := cof_gid hk
  have e1 : (clr μ i).1 (gid i k) 0 = 0 := if_pos hg
  have e2 : (clr μ i).2.1 (gid i k) 0 = 0 := if_pos hg
  have e3 : (clr μ i).2.2 (gid i k) 0 = none := if_pos hg
  unfold fval dvt
  split <;> simp only [e1, e2, e3] <;> rfl
theorem z_new {ci idx N : Nat} {C : String} {T : u_T} (ty0 : Nat → FieldType) (hd : decode cc pc = .ok (.new idx, 3)) (hk : KT n = (0, ci)) (hn : n < 1000) (hc : vwCl[ci]? = some (C, T, N)) (hu : ∀ w ∈ u_ws C T N, w ∈ BW) (hN : NF ci = N) (hpt : ∀ k, k < N → parseFieldDescriptor (T k).2.2.1 = some (ty0 k)) (hdv : ∀ k, k < N → defaultValue (ty0 k) = dvt (fty ci k)) (h1 : Cond.classLink own idx C ∈ BW) (h2 : Cond.instantiable C N ∈ BW) (h3 : Cond.initialized C ∈ BW)
    (hcs : ca + 1 ≤ Y.2.2.2.1.cells ∧ sl + N ≤ Y.2.2.2.1.slots) (kk : SWQ l Γ own cc Y QQ 0 (n + 1) (ca + 1) (sl + N) (clr μ n) (pc + 3) lv (vr Γ n :: st)) : SWQ l Γ own cc Y QQ 0 n ca sl μ pc lv st := by
  intro p e s m args below meth c H locs ls F hH hL hl'
  have hts := F.1.2.2.2.2
  have hKn := F.2.2.2.2.1.1 ci _ hc
  have hz : H.size = Γ.1 + n := hH.2.2.1
  refine W.newcK F.1.1 F.1.2.1 F.1.2.2.2.1 (hts _ h1) (hts _ h2) (hts _ h3) rfl hd hcs.1 hcs.2 hKn.2.1 rfl fun H1 kC hkC e1 z1 o1 => ?_
  have e4 : (Value.ref H.size) = vr Γ n := by rw [hz]; rfl
  rw [e4]
  refine kk p e s m args below meth c H1 locs ls F (hH.grow hn ?_ z1 o1) hL hl'
  rw [cellE_obj hk]
  rw [hz] at e1
  exact ⟨_, hc, (u_born ty0 hts hu hKn hkC e1 hpt).to (fun k hkN => by
    have hk1 : k < NF ci := by rw [hN]; exact hkN
    rw [vp_flds hk1, fval_clr (Nat.lt_of_lt_of_le hk1 (NF_le ci)), ← hdv k hkN])⟩
theorem z_newI {len : Nat} (hd : decode cc pc = .ok (.newarray .int, 2)) (hk : KT n = (1, len)) (hn : n < 1000) (hw : Cond.arrayClass .int ∈ BW) (hb : len < 1000000) (hcs : ca + 1 ≤ Y.2.2.2.1.cells ∧ sl + len ≤ Y.2.2.2.1.slots) (kk : SWQ l Γ own cc Y QQ 0 (n + 1) (ca + 1) (sl + len) (clr μ n) (pc + 2) lv (vr Γ n :: st)) : SWQ l Γ own cc Y QQ 0 n ca sl μ pc lv (vi (len : Int) :: st) := by
  intro p e s m args below meth c H locs ls F hH hL hl'
  have hz : H.size = Γ.1 + n := hH.2.2.1
  have ew : w (len : Int) = len := w_id (by omega) (by omega)
  have h0 : ¬ Int32.ofInt (len : Int) < 0 := fun h => by have := (ofInt_lt (y := 0)).mp h; rw [ew] at this; have : w 0 = 0 := rfl; omega
  have h1 : (Int32.ofInt (len : Int)).toNatClampNeg = len := by have := clamp_w (x := (len : Int)) (by omega); omega
  refine va_newaK (atype := .int) F.1.1 F.1.2.1 (F.1.2.2.2.2 _ hw) rfl hd rfl h0 h1 (by show len * 4 ≤ _; omega) hcs.1 hcs.2 rfl fun H1 cA e1 z1 o1 hAr hNm => ?_
  have e4 : (Value.ref H.size) = vr Γ n := by rw [hz]; rfl
  have ec : cA = Γ.2.2.2.1 1 := Option.some.inj (hNm.symm.trans (F.2.2.2.2.1.2 0 _ rfl).2)
  rw [e4]
  refine kk p e s m args below meth c H1 locs ls F (hH.grow hn ?_ z1 o1) hL hl'
  rw [cellE_1 hk]
  rw [hz, ec] at e1
  show H1[Γ.1 + n]? = some (vp_cell _ _)
  rw [e1, vp_cell_i]
  refine congrArg some (congrArg (arrV _ len) (funext fun j => ?_))
  show Value.int 0 = Value.int (if cof n = n then 0 else _)
  rw [if_pos (cof_arr hn)]
theorem z_newJ {len : Nat} (hd : decode cc pc = .ok (.newarray .long, 2)) (hk : KT n = (2, len)) (hn : n < 1000) (hw : Cond.arrayClass .long ∈ BW) (hb : len < 1000000) (hcs : ca + 1 ≤ Y.2.2.2.1.cells ∧ sl + len ≤ Y.2.2.2.1.slots) (kk : SWQ l Γ own cc Y QQ 0 (n + 1) (ca + 1) (sl + len) (clr μ n) (pc + 2) lv (vr Γ n :: st)) : SWQ l Γ own cc Y QQ 0 n ca sl μ pc lv (vi (len : Int) :: st) := by
  intro p e s m args below meth c H locs ls F hH hL hl'
  have hz : H.size = Γ.1 + n := hH.2.2.1
  have ew : w (len : Int) = len := w_id (by omega) (by omega)
  have h0 : ¬ Int32.ofInt (len : Int) < 0 := fun h => by have := (ofInt_lt (y := 0)).mp h; rw [ew] at this; have : w 0 = 0 := rfl; omega
  have h1 : (Int32.ofInt (len : Int)).toNatClampNeg = len := by have := clamp_w (x := (len : Int)) (by omega); omega
  refine va_newaK (atype := .long) F.1.1 F.1.2.1 (F.1.2.2.2.2 _ hw) rfl hd rfl h0 h1 (by show len * 8 ≤ _; omega) hcs.1 hcs.2 rfl fun H1 cA e1 z1 o1 hAr hNm => ?_
  have e4 : (Value.ref H.size) = vr Γ n := by rw [hz]; rfl
  have ec : cA = Γ.2.2.2.1 2 := Option.some.inj (hNm.symm.trans (F.2.2.2.2.1.2 1 _ rfl).2)
  rw [e4]
  refine kk p e s m args below meth c H1 locs ls F (hH.grow hn ?_ z1 o1) hL hl'
  rw [cellE_2 hk]
  rw [hz, ec] at e1
  show H1[Γ.1 + n]? = some (vp_cell _ _)
  rw [e1, vp_cell_l]
  refine congrArg some (congrArg (arrV _ len) (funext fun j => ?_))
  show Value.long 0 = Value.long (if cof n = n then 0 else _)
  rw [if_pos (cof_arr hn)]
theorem z_newB {len : Nat} (hd : decode cc pc = .ok (.newarray .byte, 2)) (hk : KT n = (3, len)) (hn : n < 1000) (hw : Cond.arrayClass .byte ∈ BW) (hb : len < 1000000) (hcs : ca + 1 ≤ Y.2.2.2.1.cells ∧ sl + len ≤ Y.2.2.2.1.slots) (kk : SWQ l Γ own cc Y QQ 0 (n + 1) (ca + 1) (sl + len) (clr μ n) (pc + 2) lv (vr Γ n :: st)) : SWQ l Γ own cc Y QQ 0 n ca sl μ pc lv (vi (len : Int) :: st) := by
  intro p e s m args below meth c H locs ls F hH hL hl'
  have hz : H.size = Γ.1 + n := hH.2.2.1
  have ew : w (len : Int) = len := w_id (by omega) (by omega)
  have h0 : ¬ Int32.ofInt (len : Int) < 0 := fun h => by have := (ofInt_lt (y := 0)).mp h; rw [ew] at this; have : w 0 = 0 := rfl; omega
  have h1 : (Int32.ofInt (len : Int)).toNatClampNeg = len := by have := clamp_w (x := (len : Int)) (by omega); omega
  refine va_newaK (atype := .byte) F.1.1 F.1.2.1 (F.1.2.2.2.2 _ hw) rfl hd rfl h0 h1 (by show len * 1 ≤ _; omega) hcs.1 hcs.2 rfl fun H1 cA e1 z1 o1 hAr hNm => ?_
  have e4 : (Value.ref H.size) = vr Γ n := by rw [hz]; rfl
  have ec : cA = Γ.2.2.2.1 3 := Option.some.inj (hNm.symm.trans (F.2.2.2.2.1.2 2 _ rfl).2)
  rw [e4]
  refine kk p e s m args below meth c H1 locs ls F (hH.grow hn ?_ z1 o1) hL hl'
  rw [cellE_3 hk]
  rw [hz, ec] at e1
  show H1[Γ.1 + n]? = some (vp_cell _ _)
  rw [e1, vp_cell_i]
  refine congrArg some (congrArg (arrV _ len) (funext fun j => ?_))
  show Value.int 0 = Value.int (if cof n = n then 0 else _)
  rw [if_pos (cof_arr hn)]
theorem z_newZ {len : Nat} (hd : decode cc pc = .ok (.newarray .boolean, 2)) (hk : KT n = (4, len)) (hn : n < 1000) (hw : Cond.arrayClass .boolean ∈ BW) (hb : len < 1000000) (hcs : ca + 1 ≤ Y.2.2.2.1.cells ∧ sl + len ≤ Y.2.2.2.1.slots) (kk : SWQ l Γ own cc Y QQ 0 (n + 1) (ca + 1) (sl + len) (clr μ n) (pc + 2) lv (vr Γ n :: st)) : SWQ l Γ own cc Y QQ 0 n ca sl μ pc lv (vi (len : Int) :: st) := by
  intro p e s m args below meth c H locs ls F hH hL hl'
  have hz : H.size = Γ.1 + n := hH.2.2.1
  have ew : w (len : Int) = len := w_id (by omega) (by omega)
  have h0 : ¬ Int32.ofInt (len : Int) < 0 := fun h => by have := (ofInt_lt (y := 0)).mp h; rw [ew] at this; have : w 0 = 0 := rfl; omega
  have h1 : (Int32.ofInt (len : Int)).toNatClampNeg = len := by have := clamp_w (x := (len : Int)) (by omega); omega
  refine va_newaK (atype := .boolean) F.1.1 F.1.2.1 (F.1.2.2.2.2 _ hw) rfl hd rfl h0 h1 (by show len * 1 ≤ _; omega) hcs.1 hcs.2 rfl fun H1 cA e1 z1 o1 hAr hNm => ?_
  have e4 : (Value.ref H.size) = vr Γ n := by rw [hz]; rfl
  have ec : cA = Γ.2.2.2.1 4 := Option.some.inj (hNm.symm.trans (F.2.2.2.2.1.2 3 _ rfl).2)
  rw [e4]
  refine kk p e s m args below meth c H1 locs ls F (hH.grow hn ?_ z1 o1) hL hl'
  rw [cellE_4 hk]
  rw [hz, ec] at e1
  show H1[Γ.1 + n]? = some (vp_cell _ _)
  rw [e1, vp_cell_i]
  refine congrArg some (congrArg (arrV _ len) (funext fun j => ?_))
  have e : (clr μ n).1 n (j : Int) = 0 := if_pos (cof_arr hn)
  show Value.int 0 = Value.int (if (clr μ n).1 n (j : Int) = 0 then 0 else 1)
  rw [if_pos e]
theorem z_aast {a len j : Nat} {x : Int} (hd : decode cc pc = .ok (.aastore, 1)) (hk : KT a = (5, len)) (hi : a < n) (hkj : KT j = (0, 8)) (hj : j < n) (h0 : 0 ≤ w x) (h1 : w x < (len : Int)) (kk : SWQ l Γ own cc Y QQ g n ca sl (sR μ a (w x) (some j)) (pc + 1) lv st) : SWQ l Γ own cc Y QQ g n ca sl μ pc lv (vr Γ j :: vi x :: vr Γ a :: st) := by
  intro p e s m args below meth c H locs ls F hH hL hl'
  have hat := hH.1 a hi
  rw [cellE_5 hk] at hat
  have hvt := hH.1 j hj
  rw [cellE_obj hkj] at hvt
  obtain ⟨r', hr', cellV, g1, g2, g3, -⟩ := hvt
  have ha : a < 1000 := Nat.lt_of_lt_of_le hi hH.2.2.2.2
  have hin := in_w h0 h1
  have hcls := (F.2.2.2.2.1.1 8 (RX8, TX8, 7) rfl).2
  obtain ⟨kA, comp, k1, k2, k3, -⟩ := (F.2.2.2.2.1.2 4 _ rfl).2
  have hcomp : comp = Γ.2.2.1.1 8 := Option.some.inj (k3.symm.trans hcls.1)
  subst hcomp
  obtain ⟨kC, hkC, -⟩ := hcls.2
  refine W.aast F.1.1 F.1.2.1 hat (fun q h => by cases h) (fun h => by cases h) k1 k2 rfl hkC ⟨fun q => hin (Or.inl q), by show _ < (arrV _ _ _).slots.size; rw [arrV_size]; exact Nat.not_le.mp fun q => hin (Or.inr q)⟩ g1 (fun q h => by rw [g3] at h; cases h) (by rw [g2]; exact hkC) (by rw [g2]; exact va_assign hcls) rfl rfl hd fun H1 e1 z oq => ?_
  refine kk p e s m args below meth c H1 _ ls F (hH.upd hi ?_ z oq (sR_off (cof_arr ha))) (locs_put hL) hl'
  rw [cellE_5 hk]
  show H1[Γ.1 + a]? = some (vp_cell _ _)
  rw [e1]
  show some ((arrV _ _ _).setSlot _ _) = _
  rw [vp_cell_q, arrV_store]
  refine congrArg some (congrArg (arrV _ len) (funext fun q => ?_))
  show (if q = _ then _ else _) = va_rf (Option.map _ (if a = a ∧ (q : Int) = w x then some j else μ.2.2 a (q : Int)))
  by_cases hq : q = (Int32.ofInt x).toNatClampNeg
  · rw [if_pos hq, if_pos ⟨rfl, by rw [hq]; exact clamp_w h0⟩]; rfl
  · rw [if_neg hq, if_neg (fun h => hq (by have := clamp_w h0; omega))]
theorem z_newA {idx len : Nat} (hd : decode cc pc = .ok (.anewarray idx, 3)) (hk : KT n = (5, len)) (hn : n < 1000) (hw : Cond.classLink own idx RX8 ∈ BW) (hb : len < 1000000) (hcs : ca + 1 ≤ Y.2.2.2.1.cells ∧ sl + len ≤ Y.2.2.2.1.slots) (kk : SWQ l Γ own cc Y QQ 0 (n + 1) (ca + 1) (sl + len) (clr μ n) (pc + 3) lv (vr Γ n :: st)) : SWQ l Γ own cc Y QQ 0 n ca sl μ pc lv (vi (len : Int) :: st) := by
  intro p e s m args below meth c H locs ls F hH hL hl'
  have hz : H.size = Γ.1 + n := hH.2.2.1
  have ew : w (len : Int) = len := w_id (by omega) (by omega)
  have h0 : ¬ Int32.ofInt (len : Int) < 0 := fun h => by have := (ofInt_lt (y := 0)).mp h; rw [ew] at this; have : w 0 = 0 := rfl; omega
  have h1 : (Int32.ofInt (len : Int)).toNatClampNeg = len := by have := clamp_w (x := (len : Int)) (by omega); omega
  refine W.anew F.1.1 F.1.2.1 F.1.2.2.2.1 (F.1.2.2.2.2 _ hw) (va_AO.use F.2.2.2.2.2.2.2.2.2.2) rfl hd rfl h0 (by rw [h1]; omega) hcs.1 (by rw [h1]; exact hcs.2) fun cA kA comp f1 f2 f3 f4 => ?_
  rw [h1]
  generalize hH1 : H.push ({ cls := cA, slots := Array.replicate len .null, vm := .none } : Cell) = H1
  have z1 : H1.size = H.size + 1 := by rw [← hH1, Array.size_push]
  have e1 : H1[H.size]? = some (arrV cA len (fun _ => .null)) := by rw [← hH1, Array.getElem?_push_size, ← arrV_new]
  have o1 : ∀ q : Nat, q < H.size → H1[q]? = H[q]? := fun q hq => by rw [← hH1, Array.getElem?_push, if_neg (Nat.ne_of_lt hq)]
  have e4 : (Value.ref H.size) = vr Γ n := by rw [hz]; rfl
  have ec : cA = Γ.2.2.2.1 5 := by
    obtain ⟨kA', comp', -, -, -, h4⟩ := (F.2.2.2.2.1.2 4 _ rfl).2
    exact Option.some.inj (f1.symm.trans h4)
  rw [e4]
  refine kk p e s m args below meth c H1 locs ls F (hH.grow hn ?_ z1 o1) hL hl'
  rw [cellE_5 hk]
  rw [hz, ec] at e1
  show H1[Γ.1 + n]? = some (vp_cell _ _)
  rw [e1, vp_cell_q]
  refine congrArg some (congrArg (arrV _ len) (funext fun j => ?_))
  have e : (clr μ n).2.2 n (j : Int) = none := if_pos (cof_arr hn)
  show Value.null = va_rf (Option.map _ ((clr μ n).2.2 n (j : Int)))
  rw [e]
  rfl
end CallRules
