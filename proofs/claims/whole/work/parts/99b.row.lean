/-! ROW: rules in one environment, and the class's method that may throw -/
def ZX (Γ : Gam) (U : State) : Prop := vx_Zq Bundle.tN "UNASSIGNED_STACK" Bundle.steD (fun q => Γ.1 ≤ q) U Γ.2.1 ∧ vx_Zq Bundle.tN "SUPPRESSED_SENTINEL" Bundle.listD (fun q => Γ.1 ≤ q) U Γ.2.1
theorem ZX.moved {Γ : Gam} {s U : State} (hW : s.WarmedH U.vm) (h : ZX Γ s) : ZX Γ U := ⟨vx_Zq.moved hW.alike h.1, vx_Zq.moved hW.alike h.2⟩
theorem ZX.same {Γ : Gam} {s U : State} (hv : U.vm = s.vm) (h : ZX Γ s) : ZX Γ U := ⟨vx_Zq.moved (by rw [hv]; exact Vm.Alike.refl _) h.1, vx_Zq.moved (by rw [hv]; exact Vm.Alike.refl _) h.2⟩
theorem HWKSX_blind {Γ : Gam} {n g : Nat} {μ : Mem} {As : List Value} : FrameBlind (va_Pc As (fun U => HW Γ n g μ U.heap ∧ KS Γ U ∧ ZX Γ U)) := fun a U gf mk q => ⟨q.1, q.2.1, KS.same (s := U) (U := U.calling gf mk a) rfl q.2.2.1, ZX.same (s := U) (U := U.calling gf mk a) rfl q.2.2.2⟩
theorem HW.more {Γ : Gam} {n g : Nat} {μ : Mem} {H H1 : Heap} (h : HW Γ n g μ H) (hs : H.size ≤ H1.size) (hq : ∀ q : Nat, q < H.size → H1[q]? = H[q]?) : HW Γ n (H1.size - Γ.1 - n) μ H1 := by
  have hz := h.2.2.1
  refine ⟨fun i hi => ?_, h.2.1, by omega, fun q hq1 => by rw [hq q (by omega)]; exact h.2.2.2.1 q hq1, h.2.2.2.2⟩
  have hP : va_P Γ.2.2.1 vwCl [(Γ.1 + i, cellE Γ μ i)] H := fun b q hq => by
    cases b with
    | zero => cases hq; exact h.1 i hi
    | succ b => simp at hq
  have hP1 := hP.kept (H1 := H1) (fun k x hx => hq x.1 ((hP k x hx).lt))
  exact hP1 0 _ rfl
section One
variable {p : Program} {l : Launch} {e : Env} {s : State} {m : MethodId} {args : Array Value} {below : List Frame} {meth : Method} {c : Code} {Γ : Gam} {R : Room} {nL : Nat} {Q : State → Prop} {n g ca sl : Nat} {μ : Mem} {pc : Nat} {lv : List (Nat × Value)} {st : List Value} {cc : ByteArray} {own : String}
def SW1 (p : Program) (l : Launch) (e : Env) (s : State) (m : MethodId) (args : Array Value) (below : List Frame) (meth : Method) (c : Code) (Γ : Gam) (R : Room) (nL : Nat) (Q : State → Prop) (g n ca sl : Nat) (μ : Mem) (pc : Nat) (lv : List (Nat × Value)) (st : List Value) : Prop :=
  ∀ (H : Heap) (locs : List Loc) (ls : Array Slot), HW Γ n g μ H → (∀ q ∈ locs, Γ.1 ≤ q.base) → lv_has ls nL lv → W p l e R s m args below meth c H locs ca sl Q (F0 m pc ls st)
theorem y_iload_n (F : CallFix p m c cc nL s args BW own) {q : Fin 4} {i : Nat} {x : Int} (hd : decode cc pc = .ok (.iload_n q, 1)) (hi : (q : Nat) = i) (j : Nat) (hj : lv[j]? = some (i, vi x)) (k : SW1 p l e s m args below meth c Γ R nL Q g n ca sl μ (pc + 1) lv (vi x :: st)) : SW1 p l e s m args below meth c Γ R nL Q g n ca sl μ pc lv st := fun H locs ls hH hL hl => lv_iload_n F.1 F.2.1 hd hi (lv_at hl j hj) (k H locs ls hH hL hl)
theorem y_rload_n (F : CallFix p m c cc nL s args BW own) {q : Fin 4} {i x : Nat} (hd : decode cc pc = .ok (.aload_n q, 1)) (hi : (q : Nat) = i) (j : Nat) (hj : lv[j]? = some (i, vr Γ x)) (k : SW1 p l e s m args below meth c Γ R nL Q g n ca sl μ (pc + 1) lv (vr Γ x :: st)) : SW1 p l e s m args below meth c Γ R nL Q g n ca sl μ pc lv st := fun H locs ls hH hL hl => lv_aload_n F.1 F.2.1 hd hi (lv_at hl j hj) (k H locs ls hH hL hl)
theorem y_iconst (F : CallFix p m c cc nL s args BW own) {x : Int} (hd : decode cc pc = .ok (.iconst x, 1)) (k : SW1 p l e s m args below meth c Γ R nL Q g n ca sl μ (pc + 1) lv (vi x :: st)) : SW1 p l e s m args below meth c Γ R nL Q g n ca sl μ pc lv st := fun H locs ls hH hL hl => lv_iconst F.1 F.2.1 hd rfl (k H locs ls hH hL hl)
theorem y_bipush (F : CallFix p m c cc nL s args BW own) {x : Int} (hd : decode cc pc = .ok (.bipush x, 2)) (hv : (Int8.ofInt x).toInt32 = Int32.ofInt x) (k : SW1 p l e s m args below meth c Γ R nL Q g n ca sl μ (pc + 2) lv (vi x :: st)) : SW1 p l e s m args below meth c Γ R nL Q g n ca sl μ pc lv st := fun H locs ls hH hL hl => lv_bipush F.1 F.2.1 hd hv (k H locs ls hH hL hl)
theorem y_if_lt (F : CallFix p m c cc nL s args BW own) {x : Int} {off : Int} {tgt : Nat} (hd : decode cc pc = .ok (.ifCond .lt off, 3)) (ht : (pc : Int) + off = (tgt : Int)) (kt : w x < 0 → SW1 p l e s m args below meth c Γ R nL Q g n ca sl μ tgt lv st) (kf : ¬ w x < 0 → SW1 p l e s m args below meth c Γ R nL Q g n ca sl μ (pc + 3) lv st) : SW1 p l e s m args below meth c Γ R nL Q g n ca sl μ pc lv (vi x :: st) := fun H locs ls hH hL hl => by
  by_cases hc : w x < 0
  · exact lv_if_lt F.1 F.2.1 hd ht (fun q => kt hc H locs ls hH hL hl) (fun q => absurd ((ofInt_lt (x := x) (y := 0)).mpr hc) (by first | exact q | (simpa using q)))
  · exact lv_if_lt F.1 F.2.1 hd ht (fun q => absurd ((ofInt_lt (x := x) (y := 0)).mp (by first | exact q | (simpa using q))) hc) (fun q => kf hc H locs ls hH hL hl)
theorem y_icmp_ge (F : CallFix p m c cc nL s args BW own) {x y : Int} {off : Int} {tgt : Nat} (hd : decode cc pc = .ok (.if_icmp .ge off, 3)) (ht : (pc : Int) + off = (tgt : Int)) (kt : w x < w y → SW1 p l e s m args below meth c Γ R nL Q g n ca sl μ (pc + 3) lv st) (kf : ¬ w x < w y → SW1 p l e s m args below meth c Γ R nL Q g n ca sl μ tgt lv st) : SW1 p l e s m args below meth c Γ R nL Q g n ca sl μ pc lv (vi y :: vi x :: st) := fun H locs ls hH hL hl => by
  by_cases hc : w x < w y
  · exact lv_icmp_ge F.1 F.2.1 hd ht (fun q => absurd ((ofInt_lt (x := x) (y := y)).mpr hc) (by first | exact q | (intro z; exact absurd q (by simpa using z)) | (simpa using q))) (fun q => kt hc H locs ls hH hL hl)
  · exact lv_icmp_ge F.1 F.2.1 hd ht (fun q => kf hc H locs ls hH hL hl) (fun q => absurd ((ofInt_lt (x := x) (y := y)).mp (by first | exact q | (simpa using q))) hc)
theorem y_icmp_lt (F : CallFix p m c cc nL s args BW own) {x y : Int} {off : Int} {tgt : Nat} (hd : decode cc pc = .ok (.if_icmp .lt off, 3)) (ht : (pc : Int) + off = (tgt : Int)) (kt : w x < w y → SW1 p l e s m args below meth c Γ R nL Q g n ca sl μ tgt lv st) (kf : ¬ w x < w y → SW1 p l e s m args below meth c Γ R nL Q g n ca sl μ (pc + 3) lv st) : SW1 p l e s m args below meth c Γ R nL Q g n ca sl μ pc lv (vi y :: vi x :: st) := fun H locs ls hH hL hl => by
  by_cases hc : w x < w y
  · exact lv_icmp_lt F.1 F.2.1 hd ht (fun q => kt hc H locs ls hH hL hl) (fun q => absurd ((ofInt_lt (x := x) (y := y)).mpr hc) (by first | exact q | (simpa using q)))
  · exact lv_icmp_lt F.1 F.2.1 hd ht (fun q => absurd ((ofInt_lt (x := x) (y := y)).mp (by first | exact q | (simpa using q))) hc) (fun q => kf hc H locs ls hH hL hl)
theorem y_getF (F : CallFix p m c cc nL s args BW own) (hK : KS Γ s) {i ci k idx ty : Nat} {C nm ds : String} {fin : Bool} (hF : FF ci k C nm ds ty fin) (hd : decode cc pc = .ok (.getfield idx, 3)) (hk : KT i = (0, ci)) (hi : i < n) (hl : Cond.fieldLink own idx C nm ds ∈ BW) (kk : SW1 p l e s m args below meth c Γ R nL Q g n ca sl μ (pc + 3) lv (fval Γ.1 μ i k ty :: st)) : SW1 p l e s m args below meth c Γ R nL Q g n ca sl μ pc lv (vr Γ i :: st) := by
  obtain ⟨T, N, ty0, h1, h2, h3, h4, h5, h6, -, -⟩ := hF
  subst h6
  intro H locs ls hH hL hl'
  have hP : va_P Γ.2.2.1 vwCl [(Γ.1 + i, .inr (ci, flds Γ.1 μ i ci))] H := by
    intro a q hq
    cases a with
    | zero => cases hq; have := hH.1 i hi; rw [cellE_obj hk] at this; exact this
    | succ a => simp at hq
  exact va_get F.1 F.2.1 F.2.2.2.2 h2 F.2.2.2.1 hK.1 hP 0 rfl h1 _ h4 (F.2.2.2.2 _ (by rw [h5]; exact hl)) (fun _ h => h) (flds_get (by rw [h3]; exact h4)) hd (kk H locs ls hH hL hl')
theorem y_callV (F : CallFix p m c cc nL s args BW own) (hK : KS Γ s) {y : MethodName} {cc' : ByteArray} {nL' fr lo na i ci idx N mc ms : Nat} {ret' : Option FieldType} {As rest : List Value} {T : u_T} {post' : Option Value → Mem → Prop} (h : CT l Γ y cc' nL' ret' fr lo mc ms (vr Γ i :: As) g n μ post') (hM : VOK y cc' nL' ret' na) (hk : KT i = (0, ci)) (hi : i < n) (hc : vwCl[ci]? = some (y.cls, T, N)) (hl : Cond.methodLink own idx y ∈ BW)
    (hR : fr + 1 ≤ R.frames ∧ 8 + (nL' + 11) + lo ≤ R.locals) (hcs : ca + mc ≤ R.cells ∧ sl + ms ≤ R.slots) (hna : As.length = na) (hst : st = As.reverse ++ vr Γ i :: rest) (hW : (rest.map fun v => v.category).sum ≤ 8) (hd : decode cc pc = .ok (.invokevirtual idx, 3))
    (kk : ∀ v ν, post' v ν → SW1 p l e s m args below meth c Γ R nL Q g (n + mc) (ca + mc) (sl + ms) ν (pc + 3) lv (v.toList ++ rest)) : SW1 p l e s m args below meth c Γ R nL Q g n ca sl μ pc lv st := by
  subst hst
  intro H locs ls hH hL hl'
  obtain ⟨⟨hM1, hM2, hM3⟩, hM4, hM5⟩ := hM
  refine run_W (va_runV F h (cwV na F.2.2.2.2 (BW_in ?_) rfl rfl rfl ⟨rfl, hM3⟩ hR) ⟨HWKS_blind, HW.recv hK.1 hH hk hi hc, fun U hU hWm => ⟨rfl, by rw [hU]; exact hH, KS.moved hWm hK⟩⟩ rfl hna hl'.1 rfl (lv_room hW) hd hcs) hL (fun v ν H1 locs1 hp h1 h2 => kk v ν hp H1 locs1 ls h1 h2 hl')
  intro w hw
  simp only [wsV, List.mem_append, List.mem_cons, List.not_mem_nil, or_false] at hw
  rcases hw with (rfl | rfl | rfl | rfl) | rfl | hw
  · exact hl
  · exact hM4
  · exact hM5
  · exact hM2
  · exact hM1
  · exact hw
end One
