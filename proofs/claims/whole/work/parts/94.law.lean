/-! THE CLAIM OUT OF ONE WALK OF THE LAW'S BODY. Your part is whole_start (and what it stands on); all else here is the same for every law, but numbers. -/
def R_law : String := "CardHallLaw"
def lw_P (b : Addr) (xs : List Int32) (args : Array Value) (s : State) : Prop := args = #[.ref b] ∧ s.IntsAt b xs ∧ xs.length ≤ 3072 ∧ (Jvm.Cond.and given_1 narrow_1).before args s = true
def lw_Q (_ : Array Value) (s : State) (o : Outcome) (t : State) : Prop := o = .returned (some (.int 1)) ∧ Framed s o t [] 601024 7293034
def lw_Z (below : List Frame) (a : Array Value) (s : State) : State → Prop := fun t => ∃ o, t.status = .running ∧ Ended t below o ∧ lw_Q a s o t
/-- the law's own end, with 1 on the stack, nothing written that was there before, its room as the claim has it -/
theorem lw_ret {p : Program} {l : Launch} {e : Env} {s : State} {m : MethodId} {below : List Frame} {meth : Method} {c : Code} {b : Nat} (hx : p.tables.exec = Jvm.exec) (hb : c.code = code) (hr : meth.sig.returnType = ret) (hlocks : meth.locks = false) {pc : Nat} {H : Heap} {ls : Array Slot} (hdg : decode code pc = .ok (.ireturn, 1)) : W p l e room_1 s m #[Value.ref b] below meth c H [] 601024 7293034 (lw_Z below #[Value.ref b] s) (F0 m pc ls [.int 1]) := by
  intro T hT X
  obtain ⟨fs, hret, hrun, hended, hW, hframe⟩ := X.leave (v := some (.int 1)) (hlocks := hlocks) (fun h => by rw [hr] at h; cases h)
  have hmeth' : T.vm.method? m = some meth := X.method'
  refine ⟨T.setFrames fs, ?_, .returned (some (.int 1)), hrun, hended, rfl, ⟨_, rfl⟩, hW, hframe⟩
  jvm_step X.here [X.here.top, hx, hb, hdg, hmeth', hr, ret, narrow_b1]
  (try refine ⟨rfl, ?_⟩); (try refine ⟨rfl, ?_⟩)
  first | (intro acts; rw [hret _ acts rfl rfl rfl]) | rw [hret _ _ rfl rfl rfl]
  exact Steps.refl _
/-- what holds at the law's entry: the machine, the code, the tables' words (any of lw_tbl by 'hts w (by decide +kernel)'), the script of L ints xs at the cell b, what the Statement gives of the start (any of its parts by flat_of_before) -/
def lw_At (p : Program) (s : State) (m : MethodId) (meth : Method) (c : Code) (b L : Nat) (xs : Nat → Int32) : Prop :=
  p.tables.exec = Jvm.exec ∧ c.code = code ∧ meth.sig.returnType = ret ∧ c.maxLocals = 7 ∧ s.vm.findClass R_law = some m.cls ∧ (∀ w ∈ lw_tbl, w.before #[Value.ref b] s = true) ∧ va_X b L xs s s.heap ∧ b < s.heap.size ∧ meth.locks = false ∧ (Jvm.Cond.and given_1 narrow_1).before #[Value.ref b] s = true

/-! THE LAW'S WALK: rules over the script, and the end -/
def PL (Γ : Gam) (b L : Nat) (xs : Nat → Int32) (args : Array Value) (s : State) : Prop := args = #[Value.ref b] ∧ va_X b L xs s s.heap ∧ Γ.2.1 = s.heap ∧ b < s.heap.size ∧ (Jvm.Cond.and given_1 narrow_1).before #[Value.ref b] s = true ∧ ∀ w ∈ lw_tbl, w.before #[Value.ref b] s = true
def QL (Γ : Gam) (b L : Nat) (xs : Nat → Int32) : List Frame → Array Value → State → State → Prop := fun below args s t => PL Γ b L xs args s → lw_Z below args s t
abbrev YL (nm : String) : Yt := (7, ret, nm, room_1, 0, 0, 0)
theorem W_triv {p : Program} {l : Launch} {e : Env} {R : Room} {s : State} {m : MethodId} {args : Array Value} {below : List Frame} {meth : Method} {c : Code} {H : Heap} {locs : List Loc} {cells slots : Nat} {Q : State → Prop} {g : JFrame} (h : ∀ t : State, Q t) : W p l e R s m args below meth c H locs cells slots Q g := fun T _ _ => ⟨_, Steps.refl _, h _⟩
theorem vi_to (x : Int32) : vi x.toInt = .int x := by
  unfold vi
  rw [Int32.ofInt_toInt]
theorem HW.va_S {Γ : Gam} {n g : Nat} {μ : Mem} {H : Heap} {locs : List Loc} (h : HW Γ n g μ H) (hL : ∀ q ∈ locs, Γ.1 ≤ q.base) : va_S (fun q => Γ.1 ≤ q) Γ.2.1 H locs :=
  ⟨by rw [h.2.1, h.2.2.1]; omega, fun q h1 h2 => h.2.2.2.1 q (by omega), fun q hq => hL q hq⟩
section LawRules
variable {l : Launch} {Γ : Gam} {cc : ByteArray} {Y : Yt} {b L : Nat} {xs : Nat → Int32} {g n ca sl : Nat} {μ : Mem} {pc : Nat} {lv : List (Nat × Value)} {st : List Value} {own : String}
theorem z_sld {i : Nat} (hi : i < L) (hL : L ≤ 3072) (hd : decode cc pc = .ok (.iaload, 1)) (kk : SWQ l Γ own cc Y (QL Γ b L xs) g n ca sl μ (pc + 1) lv (vi (xs i).toInt :: st)) : SWQ l Γ own cc Y (QL Γ b L xs) g n ca sl μ pc lv (vi (i : Int) :: .ref b :: st) := by
  intro p e s m args below meth c H locs ls F hH hL1 hl'
  by_cases hP : PL Γ b L xs args s
  · obtain ⟨-, hX, hG, hb, -⟩ := id hP
    have hS := hH.va_S hL1
    rw [hG] at hS
    have hbA : ¬ (fun q : Nat => Γ.1 ≤ q) b := by
      show ¬ Γ.1 ≤ b
      have := hH.2.1
      rw [hG] at this
      omega
    have h := kk p e s m args below meth c H locs ls F hH hL1 hl'
    rw [vi_to] at h
    have ei : (Int32.ofInt (i : Int)).toNatClampNeg = i := by
      have e1 : (Int32.ofInt (i : Int)).toInt = (i : Int) := w_id (by omega) (by omega)
      show (Int32.ofInt (i : Int)).toInt.toNat = i
      rw [e1]
      omega
    have hin : vp_in (Int32.ofInt (i : Int)) L := fun q => by
      rcases q with q | q
      · rw [Int32.lt_iff_toInt_lt] at q
        have e1 : (Int32.ofInt (i : Int)).toInt = (i : Int) := w_id (by omega) (by omega)
        rw [e1] at q
        have : (0 : Int32).toInt = 0 := rfl
        omega
      · rw [ei] at q; omega
    refine va_sld F.1.1 F.1.2.1 hX hb hbA hS hin hd ?_
    rw [ei]
    exact h
  · exact W_triv (fun t z => absurd z hP)
theorem z_slen (hd : decode cc pc = .ok (.arraylength, 1)) (kk : SWQ l Γ own cc Y (QL Γ b L xs) g n ca sl μ (pc + 1) lv (vi (L : Int) :: st)) : SWQ l Γ own cc Y (QL Γ b L xs) g n ca sl μ pc lv (.ref b :: st) := by
  intro p e s m args below meth c H locs ls F hH hL1 hl'
  by_cases hP : PL Γ b L xs args s
  · obtain ⟨-, hX, hG, hb, -⟩ := id hP
    have hS := hH.va_S hL1
    rw [hG] at hS
    have hbA : ¬ (fun q : Nat => Γ.1 ≤ q) b := by
      show ¬ Γ.1 ≤ b
      have := hH.2.1
      rw [hG] at this
      omega
    have h := kk p e s m args below meth c H locs ls F hH hL1 hl'
    refine va_slen F.1.1 F.1.2.1 hX hb hbA hS hd ?_
    exact h
  · exact W_triv (fun t z => absurd z hP)
theorem z_lend {nm : String} (hca : ca ≤ 601024) (hsl : sl ≤ 7293034) (hd : decode code pc = .ok (.ireturn, 1)) : SWQ l Γ own code (YL nm) (QL Γ b L xs) g n ca sl μ pc lv [vi 1] := by
  intro p e s m args below meth c H locs ls F hH hL1 hl'
  by_cases hP : PL Γ b L xs args s
  · obtain ⟨ha, hX, hG, hb, -⟩ := id hP
    subst ha
    have hz : Γ.1 = s.heap.size := by rw [← hG]; exact hH.2.1.symm
    refine va_forget (fun q hq => by rw [← hz]; exact hL1 q hq) ?_
    refine W.widen (k := 601024) (n := 7293034) hca hsl ?_
    have k := lw_ret (p := p) (l := l) (e := e) (s := s) (m := m) (below := below) (meth := meth) (c := c) (b := b) F.1.1 F.1.2.1 F.2.1 F.2.2.1 (pc := pc) (H := H) (ls := ls) hd
    intro T hT X
    obtain ⟨t, st1, q⟩ := k T hT X
    exact ⟨t, st1, fun _ => q⟩
  · exact W_triv (fun t z => absurd z hP)
/-- a number of the script, onto the stack -/
theorem z_arg {i : Nat} {pc1 pc2 pc3 pc4 : Nat} (k : Nat) (hi : i + k < L) (hL : L ≤ 3072) (h0 : lv[0]? = some (0, .ref b)) (h4 : lv[4]? = some (4, vi (i : Int))) (d0 : decode cc pc = .ok (.aload_n 0, 1)) (d1 : decode cc pc1 = .ok (.iload 4, 2)) (d2 : decode cc pc2 = .ok (.iconst (k : Int), 1)) (d3 : decode cc pc3 = .ok (.iadd, 1)) (d4 : decode cc pc4 = .ok (.iaload, 1)) (e1 : pc1 = pc + 1) (e2 : pc2 = pc + 3) (e3 : pc3 = pc + 4) (e4 : pc4 = pc + 5)
    (kk : SWQ l Γ own cc Y (QL Γ b L xs) g n ca sl μ (pc + 6) lv (vi (xs (i + k)).toInt :: st)) : SWQ l Γ own cc Y (QL Γ b L xs) g n ca sl μ pc lv st := by
  subst e1 e2 e3 e4
  refine z_aload_n d0 rfl 0 h0 ?_
  refine z_iload d1 4 h4 ?_
  refine z_iconst d2 ?_
  refine z_iadd d3 ?_
  rw [show (i : Int) + (k : Int) = ((i + k : Nat) : Int) by omega]
  exact z_sld hi hL d4 kk
end LawRules
theorem rg32 (x : Int32) : Rg x.toInt := ⟨Int32.le_toInt _, Int32.toInt_lt _⟩
abbrev LVL (Γ : Gam) (b : Nat) (i : Nat) : List (Nat × Value) := [(0, .ref b), (1, vr Γ 0), (2, vr Γ 113), (3, vr Γ 174), (4, vi (i : Int))]
