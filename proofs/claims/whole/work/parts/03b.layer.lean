/-! THE LAYER: memory by cells (numbered in the order in which the constructors make them), and the machine's walk over it. -/
abbrev Mem : Type := (Nat → Int → Int32) × (Nat → Int → Int64) × (Nat → Int → Option Nat)
/-- base address, the heap at the law's entry, classes and slots, array classes by kind, the strings' cells and their byte cells -/
abbrev Gam : Type := Nat × Heap × va_G × (Nat → ClassId) × (Nat → Nat) × (Nat → Nat)
def gid (i k : Nat) : Nat := 1000 + 128 * i + k
/-- a number as the machine's ints have it -/
def w (x : Int) : Int := (Int32.ofInt x).toInt
def b2i (b : Bool) : Int := cond b 1 0
def vi (x : Int) : Value := .int (Int32.ofInt x)
def vl (x : Int64) : Value := .long x
def vr (Γ : Gam) (i : Nat) : Value := .ref (Γ.1 + i)
def rI (μ : Mem) (c : Nat) (j : Int) : Int := (μ.1 c j).toInt
def rB (μ : Mem) (c : Nat) (j : Int) : Bool := decide (¬ μ.1 c j = 0)
def rL (μ : Mem) (c : Nat) (j : Int) : Int64 := μ.2.1 c j
def rR (μ : Mem) (c : Nat) (j : Int) : Option Nat := μ.2.2 c j
def sI (μ : Mem) (c : Nat) (j : Int) (v : Int) : Mem := (fun a k => if a = c ∧ k = j then Int32.ofInt v else μ.1 a k, μ.2.1, μ.2.2)
def sB (μ : Mem) (c : Nat) (j : Int) (v : Bool) : Mem := sI μ c j (b2i v)
def sL (μ : Mem) (c : Nat) (j : Int) (v : Int64) : Mem := (μ.1, fun a k => if a = c ∧ k = j then v else μ.2.1 a k, μ.2.2)
def sR (μ : Mem) (c : Nat) (j : Int) (v : Option Nat) : Mem := (μ.1, μ.2.1, fun a k => if a = c ∧ k = j then v else μ.2.2 a k)
/-- the cell that a number of the memory belongs to -/
def cof (q : Nat) : Nat := if q < 1000 then q else (q - 1000) / 128
/-- a new cell: all of it at its first values -/
def clr (μ : Mem) (i : Nat) : Mem := (fun a k => if cof a = i then 0 else μ.1 a k, fun a k => if cof a = i then 0 else μ.2.1 a k, fun a k => if cof a = i then none else μ.2.2 a k)
def fval (z : Nat) (μ : Mem) (i k ty : Nat) : Value := match ty with
  | 0 => .int (μ.1 (gid i k) 0)
  | 1 => .int (if μ.1 (gid i k) 0 = 0 then 0 else 1)
  | 2 => .long (μ.2.1 (gid i k) 0)
  | _ => va_rf ((μ.2.2 (gid i k) 0).map (fun j => z + j))
def flds (z : Nat) (μ : Mem) (i ci : Nat) : List Value := (List.range (NF ci)).map fun k => fval z μ i k (fty ci k)
def cellE (Γ : Gam) (μ : Mem) (i : Nat) : va_E := match KT i with
  | (0, ci) => .inr (ci, flds Γ.1 μ i ci)
  | (1, n) => .inl (Γ.2.2.2.1 1, n, .inl (fun j => μ.1 i (j : Int)))
  | (2, n) => .inl (Γ.2.2.2.1 2, n, .inr (.inl (fun j => μ.2.1 i (j : Int))))
  | (3, n) => .inl (Γ.2.2.2.1 3, n, .inl (fun j => μ.1 i (j : Int)))
  | (4, n) => .inl (Γ.2.2.2.1 4, n, .inl (fun j => if μ.1 i (j : Int) = 0 then 0 else 1))
  | (_, n) => .inl (Γ.2.2.2.1 5, n, .inr (.inr (.inr (.inr (fun j => (μ.2.2 i (j : Int)).map (fun q => Γ.1 + q))))))
def tysOf (Γ : Gam) : List (ClassId × FieldType) := [(Γ.2.2.2.1 1, .int), (Γ.2.2.2.1 2, .long), (Γ.2.2.2.1 3, .byte), (Γ.2.2.2.1 4, .boolean), (Γ.2.2.2.1 5, .object RX8)]
/-- the heap holds the memory: n cells, g further ones that nothing reads -/
def HW (Γ : Gam) (n g : Nat) (μ : Mem) (H : Heap) : Prop := (∀ i : Nat, i < n → va_at Γ.2.2.1 vwCl (Γ.1 + i, cellE Γ μ i) H) ∧ Γ.2.1.size = Γ.1 ∧ H.size = Γ.1 + n + g ∧ (∀ q : Nat, q < Γ.1 → H[q]? = Γ.2.1[q]?) ∧ n ≤ 1000
def sLen (i : Nat) : Nat := (TXL.getD i []).length
def sChr (i : Nat) (j : Int) : Int := (((TXL.getD i []).getD j.toNat 0 : Nat) : Int)
/-- what stands of the tables and of the text constants, whatever the heap -/
def KS (Γ : Gam) (U : State) : Prop :=
  va_K Γ.2.2.1 vwCl (tysOf Γ) U ∧ (∀ t ∈ NWL, va_Nw (.methodLinkNest t.1 t.2.1 t.2.2.1 t.2.2.2) U) ∧
  vk_S TXL.length (TXL.map List.length) (TXL.map fun l => l.map fun n => Int32.ofNat n) Γ.2.2.2.2.1 Γ.2.2.2.2.2 (fun q => Γ.1 ≤ q) U Γ.2.1 ∧
  (∀ t ∈ STL, vk_R t.1 t.2.1 t.2.2.1 (Γ.2.2.2.2.1 t.2.2.2) U) ∧ va_Z "java/lang/String" "COMPACT_STRINGS" "Z" (.int 1) (fun q => Γ.1 ≤ q) U Γ.2.1 ∧
  va_Zq "jdk/internal/util/Preconditions" "SIOOBE_FORMATTER" "Ljava/util/function/BiFunction;" (fun q => Γ.1 ≤ q) U Γ.2.1 ∧ va_AO RX8 U
theorem KS.moved {Γ : Gam} {s U : State} (hW : s.WarmedH U.vm) (h : KS Γ s) : KS Γ U :=
  ⟨va_K.moved hW.alike h.1, fun t ht => va_Nw.warmM hW (h.2.1 t ht), vk_S.moved hW.alike h.2.2.1, fun t ht => vk_R.warm hW (h.2.2.2.1 t ht), va_Z.moved hW.alike h.2.2.2.2.1, va_Zq.moved hW.alike h.2.2.2.2.2.1, va_AO.moved hW.alike h.2.2.2.2.2.2⟩
theorem KS.same {Γ : Gam} {s U : State} (hv : U.vm = s.vm) (h : KS Γ s) : KS Γ U :=
  ⟨va_K.moved (by rw [hv]; exact Vm.Alike.refl _) h.1, fun t ht => va_Nw.same rfl hv.symm (h.2.1 t ht), vk_S.moved (by rw [hv]; exact Vm.Alike.refl _) h.2.2.1, fun t ht => vk_R.same hv (h.2.2.2.1 t ht), va_Z.moved (by rw [hv]; exact Vm.Alike.refl _) h.2.2.2.2.1, va_Zq.moved (by rw [hv]; exact Vm.Alike.refl _) h.2.2.2.2.2.1, va_AO.moved (by rw [hv]; exact Vm.Alike.refl _) h.2.2.2.2.2.2⟩
/-- what a method leaves: an answer and a memory of which 'post' holds -/
def QcOf (Γ : Gam) (n g : Nat) (post : Option Value → Mem → Prop) : Array Value → State → Outcome → State → Prop := fun _ _ o t => ∃ (v : Option Value) (μ : Mem), o = .returned v ∧ post v μ ∧ HW Γ n g μ t.heap
/-- the contract of a method over the memory -/
def CT (l : Launch) (Γ : Gam) (y : MethodName) (cc : ByteArray) (nL : Nat) (ret : Option FieldType) (fr lo mc ms : Nat) (As : List Value) (g n : Nat) (μ : Mem) (post : Option Value → Mem → Prop) : Prop :=
  Met l y (Cond.code y cc nL ret :: BW) { frames := fr, cells := mc, slots := ms, locals := lo } (va_Pc As (fun U => HW Γ n g μ U.heap ∧ KS Γ U)) (QcOf Γ (n + mc) g post) mc ms (fun q => Γ.1 ≤ q)
/-- locals, answer, name, room, cells at the end, cells and slots made -/
abbrev Yt : Type := Nat × Option FieldType × String × Room × Nat × Nat × Nat
def Fx (Γ : Gam) (own : String) (cc : ByteArray) (Y : Yt) (p : Program) (s : State) (m : MethodId) (args : Array Value) (meth : Method) (c : Code) : Prop :=
  CallFix p m c cc Y.1 s args BW own ∧ meth.sig.returnType = Y.2.1 ∧ meth.locks = false ∧ meth.name = Y.2.2.1 ∧ KS Γ s
/-- THE WALK: from here the method goes to a state of which QQ holds -/
def SWQ (l : Launch) (Γ : Gam) (own : String) (cc : ByteArray) (Y : Yt) (QQ : List Frame → Array Value → State → State → Prop) (g n ca sl : Nat) (μ : Mem) (pc : Nat) (lv : List (Nat × Value)) (st : List Value) : Prop :=
  ∀ (p : Program) (e : Env) (s : State) (m : MethodId) (args : Array Value) (below : List Frame) (meth : Method) (c : Code) (H : Heap) (locs : List Loc) (ls : Array Slot),
    Fx Γ own cc Y p s m args meth c → HW Γ n g μ H → (∀ q ∈ locs, Γ.1 ≤ q.base) → lv_has ls Y.1 lv →
    W p l e Y.2.2.2.1 s m args below meth c H locs ca sl (QQ below args s) (F0 m pc ls st)
/-- to the method's end, with an answer and a memory of which 'post' holds -/
abbrev SW (l : Launch) (Γ : Gam) (own : String) (cc : ByteArray) (Y : Yt) (post : Option Value → Mem → Prop) (g n ca sl : Nat) (μ : Mem) (pc : Nat) (lv : List (Nat × Value)) (st : List Value) : Prop :=
  SWQ l Γ own cc Y (fun below args s => MQ below (QcOf Γ Y.2.2.2.2.1 g post) args s Y.2.2.2.2.2.1 Y.2.2.2.2.2.2 (fun q => Γ.1 ≤ q)) g n ca sl μ pc lv st
-- numbers
theorem w_def (x : Int) : w x = (x + 2147483648) % 4294967296 - 2147483648 := by
  unfold w
  rw [Int32.toInt_ofInt]
  show Int.bmod x 4294967296 = _
  rw [Int.bmod_def]
  omega
theorem w_ofInt (x : Int) : (Int32.ofInt x).toInt = w x := rfl
theorem w_rng (x : Int) : -2147483648 ≤ w x ∧ w x < 2147483648 := by rw [w_def]; omega
theorem w_id {x : Int} (h1 : -2147483648 ≤ x) (h2 : x < 2147483648) : w x = x := by rw [w_def]; omega
theorem rI_rng (μ : Mem) (c : Nat) (j : Int) : -2147483648 ≤ rI μ c j ∧ rI μ c j < 2147483648 := ⟨Int32.le_toInt _, Int32.toInt_lt _⟩
theorem w_rI (μ : Mem) (c : Nat) (j : Int) : w (rI μ c j) = rI μ c j := w_id (rI_rng μ c j).1 (rI_rng μ c j).2
theorem w_w (x : Int) : w (w x) = w x := w_id (w_rng x).1 (w_rng x).2
theorem w_b2i (b : Bool) : w (b2i b) = b2i b := by cases b <;> rfl
theorem ofInt_w (x : Int) : Int32.ofInt (w x) = Int32.ofInt x := by rw [← w_ofInt, Int32.ofInt_toInt]
theorem ofInt_lt {x y : Int} : Int32.ofInt x < Int32.ofInt y ↔ w x < w y := by rw [Int32.lt_iff_toInt_lt, w_ofInt, w_ofInt]
theorem ofInt_le {x y : Int} : Int32.ofInt x ≤ Int32.ofInt y ↔ w x ≤ w y := by rw [Int32.le_iff_toInt_le, w_ofInt, w_ofInt]
theorem ofInt_eq {x y : Int} : Int32.ofInt x = Int32.ofInt y ↔ w x = w y := by rw [← Int32.toInt_inj, w_ofInt, w_ofInt]
theorem vi_rI (μ : Mem) (c : Nat) (j : Int) : vi (rI μ c j) = .int (μ.1 c j) := by unfold vi rI; rw [Int32.ofInt_toInt]
theorem vi_rB (μ : Mem) (c : Nat) (j : Int) : vi (b2i (rB μ c j)) = .int (if μ.1 c j = 0 then 0 else 1) := by
  unfold vi rB b2i
  by_cases h : μ.1 c j = 0 <;> simp [h] <;> rfl
theorem clamp_w {x : Int} (h : 0 ≤ w x) : (((Int32.ofInt x).toNatClampNeg : Nat) : Int) = w x := by
  show (((Int32.ofInt x).toInt.toNat : Nat) : Int) = w x
  rw [w_ofInt, Int.toNat_of_nonneg h]
theorem in_w {x : Int} {n : Nat} (h0 : 0 ≤ w x) (h1 : w x < n) : vp_in (Int32.ofInt x) n := by
  have h2 := clamp_w h0
  rintro (h | h)
  · have := Int32.lt_iff_toInt_lt.mp h
    rw [w_ofInt] at this
    have h3 : (0 : Int32).toInt = 0 := rfl
    omega
  · omega
-- memory: fields and cells
theorem vp_flds {z : Nat} {μ : Mem} {i ci k : Nat} (h : k < NF ci) : vp_V (flds z μ i ci) k = fval z μ i k (fty ci k) := by
  unfold vp_V flds
  simp [List.getD, h]
theorem flds_len {z : Nat} {μ : Mem} {i ci : Nat} : (flds z μ i ci).length = NF ci := by simp [flds]
theorem flds_get {z : Nat} {μ : Mem} {i ci k : Nat} (h : k < NF ci) : (flds z μ i ci)[k]? = some (fval z μ i k (fty ci k)) := by
  simp [flds, h]
theorem cellE_obj {Γ : Gam} {μ : Mem} {i ci : Nat} (h : KT i = (0, ci)) : cellE Γ μ i = .inr (ci, flds Γ.1 μ i ci) := by unfold cellE; rw [h]; rfl
theorem cellE_1 {Γ : Gam} {μ : Mem} {i n : Nat} (h : KT i = (1, n)) : cellE Γ μ i = .inl (Γ.2.2.2.1 1, n, .inl (fun j => μ.1 i (j : Int))) := by unfold cellE; rw [h]; rfl
theorem cellE_2 {Γ : Gam} {μ : Mem} {i n : Nat} (h : KT i = (2, n)) : cellE Γ μ i = .inl (Γ.2.2.2.1 2, n, .inr (.inl (fun j => μ.2.1 i (j : Int)))) := by unfold cellE; rw [h]; rfl
theorem cellE_3 {Γ : Gam} {μ : Mem} {i n : Nat} (h : KT i = (3, n)) : cellE Γ μ i = .inl (Γ.2.2.2.1 3, n, .inl (fun j => μ.1 i (j : Int))) := by unfold cellE; rw [h]; rfl
theorem cellE_4 {Γ : Gam} {μ : Mem} {i n : Nat} (h : KT i = (4, n)) : cellE Γ μ i = .inl (Γ.2.2.2.1 4, n, .inl (fun j => if μ.1 i (j : Int) = 0 then 0 else 1)) := by unfold cellE; rw [h]; rfl
theorem cellE_5 {Γ : Gam} {μ : Mem} {i n : Nat} (h : KT i = (5, n)) : cellE Γ μ i = .inl (Γ.2.2.2.1 5, n, .inr (.inr (.inr (.inr (fun j => (μ.2.2 i (j : Int)).map (fun q => Γ.1 + q)))))) := by unfold cellE; rw [h]; rfl
/-- two memories that agree on all that belongs to a cell -/
theorem cellE_congr {Γ : Gam} {μ ν : Mem} {i : Nat} (h : ∀ (q : Nat) (j : Int), cof q = i → μ.1 q j = ν.1 q j ∧ μ.2.1 q j = ν.2.1 q j ∧ μ.2.2 q j = ν.2.2 q j) (hi : i < 1000) (hf : ∀ ci : Nat, KT i = (0, ci) → NF ci ≤ 128) : cellE Γ μ i = cellE Γ ν i := by
  have hc : cof i = i := by unfold cof; rw [if_pos hi]
  have hA : ∀ j : Int, μ.1 i j = ν.1 i j := fun j => (h i j hc).1
  have hB : ∀ j : Int, μ.2.1 i j = ν.2.1 i j := fun j => (h i j hc).2.1
  have hC : ∀ j : Int, μ.2.2 i j = ν.2.2 i j := fun j => (h i j hc).2.2
  unfold cellE
  split
  · rename_i ci hk
    have hN := hf ci hk
    congr 2
    unfold flds
    refine List.map_congr_left fun k hk => ?_
    have hk := List.mem_range.mp hk
    have hg : cof (gid i k) = i := by unfold cof gid; rw [if_neg (by omega)]; omega
    obtain ⟨e1, e2, e3⟩ := h (gid i k) 0 hg
    unfold fval
    split <;> simp only [e1, e2, e3]
  all_goals simp only [hA, hB, hC]
theorem NF_le (ci : Nat) : NF ci ≤ 128 := by
  unfold NF
  rcases Nat.lt_or_ge ci 13 with h | h
  · have : ∀ c : Fin 13, ((FTL.getD c.1 []).length) ≤ 128 := by decide +kernel
    exact this ⟨ci, h⟩
  · have : FTL.getD ci [] = [] := by
      rw [List.getD_eq_getElem?_getD, List.getElem?_eq_none (by exact h)]; rfl
    rw [this]; decide
/-- one cell is written -/
theorem HW.upd {Γ : Gam} {n g : Nat} {μ ν : Mem} {H H1 : Heap} {i : Nat} (h : HW Γ n g μ H) (hi : i < n) (he : va_at Γ.2.2.1 vwCl (Γ.1 + i, cellE Γ ν i) H1) (z : H1.size = H.size) (oq : ∀ q : Nat, q ≠ Γ.1 + i → H1[q]? = H[q]?)
    (hs : ∀ (q : Nat) (j : Int), cof q ≠ i → μ.1 q j = ν.1 q j ∧ μ.2.1 q j = ν.2.1 q j ∧ μ.2.2 q j = ν.2.2 q j) : HW Γ n g ν H1 := by
  obtain ⟨h1, h2, h3, h4, h5⟩ := h
  refine ⟨fun k hk => ?_, h2, z.trans h3, fun q hq => (oq q (by omega)).trans (h4 q hq), h5⟩
  by_cases hki : k = i
  · subst hki; exact he
  · have e : cellE Γ ν k = cellE Γ μ k := (cellE_congr (fun q j hq => hs q j (by omega)) (by omega) (fun ci _ => NF_le ci)).symm
    rw [e]
    exact (h1 k hk).kept (oq (Γ.1 + k) (by omega))
theorem cof_gid {i k : Nat} (hk : k < 128) : cof (gid i k) = i := by unfold cof gid; rw [if_neg (by omega)]; omega
theorem cof_arr {i : Nat} (hi : i < 1000) : cof i = i := by unfold cof; rw [if_pos hi]
theorem sI_off {μ : Mem} {c : Nat} {j0 v : Int} {i : Nat} (hc : cof c = i) : ∀ (q : Nat) (j : Int), cof q ≠ i → μ.1 q j = (sI μ c j0 v).1 q j ∧ μ.2.1 q j = (sI μ c j0 v).2.1 q j ∧ μ.2.2 q j = (sI μ c j0 v).2.2 q j := by
  intro q j hq
  have : ¬ (q = c ∧ j = j0) := fun h => hq (by rw [h.1]; exact hc)
  exact ⟨by show _ = if _ then _ else _; rw [if_neg this], rfl, rfl⟩
theorem sL_off {μ : Mem} {c : Nat} {j0 : Int} {v : Int64} {i : Nat} (hc : cof c = i) : ∀ (q : Nat) (j : Int), cof q ≠ i → μ.1 q j = (sL μ c j0 v).1 q j ∧ μ.2.1 q j = (sL μ c j0 v).2.1 q j ∧ μ.2.2 q j = (sL μ c j0 v).2.2 q j := by
  intro q j hq
  have : ¬ (q = c ∧ j = j0) := fun h => hq (by rw [h.1]; exact hc)
  exact ⟨rfl, by show _ = if _ then _ else _; rw [if_neg this], rfl⟩
theorem sR_off {μ : Mem} {c : Nat} {j0 : Int} {v : Option Nat} {i : Nat} (hc : cof c = i) : ∀ (q : Nat) (j : Int), cof q ≠ i → μ.1 q j = (sR μ c j0 v).1 q j ∧ μ.2.1 q j = (sR μ c j0 v).2.1 q j ∧ μ.2.2 q j = (sR μ c j0 v).2.2 q j := by
  intro q j hq
  have : ¬ (q = c ∧ j = j0) := fun h => hq (by rw [h.1]; exact hc)
  exact ⟨rfl, rfl, by show _ = if _ then _ else _; rw [if_neg this]⟩
