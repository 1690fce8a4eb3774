/-! THE START: what stands of the tables and of the texts (made by ks.py) -/
def ksFL : List Cond := flatC (Jvm.Cond.and given_1 narrow_1)
def ksMI : List Nat := [396, 398, 400, 402, 403, 405, 410, 412, 414, 418, 378, 336, 338, 339, 340, 341, 342, 344, 346, 348, 350, 352, 389, 394, 505, 507, 522, 524, 526, 288]
def ksON (i : Nat) : String := if i = 29 then "CardHall" else "CardHallModel"
def ksOF : List Nat := [292, 301, 311, 320, 331, 340, 349, 360, 370, 491, 498, 380, 390, 403, 413, 425, 435, 443, 451, 458, 466, 479, 507, 515, 522, 530, 539, 550, 558, 277]
def ksEQ : List Nat := [300, 310, 319, 330, 339, 348, 359, 369, 379, 497, 505, 389, 402, 412, 424, 434, 442, 450, 457, 465, 478, 490, 514, 521, 529, 506, 538, 549, 557, 566, 0, 0, 0, 0, 0, 0, 0, 0, 0, 0, 0, 0, 0, 0, 0, 0, 0, 0, 0, 0, 0, 0, 0, 0, 0, 0, 0, 0, 0, 0]
def ksT (i : Nat) : Term := Term.string (ksON i) (ksMI.getD i 0)
def ksV (i : Nat) : Term := Term.field (ksT i) "java/lang/String" "value" "[B"
def ksL (i : Nat) : Nat := (TXL.map List.length).getD i 0
def ksB (i j : Nat) : Int32 := ((TXL.map fun l => l.map fun n => Int32.ofNat n).getD i []).getD j 0
set_option maxRecDepth 20000 in
theorem ks_c1 : ∀ i : Fin 30, ksFL[ksOF.getD i.1 0]? = some (Cond.exactly (ksT i.1) "java/lang/String") ∧ ksFL[ksOF.getD i.1 0 + 1]? = some (Cond.eq (.field (ksT i.1) "java/lang/String" "coder" "B") (.int 0)) ∧ ksFL[ksOF.getD i.1 0 + 2]? = some (Cond.arrayOf (ksV i.1) .byte) ∧ ksFL[ksOF.getD i.1 0 + 3]? = some (Cond.eq (.length (ksV i.1)) (.int (Int32.ofNat (ksL i.1)))) := by decide +kernel
set_option maxRecDepth 20000 in
theorem ks_c2 : ∀ i : Fin 30, ∀ j : Fin 16, j.1 < ksL i.1 → ksFL[ksOF.getD i.1 0 + 4 + j.1]? = some (Cond.eq (.elem (ksV i.1) (.int (Int32.ofNat j.1))) (.int (ksB i.1 j.1))) := by decide +kernel
theorem ks_len : ∀ i : Fin 30, ksL i.1 ≤ 16 := by decide +kernel
set_option maxRecDepth 20000 in
theorem ks_c3 : ∀ k : Fin 60, (STL.getD k.1 ("", 0, "", 0)).1 = ksON (STL.getD k.1 ("", 0, "", 0)).2.2.2 ∧ (STL.getD k.1 ("", 0, "", 0)).2.1 = ksMI.getD (STL.getD k.1 ("", 0, "", 0)).2.2.2 0 ∨ ksFL[ksEQ.getD k.1 0]? = some (Cond.eq (.string (STL.getD k.1 ("", 0, "", 0)).1 (STL.getD k.1 ("", 0, "", 0)).2.1) (ksT (STL.getD k.1 ("", 0, "", 0)).2.2.2)) := by decide +kernel
theorem ks_c4 : ∀ k : Fin 60, (STL.getD k.1 ("", 0, "", 0)).2.2.2 < 30 := by decide +kernel
theorem ks_inj : ∀ i j : Fin 30, i = j ∨ Int32.ofNat (ksL i.1) ≠ Int32.ofNat (ksL j.1) ∨ ∃ k : Fin 16, k.1 < ksL i.1 ∧ k.1 < ksL j.1 ∧ ksB i.1 k.1 ≠ ksB j.1 k.1 := by decide +kernel
theorem ofF {o n d : String} {v v' : Value} {t : Nat} {A : Nat → Prop} {U : State} {H : Heap} (h : va_OF o n d v t A U H) (h' : va_OF o n d v' t A U H) : v = v' := by
  obtain ⟨cf, k, i, f, cell, a1, -, a3, -, a5, -⟩ := h
  obtain ⟨cf', k', i', f', cell', b1, -, b3, -, b5, -⟩ := h'
  cases a1.symm.trans b1
  cases a3.symm.trans b3
  exact Option.some.inj (a5.symm.trans b5)
theorem ks_txt {args : Array Value} {s : State} {A : Nat → Prop} (hf : ∀ c ∈ ksFL, c.before args s = true) (hA : ∀ a : Nat, a < s.heap.size → ¬ A a) : ∃ adK adV : Nat → Nat, vk_S TXL.length (TXL.map List.length) (TXL.map fun l => l.map fun n => Int32.ofNat n) adK adV A s s.heap ∧ ∀ i : Nat, i < 30 → (ksT i).eval args s none [] s = some (.ref (adK i)) := by
  have at' : ∀ {k : Nat} {c : Cond}, ksFL[k]? = some c → c.before args s = true := fun h => hf _ (List.mem_of_getElem? h)
  have h0 : ∀ i : Nat, ∃ q : Nat × Nat, i < 30 → (ksT i).eval args s none [] s = some (.ref q.1) ∧ va_O "java/lang/String" q.1 A s s.heap ∧ va_OF "java/lang/String" "coder" "B" (.int 0) q.1 A s s.heap ∧ va_OF "java/lang/String" "value" "[B" (.ref q.2) q.1 A s s.heap ∧ va_T .byte q.2 (ksL i) (fun j => .int (ksB i j)) A s s.heap := by
    intro i
    by_cases hi : i < 30
    · obtain ⟨w1, w2, w3, w4⟩ := ks_c1 ⟨i, hi⟩
      have hl := ks_len ⟨i, hi⟩
      simp only at w1 w2 w3 w4 hl
      obtain ⟨a, c, cA, kA, q1, q2, q3, q4, q5, q6, -⟩ := Cond.exactly_spec (args := args) (first := s) (o := none) (s := s) (idx := []) (t := ksT i) (cls := "java/lang/String") (at' w1)
      obtain ⟨t, ht, hT⟩ := va_Tof (tm := ksV i) (ty := .byte) (N := ksL i) (f := fun j => .int (ksB i j)) (A := A) (by omega) (at' w3) (va_eqt (at' w4)) (fun j hj => va_eqt (at' (ks_c2 ⟨i, hi⟩ ⟨j, by omega⟩ hj))) hA
      exact ⟨(a, t), fun _ => ⟨q1, ⟨cA, q3, q5, by rw [q6]; exact q2, hA a (Array.getElem?_eq_some_iff.mp q3).1⟩, vk_OFof q1 (va_eqt (at' w2)) hA, vk_OFof q1 ht hA, hT⟩⟩
    · exact ⟨(0, 0), fun h => absurd h hi⟩
  obtain ⟨ad, had⟩ := Classical.axiomOfChoice h0
  have tl : TXL.length = 30 := rfl
  refine ⟨fun i => (ad i).1, fun i => (ad i).2, ⟨fun i hi => (had i (by omega)).2, fun i j hi hj e => ?_⟩, fun i hi => (had i hi).1⟩
  rw [tl] at hi hj
  obtain ⟨-, -, -, vi', ti⟩ := had i hi
  obtain ⟨-, -, -, vj, tj⟩ := had j hj
  simp only at e
  rw [e] at vi'
  have ev := Value.ref.inj (ofF vi' vj)
  rw [ev] at ti
  obtain ⟨ci, a1, -, -, a4, a5, a6, -⟩ := ti
  obtain ⟨cj, b1, -, -, b4, b5, b6, -⟩ := tj
  cases a1.symm.trans b1
  rcases ks_inj ⟨i, hi⟩ ⟨j, hj⟩ with h | h | ⟨k, h1, h2, h3⟩
  · exact congrArg Fin.val h
  · exact absurd (a5.symm.trans b5) h
  · have := Option.some.inj ((a6 k.1 h1).symm.trans (b6 k.1 h2))
    exact absurd (Value.int.inj this) h3
theorem ks_arr {args : Array Value} {s : State} {ty : FieldType} (h : (Cond.arrayClass ty).before args s = true) : ∃ cA : ClassId, ArrOfT s cA ty ∧ s.vm.findClass ("[" ++ ty.toString) = some cA := by
  obtain ⟨c, k, comp, h1, h2, h3⟩ := Cond.arrayClass_spec (first := s) (o := none) (idx := []) h
  exact ⟨c, fun n z => ⟨(fun k h => by cases h), k, h2, comp, h3⟩, h1⟩
theorem ks_arrO {args : Array Value} {s : State} {C : String} (h : (Cond.arrayOver (.object C)).before args s = true) : ∃ cA : ClassId, ArrOfT s cA (.object C) ∧ va_RA s cA (.object C) := by
  obtain ⟨comp, c, k, h1, -, h2, h3, h4⟩ := Cond.arrayOver_spec (first := s) (o := none) (idx := []) h
  exact ⟨c, fun n z => ⟨(fun k h => by cases h), k, h2, comp, h3⟩, k, comp, h2, h3, h1, h4⟩
