/-! ROWS OF LINES: what an AMENDMENT does, on both sides -/
def dL : Ln := (0, 0, 0)
def fxi (n : Nat) : List Ln → Int → Int
  | [], _ => -1
  | x :: r, i => if x.1.natAbs = n then i else fxi n r (i + 1)
def doC (a : Int) (l : List Ln) (so n : Int) : List Ln :=
  if so = 0 ∧ ¬ fxi n.natAbs l 0 = -1 then l.eraseIdx (fxi n.natAbs l 0).toNat
  else if so = 1 ∧ fxi n.natAbs l 0 = -1 ∧ l.length < 12 then l ++ [(n, 0, a)]
  else if so = 2 ∧ ¬ fxi n.natAbs l 0 = -1 then l.set (fxi n.natAbs l 0).toNat (-(l.getD (fxi n.natAbs l 0).toNat dL).1, (l.getD (fxi n.natAbs l 0).toNat dL).2.1, a)
  else l
def doN (σ : Sg) (a : Int) (l : List Ln) : Nat → List Ln
  | 0 => l
  | k + 1 => doC a (doN σ a l k) (σ 120 (6 * a + (k : Int))) (σ 121 (6 * a + (k : Int)))
def doA (σ : Sg) (a : Int) (l : List Ln) : List Ln := doN σ a l (σ 119 a).toNat
theorem fxi_or (n : Nat) : ∀ (l : List Ln) (i : Int), 0 ≤ i → (fxi n l i = -1 ∧ ∀ x ∈ l, ¬ x.1.natAbs = n) ∨ (i ≤ fxi n l i ∧ fxi n l i < i + l.length ∧ (l.getD (fxi n l i - i).toNat dL).1.natAbs = n)
  | [], i, _ => Or.inl ⟨rfl, fun x hx => absurd hx (by simp)⟩
  | x :: r, i, hi => by
    unfold fxi
    by_cases c : x.1.natAbs = n
    · rw [if_pos c]
      refine Or.inr ⟨by omega, by simp only [List.length_cons]; omega, ?_⟩
      rw [show (i - i).toNat = 0 by omega]
      exact c
    · rw [if_neg c]
      rcases fxi_or n r (i + 1) (by omega) with ⟨h1, h2⟩ | ⟨h1, h2, h3⟩
      · refine Or.inl ⟨h1, fun y hy => ?_⟩
        rcases List.mem_cons.mp hy with rfl | hy
        · exact c
        · exact h2 y hy
      · refine Or.inr ⟨by omega, by simp only [List.length_cons]; omega, ?_⟩
        rw [show (fxi n r (i + 1) - i).toNat = (fxi n r (i + 1) - (i + 1)).toNat + 1 by omega, List.getD_cons_succ]
        exact h3
theorem fxi_cons (n : Nat) (x : Ln) (r : List Ln) (i : Int) : fxi n (x :: r) i = if x.1.natAbs = n then i else fxi n r (i + 1) := by
  conv => lhs; unfold fxi
theorem fxi_rng (n : Nat) (l : List Ln) : -1 ≤ fxi n l 0 ∧ fxi n l 0 < l.length := by
  rcases fxi_or n l 0 (by omega) with ⟨h1, -⟩ | ⟨h1, h2, -⟩ <;> omega
theorem drop_getD {l : List Ln} {j : Nat} (h : j < l.length) : l.drop j = l.getD j dL :: l.drop (j + 1) := by
  rw [List.drop_eq_getElem_cons h, List.getD_eq_getElem?_getD, List.getElem?_eq_getElem h]
  rfl
theorem getD_mem {l : List Ln} {j : Nat} (h : j < l.length) : l.getD j dL ∈ l := by
  rw [List.getD_eq_getElem?_getD, List.getElem?_eq_getElem h]
  exact List.getElem_mem h
theorem ln_ext {l l' : List Ln} (h : l.length = l'.length) (k : ∀ i : Nat, i < l.length → l.getD i dL = l'.getD i dL) : l = l' := by
  refine List.ext_getElem h (fun i h1 h2 => ?_)
  have := k i h1
  rw [List.getD_eq_getElem?_getD, List.getD_eq_getElem?_getD, List.getElem?_eq_getElem h1, List.getElem?_eq_getElem h2] at this
  exact this
theorem WfL.at {l : List Ln} (h : WfL l) {j : Nat} (hj : j < l.length) : 1 ≤ (l.getD j dL).1.natAbs ∧ (l.getD j dL).1.natAbs ≤ 60 ∧ b01 (l.getD j dL).2.1 ∧ -1 ≤ (l.getD j dL).2.2 ∧ (l.getD j dL).2.2 < 40 := h.2.1 _ (getD_mem hj)
/-- a row in four places: how many, numbers, must, by which -/
def RowAt (ν : Mem) (cs cn cm cb : Nat) (m b : Int) (l : List Ln) : Prop := rI ν cs m = (l.length : Int) ∧ ∀ i : Nat, i < l.length → rI ν cn (b + (i : Int)) = (l.getD i dL).1 ∧ rI ν cm (b + (i : Int)) = (l.getD i dL).2.1 ∧ rI ν cb (b + (i : Int)) = (l.getD i dL).2.2
abbrev RowC (ν : Mem) (r : Int) (l : List Ln) : Prop := RowAt ν 69 70 71 72 r (r * 12) l
abbrev RowM (ν : Mem) (l : List Ln) : Prop := RowAt ν 15533 155 156 157 0 0 l
def flL : List Nat := [69, 70, 71, 72]
/-- only this row of the class may differ -/
def RowFr (ν ξ : Mem) (r : Int) : Prop := Fr flL ν ξ ∧ (∀ m : Int, ¬ m = r → rI ξ 69 m = rI ν 69 m) ∧
  ∀ j : Int, (j < r * 12 ∨ r * 12 + 12 ≤ j) → rI ξ 70 j = rI ν 70 j ∧ rI ξ 71 j = rI ν 71 j ∧ rI ξ 72 j = rI ν 72 j
theorem RowFr.refl (ν : Mem) (r : Int) : RowFr ν ν r := ⟨FrP.refl _ _, fun _ _ => rfl, fun _ _ => ⟨rfl, rfl, rfl⟩⟩
theorem RowFr.trans {ν ξ ο : Mem} {r : Int} (h : RowFr ν ξ r) (k : RowFr ξ ο r) : RowFr ν ο r := ⟨h.1.trans k.1, fun m hm => (k.2.1 m hm).trans (h.2.1 m hm), fun j hj => ⟨(k.2.2 j hj).1.trans (h.2.2 j hj).1, (k.2.2 j hj).2.1.trans (h.2.2 j hj).2.1, (k.2.2 j hj).2.2.trans (h.2.2 j hj).2.2⟩⟩
theorem RowFr.sS {ν ξ : Mem} {r v : Int} (h : RowFr ν ξ r) : RowFr ν (sI ξ 69 r v) r := ⟨h.1.wI rfl, fun m hm => by rw [rI_sI, if_neg (fun z => hm z.2)]; exact h.2.1 m hm, fun j hj => by
  rw [rI_sI, rI_sI, rI_sI, if_neg (fun z => absurd z.1 (by decide)), if_neg (fun z => absurd z.1 (by decide)), if_neg (fun z => absurd z.1 (by decide))]; exact h.2.2 j hj⟩
theorem RowFr.sN {ν ξ : Mem} {r v i : Int} (h : RowFr ν ξ r) (hi : r * 12 ≤ i ∧ i < r * 12 + 12) : RowFr ν (sI ξ 70 i v) r := ⟨h.1.wI rfl, fun m hm => by rw [rI_sI, if_neg (fun z => absurd z.1 (by decide))]; exact h.2.1 m hm, fun j hj => by
  rw [rI_sI, rI_sI, rI_sI, if_neg (fun z => by omega), if_neg (fun z => absurd z.1 (by decide)), if_neg (fun z => absurd z.1 (by decide))]; exact h.2.2 j hj⟩
theorem RowFr.sU {ν ξ : Mem} {r v i : Int} (h : RowFr ν ξ r) (hi : r * 12 ≤ i ∧ i < r * 12 + 12) : RowFr ν (sI ξ 71 i v) r := ⟨h.1.wI rfl, fun m hm => by rw [rI_sI, if_neg (fun z => absurd z.1 (by decide))]; exact h.2.1 m hm, fun j hj => by
  rw [rI_sI, rI_sI, rI_sI, if_neg (fun z => absurd z.1 (by decide)), if_neg (fun z => by omega), if_neg (fun z => absurd z.1 (by decide))]; exact h.2.2 j hj⟩
theorem RowFr.sB {ν ξ : Mem} {r v i : Int} (h : RowFr ν ξ r) (hi : r * 12 ≤ i ∧ i < r * 12 + 12) : RowFr ν (sI ξ 72 i v) r := ⟨h.1.wI rfl, fun m hm => by rw [rI_sI, if_neg (fun z => absurd z.1 (by decide))]; exact h.2.1 m hm, fun j hj => by
  rw [rI_sI, rI_sI, rI_sI, if_neg (fun z => absurd z.1 (by decide)), if_neg (fun z => absurd z.1 (by decide)), if_neg (fun z => by omega)]; exact h.2.2 j hj⟩
theorem wabs_e {x : Int} (h : x.natAbs ≤ 1000) : w_abs x = (x.natAbs : Int) := by
  unfold w_abs
  rw [w_id (by omega) (by omega)]
  split <;> omega
theorem c_find {ν : Mem} {r : Int} (hr : 0 ≤ r ∧ r < 25) {l : List Ln} (hl : RowC ν r l) (hw : WfL l) {n : Nat} (hn : n ≤ 60) {K : Int → Mem → Prop} (h : K (fxi n l 0) ν) : f_Floor_find r (n : Int) ν K := by
  have h12 := hw.1
  unfold f_Floor_find
  refine lp1 (fun m (i : Int) => l_Floor_find_2 r (n : Int) ν K m i) (fun i => ∃ j : Nat, i = (j : Int) ∧ j ≤ l.length ∧ fxi n (l.drop j) (j : Int) = fxi n l 0) (fun i => ((l.length : Int) - i).toNat) (fun m i hJ ih => ?_) 0 ⟨0, rfl, by omega, by rw [List.drop_zero]; rfl⟩
  obtain ⟨j, rfl, hj, he⟩ := hJ
  unfold l_Floor_find_2
  rw [at_in (by omega) (by omega) (by decide), hl.1]
  simp (disch := omega) only [w_id]
  refine ite_i (fun q => ?_) (fun q => ?_)
  · have hjl : j < l.length := by omega
    have hwj := hw.at hjl
    rw [at_in (by omega) (by omega) (by decide), (hl.2 j hjl).1, wabs_e (by omega)]
    rw [drop_getD hjl, fxi_cons] at he
    simp (disch := omega) only [w_id]
    refine ite_i (fun q2 => ?_) (fun q2 => ?_)
    · rw [if_pos (by omega)] at he
      rw [he]
      exact h
    · rw [if_neg (by omega)] at he
      exact ih _ ⟨j + 1, by omega, by omega, he⟩ (by omega)
  · rw [List.drop_eq_nil_of_le (by omega)] at he
    rw [show (-1 : Int) = fxi n l 0 from he]
    exact h
theorem c_addLine {ν : Mem} {r : Int} (hr : 0 ≤ r ∧ r < 25) {l : List Ln} (hl : RowC ν r l) (h12 : l.length ≤ 12) {n u b : Int} (hn : Rg n) (hu : Rg u) (hb : Rg b) {K : Mem → Prop} (h1 : l.length < 12 → ∀ ξ : Mem, RowFr ν ξ r → RowC ξ r (l ++ [(n, u, b)]) → K ξ) (h2 : ¬ l.length < 12 → K ν) : f_Floor_addLine r n u b ν K := by
  unfold f_Floor_addLine
  intro v5 e5
  rw [at_in (by omega) (by omega) (by decide), hl.1] at e5
  rw [e5]
  simp (disch := omega) only [w_id]
  refine ite_i (fun q μ1 e1 μ2 e2 μ3 e3 μ4 e4 => ?_) (fun q => h2 (by omega))
  rw [set_in (by omega) (by omega) (by decide)] at e1 e2 e3 e4
  refine h1 (by omega) μ4 ?_ ⟨?_, fun i hi => ?_⟩
  · rw [e4, e3, e2, e1]
    exact ((((RowFr.refl ν r).sN (by omega)).sU (by omega)).sB (by omega)).sS
  · rw [e4, rI_sI, if_pos ⟨rfl, rfl⟩, w_id (by omega) (by omega)]
    simp
  · rw [e4, e3, e2, e1]
    simp only [List.length_append, List.length_cons, List.length_nil] at hi
    by_cases c : i = l.length
    · rw [c]
      simp only [rI_sI, Nat.reduceEqDiff, false_and, if_false, true_and, if_true]
      rw [w_id hn.1 hn.2, w_id hu.1 hu.2, w_id hb.1 hb.2]
      simp
    · have hil : i < l.length := by omega
      have ne : ¬ r * 12 + (i : Int) = r * 12 + (l.length : Int) := by omega
      simp only [rI_sI, Nat.reduceEqDiff, false_and, if_false, true_and, ne]
      have eg : (l ++ [(n, u, b)]).getD i dL = l.getD i dL := by
        rw [List.getD_eq_getElem?_getD, List.getD_eq_getElem?_getD, List.getElem?_append_left hil]
      rw [eg]
      exact hl.2 i hil
theorem c_turnLine {ν : Mem} {r : Int} (hr : 0 ≤ r ∧ r < 25) {l : List Ln} (hl : RowC ν r l) (hw : WfL l) {i : Nat} (hi : i < l.length) {b : Int} (hb : Rg b) {K : Mem → Prop} (h : ∀ ξ : Mem, RowFr ν ξ r → RowC ξ r (l.set i (-(l.getD i dL).1, (l.getD i dL).2.1, b)) → K ξ) : f_Floor_turnLine r (i : Int) b ν K := by
  have h12 := hw.1
  have hwi := hw.at hi
  unfold f_Floor_turnLine
  intro v4 e4 μ1 e1 μ2 e2
  rw [set_in (by omega) (by omega) (by decide)] at e1 e2
  rw [e4, at_in (by omega) (by omega) (by decide), (hl.2 i hi).1] at e1
  refine h μ2 (by rw [e2, e1, e4]; exact ((RowFr.refl ν r).sN (by omega)).sB (by omega)) ⟨?_, fun k hk => ?_⟩
  · rw [e2, e1]
    simp only [rI_sI, Nat.reduceEqDiff, false_and, if_false, List.length_set]
    exact hl.1
  · rw [e2, e1, e4]
    simp only [List.length_set] at hk
    by_cases c : k = i
    · rw [c]
      simp only [rI_sI, Nat.reduceEqDiff, false_and, if_false, true_and, if_true]
      rw [w_id hb.1 hb.2, w_id (by omega) (by omega), (hl.2 i hi).2.1, List.getD_eq_getElem?_getD (l := l.set i _), List.getElem?_set_self hi]
      exact ⟨rfl, rfl, rfl⟩
    · have ne : ¬ r * 12 + (k : Int) = r * 12 + (i : Int) := by omega
      simp only [rI_sI, Nat.reduceEqDiff, false_and, if_false, true_and, ne]
      rw [List.getD_eq_getElem?_getD (l := l.set i _), List.getElem?_set_ne (fun z => c z.symm), ← List.getD_eq_getElem?_getD]
      exact hl.2 k hk
theorem getD_eraseIdx {l : List Ln} {i k : Nat} : (l.eraseIdx i).getD k dL = if k < i then l.getD k dL else l.getD (k + 1) dL := by
  rw [List.getD_eq_getElem?_getD, List.getElem?_eraseIdx]
  split <;> rw [List.getD_eq_getElem?_getD]
theorem c_strikeLine {ν : Mem} {r : Int} (hr : 0 ≤ r ∧ r < 25) {l : List Ln} (hl : RowC ν r l) (hw : WfL l) {i : Nat} (hi : i < l.length) {K : Mem → Prop} (h : ∀ ξ : Mem, RowFr ν ξ r → RowC ξ r (l.eraseIdx i) → K ξ) : f_Floor_strikeLine r (i : Int) ν K := by
  have h12 := hw.1
  unfold f_Floor_strikeLine
  intro v3 e3 v4 e4
  rw [at_in (by omega) (by omega) (by decide), hl.1] at e3
  subst e3
  refine lp2 (fun m (q : Int) (ξ : Mem) => l_Floor_strikeLine_24 r (r * 12 + (l.length : Int) - 1) _ m q ξ) (fun q ξ => ∃ j : Nat, q = r * 12 + (j : Int) ∧ i ≤ j ∧ j + 1 ≤ l.length ∧ RowFr ν ξ r ∧ rI ξ 69 r = (l.length : Int) ∧ ∀ k : Nat, k < l.length → ((k < j → rI ξ 70 (r * 12 + (k : Int)) = ((l.eraseIdx i).getD k dL).1 ∧ rI ξ 71 (r * 12 + (k : Int)) = ((l.eraseIdx i).getD k dL).2.1 ∧ rI ξ 72 (r * 12 + (k : Int)) = ((l.eraseIdx i).getD k dL).2.2) ∧ (j ≤ k → rI ξ 70 (r * 12 + (k : Int)) = (l.getD k dL).1 ∧ rI ξ 71 (r * 12 + (k : Int)) = (l.getD k dL).2.1 ∧ rI ξ 72 (r * 12 + (k : Int)) = (l.getD k dL).2.2)))
    (fun q _ => ((r * 12 + (l.length : Int) - 1) - q).toNat) (fun m q ξ hJ ih => ?_) v4 ν ⟨i, e4, Nat.le_refl i, hi, RowFr.refl ν r, hl.1, fun k hk => ⟨fun c => by rw [getD_eraseIdx, if_pos c]; exact hl.2 k hk, fun _ => hl.2 k hk⟩⟩
  obtain ⟨j, rfl, hij, hj, hf, hs, hk⟩ := hJ
  unfold l_Floor_strikeLine_24
  simp (disch := omega) only [w_id]
  refine ite_i (fun q μ2 e2 μ3 e3' μ4 e4' => ?_) (fun q μ6 e6 => ?_)
  · have hj1 : j + 1 < l.length := by omega
    have en : r * 12 + (j : Int) + 1 = r * 12 + ((j + 1 : Nat) : Int) := by omega
    have g := (hk (j + 1) hj1).2 (by omega)
    have hwj := hw.at hj1
    have h01 : 0 ≤ (l.getD (j + 1) dL).2.1 ∧ (l.getD (j + 1) dL).2.1 ≤ 1 := by have := hwj.2.2.1; unfold b01 at this; omega
    rw [en] at e2 e3' e4' ⊢
    rw [set_in (by omega) (by omega) (by decide), at_in (by omega) (by omega) (by decide), g.1] at e2
    rw [set_in (by omega) (by omega) (by decide), at_in (by omega) (by omega) (by decide), e2, rI_sI, if_neg (fun z => absurd z.1 (by decide)), g.2.1] at e3'
    rw [set_in (by omega) (by omega) (by decide), at_in (by omega) (by omega) (by decide), e3', rI_sI, if_neg (fun z => absurd z.1 (by decide)), rI_sI, if_neg (fun z => absurd z.1 (by decide)), g.2.2] at e4'
    have f4 : RowFr ν μ4 r := by rw [e4']; exact ((hf.sN (by omega)).sU (by omega)).sB (by omega)
    have ij := getD_eraseIdx (l := l) (i := i) (k := j)
    rw [if_neg (by omega)] at ij
    refine ih _ _ ⟨j + 1, rfl, by omega, by omega, f4, ?_, fun k hkl => ⟨fun c => ?_, fun c => ?_⟩⟩ (by omega)
    · rw [e4']
      simp only [rI_sI, Nat.reduceEqDiff, false_and, if_false]
      exact hs
    · rw [e4']
      by_cases ck : k = j
      · rw [ck]
        simp only [rI_sI, Nat.reduceEqDiff, false_and, if_false, true_and, if_true]
        rw [ij, w_id (by omega) (by omega), w_id (by omega) (by omega), w_id (by omega) (by omega)]
        exact ⟨rfl, rfl, rfl⟩
      · have ne : ¬ r * 12 + (k : Int) = r * 12 + (j : Int) := by omega
        simp only [rI_sI, Nat.reduceEqDiff, false_and, if_false, true_and, ne]
        exact (hk k hkl).1 (by omega)
    · rw [e4']
      have ne : ¬ r * 12 + (k : Int) = r * 12 + (j : Int) := by omega
      simp only [rI_sI, Nat.reduceEqDiff, false_and, if_false, true_and, ne]
      exact (hk k hkl).2 (by omega)
  · have hjl : j + 1 = l.length := by omega
    rw [set_in (by omega) (by omega) (by decide), at_in (by omega) (by omega) (by decide), hs] at e6
    have el : (l.eraseIdx i).length = l.length - 1 := List.length_eraseIdx_of_lt hi
    refine h μ6 (by rw [e6]; exact hf.sS) ⟨?_, fun k hkl => ?_⟩
    · rw [e6, rI_sI, if_pos ⟨rfl, rfl⟩, w_id (by omega) (by omega), el]
      omega
    · rw [e6]
      simp only [rI_sI, Nat.reduceEqDiff, false_and, if_false]
      exact (hk k (by omega)).1 (by omega)
