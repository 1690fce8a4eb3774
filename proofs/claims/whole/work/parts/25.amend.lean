/-! AN AMENDMENT DONE ON A ROW, on both sides -/
theorem map_eraseIdx_sub {l : List Ln} {i : Nat} : List.Sublist ((l.eraseIdx i).map fun x : Ln => x.1.natAbs) (l.map fun x : Ln => x.1.natAbs) := (List.eraseIdx_sublist l i).map _
theorem WfL_erase {l : List Ln} (h : WfL l) (i : Nat) : WfL (l.eraseIdx i) := by
  refine ⟨Nat.le_trans (List.eraseIdx_sublist l i).length_le h.1, fun x hx => h.2.1 x (List.mem_of_mem_eraseIdx hx), h.2.2.sublist map_eraseIdx_sub⟩
theorem WfL_add {l : List Ln} (h : WfL l) {n u b : Int} (hl : l.length < 12) (hn : 1 ≤ n.natAbs ∧ n.natAbs ≤ 60) (hu : b01 u) (hb : -1 ≤ b ∧ b < 40) (hf : ∀ x ∈ l, ¬ x.1.natAbs = n.natAbs) : WfL (l ++ [(n, u, b)]) := by
  refine ⟨by simp; omega, fun x hx => ?_, ?_⟩
  · rcases List.mem_append.mp hx with hx | hx
    · exact h.2.1 x hx
    · have : x = (n, u, b) := by simpa using hx
      subst this
      exact ⟨hn.1, hn.2, hu, hb.1, hb.2⟩
  · rw [List.map_append, List.nodup_append]
    refine ⟨h.2.2, by simp, fun a ha b' hb' => ?_⟩
    have hb2 : b' = n.natAbs := by simpa using hb'
    obtain ⟨x, hx, rfl⟩ := List.mem_map.mp ha
    rw [hb2]
    exact hf x hx
theorem WfL_set {l : List Ln} (h : WfL l) {i : Nat} (hi : i < l.length) {b : Int} (hb : -1 ≤ b ∧ b < 40) : WfL (l.set i (-(l.getD i dL).1, (l.getD i dL).2.1, b)) := by
  have hwi := h.at hi
  refine ⟨by rw [List.length_set]; exact h.1, fun x hx => ?_, ?_⟩
  · rcases List.mem_or_eq_of_mem_set hx with hx | rfl
    · exact h.2.1 x hx
    · exact ⟨by show 1 ≤ (-(l.getD i dL).1).natAbs; omega, by show (-(l.getD i dL).1).natAbs ≤ 60; omega, hwi.2.2.1, hb.1, hb.2⟩
  · have e : (l.set i (-(l.getD i dL).1, (l.getD i dL).2.1, b)).map (fun x : Ln => x.1.natAbs) = l.map (fun x : Ln => x.1.natAbs) := by
      refine List.ext_getElem (by simp) (fun k h1 h2 => ?_)
      have hk : k < l.length := by simpa using h2
      rw [List.getElem_map, List.getElem_map]
      by_cases c : i = k
      · subst c
        rw [List.getElem_set_self]
        show (-(l.getD i dL).1).natAbs = _
        rw [List.getD_eq_getElem?_getD, List.getElem?_eq_getElem hk]
        show (-(l[i]).1).natAbs = (l[i]).1.natAbs
        omega
      · rw [List.getElem_set_ne c]
    rw [e]
    exact h.2.2
theorem WfL_doC {a : Int} {l : List Ln} (h : WfL l) {so n : Int} (hn : 1 ≤ n.natAbs ∧ n.natAbs ≤ 60) (ha : 0 ≤ a ∧ a < 40) : WfL (doC a l so n) := by
  unfold doC
  by_cases c1 : so = 0 ∧ ¬ fxi n.natAbs l 0 = -1
  · rw [if_pos c1]; exact WfL_erase h _
  · rw [if_neg c1]
    by_cases c2 : so = 1 ∧ fxi n.natAbs l 0 = -1 ∧ l.length < 12
    · rw [if_pos c2]
      refine WfL_add h c2.2.2 hn (Or.inl rfl) (by omega) ?_
      rcases fxi_or n.natAbs l 0 (by omega) with ⟨-, h2⟩ | ⟨h1, -, -⟩
      · exact h2
      · omega
    · rw [if_neg c2]
      by_cases c3 : so = 2 ∧ ¬ fxi n.natAbs l 0 = -1
      · rw [if_pos c3]
        have hr := fxi_rng n.natAbs l
        exact WfL_set h (by omega) (by omega)
      · rw [if_neg c3]; exact h
/-- the changes of an AMENDMENT, as a reader has them in three places -/
def ChW (σ : Sg) (a : Int) : Prop := 1 ≤ σ 119 a ∧ σ 119 a ≤ 6 ∧ ∀ i : Int, 0 ≤ i → i < σ 119 a → 0 ≤ σ 120 (6 * a + i) ∧ σ 120 (6 * a + i) ≤ 2 ∧ 1 ≤ (σ 121 (6 * a + i)).natAbs ∧ (σ 121 (6 * a + i)).natAbs ≤ 60
def ChA (σ : Sg) (ν : Mem) (a : Int) : Prop := rI ν 15 a = σ 119 a ∧ ∀ i : Int, 0 ≤ i → i < σ 119 a → rI ν 16 (6 * a + i) = σ 120 (6 * a + i) ∧ rI ν 17 (6 * a + i) = σ 121 (6 * a + i)
theorem Ic.chW {σ : Sg} {μ : Mem} (h : Ic σ μ) {a : Int} (h0 : 0 ≤ a) (h1 : a < σ 15474 0) : ChW σ a ∧ ChA σ μ a := by
  have h2 := h.relP
  unfold RelP at h2
  obtain ⟨-, -, -, -, -, -, -, -, -, -, k, -⟩ := h2
  obtain ⟨-, -, -, k4, k5, k6, k7⟩ := k a h0 h1
  exact ⟨⟨k5, k6, fun i i0 i1 => by obtain ⟨-, z1, z2, -, z3, z4⟩ := k7 i i0 i1; exact ⟨z1, z2, z3, z4⟩⟩, ⟨k4, fun i i0 i1 => by obtain ⟨z0, -, -, z1, -, -⟩ := k7 i i0 i1; exact ⟨z0, z1⟩⟩⟩
theorem WfL_doN {σ : Sg} {a : Int} (hc : ChW σ a) (ha : 0 ≤ a ∧ a < 40) {l : List Ln} (h : WfL l) : ∀ k : Nat, (k : Int) ≤ σ 119 a → WfL (doN σ a l k)
  | 0, _ => h
  | k + 1, hk => by
    have := hc.2.2 (k : Int) (by omega) (by omega)
    exact WfL_doC (WfL_doN hc ha h k (by omega)) ⟨this.2.2.1, this.2.2.2⟩ ha
theorem WfL_doA {σ : Sg} {a : Int} (hc : ChW σ a) (ha : 0 ≤ a ∧ a < 40) {l : List Ln} (h : WfL l) : WfL (doA σ a l) := WfL_doN hc ha h _ (by have := hc.1; omega)
theorem ChA.fr {L : List Nat} {σ : Sg} {ν ξ : Mem} {a : Int} (h : ChA σ ν a) (f : Fr L ν ξ) (hL : (lel L 15 || lel L 16 || lel L 17) = false) : ChA σ ξ a := by
  simp only [Bool.or_eq_false_iff] at hL
  obtain ⟨⟨l1, l2⟩, l3⟩ := hL
  exact ⟨by rw [f.rdI l1]; exact h.1, fun i i0 i1 => by rw [f.rdI l2, f.rdI l3]; exact h.2 i i0 i1⟩
theorem c_amendRow {σ : Sg} {ν : Mem} {r a : Int} (hr : 0 ≤ r ∧ r < 25) (ha : 0 ≤ a ∧ a < 40) {l : List Ln} (hl : RowC ν r l) (hw : WfL l) (hc : ChW σ a) (hA : ChA σ ν a) {K : Mem → Prop} (h : ∀ ξ : Mem, RowFr ν ξ r → RowC ξ r (doA σ a l) → K ξ) : f_Floor_amendRow r a ν K := by
  obtain ⟨hc1, hc2, hc3⟩ := hc
  unfold f_Floor_amendRow
  intro v3 e3
  subst e3
  refine lp2 (fun m (q : Int) (ξ : Mem) => l_Floor_amendRow_8 r a (a * 6) _ m q ξ) (fun q ξ => ∃ k : Nat, q = a * 6 + (k : Int) ∧ (k : Int) ≤ σ 119 a ∧ RowFr ν ξ r ∧ RowC ξ r (doN σ a l k)) (fun q _ => (a * 6 + 7 - q).toNat) (fun m q ξ hJ ih => ?_) (a * 6) ν ⟨0, by omega, by omega, RowFr.refl ν r, hl⟩
  obtain ⟨k, rfl, hk, hf, hrow⟩ := hJ
  have hAξ := hA.fr hf.1 rfl
  have hwk := WfL_doN (σ := σ) ⟨hc1, hc2, hc3⟩ ha hw k hk
  have h12 := hwk.1
  unfold l_Floor_amendRow_8
  rw [at_in (by omega) (by omega) (by decide), hAξ.1]
  try simp (disch := omega) only [w_id]
  refine ite_i (fun q v5 e5 v6 e6 => ?_) (fun q => ?_)
  · have ck := hc3 (k : Int) (by omega) (by omega)
    have ek : a * 6 + (k : Int) = 6 * a + (k : Int) := by omega
    rw [ek, at_in (by omega) (by omega) (by decide), (hAξ.2 (k : Int) (by omega) (by omega)).1] at e5
    rw [ek, at_in (by omega) (by omega) (by decide), (hAξ.2 (k : Int) (by omega) (by omega)).2] at e6
    have nx : ∀ ο : Mem, RowFr ξ ο r → RowC ο r (doN σ a l (k + 1)) → l_Floor_amendRow_8 r a (a * 6) (fun (μ_8 : Mem) => K μ_8) m (a * 6 + (k : Int) + 1) ο := fun ο fo ro => ih _ _ ⟨k + 1, by omega, by omega, hf.trans fo, ro⟩ (by omega)
    unfold doN doC at nx
    generalize hso : σ 120 (6 * a + (k : Int)) = so at *
    generalize hnn : σ 121 (6 * a + (k : Int)) = n at *
    generalize hll : doN σ a l k = lk at *
    rw [e5, e6, wabs_e (by omega)]
    refine c_find hr hrow hwk (by omega) ?_
    have hfr := fxi_rng n.natAbs lk
    generalize hi : fxi n.natAbs lk 0 = i at *
    have e111 : ∀ vv : Int, (¬ (so = 0 ∧ ¬ i = -1)) → (¬ (so = 1 ∧ i = -1 ∧ lk.length < 12)) → b_Floor_amendRow_111 (l_Floor_amendRow_8 r a (a * 6) (fun (μ_8 : Mem) => K μ_8) m) r a (a * 6) (a * 6 + (k : Int)) so i ξ := fun _ n1 n2 => by
      unfold b_Floor_amendRow_111
      try simp (disch := omega) only [w_id]
      refine ite_i (fun c1 => ite_i (fun c2 => ?_) (fun c2 => ?_)) (fun c1 => ?_)
      · refine nx ξ (RowFr.refl ξ r) ?_
        rw [if_neg n1, if_neg n2, if_neg (fun z => z.2 c2)]
        exact hrow
      · have ei : i = ((i.toNat : Nat) : Int) := by omega
        rw [ei]
        refine c_turnLine hr hrow hwk (by omega) ⟨by omega, by omega⟩ (fun ο fo ro => ?_)
        refine nx ο fo ?_
        rw [if_neg n1, if_neg n2, if_pos ⟨c1, c2⟩]
        exact ro
      · refine nx ξ (RowFr.refl ξ r) ?_
        rw [if_neg n1, if_neg n2, if_neg (fun z => c1 z.1)]
        exact hrow
    have e90 : (¬ (so = 1 ∧ i = -1 ∧ lk.length < 12)) → b_Floor_amendRow_90 (l_Floor_amendRow_8 r a (a * 6) (fun (μ_8 : Mem) => K μ_8) m) r a (a * 6) (a * 6 + (k : Int)) so i ξ := fun n2 => by
      unfold b_Floor_amendRow_90
      try simp (disch := omega) only [w_id]
      refine ite_i (fun c1 => ite_i (fun c2 => ?_) (fun c2 => ?_)) (fun c1 => ?_)
      · exact e111 0 (fun z => z.2 c2) n2
      · have ei : i = ((i.toNat : Nat) : Int) := by omega
        have ei2 : ((i.toNat : Nat) : Int).toNat = i.toNat := by omega
        rw [ei]
        refine c_strikeLine hr hrow hwk (by omega) (fun ο fo ro => ?_)
        refine nx ο fo ?_
        rw [if_pos ⟨c1, c2⟩]
        exact ro
      · exact e111 0 (fun z => c1 z.1) n2
    try simp (disch := omega) only [w_id]
    refine ite_i (fun c1 => ite_i (fun c2 => ?_) (fun c2 => ?_)) (fun c1 => ?_)
    · refine c_addLine hr hrow hwk.1 ⟨by omega, by omega⟩ ⟨by omega, by omega⟩ ⟨by omega, by omega⟩ (fun c3 ο fo ro => ?_) (fun c3 => ?_)
      · refine nx ο fo ?_
        rw [if_neg (fun z => z.2 c2), if_pos ⟨c1, c2, c3⟩]
        exact ro
      · refine nx ξ (RowFr.refl ξ r) ?_
        rw [if_neg (fun z => z.2 c2), if_neg (fun z => c3 z.2.2), if_neg (fun z => z.2 c2)]
        exact hrow
    · exact e90 (fun z => c2 z.2.1)
    · exact e90 (fun z => c1 z.1)
  · have e : (σ 119 a).toNat = k := by omega
    refine h ξ hf ?_
    unfold doA
    rw [e]
    exact hrow
-- the model's scratch row
def rmL : List Nat := [15533, 155, 156, 157]
theorem b2i_01 {v : Int} (h : b01 v) : b2i (decide (¬ v = 0)) = v := by
  rcases h with rfl | rfl <;> rfl
theorem RowM.n {ν : Mem} {l : List Ln} (h : RowM ν l) : rI ν 15533 0 = (l.length : Int) := h.1
theorem RowM.at {ν : Mem} {l : List Ln} (h : RowM ν l) {i : Nat} (hi : i < l.length) : rI ν 155 (i : Int) = (l.getD i dL).1 ∧ rI ν 156 (i : Int) = (l.getD i dL).2.1 ∧ rI ν 157 (i : Int) = (l.getD i dL).2.2 := by
  have := h.2 i hi
  simp only [Int.zero_add] at this
  exact this
theorem RowM.mk {ν : Mem} {l : List Ln} (h : rI ν 15533 0 = (l.length : Int)) (k : ∀ i : Nat, i < l.length → rI ν 155 (i : Int) = (l.getD i dL).1 ∧ rI ν 156 (i : Int) = (l.getD i dL).2.1 ∧ rI ν 157 (i : Int) = (l.getD i dL).2.2) : RowM ν l := ⟨h, fun i hi => by simp only [Int.zero_add]; exact k i hi⟩
theorem m_inRow {ν : Mem} {l : List Ln} (hl : RowM ν l) (hw : WfL l) {n : Int} (hn : n.natAbs ≤ 60) {K : Int → Mem → Prop} (h : K (fxi n.natAbs l 0) ν) : f_M_inRow n ν K := by
  have h12 := hw.1
  unfold f_M_inRow
  refine lp1 (fun m (i : Int) => l_M_inRow_2 n ν _ K m i) (fun i => ∃ j : Nat, i = (j : Int) ∧ j ≤ l.length ∧ fxi n.natAbs (l.drop j) (j : Int) = fxi n.natAbs l 0) (fun i => ((l.length : Int) - i).toNat) (fun m i hJ ih => ?_) 0 ⟨0, rfl, by omega, by rw [List.drop_zero]; rfl⟩
  obtain ⟨j, rfl, hj, he⟩ := hJ
  unfold l_M_inRow_2
  rw [hl.n]
  try simp (disch := omega) only [w_id]
  refine ite_i (fun q => ⟨by omega, by omega, ?_⟩) (fun q => ?_)
  · have hjl : j < l.length := by omega
    have hwj := hw.at hjl
    rw [(hl.at hjl).1]
    rw [drop_getD hjl, fxi_cons] at he
    try simp (disch := omega) only [w_id]
    refine ite_i (fun q2 => ?_) (fun q2 => ⟨by omega, by omega, ite_i (fun q3 => ?_) (fun q3 => ?_)⟩)
    · rw [if_pos (by omega)] at he
      rw [he]
      exact h
    · rw [if_pos (by omega)] at he
      rw [he]
      exact h
    · rw [if_neg (by omega)] at he
      exact ih _ ⟨j + 1, by omega, by omega, he⟩ (by omega)
  · rw [List.drop_eq_nil_of_le (by omega)] at he
    rw [show (-1 : Int) = fxi n.natAbs l 0 from he]
    exact h
theorem m_does {ν : Mem} {a : Int} (ha : 0 ≤ a ∧ a < 40) {l : List Ln} (hl : RowM ν l) (hw : WfL l) (hc : ChW (MS ν) a) {K : Mem → Prop} (h : ∀ ξ : Mem, Fr rmL ν ξ → RowM ξ (doA (MS ν) a l) → K ξ) : f_M_does a ν K := by
  obtain ⟨hc1, hc2, hc3⟩ := hc
  unfold f_M_does
  intro v2 e2
  subst e2
  refine lp2 (fun m (q : Int) (ξ : Mem) => l_M_does_5 a _ m q ξ) (fun q ξ => ∃ k : Nat, q = 6 * a + (k : Int) ∧ (k : Int) ≤ MS ν 119 a ∧ Fr rmL ν ξ ∧ RowM ξ (doN (MS ν) a l k)) (fun q _ => (6 * a + 7 - q).toNat) (fun m q ξ hJ ih => ?_) (6 * a) ν ⟨0, by omega, by omega, FrP.refl _ _, hl⟩
  obtain ⟨k, rfl, hk, hf, hrow⟩ := hJ
  have hwk := WfL_doN (σ := MS ν) ⟨hc1, hc2, hc3⟩ ha hw k hk
  have h12 := hwk.1
  have rch : rI ξ 119 a = MS ν 119 a := (hf.rdI rfl).trans rfl
  unfold l_M_does_5
  try simp (disch := omega) only [w_id]
  rw [rch]
  refine ⟨by omega, by omega, ?_⟩
  try simp (disch := omega) only [w_id]
  refine ite_i (fun q => ⟨by omega, by omega, ?_⟩) (fun q => ?_)
  · have ck := hc3 (k : Int) (by omega) (by omega)
    have rk : ∀ ο : Mem, Fr rmL ν ο → rI ο 120 (6 * a + (k : Int)) = MS ν 120 (6 * a + (k : Int)) := fun ο f => (f.rdI rfl).trans rfl
    have rn : ∀ ο : Mem, Fr rmL ν ο → rI ο 121 (6 * a + (k : Int)) = MS ν 121 (6 * a + (k : Int)) := fun ο f => (f.rdI rfl).trans rfl
    have nx : ∀ ο : Mem, Fr rmL ξ ο → RowM ο (doN (MS ν) a l (k + 1)) → l_M_does_5 a (fun (μ_17 : Mem) => K μ_17) m (6 * a + (k : Int) + 1) ο := fun ο fo ro => ih _ _ ⟨k + 1, by omega, by omega, hf.trans fo, ro⟩ (by omega)
    unfold doN doC at nx
    generalize hso : MS ν 120 (6 * a + (k : Int)) = so at *
    generalize hnn : MS ν 121 (6 * a + (k : Int)) = n at *
    generalize hll : doN (MS ν) a l k = lk at *
    rw [rn ξ hf]
    refine m_inRow hrow hwk (by omega) ?_
    have hfr := fxi_rng n.natAbs lk
    generalize hi : fxi n.natAbs lk 0 = i at *
    rw [rk ξ hf]
    have e196 : (¬ (so = 0 ∧ ¬ i = -1)) → (¬ (so = 1 ∧ i = -1 ∧ lk.length < 12)) → b_M_does_196 (l_M_does_5 a (fun (μ_17 : Mem) => K μ_17) m) a (6 * a + (k : Int)) i ξ := fun n1 n2 => by
      unfold b_M_does_196
      try simp (disch := omega) only [w_id]
      rw [rk ξ hf]
      refine ⟨by omega, by omega, ?_⟩
      try simp (disch := omega) only [w_id]
      refine ite_i (fun c1 => ite_i (fun c2 => ?_) (fun c2 => ?_)) (fun c1 => ?_)
      · refine nx ξ (FrP.refl _ _) ?_
        rw [if_neg n1, if_neg n2, if_neg (fun z => z.2 c2)]
        exact hrow
      · have hit : i.toNat < lk.length := by omega
        have ei : i = ((i.toNat : Nat) : Int) := by omega
        have hwi := hwk.at hit
        have hri := hrow.at hit
        refine ⟨by omega, by omega, by omega, by omega, fun μ9 e9 => ⟨by omega, by omega, fun μ10 e10 => ?_⟩⟩
        refine nx μ10 (by rw [e10, e9]; exact ((FrP.refl _ _).wI rfl).wI rfl) ?_
        rw [if_neg n1, if_neg n2, if_pos ⟨c1, c2⟩]
        refine RowM.mk ?_ (fun j hj => ?_)
        · rw [e10, e9]
          simp only [rI_sI, Nat.reduceEqDiff, false_and, if_false, List.length_set]
          exact hrow.n
        · simp only [List.length_set] at hj
          rw [e10, e9]
          by_cases c : j = i.toNat
          · have cj : (j : Int) = i := by omega
            have hri2 := hri
            rw [← ei] at hri2
            rw [cj, c]
            simp only [rI_sI, Nat.reduceEqDiff, false_and, if_false, true_and, if_true]
            rw [hri2.1, hri2.2.1, w_id (by omega) (by omega), w_id (by omega) (by omega), List.getD_eq_getElem?_getD (l := lk.set i.toNat _), List.getElem?_set_self hit]
            exact ⟨rfl, rfl, rfl⟩
          · have ne : ¬ (j : Int) = i := by omega
            simp only [rI_sI, Nat.reduceEqDiff, false_and, if_false, true_and, ne]
            rw [List.getD_eq_getElem?_getD (l := lk.set i.toNat _), List.getElem?_set_ne (fun z => c z.symm), ← List.getD_eq_getElem?_getD]
            exact hrow.at hj
      · refine nx ξ (FrP.refl _ _) ?_
        rw [if_neg n1, if_neg n2, if_neg (fun z => c1 z.1)]
        exact hrow
    have e124 : (¬ (so = 0 ∧ ¬ i = -1)) → b_M_does_124 (l_M_does_5 a (fun (μ_17 : Mem) => K μ_17) m) a (6 * a + (k : Int)) i ξ := fun n1 => by
      unfold b_M_does_124
      try simp (disch := omega) only [w_id]
      rw [rk ξ hf, hrow.n]
      refine ⟨by omega, by omega, ?_⟩
      try simp (disch := omega) only [w_id]
      refine ite_i (fun c1 => ite_i (fun c2 => ite_i (fun c3 => ⟨by omega, by omega, by omega, by omega, fun μ4 e4 => ?_⟩) (fun c3 => e196 n1 (fun z => by omega))) (fun c2 => e196 n1 (fun z => c2 z.2.1))) (fun c1 => e196 n1 (fun z => c1 z.1))
      have m4 : rI μ4 15533 0 = (lk.length : Int) := by rw [e4, rI_sI, if_neg (fun z => absurd z.1 (by decide))]; exact hrow.n
      rw [m4]
      try simp (disch := omega) only [w_id]
      refine ⟨by omega, by omega, fun μ5 e5 => ?_⟩
      have m5 : rI μ5 15533 0 = (lk.length : Int) := by rw [e5, rI_sB, if_neg (fun z => absurd z.1 (by decide))]; exact m4
      rw [m5]
      try simp (disch := omega) only [w_id]
      refine ⟨by omega, by omega, fun μ6 e6 μ7 e7 => ?_⟩
      have m6 : rI μ6 15533 0 = (lk.length : Int) := by rw [e6, rI_sI, if_neg (fun z => absurd z.1 (by decide))]; exact m5
      rw [m6] at e7
      rw [rn ξ hf] at e4
      refine nx μ7 (by rw [e7, e6, e5, e4]; exact ((((FrP.refl _ _).wI rfl).wB rfl).wI rfl).wI rfl) ?_
      rw [if_neg n1, if_pos ⟨c1, c2, by omega⟩]
      refine RowM.mk ?_ (fun j hj => ?_)
      · rw [e7, rI_sI, if_pos ⟨rfl, rfl⟩, w_id (by omega) (by omega)]
        simp
      · rw [e7, e6, e5, e4]
        simp only [List.length_append, List.length_cons, List.length_nil] at hj
        by_cases c : j = lk.length
        · rw [c]
          simp only [rI_sI, rI_sB, Nat.reduceEqDiff, false_and, if_false, true_and, if_true]
          rw [w_id (by omega) (by omega), w_id (by omega) (by omega)]
          simp
          rfl
        · have hjl : j < lk.length := by omega
          have ne : ¬ (j : Int) = (lk.length : Int) := by omega
          simp only [rI_sI, rI_sB, Nat.reduceEqDiff, false_and, if_false, true_and, ne]
          have eg : (lk ++ [(n, (0 : Int), a)]).getD j dL = lk.getD j dL := by
            rw [List.getD_eq_getElem?_getD, List.getD_eq_getElem?_getD, List.getElem?_append_left hjl]
          rw [eg]
          exact hrow.at hjl
    refine ⟨by omega, by omega, ?_⟩
    try simp (disch := omega) only [w_id]
    refine ite_i (fun c1 => ite_i (fun c2 => e124 (fun z => z.2 c2)) (fun c2 μ11 e11 => ?_)) (fun c1 => e124 (fun z => c1 z.1))
    have hit : i.toNat < lk.length := by omega
    have ei : i = ((i.toNat : Nat) : Int) := by omega
    have m11 : rI μ11 15533 0 = (lk.length : Int) - 1 := by rw [e11, rI_sI, if_pos ⟨rfl, rfl⟩, hrow.n, w_id (by omega) (by omega)]
    have f11 : Fr rmL ξ μ11 := by rw [e11]; exact (FrP.refl _ _).wI rfl
    have r11 : ∀ j : Nat, j < lk.length → rI μ11 155 (j : Int) = (lk.getD j dL).1 ∧ rI μ11 156 (j : Int) = (lk.getD j dL).2.1 ∧ rI μ11 157 (j : Int) = (lk.getD j dL).2.2 := fun j hj => by
      rw [e11]
      simp only [rI_sI, Nat.reduceEqDiff, false_and, if_false]
      exact hrow.at hj
    refine lp2 (fun m' (q : Int) (ο : Mem) => l_M_does_58 a (6 * a + (k : Int)) _ m' q ο) (fun q ο => ∃ j : Nat, q = (j : Int) ∧ i.toNat ≤ j ∧ j + 1 ≤ lk.length ∧ Fr rmL ξ ο ∧ rI ο 15533 0 = (lk.length : Int) - 1 ∧ ∀ k' : Nat, k' < lk.length → ((k' < j → rI ο 155 (k' : Int) = ((lk.eraseIdx i.toNat).getD k' dL).1 ∧ rI ο 156 (k' : Int) = ((lk.eraseIdx i.toNat).getD k' dL).2.1 ∧ rI ο 157 (k' : Int) = ((lk.eraseIdx i.toNat).getD k' dL).2.2) ∧ (j ≤ k' → rI ο 155 (k' : Int) = (lk.getD k' dL).1 ∧ rI ο 156 (k' : Int) = (lk.getD k' dL).2.1 ∧ rI ο 157 (k' : Int) = (lk.getD k' dL).2.2)))
      (fun q _ => ((lk.length : Int) - q).toNat) (fun m' q ο hJ ih2 => ?_) i μ11 ⟨i.toNat, ei, Nat.le_refl _, by omega, f11, m11, fun k' hk' => ⟨fun c => by rw [getD_eraseIdx, if_pos c]; exact r11 k' hk', fun _ => r11 k' hk'⟩⟩
    obtain ⟨j, rfl, hij, hj, fo, mo, hk'⟩ := hJ
    unfold l_M_does_58
    rw [mo]
    try simp (disch := omega) only [w_id]
    refine ite_i (fun q' => ⟨by omega, by omega, by omega, by omega, fun μ13 e13 => ⟨by omega, by omega, by omega, by omega, fun μ14 e14 => ⟨by omega, by omega, by omega, by omega, fun μ15 e15 => ?_⟩⟩⟩) (fun q' => ?_)
    · have hj1 : j + 1 < lk.length := by omega
      have en : (j : Int) + 1 = ((j + 1 : Nat) : Int) := by omega
      have g := (hk' (j + 1) hj1).2 (by omega)
      have hwj := hwk.at hj1
      rw [en, g.1] at e13
      have ms13 : rI μ13 156 ((j + 1 : Nat) : Int) = (lk.getD (j + 1) dL).2.1 := by rw [e13, rI_sI, if_neg (fun z => absurd z.1 (by decide))]; exact g.2.1
      rw [en, rB_rI, ms13] at e14
      have by14 : rI μ14 157 ((j + 1 : Nat) : Int) = (lk.getD (j + 1) dL).2.2 := by rw [e14, rI_sB, if_neg (fun z => absurd z.1 (by decide)), e13, rI_sI, if_neg (fun z => absurd z.1 (by decide))]; exact g.2.2
      rw [en, by14] at e15
      have f15 : Fr rmL ξ μ15 := by rw [e15, e14, e13]; exact ((fo.wI rfl).wB rfl).wI rfl
      have ij := getD_eraseIdx (l := lk) (i := i.toNat) (k := j)
      rw [if_neg (by omega)] at ij
      refine ih2 _ _ ⟨j + 1, en, by omega, by omega, f15, ?_, fun k' hkl => ⟨fun c => ?_, fun c => ?_⟩⟩ (by omega)
      · rw [e15, e14, e13]
        simp only [rI_sI, rI_sB, Nat.reduceEqDiff, false_and, if_false]
        exact mo
      · rw [e15, e14, e13]
        by_cases ck' : k' = j
        · rw [ck']
          simp only [rI_sI, rI_sB, Nat.reduceEqDiff, false_and, if_false, true_and, if_true]
          rw [ij, w_id (by omega) (by omega), w_id (by omega) (by omega), b2i_01 hwj.2.2.1]
          exact ⟨rfl, rfl, rfl⟩
        · have ne : ¬ (k' : Int) = (j : Int) := by omega
          simp only [rI_sI, rI_sB, Nat.reduceEqDiff, false_and, if_false, true_and, ne]
          exact (hk' k' hkl).1 (by omega)
      · rw [e15, e14, e13]
        have ne : ¬ (k' : Int) = (j : Int) := by omega
        simp only [rI_sI, rI_sB, Nat.reduceEqDiff, false_and, if_false, true_and, ne]
        exact (hk' k' hkl).2 (by omega)
    · have el : (lk.eraseIdx i.toNat).length = lk.length - 1 := List.length_eraseIdx_of_lt hit
      refine nx ο fo ?_
      rw [if_pos ⟨c1, c2⟩]
      refine RowM.mk (by rw [mo, el]; omega) (fun k' hkl => (hk' k' (by omega)).1 (by omega))
  · have e : (MS ν 119 a).toNat = k := by omega
    refine h ξ hf ?_
    unfold doA
    rw [e]
    exact hrow
