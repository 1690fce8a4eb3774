/-! LATE, on both sides -/
def fxl (P n D i : Int) : Int := if i = 10 then P else if i = 11 then n else if i = 12 then D else 0
theorem fxl_Bd {P n D : Int} (h1 : Bd P) (h2 : Bd n) (h3 : Bd D) (i : Int) : Bd (fxl P n D i) := by
  unfold fxl
  split
  · exact h1
  · split
    · exact h2
    · split
      · exact h3
      · unfold Bd; omega
/-- a LATE motion of so many lines is taken -/
def tkl (σ : Sg) (a n : Int) : Bool := if lc σ (Fo σ) 7 = -1 then false else decide (evl (fxl (pd σ a (σ 15465 0)) n (σ 15465 0)) (mcode σ (lc σ (Fo σ) 7)) = 1)
def isl (σ : Sg) : Bool := decide (¬ σ 15471 0 = -1 ∧ σ 15471 0 < σ 15465 0)
def tlL : List Nat := tkL ++ ccL
theorem c_isTakenLate {σ : Sg} {μ : Mem} (hI : Ic σ μ) {a n : Int} (ha : 0 ≤ a ∧ a < σ 15466 0) (hn : 0 ≤ n ∧ n ≤ 12) {K : Bool → Mem → Prop} (h : ∀ ν : Mem, Fr tlL μ ν → K (tkl σ a n) ν) : f_H_isTakenLate a n μ K := by
  have hA := hI.wfR.1
  have hD := hI.wfR.2.2.2.1
  have hr := hI.ru
  have hp := hI.parts 4 (by omega) (by omega)
  rw [show kpa 4 = 7 from rfl] at hp
  have hpr := pd_rng hI.wfR hI.wfT hr.2.1 a (σ 15465 0)
  have hfx := fxl_Bd (P := pd σ a (σ 15465 0)) (n := n) (D := σ 15465 0) (by unfold Bd; omega) (by unfold Bd; omega) (by unfold Bd; omega)
  unfold f_H_isTakenLate
  rw [hI.today]
  refine c_take hI ⟨by decide, by decide⟩ ⟨by omega, by omega⟩ (fun ν hf hk => ?_)
  have i1 := (hf.qt rfl).ic hI
  refine c_inForce i1 ⟨i1.isRu, ?_⟩
  rw [i1.today]
  unfold f_Count_takesLate
  rw [i1.rate]
  refine c_paidHeadsOf (by omega) hI.wfR hI.wfT ⟨hr.2.1, hr.2.2.1⟩ hk ?_
  intro μ2 e2 μ3 e3 μ4 e4
  rw [set_in (by omega) (by omega) (by decide)] at e2 e3 e4
  have f4 : Fr ccL ν μ4 := by rw [e4, e3, e2]; exact (((FrP.refl _ _).wI rfl).wI rfl).wI rfl
  have s4 : CS μ4 = CS μ := ((f4.qt rfl).1).trans (hf.qt rfl).1
  have f14 : Fr tlL μ μ4 := (Fr.mono hf rfl : Fr tlL μ ν).trans (Fr.mono f4 rfl)
  have hp4 : PartOK (CS μ4) σ (rIx (Fo σ)) 4 (lc σ (Fo σ) 7) := by rw [s4]; exact hp
  rw [c_says hI.ruR (by omega) hp4]
  unfold tkl at h
  refine ite_i (fun q => ?_) (fun q => ?_)
  · have q1 : ¬ lc σ (Fo σ) 7 = -1 := by simpa using q
    simp only [if_neg q1] at h
    refine c_value (r := rIx (Fo σ)) (p := 4) hI.ruR (by omega) hp4 q1 hfx (fun m m0 m1 => ?_) (fun ξ hξ x ex => ?_)
    · have hm3 : m = 0 ∨ m = 1 ∨ m = 2 := by
        have e2' : npa 4 = 3 := rfl
        omega
      rw [show bpa 4 = 10 from rfl]
      rw [e4, e3, e2]
      unfold fxl
      rcases hm3 with rfl | rfl | rfl <;> (simp (disch := omega) only [rI_sI, w_id, Int.reduceEq, Int.reduceAdd, and_false, if_false, reduceIte, true_and])
    · have he := evl_Bd hp q1 hfx
      have h01 := he.2 (by omega)
      have g := h ξ (f14.trans (Fr.mono hξ rfl))
      rw [ex]
      rcases h01 with e0 | e0
      · rw [e0] at g ⊢
        exact g
      · rw [e0] at g ⊢
        exact g
  · have q1 : lc σ (Fo σ) 7 = -1 := by simpa using q
    simp only [if_pos q1] at h
    exact h μ4 f14
theorem isLate_e {σ : Sg} {μ : Mem} (hI : Ic σ μ) : v_H_isLate μ = isl σ := by
  have hR := hI.wfR
  have e1 : rI μ 1140 0 = σ 15471 0 := (cr' rfl).trans hI.relR.2.2.2.2.1
  unfold v_H_isLate isl
  rw [e1, hI.today]
  have c0 := hR.2.2.2.2.1
  have d0 := hR.2.2.2.1
  generalize σ 15471 0 = C at *
  generalize σ 15465 0 = D at *
  (try simp (disch := omega) only [w_id])
  by_cases q : C = -1
  · rw [if_pos q, decide_eq_false (fun z => z.1 q)]
  · rw [if_neg q]
    by_cases q2 : C < D
    · rw [if_pos q2, decide_eq_true ⟨q, q2⟩]
    · rw [if_neg q2, decide_eq_false (fun z => q2 z.2)]
def mlL : List Nat := cdL
theorem m_mayBeLate {μ : Mem} (q : QM μ) {a n : Int} (ha : 0 ≤ a ∧ a < MS μ 15466 0) (hn : 0 ≤ n ∧ n ≤ 12) (hrm : rI μ 15533 0 = n) {K : Bool → Mem → Prop} (h : ∀ ν : Mem, Fr cdL μ ν → K (!isl (MS μ) || tkl (MS μ) a n) ν) : f_M_mayBeLate a μ K := by
  have hA := q.1.1
  have hD := q.1.2.2.2.1
  have hC := q.1.2.2.2.2.1
  obtain ⟨κ, hpt⟩ := q.part
  have h3 := hpt 4 (by omega) (by omega)
  rw [show kpa 4 = 7 from rfl] at h3
  have hpr := pd_rng q.1 q.2.1 q.rate.1 a (MS μ 15465 0)
  have hfx := fxl_Bd (P := pd (MS μ) a (MS μ 15465 0)) (n := n) (D := MS μ 15465 0) (by unfold Bd; omega) (by unfold Bd; omega) (by unfold Bd; omega)
  unfold f_M_mayBeLate
  have e1 : rI μ 15471 0 = MS μ 15471 0 := mr rfl
  have e2 : rI μ 15465 0 = MS μ 15465 0 := mr rfl
  rw [e1, e2]
  unfold isl at h
  generalize hCC : MS μ 15471 0 = C at *
  (try simp (disch := omega) only [w_id])
  refine ite_i (fun q1 => ?_) (fun q1 => ite_i (fun q2 => ?_) (fun q2 => ?_))
  · have g := h μ (FrP.refl _ _)
    rw [decide_eq_false (fun z => z.1 q1)] at g
    exact g
  · rw [decide_eq_true ⟨q1, q2⟩] at h
    refine m_clause (by omega) q.2.2.1 q.many ?_
    have hlr : -1 ≤ lc (MS μ) (Fo (MS μ)) 7 ∧ lc (MS μ) (Fo (MS μ)) 7 < 150 := by
      rcases h3 with ⟨e, -⟩ | ⟨h0, h1, -⟩
      · omega
      · omega
    unfold tkl at h
    generalize hc9 : lc (MS μ) (Fo (MS μ)) 7 = c at *
    (try simp (disch := omega) only [w_id])
    refine ite_i (fun q3 => ?_) (fun q3 => ?_)
    · simp only [if_pos q3] at h
      exact h μ (FrP.refl _ _)
    · simp only [if_neg q3] at h
      rw [e2]
      refine m_paidOf ⟨by omega, by omega⟩ ⟨by omega, by omega⟩ q ?_
      intro μ3 e3 μ4 e4 μ5 e5
      have f3 : Fr cdL μ μ3 := by rw [e3]; exact (FrP.refl _ _).wI rfl
      have r3 : rI μ3 15533 0 = n := by rw [f3.rdI rfl]; exact hrm
      rw [r3] at e4
      have f4 : Fr cdL μ μ4 := by rw [e4]; exact f3.wI rfl
      have t4 : rI μ4 15465 0 = MS μ 15465 0 := by rw [f4.rdI rfl]; exact e2
      rw [t4] at e5
      have f5 : Fr cdL μ μ5 := by rw [e5]; exact f4.wI rfl
      have eM : MS μ5 = MS μ := (f5.qt rfl).2.2.1
      refine m_worksP (κ := κ) (r := rIx (Fo (MS μ))) (p := 4) (fx := fxl (pd (MS μ) a (MS μ 15465 0)) n (MS μ 15465 0)) (by omega) (by rw [eM]; exact h3) q3 hfx (fun i i0 i1 => ?_) (fun ξ hξ x ex => ?_)
      · have hi3 : i = 10 ∨ i = 11 ∨ i = 12 := by
          have e2' : npa 4 = 3 := rfl
          have e3' : bpa 4 = 10 := rfl
          omega
        rw [e5, e4, e3]
        unfold fxl
        rcases hi3 with rfl | rfl | rfl <;> (simp (disch := omega) only [rI_sI, w_id, Int.reduceEq, and_false, if_false, reduceIte, true_and])
      · have he := evl_Bd h3 q3 hfx
        have h01 := he.2 (by omega)
        have g := h ξ (f5.trans (Fr.mono hξ rfl))
        rw [eM] at ex
        rw [ex]
        rcases h01 with e0 | e0
        · rw [e0] at g ⊢
          exact g
        · rw [e0] at g ⊢
          exact g
  · have g := h μ (FrP.refl _ _)
    rw [decide_eq_false (fun z => q2 z.2)] at g
    exact g
