/-! AGAINST on the model's side; WHETHER A MATTER PASSES, on both -/
/-- rows and changes as the model's cells must be -/
def RwW (σ : Sg) : Prop := (0 ≤ σ 15472 0 ∧ σ 15472 0 ≤ 24 ∧ 0 ≤ σ 15474 0 ∧ σ 15474 0 ≤ 40 ∧ 0 ≤ σ 15479 0 ∧ σ 15479 0 ≤ 10) ∧ (∀ m : Int, 0 ≤ m → m < 24 → WfL (rowOf σ m) ∧ σ 125 m = ((rowOf σ m).length : Int)) ∧ (∀ a : Int, 0 ≤ a → a < σ 15474 0 → ChW σ a ∧ 0 ≤ σ 118 a ∧ σ 118 a < σ 15472 0)
theorem Ic.rw {σ : Sg} {μ : Mem} (h : Ic σ μ) : RwW σ := ⟨h.cnt, fun m h0 h1 => ⟨(h.row h0 h1).2.1, (h.row h0 h1).2.2⟩, fun a h0 h1 => ⟨(h.chW h0 h1).1, (h.hang h0 h1).2⟩⟩
theorem rowOf_getD {σ : Sg} {m : Int} {i : Nat} (hl : σ 125 m = ((rowOf σ m).length : Int)) (hi : i < (rowOf σ m).length) : (rowOf σ m).getD i dL = (σ 126 (12 * m + (i : Int)), σ 127 (12 * m + (i : Int)), σ 128 (12 * m + (i : Int))) := by
  conv => lhs; unfold rowOf rw4
  exact lv_getD (by omega)
theorem m_takesRow {ν : Mem} {m : Int} (hm : 0 ≤ m ∧ m < 24) (hw : WfL (rowOf (MS ν) m)) (hl : MS ν 125 m = ((rowOf (MS ν) m).length : Int)) {K : Mem → Prop} (h : ∀ ξ : Mem, Fr rmL ν ξ → RowM ξ (rowOf (MS ν) m) → K ξ) : f_M_takesRow m ν K := by
  have h12 := hw.1
  have el : rI ν 125 m = ((rowOf (MS ν) m).length : Int) := hl
  unfold f_M_takesRow
  (try simp (disch := omega) only [w_id])
  rw [el]
  refine ⟨by omega, by omega, fun μ1 e1 => ?_⟩
  have m1 : rI μ1 15533 0 = ((rowOf (MS ν) m).length : Int) := by rw [e1, rI_sI, if_pos ⟨rfl, rfl⟩, w_id (by omega) (by omega)]
  have f1 : Fr rmL ν μ1 := by rw [e1]; exact (FrP.refl _ _).wI rfl
  refine lp2 (fun k (q : Int) (ξ : Mem) => l_M_takesRow_12 m _ k q ξ) (fun q ξ => ∃ j : Nat, q = (j : Int) ∧ j ≤ (rowOf (MS ν) m).length ∧ Fr rmL ν ξ ∧ rI ξ 15533 0 = ((rowOf (MS ν) m).length : Int) ∧ ∀ i : Nat, i < j → rI ξ 155 (i : Int) = ((rowOf (MS ν) m).getD i dL).1 ∧ rI ξ 156 (i : Int) = ((rowOf (MS ν) m).getD i dL).2.1 ∧ rI ξ 157 (i : Int) = ((rowOf (MS ν) m).getD i dL).2.2) (fun q _ => (((rowOf (MS ν) m).length : Int) - q).toNat) (fun k q ξ hJ ih => ?_) 0 μ1 ⟨0, rfl, by omega, f1, m1, fun i hi => by omega⟩
  obtain ⟨j, rfl, hj, hf, hm9, hz⟩ := hJ
  unfold l_M_takesRow_12
  rw [hm9]
  (try simp (disch := omega) only [w_id])
  refine ite_i (fun q => ?_) (fun q => h ξ hf (RowM.mk hm9 (fun i hi => hz i (by omega))))
  have hjl : j < (rowOf (MS ν) m).length := by omega
  have hwj := hw.at hjl
  have g := rowOf_getD hl hjl
  have gn : rI ξ 126 (12 * m + (j : Int)) = ((rowOf (MS ν) m).getD j dL).1 := by rw [g]; exact (hf.rdI rfl).trans rfl
  refine ⟨by omega, by omega, by omega, by omega, fun μ3 e3 => ⟨by omega, by omega, by omega, by omega, fun μ4 e4 => ⟨by omega, by omega, by omega, by omega, fun μ5 e5 => ?_⟩⟩⟩
  rw [gn] at e3
  have f3 : Fr rmL ν μ3 := by rw [e3]; exact hf.wI rfl
  have gu : rI μ3 127 (12 * m + (j : Int)) = ((rowOf (MS ν) m).getD j dL).2.1 := by rw [g]; exact (f3.rdI rfl).trans rfl
  rw [rB_rI, gu] at e4
  have f4 : Fr rmL ν μ4 := by rw [e4]; exact f3.wB rfl
  have gb : rI μ4 128 (12 * m + (j : Int)) = ((rowOf (MS ν) m).getD j dL).2.2 := by rw [g]; exact (f4.rdI rfl).trans rfl
  rw [gb] at e5
  refine ih _ _ ⟨j + 1, by omega, by omega, by rw [e5]; exact f4.wI rfl, ?_, fun i hi => ?_⟩ (by omega)
  · rw [e5, e4, e3]
    simp only [rI_sI, rI_sB, Nat.reduceEqDiff, false_and, if_false]
    exact hm9
  · rw [e5, e4, e3]
    by_cases c : i = j
    · rw [c]
      simp only [rI_sI, rI_sB, Nat.reduceEqDiff, false_and, if_false, true_and, if_true]
      rw [w_id (by omega) (by omega), w_id (by omega) (by omega), b2i_01 hwj.2.2.1]
      exact ⟨rfl, rfl, rfl⟩
    · have ne : ¬ (i : Int) = (j : Int) := by omega
      simp only [rI_sI, rI_sB, Nat.reduceEqDiff, false_and, if_false, true_and, ne]
      exact hz i (by omega)
theorem size_e {x : Int} (h : x.natAbs ≤ 60) : v_M_size x = (x.natAbs : Int) := by
  unfold v_M_size
  rw [w_id (by omega) (by omega)]
  split <;> omega
theorem m_against {ν : Mem} {l : List Ln} (hl : RowM ν l) (hw : WfL l) {c : Nat} (hst : ∀ n : Nat, 1 ≤ n → n ≤ 60 → -1 ≤ rI ν c (n : Int) ∧ rI ν c (n : Int) ≤ 1) {K : Int → Mem → Prop} (h : K (agL (fun k => rI ν c k) l) ν) : f_M_against c 61 ν K := by
  have h12 := hw.1
  unfold f_M_against
  unfold agL at h
  refine lp1 (fun m (q : Int) => l_M_against_2 c 61 ν K m q) (fun q => ∃ j : Nat, q = (j : Int) ∧ j ≤ l.length ∧ l.any (agT fun k => rI ν c k) = (l.drop j).any (agT fun k => rI ν c k)) (fun q => ((l.length : Int) - q).toNat) (fun m q hJ ih => ?_) 0 ⟨0, rfl, by omega, by rw [List.drop_zero]⟩
  obtain ⟨j, rfl, hj, he⟩ := hJ
  unfold l_M_against_2
  rw [hl.n]
  (try simp (disch := omega) only [w_id])
  refine ite_i (fun q => ?_) (fun q => ?_)
  · have hjl : j < l.length := by omega
    have hwj := hw.at hjl
    have hs := hst (l.getD j dL).1.natAbs hwj.1 hwj.2.1
    rw [(hl.at hjl).1, size_e hwj.2.1]
    (try simp (disch := omega) only [w_id])
    rw [drop_getD hjl, List.any_cons] at he
    have et : agT (fun k => rI ν c k) (l.getD j dL) = (decide (¬ rI ν c ((l.getD j dL).1.natAbs : Int) = 0) && !(decide (0 < rI ν c ((l.getD j dL).1.natAbs : Int)) == decide (0 < (l.getD j dL).1))) := rfl
    refine ⟨by omega, by omega, by omega, by omega, fun v3 e3 => ?_⟩
    rw [← e3] at et hs
    (try simp (disch := omega) only [w_id])
    refine ite_i (fun c0 => ?_) (fun c0 x35 e35 => ⟨by omega, by omega, fun x49 e49 => ?_⟩)
    · refine ih _ ⟨j + 1, by omega, by omega, ?_⟩ (by omega)
      have z : agT (fun k => rI ν c k) (l.getD j dL) = false := by rw [et, c0]; rfl
      rw [he, z, Bool.false_or]
    · have b35 : 0 ≤ x35 ∧ x35 ≤ 1 := by rw [e35]; split <;> omega
      have b49 : 0 ≤ x49 ∧ x49 ≤ 1 := by rw [e49]; split <;> omega
      (try simp (disch := omega) only [w_id])
      by_cases p1 : 0 < v3 <;> by_cases p2 : 0 < (l.getD j dL).1
      · rw [if_pos p1] at e35
        rw [if_pos p2] at e49
        rw [if_pos (by omega)]
        refine ih _ ⟨j + 1, by omega, by omega, ?_⟩ (by omega)
        have z : agT (fun k => rI ν c k) (l.getD j dL) = false := by rw [et, decide_eq_true p1, decide_eq_true p2, decide_eq_true c0]; rfl
        rw [he, z, Bool.false_or]
      · rw [if_pos p1] at e35
        rw [if_neg p2] at e49
        rw [if_neg (by omega)]
        have z : agT (fun k => rI ν c k) (l.getD j dL) = true := by rw [et, decide_eq_true p1, decide_eq_false p2, decide_eq_true c0]; rfl
        rw [he, z, Bool.true_or, if_pos rfl] at h
        exact h
      · rw [if_neg p1] at e35
        rw [if_pos p2] at e49
        rw [if_neg (by omega)]
        have z : agT (fun k => rI ν c k) (l.getD j dL) = true := by rw [et, decide_eq_false p1, decide_eq_true p2, decide_eq_true c0]; rfl
        rw [he, z, Bool.true_or, if_pos rfl] at h
        exact h
      · rw [if_neg p1] at e35
        rw [if_neg p2] at e49
        rw [if_pos (by omega)]
        refine ih _ ⟨j + 1, by omega, by omega, ?_⟩ (by omega)
        have z : agT (fun k => rI ν c k) (l.getD j dL) = false := by rw [et, decide_eq_false p1, decide_eq_false p2, decide_eq_true c0]; rfl
        rw [he, z, Bool.false_or]
  · rw [he, List.drop_eq_nil_of_le (by omega)] at h
    exact h
theorem rm_ms {ν ξ : Mem} (h : Fr rmL ν ξ) : MS ξ = MS ν := (h.qt rfl).2.2.1
theorem m_againstOf {μ : Mem} (hr : RwW (MS μ)) {mt : Int} (hm : isMt (MS μ) mt) {c : Nat} (hc : lel rmL c = false) (hst : ∀ n : Nat, 1 ≤ n → n ≤ 60 → -1 ≤ rI μ c (n : Int) ∧ rI μ c (n : Int) ≤ 1) {K : Int → Mem → Prop} (h : ∀ ν : Mem, Fr rmL μ ν → K (agO (MS μ) (fun k => rI μ c k) mt) ν) : f_M_againstOf mt c 61 μ K := by
  obtain ⟨hct, hrow, hch⟩ := hr
  unfold isMt at hm
  unfold f_M_againstOf
  unfold agO at h
  (try simp (disch := omega) only [w_id])
  have fin : ∀ (ν : Mem) (l : List Ln), Fr rmL μ ν → RowM ν l → WfL l → K (agL (fun k => rI μ c k) l) ν → f_M_against c 61 ν K := fun ν l f r wl k => by
    have e : (fun k => rI ν c k) = fun k => rI μ c k := funext fun k => f.rdI hc
    refine m_against r wl (fun n n1 n2 => ?_) ?_
    · rw [f.rdI hc]; exact hst n n1 n2
    · rw [e]; exact k
  refine ite_i (fun c1 => ite_i (fun c2 => ?_) (fun c2 => ⟨by omega, by omega, ?_⟩)) (fun c1 => ?_)
  · rw [if_neg (by omega), if_pos c2] at h
    obtain ⟨w1, w2⟩ := hrow mt (by omega) (by omega)
    refine m_takesRow (by omega) w1 w2 (fun ν f r => fin ν _ f r w1 (h ν f))
  · rw [if_neg (by omega), if_neg c2] at h
    obtain ⟨g1, g2, g3⟩ := hch (mt - 100) (by omega) (by omega)
    have ea : rI μ 118 (mt - 100) = MS μ 118 (mt - 100) := rfl
    rw [ea]
    obtain ⟨w1, w2⟩ := hrow (MS μ 118 (mt - 100)) g2 (by omega)
    refine m_takesRow (by omega) w1 w2 (fun ν f r => ?_)
    have eM := rm_ms f
    refine m_does (by omega) r w1 (by rw [eM]; exact g1) (fun ξ f2 r2 => ?_)
    rw [eM] at r2
    exact fin ξ _ (f.trans f2) r2 (WfL_doA g1 (by omega) w1) (h ξ (f.trans f2))
  · rw [if_pos (by omega)] at h
    exact h μ (FrP.refl _ _)
-- passing
def kdm (mt : Int) : Int := if mt < 100 then 0 else if mt < 200 then 1 else 2
def fxp (Y N A S G D i : Int) : Int := if i = 0 then Y else if i = 1 then N else if i = 2 then A else if i = 3 then S else if i = 4 then G else if i = 5 then D else 0
def psO (σ : Sg) (mt D Y N A S G : Int) : Bool := if lc σ (Fo σ) (kdm mt) = -1 then decide (N < Y) else decide (evl (fxp Y N A S G D) (mcode σ (lc σ (Fo σ) (kdm mt))) = 1)
theorem fxp_Bd {Y N A S G D : Int} (h1 : Bd Y) (h2 : Bd N) (h3 : Bd A) (h4 : Bd S) (h5 : Bd G) (h6 : Bd D) (i : Int) : Bd (fxp Y N A S G D i) := by
  unfold fxp
  refine ite_p (fun _ => h1) (fun _ => ite_p (fun _ => h2) (fun _ => ite_p (fun _ => h3) (fun _ => ite_p (fun _ => h4) (fun _ => ite_p (fun _ => h5) (fun _ => ite_p (fun _ => h6) (fun _ => by unfold Bd; omega))))))
theorem kdm_rng (mt : Int) : 0 ≤ kdm mt ∧ kdm mt ≤ 2 := by
  unfold kdm
  split
  · omega
  · split <;> omega
theorem kpa_kdm (mt : Int) : kpa (kdm mt) = kdm mt := by
  have := kdm_rng mt
  unfold kpa
  rw [if_neg (by omega)]
theorem npa_kdm (mt : Int) : npa (kdm mt) = 6 ∧ bpa (kdm mt) = 0 := by
  have := kdm_rng mt
  unfold npa bpa
  rw [if_neg (by omega), if_neg (by omega), if_neg (by omega), if_neg (by omega)]
  exact ⟨rfl, rfl⟩
theorem c_passes {σ : Sg} {μ : Mem} (hI : Ic σ μ) {mt D Y N A S G : Int} (hcn : CN μ Y N A S) (h1 : Bd Y) (h2 : Bd N) (h3 : Bd A) (h4 : Bd S) (h5 : Bd G) (h6 : Bd D) {K : Bool → Mem → Prop} (h : ∀ ν : Mem, Fr ccL μ ν → K (psO σ mt D Y N A S G) ν) : f_Count_passes (rIx (Fo σ)) (kdm mt) G D μ K := by
  have hk := kdm_rng mt
  have hp := hI.parts (kdm mt) hk.1 (by omega)
  rw [kpa_kdm] at hp
  have hfx := fxp_Bd h1 h2 h3 h4 h5 h6
  obtain ⟨c1, c2, c3, c4⟩ := hcn
  have b1 := h1; have b2 := h2; have b3 := h3; have b4 := h4; have b5 := h5; have b6 := h6
  unfold Bd at b1 b2 b3 b4 b5 b6
  unfold f_Count_passes
  rw [c_says hI.ruR (by omega) hp]
  unfold psO at h
  refine ite_i (fun q => ?_) (fun q x ex => ?_)
  · have q1 : ¬ lc σ (Fo σ) (kdm mt) = -1 := by simpa using q
    intro μ1 e1 μ2 e2 μ3 e3 μ4 e4 μ5 e5 μ6 e6
    have ff : ∀ (a b : Mem) (i v : Int), b = set' a 81 6 i v → Fr [81] μ a → Fr [81] μ b := fun a b i v e f => by rw [e]; exact f.set rfl
    have f1 := ff _ _ _ _ e1 (FrP.refl _ _)
    have f2 := ff _ _ _ _ e2 f1
    have f3 := ff _ _ _ _ e3 f2
    have f4 := ff _ _ _ _ e4 f3
    have f5 := ff _ _ _ _ e5 f4
    have f6 := ff _ _ _ _ e6 f5
    rw [c1] at e1
    rw [f1.rdI rfl, c2] at e2
    rw [f2.rdI rfl, c3] at e3
    rw [f3.rdI rfl, c4] at e4
    rw [set_in (by omega) (by omega) (by decide)] at e1 e2 e3 e4 e5 e6
    have m6 : σ = σ := rfl
    have s6 : CS μ6 = CS μ := (Fr.qt f6 rfl).1
    refine c_value (r := rIx (Fo σ)) (p := kdm mt) hI.ruR (by omega) (by rw [m6, s6]; exact hp) q1 hfx (fun n n0 n1 => ?_) (fun ν hν x ex => ?_)
    · obtain ⟨e9, e8⟩ := npa_kdm mt
      rw [e8, Int.zero_add]
      have hn6 : n = 0 ∨ n = 1 ∨ n = 2 ∨ n = 3 ∨ n = 4 ∨ n = 5 := by omega
      rw [e6, e5, e4, e3, e2, e1]
      unfold fxp
      rcases hn6 with rfl | rfl | rfl | rfl | rfl | rfl <;> (simp (disch := omega) only [rI_sI, w_id, Int.reduceEq, and_false, if_false, reduceIte, true_and])
    · have he := evl_Bd hp q1 hfx
      have h01 := he.2 (by omega)
      have := h ν ((Fr.mono f6 rfl : Fr ccL μ μ6).trans (Fr.mono hν rfl))
      rw [if_neg q1] at this
      rw [m6] at ex
      rw [ex]
      rcases h01 with e0 | e0
      · rw [e0] at this ⊢
        exact this
      · rw [e0] at this ⊢
        exact this
  · have q1 : lc σ (Fo σ) (kdm mt) = -1 := by simpa using q
    have := h μ (FrP.refl _ _)
    rw [if_pos q1] at this
    rw [c1, c2] at ex
    (try simp (disch := omega) only [w_id] at ex)
    have ed : x = decide (N < Y) := by
      rw [ex]
      by_cases c : N < Y
      · rw [if_pos c, decide_eq_true c]
      · rw [if_neg c, decide_eq_false c]
    rw [ed]
    exact this
def mpL : List Nat := [151, 152, 15533, 155, 156, 157]
theorem m_passes {μ : Mem} (q : QM μ) (hr : RwW (MS μ)) {mt D Y N A S : Int} (hm : isMt (MS μ) mt) {c : Nat} (hc : lel mpL c = false) (hst : ∀ n : Nat, 1 ≤ n → n ≤ 60 → -1 ≤ rI μ c (n : Int) ∧ rI μ c (n : Int) ≤ 1) (hmn : MN μ Y N A S) (h1 : Bd Y) (h2 : Bd N) (h3 : Bd A) (h4 : Bd S) (h6 : Bd D) {K : Bool → Mem → Prop} (h : ∀ ν : Mem, Fr mpL μ ν → K (psO (MS μ) mt D Y N A S (agO (MS μ) (fun k => rI μ c k) mt)) ν) : f_M_passes mt D c 61 μ K := by
  have hk := kdm_rng mt
  obtain ⟨κ, hpt⟩ := q.part
  have hp := hpt (kdm mt) hk.1 (by omega)
  rw [kpa_kdm] at hp
  obtain ⟨c1, c2, c3, c4⟩ := hmn
  have hmt2 := hm
  have hct := hr.1
  unfold isMt at hmt2
  have b1 := h1; have b2 := h2; have b3 := h3; have b4 := h4; have b6 := h6
  unfold Bd at b1 b2 b3 b4 b6
  have hga := agO_01 (MS μ) (fun k => rI μ c k) mt
  generalize hG : agO (MS μ) (fun k => rI μ c k) mt = G at *
  have h5 : Bd G := by unfold Bd; omega
  have hfx := fxp_Bd h1 h2 h3 h4 h5 h6
  unfold f_M_passes
  (try simp (disch := omega) only [w_id])
  intro x23 e23
  have ek : x23 = kdm mt := e23
  rw [ek]
  refine m_clause (by omega) q.2.2.1 q.many ?_
  unfold psO at h
  have hlr : -1 ≤ lc (MS μ) (Fo (MS μ)) (kdm mt) ∧ lc (MS μ) (Fo (MS μ)) (kdm mt) < 150 := by
    rcases hp with ⟨e, -⟩ | ⟨z0, z1, -⟩ <;> omega
  (try simp (disch := omega) only [w_id])
  refine ite_i (fun q1 x ex => ?_) (fun q1 μ2 e2 μ3 e3 μ4 e4 μ5 e5 => ?_)
  · have := h μ (FrP.refl _ _)
    rw [if_pos q1] at this
    have ed : x = decide (N < Y) := by
      rw [ex]
      simp only [Int64.lt_iff_toInt_lt, c1, c2]
      by_cases z : N < Y
      · rw [if_pos z, decide_eq_true z]
      · rw [if_neg z, decide_eq_false z]
    rw [ed]
    exact this
  · have wh : ∀ x : Int64, v_M_whole x = bnd x.toInt := fun x => bounded_e x
    have f2 : Fr [151] μ μ2 := by rw [e2]; exact (FrP.refl _ _).wI rfl
    have f3 : Fr [151] μ μ3 := by rw [e3]; exact f2.wI rfl
    have f4 : Fr [151] μ μ4 := by rw [e4]; exact f3.wI rfl
    have f5 : Fr [151] μ μ5 := by rw [e5]; exact f4.wI rfl
    rw [wh, c1, bnd_id h1] at e2
    rw [wh, f2.rdL rfl, c2, bnd_id h2] at e3
    rw [wh, f3.rdL rfl, c3, bnd_id h3] at e4
    rw [f4.rdI rfl, c4] at e5
    have m5 : MS μ5 = MS μ := (Fr.qt f5 rfl).2.2.1
    have hc1 : lel [151] c = false := lsub_f (B := mpL) rfl hc
    have hc2 : lel rmL c = false := lsub_f (B := mpL) rfl hc
    have est : (fun k => rI μ5 c k) = fun k => rI μ c k := funext fun k => f5.rdI hc1
    refine m_againstOf (by rw [m5]; exact hr) (by rw [m5]; exact hm) hc2 (fun n n1 n2 => by rw [f5.rdI hc1]; exact hst n n1 n2) (fun μ6 f6 μ7 e7 μ8 e8 => ?_)
    rw [m5, est, hG] at e7
    have f8 : Fr mpL μ μ8 := by rw [e8, e7]; exact ((((Fr.mono f5 rfl : Fr mpL μ μ5).trans (Fr.mono f6 rfl)).wI rfl).wI rfl)
    have m8 : MS μ8 = MS μ := (Fr.qt f8 rfl).2.2.1
    refine m_worksP (κ := κ) (r := rIx (Fo (MS μ))) (p := kdm mt) (by omega) (by rw [m8]; exact hp) q1 hfx (fun i i0 i1 => ?_) (fun ξ hx x ex => ?_)
    · obtain ⟨e9, e10⟩ := npa_kdm mt
      rw [e10] at i0 i1
      rw [e9] at i1
      have hn6 : i = 0 ∨ i = 1 ∨ i = 2 ∨ i = 3 ∨ i = 4 ∨ i = 5 := by omega
      have n6 : ∀ j : Int, rI μ6 151 j = rI μ5 151 j := fun j => f6.rdI rfl
      rw [e8, e7]
      unfold fxp
      rcases hn6 with rfl | rfl | rfl | rfl | rfl | rfl <;> (simp (disch := omega) only [rI_sI, w_id, Int.reduceEq, and_false, if_false, reduceIte, true_and, n6, e5, e4, e3, e2])
    · have he := evl_Bd hp q1 hfx
      have hb := he.1
      unfold Bd at hb
      have := h ξ (f8.trans (Fr.mono hx rfl))
      rw [if_neg q1] at this
      rw [m8] at ex
      (try simp (disch := omega) only [w_id] at ex)
      have ed : x = decide (evl (fxp Y N A S G D) (mcode (MS μ) (lc (MS μ) (Fo (MS μ)) (kdm mt))) = 1) := by
        rw [ex]
        by_cases z : evl (fxp Y N A S G D) (mcode (MS μ) (lc (MS μ) (Fo (MS μ)) (kdm mt))) = 1
        · rw [if_pos z, decide_eq_true z]
        · rw [if_neg z, decide_eq_false z]
      rw [ed]
      exact this
