/-! WOULD, on both sides -/
theorem bd_small {x : Int} (h0 : 0 ≤ x) (h1 : x ≤ 1000000) : Bd x := by unfold Bd; omega
theorem cYes_Bd (σ : Sg) (mt kn how tn : Int) (an : Bool) : Bd (cYes σ mt kn how tn an) := bnd_Bd _
theorem cNo_Bd (σ : Sg) (mt kn how tn : Int) (an : Bool) : Bd (cNo σ mt kn how tn an) := bnd_Bd _
theorem cAll_Bd (σ : Sg) (kn how : Int) (an : Bool) : Bd (cAll σ kn how an) := bnd_Bd _
theorem cSec_rng (σ : Sg) (mt kn how tn : Int) (an : Bool) : 0 ≤ cSec σ mt kn how tn an ∧ cSec σ mt kn how tn an ≤ 6 := scN_rng _ 6
theorem cSec_Bd (σ : Sg) (mt kn how tn : Int) (an : Bool) : Bd (cSec σ mt kn how tn an) := by
  have := cSec_rng σ mt kn how tn an
  exact bd_small this.1 (by omega)
/-- whether a MATTER passes, as counted on a DAY -/
def pcO (σ : Sg) (st : Int → Int) (mt day how tn : Int) (an : Bool) : Bool := psO σ mt day (cYes σ mt day how tn an) (cNo σ mt day how tn an) (cAll σ day how an) (cSec σ mt day how tn an) (agO σ st mt)
theorem Ic.today {σ : Sg} {μ : Mem} (h : Ic σ μ) : rI μ 1139 0 = σ 15465 0 := h.relR.2.2.2.1
theorem kindOf_k {mt : Int} (h : Rg mt) : v_H_kindOf mt = kdm mt := by
  rw [kindOf_e h]
  unfold kdm
  by_cases c1 : mt < 200
  · rw [if_pos c1]
    by_cases c2 : mt < 100
    · rw [if_pos c2, if_pos c2]
    · rw [if_neg c2, if_neg c2, if_pos c1]
  · rw [if_neg c1, if_neg (by omega), if_neg c1]
theorem CN.fr {L : List Nat} {ν ξ : Mem} {Y N A S : Int} (h : CN ν Y N A S) (f : Fr L ν ξ) (hL : (lel L 10357 || lel L 10358 || lel L 10359 || lel L 10360) = false) : CN ξ Y N A S := by
  simp only [Bool.or_eq_false_iff] at hL
  obtain ⟨⟨⟨l1, l2⟩, l3⟩, l4⟩ := hL
  exact ⟨by rw [f.rdI l1]; exact h.1, by rw [f.rdI l2]; exact h.2.1, by rw [f.rdI l3]; exact h.2.2.1, by rw [f.rdI l4]; exact h.2.2.2⟩
theorem c_wouldPass {σ : Sg} {μ : Mem} (hI : Ic σ μ) {mt how : Int} (hm : isMt σ mt) (hh : 0 ≤ how ∧ how ≤ 3) {K : Bool → Mem → Prop} (h : ∀ ν : Mem, Qt μ ν → K (pcO σ (stO σ) mt (σ 15465 0) how (-1) false) ν) : f_Chair_wouldPass mt how μ K := by
  have hD := hI.wfR.2.2.2.1
  have hlt := isMt_lt hI hm
  unfold f_Chair_wouldPass
  refine c_inForce hI ⟨hI.isRu, ?_⟩
  rw [hI.today]
  refine c_take hI ⟨by omega, by omega⟩ ⟨by omega, by omega⟩ (fun ν hf hk => ?_)
  have hq : Qt μ ν := hf.qt rfl
  have hIν := hq.ic hI
  have eM : σ = σ := rfl
  -- what comes behind the sums
  have fin : ∀ ξ : Mem, Qt μ ξ → CNq σ ξ mt (σ 15465 0) how (-1) false → f_Floor_against mt ξ (fun r76 μ_4 => f_Count_passes (rIx (Fo σ)) (v_H_kindOf mt) r76 (rI μ_4 1139 0) μ_4 (fun r86 μ_5 => K r86 μ_5)) := by
    intro ξ q hc
    have hIξ := q.ic hI
    have eMξ : σ = σ := rfl
    refine c_against hIξ (by rw [eMξ]; exact hm) (fun ο fo => ?_)
    have q2 := q.trans fo.qt24
    have hIο := q2.ic hI
    have eMο : σ = σ := rfl
    rw [hIο.today, eMο, kindOf_k ⟨by omega, by omega⟩, eMξ]
    have hg := agO_01 σ (stO σ) mt
    have := c_passes hIο (mt := mt) (D := σ 15465 0) (G := agO σ (stO σ) mt) (hc.fr fo.1 rfl) (cYes_Bd _ _ _ _ _ _) (cNo_Bd _ _ _ _ _ _) (cAll_Bd _ _ _ _) (cSec_Bd _ _ _ _ _ _) (bd_small hg.1 (by omega)) (bd_small hD.1 (by omega)) (K := K) (fun π fp => by rw [eMο]; exact h π (q2.trans (fp.qt rfl)))
    rw [eMο] at this
    exact this
  (try simp (disch := omega) only [w_id])
  refine ite_i (fun c3 => ?_) (fun c3 => ?_)
  · refine c_sumUpBranches hIν (mt := mt) (kn := σ 15465 0) (by rw [eM]; exact hk.2.1) (fun ξ hx hc => ?_)
    rw [eM] at hc
    exact fin ξ (hq.trans (hx.qt rfl)) (by rw [c3]; exact hc)
  · have := c_weigh hIν (how := how) (mt := mt) (kn := σ 15465 0) (by omega) (by rw [eM]; exact hk) (K := fun μ_6 => f_Count_sumUp (-1) μ_6 (fun μ_7 => f_Floor_against mt μ_7 (fun r76 μ_4 => f_Count_passes (rIx (Fo σ)) (v_H_kindOf mt) r76 (rI μ_4 1139 0) μ_4 (fun r86 μ_5 => K r86 μ_5)))) (fun ξ hx hwt => ?_)
    · rw [eM] at this
      exact this
    · have q2 : Qt μ ξ := hq.trans (hx.qt rfl)
      have eM2 : σ = σ := rfl
      refine c_sumUp2 (q2.ic hI) (mt := mt) (kn := σ 15465 0) (how := how) (an := false) c3 ⟨by omega, by omega⟩ (by rw [eM2]; exact (hk.fr hx rfl).2.2) (by rw [eM2]; rw [eM] at hwt; exact hwt) (fun ο ho hc => ?_)
      rw [eM2] at hc
      exact fin ο (q2.trans (ho.qt rfl)) hc
theorem m_wouldPass {μ : Mem} (q : QM μ) (hr : RwW (MS μ)) {mt how tn : Int} (hm : isMt (MS μ) mt) (hh : 0 ≤ how ∧ how ≤ 3) (ht : Rg tn) {c : Nat} (hc : lel (fcL ++ mpL) c = false) (hst : ∀ n : Nat, 1 ≤ n → n ≤ 60 → -1 ≤ rI μ c (n : Int) ∧ rI μ c (n : Int) ≤ 1) {K : Bool → Mem → Prop} (h : ∀ ν : Mem, Fr (fcL ++ mpL) μ ν → K (pcO (MS μ) (fun k => rI μ c k) mt (MS μ 15465 0) how tn false) ν) : f_M_wouldPass mt how tn c 61 μ K := by
  have hD := q.1.2.2.2.1
  have hct := hr.1
  have hm2 := hm
  unfold isMt at hm2
  have hc1 : lel fcL c = false := lsub_f (B := fcL ++ mpL) rfl hc
  have hc2 : lel mpL c = false := lsub_f (B := fcL ++ mpL) rfl hc
  have eD : rI μ 15465 0 = MS μ 15465 0 := rfl
  unfold f_M_wouldPass
  rw [eD]
  refine m_findCount q hh ⟨by omega, by omega⟩ ⟨by omega, by omega⟩ ht (fun ν f hmn => ?_)
  have eM : MS ν = MS μ := (Fr.qt f rfl).2.2.1
  have eD2 : rI ν 15465 0 = MS μ 15465 0 := (f.rdI rfl).trans rfl
  have est : (fun k => rI ν c k) = fun k => rI μ c k := funext fun k => f.rdI hc1
  rw [eD2]
  refine m_passes (q.ms eM) (by rw [eM]; exact hr) (by rw [eM]; exact hm) hc2 (fun n n1 n2 => by rw [f.rdI hc1]; exact hst n n1 n2) hmn (cYes_Bd _ _ _ _ _ _) (cNo_Bd _ _ _ _ _ _) (cAll_Bd _ _ _ _) (cSec_Bd _ _ _ _ _ _) (bd_small hD.1 (by omega)) (fun ξ fx => ?_)
  rw [eM, est]
  exact h ξ ((Fr.mono f rfl : Fr (fcL ++ mpL) μ ν).trans (Fr.mono fx rfl))
theorem st_would {mt how : Int} (hm : Rg mt) (hh : Rg how) : Both Int (f_H_would mt how) (f_M_would mt how) := by
  obtain ⟨hh0, hh1⟩ := hh
  refine both_q (fun σ => pick (isMt σ mt ∧ hw σ mt = 0 ∧ 0 ≤ how ∧ how ≤ 3) (if pcO σ (stO σ) mt (σ 15465 0) how (-1) false = true then 1 else 0) (-1)) (fun μ K hI h => ?_) (fun μ K hI h => ?_)
  · have no : ¬ (isMt (MS μ) mt ∧ hw (MS μ) mt = 0 ∧ 0 ≤ how ∧ how ≤ 3) → K (-1) μ := fun z => by
      have := h μ (Qt.refl μ)
      rw [pick_f z] at this
      exact this
    have hwr := hI.hwr mt
    unfold f_H_would
    rw [stateOf_e hI hm]
    (try simp (disch := omega) only [w_id])
    refine ite_i (fun q1 => ite_i (fun q2 => no (fun z => by omega)) (fun q2 => ite_i (fun q3 => no (fun z => by omega)) (fun q3 => ?_))) (fun q1 => no (fun z => q1 z.2.1))
    have hmt : isMt (MS μ) mt := (hI.hw_iff mt).mp (by omega)
    refine c_wouldPass hI hmt (by omega) (fun ν q x ex => ?_)
    have := h ν q
    rw [pick_t ⟨hmt, q1, by omega, by omega⟩] at this
    rw [ex]
    exact this
  · have eM := thr_ms μ
    have no : ¬ (isMt (MS μ) mt ∧ hw (MS μ) mt = 0 ∧ 0 ≤ how ∧ how ≤ 3) → K (-1) (sI μ 15464 0 0) := fun z => by
      have hth := h _ (thr_qt μ)
      rw [pick_f z] at hth
      exact hth
    have hc := hI.cnt
    have hIt := (thr_qt μ).iv hI
    have hwr := hI.hwr mt
    unfold f_M_would
    intro μ1 e1
    subst e1
    refine ite_b (isMatter_e (by rw [eM]; exact hc) hm) (fun q1 => m_howOf (by rw [eM]; exact hc) q1 ?_) (fun q1 => no (fun z => q1 (by rw [eM]; exact z.1)))
    rw [eM, within_e hh0 hh1 (by decide) (by decide) (by decide) (by decide)]
    (try simp (disch := omega) only [w_id, decide_eq_true_eq])
    refine ite_i (fun q2 => ite_i (fun q3 => ?_) (fun q3 => no (fun z => q3 z.2.2))) (fun q2 => no (fun z => q2 z.2.1))
    refine m_wouldPass hIt.qm hIt.rw q1 q3 ⟨by omega, by omega⟩ rfl (fun n n1 n2 => by have := hIt.stand n1 n2; exact ⟨this.1, this.2.1⟩) (fun ν f x ex => ?_)
    rw [eM] at q1
    have := h ν ((thr_qt μ).trans (Fr.qt f rfl))
    rw [pick_t ⟨q1, q2, q3⟩] at this
    rw [ex, eM]
    exact this
