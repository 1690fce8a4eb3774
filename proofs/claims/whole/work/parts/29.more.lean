/-! MANDATE, CASTS; TAPE'S END, PLACE, WORTH, LINE -/
theorem st_mandate {b mt v : Int} (hb : Rg b) (hm : Rg mt) (hv : Rg v) : Both Bool (f_H_mandate b mt v) (f_M_mandate b mt v) := by
  intro μ hI
  have eB : rI μ 1137 0 = MS μ 15468 0 := hI.relR.2.1
  have hv2 := hv
  obtain ⟨hv0, hv1⟩ := hv2
  have hB := hI.wfR.2.1
  have hG : ∀ (ο : Mem) (K : Bool → Mem → Prop), MS ο = MS μ → (¬ ((0 ≤ b ∧ b < MS μ 15468 0) ∧ isMt (MS μ) mt ∧ 0 ≤ v ∧ v ≤ 2) → K false (sI ο 15464 0 0)) → (((0 ≤ b ∧ b < MS μ 15468 0) ∧ isMt (MS μ) mt ∧ 0 ≤ v ∧ v ≤ 2) → f_M_tells 2 b mt v (sI ο 15464 0 0) K) → f_M_mandate b mt v ο K := by
    intro ο K e z1 z2
    have hb2 := hb
    obtain ⟨hb0, hb1⟩ := hb2
    have eM : MS (sI ο 15464 0 0) = MS μ := by rw [thr_ms, e]
    have eO : rI (sI ο 15464 0 0) 15468 0 = MS μ 15468 0 := by rw [mr rfl, eM]
    unfold f_M_mandate
    simp only [ite_tf, forall_eq]
    rw [eO, within_e hv0 hv1 (by decide) (by decide) (by decide) (by decide)]
    (try simp (disch := omega) only [w_id, decide_eq_true_eq])
    refine ite_i (fun q1 => z1 (fun z => by omega)) (fun q1 => ite_i (fun q2 => ite_b (isMatter_e (by rw [eM]; exact hI.iv.cnt) hm) (fun q3 => ite_i (fun q4 => z2 ⟨⟨by omega, q2⟩, by rw [eM] at q3; exact q3, q4⟩) (fun q4 => z1 (fun z => q4 z.2.2))) (fun q3 => z1 (fun z => q3 (by rw [eM]; exact z.2.1)))) (fun q2 => z1 (fun z => q2 z.1.2)))
  unfold f_H_mandate
  rw [hasBr_e hb.1 hb.2, eB]
  simp (disch := omega) only [ite_tf, forall_eq, decide_eq_true_eq, w_id]
  have bad : ¬ ((0 ≤ b ∧ b < MS μ 15468 0) ∧ isMt (MS μ) mt ∧ 0 ≤ v ∧ v ≤ 2) → f_M_mandate b mt v μ (fun r' ξ => false = r' ∧ Inv ξ) := fun q => hG μ _ rfl (fun _ => ⟨rfl, (thr_qt μ).inv hI⟩) (fun z => absurd z q)
  refine ite_i (fun q1 => ite_b (has_e hI.iv hm) (fun q2 => ite_i (fun q3 => bad (fun z => by omega)) (fun q3 => ite_i (fun q4 => bad (fun z => by omega)) (fun q4 => ?_))) (fun q2 => bad (fun z => q2 z.2.1))) (fun q1 => bad (fun z => q1 z.1))
  refine both_tell hI (Qt.refl μ) (mt := mt) (G := f_M_mandate b mt v) ⟨by omega, by omega⟩ hb hm hm hv (by omega) q1.1 (Or.inr (Or.inr (Or.inl ⟨rfl, q1.2, by omega⟩))) (fun _ => rfl) (fun b ο h => h) (fun ο K e h => ?_)
  exact hG ο K e (fun z => absurd ⟨q1, q2, by omega, by omega⟩ z) (fun _ => h _ (thr_qt ο))
/-- nothing may be cast that the bound MANDATE isn't -/
def barO (σ : Sg) (a mt v : Int) : Prop := ¬ v = 3 ∧ ¬ lc σ (Fo σ) 6 = -1 ∧ ¬ md σ a mt (σ 15465 0) = 2 ∧ ¬ md σ a mt (σ 15465 0) = v
theorem Ic.bind {σ : Sg} {μ : Mem} (h : Ic σ μ) : (rB μ (gid (rIx (Fo σ)) 6) 0 = true) ↔ ¬ lc σ (Fo σ) 6 = -1 := by
  rw [rB_rI, cr' (inC_ru (Or.inr (by have := h.ruR; unfold gid; omega)))]
  have := h.ru.2.2.2.2.2.2.1
  rw [decide_eq_true_eq, this]
theorem c_isBarred {σ : Sg} {μ : Mem} (hI : Ic σ μ) {a mt v : Int} (ha : Rg a) (hm : Rg mt) (hv : 0 ≤ v ∧ v ≤ 3) {K : Bool → Mem → Prop} (h1 : barO σ a mt v → ∀ ν : Mem, Qt μ ν → K true ν) (h2 : ¬ barO σ a mt v → ∀ ν : Mem, Qt μ ν → K false ν) : f_H_isBarred a mt v μ K := by
  have hD := hI.wfR.2.2.2.1
  unfold f_H_isBarred
  (try simp (disch := omega) only [w_id])
  unfold barO at h1 h2
  refine ite_i (fun q1 => h2 (fun z => z.1 q1) μ (Qt.refl μ)) (fun q1 => ?_)
  refine c_inForce hI ⟨hI.isRu, ?_⟩
  refine ite_b hI.bind (fun q2 => ?_) (fun q2 => h2 (fun z => q2 z.2.1) μ (Qt.refl μ))
  rw [hI.today]
  refine c_take hI hm ⟨by omega, by omega⟩ (fun ν hf hk => ?_)
  have hq : Qt μ ν := hf.qt rfl
  have rA : RegA σ ν := (hq.ic hI).regA
  have mr := md_rng σ a mt (σ 15465 0)
  refine c_mandateOf (mt := mt) (kn := σ 15465 0) ha.1 ha.2 hI.wfR hI.wfT rA hk.2.1 (fun x ex => ?_)
  (try simp (disch := omega) only [w_id] at ex)
  rw [ex]
  by_cases c1 : md σ a mt (σ 15465 0) = 2
  · rw [if_pos c1]
    exact h2 (fun z => z.2.2.1 c1) ν hq
  · rw [if_neg c1]
    by_cases c2 : md σ a mt (σ 15465 0) = v
    · rw [if_pos c2]
      exact h2 (fun z => z.2.2.2 c2) ν hq
    · rw [if_neg c2]
      exact h1 ⟨q1, q2, c1, c2⟩ ν hq
theorem st_casts {a mt v : Int} (ha : Rg a) (hm : Rg mt) (hv : Rg v) : Both Bool (f_H_casts a mt v) (f_M_casts a mt v) := by
  intro μ hI
  have hv2 := hv
  obtain ⟨hv0, hv1⟩ := hv2
  have hwr := hI.iv.hwr mt
  have hD := hI.wfR.2.2.2.1
  have hG : ∀ (ο : Mem) (K : Bool → Mem → Prop), MS ο = MS μ → (¬ (isAf (MS μ) a ∧ (isMt (MS μ) mt ∧ hw (MS μ) mt = 0) ∧ (0 ≤ v ∧ v ≤ 3) ∧ ¬ barO (MS μ) a mt v) → K false (sI ο 15464 0 0)) → ((isAf (MS μ) a ∧ (isMt (MS μ) mt ∧ hw (MS μ) mt = 0) ∧ (0 ≤ v ∧ v ≤ 3) ∧ ¬ barO (MS μ) a mt v) → f_M_tells 3 a mt v (sI ο 15464 0 0) K) → f_M_casts a mt v ο K := by
    intro ο K e z1 z2
    have eM : MS (sI ο 15464 0 0) = MS μ := by rw [thr_ms, e]
    have eD : rI (sI ο 15464 0 0) 15465 0 = MS μ 15465 0 := by rw [mr rfl, eM]
    have qM := hI.iv.qm.ms eM
    unfold f_M_casts
    intro μ1 e1
    subst e1
    rw [within_e hv0 hv1 (by decide) (by decide) (by decide) (by decide)]
    refine ite_b (isAff_i ha) (fun q1 => ite_b (isMatter_e (by rw [eM]; exact hI.iv.cnt) hm) (fun q2 => ?_) (fun q2 => z1 (fun z => q2 (by rw [eM]; exact z.2.1.1)))) (fun q1 => z1 (fun z => q1 (by rw [eM]; exact z.1)))
    simp only [decide_eq_true_eq]
    refine ite_i (fun q3 => m_howOf (by rw [eM]; exact hI.iv.cnt) q2 ?_) (fun q3 => z1 (fun z => q3 z.2.2.1))
    rw [eM] at q1 q2
    rw [eM]
    (try simp (disch := omega) only [w_id])
    refine ite_i (fun q4 => ?_) (fun q4 => z1 (fun z => q4 z.2.1.2))
    rw [eD]
    have mr := md_rng (MS μ) a mt (MS μ 15465 0)
    refine m_mandateOf ha hm ⟨by omega, by omega⟩ (by rw [eM]; exact hI.wfR) (by rw [eM]; exact hI.wfT) ?_
    rw [eM]
    (try simp (disch := omega) only [w_id])
    refine ite_i (fun q5 => z2 ⟨q1, ⟨q2, q4⟩, q3, fun z => z.1 q5⟩) (fun q5 => ?_)
    unfold f_M_hasBind
    refine m_clause (by omega) qM.2.2.1 qM.many ?_
    rw [eM]
    intro x ex
    have hlr : -1 ≤ lc (MS μ) (Fo (MS μ)) 6 ∧ lc (MS μ) (Fo (MS μ)) 6 < 150 := by
      have hF := hI.iv.fo
      unfold lc
      by_cases c : Fo (MS μ) = -1
      · rw [if_pos c]; omega
      · rw [if_neg c]; exact lcN_rng (by omega) _ (by have := hI.iv.qm.many (by omega); omega)
    (try simp (disch := omega) only [w_id] at ex)
    rw [ex]
    by_cases c6 : lc (MS μ) (Fo (MS μ)) 6 = -1
    · rw [if_pos c6, if_neg (by decide)]
      exact z2 ⟨q1, ⟨q2, q4⟩, q3, fun z => z.2.1 c6⟩
    · rw [if_neg c6, if_pos rfl]
      refine ite_i (fun c1 => z2 ⟨q1, ⟨q2, q4⟩, q3, fun z => z.2.2.1 c1⟩) (fun c1 => ite_i (fun c2 => z2 ⟨q1, ⟨q2, q4⟩, q3, fun z => z.2.2.2 c2⟩) (fun c2 => z1 (fun z => z.2.2.2 ⟨q5, c6, c1, c2⟩)))
  have bad : ∀ ν : Mem, Qt μ ν → ¬ (isAf (MS μ) a ∧ (isMt (MS μ) mt ∧ hw (MS μ) mt = 0) ∧ (0 ≤ v ∧ v ≤ 3) ∧ ¬ barO (MS μ) a mt v) → f_M_casts a mt v ν (fun r' ξ => false = r' ∧ Inv ξ) := fun ν q z => hG ν _ q.2.2.1 (fun _ => ⟨rfl, (thr_qt ν).inv (q.inv hI)⟩) (fun y => absurd y z)
  unfold f_H_casts
  rw [stateOf_e hI.iv hm]
  (try simp (disch := omega) only [w_id])
  refine ite_b (hasAff_i hI.iv ha) (fun q1 => ite_i (fun q2 => ite_i (fun q3 => bad μ (Qt.refl μ) (fun z => by omega)) (fun q3 => ite_i (fun q4 => bad μ (Qt.refl μ) (fun z => by omega)) (fun q4 => ?_))) (fun q2 => bad μ (Qt.refl μ) (fun z => q2 z.2.1.2))) (fun q1 => bad μ (Qt.refl μ) (fun z => q1 z.1))
  have hmt : isMt (MS μ) mt := (hI.iv.hw_iff mt).mp (by omega)
  refine c_isBarred hI.iv ha hm (by omega) (fun hb ν q => ?_) (fun hb ν q => ?_)
  · rw [if_pos rfl]
    exact bad ν q (fun z => z.2.2.2 hb)
  · rw [if_neg (by decide)]
    refine both_tell hI q (mt := mt) (G := f_M_casts a mt v) ⟨by omega, by omega⟩ ha hm hm hv (by omega) q1.1 (Or.inr (Or.inr (Or.inr ⟨rfl, q1.2, by omega⟩))) (fun _ => rfl) (fun b ο h x ex => by rw [ite_tf] at ex; rw [ex]; exact h) (fun ο K e h => ?_)
    exact hG ο K e (fun z => absurd ⟨q1, ⟨hmt, q2⟩, by omega, hb⟩ z) (fun _ => h _ (thr_qt ο))
-- the tape
theorem st_end {n : Int} (hn : Rg n) : Both Int (f_H_end n) (f_M_end n) := by
  intro μ hI
  have hI0 := hI
  obtain ⟨hn0, hn1⟩ := hn
  obtain ⟨hS, hR, hT, hRR, hTT, hP, hF, hV, hW⟩ := hI
  have eT : rI μ 2281 0 = MS μ 15512 0 := hTT.1
  have eT2 : rI (sI μ 15464 0 0) 15512 0 = MS μ 15512 0 := by rw [mr rfl, thr_ms]
  have hb : 0 ≤ MS μ 15512 0 ∧ MS μ 15512 0 ≤ 300 := ⟨hTT.2.1, hTT.2.2.1⟩
  unfold f_H_end f_M_end
  rw [eT]
  simp (disch := omega) only [w_id, forall_eq]
  refine ite_i (fun q1 => ?_) (fun q1 => ite_i (fun q2 => ?_) (fun q2 => ?_))
  · rw [if_pos q1]
    first | exact ⟨rfl, (thr_qt μ).inv hI0⟩ | exact ⟨trivial, (thr_qt μ).inv hI0⟩
  · rw [if_neg q1, eT2]
    try simp (disch := omega) only [w_id]
    rw [if_pos q2]
    first | exact ⟨rfl, (thr_qt μ).inv hI0⟩ | exact ⟨trivial, (thr_qt μ).inv hI0⟩
  · have eT3 : rI (sI (sI μ 2281 0 n) 15464 0 0) 15512 0 = MS μ 15512 0 := by rw [mr rfl, thr_ms, MS_out rfl]
    rw [if_neg q1, eT3]
    try simp (disch := omega) only [w_id]
    rw [if_neg q2]
    refine ⟨by trivial, hS, ?_⟩
    rw [MS_in rfl, MS_out rfl, MS_out rfl, CS_out rfl, CS_out rfl, CS_in (PC_C rfl), CL_sI, CL_sI, CL_sI, w_id hn0 hn1]
    refine ⟨hR.lo ((Lo.refl _ _).up rfl), hT.lo ((Lo.refl _ _).up rfl), hRR.lo ((Lo.refl _ _).up rfl) ((Lo.refl _ _).up rfl), ?_, hP.lo ((Lo.refl _ _).up rfl) ((Lo.refl _ _).up rfl), hF.lo ((Lo.refl _ _).up rfl) ((Lo.refl _ _).up rfl), hV.lo ((Lo.refl _ _).up rfl) ((Lo.refl _ _).up rfl), hW.lo (up_ne _ _ _ rfl) (up_ne _ _ _ rfl) (up_ne _ _ _ rfl)⟩
    unfold RelT at *
    simp only [up_ne, up_same, Nat.reduceBEq]
    exact ⟨trivial, by omega, by omega, hTT.2.2.2.1, fun j h0 h1 => hTT.2.2.2.2 j h0 (by omega)⟩
theorem st_place : Both Int (fun μ k => k (v_H_place μ) μ) f_M_place := by
  refine both_q (fun σ => σ 15519 0) (fun μ K hI h => ?_) (fun μ K hI h => ?_)
  · have e : rI μ 2287 0 = MS μ 15519 0 := hI.relT.2.2.2.1
    show K (v_H_place μ) μ
    unfold v_H_place
    rw [e]
    exact h μ (Qt.refl μ)
  · unfold f_M_place
    intro μ1 e1
    subst e1
    have e : rI (sI μ 15464 0 0) 15519 0 = MS μ 15519 0 := by rw [mr rfl, thr_ms]
    rw [e]
    exact h _ (thr_qt μ)
-- worths
theorem st_worth {a m v : Int} (ha : Rg a) (hm : Rg m) (hv : Rg v) : Both Bool (f_H_worth a m v) (f_M_worth a m v) := by
  intro μ hI
  have hI0 := hI
  obtain ⟨ha0, ha1⟩ := ha
  obtain ⟨hm0, hm1⟩ := hm
  obtain ⟨hv0, hv1⟩ := hv
  have hc := hI.iv.cnt
  obtain ⟨hS, hR, hT, hRR, hTT, hP, hF, hV, hW⟩ := hI
  have hA := hR.1
  have eA : rI μ 1136 0 = MS μ 15466 0 := hRR.1
  have eP : rI μ 2543 0 = MS μ 15472 0 := hP.1
  have hG : ∀ (ο : Mem) (K : Bool → Mem → Prop), MS ο = MS μ → (¬ ((0 ≤ a ∧ a < MS μ 15466 0) ∧ (0 ≤ m ∧ m < MS μ 15472 0) ∧ -9 ≤ v ∧ v ≤ 9) → K false (sI ο 15464 0 0)) → (((0 ≤ a ∧ a < MS μ 15466 0) ∧ (0 ≤ m ∧ m < MS μ 15472 0) ∧ -9 ≤ v ∧ v ≤ 9) → K true (sI (sI ο 15464 0 0) 166 (24 * a + m) v)) → f_M_worth a m v ο K := by
    intro ο K e z1 z2
    have e1 : rI (sI ο 15464 0 0) 15466 0 = MS μ 15466 0 := by rw [mr rfl, thr_ms, e]
    have e2 : rI (sI ο 15464 0 0) 15472 0 = MS μ 15472 0 := by rw [mr rfl, thr_ms, e]
    unfold f_M_worth
    simp only [forall_eq]
    rw [isAff_e ha0 ha1, isMo_e hm0 hm1, within_e hv0 hv1 (by decide) (by decide) (by decide) (by decide), e1, e2]
    simp only [decide_eq_true_eq]
    refine ite_i (fun q1 => ite_i (fun q2 => ite_i (fun q3 => ?_) (fun q3 => z1 (fun z => q3 z.2.2))) (fun q2 => z1 (fun z => q2 z.2.1))) (fun q1 => z1 (fun z => q1 z.1))
    (try simp (disch := omega) only [w_id])
    exact ⟨by omega, by omega, z2 ⟨q1, q2, q3⟩⟩
  have bad : ¬ ((0 ≤ a ∧ a < MS μ 15466 0) ∧ (0 ≤ m ∧ m < MS μ 15472 0) ∧ -9 ≤ v ∧ v ≤ 9) → f_M_worth a m v μ (fun r' ξ => false = r' ∧ Inv ξ) := fun q => hG μ _ rfl (fun _ => ⟨rfl, (thr_qt μ).inv hI0⟩) (fun z => absurd z q)
  unfold f_H_worth f_Worths_tell
  rw [hasAff_e ha0 ha1, hasMo_e hm0 hm1, eA, eP]
  simp (disch := omega) only [ite_tf, forall_eq, decide_eq_true_eq, w_id, if_true, reduceIte]
  refine ite_i (fun q1 => ite_i (fun q2 => ite_i (fun q3 => bad (fun z => by omega)) (fun q3 => ite_i (fun q4 => bad (fun z => by omega)) (fun q4 => ?_))) (fun q2 => bad (fun z => q2 z.2.1))) (fun q1 => bad (fun z => q1 z.1))
  rw [set_in (by omega) (by omega) (by decide)]
  refine hG _ _ (MS_out rfl) (fun z => absurd ⟨q1, q2, by omega, by omega⟩ z) (fun _ => ⟨rfl, hS, ?_⟩)
  rw [MS_in rfl, MS_out rfl, MS_out rfl, CS_out rfl, CS_out rfl, CS_in (PC_C rfl), CL_sI, CL_sI, CL_sI, w_id hv0 hv1]
  refine ⟨hR.lo ((Lo.refl _ _).up rfl), hT.lo ((Lo.refl _ _).up rfl), hRR.lo ((Lo.refl _ _).up rfl) ((Lo.refl _ _).up rfl), hTT.lo ((Lo.refl _ _).up rfl) ((Lo.refl _ _).up rfl), hP.lo ((Lo.refl _ _).up rfl) ((Lo.refl _ _).up rfl), hF.lo ((Lo.refl _ _).up rfl) ((Lo.refl _ _).up rfl), hV.lo ((Lo.refl _ _).up rfl) ((Lo.refl _ _).up rfl), ?_⟩
  unfold RelW at *
  refine ⟨?_, by rw [up_ne _ _ _ rfl]; exact hW.2⟩
  intro j h0 h1
  have ej : a * 24 + m = 24 * a + m := by omega
  rw [ej]
  by_cases c : j = 24 * a + m
  · rw [c, up_same, up_same]; exact ⟨rfl, by omega, by omega⟩
  · rw [up_ni _ _ _ c, up_ni _ _ _ c]; exact hW.1 j h0 h1
