/-! THE SIMPLE CALLS: who is in the hall, tellings, days -/
theorem within_e {a b c : Int} (h1 : -2147483648 ≤ a) (h2 : a < 2147483648) (h3 : -2147483648 ≤ b) (h4 : b < 2147483648) (h5 : -2147483648 ≤ c) (h6 : c < 2147483648) : v_M_within a b c = decide (b ≤ a ∧ a ≤ c) := by
  unfold v_M_within
  rw [w_id h1 h2, w_id h3 h4, w_id h5 h6]
  by_cases q : a < b
  · rw [if_pos q, decide_eq_false (by omega)]
  · rw [if_neg q]
    by_cases q2 : c < a
    · rw [if_pos q2, decide_eq_false (by omega)]
    · rw [if_neg q2, decide_eq_true (by omega)]
theorem lt2_e {a n : Int} (h1 : -2147483648 ≤ a) (h2 : a < 2147483648) (h3 : -2147483648 ≤ n ∧ n < 2147483648) : (if w a < 0 then false else (if w a < w n then true else false)) = decide (0 ≤ a ∧ a < n) := by
  rw [w_id h1 h2, w_id h3.1 h3.2]
  by_cases q : a < 0
  · rw [if_pos q, decide_eq_false (by omega)]
  · rw [if_neg q]
    by_cases q2 : a < n
    · rw [if_pos q2, decide_eq_true (by omega)]
    · rw [if_neg q2, decide_eq_false (by omega)]
theorem le2_e {a n : Int} (h1 : -2147483648 ≤ a) (h2 : a < 2147483648) (h3 : -2147483648 ≤ n ∧ n < 2147483648) : (if w a < 0 then false else (if w n < w a then false else true)) = decide (0 ≤ a ∧ a ≤ n) := by
  rw [w_id h1 h2, w_id h3.1 h3.2]
  by_cases q : a < 0
  · rw [if_pos q, decide_eq_false (by omega)]
  · rw [if_neg q]
    by_cases q2 : n < a
    · rw [if_pos q2, decide_eq_false (by omega)]
    · rw [if_neg q2, decide_eq_true (by omega)]
theorem hasAff_e {a : Int} {μ : Mem} (h1 : -2147483648 ≤ a) (h2 : a < 2147483648) : v_Reg_hasAffiliate a μ = decide (0 ≤ a ∧ a < rI μ 1136 0) := lt2_e h1 h2 (rI_rng _ _ _)
theorem isAff_e {a : Int} {μ : Mem} (h1 : -2147483648 ≤ a) (h2 : a < 2147483648) : v_M_isAffiliate a μ = decide (0 ≤ a ∧ a < rI μ 15466 0) := lt2_e h1 h2 (rI_rng _ _ _)
theorem hasBr_e {a : Int} {μ : Mem} (h1 : -2147483648 ≤ a) (h2 : a < 2147483648) : v_Reg_hasBranch a μ = decide (0 ≤ a ∧ a < rI μ 1137 0) := lt2_e h1 h2 (rI_rng _ _ _)
theorem hasMo_e {a : Int} {μ : Mem} (h1 : -2147483648 ≤ a) (h2 : a < 2147483648) : v_Papers_hasMotion a μ = decide (0 ≤ a ∧ a < rI μ 2543 0) := lt2_e h1 h2 (rI_rng _ _ _)
theorem isMo_e {a : Int} {μ : Mem} (h1 : -2147483648 ≤ a) (h2 : a < 2147483648) : v_M_isMotion a μ = decide (0 ≤ a ∧ a < rI μ 15472 0) := lt2_e h1 h2 (rI_rng _ _ _)
theorem known_e {a : Int} {μ : Mem} (h1 : -2147483648 ≤ a) (h2 : a < 2147483648) : v_Reg_isKnownDay a μ = decide (0 ≤ a ∧ a ≤ rI μ 1139 0) := le2_e h1 h2 (rI_rng _ _ _)
theorem isKn_e {a : Int} {μ : Mem} (h1 : -2147483648 ≤ a) (h2 : a < 2147483648) : v_M_isKnown a μ = decide (0 ≤ a ∧ a ≤ rI μ 15465 0) := le2_e h1 h2 (rI_rng _ _ _)
/-- a call that changes nothing that lasts, on both sides -/
theorem thr_qt (μ : Mem) : Qt μ (sI μ 15464 0 0) := qt_sI rfl
theorem c_affiliate {a : Int} (ha : Rg a) {μ : Mem} {k : Int → Mem → Prop} (hI : Inv μ)
    (h1 : 0 ≤ a → a ≤ 5 → MS μ 15466 0 < 12 → k (MS μ 15466 0) (sI (sI μ 2 (MS μ 15466 0) a) 1136 0 (MS μ 15466 0 + 1)))
    (h2 : ¬ (0 ≤ a ∧ a ≤ 5 ∧ MS μ 15466 0 < 12) → k (-1) μ) : f_H_affiliate a μ k := by
  obtain ⟨ha0, ha1⟩ := ha
  obtain ⟨hS, hR, hT, hRR, hTT, hP, hF, hV, hW⟩ := hI
  obtain ⟨⟨hA0, hA1⟩, -⟩ := hR
  have hA : rI μ 1136 0 = MS μ 15466 0 := hRR.1
  unfold f_H_affiliate f_Reg_addAffiliate
  rw [hA]
  generalize MS μ 15466 0 = A at *
  simp (disch := omega) only [forall_eq, set_in, at_in, rI_sI, rI_sL, true_and, and_true, false_and, and_false, if_true, if_false, reduceIte, w_id, w_w, w_rI, Nat.reduceEqDiff, Int.reduceNeg, Int.add_sub_cancel, within_e, hasAff_e, isAff_e, hasBr_e, hasMo_e, isMo_e, known_e, isKn_e, decide_eq_true_eq]
  refine ite_i (fun h => h2 (by omega)) (fun h => ite_i (fun h' => ite_i (fun h'' => ?_) (fun h'' => h2 (by omega))) (fun h' => h2 (by omega)))
  have := h1 (by omega) (by omega) (by omega)
  rw [hA]
  exact this
theorem m_affiliate {a : Int} (ha : Rg a) {μ : Mem} {k : Int → Mem → Prop} (hR : WfR (MS μ))
    (h1 : 0 ≤ a → a ≤ 5 → MS μ 15466 0 < 12 → k (MS μ 15466 0) (sI (sI (sI μ 15464 0 0) 114 (MS μ 15466 0) a) 15466 0 (MS μ 15466 0 + 1)))
    (h2 : ¬ (0 ≤ a ∧ a ≤ 5 ∧ MS μ 15466 0 < 12) → k (-1) (sI μ 15464 0 0)) : f_M_affiliate a μ k := by
  obtain ⟨ha0, ha1⟩ := ha
  obtain ⟨⟨hA0, hA1⟩, -⟩ := hR
  have hA : rI μ 15466 0 = MS μ 15466 0 := rfl
  unfold f_M_affiliate
  simp (disch := omega) only [forall_eq, set_in, at_in, rI_sI, rI_sL, true_and, and_true, false_and, and_false, if_true, if_false, reduceIte, w_id, w_w, w_rI, Nat.reduceEqDiff, Int.reduceNeg, Int.add_sub_cancel, within_e, hasAff_e, isAff_e, hasBr_e, hasMo_e, isMo_e, known_e, isKn_e, decide_eq_true_eq]
  rw [hA]
  generalize MS μ 15466 0 = A at *
  exact ite_i (fun h => ite_i (fun h' => h2 (by omega)) (fun h' => ⟨by omega, by omega, h1 (by omega) (by omega) (by omega)⟩)) (fun h => h2 (by omega))
theorem st_affiliate {a : Int} (ha : Rg a) : Both Int (f_H_affiliate a) (f_M_affiliate a) := by
  intro μ hI
  have hI0 := hI
  have ha2 := ha
  obtain ⟨ha0, ha1⟩ := ha2
  obtain ⟨hS, hR, hT, hRR, hTT, hP, hF, hV, hW⟩ := hI
  have hA := hR.1
  refine c_affiliate ha hI0 (fun q0 q1 q2 => ?_) (fun q => m_affiliate ha hR (fun q0 q1 q2 => absurd ⟨q0, q1, q2⟩ q) (fun _ => ⟨rfl, (thr_qt μ).inv hI0⟩))
  have eM : MS (sI (sI μ 2 (MS μ 15466 0) a) 1136 0 (MS μ 15466 0 + 1)) = MS μ := by rw [MS_out rfl, MS_out rfl]
  refine m_affiliate ha (by rw [eM]; exact hR) (fun _ _ _ => ?_) (fun q => absurd ⟨q0, q1, by rw [eM]; exact q2⟩ q)
  rw [eM]
  refine ⟨rfl, hS, ?_⟩
  rw [MS_in rfl, MS_in rfl, MS_out rfl, eM, CS_out rfl, CS_out rfl, CS_out rfl, CS_in (PC_C rfl), CS_in (PC_C rfl), CL_sI, CL_sI, CL_sI, CL_sI, CL_sI]
  rw [w_id ha0 ha1, w_id (x := MS μ 15466 0 + 1) (by omega) (by omega)]
  generalize hσ : MS μ = σ at *
  generalize hκ : CS μ = κ at *
  generalize hAA : σ 15466 0 = A at *
  refine ⟨?_, ?_, ?_, hTT.lo (((Lo.refl _ _).up rfl).up rfl) (((Lo.refl _ _).up rfl).up rfl), ?_, hF.lo (((Lo.refl _ _).up rfl).up rfl) (((Lo.refl _ _).up rfl).up rfl), ?_, hW.lo (by rw [up_ne _ _ _ rfl, up_ne _ _ _ rfl]) (by rw [up_ne _ _ _ rfl, up_ne _ _ _ rfl]) (by rw [up_ne _ _ _ rfl, up_ne _ _ _ rfl])⟩
  · unfold WfR at *
    simp only [up_ne, up_same, Nat.reduceBEq]
    refine ⟨by omega, hR.2.1, hR.2.2.1, hR.2.2.2.1, hR.2.2.2.2.1, fun b h0 h1 => ?_, fun b h0 h1 => ?_⟩
    · by_cases e : b = A
      · rw [e, up_same]; omega
      · rw [up_ni _ _ _ e]; exact hR.2.2.2.2.2.1 b h0 (by omega)
    · have := hR.2.2.2.2.2.2 b h0 h1
      omega
  · unfold WfT at *
    simp only [up_ne, up_same, Nat.reduceBEq]
    refine ⟨fun k h0 h1 => ?_, hT.2⟩
    have := hT.1 k h0 h1
    omega
  · unfold RelR at *
    simp only [up_ne, up_same, Nat.reduceBEq]
    refine ⟨trivial, hRR.2.1, hRR.2.2.1, hRR.2.2.2.1, hRR.2.2.2.2.1, fun b h0 h1 => ?_, hRR.2.2.2.2.2.2⟩
    by_cases e : b = A
    · rw [e, up_same, up_same]
    · rw [up_ni _ _ _ e, up_ni _ _ _ e]; exact hRR.2.2.2.2.2.1 b h0 (by omega)
  · have hP' : RelP (up (up κ 2 A a) 1136 0 (A + 1)) (up σ 114 A a) := hP.lo (((Lo.refl _ _).up rfl).up rfl) ((Lo.refl _ _).up rfl)
    have hru : ∀ i : Int, -1 ≤ i → i < σ 15479 0 → RuOK (up (up κ 2 A a) 1136 0 (A + 1)) (up (up σ 114 A a) 15466 0 (A + 1)) (rIx i) i := fun i h0 h1 => by
      obtain ⟨-, -, -, -, -, -, -, -, h10, -, -, kr⟩ := hP
      exact RuOK.lo (((Lo.refl _ _).up rfl).up rfl) (((Lo.refl _ _).up rfl).up rfl) (rIx_rng h0 (by omega)) (kr i h0 h1)
    unfold RelP at *
    simp only [up_ne, up_same, Nat.reduceBEq] at hru ⊢
    refine ⟨hP.1, hP.2.1, hP.2.2.1, hP.2.2.2.1, hP.2.2.2.2.1, hP.2.2.2.2.2.1, hP.2.2.2.2.2.2.1, hP.2.2.2.2.2.2.2.1, hP.2.2.2.2.2.2.2.2.1, fun m h0 h1 => ?_, hP.2.2.2.2.2.2.2.2.2.2.1, hru⟩
    have := hP.2.2.2.2.2.2.2.2.2.1 m h0 h1
    exact ⟨this.1, this.2.1, by omega⟩
  · have hV' : RelV (up (up κ 2 A a) 1136 0 (A + 1)) (CL μ) (up σ 114 A a) := hV.lo (((Lo.refl _ _).up rfl).up rfl) ((Lo.refl _ _).up rfl)
    unfold RelV FlOK hw3 rw4 at *
    simp only [up_ne, up_same, Nat.reduceBEq] at hV' ⊢
    refine ⟨hV'.1, hV'.2.1, hV'.2.2.1, hV'.2.2.2.1, hV'.2.2.2.2.1, fun q => ?_⟩
    obtain ⟨v1, v2, v3, v4, v5, v6, v7, v8, v9⟩ := hV'.2.2.2.2.2 q
    exact ⟨v1, v2, v3, v4, v5, v6, v7, v8, fun b h0 h1 => v9 b (by omega) h1⟩

theorem c_branch {a s : Int} (ha : Rg a) (hs : Rg s) {μ : Mem} {k : Int → Mem → Prop} (hI : Inv μ)
    (h1 : (0 ≤ a ∧ a < MS μ 15466 0) → 1 ≤ s → s ≤ 999 → MS μ 15468 0 < 48 → k (MS μ 15468 0) (sI (sI (sI μ 3 (MS μ 15468 0) a) 4 (MS μ 15468 0) s) 1137 0 (MS μ 15468 0 + 1)))
    (h2 : ¬ ((0 ≤ a ∧ a < MS μ 15466 0) ∧ 1 ≤ s ∧ s ≤ 999 ∧ MS μ 15468 0 < 48) → k (-1) μ) : f_H_branch a s μ k := by
  obtain ⟨ha0, ha1⟩ := ha
  obtain ⟨hs0, hs1⟩ := hs
  obtain ⟨hS, hR, hT, hRR, hTT, hP, hF, hV, hW⟩ := hI
  have hA := hR.1
  have hB := hR.2.1
  have eA : rI μ 1136 0 = MS μ 15466 0 := hRR.1
  have eB : rI μ 1137 0 = MS μ 15468 0 := hRR.2.1
  unfold f_H_branch f_Reg_addBranch
  rw [eB]
  simp (disch := omega) only [forall_eq, set_in, at_in, rI_sI, rI_sL, true_and, and_true, false_and, and_false, if_true, if_false, reduceIte, w_id, w_w, w_rI, Nat.reduceEqDiff, Int.reduceNeg, Int.add_sub_cancel, within_e, hasAff_e, isAff_e, hasBr_e, hasMo_e, isMo_e, known_e, isKn_e, decide_eq_true_eq]
  rw [eA, eB]
  exact ite_i (fun q => ite_i (fun q1 => h2 (by omega)) (fun q1 => ite_i (fun q2 => h2 (by omega)) (fun q2 => ite_i (fun q3 => h1 q (by omega) (by omega) q3) (fun q3 => h2 (by omega))))) (fun q => h2 (fun z => q z.1))
theorem m_branch {a s : Int} (ha : Rg a) (hs : Rg s) {μ : Mem} {k : Int → Mem → Prop} (hR : WfR (MS μ))
    (h1 : (0 ≤ a ∧ a < MS μ 15466 0) → 1 ≤ s → s ≤ 999 → MS μ 15468 0 < 48 → k (MS μ 15468 0) (sI (sI (sI (sI μ 15464 0 0) 115 (MS μ 15468 0) a) 116 (MS μ 15468 0) s) 15468 0 (MS μ 15468 0 + 1)))
    (h2 : ¬ ((0 ≤ a ∧ a < MS μ 15466 0) ∧ 1 ≤ s ∧ s ≤ 999 ∧ MS μ 15468 0 < 48) → k (-1) (sI μ 15464 0 0)) : f_M_branch a s μ k := by
  obtain ⟨ha0, ha1⟩ := ha
  obtain ⟨hs0, hs1⟩ := hs
  have hA := hR.1
  have hB := hR.2.1
  have eA : rI μ 15466 0 = MS μ 15466 0 := rfl
  have eB : rI μ 15468 0 = MS μ 15468 0 := rfl
  unfold f_M_branch
  simp (disch := omega) only [forall_eq, set_in, at_in, rI_sI, rI_sL, true_and, and_true, false_and, and_false, if_true, if_false, reduceIte, w_id, w_w, w_rI, Nat.reduceEqDiff, Int.reduceNeg, Int.add_sub_cancel, within_e, hasAff_e, isAff_e, hasBr_e, hasMo_e, isMo_e, known_e, isKn_e, decide_eq_true_eq]
  rw [eB, eA]
  exact ite_i (fun q => ite_i (fun q1 => ite_i (fun q2 => h2 (by omega)) (fun q2 => ⟨by omega, by omega, by omega, by omega, h1 q (by omega) (by omega) (by omega)⟩)) (fun q1 => h2 (by omega))) (fun q => h2 (fun z => q z.1))
theorem st_branch {a s : Int} (ha : Rg a) (hs : Rg s) : Both Int (f_H_branch a s) (f_M_branch a s) := by
  intro μ hI
  have hI0 := hI
  have ha2 := ha
  have hs2 := hs
  obtain ⟨ha0, ha1⟩ := ha2
  obtain ⟨hs0, hs1⟩ := hs2
  obtain ⟨hS, hR, hT, hRR, hTT, hP, hF, hV, hW⟩ := hI
  have hA := hR.1
  have hB := hR.2.1
  refine c_branch ha hs hI0 (fun q0 q1 q2 q3 => ?_) (fun q => m_branch ha hs hR (fun q0 q1 q2 q3 => absurd ⟨q0, q1, q2, q3⟩ q) (fun _ => ⟨rfl, (thr_qt μ).inv hI0⟩))
  have eM : MS (sI (sI (sI μ 3 (MS μ 15468 0) a) 4 (MS μ 15468 0) s) 1137 0 (MS μ 15468 0 + 1)) = MS μ := by rw [MS_out rfl, MS_out rfl, MS_out rfl]
  refine m_branch ha hs (by rw [eM]; exact hR) (fun _ _ _ _ => ?_) (fun q => absurd ⟨by rw [eM]; exact q0, q1, q2, by rw [eM]; exact q3⟩ q)
  rw [eM]
  refine ⟨rfl, hS, ?_⟩
  rw [MS_in rfl, MS_in rfl, MS_in rfl, MS_out rfl, eM, CS_out rfl, CS_out rfl, CS_out rfl, CS_out rfl, CS_in (PC_C rfl), CS_in (PC_C rfl), CS_in (PC_C rfl)]
  simp only [CL_sI]
  rw [w_id ha0 ha1, w_id hs0 hs1, w_id (x := MS μ 15468 0 + 1) (by omega) (by omega)]
  generalize hσ : MS μ = σ at *
  generalize hκ : CS μ = κ at *
  generalize hBB : σ 15468 0 = B at *
  refine ⟨?_, ?_, ?_, hTT.lo ((((Lo.refl _ _).up rfl).up rfl).up rfl) ((((Lo.refl _ _).up rfl).up rfl).up rfl), hP.lo ((((Lo.refl _ _).up rfl).up rfl).up rfl) ((((Lo.refl _ _).up rfl).up rfl).up rfl), hF.lo ((((Lo.refl _ _).up rfl).up rfl).up rfl) ((((Lo.refl _ _).up rfl).up rfl).up rfl), hV.lo ((((Lo.refl _ _).up rfl).up rfl).up rfl) ((((Lo.refl _ _).up rfl).up rfl).up rfl), hW.lo (by rw [up_ne _ _ _ rfl, up_ne _ _ _ rfl, up_ne _ _ _ rfl]) (by rw [up_ne _ _ _ rfl, up_ne _ _ _ rfl, up_ne _ _ _ rfl]) (by rw [up_ne _ _ _ rfl, up_ne _ _ _ rfl, up_ne _ _ _ rfl])⟩
  · unfold WfR at *
    simp only [up_ne, up_same, Nat.reduceBEq]
    refine ⟨hR.1, by omega, hR.2.2.1, hR.2.2.2.1, hR.2.2.2.2.1, hR.2.2.2.2.2.1, fun b h0 h1 => ?_⟩
    by_cases e : b = B
    · rw [e, up_same, up_same]; omega
    · rw [up_ni _ _ _ e, up_ni _ _ _ e]; exact hR.2.2.2.2.2.2 b h0 (by omega)
  · unfold WfT at *
    simp only [up_ne, up_same, Nat.reduceBEq]
    refine ⟨fun k h0 h1 => ?_, hT.2⟩
    have := hT.1 k h0 h1
    omega
  · unfold RelR at *
    simp only [up_ne, up_same, Nat.reduceBEq]
    refine ⟨hRR.1, trivial, hRR.2.2.1, hRR.2.2.2.1, hRR.2.2.2.2.1, hRR.2.2.2.2.2.1, fun b h0 h1 => ?_, hRR.2.2.2.2.2.2.2⟩
    by_cases e : b = B
    · rw [e, up_same, up_same, up_same, up_same]; exact ⟨rfl, rfl⟩
    · simp only [up_ni _ _ _ e]; exact hRR.2.2.2.2.2.2.1 b h0 (by omega)
-- tellings
theorem c_tell {kd of mt v : Int} (hk : Rg kd) (ho : Rg of) (hm : Rg mt) (hv : Rg v) {μ : Mem} {k : Bool → Mem → Prop} (hI : Inv μ)
    (h1 : MS μ 15498 0 < 600 → k true (sI (sI (sI (sI (sI (sI μ 5 (MS μ 15498 0) kd) 6 (MS μ 15498 0) of) 7 (MS μ 15498 0) mt) 8 (MS μ 15498 0) (MS μ 15465 0)) 9 (MS μ 15498 0) v) 1138 0 (MS μ 15498 0 + 1)))
    (h2 : MS μ 15498 0 = 600 → k false μ) : f_Reg_tell kd of mt v μ k := by
  obtain ⟨hk0, hk1⟩ := hk
  obtain ⟨ho0, ho1⟩ := ho
  obtain ⟨hm0, hm1⟩ := hm
  obtain ⟨hv0, hv1⟩ := hv
  obtain ⟨hS, hR, hT, hRR, hTT, hP, hF, hV, hW⟩ := hI
  have hT3 := hR.2.2.1
  have hD := hR.2.2.2.1
  have eT : rI μ 1138 0 = MS μ 15498 0 := hRR.2.2.1
  have eD : rI μ 1139 0 = MS μ 15465 0 := hRR.2.2.2.1
  unfold f_Reg_tell
  rw [eT]
  simp (disch := omega) only [forall_eq, set_in, at_in, rI_sI, rI_sL, true_and, and_true, false_and, and_false, if_true, if_false, reduceIte, w_id, w_w, w_rI, Nat.reduceEqDiff, Int.reduceNeg, Int.add_sub_cancel, within_e, hasAff_e, isAff_e, hasBr_e, hasMo_e, isMo_e, known_e, isKn_e, decide_eq_true_eq]
  rw [eD, eT]
  exact ite_i (fun q => h1 q) (fun q => h2 (by omega))
theorem m_tells {kd of mt v : Int} (hk : Rg kd) (ho : Rg of) (hm : Rg mt) (hv : Rg v) {μ : Mem} {k : Bool → Mem → Prop} (hR : WfR (MS μ))
    (h1 : MS μ 15498 0 < 600 → k true (sI (sI (sI (sI (sI (sI μ 138 (MS μ 15498 0) kd) 139 (MS μ 15498 0) of) 140 (MS μ 15498 0) mt) 141 (MS μ 15498 0) v) 142 (MS μ 15498 0) (MS μ 15465 0)) 15498 0 (MS μ 15498 0 + 1)))
    (h2 : MS μ 15498 0 = 600 → k false μ) : f_M_tells kd of mt v μ k := by
  obtain ⟨hk0, hk1⟩ := hk
  obtain ⟨ho0, ho1⟩ := ho
  obtain ⟨hm0, hm1⟩ := hm
  obtain ⟨hv0, hv1⟩ := hv
  have hT3 := hR.2.2.1
  have hD := hR.2.2.2.1
  have eT : rI μ 15498 0 = MS μ 15498 0 := rfl
  have eD : rI μ 15465 0 = MS μ 15465 0 := rfl
  unfold f_M_tells
  simp (disch := omega) only [forall_eq, set_in, at_in, rI_sI, rI_sL, true_and, and_true, false_and, and_false, if_true, if_false, reduceIte, w_id, w_w, w_rI, Nat.reduceEqDiff, Int.reduceNeg, Int.add_sub_cancel, within_e, hasAff_e, isAff_e, hasBr_e, hasMo_e, isMo_e, known_e, isKn_e, decide_eq_true_eq]
  rw [eT, eD]
  exact ite_i (fun q => h2 q) (fun q => by
    have hb : 0 ≤ MS μ 15498 0 ∧ MS μ 15498 0 < ((600 : Nat) : Int) := by omega
    exact ⟨hb.1, hb.2, hb.1, hb.2, hb.1, hb.2, hb.1, hb.2, hb.1, hb.2, h1 (by omega)⟩)

def upC (κ : Sg) (T kd of mt d v : Int) : Sg := up (up (up (up (up (up κ 5 T kd) 6 T of) 7 T mt) 8 T d) 9 T v) 1138 0 (T + 1)
def upM (σ : Sg) (T kd of mt v d : Int) : Sg := up (up (up (up (up (up σ 138 T kd) 139 T of) 140 T mt) 141 T v) 142 T d) 15498 0 (T + 1)
theorem inv_tell {κ σ : Sg} {lo : Int64 × Int64 × Int64 × Int64} (h : InvP κ lo σ) (hT6 : σ 15498 0 < 600) {kd of mc mt v : Int} (h0 : 0 ≤ v) (h1 : 0 ≤ of)
    (h2 : (kd = 0 ∧ mt = 0 ∧ of < σ 15466 0 ∧ v ≤ 9999) ∨ (kd = 1 ∧ mt = 0 ∧ of < σ 15466 0 ∧ v ≤ 99999) ∨ (kd = 2 ∧ of < σ 15468 0 ∧ v ≤ 2) ∨ (kd = 3 ∧ of < σ 15466 0 ∧ v ≤ 3)) (h3 : 2 ≤ kd → mc = mt) :
    InvP (upC κ (σ 15498 0) kd of mc (σ 15465 0) v) lo (upM σ (σ 15498 0) kd of mt v (σ 15465 0)) := by
  obtain ⟨hR, hT, hRR, hTT, hP, hF, hV, hW⟩ := h
  have hT3 := hR.2.2.1
  have hD3 := hR.2.2.2.1
  unfold upC upM
  generalize hAA : σ 15498 0 = T at *
  generalize hDD : σ 15465 0 = D at *
  have L6 : ∀ (g : Nat → Bool) (f : Sg) (a b c d e : Nat) (x1 x2 x3 x4 x5 y : Int) (z : Nat), g a = false → g b = false → g c = false → g d = false → g e = false → g z = false → Lo g f (up (up (up (up (up (up f a T x1) b T x2) c T x3) d T x4) e T x5) z 0 y) := fun g f a b c d e x1 x2 x3 x4 x5 y z q1 q2 q3 q4 q5 q6 => ((((((Lo.refl _ _).up q1).up q2).up q3).up q4).up q5).up q6
  refine ⟨?_, ?_, ?_, hTT.lo (L6 _ _ _ _ _ _ _ _ _ _ _ _ _ _ rfl rfl rfl rfl rfl rfl) (L6 _ _ _ _ _ _ _ _ _ _ _ _ _ _ rfl rfl rfl rfl rfl rfl), hP.lo (L6 _ _ _ _ _ _ _ _ _ _ _ _ _ _ rfl rfl rfl rfl rfl rfl) (L6 _ _ _ _ _ _ _ _ _ _ _ _ _ _ rfl rfl rfl rfl rfl rfl), hF.lo (L6 _ _ _ _ _ _ _ _ _ _ _ _ _ _ rfl rfl rfl rfl rfl rfl) (L6 _ _ _ _ _ _ _ _ _ _ _ _ _ _ rfl rfl rfl rfl rfl rfl), hV.lo (L6 _ _ _ _ _ _ _ _ _ _ _ _ _ _ rfl rfl rfl rfl rfl rfl) (L6 _ _ _ _ _ _ _ _ _ _ _ _ _ _ rfl rfl rfl rfl rfl rfl), hW.lo (by simp only [up_ne, Nat.reduceBEq]) (by simp only [up_ne, Nat.reduceBEq]) (by simp only [up_ne, Nat.reduceBEq])⟩
  · unfold WfR at *
    simp only [up_ne, up_same, Nat.reduceBEq]
    exact ⟨hR.1, hR.2.1, by omega, by omega, hR.2.2.2.2.1, hR.2.2.2.2.2⟩
  · unfold WfT at *
    simp only [up_ne, up_same, Nat.reduceBEq]
    refine ⟨fun k k0 k1 => ?_, fun i j i0 i1 j1 => ?_⟩
    · by_cases e : k = T
      · rw [e]
        simp only [up_ne, up_same, Nat.reduceBEq]
        refine ⟨by omega, by omega, h0, h1, h2⟩
      · simp only [up_ni _ _ _ e]
        exact hT.1 k k0 (by omega)
    · by_cases e : j = T
      · rw [e]
        by_cases e2 : i = T
        · rw [e2]
          omega
        · simp only [up_ni _ _ _ e2, up_same]
          have := hT.1 i i0 (by omega)
          omega
      · have e2 : ¬ i = T := by omega
        simp only [up_ni _ _ _ e, up_ni _ _ _ e2]
        exact hT.2 i j i0 i1 (by omega)
  · unfold RelR at *
    simp only [up_ne, up_same, Nat.reduceBEq]
    refine ⟨hRR.1, hRR.2.1, trivial, hRR.2.2.2.1, hRR.2.2.2.2.1, hRR.2.2.2.2.2.1, hRR.2.2.2.2.2.2.1, fun k k0 k1 => ?_⟩
    by_cases e : k = T
    · rw [e]
      simp only [up_ne, up_same, Nat.reduceBEq]
      exact ⟨trivial, trivial, trivial, trivial, h3⟩
    · simp only [up_ni _ _ _ e]
      exact hRR.2.2.2.2.2.2.2 k k0 (by omega)
/-- class and model have told: what lasts then -/
theorem inv_tell2 {μ : Mem} (hI : Inv μ) (hT6 : MS μ 15498 0 < 600) {kd of mc mt v : Int} (hk : Rg kd) (ho : Rg of) (hm : Rg mt) (hmc : Rg mc) (hv : Rg v) (h0 : 0 ≤ v) (h1 : 0 ≤ of)
    (h2 : (kd = 0 ∧ mt = 0 ∧ of < MS μ 15466 0 ∧ v ≤ 9999) ∨ (kd = 1 ∧ mt = 0 ∧ of < MS μ 15466 0 ∧ v ≤ 99999) ∨ (kd = 2 ∧ of < MS μ 15468 0 ∧ v ≤ 2) ∨ (kd = 3 ∧ of < MS μ 15466 0 ∧ v ≤ 3)) (h3 : 2 ≤ kd → mc = mt)
    {ν ξ : Mem} (eC : CS ξ = upC (CS μ) (MS μ 15498 0) kd of mc (MS μ 15465 0) v) (eM : MS ξ = upM (MS μ) (MS μ 15498 0) kd of mt v (MS μ 15465 0)) (eL : CL ξ = CL μ) (eR : ξ.2.2 = μ.2.2) : Inv ξ := by
  obtain ⟨hS, hP⟩ := hI
  refine ⟨by rw [eR]; exact hS, ?_⟩
  rw [eC, eM, eL]
  exact inv_tell hP hT6 h0 h1 h2 h3
theorem c_tell_CS {μ : Mem} {kd of mt v : Int} (hk : Rg kd) (ho : Rg of) (hm : Rg mt) (hv : Rg v) (hI : Inv μ) : CS (sI (sI (sI (sI (sI (sI μ 5 (MS μ 15498 0) kd) 6 (MS μ 15498 0) of) 7 (MS μ 15498 0) mt) 8 (MS μ 15498 0) (MS μ 15465 0)) 9 (MS μ 15498 0) v) 1138 0 (MS μ 15498 0 + 1)) = upC (CS μ) (MS μ 15498 0) kd of mt (MS μ 15465 0) v := by
  obtain ⟨hS, hR, hT, hRR, hTT, hP, hF, hV, hW⟩ := hI
  have hT3 := hR.2.2.1
  rw [CS_in (PC_C rfl), CS_in (PC_C rfl), CS_in (PC_C rfl), CS_in (PC_C rfl), CS_in (PC_C rfl), CS_in (PC_C rfl), w_id hk.1 hk.2, w_id ho.1 ho.2, w_id hm.1 hm.2, w_id hv.1 hv.2, w_id (x := MS μ 15498 0 + 1) (by omega) (by omega), w_id (MS_rng _ _ _).1 (MS_rng _ _ _).2]
  rfl
theorem m_tell_MS {μ : Mem} {kd of mt v : Int} (hk : Rg kd) (ho : Rg of) (hm : Rg mt) (hv : Rg v) (hR : WfR (MS μ)) : MS (sI (sI (sI (sI (sI (sI μ 138 (MS μ 15498 0) kd) 139 (MS μ 15498 0) of) 140 (MS μ 15498 0) mt) 141 (MS μ 15498 0) v) 142 (MS μ 15498 0) (MS μ 15465 0)) 15498 0 (MS μ 15498 0 + 1)) = upM (MS μ) (MS μ 15498 0) kd of mt v (MS μ 15465 0) := by
  have hT3 := hR.2.2.1
  rw [MS_in rfl, MS_in rfl, MS_in rfl, MS_in rfl, MS_in rfl, MS_in rfl, w_id hk.1 hk.2, w_id ho.1 ho.2, w_id hm.1 hm.2, w_id hv.1 hv.2, w_id (x := MS μ 15498 0 + 1) (by omega) (by omega), w_id (MS_rng _ _ _).1 (MS_rng _ _ _).2]
  rfl
/-- both sides tell the same: answers and invariant; between them nothing that lasts may change (ν beside μ, ο beside the class's end) -/
theorem both_tell {μ ν : Mem} (hI : Inv μ) (hq : Qt μ ν) {kd of mc mt v : Int} (hk : Rg kd) (ho : Rg of) (hm : Rg mt) (hmc : Rg mc) (hv : Rg v) (h0 : 0 ≤ v) (h1 : 0 ≤ of)
    (h2 : (kd = 0 ∧ mt = 0 ∧ of < MS μ 15466 0 ∧ v ≤ 9999) ∨ (kd = 1 ∧ mt = 0 ∧ of < MS μ 15466 0 ∧ v ≤ 99999) ∨ (kd = 2 ∧ of < MS μ 15468 0 ∧ v ≤ 2) ∨ (kd = 3 ∧ of < MS μ 15466 0 ∧ v ≤ 3)) (h3 : 2 ≤ kd → mc = mt)
    {k : Bool → Mem → Prop} {G : Mem → (Bool → Mem → Prop) → Prop}
    (hk9 : ∀ (b : Bool) (ο : Mem), G ο (fun r' ξ => b = r' ∧ Inv ξ) → k b ο)
    (hG : ∀ (ο : Mem) (K : Bool → Mem → Prop), MS ο = MS μ → (∀ π : Mem, Qt ο π → f_M_tells kd of mt v π K) → G ο K) : f_Reg_tell kd of mc v ν k := by
  have hIν := hq.inv hI
  have eMν : MS ν = MS μ := hq.2.2.1
  have hT3 := hIν.2.1.2.2.1
  refine c_tell hk ho hmc hv hIν (fun q => ?_) (fun q => ?_)
  · have eM : MS (sI (sI (sI (sI (sI (sI ν 5 (MS ν 15498 0) kd) 6 (MS ν 15498 0) of) 7 (MS ν 15498 0) mc) 8 (MS ν 15498 0) (MS ν 15465 0)) 9 (MS ν 15498 0) v) 1138 0 (MS ν 15498 0 + 1)) = MS ν := by
      rw [MS_out rfl, MS_out rfl, MS_out rfl, MS_out rfl, MS_out rfl, MS_out rfl]
    refine hk9 true _ ?_
    have eC := c_tell_CS hk ho hmc hv hIν
    generalize hο : sI (sI (sI (sI (sI (sI ν 5 (MS ν 15498 0) kd) 6 (MS ν 15498 0) of) 7 (MS ν 15498 0) mc) 8 (MS ν 15498 0) (MS ν 15465 0)) 9 (MS ν 15498 0) v) 1138 0 (MS ν 15498 0 + 1) = ο at *
    have eL : CL ο = CL ν := by rw [← hο]; rfl
    have eR : ο.2.2 = ν.2.2 := by rw [← hο]; rfl
    refine hG ο _ (eM.trans eMν) (fun π hπ => ?_)
    have eMπ : MS π = MS ν := hπ.2.2.1.trans eM
    have hRπ : WfR (MS π) := by rw [eMπ]; exact hIν.2.1
    refine m_tells hk ho hm hv hRπ (fun _ => ⟨rfl, ?_⟩) (fun z => absurd z (by rw [eMπ]; omega))
    refine inv_tell2 (ν := ν) hIν q hk ho hm hmc hv h0 h1 (by rw [eMν]; exact h2) h3 ?_ ?_ ?_ ?_
    · rw [CS_out rfl, CS_out rfl, CS_out rfl, CS_out rfl, CS_out rfl, CS_out rfl, hπ.1]
      exact eC
    · rw [m_tell_MS hk ho hm hv hRπ, eMπ]
    · simp only [CL_sI]
      exact hπ.2.1.trans eL
    · exact hπ.2.2.2.trans eR
  · refine hk9 false ν ?_
    refine hG ν _ eMν (fun π hπ => ?_)
    have eMπ : MS π = MS ν := hπ.2.2.1
    exact m_tells hk ho hm hv (by rw [eMπ]; exact hIν.2.1) (fun z => absurd z (by rw [eMπ]; omega)) (fun _ => ⟨rfl, hπ.inv hIν⟩)

theorem ite_tf (b : Bool) : (if b = true then true else false) = b := by cases b <;> rfl
theorem Inv.wfR {μ : Mem} (h : Inv μ) : WfR (MS μ) := h.2.1
theorem Inv.wfT {μ : Mem} (h : Inv μ) : WfT (MS μ) := h.2.2.1
theorem Inv.relR {μ : Mem} (h : Inv μ) : RelR (CS μ) (MS μ) := h.2.2.2.1
theorem Inv.relT {μ : Mem} (h : Inv μ) : RelT (CS μ) (MS μ) := h.2.2.2.2.1
theorem Inv.relP {μ : Mem} (h : Inv μ) : RelP (CS μ) (MS μ) := h.2.2.2.2.2.1
theorem Inv.relF {μ : Mem} (h : Inv μ) : RelF (CS μ) (CL μ) (MS μ) := h.2.2.2.2.2.2.1
theorem Inv.relV {μ : Mem} (h : Inv μ) : RelV (CS μ) (CL μ) (MS μ) := h.2.2.2.2.2.2.2.1
theorem Inv.relW {μ : Mem} (h : Inv μ) : RelW (CS μ) (MS μ) := h.2.2.2.2.2.2.2.2
theorem st_heads {a n : Int} (ha : Rg a) (hn : Rg n) : Both Bool (f_H_heads a n) (f_M_heads a n) := by
  intro μ hI
  have eA : rI μ 1136 0 = MS μ 15466 0 := hI.relR.1
  have hG : ∀ (ο : Mem) (K : Bool → Mem → Prop), (MS ο 15466 0 = MS μ 15466 0) → (¬ ((0 ≤ a ∧ a < MS μ 15466 0) ∧ 0 ≤ n ∧ n ≤ 9999) → K false (sI ο 15464 0 0)) → (((0 ≤ a ∧ a < MS μ 15466 0) ∧ 0 ≤ n ∧ n ≤ 9999) → f_M_tells 0 a 0 n (sI ο 15464 0 0) K) → f_M_heads a n ο K := by
    intro ο K e z1 z2
    obtain ⟨ha0, ha1⟩ := ha
    obtain ⟨hn0, hn1⟩ := hn
    have eO : rI ο 15466 0 = MS ο 15466 0 := rfl
    unfold f_M_heads
    simp only [ite_tf]
    simp (disch := omega) only [forall_eq, set_in, at_in, rI_sI, rI_sL, true_and, and_true, false_and, and_false, if_true, if_false, reduceIte, w_id, w_w, w_rI, Nat.reduceEqDiff, Int.reduceNeg, Int.add_sub_cancel, within_e, hasAff_e, isAff_e, hasBr_e, hasMo_e, isMo_e, known_e, isKn_e, decide_eq_true_eq]
    rw [eO, e]
    exact ite_i (fun q1 => ite_i (fun q2 => z2 ⟨q1, q2⟩) (fun q2 => z1 (fun z => q2 z.2))) (fun q1 => z1 (fun z => q1 z.1))
  unfold f_H_heads
  rw [hasAff_e ha.1 ha.2, eA, w_id hn.1 hn.2]
  simp (disch := omega) only [ite_tf, forall_eq, decide_eq_true_eq, w_id]
  have bad : ¬ ((0 ≤ a ∧ a < MS μ 15466 0) ∧ 0 ≤ n ∧ n ≤ 9999) → f_M_heads a n μ (fun r' ξ => false = r' ∧ Inv ξ) := fun q => hG μ _ rfl (fun _ => ⟨rfl, (thr_qt μ).inv hI⟩) (fun z => absurd z q)
  refine ite_i (fun q1 => ite_i (fun q2 => bad (by omega)) (fun q2 => ite_i (fun q3 => bad (by omega)) (fun q3 => ?_))) (fun q1 => bad (fun z => q1 z.1))
  refine both_tell hI (Qt.refl μ) (mt := 0) (G := f_M_heads a n) ⟨by omega, by omega⟩ ha ⟨by omega, by omega⟩ ⟨by omega, by omega⟩ hn (by omega) q1.1 (Or.inl ⟨rfl, rfl, q1.2, by omega⟩) (by omega) (fun b ο h => h) (fun ο K e h => ?_)
  exact hG ο K (by rw [e]) (fun z => absurd ⟨q1, by omega, by omega⟩ z) (fun _ => h _ (thr_qt ο))
theorem st_dues {a n : Int} (ha : Rg a) (hn : Rg n) : Both Bool (f_H_dues a n) (f_M_dues a n) := by
  intro μ hI
  have eA : rI μ 1136 0 = MS μ 15466 0 := hI.relR.1
  have hG : ∀ (ο : Mem) (K : Bool → Mem → Prop), (MS ο 15466 0 = MS μ 15466 0) → (¬ ((0 ≤ a ∧ a < MS μ 15466 0) ∧ 0 ≤ n ∧ n ≤ 99999) → K false (sI ο 15464 0 0)) → (((0 ≤ a ∧ a < MS μ 15466 0) ∧ 0 ≤ n ∧ n ≤ 99999) → f_M_tells 1 a 0 n (sI ο 15464 0 0) K) → f_M_dues a n ο K := by
    intro ο K e z1 z2
    obtain ⟨ha0, ha1⟩ := ha
    obtain ⟨hn0, hn1⟩ := hn
    have eO : rI ο 15466 0 = MS ο 15466 0 := rfl
    unfold f_M_dues
    simp only [ite_tf]
    simp (disch := omega) only [forall_eq, set_in, at_in, rI_sI, rI_sL, true_and, and_true, false_and, and_false, if_true, if_false, reduceIte, w_id, w_w, w_rI, Nat.reduceEqDiff, Int.reduceNeg, Int.add_sub_cancel, within_e, hasAff_e, isAff_e, hasBr_e, hasMo_e, isMo_e, known_e, isKn_e, decide_eq_true_eq]
    rw [eO, e]
    exact ite_i (fun q1 => ite_i (fun q2 => z2 ⟨q1, q2⟩) (fun q2 => z1 (fun z => q2 z.2))) (fun q1 => z1 (fun z => q1 z.1))
  unfold f_H_dues
  rw [hasAff_e ha.1 ha.2, eA, w_id hn.1 hn.2]
  simp (disch := omega) only [ite_tf, forall_eq, decide_eq_true_eq, w_id]
  have bad : ¬ ((0 ≤ a ∧ a < MS μ 15466 0) ∧ 0 ≤ n ∧ n ≤ 99999) → f_M_dues a n μ (fun r' ξ => false = r' ∧ Inv ξ) := fun q => hG μ _ rfl (fun _ => ⟨rfl, (thr_qt μ).inv hI⟩) (fun z => absurd z q)
  refine ite_i (fun q1 => ite_i (fun q2 => bad (by omega)) (fun q2 => ite_i (fun q3 => bad (by omega)) (fun q3 => ?_))) (fun q1 => bad (fun z => q1 z.1))
  refine both_tell hI (Qt.refl μ) (mt := 0) (G := f_M_dues a n) ⟨by omega, by omega⟩ ha ⟨by omega, by omega⟩ ⟨by omega, by omega⟩ hn (by omega) q1.1 (Or.inr (Or.inl ⟨rfl, rfl, q1.2, by omega⟩)) (by omega) (fun b ο h => h) (fun ο K e h => ?_)
  exact hG ο K (by rw [e]) (fun z => absurd ⟨q1, by omega, by omega⟩ z) (fun _ => h _ (thr_qt ο))
-- days
theorem st_day {n : Int} (hn : Rg n) : Both Int (f_H_day n) (f_M_day n) := by
  intro μ hI
  have hI0 := hI
  obtain ⟨hn0, hn1⟩ := hn
  obtain ⟨hS, hR, hT, hRR, hTT, hP, hF, hV, hW⟩ := hI
  have hD := hR.2.2.2.1
  have eD : rI μ 1139 0 = MS μ 15465 0 := hRR.2.2.2.1
  have eD2 : rI μ 15465 0 = MS μ 15465 0 := rfl
  unfold f_H_day f_M_day
  rw [eD]
  simp (disch := omega) only [w_id]
  refine ite_i (fun q1 => ?_) (fun q1 => ite_i (fun q2 => ?_) (fun q2 => ?_))
  · simp (disch := omega) only [forall_eq, set_in, at_in, rI_sI, rI_sL, true_and, and_true, false_and, and_false, if_true, if_false, reduceIte, w_id, w_w, w_rI, Nat.reduceEqDiff, Int.reduceNeg, Int.add_sub_cancel, within_e, hasAff_e, isAff_e, hasBr_e, hasMo_e, isMo_e, known_e, isKn_e, decide_eq_true_eq]
    rw [if_neg (by omega)]
    first | exact ⟨rfl, (thr_qt μ).inv hI0⟩ | exact (thr_qt μ).inv hI0
  · simp (disch := omega) only [forall_eq, set_in, at_in, rI_sI, rI_sL, true_and, and_true, false_and, and_false, if_true, if_false, reduceIte, w_id, w_w, w_rI, Nat.reduceEqDiff, Int.reduceNeg, Int.add_sub_cancel, within_e, hasAff_e, isAff_e, hasBr_e, hasMo_e, isMo_e, known_e, isKn_e, decide_eq_true_eq]
    rw [if_neg (by omega)]
    first | exact ⟨rfl, (thr_qt μ).inv hI0⟩ | exact (thr_qt μ).inv hI0
  · simp (disch := omega) only [forall_eq, set_in, at_in, rI_sI, rI_sL, true_and, and_true, false_and, and_false, if_true, if_false, reduceIte, w_id, w_w, w_rI, Nat.reduceEqDiff, Int.reduceNeg, Int.add_sub_cancel, within_e, hasAff_e, isAff_e, hasBr_e, hasMo_e, isMo_e, known_e, isKn_e, decide_eq_true_eq]
    rw [eD2]
    refine ite_i (fun q3 => ?_) (fun q3 => ?_)
    · rw [if_pos (by omega), if_pos q3]
      first | exact ⟨rfl, (thr_qt μ).inv hI0⟩ | exact (thr_qt μ).inv hI0
    · rw [if_pos (by omega), if_neg q3]
      refine ⟨rfl, hS, ?_⟩
      rw [MS_in rfl, MS_out rfl, MS_out rfl, CS_out rfl, CS_out rfl, CS_in (PC_C rfl), CL_sI, CL_sI, CL_sI, w_id (x := MS μ 15465 0 + n) (by omega) (by omega)]
      generalize hσ : MS μ = σ at *
      generalize hκ : CS μ = κ at *
      generalize hDD : σ 15465 0 = D at *
      refine ⟨?_, ?_, ?_, hTT.lo ((Lo.refl _ _).up rfl) ((Lo.refl _ _).up rfl), hP.lo ((Lo.refl _ _).up rfl) ((Lo.refl _ _).up rfl), hF.lo ((Lo.refl _ _).up rfl) ((Lo.refl _ _).up rfl), ?_, hW.lo (by rw [up_ne _ _ _ rfl]) (by rw [up_ne _ _ _ rfl]) (by rw [up_ne _ _ _ rfl])⟩
      · unfold WfR at *
        simp only [up_ne, up_same, Nat.reduceBEq]
        exact ⟨hR.1, hR.2.1, hR.2.2.1, by omega, hR.2.2.2.2⟩
      · unfold WfT at *
        simp only [up_ne, up_same, Nat.reduceBEq]
        refine ⟨fun k h0 h1 => ?_, hT.2⟩
        have := hT.1 k h0 h1
        omega
      · unfold RelR at *
        simp only [up_ne, up_same, Nat.reduceBEq]
        exact ⟨hRR.1, hRR.2.1, hRR.2.2.1, trivial, hRR.2.2.2.2⟩
      · unfold RelV FlOK hw3 rw4 at *
        simp only [up_ne, up_same, Nat.reduceBEq]
        refine ⟨hV.1, hV.2.1, hV.2.2.1, hV.2.2.2.1, hV.2.2.2.2.1, fun q => ?_⟩
        obtain ⟨v1, v2, v3, v4, v5, v6⟩ := hV.2.2.2.2.2 q
        exact ⟨v1, v2, v3, v4, by omega, v6⟩
theorem st_closing {n : Int} (hn : Rg n) : Both Bool (f_H_closing n) (f_M_closing n) := by
  intro μ hI
  have hI0 := hI
  obtain ⟨hn0, hn1⟩ := hn
  obtain ⟨hS, hR, hT, hRR, hTT, hP, hF, hV, hW⟩ := hI
  unfold f_H_closing f_M_closing
  simp (disch := omega) only [w_id]
  refine ite_i (fun q1 => ?_) (fun q1 => ite_i (fun q2 => ?_) (fun q2 => ?_))
  · simp (disch := omega) only [forall_eq, set_in, at_in, rI_sI, rI_sL, true_and, and_true, false_and, and_false, if_true, if_false, reduceIte, w_id, w_w, w_rI, Nat.reduceEqDiff, Int.reduceNeg, Int.add_sub_cancel, within_e, hasAff_e, isAff_e, hasBr_e, hasMo_e, isMo_e, known_e, isKn_e, decide_eq_true_eq]
    rw [if_neg (by omega)]
    first | exact ⟨rfl, (thr_qt μ).inv hI0⟩ | exact (thr_qt μ).inv hI0
  · simp (disch := omega) only [forall_eq, set_in, at_in, rI_sI, rI_sL, true_and, and_true, false_and, and_false, if_true, if_false, reduceIte, w_id, w_w, w_rI, Nat.reduceEqDiff, Int.reduceNeg, Int.add_sub_cancel, within_e, hasAff_e, isAff_e, hasBr_e, hasMo_e, isMo_e, known_e, isKn_e, decide_eq_true_eq]
    rw [if_neg (by omega)]
    first | exact ⟨rfl, (thr_qt μ).inv hI0⟩ | exact (thr_qt μ).inv hI0
  · simp (disch := omega) only [forall_eq, set_in, at_in, rI_sI, rI_sL, true_and, and_true, false_and, and_false, if_true, if_false, reduceIte, w_id, w_w, w_rI, Nat.reduceEqDiff, Int.reduceNeg, Int.add_sub_cancel, within_e, hasAff_e, isAff_e, hasBr_e, hasMo_e, isMo_e, known_e, isKn_e, decide_eq_true_eq]
    rw [if_pos (by omega)]
    refine ⟨hS, ?_⟩
    rw [MS_in rfl, MS_out rfl, MS_out rfl, CS_out rfl, CS_out rfl, CS_in (PC_C rfl), CL_sI, CL_sI, CL_sI, w_id hn0 hn1]
    generalize hσ : MS μ = σ at *
    generalize hκ : CS μ = κ at *
    refine ⟨?_, (by unfold WfT at *; simp only [up_ne, Nat.reduceBEq]; exact hT), ?_, hTT.lo ((Lo.refl _ _).up rfl) ((Lo.refl _ _).up rfl), hP.lo ((Lo.refl _ _).up rfl) ((Lo.refl _ _).up rfl), hF.lo ((Lo.refl _ _).up rfl) ((Lo.refl _ _).up rfl), hV.lo ((Lo.refl _ _).up rfl) ((Lo.refl _ _).up rfl), hW.lo (by rw [up_ne _ _ _ rfl]) (by rw [up_ne _ _ _ rfl]) (by rw [up_ne _ _ _ rfl])⟩
    · unfold WfR at *
      simp only [up_ne, up_same, Nat.reduceBEq]
      exact ⟨hR.1, hR.2.1, hR.2.2.1, hR.2.2.2.1, by omega, hR.2.2.2.2.2⟩
    · unfold RelR at *
      simp only [up_ne, up_same, Nat.reduceBEq]
      exact ⟨hRR.1, hRR.2.1, hRR.2.2.1, hRR.2.2.2.1, trivial, hRR.2.2.2.2.2⟩
