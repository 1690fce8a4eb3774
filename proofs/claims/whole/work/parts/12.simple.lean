/-! THE SIMPLE CALLS -/
theorem c_affiliate {a : Int} (ha : Rg a) {μ : Mem} {k : Int → Mem → Prop} (hI : Inv μ)
    (h1 : 0 ≤ a → a ≤ 5 → MS μ 15338 0 < 12 → k (MS μ 15338 0) (sI (sI μ 2 (MS μ 15338 0) a) 1136 0 (MS μ 15338 0 + 1)))
    (h2 : ¬ (0 ≤ a ∧ a ≤ 5 ∧ MS μ 15338 0 < 12) → k (-1) μ) : f_H_affiliate a μ k := by
  obtain ⟨ha0, ha1⟩ := ha
  obtain ⟨hS, hR, hT, hRR, hTT, hP, hF, hV, hW⟩ := hI
  obtain ⟨⟨hA0, hA1⟩, -⟩ := hR
  have hA : rI μ 1136 0 = MS μ 15338 0 := hRR.1
  unfold f_H_affiliate f_Reg_addAffiliate
  rw [hA]
  generalize MS μ 15338 0 = A at *
  simp (disch := omega) only [forall_eq, set_in, at_in, rI_sI, rI_sL, true_and, and_true, false_and, and_false, if_true, if_false, reduceIte, w_id, w_w, w_rI, Nat.reduceEqDiff, Int.reduceNeg, Nat.cast_ofNat, Int.cast_ofNat_Int]
  refine ite_i (fun h => h2 (by omega)) (fun h => ite_i (fun h' => ite_i (fun h'' => ?_) (fun h'' => h2 (by omega))) (fun h' => h2 (by omega)))
  have := h1 (by omega) (by omega) (by omega)
  simp (disch := omega) only [forall_eq, set_in, at_in, rI_sI, rI_sL, true_and, and_true, false_and, and_false, if_true, if_false, reduceIte, w_id, w_w, w_rI, Nat.reduceEqDiff, Int.reduceNeg, Nat.cast_ofNat, Int.cast_ofNat_Int]
  rw [hA]
  simp (disch := omega) only [forall_eq, set_in, at_in, rI_sI, rI_sL, true_and, and_true, false_and, and_false, if_true, if_false, reduceIte, w_id, w_w, w_rI, Nat.reduceEqDiff, Int.reduceNeg, Nat.cast_ofNat, Int.cast_ofNat_Int]
  rw [show A + 1 - 1 = A by omega]
  exact this
theorem m_affiliate {a : Int} (ha : Rg a) {μ : Mem} {k : Int → Mem → Prop} (hR : WfR (MS μ))
    (h1 : 0 ≤ a → a ≤ 5 → MS μ 15338 0 < 12 → k (MS μ 15338 0) (sI (sI (sI μ 15336 0 0) 113 (MS μ 15338 0) a) 15338 0 (MS μ 15338 0 + 1)))
    (h2 : ¬ (0 ≤ a ∧ a ≤ 5 ∧ MS μ 15338 0 < 12) → k (-1) (sI μ 15336 0 0)) : f_M_affiliate a μ k := by
  obtain ⟨ha0, ha1⟩ := ha
  obtain ⟨⟨hA0, hA1⟩, -⟩ := hR
  have hA : rI μ 15338 0 = MS μ 15338 0 := rfl
  unfold f_M_affiliate v_M_within
  simp (disch := omega) only [forall_eq, set_in, at_in, rI_sI, rI_sL, true_and, and_true, false_and, and_false, if_true, if_false, reduceIte, w_id, w_w, w_rI, Nat.reduceEqDiff, Int.reduceNeg, Nat.cast_ofNat, Int.cast_ofNat_Int]
  rw [hA]
  generalize MS μ 15338 0 = A at *
  simp (disch := omega) only [forall_eq, set_in, at_in, rI_sI, rI_sL, true_and, and_true, false_and, and_false, if_true, if_false, reduceIte, w_id, w_w, w_rI, Nat.reduceEqDiff, Int.reduceNeg, Nat.cast_ofNat, Int.cast_ofNat_Int]
  sorry
