/-! LINE -/
theorem Ic.lineAt {σ : Sg} {μ : Mem} (h : Ic σ μ) {m i : Int} (m0 : 0 ≤ m) (m1 : m < 24) (i0 : 0 ≤ i) (i1 : i < σ 125 m) : i < 12 ∧ rI μ 70 (m * 12 + i) = σ 126 (12 * m + i) ∧ rI μ 71 (m * 12 + i) = σ 127 (12 * m + i) ∧ rI μ 72 (m * 12 + i) = σ 128 (12 * m + i) ∧ b01 (σ 127 (12 * m + i)) := by
  obtain ⟨hr, wl, hl⟩ := h.row m0 m1
  have l12 := wl.1
  have hi : i.toNat < (rowOf σ m).length := by omega
  have g := rowOf_getD hl hi
  have e : ((i.toNat : Nat) : Int) = i := by omega
  have r := hr.2 i.toNat hi
  have b := (wl.at hi).2.2.1
  rw [g, e] at r b
  exact ⟨by omega, r.1, r.2.1, r.2.2, b⟩
theorem st_line {m i f : Int} (hm : Rg m) (hi : Rg i) (hf : Rg f) : Both Int (f_H_line m i f) (f_M_line m i f) := by
  obtain ⟨hm0, hm1⟩ := hm
  obtain ⟨hi0, hi1⟩ := hi
  obtain ⟨hf0, hf1⟩ := hf
  refine both_q (fun σ => pick ((0 ≤ m ∧ m < σ 15472 0) ∧ 0 ≤ i ∧ i < σ 125 m ∧ 0 ≤ f ∧ f ≤ 2) (if f = 0 then σ 126 (12 * m + i) else if f = 1 then σ 127 (12 * m + i) else σ 128 (12 * m + i)) (if f = 0 then 0 else -1)) (fun μ K hI h => ?_) (fun μ K hI h => ?_)
  · have no : ¬ ((0 ≤ m ∧ m < MS μ 15472 0) ∧ 0 ≤ i ∧ i < MS μ 125 m ∧ 0 ≤ f ∧ f ≤ 2) → K (if f = 0 then 0 else -1) μ := fun z => by
      have := h μ (Qt.refl μ)
      rw [pick_f z] at this
      exact this
    have hc := hI.cnt
    have eP : rI μ 2543 0 = MS μ 15472 0 := (cr' rfl).trans hI.relP.1
    unfold f_H_line
    intro x ex
    rw [w_id hf0 hf1] at ex
    rw [hasMo_e hm0 hm1, eP]
    simp only [decide_eq_true_eq]
    rw [ex]
    refine ite_i (fun q1 => ?_) (fun q1 => no (fun z => q1 z.1))
    have l0 := hI.row q1.1 (show m < 24 by omega)
    have l12 := l0.2.1.1
    unfold v_Floor_sizeOf v_Floor_lineOf v_Floor_mustOf v_Floor_byOf
    rw [at_in (by omega) (by omega) (by decide), l0.1.1, ← l0.2.2]
    (try simp (disch := omega) only [w_id])
    refine ite_i (fun q2 => no (fun z => by omega)) (fun q2 => ite_i (fun q3 => ?_) (fun q3 => no (fun z => q3 z.2.2.1)))
    obtain ⟨g0, g1, g2, g3, -⟩ := hI.lineAt q1.1 (by omega) (show 0 ≤ i by omega) q3
    rw [at_in (by omega) (by omega) (by decide), at_in (by omega) (by omega) (by decide), at_in (by omega) (by omega) (by decide), g1, g2, g3]
    have yes : 0 ≤ f ∧ f ≤ 2 → K (if f = 0 then MS μ 126 (12 * m + i) else if f = 1 then MS μ 127 (12 * m + i) else MS μ 128 (12 * m + i)) μ := fun z => by
      have := h μ (Qt.refl μ)
      rw [pick_t ⟨q1, by omega, q3, z⟩] at this
      exact this
    refine ite_i (fun c => ?_) (fun c => ite_i (fun c2 => ?_) (fun c2 => ite_i (fun c3 => ?_) (fun c3 => no (fun z => by omega))))
    · have := yes (by omega)
      rw [if_pos c] at this
      exact this
    · have := yes (by omega)
      rw [if_neg c, if_pos c2] at this
      exact this
    · have := yes (by omega)
      rw [if_neg c, if_neg c2] at this
      exact this
  · have eM := thr_ms μ
    have mR : ∀ (q : Nat) (j : Int), inM q = true → rI (sI μ 15464 0 0) q j = MS μ q j := fun q j h => (mr h).trans (by rw [eM])
    have hc := hI.cnt
    have no : ¬ ((0 ≤ m ∧ m < MS μ 15472 0) ∧ 0 ≤ i ∧ i < MS μ 125 m ∧ 0 ≤ f ∧ f ≤ 2) → ∀ x : Int, x = (if f = 0 then 0 else -1) → K x (sI μ 15464 0 0) := fun z x ex => by
      have := h _ (thr_qt μ)
      rw [pick_f z] at this
      rw [ex]
      exact this
    unfold f_M_line
    intro μ1 e1
    subst e1
    rw [isMo_e hm0 hm1, within_e hf0 hf1 (by decide) (by decide) (by decide) (by decide), mR _ _ rfl]
    simp only [decide_eq_true_eq]
    (try simp (disch := omega) only [w_id])
    refine ite_i (fun q1 => ite_i (fun q2 => no (fun z => by omega)) (fun q2 => ?_)) (fun q1 => no (fun z => q1 z.1))
    have l0 := hI.row q1.1 (show m < 24 by omega)
    have l12 := l0.2.1.1
    (try simp (disch := omega) only [w_id])
    rw [mR _ _ rfl]
    (try simp (disch := omega) only [w_id])
    refine ⟨by omega, by omega, ite_i (fun q3 => ite_i (fun q4 v ev => ?_) (fun q4 => no (fun z => q4 z.2.2.2))) (fun q3 => no (fun z => q3 z.2.2.1))⟩
    obtain ⟨g0, -, -, -, g4⟩ := hI.lineAt q1.1 (by omega) (show 0 ≤ i by omega) q3
    have yes := h _ (thr_qt μ)
    rw [pick_t ⟨q1, by omega, q3, q4⟩] at yes
    rw [ev]
    (try simp (disch := omega) only [w_id])
    rw [rB_rI, mR _ _ rfl, mR _ _ rfl, mR _ _ rfl]
    refine ite_i (fun c => ⟨by omega, by omega, ?_⟩) (fun c => ite_i (fun c2 => ⟨by omega, by omega, fun x ex => ?_⟩) (fun c2 => ⟨by omega, by omega, ?_⟩))
    · rw [if_pos c] at yes
      exact yes
    · rw [if_neg c, if_pos c2] at yes
      have : x = MS μ 127 (12 * m + i) := by
        rw [ex]
        rcases g4 with b | b
        · rw [b]; rfl
        · rw [b]; rfl
      rw [this]
      exact yes
    · rw [if_neg c, if_neg c2] at yes
      exact yes
