/-! MATTERS; QUESTIONS THAT CHANGE NOTHING -/
def isMt (σ : Sg) (x : Int) : Prop := (0 ≤ x ∧ x < σ 15472 0) ∨ (100 ≤ x ∧ x < 100 + σ 15474 0) ∨ (200 ≤ x ∧ x < 200 + σ 15479 0)
theorem Ic.cnt {σ : Sg} {μ : Mem} (h : Ic σ μ) : 0 ≤ σ 15472 0 ∧ σ 15472 0 ≤ 24 ∧ 0 ≤ σ 15474 0 ∧ σ 15474 0 ≤ 40 ∧ 0 ≤ σ 15479 0 ∧ σ 15479 0 ≤ 10 := by
  have h2 := h.relP
  unfold RelP at h2
  exact ⟨h2.2.1, h2.2.2.1, h2.2.2.2.2.1, h2.2.2.2.2.2.1, h2.2.2.2.2.2.2.2.1, h2.2.2.2.2.2.2.2.2.1⟩
theorem Ic.hwc {σ : Sg} {μ : Mem} (h : Ic σ μ) {x : Int} (h0 : 0 ≤ x) (h1 : x < 210) : rI μ 68 x = hw σ x := by
  have h2 := h.relF
  unfold RelF FlOK at h2
  exact h2.2.2.2.1 x h0 h1
theorem Ic.hwr {σ : Sg} {μ : Mem} (h : Ic σ μ) (x : Int) : -1 ≤ hw σ x ∧ hw σ x ≤ 4 := by
  have h2 := h.relF
  unfold RelF FlOK at h2
  exact h2.2.2.2.2.1 x
theorem hw_not {σ : Sg} {x : Int} (h : ¬ isMt σ x) : hw σ x = -1 := by
  unfold isMt at h
  unfold hw hw3
  rw [if_neg (fun z => h (Or.inl z)), if_neg (fun z => h (Or.inr (Or.inl z))), if_neg (fun z => h (Or.inr (Or.inr z)))]
theorem Ic.hwn {σ : Sg} {μ : Mem} (h : Ic σ μ) {x : Int} (hx : isMt σ x) : 0 ≤ hw σ x := by
  have h2 := h.relF
  have hc := h.cnt
  unfold RelF FlOK at h2
  obtain ⟨-, -, -, -, -, n1, n2, n3, -⟩ := h2
  unfold isMt at hx
  unfold hw hw3
  by_cases c1 : 0 ≤ x ∧ x < σ 15472 0
  · rw [if_pos c1]; exact n1 x c1.1 c1.2
  · rw [if_neg c1]
    by_cases c2 : 100 ≤ x ∧ x < 100 + σ 15474 0
    · rw [if_pos c2]; exact n2 (x - 100) (by omega) (by omega)
    · rw [if_neg c2]
      by_cases c3 : 200 ≤ x ∧ x < 200 + σ 15479 0
      · rw [if_pos c3]; exact n3 (x - 200) (by omega) (by omega)
      · exact absurd hx (fun z => by rcases z with z | z | z <;> contradiction)
theorem Ic.hw_iff {σ : Sg} {μ : Mem} (h : Ic σ μ) (x : Int) : (¬ hw σ x = -1) ↔ isMt σ x := by
  by_cases c : isMt σ x
  · have := h.hwn c
    exact ⟨fun _ => c, fun _ => by omega⟩
  · exact ⟨fun z => absurd (hw_not c) z, fun z => absurd z c⟩
theorem isMt_lt {σ : Sg} {μ : Mem} (h : Ic σ μ) {x : Int} (hx : isMt σ x) : 0 ≤ x ∧ x < 210 := by
  have hc := h.cnt
  unfold isMt at hx
  omega
theorem stateOf_e {σ : Sg} {μ : Mem} (h : Ic σ μ) {x : Int} (hx : Rg x) : v_Floor_stateOf x μ = hw σ x := by
  obtain ⟨h0, h1⟩ := hx
  unfold v_Floor_stateOf
  (try simp (disch := omega) only [w_id])
  by_cases c : x < 0
  · rw [if_pos c, hw_not (fun z => by have := isMt_lt h z; omega)]
  · rw [if_neg c]
    by_cases c2 : x < 210
    · rw [if_pos c2, at_in (by omega) (by omega) (by decide), h.hwc (by omega) c2]
    · rw [if_neg c2, hw_not (fun z => by have := isMt_lt h z; omega)]
theorem has_e {σ : Sg} {μ : Mem} (h : Ic σ μ) {x : Int} (hx : Rg x) : (v_Floor_has x μ = true) ↔ isMt σ x := by
  have hr := h.hwr x
  unfold v_Floor_has
  rw [stateOf_e h hx, w_id (by omega) (by omega), w_id (by omega) (by omega)]
  rw [← h.hw_iff x]
  by_cases c : hw σ x = -1
  · rw [if_pos c]; simp [c]
  · rw [if_neg c]; simp [c]
theorem isMatter_e {μ : Mem} (hc : 0 ≤ MS μ 15472 0 ∧ MS μ 15472 0 ≤ 24 ∧ 0 ≤ MS μ 15474 0 ∧ MS μ 15474 0 ≤ 40 ∧ 0 ≤ MS μ 15479 0 ∧ MS μ 15479 0 ≤ 10) {x : Int} (hx : Rg x) : (v_M_isMatter x μ = true) ↔ isMt (MS μ) x := by
  obtain ⟨h0, h1⟩ := hx
  have e1 : rI μ 15472 0 = MS μ 15472 0 := rfl
  have e2 : rI μ 15474 0 = MS μ 15474 0 := rfl
  have e3 : rI μ 15479 0 = MS μ 15479 0 := rfl
  unfold v_M_isMatter isMt
  rw [isMo_e h0 h1, e1, e2, e3, within_e h0 h1 (by omega) (by omega) (by omega) (by omega), within_e h0 h1 (by omega) (by omega) (by omega) (by omega)]
  by_cases c1 : 0 ≤ x ∧ x < MS μ 15472 0
  · rw [if_pos (decide_eq_true c1)]
    exact ⟨fun _ => Or.inl c1, fun _ => rfl⟩
  · rw [if_neg (fun z => c1 (of_decide_eq_true z))]
    by_cases c2 : 100 ≤ x ∧ x ≤ 100 + MS μ 15474 0 - 1
    · rw [if_pos (decide_eq_true c2)]
      exact ⟨fun _ => Or.inr (Or.inl (by omega)), fun _ => rfl⟩
    · rw [if_neg (fun z => c2 (of_decide_eq_true z))]
      by_cases c3 : 200 ≤ x ∧ x ≤ 200 + MS μ 15479 0 - 1
      · rw [if_pos (decide_eq_true c3)]
        exact ⟨fun _ => Or.inr (Or.inr (by omega)), fun _ => rfl⟩
      · rw [if_neg (fun z => c3 (of_decide_eq_true z))]
        exact ⟨fun z => absurd z (by decide), fun z => by omega⟩
theorem m_howOf {μ : Mem} (hc : 0 ≤ MS μ 15472 0 ∧ MS μ 15472 0 ≤ 24 ∧ 0 ≤ MS μ 15474 0 ∧ MS μ 15474 0 ≤ 40 ∧ 0 ≤ MS μ 15479 0 ∧ MS μ 15479 0 ≤ 10) {x : Int} (hx : isMt (MS μ) x) {K : Int → Mem → Prop} (h : K (hw (MS μ) x) μ) : f_M_howOf x μ K := by
  have hx2 := hx
  unfold isMt at hx2
  unfold hw hw3 at h
  unfold f_M_howOf
  simp (disch := omega) only [w_id]
  refine ite_i (fun c => ⟨by omega, by omega, ?_⟩) (fun c => ite_i (fun c2 => ⟨by omega, by omega, ?_⟩) (fun c2 => ⟨by omega, by omega, ?_⟩))
  · rw [if_pos (by omega)] at h
    exact h
  · rw [if_neg (by omega), if_pos (by omega)] at h
    exact h
  · rw [if_neg (by omega), if_neg (by omega), if_pos (by omega)] at h
    exact h
/-- a question: what lasts stays, and the answer is made of what the model keeps -/
theorem both_q {α : Type} {F G : Mem → (α → Mem → Prop) → Prop} (r : Sg → α) (hF : ∀ (μ : Mem) (K : α → Mem → Prop), Iv μ → (∀ ν : Mem, Qt μ ν → K (r (MS μ)) ν) → F μ K) (hG : ∀ (μ : Mem) (K : α → Mem → Prop), Iv μ → (∀ ν : Mem, Qt μ ν → K (r (MS μ)) ν) → G μ K) : Both α F G :=
  fun μ hI => hF μ _ hI.iv (fun ν q => hG ν _ (q.iv hI.iv) (fun ξ q2 => ⟨by rw [q.2.2.1], q2.inv (q.inv hI)⟩))
/-- the model's questions begin with thrown -/
theorem thr_ms (μ : Mem) : MS (sI μ 15464 0 0) = MS μ := (thr_qt μ).2.2.1
def isAf (σ : Sg) (a : Int) : Prop := 0 ≤ a ∧ a < σ 15466 0
def isKn (σ : Sg) (k : Int) : Prop := 0 ≤ k ∧ k ≤ σ 15465 0
theorem hasAff_i {σ : Sg} {μ : Mem} (h : Ic σ μ) {a : Int} (ha : Rg a) : (v_Reg_hasAffiliate a μ = true) ↔ isAf σ a := by
  have eA : rI μ 1136 0 = σ 15466 0 := h.relR.1
  rw [hasAff_e ha.1 ha.2, eA, decide_eq_true_eq]
  exact Iff.rfl
theorem isAff_i {μ : Mem} {a : Int} (ha : Rg a) : (v_M_isAffiliate a μ = true) ↔ isAf (MS μ) a := by
  have eA : rI μ 15466 0 = MS μ 15466 0 := rfl
  rw [isAff_e ha.1 ha.2, eA, decide_eq_true_eq]
  exact Iff.rfl
theorem known_i {σ : Sg} {μ : Mem} (h : Ic σ μ) {a : Int} (ha : Rg a) : (v_Reg_isKnownDay a μ = true) ↔ isKn σ a := by
  have eD : rI μ 1139 0 = σ 15465 0 := h.relR.2.2.2.1
  rw [known_e ha.1 ha.2, eD, decide_eq_true_eq]
  exact Iff.rfl
theorem isKn_i {μ : Mem} {a : Int} (ha : Rg a) : (v_M_isKnown a μ = true) ↔ isKn (MS μ) a := by
  have eD : rI μ 15465 0 = MS μ 15465 0 := rfl
  rw [isKn_e ha.1 ha.2, eD, decide_eq_true_eq]
  exact Iff.rfl
theorem ite_b {b : Bool} {p P Q : Prop} (e : b = true ↔ p) (h : p → P) (k : ¬ p → Q) : if b = true then P else Q := ite_i (fun z => h (e.mp z)) (fun z => k (fun y => z (e.mpr y)))
noncomputable def pick {α : Type} (c : Prop) (x y : α) : α := @ite α c (Classical.propDecidable c) x y
theorem pick_t {α : Type} {c : Prop} {x y : α} (h : c) : pick c x y = x := if_pos h
theorem pick_f {α : Type} {c : Prop} {x y : α} (h : ¬ c) : pick c x y = y := if_neg h
-- how
theorem st_how {x : Int} (hx : Rg x) : Both Int (fun μ k => k (v_H_how x μ) μ) (f_M_how x) := by
  refine both_q (fun σ => hw σ x) (fun μ K hI h => ?_) (fun μ K hI h => ?_)
  · show K (v_H_how x μ) μ
    unfold v_H_how
    rw [stateOf_e hI hx]
    exact h μ (Qt.refl μ)
  · unfold f_M_how
    intro μ1 e1
    subst e1
    have eM := thr_ms μ
    have hc := hI.cnt
    refine ite_b (isMatter_e (by rw [eM]; exact hc) hx) (fun q => m_howOf (by rw [eM]; exact hc) q ?_) (fun q => ?_)
    · rw [eM]
      exact h _ (thr_qt μ)
    · rw [eM] at q
      have := h _ (thr_qt μ)
      rw [hw_not q] at this
      exact this
-- voice
theorem st_voice {a mt kn wh : Int} (ha : Rg a) (hm : Rg mt) (hn : Rg kn) (hw' : Rg wh) : Both Int (f_H_voice a mt kn wh) (f_M_voice a mt kn wh) := by
  obtain ⟨hw0, hw1⟩ := hw'
  refine both_q (fun σ => pick (isAf σ a ∧ isMt σ mt ∧ isKn σ kn ∧ 0 ≤ wh ∧ wh ≤ 1) (if wh = 0 then vo σ a mt kn else md σ a mt kn) (-1)) (fun μ K hI h => ?_) (fun μ K hI h => ?_)
  · have no : ¬ (isAf (MS μ) a ∧ isMt (MS μ) mt ∧ isKn (MS μ) kn ∧ 0 ≤ wh ∧ wh ≤ 1) → K (-1) μ := fun z => by
      have := h μ (Qt.refl μ)
      rw [pick_f z] at this
      exact this
    unfold f_H_voice
    (try simp (disch := omega) only [w_id])
    refine ite_b (hasAff_i hI ha) (fun q1 => ite_b (has_e hI hm) (fun q2 => ite_b (known_i hI hn) (fun q3 => ite_i (fun q4 => no (fun z => by omega)) (fun q4 => ite_i (fun q5 => no (fun z => by omega)) (fun q5 => ?_))) (fun q3 => no (fun z => q3 z.2.2.1))) (fun q2 => no (fun z => q2 z.2.1))) (fun q1 => no (fun z => q1 z.1))
    refine c_take hI hm hn (fun ν hf hk => ?_)
    have hq : Qt μ ν := hf.qt rfl
    have hA := hI.wfR.1
    have := h ν hq
    rw [pick_t ⟨q1, q2, q3, by omega, by omega⟩] at this
    have rA : RegA (MS μ) ν := by have := (hq.iv hI).regA; rw [hq.2.2.1] at this; exact this
    refine ite_i (fun q6 => ?_) (fun q6 => ?_)
    · rw [if_pos q6] at this
      exact c_voiceOf (mt := mt) (kn := kn) (by unfold isAf at q1; omega) hI.wfR hI.wfT rA (fun x x0 x1 => (hk.1 x x0 x1).2.2) hk.2.1 this
    · rw [if_neg q6] at this
      exact c_mandateOf (by unfold isAf at q1; omega) (by unfold isAf at q1; omega) hI.wfR hI.wfT rA hk.2.1 this
  · have eM := thr_ms μ
    have hth := h _ (thr_qt μ)
    have no : ¬ (isAf (MS μ) a ∧ isMt (MS μ) mt ∧ isKn (MS μ) kn ∧ 0 ≤ wh ∧ wh ≤ 1) → K (-1) (sI μ 15464 0 0) := fun z => by
      rw [pick_f z] at hth
      exact hth
    have hc := hI.cnt
    unfold f_M_voice
    intro μ1 e1
    subst e1
    rw [within_e hw0 hw1 (by decide) (by decide) (by decide) (by decide)]
    (try simp (disch := omega) only [w_id, decide_eq_true_eq])
    refine ite_b (isAff_i ha) (fun q1 => ite_b (isMatter_e (by rw [eM]; exact hc) hm) (fun q2 => ite_b (isKn_i hn) (fun q3 => ite_i (fun q4 => ?_) (fun q4 => no (fun z => q4 z.2.2.2))) (fun q3 => no (fun z => q3 (by rw [eM]; exact z.2.2.1)))) (fun q2 => no (fun z => q2 (by rw [eM]; exact z.2.1)))) (fun q1 => no (fun z => q1 (by rw [eM]; exact z.1)))
    rw [eM] at q1 q2 q3
    rw [pick_t ⟨q1, q2, q3, q4⟩] at hth
    refine ite_i (fun q6 => ?_) (fun q6 => ?_)
    · rw [if_pos q6] at hth
      exact m_voiceOf ha hm hn (by rw [eM]; exact hI.wfR) (by rw [eM]; exact hI.wfT) (by rw [eM]; exact hth)
    · rw [if_neg q6] at hth
      exact m_mandateOf ha hm hn (by rw [eM]; exact hI.wfR) (by rw [eM]; exact hI.wfT) (by rw [eM]; exact hth)
