/-! WHAT IS KNOWN ON A DAY: tellings, mandates, voices, on both sides -/
/-- the invariant without the latest DECISION and its ROWS -/
def Ic (σ : Sg) (μ : Mem) : Prop := StatR μ.2.2 ∧ WfR σ ∧ WfT σ ∧ RelR (CS μ) σ ∧ RelT (CS μ) σ ∧ RelP (CS μ) σ ∧ RelF (CS μ) (CL μ) σ ∧ RelW (CS μ) σ
abbrev Iv (μ : Mem) : Prop := Ic (MS μ) μ
theorem Inv.iv {μ : Mem} (h : Inv μ) : Iv μ := ⟨h.1, h.wfR, h.wfT, h.relR, h.relT, h.relP, h.relF, h.relW⟩
theorem Iv.inv {μ : Mem} (h : Iv μ) (k : RelV (CS μ) (CL μ) (MS μ)) : Inv μ := ⟨h.1, h.2.1, h.2.2.1, h.2.2.2.1, h.2.2.2.2.1, h.2.2.2.2.2.1, h.2.2.2.2.2.2.1, k, h.2.2.2.2.2.2.2⟩
theorem Ic.wfR {σ : Sg} {μ : Mem} (h : Ic σ μ) : WfR σ := h.2.1
theorem Ic.wfT {σ : Sg} {μ : Mem} (h : Ic σ μ) : WfT σ := h.2.2.1
theorem Ic.relR {σ : Sg} {μ : Mem} (h : Ic σ μ) : RelR (CS μ) σ := h.2.2.2.1
theorem Ic.relT {σ : Sg} {μ : Mem} (h : Ic σ μ) : RelT (CS μ) σ := h.2.2.2.2.1
theorem Ic.relP {σ : Sg} {μ : Mem} (h : Ic σ μ) : RelP (CS μ) σ := h.2.2.2.2.2.1
theorem Ic.relF {σ : Sg} {μ : Mem} (h : Ic σ μ) : RelF (CS μ) (CL μ) σ := h.2.2.2.2.2.2.1
theorem Ic.relW {σ : Sg} {μ : Mem} (h : Ic σ μ) : RelW (CS μ) σ := h.2.2.2.2.2.2.2
theorem Qt.ic {σ : Sg} {μ ν : Mem} (q : Qt μ ν) (h : Ic σ μ) : Ic σ ν := by
  unfold Ic
  rw [q.1, q.2.1, q.2.2.2]
  exact h
theorem Qt.iv {μ ν : Mem} (q : Qt μ ν) (h : Iv μ) : Iv ν := by
  show Ic (MS ν) ν
  rw [q.2.2.1]
  exact q.ic h
theorem tlN_or {σ : Sg} {kd of mt kn wo : Int} : ∀ n : Nat, tlN σ kd of mt kn wo n = wo ∨ ∃ k : Nat, k < n ∧ σ 138 (k : Int) = kd ∧ tlN σ kd of mt kn wo n = σ 141 (k : Int)
  | 0 => Or.inl rfl
  | n + 1 => by
    unfold tlN
    by_cases h : σ 138 (n : Int) = kd ∧ σ 139 (n : Int) = of ∧ σ 140 (n : Int) = mt ∧ σ 142 (n : Int) ≤ kn
    · rw [if_pos h]
      exact Or.inr ⟨n, by omega, h.1, rfl⟩
    · rw [if_neg h]
      rcases tlN_or n with h | ⟨k, h1, h2, h3⟩
      · exact Or.inl h
      · exact Or.inr ⟨k, by omega, h2, h3⟩
theorem tl_or {σ : Sg} (hR : WfR σ) (kd of mt kn wo : Int) : tl σ kd of mt kn wo = wo ∨ ∃ k : Int, 0 ≤ k ∧ k < σ 15498 0 ∧ σ 138 k = kd ∧ tl σ kd of mt kn wo = σ 141 k := by
  have hT := hR.2.2.1
  rcases tlN_or (σ := σ) (kd := kd) (of := of) (mt := mt) (kn := kn) (wo := wo) (σ 15498 0).toNat with h | ⟨k, h1, h2, h3⟩
  · exact Or.inl h
  · exact Or.inr ⟨k, by omega, by omega, h2, h3⟩
theorem tl_0 {σ : Sg} (hR : WfR σ) (hT : WfT σ) (of mt kn : Int) : 0 ≤ tl σ 0 of mt kn 0 ∧ tl σ 0 of mt kn 0 ≤ 9999 := by
  rcases tl_or hR 0 of mt kn 0 with h | ⟨k, h1, h2, h3, h4⟩
  · omega
  · have := hT.1 k h1 h2
    omega
theorem tl_1 {σ : Sg} (hR : WfR σ) (hT : WfT σ) (of mt kn : Int) : 0 ≤ tl σ 1 of mt kn 0 ∧ tl σ 1 of mt kn 0 ≤ 99999 := by
  rcases tl_or hR 1 of mt kn 0 with h | ⟨k, h1, h2, h3, h4⟩
  · omega
  · have := hT.1 k h1 h2
    omega
theorem tl_2 {σ : Sg} (hR : WfR σ) (hT : WfT σ) (of mt kn : Int) : 0 ≤ tl σ 2 of mt kn 2 ∧ tl σ 2 of mt kn 2 ≤ 2 := by
  rcases tl_or hR 2 of mt kn 2 with h | ⟨k, h1, h2, h3, h4⟩
  · omega
  · have := hT.1 k h1 h2
    omega
theorem tl_3 {σ : Sg} (hR : WfR σ) (hT : WfT σ) (of mt kn : Int) : 0 ≤ tl σ 3 of mt kn 3 ∧ tl σ 3 of mt kn 3 ≤ 3 := by
  rcases tl_or hR 3 of mt kn 3 with h | ⟨k, h1, h2, h3, h4⟩
  · omega
  · have := hT.1 k h1 h2
    omega
theorem md_rng (σ : Sg) (a mt kn : Int) : 0 ≤ md σ a mt kn ∧ md σ a mt kn ≤ 2 := by
  unfold md sg3
  split
  · omega
  · split <;> omega
theorem vo_rng {σ : Sg} (hR : WfR σ) (hT : WfT σ) (a mt kn : Int) : 0 ≤ vo σ a mt kn ∧ vo σ a mt kn ≤ 2 := by
  have h1 := md_rng σ a mt kn
  have h2 := tl_3 hR hT a mt kn
  unfold vo
  split <;> omega
theorem mdN_rng {σ : Sg} (hR : WfR σ) (a mt kn : Int) : ∀ n : Nat, (n : Int) ≤ σ 15468 0 → -(999 * (n : Int)) ≤ mdN σ a mt kn n ∧ mdN σ a mt kn n ≤ 999 * (n : Int)
  | 0, _ => by unfold mdN; omega
  | n + 1, h => by
    have ih := mdN_rng hR a mt kn n (by omega)
    have hs := hR.2.2.2.2.2.2 (n : Int) (by omega) (by omega)
    unfold mdN
    split
    · split
      · omega
      · split <;> omega
    · omega
-- the model
theorem m_toldBy_l {kd of mt kn wo : Int} (hk : Rg kd) (ho : Rg of) (hm : Rg mt) (hn : Rg kn) {μ : Mem} {K : Int → Mem → Prop} : ∀ n : Nat, n ≤ 600 → K (tlN (MS μ) kd of mt kn wo n) μ →
    l_M_toldBy_8 kd of mt kn wo μ (fun v : Int => 0 ≤ w v ∧ w v < ((600 : Nat) : Int) ∧ K (rI μ 141 (w v)) μ) K (n + 1) ((n : Int) - 1)
  | 0, _, h => by
    unfold l_M_toldBy_8
    simp (disch := omega) only [w_id]
    rw [if_pos (by omega)]
    exact h
  | n + 1, hl, h => by
    unfold l_M_toldBy_8
    have e : (((n + 1 : Nat) : Int) - 1) = (n : Int) := by omega
    have e2 : (n : Int) + (-1) = (n : Int) - 1 := by omega
    obtain ⟨hk1, hk2⟩ := hk
    obtain ⟨ho1, ho2⟩ := ho
    obtain ⟨hm1, hm2⟩ := hm
    obtain ⟨hn1, hn2⟩ := hn
    have ih := m_toldBy_l (wo := wo) ⟨hk1, hk2⟩ ⟨ho1, ho2⟩ ⟨hm1, hm2⟩ ⟨hn1, hn2⟩ (μ := μ) (K := K) n (by omega)
    rw [e, e2]
    simp (disch := omega) only [w_id, w_rI]
    have hb : 0 ≤ (n : Int) ∧ (n : Int) < ((600 : Nat) : Int) := by omega
    rw [if_neg (by omega)]
    unfold tlN at h
    refine ⟨hb.1, hb.2, ite_i (fun h1 => ⟨hb.1, hb.2, ite_i (fun h2 => ⟨hb.1, hb.2, ite_i (fun h3 => ⟨hb.1, hb.2, ite_i (fun h4 => ?_) (fun h4 => ?_)⟩) (fun h3 => ?_)⟩) (fun h2 => ?_)⟩) (fun h1 => ?_)⟩
    · rw [if_neg (fun q => absurd q.2.2.2 (Int.not_le.mpr h4))] at h
      exact ih h
    · rw [if_pos ⟨h1, h2, h3, Int.not_lt.mp h4⟩] at h
      exact ⟨hb.1, hb.2, h⟩
    · rw [if_neg (fun q => h3 q.2.2.1)] at h
      exact ih h
    · rw [if_neg (fun q => h2 q.2.1)] at h
      exact ih h
    · rw [if_neg (fun q => h1 q.1)] at h
      exact ih h
theorem m_toldBy {kd of mt kn wo : Int} (hk : Rg kd) (ho : Rg of) (hm : Rg mt) (hn : Rg kn) {μ : Mem} {K : Int → Mem → Prop} (hR : WfR (MS μ)) (h : K (tl (MS μ) kd of mt kn wo) μ) : f_M_toldBy kd of mt kn wo μ K := by
  have hT := hR.2.2.1
  unfold f_M_toldBy
  intro v6 ev
  refine ⟨(MS μ 15498 0).toNat + 1, ?_⟩
  have hv : v6 = (((MS μ 15498 0).toNat : Nat) : Int) - 1 := by rw [ev, mr rfl]; omega
  rw [hv]
  exact m_toldBy_l hk ho hm hn _ (by omega) h
theorem rg_n {n : Int} (h0 : 0 ≤ n) (h1 : n < 1000000) : Rg n := ⟨by omega, by omega⟩
theorem m_mandateOf {a mt kn : Int} (ha : Rg a) (hm : Rg mt) (hn : Rg kn) {μ : Mem} {K : Int → Mem → Prop} (hR : WfR (MS μ)) (hT : WfT (MS μ)) (h : K (md (MS μ) a mt kn) μ) : f_M_mandateOf a mt kn μ K := by
  have hB := hR.2.1
  have hBr : rI μ 15468 0 = MS μ 15468 0 := rfl
  have ha2 := ha
  obtain ⟨ha0, ha1⟩ := ha2
  unfold f_M_mandateOf
  have main : ∀ (n i : Nat), (i : Int) + n = MS μ 15468 0 → l_M_mandateOf_6 a mt kn (fun (v4_3 : Int) (μ_3 : Mem) => ∀ x104 : Int, x104 = (if w 0 < w v4_3 then 1 else (if w v4_3 < w 0 then 0 else 2)) → K x104 μ_3) (n + 1) (mdN (MS μ) a mt kn i) (i : Int) μ := by
    intro n
    induction n with
    | zero =>
      intro i hi
      have hr := mdN_rng hR a mt kn i (by omega)
      unfold l_M_mandateOf_6
      rw [hBr]
      simp (disch := omega) only [w_id]
      rw [if_neg (by omega)]
      intro x ex
      have e : i = (MS μ 15468 0).toNat := by omega
      rw [ex, e]
      exact h
    | succ n ih =>
      intro i hi
      have hr := mdN_rng hR a mt kn i (by omega)
      have hs := hR.2.2.2.2.2.2 (i : Int) (by omega) (by omega)
      have nx := ih (i + 1) (by omega)
      have hb : 0 ≤ (i : Int) ∧ (i : Int) < ((48 : Nat) : Int) := by omega
      have ei : (i : Int) + 1 = ((i + 1 : Nat) : Int) := by omega
      have e114 : rI μ 115 (i : Int) = MS μ 115 (i : Int) := rfl
      have e115 : rI μ 116 (i : Int) = MS μ 116 (i : Int) := rfl
      have htl := tl_2 hR hT (i : Int) mt kn
      unfold l_M_mandateOf_6
      unfold mdN at nx
      rw [hBr, ei]
      simp (disch := omega) only [w_id, w_rI]
      rw [if_pos (by omega), e114]
      refine ⟨hb.1, hb.2, ?_⟩
      refine ite_i (fun h1 => ?_) (fun h1 => ?_)
      · rw [if_pos h1] at nx
        refine m_toldBy ⟨by omega, by omega⟩ ⟨by omega, by omega⟩ hm hn hR ?_
        simp (disch := omega) only [w_id]
        by_cases c1 : tl (MS μ) 2 (i : Int) mt kn 2 = 1
        · rw [if_pos c1] at nx ⊢
          refine ⟨hb.1, hb.2, fun v ev => ?_⟩
          rw [ev, e115]
          exact nx
        · rw [if_neg c1] at nx ⊢
          by_cases c0 : tl (MS μ) 2 (i : Int) mt kn 2 = 0
          · rw [if_pos c0] at nx ⊢
            refine ⟨hb.1, hb.2, fun v ev => ?_⟩
            rw [ev, e115]
            exact nx
          · rw [if_neg c0] at nx ⊢
            exact nx
      · rw [if_neg h1, Int.add_zero] at nx
        exact nx
  exact ⟨(MS μ 15468 0).toNat + 1, main _ 0 (by omega)⟩
theorem m_voiceOf {a mt kn : Int} (ha : Rg a) (hm : Rg mt) (hn : Rg kn) {μ : Mem} {K : Int → Mem → Prop} (hR : WfR (MS μ)) (hT : WfT (MS μ)) (h : K (vo (MS μ) a mt kn) μ) : f_M_voiceOf a mt kn μ K := by
  have h3 := tl_3 hR hT a mt kn
  unfold f_M_voiceOf
  refine m_toldBy ⟨by omega, by omega⟩ ha hm hn hR ?_
  unfold vo at h
  simp (disch := omega) only [w_id]
  refine ite_i (fun c => ?_) (fun c => ?_)
  · rw [if_pos c] at h
    exact m_mandateOf ha hm hn hR hT h
  · rw [if_neg c] at h
    exact h
