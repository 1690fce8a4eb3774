/-! ORDERS IN FORCE, PAID HEADS, CARDS, on both sides -/
abbrev Fo (σ : Sg) : Int := σ 15480 0
theorem Ic.fo {σ : Sg} {μ : Mem} (h : Ic σ μ) : -1 ≤ Fo σ ∧ Fo σ < σ 15479 0 ∧ σ 15479 0 ≤ 10 := by
  have h1 := h.relF
  have h2 := h.relP
  unfold RelF FlOK at h1
  unfold RelP at h2
  exact ⟨h1.2.1, h1.2.2.1, h2.2.2.2.2.2.2.2.2.1⟩
theorem Ic.ru {σ : Sg} {μ : Mem} (h : Ic σ μ) : RuOK (CS μ) σ (rIx (Fo σ)) (Fo σ) := by
  have h1 := h.fo
  have h2 := h.relP
  unfold RelP at h2
  exact h2.2.2.2.2.2.2.2.2.2.2.2 _ h1.1 h1.2.1
theorem Ic.force {σ : Sg} {μ : Mem} (h : Ic σ μ) : rI μ 9584 0 = Fo σ := by
  have h1 := h.relF
  unfold RelF FlOK at h1
  exact h1.1
theorem ruOf_e {x : Int} (h0 : -1 ≤ x) (h1 : x < 10) : ruOf x = rIx x := by
  unfold ruOf rIx
  rw [w_id (by omega) (by omega)]
  by_cases e : x = -1
  · rw [if_pos e, if_neg (by omega)]
  · rw [if_neg e, if_pos (by omega)]
theorem c_inForce {σ : Sg} {μ : Mem} (h : Ic σ μ) {K : Nat → Mem → Prop} (hk : K (rIx (Fo σ)) μ) : f_Papers_inForce (rI μ 9584 0) μ K := by
  have h1 := h.fo
  unfold f_Papers_inForce
  rw [h.force, ruOf_e h1.1 (by omega)]
  exact hk
theorem Ic.isRu {σ : Sg} {μ : Mem} (h : Ic σ μ) : isRu (rIx (Fo σ)) = true := rIx_ru h.fo.1 (by have := h.fo; omega)
theorem Ic.ruR {σ : Sg} {μ : Mem} (h : Ic σ μ) : 19 ≤ rIx (Fo σ) ∧ rIx (Fo σ) ≤ 59 := rIx_rng h.fo.1 (by have := h.fo; omega)
theorem Ic.rate {σ : Sg} {μ : Mem} (h : Ic σ μ) : rI μ (gid (rIx (Fo σ)) 4) 0 = rateI σ (Fo σ) := by
  rw [cr' (inC_ru (Or.inr (by have := h.ruR; unfold gid; omega)))]
  exact h.ru.1
theorem lcN_rng {σ : Sg} {i kd : Int} (hi : 0 ≤ i ∧ i < 10) : ∀ n : Nat, n ≤ 15 → -1 ≤ lcN σ i kd n ∧ lcN σ i kd n < 150
  | 0, _ => by unfold lcN; omega
  | n + 1, h => by
    have := lcN_rng (σ := σ) (kd := kd) hi n (by omega)
    unfold lcN
    split <;> omega
theorem m_clause {kd : Int} (hk : 0 ≤ kd ∧ kd < 100) {μ : Mem} (hF : -1 ≤ Fo (MS μ) ∧ Fo (MS μ) < 10) (hm : 0 ≤ Fo (MS μ) → 0 ≤ MS μ 145 (Fo (MS μ)) ∧ MS μ 145 (Fo (MS μ)) ≤ 15) {K : Int → Mem → Prop} (h : K (lc (MS μ) (Fo (MS μ)) kd) μ) : f_M_clause kd μ K := by
  have eF : rI μ 15480 0 = Fo (MS μ) := rfl
  unfold f_M_clause
  refine lp2 (fun n (v i : Int) => l_M_clause_4 kd μ (fun (v2_2 : Int) => K v2_2 μ) n v i)
    (fun v i => ∃ k : Nat, i = (k : Int) ∧ (Fo (MS μ) = -1 → v = -1) ∧ (0 ≤ Fo (MS μ) → (k : Int) ≤ MS μ 145 (Fo (MS μ)) ∧ v = lcN (MS μ) (Fo (MS μ)) kd k))
    (fun v i => (16 - i).toNat) (fun n v i hI ih => ?_) (-1) 0 ⟨0, rfl, fun _ => rfl, fun q => ⟨by have := hm q; omega, rfl⟩⟩
  obtain ⟨k, rfl, h1, h2⟩ := hI
  unfold l_M_clause_4
  rw [eF]
  generalize hFF : Fo (MS μ) = F at *
  try simp (disch := omega) only [w_id]
  refine ite_i (fun q => ?_) (fun q => ?_)
  · unfold lc at h
    rw [if_pos q] at h
    rw [h1 q]
    exact h
  · have hm2 := hm (by omega)
    have h3 := h2 (by omega)
    have em : rI μ 145 F = MS μ 145 F := rfl
    have ek : rI μ 146 (15 * F + (k : Int)) = MS μ 146 (15 * F + (k : Int)) := rfl
    have hkr := MS_rng μ 146 (15 * F + (k : Int))
    refine ⟨by omega, by omega, ?_⟩
    rw [em]
    try simp (disch := omega) only [w_id]
    refine ite_i (fun q2 => ⟨by omega, by omega, ?_⟩) (fun q2 => ?_)
    · rw [ek]
      try simp (disch := omega) only [w_id]
      refine ite_i (fun q3 v2 e2 => ?_) (fun q3 => ?_)
      · refine ih _ _ ⟨k + 1, by omega, fun z => absurd z q, fun _ => ⟨by omega, ?_⟩⟩ (by omega)
        rw [e2]
        show _ = lcN (MS μ) F kd (k + 1)
        unfold lcN
        rw [if_pos q3]
      · refine ih _ _ ⟨k + 1, by omega, fun z => absurd z q, fun _ => ⟨by omega, ?_⟩⟩ (by omega)
        rw [h3.2]
        conv => rhs; unfold lcN
        rw [if_neg q3]
    · have e : (MS μ 145 F).toNat = k := by omega
      unfold lc at h
      rw [if_neg q, e] at h
      rw [h3.2]
      exact h
-- PAID HEADS
def pd (σ : Sg) (a kn : Int) : Int := if tl σ 0 a 0 kn 0 < tl σ 1 a 0 kn 0 / rateI σ (Fo σ) then tl σ 0 a 0 kn 0 else tl σ 1 a 0 kn 0 / rateI σ (Fo σ)
theorem pd_rng {σ : Sg} (hR : WfR σ) (hT : WfT σ) (hr : 1 ≤ rateI σ (Fo σ)) (a kn : Int) : 0 ≤ pd σ a kn ∧ pd σ a kn ≤ 9999 := by
  have h0 := tl_0 hR hT a 0 kn
  have h1 := tl_1 hR hT a 0 kn
  have h2 : 0 ≤ tl σ 1 a 0 kn 0 / rateI σ (Fo σ) := Int.ediv_nonneg h1.1 (by omega)
  unfold pd
  split <;> omega
theorem idiv_pos {x y : Int} (hx : 0 ≤ x ∧ x ≤ 99999) (hy : 1 ≤ y ∧ y ≤ 999) : w_idiv x y = x / y := by
  rw [idiv_e (by unfold Bd; omega) (by unfold Bd; omega)]
  exact Int.tdiv_eq_ediv_of_nonneg hx.1
theorem div_rng {x y : Int} (hx : 0 ≤ x ∧ x ≤ 99999) (hy : 1 ≤ y) : 0 ≤ x / y ∧ x / y ≤ 99999 := by
  refine ⟨Int.ediv_nonneg hx.1 (by omega), ?_⟩
  have := Int.ediv_le_self y hx.1
  omega
/-- all that a question needs of the model's cells -/
def QS (σ : Sg) : Prop := WfR σ ∧ WfT σ ∧ (-1 ≤ Fo σ ∧ Fo σ < 10) ∧ ∃ κ : Sg, RuOK κ σ (rIx (Fo σ)) (Fo σ)
abbrev QM (μ : Mem) : Prop := QS (MS μ)
theorem Ic.qm {σ : Sg} {μ : Mem} (h : Ic σ μ) : QS σ := ⟨h.wfR, h.wfT, ⟨h.fo.1, by have := h.fo; omega⟩, CS μ, h.ru⟩
theorem QS.ms {μ ν : Mem} (h : QS (MS μ)) (e : MS ν = MS μ) : QM ν := by show QS (MS ν); rw [e]; exact h
theorem m_paidOf {a kn : Int} (ha : Rg a) (hn : Rg kn) {μ : Mem} (q : QM μ) {K : Int → Mem → Prop} (h : K (pd (MS μ) a kn) μ) : f_M_paidOf a kn μ K := by
  obtain ⟨hR, hT, hF, κ, hru⟩ := q
  obtain ⟨-, r1, r2, -, -, -, -, l4, l4', -, -, hm, -⟩ := hru
  have t0 := tl_0 hR hT a 0 kn
  have t1 := tl_1 hR hT a 0 kn
  have dr := div_rng t1 r1
  have eid := idiv_pos t1 ⟨r1, r2⟩
  unfold f_M_paidOf
  refine m_clause (by omega) hF hm ?_
  refine m_toldBy ⟨by omega, by omega⟩ ha ⟨by omega, by omega⟩ hn hR ?_
  refine m_toldBy ⟨by omega, by omega⟩ ha ⟨by omega, by omega⟩ hn hR ?_
  unfold pd at h
  generalize hrt : rateI (MS μ) (Fo (MS μ)) = rt at *
  unfold rateI at hrt
  try simp (disch := omega) only [w_id]
  refine ite_i (fun q => ?_) (fun q => ⟨by omega, by omega, ?_⟩)
  · rw [if_pos q] at hrt
    intro v5 e5 x ex
    rw [hrt, eid] at e5
    rw [e5] at ex
    simp (disch := omega) only [w_id] at ex
    rw [ex]
    exact h
  · rw [if_neg q] at hrt
    have en : rI μ 147 (lc (MS μ) (Fo (MS μ)) 4) = rt := hrt
    rw [en]
    try simp (disch := omega) only [w_id]
    refine ⟨by omega, fun v5 e5 x ex => ?_⟩
    rw [eid] at e5
    rw [e5] at ex
    simp (disch := omega) only [w_id] at ex
    rw [ex]
    exact h
theorem c_paidHeadsOf {σ : Sg} {a kn mt : Int} (ha : 0 ≤ a ∧ a < 12) {ν : Mem} (hR : WfR σ) (hT : WfT σ) (hr : 1 ≤ rateI σ (Fo σ) ∧ rateI σ (Fo σ) ≤ 999) (hk : TK σ ν mt kn) {K : Int → Mem → Prop} (h : K (pd σ a kn) ν) : f_Count_paidHeadsOf a (rateI σ (Fo σ)) ν K := by
  have t0 := tl_0 hR hT a 0 kn
  have t1 := tl_1 hR hT a 0 kn
  have dr := div_rng t1 hr.1
  have eid := idiv_pos t1 hr
  obtain ⟨k0, k1, -⟩ := hk.1 a ha.1 ha.2
  unfold f_Count_paidHeadsOf
  rw [at_in (by omega) (by omega) (by decide), at_in (by omega) (by omega) (by decide), k0, k1]
  unfold pd at h
  try simp (disch := omega) only [w_id]
  rw [if_neg (by omega)]
  refine ⟨by omega, fun v3 e3 => ?_⟩
  rw [e3, eid]
  unfold w_min
  try simp (disch := omega) only [w_id]
  by_cases c1 : tl σ 0 a 0 kn 0 < tl σ 1 a 0 kn 0 / rateI σ (Fo σ)
  · rw [if_pos c1] at h
    rw [if_neg (by omega)]
    exact h
  · rw [if_neg c1] at h
    by_cases c2 : tl σ 1 a 0 kn 0 / rateI σ (Fo σ) < tl σ 0 a 0 kn 0
    · rw [if_pos c2]
      exact h
    · rw [if_neg c2, show tl σ 0 a 0 kn 0 = tl σ 1 a 0 kn 0 / rateI σ (Fo σ) by omega]
      exact h
