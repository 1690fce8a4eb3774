/-! CARDS, on both sides -/
def bcN (σ : Sg) (a : Int) : Nat → Int
  | 0 => 0
  | n + 1 => bcN σ a n + (if σ 115 (n : Int) = a then 1 else 0)
def bsN (σ : Sg) (a : Int) : Nat → Int
  | 0 => 0
  | n + 1 => bsN σ a n + (if σ 115 (n : Int) = a then σ 116 (n : Int) else 0)
theorem bcN_rng (σ : Sg) (a : Int) : ∀ n : Nat, 0 ≤ bcN σ a n ∧ bcN σ a n ≤ (n : Int)
  | 0 => by unfold bcN; omega
  | n + 1 => by
    have := bcN_rng σ a n
    unfold bcN
    split <;> omega
theorem bsN_rng {σ : Sg} (hR : WfR σ) (a : Int) : ∀ n : Nat, (n : Int) ≤ σ 15468 0 → 0 ≤ bsN σ a n ∧ bsN σ a n ≤ 999 * (n : Int)
  | 0, _ => by unfold bsN; omega
  | n + 1, h => by
    have := bsN_rng hR a n (by omega)
    have hs := hR.2.2.2.2.2.2 (n : Int) (by omega) (by omega)
    unfold bsN
    split <;> omega
def fxc (σ : Sg) (a kn : Int) (i : Int) : Int := if i = 6 then pd σ a kn else if i = 7 then bcN σ a (σ 15468 0).toNat else if i = 8 then bsN σ a (σ 15468 0).toNat else if i = 9 ∧ 0 ≤ a ∧ a < σ 15466 0 then σ 114 a else 0
theorem fxc_Bd {σ : Sg} (hR : WfR σ) (hT : WfT σ) (hr : 1 ≤ rateI σ (Fo σ)) (a kn : Int) (i : Int) : Bd (fxc σ a kn i) := by
  have h1 := pd_rng hR hT hr a kn
  have h2 := bcN_rng σ a (σ 15468 0).toNat
  have h3 := bsN_rng hR a (σ 15468 0).toNat (by have := hR.2.1; omega)
  have hB := hR.2.1
  unfold fxc
  refine ite_p (fun _ => by unfold Bd; omega) (fun _ => ite_p (fun _ => by unfold Bd; omega) (fun _ => ite_p (fun _ => by unfold Bd; omega) (fun _ => ite_p (fun q => ?_) (fun _ => by unfold Bd; omega))))
  have := hR.2.2.2.2.2.1 a q.2.1 q.2.2
  unfold Bd; omega
def pos0 (v : Int) : Int := if 0 < v then v else 0
def cd (σ : Sg) (a kn : Int) : Int := if lc σ (Fo σ) 3 = -1 then pd σ a kn else pos0 (evl (fxc σ a kn) (mcode σ (lc σ (Fo σ) 3)))
/-- works over a clause whose names are laid down -/
theorem m_worksP {κ : Sg} {μ : Mem} {r : Nat} {p c : Int} (hp : 0 ≤ p ∧ p < 5) (hok : PartOK κ (MS μ) r p c) (hc : ¬ c = -1) {fx : Int → Int} (hf : ∀ i : Int, Bd (fx i)) (hfa : ∀ i : Int, bpa p ≤ i → i < bpa p + npa p → rI μ 151 i = fx i) {K : Int → Mem → Prop} (h : ∀ ν : Mem, Fr [152] μ ν → K (evl fx (mcode (MS μ) c)) ν) : f_M_works c μ K := by
  rcases hok with ⟨q, -, -⟩ | ⟨hc0, hc1, f0, ft, t3, hb0, he0, hlen, hcr, hw⟩
  · exact absurd q hc
  refine m_works ⟨hc0, hc1⟩ hb0 he0 hf (fun k k0 k1 hs => ?_) hw h
  obtain ⟨-, -, hcs⟩ := CR_s (hcr k k0 (by omega))
  have hs9 := hs
  have hpp := npa_le p
  generalize MS μ 143 (320 * (c / 15) + MS μ 148 c + k) = s at *
  have : bpa p ≤ s - 10000 ∧ s - 10000 < bpa p + npa p := by unfold SoR at hcs; omega
  exact hfa _ this.1 this.2
theorem evl_Bd {κ σ : Sg} {r : Nat} {p c : Int} (hok : PartOK κ σ r p c) (hc : ¬ c = -1) {fx : Int → Int} (hf : ∀ i : Int, Bd (fx i)) : Bd (evl fx (mcode σ c)) ∧ (¬ p = 3 → b01 (evl fx (mcode σ c))) := by
  rcases hok with ⟨q, -, -⟩ | ⟨hc0, hc1, f0, ft, t3, hb0, he0, hlen, hcr, hw⟩
  · exact absurd q hc
  obtain ⟨-, v, hv, hvb, hv01⟩ := hw fx hf
  unfold evl
  rw [hv]
  exact ⟨hvb, fun hp => hv01 (by simp [hp])⟩
theorem pos0_Bd {v : Int} (h : Bd v) : 0 ≤ pos0 v ∧ pos0 v ≤ 1000000000 := by
  unfold Bd at h
  unfold pos0
  split <;> omega
theorem kpa_3 : kpa 3 = 3 := rfl
theorem QS.part {σ : Sg} (h : QS σ) : ∃ κ : Sg, ∀ p : Int, 0 ≤ p → p < 5 → PartOK κ σ (rIx (Fo σ)) p (lc σ (Fo σ) (kpa p)) := by
  obtain ⟨-, -, -, κ, hru⟩ := h
  exact ⟨κ, hru.2.2.2.2.2.2.2.2.2.2.2.2⟩
theorem QS.rate {σ : Sg} (h : QS σ) : 1 ≤ rateI σ (Fo σ) ∧ rateI σ (Fo σ) ≤ 999 := by
  obtain ⟨-, -, -, κ, hru⟩ := h
  exact ⟨hru.2.1, hru.2.2.1⟩
theorem QS.many {σ : Sg} (h : QS σ) : 0 ≤ Fo σ → 0 ≤ σ 145 (Fo σ) ∧ σ 145 (Fo σ) ≤ 15 := by
  obtain ⟨-, -, -, κ, hru⟩ := h
  exact hru.2.2.2.2.2.2.2.2.2.2.2.1
theorem cd_rng {σ : Sg} (q : QS σ) (a kn : Int) : 0 ≤ cd σ a kn ∧ cd σ a kn ≤ 1000000000 := by
  have hp := pd_rng q.1 q.2.1 q.rate.1 a kn
  obtain ⟨κ, hpt⟩ := q.part
  have h3 := hpt 3 (by omega) (by omega)
  rw [kpa_3] at h3
  unfold cd
  by_cases c : lc σ (Fo σ) 3 = -1
  · rw [if_pos c]; omega
  · rw [if_neg c]
    exact pos0_Bd (evl_Bd h3 c (fxc_Bd q.1 q.2.1 q.rate.1 a kn)).1
def cdL : List Nat := [151, 152]
theorem m_cardsOf {a kn : Int} {μ : Mem} (q : QM μ) (ha : 0 ≤ a ∧ a < MS μ 15466 0) (hn : Rg kn) {K : Int → Mem → Prop} (h : ∀ ν : Mem, Fr cdL μ ν → K (cd (MS μ) a kn) ν) : f_M_cardsOf a kn μ K := by
  have hA := q.1.1
  have hB := q.1.2.1
  obtain ⟨κ, hpt⟩ := q.part
  have h3 := hpt 3 (by omega) (by omega)
  rw [kpa_3] at h3
  have hpr := pd_rng q.1 q.2.1 q.rate.1 a kn
  have hfx := fxc_Bd q.1 q.2.1 q.rate.1 a kn
  have hsec := q.1.2.2.2.2.2.1 a ha.1 ha.2
  unfold f_M_cardsOf
  refine m_clause (by omega) q.2.2.1 q.many ?_
  unfold cd at h
  have hlr : -1 ≤ lc (MS μ) (Fo (MS μ)) 3 ∧ lc (MS μ) (Fo (MS μ)) 3 < 150 := by
    rcases h3 with ⟨e, -⟩ | ⟨h0, h1, -⟩
    · omega
    · omega
  have hF := q.2.2.1
  generalize hc9 : lc (MS μ) (Fo (MS μ)) 3 = c at *
  try simp (disch := omega) only [w_id]
  refine ite_i (fun q1 => m_paidOf ⟨by omega, by omega⟩ hn q ?_) (fun q1 => m_paidOf ⟨by omega, by omega⟩ hn q ?_)
  · rw [if_pos q1] at h
    exact h μ (FrP.refl _ _)
  · rw [if_neg q1] at h
    intro μ4 e4 μ5 e5 μ6 e6
    refine ⟨by omega, by omega, fun μ7 e7 => ?_⟩
    have f6 : Fr cdL μ μ6 := by rw [e6, e5, e4]; exact (((FrP.refl _ _).wI rfl).wI rfl).wI rfl
    have f7 : Fr cdL μ μ7 := by rw [e7]; exact f6.wI rfl
    have n9 : rI μ6 114 a = MS μ 114 a := (f6.rdI rfl).trans rfl
    have v6 : rI μ7 151 6 = pd (MS μ) a kn := by
      rw [e7, e6, e5, e4]
      simp (disch := omega) only [rI_sI, w_id, Int.reduceEq, and_false, if_false, reduceIte, true_and]
    have v7 : rI μ7 151 7 = 0 := by
      rw [e7, e6, e5, e4]
      simp (disch := omega) only [rI_sI, w_id, Int.reduceEq, and_false, if_false, reduceIte, true_and]
    have v8 : rI μ7 151 8 = 0 := by
      rw [e7, e6, e5, e4]
      simp (disch := omega) only [rI_sI, w_id, Int.reduceEq, and_false, if_false, reduceIte, true_and]
    have v9 : rI μ7 151 9 = MS μ 114 a := by
      rw [e7, n9]
      simp (disch := omega) only [rI_sI, w_id, Int.reduceEq, and_false, if_false, reduceIte, true_and]
    clear e4 e5 e6 e7
    refine lp2 (fun n (i : Int) (ν : Mem) => l_M_cardsOf_63 a c (fun (μ_11 : Mem) => f_M_works c μ_11 (fun r122 μ_12 => ∀ x138 : Int, x138 = (if w 0 < w r122 then r122 else 0) → K x138 μ_12)) n i ν)
      (fun i ν => ∃ k : Nat, i = (k : Int) ∧ (k : Int) ≤ MS μ 15468 0 ∧ Fr cdL μ ν ∧ rI ν 151 6 = pd (MS μ) a kn ∧ rI ν 151 7 = bcN (MS μ) a k ∧ rI ν 151 8 = bsN (MS μ) a k ∧ rI ν 151 9 = MS μ 114 a)
      (fun i _ => (MS μ 15468 0 - i).toNat) (fun n i ν hI ih => ?_) 0 μ7 ⟨0, rfl, by omega, f7, v6, v7, v8, v9⟩
    obtain ⟨k, rfl, hk, hf, w6, w7, w8, w9⟩ := hI
    have eB : rI ν 15468 0 = MS μ 15468 0 := (hf.rdI rfl).trans rfl
    have hbc := bcN_rng (MS μ) a k
    have hbs := bsN_rng q.1 a k hk
    have eM : MS ν = MS μ := (hf.qt rfl).2.2.1
    unfold l_M_cardsOf_63
    rw [eB]
    try simp (disch := omega) only [w_id]
    refine ite_i (fun q2 => ⟨by omega, by omega, ?_⟩) (fun q2 => ?_)
    · have hs := q.1.2.2.2.2.2.2 (k : Int) (by omega) (by omega)
      have ebo : rI ν 115 (k : Int) = MS μ 115 (k : Int) := (hf.rdI rfl).trans rfl
      rw [ebo]
      try simp (disch := omega) only [w_id]
      refine ite_i (fun q3 μ9 e9 => ⟨by omega, by omega, fun μ10 e10 => ?_⟩) (fun q3 => ?_)
      · have f9 : Fr cdL μ μ9 := by rw [e9]; exact hf.wI rfl
        have es : rI μ9 116 (k : Int) = MS μ 116 (k : Int) := (f9.rdI rfl).trans rfl
        refine ih _ _ ⟨k + 1, by omega, by omega, by rw [e10]; exact f9.wI rfl, ?_, ?_, ?_, ?_⟩ (by omega)
        · rw [e10, e9]
          simp (disch := omega) only [rI_sI, w_id, Int.reduceEq, and_false, if_false, reduceIte, true_and]
          exact w6
        · rw [e10, e9]
          simp (disch := omega) only [rI_sI, w_id, Int.reduceEq, and_false, if_false, reduceIte, true_and]
          try rw [w7]
          show _ = bcN (MS μ) a k + _
          rw [if_pos q3]
        · rw [e10, es]
          have r8 : rI μ9 151 8 = bsN (MS μ) a k := by
            rw [e9]
            simp (disch := omega) only [rI_sI, w_id, Int.reduceEq, and_false, if_false, reduceIte, true_and]
            exact w8
          rw [r8]
          simp (disch := omega) only [rI_sI, w_id, Int.reduceEq, and_false, if_false, reduceIte, true_and]
          show _ = bsN (MS μ) a k + _
          rw [if_pos q3]
        · rw [e10, e9]
          simp (disch := omega) only [rI_sI, w_id, Int.reduceEq, and_false, if_false, reduceIte, true_and]
          exact w9
      · refine ih _ _ ⟨k + 1, by omega, by omega, hf, w6, ?_, ?_, w9⟩ (by omega)
        · rw [w7]
          show _ = bcN (MS μ) a k + _
          rw [if_neg q3]; omega
        · rw [w8]
          show _ = bsN (MS μ) a k + _
          rw [if_neg q3]; omega
    · have ek : (MS μ 15468 0).toNat = k := by omega
      refine m_worksP (κ := κ) (r := rIx (Fo (MS μ))) (p := 3) (by omega) (by rw [eM]; exact h3) q1 hfx (fun i i0 i1 => ?_) (fun ξ hx x ex => ?_)
      · have : i = 6 ∨ i = 7 ∨ i = 8 ∨ i = 9 := by
          have e1 : bpa 3 = 6 := rfl
          have e2 : npa 3 = 4 := rfl
          omega
        unfold fxc
        rw [ek]
        rcases this with rfl | rfl | rfl | rfl
        · rw [w6]; simp
        · rw [w7]; simp
        · rw [w8]; simp
        · rw [w9]; simp [ha.1, ha.2]
      · have hb9 := (evl_Bd h3 q1 hfx).1
        unfold Bd at hb9
        rw [eM] at ex
        simp (disch := omega) only [w_id] at ex
        rw [ex]
        exact h ξ (hf.trans (Fr.mono hx rfl))
-- the class
theorem c_branchesOf {σ : Sg} {a : Int} (ha : 0 ≤ a ∧ a < 12) {ν : Mem} (hR : WfR σ) (hA : RegA σ ν) {K : Int → Mem → Prop} (h : K (bcN σ a (σ 15468 0).toNat) ν) : f_Reg_branchesOf a ν K := by
  have hB := hR.2.1
  have hAf := hR.1
  unfold f_Reg_branchesOf
  refine lp2 (fun n (v i : Int) => l_Reg_branchesOf_4 a ν (fun (v2_2 : Int) => K v2_2 ν) n v i) (fun v i => ∃ k : Nat, i = (k : Int) ∧ (k : Int) ≤ σ 15468 0 ∧ v = bcN σ a k) (fun v i => (σ 15468 0 - i).toNat) (fun n v i hI ih => ?_) 0 0 ⟨0, rfl, by omega, rfl⟩
  obtain ⟨k, rfl, hk, rfl⟩ := hI
  unfold l_Reg_branchesOf_4
  rw [hA.1]
  try simp (disch := omega) only [w_id]
  refine ite_i (fun q x ex v ev => ?_) (fun q => ?_)
  · have hs := hR.2.2.2.2.2.2 (k : Int) (by omega) (by omega)
    rw [at_in (by omega) (by omega) (by decide), (hA.2 (k : Int) (by omega) (by omega)).1] at ex
    simp (disch := omega) only [w_id] at ex
    refine ih _ _ ⟨k + 1, by omega, by omega, ?_⟩ (by omega)
    rw [ev, ex]
    rfl
  · rw [show k = (σ 15468 0).toNat by omega]
    exact h
theorem c_soulsOf {σ : Sg} {a : Int} (ha : 0 ≤ a ∧ a < 12) {ν : Mem} (hR : WfR σ) (hA : RegA σ ν) {K : Int → Mem → Prop} (h : K (bsN σ a (σ 15468 0).toNat) ν) : f_Reg_soulsOf a ν K := by
  have hB := hR.2.1
  have hAf := hR.1
  unfold f_Reg_soulsOf
  refine lp2 (fun n (v i : Int) => l_Reg_soulsOf_4 a ν (fun (v2_2 : Int) => K v2_2 ν) n v i) (fun v i => ∃ k : Nat, i = (k : Int) ∧ (k : Int) ≤ σ 15468 0 ∧ v = bsN σ a k) (fun v i => (σ 15468 0 - i).toNat) (fun n v i hI ih => ?_) 0 0 ⟨0, rfl, by omega, rfl⟩
  obtain ⟨k, rfl, hk, rfl⟩ := hI
  unfold l_Reg_soulsOf_4
  rw [hA.1]
  try simp (disch := omega) only [w_id]
  refine ite_i (fun q x ex v ev => ?_) (fun q => ?_)
  · have hs := hR.2.2.2.2.2.2 (k : Int) (by omega) (by omega)
    have hb := hA.2 (k : Int) (by omega) (by omega)
    rw [at_in (by omega) (by omega) (by decide), at_in (by omega) (by omega) (by decide), hb.1, hb.2] at ex
    simp (disch := omega) only [w_id] at ex
    refine ih _ _ ⟨k + 1, by omega, by omega, ?_⟩ (by omega)
    rw [ev, ex]
    rfl
  · rw [show k = (σ 15468 0).toNat by omega]
    exact h
/-- says, for a part of the ORDERS IN FORCE -/
theorem c_says {σ : Sg} {μ : Mem} {r : Nat} {p c : Int} (hr : 19 ≤ r ∧ r ≤ 59) (hp : 0 ≤ p ∧ p < 5) (hok : PartOK (CS μ) σ r p c) : v_Rules_says r p μ = !decide (c = -1) := by
  unfold v_Rules_says
  rw [at_ru (by omega) (by omega) (by decide), at_ru (by omega) (by omega) (by decide)]
  rcases hok with ⟨q, z1, z2⟩ | ⟨hc0, hc1, f0, ft, t3, -⟩
  · rw [z1, z2, q]
    rfl
  · rw [w_id (by omega) (by omega), w_id (by omega) (by omega), if_pos ft]
    simp
    omega
def ccL : List Nat := [81, 82]
/-- what lasts, beside a memory that the count's cells alone set apart -/
theorem Ic.regA {σ : Sg} {μ : Mem} (h : Ic σ μ) : RegA σ μ := ⟨h.relR.2.1, fun b b0 b1 => h.relR.2.2.2.2.2.2.1 b b0 b1⟩
theorem Ic.parts {σ : Sg} {μ : Mem} (h : Ic σ μ) (p : Int) (h0 : 0 ≤ p) (h1 : p < 5) : PartOK (CS μ) σ (rIx (Fo σ)) p (lc σ (Fo σ) (kpa p)) := h.ru.2.2.2.2.2.2.2.2.2.2.2.2 p h0 h1
theorem TK.fr {L : List Nat} {σ : Sg} {ν ξ : Mem} {mt kn : Int} (h : TK σ ν mt kn) (f : Fr L ν ξ) (hL : (lel L 74 || lel L 75 || lel L 76 || lel L 77 || lel L 79) = false) : TK σ ξ mt kn := by
  simp only [Bool.or_eq_false_iff] at hL
  obtain ⟨⟨⟨⟨l1, l2⟩, l3⟩, l4⟩, l5⟩ := hL
  refine ⟨fun a a0 a1 => ?_, fun b b0 b1 => ?_, fun a a0 a1 => ?_⟩
  · rw [f.rdI l1, f.rdI l2, f.rdI l3]; exact h.1 a a0 a1
  · rw [f.rdI l4]; exact h.2.1 b b0 b1
  · rw [f.rdI l5]; exact h.2.2 a a0 a1
theorem c_cardsOf {σ : Sg} {μ : Mem} (hI : Ic σ μ) {a mt kn : Int} (ha : 0 ≤ a ∧ a < σ 15466 0) (hk : TK σ μ mt kn) {K : Int → Mem → Prop} (h : ∀ ν : Mem, Fr ccL μ ν → K (cd σ a kn) ν) : f_Count_cardsOf a (rIx (Fo σ)) μ K := by
  have hA := hI.wfR.1
  have hB := hI.wfR.2.1
  have hr := hI.ru
  have h3 := hI.parts 3 (by omega) (by omega)
  rw [kpa_3] at h3
  have hpr := pd_rng hI.wfR hI.wfT hr.2.1 a kn
  have hfx := fxc_Bd hI.wfR hI.wfT hr.2.1 a kn
  have hsec := hI.wfR.2.2.2.2.2.1 a ha.1 ha.2
  have hesec : rI μ 2 a = σ 114 a := hI.relR.2.2.2.2.2.1 a ha.1 ha.2
  unfold f_Count_cardsOf
  rw [hI.rate]
  refine c_paidHeadsOf (by omega) hI.wfR hI.wfT ⟨hr.2.1, hr.2.2.1⟩ hk ?_
  rw [c_says hI.ruR (by omega) h3]
  unfold cd at h
  refine ite_i (fun q => ?_) (fun q => ?_)
  · have q1 : ¬ lc σ (Fo σ) 3 = -1 := by simpa using q
    rw [if_neg q1] at h
    intro μ2 e2
    rw [set_in (by omega) (by omega) (by decide)] at e2
    have f2 : Fr ccL μ μ2 := by rw [e2]; exact (FrP.refl _ _).wI rfl
    have i2 := (f2.qt rfl).ic hI
    have m2 : σ = σ := rfl
    refine c_branchesOf (σ := σ) (by omega) hI.wfR (by have := i2.regA; rw [m2] at this; exact this) (fun μ4 e4 => ?_)
    have hbc := bcN_rng σ a (σ 15468 0).toNat
    have hbs := bsN_rng hI.wfR a (σ 15468 0).toNat (by omega)
    rw [set_in (by omega) (by omega) (by decide)] at e4
    have f4 : Fr ccL μ μ4 := by rw [e4]; exact f2.wI rfl
    have i4 := (f4.qt rfl).ic hI
    have m4 : σ = σ := rfl
    refine c_soulsOf (σ := σ) (by omega) hI.wfR (by have := i4.regA; rw [m4] at this; exact this) (fun μ6 e6 μ7 e7 => ?_)
    rw [set_in (by omega) (by omega) (by decide)] at e6 e7
    have f6 : Fr ccL μ μ6 := by rw [e6]; exact f4.wI rfl
    rw [f6.at rfl, at_in (by omega) (by omega) (by decide), hesec] at e7
    have f7 : Fr ccL μ μ7 := by rw [e7]; exact f6.wI rfl
    have m7 : σ = σ := rfl
    have s7 : CS μ7 = CS μ := (f7.qt rfl).1
    refine c_value (r := rIx (Fo σ)) (p := 3) hI.ruR (by omega) (by rw [m7, s7]; exact h3) q1 hfx (fun n n0 n1 => ?_) (fun ν hν => ?_)
    · have hn4 : n = 0 ∨ n = 1 ∨ n = 2 ∨ n = 3 := by
        have e2' : npa 3 = 4 := rfl
        omega
      have eb3 : bpa 3 = 6 := rfl
      rw [eb3, e7, e6, e4, e2]
      unfold fxc
      rcases hn4 with rfl | rfl | rfl | rfl
      · simp (disch := omega) only [rI_sI, w_id, Int.reduceEq, and_false, if_false, reduceIte, true_and]
        rfl
      · simp (disch := omega) only [rI_sI, w_id, Int.reduceEq, and_false, if_false, reduceIte, true_and]
        rfl
      · simp (disch := omega) only [rI_sI, w_id, Int.reduceEq, and_false, if_false, reduceIte, true_and]
        rfl
      · simp (disch := omega) only [rI_sI, w_id, Int.reduceEq, and_false, if_false, reduceIte, true_and]
        simp [ha.1, ha.2]
    · have hb9 := (evl_Bd h3 q1 hfx).1
      unfold Bd at hb9
      rw [m7]
      have := h ν (f7.trans (Fr.mono hν rfl))
      unfold w_max
      unfold pos0 at this
      try simp (disch := omega) only [w_id]
      exact this
  · have q1 : lc σ (Fo σ) 3 = -1 := by simpa using q
    rw [if_pos q1] at h
    exact h μ (FrP.refl _ _)
