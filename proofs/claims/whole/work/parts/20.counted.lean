/-! COUNTED, on both sides -/
theorem su_f : ∀ n : Fin 32, (((nI n.1).toUInt32 &&& Int32.toUInt32 31).toBitVec % 32).toNat = n.1 := by decide
theorem iushr_e {v i : Int} (hv : 0 ≤ v ∧ v < 2147483648) (hi : 0 ≤ i ∧ i < 32) : w_iushr v i = ((v.toNat / 2 ^ i.toNat : Nat) : Int) := by
  unfold w_iushr
  rw [ofInt_nI hv.1, ofInt_nI hi.1, pk_ushrN (n := v.toNat) (by omega) (nI i.toNat) i.toNat (su_f ⟨i.toNat, by omega⟩)]
  refine w_nI ?_
  have := Nat.div_le_self v.toNat (2 ^ i.toNat)
  omega
theorem iand1 {v : Int} (hv : 0 ≤ v ∧ v < 2147483648) : w_iand v 1 = v % 2 := by
  unfold w_iand
  rw [ofInt_nI hv.1, pk_andN (m := Int32.ofInt 1) (n := v.toNat) (by omega) 1 (by decide), w_nI (by omega)]
  omega
/-- bit i of a number that isn't below 0 -/
theorem bit_e {v i : Int} (hv : 0 ≤ v ∧ v < 2147483648) (hi : 0 ≤ i ∧ i < 32) : w_iand (w_iushr v i) 1 = if v.toNat.testBit i.toNat = true then 1 else 0 := by
  have hd := Nat.div_le_self v.toNat (2 ^ i.toNat)
  rw [iushr_e hv hi, Nat.testBit_eq_decide_div_mod_eq]
  generalize v.toNat / 2 ^ i.toNat = d at *
  rw [iand1 (by omega)]
  have := Nat.mod_two_eq_zero_or_one d
  by_cases q : d % 2 = 1
  · rw [if_pos (decide_eq_true q)]; omega
  · rw [if_neg (by simp; omega)]; omega
def wgL : List Nat := [78, 81, 82]
theorem c_weigh {σ : Sg} {μ : Mem} (hI : Ic σ μ) {how mt kn : Int} (hh : 0 ≤ how ∧ how ≤ 2) (hk : TK σ μ mt kn) {K : Mem → Prop} (h : ∀ ν : Mem, Fr wgL μ ν → (∀ a : Nat, (a : Int) < σ 15466 0 → rI ν 78 (a : Int) = wtT σ how kn false a) → K ν) : f_Count_weigh (rIx (Fo σ)) how μ K := by
  have hA := hI.wfR.1
  have hrt := hI.ru
  unfold f_Count_weigh
  refine lp2 (fun n (i : Int) (ξ : Mem) => l_Count_weigh_2 (rIx (Fo σ)) how (fun (μ_7 : Mem) => K μ_7) n i ξ) (fun i ξ => ∃ j : Nat, i = (j : Int) ∧ (j : Int) ≤ σ 15466 0 ∧ Fr wgL μ ξ ∧ ∀ a : Nat, a < j → rI ξ 78 (a : Int) = wtT σ how kn false a) (fun i _ => (σ 15466 0 - i).toNat) (fun n i ξ hJ ih => ?_) 0 μ ⟨0, rfl, by omega, FrP.refl _ _, fun a ha => by omega⟩
  obtain ⟨j, rfl, hj, hf, hz⟩ := hJ
  have hq := hf.qt rfl
  have hIξ := hq.ic hI
  have eM : σ = σ := rfl
  have eA : rI ξ 1136 0 = σ 15466 0 := (hf.rdI rfl).trans hI.relR.1
  have hkξ : TK σ ξ mt kn := hk.fr hf rfl
  unfold l_Count_weigh_2
  rw [eA]
  try simp (disch := omega) only [w_id]
  refine ite_i (fun q => ?_) (fun q => ?_)
  · have put : ∀ (ο π : Mem) (v : Int), Fr ccL ξ ο → v = wtT σ how kn false j → 0 ≤ v ∧ v ≤ 1000000000 → π = set' ο 78 12 (j : Int) v → l_Count_weigh_2 (rIx (Fo σ)) how (fun (μ_7 : Mem) => K μ_7) n ((j : Int) + 1) π := by
      intro ο π v fo ev hv eπ
      rw [set_in (by omega) (by omega) (by decide)] at eπ
      have f2 : Fr wgL μ ο := hf.trans (Fr.mono fo rfl)
      refine ih _ _ ⟨j + 1, by omega, by omega, by rw [eπ]; exact f2.wI rfl, fun a ha => ?_⟩ (by omega)
      rw [eπ, rI_sI]
      by_cases e : (a : Int) = (j : Int)
      · have e' : a = j := by omega
        rw [if_pos ⟨rfl, e⟩, w_id (by omega) (by omega), ev, e']
      · rw [if_neg (fun z => e z.2), fo.rdI rfl]
        exact hz a (by omega)
    have hcd := cd_rng hI.qm (j : Int) kn
    have hpd := pd_rng hI.wfR hI.wfT hrt.2.1 (j : Int) kn
    have ew : wtT σ how kn false j = if how = 0 then cd σ (j : Int) kn else if how = 1 then pd σ (j : Int) kn else 1 := by
      unfold wtT
      rw [if_neg (fun z => by cases z.1)]
    refine ite_i (fun q2 μ2 e2 => put ξ μ2 1 (FrP.refl _ _) (by rw [ew, if_neg (by omega), if_neg (by omega)]) (by omega) e2) (fun q2 => ite_i (fun q1 => ?_) (fun q1 => ?_))
    · have er : rI ξ (gid (rIx (Fo σ)) 4) 0 = rateI σ (Fo σ) := by
        have := hIξ.rate
        rw [eM] at this
        exact this
      rw [er]
      refine c_paidHeadsOf (by omega) hI.wfR hI.wfT ⟨hrt.2.1, hrt.2.2.1⟩ hkξ (fun μ4 e4 => put ξ μ4 _ (FrP.refl _ _) (by rw [ew, if_neg (by omega), if_pos q1]) (by omega) e4)
    · have := c_cardsOf hIξ (a := (j : Int)) (mt := mt) (kn := kn) (by rw [eM]; omega) (by rw [eM]; exact hkξ) (K := fun r47 μ_5 => ∀ μ_6 : Mem, μ_6 = set' μ_5 78 12 (j : Int) r47 → (l_Count_weigh_2 (rIx (Fo σ)) how (fun (μ_7 : Mem) => K μ_7) n) ((j : Int) + 1) μ_6) (fun ο fo π eπ => put ο π _ fo (by rw [ew, if_pos (by omega), eM]) (by rw [eM]; omega) eπ)
      rw [eM] at this
      exact this
  · exact h ξ hf (fun a ha => hz a (by omega))
theorem c_leaveOut {μ : Mem} {A : Int} (hA : 0 ≤ A ∧ A ≤ 12) (eA : rI μ 1136 0 = A) {bits : Int} (hb : 0 ≤ bits ∧ bits < 4096) {W : Nat → Int} (hW : ∀ a : Nat, (a : Int) < A → rI μ 78 (a : Int) = W a) {K : Mem → Prop} (h : ∀ ν : Mem, Fr [78] μ ν → (∀ a : Nat, (a : Int) < A → rI ν 78 (a : Int) = if bits.toNat.testBit a = true then 0 else W a) → K ν) : f_Count_leaveOut bits μ K := by
  unfold f_Count_leaveOut
  refine lp2 (fun n (i : Int) (ξ : Mem) => l_Count_leaveOut_2 bits (fun (μ_3 : Mem) => K μ_3) n i ξ) (fun i ξ => ∃ j : Nat, i = (j : Int) ∧ (j : Int) ≤ A ∧ Fr [78] μ ξ ∧ (∀ a : Nat, a < j → rI ξ 78 (a : Int) = if bits.toNat.testBit a = true then 0 else W a) ∧ ∀ a : Nat, j ≤ a → (a : Int) < A → rI ξ 78 (a : Int) = W a) (fun i _ => (A - i).toNat) (fun n i ξ hJ ih => ?_) 0 μ ⟨0, rfl, by omega, FrP.refl _ _, fun a ha => by omega, fun a _ ha => hW a ha⟩
  obtain ⟨j, rfl, hj, hf, hz, hr⟩ := hJ
  have e1 : rI ξ 1136 0 = A := (hf.rdI rfl).trans eA
  unfold l_Count_leaveOut_2
  rw [e1]
  try simp (disch := omega) only [w_id]
  refine ite_i (fun q => ?_) (fun q => h ξ hf (fun a ha => hz a (by omega)))
  rw [bit_e (by omega) (by omega), Int.toNat_natCast]
  by_cases qb : bits.toNat.testBit j = true
  · rw [if_pos qb, if_neg (by decide)]
    intro μ2 e2
    rw [set_in (by omega) (by omega) (by decide)] at e2
    refine ih _ _ ⟨j + 1, by omega, by omega, by rw [e2]; exact hf.wI rfl, fun a ha => ?_, fun a ha ha2 => ?_⟩ (by omega)
    · rw [e2, rI_sI]
      by_cases e : (a : Int) = (j : Int)
      · have e' : a = j := by omega
        rw [if_pos ⟨rfl, e⟩, e', if_pos qb]
        rfl
      · rw [if_neg (fun z => e z.2)]
        exact hz a (by omega)
    · rw [e2, rI_sI, if_neg (fun z => by omega)]
      exact hr a (by omega) ha2
  · rw [if_neg qb, if_pos (by decide)]
    refine ih _ _ ⟨j + 1, by omega, by omega, hf, fun a ha => ?_, fun a ha ha2 => hr a (by omega) ha2⟩ (by omega)
    by_cases e : a = j
    · rw [e, if_neg qb]
      exact hr j (by omega) (by omega)
    · exact hz a (by omega)
def suL : List Nat := [10356, 10354, 10355, 80, 10357, 10358, 10359, 10360]
theorem c_sumUp {σ : Sg} {μ : Mem} (hI : Ic σ μ) {mt kn tn : Int} (ht : Rg tn) (hv : ∀ a : Int, 0 ≤ a → a < σ 15466 0 → rI μ 79 a = vo σ a mt kn) {wg : Nat → Int} (hw : Wg wg (σ 15466 0).toNat) (hwg : ∀ a : Nat, (a : Int) < σ 15466 0 → rI μ 78 (a : Int) = wg a) {K : Mem → Prop}
    (h : ∀ ν : Mem, Fr suL μ ν → CN ν (bnd (sY (vcT σ mt kn tn) wg 1 (σ 15466 0).toNat)) (bnd (sY (vcT σ mt kn tn) wg 0 (σ 15466 0).toNat)) (bnd (sA wg (σ 15466 0).toNat)) (scN (fun s => sM (fun a : Nat => σ 114 (a : Int)) (vcT σ mt kn tn) wg s (σ 15466 0).toNat) 6) → K ν) : f_Count_sumUp tn μ K := by
  have hA := hI.wfR.1
  have eA0 : rI μ 1136 0 = σ 15466 0 := hI.relR.1
  obtain ⟨ht0, ht1⟩ := ht
  unfold f_Count_sumUp
  refine c_beginSum (sc := fun a : Nat => σ 114 (a : Int)) (vc := vcT σ mt kn tn) (wg := wg) (fun μ1 f1 s1 => ?_)
  refine lp2 (fun n (i : Int) (ξ : Mem) => l_Count_sumUp_6 tn (fun (μ_4 : Mem) => f_Count_endSum μ_4 (fun μ_5 => K μ_5)) n i ξ) (fun i ξ => ∃ j : Nat, i = (j : Int) ∧ (j : Int) ≤ σ 15466 0 ∧ Fr smL μ ξ ∧ SC ξ (fun a : Nat => σ 114 (a : Int)) (vcT σ mt kn tn) wg j) (fun i _ => (σ 15466 0 - i).toNat) (fun n i ξ hJ ih => ?_) 0 μ1 ⟨0, rfl, by omega, f1, s1⟩
  obtain ⟨j, rfl, hj, hf, hs⟩ := hJ
  have eA : rI ξ 1136 0 = σ 15466 0 := (hf.rdI rfl).trans eA0
  unfold l_Count_sumUp_6
  rw [eA]
  try simp (disch := omega) only [w_id]
  refine ite_i (fun q v3 e3 x ex => ?_) (fun q => ?_)
  · have hvr := vo_rng hI.wfR hI.wfT (j : Int) mt kn
    rw [hf.at rfl, at_in (by omega) (by omega) (by decide), hv (j : Int) (by omega) q] at e3
    have ex2 : x = vcT σ mt kn tn j := by
      rw [ex, e3]
      try simp (disch := omega) only [w_id]
      unfold vcT
      by_cases c1 : (j : Int) = tn
      · rw [if_pos c1, if_pos c1]
        by_cases c2 : vo σ (j : Int) mt kn = 2
        · rw [if_pos c2, if_pos c2, c2]
        · rw [if_neg c2, if_neg c2]
      · rw [if_neg c1, if_neg c1]
    have hx : 0 ≤ x ∧ x ≤ 2 := by
      rw [ex2]
      unfold vcT
      refine ite_p (P := fun z : Int => 0 ≤ z ∧ z ≤ 2) (fun _ => ite_p (P := fun z : Int => 0 ≤ z ∧ z ≤ 2) (fun _ => by omega) (fun _ => by omega)) (fun _ => hvr)
    rw [hf.at rfl, hf.at rfl, at_in (by omega) (by omega) (by decide), at_in (by omega) (by omega) (by decide), hwg j q]
    have hsec := hI.wfR.2.2.2.2.2.1 (j : Int) (by omega) q
    have esec : rI μ 2 (j : Int) = σ 114 (j : Int) := hI.relR.2.2.2.2.2.1 (j : Int) (by omega) q
    rw [esec]
    have hwj := hw j (by omega)
    refine c_add (by omega) ⟨by omega, by omega⟩ hwj (lim_A hw (by omega) (by omega)) (lim_Y hw (by omega) (by omega)) (lim_Y hw (by omega) (by omega)) (fun s => lim_M hw (by omega) (by omega)) hs (fun ο fo so => ?_)
    refine ih _ _ ⟨j + 1, by omega, by omega, hf.trans fo, ?_⟩ (by omega)
    rw [ex2] at so
    exact so
  · have ej : (σ 15466 0).toNat = j := by omega
    rw [ej] at h
    exact c_endSum hs (fun ο fo co => h ο ((Fr.mono hf rfl : Fr suL μ ξ).trans (Fr.mono fo rfl)) co)
theorem Wg_1 (n : Nat) : Wg (fun _ : Nat => 1) n := by
  intro i hi
  show (0 : Int) ≤ 1 ∧ (1 : Int) ≤ 1000000000
  omega
theorem c_sumUpBranches {σ : Sg} {μ : Mem} (hI : Ic σ μ) {mt kn : Int} (hk : ∀ b : Int, 0 ≤ b → b < 48 → rI μ 77 b = tl σ 2 b mt kn 2) {K : Mem → Prop}
    (h : ∀ ν : Mem, Fr suL μ ν → CN ν (cYes σ mt kn 3 (-1) false) (cNo σ mt kn 3 (-1) false) (cAll σ kn 3 false) (cSec σ mt kn 3 (-1) false) → K ν) : f_Count_sumUpBranches μ K := by
  have hB := hI.wfR.2.1
  have hA := hI.wfR.1
  have eB0 : rI μ 1137 0 = σ 15468 0 := hI.relR.2.1
  have hw : Wg (fun _ : Nat => 1) (σ 15468 0).toNat := Wg_1 _
  unfold f_Count_sumUpBranches
  refine c_beginSum (sc := csc σ 3) (vc := cvc σ mt kn 3 (-1)) (wg := fun _ : Nat => 1) (fun μ1 f1 s1 => ?_)
  refine lp2 (fun n (i : Int) (ξ : Mem) => l_Count_sumUpBranches_6 (fun (μ_4 : Mem) => f_Count_endSum μ_4 (fun μ_5 => K μ_5)) n i ξ) (fun i ξ => ∃ j : Nat, i = (j : Int) ∧ (j : Int) ≤ σ 15468 0 ∧ Fr smL μ ξ ∧ SC ξ (csc σ 3) (cvc σ mt kn 3 (-1)) (fun _ : Nat => 1) j) (fun i _ => (σ 15468 0 - i).toNat) (fun n i ξ hJ ih => ?_) 0 μ1 ⟨0, rfl, by omega, f1, s1⟩
  obtain ⟨j, rfl, hj, hf, hs⟩ := hJ
  have eB : rI ξ 1137 0 = σ 15468 0 := (hf.rdI rfl).trans eB0
  unfold l_Count_sumUpBranches_6
  rw [eB]
  try simp (disch := omega) only [w_id]
  refine ite_i (fun q => ?_) (fun q => ?_)
  · have hb := hI.wfR.2.2.2.2.2.2 (j : Int) (by omega) q
    have ob := (hI.relR.2.2.2.2.2.2.1 (j : Int) (by omega) q).1
    have ow : rI μ 3 (j : Int) = σ 115 (j : Int) := ob
    have hsec := hI.wfR.2.2.2.2.2.1 (σ 115 (j : Int)) hb.1 hb.2.1
    have esec : rI μ 2 (σ 115 (j : Int)) = σ 114 (σ 115 (j : Int)) := hI.relR.2.2.2.2.2.1 _ hb.1 hb.2.1
    have t2 := tl_2 hI.wfR hI.wfT (j : Int) mt kn
    rw [hf.at rfl, hf.at rfl, hf.at rfl, at_in (a := 3) (by omega) (by omega) (by decide), ow, at_in (by omega) (by omega) (by decide), at_in (by omega) (by omega) (by decide), esec, hk (j : Int) (by omega) (by omega)]
    refine c_add (by omega) ⟨by omega, by omega⟩ (by omega) (lim_A hw (by omega) (by omega)) (lim_Y hw (by omega) (by omega)) (lim_Y hw (by omega) (by omega)) (fun s => lim_M hw (by omega) (by omega)) hs (fun ο fo so => ?_)
    exact ih _ _ ⟨j + 1, by omega, by omega, hf.trans fo, so⟩ (by omega)
  · have ej : (σ 15468 0).toNat = j := by omega
    have en : cn σ 3 = j := ej
    refine c_endSum hs (fun ο fo co => h ο ((Fr.mono hf rfl : Fr suL μ ξ).trans (Fr.mono fo rfl)) ?_)
    unfold cYes cNo cAll cSec
    rw [en]
    exact co
