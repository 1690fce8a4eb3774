/-! DECIDE, put together -/
theorem Fr.ms {L : List Nat} {μ ν : Mem} (f : Fr L μ ν) (h : (L.all fun q => !(inM q)) = true) : MS ν = MS μ := funext fun q => funext fun j => by
  unfold MS
  by_cases c : inM q = true
  · rw [if_pos c, if_pos c, f.rdI (all_nl h c)]
  · rw [if_neg c, if_neg c]
theorem dcS_q {σ : Sg} {q : Nat} {j : Int} (h1 : (q == 15534) = false) (h2 : (q == 15536) = false) (h3 : (q == 153) = false) : dcS σ q j = keS σ q j := by
  unfold dcS
  rw [up_ne _ _ _ h1, up_ne _ _ _ h2, zvS_ne h3]
theorem dcS_z {σ : Sg} {j : Int} (h0 : 0 ≤ j) (h1 : j < 12) : dcS σ 153 j = 0 := by
  unfold dcS
  rw [up_ne _ _ _ (by rfl), up_ne _ _ _ (by rfl)]
  exact if_pos ⟨rfl, h0, h1⟩
theorem isMt_lo {σ σ' : Sg} (h : Lo gF σ σ') {x : Int} (k : isMt σ x) : isMt σ' x := by
  unfold isMt at *
  rw [h 15472 rfl, h 15474 rfl, h 15479 rfl]
  exact k
theorem up_at (σ : Sg) (c : Nat) (j v : Int) : up σ c j v c j = v := if_pos ⟨rfl, rfl⟩
theorem popc_A {σ : Sg} {v : Nat} {A : Int} (hA : 0 ≤ A ∧ A ≤ 12) (h : ∀ a : Nat, a < 12 → (v.testBit a = true ↔ ¬ σ 153 (a : Int) = 0)) (hz : ∀ a : Int, A ≤ a → a < 12 → σ 153 a = 0) : popc v 12 = vcN σ A.toNat := by
  rw [popc_vcN 12 h]
  have := vcN_up (σ := σ) (k := A.toNat) (fun a a0 a1 => hz a (by omega) a1) (12 - A.toNat) (by omega)
  rw [show A.toNat + (12 - A.toNat) = 12 by omega] at this
  exact this
def vbL : List Nat := [11630, 11631, 11632]
def mcL : List Nat := [15464] ++ keL ++ [153, 15536, 15534] ++ mdL
theorem st_decide {mt : Int} (hm : Rg mt) : Both Int (f_H_decide mt) (f_M_decide mt) := by
  intro μ I
  have hI := I.iv
  have hV := I.relV
  unfold RelV at hV
  obtain ⟨v1, v2, v3, v4, v5, v6⟩ := hV
  have hcnt := hI.cnt
  have hD := hI.wfR.2.2.2.1
  have eR : rI μ 11632 0 = MS μ 15534 0 := (cr' rfl).trans v1
  have no' : ∀ K : Int → Mem → Prop, K (-1) (sI μ 15464 0 0) → ¬ (isMt (MS μ) mt ∧ hw (MS μ) mt = 0 ∧ ¬ MS μ 15534 0 = 100) → f_M_decide mt μ K := fun K fin z => by
    have eM := thr_ms μ
    have hIt := (thr_qt μ).iv hI
    have hwr := hI.hwr mt
    have e3 : rI (sI μ 15464 0 0) 15534 0 = MS μ 15534 0 := (mr rfl).trans (by rw [eM])
    unfold f_M_decide
    intro μ1 e1
    subst e1
    refine ite_b (isMatter_e (by rw [eM]; exact hcnt) hm) (fun q1 => m_howOf (by rw [eM]; exact hcnt) q1 ?_) (fun q1 => fin)
    rw [eM] at q1 ⊢
    rw [e3]
    (try simp (disch := omega) only [w_id])
    exact ite_i (fun q2 => ite_i (fun q3 => fin) (fun q3 => absurd ⟨q1, q2, q3⟩ z)) (fun q2 => fin)
  have no : ¬ (isMt (MS μ) mt ∧ hw (MS μ) mt = 0 ∧ ¬ MS μ 15534 0 = 100) → f_M_decide mt μ (fun r' ξ => -1 = r' ∧ Inv ξ) := no' _ ⟨rfl, (thr_qt μ).inv I⟩
  unfold f_H_decide f_Chair_decideNow
  rw [stateOf_e hI hm, eR]
  have hwr := hI.hwr mt
  (try simp (disch := omega) only [w_id])
  refine ite_i (fun q1 => ite_i (fun q2 => ?_) (fun q2 => no (fun z => by omega))) (fun q1 => no (fun z => q1 z.2.1))
  have hmt : isMt (MS μ) mt := (hI.hw_iff mt).mp (by omega)
  refine c_copyFrom_b (fun ν1 f1 cp s1 d1 fo1 μ2 e2 μ3 e3 μ4 e4 => ?_)
  have f3 : Fr (bfL ++ vbL) μ μ3 := by rw [e3, e2]; exact ((Fr.mono f1 rfl : Fr (bfL ++ vbL) μ ν1).wB rfl).wI rfl
  have f4 : Fr (bfL ++ vbL) μ μ4 := by rw [e4]; exact f3.wI rfl
  have r3 : rI μ3 11632 0 = MS μ 15534 0 := by
    rw [e3, rI_sI, if_neg (by omega), e2]
    unfold sB
    rw [rI_sI, if_neg (by omega), f1.rdI rfl, eR]
  rw [r3] at e4
  have r4 : rI μ4 11632 0 = MS μ 15534 0 + 1 := by rw [e4, rI_sI, if_pos ⟨rfl, rfl⟩, w_id (by omega) (by omega)]
  have b4 : rI μ4 11631 0 = 0 := by rw [e4, rI_sI, if_neg (by omega), e3, rI_sI, if_pos ⟨rfl, rfl⟩]; rfl
  have l4 : rI μ4 11630 0 = 1 := by
    rw [e4, rI_sI, if_neg (by omega), e3, rI_sI, if_neg (by omega), e2]
    unfold sB
    rw [rI_sI, if_pos ⟨rfl, rfl⟩, w_b2i]
    rfl
  have hIc : Ic (dcS (MS μ)) μ4 := hI.mk' f4 rfl (dcS_J _) (RelF.lo' (lo := CL μ) (f4.loC rfl) (dcS_F _) (show rL μ4 9582 0 = rL μ 9582 0 from f4.rdL rfl) (show rL μ4 9583 0 = rL μ 9583 0 from f4.rdL rfl) hI.relF)
  have hmt' : isMt (dcS (MS μ)) mt := isMt_lo (dcS_F _) hmt
  have t4 : rI μ4 1139 0 = MS μ 15465 0 := (f4.rdI rfl).trans hI.today
  rw [t4]
  refine c_decideOn hIc hmt' hD r4 (by omega) (by rw [b4]; omega) (fun a ha => ?_) (fun ξ fx Ax ox wx => ?_)
  · have hA := hIc.wfR.1
    rw [b4, dcS_z (by omega) (by omega)]
    simp
  have fC : Fr (bfL ++ vbL ++ dcL) μ ξ := (Fr.mono f4 rfl : Fr (bfL ++ vbL ++ dcL) μ μ4).trans (Fr.mono fx rfl)
  have eX : MS ξ = MS μ := fC.ms rfl
  have eT : MS (sI ξ 15464 0 0) = MS μ := (thr_ms ξ).trans eX
  have r5 : rI (sI ξ 15464 0 0) 15534 0 = MS μ 15534 0 := (mr rfl).trans (by rw [eT])
  have hps : boI (dps (dcS (MS μ)) mt (MS μ 15465 0)) = boI (dps (dcS (MS μ)) mt (MS μ 15465 0)) := rfl
  unfold f_M_decide
  intro μ5 e5
  subst e5
  refine ite_b (isMatter_e (by rw [eT]; exact hcnt) hm) (fun p1 => m_howOf (by rw [eT]; exact hcnt) p1 ?_) (fun p1 => absurd (by rw [eT]; exact hmt) p1)
  rw [eT, r5]
  (try simp (disch := omega) only [w_id])
  refine ite_i (fun p2 => ite_i (fun p3 => absurd p3 (by omega)) (fun p3 => ?_)) (fun p2 => absurd q1 p2)
  refine m_keeps (fun ρ1 g1 k1 => ?_)
  rw [eT] at k1
  refine lp2 (fun n (i : Int) (ν : Mem) => l_M_decide_38 mt _ n i ν) (fun i ν => 0 ≤ i ∧ i ≤ 12 ∧ Fr [153] ρ1 ν ∧ MS ν = zvS (keS (MS μ)) i) (fun i _ => (12 - i).toNat) (fun n i ν hJ ih => ?_) 0 ρ1 ⟨by omega, by omega, FrP.refl _ _, ?_⟩
  · obtain ⟨i0, i1, hf, hz⟩ := hJ
    unfold l_M_decide_38
    (try simp (disch := omega) only [w_id])
    refine ite_i (fun q => ⟨by omega, by omega, fun μ6 e6 => ?_⟩) (fun q μ7 e7 μ8 e8 => ?_)
    · refine ih _ _ ⟨by omega, by omega, by rw [e6]; exact hf.wB rfl, ?_⟩ (by omega)
      rw [e6, MS_inB rfl, hz]
      exact zvS_s _ i0
    · have ei : i = 12 := by omega
      rw [ei] at hz
      have s7 : MS μ7 = up (zvS (keS (MS μ)) 12) 15536 0 1 := by
        rw [e7, MS_inB rfl, hz]
        rfl
      have r7 : rI μ7 15534 0 = MS μ 15534 0 := by
        rw [mr rfl, s7, up_ne _ _ _ (by rfl), zvS_ne (by rfl)]
        exact congrFun (keS_lo (g := fun q => Nat.beq q 15534) rfl 15534 rfl) 0
      rw [r7] at e8
      have s8 : MS μ8 = dcS (MS μ) := by
        rw [e8, MS_in rfl, s7, w_id (by omega) (by omega)]
        rfl
      have r8 : rI μ8 15534 0 - 1 = MS μ 15534 0 := by
        rw [mr rfl, s8]
        show up _ 15534 0 _ 15534 0 - 1 = _
        rw [up_at]
        omega
      have t8 : rI μ8 15465 0 = MS μ 15465 0 := by
        rw [mr rfl, s8]
        exact congrFun (dcS_J (MS μ) 15465 rfl) 0
      have g8 : Fr ([15464] ++ keL ++ [153, 15536, 15534]) ξ μ8 := by
        have a1 : Fr ([15464] ++ keL ++ [153, 15536, 15534]) ξ (sI ξ 15464 0 0) := (FrP.refl _ _).wI rfl
        have a3 := (a1.trans (Fr.mono g1 rfl)).trans (Fr.mono hf rfl)
        rw [e8, e7]
        exact (a3.wB rfl).wI rfl
      rw [r8, t8]
      have md := m_decides (μ := μ4) (ρ := μ8) (by rw [s8]; exact hIc) (mt := mt) (kn := MS μ 15465 0) (r := MS μ 15534 0) (by rw [s8]; exact hmt') hD (by omega) (K := fun r' ο => boI (dps (dcS (MS μ)) mt (MS μ 15465 0)) = r' ∧ Inv ο)
      rw [s8] at md
      refine md (fun ο fo B oo wo => ⟨rfl, ?_⟩)
      have fM : Fr mcL ξ ο := (Fr.mono g8 rfl : Fr mcL ξ μ8).trans (Fr.mono fo rfl)
      have fA : Fr (bfL ++ vbL ++ dcL ++ mcL) μ ο := (Fr.mono fC rfl : Fr (bfL ++ vbL ++ dcL ++ mcL) μ ξ).trans (Fr.mono fM rfl)
      have S : StM (dcS (MS μ)) ο := by
        have := (StM.refl μ8).fr fo rfl
        rw [s8] at this
        exact this
      have RF := dec_relF hIc hmt' Ax B fM rfl rfl S
      refine Iv.inv (hI.mk' fA rfl (fA.loM rfl) RF) ?_
      have mo : ∀ (q : Nat) (j : Int), inM q = true → lel mdL q = false → MS ο q j = dcS (MS μ) q j := fun q j h1 h2 => by rw [← mr h1, fo.rdI h2, mr h1, s8]
      have co : ∀ (q : Nat) (j : Int), inC q = true → lel mcL q = false → CS ο q j = rI ξ q j := fun q j h1 h2 => by rw [← cr' h1, fM.rdI h2]
      obtain ⟨k0, kA, kB, kC, kD, kE⟩ := keS_v (MS μ)
      have f14 : Fr vbL ν1 μ4 := by rw [e4, e3, e2]; exact (((FrP.refl _ _).wB rfl).wI rfl).wI rfl
      have hF := hI.relF
      unfold RelF at hF
      have dR : dcS (MS μ) 15534 0 = MS μ 15534 0 + 1 := up_at _ _ _ _
      have R1 : MS ο 15534 0 = MS μ 15534 0 + 1 := (mo _ _ rfl rfl).trans dR
      have hlen : ∀ m i : Int, 0 ≤ m → m < 24 → i < MS μ 125 m → i < 12 := fun m i h0 h1 h2 => by
        obtain ⟨-, w1, w2⟩ := hI.row h0 h1
        have := w1.1
        omega
      have pr : ∀ (q : Nat) (j : Int), (q = 70 ∨ q = 71 ∨ q = 72) → j < 288 → CS μ q j = rI μ q j := fun q j hq hj => (cr (by rcases hq with rfl | rfl | rfl <;> (unfold PC; simp [hj]))).symm
      have FC := FlOK.copy (κ' := CS ο) (σ' := MS ο) (c0' := 86) (cm' := 130) (ca' := 131) (co' := 132) (cl' := 133) (cn' := 134) (cu' := 135) (cb' := 136) (cs' := 137) hF
        ((mo _ _ rfl rfl).trans (congrFun (dcS_F (MS μ) 15472 rfl) 0)) ((mo _ _ rfl rfl).trans (congrFun (dcS_F (MS μ) 15474 rfl) 0)) ((mo _ _ rfl rfl).trans (congrFun (dcS_F (MS μ) 15479 rfl) 0)) ⟨hcnt.1, hcnt.2.1, hcnt.2.2.2.1, hcnt.2.2.2.2.2⟩
        (fun j j0 j1 => by rw [co 86 j rfl rfl, fx.rdI rfl, f14.rdI rfl, cp.1 j j0 j1]; exact cr' rfl)
        (fun j j0 j1 => by
          have e : CS μ (68 + 1) j = rI μ 69 j := (cr (by unfold PC; simp [j1])).symm
          rw [e]
          show CS ο 87 j = _
          rw [co 87 j rfl rfl, fx.rdI rfl, f14.rdI rfl]
          exact cp.2.1 j j0 (by omega))
        (fun j j0 j1 => by
          obtain ⟨c1, c2, c3⟩ := cp.2.2 j j0 (by omega)
          refine ⟨?_, ?_, ?_⟩
          · show CS ο 88 j = CS μ 70 j
            rw [co 88 j rfl rfl, fx.rdI rfl, f14.rdI rfl, pr 70 j (by omega) j1]; exact c1
          · show CS ο 89 j = CS μ 71 j
            rw [co 89 j rfl rfl, fx.rdI rfl, f14.rdI rfl, pr 71 j (by omega) j1]; exact c2
          · show CS ο 90 j = CS μ 72 j
            rw [co 90 j rfl rfl, fx.rdI rfl, f14.rdI rfl, pr 72 j (by omega) j1]; exact c3)
        (fun j j0 j1 => by rw [mo _ _ rfl rfl, dcS_q rfl rfl rfl, (kA j j0 j1).1])
        (fun j j0 j1 => by rw [mo _ _ rfl rfl, dcS_q rfl rfl rfl, kB j j0 j1])
        (fun j j0 j1 => by rw [mo _ _ rfl rfl, dcS_q rfl rfl rfl, kC j j0 j1])
        (fun j j0 j1 => by rw [mo _ _ rfl rfl, dcS_q rfl rfl rfl, (kA j j0 j1).2])
        (fun j j0 j1 => ⟨by rw [mo _ _ rfl rfl, dcS_q rfl rfl rfl, (kD j j0 j1).1], by rw [mo _ _ rfl rfl, dcS_q rfl rfl rfl, (kD j j0 j1).2.1]⟩)
        (fun m i m0 m1 i0 i1 => by
          have i12 := hlen m i m0 m1 i1
          rw [mo _ _ rfl rfl, dcS_q rfl rfl rfl, (kD (12 * m + i) (by omega) (by omega)).2.2]
          have b := FlOK.must hF m0 m1 i0 i1
          rcases b with b | b
          · rw [b]; rfl
          · rw [b]; rfl)
        (fun j j0 j1 => by rw [mo _ _ rfl rfl, dcS_q rfl rfl rfl, kE j (by omega) (by omega)])
      have cl1 : (CL ο).2.2.1 = (CL μ).1 := by
        show rL ο 11886 0 = rL μ 9582 0
        rw [fM.rdL rfl, fx.rdL rfl, f14.rdL rfl, s1]
      have cl2 : (CL ο).2.2.2 = (CL μ).2.1 := by
        show rL ο 11887 0 = rL μ 9583 0
        rw [fM.rdL rfl, fx.rdL rfl, f14.rdL rfl, d1]
      have cl3 : CS ο 11888 0 = CS μ 9584 0 := by
        rw [co _ _ rfl rfl, fx.rdI rfl, f14.rdI rfl]
        exact fo1.trans (cr' rfl)
      have cl4 : MS ο 15489 0 = MS μ 15480 0 := by rw [mo _ _ rfl rfl, dcS_q rfl rfl rfl, k0]
      have hA := hIc.wfR.1
      have pv : popc (rI μ4 11631 0).toNat 12 = vcN (dcS (MS μ)) (dcS (MS μ) 15466 0).toNat := by
        rw [b4]
        exact popc_A hA (fun a ha => by rw [dcS_z (by omega) (by omega)]; simp) (fun a a0 a1 => dcS_z (by omega) a1)
      rw [pv] at wx
      have rowEq : ∀ j : Int, 0 ≤ j → j < 7 * (MS μ 15534 0 + 1) → CS ο 84 j = MS ο 158 j := fun j j0 j1 => by
        rw [co _ _ rfl rfl, ← mr rfl]
        by_cases c : 7 * MS μ 15534 0 ≤ j
        · exact RowV.eq wx wo c (by omega)
        · rw [ox j (by omega), oo j (by omega), f4.rdI rfl, cr' rfl, v4 j j0 (by omega), mr rfl, s8, dcS_q rfl rfl rfl]
          exact (congrFun (keS_lo (g := fun q => Nat.beq q 158) rfl 158 rfl) j).symm
      obtain ⟨w0, w1, -⟩ := wo
      have z0 : MS ο 158 (7 * (MS μ 15534 0 + 1 - 1)) = mt := by
        rw [← mr rfl, show 7 * (MS μ 15534 0 + 1 - 1) = 7 * MS μ 15534 0 by omega]
        exact w0
      have z1 : MS ο 158 (7 * (MS μ 15534 0 + 1 - 1) + 1) = MS μ 15465 0 := by
        rw [← mr rfl, show 7 * (MS μ 15534 0 + 1 - 1) + 1 = 7 * MS μ 15534 0 + 1 by omega]
        exact w1
      have zb : CS ο 11631 0 = 0 := by rw [co _ _ rfl rfl, fx.rdI rfl, b4]
      unfold RelV
      rw [R1]
      refine ⟨?_, by omega, by omega, rowEq, ?_, fun _ => ⟨by omega, ?_, ?_, ?_, ?_, ?_, ?_, ?_, ?_⟩⟩
      · rw [co _ _ rfl rfl, fx.rdI rfl, r4]
      · rw [co _ _ rfl rfl, fx.rdI rfl, l4, mo _ _ rfl rfl]
        have : dcS (MS μ) 15536 0 = 1 := by
          unfold dcS
          rw [up_ne _ _ _ (by rfl), up_at]
        rw [this]
      · rw [cl1, cl2, cl3, cl4]
        exact FC
      · rw [z0]
        have lt := isMt_lt hI hmt
        have a1 := FC.2.2.2.1 mt lt.1 lt.2
        have a2 := hF.2.2.2.1 mt lt.1 lt.2
        rw [← a1, co 86 mt rfl rfl, fx.rdI rfl, f14.rdI rfl, cp.1 mt lt.1 lt.2, cr' rfl, a2]
        exact q1
      · rw [z1]; exact hD.1
      · rw [z1, mo _ _ rfl rfl, congrFun (dcS_J (MS μ) 15465 rfl) 0]; omega
      · rw [zb]; omega
      · rw [zb]; omega
      · intro a ha
        rw [zb, mo _ _ rfl rfl, dcS_z (by omega) (by omega)]
        simp
      · intro a a0 a1
        rw [mo _ _ rfl rfl]
        rw [mo _ _ rfl rfl] at a0
        exact dcS_z (by omega) a1
  · rw [k1]
    funext q j
    exact (if_neg (fun z => by omega)).symm
