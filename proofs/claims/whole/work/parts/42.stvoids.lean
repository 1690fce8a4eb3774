/-! VOIDS on both sides -/
def mvL : List Nat := [15464] ++ gbL ++ [153] ++ mdL
theorem st_voids {a : Int} (ha : Rg a) : Both Int (f_H_voids a) (f_M_voids a) := by
  intro μ I
  have hI := I.iv
  have hV := I.relV
  unfold RelV at hV
  obtain ⟨v1, v2, v3, v4, v5, v6⟩ := hV
  have hcnt := hI.cnt
  have hD := hI.wfR.2.2.2.1
  have hA := hI.wfR.1
  have eR : rI μ 11632 0 = MS μ 15534 0 := (cr' rfl).trans v1
  have eL : rI μ 11630 0 = CS μ 11630 0 := cr' rfl
  have eB : rI μ 11631 0 = CS μ 11631 0 := cr' rfl
  have hmt0 : ¬ MS μ 15536 0 = 0 → isMt (MS μ) (MS μ 158 (7 * (MS μ 15534 0 - 1))) := fun z => isMt_hw3 (by rw [(v6 z).2.2.1]; omega)
  have no' : ∀ (ν : Mem) (K : Int → Mem → Prop), Qt μ ν → K (-1) (sI ν 15464 0 0) → ¬ (isAf (MS μ) a ∧ ¬ MS μ 15536 0 = 0 ∧ MS μ 153 a = 0 ∧ ¬ vo (MS μ) a (MS μ 158 (7 * (MS μ 15534 0 - 1))) (MS μ 158 (7 * (MS μ 15534 0 - 1) + 1)) = 2) → f_M_voids a ν K := fun ν K qν fin z => by
    have eM : MS (sI ν 15464 0 0) = MS μ := (thr_ms ν).trans qν.2.2.1
    have mR : ∀ (q : Nat) (j : Int), inM q = true → rI (sI ν 15464 0 0) q j = MS μ q j := fun q j h => (mr h).trans (by rw [eM])
    unfold f_M_voids
    intro μ1 e1
    subst e1
    refine ite_b (isAff_i ha) (fun q1 => ?_) (fun q1 => fin)
    rw [eM] at q1
    have q1' := q1
    unfold isAf at q1'
    rw [rB_rI, mR _ _ rfl, mR _ _ rfl]
    simp only [decide_eq_true_eq]
    refine ite_i (fun q2 => ?_) (fun q2 => fin)
    have V := v6 q2
    have lt := isMt_lt hI (hmt0 q2)
    have vr := vo_rng hI.wfR hI.wfT a (MS μ 158 (7 * (MS μ 15534 0 - 1))) (MS μ 158 (7 * (MS μ 15534 0 - 1) + 1))
    (try simp (disch := omega) only [w_id])
    refine ⟨by omega, by omega, ?_⟩
    rw [rB_rI, mR _ _ rfl]
    simp only [decide_eq_true_eq]
    refine ite_i (fun q3 => fin) (fun q3 v2 e2 => ?_)
    subst e2
    (try simp (disch := omega) only [w_id])
    rw [mR _ _ rfl, mR _ _ rfl]
    refine ⟨by omega, by omega, by omega, by omega, m_voiceOf ha ⟨by omega, by omega⟩ ⟨by omega, by omega⟩ (by rw [eM]; exact hI.wfR) (by rw [eM]; exact hI.wfT) ?_⟩
    rw [eM]
    (try simp (disch := omega) only [w_id])
    exact ite_i (fun q4 => fin) (fun q4 => absurd ⟨q1, q2, by omega, q4⟩ z)
  have no : ∀ ν : Mem, Qt μ ν → ¬ (isAf (MS μ) a ∧ ¬ MS μ 15536 0 = 0 ∧ MS μ 153 a = 0 ∧ ¬ vo (MS μ) a (MS μ 158 (7 * (MS μ 15534 0 - 1))) (MS μ 158 (7 * (MS μ 15534 0 - 1) + 1)) = 2) → f_M_voids a ν (fun r' ξ => -1 = r' ∧ Inv ξ) := fun ν q z => no' ν _ q ⟨rfl, (thr_qt ν).inv (q.inv I)⟩ z
  unfold f_H_voids f_Chair_decideWithout
  rw [rB_rI]
  simp only [decide_eq_true_eq]
  refine ite_i (fun q1 => ite_b (hasAff_i hI ha) (fun q2 => ?_) (fun q2 => no μ (Qt.refl μ) (fun z => q2 z.1))) (fun q1 => no μ (Qt.refl μ) (fun z => z.2.1 (v5.mp (eL.symm.trans (by omega)))))
  have hmay : ¬ MS μ 15536 0 = 0 := fun z => q1 (eL.trans (v5.mpr z))
  obtain ⟨hR1, hFl, hhw, hk0, hk1, hb0, hb1, hbits, hz⟩ := v6 hmay
  have hmt := hmt0 hmay
  have lt := isMt_lt hI hmt
  have q2' := q2
  unfold isAf at q2'
  rw [← eB] at hb0 hb1 hbits
  have hba := hbits a.toNat (by omega)
  rw [show ((a.toNat : Nat) : Int) = a by omega] at hba
  rw [bit_e ⟨hb0, by omega⟩ ⟨by omega, by omega⟩]
  by_cases cb : (rI μ 11631 0).toNat.testBit a.toNat = true
  · rw [if_pos cb, if_neg (by decide)]
    exact no μ (Qt.refl μ) (fun z => hba.mp cb z.2.2.1)
  rw [if_neg cb, if_pos (by decide)]
  have hva : MS μ 153 a = 0 := by
    by_cases c : MS μ 153 a = 0
    · exact c
    · exact absurd (hba.mpr c) cb
  intro x2 e2 x3 e3
  unfold v_Chair_rowField at e2 e3
  rw [eR, at_in (by omega) (by omega) (by decide), cr' rfl, show (MS μ 15534 0 - 1) * 7 + 0 = 7 * (MS μ 15534 0 - 1) by omega, v4 _ (by omega) (by omega)] at e2
  rw [eR, at_in (by omega) (by omega) (by decide), cr' rfl, show (MS μ 15534 0 - 1) * 7 + 1 = 7 * (MS μ 15534 0 - 1) + 1 by omega, v4 _ (by omega) (by omega)] at e3
  generalize hmtE : MS μ 158 (7 * (MS μ 15534 0 - 1)) = mt at *
  generalize hknE : MS μ 158 (7 * (MS μ 15534 0 - 1) + 1) = kn at *
  rw [e2, e3]
  refine c_take hI ⟨by omega, by omega⟩ ⟨by omega, by omega⟩ (fun ν f0 hk => ?_)
  have q0 : Qt μ ν := f0.qt rfl
  have vr := vo_rng hI.wfR hI.wfT a mt kn
  unfold v_Count_voiceTaken
  rw [at_in (by omega) (by omega) (by decide), hk.2.2 a (by omega) (by omega)]
  (try simp (disch := omega) only [w_id])
  refine ite_i (fun q4 => no ν q0 (fun z => z.2.2.2 q4)) (fun q4 μ2 e4 => ?_)
  rw [f0.rdI rfl, ior_e ⟨hb0, hb1⟩ ⟨by omega, by omega⟩] at e4
  have hlt := ior_lt (v := (rI μ 11631 0).toNat) (i := a.toNat) (by omega) (by omega)
  generalize hnb : (rI μ 11631 0).toNat ||| 2 ^ a.toNat = nb at *
  refine c_copyFrom_a (fun μ4 f4 cp s1 d1 fo1 => ?_)
  have f02 : Fr (tkL ++ [11631]) μ μ2 := by rw [e4]; exact (Fr.mono f0 rfl : Fr (tkL ++ [11631]) μ ν).wI rfl
  have f04 : Fr (tkL ++ [11631] ++ cfL) μ μ4 := (Fr.mono f02 rfl : Fr (tkL ++ [11631] ++ cfL) μ μ2).trans (Fr.mono f4 rfl)
  have b4 : rI μ4 11631 0 = (nb : Int) := by rw [f4.rdI rfl, e4, rI_sI, if_pos ⟨rfl, rfl⟩, w_id (by omega) (by omega)]
  have r4 : rI μ4 11632 0 = MS μ 15534 0 := (f04.rdI rfl).trans eR
  obtain ⟨k0, kA, kB, kC, kD, kE⟩ := gbS_v (MS μ)
  have gc : ∀ q : Nat, gJ q = true → gdS (MS μ) a q 0 = MS μ q 0 := fun q h => congrFun (gdS_J (MS μ) a q h) 0
  have l12 : ∀ m i : Int, 0 ≤ m → m < 24 → i < MS μ 133 m → i < 12 := fun m i h0 h1 h2 => by
    obtain ⟨-, -, -, -, -, -, -, -, z9, -⟩ := hFl
    have y := (z9 m h0 h1).2.2.2.1
    unfold rw4 at y
    rw [lv_len] at y
    omega
  have cc : ∀ (q : Nat) (j : Int), inC q = true → CS μ q j = rI μ q j := fun q j h => (cr' h).symm
  have pc : ∀ (q : Nat) (j : Int), PC q j = true → CS μ4 q j = rI μ4 q j := fun q j h => (cr h).symm
  have FC := FlOK.copy (κ' := CS μ4) (σ' := gdS (MS μ) a) (c0' := 68) (cm' := 122) (ca' := 123) (co' := 124) (cl' := 125) (cn' := 126) (cu' := 127) (cb' := 128) (cs' := 129) hFl
    (gc _ rfl) (gc _ rfl) (gc _ rfl) ⟨hcnt.1, hcnt.2.1, hcnt.2.2.2.1, hcnt.2.2.2.2.2⟩
    (fun j j0 j1 => by rw [pc 68 j rfl, cp.1 j j0 j1, f02.rdI rfl]; exact cr' rfl)
    (fun j j0 j1 => by
      show CS μ4 69 j = CS μ 87 j
      rw [pc 69 j (by unfold PC; simp [j1]), cc 87 j rfl]
      exact (cp.2.1 j j0 (by omega)).trans (f02.rdI rfl))
    (fun j j0 j1 => by
      obtain ⟨c1, c2, c3⟩ := cp.2.2 j j0 (by omega)
      refine ⟨?_, ?_, ?_⟩
      · show CS μ4 70 j = CS μ 88 j
        rw [pc 70 j (by unfold PC; simp [j1]), cc 88 j rfl]; exact c1.trans (f02.rdI rfl)
      · show CS μ4 71 j = CS μ 89 j
        rw [pc 71 j (by unfold PC; simp [j1]), cc 89 j rfl]; exact c2.trans (f02.rdI rfl)
      · show CS μ4 72 j = CS μ 90 j
        rw [pc 72 j (by unfold PC; simp [j1]), cc 90 j rfl]; exact c3.trans (f02.rdI rfl))
    (fun j j0 j1 => by rw [gdS_q rfl, (kA j j0 j1).1])
    (fun j j0 j1 => by rw [gdS_q rfl, kB j j0 j1])
    (fun j j0 j1 => by rw [gdS_q rfl, kC j j0 j1])
    (fun j j0 j1 => by rw [gdS_q rfl, (kA j j0 j1).2])
    (fun j j0 j1 => ⟨by rw [gdS_q rfl, (kD j j0 j1).1], by rw [gdS_q rfl, (kD j j0 j1).2.1]⟩)
    (fun m i m0 m1 i0 i1 => by
      have i12 := l12 m i m0 m1 i1
      rw [gdS_q rfl, (kD (12 * m + i) (by omega) (by omega)).2.2]
      have b := FlOK.must hFl m0 m1 i0 i1
      rcases b with b | b
      · rw [b]; rfl
      · rw [b]; rfl)
    (fun j j0 j1 => by rw [gdS_q rfl, kE j (by omega) (by omega)])
  have RF0 : RelF (CS μ4) (CL μ4) (gdS (MS μ) a) := by
    unfold RelF
    have cl1 : (CL μ4).1 = (CL μ).2.2.1 := by
      show rL μ4 9582 0 = rL μ 11886 0
      rw [s1, f02.rdL rfl]
    have cl2 : (CL μ4).2.1 = (CL μ).2.2.2 := by
      show rL μ4 9583 0 = rL μ 11887 0
      rw [d1, f02.rdL rfl]
    have cl3 : CS μ4 9584 0 = CS μ 11888 0 := by
      rw [pc _ _ rfl, cc _ _ rfl]
      exact fo1.trans (f02.rdI rfl)
    have cl4 : gdS (MS μ) a 15480 0 = MS μ 15489 0 := by rw [gdS_q rfl, k0]
    rw [cl1, cl2, cl3, cl4]
    exact FC
  have hIc : Ic (gdS (MS μ) a) μ4 := hI.mk' f04 rfl (gdS_J _ _) RF0
  have hmt' : isMt (gdS (MS μ) a) mt := by
    unfold isMt
    rw [gc 15472 rfl, gc 15474 rfl, gc 15479 rfl]
    exact hmt
  have hbn : ∀ i : Nat, i < 12 → (nb.testBit i = true ↔ ¬ gdS (MS μ) a 153 (i : Int) = 0) := fun i hi => by
    rw [← hnb, ior_bit, gdS_v]
    have h := hbits i hi
    by_cases c : (i : Int) = a
    · rw [if_pos c]
      have : a.toNat = i := by omega
      simp [this]
    · rw [if_neg c]
      have : ¬ a.toNat = i := by omega
      simp only [this, decide_false, Bool.or_false]
      exact h
  have hzn : ∀ i : Int, MS μ 15466 0 ≤ i → i < 12 → gdS (MS μ) a 153 i = 0 := fun i i0 i1 => by
    rw [gdS_v, if_neg (by omega)]
    exact hz i i0 i1
  have nbt : ((nb : Int)).toNat = nb := by omega
  refine c_decideOn hIc (r := MS μ 15534 0 - 1) hmt' ⟨by omega, by omega⟩ (by rw [r4]; omega) (by omega) (by rw [b4]; omega) (fun i hi => ?_) (fun ξ fx Ax ox wx => ?_)
  · rw [gc _ rfl] at hi
    rw [b4, nbt]
    exact hbn i (by omega)
  have fC : Fr (tkL ++ [11631] ++ cfL ++ dcL) μ ξ := (Fr.mono f04 rfl : Fr (tkL ++ [11631] ++ cfL ++ dcL) μ μ4).trans (Fr.mono fx rfl)
  have eX : MS ξ = MS μ := fC.ms rfl
  have eT : MS (sI ξ 15464 0 0) = MS μ := (thr_ms ξ).trans eX
  have mR : ∀ (q : Nat) (j : Int), inM q = true → rI (sI ξ 15464 0 0) q j = MS μ q j := fun q j h => (mr h).trans (by rw [eT])
  unfold f_M_voids
  intro μ5 e5
  subst e5
  refine ite_b (isAff_i ha) (fun p1 => ?_) (fun p1 => absurd (by rw [eT]; exact q2) p1)
  rw [rB_rI, mR _ _ rfl, mR _ _ rfl]
  simp only [decide_eq_true_eq]
  refine ite_i (fun p2 => ?_) (fun p2 => absurd hmay p2)
  (try simp (disch := omega) only [w_id])
  refine ⟨by omega, by omega, ?_⟩
  rw [rB_rI, mR _ _ rfl]
  simp only [decide_eq_true_eq]
  refine ite_i (fun p3 => absurd hva p3) (fun p3 x4 e6 => ?_)
  subst e6
  (try simp (disch := omega) only [w_id])
  rw [mR _ _ rfl, mR _ _ rfl, hmtE, hknE]
  refine ⟨by omega, by omega, by omega, by omega, m_voiceOf ha ⟨by omega, by omega⟩ ⟨by omega, by omega⟩ (by rw [eT]; exact hI.wfR) (by rw [eT]; exact hI.wfT) ?_⟩
  rw [eT]
  (try simp (disch := omega) only [w_id])
  refine ite_i (fun p4 => absurd p4 q4) (fun p4 => m_goesBack (fun ρ1 g1 k1 => ⟨by omega, by omega, fun μ8 e8 => ⟨by omega, by omega, by omega, by omega, ?_⟩⟩))
  rw [eT] at k1
  have s8 : MS μ8 = gdS (MS μ) a := by
    rw [e8, MS_inB rfl, k1]
    rfl
  have wq : ∀ (q : Nat) (j : Int), (gbL.all fun x => !(Nat.beq x q)) = true → (q == 153) = false → gdS (MS μ) a q j = MS μ q j := fun q j h1 h2 => by
    rw [gdS_q h2]
    refine congrFun (gbS_lo (g := fun x => Nat.beq x q) h1 q ?_) j
    show Nat.beq q q = true
    exact Nat.beq_refl q
  have r8 : rI μ8 15534 0 = MS μ 15534 0 := by rw [mr rfl, s8]; exact wq _ _ rfl rfl
  have w8 : ∀ j : Int, rI μ8 158 j = MS μ 158 j := fun j => by rw [mr rfl, s8]; exact wq _ _ rfl rfl
  rw [r8, w8, w8, hmtE, hknE]
  have g8 : Fr ([15464] ++ gbL ++ [153]) ξ μ8 := by
    have a1 : Fr ([15464] ++ gbL ++ [153]) ξ (sI ξ 15464 0 0) := (FrP.refl _ _).wI rfl
    have a3 := a1.trans (Fr.mono g1 rfl)
    rw [e8]
    exact a3.wB rfl
  have md := m_decides (μ := μ4) (ρ := μ8) (by rw [s8]; exact hIc) (mt := mt) (kn := kn) (r := MS μ 15534 0 - 1) (by rw [s8]; exact hmt') ⟨by omega, by omega⟩ (by omega) (K := fun r' ο => boI (dps (gdS (MS μ) a) mt kn) = r' ∧ Inv ο)
  rw [s8] at md
  refine md (fun ο fo B oo wo => ⟨rfl, ?_⟩)
  have fM : Fr mvL ξ ο := (Fr.mono g8 rfl : Fr mvL ξ μ8).trans (Fr.mono fo rfl)
  have fA : Fr (tkL ++ [11631] ++ cfL ++ dcL ++ mvL) μ ο := (Fr.mono fC rfl : Fr (tkL ++ [11631] ++ cfL ++ dcL ++ mvL) μ ξ).trans (Fr.mono fM rfl)
  have S : StM (gdS (MS μ) a) ο := by
    have := (StM.refl μ8).fr fo rfl
    rw [s8] at this
    exact this
  have RF := dec_relF hIc hmt' Ax B fM rfl rfl S
  refine Iv.inv (hI.mk' fA rfl (fA.loM rfl) RF) ?_
  have mo : ∀ (q : Nat) (j : Int), inM q = true → lel mdL q = false → MS ο q j = gdS (MS μ) a q j := fun q j h1 h2 => by rw [← mr h1, fo.rdI h2, mr h1, s8]
  have co : ∀ (q : Nat) (j : Int), inC q = true → lel mvL q = false → CS ο q j = rI ξ q j := fun q j h1 h2 => by rw [← cr' h1, fM.rdI h2]
  have R1 : MS ο 15534 0 = MS μ 15534 0 := (mo _ _ rfl rfl).trans (wq _ _ rfl rfl)
  have ms : ∀ (q : Nat) (j : Int), inM q = true → lel (tkL ++ [11631] ++ cfL ++ dcL ++ mvL) q = false → MS ο q j = MS μ q j := fun q j h1 h2 => by rw [← mr h1, fA.rdI h2, mr h1]
  have cs : ∀ (q : Nat) (j : Int), inC q = true → lel (tkL ++ [11631] ++ cfL ++ dcL ++ mvL) q = false → CS ο q j = CS μ q j := fun q j h1 h2 => by rw [← cr' h1, fA.rdI h2, cr' h1]
  have FD := FlOK.copy (κ' := CS ο) (σ' := MS ο) (c0' := 86) (cm' := 130) (ca' := 131) (co' := 132) (cl' := 133) (cn' := 134) (cu' := 135) (cb' := 136) (cs' := 137) hFl
    (ms _ _ rfl rfl) (ms _ _ rfl rfl) (ms _ _ rfl rfl) ⟨hcnt.1, hcnt.2.1, hcnt.2.2.2.1, hcnt.2.2.2.2.2⟩
    (fun j j0 j1 => cs 86 j rfl rfl) (fun j j0 j1 => cs 87 j rfl rfl) (fun j j0 j1 => ⟨cs 88 j rfl rfl, cs 89 j rfl rfl, cs 90 j rfl rfl⟩)
    (fun j j0 j1 => ms _ _ rfl rfl) (fun j j0 j1 => ms _ _ rfl rfl) (fun j j0 j1 => ms _ _ rfl rfl) (fun j j0 j1 => ms _ _ rfl rfl) (fun j j0 j1 => ⟨ms _ _ rfl rfl, ms _ _ rfl rfl⟩) (fun m i m0 m1 i0 i1 => ms _ _ rfl rfl) (fun j j0 j1 => ms _ _ rfl rfl)
  have cl1 : (CL ο).2.2.1 = (CL μ).2.2.1 := by
    show rL ο 11886 0 = rL μ 11886 0
    exact fA.rdL rfl
  have cl2 : (CL ο).2.2.2 = (CL μ).2.2.2 := by
    show rL ο 11887 0 = rL μ 11887 0
    exact fA.rdL rfl
  have cl3 : CS ο 11888 0 = CS μ 11888 0 := cs _ _ rfl rfl
  have cl4 : MS ο 15489 0 = MS μ 15489 0 := ms _ _ rfl rfl
  have hA2 := hIc.wfR.1
  have pv : popc (rI μ4 11631 0).toNat 12 = vcN (gdS (MS μ) a) (gdS (MS μ) a 15466 0).toNat := by
    rw [b4, nbt]
    exact popc_A hA2 hbn (fun i i0 i1 => hzn i (by rw [gc _ rfl] at i0; exact i0) i1)
  rw [pv] at wx
  have rowEq : ∀ j : Int, 0 ≤ j → j < 7 * MS μ 15534 0 → CS ο 84 j = MS ο 158 j := fun j j0 j1 => by
    rw [co _ _ rfl rfl, ← mr rfl]
    by_cases c : 7 * (MS μ 15534 0 - 1) ≤ j
    · exact RowV.eq wx wo c (by omega)
    · rw [ox j (by omega), oo j (by omega), f04.rdI rfl, cr' rfl, v4 j j0 (by omega), w8]
  obtain ⟨w0, w1, -⟩ := wo
  have z0 : MS ο 158 (7 * (MS μ 15534 0 - 1)) = mt := by
    rw [← mr rfl]
    exact w0
  have z1 : MS ο 158 (7 * (MS μ 15534 0 - 1) + 1) = kn := by
    rw [← mr rfl]
    exact w1
  have zb : CS ο 11631 0 = (nb : Int) := by rw [co _ _ rfl rfl, fx.rdI rfl, b4]
  unfold RelV
  rw [R1]
  refine ⟨?_, by omega, by omega, rowEq, ?_, fun _ => ⟨by omega, ?_, ?_, ?_, ?_, ?_, ?_, ?_, ?_⟩⟩
  · rw [co _ _ rfl rfl, fx.rdI rfl, r4]
  · rw [cs _ _ rfl rfl, ms _ _ rfl rfl]
    exact v5
  · rw [cl1, cl2, cl3, cl4]
    exact FD
  · rw [z0]
    have a1 := FD.2.2.2.1 mt lt.1 lt.2
    have a2 := hFl.2.2.2.1 mt lt.1 lt.2
    rw [← a1, cs 86 mt rfl rfl, a2]
    exact hhw
  · rw [z1]; exact hk0
  · rw [z1, ms _ _ rfl rfl]; exact hk1
  · rw [zb]; omega
  · rw [zb]; omega
  · intro i hi
    rw [zb, nbt, mo _ _ rfl rfl]
    exact hbn i hi
  · intro i i0 i1
    rw [mo _ _ rfl rfl]
    exact hzn i (by rw [ms _ _ rfl rfl] at i0; exact i0) i1
