/-! THE MODEL DECIDES: the same row, the same floor -/
theorem flB_of {μ ρ : Mem} (h : Ic (MS ρ) μ) : FlB (MS ρ) ρ (flC (MS ρ)) := by
  have hc := h.cnt
  refine ⟨fun m m0 m1 => ?_, fun a a0 a1 => ?_, fun o o0 o1 => ?_, fun m m0 m1 => ?_, fun n n1 n2 => rfl, rfl⟩
  · show rI ρ 122 m = hw (MS ρ) m
    unfold hw hw3
    rw [if_pos ⟨m0, m1⟩]
    rfl
  · show rI ρ 123 a = hw (MS ρ) (100 + a)
    unfold hw hw3
    rw [if_neg (by omega), if_pos (by omega), show 100 + a - 100 = a by omega]
    rfl
  · show rI ρ 124 o = hw (MS ρ) (200 + o)
    unfold hw hw3
    rw [if_neg (by omega), if_neg (by omega), if_pos (by omega), show 200 + o - 200 = o by omega]
    rfl
  · obtain ⟨-, -, hl⟩ := h.row m0 m1
    refine ⟨hl, fun i hi => ?_⟩
    have g := rowOf_getD hl hi
    show rI ρ 126 (12 * m + (i : Int)) = ((rowOf (MS ρ) m).getD i dL).1 ∧ rI ρ 127 (12 * m + (i : Int)) = ((rowOf (MS ρ) m).getD i dL).2.1 ∧ rI ρ 128 (12 * m + (i : Int)) = ((rowOf (MS ρ) m).getD i dL).2.2
    rw [g]
    exact ⟨rfl, rfl, rfl⟩
theorem FlB.fr {L : List Nat} {σ : Sg} {ν ξ : Mem} {F : Fl} (h : FlB σ ν F) (f : Fr L ν ξ) (hL : (lel L 122 || lel L 123 || lel L 124 || lel L 15480 || lel L 129) = false) (hR : (lel L 125 || lel L 126 || lel L 127 || lel L 128) = false) : FlB σ ξ F := by
  simp only [Bool.or_eq_false_iff] at hL hR
  obtain ⟨⟨⟨⟨l1, l2⟩, l3⟩, l4⟩, l5⟩ := hL
  obtain ⟨⟨⟨r1, r2⟩, r3⟩, r4⟩ := hR
  obtain ⟨z1, z2, z3, z4, z5, z6⟩ := h
  exact ⟨fun m m0 m1 => (f.rdI l1).trans (z1 m m0 m1), fun m m0 m1 => (f.rdI l2).trans (z2 m m0 m1), fun m m0 m1 => (f.rdI l3).trans (z3 m m0 m1), fun m m0 m1 => ⟨(f.rdI r1).trans (z4 m m0 m1).1, fun i hi => by rw [f.rdI r2, f.rdI r3, f.rdI r4]; exact (z4 m m0 m1).2 i hi⟩, fun n n1 n2 => (f.rdI l5).trans (z5 n n1 n2), (f.rdI l4).trans z6⟩
/-- how many were void ahead of the n-th -/
def vcN (σ : Sg) : Nat → Int
  | 0 => 0
  | n + 1 => vcN σ n + (if ¬ σ 153 (n : Int) = 0 then 1 else 0)
theorem vcN_rng (σ : Sg) : ∀ n : Nat, 0 ≤ vcN σ n ∧ vcN σ n ≤ (n : Int)
  | 0 => by unfold vcN; omega
  | n + 1 => by
    have ih := vcN_rng σ n
    unfold vcN
    split <;> omega
theorem popc_vcN {σ : Sg} {v : Nat} : ∀ n : Nat, (∀ a : Nat, a < n → (v.testBit a = true ↔ ¬ σ 153 (a : Int) = 0)) → popc v n = vcN σ n
  | 0, _ => rfl
  | n + 1, h => by
    have ih := popc_vcN (σ := σ) (v := v) n (fun a ha => h a (by omega))
    have hn := h n (by omega)
    unfold popc vcN
    rw [ih]
    by_cases c : v.testBit n = true
    · rw [if_pos c, if_pos (hn.mp c)]
    · rw [if_neg c, if_neg (fun z => c (hn.mpr z))]
theorem vcN_up {σ : Sg} {k : Nat} (h : ∀ a : Int, (k : Int) ≤ a → a < 12 → σ 153 a = 0) : ∀ n : Nat, k + n ≤ 12 → vcN σ (k + n) = vcN σ k
  | 0, _ => rfl
  | n + 1, hn => by
    have ih := vcN_up h n (by omega)
    show vcN σ (k + n) + _ = _
    rw [ih, if_neg (fun z => z (h ((k + n : Nat) : Int) (by omega) (by omega)))]
    omega
def mdL : List Nat := fcL ++ mpL ++ [158] ++ paL
theorem m_decides {μ ρ : Mem} (hI : Ic (MS ρ) μ) {mt kn r : Int} (hm : isMt (MS ρ) mt) (hk : 0 ≤ kn ∧ kn ≤ 100000) (r0 : 0 ≤ r ∧ r < 100) {K : Int → Mem → Prop}
    (h : ∀ ξ : Mem, Fr mdL ρ ξ → FlB (MS ρ) ξ (coF (MS ρ) (flC (MS ρ)) mt (dps (MS ρ) mt kn)) → (∀ j : Int, ¬ (7 * r ≤ j ∧ j < 7 * r + 7) → rI ξ 158 j = rI ρ 158 j) → RowV (fun j => rI ξ 158 j) r mt kn (cYes (MS ρ) mt kn 0 (-1) true) (cNo (MS ρ) mt kn 0 (-1) true) (cAll (MS ρ) kn 0 true) (dps (MS ρ) mt kn) (vcN (MS ρ) (MS ρ 15466 0).toNat) → K (boI (dps (MS ρ) mt kn)) ξ) : f_M_decides mt kn r ρ K := by
  have hA := hI.wfR.1
  have hlt := isMt_lt hI hm
  have bY := cYes_Bd (MS ρ) mt kn 0 (-1) true
  have bN := cNo_Bd (MS ρ) mt kn 0 (-1) true
  have bA := cAll_Bd (MS ρ) kn 0 true
  have B1 := flB_of hI
  unfold f_M_decides
  refine m_findCount hI.qm (by omega) ⟨by omega, by omega⟩ ⟨by omega, by omega⟩ ⟨by omega, by omega⟩ (fun ν1 f1 hmn => ?_)
  have eM : MS ν1 = MS ρ := (Fr.qt f1 rfl).2.2.1
  have est : (fun k => rI ν1 129 k) = stO (MS ρ) := funext fun k => (f1.rdI rfl).trans rfl
  refine m_passes (c := 129) (hI.qm.ms eM) (by rw [eM]; exact hI.rw) (by rw [eM]; exact hm) rfl (fun n n1 n2 => by rw [f1.rdI rfl]; exact ⟨(hI.stand n1 n2).1, (hI.stand n1 n2).2.1⟩) hmn bY bN bA (cSec_Bd _ _ _ _ _ _) (bd_small hk.1 (by omega)) (fun ν2 f2 => ?_)
  rw [eM, est]
  have f02 : Fr (fcL ++ mpL) ρ ν2 := (Fr.mono f1 rfl : Fr (fcL ++ mpL) ρ ν1).trans (Fr.mono f2 rfl)
  obtain ⟨m1, m2, m3, m4⟩ := hmn
  rw [← f2.rdL (q := 15525) rfl] at m1
  rw [← f2.rdL (q := 15526) rfl] at m2
  rw [← f2.rdL (q := 15527) rfl] at m3
  change 0 ≤ w (7 * r) ∧ _
  generalize hps : psO (MS ρ) mt kn (cYes (MS ρ) mt kn 0 (-1) true) (cNo (MS ρ) mt kn 0 (-1) true) (cAll (MS ρ) kn 0 true) (cSec (MS ρ) mt kn 0 (-1) true) (agO (MS ρ) (stO (MS ρ)) mt) = ps
  have hps' : dps (MS ρ) mt kn = ps := hps
  rw [hps'] at h
  generalize hY : cYes (MS ρ) mt kn 0 (-1) true = Y at *
  generalize hN : cNo (MS ρ) mt kn 0 (-1) true = N at *
  generalize hAl : cAll (MS ρ) kn 0 true = A at *
  unfold Bd at bY bN bA
  (try simp (disch := omega) only [w_id])
  refine ⟨by omega, by omega, fun μ3 e3 => ⟨by omega, by omega, fun μ4 e4 => ⟨by omega, by omega, fun μ5 e5 => ⟨by omega, by omega, fun μ6 e6 => ⟨by omega, by omega, fun μ7 e7 x ex => ⟨by omega, by omega, fun μ8 e8 => ⟨by omega, by omega, fun μ9 e9 => ?_⟩⟩⟩⟩⟩⟩⟩
  have g4 : Fr [158] ν2 μ4 := by rw [e4, e3]; exact ((FrP.refl _ _).wI rfl).wI rfl
  have g5 : Fr [158] ν2 μ5 := by rw [e5]; exact g4.wI rfl
  have g6 : Fr [158] ν2 μ6 := by rw [e6]; exact g5.wI rfl
  have g9 : Fr [158] ν2 μ9 := by rw [e9, e8, e7]; exact ((g6.wI rfl).wI rfl).wI rfl
  have y1 : w_l2i (rL μ4 15525 0) = Y := by rw [g4.rdL rfl, l2i_e (by rw [m1]; omega) (by rw [m1]; omega), m1]
  have y2 : w_l2i (rL μ5 15526 0) = N := by rw [g5.rdL rfl, l2i_e (by rw [m2]; omega) (by rw [m2]; omega), m2]
  have y3 : w_l2i (rL μ6 15527 0) = A := by rw [g6.rdL rfl, l2i_e (by rw [m3]; omega) (by rw [m3]; omega), m3]
  rw [y1] at e5
  rw [y2] at e6
  rw [y3] at e7
  have hx : x = boI ps := ex
  have hb : boI ps = 0 ∨ boI ps = 1 := by unfold boI; cases ps <;> simp
  rw [hx] at e8
  have W : ∀ z : Int, -2147483648 ≤ z → z < 2147483648 → w z = z := fun z z0 z1 => w_id z0 z1
  have o9 : ∀ j : Int, ¬ (7 * r ≤ j ∧ j < 7 * r + 7) → rI μ9 158 j = rI ρ 158 j := fun j hj => by
    rw [e9, rI_sI, if_neg (by omega), e8, rI_sI, if_neg (by omega), e7, rI_sI, if_neg (by omega), e6, rI_sI, if_neg (by omega), e5, rI_sI, if_neg (by omega), e4, rI_sI, if_neg (by omega), e3, rI_sI, if_neg (by omega), f02.rdI rfl]
  have R9 : RowV (fun j => rI μ9 158 j) r mt kn Y N A ps 0 := by
    refine ⟨?_, ?_, ?_, ?_, ?_, ?_, ?_⟩
    · show rI μ9 158 (7 * r) = mt
      rw [e9, rI_sI, if_neg (by omega), e8, rI_sI, if_neg (by omega), e7, rI_sI, if_neg (by omega), e6, rI_sI, if_neg (by omega), e5, rI_sI, if_neg (by omega), e4, rI_sI, if_neg (by omega), e3, rI_sI, if_pos ⟨rfl, rfl⟩, W _ (by omega) (by omega)]
    · show rI μ9 158 (7 * r + 1) = kn
      rw [e9, rI_sI, if_neg (by omega), e8, rI_sI, if_neg (by omega), e7, rI_sI, if_neg (by omega), e6, rI_sI, if_neg (by omega), e5, rI_sI, if_neg (by omega), e4, rI_sI, if_pos ⟨rfl, rfl⟩, W _ (by omega) (by omega)]
    · show rI μ9 158 (7 * r + 2) = Y
      rw [e9, rI_sI, if_neg (by omega), e8, rI_sI, if_neg (by omega), e7, rI_sI, if_neg (by omega), e6, rI_sI, if_neg (by omega), e5, rI_sI, if_pos ⟨rfl, rfl⟩, W _ (by omega) (by omega)]
    · show rI μ9 158 (7 * r + 3) = N
      rw [e9, rI_sI, if_neg (by omega), e8, rI_sI, if_neg (by omega), e7, rI_sI, if_neg (by omega), e6, rI_sI, if_pos ⟨rfl, rfl⟩, W _ (by omega) (by omega)]
    · show rI μ9 158 (7 * r + 4) = A
      rw [e9, rI_sI, if_neg (by omega), e8, rI_sI, if_neg (by omega), e7, rI_sI, if_pos ⟨rfl, rfl⟩, W _ (by omega) (by omega)]
    · show rI μ9 158 (7 * r + 5) = boI ps
      rw [e9, rI_sI, if_neg (by omega), e8, rI_sI, if_pos ⟨rfl, rfl⟩, W _ (by omega) (by omega)]
    · show rI μ9 158 (7 * r + 6) = 0
      rw [e9, rI_sI, if_pos ⟨rfl, rfl⟩]
      rfl
  have f09 : Fr (fcL ++ mpL ++ [158]) ρ μ9 := (Fr.mono f02 rfl : Fr (fcL ++ mpL ++ [158]) ρ ν2).trans (Fr.mono g9 rfl)
  refine lp2 (fun n (i : Int) (ξ : Mem) => l_M_decides_128 mt r ps _ n i ξ) (fun i ξ => ∃ j : Nat, i = (j : Int) ∧ (j : Int) ≤ MS ρ 15466 0 ∧ Fr [158] μ9 ξ ∧ (∀ z : Int, ¬ z = 7 * r + 6 → rI ξ 158 z = rI μ9 158 z) ∧ rI ξ 158 (7 * r + 6) = vcN (MS ρ) j) (fun i _ => (MS ρ 15466 0 - i).toNat) (fun n i ξ hJ ih => ?_) 0 μ9 ⟨0, rfl, by omega, FrP.refl _ _, fun _ _ => rfl, R9.2.2.2.2.2.2⟩
  obtain ⟨j, rfl, hj, hf, ho, hv⟩ := hJ
  have f0 : Fr (fcL ++ mpL ++ [158]) ρ ξ := f09.trans (Fr.mono hf rfl)
  have eA : rI ξ 15466 0 = MS ρ 15466 0 := (f0.rdI rfl).trans rfl
  have hvr := vcN_rng (MS ρ) j
  unfold l_M_decides_128
  rw [eA]
  (try simp (disch := omega) only [w_id])
  refine ite_i (fun q => ⟨by omega, by omega, ?_⟩) (fun q => ?_)
  · have ev : rI ξ 153 (j : Int) = MS ρ 153 (j : Int) := (f0.rdI rfl).trans rfl
    rw [rB_rI, ev]
    simp only [decide_eq_true_eq]
    refine ite_i (fun c => ⟨by omega, by omega, by omega, by omega, fun μ11 e11 => ?_⟩) (fun c => ?_)
    · rw [hv] at e11
      refine ih _ _ ⟨j + 1, by omega, by omega, by rw [e11]; exact hf.wI rfl, fun z hz => ?_, ?_⟩ (by omega)
      · rw [e11, rI_sI, if_neg (fun y => hz y.2)]; exact ho z hz
      · rw [e11, rI_sI, if_pos ⟨rfl, rfl⟩, W _ (by omega) (by omega)]
        show _ = vcN (MS ρ) j + _
        rw [if_pos c]
    · refine ih _ _ ⟨j + 1, by omega, by omega, hf, ho, ?_⟩ (by omega)
      show _ = vcN (MS ρ) j + _
      rw [if_neg c, hv]
      omega
  · have ej : j = (MS ρ 15466 0).toNat := by omega
    have := m_carry (σ := MS ρ) (ν := ξ) (F := flC (MS ρ)) (mt := mt) (ps := ps) (K := K) (FlB.fr B1 f0 rfl rfl) ((StM.refl ρ).fr f0 rfl) ⟨hI.rw.1, hI.rw.2.2⟩ hI.flW hm (fun ο fo bo => ?_)
    · unfold m_tail at this
      (try simp (disch := omega) only [w_id] at this)
      exact this
    · have fz : Fr mdL ρ ο := (Fr.mono f0 rfl : Fr mdL ρ ξ).trans (Fr.mono fo rfl)
      have e : ∀ z : Int, rI ο 158 z = rI ξ 158 z := fun z => fo.rdI rfl
      obtain ⟨r1, r2, r3, r4, r5, r6, -⟩ := R9
      refine h ο fz bo (fun z hz => by rw [e, ho z (by omega), o9 z hz]) ⟨?_, ?_, ?_, ?_, ?_, ?_, ?_⟩
      · exact (e _).trans ((ho _ (by omega)).trans r1)
      · exact (e _).trans ((ho _ (by omega)).trans r2)
      · exact (e _).trans ((ho _ (by omega)).trans r3)
      · exact (e _).trans ((ho _ (by omega)).trans r4)
      · exact (e _).trans ((ho _ (by omega)).trans r5)
      · exact (e _).trans ((ho _ (by omega)).trans r6)
      · rw [← ej]; exact (e _).trans hv
