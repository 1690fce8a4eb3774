/-! COPIES OF THE FLOOR, on both sides -/
theorem c_copy {a b n : Nat} (hab : ¬ a = b) (hn : n ≤ 1000) {μ : Mem} {K : Mem → Prop} (h : ∀ ν : Mem, Fr [b] μ ν → (∀ j : Int, 0 ≤ j → j < n → rI ν b j = rI μ a j) → K ν) : f_H_copy a n b n μ K := by
  unfold f_H_copy
  refine lp2 (fun m (i : Int) (ν : Mem) => l_H_copy_2 a n b n _ m i ν) (fun i ν => 0 ≤ i ∧ i ≤ n ∧ Fr [b] μ ν ∧ ∀ j : Int, 0 ≤ j → j < i → rI ν b j = rI μ a j) (fun i _ => ((n : Int) - i).toNat) (fun m i ν hJ ih => ?_) 0 μ ⟨by omega, by omega, FrP.refl _ _, fun j j0 j1 => by omega⟩
  obtain ⟨i0, i1, hf, hz⟩ := hJ
  unfold l_H_copy_2
  (try simp (disch := omega) only [w_id])
  refine ite_i (fun q => ?_) (fun q => h ν hf (fun j j0 j1 => hz j j0 (by omega)))
  rw [if_pos q]
  refine ⟨by omega, by omega, by omega, by omega, fun μ2 e2 => ?_⟩
  rw [hf.rdI (lel1 hab)] at e2
  refine ih _ _ ⟨by omega, by omega, by rw [e2]; exact hf.wI (by simp [lel, List.elem]), fun j j0 j1 => ?_⟩ (by omega)
  rw [e2, rI_sI]
  by_cases c : j = i
  · rw [if_pos ⟨rfl, c⟩, w_rI, c]
  · rw [if_neg (fun z => c z.2)]
    exact hz j j0 (by omega)
/-- the model's copy of n places -/
def cpS (σ : Sg) (a b : Nat) (n : Int) : Sg := fun q j => if q = b ∧ 0 ≤ j ∧ j < n then σ a j else σ q j
theorem cpS_0 (σ : Sg) (a b : Nat) : cpS σ a b 0 = σ := by
  funext q j
  exact if_neg (fun z => by omega)
theorem cpS_s (σ : Sg) (a b : Nat) {i : Int} (hi : 0 ≤ i) : up (cpS σ a b i) b i (σ a i) = cpS σ a b (i + 1) := by
  funext q j
  unfold up cpS
  by_cases c : q = b ∧ j = i
  · rw [if_pos c, if_pos ⟨c.1, by omega, by omega⟩, c.2]
  · rw [if_neg c]
    by_cases c2 : q = b ∧ 0 ≤ j ∧ j < i
    · rw [if_pos c2, if_pos ⟨c2.1, c2.2.1, by omega⟩]
    · rw [if_neg c2, if_neg (fun z => c2 ⟨z.1, z.2.1, by have : ¬ j = i := fun e => c ⟨z.1, e⟩; omega⟩)]
theorem Lo.cp {g : Nat → Bool} {f f' : Sg} (h : Lo g f f') {a b : Nat} {n : Int} (hb : g b = false) : Lo g f (cpS f' a b n) := fun q hq => by
  rw [← h q hq]
  funext j
  exact if_neg (fun z => by rw [z.1, hb] at hq; cases hq)
theorem m_copies {a b n : Nat} (hab : ¬ a = b) (ha : inM a = true) (hb : inM b = true) (hn : n ≤ 1000) {μ : Mem} {K : Mem → Prop} (h : ∀ ν : Mem, Fr [b] μ ν → MS ν = cpS (MS μ) a b n → K ν) : f_M_copies a n b n μ K := by
  unfold f_M_copies
  refine lp2 (fun m (i : Int) (ν : Mem) => l_M_copies_2 a n b n _ m i ν) (fun i ν => 0 ≤ i ∧ i ≤ n ∧ Fr [b] μ ν ∧ MS ν = cpS (MS μ) a b i) (fun i _ => ((n : Int) - i).toNat) (fun m i ν hJ ih => ?_) 0 μ ⟨by omega, by omega, FrP.refl _ _, (cpS_0 _ _ _).symm⟩
  obtain ⟨i0, i1, hf, hz⟩ := hJ
  unfold l_M_copies_2
  (try simp (disch := omega) only [w_id])
  refine ite_i (fun q => ?_) (fun q => h ν hf (by rw [hz, show i = (n : Int) by omega]))
  refine ⟨by omega, by omega, by omega, by omega, fun μ2 e2 => ?_⟩
  rw [hf.rdI (lel1 hab)] at e2
  refine ih _ _ ⟨by omega, by omega, by rw [e2]; exact hf.wI (by simp [lel, List.elem]), ?_⟩ (by omega)
  rw [e2, MS_in hb, hz, w_rI, mr ha]
  exact cpS_s _ _ _ i0
/-- the same of truths: what isn't 0 becomes 1 -/
def cbS (σ : Sg) (a b : Nat) (n : Int) : Sg := fun q j => if q = b ∧ 0 ≤ j ∧ j < n then b2i (decide (¬ σ a j = 0)) else σ q j
theorem cbS_0 (σ : Sg) (a b : Nat) : cbS σ a b 0 = σ := by
  funext q j
  exact if_neg (fun z => by omega)
theorem cbS_s (σ : Sg) (a b : Nat) {i : Int} (hi : 0 ≤ i) : up (cbS σ a b i) b i (b2i (decide (¬ σ a i = 0))) = cbS σ a b (i + 1) := by
  funext q j
  unfold up cbS
  by_cases c : q = b ∧ j = i
  · rw [if_pos c, if_pos ⟨c.1, by omega, by omega⟩, c.2]
  · rw [if_neg c]
    by_cases c2 : q = b ∧ 0 ≤ j ∧ j < i
    · rw [if_pos c2, if_pos ⟨c2.1, c2.2.1, by omega⟩]
    · rw [if_neg c2, if_neg (fun z => c2 ⟨z.1, z.2.1, by have : ¬ j = i := fun e => c ⟨z.1, e⟩; omega⟩)]
theorem Lo.cb {g : Nat → Bool} {f f' : Sg} (h : Lo g f f') {a b : Nat} {n : Int} (hb : g b = false) : Lo g f (cbS f' a b n) := fun q hq => by
  rw [← h q hq]
  funext j
  exact if_neg (fun z => by rw [z.1, hb] at hq; cases hq)
theorem MS_inB {μ : Mem} {c : Nat} {j : Int} {b : Bool} (h : inM c = true) : MS (sB μ c j b) = up (MS μ) c j (b2i b) := by
  unfold sB
  rw [MS_in h, w_b2i]
def keS (σ : Sg) : Sg := cbS (cpS (cpS (cpS (cpS (cpS (cpS (cpS (up σ 15489 0 (σ 15480 0)) 122 130 (24 : Nat)) 123 131 (40 : Nat)) 124 132 (10 : Nat)) 125 133 (24 : Nat)) 126 134 (288 : Nat)) 128 136 (288 : Nat)) 129 137 (61 : Nat)) 127 135 (288 : Nat)
def keL : List Nat := [15489, 130, 131, 132, 133, 134, 136, 137, 135]
theorem m_keeps {μ : Mem} {K : Mem → Prop} (h : ∀ ν : Mem, Fr keL μ ν → MS ν = keS (MS μ) → K ν) : f_M_keeps μ K := by
  unfold f_M_keeps
  intro μ1 e1
  have f1 : Fr keL μ μ1 := by rw [e1]; exact (FrP.refl _ _).wI rfl
  have s1 : MS μ1 = up (MS μ) 15489 0 (MS μ 15480 0) := by
    rw [e1, MS_in rfl, w_rI]
    rfl
  refine m_copies (by decide) rfl rfl (by decide) (fun μ2 f2 s2 => m_copies (by decide) rfl rfl (by decide) (fun μ3 f3 s3 => m_copies (by decide) rfl rfl (by decide) (fun μ4 f4 s4 => m_copies (by decide) rfl rfl (by decide) (fun μ5 f5 s5 => m_copies (by decide) rfl rfl (by decide) (fun μ6 f6 s6 => m_copies (by decide) rfl rfl (by decide) (fun μ7 f7 s7 => m_copies (by decide) rfl rfl (by decide) (fun μ8 f8 s8 => ?_)))))))
  rw [s7, s6, s5, s4, s3, s2, s1] at s8
  have f18 : Fr keL μ μ8 := ((((((f1.trans (Fr.mono f2 rfl)).trans (Fr.mono f3 rfl)).trans (Fr.mono f4 rfl)).trans (Fr.mono f5 rfl)).trans (Fr.mono f6 rfl)).trans (Fr.mono f7 rfl)).trans (Fr.mono f8 rfl)
  refine lp2 (fun m (i : Int) (ν : Mem) => l_M_keeps_94 _ m i ν) (fun i ν => 0 ≤ i ∧ i ≤ 288 ∧ Fr [135] μ8 ν ∧ MS ν = cbS (MS μ8) 127 135 i) (fun i _ => (288 - i).toNat) (fun m i ν hJ ih => ?_) 0 μ8 ⟨by omega, by omega, FrP.refl _ _, (cbS_0 _ _ _).symm⟩
  obtain ⟨i0, i1, hf, hz⟩ := hJ
  unfold l_M_keeps_94
  (try simp (disch := omega) only [w_id])
  refine ite_i (fun q => ⟨by omega, by omega, by omega, by omega, fun μ10 e10 => ?_⟩) (fun q => ?_)
  · rw [rB_rI, hf.rdI rfl] at e10
    refine ih _ _ ⟨by omega, by omega, by rw [e10]; exact hf.wB rfl, ?_⟩ (by omega)
    rw [e10, MS_inB rfl, hz]
    exact cbS_s _ _ _ i0
  · refine h ν (f18.trans (Fr.mono hf rfl)) ?_
    rw [hz, show i = ((288 : Nat) : Int) by omega, s8]
    rfl
def gbS (σ : Sg) : Sg := cbS (cpS (cpS (cpS (cpS (cpS (cpS (cpS (up σ 15480 0 (σ 15489 0)) 130 122 (24 : Nat)) 131 123 (40 : Nat)) 132 124 (10 : Nat)) 133 125 (24 : Nat)) 134 126 (288 : Nat)) 136 128 (288 : Nat)) 137 129 (61 : Nat)) 135 127 (288 : Nat)
def gbL : List Nat := [15480, 122, 123, 124, 125, 126, 128, 129, 127]
theorem m_goesBack {μ : Mem} {K : Mem → Prop} (h : ∀ ν : Mem, Fr gbL μ ν → MS ν = gbS (MS μ) → K ν) : f_M_goesBack μ K := by
  unfold f_M_goesBack
  intro μ1 e1
  have f1 : Fr gbL μ μ1 := by rw [e1]; exact (FrP.refl _ _).wI rfl
  have s1 : MS μ1 = up (MS μ) 15480 0 (MS μ 15489 0) := by
    rw [e1, MS_in rfl, w_rI]
    rfl
  refine m_copies (by decide) rfl rfl (by decide) (fun μ2 f2 s2 => m_copies (by decide) rfl rfl (by decide) (fun μ3 f3 s3 => m_copies (by decide) rfl rfl (by decide) (fun μ4 f4 s4 => m_copies (by decide) rfl rfl (by decide) (fun μ5 f5 s5 => m_copies (by decide) rfl rfl (by decide) (fun μ6 f6 s6 => m_copies (by decide) rfl rfl (by decide) (fun μ7 f7 s7 => m_copies (by decide) rfl rfl (by decide) (fun μ8 f8 s8 => ?_)))))))
  rw [s7, s6, s5, s4, s3, s2, s1] at s8
  have f18 : Fr gbL μ μ8 := ((((((f1.trans (Fr.mono f2 rfl)).trans (Fr.mono f3 rfl)).trans (Fr.mono f4 rfl)).trans (Fr.mono f5 rfl)).trans (Fr.mono f6 rfl)).trans (Fr.mono f7 rfl)).trans (Fr.mono f8 rfl)
  refine lp2 (fun m (i : Int) (ν : Mem) => l_M_goesBack_94 _ m i ν) (fun i ν => 0 ≤ i ∧ i ≤ 288 ∧ Fr [127] μ8 ν ∧ MS ν = cbS (MS μ8) 135 127 i) (fun i _ => (288 - i).toNat) (fun m i ν hJ ih => ?_) 0 μ8 ⟨by omega, by omega, FrP.refl _ _, (cbS_0 _ _ _).symm⟩
  obtain ⟨i0, i1, hf, hz⟩ := hJ
  unfold l_M_goesBack_94
  (try simp (disch := omega) only [w_id])
  refine ite_i (fun q => ⟨by omega, by omega, by omega, by omega, fun μ10 e10 => ?_⟩) (fun q => ?_)
  · rw [rB_rI, hf.rdI rfl] at e10
    refine ih _ _ ⟨by omega, by omega, by rw [e10]; exact hf.wB rfl, ?_⟩ (by omega)
    rw [e10, MS_inB rfl, hz]
    exact cbS_s _ _ _ i0
  · refine h ν (f18.trans (Fr.mono hf rfl)) ?_
    rw [hz, show i = ((288 : Nat) : Int) by omega, s8]
    rfl
-- the class
def bfL : List Nat := [86, 87, 88, 89, 90, 11886, 11887, 11888]
/-- the cells of before (c0 = 86) or of the floor (68) hold what the other's held -/
def CpA (μ ν : Mem) (c0 d0 : Nat) : Prop := (∀ j : Int, 0 ≤ j → j < 210 → rI ν d0 j = rI μ c0 j) ∧ (∀ j : Int, 0 ≤ j → j < 25 → rI ν (d0 + 1) j = rI μ (c0 + 1) j) ∧ (∀ j : Int, 0 ≤ j → j < 300 → rI ν (d0 + 2) j = rI μ (c0 + 2) j ∧ rI ν (d0 + 3) j = rI μ (c0 + 3) j ∧ rI ν (d0 + 4) j = rI μ (c0 + 4) j)
theorem c_copyFrom_b {μ : Mem} {K : Mem → Prop} (h : ∀ ν : Mem, Fr bfL μ ν → CpA μ ν 68 86 → rL ν 11886 0 = rL μ 9582 0 → rL ν 11887 0 = rL μ 9583 0 → rI ν 11888 0 = rI μ 9584 0 → K ν) : f_Floor_copyFrom_b μ K := by
  unfold f_Floor_copyFrom_b
  refine c_copy (by decide) (by decide) (fun μ1 f1 c1 => c_copy (by decide) (by decide) (fun μ2 f2 c2 => c_copy (by decide) (by decide) (fun μ3 f3 c3 => c_copy (by decide) (by decide) (fun μ4 f4 c4 => c_copy (by decide) (by decide) (fun μ5 f5 c5 μ6 e6 μ7 e7 μ8 e8 => ?_)))))
  have f6 : Fr [11886, 11887, 11888] μ5 μ8 := by rw [e8, e7, e6]; exact (((FrP.refl _ _).wL rfl).wL rfl).wI rfl
  have g12 : Fr bfL μ μ2 := (Fr.mono f1 rfl : Fr bfL μ μ1).trans (Fr.mono f2 rfl)
  have g3 : Fr bfL μ μ3 := g12.trans (Fr.mono f3 rfl)
  have g4 : Fr bfL μ μ4 := g3.trans (Fr.mono f4 rfl)
  have g5 : Fr bfL μ μ5 := g4.trans (Fr.mono f5 rfl)
  refine h μ8 (g5.trans (Fr.mono f6 rfl)) ⟨fun j j0 j1 => ?_, fun j j0 j1 => ?_, fun j j0 j1 => ⟨?_, ?_, ?_⟩⟩ ?_ ?_ ?_
  · rw [f6.rdI rfl, f5.rdI rfl, f4.rdI rfl, f3.rdI rfl, f2.rdI rfl, c1 j j0 (by omega)]
  · show rI μ8 87 j = rI μ 69 j
    rw [f6.rdI rfl, f5.rdI rfl, f4.rdI rfl, f3.rdI rfl, c2 j j0 (by omega), f1.rdI rfl]
  · show rI μ8 88 j = rI μ 70 j
    rw [f6.rdI rfl, f5.rdI rfl, f4.rdI rfl, c3 j j0 (by omega), g12.rdI rfl]
  · show rI μ8 89 j = rI μ 71 j
    rw [f6.rdI rfl, f5.rdI rfl, c4 j j0 (by omega), g3.rdI rfl]
  · show rI μ8 90 j = rI μ 72 j
    rw [f6.rdI rfl, c5 j j0 (by omega), g4.rdI rfl]
  · rw [e8, e7, e6]
    simp only [rL_sI, rLs, Nat.reduceEqDiff, false_and, if_false, true_and, if_true]
    exact g5.rdL rfl
  · rw [e8, e7, e6]
    simp only [rL_sI, rLs, Nat.reduceEqDiff, false_and, if_false, true_and, if_true]
    exact g5.rdL rfl
  · rw [e8, rI_sI, if_pos ⟨rfl, rfl⟩, w_rI, e7, e6]
    simp only [rI_sL]
    exact g5.rdI rfl
theorem c_copyFrom_a {μ : Mem} {K : Mem → Prop} (h : ∀ ν : Mem, Fr cfL μ ν → CpA μ ν 86 68 → rL ν 9582 0 = rL μ 11886 0 → rL ν 9583 0 = rL μ 11887 0 → rI ν 9584 0 = rI μ 11888 0 → K ν) : f_Floor_copyFrom_a μ K := by
  unfold f_Floor_copyFrom_a
  refine c_copy (by decide) (by decide) (fun μ1 f1 c1 => c_copy (by decide) (by decide) (fun μ2 f2 c2 => c_copy (by decide) (by decide) (fun μ3 f3 c3 => c_copy (by decide) (by decide) (fun μ4 f4 c4 => c_copy (by decide) (by decide) (fun μ5 f5 c5 μ6 e6 μ7 e7 μ8 e8 => ?_)))))
  have f6 : Fr [9582, 9583, 9584] μ5 μ8 := by rw [e8, e7, e6]; exact (((FrP.refl _ _).wL rfl).wL rfl).wI rfl
  have g12 : Fr cfL μ μ2 := (Fr.mono f1 rfl : Fr cfL μ μ1).trans (Fr.mono f2 rfl)
  have g3 : Fr cfL μ μ3 := g12.trans (Fr.mono f3 rfl)
  have g4 : Fr cfL μ μ4 := g3.trans (Fr.mono f4 rfl)
  have g5 : Fr cfL μ μ5 := g4.trans (Fr.mono f5 rfl)
  refine h μ8 (g5.trans (Fr.mono f6 rfl)) ⟨fun j j0 j1 => ?_, fun j j0 j1 => ?_, fun j j0 j1 => ⟨?_, ?_, ?_⟩⟩ ?_ ?_ ?_
  · rw [f6.rdI rfl, f5.rdI rfl, f4.rdI rfl, f3.rdI rfl, f2.rdI rfl, c1 j j0 (by omega)]
  · show rI μ8 69 j = rI μ 87 j
    rw [f6.rdI rfl, f5.rdI rfl, f4.rdI rfl, f3.rdI rfl, c2 j j0 (by omega), f1.rdI rfl]
  · show rI μ8 70 j = rI μ 88 j
    rw [f6.rdI rfl, f5.rdI rfl, f4.rdI rfl, c3 j j0 (by omega), g12.rdI rfl]
  · show rI μ8 71 j = rI μ 89 j
    rw [f6.rdI rfl, f5.rdI rfl, c4 j j0 (by omega), g3.rdI rfl]
  · show rI μ8 72 j = rI μ 90 j
    rw [f6.rdI rfl, c5 j j0 (by omega), g4.rdI rfl]
  · rw [e8, e7, e6]
    simp only [rL_sI, rLs, Nat.reduceEqDiff, false_and, if_false, true_and, if_true]
    exact g5.rdL rfl
  · rw [e8, e7, e6]
    simp only [rL_sI, rLs, Nat.reduceEqDiff, false_and, if_false, true_and, if_true]
    exact g5.rdL rfl
  · rw [e8, rI_sI, if_pos ⟨rfl, rfl⟩, w_rI, e7, e6]
    simp only [rI_sL]
    exact g5.rdI rfl
