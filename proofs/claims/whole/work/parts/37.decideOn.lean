/-! THE CLASS DECIDES: a row of what was counted, and the floor behind it -/
theorem RowAt.fr {L : List Nat} {ν ξ : Mem} {cs cn cm cb : Nat} {m b : Int} {l : List Ln} (h : RowAt ν cs cn cm cb m b l) (f : Fr L ν ξ) (hL : (lel L cs || lel L cn || lel L cm || lel L cb) = false) : RowAt ξ cs cn cm cb m b l := by
  simp only [Bool.or_eq_false_iff] at hL
  obtain ⟨⟨⟨l1, l2⟩, l3⟩, l4⟩ := hL
  exact ⟨(f.rdI l1).trans h.1, fun i hi => by rw [f.rdI l2, f.rdI l3, f.rdI l4]; exact h.2 i hi⟩
theorem FlA.fr {L : List Nat} {ν ξ : Mem} {F : Fl} (h : FlA ν F) (f : Fr L ν ξ) (hL : (lel L 68 || lel L 9582 || lel L 9583 || lel L 9584) = false) (hR : (lel L 69 || lel L 70 || lel L 71 || lel L 72) = false) : FlA ξ F := by
  simp only [Bool.or_eq_false_iff] at hL
  obtain ⟨⟨⟨l1, l2⟩, l3⟩, l4⟩ := hL
  obtain ⟨a1, a2, a3, a4, a5⟩ := h
  refine ⟨fun x x0 x1 => (f.rdI l1).trans (a1 x x0 x1), fun m m0 m1 => (a2 m m0 m1).fr f hR, fun n n1 n2 => ?_, fun n hn => ?_, (f.rdI l4).trans a5⟩
  · rw [f.rdL l2, f.rdL l3]; exact a3 n n1 n2
  · rw [f.rdL l2, f.rdL l3]; exact a4 n hn
theorem ChE.fr {L : List Nat} {σ : Sg} {ν ξ : Mem} (h : ChE σ ν) (f : Fr L ν ξ) (hL : (lel L 15 || lel L 16 || lel L 17) = false) : ChE σ ξ := fun a a0 a1 => ⟨(h a a0 a1).1, (h a a0 a1).2.fr f hL⟩
/-- the seven fields of a row -/
def RowV (f : Int → Int) (r a d Y N A : Int) (ps : Bool) (v : Int) : Prop := f (7 * r) = a ∧ f (7 * r + 1) = d ∧ f (7 * r + 2) = Y ∧ f (7 * r + 3) = N ∧ f (7 * r + 4) = A ∧ f (7 * r + 5) = boI ps ∧ f (7 * r + 6) = v
theorem c_writeRow {μ : Mem} {r a d Y N A S v : Int} {ps : Bool} (hr : rI μ 11632 0 = r + 1) (r0 : 0 ≤ r ∧ r < 100) (hcn : CN μ Y N A S) (hv : v_popI (rI μ 11631 0) = v) (ra : Rg a) (rd : Rg d) (rY : Bd Y) (rN : Bd N) (rA : Bd A) (rv : 0 ≤ v ∧ v ≤ 12) {K : Mem → Prop}
    (h : ∀ ν : Mem, Fr [84] μ ν → (∀ j : Int, ¬ (7 * r ≤ j ∧ j < 7 * r + 7) → rI ν 84 j = rI μ 84 j) → RowV (fun j => rI ν 84 j) r a d Y N A ps v → K ν) : f_Chair_writeRow a d ps μ K := by
  obtain ⟨ra0, ra1⟩ := ra
  obtain ⟨rd0, rd1⟩ := rd
  unfold Bd at rY rN rA
  unfold f_Chair_writeRow
  intro v4 e0
  have e00 : v4 = 7 * r := by rw [e0, hr]; omega
  rw [e00]
  intro μ1 e1 μ2 e2 μ3 e3 μ4 e4 μ5 e5 x ex μ6 e6 μ7 e7
  rw [set_in (by omega) (by omega) (by decide)] at e1 e2 e3 e4 e5 e6 e7
  have f2 : Fr [84] μ μ2 := by rw [e2, e1]; exact ((FrP.refl _ _).wI rfl).wI rfl
  have f3 : Fr [84] μ μ3 := by rw [e3]; exact f2.wI rfl
  have f4 : Fr [84] μ μ4 := by rw [e4]; exact f3.wI rfl
  have f6 : Fr [84] μ μ6 := by rw [e6, e5]; exact (f4.wI rfl).wI rfl
  have f7 : Fr [84] μ μ7 := by rw [e7]; exact f6.wI rfl
  rw [(f2.rdI rfl).trans hcn.1] at e3
  rw [(f3.rdI rfl).trans hcn.2.1] at e4
  rw [(f4.rdI rfl).trans hcn.2.2.1] at e5
  rw [f6.rdI rfl, hv] at e7
  have hx : x = boI ps := ex
  have hb : boI ps = 0 ∨ boI ps = 1 := by unfold boI; cases ps <;> simp
  rw [hx] at e6
  have W : ∀ z : Int, -2147483648 ≤ z → z < 2147483648 → w z = z := fun z z0 z1 => w_id z0 z1
  refine h μ7 f7 (fun j hj => ?_) ⟨?_, ?_, ?_, ?_, ?_, ?_, ?_⟩
  · rw [e7, rI_sI, if_neg (by omega), e6, rI_sI, if_neg (by omega), e5, rI_sI, if_neg (by omega), e4, rI_sI, if_neg (by omega), e3, rI_sI, if_neg (by omega), e2, rI_sI, if_neg (by omega), e1, rI_sI, if_neg (by omega)]
  · show rI μ7 84 (7 * r) = a
    rw [e7, rI_sI, if_neg (by omega), e6, rI_sI, if_neg (by omega), e5, rI_sI, if_neg (by omega), e4, rI_sI, if_neg (by omega), e3, rI_sI, if_neg (by omega), e2, rI_sI, if_neg (by omega), e1, rI_sI, if_pos ⟨rfl, rfl⟩, W a ra0 ra1]
  · show rI μ7 84 (7 * r + 1) = d
    rw [e7, rI_sI, if_neg (by omega), e6, rI_sI, if_neg (by omega), e5, rI_sI, if_neg (by omega), e4, rI_sI, if_neg (by omega), e3, rI_sI, if_neg (by omega), e2, rI_sI, if_pos ⟨rfl, rfl⟩, W d rd0 rd1]
  · show rI μ7 84 (7 * r + 2) = Y
    rw [e7, rI_sI, if_neg (by omega), e6, rI_sI, if_neg (by omega), e5, rI_sI, if_neg (by omega), e4, rI_sI, if_neg (by omega), e3, rI_sI, if_pos ⟨rfl, rfl⟩, W Y (by omega) (by omega)]
  · show rI μ7 84 (7 * r + 3) = N
    rw [e7, rI_sI, if_neg (by omega), e6, rI_sI, if_neg (by omega), e5, rI_sI, if_neg (by omega), e4, rI_sI, if_pos ⟨rfl, rfl⟩, W N (by omega) (by omega)]
  · show rI μ7 84 (7 * r + 4) = A
    rw [e7, rI_sI, if_neg (by omega), e6, rI_sI, if_neg (by omega), e5, rI_sI, if_pos ⟨rfl, rfl⟩, W A (by omega) (by omega)]
  · show rI μ7 84 (7 * r + 5) = boI ps
    rw [e7, rI_sI, if_neg (by omega), e6, rI_sI, if_pos ⟨rfl, rfl⟩, W _ (by omega) (by omega)]
  · show rI μ7 84 (7 * r + 6) = v
    rw [e7, rI_sI, if_pos ⟨rfl, rfl⟩, W v (by omega) (by omega)]
theorem popc_rng (v : Nat) : ∀ n : Nat, 0 ≤ popc v n ∧ popc v n ≤ (n : Int)
  | 0 => by unfold popc; omega
  | n + 1 => by
    have ih := popc_rng v n
    unfold popc
    split <;> omega
theorem popI_b {b : Int} (h : 0 ≤ b ∧ b < 4096) : v_popI b = popc b.toNat 12 := by
  have := popI_f (v := b.toNat) (by omega)
  rw [Int.toNat_of_nonneg h.1] at this
  exact this
def dcL : List Nat := tkL ++ wgL ++ suL ++ flL ++ [84] ++ cfL
/-- ps of a decision: by CARDS, with the voids left out -/
abbrev dps (σ : Sg) (mt kn : Int) : Bool := pcO σ (stO σ) mt kn 0 (-1) true
theorem c_decideOn {σ : Sg} {μ : Mem} (hI : Ic σ μ) {mt kn r : Int} (hm : isMt σ mt) (hk : 0 ≤ kn ∧ kn ≤ 100000) (hr : rI μ 11632 0 = r + 1) (r0 : 0 ≤ r ∧ r < 100) (hb : 0 ≤ rI μ 11631 0 ∧ rI μ 11631 0 < 4096) (hv : ∀ a : Nat, (a : Int) < σ 15466 0 → ((rI μ 11631 0).toNat.testBit a = true ↔ ¬ σ 153 (a : Int) = 0)) {K : Int → Mem → Prop}
    (h : ∀ ξ : Mem, Fr dcL μ ξ → FlA ξ (coF σ (flC σ) mt (dps σ mt kn)) → (∀ j : Int, ¬ (7 * r ≤ j ∧ j < 7 * r + 7) → rI ξ 84 j = rI μ 84 j) → RowV (fun j => rI ξ 84 j) r mt kn (cYes σ mt kn 0 (-1) true) (cNo σ mt kn 0 (-1) true) (cAll σ kn 0 true) (dps σ mt kn) (popc (rI μ 11631 0).toNat 12) → K (boI (dps σ mt kn)) ξ) : f_Chair_decideOn mt kn μ K := by
  have hA := hI.wfR.1
  have hlt := isMt_lt hI hm
  unfold f_Chair_decideOn
  refine c_inForce hI ⟨hI.isRu, ?_⟩
  refine c_take hI ⟨by omega, by omega⟩ ⟨by omega, by omega⟩ (fun ν1 f1 hk1 => ?_)
  have q1 : Qt μ ν1 := f1.qt rfl
  refine c_weigh (q1.ic hI) (how := 0) (mt := mt) (kn := kn) (by omega) hk1 (fun ν2 f2 hw2 => ?_)
  have f02 : Fr (tkL ++ wgL) μ ν2 := (Fr.mono f1 rfl : Fr (tkL ++ wgL) μ ν1).trans (Fr.mono f2 rfl)
  have q2 : Qt μ ν2 := f02.qt rfl
  have k2 := hk1.fr f2 rfl
  rw [f02.rdI (q := 11631) rfl]
  refine c_leaveOut hA ((f02.rdI rfl).trans hI.relR.1) hb hw2 (fun ν3 f3 hw3 => ?_)
  have f03 : Fr (tkL ++ wgL) μ ν3 := f02.trans (Fr.mono f3 rfl)
  have q3 : Qt μ ν3 := f03.qt rfl
  have k3 := k2.fr f3 rfl
  have hw3' : ∀ a : Nat, (a : Int) < σ 15466 0 → rI ν3 78 (a : Int) = wtT σ 0 kn true a := fun a ha => by
    rw [hw3 a ha]
    have := hv a ha
    unfold wtT
    by_cases c : (rI μ 11631 0).toNat.testBit a = true
    · rw [if_pos c, if_pos ⟨rfl, this.mp c⟩]
    · rw [if_neg c, if_neg (show ¬ (false = true ∧ ¬ σ 153 (a : Int) = 0) from fun z => by simp at z), if_neg (show ¬ (true = true ∧ ¬ σ 153 (a : Int) = 0) from fun z => c (this.mpr z.2))]
  refine c_sumUp2 (q3.ic hI) (mt := mt) (kn := kn) (how := 0) (an := true) (by decide) ⟨by omega, by omega⟩ k3.2.2 hw3' (fun ν4 f4 hc4 => ?_)
  have f04 : Fr (tkL ++ wgL ++ suL) μ ν4 := (Fr.mono f03 rfl : Fr (tkL ++ wgL ++ suL) μ ν3).trans (Fr.mono f4 rfl)
  have q4 : Qt μ ν4 := f04.qt rfl
  refine c_against (q4.ic hI) hm (fun ν5 f5 => ?_)
  have q5 : Qt μ ν5 := q4.trans f5.qt24
  have f05 : Fr (tkL ++ wgL ++ suL ++ flL) μ ν5 := (Fr.mono f04 rfl : Fr (tkL ++ wgL ++ suL ++ flL) μ ν4).trans (Fr.mono f5.1 rfl)
  rw [kindOf_k ⟨by omega, by omega⟩]
  have hg := agO_01 σ (stO σ) mt
  refine c_passes (q5.ic hI) (mt := mt) (D := kn) (G := agO σ (stO σ) mt) (hc4.fr f5.1 rfl) (cYes_Bd _ _ _ _ _ _) (cNo_Bd _ _ _ _ _ _) (cAll_Bd _ _ _ _) (cSec_Bd _ _ _ _ _ _) (bd_small hg.1 (by omega)) (bd_small hk.1 (by omega)) (fun ν6 f6 => ?_)
  have q6 : Qt μ ν6 := q5.trans (f6.qt rfl)
  have f06 : Fr (tkL ++ wgL ++ suL ++ flL) μ ν6 := f05.trans (Fr.mono f6 rfl)
  have h6 := q6.ic hI
  have c6 := (hc4.fr f5.1 rfl).fr f6 rfl
  have hp := popc_rng (rI μ 11631 0).toNat 12
  show f_Chair_writeRow mt kn (dps σ mt kn) ν6 _
  refine c_writeRow (r := r) ((f06.rdI rfl).trans hr) r0 c6 (v := popc (rI μ 11631 0).toNat 12) (by rw [f06.rdI rfl]; exact popI_b hb) ⟨by omega, by omega⟩ ⟨by omega, by omega⟩ (cYes_Bd _ _ _ _ _ _) (cNo_Bd _ _ _ _ _ _) (cAll_Bd _ _ _ _) (by omega) (fun ν7 f7 o7 w7 => ?_)
  refine c_carryOut (h6.flA.fr f7 rfl rfl) (h6.flE.fr f7 rfl) (h6.chE.fr f7 rfl) h6.flW hm (fun ν8 f8 A8 x ex => ?_)
  have hx : x = boI (dps σ mt kn) := ex
  rw [hx]
  have f08 : Fr dcL μ ν8 := ((Fr.mono f06 rfl : Fr dcL μ ν6).trans (Fr.mono f7 rfl)).trans (Fr.mono f8 rfl)
  refine h ν8 f08 A8 (fun j hj => ?_) ?_
  · rw [f8.rdI rfl, o7 j hj, f06.rdI rfl]
  · have e : (fun j => rI ν8 84 j) = fun j => rI ν7 84 j := funext fun j => f8.rdI rfl
    rw [e]
    exact w7
