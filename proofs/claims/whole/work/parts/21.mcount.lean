/-! COUNTED, the model's side -/
theorem rLs (μ : Mem) (c : Nat) (j : Int) (v : Int64) (q : Nat) (i : Int) : rL (sL μ c j v) q i = if q = c ∧ i = j then v else rL μ q i := by
  by_cases h : q = c ∧ i = j
  · rw [if_pos h]; exact if_pos h
  · rw [if_neg h]; exact if_neg h
def fcL : List Nat := [15525, 15526, 15527, 154, 15529, 151, 152]
def MN (ν : Mem) (Y N A S : Int) : Prop := (rL ν 15525 0).toInt = Y ∧ (rL ν 15526 0).toInt = N ∧ (rL ν 15527 0).toInt = A ∧ rI ν 15529 0 = S
theorem wtT_rng {σ : Sg} (q : QS σ) (how kn : Int) (an : Bool) (a : Nat) : 0 ≤ wtT σ how kn an a ∧ wtT σ how kn an a ≤ 1000000000 := by
  have h1 := cd_rng q (a : Int) kn
  have h2 := pd_rng q.1 q.2.1 q.rate.1 (a : Int) kn
  unfold wtT
  exact ite_p (P := fun z : Int => 0 ≤ z ∧ z ≤ 1000000000) (fun _ => by omega) (fun _ => ite_p (P := fun z : Int => 0 ≤ z ∧ z ≤ 1000000000) (fun _ => h1) (fun _ => ite_p (P := fun z : Int => 0 ≤ z ∧ z ≤ 1000000000) (fun _ => by omega) (fun _ => by omega)))
theorem cwg_Wg {σ : Sg} (q : QS σ) (how kn : Int) (an : Bool) (n : Nat) : Wg (cwg σ how kn an) n := fun i _ => by
  unfold cwg
  by_cases c : how = 3
  · rw [if_pos c]; exact Wg_1 (i + 1) i (by omega)
  · rw [if_neg c]; exact wtT_rng q how kn an i
theorem SM_0 {ξ : Mem} {sc vc wg sc' vc' wg' : Nat → Int} (h : SM ξ sc vc wg 0) : SM ξ sc' vc' wg' 0 := h
theorem m_findCount {μ : Mem} (q : QM μ) {mt kn how tn : Int} {an : Bool} (hh : 0 ≤ how ∧ how ≤ 3) (hm : Rg mt) (hn : Rg kn) (ht : Rg tn) {K : Mem → Prop}
    (h : ∀ ν : Mem, Fr fcL μ ν → MN ν (cYes (MS μ) mt kn how tn an) (cNo (MS μ) mt kn how tn an) (cAll (MS μ) kn how an) (cSec (MS μ) mt kn how tn an) → K ν) : f_M_findCount mt kn how tn an μ K := by
  have hA := q.1.1
  have hB := q.1.2.1
  obtain ⟨ht0, ht1⟩ := ht
  have hWg := fun n => cwg_Wg q how kn an n
  unfold f_M_findCount
  intro μ1 e1 μ2 e2 μ3 e3 μ4 e4
  have f4 : Fr fcL μ μ4 := by rw [e4, e3, e2, e1]; exact ((((FrP.refl _ _).wL rfl).wL rfl).wL rfl).wI rfl
  have y4 : (rL μ4 15525 0).toInt = 0 := by rw [e4, e3, e2, e1]; simp only [rL_sI, rL_sL, Nat.reduceEqDiff, false_and, if_false, true_and, if_true]; exact z64
  have n4 : (rL μ4 15526 0).toInt = 0 := by rw [e4, e3, e2, e1]; simp only [rL_sI, rL_sL, Nat.reduceEqDiff, false_and, if_false, true_and, if_true]; exact z64
  have a4 : (rL μ4 15527 0).toInt = 0 := by rw [e4, e3, e2, e1]; simp only [rL_sI, rL_sL, Nat.reduceEqDiff, false_and, if_false, true_and, if_true]; exact z64
  have s4 : rI μ4 15529 0 = 0 := by rw [e4]; simp only [rI_sI, true_and, if_true]; rfl
  clear e1 e2 e3 e4
  -- the sections' sums are cleared
  refine lp2 (fun n (i : Int) (ξ : Mem) => l_M_findCount_23 mt kn how tn an _ n i ξ) (fun i ξ => ∃ j : Nat, i = (j : Int) ∧ j ≤ 6 ∧ Fr [154] μ4 ξ ∧ ∀ s : Int, 0 ≤ s → s < (j : Int) → rL ξ 154 s = 0) (fun i _ => (6 - i).toNat) (fun n i ξ hJ ih => ?_) 0 μ4 ⟨0, rfl, by omega, FrP.refl _ _, fun s s0 s1 => by omega⟩
  obtain ⟨j, rfl, hj, hf, hz⟩ := hJ
  unfold l_M_findCount_23
  try simp (disch := omega) only [w_id]
  refine ite_i (fun c => ⟨by omega, by omega, fun μ6 e6 => ?_⟩) (fun c => ?_)
  · refine ih _ _ ⟨j + 1, by omega, by omega, by rw [e6]; exact hf.wL rfl, fun s s0 s1 => ?_⟩ (by omega)
    rw [e6, rL_sL]
    by_cases e : s = (j : Int)
    · rw [if_pos ⟨rfl, e⟩]
    · rw [if_neg (fun z => e z.2)]
      exact hz s s0 (by omega)
  clear ih
  have fξ : Fr fcL μ ξ := f4.trans (Fr.mono hf rfl)
  have sξ : rI ξ 15529 0 = 0 := (hf.rdI rfl).trans s4
  have S0 : SM ξ (csc (MS μ) how) (cvc (MS μ) mt kn how tn) (cwg (MS μ) how kn an) 0 := ⟨by rw [hf.rdL rfl]; exact a4, by rw [hf.rdL rfl]; exact y4, by rw [hf.rdL rfl]; exact n4, fun s s0 s1 => by rw [hz s s0 (by omega)]; exact z64⟩
  clear hf hz hj
  -- over the affiliates
  refine lp2 (fun n (i : Int) (π : Mem) => l_M_findCount_47 mt kn how tn an _ n i π) (fun i π => ∃ k : Nat, i = (k : Int) ∧ (k : Int) ≤ MS μ 15466 0 ∧ Fr fcL μ π ∧ rI π 15529 0 = 0 ∧ SM π (csc (MS μ) how) (cvc (MS μ) mt kn how tn) (cwg (MS μ) how kn an) k ∧ (how = 3 → k = 0)) (fun i _ => (MS μ 15466 0 - i).toNat) (fun n2 i π hJ ih => ?_) 0 ξ ⟨0, rfl, by omega, fξ, sξ, S0, fun _ => rfl⟩
  obtain ⟨k, rfl, hk, hf, hs0, hs, h3⟩ := hJ
  have eM : MS π = MS μ := (hf.qt rfl).2.2.1
  have qπ : QM π := q.ms eM
  have eA : rI π 15466 0 = MS μ 15466 0 := (hf.rdI rfl).trans rfl
  -- what comes behind, from a memory that has all affiliates
  have rest : ∀ (ρ : Mem) (k0 : Nat), Fr fcL μ ρ → rI ρ 15529 0 = 0 → SM ρ (csc (MS μ) how) (cvc (MS μ) mt kn how tn) (cwg (MS μ) how kn an) k0 → (how = 3 → k0 = 0) → (¬ how = 3 → k0 = (MS μ 15466 0).toNat) → ∃ m159 : Nat, l_M_findCount_159 mt kn how (fun (μ_22 : Mem) => ∃ m209 : Nat, l_M_findCount_209 (fun (μ_25 : Mem) => ∀ μ_26 : Mem, μ_26 = sL μ_25 15525 0 (w_i2l (v_M_whole (rL μ_25 15525 0))) → ∀ μ_27 : Mem, μ_27 = sL μ_26 15526 0 (w_i2l (v_M_whole (rL μ_26 15526 0))) → ∀ μ_28 : Mem, μ_28 = sL μ_27 15527 0 (w_i2l (v_M_whole (rL μ_27 15527 0))) → K μ_28) m209 (w 0) μ_22) m159 (w 0) ρ := by
    intro ρ k0 fρ zρ sρ hk3 hkn
    refine lp2 (fun n (i : Int) (τ : Mem) => l_M_findCount_159 mt kn how _ n i τ) (fun i τ => ∃ b : Nat, i = (b : Int) ∧ (b : Int) ≤ MS μ 15468 0 ∧ Fr fcL μ τ ∧ rI τ 15529 0 = 0 ∧ (how = 3 → SM τ (csc (MS μ) how) (cvc (MS μ) mt kn how tn) (cwg (MS μ) how kn an) b) ∧ (¬ how = 3 → b = 0 ∧ SM τ (csc (MS μ) how) (cvc (MS μ) mt kn how tn) (cwg (MS μ) how kn an) (MS μ 15466 0).toNat)) (fun i _ => (MS μ 15468 0 - i).toNat) (fun n3 i τ hJ ih => ?_) (w 0) ρ ⟨0, w_0, by omega, fρ, zρ, fun e => by rw [← hk3 e]; exact sρ, fun e => ⟨rfl, by rw [← hkn e]; exact sρ⟩⟩
    obtain ⟨b, rfl, hb, ft, zt, t3, tn3⟩ := hJ
    have eMτ : MS τ = MS μ := (ft.qt rfl).2.2.1
    have qτ : QM τ := q.ms eMτ
    have eB : rI τ 15468 0 = MS μ 15468 0 := (ft.rdI rfl).trans rfl
    have fin : SM τ (csc (MS μ) how) (cvc (MS μ) mt kn how tn) (cwg (MS μ) how kn an) (cn (MS μ) how) → ∃ m209 : Nat, l_M_findCount_209 (fun (μ_25 : Mem) => ∀ μ_26 : Mem, μ_26 = sL μ_25 15525 0 (w_i2l (v_M_whole (rL μ_25 15525 0))) → ∀ μ_27 : Mem, μ_27 = sL μ_26 15526 0 (w_i2l (v_M_whole (rL μ_26 15526 0))) → ∀ μ_28 : Mem, μ_28 = sL μ_27 15527 0 (w_i2l (v_M_whole (rL μ_27 15527 0))) → K μ_28) m209 (w 0) τ := by
      intro hS
      refine lp2 (fun n (i : Int) (ζ : Mem) => l_M_findCount_209 _ n i ζ) (fun i ζ => ∃ s : Nat, i = (s : Int) ∧ s ≤ 6 ∧ Fr [15529] τ ζ ∧ rI ζ 15529 0 = scN (fun s => sM (csc (MS μ) how) (cvc (MS μ) mt kn how tn) (cwg (MS μ) how kn an) s (cn (MS μ) how)) s) (fun i _ => (6 - i).toNat) (fun n4 i ζ hJ ih => ?_) (w 0) τ ⟨0, w_0, by omega, FrP.refl _ _, zt⟩
      obtain ⟨s, rfl, hs6, fz, zz⟩ := hJ
      have hr := scN_rng (fun s => sM (csc (MS μ) how) (cvc (MS μ) mt kn how tn) (cwg (MS μ) how kn an) s (cn (MS μ) how)) s
      unfold l_M_findCount_209
      try simp (disch := omega) only [w_id]
      refine ite_i (fun c => ⟨by omega, by omega, ?_⟩) (fun c => ?_)
      · have el : (rL ζ 154 (s : Int)).toInt = sM (csc (MS μ) how) (cvc (MS μ) mt kn how tn) (cwg (MS μ) how kn an) (s : Int) (cn (MS μ) how) := by
          rw [fz.rdL rfl]
          exact hS.2.2.2 _ (by omega) (by omega)
        have ec : (0 < rL ζ 154 (s : Int)) ↔ 0 < sM (csc (MS μ) how) (cvc (MS μ) mt kn how tn) (cwg (MS μ) how kn an) (s : Int) (cn (MS μ) how) := by
          rw [Int64.lt_iff_toInt_lt, z64, el]
        refine ite_i (fun c2 μ24 e24 => ?_) (fun c2 => ?_)
        · refine ih _ _ ⟨s + 1, by omega, by omega, by rw [e24]; exact fz.wI rfl, ?_⟩ (by omega)
          rw [e24, zz]
          simp (disch := omega) only [rI_sI, true_and, if_true, w_id]
          show _ = scN _ s + _
          rw [if_pos (ec.mp c2)]
        · refine ih _ _ ⟨s + 1, by omega, by omega, fz, ?_⟩ (by omega)
          rw [zz]
          show _ = scN _ s + _
          rw [if_neg (fun z => c2 (ec.mpr z))]
          omega
      · have es : s = 6 := by omega
        rw [es] at zz
        intro μ26 e26 μ27 e27 μ28 e28
        have hyy : (rL ζ 15525 0).toInt = sY (cvc (MS μ) mt kn how tn) (cwg (MS μ) how kn an) 1 (cn (MS μ) how) := by rw [fz.rdL rfl]; exact hS.2.1
        have hnn : (rL ζ 15526 0).toInt = sY (cvc (MS μ) mt kn how tn) (cwg (MS μ) how kn an) 0 (cn (MS μ) how) := by rw [fz.rdL rfl]; exact hS.2.2.1
        have haa : (rL ζ 15527 0).toInt = sA (cwg (MS μ) how kn an) (cn (MS μ) how) := by rw [fz.rdL rfl]; exact hS.1
        have wh : ∀ x : Int64, (w_i2l (v_M_whole x)).toInt = bnd x.toInt := fun x => by
          have hbd := bnd_Bd x.toInt
          unfold Bd at hbd
          unfold v_M_whole
          rw [bounded_e, i2l_e (by omega) (by omega)]
        refine h μ28 (by rw [e28, e27, e26]; exact (((ft.trans (Fr.mono fz rfl)).wL rfl).wL rfl).wL rfl) ⟨?_, ?_, ?_, ?_⟩
        · rw [e28, e27, e26]
          simp only [rLs, Nat.reduceEqDiff, false_and, if_false, true_and, if_true]
          unfold cYes
          rw [wh, hyy]
        · rw [e28, e27, e26]
          simp only [rLs, Nat.reduceEqDiff, false_and, if_false, true_and, if_true]
          unfold cNo
          rw [wh, hnn]
        · rw [e28, e27, e26]
          simp only [rLs, Nat.reduceEqDiff, false_and, if_false, true_and, if_true]
          unfold cAll
          rw [wh, haa]
        · rw [e28, e27, e26]
          simp only [rI_sL]
          unfold cSec
          exact zz
    unfold l_M_findCount_159
    rw [eB]
    try simp (disch := omega) only [w_id]
    refine ite_i (fun c => ite_i (fun c3 => ?_) (fun c3 => ?_)) (fun c => ?_)
    · have hbb := q.1.2.2.2.2.2.2 (b : Int) (by omega) c
      have ebo : rI τ 115 (b : Int) = MS μ 115 (b : Int) := (ft.rdI rfl).trans rfl
      have ese : rI τ 114 (MS μ 115 (b : Int)) = MS μ 114 (MS μ 115 (b : Int)) := (ft.rdI rfl).trans rfl
      have hsec := q.1.2.2.2.2.2.1 (MS μ 115 (b : Int)) hbb.1 hbb.2.1
      have t2 := tl_2 q.1 q.2.1 (b : Int) mt kn
      refine m_toldBy ⟨by omega, by omega⟩ ⟨by omega, by omega⟩ hm hn (by rw [eMτ]; exact q.1) ?_
      rw [ebo, eMτ]
      try simp (disch := omega) only [w_id]
      rw [ese]
      refine ⟨by omega, by omega, by omega, by omega, ?_⟩
      refine m_counts (by omega) ⟨by omega, by omega⟩ (by omega) (lim_A (hWg 100) (n := b) (by omega) (by omega)) (lim_Y (hWg 100) (by omega) (by omega)) (lim_Y (hWg 100) (by omega) (by omega)) (fun s => lim_M (hWg 100) (by omega) (by omega)) (t3 c3) (fun ζ fz sz => ?_)
      refine ih _ _ ⟨b + 1, by omega, by omega, ft.trans (Fr.mono fz rfl), (fz.rdI rfl).trans zt, fun _ => ?_, fun z => absurd c3 z⟩ (by omega)
      have v1 : cvc (MS μ) mt kn how tn b = tl (MS μ) 2 (b : Int) mt kn 2 := by unfold cvc; rw [if_pos c3]
      have v2 : cwg (MS μ) how kn an b = 1 := by unfold cwg; rw [if_pos c3]
      have v3 : csc (MS μ) how b = MS μ 114 (MS μ 115 (b : Int)) := by unfold csc; rw [if_pos c3]
      show SumM ζ (sA (cwg (MS μ) how kn an) b + cwg (MS μ) how kn an b) (sY (cvc (MS μ) mt kn how tn) (cwg (MS μ) how kn an) 1 b + if cvc (MS μ) mt kn how tn b = 1 then cwg (MS μ) how kn an b else 0) (sY (cvc (MS μ) mt kn how tn) (cwg (MS μ) how kn an) 0 b + if cvc (MS μ) mt kn how tn b = 0 then cwg (MS μ) how kn an b else 0) (fun s => sM (csc (MS μ) how) (cvc (MS μ) mt kn how tn) (cwg (MS μ) how kn an) s b + (if csc (MS μ) how b = s then (if cvc (MS μ) mt kn how tn b = 1 then cwg (MS μ) how kn an b else if cvc (MS μ) mt kn how tn b = 0 then -cwg (MS μ) how kn an b else 0) else 0))
      rw [v1, v2, v3]
      exact sz
    · refine fin ?_
      have e : cn (MS μ) how = (MS μ 15466 0).toNat := by unfold cn; rw [if_neg c3]
      rw [e]
      exact (tn3 c3).2
    · refine fin ?_
      by_cases c3 : how = 3
      · have e : cn (MS μ) how = b := by unfold cn; rw [if_pos c3]; omega
        rw [e]
        exact t3 c3
      · have e : cn (MS μ) how = (MS μ 15466 0).toNat := by unfold cn; rw [if_neg c3]
        rw [e]
        exact (tn3 c3).2
  unfold l_M_findCount_47
  rw [eA]
  try simp (disch := omega) only [w_id]
  refine ite_i (fun c => ite_i (fun c3 => ?_) (fun c3 => ?_)) (fun c => ?_)
  · exact rest π k hf hs0 hs h3 (fun z => absurd c3 z)
  · have hvr := vo_rng q.1 q.2.1 (k : Int) mt kn
    have hsec := q.1.2.2.2.2.2.1 (k : Int) (by omega) c
    have v1 : cvc (MS μ) mt kn how tn k = vcT (MS μ) mt kn tn k := by unfold cvc; rw [if_neg c3]
    have v2 : cwg (MS μ) how kn an k = wtT (MS μ) how kn an k := by unfold cwg; rw [if_neg c3]
    have v3 : csc (MS μ) how k = MS μ 114 (k : Int) := by unfold csc; rw [if_neg c3]
    -- one affiliate is counted
    have one : ∀ (v7 wgt : Int) (ρ : Mem), (v7 = vcT (MS μ) mt kn tn k ∨ (v7 = -1 ∧ vcT (MS μ) mt kn tn k = 2)) → (-1 ≤ v7 ∧ v7 ≤ 2) → wgt = wtT (MS μ) how kn an k → Fr cdL π ρ → f_M_counts v7 (rI ρ 114 (k : Int)) wgt ρ (fun (μ_14 : Mem) => l_M_findCount_47 mt kn how tn an (fun (μ_18 : Mem) => ∃ m159 : Nat, l_M_findCount_159 mt kn how (fun (μ_22 : Mem) => ∃ m209 : Nat, l_M_findCount_209 (fun (μ_25 : Mem) => ∀ μ_26 : Mem, μ_26 = sL μ_25 15525 0 (w_i2l (v_M_whole (rL μ_25 15525 0))) → ∀ μ_27 : Mem, μ_27 = sL μ_26 15526 0 (w_i2l (v_M_whole (rL μ_26 15526 0))) → ∀ μ_28 : Mem, μ_28 = sL μ_27 15527 0 (w_i2l (v_M_whole (rL μ_27 15527 0))) → K μ_28) m209 (w 0) μ_22) m159 (w 0) μ_18) n2 ((k : Int) + 1) μ_14) := by
      intro v7 wgt ρ hv7 hv8 hwgt fρ
      have f9 : Fr fcL μ ρ := hf.trans (Fr.mono fρ rfl)
      have ese : rI ρ 114 (k : Int) = MS μ 114 (k : Int) := (f9.rdI rfl).trans rfl
      have hwr := wtT_rng q how kn an k
      have hsρ : SM ρ (csc (MS μ) how) (cvc (MS μ) mt kn how tn) (cwg (MS μ) how kn an) k := ⟨by rw [fρ.rdL rfl]; exact hs.1, by rw [fρ.rdL rfl]; exact hs.2.1, by rw [fρ.rdL rfl]; exact hs.2.2.1, fun s s0 s1 => by rw [fρ.rdL rfl]; exact hs.2.2.2 s s0 s1⟩
      rw [ese]
      refine m_counts (by omega) ⟨by omega, by omega⟩ (by omega) (lim_A (hWg 100) (n := k) (by omega) (by omega)) (lim_Y (hWg 100) (by omega) (by omega)) (lim_Y (hWg 100) (by omega) (by omega)) (fun s => lim_M (hWg 100) (by omega) (by omega)) hsρ (fun ζ fz sz => ?_)
      refine ih _ _ ⟨k + 1, by omega, by omega, f9.trans (Fr.mono fz rfl), (fz.rdI rfl).trans ((fρ.rdI rfl).trans hs0), ?_, fun z => absurd z c3⟩ (by omega)
      have i1 : (if v7 = 1 then wgt else 0) = if vcT (MS μ) mt kn tn k = 1 then wgt else 0 := by
        rcases hv7 with e | ⟨e, e'⟩
        · rw [e]
        · rw [e, e']; rfl
      have i0 : (if v7 = 0 then wgt else 0) = if vcT (MS μ) mt kn tn k = 0 then wgt else 0 := by
        rcases hv7 with e | ⟨e, e'⟩
        · rw [e]
        · rw [e, e']; rfl
      have im : ∀ M : Int → Int, adM M (MS μ 114 (k : Int)) v7 wgt = adM M (MS μ 114 (k : Int)) (vcT (MS μ) mt kn tn k) wgt := fun M => by
        rcases hv7 with e | ⟨e, e'⟩
        · rw [e]
        · rw [e, e']; rfl
      rw [i1, i0, im, hwgt, ← v1, ← v2, ← v3] at sz
      exact sz
    have oneC : ∀ (v7 : Int) (ρ : Mem), (v7 = vcT (MS μ) mt kn tn k ∨ (v7 = -1 ∧ vcT (MS μ) mt kn tn k = 2)) → (-1 ≤ v7 ∧ v7 ≤ 2) → ρ = π → b_M_findCount_84 (l_M_findCount_47 mt kn how tn an (fun (μ_18 : Mem) => ∃ m159 : Nat, l_M_findCount_159 mt kn how (fun (μ_22 : Mem) => ∃ m209 : Nat, l_M_findCount_209 (fun (μ_25 : Mem) => ∀ μ_26 : Mem, μ_26 = sL μ_25 15525 0 (w_i2l (v_M_whole (rL μ_25 15525 0))) → ∀ μ_27 : Mem, μ_27 = sL μ_26 15526 0 (w_i2l (v_M_whole (rL μ_26 15526 0))) → ∀ μ_28 : Mem, μ_28 = sL μ_27 15527 0 (w_i2l (v_M_whole (rL μ_27 15527 0))) → K μ_28) m209 (w 0) μ_22) m159 (w 0) μ_18) n2) mt kn how tn an (k : Int) v7 ρ := by
      intro v7 ρ hv7 hv8 eρ
      subst eρ
      have ewt : ¬ (an = true ∧ ¬ MS μ 153 (k : Int) = 0) → wtT (MS μ) how kn an k = if how = 0 then cd (MS μ) (k : Int) kn else if how = 1 then pd (MS μ) (k : Int) kn else 1 := fun z => by unfold wtT; rw [if_neg z]
      have b103 : ¬ (an = true ∧ ¬ MS μ 153 (k : Int) = 0) → b_M_findCount_103 (l_M_findCount_47 mt kn how tn an (fun (μ_18 : Mem) => ∃ m159 : Nat, l_M_findCount_159 mt kn how (fun (μ_22 : Mem) => ∃ m209 : Nat, l_M_findCount_209 (fun (μ_25 : Mem) => ∀ μ_26 : Mem, μ_26 = sL μ_25 15525 0 (w_i2l (v_M_whole (rL μ_25 15525 0))) → ∀ μ_27 : Mem, μ_27 = sL μ_26 15526 0 (w_i2l (v_M_whole (rL μ_26 15526 0))) → ∀ μ_28 : Mem, μ_28 = sL μ_27 15527 0 (w_i2l (v_M_whole (rL μ_27 15527 0))) → K μ_28) m209 (w 0) μ_22) m159 (w 0) μ_18) n2) mt kn how tn an (k : Int) v7 ρ := by
        intro z
        unfold b_M_findCount_103
        try simp (disch := omega) only [w_id]
        refine ite_i (fun c0 => ?_) (fun c0 => ite_i (fun c1 => ?_) (fun c1 => ⟨by omega, by omega, ?_⟩))
        · refine m_cardsOf qπ (by rw [eM]; omega) hn (fun ν fν => ⟨by omega, by omega, ?_⟩)
          exact one v7 _ ν hv7 hv8 (by rw [ewt z, if_pos c0, eM]) fν
        · refine m_paidOf ⟨by omega, by omega⟩ hn qπ ⟨by omega, by omega, ?_⟩
          exact one v7 _ ρ hv7 hv8 (by rw [ewt z, if_neg c0, if_pos c1, eM]) (FrP.refl _ _)
        · exact one v7 1 ρ hv7 hv8 (by rw [ewt z, if_neg c0, if_neg c1]) (FrP.refl _ _)
      unfold b_M_findCount_84
      try simp (disch := omega) only [w_id]
      refine ite_i (fun ca => ⟨by omega, by omega, ?_⟩) (fun ca => b103 (fun z => ca z.1))
      have evd : rI ρ 153 (k : Int) = MS μ 153 (k : Int) := (hf.rdI rfl).trans rfl
      rw [rB_rI, evd]
      refine ite_i (fun cv => ⟨by omega, by omega, ?_⟩) (fun cv => b103 (fun z => cv (decide_eq_true z.2)))
      have cv2 : ¬ MS μ 153 (k : Int) = 0 := of_decide_eq_true cv
      exact one v7 0 ρ hv7 hv8 (by unfold wtT; rw [if_pos ⟨ca, cv2⟩]) (FrP.refl _ _)
    refine m_voiceOf ⟨by omega, by omega⟩ hm hn (by rw [eM]; exact q.1) (by rw [eM]; exact q.2.1) ?_
    rw [eM]
    refine ite_i (fun ct v7 e7 => ?_) (fun ct => ?_)
    · refine oneC v7 π ?_ (by omega) rfl
      unfold vcT
      rw [if_pos ct, e7]
      by_cases c2 : vo (MS μ) (k : Int) mt kn = 2
      · rw [if_pos c2, c2]; exact Or.inr ⟨rfl, rfl⟩
      · rw [if_neg c2]; exact Or.inl rfl
    · refine oneC _ π ?_ (by omega) rfl
      unfold vcT
      rw [if_neg ct]
      exact Or.inl rfl
  · exact rest π k hf hs0 hs h3 (fun z => by omega)
