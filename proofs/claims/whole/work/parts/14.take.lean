/-! THE CLASS TAKES UP WHAT IS KNOWN -/
theorem c_fill {c n : Nat} {v : Int} (hn : n ≤ 1000000) {μ : Mem} {K : Mem → Prop} (h : ∀ ν : Mem, Fr [c] μ ν → (∀ j : Int, 0 ≤ j → j < n → rI ν c j = w v) → K ν) : f_H_fill c n v μ K := by
  unfold f_H_fill
  have main : ∀ (m i : Nat) (ν : Mem), i + m = n → Fr [c] μ ν → (∀ j : Int, 0 ≤ j → j < i → rI ν c j = w v) → l_H_fill_2 c n v (fun (μ_3 : Mem) => K μ_3) (m + 1) (i : Int) ν := by
    intro m
    induction m with
    | zero =>
      intro i ν hi hf ha
      unfold l_H_fill_2
      simp (disch := omega) only [w_id]
      rw [if_neg (by omega)]
      exact h ν hf (fun j h0 h1 => ha j h0 (by omega))
    | succ m ih =>
      intro i ν hi hf ha
      unfold l_H_fill_2
      simp (disch := omega) only [w_id]
      rw [if_pos (by omega)]
      refine ⟨by omega, by omega, fun μ2 e2 => ?_⟩
      rw [show (i : Int) + 1 = ((i + 1 : Nat) : Int) by omega]
      rw [e2]
      refine ih (i + 1) _ (by omega) (hf.wI (by simp [lel, List.elem])) (fun j h0 h1 => ?_)
      rw [rI_sI]
      by_cases e : j = (i : Int)
      · rw [if_pos ⟨rfl, e⟩]
      · rw [if_neg (fun q => e q.2)]
        exact ha j h0 (by omega)
  exact ⟨n + 1, main n 0 μ (by omega) (FrP.refl _ _) (fun j h0 h1 => by omega)⟩
theorem eq_w {x y : Int} (h : x = y) (hx : Rg y) : w x = y := by rw [h, w_id hx.1 hx.2]
/-- the register as the class holds it, beside the model's -/
def RegA (σ : Sg) (ν : Mem) : Prop := rI ν 1137 0 = σ 15468 0 ∧ (∀ b : Int, 0 ≤ b → b < σ 15468 0 → rI ν 3 b = σ 115 b ∧ rI ν 4 b = σ 116 b)
theorem c_mandateOf {σ : Sg} {a mt kn : Int} (ha0 : -2147483648 ≤ a) (ha1 : a < 2147483648) {ν : Mem} {K : Int → Mem → Prop} (hR : WfR σ) (hT : WfT σ) (hA : RegA σ ν) (hm : ∀ b : Int, 0 ≤ b → b < 48 → rI ν 77 b = tl σ 2 b mt kn 2) (h : K (md σ a mt kn) ν) : f_Count_mandateOf a ν K := by
  have hB := hR.2.1
  have hA12 := hR.1
  unfold f_Count_mandateOf
  have main : ∀ (n i : Nat), (i : Int) + n = σ 15468 0 → l_Count_mandateOf_4 a ν (fun (v2_2 : Int) => ∀ x106 : Int, x106 = (if w 0 < w v2_2 then 1 else (if w v2_2 < w 0 then 0 else 2)) → K x106 ν) (n + 1) (mdN σ a mt kn i) (i : Int) := by
    intro n
    induction n with
    | zero =>
      intro i hi
      have hr := mdN_rng hR a mt kn i (by omega)
      unfold l_Count_mandateOf_4
      rw [hA.1]
      simp (disch := omega) only [w_id]
      rw [if_neg (by omega)]
      intro x ex
      have e : i = (σ 15468 0).toNat := by omega
      rw [ex, e]
      exact h
    | succ n ih =>
      intro i hi
      have hs := hR.2.2.2.2.2.2 (i : Int) (by omega) (by omega)
      have nx := ih (i + 1) (by omega)
      have ei : (i : Int) + 1 = ((i + 1 : Nat) : Int) := by omega
      have t2 := tl_2 hR hT (i : Int) mt kn
      have ho := hA.2 (i : Int) (by omega) (by omega)
      unfold l_Count_mandateOf_4
      unfold mdN at nx
      rw [hA.1, at_in (by omega) (by omega) (by decide), at_in (by omega) (by omega) (by decide), at_in (by omega) (by omega) (by decide), ho.1, ho.2, hm (i : Int) (by omega) (by omega), ei]
      simp (disch := omega) only [w_id]
      rw [if_pos (by omega)]
      refine ite_i (fun h1 => ite_i (fun h2 => ?_) (fun h2 x ex v ev => ?_)) (fun h1 => ?_)
      · rw [if_pos h1, if_neg (by omega), if_neg (by omega), Int.add_zero] at nx
        exact nx
      · rw [if_pos h1] at nx
        rw [ev, ex]
        by_cases c1 : tl σ 2 (i : Int) mt kn 2 = 1
        · rw [if_pos c1] at nx ⊢
          exact nx
        · rw [if_neg c1, if_pos (by omega)] at nx
          rw [if_neg c1]
          exact nx
      · rw [if_neg h1, Int.add_zero] at nx
        exact nx
  exact ⟨(σ 15468 0).toNat + 1, main _ 0 (by omega)⟩
theorem c_voiceOf {σ : Sg} {a mt kn : Int} (ha : 0 ≤ a ∧ a < 12) {ν : Mem} {K : Int → Mem → Prop} (hR : WfR σ) (hT : WfT σ) (hA : RegA σ ν) (hc : ∀ a : Int, 0 ≤ a → a < 12 → rI ν 76 a = tl σ 3 a mt kn 3) (hm : ∀ b : Int, 0 ≤ b → b < 48 → rI ν 77 b = tl σ 2 b mt kn 2) (h : K (vo σ a mt kn) ν) : f_Count_voiceOf a ν K := by
  have t3 := tl_3 hR hT a mt kn
  unfold f_Count_voiceOf
  intro v ev
  rw [at_in (by omega) (by omega) (by decide), hc a ha.1 ha.2] at ev
  unfold vo at h
  rw [ev]
  simp (disch := omega) only [w_id]
  refine ite_i (fun c => ?_) (fun c => ?_)
  · rw [if_pos c] at h
    exact c_mandateOf (by omega) (by omega) hR hT hA hm h
  · rw [if_neg c] at h
    exact h
/-- what count.take leaves -/
def TK (σ : Sg) (ν : Mem) (mt kn : Int) : Prop :=
  (∀ a : Int, 0 ≤ a → a < 12 → rI ν 74 a = tl σ 0 a 0 kn 0 ∧ rI ν 75 a = tl σ 1 a 0 kn 0 ∧ rI ν 76 a = tl σ 3 a mt kn 3) ∧
  (∀ b : Int, 0 ≤ b → b < 48 → rI ν 77 b = tl σ 2 b mt kn 2) ∧ (∀ a : Int, 0 ≤ a → a < σ 15466 0 → rI ν 79 a = vo σ a mt kn)
def TKi (σ : Sg) (ν : Mem) (mt kn : Int) (i : Nat) : Prop :=
  (∀ a : Int, 0 ≤ a → a < 12 → rI ν 74 a = tlN σ 0 a 0 kn 0 i ∧ rI ν 75 a = tlN σ 1 a 0 kn 0 i ∧ rI ν 76 a = tlN σ 3 a mt kn 3 i) ∧
  (∀ b : Int, 0 ≤ b → b < 48 → rI ν 77 b = tlN σ 2 b mt kn 2 i)
theorem tlN_no {σ : Sg} {kd of mt kn wo : Int} {n : Nat} (h : ¬ (σ 138 (n : Int) = kd ∧ σ 139 (n : Int) = of ∧ σ 140 (n : Int) = mt ∧ σ 142 (n : Int) ≤ kn)) : tlN σ kd of mt kn wo (n + 1) = tlN σ kd of mt kn wo n := by
  conv => lhs; unfold tlN
  exact if_neg h
theorem tlN_yes {σ : Sg} {kd of mt kn wo : Int} {n : Nat} (h : σ 138 (n : Int) = kd ∧ σ 139 (n : Int) = of ∧ σ 140 (n : Int) = mt ∧ σ 142 (n : Int) ≤ kn) : tlN σ kd of mt kn wo (n + 1) = σ 141 (n : Int) := by
  conv => lhs; unfold tlN
  exact if_pos h
theorem tlN_late {σ : Sg} {kd of mt kn wo : Int} (hT : WfT σ) {i : Nat} (hi : kn < σ 142 (i : Int)) : ∀ n : Nat, i ≤ n → (n : Int) ≤ σ 15498 0 → tlN σ kd of mt kn wo n = tlN σ kd of mt kn wo i
  | 0, h, _ => by rw [show i = 0 by omega]
  | n + 1, h, hn => by
    by_cases e : i = n + 1
    · rw [e]
    · have hm := hT.2 (i : Int) (n : Int) (by omega) (by omega) (by omega)
      rw [tlN_no (fun q => by omega)]
      exact tlN_late hT hi n (by omega) (by omega)
/-- the class's tellings, beside the model's -/
def TelA (σ : Sg) (ν : Mem) : Prop := rI ν 1138 0 = σ 15498 0 ∧
  (∀ k : Int, 0 ≤ k → k < σ 15498 0 → rI ν 5 k = σ 138 k ∧ rI ν 6 k = σ 139 k ∧ rI ν 9 k = σ 141 k ∧ rI ν 8 k = σ 142 k ∧ (2 ≤ σ 138 k → rI ν 7 k = σ 140 k))
theorem c_takeTelling {σ : Sg} {mt kn : Int} (hm : Rg mt) {ν : Mem} {K : Mem → Prop} (hR : WfR σ) (hT : WfT σ) (hA : TelA σ ν) {i : Nat} (hi : (i : Int) < σ 15498 0) (hd : σ 142 (i : Int) ≤ kn) (hk : TKi σ ν mt kn i)
    (h : ∀ ξ : Mem, Fr [74, 75, 76, 77] ν ξ → TKi σ ξ mt kn (i + 1) → K ξ) : f_Count_takeTelling (i : Int) mt ν K := by
  have hTT := hR.2.2.1
  have hA0 := hR.1
  have hB0 := hR.2.1
  obtain ⟨r1, r2, r3, r4, r5⟩ := hA.2 (i : Int) (by omega) hi
  have wt := hT.1 (i : Int) (by omega) hi
  have rk := MS_rng
  unfold f_Count_takeTelling
  intro v3 e3 v4 e4
  rw [at_in (by omega) (by omega) (by decide)] at e3 e4
  rw [at_in (by omega) (by omega) (by decide), at_in (by omega) (by omega) (by decide), r1]
  rw [r2] at e3
  rw [r3] at e4
  subst e3 e4
  obtain ⟨hm0, hm1⟩ := hm
  simp (disch := omega) only [w_id, w_rI]
  generalize hq : σ 139 (i : Int) = of at *
  generalize hv : σ 141 (i : Int) = v at *
  refine ite_i (fun c0 μ1 e1 => ?_) (fun c0 => ite_i (fun c1 μ1 e1 => ?_) (fun c1 => ite_i (fun c2 => ite_i (fun c3 μ1 e1 => ?_) (fun c3 μ1 e1 => ?_)) (fun c2 => ?_)))
  · rw [set_in (by omega) (by omega) (by decide)] at e1
    subst e1
    refine h _ ((FrP.refl _ _).wI rfl) ⟨fun a h0 h1 => ⟨?_, ?_, ?_⟩, fun b h0 h1 => ?_⟩
    · rw [rI_sI]
      by_cases e : a = of
      · rw [if_pos ⟨rfl, e⟩, tlN_yes ⟨c0, by rw [hq, e], by omega, hd⟩, hv, w_id (by omega) (by omega)]
      · rw [if_neg (fun q => e q.2), tlN_no (fun q => e (by rw [← q.2.1, hq]))]
        exact (hk.1 a h0 h1).1
    · rw [rI_sI, if_neg (fun q => absurd q.1 (by decide)), tlN_no (fun q => by omega)]
      exact (hk.1 a h0 h1).2.1
    · rw [rI_sI, if_neg (fun q => absurd q.1 (by decide)), tlN_no (fun q => by omega)]
      exact (hk.1 a h0 h1).2.2
    · rw [rI_sI, if_neg (fun q => absurd q.1 (by decide)), tlN_no (fun q => by omega)]
      exact hk.2 b h0 h1
  · rw [set_in (by omega) (by omega) (by decide)] at e1
    subst e1
    refine h _ ((FrP.refl _ _).wI rfl) ⟨fun a h0 h1 => ⟨?_, ?_, ?_⟩, fun b h0 h1 => ?_⟩
    · rw [rI_sI, if_neg (fun q => absurd q.1 (by decide)), tlN_no (fun q => by omega)]
      exact (hk.1 a h0 h1).1
    · rw [rI_sI]
      by_cases e : a = of
      · rw [if_pos ⟨rfl, e⟩, tlN_yes ⟨c1, by rw [hq, e], by omega, hd⟩, hv, w_id (by omega) (by omega)]
      · rw [if_neg (fun q => e q.2), tlN_no (fun q => e (by rw [← q.2.1, hq]))]
        exact (hk.1 a h0 h1).2.1
    · rw [rI_sI, if_neg (fun q => absurd q.1 (by decide)), tlN_no (fun q => by omega)]
      exact (hk.1 a h0 h1).2.2
    · rw [rI_sI, if_neg (fun q => absurd q.1 (by decide)), tlN_no (fun q => by omega)]
      exact hk.2 b h0 h1
  · have c2' : σ 140 (i : Int) = mt := by rw [← c2]; exact (r5 (by omega)).symm
    rw [set_in (by omega) (by omega) (by decide)] at e1
    subst e1
    refine h _ ((FrP.refl _ _).wI rfl) ⟨fun a h0 h1 => ⟨?_, ?_, ?_⟩, fun b h0 h1 => ?_⟩
    · rw [rI_sI, if_neg (fun q => absurd q.1 (by decide)), tlN_no (fun q => by omega)]
      exact (hk.1 a h0 h1).1
    · rw [rI_sI, if_neg (fun q => absurd q.1 (by decide)), tlN_no (fun q => by omega)]
      exact (hk.1 a h0 h1).2.1
    · rw [rI_sI]
      by_cases e : a = of
      · rw [if_pos ⟨rfl, e⟩, tlN_yes ⟨c3, by rw [hq, e], c2', hd⟩, hv, w_id (by omega) (by omega)]
      · rw [if_neg (fun q => e q.2), tlN_no (fun q => e (by rw [← q.2.1, hq]))]
        exact (hk.1 a h0 h1).2.2
    · rw [rI_sI, if_neg (fun q => absurd q.1 (by decide)), tlN_no (fun q => by omega)]
      exact hk.2 b h0 h1
  · have c2' : σ 140 (i : Int) = mt := by rw [← c2]; exact (r5 (by omega)).symm
    rw [set_in (by omega) (by omega) (by decide)] at e1
    subst e1
    refine h _ ((FrP.refl _ _).wI rfl) ⟨fun a h0 h1 => ⟨?_, ?_, ?_⟩, fun b h0 h1 => ?_⟩
    · rw [rI_sI, if_neg (fun q => absurd q.1 (by decide)), tlN_no (fun q => by omega)]
      exact (hk.1 a h0 h1).1
    · rw [rI_sI, if_neg (fun q => absurd q.1 (by decide)), tlN_no (fun q => by omega)]
      exact (hk.1 a h0 h1).2.1
    · rw [rI_sI, if_neg (fun q => absurd q.1 (by decide)), tlN_no (fun q => by omega)]
      exact (hk.1 a h0 h1).2.2
    · rw [rI_sI]
      by_cases e : b = of
      · rw [if_pos ⟨rfl, e⟩, tlN_yes ⟨by omega, by rw [hq, e], c2', hd⟩, hv, w_id (by omega) (by omega)]
      · rw [if_neg (fun q => e q.2), tlN_no (fun q => e (by rw [← q.2.1, hq]))]
        exact hk.2 b h0 h1
  · have c2' : ¬ σ 140 (i : Int) = mt := fun q => c2 (by rw [r5 (by omega)]; exact q)
    refine h _ (FrP.refl _ _) ⟨fun a h0 h1 => ⟨?_, ?_, ?_⟩, fun b h0 h1 => ?_⟩
    · rw [tlN_no (fun q => by omega)]
      exact (hk.1 a h0 h1).1
    · rw [tlN_no (fun q => by omega)]
      exact (hk.1 a h0 h1).2.1
    · rw [tlN_no (fun q => c2' q.2.2.1)]
      exact (hk.1 a h0 h1).2.2
    · rw [tlN_no (fun q => c2' q.2.2.1)]
      exact hk.2 b h0 h1

theorem wfk {σ : Sg} (hR : WfR σ) (hT : WfT σ) {k : Int} (h0 : 0 ≤ k) (h1 : k < σ 15498 0) : 0 ≤ σ 142 k ∧ σ 142 k ≤ 100000 := by
  have := hT.1 k h0 h1
  have := hR.2.2.2.1
  omega
/-- the cells that count.take writes -/
def tkL : List Nat := [74, 75, 76, 77, 79]
theorem c_take {σ : Sg} {μ : Mem} (hI : Ic σ μ) {mt kn : Int} (hm : Rg mt) (hn : Rg kn) {K : Mem → Prop} (h : ∀ ν : Mem, Fr tkL μ ν → TK σ ν mt kn → K ν) : f_Count_take mt kn μ K := by
  have hR := hI.wfR
  have hT := hI.wfT
  have hRR := hI.relR
  have hT3 := hR.2.2.1
  have hA3 := hR.1
  have telA : ∀ ν : Mem, Fr tkL μ ν → TelA σ ν := fun ν f => ⟨(f.rdI rfl).trans hRR.2.2.1, fun k k0 k1 => by
    have := hRR.2.2.2.2.2.2.2 k k0 k1
    rw [f.rdI rfl, f.rdI rfl, f.rdI rfl, f.rdI rfl, f.rdI rfl]
    exact this⟩
  have regA : ∀ ν : Mem, Fr tkL μ ν → RegA σ ν := fun ν f => ⟨(f.rdI rfl).trans hRR.2.1, fun b b0 b1 => by
    have := hRR.2.2.2.2.2.2.1 b b0 b1
    rw [f.rdI rfl, f.rdI rfl]
    exact this⟩
  have fin : ∀ ν : Mem, Fr tkL μ ν → TKi σ ν mt kn (σ 15498 0).toNat → ∃ m74 : Nat, l_Count_take_74 (fun (μ_11 : Mem) => K μ_11) m74 0 ν := by
    intro ν f hk
    have hk' : (∀ a : Int, 0 ≤ a → a < 12 → rI ν 74 a = tl σ 0 a 0 kn 0 ∧ rI ν 75 a = tl σ 1 a 0 kn 0 ∧ rI ν 76 a = tl σ 3 a mt kn 3) ∧ (∀ b : Int, 0 ≤ b → b < 48 → rI ν 77 b = tl σ 2 b mt kn 2) := hk
    have main : ∀ (n i : Nat) (ξ : Mem), (i : Int) + n = σ 15466 0 → Fr [79] ν ξ → (∀ a : Int, 0 ≤ a → a < i → rI ξ 79 a = vo σ a mt kn) → l_Count_take_74 (fun (μ_11 : Mem) => K μ_11) (n + 1) (i : Int) ξ := by
      intro n
      induction n with
      | zero =>
        intro i ξ hi g hv
        have f2 : Fr tkL μ ξ := f.trans (Fr.mono g rfl)
        have eA : rI ξ 1136 0 = σ 15466 0 := (f2.rdI rfl).trans hRR.1
        unfold l_Count_take_74
        rw [eA]
        simp (disch := omega) only [w_id]
        rw [if_neg (by omega)]
        refine h ξ f2 ⟨fun a a0 a1 => ?_, fun b b0 b1 => ?_, fun a a0 a1 => hv a a0 (by omega)⟩
        · rw [g.rdI rfl, g.rdI rfl, g.rdI rfl]; exact hk'.1 a a0 a1
        · rw [g.rdI rfl]; exact hk'.2 b b0 b1
      | succ n ih =>
        intro i ξ hi g hv
        have f2 : Fr tkL μ ξ := f.trans (Fr.mono g rfl)
        have eA : rI ξ 1136 0 = σ 15466 0 := (f2.rdI rfl).trans hRR.1
        unfold l_Count_take_74
        rw [eA]
        simp (disch := omega) only [w_id]
        rw [if_pos (by omega)]
        refine c_voiceOf (mt := mt) (kn := kn) (by omega) hR hT (regA ξ f2) (fun a a0 a1 => by rw [g.rdI rfl]; exact (hk'.1 a a0 a1).2.2) (fun b b0 b1 => by rw [g.rdI rfl]; exact hk'.2 b b0 b1) (fun μ10 e10 => ?_)
        rw [set_in (by omega) (by omega) (by decide)] at e10
        subst e10
        rw [show (i : Int) + 1 = ((i + 1 : Nat) : Int) by omega]
        have hvr := vo_rng hR hT (i : Int) mt kn
        refine ih (i + 1) _ (by omega) (g.wI rfl) (fun a a0 a1 => ?_)
        rw [rI_sI]
        by_cases e : a = (i : Int)
        · rw [if_pos ⟨rfl, e⟩, e, w_id (by omega) (by omega)]
        · rw [if_neg (fun q => e q.2)]
          exact hv a a0 (by omega)
    exact ⟨(σ 15466 0).toNat + 1, main _ 0 ν (by omega) (FrP.refl _ _) (fun a a0 a1 => by omega)⟩
  have loop : ∀ (n i : Nat) (ν : Mem), (i : Int) + n = σ 15498 0 → Fr tkL μ ν → TKi σ ν mt kn i → l_Count_take_34 mt kn (fun (μ_7 : Mem) => ∃ m74 : Nat, l_Count_take_74 (fun (μ_11 : Mem) => K μ_11) m74 0 μ_7) (n + 1) (i : Int) ν := by
    intro n
    induction n with
    | zero =>
      intro i ν hi f hk
      unfold l_Count_take_34
      rw [(telA ν f).1]
      simp (disch := omega) only [w_id]
      rw [if_neg (by omega)]
      refine fin ν f ?_
      rw [show (σ 15498 0).toNat = i by omega]
      exact hk
    | succ n ih =>
      intro i ν hi f hk
      have ta := telA ν f
      have hd := wfk hR hT (k := (i : Int)) (by omega) (by omega)
      have hn2 := hn
      obtain ⟨hn0, hn1⟩ := hn2
      unfold l_Count_take_34
      rw [ta.1, at_in (by omega) (by omega) (by decide), (ta.2 (i : Int) (by omega) (by omega)).2.2.2.1]
      simp (disch := omega) only [w_id]
      rw [if_pos (by omega)]
      refine ite_i (fun q => ?_) (fun q => ?_)
      · refine fin ν f ?_
        refine ⟨fun a a0 a1 => ?_, fun b b0 b1 => ?_⟩
        · rw [tlN_late (wo := 0) hT q _ (by omega) (by omega), tlN_late (kd := 1) hT q _ (by omega) (by omega), tlN_late (wo := 3) hT q _ (by omega) (by omega)]
          exact hk.1 a a0 a1
        · rw [tlN_late hT q _ (by omega) (by omega)]
          exact hk.2 b b0 b1
      · refine c_takeTelling hm hR hT ta (by omega) (Int.not_lt.mp q) hk (fun ξ g hx => ?_)
        rw [show (i : Int) + 1 = ((i + 1 : Nat) : Int) by omega]
        exact ih (i + 1) ξ (by omega) (f.trans (Fr.mono g rfl)) hx
  unfold f_Count_take
  refine c_fill (by decide) (fun μ1 f1 h1 => c_fill (by decide) (fun μ2 f2 h2 => c_fill (by decide) (fun μ3 f3 h3 => c_fill (by decide) (fun μ4 f4 h4 => ?_))))
  refine ⟨(σ 15498 0).toNat + 1, loop _ 0 μ4 (by omega) ((((Fr.mono f1 rfl : Fr tkL μ μ1).trans (Fr.mono f2 rfl)).trans (Fr.mono f3 rfl)).trans (Fr.mono f4 rfl)) ⟨fun a a0 a1 => ⟨?_, ?_, ?_⟩, fun b b0 b1 => ?_⟩⟩
  · rw [f4.rdI rfl, f3.rdI rfl, f2.rdI rfl, h1 a a0 (by omega)]; rfl
  · rw [f4.rdI rfl, f3.rdI rfl, h2 a a0 (by omega)]; rfl
  · rw [f4.rdI rfl, h3 a a0 (by omega)]; rfl
  · rw [h4 b b0 (by omega)]; rfl
