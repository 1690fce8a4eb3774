/-! WORTHS: what the class prepares, and the order that is read -/
theorem c_passesG {σ : Sg} {ο : Mem} (iο : Ic σ ο) {m : Int} (hm : m < 100) (hc : CNq σ ο m (σ 15465 0) 0 (-1) false) {G : Int} (hG : 0 ≤ G ∧ G ≤ 1) {Y : Int → Mem → Prop} (hY : ∀ π : Mem, Fr ccL ο π → Y (b2i (psG σ m G)) π) : f_Worths_passesNow (rIx (Fo σ)) G ο Y := by
  have hD := iο.wfR.2.2.2.1
  have kd0 : kdm m = 0 := by unfold kdm; rw [if_pos (by omega)]
  unfold f_Worths_passesNow
  rw [iο.today]
  have := c_passes iο (mt := m) (D := σ 15465 0) (G := G) hc (cYes_Bd _ _ _ _ _ _) (cNo_Bd _ _ _ _ _ _) (cAll_Bd _ _ _ _) (cSec_Bd _ _ _ _ _ _) (bd_small hG.1 (by omega)) (bd_small hD.1 (by omega)) (K := fun r14 μ_1 => ∀ x25 : Int, x25 = (if r14 = true then 1 else 0) → Y x25 μ_1) (fun π fp x ex => by
    have e2 : ∀ b : Bool, (if b = true then (1 : Int) else 0) = b2i b := fun b => by cases b <;> rfl
    rw [ex, e2]
    exact hY π fp)
  rw [kd0] at this
  exact this
def cmL' : List Nat := tkL ++ wgL ++ suL
theorem c_countMotion {σ : Sg} {ο : Mem} (iο : Ic σ ο) {m : Int} (hm : 0 ≤ m ∧ m < 100) {K : Mem → Prop} (h : ∀ ξ : Mem, Fr cmL' ο ξ → CNq σ ξ m (σ 15465 0) 0 (-1) false → K ξ) : f_Worths_countMotion m (rIx (Fo σ)) ο K := by
  have hD := iο.wfR.2.2.2.1
  unfold f_Worths_countMotion
  rw [iο.today]
  refine c_take iο ⟨by omega, by omega⟩ ⟨by omega, by omega⟩ (fun ξ1 f1 hk => ?_)
  have i1 := (f1.qt rfl).ic iο
  refine c_weigh i1 (how := 0) (mt := m) (kn := σ 15465 0) (by decide) hk (fun ξ2 f2 hwt => ?_)
  have i2 := (f2.qt rfl).ic i1
  refine c_sumUp2 i2 (mt := m) (kn := σ 15465 0) (how := 0) (an := false) (by decide) (tn := -1) ⟨by decide, by decide⟩ (hk.fr f2 rfl).2.2 hwt (fun ξ3 f3 hc => ?_)
  exact h ξ3 (((Fr.mono f1 rfl : Fr cmL' ο ξ1).trans (Fr.mono f2 rfl)).trans (Fr.mono f3 rfl)) hc
theorem c_contraryTo {σ : Sg} {ν : Mem} (hI : Ic σ ν) {C : List Int} (h6 : C.length ≤ 6) (hC : ∀ x ∈ C, 0 ≤ x ∧ x < 24) (hM : MoC ν C) {m : Int} (hm : 0 ≤ m ∧ m < 24) {K : Int → Mem → Prop} (h : ∀ x : Int, CbC σ C m x → K x ν) : f_Worths_contraryTo m ν K := by
  have rm := hI.row hm.1 hm.2
  have loop : ∀ (f i v : Nat), i + f = C.length → v < 64 → (∀ j : Nat, j < i → (v.testBit j = true ↔ ctr (rowOf σ m) (rowOf σ (gI C j)))) → (∀ j : Nat, i ≤ j → v.testBit j = false) → l_Worths_contraryTo_4 m K (f + 1) (v : Int) (i : Int) ν := by
    intro f
    induction f with
    | zero =>
      intro i v e hv hb hz
      unfold l_Worths_contraryTo_4
      rw [hM.1]
      (try simp (disch := omega) only [w_id])
      rw [if_neg (by omega)]
      exact h _ ⟨v, rfl, hv, fun j hj => hb j (by omega)⟩
    | succ f ih =>
      intro i v e hv hb hz
      have hi : i < C.length := by omega
      have mem := gI_mem hi
      have cr := hC _ mem
      have ro := hI.row cr.1 cr.2
      have next : ∀ (b : Bool), (b = true ↔ ctr (rowOf σ m) (rowOf σ (gI C i))) → ∀ x39 : Int, x39 = (if b = true then (w_ishl 1 (i : Int)) else 0) → ∀ v2_1 : Int, v2_1 = w_ior (v : Int) x39 → l_Worths_contraryTo_4 m K (f + 1) v2_1 ((i : Int) + 1) ν := fun b hbb x39 e39 v2 e2 => by
        have ev : ∃ v' : Nat, v2 = (v' : Int) ∧ v' < 64 ∧ ∀ j : Nat, v'.testBit j = (v.testBit j || (b && decide (i = j))) := by
          cases b with
          | true =>
            rw [if_pos rfl] at e39
            have k := ior_bit2 (v := v) (i := i) (n := 6) (by omega) (by omega) (by decide)
            rw [e39, k.1] at e2
            exact ⟨v ||| 2 ^ i, e2, by omega, fun j => by rw [ior_bit, Bool.true_and]⟩
          | false =>
            rw [if_neg (by decide)] at e39
            rw [e39, show (0 : Int) = ((0 : Nat) : Int) from rfl, ior_n (by omega) (by decide), Nat.or_zero] at e2
            exact ⟨v, e2, hv, fun j => by rw [Bool.false_and, Bool.or_false]⟩
        obtain ⟨v', e', l', t'⟩ := ev
        rw [e']
        have g := ih (i + 1) v' (by omega) l' (fun j hj => by
          rw [t']
          by_cases c : j = i
          · subst c
            rw [hz j (Nat.le_refl _), decide_eq_true rfl, Bool.and_true, Bool.false_or]
            exact hbb
          · rw [decide_eq_false (fun y => c y.symm), Bool.and_false, Bool.or_false]
            exact hb j (by omega)) (fun j hj => by
          rw [t', hz j (by omega), decide_eq_false (by omega), Bool.and_false]
          rfl)
        exact g
      unfold l_Worths_contraryTo_4
      rw [hM.1, at_in (by omega) (by omega) (by decide), hM.2 i hi]
      (try simp (disch := omega) only [w_id])
      rw [if_pos (by omega)]
      refine c_areContrary ⟨hm.1, by omega⟩ ⟨cr.1, by omega⟩ rm.1 ro.1 rm.2.1 ro.2.1 (fun z => next true ⟨fun _ => z, fun _ => rfl⟩) (fun z => next false ⟨fun y => (by cases y), fun y => absurd y z⟩)
  unfold f_Worths_contraryTo
  exact ⟨C.length + 1, loop C.length 0 0 (by omega) (by decide) (fun j hj => by omega) (fun j _ => Nat.zero_testBit j)⟩
def pbL : List Nat := [104, 105, 106, 107, 108]
def prL : List Nat := [103, 13934] ++ cmL' ++ ccL ++ pbL
def pr2 : List Nat := cmL' ++ ccL ++ pbL
theorem c_prepare {σ : Sg} {μ : Mem} (hI : Ic σ μ) {a : Int} (ha : Rg a) {K : Bool → Mem → Prop}
    (h1 : vlR σ a 1 6 → ∀ ξ : Mem, Fr prL μ ξ → MoC ξ (chN a.toNat 24) → PrC σ ξ (chN a.toNat 24) (chN a.toNat 24).length → K true ξ) (h2 : ¬ vlR σ a 1 6 → ∀ ξ : Mem, Fr prL μ ξ → K false ξ) : f_Worths_prepare a μ K := by
  unfold f_Worths_prepare
  have loop : ∀ (C : List Int) (ν0 : Mem) (X : Mem → Prop), Ic σ ν0 → C.length ≤ 6 → (∀ x ∈ C, 0 ≤ x ∧ x < 24) → MoC ν0 C → (∀ ξ : Mem, Fr pr2 ν0 ξ → MoC ξ C → PrC σ ξ C C.length → X ξ) →
      ∀ (f i : Nat) (ν : Mem), i + f = C.length → Fr pr2 ν0 ν → PrC σ ν C i → l_Worths_prepare_33 (rIx (Fo σ)) X (f + 1) (i : Int) ν := by
    intro C ν0 X i0 h6 hC hM hX f
    induction f with
    | zero =>
      intro i ν e fr hp
      have hMν : MoC ν C := ⟨by rw [fr.rdI rfl]; exact hM.1, fun j hj => by rw [fr.rdI rfl]; exact hM.2 j hj⟩
      unfold l_Worths_prepare_33
      rw [hMν.1]
      (try simp (disch := omega) only [w_id])
      rw [if_neg (by omega)]
      rw [show i = C.length by omega] at hp
      exact hX ν fr hMν hp
    | succ f ih =>
      intro i ν e fr hp
      have hMν : MoC ν C := ⟨by rw [fr.rdI rfl]; exact hM.1, fun j hj => by rw [fr.rdI rfl]; exact hM.2 j hj⟩
      have hi : i < C.length := by omega
      have cr := hC _ (gI_mem hi)
      have iν := (fr.qt rfl).ic i0
      unfold l_Worths_prepare_33
      rw [hMν.1, at_in (by omega) (by omega) (by decide), hMν.2 i hi]
      (try simp (disch := omega) only [w_id])
      rw [if_pos (by omega)]
      intro v4 e4
      subst e4
      generalize hm : gI C i = m at *
      refine c_countMotion iν ⟨cr.1, by omega⟩ (fun ξ5 f5 hc5 => ?_)
      have i5 := (f5.qt rfl).ic iν
      refine c_passesG i5 (by omega) hc5 (by decide) (fun ξ6 f6 μ7 e7 => ?_)
      rw [set_in (by omega) (by omega) (by decide)] at e7
      have f7 : Fr (ccL ++ [104]) ξ5 μ7 := by rw [e7]; exact (Fr.mono f6 rfl : Fr (ccL ++ [104]) ξ5 ξ6).wI (by decide)
      have i7 := (f7.qt rfl).ic i5
      refine c_passesG i7 (by omega) (hc5.fr f7 rfl) (by decide) (fun ξ8 f8 μ9 e9 => ?_)
      rw [set_in (by omega) (by omega) (by decide)] at e9
      have f9 : Fr (ccL ++ [105]) μ7 μ9 := by rw [e9]; exact (Fr.mono f8 rfl : Fr (ccL ++ [105]) μ7 ξ8).wI (by decide)
      have i9 := (f9.qt rfl).ic i7
      have g9 : Fr pr2 ν μ9 := ((Fr.mono f5 rfl : Fr pr2 ν ξ5).trans (Fr.mono f7 rfl)).trans (Fr.mono f9 rfl)
      have hM9 : MoC μ9 C := ⟨by rw [g9.rdI rfl]; exact hMν.1, fun j hj => by rw [g9.rdI rfl]; exact hMν.2 j hj⟩
      refine c_contraryTo i9 h6 hC hM9 cr (fun x94 hcb μ11 e11 => ?_)
      rw [set_in (by omega) (by omega) (by decide)] at e11
      have f11 : Fr [106] μ9 μ11 := by rw [e11]; exact fr1 _ _ _ _
      have i11 := (f11.qt rfl).ic i9
      have rm := i11.row cr.1 cr.2
      refine c_bitsOf ⟨cr.1, by omega⟩ rm.1 rm.2.1 (Or.inl rfl) (fun x112 hx μ13 e13 => ?_)
      rw [setL_in (by omega) (by omega) (by decide)] at e13
      have f13 : Fr [107] μ11 μ13 := by rw [e13]; exact fr1L _ _ _ _
      have i13 := (f13.qt rfl).ic i11
      have rm3 := i13.row cr.1 cr.2
      refine c_bitsOf ⟨cr.1, by omega⟩ rm3.1 rm3.2.1 (Or.inr rfl) (fun x130 hy μ15 e15 => ?_)
      rw [setL_in (by omega) (by omega) (by decide)] at e15
      have f15 : Fr [108] μ13 μ15 := by rw [e15]; exact fr1L _ _ _ _
      have ft : Fr pr2 ν μ15 := ((g9.trans (Fr.mono f11 rfl)).trans (Fr.mono f13 rfl)).trans (Fr.mono f15 rfl)
      obtain ⟨xv, ex1, ex2, ex3⟩ := id hcb
      have g := ih (i + 1) μ15 (by omega) (fr.trans ft) (fun j hj => by
        have fA : Fr [108, 107, 106] μ9 μ15 := ((Fr.mono f11 rfl).trans (Fr.mono f13 rfl)).trans (Fr.mono f15 rfl)
        have a1 : rL μ15 107 (j : Int) = if j = i then x112 else rL ν 107 (j : Int) := by
          rw [f15.rdL rfl, e13, rLs]
          by_cases c : j = i
          · rw [if_pos ⟨rfl, by omega⟩, if_pos c]
          · rw [if_neg (fun z => by omega), if_neg c, f11.rdL rfl, f9.rdL rfl, f7.rdL rfl, f5.rdL rfl]
        have a2 : rL μ15 108 (j : Int) = if j = i then x130 else rL ν 108 (j : Int) := by
          rw [e15, rLs]
          by_cases c : j = i
          · rw [if_pos ⟨rfl, by omega⟩, if_pos c]
          · rw [if_neg (fun z => by omega), if_neg c, f13.rdL rfl, f11.rdL rfl, f9.rdL rfl, f7.rdL rfl, f5.rdL rfl]
        have bb : ∀ b : Bool, w (b2i b) = b2i b := fun b => w_b2i b
        have a3 : rI μ15 104 (j : Int) = if j = i then b2i (psG σ m 0) else rI ν 104 (j : Int) := by
          rw [fA.rdI rfl, f9.rdI rfl, e7, rI_sI]
          by_cases c : j = i
          · rw [if_pos ⟨rfl, by omega⟩, if_pos c, bb]
          · rw [if_neg (fun z => by omega), if_neg c, f6.rdI rfl, f5.rdI rfl]
        have a4 : rI μ15 105 (j : Int) = if j = i then b2i (psG σ m 1) else rI ν 105 (j : Int) := by
          rw [fA.rdI rfl, e9, rI_sI]
          by_cases c : j = i
          · rw [if_pos ⟨rfl, by omega⟩, if_pos c, bb]
          · rw [if_neg (fun z => by omega), if_neg c, f8.rdI rfl, f7.rdI rfl, f5.rdI rfl]
        have a5 : rI μ15 106 (j : Int) = if j = i then x94 else rI ν 106 (j : Int) := by
          rw [f15.rdI rfl, f13.rdI rfl, e11, rI_sI]
          by_cases c : j = i
          · rw [if_pos ⟨rfl, by omega⟩, if_pos c, w_id (by omega) (by omega)]
          · rw [if_neg (fun z => by omega), if_neg c, f9.rdI rfl, f7.rdI rfl, f5.rdI rfl]
        rw [a1, a2, a3, a4, a5]
        by_cases c : j = i
        · rw [if_pos c, if_pos c, if_pos c, if_pos c, if_pos c, c, hm]
          exact ⟨hx, hy, rfl, rfl, hcb⟩
        · rw [if_neg c, if_neg c, if_neg c, if_neg c, if_neg c]
          exact hp j (by omega))
      exact g
  have hC : ∀ x ∈ chN a.toNat 24, 0 ≤ x ∧ x < 24 := fun x hx => chN_rng hx
  have fin : ∀ (ν : Mem) (r : Int), Fr [103] μ ν → ((r = 0 ∧ ¬ vlA σ a 6) ∨ (r = ((chN a.toNat 24).length : Int) ∧ vlA σ a 6 ∧ ∀ i : Nat, i < (chN a.toNat 24).length → rI ν 103 (i : Int) = gI (chN a.toNat 24) i)) → ∀ μ_2 : Mem, μ_2 = sI ν 13934 0 r → f_Papers_inForce (rI μ_2 9584 0) μ_2 (fun r27 μ_3 => isRu r27 = true ∧ ∃ m33 : Nat, l_Worths_prepare_33 r27 (fun (μ_16 : Mem) => ∀ x154 : Bool, x154 = (if 0 < w (rI μ_16 13934 0) then true else false) → K x154 μ_16) m33 0 μ_3) := fun ν r fr hr μ2 e2 => by
    have f2 : Fr [103, 13934] μ μ2 := by rw [e2]; exact (Fr.mono fr rfl : Fr [103, 13934] μ ν).wI (by decide)
    have i2 := (f2.qt rfl).ic hI
    refine c_inForce i2 ⟨i2.isRu, ?_⟩
    rcases hr with ⟨r0, nv⟩ | ⟨rC, v, hv⟩
    · refine ⟨1, loop [] μ2 _ i2 (by decide) (fun x hx => absurd hx (by simp)) ⟨by rw [e2, rI_eq _ _ _ ⟨by omega, by omega⟩, r0]; rfl, fun i hi => absurd hi (by simp)⟩ (fun ξ fx hM _ x ex => ?_) 0 0 μ2 rfl (FrP.refl _ _) (fun i hi => by omega)⟩
      rw [hM.1, show w (([] : List Int).length : Int) = 0 from rfl, if_neg (by decide)] at ex
      rw [ex]
      exact h2 (fun z => nv z.1) ξ ((Fr.mono f2 rfl).trans (Fr.mono fx rfl))
    · have l6 := v.2.1
      refine ⟨(chN a.toNat 24).length + 1, loop (chN a.toNat 24) μ2 _ i2 l6 hC ⟨by rw [e2, rI_eq _ _ _ ⟨by omega, by omega⟩, rC], fun i hi => by rw [e2, rI_ne _ _ _ _ rfl]; exact hv i hi⟩ (fun ξ fx hM hP x ex => ?_) (chN a.toNat 24).length 0 μ2 (by omega) (FrP.refl _ _) (fun i hi => by omega)⟩
      rw [hM.1, w_id (by omega) (by omega)] at ex
      have fξ : Fr prL μ ξ := (Fr.mono f2 rfl).trans (Fr.mono fx rfl)
      by_cases z : 1 ≤ (chN a.toNat 24).length
      · rw [if_pos (by omega)] at ex
        rw [ex]
        exact h1 ⟨v, z⟩ ξ fξ hM hP
      · rw [if_neg (by omega)] at ex
        rw [ex]
        exact h2 (fun y => z y.2) ξ fξ
  exact c_chosen ha (c := 103) (n := 6) rfl (by decide) hI (fun v ν fr hv => fin ν _ fr (Or.inr ⟨rfl, v, hv⟩)) (fun nv ν fr => fin ν 0 fr (Or.inl ⟨rfl, nv⟩))
