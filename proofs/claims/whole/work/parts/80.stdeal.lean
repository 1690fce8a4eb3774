/-! THE DEAL, both sides -/
def fdL : List Nat := [111] ++ tkL ++ wgL ++ suL ++ ccL
theorem hw_mo {σ : Sg} {m : Int} (m0 : 0 ≤ m) (m1 : m < σ 15472 0) : hw σ m = σ 122 m := by
  unfold hw hw3
  rw [if_pos ⟨m0, m1⟩]
theorem c_findChanges {σ : Sg} {μ ν : Mem} (hI : Ic σ μ) (hq : Qt μ ν) {m : Int} (hm : 0 ≤ m ∧ m < σ 15472 0) (hT : CgT σ ν m) {K : Mem → Prop} (h : ∀ ξ : Mem, Fr fdL ν ξ → CgT σ ξ (m + 1) → K ξ) : f_Worths_findChanges m ν K := by
  have hIν := hq.ic hI
  have hct := hI.cnt
  have hA := hI.wfR.1
  have hD := hI.wfR.2.2.2.1
  have eA : ∀ {L : List Nat} {ξ : Mem}, Fr L ν ξ → lel L 1136 = false → rI ξ 1136 0 = σ 15466 0 := fun f hL => by rw [f.rdI hL]; exact hIν.relR.1
  have eH := hw_mo hm.1 hm.2
  -- the column is emptied
  have loop1 : ∀ (X : Mem → Prop), (∀ ξ : Mem, Fr [111] ν ξ → (∀ a n : Int, 0 ≤ a → a < σ 15466 0 → 0 ≤ n → n < m → rI ξ 111 (a * 24 + n) = chO σ a n) → (∀ a : Int, 0 ≤ a → a < σ 15466 0 → rI ξ 111 (a * 24 + m) = 2) → X ξ) →
      ∀ (f i : Nat) (ξ : Mem), (i : Int) + f = σ 15466 0 → Fr [111] ν ξ → (∀ a n : Int, 0 ≤ a → a < σ 15466 0 → 0 ≤ n → n < m → rI ξ 111 (a * 24 + n) = chO σ a n) → (∀ a : Int, 0 ≤ a → a < i → rI ξ 111 (a * 24 + m) = 2) → l_Worths_findChanges_2 m X (f + 1) (i : Int) ξ := by
    intro X hX f
    induction f with
    | zero =>
      intro i ξ e fr c1 c2
      unfold l_Worths_findChanges_2
      rw [eA fr rfl]
      (try simp (disch := omega) only [w_id])
      rw [if_neg (by omega)]
      exact hX ξ fr c1 (fun a a0 a1 => c2 a a0 (by omega))
    | succ f ih =>
      intro i ξ e fr c1 c2
      unfold l_Worths_findChanges_2
      rw [eA fr rfl]
      (try simp (disch := omega) only [w_id])
      rw [if_pos (by omega)]
      intro μ2 e2
      rw [set_in (by omega) (by omega) (by decide)] at e2
      have g := ih (i + 1) μ2 (by omega) (by rw [e2]; exact fr.wI (by decide)) (fun a n a0 a1 n0 n1 => by rw [e2, rI_sI, if_neg (fun z => by omega)]; exact c1 a n a0 a1 n0 n1) (fun a a0 a1 => by
        rw [e2, rI_sI]
        by_cases z : a = i
        · rw [if_pos ⟨rfl, by omega⟩]; rfl
        · rw [if_neg (fun y => by omega)]; exact c2 a a0 (by omega))
      exact g
  unfold f_Worths_findChanges
  refine ⟨(σ 15466 0).toNat + 1, loop1 _ (fun ξ fr c1 c2 => ?_) (σ 15466 0).toNat 0 ν (by omega) (FrP.refl _ _) (fun a n a0 a1 n0 n1 => hT a n a0 a1 n0 n1) (fun a a0 a1 => by omega)⟩
  have hIξ := (fr.qt rfl).ic hIν
  have hwr := hI.hwr m
  rw [stateOf_e hIξ ⟨by omega, by omega⟩, eH]
  rw [eH] at hwr
  (try simp (disch := omega) only [w_id])
  refine ite_i (fun q => ?_) (fun q => ?_)
  · refine c_inForce hIξ ⟨hIξ.isRu, ?_⟩
    -- against
    have hag : ∀ Y : Int → Mem → Prop, Y (agO σ (stO σ) m) ξ → f_Floor_against m ξ Y := fun Y hY => by
      unfold f_Floor_against
      have k0 : v_H_kindOf m = 0 := by
        rw [kindOf_k ⟨by omega, by omega⟩]
        unfold kdm
        rw [if_pos (by omega)]
      rw [k0, if_neg (by decide), if_neg (by decide)]
      have rw' := hIξ.row hm.1 (by omega)
      refine c_against49 hIξ (Qt.refl ξ) ⟨hm.1, by omega⟩ rw'.1 rw'.2.1 ?_
      unfold agO at hY
      rw [if_neg (by omega), if_pos (by omega)] at hY
      exact hY
    refine hag _ ?_
    have kd0 : kdm m = 0 := by unfold kdm; rw [if_pos (by omega)]
    have hg := agO_01 σ (stO σ) m
    unfold f_Worths_countMotion
    rw [hIξ.today]
    refine c_take hIξ ⟨by omega, by omega⟩ ⟨by omega, by omega⟩ (fun ξ1 f1 hk => ?_)
    have i1 := (f1.qt rfl).ic hIξ
    refine c_weigh i1 (how := 0) (mt := m) (kn := σ 15465 0) (by decide) hk (fun ξ2 f2 hwt => ?_)
    have i2 := (f2.qt rfl).ic i1
    have hk2 := hk.fr f2 rfl
    refine c_sumUp2 i2 (mt := m) (kn := σ 15465 0) (how := 0) (an := false) (by decide) (tn := -1) ⟨by decide, by decide⟩ hk2.2.2 hwt (fun ξ3 f3 hc => ?_)
    have i3 := (f3.qt rfl).ic i2
    have ps : ∀ (ο : Mem) (tn : Int) (Y : Int → Mem → Prop), Ic σ ο → CNq σ ο m (σ 15465 0) 0 tn false → (∀ π : Mem, Fr ccL ο π → Y (b2i (pcO σ (stO σ) m (σ 15465 0) 0 tn false)) π) → f_Worths_passesNow (rIx (Fo σ)) (agO σ (stO σ) m) ο Y := fun ο tn Y iο hcο hY => by
      unfold f_Worths_passesNow
      rw [iο.today]
      have := c_passes iο (mt := m) (D := σ 15465 0) (G := agO σ (stO σ) m) hcο (cYes_Bd _ _ _ _ _ _) (cNo_Bd _ _ _ _ _ _) (cAll_Bd _ _ _ _) (cSec_Bd _ _ _ _ _ _) (bd_small hg.1 (by omega)) (bd_small hD.1 (by omega)) (K := fun r14 μ_1 => ∀ x25 : Int, x25 = (if r14 = true then 1 else 0) → Y x25 μ_1) (fun π fp x ex => by
        have e2 : ∀ b : Bool, (if b = true then (1 : Int) else 0) = b2i b := fun b => by cases b <;> rfl
        rw [ex, e2]
        exact hY π fp)
      rw [kd0] at this
      exact this
    refine ps ξ3 (-1) _ i3 hc (fun ξ4 f4 => ?_)
    have i4 := (f4.qt rfl).ic i3
    have f14 : Fr fdL ξ ξ4 := (((Fr.mono f1 rfl : Fr fdL ξ ξ1).trans (Fr.mono f2 rfl)).trans (Fr.mono f3 rfl)).trans (Fr.mono f4 rfl)
    have g14 : Fr (tkL ++ wgL ++ suL ++ ccL) ξ ξ4 := (((Fr.mono f1 rfl : Fr (tkL ++ wgL ++ suL ++ ccL) ξ ξ1).trans (Fr.mono f2 rfl)).trans (Fr.mono f3 rfl)).trans (Fr.mono f4 rfl)
    have vo4 : ∀ a : Int, 0 ≤ a → a < σ 15466 0 → rI ξ4 79 a = vo σ a m (σ 15465 0) := fun a a0 a1 => by rw [f4.rdI rfl, f3.rdI rfl]; exact hk2.2.2 a a0 a1
    have wt4 : ∀ a : Nat, (a : Int) < σ 15466 0 → rI ξ4 78 (a : Int) = wtT σ 0 (σ 15465 0) false a := fun a a1 => by rw [f4.rdI rfl, f3.rdI rfl]; exact hwt a a1
    have enow : b2i (pcO σ (stO σ) m (σ 15465 0) 0 (-1) false) = b2i (nwO σ m) := rfl
    rw [enow]
    have loop2 : ∀ (f i : Nat) (ο : Mem), (i : Int) + f = σ 15466 0 → Fr ([111] ++ suL ++ ccL) ξ4 ο → (∀ a n : Int, 0 ≤ a → a < σ 15466 0 → 0 ≤ n → n < m → rI ο 111 (a * 24 + n) = chO σ a n) → (∀ a : Int, 0 ≤ a → a < σ 15466 0 → rI ο 111 (a * 24 + m) = if a < i then chO σ a m else 2) →
        l_Worths_findChanges_86 m (rIx (Fo σ)) (agO σ (stO σ) m) (b2i (nwO σ m)) K (f + 1) (i : Int) ο := by
      intro f
      induction f with
      | zero =>
        intro i ο e fo d1 d2
        have iο := (fo.qt rfl).ic i4
        unfold l_Worths_findChanges_86
        have eo : rI ο 1136 0 = σ 15466 0 := iο.relR.1
        rw [eo]
        (try simp (disch := omega) only [w_id])
        rw [if_neg (by omega)]
        refine h ο (((Fr.mono fr rfl : Fr fdL ν ξ).trans f14).trans (Fr.mono fo rfl)) (fun a n a0 a1 n0 n1 => ?_)
        by_cases z : n = m
        · rw [z, d2 a a0 a1, if_pos (by omega)]
        · exact d1 a n a0 a1 n0 (by omega)
      | succ f ih =>
        intro i ο e fo d1 d2
        have iο := (fo.qt rfl).ic i4
        have eo : rI ο 1136 0 = σ 15466 0 := iο.relR.1
        have vv := vo4 (i : Int) (by omega) (by omega)
        have vr := vo_rng hI.wfR hI.wfT (i : Int) m (σ 15465 0)
        unfold l_Worths_findChanges_86 v_Count_voiceTaken
        rw [eo, at_in (by omega) (by omega) (by decide), fo.rdI rfl, vv]
        (try simp (disch := omega) only [w_id])
        rw [if_pos (by omega)]
        refine ite_i (fun q2 => ?_) (fun q2 => ?_)
        · have ec : chO σ (i : Int) m = 2 := by
            unfold chO
            rw [if_neg (fun z => z.2 q2)]
          have g := ih (i + 1) ο (by omega) fo d1 (fun a a0 a1 => by
            rw [d2 a a0 a1]
            by_cases z : a = i
            · rw [z, if_neg (by omega), if_pos (by omega), ec]
            · by_cases y : a < i
              · rw [if_pos y, if_pos (by omega)]
              · rw [if_neg y, if_neg (by omega)])
          exact g
        · have ec : chO σ (i : Int) m = b2i (thO σ (i : Int) m) - b2i (nwO σ m) := by
            unfold chO
            rw [if_pos ⟨q, q2⟩]
          refine c_sumUp2 iο (mt := m) (kn := σ 15465 0) (how := 0) (an := false) (by decide) (tn := (i : Int)) ⟨by omega, by omega⟩ (fun a a0 a1 => by rw [fo.rdI rfl]; exact vo4 a a0 a1) (fun a a1 => by rw [fo.rdI rfl]; exact wt4 a a1) (fun ο2 fo2 hc2 => ?_)
          have iο2 := (fo2.qt rfl).ic iο
          refine ps ο2 (i : Int) _ iο2 hc2 (fun ο3 fo3 μ11 e11 => ?_)
          rw [set_in (by omega) (by omega) (by decide)] at e11
          have et : b2i (pcO σ (stO σ) m (σ 15465 0) 0 (i : Int) false) = b2i (thO σ (i : Int) m) := rfl
          rw [et] at e11
          have b1 : b2i (thO σ (i : Int) m) = 0 ∨ b2i (thO σ (i : Int) m) = 1 := by cases thO σ (i : Int) m <;> decide
          have b2 : b2i (nwO σ m) = 0 ∨ b2i (nwO σ m) = 1 := by cases nwO σ m <;> decide
          have f3' : Fr (suL ++ ccL) ο ο3 := (Fr.mono fo2 rfl).trans (Fr.mono fo3 rfl)
          have g := ih (i + 1) μ11 (by omega) (by rw [e11]; exact (fo.trans (Fr.mono f3' rfl)).wI (by decide)) (fun a n a0 a1 n0 n1 => by rw [e11, rI_sI, if_neg (fun z => by omega), f3'.rdI rfl]; exact d1 a n a0 a1 n0 n1) (fun a a0 a1 => by
            rw [e11, rI_sI]
            by_cases z : a = i
            · rw [if_pos ⟨rfl, by omega⟩, z, if_pos (by omega), ec, w_id (by omega) (by omega)]
            · rw [if_neg (fun y => by omega), f3'.rdI rfl, d2 a a0 a1]
              by_cases y : a < i
              · rw [if_pos y, if_pos (by omega)]
              · rw [if_neg y, if_neg (by omega)])
          exact g
    exact ⟨(σ 15466 0).toNat + 1, loop2 _ 0 ξ4 (by omega) (FrP.refl _ _) (fun a n a0 a1 n0 n1 => by rw [g14.rdI rfl]; exact c1 a n a0 a1 n0 n1) (fun a a0 a1 => by rw [if_neg (by omega), g14.rdI rfl]; exact c2 a a0 a1)⟩
  · refine h ξ (Fr.mono fr rfl) (fun a n a0 a1 n0 n1 => ?_)
    by_cases z : n = m
    · rw [z, c2 a a0 a1]
      unfold chO
      rw [if_neg (fun y => q y.1)]
    · exact c1 a n a0 a1 n0 (by omega)
def D0 : Dl := (0, 0, 0, 0, 0, 0)
theorem D0_w : DlW D0 := by unfold DlW D0; decide
def dFin (σ : Sg) : Dl := dA σ D0 (σ 15466 0).toNat
def cdeL : List Nat := fdL ++ [112]
theorem c_findDeal {σ : Sg} {μ : Mem} (hI : Ic σ μ) {K : Bool → Mem → Prop} (h : ∀ ξ : Mem, Fr cdeL μ ξ → DlC ξ 112 (dFin σ) → K (decide (0 < (dFin σ).2.2.2.2.1)) ξ) : f_Worths_findDeal μ K := by
  have hct := hI.cnt
  have hA := hI.wfR.1
  have hWr := hI.2.2.2.2.2.2.2.1
  have loop : ∀ (X : Mem → Prop), (∀ ξ : Mem, Fr fdL μ ξ → CgT σ ξ (σ 15472 0) → X ξ) → ∀ (f i : Nat) (ξ : Mem), (i : Int) + f = σ 15472 0 → Fr fdL μ ξ → CgT σ ξ (i : Int) → l_Worths_findDeal_2 X (f + 1) (i : Int) ξ := by
    intro X hX f
    induction f with
    | zero =>
      intro i ξ e fr ht
      have iξ := (fr.qt rfl).ic hI
      have eM : rI ξ 2543 0 = σ 15472 0 := iξ.relP.1
      unfold l_Worths_findDeal_2
      rw [eM]
      (try simp (disch := omega) only [w_id])
      rw [if_neg (by omega)]
      rw [show (i : Int) = σ 15472 0 by omega] at ht
      exact hX ξ fr ht
    | succ f ih =>
      intro i ξ e fr ht
      have iξ := (fr.qt rfl).ic hI
      have eM : rI ξ 2543 0 = σ 15472 0 := iξ.relP.1
      unfold l_Worths_findDeal_2
      rw [eM]
      (try simp (disch := omega) only [w_id])
      rw [if_pos (by omega)]
      refine c_findChanges hI (fr.qt rfl) ⟨by omega, by omega⟩ ht (fun ο fo ho => ?_)
      have g := ih (i + 1) ο (by omega) (fr.trans fo) ho
      exact g
  unfold f_Worths_findDeal
  refine ⟨(σ 15472 0).toNat + 1, loop _ (fun ξ fr ht => ?_) (σ 15472 0).toNat 0 μ (by omega) (FrP.refl _ _) (fun a m _ _ m0 m1 => by omega)⟩
  refine c_fill (by decide) (fun ξ2 f2 v2 => ?_)
  have fr2 : Fr cdeL μ ξ2 := (Fr.mono fr rfl).trans (Fr.mono f2 rfl)
  have i2 := (fr2.qt rfl).ic hI
  have hd : DeC σ ξ2 := ⟨fun j j0 j1 => (hWr j j0 j1).2, fun j j0 j1 => by
      have := (i2.2.2.2.2.2.2.2.1 j j0 j1).1
      rw [cr' rfl]
      exact this, fun a m a0 a1 m0 m1 => by rw [f2.rdI rfl]; exact ht a m a0 a1 m0 m1, ⟨by omega, hA.2⟩, ⟨hct.1, hct.2.1⟩, i2.relR.1, i2.relP.1⟩
  have d0 : DlC ξ2 112 D0 := ⟨v2 0 (by decide) (by decide), v2 1 (by decide) (by decide), v2 2 (by decide) (by decide), v2 3 (by decide) (by decide), v2 4 (by decide) (by decide), v2 5 (by decide) (by decide)⟩
  refine ⟨(σ 15466 0).toNat + 1, c_deal34 D0_w (ν0 := ξ2) (fun ξ3 f3 d3 => ?_) (σ 15466 0).toNat 0 ξ2 (by omega) hd (FrP.refl _ _) d0⟩
  intro x ex
  have dw := dA_w hd.W hd.M.2 hA.2 D0_w (σ 15466 0).toNat (by omega)
  have d3' : DlC ξ3 112 (dFin σ) := d3
  have dw' : DlW (dFin σ) := dw
  obtain ⟨-, -, -, -, w5, w6⟩ := id dw'
  rw [at_in (by decide) (by decide) (by decide), d3'.2.2.2.2.1] at ex
  (try simp (disch := omega) only [w_id] at ex)
  have e : x = decide (0 < (dFin σ).2.2.2.2.1) := by
    rw [ex]
    by_cases z : 0 < (dFin σ).2.2.2.2.1
    · rw [if_pos z, decide_eq_true z]
    · rw [if_neg z, decide_eq_false z]
  rw [e]
  exact h ξ3 (fr2.trans (Fr.mono f3 rfl)) d3'
