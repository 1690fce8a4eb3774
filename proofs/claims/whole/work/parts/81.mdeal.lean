/-! THE DEAL, the model's side, and both -/
theorem chO_2 {σ : Sg} {a m : Int} : chO σ a m = 2 ↔ ¬ tuO σ a m := by
  unfold chO
  by_cases z : tuO σ a m
  · rw [if_pos z]
    refine ⟨fun e => ?_, fun y => absurd z y⟩
    exfalso
    revert e
    cases thO σ a m <;> cases nwO σ m <;> decide
  · rw [if_neg z]
    exact ⟨fun _ => z, fun _ => rfl⟩
def turnL : List Nat := fcL ++ mpL ++ [170, 172, 171]
def TuM (σ : Sg) (ν : Mem) (k : Int) : Prop := ∀ m : Int, 0 ≤ m → m < k → σ 122 m = 0 → rB ν 170 m = nwO σ m ∧ ∀ a : Int, 0 ≤ a → a < σ 15466 0 → rB ν 172 (24 * a + m) = decide (¬ vo σ a m (σ 15465 0) = 2) ∧ (¬ vo σ a m (σ 15465 0) = 2 → rB ν 171 (24 * a + m) = thO σ a m)
theorem rB_sB (μ : Mem) (c : Nat) (j : Int) (b : Bool) (q : Nat) (i : Int) : rB (sB μ c j b) q i = if q = c ∧ i = j then b else rB μ q i := by
  rw [rB_rI, rI_sB]
  by_cases z : q = c ∧ i = j
  · rw [if_pos z, if_pos z]; cases b <;> rfl
  · rw [if_neg z, if_neg z, rB_rI]
theorem Fr.rdB {L : List Nat} {μ ν : Mem} (f : Fr L μ ν) {q : Nat} {j : Int} (h : lel L q = false) : rB ν q j = rB μ q j := by
  rw [rB_rI, rB_rI, f.rdI h]
theorem m_findTurns {σ : Sg} {μ : Mem} (hv : Ic σ μ) {ο : Mem} (hο : MS ο = σ) {K : Mem → Prop} (h : ∀ ξ : Mem, Fr turnL ο ξ → TuM σ ξ (σ 15472 0) → K ξ) : f_M_findTurns ο K := by
  have hct := hv.cnt
  have hA := hv.wfR.1
  have hD := hv.wfR.2.2.2.1
  have eA : ∀ {ξ : Mem}, Fr turnL ο ξ → rI ξ 15466 0 = σ 15466 0 := fun f => by rw [mr rfl, f.ms rfl, hο]
  have mw : ∀ (ξ : Mem) (m tn : Int) (Y : Bool → Mem → Prop), MS ξ = σ → 0 ≤ m → m < σ 15472 0 → Rg tn → (∀ π : Mem, Fr (fcL ++ mpL) ξ π → Y (pcO σ (stO σ) m (σ 15465 0) 0 tn false) π) → f_M_wouldPass m 0 tn 129 61 ξ Y := fun ξ m tn Y eM m0 m1 ht hY => by
    refine m_wouldPass (by unfold QM; rw [eM]; exact hv.qm) (by rw [eM]; exact hv.rw) (by rw [eM]; unfold isMt; exact Or.inl ⟨m0, m1⟩) ⟨by decide, by decide⟩ ht rfl (fun n n1 n2 => ?_) (fun π fp => ?_)
    · have := hv.stand n1 n2
      have e : rI ξ 129 (n : Int) = σ 129 (n : Int) := by rw [← eM]; rfl
      rw [e]
      exact ⟨this.1, this.2.1⟩
    · have e : (fun k => rI ξ 129 k) = stO σ := by rw [← eM]; rfl
      rw [eM, e]
      exact hY π fp
  have loop : ∀ (f i : Nat) (ξ : Mem), (i : Int) + f = σ 15472 0 → Fr turnL ο ξ → TuM σ ξ (i : Int) → l_M_findTurns_2 K (f + 1) (i : Int) ξ := by
    intro f
    induction f with
    | zero =>
      intro i ξ e fr ht
      have eM : MS ξ = σ := (fr.ms rfl).trans hο
      unfold l_M_findTurns_2
      rw [mr (q := 15472) rfl, eM]
      (try simp (disch := omega) only [w_id])
      rw [if_neg (by omega)]
      rw [show (i : Int) = σ 15472 0 by omega] at ht
      exact h ξ fr ht
    | succ f ih =>
      intro i ξ e fr ht
      have eM : MS ξ = σ := (fr.ms rfl).trans hο
      have hr := MS_rng ξ 122 (i : Int)
      rw [eM] at hr
      unfold l_M_findTurns_2
      rw [mr (q := 15472) rfl, eM]
      (try simp (disch := omega) only [w_id])
      rw [if_pos (by omega), mr (q := 122) rfl, eM]
      (try simp (disch := omega) only [w_id])
      refine ⟨by omega, by omega, ite_i (fun q => ?_) (fun q => ?_)⟩
      · refine mw ξ (i : Int) (-1) _ eM (by omega) (by omega) ⟨by decide, by decide⟩ (fun ξ2 f2 => ⟨by omega, by omega, fun μ3 e3 => ?_⟩)
        have en : pcO σ (stO σ) (i : Int) (σ 15465 0) 0 (-1) false = nwO σ (i : Int) := rfl
        rw [en] at e3
        have f3 : Fr turnL ξ μ3 := by rw [e3]; exact (Fr.mono f2 rfl : Fr turnL ξ ξ2).wB (by decide)
        have g3 : Fr (fcL ++ mpL ++ [170]) ξ μ3 := by rw [e3]; exact (Fr.mono f2 rfl : Fr (fcL ++ mpL ++ [170]) ξ ξ2).wB (by decide)
        have n3 : ∀ m : Int, 0 ≤ m → m ≤ i → σ 122 m = 0 → rB μ3 170 m = nwO σ m := fun m m0 m1 hm => by
          rw [e3, rB_sB]
          by_cases z : m = i
          · rw [if_pos ⟨rfl, z⟩, z]
          · rw [if_neg (fun y => z y.2), f2.rdB rfl]
            exact (ht m m0 (by omega) hm).1
        have t3 : ∀ m : Int, 0 ≤ m → m < i → σ 122 m = 0 → ∀ a : Int, 0 ≤ a → a < σ 15466 0 → rB μ3 172 (24 * a + m) = decide (¬ vo σ a m (σ 15465 0) = 2) ∧ (¬ vo σ a m (σ 15465 0) = 2 → rB μ3 171 (24 * a + m) = thO σ a m) := fun m m0 m1 hm a a0 a1 => by
          rw [g3.rdB rfl, g3.rdB rfl]
          exact (ht m m0 m1 hm).2 a a0 a1
        clear e3
        have loop2 : ∀ (f2 a : Nat) (π : Mem), (a : Int) + f2 = σ 15466 0 → Fr turnL ο π → (∀ m : Int, 0 ≤ m → m ≤ i → σ 122 m = 0 → rB π 170 m = nwO σ m) →
            (∀ m : Int, 0 ≤ m → m ≤ i → σ 122 m = 0 → ∀ b : Int, 0 ≤ b → b < σ 15466 0 → (m < i ∨ b < a) → rB π 172 (24 * b + m) = decide (¬ vo σ b m (σ 15465 0) = 2) ∧ (¬ vo σ b m (σ 15465 0) = 2 → rB π 171 (24 * b + m) = thO σ b m)) →
            l_M_findTurns_41 (i : Int) (fun (μ_10 : Mem) => l_M_findTurns_2 K (f + 1) ((i : Int) + 1) μ_10) (f2 + 1) (a : Int) π := by
          intro f2
          induction f2 with
          | zero =>
            intro a π ea fp pn pt
            unfold l_M_findTurns_41
            rw [eA fp]
            (try simp (disch := omega) only [w_id])
            rw [if_neg (by omega)]
            have g := ih (i + 1) π (by omega) fp (fun m m0 m1 hm => ⟨pn m m0 (by omega) hm, fun b b0 b1 => pt m m0 (by omega) hm b b0 b1 (Or.inr (by omega))⟩)
            exact g
          | succ f2 ih2 =>
            intro a π ea fp pn pt
            have eP : MS π = σ := (fp.ms rfl).trans hο
            have vr := vo_rng hv.wfR hv.wfT (a : Int) (i : Int) (σ 15465 0)
            unfold l_M_findTurns_41
            rw [eA fp, mr (q := 15465) rfl, eP]
            (try simp (disch := omega) only [w_id])
            rw [if_pos (by omega)]
            refine m_voiceOf ⟨by omega, by omega⟩ ⟨by omega, by omega⟩ ⟨by omega, by omega⟩ (by rw [eP]; exact hv.wfR) (by rw [eP]; exact hv.wfT) ?_
            rw [eP]
            intro x ex
            (try simp (disch := omega) only [w_id] at ex)
            have ex' : x = decide (¬ vo σ (a : Int) (i : Int) (σ 15465 0) = 2) := by
              rw [ex]
              by_cases z : vo σ (a : Int) (i : Int) (σ 15465 0) = 2
              · rw [if_pos z, decide_eq_false (fun y => y z)]
              · rw [if_neg z, decide_eq_true z]
            clear ex
            refine ⟨by omega, by omega, fun μ6 e6 => ⟨by omega, by omega, ?_⟩⟩
            have h6 : rB μ6 172 (24 * (a : Int) + (i : Int)) = x := by rw [e6, rB_sB, if_pos ⟨rfl, rfl⟩]
            have f6 : Fr turnL ο μ6 := by rw [e6]; exact fp.wB (by decide)
            have g6 : Fr [172] π μ6 := by rw [e6]; exact (FrP.refl _ _).wB (by decide)
            have t6 : ∀ b m : Int, 0 ≤ b → 0 ≤ m → m ≤ i → ¬ (b = a ∧ m = i) → rB μ6 172 (24 * b + m) = rB π 172 (24 * b + m) := fun b m b0 m0 m1 z => by
              rw [e6, rB_sB, if_neg (fun y => by omega)]
            clear e6
            have fin : ∀ (μ8 : Mem) (y : Bool) (π2 : Mem), Fr (fcL ++ mpL) μ6 π2 → μ8 = sB π2 171 (24 * (a : Int) + (i : Int)) y → (¬ vo σ (a : Int) (i : Int) (σ 15465 0) = 2 → y = thO σ (a : Int) (i : Int)) → l_M_findTurns_41 (i : Int) (fun (μ_10 : Mem) => l_M_findTurns_2 K (f + 1) ((i : Int) + 1) μ_10) (f2 + 1) ((a : Int) + 1) μ8 := fun μ8 y π2 fq e8 hy => by
              have f8 : Fr turnL ο μ8 := by rw [e8]; exact (f6.trans (Fr.mono fq rfl)).wB (by decide)
              have g := ih2 (a + 1) μ8 (by omega) f8 (fun m m0 m1 hm => by
                rw [e8, rB_sB, if_neg (by simp), fq.rdB rfl, g6.rdB rfl]
                exact pn m m0 m1 hm) (fun m m0 m1 hm b b0 b1 hb => by
                rw [e8, rB_sB, if_neg (by simp), fq.rdB rfl, rB_sB]
                by_cases z : b = a ∧ m = i
                · rw [z.1, z.2, h6, ex', if_pos ⟨rfl, rfl⟩]
                  exact ⟨rfl, hy⟩
                · rw [t6 b m b0 m0 m1 z, if_neg (fun w' => by omega), fq.rdB rfl, g6.rdB rfl]
                  exact pt m m0 m1 hm b b0 b1 (by omega))
              exact g
            rw [h6]
            refine ite_i (fun q6 => ?_) (fun q6 => ⟨by omega, by omega, fun μ9 e9 => ?_⟩)
            · refine mw μ6 (i : Int) (a : Int) _ ((f6.ms rfl).trans hο) (by omega) (by omega) ⟨by omega, by omega⟩ (fun π2 fq y ey => ⟨by omega, by omega, fun μ8 e8 => ?_⟩)
              refine fin μ8 y π2 fq e8 (fun _ => ?_)
              rw [ey]
              have et : pcO σ (stO σ) (i : Int) (σ 15465 0) 0 (a : Int) false = thO σ (a : Int) (i : Int) := rfl
              rw [et]
              cases thO σ (a : Int) (i : Int) <;> rfl
            · refine fin μ9 false μ6 (FrP.refl _ _) e9 (fun z => ?_)
              rw [ex', decide_eq_true z] at q6
              exact absurd rfl q6
        exact ⟨(σ 15466 0).toNat + 1, loop2 _ 0 μ3 (by omega) (fr.trans f3) n3 (fun m m0 m1 hm b b0 b1 hb => t3 m m0 (by omega) hm b b0 b1)⟩
      · have g := ih (i + 1) ξ (by omega) fr (fun m m0 m1 hm => by
          by_cases z : m = i
          · rw [z] at hm; exact absurd hm q
          · exact ht m m0 (by omega) hm)
        exact g
  unfold f_M_findTurns
  exact ⟨(σ 15472 0).toNat + 1, loop _ 0 ο (by omega) (FrP.refl _ _) (fun m m0 m1 _ => by omega)⟩
def DeM (σ : Sg) (ν : Mem) : Prop := MS ν = σ ∧ WoB σ ∧ TuM σ ν (σ 15472 0) ∧ (0 ≤ σ 15466 0 ∧ σ 15466 0 ≤ 12) ∧ (0 ≤ σ 15472 0 ∧ σ 15472 0 ≤ 24)
theorem DeM.fr {σ : Sg} {ν ξ : Mem} (h : DeM σ ν) (f : Fr [173] ν ξ) : DeM σ ξ :=
  ⟨(f.ms rfl).trans h.1, h.2.1, fun m m0 m1 hm => by
    rw [f.rdB rfl]
    exact ⟨(h.2.2.1 m m0 m1 hm).1, fun a a0 a1 => by rw [f.rdB rfl, f.rdB rfl]; exact (h.2.2.1 m m0 m1 hm).2 a a0 a1⟩, h.2.2.2⟩
theorem m_gain {σ : Sg} {ν : Mem} (hd : DeM σ ν) {x y m : Int} (hx : 0 ≤ x ∧ x < σ 15466 0) (hy : 0 ≤ y ∧ y < σ 15466 0) (hm : 0 ≤ m ∧ m < σ 15472 0) (ht : tuO σ y m) {K : Int → Mem → Prop} (h : K (woO σ x m * chO σ y m) ν) : f_M_gain x y m ν K := by
  obtain ⟨eM, hW, hT, hA, hM⟩ := hd
  obtain ⟨t1, t2⟩ := hT m hm.1 hm.2 ht.1
  have t3 := (t2 y hy.1 hy.2).2 ht.2
  have ew : rI ν 166 (24 * x + m) = woO σ x m := by
    rw [mr rfl, eM, show 24 * x + m = x * 24 + m by omega]
    rfl
  unfold f_M_gain
  (try simp (disch := omega) only [w_id])
  refine ⟨by omega, by omega, fun v4 e4 => ⟨by omega, by omega, fun x33 e33 => ⟨by omega, by omega, fun x48 e48 => ?_⟩⟩⟩
  rw [ew] at e4
  rw [t3] at e33
  rw [t1] at e48
  have e : x33 - x48 = woO σ x m * chO σ y m := by
    unfold chO
    rw [if_pos ht, e33, e48, e4]
    cases thO σ y m <;> cases nwO σ m <;> simp [b2i] <;> omega
  rw [e]
  exact h
def bsD (D : Dl) : Int := D.2.2.2.2.1 + D.2.2.2.2.2
theorem m_deal71 {σ : Sg} {a b m : Int} (ha : 0 ≤ a ∧ a < σ 15466 0) (hb : 0 ≤ b ∧ b < σ 15466 0) (hm : 0 ≤ m ∧ m < σ 15472 0) (htm : tuO σ a m) {D : Dl} (hD : DlW D) {ν0 : Mem} {X : Int → Mem → Prop} (h : ∀ ξ : Mem, Fr [173] ν0 ξ → (0 < bsD (dN σ a b m D (σ 15472 0).toNat) → DlC ξ 173 (dN σ a b m D (σ 15472 0).toNat)) → X (bsD (dN σ a b m D (σ 15472 0).toNat)) ξ) :
    ∀ (f i : Nat) (ν : Mem), (i : Int) + f = σ 15472 0 → DeM σ ν → Fr [173] ν0 ν → (0 < bsD (dN σ a b m D i) → DlC ν 173 (dN σ a b m D i)) → l_M_findDeal_71 a b m X (f + 1) (bsD (dN σ a b m D i)) (i : Int) ν
  | 0, i, ν, e, hd, fr, dc => by
    have hM := hd.2.2.2.2
    unfold l_M_findDeal_71
    rw [mr (q := 15472) rfl, hd.1]
    (try simp (disch := omega) only [w_id])
    rw [if_neg (by omega)]
    rw [show i = (σ 15472 0).toNat by omega] at dc ⊢
    exact h ν fr dc
  | f + 1, i, ν, e, hd, fr, dc => by
    have hM := hd.2.2.2.2
    have hA := hd.2.2.2.1
    have hW := hd.2.1
    have st : dN σ a b m D (i + 1) = if (i : Int) = m ∨ chO σ b (i : Int) = 2 then dN σ a b m D i else dStp σ a b m (i : Int) (dN σ a b m D i) := rfl
    have dw := dN_w hW (a := a) (b := b) (m := m) ⟨by omega, by omega⟩ ⟨by omega, by omega⟩ ⟨by omega, by omega⟩ hD i (by omega)
    have hr := MS_rng ν 122 (i : Int)
    rw [hd.1] at hr
    have skip : ((i : Int) = m ∨ chO σ b (i : Int) = 2) → l_M_findDeal_71 a b m X (f + 1) (bsD (dN σ a b m D i)) ((i : Int) + 1) ν := fun z => by
      rw [if_pos z] at st
      have g := m_deal71 ha hb hm htm hD h f (i + 1) ν (by omega) hd fr (by rw [st]; exact dc)
      rw [st] at g
      exact g
    unfold l_M_findDeal_71
    rw [mr (q := 15472) rfl, hd.1]
    (try simp (disch := omega) only [w_id])
    rw [if_pos (by omega)]
    refine ite_i (fun q => skip (Or.inl q)) (fun q => ⟨by omega, by omega, ?_⟩)
    rw [mr (q := 122) rfl, hd.1]
    (try simp (disch := omega) only [w_id])
    refine ite_i (fun q2 => ⟨by omega, by omega, ?_⟩) (fun q2 => skip (Or.inr (chO_2.mpr (fun z => q2 z.1))))
    rw [((hd.2.2.1 (i : Int) (by omega) (by omega) q2).2 b hb.1 hb.2).1]
    refine ite_i (fun q3 => ?_) (fun q3 => skip (Or.inr (chO_2.mpr (fun z => q3 (decide_eq_true z.2)))))
    have tn : tuO σ b (i : Int) := ⟨q2, of_decide_eq_true q3⟩
    have gr := gO_rng hW (a := a) (b := b) (m := m) (n := (i : Int)) ⟨by omega, by omega⟩ ⟨by omega, by omega⟩ ⟨by omega, by omega⟩ ⟨by omega, by omega⟩
    refine m_gain hd ha ha hm htm (m_gain hd ha hb ⟨by omega, by omega⟩ tn (fun v6 e6 => m_gain hd hb ha hm htm (m_gain hd hb hb ⟨by omega, by omega⟩ tn (fun v7 e7 => ?_))))
    have e6' : v6 = g1O σ a b m (i : Int) := e6
    have e7' : v7 = g2O σ a b m (i : Int) := e7
    have db : 0 ≤ bsD (dN σ a b m D i) ∧ bsD (dN σ a b m D i) ≤ 72 := by
      obtain ⟨d1, d2, d3, d4, d5, d6⟩ := dw
      unfold bsD
      omega
    rw [if_neg (fun z => z.elim q (fun y => chO_2.mp y tn))] at st
    have dw2 := dStp_w hW (a := a) (b := b) (m := m) (n := (i : Int)) ⟨by omega, by omega⟩ ⟨by omega, by omega⟩ ⟨by omega, by omega⟩ ⟨by omega, by omega⟩ dw
    have same : ¬ (0 < g1O σ a b m (i : Int) ∧ 0 < g2O σ a b m (i : Int) ∧ bsD (dN σ a b m D i) < g1O σ a b m (i : Int) + g2O σ a b m (i : Int)) → l_M_findDeal_71 a b m X (f + 1) (bsD (dN σ a b m D i)) ((i : Int) + 1) ν := fun z => by
      have es : dStp σ a b m (i : Int) (dN σ a b m D i) = dN σ a b m D i := by
        unfold dStp
        exact if_neg z
      rw [es] at st
      have g := m_deal71 ha hb hm htm hD h f (i + 1) ν (by omega) hd fr (by rw [st]; exact dc)
      rw [st] at g
      exact g
    (try simp (disch := omega) only [w_id])
    refine ite_i (fun q4 => ite_i (fun q5 => ite_i (fun q6 => ?_) (fun q6 => same (fun z => by omega))) (fun q5 => same (fun z => by omega))) (fun q4 => same (fun z => by omega))
    intro v1 ev1 μ10 x10 μ11 x11 μ12 x12 μ13 x13 μ14 x14 μ15 x15
    have es : dStp σ a b m (i : Int) (dN σ a b m D i) = (a, b, m, (i : Int), v6, v7) := by
      unfold dStp
      rw [if_pos ⟨by omega, by omega, by have := q6; unfold bsD at this; omega⟩, e6', e7']
    rw [es] at st dw2
    have f15 : Fr [173] ν μ15 := by rw [x15, x14, x13, x12, x11, x10]; exact ((((((FrP.refl _ _).wI (by decide)).wI (by decide)).wI (by decide)).wI (by decide)).wI (by decide)).wI (by decide)
    have d15 : DlC μ15 173 (a, b, m, (i : Int), v6, v7) := DlC.six (D := (a, b, m, (i : Int), v6, v7)) dw2 (by rw [x15, x14, x13, x12, x11, x10])
    have g := m_deal71 ha hb hm htm hD h f (i + 1) μ15 (by omega) (hd.fr f15) (fr.trans f15) (fun _ => by rw [st]; exact d15)
    rw [st] at g
    rw [ev1]
    exact g
theorem m_deal31 {σ : Sg} {a b : Int} (ha : 0 ≤ a ∧ a < σ 15466 0) (hb : 0 ≤ b ∧ b < σ 15466 0) {D : Dl} (hD : DlW D) {ν0 : Mem} {X : Int → Mem → Prop} (h : ∀ ξ : Mem, Fr [173] ν0 ξ → (0 < bsD (dM σ a b D (σ 15472 0).toNat) → DlC ξ 173 (dM σ a b D (σ 15472 0).toNat)) → X (bsD (dM σ a b D (σ 15472 0).toNat)) ξ) :
    ∀ (f i : Nat) (ν : Mem), (i : Int) + f = σ 15472 0 → DeM σ ν → Fr [173] ν0 ν → (0 < bsD (dM σ a b D i) → DlC ν 173 (dM σ a b D i)) → l_M_findDeal_31 a b X (f + 1) (bsD (dM σ a b D i)) (i : Int) ν
  | 0, i, ν, e, hd, fr, dc => by
    have hM := hd.2.2.2.2
    unfold l_M_findDeal_31
    rw [mr (q := 15472) rfl, hd.1]
    (try simp (disch := omega) only [w_id])
    rw [if_neg (by omega)]
    rw [show i = (σ 15472 0).toNat by omega] at dc ⊢
    exact h ν fr dc
  | f + 1, i, ν, e, hd, fr, dc => by
    have hM := hd.2.2.2.2
    have hA := hd.2.2.2.1
    have st : dM σ a b D (i + 1) = if chO σ a (i : Int) = 2 then dM σ a b D i else dN σ a b (i : Int) (dM σ a b D i) (σ 15472 0).toNat := rfl
    have dw := dM_w hd.2.1 hM.2 (a := a) (b := b) ⟨by omega, by omega⟩ ⟨by omega, by omega⟩ hD i (by omega)
    have hr := MS_rng ν 122 (i : Int)
    rw [hd.1] at hr
    have skip : chO σ a (i : Int) = 2 → l_M_findDeal_31 a b X (f + 1) (bsD (dM σ a b D i)) ((i : Int) + 1) ν := fun z => by
      rw [if_pos z] at st
      have g := m_deal31 ha hb hD h f (i + 1) ν (by omega) hd fr (by rw [st]; exact dc)
      rw [st] at g
      exact g
    unfold l_M_findDeal_31
    rw [mr (q := 15472) rfl, hd.1]
    (try simp (disch := omega) only [w_id])
    rw [if_pos (by omega)]
    refine ⟨by omega, by omega, ?_⟩
    rw [mr (q := 122) rfl, hd.1]
    (try simp (disch := omega) only [w_id])
    refine ite_i (fun q2 => ⟨by omega, by omega, ?_⟩) (fun q2 => skip (chO_2.mpr (fun z => q2 z.1)))
    rw [((hd.2.2.1 (i : Int) (by omega) (by omega) q2).2 a ha.1 ha.2).1]
    refine ite_i (fun q3 => ?_) (fun q3 => skip (chO_2.mpr (fun z => q3 (decide_eq_true z.2))))
    have tn : tuO σ a (i : Int) := ⟨q2, of_decide_eq_true q3⟩
    rw [if_neg (fun y => chO_2.mp y tn)] at st
    refine ⟨(σ 15472 0).toNat + 1, m_deal71 ha hb ⟨by omega, by omega⟩ tn dw (ν0 := ν) (fun ξ fx dx => ?_) (σ 15472 0).toNat 0 ν (by omega) hd (FrP.refl _ _) dc⟩
    have g := m_deal31 ha hb hD h f (i + 1) ξ (by omega) (hd.fr fx) (fr.trans fx) (by rw [st]; exact dx)
    rw [st] at g
    exact g
theorem m_deal20 {σ : Sg} {a : Int} (ha : 0 ≤ a ∧ a < σ 15466 0) {D : Dl} (hD : DlW D) {ν0 : Mem} {X : Int → Mem → Prop} (h : ∀ ξ : Mem, Fr [173] ν0 ξ → (0 < bsD (dB σ a D (σ 15466 0 - a - 1).toNat) → DlC ξ 173 (dB σ a D (σ 15466 0 - a - 1).toNat)) → X (bsD (dB σ a D (σ 15466 0 - a - 1).toNat)) ξ) :
    ∀ (f i : Nat) (ν : Mem), a + 1 + (i : Int) + f = σ 15466 0 → DeM σ ν → Fr [173] ν0 ν → (0 < bsD (dB σ a D i) → DlC ν 173 (dB σ a D i)) → l_M_findDeal_20 a X (f + 1) (bsD (dB σ a D i)) (a + 1 + (i : Int)) ν
  | 0, i, ν, e, hd, fr, dc => by
    have hA := hd.2.2.2.1
    unfold l_M_findDeal_20
    rw [mr (q := 15466) rfl, hd.1]
    (try simp (disch := omega) only [w_id])
    rw [if_neg (by omega)]
    rw [show i = (σ 15466 0 - a - 1).toNat by omega] at dc ⊢
    exact h ν fr dc
  | f + 1, i, ν, e, hd, fr, dc => by
    have hA := hd.2.2.2.1
    have hM := hd.2.2.2.2
    have dw := dB_w hd.2.1 hM.2 (a := a) ha.1 hD i (by omega)
    unfold l_M_findDeal_20
    rw [mr (q := 15466) rfl, hd.1]
    (try simp (disch := omega) only [w_id])
    rw [if_pos (by omega)]
    refine ⟨(σ 15472 0).toNat + 1, m_deal31 ha (b := a + 1 + (i : Int)) ⟨by omega, by omega⟩ dw (ν0 := ν) (fun ξ fx dx => ?_) (σ 15472 0).toNat 0 ν (by omega) hd (FrP.refl _ _) dc⟩
    have g := m_deal20 ha hD h f (i + 1) ξ (by omega) (hd.fr fx) (fr.trans fx) dx
    rw [show a + 1 + ((i + 1 : Nat) : Int) = a + 1 + (i : Int) + 1 by omega] at g
    exact g
theorem m_deal8 {σ : Sg} {D : Dl} (hD : DlW D) {ν0 : Mem} {X : Int → Mem → Prop} (h : ∀ ξ : Mem, Fr [173] ν0 ξ → (0 < bsD (dA σ D (σ 15466 0).toNat) → DlC ξ 173 (dA σ D (σ 15466 0).toNat)) → X (bsD (dA σ D (σ 15466 0).toNat)) ξ) :
    ∀ (f i : Nat) (ν : Mem), (i : Int) + f = σ 15466 0 → DeM σ ν → Fr [173] ν0 ν → (0 < bsD (dA σ D i) → DlC ν 173 (dA σ D i)) → l_M_findDeal_8 X (f + 1) (bsD (dA σ D i)) (i : Int) ν
  | 0, i, ν, e, hd, fr, dc => by
    have hA := hd.2.2.2.1
    unfold l_M_findDeal_8
    rw [mr (q := 15466) rfl, hd.1]
    (try simp (disch := omega) only [w_id])
    rw [if_neg (by omega)]
    rw [show i = (σ 15466 0).toNat by omega] at dc ⊢
    exact h ν fr dc
  | f + 1, i, ν, e, hd, fr, dc => by
    have hA := hd.2.2.2.1
    have hM := hd.2.2.2.2
    have dw := dA_w hd.2.1 hM.2 hA.2 hD i (by omega)
    unfold l_M_findDeal_8
    rw [mr (q := 15466) rfl, hd.1]
    (try simp (disch := omega) only [w_id])
    rw [if_pos (by omega)]
    have go := m_deal20 (σ := σ) (a := (i : Int)) ⟨by omega, by omega⟩ dw (ν0 := ν) (X := fun (v1_7 : Int) (μ_18 : Mem) => l_M_findDeal_8 X (f + 1) v1_7 ((i : Int) + 1) μ_18) (fun ξ fx dx => by
      have g := m_deal8 hD h f (i + 1) ξ (by omega) (hd.fr fx) (fr.trans fx) dx
      exact g) f 0 ν (by omega) hd (FrP.refl _ _) dc
    rw [show (i : Int) + 1 + ((0 : Nat) : Int) = (i : Int) + 1 by omega] at go
    exact ⟨f + 1, go⟩
theorem bsD_pos {D : Dl} (hD : DlW D) (hz : D.2.2.2.2.1 = 0 ↔ D.2.2.2.2.2 = 0) : decide (0 < bsD D) = decide (0 < D.2.2.2.2.1) := by
  obtain ⟨-, -, -, -, d5, d6⟩ := hD
  rw [decide_eq_decide]
  unfold bsD
  omega
def DlZ (D : Dl) : Prop := D.2.2.2.2.1 = 0 ↔ D.2.2.2.2.2 = 0
theorem dStp_z {σ : Sg} {a b m n : Int} {D : Dl} (h : DlZ D) : DlZ (dStp σ a b m n D) := by
  unfold dStp
  split
  · rename_i q
    show g1O σ a b m n = 0 ↔ g2O σ a b m n = 0
    omega
  · exact h
theorem dN_z {σ : Sg} {a b m : Int} {D : Dl} (h : DlZ D) : ∀ k : Nat, DlZ (dN σ a b m D k)
  | 0 => h
  | k + 1 => by
    have ih := dN_z (σ := σ) (a := a) (b := b) (m := m) h k
    unfold dN
    split
    · exact ih
    · exact dStp_z ih
theorem dM_z {σ : Sg} {a b : Int} {D : Dl} (h : DlZ D) : ∀ k : Nat, DlZ (dM σ a b D k)
  | 0 => h
  | k + 1 => by
    have ih := dM_z (σ := σ) (a := a) (b := b) h k
    unfold dM
    split
    · exact ih
    · exact dN_z ih _
theorem dB_z {σ : Sg} {a : Int} {D : Dl} (h : DlZ D) : ∀ k : Nat, DlZ (dB σ a D k)
  | 0 => h
  | k + 1 => dM_z (dB_z h k) _
theorem dA_z {σ : Sg} {D : Dl} (h : DlZ D) : ∀ k : Nat, DlZ (dA σ D k)
  | 0 => h
  | k + 1 => dB_z (dA_z h k) _
def fldD (D : Dl) (a : Int) : Int := if a = 0 then D.1 else if a = 1 then D.2.1 else if a = 2 then D.2.2.1 else if a = 3 then D.2.2.2.1 else if a = 4 then D.2.2.2.2.1 else D.2.2.2.2.2
theorem DlC.fld {ν : Mem} {c : Nat} {D : Dl} (h : DlC ν c D) {a : Int} (ha : 0 ≤ a ∧ a < 6) : rI ν c a = fldD D a := by
  have : a = 0 ∨ a = 1 ∨ a = 2 ∨ a = 3 ∨ a = 4 ∨ a = 5 := by omega
  rcases this with rfl | rfl | rfl | rfl | rfl | rfl
  · exact h.1
  · exact h.2.1
  · exact h.2.2.1
  · exact h.2.2.2.1
  · exact h.2.2.2.2.1
  · exact h.2.2.2.2.2
theorem st_deal {a : Int} (ha : Rg a) : Both Int (f_H_deal a) (f_M_deal a) := by
  obtain ⟨a0, a1⟩ := ha
  refine both_q (fun σ => pick ((0 ≤ a ∧ a < 6) ∧ 0 < (dFin σ).2.2.2.2.1) (fldD (dFin σ) a) (-1)) (fun μ K hI h => ?_) (fun μ K hI h => ?_)
  · have no : ¬ ((0 ≤ a ∧ a < 6) ∧ 0 < (dFin (MS μ)).2.2.2.2.1) → ∀ ν : Mem, Qt μ ν → K (-1) ν := fun z ν q => by
      have := h ν q
      rw [pick_f z] at this
      exact this
    unfold f_H_deal
    (try simp (disch := omega) only [w_id])
    refine ite_i (fun q => no (fun z => by omega) μ (Qt.refl μ)) (fun q => ite_i (fun q2 => ?_) (fun q2 => no (fun z => by omega) μ (Qt.refl μ)))
    refine c_findDeal hI (fun ξ fx dx => ?_)
    refine ite_i (fun q3 => ?_) (fun q3 => no (fun z => q3 (decide_eq_true z.2)) ξ (fx.qt rfl))
    have := h ξ (fx.qt rfl)
    rw [pick_t ⟨⟨by omega, q2⟩, of_decide_eq_true q3⟩] at this
    unfold v_Worths_dealField
    rw [at_in (by omega) (by omega) (by decide), dx.fld ⟨by omega, q2⟩]
    exact this
  · have no : ¬ ((0 ≤ a ∧ a < 6) ∧ 0 < (dFin (MS μ)).2.2.2.2.1) → ∀ ν : Mem, Qt μ ν → K (-1) ν := fun z ν q => by
      have := h ν q
      rw [pick_f z] at this
      exact this
    have hct := hI.cnt
    have hA := hI.wfR.1
    have hWr := hI.2.2.2.2.2.2.2.1
    have q0 := thr_qt μ
    have eM := thr_ms μ
    unfold f_M_deal
    intro μ1 e1
    subst e1
    rw [within_e a0 a1 (by decide) (by decide) (by decide) (by decide)]
    refine ite_i (fun q => ?_) (fun q => no (fun z => q (decide_eq_true ⟨z.1.1, by omega⟩)) _ q0)
    have qa := of_decide_eq_true q
    unfold f_M_findDeal
    refine m_findTurns hI eM (fun ξ fx tx => ?_)
    have qx : Qt μ ξ := q0.trans (fx.qt rfl)
    have hd : DeM (MS μ) ξ := ⟨qx.2.2.1, fun j j0 j1 => (hWr j j0 j1).2, tx, ⟨by omega, hA.2⟩, ⟨hct.1, hct.2.1⟩⟩
    have dw : DlW (dFin (MS μ)) := dA_w hd.2.1 hct.2.1 hA.2 D0_w (MS μ 15466 0).toNat (by omega)
    have dz : DlZ (dFin (MS μ)) := dA_z (D := D0) (by unfold DlZ D0; decide) _
    refine ⟨(MS μ 15466 0).toNat + 1, m_deal8 D0_w (ν0 := ξ) (fun ξ2 f2 d2 x ex => ?_) (MS μ 15466 0).toNat 0 ξ (by omega) hd (FrP.refl _ _) (fun z => absurd z (by show ¬ (0 : Int) < 0 + 0; decide))⟩
    have q2 : Qt μ ξ2 := qx.trans (f2.qt rfl)
    have d2' : 0 < bsD (dFin (MS μ)) → DlC ξ2 173 (dFin (MS μ)) := d2
    have ex' : x = (if 0 < w (bsD (dFin (MS μ))) then true else false) := ex
    have bb : 0 ≤ bsD (dFin (MS μ)) ∧ bsD (dFin (MS μ)) ≤ 72 := by
      obtain ⟨-, -, -, -, d5, d6⟩ := id dw
      unfold bsD
      omega
    rw [w_id (by omega) (by omega)] at ex'
    have e2 : x = decide (0 < (dFin (MS μ)).2.2.2.2.1) := by
      rw [ex', ← bsD_pos dw dz]
      by_cases z : 0 < bsD (dFin (MS μ))
      · rw [if_pos z, decide_eq_true z]
      · rw [if_neg z, decide_eq_false z]
    rw [e2]
    refine ite_i (fun q3 => ?_) (fun q3 => no (fun z => q3 (decide_eq_true z.2)) _ q2)
    have z3 := of_decide_eq_true q3
    have dd := d2' (by
      obtain ⟨-, -, -, -, d5, d6⟩ := id dw
      unfold bsD
      omega)
    have := h ξ2 q2
    rw [pick_t ⟨⟨by omega, by omega⟩, z3⟩] at this
    (try simp (disch := omega) only [w_id])
    rw [dd.fld ⟨by omega, by omega⟩]
    exact ⟨by omega, by omega, this⟩
