/-! PAID, CARDS, BROKEN, COUNTED -/
theorem st_paid {a kn : Int} (ha : Rg a) (hn : Rg kn) : Both Int (f_H_paid a kn) (f_M_paid a kn) := by
  refine both_q (fun σ => pick (isAf σ a ∧ isKn σ kn) (pd σ a kn) (-1)) (fun μ K hI h => ?_) (fun μ K hI h => ?_)
  · have no : ¬ (isAf (MS μ) a ∧ isKn (MS μ) kn) → K (-1) μ := fun z => by
      have := h μ (Qt.refl μ)
      rw [pick_f z] at this
      exact this
    have hA := hI.wfR.1
    unfold f_H_paid
    refine ite_b (hasAff_i hI ha) (fun q1 => ite_b (known_i hI hn) (fun q3 => ?_) (fun q3 => no (fun z => q3 z.2))) (fun q1 => no (fun z => q1 z.1))
    refine c_take hI ⟨by omega, by omega⟩ hn (fun ν hf hk => ?_)
    have hq : Qt μ ν := hf.qt rfl
    have hIν := hq.iv hI
    have eM : MS ν = MS μ := hq.2.2.1
    refine c_inForce hIν ⟨hIν.isRu, ?_⟩
    rw [hIν.rate, eM]
    have hr := hI.ru
    have := h ν hq
    rw [pick_t ⟨q1, q3⟩] at this
    exact c_paidHeadsOf (by unfold isAf at q1; omega) hI.wfR hI.wfT ⟨hr.2.1, hr.2.2.1⟩ hk this
  · have eM := thr_ms μ
    have no : ¬ (isAf (MS μ) a ∧ isKn (MS μ) kn) → K (-1) (sI μ 15464 0 0) := fun z => by
      have hth := h _ (thr_qt μ)
      rw [pick_f z] at hth
      exact hth
    unfold f_M_paid
    intro μ1 e1
    subst e1
    refine ite_b (isAff_i ha) (fun q1 => ite_b (isKn_i hn) (fun q3 => ?_) (fun q3 => no (fun z => q3 (by rw [eM]; exact z.2)))) (fun q1 => no (fun z => q1 (by rw [eM]; exact z.1)))
    refine m_paidOf ha hn (hI.qm.ms eM) ?_
    rw [eM] at q1 q3
    have := h _ (thr_qt μ)
    rw [pick_t ⟨q1, q3⟩] at this
    rw [eM]
    exact this
theorem st_cards {a kn : Int} (ha : Rg a) (hn : Rg kn) : Both Int (f_H_cards a kn) (f_M_cards a kn) := by
  refine both_q (fun σ => pick (isAf σ a ∧ isKn σ kn) (cd σ a kn) (-1)) (fun μ K hI h => ?_) (fun μ K hI h => ?_)
  · have no : ¬ (isAf (MS μ) a ∧ isKn (MS μ) kn) → K (-1) μ := fun z => by
      have := h μ (Qt.refl μ)
      rw [pick_f z] at this
      exact this
    unfold f_H_cards
    refine ite_b (hasAff_i hI ha) (fun q1 => ite_b (known_i hI hn) (fun q3 => ?_) (fun q3 => no (fun z => q3 z.2))) (fun q1 => no (fun z => q1 z.1))
    refine c_take hI ⟨by omega, by omega⟩ hn (fun ν hf hk => ?_)
    have hq : Qt μ ν := hf.qt rfl
    have hIν := hq.iv hI
    have eM : MS ν = MS μ := hq.2.2.1
    refine c_inForce hIν ⟨hIν.isRu, ?_⟩
    refine c_cardsOf hIν (a := a) (mt := -1) (kn := kn) (by rw [eM]; exact q1) (by rw [eM]; exact hk) (fun ξ hx => ?_)
    have hq2 : Qt μ ξ := hq.trans (hx.qt rfl)
    have := h ξ hq2
    rw [pick_t ⟨q1, q3⟩] at this
    rw [eM]
    exact this
  · have eM := thr_ms μ
    have no : ¬ (isAf (MS μ) a ∧ isKn (MS μ) kn) → K (-1) (sI μ 15464 0 0) := fun z => by
      have hth := h _ (thr_qt μ)
      rw [pick_f z] at hth
      exact hth
    unfold f_M_cards
    intro μ1 e1
    subst e1
    refine ite_b (isAff_i ha) (fun q1 => ite_b (isKn_i hn) (fun q3 => ?_) (fun q3 => no (fun z => q3 (by rw [eM]; exact z.2)))) (fun q1 => no (fun z => q1 (by rw [eM]; exact z.1)))
    refine m_cardsOf (hI.qm.ms eM) q1 hn (fun ξ hx => ?_)
    rw [eM] at q1 q3
    have := h ξ ((thr_qt μ).trans (hx.qt rfl))
    rw [pick_t ⟨q1, q3⟩] at this
    rw [eM]
    exact this
def brN (σ : Sg) (mt kn : Int) : Nat → Int
  | 0 => 0
  | n + 1 => brN σ mt kn n + (if md σ (n : Int) mt kn = 2 then 0 else if tl σ 3 (n : Int) mt kn 3 = 3 then 0 else if tl σ 3 (n : Int) mt kn 3 = md σ (n : Int) mt kn then 0 else 1)
theorem brN_rng (σ : Sg) (mt kn : Int) : ∀ n : Nat, 0 ≤ brN σ mt kn n ∧ brN σ mt kn n ≤ (n : Int)
  | 0 => by unfold brN; omega
  | n + 1 => by
    have := brN_rng σ mt kn n
    unfold brN
    split
    · omega
    · split
      · omega
      · split <;> omega
theorem st_broken {mt kn : Int} (hm : Rg mt) (hn : Rg kn) : Both Int (f_H_broken mt kn) (f_M_broken mt kn) := by
  refine both_q (fun σ => pick (isMt σ mt ∧ isKn σ kn) (brN σ mt kn (σ 15466 0).toNat) (-1)) (fun μ K hI h => ?_) (fun μ K hI h => ?_)
  · have no : ¬ (isMt (MS μ) mt ∧ isKn (MS μ) kn) → K (-1) μ := fun z => by
      have := h μ (Qt.refl μ)
      rw [pick_f z] at this
      exact this
    unfold f_H_broken
    refine ite_b (has_e hI hm) (fun q1 => ite_b (known_i hI hn) (fun q3 => ?_) (fun q3 => no (fun z => q3 z.2))) (fun q1 => no (fun z => q1 z.1))
    refine c_take hI hm hn (fun ν hf hk => ?_)
    have hq : Qt μ ν := hf.qt rfl
    have rA : RegA (MS μ) ν := by have := (hq.iv hI).regA; rw [hq.2.2.1] at this; exact this
    have hA := hI.wfR.1
    have eA : rI ν 1136 0 = MS μ 15466 0 := (hf.rdI rfl).trans hI.relR.1
    have hth := h ν hq
    rw [pick_t ⟨q1, q3⟩] at hth
    unfold f_Count_brokenMandates
    refine lp3 (fun n (v i : Int) (ξ : Mem) => l_Count_brokenMandates_4 _ n v i ξ) (fun v i ξ => ∃ k : Nat, i = (k : Int) ∧ (k : Int) ≤ MS μ 15466 0 ∧ v = brN (MS μ) mt kn k ∧ ξ = ν) (fun _ i _ => (MS μ 15466 0 - i).toNat) (fun n v i ξ hJ ih => ?_) 0 0 ν ⟨0, rfl, by omega, rfl, rfl⟩
    obtain ⟨k, rfl, hkk, rfl, rfl⟩ := hJ
    unfold l_Count_brokenMandates_4
    rw [eA]
    (try simp (disch := omega) only [w_id])
    refine ite_i (fun q => ?_) (fun q => ?_)
    · have mr := md_rng (MS μ) (k : Int) mt kn
      have tr := tl_3 hI.wfR hI.wfT (k : Int) mt kn
      refine c_mandateOf (mt := mt) (kn := kn) (by omega) (by omega) hI.wfR hI.wfT rA hk.2.1 ?_
      intro v4 e4 x ex v1 ev
      rw [at_in (by omega) (by omega) (by decide), (hk.1 (k : Int) (by omega) (by omega)).2.2] at e4
      refine ih _ _ _ ⟨k + 1, by omega, by omega, ?_, rfl⟩ (by omega)
      rw [ev, ex, e4]
      (try simp (disch := omega) only [w_id])
      rfl
    · rw [show (MS μ 15466 0).toNat = k by omega] at hth
      exact hth
  · have eM := thr_ms μ
    have no : ¬ (isMt (MS μ) mt ∧ isKn (MS μ) kn) → K (-1) (sI μ 15464 0 0) := fun z => by
      have hth := h _ (thr_qt μ)
      rw [pick_f z] at hth
      exact hth
    have hc := hI.cnt
    unfold f_M_broken
    intro μ1 e1
    subst e1
    refine ite_b (isMatter_e (by rw [eM]; exact hc) hm) (fun q1 => ite_b (isKn_i hn) (fun q3 => ?_) (fun q3 => no (fun z => q3 (by rw [eM]; exact z.2)))) (fun q1 => no (fun z => q1 (by rw [eM]; exact z.1)))
    have hth := h _ (thr_qt μ)
    rw [eM] at q1 q3
    rw [pick_t ⟨q1, q3⟩] at hth
    have hA := hI.wfR.1
    have eA : rI (sI μ 15464 0 0) 15466 0 = MS μ 15466 0 := by rw [mr rfl, eM]
    generalize hν : sI μ 15464 0 0 = ν at *
    refine lp3 (fun n (v i : Int) (ξ : Mem) => l_M_broken_28 mt kn _ n v i ξ) (fun v i ξ => ∃ k : Nat, i = (k : Int) ∧ (k : Int) ≤ MS μ 15466 0 ∧ v = brN (MS μ) mt kn k ∧ ξ = ν) (fun _ i _ => (MS μ 15466 0 - i).toNat) (fun n v i ξ hJ ih => ?_) 0 0 ν ⟨0, rfl, by omega, rfl, rfl⟩
    obtain ⟨k, rfl, hkk, rfl, rfl⟩ := hJ
    unfold l_M_broken_28
    rw [eA]
    (try simp (disch := omega) only [w_id])
    refine ite_i (fun q => ?_) (fun q => ?_)
    · have mr := md_rng (MS μ) (k : Int) mt kn
      have tr := tl_3 hI.wfR hI.wfT (k : Int) mt kn
      have nx : ∀ v1 : Int, v1 = brN (MS μ) mt kn (k + 1) → l_M_broken_28 mt kn (fun (v3_1 : Int) (μ_5 : Mem) => K v3_1 μ_5) n v1 ((k : Int) + 1) ξ := fun v1 e => ih _ _ _ ⟨k + 1, by omega, by omega, e, rfl⟩ (by omega)
      refine m_toldBy ⟨by omega, by omega⟩ ⟨by omega, by omega⟩ hm hn (by rw [eM]; exact hI.wfR) ?_
      refine m_mandateOf ⟨by omega, by omega⟩ hm hn (by rw [eM]; exact hI.wfR) (by rw [eM]; exact hI.wfT) ?_
      rw [eM]
      (try simp (disch := omega) only [w_id])
      unfold brN at nx
      refine ite_i (fun c1 => nx _ ?_) (fun c1 => ite_i (fun c2 => nx _ ?_) (fun c2 => ite_i (fun c3 => nx _ ?_) (fun c3 => nx _ ?_)))
      · by_cases c2 : md (MS μ) (k : Int) mt kn = 2
        · rw [if_pos c2]; omega
        · rw [if_neg c2, if_pos c1]; omega
      · rw [if_pos c2]; omega
      · rw [if_neg c2, if_neg c1, if_pos c3]; omega
      · rw [if_neg c2, if_neg c1, if_neg c3]
    · rw [show (MS μ 15466 0).toNat = k by omega] at hth
      exact hth
theorem cY_n {σ : Sg} {mt kn how tn : Int} {an : Bool} (h : ¬ how = 3) : cYes σ mt kn how tn an = bnd (sY (vcT σ mt kn tn) (wtT σ how kn an) 1 (σ 15466 0).toNat) := by unfold cYes cvc cwg cn; rw [if_neg h, if_neg h, if_neg h]
theorem cN_n {σ : Sg} {mt kn how tn : Int} {an : Bool} (h : ¬ how = 3) : cNo σ mt kn how tn an = bnd (sY (vcT σ mt kn tn) (wtT σ how kn an) 0 (σ 15466 0).toNat) := by unfold cNo cvc cwg cn; rw [if_neg h, if_neg h, if_neg h]
theorem cA_n {σ : Sg} {kn how : Int} {an : Bool} (h : ¬ how = 3) : cAll σ kn how an = bnd (sA (wtT σ how kn an) (σ 15466 0).toNat) := by unfold cAll cwg cn; rw [if_neg h, if_neg h]
theorem cS_n {σ : Sg} {mt kn how tn : Int} {an : Bool} (h : ¬ how = 3) : cSec σ mt kn how tn an = scN (fun s => sM (fun a : Nat => σ 114 (a : Int)) (vcT σ mt kn tn) (wtT σ how kn an) s (σ 15466 0).toNat) 6 := by unfold cSec csc cvc cwg cn; rw [if_neg h, if_neg h, if_neg h, if_neg h]
/-- what is counted, as the class has it -/
def CNq (σ : Sg) (ν : Mem) (mt kn how tn : Int) (an : Bool) : Prop := CN ν (cYes σ mt kn how tn an) (cNo σ mt kn how tn an) (cAll σ kn how an) (cSec σ mt kn how tn an)
theorem c_sumUp2 {σ : Sg} {μ : Mem} (hI : Ic σ μ) {mt kn how tn : Int} {an : Bool} (hh : ¬ how = 3) (ht : Rg tn) (hv : ∀ a : Int, 0 ≤ a → a < σ 15466 0 → rI μ 79 a = vo σ a mt kn) (hwg : ∀ a : Nat, (a : Int) < σ 15466 0 → rI μ 78 (a : Int) = wtT σ how kn an a) {K : Mem → Prop} (h : ∀ ν : Mem, Fr suL μ ν → CNq σ ν mt kn how tn an → K ν) : f_Count_sumUp tn μ K := by
  refine c_sumUp hI (mt := mt) (kn := kn) ht hv (wg := wtT σ how kn an) (fun i _ => wtT_rng hI.qm how kn an i) hwg (fun ν f c => h ν f ?_)
  unfold CNq
  rw [cY_n hh, cN_n hh, cA_n hh, cS_n hh]
  exact c
def cntL : List Nat := wgL ++ suL
theorem st_counted {mt kn wh : Int} (hm : Rg mt) (hn : Rg kn) (hw' : Rg wh) : Both Int (f_H_counted mt kn wh) (f_M_counted mt kn wh) := by
  obtain ⟨hw0, hw1⟩ := hw'
  refine both_q (fun σ => pick (isMt σ mt ∧ isKn σ kn ∧ 0 ≤ wh ∧ wh ≤ 3) (if wh = 0 then cYes σ mt kn 0 (-1) false else if wh = 1 then cNo σ mt kn 0 (-1) false else if wh = 2 then cAll σ kn 0 false else cSec σ mt kn 0 (-1) false) (-1)) (fun μ K hI h => ?_) (fun μ K hI h => ?_)
  · have no : ¬ (isMt (MS μ) mt ∧ isKn (MS μ) kn ∧ 0 ≤ wh ∧ wh ≤ 3) → K (-1) μ := fun z => by
      have := h μ (Qt.refl μ)
      rw [pick_f z] at this
      exact this
    unfold f_H_counted
    (try simp (disch := omega) only [w_id])
    refine ite_b (has_e hI hm) (fun q1 => ite_b (known_i hI hn) (fun q2 => ite_i (fun q3 => no (fun z => by omega)) (fun q3 => ite_i (fun q4 => no (fun z => by omega)) (fun q4 => ?_))) (fun q2 => no (fun z => q2 z.2.1))) (fun q1 => no (fun z => q1 z.1))
    refine c_take hI hm hn (fun ν hf hk => ?_)
    have hq : Qt μ ν := hf.qt rfl
    have hIν := hq.iv hI
    have eM : MS ν = MS μ := hq.2.2.1
    refine c_inForce hIν ⟨hIν.isRu, ?_⟩
    refine c_weigh hIν (mt := mt) (kn := kn) (by omega) (by rw [eM]; exact hk) (fun ξ hx hwt => ?_)
    have hq2 : Qt μ ξ := hq.trans (hx.qt rfl)
    have hIξ := hq2.iv hI
    have eM2 : MS ξ = MS μ := hq2.2.2.1
    refine c_sumUp2 hIξ (mt := mt) (kn := kn) (how := 0) (an := false) (by omega) ⟨by omega, by omega⟩ (by rw [eM2]; exact (hk.fr hx rfl).2.2) (by rw [eM2]; rw [eM] at hwt; exact hwt) (fun ο ho hc => ?_)
    have hth := h ο (hq2.trans (ho.qt rfl))
    rw [pick_t ⟨q1, q2, by omega, by omega⟩] at hth
    rw [eM2] at hc
    obtain ⟨c1, c2, c3, c4⟩ := hc
    rw [c1, c2, c3, c4]
    refine ite_i (fun w0 => ?_) (fun w0 => ite_i (fun w1 => ?_) (fun w1 => ite_i (fun w2 => ?_) (fun w2 => ?_)))
    · rw [if_pos w0] at hth; exact hth
    · rw [if_neg w0, if_pos w1] at hth; exact hth
    · rw [if_neg w0, if_neg w1, if_pos w2] at hth; exact hth
    · rw [if_neg w0, if_neg w1, if_neg w2] at hth; exact hth
  · have eM := thr_ms μ
    have no : ¬ (isMt (MS μ) mt ∧ isKn (MS μ) kn ∧ 0 ≤ wh ∧ wh ≤ 3) → K (-1) (sI μ 15464 0 0) := fun z => by
      have hth := h _ (thr_qt μ)
      rw [pick_f z] at hth
      exact hth
    have hc := hI.cnt
    unfold f_M_counted
    intro μ1 e1
    subst e1
    rw [within_e hw0 hw1 (by decide) (by decide) (by decide) (by decide)]
    (try simp (disch := omega) only [w_id, decide_eq_true_eq])
    refine ite_b (isMatter_e (by rw [eM]; exact hc) hm) (fun q1 => ite_b (isKn_i hn) (fun q2 => ite_i (fun q3 => ?_) (fun q3 => no (fun z => q3 z.2.2))) (fun q2 => no (fun z => q2 (by rw [eM]; exact z.2.1)))) (fun q1 => no (fun z => q1 (by rw [eM]; exact z.1)))
    refine m_findCount (hI.qm.ms eM) (by omega) hm hn ⟨by omega, by omega⟩ (fun ξ hx hmn x ex => ?_)
    rw [eM] at q1 q2
    have hth := h ξ ((thr_qt μ).trans (hx.qt rfl))
    rw [pick_t ⟨q1, q2, q3⟩] at hth
    rw [eM] at hmn
    obtain ⟨c1, c2, c3, c4⟩ := hmn
    have y1 := bnd_Bd (sY (cvc (MS μ) mt kn 0 (-1)) (cwg (MS μ) 0 kn false) 1 (cn (MS μ) 0))
    have y2 := bnd_Bd (sY (cvc (MS μ) mt kn 0 (-1)) (cwg (MS μ) 0 kn false) 0 (cn (MS μ) 0))
    have y3 := bnd_Bd (sA (cwg (MS μ) 0 kn false) (cn (MS μ) 0))
    have z1 : Bd (cYes (MS μ) mt kn 0 (-1) false) := y1
    have z2 : Bd (cNo (MS μ) mt kn 0 (-1) false) := y2
    have z3 : Bd (cAll (MS μ) kn 0 false) := y3
    unfold Bd at z1 z2 z3
    rw [l2i_e (by rw [c1]; omega) (by rw [c1]; omega), l2i_e (by rw [c2]; omega) (by rw [c2]; omega), l2i_e (by rw [c3]; omega) (by rw [c3]; omega), c1, c2, c3, c4] at ex
    rw [ex]
    exact hth
