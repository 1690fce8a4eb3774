/-! BEST, both sides -/
noncomputable def bstO (σ : Sg) (a : Int) (C : List Int) : Nat → List Nat → Int → List Nat → Int × List Nat
  | 0, _, b, bo => (b, bo)
  | f + 1, o, b, bo => match nxO o with
    | none => (b, bo)
    | some o' => if b < walO σ a C o' then bstO σ a C f o' (walO σ a C o') o' else bstO σ a C f o' b bo
theorem remO_len (C : List Int) (od : List Nat) : ∀ (f i : Nat), (remO C od f i).length = f
  | 0, _ => rfl
  | f + 1, i => by
    unfold remO
    rw [List.length_cons, remO_len C od f (i + 1)]
theorem remO_mem {C : List Int} {od : List Nat} (h : OdW C.length od) : ∀ {f i : Nat} {x : Int}, i + f ≤ C.length → x ∈ remO C od f i → x ∈ C
  | 0, _, x, _, hx => absurd hx (by unfold remO; simp)
  | f + 1, i, x, hi, hx => by
    unfold remO at hx
    rcases List.mem_cons.mp hx with rfl | hx
    · exact gI_mem (h.at (by omega))
    · exact remO_mem h (by omega) hx
theorem walO_rng {σ : Sg} (hW : WoB σ) {a : Int} (ha : 0 ≤ a ∧ a < 12) {C : List Int} (h6 : C.length ≤ 6) (hC : ∀ x ∈ C, 0 ≤ x ∧ x < 24) {od : List Nat} (h : OdW C.length od) : -54 ≤ walO σ a C od ∧ walO σ a C od ≤ 54 := by
  have k := wal_rng hW ha (remO C od C.length 0) (stO σ) [] 0 (fun m hm => hC m (remO_mem h (by omega) hm))
  rw [remO_len] at k
  unfold walO
  omega
theorem OdC.fr {L : List Nat} {ν ξ : Mem} {c : Nat} {od : List Nat} (h : OdC ν c od) (f : Fr L ν ξ) (hL : lel L c = false) : OdC ξ c od := fun i hi => by rw [f.rdI hL]; exact h i hi
theorem MoC.fr {L : List Nat} {ν ξ : Mem} {C : List Int} (h : MoC ν C) (f : Fr L ν ξ) (hL : (lel L 13934 || lel L 103) = false) : MoC ξ C := by
  simp only [Bool.or_eq_false_iff] at hL
  exact ⟨by rw [f.rdI hL.1]; exact h.1, fun i hi => by rw [f.rdI hL.2]; exact h.2 i hi⟩
theorem PrC.fr {L : List Nat} {σ : Sg} {ν ξ : Mem} {C : List Int} {k : Nat} (h : PrC σ ν C k) (f : Fr L ν ξ) (hL : (lel L 104 || lel L 105 || lel L 106 || lel L 107 || lel L 108) = false) : PrC σ ξ C k := by
  simp only [Bool.or_eq_false_iff] at hL
  obtain ⟨⟨⟨⟨l1, l2⟩, l3⟩, l4⟩, l5⟩ := hL
  exact fun i hi => by rw [f.rdL l4, f.rdL l5, f.rdI l1, f.rdI l2, f.rdI l3]; exact h i hi
theorem range_W (n : Nat) : OdW n (List.range n) := ⟨List.length_range, fun x hx => List.mem_range.mp hx⟩
theorem range_at {n i : Nat} (h : i < n) : (List.range n).getD i 0 = i := by
  rw [List.getD_eq_getElem?_getD, List.getElem?_range h]
  rfl
def fbL : List Nat := [109, 110]
theorem c_best44 {σ : Sg} {ν0 : Mem} (hI : Ic σ ν0) {a : Int} (ha : 0 ≤ a ∧ a < σ 15466 0) {C : List Int} (h6 : C.length ≤ 6) (hC : ∀ x ∈ C, 0 ≤ x ∧ x < 24) (hM : MoC ν0 C) (hP : PrC σ ν0 C C.length) {X : Int → Mem → Prop} :
    ∀ (f i : Nat) (o : List Nat) (b : Int) (bo : List Nat) (ν : Mem), i + f = 720 → Fr fbL ν0 ν → OdC ν 109 o → OdW C.length o → OdC ν 110 bo → OdW C.length bo → (-54 ≤ b ∧ b ≤ 54) →
      (∀ ξ : Mem, Fr fbL ν0 ξ → OdC ξ 110 (bstO σ a C f o b bo).2 → OdW C.length (bstO σ a C f o b bo).2 → (-54 ≤ (bstO σ a C f o b bo).1 ∧ (bstO σ a C f o b bo).1 ≤ 54) → X (bstO σ a C f o b bo).1 ξ) → l_Worths_findBest_44 a X (f + 1) b (i : Int) ν
  | 0, i, o, b, bo, ν, e, fr, hO, hW, hB, hBW, hb, h => by
    unfold l_Worths_findBest_44
    (try simp (disch := omega) only [w_id])
    rw [if_neg (by omega)]
    exact h ν fr hB hBW hb
  | f + 1, i, o, b, bo, ν, e, fr, hO, hW, hB, hBW, hb, h => by
    have hA := hI.wfR.1
    have hWr := hI.2.2.2.2.2.2.2.1
    have eb : bstO σ a C (f + 1) o b bo = match nxO o with
      | none => (b, bo)
      | some o' => if b < walO σ a C o' then bstO σ a C f o' (walO σ a C o') o' else bstO σ a C f o' b bo := rfl
    unfold l_Worths_findBest_44
    (try simp (disch := omega) only [w_id])
    rw [if_pos (by omega)]
    refine c_nextO h6 (by rw [fr.rdI rfl]; exact hM.1) hW hO (fun z => ?_) (fun o' z ξ fx ox wx => ?_)
    · rw [if_neg (by decide)]
      rw [z] at eb
      rw [eb] at h
      exact h ν fr hB hBW hb
    · rw [if_pos rfl]
      rw [z] at eb
      have f2 : Fr fbL ν0 ξ := fr.trans (Fr.mono fx rfl)
      have wr := walO_rng (σ := σ) (fun j j0 j1 => (hWr j j0 j1).2) (a := a) ⟨by omega, by omega⟩ h6 hC wx
      refine c_along ((f2.qt rfl).ic hI) ha h6 hC (hM.fr f2 rfl) (hP.fr f2 rfl) wx ox ?_
      (try simp (disch := omega) only [w_id])
      have eb' : bstO σ a C (f + 1) o b bo = if b < walO σ a C o' then bstO σ a C f o' (walO σ a C o') o' else bstO σ a C f o' b bo := eb
      refine ite_i (fun q => ?_) (fun q => ?_)
      · rw [if_pos q] at eb'
        rw [eb'] at h
        refine c_copy (by decide) (by decide) (fun ο fo co => ?_)
        have g := c_best44 hI ha h6 hC hM hP (X := X) f (i + 1) o' (walO σ a C o') o' ο (by omega) (f2.trans (Fr.mono fo rfl)) (ox.fr fo rfl) wx (fun j hj => by
          have := wx.1
          rw [co (j : Int) (by omega) (by omega)]
          exact ox j hj) wx wr h
        exact g
      · rw [if_neg q] at eb'
        rw [eb'] at h
        have g := c_best44 hI ha h6 hC hM hP (X := X) f (i + 1) o' b bo ξ (by omega) f2 ox wx (hB.fr fx rfl) hBW hb h
        exact g
noncomputable def bfO (σ : Sg) (a : Int) (C : List Int) : Int × List Nat := bstO σ a C 720 (List.range C.length) (walO σ a C (List.range C.length)) (List.range C.length)
theorem c_findBest {σ : Sg} {ν : Mem} (hI : Ic σ ν) {a : Int} (ha : 0 ≤ a ∧ a < σ 15466 0) {C : List Int} (h6 : C.length ≤ 6) (hC : ∀ x ∈ C, 0 ≤ x ∧ x < 24) (hM : MoC ν C) (hP : PrC σ ν C C.length) {K : Int → Mem → Prop}
    (h : ∀ ξ : Mem, Fr fbL ν ξ → OdC ξ 110 (bfO σ a C).2 → OdW C.length (bfO σ a C).2 → K (bfO σ a C).1 ξ) : f_Worths_findBest a ν K := by
  have hA := hI.wfR.1
  have hWr := hI.2.2.2.2.2.2.2.1
  have loop : ∀ (X : Mem → Prop), (∀ ξ : Mem, Fr [109] ν ξ → OdC ξ 109 (List.range C.length) → X ξ) → ∀ (f i : Nat) (ξ : Mem), i + f = C.length → Fr [109] ν ξ → (∀ j : Nat, j < i → rI ξ 109 (j : Int) = (j : Int)) → l_Worths_findBest_2 a X (f + 1) (i : Int) ξ := by
    intro X hX f
    induction f with
    | zero =>
      intro i ξ e fr ho
      unfold l_Worths_findBest_2
      rw [fr.rdI rfl, hM.1]
      (try simp (disch := omega) only [w_id])
      rw [if_neg (by omega)]
      refine hX ξ fr (fun j hj => ?_)
      rw [List.length_range] at hj
      rw [range_at hj]
      exact ho j (by omega)
    | succ f ih =>
      intro i ξ e fr ho
      unfold l_Worths_findBest_2
      rw [fr.rdI rfl, hM.1]
      (try simp (disch := omega) only [w_id])
      rw [if_pos (by omega)]
      intro μ2 e2
      rw [set_in (by omega) (by omega) (by decide)] at e2
      have g := ih (i + 1) μ2 (by omega) (by rw [e2]; exact fr.wI (by decide)) (fun j hj => by
        rw [e2, rI_sI]
        by_cases c : j = i
        · rw [if_pos ⟨rfl, by omega⟩, c, w_id (by omega) (by omega)]
        · rw [if_neg (fun z => by omega)]
          exact ho j (by omega))
      exact g
  unfold f_Worths_findBest
  refine ⟨C.length + 1, loop _ (fun ξ fx ox => ?_) C.length 0 ν (by omega) (FrP.refl _ _) (fun j hj => by omega)⟩
  have wx := range_W C.length
  have f1 : Fr fbL ν ξ := Fr.mono fx rfl
  have wr := walO_rng (σ := σ) (fun j j0 j1 => (hWr j j0 j1).2) (a := a) ⟨by omega, by omega⟩ h6 hC wx
  refine c_along ((f1.qt rfl).ic hI) ha h6 hC (hM.fr f1 rfl) (hP.fr f1 rfl) wx ox ?_
  refine c_copy (by decide) (by decide) (fun ο fo co => ⟨721, ?_⟩)
  have f2 : Fr fbL ν ο := f1.trans (Fr.mono fo rfl)
  have g := c_best44 ((f2.qt rfl).ic hI) ha h6 hC (hM.fr f2 rfl) (hP.fr f2 rfl) (X := K) 720 0 (List.range C.length) (walO σ a C (List.range C.length)) (List.range C.length) ο rfl (FrP.refl _ _) (ox.fr fo rfl) wx (fun j hj => by
    rw [List.length_range] at hj
    rw [co (j : Int) (by omega) (by omega)]
    exact ox j (by rw [List.length_range]; exact hj)) wx wr (fun π fp op wp _ => h π (f2.trans fp) op wp)
  exact g
-- the model
def mbL : List Nat := woL ++ [167, 168]
theorem SeM.fr {L : List Nat} {ν ξ : Mem} {C : List Int} (h : SeM ν C) (f : Fr L ν ξ) (hL : (lel L 15545 || lel L 163) = false) : SeM ξ C := by
  simp only [Bool.or_eq_false_iff] at hL
  exact ⟨by rw [f.rdI hL.1]; exact h.1, fun i hi => by rw [f.rdI hL.2]; exact h.2 i hi⟩
theorem m_best82 {σ : Sg} (hQ : QS σ) (hR : RwW σ) (hWb : WoB σ) (hst : ∀ n : Nat, 1 ≤ n → n ≤ 60 → -1 ≤ stO σ (n : Int) ∧ stO σ (n : Int) ≤ 1) {a a3 : Int} (ha : 0 ≤ a ∧ a < 12) {ρ : Mem} (hk0 : RksM σ ρ) {C : List Int} (h6 : C.length ≤ 6) (hC : ∀ x ∈ C, 0 ≤ x ∧ x < σ 15472 0) (hS0 : SeM ρ C) {X : Int → Mem → Prop} :
    ∀ (f : Nat) (o : List Nat) (b : Int) (bo : List Nat) (ν : Mem), stopsO f o = true → Fr mbL ρ ν → OdC ν 167 o → OdW C.length o → (-1000 ≤ b ∧ b ≤ 54) → (¬ b < walO σ a C o → OdC ν 168 bo ∧ OdW C.length bo) →
      (∀ (R : Int × List Nat) (ξ : Mem), R = (if b < walO σ a C o then bstO σ a C f o (walO σ a C o) o else bstO σ a C f o b bo) → Fr mbL ρ ξ → OdC ξ 168 R.2 → OdW C.length R.2 → X R.1 ξ) → l_M_best_82 a a3 X (f + 1) b true ν
  | 0, o, b, bo, ν, hs, fr, hO, hW, hb, hB, h => by cases hs
  | f + 1, o, b, bo, ν, hs, fr, hO, hW, hb, hB, h => by
    have hct := hR.1
    have es : stopsO (f + 1) o = match nxO o with
      | none => true
      | some o' => stopsO f o' := rfl
    have wr := walO_rng hWb ha h6 (fun x hx => ⟨(hC x hx).1, by have := (hC x hx).2; omega⟩) hW
    -- what comes once the best is set
    have next : ∀ (b' : Int) (bo' : List Nat) (ξ : Mem), (∀ (R : Int × List Nat) (ο : Mem), R = bstO σ a C (f + 1) o b' bo' → Fr mbL ρ ο → OdC ο 168 R.2 → OdW C.length R.2 → X R.1 ο) → (-54 ≤ b' ∧ b' ≤ 54) → Fr mbL ρ ξ → OdC ξ 167 o → OdC ξ 168 bo' → OdW C.length bo' →
        f_M_goesOn ξ (fun r118 μ_11 => l_M_best_82 a a3 X (f + 1) b' r118 μ_11) := fun b' bo' ξ h' hb' fx ox obx wbx => by
      have eb : bstO σ a C (f + 1) o b' bo' = match nxO o with
        | none => (b', bo')
        | some o' => if b' < walO σ a C o' then bstO σ a C f o' (walO σ a C o') o' else bstO σ a C f o' b' bo' := rfl
      refine m_goesOn h6 (by rw [fx.rdI rfl]; exact hS0.1) hW ox (fun z => ?_) (fun o' z ο fo oo wo => ?_)
      · rw [z] at eb
        unfold l_M_best_82
        rw [if_neg (by decide)]
        exact h' (b', bo') ξ eb.symm fx obx wbx
      · rw [z] at eb es
        have es' : stopsO f o' = true := es.symm.trans hs
        refine m_best82 hQ hR hWb hst ha hk0 h6 hC hS0 (X := X) f o' b' bo' ο es' (fx.trans (Fr.mono fo rfl)) oo wo ⟨by omega, hb'.2⟩ (fun _ => ⟨obx.fr fo rfl, wbx⟩) (fun R π eR fp op wp => h' R π ?_ fp op wp)
        rw [eR]
        exact eb.symm
    unfold l_M_best_82
    rw [if_pos rfl]
    refine m_worthOf hQ hR hWb hst ha (hk0.fr fr rfl rfl) h6 hC (hS0.fr fr rfl) hW hO (fun ξ fx => ?_)
    have f1 : Fr mbL ρ ξ := fr.trans (Fr.mono fx rfl)
    (try simp (disch := omega) only [w_id])
    refine ite_i (fun q => ?_) (fun q => ?_)
    · rw [if_pos q] at h
      refine m_copies2 (by decide) (by decide) (fun ο fo co => ?_)
      exact next (walO σ a C o) o ο h wr (f1.trans (Fr.mono fo rfl)) ((hO.fr fx rfl).fr fo rfl) (fun j hj => by
        have := hW.1
        rw [co (j : Int) (by omega) (by omega), fx.rdI rfl]
        exact hO j hj) hW
    · rw [if_neg q] at h
      obtain ⟨ob, wb⟩ := hB q
      exact next b bo ξ h ⟨by omega, hb.2⟩ f1 (hO.fr fx rfl) (ob.fr fx rfl) wb
theorem st_best {a b c : Int} (ha : Rg a) (hb : Rg b) (hc : Rg c) : Both Int (f_H_best a b c) (f_M_best a b c) := by
  refine both_q (fun σ => pick (isAf σ b ∧ vlR σ a 1 6 ∧ -1 ≤ c ∧ c < ((chN a.toNat 24).length : Int)) (if c = -1 then (bfO σ b (chN a.toNat 24)).1 else gI (chN a.toNat 24) ((bfO σ b (chN a.toNat 24)).2.getD c.toNat 0)) (-1000)) (fun μ K hI h => ?_) (fun μ K hI h => ?_)
  · have no : ¬ (isAf (MS μ) b ∧ vlR (MS μ) a 1 6 ∧ -1 ≤ c ∧ c < ((chN a.toNat 24).length : Int)) → ∀ ν : Mem, Qt μ ν → K (-1000) ν := fun z ν q => by
      have := h ν q
      rw [pick_f z] at this
      exact this
    obtain ⟨c0, c1⟩ := id hc
    unfold f_H_best
    refine ite_b (hasAff_i hI hb) (fun q1 => c_prepare hI ha (fun vl ξ fx hM hP => ?_) (fun nv ξ fx => ?_)) (fun q1 => no (fun z => q1 z.1) μ (Qt.refl μ))
    · rw [if_pos rfl]
      have qx : Qt μ ξ := fx.qt rfl
      have h6 := vl.1.2.1
      rw [hM.1]
      (try simp (disch := omega) only [w_id])
      refine ite_i (fun q2 => no (fun z => by omega) ξ qx) (fun q2 => ite_i (fun q3 => ?_) (fun q3 => no (fun z => by omega) ξ qx))
      refine c_findBest (qx.ic hI) q1 h6 (fun x hx => chN_rng hx) hM hP (fun ξ2 f2 ob wb x ex => ?_)
      have := h ξ2 (qx.trans (f2.qt rfl))
      rw [pick_t ⟨q1, vl, by omega, q3⟩] at this
      rw [ex]
      by_cases d : c = -1
      · rw [if_pos d] at this ⊢
        exact this
      · rw [if_neg d] at this ⊢
        have wa := wb.at (i := c.toNat) (by omega)
        have oa := ob c.toNat (by rw [wb.1]; omega)
        rw [show ((c.toNat : Nat) : Int) = c by omega] at oa
        unfold v_Worths_bestMotionAt
        rw [at_in (a := 110) (by omega) (by omega) (by decide), oa, at_in (by omega) (by omega) (by decide), f2.rdI rfl, hM.2 _ wa]
        exact this
    · rw [if_neg (by decide)]
      exact no (fun z => nv z.2.1) ξ (fx.qt rfl)
  · have no : ¬ (isAf (MS μ) b ∧ vlR (MS μ) a 1 6 ∧ -1 ≤ c ∧ c < ((chN a.toNat 24).length : Int)) → ∀ ν : Mem, Qt μ ν → K (-1000) ν := fun z ν q => by
      have := h ν q
      rw [pick_f z] at this
      exact this
    obtain ⟨c0, c1⟩ := id hc
    have hct := hI.cnt
    have hA := hI.wfR.1
    have hWr := hI.2.2.2.2.2.2.2.1
    have q0 := thr_qt μ
    have eM := thr_ms μ
    unfold f_M_best
    intro μ1 e1
    subst e1
    refine m_areOpen ha (lo := 1) (hi := 6) ⟨by decide, by decide⟩ (by rw [eM]; omega) (fun vl => ?_) (fun nv => ?_)
    · rw [eM] at vl
      rw [if_pos rfl]
      refine ite_b (isAff_i hb) (fun q1 => ?_) (fun q1 => no (fun z => q1 (by rw [eM]; exact z.1)) _ q0)
      rw [eM] at q1
      have h6 := vl.1.2.1
      refine m_bitsOf vl.1.1 ?_
      rw [within_e c0 c1 (by decide) (by decide) (by omega) (by omega)]
      refine ite_i (fun q2 => ?_) (fun q2 => no (fun z => q2 (decide_eq_true ⟨z.2.2.1, by omega⟩)) _ q0)
      have q2 := of_decide_eq_true q2
      refine m_lists vl.1.1 (by omega) (fun ξ fx hS => ?_)
      have qx : Qt μ ξ := q0.trans (fx.qt rfl)
      have hCm : ∀ x ∈ chN a.toNat 24, 0 ≤ x ∧ x < MS μ 15472 0 := fun x hx => by
        obtain ⟨k, k1, k2, k3⟩ := (chN_mem a.toNat 24 x).mp hx
        rw [k1]
        exact ⟨by omega, (vl.1.2.2 k k2 k3).1⟩
      have loop : ∀ (X : Mem → Prop), (∀ ξ2 : Mem, Fr [167] ξ ξ2 → OdC ξ2 167 (List.range (chN a.toNat 24).length) → X ξ2) → ∀ (f i : Nat) (ξ2 : Mem), i + f = (chN a.toNat 24).length → Fr [167] ξ ξ2 → (∀ j : Nat, j < i → rI ξ2 167 (j : Int) = (j : Int)) → l_M_best_50 b c X (f + 1) (i : Int) ξ2 := by
        intro X hX f
        induction f with
        | zero =>
          intro i ξ2 e fr ho
          unfold l_M_best_50
          rw [fr.rdI rfl, hS.1]
          (try simp (disch := omega) only [w_id])
          rw [if_neg (by omega)]
          refine hX ξ2 fr (fun j hj => ?_)
          rw [List.length_range] at hj
          rw [range_at hj]
          exact ho j (by omega)
        | succ f ih =>
          intro i ξ2 e fr ho
          unfold l_M_best_50
          rw [fr.rdI rfl, hS.1]
          (try simp (disch := omega) only [w_id])
          rw [if_pos (by omega)]
          refine ⟨by omega, by omega, fun μ6 e6 => ?_⟩
          have g := ih (i + 1) μ6 (by omega) (by rw [e6]; exact fr.wI (by decide)) (fun j hj => by
            rw [e6, rI_sI]
            by_cases d : j = i
            · rw [if_pos ⟨rfl, by omega⟩, d, w_id (by omega) (by omega)]
            · rw [if_neg (fun z => by omega)]
              exact ho j (by omega))
          exact g
      refine ⟨(chN a.toNat 24).length + 1, loop _ (fun ξ2 f2 o2 => ⟨721, ?_⟩) (chN a.toNat 24).length 0 ξ (by omega) (FrP.refl _ _) (fun j hj => by omega)⟩
      have q3 : Qt μ ξ2 := qx.trans (f2.qt rfl)
      have wx := range_W (chN a.toNat 24).length
      have ab : 0 ≤ b ∧ b < 12 := ⟨q1.1, by have := q1.2; omega⟩
      have wr := walO_rng (σ := MS μ) (fun j j0 j1 => (hWr j j0 j1).2) ab h6 (fun x hx => chN_rng hx) wx
      have st := stops_id ⟨(chN a.toNat 24).length, by omega⟩
      refine m_best82 hI.qm hI.rw (fun j j0 j1 => (hWr j j0 j1).2) (fun n n1 n2 => by have := hI.stand n1 n2; exact ⟨this.1, this.2.1⟩) ab (RksM_of hI q3.2.2.1) h6 hCm (hS.fr f2 rfl) 720 (List.range (chN a.toNat 24).length) (-1000) [] ξ2 st (FrP.refl _ _) o2 wx (by decide) (fun z => absurd (by omega) z) (fun R ξ3 eR f3 ob wb => ?_)
      rw [if_pos (by omega)] at eR
      have eR' : R = bfO (MS μ) b (chN a.toNat 24) := eR
      subst eR'
      have := h ξ3 (q3.trans (f3.qt rfl))
      rw [pick_t ⟨q1, vl, q2.1, by omega⟩] at this
      (try simp (disch := omega) only [w_id])
      by_cases d : c = -1
      · rw [if_pos d] at this ⊢
        exact this
      · rw [if_neg d] at this ⊢
        have wa := wb.at (i := c.toNat) (by omega)
        have oa := ob c.toNat (by rw [wb.1]; omega)
        rw [show ((c.toNat : Nat) : Int) = c by omega] at oa
        refine ⟨by omega, by omega, ?_⟩
        rw [oa]
        (try simp (disch := omega) only [w_id])
        refine ⟨by omega, by omega, ?_⟩
        rw [f3.rdI rfl, f2.rdI rfl, hS.2 _ wa]
        exact this
    · rw [eM] at nv
      rw [if_neg (by decide)]
      exact no (fun z => nv z.2.1) _ q0
