/-! IN ORDER, both sides -/
def rdO (n : Nat) : Nat → Int → List Nat → Option (List Nat)
  | 0, v, acc => if v = 0 then some acc else none
  | f + 1, v, acc => if 1 ≤ w_irem v 10 ∧ w_irem v 10 ≤ (n : Int) ∧ ¬ ((w_irem v 10 - 1).toNat ∈ acc) then rdO n f (w_idiv v 10) ((w_irem v 10 - 1).toNat :: acc) else none
theorem irem_rg (v : Int) : Rg (w_irem v 10) := ⟨Int32.le_toInt _, Int32.toInt_lt _⟩
theorem idiv_rg (v : Int) : Rg (w_idiv v 10) := ⟨Int32.le_toInt _, Int32.toInt_lt _⟩
theorem getD_cons0 {x : Nat} {l : List Nat} : (x :: l).getD 0 0 = x := rfl
theorem getD_consS {x : Nat} {l : List Nat} {i : Nat} : (x :: l).getD (i + 1) 0 = l.getD i 0 := rfl
theorem c_readOrder {σ : Sg} {ν0 : Mem} {C : List Int} (h6 : C.length ≤ 6) (hM : MoC ν0 C) {v0 : Int} (hv0 : Rg v0) {K : Bool → Mem → Prop}
    (h1 : ∀ od : List Nat, rdO C.length C.length v0 [] = some od → ∀ ξ : Mem, Fr [109] ν0 ξ → OdC ξ 109 od → OdW C.length od → K true ξ) (h2 : rdO C.length C.length v0 [] = none → ∀ ξ : Mem, Fr [109] ν0 ξ → K false ξ) : f_Worths_readOrder v0 ν0 K := by
  have loop : ∀ (f : Nat) (v : Int) (acc : List Nat) (b : Nat) (ν : Mem), Rg v → f + acc.length = C.length → b < 64 → (∀ d : Nat, b.testBit d = true ↔ d ∈ acc) → (∀ x ∈ acc, x < C.length) → rdO C.length f v acc = rdO C.length C.length v0 [] → Fr [109] ν0 ν → (∀ j : Nat, j < acc.length → rI ν 109 ((f + j : Nat) : Int) = ((acc.getD j 0 : Nat) : Int)) →
      l_Worths_readOrder_12 (fun (μ_3 : Mem) => K false μ_3) (fun (v2_2 : Int) (μ_4 : Mem) => ∀ x88 : Bool, x88 = (if w v2_2 = 0 then true else false) → K x88 μ_4) (f + 1) v (b : Int) ((f : Int) - 1) ν := by
    intro f
    induction f with
    | zero =>
      intro v acc b ν hv hl hb hd ha hr fr ho
      have er : rdO C.length 0 v acc = if v = 0 then some acc else none := rfl
      rw [er] at hr
      unfold l_Worths_readOrder_12
      (try simp (disch := omega) only [w_id])
      rw [if_pos (by omega)]
      intro x ex
      rw [w_id hv.1 hv.2] at ex
      by_cases c : v = 0
      · rw [if_pos c] at ex hr
        rw [ex]
        refine h1 acc hr.symm ν fr (fun i hi => ?_) ⟨by omega, ha⟩
        have := ho i hi
        rw [show ((0 + i : Nat) : Int) = (i : Int) by omega] at this
        exact this
      · rw [if_neg c] at ex hr
        rw [ex]
        exact h2 hr.symm ν fr
    | succ f ih =>
      intro v acc b ν hv hl hb hd ha hr fr ho
      have er : rdO C.length (f + 1) v acc = if 1 ≤ w_irem v 10 ∧ w_irem v 10 ≤ (C.length : Int) ∧ ¬ ((w_irem v 10 - 1).toNat ∈ acc) then rdO C.length f (w_idiv v 10) ((w_irem v 10 - 1).toNat :: acc) else none := rfl
      rw [er] at hr
      have rr := irem_rg v
      have dr := idiv_rg v
      unfold l_Worths_readOrder_12
      rw [fr.rdI rfl, hM.1]
      (try simp (disch := omega) only [w_id])
      rw [if_neg (by omega)]
      intro v5 e5
      generalize w_idiv v 10 = q at *
      generalize w_irem v 10 = r at *
      obtain ⟨r0, r1⟩ := rr
      have bad : ¬ (1 ≤ r ∧ r ≤ (C.length : Int) ∧ ¬ ((r - 1).toNat ∈ acc)) → K false ν := fun z => by
        rw [if_neg z] at hr
        exact h2 hr.symm ν fr
      have e5w : w v5 = r - 1 ∨ (r = -2147483648 ∧ w v5 = 2147483647) := by
        by_cases c : r = -2147483648
        · exact Or.inr ⟨c, by rw [e5, c]; decide⟩
        · exact Or.inl (by rw [e5, w_id (by omega) (by omega)])
      refine ite_i (fun q1 => bad (fun z => by omega)) (fun q1 => ite_i (fun q2 => ?_) (fun q2 => bad (fun z => by omega)))
      have e5' : v5 = ((r - 1).toNat : Int) := by omega
      generalize hd5 : (r - 1).toNat = d at *
      have d6 : d < C.length := by omega
      rw [e5', bit_e (v := (b : Int)) (i := (d : Int)) (by omega) (by omega), show ((b : Int).toNat) = b by omega, show ((d : Int).toNat) = d by omega]
      by_cases cb : b.testBit d = true
      · rw [if_pos cb, if_neg (by decide)]
        exact bad (fun z => z.2.2 ((hd d).mp cb))
      · rw [if_neg cb, if_pos (by decide)]
        rw [if_pos ⟨by omega, by omega, fun z => cb ((hd d).mpr z)⟩] at hr
        intro v3 e3 μ2 e2 v2 e2'
        have k := ior_bit2 (v := b) (i := d) (n := 6) (by omega) (by omega) (by decide)
        rw [k.1] at e3
        rw [set_in (by omega) (by omega) (by decide)] at e2
        rw [e3, e2']
        have g := ih q (d :: acc) (b ||| 2 ^ d) μ2 dr (by simp; omega) (by have := k.2; omega) (fun c => by
          rw [ior_bit, Bool.or_eq_true, hd c, decide_eq_true_eq, List.mem_cons]
          constructor
          · rintro (z | z)
            · exact Or.inr z
            · exact Or.inl z.symm
          · rintro (z | z)
            · exact Or.inr z.symm
            · exact Or.inl z) (fun x hx => by
          rcases List.mem_cons.mp hx with rfl | hx
          · exact d6
          · exact ha x hx) hr (by rw [e2]; exact fr.wI (by decide)) (fun j hj => by
          have hj' : j < acc.length + 1 := hj
          rw [e2, rI_sI]
          cases j with
          | zero => rw [if_pos ⟨rfl, by omega⟩, getD_cons0, w_id (by omega) (by omega)]
          | succ j =>
            rw [if_neg (fun z => by omega), getD_consS, show f + (j + 1) = f + 1 + j by omega]
            exact ho j (by omega))
        rw [show ((f + 1 : Nat) : Int) - 1 + -1 = (f : Int) - 1 by omega]
        exact g
  unfold f_Worths_readOrder
  intro v4 e4
  rw [hM.1] at e4
  refine ⟨C.length + 1, ?_⟩
  have g := loop C.length v0 [] 0 ν0 hv0 (by simp) (by decide) (fun d => by rw [Nat.zero_testBit]; exact ⟨fun z => (by cases z), fun z => absurd z (by simp)⟩) (fun x hx => absurd hx (by simp)) rfl (FrP.refl _ _) (fun j hj => absurd hj (by simp))
  rw [e4]
  exact g
theorem m_lists {a : Int} (ha : 0 ≤ a ∧ a < 16777216) (h8 : (chN a.toNat 24).length ≤ 8) {μ : Mem} {K : Mem → Prop} (h : ∀ ξ : Mem, Fr [15545, 163] μ ξ → SeM ξ (chN a.toNat 24) → K ξ) : f_M_listsMotions a μ K := by
  have loop : ∀ (f m : Nat) (ν : Mem), m + f = 24 → Fr [15545, 163] μ ν → SeM ν (chN a.toNat m) → l_M_listsMotions_7 a K (f + 1) (m : Int) ν := by
    intro f
    induction f with
    | zero =>
      intro m ν e fr hs
      unfold l_M_listsMotions_7
      (try simp (disch := omega) only [w_id])
      rw [if_neg (by omega)]
      rw [show m = 24 by omega] at hs
      exact h ν fr hs
    | succ f ih =>
      intro m ν e fr hs
      have st : chN a.toNat (m + 1) = if a.toNat.testBit m = true then chN a.toNat m ++ [(m : Int)] else chN a.toNat m := rfl
      have lm := chN_mono a.toNat (m + 1) (23 - m)
      rw [show m + 1 + (23 - m) = 24 by omega] at lm
      unfold l_M_listsMotions_7
      (try simp (disch := omega) only [w_id])
      rw [if_pos (by omega), sbit_e (v := a) (i := (m : Int)) (by omega) (by omega), show ((m : Int).toNat) = m by omega]
      by_cases b : a.toNat.testBit m = true
      · rw [if_pos b] at st ⊢
        rw [st, List.length_append] at lm
        simp only [List.length_cons, List.length_nil] at lm
        (try simp (disch := omega) only [w_id])
        rw [if_neg (by decide), hs.1]
        (try simp (disch := omega) only [w_id])
        refine ⟨by omega, by omega, fun μ3 e3 μ4 e4 => ?_⟩
        have k3 : rI μ3 15545 0 = ((chN a.toNat m).length : Int) := by rw [e3, rI_ne _ _ _ _ rfl]; exact hs.1
        rw [k3] at e4
        have g := ih (m + 1) μ4 (by omega) (by rw [e4, e3]; exact (fr.wI (by decide)).wI (by decide)) (by
          rw [st]
          refine ⟨by rw [e4, rI_eq _ _ _ ⟨by omega, by omega⟩, List.length_append]; simp, fun i hi => ?_⟩
          rw [List.length_append] at hi
          simp only [List.length_cons, List.length_nil] at hi
          rw [e4, rI_ne _ _ _ _ rfl, e3, rI_sI, gI_app]
          by_cases c : i < (chN a.toNat m).length
          · rw [if_neg (fun z => by omega), if_pos c]; exact hs.2 i c
          · rw [if_pos ⟨rfl, by omega⟩, if_neg c, if_pos (by omega), w_id (by omega) (by omega)])
        exact g
      · rw [if_neg b] at st ⊢
        (try simp (disch := omega) only [w_id])
        rw [if_pos trivial]
        have g := ih (m + 1) ν (by omega) fr (by rw [st]; exact hs)
        exact g
  unfold f_M_listsMotions
  intro μ1 e1
  exact ⟨25, loop 24 0 μ1 rfl (by rw [e1]; exact (FrP.refl _ _).wI (by decide)) ⟨by rw [e1, rI_eq _ _ _ ⟨by decide, by decide⟩]; rfl, fun i hi => absurd hi (by show ¬ i < 0; omega)⟩⟩
theorem m_readOrder {a3 : Int} {ν0 : Mem} {C : List Int} (h6 : C.length ≤ 6) (hS : SeM ν0 C) {v0 : Int} (hv0 : Rg v0) {XF : Mem → Prop} {XT : Int → Mem → Prop}
    (h1 : ∀ od : List Nat, rdO C.length C.length v0 [] = some od → ∀ ξ : Mem, Fr [167] ν0 ξ → OdC ξ 167 od → OdW C.length od → XT 0 ξ) (h2 : rdO C.length C.length v0 [] = none → ∀ ξ : Mem, Fr [167] ν0 ξ → XF ξ ∧ ∀ v : Int, Rg v → ¬ v = 0 → XT v ξ) : l_M_inOrder_47 a3 XF XT (C.length + 1) v0 0 ((C.length : Int) - 1) ν0 := by
  have loop : ∀ (f : Nat) (v : Int) (acc : List Nat) (b : Nat) (ν : Mem), Rg v → f + acc.length = C.length → b < 128 → (∀ d : Nat, b.testBit (d + 1) = true ↔ d ∈ acc) → (∀ x ∈ acc, x < C.length) → rdO C.length f v acc = rdO C.length C.length v0 [] → Fr [167] ν0 ν → (∀ j : Nat, j < acc.length → rI ν 167 ((f + j : Nat) : Int) = ((acc.getD j 0 : Nat) : Int)) →
      l_M_inOrder_47 a3 XF XT (f + 1) v (b : Int) ((f : Int) - 1) ν := by
    intro f
    induction f with
    | zero =>
      intro v acc b ν hv hl hb hd ha hr fr ho
      have er : rdO C.length 0 v acc = if v = 0 then some acc else none := rfl
      rw [er] at hr
      unfold l_M_inOrder_47
      (try simp (disch := omega) only [w_id])
      rw [if_pos (by omega)]
      by_cases c : v = 0
      · rw [if_pos c] at hr
        rw [c]
        refine h1 acc hr.symm ν fr (fun i hi => ?_) ⟨by omega, ha⟩
        have := ho i hi
        rw [show ((0 + i : Nat) : Int) = (i : Int) by omega] at this
        exact this
      · rw [if_neg c] at hr
        exact (h2 hr.symm ν fr).2 v hv c
    | succ f ih =>
      intro v acc b ν hv hl hb hd ha hr fr ho
      have er : rdO C.length (f + 1) v acc = if 1 ≤ w_irem v 10 ∧ w_irem v 10 ≤ (C.length : Int) ∧ ¬ ((w_irem v 10 - 1).toNat ∈ acc) then rdO C.length f (w_idiv v 10) ((w_irem v 10 - 1).toNat :: acc) else none := rfl
      rw [er] at hr
      have rr := irem_rg v
      have dr := idiv_rg v
      unfold l_M_inOrder_47
      rw [fr.rdI rfl, hS.1]
      (try simp (disch := omega) only [w_id])
      rw [if_neg (by omega)]
      intro v7 e7 v41 e41
      rw [← e41] at hr dr
      rw [← e7] at hr rr
      obtain ⟨r0, r1⟩ := rr
      clear e7 e41
      have bad : ¬ (1 ≤ v7 ∧ v7 ≤ (C.length : Int) ∧ ¬ ((v7 - 1).toNat ∈ acc)) → XF ν := fun z => by
        rw [if_neg z] at hr
        exact (h2 hr.symm ν fr).1
      rw [within_e r0 r1 (by decide) (by decide) (by omega) (by omega)]
      refine ite_i (fun q1 => ?_) (fun q1 => bad (fun z => q1 (decide_eq_true ⟨z.1, z.2.1⟩)))
      have q1 := of_decide_eq_true q1
      generalize hd5 : (v7 - 1).toNat = d at *
      have d6 : d < C.length := by omega
      have e7' : v7 = ((d + 1 : Nat) : Int) := by omega
      rw [sbit_e (v := (b : Int)) (i := v7) (by omega) (by omega), show ((b : Int).toNat) = b by omega, show v7.toNat = d + 1 by omega]
      by_cases cb : b.testBit (d + 1) = true
      · rw [if_pos cb, if_pos (by decide)]
        exact bad (fun z => z.2.2 ((hd d).mp cb))
      · rw [if_neg cb, if_neg (by decide)]
        rw [if_pos ⟨by omega, by omega, fun z => cb ((hd d).mpr z)⟩] at hr
        intro v5 e5
        have k := ior_bit2 (v := b) (i := d + 1) (n := 7) (by omega) (by omega) (by decide)
        rw [e7', k.1] at e5
        refine ⟨by omega, by omega, fun μ5 e2 => ?_⟩
        rw [e5]
        have g := ih v41 (d :: acc) (b ||| 2 ^ (d + 1)) μ5 dr (by simp; omega) (by have := k.2; omega) (fun c => by
          rw [ior_bit, Bool.or_eq_true, hd c, decide_eq_true_eq, List.mem_cons]
          constructor
          · rintro (z | z)
            · exact Or.inr z
            · exact Or.inl (by omega)
          · rintro (z | z)
            · exact Or.inr (by omega)
            · exact Or.inl z) (fun x hx => by
          rcases List.mem_cons.mp hx with rfl | hx
          · exact d6
          · exact ha x hx) hr (by rw [e2]; exact fr.wI (by decide)) (fun j hj => by
          have hj' : j < acc.length + 1 := hj
          rw [e2, rI_sI]
          cases j with
          | zero => rw [if_pos ⟨rfl, by omega⟩, getD_cons0, w_id (by omega) (by omega)]; omega
          | succ j =>
            rw [if_neg (fun z => by omega), getD_consS, show f + (j + 1) = f + 1 + j by omega]
            exact ho j (by omega))
        rw [show ((f + 1 : Nat) : Int) - 1 + -1 = (f : Int) - 1 by omega]
        exact g
  exact loop C.length v0 [] 0 ν0 hv0 (by simp) (by decide) (fun d => by rw [Nat.zero_testBit]; exact ⟨fun z => (by cases z), fun z => absurd z (by simp)⟩) (fun x hx => absurd hx (by simp)) rfl (FrP.refl _ _) (fun j hj => absurd hj (by simp))
theorem RksM_of {μ ρ : Mem} (hI : Iv μ) (h : MS ρ = MS μ) : RksM (MS μ) ρ := by
  have i : Ic (MS ρ) μ := by rw [h]; exact hI
  have b := flB_of (ρ := ρ) i
  rw [h] at b
  exact ⟨h, fun m m0 m1 => ⟨b.2.2.2.1 m m0 m1, (hI.row m0 m1).2.1⟩⟩
noncomputable def ioO (σ : Sg) (a v c : Int) : Int := match rdO (chN a.toNat 24).length (chN a.toNat 24).length v [] with
  | none => -1000
  | some od => walO σ c (chN a.toNat 24) od
theorem st_inOrder {a v c : Int} (ha : Rg a) (hv : Rg v) (hc : Rg c) : Both Int (f_H_inOrder a v c) (f_M_inOrder a v c) := by
  refine both_q (fun σ => pick (isAf σ c ∧ vlR σ a 1 6) (ioO σ a v c) (-1000)) (fun μ K hI h => ?_) (fun μ K hI h => ?_)
  · have no : ¬ (isAf (MS μ) c ∧ vlR (MS μ) a 1 6) → ∀ ν : Mem, Qt μ ν → K (-1000) ν := fun z ν q => by
      have := h ν q
      rw [pick_f z] at this
      exact this
    unfold f_H_inOrder
    refine ite_b (hasAff_i hI hc) (fun q1 => c_prepare hI ha (fun vl ξ fx hM hP => ?_) (fun nv ξ fx => ?_)) (fun q1 => no (fun z => q1 z.1) μ (Qt.refl μ))
    · rw [if_pos rfl]
      have ok : ∀ ν : Mem, Qt μ ν → K (ioO (MS μ) a v c) ν := fun ν q => by
        have := h ν q
        rw [pick_t ⟨q1, vl⟩] at this
        exact this
      have iξ := (fx.qt rfl).ic hI
      have h6 := vl.1.2.1
      refine c_readOrder (σ := MS μ) h6 hM hv (fun od e ξ2 f2 hO hW => ?_) (fun e ξ2 f2 => ?_)
      · rw [if_pos rfl]
        have q2 : Qt μ ξ2 := (fx.qt rfl).trans (f2.qt rfl)
        refine c_along (q2.ic hI) q1 h6 (fun x hx => chN_rng hx) ⟨by rw [f2.rdI rfl]; exact hM.1, fun i hi => by rw [f2.rdI rfl]; exact hM.2 i hi⟩ (fun i hi => by rw [f2.rdL rfl, f2.rdL rfl, f2.rdI rfl, f2.rdI rfl, f2.rdI rfl]; exact hP i hi) hW hO ?_
        have := ok ξ2 q2
        unfold ioO at this
        rw [e] at this
        exact this
      · rw [if_neg (by decide)]
        have := ok ξ2 ((fx.qt rfl).trans (f2.qt rfl))
        unfold ioO at this
        rw [e] at this
        exact this
    · rw [if_neg (by decide)]
      exact no (fun z => nv z.2) ξ (fx.qt rfl)
  · have no : ¬ (isAf (MS μ) c ∧ vlR (MS μ) a 1 6) → ∀ ν : Mem, Qt μ ν → K (-1000) ν := fun z ν q => by
      have := h ν q
      rw [pick_f z] at this
      exact this
    have hct := hI.cnt
    have hA := hI.wfR.1
    have hWr := hI.2.2.2.2.2.2.2.1
    have q0 := thr_qt μ
    have eM := thr_ms μ
    unfold f_M_inOrder
    intro μ1 e1
    subst e1
    refine m_areOpen ha (lo := 1) (hi := 6) ⟨by decide, by decide⟩ (by rw [eM]; omega) (fun vl => ?_) (fun nv => ?_)
    · rw [eM] at vl
      rw [if_pos rfl]
      refine ite_b (isAff_i hc) (fun q1 => ?_) (fun q1 => no (fun z => q1 (by rw [eM]; exact z.1)) _ q0)
      rw [eM] at q1
      have h6 := vl.1.2.1
      have ok : ∀ ν : Mem, Qt μ ν → K (ioO (MS μ) a v c) ν := fun ν q => by
        have := h ν q
        rw [pick_t ⟨q1, vl⟩] at this
        exact this
      refine m_lists vl.1.1 (by omega) (fun ξ fx hS v6 e6 => ?_)
      have qx : Qt μ ξ := q0.trans (fx.qt rfl)
      rw [hS.1] at e6
      refine ⟨(chN a.toNat 24).length + 1, ?_⟩
      rw [e6]
      have go := m_readOrder (a3 := c) h6 hS hv (XF := fun (μ_6 : Mem) => K (-1000) μ_6) (XT := fun (v4_2 : Int) (μ_7 : Mem) => if w v4_2 = 0 then (f_M_worthOf c μ_7 (fun r133 μ_8 => K r133 μ_8)) else (K (-1000) μ_7)) (fun od e ξ2 f2 hO hW => ?_) (fun e ξ2 f2 => ?_)
      · exact go
      · rw [if_pos (by decide)]
        have q2 : Qt μ ξ2 := qx.trans (f2.qt rfl)
        refine m_worthOf hI.qm hI.rw (fun j j0 j1 => (hWr j j0 j1).2) (fun n n1 n2 => by have := hI.stand n1 n2; exact ⟨this.1, this.2.1⟩) ⟨by have := q1.1; omega, by have := q1.2; omega⟩ (RksM_of hI q2.2.2.1) h6 (fun x hx => ?_) ⟨by rw [f2.rdI rfl]; exact hS.1, fun i hi => by rw [f2.rdI rfl]; exact hS.2 i hi⟩ hW hO (fun ξ3 f3 => ?_)
        · obtain ⟨k, k1, k2, k3⟩ := (chN_mem a.toNat 24 x).mp hx
          rw [k1]
          exact ⟨by omega, (vl.1.2.2 k k2 k3).1⟩
        · have := ok ξ3 (q2.trans (f3.qt rfl))
          unfold ioO at this
          rw [e] at this
          exact this
      · have bad := ok ξ2 (qx.trans (f2.qt rfl))
        unfold ioO at bad
        rw [e] at bad
        refine ⟨bad, fun x hx nx => ?_⟩
        rw [w_id hx.1 hx.2, if_neg nx]
        exact bad
    · rw [eM] at nv
      rw [if_neg (by decide)]
      exact no (fun z => nv z.2) _ q0
