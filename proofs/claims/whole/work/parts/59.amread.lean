/-! AN AMENDMENT is read by the model, kept by the class -/
def ma0L : List Nat := [15464] ++ stL ++ amL
def maL : List Nat := ma0L ++ spL
def gAm (g : Nat → Bool) : Bool := !(g 120) && !(g 121) && !(g 144) && !(g 145) && !(g 15512) && !(g 15519)
/-- the model's cells behind a text of an AMENDMENT A -/
def AmE (A p : Int) (σ σ' : Sg) : Prop := (∀ q : Nat, (q == 120) = false → (q == 121) = false → σ' q = rdS σ p q) ∧ ∀ j : Int, (j < 6 * A ∨ 6 * A + 6 ≤ j) → σ' 120 j = σ 120 j ∧ σ' 121 j = σ 121 j
theorem ne_of_g {g : Nat → Bool} {q c : Nat} (hq : g q = true) (hc : g c = false) : (q == c) = false := by
  cases e : q == c with
  | false => rfl
  | true => rw [eq_of_beq e, hc] at hq; cases hq
theorem AmE.lo {A p : Int} {σ σ' : Sg} (h : AmE A p σ σ') {g : Nat → Bool} (hg : gAm g = true) : Lo g σ σ' := by
  unfold gAm at hg
  simp only [Bool.and_eq_true, Bool.not_eq_true'] at hg
  obtain ⟨⟨⟨⟨⟨g1, g2⟩, g3⟩, g4⟩, g5⟩, g6⟩ := hg
  intro q hq
  rw [h.1 q (ne_of_g hq g1) (ne_of_g hq g2)]
  unfold rdS
  rw [up_ne _ _ _ (ne_of_g hq g6), up_ne _ _ _ (ne_of_g hq g5), up_ne _ _ _ (ne_of_g hq g4), up_ne _ _ _ (ne_of_g hq g3)]
theorem AmE.ru {A p : Int} {σ σ' : Sg} (h : AmE A p σ σ') {N : Int} (hN : N ≤ 10) : RuE N σ σ' := by
  have u := rdS_ru σ p hN
  unfold RuE at u ⊢
  rw [h.1 145 rfl rfl, h.1 146 rfl rfl, h.1 147 rfl rfl, h.1 148 rfl rfl, h.1 149 rfl rfl, h.1 143 rfl rfl]
  exact u
theorem AmE.mk {A p : Int} {σ σ3 : Sg} (h1 : ∀ q : Nat, (q == 120) = false → (q == 121) = false → σ3 q = up (up σ 144 10 0) 145 10 0 q) (h2 : ∀ j : Int, (j < 6 * A ∨ 6 * A + 6 ≤ j) → σ3 120 j = σ 120 j ∧ σ3 121 j = σ 121 j) : AmE A p σ (up (up σ3 15512 0 0) 15519 0 p) := by
  refine ⟨fun q q1 q2 => funext fun j => ?_, fun j hj => ?_⟩
  · show (if q = 15519 ∧ j = 0 then p else (if q = 15512 ∧ j = 0 then 0 else σ3 q j)) = (if q = 15519 ∧ j = 0 then p else (if q = 15512 ∧ j = 0 then 0 else up (up σ 144 10 0) 145 10 0 q j))
    rw [h1 q q1 q2]
  · rw [up_ne _ _ _ rfl, up_ne _ _ _ rfl, up_ne _ _ _ rfl, up_ne _ _ _ rfl]
    exact h2 j hj
theorem FrA.ms {A : Int} {ν ξ : Mem} (h : FrA A ν ξ) : (∀ q : Nat, (q == 120) = false → (q == 121) = false → MS ξ q = MS ν q) ∧ ∀ j : Int, (j < 6 * A ∨ 6 * A + 6 ≤ j) → MS ξ 120 j = MS ν 120 j ∧ MS ξ 121 j = MS ν 121 j := by
  have ok : (amL.all fun q => !(inM q) || (q == 120) || (q == 121)) = true := rfl
  refine ⟨fun q q1 q2 => funext fun j => ?_, fun j hj => ?_⟩
  · unfold MS
    by_cases e : inM q = true
    · rw [if_pos e, if_pos e]
      refine h.1.rdI ?_
      unfold lel
      cases hq : amL.elem q with
      | false => rfl
      | true =>
        have g := List.all_eq_true.mp ok q (List.elem_iff.mp hq)
        rw [e, q1, q2] at g
        cases g
    · rw [if_neg e, if_neg e]
  · rw [← mr (μ := ξ) (q := 120) rfl, ← mr (μ := ν) (q := 120) rfl, ← mr (μ := ξ) (q := 121) rfl, ← mr (μ := ν) (q := 121) rfl]
    exact h.2 j hj
theorem m_isOpen {a : Int} (ha : Rg a) {μ : Mem} (h24 : MS μ 15472 0 ≤ 24) {K : Bool → Mem → Prop} (h1 : (0 ≤ a ∧ a < MS μ 15472 0 ∧ MS μ 122 a = 0) → K true μ) (h2 : ¬ (0 ≤ a ∧ a < MS μ 15472 0 ∧ MS μ 122 a = 0) → K false μ) : f_M_isOpen a μ K := by
  obtain ⟨a0, a1⟩ := ha
  have e1 : rI μ 15472 0 = MS μ 15472 0 := mr rfl
  unfold f_M_isOpen
  rw [isMo_e a0 a1, e1]
  simp only [decide_eq_true_eq]
  refine ite_i (fun q => ?_) (fun q => h2 (fun z => q ⟨z.1, z.2.1⟩))
  (try simp (disch := omega) only [w_id, w_rI])
  refine ⟨by omega, by omega, fun x ex => ?_⟩
  have e2 : rI μ 122 a = MS μ 122 a := mr rfl
  rw [e2] at ex
  by_cases c : MS μ 122 a = 0
  · rw [if_pos c] at ex; subst ex; exact h1 ⟨q.1, q.2, c⟩
  · rw [if_neg c] at ex; subst ex; exact h2 (fun z => c z.2.2)
/-- what the model does behind the text -/
def m_amT (a1 v2_1 : Int) (μ_8 : Mem) (k : Int → Mem → Prop) : Prop := 0 ≤ w (rI μ_8 15474 0) ∧ w (rI μ_8 15474 0) < ((40 : Nat) : Int) ∧ ∀ μ_9 : Mem, μ_9 = sI μ_8 119 (w (rI μ_8 15474 0)) v2_1 → 0 ≤ w (rI μ_9 15474 0) ∧ w (rI μ_9 15474 0) < ((40 : Nat) : Int) ∧ ∀ μ_10 : Mem, μ_10 = sI μ_9 118 (w (rI μ_9 15474 0)) a1 → 0 ≤ w (rI μ_10 15474 0) ∧ w (rI μ_10 15474 0) < ((40 : Nat) : Int) ∧ ∀ μ_11 : Mem, μ_11 = sI μ_10 123 (w (rI μ_10 15474 0)) 0 → ∀ μ_12 : Mem, μ_12 = sI μ_11 15474 0 ((rI μ_11 15474 0) + 1) → ∀ μ_13 : Mem, μ_13 = sB μ_12 15536 0 false → k ((rI μ_13 15474 0) - 1) μ_13
theorem m_amend_read {ο : Mem} {b : Bts} {n : Nat} (hb : BtO b n) (hB : BtM b n ο) {m : Int} (hm : Rg m) (hO : 0 ≤ m ∧ m < MS ο 15472 0 ∧ MS ο 122 m = 0) (h24 : MS ο 15472 0 ≤ 24) {A : Int} (hA : MS ο 15474 0 = A) (hA0 : 0 ≤ A ∧ A < 40) {K : Int → Mem → Prop}
    (h : onR (ram b n) (fun f p => ∀ ξ : Mem, Fr maL ο ξ → AmE A (p : Int) (MS ο) (MS ξ) → K (-1 - f) ξ) (fun l => ∀ ξ : Mem, Fr maL ο ξ → AmE A (-1) (MS ο) (MS ξ) → AmM ξ A l → m_amT m (l.length : Int) ξ K)) : f_M_amend m ο K := by
  unfold f_M_amend
  intro μ1 e1
  have f1 : Fr ma0L ο μ1 := by rw [e1]; exact (FrP.refl _ _).wI (by decide)
  have s1 : MS μ1 = MS ο := by rw [e1]; exact thr_ms ο
  clear e1
  refine m_isOpen hm (by rw [s1]; exact h24) (fun _ => ?_) (fun z => absurd (by rw [s1]; exact hO) z)
  have k1 : rI μ1 15474 0 = A := by rw [mr rfl, s1]; exact hA
  rw [if_pos rfl, k1]
  (try simp (disch := omega) only [w_id])
  rw [if_neg (by omega)]
  refine m_starts hb (hB.fr f1 rfl) (fun ξ2 f2 s2 z2 o2 t2 => ?_)
  rw [s1] at s2
  have f12 : Fr ma0L ο ξ2 := f1.trans (Fr.mono f2 rfl)
  have a2 : rI ξ2 15474 0 = A := by rw [f2.rdI rfl]; exact k1
  have hT := (tok_ok hb (Nat.zero_le n)).1
  have B2 := hB.fr f12 rfl
  have r2 : AmM ξ2 A [] := fun k hk => absurd hk (by simp)
  have w0 : WfCh [] := ⟨by decide, fun x hx => absurd hx (by simp)⟩
  rw [a2]
  have er : ram b n = match rdCh b n [] (tok b n 0) with
    | .inl e => .inl e
    | .inr x => rdAm b n 7 ([] ++ [x.1]) x.2 := rfl
  rw [er] at h
  have mkE : ∀ (p : Int) (ξ ξ6 : Mem), FrA A ξ2 ξ → MS ξ6 = up (up (MS ξ) 15512 0 0) 15519 0 p → AmE A p (MS ο) (MS ξ6) := fun p ξ ξ6 fr s6 => by
    have g := fr.ms
    rw [s2] at g
    rw [s6]
    refine AmE.mk g.1 (fun j hj => ?_)
    have g2 := g.2 j hj
    rw [up_ne _ _ _ rfl, up_ne _ _ _ rfl, up_ne _ _ _ rfl, up_ne _ _ _ rfl] at g2
    exact g2
  have fin : ∀ (f : Int) (p : Nat) (v : Int) (ξ : Mem), (1 ≤ f ∧ f ≤ 4) → (∀ ξ : Mem, Fr maL ο ξ → AmE A (p : Int) (MS ο) (MS ξ) → K (-1 - f) ξ) → FrA A ξ2 ξ → rI ξ 15517 0 = f → rI ξ 15518 0 = (p : Int) → f_M_stops ξ (fun r69 μ_8 => if w r69 < w 0 then (K r69 μ_8) else m_amT m v μ_8 K) := fun f p v ξ hf g fr zf zp => by
    refine m_stops_f zf hf zp (fun ξ6 f6 s6 => ?_)
    (try simp (disch := omega) only [w_id])
    rw [if_pos (by omega)]
    exact g ξ6 (((Fr.mono f12 rfl).trans (Fr.mono fr.1 rfl)).trans (Fr.mono f6 rfl)) (mkE _ ξ ξ6 fr s6)
  have go := m_readChange hb hT B2 t2 z2 hA0 r2 (by decide) (K := fun μ_4 => ∃ m39 : Nat, l_M_amend_39 m (fun (v2_1 : Int) (μ_7 : Mem) => f_M_stops μ_7 (fun r69 μ_8 => if w r69 < w 0 then (K r69 μ_8) else m_amT m v2_1 μ_8 K)) m39 1 μ_4) ?_
  · exact go
  · cases hr : rdCh b n [] (tok b n 0) with
    | inl e =>
      rw [hr] at h
      intro ξ fr zf zp
      refine ⟨1, ?_⟩
      unfold l_M_amend_39
      rw [well_f zf (rdCh_f hr).1, if_neg (by decide)]
      exact fin e.1 e.2 1 ξ (rdCh_f hr) h fr zf zp
    | inr x =>
      rw [hr] at h
      have kw := rdCh_w w0 hr
      intro ξ fr zf t6 r6 o6
      refine ⟨8, ?_⟩
      have g := m_am_l hb hA0 (a1 := m) (X := fun (v2_1 : Int) (μ_7 : Mem) => f_M_stops μ_7 (fun r69 μ_8 => if w r69 < w 0 then (K r69 μ_8) else m_amT m v2_1 μ_8 K)) (ν0 := ξ2) 6 ([] ++ [x.1]) x.2 ξ (by simp) kw.1 (by simp) fr a2 (B2.fr fr.1 rfl) o6 t6 zf r6 ?_
      · exact g
      · have h' : onR (rdAm b n 7 ([] ++ [x.1]) x.2) (fun f p => ∀ ξ : Mem, Fr maL ο ξ → AmE A (p : Int) (MS ο) (MS ξ) → K (-1 - f) ξ) (fun l => ∀ ξ : Mem, Fr maL ο ξ → AmE A (-1) (MS ο) (MS ξ) → AmM ξ A l → m_amT m (l.length : Int) ξ K) := h
        cases hq : rdAm b n 7 ([] ++ [x.1]) x.2 with
        | inl e =>
          rw [hq] at h'
          intro ξ3 fr3 zf3 zp3 v
          exact fin e.1 e.2 v ξ3 (rdAm_f 6 _ _ _ (by simp) hq) h' fr3 zf3 zp3
        | inr l =>
          rw [hq] at h'
          intro ξ3 fr3 zf3 r3
          refine m_stops_t zf3 (fun ξ6 f6 s6 => ?_)
          rw [if_neg (by decide)]
          exact h' ξ6 (((Fr.mono f12 rfl).trans (Fr.mono fr3.1 rfl)).trans (Fr.mono f6 rfl)) (mkE _ ξ3 ξ6 fr3 s6) (r3.fr f6 rfl)
-- the class
def apL : List Nat := [14, 15, 16, 17, 2544]
def AcC (A : Int) (l : List Ln) (ν ξ : Mem) (i : Nat) : Prop := Fr [16, 17] ν ξ ∧ (∀ j : Int, j < 6 * A → rI ξ 16 j = rI ν 16 j ∧ rI ξ 17 j = rI ν 17 j) ∧ ∀ k : Nat, k < i → rI ξ 16 (6 * A + (k : Int)) = (l.getD k dL).2.1 ∧ rI ξ 17 (6 * A + (k : Int)) = (l.getD k dL).1
theorem c_addAm_l {A : Int} (hA : 0 ≤ A ∧ A < 40) {l : List Ln} (hw : WfCh l) {ν0 : Mem} (h0 : rI ν0 2544 0 = A) (hl : LrC ν0 l) {X : Mem → Prop} (h : ∀ ξ : Mem, AcC A l ν0 ξ l.length → X ξ) : ∀ (f i : Nat) (ν : Mem), i + f = l.length → AcC A l ν0 ν i → l_Papers_addAmendment_29 X (f + 1) (i : Int) ν
  | 0, i, ν, e, k => by
    have h6 := hw.1
    have l1 := (hl.fr k.1 rfl).1
    unfold l_Papers_addAmendment_29
    rw [l1]
    (try simp (disch := omega) only [w_id])
    rw [if_neg (by omega)]
    rw [show i = l.length by omega] at k
    exact h ν k
  | f + 1, i, ν, e, k => by
    have h6 := hw.1
    have hi : i < l.length := by omega
    have lr := hl.fr k.1 rfl
    have l1 := lr.1
    have l2 := lr.2 i hi
    have a1 : rI ν 2544 0 = A := by rw [k.1.rdI rfl]; exact h0
    have wi := hw.2 _ (getD_mem hi)
    unfold l_Papers_addAmendment_29
    rw [l1, a1]
    (try simp (disch := omega) only [w_id])
    rw [if_pos (by omega)]
    rw [show A * 6 + (i : Int) = 6 * A + (i : Int) by omega]
    intro μ4 e4 μ5 e5
    rw [at_in (by omega) (by omega) (by decide), l2.2, set_in (by omega) (by omega) (by decide)] at e4
    have a4 : rI μ4 2544 0 = A := by rw [e4, rI_ne _ _ _ _ rfl]; exact a1
    have n4 : rI μ4 65 (i : Int) = (l.getD i dL).1 := by rw [e4, rI_ne _ _ _ _ rfl]; exact l2.1
    rw [a4, at_in (by omega) (by omega) (by decide), n4, show A * 6 + (i : Int) = 6 * A + (i : Int) by omega, set_in (by omega) (by omega) (by decide)] at e5
    have ih := c_addAm_l hA hw h0 hl h f (i + 1) μ5 (by omega) ⟨?_, fun j hj => ?_, fun q hq => ?_⟩
    · exact ih
    · rw [e5, e4]; exact (k.1.wI (by decide)).wI (by decide)
    · have g := k.2.1 j hj
      rw [e5, rI_ne _ _ _ _ rfl, rI_sI _ _ _ _ 17, if_neg (fun y => by omega), e4, rI_sI, if_neg (fun y => by omega), rI_ne _ _ _ _ rfl]
      exact g
    · by_cases c : q < i
      · have g := k.2.2 q c
        rw [e5, rI_ne _ _ _ _ rfl, rI_sI _ _ _ _ 17, if_neg (fun y => by omega), e4, rI_sI, if_neg (fun y => by omega), rI_ne _ _ _ _ rfl]
        exact g
      · have eq : q = i := by omega
        rw [eq, e5, rI_ne _ _ _ _ rfl, rI_eq _ _ _ ⟨by omega, by omega⟩, e4, rI_eq _ _ _ ⟨by omega, by omega⟩]
        exact ⟨rfl, rfl⟩
theorem c_addAmendment {A m : Int} (hA : 0 ≤ A ∧ A < 40) (hm : Rg m) {l : List Ln} (hw : WfCh l) {ν : Mem} (h0 : rI ν 2544 0 = A) (hl : LrC ν l) {K : Int → Mem → Prop}
    (h : ∀ ξ : Mem, Fr apL ν ξ → (∀ j : Int, j < A → rI ξ 14 j = rI ν 14 j ∧ rI ξ 15 j = rI ν 15 j) → (∀ j : Int, j < 6 * A → rI ξ 16 j = rI ν 16 j ∧ rI ξ 17 j = rI ν 17 j) → rI ξ 14 A = m → rI ξ 15 A = (l.length : Int) → (∀ k : Nat, k < l.length → rI ξ 16 (6 * A + (k : Int)) = (l.getD k dL).2.1 ∧ rI ξ 17 (6 * A + (k : Int)) = (l.getD k dL).1) → rI ξ 2544 0 = A + 1 → K A ξ) : f_Papers_addAmendment m ν K := by
  have h6 := hw.1
  unfold f_Papers_addAmendment
  intro μ1 e1 μ2 e2
  rw [h0, set_in (by omega) (by omega) (by decide)] at e1
  have a1 : rI μ1 2544 0 = A := by rw [e1, rI_ne _ _ _ _ rfl]; exact h0
  have s1 : rI μ1 9195 0 = (l.length : Int) := by rw [e1, rI_ne _ _ _ _ rfl]; exact hl.1
  rw [a1, s1, set_in (by omega) (by omega) (by decide)] at e2
  have f2 : Fr [14, 15] ν μ2 := by rw [e2, e1]; exact ((FrP.refl _ _).wI (by decide)).wI (by decide)
  have a2 : rI μ2 2544 0 = A := by rw [f2.rdI rfl]; exact h0
  have o2 : ∀ j : Int, j < A → rI μ2 14 j = rI ν 14 j ∧ rI μ2 15 j = rI ν 15 j := fun j hj => by
    rw [e2, rI_ne _ _ _ _ rfl, rI_sI _ _ _ _ 15, if_neg (fun y => by omega), e1, rI_sI, if_neg (fun y => by omega), rI_ne _ _ _ _ rfl]
    exact ⟨rfl, rfl⟩
  have v2 : rI μ2 14 A = m ∧ rI μ2 15 A = (l.length : Int) := by
    rw [e2, rI_ne _ _ _ _ rfl, rI_eq _ _ _ ⟨by omega, by omega⟩, e1, rI_eq _ _ _ hm]
    exact ⟨rfl, rfl⟩
  clear e1 e2
  refine ⟨l.length + 1, c_addAm_l hA hw a2 (hl.fr f2 rfl) (fun ξ k => ?_) l.length 0 μ2 (by omega) ⟨FrP.refl _ _, fun _ _ => ⟨rfl, rfl⟩, fun q hq => absurd hq (by omega)⟩⟩
  obtain ⟨k1, k2, k3⟩ := k
  intro μ7 e7
  have ax : rI ξ 2544 0 = A := by rw [k1.rdI rfl]; exact a2
  rw [ax] at e7
  have f7 : Fr [2544] ξ μ7 := by rw [e7]; exact fr1 _ _ _ _
  have a7 : rI μ7 2544 0 = A + 1 := by rw [e7, rI_eq _ _ _ ⟨by omega, by omega⟩]
  clear e7
  rw [a7, show A + 1 - 1 = A by omega]
  refine h μ7 (((Fr.mono f2 rfl : Fr apL ν μ2).trans (Fr.mono k1 rfl)).trans (Fr.mono f7 rfl)) (fun j hj => ?_) (fun j hj => ?_) ?_ ?_ (fun k hk => ?_) a7
  · rw [f7.rdI rfl, k1.rdI rfl, f7.rdI rfl, k1.rdI rfl]; exact o2 j hj
  · rw [f7.rdI rfl, f7.rdI rfl]
    have g := k2 j hj
    rw [f2.rdI rfl, f2.rdI rfl] at g
    exact g
  · rw [f7.rdI rfl, k1.rdI rfl]; exact v2.1
  · rw [f7.rdI rfl, k1.rdI rfl]; exact v2.2
  · rw [f7.rdI rfl, f7.rdI rfl]; exact k3 k hk
