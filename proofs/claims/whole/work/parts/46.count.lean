/-! ROW AND COUNT -/
theorem st_row {a f : Int} (ha : Rg a) (hf : Rg f) {μ : Mem} (hI : Inv μ) : f_M_row a f μ (fun b ξ => Inv ξ ∧ ((0 ≤ a ∧ a < rI μ 11632 0 ∧ 0 ≤ f ∧ f < 7 ∧ rI ξ 15464 0 = 0 ∧ b = v_Chair_rowField a f μ) ∨ (¬ (0 ≤ a ∧ a < rI μ 11632 0 ∧ 0 ≤ f ∧ f < 7) ∧ rI ξ 15464 0 = 1))) := by
  obtain ⟨ha0, ha1⟩ := ha
  obtain ⟨hf0, hf1⟩ := hf
  have hV := hI.relV
  have er : rI μ 11632 0 = MS μ 15534 0 := (cr' rfl).trans hV.1
  have e0 : rI (sI μ 15464 0 0) 15534 0 = MS μ 15534 0 := by rw [mr rfl, thr_ms]
  have r1 := hV.2.1
  have r2 := hV.2.2.1
  have t0 : rI (sI μ 15464 0 0) 15464 0 = 0 := by rw [rI_sI, if_pos ⟨rfl, rfl⟩]; rfl
  have bad : ¬ (0 ≤ a ∧ a < rI μ 11632 0 ∧ 0 ≤ f ∧ f < 7) → ∀ ν : Mem, ν = sI (sI μ 15464 0 0) 15464 0 1 → Inv ν ∧ ((0 ≤ a ∧ a < rI μ 11632 0 ∧ 0 ≤ f ∧ f < 7 ∧ rI ν 15464 0 = 0 ∧ (0 : Int) = v_Chair_rowField a f μ) ∨ (¬ (0 ≤ a ∧ a < rI μ 11632 0 ∧ 0 ≤ f ∧ f < 7) ∧ rI ν 15464 0 = 1)) := fun z ν e => by
    subst e
    refine ⟨((thr_qt μ).trans (qt_sI rfl)).inv hI, Or.inr ⟨z, ?_⟩⟩
    rw [rI_sI, if_pos ⟨rfl, rfl⟩]; rfl
  unfold f_M_row
  intro μ1 e1
  subst e1
  rw [within_e hf0 hf1 (by decide) (by decide) (by decide) (by decide), e0]
  simp only [decide_eq_true_eq]
  (try simp (disch := omega) only [w_id])
  refine ite_i (fun q1 => bad (fun z => by omega)) (fun q1 => ite_i (fun q2 => ite_i (fun q3 => ?_) (fun q3 => bad (fun z => by omega))) (fun q2 => bad (fun z => by omega)))
  refine ⟨by omega, by omega, (thr_qt μ).inv hI, Or.inl ⟨by omega, by omega, by omega, by omega, t0, ?_⟩⟩
  unfold v_Chair_rowField
  rw [at_in (by omega) (by omega) (by decide), mr rfl, thr_ms, show a * 7 + f = 7 * a + f by omega, cr' rfl]
  exact (hV.2.2.2.1 (7 * a + f) (by omega) (by omega)).symm
def omN (σ : Sg) : Nat → Int
  | 0 => 0
  | n + 1 => omN σ n + (if hw σ (n : Int) = 0 then 1 else 0)
theorem omN_rng (σ : Sg) : ∀ n : Nat, 0 ≤ omN σ n ∧ omN σ n ≤ (n : Int)
  | 0 => by unfold omN; omega
  | n + 1 => by
    have := omN_rng σ n
    unfold omN
    split <;> omega
theorem c_open_l {σ : Sg} {μ : Mem} (hI : Ic σ μ) {K : Int → Prop} : ∀ n m : Nat, (m : Int) + (n : Int) = σ 15472 0 → K (omN σ (m + n)) → l_Floor_openMotions_4 μ K (n + 1) (omN σ m) (m : Int)
  | 0, m, e, h => by
    have hc := hI.cnt
    have eP : rI μ 2543 0 = σ 15472 0 := (cr' rfl).trans hI.relP.1
    unfold l_Floor_openMotions_4
    rw [eP]
    (try simp (disch := omega) only [w_id])
    rw [if_neg (by omega)]
    exact h
  | n + 1, m, e, h => by
    have hc := hI.cnt
    have eP : rI μ 2543 0 = σ 15472 0 := (cr' rfl).trans hI.relP.1
    unfold l_Floor_openMotions_4
    rw [eP, stateOf_e hI ⟨by omega, by omega⟩]
    have hr := hI.hwr (m : Int)
    (try simp (disch := omega) only [w_id])
    rw [if_pos (by omega)]
    intro x ex v ev
    have e1 : v = omN σ (m + 1) := by
      rw [ev, ex]
      rfl
    rw [e1]
    have := c_open_l hI (K := K) n (m + 1) (by omega) (by rw [show m + 1 + n = m + (n + 1) by omega]; exact h)
    exact this
theorem m_count10 {μ : Mem} (hI : Iv μ) {ν : Mem} (eM : MS ν = MS μ) {K : Int → Prop} : ∀ n m : Nat, (m : Int) + (n : Int) = MS μ 15472 0 → K (omN (MS μ) (m + n)) → l_M_count_124 ν K (n + 1) (omN (MS μ) m) (m : Int)
  | 0, m, e, h => by
    have hc := hI.cnt
    have eP : rI ν 15472 0 = MS μ 15472 0 := by rw [mr rfl, eM]
    unfold l_M_count_124
    rw [eP]
    (try simp (disch := omega) only [w_id])
    rw [if_neg (by omega)]
    exact h
  | n + 1, m, e, h => by
    have hc := hI.cnt
    have eP : rI ν 15472 0 = MS μ 15472 0 := by rw [mr rfl, eM]
    have hr := hI.hwr (m : Int)
    have eh : hw (MS μ) (m : Int) = MS μ 122 (m : Int) := by
      unfold hw hw3
      rw [if_pos ⟨by omega, by omega⟩]
    unfold l_M_count_124
    rw [eP]
    (try simp (disch := omega) only [w_id])
    have eH : rI ν 122 (m : Int) = MS μ 122 (m : Int) := by rw [mr rfl, eM]
    rw [if_pos (by omega), eH]
    (try simp (disch := omega) only [w_id])
    have ih := m_count10 hI eM (K := K) n (m + 1) (by omega) (by rw [show m + 1 + n = m + (n + 1) by omega]; exact h)
    have e1 : omN (MS μ) (m + 1) = omN (MS μ) m + (if hw (MS μ) (m : Int) = 0 then 1 else 0) := rfl
    rw [e1, eh] at ih
    refine ⟨by omega, by omega, ite_i (fun q => ?_) (fun q => ?_)⟩
    · rw [if_pos q] at ih
      exact ih
    · rw [if_neg q, Int.add_zero] at ih
      exact ih
def snN (σ : Sg) : Nat → Int
  | 0 => 0
  | n + 1 => snN σ n + (if σ 129 ((n : Int) + 1) = 0 then 0 else 1)
theorem snN_rng (σ : Sg) : ∀ n : Nat, 0 ≤ snN σ n ∧ snN σ n ≤ (n : Int)
  | 0 => by unfold snN; omega
  | n + 1 => by
    have := snN_rng σ n
    unfold snN
    split <;> omega
theorem m_count11 {σ : Sg} {ν : Mem} (eM : MS ν = σ) (hs : ∀ n : Int, 1 ≤ n → n ≤ 60 → -1 ≤ σ 129 n ∧ σ 129 n ≤ 1) {K : Int → Prop} : ∀ n m : Nat, m + n = 60 → K (snN σ 60) → l_M_count_154 ν K (n + 1) (snN σ m) ((m : Int) + 1)
  | 0, m, e, h => by
    unfold l_M_count_154
    (try simp (disch := omega) only [w_id])
    rw [if_pos (by omega), show m = 60 by omega]
    exact h
  | n + 1, m, e, h => by
    unfold l_M_count_154
    (try simp (disch := omega) only [w_id])
    have eH : rI ν 129 ((m : Int) + 1) = σ 129 ((m : Int) + 1) := by rw [mr rfl, eM]
    have hr := hs ((m : Int) + 1) (by omega) (by omega)
    rw [if_neg (by omega), eH]
    (try simp (disch := omega) only [w_id])
    have ih := m_count11 eM hs (K := K) n (m + 1) (by omega) h
    have e1 : snN σ (m + 1) = snN σ m + (if σ 129 ((m : Int) + 1) = 0 then 0 else 1) := rfl
    rw [e1] at ih
    refine ⟨by omega, by omega, ite_i (fun q => ?_) (fun q => ?_)⟩
    · rw [if_pos q, Int.add_zero] at ih
      exact ih
    · rw [if_neg q] at ih
      exact ih
theorem pc_sn {σ : Sg} {μ : Mem} (hI : Ic σ μ) : v_popL ((rL μ 9582 0) ||| (rL μ 9583 0)) = snN σ 60 := by
  rw [popL_e]
  have hz := fun n h => hI.standz (n := n) h
  have z : ∀ n : Nat, (n < 1 ∨ 60 < n) → (btl ((rL μ 9582 0) ||| (rL μ 9583 0)) n).toNat = 0 := fun n h => by
    rw [btl_or, (hz n h).1, (hz n h).2]; rfl
  have st : ∀ n : Nat, n < 60 → (((btl ((rL μ 9582 0) ||| (rL μ 9583 0)) (n + 1)).toNat : Nat) : Int) = if σ 129 ((n : Int) + 1) = 0 then 0 else 1 := fun n h => by
    have s := hI.stand (n := n + 1) (by omega) (by omega)
    have en : ((n + 1 : Nat) : Int) = (n : Int) + 1 := by omega
    rw [en] at s
    obtain ⟨s1, s2, s3, s4⟩ := s
    rw [btl_or]
    cases b1 : btl (rL μ 9582 0) (n + 1) with
    | true =>
      have := s3.mp b1
      rw [if_neg (by omega)]; rfl
    | false =>
      have q1 : ¬ σ 129 ((n : Int) + 1) = 1 := fun e => by rw [s3.mpr e] at b1; cases b1
      cases b2 : btl (rL μ 9583 0) (n + 1) with
      | true =>
        have := s4.mp b2
        rw [if_neg (by omega)]; rfl
      | false =>
        have q2 : ¬ σ 129 ((n : Int) + 1) = -1 := fun e => by rw [s4.mpr e] at b2; cases b2
        rw [if_pos (by omega)]; rfl
  generalize (rL μ 9582 0) ||| (rL μ 9583 0) = x at *
  have go : ∀ n : Nat, n ≤ 60 → ((pcN x (n + 1) : Nat) : Int) = snN σ n := by
    intro n
    induction n with
    | zero => intro _; show ((pcN x 0 + (btl x 0).toNat : Nat) : Int) = 0; rw [z 0 (by omega)]; rfl
    | succ n ih =>
      intro h
      have := ih (by omega)
      have e1 : pcN x (n + 1 + 1) = pcN x (n + 1) + (btl x (n + 1)).toNat := rfl
      have e2 : snN σ (n + 1) = snN σ n + (if σ 129 ((n : Int) + 1) = 0 then 0 else 1) := rfl
      have e3 := st n (by omega)
      rw [e1, e2, ← e3]
      omega
  have g := go 60 (by omega)
  have e : pcN x 64 = pcN x 61 := by
    show pcN x 61 + (btl x 61).toNat + (btl x 62).toNat + (btl x 63).toNat = pcN x 61
    rw [z 61 (by omega), z 62 (by omega), z 63 (by omega)]
    rfl
  rw [e]
  exact g
def cnO (σ : Sg) (f : Int) : Int :=
  if f = 0 then σ 15465 0 else if f = 1 then σ 15466 0 else if f = 2 then σ 15468 0 else if f = 3 then σ 15498 0 else if f = 4 then σ 15472 0
  else if f = 5 then σ 15474 0 else if f = 6 then σ 15479 0 else if f = 7 then Fo σ else if f = 8 then σ 15534 0 else if f = 9 then σ 15512 0
  else if f = 10 then omN σ (σ 15472 0).toNat else if f = 11 then snN σ 60 else -1
theorem if_imp {c : Prop} [Decidable c] {P Q : Prop} {x y : Int} {K : Int → Prop} (h : K (if c then x else y)) (p : K x → P) (q : K y → Q) : if c then P else Q := by
  by_cases e : c
  · rw [if_pos e] at h ⊢; exact p h
  · rw [if_neg e] at h ⊢; exact q h
theorem st_count {f : Int} (hf : Rg f) : Both Int (f_H_count f) (f_M_count f) := by
  obtain ⟨hf0, hf1⟩ := hf
  intro μ hI
  have hv := hI.iv
  have hR := hI.relR
  have hP := hI.relP
  have hV := hI.relV
  have hT := hI.relT
  have hc := hv.cnt
  have cC : ∀ (q : Nat) (j : Int), inC q = true → rI μ q j = CS μ q j := fun q j h => cr' h
  have go : ∀ K : Int → Mem → Prop, K (cnO (MS μ) f) μ → f_H_count f μ K := fun K h => by
    unfold f_H_count
    rw [cC _ _ rfl, cC _ _ rfl, cC _ _ rfl, cC _ _ rfl, cC _ _ rfl, cC _ _ rfl, cC _ _ rfl, cC _ _ rfl, cC _ _ rfl, cC _ _ rfl, w_id hf0 hf1]
    unfold cnO at h
    refine if_imp (K := fun x => K x μ) h (fun h => by rw [hR.2.2.2.1]; exact h) (fun h => ?_)
    refine if_imp (K := fun x => K x μ) h (fun h => by rw [hR.1]; exact h) (fun h => ?_)
    refine if_imp (K := fun x => K x μ) h (fun h => by rw [hR.2.1]; exact h) (fun h => ?_)
    refine if_imp (K := fun x => K x μ) h (fun h => by rw [hR.2.2.1]; exact h) (fun h => ?_)
    refine if_imp (K := fun x => K x μ) h (fun h => by rw [hP.1]; exact h) (fun h => ?_)
    refine if_imp (K := fun x => K x μ) h (fun h => by rw [hP.2.2.2.1]; exact h) (fun h => ?_)
    refine if_imp (K := fun x => K x μ) h (fun h => by rw [hP.2.2.2.2.2.2.1]; exact h) (fun h => ?_)
    refine if_imp (K := fun x => K x μ) h (fun h => by rw [← cC _ _ rfl, hv.force]; exact h) (fun h => ?_)
    refine if_imp (K := fun x => K x μ) h (fun h => by rw [hV.1]; exact h) (fun h => ?_)
    refine if_imp (K := fun x => K x μ) h (fun h => by rw [hT.1]; exact h) (fun h => ?_)
    refine if_imp (K := fun x => K x μ) h (fun h => ?_) (fun h => ?_)
    · refine ⟨(MS μ 15472 0).toNat + 1, c_open_l hv (K := fun x => K x μ) (MS μ 15472 0).toNat 0 (by omega) ?_⟩
      rw [Nat.zero_add]
      exact h
    · refine if_imp (K := fun x => K x μ) h (fun h => by rw [pc_sn hv]; exact h) (fun h => h)
  refine go _ ?_
  have eM := thr_ms μ
  have mM : ∀ (q : Nat) (j : Int), inM q = true → rI (sI μ 15464 0 0) q j = MS μ q j := fun q j h => by rw [mr h, eM]
  have hs : ∀ n : Int, 1 ≤ n → n ≤ 60 → -1 ≤ MS μ 129 n ∧ MS μ 129 n ≤ 1 := fun n h0 h1 => by
    have s := hv.stand (n := n.toNat) (by omega) (by omega)
    have en : ((n.toNat : Nat) : Int) = n := by omega
    rw [en] at s
    exact ⟨s.1, s.2.1⟩
  unfold f_M_count
  intro μ1 e1
  subst e1
  rw [mM _ _ rfl, mM _ _ rfl, mM _ _ rfl, mM _ _ rfl, mM _ _ rfl, mM _ _ rfl, mM _ _ rfl, mM _ _ rfl, mM _ _ rfl, mM _ _ rfl, w_id hf0 hf1]
  have hq := (thr_qt μ).inv hI
  have ok : cnO (MS μ) f = cnO (MS μ) f ∧ Inv (sI μ 15464 0 0) := ⟨rfl, hq⟩
  generalize hz : cnO (MS μ) f = Z at ok ⊢
  have h : Z = cnO (MS μ) f ∧ Inv (sI μ 15464 0 0) := ⟨hz.symm, hq⟩
  unfold cnO at h
  refine if_imp (K := fun x => Z = x ∧ Inv (sI μ 15464 0 0)) h (fun h => h) (fun h => ?_)
  refine if_imp (K := fun x => Z = x ∧ Inv (sI μ 15464 0 0)) h (fun h => h) (fun h => ?_)
  refine if_imp (K := fun x => Z = x ∧ Inv (sI μ 15464 0 0)) h (fun h => h) (fun h => ?_)
  refine if_imp (K := fun x => Z = x ∧ Inv (sI μ 15464 0 0)) h (fun h => h) (fun h => ?_)
  refine if_imp (K := fun x => Z = x ∧ Inv (sI μ 15464 0 0)) h (fun h => h) (fun h => ?_)
  refine if_imp (K := fun x => Z = x ∧ Inv (sI μ 15464 0 0)) h (fun h => h) (fun h => ?_)
  refine if_imp (K := fun x => Z = x ∧ Inv (sI μ 15464 0 0)) h (fun h => h) (fun h => ?_)
  refine if_imp (K := fun x => Z = x ∧ Inv (sI μ 15464 0 0)) h (fun h => h) (fun h => ?_)
  refine if_imp (K := fun x => Z = x ∧ Inv (sI μ 15464 0 0)) h (fun h => h) (fun h => ?_)
  refine if_imp (K := fun x => Z = x ∧ Inv (sI μ 15464 0 0)) h (fun h => h) (fun h => ?_)
  refine if_imp (K := fun x => Z = x ∧ Inv (sI μ 15464 0 0)) h (fun h => ?_) (fun h => ?_)
  · refine ⟨(MS μ 15472 0).toNat + 1, m_count10 hv eM (K := fun x => Z = x ∧ Inv (sI μ 15464 0 0)) (MS μ 15472 0).toNat 0 (by omega) ?_⟩
    rw [Nat.zero_add]
    exact h
  · refine if_imp (K := fun x => Z = x ∧ Inv (sI μ 15464 0 0)) h (fun h => ?_) (fun h => h)
    exact ⟨61, m_count11 eM hs (K := fun x => Z = x ∧ Inv (sI μ 15464 0 0)) 60 0 (by omega) h⟩
