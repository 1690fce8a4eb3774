/-! AMEND, both sides -/
def gPa (q : Nat) : Bool := Nat.beq q 15466 || Nat.beq q 117 || Nat.beq q 15472 || Nat.beq q 15479
def gPac (q : Nat) : Bool := Nat.beq q 13 || Nat.beq q 2543 || Nat.beq q 2545 || gRuc q
theorem RelP.am {κ κ' σ σ' : Sg} {A A' : Int} (hc : Lo gPac κ κ') (h : Lo gPa σ σ') (hr : RuE (σ 15479 0) σ σ') (k : RelP κ σ) (eA : σ 15474 0 = A) (hA : A ≤ A' ∧ A' ≤ 40) (e1 : κ' 2544 0 = A') (e2 : σ' 15474 0 = A')
    (old : ∀ j : Int, j < A → κ' 14 j = κ 14 j ∧ κ' 15 j = κ 15 j ∧ σ' 118 j = σ 118 j ∧ σ' 119 j = σ 119 j)
    (old6 : ∀ j : Int, j < 6 * A → κ' 16 j = κ 16 j ∧ κ' 17 j = κ 17 j ∧ σ' 120 j = σ 120 j ∧ σ' 121 j = σ 121 j)
    (nw : ∀ a : Int, A ≤ a → a < A' → κ' 14 a = σ' 118 a ∧ 0 ≤ σ' 118 a ∧ σ' 118 a < σ 15472 0 ∧ κ' 15 a = σ' 119 a ∧ 1 ≤ σ' 119 a ∧ σ' 119 a ≤ 6 ∧
      ∀ i : Int, 0 ≤ i → i < σ' 119 a → κ' 16 (6 * a + i) = σ' 120 (6 * a + i) ∧ 0 ≤ σ' 120 (6 * a + i) ∧ σ' 120 (6 * a + i) ≤ 2 ∧ κ' 17 (6 * a + i) = σ' 121 (6 * a + i) ∧ 1 ≤ (σ' 121 (6 * a + i)).natAbs ∧ (σ' 121 (6 * a + i)).natAbs ≤ 60) : RelP κ' σ' := by
  have hru : ∀ i : Int, -1 ≤ i → i < σ 15479 0 → RuOK κ' σ' (rIx i) i := fun i h0 h1 => by
    obtain ⟨-, -, -, -, -, -, -, -, h10, -, -, kr⟩ := k
    have rr := rIx_rng h0 (show i < 10 by omega)
    refine RuOK.pt h10 hr h0 h1 (fun q hq => ?_) (kr i h0 h1)
    have : gRuc q = true := gRuc_a (by unfold gid at hq; omega)
    exact hc q (by unfold gPac; rw [this]; simp)
  unfold RelP at *
  rw [e1, e2, h 15466 rfl, h 117 rfl, h 15472 rfl, h 15479 rfl, hc 13 rfl, hc 2543 rfl, hc 2545 rfl]
  rw [eA] at k
  have a0 := k.2.2.2.2.1
  refine ⟨k.1, k.2.1, k.2.2.1, rfl, by omega, by omega, k.2.2.2.2.2.2.1, k.2.2.2.2.2.2.2.1, k.2.2.2.2.2.2.2.2.1, k.2.2.2.2.2.2.2.2.2.1, fun a a0 a1 => ?_, hru⟩
  by_cases c : a < A
  · have g := k.2.2.2.2.2.2.2.2.2.2.1 a a0 c
    obtain ⟨o1, o2, o3, o4⟩ := old a c
    have g6 := g.2.2.2.2.2.1
    rw [o1, o2, o3, o4]
    refine ⟨g.1, g.2.1, g.2.2.1, g.2.2.2.1, g.2.2.2.2.1, g6, fun i i0 i1 => ?_⟩
    obtain ⟨p1, p2, p3, p4⟩ := old6 (6 * a + i) (by omega)
    rw [p1, p2, p3, p4]
    exact g.2.2.2.2.2.2 i i0 i1
  · exact nw a (by omega) a1
def aLf : List Nat := cLm ++ maL
theorem CL_fr {L : List Nat} {μ ξ : Mem} (f : Fr L μ ξ) (h : (lel L 9582 || lel L 9583 || lel L 11886 || lel L 11887) = false) : CL ξ = CL μ := by
  simp only [Bool.or_eq_false_iff] at h
  unfold CL
  rw [f.rdL h.1.1.1, f.rdL h.1.1.2, f.rdL h.1.2, f.rdL h.2]
theorem Inv.amB {μ ξ : Mem} (h : Inv μ) (f : Fr aLf μ ξ) {A p : Int} (hA : MS μ 15474 0 = A) (hM : AmE A p (MS μ) (MS ξ)) (h1 : rI ξ 2281 0 = 0) (h2 : rI ξ 2287 0 = p) : Inv ξ := by
  have lt : Lo gT (MS μ) (MS ξ) := hM.lo rfl
  have hc := h.iv.cnt
  refine ⟨by rw [f.1]; exact h.1, ?_⟩
  rw [CL_fr f rfl]
  refine ⟨h.wfR.lo (hM.lo rfl), h.wfT.lo lt, h.relR.lo (f.loC rfl) lt, ?_, ?_, RelF.lo (f.loC rfl) (hM.lo rfl) h.relF, RelV.lo (f.loC rfl) (hM.lo rfl) h.relV, h.relW.lo (f.loC (g := fun q => Nat.beq q 102) rfl 102 rfl) (f.loC (g := fun q => Nat.beq q 97) rfl 97 rfl) ((hM.lo (g := fun q => Nat.beq q 166) rfl) 166 rfl)⟩
  · have t1 : CS ξ 2281 0 = 0 := by rw [← cr' rfl]; exact h1
    have t2 : CS ξ 2287 0 = p := by rw [← cr' rfl]; exact h2
    have t3 : MS ξ 15512 0 = 0 := by
      rw [hM.1 _ rfl rfl]
      unfold rdS
      rw [up_ne _ _ _ rfl, up_at]
    have t4 : MS ξ 15519 0 = p := by
      rw [hM.1 _ rfl rfl]
      exact up_at _ _ _ _
    unfold RelT
    rw [t1, t2, t3, t4]
    exact ⟨rfl, by decide, by decide, rfl, fun j j0 j1 => absurd j0 (by omega)⟩
  · have lm : Lo (fun q => Nat.beq q 15474 || Nat.beq q 118 || Nat.beq q 119) (MS μ) (MS ξ) := hM.lo rfl
    have lc : Lo (fun q => Nat.beq q 2544 || Nat.beq q 14 || Nat.beq q 15 || Nat.beq q 16 || Nat.beq q 17) (CS μ) (CS ξ) := f.loC rfl
    refine RelP.am (A := A) (A' := A) (f.loC rfl) (hM.lo rfl) (hM.ru hc.2.2.2.2.2) h.relP hA (by omega) ?_ ?_ (fun j hj => ?_) (fun j hj => ?_) (fun a a0 a1 => by omega)
    · rw [lc _ rfl]; exact h.relP.2.2.2.1.trans hA
    · rw [lm _ rfl]; exact hA
    · rw [lc 14 rfl, lc 15 rfl, lm 118 rfl, lm 119 rfl]
      exact ⟨rfl, rfl, rfl, rfl⟩
    · rw [lc 16 rfl, lc 17 rfl]
      exact ⟨rfl, rfl, hM.2 j (Or.inl hj)⟩
theorem FlW.newA {σ σ' : Sg} {F : Fl} (h : FlW σ F) {A : Int} (hA : σ 15474 0 = A) (a0 : 0 ≤ A) (a1 : A < 40) (hm : σ 15472 0 ≤ 24) (e1 : σ' 15472 0 = σ 15472 0) (e2 : σ' 15474 0 = A + 1) (e3 : σ' 15479 0 = σ 15479 0) : FlW σ' (sHow F (100 + A) 0) := by
  obtain ⟨w1, w2, w3, w4, w5, w6, w7, w8⟩ := h
  have im : ∀ x : Int, isMt σ' x ↔ (isMt σ x ∨ x = 100 + A) := fun x => by
    unfold isMt
    rw [e1, e2, e3, hA]
    omega
  refine ⟨fun x => ?_, fun x hx => ?_, fun x hx => ?_, w4, fun m q0 q1 => ?_, w6, w7, by rw [e3]; exact w8⟩
  · show -1 ≤ (if x = 100 + A then 0 else F.1 x) ∧ (if x = 100 + A then 0 else F.1 x) ≤ 4
    have := w1 x
    split <;> omega
  · show 0 ≤ (if x = 100 + A then 0 else F.1 x)
    by_cases c : x = 100 + A
    · rw [if_pos c]; decide
    · rw [if_neg c]
      exact w2 x (((im x).mp hx).resolve_right c)
  · show (if x = 100 + A then 0 else F.1 x) = -1
    rw [if_neg (fun c => hx ((im x).mpr (Or.inr c)))]
    exact w3 x (fun c => hx ((im x).mpr (Or.inl c)))
  · rw [e1] at q0
    exact w5 m q0 q1
def atL : List Nat := [119, 118, 123, 15474, 15536]
theorem m_amT_e {σ : Sg} {ρ : Mem} {F : Fl} (hB : FlB σ ρ F) {A m v : Int} (hA : rI ρ 15474 0 = A) (sA : σ 15474 0 = A) (a0 : 0 ≤ A ∧ A < 40) (hm : Rg m) (hv : Rg v) (hmo : σ 15472 0 ≤ 24) {K : Int → Mem → Prop}
    (h : ∀ ξ : Mem, Fr atL ρ ξ → rI ξ 15474 0 = A + 1 → rI ξ 15536 0 = 0 → (∀ j : Int, j < A → rI ξ 118 j = rI ρ 118 j ∧ rI ξ 119 j = rI ρ 119 j) → rI ξ 118 A = m → rI ξ 119 A = v → (∀ σ' : Sg, σ' 15472 0 = σ 15472 0 → σ' 15474 0 = A + 1 → σ' 15479 0 = σ 15479 0 → FlB σ' ξ (sHow F (100 + A) 0)) → K A ξ) : m_amT m v ρ K := by
  unfold m_amT
  rw [hA]
  (try simp (disch := omega) only [w_id])
  refine ⟨by omega, by omega, fun μ1 e1 => ?_⟩
  have k1 : rI μ1 15474 0 = A := by rw [e1, rI_ne _ _ _ _ rfl]; exact hA
  rw [k1]
  (try simp (disch := omega) only [w_id])
  refine ⟨by omega, by omega, fun μ2 e2 => ?_⟩
  have k2 : rI μ2 15474 0 = A := by rw [e2, rI_ne _ _ _ _ rfl]; exact k1
  rw [k2]
  (try simp (disch := omega) only [w_id])
  refine ⟨by omega, by omega, fun μ3 e3 μ4 e4 μ5 e5 => ?_⟩
  have k3 : rI μ3 15474 0 = A := by rw [e3, rI_ne _ _ _ _ rfl]; exact k2
  rw [k3] at e4
  have f5 : Fr atL ρ μ5 := by rw [e5, e4, e3, e2, e1]; exact (((((FrP.refl _ _).wI (by decide)).wI (by decide)).wI (by decide)).wI (by decide)).wB (by decide)
  have k5 : rI μ5 15474 0 = A + 1 := by rw [e5, rI_sB, if_neg (by simp), e4, rI_eq _ _ _ ⟨by omega, by omega⟩]
  have z5 : rI μ5 15536 0 = 0 := by rw [e5, rI_sB, if_pos ⟨rfl, rfl⟩]; rfl
  have r3 : ∀ q : Nat, (q == 15474) = false → (q == 15536) = false → ∀ j : Int, rI μ5 q j = rI μ3 q j := fun q q1 q2 j => by
    rw [e5, rI_sB, if_neg (fun z => by rw [z.1] at q2; cases q2), e4, rI_ne _ _ _ _ q1]
  have o5 : ∀ j : Int, j < A → rI μ5 118 j = rI ρ 118 j ∧ rI μ5 119 j = rI ρ 119 j := fun j hj => by
    rw [r3 _ rfl rfl, r3 _ rfl rfl, e3, rI_ne _ _ _ _ rfl, rI_ne _ _ _ _ rfl, e2, rI_sI, if_neg (fun y => by omega), rI_ne _ _ _ _ rfl, e1, rI_ne _ _ _ _ rfl, rI_sI, if_neg (fun y => by omega)]
    exact ⟨rfl, rfl⟩
  have v5 : rI μ5 118 A = m ∧ rI μ5 119 A = v := by
    rw [r3 _ rfl rfl, r3 _ rfl rfl, e3, rI_ne _ _ _ _ rfl, rI_ne _ _ _ _ rfl, e2, rI_eq _ _ _ hm, rI_ne _ _ _ _ rfl, e1, rI_eq _ _ _ hv]
    exact ⟨rfl, rfl⟩
  have h5 : ∀ j : Int, ¬ j = A → rI μ5 123 j = rI ρ 123 j := fun j hj => by
    rw [r3 _ rfl rfl, e3, rI_sI, if_neg (fun y => hj y.2), e2, rI_ne _ _ _ _ rfl, e1, rI_ne _ _ _ _ rfl]
  have h6 : rI μ5 123 A = 0 := by
    rw [r3 _ rfl rfl, e3, rI_eq _ _ _ ⟨by decide, by decide⟩]
  clear e1 e2 e3 e4 e5 r3
  rw [k5, show A + 1 - 1 = A by omega]
  refine h μ5 f5 k5 z5 o5 v5.1 v5.2 (fun σ' s1 s2 s3 => ?_)
  obtain ⟨b1, b2, b3, b4, b5, b6⟩ := hB
  refine ⟨fun x x0 x1 => ?_, fun x x0 x1 => ?_, fun x x0 x1 => ?_, fun q q0 q1 => ?_, fun n n1 n2 => ?_, ?_⟩
  · rw [s1] at x1
    show rI μ5 122 x = if x = 100 + A then 0 else F.1 x
    rw [f5.rdI rfl, if_neg (by omega)]
    exact b1 x x0 x1
  · rw [s2] at x1
    show rI μ5 123 x = if 100 + x = 100 + A then 0 else F.1 (100 + x)
    by_cases c : x = A
    · rw [if_pos (by omega), c]; exact h6
    · rw [if_neg (by omega), h5 x c]
      exact b2 x x0 (by omega)
  · rw [s3] at x1
    show rI μ5 124 x = if 200 + x = 100 + A then 0 else F.1 (200 + x)
    rw [f5.rdI rfl, if_neg (by omega)]
    exact b3 x x0 x1
  · exact RowAt.fr (b4 q q0 q1) f5 rfl
  · rw [f5.rdI rfl]; exact b5 n n1 n2
  · rw [f5.rdI rfl]; exact b6
def aLc : List Nat := cLm ++ apL ++ [68, 11630]
def aLt : List Nat := aLc ++ maL ++ atL
theorem st_amend {a : Int} (ha : Rg a) : Both Int (f_H_amend a) (f_M_amend a) := by
  intro μ hI
  have hv := hI.iv
  have hct := hv.cnt
  obtain ⟨hb, hB, hBM⟩ := hv.bytes
  obtain ⟨ha0, ha1⟩ := id ha
  have eP : rI μ 2543 0 = MS μ 15472 0 := (cr' rfl).trans hI.relP.1
  have eA : rI μ 2544 0 = MS μ 15474 0 := (cr' rfl).trans hI.relP.2.2.2.1
  have no : ¬ ((0 ≤ a ∧ a < MS μ 15472 0 ∧ MS μ 122 a = 0) ∧ MS μ 15474 0 < 40) → f_M_amend a μ (fun r' ξ => -1 = r' ∧ Inv ξ) := fun z => by
    have eM := thr_ms μ
    unfold f_M_amend
    intro μ1 e1
    subst e1
    have ok : Inv (sI μ 15464 0 0) := (thr_qt μ).inv hI
    refine m_isOpen ha (by rw [eM]; omega) (fun q => ?_) (fun q => ?_)
    · rw [eM] at q
      rw [if_pos rfl, mr (q := 15474) rfl, eM]
      (try simp (disch := omega) only [w_id])
      rw [if_pos (by omega)]
      first | exact ⟨rfl, ok⟩ | exact ⟨trivial, ok⟩
    · rw [if_neg (by decide)]
      first | exact ⟨rfl, ok⟩ | exact ⟨trivial, ok⟩
  have hh : 0 ≤ a ∧ a < MS μ 15472 0 → hw (MS μ) a = MS μ 122 a := fun q => by
    unfold hw hw3
    rw [if_pos q]
  have hwr := hv.hwr a
  unfold f_H_amend
  rw [hasMo_e ha0 ha1, eP, stateOf_e hv ha, eA]
  simp only [decide_eq_true_eq]
  (try simp (disch := omega) only [w_id])
  refine ite_i (fun q1 => ?_) (fun q1 => no (fun z => q1 ⟨z.1.1, z.1.2.1⟩))
  rw [hh q1] at hwr ⊢
  (try simp (disch := omega) only [w_id])
  refine ite_i (fun q2 => ite_i (fun q3 => ?_) (fun q3 => no (fun z => q3 z.2))) (fun q2 => no (fun z => q2 z.1.2.2))
  obtain ⟨m0, m1⟩ := q1
  have hread : ∀ (ο : Mem) (K : Int → Mem → Prop), MS ο = MS μ → onR (ram (tb μ) (tn μ)) (fun f p => ∀ ξ : Mem, Fr maL ο ξ → AmE (MS μ 15474 0) (p : Int) (MS μ) (MS ξ) → K (-1 - f) ξ) (fun l => ∀ ξ : Mem, Fr maL ο ξ → AmE (MS μ 15474 0) (-1) (MS μ) (MS ξ) → AmM ξ (MS μ 15474 0) l → m_amT a (l.length : Int) ξ K) → f_M_amend a ο K := fun ο K eM h => by
    refine m_amend_read hb (hBM ο eM) ha (by rw [eM]; exact ⟨m0, m1, q2⟩) (by rw [eM]; omega) (A := MS μ 15474 0) (by rw [eM]) (by omega) ?_
    rw [eM]; exact h
  generalize hA : MS μ 15474 0 = A at *
  have a0 : 0 ≤ A := hct.2.2.1
  generalize tb μ = b at *
  generalize tn μ = n at *
  refine c_readAm hb hB ?_
  cases hr : ram b n with
  | inl e =>
    obtain ⟨f, p⟩ := e
    rw [hr] at hread
    intro ξ1 f1 z1 p1 μ2 e2
    simp only at z1 p1
    rw [if_neg (by decide)]
    have f2 : Fr cLm μ μ2 := by rw [e2]; exact (Fr.mono f1 rfl : Fr cLm μ ξ1).wI (by decide)
    have z2 : rI μ2 2286 0 = f := by rw [e2, rI_ne _ _ _ _ rfl]; exact z1
    have p2 : rI μ2 2287 0 = (p : Int) := by rw [e2, rI_ne _ _ _ _ rfl]; exact p1
    have l2 : rI μ2 2281 0 = 0 := by rw [e2, rI_eq _ _ _ ⟨by decide, by decide⟩]
    clear e2
    rw [z2]
    refine hread μ2 _ (f2.ms rfl) (fun ξ g s => ⟨rfl, ?_⟩)
    refine Inv.amB (p := (p : Int)) (A := A) hI ((Fr.mono f2 rfl : Fr aLf μ μ2).trans (Fr.mono g rfl)) hA s ?_ ?_
    · rw [g.rdI rfl]; exact l2
    · rw [g.rdI rfl]; exact p2
  | inr l =>
    rw [hr] at hread
    obtain ⟨wl, wn⟩ := rdAm_w 8 [] (tok b n 0) l ⟨by decide, fun x hx => absurd hx (by simp)⟩ hr
    have l6 := wl.1
    intro ξ1 f1 z1 p1 r1 μ2 e2
    rw [if_pos rfl]
    have f2 : Fr cLm μ μ2 := by rw [e2]; exact (Fr.mono f1 rfl : Fr cLm μ ξ1).wI (by decide)
    have p2 : rI μ2 2287 0 = -1 := by rw [e2, rI_ne _ _ _ _ rfl]; exact p1
    have l2 : rI μ2 2281 0 = 0 := by rw [e2, rI_eq _ _ _ ⟨by decide, by decide⟩]
    have r2 : LrC μ2 l := r1.fr (show Fr [2281] ξ1 μ2 by rw [e2]; exact fr1 _ _ _ _) rfl
    clear e2 r1 p1 z1 f1
    have eA2 : rI μ2 2544 0 = A := by rw [f2.rdI rfl]; exact eA
    refine c_addAmendment ⟨a0, q3⟩ ha wl eA2 r2 (fun ξ3 f3 o3 o36 v3 w3 x3 y3 => ?_)
    have A0 : FlA ξ3 (flC (MS μ)) := (hv.flA.fr f2 rfl rfl).fr f3 rfl rfl
    unfold f_Floor_bring
    refine c_put A0 ⟨by omega, by omega⟩ (by decide) (fun ξ4 f4 A4 => ?_)
    unfold f_Chair_closeLatest
    intro μ6 e6
    have f6 : Fr [11630] ξ4 μ6 := by rw [e6]; exact (FrP.refl _ _).wB (by decide)
    have st6 : rI μ6 11630 0 = 0 := by rw [e6, rI_sB, if_pos ⟨rfl, rfl⟩]; rfl
    have A6 := A4.fr f6 rfl rfl
    clear e6
    have f36 : Fr [68, 11630] ξ3 μ6 := (Fr.mono f4 rfl).trans (Fr.mono f6 rfl)
    have f26 : Fr (apL ++ [68, 11630]) μ2 μ6 := (Fr.mono f3 rfl).trans (Fr.mono f36 rfl)
    have f06 : Fr aLc μ μ6 := (Fr.mono f2 rfl).trans (Fr.mono f26 rfl)
    have eM6 : MS μ6 = MS μ := f06.ms rfl
    refine hread μ6 _ eM6 (fun ρ g s r => ?_)
    have W0 := hv.flW
    have am : ∀ q : Nat, ∀ j : Int, (q == 120) = false → (q == 121) = false → gK q = true → MS ρ q j = MS μ q j := fun q j k1 k2 k3 => by
      rw [s.1 q k1 k2]; exact congrFun (rdS_K (MS μ) (-1) q k3) j
    have B0 : FlB (MS μ) ρ (flC (MS μ)) := by
      have := hv.flB
      obtain ⟨b1, b2, b3, b4, b5, b6⟩ := this
      have lF : Lo gF (MS μ) (MS ρ) := s.lo rfl
      have e : ∀ q : Nat, gF q = true → inM q = true → ∀ j : Int, rI ρ q j = rI μ q j := fun q h1 h2 j => by
        rw [mr (μ := ρ) h2, mr (μ := μ) h2, lF q h1]
      refine ⟨fun x x0 x1 => by rw [e _ rfl rfl]; exact b1 x x0 x1, fun x x0 x1 => by rw [e _ rfl rfl]; exact b2 x x0 x1, fun x x0 x1 => by rw [e _ rfl rfl]; exact b3 x x0 x1, fun x x0 x1 => ⟨by rw [e _ rfl rfl]; exact (b4 x x0 x1).1, fun i hi => by rw [e _ rfl rfl, e _ rfl rfl, e _ rfl rfl]; exact (b4 x x0 x1).2 i hi⟩, fun x x0 x1 => by rw [e _ rfl rfl]; exact b5 x x0 x1, by rw [e _ rfl rfl]; exact b6⟩
    refine m_amT_e B0 (A := A) (by rw [mr rfl, am _ _ rfl rfl rfl]; exact hA) hA ⟨a0, q3⟩ ha ⟨by omega, by omega⟩ hct.2.1 (fun ξ fx k1 k2 k3 k4 k5 k6 => ⟨rfl, ?_⟩)
    have gO : Fr (maL ++ atL) μ6 ξ := (Fr.mono g rfl : Fr (maL ++ atL) μ6 ρ).trans (Fr.mono fx rfl)
    have ft : Fr aLt μ ξ := (Fr.mono f06 rfl).trans (Fr.mono gO rfl)
    have sx : ∀ q : Nat, lel atL q = false → MS ξ q = MS ρ q := fun q hq => by
      funext j
      unfold MS
      rw [fx.rdI hq]
    have sK : ∀ gg : Nat → Bool, gAm gg = true → (atL.all fun q => !(gg q)) = true → Lo gg (MS μ) (MS ξ) := fun gg h1 h2 q hq => by
      rw [sx q (all_nl h2 hq)]
      exact s.lo h1 q hq
    have x1 : MS ξ 15472 0 = MS μ 15472 0 := congrFun (sK (fun q => Nat.beq q 15472) rfl rfl _ rfl) 0
    have x2 : MS ξ 15474 0 = A + 1 := by rw [← mr rfl]; exact k1
    have x3' : MS ξ 15479 0 = MS μ 15479 0 := congrFun (sK (fun q => Nat.beq q 15479) rfl rfl _ rfl) 0
    have lr : Lo gR (MS μ) (MS ξ) := sK _ rfl rfl
    have lt : Lo gT (MS μ) (MS ξ) := sK _ rfl rfl
    refine ⟨by rw [ft.1]; exact hI.1, hI.wfR.lo lr, hI.wfT.lo lt, hI.relR.lo (ft.loC rfl) lt, ?_, ?_, ?_, ?_, ?_⟩
    · have t1 : CS ξ 2281 0 = 0 := by
        rw [← cr' rfl, gO.rdI rfl, f26.rdI rfl]; exact l2
      have t2 : CS ξ 2287 0 = -1 := by
        rw [← cr' rfl, gO.rdI rfl, f26.rdI rfl]; exact p2
      have t3 : MS ξ 15512 0 = 0 := by
        rw [sx _ rfl, s.1 _ rfl rfl]
        unfold rdS
        rw [up_ne _ _ _ rfl, up_at]
      have t4 : MS ξ 15519 0 = -1 := by
        rw [sx _ rfl, s.1 _ rfl rfl]
        exact up_at _ _ _ _
      unfold RelT
      rw [t1, t2, t3, t4]
      exact ⟨rfl, by decide, by decide, rfl, fun j j0 j1 => absurd j0 (by omega)⟩
    · have ru : RuE (MS μ 15479 0) (MS μ) (MS ξ) := by
        have u := s.ru (N := MS μ 15479 0) hct.2.2.2.2.2
        unfold RuE at u ⊢
        rw [sx 145 rfl, sx 146 rfl, sx 147 rfl, sx 148 rfl, sx 149 rfl, sx 143 rfl]
        exact u
      have cx : ∀ q : Nat, inC q = true → lel (maL ++ atL) q = false → lel [68, 11630] q = false → ∀ j : Int, CS ξ q j = rI ξ3 q j := fun q h1 h2 h3 j => by
        rw [← cr' h1, gO.rdI h2, f36.rdI h3]
      have c2 : ∀ q : Nat, inC q = true → lel cLm q = false → ∀ j : Int, rI μ2 q j = CS μ q j := fun q h1 h2 j => by
        rw [f2.rdI h2, cr' h1]
      refine RelP.am (A := A) (A' := A + 1) (ft.loC rfl) (sK _ rfl rfl) ru hI.relP hA (by omega) ?_ x2 (fun j hj => ?_) (fun j hj => ?_) (fun x x0 x1 => ?_)
      · rw [cx _ rfl rfl rfl]; exact y3
      · rw [cx _ rfl rfl rfl, cx _ rfl rfl rfl, (o3 j hj).1, (o3 j hj).2, c2 _ rfl rfl, c2 _ rfl rfl, ← mr (μ := ξ) rfl, ← mr (μ := ξ) rfl, (k3 j hj).1, (k3 j hj).2, mr (μ := ρ) rfl, mr (μ := ρ) rfl, am _ _ rfl rfl rfl, am _ _ rfl rfl rfl]
        exact ⟨rfl, rfl, rfl, rfl⟩
      · rw [cx _ rfl rfl rfl, cx _ rfl rfl rfl, (o36 j hj).1, (o36 j hj).2, c2 _ rfl rfl, c2 _ rfl rfl, sx _ rfl, sx _ rfl]
        exact ⟨rfl, rfl, s.2 j (Or.inl hj)⟩
      · have ex : x = A := by omega
        subst ex
        have e1 : MS ξ 118 x = a := by rw [← mr rfl]; exact k4
        have e2 : MS ξ 119 x = (l.length : Int) := by rw [← mr rfl]; exact k5
        rw [cx _ rfl rfl rfl, cx _ rfl rfl rfl, v3, w3, e1, e2]
        refine ⟨rfl, m0, m1, rfl, by omega, by omega, fun i i0 i1 => ?_⟩
        have ei : i = ((i.toNat : Nat) : Int) := by omega
        generalize i.toNat = k at ei
        subst ei
        have hk : k < l.length := by omega
        have wk := wl.2 _ (getD_mem hk)
        rw [cx _ rfl rfl rfl, cx _ rfl rfl rfl, (x3 k hk).1, (x3 k hk).2, sx _ rfl, sx _ rfl, ← mr (μ := ρ) rfl, ← mr (μ := ρ) rfl, (r k hk).1, (r k hk).2]
        exact ⟨rfl, wk.1, wk.2.1, rfl, wk.2.2.1, wk.2.2.2⟩
    · exact mk_relF (A6.fr gO rfl rfl) (k6 (MS ξ) x1 x2 x3') (W0.newA hA a0 q3 hct.2.1 x1 x2 x3') (StM.refl ξ) (by rw [x1, x2, x3']; omega)
    · have vv := hI.relV
      refine RelV.nov vv ?_ ?_ ?_ ?_ ?_ ?_
      · exact congrFun (ft.loC (g := fun q => Nat.beq q 11632) rfl _ rfl) 0
      · exact congrFun (sK (fun q => Nat.beq q 15534) rfl rfl _ rfl) 0
      · exact ft.loC (g := fun q => Nat.beq q 84) rfl _ rfl
      · exact sK (fun q => Nat.beq q 158) rfl rfl _ rfl
      · rw [← cr' rfl, gO.rdI rfl]; exact st6
      · rw [← mr rfl]; exact k2
    · exact hI.relW.lo (ft.loC (g := fun q => Nat.beq q 102) rfl 102 rfl) (ft.loC (g := fun q => Nat.beq q 97) rfl 97 rfl) (sK (fun q => Nat.beq q 166) rfl rfl 166 rfl)
