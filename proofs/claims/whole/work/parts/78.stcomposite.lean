/-! LOST and COMPOSITE, both sides -/
def lsL : List Nat := cmpL ++ [15464]
theorem st_lost {a : Int} (ha : Rg a) : Both Int (f_H_lost a) (f_M_lost a) := by
  intro μ hI
  have hv := hI.iv
  have hrw := hv.rw
  have hct := hv.cnt
  have mdl : ∀ (ν : Mem) (r : Int), Fr cmpL μ ν → (vl2 (MS μ) a → okC (lenI (MS μ) (Fo (MS μ))).toNat (rwB (MS μ) a) → r = ((loC (lenI (MS μ) (Fo (MS μ))).toNat (rwB (MS μ) a) : Nat) : Int)) → (¬ (vl2 (MS μ) a ∧ okC (lenI (MS μ) (Fo (MS μ))).toNat (rwB (MS μ) a)) → r = -1) → f_M_lost a ν (fun r' ξ => r = r' ∧ Inv ξ) := fun ν r fr h1 h2 => by
    unfold f_M_lost
    intro μ1 e1
    have f1 : Fr lsL μ μ1 := (Fr.mono fr rfl).trans (by rw [e1]; exact (FrP.refl _ _).wI (by decide))
    have eM : MS μ1 = MS μ := f1.ms rfl
    have i1 : Inv μ1 := (f1.qt rfl).inv hI
    refine m_areOpen ha (lo := 2) (hi := 8) ⟨by decide, by decide⟩ (by rw [eM]; omega) (fun y => ?_) (fun y => ?_)
    · rw [eM] at y
      obtain ⟨⟨⟨a0, a1⟩, l8, op⟩, l2⟩ := y
      rw [if_pos rfl]
      refine m_composes (QS.ms hv.qm eM) (by rw [eM]; exact hrw) ⟨a0, a1⟩ (fun m hm hb => by rw [eM]; exact (op m hm hb).1) l8 (fun ok ξ fx cx lx => ?_) (fun no ξ fx => ?_)
      · rw [eM] at ok lx
        intro x e
        rw [if_pos rfl, lx] at e
        exact ⟨(h1 ⟨⟨⟨a0, a1⟩, l8, op⟩, l2⟩ ok).trans e.symm, (fx.qt rfl).inv i1⟩
      · rw [eM] at no
        intro x e
        rw [if_neg (by decide)] at e
        exact ⟨(h2 (fun z => no z.2)).trans e.symm, (fx.qt rfl).inv i1⟩
    · rw [eM] at y
      rw [if_neg (by decide)]
      exact ⟨h2 (fun z => y z.1), i1⟩
  unfold f_H_lost
  exact c_lostByAll hv ha (fun v ok ξ fx _ _ _ _ _ => mdl ξ _ fx (fun _ _ => rfl) (fun z => absurd ⟨v, ok⟩ z)) (fun no ξ fx => mdl ξ _ fx (fun v ok => absurd ⟨v, ok⟩ no) (fun _ => rfl))
theorem RowM.app {ν : Mem} {l : List Ln} (hl : RowM ν l) (h12 : l.length < 12) {v : Int} (hv : Rg v) {b : Bool} {μ6 μ7 μ8 μ9 : Mem} (e6 : μ6 = sI ν 155 (l.length : Int) v) (e7 : μ7 = sB μ6 156 (l.length : Int) b) (e8 : μ8 = sI μ7 157 (l.length : Int) (-1)) (e9 : μ9 = sI μ8 15533 0 ((l.length : Int) + 1)) : RowM μ9 (l ++ [(v, b2i b, -1)]) := by
  refine RowM.mk ?_ (fun i hi => ?_)
  · rw [e9, rI_eq _ _ _ ⟨by omega, by omega⟩, List.length_append]
    simp only [List.length_cons, List.length_nil]
    omega
  · rw [List.length_append] at hi
    simp only [List.length_cons, List.length_nil] at hi
    rw [getD_app, e9, rI_ne _ _ _ _ rfl, rI_ne _ _ _ _ rfl, rI_ne _ _ _ _ rfl, e8, rI_ne _ _ _ _ rfl, rI_ne _ _ _ _ rfl, e7, rI_sB, if_neg (by simp), rI_sB _ _ _ _ 156]
    by_cases c : i < l.length
    · have k := hl.at c
      rw [if_pos c, if_neg (fun z => by omega), rI_sI _ _ _ _ 157, if_neg (fun z => by omega), rI_sB, if_neg (by simp), e6, rI_sI _ _ _ _ 155, if_neg (fun z => by omega), rI_ne _ _ _ _ rfl, rI_ne _ _ _ _ rfl]
      exact k
    · have ei : i = l.length := by omega
      rw [if_neg c, if_pos ei, ei, if_pos ⟨rfl, rfl⟩, rI_eq _ _ _ ⟨by decide, by decide⟩, e6, rI_eq _ _ _ hv]
      exact ⟨rfl, rfl, rfl⟩
def pmM (s m : Nat) : Int → Bool := fun y => decide ((m : Int) ≤ y ∧ y < 24) && s.testBit y.toNat
theorem pmM_s {s m : Nat} (hm : m < 24) (b : s.testBit m = true) : (fun y => pmM s (m + 1) y || decide (y = (m : Int))) = pmM s m := by
  funext y
  unfold pmM
  by_cases c : y = (m : Int)
  · rw [decide_eq_true c, Bool.or_true, c, decide_eq_true ⟨by omega, by omega⟩, Bool.true_and, show ((m : Int).toNat) = m by omega, b]
  · rw [decide_eq_false c, Bool.or_false]
    congr 1
    rw [decide_eq_decide]
    omega
theorem pmM_n {s m : Nat} (b : ¬ s.testBit m = true) : pmM s (m + 1) = pmM s m := by
  funext y
  unfold pmM
  by_cases c : y = (m : Int)
  · rw [c, show ((m : Int).toNat) = m by omega, bool_f b, Bool.and_false, Bool.and_false]
  · congr 1
    rw [decide_eq_decide]
    omega
theorem pmM_C (s : Nat) : pmM s 0 = pmC (chN s 24) (chN s 24).length := by
  funext y
  unfold pmM pmC
  rw [List.take_length, Bool.eq_iff_iff, Bool.and_eq_true, decide_eq_true_eq, decide_eq_true_eq, chN_mem]
  constructor
  · rintro ⟨⟨h0, h1⟩, h2⟩
    exact ⟨y.toNat, by omega, by omega, h2⟩
  · rintro ⟨k, k1, k2, k3⟩
    exact ⟨⟨by omega, by omega⟩, by rw [show y.toNat = k by omega]; exact k3⟩
def lsF (s m : Nat) (v : Int) : Prop := (v = -1 ∧ ∀ k : Nat, m ≤ k → k < 24 → s.testBit k = false) ∨ ∃ n : Nat, v = (n : Int) ∧ m ≤ n ∧ n < 24 ∧ s.testBit n = true ∧ ∀ k : Nat, m ≤ k → k < n → s.testBit k = false
theorem chN_hd {s n : Nat} (hn : n < 24) (b : s.testBit n = true) (lo : ∀ k : Nat, k < n → s.testBit k = false) : gI (chN s 24) 0 = (n : Int) := by
  have z : ∀ k : Nat, k ≤ n → chN s k = [] := by
    intro k
    induction k with
    | zero => intro _; rfl
    | succ k ih =>
      intro hk
      unfold chN
      rw [if_neg (by rw [lo k (by omega)]; decide)]
      exact ih (by omega)
  have g : ∀ k : Nat, ∃ l : List Int, chN s (n + 1 + k) = (n : Int) :: l := by
    intro k
    induction k with
    | zero =>
      refine ⟨[], ?_⟩
      show chN s (n + 1) = _
      unfold chN
      rw [if_pos b, z n (Nat.le_refl _)]
      rfl
    | succ k ih =>
      obtain ⟨l, hl⟩ := ih
      have e : chN s (n + 1 + (k + 1)) = if s.testBit (n + 1 + k) = true then chN s (n + 1 + k) ++ [((n + 1 + k : Nat) : Int)] else chN s (n + 1 + k) := rfl
      rw [e, hl]
      split
      · exact ⟨l ++ [((n + 1 + k : Nat) : Int)], rfl⟩
      · exact ⟨l, rfl⟩
  obtain ⟨l, hl⟩ := g (23 - n)
  rw [show n + 1 + (23 - n) = 24 by omega] at hl
  rw [hl]
  rfl
theorem m_cClose {σ : Sg} {ρ0 : Mem} (hS : StM σ ρ0) (hC : CtW σ) {F : Fl} {s : Nat} (hs : s < 16777216) (hb : ∀ m : Nat, m < 24 → s.testBit m = true → (m : Int) < σ 15472 0) {X : Int → Mem → Prop}
    (h : ∀ (v : Int) (ξ : Mem), Fr hoL ρ0 ξ → FlB σ ξ (clS σ F (pmM s 0)) → FlW σ (clS σ F (pmM s 0)) → lsF s 0 v → X v ξ) :
    ∀ (m : Nat) (v : Int) (ν : Mem), (m : Int) ≤ σ 15472 0 → Fr hoL ρ0 ν → FlB σ ν (clS σ F (pmM s m)) → FlW σ (clS σ F (pmM s m)) → lsF s m v → l_M_composite_125 (s : Int) X (m + 1) v ((m : Int) - 1) ν
  | 0, v, ν, hm, fr, hB, hW, hl => by
    unfold l_M_composite_125
    (try simp (disch := omega) only [w_id])
    rw [if_pos (by omega)]
    exact h v ν fr hB hW hl
  | m + 1, v, ν, hm, fr, hB, hW, hl => by
    have hct := hC.1
    have m24 : m < 24 := by omega
    have e1 : ((m + 1 : Nat) : Int) - 1 = (m : Int) := by omega
    unfold l_M_composite_125
    rw [e1]
    (try simp (disch := omega) only [w_id])
    rw [if_neg (by omega), sbit_e (v := (s : Int)) (i := (m : Int)) (by omega) (by omega), show ((s : Int).toNat) = s by omega, show ((m : Int).toNat) = m by omega]
    have ec : (m : Int) + -1 = (m : Int) - 1 := by omega
    by_cases b : s.testBit m = true
    · rw [if_pos b]
      (try simp (disch := omega) only [w_id])
      rw [if_neg (by decide)]
      have hmm := hb m m24 b
      refine m_settles hB (hS.fr fr rfl) hC hW.1 ⟨by omega, hmm⟩ (by decide) (fun ξ fx Bx => ?_)
      have Wx := clF_W hW (m := (m : Int)) (v := 4) ⟨by omega, hmm⟩ (by decide)
      have es := clS_s (σ := σ) (F := F) (p := pmM s (m + 1)) (m := (m : Int)) ⟨by omega, by omega⟩ (fun y hy => by
        unfold pmM at hy
        rw [Bool.and_eq_true] at hy
        have := (of_decide_eq_true hy.1).2
        omega)
      rw [pmM_s m24 b] at es
      rw [es] at Bx Wx
      have g := m_cClose hS hC (F := F) hs hb h m (m : Int) ξ (by omega) (fr.trans fx) Bx Wx (Or.inr ⟨m, rfl, Nat.le_refl _, m24, b, fun k k1 k2 => by omega⟩)
      rw [ec]
      exact g
    · rw [if_neg b]
      (try simp (disch := omega) only [w_id])
      rw [if_pos trivial]
      rw [pmM_n b] at hB hW
      have g := m_cClose hS hC (F := F) hs hb h m v ν (by omega) fr hB hW (by
        rcases hl with ⟨l1, l2⟩ | ⟨n, n1, n2, n3, n4, n5⟩
        · refine Or.inl ⟨l1, fun k k1 k2 => ?_⟩
          by_cases c : k = m
          · rw [c]; exact bool_f b
          · exact l2 k (by omega) k2
        · refine Or.inr ⟨n, n1, by omega, n3, n4, fun k k1 k2 => ?_⟩
          by_cases c : k = m
          · rw [c]; exact bool_f b
          · exact n5 k (by omega) k2)
      rw [ec]
      exact g
theorem m_cLines {R : List (List Ln)} {k : Nat → Bool} (hk : ∀ n : Nat, k n = true → 0 < cnt R n) (hw : WfL (kpLn R k 60)) {a : Int} {ν0 : Mem} (hc : CoM ν0 R k) {X : Mem → Prop} (h : ∀ ξ : Mem, Fr rmL ν0 ξ → RowM ξ (kpLn R k 60) → X ξ) :
    ∀ (f i : Nat) (ν : Mem), i + f = 60 → Fr rmL ν0 ν → RowM ν (kpLn R k i) → l_M_composite_42 a X (f + 1) ((i : Int) + 1) ν
  | 0, i, ν, e, fr, hr => by
    unfold l_M_composite_42
    (try simp (disch := omega) only [w_id])
    rw [if_pos (by omega)]
    rw [show i = 60 by omega] at hr
    exact h ν fr hr
  | f + 1, i, ν, e, fr, hr => by
    have l13 : (kpLn R k (i + 1)).length ≤ 12 := Nat.le_trans (kpLn_le R k (m := i + 1) (n := 60) (by omega)) hw.1
    have st : kpLn R k (i + 1) = if k (i + 1) = true then kpLn R k i ++ [(wyO R (i + 1), b2i (musA R (i + 1)), -1)] else kpLn R k i := rfl
    have ec : (i : Int) + 1 = ((i + 1 : Nat) : Int) := by omega
    obtain ⟨c1, c2, c3, c4⟩ := hc (i + 1) (by omega) (by omega)
    have bt : rB ν 162 ((i + 1 : Nat) : Int) = k (i + 1) := by
      rw [rB_rI, fr.rdI rfl, c4]
      cases k (i + 1) <;> rfl
    have nr := hr.n
    unfold l_M_composite_42
    (try simp (disch := omega) only [w_id])
    rw [if_neg (by omega), ec, bt]
    refine ⟨by omega, by omega, ?_⟩
    by_cases c : k (i + 1) = true
    · rw [if_pos c] at st ⊢
      have hcn := hk _ c
      have wa := wyO_abs hcn
      rw [st, List.length_append] at l13
      simp only [List.length_cons, List.length_nil] at l13
      rw [nr]
      (try simp (disch := omega) only [w_id])
      refine ⟨by omega, by omega, by omega, by omega, fun μ6 e6 => ?_⟩
      have n6 : rI μ6 15533 0 = ((kpLn R k i).length : Int) := by rw [e6, rI_ne _ _ _ _ rfl]; exact nr
      rw [n6]
      (try simp (disch := omega) only [w_id])
      refine ⟨by omega, by omega, by omega, by omega, fun μ7 e7 => ?_⟩
      have n7 : rI μ7 15533 0 = ((kpLn R k i).length : Int) := by rw [e7, rI_sB, if_neg (by simp)]; exact n6
      rw [n7]
      (try simp (disch := omega) only [w_id])
      refine ⟨by omega, by omega, fun μ8 e8 μ9 e9 => ?_⟩
      have n8 : rI μ8 15533 0 = ((kpLn R k i).length : Int) := by rw [e8, rI_ne _ _ _ _ rfl]; exact n7
      rw [n8] at e9
      have wv : rI ν 159 ((i + 1 : Nat) : Int) = wyO R (i + 1) := by rw [fr.rdI rfl]; exact c1
      have mv : rB μ6 160 ((i + 1 : Nat) : Int) = musA R (i + 1) := by
        rw [rB_rI, e6, rI_ne _ _ _ _ rfl, fr.rdI rfl, c2]
        cases musA R (i + 1) <;> rfl
      rw [wv] at e6
      rw [mv] at e7
      have f9 : Fr rmL ν μ9 := by rw [e9, e8, e7, e6]; exact ((((FrP.refl _ _).wI (by decide)).wB (by decide)).wI (by decide)).wI (by decide)
      have r9 := hr.app (by omega) (v := wyO R (i + 1)) ⟨by omega, by omega⟩ e6 e7 e8 e9
      have g := m_cLines hk hw (a := a) hc h f (i + 1) μ9 (by omega) (fr.trans f9) (by rw [st]; exact r9)
      exact g
    · rw [if_neg c] at st ⊢
      have g := m_cLines hk hw (a := a) hc h f (i + 1) ν (by omega) fr (by rw [st]; exact hr)
      exact g
def mcoL : List Nat := [15464] ++ coL ++ rmL ++ hoL ++ cmL
theorem m_composite {a : Int} (ha : Rg a) {σ : Sg} {ρ : Mem} (eM : MS ρ = σ) (hq : QS σ) (hrw : RwW σ) (hW : FlW σ (flC σ)) (hB : FlB σ ρ (flC σ)) (hmv : ∀ m : Int, 0 ≤ m → m < σ 15472 0 → Rg (σ 117 m)) (m24 : σ 15472 0 < 24) {K : Int → Mem → Prop}
    (h1 : vl2 σ a → okC (lenI σ (Fo σ)).toNat (rwB σ a) → ∀ ξ : Mem, Fr mcoL ρ ξ → rI ξ 15472 0 = σ 15472 0 + 1 → rI ξ 15536 0 = 0 → (∀ j : Int, ¬ j = σ 15472 0 → rI ξ 117 j = rI ρ 117 j) → rI ξ 117 (σ 15472 0) = σ 117 (gI (chN a.toNat 24) 0) → FlW σ (clS σ (flC σ) (pmC (chN a.toNat 24) (chN a.toNat 24).length)) →
      (∀ σ' : Sg, σ' 15472 0 = σ 15472 0 + 1 → σ' 15474 0 = σ 15474 0 → σ' 15479 0 = σ 15479 0 → FlB σ' ξ (nwF (clS σ (flC σ) (pmC (chN a.toNat 24) (chN a.toNat 24).length)) (σ 15472 0) (keptL (lenI σ (Fo σ)).toNat (rwB σ a)))) → K (σ 15472 0) ξ)
    (h2 : ¬ (vl2 σ a ∧ okC (lenI σ (Fo σ)).toNat (rwB σ a)) → ∀ ξ : Mem, Fr ([15464] ++ coL) ρ ξ → K (-1) ξ) : f_M_composite a ρ K := by
  have hct := hrw.1
  unfold f_M_composite
  intro μ1 e1
  have f1 : Fr [15464] ρ μ1 := by rw [e1]; exact fr1 _ _ _ _
  have eM1 : MS μ1 = σ := (f1.ms rfl).trans eM
  have k1 : rI μ1 15472 0 = σ 15472 0 := by rw [mr rfl, eM1]
  clear e1
  rw [k1]
  (try simp (disch := omega) only [w_id])
  rw [if_neg (by omega)]
  refine m_areOpen ha (lo := 2) (hi := 8) ⟨by decide, by decide⟩ (by rw [eM1]; omega) (fun y => ?_) (fun y => ?_)
  · rw [eM1] at y
    obtain ⟨⟨⟨a0, a1⟩, l8, op⟩, l2⟩ := y
    rw [if_pos rfl]
    have hb : ∀ m : Nat, m < 24 → a.toNat.testBit m = true → (m : Int) < σ 15472 0 := fun m hm hb => (op m hm hb).1
    refine m_composes (QS.ms (by rw [eM]; exact hq) ((f1.ms rfl))) (by rw [eM1]; exact hrw) ⟨a0, a1⟩ (fun m hm z => by rw [eM1]; exact hb m hm z) l8 (fun ok ξ fx cx lx => ?_) (fun no ξ fx => ?_)
    · rw [eM1] at ok cx
      rw [if_pos rfl]
      intro μ4 e4
      have f4 : Fr rmL ξ μ4 := by rw [e4]; exact (FrP.refl _ _).wI (by decide)
      have r4 : RowM μ4 [] := RowM.mk (by rw [e4, rI_eq _ _ _ ⟨by decide, by decide⟩]; rfl) (fun i hi => absurd hi (by simp))
      have c4 : CoM μ4 (rwB σ a) (kpC (lenI σ (Fo σ)).toNat (rwB σ a)) := cx.fr f4 rfl
      clear e4
      have lr : lenI σ (Fo σ) ≤ 12 := by
        obtain ⟨κ, hru⟩ := hq.2.2.2
        exact hru.2.2.2.2.2.1
      have wl : WfL (keptL (lenI σ (Fo σ)).toNat (rwB σ a)) := keptL_wf ok.2 (by omega)
      refine ⟨61, m_cLines (fun n hn => kpC_pos hn) wl (a := a) c4 (fun ξ5 f5 r5 => ?_) 60 0 μ4 rfl (FrP.refl _ _) r4⟩
      have f05 : Fr ([15464] ++ coL ++ rmL) ρ ξ5 := (((Fr.mono f1 rfl : Fr ([15464] ++ coL ++ rmL) ρ μ1).trans (Fr.mono fx rfl)).trans (Fr.mono f4 rfl)).trans (Fr.mono f5 rfl)
      have eM5 : MS ξ5 = σ := (f05.ms rfl).trans eM
      have S5 : StM σ ξ5 := by rw [← eM5]; exact StM.refl ξ5
      have B5 : FlB σ ξ5 (flC σ) := hB.fr f05 rfl rfl
      have k5 : rI ξ5 15472 0 = σ 15472 0 := by rw [mr rfl, eM5]
      intro v3 e3
      rw [k5] at e3
      obtain ⟨s, hs⟩ : ∃ s : Nat, a = (s : Int) := ⟨a.toNat, by omega⟩
      have es : a.toNat = s := by omega
      rw [es] at hb h1 l8 l2
      have p0 : ∀ y : Int, pmM s (σ 15472 0).toNat y = false := fun y => by
        unfold pmM
        cases hd : decide (((σ 15472 0).toNat : Int) ≤ y ∧ y < 24) with
        | false => rfl
        | true =>
          have hd := of_decide_eq_true hd
          rw [Bool.true_and]
          refine bool_f (fun z => ?_)
          have := hb y.toNat (by omega) z
          omega
      have eF := clS_0 (σ := σ) (F := flC σ) p0
      refine ⟨(σ 15472 0).toNat + 1, ?_⟩
      have go := m_cClose S5 ⟨hrw.1, hrw.2.2⟩ (F := flC σ) (s := s) (by omega) hb (X := fun (v2_2 : Int) (μ_13 : Mem) => 0 ≤ w v2_2 ∧ w v2_2 < ((24 : Nat) : Int) ∧ f_M_comes (rI μ_13 117 (w v2_2)) μ_13 (fun r161 μ_14 => K r161 μ_14)) (fun v ξ6 f6 B6 W6 l6 => ?_) (σ 15472 0).toNat (-1) ξ5 (by omega) (FrP.refl _ _) (by rw [eF]; exact B5) (by rw [eF]; exact hW) (Or.inl ⟨rfl, fun k hk h24 => bool_f (fun z => by have := hb k h24 z; omega)⟩)
      · rw [show (((σ 15472 0).toNat : Nat) : Int) - 1 = v3 by omega, ← hs] at go
        exact go
      · rcases l6 with ⟨-, l6⟩ | ⟨n, n1, -, n3, n4, n5⟩
        · exfalso
          have z : ∀ k : Nat, k ≤ 24 → chN s k = [] := by
            intro k
            induction k with
            | zero => intro _; rfl
            | succ k ih =>
              intro hk
              unfold chN
              rw [if_neg (by rw [l6 k (Nat.zero_le _) (by omega)]; decide)]
              exact ih (by omega)
          rw [z 24 (Nat.le_refl _)] at l2
          simp at l2
        · have hn := hb n n3 n4
          have hd := chN_hd n3 n4 (fun k hk => n5 k (Nat.zero_le _) hk)
          rw [pmM_C] at B6 W6
          have mv6 : rI ξ6 117 (n : Int) = σ 117 (n : Int) := by rw [f6.rdI rfl, mr rfl, eM5]
          rw [n1]
          (try simp (disch := omega) only [w_id])
          refine ⟨by omega, by omega, ?_⟩
          rw [mv6]
          refine m_comes B6 W6 (M := σ 15472 0) (by rw [f6.rdI rfl]; exact k5) rfl hct.1 m24 (hmv _ (by omega) hn) (r5.fr f6 rfl) wl (fun ο fo o1 o2 o3 o4 o5 => ?_)
          refine h1 ⟨⟨⟨a0, a1⟩, by rw [es]; exact l8, op⟩, by rw [es]; exact l2⟩ ok ο (((Fr.mono f05 rfl : Fr mcoL ρ ξ5).trans (Fr.mono f6 rfl)).trans (Fr.mono fo rfl)) o1 o2 (fun j hj => ?_) ?_ W6 o5
          · rw [o3 j hj, f6.rdI rfl, f05.rdI rfl]
          · rw [o4, hd]
    · rw [eM1] at no
      rw [if_neg (by decide)]
      exact h2 (fun z => no z.2) ξ ((Fr.mono f1 rfl).trans (Fr.mono fx rfl))
  · rw [eM1] at y
    rw [if_neg (by decide)]
    exact h2 (fun z => y z.1) μ1 (Fr.mono f1 rfl)
def cLc : List Nat := cmpL ++ [11630] ++ abL ++ flL
theorem st_composite {a : Int} (ha : Rg a) : Both Int (f_H_composite a) (f_M_composite a) := by
  intro μ hI
  have hv := hI.iv
  have hrw := hv.rw
  have hct := hv.cnt
  have hP := hI.relP
  unfold RelP at hP
  have eP : rI μ 2543 0 = MS μ 15472 0 := (cr' rfl).trans hP.1
  have hA0 := hI.wfR.1
  have hmv : ∀ m : Int, 0 ≤ m → m < MS μ 15472 0 → rI μ 13 m = MS μ 117 m ∧ 0 ≤ MS μ 117 m ∧ MS μ 117 m < MS μ 15466 0 := fun m m0 m1 => by
    rw [cr' rfl]
    exact hP.2.2.2.2.2.2.2.2.2.1 m m0 m1
  have hmr : ∀ m : Int, 0 ≤ m → m < MS μ 15472 0 → Rg (MS μ 117 m) := fun m _ _ => MS_rng μ _ _
  unfold f_H_composite
  rw [eP]
  (try simp (disch := omega) only [w_id])
  refine ite_i (fun q => ?_) (fun q => ?_)
  · have mdl : ∀ (ο : Mem) (K : Int → Mem → Prop), MS ο = MS μ → _ := fun ο K eM => m_composite ha (ρ := ο) (K := K) eM hv.qm hrw hv.flW (by
      have i : Ic (MS ο) μ := by rw [eM]; exact hv
      have := flB_of (ρ := ο) i
      rw [eM] at this
      exact this) hmr q
    refine c_lostByAll hv ha (fun v ok ξ1 f1 R1 V1 b1 b2 b3 => ?_) (fun no ξ1 f1 => ?_)
    · have r8 : (rwB (MS μ) a).length ≤ 8 := R1.2.1
      have lb := loC_e (lenI (MS μ) (Fo (MS μ))).toNat (rwB (MS μ) a)
      have tl := tot_le r8
      (try simp (disch := omega) only [w_id])
      rw [if_neg (by omega)]
      have lr : lenI (MS μ) (Fo (MS μ)) ≤ 12 := by
        obtain ⟨κ, hru⟩ := hv.qm.2.2.2
        exact hru.2.2.2.2.2.1
      have wl : WfL (keptL (lenI (MS μ) (Fo (MS μ))).toNat (rwB (MS μ) a)) := keptL_wf ok.2 (by omega)
      have hkp : ∀ n : Nat, kpC (lenI (MS μ) (Fo (MS μ))).toNat (rwB (MS μ) a) n = true → 0 < cnt (rwB (MS μ) a) n := fun n hn => kpC_pos hn
      have m0 := hct.1
      have A1 := hv.flA
      have W1 := hv.flW
      have g1 := hv.hgA
      have l8 : (chN a.toNat 24).length ≤ 8 := v.1.2.1
      have l2 : 2 ≤ (chN a.toNat 24).length := v.2
      have hC : ∀ x ∈ chN a.toNat 24, 0 ≤ x ∧ x < 24 := fun x hx => chN_rng hx
      have hCm : ∀ x ∈ chN a.toNat 24, x < MS μ 15472 0 := fun x hx => by
        obtain ⟨k, k1, k2, k3⟩ := (chN_mem a.toNat 24 x).mp hx
        rw [k1]
        exact (v.1.2.2 k k2 k3).1
      have h0 : gI (chN a.toNat 24) 0 ∈ chN a.toNat 24 := gI_mem (by omega)
      have x0 := (hC _ h0).1
      have x1 := hCm _ h0
      have n1 : rI ξ1 12654 0 = ((chN a.toNat 24).length : Int) := by rw [R1.1, rwB_len]
      unfold f_Chair_closeLatest
      intro μ2 e2
      have f2 : Fr [11630] ξ1 μ2 := by rw [e2]; exact (FrP.refl _ _).wB (by decide)
      have st2 : rI μ2 11630 0 = 0 := by rw [e2, rI_sB, if_pos ⟨rfl, rfl⟩]; rfl
      clear e2
      have f02 : Fr cLc μ μ2 := (Fr.mono f1 rfl : Fr cLc μ ξ1).trans (Fr.mono f2 rfl)
      have A2 : FlA μ2 (flC (MS μ)) := (A1.fr f1 rfl rfl).fr f2 rfl rfl
      have v2 := V1 0 (by omega)
      generalize hM : MS μ 15472 0 = M at *
      unfold f_Comp_make
      rw [at_in (i := 0) (by decide) (by decide) (by decide), f2.rdI (q := 92) rfl, show rI ξ1 92 0 = gI (chN a.toNat 24) 0 from v2, at_in (by omega) (by omega) (by decide), f2.rdI rfl, f1.rdI rfl, (hmv _ x0 x1).1]
      have c2 : rI μ2 2543 0 = M := by rw [f2.rdI rfl, f1.rdI rfl]; exact eP
      refine c_addBring c2 m0 q (hmr _ x0 x1) A2 (fun ξ4 f4 p4 v4 u4 A4 => ?_)
      have row4 : RowC ξ4 M [] := by
        have := A4.2.1 M m0 q
        rw [rowOf_M W1 hM q] at this
        exact this
      have f14 : Fr ([11630] ++ abL) ξ1 ξ4 := (Fr.mono f2 rfl).trans (Fr.mono f4 rfl)
      refine ⟨61, c_mkLines (ν0 := ξ4) m0 q hkp wl (by rw [f14.rdL rfl]; exact b1) (by rw [f14.rdL rfl]; exact b2) (by rw [f14.rdL rfl]; exact b3) (fun ξ5 f5 row5 => ?_) 60 0 ξ4 rfl (RowFr.refl _ _) row4⟩
      have A5 : FlA ξ5 (nwF (flC (MS μ)) M (keptL (lenI (MS μ) (Fo (MS μ))).toNat (rwB (MS μ) a))) := A4.row f5 row5 (fun y y0 y1 => (W1.2.2.2.1 y y0 y1).1) m0
      have f15 : Fr ([11630] ++ abL ++ flL) ξ1 ξ5 := (Fr.mono f14 rfl).trans (Fr.mono f5.1 rfl)
      have hr5 : ∀ x : Int, -1 ≤ (nwF (flC (MS μ)) M (keptL (lenI (MS μ) (Fo (MS μ))).toNat (rwB (MS μ) a))).1 x ∧ (nwF (flC (MS μ)) M (keptL (lenI (MS μ) (Fo (MS μ))).toNat (rwB (MS μ) a))).1 x ≤ 4 := fun x => by
        have := W1.1 x
        unfold nwF sRow sHow
        simp only []
        split
        · omega
        · exact this
      have p0 : pmC (chN a.toNat 24) 0 = fun _ => false := by funext y; unfold pmC; rw [List.take_zero]; exact decide_eq_false (by simp)
      refine ⟨(chN a.toNat 24).length + 1, c_mkClose (σ := MS μ) (ν0 := ξ5) hr5 ((g1.fr f1 rfl).fr f15 rfl) hC l8 (by rw [f15.rdI rfl]; exact n1) (fun i hi => by rw [f15.rdI rfl]; exact V1 i hi) (fun ξ6 f6 A6 => ?_) (chN a.toNat 24).length 0 ξ5 (by omega) (FrP.refl _ _) (by rw [p0, clS_0 (fun _ => rfl)]; exact A5)⟩
      have pM : pmC (chN a.toNat 24) (chN a.toNat 24).length M = false := by
        unfold pmC
        rw [List.take_length]
        refine decide_eq_false (fun z => ?_)
        have := hCm _ z
        omega
      rw [clS_nw pM (by omega)] at A6
      have f06 : Fr cLc μ ξ6 := ((f02.trans (Fr.mono f4 rfl)).trans (Fr.mono f5.1 rfl)).trans (Fr.mono f6 rfl)
      refine mdl ξ6 _ (f06.ms rfl) (fun _ _ ξ fx k1 k2 k3 k4 W6 k5 => ⟨rfl, ?_⟩) (fun z => absurd ⟨v, ok⟩ z)
      have ft : Fr (cLc ++ mcoL) μ ξ := (Fr.mono f06 rfl).trans (Fr.mono fx rfl)
      have sx : ∀ y, lel mcoL y = false → lel cLc y = false → MS ξ y = MS μ y := fun y hy hy2 => by
        funext j
        unfold MS
        rw [fx.rdI hy, f06.rdI hy2]
      have x1' : MS ξ 15472 0 = M + 1 := by rw [← mr rfl]; exact k1
      have x2 : MS ξ 15474 0 = MS μ 15474 0 := by rw [sx _ rfl rfl]
      have x3 : MS ξ 15479 0 = MS μ 15479 0 := by rw [sx _ rfl rfl]
      have lr' : Lo gR (MS μ) (MS ξ) := ft.loM rfl
      have lt : Lo gT (MS μ) (MS ξ) := ft.loM rfl
      refine ⟨by rw [ft.1]; exact hI.1, hI.wfR.lo lr', hI.wfT.lo lt, hI.relR.lo (ft.loC rfl) lt, ?_, ?_, ?_, ?_, ?_⟩
      · have k := hI.relT
        unfold RelT at k ⊢
        rw [show CS ξ 2281 = CS μ 2281 from ft.loC (g := fun y => Nat.beq y 2281) rfl _ rfl, show CS ξ 2287 = CS μ 2287 from ft.loC (g := fun y => Nat.beq y 2287) rfl _ rfl, show CS ξ 11 = CS μ 11 from ft.loC (g := fun y => Nat.beq y 11) rfl _ rfl,
          show MS ξ 15512 = MS μ 15512 from ft.loM (g := fun y => Nat.beq y 15512) rfl _ rfl, show MS ξ 15519 = MS μ 15519 from ft.loM (g := fun y => Nat.beq y 15519) rfl _ rfl, show MS ξ 150 = MS μ 150 from ft.loM (g := fun y => Nat.beq y 150) rfl _ rfl]
        exact k
      · have lp : Lo gPm (MS μ) (MS ξ) := ft.loM rfl
        have lc : Lo gPcm (CS μ) (CS ξ) := ft.loC rfl
        have ru : RuE (MS μ 15479 0) (MS μ) (MS ξ) := by
          unfold RuE
          rw [sx 145 rfl rfl, sx 146 rfl rfl, sx 147 rfl rfl, sx 148 rfl rfl, sx 149 rfl rfl, sx 143 rfl rfl]
          exact ⟨fun _ _ _ => rfl, fun _ _ _ => ⟨rfl, rfl, rfl, rfl⟩, fun _ _ _ => rfl⟩
        have g6 : Fr (flL ++ [68] ++ mcoL) ξ4 ξ := ((Fr.mono f5.1 rfl : Fr (flL ++ [68] ++ mcoL) ξ4 ξ5).trans (Fr.mono f6 rfl)).trans (Fr.mono fx rfl)
        have cm : ∀ j : Int, CS ξ 13 j = rI ξ4 13 j := fun j => by
          rw [← cr' rfl, g6.rdI rfl]
        have mm : ∀ j : Int, MS ξ 117 j = rI ξ 117 j := fun j => rfl
        refine hI.relP.mo lc lp ru hM q ?_ x1' (fun j hj => ?_) ?_ (fun j hj => ?_) ?_ (hmv _ x0 x1).2
        · rw [← cr' rfl, g6.rdI rfl]; exact p4
        · rw [cm, v4 j hj, f2.rdI rfl, f1.rdI rfl, cr' rfl]
        · rw [cm]; exact u4
        · rw [mm, k3 j hj, f06.rdI rfl, mr rfl]
        · rw [mm]; exact k4
      · exact mk_relF (A6.fr fx rfl rfl) (k5 (MS ξ) x1' x2 x3) (W6.new hM m0 q x1' x2 x3 wl) (StM.refl ξ) (by rw [x1', x2, x3]; omega)
      · have vv := hI.relV
        refine RelV.nov vv ?_ ?_ ?_ ?_ ?_ ?_
        · exact congrFun (ft.loC (g := fun y => Nat.beq y 11632) rfl _ rfl) 0
        · exact congrFun (ft.loM (g := fun y => Nat.beq y 15534) rfl _ rfl) 0
        · exact ft.loC (g := fun y => Nat.beq y 84) rfl _ rfl
        · exact ft.loM (g := fun y => Nat.beq y 158) rfl _ rfl
        · have g2 : Fr (abL ++ flL ++ [68] ++ mcoL) μ2 ξ := (((Fr.mono f4 rfl : Fr (abL ++ flL ++ [68] ++ mcoL) μ2 ξ4).trans (Fr.mono f5.1 rfl)).trans (Fr.mono f6 rfl)).trans (Fr.mono fx rfl)
          rw [← cr' rfl, g2.rdI rfl]; exact st2
        · rw [← mr rfl]; exact k2
      · exact hI.relW.lo (ft.loC (g := fun y => Nat.beq y 102) rfl 102 rfl) (ft.loC (g := fun y => Nat.beq y 97) rfl 97 rfl) (ft.loM (g := fun y => Nat.beq y 166) rfl 166 rfl)
    · rw [if_pos (by decide)]
      exact mdl ξ1 _ (f1.ms rfl) (fun v ok => absurd ⟨v, ok⟩ no) (fun _ ξ fx => ⟨rfl, (fx.qt rfl).inv ((f1.qt rfl).inv hI)⟩)
  · unfold f_M_composite
    intro μ1 e1
    have i1 : Inv μ1 := by rw [e1]; exact (thr_qt μ).inv hI
    have k1 : rI μ1 15472 0 = MS μ 15472 0 := by rw [e1, mr rfl, thr_ms]
    rw [k1]
    (try simp (disch := omega) only [w_id])
    rw [if_pos (by omega)]
    exact ⟨trivial, i1⟩
