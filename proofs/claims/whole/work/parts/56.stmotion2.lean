/-! MOTION, put together -/
theorem rdS_K (σ : Sg) (p : Int) : Lo gK σ (rdS σ p) := ((((Lo.refl _ _).up rfl).up rfl).up rfl).up rfl
theorem rdS_F (σ : Sg) (p : Int) : Lo gF σ (rdS σ p) := ((((Lo.refl _ _).up rfl).up rfl).up rfl).up rfl
theorem rdS_V (σ : Sg) (p : Int) : Lo gV σ (rdS σ p) := ((((Lo.refl _ _).up rfl).up rfl).up rfl).up rfl
theorem rdS_ru (σ : Sg) (p : Int) {N : Int} (hN : N ≤ 10) : RuE N σ (rdS σ p) := by
  unfold RuE rdS
  refine ⟨fun j j0 j1 => ?_, fun j j0 j1 => ⟨?_, ?_, ?_, ?_⟩, fun j j0 j1 => ?_⟩
  · rw [up_ne _ _ _ rfl, up_ne _ _ _ rfl, up_ni _ _ _ (by omega), up_ne _ _ _ rfl]
  all_goals rw [up_ne _ _ _ rfl, up_ne _ _ _ rfl, up_ne _ _ _ rfl, up_ne _ _ _ rfl]
theorem rdS_T {κ σ : Sg} {p : Int} (h1 : κ 2281 0 = 0) (h2 : κ 2287 0 = p) : RelT κ (rdS σ p) := by
  have e1 : rdS σ p 15512 0 = 0 := by unfold rdS; rw [up_ne _ _ _ rfl, up_at]
  have e2 : rdS σ p 15519 0 = p := up_at _ _ _ _
  unfold RelT
  rw [h1, h2, e1, e2]
  exact ⟨rfl, by decide, by decide, rfl, fun j j0 j1 => absurd j0 (by omega)⟩
/-- the class has read a text and emptied the tape -/
theorem Ic.rdC {L : List Nat} {σ : Sg} {μ ν : Mem} (h : Ic σ μ) (f : Fr L μ ν) (hL : (L.all fun q => !(gKc q || gFc q || inF q)) = true) {p : Int} (h1 : rI ν 2281 0 = 0) (h2 : rI ν 2287 0 = p) : Ic (rdS σ p) ν :=
  h.rd f (by rw [f.1]; exact h.1) hL (rdS_K σ p) (rdS_F σ p) (rdS_ru σ p h.cnt.2.2.2.2.2) (rdS_T (by rw [← cr' rfl]; exact h1) (by rw [← cr' rfl]; exact h2))
/-- a text with a FAULT, on both sides -/
theorem Inv.rdB {L : List Nat} {μ ξ : Mem} (h : Inv μ) (f : Fr L μ ξ) (hL : (L.all fun q => !(gKc q || gFc q || inF q)) = true) (hL2 : (L.all fun q => !(gVc q)) = true) {p : Int} (hM : MS ξ = rdS (MS μ) p) (h1 : rI ξ 2281 0 = 0) (h2 : rI ξ 2287 0 = p) : Inv ξ := by
  have i := h.iv.rdC f hL h1 h2
  rw [← hM] at i
  refine Iv.inv i ?_
  have hV := h.relV
  have k := RelV.lo (lo := CL μ) (σ' := MS ξ) (f.loC hL2) (by rw [hM]; exact rdS_V _ p) hV
  have e : CL ξ = CL μ := by
    have hL3 : (L.all fun q => !(inF q)) = true := List.all_eq_true.mpr (fun q hq => by have := List.all_eq_true.mp hL q hq; cases e : inF q with | false => rfl | true => rw [e] at this; simp at this)
    unfold CL
    rw [f.rdL (all_nl (g := inF) hL3 rfl), f.rdL (all_nl (g := inF) hL3 rfl), f.rdL (all_nl (g := inF) hL3 rfl), f.rdL (all_nl (g := inF) hL3 rfl)]
  rw [e]
  exact k
/-- the bytes of the tape -/
def tb (μ : Mem) : Bts := fun j => rI μ 11 (j : Int)
def tn (μ : Mem) : Nat := (MS μ 15512 0).toNat
theorem Iv.bytes {μ : Mem} (h : Iv μ) : BtO (tb μ) (tn μ) ∧ BtC (tb μ) (tn μ) μ ∧ ∀ ο : Mem, MS ο = MS μ → BtM (tb μ) (tn μ) ο := by
  obtain ⟨t1, t2, t3, t4, t5⟩ := h.relT
  have en : ((tn μ : Nat) : Int) = MS μ 15512 0 := by unfold tn; omega
  have e : ∀ j : Nat, j < tn μ → tb μ j = ub (MS μ 150 (j : Int)) ∧ -128 ≤ MS μ 150 (j : Int) ∧ MS μ 150 (j : Int) < 128 := fun j hj => by
    have k := t5 (j : Int) (by omega) (by omega)
    refine ⟨?_, k.2⟩
    unfold tb
    rw [cr' rfl]
    exact k.1
  refine ⟨⟨by omega, fun j hj => ?_⟩, ⟨by rw [cr' rfl, t1, en], fun j hj => rfl⟩, fun ο eM => ⟨by rw [mr rfl, eM, en], fun j hj => ?_⟩⟩
  · obtain ⟨k1, k2, k3⟩ := e j hj
    have := ub_or (MS μ 150 (j : Int))
    omega
  · rw [mr rfl, eM]
    obtain ⟨k1, k2, k3⟩ := e j hj
    exact ⟨k1.symm, k2, k3⟩
theorem take_s {l : List Ln} {i : Nat} (h : i < l.length) : l.take (i + 1) = l.take i ++ [l.getD i dL] := by
  rw [List.take_succ_eq_append_getElem h, List.getD_eq_getElem?_getD, List.getElem?_eq_getElem h]
  rfl
theorem c_addLines {ν0 : Mem} {M : Int} (m0 : 0 ≤ M) (m1 : M < 24) {l : List Ln} (hw : WfL l) (hby : ∀ x ∈ l, x.2.2 = -1) {X : Mem → Prop} (h : ∀ ξ : Mem, RowFr ν0 ξ M → RowC ξ M l → X ξ) : ∀ (f i : Nat) (ν : Mem), i + f = l.length → RowFr ν0 ν M → RowC ν M (l.take i) → LrC ν l → l_H_motion_100 M X (f + 1) (i : Int) ν
  | 0, i, ν, e, fr, hr, hl => by
    have h12 := hw.1
    unfold l_H_motion_100
    rw [hl.1]
    (try simp (disch := omega) only [w_id])
    rw [if_neg (by omega)]
    refine h ν fr ?_
    rw [List.take_of_length_le (by omega)] at hr
    exact hr
  | f + 1, i, ν, e, fr, hr, hl => by
    have h12 := hw.1
    have hi : i < l.length := by omega
    have wi := hw.at hi
    have mem : l.getD i dL ∈ l := by
      rw [List.getD_eq_getElem?_getD, List.getElem?_eq_getElem hi]
      exact List.getElem_mem hi
    have b := hby _ mem
    have k := hl.2 i hi
    unfold l_H_motion_100
    rw [hl.1]
    (try simp (disch := omega) only [w_id])
    rw [if_pos (by omega), at_in (by omega) (by omega) (by decide), at_in (by omega) (by omega) (by decide), k.1, k.2]
    have ln : (l.take i).length = i := by rw [List.length_take]; omega
    have u := wi.2.2.1
    refine c_addLine ⟨m0, by omega⟩ hr (by omega) ⟨by omega, by omega⟩ (by rcases u with u | u <;> (rw [u]; exact ⟨by decide, by decide⟩)) ⟨by decide, by decide⟩ (fun _ ξ fx rx => ?_) (fun z => by omega)
    refine c_addLines m0 m1 hw hby h f (i + 1) ξ (by omega) (fr.trans fx) ?_ (hl.fr fx.1 rfl)
    rw [take_s hi]
    rw [show ((l.getD i dL).1, (l.getD i dL).2.1, (-1 : Int)) = l.getD i dL by rw [← b]] at rx
    exact rx
def cLm : List Nat := rbL ++ [2281]
def cLa : List Nat := cLm ++ tlL ++ abL ++ flL ++ [11630]
def aLm : List Nat := cLa ++ mmoL ++ cdL ++ cmL
theorem rowOf_M {σ : Sg} {F : Fl} (h : FlW σ F) {M : Int} (hM : σ 15472 0 = M) (m1 : M < 24) : (sHow F M 0).2.1 M = [] := h.2.2.2.2.1 M (by omega) m1
theorem st_motion {a : Int} (ha : Rg a) : Both Int (f_H_motion a) (f_M_motion a) := by
  intro μ hI
  have hv := hI.iv
  have hct := hv.cnt
  obtain ⟨hb, hB, hBM⟩ := hv.bytes
  have eP : rI μ 2543 0 = MS μ 15472 0 := (cr' rfl).trans hI.relP.1
  have no : ¬ (isAf (MS μ) a ∧ MS μ 15472 0 < 24) → f_M_motion a μ (fun r' ξ => -1 = r' ∧ Inv ξ) := fun z => by
    have eM := thr_ms μ
    unfold f_M_motion
    intro μ1 e1
    subst e1
    rw [mr (q := 15472) rfl, eM]
    (try simp (disch := omega) only [w_id])
    have ok : Inv (sI μ 15464 0 0) := (thr_qt μ).inv hI
    refine ite_b (isAff_i ha) (fun q1 => ite_i (fun q2 => (by first | exact ⟨rfl, ok⟩ | exact ⟨trivial, ok⟩)) (fun q2 => absurd ⟨by rw [eM] at q1; exact q1, by omega⟩ z)) (fun q1 => (by first | exact ⟨rfl, ok⟩ | exact ⟨trivial, ok⟩))
  unfold f_H_motion
  rw [eP]
  (try simp (disch := omega) only [w_id])
  refine ite_b (hasAff_i hv ha) (fun q1 => ite_i (fun q2 => ?_) (fun q2 => no (fun z => q2 z.2))) (fun q1 => no (fun z => q1 z.1))
  have hA0 := hI.wfR.1
  obtain ⟨af0, af1⟩ := q1
  have hread : ∀ (ο : Mem) (K : Int → Mem → Prop), MS ο = MS μ → onR (rmo (tb μ) (tn μ)) (fun f p => ∀ ξ : Mem, Fr mmoL ο ξ → MS ξ = rdS (MS μ) (p : Int) → K (-1 - f) ξ) (fun l => ∀ ξ : Mem, Fr mmoL ο ξ → MS ξ = rdS (MS μ) (-1) → RowM ξ l → f_M_mayBeLate a ξ (fun r86 μ_9 => if r86 = true then (f_M_comes a μ_9 (fun r97 μ_10 => K r97 μ_10)) else (K (-6) μ_9))) → f_M_motion a ο K := fun ο K eM h => by
    refine m_motion_read hb (hBM ο eM) ((isAff_i ha).mpr ?_) (by rw [eM]; omega) ?_
    · rw [thr_ms, eM]; exact ⟨af0, af1⟩
    · rw [eM]; exact h
  generalize tb μ = b at *
  generalize tn μ = n at *
  refine c_readMotion hb hB ?_
  cases hr : rmo b n with
  | inl e =>
    obtain ⟨f, p⟩ := e
    rw [hr] at hread
    intro ξ1 f1 a1 p1 μ2 e2
    simp only at a1 p1
    rw [if_neg (by decide)]
    have f2 : Fr cLm μ μ2 := by rw [e2]; exact (Fr.mono f1 rfl : Fr cLm μ ξ1).wI (by decide)
    have a2 : rI μ2 2286 0 = f := by rw [e2, rI_ne _ _ _ _ rfl]; exact a1
    have p2 : rI μ2 2287 0 = (p : Int) := by rw [e2, rI_ne _ _ _ _ rfl]; exact p1
    have l2 : rI μ2 2281 0 = 0 := by rw [e2, rI_eq _ _ _ ⟨by decide, by decide⟩]
    clear e2
    rw [a2]
    refine hread μ2 _ (f2.ms rfl) (fun ξ g s => ⟨rfl, ?_⟩)
    have ft : Fr aLm μ ξ := (Fr.mono f2 rfl).trans (Fr.mono g rfl)
    refine Inv.rdB (p := (p : Int)) hI (L := cLm ++ mmoL) ((Fr.mono f2 rfl).trans (Fr.mono g rfl)) rfl rfl s ?_ ?_
    · rw [g.rdI rfl]; exact l2
    · rw [g.rdI rfl]; exact p2
  | inr l =>
    rw [hr] at hread
    obtain ⟨wl, wb, wn⟩ := rdMo_wf 14 [] (tok b n 0) l ⟨by decide, fun x hx => absurd hx (by simp), List.nodup_nil⟩ (fun x hx => absurd hx (by simp)) hr
    have l12 := wl.1
    intro ξ1 f1 z1 p1 r1 μ2 e2
    rw [if_pos rfl]
    have f2 : Fr cLm μ μ2 := by rw [e2]; exact (Fr.mono f1 rfl : Fr cLm μ ξ1).wI (by decide)
    have p2 : rI μ2 2287 0 = -1 := by rw [e2, rI_ne _ _ _ _ rfl]; exact p1
    have l2 : rI μ2 2281 0 = 0 := by rw [e2, rI_eq _ _ _ ⟨by decide, by decide⟩]
    have r2 : LrC μ2 l := r1.fr (show Fr [2281] ξ1 μ2 by rw [e2]; exact fr1 _ _ _ _) rfl
    clear e2 r1 p1 z1 f1
    have i2 : Ic (rdS (MS μ) (-1)) μ2 := hv.rdC f2 rfl l2 p2
    have k0 : ∀ q j, gK q = true → rdS (MS μ) (-1) q j = MS μ q j := fun q j h => congrFun (rdS_K (MS μ) (-1) q h) j
    have kA := k0 15466 0 rfl
    have kM := k0 15472 0 rfl
    have kN := k0 15474 0 rfl
    have kO := k0 15479 0 rfl
    rw [isLate_e i2]
    generalize hσ : rdS (MS μ) (-1) = σ at *
    -- the model says so too
    have mlate : ∀ (ρ : Mem) (K : Bool → Mem → Prop), MS ρ = σ → RowM ρ l → (∀ ν : Mem, Fr cdL ρ ν → K (!isl σ || tkl σ a (l.length : Int)) ν) → f_M_mayBeLate a ρ K := fun ρ K eM rm h => by
      refine m_mayBeLate (by unfold QM; rw [eM]; exact i2.qm) (n := (l.length : Int)) (by rw [eM, kA]; exact ⟨af0, af1⟩) (by omega) rm.n ?_
      rw [eM]
      exact h
    have notaken : ∀ ν3 : Mem, Fr tlL μ2 ν3 → (!isl σ || tkl σ a (l.length : Int)) = false → f_M_motion a ν3 (fun r' ξ => -6 = r' ∧ Inv ξ) := fun ν3 f3 hn => by
      have f03 : Fr (cLm ++ tlL) μ ν3 := (Fr.mono f2 rfl).trans (Fr.mono f3 rfl)
      refine hread ν3 _ (f03.ms rfl) (fun ξ g s r => mlate ξ _ s r (fun ο go => ?_))
      rw [hn, if_neg (by decide)]
      refine ⟨rfl, Inv.rdB (p := -1) hI (L := cLm ++ tlL ++ mmoL ++ cdL) (((Fr.mono f03 rfl).trans (Fr.mono g rfl)).trans (Fr.mono go rfl)) rfl rfl ?_ ?_ ?_⟩
      · rw [go.ms rfl, s, hσ]
      · rw [go.rdI rfl, g.rdI rfl, f3.rdI rfl]; exact l2
      · rw [go.rdI rfl, g.rdI rfl, f3.rdI rfl]; exact p2
    have taken : ∀ ν3 : Mem, Fr tlL μ2 ν3 → (!isl σ || tkl σ a (l.length : Int)) = true → b_H_motion_80 (fun r ν => f_M_motion a ν (fun r' ξ => r = r' ∧ Inv ξ)) a ν3 := fun ν3 f3 hn => by
      have i3 : Ic σ ν3 := (f3.qt rfl).ic i2
      have A3 := i3.flA
      have W3 := i3.flW
      have c3 : rI ν3 2543 0 = MS μ 15472 0 := by rw [(cr' rfl).trans i3.relP.1, kM]
      have m0 : 0 ≤ MS μ 15472 0 := hct.1
      generalize hM : MS μ 15472 0 = M at *
      unfold b_H_motion_80
      refine c_addBring c3 m0 q2 ha A3 (fun ξ4 f4 p4 v4 u4 A4 => ?_)
      have r4 : LrC ξ4 l := (r2.fr f3 rfl).fr f4 rfl
      have row4 : RowC ξ4 M [] := by
        have := A4.2.1 M m0 q2
        rw [rowOf_M W3 (by rw [kM]) q2] at this
        exact this
      refine ⟨l.length + 1, c_addLines (ν0 := ξ4) m0 q2 wl wb (fun ξ5 f5 row5 => ?_) l.length 0 ξ4 (by omega) (RowFr.refl _ _) row4 r4⟩
      have A5 : FlA ξ5 (nwF (flC σ) M l) := A4.row f5 row5 (fun q q0 q1 => (W3.2.2.2.1 q q0 q1).1) m0
      unfold f_Chair_closeLatest
      intro μ6 e6
      have f6 : Fr [11630] ξ5 μ6 := by rw [e6]; exact (FrP.refl _ _).wB (by decide)
      have st6 : rI μ6 11630 0 = 0 := by rw [e6, rI_sB, if_pos ⟨rfl, rfl⟩]; rfl
      have A6 : FlA μ6 (nwF (flC σ) M l) := A5.fr f6 rfl rfl
      clear e6
      have f06 : Fr cLa μ μ6 := ((((Fr.mono f2 rfl : Fr cLa μ μ2).trans (Fr.mono f3 rfl)).trans (Fr.mono f4 rfl)).trans (Fr.mono f5.1 rfl)).trans (Fr.mono f6 rfl)
      have f56 : Fr (flL ++ [11630]) ξ4 μ6 := (Fr.mono f5.1 rfl).trans (Fr.mono f6 rfl)
      refine hread μ6 _ (f06.ms rfl) (fun ρ g s r => mlate ρ _ s r (fun ο go => ?_))
      rw [hn, if_pos rfl]
      have sO : MS ο = σ := (go.ms rfl).trans s
      have fB : FlB σ ο (flC σ) := by
        have := flB_of (μ := ν3) (ρ := ο) (by rw [sO]; exact i3)
        rw [sO] at this
        exact this
      refine m_comes fB W3 (M := M) (by rw [mr rfl, sO, kM]) (by rw [kM]) m0 q2 ha (r.fr go rfl) wl (fun ξ fx k1 k2 k3 k4 k5 => ⟨rfl, ?_⟩)
      have gO : Fr (mmoL ++ cdL ++ cmL) μ6 ξ := ((Fr.mono g rfl : Fr (mmoL ++ cdL ++ cmL) μ6 ρ).trans (Fr.mono go rfl)).trans (Fr.mono fx rfl)
      have ft : Fr aLm μ ξ := (Fr.mono f06 rfl).trans (Fr.mono gO rfl)
      have sx : ∀ q, lel cmL q = false → MS ξ q = σ q := fun q hq => by
        rw [← sO]
        funext j
        unfold MS
        rw [fx.rdI hq]
      have x1 : MS ξ 15472 0 = M + 1 := by rw [← mr rfl]; exact k1
      have x2 : MS ξ 15474 0 = σ 15474 0 := by rw [sx _ rfl]
      have x3 : MS ξ 15479 0 = σ 15479 0 := by rw [sx _ rfl]
      have lr : Lo gR (MS μ) (MS ξ) := ft.loM rfl
      have lt : Lo gT (MS μ) (MS ξ) := ft.loM rfl
      refine ⟨by rw [ft.1]; exact hI.1, hI.wfR.lo lr, hI.wfT.lo lt, hI.relR.lo (ft.loC rfl) lt, ?_, ?_, ?_, ?_, ?_⟩
      · have t1 : CS ξ 2281 0 = 0 := by
          rw [← cr' rfl, gO.rdI rfl, f56.rdI rfl, f4.rdI rfl, f3.rdI rfl]; exact l2
        have t2 : CS ξ 2287 0 = -1 := by
          rw [← cr' rfl, gO.rdI rfl, f56.rdI rfl, f4.rdI rfl, f3.rdI rfl]; exact p2
        have t3 : MS ξ 15512 0 = 0 := by
          rw [sx _ rfl, ← hσ]
          unfold rdS
          rw [up_ne _ _ _ rfl, up_at]
        have t4 : MS ξ 15519 0 = -1 := by
          rw [sx _ rfl, ← hσ]
          exact up_at _ _ _ _
        unfold RelT
        rw [t1, t2, t3, t4]
        exact ⟨rfl, by decide, by decide, rfl, fun j j0 j1 => absurd j0 (by omega)⟩
      · have lp : Lo gPm (MS μ) (MS ξ) := ft.loM rfl
        have lc : Lo gPcm (CS μ) (CS ξ) := ft.loC rfl
        have ru : RuE (MS μ 15479 0) (MS μ) (MS ξ) := by
          have u := rdS_ru (MS μ) (-1) hct.2.2.2.2.2
          rw [hσ] at u
          unfold RuE at u ⊢
          rw [sx 145 rfl, sx 146 rfl, sx 147 rfl, sx 148 rfl, sx 149 rfl, sx 143 rfl]
          exact u
        have cm : ∀ j : Int, CS ξ 13 j = rI ξ4 13 j := fun j => by
          rw [← cr' rfl, gO.rdI rfl, f56.rdI rfl]
        have mm : ∀ j : Int, MS ξ 117 j = rI ξ 117 j := fun j => rfl
        refine hI.relP.mo lc lp ru hM q2 ?_ x1 (fun j hj => ?_) ?_ (fun j hj => ?_) ?_ ⟨af0, af1⟩
        · rw [← cr' rfl, gO.rdI rfl, f56.rdI rfl]; exact p4
        · rw [cm, v4 j hj, f3.rdI rfl, f2.rdI rfl, cr' rfl]
        · rw [cm]; exact u4
        · rw [mm, k3 j hj, mr rfl, sO]
          exact k0 _ _ rfl
        · rw [mm]; exact k4
      · exact mk_relF (A6.fr gO rfl rfl) (k5 (MS ξ) x1 x2 x3) (W3.new (by rw [kM]) m0 q2 x1 x2 x3 wl) (StM.refl ξ) (by rw [x1, x2, x3, kN, kO]; omega)
      · have vv := hI.relV
        refine RelV.nov vv ?_ ?_ ?_ ?_ ?_ ?_
        · exact congrFun (ft.loC (g := fun q => Nat.beq q 11632) rfl _ rfl) 0
        · exact congrFun (ft.loM (g := fun q => Nat.beq q 15534) rfl _ rfl) 0
        · exact ft.loC (g := fun q => Nat.beq q 84) rfl _ rfl
        · exact ft.loM (g := fun q => Nat.beq q 158) rfl _ rfl
        · rw [← cr' rfl, gO.rdI rfl]; exact st6
        · rw [← mr rfl]; exact k2
      · exact hI.relW.lo (ft.loC (g := fun q => Nat.beq q 102) rfl 102 rfl) (ft.loC (g := fun q => Nat.beq q 97) rfl 97 rfl) (ft.loM (g := fun q => Nat.beq q 166) rfl 166 rfl)
    have sz : rI μ2 9195 0 = (l.length : Int) := r2.1
    refine ite_i (fun q => ?_) (fun q => taken μ2 (FrP.refl _ _) (by rw [bool_f q]; rfl))
    rw [sz]
    refine c_isTakenLate i2 (by rw [kA]; exact ⟨af0, af1⟩) (by omega) (fun ν3 f3 => ?_)
    refine ite_i (fun q4 => taken ν3 f3 (by rw [q, q4]; rfl)) (fun q4 => notaken ν3 f3 (by rw [q, bool_f q4]; rfl))
