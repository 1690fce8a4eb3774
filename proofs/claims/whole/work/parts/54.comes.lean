/-! A MOTION COMES, on both sides -/
def sRow (F : Fl) (m : Int) (l : List Ln) : Fl := (F.1, (fun q => if q = m then l else F.2.1 q), F.2.2)
def nwF (F : Fl) (m : Int) (l : List Ln) : Fl := sRow (sHow F m 0) m l
theorem FlA.row {ν ξ : Mem} {F : Fl} (h : FlA ν F) {m : Int} {l : List Ln} (fr : RowFr ν ξ m) (hl : RowC ξ m l) (h12 : ∀ q : Int, 0 ≤ q → q < 24 → (F.2.1 q).length ≤ 12) (hm : 0 ≤ m) : FlA ξ (sRow F m l) := by
  obtain ⟨a1, a2, a3, a4, a5⟩ := h
  refine ⟨fun x x0 x1 => ?_, fun q q0 q1 => ?_, fun n n1 n2 => ?_, fun n hn => ?_, ?_⟩
  · rw [fr.1.rdI rfl]; exact a1 x x0 x1
  · show RowC ξ q (if q = m then l else F.2.1 q)
    by_cases c : q = m
    · rw [if_pos c, c]; exact hl
    · rw [if_neg c]
      obtain ⟨b1, b2⟩ := a2 q q0 q1
      refine ⟨by rw [fr.2.1 q c]; exact b1, fun i hi => ?_⟩
      have := h12 q q0 q1
      have k := fr.2.2 (q * 12 + (i : Int)) (by omega)
      rw [k.1, k.2.1, k.2.2]
      exact b2 i hi
  · rw [fr.1.rdL rfl, fr.1.rdL rfl]; exact a3 n n1 n2
  · rw [fr.1.rdL rfl, fr.1.rdL rfl]; exact a4 n hn
  · rw [fr.1.rdI rfl]; exact a5
theorem FlW.new {σ σ' : Sg} {F : Fl} (h : FlW σ F) {M : Int} (hM : σ 15472 0 = M) (m0 : 0 ≤ M) (m1 : M < 24) (e1 : σ' 15472 0 = M + 1) (e2 : σ' 15474 0 = σ 15474 0) (e3 : σ' 15479 0 = σ 15479 0) {l : List Ln} (hl : WfL l) : FlW σ' (nwF F M l) := by
  obtain ⟨w1, w2, w3, w4, w5, w6, w7, w8⟩ := h
  have im : ∀ x : Int, isMt σ' x ↔ (isMt σ x ∨ x = M) := fun x => by
    unfold isMt
    rw [e1, e2, e3, hM]
    omega
  refine ⟨fun x => ?_, fun x hx => ?_, fun x hx => ?_, fun m q0 q1 => ?_, fun m q0 q1 => ?_, w6, w7, by rw [e3]; exact w8⟩
  · show -1 ≤ (if x = M then 0 else F.1 x) ∧ (if x = M then 0 else F.1 x) ≤ 4
    have := w1 x
    split <;> omega
  · show 0 ≤ (if x = M then 0 else F.1 x)
    by_cases c : x = M
    · rw [if_pos c]; decide
    · rw [if_neg c]
      exact w2 x (((im x).mp hx).resolve_right c)
  · show (if x = M then 0 else F.1 x) = -1
    rw [if_neg (fun c => hx ((im x).mpr (Or.inr c)))]
    exact w3 x (fun c => hx ((im x).mpr (Or.inl c)))
  · show WfL (if m = M then l else F.2.1 m)
    by_cases c : m = M
    · rw [if_pos c]; exact hl
    · rw [if_neg c]; exact w4 m q0 q1
  · show (if m = M then l else F.2.1 m) = []
    rw [e1] at q0
    rw [if_neg (by omega)]
    exact w5 m (by omega) q1
def abL : List Nat := [13, 2543, 68]
theorem c_addBring {ν : Mem} {M a : Int} (hm : rI ν 2543 0 = M) (m0 : 0 ≤ M) (m1 : M < 24) (ha : Rg a) {F : Fl} (hA : FlA ν F) {K : Int → Mem → Prop} (h : ∀ ξ : Mem, Fr abL ν ξ → rI ξ 2543 0 = M + 1 → (∀ j : Int, ¬ j = M → rI ξ 13 j = rI ν 13 j) → rI ξ 13 M = a → FlA ξ (sHow F M 0) → K M ξ) : f_Papers_addMotion a ν (fun r μ1 => f_Floor_bring r μ1 (fun μ2 => K r μ2)) := by
  unfold f_Papers_addMotion
  intro μ1 e1 μ2 e2
  rw [hm, set_in (by omega) (by omega) (by decide)] at e1
  have k1 : rI μ1 2543 0 = M := by rw [e1, rI_ne _ _ _ _ rfl]; exact hm
  rw [k1] at e2
  have k2 : rI μ2 2543 0 = M + 1 := by rw [e2, rI_eq _ _ _ ⟨by omega, by omega⟩]
  have f2 : Fr [13, 2543] ν μ2 := by rw [e2, e1]; exact ((FrP.refl _ _).wI (by decide)).wI (by decide)
  have v1 : ∀ j : Int, ¬ j = M → rI μ2 13 j = rI ν 13 j := fun j hj => by rw [e2, rI_ne _ _ _ _ rfl, e1, rI_sI, if_neg (fun z => hj z.2)]
  have v2 : rI μ2 13 M = a := by rw [e2, rI_ne _ _ _ _ rfl, e1, rI_eq _ _ _ ha]
  rw [k2, show M + 1 - 1 = M by omega]
  unfold f_Floor_bring
  refine c_put (hA.fr f2 rfl rfl) ⟨m0, by omega⟩ (by decide) (fun ξ fx Ax => ?_)
  refine h ξ ((Fr.mono f2 rfl).trans (Fr.mono fx rfl)) ?_ (fun j hj => ?_) ?_ Ax
  · rw [fx.rdI rfl]; exact k2
  · rw [fx.rdI rfl]; exact v1 j hj
  · rw [fx.rdI rfl]; exact v2
def cmL : List Nat := [117, 122, 125, 126, 127, 128, 15472, 15536]
theorem m_comes {σ : Sg} {ρ : Mem} {F : Fl} (hB : FlB σ ρ F) (hW : FlW σ F) {M a : Int} (hM : rI ρ 15472 0 = M) (sM : σ 15472 0 = M) (m0 : 0 ≤ M) (m1 : M < 24) (ha : Rg a) {l : List Ln} (hl : RowM ρ l) (hw : WfL l) {K : Int → Mem → Prop}
    (h : ∀ ξ : Mem, Fr cmL ρ ξ → rI ξ 15472 0 = M + 1 → rI ξ 15536 0 = 0 → (∀ j : Int, ¬ j = M → rI ξ 117 j = rI ρ 117 j) → rI ξ 117 M = a → (∀ σ' : Sg, σ' 15472 0 = M + 1 → σ' 15474 0 = σ 15474 0 → σ' 15479 0 = σ 15479 0 → FlB σ' ξ (nwF F M l)) → K M ξ) : f_M_comes a ρ K := by
  unfold f_M_comes
  rw [hM]
  (try simp (disch := omega) only [w_id])
  refine ⟨by omega, by omega, fun μ1 e1 => ?_⟩
  have k1 : rI μ1 15472 0 = M := by rw [e1, rI_ne _ _ _ _ rfl]; exact hM
  rw [k1]
  (try simp (disch := omega) only [w_id])
  refine ⟨by omega, by omega, fun μ2 e2 => ?_⟩
  have k2 : rI μ2 15472 0 = M := by rw [e2, rI_ne _ _ _ _ rfl]; exact k1
  rw [k2]
  have f2 : Fr [117, 122] ρ μ2 := by rw [e2, e1]; exact ((FrP.refl _ _).wI (by decide)).wI (by decide)
  have v1 : ∀ j : Int, ¬ j = M → rI μ2 117 j = rI ρ 117 j := fun j hj => by rw [e2, rI_ne _ _ _ _ rfl, e1, rI_sI, if_neg (fun z => hj z.2)]
  have v2 : rI μ2 117 M = a := by rw [e2, rI_ne _ _ _ _ rfl, e1, rI_eq _ _ _ ha]
  have h1 : ∀ j : Int, ¬ j = M → rI μ2 122 j = rI ρ 122 j := fun j hj => by rw [e2, rI_sI, if_neg (fun z => hj z.2), e1, rI_ne _ _ _ _ rfl]
  have h2 : rI μ2 122 M = 0 := by rw [e2, rI_eq _ _ _ ⟨by decide, by decide⟩]
  clear e1 e2
  refine m_laysRow ⟨m0, m1⟩ (hl.fr f2 rfl) hw (fun ξ fx rx ox cx μ4 e4 μ5 e5 => ?_)
  have f24 : Fr cmL ρ ξ := (Fr.mono f2 rfl).trans (Fr.mono fx rfl)
  have k3 : rI ξ 15472 0 = M := by rw [fx.rdI rfl]; exact k2
  rw [k3] at e4
  have f5 : Fr [15472, 15536] ξ μ5 := by rw [e5, e4]; exact ((FrP.refl _ _).wI (by decide)).wB (by decide)
  have k5 : rI μ5 15472 0 = M + 1 := by
    rw [e5, rI_sB, if_neg (by simp), e4, rI_eq _ _ _ ⟨by omega, by omega⟩]
  have z5 : rI μ5 15536 0 = 0 := by rw [e5, rI_sB, if_pos ⟨rfl, rfl⟩]; rfl
  rw [k5, show M + 1 - 1 = M by omega]
  clear e4 e5
  refine h μ5 (f24.trans (Fr.mono f5 rfl)) k5 z5 (fun j hj => ?_) ?_ (fun σ' s1 s2 s3 => ?_)
  · rw [f5.rdI rfl, fx.rdI rfl]; exact v1 j hj
  · rw [f5.rdI rfl, fx.rdI rfl]; exact v2
  · obtain ⟨b1, b2, b3, b4, b5, b6⟩ := hB
    refine ⟨fun m q0 q1 => ?_, fun x x0 x1 => ?_, fun x x0 x1 => ?_, fun m q0 q1 => ?_, fun n n1 n2 => ?_, ?_⟩
    · rw [s1] at q1
      show rI μ5 122 m = if m = M then 0 else F.1 m
      rw [f5.rdI rfl, fx.rdI rfl]
      by_cases c : m = M
      · rw [if_pos c, c]; exact h2
      · rw [if_neg c, h1 m c]
        exact b1 m q0 (by omega)
    · rw [s2] at x1
      show rI μ5 123 x = if 100 + x = M then 0 else F.1 (100 + x)
      rw [f5.rdI rfl, fx.rdI rfl, f2.rdI rfl, if_neg (by omega)]
      exact b2 x x0 x1
    · rw [s3] at x1
      show rI μ5 124 x = if 200 + x = M then 0 else F.1 (200 + x)
      rw [f5.rdI rfl, fx.rdI rfl, f2.rdI rfl, if_neg (by omega)]
      exact b3 x x0 x1
    · show RowK μ5 m (if m = M then l else F.2.1 m)
      refine RowAt.fr ?_ f5 rfl
      by_cases c : m = M
      · rw [if_pos c, c]; exact rx
      · rw [if_neg c]
        have b := b4 m q0 q1
        have w12 := (hW.2.2.2.1 m q0 q1).1
        refine ⟨by rw [ox m c, f2.rdI rfl]; exact b.1, fun i hi => ?_⟩
        have k := cx (12 * m + (i : Int)) (by omega)
        rw [k.1, k.2.1, k.2.2, f2.rdI rfl, f2.rdI rfl, f2.rdI rfl]
        exact b.2 i hi
    · rw [f5.rdI rfl, fx.rdI rfl, f2.rdI rfl]; exact b5 n n1 n2
    · rw [f5.rdI rfl, fx.rdI rfl, f2.rdI rfl]; exact b6
-- what holds again
def gPm (q : Nat) : Bool := Nat.beq q 15466 || (Nat.ble 118 q && Nat.ble q 121) || Nat.beq q 15474 || Nat.beq q 15479
def gPcm (q : Nat) : Bool := (Nat.ble 14 q && Nat.ble q 17) || Nat.beq q 2544 || Nat.beq q 2545 || gRuc q
theorem gPcm_Ru {σ σ' : Sg} (h : Lo gPcm σ σ') : Lo gRuc σ σ' := fun q hq => h q (by unfold gPcm; rw [hq]; simp)
theorem RelP.mo {κ κ' σ σ' : Sg} {M a : Int} (hc : Lo gPcm κ κ') (h : Lo gPm σ σ') (hr : RuE (σ 15479 0) σ σ') (k : RelP κ σ) (eM : σ 15472 0 = M) (hM : M < 24) (e1 : κ' 2543 0 = M + 1) (e2 : σ' 15472 0 = M + 1) (c1 : ∀ j : Int, ¬ j = M → κ' 13 j = κ 13 j) (c2 : κ' 13 M = a) (s1 : ∀ j : Int, ¬ j = M → σ' 117 j = σ 117 j) (s2 : σ' 117 M = a) (ha : 0 ≤ a ∧ a < σ 15466 0) : RelP κ' σ' := by
  have hru : ∀ i : Int, -1 ≤ i → i < σ 15479 0 → RuOK κ' σ' (rIx i) i := fun i h0 h1 => by
    obtain ⟨-, -, -, -, -, -, -, -, h10, -, -, kr⟩ := k
    have rr := rIx_rng h0 (show i < 10 by omega)
    refine RuOK.pt h10 hr h0 h1 (fun q hq => ?_) (kr i h0 h1)
    refine gPcm_Ru hc q (gRuc_a ?_)
    unfold gid at hq
    omega
  unfold RelP at *
  rw [e1, e2, h 15466 rfl, h 118 rfl, h 119 rfl, h 120 rfl, h 121 rfl, h 15474 rfl, h 15479 rfl,
    hc 14 rfl, hc 15 rfl, hc 16 rfl, hc 17 rfl, hc 2544 rfl, hc 2545 rfl]
  rw [eM] at k
  refine ⟨rfl, by omega, by omega, k.2.2.2.1, k.2.2.2.2.1, k.2.2.2.2.2.1, k.2.2.2.2.2.2.1, k.2.2.2.2.2.2.2.1, k.2.2.2.2.2.2.2.2.1, fun m q0 q1 => ?_, fun x x0 x1 => ?_, hru⟩
  · by_cases c : m = M
    · rw [c, c2, s2]; exact ⟨rfl, ha⟩
    · rw [c1 m c, s1 m c]
      exact k.2.2.2.2.2.2.2.2.2.1 m q0 (by omega)
  · have g := k.2.2.2.2.2.2.2.2.2.2.1 x x0 x1
    exact ⟨g.1, g.2.1, by omega, g.2.2.2⟩
theorem RelV.nov {κ κ' σ σ' : Sg} {lo lo' : Int64 × Int64 × Int64 × Int64} (k : RelV κ lo σ) (h1 : κ' 11632 0 = κ 11632 0) (h2 : σ' 15534 0 = σ 15534 0) (h3 : κ' 84 = κ 84) (h4 : σ' 158 = σ 158) (e1 : κ' 11630 0 = 0) (e2 : σ' 15536 0 = 0) : RelV κ' lo' σ' := by
  unfold RelV at *
  rw [h1, h2, h3, h4]
  exact ⟨k.1, k.2.1, k.2.2.1, k.2.2.2.1, ⟨fun _ => e2, fun _ => e1⟩, fun z => absurd e2 z⟩
