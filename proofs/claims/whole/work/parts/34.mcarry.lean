/-! CARRYING OUT, the model's side -/
def liL : List Nat := [125, 126, 127, 128]
theorem m_laysRow {ν : Mem} {m : Int} (hm : 0 ≤ m ∧ m < 24) {l : List Ln} (hl : RowM ν l) (hw : WfL l) {K : Mem → Prop} (h : ∀ ξ : Mem, Fr liL ν ξ → RowK ξ m l → (∀ q : Int, ¬ q = m → rI ξ 125 q = rI ν 125 q) → (∀ j : Int, (j < 12 * m ∨ 12 * m + 12 ≤ j) → rI ξ 126 j = rI ν 126 j ∧ rI ξ 127 j = rI ν 127 j ∧ rI ξ 128 j = rI ν 128 j) → K ξ) : f_M_laysRow m ν K := by
  have h12 := hw.1
  unfold f_M_laysRow
  rw [hl.n]
  (try simp (disch := omega) only [w_id])
  refine ⟨by omega, by omega, fun μ1 e1 => ?_⟩
  have f1 : Fr liL ν μ1 := by rw [e1]; exact (FrP.refl _ _).wI rfl
  have f1l : Fr [125] ν μ1 := by rw [e1]; exact (FrP.refl _ _).wI rfl
  refine lp2 (fun k (q : Int) (ξ : Mem) => l_M_laysRow_12 m _ k q ξ) (fun q ξ => ∃ j : Nat, q = (j : Int) ∧ j ≤ l.length ∧ Fr [126, 127, 128] μ1 ξ ∧ (∀ i : Nat, i < j → rI ξ 126 (12 * m + (i : Int)) = (l.getD i dL).1 ∧ rI ξ 127 (12 * m + (i : Int)) = (l.getD i dL).2.1 ∧ rI ξ 128 (12 * m + (i : Int)) = (l.getD i dL).2.2) ∧ (∀ j : Int, (j < 12 * m ∨ 12 * m + 12 ≤ j) → rI ξ 126 j = rI ν 126 j ∧ rI ξ 127 j = rI ν 127 j ∧ rI ξ 128 j = rI ν 128 j)) (fun q _ => ((l.length : Int) - q).toNat) (fun k q ξ hJ ih => ?_) 0 μ1 ⟨0, rfl, by omega, FrP.refl _ _, fun i hi => by omega, fun j hj => by rw [f1l.rdI rfl, f1l.rdI rfl, f1l.rdI rfl]; exact ⟨rfl, rfl, rfl⟩⟩
  obtain ⟨j, rfl, hj, hf, hz, ho⟩ := hJ
  have fν : Fr liL ν ξ := f1.trans (Fr.mono hf rfl)
  have hn : rI ξ 15533 0 = (l.length : Int) := (fν.rdI rfl).trans hl.n
  unfold l_M_laysRow_12
  rw [hn]
  (try simp (disch := omega) only [w_id])
  refine ite_i (fun q => ?_) (fun q => ?_)
  · have hjl : j < l.length := by omega
    have hwj := hw.at hjl
    have g := hl.at hjl
    have gn : rI ξ 155 (j : Int) = (l.getD j dL).1 := (fν.rdI rfl).trans g.1
    rw [gn]
    refine ⟨by omega, by omega, by omega, by omega, fun μ3 e3 => ⟨by omega, by omega, by omega, by omega, fun μ4 e4 => ⟨by omega, by omega, by omega, by omega, fun μ5 e5 => ?_⟩⟩⟩
    have f3 : Fr liL ν μ3 := by rw [e3]; exact fν.wI rfl
    have gu : rI μ3 156 (j : Int) = (l.getD j dL).2.1 := (f3.rdI rfl).trans g.2.1
    rw [rB_rI, gu] at e4
    have f4 : Fr liL ν μ4 := by rw [e4]; exact f3.wB rfl
    have gb : rI μ4 157 (j : Int) = (l.getD j dL).2.2 := (f4.rdI rfl).trans g.2.2
    rw [gb] at e5
    refine ih _ _ ⟨j + 1, by omega, by omega, by rw [e5, e4, e3]; exact ((hf.wI rfl).wB rfl).wI rfl, fun i hi => ?_, fun i hi => ?_⟩ (by omega)
    · rw [e5, e4, e3]
      by_cases c : i = j
      · rw [c]
        simp only [rI_sI, rI_sB, Nat.reduceEqDiff, false_and, if_false, true_and, if_true]
        rw [w_id (by omega) (by omega), w_id (by omega) (by omega), b2i_01 hwj.2.2.1]
        exact ⟨rfl, rfl, rfl⟩
      · have ne : ¬ 12 * m + (i : Int) = 12 * m + (j : Int) := by omega
        simp only [rI_sI, rI_sB, Nat.reduceEqDiff, false_and, if_false, true_and, ne]
        exact hz i (by omega)
    · rw [e5, e4, e3]
      have ne : ¬ i = 12 * m + (j : Int) := by omega
      simp only [rI_sI, rI_sB, Nat.reduceEqDiff, false_and, if_false, true_and, ne]
      exact ho i hi
  · refine h ξ fν ⟨?_, fun i hi => hz i (by omega)⟩ (fun q hq => ?_) ho
    · rw [hf.rdI rfl, e1, rI_sI, if_pos ⟨rfl, rfl⟩, w_id (by omega) (by omega)]
    · rw [hf.rdI rfl, e1, rI_sI, if_neg (fun z => hq z.2)]
theorem doA_loc {σ σ' : Sg} (h : ∀ q : Nat, (q = 119 ∨ q = 120 ∨ q = 121) → ∀ j : Int, σ' q j = σ q j) (a : Int) (l : List Ln) : doA σ' a l = doA σ a l := by
  have hN : ∀ k : Nat, doN σ' a l k = doN σ a l k := by
    intro k
    induction k with
    | zero => rfl
    | succ k ih =>
      show doC a (doN σ' a l k) _ _ = doC a (doN σ a l k) _ _
      rw [ih, h 120 (by omega), h 121 (by omega)]
  unfold doA
  rw [h 119 (by omega), hN]
theorem ChW_loc {σ σ' : Sg} (h : ∀ q : Nat, (q = 119 ∨ q = 120 ∨ q = 121) → ∀ j : Int, σ' q j = σ q j) {a : Int} (k : ChW σ a) : ChW σ' a := by
  unfold ChW at *
  rw [h 119 (by omega)]
  refine ⟨k.1, k.2.1, fun i i0 i1 => ?_⟩
  rw [h 120 (by omega), h 121 (by omega)]
  exact k.2.2 i i0 i1
theorem StM.ms {σ : Sg} {ν : Mem} (h : StM σ ν) : ∀ q : Nat, (q = 119 ∨ q = 120 ∨ q = 121) → ∀ j : Int, MS ν q j = σ q j := fun q hq j => by
  rcases hq with rfl | rfl | rfl
  · exact h 119 rfl j
  · exact h 120 rfl j
  · exact h 121 rfl j
def paL : List Nat := [122, 123, 124, 129, 15480, 125, 126, 127, 128, 15533, 155, 156, 157]
/-- the scratch row taken out of a floor's row -/
theorem m_takesRowF {ν : Mem} {m : Int} (hm : 0 ≤ m ∧ m < 24) {l : List Ln} (hk : RowK ν m l) (hw : WfL l) {K : Mem → Prop} (h : ∀ ξ : Mem, Fr rmL ν ξ → RowM ξ l → K ξ) : f_M_takesRow m ν K := by
  have h12 := hw.1
  have e : rowOf (MS ν) m = l := by
    have el : (rowOf (MS ν) m).length = l.length := by
      unfold rowOf rw4
      rw [lv_len]
      have : MS ν 125 m = (l.length : Int) := hk.1
      omega
    refine ln_ext el (fun i hi => ?_)
    rw [rowOf_getD (by rw [el]; exact hk.1) hi]
    have := hk.2 i (by omega)
    refine Prod.ext this.1 (Prod.ext this.2.1 this.2.2)
  refine m_takesRow hm (by rw [e]; exact hw) (by rw [e]; exact hk.1) (fun ξ f r => ?_)
  rw [e] at r
  exact h ξ f r
theorem m_passesAmend {σ : Sg} {ν : Mem} {F : Fl} (hB : FlB σ ν F) (hS : StM σ ν) (hC : CtW σ) (hW : FlW σ F) {a : Int} (ha : 0 ≤ a ∧ a < σ 15474 0) {K : Mem → Prop} (h : ∀ ξ : Mem, Fr paL ν ξ → FlB σ ξ (paF σ F a) → K ξ) : f_M_passesAmend a ν K := by
  have hct := hC.1
  obtain ⟨w1, g2, g3⟩ := hC.2 a ha.1 ha.2
  have wm := hW.2.2.2.1 (σ 118 a) g2 (by omega)
  have wd := WfL_doA w1 (by omega) wm
  have hd12 := wd.1
  unfold f_M_passesAmend
  (try simp (disch := omega) only [w_id])
  refine ⟨by omega, by omega, fun μ1 e1 => ⟨by omega, by omega, fun v2 e2 => ?_⟩⟩
  have f1 : Fr [123] ν μ1 := by rw [e1]; exact (FrP.refl _ _).wI rfl
  have S1 := hS.fr f1 rfl
  have ev : v2 = σ 118 a := by rw [e2]; exact S1 _ rfl _
  rw [ev]
  have B1 : FlB σ μ1 (sHow F (100 + a) 1) := by
    refine hB.how (f := (sHow F (100 + a) 1).1) (Fr.mono f1 rfl) (fun m m0 m1 => ?_) (fun b b0 b1 => ?_) (fun o o0 o1 => ?_)
    · rw [f1.rdI rfl, hB.1 m m0 m1]
      show _ = if m = 100 + a then 1 else F.1 m
      rw [if_neg (by omega)]
    · rw [e1, rI_sI]
      show _ = if 100 + b = 100 + a then 1 else F.1 (100 + b)
      by_cases c : b = a
      · rw [if_pos ⟨rfl, c⟩, if_pos (by omega)]; rfl
      · rw [if_neg (fun z => c z.2), if_neg (by omega)]; exact hB.2.1 b b0 b1
    · rw [f1.rdI rfl, hB.2.2.1 o o0 o1]
      show _ = if 200 + o = 100 + a then 1 else F.1 (200 + o)
      rw [if_neg (by omega)]
  refine m_takesRowF ⟨g2, by omega⟩ (B1.2.2.2.1 _ g2 (by omega)) wm (fun μ2 f2 r2 => ?_)
  have S2 := S1.fr f2 rfl
  refine m_does (by omega) r2 wm (ChW_loc S2.ms w1) (fun μ3 f3 r3 => ?_)
  rw [doA_loc S2.ms] at r3
  refine m_laysRow ⟨g2, by omega⟩ r3 wd (fun μ4 f4 r4 o4 n4 => ?_)
  have f13 : Fr rmL μ1 μ3 := f2.trans f3
  have B4 : FlB σ μ4 (paF0 σ F a) := by
    obtain ⟨z1, z2, z3, z4, z5, z6⟩ := B1
    refine ⟨fun m m0 m1 => (f4.rdI rfl).trans ((f13.rdI rfl).trans (z1 m m0 m1)), fun b b0 b1 => (f4.rdI rfl).trans ((f13.rdI rfl).trans (z2 b b0 b1)), fun o o0 o1 => (f4.rdI rfl).trans ((f13.rdI rfl).trans (z3 o o0 o1)), fun m m0 m1 => ?_, fun n n1 n2 => (f4.rdI rfl).trans ((f13.rdI rfl).trans (z5 n n1 n2)), (f4.rdI rfl).trans ((f13.rdI rfl).trans z6)⟩
    show RowK μ4 m (if m = σ 118 a then doA σ a (F.2.1 (σ 118 a)) else F.2.1 m)
    by_cases c : m = σ 118 a
    · rw [if_pos c, c]; exact r4
    · rw [if_neg c]
      have zz := z4 m m0 m1
      have l12 := (hW.2.2.2.1 m m0 m1).1
      refine ⟨(o4 m c).trans ((f13.rdI rfl).trans zz.1), fun i hi => ?_⟩
      have hi2 : i < (F.2.1 m).length := hi
      have g := n4 (12 * m + (i : Int)) (by omega)
      rw [g.1, g.2.1, g.2.2, f13.rdI rfl, f13.rdI rfl, f13.rdI rfl]
      exact zz.2 i hi
  have f14 : Fr paL ν μ4 := ((Fr.mono f1 rfl : Fr paL ν μ1).trans (Fr.mono f13 rfl)).trans (Fr.mono f4 rfl)
  have S4 := hS.fr f14 rfl
  have r4' : rI μ4 125 (σ 118 a) = ((doA σ a (F.2.1 (σ 118 a))).length : Int) := r4.1
  unfold paF at h
  (try simp (disch := omega) only [w_id])
  rw [r4']
  refine ⟨by omega, by omega, ?_⟩
  (try simp (disch := omega) only [w_id])
  refine ite_i (fun c => ?_) (fun c => ?_)
  · rw [if_pos (by omega)] at h
    refine m_settles B4 S4 hC (sHow_rng hW.1 (by omega)) ⟨g2, g3⟩ (by omega) (fun ξ fx Bx => h ξ (f14.trans (Fr.mono fx rfl)) Bx)
  · rw [if_neg (by omega)] at h
    exact h μ4 f14 B4
/-- the end of decides, as the model has it -/
def m_tail (a1 : Int) (r16 : Bool) (μ_12 : Mem) (k : Int → Mem → Prop) : Prop :=
  if w a1 < w 100 then (if r16 = true then (f_M_passesMotion a1 μ_12 (fun μ_13 => ∀ x277 : Int, x277 = (if r16 = true then 1 else 0) → k x277 μ_13)) else (f_M_settles a1 2 μ_12 (fun μ_14 => ∀ x277_1 : Int, x277_1 = (if r16 = true then 1 else 0) → k x277_1 μ_14))) else (if w a1 < w 200 then (if r16 = true then (f_M_passesAmend (a1 - 100) μ_12 (fun μ_15 => ∀ x277_2 : Int, x277_2 = (if r16 = true then 1 else 0) → k x277_2 μ_15)) else (0 ≤ w (a1 - 100) ∧ w (a1 - 100) < ((40 : Nat) : Int) ∧ ∀ μ_16 : Mem, μ_16 = sI μ_12 123 (w (a1 - 100)) 2 → ∀ x277_3 : Int, x277_3 = (if r16 = true then 1 else 0) → k x277_3 μ_16)) else (∀ x252 : Int, x252 = (if r16 = true then 1 else 2) → 0 ≤ w (a1 - 200) ∧ w (a1 - 200) < ((10 : Nat) : Int) ∧ ∀ μ_17 : Mem, μ_17 = sI μ_12 124 (w (a1 - 200)) x252 → if r16 = true then (∀ μ_18 : Mem, μ_18 = sI μ_17 15480 0 (a1 - 200) → ∀ x277_4 : Int, x277_4 = (if r16 = true then 1 else 0) → k x277_4 μ_18) else (∀ x277_5 : Int, x277_5 = (if r16 = true then 1 else 0) → k x277_5 μ_17)))
def boI (b : Bool) : Int := if b = true then 1 else 0
theorem m_carry {σ : Sg} {ν : Mem} {F : Fl} (hB : FlB σ ν F) (hS : StM σ ν) (hC : CtW σ) (hW : FlW σ F) {mt : Int} (hm : isMt σ mt) {ps : Bool} {K : Int → Mem → Prop} (h : ∀ ξ : Mem, Fr paL ν ξ → FlB σ ξ (coF σ F mt ps) → K (boI ps) ξ) : m_tail mt ps ν K := by
  have hct := hC.1
  have hm2 := hm
  unfold isMt at hm2
  unfold coF at h
  unfold m_tail
  have ret : ∀ (ξ : Mem), K (boI ps) ξ → ∀ x : Int, x = (if ps = true then 1 else 0) → K x ξ := fun ξ k x e => by rw [e]; exact k
  (try simp (disch := omega) only [w_id])
  refine ite_i (fun c1 => ?_) (fun c1 => ite_i (fun c2 => ?_) (fun c2 x ex => ?_))
  · rw [if_pos c1, if_pos c1] at h
    by_cases cp : ps = true
    · rw [if_pos cp] at h ⊢
      exact m_passesMotion hB hS hC hW (by omega) (fun ξ f B => ret ξ (h ξ (Fr.mono f rfl) B))
    · rw [if_neg cp] at h ⊢
      exact m_settles hB hS hC hW.1 (by omega) (by omega) (fun ξ f B => ret ξ (h ξ (Fr.mono f rfl) B))
  · rw [if_neg c1, if_neg c1, if_pos c2] at h
    by_cases cp : ps = true
    · rw [if_pos cp] at h ⊢
      exact m_passesAmend hB hS hC hW (by omega) (fun ξ f B => ret ξ (h ξ f B))
    · rw [if_neg cp] at h ⊢
      refine ⟨by omega, by omega, fun μ16 e16 => ret μ16 (h μ16 (by rw [e16]; exact (FrP.refl _ _).wI rfl) ?_)⟩
      have f1 : Fr [123] ν μ16 := by rw [e16]; exact (FrP.refl _ _).wI rfl
      refine hB.how (f := (sHow F mt 2).1) (Fr.mono f1 rfl) (fun m m0 m1 => ?_) (fun b b0 b1 => ?_) (fun o o0 o1 => ?_)
      · rw [f1.rdI rfl, hB.1 m m0 m1]
        show _ = if m = mt then 2 else F.1 m
        rw [if_neg (by omega)]
      · rw [e16, rI_sI]
        show _ = if 100 + b = mt then 2 else F.1 (100 + b)
        by_cases c : b = mt - 100
        · rw [if_pos ⟨rfl, c⟩, if_pos (by omega)]; rfl
        · rw [if_neg (fun z => c z.2), if_neg (by omega)]; exact hB.2.1 b b0 b1
      · rw [f1.rdI rfl, hB.2.2.1 o o0 o1]
        show _ = if 200 + o = mt then 2 else F.1 (200 + o)
        rw [if_neg (by omega)]
  · rw [if_neg c1, if_neg c1, if_neg c2] at h
    refine ⟨by omega, by omega, fun μ17 e17 => ?_⟩
    have f1 : Fr [124] ν μ17 := by rw [e17]; exact (FrP.refl _ _).wI rfl
    have hx : 1 ≤ x ∧ x ≤ 2 := by rw [ex]; split <;> omega
    have B1 : FlB σ μ17 (sHow F mt x) := by
      refine hB.how (f := (sHow F mt x).1) (Fr.mono f1 rfl) (fun m m0 m1 => ?_) (fun b b0 b1 => ?_) (fun o o0 o1 => ?_)
      · rw [f1.rdI rfl, hB.1 m m0 m1]
        show _ = if m = mt then x else F.1 m
        rw [if_neg (by omega)]
      · rw [f1.rdI rfl, hB.2.1 b b0 b1]
        show _ = if 100 + b = mt then x else F.1 (100 + b)
        rw [if_neg (by omega)]
      · rw [e17, rI_sI]
        show _ = if 200 + o = mt then x else F.1 (200 + o)
        by_cases c : o = mt - 200
        · rw [if_pos ⟨rfl, c⟩, if_pos (by omega), w_id (by omega) (by omega)]
        · rw [if_neg (fun z => c z.2), if_neg (by omega)]; exact hB.2.2.1 o o0 o1
    by_cases cp : ps = true
    · rw [if_pos cp] at h ex ⊢
      intro μ18 e18
      have f2 : Fr [15480] μ17 μ18 := by rw [e18]; exact (FrP.refl _ _).wI rfl
      refine ret μ18 (h μ18 ((Fr.mono f1 rfl : Fr paL ν μ17).trans (Fr.mono f2 rfl)) ?_)
      rw [ex] at B1
      obtain ⟨z1, z2, z3, z4, z5, z6⟩ := B1
      exact ⟨fun m m0 m1 => (f2.rdI rfl).trans (z1 m m0 m1), fun m m0 m1 => (f2.rdI rfl).trans (z2 m m0 m1), fun m m0 m1 => (f2.rdI rfl).trans (z3 m m0 m1), fun m m0 m1 => ⟨(f2.rdI rfl).trans (z4 m m0 m1).1, fun i hi => by rw [f2.rdI rfl, f2.rdI rfl, f2.rdI rfl]; exact (z4 m m0 m1).2 i hi⟩, fun n n1 n2 => (f2.rdI rfl).trans (z5 n n1 n2), by rw [e18, rI_sI, if_pos ⟨rfl, rfl⟩, w_id (by omega) (by omega)]⟩
    · rw [if_neg cp] at h ex ⊢
      rw [ex] at B1
      exact ret μ17 (h μ17 (Fr.mono f1 rfl) B1)
