/-! CARRYING OUT, the class's side; what a floor stays -/
def paF0 (σ : Sg) (F : Fl) (a : Int) : Fl := ((sHow F (100 + a) 1).1, (fun q => if q = σ 118 a then doA σ a (F.2.1 (σ 118 a)) else F.2.1 q), F.2.2)
def paF (σ : Sg) (F : Fl) (a : Int) : Fl := if (doA σ a (F.2.1 (σ 118 a))).length = 0 then clF σ (paF0 σ F a) (σ 118 a) 3 else paF0 σ F a
noncomputable def coF (σ : Sg) (F : Fl) (mt : Int) (ps : Bool) : Fl :=
  if ps = true then (if mt < 100 then pmF σ F mt else if mt < 200 then paF σ F (mt - 100) else ((sHow F mt 1).1, F.2.1, F.2.2.1, mt - 200))
  else (if mt < 100 then clF σ F mt 2 else sHow F mt 2)
theorem sHow_rng {F : Fl} {x v : Int} (hr : ∀ x : Int, -1 ≤ F.1 x ∧ F.1 x ≤ 4) (hv : -1 ≤ v ∧ v ≤ 4) (y : Int) : -1 ≤ (sHow F x v).1 y ∧ (sHow F x v).1 y ≤ 4 := by
  show -1 ≤ (if y = x then v else F.1 y) ∧ (if y = x then v else F.1 y) ≤ 4
  by_cases c : y = x
  · rw [if_pos c]; exact hv
  · rw [if_neg c]; exact hr y
/-- changes of the AMENDMENTS, as the class has them -/
def ChE (σ : Sg) (ν : Mem) : Prop := ∀ a : Int, 0 ≤ a → a < σ 15474 0 → ChW σ a ∧ ChA σ ν a
theorem Ic.chE {σ : Sg} {μ : Mem} (h : Ic σ μ) : ChE σ μ := fun a a0 a1 => h.chW a0 a1
theorem c_passAmendment {σ : Sg} {ν : Mem} {F : Fl} (hA : FlA ν F) (hE : FlE σ ν) (hC : ChE σ ν) (hW : FlW σ F) {a : Int} (ha : 0 ≤ a ∧ a < σ 15474 0) {K : Mem → Prop} (h : ∀ ξ : Mem, Fr cfL ν ξ → FlA ξ (paF σ F a) → K ξ) : f_Floor_passAmendment a ν K := by
  have hg := hE.1
  have ha40 := hg.2.2.1
  obtain ⟨g1, g2, g3⟩ := hg.2.2.2 a ha.1 ha.2
  obtain ⟨w1, w2⟩ := hC a ha.1 ha.2
  have wm := hW.2.2.2.1 (σ 118 a) g2 g3
  have wd := WfL_doA w1 (by omega) wm
  unfold f_Floor_passAmendment
  intro v2 e2
  rw [at_in (by omega) (by omega) (by decide), g1] at e2
  rw [e2]
  refine c_put hA (by omega) (by omega) (fun μ1 f1 A1 => ?_)
  have r1 := A1.2.1 (σ 118 a) g2 g3
  refine c_amendRow (σ := σ) (by omega) (by omega) r1 wm w1 (w2.fr f1 rfl) (fun μ2 f2 r2 => ?_)
  have r2 : RowC μ2 (σ 118 a) (doA σ a (F.2.1 (σ 118 a))) := r2
  have A2 : FlA μ2 (paF0 σ F a) := by
    obtain ⟨z1, z2, z3, z4, z5⟩ := A1
    refine ⟨fun q q0 q1 => (f2.1.rdI rfl).trans (z1 q q0 q1), fun q q0 q1 => ?_, fun n n1 n2 => by rw [f2.1.rdL rfl, f2.1.rdL rfl]; exact z3 n n1 n2, fun n hn => by rw [f2.1.rdL rfl, f2.1.rdL rfl]; exact z4 n hn, (f2.1.rdI rfl).trans z5⟩
    show RowC μ2 q (if q = σ 118 a then doA σ a (F.2.1 (σ 118 a)) else F.2.1 q)
    by_cases c : q = σ 118 a
    · rw [if_pos c, c]; exact r2
    · rw [if_neg c]
      have zz := z2 q q0 q1
      have l12 := (hW.2.2.2.1 q q0 q1).1
      refine ⟨(f2.2.1 q c).trans zz.1, fun i hi => ?_⟩
      have hi2 : i < (F.2.1 q).length := hi
      have g := f2.2.2 (q * 12 + (i : Int)) (by omega)
      rw [g.1, g.2.1, g.2.2]
      exact zz.2 i hi
  have f12 : Fr cfL ν μ2 := (Fr.mono f1 rfl : Fr cfL ν μ1).trans (Fr.mono f2.1 rfl)
  have hl12 := wd.1
  unfold v_Floor_sizeOf
  rw [at_in (by omega) (by omega) (by decide), r2.1]
  unfold paF at h
  (try simp (disch := omega) only [w_id])
  refine ite_i (fun c => ?_) (fun c => ?_)
  · rw [if_pos (by omega)] at h
    refine c_closeMotion (σ := σ) A2 (hg.fr f12 rfl) (sHow_rng hW.1 (by omega)) ⟨g2, g3⟩ (by omega) (fun ξ fx Ax => h ξ (f12.trans (Fr.mono fx rfl)) Ax)
  · rw [if_neg (by omega)] at h
    exact h μ2 f12 A2
theorem c_carryOut {σ : Sg} {ν : Mem} {F : Fl} (hA : FlA ν F) (hE : FlE σ ν) (hC : ChE σ ν) (hW : FlW σ F) {mt : Int} (hm : isMt σ mt) {ps : Bool} {K : Mem → Prop} (h : ∀ ξ : Mem, Fr cfL ν ξ → FlA ξ (coF σ F mt ps) → K ξ) : f_Chair_carryOut mt ps ν K := by
  have hg := hE.1
  have hmo := hE.2.2
  have ha40 := hg.2.2.1
  have hm2 := hm
  unfold isMt at hm2
  unfold coF at h
  unfold f_Chair_carryOut
  intro v3 e3
  rw [kindOf_e ⟨by omega, by omega⟩] at e3
  by_cases c1 : mt < 100
  · rw [if_pos (by omega), if_pos c1] at e3
    rw [if_pos c1, if_pos c1] at h
    rw [e3]
    (try simp (disch := omega) only [w_id])
    rw [if_pos (by decide)]
    by_cases cp : ps = true
    · rw [if_pos cp] at h ⊢
      exact c_passMotion hA hE hW (by omega) h
    · rw [if_neg cp] at h ⊢
      unfold b_Chair_carryOut_24
      (try simp (disch := omega) only [w_id])
      rw [if_pos (by decide)]
      exact c_closeMotion hA hg hW.1 (by omega) (by omega) (fun ξ f A => h ξ (Fr.mono f rfl) A)
  · rw [if_neg c1, if_neg c1] at h
    have e0 : ¬ w v3 = 0 := by
      rw [e3]
      by_cases c2 : mt < 200
      · rw [if_pos c2, if_neg c1]; decide
      · rw [if_neg c2]; decide
    rw [if_neg e0]
    unfold b_Chair_carryOut_24
    rw [if_neg e0]
    by_cases cp : ps = true
    · rw [if_pos cp] at h ⊢
      by_cases c2 : mt < 200
      · rw [if_pos c2] at h
        rw [if_pos c2, if_neg c1] at e3
        rw [e3, if_pos (by decide)]
        exact c_passAmendment hA hE hC hW (by omega) h
      · rw [if_neg c2] at h
        rw [if_neg c2] at e3
        rw [e3, if_neg (by decide)]
        unfold f_Floor_passOrders
        rw [show 200 + (mt - 200) = mt by omega]
        refine c_put hA (by omega) (by omega) (fun μ1 f1 A1 μ2 e2 => ?_)
        have f2 : Fr [9584] μ1 μ2 := by rw [e2]; exact (FrP.refl _ _).wI rfl
        refine h μ2 ((Fr.mono f1 rfl : Fr cfL ν μ1).trans (Fr.mono f2 rfl)) ?_
        obtain ⟨z1, z2, z3, z4, z5⟩ := A1
        refine ⟨fun q q0 q1 => (f2.rdI rfl).trans (z1 q q0 q1), fun q q0 q1 => ⟨(f2.rdI rfl).trans (z2 q q0 q1).1, fun i hi => by rw [f2.rdI rfl, f2.rdI rfl, f2.rdI rfl]; exact (z2 q q0 q1).2 i hi⟩, fun n n1 n2 => by rw [f2.rdL rfl, f2.rdL rfl]; exact z3 n n1 n2, fun n hn => by rw [f2.rdL rfl, f2.rdL rfl]; exact z4 n hn, ?_⟩
        rw [e2, rI_sI, if_pos ⟨rfl, rfl⟩, w_id (by omega) (by omega)]
    · rw [if_neg cp] at h ⊢
      exact c_put hA (by omega) (by omega) (fun ξ f A => h ξ (Fr.mono f rfl) A)
-- what a floor must be stays
theorem sHow_W {σ : Sg} {F : Fl} (hW : FlW σ F) {x v : Int} (hx : isMt σ x) (hv : 0 ≤ v ∧ v ≤ 4) : FlW σ (sHow F x v) := by
  refine ⟨sHow_rng hW.1 (by omega), fun y hy => ?_, fun y hy => ?_, hW.2.2.2⟩
  · show 0 ≤ (if y = x then v else F.1 y)
    by_cases c : y = x
    · rw [if_pos c]; exact hv.1
    · rw [if_neg c]; exact hW.2.1 y hy
  · show (if y = x then v else F.1 y) = -1
    rw [if_neg (fun c => hy (by rw [c]; exact hx))]
    exact hW.2.2.1 y hy
theorem how_W {σ : Sg} {F : Fl} (hW : FlW σ F) {f : Int → Int} (h : ∀ y : Int, f y = F.1 y ∨ (isMt σ y ∧ 0 ≤ f y ∧ f y ≤ 4)) : FlW σ (f, F.2) := by
  refine ⟨fun y => ?_, fun y hy => ?_, fun y hy => ?_, hW.2.2.2⟩
  · show -1 ≤ f y ∧ f y ≤ 4
    rcases h y with e | e
    · rw [e]; exact hW.1 y
    · omega
  · show 0 ≤ f y
    rcases h y with e | e
    · rw [e]; exact hW.2.1 y hy
    · exact e.2.1
  · show f y = -1
    rcases h y with e | e
    · rw [e]; exact hW.2.2.1 y hy
    · exact absurd e.1 hy
theorem clF_W {σ : Sg} {F : Fl} (hW : FlW σ F) {m v : Int} (hm : 0 ≤ m ∧ m < σ 15472 0) (hv : 0 ≤ v ∧ v ≤ 4) : FlW σ (clF σ F m v) := by
  refine how_W hW (f := (clF σ F m v).1) (fun y => ?_)
  show (if y = m then v else if (100 ≤ y ∧ y < 100 + σ 15474 0 ∧ σ 118 (y - 100) = m ∧ F.1 y = 0) then 3 else F.1 y) = F.1 y ∨ (isMt σ y ∧ 0 ≤ (if y = m then v else if (100 ≤ y ∧ y < 100 + σ 15474 0 ∧ σ 118 (y - 100) = m ∧ F.1 y = 0) then 3 else F.1 y) ∧ (if y = m then v else if (100 ≤ y ∧ y < 100 + σ 15474 0 ∧ σ 118 (y - 100) = m ∧ F.1 y = 0) then 3 else F.1 y) ≤ 4)
  by_cases c : y = m
  · rw [if_pos c]; exact Or.inr ⟨by rw [c]; exact Or.inl hm, hv⟩
  · rw [if_neg c]
    by_cases c2 : 100 ≤ y ∧ y < 100 + σ 15474 0 ∧ σ 118 (y - 100) = m ∧ F.1 y = 0
    · rw [if_pos c2]; exact Or.inr ⟨Or.inr (Or.inl ⟨c2.1, c2.2.1⟩), by omega⟩
    · rw [if_neg c2]; exact Or.inl rfl
theorem coF_W {σ : Sg} {F : Fl} (hW : FlW σ F) (hC : ∀ a : Int, 0 ≤ a → a < σ 15474 0 → ChW σ a ∧ 0 ≤ σ 118 a ∧ σ 118 a < σ 15472 0) (hct : 0 ≤ σ 15472 0 ∧ σ 15472 0 ≤ 24 ∧ 0 ≤ σ 15474 0 ∧ σ 15474 0 ≤ 40 ∧ 0 ≤ σ 15479 0 ∧ σ 15479 0 ≤ 10) {mt : Int} (hm : isMt σ mt) (ps : Bool) : FlW σ (coF σ F mt ps) := by
  have hm2 := hm
  unfold isMt at hm2
  unfold coF
  by_cases cp : ps = true
  · rw [if_pos cp]
    by_cases c1 : mt < 100
    · rw [if_pos c1]
      have w1 : FlW σ ((faF σ F mt (falls F mt)).1, F.2) := by
        refine how_W hW (f := (faF σ F mt (falls F mt)).1) (fun y => ?_)
        by_cases c : y = mt
        · have e : (faF σ F mt (falls F mt)).1 y = 1 := if_pos c
          rw [e]; exact Or.inr ⟨by rw [c]; exact hm, by omega⟩
        · have e : (faF σ F mt (falls F mt)).1 y = pick (0 ≤ y ∧ y < σ 15472 0 ∧ falls F mt y) 3 (pick (100 ≤ y ∧ y < 100 + σ 15474 0 ∧ F.1 y = 0 ∧ (σ 118 (y - 100) = mt ∨ falls F mt (σ 118 (y - 100)))) 3 (F.1 y)) := if_neg c
          rw [e]
          by_cases c2 : 0 ≤ y ∧ y < σ 15472 0 ∧ falls F mt y
          · rw [pick_t c2]; exact Or.inr ⟨Or.inl ⟨c2.1, c2.2.1⟩, by omega⟩
          · rw [pick_f c2]
            by_cases c3 : 100 ≤ y ∧ y < 100 + σ 15474 0 ∧ F.1 y = 0 ∧ (σ 118 (y - 100) = mt ∨ falls F mt (σ 118 (y - 100)))
            · rw [pick_t c3]; exact Or.inr ⟨Or.inr (Or.inl ⟨c3.1, c3.2.1⟩), by omega⟩
            · rw [pick_f c3]; exact Or.inl rfl
      obtain ⟨z1, z2, z3, z4, z5, z6, z7, z8⟩ := w1
      exact ⟨z1, z2, z3, z4, z5, fun n n1 n2 => stP_rng (hW.2.2.2.2.2.1 n n1 n2), z7, z8⟩
    · rw [if_neg c1]
      by_cases c2 : mt < 200
      · rw [if_pos c2]
        obtain ⟨g0, g1, g2⟩ := hC (mt - 100) (by omega) (by omega)
        have w0 : FlW σ (paF0 σ F (mt - 100)) := by
          have ws := sHow_W hW (x := 100 + (mt - 100)) (v := 1) (by rw [show 100 + (mt - 100) = mt by omega]; exact hm) (by omega)
          obtain ⟨z1, z2, z3, z4, z5, z6⟩ := ws
          refine ⟨z1, z2, z3, fun m m0 m1 => ?_, fun m m0 m1 => ?_, z6⟩
          · show WfL (if m = σ 118 (mt - 100) then doA σ (mt - 100) (F.2.1 (σ 118 (mt - 100))) else F.2.1 m)
            by_cases c : m = σ 118 (mt - 100)
            · rw [if_pos c]; exact WfL_doA g0 (by omega) (hW.2.2.2.1 _ g1 (by omega))
            · rw [if_neg c]; exact hW.2.2.2.1 m m0 m1
          · show (if m = σ 118 (mt - 100) then doA σ (mt - 100) (F.2.1 (σ 118 (mt - 100))) else F.2.1 m) = []
            rw [if_neg (by omega)]
            exact hW.2.2.2.2.1 m m0 m1
        unfold paF
        by_cases c : (doA σ (mt - 100) (F.2.1 (σ 118 (mt - 100)))).length = 0
        · rw [if_pos c]; exact clF_W w0 ⟨g1, g2⟩ (by omega)
        · rw [if_neg c]; exact w0
      · rw [if_neg c2]
        have ws := sHow_W hW (x := mt) (v := 1) hm (by omega)
        obtain ⟨z1, z2, z3, z4, z5, z6, z7, z8⟩ := ws
        exact ⟨z1, z2, z3, z4, z5, z6, by show -1 ≤ mt - 200; omega, by show mt - 200 < σ 15479 0; omega⟩
  · rw [if_neg cp]
    by_cases c1 : mt < 100
    · rw [if_pos c1]; exact clF_W hW (by omega) (by omega)
    · rw [if_neg c1]; exact sHow_W hW hm (by omega)
