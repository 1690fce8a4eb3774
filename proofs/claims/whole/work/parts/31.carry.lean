/-! WHAT A DECISION DOES TO THE FLOOR; the class's side -/
/-- m has passed, of the other MOTIONS those of P are fallen -/
noncomputable def faF (σ : Sg) (F : Fl) (m : Int) (P : Int → Prop) : Fl :=
  (fun y => if y = m then 1 else pick (0 ≤ y ∧ y < σ 15472 0 ∧ P y) 3 (pick (100 ≤ y ∧ y < 100 + σ 15474 0 ∧ F.1 y = 0 ∧ (σ 118 (y - 100) = m ∨ P (σ 118 (y - 100)))) 3 (F.1 y)), F.2)
theorem faF_0 {σ : Sg} {F : Fl} {m : Int} : clF σ F m 1 = faF σ F m (fun _ => False) := by
  refine Prod.ext (funext fun y => ?_) rfl
  show (if y = m then 1 else if (100 ≤ y ∧ y < 100 + σ 15474 0 ∧ σ 118 (y - 100) = m ∧ F.1 y = 0) then 3 else F.1 y) = if y = m then 1 else pick (0 ≤ y ∧ y < σ 15472 0 ∧ False) 3 (pick (100 ≤ y ∧ y < 100 + σ 15474 0 ∧ F.1 y = 0 ∧ (σ 118 (y - 100) = m ∨ False)) 3 (F.1 y))
  by_cases c : y = m
  · rw [if_pos c, if_pos c]
  · rw [if_neg c, if_neg c, pick_f (fun z => z.2.2)]
    by_cases c2 : 100 ≤ y ∧ y < 100 + σ 15474 0 ∧ σ 118 (y - 100) = m ∧ F.1 y = 0
    · rw [if_pos c2, pick_t ⟨c2.1, c2.2.1, c2.2.2.2, Or.inl c2.2.2.1⟩]
    · rw [if_neg c2, pick_f (fun z => c2 ⟨z.1, z.2.1, z.2.2.2.elim id False.elim, z.2.2.1⟩)]
theorem faF_congr {σ : Sg} {F : Fl} {m : Int} {P Q : Int → Prop} (h : ∀ y : Int, 0 ≤ y → y < 24 → (P y ↔ Q y)) (hm : σ 15472 0 ≤ 24) (ha : ∀ a : Int, 0 ≤ a → a < σ 15474 0 → 0 ≤ σ 118 a ∧ σ 118 a < 24) : faF σ F m P = faF σ F m Q := by
  refine Prod.ext (funext fun y => ?_) rfl
  show (if y = m then 1 else _) = if y = m then 1 else _
  by_cases c : y = m
  · rw [if_pos c, if_pos c]
  · rw [if_neg c, if_neg c]
    have e1 : (0 ≤ y ∧ y < σ 15472 0 ∧ P y) = (0 ≤ y ∧ y < σ 15472 0 ∧ Q y) := propext ⟨fun z => ⟨z.1, z.2.1, (h y z.1 (by omega)).mp z.2.2⟩, fun z => ⟨z.1, z.2.1, (h y z.1 (by omega)).mpr z.2.2⟩⟩
    have e2 : (100 ≤ y ∧ y < 100 + σ 15474 0 ∧ F.1 y = 0 ∧ (σ 118 (y - 100) = m ∨ P (σ 118 (y - 100)))) = (100 ≤ y ∧ y < 100 + σ 15474 0 ∧ F.1 y = 0 ∧ (σ 118 (y - 100) = m ∨ Q (σ 118 (y - 100)))) := by
      refine propext ⟨fun z => ⟨z.1, z.2.1, z.2.2.1, ?_⟩, fun z => ⟨z.1, z.2.1, z.2.2.1, ?_⟩⟩
      · have k := ha (y - 100) (by omega) (by omega)
        exact z.2.2.2.imp id (h _ k.1 k.2).mp
      · have k := ha (y - 100) (by omega) (by omega)
        exact z.2.2.2.imp id (h _ k.1 k.2).mpr
    rw [e1, e2]
theorem faF_s {σ : Sg} {F : Fl} {m o : Int} {P : Int → Prop} (hmo : σ 15472 0 ≤ 24) (ho : 0 ≤ o ∧ o < σ 15472 0) (hom : ¬ o = m) (hm : 0 ≤ m ∧ m < 24) : clF σ (faF σ F m P) o 3 = faF σ F m (fun y => P y ∨ y = o) := by
  refine Prod.ext (funext fun y => ?_) rfl
  show (if y = o then 3 else if (100 ≤ y ∧ y < 100 + σ 15474 0 ∧ σ 118 (y - 100) = o ∧ (faF σ F m P).1 y = 0) then 3 else (faF σ F m P).1 y) = if y = m then 1 else _
  by_cases co : y = o
  · rw [if_pos co, if_neg (by omega), pick_t ⟨by omega, by omega, Or.inr co⟩]
  · rw [if_neg co]
    by_cases cm : y = m
    · have e1 : (faF σ F m P).1 y = 1 := if_pos cm
      rw [if_pos cm, if_neg (fun z => by omega), e1]
    · have e1 : (faF σ F m P).1 y = pick (0 ≤ y ∧ y < σ 15472 0 ∧ P y) 3 (pick (100 ≤ y ∧ y < 100 + σ 15474 0 ∧ F.1 y = 0 ∧ (σ 118 (y - 100) = m ∨ P (σ 118 (y - 100)))) 3 (F.1 y)) := if_neg cm
      rw [if_neg cm]
      have eP : (0 ≤ y ∧ y < σ 15472 0 ∧ (P y ∨ y = o)) = (0 ≤ y ∧ y < σ 15472 0 ∧ P y) := propext ⟨fun z => ⟨z.1, z.2.1, z.2.2.resolve_right co⟩, fun z => ⟨z.1, z.2.1, Or.inl z.2.2⟩⟩
      rw [eP, e1]
      by_cases c1 : 0 ≤ y ∧ y < σ 15472 0 ∧ P y
      · rw [pick_t c1, pick_t c1, if_neg (fun z => by omega)]
      · rw [pick_f c1, pick_f c1]
        by_cases c2 : 100 ≤ y ∧ y < 100 + σ 15474 0 ∧ F.1 y = 0 ∧ (σ 118 (y - 100) = m ∨ P (σ 118 (y - 100)))
        · rw [pick_t c2, if_neg (fun z => by omega), pick_t ⟨c2.1, c2.2.1, c2.2.2.1, c2.2.2.2.imp id Or.inl⟩]
        · rw [pick_f c2]
          by_cases c3 : 100 ≤ y ∧ y < 100 + σ 15474 0 ∧ σ 118 (y - 100) = o ∧ F.1 y = 0
          · rw [if_pos c3, pick_t ⟨c3.1, c3.2.1, c3.2.2.2, Or.inr (Or.inr c3.2.2.1)⟩]
          · rw [if_neg c3, pick_f (fun z => ?_)]
            rcases z.2.2.2 with q | q | q
            · exact c2 ⟨z.1, z.2.1, z.2.2.1, Or.inl q⟩
            · exact c2 ⟨z.1, z.2.1, z.2.2.1, Or.inr q⟩
            · exact c3 ⟨z.1, z.2.1, q, z.2.2.1⟩
def falls (F : Fl) (m o : Int) : Prop := ¬ o = m ∧ F.1 o = 0 ∧ ctr (F.2.1 o) (F.2.1 m)
noncomputable def pmF (σ : Sg) (F : Fl) (m : Int) : Fl := ((faF σ F m (falls F m)).1, F.2.1, stP (F.2.1 m) F.2.2.1, F.2.2.2)
theorem faF_open {σ : Sg} {F : Fl} {m o : Int} {P : Int → Prop} (ho : 0 ≤ o ∧ o < σ 15472 0) (hmo : σ 15472 0 ≤ 24) (hom : ¬ o = m) (hP : ¬ P o) : (faF σ F m P).1 o = F.1 o := by
  show (if o = m then 1 else _) = _
  rw [if_neg hom, pick_f (fun z => hP z.2.2), pick_f (fun z => by omega)]
theorem faF_rng {σ : Sg} {F : Fl} {m : Int} {P : Int → Prop} (hr : ∀ x : Int, -1 ≤ F.1 x ∧ F.1 x ≤ 4) (x : Int) : -1 ≤ (faF σ F m P).1 x ∧ (faF σ F m P).1 x ≤ 4 := by
  show -1 ≤ (if x = m then (1 : Int) else _) ∧ (if x = m then (1 : Int) else _) ≤ 4
  by_cases c : x = m
  · rw [if_pos c]; omega
  · rw [if_neg c]
    by_cases c1 : 0 ≤ x ∧ x < σ 15472 0 ∧ P x
    · rw [pick_t c1]; omega
    · rw [pick_f c1]
      by_cases c2 : 100 ≤ x ∧ x < 100 + σ 15474 0 ∧ F.1 x = 0 ∧ (σ 118 (x - 100) = m ∨ P (σ 118 (x - 100)))
      · rw [pick_t c2]; omega
      · rw [pick_f c2]; exact hr x
/-- what the class's steps on the floor need around it -/
def FlE (σ : Sg) (ν : Mem) : Prop := HgA σ ν ∧ rI ν 2543 0 = σ 15472 0 ∧ 0 ≤ σ 15472 0 ∧ σ 15472 0 ≤ 24 ∧ 0 ≤ σ 15479 0 ∧ σ 15479 0 ≤ 10
theorem Ic.flE {σ : Sg} {μ : Mem} (h : Ic σ μ) : FlE σ μ := ⟨h.hgA, h.relP.1, h.cnt.1, h.cnt.2.1, h.cnt.2.2.2.2.1, h.cnt.2.2.2.2.2⟩
theorem FlE.fr {L : List Nat} {σ : Sg} {ν ξ : Mem} (h : FlE σ ν) (f : Fr L ν ξ) (hL : (lel L 14 || lel L 2544 || lel L 2543) = false) : FlE σ ξ := by
  rw [Bool.or_eq_false_iff] at hL
  exact ⟨h.1.fr f hL.1, (f.rdI hL.2).trans h.2.1, h.2.2⟩
def cfL : List Nat := [68, 69, 70, 71, 72, 9582, 9583, 9584]
theorem c_passMotion {σ : Sg} {ν : Mem} {F : Fl} (hA : FlA ν F) (hE : FlE σ ν) (hW : FlW σ F) {m : Int} (hm : 0 ≤ m ∧ m < σ 15472 0) {K : Mem → Prop} (h : ∀ ξ : Mem, Fr cfL ν ξ → FlA ξ (pmF σ F m) → K ξ) : f_Floor_passMotion m ν K := by
  have hg := hE.1
  have hmo := hE.2.2.2.1
  have wm := hW.2.2.2.1 m hm.1 (by omega)
  unfold f_Floor_passMotion
  refine c_closeMotion hA hg hW.1 (by omega) (by omega) (fun μ1 f1 A1 => ?_)
  have r1 := A1.2.1 m hm.1 (by omega)
  refine c_bitsOf (by omega) r1 wm (Or.inl rfl) (fun x hx => c_bitsOf (by omega) r1 wm (Or.inr rfl) (fun y hy μ4 e4 μ5 e5 => ?_))
  have f5 : Fr cfL μ1 μ5 := by rw [e5, e4]; exact ((FrP.refl _ _).wL rfl).wL rfl
  have A5 : FlA μ5 ((faF σ F m (fun _ => False)).1, F.2.1, stP (F.2.1 m) F.2.2.1, F.2.2.2) := by
    rw [faF_0] at A1
    obtain ⟨z1, z2, z3, z4, z5⟩ := A1
    have sd : rL μ5 9582 0 = ((rL μ1 9582 0) &&& (y ^^^ (-1))) ||| x := by rw [e5, e4]; simp only [rLs, Nat.reduceEqDiff, false_and, if_false, true_and, if_true]
    have dn : rL μ5 9583 0 = ((rL μ1 9583 0) &&& (x ^^^ (-1))) ||| y := by rw [e5, e4]; simp only [rLs, Nat.reduceEqDiff, false_and, if_false, true_and, if_true]
    have fr2 : Fr [9582, 9583] μ1 μ5 := by rw [e5, e4]; exact ((FrP.refl _ _).wL rfl).wL rfl
    refine ⟨fun q q0 q1 => (fr2.rdI rfl).trans (z1 q q0 q1), fun q q0 q1 => ⟨(fr2.rdI rfl).trans (z2 q q0 q1).1, fun i hi => by rw [fr2.rdI rfl, fr2.rdI rfl, fr2.rdI rfl]; exact (z2 q q0 q1).2 i hi⟩, fun n n1 n2 => ?_, fun n hn => ?_, (fr2.rdI rfl).trans z5⟩
    · rw [sd, dn]
      exact stand_bits wm n1 n2 (z3 n n1 n2) hx hy
    · obtain ⟨q1, q2⟩ := z4 n hn
      have nx : btl x n = false := by
        by_cases c : n < 64
        · rw [hx n c]
          cases e : (F.2.1 m).any (fun q : Ln => decide (0 < q.1 * 1 ∧ q.1 * 1 = (n : Int))) with
          | false => exact e
          | true =>
            obtain ⟨q, mq, dq⟩ := List.any_eq_true.mp e
            have dq := of_decide_eq_true dq
            have := wm.2.1 q mq
            omega
        · exact btl_big _ (by omega)
      have ny : btl y n = false := by
        by_cases c : n < 64
        · rw [hy n c]
          cases e : (F.2.1 m).any (fun q : Ln => decide (0 < q.1 * (-1) ∧ q.1 * (-1) = (n : Int))) with
          | false => exact e
          | true =>
            obtain ⟨q, mq, dq⟩ := List.any_eq_true.mp e
            have dq := of_decide_eq_true dq
            have := wm.2.1 q mq
            omega
        · exact btl_big _ (by omega)
      rw [sd, dn, btl_or, btl_and, btl_or, btl_and, q1, q2, nx, ny]
      exact ⟨rfl, rfl⟩
  have f15 : Fr cfL ν μ5 := (Fr.mono f1 rfl : Fr cfL ν μ1).trans f5
  refine lp2 (fun n (i : Int) (ξ : Mem) => l_Floor_passMotion_58 m _ n i ξ) (fun i ξ => 0 ≤ i ∧ i ≤ σ 15472 0 ∧ Fr cfL ν ξ ∧ FlA ξ ((faF σ F m (fun y => y < i ∧ falls F m y)).1, F.2.1, stP (F.2.1 m) F.2.2.1, F.2.2.2)) (fun i _ => (σ 15472 0 - i).toNat) (fun n i ξ hJ ih => ?_) 0 μ5 ⟨by omega, by omega, f15, ?_⟩
  · obtain ⟨i0, i1, hf, hK⟩ := hJ
    have hEξ := hE.fr hf rfl
    have cg : ∀ (P Q : Int → Prop), (∀ y : Int, 0 ≤ y → y < 24 → (P y ↔ Q y)) → faF σ F m P = faF σ F m Q := fun P Q pq => faF_congr pq hmo (fun a a0 a1 => (hg.2.2.2 a a0 a1).2)
    unfold l_Floor_passMotion_58
    rw [hEξ.2.1]
    (try simp (disch := omega) only [w_id])
    refine ite_i (fun q => ?_) (fun q => ?_)
    · have same : ¬ falls F m i → l_Floor_passMotion_58 m (fun (μ_9 : Mem) => K μ_9) n (i + 1) ξ := fun nf => ih _ _ ⟨by omega, by omega, hf, by
        rw [cg (fun y => y < i + 1 ∧ falls F m y) (fun y => y < i ∧ falls F m y) (fun y _ _ => ⟨fun z => ⟨by
          have : ¬ y = i := fun e => nf (by rw [← e]; exact z.2)
          omega, z.2⟩, fun z => ⟨by omega, z.2⟩⟩)]
        exact hK⟩ (by omega)
      refine ite_i (fun c1 => same (fun z => z.1 c1)) (fun c1 => ?_)
      have eo := faF_open (σ := σ) (F := F) (m := m) (o := i) (P := fun y => y < i ∧ falls F m y) ⟨i0, q⟩ hmo c1 (fun z => by omega)
      have hri := hW.1 i
      rw [stateOf_A hK (by omega)]
      show if w ((faF σ F m (fun y => y < i ∧ falls F m y)).1 i) = w 0 then _ else _
      rw [eo]
      (try simp (disch := omega) only [w_id])
      refine ite_i (fun c2 => ?_) (fun c2 => same (fun z => c2 z.2.1))
      have wi := hW.2.2.2.1 i i0 (by omega)
      refine c_areContrary (by omega) (by omega) (hK.2.1 i i0 (by omega)) (hK.2.1 m hm.1 (by omega)) wi wm (fun cc => ?_) (fun cc => ?_)
      · rw [if_pos rfl]
        refine c_closeMotion (σ := σ) hK hEξ.1 (faF_rng hW.1) (by omega) (by omega) (fun ο fo Ao => ?_)
        refine ih _ _ ⟨by omega, by omega, hf.trans (Fr.mono fo rfl), ?_⟩ (by omega)
        have e := faF_s (σ := σ) (F := F) (m := m) (o := i) (P := fun y => y < i ∧ falls F m y) hmo ⟨i0, q⟩ c1 (by omega)
        have e2 : clF σ ((faF σ F m (fun y => y < i ∧ falls F m y)).1, F.2.1, stP (F.2.1 m) F.2.2.1, F.2.2.2) i 3 = ((clF σ (faF σ F m (fun y => y < i ∧ falls F m y)) i 3).1, F.2.1, stP (F.2.1 m) F.2.2.1, F.2.2.2) := rfl
        rw [e2, e] at Ao
        rw [cg (fun y => y < i + 1 ∧ falls F m y) (fun y => (y < i ∧ falls F m y) ∨ y = i) (fun y _ _ => ⟨fun z => by
          by_cases ey : y = i
          · exact Or.inr ey
          · exact Or.inl ⟨by omega, z.2⟩, fun z => by
          rcases z with z | z
          · exact ⟨by omega, z.2⟩
          · rw [z]; exact ⟨by omega, c1, c2, cc⟩⟩)]
        exact Ao
      · rw [if_neg (by decide)]
        exact same (fun z => cc z.2.2)
    · have e : i = σ 15472 0 := by omega
      refine h ξ hf ?_
      unfold pmF
      have e3 : faF σ F m (falls F m) = faF σ F m (fun y => y < i ∧ falls F m y) := by
        refine Prod.ext (funext fun y => ?_) rfl
        show (if y = m then 1 else _) = if y = m then 1 else _
        have a1 : (0 ≤ y ∧ y < σ 15472 0 ∧ falls F m y) = (0 ≤ y ∧ y < σ 15472 0 ∧ (y < i ∧ falls F m y)) := propext ⟨fun z => ⟨z.1, z.2.1, by omega, z.2.2⟩, fun z => ⟨z.1, z.2.1, z.2.2.2⟩⟩
        have a2 : (100 ≤ y ∧ y < 100 + σ 15474 0 ∧ F.1 y = 0 ∧ (σ 118 (y - 100) = m ∨ falls F m (σ 118 (y - 100)))) = (100 ≤ y ∧ y < 100 + σ 15474 0 ∧ F.1 y = 0 ∧ (σ 118 (y - 100) = m ∨ (σ 118 (y - 100) < i ∧ falls F m (σ 118 (y - 100))))) := by
          refine propext ⟨fun z => ⟨z.1, z.2.1, z.2.2.1, z.2.2.2.imp id (fun k => ⟨?_, k⟩)⟩, fun z => ⟨z.1, z.2.1, z.2.2.1, z.2.2.2.imp id (fun k => k.2)⟩⟩
          -- a MOTION that falls is one of those that are there
          have k2 := k.2.1
          have kk := (hg.2.2.2 (y - 100) (by omega) (by omega)).2
          by_cases cz : σ 118 (y - 100) < i
          · exact cz
          · have : ¬ isMt σ (σ 118 (y - 100)) := by unfold isMt; omega
            have := hW.2.2.1 _ this
            omega
        rw [a1, a2]
      rw [e3]
      exact hK
  · have e0 : faF σ F m (fun y => y < 0 ∧ falls F m y) = faF σ F m (fun _ => False) := faF_congr (fun y y0 y1 => ⟨fun z => by omega, fun z => z.elim⟩) hmo (fun a a0 a1 => (hg.2.2.2 a a0 a1).2)
    rw [e0]
    exact A5
