/-! MOTION, both sides -/
def rdS (σ : Sg) (p : Int) : Sg := up (up (up (up σ 144 10 0) 145 10 0) 15512 0 0) 15519 0 p
def stL : List Nat := [15517, 15513, 15520, 144, 145]
theorem m_starts {b : Bts} {n : Nat} (hb : BtO b n) {ν : Mem} (hB : BtM b n ν) {K : Mem → Prop} (h : ∀ ξ : Mem, Fr (stL ++ mxL) ν ξ → MS ξ = up (up (MS ν) 144 10 0) 145 10 0 → rI ξ 15517 0 = 0 → rI ξ 15520 0 = 0 → TkM ξ (tok b n 0) → K ξ) : f_M_starts ν K := by
  unfold f_M_starts
  intro μ1 e1 μ2 e2 μ3 e3 μ4 e4 μ5 e5
  have f5 : Fr (stL ++ mxL) ν μ5 := by rw [e5, e4, e3, e2, e1]; exact (((((FrP.refl _ _).wI (by decide)).wI (by decide)).wI (by decide)).wI (by decide)).wI (by decide)
  have a5 : rI μ5 15513 0 = ((0 : Nat) : Int) := by rw [e5, rI_ne _ _ _ _ rfl, e4, rI_ne _ _ _ _ rfl, e3, rI_ne _ _ _ _ rfl, e2, rI_eq _ _ _ ⟨by decide, by decide⟩]; rfl
  have z5 : rI μ5 15517 0 = 0 := by rw [e5, rI_ne _ _ _ _ rfl, e4, rI_ne _ _ _ _ rfl, e3, rI_ne _ _ _ _ rfl, e2, rI_ne _ _ _ _ rfl, e1, rI_eq _ _ _ ⟨by decide, by decide⟩]
  have o5 : rI μ5 15520 0 = 0 := by rw [e5, rI_ne _ _ _ _ rfl, e4, rI_ne _ _ _ _ rfl, e3, rI_eq _ _ _ ⟨by decide, by decide⟩]
  have s5 : MS μ5 = up (up (MS ν) 144 10 0) 145 10 0 := by
    rw [e5, MS_in rfl, e4, MS_in rfl, e3, MS_out rfl, e2, MS_out rfl, e1, MS_out rfl, show w 10 = 10 from rfl, show w 0 = 0 from rfl]
  clear e1 e2 e3 e4 e5
  refine m_next hb (hB.fr f5 rfl) (Nat.zero_le n) a5 (fun ξ f t => h ξ (f5.trans (Fr.mono f rfl)) ?_ ?_ ?_ t)
  · rw [f.ms rfl]; exact s5
  · rw [f.rdI rfl]; exact z5
  · rw [f.rdI rfl]; exact o5
def spL : List Nat := [15512, 15519]
theorem m_stops_t {ν : Mem} (hz : rI ν 15517 0 = 0) {K : Int → Mem → Prop} (h : ∀ ξ : Mem, Fr spL ν ξ → MS ξ = up (up (MS ν) 15512 0 0) 15519 0 (-1) → K 0 ξ) : f_M_stops ν K := by
  unfold f_M_stops
  intro μ1 e1 x ex μ2 e2 y ey
  have z1 : rI μ1 15517 0 = 0 := by rw [e1, rI_ne _ _ _ _ rfl]; exact hz
  rw [well_t z1, if_pos rfl] at ex
  subst ex
  have z2 : rI μ2 15517 0 = 0 := by rw [e2, rI_ne _ _ _ _ rfl]; exact z1
  rw [well_t z2, if_pos rfl] at ey
  subst ey
  refine h μ2 (by rw [e2, e1]; exact ((FrP.refl _ _).wI (by decide)).wI (by decide)) ?_
  rw [e2, MS_in rfl, e1, MS_in rfl, w_id (by decide) (by decide), w_id (by decide) (by decide)]
theorem m_stops_f {ν : Mem} {f p : Int} (hz : rI ν 15517 0 = f) (hf : 1 ≤ f ∧ f ≤ 4) (hp : rI ν 15518 0 = p) {K : Int → Mem → Prop} (h : ∀ ξ : Mem, Fr spL ν ξ → MS ξ = up (up (MS ν) 15512 0 0) 15519 0 p → K (-1 - f) ξ) : f_M_stops ν K := by
  have hr := rI_rng ν 15518 0
  rw [hp] at hr
  unfold f_M_stops
  intro μ1 e1 x ex μ2 e2 y ey
  have z1 : rI μ1 15517 0 = f := by rw [e1, rI_ne _ _ _ _ rfl]; exact hz
  have p1 : rI μ1 15518 0 = p := by rw [e1, rI_ne _ _ _ _ rfl]; exact hp
  rw [well_f z1 hf.1, if_neg (by decide), p1] at ex
  subst ex
  have z2 : rI μ2 15517 0 = f := by rw [e2, rI_ne _ _ _ _ rfl]; exact z1
  rw [well_f z2 hf.1, if_neg (by decide), z2] at ey
  subst ey
  refine h μ2 (by rw [e2, e1]; exact ((FrP.refl _ _).wI (by decide)).wI (by decide)) ?_
  rw [e2, MS_in rfl, e1, MS_in rfl, w_id (by decide) (by decide), w_id hr.1 hr.2]
def m0L : List Nat := [15464] ++ stL ++ mfL
def mmoL : List Nat := m0L ++ spL
theorem m_motion_read {ο : Mem} {b : Bts} {n : Nat} (hb : BtO b n) (hB : BtM b n ο) {a : Int} (hA : v_M_isAffiliate a (sI ο 15464 0 0) = true) (hM : ¬ MS ο 15472 0 = 24) {K : Int → Mem → Prop}
    (h : onR (rmo b n) (fun f p => ∀ ξ : Mem, Fr mmoL ο ξ → MS ξ = rdS (MS ο) (p : Int) → K (-1 - f) ξ) (fun l => ∀ ξ : Mem, Fr mmoL ο ξ → MS ξ = rdS (MS ο) (-1) → RowM ξ l → f_M_mayBeLate a ξ (fun r86 μ_9 => if r86 = true then (f_M_comes a μ_9 (fun r97 μ_10 => K r97 μ_10)) else (K (-6) μ_9)))) : f_M_motion a ο K := by
  unfold f_M_motion
  intro μ1 e1
  have f1 : Fr m0L ο μ1 := by rw [e1]; exact (FrP.refl _ _).wI (by decide)
  have s1 : MS μ1 = MS ο := by rw [e1]; exact thr_ms ο
  have k1 : rI μ1 15472 0 = MS ο 15472 0 := by rw [mr rfl, s1]
  rw [← e1] at hA
  rw [if_pos hA, k1]
  have kr := MS_rng ο 15472 0
  (try simp (disch := omega) only [w_id])
  rw [if_neg hM]
  clear e1
  refine m_starts hb (hB.fr f1 rfl) (fun ξ2 f2 s2 z2 o2 t2 => ?_)
  rw [s1] at s2
  have f12 : Fr m0L ο ξ2 := f1.trans (Fr.mono f2 rfl)
  intro μ3 e3
  have f3 : Fr [15533] ξ2 μ3 := by rw [e3]; exact fr1 _ _ _ _
  have s3 : MS μ3 = up (up (MS ο) 144 10 0) 145 10 0 := (f3.ms rfl).trans s2
  have f13 : Fr m0L ο μ3 := f12.trans (Fr.mono f3 rfl)
  have z3 : rI μ3 15517 0 = 0 := by rw [f3.rdI rfl]; exact z2
  have r3 : RowM μ3 [] := RowM.mk (by rw [e3, rI_eq _ _ _ ⟨by decide, by decide⟩]; rfl) (fun i hi => absurd hi (by simp))
  have w0 : WfL [] := ⟨by decide, fun x hx => absurd hx (by simp), List.nodup_nil⟩
  have hT := (tok_ok hb (Nat.zero_le n)).1
  have B3 := hB.fr f13 rfl
  have t3 := t2.fr f3 rfl
  clear e3
  have er : rmo b n = match rdLine b n [] (tok b n 0) with
    | .inl e => .inl e
    | .inr x => rdMo b n 13 ([] ++ [x.1]) x.2 := rfl
  rw [er] at h
  have fin : ∀ (f : Int) (p : Nat) (ξ : Mem), (1 ≤ f ∧ f ≤ 4) → (∀ ξ : Mem, Fr mmoL ο ξ → MS ξ = rdS (MS ο) (p : Int) → K (-1 - f) ξ) → Fr mfL μ3 ξ → rI ξ 15517 0 = f → rI ξ 15518 0 = (p : Int) → f_M_stops ξ (fun r74 μ_8 => if w r74 < w 0 then (K r74 μ_8) else (f_M_mayBeLate a μ_8 (fun r86 μ_9 => if r86 = true then (f_M_comes a μ_9 (fun r97 μ_10 => K r97 μ_10)) else (K (-6) μ_9)))) := fun f p ξ hf g fr zf zp => by
    refine m_stops_f zf hf zp (fun ξ6 f6 s6 => ?_)
    (try simp (disch := omega) only [w_id])
    rw [if_pos (by omega)]
    refine g ξ6 (((Fr.mono f13 rfl).trans (Fr.mono fr rfl)).trans (Fr.mono f6 rfl)) ?_
    rw [s6, fr.ms rfl, s3]
    rfl
  have e0 : (0 : Int) = ((([] : List Ln).length : Nat) : Int) := rfl
  have go := m_readLine (a1 := rI μ3 15472 0) hb hT B3 t3 z3 r3 w0 (K := fun μ_4 => ∃ m44 : Nat, l_M_motion_44 a (fun (μ_7 : Mem) => f_M_stops μ_7 (fun r74 μ_8 => if w r74 < w 0 then (K r74 μ_8) else (f_M_mayBeLate a μ_8 (fun r86 μ_9 => if r86 = true then (f_M_comes a μ_9 (fun r97 μ_10 => K r97 μ_10)) else (K (-6) μ_9))))) m44 1 μ_4) ?_
  · exact go
  · cases hr : rdLine b n [] (tok b n 0) with
    | inl e =>
      rw [hr] at h
      intro ξ fr zf zp
      refine ⟨1, ?_⟩
      unfold l_M_motion_44
      rw [well_f zf (rdLine_f hr).1, if_neg (by decide)]
      exact fin e.1 e.2 ξ (rdLine_f hr) h fr zf zp
    | inr x =>
      rw [hr] at h
      have kw := rdLine_wf w0 hr
      intro ξ fr zf t6 r6 o6
      refine ⟨14, ?_⟩
      have g := m_motion_l hb (a1 := a) (X := fun (μ_7 : Mem) => f_M_stops μ_7 (fun r74 μ_8 => if w r74 < w 0 then (K r74 μ_8) else (f_M_mayBeLate a μ_8 (fun r86 μ_9 => if r86 = true then (f_M_comes a μ_9 (fun r97 μ_10 => K r97 μ_10)) else (K (-6) μ_9))))) (ν0 := μ3) 12 ([] ++ [x.1]) x.2 ξ (by simp) kw.1 (by simp) fr (B3.fr fr rfl) o6 t6 zf r6 ?_
      · exact g
      · have h' : onR (rdMo b n 13 ([] ++ [x.1]) x.2) (fun f p => ∀ ξ : Mem, Fr mmoL ο ξ → MS ξ = rdS (MS ο) (p : Int) → K (-1 - f) ξ) (fun l => ∀ ξ : Mem, Fr mmoL ο ξ → MS ξ = rdS (MS ο) (-1) → RowM ξ l → f_M_mayBeLate a ξ (fun r86 μ_9 => if r86 = true then (f_M_comes a μ_9 (fun r97 μ_10 => K r97 μ_10)) else (K (-6) μ_9))) := h
        have pos : ∀ (f : Nat) (l : List Ln) (T : Tk) (e : Int × Nat), 12 < f + l.length → l.length ≤ 12 → rdMo b n (f + 1) l T = .inl e → 1 ≤ e.1 ∧ e.1 ≤ 4 := by
          intro f
          induction f with
          | zero => intro l T e h1 h2; omega
          | succ f ih =>
            intro l T e h1 h2 h3
            unfold rdMo at h3
            by_cases c : ¬ l.length = 0 ∧ T.1 = 0
            · rw [if_pos c] at h3; cases h3
            · rw [if_neg c] at h3
              cases hq : rdLine b n l T with
              | inl e' =>
                rw [hq] at h3
                have := Sum.inl.inj h3
                rw [← this]
                exact rdLine_f hq
              | inr y =>
                rw [hq] at h3
                by_cases c2 : l.length < 12
                · exact ih (l ++ [y.1]) y.2 e (by rw [List.length_append]; simp only [List.length_cons, List.length_nil]; omega) (by rw [List.length_append]; simp only [List.length_cons, List.length_nil]; omega) h3
                · obtain ⟨e', he'⟩ := rdLine_len (b := b) (n := n) (T := T) c2
                  rw [hq] at he'; cases he'
        cases hq : rdMo b n 13 ([] ++ [x.1]) x.2 with
        | inl e =>
          rw [hq] at h'
          intro ξ2 fr2 zf2 zp2
          exact fin e.1 e.2 ξ2 (pos 12 _ _ _ (by simp) (by simp) hq) h' fr2 zf2 zp2
        | inr l =>
          rw [hq] at h'
          intro ξ2 fr2 zf2 r2
          refine m_stops_t zf2 (fun ξ6 f6 s6 => ?_)
          rw [if_neg (by decide)]
          refine h' ξ6 (((Fr.mono f13 rfl).trans (Fr.mono fr2 rfl)).trans (Fr.mono f6 rfl)) ?_ (r2.fr f6 rfl)
          rw [s6, fr2.ms rfl, s3]
          rfl
