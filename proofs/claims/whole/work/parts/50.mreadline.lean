/-! A MOTION'S TEXT, the model's side -/
def fmL : List Nat := [15517, 15518]
theorem well_e (ν : Mem) : v_M_isWell ν = decide (rI ν 15517 0 = 0) := by
  unfold v_M_isWell
  rw [w_rI]
  by_cases c : rI ν 15517 0 = 0
  · rw [if_pos c, decide_eq_true c]
  · rw [if_neg c, decide_eq_false c]
theorem well_t {ν : Mem} (h : rI ν 15517 0 = 0) : v_M_isWell ν = true := by rw [well_e, decide_eq_true h]
theorem well_f {ν : Mem} {f : Int} (h : rI ν 15517 0 = f) (hf : 1 ≤ f) : v_M_isWell ν = false := by rw [well_e, decide_eq_false (by omega)]
theorem m_fails {f : Int} (hf : 1 ≤ f ∧ f ≤ 10) {n : Nat} (hn : n ≤ 300) {T : Tk} (hT : TkO n T) {ν : Mem} (ht : TkM ν T) (hz : rI ν 15517 0 = 0) {K : Mem → Prop} (h : ∀ ξ : Mem, Fr fmL ν ξ → rI ξ 15517 0 = f → rI ξ 15518 0 = (T.2.1 : Int) → K ξ) : f_M_fails f ν K := by
  obtain ⟨o1, o2, o3, o4, o5, o6, o7, o8⟩ := id hT
  unfold f_M_fails
  rw [hz, if_pos (by decide)]
  intro μ1 e1 μ2 e2
  have es : rI μ1 15514 0 = (T.2.1 : Int) := by rw [e1, rI_ne _ _ _ _ rfl]; exact ht.2.1
  rw [es] at e2
  subst e2
  subst e1
  refine h _ (((FrP.refl _ ν).wI (by decide)).wI (by decide)) ?_ ?_
  · rw [rI_ne _ _ _ _ rfl, rI_eq _ _ _ ⟨by omega, by omega⟩]
  · rw [rI_eq _ _ _ ⟨by omega, by omega⟩]
theorem m_nx {b : Bts} {n : Nat} (hb : BtO b n) {T : Tk} (hT : TkO n T) {ν : Mem} (hB : BtM b n ν) (ht : TkM ν T) {K : Mem → Prop} (h : ∀ ξ : Mem, Fr mxL ν ξ → TkM ξ (nx b n T) → K ξ) : f_M_next ν K := m_next hb hB hT.2.2.1 ht.2.2.1 h
theorem m_wantSign {b : Bts} {n : Nat} (hb : BtO b n) {T : Tk} (hT : TkO n T) {c : Int} (hc : 0 ≤ c ∧ c < 128) {ν : Mem} (hB : BtM b n ν) (ht : TkM ν T) (hz : rI ν 15517 0 = 0) {K : Mem → Prop} (h1 : isS T c = true → ∀ ξ : Mem, Fr mxL ν ξ → TkM ξ (nx b n T) → K ξ) (h2 : ¬ isS T c = true → ∀ ξ : Mem, Fr fmL ν ξ → rI ξ 15517 0 = 1 → rI ξ 15518 0 = (T.2.1 : Int) → K ξ) : f_M_wantSign c ν K := by
  unfold f_M_wantSign
  rw [well_t hz, if_pos rfl, m_isSign hT ht hc]
  exact ite_i (fun q => m_nx hb hT hB ht (h1 q)) (fun q => m_fails (by decide) hb.1 hT ht hz (h2 q))
def mrL : List Nat := mxL ++ rmL
def mfL : List Nat := mrL ++ fmL
def MF (L : List Nat) (ν : Mem) (K : Mem → Prop) (f : Int) (p : Nat) : Prop := ∀ ξ : Mem, Fr L ν ξ → rI ξ 15517 0 = f → rI ξ 15518 0 = (p : Int) → K ξ
theorem RowM.fr {L : List Nat} {l : List Ln} {ν ξ : Mem} (h : RowM ν l) (f : Fr L ν ξ) (hL : (lel L 15533 || lel L 155 || lel L 156 || lel L 157) = false) : RowM ξ l := RowAt.fr h f hL
theorem m_line114 {b : Bts} {n : Nat} (hb : BtO b n) {T : Tk} (hT : TkO n T) {ν : Mem} (hB : BtM b n ν) (ht : TkM ν T) (hz : rI ν 15517 0 = 0) {l : List Ln} (hl : RowM ν l) (h12 : l.length < 12) {cc : Bool} (h2 : T.1 = 2) (hv : 1 ≤ T.2.2.2 ∧ T.2.2.2 ≤ 60) {K : Mem → Prop}
    (h : onR (rdEnd b n (sgn cc T.2.2.2) (isW b (nx b n T) 25) (opt b n (nx b n T) 25)) (MF mfL ν K) (fun x => ∀ ξ : Mem, Fr mrL ν ξ → rI ξ 15517 0 = 0 → TkM ξ x.2 → RowM ξ (l ++ [x.1]) → TkO n x.2 → K ξ)) : b_M_readLine_114 K (l.length : Int) cc ν := by
  have ev := ht.2.2.2.1 h2
  unfold b_M_readLine_114
  rw [well_t hz, if_pos rfl, ev]
  generalize T.2.2.2 = v at *
  (try simp (disch := omega) only [w_id])
  intro x ex
  have ex' : x = sgn cc v := ex
  have xr : x.natAbs = v.natAbs := by
    rw [ex']
    unfold sgn
    split <;> omega
  refine ⟨by omega, by omega, fun μ1 e1 => ⟨by omega, by omega, fun μ2 e2 μ3 e3 => ?_⟩⟩
  have n2 : rI μ2 15533 0 = (l.length : Int) := by rw [e2, rI_ne _ _ _ _ rfl, e1, rI_ne _ _ _ _ rfl]; exact hl.n
  rw [n2] at e3
  have f3 : Fr mrL ν μ3 := by subst e3; subst e2; subst e1; exact (((FrP.refl _ ν).wI (by decide)).wI (by decide)).wI (by decide)
  have z3 : rI μ3 15517 0 = 0 := by rw [f3.rdI rfl]; exact hz
  have B3 := hB.fr f3 rfl
  have t3 : TkM μ3 T := by
    subst e3; subst e2; subst e1
    exact ((ht.fr (fr1 _ _ _ _) rfl).fr (fr1 _ _ _ _) rfl).fr (fr1 _ _ _ _) rfl
  have m3 : rI μ3 15533 0 = (l.length : Int) + 1 := by rw [e3, rI_eq _ _ _ ⟨by omega, by omega⟩]
  have r3 : ∀ i : Nat, i < l.length → rI μ3 155 (i : Int) = (l.getD i dL).1 ∧ rI μ3 156 (i : Int) = (l.getD i dL).2.1 ∧ rI μ3 157 (i : Int) = (l.getD i dL).2.2 := fun i hi => by
    have k := hl.at hi
    rw [e3, rI_ne _ _ _ _ rfl, rI_ne _ _ _ _ rfl, rI_ne _ _ _ _ rfl, e2, rI_ne _ _ _ _ rfl, rI_ne _ _ _ _ rfl, rI_sI _ _ _ _ 157, if_neg (fun z => by omega), e1, rI_sI _ _ _ _ 155, if_neg (fun z => by omega), rI_ne _ _ _ _ rfl, rI_ne _ _ _ _ rfl]
    exact k
  have x3 : rI μ3 155 (l.length : Int) = x ∧ rI μ3 157 (l.length : Int) = -1 := by
    rw [e3, rI_ne _ _ _ _ rfl, rI_ne _ _ _ _ rfl, e2, rI_ne _ _ _ _ rfl, rI_eq _ _ _ ⟨by decide, by decide⟩, e1, rI_eq _ _ _ ⟨by omega, by omega⟩]
    exact ⟨rfl, rfl⟩
  clear e1 e2 e3 n2
  refine m_nx hb hT B3 t3 (fun ξ4 f4 t4 => ?_)
  have k4 := (nx_ok hb hT).1
  have B4 := B3.fr f4 rfl
  have z4 : rI ξ4 15517 0 = 0 := by rw [f4.rdI rfl]; exact z3
  refine m_isWord hb k4 (by decide) B4 t4 ?_
  refine ⟨by omega, by omega, fun μ5 e5 => ?_⟩
  have f5 : Fr [156] ξ4 μ5 := by rw [e5]; exact (FrP.refl _ _).wB (by decide)
  have t5 := t4.fr f5 rfl
  have B5 := B4.fr f5 rfl
  have z5 : rI μ5 15517 0 = 0 := by rw [f5.rdI rfl]; exact z4
  have l5 : RowM μ5 (l ++ [(sgn cc v, b2i (isW b (nx b n T) 25), -1)]) := by
    refine RowM.mk ?_ (fun i hi => ?_)
    · rw [f5.rdI rfl, f4.rdI rfl, m3, List.length_append]
      simp
    · simp only [List.length_append, List.length_cons, List.length_nil] at hi
      have eN : rI μ5 155 (i : Int) = rI μ3 155 (i : Int) := (f5.rdI rfl).trans (f4.rdI rfl)
      have eB : rI μ5 157 (i : Int) = rI μ3 157 (i : Int) := (f5.rdI rfl).trans (f4.rdI rfl)
      have eU : rI ξ4 156 (i : Int) = rI μ3 156 (i : Int) := f4.rdI rfl
      rw [getD_app, eN, eB, e5, rI_sB, eU]
      by_cases c : i < l.length
      · rw [if_pos c, if_neg (fun z => by omega)]
        exact r3 i c
      · have ei : i = l.length := by omega
        rw [if_neg c, if_pos ei, ei, if_pos ⟨rfl, rfl⟩]
        exact ⟨x3.1.trans ex', rfl, x3.2⟩
  have mu : rB μ5 156 (l.length : Int) = isW b (nx b n T) 25 := by
    rw [rB_rI, e5, rI_sB, if_pos ⟨rfl, rfl⟩]
    cases isW b (nx b n T) 25 <;> rfl
  have f05 : Fr mrL ν μ5 := (f3.trans (f4.mono rfl)).trans (f5.mono rfl)
  clear e5
  refine ⟨by omega, by omega, ?_⟩
  rw [mu]
  have fin : ∀ (T4 : Tk) (ο : Mem), TkO n T4 → TkM ο T4 → Fr mxL μ5 ο → onR (rdEnd b n (sgn cc v) (isW b (nx b n T) 25) T4) (MF mfL ν K) (fun x => ∀ ξ : Mem, Fr mrL ν ξ → rI ξ 15517 0 = 0 → TkM ξ x.2 → RowM ξ (l ++ [x.1]) → TkO n x.2 → K ξ) → f_M_wantSign 59 ο K := fun T4 ο kT tT fo g => by
    have zo : rI ο 15517 0 = 0 := by rw [fo.rdI rfl]; exact z5
    unfold rdEnd at g
    refine m_wantSign hb kT (by decide) (B5.fr fo rfl) tT zo (fun q ξ6 f6 t6 => ?_) (fun q ξ6 f6 a6 p6 => ?_)
    · rw [if_pos q] at g
      exact onR_r g ξ6 (f05.trans (Fr.mono (show Fr mxL μ5 ξ6 from fo.trans f6) rfl)) (by rw [f6.rdI rfl]; exact zo) t6 ((l5.fr fo rfl).fr f6 rfl) (nx_ok hb kT).1
    · rw [if_neg q] at g
      exact g ξ6 ((Fr.mono (show Fr mrL ν ο from f05.trans (fo.mono rfl)) rfl).trans (f6.mono rfl)) a6 p6
  unfold opt at h
  refine ite_i (fun c => ?_) (fun c => ?_)
  · rw [if_pos c] at h
    exact m_nx hb k4 B5 t5 (fun ξ6 f6 t6 => fin _ ξ6 (nx_ok hb k4).1 t6 f6 h)
  · rw [if_neg c] at h
    exact fin _ μ5 k4 t5 (FrP.refl _ _) h
theorem m_line77 {b : Bts} {n : Nat} (hb : BtO b n) {T : Tk} (hT : TkO n T) {ν : Mem} (hB : BtM b n ν) (ht : TkM ν T) (hz : rI ν 15517 0 = 0) {l : List Ln} (hl : RowM ν l) (hw : WfL l) (h12 : l.length < 12) {cc : Bool} {K : Mem → Prop}
    (h : onR (rdNum b n l cc T) (MF mfL ν K) (fun x => ∀ ξ : Mem, Fr mrL ν ξ → rI ξ 15517 0 = 0 → TkM ξ x.2 → RowM ξ (l ++ [x.1]) → TkO n x.2 → K ξ)) : b_M_readLine_57 K (l.length : Int) cc ν := by
  obtain ⟨o1, o2, o3, o4, o5, o6, o7, o8⟩ := id hT
  have kr := ks_r T.1
  have k2 := ks_2 o1
  unfold rdNum at h
  unfold b_M_readLine_57
  rw [well_t hz, if_pos rfl, ht.1]
  (try simp (disch := omega) only [w_id])
  refine ite_i (fun q => ?_) (fun q => ?_)
  · have q' := k2.mp q
    have ev := ht.2.2.2.1 q'
    rw [if_neg (fun z => z q')] at h
    unfold b_M_readLine_77
    rw [well_t hz, if_pos rfl, ev, within_e (by omega) (by omega) (by decide) (by decide) (by decide) (by decide)]
    simp only [decide_eq_true_eq]
    have bad : ¬ (1 ≤ T.2.2.2 ∧ T.2.2.2 ≤ 60 ∧ fxi T.2.2.2.natAbs l 0 = -1) → b_M_readLine_109 K (l.length : Int) cc ν := fun z => by
      rw [if_pos z] at h
      unfold b_M_readLine_109
      refine m_fails (by decide) hb.1 hT ht hz (fun ξ f a p => ?_)
      unfold b_M_readLine_114
      rw [well_f a (by decide), if_neg (by decide)]
      exact h ξ (f.mono rfl) a p
    refine ite_i (fun c => ?_) (fun c => bad (fun z => c ⟨z.1, z.2.1⟩))
    refine m_inRow hl hw (n := T.2.2.2) (by omega) ?_
    have fr := fxi_or T.2.2.2.natAbs l 0 (by decide)
    (try simp (disch := omega) only [w_id])
    refine ite_i (fun c2 => ?_) (fun c2 => bad (fun z => c2 z.2.2))
    rw [if_neg (fun z => z ⟨c.1, c.2, c2⟩)] at h
    exact m_line114 hb hT hB ht hz hl h12 q' c h
  · have q' : ¬ T.1 = 2 := fun z => q (k2.mpr z)
    rw [if_pos q'] at h
    refine m_fails (by decide) hb.1 hT ht hz (fun ξ f a p => ?_)
    unfold b_M_readLine_77
    rw [well_f a (by decide), if_neg (by decide)]
    unfold b_M_readLine_114
    rw [well_f a (by decide), if_neg (by decide)]
    exact h ξ (f.mono rfl) a p
theorem m_readLine {b : Bts} {n : Nat} (hb : BtO b n) {T : Tk} (hT : TkO n T) {ν : Mem} (hB : BtM b n ν) (ht : TkM ν T) (hz : rI ν 15517 0 = 0) {l : List Ln} (hl : RowM ν l) (hw : WfL l) {a1 : Int} {K : Mem → Prop}
    (h : onR (rdLine b n l T) (MF mfL ν K) (fun x => ∀ ξ : Mem, Fr mrL ν ξ → rI ξ 15517 0 = 0 → TkM ξ x.2 → RowM ξ (l ++ [x.1]) → TkO n x.2 → K ξ)) : f_M_readLine a1 (l.length : Int) ν K := by
  have h12 := hw.1
  unfold f_M_readLine
  refine m_isWord hb hT (by decide) hB ht ?_
  unfold rdLine at h
  have no : ∀ (f : Int) (ξ : Mem), rI ξ 15517 0 = f → 1 ≤ f → K ξ → b_M_readLine_29 K (l.length : Int) ξ := fun f ξ a hf g => by
    unfold b_M_readLine_29
    rw [well_f a hf, if_neg (by decide)]
    exact g
  refine ite_i (fun q => ?_) (fun q => ?_)
  · rw [if_neg (fun z => z q)] at h
    (try simp (disch := omega) only [w_id])
    refine ite_i (fun q2 => ?_) (fun q2 => ?_)
    · rw [if_pos (by omega)] at h
      exact m_fails (by decide) hb.1 hT ht hz (fun ξ f a p => no 4 ξ a (by decide) (h ξ (f.mono rfl) a p))
    · rw [if_neg (fun z => z (by omega))] at h
      unfold b_M_readLine_29
      rw [well_t hz, if_pos rfl]
      refine m_nx hb hT hB ht (fun ξ1 f1 t1 => ?_)
      have k1 := (nx_ok hb hT).1
      have B1 := hB.fr f1 rfl
      have z1 : rI ξ1 15517 0 = 0 := by rw [f1.rdI rfl]; exact hz
      refine m_isWord hb k1 (by decide) B1 t1 ?_
      have fin : ∀ (T2 : Tk) (ο : Mem), TkO n T2 → TkM ο T2 → Fr mxL ν ο → onR (rdNum b n l (isW b (nx b n T) 10) T2) (MF mfL ν K) (fun x => ∀ ξ : Mem, Fr mrL ν ξ → rI ξ 15517 0 = 0 → TkM ξ x.2 → RowM ξ (l ++ [x.1]) → TkO n x.2 → K ξ) → b_M_readLine_57 K (l.length : Int) (isW b (nx b n T) 10) ο := fun T2 ο kT tT fo g => by
        refine m_line77 hb kT (hB.fr fo rfl) tT (by rw [fo.rdI rfl]; exact hz) (hl.fr fo rfl) hw (by omega) ?_
        revert g
        cases rdNum b n l (isW b (nx b n T) 10) T2 with
        | inl e => exact fun g ξ f a p => g ξ ((fo.mono rfl).trans f) a p
        | inr x => exact fun g ξ f => g ξ ((fo.mono rfl).trans f)
      unfold rdLineB opt at h
      refine ite_i (fun c => ?_) (fun c => ?_)
      · rw [if_pos c] at h
        exact m_nx hb k1 B1 t1 (fun ξ2 f2 t2 => fin _ ξ2 (nx_ok hb k1).1 t2 (f1.trans f2) h)
      · rw [if_neg c] at h
        exact fin _ ξ1 k1 t1 f1 h
  · rw [if_pos q] at h
    exact m_fails (by decide) hb.1 hT ht hz (fun ξ f a p => no 1 ξ a (by decide) (h ξ (f.mono rfl) a p))
theorem rdLine_wf {b : Bts} {n : Nat} {l : List Ln} (hw : WfL l) {T : Tk} {x : Ln × Tk} (h : rdLine b n l T = .inr x) : WfL (l ++ [x.1]) ∧ x.1.2.2 = -1 ∧ l.length < 12 := by
  unfold rdLine at h
  by_cases c1 : ¬ isW b T 24 = true
  · rw [if_pos c1] at h; cases h
  · rw [if_neg c1] at h
    by_cases c2 : ¬ l.length < 12
    · rw [if_pos c2] at h; cases h
    · rw [if_neg c2] at h
      unfold rdLineB rdNum at h
      generalize opt b n (nx b n T) 10 = T2 at h
      by_cases c3 : ¬ T2.1 = 2
      · rw [if_pos c3] at h; cases h
      · rw [if_neg c3] at h
        by_cases c4 : ¬ (1 ≤ T2.2.2.2 ∧ T2.2.2.2 ≤ 60 ∧ fxi T2.2.2.2.natAbs l 0 = -1)
        · rw [if_pos c4] at h; cases h
        · rw [if_neg c4] at h
          have c4' := Decidable.not_not.mp c4
          unfold rdEnd at h
          by_cases c5 : isS (opt b n (nx b n T2) 25) 59 = true
          · rw [if_pos c5] at h
            have e := Sum.inr.inj h
            subst e
            have sg : (sgn (isW b (nx b n T) 10) T2.2.2.2).natAbs = T2.2.2.2.natAbs := by
              unfold sgn
              split <;> omega
            refine ⟨WfL_add hw (by omega) (by omega) (by cases isW b (nx b n T2) 25 <;> simp [b01, b2i]) (by decide) (fun y hy => ?_), rfl, by omega⟩
            rw [sg]
            exact fxi_mem.mp c4'.2.2 y hy
          · rw [if_neg c5] at h; cases h
theorem rdMo_wf {b : Bts} {n : Nat} : ∀ (f : Nat) (l : List Ln) (T : Tk) (r : List Ln), WfL l → (∀ x ∈ l, x.2.2 = -1) → rdMo b n f l T = .inr r → WfL r ∧ (∀ x ∈ r, x.2.2 = -1) ∧ ¬ r.length = 0
  | 0, _, _, _, _, _, h => by cases h
  | f + 1, l, T, r, hw, hb, h => by
    unfold rdMo at h
    by_cases c : ¬ l.length = 0 ∧ T.1 = 0
    · rw [if_pos c] at h
      have e := Sum.inr.inj h
      subst e
      exact ⟨hw, hb, c.1⟩
    · rw [if_neg c] at h
      cases hr : rdLine b n l T with
      | inl e => rw [hr] at h; cases h
      | inr x =>
        rw [hr] at h
        have k := rdLine_wf hw hr
        exact rdMo_wf f (l ++ [x.1]) x.2 r k.1 (fun y hy => by
          rcases List.mem_append.mp hy with hy | hy
          · exact hb y hy
          · rw [List.mem_singleton] at hy; rw [hy]; exact k.2.1) h
/-- the loop behind the first LINE -/
theorem rdLine_f {b : Bts} {n : Nat} {l : List Ln} {T : Tk} {e : Int × Nat} (hr : rdLine b n l T = .inl e) : 1 ≤ e.1 ∧ e.1 ≤ 4 := by
  unfold rdLine rdLineB rdNum rdEnd at hr
  split at hr
  · rw [← Sum.inl.inj hr]; exact ⟨by simp, by simp⟩
  · split at hr
    · rw [← Sum.inl.inj hr]; exact ⟨by simp, by simp⟩
    · split at hr
      · rw [← Sum.inl.inj hr]; exact ⟨by simp, by simp⟩
      · split at hr
        · rw [← Sum.inl.inj hr]; exact ⟨by simp, by simp⟩
        · split at hr
          · cases hr
          · rw [← Sum.inl.inj hr]; exact ⟨by simp, by simp⟩
theorem m_motion_l {b : Bts} {n : Nat} (hb : BtO b n) {a1 : Int} {X : Mem → Prop} {ν0 : Mem} :
    ∀ (f : Nat) (l : List Ln) (T : Tk) (ν : Mem), 12 < f + l.length → WfL l → ¬ l.length = 0 → Fr mrL ν0 ν → BtM b n ν → TkO n T → TkM ν T → rI ν 15517 0 = 0 → RowM ν l → onR (rdMo b n (f + 1) l T) (MF mfL ν0 X) (fun l' => ∀ ξ : Mem, Fr mrL ν0 ξ → rI ξ 15517 0 = 0 → RowM ξ l' → X ξ) → l_M_motion_44 a1 X (f + 2) (l.length : Int) ν
  | f, l, T, ν, hf, hw, hne, hfr, hB, hT, ht, hz, hl, h => by
    have h12 := hw.1
    have k0 := ks_0 hT.1
    have kr := ks_r T.1
    unfold rdMo at h
    unfold l_M_motion_44
    rw [well_t hz, if_pos rfl, ht.1]
    (try simp (disch := omega) only [w_id])
    by_cases c : T.1 = 0
    · rw [if_pos ⟨hne, c⟩] at h
      rw [if_pos (k0.mpr c)]
      exact h ν hfr hz hl
    · rw [if_neg (fun z => c z.2)] at h
      rw [if_neg (fun z => c (k0.mp z))]
      refine m_readLine hb hT hB ht hz hl hw ?_
      cases hr : rdLine b n l T with
      | inl e =>
        rw [hr] at h
        intro ξ fr a p
        unfold l_M_motion_44
        rw [well_f a (rdLine_f hr).1, if_neg (by decide)]
        exact h ξ ((hfr.mono rfl).trans fr) a p
      | inr x =>
        rw [hr] at h
        have kw := rdLine_wf hw hr
        cases f with
        | zero => omega
        | succ f =>
          have kl : ((l ++ [x.1]).length : Int) = (l.length : Int) + 1 := by rw [List.length_append]; simp
          intro ξ fr z t6 r6 o6
          have ih := m_motion_l hb (a1 := a1) (X := X) (ν0 := ν0) f (l ++ [x.1]) x.2 ξ (by rw [List.length_append]; simp only [List.length_cons, List.length_nil]; omega) kw.1 (by rw [List.length_append]; simp) (hfr.trans fr) (hB.fr fr rfl) o6 t6 z r6 h
          rw [kl] at ih
          exact ih
