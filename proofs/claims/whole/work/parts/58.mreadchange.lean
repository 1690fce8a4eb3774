/-! AN AMENDMENT'S TEXT, the model's side -/
def amL : List Nat := mxL ++ fmL ++ [120, 121]
/-- the changes of AMENDMENT A alone may differ -/
def FrA (A : Int) (ν ξ : Mem) : Prop := Fr amL ν ξ ∧ ∀ j : Int, (j < 6 * A ∨ 6 * A + 6 ≤ j) → rI ξ 120 j = rI ν 120 j ∧ rI ξ 121 j = rI ν 121 j
theorem FrA.refl (A : Int) (ν : Mem) : FrA A ν ν := ⟨FrP.refl _ _, fun _ _ => ⟨rfl, rfl⟩⟩
theorem FrA.trans {A : Int} {ν ξ ο : Mem} (h : FrA A ν ξ) (k : FrA A ξ ο) : FrA A ν ο := ⟨h.1.trans k.1, fun j hj => ⟨(k.2 j hj).1.trans (h.2 j hj).1, (k.2 j hj).2.trans (h.2 j hj).2⟩⟩
theorem FrA.of {A : Int} {L : List Nat} {ν ξ : Mem} (h : Fr L ν ξ) (hs : lsub L amL = true) (h1 : (lel L 120 || lel L 121) = false) : FrA A ν ξ := by
  simp only [Bool.or_eq_false_iff] at h1
  exact ⟨Fr.mono h hs, fun j _ => ⟨h.rdI h1.1, h.rdI h1.2⟩⟩
def AmM (ν : Mem) (A : Int) (l : List Ln) : Prop := ∀ k : Nat, k < l.length → rI ν 120 (6 * A + (k : Int)) = (l.getD k dL).2.1 ∧ rI ν 121 (6 * A + (k : Int)) = (l.getD k dL).1
theorem AmM.fr {A : Int} {L : List Nat} {l : List Ln} {ν ξ : Mem} (h : AmM ν A l) (f : Fr L ν ξ) (h1 : (lel L 120 || lel L 121) = false) : AmM ξ A l := by
  simp only [Bool.or_eq_false_iff] at h1
  exact fun k hk => ⟨by rw [f.rdI h1.1]; exact (h k hk).1, by rw [f.rdI h1.2]; exact (h k hk).2⟩
def MFA (A : Int) (ν : Mem) (K : Mem → Prop) (f : Int) (p : Nat) : Prop := ∀ ξ : Mem, FrA A ν ξ → rI ξ 15517 0 = f → rI ξ 15518 0 = (p : Int) → K ξ
theorem m_readNumber {b : Bts} {n : Nat} (hb : BtO b n) {T : Tk} (hT : TkO n T) {most : Int} (hm : 1 ≤ most ∧ most ≤ 999) {ν : Mem} (hB : BtM b n ν) (ht : TkM ν T) (hz : rI ν 15517 0 = 0) {K : Int → Mem → Prop}
    (h1 : ¬ T.1 = 2 → ∀ ξ : Mem, Fr fmL ν ξ → rI ξ 15517 0 = 1 → rI ξ 15518 0 = (T.2.1 : Int) → K 0 ξ)
    (h2 : T.1 = 2 → ¬ (1 ≤ T.2.2.2 ∧ T.2.2.2 ≤ most) → ∀ ξ : Mem, Fr fmL ν ξ → rI ξ 15517 0 = 2 → rI ξ 15518 0 = (T.2.1 : Int) → K 0 ξ)
    (h3 : T.1 = 2 → (1 ≤ T.2.2.2 ∧ T.2.2.2 ≤ most) → ∀ ξ : Mem, Fr mxL ν ξ → TkM ξ (nx b n T) → K T.2.2.2 ξ) : f_M_readNumber most ν K := by
  obtain ⟨o1, o2, o3, o4, o5, o6, o7, o8⟩ := id hT
  have kr := ks_r T.1
  have k2 := ks_2 o1
  unfold f_M_readNumber
  rw [well_t hz, if_pos rfl, ht.1]
  (try simp (disch := omega) only [w_id])
  refine ite_i (fun q => ?_) (fun q => ?_)
  · have q' := k2.mp q
    have ev := ht.2.2.2.1 q'
    unfold b_M_readNumber_20
    rw [well_t hz, if_pos rfl, ev, within_e (by omega) (by omega) (by decide) (by decide) (by omega) (by omega)]
    simp only [decide_eq_true_eq]
    refine ite_i (fun c => ?_) (fun c => ?_)
    · rw [if_pos (by trivial)]
      intro v hv
      subst hv
      exact m_nx hb hT hB ht (h3 q' c)
    · refine m_fails (by decide) hb.1 hT ht hz (fun ξ f a p => ?_)
      rw [well_f a (by decide), if_neg (by decide)]
      exact h2 q' c ξ f a p
  · have q' : ¬ T.1 = 2 := fun z => q (k2.mpr z)
    refine m_fails (by decide) hb.1 hT ht hz (fun ξ f a p => ?_)
    unfold b_M_readNumber_20
    rw [well_f a (by decide), if_neg (by decide), if_neg (by decide)]
    exact h1 q' ξ f a p
theorem m_wantSign_f {c : Int} {ν : Mem} {f : Int} (hz : rI ν 15517 0 = f) (hf : 1 ≤ f) {K : Mem → Prop} (h : K ν) : f_M_wantSign c ν K := by
  unfold f_M_wantSign
  rw [well_f hz hf, if_neg (by decide)]
  exact h
theorem m_ch111 {b : Bts} {n : Nat} (hb : BtO b n) {T : Tk} (hT : TkO n T) {ν : Mem} (hB : BtM b n ν) (ht : TkM ν T) (hz : rI ν 15517 0 = 0) {A : Int} (hA : 0 ≤ A ∧ A < 40) {l : List Ln} (hl : AmM ν A l) (h6 : l.length < 6) {so : Int} (hs : 0 ≤ so ∧ so ≤ 2) {c : Bool} {K : Mem → Prop}
    (h : onR (chNum b n so c T) (MFA A ν K) (fun x => ∀ ξ : Mem, FrA A ν ξ → rI ξ 15517 0 = 0 → TkM ξ x.2 → AmM ξ A (l ++ [x.1]) → TkO n x.2 → K ξ)) : b_M_readChange_111 K A (l.length : Int) so (b2i c) ν := by
  unfold b_M_readChange_111
  unfold chNum at h
  have bad : ∀ (f : Int) (r : Int) (ξ : Mem), rI ξ 15517 0 = f → 1 ≤ f → K ξ → f_M_wantSign 59 ξ (fun μ_10 => if (v_M_isWell μ_10) = true then (0 ≤ w ((6 * A) + (l.length : Int)) ∧ w ((6 * A) + (l.length : Int)) < ((240 : Nat) : Int) ∧ ∀ μ_11 : Mem, μ_11 = sI μ_10 120 (w ((6 * A) + (l.length : Int))) so → ∀ x168 : Int, x168 = (if w (b2i c) = w 0 then r else (-r)) → 0 ≤ w ((6 * A) + (l.length : Int)) ∧ w ((6 * A) + (l.length : Int)) < ((240 : Nat) : Int) ∧ ∀ μ_12 : Mem, μ_12 = sI μ_11 121 (w ((6 * A) + (l.length : Int))) x168 → K μ_12) else (K μ_10)) := fun f r ξ zf hf g => by
    refine m_wantSign_f zf hf ?_
    rw [well_f zf hf, if_neg (by decide)]
    exact g
  refine m_readNumber hb hT (by decide) hB ht hz (fun q ξ f a p => ?_) (fun q z ξ f a p => ?_) (fun q z ξ3 f3 t3 => ?_)
  · rw [if_pos q] at h
    exact bad 1 0 ξ a (by decide) (h ξ (FrA.of f rfl rfl) a p)
  · rw [if_neg (fun y => y q), if_pos z] at h
    exact bad 2 0 ξ a (by decide) (h ξ (FrA.of f rfl rfl) a p)
  · rw [if_neg (fun y => y q), if_neg (fun y => y z)] at h
    have k3 := (nx_ok hb hT).1
    have z3 : rI ξ3 15517 0 = 0 := by rw [f3.rdI rfl]; exact hz
    generalize T.2.2.2 = v at *
    obtain ⟨v0, v1⟩ := z
    unfold chEnd at h
    have a3 : FrA A ν ξ3 := FrA.of f3 rfl rfl
    refine m_wantSign hb k3 (by decide) (hB.fr f3 rfl) t3 z3 (fun q5 ξ6 f6 t6 => ?_) (fun q5 ξ6 f6 a6 p6 => ?_)
    · rw [if_pos q5] at h
      have z6 : rI ξ6 15517 0 = 0 := by rw [f6.rdI rfl]; exact z3
      rw [well_t z6, if_pos rfl]
      (try simp (disch := omega) only [w_id])
      refine ⟨by omega, by omega, fun μ11 e11 x ex => ?_⟩
      have ex' : x = sgn c v := by rw [ex]; cases c <;> rfl
      have xr := sgn_abs c v
      rw [← ex'] at xr
      refine ⟨by omega, by omega, fun μ12 e12 => ?_⟩
      have l6 := (hl.fr f3 rfl).fr f6 rfl
      have a12 : FrA A ξ6 μ12 := by
        refine ⟨by rw [e12, e11]; exact ((FrP.refl _ _).wI (by decide)).wI (by decide), fun j hj => ?_⟩
        rw [e12, rI_ne _ _ _ _ rfl, rI_sI _ _ _ _ 121, if_neg (fun y => by omega), e11, rI_sI, if_neg (fun y => by omega), rI_ne _ _ _ _ rfl]
        exact ⟨rfl, rfl⟩
      refine onR_r h μ12 ((a3.trans (FrA.of f6 rfl rfl)).trans a12) ?_ ?_ (fun k hk => ?_) (nx_ok hb k3).1
      · rw [e12, rI_ne _ _ _ _ rfl, e11, rI_ne _ _ _ _ rfl]; exact z6
      · refine TkM.fr (L := [120, 121]) t6 ?_ rfl
        rw [e12, e11]
        exact ((FrP.refl _ _).wI (by decide)).wI (by decide)
      · simp only [List.length_append, List.length_cons, List.length_nil] at hk
        rw [getD_app]
        by_cases ck : k < l.length
        · rw [if_pos ck, e12, rI_ne _ _ _ _ rfl, rI_sI _ _ _ _ 121, if_neg (fun y => by omega), e11, rI_sI, if_neg (fun y => by omega), rI_ne _ _ _ _ rfl]
          exact l6 k ck
        · have ek : k = l.length := by omega
          rw [if_neg ck, if_pos ek, ek, e12, rI_ne _ _ _ _ rfl, rI_eq _ _ _ ⟨by omega, by omega⟩, e11, rI_eq _ _ _ ⟨by omega, by omega⟩]
          exact ⟨rfl, ex'⟩
    · rw [if_neg q5] at h
      rw [well_f a6 (by decide), if_neg (by decide)]
      exact h ξ6 (a3.trans (FrA.of f6 rfl rfl)) a6 p6
theorem m_readChange {b : Bts} {n : Nat} (hb : BtO b n) {T : Tk} (hT : TkO n T) {ν : Mem} (hB : BtM b n ν) (ht : TkM ν T) (hz : rI ν 15517 0 = 0) {A : Int} (hA : 0 ≤ A ∧ A < 40) {l : List Ln} (hl : AmM ν A l) (h6 : l.length ≤ 6) {K : Mem → Prop}
    (h : onR (rdCh b n l T) (MFA A ν K) (fun x => ∀ ξ : Mem, FrA A ν ξ → rI ξ 15517 0 = 0 → TkM ξ x.2 → AmM ξ A (l ++ [x.1]) → TkO n x.2 → K ξ)) : f_M_readChange A (l.length : Int) ν K := by
  have no : ∀ (so f : Int) (ξ : Mem), rI ξ 15517 0 = f → 1 ≤ f → K ξ → b_M_readChange_68 K A (l.length : Int) so ξ := fun so f ξ zf hf g => by
    unfold b_M_readChange_68
    rw [well_f zf hf, if_neg (by decide)]
    exact g
  have lift : ∀ (ξ : Mem) (r : Res (Ln × Tk)), Fr mxL ν ξ → onR r (MFA A ν K) (fun x => ∀ ξ : Mem, FrA A ν ξ → rI ξ 15517 0 = 0 → TkM ξ x.2 → AmM ξ A (l ++ [x.1]) → TkO n x.2 → K ξ) → onR r (MFA A ξ K) (fun x => ∀ ο : Mem, FrA A ξ ο → rI ο 15517 0 = 0 → TkM ο x.2 → AmM ο A (l ++ [x.1]) → TkO n x.2 → K ο) := fun ξ r fr g =>
    onR_mono g (fun f p y ο fo a q => y ο ((FrA.of fr rfl rfl).trans fo) a q) (fun x y ο fo => y ο ((FrA.of fr rfl rfl).trans fo))
  have hch : ∀ so : Int, 0 ≤ so ∧ so ≤ 2 → onR (chA b n l so T) (MFA A ν K) (fun x => ∀ ξ : Mem, FrA A ν ξ → rI ξ 15517 0 = 0 → TkM ξ x.2 → AmM ξ A (l ++ [x.1]) → TkO n x.2 → K ξ) → b_M_readChange_43 K A (l.length : Int) so ν := fun so hs h => by
    unfold chA at h
    unfold b_M_readChange_43
    (try simp (disch := omega) only [w_id])
    rw [if_neg (by omega)]
    refine ite_i (fun q => ?_) (fun q => ?_)
    · rw [if_pos (by omega)] at h
      exact m_fails (by decide) hb.1 hT ht hz (fun ξ f a p => no so 4 ξ a (by decide) (h ξ (FrA.of f rfl rfl) a p))
    · rw [if_neg (fun z => z (by omega))] at h
      unfold b_M_readChange_68
      rw [well_t hz, if_pos rfl]
      refine m_nx hb hT hB ht (fun ξ1 f1 t1 => ?_)
      have k1 := (nx_ok hb hT).1
      have B1 := hB.fr f1 rfl
      have z1 : rI ξ1 15517 0 = 0 := by rw [f1.rdI rfl]; exact hz
      unfold chB at h
      (try simp (disch := omega) only [w_id])
      refine ite_i (fun q1 => ?_) (fun q1 => ?_)
      · rw [if_pos q1] at h
        refine m_isWord hb k1 (by decide) B1 t1 ?_
        intro x ex
        have ex' : x = isW b (nx b n T) 10 := by rw [ex]; cases isW b (nx b n T) 10 <;> rfl
        subst ex'
        unfold opt at h
        refine ite_i (fun c => ?_) (fun c => ?_)
        · rw [if_pos c] at h
          refine m_nx hb k1 B1 t1 (fun ξ2 f2 t2 => ?_)
          exact m_ch111 hb (nx_ok hb k1).1 (B1.fr f2 rfl) t2 (by rw [f2.rdI rfl]; exact z1) hA ((hl.fr f1 rfl).fr f2 rfl) (by omega) hs (lift ξ2 _ (f1.trans f2) h)
        · rw [if_neg c] at h
          exact m_ch111 hb k1 B1 t1 z1 hA (hl.fr f1 rfl) (by omega) hs (lift ξ1 _ f1 h)
      · rw [if_neg q1] at h
        unfold b_M_readChange_99 b_M_readChange_100
        rw [if_neg (by decide)]
        exact m_ch111 (c := false) hb k1 B1 t1 z1 hA (hl.fr f1 rfl) (by omega) hs (lift ξ1 _ f1 h)
  unfold f_M_readChange
  unfold rdCh at h
  refine m_isWord hb hT (by decide) hB ht ?_
  refine ite_i (fun q => ?_) (fun q => ?_)
  · rw [if_pos q] at h
    exact hch 0 (by decide) h
  · rw [if_neg q] at h
    refine m_isWord hb hT (by decide) hB ht ?_
    refine ite_i (fun q2 => ?_) (fun q2 => ?_)
    · rw [if_pos q2] at h
      exact hch 1 (by decide) h
    · rw [if_neg q2] at h
      refine m_isWord hb hT (by decide) hB ht ?_
      intro x ex
      subst ex
      by_cases q3 : isW b T 28 = true
      · rw [if_pos q3] at h
        simp only [if_pos q3]
        exact hch 2 (by decide) h
      · rw [if_neg q3] at h
        simp only [if_neg q3]
        rw [if_pos (by trivial)]
        exact m_fails (by decide) hb.1 hT ht hz (fun ξ f a p => no (-1) 1 ξ a (by decide) (h ξ (FrA.of f rfl rfl) a p))
theorem m_am_l {b : Bts} {n : Nat} (hb : BtO b n) {A : Int} (hA : 0 ≤ A ∧ A < 40) {a1 : Int} {X : Int → Mem → Prop} {ν0 : Mem} :
    ∀ (f : Nat) (l : List Ln) (T : Tk) (ν : Mem), 6 < f + l.length → WfCh l → ¬ l.length = 0 → FrA A ν0 ν → rI ν0 15474 0 = A → BtM b n ν → TkO n T → TkM ν T → rI ν 15517 0 = 0 → AmM ν A l → onR (rdAm b n (f + 1) l T) (fun f p => ∀ ξ : Mem, FrA A ν0 ξ → rI ξ 15517 0 = f → rI ξ 15518 0 = (p : Int) → ∀ k : Int, X k ξ) (fun l' => ∀ ξ : Mem, FrA A ν0 ξ → rI ξ 15517 0 = 0 → AmM ξ A l' → X (l'.length : Int) ξ) → l_M_amend_39 a1 X (f + 2) (l.length : Int) ν
  | f, l, T, ν, hf, hw, hne, hfr, hA0, hB, hT, ht, hz, hl, h => by
    have h6 := hw.1
    have k0 := ks_0 hT.1
    have kr := ks_r T.1
    have eA : rI ν 15474 0 = A := by rw [hfr.1.rdI rfl]; exact hA0
    unfold rdAm at h
    unfold l_M_amend_39
    rw [well_t hz, if_pos rfl, ht.1, eA]
    (try simp (disch := omega) only [w_id])
    by_cases c : T.1 = 0
    · rw [if_pos ⟨hne, c⟩] at h
      rw [if_pos (k0.mpr c)]
      exact h ν hfr hz hl
    · rw [if_neg (fun z => c z.2)] at h
      rw [if_neg (fun z => c (k0.mp z))]
      refine m_readChange hb hT hB ht hz hA hl h6 ?_
      cases hr : rdCh b n l T with
      | inl e =>
        rw [hr] at h
        intro ξ fr a p
        unfold l_M_amend_39
        rw [well_f a (rdCh_f hr).1, if_neg (by decide)]
        exact h ξ (hfr.trans fr) a p _
      | inr x =>
        rw [hr] at h
        have kw := rdCh_w hw hr
        cases f with
        | zero => omega
        | succ f =>
          have kl : ((l ++ [x.1]).length : Int) = (l.length : Int) + 1 := by rw [List.length_append]; simp
          intro ξ fr z t6 r6 o6
          have ih := m_am_l hb hA (a1 := a1) (X := X) (ν0 := ν0) f (l ++ [x.1]) x.2 ξ (by rw [List.length_append]; simp only [List.length_cons, List.length_nil]; omega) kw.1 (by rw [List.length_append]; simp) (hfr.trans fr) hA0 (hB.fr fr.1 rfl) o6 t6 z r6 h
          rw [kl] at ih
          exact ih
