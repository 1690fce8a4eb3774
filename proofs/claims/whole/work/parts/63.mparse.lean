/-! ORDERS' TEXT, the model's side -/
def moL : List Nat := mxL ++ fmL ++ [15520, 143, 144]
/-- the row of signs that is being written alone may differ -/
def FrS (ν ξ : Mem) : Prop := Fr moL ν ξ ∧ (∀ j : Int, j < 3200 → rI ξ 143 j = rI ν 143 j) ∧ ∀ j : Int, ¬ j = 10 → rI ξ 144 j = rI ν 144 j
theorem FrS.refl (ν : Mem) : FrS ν ν := ⟨FrP.refl _ _, fun _ _ => rfl, fun _ _ => rfl⟩
theorem FrS.trans {ν ξ ο : Mem} (h : FrS ν ξ) (k : FrS ξ ο) : FrS ν ο := ⟨h.1.trans k.1, fun j hj => (k.2.1 j hj).trans (h.2.1 j hj), fun j hj => (k.2.2 j hj).trans (h.2.2 j hj)⟩
theorem FrS.of {L : List Nat} {ν ξ : Mem} (h : Fr L ν ξ) (hs : lsub L moL = true) (h1 : (lel L 143 || lel L 144) = false) : FrS ν ξ := by
  simp only [Bool.or_eq_false_iff] at h1
  exact ⟨Fr.mono h hs, fun j _ => h.rdI h1.1, fun j _ => h.rdI h1.2⟩
def StpM (ν : Mem) (C : List Int) : Prop := rI ν 144 10 = (C.length : Int) ∧ ∀ j : Nat, j < C.length → rI ν 143 (3200 + (j : Int)) = C.getD j 0
theorem StpM.fr {L : List Nat} {ν ξ : Mem} {C : List Int} (h : StpM ν C) (f : Fr L ν ξ) (h1 : (lel L 143 || lel L 144) = false) : StpM ξ C := by
  simp only [Bool.or_eq_false_iff] at h1
  exact ⟨by rw [f.rdI h1.2]; exact h.1, fun j hj => by rw [f.rdI h1.1]; exact h.2 j hj⟩
def askP (p a : Int) : Prop := (p = 3 ∧ a = 3) ∨ (p = 4 ∧ a = 7) ∨ (¬ p = 3 ∧ ¬ p = 4 ∧ ¬ a = 3 ∧ ¬ a = 7)
def OM (b : Bts) (n : Nat) (p : Int) (o : Nat) (ν : Mem) (T : Tk) (C : List Int) : Prop := BtM b n ν ∧ TkO n T ∧ TkM ν T ∧ rI ν 15517 0 = 0 ∧ rI ν 15520 0 = (o : Int) ∧ askP p (rI ν 15521 0) ∧ StpM ν C
def FaM (ν : Mem) (K : Mem → Prop) (f : Int) (q : Nat) : Prop := ∀ ξ : Mem, FrS ν ξ → rI ξ 15517 0 = f → rI ξ 15518 0 = (q : Int) → K ξ
def SuM (ν : Mem) (o : Nat) (C : List Int) (K : Mem → Prop) (x : List Int × Tk) : Prop := ∀ ξ : Mem, FrS ν ξ → rI ξ 15517 0 = 0 → rI ξ 15520 0 = (o : Int) → TkM ξ x.2 → StpM ξ (C ++ x.1) → K ξ
def FolM (b : Bts) (n : Nat) (p : Int) (o : Nat) (R : Mem → (Mem → Prop) → Prop) (P : Tk → PR) : Prop := ∀ (T : Tk) (C : List Int) (ν : Mem) (K : Mem → Prop), OM b n p o ν T C → C.length ≤ T.2.1 → onR (P T) (FaM ν K) (SuM ν o C K) → R ν K
theorem FaM.tr {ν ξ : Mem} {K : Mem → Prop} {f : Int} {q : Nat} (h : FaM ν K f q) (fr : FrS ν ξ) : FaM ξ K f q := fun ο fo a k => h ο (fr.trans fo) a k
theorem OM.nx {b : Bts} {n : Nat} {p : Int} {o : Nat} {ν ξ : Mem} {T : Tk} {C : List Int} (hb : BtO b n) (h : OM b n p o ν T C) (f : Fr mxL ν ξ) (t : TkM ξ (nx b n T)) : OM b n p o ξ (nx b n T) C :=
  ⟨h.1.fr f rfl, (nx_ok hb h.2.1).1, t, by rw [f.rdI rfl]; exact h.2.2.2.1, by rw [f.rdI rfl]; exact h.2.2.2.2.1, by rw [f.rdI rfl]; exact h.2.2.2.2.2.1, h.2.2.2.2.2.2.fr f rfl⟩
theorem OM.op {b : Bts} {n : Nat} {p : Int} {o o' : Nat} {ν ξ : Mem} {T T' : Tk} {C C' : List Int} (h : OM b n p o ν T C) (f : FrS ν ξ) (z : rI ξ 15517 0 = 0) (q : rI ξ 15520 0 = (o' : Int)) (hT : TkO n T') (t : TkM ξ T') (s : StpM ξ C') : OM b n p o' ξ T' C' :=
  ⟨h.1.fr f.1 rfl, hT, t, z, q, by rw [f.1.rdI rfl]; exact h.2.2.2.2.2.1, s⟩
theorem m_emits {b : Bts} {n : Nat} {p : Int} {o : Nat} {ν : Mem} {T : Tk} {C : List Int} {s : Int} (hs : Rg s) (h : OM b n p o ν T C) (h3 : C.length < 300) {K : Mem → Prop} (k : ∀ ξ : Mem, FrS ν ξ → OM b n p o ξ T (C ++ [s]) → K ξ) : f_M_emits s ν K := by
  unfold f_M_emits
  rw [well_t h.2.2.2.1, if_pos rfl, show w 10 = 10 from rfl, h.2.2.2.2.2.2.1]
  (try simp (disch := omega) only [w_id])
  refine ⟨by omega, by omega, fun μ1 e1 μ2 e2 => ?_⟩
  have s1 : rI μ1 144 10 = (C.length : Int) := by rw [e1, rI_ne _ _ _ _ rfl]; exact h.2.2.2.2.2.2.1
  rw [s1] at e2
  have f2 : Fr [143, 144] ν μ2 := by rw [e2, e1]; exact ((FrP.refl _ _).wI (by decide)).wI (by decide)
  have fs : FrS ν μ2 := by
    refine ⟨Fr.mono f2 rfl, fun j hj => ?_, fun j hj => ?_⟩
    · rw [e2, rI_ne _ _ _ _ rfl, e1, rI_sI, if_neg (fun z => by omega)]
    · rw [e2, rI_sI, if_neg (fun z => hj z.2), e1, rI_ne _ _ _ _ rfl]
  refine k μ2 fs (h.op fs (by rw [f2.rdI rfl]; exact h.2.2.2.1) (by rw [f2.rdI rfl]; exact h.2.2.2.2.1) h.2.1 (h.2.2.1.fr f2 rfl) ⟨?_, fun j hj => ?_⟩)
  · rw [e2, rI_eq _ _ _ ⟨by omega, by omega⟩, List.length_append]
    simp
  · simp only [List.length_append, List.length_cons, List.length_nil] at hj
    rw [gA, e2, rI_ne _ _ _ _ rfl, e1, rI_sI]
    by_cases c : j < C.length
    · rw [if_pos c, if_neg (fun z => by omega)]; exact h.2.2.2.2.2.2.2 j c
    · rw [if_neg c, if_pos (show j = C.length by omega), if_pos ⟨rfl, by omega⟩, w_id hs.1 hs.2]
theorem m_emits_f {s : Int} {ν : Mem} {f : Int} (hz : rI ν 15517 0 = f) (hf : 1 ≤ f) {K : Mem → Prop} (h : K ν) : f_M_emits s ν K := by
  unfold f_M_emits
  rw [well_f hz hf, if_neg (by decide)]
  exact h
/-- in a text with a FAULT nothing more is done -/
theorem ill_P {ν : Mem} {f : Int} (hz : rI ν 15517 0 = f) (hf : 1 ≤ f) : ∀ (d y : Nat) (K : Mem → Prop), y ≤ 6 → K ν → R_P (d + 4) y ν K := by
  have h6 : ∀ (d : Nat) (K : Mem → Prop), K ν → R_P (d + 1) 6 ν K := fun d K h => by
    show f_M_factor (R_P d) ν K
    unfold f_M_factor
    rw [well_f hz hf, if_neg (by decide)]
    exact h
  have h5 : ∀ (d : Nat) (K : Mem → Prop), K ν → R_P (d + 2) 5 ν K := fun d K h => by
    show f_M_product (R_P (d + 1)) ν K
    unfold f_M_product
    refine h6 d _ ⟨1, ?_⟩
    unfold l_M_product_4
    rw [well_f hz hf, if_neg (by decide)]
    exact h
  have h4 : ∀ (d : Nat) (K : Mem → Prop), K ν → R_P (d + 3) 4 ν K := fun d K h => by
    show f_M_sum (R_P (d + 2)) ν K
    unfold f_M_sum
    refine h5 d _ ⟨1, ?_⟩
    unfold l_M_sum_4
    rw [well_f hz hf, if_neg (by decide)]
    exact h
  have h3 : ∀ (d : Nat) (K : Mem → Prop), K ν → R_P (d + 4) 3 ν K := fun d K h => by
    show f_M_compares (R_P (d + 3)) ν K
    unfold f_M_compares
    refine h4 d _ ?_
    rw [well_f hz hf, if_neg (by decide)]
    exact h
  have h2 : ∀ (d : Nat) (K : Mem → Prop), K ν → R_P (d + 1) 2 ν K := fun d K h => by
    show f_M_part (R_P d) ν K
    unfold f_M_part
    refine ⟨1, ?_⟩
    unfold l_M_part_2
    rw [well_f hz hf, if_neg (by decide), if_neg (by decide)]
    exact h
  have h1 : ∀ (d : Nat) (K : Mem → Prop), K ν → R_P (d + 2) 1 ν K := fun d K h => by
    show f_M_both (R_P (d + 1)) ν K
    unfold f_M_both
    refine h2 d _ ⟨1, ?_⟩
    unfold l_M_both_4
    rw [well_f hz hf, if_neg (by decide)]
    exact h
  have h0 : ∀ (d : Nat) (K : Mem → Prop), K ν → R_P (d + 3) 0 ν K := fun d K h => by
    show f_M_cond (R_P (d + 2)) ν K
    unfold f_M_cond
    refine h1 d _ ⟨1, ?_⟩
    unfold l_M_cond_4
    rw [well_f hz hf, if_neg (by decide)]
    exact h
  intro d y K hy h
  have hc : y = 0 ∨ y = 1 ∨ y = 2 ∨ y = 3 ∨ y = 4 ∨ y = 5 ∨ y = 6 := by omega
  rcases hc with rfl | rfl | rfl | rfl | rfl | rfl | rfl
  · exact h0 (d + 1) K h
  · exact h1 (d + 2) K h
  · exact h2 (d + 3) K h
  · exact h3 d K h
  · exact h4 (d + 1) K h
  · exact h5 (d + 2) K h
  · exact h6 (d + 3) K h
theorem FolM.bind {b : Bts} {n : Nat} {p : Int} {o : Nat} {R : Mem → (Mem → Prop) → Prop} {P : Tk → PR} (IH : FolM b n p o R P) {c : Bool} {m2 : Nat} {T : Tk} (hG : Gd (P T) (PostR n p c m2 T)) {ν0 ν : Mem} {C C0 : List Int} {o0 : Nat} {K K' : Mem → Prop} {g : List Int × Tk → PR} (hO : OM b n p o ν T C) (hC : C.length ≤ T.2.1) (fr : FrS ν0 ν)
    (h : onR (bindR (P T) g) (FaM ν0 K) (SuM ν0 o0 C0 K)) (h1 : ∀ (f0 : Int) (q0 : Nat) (ξ : Mem), FrS ν ξ → FaM ξ K f0 q0 → rI ξ 15517 0 = f0 → rI ξ 15518 0 = (q0 : Int) → 1 ≤ f0 → K' ξ) (h2 : ∀ (x : List Int × Tk) (ξ : Mem), PostR n p c m2 T x → OM b n p o ξ x.2 (C ++ x.1) → FrS ν0 ξ → onR (g x) (FaM ν0 K) (SuM ν0 o0 C0 K) → K' ξ) : R ν K' := by
  refine IH T C ν K' hO hC ?_
  rcases hG with ⟨e, e1, e2, -⟩ | ⟨y, e1, y1⟩
  · rw [e1] at h ⊢
    exact fun ξ f a q => h1 _ _ ξ f (FaM.tr h (fr.trans f)) a q e2
  · rw [e1] at h ⊢
    exact fun ξ f z q t s => h2 y ξ y1 (hO.op f z q y1.1 t s) (fr.trans f) h
theorem m_step {b : Bts} {n : Nat} {p : Int} {o : Nat} (hb : BtO b n) {R : Mem → (Mem → Prop) → Prop} {P : Tk → PR} (IH : FolM b n p o R P) {c : Bool} {m2 : Nat} (hG : ∀ T : Tk, TkO n T → Gd (P T) (PostR n p c m2 T))
    {op : Tk → Int} (hop : ∀ T : Tk, ¬ op T = 0 → ¬ T.1 = 0 ∧ OpT c c (op T)) {ν0 ν : Mem} {C s : List Int} {T : Tk} {K : Mem → Prop} {x : Int} (hov : op T = x) (hne : ¬ op T = 0) (hO : OM b n p o ν T (C ++ s)) (hlen : C.length + s.length ≤ T.2.1) (fr : FrS ν0 ν) {f : Nat}
    (h : onR (pLoop P op b n (f + 1) s T) (FaM ν0 K) (SuM ν0 o C K)) {Z : Mem → Prop} (hZf : ∀ (f0 : Int) (ξ : Mem), rI ξ 15517 0 = f0 → 1 ≤ f0 → K ξ → Z ξ)
    (hZt : ∀ (T' : Tk) (s' : List Int) (ξ : Mem), T.2.1 + 1 ≤ T'.2.1 → OM b n p o ξ T' (C ++ s') → C.length + s'.length ≤ T'.2.1 → FrS ν0 ξ → onR (pLoop P op b n f s' T') (FaM ν0 K) (SuM ν0 o C K) → Z ξ) :
    f_M_next ν (fun μ_4 => R μ_4 (fun μ_5 => f_M_emits x μ_5 (fun μ_6 => Z μ_6))) := by
  obtain ⟨o1, o2⟩ := hop T hne
  have hor := o2.rng
  have hn := hb.1
  unfold pLoop at h
  rw [if_neg hne] at h
  refine m_nx hb hO.2.1 hO.1 hO.2.2.1 (fun ξ1 f1 t1 => ?_)
  have k := nx_lt hb hO.2.1 o1
  have O1 := hO.nx hb f1 t1
  have f01 : FrS ν0 ξ1 := fr.trans (FrS.of f1 rfl rfl)
  have h' : onR (bindR (P (nx b n T)) (fun x => pLoop P op b n f (s ++ x.1 ++ [op T]) x.2)) (FaM ν0 K) (SuM ν0 o C K) := h
  refine IH.bind (hG _ k.1) O1 (by simp only [List.length_append]; omega) f01 h' (fun f0 q0 ξ2 f2 kf a q hf => ?_) (fun y ξ2 py O2 f2 g => ?_)
  · exact m_emits_f a hf (hZf f0 ξ2 a hf (kf ξ2 (FrS.refl _) a q))
  · obtain ⟨y1, y2, y3, y4⟩ := py
    have yo := y1.2.1
    refine m_emits ⟨by omega, by omega⟩ O2 (by simp only [List.length_append]; omega) (fun ξ3 f3 O3 => ?_)
    rw [← hov, List.append_assoc, List.append_assoc, ← List.append_assoc s] at O3
    refine hZt y.2 _ ξ3 (by omega) O3 ?_ (f2.trans f3) g
    simp only [List.length_append, List.length_cons, List.length_nil]
    omega
theorem m_cond_l {b : Bts} {n : Nat} {p : Int} {o : Nat} (hb : BtO b n) {dm : Nat} {P : Tk → PR} (IH : FolM b n p o (R_P dm 1) P) {m2 : Nat} (hG : ∀ T : Tk, TkO n T → Gd (P T) (PostR n p true m2 T)) {ν0 : Mem} {C : List Int} {K : Mem → Prop} :
    ∀ (f : Nat) (s : List Int) (T : Tk) (ν : Mem), n ≤ T.2.1 + f → OM b n p o ν T (C ++ s) → C.length + s.length ≤ T.2.1 → FrS ν0 ν → onR (pLoop P (opOr b) b n f s T) (FaM ν0 K) (SuM ν0 o C K) → l_M_cond_4 K (R_P dm) (f + 1) ν
  | f, s, T, ν, hn, hO, hl, fr, h => by
    have out : (opOr b) T = 0 → K ν := fun eo => by
      cases f with
      | zero => exact h ν fr hO.2.2.2.1 hO.2.2.2.2.1 hO.2.2.1 hO.2.2.2.2.2.2
      | succ f =>
        unfold pLoop at h
        rw [if_pos eo] at h
        exact h ν fr hO.2.2.2.1 hO.2.2.2.2.1 hO.2.2.1 hO.2.2.2.2.2.2
    unfold l_M_cond_4
    rw [well_t hO.2.2.2.1, if_pos rfl]
    refine m_isWord hb hO.2.1 (by decide) hO.1 hO.2.2.1 ?_
    refine ite_i (fun q => ?_) (fun q => ?_)
    · have eo : (opOr b) T = -8 := by unfold opOr; rw [if_pos q]
      cases f with
      | zero => exact absurd (hO.2.1.fin (by omega)) (opOr_T b T (by rw [eo]; decide)).1
      | succ f =>
        refine m_step (x := (-8)) hb IH hG (opOr_T b) eo (by rw [eo]; decide) hO hl fr h (fun f0 ξ a hf k => ?_) (fun T' s' ξ k1 k2 k3 k4 k5 => ?_)
        · unfold l_M_cond_4
          rw [well_f a hf, if_neg (by decide)]
          exact k
        · exact m_cond_l hb IH hG f s' T' ξ (by omega) k2 k3 k4 k5
    · exact out (by unfold opOr; rw [if_neg q])
theorem m_both_l {b : Bts} {n : Nat} {p : Int} {o : Nat} (hb : BtO b n) {dm : Nat} {P : Tk → PR} (IH : FolM b n p o (R_P dm 2) P) {m2 : Nat} (hG : ∀ T : Tk, TkO n T → Gd (P T) (PostR n p true m2 T)) {ν0 : Mem} {C : List Int} {K : Mem → Prop} :
    ∀ (f : Nat) (s : List Int) (T : Tk) (ν : Mem), n ≤ T.2.1 + f → OM b n p o ν T (C ++ s) → C.length + s.length ≤ T.2.1 → FrS ν0 ν → onR (pLoop P (opAnd b) b n f s T) (FaM ν0 K) (SuM ν0 o C K) → l_M_both_4 K (R_P dm) (f + 1) ν
  | f, s, T, ν, hn, hO, hl, fr, h => by
    have out : (opAnd b) T = 0 → K ν := fun eo => by
      cases f with
      | zero => exact h ν fr hO.2.2.2.1 hO.2.2.2.2.1 hO.2.2.1 hO.2.2.2.2.2.2
      | succ f =>
        unfold pLoop at h
        rw [if_pos eo] at h
        exact h ν fr hO.2.2.2.1 hO.2.2.2.2.1 hO.2.2.1 hO.2.2.2.2.2.2
    unfold l_M_both_4
    rw [well_t hO.2.2.2.1, if_pos rfl]
    refine m_isWord hb hO.2.1 (by decide) hO.1 hO.2.2.1 ?_
    refine ite_i (fun q => ?_) (fun q => ?_)
    · have eo : (opAnd b) T = -7 := by unfold opAnd; rw [if_pos q]
      cases f with
      | zero => exact absurd (hO.2.1.fin (by omega)) (opAnd_T b T (by rw [eo]; decide)).1
      | succ f =>
        refine m_step (x := (-7)) hb IH hG (opAnd_T b) eo (by rw [eo]; decide) hO hl fr h (fun f0 ξ a hf k => ?_) (fun T' s' ξ k1 k2 k3 k4 k5 => ?_)
        · unfold l_M_both_4
          rw [well_f a hf, if_neg (by decide)]
          exact k
        · exact m_both_l hb IH hG f s' T' ξ (by omega) k2 k3 k4 k5
    · exact out (by unfold opAnd; rw [if_neg q])
theorem m_sum_l {b : Bts} {n : Nat} {p : Int} {o : Nat} (hb : BtO b n) {dm : Nat} {P : Tk → PR} (IH : FolM b n p o (R_P dm 5) P) {m2 : Nat} (hG : ∀ T : Tk, TkO n T → Gd (P T) (PostR n p false m2 T)) {ν0 : Mem} {C : List Int} {K : Mem → Prop} :
    ∀ (f : Nat) (s : List Int) (T : Tk) (ν : Mem), n ≤ T.2.1 + f → OM b n p o ν T (C ++ s) → C.length + s.length ≤ T.2.1 → FrS ν0 ν → onR (pLoop P opSum b n f s T) (FaM ν0 K) (SuM ν0 o C K) → l_M_sum_4 K (R_P dm) (f + 1) ν
  | f, s, T, ν, hn, hO, hl, fr, h => by
    have out : opSum T = 0 → K ν := fun eo => by
      cases f with
      | zero => exact h ν fr hO.2.2.2.1 hO.2.2.2.2.1 hO.2.2.1 hO.2.2.2.2.2.2
      | succ f =>
        unfold pLoop at h
        rw [if_pos eo] at h
        exact h ν fr hO.2.2.2.1 hO.2.2.2.2.1 hO.2.2.1 hO.2.2.2.2.2.2
    unfold l_M_sum_4
    rw [well_t hO.2.2.2.1, if_pos rfl]
    have g1 := m_isSign (c := 43) hO.2.1 hO.2.2.1 (by decide)
    have g2 := m_isSign (c := 45) hO.2.1 hO.2.2.1 (by decide)
    rw [g1, g2]
    have body : ∀ (t : Bool) (x : Int), isS T 43 = t → x = (if t = true then -1 else -2) → opSum T = x → b_M_sum_29 (l_M_sum_4 K (R_P dm) f) (R_P dm) ν := fun t x ht hx eo => by
      have xn : ¬ x = 0 := by rw [hx]; cases t <;> decide
      cases f with
      | zero => exact absurd (hO.2.1.fin (by omega)) (opSum_T T (by rw [eo]; exact xn)).1
      | succ f =>
        unfold b_M_sum_29
        intro v1 ev
        rw [g1, ht] at ev
        subst ev
        have st := m_step (Z := l_M_sum_4 K (R_P dm) (f + 1)) hb IH hG (opSum_T) eo (by rw [eo]; exact xn) hO hl fr h (fun f0 ξ a hf k => ?_) (fun T' s' ξ k1 k2 k3 k4 k5 => ?_)
        · refine Eq.mp ?_ st
          congr 1
          funext μ4
          congr 1
          funext μ5
          refine propext ⟨fun z x' ex' => ?_, fun z => z x hx⟩
          rw [ex', ← hx]
          exact z
        · unfold l_M_sum_4
          rw [well_f a hf, if_neg (by decide)]
          exact k
        · exact m_sum_l hb IH hG f s' T' ξ (by omega) k2 k3 k4 k5
    refine ite_i (fun q => ?_) (fun q => ite_i (fun q2 => ?_) (fun q2 => ?_))
    · exact body true (-1) q rfl (by unfold opSum; rw [if_pos q])
    · exact body false (-2) (bool_f q) rfl (by unfold opSum; rw [if_neg q, if_pos q2])
    · exact out (by unfold opSum; rw [if_neg q, if_neg q2])
theorem m_product_l {b : Bts} {n : Nat} {p : Int} {o : Nat} (hb : BtO b n) {dm : Nat} {P : Tk → PR} (IH : FolM b n p o (R_P dm 6) P) {m2 : Nat} (hG : ∀ T : Tk, TkO n T → Gd (P T) (PostR n p false m2 T)) {ν0 : Mem} {C : List Int} {K : Mem → Prop} :
    ∀ (f : Nat) (s : List Int) (T : Tk) (ν : Mem), n ≤ T.2.1 + f → OM b n p o ν T (C ++ s) → C.length + s.length ≤ T.2.1 → FrS ν0 ν → onR (pLoop P opMul b n f s T) (FaM ν0 K) (SuM ν0 o C K) → l_M_product_4 K (R_P dm) (f + 1) ν
  | f, s, T, ν, hn, hO, hl, fr, h => by
    have out : opMul T = 0 → K ν := fun eo => by
      cases f with
      | zero => exact h ν fr hO.2.2.2.1 hO.2.2.2.2.1 hO.2.2.1 hO.2.2.2.2.2.2
      | succ f =>
        unfold pLoop at h
        rw [if_pos eo] at h
        exact h ν fr hO.2.2.2.1 hO.2.2.2.2.1 hO.2.2.1 hO.2.2.2.2.2.2
    unfold l_M_product_4
    rw [well_t hO.2.2.2.1, if_pos rfl]
    have g1 := m_isSign (c := 42) hO.2.1 hO.2.2.1 (by decide)
    have g2 := m_isSign (c := 47) hO.2.1 hO.2.2.1 (by decide)
    rw [g1, g2]
    have body : ∀ (t : Bool) (x : Int), isS T 42 = t → x = (if t = true then -3 else -10) → opMul T = x → b_M_product_29 (l_M_product_4 K (R_P dm) f) (R_P dm) ν := fun t x ht hx eo => by
      have xn : ¬ x = 0 := by rw [hx]; cases t <;> decide
      cases f with
      | zero => exact absurd (hO.2.1.fin (by omega)) (opMul_T T (by rw [eo]; exact xn)).1
      | succ f =>
        unfold b_M_product_29
        intro v1 ev
        rw [g1, ht] at ev
        subst ev
        have st := m_step (Z := l_M_product_4 K (R_P dm) (f + 1)) hb IH hG (opMul_T) eo (by rw [eo]; exact xn) hO hl fr h (fun f0 ξ a hf k => ?_) (fun T' s' ξ k1 k2 k3 k4 k5 => ?_)
        · refine Eq.mp ?_ st
          congr 1
          funext μ4
          congr 1
          funext μ5
          refine propext ⟨fun z x' ex' => ?_, fun z => z x hx⟩
          rw [ex', ← hx]
          exact z
        · unfold l_M_product_4
          rw [well_f a hf, if_neg (by decide)]
          exact k
        · exact m_product_l hb IH hG f s' T' ξ (by omega) k2 k3 k4 k5
    refine ite_i (fun q => ?_) (fun q => ite_i (fun q2 => ?_) (fun q2 => ?_))
    · exact body true (-3) q rfl (by unfold opMul; rw [if_pos q])
    · exact body false (-10) (bool_f q) rfl (by unfold opMul; rw [if_neg q, if_pos q2])
    · exact out (by unfold opMul; rw [if_neg q, if_neg q2])
theorem m_not_l {b : Bts} {n : Nat} {p : Int} {o : Nat} (hb : BtO b n) {C : List Int} {X : Int → Mem → Prop} {ν0 : Mem} : ∀ (f : Nat) (t : Bool) (T : Tk) (ν : Mem), n ≤ T.2.1 + f → OM b n p o ν T C → FrS ν0 ν → (∀ ξ : Mem, FrS ν0 ξ → OM b n p o ξ (pNot b n f t T).2 C → X (b2i (pNot b n f t T).1) ξ) → l_M_part_2 X (f + 1) (b2i t) ν
  | f, t, T, ν, hn, hO, fr, h => by
    unfold l_M_part_2
    rw [well_t hO.2.2.2.1, if_pos rfl]
    refine m_isWord hb hO.2.1 (by decide) hO.1 hO.2.2.1 ?_
    refine ite_i (fun q => ?_) (fun q => ?_)
    · have k := nx_lt hb hO.2.1 (isW_1 q)
      cases f with
      | zero =>
        have := hO.2.1.fin (by omega)
        exact absurd this (isW_1 q)
      | succ f =>
        unfold pNot at h
        rw [if_pos q] at h
        refine m_nx hb hO.2.1 hO.1 hO.2.2.1 (fun ξ1 f1 t1 => ?_)
        intro x ex
        have ex' : x = !t := by rw [ex]; cases t <;> rfl
        subst ex'
        exact m_not_l hb f (!t) _ ξ1 (by omega) (hO.nx hb f1 t1) (fr.trans (FrS.of f1 rfl rfl)) h
    · have e : pNot b n f t T = (t, T) := by
        cases f with
        | zero => rfl
        | succ f => show (if isW b T 10 = true then pNot b n f (!t) (nx b n T) else (t, T)) = (t, T); rw [if_neg q]
      rw [e] at h
      exact h ν fr hO
theorem m_name {b : Bts} {n : Nat} {p : Int} {o : Nat} (hb : BtO b n) {ν : Mem} {T : Tk} {C : List Int} (hO : OM b n p o ν T C) {K : Int → Mem → Prop} (h : K (nameS b p T) ν) : f_M_name ν K := by
  have hT := hO.2.1
  have hB := hO.1
  have ht := hO.2.2.1
  have hk := hO.2.2.2.2.2.1
  have ar := rI_rng ν 15521 0
  unfold f_M_name
  generalize rI ν 15521 0 = a at hk ar
  (try simp (disch := omega) only [w_id])
  unfold nameS at h
  unfold askP at hk
  refine ite_i (fun q => ?_) (fun q => ite_i (fun q2 => ?_) (fun q2 => ?_))
  · rw [if_pos (by omega)] at h
    refine m_isWord hb hT (by decide) hB ht (ite_i (fun q => ?_) (fun q => ?_))
    · rw [if_pos q] at h; exact h
    · rw [if_neg q] at h
      refine m_isWord hb hT (by decide) hB ht (ite_i (fun q => ?_) (fun q => ?_))
      · rw [if_pos q] at h; exact h
      · rw [if_neg q] at h
        refine m_isWord hb hT (by decide) hB ht (ite_i (fun q => ?_) (fun q => ?_))
        · rw [if_pos q] at h; exact h
        · rw [if_neg q] at h
          refine m_isWord hb hT (by decide) hB ht (fun x ex => ?_)
          subst ex
          exact h
  · rw [if_neg (by omega), if_pos (by omega)] at h
    refine m_isWord hb hT (by decide) hB ht (ite_i (fun q => ?_) (fun q => ?_))
    · rw [if_pos q] at h; exact h
    · rw [if_neg q] at h
      refine m_isWord hb hT (by decide) hB ht (ite_i (fun q => ?_) (fun q => ?_))
      · rw [if_pos q] at h; exact h
      · rw [if_neg q] at h
        refine m_isWord hb hT (by decide) hB ht (fun x ex => ?_)
        subst ex
        exact h
  · rw [if_neg (by omega), if_neg (by omega)] at h
    refine m_isWord hb hT (by decide) hB ht (ite_i (fun q => ?_) (fun q => ?_))
    · rw [if_pos q] at h; exact h
    · rw [if_neg q] at h
      refine m_isWord hb hT (by decide) hB ht (ite_i (fun q => ?_) (fun q => ?_))
      · rw [if_pos q] at h; exact h
      · rw [if_neg q] at h
        refine m_isWord hb hT (by decide) hB ht (ite_i (fun q => ?_) (fun q => ?_))
        · rw [if_pos q] at h; exact h
        · rw [if_neg q] at h
          refine m_isWord hb hT (by decide) hB ht (ite_i (fun q => ?_) (fun q => ?_))
          · rw [if_pos q] at h; exact h
          · rw [if_neg q] at h
            refine m_isWord hb hT (by decide) hB ht (ite_i (fun q => ?_) (fun q => ?_))
            · rw [if_pos q] at h; exact h
            · rw [if_neg q] at h
              refine m_isWord hb hT (by decide) hB ht (fun x ex => ?_)
              subst ex
              exact h
def brk (R : Mem → (Mem → Prop) → Prop) (c : Int) (μ : Mem) (k : Mem → Prop) : Prop := f_M_opens μ (fun μ_5 => R μ_5 (fun μ_6 => f_M_wantSign c μ_6 (fun μ_7 => ∀ μ_8 : Mem, μ_8 = sI μ_7 15520 0 ((rI μ_7 15520 0) - 1) → k μ_8)))
theorem m_brk {b : Bts} {n : Nat} {p : Int} {o : Nat} (hb : BtO b n) (ho : o ≤ 4) {c : Int} (hc : 0 ≤ c ∧ c < 128) {R : Mem → (Mem → Prop) → Prop} {P : Tk → PR} (IH : o < 4 → FolM b n p (o + 1) R P) {cc : Bool} {m2 : Nat} (hG : o < 4 → ∀ T : Tk, TkO n T → Gd (P T) (PostR n p cc m2 T)) (ill : ∀ (ν : Mem) (f : Int) (K : Mem → Prop), rI ν 15517 0 = f → 1 ≤ f → K ν → R ν K) :
    FolM b n p o (brk R c) (fun T => if o < 4 then bindR (P (nx b n T)) (pEnd b n c) else .inl (4, T.2.1)) := by
  intro T C ν K hO hC h0
  have h : onR (if o < 4 then bindR (P (nx b n T)) (pEnd b n c) else (.inl (4, T.2.1) : PR)) (FaM ν K) (SuM ν o C K) := h0
  clear h0
  have bad : ∀ (f0 : Int) (ξ : Mem), rI ξ 15517 0 = f0 → 1 ≤ f0 → (∀ ο : Mem, Fr [15520] ξ ο → K ο) → f_M_wantSign c ξ (fun μ_7 => ∀ μ_8 : Mem, μ_8 = sI μ_7 15520 0 ((rI μ_7 15520 0) - 1) → K μ_8) := fun f0 ξ a hf k => by
    refine m_wantSign_f a hf (fun μ8 e8 => k μ8 ?_)
    rw [e8]
    exact fr1 _ _ _ _
  unfold brk f_M_opens
  rw [hO.2.2.2.2.1]
  (try simp (disch := omega) only [w_id])
  refine ite_i (fun q => ?_) (fun q => ?_)
  · rw [if_neg (by omega)] at h
    refine m_fails (by decide) hb.1 hO.2.1 hO.2.2.1 hO.2.2.2.1 (fun ξ f a k => ?_)
    rw [well_f a (by decide), if_neg (by decide)]
    refine ill ξ 4 _ a (by decide) (bad 4 ξ a (by decide) (fun ο fo => ?_))
    exact h ο ((FrS.of f rfl rfl).trans (FrS.of fo rfl rfl)) (by rw [fo.rdI rfl]; exact a) (by rw [fo.rdI rfl]; exact k)
  · have o4 : o < 4 := by omega
    rw [if_pos o4] at h
    rw [well_t hO.2.2.2.1, if_pos rfl]
    intro μ4 e4
    have f4 : Fr [15520] ν μ4 := by rw [e4]; exact fr1 _ _ _ _
    have O4 : OM b n p (o + 1) μ4 T C := hO.op (FrS.of f4 rfl rfl) (by rw [f4.rdI rfl]; exact hO.2.2.2.1) (by rw [e4, rI_eq _ _ _ ⟨by omega, by omega⟩]; omega) hO.2.1 (hO.2.2.1.fr f4 rfl) (hO.2.2.2.2.2.2.fr f4 rfl)
    clear e4
    refine m_nx hb O4.2.1 O4.1 O4.2.2.1 (fun ξ1 f1 t1 => ?_)
    have O1 := O4.nx hb f1 t1
    have tt := hO.2.1.2.2.2.1
    have kk := (nx_ok hb hO.2.1).2
    have f01 : FrS ν ξ1 := (FrS.of f4 rfl rfl).trans (FrS.of f1 rfl rfl)
    refine (IH o4).bind (hG o4 _ O1.2.1) O1 (by omega) f01 h (fun f0 q0 ξ f kf a q hf => ?_) (fun x ξ px O fr g => ?_)
    · refine bad f0 ξ a hf (fun ο fo => kf ο (FrS.of fo rfl rfl) ?_ ?_)
      · rw [fo.rdI rfl]; exact a
      · rw [fo.rdI rfl]; exact q
    · unfold pEnd at g
      refine m_wantSign hb O.2.1 hc O.1 O.2.2.1 O.2.2.2.1 (fun q ξ2 f2 t2 μ8 e8 => ?_) (fun q ξ2 f2 a k μ8 e8 => ?_)
      · rw [if_pos q] at g
        have op2 : rI ξ2 15520 0 = ((o + 1 : Nat) : Int) := by rw [f2.rdI rfl]; exact O.2.2.2.2.1
        rw [op2] at e8
        have f8 : Fr [15520] ξ2 μ8 := by rw [e8]; exact fr1 _ _ _ _
        refine g μ8 ((fr.trans (FrS.of f2 rfl rfl)).trans (FrS.of f8 rfl rfl)) ?_ ?_ (t2.fr f8 rfl) ((O.2.2.2.2.2.2.fr f2 rfl).fr f8 rfl)
        · rw [f8.rdI rfl, f2.rdI rfl]; exact O.2.2.2.1
        · rw [e8, rI_eq _ _ _ ⟨by omega, by omega⟩]; omega
      · rw [if_neg q] at g
        have f8 : Fr [15520] ξ2 μ8 := by rw [e8]; exact fr1 _ _ _ _
        refine g μ8 ((fr.trans (FrS.of f2 rfl rfl)).trans (FrS.of f8 rfl rfl)) ?_ ?_
        · rw [f8.rdI rfl]; exact a
        · rw [f8.rdI rfl]; exact k
def ym (y : Nat) : Nat := if y ≤ 2 then y else y - 1
def MI (dm y : Nat) : Mem → (Mem → Prop) → Prop := if y = 3 then brk (R_P dm 0) 93 else R_P dm (ym y)
theorem m_PO {b : Bts} {n : Nat} {p : Int} (hb : BtO b n) (hp : 0 ≤ p ∧ p ≤ 4) : ∀ (d y o dm : Nat), y ≤ 7 → o ≤ 4 → need y o ≤ d → need y o + 8 ≤ dm → FolM b n p o (MI dm y) (PO b n p d y o)
  | 0, y, o, dm, hy, ho, hn, hm => by unfold need at hn; omega
  | d + 1, y, o, 0, hy, ho, hn, hm => by omega
  | d + 1, y, o, dm + 1, hy, ho, hn, hm => by
    have ih := m_PO hb hp d
    have hg := PO_good hb p d
    unfold need at hn hm ih hg
    have hn3 := hb.1
    intro T C ν K hO hC h
    have h' : onR (pStep b n p (PO b n p d) y o T) (FaM ν K) (SuM ν o C K) := h
    clear h
    match y, hy, hn, hm, h' with
    | 0, _, hn, hm, h =>
      show f_M_cond (R_P dm) ν K
      unfold f_M_cond
      refine FolM.bind (ih 1 o dm (by omega) ho (by omega) (by omega)) (hg 1 o T (by omega) ho (by omega) hO.2.1) hO hC (FrS.refl _) h (fun f0 q0 ξ f kf a q hf => ?_) (fun x ξ px O fr g => ?_)
      · refine ⟨1, ?_⟩
        unfold l_M_cond_4
        rw [well_f a hf, if_neg (by decide)]
        exact kf ξ (FrS.refl _) a q
      · refine ⟨301, ?_⟩
        have px2 := px.2.1
        exact m_cond_l hb (ih 1 o dm (by omega) ho (by omega) (by omega)) (fun T' hT' => hg 1 o T' (by omega) ho (by omega) hT') 300 x.1 x.2 ξ (by omega) O (by omega) fr g
    | 1, _, hn, hm, h =>
      show f_M_both (R_P dm) ν K
      unfold f_M_both
      refine FolM.bind (ih 2 o dm (by omega) ho (by omega) (by omega)) (hg 2 o T (by omega) ho (by omega) hO.2.1) hO hC (FrS.refl _) h (fun f0 q0 ξ f kf a q hf => ?_) (fun x ξ px O fr g => ?_)
      · refine ⟨1, ?_⟩
        unfold l_M_both_4
        rw [well_f a hf, if_neg (by decide)]
        exact kf ξ (FrS.refl _) a q
      · refine ⟨301, ?_⟩
        have px2 := px.2.1
        exact m_both_l hb (ih 2 o dm (by omega) ho (by omega) (by omega)) (fun T' hT' => hg 2 o T' (by omega) ho (by omega) hT') 300 x.1 x.2 ξ (by omega) O (by omega) fr g
    | 2, _, hn, hm, h =>
      show f_M_part (R_P dm) ν K
      unfold f_M_part
      have tt := hO.2.1.2.1
      refine ⟨301, m_not_l (ν0 := ν) hb 300 false T ν (by omega) hO (FrS.refl _) (fun ξ fr O => ?_)⟩
      have k := pNot_ok hb 300 false T hO.2.1
      have h' : onR (bindR (PO b n p d (if isS (pNot b n 300 false T).2 91 = true then 3 else 4) o (pNot b n 300 false T).2) (pTurn (pNot b n 300 false T).1)) (FaM ν K) (SuM ν o C K) := h
      clear h
      generalize pNot b n 300 false T = q at k h' O
      obtain ⟨k1, k2, k3⟩ := k
      rw [well_t O.2.2.2.1, if_pos rfl]
      have go : ∀ y' : Nat, y' = 3 ∨ y' = 4 → onR (bindR (PO b n p d y' o q.2) (pTurn q.1)) (FaM ν K) (SuM ν o C K) → MI dm y' ξ (fun μ_10 => if w (b2i q.1) = w 0 then (K μ_10) else (f_M_emits (-9) μ_10 (fun μ_11 => K μ_11))) := fun y' hy' h => by
        refine FolM.bind (ih y' o dm (by omega) ho (by omega) (by omega)) (hg y' o q.2 (by omega) ho (by omega) k1) O (by omega) fr h (fun f0 q0 ο f kf a kq hf => ?_) (fun x ο px O2 fr2 g => ?_)
        · exact ite_i (fun _ => kf ο (FrS.refl _) a kq) (fun _ => m_emits_f a hf (kf ο (FrS.refl _) a kq))
        · obtain ⟨x1, x2, x3, x4⟩ := px
          have xn := x1.2.1
          unfold pTurn at g
          by_cases c : q.1 = true
          · rw [if_pos c] at g
            rw [c, if_neg (by decide)]
            have : T.2.1 + 1 ≤ q.2.2.1 := by
              rcases k3 with k3 | k3
              · rw [c] at k3; cases k3
              · exact k3
            refine m_emits ⟨by decide, by decide⟩ O2 (by simp only [List.length_append]; omega) (fun ξ4 f4 O4 => ?_)
            rw [List.append_assoc] at O4
            exact g ξ4 (fr2.trans f4) O4.2.2.2.1 O4.2.2.2.2.1 O4.2.2.1 O4.2.2.2.2.2.2
          · rw [if_neg c] at g
            rw [bool_f c, if_pos (by decide)]
            exact g ο fr2 O2.2.2.2.1 O2.2.2.2.2.1 O2.2.2.1 O2.2.2.2.2.2.2
      rw [m_isSign (c := 91) O.2.1 O.2.2.1 (by decide)]
      by_cases c : isS q.2 91 = true
      · rw [if_pos c] at h' ⊢
        exact go 3 (Or.inl rfl) h'
      · rw [if_neg c] at h' ⊢
        exact go 4 (Or.inr rfl) h'
    | 3, _, hn, hm, h =>
      show brk (R_P (dm + 1) 0) 93 ν K
      have I : o < 4 → FolM b n p (o + 1) (R_P (dm + 1) 0) (PO b n p d 0 (o + 1)) := fun o4 => ih 0 (o + 1) (dm + 1) (by omega) (by omega) (by omega) (by omega)
      refine m_brk hb ho (by decide) I (fun o4 T' hT' => hg 0 (o + 1) T' (by omega) (by omega) (by omega) hT') (fun ν f K a hf k => ?_) T C ν K hO hC h
      obtain ⟨d', hd'⟩ : ∃ d' : Nat, dm + 1 = d' + 4 := ⟨dm - 3, by omega⟩
      rw [hd']
      exact ill_P a hf d' 0 K (by omega) k
    | 4, _, hn, hm, h =>
      show f_M_compares (R_P dm) ν K
      unfold f_M_compares
      refine FolM.bind (ih 5 o dm (by omega) ho (by omega) (by omega)) (hg 5 o T (by omega) ho (by omega) hO.2.1) hO hC (FrS.refl _) h (fun f0 q0 ξ f kf a q hf => ?_) (fun x ξ px O fr g => ?_)
      · rw [well_f a hf, if_neg (by decide)]; exact kf ξ (FrS.refl _) a q
      · unfold pCmp2 at g
        have wl := well_t O.2.2.2.1
        rw [wl, if_pos rfl, m_isSign (c := 60) O.2.1 O.2.2.1 (by decide), m_isSign (c := 62) O.2.1 O.2.2.1 (by decide), m_isSign (c := 61) O.2.1 O.2.2.1 (by decide)]
        intro x55 ex
        have ex' : x55 = opCmp x.2 := ex
        clear ex
        obtain ⟨x1, x2, x3, x4⟩ := px
        by_cases c : opCmp x.2 = 0
        · rw [if_pos c] at g
          rw [ex', c, if_pos (show w 0 = 0 from rfl)]
          refine m_fails (f := 1) (by decide) hb.1 O.2.1 O.2.2.1 O.2.2.2.1 (fun ο f a k => ?_)
          rw [well_f a (by decide), if_neg (by decide)]
          exact g ο (fr.trans (FrS.of f rfl rfl)) a k
        · rw [if_neg c] at g
          obtain ⟨o1, o2⟩ := opCmp_T x.2 c
          have hor := o2.rng
          rw [← ex'] at c hor
          (try simp (disch := omega) only [w_id])
          rw [if_neg c, if_pos trivial]
          refine m_nx hb O.2.1 O.1 O.2.2.1 (fun ξ2 f2 t2 => ?_)
          have k := nx_lt hb O.2.1 o1
          have O2 := O.nx hb f2 t2
          have f02 : FrS ν ξ2 := fr.trans (FrS.of f2 rfl rfl)
          refine FolM.bind (ih 5 o dm (by omega) ho (by omega) (by omega)) (hg 5 o _ (by omega) ho (by omega) O2.2.1) O2 (by simp only [List.length_append]; omega) f02 g (fun f0 q0 ξ3 f3 kf a q hf => ?_) (fun z ξ3 pz O3 f3 g3 => ?_)
          · exact m_emits_f a hf (kf ξ3 (FrS.refl _) a q)
          · obtain ⟨z1, z2, z3, z4⟩ := pz
            have zn := z1.2.1
            refine m_emits ⟨by omega, by omega⟩ O3 (by simp only [List.length_append]; omega) (fun ξ4 f4 O4 => ?_)
            rw [ex', List.append_assoc, List.append_assoc, ← List.append_assoc x.1] at O4
            exact g3 ξ4 (f3.trans f4) O4.2.2.2.1 O4.2.2.2.2.1 O4.2.2.1 O4.2.2.2.2.2.2
    | 5, _, hn, hm, h =>
      show f_M_sum (R_P dm) ν K
      unfold f_M_sum
      refine FolM.bind (ih 6 o dm (by omega) ho (by omega) (by omega)) (hg 6 o T (by omega) ho (by omega) hO.2.1) hO hC (FrS.refl _) h (fun f0 q0 ξ f kf a q hf => ?_) (fun x ξ px O fr g => ?_)
      · refine ⟨1, ?_⟩
        unfold l_M_sum_4
        rw [well_f a hf, if_neg (by decide)]
        exact kf ξ (FrS.refl _) a q
      · refine ⟨301, ?_⟩
        have px2 := px.2.1
        exact m_sum_l hb (ih 6 o dm (by omega) ho (by omega) (by omega)) (fun T' hT' => hg 6 o T' (by omega) ho (by omega) hT') 300 x.1 x.2 ξ (by omega) O (by omega) fr g
    | 6, _, hn, hm, h =>
      show f_M_product (R_P dm) ν K
      unfold f_M_product
      refine FolM.bind (ih 7 o dm (by omega) ho (by omega) (by omega)) (hg 7 o T (by omega) ho (by omega) hO.2.1) hO hC (FrS.refl _) h (fun f0 q0 ξ f kf a q hf => ?_) (fun x ξ px O fr g => ?_)
      · refine ⟨1, ?_⟩
        unfold l_M_product_4
        rw [well_f a hf, if_neg (by decide)]
        exact kf ξ (FrS.refl _) a q
      · refine ⟨301, ?_⟩
        have px2 := px.2.1
        exact m_product_l hb (ih 7 o dm (by omega) ho (by omega) (by omega)) (fun T' hT' => hg 7 o T' (by omega) ho (by omega) hT') 300 x.1 x.2 ξ (by omega) O (by omega) fr g
    | 7, _, hn, hm, h =>
      show f_M_factor (R_P dm) ν K
      have h' : onR (if T.1 = 2 then .inr ([T.2.2.2], nx b n T) else if T.1 = 1 then (if nameS b p T = -1 then .inl (3, T.2.1) else .inr ([10000 + nameS b p T], nx b n T))
        else if isS T 40 = true then (if o < 4 then bindR (PO b n p d 5 (o + 1) (nx b n T)) (pEnd b n 41) else .inl (4, T.2.1)) else .inl (1, T.2.1)) (FaM ν K) (SuM ν o C K) := h
      clear h
      obtain ⟨t1, t2, t3, t4, t5, t6, t7, t8⟩ := id hO.2.1
      have kr := ks_r T.1
      have k1 := ks_1 t1
      have k2 := ks_2 t1
      unfold f_M_factor
      rw [well_t hO.2.2.2.1, if_pos rfl, hO.2.2.1.1, m_isSign (c := 40) hO.2.1 hO.2.2.1 (by decide)]
      (try simp (disch := omega) only [w_id])
      refine ite_i (fun c1 => ?_) (fun c1 => ?_)
      · have c1' := k2.mp c1
        rw [if_pos c1'] at h'
        have tl := t6 (by omega)
        rw [hO.2.2.1.2.2.2.1 c1']
        refine m_emits ⟨by omega, by omega⟩ hO (by omega) (fun ξ1 f1 O1 => ?_)
        refine m_nx hb O1.2.1 O1.1 O1.2.2.1 (fun ξ2 f2 t2 => ?_)
        have O2 := O1.nx hb f2 t2
        exact h' ξ2 (f1.trans (FrS.of f2 rfl rfl)) O2.2.2.2.1 O2.2.2.2.2.1 t2 O2.2.2.2.2.2.2
      · have c1' : ¬ T.1 = 2 := fun z => c1 (k2.mpr z)
        rw [if_neg c1'] at h'
        refine ite_i (fun c2 => ?_) (fun c2 => ?_)
        · have c2' := k1.mp c2
          rw [if_pos c2'] at h'
          have tl := t6 (by omega)
          refine m_name hb hO ?_
          have nr := nameS_r b p T
          have nn := npa_le p
          by_cases c3 : nameS b p T = -1
          · rw [if_pos c3] at h'
            rw [c3, if_pos (show w (-1) = -1 from rfl)]
            refine m_fails (f := 3) (by decide) hb.1 hO.2.1 hO.2.2.1 hO.2.2.2.1 (fun ξ f a q => m_emits_f a (by decide) ?_)
            rw [well_f a (by decide), if_neg (by decide)]
            exact h' ξ (FrS.of f rfl rfl) a q
          · rw [if_neg c3] at h'
            have r1 := nr.resolve_left c3
            (try simp (disch := omega) only [w_id])
            rw [if_neg c3]
            refine m_emits ⟨by omega, by omega⟩ hO (by omega) (fun ξ1 f1 O1 => ?_)
            rw [well_t O1.2.2.2.1, if_pos rfl]
            refine m_nx hb O1.2.1 O1.1 O1.2.2.1 (fun ξ2 f2 t2 => ?_)
            have O2 := O1.nx hb f2 t2
            exact h' ξ2 (f1.trans (FrS.of f2 rfl rfl)) O2.2.2.2.1 O2.2.2.2.2.1 t2 O2.2.2.2.2.2.2
        · have c2' : ¬ T.1 = 1 := fun z => c2 (k1.mpr z)
          rw [if_neg c2'] at h'
          refine ite_i (fun c3 => ?_) (fun c3 => ?_)
          · rw [if_pos c3] at h'
            have I : o < 4 → FolM b n p (o + 1) (R_P dm 4) (PO b n p d 5 (o + 1)) := fun o4 => ih 5 (o + 1) dm (by omega) (by omega) (by omega) (by omega)
            refine m_brk hb ho (by decide) I (fun o4 T' hT' => hg 5 (o + 1) T' (by omega) (by omega) (by omega) hT') (fun ν f K a hf k => ?_) T C ν K hO hC h'
            obtain ⟨d', hd'⟩ : ∃ d' : Nat, dm = d' + 4 := ⟨dm - 4, by omega⟩
            rw [hd']
            exact ill_P a hf d' 4 K (by omega) k
          · rw [if_neg c3] at h'
            exact m_fails (by decide) hb.1 hO.2.1 hO.2.2.1 hO.2.2.2.1 (fun ξ f a q => h' ξ (FrS.of f rfl rfl) a q)
