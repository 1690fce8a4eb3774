/-! TOKENS, the model's side; WORDS and SIGNS -/
theorem ub_or (t : Int) : (0 ≤ t ∧ ub t = t) ∨ (t < 0 ∧ ub t = t + 256) := by
  unfold ub
  by_cases c : t < 0
  · rw [if_pos c]; exact Or.inr ⟨c, rfl⟩
  · rw [if_neg c]; exact Or.inl ⟨by omega, rfl⟩
theorem m_byte {b : Bts} {n : Nat} {ν : Mem} (h : BtM b n ν) {p : Nat} (hp : p < n) : -128 ≤ rI ν 150 (p : Int) ∧ rI ν 150 (p : Int) < 128 ∧ ((0 ≤ rI ν 150 (p : Int) ∧ b p = rI ν 150 (p : Int)) ∨ (rI ν 150 (p : Int) < 0 ∧ b p = rI ν 150 (p : Int) + 256)) := by
  have k := h.2 p hp
  refine ⟨k.2.1, k.2.2, ?_⟩
  have u := ub_or (rI ν 150 (p : Int))
  rw [k.1] at u
  exact u
def mxL : List Nat := [15513, 15514, 15515, 15516]
theorem m_skip {b : Bts} {n : Nat} (hb : BtO b n) {K : Mem → Prop} : ∀ (f : Nat) (ν : Mem) (p : Nat), BtM b n ν → p ≤ n → n ≤ p + f → rI ν 15513 0 = (p : Int) → (∀ ξ : Mem, Fr [15513] ν ξ → rI ξ 15513 0 = ((skp b n f p : Nat) : Int) → K ξ) → l_M_next_0 K (f + 1) ν
  | 0, ν, p, hB, hp, hf, hs, h => by
    have hn := hb.1
    unfold l_M_next_0
    rw [hB.1, hs]
    (try simp (disch := omega) only [w_id])
    rw [if_neg (by omega)]
    exact h ν (FrP.refl _ _) hs
  | f + 1, ν, p, hB, hp, hf, hs, h => by
    have hn := hb.1
    unfold l_M_next_0
    rw [hB.1, hs]
    (try simp (disch := omega) only [w_id])
    refine ite_i (fun q => ?_) (fun q => ?_)
    · have q' : p < n := by omega
      obtain ⟨t0, t1, t2⟩ := m_byte hB q'
      have hr := hb.2 p q'
      (try simp (disch := omega) only [w_id])
      have go : (b p = 32 ∨ b p = 10) → ∀ μ3 : Mem, μ3 = sI ν 15513 0 ((p : Int) + 1) → l_M_next_0 K (f + 1) μ3 := fun c μ3 e3 => by
        subst e3
        refine m_skip hb f _ (p + 1) (hB.fr (fr1 _ _ _ _) rfl) (by omega) (by omega) (by rw [rI_eq _ _ _ ⟨by omega, by omega⟩]; omega) (fun ξ fr e => h ξ ((fr1 _ _ _ _).trans fr) ?_)
        rw [e, skp_s, if_pos ⟨q', c⟩]
      refine ⟨by omega, by omega, ite_i (fun c => go (by omega)) (fun c => ⟨by omega, by omega, ite_i (fun c2 => go (by omega)) (fun c2 => h ν (FrP.refl _ _) ?_)⟩)⟩
      rw [hs, skp_s, if_neg (fun z => by rcases z.2 with z | z <;> omega)]
    · refine h ν (FrP.refl _ _) ?_
      rw [hs, skp_s, if_neg (fun z => by have := z.1; omega)]
/-- what see sees: a byte, 0 behind the text -/
theorem m_see {b : Bts} {n : Nat} (hb : BtO b n) {ν : Mem} (hB : BtM b n ν) {p : Nat} (hp : p ≤ n) {K : Int → Mem → Prop} (h : ∀ t : Int, -128 ≤ t → t < 128 → (p < n → (0 ≤ t ∧ b p = t) ∨ (t < 0 ∧ b p = t + 256)) → (¬ p < n → t = 0) → K t ν) : f_M_see (p : Int) ν K := by
  have hn := hb.1
  unfold f_M_see
  rw [hB.1]
  (try simp (disch := omega) only [w_id])
  refine ite_i (fun q => ?_) (fun q => ?_)
  · have k := m_byte hB (show p < n by omega)
    exact ⟨by omega, by omega, h _ k.1 k.2.1 (fun _ => k.2.2) (fun z => absurd (show p < n by omega) z)⟩
  · exact h 0 (by decide) (by decide) (fun z => by omega) (fun _ => rfl)
theorem lt_see {b : Bts} {n p : Nat} {t : Int} (hb : BtO b n) (h0 : -128 ≤ t) (h1 : t < 128) (h2 : p < n → (0 ≤ t ∧ b p = t) ∨ (t < 0 ∧ b p = t + 256)) (h3 : ¬ p < n → t = 0) : (isLt t ↔ (p < n ∧ isLt (b p))) ∧ (isFg t ↔ (p < n ∧ isFg (b p))) := by
  by_cases c : p < n
  · have := h2 c
    unfold isLt isFg
    omega
  · have := h3 c
    unfold isLt isFg
    omega
theorem m_word {b : Bts} {n : Nat} (hb : BtO b n) {K : Mem → Prop} : ∀ (f : Nat) (ν : Mem) (a : Nat), BtM b n ν → a ≤ n → n ≤ a + f → rI ν 15513 0 = (a : Int) → (∀ ξ : Mem, Fr [15513] ν ξ → rI ξ 15513 0 = ((wrd b n f a : Nat) : Int) → K ξ) → l_M_next_109 K (f + 1) ν
  | f, ν, a, hB, ha, hf, ht, h => by
    have hn := hb.1
    unfold l_M_next_109
    rw [ht]
    refine m_see hb hB ha (fun t t0 t1 t2 t3 => ?_)
    have hl := (lt_see hb t0 t1 t2 t3).1
    rw [small_e (by omega) (by omega)]
    simp only [decide_eq_true_eq]
    refine ite_i (fun c => ?_) (fun c => ?_)
    · have c' := hl.mp c
      cases f with
      | zero => omega
      | succ f =>
        intro μ3 e3
        rw [ht] at e3
        subst e3
        refine m_word hb f _ (a + 1) (hB.fr (fr1 _ _ _ _) rfl) (by omega) (by omega) (by rw [rI_eq _ _ _ ⟨by omega, by omega⟩]; omega) (fun ξ fr e => h ξ ((fr1 _ _ _ _).trans fr) ?_)
        rw [e, wrd_s, if_pos c']
    · refine h ν (FrP.refl _ _) ?_
      rw [ht]
      cases f with
      | zero => rfl
      | succ f =>
        rw [wrd_s, if_neg (fun z => c (hl.mpr z))]
theorem m_num {b : Bts} {n : Nat} (hb : BtO b n) {s : Nat} {K : Mem → Prop} : ∀ (f : Nat) (ν : Mem) (a : Nat) (v : Int), BtM b n ν → s ≤ a → a ≤ n → n ≤ a + f → Vb (a - s) v → rI ν 15514 0 = (s : Int) → rI ν 15513 0 = (a : Int) → rI ν 15516 0 = v → (∀ ξ : Mem, Fr [15513, 15516] ν ξ → rI ξ 15513 0 = (((num b n s f a v).1 : Nat) : Int) → rI ξ 15516 0 = (num b n s f a v).2 → K ξ) → l_M_next_159 K (f + 1) ν
  | f, ν, a, v, hB, hs, ha, hf, hv, hpl, ht, hva, h => by
    have hn := hb.1
    unfold l_M_next_159
    rw [ht]
    refine m_see hb hB ha (fun t t0 t1 t2 t3 => ?_)
    have hl := (lt_see hb t0 t1 t2 t3).2
    rw [digit_e (by omega) (by omega)]
    simp only [decide_eq_true_eq]
    refine ite_i (fun c => ?_) (fun c => ?_)
    · have c' := hl.mp c
      cases f with
      | zero => omega
      | succ f =>
        have hv' := Vb_s (b := b) hv hs c'.2
        have step : num b n s (f + 1) a v = num b n s f (a + 1) (nuv b s a v) := by
          show (if a < n ∧ isFg (b a) then num b n s f (a + 1) (nuv b s a v) else (a, v)) = _
          rw [if_pos c']
        rw [step] at h
        rw [ht, hpl]
        (try simp (disch := omega) only [w_id])
        refine ite_i (fun q => ?_) (fun q => ?_)
        · refine m_see hb hB ha (fun u u0 u1 u2 u3 => ?_)
          intro μ3 e3 μ4 e4
          have ub' := u2 c'.1
          have c2 := c'.2
          have ex : 10 * v + u - 48 = nuv b s a v := by
            unfold nuv
            rw [if_pos (by omega)]
            unfold isFg at c2
            omega
          rw [hva, ex] at e3
          subst e3
          rw [rI_ne _ _ _ _ rfl, ht] at e4
          subst e4
          have fr2 : Fr [15513, 15516] ν (sI (sI ν 15516 0 (nuv b s a v)) 15513 0 ((a : Int) + 1)) := ((FrP.refl _ ν).wI (by decide)).wI (by decide)
          refine m_num hb (s := s) f _ (a + 1) (nuv b s a v) (hB.fr fr2 rfl) (by omega) (by omega) (by omega) hv' ?_ ?_ ?_ (fun ξ fr e => h ξ (fr2.trans fr) e)
          · rw [rI_ne _ _ _ _ rfl, rI_ne _ _ _ _ rfl]; exact hpl
          · rw [rI_eq _ _ _ ⟨by omega, by omega⟩]; omega
          · rw [rI_ne _ _ _ _ rfl, rI_eq _ _ _ ⟨by have := hv'.1; omega, by have := hv'.2.2.2.2.2; omega⟩]
        · intro μ4 e4
          subst e4
          have ex : nuv b s a v = v := by
            unfold nuv
            rw [if_neg (by omega)]
          rw [ex] at h hv'
          refine m_num hb (s := s) f _ (a + 1) v (hB.fr (fr1 _ _ _ _) rfl) (by omega) (by omega) (by omega) hv' ?_ ?_ ?_ (fun ξ fr e => h ξ (((fr1 _ _ _ _).mono rfl).trans fr) e)
          · rw [rI_ne _ _ _ _ rfl]; exact hpl
          · rw [rI_eq _ _ _ ⟨by omega, by omega⟩]; omega
          · rw [rI_ne _ _ _ _ rfl]; exact hva
    · have e : num b n s f a v = (a, v) := by
        cases f with
        | zero => rfl
        | succ f =>
          show (if a < n ∧ isFg (b a) then num b n s f (a + 1) (nuv b s a v) else (a, v)) = _
          rw [if_neg (fun z => c (hl.mpr z))]
      rw [e] at h
      exact h ν (FrP.refl _ _) ht hva
theorem m_next {b : Bts} {n : Nat} (hb : BtO b n) {ν : Mem} (hB : BtM b n ν) {p : Nat} (hp : p ≤ n) (ha : rI ν 15513 0 = (p : Int)) {K : Mem → Prop} (h : ∀ ξ : Mem, Fr mxL ν ξ → TkM ξ (tok b n p) → K ξ) : f_M_next ν K := by
  have hn := hb.1
  unfold f_M_next
  refine ⟨301, m_skip hb 300 _ p hB hp (by omega) ha (fun ξ fr es => ?_)⟩
  have f0 : Fr mxL ν ξ := fr.mono rfl
  have hs := skp_rng b n 300 p hp
  have et : tok b n p = tokA b n (skp b n 300 p) := rfl
  rw [et] at h
  generalize skp b n 300 p = s at *
  have hB' := hB.fr f0 rfl
  intro μ5 e5
  rw [es] at e5
  have f5 : Fr mxL ν μ5 := by subst e5; exact f0.wI (by decide)
  have a5 : rI μ5 15513 0 = (s : Int) := by subst e5; rw [rI_ne _ _ _ _ rfl]; exact es
  have p5 : rI μ5 15514 0 = (s : Int) := by subst e5; rw [rI_eq _ _ _ ⟨by omega, by omega⟩]
  have hB5 := hB.fr f5 rfl
  clear e5
  rw [a5, hB5.1]
  (try simp (disch := omega) only [w_id])
  refine ite_i (fun q => ?_) (fun q => ?_)
  · have q' : s < n := by omega
    have c0 : ¬ n ≤ s := by omega
    obtain ⟨t0, t1, t2⟩ := m_byte hB5 q'
    refine ⟨by omega, by omega, fun v1 ev μ6 e6 μ7 e7 => ?_⟩
    (try simp (disch := omega) only [w_id] at ev)
    rw [← ev] at t0 t1 t2
    have lz := lt_see (p := s) hb t0 t1 (fun _ => t2) (fun z => absurd q' z)
    have f7 : Fr mxL ν μ7 := by subst e7; subst e6; exact (f5.wI (by decide)).wI (by decide)
    have a7 : rI μ7 15513 0 = ((s + 1 : Nat) : Int) := by subst e7; subst e6; rw [rI_ne _ _ _ _ rfl, rI_eq _ _ _ ⟨by omega, by omega⟩]; omega
    have p7 : rI μ7 15514 0 = (s : Int) := by subst e7; subst e6; rw [rI_ne _ _ _ _ rfl, rI_ne _ _ _ _ rfl]; exact p5
    have v7 : rI μ7 15516 0 = v1 := by subst e7; rw [rI_eq _ _ _ ⟨by omega, by omega⟩]
    have hB7 := hB.fr f7 rfl
    clear e7 e6
    rw [small_e (by omega) (by omega), digit_e (by omega) (by omega)]
    simp only [decide_eq_true_eq]
    refine ite_i (fun c1 => ?_) (fun c1 => ?_)
    · have c1' := (lz.1.mp c1).2
      refine ⟨301, m_word hb 300 _ (s + 1) hB7 (by omega) (by omega) a7 (fun ξ2 fr2 a2 => fun μ12 e12 => ?_)⟩
      have f12 : Fr mxL ν μ12 := by subst e12; exact (f7.trans (fr2.mono rfl)).wI (by decide)
      refine h _ f12 ?_
      unfold tokA
      rw [if_neg c0, if_pos c1']
      subst e12
      refine ⟨?_, ?_, ?_, fun z => absurd z (by simp), fun z => absurd z (by simp)⟩
      · rw [rI_eq _ _ _ ⟨by decide, by decide⟩]; rfl
      · rw [rI_ne _ _ _ _ rfl, fr2.rdI rfl]; exact p7
      · rw [rI_ne _ _ _ _ rfl]; exact a2
    · have c1' : ¬ isLt (b s) := fun z => c1 (lz.1.mpr ⟨q', z⟩)
      refine ite_i (fun c2 => ?_) (fun c2 => ?_)
      · have c2' := (lz.2.mp c2).2
        intro μ13 e13
        have ev2 : v1 - 48 = b s - 48 := by
          have : b s = v1 := by unfold isFg at c2; omega
          omega
        rw [ev2] at e13
        have vb := Vb_1 c2'
        have hb3 : 0 ≤ b s - 48 ∧ b s - 48 ≤ 9 := by unfold isFg at c2'; omega
        have f13 : Fr mxL ν μ13 := by subst e13; exact f7.wI (by decide)
        have a13 : rI μ13 15513 0 = ((s + 1 : Nat) : Int) := by subst e13; rw [rI_ne _ _ _ _ rfl]; exact a7
        have p13 : rI μ13 15514 0 = (s : Int) := by subst e13; rw [rI_ne _ _ _ _ rfl]; exact p7
        have v13 : rI μ13 15516 0 = b s - 48 := by subst e13; rw [rI_eq _ _ _ ⟨by omega, by omega⟩]
        clear e13
        refine ⟨301, m_num hb 300 _ (s + 1) (b s - 48) (hB.fr f13 rfl) (by omega) (by omega) (by omega) vb p13 a13 v13 (fun ξ2 fr2 a2 v2 => ?_)⟩
        have g := num_rng b n s 300 (s + 1) (b s - 48) (by omega) (by omega) vb
        unfold tokA at h
        rw [if_neg c0, if_neg c1', if_pos c2'] at h
        generalize num b n s 300 (s + 1) (b s - 48) = r at *
        obtain ⟨g1, g2, g3⟩ := g
        have p2 : rI ξ2 15514 0 = (s : Int) := by rw [fr2.rdI rfl]; exact p13
        intro x ex μ21 e21
        rw [a2, p2] at ex
        (try simp (disch := omega) only [w_id] at ex)
        have f21 : Fr mxL ν μ21 := by subst e21; exact (f13.trans (fr2.mono rfl)).wI (by decide)
        have hx : x = ks (if 4 < r.1 - s then 4 else 2) := by
          rw [ex]
          by_cases c4 : 4 < r.1 - s
          · rw [if_pos c4, if_pos (by omega)]; rfl
          · rw [if_neg c4, if_neg (by omega)]; rfl
        have xr : 1 ≤ x ∧ x ≤ 2 := by rw [ex]; split <;> omega
        refine h _ f21 ?_
        subst e21
        refine ⟨?_, ?_, ?_, fun _ => ?_, fun z => ?_⟩
        · rw [rI_eq _ _ _ ⟨by omega, by omega⟩]; exact hx
        · rw [rI_ne _ _ _ _ rfl]; exact p2
        · rw [rI_ne _ _ _ _ rfl]; exact a2
        · rw [rI_ne _ _ _ _ rfl]; exact v2
        · have z' : (if 4 < r.1 - s then 4 else 2) = 3 := z
          split at z' <;> omega
      · have c2' : ¬ isFg (b s) := fun z => c2 (lz.2.mpr ⟨q', z⟩)
        intro μ22 e22
        have f22 : Fr mxL ν μ22 := by subst e22; exact f7.wI (by decide)
        refine h _ f22 ?_
        unfold tokA
        rw [if_neg c0, if_neg c1', if_neg c2']
        subst e22
        refine ⟨?_, ?_, ?_, fun z => absurd z (by simp), fun _ => ?_⟩
        · rw [rI_eq _ _ _ ⟨by decide, by decide⟩]; rfl
        · rw [rI_ne _ _ _ _ rfl]; exact p7
        · rw [rI_ne _ _ _ _ rfl]; exact a7
        · rw [rI_ne _ _ _ _ rfl, v7]
          refine ⟨?_, t0, t1⟩
          show ub v1 = b s
          have := ub_or v1
          omega
  · intro μ23 e23
    have f23 : Fr mxL ν μ23 := by subst e23; exact f5.wI (by decide)
    refine h _ f23 ?_
    unfold tokA
    rw [if_pos (show n ≤ s by omega)]
    subst e23
    refine ⟨?_, ?_, ?_, fun z => absurd z (by simp), fun z => absurd z (by simp)⟩
    · rw [rI_eq _ _ _ ⟨by decide, by decide⟩]; rfl
    · rw [rI_ne _ _ _ _ rfl]; exact p5
    · rw [rI_ne _ _ _ _ rfl]; exact a5
-- words
def isW (b : Bts) (T : Tk) (a : Nat) : Bool := decide (T.1 = 1) && decide (T.2.2.1 - T.2.1 = sLen a) && (List.range (sLen a)).all fun i => decide (b (T.2.1 + i) = sChr a (i : Int))
theorem isW_i {b : Bts} {T : Tk} {a : Nat} : isW b T a = true ↔ T.1 = 1 ∧ T.2.2.1 - T.2.1 = sLen a ∧ ∀ i : Nat, i < sLen a → b (T.2.1 + i) = sChr a (i : Int) := by
  unfold isW
  simp only [Bool.and_eq_true, decide_eq_true_eq, List.all_eq_true, List.mem_range, and_assoc]
theorem bool_f {x : Bool} (h : ¬ x = true) : x = false := by cases x with | false => rfl | true => exact absurd rfl h
theorem sChr_r : ∀ a : Fin 29, sLen a.1 ≤ 8 ∧ ∀ i : Fin 8, 0 ≤ sChr a.1 (i.1 : Int) ∧ sChr a.1 (i.1 : Int) < 128 := by decide +kernel
theorem c_isWord_l {b : Bts} {n : Nat} (hb : BtO b n) {T : Tk} (hT : TkO n T) {a : Nat} (ha : a < 29) (hlen : T.2.2.1 - T.2.1 = sLen a) (hk1 : T.1 = 1) {ν : Mem} (hB : BtC b n ν) (ht : TkC ν T) {K : Bool → Mem → Prop} (h : K (isW b T a) ν) : ∀ f i : Nat, i + f = sLen a → (∀ k : Nat, k < i → b (T.2.1 + k) = sChr a (k : Int)) → l_Tape_isWord_28 a ν (K false ν) K (f + 1) (i : Int)
  | 0, i, e, hk => by
    have hs : sLen a ≤ 8 := (sChr_r ⟨a, ha⟩).1
    have hn := hb.1
    unfold l_Tape_isWord_28
    (try simp (disch := omega) only [w_id])
    rw [if_neg (by omega)]
    rw [isW_i.mpr ⟨hk1, hlen, fun k hk' => hk k (by omega)⟩] at h
    exact h
  | f + 1, i, e, hk => by
    have hs := sChr_r ⟨a, ha⟩
    have hs1 : sLen a ≤ 8 := hs.1
    have hc := hs.2 ⟨i, by omega⟩
    have hc0 : 0 ≤ sChr a (i : Int) := hc.1
    have hc1 : sChr a (i : Int) < 128 := hc.2
    have hn := hb.1
    obtain ⟨o1, o2, o3, o4, o5, o6, o7, o8⟩ := hT
    unfold l_Tape_isWord_28
    (try simp (disch := omega) only [w_id])
    rw [if_pos (by omega)]
    intro v3 e3
    rw [ht.2.1] at e3
    have ev : v3 = ((T.2.1 + i : Nat) : Int) := by omega
    subst ev
    (try simp (disch := omega) only [w_id])
    have eb := hB.2 (T.2.1 + i) (by omega)
    have hbr := hb.2 (T.2.1 + i) (by omega)
    rw [if_neg (by omega), if_pos (by omega), eb]
    (try simp (disch := omega) only [w_id])
    refine ⟨by omega, by omega, by omega, by omega, ite_i (fun c => ?_) (fun c => ?_)⟩
    · exact c_isWord_l hb ⟨o1, o2, o3, o4, o5, o6, o7, o8⟩ ha hlen hk1 hB ht h f (i + 1) (by omega) (fun k hk' => by
        by_cases ek : k = i
        · rw [ek]; exact c
        · exact hk k (by omega))
    · rw [bool_f (fun z => c ((isW_i.mp z).2.2 i (by omega)))] at h
      exact h
theorem c_isWord {b : Bts} {n : Nat} (hb : BtO b n) {T : Tk} (hT : TkO n T) {a : Nat} (ha : a < 29) {ν : Mem} (hB : BtC b n ν) (ht : TkC ν T) {K : Bool → Mem → Prop} (h : K (isW b T a) ν) : f_Tape_isWord a ν K := by
  have hs1 : sLen a ≤ 8 := (sChr_r ⟨a, ha⟩).1
  have hn := hb.1
  obtain ⟨o1, o2, o3, o4, o5, o6, o7, o8⟩ := id hT
  unfold f_Tape_isWord
  rw [ht.1, ht.2.1, ht.2.2.1]
  (try simp (disch := omega) only [w_id])
  have no : ¬ (T.1 = 1 ∧ T.2.2.1 - T.2.1 = sLen a) → K false ν := fun z => by
    rw [bool_f (fun y => z ⟨(isW_i.mp y).1, (isW_i.mp y).2.1⟩)] at h
    exact h
  refine ite_i (fun c1 => ite_i (fun c2 => ?_) (fun c2 => no (fun z => by omega))) (fun c1 => no (fun z => by omega))
  exact ⟨sLen a + 1, c_isWord_l hb hT ha (by omega) (by omega) hB ht h (sLen a) 0 (by omega) (fun k hk => by omega)⟩
theorem m_isWord_l {b : Bts} {n : Nat} (hb : BtO b n) {T : Tk} (hT : TkO n T) {a : Nat} (ha : a < 29) (hlen : T.2.2.1 - T.2.1 = sLen a) (hk1 : T.1 = 1) {ν : Mem} (hB : BtM b n ν) (ht : TkM ν T) {K : Bool → Mem → Prop} (h : K (isW b T a) ν) : ∀ f i : Nat, i + f = sLen a → (∀ k : Nat, k < i → b (T.2.1 + k) = sChr a (k : Int)) → l_M_isWord_28 a ν K (f + 1) (i : Int)
  | 0, i, e, hk => by
    have hs : sLen a ≤ 8 := (sChr_r ⟨a, ha⟩).1
    have hn := hb.1
    unfold l_M_isWord_28
    (try simp (disch := omega) only [w_id])
    rw [if_neg (by omega)]
    rw [isW_i.mpr ⟨hk1, hlen, fun k hk' => hk k (by omega)⟩] at h
    exact h
  | f + 1, i, e, hk => by
    have hs := sChr_r ⟨a, ha⟩
    have hs1 : sLen a ≤ 8 := hs.1
    have hc := hs.2 ⟨i, by omega⟩
    have hc0 : 0 ≤ sChr a (i : Int) := hc.1
    have hc1 : sChr a (i : Int) < 128 := hc.2
    have hn := hb.1
    obtain ⟨o1, o2, o3, o4, o5, o6, o7, o8⟩ := hT
    unfold l_M_isWord_28
    rw [ht.2.1]
    have ev : (T.2.1 : Int) + (i : Int) = ((T.2.1 + i : Nat) : Int) := by omega
    rw [ev]
    (try simp (disch := omega) only [w_id])
    obtain ⟨t0, t1, t2⟩ := m_byte hB (show T.2.1 + i < n by omega)
    (try simp (disch := omega) only [w_id])
    rw [if_pos (by omega)]
    refine ⟨by omega, by omega, by omega, by omega, ite_i (fun c => ?_) (fun c => ?_)⟩
    · exact m_isWord_l hb ⟨o1, o2, o3, o4, o5, o6, o7, o8⟩ ha hlen hk1 hB ht h f (i + 1) (by omega) (fun k hk' => by
        by_cases ek : k = i
        · rw [ek]; omega
        · exact hk k (by omega))
    · have e0 : isW b T a = false := bool_f (fun z => c (by have := (isW_i.mp z).2.2 i (by omega); omega))
      rw [e0] at h
      exact h
theorem ks_1 {k : Nat} (h : k ≤ 4) : ks k = 3 ↔ k = 1 := by
  have : k = 0 ∨ k = 1 ∨ k = 2 ∨ k = 3 ∨ k = 4 := by omega
  rcases this with rfl | rfl | rfl | rfl | rfl <;> decide
theorem ks_2 {k : Nat} (h : k ≤ 4) : ks k = 2 ↔ k = 2 := by
  have : k = 0 ∨ k = 1 ∨ k = 2 ∨ k = 3 ∨ k = 4 := by omega
  rcases this with rfl | rfl | rfl | rfl | rfl <;> decide
theorem ks_3 {k : Nat} (h : k ≤ 4) : ks k = 4 ↔ k = 3 := by
  have : k = 0 ∨ k = 1 ∨ k = 2 ∨ k = 3 ∨ k = 4 := by omega
  rcases this with rfl | rfl | rfl | rfl | rfl <;> decide
theorem ks_0 {k : Nat} (h : k ≤ 4) : ks k = 0 ↔ k = 0 := by
  have : k = 0 ∨ k = 1 ∨ k = 2 ∨ k = 3 ∨ k = 4 := by omega
  rcases this with rfl | rfl | rfl | rfl | rfl <;> decide
theorem ks_r (k : Nat) : 0 ≤ ks k ∧ ks k ≤ 4 := by
  unfold ks
  split <;> (try split) <;> (try split) <;> (try split) <;> omega
theorem m_isWord {b : Bts} {n : Nat} (hb : BtO b n) {T : Tk} (hT : TkO n T) {a : Nat} (ha : a < 29) {ν : Mem} (hB : BtM b n ν) (ht : TkM ν T) {K : Bool → Mem → Prop} (h : K (isW b T a) ν) : f_M_isWord a ν K := by
  have hs1 : sLen a ≤ 8 := (sChr_r ⟨a, ha⟩).1
  have hn := hb.1
  obtain ⟨o1, o2, o3, o4, o5, o6, o7, o8⟩ := id hT
  have k1 := ks_1 o1
  have kr := ks_r T.1
  unfold f_M_isWord
  rw [ht.1, ht.2.1, ht.2.2.1]
  (try simp (disch := omega) only [w_id])
  have no : ¬ (T.1 = 1 ∧ T.2.2.1 - T.2.1 = sLen a) → K false ν := fun z => by
    rw [bool_f (fun y => z ⟨(isW_i.mp y).1, (isW_i.mp y).2.1⟩)] at h
    exact h
  refine ite_i (fun c1 => ite_i (fun c2 => ?_) (fun c2 => no (fun z => by omega))) (fun c1 => no (fun z => c1 (k1.mpr z.1)))
  exact ⟨sLen a + 1, m_isWord_l hb hT ha (by omega) (k1.mp c1) hB ht h (sLen a) 0 (by omega) (fun k hk => by omega)⟩
-- signs, numbers, the end
def isS (T : Tk) (c : Int) : Bool := decide (T.1 = 3 ∧ T.2.2.2 = c)
theorem c_isSign {n : Nat} {T : Tk} (hT : TkO n T) {ν : Mem} (ht : TkC ν T) {c : Int} (hc : 0 ≤ c ∧ c < 128) : v_Tape_isSign c ν = isS T c := by
  obtain ⟨o1, o2, o3, o4, o5, o6, o7, o8⟩ := id hT
  unfold v_Tape_isSign isS
  rw [ht.1, ht.2.2.2]
  (try simp (disch := omega) only [w_id])
  by_cases c1 : T.1 = 3
  · rw [if_pos (by omega)]
    by_cases c2 : T.2.2.2 = c
    · rw [if_pos c2, decide_eq_true ⟨c1, c2⟩]
    · rw [if_neg c2, decide_eq_false (fun z => c2 z.2)]
  · rw [if_neg (by omega), decide_eq_false (fun z => c1 z.1)]
theorem m_isSign {n : Nat} {T : Tk} (hT : TkO n T) {ν : Mem} (ht : TkM ν T) {c : Int} (hc : 0 ≤ c ∧ c < 128) : v_M_isSign c ν = isS T c := by
  obtain ⟨o1, o2, o3, o4, o5, o6, o7, o8⟩ := id hT
  have k3 := ks_3 o1
  have kr := ks_r T.1
  unfold v_M_isSign isS
  rw [ht.1]
  (try simp (disch := omega) only [w_id])
  by_cases c1 : T.1 = 3
  · rw [if_pos (k3.mpr c1)]
    obtain ⟨u1, u2, u3⟩ := ht.2.2.2.2 c1
    have u := ub_or (rI ν 15516 0)
    rw [u1] at u
    (try simp (disch := omega) only [w_id])
    by_cases c2 : T.2.2.2 = c
    · rw [if_pos (by omega), decide_eq_true ⟨c1, c2⟩]
    · rw [if_neg (by omega), decide_eq_false (fun z => c2 z.2)]
  · rw [if_neg (fun z => c1 (k3.mp z)), decide_eq_false (fun z => c1 z.1)]
theorem c_isNum {n : Nat} {T : Tk} (hT : TkO n T) {ν : Mem} (ht : TkC ν T) : v_Tape_isNumber ν = decide (T.1 = 2) := by
  have o1 := hT.1
  unfold v_Tape_isNumber
  rw [ht.1]
  (try simp (disch := omega) only [w_id])
  by_cases c : T.1 = 2
  · rw [if_pos (by omega), decide_eq_true c]
  · rw [if_neg (by omega), decide_eq_false c]
theorem c_isAny {n : Nat} {T : Tk} (hT : TkO n T) {ν : Mem} (ht : TkC ν T) : v_Tape_isAnyWord ν = decide (T.1 = 1) := by
  have o1 := hT.1
  unfold v_Tape_isAnyWord
  rw [ht.1]
  (try simp (disch := omega) only [w_id])
  by_cases c : T.1 = 1
  · rw [if_pos (by omega), decide_eq_true c]
  · rw [if_neg (by omega), decide_eq_false c]
theorem c_isEnd {n : Nat} {T : Tk} (hT : TkO n T) {ν : Mem} (ht : TkC ν T) : v_Tape_isEnd ν = decide (T.1 = 0) := by
  have o1 := hT.1
  unfold v_Tape_isEnd
  rw [ht.1]
  (try simp (disch := omega) only [w_id])
  by_cases c : T.1 = 0
  · rw [if_pos (by omega), decide_eq_true c]
  · rw [if_neg (by omega), decide_eq_false c]
