/-! WORTHS ALONG AN ORDER, the model's side -/
theorem m_copies2 {a b n : Nat} (hab : ¬ a = b) (hn : n ≤ 1000) {μ : Mem} {K : Mem → Prop} (h : ∀ ν : Mem, Fr [b] μ ν → (∀ j : Int, 0 ≤ j → j < n → rI ν b j = rI μ a j) → K ν) : f_M_copies a n b n μ K := by
  have loop : ∀ (f i : Nat) (ν : Mem), i + f = n → Fr [b] μ ν → (∀ j : Int, 0 ≤ j → j < i → rI ν b j = rI μ a j) → l_M_copies_2 a n b n K (f + 1) (i : Int) ν := by
    intro f
    induction f with
    | zero =>
      intro i ν e fr hz
      unfold l_M_copies_2
      (try simp (disch := omega) only [w_id])
      rw [if_neg (by omega)]
      exact h ν fr (fun j j0 j1 => hz j j0 (by omega))
    | succ f ih =>
      intro i ν e fr hz
      have hr := rI_rng ν a (i : Int)
      unfold l_M_copies_2
      (try simp (disch := omega) only [w_id])
      rw [if_pos (by omega)]
      refine ⟨by omega, by omega, by omega, by omega, fun μ2 e2 => ?_⟩
      have ea : rI ν a (i : Int) = rI μ a (i : Int) := fr.rdI (by
        unfold lel
        simp [List.elem_eq_mem]
        exact hab)
      have g := ih (i + 1) μ2 (by omega) (by rw [e2]; exact fr.wI (by unfold lel; simp [List.elem_eq_mem])) (fun j j0 j1 => by
        rw [e2, rI_sI]
        by_cases c : j = i
        · rw [if_pos ⟨rfl, c⟩, ea, c, ← ea, w_id hr.1 hr.2]
        · rw [if_neg (fun z => c z.2)]
          exact hz j j0 (by omega))
      exact g
  unfold f_M_copies
  exact ⟨n + 1, loop n 0 μ (by omega) (FrP.refl _ _) (fun j j0 j1 => by omega)⟩
theorem agL_cg {st st' : Int → Int} {l : List Ln} (hw : WfL l) (h : ∀ n : Nat, 1 ≤ n → n ≤ 60 → st (n : Int) = st' (n : Int)) : agL st l = agL st' l := by
  have e : l.any (agT st) = l.any (agT st') := by
    rw [Bool.eq_iff_iff, List.any_eq_true, List.any_eq_true]
    have k : ∀ x ∈ l, agT st x = agT st' x := fun x hx => by
      have := hw.2.1 x hx
      unfold agT
      rw [h x.1.natAbs this.1 this.2.1]
    exact ⟨fun ⟨x, hx, q⟩ => ⟨x, hx, by rw [← k x hx]; exact q⟩, fun ⟨x, hx, q⟩ => ⟨x, hx, by rw [k x hx]; exact q⟩⟩
  unfold agL
  rw [e]
def RksM (σ : Sg) (ν : Mem) : Prop := MS ν = σ ∧ ∀ m : Int, 0 ≤ m → m < 24 → RowK ν m (rowOf σ m) ∧ WfL (rowOf σ m)
theorem RksM.fr {L : List Nat} {σ : Sg} {ν ξ : Mem} (h : RksM σ ν) (f : Fr L ν ξ) (hL : quietL L = true) (hR : (lel L 125 || lel L 126 || lel L 127 || lel L 128) = false) : RksM σ ξ :=
  ⟨(f.qt hL).2.2.1.trans h.1, fun m m0 m1 => ⟨RowAt.fr (h.2 m m0 m1).1 f hR, (h.2 m m0 m1).2⟩⟩
theorem m_wo138 {σ : Sg} {ν : Mem} (hk : RksM σ ν) (hM : 0 ≤ σ 15472 0 ∧ σ 15472 0 ≤ 24) {x : Int} (hx : x.natAbs ≤ 60) {a v4 v5 v2 v6 : Int} {X : Int → Mem → Prop} {Q : Nat → Prop} (h : ∀ v : Nat, v < 2 ^ 24 → (∀ o : Nat, (o : Int) < σ 15472 0 → (v.testBit o = true ↔ Q o ∨ hasN (rowOf σ (o : Int)) (-x))) → X (v : Int) ν) :
    ∀ (f i v : Nat), (i : Int) + f = σ 15472 0 → v < 2 ^ 24 → (∀ o : Nat, (o : Int) < σ 15472 0 → (v.testBit o = true ↔ Q o ∨ (o < i ∧ hasN (rowOf σ (o : Int)) (-x)))) → l_M_worthOf_138 a v4 v5 v2 v6 x X (f + 1) (v : Int) (i : Int) ν
  | 0, i, v, e, hv, hq => by
    unfold l_M_worthOf_138
    rw [mr (q := 15472) rfl, hk.1]
    (try simp (disch := omega) only [w_id])
    rw [if_neg (by omega)]
    refine h v hv (fun o ho => ?_)
    rw [hq o ho]
    exact ⟨fun z => z.imp id (fun y => y.2), fun z => z.imp id (fun y => ⟨by omega, y⟩)⟩
  | f + 1, i, v, e, hv, hq => by
    have rk := hk.2 (i : Int) (by omega) (by omega)
    unfold l_M_worthOf_138
    rw [mr (q := 15472) rfl, hk.1]
    (try simp (disch := omega) only [w_id])
    rw [if_pos (by omega)]
    refine m_isContrary ⟨by omega, by omega⟩ hx rk.1 rk.2 (fun z => ?_) (fun z => ?_)
    · rw [if_pos rfl]
      intro v3 e3
      have k := ior_bit2 (v := v) (i := i) (n := 24) hv (by omega) (by decide)
      rw [k.1] at e3
      rw [e3]
      have g := m_wo138 hk hM hx (a := a) (v4 := v4) (v5 := v5) (v2 := v2) (v6 := v6) h f (i + 1) (v ||| 2 ^ i) (by omega) k.2 (fun o ho => by
        rw [ior_bit, Bool.or_eq_true, hq o ho, decide_eq_true_eq]
        constructor
        · rintro ((y | y) | y)
          · exact Or.inl y
          · exact Or.inr ⟨by omega, y.2⟩
          · rw [← y]; exact Or.inr ⟨by omega, z⟩
        · rintro (y | y)
          · exact Or.inl (Or.inl y)
          · by_cases c : i = o
            · exact Or.inr c
            · exact Or.inl (Or.inr ⟨by omega, y.2⟩))
      exact g
    · rw [if_neg (by decide)]
      have g := m_wo138 hk hM hx (a := a) (v4 := v4) (v5 := v5) (v2 := v2) (v6 := v6) h f (i + 1) v (by omega) hv (fun o ho => by
        rw [hq o ho]
        refine ⟨fun y => y.imp id (fun y => ⟨by omega, y.2⟩), fun y => y.imp id (fun y => ⟨?_, y.2⟩)⟩
        by_cases c : o = i
        · rw [c] at y; exact absurd y.2 z
        · omega)
      exact g
def StT (ν : Mem) (st : Int → Int) : Prop := ∀ n : Nat, 1 ≤ n → n ≤ 60 → rI ν 169 (n : Int) = st (n : Int) ∧ -1 ≤ st (n : Int) ∧ st (n : Int) ≤ 1
theorem m_wo88 {σ : Sg} (hM : 0 ≤ σ 15472 0 ∧ σ 15472 0 ≤ 24) {m : Int} (hm : 0 ≤ m ∧ m < 24) {st : Int → Int} {ν0 : Mem} (hk0 : RksM σ ν0) {a v4 v2 : Int} {X : Int → Mem → Prop} {Q : Nat → Prop}
    (h : ∀ (v : Nat) (ξ : Mem), Fr [169] ν0 ξ → v < 2 ^ 24 → (∀ o : Nat, (o : Int) < σ 15472 0 → (v.testBit o = true ↔ Q o ∨ ctr (rowOf σ m) (rowOf σ (o : Int)))) → StT ξ (stP (rowOf σ m) st) → X (v : Int) ξ) :
    ∀ (f j v : Nat) (ν : Mem), j + f = (rowOf σ m).length → Fr [169] ν0 ν → v < 2 ^ 24 → (∀ o : Nat, (o : Int) < σ 15472 0 → (v.testBit o = true ↔ Q o ∨ ∃ y ∈ (rowOf σ m).take j, hasN (rowOf σ (o : Int)) (-y.1))) → StT ν (stP ((rowOf σ m).take j) st) → l_M_worthOf_88 a v4 m v2 X (f + 1) (v : Int) (j : Int) ν
  | 0, j, v, ν, e, fr, hv, hq, hs => by
    have hk := hk0.fr fr rfl rfl
    have rk := hk.2 m hm.1 hm.2
    have h12 := rk.2.1
    unfold l_M_worthOf_88
    (try simp (disch := omega) only [w_id])
    rw [rk.1.1]
    (try simp (disch := omega) only [w_id])
    rw [if_neg (by omega)]
    rw [List.take_of_length_le (by omega)] at hs
    refine ⟨by omega, by omega, h v ν fr hv (fun o ho => ?_) hs⟩
    rw [hq o ho, List.take_of_length_le (by omega)]
    refine ⟨fun z => z.imp id (fun ⟨x, hx, y, hy, ey⟩ => ⟨x, hx, y, hy, by omega⟩), fun z => z.imp id (fun ⟨x, hx, y, hy, ey⟩ => ⟨x, hx, y, hy, by omega⟩)⟩
  | f + 1, j, v, ν, e, fr, hv, hq, hs => by
    have hk := hk0.fr fr rfl rfl
    have rk := hk.2 m hm.1 hm.2
    have h12 := rk.2.1
    have hj : j < (rowOf σ m).length := by omega
    have wj := rk.2.at hj
    have lj := (rk.1.2 j hj).1
    unfold l_M_worthOf_88
    (try simp (disch := omega) only [w_id])
    rw [rk.1.1]
    (try simp (disch := omega) only [w_id])
    rw [if_pos (by omega), lj]
    refine ⟨by omega, by omega, by omega, by omega, fun v7 e7 x134 e134 => ?_⟩
    have sp := fun (n : Int) (hn : 1 ≤ n) => stP_s rk.2 hj (st := st) (n := n) hn
    rw [← e7] at wj sp
    rw [size_e wj.2.1]
    (try simp (disch := omega) only [w_id] at e134 ⊢)
    refine ⟨by omega, by omega, fun μ5 e5 => ?_⟩
    have f5 : Fr [169] ν μ5 := by rw [e5]; exact fr1 _ _ _ _
    have hk5 := hk.fr f5 rfl rfl
    have s5 : StT μ5 (stP ((rowOf σ m).take (j + 1)) st) := fun n n1 n2 => by
      obtain ⟨t1, t2, t3⟩ := hs n n1 n2
      rw [sp (n : Int) (by omega), e5, rI_sI]
      by_cases c : (n : Int) = (v7.natAbs : Int)
      · rw [if_pos ⟨rfl, c⟩, if_pos c, e134]
        by_cases d : 0 < v7
        · rw [if_pos d]; exact ⟨rfl, by decide, by decide⟩
        · rw [if_neg d]; exact ⟨rfl, by decide, by decide⟩
      · rw [if_neg (fun z => c z.2), if_neg c]
        exact ⟨t1, t2, t3⟩
    refine ⟨(σ 15472 0).toNat + 1, m_wo138 hk5 hM wj.2.1 (fun v' hv' hq' => ?_) (σ 15472 0).toNat 0 v (by omega) hv (fun o ho => by rw [hq o ho]; exact ⟨fun z => Or.inl z, fun z => z.elim id (fun y => by omega)⟩)⟩
    have g := m_wo88 hM hm hk0 (a := a) (v4 := v4) (v2 := v2) h f (j + 1) v' μ5 (by omega) (fr.trans f5) hv' (fun o ho => by
      rw [hq' o ho, take_s hj]
      constructor
      · rintro ((y | ⟨x, hx, y⟩) | y)
        · exact Or.inl y
        · exact Or.inr ⟨x, List.mem_append.mpr (Or.inl hx), y⟩
        · exact Or.inr ⟨_, List.mem_append.mpr (Or.inr (List.mem_singleton.mpr rfl)), by rw [← e7]; exact y⟩
      · rintro (y | ⟨x, hx, y⟩)
        · exact Or.inl (Or.inl y)
        · rcases List.mem_append.mp hx with hx | hx
          · exact Or.inl (Or.inr ⟨x, hx, y⟩)
          · rw [List.mem_singleton.mp hx, ← e7] at y
            exact Or.inr y) s5
    exact g
def woL : List Nat := [169] ++ fcL ++ mpL
def SeM (ν : Mem) (C : List Int) : Prop := rI ν 15545 0 = (C.length : Int) ∧ ∀ i : Nat, i < C.length → rI ν 163 (i : Int) = gI C i
theorem m_wo19 {σ : Sg} (hQ : QS σ) (hR : RwW σ) (hWb : WoB σ) {a : Int} (ha : 0 ≤ a ∧ a < 12) {ν0 : Mem} (hk0 : RksM σ ν0) {C : List Int} (h6 : C.length ≤ 6) (hC : ∀ x ∈ C, 0 ≤ x ∧ x < σ 15472 0) (hS0 : SeM ν0 C) {od : List Nat} (hO : OdW C.length od) (hOc : OdC ν0 167 od) {X : Int → Mem → Prop} :
    ∀ (f i v : Nat) (s : Int) (st : Int → Int) (P : List Int) (ν : Mem), i + f = C.length → Fr woL ν0 ν → StT ν st → v < 2 ^ 24 → (∀ o : Nat, (o : Int) < σ 15472 0 → (v.testBit o = true ↔ ∃ p ∈ P, ctr (rowOf σ p) (rowOf σ (o : Int)))) → (-(9 * (i : Int)) ≤ s ∧ s ≤ 9 * (i : Int)) → (∀ ξ : Mem, Fr woL ν0 ξ → X (wal σ a (remO C od f i) st P s) ξ) → l_M_worthOf_19 a X (f + 1) s (v : Int) (i : Int) ν
  | 0, i, v, s, st, P, ν, e, fr, hs, hv, hb, hr, h => by
    have hS : SeM ν C := ⟨by rw [fr.rdI rfl]; exact hS0.1, fun j hj => by rw [fr.rdI rfl]; exact hS0.2 j hj⟩
    unfold l_M_worthOf_19
    rw [hS.1]
    (try simp (disch := omega) only [w_id])
    rw [if_neg (by omega)]
    exact h ν fr
  | f + 1, i, v, s, st, P, ν, e, fr, hs, hv, hb, hr, h => by
    have hct := hR.1
    have hS : SeM ν C := ⟨by rw [fr.rdI rfl]; exact hS0.1, fun j hj => by rw [fr.rdI rfl]; exact hS0.2 j hj⟩
    have hk := hk0.fr fr rfl rfl
    have hi : i < C.length := by omega
    have ho : od.getD i 0 < C.length := hO.at hi
    have eo : rI ν 167 (i : Int) = ((od.getD i 0 : Nat) : Int) := by rw [fr.rdI rfl]; exact hOc i (by rw [hO.1]; exact hi)
    have er : remO C od (f + 1) i = gI C (od.getD i 0) :: remO C od f (i + 1) := rfl
    rw [er] at h
    generalize od.getD i 0 = o at *
    have hg := hS.2 o ho
    have mem := gI_mem ho
    generalize gI C o = m at *
    have mr' := hC m mem
    have wl := (hk.2 m mr'.1 (by omega)).2
    have wb : -9 ≤ woO σ a m ∧ woO σ a m ≤ 9 := hWb (a * 24 + m) (by omega) (by omega)
    have hbo := hb m.toNat (by omega)
    rw [show ((m.toNat : Nat) : Int) = m by omega] at hbo
    unfold wal at h
    unfold l_M_worthOf_19
    rw [hS.1]
    (try simp (disch := omega) only [w_id])
    rw [if_pos (by omega), eo]
    (try simp (disch := omega) only [w_id])
    refine ⟨by omega, by omega, by omega, by omega, fun v5 e5 => ?_⟩
    rw [hg] at e5
    subst e5
    rw [sbit_e (v := (v : Int)) (i := v5) (by omega) (by omega), show ((v : Int).toNat) = v by omega]
    have skip : (∀ ξ : Mem, Fr woL ν0 ξ → X (wal σ a (remO C od f (i + 1)) st P s) ξ) → ∀ ξ : Mem, Fr (fcL ++ mpL) ν ξ → l_M_worthOf_19 a X (f + 1) s (v : Int) ((i : Int) + 1) ξ := fun z ξ fx => by
      have g := m_wo19 hQ hR hWb ha hk0 h6 hC hS0 hO hOc (X := X) f (i + 1) v s st P ξ (by omega) (fr.trans (Fr.mono fx rfl)) (fun n n1 n2 => by rw [fx.rdI rfl]; exact hs n n1 n2) hv hb (by omega) z
      exact g
    by_cases cb : v.testBit v5.toNat = true
    · rw [if_pos cb]
      (try simp (disch := omega) only [w_id])
      rw [if_pos trivial]
      have h' : ∀ ξ : Mem, Fr woL ν0 ξ → X (wal σ a (remO C od f (i + 1)) st P s) ξ := fun ξ fx => by
        have := h ξ fx
        rw [pick_t (hbo.mp cb)] at this
        exact this
      exact skip h' ν (FrP.refl _ _)
    · rw [if_neg cb]
      (try simp (disch := omega) only [w_id])
      rw [if_neg (by decide)]
      have h' : ∀ ξ : Mem, Fr woL ν0 ξ → X (pick (pcO σ st v5 (σ 15465 0) 0 (-1) false = true) (wal σ a (remO C od f (i + 1)) (stP (rowOf σ v5) st) (P ++ [v5]) (s + woO σ a v5)) (wal σ a (remO C od f (i + 1)) st P s)) ξ := fun ξ fx => by
        have := h ξ fx
        rw [pick_f (fun z => cb (hbo.mpr z))] at this
        exact this
      refine m_wouldPass (by unfold QM; rw [hk.1]; exact hQ) (by rw [hk.1]; exact hR) (by rw [hk.1]; exact Or.inl ⟨mr'.1, mr'.2⟩) ⟨by decide, by decide⟩ ⟨by decide, by decide⟩ rfl (fun n n1 n2 => by have := hs n n1 n2; rw [this.1]; exact this.2) (fun ξ2 f2 => ?_)
      rw [hk.1]
      have ep : pcO σ (fun k => rI ν 169 k) v5 (σ 15465 0) 0 (-1) false = pcO σ st v5 (σ 15465 0) 0 (-1) false := by
        rw [psG_e σ _ (by omega), psG_e σ _ (by omega), agL_cg wl (fun n n1 n2 => (hs n n1 n2).1)]
      rw [ep]
      refine ite_i (fun q => ?_) (fun q => ?_)
      · rw [q, pick_t rfl] at h'
        (try simp (disch := omega) only [w_id])
        have f02 : Fr woL ν0 ξ2 := fr.trans (Fr.mono f2 rfl)
        have hk2 := hk.fr f2 rfl rfl
        have ew : rI ξ2 166 (24 * a + v5) = woO σ a v5 := by
          rw [mr rfl, hk2.1, show 24 * a + v5 = a * 24 + v5 by omega]
          rfl
        refine ⟨by omega, by omega, fun v2 e2 => ?_⟩
        rw [ew] at e2
        refine ⟨(rowOf σ v5).length + 1, m_wo88 ⟨hct.1, hct.2.1⟩ ⟨mr'.1, by omega⟩ hk2 (fun v' ξ3 f3 hv' hq' hs' => ?_) (rowOf σ v5).length 0 v ξ2 (by omega) (FrP.refl _ _) hv (fun o2 ho2 => by rw [hb o2 ho2]; exact ⟨fun z => Or.inl z, fun z => z.elim id (fun ⟨x, hx, _⟩ => absurd hx (by simp))⟩) (fun n n1 n2 => by
          obtain ⟨t1, t2⟩ := hs n n1 n2
          rw [List.take_zero, stP_0, f2.rdI rfl]
          exact ⟨t1, t2⟩)⟩
        have g := m_wo19 hQ hR hWb ha hk0 h6 hC hS0 hO hOc (X := X) f (i + 1) v' (s + woO σ a v5) (stP (rowOf σ v5) st) (P ++ [v5]) ξ3 (by omega) (f02.trans (Fr.mono f3 rfl)) hs' hv' (fun o2 ho2 => by
          rw [hq' o2 ho2]
          constructor
          · rintro (⟨p, hp, hc⟩ | hc)
            · exact ⟨p, List.mem_append.mpr (Or.inl hp), hc⟩
            · exact ⟨v5, List.mem_append.mpr (Or.inr (List.mem_singleton.mpr rfl)), hc⟩
          · rintro ⟨p, hp, hc⟩
            rcases List.mem_append.mp hp with hp | hp
            · exact Or.inl ⟨p, hp, hc⟩
            · rw [List.mem_singleton.mp hp] at hc
              exact Or.inr hc) (by omega) h'
        rw [e2]
        exact g
      · rw [bool_f q, pick_f (by decide)] at h'
        exact skip h' ξ2 f2
theorem m_worthOf {σ : Sg} (hQ : QS σ) (hR : RwW σ) (hWb : WoB σ) (hst : ∀ n : Nat, 1 ≤ n → n ≤ 60 → -1 ≤ stO σ (n : Int) ∧ stO σ (n : Int) ≤ 1) {a : Int} (ha : 0 ≤ a ∧ a < 12) {ρ : Mem} (hk0 : RksM σ ρ) {C : List Int} (h6 : C.length ≤ 6) (hC : ∀ x ∈ C, 0 ≤ x ∧ x < σ 15472 0) (hS0 : SeM ρ C) {od : List Nat} (hO : OdW C.length od) (hOc : OdC ρ 167 od) {K : Int → Mem → Prop} (h : ∀ ξ : Mem, Fr woL ρ ξ → K (walO σ a C od) ξ) : f_M_worthOf a ρ K := by
  unfold f_M_worthOf
  refine m_copies2 (by decide) (by decide) (fun ν f1 hc => ⟨C.length + 1, ?_⟩)
  have hk := hk0.fr f1 rfl rfl
  have g := m_wo19 hQ hR hWb ha hk h6 hC ⟨by rw [f1.rdI rfl]; exact hS0.1, fun j hj => by rw [f1.rdI rfl]; exact hS0.2 j hj⟩ hO (fun i hi => by rw [f1.rdI rfl]; exact hOc i hi) (X := K) C.length 0 0 0 (stO σ) [] ν (by omega) (FrP.refl _ _) (fun n n1 n2 => by
    rw [hc (n : Int) (by omega) (by omega)]
    refine ⟨?_, hst n n1 n2⟩
    rw [mr rfl, hk0.1]
    rfl) (by decide) (fun o ho => by
      rw [Nat.zero_testBit]
      exact ⟨fun z => (by cases z), fun ⟨p, hp, _⟩ => absurd hp (by simp)⟩) (by decide) (fun ξ fx => h ξ ((Fr.mono f1 rfl).trans fx))
  exact g
