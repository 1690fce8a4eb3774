/-! A MOTION'S TEXT: the pure reader of LINES, and both sides' -/
abbrev Res (α : Type) : Type := (Int × Nat) ⊕ α
def onR {α : Type} (r : Res α) (P : Int → Nat → Prop) (Q : α → Prop) : Prop := match r with
  | .inl e => P e.1 e.2
  | .inr x => Q x
theorem onR_l {α : Type} {f : Int} {p : Nat} {P : Int → Nat → Prop} {Q : α → Prop} (h : onR (.inl (f, p)) P Q) : P f p := h
theorem onR_r {α : Type} {x : α} {P : Int → Nat → Prop} {Q : α → Prop} (h : onR (.inr x) P Q) : Q x := h
def nx (b : Bts) (n : Nat) (T : Tk) : Tk := tok b n T.2.2.1
def opt (b : Bts) (n : Nat) (T : Tk) (a : Nat) : Tk := if isW b T a = true then nx b n T else T
def sgn (c : Bool) (v : Int) : Int := if c = true then -v else v
def rdEnd (b : Bts) (n : Nat) (x : Int) (m : Bool) (T : Tk) : Res (Ln × Tk) := if isS T 59 = true then .inr ((x, b2i m, -1), nx b n T) else .inl (1, T.2.1)
def okN (l : List Ln) (v : Int) : Prop := 1 ≤ v ∧ v ≤ 60 ∧ fxi v.natAbs l 0 = -1
def rdNum (b : Bts) (n : Nat) (l : List Ln) (c : Bool) (T : Tk) : Res (Ln × Tk) :=
  if ¬ T.1 = 2 then .inl (1, T.2.1)
  else if ¬ (1 ≤ T.2.2.2 ∧ T.2.2.2 ≤ 60 ∧ fxi T.2.2.2.natAbs l 0 = -1) then .inl (2, T.2.1)
  else rdEnd b n (sgn c T.2.2.2) (isW b (nx b n T) 25) (opt b n (nx b n T) 25)
def rdLineB (b : Bts) (n : Nat) (l : List Ln) (T : Tk) : Res (Ln × Tk) := rdNum b n l (isW b (nx b n T) 10) (opt b n (nx b n T) 10)
def rdLine (b : Bts) (n : Nat) (l : List Ln) (T : Tk) : Res (Ln × Tk) :=
  if ¬ isW b T 24 = true then .inl (1, T.2.1) else if ¬ l.length < 12 then .inl (4, T.2.1) else rdLineB b n l T
def rdMo (b : Bts) (n : Nat) : Nat → List Ln → Tk → Res (List Ln)
  | 0, _, _ => .inl (0, 0)
  | f + 1, l, T => if ¬ l.length = 0 ∧ T.1 = 0 then .inr l else match rdLine b n l T with
    | .inl e => .inl e
    | .inr x => rdMo b n f (l ++ [x.1]) x.2
theorem nx_ok {b : Bts} {n : Nat} (hb : BtO b n) {T : Tk} (hT : TkO n T) : TkO n (nx b n T) ∧ T.2.2.1 ≤ (nx b n T).2.1 := tok_ok hb hT.2.2.1
theorem opt_ok {b : Bts} {n : Nat} (hb : BtO b n) {T : Tk} (hT : TkO n T) (a : Nat) : TkO n (opt b n T a) ∧ T.2.1 ≤ (opt b n T a).2.1 := by
  unfold opt
  by_cases c : isW b T a = true
  · rw [if_pos c]
    have := nx_ok hb hT
    have := hT.2.2.2.1
    exact ⟨(nx_ok hb hT).1, by omega⟩
  · rw [if_neg c]
    exact ⟨hT, Nat.le_refl _⟩
theorem fxi_mem {l : List Ln} {k : Nat} : fxi k l 0 = -1 ↔ ∀ x ∈ l, ¬ x.1.natAbs = k := by
  have h := fxi_or k l 0 (by decide)
  constructor
  · intro e
    rcases h with h | h
    · exact h.2
    · omega
  · intro e
    rcases h with h | h
    · exact h.1
    · exfalso
      have hl : (fxi k l 0 - 0).toNat < l.length := by omega
      refine e _ ?_ h.2.2
      rw [List.getD_eq_getElem?_getD, List.getElem?_eq_getElem hl]
      exact List.getElem_mem hl
-- the class
def ftL : List Nat := [2286, 2287]
theorem c_fail {f : Int} (hf : 0 ≤ f ∧ f ≤ 10) {n : Nat} (hn : n ≤ 300) {T : Tk} (hT : TkO n T) {ν : Mem} (ht : TkC ν T) {K : Bool → Mem → Prop} (h : ∀ ξ : Mem, Fr ftL ν ξ → rI ξ 2286 0 = f → rI ξ 2287 0 = (T.2.1 : Int) → K false ξ) : f_Tape_fail f ν K := by
  obtain ⟨o1, o2, o3, o4, o5, o6, o7, o8⟩ := id hT
  unfold f_Tape_fail
  intro μ1 e1 μ2 e2
  have es : rI μ1 2283 0 = (T.2.1 : Int) := by rw [e1, rI_ne _ _ _ _ rfl]; exact ht.2.1
  rw [es] at e2
  subst e2
  subst e1
  refine h _ (((FrP.refl _ ν).wI (by decide)).wI (by decide)) ?_ ?_
  · rw [rI_ne _ _ _ _ rfl, rI_eq _ _ _ ⟨by omega, by omega⟩]
  · rw [rI_eq _ _ _ ⟨by omega, by omega⟩]
theorem c_nx {b : Bts} {n : Nat} (hb : BtO b n) {T : Tk} (hT : TkO n T) {ν : Mem} (hB : BtC b n ν) (ht : TkC ν T) {K : Mem → Prop} (h : ∀ ξ : Mem, Fr txL ν ξ → TkC ξ (nx b n T) → K ξ) : f_Tape_next ν K := c_next hb hB hT.2.2.1 ht.2.2.1 h
theorem c_takeWord {b : Bts} {n : Nat} (hb : BtO b n) {T : Tk} (hT : TkO n T) {a : Nat} (ha : a < 29) {ν : Mem} (hB : BtC b n ν) (ht : TkC ν T) {K : Bool → Mem → Prop} (h : ∀ ξ : Mem, Fr txL ν ξ → TkC ξ (opt b n T a) → K (isW b T a) ξ) : f_LineR_takeWord a ν K := by
  unfold f_LineR_takeWord
  refine c_isWord hb hT ha hB ht ?_
  unfold opt at h
  refine ite_i (fun c => ?_) (fun c => ?_)
  · rw [if_pos c] at h
    exact c_nx hb hT hB ht h
  · rw [if_neg c] at h
    exact h ν (FrP.refl _ _) ht
theorem btl_and1 {x : Int64} {v : Int} (h0 : 0 ≤ v) (h1 : v < 64) : ((w_lushr x v) &&& 1 = 0) ↔ btl x v.toNat = false := by
  have e := lbit_l x (n := v.toNat) (by omega)
  rw [show ((v.toNat : Nat) : Int) = v by omega] at e
  rw [e]
  cases btl x v.toNat with
  | true => exact ⟨fun z => absurd z (by decide), fun z => by cases z⟩
  | false => exact ⟨fun _ => rfl, fun _ => rfl⟩
theorem c_takeN {b : Bts} {n : Nat} (hb : BtO b n) {T : Tk} (hT : TkO n T) {most : Int} (hm : 1 ≤ most ∧ most ≤ 999) {bar : Int64} {ν : Mem} (hB : BtC b n ν) (ht : TkC ν T) {K : Int → Mem → Prop}
    (h1 : ¬ T.1 = 2 → ∀ ξ : Mem, Fr ftL ν ξ → rI ξ 2286 0 = 1 → rI ξ 2287 0 = (T.2.1 : Int) → K 0 ξ)
    (h2 : T.1 = 2 → ¬ (1 ≤ T.2.2.2 ∧ T.2.2.2 ≤ most ∧ (T.2.2.2 ≤ 60 → btl bar T.2.2.2.toNat = false)) → ∀ ξ : Mem, Fr ftL ν ξ → rI ξ 2286 0 = 2 → rI ξ 2287 0 = (T.2.1 : Int) → K 0 ξ)
    (h3 : T.1 = 2 → (1 ≤ T.2.2.2 ∧ T.2.2.2 ≤ most ∧ (T.2.2.2 ≤ 60 → btl bar T.2.2.2.toNat = false)) → ∀ ξ : Mem, Fr txL ν ξ → TkC ξ (nx b n T) → K T.2.2.2 ξ) : f_Tape_takeN most bar ν K := by
  obtain ⟨o1, o2, o3, o4, o5, o6, o7, o8⟩ := id hT
  unfold f_Tape_takeN
  rw [ht.1, ht.2.2.2]
  generalize hv : T.2.2.2 = v at *
  (try simp (disch := omega) only [w_id])
  have bad : T.1 = 2 → ¬ (1 ≤ v ∧ v ≤ most ∧ (v ≤ 60 → btl bar v.toNat = false)) → f_Tape_fail 2 ν (fun _ μ => K 0 μ) := fun q z => c_fail (by decide) hb.1 hT ht (h2 q z)
  have good : T.1 = 2 → (1 ≤ v ∧ v ≤ most ∧ (v ≤ 60 → btl bar v.toNat = false)) → ∀ x : Int, x = v → f_Tape_next ν (fun μ => K x μ) := fun q z x ex => by
    subst ex
    exact c_nx hb hT hB ht (h3 q z)
  refine ite_i (fun q => ?_) (fun q => c_fail (by decide) hb.1 hT ht (h1 (by omega)))
  have q' : T.1 = 2 := by omega
  refine ite_i (fun c1 => bad q' (fun z => by omega)) (fun c1 => ite_i (fun c2 => bad q' (fun z => by omega)) (fun c2 => ite_i (fun c3 => good q' ⟨by omega, by omega, fun z => by omega⟩) (fun c3 => ite_i (fun c4 => ?_) (fun c4 => ?_))))
  · exact good q' ⟨by omega, by omega, fun _ => (btl_and1 (by omega) (by omega)).mp c4⟩
  · exact bad q' (fun z => c4 ((btl_and1 (by omega) (by omega)).mpr (z.2.2 (by omega))))
def LrC (ν : Mem) (l : List Ln) : Prop := rI ν 9195 0 = (l.length : Int) ∧ ∀ i : Nat, i < l.length → rI ν 65 (i : Int) = (l.getD i dL).1 ∧ rI ν 66 (i : Int) = (l.getD i dL).2.1
def lrL : List Nat := [9195, 65, 66]
theorem LrC.fr {L : List Nat} {l : List Ln} {ν ξ : Mem} (h : LrC ν l) (f : Fr L ν ξ) (hL : (lel L 9195 || lel L 65 || lel L 66) = false) : LrC ξ l := by
  simp only [Bool.or_eq_false_iff] at hL
  exact ⟨by rw [f.rdI hL.1.1]; exact h.1, fun j hj => by rw [f.rdI hL.1.2, f.rdI hL.2]; exact h.2 j hj⟩
theorem getD_app {l : List Ln} {x : Ln} {i : Nat} : (l ++ [x]).getD i dL = if i < l.length then l.getD i dL else if i = l.length then x else dL := by
  by_cases c : i < l.length
  · rw [if_pos c, List.getD_eq_getElem?_getD, List.getD_eq_getElem?_getD, List.getElem?_append_left c]
  · rw [if_neg c, List.getD_eq_getElem?_getD, List.getElem?_append_right (by omega)]
    by_cases c2 : i = l.length
    · rw [if_pos c2, c2, Nat.sub_self]; rfl
    · rw [if_neg c2, List.getElem?_eq_none (by simp only [List.length_cons, List.length_nil]; omega)]; rfl
theorem c_keep {x u b : Int} (hx : Rg x) (hu : Rg u) {ν : Mem} {l : List Ln} (hl : LrC ν l) (h12 : l.length < 12) {K : Mem → Prop} (h : ∀ ξ : Mem, Fr lrL ν ξ → LrC ξ (l ++ [(x, u, b)]) → K ξ) : f_LineR_keep x u ν K := by
  unfold f_LineR_keep
  rw [hl.1]
  (try simp (disch := omega) only [w_id])
  rw [if_pos (by omega)]
  intro μ1 e1 μ2 e2 μ3 e3
  rw [set_in (by omega) (by omega) (by decide)] at e1
  have s1 : rI μ1 9195 0 = (l.length : Int) := by rw [e1, rI_ne _ _ _ _ rfl]; exact hl.1
  rw [s1, set_in (by omega) (by omega) (by decide)] at e2
  have s2 : rI μ2 9195 0 = (l.length : Int) := by rw [e2, rI_ne _ _ _ _ rfl]; exact s1
  rw [s2] at e3
  subst e3
  subst e2
  subst e1
  refine h _ ((((FrP.refl _ ν).wI (by decide)).wI (by decide)).wI (by decide)) ⟨?_, fun i hi => ?_⟩
  · rw [rI_eq _ _ _ ⟨by omega, by omega⟩, List.length_append]
    simp
  · simp only [List.length_append, List.length_cons, List.length_nil] at hi
    rw [getD_app]
    by_cases c : i < l.length
    · rw [if_pos c, rI_ne _ _ _ _ rfl, rI_ne _ _ _ _ rfl, rI_sI, if_neg (fun z => by omega), rI_ne _ _ _ _ rfl, rI_sI, if_neg (fun z => by omega), rI_ne _ _ _ _ rfl]
      exact hl.2 i c
    · have ei : i = l.length := by omega
      rw [if_neg c, if_pos ei, ei, rI_ne _ _ _ _ rfl, rI_ne _ _ _ _ rfl, rI_eq _ _ _ hx, rI_ne _ _ _ _ rfl, rI_eq _ _ _ hu]
      exact ⟨rfl, rfl⟩
theorem c_skipSign {b : Bts} {n : Nat} (hb : BtO b n) {T : Tk} (hT : TkO n T) {c : Int} (hc : 0 ≤ c ∧ c < 128) {ν : Mem} (hB : BtC b n ν) (ht : TkC ν T) {K : Bool → Mem → Prop} (h1 : isS T c = true → ∀ ξ : Mem, Fr txL ν ξ → TkC ξ (nx b n T) → K true ξ) (h2 : ¬ isS T c = true → ∀ ξ : Mem, Fr ftL ν ξ → rI ξ 2286 0 = 1 → rI ξ 2287 0 = (T.2.1 : Int) → K false ξ) : f_Tape_skipSign c ν K := by
  unfold f_Tape_skipSign
  rw [c_isSign hT ht hc]
  exact ite_i (fun q => c_nx hb hT hB ht (h1 q)) (fun q => c_fail (by decide) hb.1 hT ht (h2 q))
def rdL : List Nat := txL ++ lrL
def rfL : List Nat := rdL ++ ftL
def PF (L : List Nat) (ν : Mem) (K : Mem → Prop) (f : Int) (p : Nat) : Prop := ∀ ξ : Mem, Fr L ν ξ → rI ξ 2286 0 = f → rI ξ 2287 0 = (p : Int) → K ξ
def SeB (l : List Ln) (x : Int64) : Prop := ∀ k : Nat, k < 64 → (btl x k = true ↔ ∃ y ∈ l, y.1.natAbs = k)
theorem c_readLine {b : Bts} {n : Nat} (hb : BtO b n) {T : Tk} (hT : TkO n T) {ν : Mem} (hB : BtC b n ν) (ht : TkC ν T) {l : List Ln} (hl : LrC ν l) (h12 : l.length < 12) {seen : Int64} (hs : SeB l seen) {K : Int → Mem → Prop}
    (h : onR (rdLineB b n l T) (PF rfL ν (K 0)) (fun x => ∀ ξ : Mem, Fr rdL ν ξ → TkC ξ x.2 → LrC ξ (l ++ [x.1]) → 1 ≤ x.1.1.natAbs ∧ x.1.1.natAbs ≤ 60 → TkO n x.2 → K (x.1.1.natAbs : Int) ξ)) : f_LineR_readLine seen ν K := by
  unfold f_LineR_readLine
  refine c_nx hb hT hB ht (fun ξ1 f1 t1 => ?_)
  have k1 := (nx_ok hb hT).1
  have B1 := hB.fr f1 rfl
  refine c_takeWord hb k1 (by decide) B1 t1 (fun ξ2 f2 t2 => ?_)
  have k2 := (opt_ok hb k1 10).1
  have B2 := B1.fr f2 rfl
  unfold rdLineB at h
  generalize opt b n (nx b n T) 10 = T2 at *
  generalize isW b (nx b n T) 10 = cc at *
  unfold rdNum at h
  have f12 : Fr txL ν ξ2 := f1.trans f2
  refine c_takeN hb k2 (by decide) B2 t2 (fun q ξ3 f3 a3 p3 => ?_) (fun q z ξ3 f3 a3 p3 => ?_) (fun q z ξ3 f3 t3 => ?_)
  · rw [if_pos q] at h
    rw [if_pos (by decide)]
    exact h ξ3 ((f12.mono rfl).trans (f3.mono rfl)) a3 p3
  · rw [if_neg (fun y => y q)] at h
    have zz : ¬ (1 ≤ T2.2.2.2 ∧ T2.2.2.2 ≤ 60 ∧ fxi T2.2.2.2.natAbs l 0 = -1) := fun y => z ⟨y.1, y.2.1, fun _ => bool_f (fun w' => by
      obtain ⟨y', hy, ey⟩ := (hs _ (by omega)).mp w'
      exact fxi_mem.mp y.2.2 y' hy (by omega))⟩
    rw [if_pos zz] at h
    rw [if_pos (by decide)]
    exact h ξ3 ((f12.mono rfl).trans (f3.mono rfl)) a3 p3
  · have zz : 1 ≤ T2.2.2.2 ∧ T2.2.2.2 ≤ 60 ∧ fxi T2.2.2.2.natAbs l 0 = -1 := ⟨z.1, z.2.1, fxi_mem.mpr (fun y hy e => by
      have := z.2.2 z.2.1
      rw [(hs _ (by omega)).mpr ⟨y, hy, by omega⟩] at this
      cases this)⟩
    rw [if_neg (fun y => y q), if_neg (fun y => y zz)] at h
    have k3 := (nx_ok hb k2).1
    have B3 := B2.fr f3 rfl
    generalize T2.2.2.2 = v at *
    obtain ⟨v0, v1, v2⟩ := zz
    (try simp (disch := omega) only [w_id])
    rw [if_neg (by omega)]
    refine c_takeWord hb k3 (by decide) B3 t3 (fun ξ4 f4 t4 => ?_)
    have k4 := (opt_ok hb k3 25).1
    have B4 := B3.fr f4 rfl
    generalize opt b n (nx b n T2) 25 = T4 at *
    generalize isW b (nx b n T2) 25 = mm at *
    have f14 : Fr txL ν ξ4 := (f12.trans f3).trans f4
    intro u eu x ex
    have eu' : u = b2i mm := by rw [eu]; cases mm <;> rfl
    have ex' : x = sgn cc v := ex
    have xr : x.natAbs = v.natAbs := by
      rw [ex']
      unfold sgn
      split <;> omega
    refine c_keep (b := -1) ⟨by omega, by omega⟩ (by rw [eu']; cases mm <;> exact ⟨by decide, by decide⟩) (hl.fr f14 rfl) h12 (fun ξ5 f5 l5 => ?_)
    have t5 := t4.fr f5 rfl
    have B5 := B4.fr f5 rfl
    have f15 : Fr rdL ν ξ5 := (f14.mono rfl).trans (f5.mono rfl)
    unfold rdEnd at h
    refine c_skipSign hb k4 (by decide) B5 t5 (fun q5 ξ6 f6 t6 y ey => ?_) (fun q5 ξ6 f6 a6 p6 y ey => ?_)
    · rw [if_pos q5] at h
      rw [if_pos rfl] at ey
      rw [ey]
      rw [eu', ex'] at l5
      have g := onR_r h ξ6 (f15.trans (f6.mono rfl)) t6 (l5.fr f6 rfl) ⟨by show 1 ≤ (sgn cc v).natAbs; omega, by show (sgn cc v).natAbs ≤ 60; omega⟩ (nx_ok hb k4).1
      have e : (((sgn cc v, b2i mm, (-1 : Int)) : Ln).1.natAbs : Int) = v := by
        show ((sgn cc v).natAbs : Int) = v
        omega
      simp only at g
      rw [show ((sgn cc v).natAbs : Int) = v by omega] at g
      exact g
    · rw [if_neg q5] at h
      rw [if_neg (by decide)] at ey
      rw [ey]
      exact h ξ6 ((f15.mono rfl).trans (f6.mono rfl)) a6 p6
theorem SeB_add {l : List Ln} {x : Int64} (h : SeB l x) {y : Ln} (hy : 1 ≤ y.1.natAbs ∧ y.1.natAbs ≤ 60) : SeB (l ++ [y]) (x ||| (w_lshl 1 (y.1.natAbs : Int))) := by
  intro k hk
  rw [btl_or, btl_shl (by omega) hk, Bool.or_eq_true, h k hk, decide_eq_true_eq]
  constructor
  · rintro (⟨z, hz, e⟩ | e)
    · exact ⟨z, List.mem_append_left _ hz, e⟩
    · exact ⟨y, List.mem_append_right _ (List.mem_cons_self ..), e⟩
  · rintro ⟨z, hz, e⟩
    rcases List.mem_append.mp hz with hz | hz
    · exact Or.inl ⟨z, hz, e⟩
    · rw [List.mem_singleton] at hz
      rw [hz] at e
      exact Or.inr e
theorem rdLine_len {b : Bts} {n : Nat} {l : List Ln} {T : Tk} (h : ¬ l.length < 12) : ∃ e : Int × Nat, rdLine b n l T = .inl e := by
  unfold rdLine
  by_cases c : ¬ isW b T 24 = true
  · rw [if_pos c]; exact ⟨_, rfl⟩
  · rw [if_neg c, if_pos h]; exact ⟨_, rfl⟩
theorem c_readMotion_l {b : Bts} {n : Nat} (hb : BtO b n) {X1 X4 : Mem → Prop} {K : Bool → Mem → Prop} {ν0 : Mem} {G : List Ln → Prop}
    (hX1 : ∀ (T : Tk) (ν : Mem), TkO n T → TkC ν T → Fr rdL ν0 ν → PF rfL ν0 (K false) 1 T.2.1 → X1 ν) (hX4 : ∀ (T : Tk) (ν : Mem), TkO n T → TkC ν T → Fr rdL ν0 ν → PF rfL ν0 (K false) 4 T.2.1 → X4 ν) :
    ∀ (f : Nat) (l : List Ln) (T : Tk) (ν : Mem) (seen : Int64), 12 < f + l.length → l.length ≤ 12 → Fr rdL ν0 ν → BtC b n ν → TkO n T → TkC ν T → LrC ν l → SeB l seen → onR (rdMo b n (f + 1) l T) (PF rfL ν0 (K false)) (fun l' => ∀ ξ : Mem, Fr rdL ν0 ξ → LrC ξ l' → K true ξ) → l_LineR_readMotion_16 X1 X4 K (f + 1) seen (l.length : Int) ν
  | f, l, T, ν, seen, hf, h12, hfr, hB, hT, ht, hl, hs, h => by
    have hrd : onR (match rdLine b n l T with | .inl e => (.inl e : Res (List Ln)) | .inr x => rdMo b n f (l ++ [x.1]) x.2) (PF rfL ν0 (K false)) (fun l' => ∀ ξ : Mem, Fr rdL ν0 ξ → LrC ξ l' → K true ξ) → b_LineR_readMotion_38 (l_LineR_readMotion_16 X1 X4 K f) X1 X4 K seen (l.length : Int) ν := fun h => by
      unfold b_LineR_readMotion_38
      refine c_isWord hb hT (by decide) hB ht ?_
      unfold rdLine at h
      refine ite_i (fun q => ?_) (fun q => ?_)
      · rw [if_neg (fun z => z q)] at h
        (try simp (disch := omega) only [w_id])
        refine ite_i (fun q2 => ?_) (fun q2 => ?_)
        · rw [if_neg (fun z => z (by omega))] at h
          refine c_readLine hb hT hB ht hl (by omega) hs ?_
          cases hr : rdLineB b n l T with
          | inl e =>
            rw [hr] at h
            intro ξ fr a p
            rw [if_pos (by decide)]
            exact h ξ ((hfr.mono rfl).trans fr) a p
          | inr x =>
            rw [hr] at h
            intro ξ fr t6 l6 rr hT6
            obtain ⟨r0, r1⟩ := rr
            (try simp (disch := omega) only [w_id])
            rw [if_neg (by omega)]
            intro s2 es2
            subst es2
            cases f with
            | zero => omega
            | succ f =>
              have := c_readMotion_l hb (G := G) hX1 hX4 f (l ++ [x.1]) x.2 ξ _ (by rw [List.length_append]; simp only [List.length_cons, List.length_nil]; omega) (by rw [List.length_append]; simp only [List.length_cons, List.length_nil]; omega) (hfr.trans fr) (hB.fr fr rfl) hT6 t6 l6 (SeB_add hs ⟨r0, r1⟩) h
              rw [show (((l ++ [x.1]).length : Nat) : Int) = (l.length : Int) + 1 by rw [List.length_append]; simp] at this
              exact this
        · rw [if_pos (by omega)] at h
          exact hX4 T ν hT ht hfr h
      · rw [if_pos q] at h
        exact hX1 T ν hT ht hfr h
    unfold l_LineR_readMotion_16
    (try simp (disch := omega) only [w_id])
    rw [if_neg (by omega), c_isEnd hT ht]
    simp only [decide_eq_true_eq]
    unfold rdMo at h
    refine ite_i (fun q1 => ite_i (fun q2 => ?_) (fun q2 => ?_)) (fun q1 => ?_)
    · rw [if_pos ⟨by omega, q2⟩] at h
      exact h ν hfr hl
    · rw [if_neg (fun z => q2 z.2)] at h
      exact hrd h
    · rw [if_neg (fun z => by omega)] at h
      exact hrd h
def rmo (b : Bts) (n : Nat) : Res (List Ln) := rdMo b n 14 [] (tok b n 0)
def rbL : List Nat := rfL
theorem c_begin {b : Bts} {n : Nat} (hb : BtO b n) {ν : Mem} (hB : BtC b n ν) {K : Mem → Prop} (h : ∀ ξ : Mem, Fr (txL ++ ftL) ν ξ → rI ξ 2286 0 = 0 → rI ξ 2287 0 = -1 → TkC ξ (tok b n 0) → K ξ) : f_Tape_begin ν K := by
  unfold f_Tape_begin
  intro μ1 e1 μ2 e2 μ3 e3
  have f3 : Fr (txL ++ ftL) ν μ3 := by subst e3; subst e2; subst e1; exact (((FrP.refl _ ν).wI (by decide)).wI (by decide)).wI (by decide)
  have a3 : rI μ3 2284 0 = ((0 : Nat) : Int) := by subst e3; exact rI_eq _ _ _ ⟨by decide, by decide⟩
  have z3 : rI μ3 2286 0 = 0 := by subst e3; subst e2; subst e1; rw [rI_ne _ _ _ _ rfl, rI_ne _ _ _ _ rfl, rI_eq _ _ _ ⟨by decide, by decide⟩]
  have p3 : rI μ3 2287 0 = -1 := by subst e3; subst e2; subst e1; rw [rI_ne _ _ _ _ rfl, rI_eq _ _ _ ⟨by decide, by decide⟩]
  refine c_next hb (hB.fr f3 rfl) (Nat.zero_le n) a3 (fun ξ f t => h ξ (f3.trans (f.mono rfl)) ?_ ?_ t)
  · rw [f.rdI rfl]; exact z3
  · rw [f.rdI rfl]; exact p3
theorem c_readMotion {b : Bts} {n : Nat} (hb : BtO b n) {ν : Mem} (hB : BtC b n ν) {K : Bool → Mem → Prop} (h : onR (rmo b n) (PF rbL ν (K false)) (fun l => ∀ ξ : Mem, Fr rbL ν ξ → rI ξ 2286 0 = 0 → rI ξ 2287 0 = -1 → LrC ξ l → K true ξ)) : f_LineR_readMotion ν K := by
  unfold f_LineR_readMotion
  intro μ1 e1
  have f1 : Fr rbL ν μ1 := by subst e1; exact (FrP.refl _ ν).wI (by decide)
  have s1 : rI μ1 9195 0 = 0 := by subst e1; exact rI_eq _ _ _ ⟨by decide, by decide⟩
  clear e1
  refine c_begin hb (hB.fr f1 rfl) (fun ξ f z p t => ?_)
  have hT : TkO n (tok b n 0) := (tok_ok hb (Nat.zero_le n)).1
  have f2 : Fr rbL ν ξ := f1.trans (f.mono rfl)
  refine ⟨14, c_readMotion_l (ν0 := ξ) (G := fun _ => True) hb (fun T ο kT tT fr g => ?_) (fun T ο kT tT fr g => ?_) 13 [] (tok b n 0) ξ 0 (by decide) (by decide) (FrP.refl _ _) (hB.fr f2 rfl) hT t ⟨by rw [f.rdI rfl]; exact s1, fun i hi => absurd hi (by simp)⟩ (fun k hk => ?_) ?_⟩
  · exact c_fail (by decide) hb.1 kT tT (fun ο2 fr2 a2 p2 => g ο2 ((fr.mono rfl).trans (fr2.mono rfl)) a2 p2)
  · exact c_fail (by decide) hb.1 kT tT (fun ο2 fr2 a2 p2 => g ο2 ((fr.mono rfl).trans (fr2.mono rfl)) a2 p2)
  · rw [btl_0]
    exact ⟨fun z => absurd z (by decide), fun z => (by obtain ⟨y, hy, -⟩ := z; exact absurd hy (by simp))⟩
  · unfold rmo at h
    generalize rdMo b n 14 [] (tok b n 0) = r at h ⊢
    cases r with
    | inl e => exact fun ο fr a q => h ο (f2.trans fr) a q
    | inr l => exact fun ο fr ll => h ο (f2.trans (fr.mono rfl)) (by rw [fr.rdI rfl]; exact z) (by rw [fr.rdI rfl]; exact p) ll
