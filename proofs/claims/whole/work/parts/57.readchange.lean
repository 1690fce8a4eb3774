/-! AN AMENDMENT'S TEXT -/
def chEnd (b : Bts) (n : Nat) (x : Ln) (T : Tk) : Res (Ln × Tk) := if isS T 59 = true then .inr (x, nx b n T) else .inl (1, T.2.1)
def chNum (b : Bts) (n : Nat) (so : Int) (c : Bool) (T : Tk) : Res (Ln × Tk) :=
  if ¬ T.1 = 2 then .inl (1, T.2.1)
  else if ¬ (1 ≤ T.2.2.2 ∧ T.2.2.2 ≤ 60) then .inl (2, T.2.1)
  else chEnd b n (sgn c T.2.2.2, so, 0) (nx b n T)
def chB (b : Bts) (n : Nat) (so : Int) (T : Tk) : Res (Ln × Tk) := if so = 1 then chNum b n so (isW b (nx b n T) 10) (opt b n (nx b n T) 10) else chNum b n so false (nx b n T)
def chA (b : Bts) (n : Nat) (l : List Ln) (so : Int) (T : Tk) : Res (Ln × Tk) := if ¬ l.length < 6 then .inl (4, T.2.1) else chB b n so T
def rdCh (b : Bts) (n : Nat) (l : List Ln) (T : Tk) : Res (Ln × Tk) :=
  if isW b T 26 = true then chA b n l 0 T else if isW b T 27 = true then chA b n l 1 T else if isW b T 28 = true then chA b n l 2 T else .inl (1, T.2.1)
def rdAm (b : Bts) (n : Nat) : Nat → List Ln → Tk → Res (List Ln)
  | 0, _, _ => .inl (0, 0)
  | f + 1, l, T => if ¬ l.length = 0 ∧ T.1 = 0 then .inr l else match rdCh b n l T with
    | .inl e => .inl e
    | .inr x => rdAm b n f (l ++ [x.1]) x.2
def WfCh (l : List Ln) : Prop := l.length ≤ 6 ∧ ∀ x ∈ l, 0 ≤ x.2.1 ∧ x.2.1 ≤ 2 ∧ 1 ≤ x.1.natAbs ∧ x.1.natAbs ≤ 60
theorem sgn_abs (c : Bool) (v : Int) : (sgn c v).natAbs = v.natAbs := by
  unfold sgn
  split <;> omega
theorem chA_e {b : Bts} {n : Nat} {l : List Ln} {so : Int} (hs : 0 ≤ so ∧ so ≤ 2) {T : Tk} : (∃ e : Int × Nat, chA b n l so T = .inl e ∧ 1 ≤ e.1 ∧ e.1 ≤ 4) ∨ (∃ x : Ln × Tk, chA b n l so T = .inr x ∧ l.length < 6 ∧ x.1.2.1 = so ∧ 1 ≤ x.1.1.natAbs ∧ x.1.1.natAbs ≤ 60) := by
  have num : ∀ (c : Bool) (T2 : Tk), l.length < 6 → (∃ e : Int × Nat, chNum b n so c T2 = .inl e ∧ 1 ≤ e.1 ∧ e.1 ≤ 4) ∨ (∃ x : Ln × Tk, chNum b n so c T2 = .inr x ∧ l.length < 6 ∧ x.1.2.1 = so ∧ 1 ≤ x.1.1.natAbs ∧ x.1.1.natAbs ≤ 60) := fun c T2 hl => by
    unfold chNum
    by_cases c1 : ¬ T2.1 = 2
    · rw [if_pos c1]; exact Or.inl ⟨_, rfl, by simp, by simp⟩
    · rw [if_neg c1]
      by_cases c2 : ¬ (1 ≤ T2.2.2.2 ∧ T2.2.2.2 ≤ 60)
      · rw [if_pos c2]; exact Or.inl ⟨_, rfl, by simp, by simp⟩
      · rw [if_neg c2]
        unfold chEnd
        by_cases c3 : isS (nx b n T2) 59 = true
        · rw [if_pos c3]
          have := sgn_abs c T2.2.2.2
          exact Or.inr ⟨_, rfl, hl, rfl, by show 1 ≤ (sgn c T2.2.2.2).natAbs; omega, by show (sgn c T2.2.2.2).natAbs ≤ 60; omega⟩
        · rw [if_neg c3]; exact Or.inl ⟨_, rfl, by simp, by simp⟩
  unfold chA
  by_cases c : ¬ l.length < 6
  · rw [if_pos c]; exact Or.inl ⟨_, rfl, by simp, by simp⟩
  · rw [if_neg c]
    have hl : l.length < 6 := by omega
    unfold chB
    by_cases c1 : so = 1
    · rw [if_pos c1]; exact num _ _ hl
    · rw [if_neg c1]; exact num _ _ hl
theorem rdCh_e {b : Bts} {n : Nat} {l : List Ln} {T : Tk} : (∃ e : Int × Nat, rdCh b n l T = .inl e ∧ 1 ≤ e.1 ∧ e.1 ≤ 4) ∨ (∃ x : Ln × Tk, rdCh b n l T = .inr x ∧ l.length < 6 ∧ 0 ≤ x.1.2.1 ∧ x.1.2.1 ≤ 2 ∧ 1 ≤ x.1.1.natAbs ∧ x.1.1.natAbs ≤ 60) := by
  have w : ∀ so : Int, 0 ≤ so ∧ so ≤ 2 → (∃ e : Int × Nat, chA b n l so T = .inl e ∧ 1 ≤ e.1 ∧ e.1 ≤ 4) ∨ (∃ x : Ln × Tk, chA b n l so T = .inr x ∧ l.length < 6 ∧ 0 ≤ x.1.2.1 ∧ x.1.2.1 ≤ 2 ∧ 1 ≤ x.1.1.natAbs ∧ x.1.1.natAbs ≤ 60) := fun so hs => by
    rcases chA_e (b := b) (n := n) (l := l) (T := T) hs with h | ⟨x, h1, h2, h3, h4, h5⟩
    · exact Or.inl h
    · exact Or.inr ⟨x, h1, h2, by omega, by omega, h4, h5⟩
  unfold rdCh
  by_cases c1 : isW b T 26 = true
  · rw [if_pos c1]; exact w 0 (by decide)
  · rw [if_neg c1]
    by_cases c2 : isW b T 27 = true
    · rw [if_pos c2]; exact w 1 (by decide)
    · rw [if_neg c2]
      by_cases c3 : isW b T 28 = true
      · rw [if_pos c3]; exact w 2 (by decide)
      · rw [if_neg c3]; exact Or.inl ⟨_, rfl, by simp, by simp⟩
theorem rdCh_f {b : Bts} {n : Nat} {l : List Ln} {T : Tk} {e : Int × Nat} (h : rdCh b n l T = .inl e) : 1 ≤ e.1 ∧ e.1 ≤ 4 := by
  rcases rdCh_e (b := b) (n := n) (l := l) (T := T) with ⟨e', h1, h2⟩ | ⟨x, h1, h2⟩
  · rw [h] at h1; rw [Sum.inl.inj h1]; exact h2
  · rw [h] at h1; cases h1
theorem rdCh_w {b : Bts} {n : Nat} {l : List Ln} (hw : WfCh l) {T : Tk} {x : Ln × Tk} (h : rdCh b n l T = .inr x) : WfCh (l ++ [x.1]) ∧ l.length < 6 := by
  rcases rdCh_e (b := b) (n := n) (l := l) (T := T) with ⟨e', h1, h2⟩ | ⟨y, h1, h2, h3⟩
  · rw [h] at h1; cases h1
  · rw [h] at h1
    have e := Sum.inr.inj h1
    rw [← e] at h3
    refine ⟨⟨by rw [List.length_append]; simp only [List.length_cons, List.length_nil]; omega, fun z hz => ?_⟩, h2⟩
    rcases List.mem_append.mp hz with hz | hz
    · exact hw.2 z hz
    · rw [List.mem_singleton] at hz; rw [hz]; exact h3
theorem rdAm_w {b : Bts} {n : Nat} : ∀ (f : Nat) (l : List Ln) (T : Tk) (r : List Ln), WfCh l → rdAm b n f l T = .inr r → WfCh r ∧ ¬ r.length = 0
  | 0, _, _, _, _, h => by cases h
  | f + 1, l, T, r, hw, h => by
    unfold rdAm at h
    by_cases c : ¬ l.length = 0 ∧ T.1 = 0
    · rw [if_pos c] at h
      have e := Sum.inr.inj h
      subst e
      exact ⟨hw, c.1⟩
    · rw [if_neg c] at h
      cases hr : rdCh b n l T with
      | inl e => rw [hr] at h; cases h
      | inr x =>
        rw [hr] at h
        exact rdAm_w f (l ++ [x.1]) x.2 r (rdCh_w hw hr).1 h
theorem rdAm_f {b : Bts} {n : Nat} : ∀ (f : Nat) (l : List Ln) (T : Tk) (e : Int × Nat), 6 < f + l.length → rdAm b n (f + 1) l T = .inl e → 1 ≤ e.1 ∧ e.1 ≤ 4
  | f, l, T, e, hf, h => by
    unfold rdAm at h
    by_cases c : ¬ l.length = 0 ∧ T.1 = 0
    · rw [if_pos c] at h; cases h
    · rw [if_neg c] at h
      cases hq : rdCh b n l T with
      | inl e' =>
        rw [hq] at h
        rw [← Sum.inl.inj h]
        exact rdCh_f hq
      | inr y =>
        rw [hq] at h
        rcases rdCh_e (b := b) (n := n) (l := l) (T := T) with ⟨e', h1, h2⟩ | ⟨y', h1, h2, h3⟩
        · rw [hq] at h1; cases h1
        · cases f with
          | zero => omega
          | succ f => exact rdAm_f f (l ++ [y.1]) y.2 e (by rw [List.length_append]; simp only [List.length_cons, List.length_nil]; omega) h
-- the class
theorem c_chNum {b : Bts} {n : Nat} (hb : BtO b n) {T : Tk} (hT : TkO n T) {ν : Mem} (hB : BtC b n ν) (ht : TkC ν T) {l : List Ln} (hl : LrC ν l) (h12 : l.length < 6) {so : Int} (hs : 0 ≤ so ∧ so ≤ 2) {c : Bool} {K : Bool → Mem → Prop}
    (h : onR (chNum b n so c T) (PF rfL ν (K false)) (fun x => ∀ ξ : Mem, Fr rdL ν ξ → TkC ξ x.2 → LrC ξ (l ++ [x.1]) → TkO n x.2 → K true ξ)) :
    f_Tape_takeN 60 0 ν (fun r34 μ_3 => if w r34 = w 0 then (K false μ_3) else (∀ x55 : Int, x55 = (if c = true then (-r34) else r34) → f_LineR_keep x55 so μ_3 (fun μ_4 => f_Tape_skipSign 59 μ_4 (fun r65 μ_5 => K r65 μ_5)))) := by
  unfold chNum at h
  refine c_takeN hb hT (by decide) hB ht (fun q ξ3 f3 a3 p3 => ?_) (fun q z ξ3 f3 a3 p3 => ?_) (fun q z ξ3 f3 t3 => ?_)
  · rw [if_pos q] at h
    rw [if_pos rfl]
    exact h ξ3 (f3.mono rfl) a3 p3
  · rw [if_neg (fun y => y q)] at h
    have zz : ¬ (1 ≤ T.2.2.2 ∧ T.2.2.2 ≤ 60) := fun y => z ⟨y.1, y.2, fun _ => btl_0 _⟩
    rw [if_pos zz] at h
    rw [if_pos rfl]
    exact h ξ3 (f3.mono rfl) a3 p3
  · have zz : 1 ≤ T.2.2.2 ∧ T.2.2.2 ≤ 60 := ⟨z.1, z.2.1⟩
    rw [if_neg (fun y => y q), if_neg (fun y => y zz)] at h
    have k3 := (nx_ok hb hT).1
    have B3 := hB.fr f3 rfl
    generalize T.2.2.2 = v at *
    obtain ⟨v0, v1⟩ := zz
    (try simp (disch := omega) only [w_id])
    rw [if_neg (by omega)]
    intro x ex
    have ex' : x = sgn c v := ex
    have xr := sgn_abs c v
    rw [← ex'] at xr
    refine c_keep (b := 0) ⟨by omega, by omega⟩ ⟨by omega, by omega⟩ (hl.fr f3 rfl) (by omega) (fun ξ5 f5 l5 => ?_)
    have t5 := t3.fr f5 rfl
    have B5 := B3.fr f5 rfl
    have f15 : Fr rdL ν ξ5 := (f3.mono rfl).trans (f5.mono rfl)
    unfold chEnd at h
    refine c_skipSign hb k3 (by decide) B5 t5 (fun q5 ξ6 f6 t6 => ?_) (fun q5 ξ6 f6 a6 p6 => ?_)
    · rw [if_pos q5] at h
      rw [ex'] at l5
      exact onR_r h ξ6 (f15.trans (f6.mono rfl)) t6 (l5.fr f6 rfl) (nx_ok hb k3).1
    · rw [if_neg q5] at h
      exact h ξ6 ((f15.mono rfl).trans (f6.mono rfl)) a6 p6
theorem onR_mono {α : Type} {r : Res α} {P P' : Int → Nat → Prop} {Q Q' : α → Prop} (h : onR r P Q) (hp : ∀ f p, P f p → P' f p) (hq : ∀ x, Q x → Q' x) : onR r P' Q' := by
  cases r with
  | inl e => exact hp _ _ h
  | inr x => exact hq _ h
theorem c_readChange {b : Bts} {n : Nat} (hb : BtO b n) {T : Tk} (hT : TkO n T) {ν : Mem} (hB : BtC b n ν) (ht : TkC ν T) {l : List Ln} (hl : LrC ν l) (h12 : l.length < 6) {so : Int} (hs : 0 ≤ so ∧ so ≤ 2) {K : Bool → Mem → Prop}
    (h : onR (chB b n so T) (PF rfL ν (K false)) (fun x => ∀ ξ : Mem, Fr rdL ν ξ → TkC ξ x.2 → LrC ξ (l ++ [x.1]) → TkO n x.2 → K true ξ)) : f_LineR_readChange so ν K := by
  unfold f_LineR_readChange
  refine c_nx hb hT hB ht (fun ξ1 f1 t1 => ?_)
  have k1 := (nx_ok hb hT).1
  have B1 := hB.fr f1 rfl
  unfold chB at h
  have lift : ∀ (ξ : Mem) (r : Res (Ln × Tk)), Fr txL ν ξ → onR r (PF rfL ν (K false)) (fun x => ∀ ξ : Mem, Fr rdL ν ξ → TkC ξ x.2 → LrC ξ (l ++ [x.1]) → TkO n x.2 → K true ξ) → onR r (PF rfL ξ (K false)) (fun x => ∀ ο : Mem, Fr rdL ξ ο → TkC ο x.2 → LrC ο (l ++ [x.1]) → TkO n x.2 → K true ο) := fun ξ r fr g =>
    onR_mono g (fun f p y ο fo a q => y ο ((fr.mono rfl).trans fo) a q) (fun x y ο fo => y ο ((fr.mono rfl).trans fo))
  (try simp (disch := omega) only [w_id])
  refine ite_i (fun q => ?_) (fun q => ?_)
  · rw [if_pos q] at h
    refine c_takeWord hb k1 (by decide) B1 t1 (fun ξ2 f2 t2 => ?_)
    intro x ex
    have ex' : x = isW b (nx b n T) 10 := by rw [ex]; cases isW b (nx b n T) 10 <;> rfl
    subst ex'
    exact c_chNum hb (opt_ok hb k1 10).1 (B1.fr f2 rfl) t2 ((hl.fr f1 rfl).fr f2 rfl) h12 hs (lift ξ2 _ (f1.trans f2) h)
  · rw [if_neg q] at h
    unfold b_LineR_readChange_25 b_LineR_readChange_26
    exact c_chNum (c := false) hb k1 B1 t1 (hl.fr f1 rfl) h12 hs (lift ξ1 _ f1 h)
theorem c_readAm_l {b : Bts} {n : Nat} (hb : BtO b n) {X1 X4 : Mem → Prop} {K : Bool → Mem → Prop} {ν0 : Mem}
    (hX1 : ∀ (T : Tk) (ν : Mem), TkO n T → TkC ν T → Fr rdL ν0 ν → PF rfL ν0 (K false) 1 T.2.1 → X1 ν) (hX4 : ∀ (T : Tk) (ν : Mem), TkO n T → TkC ν T → Fr rdL ν0 ν → PF rfL ν0 (K false) 4 T.2.1 → X4 ν) :
    ∀ (f : Nat) (l : List Ln) (T : Tk) (ν : Mem), 6 < f + l.length → l.length ≤ 6 → Fr rdL ν0 ν → BtC b n ν → TkO n T → TkC ν T → LrC ν l → onR (rdAm b n (f + 1) l T) (PF rfL ν0 (K false)) (fun l' => ∀ ξ : Mem, Fr rdL ν0 ξ → LrC ξ l' → K true ξ) → l_LineR_readAmendment_14 X4 X1 K (f + 1) (l.length : Int) ν
  | f, l, T, ν, hf, h12, hfr, hB, hT, ht, hl, h => by
    have hch : ∀ so : Int, 0 ≤ so ∧ so ≤ 2 → onR (match chA b n l so T with | .inl e => (.inl e : Res (List Ln)) | .inr x => rdAm b n f (l ++ [x.1]) x.2) (PF rfL ν0 (K false)) (fun l' => ∀ ξ : Mem, Fr rdL ν0 ξ → LrC ξ l' → K true ξ) → (if w so = w (-1) then (X1 ν) else (if w (l.length : Int) < w 6 then (f_LineR_readChange so ν (fun r117 μ_7 => if r117 = true then (l_LineR_readAmendment_14 X4 X1 K f ((l.length : Int) + 1) μ_7) else (K false μ_7))) else (X4 ν))) := fun so hs h => by
      unfold chA at h
      (try simp (disch := omega) only [w_id])
      rw [if_neg (by omega)]
      refine ite_i (fun q2 => ?_) (fun q2 => ?_)
      · rw [if_neg (fun z => z (by omega))] at h
        refine c_readChange hb hT hB ht hl (by omega) hs ?_
        cases hr : chB b n so T with
        | inl e =>
          rw [hr] at h
          intro ξ fr a p
          rw [if_neg (by decide)]
          exact h ξ ((hfr.mono rfl).trans fr) a p
        | inr x =>
          rw [hr] at h
          intro ξ fr t6 l6 hT6
          rw [if_pos rfl]
          cases f with
          | zero => omega
          | succ f =>
            have := c_readAm_l hb hX1 hX4 f (l ++ [x.1]) x.2 ξ (by rw [List.length_append]; simp only [List.length_cons, List.length_nil]; omega) (by rw [List.length_append]; simp only [List.length_cons, List.length_nil]; omega) (hfr.trans fr) (hB.fr fr rfl) hT6 t6 l6 h
            rw [show (((l ++ [x.1]).length : Nat) : Int) = (l.length : Int) + 1 by rw [List.length_append]; simp] at this
            exact this
      · rw [if_pos (by omega)] at h
        exact hX4 T ν hT ht hfr h
    have hrd : onR (match rdCh b n l T with | .inl e => (.inl e : Res (List Ln)) | .inr x => rdAm b n f (l ++ [x.1]) x.2) (PF rfL ν0 (K false)) (fun l' => ∀ ξ : Mem, Fr rdL ν0 ξ → LrC ξ l' → K true ξ) → b_LineR_readAmendment_36 (l_LineR_readAmendment_14 X4 X1 K f) X4 X1 K (l.length : Int) ν := fun h => by
      unfold b_LineR_readAmendment_36
      unfold rdCh at h
      refine c_isWord hb hT (by decide) hB ht ?_
      refine ite_i (fun q => ?_) (fun q => ?_)
      · rw [if_pos q] at h
        exact hch 0 (by decide) h
      · rw [if_neg q] at h
        refine c_isWord hb hT (by decide) hB ht ?_
        refine ite_i (fun q2 => ?_) (fun q2 => ?_)
        · rw [if_pos q2] at h
          exact hch 1 (by decide) h
        · rw [if_neg q2] at h
          refine c_isWord hb hT (by decide) hB ht ?_
          intro x ex
          subst ex
          by_cases q3 : isW b T 28 = true
          · rw [if_pos q3] at h
            simp only [if_pos q3]
            exact hch 2 (by decide) h
          · rw [if_neg q3] at h
            simp only [if_neg q3]
            rw [if_pos (by trivial)]
            exact hX1 T ν hT ht hfr h
    unfold l_LineR_readAmendment_14
    (try simp (disch := omega) only [w_id])
    rw [if_neg (by omega), c_isEnd hT ht]
    simp only [decide_eq_true_eq]
    unfold rdAm at h
    refine ite_i (fun q1 => ite_i (fun q2 => ?_) (fun q2 => ?_)) (fun q1 => ?_)
    · rw [if_pos ⟨by omega, q2⟩] at h
      exact h ν hfr hl
    · rw [if_neg (fun z => q2 z.2)] at h
      exact hrd h
    · rw [if_neg (fun z => by omega)] at h
      exact hrd h
def ram (b : Bts) (n : Nat) : Res (List Ln) := rdAm b n 8 [] (tok b n 0)
theorem c_readAm {b : Bts} {n : Nat} (hb : BtO b n) {ν : Mem} (hB : BtC b n ν) {K : Bool → Mem → Prop} (h : onR (ram b n) (PF rbL ν (K false)) (fun l => ∀ ξ : Mem, Fr rbL ν ξ → rI ξ 2286 0 = 0 → rI ξ 2287 0 = -1 → LrC ξ l → K true ξ)) : f_LineR_readAmendment ν K := by
  unfold f_LineR_readAmendment
  intro μ1 e1
  have f1 : Fr rbL ν μ1 := by subst e1; exact (FrP.refl _ ν).wI (by decide)
  have s1 : rI μ1 9195 0 = 0 := by subst e1; exact rI_eq _ _ _ ⟨by decide, by decide⟩
  clear e1
  refine c_begin hb (hB.fr f1 rfl) (fun ξ f z p t => ?_)
  have hT : TkO n (tok b n 0) := (tok_ok hb (Nat.zero_le n)).1
  have f2 : Fr rbL ν ξ := f1.trans (f.mono rfl)
  refine ⟨8, c_readAm_l (ν0 := ξ) hb (fun T ο kT tT fr g => ?_) (fun T ο kT tT fr g => ?_) 7 [] (tok b n 0) ξ (by decide) (by decide) (FrP.refl _ _) (hB.fr f2 rfl) hT t ⟨by rw [f.rdI rfl]; exact s1, fun i hi => absurd hi (by simp)⟩ ?_⟩
  · exact c_fail (by decide) hb.1 kT tT (fun ο2 fr2 a2 p2 => g ο2 ((fr.mono rfl).trans (fr2.mono rfl)) a2 p2)
  · exact c_fail (by decide) hb.1 kT tT (fun ο2 fr2 a2 p2 => g ο2 ((fr.mono rfl).trans (fr2.mono rfl)) a2 p2)
  · unfold ram at h
    generalize rdAm b n 8 [] (tok b n 0) = r at h ⊢
    cases r with
    | inl e => exact fun ο fr a q => h ο (f2.trans fr) a q
    | inr l => exact fun ο fr ll => h ο (f2.trans (fr.mono rfl)) (by rw [fr.rdI rfl]; exact z) (by rw [fr.rdI rfl]; exact p) ll
