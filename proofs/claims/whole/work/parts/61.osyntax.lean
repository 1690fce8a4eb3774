/-! ORDERS' TEXT: the pure reader of CONDs and SUMs, and what it makes -/
abbrev PR : Type := Res (List Int × Tk)
def bindR (r : PR) (f : List Int × Tk → PR) : PR := match r with
  | .inl e => .inl e
  | .inr x => f x
def opOr (b : Bts) (T : Tk) : Int := if isW b T 23 = true then -8 else 0
def opAnd (b : Bts) (T : Tk) : Int := if isW b T 22 = true then -7 else 0
def opSum (T : Tk) : Int := if isS T 43 = true then -1 else if isS T 45 = true then -2 else 0
def opMul (T : Tk) : Int := if isS T 42 = true then -3 else if isS T 47 = true then -10 else 0
def opCmp (T : Tk) : Int := if isS T 60 = true then -4 else if isS T 62 = true then -5 else if isS T 61 = true then -6 else 0
def nameS (b : Bts) (p : Int) (T : Tk) : Int :=
  if p = 3 then (if isW b T 11 = true then 6 else if isW b T 12 = true then 7 else if isW b T 13 = true then 8 else if isW b T 14 = true then 9 else -1)
  else if p = 4 then (if isW b T 11 = true then 10 else if isW b T 15 = true then 11 else if isW b T 16 = true then 12 else -1)
  else (if isW b T 17 = true then 0 else if isW b T 18 = true then 1 else if isW b T 19 = true then 2 else if isW b T 20 = true then 3 else if isW b T 21 = true then 4 else if isW b T 16 = true then 5 else -1)
def pLoop (rc : Tk → PR) (op : Tk → Int) (b : Bts) (n : Nat) : Nat → List Int → Tk → PR
  | 0, s, T => .inr (s, T)
  | f + 1, s, T => if op T = 0 then .inr (s, T) else match rc (nx b n T) with
    | .inl e => .inl e
    | .inr x => pLoop rc op b n f (s ++ x.1 ++ [op T]) x.2
def pNot (b : Bts) (n : Nat) : Nat → Bool → Tk → Bool × Tk
  | 0, t, T => (t, T)
  | f + 1, t, T => if isW b T 10 = true then pNot b n f (!t) (nx b n T) else (t, T)
def pEnd (b : Bts) (n : Nat) (c : Int) (x : List Int × Tk) : PR := if isS x.2 c = true then .inr (x.1, nx b n x.2) else .inl (1, x.2.2.1)
def pTurn (t : Bool) (x : List Int × Tk) : PR := .inr (if t = true then x.1 ++ [-9] else x.1, x.2)
def pCmp2 (rc : Tk → PR) (b : Bts) (n : Nat) (x : List Int × Tk) : PR := if opCmp x.2 = 0 then .inl (1, x.2.2.1) else bindR (rc (nx b n x.2)) (fun y => .inr (x.1 ++ y.1 ++ [opCmp x.2], y.2))
def pStep (b : Bts) (n : Nat) (p : Int) (rc : Nat → Nat → Tk → PR) (y o : Nat) (T : Tk) : PR := match y with
  | 0 => bindR (rc 1 o T) (fun x => pLoop (rc 1 o) (opOr b) b n 300 x.1 x.2)
  | 1 => bindR (rc 2 o T) (fun x => pLoop (rc 2 o) (opAnd b) b n 300 x.1 x.2)
  | 2 => bindR (rc (if isS (pNot b n 300 false T).2 91 = true then 3 else 4) o (pNot b n 300 false T).2) (pTurn (pNot b n 300 false T).1)
  | 3 => if o < 4 then bindR (rc 0 (o + 1) (nx b n T)) (pEnd b n 93) else .inl (4, T.2.1)
  | 4 => bindR (rc 5 o T) (pCmp2 (rc 5 o) b n)
  | 5 => bindR (rc 6 o T) (fun x => pLoop (rc 6 o) opSum b n 300 x.1 x.2)
  | 6 => bindR (rc 7 o T) (fun x => pLoop (rc 7 o) opMul b n 300 x.1 x.2)
  | _ + 7 => if T.1 = 2 then .inr ([T.2.2.2], nx b n T) else if T.1 = 1 then (if nameS b p T = -1 then .inl (3, T.2.1) else .inr ([10000 + nameS b p T], nx b n T))
    else if isS T 40 = true then (if o < 4 then bindR (rc 5 (o + 1) (nx b n T)) (pEnd b n 41) else .inl (4, T.2.1)) else .inl (1, T.2.1)
def PO (b : Bts) (n : Nat) (p : Int) : Nat → Nat → Nat → Tk → PR
  | 0, _, _, _ => .inl (0, 0)
  | d + 1, y, o, T => pStep b n p (PO b n p d) y o T
-- what code does
def Cg (c : Bool) (m : Nat) (s : List Int) : Prop := ∀ fx : Int → Int, (∀ i : Int, Bd (fx i)) → ∀ st : List Int, st.length + m ≤ 32 → Safe fx s st ∧ ∃ v : Int, runc fx s st = v :: st ∧ Bd v ∧ (c = true → b01 v)
theorem Safe_app {fx : Int → Int} : ∀ (a c st : List Int), Safe fx a st → Safe fx c (runc fx a st) → Safe fx (a ++ c) st
  | [], _, _, _, h => h
  | s :: a, c, st, h, k => ⟨h.1, h.2.1, Safe_app a c _ h.2.2 k⟩
theorem runc_app (fx : Int → Int) (a c st : List Int) : runc fx (a ++ c) st = runc fx c (runc fx a st) := by
  unfold runc
  rw [List.foldl_append]
def OpT (c1 c : Bool) (o : Int) : Prop := ((o = -1 ∨ o = -2 ∨ o = -3 ∨ o = -10) ∧ c = false) ∨ (o = -4 ∨ o = -5 ∨ o = -6) ∨ ((o = -7 ∨ o = -8) ∧ c1 = true)
theorem OpT.rng {c1 c : Bool} {o : Int} (h : OpT c1 c o) : -10 ≤ o ∧ o ≤ -1 ∧ ¬ o = -9 := by
  unfold OpT at h
  omega
theorem Cg.mono {c : Bool} {m m' : Nat} {s : List Int} (h : Cg c m s) (hm : m ≤ m') : Cg c m' s := fun fx hf st hs => h fx hf st (by omega)
theorem b01_mul {a c : Int} (ha : b01 a) (hc : b01 c) : b01 (a * c) := by
  unfold b01 at *
  rcases ha with rfl | rfl <;> rcases hc with rfl | rfl <;> simp
theorem jn_01 {c1 c : Bool} {o a e : Int} (ho : OpT c1 c o) (h : c = true) (ha : c1 = true → b01 a) (he : c1 = true → b01 e) : b01 (jn o a e) := by
  unfold OpT at ho
  rcases ho with ⟨-, hc⟩ | ho | ⟨ho, h1⟩
  · rw [h] at hc; cases hc
  · rcases ho with rfl | rfl | rfl
    · rw [jn_4]; unfold b01; split <;> simp
    · rw [jn_5]; unfold b01; split <;> simp
    · rw [jn_6]; unfold b01; split <;> simp
  · rcases ho with rfl | rfl
    · rw [jn_7]; exact b01_mul (ha h1) (he h1)
    · rw [jn_8]; unfold b01; split <;> simp
theorem Cg_op {c1 c : Bool} {m m1 m2 : Nat} {s1 s2 : List Int} {o : Int} (h1 : Cg c1 m1 s1) (h2 : Cg c1 m2 s2) (k1 : m1 ≤ m) (k2 : m2 + 1 ≤ m) (ho : OpT c1 c o) : Cg c m (s1 ++ s2 ++ [o]) := by
  intro fx hf st hs
  obtain ⟨a1, v1, a2, a3, a4⟩ := h1 fx hf st (by omega)
  obtain ⟨e1, v2, e2, e3, e4⟩ := h2 fx hf (v1 :: st) (by simp only [List.length_cons]; omega)
  have hr : runc fx (s1 ++ s2) st = v2 :: v1 :: st := by rw [runc_app, a2, e2]
  have hor := ho.rng
  have hstp : stp fx o (v2 :: v1 :: st) = jn o v1 v2 :: st := by
    unfold stp
    rw [if_neg (by omega), if_neg hor.2.2]
    rfl
  have h7 : o = -7 ∨ o = -8 → b01 v1 ∧ b01 v2 := fun z => by
    have : c1 = true := by
      unfold OpT at ho
      rcases ho with ho | ho | ho
      · omega
      · omega
      · exact ho.2
    exact ⟨a4 this, e4 this⟩
  have hgd : gd o (v2 :: v1 :: st) := by
    unfold gd
    rw [if_neg (by omega), if_neg hor.2.2]
    exact ⟨hor.1, v2, v1, st, rfl, h7⟩
  refine ⟨Safe_app _ _ _ (Safe_app _ _ _ a1 (by rw [a2]; exact e1)) ?_, jn o v1 v2, ?_, jn_Bd a3 e3 (fun z => h7 (Or.inl z)), fun hc => jn_01 ho hc a4 e4⟩
  · rw [hr]
    refine ⟨hgd, ?_, trivial⟩
    rw [hstp]
    simp only [List.length_cons]
    omega
  · rw [runc_app, hr]
    exact hstp
theorem Cg_num {v : Int} (h : 0 ≤ v ∧ v ≤ 9999) : Cg false 1 [v] := by
  intro fx hf st hs
  have e : stp fx v st = v :: st := by
    unfold stp
    rw [if_pos h.1, if_neg (by omega)]
  refine ⟨⟨?_, ?_, trivial⟩, v, e, ?_, fun z => by cases z⟩
  · unfold gd; rw [if_pos h.1]; omega
  · rw [e]; simp only [List.length_cons]; omega
  · unfold Bd; omega
theorem Cg_name {v : Int} (h : 0 ≤ v ∧ v ≤ 12) : Cg false 1 [10000 + v] := by
  intro fx hf st hs
  have e : stp fx (10000 + v) st = fx v :: st := by
    unfold stp
    rw [if_pos (by omega), if_pos (by omega), show 10000 + v - 10000 = v by omega]
  refine ⟨⟨?_, ?_, trivial⟩, fx v, e, hf v, fun z => by cases z⟩
  · unfold gd; rw [if_pos (by omega)]; omega
  · rw [e]; simp only [List.length_cons]; omega
theorem Cg_not {m : Nat} {s : List Int} (h : Cg true m s) (hm : 1 ≤ m) : Cg true m (s ++ [-9]) := by
  intro fx hf st hs
  obtain ⟨a1, v, a2, a3, a4⟩ := h fx hf st hs
  have hb := a4 rfl
  have e : stp fx (-9) (v :: st) = (1 - v) :: st := by
    unfold stp
    rw [if_neg (by decide), if_pos rfl]
    rfl
  refine ⟨Safe_app _ _ _ a1 ?_, 1 - v, ?_, ?_, fun _ => ?_⟩
  · rw [a2]
    refine ⟨?_, ?_, trivial⟩
    · unfold gd; rw [if_neg (by decide), if_pos rfl]; exact ⟨v, st, rfl, hb⟩
    · rw [e]; simp only [List.length_cons]; omega
  · rw [runc_app, a2]; exact e
  · unfold b01 at hb; unfold Bd; omega
  · unfold b01 at *; omega
def okS (p s : Int) : Prop := (0 ≤ s ∧ s ≤ 9999) ∨ (10000 + bpa p ≤ s ∧ s < 10000 + bpa p + npa p) ∨ (-10 ≤ s ∧ s ≤ -1)
def encO (s : Int) : Int := if s = -10 then 5 else if s = -9 then 11 else if -3 ≤ s then 1 - s else 2 - s
def enc (p s : Int) : Int := if 0 ≤ s then (if 10000 ≤ s then (s - 10000 - bpa p) * 16 + 1 else s * 16) else encO s
theorem CR_enc {p s : Int} (h : okS p s) : CR p (enc p s) s := by
  have hn := npa_le p
  unfold okS at h
  unfold enc
  rcases h with h | h | h
  · rw [if_pos h.1, if_neg (by omega)]
    exact Or.inl ⟨h.1, h.2, rfl⟩
  · rw [if_pos (by omega), if_pos (by omega)]
    exact Or.inr (Or.inl ⟨h.1, h.2, rfl⟩)
  · rw [if_neg (by omega)]
    have hs : s = -1 ∨ s = -2 ∨ s = -3 ∨ s = -10 ∨ s = -4 ∨ s = -5 ∨ s = -6 ∨ s = -7 ∨ s = -8 ∨ s = -9 := by omega
    unfold CR
    rcases hs with rfl | rfl | rfl | rfl | rfl | rfl | rfl | rfl | rfl | rfl <;> simp [encO]
def PostR (n : Nat) (p : Int) (c : Bool) (m : Nat) (T : Tk) (x : List Int × Tk) : Prop := TkO n x.2 ∧ T.2.1 + x.1.length ≤ x.2.2.1 ∧ (∀ s ∈ x.1, okS p s) ∧ Cg c m x.1
def Gd (r : PR) (P : List Int × Tk → Prop) : Prop := (∃ e : Int × Nat, r = .inl e ∧ 1 ≤ e.1 ∧ e.1 ≤ 4) ∨ ∃ x : List Int × Tk, r = .inr x ∧ P x
theorem Gd_bind {r : PR} {f : List Int × Tk → PR} {P Q : List Int × Tk → Prop} (h : Gd r P) (k : ∀ x, P x → Gd (f x) Q) : Gd (bindR r f) Q := by
  rcases h with ⟨e, h1, h2⟩ | ⟨x, h1, h2⟩
  · rw [h1]; exact Or.inl ⟨e, rfl, h2⟩
  · rw [h1]; exact k x h2
theorem Gd_l {f : Int} {p : Nat} {P : List Int × Tk → Prop} (h : 1 ≤ f ∧ f ≤ 4) : Gd (.inl (f, p)) P := Or.inl ⟨_, rfl, h⟩
theorem Gd_r {x : List Int × Tk} {P : List Int × Tk → Prop} (h : P x) : Gd (.inr x) P := Or.inr ⟨_, rfl, h⟩
theorem okS_op {p o : Int} {c1 c : Bool} (h : OpT c1 c o) : okS p o := Or.inr (Or.inr ⟨h.rng.1, h.rng.2.1⟩)
theorem nx_lt {b : Bts} {n : Nat} (hb : BtO b n) {T : Tk} (hT : TkO n T) (h : ¬ T.1 = 0) : TkO n (nx b n T) ∧ T.2.1 + 1 ≤ (nx b n T).2.1 := by
  have k := nx_ok hb hT
  have := hT.2.2.2.2.2.1 h
  exact ⟨k.1, by omega⟩
theorem isW_1 {b : Bts} {T : Tk} {a : Nat} (h : isW b T a = true) : ¬ T.1 = 0 := by
  have := (isW_i.mp h).1
  omega
theorem isS_1 {T : Tk} {c : Int} (h : isS T c = true) : ¬ T.1 = 0 := by
  unfold isS at h
  have := (of_decide_eq_true h).1
  omega
theorem pLoop_good {b : Bts} {n : Nat} {p : Int} (hb : BtO b n) {rc : Tk → PR} {op : Tk → Int} {c : Bool} {m m2 : Nat} (hm : m2 + 1 ≤ m)
    (hop : ∀ T : Tk, ¬ op T = 0 → ¬ T.1 = 0 ∧ OpT c c (op T)) (hrec : ∀ T : Tk, TkO n T → Gd (rc T) (PostR n p c m2 T)) {T0 : Tk} :
    ∀ (f : Nat) (s : List Int) (T : Tk), PostR n p c m T0 (s, T) → Gd (pLoop rc op b n f s T) (PostR n p c m T0)
  | 0, s, T, h => Gd_r h
  | f + 1, s, T, h => by
    unfold pLoop
    by_cases q : op T = 0
    · rw [if_pos q]; exact Gd_r h
    · rw [if_neg q]
      obtain ⟨o1, o2⟩ := hop T q
      have k : TkO n (nx b n T) ∧ T.2.1 + 1 ≤ (nx b n T).2.1 := nx_lt hb h.1 o1
      obtain ⟨h1, h2, h3, h4⟩ := h
      rcases hrec _ k.1 with ⟨e, e1, e2⟩ | ⟨x, x1, x2⟩
      · rw [e1]; exact Or.inl ⟨e, rfl, e2⟩
      · rw [x1]
        obtain ⟨y1, y2, y3, y4⟩ := x2
        refine pLoop_good hb hm hop hrec f _ _ ⟨y1, ?_, ?_, Cg_op h4 y4 (Nat.le_refl _) hm o2⟩
        · simp only [List.length_append, List.length_cons, List.length_nil]
          have h2' : T0.2.1 + s.length ≤ T.2.1 := h2
          omega
        · intro z hz
          simp only [List.mem_append, List.mem_singleton] at hz
          rcases hz with (hz | hz) | hz
          · exact h3 z hz
          · exact y3 z hz
          · rw [hz]; exact okS_op o2
theorem pNot_ok {b : Bts} {n : Nat} (hb : BtO b n) : ∀ (f : Nat) (t : Bool) (T : Tk), TkO n T → TkO n (pNot b n f t T).2 ∧ T.2.1 ≤ (pNot b n f t T).2.2.1 ∧ ((pNot b n f t T).1 = t ∨ T.2.1 + 1 ≤ (pNot b n f t T).2.2.1)
  | 0, t, T, h => ⟨h, Nat.le_refl _, Or.inl rfl⟩
  | f + 1, t, T, h => by
    unfold pNot
    by_cases q : isW b T 10 = true
    · rw [if_pos q]
      have k := nx_lt hb h (isW_1 q)
      have ih := pNot_ok hb f (!t) _ k.1
      exact ⟨ih.1, by omega, Or.inr (by omega)⟩
    · rw [if_neg q]; exact ⟨h, Nat.le_refl _, Or.inl rfl⟩
theorem opOr_T (b : Bts) (T : Tk) (h : ¬ opOr b T = 0) : ¬ T.1 = 0 ∧ OpT true true (opOr b T) := by
  unfold opOr at *
  by_cases q : isW b T 23 = true
  · rw [if_pos q]; exact ⟨isW_1 q, Or.inr (Or.inr ⟨Or.inr rfl, rfl⟩)⟩
  · rw [if_neg q] at h; exact absurd rfl h
theorem opAnd_T (b : Bts) (T : Tk) (h : ¬ opAnd b T = 0) : ¬ T.1 = 0 ∧ OpT true true (opAnd b T) := by
  unfold opAnd at *
  by_cases q : isW b T 22 = true
  · rw [if_pos q]; exact ⟨isW_1 q, Or.inr (Or.inr ⟨Or.inl rfl, rfl⟩)⟩
  · rw [if_neg q] at h; exact absurd rfl h
theorem opSum_T (T : Tk) (h : ¬ opSum T = 0) : ¬ T.1 = 0 ∧ OpT false false (opSum T) := by
  unfold opSum at *
  by_cases q : isS T 43 = true
  · rw [if_pos q]; exact ⟨isS_1 q, Or.inl ⟨by simp, rfl⟩⟩
  · rw [if_neg q] at h ⊢
    by_cases q2 : isS T 45 = true
    · rw [if_pos q2]; exact ⟨isS_1 q2, Or.inl ⟨by simp, rfl⟩⟩
    · rw [if_neg q2] at h; exact absurd rfl h
theorem opMul_T (T : Tk) (h : ¬ opMul T = 0) : ¬ T.1 = 0 ∧ OpT false false (opMul T) := by
  unfold opMul at *
  by_cases q : isS T 42 = true
  · rw [if_pos q]; exact ⟨isS_1 q, Or.inl ⟨by simp, rfl⟩⟩
  · rw [if_neg q] at h ⊢
    by_cases q2 : isS T 47 = true
    · rw [if_pos q2]; exact ⟨isS_1 q2, Or.inl ⟨by simp, rfl⟩⟩
    · rw [if_neg q2] at h; exact absurd rfl h
theorem opCmp_T (T : Tk) (h : ¬ opCmp T = 0) : ¬ T.1 = 0 ∧ OpT false true (opCmp T) := by
  unfold opCmp at *
  by_cases q : isS T 60 = true
  · rw [if_pos q]; exact ⟨isS_1 q, Or.inr (Or.inl (by simp))⟩
  · rw [if_neg q] at h ⊢
    by_cases q2 : isS T 62 = true
    · rw [if_pos q2]; exact ⟨isS_1 q2, Or.inr (Or.inl (by simp))⟩
    · rw [if_neg q2] at h ⊢
      by_cases q3 : isS T 61 = true
      · rw [if_pos q3]; exact ⟨isS_1 q3, Or.inr (Or.inl (by simp))⟩
      · rw [if_neg q3] at h; exact absurd rfl h
theorem nameS_r (b : Bts) (p : Int) (T : Tk) : nameS b p T = -1 ∨ (bpa p ≤ nameS b p T ∧ nameS b p T < bpa p + npa p) := by
  unfold nameS bpa npa
  by_cases p3 : p = 3
  · rw [if_pos p3, if_pos p3, if_pos p3]
    repeat' split
    all_goals omega
  · rw [if_neg p3, if_neg p3, if_neg p3]
    by_cases p4 : p = 4
    · rw [if_pos p4, if_pos p4, if_pos p4]
      repeat' split
      all_goals omega
    · rw [if_neg p4, if_neg p4, if_neg p4]
      repeat' split
      all_goals omega
def need (y o : Nat) : Nat := (8 - y) + 8 * (4 - o)
def dep (y o : Nat) : Nat := 2 * (4 - o) + (if y ≤ 2 then 6 - y else if y ≤ 4 then 4 else 8 - y)
theorem pEnd_good {b : Bts} {n : Nat} {p : Int} (hb : BtO b n) {c : Bool} {m : Nat} {T : Tk} {k : Int} {x : List Int × Tk} (h : PostR n p c m T x) : Gd (pEnd b n k x) (PostR n p c m T) := by
  unfold pEnd
  by_cases q : isS x.2 k = true
  · rw [if_pos q]
    obtain ⟨h1, h2, h3, h4⟩ := h
    have g := nx_lt hb h1 (isS_1 q)
    exact Gd_r ⟨g.1, by show T.2.1 + x.1.length ≤ (nx b n x.2).2.1; omega, h3, h4⟩
  · rw [if_neg q]; exact Gd_l (by decide)
theorem PostR.up {n : Nat} {p : Int} {c : Bool} {m m' : Nat} {T T' : Tk} {x : List Int × Tk} (h : PostR n p c m T x) (hm : m ≤ m') (hT : T'.2.1 ≤ T.2.1) : PostR n p c m' T' x := ⟨h.1, by have := h.2.1; omega, h.2.2.1, h.2.2.2.mono hm⟩
theorem Gd.up {r : PR} {P Q : List Int × Tk → Prop} (h : Gd r P) (k : ∀ x, P x → Q x) : Gd r Q := by
  rcases h with h | ⟨x, h1, h2⟩
  · exact Or.inl h
  · exact Or.inr ⟨x, h1, k x h2⟩
theorem PO_good {b : Bts} {n : Nat} (hb : BtO b n) (p : Int) : ∀ (d y o : Nat) (T : Tk), y ≤ 7 → o ≤ 4 → need y o ≤ d → TkO n T → Gd (PO b n p d y o T) (PostR n p (decide (y ≤ 4)) (dep y o) T)
  | 0, y, o, T, hy, ho, hn, _ => by unfold need at hn; omega
  | d + 1, y, o, T, hy, ho, hn, hT => by
    have ih := PO_good hb p d
    unfold need at hn ih
    show Gd (pStep b n p (PO b n p d) y o T) _
    generalize PO b n p d = rc at ih
    match y, hy, hn with
    | 0, _, hn =>
      refine Gd_bind (ih 1 o T (by omega) ho (by omega) hT) (fun x hx => ?_)
      exact pLoop_good hb (m2 := dep 1 o) (by unfold dep; simp) (opOr_T b) (fun T' hT' => ih 1 o T' (by omega) ho (by omega) hT') 300 x.1 x.2 (hx.up (by unfold dep; simp) (Nat.le_refl _))
    | 1, _, hn =>
      refine Gd_bind (ih 2 o T (by omega) ho (by omega) hT) (fun x hx => ?_)
      exact pLoop_good hb (m2 := dep 2 o) (by unfold dep; simp) (opAnd_T b) (fun T' hT' => ih 2 o T' (by omega) ho (by omega) hT') 300 x.1 x.2 (hx.up (by unfold dep; simp) (Nat.le_refl _))
    | 2, _, hn =>
      have k := pNot_ok hb 300 false T hT
      show Gd (bindR (rc (if isS (pNot b n 300 false T).2 91 = true then 3 else 4) o (pNot b n 300 false T).2) (pTurn (pNot b n 300 false T).1)) _
      generalize pNot b n 300 false T = q at k
      obtain ⟨k1, k2, k3⟩ := k
      have go : ∀ y' : Nat, y' = 3 ∨ y' = 4 → Gd (bindR (rc y' o q.2) (pTurn q.1)) (PostR n p (decide (2 ≤ 4)) (dep 2 o) T) := fun y' hy' => by
        have e1 : dep y' o = dep 2 o := by rcases hy' with rfl | rfl <;> (unfold dep; simp)
        have e2 : (decide (y' ≤ 4)) = true := by rcases hy' with rfl | rfl <;> rfl
        have g := ih y' o q.2 (by omega) ho (by omega) k1
        rw [e1, e2] at g
        refine Gd_bind g (fun x hx => ?_)
        obtain ⟨x1, x2, x3, x4⟩ := hx
        unfold pTurn
        refine Gd_r ⟨x1, ?_, fun s hs => ?_, ?_⟩
        · show T.2.1 + (if q.1 = true then x.1 ++ [-9] else x.1).length ≤ x.2.2.1
          by_cases c : q.1 = true
          · rw [if_pos c]
            simp only [List.length_append, List.length_cons, List.length_nil]
            have : T.2.1 + 1 ≤ q.2.2.1 := by
              rcases k3 with k3 | k3
              · rw [c] at k3; cases k3
              · exact k3
            omega
          · rw [if_neg c]; omega
        · have hs' : s ∈ (if q.1 = true then x.1 ++ [-9] else x.1) := hs
          by_cases c : q.1 = true
          · rw [if_pos c] at hs'
            rcases List.mem_append.mp hs' with z | z
            · exact x3 s z
            · rw [List.mem_singleton] at z; rw [z]; exact Or.inr (Or.inr ⟨by decide, by decide⟩)
          · rw [if_neg c] at hs'; exact x3 s hs'
        · show Cg true (dep 2 o) (if q.1 = true then x.1 ++ [-9] else x.1)
          by_cases c : q.1 = true
          · rw [if_pos c]; exact Cg_not x4 (by unfold dep; simp)
          · rw [if_neg c]; exact x4
      by_cases c : isS q.2 91 = true
      · rw [if_pos c]; exact go 3 (Or.inl rfl)
      · rw [if_neg c]; exact go 4 (Or.inr rfl)
    | 3, _, hn =>
      show Gd (if o < 4 then bindR (rc 0 (o + 1) (nx b n T)) (pEnd b n 93) else .inl (4, T.2.1)) _
      by_cases c : o < 4
      · rw [if_pos c]
        have k := nx_ok hb hT
        have g := ih 0 (o + 1) _ (by omega) (by omega) (by omega) k.1
        have tt := hT.2.2.2.1
        refine Gd_bind g (fun x hx => pEnd_good hb (hx.up ?_ (by omega)))
        unfold dep
        simp
        omega
      · rw [if_neg c]; exact Gd_l (by decide)
    | 4, _, hn =>
      refine Gd_bind (ih 5 o T (by omega) ho (by omega) hT) (fun x hx => ?_)
      unfold pCmp2
      by_cases c : opCmp x.2 = 0
      · rw [if_pos c]; exact Gd_l (by decide)
      · rw [if_neg c]
        obtain ⟨o1, o2⟩ := opCmp_T x.2 c
        have k := nx_lt hb hx.1 o1
        refine Gd_bind (ih 5 o _ (by omega) ho (by omega) k.1) (fun z hz => Gd_r ?_)
        obtain ⟨x1, x2, x3, x4⟩ := hx
        obtain ⟨z1, z2, z3, z4⟩ := hz
        refine ⟨z1, ?_, fun s hs => ?_, ?_⟩
        · show T.2.1 + (x.1 ++ z.1 ++ [opCmp x.2]).length ≤ z.2.2.1
          simp only [List.length_append, List.length_cons, List.length_nil]
          omega
        · have hs' : s ∈ x.1 ++ z.1 ++ [opCmp x.2] := hs
          simp only [List.mem_append, List.mem_singleton] at hs'
          rcases hs' with (z | z) | z
          · exact x3 s z
          · exact z3 s z
          · rw [z]; exact okS_op o2
        · exact Cg_op (c1 := false) x4 z4 (by unfold dep; simp) (by unfold dep; simp) o2
    | 5, _, hn =>
      refine Gd_bind (ih 6 o T (by omega) ho (by omega) hT) (fun x hx => ?_)
      exact pLoop_good hb (m2 := dep 6 o) (by unfold dep; simp) opSum_T (fun T' hT' => ih 6 o T' (by omega) ho (by omega) hT') 300 x.1 x.2 (hx.up (by unfold dep; simp) (Nat.le_refl _))
    | 6, _, hn =>
      refine Gd_bind (ih 7 o T (by omega) ho (by omega) hT) (fun x hx => ?_)
      exact pLoop_good hb (m2 := dep 7 o) (by unfold dep; simp) opMul_T (fun T' hT' => ih 7 o T' (by omega) ho (by omega) hT') 300 x.1 x.2 (hx.up (by unfold dep; simp) (Nat.le_refl _))
    | 7, _, hn =>
      show Gd (if T.1 = 2 then .inr ([T.2.2.2], nx b n T) else if T.1 = 1 then (if nameS b p T = -1 then .inl (3, T.2.1) else .inr ([10000 + nameS b p T], nx b n T))
        else if isS T 40 = true then (if o < 4 then bindR (rc 5 (o + 1) (nx b n T)) (pEnd b n 41) else .inl (4, T.2.1)) else .inl (1, T.2.1)) _
      obtain ⟨t1, t2, t3, t4, t5, t6, t7, t8⟩ := id hT
      have d1 : 1 ≤ dep 7 o := by unfold dep; simp
      by_cases c1 : T.1 = 2
      · rw [if_pos c1]
        have k := nx_lt hb hT (by omega)
        refine Gd_r ⟨k.1, by show T.2.1 + 1 ≤ (nx b n T).2.1; omega, fun s hs => ?_, (Cg_num ⟨t7, t8⟩).mono d1⟩
        have hs' : s ∈ [T.2.2.2] := hs
        rw [List.mem_singleton] at hs'
        rw [hs']
        exact Or.inl ⟨t7, t8⟩
      · rw [if_neg c1]
        by_cases c2 : T.1 = 1
        · rw [if_pos c2]
          by_cases c3 : nameS b p T = -1
          · rw [if_pos c3]; exact Gd_l (by decide)
          · rw [if_neg c3]
            have k := nx_lt hb hT (by omega)
            have r := (nameS_r b p T).resolve_left c3
            have hn := npa_le p
            refine Gd_r ⟨k.1, by show T.2.1 + 1 ≤ (nx b n T).2.1; omega, fun s hs => ?_, (Cg_name ⟨by omega, by omega⟩).mono d1⟩
            have hs' : s ∈ [10000 + nameS b p T] := hs
            rw [List.mem_singleton] at hs'
            rw [hs']
            exact Or.inr (Or.inl ⟨by omega, by omega⟩)
        · rw [if_neg c2]
          by_cases c3 : isS T 40 = true
          · rw [if_pos c3]
            by_cases c : o < 4
            · rw [if_pos c]
              have k := nx_ok hb hT
              have g := ih 5 (o + 1) _ (by omega) (by omega) (by omega) k.1
              refine Gd_bind g (fun x hx => pEnd_good hb (hx.up ?_ (by omega)))
              unfold dep
              simp
              omega
            · rw [if_neg c]; exact Gd_l (by decide)
          · rw [if_neg c3]; exact Gd_l (by decide)
