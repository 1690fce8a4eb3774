/-! ORDERS' CLAUSES, the class's side -/
theorem RsC.tx {r : Nat} (hr : Rr r) {L : List Nat} {ν ξ : Mem} {S : List Cl} (h : RsC r ν S) (f : Fr L ν ξ) (hL : (L.all fun q => !(gRuc q)) = true) : RsC r ξ S := by
  obtain ⟨h1, h2, h3, h4, h5⟩ := h
  have k := fun q (hq : q = r + 1 ∨ q = r + 2 ∨ q = r + 3 ∨ q = gid r 3 ∨ q = gid r 4 ∨ q = gid r 5 ∨ q = gid r 6) j => f.rdI (j := j) (all_nl hL (ru_g hr hq))
  exact ⟨h1.tx hr f hL, by rw [k _ (by simp)]; exact h2, by rw [k _ (by simp)]; exact h3, by rw [k _ (by simp)]; exact h4, fun p p0 p1 => by rw [k _ (by simp), k _ (by simp)]; exact h5 p p0 p1⟩
theorem kpa_inj {p q : Int} (h0 : 0 ≤ p ∧ p < 5) (h1 : 0 ≤ q ∧ q < 5) : kpa p = kpa q ↔ p = q := by
  unfold kpa
  by_cases c : p = 4
  · rw [if_pos c]
    by_cases c2 : q = 4
    · rw [if_pos c2]; omega
    · rw [if_neg c2]; omega
  · rw [if_neg c]
    by_cases c2 : q = 4
    · rw [if_pos c2]; omega
    · rw [if_neg c2]
theorem kpa_no {p : Int} (h0 : 0 ≤ p ∧ p < 5) : ¬ kpa p = 4 ∧ ¬ kpa p = 5 ∧ ¬ kpa p = 6 := by
  unfold kpa
  split <;> omega
theorem pkp_kpa {p : Int} (h0 : 0 ≤ p ∧ p < 5) : pkp (kpa p) = p := by
  unfold kpa pkp
  by_cases c : p = 4
  · rw [if_pos c, if_pos rfl, c]
  · rw [if_neg c, if_neg (by omega)]
theorem RsC.code {r : Nat} {ν ξ : Mem} {S : List Cl} {p : Int} (hp : 0 ≤ p ∧ p < 5) {code : List Int} (h : RsC r ν S) (s : StpC r ξ (stepL S ++ code.map (enc p))) (pa : PaC r p ((stepL S).length : Int) (((stepL S).length : Int) + (code.length : Int)) ν ξ) : RsC r ξ (S ++ [(kpa p, 0, (codeL S).length, code)]) := by
  obtain ⟨h1, h2, h3, h4, h5⟩ := h
  obtain ⟨p1, p2, p3, p4, p5⟩ := pa
  have kn := kpa_no hp
  refine ⟨?_, ?_, ?_, ?_, fun q q0 q1 => ?_⟩
  · rw [stepL_s]
    show StpC r ξ (stepL S ++ code.map (enc (pkp (kpa p))))
    rw [pkp_kpa hp]
    exact s
  · rw [lst_s, if_neg kn.1, p3]; exact h2
  · rw [lst_s, if_neg kn.2.1, p4]; exact h3
  · rw [lst_s, if_neg kn.2.2, p5]; exact h4
  · rw [lst_s, lst_s, p1, p2]
    show (if q = p then _ else _) = (if kpa p = kpa q then _ else _) ∧ (if q = p then _ else _) = (if kpa p = kpa q then _ else _)
    have ki := kpa_inj hp ⟨q0, q1⟩
    rw [stepL_len]
    by_cases c : q = p
    · rw [if_pos c, if_pos c, if_pos (ki.mpr c.symm), if_pos (ki.mpr c.symm)]
      exact ⟨rfl, rfl⟩
    · rw [if_neg c, if_neg c, if_neg (fun z => c (ki.mp z).symm), if_neg (fun z => c (ki.mp z).symm)]
      exact h5 q q0 q1
theorem RsC.num {r : Nat} {ν ξ : Mem} {S : List Cl} {wt v : Int} {c : Nat} {x : Int} (hw : wt = 4 ∧ c = gid r 4 ∧ x = v ∨ wt = 5 ∧ c = gid r 5 ∧ x = v ∨ wt = 6 ∧ c = gid r 6 ∧ x = 1) (h : RsC r ν S) (hx : Rg x) (e : ξ = sI ν c 0 x) : RsC r ξ (S ++ [(wt, v, (codeL S).length, [])]) := by
  obtain ⟨h1, h2, h3, h4, h5⟩ := h
  have rd : ∀ (q : Nat) (j : Int), rI ξ q j = if q = c ∧ j = 0 then x else rI ν q j := fun q j => by
    rw [e, rI_sI, w_id hx.1 hx.2]
  have n : (∀ q : Nat, q = r + 1 ∨ q = r + 2 ∨ q = r + 3 ∨ q = gid r 3 → ¬ q = c) := fun q hq => by
    unfold gid at *
    omega
  refine ⟨?_, ?_, ?_, ?_, fun q q0 q1 => ?_⟩
  · rw [stepL_s]
    show StpC r ξ (stepL S ++ [])
    rw [List.append_nil]
    exact ⟨by rw [rd, if_neg (fun z => n _ (by simp) z.1)]; exact h1.1, fun j hj => by rw [rd, if_neg (fun z => n _ (by simp) z.1)]; exact h1.2 j hj⟩
  · rw [lst_s, rd]
    show (if gid r 4 = c ∧ (0 : Int) = 0 then x else _) = (if wt = 4 then v else _)
    by_cases c4 : wt = 4
    · rw [if_pos c4, if_pos ⟨by omega, rfl⟩]; omega
    · rw [if_neg c4, if_neg (fun z => by have := z.1; unfold gid at *; omega)]; exact h2
  · rw [lst_s, rd]
    show (if gid r 5 = c ∧ (0 : Int) = 0 then x else _) = (if wt = 5 then v else _)
    by_cases c4 : wt = 5
    · rw [if_pos c4, if_pos ⟨by omega, rfl⟩]; omega
    · rw [if_neg c4, if_neg (fun z => by have := z.1; unfold gid at *; omega)]; exact h3
  · rw [lst_s, rd]
    show (if gid r 6 = c ∧ (0 : Int) = 0 then x else _) = (if wt = 6 then 1 else _)
    by_cases c4 : wt = 6
    · rw [if_pos c4, if_pos ⟨by omega, rfl⟩]; omega
    · rw [if_neg c4, if_neg (fun z => by have := z.1; unfold gid at *; omega)]; exact h4
  · have kn := kpa_no ⟨q0, q1⟩
    have r2 : rI ξ (r + 2) q = rI ν (r + 2) q := by rw [rd, if_neg (fun z => n _ (Or.inr (Or.inl rfl)) z.1)]
    have r3 : rI ξ (r + 3) q = rI ν (r + 3) q := by rw [rd, if_neg (fun z => n _ (Or.inr (Or.inr (Or.inl rfl))) z.1)]
    have nw : ¬ ((wt, v, (codeL S).length, ([] : List Int)) : Cl).1 = kpa q := by show ¬ wt = kpa q; omega
    rw [lst_s, lst_s, r2, r3, if_neg nw, if_neg nw]
    exact h5 q q0 q1
theorem pCond_good {b : Bts} {n : Nat} (hb : BtO b n) {p : Int} {T : Tk} (hT : TkO n T) : Gd (pCond b n p T) (PostR n p true (dep 0 0) T) := by
  unfold pCond
  by_cases c : isW b T 9 = true
  · rw [if_pos c]
    have k := nx_lt hb hT (isW_1 c)
    exact (PO_good hb p 60 0 0 _ (by omega) (by omega) (by decide) k.1).up (fun x hx => hx.up (Nat.le_refl _) (by omega))
  · rw [if_neg c]; exact Gd_l (by decide)
def skR (μ : Mem) (k : Bool → Mem → Prop) : Prop := f_Tape_skipWord 9 μ (fun r48 μ_5 => if r48 = true then (R_O 60 0 0 μ_5 (fun r56 μ_6 => ∀ x67 : Bool, x67 = (if r56 = true then true else false) → k x67 μ_6)) else (k false μ_5))
theorem c_skipWord {b : Bts} {n : Nat} (hb : BtO b n) {T : Tk} (hT : TkO n T) {a : Nat} (ha : a < 29) {ν : Mem} (hB : BtC b n ν) (ht : TkC ν T) {K : Bool → Mem → Prop} (h1 : isW b T a = true → ∀ ξ : Mem, Fr txL ν ξ → TkC ξ (nx b n T) → K true ξ) (h2 : ¬ isW b T a = true → ∀ ξ : Mem, Fr ftL ν ξ → rI ξ 2286 0 = 1 → rI ξ 2287 0 = (T.2.1 : Int) → K false ξ) : f_Tape_skipWord a ν K := by
  unfold f_Tape_skipWord
  refine c_isWord hb hT ha hB ht ?_
  exact ite_i (fun q => c_nx hb hT hB ht (h1 q)) (fun q => c_fail (by decide) hb.1 hT ht (h2 q))
/-- behind the "if" of a condition: the condition, then the part's end -/
def kcon (K : Bool → Mem → Prop) (v : Bool) (μ : Mem) : Prop := if v = true then (R_O 60 0 0 μ (fun r94 μ_5 => ∀ x105 : Bool, x105 = (if r94 = true then true else false) → ∃ r107 : Nat, rR μ_5 9065 0 = some r107 ∧ isRu r107 = true ∧ f_Rules_endPart r107 (rI μ_5 9066 0) μ_5 (fun μ_6 => K x105 μ_6))) else (∃ r107 : Nat, rR μ 9065 0 = some r107 ∧ isRu r107 = true ∧ f_Rules_endPart r107 (rI μ 9066 0) μ (fun μ_6 => K false μ_6))
def condR (K : Bool → Mem → Prop) (p : Int) (ν : Mem) : Prop := f_OrdR_beginPart p ν (fun μ_3 => f_Tape_skipWord 9 μ_3 (fun r51 μ_4 => kcon K r51 μ_4))
theorem c_cond {b : Bts} {n r : Nat} {p : Int} (hb : BtO b n) (hr : Rr r) (hru : isRu r = true) (hp : 0 ≤ p ∧ p < 5) {T : Tk} {S : List Cl} {ν : Mem} (hB : BtC b n ν) (hT : TkO n T) (ht : TkC ν T) (hR : rR ν 9065 0 = some r) (hS : RsC r ν S) (hl : (stepL S).length ≤ T.2.1) {K : Bool → Mem → Prop}
    (h : onR (pCond b n p T) (FaR r ν K) (fun x => ∀ ξ : Mem, Fr (orsL r) ν ξ → TkC ξ x.2 → RsC r ξ (S ++ [(kpa p, 0, (codeL S).length, x.1)]) → K true ξ)) : condR K p ν := by
  unfold condR f_OrdR_beginPart
  refine c_part (o := 0) (R := skR) (K := K) hb hr hru hp hB hT ht hR hS.1 hl (pCond_good hb hT) (fun ξ K' O g => ?_) (onR_mono h (fun f q z => z) (fun x z ξ f t s pa => z ξ f t (hS.code hp s pa)))
  unfold skR
  unfold pCond at g
  refine c_skipWord hb O.2.1 (by decide) O.1 O.2.2.1 (fun c ξ1 f1 t1 => ?_) (fun c ο f a k => ?_)
  · rw [if_pos c] at g
    rw [if_pos rfl]
    have k := nx_lt hb O.2.1 (isW_1 c)
    have O1 := O.nx hr hb f1 t1
    refine c_PO hb hr hru ⟨hp.1, by omega⟩ 60 0 0 (by omega) (by decide) (by omega) (by decide) 60 (by decide) _ _ ξ1 _ O1 (by omega) ?_
    refine onR_mono g (fun f q z ο fo a u x ex => ?_) (fun y z ο fo t s x ex => ?_)
    · rw [if_neg (by decide)] at ex
      rw [ex]
      exact z ο ((f1.tx rfl).trans fo) a u
    · rw [if_pos rfl] at ex
      rw [ex]
      exact z ο ((f1.ts rfl).trans fo) t s
  · rw [if_neg c] at g
    rw [if_neg (by decide)]
    exact g ο (f.tx rfl) a k
theorem c_cards {b : Bts} {n r : Nat} (hb : BtO b n) (hr : Rr r) (hru : isRu r = true) {T : Tk} {S : List Cl} {ν : Mem} (hB : BtC b n ν) (hT : TkO n T) (ht : TkC ν T) (hR : rR ν 9065 0 = some r) (hS : RsC r ν S) (hl : (stepL S).length ≤ T.2.1) {K : Bool → Mem → Prop}
    (h : onR (PO b n 3 60 5 0 T) (FaR r ν K) (fun x => ∀ ξ : Mem, Fr (orsL r) ν ξ → TkC ξ x.2 → RsC r ξ (S ++ [(3, 0, (codeL S).length, x.1)]) → K true ξ)) : f_OrdR_beginPart 3 ν (fun μ_12 => R_O 60 4 0 μ_12 (fun r127 μ_13 => ∃ r132 : Nat, rR μ_13 9065 0 = some r132 ∧ isRu r132 = true ∧ f_Rules_endPart r132 (rI μ_13 9066 0) μ_13 (fun μ_14 => K r127 μ_14))) := by
  unfold f_OrdR_beginPart
  refine c_part (o := 0) (p := 3) (R := R_O 60 4 0) (K := K) hb hr hru (by decide) hB hT ht hR hS.1 hl (PO_good hb 3 60 5 0 T (by omega) (by omega) (by decide) hT) (fun ξ K' O g => ?_) (onR_mono h (fun f q z => z) (fun x z ξ f t s pa => z ξ f t (hS.code (p := 3) (by decide) s pa)))
  exact c_PO hb hr hru (by decide) 60 5 0 (by omega) (by decide) (by omega) (by decide) 60 (by decide) T _ ξ K' O (by have := O.2.2.2.2.2.1; omega) g
theorem c_endAny {r : Nat} {v : Int} {ν : Mem} {K : Mem → Prop} (h : ∀ ξ : Mem, Fr [r + 3] ν ξ → K ξ) : f_Rules_endPart r v ν K := by
  unfold f_Rules_endPart
  intro μ7 e7
  exact h μ7 (by rw [e7]; exact FrP.set (FrP.refl _ _) (by simp [lel]))
/-- a condition that hasn't begun: its FAULT stays behind the part's end -/
theorem c_endF {r : Nat} (hr : Rr r) (hru : isRu r = true) {ν : Mem} (hR : rR ν 9065 0 = some r) {f0 : Int} {q0 : Nat} {K : Bool → Mem → Prop} (h : FaR r ν K f0 q0) (a : rI ν 2286 0 = f0) (k : rI ν 2287 0 = (q0 : Int)) : b_OrdR_readClause_104 K ν := by
  have g3 : gRuc (r + 3) = true := ru_g hr (by simp)
  have nn : ∀ q : Nat, gRuc q = false → lel [r + 3] q = false := fun q hq => lel_f (fun m => by
    simp only [List.mem_cons, List.not_mem_nil, or_false] at m
    rw [m, g3] at hq
    cases hq)
  unfold b_OrdR_readClause_104 b_OrdR_readClause_105
  refine ⟨r, hR, hru, c_endAny (fun ξ f => ?_)⟩
  rw [if_neg (by decide)]
  exact h ξ (Fr.ors (f.orR (fun q hq => by
    simp only [List.mem_cons, List.not_mem_nil, or_false] at hq
    rw [hq]; unfold raL; simp))) (by rw [f.rdI (nn _ rfl)]; exact a) (by rw [f.rdI (nn _ rfl)]; exact k)
/-- the class ahead of a clause, behind the clauses S -/
def OCL (b : Bts) (n r : Nat) (ν : Mem) (T : Tk) (S : List Cl) : Prop := BtC b n ν ∧ TkO n T ∧ TkC ν T ∧ rR ν 9065 0 = some r ∧ RsC r ν S
theorem c_clause_end {b : Bts} {n r : Nat} (hb : BtO b n) (hr : Rr r) {T : Tk} {S : List Cl} {x : Int × Int × List Int} {ν0 ν : Mem} (hB : BtC b n ν) (hT : TkO n T) (ht : TkC ν T) (hS : RsC r ν (S ++ [(x.1, x.2.1, (codeL S).length, x.2.2)])) (fr : Fr (orsL r) ν0 ν) {K : Bool → Mem → Prop}
    (h : onR (clEnd b n x T) (FaR r ν0 K) (fun x => ∀ ξ : Mem, Fr (orsL r) ν0 ξ → TkC ξ x.2 → RsC r ξ (S ++ [(x.1.1, x.1.2.1, (codeL S).length, x.1.2.2)]) → K true ξ)) : f_Tape_skipSign 59 ν (fun r200 μ_6 => ∀ x211 : Bool, x211 = (if r200 = true then true else false) → K x211 μ_6) := by
  unfold clEnd at h
  refine c_skipSign hb hT (by decide) hB ht (fun q ξ f t v ev => ?_) (fun q ξ f a k v ev => ?_)
  · rw [if_pos rfl] at ev
    rw [if_pos q] at h
    rw [ev]
    exact h ξ (fr.trans (f.orTs rfl)) t (hS.tx hr f rfl)
  · rw [if_neg (by decide)] at ev
    rw [if_neg q] at h
    rw [ev]
    exact h ξ (fr.ors.trans (f.orT rfl)) a k
theorem pCond_ok {b : Bts} {n : Nat} (hb : BtO b n) {p : Int} {T : Tk} (hT : TkO n T) {x : List Int × Tk} (h : pCond b n p T = .inr x) : TkO n x.2 := by
  rcases pCond_good hb (p := p) hT with ⟨e, e1, -⟩ | ⟨y, e1, e2⟩
  · rw [h] at e1; cases e1
  · rw [h] at e1; rw [Sum.inr.inj e1]; exact e2.1
theorem c_kind {b : Bts} {n : Nat} (hb : BtO b n) {T : Tk} (hT : TkO n T) {ν : Mem} (hB : BtC b n ν) (ht : TkC ν T) {K : Int → Mem → Prop} (h : K (clKind b T) ν) : f_OrdR_kindAtHand ν K := by
  unfold clKind at h
  unfold f_OrdR_kindAtHand
  refine c_isWord hb hT (by decide) hB ht (ite_i (fun q => ?_) (fun q => ?_))
  · rw [if_pos q] at h; exact h
  · rw [if_neg q] at h
    refine c_isWord hb hT (by decide) hB ht (ite_i (fun q => ?_) (fun q => ?_))
    · rw [if_pos q] at h; exact h
    · rw [if_neg q] at h
      refine c_isWord hb hT (by decide) hB ht (fun x ex => ?_)
      subst ex
      exact h
theorem clKind_r (b : Bts) (T : Tk) : clKind b T = -1 ∨ (0 ≤ clKind b T ∧ clKind b T ≤ 2 ∧ ¬ T.1 = 0) := by
  unfold clKind
  by_cases q : isW b T 6 = true
  · rw [if_pos q]; exact Or.inr ⟨by decide, by decide, isW_1 q⟩
  · rw [if_neg q]
    by_cases q : isW b T 7 = true
    · rw [if_pos q]; exact Or.inr ⟨by decide, by decide, isW_1 q⟩
    · rw [if_neg q]
      by_cases q : isW b T 8 = true
      · rw [if_pos q]; exact Or.inr ⟨by decide, by decide, isW_1 q⟩
      · rw [if_neg q]; exact Or.inl rfl
def SuR (r : Nat) (ν : Mem) (S : List Cl) (K : Bool → Mem → Prop) (x : (Int × Int × List Int) × Tk) : Prop := ∀ ξ : Mem, Fr (orsL r) ν ξ → TkC ξ x.2 → RsC r ξ (S ++ [(x.1.1, x.1.2.1, (codeL S).length, x.1.2.2)]) → K true ξ
def enK (K : Bool → Mem → Prop) (v : Bool) (μ : Mem) : Prop := if v = true then (f_Tape_skipSign 59 μ (fun r200 μ_6 => ∀ x211 : Bool, x211 = (if r200 = true then true else false) → K x211 μ_6)) else (K false μ)
theorem c_fin {b : Bts} {n r : Nat} (hb : BtO b n) (hr : Rr r) {S : List Cl} {ν : Mem} (hB : BtC b n ν) {wt : Int} {P : PR} (hP : ∀ x, P = .inr x → TkO n x.2) {K : Bool → Mem → Prop} (h : onR (clCod b n wt P) (FaR r ν K) (SuR r ν S K)) :
    onR P (FaR r ν (enK K)) (fun x => ∀ ξ : Mem, Fr (orsL r) ν ξ → TkC ξ x.2 → RsC r ξ (S ++ [(wt, 0, (codeL S).length, x.1)]) → enK K true ξ) := by
  unfold clCod at h
  cases P with
  | inl e =>
    intro ξ f a k
    unfold enK
    rw [if_neg (by decide)]
    exact h ξ f a k
  | inr x =>
    intro ξ f t s
    unfold enK
    rw [if_pos rfl]
    exact c_clause_end (x := (wt, 0, x.1)) hb hr (hB.of f (orsL_f hr rfl rfl) (orsL_f hr rfl rfl)) (hP x rfl) t s f h
theorem FaR.tr {r : Nat} {ν ξ : Mem} {K : Bool → Mem → Prop} {f : Int} {q : Nat} (h : FaR r ν K f q) (fr : Fr (orL r) ν ξ) : FaR r ξ K f q := fun ο fo a k => h ο (fr.trans fo) a k
def cwC (x : Int) : Int := if x = -1 then -1 else if x = 0 then 0 else x - 2
theorem c_cah {b : Bts} {n : Nat} (hb : BtO b n) {T : Tk} (hT : TkO n T) {ν : Mem} (hB : BtC b n ν) (ht : TkC ν T) {K : Int → Mem → Prop} (h : K (cwC (clWord b T)) ν) : f_OrdR_clauseAtHand ν K := by
  unfold clWord at h
  unfold f_OrdR_clauseAtHand
  refine c_isWord hb hT (by decide) hB ht (ite_i (fun q => ?_) (fun q => ?_))
  · rw [if_pos q] at h; exact h
  · rw [if_neg q] at h
    refine c_isWord hb hT (by decide) hB ht (ite_i (fun q => ?_) (fun q => ?_))
    · rw [if_pos q] at h; exact h
    · rw [if_neg q] at h
      refine c_isWord hb hT (by decide) hB ht (ite_i (fun q => ?_) (fun q => ?_))
      · rw [if_pos q] at h; exact h
      · rw [if_neg q] at h
        refine c_isWord hb hT (by decide) hB ht (ite_i (fun q => ?_) (fun q => ?_))
        · rw [if_pos q] at h; exact h
        · rw [if_neg q] at h
          refine c_isWord hb hT (by decide) hB ht (ite_i (fun q => ?_) (fun q => ?_))
          · rw [if_pos q] at h; exact h
          · rw [if_neg q] at h
            refine c_isWord hb hT (by decide) hB ht (fun x ex => ?_)
            subst ex
            by_cases q : isW b T 5 = true
            · rw [if_pos q] at h ⊢; exact h
            · rw [if_neg q] at h ⊢; exact h
theorem clWord_r (b : Bts) (T : Tk) : clWord b T = -1 ∨ ((clWord b T = 0 ∨ clWord b T = 3 ∨ clWord b T = 4 ∨ clWord b T = 5 ∨ clWord b T = 6 ∨ clWord b T = 7) ∧ ¬ T.1 = 0) := by
  unfold clWord
  by_cases q : isW b T 0 = true
  · rw [if_pos q]; exact Or.inr ⟨by simp, isW_1 q⟩
  · rw [if_neg q]
    by_cases q : isW b T 1 = true
    · rw [if_pos q]; exact Or.inr ⟨by simp, isW_1 q⟩
    · rw [if_neg q]
      by_cases q : isW b T 2 = true
      · rw [if_pos q]; exact Or.inr ⟨by simp, isW_1 q⟩
      · rw [if_neg q]
        by_cases q : isW b T 3 = true
        · rw [if_pos q]; exact Or.inr ⟨by simp, isW_1 q⟩
        · rw [if_neg q]
          by_cases q : isW b T 4 = true
          · rw [if_pos q]; exact Or.inr ⟨by simp, isW_1 q⟩
          · rw [if_neg q]
            by_cases q : isW b T 5 = true
            · rw [if_pos q]; exact Or.inr ⟨by simp, isW_1 q⟩
            · rw [if_neg q]; exact Or.inl rfl
theorem c_readClause {b : Bts} {n r : Nat} (hb : BtO b n) (hr : Rr r) (hru : isRu r = true) {T : Tk} {S : List Cl} {ν : Mem} (hO : OCL b n r ν T S) (hl : (stepL S).length ≤ T.2.1) (h15 : S.length ≤ 15) {K : Bool → Mem → Prop}
    (h : onR (rdCl b n S.length T) (FaR r ν K) (SuR r ν S K)) : f_OrdR_readClause (S.length : Int) ν K := by
  obtain ⟨hB, hT, ht, hR, hS⟩ := hO
  unfold f_OrdR_readClause
  refine c_cah hb hT hB ht ?_
  unfold rdCl at h
  have go : ∀ (wt : Int) {X : Mem → Prop}, clWord b T = wt → ¬ wt = -1 → ¬ T.1 = 0 → (∀ ξ : Mem, TkC ξ (nx b n T) → TkO n (nx b n T) → BtC b n ξ → RsC r ξ S → rR ξ 9065 0 = some r → (stepL S).length ≤ (nx b n T).2.1 → onR (clB b n wt (nx b n T)) (FaR r ξ K) (SuR r ξ S K) → X ξ) → (if w (S.length : Int) < 15 then (f_Tape_next ν (fun μ_3 => X μ_3)) else (f_Tape_fail 4 ν (fun r30 μ_19 => K r30 μ_19))) := fun wt {X} ew e1 hne hx => by
    rw [ew, if_neg e1] at h
    (try simp (disch := omega) only [w_id])
    refine ite_i (fun c => ?_) (fun c => ?_)
    · rw [if_neg (fun z => z (by omega))] at h
      have k := nx_lt hb hT hne
      refine c_nx hb hT hB ht (fun ξ f t => hx ξ t k.1 (hB.fr f rfl) (hS.tx hr f rfl) (rR_fr f hR) (by omega) ?_)
      exact onR_mono h (fun f0 q0 z => FaR.tr z (f.orT rfl)) (fun x z ο fo t s => z ο ((f.orTs rfl).trans fo) t s)
    · rw [if_pos (by omega)] at h
      exact c_fail (by decide) hb.1 hT ht (fun ξ f a k => h ξ (f.orT rfl) a k)
  have num : ∀ (wt most : Int) (c : Nat) (T1 : Tk) (ξ : Mem), 1 ≤ most ∧ most ≤ 999 → (wt = 4 ∧ c = gid r 4 ∨ wt = 5 ∧ c = gid r 5) → TkC ξ T1 → TkO n T1 → BtC b n ξ → RsC r ξ S → rR ξ 9065 0 = some r → onR (clNum b n wt most T1) (FaR r ξ K) (SuR r ξ S K) → ∀ Z : Int → Mem → Prop, (∀ (r112 : Int) (μ_9 : Mem), (∀ μ_10 : Mem, μ_10 = sI μ_9 c 0 r112 → rR μ_10 9065 0 = some r ∧ ∀ x133 : Bool, x133 = (if 0 < w (rI μ_10 c 0) then true else false) → if x133 = true then (f_Tape_skipSign 59 μ_10 (fun r200_2 μ_11 => ∀ x211_2 : Bool, x211_2 = (if r200_2 = true then true else false) → K x211_2 μ_11)) else (K false μ_10)) → Z r112 μ_9) → f_Tape_takeN most 0 ξ Z := fun wt most c T1 ξ hm hw t kT kB kS kR g Z hZ => by
    have gc : gRuc c = true := ru_g hr (by omega)
    have fc : ∀ (ξ : Mem) (v : Int), Fr (orsL r) ξ (sI ξ c 0 v) := fun ξ v => (fr1 ξ c 0 v).orR (fun q hq => by
      simp only [List.mem_cons, List.not_mem_nil, or_false] at hq
      unfold raL
      simp only [List.mem_cons, List.not_mem_nil, or_false]
      omega)
    have ne : ∀ q : Nat, gRuc q = false → ¬ q = c := fun q hq z => by rw [z, gc] at hq; cases hq
    unfold clNum at g
    have bad : ∀ (f0 : Int) (ο : Mem), Fr ftL ξ ο → FaR r ξ K f0 T1.2.1 → rI ο 2286 0 = f0 → rI ο 2287 0 = (T1.2.1 : Int) → ∀ μ_10 : Mem, μ_10 = sI ο c 0 0 → rR μ_10 9065 0 = some r ∧ ∀ x133 : Bool, x133 = (if 0 < w (rI μ_10 c 0) then true else false) → if x133 = true then (f_Tape_skipSign 59 μ_10 (fun r200_2 μ_11 => ∀ x211_2 : Bool, x211_2 = (if r200_2 = true then true else false) → K x211_2 μ_11)) else (K false μ_10) := fun f0 ο fo z a k μ10 e10 => by
      have f10 : Fr (orsL r) ο μ10 := by rw [e10]; exact fc ο 0
      refine ⟨rR_fr f10 (rR_fr fo kR), fun x ex => ?_⟩
      have z10 : rI μ10 c 0 = 0 := by rw [e10, rI_eq _ _ _ ⟨by decide, by decide⟩]
      rw [z10, if_neg (by decide)] at ex
      rw [ex, if_neg (by decide)]
      refine z μ10 ((fo.orT rfl).trans f10.ors) ?_ ?_
      · rw [e10, rI_sI, if_neg (fun y => ne _ rfl y.1)]; exact a
      · rw [e10, rI_sI, if_neg (fun y => ne _ rfl y.1)]; exact k
    refine c_takeN hb kT hm kB t (fun q ο fo a k => ?_) (fun q z ο fo a k => ?_) (fun q z ο fo to' => ?_)
    · rw [if_pos q] at g
      exact hZ _ _ (bad 1 ο fo g a k)
    · rw [if_neg (fun y => y q), if_pos (fun y => z ⟨y.1, y.2, fun _ => btl_0 _⟩)] at g
      exact hZ _ _ (bad 2 ο fo g a k)
    · have zz : 1 ≤ T1.2.2.2 ∧ T1.2.2.2 ≤ most := ⟨z.1, z.2.1⟩
      rw [if_neg (fun y => y q), if_neg (fun y => y zz)] at g
      refine hZ _ _ (fun μ10 e10 => ?_)
      have f10 : Fr (orsL r) ο μ10 := by rw [e10]; exact fc ο _
      have nn : ∀ q : Nat, gRuc q = false → lel [c] q = false := fun q hq => lel_f (fun m => by
        simp only [List.mem_cons, List.not_mem_nil, or_false] at m
        exact ne q hq m)
      have f10' : Fr [c] ο μ10 := by rw [e10]; exact fr1 _ _ _ _
      refine ⟨rR_fr f10 (rR_fr fo kR), fun x ex => ?_⟩
      have v10 : rI μ10 c 0 = T1.2.2.2 := by rw [e10, rI_eq _ _ _ ⟨by omega, by omega⟩]
      rw [v10, w_id (by omega) (by omega), if_pos (by omega)] at ex
      rw [ex, if_pos rfl]
      have s10 := RsC.num (v := T1.2.2.2) (wt := wt) (c := c) (by omega) (kS.tx hr fo rfl) ⟨by omega, by omega⟩ e10
      exact c_clause_end (x := (wt, T1.2.2.2, [])) hb hr ((kB.fr fo rfl).of f10' (nn _ rfl) (nn _ rfl)) (nx_ok hb kT).1 (to'.of f10' (nn _ rfl) (nn _ rfl) (nn _ rfl) (nn _ rfl)) s10 ((fo.orTs rfl).trans f10) g
  rcases clWord_r b T with e | ⟨e | e | e | e | e | e, hne⟩
  · rw [e, show cwC (-1) = -1 from rfl, if_pos rfl]
    rw [if_pos e] at h
    exact c_fail (by decide) hb.1 hT ht (fun ξ f a k => h ξ (f.orT rfl) a k)
  · rw [e, show cwC 0 = 0 from rfl, if_neg (by decide)]
    refine go 0 e (by decide) hne (fun ξ t kT kB kS kR kl g => ?_)
    rw [if_pos (by decide)]
    unfold clB at g
    rw [if_pos rfl] at g
    unfold f_OrdR_beginCondition
    rw [if_neg (by decide)]
    refine c_kind hb kT kB t ?_
    have kr := clKind_r b (nx b n T)
    unfold b_OrdR_beginCondition_13
    by_cases c : clKind b (nx b n T) = -1
    · rw [if_pos c] at g
      rw [c, if_pos (by decide)]
      refine c_fail (by decide) hb.1 kT t (fun ο f a k => ?_)
      show (if false = true then _ else b_OrdR_readClause_104 K ο)
      rw [if_neg (by decide)]
      exact c_endF hr hru (rR_fr f kR) (FaR.tr g (f.orT rfl)) a k
    · rw [if_neg c] at g
      obtain ⟨k0, k1, k2⟩ := kr.resolve_left c
      generalize clKind b (nx b n T) = p at *
      (try simp (disch := omega) only [w_id])
      rw [if_neg (by omega), if_neg (by omega)]
      refine c_nx hb kT kB t (fun ξ2 f2 t2 => ?_)
      have kk := nx_lt hb kT k2
      have kp : kpa p = p := by unfold kpa; rw [if_neg (by omega)]
      have g' : onR (clCod b n p (pCond b n p (nx b n (nx b n T)))) (FaR r ξ2 K) (SuR r ξ2 S K) := onR_mono g (fun f0 q0 z => FaR.tr z (f2.orT rfl)) (fun x z ο fo t s => z ο ((f2.orTs rfl).trans fo) t s)
      have g2 := c_fin hb hr (S := S) (kB.fr f2 rfl) (fun x hx => pCond_ok hb kk.1 hx) g'
      have fin : condR (enK K) p ξ2 := by
        refine c_cond (K := enK K) hb hr hru ⟨k0, by omega⟩ (kB.fr f2 rfl) kk.1 t2 (rR_fr f2 kR) (kS.tx hr f2 rfl) (by omega) ?_
        rw [kp]
        exact g2
      exact fin
  · rw [e, show cwC 3 = 1 from rfl, if_neg (by decide)]
    refine go 3 e (by decide) hne (fun ξ t kT kB kS kR kl g => ?_)
    rw [if_neg (by decide), if_pos (by decide)]
    unfold clB at g
    rw [if_neg (by decide), if_pos rfl] at g
    refine c_cards (K := enK K) hb hr hru kB kT t kR kS kl ?_
    refine c_fin hb hr (S := S) kB (fun x hx => ?_) g
    rcases PO_good hb 3 60 5 0 (nx b n T) (by omega) (by omega) (by decide) kT with ⟨e, e1, -⟩ | ⟨y, e1, e2⟩
    · rw [hx] at e1; cases e1
    · rw [hx] at e1; rw [Sum.inr.inj e1]; exact e2.1
  · rw [e, show cwC 4 = 2 from rfl, if_neg (by decide)]
    refine go 4 e (by decide) hne (fun ξ t kT kB kS kR kl g => ?_)
    rw [if_neg (by decide), if_neg (by decide), if_pos (by decide)]
    unfold clB at g
    rw [if_neg (by decide), if_neg (by decide), if_pos rfl] at g
    refine ⟨r, kR, hru, ?_⟩
    exact num 4 999 (gid r 4) _ ξ (by decide) (Or.inl ⟨rfl, rfl⟩) t kT kB kS kR g _ (fun v μ k => fun μ10 e10 => ⟨r, (k μ10 e10).1, hru, (k μ10 e10).2⟩)
  · rw [e, show cwC 5 = 3 from rfl, if_neg (by decide)]
    refine go 5 e (by decide) hne (fun ξ t kT kB kS kR kl g => ?_)
    rw [if_neg (by decide), if_neg (by decide), if_neg (by decide), if_pos (by decide)]
    unfold clB at g
    rw [if_neg (by decide), if_neg (by decide), if_neg (by decide), if_pos rfl] at g
    refine ⟨r, kR, hru, ?_⟩
    exact num 5 12 (gid r 5) _ ξ (by decide) (Or.inr ⟨rfl, rfl⟩) t kT kB kS kR g _ (fun v μ k => fun μ10 e10 => ⟨r, (k μ10 e10).1, hru, (k μ10 e10).2⟩)
  · rw [e, show cwC 6 = 4 from rfl, if_neg (by decide)]
    refine go 6 e (by decide) hne (fun ξ t kT kB kS kR kl g => ?_)
    rw [if_neg (by decide), if_neg (by decide), if_neg (by decide), if_neg (by decide), if_pos (by decide)]
    unfold clB at g
    rw [if_neg (by decide), if_neg (by decide), if_neg (by decide), if_neg (by decide), if_pos rfl] at g
    refine ⟨r, kR, hru, fun μ15 e15 => ?_⟩
    rw [if_neg (by decide)]
    have g6 : gRuc (gid r 6) = true := ru_g hr (by simp)
    have nn : ∀ q : Nat, gRuc q = false → lel [gid r 6] q = false := fun q hq => lel_f (fun m => by
      simp only [List.mem_cons, List.not_mem_nil, or_false] at m
      rw [m, g6] at hq
      cases hq)
    have f15 : Fr [gid r 6] ξ μ15 := by rw [e15]; exact fr1 _ _ _ _
    have s15 := RsC.num (v := 0) (x := 1) (wt := 6) (c := gid r 6) (Or.inr (Or.inr ⟨rfl, rfl, rfl⟩)) kS ⟨by decide, by decide⟩ e15
    exact c_clause_end (x := (6, 0, [])) hb hr (kB.of f15 (nn _ rfl) (nn _ rfl)) kT (t.of f15 (nn _ rfl) (nn _ rfl) (nn _ rfl) (nn _ rfl)) s15 (f15.orR (fun q hq => by
      simp only [List.mem_cons, List.not_mem_nil, or_false] at hq
      unfold raL
      simp only [List.mem_cons, List.not_mem_nil, or_false]
      omega)) g
  · rw [e, show cwC 7 = 5 from rfl, if_neg (by decide)]
    refine go 7 e (by decide) hne (fun ξ t kT kB kS kR kl g => ?_)
    rw [if_neg (by decide), if_neg (by decide), if_neg (by decide), if_neg (by decide), if_neg (by decide), if_pos (by decide)]
    unfold clB at g
    rw [if_neg (by decide), if_neg (by decide), if_neg (by decide), if_neg (by decide), if_neg (by decide)] at g
    unfold f_OrdR_beginCondition
    rw [if_pos (by decide)]
    unfold b_OrdR_beginCondition_13
    rw [if_neg (by decide), if_pos (by decide)]
    have fin : condR (enK K) 4 ξ := c_cond (K := enK K) (p := 4) hb hr hru (by decide) kB kT t kR kS kl (c_fin hb hr (S := S) kB (fun x hx => pCond_ok hb kT hx) g)
    exact fin
