/-! COMPOSITE: what is closed, what is kept; the class's making -/
def clS (σ : Sg) (F : Fl) (p : Int → Bool) : Fl := (fun y => if p y = true then 4 else if 100 ≤ y ∧ y < 100 + σ 15474 0 ∧ p (σ 118 (y - 100)) = true ∧ F.1 y = 0 then 3 else F.1 y, F.2)
theorem clS_rng {σ : Sg} {F : Fl} {p : Int → Bool} (h : ∀ x : Int, -1 ≤ F.1 x ∧ F.1 x ≤ 4) : ∀ x : Int, -1 ≤ (clS σ F p).1 x ∧ (clS σ F p).1 x ≤ 4 := fun x => by
  have := h x
  unfold clS
  simp only []
  split
  · omega
  · split
    · omega
    · exact this
theorem clS_0 {σ : Sg} {F : Fl} {p : Int → Bool} (h : ∀ y : Int, p y = false) : clS σ F p = F := by
  unfold clS
  refine Prod.ext (funext fun y => ?_) rfl
  simp only [h]
  rw [if_neg (by decide), if_neg (fun z => by have := z.2.2.1; cases this)]
theorem clS_s {σ : Sg} {F : Fl} {p : Int → Bool} {m : Int} (hm : 0 ≤ m ∧ m < 24) (hp : ∀ y : Int, p y = true → y < 100) : clF σ (clS σ F p) m 4 = clS σ F (fun y => p y || decide (y = m)) := by
  unfold clF clS
  refine Prod.ext (funext fun y => ?_) rfl
  simp only []
  by_cases c1 : y = m
  · rw [if_pos c1, decide_eq_true c1, Bool.or_true, if_pos rfl]
  · rw [if_neg c1, decide_eq_false c1, Bool.or_false]
    by_cases c2 : p y = true
    · have := hp y c2
      rw [if_neg (fun z => by omega), if_pos c2, if_pos c2]
    · rw [if_neg c2, if_neg c2]
      by_cases c3 : 100 ≤ y ∧ y < 100 + σ 15474 0 ∧ F.1 y = 0
      · obtain ⟨d1, d2, d3⟩ := c3
        by_cases c4 : p (σ 118 (y - 100)) = true
        · have e : (if 100 ≤ y ∧ y < 100 + σ 15474 0 ∧ p (σ 118 (y - 100)) = true ∧ F.1 y = 0 then (3 : Int) else F.1 y) = 3 := if_pos ⟨d1, d2, c4, d3⟩
          rw [e, if_neg (fun z => by have := z.2.2.2; omega)]
          exact (if_pos ⟨d1, d2, by rw [c4, Bool.true_or], d3⟩).symm
        · have e : (if 100 ≤ y ∧ y < 100 + σ 15474 0 ∧ p (σ 118 (y - 100)) = true ∧ F.1 y = 0 then (3 : Int) else F.1 y) = 0 := (if_neg (fun z => c4 z.2.2.1)).trans d3
          rw [e]
          by_cases c5 : σ 118 (y - 100) = m
          · rw [if_pos ⟨d1, d2, c5, rfl⟩]
            exact (if_pos ⟨d1, d2, by rw [decide_eq_true c5, Bool.or_true], d3⟩).symm
          · rw [if_neg (fun z => c5 z.2.2.1)]
            refine ((if_neg (fun z => ?_)).trans d3).symm
            have k := z.2.2.1
            rw [decide_eq_false c5, Bool.or_false] at k
            exact c4 k
      · have e : (if 100 ≤ y ∧ y < 100 + σ 15474 0 ∧ p (σ 118 (y - 100)) = true ∧ F.1 y = 0 then (3 : Int) else F.1 y) = F.1 y := if_neg (fun z => c3 ⟨z.1, z.2.1, z.2.2.2⟩)
        rw [e, if_neg (fun z => c3 ⟨z.1, z.2.1, z.2.2.2⟩), if_neg (fun z => c3 ⟨z.1, z.2.1, z.2.2.2⟩)]
theorem clS_nw {σ : Sg} {F : Fl} {p : Int → Bool} {M : Int} {l : List Ln} (hp : p M = false) (hM : M < 100) : clS σ (nwF F M l) p = nwF (clS σ F p) M l := by
  unfold nwF sRow sHow clS
  refine Prod.ext (funext fun y => ?_) rfl
  simp only []
  by_cases c : y = M
  · rw [if_pos c, if_pos c, c, hp, if_neg (by decide), if_neg (fun z => by omega)]
  · rw [if_neg c, if_neg c]
-- the lines that are kept
def kpLn (R : List (List Ln)) (k : Nat → Bool) : Nat → List Ln
  | 0 => []
  | n + 1 => if k (n + 1) = true then kpLn R k n ++ [(wyO R (n + 1), b2i (musA R (n + 1)), -1)] else kpLn R k n
theorem kpLn_len (R : List (List Ln)) (k : Nat → Bool) : ∀ n : Nat, (kpLn R k n).length = sm (fun n => (k n).toNat) n
  | 0 => rfl
  | n + 1 => by
    have ih := kpLn_len R k n
    have e : sm (fun n => (k n).toNat) (n + 1) = sm (fun n => (k n).toNat) n + (k (n + 1)).toNat := rfl
    unfold kpLn
    rw [e]
    by_cases c : k (n + 1) = true
    · rw [if_pos c, List.length_append, ih, c]; rfl
    · rw [if_neg c, ih, bool_f c]; rfl
theorem kpLn_mem {R : List (List Ln)} {k : Nat → Bool} : ∀ {m : Nat} {x : Ln}, x ∈ kpLn R k m → ∃ n : Nat, 1 ≤ n ∧ n ≤ m ∧ k n = true ∧ x = (wyO R n, b2i (musA R n), -1)
  | 0, x, h => by cases h
  | m + 1, x, h => by
    unfold kpLn at h
    by_cases c : k (m + 1) = true
    · rw [if_pos c, List.mem_append] at h
      rcases h with h | h
      · obtain ⟨n, n1, n2, n3⟩ := kpLn_mem h
        exact ⟨n, n1, by omega, n3⟩
      · exact ⟨m + 1, by omega, Nat.le_refl _, c, List.mem_singleton.mp h⟩
    · rw [if_neg c] at h
      obtain ⟨n, n1, n2, n3⟩ := kpLn_mem h
      exact ⟨n, n1, by omega, n3⟩
theorem cnt_say {R : List (List Ln)} {n : Nat} (h : 0 < cnt R n) : sayA R (n : Int) = true ∨ sayA R (-(n : Int)) = true := by
  obtain ⟨l, hl, q⟩ := cnt_pos.mp h
  unfold hasA at q
  rw [List.any_eq_true] at q
  obtain ⟨x, hx, ex⟩ := q
  have ex := of_decide_eq_true ex
  unfold sayA sgnA
  by_cases c : 0 ≤ x.1
  · refine Or.inl (List.any_eq_true.mpr ⟨l, hl, List.any_eq_true.mpr ⟨x, hx, decide_eq_true (by omega)⟩⟩)
  · refine Or.inr (List.any_eq_true.mpr ⟨l, hl, List.any_eq_true.mpr ⟨x, hx, decide_eq_true (by omega)⟩⟩)
theorem wyO_abs {R : List (List Ln)} {n : Nat} (h : 0 < cnt R n) : (wyO R n).natAbs = n := by
  unfold wyO
  rcases cnt_say h with q | q
  · rw [if_pos q]; omega
  · split
    · omega
    · omega
theorem kpLn_wf {R : List (List Ln)} {k : Nat → Bool} (hk : ∀ n : Nat, k n = true → 0 < cnt R n) (h12 : sm (fun n => (k n).toNat) 60 ≤ 12) : WfL (kpLn R k 60) := by
  refine ⟨by rw [kpLn_len]; exact h12, fun x hx => ?_, ?_⟩
  · obtain ⟨n, n1, n2, n3, n4⟩ := kpLn_mem hx
    have := wyO_abs (hk n n3)
    rw [n4]
    refine ⟨?_, ?_, ?_, ?_, ?_⟩
    · show 1 ≤ (wyO R n).natAbs; omega
    · show (wyO R n).natAbs ≤ 60; omega
    · show b01 (b2i (musA R n))
      cases musA R n
      · exact Or.inl rfl
      · exact Or.inr rfl
    · show (-1 : Int) ≤ -1; omega
    · show (-1 : Int) < 40; omega
  · have nd : ∀ m : Nat, ((kpLn R k m).map fun x : Ln => x.1.natAbs).Nodup := by
      intro m
      induction m with
      | zero => exact List.nodup_nil
      | succ m ih =>
        unfold kpLn
        by_cases c : k (m + 1) = true
        · rw [if_pos c, List.map_append]
          refine List.nodup_append.mpr ⟨ih, by simp, fun a ha b hb => ?_⟩
          obtain ⟨x, hx, ex⟩ := List.mem_map.mp ha
          obtain ⟨n, n1, n2, n3, n4⟩ := kpLn_mem hx
          have e1 := wyO_abs (hk n n3)
          have e2 := wyO_abs (hk (m + 1) c)
          simp only [List.map_cons, List.map_nil, List.mem_singleton] at hb
          rw [n4] at ex
          have ex : (wyO R n).natAbs = a := ex
          omega
        · rw [if_neg c]; exact ih
    exact nd 60
theorem sm_one (b : Nat) : ∀ k : Nat, sm (fun n => if n = b then 1 else 0) k ≤ 1 := by
  have z : ∀ k : Nat, k < b → sm (fun n => if n = b then 1 else 0) k = 0 := by
    intro k
    induction k with
    | zero => intro _; rfl
    | succ k ih =>
      intro hk
      show sm (fun n => if n = b then 1 else 0) k + (if k + 1 = b then 1 else 0) = 0
      rw [ih (by omega), if_neg (by omega)]
  intro k
  induction k with
  | zero => exact Nat.zero_le _
  | succ k ih =>
    show sm (fun n => if n = b then 1 else 0) k + (if k + 1 = b then 1 else 0) ≤ 1
    by_cases c : k + 1 = b
    · rw [z k (by omega), if_pos c]; exact Nat.le_refl _
    · rw [if_neg c]; omega
theorem kpN_sm {c : Nat → Nat} : ∀ (r : Nat) (t : Nat → Bool), sm (fun n => (kpN c r t n).toNat) 60 ≤ sm (fun n => (t n).toNat) 60 + r
  | 0, _ => Nat.le_refl _
  | r + 1, t => by
    unfold kpN
    by_cases q : btN c t 60 = 0
    · rw [if_pos q]; omega
    · rw [if_neg q]
      have ih := kpN_sm (c := c) r (fun n => t n || decide (n = btN c t 60))
      have a : sm (fun n => (t n || decide (n = btN c t 60)).toNat) 60 ≤ sm (fun n => (t n).toNat + (if n = btN c t 60 then 1 else 0)) 60 := sm_le (fun n _ _ => by
        by_cases z : n = btN c t 60
        · rw [decide_eq_true z, if_pos z, Bool.or_true]
          show 1 ≤ _ + 1
          omega
        · rw [decide_eq_false z, if_neg z, Bool.or_false]; exact Nat.le_refl _)
      rw [sm_add] at a
      have o := sm_one (btN c t 60) 60
      omega
theorem kpC_pos {R : List (List Ln)} {len n : Nat} (h : kpC len R n = true) : 0 < cnt R n := by
  refine kpN_c (c := cnt R) _ _ (fun n hn => ?_) n h
  refine cnt_pos.mpr ?_
  unfold musA at hn
  rw [List.any_eq_true] at hn
  obtain ⟨l, hl, e⟩ := hn
  unfold mstA at e
  rw [List.any_eq_true] at e
  obtain ⟨x, hx, e⟩ := e
  have e := of_decide_eq_true e
  exact ⟨l, hl, List.any_eq_true.mpr ⟨x, hx, decide_eq_true e.1⟩⟩
theorem kpC_sm {R : List (List Ln)} {len : Nat} (h : mcN R ≤ len) : sm (fun n => (kpC len R n).toNat) 60 ≤ len := by
  have := kpN_sm (c := cnt R) (len - mcN R) (musA R)
  unfold kpC
  have e : sm (fun n => (musA R n).toNat) 60 = mcN R := rfl
  omega
def keptL (len : Nat) (R : List (List Ln)) : List Ln := kpLn R (kpC len R) 60
theorem keptL_wf {R : List (List Ln)} {len : Nat} (h : mcN R ≤ len) (h12 : len ≤ 12) : WfL (keptL len R) := kpLn_wf (fun n hn => kpC_pos hn) (by have := kpC_sm h; omega)
theorem kpLn_le (R : List (List Ln)) (k : Nat → Bool) : ∀ {m n : Nat}, m ≤ n → (kpLn R k m).length ≤ (kpLn R k n).length
  | m, 0, h => by rw [show m = 0 by omega]; exact Nat.le_refl _
  | m, n + 1, h => by
    by_cases c : m = n + 1
    · rw [c]; exact Nat.le_refl _
    · have ih := kpLn_le R k (m := m) (n := n) (by omega)
      have e : kpLn R k (n + 1) = if k (n + 1) = true then kpLn R k n ++ [(wyO R (n + 1), b2i (musA R (n + 1)), -1)] else kpLn R k n := rfl
      rw [e]
      split
      · rw [List.length_append]; omega
      · exact ih
theorem c_mkLines {ν0 : Mem} {M : Int} (m0 : 0 ≤ M) (m1 : M < 24) {R : List (List Ln)} {k : Nat → Bool} (hk : ∀ n : Nat, k n = true → 0 < cnt R n) (hw : WfL (kpLn R k 60))
    (b1 : ∀ n : Nat, n < 64 → btl (rL ν0 12655 0) n = k n) (b2 : ∀ n : Nat, n < 64 → btl (rL ν0 12656 0) n = sayA R (n : Int)) (b3 : ∀ n : Nat, n < 64 → btl (rL ν0 12657 0) n = musA R n)
    {X : Mem → Prop} (h : ∀ ξ : Mem, RowFr ν0 ξ M → RowC ξ M (kpLn R k 60) → X ξ) :
    ∀ (f i : Nat) (ν : Mem), i + f = 60 → RowFr ν0 ν M → RowC ν M (kpLn R k i) → l_Comp_make_36 M X (f + 1) ((i : Int) + 1) ν
  | 0, i, ν, e, fr, hr => by
    unfold l_Comp_make_36
    (try simp (disch := omega) only [w_id])
    rw [if_pos (by omega)]
    rw [show i = 60 by omega] at hr
    exact h ν fr hr
  | f + 1, i, ν, e, fr, hr => by
    have l12 : (kpLn R k i).length ≤ 12 := Nat.le_trans (kpLn_le R k (m := i) (n := 60) (by omega)) hw.1
    have l13 : (kpLn R k (i + 1)).length ≤ 12 := Nat.le_trans (kpLn_le R k (m := i + 1) (n := 60) (by omega)) hw.1
    have st : kpLn R k (i + 1) = if k (i + 1) = true then kpLn R k i ++ [(wyO R (i + 1), b2i (musA R (i + 1)), -1)] else kpLn R k i := rfl
    have ec : (i : Int) + 1 = ((i + 1 : Nat) : Int) := by omega
    unfold l_Comp_make_36
    (try simp (disch := omega) only [w_id])
    rw [if_neg (by omega), ec, fr.1.rdL rfl, fr.1.rdL rfl, fr.1.rdL rfl, lbit_l _ (by omega), lbit_l _ (by omega), lbit_e _ (by omega), b1 _ (by omega), b2 _ (by omega), b3 _ (by omega)]
    by_cases c : k (i + 1) = true
    · have hc := hk _ c
      have wa := wyO_abs hc
      rw [if_pos c] at st
      rw [st, List.length_append] at l13
      simp only [List.length_cons, List.length_nil] at l13
      rw [if_neg (by rw [if_pos c]; decide)]
      intro x79 e79
      have e79' : x79 = wyO R (i + 1) := by
        rw [e79]
        unfold wyO
        rcases cnt_say hc with q | q
        · rw [if_pos q, if_neg (by decide), if_pos q]
        · by_cases q2 : sayA R ((i + 1 : Nat) : Int) = true
          · rw [if_pos q2, if_neg (by decide), if_pos q2]
          · rw [if_neg q2, if_pos rfl, if_neg q2, if_pos q]
      rw [e79']
      refine c_addLine ⟨m0, by omega⟩ hr l12 ⟨by omega, by omega⟩ (by split <;> exact ⟨by decide, by decide⟩) ⟨by decide, by decide⟩ (fun _ ξ fx rx => ?_) (fun z => by omega)
      have g := c_mkLines m0 m1 hk hw b1 b2 b3 h f (i + 1) ξ (by omega) (fr.trans fx) (by
        rw [st]
        have eb : (if musA R (i + 1) = true then (1 : Int) else 0) = b2i (musA R (i + 1)) := by cases musA R (i + 1) <;> rfl
        rw [eb] at rx
        exact rx)
      exact g
    · rw [if_neg c] at st
      rw [if_pos (by rw [if_neg c])]
      have g := c_mkLines m0 m1 hk hw b1 b2 b3 h f (i + 1) ν (by omega) fr (by rw [st]; exact hr)
      exact g
def pmC (C : List Int) (i : Nat) : Int → Bool := fun y => decide (y ∈ C.take i)
theorem pmC_s {C : List Int} {i : Nat} (hi : i < C.length) : (fun y => pmC C i y || decide (y = gI C i)) = pmC C (i + 1) := by
  funext y
  unfold pmC gI
  rw [List.take_succ_eq_append_getElem hi, List.getD_eq_getElem?_getD, List.getElem?_eq_getElem hi, Bool.eq_iff_iff]
  simp only [Bool.or_eq_true, decide_eq_true_eq, List.mem_append, List.mem_singleton, Option.getD_some]
theorem c_mkClose {σ : Sg} {ν0 : Mem} {F : Fl} (hr : ∀ x : Int, -1 ≤ F.1 x ∧ F.1 x ≤ 4) (hg : HgA σ ν0) {C : List Int} (hC : ∀ x ∈ C, 0 ≤ x ∧ x < 24) (h8 : C.length ≤ 8) (hn : rI ν0 12654 0 = (C.length : Int)) (hv : ∀ i : Nat, i < C.length → rI ν0 92 (i : Int) = gI C i) {M : Int} {X : Mem → Prop}
    (h : ∀ ξ : Mem, Fr [68] ν0 ξ → FlA ξ (clS σ F (pmC C C.length)) → X ξ) : ∀ (f i : Nat) (ν : Mem), i + f = C.length → Fr [68] ν0 ν → FlA ν (clS σ F (pmC C i)) → l_Comp_make_100 M X (f + 1) (i : Int) ν
  | 0, i, ν, e, fr, hA => by
    unfold l_Comp_make_100
    rw [fr.rdI rfl, hn]
    (try simp (disch := omega) only [w_id])
    rw [if_neg (by omega)]
    rw [show i = C.length by omega] at hA
    exact h ν fr hA
  | f + 1, i, ν, e, fr, hA => by
    have hi : i < C.length := by omega
    have mr' := hC _ (gI_mem hi)
    unfold l_Comp_make_100
    rw [fr.rdI (q := 12654) rfl, hn]
    (try simp (disch := omega) only [w_id])
    rw [if_pos (by omega), at_in (by omega) (by omega) (by decide), fr.rdI rfl, hv i hi]
    refine c_closeMotion (σ := σ) hA (hg.fr fr rfl) (clS_rng hr) mr' (by decide) (fun ξ fx Ax => ?_)
    rw [clS_s mr' (fun y hy => by
      have := hC y (List.mem_of_mem_take (of_decide_eq_true hy))
      omega), pmC_s hi] at Ax
    have g := c_mkClose hr hg hC h8 hn hv (M := M) h f (i + 1) ξ (by omega) (fr.trans fx) Ax
    exact g
