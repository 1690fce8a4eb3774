/-! COMPOSING, the class's side -/
def gRw (R : List (List Ln)) (i : Nat) : List Ln := R.getD i []
theorem gRw_mem {R : List (List Ln)} {i : Nat} (h : i < R.length) : gRw R i ∈ R := by
  unfold gRw
  rw [List.getD_eq_getElem?_getD, List.getElem?_eq_getElem h]
  exact List.getElem_mem h
def chL : List Nat := [12654, 92, 93, 94, 95]
/-- the composer's rows, as bits -/
def ChR (ν : Mem) (R : List (List Ln)) : Prop := rI ν 12654 0 = (R.length : Int) ∧ R.length ≤ 8 ∧ (∀ l ∈ R, WfL l) ∧ ∀ i : Nat, i < R.length → BitsL (gRw R i) 1 (rL ν 93 (i : Int)) ∧ BitsL (gRw R i) (-1) (rL ν 94 (i : Int)) ∧ MsB (gRw R i) (rL ν 95 (i : Int))
theorem ChR.fr {L : List Nat} {ν ξ : Mem} {R : List (List Ln)} (h : ChR ν R) (f : Fr L ν ξ) (h1 : (lel L 12654 || lel L 93 || lel L 94 || lel L 95) = false) : ChR ξ R := by
  simp only [Bool.or_eq_false_iff] at h1
  obtain ⟨⟨⟨a1, a2⟩, a3⟩, a4⟩ := h1
  exact ⟨by rw [f.rdI a1]; exact h.1, h.2.1, h.2.2.1, fun i hi => by rw [f.rdL a2, f.rdL a3, f.rdL a4]; exact h.2.2.2 i hi⟩
theorem c_choose_l {σ : Sg} {μ : Mem} (hI : Ic σ μ) {ms : List Int} (h8 : ms.length ≤ 8) (hm : ∀ x ∈ ms, 0 ≤ x ∧ x < 24) {K : Mem → Prop}
    (h : ∀ ν : Mem, Fr chL μ ν → ChR ν (ms.map (rowOf σ)) → (∀ i : Nat, i < ms.length → rI ν 92 (i : Int) = gI ms i) → K ν) :
    ∀ (f i : Nat) (ν : Mem), i + f = ms.length → Fr chL μ ν → rI ν 12654 0 = (ms.length : Int) → (∀ i : Nat, i < ms.length → rI ν 92 (i : Int) = gI ms i) → (∀ k : Nat, k < i → BitsL (rowOf σ (gI ms k)) 1 (rL ν 93 (k : Int)) ∧ BitsL (rowOf σ (gI ms k)) (-1) (rL ν 94 (k : Int)) ∧ MsB (rowOf σ (gI ms k)) (rL ν 95 (k : Int))) → l_Comp_choose_18 K (f + 1) (i : Int) ν
  | 0, i, ν, e, fr, hn, hv, hb => by
    unfold l_Comp_choose_18
    rw [hn]
    (try simp (disch := omega) only [w_id])
    rw [if_neg (by omega)]
    refine h ν fr ⟨by rw [List.length_map]; exact hn, by rw [List.length_map]; exact h8, fun l hl => ?_, fun k hk => ?_⟩ hv
    · obtain ⟨x, hx, rfl⟩ := List.mem_map.mp hl
      exact (hI.row (hm x hx).1 (hm x hx).2).2.1
    · rw [List.length_map] at hk
      have eg : gRw (ms.map (rowOf σ)) k = rowOf σ (gI ms k) := by
        unfold gRw gI
        rw [List.getD_eq_getElem?_getD, List.getElem?_map, List.getElem?_eq_getElem hk, List.getD_eq_getElem?_getD, List.getElem?_eq_getElem hk]
        rfl
      rw [eg]
      exact hb k (by omega)
  | f + 1, i, ν, e, fr, hn, hv, hb => by
    have hi : i < ms.length := by omega
    have hx := hm _ (gI_mem hi)
    obtain ⟨rc, rw', -⟩ := hI.row hx.1 hx.2
    unfold l_Comp_choose_18
    rw [hn]
    (try simp (disch := omega) only [w_id])
    rw [if_pos (by omega)]
    intro v3 ev
    rw [at_in (by omega) (by omega) (by decide), hv i hi] at ev
    subst ev
    have rcf : ∀ ξ : Mem, Fr chL μ ξ → RowC ξ (gI ms i) (rowOf σ (gI ms i)) := fun ξ fx => RowAt.fr rc fx rfl
    refine c_bitsOf ⟨hx.1, by omega⟩ (rcf ν fr) rw' (Or.inl rfl) (fun x1 p1 => ?_)
    intro μ5 e5
    rw [setL_in (by omega) (by omega) (by decide)] at e5
    have f5 : Fr chL μ μ5 := by rw [e5]; exact fr.wL (by decide)
    refine c_bitsOf ⟨hx.1, by omega⟩ (rcf μ5 f5) rw' (Or.inr rfl) (fun x2 p2 => ?_)
    intro μ7 e7
    rw [setL_in (by omega) (by omega) (by decide)] at e7
    have f7 : Fr chL μ μ7 := by rw [e7]; exact f5.wL (by decide)
    refine c_mustBitsOf ⟨hx.1, by omega⟩ (rcf μ7 f7) rw' (fun x3 p3 => ?_)
    intro μ9 e9
    rw [setL_in (by omega) (by omega) (by decide)] at e9
    have f9 : Fr chL μ μ9 := by rw [e9]; exact f7.wL (by decide)
    have f59 : Fr [93, 94, 95] ν μ9 := by rw [e9, e7, e5]; exact (((FrP.refl _ _).wL (by decide)).wL (by decide)).wL (by decide)
    have ih := c_choose_l hI h8 hm h f (i + 1) μ9 (by omega) f9 (by rw [f59.rdI rfl]; exact hn) (fun k hk => by rw [f59.rdI rfl]; exact hv k hk) (fun k hk => ?_)
    · exact ih
    · have r1 : rL μ9 93 (k : Int) = if k = i then x1 else rL ν 93 (k : Int) := by
        rw [e9, rL_ne _ _ _ _ rfl, e7, rL_ne _ _ _ _ rfl, e5, rLs]
        by_cases q : k = i
        · rw [if_pos ⟨rfl, by omega⟩, if_pos q]
        · rw [if_neg (fun z => by omega), if_neg q]
      have r2 : rL μ9 94 (k : Int) = if k = i then x2 else rL ν 94 (k : Int) := by
        rw [e9, rL_ne _ _ _ _ rfl, e7, rLs]
        by_cases q : k = i
        · rw [if_pos ⟨rfl, by omega⟩, if_pos q]
        · rw [if_neg (fun z => by omega), if_neg q, e5, rL_ne _ _ _ _ rfl]
      have r3 : rL μ9 95 (k : Int) = if k = i then x3 else rL ν 95 (k : Int) := by
        rw [e9, rLs]
        by_cases q : k = i
        · rw [if_pos ⟨rfl, by omega⟩, if_pos q]
        · rw [if_neg (fun z => by omega), if_neg q, e7, rL_ne _ _ _ _ rfl, e5, rL_ne _ _ _ _ rfl]
      rw [r1, r2, r3]
      by_cases q : k = i
      · subst q
        rw [if_pos rfl, if_pos rfl, if_pos rfl]
        exact ⟨p1, p2, p3⟩
      · rw [if_neg q, if_neg q, if_neg q]
        exact hb k (by omega)
theorem chN_rng {a : Nat} {x : Int} (h : x ∈ chN a 24) : 0 ≤ x ∧ x < 24 := by
  obtain ⟨k, k1, k2, -⟩ := (chN_mem a 24 x).mp h
  omega
theorem c_choose {σ : Sg} {μ : Mem} (hI : Ic σ μ) {a : Int} (ha : Rg a) {K : Mem → Prop}
    (h1 : vlA σ a 8 → ∀ ν : Mem, Fr chL μ ν → ChR ν ((chN a.toNat 24).map (rowOf σ)) → (∀ i : Nat, i < (chN a.toNat 24).length → rI ν 92 (i : Int) = gI (chN a.toNat 24) i) → K ν) (h2 : ¬ vlA σ a 8 → ∀ ν : Mem, Fr chL μ ν → rI ν 12654 0 = 0 → K ν) : f_Comp_choose a μ K := by
  unfold f_Comp_choose
  refine c_chosen ha rfl (by decide) hI (fun v ν fr hv => ?_) (fun v ν fr => ?_)
  · intro μ2 e2
    have l8 := v.2.1
    have f2 : Fr chL μ μ2 := by rw [e2]; exact (Fr.mono fr rfl : Fr chL μ ν).wI (by decide)
    refine ⟨(chN a.toNat 24).length + 1, c_choose_l hI l8 (fun x hx => chN_rng hx) (h1 v) _ 0 μ2 (by omega) f2 (by rw [e2, rI_eq _ _ _ ⟨by omega, by omega⟩]) (fun i hi => by rw [e2, rI_ne _ _ _ _ rfl]; exact hv i hi) (fun k hk => by omega)⟩
  · intro μ2 e2
    have f2 : Fr chL μ μ2 := by rw [e2]; exact (Fr.mono fr rfl : Fr chL μ ν).wI (by decide)
    have z : rI μ2 12654 0 = 0 := by rw [e2, rI_eq _ _ _ ⟨by decide, by decide⟩]
    refine ⟨1, ?_⟩
    unfold l_Comp_choose_18
    rw [z]
    (try simp (disch := omega) only [w_id])
    rw [if_neg (by decide)]
    exact h2 v μ2 f2 z
-- rows of a subset
def subN (R : List (List Ln)) (s : Nat) : Nat → List (List Ln)
  | 0 => []
  | i + 1 => if s.testBit i = true then subN R s i ++ [gRw R i] else subN R s i
theorem subN_len (R : List (List Ln)) (s : Nat) : ∀ i : Nat, (subN R s i).length ≤ i
  | 0 => Nat.le_refl _
  | i + 1 => by
    have := subN_len R s i
    unfold subN
    split
    · rw [List.length_append]; simp; omega
    · omega
theorem subN_wf {R : List (List Ln)} (hw : ∀ l ∈ R, WfL l) (s : Nat) : ∀ i : Nat, i ≤ R.length → ∀ l ∈ subN R s i, WfL l
  | 0, _, l, hl => by cases hl
  | i + 1, h, l, hl => by
    unfold subN at hl
    split at hl
    · rcases List.mem_append.mp hl with hl | hl
      · exact subN_wf hw s i (by omega) l hl
      · rw [List.mem_singleton] at hl
        rw [hl]
        exact hw _ (gRw_mem (by omega))
    · exact subN_wf hw s i (by omega) l hl
theorem bits_say {l : List Ln} (hw : WfL l) {x : Int64} {sg : Int} (hs : sg = 1 ∨ sg = -1) (h : BitsL l sg x) {n : Nat} (hn : n < 64) : btl x n = sgnA l ((n : Int) * sg) := by
  rw [h n hn]
  unfold sgnA
  rw [Bool.eq_iff_iff, List.any_eq_true, List.any_eq_true]
  constructor
  · rintro ⟨y, hy, e⟩
    refine ⟨y, hy, ?_⟩
    simp only [decide_eq_true_eq] at e ⊢
    rcases hs with rfl | rfl <;> omega
  · rintro ⟨y, hy, e⟩
    have := hw.2.1 y hy
    refine ⟨y, hy, ?_⟩
    simp only [decide_eq_true_eq] at e ⊢
    rcases hs with rfl | rfl <;> omega
theorem has_sgn (l : List Ln) (n : Nat) : hasA l n = (sgnA l (n : Int) || sgnA l (-(n : Int))) := by
  rw [Bool.eq_iff_iff, Bool.or_eq_true]
  unfold hasA sgnA
  rw [List.any_eq_true, List.any_eq_true, List.any_eq_true]
  constructor
  · rintro ⟨y, hy, e⟩
    simp only [decide_eq_true_eq] at e
    by_cases c : y.1 = (n : Int)
    · exact Or.inl ⟨y, hy, decide_eq_true c⟩
    · exact Or.inr ⟨y, hy, decide_eq_true (by omega)⟩
  · rintro (⟨y, hy, e⟩ | ⟨y, hy, e⟩)
    · exact ⟨y, hy, decide_eq_true (by have := of_decide_eq_true e; omega)⟩
    · exact ⟨y, hy, decide_eq_true (by have := of_decide_eq_true e; omega)⟩
theorem say_app (R : List (List Ln)) (l : List Ln) (v : Int) : sayA (R ++ [l]) v = (sayA R v || sgnA l v) := by unfold sayA; rw [List.any_append]; simp
theorem mus_app (R : List (List Ln)) (l : List Ln) (n : Nat) : musA (R ++ [l]) n = (musA R n || mstA l n) := by unfold musA; rw [List.any_append]; simp
/-- the N that at least k rows have -/
def ShC (ν : Mem) (c : Nat → Nat) : Prop := ∀ k : Nat, 1 ≤ k → k ≤ 8 → ∀ n : Nat, n < 64 → btl (rL ν 96 (k : Int)) n = decide (k ≤ c n)
theorem c_share {ν : Mem} {c h : Nat → Nat} {x : Int64} (hx : ∀ n : Nat, n < 64 → btl x n = decide (h n = 1) ∧ h n ≤ 1) (hs : ShC ν c) {K : Mem → Prop} (k : ∀ ξ : Mem, Fr [96] ν ξ → ShC ξ (fun n => c n + h n) → K ξ) : f_Comp_share x ν K := by
  unfold f_Comp_share
  intro v3 ev
  subst ev
  have loop : ∀ (f : Nat) (ξ : Mem), f ≤ 7 → Fr [96] ν ξ → (∀ k : Nat, 1 ≤ k → k ≤ 8 → ∀ n : Nat, n < 64 → btl (rL ξ 96 (k : Int)) n = if k ≤ f + 1 then decide (k ≤ c n) else decide (k ≤ c n + h n)) → l_Comp_share_8 x (fun (μ_3 : Mem) => ∀ μ_4 : Mem, μ_4 = sL μ_3 96 (w 1) ((rL μ_3 96 (w 1)) ||| x) → K μ_4) (f + 1) ((f : Int) + 1) ξ := by
    intro f
    induction f with
    | zero =>
      intro ξ hf fr hb
      unfold l_Comp_share_8
      (try simp (disch := omega) only [w_id])
      rw [if_neg (by omega)]
      intro μ4 e4
      refine k μ4 (by rw [e4]; exact fr.wL (by decide)) (fun k k1 k2 n hn => ?_)
      rw [e4, rLs]
      have b := hb k k1 k2 n hn
      obtain ⟨x1, x2⟩ := hx n hn
      by_cases q : k = 1
      · subst q
        rw [if_pos (by omega)] at b
        rw [if_pos ⟨rfl, rfl⟩, btl_or, show ((1 : Nat) : Int) = 1 from rfl] at *
        rw [b, x1]
        show (decide (1 ≤ c n) || decide (h n = 1)) = decide (1 ≤ c n + h n)
        rw [Bool.eq_iff_iff, Bool.or_eq_true, decide_eq_true_eq, decide_eq_true_eq, decide_eq_true_eq]
        omega
      · rw [if_neg (by omega)] at b
        rw [if_neg (fun z => by omega)]
        exact b
    | succ f ih =>
      intro ξ hf fr hb
      unfold l_Comp_share_8
      rw [show ((f + 1 : Nat) : Int) + 1 = (f : Int) + 2 by omega]
      (try simp (disch := omega) only [w_id])
      rw [if_pos (by omega)]
      refine ⟨by omega, by omega, by omega, by omega, by omega, by omega, fun μ2 e2 => ?_⟩
      have g := ih μ2 (by omega) (by rw [e2]; exact fr.wL (by decide)) (fun k k1 k2 n hn => ?_)
      · rw [show (f : Int) + 2 + -1 = (f : Int) + 1 by omega]
        exact g
      · rw [e2, rLs]
        have b := hb k k1 k2 n hn
        obtain ⟨x1, x2⟩ := hx n hn
        by_cases q : k = f + 2
        · subst q
          have b' := hb (f + 1) (by omega) (by omega) n hn
          rw [if_pos (by omega)] at b b'
          rw [if_pos ⟨rfl, by omega⟩, if_neg (by omega), btl_or, btl_and, show (f : Int) + 2 = ((f + 2 : Nat) : Int) by omega, b, show ((f + 2 : Nat) : Int) - 1 = ((f + 1 : Nat) : Int) by omega, b', x1]
          rw [Bool.eq_iff_iff, Bool.or_eq_true, Bool.and_eq_true, decide_eq_true_eq, decide_eq_true_eq, decide_eq_true_eq, decide_eq_true_eq]
          omega
        · rw [if_neg (fun z => by omega), b]
          by_cases q2 : k ≤ f + 1
          · rw [if_pos (by omega), if_pos q2]
          · rw [if_neg (by omega), if_neg q2]
  exact ⟨8, loop 7 ν (by omega) (FrP.refl _ _) (fun k k1 k2 n hn => by rw [if_pos (by omega)]; exact hs k k1 k2 n hn)⟩
-- keeping
def keL' : List Nat := [12655]
theorem c_keep47 {c : Nat → Nat} (hc : ∀ n : Nat, n < 1 ∨ 60 < n → c n = 0) {k : Nat} (hk : 1 ≤ k) {ν0 : Mem} {v : Int} {X : Int → Mem → Prop} :
    ∀ (r : Nat) (o : Int64) (t : Nat → Bool) (ν : Mem), r ≤ 12 → Fr keL' ν0 ν → (∀ n : Nat, n < 64 → btl (rL ν 12655 0) n = t n) → (∀ n : Nat, n < 1 ∨ 60 < n → t n = false) → (∀ n : Nat, n < 64 → btl o n = (decide (k ≤ c n) && !(t n))) → (∀ n : Nat, 1 ≤ n → n ≤ 60 → k < c n → t n = true) →
      (∀ (r' : Nat) (t' : Nat → Bool) (ξ : Mem), r' ≤ r → Fr keL' ν0 ξ → (∀ n : Nat, n < 64 → btl (rL ξ 12655 0) n = t' n) → (∀ n : Nat, n < 1 ∨ 60 < n → t' n = false) → kpN c r t = kpN c r' t' → (r' = 0 ∨ ∀ n : Nat, 1 ≤ n → n ≤ 60 → k ≤ c n → t' n = true) → X (r' : Int) ξ) → l_Comp_keepUpTo_47 v X (r + 1) (r : Int) o ν
  | 0, o, t, ν, hr, fr, hb, hz, ho, hg, h => by
    unfold l_Comp_keepUpTo_47
    rw [if_neg (by decide)]
    exact h 0 t ν (Nat.le_refl _) fr hb hz rfl (Or.inl rfl)
  | r + 1, o, t, ν, hr, fr, hb, hz, ho, hg, h => by
    unfold l_Comp_keepUpTo_47
    (try simp (disch := omega) only [w_id])
    rw [if_pos (by omega)]
    refine ite_i (fun q => ?_) (fun q => ?_)
    · refine h (r + 1) t ν (Nat.le_refl _) fr hb hz rfl (Or.inr (fun n n1 n2 n3 => ?_))
      have b := ho n (by omega)
      rw [q, btl_0, decide_eq_true n3, Bool.true_and] at b
      cases e : t n with
      | true => rfl
      | false => rw [e] at b; cases b
    · obtain ⟨m, m1, m2, m3⟩ := some_bit q
      have bm := ho m m1
      rw [m2] at bm
      have bm' := bm.symm
      rw [Bool.and_eq_true, decide_eq_true_eq, Bool.not_eq_true'] at bm'
      obtain ⟨km, tm⟩ := bm'
      have mr : 1 ≤ m ∧ m ≤ 60 := by
        by_cases z : m < 1 ∨ 60 < m
        · have := hc m z; omega
        · omega
      have bst : Bst c t 60 m := by
        refine ⟨mr.1, mr.2, tm, by omega, fun n n1 n2 n3 => ?_⟩
        have le : c n ≤ k := by
          by_cases z : k < c n
          · have := hg n n1 n2 z; rw [n3] at this; cases this
          · omega
        refine ⟨by omega, fun e => ?_⟩
        by_cases z : n < m
        · have b := ho n (by omega)
          rw [m3 n z, decide_eq_true (show k ≤ c n by omega), n3] at b
          cases b
        · omega
      intro v6 e6 μ4 e4 o' eo
      have lb : ∀ n : Nat, n < 64 → btl v6 n = decide (n = m) := fun n hn => by rw [e6]; exact least_bit m1 m2 m3 hn
      have f4 : Fr keL' ν0 μ4 := by rw [e4]; exact fr.wL (by decide)
      have b4 : ∀ n : Nat, n < 64 → btl (rL μ4 12655 0) n = (t n || decide (n = m)) := fun n hn => by rw [e4, rL_eq, btl_or, hb n hn, lb n hn]
      have bx : ∀ n : Nat, n < 64 → btl o' n = (decide (k ≤ c n) && !(t n || decide (n = m))) := fun n hn => by
        have xo : btl (o ^^^ v6) n = (btl o n ^^ btl v6 n) := by
          unfold btl
          rw [Int64.toBitVec_xor, BitVec.getLsbD_xor]
        rw [eo, xo, ho n hn, lb n hn]
        by_cases z : n = m
        · subst z
          rw [decide_eq_true km, tm, decide_eq_true rfl]
          rfl
        · rw [decide_eq_false z]
          simp
      have ih := c_keep47 hc hk (v := v) (X := X) (ν0 := ν0) r o' (fun n => t n || decide (n = m)) μ4 (by omega) f4 b4 (fun n hn => by
        rw [hz n hn, Bool.false_or, decide_eq_false (by omega)]) bx (fun n n1 n2 n3 => by rw [hg n n1 n2 n3]; rfl) (fun r' t' ξ q1 q2 q3 q4 q5 q6 => h r' t' ξ (by omega) q2 q3 q4 (by rw [kpN_s bst]; exact q5) q6)
      rw [show ((r + 1 : Nat) : Int) + -1 = (r : Int) by omega]
      exact ih
theorem c_keep26 {c : Nat → Nat} (hc : ∀ n : Nat, n < 1 ∨ 60 < n → c n = 0) {ν0 : Mem} (hs : ShC ν0 c) {X : Mem → Prop} {T : Nat → Bool} (h : ∀ ξ : Mem, Fr keL' ν0 ξ → (∀ n : Nat, n < 64 → btl (rL ξ 12655 0) n = T n) → X ξ) :
    ∀ (k r : Nat) (t : Nat → Bool) (ν : Mem), k ≤ 8 → r ≤ 12 → Fr keL' ν0 ν → (∀ n : Nat, n < 64 → btl (rL ν 12655 0) n = t n) → (∀ n : Nat, n < 1 ∨ 60 < n → t n = false) → kpN c r t = T → (r = 0 ∨ ∀ n : Nat, 1 ≤ n → n ≤ 60 → k < c n → t n = true) → l_Comp_keepUpTo_26 X (k + 1) (r : Int) (k : Int) ν
  | 0, r, t, ν, hk, hr, fr, hb, hz, hT, hg => by
    unfold l_Comp_keepUpTo_26
    rw [if_neg (by decide)]
    refine h ν fr (fun n hn => ?_)
    rw [hb n hn, ← hT]
    rcases hg with rfl | hg
    · rfl
    · rw [kpN_0]
      rcases btN_or c t 60 with ⟨b1, -⟩ | ⟨b1, b2, b3, b4, -⟩
      · exact b1
      · rw [hg _ b1 b2 b4] at b3; cases b3
  | k + 1, r, t, ν, hk, hr, fr, hb, hz, hT, hg => by
    unfold l_Comp_keepUpTo_26
    (try simp (disch := omega) only [w_id])
    rw [if_pos (by omega)]
    refine ⟨by omega, by omega, fun v4 e4 => ?_⟩
    have next : ∀ (r' : Nat) (t' : Nat → Bool) (ξ : Mem), r' ≤ r → Fr keL' ν0 ξ → (∀ n : Nat, n < 64 → btl (rL ξ 12655 0) n = t' n) → (∀ n : Nat, n < 1 ∨ 60 < n → t' n = false) → kpN c r t = kpN c r' t' → (r' = 0 ∨ ∀ n : Nat, 1 ≤ n → n ≤ 60 → k + 1 ≤ c n → t' n = true) → l_Comp_keepUpTo_26 X (k + 1) (r' : Int) (((k + 1 : Nat) : Int) + -1) ξ := fun r' t' ξ q1 q2 q3 q4 q5 q6 => by
      have ih := c_keep26 hc hs h k r' t' ξ (by omega) (by omega) q2 q3 q4 (by rw [← q5]; exact hT) (q6.imp_right (fun z n n1 n2 n3 => z n n1 n2 (by omega)))
      rw [show ((k + 1 : Nat) : Int) + -1 = (k : Int) by omega]
      exact ih
    by_cases r0 : r = 0
    · subst r0
      refine ⟨1, ?_⟩
      unfold l_Comp_keepUpTo_47
      rw [if_neg (by decide)]
      exact next 0 t ν (Nat.le_refl _) fr hb hz rfl (Or.inl rfl)
    · refine ⟨r + 1, c_keep47 hc (k := k + 1) (by omega) (ν0 := ν0) r v4 t ν hr fr hb hz (fun n hn => ?_) (fun n n1 n2 n3 => (hg.resolve_left r0) n n1 n2 n3) (fun r' t' ξ q1 q2 q3 q4 q5 q6 => next r' t' ξ q1 q2 q3 q4 q5 q6)⟩
      have s := hs (k + 1) (by omega) hk n hn
      rw [e4, btl_and, btl_not _ hn, hb n hn]
      have e5 : rL ν 96 ((k + 1 : Nat) : Int) = rL ν0 96 ((k + 1 : Nat) : Int) := fr.rdL rfl
      rw [e5, s]
