/-! ORDERS' TEXT as a whole, both sides' readers -/
theorem clT_B {b : Bts} {n : Nat} {wt : Int} (h : wt = 3 ∨ wt = 4 ∨ wt = 5 ∨ wt = 6 ∨ wt = 7) (T : Tk) : clT b n wt T = clB b n wt T := by
  unfold clT clB
  rcases h with rfl | rfl | rfl | rfl | rfl <;> rfl
theorem m_clWord {b : Bts} {n : Nat} (hb : BtO b n) {T : Tk} (hT : TkO n T) {ν : Mem} (hB : BtM b n ν) (ht : TkM ν T) {K : Int → Mem → Prop} (h : K (clWord b T) ν) : f_M_clauseKind ν K := by
  unfold clWord at h
  unfold f_M_clauseKind
  refine m_isWord hb hT (by decide) hB ht (ite_i (fun q => ?_) (fun q => ?_))
  · rw [if_pos q] at h; exact h
  · rw [if_neg q] at h
    refine m_isWord hb hT (by decide) hB ht (ite_i (fun q => ?_) (fun q => ?_))
    · rw [if_pos q] at h; exact h
    · rw [if_neg q] at h
      refine m_isWord hb hT (by decide) hB ht (ite_i (fun q => ?_) (fun q => ?_))
      · rw [if_pos q] at h; exact h
      · rw [if_neg q] at h
        refine m_isWord hb hT (by decide) hB ht (ite_i (fun q => ?_) (fun q => ?_))
        · rw [if_pos q] at h; exact h
        · rw [if_neg q] at h
          refine m_isWord hb hT (by decide) hB ht (ite_i (fun q => ?_) (fun q => ?_))
          · rw [if_pos q] at h; exact h
          · rw [if_neg q] at h
            refine m_isWord hb hT (by decide) hB ht (fun x ex => ?_)
            subst ex
            exact h
theorem m_readClause {b : Bts} {n : Nat} (hb : BtO b n) {T : Tk} {S : List Cl} {ν : Mem} (hO : OQ b n ν T S) (hl : (codeL S).length ≤ T.2.1) (h15 : S.length ≤ 15) {K : Mem → Prop}
    (h : onR (rdCl b n S.length T) (FaQ ν K) (SuQ ν S K)) : f_M_readClause ν K := by
  obtain ⟨hB, hT, ht, hz, ho, hs, hm, hE⟩ := hO
  unfold f_M_readClause
  refine m_clWord hb hT hB ht ?_
  unfold rdCl at h
  have bad : ∀ (wt f : Int) (ξ : Mem), Fr fmL ν ξ → FaQ ν K f T.2.1 → rI ξ 15517 0 = f → 1 ≤ f → rI ξ 15518 0 = (T.2.1 : Int) → b_M_readClause_35 K wt ξ := fun wt f ξ fr g a hf k => by
    unfold b_M_readClause_35
    rw [well_f a hf, if_neg (by decide)]
    exact g ξ (FrQ.of fr rfl rfl) a k
  have wr := clWord_r b T
  by_cases e : clWord b T = -1
  · rw [if_pos e] at h
    rw [e, if_pos rfl]
    exact m_fails (by decide) hb.1 hT ht hz (fun ξ f a k => bad _ 1 ξ f h a (by decide) k)
  · rw [if_neg e] at h
    obtain ⟨wv, hne⟩ := wr.resolve_left e
    generalize clWord b T = wt at *
    rw [show w 10 = 10 from rfl, hm]
    (try simp (disch := omega) only [w_id])
    rw [if_neg e]
    by_cases c : S.length < 15
    · rw [if_neg (fun z => z c)] at h
      rw [if_neg (by omega)]
      unfold b_M_readClause_35
      rw [well_t hz, if_pos rfl]
      intro v2 ev μ4 e4
      rw [show w 10 = 10 from rfl, hm] at ev e4
      have f4 : Fr [145] ν μ4 := by rw [e4]; exact fr1 _ _ _ _
      have q4 : FrQ ν μ4 := by
        refine ⟨Fr.mono f4 rfl, fun j _ => f4.rdI rfl, fun j hj => ⟨f4.rdI rfl, ?_⟩, fun q hq j _ => ?_⟩
        · rw [e4, rI_sI, if_neg (fun z => hj z.2)]
        · rcases rowLs_c hq with rfl | rfl | rfl | rfl <;> exact f4.rdI rfl
      have m4 : rI μ4 145 10 = (S.length : Int) + 1 := by rw [e4, rI_eq _ _ _ ⟨by omega, by omega⟩]
      clear e4
      subst ev
      have k := nx_lt hb hT hne
      refine m_nx hb hT (hB.fr f4 rfl) (ht.fr f4 rfl) (fun ξ f t => ?_)
      have f5 : Fr (mxL ++ [145]) ν ξ := (Fr.mono f4 rfl).trans (Fr.mono f rfl)
      have q5 : FrQ ν ξ := q4.trans (FrQ.of f rfl rfl)
      have B5 := hB.fr f5 rfl
      have z5 : rI ξ 15517 0 = 0 := by rw [f5.rdI rfl]; exact hz
      have o5 : rI ξ 15520 0 = 0 := by rw [f5.rdI rfl]; exact ho
      have s5 := hs.fr f5 rfl
      have m5 : rI ξ 145 10 = (S.length : Int) + 1 := by rw [f.rdI rfl]; exact m4
      have E5 : ∀ i : Nat, i < S.length → EnM ξ S i := fun i hi => EnM.fr (hE i hi) f5 rfl
      have l5 : (codeL S).length ≤ (nx b n T).2.1 := by omega
      (try simp (disch := omega) only [w_id])
      by_cases w0 : wt = 0
      · subst w0
        rw [if_pos (by trivial)]
        unfold clB at h
        rw [if_pos rfl] at h
        have kr := clKind_r b (nx b n T)
        have none : clKind b (nx b n T) = -1 → ∀ x : Int, Rg x → f_M_fails 1 ξ (fun μ_30 => b_M_readClause_128 K x (150 + (S.length : Int)) μ_30) := fun z x hx => by
          rw [if_pos z] at h
          refine m_fails (f := 1) (by decide) hb.1 k.1 t z5 (fun ξ2 f2 a p => ?_)
          unfold b_M_readClause_128
          rw [well_f a (by decide), if_neg (by decide)]
          exact b139_f c hx a (by decide) p (FaQ.tr h (q5.trans (FrQ.of f2 rfl rfl)))
        have some' : ∀ p : Int, clKind b (nx b n T) = p → ¬ p = -1 → b_M_readClause_128 K p (150 + (S.length : Int)) ξ := fun p z zn => by
          obtain ⟨k0, k1, k2⟩ := kr.resolve_left (by rw [z]; exact zn)
          rw [z] at k0 k1
          rw [if_neg (by rw [z]; exact zn), z] at h
          unfold b_M_readClause_128
          rw [well_t z5, if_pos rfl]
          refine m_nx hb k.1 B5 t (fun ξ2 f2 t2 => ?_)
          have kk := nx_lt hb k.1 k2
          refine m_139 hb c ⟨k0, by omega⟩ (B5.fr f2 rfl) kk.1 t2 (by rw [f2.rdI rfl]; exact z5) (by rw [f2.rdI rfl]; exact o5) (s5.fr f2 rfl) (by rw [f2.rdI rfl]; exact m5) (fun i hi => EnM.fr (E5 i hi) f2 rfl) (by omega) (q5.trans (FrQ.of f2 rfl rfl)) ?_
          unfold clT
          rw [if_pos k1]
          exact h
        refine m_isWord hb k.1 (by decide) B5 t (ite_i (fun q => ?_) (fun q => ?_))
        · unfold b_M_readClause_117
          rw [if_neg (by decide)]
          exact some' 0 (by unfold clKind; rw [if_pos q]) (by decide)
        · refine m_isWord hb k.1 (by decide) B5 t (ite_i (fun q2 => ?_) (fun q2 => ?_))
          · unfold b_M_readClause_117
            rw [if_neg (by decide)]
            exact some' 1 (by unfold clKind; rw [if_neg q, if_pos q2]) (by decide)
          · refine m_isWord hb k.1 (by decide) B5 t (fun x ex => ?_)
            by_cases q3 : isW b (nx b n T) 8 = true
            · rw [if_pos q3] at ex
              subst ex
              rw [if_neg (by decide)]
              exact some' 2 (by unfold clKind; rw [if_neg q, if_neg q2, if_pos q3]) (by decide)
            · rw [if_neg q3] at ex
              subst ex
              rw [if_pos (by decide)]
              exact none (by unfold clKind; rw [if_neg q, if_neg q2, if_neg q3]) _ ⟨by decide, by decide⟩
      · rw [if_neg w0]
        refine m_139 hb c (by omega) B5 k.1 t z5 o5 s5 m5 E5 l5 q5 ?_
        rw [clT_B (by omega)]
        exact h
    · rw [if_pos c] at h
      rw [if_pos (by omega)]
      exact m_fails (by decide) hb.1 hT ht hz (fun ξ f a k => bad _ 4 ξ f h a (by decide) k)
-- what a clause is
def ClW (c : Cl) : Prop := 0 ≤ c.1 ∧ c.1 ≤ 7 ∧ (c.1 = 4 → 1 ≤ c.2.1 ∧ c.2.1 ≤ 999) ∧ (c.1 = 5 → 1 ≤ c.2.1 ∧ c.2.1 ≤ 12) ∧ (c.1 = 0 ∨ c.1 = 1 ∨ c.1 = 2 ∨ c.1 = 3 ∨ c.1 = 7 → (∀ s ∈ c.2.2.2, okS (pkp c.1) s) ∧ Cg (!(pkp c.1 == 3)) 14 c.2.2.2)
theorem clEnd_ok {b : Bts} {n : Nat} (hb : BtO b n) {c : Int × Int × List Int} {T : Tk} (hT : TkO n T) {x : (Int × Int × List Int) × Tk} (h : clEnd b n c T = .inr x) : x.1 = c ∧ TkO n x.2 ∧ T.2.1 + 1 ≤ x.2.2.1 := by
  unfold clEnd at h
  by_cases q : isS T 59 = true
  · rw [if_pos q] at h
    have e := Sum.inr.inj h
    subst e
    have k := nx_lt hb hT (isS_1 q)
    exact ⟨rfl, k.1, k.2⟩
  · rw [if_neg q] at h; cases h
theorem clEnd_f {b : Bts} {n : Nat} {c : Int × Int × List Int} {T : Tk} {e : Int × Nat} (h : clEnd b n c T = .inl e) : 1 ≤ e.1 ∧ e.1 ≤ 4 := by
  unfold clEnd at h
  by_cases q : isS T 59 = true
  · rw [if_pos q] at h; cases h
  · rw [if_neg q] at h; rw [← Sum.inl.inj h]; exact ⟨by simp, by simp⟩
/-- of a reading's result -/
def RO (n : Nat) (T : Tk) (r : Cr) : Prop := (∃ e : Int × Nat, r = .inl e ∧ 1 ≤ e.1 ∧ e.1 ≤ 4) ∨ ∃ x : (Int × Int × List Int) × Tk, r = .inr x ∧ TkO n x.2 ∧ T.2.1 + x.1.2.2.length + 1 ≤ x.2.2.1 ∧ ∀ k : Nat, ClW (x.1.1, x.1.2.1, k, x.1.2.2)
theorem RO_end {b : Bts} {n : Nat} (hb : BtO b n) {c : Int × Int × List Int} {T0 T : Tk} (hT : TkO n T) (hl : T0.2.1 + c.2.2.length ≤ T.2.1) (hc : ∀ k : Nat, ClW (c.1, c.2.1, k, c.2.2)) : RO n T0 (clEnd b n c T) := by
  cases h : clEnd b n c T with
  | inl e => exact Or.inl ⟨e, rfl, clEnd_f h⟩
  | inr x =>
    obtain ⟨e1, e2, e3⟩ := clEnd_ok hb hT h
    refine Or.inr ⟨x, rfl, e2, ?_, fun k => ?_⟩
    · rw [e1]; omega
    · rw [e1]; exact hc k
theorem RO_cod {b : Bts} {n : Nat} (hb : BtO b n) {p : Int} (hp : 0 ≤ p ∧ p < 5) {T : Tk} {P : PR} {c : Bool} {m : Nat} (hm : m ≤ 14) (hcc : c = !(p == 3)) (hG : Gd P (PostR n p c m T)) : RO n T (clCod b n (kpa p) P) := by
  unfold clCod
  rcases hG with ⟨e, e1, e2⟩ | ⟨x, e1, x1, x2, x3, x4⟩
  · rw [e1]; exact Or.inl ⟨e, rfl, e2⟩
  · rw [e1]
    have kn := kpa_no hp
    have kr : 0 ≤ kpa p ∧ kpa p ≤ 7 := by unfold kpa; split <;> omega
    refine RO_end hb x1 x2 (fun k => ⟨kr.1, kr.2, fun z => absurd z kn.1, fun z => absurd z kn.2.1, fun _ => ?_⟩)
    show (∀ s ∈ x.1, okS (pkp (kpa p)) s) ∧ Cg (!(pkp (kpa p) == 3)) 14 x.1
    rw [pkp_kpa hp, ← hcc]
    exact ⟨x3, x4.mono hm⟩
theorem RO_num {b : Bts} {n : Nat} (hb : BtO b n) {wt most : Int} (hw : wt = 4 ∧ most = 999 ∨ wt = 5 ∧ most = 12) {T : Tk} (hT : TkO n T) : RO n T (clNum b n wt most T) := by
  unfold clNum
  by_cases q : ¬ T.1 = 2
  · rw [if_pos q]; exact Or.inl ⟨_, rfl, by simp, by simp⟩
  · rw [if_neg q]
    by_cases q2 : ¬ (1 ≤ T.2.2.2 ∧ T.2.2.2 ≤ most)
    · rw [if_pos q2]; exact Or.inl ⟨_, rfl, by simp, by simp⟩
    · rw [if_neg q2]
      have k := nx_lt hb hT (by omega)
      refine RO_end hb k.1 (by show T.2.1 + 0 ≤ (nx b n T).2.1; omega) (fun k => ⟨by show 0 ≤ wt; omega, by show wt ≤ 7; omega, fun z => ?_, fun z => ?_, fun z => ?_⟩)
      · have z' : wt = 4 := z
        show 1 ≤ T.2.2.2 ∧ T.2.2.2 ≤ 999
        omega
      · have z' : wt = 5 := z
        show 1 ≤ T.2.2.2 ∧ T.2.2.2 ≤ 12
        omega
      · have z' : wt = 0 ∨ wt = 1 ∨ wt = 2 ∨ wt = 3 ∨ wt = 7 := z
        omega
theorem RO.up {n : Nat} {T T' : Tk} {r : Cr} (h : RO n T r) (ht : T'.2.1 ≤ T.2.1) : RO n T' r := by
  rcases h with h | ⟨x, e1, e2, e3, e4⟩
  · exact Or.inl h
  · exact Or.inr ⟨x, e1, e2, by omega, e4⟩
theorem rdCl_ok {b : Bts} {n : Nat} (hb : BtO b n) {k : Nat} {T : Tk} (hT : TkO n T) : RO n T (rdCl b n k T) := by
  unfold rdCl
  have wr := clWord_r b T
  by_cases e : clWord b T = -1
  · rw [if_pos e]; exact Or.inl ⟨_, rfl, by simp, by simp⟩
  · rw [if_neg e]
    by_cases c : ¬ k < 15
    · rw [if_pos c]; exact Or.inl ⟨_, rfl, by simp, by simp⟩
    · rw [if_neg c]
      obtain ⟨wv, hne⟩ := wr.resolve_left e
      have k := nx_lt hb hT hne
      generalize clWord b T = wt at *
      refine RO.up (T := nx b n T) ?_ (by omega)
      unfold clB
      rcases wv with rfl | rfl | rfl | rfl | rfl | rfl
      · rw [if_pos rfl]
        have kr := clKind_r b (nx b n T)
        by_cases q : clKind b (nx b n T) = -1
        · rw [if_pos q]; exact Or.inl ⟨_, rfl, by simp, by simp⟩
        · rw [if_neg q]
          obtain ⟨k0, k1, k2⟩ := kr.resolve_left q
          have kk := nx_lt hb k.1 k2
          generalize clKind b (nx b n T) = p at *
          have kp : kpa p = p := by unfold kpa; rw [if_neg (by omega)]
          have n3 : ¬ p = 3 := by omega
          have pg : Gd (pCond b n p (nx b n (nx b n T))) (PostR n p true (dep 0 0) (nx b n (nx b n T))) := pCond_good hb kk.1
          have hcc : true = !(p == 3) := by rw [beq_false_of_ne n3]; rfl
          have g := RO_cod hb (p := p) ⟨k0, by omega⟩ (by decide) hcc pg
          rw [kp] at g
          exact g.up (by omega)
      · rw [if_neg (by decide), if_pos rfl]
        exact RO_cod (p := 3) hb (by decide) (by decide) rfl (PO_good hb 3 60 5 0 _ (by omega) (by omega) (by decide) k.1)
      · rw [if_neg (by decide), if_neg (by decide), if_pos rfl]
        exact RO_num hb (Or.inl ⟨rfl, rfl⟩) k.1
      · rw [if_neg (by decide), if_neg (by decide), if_neg (by decide), if_pos rfl]
        exact RO_num hb (Or.inr ⟨rfl, rfl⟩) k.1
      · rw [if_neg (by decide), if_neg (by decide), if_neg (by decide), if_neg (by decide), if_pos rfl]
        refine RO_end hb k.1 (by show (nx b n T).2.1 + 0 ≤ (nx b n T).2.1; omega) (fun k => ?_)
        have e6 : ((((6 : Int), (0 : Int), ([] : List Int)).1, ((6 : Int), (0 : Int), ([] : List Int)).2.1, k, ((6 : Int), (0 : Int), ([] : List Int)).2.2) : Cl).1 = 6 := rfl
        unfold ClW
        rw [e6]
        refine ⟨by decide, by decide, fun z => absurd z (by decide), fun z => absurd z (by decide), fun z => absurd z (by decide)⟩
      · rw [if_neg (by decide), if_neg (by decide), if_neg (by decide), if_neg (by decide), if_neg (by decide)]
        exact RO_cod (p := 4) hb (by decide) (by decide) rfl (pCond_good hb (p := 4) k.1)
def rdOr (b : Bts) (n : Nat) : Nat → List Cl → Tk → Res (List Cl)
  | 0, _, _ => .inl (0, 0)
  | f + 1, S, T => if T.1 = 0 then .inr S else match rdCl b n S.length T with
    | .inl e => .inl e
    | .inr x => rdOr b n f (S ++ [(x.1.1, x.1.2.1, (codeL S).length, x.1.2.2)]) x.2
def ClsW (S : List Cl) : Prop := S.length ≤ 15 ∧ (∀ c ∈ S, ClW c) ∧ ∀ i : Nat, i < S.length → (S.getD i dC).2.2.1 = (codeL (S.take i)).length
theorem ClsW.add {S : List Cl} (h : ClsW S) (h15 : S.length < 15) {c : Int × Int × List Int} (hc : ∀ k : Nat, ClW (c.1, c.2.1, k, c.2.2)) : ClsW (S ++ [(c.1, c.2.1, (codeL S).length, c.2.2)]) := by
  refine ⟨by simp; omega, fun x hx => ?_, fun i hi => ?_⟩
  · rcases List.mem_append.mp hx with hx | hx
    · exact h.2.1 x hx
    · rw [List.mem_singleton] at hx; rw [hx]; exact hc _
  · simp only [List.length_append, List.length_cons, List.length_nil] at hi
    rw [gC]
    by_cases q : i < S.length
    · rw [if_pos q, List.take_append_of_le_length (by omega)]; exact h.2.2 i q
    · have e : i = S.length := by omega
      rw [if_neg q, if_pos e, e, List.take_append_of_le_length (Nat.le_refl _), List.take_length]
theorem rdCl_15 {b : Bts} {n k : Nat} {T : Tk} {x : (Int × Int × List Int) × Tk} (h : rdCl b n k T = .inr x) : k < 15 := by
  unfold rdCl at h
  by_cases e : clWord b T = -1
  · rw [if_pos e] at h; cases h
  · rw [if_neg e] at h
    by_cases c : k < 15
    · exact c
    · rw [if_pos c] at h; cases h
theorem rdOr_ok {b : Bts} {n : Nat} (hb : BtO b n) : ∀ (f : Nat) (S : List Cl) (T : Tk), 15 < f + S.length → ClsW S → TkO n T → (codeL S).length ≤ T.2.1 → (∃ e : Int × Nat, rdOr b n f S T = .inl e ∧ 1 ≤ e.1 ∧ e.1 ≤ 4) ∨ ∃ S' : List Cl, rdOr b n f S T = .inr S' ∧ ClsW S' ∧ (codeL S').length ≤ n
  | 0, S, T, hf, hS, hT, hl => by have := hS.1; omega
  | f + 1, S, T, hf, hS, hT, hl => by
    unfold rdOr
    by_cases q : T.1 = 0
    · rw [if_pos q]; exact Or.inr ⟨S, rfl, hS, by have := hT.2.1; omega⟩
    · rw [if_neg q]
      rcases rdCl_ok hb (k := S.length) hT with ⟨e, e1, e2⟩ | ⟨x, e1, e2, e3, e4⟩
      · rw [e1]; exact Or.inl ⟨e, rfl, e2⟩
      · rw [e1]
        exact rdOr_ok hb f _ x.2 (by simp; omega) (hS.add (rdCl_15 e1) e4) e2 (by rw [codeL_s, List.length_append]; show (codeL S).length + x.1.2.2.length ≤ x.2.2.1; omega)
def ror (b : Bts) (n : Nat) : Res (List Cl) := rdOr b n 17 [] (tok b n 0)
-- the loops
theorem c_read_l {b : Bts} {n r : Nat} (hb : BtO b n) (hr : Rr r) (hru : isRu r = true) {ν0 : Mem} {K : Bool → Mem → Prop} :
    ∀ (f : Nat) (S : List Cl) (T : Tk) (ν : Mem), 15 < f + S.length → S.length ≤ 15 → Fr (orsL r) ν0 ν → OCL b n r ν T S → (codeL S).length ≤ T.2.1 → onR (rdOr b n (f + 1) S T) (FaR r ν0 K) (fun S' => ∀ ξ : Mem, Fr (orsL r) ν0 ξ → RsC r ξ S' → K true ξ) → l_OrdR_read_21 K (f + 1) (S.length : Int) ν
  | f, S, T, ν, hf, h15, fr, hO, hl, h => by
    obtain ⟨hB, hT, ht, hR, hS⟩ := hO
    unfold rdOr at h
    unfold l_OrdR_read_21
    (try simp (disch := omega) only [w_id])
    rw [if_neg (by omega), c_isEnd hT ht]
    simp only [decide_eq_true_eq]
    refine ite_i (fun q => ?_) (fun q => ?_)
    · rw [if_pos q] at h
      exact h ν fr hS
    · rw [if_neg q] at h
      have rok := rdCl_ok hb (k := S.length) hT
      refine c_readClause hb hr hru ⟨hB, hT, ht, hR, hS⟩ (by rw [stepL_len]; exact hl) h15 ?_
      cases hc : rdCl b n S.length T with
      | inl e =>
        rw [hc] at h
        intro ξ fx a k
        rw [if_neg (by decide)]
        exact h ξ (fr.ors.trans fx) a k
      | inr x =>
        rw [hc] at h rok
        have l15 := rdCl_15 hc
        rcases rok with ⟨e, e1, -⟩ | ⟨x', e1, e2, e3, e4⟩
        · cases e1
        · have ex := Sum.inr.inj e1
          subst ex
          intro ξ fx t s
          rw [if_pos rfl]
          cases f with
          | zero => omega
          | succ f =>
            have ih := c_read_l hb hr hru f (S ++ [(x.1.1, x.1.2.1, (codeL S).length, x.1.2.2)]) x.2 ξ (by simp; omega) (by simp; omega) (fr.trans fx) ⟨hB.of fx (orsL_f hr rfl rfl) (orsL_f hr rfl rfl), e2, t, rR_fr fx hR, s⟩ (by rw [codeL_s, List.length_append]; show (codeL S).length + x.1.2.2.length ≤ x.2.2.1; omega) h
            rw [show (((S ++ [(x.1.1, x.1.2.1, (codeL S).length, x.1.2.2)]).length : Nat) : Int) = (S.length : Int) + 1 by simp] at ih
            exact ih
theorem m_orders_l {b : Bts} {n : Nat} (hb : BtO b n) {ν0 : Mem} {K : Mem → Prop} :
    ∀ (f : Nat) (S : List Cl) (T : Tk) (ν : Mem), 15 < f + S.length → S.length ≤ 15 → FrQ ν0 ν → OQ b n ν T S → (codeL S).length ≤ T.2.1 → onR (rdOr b n (f + 1) S T) (FaQ ν0 K) (fun S' => ∀ ξ : Mem, FrQ ν0 ξ → rI ξ 15517 0 = 0 → RsM ξ S' → K ξ) → l_M_orders_20 K (f + 2) ν
  | f, S, T, ν, hf, h15, fr, hO, hl, h => by
    have hO2 := hO
    obtain ⟨hB, hT, ht, hz, ho, hS⟩ := hO
    have k0 := ks_0 hT.1
    have kr := ks_r T.1
    unfold rdOr at h
    unfold l_M_orders_20
    rw [well_t hz, if_pos rfl, ht.1]
    (try simp (disch := omega) only [w_id])
    by_cases q : T.1 = 0
    · rw [if_pos q] at h
      rw [if_pos (k0.mpr q)]
      exact h ν fr hz hS
    · rw [if_neg q] at h
      rw [if_neg (fun z => q (k0.mp z))]
      have rok := rdCl_ok hb (k := S.length) hT
      refine m_readClause hb hO2 hl h15 ?_
      cases hc : rdCl b n S.length T with
      | inl e =>
        rw [hc] at h rok
        rcases rok with ⟨e', e1, e2, -⟩ | ⟨x', e1, -⟩
        · have ee := Sum.inl.inj e1
          subst ee
          intro ξ fx a k
          unfold l_M_orders_20
          rw [well_f a e2, if_neg (by decide)]
          exact h ξ (fr.trans fx) a k
        · cases e1
      | inr x =>
        rw [hc] at h rok
        have l15 := rdCl_15 hc
        rcases rok with ⟨e, e1, -⟩ | ⟨x', e1, e2, e3, e4⟩
        · cases e1
        · have ex := Sum.inr.inj e1
          subst ex
          intro ξ fx z o t s
          cases f with
          | zero => omega
          | succ f =>
            exact m_orders_l hb f (S ++ [(x.1.1, x.1.2.1, (codeL S).length, x.1.2.2)]) x.2 ξ (by simp; omega) (by simp; omega) (fr.trans fx) ⟨hB.fr fx.1 rfl, e2, t, z, o, s⟩ (by rw [codeL_s, List.length_append]; show (codeL S).length + x.1.2.2.length ≤ x.2.2.1; omega) h
