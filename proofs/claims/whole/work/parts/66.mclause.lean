/-! ORDERS' CLAUSES, the model's side -/
def rowLs : List Nat := [146, 147, 148, 149]
def mqL : List Nat := moL ++ [15521, 145] ++ rowLs
/-- the row of clauses and signs that is being written alone may differ -/
def FrQ (ν ξ : Mem) : Prop := Fr mqL ν ξ ∧ (∀ j : Int, j < 3200 → rI ξ 143 j = rI ν 143 j) ∧ (∀ j : Int, ¬ j = 10 → rI ξ 144 j = rI ν 144 j ∧ rI ξ 145 j = rI ν 145 j) ∧ ∀ q : Nat, lel rowLs q = true → ∀ j : Int, j < 150 → rI ξ q j = rI ν q j
theorem FrQ.refl (ν : Mem) : FrQ ν ν := ⟨FrP.refl _ _, fun _ _ => rfl, fun _ _ => ⟨rfl, rfl⟩, fun _ _ _ _ => rfl⟩
theorem FrQ.trans {ν ξ ο : Mem} (h : FrQ ν ξ) (k : FrQ ξ ο) : FrQ ν ο := ⟨h.1.trans k.1, fun j hj => (k.2.1 j hj).trans (h.2.1 j hj), fun j hj => ⟨(k.2.2.1 j hj).1.trans (h.2.2.1 j hj).1, (k.2.2.1 j hj).2.trans (h.2.2.1 j hj).2⟩, fun q hq j hj => (k.2.2.2 q hq j hj).trans (h.2.2.2 q hq j hj)⟩
theorem rowLs_c {q : Nat} (h : lel rowLs q = true) : q = 146 ∨ q = 147 ∨ q = 148 ∨ q = 149 := by
  unfold lel at h
  have m := List.elem_iff.mp h
  unfold rowLs at m
  simp only [List.mem_cons, List.not_mem_nil, or_false] at m
  exact m
theorem FrQ.of {L : List Nat} {ν ξ : Mem} (h : Fr L ν ξ) (hs : lsub L mqL = true) (h1 : (lel L 143 || lel L 144 || lel L 145 || lel L 146 || lel L 147 || lel L 148 || lel L 149) = false) : FrQ ν ξ := by
  simp only [Bool.or_eq_false_iff] at h1
  obtain ⟨⟨⟨⟨⟨⟨a1, a2⟩, a3⟩, a4⟩, a5⟩, a6⟩, a7⟩ := h1
  refine ⟨Fr.mono h hs, fun j _ => h.rdI a1, fun j _ => ⟨h.rdI a2, h.rdI a3⟩, fun q hq j _ => ?_⟩
  rcases rowLs_c hq with rfl | rfl | rfl | rfl
  · exact h.rdI a4
  · exact h.rdI a5
  · exact h.rdI a6
  · exact h.rdI a7
theorem FrQ.ofS {ν ξ : Mem} (h : FrS ν ξ) : FrQ ν ξ := by
  refine ⟨Fr.mono h.1 rfl, h.2.1, fun j hj => ⟨h.2.2 j hj, h.1.rdI rfl⟩, fun q hq j _ => ?_⟩
  rcases rowLs_c hq with rfl | rfl | rfl | rfl <;> exact h.1.rdI rfl
/-- a cell of the row of clauses -/
theorem FrQ.row {ν : Mem} {q : Nat} {j v : Int} (hq : lel rowLs q = true) (hj : 150 ≤ j) : FrQ ν (sI ν q j v) := by
  have f : Fr [q] ν (sI ν q j v) := fr1 _ _ _ _
  refine ⟨?_, fun k _ => ?_, fun k hk => ⟨?_, ?_⟩, fun q' hq' k hk => ?_⟩
  · rcases rowLs_c hq with rfl | rfl | rfl | rfl <;> exact Fr.mono f rfl
  · rcases rowLs_c hq with rfl | rfl | rfl | rfl <;> exact f.rdI rfl
  · rcases rowLs_c hq with rfl | rfl | rfl | rfl <;> exact f.rdI rfl
  · rcases rowLs_c hq with rfl | rfl | rfl | rfl <;> exact f.rdI rfl
  · rw [rI_sI, if_neg (fun z => by omega)]
def EnM (ν : Mem) (L : List Cl) (i : Nat) : Prop := rI ν 146 (150 + (i : Int)) = (L.getD i dC).1 ∧ rI ν 147 (150 + (i : Int)) = (L.getD i dC).2.1 ∧ rI ν 148 (150 + (i : Int)) = beC (L.getD i dC) ∧ rI ν 149 (150 + (i : Int)) = enC (L.getD i dC)
def RsM (ν : Mem) (L : List Cl) : Prop := StpM ν (codeL L) ∧ rI ν 145 10 = (L.length : Int) ∧ ∀ i : Nat, i < L.length → EnM ν L i
def OQ (b : Bts) (n : Nat) (ν : Mem) (T : Tk) (L : List Cl) : Prop := BtM b n ν ∧ TkO n T ∧ TkM ν T ∧ rI ν 15517 0 = 0 ∧ rI ν 15520 0 = 0 ∧ RsM ν L
def FaQ (ν : Mem) (K : Mem → Prop) (f : Int) (q : Nat) : Prop := ∀ ξ : Mem, FrQ ν ξ → rI ξ 15517 0 = f → rI ξ 15518 0 = (q : Int) → K ξ
def SuQ (ν : Mem) (L : List Cl) (K : Mem → Prop) (x : (Int × Int × List Int) × Tk) : Prop := ∀ ξ : Mem, FrQ ν ξ → rI ξ 15517 0 = 0 → rI ξ 15520 0 = 0 → TkM ξ x.2 → RsM ξ (L ++ [(x.1.1, x.1.2.1, (codeL L).length, x.1.2.2)]) → K ξ
theorem FaQ.tr {ν ξ : Mem} {K : Mem → Prop} {f : Int} {q : Nat} (h : FaQ ν K f q) (fr : FrQ ν ξ) : FaQ ξ K f q := fun ο fo a k => h ο (fr.trans fo) a k
def eQ (K : Mem → Prop) (v2 : Int) (μ : Mem) : Prop := f_M_wantSign 59 μ (fun μ_25 => 0 ≤ w v2 ∧ w v2 < ((165 : Nat) : Int) ∧ ∀ μ_26 : Mem, μ_26 = sI μ_25 149 (w v2) (rI μ_25 144 10) → K μ_26)
theorem eQ_f {μ : Mem} {f : Int} {q : Nat} {i : Nat} (hi : i < 15) (hz : rI μ 15517 0 = f) (hf : 1 ≤ f) (hp : rI μ 15518 0 = (q : Int)) {K : Mem → Prop} (h : FaQ μ K f q) : eQ K (150 + (i : Int)) μ := by
  unfold eQ
  refine m_wantSign_f hz hf ?_
  (try simp (disch := omega) only [w_id])
  refine ⟨by omega, by omega, fun μ26 e => ?_⟩
  have fq : FrQ μ μ26 := by rw [e]; exact FrQ.row rfl (by omega)
  refine h μ26 fq ?_ ?_
  · rw [e, rI_ne _ _ _ _ rfl]; exact hz
  · rw [e, rI_ne _ _ _ _ rfl]; exact hp
theorem b209_f {μ : Mem} {f : Int} {q : Nat} {i : Nat} (hi : i < 15) {v1 : Int} (hv : Rg v1) (hz : rI μ 15517 0 = f) (hf : 1 ≤ f) (hp : rI μ 15518 0 = (q : Int)) {K : Mem → Prop} (h : FaQ μ K f q) : b_M_readClause_209 K v1 (150 + (i : Int)) μ := by
  obtain ⟨v0, v9⟩ := hv
  have c20 : b_M_readClause_220 K (150 + (i : Int)) μ := by
    unfold b_M_readClause_220 f_M_wantWord
    rw [well_f hz hf, if_neg (by decide)]
    exact ill_P hz hf 56 0 _ (by omega) (eQ_f hi hz hf hp h)
  unfold b_M_readClause_209
  (try simp (disch := omega) only [w_id])
  have e := eQ_f hi hz hf hp h
  unfold eQ at e
  (try simp (disch := omega) only [w_id] at e)
  exact ite_i (fun _ => ite_i (fun _ => c20) (fun _ => e)) (fun _ => c20)
theorem b199_f {μ : Mem} {f : Int} {q : Nat} {i : Nat} (hi : i < 15) {v1 x : Int} (hv : Rg v1) (hz : rI μ 15517 0 = f) (hf : 1 ≤ f) (hp : rI μ 15518 0 = (q : Int)) {K : Mem → Prop} (h : FaQ μ K f q) : b_M_readClause_199 K v1 (150 + (i : Int)) (150 + (i : Int)) x μ := by
  have hv2 := hv
  obtain ⟨v0, v9⟩ := hv2
  unfold b_M_readClause_199
  (try simp (disch := omega) only [w_id])
  refine ⟨by omega, by omega, fun μ17 e => ?_⟩
  have fq : FrQ μ μ17 := by rw [e]; exact FrQ.row rfl (by omega)
  have z17 : rI μ17 15517 0 = f := by rw [e, rI_ne _ _ _ _ rfl]; exact hz
  have p17 : rI μ17 15518 0 = (q : Int) := by rw [e, rI_ne _ _ _ _ rfl]; exact hp
  have g := b209_f hi hv z17 hf p17 (FaQ.tr h fq)
  exact ite_i (fun _ => ill_P z17 hf 56 4 _ (by omega) g) (fun _ => g)
theorem m_readNumber_f {most : Int} {ν : Mem} {f : Int} (hz : rI ν 15517 0 = f) (hf : 1 ≤ f) {K : Int → Mem → Prop} (h : K 0 ν) : f_M_readNumber most ν K := by
  unfold f_M_readNumber b_M_readNumber_20
  rw [well_f hz hf, if_neg (by decide), if_neg (by decide), if_neg (by decide)]
  exact h
theorem b139_f {μ : Mem} {f : Int} {q : Nat} {i : Nat} (hi : i < 15) {v1 : Int} (hv : Rg v1) (hz : rI μ 15517 0 = f) (hf : 1 ≤ f) (hp : rI μ 15518 0 = (q : Int)) {K : Mem → Prop} (h : FaQ μ K f q) : b_M_readClause_139 K v1 (150 + (i : Int)) μ := by
  have hv2 := hv
  obtain ⟨v0, v9⟩ := hv2
  unfold b_M_readClause_139
  (try simp (disch := omega) only [w_id])
  refine ⟨by omega, by omega, fun μ12 e12 μ13 e13 => ⟨by omega, by omega, fun μ14 e14 => ?_⟩⟩
  have fq : FrQ μ μ14 := by
    have f1 : FrQ μ μ12 := by rw [e12]; exact FrQ.row rfl (by omega)
    have f2 : FrQ μ12 μ13 := by rw [e13]; exact FrQ.of (fr1 _ _ _ _) rfl rfl
    have f3 : FrQ μ13 μ14 := by rw [e14]; exact FrQ.row rfl (by omega)
    exact (f1.trans f2).trans f3
  have z14 : rI μ14 15517 0 = f := by rw [e14, rI_ne _ _ _ _ rfl, e13, rI_ne _ _ _ _ rfl, e12, rI_ne _ _ _ _ rfl]; exact hz
  have p14 : rI μ14 15518 0 = (q : Int) := by rw [e14, rI_ne _ _ _ _ rfl, e13, rI_ne _ _ _ _ rfl, e12, rI_ne _ _ _ _ rfl]; exact hp
  have g := fun x : Int => b199_f (x := x) hi hv z14 hf p14 (FaQ.tr h fq)
  exact ite_i (fun _ => m_readNumber_f z14 hf (g 0)) (fun _ => ite_i (fun _ => m_readNumber_f z14 hf (g 0)) (fun _ => g 0))
/-- all of a clause but its end -/
def PreM (ν : Mem) (S : List Cl) (c : Int × Int × List Int) : Prop := StpM ν (codeL S ++ c.2.2) ∧ rI ν 145 10 = (S.length : Int) + 1 ∧ (∀ i : Nat, i < S.length → EnM ν S i) ∧ rI ν 146 (150 + (S.length : Int)) = c.1 ∧ rI ν 147 (150 + (S.length : Int)) = c.2.1 ∧ rI ν 148 (150 + (S.length : Int)) = ((codeL S).length : Int)
theorem EnM.fr {L : List Nat} {ν ξ : Mem} {S : List Cl} {i : Nat} (h : EnM ν S i) (f : Fr L ν ξ) (h1 : (lel L 146 || lel L 147 || lel L 148 || lel L 149) = false) : EnM ξ S i := by
  simp only [Bool.or_eq_false_iff] at h1
  unfold EnM at *
  rw [f.rdI h1.1.1.1, f.rdI h1.1.1.2, f.rdI h1.1.2, f.rdI h1.2]
  exact h
theorem PreM.fr {L : List Nat} {ν ξ : Mem} {S : List Cl} {c c' : Int × Int × List Int} (h : PreM ν S c) (f : Fr L ν ξ) (h1 : (lel L 146 || lel L 147 || lel L 148 || lel L 149 || lel L 145) = false) (s : StpM ξ (codeL S ++ c'.2.2)) (e1 : c'.1 = c.1) (e2 : c'.2.1 = c.2.1) : PreM ξ S c' := by
  simp only [Bool.or_eq_false_iff] at h1
  obtain ⟨p1, p2, p3, p4, p5, p6⟩ := h
  refine ⟨s, by rw [f.rdI h1.2]; exact p2, fun i hi => EnM.fr (p3 i hi) f (by simp only [Bool.or_eq_false_iff]; exact h1.1), by rw [f.rdI h1.1.1.1.1, e1]; exact p4, by rw [f.rdI h1.1.1.1.2, e2]; exact p5, by rw [f.rdI h1.1.1.2]; exact p6⟩
theorem eQ_w {b : Bts} {n : Nat} (hb : BtO b n) {T : Tk} {S : List Cl} (h15 : S.length < 15) {c : Int × Int × List Int} {ν0 μ : Mem} (hB : BtM b n μ) (hT : TkO n T) (ht : TkM μ T) (hz : rI μ 15517 0 = 0) (ho : rI μ 15520 0 = 0) (hp : PreM μ S c) (hl : (codeL S).length + c.2.2.length ≤ 300) (fr : FrQ ν0 μ) {K : Mem → Prop} (h : onR (clEnd b n c T) (FaQ ν0 K) (SuQ ν0 S K)) : eQ K (150 + (S.length : Int)) μ := by
  unfold eQ
  unfold clEnd at h
  refine m_wantSign hb hT (by decide) hB ht hz (fun q ξ f t => ?_) (fun q ξ f a k => ?_)
  · rw [if_pos q] at h
    obtain ⟨p1, p2, p3, p4, p5, p6⟩ := hp.fr (c' := c) f rfl (hp.1.fr f rfl) rfl rfl
    rw [p1.1, List.length_append]
    (try simp (disch := omega) only [w_id])
    refine ⟨by omega, by omega, fun μ26 e => ?_⟩
    have f26 : Fr [149] ξ μ26 := by rw [e]; exact fr1 _ _ _ _
    have fq : FrQ ν0 μ26 := (fr.trans (FrQ.of f rfl rfl)).trans (by rw [e]; exact FrQ.row rfl (by omega))
    refine h μ26 fq (by rw [f26.rdI rfl, f.rdI rfl]; exact hz) (by rw [f26.rdI rfl, f.rdI rfl]; exact ho) (t.fr f26 rfl) ⟨?_, ?_, fun i hi => ?_⟩
    · rw [codeL_s]
      exact p1.fr f26 rfl
    · rw [f26.rdI rfl, p2, List.length_append]
      simp
    · simp only [List.length_append, List.length_cons, List.length_nil] at hi
      unfold EnM
      rw [gC, f26.rdI rfl, f26.rdI rfl, f26.rdI rfl, e, rI_sI]
      by_cases ci : i < S.length
      · rw [if_pos ci, if_neg (fun z => by omega)]
        exact p3 i ci
      · have ei : i = S.length := by omega
        subst ei
        rw [if_neg ci, if_pos rfl, if_pos ⟨rfl, rfl⟩, w_id (by omega) (by omega), p4, p5, p6]
        refine ⟨rfl, rfl, rfl, ?_⟩
        unfold enC
        simp
  · rw [if_neg q] at h
    have ff : FaQ ξ K 1 T.2.1 := FaQ.tr h (fr.trans (FrQ.of f rfl rfl))
    have g := eQ_f h15 a (by decide) k ff
    unfold eQ f_M_wantSign at g
    rw [well_f a (by decide), if_neg (by decide)] at g
    exact g
def clT (b : Bts) (n : Nat) (wt : Int) (T : Tk) : Cr := if wt ≤ 2 then clCod b n wt (pCond b n wt T) else if wt = 3 then clCod b n 3 (PO b n 3 60 5 0 T) else if wt = 4 then clNum b n 4 999 T else if wt = 5 then clNum b n 5 12 T else if wt = 6 then clEnd b n (6, 0, []) T else clCod b n 7 (pCond b n 4 T)
theorem m_code {b : Bts} {n : Nat} (hb : BtO b n) {T : Tk} {S : List Cl} (h15 : S.length < 15) {wt : Int} {ν0 μ : Mem} (hB : BtM b n μ) (hp : PreM μ S (wt, 0, [])) (hl : (codeL S).length ≤ T.2.1) (fr : FrQ ν0 μ) {K : Mem → Prop} {P : PR} {c : Bool} {m : Nat} {p : Int} (hG : Gd P (PostR n p c m T)) (h : onR (clCod b n wt P) (FaQ ν0 K) (SuQ ν0 S K)) {X : Mem → Prop}
    (hX1 : ∀ (f : Int) (q : Nat) (ξ : Mem), rI ξ 15517 0 = f → 1 ≤ f → rI ξ 15518 0 = (q : Int) → FaQ ξ K f q → X ξ) (hX2 : ∀ ξ : Mem, eQ K (150 + (S.length : Int)) ξ → X ξ) :
    onR P (FaM μ X) (SuM μ 0 (codeL S) X) := by
  have hn := hb.1
  unfold clCod at h
  rcases hG with ⟨e, e1, e2, -⟩ | ⟨x, e1, x1, x2, x3, x4⟩
  · rw [e1] at h ⊢
    exact fun ξ f a k => hX1 e.1 e.2 ξ a e2 k (FaQ.tr h (fr.trans (FrQ.ofS f)))
  · rw [e1] at h ⊢
    intro ξ f z o t s
    have xn := x1.2.1
    exact hX2 ξ (eQ_w hb h15 (c := (wt, 0, x.1)) (hB.fr f.1 rfl) x1 t z o (hp.fr f.1 rfl s rfl rfl) (by show (codeL S).length + x.1.length ≤ 300; omega) (fr.trans (FrQ.ofS f)) h)
theorem m_wantWord {b : Bts} {n : Nat} (hb : BtO b n) {T : Tk} (hT : TkO n T) {a : Nat} (ha : a < 29) {ν : Mem} (hB : BtM b n ν) (ht : TkM ν T) (hz : rI ν 15517 0 = 0) {K : Mem → Prop} (h1 : isW b T a = true → ∀ ξ : Mem, Fr mxL ν ξ → TkM ξ (nx b n T) → K ξ) (h2 : ¬ isW b T a = true → ∀ ξ : Mem, Fr fmL ν ξ → rI ξ 15517 0 = 1 → rI ξ 15518 0 = (T.2.1 : Int) → K ξ) : f_M_wantWord a ν K := by
  unfold f_M_wantWord
  rw [well_t hz, if_pos rfl]
  refine m_isWord hb hT ha hB ht ?_
  exact ite_i (fun q => m_nx hb hT hB ht (h1 q)) (fun q => m_fails (by decide) hb.1 hT ht hz (h2 q))
theorem m_220 {b : Bts} {n : Nat} (hb : BtO b n) {T : Tk} {S : List Cl} (h15 : S.length < 15) {wt p : Int} (hp4 : 0 ≤ p ∧ p ≤ 4) {ν0 μ : Mem} (hB : BtM b n μ) (hT : TkO n T) (ht : TkM μ T) (hz : rI μ 15517 0 = 0) (ho : rI μ 15520 0 = 0) (ha : askP p (rI μ 15521 0)) (hp : PreM μ S (wt, 0, [])) (hl : (codeL S).length ≤ T.2.1) (fr : FrQ ν0 μ) {K : Mem → Prop} (h : onR (clCod b n wt (pCond b n p T)) (FaQ ν0 K) (SuQ ν0 S K)) : b_M_readClause_220 K (150 + (S.length : Int)) μ := by
  unfold b_M_readClause_220
  have g := m_code (X := eQ K (150 + (S.length : Int))) hb h15 hB hp hl fr (pCond_good hb (p := p) hT) h (fun f q ξ a hf k z => eQ_f h15 a hf k z) (fun ξ z => z)
  unfold pCond at g
  refine m_wantWord hb hT (by decide) hB ht hz (fun q ξ f t => ?_) (fun q ξ f a k => ?_)
  · rw [if_pos q] at g
    have k := nx_lt hb hT (isW_1 q)
    have s : StpM ξ (codeL S) := by
      have := hp.1
      rw [List.append_nil] at this
      exact this.fr f rfl
    have O : OM b n p 0 ξ (nx b n T) (codeL S) := ⟨hB.fr f rfl, k.1, t, by rw [f.rdI rfl]; exact hz, by rw [f.rdI rfl]; exact ho, by rw [f.rdI rfl]; exact ha, s⟩
    exact m_PO hb hp4 60 0 0 60 (by omega) (by omega) (by decide) (by decide) _ _ ξ _ O (by omega) (onR_mono g (fun f0 q0 z => FaM.tr z (FrS.of f rfl rfl)) (fun x z ο fo a o t s => z ο ((FrS.of f rfl rfl).trans fo) a o t s))
  · rw [if_neg q] at g
    exact ill_P a (by decide) 56 0 _ (by omega) (g ξ (FrS.of f rfl rfl) a k)
theorem m_139 {b : Bts} {n : Nat} (hb : BtO b n) {T : Tk} {S : List Cl} (h15 : S.length < 15) {wt : Int} (hw : 0 ≤ wt ∧ wt ≤ 7) {ν0 μ : Mem} (hB : BtM b n μ) (hT : TkO n T) (ht : TkM μ T) (hz : rI μ 15517 0 = 0) (ho : rI μ 15520 0 = 0) (hs : StpM μ (codeL S)) (hm : rI μ 145 10 = (S.length : Int) + 1) (hE : ∀ i : Nat, i < S.length → EnM μ S i) (hl : (codeL S).length ≤ T.2.1) (fr : FrQ ν0 μ) {K : Mem → Prop} (h : onR (clT b n wt T) (FaQ ν0 K) (SuQ ν0 S K)) : b_M_readClause_139 K wt (150 + (S.length : Int)) μ := by
  have hn := hb.1
  have tn := hT.2.1
  unfold b_M_readClause_139
  rw [show w 10 = 10 from rfl]
  (try simp (disch := omega) only [w_id])
  refine ⟨by omega, by omega, fun μ12 e12 μ13 e13 => ⟨by omega, by omega, fun μ14 e14 => ?_⟩⟩
  have g13 : rI μ13 144 10 = ((codeL S).length : Int) := by rw [e13, rI_ne _ _ _ _ rfl, e12, rI_ne _ _ _ _ rfl]; exact hs.1
  rw [g13] at e14
  have fq : FrQ ν0 μ14 := by
    have f1 : FrQ μ μ12 := by rw [e12]; exact FrQ.row rfl (by omega)
    have f2 : FrQ μ12 μ13 := by rw [e13]; exact FrQ.of (fr1 _ _ _ _) rfl rfl
    have f3 : FrQ μ13 μ14 := by rw [e14]; exact FrQ.row rfl (by omega)
    exact fr.trans ((f1.trans f2).trans f3)
  have f14 : Fr [146, 15521, 148] μ μ14 := by rw [e14, e13, e12]; exact (((FrP.refl _ _).wI (by decide)).wI (by decide)).wI (by decide)
  have a14 : rI μ14 15521 0 = wt := by rw [e14, rI_ne _ _ _ _ rfl, e13, rI_eq _ _ _ ⟨by omega, by omega⟩]
  have k14 : rI μ14 146 (150 + (S.length : Int)) = wt := by rw [e14, rI_ne _ _ _ _ rfl, e13, rI_ne _ _ _ _ rfl, e12, rI_eq _ _ _ ⟨by omega, by omega⟩]
  have b14 : rI μ14 148 (150 + (S.length : Int)) = ((codeL S).length : Int) := by rw [e14, rI_eq _ _ _ ⟨by omega, by omega⟩]
  have E14 : ∀ i : Nat, i < S.length → EnM μ14 S i := fun i hi => by
    obtain ⟨x1, x2, x3, x4⟩ := hE i hi
    refine ⟨?_, by rw [f14.rdI rfl]; exact x2, ?_, by rw [f14.rdI rfl]; exact x4⟩
    · rw [e14, rI_ne _ _ _ _ rfl, e13, rI_ne _ _ _ _ rfl, e12, rI_sI, if_neg (fun y => by omega)]; exact x1
    · rw [e14, rI_sI, if_neg (fun y => by omega), e13, rI_ne _ _ _ _ rfl, e12, rI_ne _ _ _ _ rfl]; exact x3
  clear e12 e13 e14 g13
  have B14 := hB.fr f14 rfl
  have t14 := ht.fr f14 rfl
  have z14 : rI μ14 15517 0 = 0 := by rw [f14.rdI rfl]; exact hz
  have o14 : rI μ14 15520 0 = 0 := by rw [f14.rdI rfl]; exact ho
  have s14 := hs.fr f14 rfl
  have m14 : rI μ14 145 10 = (S.length : Int) + 1 := by rw [f14.rdI rfl]; exact hm
  -- number is written
  have put : ∀ (x : Int) (ξ μ17 : Mem), Rg x → Fr mxL μ14 ξ → μ17 = sI ξ 147 (150 + (S.length : Int)) x → FrQ ν0 μ17 ∧ PreM μ17 S (wt, x, []) ∧ BtM b n μ17 ∧ rI μ17 15517 0 = 0 ∧ rI μ17 15520 0 = 0 ∧ rI μ17 15521 0 = wt ∧ Fr [147] ξ μ17 := fun x ξ μ17 hx fx e => by
    have f17 : Fr [147] ξ μ17 := by rw [e]; exact fr1 _ _ _ _
    have q17 : FrQ ξ μ17 := by rw [e]; exact FrQ.row rfl (by omega)
    have fz : Fr (mxL ++ [147]) μ14 μ17 := (Fr.mono fx rfl).trans (Fr.mono f17 rfl)
    refine ⟨(fq.trans (FrQ.of fx rfl rfl)).trans q17, ⟨?_, by rw [fz.rdI rfl]; exact m14, fun i hi => ?_, by rw [fz.rdI rfl]; exact k14, by rw [e, rI_eq _ _ _ hx], by rw [fz.rdI rfl]; exact b14⟩, B14.fr fz rfl, by rw [fz.rdI rfl]; exact z14, by rw [fz.rdI rfl]; exact o14, by rw [fz.rdI rfl]; exact a14, f17⟩
    · show StpM μ17 (codeL S ++ [])
      rw [List.append_nil]
      exact s14.fr fz rfl
    · obtain ⟨x1, x2, x3, x4⟩ := E14 i hi
      refine ⟨by rw [fz.rdI rfl]; exact x1, ?_, by rw [fz.rdI rfl]; exact x3, by rw [fz.rdI rfl]; exact x4⟩
      rw [e, rI_sI, if_neg (fun y => by omega), fx.rdI rfl]
      exact x2
  have numb : ∀ most : Int, (wt = 4 ∨ wt = 5) → 1 ≤ most ∧ most ≤ 999 → onR (clNum b n wt most T) (FaQ ν0 K) (SuQ ν0 S K) → f_M_readNumber most μ14 (fun r178 μ_15 => b_M_readClause_199 K wt (150 + (S.length : Int)) (150 + (S.length : Int)) r178 μ_15) := fun most hw2 hm2 g => by
    unfold clNum at g
    refine m_readNumber hb hT hm2 B14 t14 z14 (fun q ξ f a k => ?_) (fun q z ξ f a k => ?_) (fun q z ξ f t => ?_)
    · rw [if_pos q] at g
      exact b199_f h15 ⟨by omega, by omega⟩ a (by decide) k (FaQ.tr g (fq.trans (FrQ.of f rfl rfl)))
    · rw [if_neg (fun y => y q), if_pos z] at g
      exact b199_f h15 ⟨by omega, by omega⟩ a (by decide) k (FaQ.tr g (fq.trans (FrQ.of f rfl rfl)))
    · rw [if_neg (fun y => y q), if_neg (fun y => y z)] at g
      unfold b_M_readClause_199
      (try simp (disch := omega) only [w_id])
      refine ⟨by omega, by omega, fun μ17 e17 => ?_⟩
      rw [if_neg (by omega)]
      obtain ⟨y1, y2, y3, y4, y5, y6, y7⟩ := put _ ξ μ17 ⟨by omega, by omega⟩ f e17
      unfold b_M_readClause_209
      (try simp (disch := omega) only [w_id])
      rw [if_pos (by omega), if_neg (by omega)]
      have ee := eQ_w hb h15 y3 (nx_ok hb hT).1 (t.fr y7 rfl) y4 y5 y2 (by show (codeL S).length + 0 ≤ 300; omega) y1 g
      unfold eQ at ee
      (try simp (disch := omega) only [w_id] at ee)
      exact ee
  unfold clT at h
  have hc : wt ≤ 2 ∨ wt = 3 ∨ wt = 4 ∨ wt = 5 ∨ wt = 6 ∨ wt = 7 := by omega
  rcases hc with c | c | c | c | c | c
  · rw [if_pos c] at h
    rw [if_neg (by omega), if_neg (by omega)]
    unfold b_M_readClause_199
    (try simp (disch := omega) only [w_id])
    refine ⟨by omega, by omega, fun μ17 e17 => ?_⟩
    rw [if_neg (by omega)]
    obtain ⟨y1, y2, y3, y4, y5, y6, y7⟩ := put 0 μ14 μ17 ⟨by decide, by decide⟩ (FrP.refl _ _) e17
    unfold b_M_readClause_209
    (try simp (disch := omega) only [w_id])
    rw [if_neg (by omega)]
    exact m_220 hb h15 ⟨hw.1, by omega⟩ y3 hT (t14.fr y7 rfl) y4 y5 (by rw [y6]; unfold askP; omega) y2 hl y1 h
  · subst c
    rw [if_neg (by decide), if_pos rfl] at h
    rw [if_neg (by decide), if_neg (by decide)]
    unfold b_M_readClause_199
    (try simp (disch := omega) only [w_id])
    refine ⟨by omega, by omega, fun μ17 e17 => ?_⟩
    obtain ⟨y1, y2, y3, y4, y5, y6, y7⟩ := put 0 μ14 μ17 ⟨by decide, by decide⟩ (FrP.refl _ _) e17
    rw [if_pos (by trivial)]
    have pg := PO_good hb 3 60 5 0 T (by omega) (by omega) (by decide) hT
    have g := m_code (X := b_M_readClause_209 K 3 (150 + (S.length : Int))) hb h15 y3 y2 hl y1 pg h (fun f q ξ a hf k z => b209_f h15 ⟨by decide, by decide⟩ a hf k z) (fun ξ z => by
      unfold b_M_readClause_209
      unfold eQ at z
      (try simp (disch := omega) only [w_id] at z ⊢)
      rw [if_pos (by decide), if_neg (by decide)]
      exact z)
    have s17 : StpM μ17 (codeL S) := by
      have := y2.1
      rw [List.append_nil] at this
      exact this
    exact m_PO (p := 3) hb (by decide) 60 5 0 60 (by omega) (by omega) (by decide) (by decide) T _ μ17 _ ⟨y3, hT, t14.fr y7 rfl, y4, y5, by rw [y6]; exact Or.inl ⟨rfl, rfl⟩, s17⟩ hl g
  · subst c
    rw [if_neg (by decide), if_neg (by decide), if_pos rfl] at h
    rw [if_pos (by trivial)]
    exact numb 999 (Or.inl rfl) (by decide) h
  · subst c
    rw [if_neg (by decide), if_neg (by decide), if_neg (by decide), if_pos rfl] at h
    rw [if_neg (by decide), if_pos (by trivial)]
    exact numb 12 (Or.inr rfl) (by decide) h
  · subst c
    rw [if_neg (by decide), if_neg (by decide), if_neg (by decide), if_neg (by decide), if_pos rfl] at h
    rw [if_neg (by decide), if_neg (by decide)]
    unfold b_M_readClause_199
    (try simp (disch := omega) only [w_id])
    refine ⟨by omega, by omega, fun μ17 e17 => ?_⟩
    rw [if_neg (by decide)]
    obtain ⟨y1, y2, y3, y4, y5, y6, y7⟩ := put 0 μ14 μ17 ⟨by decide, by decide⟩ (FrP.refl _ _) e17
    unfold b_M_readClause_209
    (try simp (disch := omega) only [w_id])
    rw [if_pos (by decide), if_neg (by decide)]
    have ee := eQ_w hb h15 y3 hT (t14.fr y7 rfl) y4 y5 y2 (by show (codeL S).length + 0 ≤ 300; omega) y1 h
    unfold eQ at ee
    (try simp (disch := omega) only [w_id] at ee)
    exact ee
  · subst c
    rw [if_neg (by decide), if_neg (by decide), if_neg (by decide), if_neg (by decide), if_neg (by decide)] at h
    rw [if_neg (by decide), if_neg (by decide)]
    unfold b_M_readClause_199
    (try simp (disch := omega) only [w_id])
    refine ⟨by omega, by omega, fun μ17 e17 => ?_⟩
    rw [if_neg (by decide)]
    obtain ⟨y1, y2, y3, y4, y5, y6, y7⟩ := put 0 μ14 μ17 ⟨by decide, by decide⟩ (FrP.refl _ _) e17
    unfold b_M_readClause_209
    (try simp (disch := omega) only [w_id])
    rw [if_pos (by decide), if_pos (by trivial)]
    exact m_220 hb h15 (by decide) y3 hT (t14.fr y7 rfl) y4 y5 (by rw [y6]; exact Or.inr (Or.inl ⟨rfl, rfl⟩)) y2 hl y1 h
