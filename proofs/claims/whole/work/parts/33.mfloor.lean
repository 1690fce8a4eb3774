/-! THE FLOOR, the model's side -/
def inS (q : Nat) : Bool := (Nat.ble 117 q && Nat.ble q 121) || Nat.beq q 15472 || Nat.beq q 15474 || Nat.beq q 15479
/-- what the steps leave alone, as σ has it -/
def StM (σ : Sg) (ν : Mem) : Prop := ∀ q : Nat, inS q = true → ∀ j : Int, rI ν q j = σ q j
theorem StM.refl (μ : Mem) : StM (MS μ) μ := fun q hq j => mr (by
  unfold inS at hq
  unfold inM
  simp only [Bool.or_eq_true, Bool.and_eq_true, Nat.ble_eq] at *
  rcases hq with ((h | h) | h) | h
  · simp; omega
  · rw [Nat.eq_of_beq_eq_true h]; simp
  · rw [Nat.eq_of_beq_eq_true h]; simp
  · rw [Nat.eq_of_beq_eq_true h]; simp)
theorem StM.fr {L : List Nat} {σ : Sg} {ν ξ : Mem} (h : StM σ ν) (f : Fr L ν ξ) (hL : (L.all fun q => !(inS q)) = true) : StM σ ξ := fun q hq j => by
  have : lel L q = false := by
    unfold lel
    cases e : L.elem q with
    | false => rfl
    | true =>
      have := List.all_eq_true.mp hL q (List.elem_iff.mp e)
      rw [hq] at this
      cases this
  rw [f.rdI this]
  exact h q hq j
abbrev RowK (ν : Mem) (m : Int) (l : List Ln) : Prop := RowAt ν 125 126 127 128 m (12 * m) l
def FlB (σ : Sg) (ν : Mem) (F : Fl) : Prop := (∀ m : Int, 0 ≤ m → m < σ 15472 0 → rI ν 122 m = F.1 m) ∧ (∀ a : Int, 0 ≤ a → a < σ 15474 0 → rI ν 123 a = F.1 (100 + a)) ∧ (∀ o : Int, 0 ≤ o → o < σ 15479 0 → rI ν 124 o = F.1 (200 + o)) ∧
  (∀ m : Int, 0 ≤ m → m < 24 → RowK ν m (F.2.1 m)) ∧ (∀ n : Int, 1 ≤ n → n ≤ 60 → rI ν 129 n = F.2.2.1 n) ∧ rI ν 15480 0 = F.2.2.2
theorem Iv.flB {μ : Mem} (h : Iv μ) : FlB (MS μ) μ (flC (MS μ)) := by
  have hc := h.cnt
  refine ⟨fun m m0 m1 => ?_, fun a a0 a1 => ?_, fun o o0 o1 => ?_, fun m m0 m1 => ?_, fun n n1 n2 => rfl, rfl⟩
  · show rI μ 122 m = hw (MS μ) m
    unfold hw hw3
    rw [if_pos ⟨m0, m1⟩]
    rfl
  · show rI μ 123 a = hw (MS μ) (100 + a)
    unfold hw hw3
    rw [if_neg (by omega), if_pos (by omega), show 100 + a - 100 = a by omega]
    rfl
  · show rI μ 124 o = hw (MS μ) (200 + o)
    unfold hw hw3
    rw [if_neg (by omega), if_neg (by omega), if_pos (by omega), show 200 + o - 200 = o by omega]
    rfl
  · obtain ⟨-, -, hl⟩ := h.row m0 m1
    refine ⟨hl, fun i hi => ?_⟩
    have g := rowOf_getD hl hi
    show rI μ 126 (12 * m + (i : Int)) = ((rowOf (MS μ) m).getD i dL).1 ∧ rI μ 127 (12 * m + (i : Int)) = ((rowOf (MS μ) m).getD i dL).2.1 ∧ rI μ 128 (12 * m + (i : Int)) = ((rowOf (MS μ) m).getD i dL).2.2
    rw [g]
    exact ⟨rfl, rfl, rfl⟩
/-- counts and places, as numbers -/
def CtW (σ : Sg) : Prop := (0 ≤ σ 15472 0 ∧ σ 15472 0 ≤ 24 ∧ 0 ≤ σ 15474 0 ∧ σ 15474 0 ≤ 40 ∧ 0 ≤ σ 15479 0 ∧ σ 15479 0 ≤ 10) ∧ ∀ a : Int, 0 ≤ a → a < σ 15474 0 → ChW σ a ∧ 0 ≤ σ 118 a ∧ σ 118 a < σ 15472 0
theorem Iv.ctW {μ : Mem} (h : Iv μ) : CtW (MS μ) := ⟨h.rw.1, h.rw.2.2⟩
theorem FlB.how {σ : Sg} {ν ξ : Mem} {F : Fl} {f : Int → Int} (h : FlB σ ν F) (fr : Fr [122, 123, 124] ν ξ) (h1 : ∀ m : Int, 0 ≤ m → m < σ 15472 0 → rI ξ 122 m = f m) (h2 : ∀ a : Int, 0 ≤ a → a < σ 15474 0 → rI ξ 123 a = f (100 + a)) (h3 : ∀ o : Int, 0 ≤ o → o < σ 15479 0 → rI ξ 124 o = f (200 + o)) : FlB σ ξ (f, F.2) := by
  obtain ⟨-, -, -, z4, z5, z6⟩ := h
  exact ⟨h1, h2, h3, fun m m0 m1 => ⟨(fr.rdI rfl).trans (z4 m m0 m1).1, fun i hi => by rw [fr.rdI rfl, fr.rdI rfl, fr.rdI rfl]; exact (z4 m m0 m1).2 i hi⟩, fun n n1 n2 => (fr.rdI rfl).trans (z5 n n1 n2), (fr.rdI rfl).trans z6⟩
def hoL : List Nat := [122, 123, 124]
theorem m_settles {σ : Sg} {ν : Mem} {F : Fl} (hB : FlB σ ν F) (hS : StM σ ν) (hC : CtW σ) (hr : ∀ x : Int, -1 ≤ F.1 x ∧ F.1 x ≤ 4) {m v : Int} (hm : 0 ≤ m ∧ m < σ 15472 0) (hv : 0 ≤ v ∧ v ≤ 4) {K : Mem → Prop} (h : ∀ ξ : Mem, Fr hoL ν ξ → FlB σ ξ (clF σ F m v) → K ξ) : f_M_settles m v ν K := by
  have hct := hC.1
  unfold f_M_settles
  (try simp (disch := omega) only [w_id])
  refine ⟨by omega, by omega, fun μ1 e1 => ?_⟩
  have f1 : Fr hoL ν μ1 := by rw [e1]; exact (FrP.refl _ _).wI rfl
  have m1 : ∀ y : Int, 0 ≤ y → y < σ 15472 0 → rI μ1 122 y = (clF σ F m v).1 y := fun y y0 y1 => by
    rw [e1, rI_sI]
    show _ = if y = m then v else if _ then _ else _
    by_cases c : y = m
    · rw [if_pos ⟨rfl, c⟩, if_pos c, w_id (by omega) (by omega)]
    · rw [if_neg (fun z => c z.2), if_neg c, if_neg (fun z => by omega)]
      exact hB.1 y y0 y1
  refine lp2 (fun n (i : Int) (ξ : Mem) => l_M_settles_9 m _ n i ξ) (fun i ξ => 0 ≤ i ∧ i ≤ σ 15474 0 ∧ Fr [123] μ1 ξ ∧ (∀ a : Int, 0 ≤ a → a < i → rI ξ 123 a = (clF σ F m v).1 (100 + a)) ∧ ∀ a : Int, i ≤ a → a < σ 15474 0 → rI ξ 123 a = F.1 (100 + a)) (fun i _ => (σ 15474 0 - i).toNat) (fun n i ξ hJ ih => ?_) 0 μ1 ⟨by omega, by omega, FrP.refl _ _, fun a a0 a1 => by omega, fun a a0 a1 => by
    rw [e1, rI_sI, if_neg (fun z => absurd z.1 (by decide))]; exact hB.2.1 a a0 a1⟩
  obtain ⟨i0, i1, hf, hz, hn⟩ := hJ
  have fν : Fr hoL ν ξ := f1.trans (Fr.mono hf rfl)
  have hSξ := hS.fr fν rfl
  have eA : rI ξ 15474 0 = σ 15474 0 := hSξ _ rfl _
  unfold l_M_settles_9
  rw [eA]
  (try simp (disch := omega) only [w_id])
  refine ite_i (fun q => ?_) (fun q => ?_)
  · have ck := (hC.2 i i0 q).2
    have eo : rI ξ 118 i = σ 118 i := hSξ _ rfl _
    have eh := hn i (by omega) q
    have hri := hr (100 + i)
    have cl : (clF σ F m v).1 (100 + i) = if σ 118 i = m ∧ F.1 (100 + i) = 0 then 3 else F.1 (100 + i) := by
      show (if 100 + i = m then v else if (100 ≤ 100 + i ∧ 100 + i < 100 + σ 15474 0 ∧ σ 118 (100 + i - 100) = m ∧ F.1 (100 + i) = 0) then 3 else F.1 (100 + i)) = _
      rw [if_neg (by omega), show 100 + i - 100 = i by omega]
      by_cases c : σ 118 i = m ∧ F.1 (100 + i) = 0
      · rw [if_pos c, if_pos ⟨by omega, by omega, c⟩]
      · rw [if_neg c, if_neg (fun z => c z.2.2)]
    have same : ¬ (σ 118 i = m ∧ F.1 (100 + i) = 0) → l_M_settles_9 m (fun (μ_4 : Mem) => K μ_4) n (i + 1) ξ := fun c => ih _ _ ⟨by omega, by omega, hf, fun a a0 a1 => by
      by_cases e : a = i
      · rw [e, eh, cl, if_neg c]
      · exact hz a a0 (by omega), fun a a0 a1 => hn a (by omega) a1⟩ (by omega)
    refine ⟨by omega, by omega, ?_⟩
    rw [eo]
    (try simp (disch := omega) only [w_id])
    refine ite_i (fun c1 => ⟨by omega, by omega, ?_⟩) (fun c1 => same (fun z => c1 z.1))
    rw [eh]
    (try simp (disch := omega) only [w_id])
    refine ite_i (fun c2 => ⟨by omega, by omega, fun μ3 e3 => ?_⟩) (fun c2 => same (fun z => c2 z.2))
    refine ih _ _ ⟨by omega, by omega, by rw [e3]; exact hf.wI rfl, fun a a0 a1 => ?_, fun a a0 a1 => ?_⟩ (by omega)
    · rw [e3, rI_sI]
      by_cases e : a = i
      · rw [if_pos ⟨rfl, e⟩, e, cl, if_pos ⟨c1, c2⟩]; rfl
      · rw [if_neg (fun z => e z.2)]; exact hz a a0 (by omega)
    · rw [e3, rI_sI, if_neg (fun z => by omega)]
      exact hn a (by omega) a1
  · have e : i = σ 15474 0 := by omega
    refine h ξ fν (hB.how fν (f := (clF σ F m v).1) (fun y y0 y1 => (hf.rdI rfl).trans (m1 y y0 y1)) (fun a a0 a1 => hz a a0 (by omega)) (fun o o0 o1 => ?_))
    rw [fν.2 124 |> fun _ => hf.rdI rfl, e1, rI_sI, if_neg (fun z => absurd z.1 (by decide))]
    show _ = if 200 + o = m then v else if _ then _ else _
    rw [if_neg (by omega), if_neg (fun z => by omega)]
    exact hB.2.2.1 o o0 o1
def hasN (l : List Ln) (n : Int) : Prop := ∃ x ∈ l, x.1 = n
theorem m_isContrary {ν : Mem} {o n : Int} (ho : 0 ≤ o ∧ o < 24) (hn : n.natAbs ≤ 60) {l : List Ln} (hl : RowK ν o l) (hw : WfL l) {K : Bool → Mem → Prop} (h1 : hasN l (-n) → K true ν) (h2 : ¬ hasN l (-n) → K false ν) : f_M_isContrary o n ν K := by
  have h12 := hw.1
  unfold f_M_isContrary
  refine lp1 (fun m (i : Int) => l_M_isContrary_2 o n ν K m i) (fun i => ∃ j : Nat, i = (j : Int) ∧ j ≤ l.length ∧ ∀ k : Nat, k < j → ¬ (l.getD k dL).1 = -n) (fun i => ((l.length : Int) - i).toNat) (fun m i hJ ih => ?_) 0 ⟨0, rfl, by omega, fun k hk => by omega⟩
  obtain ⟨j, rfl, hj, hz⟩ := hJ
  unfold l_M_isContrary_2
  (try simp (disch := omega) only [w_id])
  rw [hl.1]
  refine ⟨by omega, by omega, ?_⟩
  (try simp (disch := omega) only [w_id])
  refine ite_i (fun q => ⟨by omega, by omega, ?_⟩) (fun q => ?_)
  · have hjl : j < l.length := by omega
    have hwj := hw.at hjl
    rw [(hl.2 j hjl).1]
    (try simp (disch := omega) only [w_id])
    refine ite_i (fun c => h1 ⟨_, getD_mem hjl, c⟩) (fun c => ih _ ⟨j + 1, by omega, by omega, fun k hk => ?_⟩ (by omega))
    by_cases e : k = j
    · rw [e]; exact c
    · exact hz k (by omega)
  · refine h2 (fun ⟨x, hx, e⟩ => ?_)
    obtain ⟨k, hk, rfl⟩ := List.mem_iff_getElem.mp hx
    refine hz k (by omega) ?_
    rw [List.getD_eq_getElem?_getD, List.getElem?_eq_getElem hk]
    exact e
theorem faF_zero {σ : Sg} {F : Fl} {m o : Int} {P : Int → Prop} (ho : 0 ≤ o ∧ o < σ 15472 0) (hmo : σ 15472 0 ≤ 24) : (faF σ F m P).1 o = 0 ↔ (¬ o = m ∧ ¬ P o ∧ F.1 o = 0) := by
  by_cases c : o = m
  · have e : (faF σ F m P).1 o = 1 := if_pos c
    rw [e]
    exact ⟨fun z => by omega, fun z => absurd c z.1⟩
  · by_cases p : P o
    · have e : (faF σ F m P).1 o = 3 := (if_neg c).trans (pick_t ⟨ho.1, ho.2, p⟩)
      rw [e]
      exact ⟨fun z => by omega, fun z => absurd p z.2.1⟩
    · rw [faF_open ho hmo c p]
      exact ⟨fun z => ⟨c, p, z⟩, fun z => z.2.2⟩
theorem stP_0 (st : Int → Int) (n : Int) : stP [] st n = st n := by
  unfold stP
  rw [pick_f (fun ⟨x, hx, _⟩ => absurd hx (by simp)), pick_f (fun ⟨x, hx, _⟩ => absurd hx (by simp))]
theorem stP_s {l : List Ln} (hw : WfL l) {j : Nat} (hj : j < l.length) {st : Int → Int} {n : Int} (hn : 1 ≤ n) : stP (l.take (j + 1)) st n = if n = ((l.getD j dL).1.natAbs : Int) then (if 0 < (l.getD j dL).1 then 1 else -1) else stP (l.take j) st n := by
  have hwj := hw.at hj
  have et : l.take (j + 1) = l.take j ++ [l.getD j dL] := by
    rw [List.take_succ_eq_append_getElem hj, List.getD_eq_getElem?_getD, List.getElem?_eq_getElem hj]
    rfl
  have ex : ∀ v : Int, (∃ x ∈ l.take (j + 1), x.1 = v) ↔ ((∃ x ∈ l.take j, x.1 = v) ∨ (l.getD j dL).1 = v) := fun v => by
    rw [et]
    constructor
    · rintro ⟨x, hx, e⟩
      rcases List.mem_append.mp hx with hx | hx
      · exact Or.inl ⟨x, hx, e⟩
      · have : x = l.getD j dL := by simpa using hx
        rw [this] at e
        exact Or.inr e
    · rintro (⟨x, hx, e⟩ | e)
      · exact ⟨x, List.mem_append_left _ hx, e⟩
      · exact ⟨_, List.mem_append_right _ (by simp), e⟩
  -- no line ahead has the same N
  have un : ∀ x ∈ l.take j, ¬ x.1.natAbs = (l.getD j dL).1.natAbs := fun x hx e => by
    obtain ⟨k, hk, rfl⟩ := List.mem_iff_getElem.mp hx
    have hk2 : k < j := by rw [List.length_take] at hk; omega
    rw [List.getElem_take] at e
    have hn2 := hw.2.2
    have eg : (l.getD j dL) = l[j] := by rw [List.getD_eq_getElem?_getD, List.getElem?_eq_getElem hj]; rfl
    rw [eg] at e
    have := (List.getElem_inj (i := k) (j := j) (xs := l.map fun x : Ln => x.1.natAbs) (h₀ := by simp; omega) (h₁ := by simp; omega) hn2).mp (by simpa using e)
    omega
  unfold stP
  by_cases c : n = ((l.getD j dL).1.natAbs : Int)
  · rw [if_pos c]
    by_cases p : 0 < (l.getD j dL).1
    · rw [if_pos p, pick_t ((ex n).mpr (Or.inr (by omega)))]
    · rw [if_neg p, pick_f (fun z => ?_), pick_t ((ex (-n)).mpr (Or.inr (by omega)))]
      rcases (ex n).mp z with ⟨x, hx, e⟩ | e
      · exact un x hx (by omega)
      · omega
  · rw [if_neg c]
    have q1 : (∃ x ∈ l.take (j + 1), x.1 = n) = (∃ x ∈ l.take j, x.1 = n) := propext ((ex n).trans ⟨fun z => z.resolve_right (by omega), Or.inl⟩)
    have q2 : (∃ x ∈ l.take (j + 1), x.1 = -n) = (∃ x ∈ l.take j, x.1 = -n) := propext ((ex (-n)).trans ⟨fun z => z.resolve_right (by omega), Or.inl⟩)
    rw [q1, q2]
def pmL : List Nat := [122, 123, 124, 129]
theorem m_passesMotion {σ : Sg} {ν : Mem} {F : Fl} (hB : FlB σ ν F) (hS : StM σ ν) (hC : CtW σ) (hW : FlW σ F) {m : Int} (hm : 0 ≤ m ∧ m < σ 15472 0) {K : Mem → Prop} (h : ∀ ξ : Mem, Fr pmL ν ξ → FlB σ ξ (pmF σ F m) → K ξ) : f_M_passesMotion m ν K := by
  have hct := hC.1
  have wm := hW.2.2.2.1 m hm.1 (by omega)
  have h12 := wm.1
  have aon : ∀ a : Int, 0 ≤ a → a < σ 15474 0 → 0 ≤ σ 118 a ∧ σ 118 a < 24 := fun a a0 a1 => by have := (hC.2 a a0 a1).2; omega
  have cg : ∀ (P Q : Int → Prop), (∀ y : Int, 0 ≤ y → y < 24 → (P y ↔ Q y)) → faF σ F m P = faF σ F m Q := fun P Q pq => faF_congr pq hct.2.1 aon
  unfold f_M_passesMotion
  refine m_settles hB hS hC hW.1 hm (by omega) (fun μ1 f1 B1 => ?_)
  generalize hl : F.2.1 m = l at *
  have start : FlB σ μ1 ((faF σ F m (fun y => F.1 y = 0 ∧ ¬ y = m ∧ ∃ x ∈ l.take 0, hasN (F.2.1 y) (-x.1))).1, F.2.1, stP (l.take 0) F.2.2.1, F.2.2.2) := by
    rw [faF_0] at B1
    have e0 : faF σ F m (fun y => F.1 y = 0 ∧ ¬ y = m ∧ ∃ x ∈ l.take 0, hasN (F.2.1 y) (-x.1)) = faF σ F m (fun _ => False) := cg _ _ (fun y _ _ => ⟨fun ⟨_, _, x, hx, _⟩ => absurd hx (by simp), False.elim⟩)
    rw [e0]
    obtain ⟨z1, z2, z3, z4, z5, z6⟩ := B1
    exact ⟨z1, z2, z3, z4, fun n n1 n2 => by rw [z5 n n1 n2]; exact (stP_0 _ _).symm, z6⟩
  refine lp2 (fun n (i : Int) (ξ : Mem) => l_M_passesMotion_8 m _ n i ξ) (fun i ξ => ∃ j : Nat, i = (j : Int) ∧ j ≤ l.length ∧ Fr pmL ν ξ ∧ FlB σ ξ ((faF σ F m (fun y => F.1 y = 0 ∧ ¬ y = m ∧ ∃ x ∈ l.take j, hasN (F.2.1 y) (-x.1))).1, F.2.1, stP (l.take j) F.2.2.1, F.2.2.2)) (fun i _ => ((l.length : Int) - i).toNat) (fun n i ξ hJ ih => ?_) 0 μ1 ⟨0, rfl, by omega, Fr.mono f1 rfl, start⟩
  obtain ⟨j, rfl, hj, hf, hK⟩ := hJ
  have rk : RowK ξ m l := by have := hK.2.2.2.1 m hm.1 (by omega); rw [← hl]; exact this
  unfold l_M_passesMotion_8
  (try simp (disch := omega) only [w_id])
  rw [rk.1]
  refine ⟨by omega, by omega, ?_⟩
  (try simp (disch := omega) only [w_id])
  refine ite_i (fun q => ⟨by omega, by omega, fun v3 e3 x47 e47 => ?_⟩) (fun q => ?_)
  · have hjl : j < l.length := by omega
    have hwj := wm.at hjl
    rw [(rk.2 j hjl).1] at e3
    have sp := fun (n : Int) (hn : 1 ≤ n) => stP_s wm hjl (st := F.2.2.1) (n := n) hn
    have mem_j : l.getD j dL ∈ l := getD_mem hjl
    rw [← e3] at hwj sp
    rw [size_e hwj.2.1]
    (try simp (disch := omega) only [w_id] at e47 ⊢)
    refine ⟨by omega, by omega, fun μ3 e3' => ?_⟩
    have f3 : Fr [129] ξ μ3 := by rw [e3']; exact (FrP.refl _ _).wI rfl
    have B3 : FlB σ μ3 ((faF σ F m (fun y => F.1 y = 0 ∧ ¬ y = m ∧ ((∃ x ∈ l.take j, hasN (F.2.1 y) (-x.1)) ∨ (y < 0 ∧ hasN (F.2.1 y) (-v3))))).1, F.2.1, stP (l.take (j + 1)) F.2.2.1, F.2.2.2) := by
      rw [cg (fun y => F.1 y = 0 ∧ ¬ y = m ∧ ((∃ x ∈ l.take j, hasN (F.2.1 y) (-x.1)) ∨ (y < 0 ∧ hasN (F.2.1 y) (-v3)))) (fun y => F.1 y = 0 ∧ ¬ y = m ∧ ∃ x ∈ l.take j, hasN (F.2.1 y) (-x.1)) (fun y y0 _ => ⟨fun z => ⟨z.1, z.2.1, z.2.2.resolve_right (fun k => by omega)⟩, fun z => ⟨z.1, z.2.1, Or.inl z.2.2⟩⟩)]
      obtain ⟨z1, z2, z3, z4, z5, z6⟩ := hK
      refine ⟨fun y y0 y1 => (f3.rdI rfl).trans (z1 y y0 y1), fun y y0 y1 => (f3.rdI rfl).trans (z2 y y0 y1), fun y y0 y1 => (f3.rdI rfl).trans (z3 y y0 y1), fun y y0 y1 => ⟨(f3.rdI rfl).trans (z4 y y0 y1).1, fun i hi => by rw [f3.rdI rfl, f3.rdI rfl, f3.rdI rfl]; exact (z4 y y0 y1).2 i hi⟩, fun n n1 n2 => ?_, (f3.rdI rfl).trans z6⟩
      show rI μ3 129 n = stP (l.take (j + 1)) F.2.2.1 n
      rw [sp n n1, e3', rI_sI]
      by_cases c : n = (v3.natAbs : Int)
      · rw [if_pos ⟨rfl, c⟩, if_pos c, e47]
        split <;> rfl
      · rw [if_neg (fun z => c z.2), if_neg c]
        exact z5 n n1 n2
    refine lp2 (fun n' (o : Int) (π : Mem) => l_M_passesMotion_51 m (j : Int) v3 _ n' o π) (fun o π => 0 ≤ o ∧ o ≤ σ 15472 0 ∧ Fr pmL ν π ∧ FlB σ π ((faF σ F m (fun y => F.1 y = 0 ∧ ¬ y = m ∧ ((∃ x ∈ l.take j, hasN (F.2.1 y) (-x.1)) ∨ (y < o ∧ hasN (F.2.1 y) (-v3))))).1, F.2.1, stP (l.take (j + 1)) F.2.2.1, F.2.2.2)) (fun o _ => (σ 15472 0 - o).toNat) (fun n' o π hJ ih2 => ?_) 0 μ3 ⟨by omega, by omega, hf.trans (Fr.mono f3 rfl), B3⟩
    obtain ⟨o0, o1, fπ, hπ⟩ := hJ
    have hSπ := hS.fr fπ rfl
    have eMo : rI π 15472 0 = σ 15472 0 := hSπ _ rfl _
    unfold l_M_passesMotion_51
    rw [eMo]
    (try simp (disch := omega) only [w_id])
    refine ite_i (fun q2 => ⟨by omega, by omega, ?_⟩) (fun q2 => ?_)
    · have fr := faF_rng (σ := σ) (F := F) (m := m) (P := fun y => F.1 y = 0 ∧ ¬ y = m ∧ ((∃ x ∈ l.take j, hasN (F.2.1 y) (-x.1)) ∨ (y < o ∧ hasN (F.2.1 y) (-v3)))) hW.1
      have fo := fr o
      have fz := faF_zero (σ := σ) (F := F) (m := m) (o := o) (P := fun y => F.1 y = 0 ∧ ¬ y = m ∧ ((∃ x ∈ l.take j, hasN (F.2.1 y) (-x.1)) ∨ (y < o ∧ hasN (F.2.1 y) (-v3)))) ⟨o0, q2⟩ hct.2.1
      have same : ((F.1 o = 0 ∧ ¬ o = m ∧ hasN (F.2.1 o) (-v3)) → ∃ x ∈ l.take j, hasN (F.2.1 o) (-x.1)) → l_M_passesMotion_51 m (j : Int) v3 (fun (μ_7 : Mem) => (l_M_passesMotion_8 m (fun (μ_8 : Mem) => K μ_8) n) ((j : Int) + 1) μ_7) n' (o + 1) π := fun hs => ih2 _ _ ⟨by omega, by omega, fπ, by
        rw [cg (fun y => F.1 y = 0 ∧ ¬ y = m ∧ ((∃ x ∈ l.take j, hasN (F.2.1 y) (-x.1)) ∨ (y < o + 1 ∧ hasN (F.2.1 y) (-v3)))) (fun y => F.1 y = 0 ∧ ¬ y = m ∧ ((∃ x ∈ l.take j, hasN (F.2.1 y) (-x.1)) ∨ (y < o ∧ hasN (F.2.1 y) (-v3)))) (fun y _ _ => ⟨fun z => ⟨z.1, z.2.1, z.2.2.elim Or.inl (fun k => by
          by_cases ey : y = o
          · rw [ey] at z k ⊢; exact Or.inl (hs ⟨z.1, z.2.1, k.2⟩)
          · exact Or.inr ⟨by omega, k.2⟩)⟩, fun z => ⟨z.1, z.2.1, z.2.2.imp id (fun k => ⟨by omega, k.2⟩)⟩⟩)]
        exact hπ⟩ (by omega)
      have hh : rI π 122 o = (faF σ F m (fun y => F.1 y = 0 ∧ ¬ y = m ∧ ((∃ x ∈ l.take j, hasN (F.2.1 y) (-x.1)) ∨ (y < o ∧ hasN (F.2.1 y) (-v3))))).1 o := hπ.1 o o0 q2
      rw [hh]
      (try simp (disch := omega) only [w_id])
      refine ite_i (fun c1 => ?_) (fun c1 => same (fun z => ?_))
      · obtain ⟨g1, g2, g3⟩ := fz.mp c1
        have wo := hW.2.2.2.1 o o0 (by omega)
        refine m_isContrary (by omega) (by omega) (hπ.2.2.2.1 o o0 (by omega)) wo (fun cc => ?_) (fun cc => ?_)
        · rw [if_pos rfl]
          refine m_settles hπ hSπ hC fr ⟨o0, q2⟩ (by omega) (fun ρ fρ Bρ => ?_)
          refine ih2 _ _ ⟨by omega, by omega, fπ.trans (Fr.mono fρ rfl), ?_⟩ (by omega)
          have e := faF_s (σ := σ) (F := F) (m := m) (o := o) (P := fun y => F.1 y = 0 ∧ ¬ y = m ∧ ((∃ x ∈ l.take j, hasN (F.2.1 y) (-x.1)) ∨ (y < o ∧ hasN (F.2.1 y) (-v3)))) hct.2.1 ⟨o0, q2⟩ g1 (by omega)
          have e2 : clF σ ((faF σ F m (fun y => F.1 y = 0 ∧ ¬ y = m ∧ ((∃ x ∈ l.take j, hasN (F.2.1 y) (-x.1)) ∨ (y < o ∧ hasN (F.2.1 y) (-v3))))).1, F.2.1, stP (l.take (j + 1)) F.2.2.1, F.2.2.2) o 3 = ((clF σ (faF σ F m (fun y => F.1 y = 0 ∧ ¬ y = m ∧ ((∃ x ∈ l.take j, hasN (F.2.1 y) (-x.1)) ∨ (y < o ∧ hasN (F.2.1 y) (-v3))))) o 3).1, F.2.1, stP (l.take (j + 1)) F.2.2.1, F.2.2.2) := rfl
          rw [e2, e] at Bρ
          rw [cg (fun y => F.1 y = 0 ∧ ¬ y = m ∧ ((∃ x ∈ l.take j, hasN (F.2.1 y) (-x.1)) ∨ (y < o + 1 ∧ hasN (F.2.1 y) (-v3)))) (fun y => (F.1 y = 0 ∧ ¬ y = m ∧ ((∃ x ∈ l.take j, hasN (F.2.1 y) (-x.1)) ∨ (y < o ∧ hasN (F.2.1 y) (-v3)))) ∨ y = o) (fun y _ _ => ⟨fun z => by
            by_cases ey : y = o
            · exact Or.inr ey
            · exact Or.inl ⟨z.1, z.2.1, z.2.2.imp id (fun k => ⟨by omega, k.2⟩)⟩, fun z => by
            rcases z with z | z
            · exact ⟨z.1, z.2.1, z.2.2.imp id (fun k => ⟨by omega, k.2⟩)⟩
            · rw [z]; exact ⟨g3, g1, Or.inr ⟨by omega, cc⟩⟩⟩)]
          exact Bρ
        · rw [if_neg (by decide)]
          exact same (fun z => absurd z.2.2 cc)
      · refine Classical.byContradiction (fun hx => c1 (fz.mpr ⟨z.2.1, fun k => ?_, z.1⟩))
        exact k.2.2.elim hx (fun k2 => by omega)
    · refine ih _ _ ⟨j + 1, by omega, by omega, fπ, ?_⟩ (by omega)
      have eo : o = σ 15472 0 := by omega
      have e9 : faF σ F m (fun y => F.1 y = 0 ∧ ¬ y = m ∧ ∃ x ∈ l.take (j + 1), hasN (F.2.1 y) (-x.1)) = faF σ F m (fun y => F.1 y = 0 ∧ ¬ y = m ∧ ((∃ x ∈ l.take j, hasN (F.2.1 y) (-x.1)) ∨ (y < o ∧ hasN (F.2.1 y) (-v3)))) := cg _ _ (fun y y0 y1 => by
        have et : l.take (j + 1) = l.take j ++ [l.getD j dL] := by
          rw [List.take_succ_eq_append_getElem hjl, List.getD_eq_getElem?_getD, List.getElem?_eq_getElem hjl]
          rfl
        constructor
        · rintro ⟨a1, a2, x, hx, hh⟩
          refine ⟨a1, a2, ?_⟩
          rw [et] at hx
          rcases List.mem_append.mp hx with hx | hx
          · exact Or.inl ⟨x, hx, hh⟩
          · have ex : x = l.getD j dL := by simpa using hx
            rw [ex, ← e3] at hh
            refine Or.inr ⟨?_, hh⟩
            by_cases cz : y < o
            · exact cz
            · have nm : ¬ isMt σ y := by unfold isMt; omega
              have := hW.2.2.1 y nm
              omega
        · rintro ⟨a1, a2, hx⟩
          refine ⟨a1, a2, ?_⟩
          rcases hx with ⟨x, hx, hh⟩ | ⟨_, hh⟩
          · exact ⟨x, by rw [et]; exact List.mem_append_left _ hx, hh⟩
          · exact ⟨l.getD j dL, by rw [et]; exact List.mem_append_right _ (by simp), by rw [← e3]; exact hh⟩)
      rw [e9]
      exact hπ
  · have ej : j = l.length := by omega
    rw [ej, List.take_length] at hK
    refine h ξ hf ?_
    unfold pmF
    have e9 : faF σ F m (falls F m) = faF σ F m (fun y => F.1 y = 0 ∧ ¬ y = m ∧ ∃ x ∈ l, hasN (F.2.1 y) (-x.1)) := cg _ _ (fun y y0 y1 => by
      unfold falls ctr hasN
      rw [hl]
      constructor
      · rintro ⟨a1, a2, x, hx, z, hz, e⟩
        exact ⟨a2, a1, z, hz, x, hx, e⟩
      · rintro ⟨a2, a1, z, hz, x, hx, e⟩
        exact ⟨a1, a2, x, hx, z, hz, e⟩)
    rw [e9, hl]
    exact hK
