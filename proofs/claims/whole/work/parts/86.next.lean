/-! THE NEXT ORDER, pure and on both sides -/
def swpL (l : List Nat) (i j : Nat) : List Nat := (l.set i (l.getD j 0)).set j (l.getD i 0)
def pvN (l : List Nat) : Nat → Option Nat
  | 0 => none
  | k + 1 => if l.getD (k + 1) 0 < l.getD k 0 then pvN l k else some k
def qvN (l : List Nat) (p : Nat) : Nat → Nat
  | 0 => 0
  | k + 1 => if p < k + 1 ∧ l.getD (k + 1) 0 < l.getD p 0 then qvN l p k else k + 1
def rvN : Nat → List Nat → Nat → Nat → List Nat
  | 0, l, _, _ => l
  | f + 1, l, lo, hi => if lo < hi then rvN f (swpL l lo hi) (lo + 1) (hi - 1) else l
def nxO (l : List Nat) : Option (List Nat) :=
  match pvN l (l.length - 1) with
  | none => none
  | some p => some (rvN 6 (swpL l p (qvN l p (l.length - 1))) (p + 1) (l.length - 1))
def stopsO : Nat → List Nat → Bool
  | 0, _ => false
  | f + 1, o => match nxO o with
    | none => true
    | some o' => stopsO f o'
theorem stops_id : ∀ n : Fin 7, stopsO 720 (List.range n.1) = true := by decide +kernel
theorem swpL_at {l : List Nat} {i j k : Nat} (hi : i < l.length) (hj : j < l.length) : (swpL l i j).getD k 0 = if k = j then l.getD i 0 else if k = i then l.getD j 0 else l.getD k 0 := by
  unfold swpL
  conv => lhs; rw [List.getD_eq_getElem?_getD, List.getElem?_set, List.length_set, List.getElem?_set]
  by_cases c : k = j
  · rw [if_pos c.symm, if_pos hj, if_pos c]; rfl
  · rw [if_neg (fun z => c z.symm), if_neg c]
    by_cases d : k = i
    · rw [if_pos d.symm, if_pos hi, if_pos d]; rfl
    · rw [if_neg (fun z => d z.symm), if_neg d, List.getD_eq_getElem?_getD]
theorem swpL_len (l : List Nat) (i j : Nat) : (swpL l i j).length = l.length := by unfold swpL; rw [List.length_set, List.length_set]
theorem OdW.mk' {n : Nat} {l : List Nat} (h : l.length = n) (k : ∀ i : Nat, i < n → l.getD i 0 < n) : OdW n l := by
  refine ⟨h, fun x hx => ?_⟩
  obtain ⟨i, hi, rfl⟩ := List.mem_iff_getElem.mp hx
  have := k i (by omega)
  rw [List.getD_eq_getElem?_getD, List.getElem?_eq_getElem hi] at this
  exact this
theorem OdW.swp {n : Nat} {l : List Nat} (h : OdW n l) {i j : Nat} (hi : i < n) (hj : j < n) : OdW n (swpL l i j) := by
  refine OdW.mk' (by rw [swpL_len]; exact h.1) (fun k hk => ?_)
  rw [swpL_at (by rw [h.1]; exact hi) (by rw [h.1]; exact hj)]
  split
  · exact h.at hi
  · split
    · exact h.at hj
    · exact h.at hk
theorem pvN_lt {l : List Nat} : ∀ {k p : Nat}, pvN l k = some p → p < k
  | 0, p, h => by cases h
  | k + 1, p, h => by
    unfold pvN at h
    split at h
    · have := pvN_lt h; omega
    · have := Option.some.inj h; omega
theorem qvN_rng {l : List Nat} {p : Nat} : ∀ {k : Nat}, p ≤ k → p ≤ qvN l p k ∧ qvN l p k ≤ k
  | 0, h => ⟨h, Nat.le_refl _⟩
  | k + 1, h => by
    unfold qvN
    split
    · rename_i q
      have := qvN_rng (l := l) (p := p) (k := k) (by omega)
      omega
    · omega
-- the class
theorem c_swap {ν : Mem} {n : Nat} {l : List Nat} (h6 : n ≤ 6) (hW : OdW n l) (hO : OdC ν 109 l) {i j : Nat} (hi : i < n) (hj : j < n) {K : Mem → Prop} (h : ∀ ξ : Mem, Fr [109] ν ξ → OdC ξ 109 (swpL l i j) → K ξ) : f_Worths_swap (i : Int) (j : Int) ν K := by
  have li := hW.at hi
  have lj := hW.at hj
  have ei := hO i (by rw [hW.1]; exact hi)
  have ej := hO j (by rw [hW.1]; exact hj)
  unfold f_Worths_swap
  intro v3 e3 μ1 e1 μ2 e2
  rw [at_in (by omega) (by omega) (by decide), ei] at e3
  rw [set_in (by omega) (by omega) (by decide), at_in (by omega) (by omega) (by decide), ej] at e1
  rw [set_in (by omega) (by omega) (by decide)] at e2
  refine h μ2 (by rw [e2, e1]; exact ((FrP.refl _ _).wI (by decide)).wI (by decide)) (fun k hk => ?_)
  rw [swpL_len] at hk
  rw [swpL_at (by rw [hW.1]; exact hi) (by rw [hW.1]; exact hj), e2, rI_sI]
  by_cases c : k = j
  · rw [if_pos ⟨rfl, by omega⟩, if_pos c, e3, w_id (by omega) (by omega)]
  · rw [if_neg (fun z => by omega), if_neg c, e1, rI_sI]
    by_cases d : k = i
    · rw [if_pos ⟨rfl, by omega⟩, if_pos d, w_id (by omega) (by omega)]
    · rw [if_neg (fun z => by omega), if_neg d]
      exact hO k hk
theorem c_nextO {ν : Mem} {n : Nat} {l : List Nat} (h6 : n ≤ 6) (hn : rI ν 13934 0 = (n : Int)) (hW : OdW n l) (hO : OdC ν 109 l) {K : Bool → Mem → Prop}
    (h0 : nxO l = none → K false ν) (h1 : ∀ l' : List Nat, nxO l = some l' → ∀ ξ : Mem, Fr [109] ν ξ → OdC ξ 109 l' → OdW n l' → K true ξ) : f_Worths_nextOrder ν K := by
  have ln := hW.1
  have pv : ∀ (X : Int → Prop) (k : Nat), k + 1 ≤ n ∨ k = 0 → (pvN l k = none → X (-1)) → (∀ p : Nat, pvN l k = some p → X (p : Int)) → l_Worths_nextOrder_7 ν X (k + 1) ((k : Int) - 1) := by
    intro X k
    induction k with
    | zero =>
      intro _ x0 _
      unfold l_Worths_nextOrder_7
      (try simp (disch := omega) only [w_id])
      rw [if_pos (by omega)]
      exact x0 rfl
    | succ k ih =>
      intro hk x0 x1
      have e : pvN l (k + 1) = if l.getD (k + 1) 0 < l.getD k 0 then pvN l k else some k := rfl
      have a1 := hW.at (i := k + 1) (by omega)
      have a2 := hW.at (i := k) (by omega)
      have b1 := hO (k + 1) (by omega)
      have b2 := hO k (by omega)
      unfold l_Worths_nextOrder_7
      rw [show ((k + 1 : Nat) : Int) - 1 + 1 = ((k + 1 : Nat) : Int) by omega, show ((k + 1 : Nat) : Int) - 1 = (k : Int) by omega, at_in (by omega) (by omega) (by decide), at_in (by omega) (by omega) (by decide), b1, b2]
      (try simp (disch := omega) only [w_id])
      rw [if_neg (by omega)]
      refine ite_i (fun q => ?_) (fun q => ?_)
      · rw [if_pos (by omega)] at e
        rw [e] at x0 x1
        rw [show (k : Int) + -1 = (k : Int) - 1 by omega]
        exact ih (by omega) x0 x1
      · rw [if_neg (by omega)] at e
        exact x1 k e
  have qv : ∀ (p : Nat) (X : Int → Prop), p < n → ∀ k : Nat, p ≤ k → k < n → X ((qvN l p k : Nat) : Int) → l_Worths_nextOrder_51 ν (p : Int) X (k + 1) (k : Int) := by
    intro p X hp k
    have a2 := hW.at (i := p) hp
    have b2 := hO p (by omega)
    induction k with
    | zero =>
      intro pk hk x
      unfold l_Worths_nextOrder_51
      (try simp (disch := omega) only [w_id])
      rw [if_neg (by omega)]
      exact x
    | succ k ih =>
      intro pk hk x
      have a1 := hW.at (i := k + 1) hk
      have b1 := hO (k + 1) (by omega)
      have e : qvN l p (k + 1) = if p < k + 1 ∧ l.getD (k + 1) 0 < l.getD p 0 then qvN l p k else k + 1 := rfl
      unfold l_Worths_nextOrder_51
      rw [at_in (by omega) (by omega) (by decide), at_in (by omega) (by omega) (by decide), b1, b2]
      (try simp (disch := omega) only [w_id])
      refine ite_i (fun q => ite_i (fun q2 => ?_) (fun q2 => ?_)) (fun q => ?_)
      · rw [if_pos ⟨by omega, by omega⟩] at e
        rw [e] at x
        rw [show ((k + 1 : Nat) : Int) + -1 = (k : Int) by omega]
        exact ih (by omega) (by omega) x
      · rw [if_neg (fun z => by omega)] at e
        rw [e] at x
        exact x
      · rw [if_neg (fun z => by omega)] at e
        rw [e] at x
        exact x
  have rv : ∀ (X : Mem → Prop) (f lo hi : Nat) (l' : List Nat) (ξ : Mem), hi ≤ lo + 2 * f → lo ≤ n → hi < n → OdW n l' → OdC ξ 109 l' → Fr [109] ν ξ → (∀ ο : Mem, Fr [109] ν ο → OdC ο 109 (rvN f l' lo hi) → OdW n (rvN f l' lo hi) → X ο) → l_Worths_nextOrder_99 X (f + 1) (hi : Int) (lo : Int) ξ := by
    intro X f
    induction f with
    | zero =>
      intro lo hi l' ξ hf hlo hh w' o' fr h
      unfold l_Worths_nextOrder_99
      (try simp (disch := omega) only [w_id])
      rw [if_neg (by omega)]
      exact h ξ fr o' w'
    | succ f ih =>
      intro lo hi l' ξ hf hlo hh w' o' fr h
      have e : rvN (f + 1) l' lo hi = if lo < hi then rvN f (swpL l' lo hi) (lo + 1) (hi - 1) else l' := rfl
      unfold l_Worths_nextOrder_99
      (try simp (disch := omega) only [w_id])
      refine ite_i (fun q => ?_) (fun q => ?_)
      · rw [if_pos (by omega)] at e
        rw [e] at h
        refine c_swap h6 w' o' (by omega) hh (fun ο fo oo => ?_)
        have g := ih (lo + 1) (hi - 1) (swpL l' lo hi) ο (by omega) (by omega) (by omega) (w'.swp (by omega) hh) oo (fr.trans fo) h
        rw [show ((hi - 1 : Nat) : Int) = (hi : Int) + -1 by omega] at g
        exact g
      · rw [if_neg (by omega)] at e
        rw [e] at h
        exact h ξ fr o' w'
  unfold f_Worths_nextOrder
  intro v1 e1
  rw [hn] at e1
  have en : nxO l = match pvN l (n - 1) with
    | none => none
    | some p => some (rvN 6 (swpL l p (qvN l p (n - 1))) (p + 1) (n - 1)) := by rw [← ln]; rfl
  by_cases n0 : n = 0
  · have ez : pvN l (n - 1) = none := by rw [n0]; rfl
    rw [ez] at en
    refine ⟨1, ?_⟩
    unfold l_Worths_nextOrder_7
    rw [e1]
    (try simp (disch := omega) only [w_id])
    rw [if_pos (by omega), if_pos (by omega)]
    exact h0 en
  · refine ⟨n - 1 + 1, ?_⟩
    have go := pv (fun (v1_2 : Int) => if w v1_2 < 0 then (K false ν) else (∀ v2 : Int, v2 = (rI ν 13934 0) - 1 → ∃ m51 : Nat, l_Worths_nextOrder_51 ν v1_2 (fun (v2_2 : Int) => f_Worths_swap v1_2 v2_2 ν (fun μ_1 => ∀ v3 : Int, v3 = (rI μ_1 13934 0) - 1 → ∃ m99 : Nat, l_Worths_nextOrder_99 (fun (μ_4 : Mem) => K true μ_4) m99 v3 (v1_2 + 1) μ_1)) m51 v2)) (n - 1) (by omega) (fun z => ?_) (fun p hp => ?_)
    · rw [e1, show (n : Int) - 2 = ((n - 1 : Nat) : Int) - 1 by omega]
      exact go
    · rw [z] at en
      rw [if_pos (by decide)]
      exact h0 en
    · rw [hp] at en
      have pl := pvN_lt hp
      have qr := qvN_rng (l := l) (p := p) (k := n - 1) (by omega)
      (try simp (disch := omega) only [w_id])
      rw [if_neg (by omega)]
      intro v2 e2
      rw [hn] at e2
      refine ⟨n - 1 + 1, ?_⟩
      rw [e2, show (n : Int) - 1 = ((n - 1 : Nat) : Int) by omega]
      refine qv p _ (by omega) (n - 1) (by omega) (by omega) ?_
      refine c_swap h6 hW hO (by omega) (by omega) (fun ξ fx ox v3 e3 => ?_)
      rw [fx.rdI rfl, hn] at e3
      refine ⟨7, ?_⟩
      rw [e3, show (n : Int) - 1 = ((n - 1 : Nat) : Int) by omega, show (p : Int) + 1 = ((p + 1 : Nat) : Int) by omega]
      exact rv _ 6 (p + 1) (n - 1) _ ξ (by omega) (by omega) (by omega) (hW.swp (by omega) (by omega)) ox fx (fun ο fo oo wo => h1 _ en ο fo oo wo)
-- the model
theorem m_swap {ν : Mem} {n : Nat} {l : List Nat} (h6 : n ≤ 6) (hW : OdW n l) (hO : OdC ν 167 l) {i j : Nat} (hi : i < n) (hj : j < n) {K : Mem → Prop} (h : ∀ ξ : Mem, Fr [167] ν ξ → OdC ξ 167 (swpL l i j) → K ξ) : f_M_swaps (i : Int) (j : Int) ν K := by
  have li := hW.at hi
  have lj := hW.at hj
  have ei := hO i (by rw [hW.1]; exact hi)
  have ej := hO j (by rw [hW.1]; exact hj)
  unfold f_M_swaps
  (try simp (disch := omega) only [w_id])
  refine ⟨by omega, by omega, fun v3 e3 => ⟨by omega, by omega, by omega, by omega, fun μ1 e1 => ⟨by omega, by omega, fun μ2 e2 => ?_⟩⟩⟩
  rw [ei] at e3
  rw [ej] at e1
  refine h μ2 (by rw [e2, e1]; exact ((FrP.refl _ _).wI (by decide)).wI (by decide)) (fun k hk => ?_)
  rw [swpL_len] at hk
  rw [swpL_at (by rw [hW.1]; exact hi) (by rw [hW.1]; exact hj), e2, rI_sI]
  by_cases c : k = j
  · rw [if_pos ⟨rfl, by omega⟩, if_pos c, e3, w_id (by omega) (by omega)]
  · rw [if_neg (fun z => by omega), if_neg c, e1, rI_sI]
    by_cases d : k = i
    · rw [if_pos ⟨rfl, by omega⟩, if_pos d, w_id (by omega) (by omega)]
    · rw [if_neg (fun z => by omega), if_neg d]
      exact hO k hk
theorem m_goesOn {ν : Mem} {n : Nat} {l : List Nat} (h6 : n ≤ 6) (hn : rI ν 15545 0 = (n : Int)) (hW : OdW n l) (hO : OdC ν 167 l) {K : Bool → Mem → Prop}
    (h0 : nxO l = none → K false ν) (h1 : ∀ l' : List Nat, nxO l = some l' → ∀ ξ : Mem, Fr [167] ν ξ → OdC ξ 167 l' → OdW n l' → K true ξ) : f_M_goesOn ν K := by
  have ln := hW.1
  have pv : ∀ (X : Int → Prop) (k : Nat), k + 1 ≤ n ∨ k = 0 → (pvN l k = none → X (-1)) → (∀ p : Nat, pvN l k = some p → X (p : Int)) → l_M_goesOn_7 ν X (k + 1) ((k : Int) - 1) := by
    intro X k
    induction k with
    | zero =>
      intro _ x0 _
      unfold l_M_goesOn_7
      (try simp (disch := omega) only [w_id])
      rw [if_pos (by omega)]
      exact x0 rfl
    | succ k ih =>
      intro hk x0 x1
      have e : pvN l (k + 1) = if l.getD (k + 1) 0 < l.getD k 0 then pvN l k else some k := rfl
      have a1 := hW.at (i := k + 1) (by omega)
      have a2 := hW.at (i := k) (by omega)
      have b1 := hO (k + 1) (by omega)
      have b2 := hO k (by omega)
      unfold l_M_goesOn_7
      rw [show ((k + 1 : Nat) : Int) - 1 + 1 = ((k + 1 : Nat) : Int) by omega, show ((k + 1 : Nat) : Int) - 1 = (k : Int) by omega]
      (try simp (disch := omega) only [w_id])
      rw [if_neg (by omega), b1, b2]
      (try simp (disch := omega) only [w_id])
      refine ⟨by omega, by omega, by omega, by omega, ite_i (fun q => ?_) (fun q => ?_)⟩
      · rw [if_pos (by omega)] at e
        rw [e] at x0 x1
        rw [show (k : Int) + -1 = (k : Int) - 1 by omega]
        exact ih (by omega) x0 x1
      · rw [if_neg (by omega)] at e
        exact x1 k e
  have qv : ∀ (p : Nat) (X : Int → Prop), p < n → ∀ k : Nat, p ≤ k → k < n → X ((qvN l p k : Nat) : Int) → l_M_goesOn_47 ν (p : Int) X (k + 1) (k : Int) := by
    intro p X hp k
    have a2 := hW.at (i := p) hp
    have b2 := hO p (by omega)
    induction k with
    | zero =>
      intro pk hk x
      have ez : p = 0 := by omega
      subst ez
      unfold l_M_goesOn_47
      (try simp (disch := omega) only [w_id])
      rw [if_neg (by omega)]
      exact ⟨by omega, by omega, by omega, by omega, x⟩
    | succ k ih =>
      intro pk hk x
      have a1 := hW.at (i := k + 1) hk
      have b1 := hO (k + 1) (by omega)
      have e : qvN l p (k + 1) = if p < k + 1 ∧ l.getD (k + 1) 0 < l.getD p 0 then qvN l p k else k + 1 := rfl
      unfold l_M_goesOn_47
      (try simp (disch := omega) only [w_id])
      rw [b1, b2]
      (try simp (disch := omega) only [w_id])
      refine ⟨by omega, by omega, by omega, by omega, ite_i (fun q2 => ?_) (fun q2 => ?_)⟩
      · have hne : ¬ p = k + 1 := fun z => by rw [z] at q2; omega
        rw [if_pos ⟨by omega, by omega⟩] at e
        rw [e] at x
        rw [show ((k + 1 : Nat) : Int) + -1 = (k : Int) by omega]
        exact ih (by omega) (by omega) x
      · rw [if_neg (fun z => by omega)] at e
        rw [e] at x
        exact x
  have rv : ∀ (X : Mem → Prop) (f lo hi : Nat) (l' : List Nat) (ξ : Mem), hi ≤ lo + 2 * f → lo ≤ n → hi < n → OdW n l' → OdC ξ 167 l' → Fr [167] ν ξ → (∀ ο : Mem, Fr [167] ν ο → OdC ο 167 (rvN f l' lo hi) → OdW n (rvN f l' lo hi) → X ο) → l_M_goesOn_86 X (f + 1) (lo : Int) (hi : Int) ξ := by
    intro X f
    induction f with
    | zero =>
      intro lo hi l' ξ hf hlo hh w' o' fr h
      unfold l_M_goesOn_86
      (try simp (disch := omega) only [w_id])
      rw [if_neg (by omega)]
      exact h ξ fr o' w'
    | succ f ih =>
      intro lo hi l' ξ hf hlo hh w' o' fr h
      have e : rvN (f + 1) l' lo hi = if lo < hi then rvN f (swpL l' lo hi) (lo + 1) (hi - 1) else l' := rfl
      unfold l_M_goesOn_86
      (try simp (disch := omega) only [w_id])
      refine ite_i (fun q => ?_) (fun q => ?_)
      · rw [if_pos (by omega)] at e
        rw [e] at h
        refine m_swap h6 w' o' (by omega) hh (fun ο fo oo => ?_)
        have g := ih (lo + 1) (hi - 1) (swpL l' lo hi) ο (by omega) (by omega) (by omega) (w'.swp (by omega) hh) oo (fr.trans fo) h
        rw [show ((hi - 1 : Nat) : Int) = (hi : Int) + -1 by omega] at g
        exact g
      · rw [if_neg (by omega)] at e
        rw [e] at h
        exact h ξ fr o' w'
  unfold f_M_goesOn
  intro v1 e1
  rw [hn] at e1
  have en : nxO l = match pvN l (n - 1) with
    | none => none
    | some p => some (rvN 6 (swpL l p (qvN l p (n - 1))) (p + 1) (n - 1)) := by rw [← ln]; rfl
  by_cases n0 : n = 0
  · have ez : pvN l (n - 1) = none := by rw [n0]; rfl
    rw [ez] at en
    refine ⟨1, ?_⟩
    unfold l_M_goesOn_7
    rw [e1]
    (try simp (disch := omega) only [w_id])
    rw [if_pos (by omega), if_pos (by omega)]
    exact h0 en
  · refine ⟨n - 1 + 1, ?_⟩
    have go := pv (fun (v1_2 : Int) => if w v1_2 < 0 then (K false ν) else (∀ v2 : Int, v2 = (rI ν 15545 0) - 1 → ∃ m47 : Nat, l_M_goesOn_47 ν v1_2 (fun (v2_2 : Int) => f_M_swaps v1_2 v2_2 ν (fun μ_1 => ∀ v4 : Int, v4 = (rI μ_1 15545 0) - 1 → ∃ m86 : Nat, l_M_goesOn_86 (fun (μ_4 : Mem) => K true μ_4) m86 (v1_2 + 1) v4 μ_1)) m47 v2)) (n - 1) (by omega) (fun z => ?_) (fun p hp => ?_)
    · rw [e1, show (n : Int) - 2 = ((n - 1 : Nat) : Int) - 1 by omega]
      exact go
    · rw [z] at en
      rw [if_pos (by decide)]
      exact h0 en
    · rw [hp] at en
      have pl := pvN_lt hp
      have qr := qvN_rng (l := l) (p := p) (k := n - 1) (by omega)
      (try simp (disch := omega) only [w_id])
      rw [if_neg (by omega)]
      intro v2 e2
      rw [hn] at e2
      refine ⟨n - 1 + 1, ?_⟩
      rw [e2, show (n : Int) - 1 = ((n - 1 : Nat) : Int) by omega]
      refine qv p _ (by omega) (n - 1) (by omega) (by omega) ?_
      refine m_swap h6 hW hO (by omega) (by omega) (fun ξ fx ox v3 e3 => ?_)
      rw [fx.rdI rfl, hn] at e3
      refine ⟨7, ?_⟩
      rw [e3, show (n : Int) - 1 = ((n - 1 : Nat) : Int) by omega, show (p : Int) + 1 = ((p + 1 : Nat) : Int) by omega]
      exact rv _ 6 (p + 1) (n - 1) _ ξ (by omega) (by omega) (by omega) (hW.swp (by omega) (by omega)) ox fx (fun ο fo oo wo => h1 _ en ο fo oo wo)
