/-! ORDERS: the model lays its row of clauses where it belongs -/
/-- what the model does behind the text -/
def m_orT (μ_6 : Mem) (k : Int → Mem → Prop) : Prop := (0 ≤ w (rI μ_6 15479 0) ∧ w (rI μ_6 15479 0) < ((11 : Nat) : Int) ∧ ∀ μ_7 : Mem, μ_7 = sI μ_6 144 (w (rI μ_6 15479 0)) (rI μ_6 144 (w 10)) → 0 ≤ w (rI μ_7 15479 0) ∧ w (rI μ_7 15479 0) < ((11 : Nat) : Int) ∧ ∀ μ_8 : Mem, μ_8 = sI μ_7 145 (w (rI μ_7 15479 0)) (rI μ_7 145 (w 10)) → ∃ m86 : Nat, l_M_orders_86 (fun (μ_11 : Mem) => ∃ m130 : Nat, l_M_orders_130 (fun (μ_17 : Mem) => ∀ x236 : Int, x236 = (if w (rI μ_17 15479 0) = 0 then 1 else 0) → 0 ≤ w (rI μ_17 15479 0) ∧ w (rI μ_17 15479 0) < ((10 : Nat) : Int) ∧ ∀ μ_18 : Mem, μ_18 = sI μ_17 124 (w (rI μ_17 15479 0)) x236 → if w (rI μ_18 15479 0) = 0 then (∀ μ_19 : Mem, μ_19 = sI μ_18 15480 0 0 → ∀ μ_20 : Mem, μ_20 = sI μ_19 15479 0 ((rI μ_19 15479 0) + 1) → ∀ μ_21 : Mem, μ_21 = sB μ_20 15536 0 false → k ((rI μ_21 15479 0) - 1) μ_21) else (∀ μ_22 : Mem, μ_22 = sI μ_18 15479 0 ((rI μ_18 15479 0) + 1) → ∀ μ_23 : Mem, μ_23 = sB μ_22 15536 0 false → k ((rI μ_23 15479 0) - 1) μ_23)) m130 0 μ_11) m86 0 μ_8)
def RuQ (ν ξ : Mem) : Prop := (∀ j : Int, j < 3200 → rI ξ 143 j = rI ν 143 j) ∧ (∀ j : Int, ¬ j = 10 → rI ξ 145 j = rI ν 145 j) ∧ ∀ q : Nat, lel rowLs q = true → ∀ j : Int, j < 150 → rI ξ q j = rI ν q j
theorem RuQ.ru {ν ξ : Mem} (h : RuQ ν ξ) {N : Int} (hN : N ≤ 10) : RuE N (MS ν) (MS ξ) := by
  obtain ⟨h1, h2, h3⟩ := h
  unfold RuE
  refine ⟨fun j j0 j1 => h2 j (by omega), fun j j0 j1 => ⟨h3 _ rfl j (by omega), h3 _ rfl j (by omega), h3 _ rfl j (by omega), h3 _ rfl j (by omega)⟩, fun j j0 j1 => h1 j (by omega)⟩
theorem FrQ.ruq {ν ξ : Mem} (h : FrQ ν ξ) : RuQ ν ξ := ⟨h.2.1, fun j hj => (h.2.2.1 j hj).2, h.2.2.2⟩
theorem RuQ.trans {ν ξ ο : Mem} (h : RuQ ν ξ) (k : RuQ ξ ο) : RuQ ν ο := ⟨fun j hj => (k.1 j hj).trans (h.1 j hj), fun j hj => (k.2.1 j hj).trans (h.2.1 j hj), fun q hq j hj => (k.2.2 q hq j hj).trans (h.2.2 q hq j hj)⟩
theorem RuQ.of {L : List Nat} {ν ξ : Mem} (h : Fr L ν ξ) (h1 : (lel L 143 || lel L 145 || lel L 146 || lel L 147 || lel L 148 || lel L 149) = false) : RuQ ν ξ := by
  simp only [Bool.or_eq_false_iff] at h1
  obtain ⟨⟨⟨⟨⟨a1, a3⟩, a4⟩, a5⟩, a6⟩, a7⟩ := h1
  refine ⟨fun j _ => h.rdI a1, fun j _ => h.rdI a3, fun q hq j _ => ?_⟩
  rcases rowLs_c hq with rfl | rfl | rfl | rfl
  · exact h.rdI a4
  · exact h.rdI a5
  · exact h.rdI a6
  · exact h.rdI a7
def cyL : List Nat := [143] ++ rowLs
/-- copied so far: signs to i, clauses to k -/
def CyM (N : Int) (S : List Cl) (ρ ν : Mem) (i k : Nat) : Prop := Fr cyL ρ ν ∧ (∀ j : Int, (j < 320 * N ∨ 3200 ≤ j) → rI ν 143 j = rI ρ 143 j) ∧ (∀ q : Nat, lel rowLs q = true → ∀ j : Int, (j < 15 * N ∨ 150 ≤ j) → rI ν q j = rI ρ q j) ∧
  (∀ j : Nat, j < i → rI ν 143 (320 * N + (j : Int)) = (codeL S).getD j 0) ∧ ∀ j : Nat, j < k → rI ν 146 (15 * N + (j : Int)) = (S.getD j dC).1 ∧ rI ν 147 (15 * N + (j : Int)) = (S.getD j dC).2.1 ∧ rI ν 148 (15 * N + (j : Int)) = beC (S.getD j dC) ∧ rI ν 149 (15 * N + (j : Int)) = enC (S.getD j dC)
theorem m_copy86 {N : Int} (hN : 0 ≤ N ∧ N < 10) {S : List Cl} (hl : (codeL S).length ≤ 300) {ρ : Mem} (hs : StpM ρ (codeL S)) (hO : rI ρ 15479 0 = N) {X : Mem → Prop} (h : ∀ ν : Mem, CyM N S ρ ν (codeL S).length 0 → X ν) : ∀ (f i : Nat) (ν : Mem), i + f = (codeL S).length → CyM N S ρ ν i 0 → l_M_orders_86 X (f + 1) (i : Int) ν
  | 0, i, ν, e, c => by
    have s1 : rI ν 144 10 = ((codeL S).length : Int) := by rw [c.1.rdI rfl]; exact hs.1
    unfold l_M_orders_86
    rw [show w 10 = 10 from rfl, s1]
    (try simp (disch := omega) only [w_id])
    rw [if_neg (by omega)]
    rw [show i = (codeL S).length by omega] at c
    exact h ν c
  | f + 1, i, ν, e, c => by
    have s1 : rI ν 144 10 = ((codeL S).length : Int) := by rw [c.1.rdI rfl]; exact hs.1
    have o1 : rI ν 15479 0 = N := by rw [c.1.rdI rfl]; exact hO
    have sv := hs.2 i (by omega)
    have sr := rI_rng ρ 143 (3200 + (i : Int))
    rw [sv] at sr
    obtain ⟨c1, c2, c3, c4, c5⟩ := c
    have gv : rI ν 143 (3200 + (i : Int)) = (codeL S).getD i 0 := (c2 _ (Or.inr (by omega))).trans sv
    unfold l_M_orders_86
    rw [show w 10 = 10 from rfl, s1, o1]
    (try simp (disch := omega) only [w_id])
    rw [if_pos (by omega), gv]
    refine ⟨by omega, by omega, by omega, by omega, fun μ10 e10 => ?_⟩
    have ih := m_copy86 hN hl hs hO h f (i + 1) μ10 (by omega) ⟨by rw [e10]; exact c1.wI (by decide), fun j hj => ?_, fun q hq j hj => ?_, fun j hj => ?_, fun j hj => absurd hj (by omega)⟩
    · exact ih
    · rw [e10, rI_sI, if_neg (fun z => by omega)]; exact c2 j hj
    · rw [e10]
      rcases rowLs_c hq with rfl | rfl | rfl | rfl <;> (rw [rI_ne _ _ _ _ rfl]; exact c3 _ rfl j hj)
    · rw [e10, rI_sI]
      by_cases z : j = i
      · rw [if_pos ⟨rfl, by omega⟩, w_id sr.1 sr.2, z]
      · rw [if_neg (fun y => by omega)]; exact c4 j (by omega)
theorem m_copy130 {N : Int} (hN : 0 ≤ N ∧ N < 10) {S : List Cl} (h15 : S.length ≤ 15) {ρ : Mem} (hm : rI ρ 145 10 = (S.length : Int)) (hE : ∀ i : Nat, i < S.length → EnM ρ S i) (hO : rI ρ 15479 0 = N) {n : Nat} {X : Mem → Prop} (h : ∀ ν : Mem, CyM N S ρ ν n S.length → X ν) : ∀ (f i : Nat) (ν : Mem), i + f = S.length → CyM N S ρ ν n i → l_M_orders_130 X (f + 1) (i : Int) ν
  | 0, i, ν, e, c => by
    have s1 : rI ν 145 10 = (S.length : Int) := by rw [c.1.rdI rfl]; exact hm
    unfold l_M_orders_130
    rw [show w 10 = 10 from rfl, s1]
    (try simp (disch := omega) only [w_id])
    rw [if_neg (by omega)]
    rw [show i = S.length by omega] at c
    exact h ν c
  | f + 1, i, ν, e, c => by
    have s1 : rI ν 145 10 = (S.length : Int) := by rw [c.1.rdI rfl]; exact hm
    have o1 : rI ν 15479 0 = N := by rw [c.1.rdI rfl]; exact hO
    obtain ⟨v1, v2, v3, v4⟩ := hE i (by omega)
    have r1 := rI_rng ρ 146 (150 + (i : Int))
    have r2 := rI_rng ρ 147 (150 + (i : Int))
    have r3 := rI_rng ρ 148 (150 + (i : Int))
    have r4 := rI_rng ρ 149 (150 + (i : Int))
    rw [v1] at r1
    rw [v2] at r2
    rw [v3] at r3
    rw [v4] at r4
    obtain ⟨c1, c2, c3, c4, c5⟩ := c
    have g1 : rI ν 146 (150 + (i : Int)) = (S.getD i dC).1 := (c3 _ rfl _ (Or.inr (by omega))).trans v1
    have g2 : rI ν 147 (150 + (i : Int)) = (S.getD i dC).2.1 := (c3 _ rfl _ (Or.inr (by omega))).trans v2
    have g3 : rI ν 148 (150 + (i : Int)) = beC (S.getD i dC) := (c3 _ rfl _ (Or.inr (by omega))).trans v3
    have g4 : rI ν 149 (150 + (i : Int)) = enC (S.getD i dC) := (c3 _ rfl _ (Or.inr (by omega))).trans v4
    unfold l_M_orders_130
    rw [show w 10 = 10 from rfl, s1, o1]
    (try simp (disch := omega) only [w_id])
    rw [if_pos (by omega)]
    intro v3' ev3 v4' ev4
    subst ev3
    subst ev4
    (try simp (disch := omega) only [w_id])
    rw [g1]
    refine ⟨by omega, by omega, by omega, by omega, fun μ13 e13 => ?_⟩
    have h2 : rI μ13 147 (150 + (i : Int)) = (S.getD i dC).2.1 := by rw [e13, rI_ne _ _ _ _ rfl]; exact g2
    rw [h2]
    refine ⟨by omega, by omega, by omega, by omega, fun μ14 e14 => ?_⟩
    have h3 : rI μ14 148 (150 + (i : Int)) = beC (S.getD i dC) := by rw [e14, rI_ne _ _ _ _ rfl, e13, rI_ne _ _ _ _ rfl]; exact g3
    rw [h3]
    refine ⟨by omega, by omega, by omega, by omega, fun μ15 e15 => ?_⟩
    have h4 : rI μ15 149 (150 + (i : Int)) = enC (S.getD i dC) := by rw [e15, rI_ne _ _ _ _ rfl, e14, rI_ne _ _ _ _ rfl, e13, rI_ne _ _ _ _ rfl]; exact g4
    rw [h4]
    refine ⟨by omega, by omega, by omega, by omega, fun μ16 e16 => ?_⟩
    have kd : ∀ j : Int, rI μ16 146 j = if j = 15 * N + (i : Int) then (S.getD i dC).1 else rI ν 146 j := fun j => by
      rw [e16, rI_ne _ _ _ _ rfl, e15, rI_ne _ _ _ _ rfl, e14, rI_ne _ _ _ _ rfl, e13, rI_sI]
      by_cases z : j = 15 * N + (i : Int)
      · rw [if_pos ⟨rfl, z⟩, if_pos z, w_id r1.1 r1.2]
      · rw [if_neg (fun y => z y.2), if_neg z]
    have nb : ∀ j : Int, rI μ16 147 j = if j = 15 * N + (i : Int) then (S.getD i dC).2.1 else rI ν 147 j := fun j => by
      rw [e16, rI_ne _ _ _ _ rfl, e15, rI_ne _ _ _ _ rfl, e14, rI_sI]
      by_cases z : j = 15 * N + (i : Int)
      · rw [if_pos ⟨rfl, z⟩, if_pos z, w_id r2.1 r2.2]
      · rw [if_neg (fun y => z y.2), if_neg z, e13, rI_ne _ _ _ _ rfl]
    have bg : ∀ j : Int, rI μ16 148 j = if j = 15 * N + (i : Int) then beC (S.getD i dC) else rI ν 148 j := fun j => by
      rw [e16, rI_ne _ _ _ _ rfl, e15, rI_sI]
      by_cases z : j = 15 * N + (i : Int)
      · rw [if_pos ⟨rfl, z⟩, if_pos z, w_id r3.1 r3.2]
      · rw [if_neg (fun y => z y.2), if_neg z, e14, rI_ne _ _ _ _ rfl, e13, rI_ne _ _ _ _ rfl]
    have en : ∀ j : Int, rI μ16 149 j = if j = 15 * N + (i : Int) then enC (S.getD i dC) else rI ν 149 j := fun j => by
      rw [e16, rI_sI]
      by_cases z : j = 15 * N + (i : Int)
      · rw [if_pos ⟨rfl, z⟩, if_pos z, w_id r4.1 r4.2]
      · rw [if_neg (fun y => z y.2), if_neg z, e15, rI_ne _ _ _ _ rfl, e14, rI_ne _ _ _ _ rfl, e13, rI_ne _ _ _ _ rfl]
    have sg : ∀ j : Int, rI μ16 143 j = rI ν 143 j := fun j => by rw [e16, rI_ne _ _ _ _ rfl, e15, rI_ne _ _ _ _ rfl, e14, rI_ne _ _ _ _ rfl, e13, rI_ne _ _ _ _ rfl]
    have f16 : Fr cyL ρ μ16 := by rw [e16, e15, e14, e13]; exact (((c1.wI (by decide)).wI (by decide)).wI (by decide)).wI (by decide)
    clear e13 e14 e15 e16
    have ih := m_copy130 hN h15 hm hE hO h f (i + 1) μ16 (by omega) ⟨f16, fun j hj => by rw [sg]; exact c2 j hj, fun q hq j hj => ?_, fun j hj => by rw [sg]; exact c4 j hj, fun j hj => ?_⟩
    · exact ih
    · have g := c3 q hq j hj
      rcases rowLs_c hq with rfl | rfl | rfl | rfl
      · rw [kd, if_neg (by omega)]; exact g
      · rw [nb, if_neg (by omega)]; exact g
      · rw [bg, if_neg (by omega)]; exact g
      · rw [en, if_neg (by omega)]; exact g
    · rw [kd, nb, bg, en]
      by_cases z : j = i
      · subst z
        rw [if_pos rfl, if_pos rfl, if_pos rfl, if_pos rfl]
        exact ⟨rfl, rfl, rfl, rfl⟩
      · rw [if_neg (by omega), if_neg (by omega), if_neg (by omega), if_neg (by omega)]
        exact c5 j (by omega)
def orF (F : Fl) (N : Int) : Fl := (fun y => if y = 200 + N then (if N = 0 then 1 else 0) else F.1 y, F.2.1, F.2.2.1, if N = 0 then 0 else F.2.2.2)
def owL : List Nat := [144, 145] ++ cyL ++ [124, 15480, 15479, 15536]
/-- the row N holds the clauses -/
def RsN (N : Int) (ξ : Mem) (S : List Cl) : Prop := rI ξ 145 N = (S.length : Int) ∧ (∀ j : Nat, j < (codeL S).length → rI ξ 143 (320 * N + (j : Int)) = (codeL S).getD j 0) ∧ ∀ j : Nat, j < S.length → rI ξ 146 (15 * N + (j : Int)) = (S.getD j dC).1 ∧ rI ξ 147 (15 * N + (j : Int)) = (S.getD j dC).2.1 ∧ rI ξ 148 (15 * N + (j : Int)) = beC (S.getD j dC) ∧ rI ξ 149 (15 * N + (j : Int)) = enC (S.getD j dC)
theorem m_orT_e {σ : Sg} {ρ : Mem} {F : Fl} (hB : FlB σ ρ F) {N : Int} (hO : rI ρ 15479 0 = N) (sO : σ 15479 0 = N) (hN : 0 ≤ N ∧ N < 10) (sm : σ 15472 0 ≤ 24) (sa : σ 15474 0 ≤ 40) {S : List Cl} (hS : RsM ρ S) (h15 : S.length ≤ 15) (hl : (codeL S).length ≤ 300) {K : Int → Mem → Prop}
    (h : ∀ ξ : Mem, Fr owL ρ ξ → rI ξ 15479 0 = N + 1 → rI ξ 15536 0 = 0 → RuE N (MS ρ) (MS ξ) → RsN N ξ S → (∀ σ' : Sg, σ' 15472 0 = σ 15472 0 → σ' 15474 0 = σ 15474 0 → σ' 15479 0 = N + 1 → FlB σ' ξ (orF F N)) → K N ξ) : m_orT ρ K := by
  obtain ⟨s1, s2, s3⟩ := hS
  unfold m_orT
  rw [show w 10 = 10 from rfl, hO, s1.1]
  (try simp (disch := omega) only [w_id])
  refine ⟨by omega, by omega, fun μ7 e7 => ?_⟩
  have f7 : Fr [144] ρ μ7 := by rw [e7]; exact fr1 _ _ _ _
  have o7 : rI μ7 15479 0 = N := by rw [f7.rdI rfl]; exact hO
  have m7 : rI μ7 145 10 = (S.length : Int) := by rw [f7.rdI rfl]; exact s2
  have t7 : StpM μ7 (codeL S) := ⟨by rw [e7, rI_sI, if_neg (fun z => by omega)]; exact s1.1, fun j hj => by rw [f7.rdI rfl]; exact s1.2 j hj⟩
  have E7 : ∀ i : Nat, i < S.length → EnM μ7 S i := fun i hi => EnM.fr (s3 i hi) f7 rfl
  clear e7
  rw [o7, m7]
  (try simp (disch := omega) only [w_id])
  refine ⟨by omega, by omega, fun μ8 e8 => ?_⟩
  have f8 : Fr [145] μ7 μ8 := by rw [e8]; exact fr1 _ _ _ _
  have o8 : rI μ8 15479 0 = N := by rw [f8.rdI rfl]; exact o7
  have m8 : rI μ8 145 10 = (S.length : Int) := by rw [e8, rI_sI, if_neg (fun z => by omega)]; exact m7
  have mo8 : ∀ j : Int, ¬ j = N → rI μ8 145 j = rI ρ 145 j := fun j hj => by rw [e8, rI_sI, if_neg (fun z => hj z.2), f7.rdI rfl]
  have mn8 : rI μ8 145 N = (S.length : Int) := by rw [e8, rI_eq _ _ _ ⟨by omega, by omega⟩]
  have t8 := t7.fr f8 rfl
  have E8 : ∀ i : Nat, i < S.length → EnM μ8 S i := fun i hi => EnM.fr (E7 i hi) f8 rfl
  have f08 : Fr [144, 145] ρ μ8 := (Fr.mono f7 rfl).trans (Fr.mono f8 rfl)
  clear e8
  refine ⟨(codeL S).length + 1, m_copy86 hN hl t8 o8 (fun ν c1 => ?_) (codeL S).length 0 μ8 (by omega) ⟨FrP.refl _ _, fun _ _ => rfl, fun _ _ _ _ => rfl, fun j hj => absurd hj (by omega), fun j hj => absurd hj (by omega)⟩⟩
  refine ⟨S.length + 1, m_copy130 hN h15 m8 E8 o8 (fun ν2 c2 => ?_) S.length 0 ν (by omega) c1⟩
  clear c1
  obtain ⟨d1, d2, d3, d4, d5⟩ := c2
  have f17 : Fr ([144, 145] ++ cyL) ρ ν2 := (Fr.mono f08 rfl).trans (Fr.mono d1 rfl)
  have o17 : rI ν2 15479 0 = N := by rw [d1.rdI rfl]; exact o8
  rw [o17]
  (try simp (disch := omega) only [w_id])
  intro x ex
  refine ⟨by omega, by omega, fun μ18 e18 => ?_⟩
  have o18 : rI μ18 15479 0 = N := by rw [e18, rI_ne _ _ _ _ rfl]; exact o17
  have xr : 0 ≤ x ∧ x ≤ 1 := by rw [ex]; split <;> omega
  have fin : ∀ ξ : Mem, Fr [15480, 15479, 15536] μ18 ξ → rI ξ 15479 0 = N + 1 → rI ξ 15536 0 = 0 → rI ξ 15480 0 = (if N = 0 then 0 else F.2.2.2) → K N ξ := fun ξ fx x1 x2 x3 => by
    have f18 : Fr [124] ν2 μ18 := by rw [e18]; exact fr1 _ _ _ _
    have f2x : Fr [124, 15480, 15479, 15536] ν2 ξ := (Fr.mono f18 rfl).trans (Fr.mono fx rfl)
    have h18 : ∀ j : Int, rI ξ 124 j = if j = N then x else rI ρ 124 j := fun j => by
      rw [fx.rdI rfl, e18, rI_sI]
      by_cases z : j = N
      · rw [if_pos ⟨rfl, z⟩, if_pos z, w_id (by omega) (by omega)]
      · rw [if_neg (fun y => z y.2), if_neg z, f17.rdI rfl]
    have frx : Fr owL ρ ξ := (Fr.mono f17 rfl).trans (Fr.mono f2x rfl)
    refine h ξ frx x1 x2 ?_ ⟨?_, fun j hj => ?_, fun j hj => ?_⟩ (fun σ' q1 q2 q3 => ?_)
    · unfold RuE
      refine ⟨fun j j0 j1 => ?_, fun j j0 j1 => ⟨?_, ?_, ?_, ?_⟩, fun j j0 j1 => ?_⟩
      · show rI ξ 145 j = rI ρ 145 j
        rw [f2x.rdI rfl, d1.rdI rfl]; exact mo8 j (by omega)
      · show rI ξ 146 j = rI ρ 146 j
        rw [f2x.rdI rfl, d3 _ rfl j (Or.inl j1), f08.rdI rfl]
      · show rI ξ 147 j = rI ρ 147 j
        rw [f2x.rdI rfl, d3 _ rfl j (Or.inl j1), f08.rdI rfl]
      · show rI ξ 148 j = rI ρ 148 j
        rw [f2x.rdI rfl, d3 _ rfl j (Or.inl j1), f08.rdI rfl]
      · show rI ξ 149 j = rI ρ 149 j
        rw [f2x.rdI rfl, d3 _ rfl j (Or.inl j1), f08.rdI rfl]
      · show rI ξ 143 j = rI ρ 143 j
        rw [f2x.rdI rfl, d2 j (Or.inl j1), f08.rdI rfl]
    · rw [f2x.rdI rfl, d1.rdI rfl]; exact mn8
    · rw [f2x.rdI rfl]; exact d4 j hj
    · rw [f2x.rdI rfl, f2x.rdI rfl, f2x.rdI rfl, f2x.rdI rfl]; exact d5 j hj
    · obtain ⟨b1, b2, b3, b4, b5, b6⟩ := hB
      refine ⟨fun m q0 q1' => ?_, fun a a0 a1 => ?_, fun o o0 o1 => ?_, fun m q0 q1' => ?_, fun n n1 n2 => ?_, x3⟩
      · show rI ξ 122 m = if m = 200 + N then _ else F.1 m
        rw [frx.rdI rfl, if_neg (by omega)]
        exact b1 m q0 (by omega)
      · show rI ξ 123 a = if 100 + a = 200 + N then _ else F.1 (100 + a)
        rw [frx.rdI rfl, if_neg (by omega)]
        exact b2 a a0 (by omega)
      · show rI ξ 124 o = if 200 + o = 200 + N then (if N = 0 then 1 else 0) else F.1 (200 + o)
        rw [h18]
        by_cases z : o = N
        · rw [if_pos z, if_pos (by omega)]; exact ex
        · rw [if_neg z, if_neg (by omega)]
          exact b3 o o0 (by omega)
      · exact RowAt.fr (b4 m q0 q1') frx rfl
      · rw [frx.rdI rfl]; exact b5 n n1 n2
  have i18 : rI μ18 15480 0 = F.2.2.2 := by rw [e18, rI_ne _ _ _ _ rfl, f17.rdI rfl]; exact hB.2.2.2.2.2
  rw [o18]
  (try simp (disch := omega) only [w_id])
  refine ite_i (fun z => fun μ19 e19 μ20 e20 μ21 e21 => ?_) (fun z => fun μ22 e22 μ23 e23 => ?_)
  · have o19 : rI μ19 15479 0 = N := by rw [e19, rI_ne _ _ _ _ rfl]; exact o18
    rw [o19] at e20
    have o21 : rI μ21 15479 0 = N + 1 := by rw [e21, rI_sB, if_neg (by simp), e20, rI_eq _ _ _ ⟨by omega, by omega⟩]
    rw [o21, show N + 1 - 1 = N by omega]
    refine fin μ21 ?_ o21 ?_ ?_
    · rw [e21, e20, e19]; exact (((FrP.refl _ _).wI (by decide)).wI (by decide)).wB (by decide)
    · rw [e21, rI_sB, if_pos ⟨rfl, rfl⟩]; rfl
    · rw [if_pos z, e21, rI_sB, if_neg (by simp), e20, rI_ne _ _ _ _ rfl, e19, rI_eq _ _ _ ⟨by decide, by decide⟩]
  · have o21 : rI μ23 15479 0 = N + 1 := by rw [e23, rI_sB, if_neg (by simp), e22, rI_eq _ _ _ ⟨by omega, by omega⟩]
    rw [o21, show N + 1 - 1 = N by omega]
    refine fin μ23 ?_ o21 ?_ ?_
    · rw [e23, e22]; exact ((FrP.refl _ _).wI (by decide)).wB (by decide)
    · rw [e23, rI_sB, if_pos ⟨rfl, rfl⟩]; rfl
    · rw [if_neg z, e23, rI_sB, if_neg (by simp), e22, rI_ne _ _ _ _ rfl]; exact i18
