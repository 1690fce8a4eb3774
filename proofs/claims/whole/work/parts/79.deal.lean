/-! THE DEAL: pure, and the class's side -/
def nwO (σ : Sg) (m : Int) : Bool := pcO σ (stO σ) m (σ 15465 0) 0 (-1) false
def thO (σ : Sg) (a m : Int) : Bool := pcO σ (stO σ) m (σ 15465 0) 0 a false
abbrev tuO (σ : Sg) (a m : Int) : Prop := σ 122 m = 0 ∧ ¬ vo σ a m (σ 15465 0) = 2
def chO (σ : Sg) (a m : Int) : Int := if tuO σ a m then b2i (thO σ a m) - b2i (nwO σ m) else 2
def woO (σ : Sg) (a m : Int) : Int := σ 166 (a * 24 + m)
abbrev Dl : Type := Int × Int × Int × Int × Int × Int
def g1O (σ : Sg) (a b m n : Int) : Int := woO σ a m * chO σ a m + woO σ a n * chO σ b n
def g2O (σ : Sg) (a b m n : Int) : Int := woO σ b m * chO σ a m + woO σ b n * chO σ b n
def dStp (σ : Sg) (a b m n : Int) (D : Dl) : Dl := if 0 < g1O σ a b m n ∧ 0 < g2O σ a b m n ∧ D.2.2.2.2.1 + D.2.2.2.2.2 < g1O σ a b m n + g2O σ a b m n then (a, b, m, n, g1O σ a b m n, g2O σ a b m n) else D
def dN (σ : Sg) (a b m : Int) (D : Dl) : Nat → Dl
  | 0 => D
  | k + 1 => if (k : Int) = m ∨ chO σ b (k : Int) = 2 then dN σ a b m D k else dStp σ a b m (k : Int) (dN σ a b m D k)
def dM (σ : Sg) (a b : Int) (D : Dl) : Nat → Dl
  | 0 => D
  | k + 1 => if chO σ a (k : Int) = 2 then dM σ a b D k else dN σ a b (k : Int) (dM σ a b D k) (σ 15472 0).toNat
def dB (σ : Sg) (a : Int) (D : Dl) : Nat → Dl
  | 0 => D
  | k + 1 => dM σ a (a + 1 + (k : Int)) (dB σ a D k) (σ 15472 0).toNat
def dA (σ : Sg) (D : Dl) : Nat → Dl
  | 0 => D
  | k + 1 => dB σ (k : Int) (dA σ D k) (σ 15466 0 - (k : Int) - 1).toNat
theorem chO_rng (σ : Sg) (a m : Int) : -1 ≤ chO σ a m ∧ chO σ a m ≤ 2 := by
  unfold chO
  split
  · cases thO σ a m <;> cases nwO σ m <;> decide
  · decide
theorem wch_bd {x c : Int} (hx : -9 ≤ x ∧ x ≤ 9) (hc : -1 ≤ c ∧ c ≤ 2) : -18 ≤ x * c ∧ x * c ≤ 18 := by
  have : c = -1 ∨ c = 0 ∨ c = 1 ∨ c = 2 := by omega
  rcases this with rfl | rfl | rfl | rfl <;> omega
def WoB (σ : Sg) : Prop := ∀ j : Int, 0 ≤ j → j < 288 → -9 ≤ σ 166 j ∧ σ 166 j ≤ 9
theorem gO_rng {σ : Sg} (hW : WoB σ) {a b m n : Int} (ha : 0 ≤ a ∧ a < 12) (hb : 0 ≤ b ∧ b < 12) (hm : 0 ≤ m ∧ m < 24) (hn : 0 ≤ n ∧ n < 24) : (-36 ≤ g1O σ a b m n ∧ g1O σ a b m n ≤ 36) ∧ (-36 ≤ g2O σ a b m n ∧ g2O σ a b m n ≤ 36) := by
  have w1 := wch_bd (hW (a * 24 + m) (by omega) (by omega)) (chO_rng σ a m)
  have w2 := wch_bd (hW (a * 24 + n) (by omega) (by omega)) (chO_rng σ b n)
  have w3 := wch_bd (hW (b * 24 + m) (by omega) (by omega)) (chO_rng σ a m)
  have w4 := wch_bd (hW (b * 24 + n) (by omega) (by omega)) (chO_rng σ b n)
  unfold g1O g2O woO
  omega
def DlW (D : Dl) : Prop := (0 ≤ D.1 ∧ D.1 < 12) ∧ (0 ≤ D.2.1 ∧ D.2.1 < 12) ∧ (0 ≤ D.2.2.1 ∧ D.2.2.1 < 24) ∧ (0 ≤ D.2.2.2.1 ∧ D.2.2.2.1 < 24) ∧ (0 ≤ D.2.2.2.2.1 ∧ D.2.2.2.2.1 ≤ 36) ∧ (0 ≤ D.2.2.2.2.2 ∧ D.2.2.2.2.2 ≤ 36)
theorem dStp_w {σ : Sg} (hW : WoB σ) {a b m n : Int} (ha : 0 ≤ a ∧ a < 12) (hb : 0 ≤ b ∧ b < 12) (hm : 0 ≤ m ∧ m < 24) (hn : 0 ≤ n ∧ n < 24) {D : Dl} (hD : DlW D) : DlW (dStp σ a b m n D) := by
  have g := gO_rng hW ha hb hm hn
  unfold dStp
  split
  · rename_i q
    exact ⟨ha, hb, hm, hn, by show 0 ≤ g1O σ a b m n ∧ g1O σ a b m n ≤ 36; omega, by show 0 ≤ g2O σ a b m n ∧ g2O σ a b m n ≤ 36; omega⟩
  · exact hD
theorem dN_w {σ : Sg} (hW : WoB σ) {a b m : Int} (ha : 0 ≤ a ∧ a < 12) (hb : 0 ≤ b ∧ b < 12) (hm : 0 ≤ m ∧ m < 24) {D : Dl} (hD : DlW D) : ∀ k : Nat, k ≤ 24 → DlW (dN σ a b m D k)
  | 0, _ => hD
  | k + 1, h => by
    have ih := dN_w hW ha hb hm hD k (by omega)
    unfold dN
    split
    · exact ih
    · exact dStp_w hW ha hb hm ⟨by omega, by omega⟩ ih
theorem dM_w {σ : Sg} (hW : WoB σ) (h24 : σ 15472 0 ≤ 24) {a b : Int} (ha : 0 ≤ a ∧ a < 12) (hb : 0 ≤ b ∧ b < 12) {D : Dl} (hD : DlW D) : ∀ k : Nat, k ≤ 24 → DlW (dM σ a b D k)
  | 0, _ => hD
  | k + 1, h => by
    have ih := dM_w hW h24 ha hb hD k (by omega)
    unfold dM
    split
    · exact ih
    · exact dN_w hW ha hb ⟨by omega, by omega⟩ ih _ (by omega)
theorem dB_w {σ : Sg} (hW : WoB σ) (h24 : σ 15472 0 ≤ 24) {a : Int} (ha : 0 ≤ a) {D : Dl} (hD : DlW D) : ∀ k : Nat, a + 1 + (k : Int) ≤ 12 → DlW (dB σ a D k)
  | 0, _ => hD
  | k + 1, h => by
    have ih := dB_w hW h24 ha hD k (by omega)
    unfold dB
    exact dM_w hW h24 ⟨ha, by omega⟩ ⟨by omega, by omega⟩ ih _ (by omega)
theorem dA_w {σ : Sg} (hW : WoB σ) (h24 : σ 15472 0 ≤ 24) (h12 : σ 15466 0 ≤ 12) {D : Dl} (hD : DlW D) : ∀ k : Nat, (k : Int) ≤ σ 15466 0 → DlW (dA σ D k)
  | 0, _ => hD
  | k + 1, h => by
    have ih := dA_w hW h24 h12 hD k (by omega)
    unfold dA
    exact dB_w hW h24 (by omega) ih _ (by omega)
def DlC (ν : Mem) (c : Nat) (D : Dl) : Prop := rI ν c 0 = D.1 ∧ rI ν c 1 = D.2.1 ∧ rI ν c 2 = D.2.2.1 ∧ rI ν c 3 = D.2.2.2.1 ∧ rI ν c 4 = D.2.2.2.2.1 ∧ rI ν c 5 = D.2.2.2.2.2
theorem DlC.six {ν ξ : Mem} {c : Nat} {D : Dl} (hD : DlW D) (e : ξ = sI (sI (sI (sI (sI (sI ν c 0 D.1) c 1 D.2.1) c 2 D.2.2.1) c 3 D.2.2.2.1) c 4 D.2.2.2.2.1) c 5 D.2.2.2.2.2) : DlC ξ c D := by
  obtain ⟨d1, d2, d3, d4, d5, d6⟩ := hD
  subst e
  unfold DlC
  simp only [rI_sI]
  refine ⟨?_, ?_, ?_, ?_, ?_, ?_⟩
  · rw [if_neg (by simp), if_neg (by simp), if_neg (by simp), if_neg (by simp), if_neg (by simp), if_pos (by simp), w_id (by omega) (by omega)]
  · rw [if_neg (by simp), if_neg (by simp), if_neg (by simp), if_neg (by simp), if_pos (by simp), w_id (by omega) (by omega)]
  · rw [if_neg (by simp), if_neg (by simp), if_neg (by simp), if_pos (by simp), w_id (by omega) (by omega)]
  · rw [if_neg (by simp), if_neg (by simp), if_pos (by simp), w_id (by omega) (by omega)]
  · rw [if_neg (by simp), if_pos (by simp), w_id (by omega) (by omega)]
  · rw [if_pos (by simp), w_id (by omega) (by omega)]
def CgT (σ : Sg) (ν : Mem) (k : Int) : Prop := ∀ a m : Int, 0 ≤ a → a < σ 15466 0 → 0 ≤ m → m < k → rI ν 111 (a * 24 + m) = chO σ a m
def WoC (σ : Sg) (ν : Mem) : Prop := ∀ j : Int, 0 ≤ j → j < 288 → rI ν 102 j = σ 166 j
theorem c_keepIf {σ : Sg} {ν : Mem} (hW : WoB σ) (hC : WoC σ ν) {k : Int} (hT : CgT σ ν k) (h12 : σ 15466 0 ≤ 12) {a b m n : Int} (ha : 0 ≤ a ∧ a < σ 15466 0) (hb : 0 ≤ b ∧ b < σ 15466 0) (hm : 0 ≤ m ∧ m < k) (hn : 0 ≤ n ∧ n < k) (hk : k ≤ 24) {D : Dl} (hD : DlW D) (dC : DlC ν 112 D) {K : Mem → Prop}
    (h : ∀ ξ : Mem, Fr [112] ν ξ → DlC ξ 112 (dStp σ a b m n D) → K ξ) : f_Worths_keepIfBetter a b m n ν K := by
  have c1 := chO_rng σ a m
  have c2 := chO_rng σ b n
  have gr := gO_rng hW (a := a) (b := b) (m := m) (n := n) ⟨by omega, by omega⟩ ⟨by omega, by omega⟩ ⟨by omega, by omega⟩ ⟨by omega, by omega⟩
  have dw := dStp_w hW (a := a) (b := b) (m := m) (n := n) ⟨by omega, by omega⟩ ⟨by omega, by omega⟩ ⟨by omega, by omega⟩ ⟨by omega, by omega⟩ hD
  have same : ¬ (0 < g1O σ a b m n ∧ 0 < g2O σ a b m n ∧ D.2.2.2.2.1 + D.2.2.2.2.2 < g1O σ a b m n + g2O σ a b m n) → K ν := fun z => by
    refine h ν (FrP.refl _ _) ?_
    unfold dStp
    rw [if_neg z]
    exact dC
  unfold f_Worths_keepIfBetter
  intro v5 e5 v6 e6
  rw [at_in (by omega) (by omega) (by decide), hT a m ha.1 ha.2 hm.1 hm.2] at e5
  rw [at_in (by omega) (by omega) (by decide), hT b n hb.1 hb.2 hn.1 hn.2] at e6
  have body : b_Worths_keepIfBetter_42 K a b m n v5 v6 ν := by
    unfold b_Worths_keepIfBetter_42 v_Worths_worthFor
    intro v7 e7 v8 e8
    rw [at_in (by omega) (by omega) (by decide), at_in (by omega) (by omega) (by decide), hC _ (by omega) (by omega), hC _ (by omega) (by omega), e5, e6] at e7 e8
    have e7' : v7 = g1O σ a b m n := e7
    have e8' : v8 = g2O σ a b m n := e8
    rw [at_in (by decide) (by decide) (by decide), at_in (by decide) (by decide) (by decide), dC.2.2.2.2.1, dC.2.2.2.2.2]
    obtain ⟨d1, d2, d3, d4, d5, d6⟩ := id hD
    (try simp (disch := omega) only [w_id])
    refine ite_i (fun q1 => ite_i (fun q2 => ite_i (fun q3 => ?_) (fun q3 => same (fun z => by omega))) (fun q2 => same (fun z => by omega))) (fun q1 => same (fun z => by omega))
    intro μ2 x2 μ3 x3 μ4 x4 μ5 x5 μ6 x6 μ7 x7
    rw [set_in (by decide) (by decide) (by decide)] at x2 x3 x4 x5 x6 x7
    have es : dStp σ a b m n D = (a, b, m, n, v7, v8) := by
      unfold dStp
      rw [if_pos ⟨by omega, by omega, by omega⟩, e7', e8']
    rw [es] at h dw
    refine h μ7 (by rw [x7, x6, x5, x4, x3, x2]; exact ((((((FrP.refl _ _).wI (by decide)).wI (by decide)).wI (by decide)).wI (by decide)).wI (by decide)).wI (by decide)) ?_
    exact DlC.six (D := (a, b, m, n, v7, v8)) dw (by rw [x7, x6, x5, x4, x3, x2])
  (try simp (disch := omega) only [w_id])
  refine ite_i (fun q1 => ite_i (fun q2 => same (fun z => ?_)) (fun _ => body)) (fun _ => body)
  have z1 := z.1
  unfold g1O at z1
  rw [← e5, ← e6, q1, q2] at z1
  omega
theorem DlC.fr {L : List Nat} {ν ξ : Mem} {c : Nat} {D : Dl} (h : DlC ν c D) (f : Fr L ν ξ) (hL : lel L c = false) : DlC ξ c D := by
  unfold DlC
  rw [f.rdI hL, f.rdI hL, f.rdI hL, f.rdI hL, f.rdI hL, f.rdI hL]
  exact h
def DeC (σ : Sg) (ν : Mem) : Prop := WoB σ ∧ WoC σ ν ∧ CgT σ ν (σ 15472 0) ∧ (0 ≤ σ 15466 0 ∧ σ 15466 0 ≤ 12) ∧ (0 ≤ σ 15472 0 ∧ σ 15472 0 ≤ 24) ∧ rI ν 1136 0 = σ 15466 0 ∧ rI ν 2543 0 = σ 15472 0
theorem DeC.W {σ : Sg} {ν : Mem} (h : DeC σ ν) : WoB σ := h.1
theorem DeC.C {σ : Sg} {ν : Mem} (h : DeC σ ν) : WoC σ ν := h.2.1
theorem DeC.T {σ : Sg} {ν : Mem} (h : DeC σ ν) : CgT σ ν (σ 15472 0) := h.2.2.1
theorem DeC.A {σ : Sg} {ν : Mem} (h : DeC σ ν) : 0 ≤ σ 15466 0 ∧ σ 15466 0 ≤ 12 := h.2.2.2.1
theorem DeC.M {σ : Sg} {ν : Mem} (h : DeC σ ν) : 0 ≤ σ 15472 0 ∧ σ 15472 0 ≤ 24 := h.2.2.2.2.1
theorem DeC.eA {σ : Sg} {ν : Mem} (h : DeC σ ν) : rI ν 1136 0 = σ 15466 0 := h.2.2.2.2.2.1
theorem DeC.eM {σ : Sg} {ν : Mem} (h : DeC σ ν) : rI ν 2543 0 = σ 15472 0 := h.2.2.2.2.2.2
theorem DeC.fr {σ : Sg} {ν ξ : Mem} (h : DeC σ ν) (f : Fr [112] ν ξ) : DeC σ ξ :=
  ⟨h.W, fun j j0 j1 => by rw [f.rdI rfl]; exact h.C j j0 j1, fun a m a0 a1 m0 m1 => by rw [f.rdI rfl]; exact h.T a m a0 a1 m0 m1, h.A, h.M, by rw [f.rdI rfl]; exact h.eA, by rw [f.rdI rfl]; exact h.eM⟩
theorem c_deal36 {σ : Sg} {a b m : Int} (ha : 0 ≤ a ∧ a < σ 15466 0) (hb : 0 ≤ b ∧ b < σ 15466 0) (hm : 0 ≤ m ∧ m < σ 15472 0) {D : Dl} (hD : DlW D) {ν0 : Mem} {X : Mem → Prop} (h : ∀ ξ : Mem, Fr [112] ν0 ξ → DlC ξ 112 (dN σ a b m D (σ 15472 0).toNat) → X ξ) :
    ∀ (f i : Nat) (ν : Mem), (i : Int) + f = σ 15472 0 → DeC σ ν → Fr [112] ν0 ν → DlC ν 112 (dN σ a b m D i) → l_Worths_findDealOf_36 a b m X (f + 1) (i : Int) ν
  | 0, i, ν, e, hd, fr, dc => by
    have hM := hd.M
    unfold l_Worths_findDealOf_36
    rw [hd.eM]
    (try simp (disch := omega) only [w_id])
    rw [if_neg (by omega)]
    rw [show i = (σ 15472 0).toNat by omega] at dc
    exact h ν fr dc
  | f + 1, i, ν, e, hd, fr, dc => by
    have hM := hd.M
    have hA := hd.A
    have st : dN σ a b m D (i + 1) = if (i : Int) = m ∨ chO σ b (i : Int) = 2 then dN σ a b m D i else dStp σ a b m (i : Int) (dN σ a b m D i) := rfl
    have cr := chO_rng σ b (i : Int)
    have dw := dN_w hd.W (a := a) (b := b) (m := m) ⟨by omega, by omega⟩ ⟨by omega, by omega⟩ ⟨by omega, by omega⟩ hD i (by omega)
    unfold l_Worths_findDealOf_36
    rw [hd.eM, at_in (by omega) (by omega) (by decide), hd.T b (i : Int) hb.1 hb.2 (by omega) (by omega)]
    (try simp (disch := omega) only [w_id])
    rw [if_pos (by omega)]
    refine ite_i (fun q => ?_) (fun q => ite_i (fun q2 => ?_) (fun q2 => ?_))
    · rw [if_pos (Or.inl q)] at st
      have g := c_deal36 ha hb hm hD h f (i + 1) ν (by omega) hd fr (by rw [st]; exact dc)
      exact g
    · rw [if_pos (Or.inr q2)] at st
      have g := c_deal36 ha hb hm hD h f (i + 1) ν (by omega) hd fr (by rw [st]; exact dc)
      exact g
    · rw [if_neg (fun z => z.elim q q2)] at st
      refine c_keepIf hd.W hd.C hd.T hA.2 ha hb hm ⟨by omega, by omega⟩ hM.2 dw dc (fun ξ fx dx => ?_)
      have g := c_deal36 ha hb hm hD h f (i + 1) ξ (by omega) (hd.fr fx) (fr.trans fx) (by rw [st]; exact dx)
      exact g
theorem c_dealOf {σ : Sg} {a b : Int} (ha : 0 ≤ a ∧ a < σ 15466 0) (hb : 0 ≤ b ∧ b < σ 15466 0) {D : Dl} (hD : DlW D) {ν : Mem} (hd : DeC σ ν) (dc : DlC ν 112 D) {K : Mem → Prop} (h : ∀ ξ : Mem, Fr [112] ν ξ → DlC ξ 112 (dM σ a b D (σ 15472 0).toNat) → K ξ) : f_Worths_findDealOf a b ν K := by
  have hM := hd.M
  have hA := hd.A
  have loop : ∀ (f i : Nat) (ξ : Mem), (i : Int) + f = σ 15472 0 → Fr [112] ν ξ → DlC ξ 112 (dM σ a b D i) → l_Worths_findDealOf_2 a b K (f + 1) (i : Int) ξ := by
    intro f
    induction f with
    | zero =>
      intro i ξ e fr dx
      unfold l_Worths_findDealOf_2
      rw [(hd.fr fr).eM]
      (try simp (disch := omega) only [w_id])
      rw [if_neg (by omega)]
      rw [show i = (σ 15472 0).toNat by omega] at dx
      exact h ξ fr dx
    | succ f ih =>
      intro i ξ e fr dx
      have hx := hd.fr fr
      have st : dM σ a b D (i + 1) = if chO σ a (i : Int) = 2 then dM σ a b D i else dN σ a b (i : Int) (dM σ a b D i) (σ 15472 0).toNat := rfl
      have cr := chO_rng σ a (i : Int)
      have dw := dM_w hd.W hM.2 (a := a) (b := b) ⟨by omega, by omega⟩ ⟨by omega, by omega⟩ hD i (by omega)
      unfold l_Worths_findDealOf_2
      rw [hx.eM, at_in (by omega) (by omega) (by decide), hx.T a (i : Int) ha.1 ha.2 (by omega) (by omega)]
      (try simp (disch := omega) only [w_id])
      rw [if_pos (by omega)]
      refine ite_i (fun q => ?_) (fun q => ?_)
      · rw [if_pos q] at st
        have g := ih (i + 1) ξ (by omega) fr (by rw [st]; exact dx)
        exact g
      · rw [if_neg q] at st
        refine ⟨(σ 15472 0).toNat + 1, c_deal36 ha hb ⟨by omega, by omega⟩ dw (ν0 := ξ) (fun ο fo dο => ?_) (σ 15472 0).toNat 0 ξ (by omega) hx (FrP.refl _ _) dx⟩
        have g := ih (i + 1) ο (by omega) (fr.trans fo) (by rw [st]; exact dο)
        exact g
  unfold f_Worths_findDealOf
  exact ⟨(σ 15472 0).toNat + 1, loop _ 0 ν (by omega) (FrP.refl _ _) dc⟩
theorem c_deal49 {σ : Sg} {a : Int} (ha : 0 ≤ a ∧ a < σ 15466 0) {D : Dl} (hD : DlW D) {ν0 : Mem} {X : Mem → Prop} (h : ∀ ξ : Mem, Fr [112] ν0 ξ → DlC ξ 112 (dB σ a D (σ 15466 0 - a - 1).toNat) → X ξ) :
    ∀ (f i : Nat) (ν : Mem), a + 1 + (i : Int) + f = σ 15466 0 → DeC σ ν → Fr [112] ν0 ν → DlC ν 112 (dB σ a D i) → l_Worths_findDeal_49 a X (f + 1) (a + 1 + (i : Int)) ν
  | 0, i, ν, e, hd, fr, dc => by
    have hA := hd.A
    unfold l_Worths_findDeal_49
    rw [hd.eA]
    (try simp (disch := omega) only [w_id])
    rw [if_neg (by omega)]
    rw [show i = (σ 15466 0 - a - 1).toNat by omega] at dc
    exact h ν fr dc
  | f + 1, i, ν, e, hd, fr, dc => by
    have hA := hd.A
    have dw := dB_w hd.W hd.M.2 (a := a) ha.1 hD i (by omega)
    unfold l_Worths_findDeal_49
    rw [hd.eA]
    (try simp (disch := omega) only [w_id])
    rw [if_pos (by omega)]
    refine c_dealOf ha ⟨by omega, by omega⟩ dw hd dc (fun ξ fx dx => ?_)
    have g := c_deal49 ha hD h f (i + 1) ξ (by omega) (hd.fr fx) (fr.trans fx) dx
    rw [show a + 1 + ((i + 1 : Nat) : Int) = a + 1 + (i : Int) + 1 by omega] at g
    exact g
theorem c_deal34 {σ : Sg} {D : Dl} (hD : DlW D) {ν0 : Mem} {X : Mem → Prop} (h : ∀ ξ : Mem, Fr [112] ν0 ξ → DlC ξ 112 (dA σ D (σ 15466 0).toNat) → X ξ) :
    ∀ (f i : Nat) (ν : Mem), (i : Int) + f = σ 15466 0 → DeC σ ν → Fr [112] ν0 ν → DlC ν 112 (dA σ D i) → l_Worths_findDeal_34 X (f + 1) (i : Int) ν
  | 0, i, ν, e, hd, fr, dc => by
    have hA := hd.A
    unfold l_Worths_findDeal_34
    rw [hd.eA]
    (try simp (disch := omega) only [w_id])
    rw [if_neg (by omega)]
    rw [show i = (σ 15466 0).toNat by omega] at dc
    exact h ν fr dc
  | f + 1, i, ν, e, hd, fr, dc => by
    have hA := hd.A
    have dw := dA_w hd.W hd.M.2 hA.2 hD i (by omega)
    unfold l_Worths_findDeal_34
    rw [hd.eA]
    (try simp (disch := omega) only [w_id])
    rw [if_pos (by omega)]
    have go := c_deal49 (σ := σ) (a := (i : Int)) ⟨by omega, by omega⟩ dw (ν0 := ν) (X := fun (μ_8 : Mem) => l_Worths_findDeal_34 X (f + 1) ((i : Int) + 1) μ_8) (fun ξ fx dx => by
      have g := c_deal34 hD h f (i + 1) ξ (by omega) (hd.fr fx) (fr.trans fx) dx
      exact g) f 0 ν (by omega) hd (FrP.refl _ _) dc
    rw [show (i : Int) + 1 + ((0 : Nat) : Int) = (i : Int) + 1 by omega] at go
    exact ⟨f + 1, go⟩
