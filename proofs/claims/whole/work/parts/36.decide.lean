/-! DECIDING, first half: floors put together, the class's decision -/
theorem FlOK.must {κ σ : Sg} {c0 : Nat} {sd dn : Int64} {fc : Int} {cm ca co cl cn cu cb cs : Nat} {ff : Int} (h : FlOK κ σ c0 sd dn fc cm ca co cl cn cu cb cs ff) {m i : Int} (h0 : 0 ≤ m) (h1 : m < 24) (i0 : 0 ≤ i) (i1 : i < σ cl m) : b01 (σ cu (12 * m + i)) := by
  obtain ⟨-, -, -, -, -, -, -, -, k, -⟩ := h
  obtain ⟨-, -, -, k4⟩ := k m h0 h1
  have hl : (rw4 σ cl cn cu cb m).length = (σ cl m).toNat := by unfold rw4; rw [lv_len]
  have hi : i.toNat < (rw4 σ cl cn cu cb m).length := by rw [hl]; omega
  have := (k4.at hi).2.2.1
  unfold rw4 at this
  rw [lv_getD (by omega)] at this
  have e : ((i.toNat : Nat) : Int) = i := by omega
  show b01 (σ cu (12 * m + i))
  rw [← e]
  exact this
theorem FlOK.copy {κ σ κ' σ' : Sg} {c0 c0' : Nat} {sd dn : Int64} {fc : Int} {cm ca co cl cn cu cb cs cm' ca' co' cl' cn' cu' cb' cs' : Nat} {ff : Int} (h : FlOK κ σ c0 sd dn fc cm ca co cl cn cu cb cs ff)
    (e1 : σ' 15472 0 = σ 15472 0) (e2 : σ' 15474 0 = σ 15474 0) (e3 : σ' 15479 0 = σ 15479 0) (hc : 0 ≤ σ 15472 0 ∧ σ 15472 0 ≤ 24 ∧ σ 15474 0 ≤ 40 ∧ σ 15479 0 ≤ 10)
    (k0 : ∀ j : Int, 0 ≤ j → j < 210 → κ' c0' j = κ c0 j) (k1 : ∀ j : Int, 0 ≤ j → j < 24 → κ' (c0' + 1) j = κ (c0 + 1) j) (k2 : ∀ j : Int, 0 ≤ j → j < 288 → κ' (c0' + 2) j = κ (c0 + 2) j ∧ κ' (c0' + 3) j = κ (c0 + 3) j ∧ κ' (c0' + 4) j = κ (c0 + 4) j)
    (m1 : ∀ j : Int, 0 ≤ j → j < 24 → σ' cm' j = σ cm j) (m2 : ∀ j : Int, 0 ≤ j → j < 40 → σ' ca' j = σ ca j) (m3 : ∀ j : Int, 0 ≤ j → j < 10 → σ' co' j = σ co j) (m4 : ∀ j : Int, 0 ≤ j → j < 24 → σ' cl' j = σ cl j)
    (m5 : ∀ j : Int, 0 ≤ j → j < 288 → σ' cn' j = σ cn j ∧ σ' cb' j = σ cb j) (m6 : ∀ m i : Int, 0 ≤ m → m < 24 → 0 ≤ i → i < σ cl m → σ' cu' (12 * m + i) = σ cu (12 * m + i)) (m7 : ∀ j : Int, 1 ≤ j → j ≤ 60 → σ' cs' j = σ cs j) :
    FlOK κ' σ' c0' sd dn fc cm' ca' co' cl' cn' cu' cb' cs' ff := by
  have eh : ∀ x : Int, hw3 σ' cm' ca' co' x = hw3 σ cm ca co x := fun x => by
    unfold hw3
    rw [e1, e2, e3]
    by_cases c1 : 0 ≤ x ∧ x < σ 15472 0
    · rw [if_pos c1, if_pos c1, m1 x (by omega) (by omega)]
    · rw [if_neg c1, if_neg c1]
      by_cases c2 : 100 ≤ x ∧ x < 100 + σ 15474 0
      · rw [if_pos c2, if_pos c2, m2 (x - 100) (by omega) (by omega)]
      · rw [if_neg c2, if_neg c2]
        by_cases c3 : 200 ≤ x ∧ x < 200 + σ 15479 0
        · rw [if_pos c3, if_pos c3, m3 (x - 200) (by omega) (by omega)]
        · rw [if_neg c3, if_neg c3]
  have hh := h
  obtain ⟨z1, z2, z3, z4, z5, z6, z7, z8, z9, z10, z11, z12⟩ := h
  refine ⟨z1, z2, by rw [e3]; exact z3, fun x x0 x1 => by rw [eh, k0 x x0 x1]; exact z4 x x0 x1, fun x => by rw [eh]; exact z5 x, fun m a b => ?_, fun m a b => ?_, fun m a b => ?_, fun m a b => ?_, fun m a b => ?_, fun n n1 n2 => ?_, z12⟩
  · rw [e1] at b; rw [m1 m a (by omega)]; exact z6 m a b
  · rw [e2] at b; rw [m2 m a (by omega)]; exact z7 m a b
  · rw [e3] at b; rw [m3 m a (by omega)]; exact z8 m a b
  · obtain ⟨y1, y2, y3, y4⟩ := z9 m a b
    have l12 : (σ cl m).toNat ≤ 12 := by have := y4.1; unfold rw4 at this; rw [lv_len] at this; exact this
    have er1 : rw4 κ' (c0' + 1) (c0' + 2) (c0' + 3) (c0' + 4) m = rw4 κ (c0 + 1) (c0 + 2) (c0 + 3) (c0 + 4) m := by
      unfold rw4
      rw [k1 m a b]
      refine ln_ext (by rw [lv_len, lv_len]) (fun i hi => ?_)
      rw [lv_len] at hi
      rw [lv_getD hi, lv_getD hi]
      have := k2 (12 * m + (i : Int)) (by omega) (by omega)
      rw [this.1, this.2.1, this.2.2]
    have er2 : rw4 σ' cl' cn' cu' cb' m = rw4 σ cl cn cu cb m := by
      unfold rw4
      rw [m4 m a b]
      refine ln_ext (by rw [lv_len, lv_len]) (fun i hi => ?_)
      rw [lv_len] at hi
      rw [lv_getD hi, lv_getD hi]
      have := m5 (12 * m + (i : Int)) (by omega) (by omega)
      rw [this.1, this.2, m6 m (i : Int) a b (by omega) (by omega)]
    rw [er1, er2, k1 m a b, m4 m a b]
    exact ⟨y1, y2, y3, y4⟩
  · rw [e1] at a; rw [m4 m (by omega) b]; exact z10 m a b
  · have := m7 (n : Int) (by omega) (by omega)
    rw [this]
    exact z11 n n1 n2
/-- a floor that both sides hold makes RelF -/
theorem mk_relF {σ : Sg} {ξ : Mem} {F : Fl} (hA : FlA ξ F) (hB : FlB σ ξ F) (hW : FlW σ F) (hS : StM σ ξ) (hct : 0 ≤ σ 15472 0 ∧ σ 15472 0 ≤ 24 ∧ 0 ≤ σ 15474 0 ∧ σ 15474 0 ≤ 40 ∧ 0 ≤ σ 15479 0 ∧ σ 15479 0 ≤ 10) : RelF (CS ξ) (CL ξ) (MS ξ) := by
  have c1 : MS ξ 15472 0 = σ 15472 0 := hS _ rfl _
  have c2 : MS ξ 15474 0 = σ 15474 0 := hS _ rfl _
  have c3 : MS ξ 15479 0 = σ 15479 0 := hS _ rfl _
  obtain ⟨a1, a2, a3, a4, a5⟩ := hA
  obtain ⟨b1, b2, b3, b4, b5, b6⟩ := hB
  obtain ⟨w1, w2, w3, w4, w5, w6, w7, w8⟩ := hW
  have eh : ∀ x : Int, hw3 (MS ξ) 122 123 124 x = F.1 x := fun x => by
    unfold hw3
    rw [c1, c2, c3]
    by_cases q1 : 0 ≤ x ∧ x < σ 15472 0
    · rw [if_pos q1]; exact b1 x q1.1 q1.2
    · rw [if_neg q1]
      by_cases q2 : 100 ≤ x ∧ x < 100 + σ 15474 0
      · rw [if_pos q2]
        have := b2 (x - 100) (by omega) (by omega)
        rw [show 100 + (x - 100) = x by omega] at this
        exact this
      · rw [if_neg q2]
        by_cases q3 : 200 ≤ x ∧ x < 200 + σ 15479 0
        · rw [if_pos q3]
          have := b3 (x - 200) (by omega) (by omega)
          rw [show 200 + (x - 200) = x by omega] at this
          exact this
        · rw [if_neg q3]
          exact (w3 x (fun z => by unfold isMt at z; rcases z with z | z | z <;> contradiction)).symm
  unfold RelF
  refine ⟨?_, ?_, ?_, fun x x0 x1 => ?_, fun x => ?_, fun m m0 m1 => ?_, fun m m0 m1 => ?_, fun m m0 m1 => ?_, fun m m0 m1 => ?_, fun m m0 m1 => ?_, fun n n1 n2 => ?_, fun n hn => a4 n hn⟩
  · show rI ξ 9584 0 = rI ξ 15480 0
    rw [a5, b6]
  · show -1 ≤ rI ξ 15480 0
    rw [b6]; exact w7
  · show rI ξ 15480 0 < MS ξ 15479 0
    rw [b6, c3]; exact w8
  · rw [eh]
    exact a1 x x0 x1
  · rw [eh]; exact w1 x
  · rw [c1] at m1
    have : MS ξ 122 m = F.1 m := b1 m m0 m1
    rw [this]; exact w2 m (Or.inl ⟨m0, m1⟩)
  · rw [c2] at m1
    have : MS ξ 123 m = F.1 (100 + m) := b2 m m0 m1
    rw [this]; exact w2 _ (Or.inr (Or.inl ⟨by omega, by omega⟩))
  · rw [c3] at m1
    have : MS ξ 124 m = F.1 (200 + m) := b3 m m0 m1
    rw [this]; exact w2 _ (Or.inr (Or.inr ⟨by omega, by omega⟩))
  · have wl := w4 m m0 m1
    have l12 := wl.1
    obtain ⟨p1, p2⟩ := a2 m m0 m1
    obtain ⟨q1, q2⟩ := b4 m m0 m1
    have s1 : CS ξ (68 + 1) m = ((F.2.1 m).length : Int) := by
      have : CS ξ 69 m = rI ξ 69 m := (cr (by unfold PC; simp [m1])).symm
      show CS ξ 69 m = _
      rw [this]; exact p1
    have s2 : MS ξ 125 m = ((F.2.1 m).length : Int) := q1
    have r1 : rw4 (CS ξ) (68 + 1) (68 + 2) (68 + 3) (68 + 4) m = F.2.1 m := by
      unfold rw4
      rw [s1, Int.toNat_natCast]
      refine ln_ext (lv_len _ _ _ _) (fun i hi => ?_)
      rw [lv_len] at hi
      rw [lv_getD hi]
      have g := p2 i hi
      rw [show m * 12 + (i : Int) = 12 * m + (i : Int) by omega] at g
      have pr : ∀ q : Nat, (q = 70 ∨ q = 71 ∨ q = 72) → CS ξ q (12 * m + (i : Int)) = rI ξ q (12 * m + (i : Int)) := fun q hq => (cr (by
        have : 12 * m + (i : Int) < 288 := by omega
        rcases hq with rfl | rfl | rfl <;> (unfold PC; simp [this]))).symm
      show (CS ξ 70 (12 * m + (i : Int)), CS ξ 71 (12 * m + (i : Int)), CS ξ 72 (12 * m + (i : Int))) = _
      rw [pr 70 (by omega), pr 71 (by omega), pr 72 (by omega), g.1, g.2.1, g.2.2]
    have r2 : rw4 (MS ξ) 125 126 127 128 m = F.2.1 m := by
      unfold rw4
      rw [s2, Int.toNat_natCast]
      refine ln_ext (lv_len _ _ _ _) (fun i hi => ?_)
      rw [lv_len] at hi
      rw [lv_getD hi]
      have g := q2 i hi
      exact Prod.ext g.1 (Prod.ext g.2.1 g.2.2)
    rw [r1, r2, s1, s2]
    exact ⟨by omega, rfl, rfl, wl⟩
  · rw [c1] at m0
    have : MS ξ 125 m = ((F.2.1 m).length : Int) := (b4 m (by omega) m1).1
    rw [this, w5 m m0 m1]
    rfl
  · have e : MS ξ 129 (n : Int) = F.2.2.1 (n : Int) := b5 (n : Int) (by omega) (by omega)
    rw [e]
    have w := w6 (n : Int) (by omega) (by omega)
    exact ⟨w.1, w.2, a3 n n1 n2⟩
def popc (v : Nat) : Nat → Int
  | 0 => 0
  | n + 1 => popc v n + (if v.testBit n = true then 1 else 0)
theorem popI_g : ∀ a : Fin 64, ∀ b : Fin 64, v_popI ((64 * a.1 + b.1 : Nat) : Int) = popc (64 * a.1 + b.1) 12 := by decide +kernel
theorem popI_f {v : Nat} (h : v < 4096) : v_popI (v : Int) = popc v 12 := by
  have := popI_g ⟨v / 64, by omega⟩ ⟨v % 64, by omega⟩
  have e : 64 * (v / 64) + v % 64 = v := by omega
  simp only [e] at this
  exact this
