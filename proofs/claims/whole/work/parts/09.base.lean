/-! THE MATHEMATICS, BASE: reads over writes, frames, projections -/
theorem rI_sI (μ : Mem) (c : Nat) (j v : Int) (q : Nat) (i : Int) : rI (sI μ c j v) q i = if q = c ∧ i = j then w v else rI μ q i := by
  unfold rI sI
  dsimp only
  split <;> rfl
theorem rI_sL (μ : Mem) (c : Nat) (j : Int) (v : Int64) (q : Nat) (i : Int) : rI (sL μ c j v) q i = rI μ q i := rfl
theorem rI_sB (μ : Mem) (c : Nat) (j : Int) (b : Bool) (q : Nat) (i : Int) : rI (sB μ c j b) q i = if q = c ∧ i = j then b2i b else rI μ q i := by
  unfold sB
  rw [rI_sI, w_b2i]
theorem rL_sI (μ : Mem) (c : Nat) (j v : Int) (q : Nat) (i : Int) : rL (sI μ c j v) q i = rL μ q i := rfl
theorem rL_sB (μ : Mem) (c : Nat) (j : Int) (b : Bool) (q : Nat) (i : Int) : rL (sB μ c j b) q i = rL μ q i := rfl
theorem rL_sL (μ : Mem) (c : Nat) (j : Int) (v : Int64) (q : Nat) (i : Int) : rL (sL μ c j v) q i = if q = c ∧ i = j then v else rL μ q i := rfl
theorem rI_0 {μ : Mem} {c : Nat} {j : Int} : μ.1 c j = 0 ↔ rI μ c j = 0 := ⟨fun h => by unfold rI; rw [h]; rfl, fun h => Int32.toInt_inj.mp (h.trans rfl)⟩
theorem rB_rI (μ : Mem) (c : Nat) (j : Int) : rB μ c j = decide (¬ rI μ c j = 0) := by
  unfold rB
  by_cases h : μ.1 c j = 0
  · simp [h, rI_0.mp h]
  · have h2 : ¬ rI μ c j = 0 := fun e => h (rI_0.mpr e)
    simp [h, h2]
theorem at_in {μ : Mem} {a n : Nat} {i : Int} (h0 : 0 ≤ i) (h1 : i < n) (hn : n ≤ 1000000) : at' μ a n i = rI μ a i := by
  unfold at'
  rw [w_id (by omega) (by omega), if_pos ⟨h0, h1⟩]
theorem set_in {μ : Mem} {a n : Nat} {i v : Int} (h0 : 0 ≤ i) (h1 : i < n) (hn : n ≤ 1000000) : set' μ a n i v = sI μ a i v := by
  unfold set'
  rw [w_id (by omega) (by omega), if_pos ⟨h0, h1⟩]
theorem atL_in {μ : Mem} {a n : Nat} {i : Int} (h0 : 0 ≤ i) (h1 : i < n) (hn : n ≤ 1000000) : atL' μ a n i = rL μ a i := by
  unfold atL'
  rw [w_id (by omega) (by omega), if_pos ⟨h0, h1⟩]
theorem setL_in {μ : Mem} {a n : Nat} {i : Int} {v : Int64} (h0 : 0 ≤ i) (h1 : i < n) (hn : n ≤ 1000000) : setL' μ a n i v = sL μ a i v := by
  unfold setL'
  rw [w_id (by omega) (by omega), if_pos ⟨h0, h1⟩]
/-- two memories that differ at cells of P alone -/
def FrP (P : Nat → Bool) (μ ν : Mem) : Prop := ν.2.2 = μ.2.2 ∧ ∀ q : Nat, P q = false → ∀ j : Int, ν.1 q j = μ.1 q j ∧ ν.2.1 q j = μ.2.1 q j
def lel (L : List Nat) (q : Nat) : Bool := L.elem q
abbrev Fr (L : List Nat) (μ ν : Mem) : Prop := FrP (lel L) μ ν
def lsub (A B : List Nat) : Bool := A.all fun q => B.elem q
theorem FrP.refl (P : Nat → Bool) (μ : Mem) : FrP P μ μ := ⟨rfl, fun _ _ _ => ⟨rfl, rfl⟩⟩
theorem FrP.trans {P : Nat → Bool} {μ ν ξ : Mem} (h : FrP P μ ν) (k : FrP P ν ξ) : FrP P μ ξ := ⟨k.1.trans h.1, fun q hq j => ⟨(k.2 q hq j).1.trans (h.2 q hq j).1, (k.2 q hq j).2.trans (h.2 q hq j).2⟩⟩
theorem lsub_f {A B : List Nat} (h : lsub A B = true) {q : Nat} (hq : lel B q = false) : lel A q = false := by
  unfold lel at *
  cases e : A.elem q with
  | false => rfl
  | true =>
    have h1 : q ∈ A := List.elem_iff.mp e
    have h2 := List.all_eq_true.mp h q h1
    rw [hq] at h2
    exact h2.symm
theorem FrP.wide {P Q : Nat → Bool} {μ ν : Mem} (h : FrP P μ ν) (hs : ∀ q : Nat, Q q = false → P q = false) : FrP Q μ ν := ⟨h.1, fun q hq => h.2 q (hs q hq)⟩
theorem Fr.mono {A B : List Nat} {μ ν : Mem} (h : Fr A μ ν) (hs : lsub A B = true) : Fr B μ ν := ⟨h.1, fun q hq => h.2 q (lsub_f hs hq)⟩
theorem FrP.rdI {P : Nat → Bool} {μ ν : Mem} (h : FrP P μ ν) {q : Nat} {j : Int} (hq : P q = false) : rI ν q j = rI μ q j := congrArg Int32.toInt (h.2 q hq j).1
theorem FrP.rdL {P : Nat → Bool} {μ ν : Mem} (h : FrP P μ ν) {q : Nat} {j : Int} (hq : P q = false) : rL ν q j = rL μ q j := (h.2 q hq j).2
theorem FrP.at {P : Nat → Bool} {μ ν : Mem} (h : FrP P μ ν) {q n : Nat} {j : Int} (hq : P q = false) : at' ν q n j = at' μ q n j := by unfold at'; rw [h.rdI hq]
theorem FrP.atL {P : Nat → Bool} {μ ν : Mem} (h : FrP P μ ν) {q n : Nat} {j : Int} (hq : P q = false) : atL' ν q n j = atL' μ q n j := by unfold atL'; rw [h.rdL hq]
theorem FrP.wI {P : Nat → Bool} {μ ν : Mem} (h : FrP P μ ν) {c : Nat} {j v : Int} (hc : P c = true) : FrP P μ (sI ν c j v) := ⟨h.1, fun q hq i => ⟨by
  have hne : ¬ (q = c ∧ i = j) := fun e => by rw [e.1, hc] at hq; cases hq
  have e : (sI ν c j v).1 q i = ν.1 q i := if_neg hne
  rw [e]; exact (h.2 q hq i).1, (h.2 q hq i).2⟩⟩
theorem FrP.wB {P : Nat → Bool} {μ ν : Mem} (h : FrP P μ ν) {c : Nat} {j : Int} {b : Bool} (hc : P c = true) : FrP P μ (sB ν c j b) := h.wI hc
theorem FrP.wL {P : Nat → Bool} {μ ν : Mem} (h : FrP P μ ν) {c : Nat} {j : Int} {v : Int64} (hc : P c = true) : FrP P μ (sL ν c j v) := ⟨h.1, fun q hq i => ⟨(h.2 q hq i).1, by
  have hne : ¬ (q = c ∧ i = j) := fun e => by rw [e.1, hc] at hq; cases hq
  have e : (sL ν c j v).2.1 q i = ν.2.1 q i := if_neg hne
  rw [e]; exact (h.2 q hq i).2⟩⟩
theorem FrP.set {P : Nat → Bool} {μ ν : Mem} (h : FrP P μ ν) {c n : Nat} {j v : Int} (hc : P c = true) : FrP P μ (set' ν c n j v) := by
  unfold set'
  split
  · exact h.wI hc
  · exact h
theorem FrP.setL {P : Nat → Bool} {μ ν : Mem} (h : FrP P μ ν) {c n : Nat} {j : Int} {v : Int64} (hc : P c = true) : FrP P μ (setL' ν c n j v) := by
  unfold setL'
  split
  · exact h.wL hc
  · exact h
/-- cells of the class that last, but rows of LINES -/
def inC (q : Nat) : Bool := (Nat.ble 2 q && Nat.ble q 9) || Nat.beq q 11 || (Nat.ble 13 q && Nat.ble q 17) || (Nat.ble 20 q && Nat.ble q 62) || Nat.beq q 68 || Nat.beq q 84 || (Nat.ble 86 q && Nat.ble q 90) || Nat.beq q 102 || (Nat.ble 1136 q && Nat.ble q 1140) || Nat.beq q 2281 || Nat.beq q 2287 || (Nat.ble 2543 q && Nat.ble q 2545) || (Nat.ble 3432 q && Nat.ble q 8558) || Nat.beq q 9584 || (Nat.ble 11630 q && Nat.ble q 11632) || Nat.beq q 11888
def inF (q : Nat) : Bool := Nat.beq q 97 || Nat.beq q 9582 || Nat.beq q 9583 || Nat.beq q 11886 || Nat.beq q 11887 || (Nat.ble 69 q && Nat.ble q 72)
/-- cells of the model that last -/
def inM (q : Nat) : Bool := (Nat.ble 114 q && Nat.ble q 150) || Nat.beq q 153 || Nat.beq q 158 || Nat.beq q 166 || (Nat.ble 15465 q && Nat.ble q 15498) || Nat.beq q 15512 || Nat.beq q 15519 || Nat.beq q 15534 || Nat.beq q 15536
def PC (q : Nat) (j : Int) : Bool := inC q || (Nat.beq q 69 && decide (j < 24)) || ((Nat.ble 70 q && Nat.ble q 72) && decide (j < 288)) || (Nat.beq q 97 && decide (j = 0))
def CS (μ : Mem) (q : Nat) (j : Int) : Int := if PC q j = true then rI μ q j else 0
def CL (μ : Mem) : Int64 × Int64 × Int64 × Int64 := (rL μ 9582 0, rL μ 9583 0, rL μ 11886 0, rL μ 11887 0)
def MS (μ : Mem) (q : Nat) (j : Int) : Int := if inM q = true then rI μ q j else 0
/-- nothing that lasts has changed -/
def Qt (μ ν : Mem) : Prop := CS ν = CS μ ∧ CL ν = CL μ ∧ MS ν = MS μ ∧ ν.2.2 = μ.2.2
theorem Qt.refl (μ : Mem) : Qt μ μ := ⟨rfl, rfl, rfl, rfl⟩
theorem Qt.trans {μ ν ξ : Mem} (h : Qt μ ν) (k : Qt ν ξ) : Qt μ ξ := ⟨k.1.trans h.1, k.2.1.trans h.2.1, k.2.2.1.trans h.2.2.1, k.2.2.2.trans h.2.2.2⟩
def quietP (P : Nat → Bool) : Prop := ∀ q : Nat, inC q = true ∨ inM q = true ∨ inF q = true → P q = false
def quietL (L : List Nat) : Bool := L.all fun q => !(inC q) && !(inM q) && !(inF q)
theorem quiet_of {L : List Nat} (h : quietL L = true) : quietP (lel L) := by
  intro q hq
  unfold lel
  cases e : L.elem q with
  | false => rfl
  | true =>
    have h2 := List.all_eq_true.mp h q (List.elem_iff.mp e)
    rcases hq with k | k | k <;> simp [k] at h2
theorem PC_or {q : Nat} {j : Int} (h : PC q j = true) : inC q = true ∨ inM q = true ∨ inF q = true := by
  unfold PC at h
  simp only [Bool.or_eq_true, Bool.and_eq_true] at h
  rcases h with ((h | h) | h) | h
  · exact Or.inl h
  · refine Or.inr (Or.inr ?_)
    rw [Nat.eq_of_beq_eq_true h.1]
    rfl
  · refine Or.inr (Or.inr ?_)
    have h1 := Nat.le_of_ble_eq_true h.1.1
    have h2 := Nat.le_of_ble_eq_true h.1.2
    have : q = 70 ∨ q = 71 ∨ q = 72 := by omega
    rcases this with rfl | rfl | rfl <;> rfl
  · refine Or.inr (Or.inr ?_)
    rw [Nat.eq_of_beq_eq_true h.1]
    rfl
theorem FrP.qtP {P : Nat → Bool} {μ ν : Mem} (h : FrP P μ ν) (hl : quietP P) : Qt μ ν := by
  refine ⟨?_, ?_, ?_, h.1⟩
  · funext q j
    unfold CS
    by_cases hp : PC q j = true
    · rw [if_pos hp, if_pos hp, h.rdI (hl q (PC_or hp))]
    · rw [if_neg hp, if_neg hp]
  · have k : ∀ q : Nat, inF q = true → rL ν q 0 = rL μ q 0 := fun q hq => h.rdL (hl q (Or.inr (Or.inr hq)))
    unfold CL
    rw [k 9582 rfl, k 9583 rfl, k 11886 rfl, k 11887 rfl]
  · funext q j
    unfold MS
    by_cases hp : inM q = true
    · rw [if_pos hp, if_pos hp, h.rdI (hl q (Or.inr (Or.inl hp)))]
    · rw [if_neg hp, if_neg hp]
theorem Fr.qt {L : List Nat} {μ ν : Mem} (h : Fr L μ ν) (hl : quietL L = true) : Qt μ ν := FrP.qtP h (quiet_of hl)
theorem MS_rng (μ : Mem) (q : Nat) (j : Int) : -2147483648 ≤ MS μ q j ∧ MS μ q j < 2147483648 := by
  unfold MS
  split
  · exact rI_rng μ q j
  · omega
