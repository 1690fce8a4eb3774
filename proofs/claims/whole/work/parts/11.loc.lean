/-! UPDATES AND LOCALITY: what a write does to what lasts, which groups it leaves alone -/
def up (f : Sg) (c : Nat) (j v : Int) : Sg := fun q i => if q = c ∧ i = j then v else f q i
theorem up_same (f : Sg) (c : Nat) (j v : Int) : up f c j v c j = v := if_pos ⟨rfl, rfl⟩
theorem up_ne (f : Sg) {c q : Nat} (j v : Int) (h : (q == c) = false) : up f c j v q = f q := by
  funext i
  exact if_neg (fun e => by rw [e.1, beq_self_eq_true] at h; cases h)
theorem up_ni (f : Sg) (c : Nat) {q : Nat} {j i : Int} (v : Int) (h : ¬ i = j) : up f c j v q i = f q i := if_neg (fun e => h e.2)
theorem CS_in {μ : Mem} {c : Nat} {j v : Int} (h : PC c j = true) : CS (sI μ c j v) = up (CS μ) c j (w v) := by
  funext q i
  unfold CS up
  by_cases e : q = c ∧ i = j
  · rw [if_pos e, e.1, e.2, if_pos h, rI_sI, if_pos ⟨rfl, rfl⟩]
  · rw [if_neg e, rI_sI, if_neg e]
theorem CS_out {μ : Mem} {c : Nat} {j v : Int} (h : PC c j = false) : CS (sI μ c j v) = CS μ := by
  funext q i
  unfold CS
  by_cases e : q = c ∧ i = j
  · rw [e.1, e.2, h, if_neg Bool.false_ne_true, if_neg Bool.false_ne_true]
  · rw [rI_sI, if_neg e]
theorem MS_in {μ : Mem} {c : Nat} {j v : Int} (h : inM c = true) : MS (sI μ c j v) = up (MS μ) c j (w v) := by
  funext q i
  unfold MS up
  by_cases e : q = c ∧ i = j
  · rw [if_pos e, e.1, e.2, if_pos h, rI_sI, if_pos ⟨rfl, rfl⟩]
  · rw [if_neg e, rI_sI, if_neg e]
theorem MS_out {μ : Mem} {c : Nat} {j v : Int} (h : inM c = false) : MS (sI μ c j v) = MS μ := by
  funext q i
  unfold MS
  by_cases e : q = c ∧ i = j
  · rw [e.1, e.2, h, if_neg Bool.false_ne_true, if_neg Bool.false_ne_true]
  · rw [rI_sI, if_neg e]
theorem CS_sL {μ : Mem} {c : Nat} {j : Int} {v : Int64} : CS (sL μ c j v) = CS μ := rfl
theorem MS_sL {μ : Mem} {c : Nat} {j : Int} {v : Int64} : MS (sL μ c j v) = MS μ := rfl
theorem CL_sI {μ : Mem} {c : Nat} {j v : Int} : CL (sI μ c j v) = CL μ := rfl
theorem CL_out {μ : Mem} {c : Nat} {j : Int} {v : Int64} (h : inF c = false) : CL (sL μ c j v) = CL μ := by
  have k : ∀ q : Nat, inF q = true → rL (sL μ c j v) q 0 = rL μ q 0 := fun q hq => by
    rw [rL_sL, if_neg (fun e => by rw [e.1, h] at hq; cases hq)]
  unfold CL
  rw [k 9582 rfl, k 9583 rfl, k 11886 rfl, k 11887 rfl]
theorem mr {μ : Mem} {q : Nat} {j : Int} (h : inM q = true) : rI μ q j = MS μ q j := by unfold MS; rw [if_pos h]
theorem cr {μ : Mem} {q : Nat} {j : Int} (h : PC q j = true) : rI μ q j = CS μ q j := by unfold CS; rw [if_pos h]
theorem cr' {μ : Mem} {q : Nat} {j : Int} (h : inC q = true) : rI μ q j = CS μ q j := cr (by unfold PC; rw [h]; rfl)
theorem PC_C {q : Nat} {j : Int} (h : inC q = true) : PC q j = true := by unfold PC; rw [h]; rfl
theorem qt_sI {μ : Mem} {c : Nat} {j v : Int} (h : quietL [c] = true) : Qt μ (sI μ c j v) := Fr.qt ((FrP.refl (lel [c]) μ).wI (by simp [lel, List.elem])) h
theorem ite_i {c P Q : Prop} [Decidable c] (h : c → P) (k : ¬ c → Q) : if c then P else Q := by
  by_cases e : c
  · rw [if_pos e]; exact h e
  · rw [if_neg e]; exact k e
theorem ite_p {α : Type} {c : Prop} [Decidable c] {P : α → Prop} {a b : α} (h : c → P a) (k : ¬ c → P b) : P (if c then a else b) := by
  by_cases e : c
  · rw [if_pos e]; exact h e
  · rw [if_neg e]; exact k e
-- groups: which cells they look at
def gR (q : Nat) : Bool := (Nat.ble 114 q && Nat.ble q 116) || Nat.beq q 15465 || Nat.beq q 15466 || Nat.beq q 15468 || Nat.beq q 15471 || Nat.beq q 15498
def gT (q : Nat) : Bool := gR q || (Nat.ble 138 q && Nat.ble q 142)
def gRc (q : Nat) : Bool := (Nat.ble 2 q && Nat.ble q 9) || (Nat.ble 1136 q && Nat.ble q 1140)
def gTp (q : Nat) : Bool := Nat.beq q 150 || Nat.beq q 15512 || Nat.beq q 15519
def gTc (q : Nat) : Bool := Nat.beq q 11 || Nat.beq q 2281 || Nat.beq q 2287
def gRu (q : Nat) : Bool := Nat.ble 143 q && Nat.ble q 149
def gRuc (q : Nat) : Bool := (Nat.ble 20 q && Nat.ble q 62) || (Nat.ble 3432 q && Nat.ble q 8558)
def gP (q : Nat) : Bool := Nat.beq q 15466 || (Nat.ble 117 q && Nat.ble q 121) || Nat.beq q 15472 || Nat.beq q 15474 || Nat.beq q 15479 || gRu q
def gPc (q : Nat) : Bool := (Nat.ble 13 q && Nat.ble q 17) || (Nat.ble 2543 q && Nat.ble q 2545) || gRuc q
def gF (q : Nat) : Bool := Nat.beq q 15472 || Nat.beq q 15474 || Nat.beq q 15479 || Nat.beq q 15480 || (Nat.ble 122 q && Nat.ble q 129)
def gFc (q : Nat) : Bool := (Nat.ble 68 q && Nat.ble q 72) || Nat.beq q 9584
def gV (q : Nat) : Bool := Nat.beq q 15472 || Nat.beq q 15474 || Nat.beq q 15479 || Nat.beq q 15489 || (Nat.ble 130 q && Nat.ble q 137) || Nat.beq q 15534 || Nat.beq q 15536 || Nat.beq q 158 || Nat.beq q 153 || Nat.beq q 15465 || Nat.beq q 15466
def gVc (q : Nat) : Bool := (Nat.ble 86 q && Nat.ble q 90) || Nat.beq q 84 || Nat.beq q 11888 || (Nat.ble 11630 q && Nat.ble q 11632)
def Lo (g : Nat → Bool) (f f' : Sg) : Prop := ∀ q : Nat, g q = true → f' q = f q
theorem Lo.refl (g : Nat → Bool) (f : Sg) : Lo g f f := fun _ _ => rfl
theorem Lo.up {g : Nat → Bool} {f f' : Sg} (h : Lo g f f') {c : Nat} {j v : Int} (hc : g c = false) : Lo g f (up f' c j v) := fun q hq => by
  rw [up_ne f' j v (by cases e : q == c with | false => rfl | true => rw [eq_of_beq e, hc] at hq; cases hq)]
  exact h q hq
theorem Lo.trans {g : Nat → Bool} {f f' f'' : Sg} (h : Lo g f f') (k : Lo g f' f'') : Lo g f f'' := fun q hq => (k q hq).trans (h q hq)
theorem WfR.lo {σ σ' : Sg} (h : Lo gR σ σ') (k : WfR σ) : WfR σ' := by
  unfold WfR at *
  rw [h 114 rfl, h 115 rfl, h 116 rfl, h 15465 rfl, h 15466 rfl, h 15468 rfl, h 15471 rfl, h 15498 rfl]
  exact k
theorem WfT.lo {σ σ' : Sg} (h : Lo gT σ σ') (k : WfT σ) : WfT σ' := by
  unfold WfT at *
  rw [h 15465 rfl, h 15466 rfl, h 15468 rfl, h 15498 rfl, h 138 rfl, h 139 rfl, h 140 rfl, h 141 rfl, h 142 rfl]
  exact k
theorem RelR.lo {κ κ' σ σ' : Sg} (hc : Lo gRc κ κ') (h : Lo gT σ σ') (k : RelR κ σ) : RelR κ' σ' := by
  unfold RelR at *
  rw [h 114 rfl, h 115 rfl, h 116 rfl, h 15465 rfl, h 15466 rfl, h 15468 rfl, h 15471 rfl, h 15498 rfl, h 138 rfl, h 139 rfl, h 140 rfl, h 141 rfl, h 142 rfl,
    hc 2 rfl, hc 3 rfl, hc 4 rfl, hc 5 rfl, hc 6 rfl, hc 7 rfl, hc 8 rfl, hc 9 rfl, hc 1136 rfl, hc 1137 rfl, hc 1138 rfl, hc 1139 rfl, hc 1140 rfl]
  exact k
theorem RelT.lo {κ κ' σ σ' : Sg} (hc : Lo gTc κ κ') (h : Lo gTp σ σ') (k : RelT κ σ) : RelT κ' σ' := by
  unfold RelT at *
  rw [h 150 rfl, h 15512 rfl, h 15519 rfl, hc 11 rfl, hc 2281 rfl, hc 2287 rfl]
  exact k
theorem lcN_lo {σ σ' : Sg} (h : Lo gRu σ σ') (i kd : Int) : ∀ n : Nat, lcN σ' i kd n = lcN σ i kd n
  | 0 => rfl
  | n + 1 => by unfold lcN; rw [h 146 rfl, lcN_lo h i kd n]
theorem lc_lo {σ σ' : Sg} (h : Lo gRu σ σ') (i kd : Int) : lc σ' i kd = lc σ i kd := by
  unfold lc
  rw [h 145 rfl, lcN_lo h]
theorem mcode_lo {σ σ' : Sg} (h : Lo gRu σ σ') (c : Int) : mcode σ' c = mcode σ c := by
  unfold mcode
  rw [h 143 rfl, h 148 rfl, h 149 rfl]
theorem rateI_lo {σ σ' : Sg} (h : Lo gRu σ σ') (i : Int) : rateI σ' i = rateI σ i := by
  unfold rateI
  rw [lc_lo h, h 147 rfl]
theorem lenI_lo {σ σ' : Sg} (h : Lo gRu σ σ') (i : Int) : lenI σ' i = lenI σ i := by
  unfold lenI
  rw [lc_lo h, h 147 rfl]
theorem rIx_ru {i : Int} (h0 : -1 ≤ i) (h1 : i < 10) : isRu (rIx i) = true := by
  unfold rIx
  split
  · rfl
  · have : ∀ j : Fin 10, isRu (23 + 4 * j.1) = true := by decide +kernel
    exact this ⟨i.toNat, by omega⟩
theorem rIx_rng {i : Int} (h0 : -1 ≤ i) (h1 : i < 10) : 19 ≤ rIx i ∧ rIx i ≤ 59 := by
  unfold rIx
  split <;> omega
theorem gRuc_a {q : Nat} (h : 20 ≤ q ∧ q ≤ 62 ∨ 3432 ≤ q ∧ q ≤ 8558) : gRuc q = true := by
  unfold gRuc
  simp only [Bool.or_eq_true, Bool.and_eq_true, Nat.ble_eq]
  exact h
theorem RuOK.lo {κ κ' σ σ' : Sg} (hc : Lo gRuc κ κ') (h : Lo gRu σ σ') {r : Nat} {i : Int} (hr : 19 ≤ r ∧ r ≤ 59) (k : RuOK κ σ r i) : RuOK κ' σ' r i := by
  unfold RuOK PartOK at *
  rw [rateI_lo h, lenI_lo h, hc (gid r 4) (gRuc_a (Or.inr (by unfold gid; omega))), hc (gid r 5) (gRuc_a (Or.inr (by unfold gid; omega))), hc (gid r 6) (gRuc_a (Or.inr (by unfold gid; omega))),
    hc (r + 1) (gRuc_a (Or.inl (by omega))), hc (r + 2) (gRuc_a (Or.inl (by omega))), hc (r + 3) (gRuc_a (Or.inl (by omega))), h 143 rfl, h 145 rfl, h 148 rfl, h 149 rfl]
  simp only [lc_lo h, mcode_lo h]
  exact k
theorem gP_Ru {σ σ' : Sg} (h : Lo gP σ σ') : Lo gRu σ σ' := fun q hq => h q (by unfold gP; rw [hq]; simp)
theorem gPc_Ru {σ σ' : Sg} (h : Lo gPc σ σ') : Lo gRuc σ σ' := fun q hq => h q (by unfold gPc; rw [hq]; simp)
theorem RelP.lo {κ κ' σ σ' : Sg} (hc : Lo gPc κ κ') (h : Lo gP σ σ') (k : RelP κ σ) : RelP κ' σ' := by
  have hru : ∀ i : Int, -1 ≤ i → i < σ 15479 0 → RuOK κ' σ' (rIx i) i := fun i h0 h1 => by
    obtain ⟨-, -, -, -, -, -, -, -, h10, -, -, kr⟩ := k
    exact RuOK.lo (gPc_Ru hc) (gP_Ru h) (rIx_rng h0 (by omega)) (kr i h0 h1)
  unfold RelP at *
  rw [h 15466 rfl, h 117 rfl, h 118 rfl, h 119 rfl, h 120 rfl, h 121 rfl, h 15472 rfl, h 15474 rfl, h 15479 rfl,
    hc 13 rfl, hc 14 rfl, hc 15 rfl, hc 16 rfl, hc 17 rfl, hc 2543 rfl, hc 2544 rfl, hc 2545 rfl]
  exact ⟨k.1, k.2.1, k.2.2.1, k.2.2.2.1, k.2.2.2.2.1, k.2.2.2.2.2.1, k.2.2.2.2.2.2.1, k.2.2.2.2.2.2.2.1, k.2.2.2.2.2.2.2.2.1, k.2.2.2.2.2.2.2.2.2.1, k.2.2.2.2.2.2.2.2.2.2.1, hru⟩
theorem RelF.lo {κ κ' σ σ' : Sg} {lo : Int64 × Int64 × Int64 × Int64} (hc : Lo gFc κ κ') (h : Lo gF σ σ') (k : RelF κ lo σ) : RelF κ' lo σ' := by
  unfold RelF FlOK hw3 rw4 at *
  rw [h 15472 rfl, h 15474 rfl, h 15479 rfl, h 15480 rfl, h 122 rfl, h 123 rfl, h 124 rfl, h 125 rfl, h 126 rfl, h 127 rfl, h 128 rfl, h 129 rfl, hc 68 rfl, hc (68 + 1) rfl, hc (68 + 2) rfl, hc (68 + 3) rfl, hc (68 + 4) rfl, hc 9584 rfl]
  exact k
theorem RelV.lo {κ κ' σ σ' : Sg} {lo : Int64 × Int64 × Int64 × Int64} (hc : Lo gVc κ κ') (h : Lo gV σ σ') (k : RelV κ lo σ) : RelV κ' lo σ' := by
  unfold RelV FlOK hw3 rw4 at *
  rw [h 15472 rfl, h 15474 rfl, h 15479 rfl, h 15489 rfl, h 130 rfl, h 131 rfl, h 132 rfl, h 133 rfl, h 134 rfl, h 135 rfl, h 136 rfl, h 137 rfl, h 15534 rfl, h 15536 rfl, h 158 rfl, h 153 rfl, h 15465 rfl, h 15466 rfl,
    hc 86 rfl, hc (86 + 1) rfl, hc (86 + 2) rfl, hc (86 + 3) rfl, hc (86 + 4) rfl, hc 84 rfl, hc 11888 rfl, hc 11630 rfl, hc 11631 rfl, hc 11632 rfl]
  exact k
theorem RelW.lo {κ κ' σ σ' : Sg} (hc : κ' 102 = κ 102) (hl : κ' 97 = κ 97) (h : σ' 166 = σ 166) (k : RelW κ σ) : RelW κ' σ' := by
  unfold RelW at *
  rw [hc, hl, h]
  exact k
