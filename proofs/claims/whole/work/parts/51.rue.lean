/-! WHAT A TEXT THAT WAS READ LEAVES: rules of former ORDERS stay -/
/-- the rules of the first N ORDERS are as they were -/
def RuE (N : Int) (σ σ' : Sg) : Prop := (∀ j : Int, 0 ≤ j → j < N → σ' 145 j = σ 145 j) ∧ (∀ j : Int, 0 ≤ j → j < 15 * N → σ' 146 j = σ 146 j ∧ σ' 147 j = σ 147 j ∧ σ' 148 j = σ 148 j ∧ σ' 149 j = σ 149 j) ∧ (∀ j : Int, 0 ≤ j → j < 320 * N → σ' 143 j = σ 143 j)
theorem lcN_pt {N : Int} {σ σ' : Sg} (h : RuE N σ σ') {i kd : Int} (i0 : 0 ≤ i) (i1 : i < N) : ∀ n : Nat, n ≤ 15 → lcN σ' i kd n = lcN σ i kd n
  | 0, _ => rfl
  | n + 1, hn => by
    unfold lcN
    rw [(h.2.1 (15 * i + (n : Int)) (by omega) (by omega)).1, lcN_pt h i0 i1 n (by omega)]
theorem lcN_rgN {σ : Sg} {N i kd : Int} (i0 : 0 ≤ i) (i1 : i < N) : ∀ n : Nat, n ≤ 15 → -1 ≤ lcN σ i kd n ∧ lcN σ i kd n < 15 * N
  | 0, _ => by unfold lcN; omega
  | n + 1, hn => by
    have ih := lcN_rgN (σ := σ) (kd := kd) i0 i1 n (by omega)
    unfold lcN
    split <;> omega
theorem lc_pt {N : Int} {σ σ' : Sg} (h : RuE N σ σ') {i kd : Int} (i0 : -1 ≤ i) (i1 : i < N) (hm : 0 ≤ i → 0 ≤ σ 145 i ∧ σ 145 i ≤ 15) : lc σ' i kd = lc σ i kd ∧ -1 ≤ lc σ i kd ∧ lc σ i kd < 15 * N + 1 ∧ (0 ≤ lc σ i kd → lc σ i kd < 15 * N) := by
  unfold lc
  by_cases c : i = -1
  · rw [if_pos c, if_pos c]; omega
  · rw [if_neg c, if_neg c, h.1 i (by omega) i1]
    have := hm (by omega)
    have r := lcN_rgN (σ := σ) (kd := kd) (show 0 ≤ i by omega) i1 (σ 145 i).toNat (by omega)
    rw [lcN_pt h (by omega) i1 _ (by omega)]
    omega
theorem mcode_pt {N : Int} {σ σ' : Sg} (h : RuE N σ σ') {c : Int} (c0 : 0 ≤ c) (c1 : c < 15 * N) (hb : 0 ≤ σ 148 c) (he : σ 149 c ≤ 320) : mcode σ' c = mcode σ c := by
  unfold mcode
  have k := h.2.1 c c0 c1
  rw [k.2.2.1, k.2.2.2]
  refine List.map_congr_left (fun j hj => ?_)
  have := List.mem_range.mp hj
  exact h.2.2 _ (by omega) (by omega)
theorem RuOK.pt {N : Int} {κ κ' σ σ' : Sg} (hN : N ≤ 10) (h : RuE N σ σ') {i : Int} (i0 : -1 ≤ i) (i1 : i < N) (hc : ∀ q : Nat, (rIx i + 1 ≤ q ∧ q ≤ rIx i + 3) ∨ q = gid (rIx i) 4 ∨ q = gid (rIx i) 5 ∨ q = gid (rIx i) 6 → κ' q = κ q) (k : RuOK κ σ (rIx i) i) : RuOK κ' σ' (rIx i) i := by
  unfold RuOK at k
  obtain ⟨k1, k2, k3, k4, k5, k6, k7, k8, k9, k10, k11, k12, k13⟩ := k
  have L := fun kd : Int => lc_pt h (kd := kd) i0 i1 k12
  have eN : N = N := rfl
  have eR : rateI σ' i = rateI σ i := by
    unfold rateI
    rw [(L 4).1]
    by_cases c : lc σ i 4 = -1
    · rw [if_pos c, if_pos c]
    · rw [if_neg c, if_neg c, (h.2.1 _ (by omega) ((L 4).2.2.2 (by omega))).2.1]
  have eL : lenI σ' i = lenI σ i := by
    unfold lenI
    rw [(L 5).1]
    by_cases c : lc σ i 5 = -1
    · rw [if_pos c, if_pos c]
    · rw [if_neg c, if_neg c, (h.2.1 _ (by omega) ((L 5).2.2.2 (by omega))).2.1]
  unfold RuOK
  rw [eR, eL, (L 4).1, (L 5).1, (L 6).1, hc (gid (rIx i) 4) (by omega), hc (gid (rIx i) 5) (by omega), hc (gid (rIx i) 6) (by omega)]
  refine ⟨k1, k2, k3, k4, k5, k6, k7, k8, k9, k10, k11, fun z => by rw [h.1 i z i1]; exact k12 z, fun p p0 p1 => ?_⟩
  have kp := k13 p p0 p1
  rw [(L (kpa p)).1]
  have Lp := L (kpa p)
  unfold PartOK at kp ⊢
  rw [hc (rIx i + 1) (by omega), hc (rIx i + 2) (by omega), hc (rIx i + 3) (by omega)]
  rcases kp with kp | kp
  · exact Or.inl kp
  · obtain ⟨p2, p3, p4, p5, p6, p7, p8, p9, p10, p11⟩ := kp
    have hlt := Lp.2.2.2 p2
    have e := h.2.1 _ p2 hlt
    refine Or.inr ⟨p2, p3, p4, p5, p6, ?_, ?_, ?_, fun j j0 j1 => ?_, ?_⟩
    · rw [e.2.2.1]; exact p7
    · rw [e.2.2.2]; exact p8
    · rw [e.2.2.1, e.2.2.2]; exact p9
    · rw [e.2.2.1, h.2.2 _ (by omega) (by omega)]
      exact p10 j j0 j1
    · rw [mcode_pt h p2 hlt p7 p8]
      exact p11
/-- the model's cells but for the tape and for rules -/
def gK (q : Nat) : Bool := gT q || (Nat.ble 117 q && Nat.ble q 121) || Nat.beq q 15472 || Nat.beq q 15474 || Nat.beq q 15479 || Nat.beq q 166
def gKc (q : Nat) : Bool := gRc q || gPc q || Nat.beq q 102 || Nat.beq q 97
theorem RuE.lo {N : Int} {σ σ' : Sg} (h : Lo gRu σ σ') : RuE N σ σ' := by
  unfold RuE
  rw [h 143 rfl, h 145 rfl, h 146 rfl, h 147 rfl, h 148 rfl, h 149 rfl]
  exact ⟨fun _ _ _ => rfl, fun _ _ _ => ⟨rfl, rfl, rfl, rfl⟩, fun _ _ _ => rfl⟩
theorem RelP.rd {κ κ' σ σ' : Sg} (hc : Lo gPc κ κ') (h : Lo gK σ σ') (hr : RuE (σ 15479 0) σ σ') (k : RelP κ σ) : RelP κ' σ' := by
  have hru : ∀ i : Int, -1 ≤ i → i < σ 15479 0 → RuOK κ' σ' (rIx i) i := fun i h0 h1 => by
    obtain ⟨-, -, -, -, -, -, -, -, h10, -, -, kr⟩ := k
    have rr := rIx_rng h0 (show i < 10 by omega)
    refine RuOK.pt h10 hr h0 h1 (fun q hq => ?_) (kr i h0 h1)
    refine gPc_Ru hc q (gRuc_a ?_)
    unfold gid at hq
    omega
  unfold RelP at *
  rw [h 15466 rfl, h 117 rfl, h 118 rfl, h 119 rfl, h 120 rfl, h 121 rfl, h 15472 rfl, h 15474 rfl, h 15479 rfl,
    hc 13 rfl, hc 14 rfl, hc 15 rfl, hc 16 rfl, hc 17 rfl, hc 2543 rfl, hc 2544 rfl, hc 2545 rfl]
  exact ⟨k.1, k.2.1, k.2.2.1, k.2.2.2.1, k.2.2.2.2.1, k.2.2.2.2.2.1, k.2.2.2.2.2.2.1, k.2.2.2.2.2.2.2.1, k.2.2.2.2.2.2.2.2.1, k.2.2.2.2.2.2.2.2.2.1, k.2.2.2.2.2.2.2.2.2.2.1, hru⟩
theorem Ic.rd {L : List Nat} {σ σ' : Sg} {μ ν : Mem} (h : Ic σ μ) (f : FrP (lel L) μ ν) (hS : StatR ν.2.2) (hL : (L.all fun q => !(gKc q || gFc q || inF q)) = true) (hK : Lo gK σ σ') (hF : Lo gF σ σ') (hr : RuE (σ 15479 0) σ σ') (hT : RelT (CS ν) σ') : Ic σ' ν := by
  have hL1 : (L.all fun q => !(gKc q)) = true := List.all_eq_true.mpr (fun q hq => by have := List.all_eq_true.mp hL q hq; cases e : gKc q with | false => rfl | true => rw [e] at this; cases this)
  have hL2 : (L.all fun q => !(gFc q)) = true := List.all_eq_true.mpr (fun q hq => by have := List.all_eq_true.mp hL q hq; cases e : gFc q with | false => rfl | true => rw [e] at this; simp at this)
  have hL3 : (L.all fun q => !(inF q)) = true := List.all_eq_true.mpr (fun q hq => by have := List.all_eq_true.mp hL q hq; cases e : inF q with | false => rfl | true => rw [e] at this; simp at this)
  have hc := Fr.loC f hL1
  have hcF := Fr.loC f hL2
  have sT : Lo gT σ σ' := fun q hq => hK q (by unfold gK; rw [hq]; simp)
  have sR : Lo gR σ σ' := fun q hq => sT q (by unfold gT; rw [hq]; simp)
  have cR : Lo gRc (CS μ) (CS ν) := fun q hq => hc q (by unfold gKc; rw [hq]; simp)
  have cP : Lo gPc (CS μ) (CS ν) := fun q hq => hc q (by unfold gKc; rw [hq]; simp)
  have e1 : rL ν 9582 0 = rL μ 9582 0 := f.rdL (all_nl (g := inF) hL3 rfl)
  have e2 : rL ν 9583 0 = rL μ 9583 0 := f.rdL (all_nl (g := inF) hL3 rfl)
  exact ⟨hS, h.wfR.lo sR, h.wfT.lo sT, h.relR.lo cR sT, hT, h.relP.rd cP hK hr, RelF.lo' (lo := CL μ) (lo' := CL ν) hcF hF e1 e2 h.relF, h.relW.lo (hc 102 rfl) (hc 97 rfl) (hK 166 rfl)⟩
