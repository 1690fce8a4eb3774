/-! DECIDE, both sides -/
def gJ (q : Nat) : Bool := gT q || gTp q || gP q || Nat.beq q 166
def gJc (q : Nat) : Bool := gRc q || gTc q || gPc q || Nat.beq q 102 || Nat.beq q 97
theorem all_nl {g : Nat → Bool} {L : List Nat} (h : (L.all fun q => !(g q)) = true) {q : Nat} (hq : g q = true) : lel L q = false := by
  unfold lel
  cases e : L.elem q with
  | false => rfl
  | true =>
    have := List.all_eq_true.mp h q (List.elem_iff.mp e)
    rw [hq] at this
    cases this
theorem Fr.loC {g : Nat → Bool} {L : List Nat} {μ ν : Mem} (f : Fr L μ ν) (h : (L.all fun q => !(g q)) = true) : Lo g (CS μ) (CS ν) := fun q hq => funext fun j => by
  unfold CS
  rw [f.rdI (all_nl h hq)]
theorem Fr.loM {g : Nat → Bool} {L : List Nat} {μ ν : Mem} (f : Fr L μ ν) (h : (L.all fun q => !(g q)) = true) : Lo g (MS μ) (MS ν) := fun q hq => funext fun j => by
  unfold MS
  rw [f.rdI (all_nl h hq)]
theorem Ic.mk' {L : List Nat} {σ σ' : Sg} {μ ν : Mem} (h : Ic σ μ) (f : Fr L μ ν) (hL : (L.all fun q => !(gJc q)) = true) (hσ : Lo gJ σ σ') (hF : RelF (CS ν) (CL ν) σ') : Ic σ' ν := by
  have hc := f.loC hL
  have sT : Lo gT σ σ' := fun q hq => hσ q (by unfold gJ; rw [hq]; simp)
  have sR : Lo gR σ σ' := fun q hq => sT q (by unfold gT; rw [hq]; simp)
  have sTp : Lo gTp σ σ' := fun q hq => hσ q (by unfold gJ; rw [hq]; simp)
  have sP : Lo gP σ σ' := fun q hq => hσ q (by unfold gJ; rw [hq]; simp)
  have cR : Lo gRc (CS μ) (CS ν) := fun q hq => hc q (by unfold gJc; rw [hq]; simp)
  have cT : Lo gTc (CS μ) (CS ν) := fun q hq => hc q (by unfold gJc; rw [hq]; simp)
  have cP : Lo gPc (CS μ) (CS ν) := fun q hq => hc q (by unfold gJc; rw [hq]; simp)
  exact ⟨by rw [f.1]; exact h.1, h.wfR.lo sR, h.wfT.lo sT, h.relR.lo cR sT, h.relT.lo cT sTp, h.relP.lo cP sP, hF, h.relW.lo (hc 102 rfl) (hc 97 rfl) (hσ 166 rfl)⟩
theorem RelF.lo' {κ κ' σ σ' : Sg} {lo lo' : Int64 × Int64 × Int64 × Int64} (hc : Lo gFc κ κ') (h : Lo gF σ σ') (e1 : lo'.1 = lo.1) (e2 : lo'.2.1 = lo.2.1) (k : RelF κ lo σ) : RelF κ' lo' σ' := by
  have := RelF.lo hc h k
  unfold RelF at *
  rw [e1, e2]
  exact this
theorem cpS_ne {σ : Sg} {a b : Nat} {n : Int} {q : Nat} (h : (q == b) = false) : cpS σ a b n q = σ q := funext fun j => if_neg (fun z => by rw [z.1, beq_self_eq_true] at h; cases h)
theorem cbS_ne {σ : Sg} {a b : Nat} {n : Int} {q : Nat} (h : (q == b) = false) : cbS σ a b n q = σ q := funext fun j => if_neg (fun z => by rw [z.1, beq_self_eq_true] at h; cases h)
theorem cpS_at {σ : Sg} {a b : Nat} {n j : Int} (h0 : 0 ≤ j) (h1 : j < n) : cpS σ a b n b j = σ a j := if_pos ⟨rfl, h0, h1⟩
theorem cbS_at {σ : Sg} {a b : Nat} {n j : Int} (h0 : 0 ≤ j) (h1 : j < n) : cbS σ a b n b j = b2i (decide (¬ σ a j = 0)) := if_pos ⟨rfl, h0, h1⟩
theorem keS_lo {g : Nat → Bool} {σ : Sg} (h : (keL.all fun q => !(g q)) = true) : Lo g σ (keS σ) := by
  have k : ∀ q ∈ keL, g q = false := fun q hq => by
    have := List.all_eq_true.mp h q hq
    cases e : g q with
    | false => rfl
    | true => rw [e] at this; cases this
  unfold keS
  exact ((((((((Lo.refl g σ).up (k _ (by decide))).cp (k _ (by decide))).cp (k _ (by decide))).cp (k _ (by decide))).cp (k _ (by decide))).cp (k _ (by decide))).cp (k _ (by decide))).cp (k _ (by decide)) |>.cb (k _ (by decide))
theorem keS_v (σ : Sg) : keS σ 15489 0 = σ 15480 0 ∧ (∀ j : Int, 0 ≤ j → j < 24 → keS σ 130 j = σ 122 j ∧ keS σ 133 j = σ 125 j) ∧ (∀ j : Int, 0 ≤ j → j < 40 → keS σ 131 j = σ 123 j) ∧ (∀ j : Int, 0 ≤ j → j < 10 → keS σ 132 j = σ 124 j) ∧
    (∀ j : Int, 0 ≤ j → j < 288 → keS σ 134 j = σ 126 j ∧ keS σ 136 j = σ 128 j ∧ keS σ 135 j = b2i (decide (¬ σ 127 j = 0))) ∧ (∀ j : Int, 0 ≤ j → j < 61 → keS σ 137 j = σ 129 j) := by
  unfold keS
  refine ⟨?_, fun j j0 j1 => ⟨?_, ?_⟩, fun j j0 j1 => ?_, fun j j0 j1 => ?_, fun j j0 j1 => ⟨?_, ?_, ?_⟩, fun j j0 j1 => ?_⟩
  · repeat (first | rw [cbS_ne (by rfl)] | rw [cpS_ne (by rfl)])
    exact up_same _ _ _ _
  all_goals
    repeat (first | rw [cbS_ne (by rfl)] | rw [cpS_ne (by rfl)])
    first | rw [cpS_at j0 (by omega)] | rw [cbS_at j0 (by omega)]
    repeat (first | rw [cbS_ne (by rfl)] | rw [cpS_ne (by rfl)])
    rw [up_ne _ _ _ (by rfl)]
def zvS (σ : Sg) (n : Int) : Sg := fun q j => if q = 153 ∧ 0 ≤ j ∧ j < n then 0 else σ q j
theorem zvS_s (σ : Sg) {i : Int} (hi : 0 ≤ i) : up (zvS σ i) 153 i 0 = zvS σ (i + 1) := by
  funext q j
  unfold up zvS
  by_cases c : q = 153 ∧ j = i
  · rw [if_pos c, if_pos ⟨c.1, by omega, by omega⟩]
  · rw [if_neg c]
    by_cases c2 : q = 153 ∧ 0 ≤ j ∧ j < i
    · rw [if_pos c2, if_pos ⟨c2.1, c2.2.1, by omega⟩]
    · rw [if_neg c2, if_neg (fun z => c2 ⟨z.1, z.2.1, by have : ¬ j = i := fun e => c ⟨z.1, e⟩; omega⟩)]
theorem zvS_ne {σ : Sg} {n : Int} {q : Nat} (h : (q == 153) = false) : zvS σ n q = σ q := funext fun j => if_neg (fun z => by rw [z.1, beq_self_eq_true] at h; cases h)
theorem Lo.zv {g : Nat → Bool} {f f' : Sg} (h : Lo g f f') {n : Int} (hb : g 153 = false) : Lo g f (zvS f' n) := fun q hq => by
  rw [← h q hq]
  funext j
  exact if_neg (fun z => by rw [z.1, hb] at hq; cases hq)
/-- what the model holds as it begins to decide -/
def dcS (σ : Sg) : Sg := up (up (zvS (keS σ) 12) 15536 0 1) 15534 0 (σ 15534 0 + 1)
theorem dcS_J (σ : Sg) : Lo gJ σ (dcS σ) := (((keS_lo rfl).zv rfl).up rfl).up rfl
theorem dcS_F (σ : Sg) : Lo gF σ (dcS σ) := (((keS_lo rfl).zv rfl).up rfl).up rfl
theorem RowV.eq {f g : Int → Int} {r a d Y N A : Int} {ps : Bool} {v : Int} (h : RowV f r a d Y N A ps v) (k : RowV g r a d Y N A ps v) {j : Int} (j0 : 7 * r ≤ j) (j1 : j < 7 * r + 7) : f j = g j := by
  obtain ⟨h0, h1, h2, h3, h4, h5, h6⟩ := h
  obtain ⟨k0, k1, k2, k3, k4, k5, k6⟩ := k
  by_cases c0 : j = 7 * r
  · rw [c0, h0, k0]
  by_cases c1 : j = 7 * r + 1
  · rw [c1, h1, k1]
  by_cases c2 : j = 7 * r + 2
  · rw [c2, h2, k2]
  by_cases c3 : j = 7 * r + 3
  · rw [c3, h3, k3]
  by_cases c4 : j = 7 * r + 4
  · rw [c4, h4, k4]
  by_cases c5 : j = 7 * r + 5
  · rw [c5, h5, k5]
  · have c6 : j = 7 * r + 6 := by omega
    rw [c6, h6, k6]
theorem dec_relF {L : List Nat} {σ : Sg} {μ ξ ο : Mem} {mt : Int} {ps : Bool} (hI : Ic σ μ) (hm : isMt σ mt) (A : FlA ξ (coF σ (flC σ) mt ps)) (B : FlB σ ο (coF σ (flC σ) mt ps)) (f : Fr L ξ ο) (h1 : (lel L 68 || lel L 9582 || lel L 9583 || lel L 9584) = false) (h2 : (lel L 69 || lel L 70 || lel L 71 || lel L 72) = false) (S : StM σ ο) : RelF (CS ο) (CL ο) (MS ο) :=
  mk_relF (A.fr f h1 h2) B (coF_W hI.flW hI.rw.2.2 hI.cnt hm ps) S hI.cnt
