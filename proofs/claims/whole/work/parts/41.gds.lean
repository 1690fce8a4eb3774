/-! VOIDS: what both sides begin with -/
theorem shlI_f : ∀ i : Fin 12, w_ishl 1 (i.1 : Int) = ((2 ^ i.1 : Nat) : Int) := by decide +kernel
theorem ior_f : ∀ i : Fin 12, ∀ a : Fin 64, ∀ b : Fin 64, w_ior ((64 * a.1 + b.1 : Nat) : Int) ((2 ^ i.1 : Nat) : Int) = (((64 * a.1 + b.1) ||| 2 ^ i.1 : Nat) : Int) := by decide +kernel
theorem ior_e {v i : Int} (hv : 0 ≤ v ∧ v < 4096) (hi : 0 ≤ i ∧ i < 12) : w_ior v (w_ishl 1 i) = ((v.toNat ||| 2 ^ i.toNat : Nat) : Int) := by
  have h1 := shlI_f ⟨i.toNat, by omega⟩
  have h2 := ior_f ⟨i.toNat, by omega⟩ ⟨v.toNat / 64, by omega⟩ ⟨v.toNat % 64, by omega⟩
  have e : 64 * (v.toNat / 64) + v.toNat % 64 = v.toNat := by omega
  have ei : ((i.toNat : Nat) : Int) = i := by omega
  have ev : ((v.toNat : Nat) : Int) = v := by omega
  simp only [e] at h2
  simp only [ei] at h1
  rw [h1]
  rw [ev] at h2
  exact h2
theorem ior_lt {v i : Nat} (hv : v < 4096) (hi : i < 12) : v ||| 2 ^ i < 4096 := by
  have h : (2 : Nat) ^ i < 2 ^ 12 := Nat.pow_lt_pow_right (by decide) hi
  exact Nat.or_lt_two_pow (n := 12) hv h
theorem ior_bit (v i a : Nat) : (v ||| 2 ^ i).testBit a = (v.testBit a || decide (i = a)) := by
  rw [Nat.testBit_or, Nat.testBit_two_pow]
theorem gbS_lo {g : Nat → Bool} {σ : Sg} (h : (gbL.all fun q => !(g q)) = true) : Lo g σ (gbS σ) := by
  have k : ∀ q ∈ gbL, g q = false := fun q hq => by
    have := List.all_eq_true.mp h q hq
    cases e : g q with
    | false => rfl
    | true => rw [e] at this; cases this
  unfold gbS
  exact ((((((((Lo.refl g σ).up (k _ (by decide))).cp (k _ (by decide))).cp (k _ (by decide))).cp (k _ (by decide))).cp (k _ (by decide))).cp (k _ (by decide))).cp (k _ (by decide))).cp (k _ (by decide)) |>.cb (k _ (by decide))
theorem gbS_v (σ : Sg) : gbS σ 15480 0 = σ 15489 0 ∧ (∀ j : Int, 0 ≤ j → j < 24 → gbS σ 122 j = σ 130 j ∧ gbS σ 125 j = σ 133 j) ∧ (∀ j : Int, 0 ≤ j → j < 40 → gbS σ 123 j = σ 131 j) ∧ (∀ j : Int, 0 ≤ j → j < 10 → gbS σ 124 j = σ 132 j) ∧
    (∀ j : Int, 0 ≤ j → j < 288 → gbS σ 126 j = σ 134 j ∧ gbS σ 128 j = σ 136 j ∧ gbS σ 127 j = b2i (decide (¬ σ 135 j = 0))) ∧ (∀ j : Int, 0 ≤ j → j < 61 → gbS σ 129 j = σ 137 j) := by
  unfold gbS
  refine ⟨?_, fun j j0 j1 => ⟨?_, ?_⟩, fun j j0 j1 => ?_, fun j j0 j1 => ?_, fun j j0 j1 => ⟨?_, ?_, ?_⟩, fun j j0 j1 => ?_⟩
  · repeat (first | rw [cbS_ne (by rfl)] | rw [cpS_ne (by rfl)])
    exact up_same _ _ _ _
  all_goals
    repeat (first | rw [cbS_ne (by rfl)] | rw [cpS_ne (by rfl)])
    first | rw [cpS_at j0 (by omega)] | rw [cbS_at j0 (by omega)]
    repeat (first | rw [cbS_ne (by rfl)] | rw [cpS_ne (by rfl)])
    rw [up_ne _ _ _ (by rfl)]
/-- what the model holds as it decides again, with one more left out -/
def gdS (σ : Sg) (a : Int) : Sg := up (gbS σ) 153 a 1
theorem gdS_J (σ : Sg) (a : Int) : Lo gJ σ (gdS σ a) := (gbS_lo rfl).up rfl
theorem gdS_q {σ : Sg} {a : Int} {q : Nat} {j : Int} (h : (q == 153) = false) : gdS σ a q j = gbS σ q j := by
  unfold gdS
  rw [up_ne _ _ _ h]
theorem gdS_v {σ : Sg} {a j : Int} : gdS σ a 153 j = if j = a then 1 else σ 153 j := by
  unfold gdS
  have h : gbS σ 153 j = σ 153 j := congrFun (gbS_lo (g := fun q => Nat.beq q 153) rfl 153 rfl) j
  by_cases c : j = a
  · rw [if_pos c, c]; exact up_at _ _ _ _
  · rw [if_neg c, up_ni _ _ _ c, h]
theorem isMt_hw3 {σ : Sg} {cm ca co : Nat} {x : Int} (h : ¬ hw3 σ cm ca co x = -1) : isMt σ x := by
  unfold hw3 at h
  unfold isMt
  by_cases c1 : 0 ≤ x ∧ x < σ 15472 0
  · exact Or.inl c1
  · rw [if_neg c1] at h
    by_cases c2 : 100 ≤ x ∧ x < 100 + σ 15474 0
    · exact Or.inr (Or.inl c2)
    · rw [if_neg c2] at h
      by_cases c3 : 200 ≤ x ∧ x < 200 + σ 15479 0
      · exact Or.inr (Or.inr c3)
      · rw [if_neg c3] at h
        exact absurd rfl h
