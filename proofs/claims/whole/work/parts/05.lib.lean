/-! what the printed walks stand on -/
theorem StatR.set {μ : Mem} {a len : Nat} {i v : Int} (h : StatR μ.2.2) : StatR (set' μ a len i v).2.2 := by unfold set'; split <;> exact h
theorem StatR.setL {μ : Mem} {a len : Nat} {i : Int} {v : Int64} (h : StatR μ.2.2) : StatR (setL' μ a len i v).2.2 := by unfold setL'; split <;> exact h
theorem StatR.put {μ : Mem} {j : Nat} (h : StatR μ.2.2) : StatR (sR μ 9065 0 (some j)).2.2 := by
  refine ⟨fun q i hq => ?_, fun i hi => ?_⟩
  · have hne : ¬ (q = 9065 ∧ (0 : Int) = 0) := by
      rintro ⟨rfl, -⟩
      rw [show SR 9065 = none from by decide +kernel] at hq
      cases hq
    have e : (sR μ 9065 0 (some j)).2.2 q 0 = μ.2.2 q 0 := if_neg hne
    rw [e]; exact h.1 q i hq
  · have hne : ¬ ((18 : Nat) = 9065 ∧ (i : Int) = 0) := fun z => absurd z.1 (by decide)
    have e : (sR μ 9065 0 (some j)).2.2 18 (i : Int) = μ.2.2 18 (i : Int) := (if_neg hne : (if (18 : Nat) = 9065 ∧ (i : Int) = 0 then some j else μ.2.2 18 (i : Int)) = _)
    rw [e]; exact h.2 i hi
def isRu (r : Nat) : Bool := r % 4 == 3 && (Nat.ble 19 r && Nat.ble r 59)
theorem ru_all : ∀ r : Fin 60, isRu r.1 = true → KT r.1 = (0, 8) ∧ KT (r.1 + 1) = (1, 300) ∧ KT (r.1 + 2) = (1, 5) ∧ KT (r.1 + 3) = (1, 5) ∧ SR (gid r.1 0) = some (r.1 + 1) ∧ SR (gid r.1 1) = some (r.1 + 2) ∧ SR (gid r.1 2) = some (r.1 + 3) := by decide +kernel
theorem ru_lt {r : Nat} (h : isRu r = true) : r < 60 := by
  unfold isRu at h
  simp only [Bool.and_eq_true] at h
  exact Nat.lt_succ_of_le (Nat.le_of_ble_eq_true h.2.2)
theorem ru_k {r : Nat} (h : isRu r = true) : KT r = (0, 8) := (ru_all ⟨r, ru_lt h⟩ h).1
theorem ru_k1 {r : Nat} (h : isRu r = true) : KT (r + 1) = (1, 300) := (ru_all ⟨r, ru_lt h⟩ h).2.1
theorem ru_k2 {r : Nat} (h : isRu r = true) : KT (r + 2) = (1, 5) := (ru_all ⟨r, ru_lt h⟩ h).2.2.1
theorem ru_k3 {r : Nat} (h : isRu r = true) : KT (r + 3) = (1, 5) := (ru_all ⟨r, ru_lt h⟩ h).2.2.2.1
theorem ru_l {r : Nat} (h : isRu r = true) : r < 175 := by have := ru_lt h; omega
theorem ru_l1 {r : Nat} (h : isRu r = true) : r + 1 < 175 := by have := ru_lt h; omega
theorem ru_l2 {r : Nat} (h : isRu r = true) : r + 2 < 175 := by have := ru_lt h; omega
theorem ru_l3 {r : Nat} (h : isRu r = true) : r + 3 < 175 := by have := ru_lt h; omega
theorem ru_s1 {ρ : Nat → Int → Option Nat} {r : Nat} (hs : StatR ρ) (h : isRu r = true) : ρ (gid r 0) 0 = some (r + 1) := hs.1 _ _ (ru_all ⟨r, ru_lt h⟩ h).2.2.2.2.1
theorem ru_s2 {ρ : Nat → Int → Option Nat} {r : Nat} (hs : StatR ρ) (h : isRu r = true) : ρ (gid r 1) 0 = some (r + 2) := hs.1 _ _ (ru_all ⟨r, ru_lt h⟩ h).2.2.2.2.2.1
theorem ru_s3 {ρ : Nat → Int → Option Nat} {r : Nat} (hs : StatR ρ) (h : isRu r = true) : ρ (gid r 2) 0 = some (r + 3) := hs.1 _ _ (ru_all ⟨r, ru_lt h⟩ h).2.2.2.2.2.2
theorem rm_O {d fr lo nL : Nat} (h : fr + 1 ≤ 20 ∧ 8 + (nL + 11) + lo ≤ 360) : fr + 1 ≤ 10 * (d + 1) + 10 ∧ 8 + (nL + 11) + lo ≤ 60 * (d + 1) + 300 := ⟨by omega, by omega⟩
theorem rm_OR {d nL : Nat} (h : nL ≤ 41) : (10 * d + 10) + 1 ≤ 10 * (d + 1) + 10 ∧ 8 + (nL + 11) + (60 * d + 300) ≤ 60 * (d + 1) + 300 := ⟨by omega, by omega⟩
theorem rm_P {d fr lo nL : Nat} (h : fr + 1 ≤ 20 ∧ 8 + (nL + 11) + lo ≤ 360) : fr + 1 ≤ 10 * (d + 1) + 10 ∧ 8 + (nL + 11) + lo ≤ 60 * (d + 1) + 300 := ⟨by omega, by omega⟩
theorem rm_PR {d nL : Nat} (h : nL ≤ 41) : (10 * d + 10) + 1 ≤ 10 * (d + 1) + 10 ∧ 8 + (nL + 11) + (60 * d + 300) ≤ 60 * (d + 1) + 300 := ⟨by omega, by omega⟩
theorem rm_Q {d fr lo nL : Nat} (h : fr + 1 ≤ 20 ∧ 8 + (nL + 11) + lo ≤ 360) : fr + 1 ≤ 10 * (d + 1) + 10 ∧ 8 + (nL + 11) + lo ≤ 60 * (d + 1) + 300 := ⟨by omega, by omega⟩
theorem rm_QR {d nL : Nat} (h : nL ≤ 41) : (10 * d + 10) + 1 ≤ 10 * (d + 1) + 10 ∧ 8 + (nL + 11) + (60 * d + 300) ≤ 60 * (d + 1) + 300 := ⟨by omega, by omega⟩
/-- which Rules a number of ORDERS names -/
def ruOf (x : Int) : Nat := if 0 ≤ w x ∧ w x < 10 then 23 + 4 * (w x).toNat else 19
def f_Papers_inForce (a1 : Int) (μ : Mem) (k : Nat → Mem → Prop) : Prop := k (ruOf a1) μ
theorem isRu_ruOf (x : Int) : isRu (ruOf x) = true := by
  unfold ruOf
  split
  · rename_i h
    have : ∀ j : Fin 10, isRu (23 + 4 * j.1) = true := by decide +kernel
    exact this ⟨(w x).toNat, by omega⟩
  · rfl
theorem i_Papers_inForce {l : Launch} {Γ : Gam} {g : Nat} {a1 : Int} {μ : Mem} {k : Nat → Mem → Prop} (hs : StatR μ.2.2) (h : f_Papers_inForce a1 μ k) : CT l Γ yX6_inForce cX6_inForce 3 (some (.object "CardHall$Rules")) 0 0 0 0 [vr Γ 12, vi a1] g 175 μ (pA Γ k) := by
  refine SW.ct (by decide) (Nat.le_of_ble_eq_true rfl) ?_
  refine z_sub (lv' := [(0, vr Γ 12), (1, vi a1)]) [0, 1] rfl ?_
  have fin : ∀ (r : Nat), r = ruOf a1 → SW l Γ yX6_inForce.cls cX6_inForce (3, some (.object "CardHall$Rules"), yX6_inForce.name, { frames := 0, cells := 0, slots := 0, locals := 0 }, 175 + 0, 0, 0) (pA Γ k) g 175 0 0 μ 26 [(0, vr Γ 12), (1, vi a1)] [vr Γ r] := by
    intro r er
    refine z_rstore_n (lv' := [(2, vr Γ r), (0, vr Γ 12), (1, vi a1)]) dX6_inForce_26 rfl (Nat.le_of_ble_eq_true rfl) rfl ?_
    refine z_rload_n dX6_inForce_27 rfl 0 rfl ?_
    refine z_ifnonnull (tgt := 38) dX6_inForce_28 (by decide) ?_
    refine z_rload_n dX6_inForce_38 rfl 0 rfl ?_
    exact z_aret rfl (Or.inl ⟨_, rfl⟩) dX6_inForce_39 rfl rfl rfl ⟨r, rfl, hs, by rw [er]; exact h⟩
  have none : ruOf a1 = 19 → SW l Γ yX6_inForce.cls cX6_inForce (3, some (.object "CardHall$Rules"), yX6_inForce.name, { frames := 0, cells := 0, slots := 0, locals := 0 }, 175 + 0, 0, 0) (pA Γ k) g 175 0 0 μ 22 [(0, vr Γ 12), (1, vi a1)] [] := by
    intro e
    refine z_rload_n dX6_inForce_22 rfl 0 rfl ?_
    refine z_getR ff_6_6 dX6_inForce_23 kt_12 (Nat.le_of_ble_eq_true rfl) fl_X6_34 rfl (hs.1 _ _ sr_2542) ?_
    exact fin 19 e.symm
  refine z_iload_n dX6_inForce_0 rfl 1 rfl ?_
  by_cases h0 : w a1 < 0
  · refine z_if_lt_T (tgt := 22) dX6_inForce_1 (by decide) h0 ?_
    exact none (by unfold ruOf; rw [if_neg (by omega)])
  · refine z_if_lt_F (tgt := 22) dX6_inForce_1 (by decide) h0 ?_
    refine z_iload_n dX6_inForce_4 rfl 1 rfl ?_
    refine z_rload_n dX6_inForce_5 rfl 0 rfl ?_
    refine z_getR ff_6_5 dX6_inForce_6 kt_12 (Nat.le_of_ble_eq_true rfl) fl_X6_29 rfl (hs.1 _ _ sr_2541) ?_
    refine z_alen dX6_inForce_9 kt_18 (by decide) (Nat.le_of_ble_eq_true rfl) ?_
    by_cases h1 : w a1 < 10
    · refine z_icmp_ge_T (tgt := 22) dX6_inForce_10 (by decide) h1 ?_
      refine z_rload_n dX6_inForce_13 rfl 0 rfl ?_
      refine z_getR ff_6_5 dX6_inForce_14 kt_12 (Nat.le_of_ble_eq_true rfl) fl_X6_29 rfl (hs.1 _ _ sr_2541) ?_
      refine z_iload_n dX6_inForce_17 rfl 1 rfl ?_
      refine z_aald (q := 23 + 4 * (w a1).toNat) dX6_inForce_18 kt_18 (Nat.le_of_ble_eq_true rfl) (by omega) h1 ?_ ?_
      · have := hs.2 (w a1).toNat (by omega)
        rw [Int.toNat_of_nonneg (by omega)] at this
        exact this
      · refine z_goto (tgt := 26) dX6_inForce_19 (by decide) ?_
        exact fin _ (by unfold ruOf; rw [if_pos ⟨by omega, h1⟩])
    · refine z_icmp_ge_F (tgt := 22) dX6_inForce_10 (by decide) h1 ?_
      exact none (by unfold ruOf; rw [if_neg (by omega)])
def H_O (l : Launch) (Γ : Gam) (g : Nat) (rec : Nat → Int → Mem → (Bool → Mem → Prop) → Prop) (d : Nat) : Prop := ∀ (x : Int) (μ : Mem) (k : Bool → Mem → Prop), StatR μ.2.2 → (rec 0 x μ k → CT l Γ yX5_either cX5_either 4 (some .boolean) (10 * d + 10) (60 * d + 300) 0 0 [vr Γ 63, vi x] g 175 μ (pB k)) ∧ (rec 1 x μ k → CT l Γ yX5_both cX5_both 4 (some .boolean) (10 * d + 10) (60 * d + 300) 0 0 [vr Γ 63, vi x] g 175 μ (pB k)) ∧ (rec 2 x μ k → CT l Γ yX5_piece cX5_piece 5 (some .boolean) (10 * d + 10) (60 * d + 300) 0 0 [vr Γ 63, vi x] g 175 μ (pB k)) ∧ (rec 3 x μ k → CT l Γ yX5_square cX5_square 2 (some .boolean) (10 * d + 10) (60 * d + 300) 0 0 [vr Γ 63, vi x] g 175 μ (pB k)) ∧ (rec 4 x μ k → CT l Γ yX5_sum cX5_sum 5 (some .boolean) (10 * d + 10) (60 * d + 300) 0 0 [vr Γ 63, vi x] g 175 μ (pB k)) ∧ (rec 5 x μ k → CT l Γ yX5_product cX5_product 5 (some .boolean) (10 * d + 10) (60 * d + 300) 0 0 [vr Γ 63, vi x] g 175 μ (pB k)) ∧ (rec 6 x μ k → CT l Γ yX5_factor cX5_factor 2 (some .boolean) (10 * d + 10) (60 * d + 300) 0 0 [vr Γ 63, vi x] g 175 μ (pB k))
def H_P (l : Launch) (Γ : Gam) (g : Nat) (rec : Nat → Mem → (Mem → Prop) → Prop) (d : Nat) : Prop := ∀ (μ : Mem) (k : Mem → Prop), StatR μ.2.2 → (rec 0 μ k → CT l Γ yX12_cond cX12_cond 1 none (10 * d + 10) (60 * d + 300) 0 0 [vr Γ 113] g 175 μ (pV k)) ∧ (rec 1 μ k → CT l Γ yX12_both cX12_both 1 none (10 * d + 10) (60 * d + 300) 0 0 [vr Γ 113] g 175 μ (pV k)) ∧ (rec 2 μ k → CT l Γ yX12_part cX12_part 2 none (10 * d + 10) (60 * d + 300) 0 0 [vr Γ 113] g 175 μ (pV k)) ∧ (rec 3 μ k → CT l Γ yX12_compares cX12_compares 2 none (10 * d + 10) (60 * d + 300) 0 0 [vr Γ 113] g 175 μ (pV k)) ∧ (rec 4 μ k → CT l Γ yX12_sum cX12_sum 2 none (10 * d + 10) (60 * d + 300) 0 0 [vr Γ 113] g 175 μ (pV k)) ∧ (rec 5 μ k → CT l Γ yX12_product cX12_product 2 none (10 * d + 10) (60 * d + 300) 0 0 [vr Γ 113] g 175 μ (pV k)) ∧ (rec 6 μ k → CT l Γ yX12_factor cX12_factor 2 none (10 * d + 10) (60 * d + 300) 0 0 [vr Γ 113] g 175 μ (pV k))
