abbrev Y_M_bitsOf : Yt := (3, (some .int), yX12_bitsOf.name, { frames := 0, cells := 0, slots := 0, locals := 0 }, 175, 0, 0)
def l_M_bitsOf_4 (a1 : Int) (μ : Mem) (X_4_24 : Int → Prop) : Nat → Int → Int → Prop
  | 0, _, _ => False
  | fu4 + 1, v1, v2 => if w v2 < w 31 then (∀ v1_1 : Int, v1_1 = v1 + (w_iand (w_ishr a1 v2) 1) → (l_M_bitsOf_4 a1 μ X_4_24 fu4) v1_1 (v2 + 1)) else (X_4_24 v1)
def f_M_bitsOf (a1 : Int) (μ : Mem) (k : Int → Mem → Prop) : Prop := ∃ m4 : Nat, l_M_bitsOf_4 a1 μ (fun (v1_2 : Int) => k v1_2 μ) m4 0 0
theorem L_M_bitsOf_4 {l : Launch} {Γ : Gam} {g : Nat} {a1 : Int} {μ : Mem} {X_4_24 : Int → Prop} {k : Int → Mem → Prop} (hs : StatR μ.2.2) (hX_4_24 : ∀ (u1 : Int), X_4_24 u1 → SW l Γ yX12_bitsOf.cls cX12_bitsOf Y_M_bitsOf (pI k) g 175 0 0 μ 24 [(1, vi u1)] []) (n9 : Nat) : ∀ (v1 : Int) (v2 : Int), l_M_bitsOf_4 a1 μ X_4_24 n9 v1 v2 → SW l Γ yX12_bitsOf.cls cX12_bitsOf Y_M_bitsOf (pI k) g 175 0 0 μ 4 [(0, vi a1), (1, vi v1), (2, vi v2)] [] := by
  induction n9 with
  | zero =>
    intro v1 v2 h
    exact h.elim
  | succ n9 hR_4 =>
    intro v1 v2 h
    rw [l_M_bitsOf_4] at h
    refine z_iload_n dX12_bitsOf_4 rfl 2 rfl ?_
    refine z_bipush dX12_bitsOf_5 (by decide) ?_
    refine z_icmp_ge (tgt := 24) dX12_bitsOf_7 (by decide) h (fun h => ?_) (fun h => ?_)
    · refine z_iload_n dX12_bitsOf_10 rfl 1 rfl ?_
      refine z_iload_n dX12_bitsOf_11 rfl 0 rfl ?_
      refine z_iload_n dX12_bitsOf_12 rfl 2 rfl ?_
      refine z_ishr dX12_bitsOf_13 ?_
      refine z_iconst dX12_bitsOf_14 ?_
      refine z_iand dX12_bitsOf_15 ?_
      refine z_iadd dX12_bitsOf_16 ?_
      refine z_nm (fun v1_1 ev1_1 => ?_)
      replace h := h v1_1 ev1_1
      refine z_istore_n (lv' := [(1, vi v1_1), (0, vi a1), (2, vi v2)]) dX12_bitsOf_17 rfl (Nat.le_of_ble_eq_true rfl) rfl ?_
      refine z_iinc (j := 2) (lv' := [(2, vi (v2 + 1)), (1, vi v1_1), (0, vi a1)]) dX12_bitsOf_18 rfl (Nat.le_of_ble_eq_true rfl) rfl ?_
      refine z_goto (tgt := 4) dX12_bitsOf_21 (by decide) ?_
      refine z_sub (lv' := [(0, vi a1), (1, vi v1_1), (2, vi (v2 + 1))]) [2, 1, 0] rfl ?_
      exact hR_4 v1_1 (v2 + 1) h
    · refine z_sub (lv' := [(1, vi v1)]) [1] rfl ?_
      exact hX_4_24 v1 h
theorem i_M_bitsOf {l : Launch} {Γ : Gam} {g : Nat} {a1 : Int} {μ : Mem} {k : Int → Mem → Prop} (hs : StatR μ.2.2) (h : f_M_bitsOf a1 μ k) : CT l Γ yX12_bitsOf cX12_bitsOf 3 (some .int) 0 0 0 0 [vi a1] g 175 μ (pI k) := by
  refine SW.ct (by decide) (Nat.le_of_ble_eq_true rfl) ?_
  refine z_sub (lv' := [(0, vi a1)]) [0] rfl ?_
  show SW l Γ yX12_bitsOf.cls cX12_bitsOf Y_M_bitsOf (pI k) g 175 0 0 μ 0 [(0, vi a1)] []
  unfold f_M_bitsOf at h
  refine z_iconst dX12_bitsOf_0 ?_
  refine z_istore_n (lv' := [(1, vi 0), (0, vi a1)]) dX12_bitsOf_1 rfl (Nat.le_of_ble_eq_true rfl) rfl ?_
  refine z_iconst dX12_bitsOf_2 ?_
  refine z_istore_n (lv' := [(2, vi 0), (1, vi 0), (0, vi a1)]) dX12_bitsOf_3 rfl (Nat.le_of_ble_eq_true rfl) rfl ?_
  obtain ⟨m4, h⟩ := h
  refine z_sub (lv' := [(0, vi a1), (1, vi 0), (2, vi 0)]) [2, 1, 0] rfl ?_
  refine L_M_bitsOf_4 hs (fun v1_2 h => ?_) m4 0 0 h
  refine z_iload_n dX12_bitsOf_24 rfl 0 rfl ?_
  exact z_iret rfl dX12_bitsOf_25 rfl rfl rfl ⟨_, rfl, hs, h⟩
abbrev Y_M_areOpen : Yt := (5, (some .boolean), yX12_areOpen.name, { frames := 2, cells := 0, slots := 0, locals := 42 }, 175, 0, 0)
def l_M_areOpen_28 (a1 : Int) (k : Bool → Mem → Prop) : Nat → Int → Mem → Prop
  | 0, _, _ => False
  | fu28 + 1, v4, μ_2 => if w v4 < w 24 then (if w (w_iand (w_ishr a1 v4) 1) = w 1 then (f_M_isOpen v4 μ_2 (fun r48 μ_3 => if r48 = true then ((l_M_areOpen_28 a1 k fu28) (v4 + 1) μ_3) else (k false μ_3))) else ((l_M_areOpen_28 a1 k fu28) (v4 + 1) μ_2)) else (k true μ_2)
def f_M_areOpen (a1 : Int) (a2 : Int) (a3 : Int) (μ : Mem) (k : Bool → Mem → Prop) : Prop := if w a1 < 0 then (k false μ) else (if w (w_ishr a1 24) = 0 then (f_M_bitsOf a1 μ (fun r12 μ_1 => if (v_M_within r12 a2 a3) = true then (∃ m28 : Nat, l_M_areOpen_28 a1 k m28 0 μ_1) else (k false μ_1))) else (k false μ))
theorem L_M_areOpen_28 {l : Launch} {Γ : Gam} {g : Nat} {a1 : Int} {k : Bool → Mem → Prop} (n9 : Nat) : ∀ (v4 : Int) (μ_2 : Mem), StatR μ_2.2.2 → l_M_areOpen_28 a1 k n9 v4 μ_2 → SW l Γ yX12_areOpen.cls cX12_areOpen Y_M_areOpen (pB k) g 175 0 0 μ_2 28 [(0, vr Γ 113), (1, vi a1), (4, vi v4)] [] := by
  induction n9 with
  | zero =>
    intro v4 μ_2 hs h
    exact h.elim
  | succ n9 hR_28 =>
    intro v4 μ_2 hs h
    rw [l_M_areOpen_28] at h
    refine z_iload dX12_areOpen_28 2 rfl ?_
    refine z_bipush dX12_areOpen_30 (by decide) ?_
    refine z_icmp_ge (tgt := 62) dX12_areOpen_32 (by decide) h (fun h => ?_) (fun h => ?_)
    · refine z_iload_n dX12_areOpen_35 rfl 1 rfl ?_
      refine z_iload dX12_areOpen_36 2 rfl ?_
      refine z_ishr dX12_areOpen_38 ?_
      refine z_iconst dX12_areOpen_39 ?_
      refine z_iand dX12_areOpen_40 ?_
      refine z_iconst dX12_areOpen_41 ?_
      refine z_icmp_ne (tgt := 56) dX12_areOpen_42 (by decide) h (fun h => ?_) (fun h => ?_)
      · refine z_rload_n dX12_areOpen_45 rfl 0 rfl ?_
        refine z_iload dX12_areOpen_46 2 rfl ?_
        refine z_VB (i_M_isOpen  hs h) vk_X12_isOpen kt_113 (Nat.le_of_ble_eq_true rfl) rfl ml_X12_528 ⟨Nat.le_of_ble_eq_true rfl, Nat.le_of_ble_eq_true rfl⟩ ⟨Nat.zero_le _, Nat.zero_le _⟩ rfl rfl (Nat.le_of_ble_eq_true rfl) dX12_areOpen_48 (fun r48 μ_3 hs h => ?_)
        refine z_ifne_b (tgt := 56) dX12_areOpen_51 (by decide) h (fun h => ?_) (fun h => ?_)
        · refine z_iinc (j := 2) (lv' := [(4, vi (v4 + 1)), (0, vr Γ 113), (1, vi a1)]) dX12_areOpen_56 rfl (Nat.le_of_ble_eq_true rfl) rfl ?_
          refine z_goto (tgt := 28) dX12_areOpen_59 (by decide) ?_
          refine z_sub (lv' := [(0, vr Γ 113), (1, vi a1), (4, vi (v4 + 1))]) [1, 2, 0] rfl ?_
          exact hR_28 (v4 + 1) μ_3 hs h
        · refine z_iconst dX12_areOpen_54 ?_
          exact z_zret (b := false) rfl dX12_areOpen_55 rfl rfl rfl ⟨_, rfl, hs, h⟩
      · refine z_iinc (j := 2) (lv' := [(4, vi (v4 + 1)), (0, vr Γ 113), (1, vi a1)]) dX12_areOpen_56 rfl (Nat.le_of_ble_eq_true rfl) rfl ?_
        refine z_goto (tgt := 28) dX12_areOpen_59 (by decide) ?_
        refine z_sub (lv' := [(0, vr Γ 113), (1, vi a1), (4, vi (v4 + 1))]) [1, 2, 0] rfl ?_
        exact hR_28 (v4 + 1) μ_2 hs h
    · refine z_iconst dX12_areOpen_62 ?_
      exact z_zret (b := true) rfl dX12_areOpen_63 rfl rfl rfl ⟨_, rfl, hs, h⟩
theorem i_M_areOpen {l : Launch} {Γ : Gam} {g : Nat} {a1 : Int} {a2 : Int} {a3 : Int} {μ : Mem} {k : Bool → Mem → Prop} (hs : StatR μ.2.2) (h : f_M_areOpen a1 a2 a3 μ k) : CT l Γ yX12_areOpen cX12_areOpen 5 (some .boolean) 2 42 0 0 [vr Γ 113, vi a1, vi a2, vi a3] g 175 μ (pB k) := by
  refine SW.ct (by decide) (Nat.le_of_ble_eq_true rfl) ?_
  refine z_sub (lv' := [(0, vr Γ 113), (1, vi a1), (2, vi a2), (3, vi a3)]) [0, 1, 2, 3] rfl ?_
  show SW l Γ yX12_areOpen.cls cX12_areOpen Y_M_areOpen (pB k) g 175 0 0 μ 0 [(0, vr Γ 113), (1, vi a1), (2, vi a2), (3, vi a3)] []
  unfold f_M_areOpen at h
  refine z_iload_n dX12_areOpen_0 rfl 1 rfl ?_
  refine z_if_lt (tgt := 23) dX12_areOpen_1 (by decide) h (fun h => ?_) (fun h => ?_)
  · refine z_iconst dX12_areOpen_23 ?_
    exact z_zret (b := false) rfl dX12_areOpen_24 rfl rfl rfl ⟨_, rfl, hs, h⟩
  · refine z_iload_n dX12_areOpen_4 rfl 1 rfl ?_
    refine z_bipush dX12_areOpen_5 (by decide) ?_
    refine z_ishr dX12_areOpen_7 ?_
    refine z_if_ne (tgt := 23) dX12_areOpen_8 (by decide) h (fun h => ?_) (fun h => ?_)
    · refine z_iload_n dX12_areOpen_11 rfl 1 rfl ?_
      refine z_SI (i_M_bitsOf  hs h) sk_X12_bitsOf ml_X12_563 ⟨Nat.le_of_ble_eq_true rfl, Nat.le_of_ble_eq_true rfl⟩ ⟨Nat.zero_le _, Nat.zero_le _⟩ rfl rfl (Nat.le_of_ble_eq_true rfl) dX12_areOpen_12 (fun r12 μ_1 hs h => ?_)
      refine z_iload_n dX12_areOpen_15 rfl 2 rfl ?_
      refine z_iload_n dX12_areOpen_16 rfl 3 rfl ?_
      refine z_SE (i_M_within ) sk_X12_within ml_X12_215 ⟨Nat.le_of_ble_eq_true rfl, Nat.le_of_ble_eq_true rfl⟩ ⟨Nat.zero_le _, Nat.zero_le _⟩ rfl rfl (Nat.le_of_ble_eq_true rfl) dX12_areOpen_17 ?_
      refine z_ifne_b (tgt := 25) dX12_areOpen_20 (by decide) h (fun h => ?_) (fun h => ?_)
      · refine z_iconst dX12_areOpen_25 ?_
        refine z_istore (lv' := [(4, vi 0), (0, vr Γ 113), (1, vi a1), (2, vi a2), (3, vi a3)]) dX12_areOpen_26 (Nat.le_of_ble_eq_true rfl) rfl ?_
        obtain ⟨m28, h⟩ := h
        refine z_sub (lv' := [(0, vr Γ 113), (1, vi a1), (4, vi 0)]) [1, 2, 0] rfl ?_
        refine L_M_areOpen_28  m28 0 μ_1 hs h
      · refine z_iconst dX12_areOpen_23 ?_
        exact z_zret (b := false) rfl dX12_areOpen_24 rfl rfl rfl ⟨_, rfl, hs, h⟩
    · refine z_iconst dX12_areOpen_23 ?_
      exact z_zret (b := false) rfl dX12_areOpen_24 rfl rfl rfl ⟨_, rfl, hs, h⟩
abbrev Y_M_composes : Yt := (6, (some .boolean), yX12_composes.name, { frames := 2, cells := 0, slots := 0, locals := 44 }, 175, 0, 0)
def l_M_composes_2 (a1 : Int) (X_2_42 : Mem → Prop) : Nat → Int → Mem → Prop
  | 0, _, _ => False
  | fu2 + 1, v2, μ_1 => if w 60 < w v2 then (X_2_42 μ_1) else (0 ≤ w v2 ∧ w v2 < ((61 : Nat) : Int) ∧ ∀ μ_2 : Mem, μ_2 = sI μ_1 159 (w v2) 0 → 0 ≤ w v2 ∧ w v2 < ((61 : Nat) : Int) ∧ ∀ μ_3 : Mem, μ_3 = sB μ_2 160 (w v2) false → 0 ≤ w v2 ∧ w v2 < ((61 : Nat) : Int) ∧ ∀ μ_4 : Mem, μ_4 = sI μ_3 161 (w v2) 0 → 0 ≤ w v2 ∧ w v2 < ((61 : Nat) : Int) ∧ ∀ μ_5 : Mem, μ_5 = sB μ_4 162 (w v2) false → (l_M_composes_2 a1 X_2_42 fu2) (v2 + 1) μ_5)
def b_M_composes_133 (R_54 : Int → Mem → Prop) (v1 : Int) (v2_2 : Int) (v3_1 : Int) (v4_1 : Int) (v5_1 : Int) (μ_9 : Mem) : Prop := 0 ≤ w v5_1 ∧ w v5_1 < ((61 : Nat) : Int) ∧ ∀ μ_10 : Mem, μ_10 = sI μ_9 159 (w v5_1) v4_1 → 0 ≤ w v5_1 ∧ w v5_1 < ((61 : Nat) : Int) ∧ if (rB μ_10 160 (w v5_1)) = true then (0 ≤ w v5_1 ∧ w v5_1 < ((61 : Nat) : Int) ∧ ∀ μ_11 : Mem, μ_11 = sB μ_10 160 (w v5_1) true → 0 ≤ w v5_1 ∧ w v5_1 < ((61 : Nat) : Int) ∧ 0 ≤ w v5_1 ∧ w v5_1 < ((61 : Nat) : Int) ∧ ∀ μ_12 : Mem, μ_12 = sI μ_11 161 (w v5_1) ((rI μ_11 161 (w v5_1)) + 1) → R_54 (v3_1 + 1) μ_12) else (0 ≤ w ((12 * v2_2) + v3_1) ∧ w ((12 * v2_2) + v3_1) < ((288 : Nat) : Int) ∧ ∀ x177 : Bool, x177 = (if (rB μ_10 127 (w ((12 * v2_2) + v3_1))) = true then true else false) → 0 ≤ w v5_1 ∧ w v5_1 < ((61 : Nat) : Int) ∧ ∀ μ_13 : Mem, μ_13 = sB μ_10 160 (w v5_1) x177 → 0 ≤ w v5_1 ∧ w v5_1 < ((61 : Nat) : Int) ∧ 0 ≤ w v5_1 ∧ w v5_1 < ((61 : Nat) : Int) ∧ ∀ μ_14 : Mem, μ_14 = sI μ_13 161 (w v5_1) ((rI μ_13 161 (w v5_1)) + 1) → R_54 (v3_1 + 1) μ_14)
def l_M_composes_54 (a1 : Int) (v2_1 : Int) (X_54_195 : Mem → Prop) (k : Bool → Mem → Prop) : Nat → Int → Mem → Prop
  | 0, _, _ => False
  | fu54 + 1, v3, μ_8 => 0 ≤ w v2_1 ∧ w v2_1 < ((24 : Nat) : Int) ∧ if w v3 < w (rI μ_8 125 (w v2_1)) then (if w (w_iand (w_ishr a1 v2_1) 1) = w 1 then (0 ≤ w ((12 * v2_1) + v3) ∧ w ((12 * v2_1) + v3) < ((288 : Nat) : Int) ∧ ∀ v4 : Int, v4 = rI μ_8 126 (w ((12 * v2_1) + v3)) → ∀ v5 : Int, v5 = v_M_size v4 → 0 ≤ w v5 ∧ w v5 < ((61 : Nat) : Int) ∧ if w (rI μ_8 159 (w v5)) = 0 then (b_M_composes_133 (l_M_composes_54 a1 v2_1 X_54_195 k fu54) a1 v2_1 v3 v4 v5 μ_8) else (0 ≤ w v5 ∧ w v5 < ((61 : Nat) : Int) ∧ ∀ x118 : Int, x118 = (if 0 < w (rI μ_8 159 (w v5)) then 1 else 0) → ∀ x128 : Int, x128 = (if 0 < w v4 then 1 else 0) → if w x118 = w x128 then (b_M_composes_133 (l_M_composes_54 a1 v2_1 X_54_195 k fu54) a1 v2_1 v3 v4 v5 μ_8) else (k false μ_8))) else (X_54_195 μ_8)) else (X_54_195 μ_8)
def l_M_composes_44 (a1 : Int) (X_44_201 : Mem → Prop) (k : Bool → Mem → Prop) : Nat → Int → Mem → Prop
  | 0, _, _ => False
  | fu44 + 1, v2_1, μ_7 => if w v2_1 < w (rI μ_7 15472 0) then (∃ m54 : Nat, l_M_composes_54 a1 v2_1 (fun (μ_15 : Mem) => (l_M_composes_44 a1 X_44_201 k fu44) (v2_1 + 1) μ_15) k m54 0 μ_7) else (X_44_201 μ_7)
def l_M_composes_213 (X_213_264 : Int → Mem → Prop) : Nat → Int → Int → Mem → Prop
  | 0, _, _, _ => False
  | fu213 + 1, v2_3, v3_2, μ_19 => if w 60 < w v3_2 then (X_213_264 v2_3 μ_19) else (0 ≤ w v3_2 ∧ w v3_2 < ((61 : Nat) : Int) ∧ ∀ μ_20 : Mem, μ_20 = sI μ_19 15541 0 ((rI μ_19 15541 0) + (rI μ_19 161 (w v3_2))) → 0 ≤ w v3_2 ∧ w v3_2 < ((61 : Nat) : Int) ∧ 0 ≤ w v3_2 ∧ w v3_2 < ((61 : Nat) : Int) ∧ ∀ μ_21 : Mem, μ_21 = sB μ_20 162 (w v3_2) (rB μ_20 160 (w v3_2)) → 0 ≤ w v3_2 ∧ w v3_2 < ((61 : Nat) : Int) ∧ if (rB μ_21 160 (w v3_2)) = true then ((l_M_composes_213 X_213_264 fu213) (v2_3 + (-1)) (v3_2 + 1) μ_21) else ((l_M_composes_213 X_213_264 fu213) v2_3 (v3_2 + 1) μ_21))
def l_M_composes_279 (μ_23 : Mem) (v2_5 : Int) (X_279_335 : Int → Prop) : Nat → Int → Int → Prop
  | 0, _, _ => False
  | fu279 + 1, v3_3, v4_2 => if w 60 < w v4_2 then (X_279_335 v3_3) else (0 ≤ w v4_2 ∧ w v4_2 < ((61 : Nat) : Int) ∧ if (rB μ_23 162 (w v4_2)) = true then ((l_M_composes_279 μ_23 v2_5 X_279_335 fu279) v3_3 (v4_2 + 1)) else (0 ≤ w v4_2 ∧ w v4_2 < ((61 : Nat) : Int) ∧ if 0 < w (rI μ_23 161 (w v4_2)) then (if w v3_3 = 0 then ((l_M_composes_279 μ_23 v2_5 X_279_335 fu279) v4_2 (v4_2 + 1)) else (0 ≤ w v4_2 ∧ w v4_2 < ((61 : Nat) : Int) ∧ 0 ≤ w v3_3 ∧ w v3_3 < ((61 : Nat) : Int) ∧ if w (rI μ_23 161 (w v3_3)) < w (rI μ_23 161 (w v4_2)) then ((l_M_composes_279 μ_23 v2_5 X_279_335 fu279) v4_2 (v4_2 + 1)) else ((l_M_composes_279 μ_23 v2_5 X_279_335 fu279) v3_3 (v4_2 + 1)))) else ((l_M_composes_279 μ_23 v2_5 X_279_335 fu279) v3_3 (v4_2 + 1))))
def l_M_composes_270 (X_270_355 : Mem → Prop) (X_270_339 : Mem → Prop) : Nat → Int → Mem → Prop
  | 0, _, _ => False
  | fu270 + 1, v2_5, μ_23 => if 0 < w v2_5 then (∃ m279 : Nat, l_M_composes_279 μ_23 v2_5 (fun (v3_4 : Int) => if w v3_4 = 0 then (X_270_339 μ_23) else (0 ≤ w v3_4 ∧ w v3_4 < ((61 : Nat) : Int) ∧ ∀ μ_24 : Mem, μ_24 = sB μ_23 162 (w v3_4) true → (l_M_composes_270 X_270_355 X_270_339 fu270) (v2_5 + (-1)) μ_24)) m279 0 1) else (X_270_355 μ_23)
def l_M_composes_357 (X_357_393 : Mem → Prop) : Nat → Int → Mem → Prop
  | 0, _, _ => False
  | fu357 + 1, v3_5, μ_27 => if w 60 < w v3_5 then (X_357_393 μ_27) else (0 ≤ w v3_5 ∧ w v3_5 < ((61 : Nat) : Int) ∧ if (rB μ_27 162 (w v3_5)) = true then (0 ≤ w v3_5 ∧ w v3_5 < ((61 : Nat) : Int) ∧ ∀ μ_28 : Mem, μ_28 = sI μ_27 15541 0 ((rI μ_27 15541 0) - (rI μ_27 161 (w v3_5))) → (l_M_composes_357 X_357_393 fu357) (v3_5 + 1) μ_28) else ((l_M_composes_357 X_357_393 fu357) (v3_5 + 1) μ_27))
def b_M_composes_355 (k : Bool → Mem → Prop) (μ_26 : Mem) : Prop := ∃ m357 : Nat, l_M_composes_357 (fun (μ_29 : Mem) => k true μ_29) m357 1 μ_26
def f_M_composes (a1 : Int) (μ : Mem) (k : Bool → Mem → Prop) : Prop := ∃ m2 : Nat, l_M_composes_2 a1 (fun (μ_6 : Mem) => ∃ m44 : Nat, l_M_composes_44 a1 (fun (μ_16 : Mem) => f_M_length  μ_16 (fun r202 μ_17 => ∀ μ_18 : Mem, μ_18 = sI μ_17 15541 0 0 → ∃ m213 : Nat, l_M_composes_213 (fun (v2_4 : Int) (μ_22 : Mem) => if w v2_4 < 0 then (k false μ_22) else (∃ m270 : Nat, l_M_composes_270 (fun (μ_25 : Mem) => b_M_composes_355 k μ_25) (fun (μ_30 : Mem) => b_M_composes_355 k μ_30) m270 v2_4 μ_22)) m213 r202 1 μ_18)) k m44 0 μ_6) m2 1 μ
theorem L_M_composes_2 {l : Launch} {Γ : Gam} {g : Nat} {a1 : Int} {X_2_42 : Mem → Prop} {k : Bool → Mem → Prop} (hX_2_42 : ∀ (ν : Mem), StatR ν.2.2 → X_2_42 ν → SW l Γ yX12_composes.cls cX12_composes Y_M_composes (pB k) g 175 0 0 ν 42 [(0, vr Γ 113), (1, vi a1)] []) (n9 : Nat) : ∀ (v2 : Int) (μ_1 : Mem), StatR μ_1.2.2 → l_M_composes_2 a1 X_2_42 n9 v2 μ_1 → SW l Γ yX12_composes.cls cX12_composes Y_M_composes (pB k) g 175 0 0 μ_1 2 [(0, vr Γ 113), (1, vi a1), (2, vi v2)] [] := by
  induction n9 with
  | zero =>
    intro v2 μ_1 hs h
    exact h.elim
  | succ n9 hR_2 =>
    intro v2 μ_1 hs h
    rw [l_M_composes_2] at h
    refine z_iload_n dX12_composes_2 rfl 2 rfl ?_
    refine z_bipush dX12_composes_3 (by decide) ?_
    refine z_icmp_gt (tgt := 42) dX12_composes_5 (by decide) h (fun h => ?_) (fun h => ?_)
    · refine z_sub (lv' := [(0, vr Γ 113), (1, vi a1)]) [0, 1] rfl ?_
      exact hX_2_42 μ_1 hs h
    · refine z_rload_n dX12_composes_8 rfl 0 rfl ?_
      refine z_getR (q := 15537) ff_12_73 dX12_composes_9 kt_113 (Nat.le_of_ble_eq_true rfl) fl_X12_164 rfl (hs.1 _ _ sr_15537) ?_
      refine z_iload_n dX12_composes_12 rfl 2 rfl ?_
      refine z_iconst dX12_composes_13 ?_
      obtain ⟨h0, h1, h⟩ := h
      refine z_iast dX12_composes_14 kt_159 (Nat.le_of_ble_eq_true rfl) h0 h1 ?_
      refine z_mm (fun μ_2 eμ_2 => ?_)
      replace h := h μ_2 eμ_2
      replace hs : StatR μ_2.2.2 := by rw [eμ_2]; exact hs
      refine z_rload_n dX12_composes_15 rfl 0 rfl ?_
      refine z_getR (q := 15538) ff_12_74 dX12_composes_16 kt_113 (Nat.le_of_ble_eq_true rfl) fl_X12_167 rfl (hs.1 _ _ sr_15538) ?_
      refine z_iload_n dX12_composes_19 rfl 2 rfl ?_
      refine z_iconst dX12_composes_20 ?_
      obtain ⟨h0, h1, h⟩ := h
      refine z_zast (b := false) dX12_composes_21 kt_160 (Nat.le_of_ble_eq_true rfl) h0 h1 ?_
      refine z_mm (fun μ_3 eμ_3 => ?_)
      replace h := h μ_3 eμ_3
      replace hs : StatR μ_3.2.2 := by rw [eμ_3]; exact hs
      refine z_rload_n dX12_composes_22 rfl 0 rfl ?_
      refine z_getR (q := 15539) ff_12_75 dX12_composes_23 kt_113 (Nat.le_of_ble_eq_true rfl) fl_X12_170 rfl (hs.1 _ _ sr_15539) ?_
      refine z_iload_n dX12_composes_26 rfl 2 rfl ?_
      refine z_iconst dX12_composes_27 ?_
      obtain ⟨h0, h1, h⟩ := h
      refine z_iast dX12_composes_28 kt_161 (Nat.le_of_ble_eq_true rfl) h0 h1 ?_
      refine z_mm (fun μ_4 eμ_4 => ?_)
      replace h := h μ_4 eμ_4
      replace hs : StatR μ_4.2.2 := by rw [eμ_4]; exact hs
      refine z_rload_n dX12_composes_29 rfl 0 rfl ?_
      refine z_getR (q := 15540) ff_12_76 dX12_composes_30 kt_113 (Nat.le_of_ble_eq_true rfl) fl_X12_173 rfl (hs.1 _ _ sr_15540) ?_
      refine z_iload_n dX12_composes_33 rfl 2 rfl ?_
      refine z_iconst dX12_composes_34 ?_
      obtain ⟨h0, h1, h⟩ := h
      refine z_zast (b := false) dX12_composes_35 kt_162 (Nat.le_of_ble_eq_true rfl) h0 h1 ?_
      refine z_mm (fun μ_5 eμ_5 => ?_)
      replace h := h μ_5 eμ_5
      replace hs : StatR μ_5.2.2 := by rw [eμ_5]; exact hs
      refine z_iinc (j := 2) (lv' := [(2, vi (v2 + 1)), (0, vr Γ 113), (1, vi a1)]) dX12_composes_36 rfl (Nat.le_of_ble_eq_true rfl) rfl ?_
      refine z_goto (tgt := 2) dX12_composes_39 (by decide) ?_
      refine z_sub (lv' := [(0, vr Γ 113), (1, vi a1), (2, vi (v2 + 1))]) [1, 2, 0] rfl ?_
      exact hR_2 (v2 + 1) μ_5 hs h
theorem B_M_composes_133 {l : Launch} {Γ : Gam} {g : Nat} {R_54 : Int → Mem → Prop} {k : Bool → Mem → Prop} {v1 : Int} {v2_2 : Int} {v3_1 : Int} {v4_1 : Int} {v5_1 : Int} {μ_9 : Mem} (hR_54 : ∀ (u3 : Int) (ν : Mem), StatR ν.2.2 → R_54 u3 ν → SW l Γ yX12_composes.cls cX12_composes Y_M_composes (pB k) g 175 0 0 ν 54 [(0, vr Γ 113), (1, vi v1), (2, vi v2_2), (3, vi u3)] []) (hs : StatR μ_9.2.2) (h : b_M_composes_133 R_54 v1 v2_2 v3_1 v4_1 v5_1 μ_9) : SW l Γ yX12_composes.cls cX12_composes Y_M_composes (pB k) g 175 0 0 μ_9 133 [(0, vr Γ 113), (1, vi v1), (2, vi v2_2), (3, vi v3_1), (4, vi v4_1), (5, vi v5_1)] [] := by
  unfold b_M_composes_133 at h
  refine z_rload_n dX12_composes_133 rfl 0 rfl ?_
  refine z_getR (q := 15537) ff_12_73 dX12_composes_134 kt_113 (Nat.le_of_ble_eq_true rfl) fl_X12_164 rfl (hs.1 _ _ sr_15537) ?_
  refine z_iload dX12_composes_137 5 rfl ?_
  refine z_iload dX12_composes_139 4 rfl ?_
  obtain ⟨h0, h1, h⟩ := h
  refine z_iast dX12_composes_141 kt_159 (Nat.le_of_ble_eq_true rfl) h0 h1 ?_
  refine z_mm (fun μ_10 eμ_10 => ?_)
  replace h := h μ_10 eμ_10
  replace hs : StatR μ_10.2.2 := by rw [eμ_10]; exact hs
  refine z_rload_n dX12_composes_142 rfl 0 rfl ?_
  refine z_getR (q := 15538) ff_12_74 dX12_composes_143 kt_113 (Nat.le_of_ble_eq_true rfl) fl_X12_167 rfl (hs.1 _ _ sr_15538) ?_
  refine z_iload dX12_composes_146 5 rfl ?_
  refine z_rload_n dX12_composes_148 rfl 0 rfl ?_
  refine z_getR (q := 15538) ff_12_74 dX12_composes_149 kt_113 (Nat.le_of_ble_eq_true rfl) fl_X12_167 rfl (hs.1 _ _ sr_15538) ?_
  refine z_iload dX12_composes_152 5 rfl ?_
  obtain ⟨h0, h1, h⟩ := h
  refine z_zald dX12_composes_154 kt_160 (Nat.le_of_ble_eq_true rfl) h0 h1 ?_
  refine z_ifne_b (tgt := 172) dX12_composes_155 (by decide) h (fun h => ?_) (fun h => ?_)
  · refine z_iconst dX12_composes_172 ?_
    refine z_goto (tgt := 177) dX12_composes_173 (by decide) ?_
    obtain ⟨h0, h1, h⟩ := h
    refine z_zast (b := true) dX12_composes_177 kt_160 (Nat.le_of_ble_eq_true rfl) h0 h1 ?_
    refine z_mm (fun μ_11 eμ_11 => ?_)
    replace h := h μ_11 eμ_11
    replace hs : StatR μ_11.2.2 := by rw [eμ_11]; exact hs
    refine z_rload_n dX12_composes_178 rfl 0 rfl ?_
    refine z_getR (q := 15539) ff_12_75 dX12_composes_179 kt_113 (Nat.le_of_ble_eq_true rfl) fl_X12_170 rfl (hs.1 _ _ sr_15539) ?_
    refine z_iload dX12_composes_182 5 rfl ?_
    refine z_dup2 dX12_composes_184 rfl rfl ?_
    obtain ⟨h0, h1, h⟩ := h
    refine z_iald dX12_composes_185 kt_161 (Nat.le_of_ble_eq_true rfl) h0 h1 ?_
    refine z_iconst dX12_composes_186 ?_
    refine z_iadd dX12_composes_187 ?_
    obtain ⟨h0, h1, h⟩ := h
    refine z_iast dX12_composes_188 kt_161 (Nat.le_of_ble_eq_true rfl) h0 h1 ?_
    refine z_mm (fun μ_12 eμ_12 => ?_)
    replace h := h μ_12 eμ_12
    replace hs : StatR μ_12.2.2 := by rw [eμ_12]; exact hs
    refine z_iinc (j := 3) (lv' := [(3, vi (v3_1 + 1)), (0, vr Γ 113), (1, vi v1), (2, vi v2_2), (4, vi v4_1), (5, vi v5_1)]) dX12_composes_189 rfl (Nat.le_of_ble_eq_true rfl) rfl ?_
    refine z_goto (tgt := 54) dX12_composes_192 (by decide) ?_
    refine z_sub (lv' := [(0, vr Γ 113), (1, vi v1), (2, vi v2_2), (3, vi (v3_1 + 1))]) [1, 2, 3, 0] rfl ?_
    exact hR_54 (v3_1 + 1) μ_12 hs h
  · refine z_rload_n dX12_composes_158 rfl 0 rfl ?_
    refine z_getR (q := 15486) ff_12_22 dX12_composes_159 kt_113 (Nat.le_of_ble_eq_true rfl) fl_X12_59 rfl (hs.1 _ _ sr_15486) ?_
    refine z_bipush dX12_composes_162 (by decide) ?_
    refine z_iload_n dX12_composes_164 rfl 2 rfl ?_
    refine z_imul dX12_composes_165 ?_
    refine z_iload_n dX12_composes_166 rfl 3 rfl ?_
    refine z_iadd dX12_composes_167 ?_
    obtain ⟨h0, h1, h⟩ := h
    refine z_zald dX12_composes_168 kt_127 (Nat.le_of_ble_eq_true rfl) h0 h1 ?_
    refine z_phiB 177 [vi v5_1, vr Γ 160] (fun V9 hv J9 => ?_) h (fun x177 h => ?_)
    · refine z_ifeq_b (tgt := 176) dX12_composes_169 (by decide) (eq_ite hv) (fun hv => ?_) (fun hv => ?_)
      · refine z_iconst dX12_composes_172 ?_
        refine z_goto (tgt := 177) dX12_composes_173 (by decide) ?_
        exact J9 true hv.symm
      · refine z_iconst dX12_composes_176 ?_
        exact J9 false hv.symm
    · obtain ⟨h0, h1, h⟩ := h
      refine z_zast dX12_composes_177 kt_160 (Nat.le_of_ble_eq_true rfl) h0 h1 ?_
      refine z_mm (fun μ_13 eμ_13 => ?_)
      replace h := h μ_13 eμ_13
      replace hs : StatR μ_13.2.2 := by rw [eμ_13]; exact hs
      refine z_rload_n dX12_composes_178 rfl 0 rfl ?_
      refine z_getR (q := 15539) ff_12_75 dX12_composes_179 kt_113 (Nat.le_of_ble_eq_true rfl) fl_X12_170 rfl (hs.1 _ _ sr_15539) ?_
      refine z_iload dX12_composes_182 5 rfl ?_
      refine z_dup2 dX12_composes_184 rfl rfl ?_
      obtain ⟨h0, h1, h⟩ := h
      refine z_iald dX12_composes_185 kt_161 (Nat.le_of_ble_eq_true rfl) h0 h1 ?_
      refine z_iconst dX12_composes_186 ?_
      refine z_iadd dX12_composes_187 ?_
      obtain ⟨h0, h1, h⟩ := h
      refine z_iast dX12_composes_188 kt_161 (Nat.le_of_ble_eq_true rfl) h0 h1 ?_
      refine z_mm (fun μ_14 eμ_14 => ?_)
      replace h := h μ_14 eμ_14
      replace hs : StatR μ_14.2.2 := by rw [eμ_14]; exact hs
      refine z_iinc (j := 3) (lv' := [(3, vi (v3_1 + 1)), (0, vr Γ 113), (1, vi v1), (2, vi v2_2), (4, vi v4_1), (5, vi v5_1)]) dX12_composes_189 rfl (Nat.le_of_ble_eq_true rfl) rfl ?_
      refine z_goto (tgt := 54) dX12_composes_192 (by decide) ?_
      refine z_sub (lv' := [(0, vr Γ 113), (1, vi v1), (2, vi v2_2), (3, vi (v3_1 + 1))]) [1, 2, 3, 0] rfl ?_
      exact hR_54 (v3_1 + 1) μ_14 hs h
theorem L_M_composes_54 {l : Launch} {Γ : Gam} {g : Nat} {a1 : Int} {v2_1 : Int} {X_54_195 : Mem → Prop} {k : Bool → Mem → Prop} (hX_54_195 : ∀ (ν : Mem), StatR ν.2.2 → X_54_195 ν → SW l Γ yX12_composes.cls cX12_composes Y_M_composes (pB k) g 175 0 0 ν 195 [(0, vr Γ 113), (1, vi a1), (2, vi v2_1)] []) (n9 : Nat) : ∀ (v3 : Int) (μ_8 : Mem), StatR μ_8.2.2 → l_M_composes_54 a1 v2_1 X_54_195 k n9 v3 μ_8 → SW l Γ yX12_composes.cls cX12_composes Y_M_composes (pB k) g 175 0 0 μ_8 54 [(0, vr Γ 113), (1, vi a1), (2, vi v2_1), (3, vi v3)] [] := by
  induction n9 with
  | zero =>
    intro v3 μ_8 hs h
    exact h.elim
  | succ n9 hR_54 =>
    intro v3 μ_8 hs h
    rw [l_M_composes_54] at h
    refine z_iload_n dX12_composes_54 rfl 3 rfl ?_
    refine z_rload_n dX12_composes_55 rfl 0 rfl ?_
    refine z_getR (q := 15484) ff_12_20 dX12_composes_56 kt_113 (Nat.le_of_ble_eq_true rfl) fl_X12_53 rfl (hs.1 _ _ sr_15484) ?_
    refine z_iload_n dX12_composes_59 rfl 2 rfl ?_
    obtain ⟨h0, h1, h⟩ := h
    refine z_iald dX12_composes_60 kt_125 (Nat.le_of_ble_eq_true rfl) h0 h1 ?_
    refine z_icmp_ge (tgt := 195) dX12_composes_61 (by decide) h (fun h => ?_) (fun h => ?_)
    · refine z_iload_n dX12_composes_64 rfl 1 rfl ?_
      refine z_iload_n dX12_composes_65 rfl 2 rfl ?_
      refine z_ishr dX12_composes_66 ?_
      refine z_iconst dX12_composes_67 ?_
      refine z_iand dX12_composes_68 ?_
      refine z_iconst dX12_composes_69 ?_
      refine z_icmp_ne (tgt := 195) dX12_composes_70 (by decide) h (fun h => ?_) (fun h => ?_)
      · refine z_rload_n dX12_composes_73 rfl 0 rfl ?_
        refine z_getR (q := 15485) ff_12_21 dX12_composes_74 kt_113 (Nat.le_of_ble_eq_true rfl) fl_X12_56 rfl (hs.1 _ _ sr_15485) ?_
        refine z_bipush dX12_composes_77 (by decide) ?_
        refine z_iload_n dX12_composes_79 rfl 2 rfl ?_
        refine z_imul dX12_composes_80 ?_
        refine z_iload_n dX12_composes_81 rfl 3 rfl ?_
        refine z_iadd dX12_composes_82 ?_
        obtain ⟨h0, h1, h⟩ := h
        refine z_iald dX12_composes_83 kt_126 (Nat.le_of_ble_eq_true rfl) h0 h1 ?_
        refine z_nm (fun v4 ev4 => ?_)
        replace h := h v4 ev4
        refine z_istore (lv' := [(4, vi v4), (0, vr Γ 113), (1, vi a1), (2, vi v2_1), (3, vi v3)]) dX12_composes_84 (Nat.le_of_ble_eq_true rfl) rfl ?_
        refine z_iload dX12_composes_86 0 rfl ?_
        refine z_SE (i_M_size ) sk_X12_size ml_X12_489 ⟨Nat.le_of_ble_eq_true rfl, Nat.le_of_ble_eq_true rfl⟩ ⟨Nat.zero_le _, Nat.zero_le _⟩ rfl rfl (Nat.le_of_ble_eq_true rfl) dX12_composes_88 ?_
        refine z_nm (fun v5 ev5 => ?_)
        replace h := h v5 ev5
        refine z_istore (lv' := [(5, vi v5), (4, vi v4), (0, vr Γ 113), (1, vi a1), (2, vi v2_1), (3, vi v3)]) dX12_composes_91 (Nat.le_of_ble_eq_true rfl) rfl ?_
        refine z_rload_n dX12_composes_93 rfl 2 rfl ?_
        refine z_getR (q := 15537) ff_12_73 dX12_composes_94 kt_113 (Nat.le_of_ble_eq_true rfl) fl_X12_164 rfl (hs.1 _ _ sr_15537) ?_
        refine z_iload dX12_composes_97 0 rfl ?_
        obtain ⟨h0, h1, h⟩ := h
        refine z_iald dX12_composes_99 kt_159 (Nat.le_of_ble_eq_true rfl) h0 h1 ?_
        refine z_if_eq (tgt := 133) dX12_composes_100 (by decide) h (fun h => ?_) (fun h => ?_)
        · refine z_sub (lv' := [(0, vr Γ 113), (1, vi a1), (2, vi v2_1), (3, vi v3), (4, vi v4), (5, vi v5)]) [2, 3, 4, 5, 1, 0] rfl ?_
          exact B_M_composes_133 hR_54 hs h
        · refine z_rload_n dX12_composes_103 rfl 2 rfl ?_
          refine z_getR (q := 15537) ff_12_73 dX12_composes_104 kt_113 (Nat.le_of_ble_eq_true rfl) fl_X12_164 rfl (hs.1 _ _ sr_15537) ?_
          refine z_iload dX12_composes_107 0 rfl ?_
          obtain ⟨h0, h1, h⟩ := h
          refine z_iald dX12_composes_109 kt_159 (Nat.le_of_ble_eq_true rfl) h0 h1 ?_
          refine z_phi 118 [] (fun V9 hv J9 => ?_) h (fun x118 h => ?_)
          · refine z_if_le (tgt := 117) dX12_composes_110 (by decide) (eq_ite hv) (fun hv => ?_) (fun hv => ?_)
            · refine z_iconst dX12_composes_113 ?_
              refine z_goto (tgt := 118) dX12_composes_114 (by decide) ?_
              exact J9 _ hv.symm
            · refine z_iconst dX12_composes_117 ?_
              exact J9 _ hv.symm
          · refine z_iload dX12_composes_118 1 rfl ?_
            refine z_phi 128 [vi x118] (fun V9 hv J9 => ?_) h (fun x128 h => ?_)
            · refine z_if_le (tgt := 127) dX12_composes_120 (by decide) (eq_ite hv) (fun hv => ?_) (fun hv => ?_)
              · refine z_iconst dX12_composes_123 ?_
                refine z_goto (tgt := 128) dX12_composes_124 (by decide) ?_
                exact J9 _ hv.symm
              · refine z_iconst dX12_composes_127 ?_
                exact J9 _ hv.symm
            · refine z_icmp_eq (tgt := 133) dX12_composes_128 (by decide) h (fun h => ?_) (fun h => ?_)
              · refine z_sub (lv' := [(0, vr Γ 113), (1, vi a1), (2, vi v2_1), (3, vi v3), (4, vi v4), (5, vi v5)]) [2, 3, 4, 5, 1, 0] rfl ?_
                exact B_M_composes_133 hR_54 hs h
              · refine z_iconst dX12_composes_131 ?_
                exact z_zret (b := false) rfl dX12_composes_132 rfl rfl rfl ⟨_, rfl, hs, h⟩
      · refine z_sub (lv' := [(0, vr Γ 113), (1, vi a1), (2, vi v2_1)]) [0, 1, 2] rfl ?_
        exact hX_54_195 μ_8 hs h
    · refine z_sub (lv' := [(0, vr Γ 113), (1, vi a1), (2, vi v2_1)]) [0, 1, 2] rfl ?_
      exact hX_54_195 μ_8 hs h
theorem L_M_composes_44 {l : Launch} {Γ : Gam} {g : Nat} {a1 : Int} {X_44_201 : Mem → Prop} {k : Bool → Mem → Prop} (hX_44_201 : ∀ (ν : Mem), StatR ν.2.2 → X_44_201 ν → SW l Γ yX12_composes.cls cX12_composes Y_M_composes (pB k) g 175 0 0 ν 201 [(0, vr Γ 113)] []) (n9 : Nat) : ∀ (v2_1 : Int) (μ_7 : Mem), StatR μ_7.2.2 → l_M_composes_44 a1 X_44_201 k n9 v2_1 μ_7 → SW l Γ yX12_composes.cls cX12_composes Y_M_composes (pB k) g 175 0 0 μ_7 44 [(0, vr Γ 113), (1, vi a1), (2, vi v2_1)] [] := by
  induction n9 with
  | zero =>
    intro v2_1 μ_7 hs h
    exact h.elim
  | succ n9 hR_44 =>
    intro v2_1 μ_7 hs h
    rw [l_M_composes_44] at h
    refine z_iload_n dX12_composes_44 rfl 2 rfl ?_
    refine z_rload_n dX12_composes_45 rfl 0 rfl ?_
    refine z_getI (q := 15472) ff_12_8 dX12_composes_46 kt_113 (Nat.le_of_ble_eq_true rfl) fl_X12_231 rfl ?_
    refine z_icmp_ge (tgt := 201) dX12_composes_49 (by decide) h (fun h => ?_) (fun h => ?_)
    · refine z_iconst dX12_composes_52 ?_
      refine z_istore_n (lv' := [(3, vi 0), (0, vr Γ 113), (1, vi a1), (2, vi v2_1)]) dX12_composes_53 rfl (Nat.le_of_ble_eq_true rfl) rfl ?_
      obtain ⟨m54, h⟩ := h
      refine z_sub (lv' := [(0, vr Γ 113), (1, vi a1), (2, vi v2_1), (3, vi 0)]) [1, 2, 3, 0] rfl ?_
      refine L_M_composes_54 (fun μ_15 hs h => ?_) m54 0 μ_7 hs h
      refine z_iinc (j := 2) (lv' := [(2, vi (v2_1 + 1)), (0, vr Γ 113), (1, vi a1)]) dX12_composes_195 rfl (Nat.le_of_ble_eq_true rfl) rfl ?_
      refine z_goto (tgt := 44) dX12_composes_198 (by decide) ?_
      refine z_sub (lv' := [(0, vr Γ 113), (1, vi a1), (2, vi (v2_1 + 1))]) [1, 2, 0] rfl ?_
      exact hR_44 (v2_1 + 1) μ_15 hs h
    · refine z_sub (lv' := [(0, vr Γ 113)]) [0] rfl ?_
      exact hX_44_201 μ_7 hs h
theorem L_M_composes_213 {l : Launch} {Γ : Gam} {g : Nat} {X_213_264 : Int → Mem → Prop} {k : Bool → Mem → Prop} (hX_213_264 : ∀ (u2 : Int) (ν : Mem), StatR ν.2.2 → X_213_264 u2 ν → SW l Γ yX12_composes.cls cX12_composes Y_M_composes (pB k) g 175 0 0 ν 264 [(0, vr Γ 113), (2, vi u2)] []) (n9 : Nat) : ∀ (v2_3 : Int) (v3_2 : Int) (μ_19 : Mem), StatR μ_19.2.2 → l_M_composes_213 X_213_264 n9 v2_3 v3_2 μ_19 → SW l Γ yX12_composes.cls cX12_composes Y_M_composes (pB k) g 175 0 0 μ_19 213 [(0, vr Γ 113), (2, vi v2_3), (3, vi v3_2)] [] := by
  induction n9 with
  | zero =>
    intro v2_3 v3_2 μ_19 hs h
    exact h.elim
  | succ n9 hR_213 =>
    intro v2_3 v3_2 μ_19 hs h
    rw [l_M_composes_213] at h
    refine z_iload_n dX12_composes_213 rfl 2 rfl ?_
    refine z_bipush dX12_composes_214 (by decide) ?_
    refine z_icmp_gt (tgt := 264) dX12_composes_216 (by decide) h (fun h => ?_) (fun h => ?_)
    · refine z_sub (lv' := [(0, vr Γ 113), (2, vi v2_3)]) [0, 1] rfl ?_
      exact hX_213_264 v2_3 μ_19 hs h
    · refine z_rload_n dX12_composes_219 rfl 0 rfl ?_
      refine z_dup dX12_composes_220 rfl ?_
      refine z_getI (q := 15541) ff_12_77 dX12_composes_221 kt_113 (Nat.le_of_ble_eq_true rfl) fl_X12_567 rfl ?_
      refine z_rload_n dX12_composes_224 rfl 0 rfl ?_
      refine z_getR (q := 15539) ff_12_75 dX12_composes_225 kt_113 (Nat.le_of_ble_eq_true rfl) fl_X12_170 rfl (hs.1 _ _ sr_15539) ?_
      refine z_iload_n dX12_composes_228 rfl 2 rfl ?_
      obtain ⟨h0, h1, h⟩ := h
      refine z_iald dX12_composes_229 kt_161 (Nat.le_of_ble_eq_true rfl) h0 h1 ?_
      refine z_iadd dX12_composes_230 ?_
      refine z_putI (q := 15541) ff_12_77 (Or.inl rfl) rfl dX12_composes_231 kt_113 (Nat.le_of_ble_eq_true rfl) fl_X12_567 rfl ?_
      refine z_mm (fun μ_20 eμ_20 => ?_)
      replace h := h μ_20 eμ_20
      replace hs : StatR μ_20.2.2 := by rw [eμ_20]; exact hs
      refine z_rload_n dX12_composes_234 rfl 0 rfl ?_
      refine z_getR (q := 15540) ff_12_76 dX12_composes_235 kt_113 (Nat.le_of_ble_eq_true rfl) fl_X12_173 rfl (hs.1 _ _ sr_15540) ?_
      refine z_iload_n dX12_composes_238 rfl 2 rfl ?_
      refine z_rload_n dX12_composes_239 rfl 0 rfl ?_
      refine z_getR (q := 15538) ff_12_74 dX12_composes_240 kt_113 (Nat.le_of_ble_eq_true rfl) fl_X12_167 rfl (hs.1 _ _ sr_15538) ?_
      refine z_iload_n dX12_composes_243 rfl 2 rfl ?_
      obtain ⟨h0, h1, h⟩ := h
      refine z_zald dX12_composes_244 kt_160 (Nat.le_of_ble_eq_true rfl) h0 h1 ?_
      obtain ⟨h0, h1, h⟩ := h
      refine z_zast dX12_composes_245 kt_162 (Nat.le_of_ble_eq_true rfl) h0 h1 ?_
      refine z_mm (fun μ_21 eμ_21 => ?_)
      replace h := h μ_21 eμ_21
      replace hs : StatR μ_21.2.2 := by rw [eμ_21]; exact hs
      refine z_rload_n dX12_composes_246 rfl 0 rfl ?_
      refine z_getR (q := 15538) ff_12_74 dX12_composes_247 kt_113 (Nat.le_of_ble_eq_true rfl) fl_X12_167 rfl (hs.1 _ _ sr_15538) ?_
      refine z_iload_n dX12_composes_250 rfl 2 rfl ?_
      obtain ⟨h0, h1, h⟩ := h
      refine z_zald dX12_composes_251 kt_160 (Nat.le_of_ble_eq_true rfl) h0 h1 ?_
      refine z_ifeq_b (tgt := 258) dX12_composes_252 (by decide) h (fun h => ?_) (fun h => ?_)
      · refine z_iinc (j := 1) (lv' := [(2, vi (v2_3 + (-1))), (0, vr Γ 113), (3, vi v3_2)]) dX12_composes_255 rfl (Nat.le_of_ble_eq_true rfl) rfl ?_
        refine z_iinc (j := 2) (lv' := [(3, vi (v3_2 + 1)), (2, vi (v2_3 + (-1))), (0, vr Γ 113)]) dX12_composes_258 rfl (Nat.le_of_ble_eq_true rfl) rfl ?_
        refine z_goto (tgt := 213) dX12_composes_261 (by decide) ?_
        refine z_sub (lv' := [(0, vr Γ 113), (2, vi (v2_3 + (-1))), (3, vi (v3_2 + 1))]) [2, 1, 0] rfl ?_
        exact hR_213 (v2_3 + (-1)) (v3_2 + 1) μ_21 hs h
      · refine z_iinc (j := 2) (lv' := [(3, vi (v3_2 + 1)), (0, vr Γ 113), (2, vi v2_3)]) dX12_composes_258 rfl (Nat.le_of_ble_eq_true rfl) rfl ?_
        refine z_goto (tgt := 213) dX12_composes_261 (by decide) ?_
        refine z_sub (lv' := [(0, vr Γ 113), (2, vi v2_3), (3, vi (v3_2 + 1))]) [1, 2, 0] rfl ?_
        exact hR_213 v2_3 (v3_2 + 1) μ_21 hs h
theorem L_M_composes_279 {l : Launch} {Γ : Gam} {g : Nat} {μ_23 : Mem} {v2_5 : Int} {X_279_335 : Int → Prop} {k : Bool → Mem → Prop} (hs : StatR μ_23.2.2) (hX_279_335 : ∀ (u3 : Int), X_279_335 u3 → SW l Γ yX12_composes.cls cX12_composes Y_M_composes (pB k) g 175 0 0 μ_23 335 [(0, vr Γ 113), (2, vi v2_5), (3, vi u3)] []) (n9 : Nat) : ∀ (v3_3 : Int) (v4_2 : Int), l_M_composes_279 μ_23 v2_5 X_279_335 n9 v3_3 v4_2 → SW l Γ yX12_composes.cls cX12_composes Y_M_composes (pB k) g 175 0 0 μ_23 279 [(0, vr Γ 113), (2, vi v2_5), (3, vi v3_3), (4, vi v4_2)] [] := by
  induction n9 with
  | zero =>
    intro v3_3 v4_2 h
    exact h.elim
  | succ n9 hR_279 =>
    intro v3_3 v4_2 h
    rw [l_M_composes_279] at h
    refine z_iload dX12_composes_279 3 rfl ?_
    refine z_bipush dX12_composes_281 (by decide) ?_
    refine z_icmp_gt (tgt := 335) dX12_composes_283 (by decide) h (fun h => ?_) (fun h => ?_)
    · refine z_sub (lv' := [(0, vr Γ 113), (2, vi v2_5), (3, vi v3_3)]) [0, 1, 2] rfl ?_
      exact hX_279_335 v3_3 h
    · refine z_rload_n dX12_composes_286 rfl 0 rfl ?_
      refine z_getR (q := 15540) ff_12_76 dX12_composes_287 kt_113 (Nat.le_of_ble_eq_true rfl) fl_X12_173 rfl (hs.1 _ _ sr_15540) ?_
      refine z_iload dX12_composes_290 3 rfl ?_
      obtain ⟨h0, h1, h⟩ := h
      refine z_zald dX12_composes_292 kt_162 (Nat.le_of_ble_eq_true rfl) h0 h1 ?_
      refine z_ifne_b (tgt := 329) dX12_composes_293 (by decide) h (fun h => ?_) (fun h => ?_)
      · refine z_iinc (j := 3) (lv' := [(4, vi (v4_2 + 1)), (0, vr Γ 113), (2, vi v2_5), (3, vi v3_3)]) dX12_composes_329 rfl (Nat.le_of_ble_eq_true rfl) rfl ?_
        refine z_goto (tgt := 279) dX12_composes_332 (by decide) ?_
        refine z_sub (lv' := [(0, vr Γ 113), (2, vi v2_5), (3, vi v3_3), (4, vi (v4_2 + 1))]) [1, 2, 3, 0] rfl ?_
        exact hR_279 v3_3 (v4_2 + 1) h
      · refine z_rload_n dX12_composes_296 rfl 0 rfl ?_
        refine z_getR (q := 15539) ff_12_75 dX12_composes_297 kt_113 (Nat.le_of_ble_eq_true rfl) fl_X12_170 rfl (hs.1 _ _ sr_15539) ?_
        refine z_iload dX12_composes_300 3 rfl ?_
        obtain ⟨h0, h1, h⟩ := h
        refine z_iald dX12_composes_302 kt_161 (Nat.le_of_ble_eq_true rfl) h0 h1 ?_
        refine z_if_le (tgt := 329) dX12_composes_303 (by decide) h (fun h => ?_) (fun h => ?_)
        · refine z_iload_n dX12_composes_306 rfl 2 rfl ?_
          refine z_if_eq (tgt := 326) dX12_composes_307 (by decide) h (fun h => ?_) (fun h => ?_)
          · refine z_iload dX12_composes_326 3 rfl ?_
            refine z_istore_n (lv' := [(3, vi v4_2), (0, vr Γ 113), (2, vi v2_5), (4, vi v4_2)]) dX12_composes_328 rfl (Nat.le_of_ble_eq_true rfl) rfl ?_
            refine z_iinc (j := 3) (lv' := [(4, vi (v4_2 + 1)), (3, vi v4_2), (0, vr Γ 113), (2, vi v2_5)]) dX12_composes_329 rfl (Nat.le_of_ble_eq_true rfl) rfl ?_
            refine z_goto (tgt := 279) dX12_composes_332 (by decide) ?_
            refine z_sub (lv' := [(0, vr Γ 113), (2, vi v2_5), (3, vi v4_2), (4, vi (v4_2 + 1))]) [2, 3, 1, 0] rfl ?_
            exact hR_279 v4_2 (v4_2 + 1) h
          · refine z_rload_n dX12_composes_310 rfl 0 rfl ?_
            refine z_getR (q := 15539) ff_12_75 dX12_composes_311 kt_113 (Nat.le_of_ble_eq_true rfl) fl_X12_170 rfl (hs.1 _ _ sr_15539) ?_
            refine z_iload dX12_composes_314 3 rfl ?_
            obtain ⟨h0, h1, h⟩ := h
            refine z_iald dX12_composes_316 kt_161 (Nat.le_of_ble_eq_true rfl) h0 h1 ?_
            refine z_rload_n dX12_composes_317 rfl 0 rfl ?_
            refine z_getR (q := 15539) ff_12_75 dX12_composes_318 kt_113 (Nat.le_of_ble_eq_true rfl) fl_X12_170 rfl (hs.1 _ _ sr_15539) ?_
            refine z_iload_n dX12_composes_321 rfl 2 rfl ?_
            obtain ⟨h0, h1, h⟩ := h
            refine z_iald dX12_composes_322 kt_161 (Nat.le_of_ble_eq_true rfl) h0 h1 ?_
            refine z_icmp_le (tgt := 329) dX12_composes_323 (by decide) h (fun h => ?_) (fun h => ?_)
            · refine z_iload dX12_composes_326 3 rfl ?_
              refine z_istore_n (lv' := [(3, vi v4_2), (0, vr Γ 113), (2, vi v2_5), (4, vi v4_2)]) dX12_composes_328 rfl (Nat.le_of_ble_eq_true rfl) rfl ?_
              refine z_iinc (j := 3) (lv' := [(4, vi (v4_2 + 1)), (3, vi v4_2), (0, vr Γ 113), (2, vi v2_5)]) dX12_composes_329 rfl (Nat.le_of_ble_eq_true rfl) rfl ?_
              refine z_goto (tgt := 279) dX12_composes_332 (by decide) ?_
              refine z_sub (lv' := [(0, vr Γ 113), (2, vi v2_5), (3, vi v4_2), (4, vi (v4_2 + 1))]) [2, 3, 1, 0] rfl ?_
              exact hR_279 v4_2 (v4_2 + 1) h
            · refine z_iinc (j := 3) (lv' := [(4, vi (v4_2 + 1)), (0, vr Γ 113), (2, vi v2_5), (3, vi v3_3)]) dX12_composes_329 rfl (Nat.le_of_ble_eq_true rfl) rfl ?_
              refine z_goto (tgt := 279) dX12_composes_332 (by decide) ?_
              refine z_sub (lv' := [(0, vr Γ 113), (2, vi v2_5), (3, vi v3_3), (4, vi (v4_2 + 1))]) [1, 2, 3, 0] rfl ?_
              exact hR_279 v3_3 (v4_2 + 1) h
        · refine z_iinc (j := 3) (lv' := [(4, vi (v4_2 + 1)), (0, vr Γ 113), (2, vi v2_5), (3, vi v3_3)]) dX12_composes_329 rfl (Nat.le_of_ble_eq_true rfl) rfl ?_
          refine z_goto (tgt := 279) dX12_composes_332 (by decide) ?_
          refine z_sub (lv' := [(0, vr Γ 113), (2, vi v2_5), (3, vi v3_3), (4, vi (v4_2 + 1))]) [1, 2, 3, 0] rfl ?_
          exact hR_279 v3_3 (v4_2 + 1) h
theorem L_M_composes_270 {l : Launch} {Γ : Gam} {g : Nat} {X_270_355 : Mem → Prop} {X_270_339 : Mem → Prop} {k : Bool → Mem → Prop} (hX_270_355 : ∀ (ν : Mem), StatR ν.2.2 → X_270_355 ν → SW l Γ yX12_composes.cls cX12_composes Y_M_composes (pB k) g 175 0 0 ν 355 [(0, vr Γ 113)] []) (hX_270_339 : ∀ (ν : Mem), StatR ν.2.2 → X_270_339 ν → SW l Γ yX12_composes.cls cX12_composes Y_M_composes (pB k) g 175 0 0 ν 339 [(0, vr Γ 113)] []) (n9 : Nat) : ∀ (v2_5 : Int) (μ_23 : Mem), StatR μ_23.2.2 → l_M_composes_270 X_270_355 X_270_339 n9 v2_5 μ_23 → SW l Γ yX12_composes.cls cX12_composes Y_M_composes (pB k) g 175 0 0 μ_23 270 [(0, vr Γ 113), (2, vi v2_5)] [] := by
  induction n9 with
  | zero =>
    intro v2_5 μ_23 hs h
    exact h.elim
  | succ n9 hR_270 =>
    intro v2_5 μ_23 hs h
    rw [l_M_composes_270] at h
    refine z_iload_n dX12_composes_270 rfl 1 rfl ?_
    refine z_if_le (tgt := 355) dX12_composes_271 (by decide) h (fun h => ?_) (fun h => ?_)
    · refine z_iconst dX12_composes_274 ?_
      refine z_istore_n (lv' := [(3, vi 0), (0, vr Γ 113), (2, vi v2_5)]) dX12_composes_275 rfl (Nat.le_of_ble_eq_true rfl) rfl ?_
      refine z_iconst dX12_composes_276 ?_
      refine z_istore (lv' := [(4, vi 1), (3, vi 0), (0, vr Γ 113), (2, vi v2_5)]) dX12_composes_277 (Nat.le_of_ble_eq_true rfl) rfl ?_
      obtain ⟨m279, h⟩ := h
      refine z_sub (lv' := [(0, vr Γ 113), (2, vi v2_5), (3, vi 0), (4, vi 1)]) [2, 3, 1, 0] rfl ?_
      refine L_M_composes_279 hs (fun v3_4 h => ?_) m279 0 1 h
      refine z_iload_n dX12_composes_335 rfl 2 rfl ?_
      refine z_if_ne (tgt := 342) dX12_composes_336 (by decide) h (fun h => ?_) (fun h => ?_)
      · refine z_sub (lv' := [(0, vr Γ 113)]) [0] rfl ?_
        exact hX_270_339 μ_23 hs h
      · refine z_rload_n dX12_composes_342 rfl 0 rfl ?_
        refine z_getR (q := 15540) ff_12_76 dX12_composes_343 kt_113 (Nat.le_of_ble_eq_true rfl) fl_X12_173 rfl (hs.1 _ _ sr_15540) ?_
        refine z_iload_n dX12_composes_346 rfl 2 rfl ?_
        refine z_iconst dX12_composes_347 ?_
        obtain ⟨h0, h1, h⟩ := h
        refine z_zast (b := true) dX12_composes_348 kt_162 (Nat.le_of_ble_eq_true rfl) h0 h1 ?_
        refine z_mm (fun μ_24 eμ_24 => ?_)
        replace h := h μ_24 eμ_24
        replace hs : StatR μ_24.2.2 := by rw [eμ_24]; exact hs
        refine z_iinc (j := 1) (lv' := [(2, vi (v2_5 + (-1))), (0, vr Γ 113), (3, vi v3_4)]) dX12_composes_349 rfl (Nat.le_of_ble_eq_true rfl) rfl ?_
        refine z_goto (tgt := 270) dX12_composes_352 (by decide) ?_
        refine z_sub (lv' := [(0, vr Γ 113), (2, vi (v2_5 + (-1)))]) [1, 0] rfl ?_
        exact hR_270 (v2_5 + (-1)) μ_24 hs h
    · refine z_sub (lv' := [(0, vr Γ 113)]) [0] rfl ?_
      exact hX_270_355 μ_23 hs h
theorem L_M_composes_357 {l : Launch} {Γ : Gam} {g : Nat} {X_357_393 : Mem → Prop} {k : Bool → Mem → Prop} (hX_357_393 : ∀ (ν : Mem), StatR ν.2.2 → X_357_393 ν → SW l Γ yX12_composes.cls cX12_composes Y_M_composes (pB k) g 175 0 0 ν 393 [] []) (n9 : Nat) : ∀ (v3_5 : Int) (μ_27 : Mem), StatR μ_27.2.2 → l_M_composes_357 X_357_393 n9 v3_5 μ_27 → SW l Γ yX12_composes.cls cX12_composes Y_M_composes (pB k) g 175 0 0 μ_27 357 [(0, vr Γ 113), (3, vi v3_5)] [] := by
  induction n9 with
  | zero =>
    intro v3_5 μ_27 hs h
    exact h.elim
  | succ n9 hR_357 =>
    intro v3_5 μ_27 hs h
    rw [l_M_composes_357] at h
    refine z_iload_n dX12_composes_357 rfl 1 rfl ?_
    refine z_bipush dX12_composes_358 (by decide) ?_
    refine z_icmp_gt (tgt := 393) dX12_composes_360 (by decide) h (fun h => ?_) (fun h => ?_)
    · refine z_sub (lv' := []) [] rfl ?_
      exact hX_357_393 μ_27 hs h
    · refine z_rload_n dX12_composes_363 rfl 0 rfl ?_
      refine z_getR (q := 15540) ff_12_76 dX12_composes_364 kt_113 (Nat.le_of_ble_eq_true rfl) fl_X12_173 rfl (hs.1 _ _ sr_15540) ?_
      refine z_iload_n dX12_composes_367 rfl 1 rfl ?_
      obtain ⟨h0, h1, h⟩ := h
      refine z_zald dX12_composes_368 kt_162 (Nat.le_of_ble_eq_true rfl) h0 h1 ?_
      refine z_ifeq_b (tgt := 387) dX12_composes_369 (by decide) h (fun h => ?_) (fun h => ?_)
      · refine z_rload_n dX12_composes_372 rfl 0 rfl ?_
        refine z_dup dX12_composes_373 rfl ?_
        refine z_getI (q := 15541) ff_12_77 dX12_composes_374 kt_113 (Nat.le_of_ble_eq_true rfl) fl_X12_567 rfl ?_
        refine z_rload_n dX12_composes_377 rfl 0 rfl ?_
        refine z_getR (q := 15539) ff_12_75 dX12_composes_378 kt_113 (Nat.le_of_ble_eq_true rfl) fl_X12_170 rfl (hs.1 _ _ sr_15539) ?_
        refine z_iload_n dX12_composes_381 rfl 1 rfl ?_
        obtain ⟨h0, h1, h⟩ := h
        refine z_iald dX12_composes_382 kt_161 (Nat.le_of_ble_eq_true rfl) h0 h1 ?_
        refine z_isub dX12_composes_383 ?_
        refine z_putI (q := 15541) ff_12_77 (Or.inl rfl) rfl dX12_composes_384 kt_113 (Nat.le_of_ble_eq_true rfl) fl_X12_567 rfl ?_
        refine z_mm (fun μ_28 eμ_28 => ?_)
        replace h := h μ_28 eμ_28
        replace hs : StatR μ_28.2.2 := by rw [eμ_28]; exact hs
        refine z_iinc (j := 1) (lv' := [(3, vi (v3_5 + 1)), (0, vr Γ 113)]) dX12_composes_387 rfl (Nat.le_of_ble_eq_true rfl) rfl ?_
        refine z_goto (tgt := 357) dX12_composes_390 (by decide) ?_
        refine z_sub (lv' := [(0, vr Γ 113), (3, vi (v3_5 + 1))]) [1, 0] rfl ?_
        exact hR_357 (v3_5 + 1) μ_28 hs h
      · refine z_iinc (j := 1) (lv' := [(3, vi (v3_5 + 1)), (0, vr Γ 113)]) dX12_composes_387 rfl (Nat.le_of_ble_eq_true rfl) rfl ?_
        refine z_goto (tgt := 357) dX12_composes_390 (by decide) ?_
        refine z_sub (lv' := [(0, vr Γ 113), (3, vi (v3_5 + 1))]) [1, 0] rfl ?_
        exact hR_357 (v3_5 + 1) μ_27 hs h
theorem B_M_composes_355 {l : Launch} {Γ : Gam} {g : Nat} {k : Bool → Mem → Prop} {μ_26 : Mem} (hs : StatR μ_26.2.2) (h : b_M_composes_355 k μ_26) : SW l Γ yX12_composes.cls cX12_composes Y_M_composes (pB k) g 175 0 0 μ_26 355 [(0, vr Γ 113)] [] := by
  unfold b_M_composes_355 at h
  refine z_iconst dX12_composes_355 ?_
  refine z_istore_n (lv' := [(3, vi 1), (0, vr Γ 113)]) dX12_composes_356 rfl (Nat.le_of_ble_eq_true rfl) rfl ?_
  obtain ⟨m357, h⟩ := h
  refine z_sub (lv' := [(0, vr Γ 113), (3, vi 1)]) [1, 0] rfl ?_
  refine L_M_composes_357 (fun μ_29 hs h => ?_) m357 1 μ_26 hs h
  refine z_iconst dX12_composes_393 ?_
  exact z_zret (b := true) rfl dX12_composes_394 rfl rfl rfl ⟨_, rfl, hs, h⟩
theorem i_M_composes {l : Launch} {Γ : Gam} {g : Nat} {a1 : Int} {μ : Mem} {k : Bool → Mem → Prop} (hs : StatR μ.2.2) (h : f_M_composes a1 μ k) : CT l Γ yX12_composes cX12_composes 6 (some .boolean) 2 44 0 0 [vr Γ 113, vi a1] g 175 μ (pB k) := by
  refine SW.ct (by decide) (Nat.le_of_ble_eq_true rfl) ?_
  refine z_sub (lv' := [(0, vr Γ 113), (1, vi a1)]) [0, 1] rfl ?_
  show SW l Γ yX12_composes.cls cX12_composes Y_M_composes (pB k) g 175 0 0 μ 0 [(0, vr Γ 113), (1, vi a1)] []
  unfold f_M_composes at h
  refine z_iconst dX12_composes_0 ?_
  refine z_istore_n (lv' := [(2, vi 1), (0, vr Γ 113), (1, vi a1)]) dX12_composes_1 rfl (Nat.le_of_ble_eq_true rfl) rfl ?_
  obtain ⟨m2, h⟩ := h
  refine z_sub (lv' := [(0, vr Γ 113), (1, vi a1), (2, vi 1)]) [1, 2, 0] rfl ?_
  refine L_M_composes_2 (fun μ_6 hs h => ?_) m2 1 μ hs h
  refine z_iconst dX12_composes_42 ?_
  refine z_istore_n (lv' := [(2, vi 0), (0, vr Γ 113), (1, vi a1)]) dX12_composes_43 rfl (Nat.le_of_ble_eq_true rfl) rfl ?_
  obtain ⟨m44, h⟩ := h
  refine z_sub (lv' := [(0, vr Γ 113), (1, vi a1), (2, vi 0)]) [1, 2, 0] rfl ?_
  refine L_M_composes_44 (fun μ_16 hs h => ?_) m44 0 μ_6 hs h
  refine z_rload_n dX12_composes_201 rfl 0 rfl ?_
  refine z_VI (i_M_length  hs h) vk_X12_length kt_113 (Nat.le_of_ble_eq_true rfl) rfl ml_X12_566 ⟨Nat.le_of_ble_eq_true rfl, Nat.le_of_ble_eq_true rfl⟩ ⟨Nat.zero_le _, Nat.zero_le _⟩ rfl rfl (Nat.le_of_ble_eq_true rfl) dX12_composes_202 (fun r202 μ_17 hs h => ?_)
  refine z_istore_n (lv' := [(2, vi r202), (0, vr Γ 113)]) dX12_composes_205 rfl (Nat.le_of_ble_eq_true rfl) rfl ?_
  refine z_rload_n dX12_composes_206 rfl 1 rfl ?_
  refine z_iconst dX12_composes_207 ?_
  refine z_putI (q := 15541) ff_12_77 (Or.inl rfl) rfl dX12_composes_208 kt_113 (Nat.le_of_ble_eq_true rfl) fl_X12_567 rfl ?_
  refine z_mm (fun μ_18 eμ_18 => ?_)
  replace h := h μ_18 eμ_18
  replace hs : StatR μ_18.2.2 := by rw [eμ_18]; exact hs
  refine z_iconst dX12_composes_211 ?_
  refine z_istore_n (lv' := [(3, vi 1), (2, vi r202), (0, vr Γ 113)]) dX12_composes_212 rfl (Nat.le_of_ble_eq_true rfl) rfl ?_
  obtain ⟨m213, h⟩ := h
  refine z_sub (lv' := [(0, vr Γ 113), (2, vi r202), (3, vi 1)]) [2, 1, 0] rfl ?_
  refine L_M_composes_213 (fun v2_4 μ_22 hs h => ?_) m213 r202 1 μ_18 hs h
  refine z_iload_n dX12_composes_264 rfl 1 rfl ?_
  refine z_if_ge (tgt := 270) dX12_composes_265 (by decide) h (fun h => ?_) (fun h => ?_)
  · refine z_iconst dX12_composes_268 ?_
    exact z_zret (b := false) rfl dX12_composes_269 rfl rfl rfl ⟨_, rfl, hs, h⟩
  · obtain ⟨m270, h⟩ := h
    refine z_sub (lv' := [(0, vr Γ 113), (2, vi v2_4)]) [0, 1] rfl ?_
    refine L_M_composes_270 (fun μ_25 hs h => ?_) (fun μ_30 hs h => ?_) m270 v2_4 μ_22 hs h
    · refine z_sub (lv' := [(0, vr Γ 113)]) [0] rfl ?_
      exact B_M_composes_355 hs h
    · refine z_goto (tgt := 355) dX12_composes_339 (by decide) ?_
      refine z_sub (lv' := [(0, vr Γ 113)]) [0] rfl ?_
      exact B_M_composes_355 hs h
abbrev Y_M_lost : Yt := (2, (some .int), yX12_lost.name, { frames := 3, cells := 0, slots := 0, locals := 69 }, 175, 0, 0)
def f_M_lost (a1 : Int) (μ : Mem) (k : Int → Mem → Prop) : Prop := ∀ μ_1 : Mem, μ_1 = sI μ 15464 0 0 → f_M_areOpen a1 2 8 μ_1 (fun r10 μ_2 => if r10 = true then (f_M_composes a1 μ_2 (fun r18 μ_3 => ∀ x32 : Int, x32 = (if r18 = true then (rI μ_3 15541 0) else (-1)) → k x32 μ_3)) else (k (-1) μ_2))
theorem i_M_lost {l : Launch} {Γ : Gam} {g : Nat} {a1 : Int} {μ : Mem} {k : Int → Mem → Prop} (hs : StatR μ.2.2) (h : f_M_lost a1 μ k) : CT l Γ yX12_lost cX12_lost 2 (some .int) 3 69 0 0 [vr Γ 113, vi a1] g 175 μ (pI k) := by
  refine SW.ct (by decide) (Nat.le_of_ble_eq_true rfl) ?_
  refine z_sub (lv' := [(0, vr Γ 113), (1, vi a1)]) [0, 1] rfl ?_
  show SW l Γ yX12_lost.cls cX12_lost Y_M_lost (pI k) g 175 0 0 μ 0 [(0, vr Γ 113), (1, vi a1)] []
  unfold f_M_lost at h
  refine z_rload_n dX12_lost_0 rfl 0 rfl ?_
  refine z_iconst dX12_lost_1 ?_
  refine z_putI (q := 15464) ff_12_0 (Or.inl rfl) rfl dX12_lost_2 kt_113 (Nat.le_of_ble_eq_true rfl) fl_X12_1 rfl ?_
  refine z_mm (fun μ_1 eμ_1 => ?_)
  replace h := h μ_1 eμ_1
  replace hs : StatR μ_1.2.2 := by rw [eμ_1]; exact hs
  refine z_rload_n dX12_lost_5 rfl 0 rfl ?_
  refine z_iload_n dX12_lost_6 rfl 1 rfl ?_
  refine z_iconst dX12_lost_7 ?_
  refine z_bipush dX12_lost_8 (by decide) ?_
  refine z_VB (i_M_areOpen  hs h) vk_X12_areOpen kt_113 (Nat.le_of_ble_eq_true rfl) rfl ml_X12_570 ⟨Nat.le_of_ble_eq_true rfl, Nat.le_of_ble_eq_true rfl⟩ ⟨Nat.zero_le _, Nat.zero_le _⟩ rfl rfl (Nat.le_of_ble_eq_true rfl) dX12_lost_10 (fun r10 μ_2 hs h => ?_)
  refine z_ifeq_b (tgt := 31) dX12_lost_13 (by decide) h (fun h => ?_) (fun h => ?_)
  · refine z_rload_n dX12_lost_16 rfl 0 rfl ?_
    refine z_iload_n dX12_lost_17 rfl 1 rfl ?_
    refine z_VB (i_M_composes  hs h) vk_X12_composes kt_113 (Nat.le_of_ble_eq_true rfl) rfl ml_X12_573 ⟨Nat.le_of_ble_eq_true rfl, Nat.le_of_ble_eq_true rfl⟩ ⟨Nat.zero_le _, Nat.zero_le _⟩ rfl rfl (Nat.le_of_ble_eq_true rfl) dX12_lost_18 (fun r18 μ_3 hs h => ?_)
    refine z_phi 32 [] (fun V9 hv J9 => ?_) h (fun x32 h => ?_)
    · refine z_ifeq_b (tgt := 31) dX12_lost_21 (by decide) (eq_ite hv) (fun hv => ?_) (fun hv => ?_)
      · refine z_rload_n dX12_lost_24 rfl 0 rfl ?_
        refine z_getI (q := 15541) ff_12_77 dX12_lost_25 kt_113 (Nat.le_of_ble_eq_true rfl) fl_X12_567 rfl ?_
        refine z_goto (tgt := 32) dX12_lost_28 (by decide) ?_
        exact J9 _ hv.symm
      · refine z_iconst dX12_lost_31 ?_
        exact J9 _ hv.symm
    · exact z_iret rfl dX12_lost_32 rfl rfl rfl ⟨_, rfl, hs, h⟩
  · refine z_iconst dX12_lost_31 ?_
    exact z_iret rfl dX12_lost_32 rfl rfl rfl ⟨_, rfl, hs, h⟩
abbrev Y_M_composite : Yt := (4, (some .int), yX12_composite.name, { frames := 3, cells := 0, slots := 0, locals := 69 }, 175, 0, 0)
def l_M_composite_42 (a1 : Int) (X_42_116 : Mem → Prop) : Nat → Int → Mem → Prop
  | 0, _, _ => False
  | fu42 + 1, v2, μ_5 => if w 60 < w v2 then (X_42_116 μ_5) else (0 ≤ w v2 ∧ w v2 < ((61 : Nat) : Int) ∧ if (rB μ_5 162 (w v2)) = true then (0 ≤ w v2 ∧ w v2 < ((61 : Nat) : Int) ∧ 0 ≤ w (rI μ_5 15533 0) ∧ w (rI μ_5 15533 0) < ((12 : Nat) : Int) ∧ ∀ μ_6 : Mem, μ_6 = sI μ_5 155 (w (rI μ_5 15533 0)) (rI μ_5 159 (w v2)) → 0 ≤ w v2 ∧ w v2 < ((61 : Nat) : Int) ∧ 0 ≤ w (rI μ_6 15533 0) ∧ w (rI μ_6 15533 0) < ((12 : Nat) : Int) ∧ ∀ μ_7 : Mem, μ_7 = sB μ_6 156 (w (rI μ_6 15533 0)) (rB μ_6 160 (w v2)) → 0 ≤ w (rI μ_7 15533 0) ∧ w (rI μ_7 15533 0) < ((12 : Nat) : Int) ∧ ∀ μ_8 : Mem, μ_8 = sI μ_7 157 (w (rI μ_7 15533 0)) (-1) → ∀ μ_9 : Mem, μ_9 = sI μ_8 15533 0 ((rI μ_8 15533 0) + 1) → (l_M_composite_42 a1 X_42_116 fu42) (v2 + 1) μ_9) else ((l_M_composite_42 a1 X_42_116 fu42) (v2 + 1) μ_5))
def l_M_composite_125 (a1 : Int) (X_125_154 : Int → Mem → Prop) : Nat → Int → Int → Mem → Prop
  | 0, _, _, _ => False
  | fu125 + 1, v2_1, v3_1, μ_11 => if w v3_1 < 0 then (X_125_154 v2_1 μ_11) else (if w (w_iand (w_ishr a1 v3_1) 1) = 0 then ((l_M_composite_125 a1 X_125_154 fu125) v2_1 (v3_1 + (-1)) μ_11) else (f_M_settles v3_1 4 μ_11 (fun μ_12 => (l_M_composite_125 a1 X_125_154 fu125) v3_1 (v3_1 + (-1)) μ_12)))
def f_M_composite (a1 : Int) (μ : Mem) (k : Int → Mem → Prop) : Prop := ∀ μ_1 : Mem, μ_1 = sI μ 15464 0 0 → if w (rI μ_1 15472 0) = w 24 then (k (-1) μ_1) else (f_M_areOpen a1 2 8 μ_1 (fun r19 μ_2 => if r19 = true then (f_M_composes a1 μ_2 (fun r27 μ_3 => if r27 = true then (∀ μ_4 : Mem, μ_4 = sI μ_3 15533 0 0 → ∃ m42 : Nat, l_M_composite_42 a1 (fun (μ_10 : Mem) => ∀ v3 : Int, v3 = (rI μ_10 15472 0) - 1 → ∃ m125 : Nat, l_M_composite_125 a1 (fun (v2_2 : Int) (μ_13 : Mem) => 0 ≤ w v2_2 ∧ w v2_2 < ((24 : Nat) : Int) ∧ f_M_comes (rI μ_13 117 (w v2_2)) μ_13 (fun r161 μ_14 => k r161 μ_14)) m125 (-1) v3 μ_10) m42 1 μ_4) else (k (-1) μ_3))) else (k (-1) μ_2)))
theorem L_M_composite_42 {l : Launch} {Γ : Gam} {g : Nat} {a1 : Int} {X_42_116 : Mem → Prop} {k : Int → Mem → Prop} (hX_42_116 : ∀ (ν : Mem), StatR ν.2.2 → X_42_116 ν → SW l Γ yX12_composite.cls cX12_composite Y_M_composite (pI k) g 175 0 0 ν 116 [(0, vr Γ 113), (1, vi a1)] []) (n9 : Nat) : ∀ (v2 : Int) (μ_5 : Mem), StatR μ_5.2.2 → l_M_composite_42 a1 X_42_116 n9 v2 μ_5 → SW l Γ yX12_composite.cls cX12_composite Y_M_composite (pI k) g 175 0 0 μ_5 42 [(0, vr Γ 113), (1, vi a1), (2, vi v2)] [] := by
  induction n9 with
  | zero =>
    intro v2 μ_5 hs h
    exact h.elim
  | succ n9 hR_42 =>
    intro v2 μ_5 hs h
    rw [l_M_composite_42] at h
    refine z_iload_n dX12_composite_42 rfl 2 rfl ?_
    refine z_bipush dX12_composite_43 (by decide) ?_
    refine z_icmp_gt (tgt := 116) dX12_composite_45 (by decide) h (fun h => ?_) (fun h => ?_)
    · refine z_sub (lv' := [(0, vr Γ 113), (1, vi a1)]) [0, 1] rfl ?_
      exact hX_42_116 μ_5 hs h
    · refine z_rload_n dX12_composite_48 rfl 0 rfl ?_
      refine z_getR (q := 15540) ff_12_76 dX12_composite_49 kt_113 (Nat.le_of_ble_eq_true rfl) fl_X12_173 rfl (hs.1 _ _ sr_15540) ?_
      refine z_iload_n dX12_composite_52 rfl 2 rfl ?_
      obtain ⟨h0, h1, h⟩ := h
      refine z_zald dX12_composite_53 kt_162 (Nat.le_of_ble_eq_true rfl) h0 h1 ?_
      refine z_ifne_b (tgt := 60) dX12_composite_54 (by decide) h (fun h => ?_) (fun h => ?_)
      · refine z_rload_n dX12_composite_60 rfl 0 rfl ?_
        refine z_getR (q := 15530) ff_12_66 dX12_composite_61 kt_113 (Nat.le_of_ble_eq_true rfl) fl_X12_152 rfl (hs.1 _ _ sr_15530) ?_
        refine z_rload_n dX12_composite_64 rfl 0 rfl ?_
        refine z_getI (q := 15533) ff_12_69 dX12_composite_65 kt_113 (Nat.le_of_ble_eq_true rfl) fl_X12_483 rfl ?_
        refine z_rload_n dX12_composite_68 rfl 0 rfl ?_
        refine z_getR (q := 15537) ff_12_73 dX12_composite_69 kt_113 (Nat.le_of_ble_eq_true rfl) fl_X12_164 rfl (hs.1 _ _ sr_15537) ?_
        refine z_iload_n dX12_composite_72 rfl 2 rfl ?_
        obtain ⟨h0, h1, h⟩ := h
        refine z_iald dX12_composite_73 kt_159 (Nat.le_of_ble_eq_true rfl) h0 h1 ?_
        obtain ⟨h0, h1, h⟩ := h
        refine z_iast dX12_composite_74 kt_155 (Nat.le_of_ble_eq_true rfl) h0 h1 ?_
        refine z_mm (fun μ_6 eμ_6 => ?_)
        replace h := h μ_6 eμ_6
        replace hs : StatR μ_6.2.2 := by rw [eμ_6]; exact hs
        refine z_rload_n dX12_composite_75 rfl 0 rfl ?_
        refine z_getR (q := 15531) ff_12_67 dX12_composite_76 kt_113 (Nat.le_of_ble_eq_true rfl) fl_X12_155 rfl (hs.1 _ _ sr_15531) ?_
        refine z_rload_n dX12_composite_79 rfl 0 rfl ?_
        refine z_getI (q := 15533) ff_12_69 dX12_composite_80 kt_113 (Nat.le_of_ble_eq_true rfl) fl_X12_483 rfl ?_
        refine z_rload_n dX12_composite_83 rfl 0 rfl ?_
        refine z_getR (q := 15538) ff_12_74 dX12_composite_84 kt_113 (Nat.le_of_ble_eq_true rfl) fl_X12_167 rfl (hs.1 _ _ sr_15538) ?_
        refine z_iload_n dX12_composite_87 rfl 2 rfl ?_
        obtain ⟨h0, h1, h⟩ := h
        refine z_zald dX12_composite_88 kt_160 (Nat.le_of_ble_eq_true rfl) h0 h1 ?_
        obtain ⟨h0, h1, h⟩ := h
        refine z_zast dX12_composite_89 kt_156 (Nat.le_of_ble_eq_true rfl) h0 h1 ?_
        refine z_mm (fun μ_7 eμ_7 => ?_)
        replace h := h μ_7 eμ_7
        replace hs : StatR μ_7.2.2 := by rw [eμ_7]; exact hs
        refine z_rload_n dX12_composite_90 rfl 0 rfl ?_
        refine z_getR (q := 15532) ff_12_68 dX12_composite_91 kt_113 (Nat.le_of_ble_eq_true rfl) fl_X12_158 rfl (hs.1 _ _ sr_15532) ?_
        refine z_rload_n dX12_composite_94 rfl 0 rfl ?_
        refine z_getI (q := 15533) ff_12_69 dX12_composite_95 kt_113 (Nat.le_of_ble_eq_true rfl) fl_X12_483 rfl ?_
        refine z_iconst dX12_composite_98 ?_
        obtain ⟨h0, h1, h⟩ := h
        refine z_iast dX12_composite_99 kt_157 (Nat.le_of_ble_eq_true rfl) h0 h1 ?_
        refine z_mm (fun μ_8 eμ_8 => ?_)
        replace h := h μ_8 eμ_8
        replace hs : StatR μ_8.2.2 := by rw [eμ_8]; exact hs
        refine z_rload_n dX12_composite_100 rfl 0 rfl ?_
        refine z_dup dX12_composite_101 rfl ?_
        refine z_getI (q := 15533) ff_12_69 dX12_composite_102 kt_113 (Nat.le_of_ble_eq_true rfl) fl_X12_483 rfl ?_
        refine z_iconst dX12_composite_105 ?_
        refine z_iadd dX12_composite_106 ?_
        refine z_putI (q := 15533) ff_12_69 (Or.inl rfl) rfl dX12_composite_107 kt_113 (Nat.le_of_ble_eq_true rfl) fl_X12_483 rfl ?_
        refine z_mm (fun μ_9 eμ_9 => ?_)
        replace h := h μ_9 eμ_9
        replace hs : StatR μ_9.2.2 := by rw [eμ_9]; exact hs
        refine z_iinc (j := 2) (lv' := [(2, vi (v2 + 1)), (0, vr Γ 113), (1, vi a1)]) dX12_composite_110 rfl (Nat.le_of_ble_eq_true rfl) rfl ?_
        refine z_goto (tgt := 42) dX12_composite_113 (by decide) ?_
        refine z_sub (lv' := [(0, vr Γ 113), (1, vi a1), (2, vi (v2 + 1))]) [1, 2, 0] rfl ?_
        exact hR_42 (v2 + 1) μ_9 hs h
      · refine z_goto (tgt := 110) dX12_composite_57 (by decide) ?_
        refine z_iinc (j := 2) (lv' := [(2, vi (v2 + 1)), (0, vr Γ 113), (1, vi a1)]) dX12_composite_110 rfl (Nat.le_of_ble_eq_true rfl) rfl ?_
        refine z_goto (tgt := 42) dX12_composite_113 (by decide) ?_
        refine z_sub (lv' := [(0, vr Γ 113), (1, vi a1), (2, vi (v2 + 1))]) [1, 2, 0] rfl ?_
        exact hR_42 (v2 + 1) μ_5 hs h
theorem L_M_composite_125 {l : Launch} {Γ : Gam} {g : Nat} {a1 : Int} {X_125_154 : Int → Mem → Prop} {k : Int → Mem → Prop} (hX_125_154 : ∀ (u2 : Int) (ν : Mem), StatR ν.2.2 → X_125_154 u2 ν → SW l Γ yX12_composite.cls cX12_composite Y_M_composite (pI k) g 175 0 0 ν 154 [(0, vr Γ 113), (2, vi u2)] []) (n9 : Nat) : ∀ (v2_1 : Int) (v3_1 : Int) (μ_11 : Mem), StatR μ_11.2.2 → l_M_composite_125 a1 X_125_154 n9 v2_1 v3_1 μ_11 → SW l Γ yX12_composite.cls cX12_composite Y_M_composite (pI k) g 175 0 0 μ_11 125 [(0, vr Γ 113), (1, vi a1), (2, vi v2_1), (3, vi v3_1)] [] := by
  induction n9 with
  | zero =>
    intro v2_1 v3_1 μ_11 hs h
    exact h.elim
  | succ n9 hR_125 =>
    intro v2_1 v3_1 μ_11 hs h
    rw [l_M_composite_125] at h
    refine z_iload_n dX12_composite_125 rfl 3 rfl ?_
    refine z_if_lt (tgt := 154) dX12_composite_126 (by decide) h (fun h => ?_) (fun h => ?_)
    · refine z_sub (lv' := [(0, vr Γ 113), (2, vi v2_1)]) [0, 2] rfl ?_
      exact hX_125_154 v2_1 μ_11 hs h
    · refine z_iload_n dX12_composite_129 rfl 1 rfl ?_
      refine z_iload_n dX12_composite_130 rfl 3 rfl ?_
      refine z_ishr dX12_composite_131 ?_
      refine z_iconst dX12_composite_132 ?_
      refine z_iand dX12_composite_133 ?_
      refine z_if_ne (tgt := 140) dX12_composite_134 (by decide) h (fun h => ?_) (fun h => ?_)
      · refine z_goto (tgt := 148) dX12_composite_137 (by decide) ?_
        refine z_iinc (j := 3) (lv' := [(3, vi (v3_1 + (-1))), (0, vr Γ 113), (1, vi a1), (2, vi v2_1)]) dX12_composite_148 rfl (Nat.le_of_ble_eq_true rfl) rfl ?_
        refine z_goto (tgt := 125) dX12_composite_151 (by decide) ?_
        refine z_sub (lv' := [(0, vr Γ 113), (1, vi a1), (2, vi v2_1), (3, vi (v3_1 + (-1)))]) [1, 2, 3, 0] rfl ?_
        exact hR_125 v2_1 (v3_1 + (-1)) μ_11 hs h
      · refine z_iload_n dX12_composite_140 rfl 3 rfl ?_
        refine z_istore_n (lv' := [(2, vi v3_1), (0, vr Γ 113), (1, vi a1), (3, vi v3_1)]) dX12_composite_141 rfl (Nat.le_of_ble_eq_true rfl) rfl ?_
        refine z_rload_n dX12_composite_142 rfl 1 rfl ?_
        refine z_iload_n dX12_composite_143 rfl 3 rfl ?_
        refine z_iconst dX12_composite_144 ?_
        refine z_VU (i_M_settles  hs h) vk_X12_settles kt_113 (Nat.le_of_ble_eq_true rfl) rfl ml_X12_534 ⟨Nat.le_of_ble_eq_true rfl, Nat.le_of_ble_eq_true rfl⟩ ⟨Nat.zero_le _, Nat.zero_le _⟩ rfl rfl (Nat.le_of_ble_eq_true rfl) dX12_composite_145 (fun μ_12 hs h => ?_)
        refine z_iinc (j := 3) (lv' := [(3, vi (v3_1 + (-1))), (2, vi v3_1), (0, vr Γ 113), (1, vi a1)]) dX12_composite_148 rfl (Nat.le_of_ble_eq_true rfl) rfl ?_
        refine z_goto (tgt := 125) dX12_composite_151 (by decide) ?_
        refine z_sub (lv' := [(0, vr Γ 113), (1, vi a1), (2, vi v3_1), (3, vi (v3_1 + (-1)))]) [2, 3, 1, 0] rfl ?_
        exact hR_125 v3_1 (v3_1 + (-1)) μ_12 hs h
theorem i_M_composite {l : Launch} {Γ : Gam} {g : Nat} {a1 : Int} {μ : Mem} {k : Int → Mem → Prop} (hs : StatR μ.2.2) (h : f_M_composite a1 μ k) : CT l Γ yX12_composite cX12_composite 4 (some .int) 3 69 0 0 [vr Γ 113, vi a1] g 175 μ (pI k) := by
  refine SW.ct (by decide) (Nat.le_of_ble_eq_true rfl) ?_
  refine z_sub (lv' := [(0, vr Γ 113), (1, vi a1)]) [0, 1] rfl ?_
  show SW l Γ yX12_composite.cls cX12_composite Y_M_composite (pI k) g 175 0 0 μ 0 [(0, vr Γ 113), (1, vi a1)] []
  unfold f_M_composite at h
  refine z_rload_n dX12_composite_0 rfl 0 rfl ?_
  refine z_iconst dX12_composite_1 ?_
  refine z_putI (q := 15464) ff_12_0 (Or.inl rfl) rfl dX12_composite_2 kt_113 (Nat.le_of_ble_eq_true rfl) fl_X12_1 rfl ?_
  refine z_mm (fun μ_1 eμ_1 => ?_)
  replace h := h μ_1 eμ_1
  replace hs : StatR μ_1.2.2 := by rw [eμ_1]; exact hs
  refine z_rload_n dX12_composite_5 rfl 0 rfl ?_
  refine z_getI (q := 15472) ff_12_8 dX12_composite_6 kt_113 (Nat.le_of_ble_eq_true rfl) fl_X12_231 rfl ?_
  refine z_bipush dX12_composite_9 (by decide) ?_
  refine z_icmp_eq (tgt := 33) dX12_composite_11 (by decide) h (fun h => ?_) (fun h => ?_)
  · refine z_iconst dX12_composite_33 ?_
    exact z_iret rfl dX12_composite_34 rfl rfl rfl ⟨_, rfl, hs, h⟩
  · refine z_rload_n dX12_composite_14 rfl 0 rfl ?_
    refine z_iload_n dX12_composite_15 rfl 1 rfl ?_
    refine z_iconst dX12_composite_16 ?_
    refine z_bipush dX12_composite_17 (by decide) ?_
    refine z_VB (i_M_areOpen  hs h) vk_X12_areOpen kt_113 (Nat.le_of_ble_eq_true rfl) rfl ml_X12_570 ⟨Nat.le_of_ble_eq_true rfl, Nat.le_of_ble_eq_true rfl⟩ ⟨Nat.zero_le _, Nat.zero_le _⟩ rfl rfl (Nat.le_of_ble_eq_true rfl) dX12_composite_19 (fun r19 μ_2 hs h => ?_)
    refine z_ifeq_b (tgt := 33) dX12_composite_22 (by decide) h (fun h => ?_) (fun h => ?_)
    · refine z_rload_n dX12_composite_25 rfl 0 rfl ?_
      refine z_iload_n dX12_composite_26 rfl 1 rfl ?_
      refine z_VB (i_M_composes  hs h) vk_X12_composes kt_113 (Nat.le_of_ble_eq_true rfl) rfl ml_X12_573 ⟨Nat.le_of_ble_eq_true rfl, Nat.le_of_ble_eq_true rfl⟩ ⟨Nat.zero_le _, Nat.zero_le _⟩ rfl rfl (Nat.le_of_ble_eq_true rfl) dX12_composite_27 (fun r27 μ_3 hs h => ?_)
      refine z_ifne_b (tgt := 35) dX12_composite_30 (by decide) h (fun h => ?_) (fun h => ?_)
      · refine z_rload_n dX12_composite_35 rfl 0 rfl ?_
        refine z_iconst dX12_composite_36 ?_
        refine z_putI (q := 15533) ff_12_69 (Or.inl rfl) rfl dX12_composite_37 kt_113 (Nat.le_of_ble_eq_true rfl) fl_X12_483 rfl ?_
        refine z_mm (fun μ_4 eμ_4 => ?_)
        replace h := h μ_4 eμ_4
        replace hs : StatR μ_4.2.2 := by rw [eμ_4]; exact hs
        refine z_iconst dX12_composite_40 ?_
        refine z_istore_n (lv' := [(2, vi 1), (0, vr Γ 113), (1, vi a1)]) dX12_composite_41 rfl (Nat.le_of_ble_eq_true rfl) rfl ?_
        obtain ⟨m42, h⟩ := h
        refine z_sub (lv' := [(0, vr Γ 113), (1, vi a1), (2, vi 1)]) [1, 2, 0] rfl ?_
        refine L_M_composite_42 (fun μ_10 hs h => ?_) m42 1 μ_4 hs h
        refine z_iconst dX12_composite_116 ?_
        refine z_istore_n (lv' := [(2, vi (-1)), (0, vr Γ 113), (1, vi a1)]) dX12_composite_117 rfl (Nat.le_of_ble_eq_true rfl) rfl ?_
        refine z_rload_n dX12_composite_118 rfl 1 rfl ?_
        refine z_getI (q := 15472) ff_12_8 dX12_composite_119 kt_113 (Nat.le_of_ble_eq_true rfl) fl_X12_231 rfl ?_
        refine z_iconst dX12_composite_122 ?_
        refine z_isub dX12_composite_123 ?_
        refine z_nm (fun v3 ev3 => ?_)
        replace h := h v3 ev3
        refine z_istore_n (lv' := [(3, vi v3), (2, vi (-1)), (0, vr Γ 113), (1, vi a1)]) dX12_composite_124 rfl (Nat.le_of_ble_eq_true rfl) rfl ?_
        obtain ⟨m125, h⟩ := h
        refine z_sub (lv' := [(0, vr Γ 113), (1, vi a1), (2, vi (-1)), (3, vi v3)]) [2, 3, 1, 0] rfl ?_
        refine L_M_composite_125 (fun v2_2 μ_13 hs h => ?_) m125 (-1) v3 μ_10 hs h
        refine z_rload_n dX12_composite_154 rfl 0 rfl ?_
        refine z_rload_n dX12_composite_155 rfl 0 rfl ?_
        refine z_getR (q := 15473) ff_12_9 dX12_composite_156 kt_113 (Nat.le_of_ble_eq_true rfl) fl_X12_26 rfl (hs.1 _ _ sr_15473) ?_
        refine z_iload_n dX12_composite_159 rfl 1 rfl ?_
        obtain ⟨h0, h1, h⟩ := h
        refine z_iald dX12_composite_160 kt_117 (Nat.le_of_ble_eq_true rfl) h0 h1 ?_
        refine z_VI (i_M_comes  hs h) vk_X12_comes kt_113 (Nat.le_of_ble_eq_true rfl) rfl ml_X12_516 ⟨Nat.le_of_ble_eq_true rfl, Nat.le_of_ble_eq_true rfl⟩ ⟨Nat.zero_le _, Nat.zero_le _⟩ rfl rfl (Nat.le_of_ble_eq_true rfl) dX12_composite_161 (fun r161 μ_14 hs h => ?_)
        exact z_iret rfl dX12_composite_164 rfl rfl rfl ⟨_, rfl, hs, h⟩
      · refine z_iconst dX12_composite_33 ?_
        exact z_iret rfl dX12_composite_34 rfl rfl rfl ⟨_, rfl, hs, h⟩
    · refine z_iconst dX12_composite_33 ?_
      exact z_iret rfl dX12_composite_34 rfl rfl rfl ⟨_, rfl, hs, h⟩
abbrev Y_M_loses : Yt := (6, (some .int), yX12_loses.name, { frames := 3, cells := 0, slots := 0, locals := 69 }, 175, 0, 0)
def l_M_loses_15 (a1 : Int) (μ_1 : Mem) (v2 : Int) (v3 : Int) (X_15_55 : Int → Prop) : Nat → Int → Int → Prop
  | 0, _, _ => False
  | fu15 + 1, v4, v5 => if w v5 < w (rI μ_1 15545 0) then (0 ≤ w v5 ∧ w v5 < ((8 : Nat) : Int) ∧ if w (rI μ_1 164 (w v5)) = w v3 then (0 ≤ w v5 ∧ w v5 < ((8 : Nat) : Int) ∧ ∀ v4_1 : Int, v4_1 = w_ior v4 (w_ishl 1 (rI μ_1 163 (w v5))) → (l_M_loses_15 a1 μ_1 v2 v3 X_15_55 fu15) v4_1 (v5 + 1)) else ((l_M_loses_15 a1 μ_1 v2 v3 X_15_55 fu15) v4 (v5 + 1))) else (X_15_55 v4)
def l_M_loses_4 (a1 : Int) (k : Int → Mem → Prop) : Nat → Int → Int → Mem → Prop
  | 0, _, _, _ => False
  | fu4 + 1, v2, v3, μ_1 => if w v3 < w a1 then (∃ m15 : Nat, l_M_loses_15 a1 μ_1 v2 v3 (fun (v4_2 : Int) => f_M_bitsOf v4_2 μ_1 (fun r57 μ_2 => if w r57 = w 1 then ((l_M_loses_4 a1 k fu4) v2 (v3 + 1) μ_2) else (f_M_composes v4_2 μ_2 (fun r70 μ_3 => if r70 = true then (∀ v2_1 : Int, v2_1 = v2 + (rI μ_3 15541 0) → (l_M_loses_4 a1 k fu4) v2_1 (v3 + 1) μ_3) else (k (-1) μ_3))))) m15 0 0) else (k v2 μ_1)
def f_M_loses (a1 : Int) (μ : Mem) (k : Int → Mem → Prop) : Prop := ∃ m4 : Nat, l_M_loses_4 a1 k m4 0 0 μ
theorem L_M_loses_15 {l : Launch} {Γ : Gam} {g : Nat} {a1 : Int} {μ_1 : Mem} {v2 : Int} {v3 : Int} {X_15_55 : Int → Prop} {k : Int → Mem → Prop} (hs : StatR μ_1.2.2) (hX_15_55 : ∀ (u4 : Int), X_15_55 u4 → SW l Γ yX12_loses.cls cX12_loses Y_M_loses (pI k) g 175 0 0 μ_1 55 [(0, vr Γ 113), (1, vi a1), (2, vi v2), (3, vi v3), (4, vi u4)] []) (n9 : Nat) : ∀ (v4 : Int) (v5 : Int), l_M_loses_15 a1 μ_1 v2 v3 X_15_55 n9 v4 v5 → SW l Γ yX12_loses.cls cX12_loses Y_M_loses (pI k) g 175 0 0 μ_1 15 [(0, vr Γ 113), (1, vi a1), (2, vi v2), (3, vi v3), (4, vi v4), (5, vi v5)] [] := by
  induction n9 with
  | zero =>
    intro v4 v5 h
    exact h.elim
  | succ n9 hR_15 =>
    intro v4 v5 h
    rw [l_M_loses_15] at h
    refine z_iload dX12_loses_15 5 rfl ?_
    refine z_rload_n dX12_loses_17 rfl 0 rfl ?_
    refine z_getI (q := 15545) ff_12_81 dX12_loses_18 kt_113 (Nat.le_of_ble_eq_true rfl) fl_X12_576 rfl ?_
    refine z_icmp_ge (tgt := 55) dX12_loses_21 (by decide) h (fun h => ?_) (fun h => ?_)
    · refine z_rload_n dX12_loses_24 rfl 0 rfl ?_
      refine z_getR (q := 15543) ff_12_79 dX12_loses_25 kt_113 (Nat.le_of_ble_eq_true rfl) fl_X12_179 rfl (hs.1 _ _ sr_15543) ?_
      refine z_iload dX12_loses_28 5 rfl ?_
      obtain ⟨h0, h1, h⟩ := h
      refine z_iald dX12_loses_30 kt_164 (Nat.le_of_ble_eq_true rfl) h0 h1 ?_
      refine z_iload_n dX12_loses_31 rfl 3 rfl ?_
      refine z_icmp_ne (tgt := 49) dX12_loses_32 (by decide) h (fun h => ?_) (fun h => ?_)
      · refine z_iload dX12_loses_35 4 rfl ?_
        refine z_iconst dX12_loses_37 ?_
        refine z_rload_n dX12_loses_38 rfl 0 rfl ?_
        refine z_getR (q := 15542) ff_12_78 dX12_loses_39 kt_113 (Nat.le_of_ble_eq_true rfl) fl_X12_176 rfl (hs.1 _ _ sr_15542) ?_
        refine z_iload dX12_loses_42 5 rfl ?_
        obtain ⟨h0, h1, h⟩ := h
        refine z_iald dX12_loses_44 kt_163 (Nat.le_of_ble_eq_true rfl) h0 h1 ?_
        refine z_ishl dX12_loses_45 ?_
        refine z_ior dX12_loses_46 ?_
        refine z_nm (fun v4_1 ev4_1 => ?_)
        replace h := h v4_1 ev4_1
        refine z_istore (lv' := [(4, vi v4_1), (0, vr Γ 113), (1, vi a1), (2, vi v2), (3, vi v3), (5, vi v5)]) dX12_loses_47 (Nat.le_of_ble_eq_true rfl) rfl ?_
        refine z_iinc (j := 5) (lv' := [(5, vi (v5 + 1)), (4, vi v4_1), (0, vr Γ 113), (1, vi a1), (2, vi v2), (3, vi v3)]) dX12_loses_49 rfl (Nat.le_of_ble_eq_true rfl) rfl ?_
        refine z_goto (tgt := 15) dX12_loses_52 (by decide) ?_
        refine z_sub (lv' := [(0, vr Γ 113), (1, vi a1), (2, vi v2), (3, vi v3), (4, vi v4_1), (5, vi (v5 + 1))]) [2, 3, 4, 5, 1, 0] rfl ?_
        exact hR_15 v4_1 (v5 + 1) h
      · refine z_iinc (j := 5) (lv' := [(5, vi (v5 + 1)), (0, vr Γ 113), (1, vi a1), (2, vi v2), (3, vi v3), (4, vi v4)]) dX12_loses_49 rfl (Nat.le_of_ble_eq_true rfl) rfl ?_
        refine z_goto (tgt := 15) dX12_loses_52 (by decide) ?_
        refine z_sub (lv' := [(0, vr Γ 113), (1, vi a1), (2, vi v2), (3, vi v3), (4, vi v4), (5, vi (v5 + 1))]) [1, 2, 3, 4, 5, 0] rfl ?_
        exact hR_15 v4 (v5 + 1) h
    · refine z_sub (lv' := [(0, vr Γ 113), (1, vi a1), (2, vi v2), (3, vi v3), (4, vi v4)]) [0, 1, 2, 3, 4] rfl ?_
      exact hX_15_55 v4 h
theorem L_M_loses_4 {l : Launch} {Γ : Gam} {g : Nat} {a1 : Int} {k : Int → Mem → Prop} (n9 : Nat) : ∀ (v2 : Int) (v3 : Int) (μ_1 : Mem), StatR μ_1.2.2 → l_M_loses_4 a1 k n9 v2 v3 μ_1 → SW l Γ yX12_loses.cls cX12_loses Y_M_loses (pI k) g 175 0 0 μ_1 4 [(0, vr Γ 113), (1, vi a1), (2, vi v2), (3, vi v3)] [] := by
  induction n9 with
  | zero =>
    intro v2 v3 μ_1 hs h
    exact h.elim
  | succ n9 hR_4 =>
    intro v2 v3 μ_1 hs h
    rw [l_M_loses_4] at h
    refine z_iload_n dX12_loses_4 rfl 3 rfl ?_
    refine z_iload_n dX12_loses_5 rfl 1 rfl ?_
    refine z_icmp_ge (tgt := 91) dX12_loses_6 (by decide) h (fun h => ?_) (fun h => ?_)
    · refine z_iconst dX12_loses_9 ?_
      refine z_istore (lv' := [(4, vi 0), (0, vr Γ 113), (1, vi a1), (2, vi v2), (3, vi v3)]) dX12_loses_10 (Nat.le_of_ble_eq_true rfl) rfl ?_
      refine z_iconst dX12_loses_12 ?_
      refine z_istore (lv' := [(5, vi 0), (4, vi 0), (0, vr Γ 113), (1, vi a1), (2, vi v2), (3, vi v3)]) dX12_loses_13 (Nat.le_of_ble_eq_true rfl) rfl ?_
      obtain ⟨m15, h⟩ := h
      refine z_sub (lv' := [(0, vr Γ 113), (1, vi a1), (2, vi v2), (3, vi v3), (4, vi 0), (5, vi 0)]) [2, 3, 4, 5, 1, 0] rfl ?_
      refine L_M_loses_15 hs (fun v4_2 h => ?_) m15 0 0 h
      refine z_iload dX12_loses_55 4 rfl ?_
      refine z_SI (i_M_bitsOf  hs h) sk_X12_bitsOf ml_X12_563 ⟨Nat.le_of_ble_eq_true rfl, Nat.le_of_ble_eq_true rfl⟩ ⟨Nat.zero_le _, Nat.zero_le _⟩ rfl rfl (Nat.le_of_ble_eq_true rfl) dX12_loses_57 (fun r57 μ_2 hs h => ?_)
      refine z_iconst dX12_loses_60 ?_
      refine z_icmp_ne (tgt := 67) dX12_loses_61 (by decide) h (fun h => ?_) (fun h => ?_)
      · refine z_goto (tgt := 85) dX12_loses_64 (by decide) ?_
        refine z_iinc (j := 3) (lv' := [(3, vi (v3 + 1)), (0, vr Γ 113), (1, vi a1), (2, vi v2), (4, vi v4_2)]) dX12_loses_85 rfl (Nat.le_of_ble_eq_true rfl) rfl ?_
        refine z_goto (tgt := 4) dX12_loses_88 (by decide) ?_
        refine z_sub (lv' := [(0, vr Γ 113), (1, vi a1), (2, vi v2), (3, vi (v3 + 1))]) [1, 2, 3, 0] rfl ?_
        exact hR_4 v2 (v3 + 1) μ_2 hs h
      · refine z_rload_n dX12_loses_67 rfl 0 rfl ?_
        refine z_iload dX12_loses_68 4 rfl ?_
        refine z_VB (i_M_composes  hs h) vk_X12_composes kt_113 (Nat.le_of_ble_eq_true rfl) rfl ml_X12_573 ⟨Nat.le_of_ble_eq_true rfl, Nat.le_of_ble_eq_true rfl⟩ ⟨Nat.zero_le _, Nat.zero_le _⟩ rfl rfl (Nat.le_of_ble_eq_true rfl) dX12_loses_70 (fun r70 μ_3 hs h => ?_)
        refine z_ifne_b (tgt := 78) dX12_loses_73 (by decide) h (fun h => ?_) (fun h => ?_)
        · refine z_iload_n dX12_loses_78 rfl 2 rfl ?_
          refine z_rload_n dX12_loses_79 rfl 0 rfl ?_
          refine z_getI (q := 15541) ff_12_77 dX12_loses_80 kt_113 (Nat.le_of_ble_eq_true rfl) fl_X12_567 rfl ?_
          refine z_iadd dX12_loses_83 ?_
          refine z_nm (fun v2_1 ev2_1 => ?_)
          replace h := h v2_1 ev2_1
          refine z_istore_n (lv' := [(2, vi v2_1), (0, vr Γ 113), (1, vi a1), (3, vi v3), (4, vi v4_2)]) dX12_loses_84 rfl (Nat.le_of_ble_eq_true rfl) rfl ?_
          refine z_iinc (j := 3) (lv' := [(3, vi (v3 + 1)), (2, vi v2_1), (0, vr Γ 113), (1, vi a1), (4, vi v4_2)]) dX12_loses_85 rfl (Nat.le_of_ble_eq_true rfl) rfl ?_
          refine z_goto (tgt := 4) dX12_loses_88 (by decide) ?_
          refine z_sub (lv' := [(0, vr Γ 113), (1, vi a1), (2, vi v2_1), (3, vi (v3 + 1))]) [2, 3, 1, 0] rfl ?_
          exact hR_4 v2_1 (v3 + 1) μ_3 hs h
        · refine z_iconst dX12_loses_76 ?_
          exact z_iret rfl dX12_loses_77 rfl rfl rfl ⟨_, rfl, hs, h⟩
    · refine z_iload_n dX12_loses_91 rfl 2 rfl ?_
      exact z_iret rfl dX12_loses_92 rfl rfl rfl ⟨_, rfl, hs, h⟩
theorem i_M_loses {l : Launch} {Γ : Gam} {g : Nat} {a1 : Int} {μ : Mem} {k : Int → Mem → Prop} (hs : StatR μ.2.2) (h : f_M_loses a1 μ k) : CT l Γ yX12_loses cX12_loses 6 (some .int) 3 69 0 0 [vr Γ 113, vi a1] g 175 μ (pI k) := by
  refine SW.ct (by decide) (Nat.le_of_ble_eq_true rfl) ?_
  refine z_sub (lv' := [(0, vr Γ 113), (1, vi a1)]) [0, 1] rfl ?_
  show SW l Γ yX12_loses.cls cX12_loses Y_M_loses (pI k) g 175 0 0 μ 0 [(0, vr Γ 113), (1, vi a1)] []
  unfold f_M_loses at h
  refine z_iconst dX12_loses_0 ?_
  refine z_istore_n (lv' := [(2, vi 0), (0, vr Γ 113), (1, vi a1)]) dX12_loses_1 rfl (Nat.le_of_ble_eq_true rfl) rfl ?_
  refine z_iconst dX12_loses_2 ?_
  refine z_istore_n (lv' := [(3, vi 0), (2, vi 0), (0, vr Γ 113), (1, vi a1)]) dX12_loses_3 rfl (Nat.le_of_ble_eq_true rfl) rfl ?_
  obtain ⟨m4, h⟩ := h
  refine z_sub (lv' := [(0, vr Γ 113), (1, vi a1), (2, vi 0), (3, vi 0)]) [2, 3, 1, 0] rfl ?_
  refine L_M_loses_4  m4 0 0 μ hs h
abbrev Y_M_groupsOf : Yt := (3, (some .int), yX12_groupsOf.name, { frames := 0, cells := 0, slots := 0, locals := 0 }, 175, 0, 0)
def l_M_groupsOf_4 (μ : Mem) (X_4_37 : Int → Prop) : Nat → Int → Int → Prop
  | 0, _, _ => False
  | fu4 + 1, v1, v2 => if w v2 < w (rI μ 15545 0) then (0 ≤ w v2 ∧ w v2 < ((8 : Nat) : Int) ∧ if w (rI μ 164 (w v2)) < w v1 then ((l_M_groupsOf_4 μ X_4_37 fu4) v1 (v2 + 1)) else (0 ≤ w v2 ∧ w v2 < ((8 : Nat) : Int) ∧ ∀ v1_1 : Int, v1_1 = (rI μ 164 (w v2)) + 1 → (l_M_groupsOf_4 μ X_4_37 fu4) v1_1 (v2 + 1))) else (X_4_37 v1)
def f_M_groupsOf  (μ : Mem) (k : Int → Mem → Prop) : Prop := ∃ m4 : Nat, l_M_groupsOf_4 μ (fun (v1_2 : Int) => k v1_2 μ) m4 0 0
theorem L_M_groupsOf_4 {l : Launch} {Γ : Gam} {g : Nat} {μ : Mem} {X_4_37 : Int → Prop} {k : Int → Mem → Prop} (hs : StatR μ.2.2) (hX_4_37 : ∀ (u1 : Int), X_4_37 u1 → SW l Γ yX12_groupsOf.cls cX12_groupsOf Y_M_groupsOf (pI k) g 175 0 0 μ 37 [(1, vi u1)] []) (n9 : Nat) : ∀ (v1 : Int) (v2 : Int), l_M_groupsOf_4 μ X_4_37 n9 v1 v2 → SW l Γ yX12_groupsOf.cls cX12_groupsOf Y_M_groupsOf (pI k) g 175 0 0 μ 4 [(0, vr Γ 113), (1, vi v1), (2, vi v2)] [] := by
  induction n9 with
  | zero =>
    intro v1 v2 h
    exact h.elim
  | succ n9 hR_4 =>
    intro v1 v2 h
    rw [l_M_groupsOf_4] at h
    refine z_iload_n dX12_groupsOf_4 rfl 2 rfl ?_
    refine z_rload_n dX12_groupsOf_5 rfl 0 rfl ?_
    refine z_getI (q := 15545) ff_12_81 dX12_groupsOf_6 kt_113 (Nat.le_of_ble_eq_true rfl) fl_X12_576 rfl ?_
    refine z_icmp_ge (tgt := 37) dX12_groupsOf_9 (by decide) h (fun h => ?_) (fun h => ?_)
    · refine z_rload_n dX12_groupsOf_12 rfl 0 rfl ?_
      refine z_getR (q := 15543) ff_12_79 dX12_groupsOf_13 kt_113 (Nat.le_of_ble_eq_true rfl) fl_X12_179 rfl (hs.1 _ _ sr_15543) ?_
      refine z_iload_n dX12_groupsOf_16 rfl 2 rfl ?_
      obtain ⟨h0, h1, h⟩ := h
      refine z_iald dX12_groupsOf_17 kt_164 (Nat.le_of_ble_eq_true rfl) h0 h1 ?_
      refine z_iload_n dX12_groupsOf_18 rfl 1 rfl ?_
      refine z_icmp_lt (tgt := 31) dX12_groupsOf_19 (by decide) h (fun h => ?_) (fun h => ?_)
      · refine z_iinc (j := 2) (lv' := [(2, vi (v2 + 1)), (0, vr Γ 113), (1, vi v1)]) dX12_groupsOf_31 rfl (Nat.le_of_ble_eq_true rfl) rfl ?_
        refine z_goto (tgt := 4) dX12_groupsOf_34 (by decide) ?_
        refine z_sub (lv' := [(0, vr Γ 113), (1, vi v1), (2, vi (v2 + 1))]) [1, 2, 0] rfl ?_
        exact hR_4 v1 (v2 + 1) h
      · refine z_rload_n dX12_groupsOf_22 rfl 0 rfl ?_
        refine z_getR (q := 15543) ff_12_79 dX12_groupsOf_23 kt_113 (Nat.le_of_ble_eq_true rfl) fl_X12_179 rfl (hs.1 _ _ sr_15543) ?_
        refine z_iload_n dX12_groupsOf_26 rfl 2 rfl ?_
        obtain ⟨h0, h1, h⟩ := h
        refine z_iald dX12_groupsOf_27 kt_164 (Nat.le_of_ble_eq_true rfl) h0 h1 ?_
        refine z_iconst dX12_groupsOf_28 ?_
        refine z_iadd dX12_groupsOf_29 ?_
        refine z_nm (fun v1_1 ev1_1 => ?_)
        replace h := h v1_1 ev1_1
        refine z_istore_n (lv' := [(1, vi v1_1), (0, vr Γ 113), (2, vi v2)]) dX12_groupsOf_30 rfl (Nat.le_of_ble_eq_true rfl) rfl ?_
        refine z_iinc (j := 2) (lv' := [(2, vi (v2 + 1)), (1, vi v1_1), (0, vr Γ 113)]) dX12_groupsOf_31 rfl (Nat.le_of_ble_eq_true rfl) rfl ?_
        refine z_goto (tgt := 4) dX12_groupsOf_34 (by decide) ?_
        refine z_sub (lv' := [(0, vr Γ 113), (1, vi v1_1), (2, vi (v2 + 1))]) [2, 1, 0] rfl ?_
        exact hR_4 v1_1 (v2 + 1) h
    · refine z_sub (lv' := [(1, vi v1)]) [1] rfl ?_
      exact hX_4_37 v1 h
theorem i_M_groupsOf {l : Launch} {Γ : Gam} {g : Nat} {μ : Mem} {k : Int → Mem → Prop} (hs : StatR μ.2.2) (h : f_M_groupsOf  μ k) : CT l Γ yX12_groupsOf cX12_groupsOf 3 (some .int) 0 0 0 0 [vr Γ 113] g 175 μ (pI k) := by
  refine SW.ct (by decide) (Nat.le_of_ble_eq_true rfl) ?_
  refine z_sub (lv' := [(0, vr Γ 113)]) [0] rfl ?_
  show SW l Γ yX12_groupsOf.cls cX12_groupsOf Y_M_groupsOf (pI k) g 175 0 0 μ 0 [(0, vr Γ 113)] []
  unfold f_M_groupsOf at h
  refine z_iconst dX12_groupsOf_0 ?_
  refine z_istore_n (lv' := [(1, vi 0), (0, vr Γ 113)]) dX12_groupsOf_1 rfl (Nat.le_of_ble_eq_true rfl) rfl ?_
  refine z_iconst dX12_groupsOf_2 ?_
  refine z_istore_n (lv' := [(2, vi 0), (1, vi 0), (0, vr Γ 113)]) dX12_groupsOf_3 rfl (Nat.le_of_ble_eq_true rfl) rfl ?_
  obtain ⟨m4, h⟩ := h
  refine z_sub (lv' := [(0, vr Γ 113), (1, vi 0), (2, vi 0)]) [2, 1, 0] rfl ?_
  refine L_M_groupsOf_4 hs (fun v1_2 h => ?_) m4 0 0 h
  refine z_iload_n dX12_groupsOf_37 rfl 0 rfl ?_
  exact z_iret rfl dX12_groupsOf_38 rfl rfl rfl ⟨_, rfl, hs, h⟩
abbrev Y_M_countsUp : Yt := (4, (some .boolean), yX12_countsUp.name, { frames := 0, cells := 0, slots := 0, locals := 0 }, 175, 0, 0)
def l_M_countsUp_15 (μ_1 : Mem) (v1_1 : Int) (X_15_49 : Int → Prop) : Nat → Int → Int → Prop
  | 0, _, _ => False
  | fu15 + 1, v2, v3 => if w v3 < w v1_1 then (0 ≤ w v3 ∧ w v3 < ((8 : Nat) : Int) ∧ if w (rI μ_1 164 (w v3)) < w v2 then ((l_M_countsUp_15 μ_1 v1_1 X_15_49 fu15) v2 (v3 + 1)) else (0 ≤ w v3 ∧ w v3 < ((8 : Nat) : Int) ∧ ∀ v2_1 : Int, v2_1 = (rI μ_1 164 (w v3)) + 1 → (l_M_countsUp_15 μ_1 v1_1 X_15_49 fu15) v2_1 (v3 + 1))) else (X_15_49 v2)
def l_M_countsUp_7 (X_7_59 : Int → Mem → Prop) (k : Bool → Mem → Prop) : Nat → Int → Mem → Prop
  | 0, _, _ => False
  | fu7 + 1, v1_1, μ_1 => if 0 < w v1_1 then (∃ m15 : Nat, l_M_countsUp_15 μ_1 v1_1 (fun (v2_2 : Int) => 0 ≤ w v1_1 ∧ w v1_1 < ((8 : Nat) : Int) ∧ if w (rI μ_1 164 (w v1_1)) < w v2_2 then (X_7_59 v1_1 μ_1) else (0 ≤ w v1_1 ∧ w v1_1 < ((8 : Nat) : Int) ∧ ∀ μ_2 : Mem, μ_2 = sI μ_1 164 (w v1_1) 0 → (l_M_countsUp_7 X_7_59 k fu7) (v1_1 + (-1)) μ_2)) m15 0 0) else (k false μ_1)
def f_M_countsUp  (μ : Mem) (k : Bool → Mem → Prop) : Prop := ∀ v1 : Int, v1 = (rI μ 15545 0) - 1 → ∃ m7 : Nat, l_M_countsUp_7 (fun (v1_2 : Int) (μ_3 : Mem) => 0 ≤ w v1_2 ∧ w v1_2 < ((8 : Nat) : Int) ∧ 0 ≤ w v1_2 ∧ w v1_2 < ((8 : Nat) : Int) ∧ ∀ μ_4 : Mem, μ_4 = sI μ_3 164 (w v1_2) ((rI μ_3 164 (w v1_2)) + 1) → k true μ_4) k m7 v1 μ
theorem L_M_countsUp_15 {l : Launch} {Γ : Gam} {g : Nat} {μ_1 : Mem} {v1_1 : Int} {X_15_49 : Int → Prop} {k : Bool → Mem → Prop} (hs : StatR μ_1.2.2) (hX_15_49 : ∀ (u2 : Int), X_15_49 u2 → SW l Γ yX12_countsUp.cls cX12_countsUp Y_M_countsUp (pB k) g 175 0 0 μ_1 49 [(0, vr Γ 113), (1, vi v1_1), (2, vi u2)] []) (n9 : Nat) : ∀ (v2 : Int) (v3 : Int), l_M_countsUp_15 μ_1 v1_1 X_15_49 n9 v2 v3 → SW l Γ yX12_countsUp.cls cX12_countsUp Y_M_countsUp (pB k) g 175 0 0 μ_1 15 [(0, vr Γ 113), (1, vi v1_1), (2, vi v2), (3, vi v3)] [] := by
  induction n9 with
  | zero =>
    intro v2 v3 h
    exact h.elim
  | succ n9 hR_15 =>
    intro v2 v3 h
    rw [l_M_countsUp_15] at h
    refine z_iload_n dX12_countsUp_15 rfl 3 rfl ?_
    refine z_iload_n dX12_countsUp_16 rfl 1 rfl ?_
    refine z_icmp_ge (tgt := 49) dX12_countsUp_17 (by decide) h (fun h => ?_) (fun h => ?_)
    · refine z_rload_n dX12_countsUp_20 rfl 0 rfl ?_
      refine z_getR (q := 15543) ff_12_79 dX12_countsUp_21 kt_113 (Nat.le_of_ble_eq_true rfl) fl_X12_179 rfl (hs.1 _ _ sr_15543) ?_
      refine z_iload_n dX12_countsUp_24 rfl 3 rfl ?_
      obtain ⟨h0, h1, h⟩ := h
      refine z_iald dX12_countsUp_25 kt_164 (Nat.le_of_ble_eq_true rfl) h0 h1 ?_
      refine z_iload_n dX12_countsUp_26 rfl 2 rfl ?_
      refine z_icmp_lt (tgt := 41) dX12_countsUp_27 (by decide) h (fun h => ?_) (fun h => ?_)
      · refine z_iload_n dX12_countsUp_41 rfl 2 rfl ?_
        refine z_istore_n (lv' := [(2, vi v2), (0, vr Γ 113), (1, vi v1_1), (3, vi v3)]) dX12_countsUp_42 rfl (Nat.le_of_ble_eq_true rfl) rfl ?_
        refine z_iinc (j := 3) (lv' := [(3, vi (v3 + 1)), (2, vi v2), (0, vr Γ 113), (1, vi v1_1)]) dX12_countsUp_43 rfl (Nat.le_of_ble_eq_true rfl) rfl ?_
        refine z_goto (tgt := 15) dX12_countsUp_46 (by decide) ?_
        refine z_sub (lv' := [(0, vr Γ 113), (1, vi v1_1), (2, vi v2), (3, vi (v3 + 1))]) [2, 3, 1, 0] rfl ?_
        exact hR_15 v2 (v3 + 1) h
      · refine z_rload_n dX12_countsUp_30 rfl 0 rfl ?_
        refine z_getR (q := 15543) ff_12_79 dX12_countsUp_31 kt_113 (Nat.le_of_ble_eq_true rfl) fl_X12_179 rfl (hs.1 _ _ sr_15543) ?_
        refine z_iload_n dX12_countsUp_34 rfl 3 rfl ?_
        obtain ⟨h0, h1, h⟩ := h
        refine z_iald dX12_countsUp_35 kt_164 (Nat.le_of_ble_eq_true rfl) h0 h1 ?_
        refine z_iconst dX12_countsUp_36 ?_
        refine z_iadd dX12_countsUp_37 ?_
        refine z_goto (tgt := 42) dX12_countsUp_38 (by decide) ?_
        refine z_nm (fun v2_1 ev2_1 => ?_)
        replace h := h v2_1 ev2_1
        refine z_istore_n (lv' := [(2, vi v2_1), (0, vr Γ 113), (1, vi v1_1), (3, vi v3)]) dX12_countsUp_42 rfl (Nat.le_of_ble_eq_true rfl) rfl ?_
        refine z_iinc (j := 3) (lv' := [(3, vi (v3 + 1)), (2, vi v2_1), (0, vr Γ 113), (1, vi v1_1)]) dX12_countsUp_43 rfl (Nat.le_of_ble_eq_true rfl) rfl ?_
        refine z_goto (tgt := 15) dX12_countsUp_46 (by decide) ?_
        refine z_sub (lv' := [(0, vr Γ 113), (1, vi v1_1), (2, vi v2_1), (3, vi (v3 + 1))]) [2, 3, 1, 0] rfl ?_
        exact hR_15 v2_1 (v3 + 1) h
    · refine z_sub (lv' := [(0, vr Γ 113), (1, vi v1_1), (2, vi v2)]) [0, 1, 2] rfl ?_
      exact hX_15_49 v2 h
theorem L_M_countsUp_7 {l : Launch} {Γ : Gam} {g : Nat} {X_7_59 : Int → Mem → Prop} {k : Bool → Mem → Prop} (hX_7_59 : ∀ (u1 : Int) (ν : Mem), StatR ν.2.2 → X_7_59 u1 ν → SW l Γ yX12_countsUp.cls cX12_countsUp Y_M_countsUp (pB k) g 175 0 0 ν 59 [(0, vr Γ 113), (1, vi u1)] []) (n9 : Nat) : ∀ (v1_1 : Int) (μ_1 : Mem), StatR μ_1.2.2 → l_M_countsUp_7 X_7_59 k n9 v1_1 μ_1 → SW l Γ yX12_countsUp.cls cX12_countsUp Y_M_countsUp (pB k) g 175 0 0 μ_1 7 [(0, vr Γ 113), (1, vi v1_1)] [] := by
  induction n9 with
  | zero =>
    intro v1_1 μ_1 hs h
    exact h.elim
  | succ n9 hR_7 =>
    intro v1_1 μ_1 hs h
    rw [l_M_countsUp_7] at h
    refine z_iload_n dX12_countsUp_7 rfl 1 rfl ?_
    refine z_if_le (tgt := 84) dX12_countsUp_8 (by decide) h (fun h => ?_) (fun h => ?_)
    · refine z_iconst dX12_countsUp_11 ?_
      refine z_istore_n (lv' := [(2, vi 0), (0, vr Γ 113), (1, vi v1_1)]) dX12_countsUp_12 rfl (Nat.le_of_ble_eq_true rfl) rfl ?_
      refine z_iconst dX12_countsUp_13 ?_
      refine z_istore_n (lv' := [(3, vi 0), (2, vi 0), (0, vr Γ 113), (1, vi v1_1)]) dX12_countsUp_14 rfl (Nat.le_of_ble_eq_true rfl) rfl ?_
      obtain ⟨m15, h⟩ := h
      refine z_sub (lv' := [(0, vr Γ 113), (1, vi v1_1), (2, vi 0), (3, vi 0)]) [2, 3, 1, 0] rfl ?_
      refine L_M_countsUp_15 hs (fun v2_2 h => ?_) m15 0 0 h
      refine z_rload_n dX12_countsUp_49 rfl 0 rfl ?_
      refine z_getR (q := 15543) ff_12_79 dX12_countsUp_50 kt_113 (Nat.le_of_ble_eq_true rfl) fl_X12_179 rfl (hs.1 _ _ sr_15543) ?_
      refine z_iload_n dX12_countsUp_53 rfl 1 rfl ?_
      obtain ⟨h0, h1, h⟩ := h
      refine z_iald dX12_countsUp_54 kt_164 (Nat.le_of_ble_eq_true rfl) h0 h1 ?_
      refine z_iload_n dX12_countsUp_55 rfl 2 rfl ?_
      refine z_icmp_ge (tgt := 71) dX12_countsUp_56 (by decide) h (fun h => ?_) (fun h => ?_)
      · refine z_sub (lv' := [(0, vr Γ 113), (1, vi v1_1)]) [0, 1] rfl ?_
        exact hX_7_59 v1_1 μ_1 hs h
      · refine z_rload_n dX12_countsUp_71 rfl 0 rfl ?_
        refine z_getR (q := 15543) ff_12_79 dX12_countsUp_72 kt_113 (Nat.le_of_ble_eq_true rfl) fl_X12_179 rfl (hs.1 _ _ sr_15543) ?_
        refine z_iload_n dX12_countsUp_75 rfl 1 rfl ?_
        refine z_iconst dX12_countsUp_76 ?_
        obtain ⟨h0, h1, h⟩ := h
        refine z_iast dX12_countsUp_77 kt_164 (Nat.le_of_ble_eq_true rfl) h0 h1 ?_
        refine z_mm (fun μ_2 eμ_2 => ?_)
        replace h := h μ_2 eμ_2
        replace hs : StatR μ_2.2.2 := by rw [eμ_2]; exact hs
        refine z_iinc (j := 1) (lv' := [(1, vi (v1_1 + (-1))), (0, vr Γ 113), (2, vi v2_2)]) dX12_countsUp_78 rfl (Nat.le_of_ble_eq_true rfl) rfl ?_
        refine z_goto (tgt := 7) dX12_countsUp_81 (by decide) ?_
        refine z_sub (lv' := [(0, vr Γ 113), (1, vi (v1_1 + (-1)))]) [1, 0] rfl ?_
        exact hR_7 (v1_1 + (-1)) μ_2 hs h
    · refine z_iconst dX12_countsUp_84 ?_
      exact z_zret (b := false) rfl dX12_countsUp_85 rfl rfl rfl ⟨_, rfl, hs, h⟩
theorem i_M_countsUp {l : Launch} {Γ : Gam} {g : Nat} {μ : Mem} {k : Bool → Mem → Prop} (hs : StatR μ.2.2) (h : f_M_countsUp  μ k) : CT l Γ yX12_countsUp cX12_countsUp 4 (some .boolean) 0 0 0 0 [vr Γ 113] g 175 μ (pB k) := by
  refine SW.ct (by decide) (Nat.le_of_ble_eq_true rfl) ?_
  refine z_sub (lv' := [(0, vr Γ 113)]) [0] rfl ?_
  show SW l Γ yX12_countsUp.cls cX12_countsUp Y_M_countsUp (pB k) g 175 0 0 μ 0 [(0, vr Γ 113)] []
  unfold f_M_countsUp at h
  refine z_rload_n dX12_countsUp_0 rfl 0 rfl ?_
  refine z_getI (q := 15545) ff_12_81 dX12_countsUp_1 kt_113 (Nat.le_of_ble_eq_true rfl) fl_X12_576 rfl ?_
  refine z_iconst dX12_countsUp_4 ?_
  refine z_isub dX12_countsUp_5 ?_
  refine z_nm (fun v1 ev1 => ?_)
  replace h := h v1 ev1
  refine z_istore_n (lv' := [(1, vi v1), (0, vr Γ 113)]) dX12_countsUp_6 rfl (Nat.le_of_ble_eq_true rfl) rfl ?_
  obtain ⟨m7, h⟩ := h
  refine z_sub (lv' := [(0, vr Γ 113), (1, vi v1)]) [1, 0] rfl ?_
  refine L_M_countsUp_7 (fun v1_2 μ_3 hs h => ?_) m7 v1 μ hs h
  refine z_rload_n dX12_countsUp_59 rfl 0 rfl ?_
  refine z_getR (q := 15543) ff_12_79 dX12_countsUp_60 kt_113 (Nat.le_of_ble_eq_true rfl) fl_X12_179 rfl (hs.1 _ _ sr_15543) ?_
  refine z_iload_n dX12_countsUp_63 rfl 1 rfl ?_
  refine z_dup2 dX12_countsUp_64 rfl rfl ?_
  obtain ⟨h0, h1, h⟩ := h
  refine z_iald dX12_countsUp_65 kt_164 (Nat.le_of_ble_eq_true rfl) h0 h1 ?_
  refine z_iconst dX12_countsUp_66 ?_
  refine z_iadd dX12_countsUp_67 ?_
  obtain ⟨h0, h1, h⟩ := h
  refine z_iast dX12_countsUp_68 kt_164 (Nat.le_of_ble_eq_true rfl) h0 h1 ?_
  refine z_mm (fun μ_4 eμ_4 => ?_)
  replace h := h μ_4 eμ_4
  replace hs : StatR μ_4.2.2 := by rw [eμ_4]; exact hs
  refine z_iconst dX12_countsUp_69 ?_
  exact z_zret (b := true) rfl dX12_countsUp_70 rfl rfl rfl ⟨_, rfl, hs, h⟩
