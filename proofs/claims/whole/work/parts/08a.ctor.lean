theorem fl_X7_36 : Cond.fieldLink RX7 36 RX7 "lastDay" "I" ∈ BW := (bw1 69 (by decide +kernel) rfl)
theorem nw_X11_11 : (RX11, 11, yX7_init, "CardHall") ∈ NWL := List.mem_of_getElem? (i := 0) rfl
theorem nw_X11_18 : (RX11, 18, yX9_init, "CardHall") ∈ NWL := List.mem_of_getElem? (i := 1) rfl
theorem kt_19 : KT 19 = (0, 8) := by decide +kernel
theorem kt_20 : KT 20 = (1, 300) := by decide +kernel
theorem kt_21 : KT 21 = (1, 5) := by decide +kernel
theorem kt_22 : KT 22 = (1, 5) := by decide +kernel
theorem nw_X6_33 : (RX6, 33, yX8_init, "CardHall") ∈ NWL := List.mem_of_getElem? (i := 2) rfl
theorem kt_23 : KT 23 = (0, 8) := by decide +kernel
theorem kt_24 : KT 24 = (1, 300) := by decide +kernel
theorem kt_25 : KT 25 = (1, 5) := by decide +kernel
theorem kt_26 : KT 26 = (1, 5) := by decide +kernel
theorem kt_27 : KT 27 = (0, 8) := by decide +kernel
theorem kt_28 : KT 28 = (1, 300) := by decide +kernel
theorem kt_29 : KT 29 = (1, 5) := by decide +kernel
theorem kt_30 : KT 30 = (1, 5) := by decide +kernel
theorem kt_31 : KT 31 = (0, 8) := by decide +kernel
theorem kt_32 : KT 32 = (1, 300) := by decide +kernel
theorem kt_33 : KT 33 = (1, 5) := by decide +kernel
theorem kt_34 : KT 34 = (1, 5) := by decide +kernel
theorem kt_35 : KT 35 = (0, 8) := by decide +kernel
theorem kt_36 : KT 36 = (1, 300) := by decide +kernel
theorem kt_37 : KT 37 = (1, 5) := by decide +kernel
theorem kt_38 : KT 38 = (1, 5) := by decide +kernel
theorem kt_39 : KT 39 = (0, 8) := by decide +kernel
theorem kt_40 : KT 40 = (1, 300) := by decide +kernel
theorem kt_41 : KT 41 = (1, 5) := by decide +kernel
theorem kt_42 : KT 42 = (1, 5) := by decide +kernel
theorem kt_43 : KT 43 = (0, 8) := by decide +kernel
theorem kt_44 : KT 44 = (1, 300) := by decide +kernel
theorem kt_45 : KT 45 = (1, 5) := by decide +kernel
theorem kt_46 : KT 46 = (1, 5) := by decide +kernel
theorem kt_47 : KT 47 = (0, 8) := by decide +kernel
theorem kt_48 : KT 48 = (1, 300) := by decide +kernel
theorem kt_49 : KT 49 = (1, 5) := by decide +kernel
theorem kt_50 : KT 50 = (1, 5) := by decide +kernel
theorem kt_51 : KT 51 = (0, 8) := by decide +kernel
theorem kt_52 : KT 52 = (1, 300) := by decide +kernel
theorem kt_53 : KT 53 = (1, 5) := by decide +kernel
theorem kt_54 : KT 54 = (1, 5) := by decide +kernel
theorem kt_55 : KT 55 = (0, 8) := by decide +kernel
theorem kt_56 : KT 56 = (1, 300) := by decide +kernel
theorem kt_57 : KT 57 = (1, 5) := by decide +kernel
theorem kt_58 : KT 58 = (1, 5) := by decide +kernel
theorem kt_59 : KT 59 = (0, 8) := by decide +kernel
theorem kt_60 : KT 60 = (1, 300) := by decide +kernel
theorem kt_61 : KT 61 = (1, 5) := by decide +kernel
theorem kt_62 : KT 62 = (1, 5) := by decide +kernel
theorem ml_X11_25 : Cond.methodLink RX11 25 yX6_init ∈ BW := (bw1 136 (by decide +kernel) rfl)
theorem fl_X11_32 : Cond.fieldLink RX11 32 RX6 "noOrders" "LCardHall$Rules;" ∈ BW := (bw1 187 (by decide +kernel) rfl)
theorem ml_X11_36 : Cond.methodLink RX11 36 yX5_init ∈ BW := (bw1 221 (by decide +kernel) rfl)
theorem ml_X11_45 : Cond.methodLink RX11 45 yX4_init ∈ BW := (bw1 237 (by decide +kernel) rfl)
theorem nw_X3_35 : (RX3, 35, yX11_fill, "CardHall") ∈ NWL := List.mem_of_getElem? (i := 3) rfl
theorem ml_X11_54 : Cond.methodLink RX11 54 yX3_init ∈ BW := (bw2 22 (by decide +kernel) rfl)
theorem ml_X11_63 : Cond.methodLink RX11 63 yX2_init ∈ BW := (bw2 67 (by decide +kernel) rfl)
theorem ml_X0_33 : Cond.methodLink RX0 33 yX3_init ∈ BW := (bw2 138 (by decide +kernel) rfl)
theorem ml_X11_72 : Cond.methodLink RX11 72 yX0_init ∈ BW := (bw2 133 (by decide +kernel) rfl)
theorem ml_X11_81 : Cond.methodLink RX11 81 yX1_init ∈ BW := (bw2 170 (by decide +kernel) rfl)
theorem ml_X11_90 : Cond.methodLink RX11 90 yX10_init ∈ BW := (bw2 231 (by decide +kernel) rfl)
theorem oi_inst : Cond.instanceMethod objectInit ∈ BW := (bw1 31 (by decide +kernel) rfl)
theorem oi_code : Cond.code objectInit ⟨#[0xb1]⟩ 1 none ∈ BW := (bw1 32 (by decide +kernel) rfl)
theorem ol_X11_3 : Cond.methodLink RX11 3 objectInit ∈ BW := (bw1 30 (by decide +kernel) rfl)
theorem dv_7 : ∀ k, k < 13 → defaultValue (tyX7 k) = dvt (fty 7 k) := by decide +kernel
theorem ck_X11_9 : Cond.classLink RX11 9 RX7 ∈ BW := (bw1 33 (by decide +kernel) rfl)
theorem is_7 : Cond.instantiable RX7 13 ∈ BW := (bw1 34 (by decide +kernel) rfl)
theorem in_7 : Cond.initialized RX7 ∈ BW := (bw1 2 (by decide +kernel) rfl)
theorem ol_X7_3 : Cond.methodLink RX7 3 objectInit ∈ BW := (bw1 38 (by decide +kernel) rfl)
theorem ac_int : Cond.arrayClass .int ∈ BW := (bw1 98 (by decide +kernel) rfl)
theorem ik_X7_init : IOK yX7_init cX7_init 1 0 := ⟨⟨(bw1 37 (by decide +kernel) rfl), (bw1 2 (by decide +kernel) rfl), by decide, by decide, by decide +kernel⟩, (bw1 36 (by decide +kernel) rfl), rfl⟩
theorem dv_9 : ∀ k, k < 8 → defaultValue (tyX9 k) = dvt (fty 9 k) := by decide +kernel
theorem ck_X11_16 : Cond.classLink RX11 16 RX9 ∈ BW := (bw1 99 (by decide +kernel) rfl)
theorem is_9 : Cond.instantiable RX9 8 ∈ BW := (bw1 100 (by decide +kernel) rfl)
theorem in_9 : Cond.initialized RX9 ∈ BW := (bw1 3 (by decide +kernel) rfl)
theorem ol_X9_3 : Cond.methodLink RX9 3 objectInit ∈ BW := (bw1 104 (by decide +kernel) rfl)
theorem ik_X9_init : IOK yX9_init cX9_init 1 0 := ⟨⟨(bw1 103 (by decide +kernel) rfl), (bw1 3 (by decide +kernel) rfl), by decide, by decide, by decide +kernel⟩, (bw1 102 (by decide +kernel) rfl), rfl⟩
theorem dv_6 : ∀ k, k < 10 → defaultValue (tyX6 k) = dvt (fty 6 k) := by decide +kernel
theorem ck_X11_23 : Cond.classLink RX11 23 RX6 ∈ BW := (bw1 134 (by decide +kernel) rfl)
theorem is_6 : Cond.instantiable RX6 10 ∈ BW := (bw1 135 (by decide +kernel) rfl)
theorem in_6 : Cond.initialized RX6 ∈ BW := (bw1 4 (by decide +kernel) rfl)
theorem ol_X6_3 : Cond.methodLink RX6 3 objectInit ∈ BW := (bw1 139 (by decide +kernel) rfl)
theorem ck_X6_27 : Cond.classLink RX6 27 RX8 ∈ BW := (bw1 140 (by decide +kernel) rfl)
theorem dv_8 : ∀ k, k < 7 → defaultValue (tyX8 k) = dvt (fty 8 k) := by decide +kernel
theorem is_8 : Cond.instantiable RX8 7 ∈ BW := (bw1 142 (by decide +kernel) rfl)
theorem in_8 : Cond.initialized RX8 ∈ BW := (bw1 5 (by decide +kernel) rfl)
theorem ol_X8_3 : Cond.methodLink RX8 3 objectInit ∈ BW := (bw1 146 (by decide +kernel) rfl)
theorem ik_X8_init : IOK yX8_init cX8_init 1 0 := ⟨⟨(bw1 145 (by decide +kernel) rfl), (bw1 5 (by decide +kernel) rfl), by decide, by decide, by decide +kernel⟩, (bw1 144 (by decide +kernel) rfl), rfl⟩
theorem ik_X6_init : IOK yX6_init cX6_init 2 0 := ⟨⟨(bw1 138 (by decide +kernel) rfl), (bw1 4 (by decide +kernel) rfl), by decide, by decide, by decide +kernel⟩, (bw1 137 (by decide +kernel) rfl), rfl⟩
theorem dv_5 : ∀ k, k < 3 → defaultValue (tyX5 k) = dvt (fty 5 k) := by decide +kernel
theorem ck_X11_30 : Cond.classLink RX11 30 RX5 ∈ BW := (bw1 219 (by decide +kernel) rfl)
theorem is_5 : Cond.instantiable RX5 3 ∈ BW := (bw1 220 (by decide +kernel) rfl)
theorem in_5 : Cond.initialized RX5 ∈ BW := (bw1 6 (by decide +kernel) rfl)
theorem ol_X5_3 : Cond.methodLink RX5 3 objectInit ∈ BW := (bw1 224 (by decide +kernel) rfl)
theorem ik_X5_init : IOK yX5_init cX5_init 3 2 := ⟨⟨(bw1 223 (by decide +kernel) rfl), (bw1 6 (by decide +kernel) rfl), by decide, by decide, by decide +kernel⟩, (bw1 222 (by decide +kernel) rfl), rfl⟩
theorem dv_4 : ∀ k, k < 4 → defaultValue (tyX4 k) = dvt (fty 4 k) := by decide +kernel
theorem ck_X11_43 : Cond.classLink RX11 43 RX4 ∈ BW := (bw1 235 (by decide +kernel) rfl)
theorem is_4 : Cond.instantiable RX4 4 ∈ BW := (bw1 236 (by decide +kernel) rfl)
theorem in_4 : Cond.initialized RX4 ∈ BW := (bw1 7 (by decide +kernel) rfl)
theorem ol_X4_3 : Cond.methodLink RX4 3 objectInit ∈ BW := (bw2 0 (by decide +kernel) rfl)
theorem ik_X4_init : IOK yX4_init cX4_init 2 1 := ⟨⟨(bw1 239 (by decide +kernel) rfl), (bw1 7 (by decide +kernel) rfl), by decide, by decide, by decide +kernel⟩, (bw1 238 (by decide +kernel) rfl), rfl⟩
theorem dv_3 : ∀ k, k < 9 → defaultValue (tyX3 k) = dvt (fty 3 k) := by decide +kernel
theorem ck_X11_52 : Cond.classLink RX11 52 RX3 ∈ BW := (bw2 20 (by decide +kernel) rfl)
theorem is_3 : Cond.instantiable RX3 9 ∈ BW := (bw2 21 (by decide +kernel) rfl)
theorem in_3 : Cond.initialized RX3 ∈ BW := (bw1 8 (by decide +kernel) rfl)
theorem ol_X3_3 : Cond.methodLink RX3 3 objectInit ∈ BW := (bw2 25 (by decide +kernel) rfl)
theorem ik_X3_init : IOK yX3_init cX3_init 2 1 := ⟨⟨(bw2 24 (by decide +kernel) rfl), (bw1 8 (by decide +kernel) rfl), by decide, by decide, by decide +kernel⟩, (bw2 23 (by decide +kernel) rfl), rfl⟩
theorem dv_2 : ∀ k, k < 17 → defaultValue (tyX2 k) = dvt (fty 2 k) := by decide +kernel
theorem ck_X11_61 : Cond.classLink RX11 61 RX2 ∈ BW := (bw2 65 (by decide +kernel) rfl)
theorem is_2 : Cond.instantiable RX2 17 ∈ BW := (bw2 66 (by decide +kernel) rfl)
theorem in_2 : Cond.initialized RX2 ∈ BW := (bw1 9 (by decide +kernel) rfl)
theorem ol_X2_3 : Cond.methodLink RX2 3 objectInit ∈ BW := (bw2 70 (by decide +kernel) rfl)
theorem ac_long : Cond.arrayClass .long ∈ BW := (bw2 130 (by decide +kernel) rfl)
theorem ik_X2_init : IOK yX2_init cX2_init 2 1 := ⟨⟨(bw2 69 (by decide +kernel) rfl), (bw1 9 (by decide +kernel) rfl), by decide, by decide, by decide +kernel⟩, (bw2 68 (by decide +kernel) rfl), rfl⟩
theorem dv_0 : ∀ k, k < 9 → defaultValue (tyX0 k) = dvt (fty 0 k) := by decide +kernel
theorem ck_X11_70 : Cond.classLink RX11 70 RX0 ∈ BW := (bw2 131 (by decide +kernel) rfl)
theorem is_0 : Cond.instantiable RX0 9 ∈ BW := (bw2 132 (by decide +kernel) rfl)
theorem in_0 : Cond.initialized RX0 ∈ BW := (bw1 10 (by decide +kernel) rfl)
theorem ol_X0_3 : Cond.methodLink RX0 3 objectInit ∈ BW := (bw2 136 (by decide +kernel) rfl)
theorem ck_X0_31 : Cond.classLink RX0 31 RX3 ∈ BW := (bw2 137 (by decide +kernel) rfl)
theorem ik_X0_init : IOK yX0_init cX0_init 5 4 := ⟨⟨(bw2 135 (by decide +kernel) rfl), (bw1 10 (by decide +kernel) rfl), by decide, by decide, by decide +kernel⟩, (bw2 134 (by decide +kernel) rfl), rfl⟩
theorem dv_1 : ∀ k, k < 18 → defaultValue (tyX1 k) = dvt (fty 1 k) := by decide +kernel
theorem ck_X11_79 : Cond.classLink RX11 79 RX1 ∈ BW := (bw2 168 (by decide +kernel) rfl)
theorem is_1 : Cond.instantiable RX1 18 ∈ BW := (bw2 169 (by decide +kernel) rfl)
theorem in_1 : Cond.initialized RX1 ∈ BW := (bw1 11 (by decide +kernel) rfl)
theorem ol_X1_3 : Cond.methodLink RX1 3 objectInit ∈ BW := (bw2 173 (by decide +kernel) rfl)
theorem ik_X1_init : IOK yX1_init cX1_init 3 2 := ⟨⟨(bw2 172 (by decide +kernel) rfl), (bw1 11 (by decide +kernel) rfl), by decide, by decide, by decide +kernel⟩, (bw2 171 (by decide +kernel) rfl), rfl⟩
theorem dv_10 : ∀ k, k < 16 → defaultValue (tyX10 k) = dvt (fty 10 k) := by decide +kernel
theorem ck_X11_88 : Cond.classLink RX11 88 RX10 ∈ BW := (bw2 229 (by decide +kernel) rfl)
theorem is_10 : Cond.instantiable RX10 16 ∈ BW := (bw2 230 (by decide +kernel) rfl)
theorem in_10 : Cond.initialized RX10 ∈ BW := (bw1 12 (by decide +kernel) rfl)
theorem ol_X10_3 : Cond.methodLink RX10 3 objectInit ∈ BW := (bw2 234 (by decide +kernel) rfl)
theorem ik_X10_init : IOK yX10_init cX10_init 5 4 := ⟨⟨(bw2 233 (by decide +kernel) rfl), (bw1 12 (by decide +kernel) rfl), by decide, by decide, by decide +kernel⟩, (bw2 232 (by decide +kernel) rfl), rfl⟩
theorem ol_X12_7 : Cond.methodLink RX12 7 objectInit ∈ BW := (bw7 114 (by decide +kernel) rfl)
theorem ac_boolean : Cond.arrayClass .boolean ∈ BW := (bw8 146 (by decide +kernel) rfl)
theorem ac_byte : Cond.arrayClass .byte ∈ BW := (bw4 194 (by decide +kernel) rfl)
/-- a row filled -/
def fillM (μ : Mem) (a len : Nat) (v : Int) : Mem := (fun c j => if c = a ∧ 0 ≤ j ∧ j < (len : Int) then Int32.ofInt v else μ.1 c j, μ.2)
theorem k_fill {l : Launch} {Γ : Gam} {g n : Nat} {μ : Mem} {a len : Nat} {v : Int} (hk : KT a = (1, len)) (hn : a < n) : CT l Γ yX11_fill cX11_fill 3 none 0 0 0 0 [vr Γ a, vi v] g n μ (pM (fillM μ a len v)) := by
  refine SW.ct (by decide) (Nat.le_of_ble_eq_true rfl) ?_
  have hL := len_lt hk
  have ew : w (len : Int) = len := w_nat (by omega)
  refine z_sub (lv' := [(0, vr Γ a), (1, vi v)]) [0, 1] rfl ?_
  have key : ∀ (k i : Nat) (ν : Mem), len - i = k → i ≤ len → fillM ν a i v = fillM μ a i v → (∀ (c : Nat) (j : Int), ¬ (c = a ∧ 0 ≤ j ∧ j < (i : Int)) → ν.1 c j = μ.1 c j) → (∀ (c : Nat) (j : Int), (c = a ∧ 0 ≤ j ∧ j < (i : Int)) → ν.1 c j = Int32.ofInt v) → ν.2 = μ.2 → SW l Γ yX11_fill.cls cX11_fill (3, none, yX11_fill.name, { frames := 0, cells := 0, slots := 0, locals := 0 }, n + 0, 0, 0) (pM (fillM μ a len v)) g n 0 0 ν 2 [(2, vi (i : Int)), (0, vr Γ a), (1, vi v)] [] := by
    intro k
    induction k with
    | zero =>
      intro i ν hki hi _ h1 h2 h3
      have ei : w (i : Int) = i := w_nat (by omega)
      refine z_iload_n dX11_fill_2 rfl 0 rfl ?_
      refine z_rload_n dX11_fill_3 rfl 1 rfl ?_
      refine z_alen dX11_fill_4 hk (by decide) hn ?_
      refine z_icmp_ge_F (tgt := 18) dX11_fill_5 (by decide) (by rw [ew, ei]; omega) ?_
      refine z_vret rfl dX11_fill_18 rfl rfl rfl ⟨rfl, ?_⟩
      refine Prod.ext ?_ h3
      funext c j
      show ν.1 c j = if c = a ∧ 0 ≤ j ∧ j < (len : Int) then Int32.ofInt v else μ.1 c j
      have : i = len := by omega
      subst this
      by_cases hc : c = a ∧ 0 ≤ j ∧ j < (i : Int)
      · rw [if_pos hc]; exact h2 c j hc
      · rw [if_neg hc]; exact h1 c j hc
    | succ k ih =>
      intro i ν hki hi _ h1 h2 h3
      have ei : w (i : Int) = i := w_nat (by omega)
      refine z_iload_n dX11_fill_2 rfl 0 rfl ?_
      refine z_rload_n dX11_fill_3 rfl 1 rfl ?_
      refine z_alen dX11_fill_4 hk (by decide) hn ?_
      refine z_icmp_ge_T (tgt := 18) dX11_fill_5 (by decide) (by rw [ew, ei]; omega) ?_
      refine z_rload_n dX11_fill_8 rfl 1 rfl ?_
      refine z_iload_n dX11_fill_9 rfl 0 rfl ?_
      refine z_iload_n dX11_fill_10 rfl 2 rfl ?_
      refine z_iast dX11_fill_11 hk hn (by rw [ei]; omega) (by rw [ei]; omega) ?_
      refine z_iinc (j := 0) (lv' := [(2, vi ((i : Int) + 1)), (0, vr Γ a), (1, vi v)]) dX11_fill_12 rfl (Nat.le_of_ble_eq_true rfl) rfl ?_
      refine z_goto (tgt := 2) dX11_fill_15 (by decide) ?_
      have g1 : ∀ (c : Nat) (j : Int), (sI ν a (w (i : Int)) v).1 c j = if c = a ∧ j = (i : Int) then Int32.ofInt v else ν.1 c j := by intro c j; rw [ei]; rfl
      refine ih (i + 1) _ (by omega) (by omega) ?_ ?_ ?_ h3
      · refine Prod.ext ?_ h3
        funext c j
        show (if _ then _ else _) = (if _ then _ else _)
        by_cases hc : c = a ∧ 0 ≤ j ∧ j < ((i + 1 : Nat) : Int)
        · rw [if_pos hc, if_pos hc]
        · rw [if_neg hc, if_neg hc, g1, if_neg (by omega)]; exact h1 c j (by omega)
      · intro c j hc
        rw [g1, if_neg (by omega)]
        exact h1 c j (by omega)
      · intro c j hc
        rw [g1]
        by_cases hj : c = a ∧ j = (i : Int)
        · rw [if_pos hj]
        · rw [if_neg hj]; exact h2 c j (by omega)
  refine z_iconst dX11_fill_0 ?_
  refine z_istore_n (lv' := [(2, vi 0), (0, vr Γ a), (1, vi v)]) dX11_fill_1 rfl (Nat.le_of_ble_eq_true rfl) rfl ?_
  exact key len 0 μ (by omega) (by omega) rfl (fun _ _ _ => rfl) (fun c j h => absurd h (by omega)) rfl
def t_Reg_1 (μ : Mem) : Mem := sI (sR (clr (sR (clr (sR (clr (sR (clr (sR (clr (sR (clr (sR (clr (sR (clr (μ) 2) 1128 0 (some 2)) 3) 1129 0 (some 3)) 4) 1130 0 (some 4)) 5) 1131 0 (some 5)) 6) 1132 0 (some 6)) 7) 1133 0 (some 7)) 8) 1134 0 (some 8)) 9) 1135 0 (some 9)) 1140 0 (-1)
set_option maxRecDepth 20000 in
theorem k_Reg_1 {l : Launch} {Γ : Gam} {μ : Mem} : CT l Γ yX7_init cX7_init 1 none 1 21 8 3108 [vr Γ 1] 0 2 μ (pM (t_Reg_1 μ)) := by
  refine SW.ct (by decide) (Nat.le_of_ble_eq_true rfl) ?_
  refine z_sub (lv' := [(0, vr Γ 1)]) [0] rfl ?_
  refine z_rload_n dX7_init_0 rfl 0 rfl ?_
  refine z_objInit ol_X7_3 oi_inst oi_code dX7_init_1 ⟨Nat.le_of_ble_eq_true rfl, Nat.le_of_ble_eq_true rfl⟩ ?_
  refine z_rload_n dX7_init_4 rfl 0 rfl ?_
  refine z_bipush dX7_init_5 (by decide) ?_
  refine z_newI (len := 12) dX7_init_7 kt_2 (by decide) ac_int (by decide) ⟨Nat.le_of_ble_eq_true rfl, Nat.le_of_ble_eq_true rfl⟩ ?_
  refine z_mm (fun μ_1 eμ_1 => ?_)
  refine z_putR (q := 1128) (j := 2) ff_7_0 (Or.inr ⟨rfl, rfl⟩) rfl rfl rfl dX7_init_9 kt_1 (Nat.le_of_ble_eq_true rfl) fl_X7_9 rfl ?_
  refine z_mm (fun μ_2 eμ_2 => ?_)
  refine z_rload_n dX7_init_12 rfl 0 rfl ?_
  refine z_bipush dX7_init_13 (by decide) ?_
  refine z_newI (len := 48) dX7_init_15 kt_3 (by decide) ac_int (by decide) ⟨Nat.le_of_ble_eq_true rfl, Nat.le_of_ble_eq_true rfl⟩ ?_
  refine z_mm (fun μ_3 eμ_3 => ?_)
  refine z_putR (q := 1129) (j := 3) ff_7_1 (Or.inr ⟨rfl, rfl⟩) rfl rfl rfl dX7_init_17 kt_1 (Nat.le_of_ble_eq_true rfl) fl_X7_15 rfl ?_
  refine z_mm (fun μ_4 eμ_4 => ?_)
  refine z_rload_n dX7_init_20 rfl 0 rfl ?_
  refine z_bipush dX7_init_21 (by decide) ?_
  refine z_newI (len := 48) dX7_init_23 kt_4 (by decide) ac_int (by decide) ⟨Nat.le_of_ble_eq_true rfl, Nat.le_of_ble_eq_true rfl⟩ ?_
  refine z_mm (fun μ_5 eμ_5 => ?_)
  refine z_putR (q := 1130) (j := 4) ff_7_2 (Or.inr ⟨rfl, rfl⟩) rfl rfl rfl dX7_init_25 kt_1 (Nat.le_of_ble_eq_true rfl) fl_X7_18 rfl ?_
  refine z_mm (fun μ_6 eμ_6 => ?_)
  refine z_rload_n dX7_init_28 rfl 0 rfl ?_
  refine z_sipush dX7_init_29 (by decide) ?_
  refine z_newI (len := 600) dX7_init_32 kt_5 (by decide) ac_int (by decide) ⟨Nat.le_of_ble_eq_true rfl, Nat.le_of_ble_eq_true rfl⟩ ?_
  refine z_mm (fun μ_7 eμ_7 => ?_)
  refine z_putR (q := 1131) (j := 5) ff_7_3 (Or.inr ⟨rfl, rfl⟩) rfl rfl rfl dX7_init_34 kt_1 (Nat.le_of_ble_eq_true rfl) fl_X7_21 rfl ?_
  refine z_mm (fun μ_8 eμ_8 => ?_)
  refine z_rload_n dX7_init_37 rfl 0 rfl ?_
  refine z_sipush dX7_init_38 (by decide) ?_
  refine z_newI (len := 600) dX7_init_41 kt_6 (by decide) ac_int (by decide) ⟨Nat.le_of_ble_eq_true rfl, Nat.le_of_ble_eq_true rfl⟩ ?_
  refine z_mm (fun μ_9 eμ_9 => ?_)
  refine z_putR (q := 1132) (j := 6) ff_7_4 (Or.inr ⟨rfl, rfl⟩) rfl rfl rfl dX7_init_43 kt_1 (Nat.le_of_ble_eq_true rfl) fl_X7_24 rfl ?_
  refine z_mm (fun μ_10 eμ_10 => ?_)
  refine z_rload_n dX7_init_46 rfl 0 rfl ?_
  refine z_sipush dX7_init_47 (by decide) ?_
  refine z_newI (len := 600) dX7_init_50 kt_7 (by decide) ac_int (by decide) ⟨Nat.le_of_ble_eq_true rfl, Nat.le_of_ble_eq_true rfl⟩ ?_
  refine z_mm (fun μ_11 eμ_11 => ?_)
  refine z_putR (q := 1133) (j := 7) ff_7_5 (Or.inr ⟨rfl, rfl⟩) rfl rfl rfl dX7_init_52 kt_1 (Nat.le_of_ble_eq_true rfl) fl_X7_27 rfl ?_
  refine z_mm (fun μ_12 eμ_12 => ?_)
  refine z_rload_n dX7_init_55 rfl 0 rfl ?_
  refine z_sipush dX7_init_56 (by decide) ?_
  refine z_newI (len := 600) dX7_init_59 kt_8 (by decide) ac_int (by decide) ⟨Nat.le_of_ble_eq_true rfl, Nat.le_of_ble_eq_true rfl⟩ ?_
  refine z_mm (fun μ_13 eμ_13 => ?_)
  refine z_putR (q := 1134) (j := 8) ff_7_6 (Or.inr ⟨rfl, rfl⟩) rfl rfl rfl dX7_init_61 kt_1 (Nat.le_of_ble_eq_true rfl) fl_X7_30 rfl ?_
  refine z_mm (fun μ_14 eμ_14 => ?_)
  refine z_rload_n dX7_init_64 rfl 0 rfl ?_
  refine z_sipush dX7_init_65 (by decide) ?_
  refine z_newI (len := 600) dX7_init_68 kt_9 (by decide) ac_int (by decide) ⟨Nat.le_of_ble_eq_true rfl, Nat.le_of_ble_eq_true rfl⟩ ?_
  refine z_mm (fun μ_15 eμ_15 => ?_)
  refine z_putR (q := 1135) (j := 9) ff_7_7 (Or.inr ⟨rfl, rfl⟩) rfl rfl rfl dX7_init_70 kt_1 (Nat.le_of_ble_eq_true rfl) fl_X7_33 rfl ?_
  refine z_mm (fun μ_16 eμ_16 => ?_)
  refine z_rload_n dX7_init_73 rfl 0 rfl ?_
  refine z_iconst dX7_init_74 ?_
  refine z_putI (q := 1140) (x := (-1)) ff_7_12 (Or.inl rfl) rfl dX7_init_75 kt_1 (Nat.le_of_ble_eq_true rfl) fl_X7_36 rfl ?_
  refine z_mm (fun μ_17 eμ_17 => ?_)
  exact z_vret rfl dX7_init_78 rfl rfl rfl ⟨rfl, by subst_vars; rfl⟩
def t_Tape_10 (μ : Mem) : Mem := sI (sR (clr (μ) 11) 2280 0 (some 11)) 2287 0 (-1)
set_option maxRecDepth 20000 in
theorem k_Tape_10 {l : Launch} {Γ : Gam} {μ : Mem} : CT l Γ yX9_init cX9_init 1 none 1 21 1 300 [vr Γ 10] 0 11 μ (pM (t_Tape_10 μ)) := by
  refine SW.ct (by decide) (Nat.le_of_ble_eq_true rfl) ?_
  refine z_sub (lv' := [(0, vr Γ 10)]) [0] rfl ?_
  refine z_rload_n dX9_init_0 rfl 0 rfl ?_
  refine z_objInit ol_X9_3 oi_inst oi_code dX9_init_1 ⟨Nat.le_of_ble_eq_true rfl, Nat.le_of_ble_eq_true rfl⟩ ?_
  refine z_rload_n dX9_init_4 rfl 0 rfl ?_
  refine z_sipush dX9_init_5 (by decide) ?_
  refine z_newI (len := 300) dX9_init_8 kt_11 (by decide) ac_int (by decide) ⟨Nat.le_of_ble_eq_true rfl, Nat.le_of_ble_eq_true rfl⟩ ?_
  refine z_mm (fun μ_1 eμ_1 => ?_)
  refine z_putR (q := 2280) (j := 11) ff_9_0 (Or.inr ⟨rfl, rfl⟩) rfl rfl rfl dX9_init_10 kt_10 (Nat.le_of_ble_eq_true rfl) fl_X9_9 rfl ?_
  refine z_mm (fun μ_2 eμ_2 => ?_)
  refine z_rload_n dX9_init_13 rfl 0 rfl ?_
  refine z_iconst dX9_init_14 ?_
  refine z_putI (q := 2287) (x := (-1)) ff_9_7 (Or.inl rfl) rfl dX9_init_15 kt_10 (Nat.le_of_ble_eq_true rfl) fl_X9_15 rfl ?_
  refine z_mm (fun μ_3 eμ_3 => ?_)
  exact z_vret rfl dX9_init_18 rfl rfl rfl ⟨rfl, by subst_vars; rfl⟩
def t_Rules_19 (μ : Mem) : Mem := sI (sI (sR (clr (sR (clr (sR (clr (μ) 20) 3432 0 (some 20)) 21) 3433 0 (some 21)) 22) 3434 0 (some 22)) 3436 0 (10)) 3437 0 (12)
set_option maxRecDepth 20000 in
theorem k_Rules_19 {l : Launch} {Γ : Gam} {μ : Mem} : CT l Γ yX8_init cX8_init 1 none 1 21 3 310 [vr Γ 19] 0 20 μ (pM (t_Rules_19 μ)) := by
  refine SW.ct (by decide) (Nat.le_of_ble_eq_true rfl) ?_
  refine z_sub (lv' := [(0, vr Γ 19)]) [0] rfl ?_
  refine z_rload_n dX8_init_0 rfl 0 rfl ?_
  refine z_objInit ol_X8_3 oi_inst oi_code dX8_init_1 ⟨Nat.le_of_ble_eq_true rfl, Nat.le_of_ble_eq_true rfl⟩ ?_
  refine z_rload_n dX8_init_4 rfl 0 rfl ?_
  refine z_sipush dX8_init_5 (by decide) ?_
  refine z_newI (len := 300) dX8_init_8 kt_20 (by decide) ac_int (by decide) ⟨Nat.le_of_ble_eq_true rfl, Nat.le_of_ble_eq_true rfl⟩ ?_
  refine z_mm (fun μ_1 eμ_1 => ?_)
  refine z_putR (q := 3432) (j := 20) ff_8_0 (Or.inr ⟨rfl, rfl⟩) rfl rfl rfl dX8_init_10 kt_19 (Nat.le_of_ble_eq_true rfl) fl_X8_9 rfl ?_
  refine z_mm (fun μ_2 eμ_2 => ?_)
  refine z_rload_n dX8_init_13 rfl 0 rfl ?_
  refine z_iconst dX8_init_14 ?_
  refine z_newI (len := 5) dX8_init_15 kt_21 (by decide) ac_int (by decide) ⟨Nat.le_of_ble_eq_true rfl, Nat.le_of_ble_eq_true rfl⟩ ?_
  refine z_mm (fun μ_3 eμ_3 => ?_)
  refine z_putR (q := 3433) (j := 21) ff_8_1 (Or.inr ⟨rfl, rfl⟩) rfl rfl rfl dX8_init_17 kt_19 (Nat.le_of_ble_eq_true rfl) fl_X8_15 rfl ?_
  refine z_mm (fun μ_4 eμ_4 => ?_)
  refine z_rload_n dX8_init_20 rfl 0 rfl ?_
  refine z_iconst dX8_init_21 ?_
  refine z_newI (len := 5) dX8_init_22 kt_22 (by decide) ac_int (by decide) ⟨Nat.le_of_ble_eq_true rfl, Nat.le_of_ble_eq_true rfl⟩ ?_
  refine z_mm (fun μ_5 eμ_5 => ?_)
  refine z_putR (q := 3434) (j := 22) ff_8_2 (Or.inr ⟨rfl, rfl⟩) rfl rfl rfl dX8_init_24 kt_19 (Nat.le_of_ble_eq_true rfl) fl_X8_18 rfl ?_
  refine z_mm (fun μ_6 eμ_6 => ?_)
  refine z_rload_n dX8_init_27 rfl 0 rfl ?_
  refine z_bipush dX8_init_28 (by decide) ?_
  refine z_putI (q := 3436) (x := 10) ff_8_4 (Or.inl rfl) rfl dX8_init_30 kt_19 (Nat.le_of_ble_eq_true rfl) fl_X8_21 rfl ?_
  refine z_mm (fun μ_7 eμ_7 => ?_)
  refine z_rload_n dX8_init_33 rfl 0 rfl ?_
  refine z_bipush dX8_init_34 (by decide) ?_
  refine z_putI (q := 3437) (x := 12) ff_8_5 (Or.inl rfl) rfl dX8_init_36 kt_19 (Nat.le_of_ble_eq_true rfl) fl_X8_25 rfl ?_
  refine z_mm (fun μ_8 eμ_8 => ?_)
  exact z_vret rfl dX8_init_39 rfl rfl rfl ⟨rfl, by subst_vars; rfl⟩
def t_Rules_23 (μ : Mem) : Mem := sI (sI (sR (clr (sR (clr (sR (clr (μ) 24) 3944 0 (some 24)) 25) 3945 0 (some 25)) 26) 3946 0 (some 26)) 3948 0 (10)) 3949 0 (12)
set_option maxRecDepth 20000 in
theorem k_Rules_23 {l : Launch} {Γ : Gam} {μ : Mem} : CT l Γ yX8_init cX8_init 1 none 1 21 3 310 [vr Γ 23] 0 24 μ (pM (t_Rules_23 μ)) := by
  refine SW.ct (by decide) (Nat.le_of_ble_eq_true rfl) ?_
  refine z_sub (lv' := [(0, vr Γ 23)]) [0] rfl ?_
  refine z_rload_n dX8_init_0 rfl 0 rfl ?_
  refine z_objInit ol_X8_3 oi_inst oi_code dX8_init_1 ⟨Nat.le_of_ble_eq_true rfl, Nat.le_of_ble_eq_true rfl⟩ ?_
  refine z_rload_n dX8_init_4 rfl 0 rfl ?_
  refine z_sipush dX8_init_5 (by decide) ?_
  refine z_newI (len := 300) dX8_init_8 kt_24 (by decide) ac_int (by decide) ⟨Nat.le_of_ble_eq_true rfl, Nat.le_of_ble_eq_true rfl⟩ ?_
  refine z_mm (fun μ_1 eμ_1 => ?_)
  refine z_putR (q := 3944) (j := 24) ff_8_0 (Or.inr ⟨rfl, rfl⟩) rfl rfl rfl dX8_init_10 kt_23 (Nat.le_of_ble_eq_true rfl) fl_X8_9 rfl ?_
  refine z_mm (fun μ_2 eμ_2 => ?_)
  refine z_rload_n dX8_init_13 rfl 0 rfl ?_
  refine z_iconst dX8_init_14 ?_
  refine z_newI (len := 5) dX8_init_15 kt_25 (by decide) ac_int (by decide) ⟨Nat.le_of_ble_eq_true rfl, Nat.le_of_ble_eq_true rfl⟩ ?_
  refine z_mm (fun μ_3 eμ_3 => ?_)
  refine z_putR (q := 3945) (j := 25) ff_8_1 (Or.inr ⟨rfl, rfl⟩) rfl rfl rfl dX8_init_17 kt_23 (Nat.le_of_ble_eq_true rfl) fl_X8_15 rfl ?_
  refine z_mm (fun μ_4 eμ_4 => ?_)
  refine z_rload_n dX8_init_20 rfl 0 rfl ?_
  refine z_iconst dX8_init_21 ?_
  refine z_newI (len := 5) dX8_init_22 kt_26 (by decide) ac_int (by decide) ⟨Nat.le_of_ble_eq_true rfl, Nat.le_of_ble_eq_true rfl⟩ ?_
  refine z_mm (fun μ_5 eμ_5 => ?_)
  refine z_putR (q := 3946) (j := 26) ff_8_2 (Or.inr ⟨rfl, rfl⟩) rfl rfl rfl dX8_init_24 kt_23 (Nat.le_of_ble_eq_true rfl) fl_X8_18 rfl ?_
  refine z_mm (fun μ_6 eμ_6 => ?_)
  refine z_rload_n dX8_init_27 rfl 0 rfl ?_
  refine z_bipush dX8_init_28 (by decide) ?_
  refine z_putI (q := 3948) (x := 10) ff_8_4 (Or.inl rfl) rfl dX8_init_30 kt_23 (Nat.le_of_ble_eq_true rfl) fl_X8_21 rfl ?_
  refine z_mm (fun μ_7 eμ_7 => ?_)
  refine z_rload_n dX8_init_33 rfl 0 rfl ?_
  refine z_bipush dX8_init_34 (by decide) ?_
  refine z_putI (q := 3949) (x := 12) ff_8_5 (Or.inl rfl) rfl dX8_init_36 kt_23 (Nat.le_of_ble_eq_true rfl) fl_X8_25 rfl ?_
  refine z_mm (fun μ_8 eμ_8 => ?_)
  exact z_vret rfl dX8_init_39 rfl rfl rfl ⟨rfl, by subst_vars; rfl⟩
def t_Rules_27 (μ : Mem) : Mem := sI (sI (sR (clr (sR (clr (sR (clr (μ) 28) 4456 0 (some 28)) 29) 4457 0 (some 29)) 30) 4458 0 (some 30)) 4460 0 (10)) 4461 0 (12)
set_option maxRecDepth 20000 in
theorem k_Rules_27 {l : Launch} {Γ : Gam} {μ : Mem} : CT l Γ yX8_init cX8_init 1 none 1 21 3 310 [vr Γ 27] 0 28 μ (pM (t_Rules_27 μ)) := by
  refine SW.ct (by decide) (Nat.le_of_ble_eq_true rfl) ?_
  refine z_sub (lv' := [(0, vr Γ 27)]) [0] rfl ?_
  refine z_rload_n dX8_init_0 rfl 0 rfl ?_
  refine z_objInit ol_X8_3 oi_inst oi_code dX8_init_1 ⟨Nat.le_of_ble_eq_true rfl, Nat.le_of_ble_eq_true rfl⟩ ?_
  refine z_rload_n dX8_init_4 rfl 0 rfl ?_
  refine z_sipush dX8_init_5 (by decide) ?_
  refine z_newI (len := 300) dX8_init_8 kt_28 (by decide) ac_int (by decide) ⟨Nat.le_of_ble_eq_true rfl, Nat.le_of_ble_eq_true rfl⟩ ?_
  refine z_mm (fun μ_1 eμ_1 => ?_)
  refine z_putR (q := 4456) (j := 28) ff_8_0 (Or.inr ⟨rfl, rfl⟩) rfl rfl rfl dX8_init_10 kt_27 (Nat.le_of_ble_eq_true rfl) fl_X8_9 rfl ?_
  refine z_mm (fun μ_2 eμ_2 => ?_)
  refine z_rload_n dX8_init_13 rfl 0 rfl ?_
  refine z_iconst dX8_init_14 ?_
  refine z_newI (len := 5) dX8_init_15 kt_29 (by decide) ac_int (by decide) ⟨Nat.le_of_ble_eq_true rfl, Nat.le_of_ble_eq_true rfl⟩ ?_
  refine z_mm (fun μ_3 eμ_3 => ?_)
  refine z_putR (q := 4457) (j := 29) ff_8_1 (Or.inr ⟨rfl, rfl⟩) rfl rfl rfl dX8_init_17 kt_27 (Nat.le_of_ble_eq_true rfl) fl_X8_15 rfl ?_
  refine z_mm (fun μ_4 eμ_4 => ?_)
  refine z_rload_n dX8_init_20 rfl 0 rfl ?_
  refine z_iconst dX8_init_21 ?_
  refine z_newI (len := 5) dX8_init_22 kt_30 (by decide) ac_int (by decide) ⟨Nat.le_of_ble_eq_true rfl, Nat.le_of_ble_eq_true rfl⟩ ?_
  refine z_mm (fun μ_5 eμ_5 => ?_)
  refine z_putR (q := 4458) (j := 30) ff_8_2 (Or.inr ⟨rfl, rfl⟩) rfl rfl rfl dX8_init_24 kt_27 (Nat.le_of_ble_eq_true rfl) fl_X8_18 rfl ?_
  refine z_mm (fun μ_6 eμ_6 => ?_)
  refine z_rload_n dX8_init_27 rfl 0 rfl ?_
  refine z_bipush dX8_init_28 (by decide) ?_
  refine z_putI (q := 4460) (x := 10) ff_8_4 (Or.inl rfl) rfl dX8_init_30 kt_27 (Nat.le_of_ble_eq_true rfl) fl_X8_21 rfl ?_
  refine z_mm (fun μ_7 eμ_7 => ?_)
  refine z_rload_n dX8_init_33 rfl 0 rfl ?_
  refine z_bipush dX8_init_34 (by decide) ?_
  refine z_putI (q := 4461) (x := 12) ff_8_5 (Or.inl rfl) rfl dX8_init_36 kt_27 (Nat.le_of_ble_eq_true rfl) fl_X8_25 rfl ?_
  refine z_mm (fun μ_8 eμ_8 => ?_)
  exact z_vret rfl dX8_init_39 rfl rfl rfl ⟨rfl, by subst_vars; rfl⟩
def t_Rules_31 (μ : Mem) : Mem := sI (sI (sR (clr (sR (clr (sR (clr (μ) 32) 4968 0 (some 32)) 33) 4969 0 (some 33)) 34) 4970 0 (some 34)) 4972 0 (10)) 4973 0 (12)
set_option maxRecDepth 20000 in
theorem k_Rules_31 {l : Launch} {Γ : Gam} {μ : Mem} : CT l Γ yX8_init cX8_init 1 none 1 21 3 310 [vr Γ 31] 0 32 μ (pM (t_Rules_31 μ)) := by
  refine SW.ct (by decide) (Nat.le_of_ble_eq_true rfl) ?_
  refine z_sub (lv' := [(0, vr Γ 31)]) [0] rfl ?_
  refine z_rload_n dX8_init_0 rfl 0 rfl ?_
  refine z_objInit ol_X8_3 oi_inst oi_code dX8_init_1 ⟨Nat.le_of_ble_eq_true rfl, Nat.le_of_ble_eq_true rfl⟩ ?_
  refine z_rload_n dX8_init_4 rfl 0 rfl ?_
  refine z_sipush dX8_init_5 (by decide) ?_
  refine z_newI (len := 300) dX8_init_8 kt_32 (by decide) ac_int (by decide) ⟨Nat.le_of_ble_eq_true rfl, Nat.le_of_ble_eq_true rfl⟩ ?_
  refine z_mm (fun μ_1 eμ_1 => ?_)
  refine z_putR (q := 4968) (j := 32) ff_8_0 (Or.inr ⟨rfl, rfl⟩) rfl rfl rfl dX8_init_10 kt_31 (Nat.le_of_ble_eq_true rfl) fl_X8_9 rfl ?_
  refine z_mm (fun μ_2 eμ_2 => ?_)
  refine z_rload_n dX8_init_13 rfl 0 rfl ?_
  refine z_iconst dX8_init_14 ?_
  refine z_newI (len := 5) dX8_init_15 kt_33 (by decide) ac_int (by decide) ⟨Nat.le_of_ble_eq_true rfl, Nat.le_of_ble_eq_true rfl⟩ ?_
  refine z_mm (fun μ_3 eμ_3 => ?_)
  refine z_putR (q := 4969) (j := 33) ff_8_1 (Or.inr ⟨rfl, rfl⟩) rfl rfl rfl dX8_init_17 kt_31 (Nat.le_of_ble_eq_true rfl) fl_X8_15 rfl ?_
  refine z_mm (fun μ_4 eμ_4 => ?_)
  refine z_rload_n dX8_init_20 rfl 0 rfl ?_
  refine z_iconst dX8_init_21 ?_
  refine z_newI (len := 5) dX8_init_22 kt_34 (by decide) ac_int (by decide) ⟨Nat.le_of_ble_eq_true rfl, Nat.le_of_ble_eq_true rfl⟩ ?_
  refine z_mm (fun μ_5 eμ_5 => ?_)
  refine z_putR (q := 4970) (j := 34) ff_8_2 (Or.inr ⟨rfl, rfl⟩) rfl rfl rfl dX8_init_24 kt_31 (Nat.le_of_ble_eq_true rfl) fl_X8_18 rfl ?_
  refine z_mm (fun μ_6 eμ_6 => ?_)
  refine z_rload_n dX8_init_27 rfl 0 rfl ?_
  refine z_bipush dX8_init_28 (by decide) ?_
  refine z_putI (q := 4972) (x := 10) ff_8_4 (Or.inl rfl) rfl dX8_init_30 kt_31 (Nat.le_of_ble_eq_true rfl) fl_X8_21 rfl ?_
  refine z_mm (fun μ_7 eμ_7 => ?_)
  refine z_rload_n dX8_init_33 rfl 0 rfl ?_
  refine z_bipush dX8_init_34 (by decide) ?_
  refine z_putI (q := 4973) (x := 12) ff_8_5 (Or.inl rfl) rfl dX8_init_36 kt_31 (Nat.le_of_ble_eq_true rfl) fl_X8_25 rfl ?_
  refine z_mm (fun μ_8 eμ_8 => ?_)
  exact z_vret rfl dX8_init_39 rfl rfl rfl ⟨rfl, by subst_vars; rfl⟩
def t_Rules_35 (μ : Mem) : Mem := sI (sI (sR (clr (sR (clr (sR (clr (μ) 36) 5480 0 (some 36)) 37) 5481 0 (some 37)) 38) 5482 0 (some 38)) 5484 0 (10)) 5485 0 (12)
set_option maxRecDepth 20000 in
theorem k_Rules_35 {l : Launch} {Γ : Gam} {μ : Mem} : CT l Γ yX8_init cX8_init 1 none 1 21 3 310 [vr Γ 35] 0 36 μ (pM (t_Rules_35 μ)) := by
  refine SW.ct (by decide) (Nat.le_of_ble_eq_true rfl) ?_
  refine z_sub (lv' := [(0, vr Γ 35)]) [0] rfl ?_
  refine z_rload_n dX8_init_0 rfl 0 rfl ?_
  refine z_objInit ol_X8_3 oi_inst oi_code dX8_init_1 ⟨Nat.le_of_ble_eq_true rfl, Nat.le_of_ble_eq_true rfl⟩ ?_
  refine z_rload_n dX8_init_4 rfl 0 rfl ?_
  refine z_sipush dX8_init_5 (by decide) ?_
  refine z_newI (len := 300) dX8_init_8 kt_36 (by decide) ac_int (by decide) ⟨Nat.le_of_ble_eq_true rfl, Nat.le_of_ble_eq_true rfl⟩ ?_
  refine z_mm (fun μ_1 eμ_1 => ?_)
  refine z_putR (q := 5480) (j := 36) ff_8_0 (Or.inr ⟨rfl, rfl⟩) rfl rfl rfl dX8_init_10 kt_35 (Nat.le_of_ble_eq_true rfl) fl_X8_9 rfl ?_
  refine z_mm (fun μ_2 eμ_2 => ?_)
  refine z_rload_n dX8_init_13 rfl 0 rfl ?_
  refine z_iconst dX8_init_14 ?_
  refine z_newI (len := 5) dX8_init_15 kt_37 (by decide) ac_int (by decide) ⟨Nat.le_of_ble_eq_true rfl, Nat.le_of_ble_eq_true rfl⟩ ?_
  refine z_mm (fun μ_3 eμ_3 => ?_)
  refine z_putR (q := 5481) (j := 37) ff_8_1 (Or.inr ⟨rfl, rfl⟩) rfl rfl rfl dX8_init_17 kt_35 (Nat.le_of_ble_eq_true rfl) fl_X8_15 rfl ?_
  refine z_mm (fun μ_4 eμ_4 => ?_)
  refine z_rload_n dX8_init_20 rfl 0 rfl ?_
  refine z_iconst dX8_init_21 ?_
  refine z_newI (len := 5) dX8_init_22 kt_38 (by decide) ac_int (by decide) ⟨Nat.le_of_ble_eq_true rfl, Nat.le_of_ble_eq_true rfl⟩ ?_
  refine z_mm (fun μ_5 eμ_5 => ?_)
  refine z_putR (q := 5482) (j := 38) ff_8_2 (Or.inr ⟨rfl, rfl⟩) rfl rfl rfl dX8_init_24 kt_35 (Nat.le_of_ble_eq_true rfl) fl_X8_18 rfl ?_
  refine z_mm (fun μ_6 eμ_6 => ?_)
  refine z_rload_n dX8_init_27 rfl 0 rfl ?_
  refine z_bipush dX8_init_28 (by decide) ?_
  refine z_putI (q := 5484) (x := 10) ff_8_4 (Or.inl rfl) rfl dX8_init_30 kt_35 (Nat.le_of_ble_eq_true rfl) fl_X8_21 rfl ?_
  refine z_mm (fun μ_7 eμ_7 => ?_)
  refine z_rload_n dX8_init_33 rfl 0 rfl ?_
  refine z_bipush dX8_init_34 (by decide) ?_
  refine z_putI (q := 5485) (x := 12) ff_8_5 (Or.inl rfl) rfl dX8_init_36 kt_35 (Nat.le_of_ble_eq_true rfl) fl_X8_25 rfl ?_
  refine z_mm (fun μ_8 eμ_8 => ?_)
  exact z_vret rfl dX8_init_39 rfl rfl rfl ⟨rfl, by subst_vars; rfl⟩
def t_Rules_39 (μ : Mem) : Mem := sI (sI (sR (clr (sR (clr (sR (clr (μ) 40) 5992 0 (some 40)) 41) 5993 0 (some 41)) 42) 5994 0 (some 42)) 5996 0 (10)) 5997 0 (12)
set_option maxRecDepth 20000 in
theorem k_Rules_39 {l : Launch} {Γ : Gam} {μ : Mem} : CT l Γ yX8_init cX8_init 1 none 1 21 3 310 [vr Γ 39] 0 40 μ (pM (t_Rules_39 μ)) := by
  refine SW.ct (by decide) (Nat.le_of_ble_eq_true rfl) ?_
  refine z_sub (lv' := [(0, vr Γ 39)]) [0] rfl ?_
  refine z_rload_n dX8_init_0 rfl 0 rfl ?_
  refine z_objInit ol_X8_3 oi_inst oi_code dX8_init_1 ⟨Nat.le_of_ble_eq_true rfl, Nat.le_of_ble_eq_true rfl⟩ ?_
  refine z_rload_n dX8_init_4 rfl 0 rfl ?_
  refine z_sipush dX8_init_5 (by decide) ?_
  refine z_newI (len := 300) dX8_init_8 kt_40 (by decide) ac_int (by decide) ⟨Nat.le_of_ble_eq_true rfl, Nat.le_of_ble_eq_true rfl⟩ ?_
  refine z_mm (fun μ_1 eμ_1 => ?_)
  refine z_putR (q := 5992) (j := 40) ff_8_0 (Or.inr ⟨rfl, rfl⟩) rfl rfl rfl dX8_init_10 kt_39 (Nat.le_of_ble_eq_true rfl) fl_X8_9 rfl ?_
  refine z_mm (fun μ_2 eμ_2 => ?_)
  refine z_rload_n dX8_init_13 rfl 0 rfl ?_
  refine z_iconst dX8_init_14 ?_
  refine z_newI (len := 5) dX8_init_15 kt_41 (by decide) ac_int (by decide) ⟨Nat.le_of_ble_eq_true rfl, Nat.le_of_ble_eq_true rfl⟩ ?_
  refine z_mm (fun μ_3 eμ_3 => ?_)
  refine z_putR (q := 5993) (j := 41) ff_8_1 (Or.inr ⟨rfl, rfl⟩) rfl rfl rfl dX8_init_17 kt_39 (Nat.le_of_ble_eq_true rfl) fl_X8_15 rfl ?_
  refine z_mm (fun μ_4 eμ_4 => ?_)
  refine z_rload_n dX8_init_20 rfl 0 rfl ?_
  refine z_iconst dX8_init_21 ?_
  refine z_newI (len := 5) dX8_init_22 kt_42 (by decide) ac_int (by decide) ⟨Nat.le_of_ble_eq_true rfl, Nat.le_of_ble_eq_true rfl⟩ ?_
  refine z_mm (fun μ_5 eμ_5 => ?_)
  refine z_putR (q := 5994) (j := 42) ff_8_2 (Or.inr ⟨rfl, rfl⟩) rfl rfl rfl dX8_init_24 kt_39 (Nat.le_of_ble_eq_true rfl) fl_X8_18 rfl ?_
  refine z_mm (fun μ_6 eμ_6 => ?_)
  refine z_rload_n dX8_init_27 rfl 0 rfl ?_
  refine z_bipush dX8_init_28 (by decide) ?_
  refine z_putI (q := 5996) (x := 10) ff_8_4 (Or.inl rfl) rfl dX8_init_30 kt_39 (Nat.le_of_ble_eq_true rfl) fl_X8_21 rfl ?_
  refine z_mm (fun μ_7 eμ_7 => ?_)
  refine z_rload_n dX8_init_33 rfl 0 rfl ?_
  refine z_bipush dX8_init_34 (by decide) ?_
  refine z_putI (q := 5997) (x := 12) ff_8_5 (Or.inl rfl) rfl dX8_init_36 kt_39 (Nat.le_of_ble_eq_true rfl) fl_X8_25 rfl ?_
  refine z_mm (fun μ_8 eμ_8 => ?_)
  exact z_vret rfl dX8_init_39 rfl rfl rfl ⟨rfl, by subst_vars; rfl⟩
def t_Rules_43 (μ : Mem) : Mem := sI (sI (sR (clr (sR (clr (sR (clr (μ) 44) 6504 0 (some 44)) 45) 6505 0 (some 45)) 46) 6506 0 (some 46)) 6508 0 (10)) 6509 0 (12)
set_option maxRecDepth 20000 in
theorem k_Rules_43 {l : Launch} {Γ : Gam} {μ : Mem} : CT l Γ yX8_init cX8_init 1 none 1 21 3 310 [vr Γ 43] 0 44 μ (pM (t_Rules_43 μ)) := by
  refine SW.ct (by decide) (Nat.le_of_ble_eq_true rfl) ?_
  refine z_sub (lv' := [(0, vr Γ 43)]) [0] rfl ?_
  refine z_rload_n dX8_init_0 rfl 0 rfl ?_
  refine z_objInit ol_X8_3 oi_inst oi_code dX8_init_1 ⟨Nat.le_of_ble_eq_true rfl, Nat.le_of_ble_eq_true rfl⟩ ?_
  refine z_rload_n dX8_init_4 rfl 0 rfl ?_
  refine z_sipush dX8_init_5 (by decide) ?_
  refine z_newI (len := 300) dX8_init_8 kt_44 (by decide) ac_int (by decide) ⟨Nat.le_of_ble_eq_true rfl, Nat.le_of_ble_eq_true rfl⟩ ?_
  refine z_mm (fun μ_1 eμ_1 => ?_)
  refine z_putR (q := 6504) (j := 44) ff_8_0 (Or.inr ⟨rfl, rfl⟩) rfl rfl rfl dX8_init_10 kt_43 (Nat.le_of_ble_eq_true rfl) fl_X8_9 rfl ?_
  refine z_mm (fun μ_2 eμ_2 => ?_)
  refine z_rload_n dX8_init_13 rfl 0 rfl ?_
  refine z_iconst dX8_init_14 ?_
  refine z_newI (len := 5) dX8_init_15 kt_45 (by decide) ac_int (by decide) ⟨Nat.le_of_ble_eq_true rfl, Nat.le_of_ble_eq_true rfl⟩ ?_
  refine z_mm (fun μ_3 eμ_3 => ?_)
  refine z_putR (q := 6505) (j := 45) ff_8_1 (Or.inr ⟨rfl, rfl⟩) rfl rfl rfl dX8_init_17 kt_43 (Nat.le_of_ble_eq_true rfl) fl_X8_15 rfl ?_
  refine z_mm (fun μ_4 eμ_4 => ?_)
  refine z_rload_n dX8_init_20 rfl 0 rfl ?_
  refine z_iconst dX8_init_21 ?_
  refine z_newI (len := 5) dX8_init_22 kt_46 (by decide) ac_int (by decide) ⟨Nat.le_of_ble_eq_true rfl, Nat.le_of_ble_eq_true rfl⟩ ?_
  refine z_mm (fun μ_5 eμ_5 => ?_)
  refine z_putR (q := 6506) (j := 46) ff_8_2 (Or.inr ⟨rfl, rfl⟩) rfl rfl rfl dX8_init_24 kt_43 (Nat.le_of_ble_eq_true rfl) fl_X8_18 rfl ?_
  refine z_mm (fun μ_6 eμ_6 => ?_)
  refine z_rload_n dX8_init_27 rfl 0 rfl ?_
  refine z_bipush dX8_init_28 (by decide) ?_
  refine z_putI (q := 6508) (x := 10) ff_8_4 (Or.inl rfl) rfl dX8_init_30 kt_43 (Nat.le_of_ble_eq_true rfl) fl_X8_21 rfl ?_
  refine z_mm (fun μ_7 eμ_7 => ?_)
  refine z_rload_n dX8_init_33 rfl 0 rfl ?_
  refine z_bipush dX8_init_34 (by decide) ?_
  refine z_putI (q := 6509) (x := 12) ff_8_5 (Or.inl rfl) rfl dX8_init_36 kt_43 (Nat.le_of_ble_eq_true rfl) fl_X8_25 rfl ?_
  refine z_mm (fun μ_8 eμ_8 => ?_)
  exact z_vret rfl dX8_init_39 rfl rfl rfl ⟨rfl, by subst_vars; rfl⟩
def t_Rules_47 (μ : Mem) : Mem := sI (sI (sR (clr (sR (clr (sR (clr (μ) 48) 7016 0 (some 48)) 49) 7017 0 (some 49)) 50) 7018 0 (some 50)) 7020 0 (10)) 7021 0 (12)
set_option maxRecDepth 20000 in
theorem k_Rules_47 {l : Launch} {Γ : Gam} {μ : Mem} : CT l Γ yX8_init cX8_init 1 none 1 21 3 310 [vr Γ 47] 0 48 μ (pM (t_Rules_47 μ)) := by
  refine SW.ct (by decide) (Nat.le_of_ble_eq_true rfl) ?_
  refine z_sub (lv' := [(0, vr Γ 47)]) [0] rfl ?_
  refine z_rload_n dX8_init_0 rfl 0 rfl ?_
  refine z_objInit ol_X8_3 oi_inst oi_code dX8_init_1 ⟨Nat.le_of_ble_eq_true rfl, Nat.le_of_ble_eq_true rfl⟩ ?_
  refine z_rload_n dX8_init_4 rfl 0 rfl ?_
  refine z_sipush dX8_init_5 (by decide) ?_
  refine z_newI (len := 300) dX8_init_8 kt_48 (by decide) ac_int (by decide) ⟨Nat.le_of_ble_eq_true rfl, Nat.le_of_ble_eq_true rfl⟩ ?_
  refine z_mm (fun μ_1 eμ_1 => ?_)
  refine z_putR (q := 7016) (j := 48) ff_8_0 (Or.inr ⟨rfl, rfl⟩) rfl rfl rfl dX8_init_10 kt_47 (Nat.le_of_ble_eq_true rfl) fl_X8_9 rfl ?_
  refine z_mm (fun μ_2 eμ_2 => ?_)
  refine z_rload_n dX8_init_13 rfl 0 rfl ?_
  refine z_iconst dX8_init_14 ?_
  refine z_newI (len := 5) dX8_init_15 kt_49 (by decide) ac_int (by decide) ⟨Nat.le_of_ble_eq_true rfl, Nat.le_of_ble_eq_true rfl⟩ ?_
  refine z_mm (fun μ_3 eμ_3 => ?_)
  refine z_putR (q := 7017) (j := 49) ff_8_1 (Or.inr ⟨rfl, rfl⟩) rfl rfl rfl dX8_init_17 kt_47 (Nat.le_of_ble_eq_true rfl) fl_X8_15 rfl ?_
  refine z_mm (fun μ_4 eμ_4 => ?_)
  refine z_rload_n dX8_init_20 rfl 0 rfl ?_
  refine z_iconst dX8_init_21 ?_
  refine z_newI (len := 5) dX8_init_22 kt_50 (by decide) ac_int (by decide) ⟨Nat.le_of_ble_eq_true rfl, Nat.le_of_ble_eq_true rfl⟩ ?_
  refine z_mm (fun μ_5 eμ_5 => ?_)
  refine z_putR (q := 7018) (j := 50) ff_8_2 (Or.inr ⟨rfl, rfl⟩) rfl rfl rfl dX8_init_24 kt_47 (Nat.le_of_ble_eq_true rfl) fl_X8_18 rfl ?_
  refine z_mm (fun μ_6 eμ_6 => ?_)
  refine z_rload_n dX8_init_27 rfl 0 rfl ?_
  refine z_bipush dX8_init_28 (by decide) ?_
  refine z_putI (q := 7020) (x := 10) ff_8_4 (Or.inl rfl) rfl dX8_init_30 kt_47 (Nat.le_of_ble_eq_true rfl) fl_X8_21 rfl ?_
  refine z_mm (fun μ_7 eμ_7 => ?_)
  refine z_rload_n dX8_init_33 rfl 0 rfl ?_
  refine z_bipush dX8_init_34 (by decide) ?_
  refine z_putI (q := 7021) (x := 12) ff_8_5 (Or.inl rfl) rfl dX8_init_36 kt_47 (Nat.le_of_ble_eq_true rfl) fl_X8_25 rfl ?_
  refine z_mm (fun μ_8 eμ_8 => ?_)
  exact z_vret rfl dX8_init_39 rfl rfl rfl ⟨rfl, by subst_vars; rfl⟩
def t_Rules_51 (μ : Mem) : Mem := sI (sI (sR (clr (sR (clr (sR (clr (μ) 52) 7528 0 (some 52)) 53) 7529 0 (some 53)) 54) 7530 0 (some 54)) 7532 0 (10)) 7533 0 (12)
set_option maxRecDepth 20000 in
theorem k_Rules_51 {l : Launch} {Γ : Gam} {μ : Mem} : CT l Γ yX8_init cX8_init 1 none 1 21 3 310 [vr Γ 51] 0 52 μ (pM (t_Rules_51 μ)) := by
  refine SW.ct (by decide) (Nat.le_of_ble_eq_true rfl) ?_
  refine z_sub (lv' := [(0, vr Γ 51)]) [0] rfl ?_
  refine z_rload_n dX8_init_0 rfl 0 rfl ?_
  refine z_objInit ol_X8_3 oi_inst oi_code dX8_init_1 ⟨Nat.le_of_ble_eq_true rfl, Nat.le_of_ble_eq_true rfl⟩ ?_
  refine z_rload_n dX8_init_4 rfl 0 rfl ?_
  refine z_sipush dX8_init_5 (by decide) ?_
  refine z_newI (len := 300) dX8_init_8 kt_52 (by decide) ac_int (by decide) ⟨Nat.le_of_ble_eq_true rfl, Nat.le_of_ble_eq_true rfl⟩ ?_
  refine z_mm (fun μ_1 eμ_1 => ?_)
  refine z_putR (q := 7528) (j := 52) ff_8_0 (Or.inr ⟨rfl, rfl⟩) rfl rfl rfl dX8_init_10 kt_51 (Nat.le_of_ble_eq_true rfl) fl_X8_9 rfl ?_
  refine z_mm (fun μ_2 eμ_2 => ?_)
  refine z_rload_n dX8_init_13 rfl 0 rfl ?_
  refine z_iconst dX8_init_14 ?_
  refine z_newI (len := 5) dX8_init_15 kt_53 (by decide) ac_int (by decide) ⟨Nat.le_of_ble_eq_true rfl, Nat.le_of_ble_eq_true rfl⟩ ?_
  refine z_mm (fun μ_3 eμ_3 => ?_)
  refine z_putR (q := 7529) (j := 53) ff_8_1 (Or.inr ⟨rfl, rfl⟩) rfl rfl rfl dX8_init_17 kt_51 (Nat.le_of_ble_eq_true rfl) fl_X8_15 rfl ?_
  refine z_mm (fun μ_4 eμ_4 => ?_)
  refine z_rload_n dX8_init_20 rfl 0 rfl ?_
  refine z_iconst dX8_init_21 ?_
  refine z_newI (len := 5) dX8_init_22 kt_54 (by decide) ac_int (by decide) ⟨Nat.le_of_ble_eq_true rfl, Nat.le_of_ble_eq_true rfl⟩ ?_
  refine z_mm (fun μ_5 eμ_5 => ?_)
  refine z_putR (q := 7530) (j := 54) ff_8_2 (Or.inr ⟨rfl, rfl⟩) rfl rfl rfl dX8_init_24 kt_51 (Nat.le_of_ble_eq_true rfl) fl_X8_18 rfl ?_
  refine z_mm (fun μ_6 eμ_6 => ?_)
  refine z_rload_n dX8_init_27 rfl 0 rfl ?_
  refine z_bipush dX8_init_28 (by decide) ?_
  refine z_putI (q := 7532) (x := 10) ff_8_4 (Or.inl rfl) rfl dX8_init_30 kt_51 (Nat.le_of_ble_eq_true rfl) fl_X8_21 rfl ?_
  refine z_mm (fun μ_7 eμ_7 => ?_)
  refine z_rload_n dX8_init_33 rfl 0 rfl ?_
  refine z_bipush dX8_init_34 (by decide) ?_
  refine z_putI (q := 7533) (x := 12) ff_8_5 (Or.inl rfl) rfl dX8_init_36 kt_51 (Nat.le_of_ble_eq_true rfl) fl_X8_25 rfl ?_
  refine z_mm (fun μ_8 eμ_8 => ?_)
  exact z_vret rfl dX8_init_39 rfl rfl rfl ⟨rfl, by subst_vars; rfl⟩
def t_Rules_55 (μ : Mem) : Mem := sI (sI (sR (clr (sR (clr (sR (clr (μ) 56) 8040 0 (some 56)) 57) 8041 0 (some 57)) 58) 8042 0 (some 58)) 8044 0 (10)) 8045 0 (12)
set_option maxRecDepth 20000 in
theorem k_Rules_55 {l : Launch} {Γ : Gam} {μ : Mem} : CT l Γ yX8_init cX8_init 1 none 1 21 3 310 [vr Γ 55] 0 56 μ (pM (t_Rules_55 μ)) := by
  refine SW.ct (by decide) (Nat.le_of_ble_eq_true rfl) ?_
  refine z_sub (lv' := [(0, vr Γ 55)]) [0] rfl ?_
  refine z_rload_n dX8_init_0 rfl 0 rfl ?_
  refine z_objInit ol_X8_3 oi_inst oi_code dX8_init_1 ⟨Nat.le_of_ble_eq_true rfl, Nat.le_of_ble_eq_true rfl⟩ ?_
  refine z_rload_n dX8_init_4 rfl 0 rfl ?_
  refine z_sipush dX8_init_5 (by decide) ?_
  refine z_newI (len := 300) dX8_init_8 kt_56 (by decide) ac_int (by decide) ⟨Nat.le_of_ble_eq_true rfl, Nat.le_of_ble_eq_true rfl⟩ ?_
  refine z_mm (fun μ_1 eμ_1 => ?_)
  refine z_putR (q := 8040) (j := 56) ff_8_0 (Or.inr ⟨rfl, rfl⟩) rfl rfl rfl dX8_init_10 kt_55 (Nat.le_of_ble_eq_true rfl) fl_X8_9 rfl ?_
  refine z_mm (fun μ_2 eμ_2 => ?_)
  refine z_rload_n dX8_init_13 rfl 0 rfl ?_
  refine z_iconst dX8_init_14 ?_
  refine z_newI (len := 5) dX8_init_15 kt_57 (by decide) ac_int (by decide) ⟨Nat.le_of_ble_eq_true rfl, Nat.le_of_ble_eq_true rfl⟩ ?_
  refine z_mm (fun μ_3 eμ_3 => ?_)
  refine z_putR (q := 8041) (j := 57) ff_8_1 (Or.inr ⟨rfl, rfl⟩) rfl rfl rfl dX8_init_17 kt_55 (Nat.le_of_ble_eq_true rfl) fl_X8_15 rfl ?_
  refine z_mm (fun μ_4 eμ_4 => ?_)
  refine z_rload_n dX8_init_20 rfl 0 rfl ?_
  refine z_iconst dX8_init_21 ?_
  refine z_newI (len := 5) dX8_init_22 kt_58 (by decide) ac_int (by decide) ⟨Nat.le_of_ble_eq_true rfl, Nat.le_of_ble_eq_true rfl⟩ ?_
  refine z_mm (fun μ_5 eμ_5 => ?_)
  refine z_putR (q := 8042) (j := 58) ff_8_2 (Or.inr ⟨rfl, rfl⟩) rfl rfl rfl dX8_init_24 kt_55 (Nat.le_of_ble_eq_true rfl) fl_X8_18 rfl ?_
  refine z_mm (fun μ_6 eμ_6 => ?_)
  refine z_rload_n dX8_init_27 rfl 0 rfl ?_
  refine z_bipush dX8_init_28 (by decide) ?_
  refine z_putI (q := 8044) (x := 10) ff_8_4 (Or.inl rfl) rfl dX8_init_30 kt_55 (Nat.le_of_ble_eq_true rfl) fl_X8_21 rfl ?_
  refine z_mm (fun μ_7 eμ_7 => ?_)
  refine z_rload_n dX8_init_33 rfl 0 rfl ?_
  refine z_bipush dX8_init_34 (by decide) ?_
  refine z_putI (q := 8045) (x := 12) ff_8_5 (Or.inl rfl) rfl dX8_init_36 kt_55 (Nat.le_of_ble_eq_true rfl) fl_X8_25 rfl ?_
  refine z_mm (fun μ_8 eμ_8 => ?_)
  exact z_vret rfl dX8_init_39 rfl rfl rfl ⟨rfl, by subst_vars; rfl⟩
def t_Rules_59 (μ : Mem) : Mem := sI (sI (sR (clr (sR (clr (sR (clr (μ) 60) 8552 0 (some 60)) 61) 8553 0 (some 61)) 62) 8554 0 (some 62)) 8556 0 (10)) 8557 0 (12)
set_option maxRecDepth 20000 in
theorem k_Rules_59 {l : Launch} {Γ : Gam} {μ : Mem} : CT l Γ yX8_init cX8_init 1 none 1 21 3 310 [vr Γ 59] 0 60 μ (pM (t_Rules_59 μ)) := by
  refine SW.ct (by decide) (Nat.le_of_ble_eq_true rfl) ?_
  refine z_sub (lv' := [(0, vr Γ 59)]) [0] rfl ?_
  refine z_rload_n dX8_init_0 rfl 0 rfl ?_
  refine z_objInit ol_X8_3 oi_inst oi_code dX8_init_1 ⟨Nat.le_of_ble_eq_true rfl, Nat.le_of_ble_eq_true rfl⟩ ?_
  refine z_rload_n dX8_init_4 rfl 0 rfl ?_
  refine z_sipush dX8_init_5 (by decide) ?_
  refine z_newI (len := 300) dX8_init_8 kt_60 (by decide) ac_int (by decide) ⟨Nat.le_of_ble_eq_true rfl, Nat.le_of_ble_eq_true rfl⟩ ?_
  refine z_mm (fun μ_1 eμ_1 => ?_)
  refine z_putR (q := 8552) (j := 60) ff_8_0 (Or.inr ⟨rfl, rfl⟩) rfl rfl rfl dX8_init_10 kt_59 (Nat.le_of_ble_eq_true rfl) fl_X8_9 rfl ?_
  refine z_mm (fun μ_2 eμ_2 => ?_)
  refine z_rload_n dX8_init_13 rfl 0 rfl ?_
  refine z_iconst dX8_init_14 ?_
  refine z_newI (len := 5) dX8_init_15 kt_61 (by decide) ac_int (by decide) ⟨Nat.le_of_ble_eq_true rfl, Nat.le_of_ble_eq_true rfl⟩ ?_
  refine z_mm (fun μ_3 eμ_3 => ?_)
  refine z_putR (q := 8553) (j := 61) ff_8_1 (Or.inr ⟨rfl, rfl⟩) rfl rfl rfl dX8_init_17 kt_59 (Nat.le_of_ble_eq_true rfl) fl_X8_15 rfl ?_
  refine z_mm (fun μ_4 eμ_4 => ?_)
  refine z_rload_n dX8_init_20 rfl 0 rfl ?_
  refine z_iconst dX8_init_21 ?_
  refine z_newI (len := 5) dX8_init_22 kt_62 (by decide) ac_int (by decide) ⟨Nat.le_of_ble_eq_true rfl, Nat.le_of_ble_eq_true rfl⟩ ?_
  refine z_mm (fun μ_5 eμ_5 => ?_)
  refine z_putR (q := 8554) (j := 62) ff_8_2 (Or.inr ⟨rfl, rfl⟩) rfl rfl rfl dX8_init_24 kt_59 (Nat.le_of_ble_eq_true rfl) fl_X8_18 rfl ?_
  refine z_mm (fun μ_6 eμ_6 => ?_)
  refine z_rload_n dX8_init_27 rfl 0 rfl ?_
  refine z_bipush dX8_init_28 (by decide) ?_
  refine z_putI (q := 8556) (x := 10) ff_8_4 (Or.inl rfl) rfl dX8_init_30 kt_59 (Nat.le_of_ble_eq_true rfl) fl_X8_21 rfl ?_
  refine z_mm (fun μ_7 eμ_7 => ?_)
  refine z_rload_n dX8_init_33 rfl 0 rfl ?_
  refine z_bipush dX8_init_34 (by decide) ?_
  refine z_putI (q := 8557) (x := 12) ff_8_5 (Or.inl rfl) rfl dX8_init_36 kt_59 (Nat.le_of_ble_eq_true rfl) fl_X8_25 rfl ?_
  refine z_mm (fun μ_8 eμ_8 => ?_)
  exact z_vret rfl dX8_init_39 rfl rfl rfl ⟨rfl, by subst_vars; rfl⟩
def t_Papers_12 (μ : Mem) : Mem := sR (t_Rules_59 (clr (sR (t_Rules_55 (clr (sR (t_Rules_51 (clr (sR (t_Rules_47 (clr (sR (t_Rules_43 (clr (sR (t_Rules_39 (clr (sR (t_Rules_35 (clr (sR (t_Rules_31 (clr (sR (t_Rules_27 (clr (sR (t_Rules_23 (clr (sR (t_Rules_19 (clr (sR (clr (sR (clr (sR (clr (sR (clr (sR (clr (sR (clr (μ) 13) 2536 0 (some 13)) 14) 2537 0 (some 14)) 15) 2538 0 (some 15)) 16) 2539 0 (some 16)) 17) 2540 0 (some 17)) 18) 2541 0 (some 18)) 19)) 2542 0 (some 19)) 23)) 18 0 (some 23)) 27)) 18 1 (some 27)) 31)) 18 2 (some 31)) 35)) 18 3 (some 35)) 39)) 18 4 (some 39)) 43)) 18 5 (some 43)) 47)) 18 6 (some 47)) 51)) 18 7 (some 51)) 55)) 18 8 (some 55)) 59)) 18 9 (some 59)
set_option maxRecDepth 20000 in
theorem k_Papers_12 {l : Launch} {Γ : Gam} {μ : Mem} : CT l Γ yX6_init cX6_init 2 none 2 41 50 4081 [vr Γ 12] 0 13 μ (pM (t_Papers_12 μ)) := by
  refine SW.ct (by decide) (Nat.le_of_ble_eq_true rfl) ?_
  refine z_sub (lv' := [(0, vr Γ 12)]) [0] rfl ?_
  refine z_rload_n dX6_init_0 rfl 0 rfl ?_
  refine z_objInit ol_X6_3 oi_inst oi_code dX6_init_1 ⟨Nat.le_of_ble_eq_true rfl, Nat.le_of_ble_eq_true rfl⟩ ?_
  refine z_rload_n dX6_init_4 rfl 0 rfl ?_
  refine z_bipush dX6_init_5 (by decide) ?_
  refine z_newI (len := 24) dX6_init_7 kt_13 (by decide) ac_int (by decide) ⟨Nat.le_of_ble_eq_true rfl, Nat.le_of_ble_eq_true rfl⟩ ?_
  refine z_mm (fun μ_1 eμ_1 => ?_)
  refine z_putR (q := 2536) (j := 13) ff_6_0 (Or.inr ⟨rfl, rfl⟩) rfl rfl rfl dX6_init_9 kt_12 (Nat.le_of_ble_eq_true rfl) fl_X6_9 rfl ?_
  refine z_mm (fun μ_2 eμ_2 => ?_)
  refine z_rload_n dX6_init_12 rfl 0 rfl ?_
  refine z_bipush dX6_init_13 (by decide) ?_
  refine z_newI (len := 40) dX6_init_15 kt_14 (by decide) ac_int (by decide) ⟨Nat.le_of_ble_eq_true rfl, Nat.le_of_ble_eq_true rfl⟩ ?_
  refine z_mm (fun μ_3 eμ_3 => ?_)
  refine z_putR (q := 2537) (j := 14) ff_6_1 (Or.inr ⟨rfl, rfl⟩) rfl rfl rfl dX6_init_17 kt_12 (Nat.le_of_ble_eq_true rfl) fl_X6_15 rfl ?_
  refine z_mm (fun μ_4 eμ_4 => ?_)
  refine z_rload_n dX6_init_20 rfl 0 rfl ?_
  refine z_bipush dX6_init_21 (by decide) ?_
  refine z_newI (len := 40) dX6_init_23 kt_15 (by decide) ac_int (by decide) ⟨Nat.le_of_ble_eq_true rfl, Nat.le_of_ble_eq_true rfl⟩ ?_
  refine z_mm (fun μ_5 eμ_5 => ?_)
  refine z_putR (q := 2538) (j := 15) ff_6_2 (Or.inr ⟨rfl, rfl⟩) rfl rfl rfl dX6_init_25 kt_12 (Nat.le_of_ble_eq_true rfl) fl_X6_18 rfl ?_
  refine z_mm (fun μ_6 eμ_6 => ?_)
  refine z_rload_n dX6_init_28 rfl 0 rfl ?_
  refine z_sipush dX6_init_29 (by decide) ?_
  refine z_newI (len := 240) dX6_init_32 kt_16 (by decide) ac_int (by decide) ⟨Nat.le_of_ble_eq_true rfl, Nat.le_of_ble_eq_true rfl⟩ ?_
  refine z_mm (fun μ_7 eμ_7 => ?_)
  refine z_putR (q := 2539) (j := 16) ff_6_3 (Or.inr ⟨rfl, rfl⟩) rfl rfl rfl dX6_init_34 kt_12 (Nat.le_of_ble_eq_true rfl) fl_X6_21 rfl ?_
  refine z_mm (fun μ_8 eμ_8 => ?_)
  refine z_rload_n dX6_init_37 rfl 0 rfl ?_
  refine z_sipush dX6_init_38 (by decide) ?_
  refine z_newI (len := 240) dX6_init_41 kt_17 (by decide) ac_int (by decide) ⟨Nat.le_of_ble_eq_true rfl, Nat.le_of_ble_eq_true rfl⟩ ?_
  refine z_mm (fun μ_9 eμ_9 => ?_)
  refine z_putR (q := 2540) (j := 17) ff_6_4 (Or.inr ⟨rfl, rfl⟩) rfl rfl rfl dX6_init_43 kt_12 (Nat.le_of_ble_eq_true rfl) fl_X6_24 rfl ?_
  refine z_mm (fun μ_10 eμ_10 => ?_)
  refine z_rload_n dX6_init_46 rfl 0 rfl ?_
  refine z_bipush dX6_init_47 (by decide) ?_
  refine z_newA (len := 10) dX6_init_49 kt_18 (by decide) ck_X6_27 (by decide) ⟨Nat.le_of_ble_eq_true rfl, Nat.le_of_ble_eq_true rfl⟩ ?_
  refine z_mm (fun μ_11 eμ_11 => ?_)
  refine z_putR (q := 2541) (j := 18) ff_6_5 (Or.inr ⟨rfl, rfl⟩) rfl rfl rfl dX6_init_52 kt_12 (Nat.le_of_ble_eq_true rfl) fl_X6_29 rfl ?_
  refine z_mm (fun μ_12 eμ_12 => ?_)
  refine z_rload_n dX6_init_55 rfl 0 rfl ?_
  refine z_new tyX8 dX6_init_56 kt_19 (by decide) rfl uw_8 rfl tyX8_ok dv_8 ck_X6_27 is_8 in_8 ⟨Nat.le_of_ble_eq_true rfl, Nat.le_of_ble_eq_true rfl⟩ ?_
  refine z_mm (fun μ_13 eμ_13 => ?_)
  refine z_dup dX6_init_59 rfl ?_
  refine z_callIN (k_Rules_19) ik_X8_init nw_X6_33 ⟨Nat.le_of_ble_eq_true rfl, Nat.le_of_ble_eq_true rfl⟩ ⟨Nat.le_of_ble_eq_true rfl, Nat.le_of_ble_eq_true rfl⟩ rfl rfl (Nat.le_of_ble_eq_true rfl) dX6_init_60 (fun v9 ν9 q9 => ?_)
  obtain ⟨rfl, rfl⟩ := q9
  refine z_mm (fun μ_14 eμ_14 => ?_)
  refine z_putR (q := 2542) (j := 19) ff_6_6 (Or.inr ⟨rfl, rfl⟩) rfl rfl rfl dX6_init_63 kt_12 (Nat.le_of_ble_eq_true rfl) fl_X6_34 rfl ?_
  refine z_mm (fun μ_15 eμ_15 => ?_)
  refine z_iconst dX6_init_66 ?_
  refine z_istore_n (lv' := [(1, vi 0), (0, vr Γ 12)]) dX6_init_67 rfl (Nat.le_of_ble_eq_true rfl) rfl ?_
  refine z_iload_n dX6_init_68 rfl 0 rfl ?_
  refine z_rload_n dX6_init_69 rfl 1 rfl ?_
  refine z_getR (q := 2541) (j := 18) ff_6_5 dX6_init_70 kt_12 (Nat.le_of_ble_eq_true rfl) fl_X6_29 rfl (by subst_vars; rfl) ?_
  refine z_alen dX6_init_73 kt_18 (by decide) (Nat.le_of_ble_eq_true rfl) ?_
  refine z_icmp_ge_T (tgt := 96) dX6_init_74 (by decide) (by decide) ?_
  refine z_rload_n dX6_init_77 rfl 1 rfl ?_
  refine z_getR (q := 2541) (j := 18) ff_6_5 dX6_init_78 kt_12 (Nat.le_of_ble_eq_true rfl) fl_X6_29 rfl (by subst_vars; rfl) ?_
  refine z_iload_n dX6_init_81 rfl 0 rfl ?_
  refine z_new tyX8 dX6_init_82 kt_23 (by decide) rfl uw_8 rfl tyX8_ok dv_8 ck_X6_27 is_8 in_8 ⟨Nat.le_of_ble_eq_true rfl, Nat.le_of_ble_eq_true rfl⟩ ?_
  refine z_mm (fun μ_16 eμ_16 => ?_)
  refine z_dup dX6_init_85 rfl ?_
  refine z_callIN (k_Rules_23) ik_X8_init nw_X6_33 ⟨Nat.le_of_ble_eq_true rfl, Nat.le_of_ble_eq_true rfl⟩ ⟨Nat.le_of_ble_eq_true rfl, Nat.le_of_ble_eq_true rfl⟩ rfl rfl (Nat.le_of_ble_eq_true rfl) dX6_init_86 (fun v9 ν9 q9 => ?_)
  obtain ⟨rfl, rfl⟩ := q9
  refine z_mm (fun μ_17 eμ_17 => ?_)
  refine z_aast (j := 23) dX6_init_89 kt_18 (Nat.le_of_ble_eq_true rfl) kt_23 (Nat.le_of_ble_eq_true rfl) (by decide) (by decide) ?_
  refine z_mm (fun μ_18 eμ_18 => ?_)
  refine z_iinc (j := 0) (lv' := [(1, vi 1), (0, vr Γ 12)]) dX6_init_90 rfl (Nat.le_of_ble_eq_true rfl) rfl ?_
  refine z_goto (tgt := 68) dX6_init_93 (by decide) ?_
  refine z_iload_n dX6_init_68 rfl 0 rfl ?_
  refine z_rload_n dX6_init_69 rfl 1 rfl ?_
  refine z_getR (q := 2541) (j := 18) ff_6_5 dX6_init_70 kt_12 (Nat.le_of_ble_eq_true rfl) fl_X6_29 rfl (by subst_vars; rfl) ?_
  refine z_alen dX6_init_73 kt_18 (by decide) (Nat.le_of_ble_eq_true rfl) ?_
  refine z_icmp_ge_T (tgt := 96) dX6_init_74 (by decide) (by decide) ?_
  refine z_rload_n dX6_init_77 rfl 1 rfl ?_
  refine z_getR (q := 2541) (j := 18) ff_6_5 dX6_init_78 kt_12 (Nat.le_of_ble_eq_true rfl) fl_X6_29 rfl (by subst_vars; rfl) ?_
  refine z_iload_n dX6_init_81 rfl 0 rfl ?_
  refine z_new tyX8 dX6_init_82 kt_27 (by decide) rfl uw_8 rfl tyX8_ok dv_8 ck_X6_27 is_8 in_8 ⟨Nat.le_of_ble_eq_true rfl, Nat.le_of_ble_eq_true rfl⟩ ?_
  refine z_mm (fun μ_19 eμ_19 => ?_)
  refine z_dup dX6_init_85 rfl ?_
  refine z_callIN (k_Rules_27) ik_X8_init nw_X6_33 ⟨Nat.le_of_ble_eq_true rfl, Nat.le_of_ble_eq_true rfl⟩ ⟨Nat.le_of_ble_eq_true rfl, Nat.le_of_ble_eq_true rfl⟩ rfl rfl (Nat.le_of_ble_eq_true rfl) dX6_init_86 (fun v9 ν9 q9 => ?_)
  obtain ⟨rfl, rfl⟩ := q9
  refine z_mm (fun μ_20 eμ_20 => ?_)
  refine z_aast (j := 27) dX6_init_89 kt_18 (Nat.le_of_ble_eq_true rfl) kt_27 (Nat.le_of_ble_eq_true rfl) (by decide) (by decide) ?_
  refine z_mm (fun μ_21 eμ_21 => ?_)
  refine z_iinc (j := 0) (lv' := [(1, vi 2), (0, vr Γ 12)]) dX6_init_90 rfl (Nat.le_of_ble_eq_true rfl) rfl ?_
  refine z_goto (tgt := 68) dX6_init_93 (by decide) ?_
  refine z_iload_n dX6_init_68 rfl 0 rfl ?_
  refine z_rload_n dX6_init_69 rfl 1 rfl ?_
  refine z_getR (q := 2541) (j := 18) ff_6_5 dX6_init_70 kt_12 (Nat.le_of_ble_eq_true rfl) fl_X6_29 rfl (by subst_vars; rfl) ?_
  refine z_alen dX6_init_73 kt_18 (by decide) (Nat.le_of_ble_eq_true rfl) ?_
  refine z_icmp_ge_T (tgt := 96) dX6_init_74 (by decide) (by decide) ?_
  refine z_rload_n dX6_init_77 rfl 1 rfl ?_
  refine z_getR (q := 2541) (j := 18) ff_6_5 dX6_init_78 kt_12 (Nat.le_of_ble_eq_true rfl) fl_X6_29 rfl (by subst_vars; rfl) ?_
  refine z_iload_n dX6_init_81 rfl 0 rfl ?_
  refine z_new tyX8 dX6_init_82 kt_31 (by decide) rfl uw_8 rfl tyX8_ok dv_8 ck_X6_27 is_8 in_8 ⟨Nat.le_of_ble_eq_true rfl, Nat.le_of_ble_eq_true rfl⟩ ?_
  refine z_mm (fun μ_22 eμ_22 => ?_)
  refine z_dup dX6_init_85 rfl ?_
  refine z_callIN (k_Rules_31) ik_X8_init nw_X6_33 ⟨Nat.le_of_ble_eq_true rfl, Nat.le_of_ble_eq_true rfl⟩ ⟨Nat.le_of_ble_eq_true rfl, Nat.le_of_ble_eq_true rfl⟩ rfl rfl (Nat.le_of_ble_eq_true rfl) dX6_init_86 (fun v9 ν9 q9 => ?_)
  obtain ⟨rfl, rfl⟩ := q9
  refine z_mm (fun μ_23 eμ_23 => ?_)
  refine z_aast (j := 31) dX6_init_89 kt_18 (Nat.le_of_ble_eq_true rfl) kt_31 (Nat.le_of_ble_eq_true rfl) (by decide) (by decide) ?_
  refine z_mm (fun μ_24 eμ_24 => ?_)
  refine z_iinc (j := 0) (lv' := [(1, vi 3), (0, vr Γ 12)]) dX6_init_90 rfl (Nat.le_of_ble_eq_true rfl) rfl ?_
  refine z_goto (tgt := 68) dX6_init_93 (by decide) ?_
  refine z_iload_n dX6_init_68 rfl 0 rfl ?_
  refine z_rload_n dX6_init_69 rfl 1 rfl ?_
  refine z_getR (q := 2541) (j := 18) ff_6_5 dX6_init_70 kt_12 (Nat.le_of_ble_eq_true rfl) fl_X6_29 rfl (by subst_vars; rfl) ?_
  refine z_alen dX6_init_73 kt_18 (by decide) (Nat.le_of_ble_eq_true rfl) ?_
  refine z_icmp_ge_T (tgt := 96) dX6_init_74 (by decide) (by decide) ?_
  refine z_rload_n dX6_init_77 rfl 1 rfl ?_
  refine z_getR (q := 2541) (j := 18) ff_6_5 dX6_init_78 kt_12 (Nat.le_of_ble_eq_true rfl) fl_X6_29 rfl (by subst_vars; rfl) ?_
  refine z_iload_n dX6_init_81 rfl 0 rfl ?_
  refine z_new tyX8 dX6_init_82 kt_35 (by decide) rfl uw_8 rfl tyX8_ok dv_8 ck_X6_27 is_8 in_8 ⟨Nat.le_of_ble_eq_true rfl, Nat.le_of_ble_eq_true rfl⟩ ?_
  refine z_mm (fun μ_25 eμ_25 => ?_)
  refine z_dup dX6_init_85 rfl ?_
  refine z_callIN (k_Rules_35) ik_X8_init nw_X6_33 ⟨Nat.le_of_ble_eq_true rfl, Nat.le_of_ble_eq_true rfl⟩ ⟨Nat.le_of_ble_eq_true rfl, Nat.le_of_ble_eq_true rfl⟩ rfl rfl (Nat.le_of_ble_eq_true rfl) dX6_init_86 (fun v9 ν9 q9 => ?_)
  obtain ⟨rfl, rfl⟩ := q9
  refine z_mm (fun μ_26 eμ_26 => ?_)
  refine z_aast (j := 35) dX6_init_89 kt_18 (Nat.le_of_ble_eq_true rfl) kt_35 (Nat.le_of_ble_eq_true rfl) (by decide) (by decide) ?_
  refine z_mm (fun μ_27 eμ_27 => ?_)
  refine z_iinc (j := 0) (lv' := [(1, vi 4), (0, vr Γ 12)]) dX6_init_90 rfl (Nat.le_of_ble_eq_true rfl) rfl ?_
  refine z_goto (tgt := 68) dX6_init_93 (by decide) ?_
  refine z_iload_n dX6_init_68 rfl 0 rfl ?_
  refine z_rload_n dX6_init_69 rfl 1 rfl ?_
  refine z_getR (q := 2541) (j := 18) ff_6_5 dX6_init_70 kt_12 (Nat.le_of_ble_eq_true rfl) fl_X6_29 rfl (by subst_vars; rfl) ?_
  refine z_alen dX6_init_73 kt_18 (by decide) (Nat.le_of_ble_eq_true rfl) ?_
  refine z_icmp_ge_T (tgt := 96) dX6_init_74 (by decide) (by decide) ?_
  refine z_rload_n dX6_init_77 rfl 1 rfl ?_
  refine z_getR (q := 2541) (j := 18) ff_6_5 dX6_init_78 kt_12 (Nat.le_of_ble_eq_true rfl) fl_X6_29 rfl (by subst_vars; rfl) ?_
  refine z_iload_n dX6_init_81 rfl 0 rfl ?_
  refine z_new tyX8 dX6_init_82 kt_39 (by decide) rfl uw_8 rfl tyX8_ok dv_8 ck_X6_27 is_8 in_8 ⟨Nat.le_of_ble_eq_true rfl, Nat.le_of_ble_eq_true rfl⟩ ?_
  refine z_mm (fun μ_28 eμ_28 => ?_)
  refine z_dup dX6_init_85 rfl ?_
  refine z_callIN (k_Rules_39) ik_X8_init nw_X6_33 ⟨Nat.le_of_ble_eq_true rfl, Nat.le_of_ble_eq_true rfl⟩ ⟨Nat.le_of_ble_eq_true rfl, Nat.le_of_ble_eq_true rfl⟩ rfl rfl (Nat.le_of_ble_eq_true rfl) dX6_init_86 (fun v9 ν9 q9 => ?_)
  obtain ⟨rfl, rfl⟩ := q9
  refine z_mm (fun μ_29 eμ_29 => ?_)
  refine z_aast (j := 39) dX6_init_89 kt_18 (Nat.le_of_ble_eq_true rfl) kt_39 (Nat.le_of_ble_eq_true rfl) (by decide) (by decide) ?_
  refine z_mm (fun μ_30 eμ_30 => ?_)
  refine z_iinc (j := 0) (lv' := [(1, vi 5), (0, vr Γ 12)]) dX6_init_90 rfl (Nat.le_of_ble_eq_true rfl) rfl ?_
  refine z_goto (tgt := 68) dX6_init_93 (by decide) ?_
  refine z_iload_n dX6_init_68 rfl 0 rfl ?_
  refine z_rload_n dX6_init_69 rfl 1 rfl ?_
  refine z_getR (q := 2541) (j := 18) ff_6_5 dX6_init_70 kt_12 (Nat.le_of_ble_eq_true rfl) fl_X6_29 rfl (by subst_vars; rfl) ?_
  refine z_alen dX6_init_73 kt_18 (by decide) (Nat.le_of_ble_eq_true rfl) ?_
  refine z_icmp_ge_T (tgt := 96) dX6_init_74 (by decide) (by decide) ?_
  refine z_rload_n dX6_init_77 rfl 1 rfl ?_
  refine z_getR (q := 2541) (j := 18) ff_6_5 dX6_init_78 kt_12 (Nat.le_of_ble_eq_true rfl) fl_X6_29 rfl (by subst_vars; rfl) ?_
  refine z_iload_n dX6_init_81 rfl 0 rfl ?_
  refine z_new tyX8 dX6_init_82 kt_43 (by decide) rfl uw_8 rfl tyX8_ok dv_8 ck_X6_27 is_8 in_8 ⟨Nat.le_of_ble_eq_true rfl, Nat.le_of_ble_eq_true rfl⟩ ?_
  refine z_mm (fun μ_31 eμ_31 => ?_)
  refine z_dup dX6_init_85 rfl ?_
  refine z_callIN (k_Rules_43) ik_X8_init nw_X6_33 ⟨Nat.le_of_ble_eq_true rfl, Nat.le_of_ble_eq_true rfl⟩ ⟨Nat.le_of_ble_eq_true rfl, Nat.le_of_ble_eq_true rfl⟩ rfl rfl (Nat.le_of_ble_eq_true rfl) dX6_init_86 (fun v9 ν9 q9 => ?_)
  obtain ⟨rfl, rfl⟩ := q9
  refine z_mm (fun μ_32 eμ_32 => ?_)
  refine z_aast (j := 43) dX6_init_89 kt_18 (Nat.le_of_ble_eq_true rfl) kt_43 (Nat.le_of_ble_eq_true rfl) (by decide) (by decide) ?_
  refine z_mm (fun μ_33 eμ_33 => ?_)
  refine z_iinc (j := 0) (lv' := [(1, vi 6), (0, vr Γ 12)]) dX6_init_90 rfl (Nat.le_of_ble_eq_true rfl) rfl ?_
  refine z_goto (tgt := 68) dX6_init_93 (by decide) ?_
  refine z_iload_n dX6_init_68 rfl 0 rfl ?_
  refine z_rload_n dX6_init_69 rfl 1 rfl ?_
  refine z_getR (q := 2541) (j := 18) ff_6_5 dX6_init_70 kt_12 (Nat.le_of_ble_eq_true rfl) fl_X6_29 rfl (by subst_vars; rfl) ?_
  refine z_alen dX6_init_73 kt_18 (by decide) (Nat.le_of_ble_eq_true rfl) ?_
  refine z_icmp_ge_T (tgt := 96) dX6_init_74 (by decide) (by decide) ?_
  refine z_rload_n dX6_init_77 rfl 1 rfl ?_
  refine z_getR (q := 2541) (j := 18) ff_6_5 dX6_init_78 kt_12 (Nat.le_of_ble_eq_true rfl) fl_X6_29 rfl (by subst_vars; rfl) ?_
  refine z_iload_n dX6_init_81 rfl 0 rfl ?_
  refine z_new tyX8 dX6_init_82 kt_47 (by decide) rfl uw_8 rfl tyX8_ok dv_8 ck_X6_27 is_8 in_8 ⟨Nat.le_of_ble_eq_true rfl, Nat.le_of_ble_eq_true rfl⟩ ?_
  refine z_mm (fun μ_34 eμ_34 => ?_)
  refine z_dup dX6_init_85 rfl ?_
  refine z_callIN (k_Rules_47) ik_X8_init nw_X6_33 ⟨Nat.le_of_ble_eq_true rfl, Nat.le_of_ble_eq_true rfl⟩ ⟨Nat.le_of_ble_eq_true rfl, Nat.le_of_ble_eq_true rfl⟩ rfl rfl (Nat.le_of_ble_eq_true rfl) dX6_init_86 (fun v9 ν9 q9 => ?_)
  obtain ⟨rfl, rfl⟩ := q9
  refine z_mm (fun μ_35 eμ_35 => ?_)
  refine z_aast (j := 47) dX6_init_89 kt_18 (Nat.le_of_ble_eq_true rfl) kt_47 (Nat.le_of_ble_eq_true rfl) (by decide) (by decide) ?_
  refine z_mm (fun μ_36 eμ_36 => ?_)
  refine z_iinc (j := 0) (lv' := [(1, vi 7), (0, vr Γ 12)]) dX6_init_90 rfl (Nat.le_of_ble_eq_true rfl) rfl ?_
  refine z_goto (tgt := 68) dX6_init_93 (by decide) ?_
  refine z_iload_n dX6_init_68 rfl 0 rfl ?_
  refine z_rload_n dX6_init_69 rfl 1 rfl ?_
  refine z_getR (q := 2541) (j := 18) ff_6_5 dX6_init_70 kt_12 (Nat.le_of_ble_eq_true rfl) fl_X6_29 rfl (by subst_vars; rfl) ?_
  refine z_alen dX6_init_73 kt_18 (by decide) (Nat.le_of_ble_eq_true rfl) ?_
  refine z_icmp_ge_T (tgt := 96) dX6_init_74 (by decide) (by decide) ?_
  refine z_rload_n dX6_init_77 rfl 1 rfl ?_
  refine z_getR (q := 2541) (j := 18) ff_6_5 dX6_init_78 kt_12 (Nat.le_of_ble_eq_true rfl) fl_X6_29 rfl (by subst_vars; rfl) ?_
  refine z_iload_n dX6_init_81 rfl 0 rfl ?_
  refine z_new tyX8 dX6_init_82 kt_51 (by decide) rfl uw_8 rfl tyX8_ok dv_8 ck_X6_27 is_8 in_8 ⟨Nat.le_of_ble_eq_true rfl, Nat.le_of_ble_eq_true rfl⟩ ?_
  refine z_mm (fun μ_37 eμ_37 => ?_)
  refine z_dup dX6_init_85 rfl ?_
  refine z_callIN (k_Rules_51) ik_X8_init nw_X6_33 ⟨Nat.le_of_ble_eq_true rfl, Nat.le_of_ble_eq_true rfl⟩ ⟨Nat.le_of_ble_eq_true rfl, Nat.le_of_ble_eq_true rfl⟩ rfl rfl (Nat.le_of_ble_eq_true rfl) dX6_init_86 (fun v9 ν9 q9 => ?_)
  obtain ⟨rfl, rfl⟩ := q9
  refine z_mm (fun μ_38 eμ_38 => ?_)
  refine z_aast (j := 51) dX6_init_89 kt_18 (Nat.le_of_ble_eq_true rfl) kt_51 (Nat.le_of_ble_eq_true rfl) (by decide) (by decide) ?_
  refine z_mm (fun μ_39 eμ_39 => ?_)
  refine z_iinc (j := 0) (lv' := [(1, vi 8), (0, vr Γ 12)]) dX6_init_90 rfl (Nat.le_of_ble_eq_true rfl) rfl ?_
  refine z_goto (tgt := 68) dX6_init_93 (by decide) ?_
  refine z_iload_n dX6_init_68 rfl 0 rfl ?_
  refine z_rload_n dX6_init_69 rfl 1 rfl ?_
  refine z_getR (q := 2541) (j := 18) ff_6_5 dX6_init_70 kt_12 (Nat.le_of_ble_eq_true rfl) fl_X6_29 rfl (by subst_vars; rfl) ?_
  refine z_alen dX6_init_73 kt_18 (by decide) (Nat.le_of_ble_eq_true rfl) ?_
  refine z_icmp_ge_T (tgt := 96) dX6_init_74 (by decide) (by decide) ?_
  refine z_rload_n dX6_init_77 rfl 1 rfl ?_
  refine z_getR (q := 2541) (j := 18) ff_6_5 dX6_init_78 kt_12 (Nat.le_of_ble_eq_true rfl) fl_X6_29 rfl (by subst_vars; rfl) ?_
  refine z_iload_n dX6_init_81 rfl 0 rfl ?_
  refine z_new tyX8 dX6_init_82 kt_55 (by decide) rfl uw_8 rfl tyX8_ok dv_8 ck_X6_27 is_8 in_8 ⟨Nat.le_of_ble_eq_true rfl, Nat.le_of_ble_eq_true rfl⟩ ?_
  refine z_mm (fun μ_40 eμ_40 => ?_)
  refine z_dup dX6_init_85 rfl ?_
  refine z_callIN (k_Rules_55) ik_X8_init nw_X6_33 ⟨Nat.le_of_ble_eq_true rfl, Nat.le_of_ble_eq_true rfl⟩ ⟨Nat.le_of_ble_eq_true rfl, Nat.le_of_ble_eq_true rfl⟩ rfl rfl (Nat.le_of_ble_eq_true rfl) dX6_init_86 (fun v9 ν9 q9 => ?_)
  obtain ⟨rfl, rfl⟩ := q9
  refine z_mm (fun μ_41 eμ_41 => ?_)
  refine z_aast (j := 55) dX6_init_89 kt_18 (Nat.le_of_ble_eq_true rfl) kt_55 (Nat.le_of_ble_eq_true rfl) (by decide) (by decide) ?_
  refine z_mm (fun μ_42 eμ_42 => ?_)
  refine z_iinc (j := 0) (lv' := [(1, vi 9), (0, vr Γ 12)]) dX6_init_90 rfl (Nat.le_of_ble_eq_true rfl) rfl ?_
  refine z_goto (tgt := 68) dX6_init_93 (by decide) ?_
  refine z_iload_n dX6_init_68 rfl 0 rfl ?_
  refine z_rload_n dX6_init_69 rfl 1 rfl ?_
  refine z_getR (q := 2541) (j := 18) ff_6_5 dX6_init_70 kt_12 (Nat.le_of_ble_eq_true rfl) fl_X6_29 rfl (by subst_vars; rfl) ?_
  refine z_alen dX6_init_73 kt_18 (by decide) (Nat.le_of_ble_eq_true rfl) ?_
  refine z_icmp_ge_T (tgt := 96) dX6_init_74 (by decide) (by decide) ?_
  refine z_rload_n dX6_init_77 rfl 1 rfl ?_
  refine z_getR (q := 2541) (j := 18) ff_6_5 dX6_init_78 kt_12 (Nat.le_of_ble_eq_true rfl) fl_X6_29 rfl (by subst_vars; rfl) ?_
  refine z_iload_n dX6_init_81 rfl 0 rfl ?_
  refine z_new tyX8 dX6_init_82 kt_59 (by decide) rfl uw_8 rfl tyX8_ok dv_8 ck_X6_27 is_8 in_8 ⟨Nat.le_of_ble_eq_true rfl, Nat.le_of_ble_eq_true rfl⟩ ?_
  refine z_mm (fun μ_43 eμ_43 => ?_)
  refine z_dup dX6_init_85 rfl ?_
  refine z_callIN (k_Rules_59) ik_X8_init nw_X6_33 ⟨Nat.le_of_ble_eq_true rfl, Nat.le_of_ble_eq_true rfl⟩ ⟨Nat.le_of_ble_eq_true rfl, Nat.le_of_ble_eq_true rfl⟩ rfl rfl (Nat.le_of_ble_eq_true rfl) dX6_init_86 (fun v9 ν9 q9 => ?_)
  obtain ⟨rfl, rfl⟩ := q9
  refine z_mm (fun μ_44 eμ_44 => ?_)
  refine z_aast (j := 59) dX6_init_89 kt_18 (Nat.le_of_ble_eq_true rfl) kt_59 (Nat.le_of_ble_eq_true rfl) (by decide) (by decide) ?_
  refine z_mm (fun μ_45 eμ_45 => ?_)
  refine z_iinc (j := 0) (lv' := [(1, vi 10), (0, vr Γ 12)]) dX6_init_90 rfl (Nat.le_of_ble_eq_true rfl) rfl ?_
  refine z_goto (tgt := 68) dX6_init_93 (by decide) ?_
  refine z_iload_n dX6_init_68 rfl 0 rfl ?_
  refine z_rload_n dX6_init_69 rfl 1 rfl ?_
  refine z_getR (q := 2541) (j := 18) ff_6_5 dX6_init_70 kt_12 (Nat.le_of_ble_eq_true rfl) fl_X6_29 rfl (by subst_vars; rfl) ?_
  refine z_alen dX6_init_73 kt_18 (by decide) (Nat.le_of_ble_eq_true rfl) ?_
  refine z_icmp_ge_F (tgt := 96) dX6_init_74 (by decide) (by decide) ?_
  exact z_vret rfl dX6_init_96 rfl rfl rfl ⟨rfl, by subst_vars; rfl⟩
def t_OrdR_63 (μ : Mem) : Mem := sR (sR (μ) 9064 0 (some 10)) 9065 0 (some 19)
set_option maxRecDepth 20000 in
theorem k_OrdR_63 {l : Launch} {Γ : Gam} {μ : Mem} : CT l Γ yX5_init cX5_init 3 none 1 21 0 0 [vr Γ 63, vr Γ 10, vr Γ 19] 0 64 μ (pM (t_OrdR_63 μ)) := by
  refine SW.ct (by decide) (Nat.le_of_ble_eq_true rfl) ?_
  refine z_sub (lv' := [(0, vr Γ 63), (1, vr Γ 10), (2, vr Γ 19)]) [0, 1, 2] rfl ?_
  refine z_rload_n dX5_init_0 rfl 0 rfl ?_
  refine z_objInit ol_X5_3 oi_inst oi_code dX5_init_1 ⟨Nat.le_of_ble_eq_true rfl, Nat.le_of_ble_eq_true rfl⟩ ?_
  refine z_rload_n dX5_init_4 rfl 0 rfl ?_
  refine z_rload_n dX5_init_5 rfl 1 rfl ?_
  refine z_putR (q := 9064) (j := 10) ff_5_0 (Or.inr ⟨rfl, rfl⟩) rfl rfl rfl dX5_init_6 kt_63 (Nat.le_of_ble_eq_true rfl) fl_X5_9 rfl ?_
  refine z_mm (fun μ_1 eμ_1 => ?_)
  refine z_rload_n dX5_init_9 rfl 0 rfl ?_
  refine z_rload_n dX5_init_10 rfl 2 rfl ?_
  refine z_putR (q := 9065) (j := 19) ff_5_1 (Or.inl rfl) rfl rfl rfl dX5_init_11 kt_63 (Nat.le_of_ble_eq_true rfl) fl_X5_15 rfl ?_
  refine z_mm (fun μ_2 eμ_2 => ?_)
  exact z_vret rfl dX5_init_14 rfl rfl rfl ⟨rfl, by subst_vars; rfl⟩
def t_LineR_64 (μ : Mem) : Mem := sR (sR (clr (sR (clr (μ) 65) 9193 0 (some 65)) 66) 9194 0 (some 66)) 9192 0 (some 10)
set_option maxRecDepth 20000 in
theorem k_LineR_64 {l : Launch} {Γ : Gam} {μ : Mem} : CT l Γ yX4_init cX4_init 2 none 1 21 2 24 [vr Γ 64, vr Γ 10] 0 65 μ (pM (t_LineR_64 μ)) := by
  refine SW.ct (by decide) (Nat.le_of_ble_eq_true rfl) ?_
  refine z_sub (lv' := [(0, vr Γ 64), (1, vr Γ 10)]) [0, 1] rfl ?_
  refine z_rload_n dX4_init_0 rfl 0 rfl ?_
  refine z_objInit ol_X4_3 oi_inst oi_code dX4_init_1 ⟨Nat.le_of_ble_eq_true rfl, Nat.le_of_ble_eq_true rfl⟩ ?_
  refine z_rload_n dX4_init_4 rfl 0 rfl ?_
  refine z_bipush dX4_init_5 (by decide) ?_
  refine z_newI (len := 12) dX4_init_7 kt_65 (by decide) ac_int (by decide) ⟨Nat.le_of_ble_eq_true rfl, Nat.le_of_ble_eq_true rfl⟩ ?_
  refine z_mm (fun μ_1 eμ_1 => ?_)
  refine z_putR (q := 9193) (j := 65) ff_4_1 (Or.inr ⟨rfl, rfl⟩) rfl rfl rfl dX4_init_9 kt_64 (Nat.le_of_ble_eq_true rfl) fl_X4_9 rfl ?_
  refine z_mm (fun μ_2 eμ_2 => ?_)
  refine z_rload_n dX4_init_12 rfl 0 rfl ?_
  refine z_bipush dX4_init_13 (by decide) ?_
  refine z_newI (len := 12) dX4_init_15 kt_66 (by decide) ac_int (by decide) ⟨Nat.le_of_ble_eq_true rfl, Nat.le_of_ble_eq_true rfl⟩ ?_
  refine z_mm (fun μ_3 eμ_3 => ?_)
  refine z_putR (q := 9194) (j := 66) ff_4_2 (Or.inr ⟨rfl, rfl⟩) rfl rfl rfl dX4_init_17 kt_64 (Nat.le_of_ble_eq_true rfl) fl_X4_15 rfl ?_
  refine z_mm (fun μ_4 eμ_4 => ?_)
  refine z_rload_n dX4_init_20 rfl 0 rfl ?_
  refine z_rload_n dX4_init_21 rfl 1 rfl ?_
  refine z_putR (q := 9192) (j := 10) ff_4_0 (Or.inr ⟨rfl, rfl⟩) rfl rfl rfl dX4_init_22 kt_64 (Nat.le_of_ble_eq_true rfl) fl_X4_18 rfl ?_
  refine z_mm (fun μ_5 eμ_5 => ?_)
  exact z_vret rfl dX4_init_25 rfl rfl rfl ⟨rfl, by subst_vars; rfl⟩
def t_Floor_67 (μ : Mem) : Mem := fillM (sR (sI (sR (clr (sR (clr (sR (clr (sR (clr (sR (clr (μ) 68) 9577 0 (some 68)) 69) 9578 0 (some 69)) 70) 9579 0 (some 70)) 71) 9580 0 (some 71)) 72) 9581 0 (some 72)) 9584 0 (-1)) 9576 0 (some 12)) 68 210 (-1)
set_option maxRecDepth 20000 in
theorem k_Floor_67 {l : Launch} {Γ : Gam} {μ : Mem} : CT l Γ yX3_init cX3_init 2 none 1 22 5 1135 [vr Γ 67, vr Γ 12] 0 68 μ (pM (t_Floor_67 μ)) := by
  refine SW.ct (by decide) (Nat.le_of_ble_eq_true rfl) ?_
  refine z_sub (lv' := [(0, vr Γ 67), (1, vr Γ 12)]) [0, 1] rfl ?_
  refine z_rload_n dX3_init_0 rfl 0 rfl ?_
  refine z_objInit ol_X3_3 oi_inst oi_code dX3_init_1 ⟨Nat.le_of_ble_eq_true rfl, Nat.le_of_ble_eq_true rfl⟩ ?_
  refine z_rload_n dX3_init_4 rfl 0 rfl ?_
  refine z_sipush dX3_init_5 (by decide) ?_
  refine z_newI (len := 210) dX3_init_8 kt_68 (by decide) ac_int (by decide) ⟨Nat.le_of_ble_eq_true rfl, Nat.le_of_ble_eq_true rfl⟩ ?_
  refine z_mm (fun μ_1 eμ_1 => ?_)
  refine z_putR (q := 9577) (j := 68) ff_3_1 (Or.inr ⟨rfl, rfl⟩) rfl rfl rfl dX3_init_10 kt_67 (Nat.le_of_ble_eq_true rfl) fl_X3_9 rfl ?_
  refine z_mm (fun μ_2 eμ_2 => ?_)
  refine z_rload_n dX3_init_13 rfl 0 rfl ?_
  refine z_bipush dX3_init_14 (by decide) ?_
  refine z_newI (len := 25) dX3_init_16 kt_69 (by decide) ac_int (by decide) ⟨Nat.le_of_ble_eq_true rfl, Nat.le_of_ble_eq_true rfl⟩ ?_
  refine z_mm (fun μ_3 eμ_3 => ?_)
  refine z_putR (q := 9578) (j := 69) ff_3_2 (Or.inr ⟨rfl, rfl⟩) rfl rfl rfl dX3_init_18 kt_67 (Nat.le_of_ble_eq_true rfl) fl_X3_15 rfl ?_
  refine z_mm (fun μ_4 eμ_4 => ?_)
  refine z_rload_n dX3_init_21 rfl 0 rfl ?_
  refine z_sipush dX3_init_22 (by decide) ?_
  refine z_newI (len := 300) dX3_init_25 kt_70 (by decide) ac_int (by decide) ⟨Nat.le_of_ble_eq_true rfl, Nat.le_of_ble_eq_true rfl⟩ ?_
  refine z_mm (fun μ_5 eμ_5 => ?_)
  refine z_putR (q := 9579) (j := 70) ff_3_3 (Or.inr ⟨rfl, rfl⟩) rfl rfl rfl dX3_init_27 kt_67 (Nat.le_of_ble_eq_true rfl) fl_X3_18 rfl ?_
  refine z_mm (fun μ_6 eμ_6 => ?_)
  refine z_rload_n dX3_init_30 rfl 0 rfl ?_
  refine z_sipush dX3_init_31 (by decide) ?_
  refine z_newI (len := 300) dX3_init_34 kt_71 (by decide) ac_int (by decide) ⟨Nat.le_of_ble_eq_true rfl, Nat.le_of_ble_eq_true rfl⟩ ?_
  refine z_mm (fun μ_7 eμ_7 => ?_)
  refine z_putR (q := 9580) (j := 71) ff_3_4 (Or.inr ⟨rfl, rfl⟩) rfl rfl rfl dX3_init_36 kt_67 (Nat.le_of_ble_eq_true rfl) fl_X3_21 rfl ?_
  refine z_mm (fun μ_8 eμ_8 => ?_)
  refine z_rload_n dX3_init_39 rfl 0 rfl ?_
  refine z_sipush dX3_init_40 (by decide) ?_
  refine z_newI (len := 300) dX3_init_43 kt_72 (by decide) ac_int (by decide) ⟨Nat.le_of_ble_eq_true rfl, Nat.le_of_ble_eq_true rfl⟩ ?_
  refine z_mm (fun μ_9 eμ_9 => ?_)
  refine z_putR (q := 9581) (j := 72) ff_3_5 (Or.inr ⟨rfl, rfl⟩) rfl rfl rfl dX3_init_45 kt_67 (Nat.le_of_ble_eq_true rfl) fl_X3_24 rfl ?_
  refine z_mm (fun μ_10 eμ_10 => ?_)
  refine z_rload_n dX3_init_48 rfl 0 rfl ?_
  refine z_iconst dX3_init_49 ?_
  refine z_putI (q := 9584) (x := (-1)) ff_3_8 (Or.inl rfl) rfl dX3_init_50 kt_67 (Nat.le_of_ble_eq_true rfl) fl_X3_27 rfl ?_
  refine z_mm (fun μ_11 eμ_11 => ?_)
  refine z_rload_n dX3_init_53 rfl 0 rfl ?_
  refine z_rload_n dX3_init_54 rfl 1 rfl ?_
  refine z_putR (q := 9576) (j := 12) ff_3_0 (Or.inr ⟨rfl, rfl⟩) rfl rfl rfl dX3_init_55 kt_67 (Nat.le_of_ble_eq_true rfl) fl_X3_31 rfl ?_
  refine z_mm (fun μ_12 eμ_12 => ?_)
  refine z_rload_n dX3_init_58 rfl 0 rfl ?_
  refine z_getR (q := 9577) (j := 68) ff_3_1 dX3_init_59 kt_67 (Nat.le_of_ble_eq_true rfl) fl_X3_9 rfl (by subst_vars; rfl) ?_
  refine z_iconst dX3_init_62 ?_
  refine z_NM (k_fill kt_68 (Nat.le_of_ble_eq_true rfl)) sk_X11_fill nw_X3_35 ⟨Nat.le_of_ble_eq_true rfl, Nat.le_of_ble_eq_true rfl⟩ ⟨Nat.le_of_ble_eq_true rfl, Nat.le_of_ble_eq_true rfl⟩ rfl rfl (Nat.le_of_ble_eq_true rfl) dX3_init_63 ?_
  refine z_mm (fun μ_13 eμ_13 => ?_)
  exact z_vret rfl dX3_init_66 rfl rfl rfl ⟨rfl, by subst_vars; rfl⟩
def t_Count_73 (μ : Mem) : Mem := sR (sR (clr (sR (clr (sR (clr (sR (clr (sR (clr (sR (clr (sR (clr (sR (clr (sR (clr (μ) 74) 10345 0 (some 74)) 75) 10346 0 (some 75)) 76) 10347 0 (some 76)) 77) 10348 0 (some 77)) 78) 10349 0 (some 78)) 79) 10350 0 (some 79)) 80) 10351 0 (some 80)) 81) 10352 0 (some 81)) 82) 10353 0 (some 82)) 10344 0 (some 1)
set_option maxRecDepth 20000 in
theorem k_Count_73 {l : Launch} {Γ : Gam} {μ : Mem} : CT l Γ yX2_init cX2_init 2 none 1 21 9 152 [vr Γ 73, vr Γ 1] 0 74 μ (pM (t_Count_73 μ)) := by
  refine SW.ct (by decide) (Nat.le_of_ble_eq_true rfl) ?_
  refine z_sub (lv' := [(0, vr Γ 73), (1, vr Γ 1)]) [0, 1] rfl ?_
  refine z_rload_n dX2_init_0 rfl 0 rfl ?_
  refine z_objInit ol_X2_3 oi_inst oi_code dX2_init_1 ⟨Nat.le_of_ble_eq_true rfl, Nat.le_of_ble_eq_true rfl⟩ ?_
  refine z_rload_n dX2_init_4 rfl 0 rfl ?_
  refine z_bipush dX2_init_5 (by decide) ?_
  refine z_newI (len := 12) dX2_init_7 kt_74 (by decide) ac_int (by decide) ⟨Nat.le_of_ble_eq_true rfl, Nat.le_of_ble_eq_true rfl⟩ ?_
  refine z_mm (fun μ_1 eμ_1 => ?_)
  refine z_putR (q := 10345) (j := 74) ff_2_1 (Or.inr ⟨rfl, rfl⟩) rfl rfl rfl dX2_init_9 kt_73 (Nat.le_of_ble_eq_true rfl) fl_X2_9 rfl ?_
  refine z_mm (fun μ_2 eμ_2 => ?_)
  refine z_rload_n dX2_init_12 rfl 0 rfl ?_
  refine z_bipush dX2_init_13 (by decide) ?_
  refine z_newI (len := 12) dX2_init_15 kt_75 (by decide) ac_int (by decide) ⟨Nat.le_of_ble_eq_true rfl, Nat.le_of_ble_eq_true rfl⟩ ?_
  refine z_mm (fun μ_3 eμ_3 => ?_)
  refine z_putR (q := 10346) (j := 75) ff_2_2 (Or.inr ⟨rfl, rfl⟩) rfl rfl rfl dX2_init_17 kt_73 (Nat.le_of_ble_eq_true rfl) fl_X2_15 rfl ?_
  refine z_mm (fun μ_4 eμ_4 => ?_)
  refine z_rload_n dX2_init_20 rfl 0 rfl ?_
  refine z_bipush dX2_init_21 (by decide) ?_
  refine z_newI (len := 12) dX2_init_23 kt_76 (by decide) ac_int (by decide) ⟨Nat.le_of_ble_eq_true rfl, Nat.le_of_ble_eq_true rfl⟩ ?_
  refine z_mm (fun μ_5 eμ_5 => ?_)
  refine z_putR (q := 10347) (j := 76) ff_2_3 (Or.inr ⟨rfl, rfl⟩) rfl rfl rfl dX2_init_25 kt_73 (Nat.le_of_ble_eq_true rfl) fl_X2_18 rfl ?_
  refine z_mm (fun μ_6 eμ_6 => ?_)
  refine z_rload_n dX2_init_28 rfl 0 rfl ?_
  refine z_bipush dX2_init_29 (by decide) ?_
  refine z_newI (len := 48) dX2_init_31 kt_77 (by decide) ac_int (by decide) ⟨Nat.le_of_ble_eq_true rfl, Nat.le_of_ble_eq_true rfl⟩ ?_
  refine z_mm (fun μ_7 eμ_7 => ?_)
  refine z_putR (q := 10348) (j := 77) ff_2_4 (Or.inr ⟨rfl, rfl⟩) rfl rfl rfl dX2_init_33 kt_73 (Nat.le_of_ble_eq_true rfl) fl_X2_21 rfl ?_
  refine z_mm (fun μ_8 eμ_8 => ?_)
  refine z_rload_n dX2_init_36 rfl 0 rfl ?_
  refine z_bipush dX2_init_37 (by decide) ?_
  refine z_newI (len := 12) dX2_init_39 kt_78 (by decide) ac_int (by decide) ⟨Nat.le_of_ble_eq_true rfl, Nat.le_of_ble_eq_true rfl⟩ ?_
  refine z_mm (fun μ_9 eμ_9 => ?_)
  refine z_putR (q := 10349) (j := 78) ff_2_5 (Or.inr ⟨rfl, rfl⟩) rfl rfl rfl dX2_init_41 kt_73 (Nat.le_of_ble_eq_true rfl) fl_X2_24 rfl ?_
  refine z_mm (fun μ_10 eμ_10 => ?_)
  refine z_rload_n dX2_init_44 rfl 0 rfl ?_
  refine z_bipush dX2_init_45 (by decide) ?_
  refine z_newI (len := 12) dX2_init_47 kt_79 (by decide) ac_int (by decide) ⟨Nat.le_of_ble_eq_true rfl, Nat.le_of_ble_eq_true rfl⟩ ?_
  refine z_mm (fun μ_11 eμ_11 => ?_)
  refine z_putR (q := 10350) (j := 79) ff_2_6 (Or.inr ⟨rfl, rfl⟩) rfl rfl rfl dX2_init_49 kt_73 (Nat.le_of_ble_eq_true rfl) fl_X2_27 rfl ?_
  refine z_mm (fun μ_12 eμ_12 => ?_)
  refine z_rload_n dX2_init_52 rfl 0 rfl ?_
  refine z_bipush dX2_init_53 (by decide) ?_
  refine z_newJ (len := 6) dX2_init_55 kt_80 (by decide) ac_long (by decide) ⟨Nat.le_of_ble_eq_true rfl, Nat.le_of_ble_eq_true rfl⟩ ?_
  refine z_mm (fun μ_13 eμ_13 => ?_)
  refine z_putR (q := 10351) (j := 80) ff_2_7 (Or.inr ⟨rfl, rfl⟩) rfl rfl rfl dX2_init_57 kt_73 (Nat.le_of_ble_eq_true rfl) fl_X2_30 rfl ?_
  refine z_mm (fun μ_14 eμ_14 => ?_)
  refine z_rload_n dX2_init_60 rfl 0 rfl ?_
  refine z_bipush dX2_init_61 (by decide) ?_
  refine z_newI (len := 6) dX2_init_63 kt_81 (by decide) ac_int (by decide) ⟨Nat.le_of_ble_eq_true rfl, Nat.le_of_ble_eq_true rfl⟩ ?_
  refine z_mm (fun μ_15 eμ_15 => ?_)
  refine z_putR (q := 10352) (j := 81) ff_2_8 (Or.inr ⟨rfl, rfl⟩) rfl rfl rfl dX2_init_65 kt_73 (Nat.le_of_ble_eq_true rfl) fl_X2_34 rfl ?_
  refine z_mm (fun μ_16 eμ_16 => ?_)
  refine z_rload_n dX2_init_68 rfl 0 rfl ?_
  refine z_bipush dX2_init_69 (by decide) ?_
  refine z_newI (len := 32) dX2_init_71 kt_82 (by decide) ac_int (by decide) ⟨Nat.le_of_ble_eq_true rfl, Nat.le_of_ble_eq_true rfl⟩ ?_
  refine z_mm (fun μ_17 eμ_17 => ?_)
  refine z_putR (q := 10353) (j := 82) ff_2_9 (Or.inr ⟨rfl, rfl⟩) rfl rfl rfl dX2_init_73 kt_73 (Nat.le_of_ble_eq_true rfl) fl_X2_39 rfl ?_
  refine z_mm (fun μ_18 eμ_18 => ?_)
  refine z_rload_n dX2_init_76 rfl 0 rfl ?_
  refine z_rload_n dX2_init_77 rfl 1 rfl ?_
  refine z_putR (q := 10344) (j := 1) ff_2_0 (Or.inr ⟨rfl, rfl⟩) rfl rfl rfl dX2_init_78 kt_73 (Nat.le_of_ble_eq_true rfl) fl_X2_42 rfl ?_
  refine z_mm (fun μ_19 eμ_19 => ?_)
  exact z_vret rfl dX2_init_81 rfl rfl rfl ⟨rfl, by subst_vars; rfl⟩
def t_Floor_85 (μ : Mem) : Mem := fillM (sR (sI (sR (clr (sR (clr (sR (clr (sR (clr (sR (clr (μ) 86) 11881 0 (some 86)) 87) 11882 0 (some 87)) 88) 11883 0 (some 88)) 89) 11884 0 (some 89)) 90) 11885 0 (some 90)) 11888 0 (-1)) 11880 0 (some 12)) 86 210 (-1)
set_option maxRecDepth 20000 in
theorem k_Floor_85 {l : Launch} {Γ : Gam} {μ : Mem} : CT l Γ yX3_init cX3_init 2 none 1 22 5 1135 [vr Γ 85, vr Γ 12] 0 86 μ (pM (t_Floor_85 μ)) := by
  refine SW.ct (by decide) (Nat.le_of_ble_eq_true rfl) ?_
  refine z_sub (lv' := [(0, vr Γ 85), (1, vr Γ 12)]) [0, 1] rfl ?_
  refine z_rload_n dX3_init_0 rfl 0 rfl ?_
  refine z_objInit ol_X3_3 oi_inst oi_code dX3_init_1 ⟨Nat.le_of_ble_eq_true rfl, Nat.le_of_ble_eq_true rfl⟩ ?_
  refine z_rload_n dX3_init_4 rfl 0 rfl ?_
  refine z_sipush dX3_init_5 (by decide) ?_
  refine z_newI (len := 210) dX3_init_8 kt_86 (by decide) ac_int (by decide) ⟨Nat.le_of_ble_eq_true rfl, Nat.le_of_ble_eq_true rfl⟩ ?_
  refine z_mm (fun μ_1 eμ_1 => ?_)
  refine z_putR (q := 11881) (j := 86) ff_3_1 (Or.inr ⟨rfl, rfl⟩) rfl rfl rfl dX3_init_10 kt_85 (Nat.le_of_ble_eq_true rfl) fl_X3_9 rfl ?_
  refine z_mm (fun μ_2 eμ_2 => ?_)
  refine z_rload_n dX3_init_13 rfl 0 rfl ?_
  refine z_bipush dX3_init_14 (by decide) ?_
  refine z_newI (len := 25) dX3_init_16 kt_87 (by decide) ac_int (by decide) ⟨Nat.le_of_ble_eq_true rfl, Nat.le_of_ble_eq_true rfl⟩ ?_
  refine z_mm (fun μ_3 eμ_3 => ?_)
  refine z_putR (q := 11882) (j := 87) ff_3_2 (Or.inr ⟨rfl, rfl⟩) rfl rfl rfl dX3_init_18 kt_85 (Nat.le_of_ble_eq_true rfl) fl_X3_15 rfl ?_
  refine z_mm (fun μ_4 eμ_4 => ?_)
  refine z_rload_n dX3_init_21 rfl 0 rfl ?_
  refine z_sipush dX3_init_22 (by decide) ?_
  refine z_newI (len := 300) dX3_init_25 kt_88 (by decide) ac_int (by decide) ⟨Nat.le_of_ble_eq_true rfl, Nat.le_of_ble_eq_true rfl⟩ ?_
  refine z_mm (fun μ_5 eμ_5 => ?_)
  refine z_putR (q := 11883) (j := 88) ff_3_3 (Or.inr ⟨rfl, rfl⟩) rfl rfl rfl dX3_init_27 kt_85 (Nat.le_of_ble_eq_true rfl) fl_X3_18 rfl ?_
  refine z_mm (fun μ_6 eμ_6 => ?_)
  refine z_rload_n dX3_init_30 rfl 0 rfl ?_
  refine z_sipush dX3_init_31 (by decide) ?_
  refine z_newI (len := 300) dX3_init_34 kt_89 (by decide) ac_int (by decide) ⟨Nat.le_of_ble_eq_true rfl, Nat.le_of_ble_eq_true rfl⟩ ?_
  refine z_mm (fun μ_7 eμ_7 => ?_)
  refine z_putR (q := 11884) (j := 89) ff_3_4 (Or.inr ⟨rfl, rfl⟩) rfl rfl rfl dX3_init_36 kt_85 (Nat.le_of_ble_eq_true rfl) fl_X3_21 rfl ?_
  refine z_mm (fun μ_8 eμ_8 => ?_)
  refine z_rload_n dX3_init_39 rfl 0 rfl ?_
  refine z_sipush dX3_init_40 (by decide) ?_
  refine z_newI (len := 300) dX3_init_43 kt_90 (by decide) ac_int (by decide) ⟨Nat.le_of_ble_eq_true rfl, Nat.le_of_ble_eq_true rfl⟩ ?_
  refine z_mm (fun μ_9 eμ_9 => ?_)
  refine z_putR (q := 11885) (j := 90) ff_3_5 (Or.inr ⟨rfl, rfl⟩) rfl rfl rfl dX3_init_45 kt_85 (Nat.le_of_ble_eq_true rfl) fl_X3_24 rfl ?_
  refine z_mm (fun μ_10 eμ_10 => ?_)
  refine z_rload_n dX3_init_48 rfl 0 rfl ?_
  refine z_iconst dX3_init_49 ?_
  refine z_putI (q := 11888) (x := (-1)) ff_3_8 (Or.inl rfl) rfl dX3_init_50 kt_85 (Nat.le_of_ble_eq_true rfl) fl_X3_27 rfl ?_
  refine z_mm (fun μ_11 eμ_11 => ?_)
  refine z_rload_n dX3_init_53 rfl 0 rfl ?_
  refine z_rload_n dX3_init_54 rfl 1 rfl ?_
  refine z_putR (q := 11880) (j := 12) ff_3_0 (Or.inr ⟨rfl, rfl⟩) rfl rfl rfl dX3_init_55 kt_85 (Nat.le_of_ble_eq_true rfl) fl_X3_31 rfl ?_
  refine z_mm (fun μ_12 eμ_12 => ?_)
  refine z_rload_n dX3_init_58 rfl 0 rfl ?_
  refine z_getR (q := 11881) (j := 86) ff_3_1 dX3_init_59 kt_85 (Nat.le_of_ble_eq_true rfl) fl_X3_9 rfl (by subst_vars; rfl) ?_
  refine z_iconst dX3_init_62 ?_
  refine z_NM (k_fill kt_86 (Nat.le_of_ble_eq_true rfl)) sk_X11_fill nw_X3_35 ⟨Nat.le_of_ble_eq_true rfl, Nat.le_of_ble_eq_true rfl⟩ ⟨Nat.le_of_ble_eq_true rfl, Nat.le_of_ble_eq_true rfl⟩ rfl rfl (Nat.le_of_ble_eq_true rfl) dX3_init_63 ?_
  refine z_mm (fun μ_13 eμ_13 => ?_)
  exact z_vret rfl dX3_init_66 rfl rfl rfl ⟨rfl, by subst_vars; rfl⟩
def t_Chair_83 (μ : Mem) : Mem := sR (t_Floor_85 (clr (sR (sR (sR (sR (sR (clr (μ) 84) 11629 0 (some 84)) 11624 0 (some 1)) 11625 0 (some 12)) 11626 0 (some 67)) 11628 0 (some 73)) 85)) 11627 0 (some 85)
set_option maxRecDepth 20000 in
theorem k_Chair_83 {l : Launch} {Γ : Gam} {μ : Mem} : CT l Γ yX0_init cX0_init 5 none 2 43 7 1844 [vr Γ 83, vr Γ 1, vr Γ 12, vr Γ 67, vr Γ 73] 0 84 μ (pM (t_Chair_83 μ)) := by
  refine SW.ct (by decide) (Nat.le_of_ble_eq_true rfl) ?_
  refine z_sub (lv' := [(0, vr Γ 83), (1, vr Γ 1), (2, vr Γ 12), (3, vr Γ 67), (4, vr Γ 73)]) [0, 1, 2, 3, 4] rfl ?_
  refine z_rload_n dX0_init_0 rfl 0 rfl ?_
  refine z_objInit ol_X0_3 oi_inst oi_code dX0_init_1 ⟨Nat.le_of_ble_eq_true rfl, Nat.le_of_ble_eq_true rfl⟩ ?_
  refine z_rload_n dX0_init_4 rfl 0 rfl ?_
  refine z_sipush dX0_init_5 (by decide) ?_
  refine z_newI (len := 700) dX0_init_8 kt_84 (by decide) ac_int (by decide) ⟨Nat.le_of_ble_eq_true rfl, Nat.le_of_ble_eq_true rfl⟩ ?_
  refine z_mm (fun μ_1 eμ_1 => ?_)
  refine z_putR (q := 11629) (j := 84) ff_0_5 (Or.inr ⟨rfl, rfl⟩) rfl rfl rfl dX0_init_10 kt_83 (Nat.le_of_ble_eq_true rfl) fl_X0_11 rfl ?_
  refine z_mm (fun μ_2 eμ_2 => ?_)
  refine z_rload_n dX0_init_13 rfl 0 rfl ?_
  refine z_rload_n dX0_init_14 rfl 1 rfl ?_
  refine z_putR (q := 11624) (j := 1) ff_0_0 (Or.inr ⟨rfl, rfl⟩) rfl rfl rfl dX0_init_15 kt_83 (Nat.le_of_ble_eq_true rfl) fl_X0_15 rfl ?_
  refine z_mm (fun μ_3 eμ_3 => ?_)
  refine z_rload_n dX0_init_18 rfl 0 rfl ?_
  refine z_rload_n dX0_init_19 rfl 2 rfl ?_
  refine z_putR (q := 11625) (j := 12) ff_0_1 (Or.inr ⟨rfl, rfl⟩) rfl rfl rfl dX0_init_20 kt_83 (Nat.le_of_ble_eq_true rfl) fl_X0_19 rfl ?_
  refine z_mm (fun μ_4 eμ_4 => ?_)
  refine z_rload_n dX0_init_23 rfl 0 rfl ?_
  refine z_rload_n dX0_init_24 rfl 3 rfl ?_
  refine z_putR (q := 11626) (j := 67) ff_0_2 (Or.inr ⟨rfl, rfl⟩) rfl rfl rfl dX0_init_25 kt_83 (Nat.le_of_ble_eq_true rfl) fl_X0_23 rfl ?_
  refine z_mm (fun μ_5 eμ_5 => ?_)
  refine z_rload_n dX0_init_28 rfl 0 rfl ?_
  refine z_rload dX0_init_29 4 rfl ?_
  refine z_putR (q := 11628) (j := 73) ff_0_4 (Or.inr ⟨rfl, rfl⟩) rfl rfl rfl dX0_init_31 kt_83 (Nat.le_of_ble_eq_true rfl) fl_X0_27 rfl ?_
  refine z_mm (fun μ_6 eμ_6 => ?_)
  refine z_rload_n dX0_init_34 rfl 0 rfl ?_
  refine z_new tyX3 dX0_init_35 kt_85 (by decide) rfl uw_3 rfl tyX3_ok dv_3 ck_X0_31 is_3 in_3 ⟨Nat.le_of_ble_eq_true rfl, Nat.le_of_ble_eq_true rfl⟩ ?_
  refine z_mm (fun μ_7 eμ_7 => ?_)
  refine z_dup dX0_init_38 rfl ?_
  refine z_rload_n dX0_init_39 rfl 2 rfl ?_
  refine z_callI (k_Floor_85) ik_X3_init ml_X0_33 ⟨Nat.le_of_ble_eq_true rfl, Nat.le_of_ble_eq_true rfl⟩ ⟨Nat.le_of_ble_eq_true rfl, Nat.le_of_ble_eq_true rfl⟩ rfl rfl (Nat.le_of_ble_eq_true rfl) dX0_init_40 (fun v9 ν9 q9 => ?_)
  obtain ⟨rfl, rfl⟩ := q9
  refine z_mm (fun μ_8 eμ_8 => ?_)
  refine z_putR (q := 11627) (j := 85) ff_0_3 (Or.inr ⟨rfl, rfl⟩) rfl rfl rfl dX0_init_43 kt_83 (Nat.le_of_ble_eq_true rfl) fl_X0_36 rfl ?_
  refine z_mm (fun μ_9 eμ_9 => ?_)
  exact z_vret rfl dX0_init_46 rfl rfl rfl ⟨rfl, by subst_vars; rfl⟩
def t_Comp_91 (μ : Mem) : Mem := sR (sR (sR (clr (sR (clr (sR (clr (sR (clr (sR (clr (sR (clr (sR (clr (sR (clr (sR (clr (μ) 92) 12650 0 (some 92)) 93) 12651 0 (some 93)) 94) 12652 0 (some 94)) 95) 12653 0 (some 95)) 96) 12658 0 (some 96)) 97) 12659 0 (some 97)) 98) 12660 0 (some 98)) 99) 12661 0 (some 99)) 100) 12662 0 (some 100)) 12648 0 (some 12)) 12649 0 (some 67)
set_option maxRecDepth 20000 in
theorem k_Comp_91 {l : Launch} {Γ : Gam} {μ : Mem} : CT l Γ yX1_init cX1_init 3 none 1 21 9 321 [vr Γ 91, vr Γ 12, vr Γ 67] 0 92 μ (pM (t_Comp_91 μ)) := by
  refine SW.ct (by decide) (Nat.le_of_ble_eq_true rfl) ?_
  refine z_sub (lv' := [(0, vr Γ 91), (1, vr Γ 12), (2, vr Γ 67)]) [0, 1, 2] rfl ?_
  refine z_rload_n dX1_init_0 rfl 0 rfl ?_
  refine z_objInit ol_X1_3 oi_inst oi_code dX1_init_1 ⟨Nat.le_of_ble_eq_true rfl, Nat.le_of_ble_eq_true rfl⟩ ?_
  refine z_rload_n dX1_init_4 rfl 0 rfl ?_
  refine z_bipush dX1_init_5 (by decide) ?_
  refine z_newI (len := 8) dX1_init_7 kt_92 (by decide) ac_int (by decide) ⟨Nat.le_of_ble_eq_true rfl, Nat.le_of_ble_eq_true rfl⟩ ?_
  refine z_mm (fun μ_1 eμ_1 => ?_)
  refine z_putR (q := 12650) (j := 92) ff_1_2 (Or.inr ⟨rfl, rfl⟩) rfl rfl rfl dX1_init_9 kt_91 (Nat.le_of_ble_eq_true rfl) fl_X1_9 rfl ?_
  refine z_mm (fun μ_2 eμ_2 => ?_)
  refine z_rload_n dX1_init_12 rfl 0 rfl ?_
  refine z_bipush dX1_init_13 (by decide) ?_
  refine z_newJ (len := 8) dX1_init_15 kt_93 (by decide) ac_long (by decide) ⟨Nat.le_of_ble_eq_true rfl, Nat.le_of_ble_eq_true rfl⟩ ?_
  refine z_mm (fun μ_3 eμ_3 => ?_)
  refine z_putR (q := 12651) (j := 93) ff_1_3 (Or.inr ⟨rfl, rfl⟩) rfl rfl rfl dX1_init_17 kt_91 (Nat.le_of_ble_eq_true rfl) fl_X1_15 rfl ?_
  refine z_mm (fun μ_4 eμ_4 => ?_)
  refine z_rload_n dX1_init_20 rfl 0 rfl ?_
  refine z_bipush dX1_init_21 (by decide) ?_
  refine z_newJ (len := 8) dX1_init_23 kt_94 (by decide) ac_long (by decide) ⟨Nat.le_of_ble_eq_true rfl, Nat.le_of_ble_eq_true rfl⟩ ?_
  refine z_mm (fun μ_5 eμ_5 => ?_)
  refine z_putR (q := 12652) (j := 94) ff_1_4 (Or.inr ⟨rfl, rfl⟩) rfl rfl rfl dX1_init_25 kt_91 (Nat.le_of_ble_eq_true rfl) fl_X1_19 rfl ?_
  refine z_mm (fun μ_6 eμ_6 => ?_)
  refine z_rload_n dX1_init_28 rfl 0 rfl ?_
  refine z_bipush dX1_init_29 (by decide) ?_
  refine z_newJ (len := 8) dX1_init_31 kt_95 (by decide) ac_long (by decide) ⟨Nat.le_of_ble_eq_true rfl, Nat.le_of_ble_eq_true rfl⟩ ?_
  refine z_mm (fun μ_7 eμ_7 => ?_)
  refine z_putR (q := 12653) (j := 95) ff_1_5 (Or.inr ⟨rfl, rfl⟩) rfl rfl rfl dX1_init_33 kt_91 (Nat.le_of_ble_eq_true rfl) fl_X1_22 rfl ?_
  refine z_mm (fun μ_8 eμ_8 => ?_)
  refine z_rload_n dX1_init_36 rfl 0 rfl ?_
  refine z_bipush dX1_init_37 (by decide) ?_
  refine z_newJ (len := 9) dX1_init_39 kt_96 (by decide) ac_long (by decide) ⟨Nat.le_of_ble_eq_true rfl, Nat.le_of_ble_eq_true rfl⟩ ?_
  refine z_mm (fun μ_9 eμ_9 => ?_)
  refine z_putR (q := 12658) (j := 96) ff_1_10 (Or.inr ⟨rfl, rfl⟩) rfl rfl rfl dX1_init_41 kt_91 (Nat.le_of_ble_eq_true rfl) fl_X1_25 rfl ?_
  refine z_mm (fun μ_10 eμ_10 => ?_)
  refine z_rload_n dX1_init_44 rfl 0 rfl ?_
  refine z_sipush dX1_init_45 (by decide) ?_
  refine z_newI (len := 256) dX1_init_48 kt_97 (by decide) ac_int (by decide) ⟨Nat.le_of_ble_eq_true rfl, Nat.le_of_ble_eq_true rfl⟩ ?_
  refine z_mm (fun μ_11 eμ_11 => ?_)
  refine z_putR (q := 12659) (j := 97) ff_1_11 (Or.inr ⟨rfl, rfl⟩) rfl rfl rfl dX1_init_50 kt_91 (Nat.le_of_ble_eq_true rfl) fl_X1_28 rfl ?_
  refine z_mm (fun μ_12 eμ_12 => ?_)
  refine z_rload_n dX1_init_53 rfl 0 rfl ?_
  refine z_bipush dX1_init_54 (by decide) ?_
  refine z_newI (len := 8) dX1_init_56 kt_98 (by decide) ac_int (by decide) ⟨Nat.le_of_ble_eq_true rfl, Nat.le_of_ble_eq_true rfl⟩ ?_
  refine z_mm (fun μ_13 eμ_13 => ?_)
  refine z_putR (q := 12660) (j := 98) ff_1_12 (Or.inr ⟨rfl, rfl⟩) rfl rfl rfl dX1_init_58 kt_91 (Nat.le_of_ble_eq_true rfl) fl_X1_31 rfl ?_
  refine z_mm (fun μ_14 eμ_14 => ?_)
  refine z_rload_n dX1_init_61 rfl 0 rfl ?_
  refine z_bipush dX1_init_62 (by decide) ?_
  refine z_newI (len := 8) dX1_init_64 kt_99 (by decide) ac_int (by decide) ⟨Nat.le_of_ble_eq_true rfl, Nat.le_of_ble_eq_true rfl⟩ ?_
  refine z_mm (fun μ_15 eμ_15 => ?_)
  refine z_putR (q := 12661) (j := 99) ff_1_13 (Or.inr ⟨rfl, rfl⟩) rfl rfl rfl dX1_init_66 kt_91 (Nat.le_of_ble_eq_true rfl) fl_X1_34 rfl ?_
  refine z_mm (fun μ_16 eμ_16 => ?_)
  refine z_rload_n dX1_init_69 rfl 0 rfl ?_
  refine z_bipush dX1_init_70 (by decide) ?_
  refine z_newI (len := 8) dX1_init_72 kt_100 (by decide) ac_int (by decide) ⟨Nat.le_of_ble_eq_true rfl, Nat.le_of_ble_eq_true rfl⟩ ?_
  refine z_mm (fun μ_17 eμ_17 => ?_)
  refine z_putR (q := 12662) (j := 100) ff_1_14 (Or.inr ⟨rfl, rfl⟩) rfl rfl rfl dX1_init_74 kt_91 (Nat.le_of_ble_eq_true rfl) fl_X1_37 rfl ?_
  refine z_mm (fun μ_18 eμ_18 => ?_)
  refine z_rload_n dX1_init_77 rfl 0 rfl ?_
  refine z_rload_n dX1_init_78 rfl 1 rfl ?_
  refine z_putR (q := 12648) (j := 12) ff_1_0 (Or.inr ⟨rfl, rfl⟩) rfl rfl rfl dX1_init_79 kt_91 (Nat.le_of_ble_eq_true rfl) fl_X1_40 rfl ?_
  refine z_mm (fun μ_19 eμ_19 => ?_)
  refine z_rload_n dX1_init_82 rfl 0 rfl ?_
  refine z_rload_n dX1_init_83 rfl 2 rfl ?_
  refine z_putR (q := 12649) (j := 67) ff_1_1 (Or.inr ⟨rfl, rfl⟩) rfl rfl rfl dX1_init_84 kt_91 (Nat.le_of_ble_eq_true rfl) fl_X1_44 rfl ?_
  refine z_mm (fun μ_20 eμ_20 => ?_)
  exact z_vret rfl dX1_init_87 rfl rfl rfl ⟨rfl, by subst_vars; rfl⟩
def t_Worths_101 (μ : Mem) : Mem := sR (sR (sR (sR (sR (clr (sR (clr (sR (clr (sR (clr (sR (clr (sR (clr (sR (clr (sR (clr (sR (clr (sR (clr (sR (clr (μ) 102) 13932 0 (some 102)) 103) 13933 0 (some 103)) 104) 13935 0 (some 104)) 105) 13936 0 (some 105)) 106) 13937 0 (some 106)) 107) 13938 0 (some 107)) 108) 13939 0 (some 108)) 109) 13940 0 (some 109)) 110) 13941 0 (some 110)) 111) 13942 0 (some 111)) 112) 13943 0 (some 112)) 13928 0 (some 1)) 13929 0 (some 12)) 13930 0 (some 67)) 13931 0 (some 73)
set_option maxRecDepth 20000 in
theorem k_Worths_101 {l : Launch} {Γ : Gam} {μ : Mem} : CT l Γ yX10_init cX10_init 5 none 1 21 11 630 [vr Γ 101, vr Γ 1, vr Γ 12, vr Γ 67, vr Γ 73] 0 102 μ (pM (t_Worths_101 μ)) := by
  refine SW.ct (by decide) (Nat.le_of_ble_eq_true rfl) ?_
  refine z_sub (lv' := [(0, vr Γ 101), (1, vr Γ 1), (2, vr Γ 12), (3, vr Γ 67), (4, vr Γ 73)]) [0, 1, 2, 3, 4] rfl ?_
  refine z_rload_n dX10_init_0 rfl 0 rfl ?_
  refine z_objInit ol_X10_3 oi_inst oi_code dX10_init_1 ⟨Nat.le_of_ble_eq_true rfl, Nat.le_of_ble_eq_true rfl⟩ ?_
  refine z_rload_n dX10_init_4 rfl 0 rfl ?_
  refine z_sipush dX10_init_5 (by decide) ?_
  refine z_newI (len := 288) dX10_init_8 kt_102 (by decide) ac_int (by decide) ⟨Nat.le_of_ble_eq_true rfl, Nat.le_of_ble_eq_true rfl⟩ ?_
  refine z_mm (fun μ_1 eμ_1 => ?_)
  refine z_putR (q := 13932) (j := 102) ff_10_4 (Or.inr ⟨rfl, rfl⟩) rfl rfl rfl dX10_init_10 kt_101 (Nat.le_of_ble_eq_true rfl) fl_X10_9 rfl ?_
  refine z_mm (fun μ_2 eμ_2 => ?_)
  refine z_rload_n dX10_init_13 rfl 0 rfl ?_
  refine z_bipush dX10_init_14 (by decide) ?_
  refine z_newI (len := 6) dX10_init_16 kt_103 (by decide) ac_int (by decide) ⟨Nat.le_of_ble_eq_true rfl, Nat.le_of_ble_eq_true rfl⟩ ?_
  refine z_mm (fun μ_3 eμ_3 => ?_)
  refine z_putR (q := 13933) (j := 103) ff_10_5 (Or.inr ⟨rfl, rfl⟩) rfl rfl rfl dX10_init_18 kt_101 (Nat.le_of_ble_eq_true rfl) fl_X10_15 rfl ?_
  refine z_mm (fun μ_4 eμ_4 => ?_)
  refine z_rload_n dX10_init_21 rfl 0 rfl ?_
  refine z_bipush dX10_init_22 (by decide) ?_
  refine z_newI (len := 6) dX10_init_24 kt_104 (by decide) ac_int (by decide) ⟨Nat.le_of_ble_eq_true rfl, Nat.le_of_ble_eq_true rfl⟩ ?_
  refine z_mm (fun μ_5 eμ_5 => ?_)
  refine z_putR (q := 13935) (j := 104) ff_10_7 (Or.inr ⟨rfl, rfl⟩) rfl rfl rfl dX10_init_26 kt_101 (Nat.le_of_ble_eq_true rfl) fl_X10_18 rfl ?_
  refine z_mm (fun μ_6 eμ_6 => ?_)
  refine z_rload_n dX10_init_29 rfl 0 rfl ?_
  refine z_bipush dX10_init_30 (by decide) ?_
  refine z_newI (len := 6) dX10_init_32 kt_105 (by decide) ac_int (by decide) ⟨Nat.le_of_ble_eq_true rfl, Nat.le_of_ble_eq_true rfl⟩ ?_
  refine z_mm (fun μ_7 eμ_7 => ?_)
  refine z_putR (q := 13936) (j := 105) ff_10_8 (Or.inr ⟨rfl, rfl⟩) rfl rfl rfl dX10_init_34 kt_101 (Nat.le_of_ble_eq_true rfl) fl_X10_21 rfl ?_
  refine z_mm (fun μ_8 eμ_8 => ?_)
  refine z_rload_n dX10_init_37 rfl 0 rfl ?_
  refine z_bipush dX10_init_38 (by decide) ?_
  refine z_newI (len := 6) dX10_init_40 kt_106 (by decide) ac_int (by decide) ⟨Nat.le_of_ble_eq_true rfl, Nat.le_of_ble_eq_true rfl⟩ ?_
  refine z_mm (fun μ_9 eμ_9 => ?_)
  refine z_putR (q := 13937) (j := 106) ff_10_9 (Or.inr ⟨rfl, rfl⟩) rfl rfl rfl dX10_init_42 kt_101 (Nat.le_of_ble_eq_true rfl) fl_X10_24 rfl ?_
  refine z_mm (fun μ_10 eμ_10 => ?_)
  refine z_rload_n dX10_init_45 rfl 0 rfl ?_
  refine z_bipush dX10_init_46 (by decide) ?_
  refine z_newJ (len := 6) dX10_init_48 kt_107 (by decide) ac_long (by decide) ⟨Nat.le_of_ble_eq_true rfl, Nat.le_of_ble_eq_true rfl⟩ ?_
  refine z_mm (fun μ_11 eμ_11 => ?_)
  refine z_putR (q := 13938) (j := 107) ff_10_10 (Or.inr ⟨rfl, rfl⟩) rfl rfl rfl dX10_init_50 kt_101 (Nat.le_of_ble_eq_true rfl) fl_X10_27 rfl ?_
  refine z_mm (fun μ_12 eμ_12 => ?_)
  refine z_rload_n dX10_init_53 rfl 0 rfl ?_
  refine z_bipush dX10_init_54 (by decide) ?_
  refine z_newJ (len := 6) dX10_init_56 kt_108 (by decide) ac_long (by decide) ⟨Nat.le_of_ble_eq_true rfl, Nat.le_of_ble_eq_true rfl⟩ ?_
  refine z_mm (fun μ_13 eμ_13 => ?_)
  refine z_putR (q := 13939) (j := 108) ff_10_11 (Or.inr ⟨rfl, rfl⟩) rfl rfl rfl dX10_init_58 kt_101 (Nat.le_of_ble_eq_true rfl) fl_X10_31 rfl ?_
  refine z_mm (fun μ_14 eμ_14 => ?_)
  refine z_rload_n dX10_init_61 rfl 0 rfl ?_
  refine z_bipush dX10_init_62 (by decide) ?_
  refine z_newI (len := 6) dX10_init_64 kt_109 (by decide) ac_int (by decide) ⟨Nat.le_of_ble_eq_true rfl, Nat.le_of_ble_eq_true rfl⟩ ?_
  refine z_mm (fun μ_15 eμ_15 => ?_)
  refine z_putR (q := 13940) (j := 109) ff_10_12 (Or.inr ⟨rfl, rfl⟩) rfl rfl rfl dX10_init_66 kt_101 (Nat.le_of_ble_eq_true rfl) fl_X10_34 rfl ?_
  refine z_mm (fun μ_16 eμ_16 => ?_)
  refine z_rload_n dX10_init_69 rfl 0 rfl ?_
  refine z_bipush dX10_init_70 (by decide) ?_
  refine z_newI (len := 6) dX10_init_72 kt_110 (by decide) ac_int (by decide) ⟨Nat.le_of_ble_eq_true rfl, Nat.le_of_ble_eq_true rfl⟩ ?_
  refine z_mm (fun μ_17 eμ_17 => ?_)
  refine z_putR (q := 13941) (j := 110) ff_10_13 (Or.inr ⟨rfl, rfl⟩) rfl rfl rfl dX10_init_74 kt_101 (Nat.le_of_ble_eq_true rfl) fl_X10_37 rfl ?_
  refine z_mm (fun μ_18 eμ_18 => ?_)
  refine z_rload_n dX10_init_77 rfl 0 rfl ?_
  refine z_sipush dX10_init_78 (by decide) ?_
  refine z_newI (len := 288) dX10_init_81 kt_111 (by decide) ac_int (by decide) ⟨Nat.le_of_ble_eq_true rfl, Nat.le_of_ble_eq_true rfl⟩ ?_
  refine z_mm (fun μ_19 eμ_19 => ?_)
  refine z_putR (q := 13942) (j := 111) ff_10_14 (Or.inr ⟨rfl, rfl⟩) rfl rfl rfl dX10_init_83 kt_101 (Nat.le_of_ble_eq_true rfl) fl_X10_40 rfl ?_
  refine z_mm (fun μ_20 eμ_20 => ?_)
  refine z_rload_n dX10_init_86 rfl 0 rfl ?_
  refine z_bipush dX10_init_87 (by decide) ?_
  refine z_newI (len := 6) dX10_init_89 kt_112 (by decide) ac_int (by decide) ⟨Nat.le_of_ble_eq_true rfl, Nat.le_of_ble_eq_true rfl⟩ ?_
  refine z_mm (fun μ_21 eμ_21 => ?_)
  refine z_putR (q := 13943) (j := 112) ff_10_15 (Or.inr ⟨rfl, rfl⟩) rfl rfl rfl dX10_init_91 kt_101 (Nat.le_of_ble_eq_true rfl) fl_X10_43 rfl ?_
  refine z_mm (fun μ_22 eμ_22 => ?_)
  refine z_rload_n dX10_init_94 rfl 0 rfl ?_
  refine z_rload_n dX10_init_95 rfl 1 rfl ?_
  refine z_putR (q := 13928) (j := 1) ff_10_0 (Or.inr ⟨rfl, rfl⟩) rfl rfl rfl dX10_init_96 kt_101 (Nat.le_of_ble_eq_true rfl) fl_X10_46 rfl ?_
  refine z_mm (fun μ_23 eμ_23 => ?_)
  refine z_rload_n dX10_init_99 rfl 0 rfl ?_
  refine z_rload_n dX10_init_100 rfl 2 rfl ?_
  refine z_putR (q := 13929) (j := 12) ff_10_1 (Or.inr ⟨rfl, rfl⟩) rfl rfl rfl dX10_init_101 kt_101 (Nat.le_of_ble_eq_true rfl) fl_X10_50 rfl ?_
  refine z_mm (fun μ_24 eμ_24 => ?_)
  refine z_rload_n dX10_init_104 rfl 0 rfl ?_
  refine z_rload_n dX10_init_105 rfl 3 rfl ?_
  refine z_putR (q := 13930) (j := 67) ff_10_2 (Or.inr ⟨rfl, rfl⟩) rfl rfl rfl dX10_init_106 kt_101 (Nat.le_of_ble_eq_true rfl) fl_X10_54 rfl ?_
  refine z_mm (fun μ_25 eμ_25 => ?_)
  refine z_rload_n dX10_init_109 rfl 0 rfl ?_
  refine z_rload dX10_init_110 4 rfl ?_
  refine z_putR (q := 13931) (j := 73) ff_10_3 (Or.inr ⟨rfl, rfl⟩) rfl rfl rfl dX10_init_112 kt_101 (Nat.le_of_ble_eq_true rfl) fl_X10_58 rfl ?_
  refine z_mm (fun μ_26 eμ_26 => ?_)
  exact z_vret rfl dX10_init_115 rfl rfl rfl ⟨rfl, by subst_vars; rfl⟩
def t_H_0 (μ : Mem) : Mem := sR (t_Worths_101 (clr (sR (t_Comp_91 (clr (sR (t_Chair_83 (clr (sR (t_Count_73 (clr (sR (t_Floor_67 (clr (sR (t_LineR_64 (clr (sR (t_OrdR_63 (clr (sR (t_Papers_12 (clr (sR (t_Tape_10 (clr (sR (t_Reg_1 (clr (μ) 1)) 1000 0 (some 1)) 10)) 1001 0 (some 10)) 12)) 1004 0 (some 12)) 63)) 1002 0 (some 63)) 64)) 1003 0 (some 64)) 67)) 1005 0 (some 67)) 73)) 1006 0 (some 73)) 83)) 1007 0 (some 83)) 91)) 1008 0 (some 91)) 101)) 1009 0 (some 101)
set_option maxRecDepth 20000 in
theorem k_H_0 {l : Launch} {Γ : Gam} {μ : Mem} : CT l Γ yX11_init cX11_init 1 none 3 67 112 11702 [vr Γ 0] 0 1 μ (pM (t_H_0 μ)) := by
  refine SW.ct (by decide) (Nat.le_of_ble_eq_true rfl) ?_
  refine z_sub (lv' := [(0, vr Γ 0)]) [0] rfl ?_
  refine z_rload_n dX11_init_0 rfl 0 rfl ?_
  refine z_objInit ol_X11_3 oi_inst oi_code dX11_init_1 ⟨Nat.le_of_ble_eq_true rfl, Nat.le_of_ble_eq_true rfl⟩ ?_
  refine z_rload_n dX11_init_4 rfl 0 rfl ?_
  refine z_new tyX7 dX11_init_5 kt_1 (by decide) rfl uw_7 rfl tyX7_ok dv_7 ck_X11_9 is_7 in_7 ⟨Nat.le_of_ble_eq_true rfl, Nat.le_of_ble_eq_true rfl⟩ ?_
  refine z_mm (fun μ_1 eμ_1 => ?_)
  refine z_dup dX11_init_8 rfl ?_
  refine z_callIN (k_Reg_1) ik_X7_init nw_X11_11 ⟨Nat.le_of_ble_eq_true rfl, Nat.le_of_ble_eq_true rfl⟩ ⟨Nat.le_of_ble_eq_true rfl, Nat.le_of_ble_eq_true rfl⟩ rfl rfl (Nat.le_of_ble_eq_true rfl) dX11_init_9 (fun v9 ν9 q9 => ?_)
  obtain ⟨rfl, rfl⟩ := q9
  refine z_mm (fun μ_2 eμ_2 => ?_)
  refine z_putR (q := 1000) (j := 1) ff_11_0 (Or.inr ⟨rfl, rfl⟩) rfl rfl rfl dX11_init_12 kt_0 (Nat.le_of_ble_eq_true rfl) fl_X11_12 rfl ?_
  refine z_mm (fun μ_3 eμ_3 => ?_)
  refine z_rload_n dX11_init_15 rfl 0 rfl ?_
  refine z_new tyX9 dX11_init_16 kt_10 (by decide) rfl uw_9 rfl tyX9_ok dv_9 ck_X11_16 is_9 in_9 ⟨Nat.le_of_ble_eq_true rfl, Nat.le_of_ble_eq_true rfl⟩ ?_
  refine z_mm (fun μ_4 eμ_4 => ?_)
  refine z_dup dX11_init_19 rfl ?_
  refine z_callIN (k_Tape_10) ik_X9_init nw_X11_18 ⟨Nat.le_of_ble_eq_true rfl, Nat.le_of_ble_eq_true rfl⟩ ⟨Nat.le_of_ble_eq_true rfl, Nat.le_of_ble_eq_true rfl⟩ rfl rfl (Nat.le_of_ble_eq_true rfl) dX11_init_20 (fun v9 ν9 q9 => ?_)
  obtain ⟨rfl, rfl⟩ := q9
  refine z_mm (fun μ_5 eμ_5 => ?_)
  refine z_putR (q := 1001) (j := 10) ff_11_1 (Or.inr ⟨rfl, rfl⟩) rfl rfl rfl dX11_init_23 kt_0 (Nat.le_of_ble_eq_true rfl) fl_X11_19 rfl ?_
  refine z_mm (fun μ_6 eμ_6 => ?_)
  refine z_rload_n dX11_init_26 rfl 0 rfl ?_
  refine z_new tyX6 dX11_init_27 kt_12 (by decide) rfl uw_6 rfl tyX6_ok dv_6 ck_X11_23 is_6 in_6 ⟨Nat.le_of_ble_eq_true rfl, Nat.le_of_ble_eq_true rfl⟩ ?_
  refine z_mm (fun μ_7 eμ_7 => ?_)
  refine z_dup dX11_init_30 rfl ?_
  refine z_callI (k_Papers_12) ik_X6_init ml_X11_25 ⟨Nat.le_of_ble_eq_true rfl, Nat.le_of_ble_eq_true rfl⟩ ⟨Nat.le_of_ble_eq_true rfl, Nat.le_of_ble_eq_true rfl⟩ rfl rfl (Nat.le_of_ble_eq_true rfl) dX11_init_31 (fun v9 ν9 q9 => ?_)
  obtain ⟨rfl, rfl⟩ := q9
  refine z_mm (fun μ_8 eμ_8 => ?_)
  refine z_putR (q := 1004) (j := 12) ff_11_4 (Or.inr ⟨rfl, rfl⟩) rfl rfl rfl dX11_init_34 kt_0 (Nat.le_of_ble_eq_true rfl) fl_X11_26 rfl ?_
  refine z_mm (fun μ_9 eμ_9 => ?_)
  refine z_rload_n dX11_init_37 rfl 0 rfl ?_
  refine z_new tyX5 dX11_init_38 kt_63 (by decide) rfl uw_5 rfl tyX5_ok dv_5 ck_X11_30 is_5 in_5 ⟨Nat.le_of_ble_eq_true rfl, Nat.le_of_ble_eq_true rfl⟩ ?_
  refine z_mm (fun μ_10 eμ_10 => ?_)
  refine z_dup dX11_init_41 rfl ?_
  refine z_rload_n dX11_init_42 rfl 0 rfl ?_
  refine z_getR (q := 1001) (j := 10) ff_11_1 dX11_init_43 kt_0 (Nat.le_of_ble_eq_true rfl) fl_X11_19 rfl (by subst_vars; rfl) ?_
  refine z_rload_n dX11_init_46 rfl 0 rfl ?_
  refine z_getR (q := 1004) (j := 12) ff_11_4 dX11_init_47 kt_0 (Nat.le_of_ble_eq_true rfl) fl_X11_26 rfl (by subst_vars; rfl) ?_
  refine z_getR (q := 2542) (j := 19) ff_6_6 dX11_init_50 kt_12 (Nat.le_of_ble_eq_true rfl) fl_X11_32 rfl (by subst_vars; rfl) ?_
  refine z_callI (k_OrdR_63) ik_X5_init ml_X11_36 ⟨Nat.le_of_ble_eq_true rfl, Nat.le_of_ble_eq_true rfl⟩ ⟨Nat.le_of_ble_eq_true rfl, Nat.le_of_ble_eq_true rfl⟩ rfl rfl (Nat.le_of_ble_eq_true rfl) dX11_init_53 (fun v9 ν9 q9 => ?_)
  obtain ⟨rfl, rfl⟩ := q9
  refine z_mm (fun μ_11 eμ_11 => ?_)
  refine z_putR (q := 1002) (j := 63) ff_11_2 (Or.inr ⟨rfl, rfl⟩) rfl rfl rfl dX11_init_56 kt_0 (Nat.le_of_ble_eq_true rfl) fl_X11_39 rfl ?_
  refine z_mm (fun μ_12 eμ_12 => ?_)
  refine z_rload_n dX11_init_59 rfl 0 rfl ?_
  refine z_new tyX4 dX11_init_60 kt_64 (by decide) rfl uw_4 rfl tyX4_ok dv_4 ck_X11_43 is_4 in_4 ⟨Nat.le_of_ble_eq_true rfl, Nat.le_of_ble_eq_true rfl⟩ ?_
  refine z_mm (fun μ_13 eμ_13 => ?_)
  refine z_dup dX11_init_63 rfl ?_
  refine z_rload_n dX11_init_64 rfl 0 rfl ?_
  refine z_getR (q := 1001) (j := 10) ff_11_1 dX11_init_65 kt_0 (Nat.le_of_ble_eq_true rfl) fl_X11_19 rfl (by subst_vars; rfl) ?_
  refine z_callI (k_LineR_64) ik_X4_init ml_X11_45 ⟨Nat.le_of_ble_eq_true rfl, Nat.le_of_ble_eq_true rfl⟩ ⟨Nat.le_of_ble_eq_true rfl, Nat.le_of_ble_eq_true rfl⟩ rfl rfl (Nat.le_of_ble_eq_true rfl) dX11_init_68 (fun v9 ν9 q9 => ?_)
  obtain ⟨rfl, rfl⟩ := q9
  refine z_mm (fun μ_14 eμ_14 => ?_)
  refine z_putR (q := 1003) (j := 64) ff_11_3 (Or.inr ⟨rfl, rfl⟩) rfl rfl rfl dX11_init_71 kt_0 (Nat.le_of_ble_eq_true rfl) fl_X11_48 rfl ?_
  refine z_mm (fun μ_15 eμ_15 => ?_)
  refine z_rload_n dX11_init_74 rfl 0 rfl ?_
  refine z_new tyX3 dX11_init_75 kt_67 (by decide) rfl uw_3 rfl tyX3_ok dv_3 ck_X11_52 is_3 in_3 ⟨Nat.le_of_ble_eq_true rfl, Nat.le_of_ble_eq_true rfl⟩ ?_
  refine z_mm (fun μ_16 eμ_16 => ?_)
  refine z_dup dX11_init_78 rfl ?_
  refine z_rload_n dX11_init_79 rfl 0 rfl ?_
  refine z_getR (q := 1004) (j := 12) ff_11_4 dX11_init_80 kt_0 (Nat.le_of_ble_eq_true rfl) fl_X11_26 rfl (by subst_vars; rfl) ?_
  refine z_callI (k_Floor_67) ik_X3_init ml_X11_54 ⟨Nat.le_of_ble_eq_true rfl, Nat.le_of_ble_eq_true rfl⟩ ⟨Nat.le_of_ble_eq_true rfl, Nat.le_of_ble_eq_true rfl⟩ rfl rfl (Nat.le_of_ble_eq_true rfl) dX11_init_83 (fun v9 ν9 q9 => ?_)
  obtain ⟨rfl, rfl⟩ := q9
  refine z_mm (fun μ_17 eμ_17 => ?_)
  refine z_putR (q := 1005) (j := 67) ff_11_5 (Or.inr ⟨rfl, rfl⟩) rfl rfl rfl dX11_init_86 kt_0 (Nat.le_of_ble_eq_true rfl) fl_X11_57 rfl ?_
  refine z_mm (fun μ_18 eμ_18 => ?_)
  refine z_rload_n dX11_init_89 rfl 0 rfl ?_
  refine z_new tyX2 dX11_init_90 kt_73 (by decide) rfl uw_2 rfl tyX2_ok dv_2 ck_X11_61 is_2 in_2 ⟨Nat.le_of_ble_eq_true rfl, Nat.le_of_ble_eq_true rfl⟩ ?_
  refine z_mm (fun μ_19 eμ_19 => ?_)
  refine z_dup dX11_init_93 rfl ?_
  refine z_rload_n dX11_init_94 rfl 0 rfl ?_
  refine z_getR (q := 1000) (j := 1) ff_11_0 dX11_init_95 kt_0 (Nat.le_of_ble_eq_true rfl) fl_X11_12 rfl (by subst_vars; rfl) ?_
  refine z_callI (k_Count_73) ik_X2_init ml_X11_63 ⟨Nat.le_of_ble_eq_true rfl, Nat.le_of_ble_eq_true rfl⟩ ⟨Nat.le_of_ble_eq_true rfl, Nat.le_of_ble_eq_true rfl⟩ rfl rfl (Nat.le_of_ble_eq_true rfl) dX11_init_98 (fun v9 ν9 q9 => ?_)
  obtain ⟨rfl, rfl⟩ := q9
  refine z_mm (fun μ_20 eμ_20 => ?_)
  refine z_putR (q := 1006) (j := 73) ff_11_6 (Or.inr ⟨rfl, rfl⟩) rfl rfl rfl dX11_init_101 kt_0 (Nat.le_of_ble_eq_true rfl) fl_X11_66 rfl ?_
  refine z_mm (fun μ_21 eμ_21 => ?_)
  refine z_rload_n dX11_init_104 rfl 0 rfl ?_
  refine z_new tyX0 dX11_init_105 kt_83 (by decide) rfl uw_0 rfl tyX0_ok dv_0 ck_X11_70 is_0 in_0 ⟨Nat.le_of_ble_eq_true rfl, Nat.le_of_ble_eq_true rfl⟩ ?_
  refine z_mm (fun μ_22 eμ_22 => ?_)
  refine z_dup dX11_init_108 rfl ?_
  refine z_rload_n dX11_init_109 rfl 0 rfl ?_
  refine z_getR (q := 1000) (j := 1) ff_11_0 dX11_init_110 kt_0 (Nat.le_of_ble_eq_true rfl) fl_X11_12 rfl (by subst_vars; rfl) ?_
  refine z_rload_n dX11_init_113 rfl 0 rfl ?_
  refine z_getR (q := 1004) (j := 12) ff_11_4 dX11_init_114 kt_0 (Nat.le_of_ble_eq_true rfl) fl_X11_26 rfl (by subst_vars; rfl) ?_
  refine z_rload_n dX11_init_117 rfl 0 rfl ?_
  refine z_getR (q := 1005) (j := 67) ff_11_5 dX11_init_118 kt_0 (Nat.le_of_ble_eq_true rfl) fl_X11_57 rfl (by subst_vars; rfl) ?_
  refine z_rload_n dX11_init_121 rfl 0 rfl ?_
  refine z_getR (q := 1006) (j := 73) ff_11_6 dX11_init_122 kt_0 (Nat.le_of_ble_eq_true rfl) fl_X11_66 rfl (by subst_vars; rfl) ?_
  refine z_callI (k_Chair_83) ik_X0_init ml_X11_72 ⟨Nat.le_of_ble_eq_true rfl, Nat.le_of_ble_eq_true rfl⟩ ⟨Nat.le_of_ble_eq_true rfl, Nat.le_of_ble_eq_true rfl⟩ rfl rfl (Nat.le_of_ble_eq_true rfl) dX11_init_125 (fun v9 ν9 q9 => ?_)
  obtain ⟨rfl, rfl⟩ := q9
  refine z_mm (fun μ_23 eμ_23 => ?_)
  refine z_putR (q := 1007) (j := 83) ff_11_7 (Or.inr ⟨rfl, rfl⟩) rfl rfl rfl dX11_init_128 kt_0 (Nat.le_of_ble_eq_true rfl) fl_X11_75 rfl ?_
  refine z_mm (fun μ_24 eμ_24 => ?_)
  refine z_rload_n dX11_init_131 rfl 0 rfl ?_
  refine z_new tyX1 dX11_init_132 kt_91 (by decide) rfl uw_1 rfl tyX1_ok dv_1 ck_X11_79 is_1 in_1 ⟨Nat.le_of_ble_eq_true rfl, Nat.le_of_ble_eq_true rfl⟩ ?_
  refine z_mm (fun μ_25 eμ_25 => ?_)
  refine z_dup dX11_init_135 rfl ?_
  refine z_rload_n dX11_init_136 rfl 0 rfl ?_
  refine z_getR (q := 1004) (j := 12) ff_11_4 dX11_init_137 kt_0 (Nat.le_of_ble_eq_true rfl) fl_X11_26 rfl (by subst_vars; rfl) ?_
  refine z_rload_n dX11_init_140 rfl 0 rfl ?_
  refine z_getR (q := 1005) (j := 67) ff_11_5 dX11_init_141 kt_0 (Nat.le_of_ble_eq_true rfl) fl_X11_57 rfl (by subst_vars; rfl) ?_
  refine z_callI (k_Comp_91) ik_X1_init ml_X11_81 ⟨Nat.le_of_ble_eq_true rfl, Nat.le_of_ble_eq_true rfl⟩ ⟨Nat.le_of_ble_eq_true rfl, Nat.le_of_ble_eq_true rfl⟩ rfl rfl (Nat.le_of_ble_eq_true rfl) dX11_init_144 (fun v9 ν9 q9 => ?_)
  obtain ⟨rfl, rfl⟩ := q9
  refine z_mm (fun μ_26 eμ_26 => ?_)
  refine z_putR (q := 1008) (j := 91) ff_11_8 (Or.inr ⟨rfl, rfl⟩) rfl rfl rfl dX11_init_147 kt_0 (Nat.le_of_ble_eq_true rfl) fl_X11_84 rfl ?_
  refine z_mm (fun μ_27 eμ_27 => ?_)
  refine z_rload_n dX11_init_150 rfl 0 rfl ?_
  refine z_new tyX10 dX11_init_151 kt_101 (by decide) rfl uw_10 rfl tyX10_ok dv_10 ck_X11_88 is_10 in_10 ⟨Nat.le_of_ble_eq_true rfl, Nat.le_of_ble_eq_true rfl⟩ ?_
  refine z_mm (fun μ_28 eμ_28 => ?_)
  refine z_dup dX11_init_154 rfl ?_
  refine z_rload_n dX11_init_155 rfl 0 rfl ?_
  refine z_getR (q := 1000) (j := 1) ff_11_0 dX11_init_156 kt_0 (Nat.le_of_ble_eq_true rfl) fl_X11_12 rfl (by subst_vars; rfl) ?_
  refine z_rload_n dX11_init_159 rfl 0 rfl ?_
  refine z_getR (q := 1004) (j := 12) ff_11_4 dX11_init_160 kt_0 (Nat.le_of_ble_eq_true rfl) fl_X11_26 rfl (by subst_vars; rfl) ?_
  refine z_rload_n dX11_init_163 rfl 0 rfl ?_
  refine z_getR (q := 1005) (j := 67) ff_11_5 dX11_init_164 kt_0 (Nat.le_of_ble_eq_true rfl) fl_X11_57 rfl (by subst_vars; rfl) ?_
  refine z_rload_n dX11_init_167 rfl 0 rfl ?_
  refine z_getR (q := 1006) (j := 73) ff_11_6 dX11_init_168 kt_0 (Nat.le_of_ble_eq_true rfl) fl_X11_66 rfl (by subst_vars; rfl) ?_
  refine z_callI (k_Worths_101) ik_X10_init ml_X11_90 ⟨Nat.le_of_ble_eq_true rfl, Nat.le_of_ble_eq_true rfl⟩ ⟨Nat.le_of_ble_eq_true rfl, Nat.le_of_ble_eq_true rfl⟩ rfl rfl (Nat.le_of_ble_eq_true rfl) dX11_init_171 (fun v9 ν9 q9 => ?_)
  obtain ⟨rfl, rfl⟩ := q9
  refine z_mm (fun μ_29 eμ_29 => ?_)
  refine z_putR (q := 1009) (j := 101) ff_11_9 (Or.inr ⟨rfl, rfl⟩) rfl rfl rfl dX11_init_174 kt_0 (Nat.le_of_ble_eq_true rfl) fl_X11_91 rfl ?_
  refine z_mm (fun μ_30 eμ_30 => ?_)
  exact z_vret rfl dX11_init_177 rfl rfl rfl ⟨rfl, by subst_vars; rfl⟩
def t_M_113 (μ : Mem) : Mem := sR (clr (sR (clr (sR (clr (sR (clr (sR (clr (sR (clr (sR (clr (sR (clr (sR (clr (sR (clr (sR (clr (sR (clr (sR (clr (sR (clr (sR (clr (sR (clr (sR (clr (sR (clr (sR (clr (sR (clr (sR (clr (sR (clr (sR (clr (sI (sR (clr (sR (clr (sR (clr (sR (clr (sR (clr (sR (clr (sR (clr (sR (clr (sR (clr (sR (clr (sR (clr (sR (clr (sR (clr (sR (clr (sR (clr (sR (clr (sR (clr (sR (clr (sR (clr (sR (clr (sR (clr (sI (sR (clr (sR (clr (sR (clr (sR (clr (sR (clr (sR (clr (sR (clr (sR (clr (sI (sR (clr (sR (clr (sR (clr (sR (clr (sR (clr (sI (sR (clr (sR (clr (sR (clr (μ) 114) 15467 0 (some 114)) 115) 15469 0 (some 115)) 116) 15470 0 (some 116)) 15471 0 (-1)) 117) 15473 0 (some 117)) 118) 15475 0 (some 118)) 119) 15476 0 (some 119)) 120) 15477 0 (some 120)) 121) 15478 0 (some 121)) 15480 0 (-1)) 122) 15481 0 (some 122)) 123) 15482 0 (some 123)) 124) 15483 0 (some 124)) 125) 15484 0 (some 125)) 126) 15485 0 (some 126)) 127) 15486 0 (some 127)) 128) 15487 0 (some 128)) 129) 15488 0 (some 129)) 15489 0 (-1)) 130) 15490 0 (some 130)) 131) 15491 0 (some 131)) 132) 15492 0 (some 132)) 133) 15493 0 (some 133)) 134) 15494 0 (some 134)) 135) 15495 0 (some 135)) 136) 15496 0 (some 136)) 137) 15497 0 (some 137)) 138) 15499 0 (some 138)) 139) 15500 0 (some 139)) 140) 15501 0 (some 140)) 141) 15502 0 (some 141)) 142) 15503 0 (some 142)) 143) 15504 0 (some 143)) 144) 15505 0 (some 144)) 145) 15506 0 (some 145)) 146) 15507 0 (some 146)) 147) 15508 0 (some 147)) 148) 15509 0 (some 148)) 149) 15510 0 (some 149)) 150) 15511 0 (some 150)) 15519 0 (-1)) 151) 15522 0 (some 151)) 152) 15523 0 (some 152)) 153) 15524 0 (some 153)) 154) 15528 0 (some 154)) 155) 15530 0 (some 155)) 156) 15531 0 (some 156)) 157) 15532 0 (some 157)) 158) 15535 0 (some 158)) 159) 15537 0 (some 159)) 160) 15538 0 (some 160)) 161) 15539 0 (some 161)) 162) 15540 0 (some 162)) 163) 15542 0 (some 163)) 164) 15543 0 (some 164)) 165) 15544 0 (some 165)) 166) 15546 0 (some 166)) 167) 15547 0 (some 167)) 168) 15548 0 (some 168)) 169) 15549 0 (some 169)) 170) 15550 0 (some 170)) 171) 15551 0 (some 171)) 172) 15552 0 (some 172)) 173) 15553 0 (some 173)
set_option maxRecDepth 20000 in
theorem k_M_113 {l : Launch} {Γ : Gam} {μ : Mem} : CT l Γ yX12_init cX12_init 1 none 1 21 60 12562 [vr Γ 113] 0 114 μ (pM (t_M_113 μ)) := by
  refine SW.ct (by decide) (Nat.le_of_ble_eq_true rfl) ?_
  refine z_sub (lv' := [(0, vr Γ 113)]) [0] rfl ?_
  refine z_rload_n dX12_init_0 rfl 0 rfl ?_
  refine z_objInit ol_X12_7 oi_inst oi_code dX12_init_1 ⟨Nat.le_of_ble_eq_true rfl, Nat.le_of_ble_eq_true rfl⟩ ?_
  refine z_rload_n dX12_init_4 rfl 0 rfl ?_
  refine z_bipush dX12_init_5 (by decide) ?_
  refine z_newI (len := 12) dX12_init_7 kt_114 (by decide) ac_int (by decide) ⟨Nat.le_of_ble_eq_true rfl, Nat.le_of_ble_eq_true rfl⟩ ?_
  refine z_mm (fun μ_1 eμ_1 => ?_)
  refine z_putR (q := 15467) (j := 114) ff_12_3 (Or.inr ⟨rfl, rfl⟩) rfl rfl rfl dX12_init_9 kt_113 (Nat.le_of_ble_eq_true rfl) fl_X12_13 rfl ?_
  refine z_mm (fun μ_2 eμ_2 => ?_)
  refine z_rload_n dX12_init_12 rfl 0 rfl ?_
  refine z_bipush dX12_init_13 (by decide) ?_
  refine z_newI (len := 48) dX12_init_15 kt_115 (by decide) ac_int (by decide) ⟨Nat.le_of_ble_eq_true rfl, Nat.le_of_ble_eq_true rfl⟩ ?_
  refine z_mm (fun μ_3 eμ_3 => ?_)
  refine z_putR (q := 15469) (j := 115) ff_12_5 (Or.inr ⟨rfl, rfl⟩) rfl rfl rfl dX12_init_17 kt_113 (Nat.le_of_ble_eq_true rfl) fl_X12_17 rfl ?_
  refine z_mm (fun μ_4 eμ_4 => ?_)
  refine z_rload_n dX12_init_20 rfl 0 rfl ?_
  refine z_bipush dX12_init_21 (by decide) ?_
  refine z_newI (len := 48) dX12_init_23 kt_116 (by decide) ac_int (by decide) ⟨Nat.le_of_ble_eq_true rfl, Nat.le_of_ble_eq_true rfl⟩ ?_
  refine z_mm (fun μ_5 eμ_5 => ?_)
  refine z_putR (q := 15470) (j := 116) ff_12_6 (Or.inr ⟨rfl, rfl⟩) rfl rfl rfl dX12_init_25 kt_113 (Nat.le_of_ble_eq_true rfl) fl_X12_20 rfl ?_
  refine z_mm (fun μ_6 eμ_6 => ?_)
  refine z_rload_n dX12_init_28 rfl 0 rfl ?_
  refine z_iconst dX12_init_29 ?_
  refine z_putI (q := 15471) (x := (-1)) ff_12_7 (Or.inl rfl) rfl dX12_init_30 kt_113 (Nat.le_of_ble_eq_true rfl) fl_X12_23 rfl ?_
  refine z_mm (fun μ_7 eμ_7 => ?_)
  refine z_rload_n dX12_init_33 rfl 0 rfl ?_
  refine z_bipush dX12_init_34 (by decide) ?_
  refine z_newI (len := 24) dX12_init_36 kt_117 (by decide) ac_int (by decide) ⟨Nat.le_of_ble_eq_true rfl, Nat.le_of_ble_eq_true rfl⟩ ?_
  refine z_mm (fun μ_8 eμ_8 => ?_)
  refine z_putR (q := 15473) (j := 117) ff_12_9 (Or.inr ⟨rfl, rfl⟩) rfl rfl rfl dX12_init_38 kt_113 (Nat.le_of_ble_eq_true rfl) fl_X12_26 rfl ?_
  refine z_mm (fun μ_9 eμ_9 => ?_)
  refine z_rload_n dX12_init_41 rfl 0 rfl ?_
  refine z_bipush dX12_init_42 (by decide) ?_
  refine z_newI (len := 40) dX12_init_44 kt_118 (by decide) ac_int (by decide) ⟨Nat.le_of_ble_eq_true rfl, Nat.le_of_ble_eq_true rfl⟩ ?_
  refine z_mm (fun μ_10 eμ_10 => ?_)
  refine z_putR (q := 15475) (j := 118) ff_12_11 (Or.inr ⟨rfl, rfl⟩) rfl rfl rfl dX12_init_46 kt_113 (Nat.le_of_ble_eq_true rfl) fl_X12_29 rfl ?_
  refine z_mm (fun μ_11 eμ_11 => ?_)
  refine z_rload_n dX12_init_49 rfl 0 rfl ?_
  refine z_bipush dX12_init_50 (by decide) ?_
  refine z_newI (len := 40) dX12_init_52 kt_119 (by decide) ac_int (by decide) ⟨Nat.le_of_ble_eq_true rfl, Nat.le_of_ble_eq_true rfl⟩ ?_
  refine z_mm (fun μ_12 eμ_12 => ?_)
  refine z_putR (q := 15476) (j := 119) ff_12_12 (Or.inr ⟨rfl, rfl⟩) rfl rfl rfl dX12_init_54 kt_113 (Nat.le_of_ble_eq_true rfl) fl_X12_32 rfl ?_
  refine z_mm (fun μ_13 eμ_13 => ?_)
  refine z_rload_n dX12_init_57 rfl 0 rfl ?_
  refine z_sipush dX12_init_58 (by decide) ?_
  refine z_newI (len := 240) dX12_init_61 kt_120 (by decide) ac_int (by decide) ⟨Nat.le_of_ble_eq_true rfl, Nat.le_of_ble_eq_true rfl⟩ ?_
  refine z_mm (fun μ_14 eμ_14 => ?_)
  refine z_putR (q := 15477) (j := 120) ff_12_13 (Or.inr ⟨rfl, rfl⟩) rfl rfl rfl dX12_init_63 kt_113 (Nat.le_of_ble_eq_true rfl) fl_X12_35 rfl ?_
  refine z_mm (fun μ_15 eμ_15 => ?_)
  refine z_rload_n dX12_init_66 rfl 0 rfl ?_
  refine z_sipush dX12_init_67 (by decide) ?_
  refine z_newI (len := 240) dX12_init_70 kt_121 (by decide) ac_int (by decide) ⟨Nat.le_of_ble_eq_true rfl, Nat.le_of_ble_eq_true rfl⟩ ?_
  refine z_mm (fun μ_16 eμ_16 => ?_)
  refine z_putR (q := 15478) (j := 121) ff_12_14 (Or.inr ⟨rfl, rfl⟩) rfl rfl rfl dX12_init_72 kt_113 (Nat.le_of_ble_eq_true rfl) fl_X12_38 rfl ?_
  refine z_mm (fun μ_17 eμ_17 => ?_)
  refine z_rload_n dX12_init_75 rfl 0 rfl ?_
  refine z_iconst dX12_init_76 ?_
  refine z_putI (q := 15480) (x := (-1)) ff_12_16 (Or.inl rfl) rfl dX12_init_77 kt_113 (Nat.le_of_ble_eq_true rfl) fl_X12_41 rfl ?_
  refine z_mm (fun μ_18 eμ_18 => ?_)
  refine z_rload_n dX12_init_80 rfl 0 rfl ?_
  refine z_bipush dX12_init_81 (by decide) ?_
  refine z_newI (len := 24) dX12_init_83 kt_122 (by decide) ac_int (by decide) ⟨Nat.le_of_ble_eq_true rfl, Nat.le_of_ble_eq_true rfl⟩ ?_
  refine z_mm (fun μ_19 eμ_19 => ?_)
  refine z_putR (q := 15481) (j := 122) ff_12_17 (Or.inr ⟨rfl, rfl⟩) rfl rfl rfl dX12_init_85 kt_113 (Nat.le_of_ble_eq_true rfl) fl_X12_44 rfl ?_
  refine z_mm (fun μ_20 eμ_20 => ?_)
  refine z_rload_n dX12_init_88 rfl 0 rfl ?_
  refine z_bipush dX12_init_89 (by decide) ?_
  refine z_newI (len := 40) dX12_init_91 kt_123 (by decide) ac_int (by decide) ⟨Nat.le_of_ble_eq_true rfl, Nat.le_of_ble_eq_true rfl⟩ ?_
  refine z_mm (fun μ_21 eμ_21 => ?_)
  refine z_putR (q := 15482) (j := 123) ff_12_18 (Or.inr ⟨rfl, rfl⟩) rfl rfl rfl dX12_init_93 kt_113 (Nat.le_of_ble_eq_true rfl) fl_X12_47 rfl ?_
  refine z_mm (fun μ_22 eμ_22 => ?_)
  refine z_rload_n dX12_init_96 rfl 0 rfl ?_
  refine z_bipush dX12_init_97 (by decide) ?_
  refine z_newI (len := 10) dX12_init_99 kt_124 (by decide) ac_int (by decide) ⟨Nat.le_of_ble_eq_true rfl, Nat.le_of_ble_eq_true rfl⟩ ?_
  refine z_mm (fun μ_23 eμ_23 => ?_)
  refine z_putR (q := 15483) (j := 124) ff_12_19 (Or.inr ⟨rfl, rfl⟩) rfl rfl rfl dX12_init_101 kt_113 (Nat.le_of_ble_eq_true rfl) fl_X12_50 rfl ?_
  refine z_mm (fun μ_24 eμ_24 => ?_)
  refine z_rload_n dX12_init_104 rfl 0 rfl ?_
  refine z_bipush dX12_init_105 (by decide) ?_
  refine z_newI (len := 24) dX12_init_107 kt_125 (by decide) ac_int (by decide) ⟨Nat.le_of_ble_eq_true rfl, Nat.le_of_ble_eq_true rfl⟩ ?_
  refine z_mm (fun μ_25 eμ_25 => ?_)
  refine z_putR (q := 15484) (j := 125) ff_12_20 (Or.inr ⟨rfl, rfl⟩) rfl rfl rfl dX12_init_109 kt_113 (Nat.le_of_ble_eq_true rfl) fl_X12_53 rfl ?_
  refine z_mm (fun μ_26 eμ_26 => ?_)
  refine z_rload_n dX12_init_112 rfl 0 rfl ?_
  refine z_sipush dX12_init_113 (by decide) ?_
  refine z_newI (len := 288) dX12_init_116 kt_126 (by decide) ac_int (by decide) ⟨Nat.le_of_ble_eq_true rfl, Nat.le_of_ble_eq_true rfl⟩ ?_
  refine z_mm (fun μ_27 eμ_27 => ?_)
  refine z_putR (q := 15485) (j := 126) ff_12_21 (Or.inr ⟨rfl, rfl⟩) rfl rfl rfl dX12_init_118 kt_113 (Nat.le_of_ble_eq_true rfl) fl_X12_56 rfl ?_
  refine z_mm (fun μ_28 eμ_28 => ?_)
  refine z_rload_n dX12_init_121 rfl 0 rfl ?_
  refine z_sipush dX12_init_122 (by decide) ?_
  refine z_newZ (len := 288) dX12_init_125 kt_127 (by decide) ac_boolean (by decide) ⟨Nat.le_of_ble_eq_true rfl, Nat.le_of_ble_eq_true rfl⟩ ?_
  refine z_mm (fun μ_29 eμ_29 => ?_)
  refine z_putR (q := 15486) (j := 127) ff_12_22 (Or.inr ⟨rfl, rfl⟩) rfl rfl rfl dX12_init_127 kt_113 (Nat.le_of_ble_eq_true rfl) fl_X12_59 rfl ?_
  refine z_mm (fun μ_30 eμ_30 => ?_)
  refine z_rload_n dX12_init_130 rfl 0 rfl ?_
  refine z_sipush dX12_init_131 (by decide) ?_
  refine z_newI (len := 288) dX12_init_134 kt_128 (by decide) ac_int (by decide) ⟨Nat.le_of_ble_eq_true rfl, Nat.le_of_ble_eq_true rfl⟩ ?_
  refine z_mm (fun μ_31 eμ_31 => ?_)
  refine z_putR (q := 15487) (j := 128) ff_12_23 (Or.inr ⟨rfl, rfl⟩) rfl rfl rfl dX12_init_136 kt_113 (Nat.le_of_ble_eq_true rfl) fl_X12_63 rfl ?_
  refine z_mm (fun μ_32 eμ_32 => ?_)
  refine z_rload_n dX12_init_139 rfl 0 rfl ?_
  refine z_bipush dX12_init_140 (by decide) ?_
  refine z_newI (len := 61) dX12_init_142 kt_129 (by decide) ac_int (by decide) ⟨Nat.le_of_ble_eq_true rfl, Nat.le_of_ble_eq_true rfl⟩ ?_
  refine z_mm (fun μ_33 eμ_33 => ?_)
  refine z_putR (q := 15488) (j := 129) ff_12_24 (Or.inr ⟨rfl, rfl⟩) rfl rfl rfl dX12_init_144 kt_113 (Nat.le_of_ble_eq_true rfl) fl_X12_66 rfl ?_
  refine z_mm (fun μ_34 eμ_34 => ?_)
  refine z_rload_n dX12_init_147 rfl 0 rfl ?_
  refine z_iconst dX12_init_148 ?_
  refine z_putI (q := 15489) (x := (-1)) ff_12_25 (Or.inl rfl) rfl dX12_init_149 kt_113 (Nat.le_of_ble_eq_true rfl) fl_X12_69 rfl ?_
  refine z_mm (fun μ_35 eμ_35 => ?_)
  refine z_rload_n dX12_init_152 rfl 0 rfl ?_
  refine z_bipush dX12_init_153 (by decide) ?_
  refine z_newI (len := 24) dX12_init_155 kt_130 (by decide) ac_int (by decide) ⟨Nat.le_of_ble_eq_true rfl, Nat.le_of_ble_eq_true rfl⟩ ?_
  refine z_mm (fun μ_36 eμ_36 => ?_)
  refine z_putR (q := 15490) (j := 130) ff_12_26 (Or.inr ⟨rfl, rfl⟩) rfl rfl rfl dX12_init_157 kt_113 (Nat.le_of_ble_eq_true rfl) fl_X12_72 rfl ?_
  refine z_mm (fun μ_37 eμ_37 => ?_)
  refine z_rload_n dX12_init_160 rfl 0 rfl ?_
  refine z_bipush dX12_init_161 (by decide) ?_
  refine z_newI (len := 40) dX12_init_163 kt_131 (by decide) ac_int (by decide) ⟨Nat.le_of_ble_eq_true rfl, Nat.le_of_ble_eq_true rfl⟩ ?_
  refine z_mm (fun μ_38 eμ_38 => ?_)
  refine z_putR (q := 15491) (j := 131) ff_12_27 (Or.inr ⟨rfl, rfl⟩) rfl rfl rfl dX12_init_165 kt_113 (Nat.le_of_ble_eq_true rfl) fl_X12_75 rfl ?_
  refine z_mm (fun μ_39 eμ_39 => ?_)
  refine z_rload_n dX12_init_168 rfl 0 rfl ?_
  refine z_bipush dX12_init_169 (by decide) ?_
  refine z_newI (len := 10) dX12_init_171 kt_132 (by decide) ac_int (by decide) ⟨Nat.le_of_ble_eq_true rfl, Nat.le_of_ble_eq_true rfl⟩ ?_
  refine z_mm (fun μ_40 eμ_40 => ?_)
  refine z_putR (q := 15492) (j := 132) ff_12_28 (Or.inr ⟨rfl, rfl⟩) rfl rfl rfl dX12_init_173 kt_113 (Nat.le_of_ble_eq_true rfl) fl_X12_78 rfl ?_
  refine z_mm (fun μ_41 eμ_41 => ?_)
  refine z_rload_n dX12_init_176 rfl 0 rfl ?_
  refine z_bipush dX12_init_177 (by decide) ?_
  refine z_newI (len := 24) dX12_init_179 kt_133 (by decide) ac_int (by decide) ⟨Nat.le_of_ble_eq_true rfl, Nat.le_of_ble_eq_true rfl⟩ ?_
  refine z_mm (fun μ_42 eμ_42 => ?_)
  refine z_putR (q := 15493) (j := 133) ff_12_29 (Or.inr ⟨rfl, rfl⟩) rfl rfl rfl dX12_init_181 kt_113 (Nat.le_of_ble_eq_true rfl) fl_X12_81 rfl ?_
  refine z_mm (fun μ_43 eμ_43 => ?_)
  refine z_rload_n dX12_init_184 rfl 0 rfl ?_
  refine z_sipush dX12_init_185 (by decide) ?_
  refine z_newI (len := 288) dX12_init_188 kt_134 (by decide) ac_int (by decide) ⟨Nat.le_of_ble_eq_true rfl, Nat.le_of_ble_eq_true rfl⟩ ?_
  refine z_mm (fun μ_44 eμ_44 => ?_)
  refine z_putR (q := 15494) (j := 134) ff_12_30 (Or.inr ⟨rfl, rfl⟩) rfl rfl rfl dX12_init_190 kt_113 (Nat.le_of_ble_eq_true rfl) fl_X12_84 rfl ?_
  refine z_mm (fun μ_45 eμ_45 => ?_)
  refine z_rload_n dX12_init_193 rfl 0 rfl ?_
  refine z_sipush dX12_init_194 (by decide) ?_
  refine z_newZ (len := 288) dX12_init_197 kt_135 (by decide) ac_boolean (by decide) ⟨Nat.le_of_ble_eq_true rfl, Nat.le_of_ble_eq_true rfl⟩ ?_
  refine z_mm (fun μ_46 eμ_46 => ?_)
  refine z_putR (q := 15495) (j := 135) ff_12_31 (Or.inr ⟨rfl, rfl⟩) rfl rfl rfl dX12_init_199 kt_113 (Nat.le_of_ble_eq_true rfl) fl_X12_87 rfl ?_
  refine z_mm (fun μ_47 eμ_47 => ?_)
  refine z_rload_n dX12_init_202 rfl 0 rfl ?_
  refine z_sipush dX12_init_203 (by decide) ?_
  refine z_newI (len := 288) dX12_init_206 kt_136 (by decide) ac_int (by decide) ⟨Nat.le_of_ble_eq_true rfl, Nat.le_of_ble_eq_true rfl⟩ ?_
  refine z_mm (fun μ_48 eμ_48 => ?_)
  refine z_putR (q := 15496) (j := 136) ff_12_32 (Or.inr ⟨rfl, rfl⟩) rfl rfl rfl dX12_init_208 kt_113 (Nat.le_of_ble_eq_true rfl) fl_X12_90 rfl ?_
  refine z_mm (fun μ_49 eμ_49 => ?_)
  refine z_rload_n dX12_init_211 rfl 0 rfl ?_
  refine z_bipush dX12_init_212 (by decide) ?_
  refine z_newI (len := 61) dX12_init_214 kt_137 (by decide) ac_int (by decide) ⟨Nat.le_of_ble_eq_true rfl, Nat.le_of_ble_eq_true rfl⟩ ?_
  refine z_mm (fun μ_50 eμ_50 => ?_)
  refine z_putR (q := 15497) (j := 137) ff_12_33 (Or.inr ⟨rfl, rfl⟩) rfl rfl rfl dX12_init_216 kt_113 (Nat.le_of_ble_eq_true rfl) fl_X12_93 rfl ?_
  refine z_mm (fun μ_51 eμ_51 => ?_)
  refine z_rload_n dX12_init_219 rfl 0 rfl ?_
  refine z_sipush dX12_init_220 (by decide) ?_
  refine z_newI (len := 600) dX12_init_223 kt_138 (by decide) ac_int (by decide) ⟨Nat.le_of_ble_eq_true rfl, Nat.le_of_ble_eq_true rfl⟩ ?_
  refine z_mm (fun μ_52 eμ_52 => ?_)
  refine z_putR (q := 15499) (j := 138) ff_12_35 (Or.inr ⟨rfl, rfl⟩) rfl rfl rfl dX12_init_225 kt_113 (Nat.le_of_ble_eq_true rfl) fl_X12_96 rfl ?_
  refine z_mm (fun μ_53 eμ_53 => ?_)
  refine z_rload_n dX12_init_228 rfl 0 rfl ?_
  refine z_sipush dX12_init_229 (by decide) ?_
  refine z_newI (len := 600) dX12_init_232 kt_139 (by decide) ac_int (by decide) ⟨Nat.le_of_ble_eq_true rfl, Nat.le_of_ble_eq_true rfl⟩ ?_
  refine z_mm (fun μ_54 eμ_54 => ?_)
  refine z_putR (q := 15500) (j := 139) ff_12_36 (Or.inr ⟨rfl, rfl⟩) rfl rfl rfl dX12_init_234 kt_113 (Nat.le_of_ble_eq_true rfl) fl_X12_99 rfl ?_
  refine z_mm (fun μ_55 eμ_55 => ?_)
  refine z_rload_n dX12_init_237 rfl 0 rfl ?_
  refine z_sipush dX12_init_238 (by decide) ?_
  refine z_newI (len := 600) dX12_init_241 kt_140 (by decide) ac_int (by decide) ⟨Nat.le_of_ble_eq_true rfl, Nat.le_of_ble_eq_true rfl⟩ ?_
  refine z_mm (fun μ_56 eμ_56 => ?_)
  refine z_putR (q := 15501) (j := 140) ff_12_37 (Or.inr ⟨rfl, rfl⟩) rfl rfl rfl dX12_init_243 kt_113 (Nat.le_of_ble_eq_true rfl) fl_X12_102 rfl ?_
  refine z_mm (fun μ_57 eμ_57 => ?_)
  refine z_rload_n dX12_init_246 rfl 0 rfl ?_
  refine z_sipush dX12_init_247 (by decide) ?_
  refine z_newI (len := 600) dX12_init_250 kt_141 (by decide) ac_int (by decide) ⟨Nat.le_of_ble_eq_true rfl, Nat.le_of_ble_eq_true rfl⟩ ?_
  refine z_mm (fun μ_58 eμ_58 => ?_)
  refine z_putR (q := 15502) (j := 141) ff_12_38 (Or.inr ⟨rfl, rfl⟩) rfl rfl rfl dX12_init_252 kt_113 (Nat.le_of_ble_eq_true rfl) fl_X12_105 rfl ?_
  refine z_mm (fun μ_59 eμ_59 => ?_)
  refine z_rload_n dX12_init_255 rfl 0 rfl ?_
  refine z_sipush dX12_init_256 (by decide) ?_
  refine z_newI (len := 600) dX12_init_259 kt_142 (by decide) ac_int (by decide) ⟨Nat.le_of_ble_eq_true rfl, Nat.le_of_ble_eq_true rfl⟩ ?_
  refine z_mm (fun μ_60 eμ_60 => ?_)
  refine z_putR (q := 15503) (j := 142) ff_12_39 (Or.inr ⟨rfl, rfl⟩) rfl rfl rfl dX12_init_261 kt_113 (Nat.le_of_ble_eq_true rfl) fl_X12_108 rfl ?_
  refine z_mm (fun μ_61 eμ_61 => ?_)
  refine z_rload_n dX12_init_264 rfl 0 rfl ?_
  refine z_sipush dX12_init_265 (by decide) ?_
  refine z_newI (len := 3520) dX12_init_268 kt_143 (by decide) ac_int (by decide) ⟨Nat.le_of_ble_eq_true rfl, Nat.le_of_ble_eq_true rfl⟩ ?_
  refine z_mm (fun μ_62 eμ_62 => ?_)
  refine z_putR (q := 15504) (j := 143) ff_12_40 (Or.inr ⟨rfl, rfl⟩) rfl rfl rfl dX12_init_270 kt_113 (Nat.le_of_ble_eq_true rfl) fl_X12_111 rfl ?_
  refine z_mm (fun μ_63 eμ_63 => ?_)
  refine z_rload_n dX12_init_273 rfl 0 rfl ?_
  refine z_bipush dX12_init_274 (by decide) ?_
  refine z_newI (len := 11) dX12_init_276 kt_144 (by decide) ac_int (by decide) ⟨Nat.le_of_ble_eq_true rfl, Nat.le_of_ble_eq_true rfl⟩ ?_
  refine z_mm (fun μ_64 eμ_64 => ?_)
  refine z_putR (q := 15505) (j := 144) ff_12_41 (Or.inr ⟨rfl, rfl⟩) rfl rfl rfl dX12_init_278 kt_113 (Nat.le_of_ble_eq_true rfl) fl_X12_114 rfl ?_
  refine z_mm (fun μ_65 eμ_65 => ?_)
  refine z_rload_n dX12_init_281 rfl 0 rfl ?_
  refine z_bipush dX12_init_282 (by decide) ?_
  refine z_newI (len := 11) dX12_init_284 kt_145 (by decide) ac_int (by decide) ⟨Nat.le_of_ble_eq_true rfl, Nat.le_of_ble_eq_true rfl⟩ ?_
  refine z_mm (fun μ_66 eμ_66 => ?_)
  refine z_putR (q := 15506) (j := 145) ff_12_42 (Or.inr ⟨rfl, rfl⟩) rfl rfl rfl dX12_init_286 kt_113 (Nat.le_of_ble_eq_true rfl) fl_X12_117 rfl ?_
  refine z_mm (fun μ_67 eμ_67 => ?_)
  refine z_rload_n dX12_init_289 rfl 0 rfl ?_
  refine z_sipush dX12_init_290 (by decide) ?_
  refine z_newI (len := 165) dX12_init_293 kt_146 (by decide) ac_int (by decide) ⟨Nat.le_of_ble_eq_true rfl, Nat.le_of_ble_eq_true rfl⟩ ?_
  refine z_mm (fun μ_68 eμ_68 => ?_)
  refine z_putR (q := 15507) (j := 146) ff_12_43 (Or.inr ⟨rfl, rfl⟩) rfl rfl rfl dX12_init_295 kt_113 (Nat.le_of_ble_eq_true rfl) fl_X12_120 rfl ?_
  refine z_mm (fun μ_69 eμ_69 => ?_)
  refine z_rload_n dX12_init_298 rfl 0 rfl ?_
  refine z_sipush dX12_init_299 (by decide) ?_
  refine z_newI (len := 165) dX12_init_302 kt_147 (by decide) ac_int (by decide) ⟨Nat.le_of_ble_eq_true rfl, Nat.le_of_ble_eq_true rfl⟩ ?_
  refine z_mm (fun μ_70 eμ_70 => ?_)
  refine z_putR (q := 15508) (j := 147) ff_12_44 (Or.inr ⟨rfl, rfl⟩) rfl rfl rfl dX12_init_304 kt_113 (Nat.le_of_ble_eq_true rfl) fl_X12_123 rfl ?_
  refine z_mm (fun μ_71 eμ_71 => ?_)
  refine z_rload_n dX12_init_307 rfl 0 rfl ?_
  refine z_sipush dX12_init_308 (by decide) ?_
  refine z_newI (len := 165) dX12_init_311 kt_148 (by decide) ac_int (by decide) ⟨Nat.le_of_ble_eq_true rfl, Nat.le_of_ble_eq_true rfl⟩ ?_
  refine z_mm (fun μ_72 eμ_72 => ?_)
  refine z_putR (q := 15509) (j := 148) ff_12_45 (Or.inr ⟨rfl, rfl⟩) rfl rfl rfl dX12_init_313 kt_113 (Nat.le_of_ble_eq_true rfl) fl_X12_126 rfl ?_
  refine z_mm (fun μ_73 eμ_73 => ?_)
  refine z_rload_n dX12_init_316 rfl 0 rfl ?_
  refine z_sipush dX12_init_317 (by decide) ?_
  refine z_newI (len := 165) dX12_init_320 kt_149 (by decide) ac_int (by decide) ⟨Nat.le_of_ble_eq_true rfl, Nat.le_of_ble_eq_true rfl⟩ ?_
  refine z_mm (fun μ_74 eμ_74 => ?_)
  refine z_putR (q := 15510) (j := 149) ff_12_46 (Or.inr ⟨rfl, rfl⟩) rfl rfl rfl dX12_init_322 kt_113 (Nat.le_of_ble_eq_true rfl) fl_X12_129 rfl ?_
  refine z_mm (fun μ_75 eμ_75 => ?_)
  refine z_rload_n dX12_init_325 rfl 0 rfl ?_
  refine z_sipush dX12_init_326 (by decide) ?_
  refine z_newB (len := 300) dX12_init_329 kt_150 (by decide) ac_byte (by decide) ⟨Nat.le_of_ble_eq_true rfl, Nat.le_of_ble_eq_true rfl⟩ ?_
  refine z_mm (fun μ_76 eμ_76 => ?_)
  refine z_putR (q := 15511) (j := 150) ff_12_47 (Or.inr ⟨rfl, rfl⟩) rfl rfl rfl dX12_init_331 kt_113 (Nat.le_of_ble_eq_true rfl) fl_X12_132 rfl ?_
  refine z_mm (fun μ_77 eμ_77 => ?_)
  refine z_rload_n dX12_init_334 rfl 0 rfl ?_
  refine z_iconst dX12_init_335 ?_
  refine z_putI (q := 15519) (x := (-1)) ff_12_55 (Or.inl rfl) rfl dX12_init_336 kt_113 (Nat.le_of_ble_eq_true rfl) fl_X12_136 rfl ?_
  refine z_mm (fun μ_78 eμ_78 => ?_)
  refine z_rload_n dX12_init_339 rfl 0 rfl ?_
  refine z_bipush dX12_init_340 (by decide) ?_
  refine z_newI (len := 13) dX12_init_342 kt_151 (by decide) ac_int (by decide) ⟨Nat.le_of_ble_eq_true rfl, Nat.le_of_ble_eq_true rfl⟩ ?_
  refine z_mm (fun μ_79 eμ_79 => ?_)
  refine z_putR (q := 15522) (j := 151) ff_12_58 (Or.inr ⟨rfl, rfl⟩) rfl rfl rfl dX12_init_344 kt_113 (Nat.le_of_ble_eq_true rfl) fl_X12_139 rfl ?_
  refine z_mm (fun μ_80 eμ_80 => ?_)
  refine z_rload_n dX12_init_347 rfl 0 rfl ?_
  refine z_sipush dX12_init_348 (by decide) ?_
  refine z_newI (len := 320) dX12_init_351 kt_152 (by decide) ac_int (by decide) ⟨Nat.le_of_ble_eq_true rfl, Nat.le_of_ble_eq_true rfl⟩ ?_
  refine z_mm (fun μ_81 eμ_81 => ?_)
  refine z_putR (q := 15523) (j := 152) ff_12_59 (Or.inr ⟨rfl, rfl⟩) rfl rfl rfl dX12_init_353 kt_113 (Nat.le_of_ble_eq_true rfl) fl_X12_142 rfl ?_
  refine z_mm (fun μ_82 eμ_82 => ?_)
  refine z_rload_n dX12_init_356 rfl 0 rfl ?_
  refine z_bipush dX12_init_357 (by decide) ?_
  refine z_newZ (len := 12) dX12_init_359 kt_153 (by decide) ac_boolean (by decide) ⟨Nat.le_of_ble_eq_true rfl, Nat.le_of_ble_eq_true rfl⟩ ?_
  refine z_mm (fun μ_83 eμ_83 => ?_)
  refine z_putR (q := 15524) (j := 153) ff_12_60 (Or.inr ⟨rfl, rfl⟩) rfl rfl rfl dX12_init_361 kt_113 (Nat.le_of_ble_eq_true rfl) fl_X12_145 rfl ?_
  refine z_mm (fun μ_84 eμ_84 => ?_)
  refine z_rload_n dX12_init_364 rfl 0 rfl ?_
  refine z_bipush dX12_init_365 (by decide) ?_
  refine z_newJ (len := 6) dX12_init_367 kt_154 (by decide) ac_long (by decide) ⟨Nat.le_of_ble_eq_true rfl, Nat.le_of_ble_eq_true rfl⟩ ?_
  refine z_mm (fun μ_85 eμ_85 => ?_)
  refine z_putR (q := 15528) (j := 154) ff_12_64 (Or.inr ⟨rfl, rfl⟩) rfl rfl rfl dX12_init_369 kt_113 (Nat.le_of_ble_eq_true rfl) fl_X12_148 rfl ?_
  refine z_mm (fun μ_86 eμ_86 => ?_)
  refine z_rload_n dX12_init_372 rfl 0 rfl ?_
  refine z_bipush dX12_init_373 (by decide) ?_
  refine z_newI (len := 12) dX12_init_375 kt_155 (by decide) ac_int (by decide) ⟨Nat.le_of_ble_eq_true rfl, Nat.le_of_ble_eq_true rfl⟩ ?_
  refine z_mm (fun μ_87 eμ_87 => ?_)
  refine z_putR (q := 15530) (j := 155) ff_12_66 (Or.inr ⟨rfl, rfl⟩) rfl rfl rfl dX12_init_377 kt_113 (Nat.le_of_ble_eq_true rfl) fl_X12_152 rfl ?_
  refine z_mm (fun μ_88 eμ_88 => ?_)
  refine z_rload_n dX12_init_380 rfl 0 rfl ?_
  refine z_bipush dX12_init_381 (by decide) ?_
  refine z_newZ (len := 12) dX12_init_383 kt_156 (by decide) ac_boolean (by decide) ⟨Nat.le_of_ble_eq_true rfl, Nat.le_of_ble_eq_true rfl⟩ ?_
  refine z_mm (fun μ_89 eμ_89 => ?_)
  refine z_putR (q := 15531) (j := 156) ff_12_67 (Or.inr ⟨rfl, rfl⟩) rfl rfl rfl dX12_init_385 kt_113 (Nat.le_of_ble_eq_true rfl) fl_X12_155 rfl ?_
  refine z_mm (fun μ_90 eμ_90 => ?_)
  refine z_rload_n dX12_init_388 rfl 0 rfl ?_
  refine z_bipush dX12_init_389 (by decide) ?_
  refine z_newI (len := 12) dX12_init_391 kt_157 (by decide) ac_int (by decide) ⟨Nat.le_of_ble_eq_true rfl, Nat.le_of_ble_eq_true rfl⟩ ?_
  refine z_mm (fun μ_91 eμ_91 => ?_)
  refine z_putR (q := 15532) (j := 157) ff_12_68 (Or.inr ⟨rfl, rfl⟩) rfl rfl rfl dX12_init_393 kt_113 (Nat.le_of_ble_eq_true rfl) fl_X12_158 rfl ?_
  refine z_mm (fun μ_92 eμ_92 => ?_)
  refine z_rload_n dX12_init_396 rfl 0 rfl ?_
  refine z_sipush dX12_init_397 (by decide) ?_
  refine z_newI (len := 700) dX12_init_400 kt_158 (by decide) ac_int (by decide) ⟨Nat.le_of_ble_eq_true rfl, Nat.le_of_ble_eq_true rfl⟩ ?_
  refine z_mm (fun μ_93 eμ_93 => ?_)
  refine z_putR (q := 15535) (j := 158) ff_12_71 (Or.inr ⟨rfl, rfl⟩) rfl rfl rfl dX12_init_402 kt_113 (Nat.le_of_ble_eq_true rfl) fl_X12_161 rfl ?_
  refine z_mm (fun μ_94 eμ_94 => ?_)
  refine z_rload_n dX12_init_405 rfl 0 rfl ?_
  refine z_bipush dX12_init_406 (by decide) ?_
  refine z_newI (len := 61) dX12_init_408 kt_159 (by decide) ac_int (by decide) ⟨Nat.le_of_ble_eq_true rfl, Nat.le_of_ble_eq_true rfl⟩ ?_
  refine z_mm (fun μ_95 eμ_95 => ?_)
  refine z_putR (q := 15537) (j := 159) ff_12_73 (Or.inr ⟨rfl, rfl⟩) rfl rfl rfl dX12_init_410 kt_113 (Nat.le_of_ble_eq_true rfl) fl_X12_164 rfl ?_
  refine z_mm (fun μ_96 eμ_96 => ?_)
  refine z_rload_n dX12_init_413 rfl 0 rfl ?_
  refine z_bipush dX12_init_414 (by decide) ?_
  refine z_newZ (len := 61) dX12_init_416 kt_160 (by decide) ac_boolean (by decide) ⟨Nat.le_of_ble_eq_true rfl, Nat.le_of_ble_eq_true rfl⟩ ?_
  refine z_mm (fun μ_97 eμ_97 => ?_)
  refine z_putR (q := 15538) (j := 160) ff_12_74 (Or.inr ⟨rfl, rfl⟩) rfl rfl rfl dX12_init_418 kt_113 (Nat.le_of_ble_eq_true rfl) fl_X12_167 rfl ?_
  refine z_mm (fun μ_98 eμ_98 => ?_)
  refine z_rload_n dX12_init_421 rfl 0 rfl ?_
  refine z_bipush dX12_init_422 (by decide) ?_
  refine z_newI (len := 61) dX12_init_424 kt_161 (by decide) ac_int (by decide) ⟨Nat.le_of_ble_eq_true rfl, Nat.le_of_ble_eq_true rfl⟩ ?_
  refine z_mm (fun μ_99 eμ_99 => ?_)
  refine z_putR (q := 15539) (j := 161) ff_12_75 (Or.inr ⟨rfl, rfl⟩) rfl rfl rfl dX12_init_426 kt_113 (Nat.le_of_ble_eq_true rfl) fl_X12_170 rfl ?_
  refine z_mm (fun μ_100 eμ_100 => ?_)
  refine z_rload_n dX12_init_429 rfl 0 rfl ?_
  refine z_bipush dX12_init_430 (by decide) ?_
  refine z_newZ (len := 61) dX12_init_432 kt_162 (by decide) ac_boolean (by decide) ⟨Nat.le_of_ble_eq_true rfl, Nat.le_of_ble_eq_true rfl⟩ ?_
  refine z_mm (fun μ_101 eμ_101 => ?_)
  refine z_putR (q := 15540) (j := 162) ff_12_76 (Or.inr ⟨rfl, rfl⟩) rfl rfl rfl dX12_init_434 kt_113 (Nat.le_of_ble_eq_true rfl) fl_X12_173 rfl ?_
  refine z_mm (fun μ_102 eμ_102 => ?_)
  refine z_rload_n dX12_init_437 rfl 0 rfl ?_
  refine z_bipush dX12_init_438 (by decide) ?_
  refine z_newI (len := 8) dX12_init_440 kt_163 (by decide) ac_int (by decide) ⟨Nat.le_of_ble_eq_true rfl, Nat.le_of_ble_eq_true rfl⟩ ?_
  refine z_mm (fun μ_103 eμ_103 => ?_)
  refine z_putR (q := 15542) (j := 163) ff_12_78 (Or.inr ⟨rfl, rfl⟩) rfl rfl rfl dX12_init_442 kt_113 (Nat.le_of_ble_eq_true rfl) fl_X12_176 rfl ?_
  refine z_mm (fun μ_104 eμ_104 => ?_)
  refine z_rload_n dX12_init_445 rfl 0 rfl ?_
  refine z_bipush dX12_init_446 (by decide) ?_
  refine z_newI (len := 8) dX12_init_448 kt_164 (by decide) ac_int (by decide) ⟨Nat.le_of_ble_eq_true rfl, Nat.le_of_ble_eq_true rfl⟩ ?_
  refine z_mm (fun μ_105 eμ_105 => ?_)
  refine z_putR (q := 15543) (j := 164) ff_12_79 (Or.inr ⟨rfl, rfl⟩) rfl rfl rfl dX12_init_450 kt_113 (Nat.le_of_ble_eq_true rfl) fl_X12_179 rfl ?_
  refine z_mm (fun μ_106 eμ_106 => ?_)
  refine z_rload_n dX12_init_453 rfl 0 rfl ?_
  refine z_bipush dX12_init_454 (by decide) ?_
  refine z_newI (len := 8) dX12_init_456 kt_165 (by decide) ac_int (by decide) ⟨Nat.le_of_ble_eq_true rfl, Nat.le_of_ble_eq_true rfl⟩ ?_
  refine z_mm (fun μ_107 eμ_107 => ?_)
  refine z_putR (q := 15544) (j := 165) ff_12_80 (Or.inr ⟨rfl, rfl⟩) rfl rfl rfl dX12_init_458 kt_113 (Nat.le_of_ble_eq_true rfl) fl_X12_182 rfl ?_
  refine z_mm (fun μ_108 eμ_108 => ?_)
  refine z_rload_n dX12_init_461 rfl 0 rfl ?_
  refine z_sipush dX12_init_462 (by decide) ?_
  refine z_newI (len := 288) dX12_init_465 kt_166 (by decide) ac_int (by decide) ⟨Nat.le_of_ble_eq_true rfl, Nat.le_of_ble_eq_true rfl⟩ ?_
  refine z_mm (fun μ_109 eμ_109 => ?_)
  refine z_putR (q := 15546) (j := 166) ff_12_82 (Or.inr ⟨rfl, rfl⟩) rfl rfl rfl dX12_init_467 kt_113 (Nat.le_of_ble_eq_true rfl) fl_X12_185 rfl ?_
  refine z_mm (fun μ_110 eμ_110 => ?_)
  refine z_rload_n dX12_init_470 rfl 0 rfl ?_
  refine z_bipush dX12_init_471 (by decide) ?_
  refine z_newI (len := 6) dX12_init_473 kt_167 (by decide) ac_int (by decide) ⟨Nat.le_of_ble_eq_true rfl, Nat.le_of_ble_eq_true rfl⟩ ?_
  refine z_mm (fun μ_111 eμ_111 => ?_)
  refine z_putR (q := 15547) (j := 167) ff_12_83 (Or.inr ⟨rfl, rfl⟩) rfl rfl rfl dX12_init_475 kt_113 (Nat.le_of_ble_eq_true rfl) fl_X12_188 rfl ?_
  refine z_mm (fun μ_112 eμ_112 => ?_)
  refine z_rload_n dX12_init_478 rfl 0 rfl ?_
  refine z_bipush dX12_init_479 (by decide) ?_
  refine z_newI (len := 6) dX12_init_481 kt_168 (by decide) ac_int (by decide) ⟨Nat.le_of_ble_eq_true rfl, Nat.le_of_ble_eq_true rfl⟩ ?_
  refine z_mm (fun μ_113 eμ_113 => ?_)
  refine z_putR (q := 15548) (j := 168) ff_12_84 (Or.inr ⟨rfl, rfl⟩) rfl rfl rfl dX12_init_483 kt_113 (Nat.le_of_ble_eq_true rfl) fl_X12_191 rfl ?_
  refine z_mm (fun μ_114 eμ_114 => ?_)
  refine z_rload_n dX12_init_486 rfl 0 rfl ?_
  refine z_bipush dX12_init_487 (by decide) ?_
  refine z_newI (len := 61) dX12_init_489 kt_169 (by decide) ac_int (by decide) ⟨Nat.le_of_ble_eq_true rfl, Nat.le_of_ble_eq_true rfl⟩ ?_
  refine z_mm (fun μ_115 eμ_115 => ?_)
  refine z_putR (q := 15549) (j := 169) ff_12_85 (Or.inr ⟨rfl, rfl⟩) rfl rfl rfl dX12_init_491 kt_113 (Nat.le_of_ble_eq_true rfl) fl_X12_194 rfl ?_
  refine z_mm (fun μ_116 eμ_116 => ?_)
  refine z_rload_n dX12_init_494 rfl 0 rfl ?_
  refine z_bipush dX12_init_495 (by decide) ?_
  refine z_newZ (len := 24) dX12_init_497 kt_170 (by decide) ac_boolean (by decide) ⟨Nat.le_of_ble_eq_true rfl, Nat.le_of_ble_eq_true rfl⟩ ?_
  refine z_mm (fun μ_117 eμ_117 => ?_)
  refine z_putR (q := 15550) (j := 170) ff_12_86 (Or.inr ⟨rfl, rfl⟩) rfl rfl rfl dX12_init_499 kt_113 (Nat.le_of_ble_eq_true rfl) fl_X12_197 rfl ?_
  refine z_mm (fun μ_118 eμ_118 => ?_)
  refine z_rload_n dX12_init_502 rfl 0 rfl ?_
  refine z_sipush dX12_init_503 (by decide) ?_
  refine z_newZ (len := 288) dX12_init_506 kt_171 (by decide) ac_boolean (by decide) ⟨Nat.le_of_ble_eq_true rfl, Nat.le_of_ble_eq_true rfl⟩ ?_
  refine z_mm (fun μ_119 eμ_119 => ?_)
  refine z_putR (q := 15551) (j := 171) ff_12_87 (Or.inr ⟨rfl, rfl⟩) rfl rfl rfl dX12_init_508 kt_113 (Nat.le_of_ble_eq_true rfl) fl_X12_200 rfl ?_
  refine z_mm (fun μ_120 eμ_120 => ?_)
  refine z_rload_n dX12_init_511 rfl 0 rfl ?_
  refine z_sipush dX12_init_512 (by decide) ?_
  refine z_newZ (len := 288) dX12_init_515 kt_172 (by decide) ac_boolean (by decide) ⟨Nat.le_of_ble_eq_true rfl, Nat.le_of_ble_eq_true rfl⟩ ?_
  refine z_mm (fun μ_121 eμ_121 => ?_)
  refine z_putR (q := 15552) (j := 172) ff_12_88 (Or.inr ⟨rfl, rfl⟩) rfl rfl rfl dX12_init_517 kt_113 (Nat.le_of_ble_eq_true rfl) fl_X12_203 rfl ?_
  refine z_mm (fun μ_122 eμ_122 => ?_)
  refine z_rload_n dX12_init_520 rfl 0 rfl ?_
  refine z_bipush dX12_init_521 (by decide) ?_
  refine z_newI (len := 6) dX12_init_523 kt_173 (by decide) ac_int (by decide) ⟨Nat.le_of_ble_eq_true rfl, Nat.le_of_ble_eq_true rfl⟩ ?_
  refine z_mm (fun μ_123 eμ_123 => ?_)
  refine z_putR (q := 15553) (j := 173) ff_12_89 (Or.inr ⟨rfl, rfl⟩) rfl rfl rfl dX12_init_525 kt_113 (Nat.le_of_ble_eq_true rfl) fl_X12_206 rfl ?_
  refine z_mm (fun μ_124 eμ_124 => ?_)
  exact z_vret rfl dX12_init_528 rfl rfl rfl ⟨rfl, by subst_vars; rfl⟩
