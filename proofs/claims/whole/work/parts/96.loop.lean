/-! THE LAW: its loop and its body (made by law96.py); the call of row is a hypothesis here -/
theorem ck_L_8 : Cond.classLink RL 8 RX11 ∈ BW := (bw1 25 (by decide +kernel) rfl)
theorem ck_L_16 : Cond.classLink RL 16 RX12 ∈ BW := (bw7 109 (by decide +kernel) rfl)
theorem is_11 : Cond.instantiable RX11 10 ∈ BW := (bw1 26 (by decide +kernel) rfl)
theorem in_11 : Cond.initialized RX11 ∈ BW := (bw1 1 (by decide +kernel) rfl)
theorem dv_11 : ∀ k, k < 10 → defaultValue (tyX11 k) = dvt (fty 11 k) := by decide +kernel
theorem ik_X11_init : IOK yX11_init cX11_init 1 0 := ⟨⟨(bw1 29 (by decide +kernel) rfl), (bw1 1 (by decide +kernel) rfl), by decide, by decide, by decide +kernel⟩, (bw1 28 (by decide +kernel) rfl), rfl⟩
theorem is_12 : Cond.instantiable RX12 90 ∈ BW := (bw7 110 (by decide +kernel) rfl)
theorem in_12 : Cond.initialized RX12 ∈ BW := (bw1 13 (by decide +kernel) rfl)
theorem dv_12 : ∀ k, k < 90 → defaultValue (tyX12 k) = dvt (fty 12 k) := by decide +kernel
theorem ik_X12_init : IOK yX12_init cX12_init 1 0 := ⟨⟨(bw7 113 (by decide +kernel) rfl), (bw1 13 (by decide +kernel) rfl), by decide, by decide, by decide +kernel⟩, (bw7 112 (by decide +kernel) rfl), rfl⟩
theorem ml_L_15 : Cond.methodLink RL 15 yX11_init ∈ BW := (bw1 27 (by decide +kernel) rfl)
theorem ml_L_18 : Cond.methodLink RL 18 yX12_init ∈ BW := (bw7 111 (by decide +kernel) rfl)
theorem kt_174 : KT 174 = (2, 1) := by decide +kernel
def RowOK (l : Launch) (Γ : Gam) (b L : Nat) (xs : Nat → Int32) (nm : String) : Prop := ∀ (i g ca sl : Nat) (μ : Mem), i + 5 < L → ca + 10 ≤ 601024 → sl + 50 ≤ 7293034 → Inv μ → (∀ (ν : Mem) (g1 ca1 sl1 : Nat), Inv ν → ca1 ≤ ca + 10 → sl1 ≤ sl + 50 → SWQ l Γ RL cL_law (YL nm) (QL Γ b L xs) g1 175 ca1 sl1 ν 1462 (LVL Γ b i) []) → SWQ l Γ RL cL_law (YL nm) (QL Γ b L xs) g 175 ca sl μ 925 (LVL Γ b i) []
theorem iand63 (x : Int) : 0 ≤ w (w_iand x 63) ∧ w (w_iand x 63) < 64 := by
  have e : w_iand x 63 = (((Int32.ofInt x).toBitVec.toNat &&& 63 : Nat) : Int) := by
    show BitVec.toInt ((Int32.ofInt x).toBitVec &&& (63#32)) = _
    have h : ((Int32.ofInt x).toBitVec &&& (63#32)).toNat = (Int32.ofInt x).toBitVec.toNat &&& 63 := BitVec.toNat_and ..
    have lt : (Int32.ofInt x).toBitVec.toNat &&& 63 ≤ 63 := Nat.and_le_right
    rw [BitVec.toInt_eq_toNat_of_lt (by rw [h]; omega), h]
  have lt : (Int32.ofInt x).toBitVec.toNat &&& 63 ≤ 63 := Nat.and_le_right
  rw [e, w_id (by omega) (by omega)]
  omega
set_option maxHeartbeats 4000000 in
theorem law_loop {l : Launch} {Γ : Gam} {b L : Nat} {xs : Nat → Int32} {nm : String} (hL : L ≤ 3072) (hrow : RowOK l Γ b L xs nm) : ∀ (f i g ca sl : Nat) (μ : Mem), L ≤ i + 6 * f → i ≤ L + 6 → ca + 10 * f ≤ 601024 → sl + 50 * f ≤ 7293034 → Inv μ → SWQ l Γ RL cL_law (YL nm) (QL Γ b L xs) g 175 ca sl μ 23 (LVL Γ b i) [] := by
  intro f
  induction f with
  | zero =>
    intro i g ca sl μ h1 h2 h3 h4 hI
    refine z_iload dL_law_23 4 rfl ?_
    refine z_aload_n dL_law_25 rfl 0 rfl ?_
    refine z_slen dL_law_26 ?_
    refine z_bipush dL_law_27 (by decide) ?_
    refine z_isub dL_law_29 ?_
    refine z_icmp_gt (A := True) (B := False) (tgt := 1468) dL_law_30 rfl (by rw [w_id (by omega) (by omega), w_id (by omega) (by omega), if_pos (by omega)]; trivial) (fun _ => ?_) (fun z => z.elim)
    refine z_iconst dL_law_1468 ?_
    exact z_lend (by omega) (by omega) dL_law_1469
  | succ f ih =>
    intro i g ca sl μ h1 h2 h3 h4 hI
    refine z_iload dL_law_23 4 rfl ?_
    refine z_aload_n dL_law_25 rfl 0 rfl ?_
    refine z_slen dL_law_26 ?_
    refine z_bipush dL_law_27 (by decide) ?_
    refine z_isub dL_law_29 ?_
    refine z_icmp_gt (A := L < i + 6) (B := i + 5 < L) (tgt := 1468) dL_law_30 rfl ?_ (fun _ => ?_) (fun hi => ?_)
    · rw [w_id (by omega) (by omega), w_id (by omega) (by omega)]
      exact ite_i (fun z => by omega) (fun z => by omega)
    · refine z_iconst dL_law_1468 ?_
      exact z_lend (by omega) (by omega) dL_law_1469
    have kk : ∀ (ν : Mem) (g1 ca1 sl1 : Nat), Inv ν → ca1 ≤ ca + 10 → sl1 ≤ sl + 50 → SWQ l Γ RL cL_law (YL nm) (QL Γ b L xs) g1 175 ca1 sl1 ν 1462 (LVL Γ b i) [] := fun ν g1 ca1 sl1 i1 c1 s1 => by
      refine z_iinc (j := 4) (x := (i : Int)) (y := 6) (lv' := [(4, vi ((i : Int) + 6)), (0, .ref b), (1, vr Γ 0), (2, vr Γ 113), (3, vr Γ 174)]) dL_law_1462 rfl (by show 4 < 7; omega) rfl ?_
      refine z_goto (tgt := 23) dL_law_1465 rfl ?_
      refine z_sub (lv' := [(0, .ref b), (1, vr Γ 0), (2, vr Γ 113), (3, vr Γ 174), (4, vi ((i : Int) + 6))]) [1, 2, 3, 4, 0] rfl ?_
      have g := ih (i + 6) g1 ca1 sl1 ν (by omega) (by omega) (by omega) (by omega) i1
      exact g
    have k0 : ∀ ν : Mem, Inv ν → SWQ l Γ RL cL_law (YL nm) (QL Γ b L xs) g 175 ca sl ν 1462 (LVL Γ b i) [] := fun ν i1 => kk ν g ca sl i1 (by omega) (by omega)
    refine z_aload_n dL_law_33 rfl 0 rfl ?_
    refine z_iload dL_law_34 4 rfl ?_
    refine z_sld (by omega) hL dL_law_36 ?_
    refine z_bipush dL_law_37 (by decide) ?_
    refine z_iand dL_law_39 ?_
    have tr := iand63 (xs i).toInt
    generalize w_iand (xs i).toInt 63 = t at *
    have b1 : ca + 10 ≤ 601024 := Nat.le_trans (by omega) h3
    have b2 : sl + 50 ≤ 7293034 := Nat.le_trans (by omega) h4
    have b3 : ca ≤ 601024 := Nat.le_trans (Nat.le_add_right ca 10) b1
    have b4 : sl ≤ 7293034 := Nat.le_trans (Nat.le_add_right sl 50) b2
    have hr := hrow i g ca sl μ hi b1 b2 hI kk
    by_cases h0 : w t = 0
    · refine z_tcase (tgt := 196) 0 h0 dL_law_40 (by decide) (by decide) rfl rfl ?_
      exact lc_0 hL hi b3 b4 hI k0
    by_cases h1 : w t = 1
    · refine z_tcase (tgt := 221) 1 h1 dL_law_40 (by decide) (by decide) rfl rfl ?_
      exact lc_1 hL hi b3 b4 hI k0
    by_cases h2 : w t = 2
    · refine z_tcase (tgt := 258) 2 h2 dL_law_40 (by decide) (by decide) rfl rfl ?_
      exact lc_2 hL hi b3 b4 hI k0
    by_cases h3 : w t = 3
    · refine z_tcase (tgt := 295) 3 h3 dL_law_40 (by decide) (by decide) rfl rfl ?_
      exact lc_3 hL hi b3 b4 hI k0
    by_cases h4 : w t = 4
    · refine z_tcase (tgt := 332) 4 h4 dL_law_40 (by decide) (by decide) rfl rfl ?_
      exact lc_4 hL hi b3 b4 hI k0
    by_cases h5 : w t = 5
    · refine z_tcase (tgt := 381) 5 h5 dL_law_40 (by decide) (by decide) rfl rfl ?_
      exact lc_5 hL hi b3 b4 hI k0
    by_cases h6 : w t = 6
    · refine z_tcase (tgt := 430) 6 h6 dL_law_40 (by decide) (by decide) rfl rfl ?_
      exact lc_6 hL hi b3 b4 hI k0
    by_cases h7 : w t = 7
    · refine z_tcase (tgt := 455) 7 h7 dL_law_40 (by decide) (by decide) rfl rfl ?_
      exact lc_7 hL hi b3 b4 hI k0
    by_cases h8 : w t = 8
    · refine z_tcase (tgt := 480) 8 h8 dL_law_40 (by decide) (by decide) rfl rfl ?_
      exact lc_8 hL hi b3 b4 hI k0
    by_cases h9 : w t = 9
    · refine z_tcase (tgt := 553) 9 h9 dL_law_40 (by decide) (by decide) rfl rfl ?_
      exact lc_9 hL hi b3 b4 hI k0
    by_cases h10 : w t = 10
    · refine z_tcase (tgt := 578) 10 h10 dL_law_40 (by decide) (by decide) rfl rfl ?_
      exact lc_10 hL hi b3 b4 hI k0
    by_cases h11 : w t = 11
    · refine z_tcase (tgt := 591) 11 h11 dL_law_40 (by decide) (by decide) rfl rfl ?_
      exact lc_11 hL hi b3 b4 hI k0
    by_cases h12 : w t = 12
    · refine z_tcase (tgt := 616) 12 h12 dL_law_40 (by decide) (by decide) rfl rfl ?_
      exact lc_12 hL hi b3 b4 hI k0
    by_cases h13 : w t = 13
    · refine z_tcase (tgt := 641) 13 h13 dL_law_40 (by decide) (by decide) rfl rfl ?_
      exact lc_13 hL hi b3 b4 hI k0
    by_cases h14 : w t = 14
    · refine z_tcase (tgt := 654) 14 h14 dL_law_40 (by decide) (by decide) rfl rfl ?_
      exact lc_14 hL hi b3 b4 hI k0
    by_cases h15 : w t = 15
    · refine z_tcase (tgt := 691) 15 h15 dL_law_40 (by decide) (by decide) rfl rfl ?_
      exact lc_15 hL hi b3 b4 hI k0
    by_cases h16 : w t = 16
    · refine z_tcase (tgt := 728) 16 h16 dL_law_40 (by decide) (by decide) rfl rfl ?_
      exact lc_16 hL hi b3 b4 hI k0
    by_cases h17 : w t = 17
    · refine z_tcase (tgt := 789) 17 h17 dL_law_40 (by decide) (by decide) rfl rfl ?_
      exact lc_17 hL hi b3 b4 hI k0
    by_cases h18 : w t = 18
    · refine z_tcase (tgt := 838) 18 h18 dL_law_40 (by decide) (by decide) rfl rfl ?_
      exact lc_18 hL hi b3 b4 hI k0
    by_cases h19 : w t = 19
    · refine z_tcase (tgt := 875) 19 h19 dL_law_40 (by decide) (by decide) rfl rfl ?_
      exact lc_19 hL hi b3 b4 hI k0
    by_cases h20 : w t = 20
    · refine z_tcase (tgt := 900) 20 h20 dL_law_40 (by decide) (by decide) rfl rfl ?_
      exact lc_20 hL hi b3 b4 hI k0
    by_cases h21 : w t = 21
    · refine z_tcase (tgt := 925) 21 h21 dL_law_40 (by decide) (by decide) rfl rfl ?_
      exact hr
    by_cases h22 : w t = 22
    · refine z_tcase (tgt := 993) 22 h22 dL_law_40 (by decide) (by decide) rfl rfl ?_
      exact lc_22 hL hi b3 b4 hI k0
    by_cases h23 : w t = 23
    · refine z_tcase (tgt := 1018) 23 h23 dL_law_40 (by decide) (by decide) rfl rfl ?_
      exact lc_23 hL hi b3 b4 hI k0
    by_cases h24 : w t = 24
    · refine z_tcase (tgt := 1067) 24 h24 dL_law_40 (by decide) (by decide) rfl rfl ?_
      exact lc_24 hL hi b3 b4 hI k0
    by_cases h25 : w t = 25
    · refine z_tcase (tgt := 1092) 25 h25 dL_law_40 (by decide) (by decide) rfl rfl ?_
      exact lc_25 hL hi b3 b4 hI k0
    by_cases h26 : w t = 26
    · refine z_tcase (tgt := 1117) 26 h26 dL_law_40 (by decide) (by decide) rfl rfl ?_
      exact lc_26 hL hi b3 b4 hI k0
    by_cases h27 : w t = 27
    · refine z_tcase (tgt := 1142) 27 h27 dL_law_40 (by decide) (by decide) rfl rfl ?_
      exact lc_27 hL hi b3 b4 hI k0
    by_cases h28 : w t = 28
    · refine z_tcase (tgt := 1179) 28 h28 dL_law_40 (by decide) (by decide) rfl rfl ?_
      exact lc_28 hL hi b3 b4 hI k0
    by_cases h29 : w t = 29
    · refine z_tcase (tgt := 1228) 29 h29 dL_law_40 (by decide) (by decide) rfl rfl ?_
      exact lc_29 hL hi b3 b4 hI k0
    by_cases h30 : w t = 30
    · refine z_tcase (tgt := 1265) 30 h30 dL_law_40 (by decide) (by decide) rfl rfl ?_
      exact lc_30 hL hi b3 b4 hI k0
    by_cases h31 : w t = 31
    · refine z_tcase (tgt := 1314) 31 h31 dL_law_40 (by decide) (by decide) rfl rfl ?_
      exact lc_31 hL hi b3 b4 hI k0
    by_cases h32 : w t = 32
    · refine z_tcase (tgt := 1363) 32 h32 dL_law_40 (by decide) (by decide) rfl rfl ?_
      exact lc_32 hL hi b3 b4 hI k0
    by_cases h33 : w t = 33
    · refine z_tcase (tgt := 1412) 33 h33 dL_law_40 (by decide) (by decide) rfl rfl ?_
      exact lc_33 hL hi b3 b4 hI k0
    by_cases h34 : w t = 34
    · refine z_tcase (tgt := 1437) 34 h34 dL_law_40 (by decide) (by decide) rfl rfl ?_
      exact lc_34 hL hi b3 b4 hI k0
    refine z_tdef (tgt := 1462) (by omega) dL_law_40 rfl ?_
    exact k0 μ hI
set_option maxHeartbeats 4000000 in
theorem law_body {l : Launch} {Γ : Gam} {b L : Nat} {xs : Nat → Int32} {nm : String} (hL : L ≤ 3072) (hrow : RowOK l Γ b L xs nm) (μ : Mem) : SWQ l Γ RL cL_law (YL nm) (QL Γ b L xs) 0 0 0 0 μ 0 [(0, .ref b)] [] := by
  refine z_new tyX11 dL_law_0 kt_0 (by decide) rfl uw_11 rfl tyX11_ok dv_11 ck_L_8 is_11 in_11 ⟨Nat.le_of_ble_eq_true rfl, Nat.le_of_ble_eq_true rfl⟩ ?_
  refine z_mm (fun μ_1 eμ_1 => ?_)
  refine z_dup dL_law_3 rfl ?_
  refine z_callI (k_H_0) ik_X11_init ml_L_15 ⟨Nat.le_of_ble_eq_true rfl, Nat.le_of_ble_eq_true rfl⟩ ⟨Nat.le_of_ble_eq_true rfl, Nat.le_of_ble_eq_true rfl⟩ rfl rfl (Nat.le_of_ble_eq_true rfl) dL_law_4 (fun v9 ν9 q9 => ?_)
  obtain ⟨rfl, rfl⟩ := q9
  refine z_mm (fun μ_2 eμ_2 => ?_)
  refine z_rstore_n (lv' := [(1, vr Γ 0), (0, .ref b)]) dL_law_7 rfl (by show 1 < 7; omega) rfl ?_
  refine z_new tyX12 dL_law_8 kt_113 (by decide) rfl uw_12 rfl tyX12_ok dv_12 ck_L_16 is_12 in_12 ⟨Nat.le_of_ble_eq_true rfl, Nat.le_of_ble_eq_true rfl⟩ ?_
  refine z_mm (fun μ_3 eμ_3 => ?_)
  refine z_dup dL_law_11 rfl ?_
  refine z_callI (k_M_113) ik_X12_init ml_L_18 ⟨Nat.le_of_ble_eq_true rfl, Nat.le_of_ble_eq_true rfl⟩ ⟨Nat.le_of_ble_eq_true rfl, Nat.le_of_ble_eq_true rfl⟩ rfl rfl (Nat.le_of_ble_eq_true rfl) dL_law_12 (fun v9 ν9 q9 => ?_)
  obtain ⟨rfl, rfl⟩ := q9
  refine z_mm (fun μ_4 eμ_4 => ?_)
  refine z_rstore_n (lv' := [(2, vr Γ 113), (1, vr Γ 0), (0, .ref b)]) dL_law_15 rfl (by show 2 < 7; omega) rfl ?_
  refine z_iconst dL_law_16 ?_
  refine z_newJ (len := 1) dL_law_17 kt_174 (by decide) ac_long (by decide) ⟨Nat.le_of_ble_eq_true rfl, Nat.le_of_ble_eq_true rfl⟩ ?_
  refine z_mm (fun μ_5 eμ_5 => ?_)
  refine z_rstore_n (lv' := [(3, vr Γ 174), (2, vr Γ 113), (1, vr Γ 0), (0, .ref b)]) dL_law_19 rfl (by show 3 < 7; omega) rfl ?_
  refine z_iconst dL_law_20 ?_
  refine z_istore (lv' := [(4, vi 0), (3, vr Γ 174), (2, vr Γ 113), (1, vr Γ 0), (0, .ref b)]) dL_law_21 (by show 4 < 7; omega) rfl ?_
  refine z_sub (lv' := [(0, .ref b), (1, vr Γ 0), (2, vr Γ 113), (3, vr Γ 174), (4, vi 0)]) [4, 3, 2, 1, 0] rfl ?_
  have eM : μ_5 = stM μ := by
    rw [eμ_5, eμ_4, eμ_3, eμ_2, eμ_1]
    rfl
  have hI : Inv μ_5 := by rw [eM]; exact inv_start μ
  exact law_loop hL hrow 513 0 0 _ _ μ_5 (by omega) (by omega) (Nat.le_of_ble_eq_true rfl) (Nat.le_of_ble_eq_true rfl) hI
