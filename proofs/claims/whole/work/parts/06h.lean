abbrev Y_H_copy : Yt := (3, none, yX11_copy.name, { frames := 0, cells := 0, slots := 0, locals := 0 }, 175, 0, 0)
def l_H_copy_2 (a1 : Nat) (n1 : Nat) (a2 : Nat) (n2 : Nat) (X_2_26 : Mem → Prop) : Nat → Int → Mem → Prop
  | 0, _, _ => False
  | fu2 + 1, v2, μ_1 => if w v2 < w ((n1 : Nat) : Int) then (if w v2 < w ((n2 : Nat) : Int) then (0 ≤ w v2 ∧ w v2 < ((n1 : Nat) : Int) ∧ 0 ≤ w v2 ∧ w v2 < ((n2 : Nat) : Int) ∧ ∀ μ_2 : Mem, μ_2 = sI μ_1 a2 (w v2) (rI μ_1 a1 (w v2)) → (l_H_copy_2 a1 n1 a2 n2 X_2_26 fu2) (v2 + 1) μ_2) else (X_2_26 μ_1)) else (X_2_26 μ_1)
def f_H_copy (a1 n1 : Nat) (a2 n2 : Nat) (μ : Mem) (k : Mem → Prop) : Prop := ∃ m2 : Nat, l_H_copy_2 a1 n1 a2 n2 (fun (μ_3 : Mem) => k μ_3) m2 0 μ
theorem L_H_copy_2 {l : Launch} {Γ : Gam} {g : Nat} {a1 : Nat} {n1 : Nat} {a2 : Nat} {n2 : Nat} {X_2_26 : Mem → Prop} {k : Mem → Prop} (ka1 : KT a1 = (1, n1)) (la1 : a1 < 175) (ka2 : KT a2 = (1, n2)) (la2 : a2 < 175) (hX_2_26 : ∀ (ν : Mem), StatR ν.2.2 → X_2_26 ν → SW l Γ yX11_copy.cls cX11_copy Y_H_copy (pV k) g 175 0 0 ν 26 [] []) (n9 : Nat) : ∀ (v2 : Int) (μ_1 : Mem), StatR μ_1.2.2 → l_H_copy_2 a1 n1 a2 n2 X_2_26 n9 v2 μ_1 → SW l Γ yX11_copy.cls cX11_copy Y_H_copy (pV k) g 175 0 0 μ_1 2 [(0, vr Γ a1), (1, vr Γ a2), (2, vi v2)] [] := by
  induction n9 with
  | zero =>
    intro v2 μ_1 hs h
    exact h.elim
  | succ n9 hR_2 =>
    intro v2 μ_1 hs h
    rw [l_H_copy_2] at h
    refine z_iload_n dX11_copy_2 rfl 2 rfl ?_
    refine z_rload_n dX11_copy_3 rfl 0 rfl ?_
    refine z_alen dX11_copy_4 ka1 (by decide) la1 ?_
    refine z_icmp_ge (tgt := 26) dX11_copy_5 (by decide) h (fun h => ?_) (fun h => ?_)
    · refine z_iload_n dX11_copy_8 rfl 2 rfl ?_
      refine z_rload_n dX11_copy_9 rfl 1 rfl ?_
      refine z_alen dX11_copy_10 ka2 (by decide) la2 ?_
      refine z_icmp_ge (tgt := 26) dX11_copy_11 (by decide) h (fun h => ?_) (fun h => ?_)
      · refine z_rload_n dX11_copy_14 rfl 1 rfl ?_
        refine z_iload_n dX11_copy_15 rfl 2 rfl ?_
        refine z_rload_n dX11_copy_16 rfl 0 rfl ?_
        refine z_iload_n dX11_copy_17 rfl 2 rfl ?_
        obtain ⟨h0, h1, h⟩ := h
        refine z_iald dX11_copy_18 ka1 la1 h0 h1 ?_
        obtain ⟨h0, h1, h⟩ := h
        refine z_iast dX11_copy_19 ka2 la2 h0 h1 ?_
        refine z_mm (fun μ_2 eμ_2 => ?_)
        replace h := h μ_2 eμ_2
        replace hs : StatR μ_2.2.2 := by rw [eμ_2]; exact hs
        refine z_iinc (j := 2) (lv' := [(2, vi (v2 + 1)), (0, vr Γ a1), (1, vr Γ a2)]) dX11_copy_20 rfl (Nat.le_of_ble_eq_true rfl) rfl ?_
        refine z_goto (tgt := 2) dX11_copy_23 (by decide) ?_
        refine z_sub (lv' := [(0, vr Γ a1), (1, vr Γ a2), (2, vi (v2 + 1))]) [1, 2, 0] rfl ?_
        exact hR_2 (v2 + 1) μ_2 hs h
      · refine z_sub (lv' := []) [] rfl ?_
        exact hX_2_26 μ_1 hs h
    · refine z_sub (lv' := []) [] rfl ?_
      exact hX_2_26 μ_1 hs h
theorem i_H_copy {l : Launch} {Γ : Gam} {g : Nat} {a1 n1 : Nat} {a2 n2 : Nat} {μ : Mem} {k : Mem → Prop} (ka1 : KT a1 = (1, n1)) (la1 : a1 < 175) (ka2 : KT a2 = (1, n2)) (la2 : a2 < 175) (hs : StatR μ.2.2) (h : f_H_copy a1 n1 a2 n2 μ k) : CT l Γ yX11_copy cX11_copy 3 none 0 0 0 0 [vr Γ a1, vr Γ a2] g 175 μ (pV k) := by
  refine SW.ct (by decide) (Nat.le_of_ble_eq_true rfl) ?_
  refine z_sub (lv' := [(0, vr Γ a1), (1, vr Γ a2)]) [0, 1] rfl ?_
  show SW l Γ yX11_copy.cls cX11_copy Y_H_copy (pV k) g 175 0 0 μ 0 [(0, vr Γ a1), (1, vr Γ a2)] []
  unfold f_H_copy at h
  refine z_iconst dX11_copy_0 ?_
  refine z_istore_n (lv' := [(2, vi 0), (0, vr Γ a1), (1, vr Γ a2)]) dX11_copy_1 rfl (Nat.le_of_ble_eq_true rfl) rfl ?_
  obtain ⟨m2, h⟩ := h
  refine z_sub (lv' := [(0, vr Γ a1), (1, vr Γ a2), (2, vi 0)]) [1, 2, 0] rfl ?_
  refine L_H_copy_2 ka1 la1 ka2 la2 (fun μ_3 hs h => ?_) m2 0 μ hs h
  exact z_vret rfl dX11_copy_26 rfl rfl rfl ⟨rfl, hs, h⟩
abbrev Y_Floor_copyFrom_a : Yt := (2, none, yX3_copyFrom.name, { frames := 1, cells := 0, slots := 0, locals := 22 }, 175, 0, 0)
def f_Floor_copyFrom_a  (μ : Mem) (k : Mem → Prop) : Prop := f_H_copy 86 210 68 210 μ (fun μ_1 => f_H_copy 87 25 69 25 μ_1 (fun μ_2 => f_H_copy 88 300 70 300 μ_2 (fun μ_3 => f_H_copy 89 300 71 300 μ_3 (fun μ_4 => f_H_copy 90 300 72 300 μ_4 (fun μ_5 => ∀ μ_6 : Mem, μ_6 = sL μ_5 9582 0 (rL μ_5 11886 0) → ∀ μ_7 : Mem, μ_7 = sL μ_6 9583 0 (rL μ_6 11887 0) → ∀ μ_8 : Mem, μ_8 = sI μ_7 9584 0 (rI μ_7 11888 0) → k μ_8)))))
theorem i_Floor_copyFrom_a {l : Launch} {Γ : Gam} {g : Nat} {μ : Mem} {k : Mem → Prop} (hs : StatR μ.2.2) (h : f_Floor_copyFrom_a  μ k) : CT l Γ yX3_copyFrom cX3_copyFrom 2 none 1 22 0 0 [vr Γ 67, vr Γ 85] g 175 μ (pV k) := by
  refine SW.ct (by decide) (Nat.le_of_ble_eq_true rfl) ?_
  refine z_sub (lv' := [(0, vr Γ 67), (1, vr Γ 85)]) [0, 1] rfl ?_
  show SW l Γ yX3_copyFrom.cls cX3_copyFrom Y_Floor_copyFrom_a (pV k) g 175 0 0 μ 0 [(0, vr Γ 67), (1, vr Γ 85)] []
  unfold f_Floor_copyFrom_a at h
  refine z_rload_n dX3_copyFrom_0 rfl 1 rfl ?_
  refine z_getR (q := 11881) ff_3_1 dX3_copyFrom_1 kt_85 (Nat.le_of_ble_eq_true rfl) fl_X3_9 rfl (hs.1 _ _ sr_11881) ?_
  refine z_rload_n dX3_copyFrom_4 rfl 0 rfl ?_
  refine z_getR (q := 9577) ff_3_1 dX3_copyFrom_5 kt_67 (Nat.le_of_ble_eq_true rfl) fl_X3_9 rfl (hs.1 _ _ sr_9577) ?_
  refine z_NU (i_H_copy kt_86 (Nat.le_of_ble_eq_true rfl) kt_68 (Nat.le_of_ble_eq_true rfl) hs h) sk_X11_copy nw_X3_39 ⟨Nat.le_of_ble_eq_true rfl, Nat.le_of_ble_eq_true rfl⟩ ⟨Nat.zero_le _, Nat.zero_le _⟩ rfl rfl (Nat.le_of_ble_eq_true rfl) dX3_copyFrom_8 (fun μ_1 hs h => ?_)
  refine z_rload_n dX3_copyFrom_11 rfl 1 rfl ?_
  refine z_getR (q := 11882) ff_3_2 dX3_copyFrom_12 kt_85 (Nat.le_of_ble_eq_true rfl) fl_X3_15 rfl (hs.1 _ _ sr_11882) ?_
  refine z_rload_n dX3_copyFrom_15 rfl 0 rfl ?_
  refine z_getR (q := 9578) ff_3_2 dX3_copyFrom_16 kt_67 (Nat.le_of_ble_eq_true rfl) fl_X3_15 rfl (hs.1 _ _ sr_9578) ?_
  refine z_NU (i_H_copy kt_87 (Nat.le_of_ble_eq_true rfl) kt_69 (Nat.le_of_ble_eq_true rfl) hs h) sk_X11_copy nw_X3_39 ⟨Nat.le_of_ble_eq_true rfl, Nat.le_of_ble_eq_true rfl⟩ ⟨Nat.zero_le _, Nat.zero_le _⟩ rfl rfl (Nat.le_of_ble_eq_true rfl) dX3_copyFrom_19 (fun μ_2 hs h => ?_)
  refine z_rload_n dX3_copyFrom_22 rfl 1 rfl ?_
  refine z_getR (q := 11883) ff_3_3 dX3_copyFrom_23 kt_85 (Nat.le_of_ble_eq_true rfl) fl_X3_18 rfl (hs.1 _ _ sr_11883) ?_
  refine z_rload_n dX3_copyFrom_26 rfl 0 rfl ?_
  refine z_getR (q := 9579) ff_3_3 dX3_copyFrom_27 kt_67 (Nat.le_of_ble_eq_true rfl) fl_X3_18 rfl (hs.1 _ _ sr_9579) ?_
  refine z_NU (i_H_copy kt_88 (Nat.le_of_ble_eq_true rfl) kt_70 (Nat.le_of_ble_eq_true rfl) hs h) sk_X11_copy nw_X3_39 ⟨Nat.le_of_ble_eq_true rfl, Nat.le_of_ble_eq_true rfl⟩ ⟨Nat.zero_le _, Nat.zero_le _⟩ rfl rfl (Nat.le_of_ble_eq_true rfl) dX3_copyFrom_30 (fun μ_3 hs h => ?_)
  refine z_rload_n dX3_copyFrom_33 rfl 1 rfl ?_
  refine z_getR (q := 11884) ff_3_4 dX3_copyFrom_34 kt_85 (Nat.le_of_ble_eq_true rfl) fl_X3_21 rfl (hs.1 _ _ sr_11884) ?_
  refine z_rload_n dX3_copyFrom_37 rfl 0 rfl ?_
  refine z_getR (q := 9580) ff_3_4 dX3_copyFrom_38 kt_67 (Nat.le_of_ble_eq_true rfl) fl_X3_21 rfl (hs.1 _ _ sr_9580) ?_
  refine z_NU (i_H_copy kt_89 (Nat.le_of_ble_eq_true rfl) kt_71 (Nat.le_of_ble_eq_true rfl) hs h) sk_X11_copy nw_X3_39 ⟨Nat.le_of_ble_eq_true rfl, Nat.le_of_ble_eq_true rfl⟩ ⟨Nat.zero_le _, Nat.zero_le _⟩ rfl rfl (Nat.le_of_ble_eq_true rfl) dX3_copyFrom_41 (fun μ_4 hs h => ?_)
  refine z_rload_n dX3_copyFrom_44 rfl 1 rfl ?_
  refine z_getR (q := 11885) ff_3_5 dX3_copyFrom_45 kt_85 (Nat.le_of_ble_eq_true rfl) fl_X3_24 rfl (hs.1 _ _ sr_11885) ?_
  refine z_rload_n dX3_copyFrom_48 rfl 0 rfl ?_
  refine z_getR (q := 9581) ff_3_5 dX3_copyFrom_49 kt_67 (Nat.le_of_ble_eq_true rfl) fl_X3_24 rfl (hs.1 _ _ sr_9581) ?_
  refine z_NU (i_H_copy kt_90 (Nat.le_of_ble_eq_true rfl) kt_72 (Nat.le_of_ble_eq_true rfl) hs h) sk_X11_copy nw_X3_39 ⟨Nat.le_of_ble_eq_true rfl, Nat.le_of_ble_eq_true rfl⟩ ⟨Nat.zero_le _, Nat.zero_le _⟩ rfl rfl (Nat.le_of_ble_eq_true rfl) dX3_copyFrom_52 (fun μ_5 hs h => ?_)
  refine z_rload_n dX3_copyFrom_55 rfl 0 rfl ?_
  refine z_rload_n dX3_copyFrom_56 rfl 1 rfl ?_
  refine z_getJ (q := 11886) ff_3_6 dX3_copyFrom_57 kt_85 (Nat.le_of_ble_eq_true rfl) fl_X3_43 rfl ?_
  refine z_putJ (q := 9582) ff_3_6 (Or.inl rfl) rfl dX3_copyFrom_60 kt_67 (Nat.le_of_ble_eq_true rfl) fl_X3_43 rfl ?_
  refine z_mm (fun μ_6 eμ_6 => ?_)
  replace h := h μ_6 eμ_6
  replace hs : StatR μ_6.2.2 := by rw [eμ_6]; exact hs
  refine z_rload_n dX3_copyFrom_63 rfl 0 rfl ?_
  refine z_rload_n dX3_copyFrom_64 rfl 1 rfl ?_
  refine z_getJ (q := 11887) ff_3_7 dX3_copyFrom_65 kt_85 (Nat.le_of_ble_eq_true rfl) fl_X3_47 rfl ?_
  refine z_putJ (q := 9583) ff_3_7 (Or.inl rfl) rfl dX3_copyFrom_68 kt_67 (Nat.le_of_ble_eq_true rfl) fl_X3_47 rfl ?_
  refine z_mm (fun μ_7 eμ_7 => ?_)
  replace h := h μ_7 eμ_7
  replace hs : StatR μ_7.2.2 := by rw [eμ_7]; exact hs
  refine z_rload_n dX3_copyFrom_71 rfl 0 rfl ?_
  refine z_rload_n dX3_copyFrom_72 rfl 1 rfl ?_
  refine z_getI (q := 11888) ff_3_8 dX3_copyFrom_73 kt_85 (Nat.le_of_ble_eq_true rfl) fl_X3_27 rfl ?_
  refine z_putI (q := 9584) ff_3_8 (Or.inl rfl) rfl dX3_copyFrom_76 kt_67 (Nat.le_of_ble_eq_true rfl) fl_X3_27 rfl ?_
  refine z_mm (fun μ_8 eμ_8 => ?_)
  replace h := h μ_8 eμ_8
  replace hs : StatR μ_8.2.2 := by rw [eμ_8]; exact hs
  exact z_vret rfl dX3_copyFrom_79 rfl rfl rfl ⟨rfl, hs, h⟩
abbrev Y_Floor_copyFrom_b : Yt := (2, none, yX3_copyFrom.name, { frames := 1, cells := 0, slots := 0, locals := 22 }, 175, 0, 0)
def f_Floor_copyFrom_b  (μ : Mem) (k : Mem → Prop) : Prop := f_H_copy 68 210 86 210 μ (fun μ_1 => f_H_copy 69 25 87 25 μ_1 (fun μ_2 => f_H_copy 70 300 88 300 μ_2 (fun μ_3 => f_H_copy 71 300 89 300 μ_3 (fun μ_4 => f_H_copy 72 300 90 300 μ_4 (fun μ_5 => ∀ μ_6 : Mem, μ_6 = sL μ_5 11886 0 (rL μ_5 9582 0) → ∀ μ_7 : Mem, μ_7 = sL μ_6 11887 0 (rL μ_6 9583 0) → ∀ μ_8 : Mem, μ_8 = sI μ_7 11888 0 (rI μ_7 9584 0) → k μ_8)))))
theorem i_Floor_copyFrom_b {l : Launch} {Γ : Gam} {g : Nat} {μ : Mem} {k : Mem → Prop} (hs : StatR μ.2.2) (h : f_Floor_copyFrom_b  μ k) : CT l Γ yX3_copyFrom cX3_copyFrom 2 none 1 22 0 0 [vr Γ 85, vr Γ 67] g 175 μ (pV k) := by
  refine SW.ct (by decide) (Nat.le_of_ble_eq_true rfl) ?_
  refine z_sub (lv' := [(0, vr Γ 85), (1, vr Γ 67)]) [0, 1] rfl ?_
  show SW l Γ yX3_copyFrom.cls cX3_copyFrom Y_Floor_copyFrom_b (pV k) g 175 0 0 μ 0 [(0, vr Γ 85), (1, vr Γ 67)] []
  unfold f_Floor_copyFrom_b at h
  refine z_rload_n dX3_copyFrom_0 rfl 1 rfl ?_
  refine z_getR (q := 9577) ff_3_1 dX3_copyFrom_1 kt_67 (Nat.le_of_ble_eq_true rfl) fl_X3_9 rfl (hs.1 _ _ sr_9577) ?_
  refine z_rload_n dX3_copyFrom_4 rfl 0 rfl ?_
  refine z_getR (q := 11881) ff_3_1 dX3_copyFrom_5 kt_85 (Nat.le_of_ble_eq_true rfl) fl_X3_9 rfl (hs.1 _ _ sr_11881) ?_
  refine z_NU (i_H_copy kt_68 (Nat.le_of_ble_eq_true rfl) kt_86 (Nat.le_of_ble_eq_true rfl) hs h) sk_X11_copy nw_X3_39 ⟨Nat.le_of_ble_eq_true rfl, Nat.le_of_ble_eq_true rfl⟩ ⟨Nat.zero_le _, Nat.zero_le _⟩ rfl rfl (Nat.le_of_ble_eq_true rfl) dX3_copyFrom_8 (fun μ_1 hs h => ?_)
  refine z_rload_n dX3_copyFrom_11 rfl 1 rfl ?_
  refine z_getR (q := 9578) ff_3_2 dX3_copyFrom_12 kt_67 (Nat.le_of_ble_eq_true rfl) fl_X3_15 rfl (hs.1 _ _ sr_9578) ?_
  refine z_rload_n dX3_copyFrom_15 rfl 0 rfl ?_
  refine z_getR (q := 11882) ff_3_2 dX3_copyFrom_16 kt_85 (Nat.le_of_ble_eq_true rfl) fl_X3_15 rfl (hs.1 _ _ sr_11882) ?_
  refine z_NU (i_H_copy kt_69 (Nat.le_of_ble_eq_true rfl) kt_87 (Nat.le_of_ble_eq_true rfl) hs h) sk_X11_copy nw_X3_39 ⟨Nat.le_of_ble_eq_true rfl, Nat.le_of_ble_eq_true rfl⟩ ⟨Nat.zero_le _, Nat.zero_le _⟩ rfl rfl (Nat.le_of_ble_eq_true rfl) dX3_copyFrom_19 (fun μ_2 hs h => ?_)
  refine z_rload_n dX3_copyFrom_22 rfl 1 rfl ?_
  refine z_getR (q := 9579) ff_3_3 dX3_copyFrom_23 kt_67 (Nat.le_of_ble_eq_true rfl) fl_X3_18 rfl (hs.1 _ _ sr_9579) ?_
  refine z_rload_n dX3_copyFrom_26 rfl 0 rfl ?_
  refine z_getR (q := 11883) ff_3_3 dX3_copyFrom_27 kt_85 (Nat.le_of_ble_eq_true rfl) fl_X3_18 rfl (hs.1 _ _ sr_11883) ?_
  refine z_NU (i_H_copy kt_70 (Nat.le_of_ble_eq_true rfl) kt_88 (Nat.le_of_ble_eq_true rfl) hs h) sk_X11_copy nw_X3_39 ⟨Nat.le_of_ble_eq_true rfl, Nat.le_of_ble_eq_true rfl⟩ ⟨Nat.zero_le _, Nat.zero_le _⟩ rfl rfl (Nat.le_of_ble_eq_true rfl) dX3_copyFrom_30 (fun μ_3 hs h => ?_)
  refine z_rload_n dX3_copyFrom_33 rfl 1 rfl ?_
  refine z_getR (q := 9580) ff_3_4 dX3_copyFrom_34 kt_67 (Nat.le_of_ble_eq_true rfl) fl_X3_21 rfl (hs.1 _ _ sr_9580) ?_
  refine z_rload_n dX3_copyFrom_37 rfl 0 rfl ?_
  refine z_getR (q := 11884) ff_3_4 dX3_copyFrom_38 kt_85 (Nat.le_of_ble_eq_true rfl) fl_X3_21 rfl (hs.1 _ _ sr_11884) ?_
  refine z_NU (i_H_copy kt_71 (Nat.le_of_ble_eq_true rfl) kt_89 (Nat.le_of_ble_eq_true rfl) hs h) sk_X11_copy nw_X3_39 ⟨Nat.le_of_ble_eq_true rfl, Nat.le_of_ble_eq_true rfl⟩ ⟨Nat.zero_le _, Nat.zero_le _⟩ rfl rfl (Nat.le_of_ble_eq_true rfl) dX3_copyFrom_41 (fun μ_4 hs h => ?_)
  refine z_rload_n dX3_copyFrom_44 rfl 1 rfl ?_
  refine z_getR (q := 9581) ff_3_5 dX3_copyFrom_45 kt_67 (Nat.le_of_ble_eq_true rfl) fl_X3_24 rfl (hs.1 _ _ sr_9581) ?_
  refine z_rload_n dX3_copyFrom_48 rfl 0 rfl ?_
  refine z_getR (q := 11885) ff_3_5 dX3_copyFrom_49 kt_85 (Nat.le_of_ble_eq_true rfl) fl_X3_24 rfl (hs.1 _ _ sr_11885) ?_
  refine z_NU (i_H_copy kt_72 (Nat.le_of_ble_eq_true rfl) kt_90 (Nat.le_of_ble_eq_true rfl) hs h) sk_X11_copy nw_X3_39 ⟨Nat.le_of_ble_eq_true rfl, Nat.le_of_ble_eq_true rfl⟩ ⟨Nat.zero_le _, Nat.zero_le _⟩ rfl rfl (Nat.le_of_ble_eq_true rfl) dX3_copyFrom_52 (fun μ_5 hs h => ?_)
  refine z_rload_n dX3_copyFrom_55 rfl 0 rfl ?_
  refine z_rload_n dX3_copyFrom_56 rfl 1 rfl ?_
  refine z_getJ (q := 9582) ff_3_6 dX3_copyFrom_57 kt_67 (Nat.le_of_ble_eq_true rfl) fl_X3_43 rfl ?_
  refine z_putJ (q := 11886) ff_3_6 (Or.inl rfl) rfl dX3_copyFrom_60 kt_85 (Nat.le_of_ble_eq_true rfl) fl_X3_43 rfl ?_
  refine z_mm (fun μ_6 eμ_6 => ?_)
  replace h := h μ_6 eμ_6
  replace hs : StatR μ_6.2.2 := by rw [eμ_6]; exact hs
  refine z_rload_n dX3_copyFrom_63 rfl 0 rfl ?_
  refine z_rload_n dX3_copyFrom_64 rfl 1 rfl ?_
  refine z_getJ (q := 9583) ff_3_7 dX3_copyFrom_65 kt_67 (Nat.le_of_ble_eq_true rfl) fl_X3_47 rfl ?_
  refine z_putJ (q := 11887) ff_3_7 (Or.inl rfl) rfl dX3_copyFrom_68 kt_85 (Nat.le_of_ble_eq_true rfl) fl_X3_47 rfl ?_
  refine z_mm (fun μ_7 eμ_7 => ?_)
  replace h := h μ_7 eμ_7
  replace hs : StatR μ_7.2.2 := by rw [eμ_7]; exact hs
  refine z_rload_n dX3_copyFrom_71 rfl 0 rfl ?_
  refine z_rload_n dX3_copyFrom_72 rfl 1 rfl ?_
  refine z_getI (q := 9584) ff_3_8 dX3_copyFrom_73 kt_67 (Nat.le_of_ble_eq_true rfl) fl_X3_27 rfl ?_
  refine z_putI (q := 11888) ff_3_8 (Or.inl rfl) rfl dX3_copyFrom_76 kt_85 (Nat.le_of_ble_eq_true rfl) fl_X3_27 rfl ?_
  refine z_mm (fun μ_8 eμ_8 => ?_)
  replace h := h μ_8 eμ_8
  replace hs : StatR μ_8.2.2 := by rw [eμ_8]; exact hs
  exact z_vret rfl dX3_copyFrom_79 rfl rfl rfl ⟨rfl, hs, h⟩
abbrev Y_Chair_decideNow : Yt := (2, (some .int), yX0_decideNow.name, { frames := 6, cells := 0, slots := 0, locals := 143 }, 175, 0, 0)
def f_Chair_decideNow (a1 : Int) (μ : Mem) (k : Int → Mem → Prop) : Prop := if w (v_Floor_stateOf a1 μ) = 0 then (if w (rI μ 11632 0) < w 100 then (f_Floor_copyFrom_b  μ (fun μ_1 => ∀ μ_2 : Mem, μ_2 = sB μ_1 11630 0 true → ∀ μ_3 : Mem, μ_3 = sI μ_2 11631 0 0 → ∀ μ_4 : Mem, μ_4 = sI μ_3 11632 0 ((rI μ_3 11632 0) + 1) → f_Chair_decideOn a1 (rI μ_4 1139 0) μ_4 (fun r62 μ_5 => k r62 μ_5))) else (k (-1) μ)) else (k (-1) μ)
theorem i_Chair_decideNow {l : Launch} {Γ : Gam} {g : Nat} {a1 : Int} {μ : Mem} {k : Int → Mem → Prop} (hs : StatR μ.2.2) (h : f_Chair_decideNow a1 μ k) : CT l Γ yX0_decideNow cX0_decideNow 2 (some .int) 6 143 0 0 [vr Γ 83, vi a1] g 175 μ (pI k) := by
  refine SW.ct (by decide) (Nat.le_of_ble_eq_true rfl) ?_
  refine z_sub (lv' := [(0, vr Γ 83), (1, vi a1)]) [0, 1] rfl ?_
  show SW l Γ yX0_decideNow.cls cX0_decideNow Y_Chair_decideNow (pI k) g 175 0 0 μ 0 [(0, vr Γ 83), (1, vi a1)] []
  unfold f_Chair_decideNow at h
  refine z_rload_n dX0_decideNow_0 rfl 0 rfl ?_
  refine z_getR (q := 11626) ff_0_2 dX0_decideNow_1 kt_83 (Nat.le_of_ble_eq_true rfl) fl_X0_23 rfl (hs.1 _ _ sr_11626) ?_
  refine z_iload_n dX0_decideNow_4 rfl 1 rfl ?_
  refine z_VE (i_Floor_stateOf hs) vk_X3_stateOf kt_67 (Nat.le_of_ble_eq_true rfl) rfl ml_X0_47 ⟨Nat.le_of_ble_eq_true rfl, Nat.le_of_ble_eq_true rfl⟩ ⟨Nat.zero_le _, Nat.zero_le _⟩ rfl rfl (Nat.le_of_ble_eq_true rfl) dX0_decideNow_5 ?_
  refine z_if_ne (tgt := 20) dX0_decideNow_8 (by decide) h (fun h => ?_) (fun h => ?_)
  · refine z_rload_n dX0_decideNow_11 rfl 0 rfl ?_
    refine z_getI (q := 11632) ff_0_8 dX0_decideNow_12 kt_83 (Nat.le_of_ble_eq_true rfl) fl_X0_51 rfl ?_
    refine z_bipush dX0_decideNow_15 (by decide) ?_
    refine z_icmp_lt (tgt := 22) dX0_decideNow_17 (by decide) h (fun h => ?_) (fun h => ?_)
    · refine z_rload_n dX0_decideNow_22 rfl 0 rfl ?_
      refine z_getR (q := 11627) ff_0_3 dX0_decideNow_23 kt_83 (Nat.le_of_ble_eq_true rfl) fl_X0_36 rfl (hs.1 _ _ sr_11627) ?_
      refine z_rload_n dX0_decideNow_26 rfl 0 rfl ?_
      refine z_getR (q := 11626) ff_0_2 dX0_decideNow_27 kt_83 (Nat.le_of_ble_eq_true rfl) fl_X0_23 rfl (hs.1 _ _ sr_11626) ?_
      refine z_VU (i_Floor_copyFrom_b  hs h) vk_X3_copyFrom kt_85 (Nat.le_of_ble_eq_true rfl) rfl ml_X0_55 ⟨Nat.le_of_ble_eq_true rfl, Nat.le_of_ble_eq_true rfl⟩ ⟨Nat.zero_le _, Nat.zero_le _⟩ rfl rfl (Nat.le_of_ble_eq_true rfl) dX0_decideNow_30 (fun μ_1 hs h => ?_)
      refine z_rload_n dX0_decideNow_33 rfl 0 rfl ?_
      refine z_iconst dX0_decideNow_34 ?_
      refine z_putZ (b := true) (q := 11630) ff_0_6 (Or.inl rfl) rfl dX0_decideNow_35 kt_83 (Nat.le_of_ble_eq_true rfl) fl_X0_39 rfl ?_
      refine z_mm (fun μ_2 eμ_2 => ?_)
      replace h := h μ_2 eμ_2
      replace hs : StatR μ_2.2.2 := by rw [eμ_2]; exact hs
      refine z_rload_n dX0_decideNow_38 rfl 0 rfl ?_
      refine z_iconst dX0_decideNow_39 ?_
      refine z_putI (q := 11631) ff_0_7 (Or.inl rfl) rfl dX0_decideNow_40 kt_83 (Nat.le_of_ble_eq_true rfl) fl_X0_59 rfl ?_
      refine z_mm (fun μ_3 eμ_3 => ?_)
      replace h := h μ_3 eμ_3
      replace hs : StatR μ_3.2.2 := by rw [eμ_3]; exact hs
      refine z_rload_n dX0_decideNow_43 rfl 0 rfl ?_
      refine z_dup dX0_decideNow_44 rfl ?_
      refine z_getI (q := 11632) ff_0_8 dX0_decideNow_45 kt_83 (Nat.le_of_ble_eq_true rfl) fl_X0_51 rfl ?_
      refine z_iconst dX0_decideNow_48 ?_
      refine z_iadd dX0_decideNow_49 ?_
      refine z_putI (q := 11632) ff_0_8 (Or.inl rfl) rfl dX0_decideNow_50 kt_83 (Nat.le_of_ble_eq_true rfl) fl_X0_51 rfl ?_
      refine z_mm (fun μ_4 eμ_4 => ?_)
      replace h := h μ_4 eμ_4
      replace hs : StatR μ_4.2.2 := by rw [eμ_4]; exact hs
      refine z_rload_n dX0_decideNow_53 rfl 0 rfl ?_
      refine z_iload_n dX0_decideNow_54 rfl 1 rfl ?_
      refine z_rload_n dX0_decideNow_55 rfl 0 rfl ?_
      refine z_getR (q := 11624) ff_0_0 dX0_decideNow_56 kt_83 (Nat.le_of_ble_eq_true rfl) fl_X0_15 rfl (hs.1 _ _ sr_11624) ?_
      refine z_getI (q := 1139) ff_7_11 dX0_decideNow_59 kt_1 (Nat.le_of_ble_eq_true rfl) fl_X0_62 rfl ?_
      refine z_VI (i_Chair_decideOn  hs h) vk_X0_decideOn kt_83 (Nat.le_of_ble_eq_true rfl) rfl ml_X0_67 ⟨Nat.le_of_ble_eq_true rfl, Nat.le_of_ble_eq_true rfl⟩ ⟨Nat.zero_le _, Nat.zero_le _⟩ rfl rfl (Nat.le_of_ble_eq_true rfl) dX0_decideNow_62 (fun r62 μ_5 hs h => ?_)
      exact z_iret rfl dX0_decideNow_65 rfl rfl rfl ⟨_, rfl, hs, h⟩
    · refine z_iconst dX0_decideNow_20 ?_
      exact z_iret rfl dX0_decideNow_21 rfl rfl rfl ⟨_, rfl, hs, h⟩
  · refine z_iconst dX0_decideNow_20 ?_
    exact z_iret rfl dX0_decideNow_21 rfl rfl rfl ⟨_, rfl, hs, h⟩
abbrev Y_H_decide : Yt := (2, (some .int), yX11_decide.name, { frames := 7, cells := 0, slots := 0, locals := 164 }, 175, 0, 0)
def f_H_decide (a1 : Int) (μ : Mem) (k : Int → Mem → Prop) : Prop := f_Chair_decideNow a1 μ (fun r5 μ_1 => k r5 μ_1)
theorem i_H_decide {l : Launch} {Γ : Gam} {g : Nat} {a1 : Int} {μ : Mem} {k : Int → Mem → Prop} (hs : StatR μ.2.2) (h : f_H_decide a1 μ k) : CT l Γ yX11_decide cX11_decide 2 (some .int) 7 164 0 0 [vr Γ 0, vi a1] g 175 μ (pI k) := by
  refine SW.ct (by decide) (Nat.le_of_ble_eq_true rfl) ?_
  refine z_sub (lv' := [(0, vr Γ 0), (1, vi a1)]) [0, 1] rfl ?_
  show SW l Γ yX11_decide.cls cX11_decide Y_H_decide (pI k) g 175 0 0 μ 0 [(0, vr Γ 0), (1, vi a1)] []
  unfold f_H_decide at h
  refine z_rload_n dX11_decide_0 rfl 0 rfl ?_
  refine z_getR (q := 1007) ff_11_7 dX11_decide_1 kt_0 (Nat.le_of_ble_eq_true rfl) fl_X11_75 rfl (hs.1 _ _ sr_1007) ?_
  refine z_iload_n dX11_decide_4 rfl 1 rfl ?_
  refine z_VI (i_Chair_decideNow  hs h) vk_X0_decideNow kt_83 (Nat.le_of_ble_eq_true rfl) rfl ml_X11_277 ⟨Nat.le_of_ble_eq_true rfl, Nat.le_of_ble_eq_true rfl⟩ ⟨Nat.zero_le _, Nat.zero_le _⟩ rfl rfl (Nat.le_of_ble_eq_true rfl) dX11_decide_5 (fun r5 μ_1 hs h => ?_)
  exact z_iret rfl dX11_decide_8 rfl rfl rfl ⟨_, rfl, hs, h⟩
def v_Chair_rowField (a1 : Int) (a2 : Int) (μ : Mem) : Int := at' μ 84 700 ((a1 * 7) + a2)
theorem i_Chair_rowField {l : Launch} {Γ : Gam} {g : Nat} {μ : Mem} {a1 : Int} {a2 : Int} (hs : StatR μ.2.2) : CT l Γ yX0_rowField cX0_rowField 3 (some .int) 1 21 0 0 [vr Γ 83, vi a1, vi a2] g 175 μ (pE (vi (v_Chair_rowField a1 a2 μ)) μ) := by
  refine SW.ct (by decide) (Nat.le_of_ble_eq_true rfl) ?_
  refine z_sub (lv' := [(0, vr Γ 83), (1, vi a1), (2, vi a2)]) [0, 1, 2] rfl ?_
  have hv : v_Chair_rowField a1 a2 μ = v_Chair_rowField a1 a2 μ := rfl
  refine z_rload_n dX0_rowField_0 rfl 0 rfl ?_
  refine z_getR (q := 11629) ff_0_5 dX0_rowField_1 kt_83 (Nat.le_of_ble_eq_true rfl) fl_X0_11 rfl (hs.1 _ _ sr_11629) ?_
  refine z_iload_n dX0_rowField_4 rfl 1 rfl ?_
  refine z_bipush dX0_rowField_5 (by decide) ?_
  refine z_imul dX0_rowField_7 ?_
  refine z_iload_n dX0_rowField_8 rfl 2 rfl ?_
  refine z_iadd dX0_rowField_9 ?_
  refine z_NE (i_X11_at kt_84 (Nat.le_of_ble_eq_true rfl)) ok_X11_at nw_X0_43 ⟨Nat.le_of_ble_eq_true rfl, Nat.le_of_ble_eq_true rfl⟩ ⟨Nat.zero_le _, Nat.zero_le _⟩ rfl rfl (Nat.le_of_ble_eq_true rfl) dX0_rowField_10 ?_
  exact z_iret rfl dX0_rowField_13 rfl rfl rfl ⟨by first | (rw [hv]; done) | rfl, rfl⟩
def v_Count_voiceTaken (a1 : Int) (μ : Mem) : Int := at' μ 79 12 a1
theorem i_Count_voiceTaken {l : Launch} {Γ : Gam} {g : Nat} {μ : Mem} {a1 : Int} (hs : StatR μ.2.2) : CT l Γ yX2_voiceTaken cX2_voiceTaken 2 (some .int) 1 21 0 0 [vr Γ 73, vi a1] g 175 μ (pE (vi (v_Count_voiceTaken a1 μ)) μ) := by
  refine SW.ct (by decide) (Nat.le_of_ble_eq_true rfl) ?_
  refine z_sub (lv' := [(0, vr Γ 73), (1, vi a1)]) [0, 1] rfl ?_
  have hv : v_Count_voiceTaken a1 μ = v_Count_voiceTaken a1 μ := rfl
  refine z_rload_n dX2_voiceTaken_0 rfl 0 rfl ?_
  refine z_getR (q := 10350) ff_2_6 dX2_voiceTaken_1 kt_73 (Nat.le_of_ble_eq_true rfl) fl_X2_27 rfl (hs.1 _ _ sr_10350) ?_
  refine z_iload_n dX2_voiceTaken_4 rfl 1 rfl ?_
  refine z_NE (i_X11_at kt_79 (Nat.le_of_ble_eq_true rfl)) ok_X11_at nw_X2_59 ⟨Nat.le_of_ble_eq_true rfl, Nat.le_of_ble_eq_true rfl⟩ ⟨Nat.zero_le _, Nat.zero_le _⟩ rfl rfl (Nat.le_of_ble_eq_true rfl) dX2_voiceTaken_5 ?_
  exact z_iret rfl dX2_voiceTaken_8 rfl rfl rfl ⟨by first | (rw [hv]; done) | rfl, rfl⟩
abbrev Y_Chair_decideWithout : Yt := (4, (some .int), yX0_decideWithout.name, { frames := 6, cells := 0, slots := 0, locals := 143 }, 175, 0, 0)
def f_Chair_decideWithout (a1 : Int) (μ : Mem) (k : Int → Mem → Prop) : Prop := if (rB μ 11630 0) = true then (if (v_Reg_hasAffiliate a1 μ) = true then (if w (w_iand (w_iushr (rI μ 11631 0) a1) 1) = 0 then (∀ v2 : Int, v2 = v_Chair_rowField ((rI μ 11632 0) - 1) 0 μ → ∀ v3 : Int, v3 = v_Chair_rowField ((rI μ 11632 0) - 1) 1 μ → f_Count_take v2 v3 μ (fun μ_1 => if w (v_Count_voiceTaken a1 μ_1) = w 2 then (k (-1) μ_1) else (∀ μ_2 : Mem, μ_2 = sI μ_1 11631 0 (w_ior (rI μ_1 11631 0) (w_ishl 1 a1)) → f_Floor_copyFrom_a  μ_2 (fun μ_3 => f_Chair_decideOn v2 v3 μ_3 (fun r104 μ_4 => k r104 μ_4))))) else (k (-1) μ)) else (k (-1) μ)) else (k (-1) μ)
theorem i_Chair_decideWithout {l : Launch} {Γ : Gam} {g : Nat} {a1 : Int} {μ : Mem} {k : Int → Mem → Prop} (hs : StatR μ.2.2) (h : f_Chair_decideWithout a1 μ k) : CT l Γ yX0_decideWithout cX0_decideWithout 4 (some .int) 6 143 0 0 [vr Γ 83, vi a1] g 175 μ (pI k) := by
  refine SW.ct (by decide) (Nat.le_of_ble_eq_true rfl) ?_
  refine z_sub (lv' := [(0, vr Γ 83), (1, vi a1)]) [0, 1] rfl ?_
  show SW l Γ yX0_decideWithout.cls cX0_decideWithout Y_Chair_decideWithout (pI k) g 175 0 0 μ 0 [(0, vr Γ 83), (1, vi a1)] []
  unfold f_Chair_decideWithout at h
  refine z_rload_n dX0_decideWithout_0 rfl 0 rfl ?_
  refine z_getZ (q := 11630) ff_0_6 dX0_decideWithout_1 kt_83 (Nat.le_of_ble_eq_true rfl) fl_X0_39 rfl ?_
  refine z_ifeq_b (tgt := 29) dX0_decideWithout_4 (by decide) h (fun h => ?_) (fun h => ?_)
  · refine z_rload_n dX0_decideWithout_7 rfl 0 rfl ?_
    refine z_getR (q := 11624) ff_0_0 dX0_decideWithout_8 kt_83 (Nat.le_of_ble_eq_true rfl) fl_X0_15 rfl (hs.1 _ _ sr_11624) ?_
    refine z_iload_n dX0_decideWithout_11 rfl 1 rfl ?_
    refine z_VE (i_Reg_hasAffiliate ) vk_X7_hasAffiliate kt_1 (Nat.le_of_ble_eq_true rfl) rfl ml_X0_71 ⟨Nat.le_of_ble_eq_true rfl, Nat.le_of_ble_eq_true rfl⟩ ⟨Nat.zero_le _, Nat.zero_le _⟩ rfl rfl (Nat.le_of_ble_eq_true rfl) dX0_decideWithout_12 ?_
    refine z_ifeq_b (tgt := 29) dX0_decideWithout_15 (by decide) h (fun h => ?_) (fun h => ?_)
    · refine z_rload_n dX0_decideWithout_18 rfl 0 rfl ?_
      refine z_getI (q := 11631) ff_0_7 dX0_decideWithout_19 kt_83 (Nat.le_of_ble_eq_true rfl) fl_X0_59 rfl ?_
      refine z_iload_n dX0_decideWithout_22 rfl 1 rfl ?_
      refine z_iushr dX0_decideWithout_23 ?_
      refine z_iconst dX0_decideWithout_24 ?_
      refine z_iand dX0_decideWithout_25 ?_
      refine z_if_eq (tgt := 31) dX0_decideWithout_26 (by decide) h (fun h => ?_) (fun h => ?_)
      · refine z_rload_n dX0_decideWithout_31 rfl 0 rfl ?_
        refine z_rload_n dX0_decideWithout_32 rfl 0 rfl ?_
        refine z_getI (q := 11632) ff_0_8 dX0_decideWithout_33 kt_83 (Nat.le_of_ble_eq_true rfl) fl_X0_51 rfl ?_
        refine z_iconst dX0_decideWithout_36 ?_
        refine z_isub dX0_decideWithout_37 ?_
        refine z_iconst dX0_decideWithout_38 ?_
        refine z_VE (i_Chair_rowField hs) vk_X0_rowField kt_83 (Nat.le_of_ble_eq_true rfl) rfl ml_X0_75 ⟨Nat.le_of_ble_eq_true rfl, Nat.le_of_ble_eq_true rfl⟩ ⟨Nat.zero_le _, Nat.zero_le _⟩ rfl rfl (Nat.le_of_ble_eq_true rfl) dX0_decideWithout_39 ?_
        refine z_nm (fun v2 ev2 => ?_)
        replace h := h v2 ev2
        refine z_istore_n (lv' := [(2, vi v2), (0, vr Γ 83), (1, vi a1)]) dX0_decideWithout_42 rfl (Nat.le_of_ble_eq_true rfl) rfl ?_
        refine z_rload_n dX0_decideWithout_43 rfl 1 rfl ?_
        refine z_rload_n dX0_decideWithout_44 rfl 1 rfl ?_
        refine z_getI (q := 11632) ff_0_8 dX0_decideWithout_45 kt_83 (Nat.le_of_ble_eq_true rfl) fl_X0_51 rfl ?_
        refine z_iconst dX0_decideWithout_48 ?_
        refine z_isub dX0_decideWithout_49 ?_
        refine z_iconst dX0_decideWithout_50 ?_
        refine z_VE (i_Chair_rowField hs) vk_X0_rowField kt_83 (Nat.le_of_ble_eq_true rfl) rfl ml_X0_75 ⟨Nat.le_of_ble_eq_true rfl, Nat.le_of_ble_eq_true rfl⟩ ⟨Nat.zero_le _, Nat.zero_le _⟩ rfl rfl (Nat.le_of_ble_eq_true rfl) dX0_decideWithout_51 ?_
        refine z_nm (fun v3 ev3 => ?_)
        replace h := h v3 ev3
        refine z_istore_n (lv' := [(3, vi v3), (2, vi v2), (0, vr Γ 83), (1, vi a1)]) dX0_decideWithout_54 rfl (Nat.le_of_ble_eq_true rfl) rfl ?_
        refine z_rload_n dX0_decideWithout_55 rfl 2 rfl ?_
        refine z_getR (q := 11628) ff_0_4 dX0_decideWithout_56 kt_83 (Nat.le_of_ble_eq_true rfl) fl_X0_27 rfl (hs.1 _ _ sr_11628) ?_
        refine z_iload_n dX0_decideWithout_59 rfl 1 rfl ?_
        refine z_iload_n dX0_decideWithout_60 rfl 0 rfl ?_
        refine z_VU (i_Count_take  hs h) vk_X2_take kt_73 (Nat.le_of_ble_eq_true rfl) rfl ml_X0_78 ⟨Nat.le_of_ble_eq_true rfl, Nat.le_of_ble_eq_true rfl⟩ ⟨Nat.zero_le _, Nat.zero_le _⟩ rfl rfl (Nat.le_of_ble_eq_true rfl) dX0_decideWithout_61 (fun μ_1 hs h => ?_)
        refine z_rload_n dX0_decideWithout_64 rfl 2 rfl ?_
        refine z_getR (q := 11628) ff_0_4 dX0_decideWithout_65 kt_83 (Nat.le_of_ble_eq_true rfl) fl_X0_27 rfl (hs.1 _ _ sr_11628) ?_
        refine z_iload_n dX0_decideWithout_68 rfl 3 rfl ?_
        refine z_VE (i_Count_voiceTaken hs) vk_X2_voiceTaken kt_73 (Nat.le_of_ble_eq_true rfl) rfl ml_X0_84 ⟨Nat.le_of_ble_eq_true rfl, Nat.le_of_ble_eq_true rfl⟩ ⟨Nat.zero_le _, Nat.zero_le _⟩ rfl rfl (Nat.le_of_ble_eq_true rfl) dX0_decideWithout_69 ?_
        refine z_iconst dX0_decideWithout_72 ?_
        refine z_icmp_ne (tgt := 78) dX0_decideWithout_73 (by decide) h (fun h => ?_) (fun h => ?_)
        · refine z_iconst dX0_decideWithout_76 ?_
          exact z_iret rfl dX0_decideWithout_77 rfl rfl rfl ⟨_, rfl, hs, h⟩
        · refine z_rload_n dX0_decideWithout_78 rfl 2 rfl ?_
          refine z_dup dX0_decideWithout_79 rfl ?_
          refine z_getI (q := 11631) ff_0_7 dX0_decideWithout_80 kt_83 (Nat.le_of_ble_eq_true rfl) fl_X0_59 rfl ?_
          refine z_iconst dX0_decideWithout_83 ?_
          refine z_iload_n dX0_decideWithout_84 rfl 3 rfl ?_
          refine z_ishl dX0_decideWithout_85 ?_
          refine z_ior dX0_decideWithout_86 ?_
          refine z_putI (q := 11631) ff_0_7 (Or.inl rfl) rfl dX0_decideWithout_87 kt_83 (Nat.le_of_ble_eq_true rfl) fl_X0_59 rfl ?_
          refine z_mm (fun μ_2 eμ_2 => ?_)
          replace h := h μ_2 eμ_2
          replace hs : StatR μ_2.2.2 := by rw [eμ_2]; exact hs
          refine z_rload_n dX0_decideWithout_90 rfl 2 rfl ?_
          refine z_getR (q := 11626) ff_0_2 dX0_decideWithout_91 kt_83 (Nat.le_of_ble_eq_true rfl) fl_X0_23 rfl (hs.1 _ _ sr_11626) ?_
          refine z_rload_n dX0_decideWithout_94 rfl 2 rfl ?_
          refine z_getR (q := 11627) ff_0_3 dX0_decideWithout_95 kt_83 (Nat.le_of_ble_eq_true rfl) fl_X0_36 rfl (hs.1 _ _ sr_11627) ?_
          refine z_VU (i_Floor_copyFrom_a  hs h) vk_X3_copyFrom kt_67 (Nat.le_of_ble_eq_true rfl) rfl ml_X0_55 ⟨Nat.le_of_ble_eq_true rfl, Nat.le_of_ble_eq_true rfl⟩ ⟨Nat.zero_le _, Nat.zero_le _⟩ rfl rfl (Nat.le_of_ble_eq_true rfl) dX0_decideWithout_98 (fun μ_3 hs h => ?_)
          refine z_rload_n dX0_decideWithout_101 rfl 2 rfl ?_
          refine z_iload_n dX0_decideWithout_102 rfl 1 rfl ?_
          refine z_iload_n dX0_decideWithout_103 rfl 0 rfl ?_
          refine z_VI (i_Chair_decideOn  hs h) vk_X0_decideOn kt_83 (Nat.le_of_ble_eq_true rfl) rfl ml_X0_67 ⟨Nat.le_of_ble_eq_true rfl, Nat.le_of_ble_eq_true rfl⟩ ⟨Nat.zero_le _, Nat.zero_le _⟩ rfl rfl (Nat.le_of_ble_eq_true rfl) dX0_decideWithout_104 (fun r104 μ_4 hs h => ?_)
          exact z_iret rfl dX0_decideWithout_107 rfl rfl rfl ⟨_, rfl, hs, h⟩
      · refine z_iconst dX0_decideWithout_29 ?_
        exact z_iret rfl dX0_decideWithout_30 rfl rfl rfl ⟨_, rfl, hs, h⟩
    · refine z_iconst dX0_decideWithout_29 ?_
      exact z_iret rfl dX0_decideWithout_30 rfl rfl rfl ⟨_, rfl, hs, h⟩
  · refine z_iconst dX0_decideWithout_29 ?_
    exact z_iret rfl dX0_decideWithout_30 rfl rfl rfl ⟨_, rfl, hs, h⟩
abbrev Y_H_voids : Yt := (2, (some .int), yX11_voids.name, { frames := 7, cells := 0, slots := 0, locals := 166 }, 175, 0, 0)
def f_H_voids (a1 : Int) (μ : Mem) (k : Int → Mem → Prop) : Prop := f_Chair_decideWithout a1 μ (fun r5 μ_1 => k r5 μ_1)
theorem i_H_voids {l : Launch} {Γ : Gam} {g : Nat} {a1 : Int} {μ : Mem} {k : Int → Mem → Prop} (hs : StatR μ.2.2) (h : f_H_voids a1 μ k) : CT l Γ yX11_voids cX11_voids 2 (some .int) 7 166 0 0 [vr Γ 0, vi a1] g 175 μ (pI k) := by
  refine SW.ct (by decide) (Nat.le_of_ble_eq_true rfl) ?_
  refine z_sub (lv' := [(0, vr Γ 0), (1, vi a1)]) [0, 1] rfl ?_
  show SW l Γ yX11_voids.cls cX11_voids Y_H_voids (pI k) g 175 0 0 μ 0 [(0, vr Γ 0), (1, vi a1)] []
  unfold f_H_voids at h
  refine z_rload_n dX11_voids_0 rfl 0 rfl ?_
  refine z_getR (q := 1007) ff_11_7 dX11_voids_1 kt_0 (Nat.le_of_ble_eq_true rfl) fl_X11_75 rfl (hs.1 _ _ sr_1007) ?_
  refine z_iload_n dX11_voids_4 rfl 1 rfl ?_
  refine z_VI (i_Chair_decideWithout  hs h) vk_X0_decideWithout kt_83 (Nat.le_of_ble_eq_true rfl) rfl ml_X11_280 ⟨Nat.le_of_ble_eq_true rfl, Nat.le_of_ble_eq_true rfl⟩ ⟨Nat.zero_le _, Nat.zero_le _⟩ rfl rfl (Nat.le_of_ble_eq_true rfl) dX11_voids_5 (fun r5 μ_1 hs h => ?_)
  exact z_iret rfl dX11_voids_8 rfl rfl rfl ⟨_, rfl, hs, h⟩
def v_H_how (a1 : Int) (μ : Mem) : Int := v_Floor_stateOf a1 μ
theorem i_H_how {l : Launch} {Γ : Gam} {g : Nat} {μ : Mem} {a1 : Int} (hs : StatR μ.2.2) : CT l Γ yX11_how cX11_how 2 (some .int) 2 42 0 0 [vr Γ 0, vi a1] g 175 μ (pE (vi (v_H_how a1 μ)) μ) := by
  refine SW.ct (by decide) (Nat.le_of_ble_eq_true rfl) ?_
  refine z_sub (lv' := [(0, vr Γ 0), (1, vi a1)]) [0, 1] rfl ?_
  have hv : v_H_how a1 μ = v_H_how a1 μ := rfl
  refine z_rload_n dX11_how_0 rfl 0 rfl ?_
  refine z_getR (q := 1005) ff_11_5 dX11_how_1 kt_0 (Nat.le_of_ble_eq_true rfl) fl_X11_57 rfl (hs.1 _ _ sr_1005) ?_
  refine z_iload_n dX11_how_4 rfl 1 rfl ?_
  refine z_VE (i_Floor_stateOf hs) vk_X3_stateOf kt_67 (Nat.le_of_ble_eq_true rfl) rfl ml_X11_118 ⟨Nat.le_of_ble_eq_true rfl, Nat.le_of_ble_eq_true rfl⟩ ⟨Nat.zero_le _, Nat.zero_le _⟩ rfl rfl (Nat.le_of_ble_eq_true rfl) dX11_how_5 ?_
  exact z_iret rfl dX11_how_8 rfl rfl rfl ⟨by first | (rw [hv]; done) | rfl, rfl⟩
abbrev Y_H_line : Yt := (5, (some .int), yX11_line.name, { frames := 2, cells := 0, slots := 0, locals := 43 }, 175, 0, 0)
def f_H_line (a1 : Int) (a2 : Int) (a3 : Int) (μ : Mem) (k : Int → Mem → Prop) : Prop := ∀ x9 : Int, x9 = (if w a3 = 0 then 0 else (-1)) → if (v_Papers_hasMotion a1 μ) = true then (if w a2 < 0 then (k x9 μ) else (if w a2 < w (v_Floor_sizeOf a1 μ) then (if w a3 = 0 then (k (v_Floor_lineOf a1 a2 μ) μ) else (if w a3 = 1 then (k (v_Floor_mustOf a1 a2 μ) μ) else (if w a3 = 2 then (k (v_Floor_byOf a1 a2 μ) μ) else (k x9 μ)))) else (k x9 μ))) else (k x9 μ)
theorem i_H_line {l : Launch} {Γ : Gam} {g : Nat} {a1 : Int} {a2 : Int} {a3 : Int} {μ : Mem} {k : Int → Mem → Prop} (hs : StatR μ.2.2) (h : f_H_line a1 a2 a3 μ k) : CT l Γ yX11_line cX11_line 5 (some .int) 2 43 0 0 [vr Γ 0, vi a1, vi a2, vi a3] g 175 μ (pI k) := by
  refine SW.ct (by decide) (Nat.le_of_ble_eq_true rfl) ?_
  refine z_sub (lv' := [(0, vr Γ 0), (1, vi a1), (2, vi a2), (3, vi a3)]) [0, 1, 2, 3] rfl ?_
  show SW l Γ yX11_line.cls cX11_line Y_H_line (pI k) g 175 0 0 μ 0 [(0, vr Γ 0), (1, vi a1), (2, vi a2), (3, vi a3)] []
  unfold f_H_line at h
  refine z_iload_n dX11_line_0 rfl 3 rfl ?_
  refine z_phi 9 [] (fun V9 hv J9 => ?_) h (fun x9 h => ?_)
  · refine z_if_ne (tgt := 8) dX11_line_1 (by decide) (eq_ite hv) (fun hv => ?_) (fun hv => ?_)
    · refine z_iconst dX11_line_4 ?_
      refine z_goto (tgt := 9) dX11_line_5 (by decide) ?_
      exact J9 _ hv.symm
    · refine z_iconst dX11_line_8 ?_
      exact J9 _ hv.symm
  · refine z_istore (lv' := [(4, vi x9), (0, vr Γ 0), (1, vi a1), (2, vi a2), (3, vi a3)]) dX11_line_9 (Nat.le_of_ble_eq_true rfl) rfl ?_
    refine z_rload_n dX11_line_11 rfl 1 rfl ?_
    refine z_getR (q := 1004) ff_11_4 dX11_line_12 kt_0 (Nat.le_of_ble_eq_true rfl) fl_X11_26 rfl (hs.1 _ _ sr_1004) ?_
    refine z_iload_n dX11_line_15 rfl 2 rfl ?_
    refine z_VE (i_Papers_hasMotion ) vk_X6_hasMotion kt_12 (Nat.le_of_ble_eq_true rfl) rfl ml_X11_222 ⟨Nat.le_of_ble_eq_true rfl, Nat.le_of_ble_eq_true rfl⟩ ⟨Nat.zero_le _, Nat.zero_le _⟩ rfl rfl (Nat.le_of_ble_eq_true rfl) dX11_line_16 ?_
    refine z_ifeq_b (tgt := 38) dX11_line_19 (by decide) h (fun h => ?_) (fun h => ?_)
    · refine z_iload_n dX11_line_22 rfl 3 rfl ?_
      refine z_if_lt (tgt := 38) dX11_line_23 (by decide) h (fun h => ?_) (fun h => ?_)
      · refine z_iload dX11_line_38 0 rfl ?_
        exact z_iret rfl dX11_line_40 rfl rfl rfl ⟨_, rfl, hs, h⟩
      · refine z_iload_n dX11_line_26 rfl 3 rfl ?_
        refine z_rload_n dX11_line_27 rfl 1 rfl ?_
        refine z_getR (q := 1005) ff_11_5 dX11_line_28 kt_0 (Nat.le_of_ble_eq_true rfl) fl_X11_57 rfl (hs.1 _ _ sr_1005) ?_
        refine z_iload_n dX11_line_31 rfl 2 rfl ?_
        refine z_VE (i_Floor_sizeOf hs) vk_X3_sizeOf kt_67 (Nat.le_of_ble_eq_true rfl) rfl ml_X11_296 ⟨Nat.le_of_ble_eq_true rfl, Nat.le_of_ble_eq_true rfl⟩ ⟨Nat.zero_le _, Nat.zero_le _⟩ rfl rfl (Nat.le_of_ble_eq_true rfl) dX11_line_32 ?_
        refine z_icmp_lt (tgt := 41) dX11_line_35 (by decide) h (fun h => ?_) (fun h => ?_)
        · refine z_iload_n dX11_line_41 rfl 4 rfl ?_
          by_cases hc0 : w a3 = 0
          · rw [if_pos hc0] at h
            refine z_tcase (tgt := 68) 0 hc0 dX11_line_42 (by decide) (by decide) rfl (by decide) ?_
            refine z_rload_n dX11_line_68 rfl 1 rfl ?_
            refine z_getR (q := 1005) ff_11_5 dX11_line_69 kt_0 (Nat.le_of_ble_eq_true rfl) fl_X11_57 rfl (hs.1 _ _ sr_1005) ?_
            refine z_iload_n dX11_line_72 rfl 2 rfl ?_
            refine z_iload_n dX11_line_73 rfl 3 rfl ?_
            refine z_VE (i_Floor_lineOf hs) vk_X3_lineOf kt_67 (Nat.le_of_ble_eq_true rfl) rfl ml_X11_299 ⟨Nat.le_of_ble_eq_true rfl, Nat.le_of_ble_eq_true rfl⟩ ⟨Nat.zero_le _, Nat.zero_le _⟩ rfl rfl (Nat.le_of_ble_eq_true rfl) dX11_line_74 ?_
            exact z_iret rfl dX11_line_77 rfl rfl rfl ⟨_, rfl, hs, h⟩
          · rw [if_neg hc0] at h
            by_cases hc1 : w a3 = 1
            · rw [if_pos hc1] at h
              refine z_tcase (tgt := 78) 1 hc1 dX11_line_42 (by decide) (by decide) rfl (by decide) ?_
              refine z_rload_n dX11_line_78 rfl 1 rfl ?_
              refine z_getR (q := 1005) ff_11_5 dX11_line_79 kt_0 (Nat.le_of_ble_eq_true rfl) fl_X11_57 rfl (hs.1 _ _ sr_1005) ?_
              refine z_iload_n dX11_line_82 rfl 2 rfl ?_
              refine z_iload_n dX11_line_83 rfl 3 rfl ?_
              refine z_VE (i_Floor_mustOf hs) vk_X3_mustOf kt_67 (Nat.le_of_ble_eq_true rfl) rfl ml_X11_302 ⟨Nat.le_of_ble_eq_true rfl, Nat.le_of_ble_eq_true rfl⟩ ⟨Nat.zero_le _, Nat.zero_le _⟩ rfl rfl (Nat.le_of_ble_eq_true rfl) dX11_line_84 ?_
              exact z_iret rfl dX11_line_87 rfl rfl rfl ⟨_, rfl, hs, h⟩
            · rw [if_neg hc1] at h
              by_cases hc2 : w a3 = 2
              · rw [if_pos hc2] at h
                refine z_tcase (tgt := 88) 2 hc2 dX11_line_42 (by decide) (by decide) rfl (by decide) ?_
                refine z_rload_n dX11_line_88 rfl 1 rfl ?_
                refine z_getR (q := 1005) ff_11_5 dX11_line_89 kt_0 (Nat.le_of_ble_eq_true rfl) fl_X11_57 rfl (hs.1 _ _ sr_1005) ?_
                refine z_iload_n dX11_line_92 rfl 2 rfl ?_
                refine z_iload_n dX11_line_93 rfl 3 rfl ?_
                refine z_VE (i_Floor_byOf hs) vk_X3_byOf kt_67 (Nat.le_of_ble_eq_true rfl) rfl ml_X11_305 ⟨Nat.le_of_ble_eq_true rfl, Nat.le_of_ble_eq_true rfl⟩ ⟨Nat.zero_le _, Nat.zero_le _⟩ rfl rfl (Nat.le_of_ble_eq_true rfl) dX11_line_94 ?_
                exact z_iret rfl dX11_line_97 rfl rfl rfl ⟨_, rfl, hs, h⟩
              · rw [if_neg hc2] at h
                refine z_tdef (tgt := 98) (by omega) dX11_line_42 (by decide) ?_
                refine z_iload dX11_line_98 0 rfl ?_
                exact z_iret rfl dX11_line_100 rfl rfl rfl ⟨_, rfl, hs, h⟩
        · refine z_iload dX11_line_38 0 rfl ?_
          exact z_iret rfl dX11_line_40 rfl rfl rfl ⟨_, rfl, hs, h⟩
    · refine z_iload dX11_line_38 0 rfl ?_
      exact z_iret rfl dX11_line_40 rfl rfl rfl ⟨_, rfl, hs, h⟩
def v_H_stands (a1 : Int) (μ : Mem) : Int := if w a1 < w 1 then (-2) else (if w 60 < w a1 then (-2) else ((w_l2i ((w_lushr (rL μ 9582 0) a1) &&& 1)) - (w_l2i ((w_lushr (rL μ 9583 0) a1) &&& 1))))
theorem i_H_stands {l : Launch} {Γ : Gam} {g : Nat} {μ : Mem} {a1 : Int} (hs : StatR μ.2.2) : CT l Γ yX11_stands cX11_stands 2 (some .int) 0 0 0 0 [vr Γ 0, vi a1] g 175 μ (pE (vi (v_H_stands a1 μ)) μ) := by
  refine SW.ct (by decide) (Nat.le_of_ble_eq_true rfl) ?_
  refine z_sub (lv' := [(0, vr Γ 0), (1, vi a1)]) [0, 1] rfl ?_
  have hv : v_H_stands a1 μ = v_H_stands a1 μ := rfl
  refine z_iload_n dX11_stands_0 rfl 1 rfl ?_
  refine z_iconst dX11_stands_1 ?_
  refine z_icmp_lt (tgt := 11) dX11_stands_2 (by decide) (eq_ite hv) (fun hv => ?_) (fun hv => ?_)
  · refine z_bipush dX11_stands_11 (by decide) ?_
    exact z_iret rfl dX11_stands_13 rfl rfl rfl ⟨by first | (rw [hv]; done) | rfl, rfl⟩
  · refine z_iload_n dX11_stands_5 rfl 1 rfl ?_
    refine z_bipush dX11_stands_6 (by decide) ?_
    refine z_icmp_le (tgt := 14) dX11_stands_8 (by decide) (eq_ite hv) (fun hv => ?_) (fun hv => ?_)
    · refine z_bipush dX11_stands_11 (by decide) ?_
      exact z_iret rfl dX11_stands_13 rfl rfl rfl ⟨by first | (rw [hv]; done) | rfl, rfl⟩
    · refine z_rload_n dX11_stands_14 rfl 0 rfl ?_
      refine z_getR (q := 1005) ff_11_5 dX11_stands_15 kt_0 (Nat.le_of_ble_eq_true rfl) fl_X11_57 rfl (hs.1 _ _ sr_1005) ?_
      refine z_getJ (q := 9582) ff_3_6 dX11_stands_18 kt_67 (Nat.le_of_ble_eq_true rfl) fl_X11_308 rfl ?_
      refine z_iload_n dX11_stands_21 rfl 1 rfl ?_
      refine z_lushr dX11_stands_22 ?_
      refine z_lconst (v := 1) dX11_stands_23 rfl ?_
      refine z_land dX11_stands_24 ?_
      refine z_l2i dX11_stands_25 ?_
      refine z_rload_n dX11_stands_26 rfl 0 rfl ?_
      refine z_getR (q := 1005) ff_11_5 dX11_stands_27 kt_0 (Nat.le_of_ble_eq_true rfl) fl_X11_57 rfl (hs.1 _ _ sr_1005) ?_
      refine z_getJ (q := 9583) ff_3_7 dX11_stands_30 kt_67 (Nat.le_of_ble_eq_true rfl) fl_X11_312 rfl ?_
      refine z_iload_n dX11_stands_33 rfl 1 rfl ?_
      refine z_lushr dX11_stands_34 ?_
      refine z_lconst (v := 1) dX11_stands_35 rfl ?_
      refine z_land dX11_stands_36 ?_
      refine z_l2i dX11_stands_37 ?_
      refine z_isub dX11_stands_38 ?_
      exact z_iret rfl dX11_stands_39 rfl rfl rfl ⟨by first | (rw [hv]; done) | rfl, rfl⟩
abbrev Y_Floor_chosen : Yt := (5, (some .int), yX3_chosen.name, { frames := 2, cells := 0, slots := 0, locals := 42 }, 175, 0, 0)
def l_Floor_chosen_14 (a1 : Int) (a2 : Nat) (n2 : Nat) (X_14_48 : Mem → Prop) (k : Int → Mem → Prop) : Nat → Int → Int → Mem → Prop
  | 0, _, _, _ => False
  | fu14 + 1, v3, v4, μ_1 => if w v4 < w 24 then (if w (w_iand (w_iushr a1 v4) 1) = 0 then ((l_Floor_chosen_14 a1 a2 n2 X_14_48 k fu14) v3 (v4 + 1) μ_1) else (if w (v_Floor_stateOf v4 μ_1) = 0 then (if w v3 < w ((n2 : Nat) : Int) then (∀ μ_2 : Mem, μ_2 = set' μ_1 a2 n2 v3 v4 → (l_Floor_chosen_14 a1 a2 n2 X_14_48 k fu14) (v3 + 1) (v4 + 1) μ_2) else (X_14_48 μ_1)) else (X_14_48 μ_1))) else (k v3 μ_1)
def f_Floor_chosen (a1 : Int) (a2 n2 : Nat) (μ : Mem) (k : Int → Mem → Prop) : Prop := if w (w_iushr a1 24) = 0 then (∃ m14 : Nat, l_Floor_chosen_14 a1 a2 n2 (fun (μ_3 : Mem) => k 0 μ_3) k m14 0 0 μ) else (k 0 μ)
theorem L_Floor_chosen_14 {l : Launch} {Γ : Gam} {g : Nat} {a1 : Int} {a2 : Nat} {n2 : Nat} {X_14_48 : Mem → Prop} {k : Int → Mem → Prop} (ka2 : KT a2 = (1, n2)) (la2 : a2 < 175) (hX_14_48 : ∀ (ν : Mem), StatR ν.2.2 → X_14_48 ν → SW l Γ yX3_chosen.cls cX3_chosen Y_Floor_chosen (pI k) g 175 0 0 ν 48 [] []) (n9 : Nat) : ∀ (v3 : Int) (v4 : Int) (μ_1 : Mem), StatR μ_1.2.2 → l_Floor_chosen_14 a1 a2 n2 X_14_48 k n9 v3 v4 μ_1 → SW l Γ yX3_chosen.cls cX3_chosen Y_Floor_chosen (pI k) g 175 0 0 μ_1 14 [(0, vr Γ 67), (1, vi a1), (2, vr Γ a2), (3, vi v3), (4, vi v4)] [] := by
  induction n9 with
  | zero =>
    intro v3 v4 μ_1 hs h
    exact h.elim
  | succ n9 hR_14 =>
    intro v3 v4 μ_1 hs h
    rw [l_Floor_chosen_14] at h
    refine z_iload dX3_chosen_14 4 rfl ?_
    refine z_bipush dX3_chosen_16 (by decide) ?_
    refine z_icmp_ge (tgt := 66) dX3_chosen_18 (by decide) h (fun h => ?_) (fun h => ?_)
    · refine z_iload_n dX3_chosen_21 rfl 1 rfl ?_
      refine z_iload dX3_chosen_22 4 rfl ?_
      refine z_iushr dX3_chosen_24 ?_
      refine z_iconst dX3_chosen_25 ?_
      refine z_iand dX3_chosen_26 ?_
      refine z_if_ne (tgt := 33) dX3_chosen_27 (by decide) h (fun h => ?_) (fun h => ?_)
      · refine z_goto (tgt := 60) dX3_chosen_30 (by decide) ?_
        refine z_iinc (j := 4) (lv' := [(4, vi (v4 + 1)), (0, vr Γ 67), (1, vi a1), (2, vr Γ a2), (3, vi v3)]) dX3_chosen_60 rfl (Nat.le_of_ble_eq_true rfl) rfl ?_
        refine z_goto (tgt := 14) dX3_chosen_63 (by decide) ?_
        refine z_sub (lv' := [(0, vr Γ 67), (1, vi a1), (2, vr Γ a2), (3, vi v3), (4, vi (v4 + 1))]) [1, 2, 3, 4, 0] rfl ?_
        exact hR_14 v3 (v4 + 1) μ_1 hs h
      · refine z_rload_n dX3_chosen_33 rfl 0 rfl ?_
        refine z_iload dX3_chosen_34 4 rfl ?_
        refine z_VE (i_Floor_stateOf hs) vk_X3_stateOf kt_67 (Nat.le_of_ble_eq_true rfl) rfl ml_X3_50 ⟨Nat.le_of_ble_eq_true rfl, Nat.le_of_ble_eq_true rfl⟩ ⟨Nat.zero_le _, Nat.zero_le _⟩ rfl rfl (Nat.le_of_ble_eq_true rfl) dX3_chosen_36 ?_
        refine z_if_ne (tgt := 48) dX3_chosen_39 (by decide) h (fun h => ?_) (fun h => ?_)
        · refine z_iload_n dX3_chosen_42 rfl 3 rfl ?_
          refine z_rload_n dX3_chosen_43 rfl 2 rfl ?_
          refine z_alen dX3_chosen_44 ka2 (by decide) la2 ?_
          refine z_icmp_lt (tgt := 50) dX3_chosen_45 (by decide) h (fun h => ?_) (fun h => ?_)
          · refine z_rload_n dX3_chosen_50 rfl 2 rfl ?_
            refine z_iload_n dX3_chosen_51 rfl 3 rfl ?_
            refine z_iload dX3_chosen_52 4 rfl ?_
            refine z_NM (i_X11_set ka2 la2) ok_X11_set nw_X3_58 ⟨Nat.le_of_ble_eq_true rfl, Nat.le_of_ble_eq_true rfl⟩ ⟨Nat.zero_le _, Nat.zero_le _⟩ rfl rfl (Nat.le_of_ble_eq_true rfl) dX3_chosen_54 ?_
            refine z_mm (fun μ_2 eμ_2 => ?_)
            replace h := h μ_2 eμ_2
            replace hs : StatR μ_2.2.2 := by rw [eμ_2]; exact (StatR.set hs)
            refine z_iinc (j := 3) (lv' := [(3, vi (v3 + 1)), (0, vr Γ 67), (1, vi a1), (2, vr Γ a2), (4, vi v4)]) dX3_chosen_57 rfl (Nat.le_of_ble_eq_true rfl) rfl ?_
            refine z_iinc (j := 4) (lv' := [(4, vi (v4 + 1)), (3, vi (v3 + 1)), (0, vr Γ 67), (1, vi a1), (2, vr Γ a2)]) dX3_chosen_60 rfl (Nat.le_of_ble_eq_true rfl) rfl ?_
            refine z_goto (tgt := 14) dX3_chosen_63 (by decide) ?_
            refine z_sub (lv' := [(0, vr Γ 67), (1, vi a1), (2, vr Γ a2), (3, vi (v3 + 1)), (4, vi (v4 + 1))]) [2, 3, 4, 1, 0] rfl ?_
            exact hR_14 (v3 + 1) (v4 + 1) μ_2 hs h
          · refine z_sub (lv' := []) [] rfl ?_
            exact hX_14_48 μ_1 hs h
        · refine z_sub (lv' := []) [] rfl ?_
          exact hX_14_48 μ_1 hs h
    · refine z_iload_n dX3_chosen_66 rfl 3 rfl ?_
      exact z_iret rfl dX3_chosen_67 rfl rfl rfl ⟨_, rfl, hs, h⟩
theorem i_Floor_chosen {l : Launch} {Γ : Gam} {g : Nat} {a1 : Int} {a2 n2 : Nat} {μ : Mem} {k : Int → Mem → Prop} (ka2 : KT a2 = (1, n2)) (la2 : a2 < 175) (hs : StatR μ.2.2) (h : f_Floor_chosen a1 a2 n2 μ k) : CT l Γ yX3_chosen cX3_chosen 5 (some .int) 2 42 0 0 [vr Γ 67, vi a1, vr Γ a2] g 175 μ (pI k) := by
  refine SW.ct (by decide) (Nat.le_of_ble_eq_true rfl) ?_
  refine z_sub (lv' := [(0, vr Γ 67), (1, vi a1), (2, vr Γ a2)]) [0, 1, 2] rfl ?_
  show SW l Γ yX3_chosen.cls cX3_chosen Y_Floor_chosen (pI k) g 175 0 0 μ 0 [(0, vr Γ 67), (1, vi a1), (2, vr Γ a2)] []
  unfold f_Floor_chosen at h
  refine z_iconst dX3_chosen_0 ?_
  refine z_istore_n (lv' := [(3, vi 0), (0, vr Γ 67), (1, vi a1), (2, vr Γ a2)]) dX3_chosen_1 rfl (Nat.le_of_ble_eq_true rfl) rfl ?_
  refine z_iload_n dX3_chosen_2 rfl 2 rfl ?_
  refine z_bipush dX3_chosen_3 (by decide) ?_
  refine z_iushr dX3_chosen_5 ?_
  refine z_if_eq (tgt := 11) dX3_chosen_6 (by decide) h (fun h => ?_) (fun h => ?_)
  · refine z_iconst dX3_chosen_11 ?_
    refine z_istore (lv' := [(4, vi 0), (3, vi 0), (0, vr Γ 67), (1, vi a1), (2, vr Γ a2)]) dX3_chosen_12 (Nat.le_of_ble_eq_true rfl) rfl ?_
    obtain ⟨m14, h⟩ := h
    refine z_sub (lv' := [(0, vr Γ 67), (1, vi a1), (2, vr Γ a2), (3, vi 0), (4, vi 0)]) [2, 3, 4, 1, 0] rfl ?_
    refine L_Floor_chosen_14 ka2 la2 (fun μ_3 hs h => ?_) m14 0 0 μ hs h
    refine z_iconst dX3_chosen_48 ?_
    exact z_iret rfl dX3_chosen_49 rfl rfl rfl ⟨_, rfl, hs, h⟩
  · refine z_iconst dX3_chosen_9 ?_
    exact z_iret rfl dX3_chosen_10 rfl rfl rfl ⟨_, rfl, hs, h⟩
abbrev Y_Floor_mustBitsOf : Yt := (6, (some .long), yX3_mustBitsOf.name, { frames := 1, cells := 0, slots := 0, locals := 21 }, 175, 0, 0)
def l_Floor_mustBitsOf_23 (μ : Mem) (v4 : Int) (X_23_70 : Int64 → Prop) : Nat → Int64 → Int → Prop
  | 0, _, _ => False
  | fu23 + 1, v2, v5_1 => if w v5_1 < w v4 then (∀ x62 : Int64, x62 = (if w (at' μ 71 300 v5_1) = w 1 then (w_lshl 1 (w_abs (at' μ 70 300 v5_1))) else 0) → ∀ v2_1 : Int64, v2_1 = v2 ||| x62 → (l_Floor_mustBitsOf_23 μ v4 X_23_70 fu23) v2_1 (v5_1 + 1)) else (X_23_70 v2)
def f_Floor_mustBitsOf (a1 : Int) (μ : Mem) (k : Int64 → Mem → Prop) : Prop := ∀ v4 : Int, v4 = (a1 * 12) + (at' μ 69 25 a1) → ∀ v5 : Int, v5 = a1 * 12 → ∃ m23 : Nat, l_Floor_mustBitsOf_23 μ v4 (fun (v2_2 : Int64) => k v2_2 μ) m23 0 v5
theorem L_Floor_mustBitsOf_23 {l : Launch} {Γ : Gam} {g : Nat} {μ : Mem} {v4 : Int} {X_23_70 : Int64 → Prop} {k : Int64 → Mem → Prop} (hs : StatR μ.2.2) (hX_23_70 : ∀ (u2 : Int64), X_23_70 u2 → SW l Γ yX3_mustBitsOf.cls cX3_mustBitsOf Y_Floor_mustBitsOf (pL k) g 175 0 0 μ 70 [(2, vl u2)] []) (n9 : Nat) : ∀ (v2 : Int64) (v5_1 : Int), l_Floor_mustBitsOf_23 μ v4 X_23_70 n9 v2 v5_1 → SW l Γ yX3_mustBitsOf.cls cX3_mustBitsOf Y_Floor_mustBitsOf (pL k) g 175 0 0 μ 23 [(0, vr Γ 67), (2, vl v2), (4, vi v4), (5, vi v5_1)] [] := by
  induction n9 with
  | zero =>
    intro v2 v5_1 h
    exact h.elim
  | succ n9 hR_23 =>
    intro v2 v5_1 h
    rw [l_Floor_mustBitsOf_23] at h
    refine z_iload dX3_mustBitsOf_23 3 rfl ?_
    refine z_iload dX3_mustBitsOf_25 2 rfl ?_
    refine z_icmp_ge (tgt := 70) dX3_mustBitsOf_27 (by decide) h (fun h => ?_) (fun h => ?_)
    · refine z_lload_n dX3_mustBitsOf_30 rfl 1 rfl ?_
      refine z_rload_n dX3_mustBitsOf_31 rfl 0 rfl ?_
      refine z_getR (q := 9580) ff_3_4 dX3_mustBitsOf_32 kt_67 (Nat.le_of_ble_eq_true rfl) fl_X3_21 rfl (hs.1 _ _ sr_9580) ?_
      refine z_iload dX3_mustBitsOf_35 3 rfl ?_
      refine z_NE (i_X11_at kt_71 (Nat.le_of_ble_eq_true rfl)) ok_X11_at nw_X3_54 ⟨Nat.le_of_ble_eq_true rfl, Nat.le_of_ble_eq_true rfl⟩ ⟨Nat.zero_le _, Nat.zero_le _⟩ rfl rfl (Nat.le_of_ble_eq_true rfl) dX3_mustBitsOf_37 ?_
      refine z_iconst dX3_mustBitsOf_40 ?_
      refine z_phiL 62 [vl v2] (fun V9 hv J9 => ?_) h (fun x62 h => ?_)
      · refine z_icmp_ne (tgt := 61) dX3_mustBitsOf_41 (by decide) (eq_ite hv) (fun hv => ?_) (fun hv => ?_)
        · refine z_lconst (v := 1) dX3_mustBitsOf_44 rfl ?_
          refine z_rload_n dX3_mustBitsOf_45 rfl 0 rfl ?_
          refine z_getR (q := 9579) ff_3_3 dX3_mustBitsOf_46 kt_67 (Nat.le_of_ble_eq_true rfl) fl_X3_18 rfl (hs.1 _ _ sr_9579) ?_
          refine z_iload dX3_mustBitsOf_49 3 rfl ?_
          refine z_NE (i_X11_at kt_70 (Nat.le_of_ble_eq_true rfl)) ok_X11_at nw_X3_54 ⟨Nat.le_of_ble_eq_true rfl, Nat.le_of_ble_eq_true rfl⟩ ⟨Nat.zero_le _, Nat.zero_le _⟩ rfl rfl (Nat.le_of_ble_eq_true rfl) dX3_mustBitsOf_51 ?_
          refine z_abs dX3_mustBitsOf_54 mm_X3_71 ms_abs mi_math mc_abs ⟨Nat.le_of_ble_eq_true rfl, Nat.le_of_ble_eq_true rfl⟩ ⟨Nat.zero_le _, Nat.zero_le _⟩ ?_
          refine z_lshl dX3_mustBitsOf_57 ?_
          refine z_goto (tgt := 62) dX3_mustBitsOf_58 (by decide) ?_
          exact J9 _ hv.symm
        · refine z_lconst (v := 0) dX3_mustBitsOf_61 rfl ?_
          exact J9 _ hv.symm
      · refine z_lor dX3_mustBitsOf_62 ?_
        refine z_nmL (fun v2_1 ev2_1 => ?_)
        replace h := h v2_1 ev2_1
        refine z_lstore_n (lv' := [(2, vl v2_1), (0, vr Γ 67), (4, vi v4), (5, vi v5_1)]) dX3_mustBitsOf_63 rfl (Nat.le_of_ble_eq_true rfl) rfl ?_
        refine z_iinc (j := 3) (lv' := [(5, vi (v5_1 + 1)), (2, vl v2_1), (0, vr Γ 67), (4, vi v4)]) dX3_mustBitsOf_64 rfl (Nat.le_of_ble_eq_true rfl) rfl ?_
        refine z_goto (tgt := 23) dX3_mustBitsOf_67 (by decide) ?_
        refine z_sub (lv' := [(0, vr Γ 67), (2, vl v2_1), (4, vi v4), (5, vi (v5_1 + 1))]) [2, 1, 3, 0] rfl ?_
        exact hR_23 v2_1 (v5_1 + 1) h
    · refine z_sub (lv' := [(2, vl v2)]) [1] rfl ?_
      exact hX_23_70 v2 h
theorem i_Floor_mustBitsOf {l : Launch} {Γ : Gam} {g : Nat} {a1 : Int} {μ : Mem} {k : Int64 → Mem → Prop} (hs : StatR μ.2.2) (h : f_Floor_mustBitsOf a1 μ k) : CT l Γ yX3_mustBitsOf cX3_mustBitsOf 6 (some .long) 1 21 0 0 [vr Γ 67, vi a1] g 175 μ (pL k) := by
  refine SW.ct (by decide) (Nat.le_of_ble_eq_true rfl) ?_
  refine z_sub (lv' := [(0, vr Γ 67), (1, vi a1)]) [0, 1] rfl ?_
  show SW l Γ yX3_mustBitsOf.cls cX3_mustBitsOf Y_Floor_mustBitsOf (pL k) g 175 0 0 μ 0 [(0, vr Γ 67), (1, vi a1)] []
  unfold f_Floor_mustBitsOf at h
  refine z_lconst (v := 0) dX3_mustBitsOf_0 rfl ?_
  refine z_lstore_n (lv' := [(2, vl 0), (0, vr Γ 67), (1, vi a1)]) dX3_mustBitsOf_1 rfl (Nat.le_of_ble_eq_true rfl) rfl ?_
  refine z_iload_n dX3_mustBitsOf_2 rfl 2 rfl ?_
  refine z_bipush dX3_mustBitsOf_3 (by decide) ?_
  refine z_imul dX3_mustBitsOf_5 ?_
  refine z_rload_n dX3_mustBitsOf_6 rfl 1 rfl ?_
  refine z_getR (q := 9578) ff_3_2 dX3_mustBitsOf_7 kt_67 (Nat.le_of_ble_eq_true rfl) fl_X3_15 rfl (hs.1 _ _ sr_9578) ?_
  refine z_iload_n dX3_mustBitsOf_10 rfl 2 rfl ?_
  refine z_NE (i_X11_at kt_69 (Nat.le_of_ble_eq_true rfl)) ok_X11_at nw_X3_54 ⟨Nat.le_of_ble_eq_true rfl, Nat.le_of_ble_eq_true rfl⟩ ⟨Nat.zero_le _, Nat.zero_le _⟩ rfl rfl (Nat.le_of_ble_eq_true rfl) dX3_mustBitsOf_11 ?_
  refine z_iadd dX3_mustBitsOf_14 ?_
  refine z_nm (fun v4 ev4 => ?_)
  replace h := h v4 ev4
  refine z_istore (lv' := [(4, vi v4), (2, vl 0), (0, vr Γ 67), (1, vi a1)]) dX3_mustBitsOf_15 (Nat.le_of_ble_eq_true rfl) rfl ?_
  refine z_iload_n dX3_mustBitsOf_17 rfl 3 rfl ?_
  refine z_bipush dX3_mustBitsOf_18 (by decide) ?_
  refine z_imul dX3_mustBitsOf_20 ?_
  refine z_nm (fun v5 ev5 => ?_)
  replace h := h v5 ev5
  refine z_istore (lv' := [(5, vi v5), (4, vi v4), (2, vl 0), (0, vr Γ 67), (1, vi a1)]) dX3_mustBitsOf_21 (Nat.le_of_ble_eq_true rfl) rfl ?_
  obtain ⟨m23, h⟩ := h
  refine z_sub (lv' := [(0, vr Γ 67), (2, vl 0), (4, vi v4), (5, vi v5)]) [3, 2, 1, 0] rfl ?_
  refine L_Floor_mustBitsOf_23 hs (fun v2_2 h => ?_) m23 0 v5 h
  refine z_lload_n dX3_mustBitsOf_70 rfl 0 rfl ?_
  exact z_lret rfl dX3_mustBitsOf_71 rfl rfl rfl ⟨_, rfl, hs, h⟩
abbrev Y_Comp_choose : Yt := (4, none, yX1_choose.name, { frames := 3, cells := 0, slots := 0, locals := 66 }, 175, 0, 0)
def l_Comp_choose_18 (X_18_91 : Mem → Prop) : Nat → Int → Mem → Prop
  | 0, _, _ => False
  | fu18 + 1, v2, μ_3 => if w v2 < w (rI μ_3 12654 0) then (∀ v3 : Int, v3 = at' μ_3 92 8 v2 → f_Floor_bitsOf v3 1 μ_3 (fun r46 μ_4 => ∀ μ_5 : Mem, μ_5 = setL' μ_4 93 8 v2 r46 → f_Floor_bitsOf v3 (-1) μ_5 (fun r63 μ_6 => ∀ μ_7 : Mem, μ_7 = setL' μ_6 94 8 v2 r63 → f_Floor_mustBitsOf v3 μ_7 (fun r79 μ_8 => ∀ μ_9 : Mem, μ_9 = setL' μ_8 95 8 v2 r79 → (l_Comp_choose_18 X_18_91 fu18) (v2 + 1) μ_9)))) else (X_18_91 μ_3)
def f_Comp_choose (a1 : Int) (μ : Mem) (k : Mem → Prop) : Prop := f_Floor_chosen a1 92 8 μ (fun r10 μ_1 => ∀ μ_2 : Mem, μ_2 = sI μ_1 12654 0 r10 → ∃ m18 : Nat, l_Comp_choose_18 (fun (μ_10 : Mem) => k μ_10) m18 0 μ_2)
theorem L_Comp_choose_18 {l : Launch} {Γ : Gam} {g : Nat} {X_18_91 : Mem → Prop} {k : Mem → Prop} (hX_18_91 : ∀ (ν : Mem), StatR ν.2.2 → X_18_91 ν → SW l Γ yX1_choose.cls cX1_choose Y_Comp_choose (pV k) g 175 0 0 ν 91 [] []) (n9 : Nat) : ∀ (v2 : Int) (μ_3 : Mem), StatR μ_3.2.2 → l_Comp_choose_18 X_18_91 n9 v2 μ_3 → SW l Γ yX1_choose.cls cX1_choose Y_Comp_choose (pV k) g 175 0 0 μ_3 18 [(0, vr Γ 91), (2, vi v2)] [] := by
  induction n9 with
  | zero =>
    intro v2 μ_3 hs h
    exact h.elim
  | succ n9 hR_18 =>
    intro v2 μ_3 hs h
    rw [l_Comp_choose_18] at h
    refine z_iload_n dX1_choose_18 rfl 1 rfl ?_
    refine z_rload_n dX1_choose_19 rfl 0 rfl ?_
    refine z_getI (q := 12654) ff_1_6 dX1_choose_20 kt_91 (Nat.le_of_ble_eq_true rfl) fl_X1_54 rfl ?_
    refine z_icmp_ge (tgt := 91) dX1_choose_23 (by decide) h (fun h => ?_) (fun h => ?_)
    · refine z_rload_n dX1_choose_26 rfl 0 rfl ?_
      refine z_getR (q := 12650) ff_1_2 dX1_choose_27 kt_91 (Nat.le_of_ble_eq_true rfl) fl_X1_9 rfl (hs.1 _ _ sr_12650) ?_
      refine z_iload_n dX1_choose_30 rfl 1 rfl ?_
      refine z_NE (i_X11_at kt_92 (Nat.le_of_ble_eq_true rfl)) ok_X11_at nw_X1_58 ⟨Nat.le_of_ble_eq_true rfl, Nat.le_of_ble_eq_true rfl⟩ ⟨Nat.zero_le _, Nat.zero_le _⟩ rfl rfl (Nat.le_of_ble_eq_true rfl) dX1_choose_31 ?_
      refine z_nm (fun v3 ev3 => ?_)
      replace h := h v3 ev3
      refine z_istore_n (lv' := [(3, vi v3), (0, vr Γ 91), (2, vi v2)]) dX1_choose_34 rfl (Nat.le_of_ble_eq_true rfl) rfl ?_
      refine z_rload_n dX1_choose_35 rfl 1 rfl ?_
      refine z_getR (q := 12651) ff_1_3 dX1_choose_36 kt_91 (Nat.le_of_ble_eq_true rfl) fl_X1_15 rfl (hs.1 _ _ sr_12651) ?_
      refine z_iload_n dX1_choose_39 rfl 2 rfl ?_
      refine z_rload_n dX1_choose_40 rfl 1 rfl ?_
      refine z_getR (q := 12649) ff_1_1 dX1_choose_41 kt_91 (Nat.le_of_ble_eq_true rfl) fl_X1_44 rfl (hs.1 _ _ sr_12649) ?_
      refine z_iload_n dX1_choose_44 rfl 0 rfl ?_
      refine z_iconst dX1_choose_45 ?_
      refine z_VL (i_Floor_bitsOf  hs h) vk_X3_bitsOf kt_67 (Nat.le_of_ble_eq_true rfl) rfl ml_X1_62 ⟨Nat.le_of_ble_eq_true rfl, Nat.le_of_ble_eq_true rfl⟩ ⟨Nat.zero_le _, Nat.zero_le _⟩ rfl rfl (Nat.le_of_ble_eq_true rfl) dX1_choose_46 (fun r46 μ_4 hs h => ?_)
      refine z_NM (i_X11_set_ kt_93 (Nat.le_of_ble_eq_true rfl)) ok_X11_set_ nw_X1_66 ⟨Nat.le_of_ble_eq_true rfl, Nat.le_of_ble_eq_true rfl⟩ ⟨Nat.zero_le _, Nat.zero_le _⟩ rfl rfl (Nat.le_of_ble_eq_true rfl) dX1_choose_49 ?_
      refine z_mm (fun μ_5 eμ_5 => ?_)
      replace h := h μ_5 eμ_5
      replace hs : StatR μ_5.2.2 := by rw [eμ_5]; exact (StatR.setL hs)
      refine z_rload_n dX1_choose_52 rfl 1 rfl ?_
      refine z_getR (q := 12652) ff_1_4 dX1_choose_53 kt_91 (Nat.le_of_ble_eq_true rfl) fl_X1_19 rfl (hs.1 _ _ sr_12652) ?_
      refine z_iload_n dX1_choose_56 rfl 2 rfl ?_
      refine z_rload_n dX1_choose_57 rfl 1 rfl ?_
      refine z_getR (q := 12649) ff_1_1 dX1_choose_58 kt_91 (Nat.le_of_ble_eq_true rfl) fl_X1_44 rfl (hs.1 _ _ sr_12649) ?_
      refine z_iload_n dX1_choose_61 rfl 0 rfl ?_
      refine z_iconst dX1_choose_62 ?_
      refine z_VL (i_Floor_bitsOf  hs h) vk_X3_bitsOf kt_67 (Nat.le_of_ble_eq_true rfl) rfl ml_X1_62 ⟨Nat.le_of_ble_eq_true rfl, Nat.le_of_ble_eq_true rfl⟩ ⟨Nat.zero_le _, Nat.zero_le _⟩ rfl rfl (Nat.le_of_ble_eq_true rfl) dX1_choose_63 (fun r63 μ_6 hs h => ?_)
      refine z_NM (i_X11_set_ kt_94 (Nat.le_of_ble_eq_true rfl)) ok_X11_set_ nw_X1_66 ⟨Nat.le_of_ble_eq_true rfl, Nat.le_of_ble_eq_true rfl⟩ ⟨Nat.zero_le _, Nat.zero_le _⟩ rfl rfl (Nat.le_of_ble_eq_true rfl) dX1_choose_66 ?_
      refine z_mm (fun μ_7 eμ_7 => ?_)
      replace h := h μ_7 eμ_7
      replace hs : StatR μ_7.2.2 := by rw [eμ_7]; exact (StatR.setL hs)
      refine z_rload_n dX1_choose_69 rfl 1 rfl ?_
      refine z_getR (q := 12653) ff_1_5 dX1_choose_70 kt_91 (Nat.le_of_ble_eq_true rfl) fl_X1_22 rfl (hs.1 _ _ sr_12653) ?_
      refine z_iload_n dX1_choose_73 rfl 2 rfl ?_
      refine z_rload_n dX1_choose_74 rfl 1 rfl ?_
      refine z_getR (q := 12649) ff_1_1 dX1_choose_75 kt_91 (Nat.le_of_ble_eq_true rfl) fl_X1_44 rfl (hs.1 _ _ sr_12649) ?_
      refine z_iload_n dX1_choose_78 rfl 0 rfl ?_
      refine z_VL (i_Floor_mustBitsOf  hs h) vk_X3_mustBitsOf kt_67 (Nat.le_of_ble_eq_true rfl) rfl ml_X1_70 ⟨Nat.le_of_ble_eq_true rfl, Nat.le_of_ble_eq_true rfl⟩ ⟨Nat.zero_le _, Nat.zero_le _⟩ rfl rfl (Nat.le_of_ble_eq_true rfl) dX1_choose_79 (fun r79 μ_8 hs h => ?_)
      refine z_NM (i_X11_set_ kt_95 (Nat.le_of_ble_eq_true rfl)) ok_X11_set_ nw_X1_66 ⟨Nat.le_of_ble_eq_true rfl, Nat.le_of_ble_eq_true rfl⟩ ⟨Nat.zero_le _, Nat.zero_le _⟩ rfl rfl (Nat.le_of_ble_eq_true rfl) dX1_choose_82 ?_
      refine z_mm (fun μ_9 eμ_9 => ?_)
      replace h := h μ_9 eμ_9
      replace hs : StatR μ_9.2.2 := by rw [eμ_9]; exact (StatR.setL hs)
      refine z_iinc (j := 2) (lv' := [(2, vi (v2 + 1)), (3, vi v3), (0, vr Γ 91)]) dX1_choose_85 rfl (Nat.le_of_ble_eq_true rfl) rfl ?_
      refine z_goto (tgt := 18) dX1_choose_88 (by decide) ?_
      refine z_sub (lv' := [(0, vr Γ 91), (2, vi (v2 + 1))]) [2, 0] rfl ?_
      exact hR_18 (v2 + 1) μ_9 hs h
    · refine z_sub (lv' := []) [] rfl ?_
      exact hX_18_91 μ_3 hs h
theorem i_Comp_choose {l : Launch} {Γ : Gam} {g : Nat} {a1 : Int} {μ : Mem} {k : Mem → Prop} (hs : StatR μ.2.2) (h : f_Comp_choose a1 μ k) : CT l Γ yX1_choose cX1_choose 4 none 3 66 0 0 [vr Γ 91, vi a1] g 175 μ (pV k) := by
  refine SW.ct (by decide) (Nat.le_of_ble_eq_true rfl) ?_
  refine z_sub (lv' := [(0, vr Γ 91), (1, vi a1)]) [0, 1] rfl ?_
  show SW l Γ yX1_choose.cls cX1_choose Y_Comp_choose (pV k) g 175 0 0 μ 0 [(0, vr Γ 91), (1, vi a1)] []
  unfold f_Comp_choose at h
  refine z_rload_n dX1_choose_0 rfl 0 rfl ?_
  refine z_rload_n dX1_choose_1 rfl 0 rfl ?_
  refine z_getR (q := 12649) ff_1_1 dX1_choose_2 kt_91 (Nat.le_of_ble_eq_true rfl) fl_X1_44 rfl (hs.1 _ _ sr_12649) ?_
  refine z_iload_n dX1_choose_5 rfl 1 rfl ?_
  refine z_rload_n dX1_choose_6 rfl 0 rfl ?_
  refine z_getR (q := 12650) ff_1_2 dX1_choose_7 kt_91 (Nat.le_of_ble_eq_true rfl) fl_X1_9 rfl (hs.1 _ _ sr_12650) ?_
  refine z_VI (i_Floor_chosen kt_92 (Nat.le_of_ble_eq_true rfl) hs h) vk_X3_chosen kt_67 (Nat.le_of_ble_eq_true rfl) rfl ml_X1_48 ⟨Nat.le_of_ble_eq_true rfl, Nat.le_of_ble_eq_true rfl⟩ ⟨Nat.zero_le _, Nat.zero_le _⟩ rfl rfl (Nat.le_of_ble_eq_true rfl) dX1_choose_10 (fun r10 μ_1 hs h => ?_)
  refine z_putI (q := 12654) ff_1_6 (Or.inl rfl) rfl dX1_choose_13 kt_91 (Nat.le_of_ble_eq_true rfl) fl_X1_54 rfl ?_
  refine z_mm (fun μ_2 eμ_2 => ?_)
  replace h := h μ_2 eμ_2
  replace hs : StatR μ_2.2.2 := by rw [eμ_2]; exact hs
  refine z_iconst dX1_choose_16 ?_
  refine z_istore_n (lv' := [(2, vi 0), (0, vr Γ 91), (1, vi a1)]) dX1_choose_17 rfl (Nat.le_of_ble_eq_true rfl) rfl ?_
  obtain ⟨m18, h⟩ := h
  refine z_sub (lv' := [(0, vr Γ 91), (2, vi 0)]) [1, 0] rfl ?_
  refine L_Comp_choose_18 (fun μ_10 hs h => ?_) m18 0 μ_2 hs h
  exact z_vret rfl dX1_choose_91 rfl rfl rfl ⟨rfl, hs, h⟩
abbrev Y_JL_bitCount_95d88 : Yt := (2, (some .int), yJ13_bitCount_95d88.name, { frames := 0, cells := 0, slots := 0, locals := 0 }, 175, 0, 0)
def f_JL_bitCount_95d88 (a1 : Int64) (μ : Mem) (k : Int → Mem → Prop) : Prop := ∀ v0 : Int64, v0 = a1 - ((w_lushr a1 1) &&& 6148914691236517205) → ∀ v0_1 : Int64, v0_1 = (v0 &&& 3689348814741910323) + ((w_lushr v0 2) &&& 3689348814741910323) → ∀ v0_2 : Int64, v0_2 = (v0_1 + (w_lushr v0_1 4)) &&& 1085102592571150095 → ∀ v0_3 : Int64, v0_3 = v0_2 + (w_lushr v0_2 8) → ∀ v0_4 : Int64, v0_4 = v0_3 + (w_lushr v0_3 16) → ∀ v0_5 : Int64, v0_5 = v0_4 + (w_lushr v0_4 32) → k (w_iand (w_l2i v0_5) 127) μ
def v_popL (a1 : Int64) : Int :=
  let v0 := a1 - ((w_lushr a1 1) &&& 6148914691236517205)
  let v0_1 := (v0 &&& 3689348814741910323) + ((w_lushr v0 2) &&& 3689348814741910323)
  let v0_2 := (v0_1 + (w_lushr v0_1 4)) &&& 1085102592571150095
  let v0_3 := v0_2 + (w_lushr v0_2 8)
  let v0_4 := v0_3 + (w_lushr v0_3 16)
  let v0_5 := v0_4 + (w_lushr v0_4 32)
  (w_iand (w_l2i v0_5) 127)
theorem i_JL_bitCount_95d88 {l : Launch} {Γ : Gam} {g : Nat} {a1 : Int64} {μ : Mem} {k : Int → Mem → Prop} (hs : StatR μ.2.2) (h : f_JL_bitCount_95d88 a1 μ k) : CT l Γ yJ13_bitCount_95d88 cJ13_bitCount_95d88 2 (some .int) 0 0 0 0 [vl a1] g 175 μ (pI k) := by
  refine SW.ct (by decide) (Nat.le_of_ble_eq_true rfl) ?_
  refine z_sub (lv' := [(0, vl a1)]) [0] rfl ?_
  show SW l Γ yJ13_bitCount_95d88.cls cJ13_bitCount_95d88 Y_JL_bitCount_95d88 (pI k) g 175 0 0 μ 0 [(0, vl a1)] []
  unfold f_JL_bitCount_95d88 at h
  refine z_lload_n dJ13_bitCount_95d88_0 rfl 0 rfl ?_
  refine z_lload_n dJ13_bitCount_95d88_1 rfl 0 rfl ?_
  refine z_iconst dJ13_bitCount_95d88_2 ?_
  refine z_lushr dJ13_bitCount_95d88_3 ?_
  refine z_ldc2 (v := 6148914691236517205) dJ13_bitCount_95d88_4 cl_J13_314 ?_
  refine z_land dJ13_bitCount_95d88_7 ?_
  refine z_lsub dJ13_bitCount_95d88_8 ?_
  refine z_nmL (fun v0 ev0 => ?_)
  replace h := h v0 ev0
  refine z_lstore_n (lv' := [(0, vl v0)]) dJ13_bitCount_95d88_9 rfl (Nat.le_of_ble_eq_true rfl) rfl ?_
  refine z_lload_n dJ13_bitCount_95d88_10 rfl 0 rfl ?_
  refine z_ldc2 (v := 3689348814741910323) dJ13_bitCount_95d88_11 cl_J13_316 ?_
  refine z_land dJ13_bitCount_95d88_14 ?_
  refine z_lload_n dJ13_bitCount_95d88_15 rfl 0 rfl ?_
  refine z_iconst dJ13_bitCount_95d88_16 ?_
  refine z_lushr dJ13_bitCount_95d88_17 ?_
  refine z_ldc2 (v := 3689348814741910323) dJ13_bitCount_95d88_18 cl_J13_316 ?_
  refine z_land dJ13_bitCount_95d88_21 ?_
  refine z_ladd dJ13_bitCount_95d88_22 ?_
  refine z_nmL (fun v0_1 ev0_1 => ?_)
  replace h := h v0_1 ev0_1
  refine z_lstore_n (lv' := [(0, vl v0_1)]) dJ13_bitCount_95d88_23 rfl (Nat.le_of_ble_eq_true rfl) rfl ?_
  refine z_lload_n dJ13_bitCount_95d88_24 rfl 0 rfl ?_
  refine z_lload_n dJ13_bitCount_95d88_25 rfl 0 rfl ?_
  refine z_iconst dJ13_bitCount_95d88_26 ?_
  refine z_lushr dJ13_bitCount_95d88_27 ?_
  refine z_ladd dJ13_bitCount_95d88_28 ?_
  refine z_ldc2 (v := 1085102592571150095) dJ13_bitCount_95d88_29 cl_J13_318 ?_
  refine z_land dJ13_bitCount_95d88_32 ?_
  refine z_nmL (fun v0_2 ev0_2 => ?_)
  replace h := h v0_2 ev0_2
  refine z_lstore_n (lv' := [(0, vl v0_2)]) dJ13_bitCount_95d88_33 rfl (Nat.le_of_ble_eq_true rfl) rfl ?_
  refine z_lload_n dJ13_bitCount_95d88_34 rfl 0 rfl ?_
  refine z_lload_n dJ13_bitCount_95d88_35 rfl 0 rfl ?_
  refine z_bipush dJ13_bitCount_95d88_36 (by decide) ?_
  refine z_lushr dJ13_bitCount_95d88_38 ?_
  refine z_ladd dJ13_bitCount_95d88_39 ?_
  refine z_nmL (fun v0_3 ev0_3 => ?_)
  replace h := h v0_3 ev0_3
  refine z_lstore_n (lv' := [(0, vl v0_3)]) dJ13_bitCount_95d88_40 rfl (Nat.le_of_ble_eq_true rfl) rfl ?_
  refine z_lload_n dJ13_bitCount_95d88_41 rfl 0 rfl ?_
  refine z_lload_n dJ13_bitCount_95d88_42 rfl 0 rfl ?_
  refine z_bipush dJ13_bitCount_95d88_43 (by decide) ?_
  refine z_lushr dJ13_bitCount_95d88_45 ?_
  refine z_ladd dJ13_bitCount_95d88_46 ?_
  refine z_nmL (fun v0_4 ev0_4 => ?_)
  replace h := h v0_4 ev0_4
  refine z_lstore_n (lv' := [(0, vl v0_4)]) dJ13_bitCount_95d88_47 rfl (Nat.le_of_ble_eq_true rfl) rfl ?_
  refine z_lload_n dJ13_bitCount_95d88_48 rfl 0 rfl ?_
  refine z_lload_n dJ13_bitCount_95d88_49 rfl 0 rfl ?_
  refine z_bipush dJ13_bitCount_95d88_50 (by decide) ?_
  refine z_lushr dJ13_bitCount_95d88_52 ?_
  refine z_ladd dJ13_bitCount_95d88_53 ?_
  refine z_nmL (fun v0_5 ev0_5 => ?_)
  replace h := h v0_5 ev0_5
  refine z_lstore_n (lv' := [(0, vl v0_5)]) dJ13_bitCount_95d88_54 rfl (Nat.le_of_ble_eq_true rfl) rfl ?_
  refine z_lload_n dJ13_bitCount_95d88_55 rfl 0 rfl ?_
  refine z_l2i dJ13_bitCount_95d88_56 ?_
  refine z_bipush dJ13_bitCount_95d88_57 (by decide) ?_
  refine z_iand dJ13_bitCount_95d88_59 ?_
  exact z_iret rfl dJ13_bitCount_95d88_60 rfl rfl rfl ⟨_, rfl, hs, h⟩
theorem i_popL {l : Launch} {Γ : Gam} {g : Nat} {μ : Mem} {a1 : Int64} (hs : StatR μ.2.2) : CT l Γ yJ13_bitCount_95d88 cJ13_bitCount_95d88 2 (some .int) 0 0 0 0 [vl a1] g 175 μ (pE (vi (v_popL a1)) μ) := by
  refine CT.mono (i_JL_bitCount_95d88 (k := fun r ν => r = v_popL a1 ∧ ν = μ) hs ?_) (fun v ν q => ?_)
  · unfold f_JL_bitCount_95d88
    repeat (intro _ e; subst e)
    exact ⟨rfl, rfl⟩
  · obtain ⟨r, rfl, -, rfl, rfl⟩ := q
    exact ⟨rfl, rfl⟩
abbrev Y_Comp_keepUpTo : Yt := (8, none, yX1_keepUpTo.name, { frames := 1, cells := 0, slots := 0, locals := 21 }, 175, 0, 0)
def l_Comp_keepUpTo_47 (v3_1 : Int) (X_47_90 : Int → Mem → Prop) : Nat → Int → Int64 → Mem → Prop
  | 0, _, _, _ => False
  | fu47 + 1, v2_2, v4_1, μ_3 => if 0 < w v2_2 then (if v4_1 = 0 then (X_47_90 v2_2 μ_3) else (∀ v6 : Int64, v6 = v4_1 &&& (-v4_1) → ∀ μ_4 : Mem, μ_4 = sL μ_3 12655 0 ((rL μ_3 12655 0) ||| v6) → ∀ v4_2 : Int64, v4_2 = v4_1 ^^^ v6 → (l_Comp_keepUpTo_47 v3_1 X_47_90 fu47) (v2_2 + (-1)) v4_2 μ_4)) else (X_47_90 v2_2 μ_3)
def l_Comp_keepUpTo_26 (X_26_96 : Mem → Prop) : Nat → Int → Int → Mem → Prop
  | 0, _, _, _ => False
  | fu26 + 1, v2_1, v3_1, μ_2 => if 0 < w v3_1 then (0 ≤ w v3_1 ∧ w v3_1 < ((9 : Nat) : Int) ∧ ∀ v4 : Int64, v4 = (rL μ_2 96 (w v3_1)) &&& ((rL μ_2 12655 0) ^^^ (-1)) → ∃ m47 : Nat, l_Comp_keepUpTo_47 v3_1 (fun (v2_3 : Int) (μ_5 : Mem) => (l_Comp_keepUpTo_26 X_26_96 fu26) v2_3 (v3_1 + (-1)) μ_5) m47 v2_1 v4 μ_2) else (X_26_96 μ_2)
def f_Comp_keepUpTo (a1 : Int) (μ : Mem) (k : Mem → Prop) : Prop := ∀ μ_1 : Mem, μ_1 = sL μ 12655 0 (rL μ 12657 0) → ∀ v2 : Int, v2 = a1 - (v_popL (rL μ_1 12657 0)) → ∀ v3 : Int, v3 = ((9 : Nat) : Int) - 1 → ∃ m26 : Nat, l_Comp_keepUpTo_26 (fun (μ_6 : Mem) => k μ_6) m26 v2 v3 μ_1
theorem L_Comp_keepUpTo_47 {l : Launch} {Γ : Gam} {g : Nat} {v3_1 : Int} {X_47_90 : Int → Mem → Prop} {k : Mem → Prop} (hX_47_90 : ∀ (u2 : Int) (ν : Mem), StatR ν.2.2 → X_47_90 u2 ν → SW l Γ yX1_keepUpTo.cls cX1_keepUpTo Y_Comp_keepUpTo (pV k) g 175 0 0 ν 90 [(0, vr Γ 91), (2, vi u2), (3, vi v3_1)] []) (n9 : Nat) : ∀ (v2_2 : Int) (v4_1 : Int64) (μ_3 : Mem), StatR μ_3.2.2 → l_Comp_keepUpTo_47 v3_1 X_47_90 n9 v2_2 v4_1 μ_3 → SW l Γ yX1_keepUpTo.cls cX1_keepUpTo Y_Comp_keepUpTo (pV k) g 175 0 0 μ_3 47 [(0, vr Γ 91), (2, vi v2_2), (3, vi v3_1), (4, vl v4_1)] [] := by
  induction n9 with
  | zero =>
    intro v2_2 v4_1 μ_3 hs h
    exact h.elim
  | succ n9 hR_47 =>
    intro v2_2 v4_1 μ_3 hs h
    rw [l_Comp_keepUpTo_47] at h
    refine z_iload_n dX1_keepUpTo_47 rfl 1 rfl ?_
    refine z_if_le (tgt := 90) dX1_keepUpTo_48 (by decide) h (fun h => ?_) (fun h => ?_)
    · refine z_lload dX1_keepUpTo_51 3 rfl ?_
      refine z_lconst (v := 0) dX1_keepUpTo_53 rfl ?_
      refine z_lcmp_eq (tgt := 90) dX1_keepUpTo_54 dX1_keepUpTo_55 (by decide) h (fun h => ?_) (fun h => ?_)
      · refine z_sub (lv' := [(0, vr Γ 91), (2, vi v2_2), (3, vi v3_1)]) [0, 1, 2] rfl ?_
        exact hX_47_90 v2_2 μ_3 hs h
      · refine z_lload dX1_keepUpTo_58 3 rfl ?_
        refine z_lload dX1_keepUpTo_60 3 rfl ?_
        refine z_lneg dX1_keepUpTo_62 ?_
        refine z_land dX1_keepUpTo_63 ?_
        refine z_nmL (fun v6 ev6 => ?_)
        replace h := h v6 ev6
        refine z_lstore (lv' := [(6, vl v6), (0, vr Γ 91), (2, vi v2_2), (3, vi v3_1), (4, vl v4_1)]) dX1_keepUpTo_64 (Nat.le_of_ble_eq_true rfl) rfl ?_
        refine z_rload_n dX1_keepUpTo_66 rfl 1 rfl ?_
        refine z_dup dX1_keepUpTo_67 rfl ?_
        refine z_getJ (q := 12655) ff_1_7 dX1_keepUpTo_68 kt_91 (Nat.le_of_ble_eq_true rfl) fl_X1_95 rfl ?_
        refine z_lload dX1_keepUpTo_71 0 rfl ?_
        refine z_lor dX1_keepUpTo_73 ?_
        refine z_putJ (q := 12655) ff_1_7 (Or.inl rfl) rfl dX1_keepUpTo_74 kt_91 (Nat.le_of_ble_eq_true rfl) fl_X1_95 rfl ?_
        refine z_mm (fun μ_4 eμ_4 => ?_)
        replace h := h μ_4 eμ_4
        replace hs : StatR μ_4.2.2 := by rw [eμ_4]; exact hs
        refine z_lload dX1_keepUpTo_77 4 rfl ?_
        refine z_lload dX1_keepUpTo_79 0 rfl ?_
        refine z_lxor dX1_keepUpTo_81 ?_
        refine z_nmL (fun v4_2 ev4_2 => ?_)
        replace h := h v4_2 ev4_2
        refine z_lstore (lv' := [(4, vl v4_2), (6, vl v6), (0, vr Γ 91), (2, vi v2_2), (3, vi v3_1)]) dX1_keepUpTo_82 (Nat.le_of_ble_eq_true rfl) rfl ?_
        refine z_iinc (j := 3) (lv' := [(2, vi (v2_2 + (-1))), (4, vl v4_2), (6, vl v6), (0, vr Γ 91), (3, vi v3_1)]) dX1_keepUpTo_84 rfl (Nat.le_of_ble_eq_true rfl) rfl ?_
        refine z_goto (tgt := 47) dX1_keepUpTo_87 (by decide) ?_
        refine z_sub (lv' := [(0, vr Γ 91), (2, vi (v2_2 + (-1))), (3, vi v3_1), (4, vl v4_2)]) [3, 0, 4, 1] rfl ?_
        exact hR_47 (v2_2 + (-1)) v4_2 μ_4 hs h
    · refine z_sub (lv' := [(0, vr Γ 91), (2, vi v2_2), (3, vi v3_1)]) [0, 1, 2] rfl ?_
      exact hX_47_90 v2_2 μ_3 hs h
theorem L_Comp_keepUpTo_26 {l : Launch} {Γ : Gam} {g : Nat} {X_26_96 : Mem → Prop} {k : Mem → Prop} (hX_26_96 : ∀ (ν : Mem), StatR ν.2.2 → X_26_96 ν → SW l Γ yX1_keepUpTo.cls cX1_keepUpTo Y_Comp_keepUpTo (pV k) g 175 0 0 ν 96 [] []) (n9 : Nat) : ∀ (v2_1 : Int) (v3_1 : Int) (μ_2 : Mem), StatR μ_2.2.2 → l_Comp_keepUpTo_26 X_26_96 n9 v2_1 v3_1 μ_2 → SW l Γ yX1_keepUpTo.cls cX1_keepUpTo Y_Comp_keepUpTo (pV k) g 175 0 0 μ_2 26 [(0, vr Γ 91), (2, vi v2_1), (3, vi v3_1)] [] := by
  induction n9 with
  | zero =>
    intro v2_1 v3_1 μ_2 hs h
    exact h.elim
  | succ n9 hR_26 =>
    intro v2_1 v3_1 μ_2 hs h
    rw [l_Comp_keepUpTo_26] at h
    refine z_iload_n dX1_keepUpTo_26 rfl 2 rfl ?_
    refine z_if_le (tgt := 96) dX1_keepUpTo_27 (by decide) h (fun h => ?_) (fun h => ?_)
    · refine z_rload_n dX1_keepUpTo_30 rfl 0 rfl ?_
      refine z_getR (q := 12658) ff_1_10 dX1_keepUpTo_31 kt_91 (Nat.le_of_ble_eq_true rfl) fl_X1_25 rfl (hs.1 _ _ sr_12658) ?_
      refine z_iload_n dX1_keepUpTo_34 rfl 2 rfl ?_
      obtain ⟨h0, h1, h⟩ := h
      refine z_lald dX1_keepUpTo_35 kt_96 (Nat.le_of_ble_eq_true rfl) h0 h1 ?_
      refine z_rload_n dX1_keepUpTo_36 rfl 0 rfl ?_
      refine z_getJ (q := 12655) ff_1_7 dX1_keepUpTo_37 kt_91 (Nat.le_of_ble_eq_true rfl) fl_X1_95 rfl ?_
      refine z_ldc2 (v := (-1)) dX1_keepUpTo_40 cl_X1_126 ?_
      refine z_lxor dX1_keepUpTo_43 ?_
      refine z_land dX1_keepUpTo_44 ?_
      refine z_nmL (fun v4 ev4 => ?_)
      replace h := h v4 ev4
      refine z_lstore (lv' := [(4, vl v4), (0, vr Γ 91), (2, vi v2_1), (3, vi v3_1)]) dX1_keepUpTo_45 (Nat.le_of_ble_eq_true rfl) rfl ?_
      obtain ⟨m47, h⟩ := h
      refine z_sub (lv' := [(0, vr Γ 91), (2, vi v2_1), (3, vi v3_1), (4, vl v4)]) [1, 2, 3, 0] rfl ?_
      refine L_Comp_keepUpTo_47 (fun v2_3 μ_5 hs h => ?_) m47 v2_1 v4 μ_2 hs h
      refine z_iinc (j := 2) (lv' := [(3, vi (v3_1 + (-1))), (0, vr Γ 91), (2, vi v2_3)]) dX1_keepUpTo_90 rfl (Nat.le_of_ble_eq_true rfl) rfl ?_
      refine z_goto (tgt := 26) dX1_keepUpTo_93 (by decide) ?_
      refine z_sub (lv' := [(0, vr Γ 91), (2, vi v2_3), (3, vi (v3_1 + (-1)))]) [1, 2, 0] rfl ?_
      exact hR_26 v2_3 (v3_1 + (-1)) μ_5 hs h
    · refine z_sub (lv' := []) [] rfl ?_
      exact hX_26_96 μ_2 hs h
theorem i_Comp_keepUpTo {l : Launch} {Γ : Gam} {g : Nat} {a1 : Int} {μ : Mem} {k : Mem → Prop} (hs : StatR μ.2.2) (h : f_Comp_keepUpTo a1 μ k) : CT l Γ yX1_keepUpTo cX1_keepUpTo 8 none 1 21 0 0 [vr Γ 91, vi a1] g 175 μ (pV k) := by
  refine SW.ct (by decide) (Nat.le_of_ble_eq_true rfl) ?_
  refine z_sub (lv' := [(0, vr Γ 91), (1, vi a1)]) [0, 1] rfl ?_
  show SW l Γ yX1_keepUpTo.cls cX1_keepUpTo Y_Comp_keepUpTo (pV k) g 175 0 0 μ 0 [(0, vr Γ 91), (1, vi a1)] []
  unfold f_Comp_keepUpTo at h
  refine z_rload_n dX1_keepUpTo_0 rfl 0 rfl ?_
  refine z_rload_n dX1_keepUpTo_1 rfl 0 rfl ?_
  refine z_getJ (q := 12657) ff_1_9 dX1_keepUpTo_2 kt_91 (Nat.le_of_ble_eq_true rfl) fl_X1_116 rfl ?_
  refine z_putJ (q := 12655) ff_1_7 (Or.inl rfl) rfl dX1_keepUpTo_5 kt_91 (Nat.le_of_ble_eq_true rfl) fl_X1_95 rfl ?_
  refine z_mm (fun μ_1 eμ_1 => ?_)
  replace h := h μ_1 eμ_1
  replace hs : StatR μ_1.2.2 := by rw [eμ_1]; exact hs
  refine z_iload_n dX1_keepUpTo_8 rfl 1 rfl ?_
  refine z_rload_n dX1_keepUpTo_9 rfl 0 rfl ?_
  refine z_getJ (q := 12657) ff_1_9 dX1_keepUpTo_10 kt_91 (Nat.le_of_ble_eq_true rfl) fl_X1_116 rfl ?_
  refine z_SE (i_popL hs) sk_J13_bitCount_95d88 ml_X1_89 ⟨Nat.le_of_ble_eq_true rfl, Nat.le_of_ble_eq_true rfl⟩ ⟨Nat.zero_le _, Nat.zero_le _⟩ rfl rfl (Nat.le_of_ble_eq_true rfl) dX1_keepUpTo_13 ?_
  refine z_isub dX1_keepUpTo_16 ?_
  refine z_nm (fun v2 ev2 => ?_)
  replace h := h v2 ev2
  refine z_istore_n (lv' := [(2, vi v2), (0, vr Γ 91), (1, vi a1)]) dX1_keepUpTo_17 rfl (Nat.le_of_ble_eq_true rfl) rfl ?_
  refine z_rload_n dX1_keepUpTo_18 rfl 1 rfl ?_
  refine z_getR (q := 12658) ff_1_10 dX1_keepUpTo_19 kt_91 (Nat.le_of_ble_eq_true rfl) fl_X1_25 rfl (hs.1 _ _ sr_12658) ?_
  refine z_alen dX1_keepUpTo_22 kt_96 (by decide) (Nat.le_of_ble_eq_true rfl) ?_
  refine z_iconst dX1_keepUpTo_23 ?_
  refine z_isub dX1_keepUpTo_24 ?_
  refine z_nm (fun v3 ev3 => ?_)
  replace h := h v3 ev3
  refine z_istore_n (lv' := [(3, vi v3), (2, vi v2), (0, vr Γ 91), (1, vi a1)]) dX1_keepUpTo_25 rfl (Nat.le_of_ble_eq_true rfl) rfl ?_
  obtain ⟨m26, h⟩ := h
  refine z_sub (lv' := [(0, vr Γ 91), (2, vi v2), (3, vi v3)]) [2, 1, 0] rfl ?_
  refine L_Comp_keepUpTo_26 (fun μ_6 hs h => ?_) m26 v2 v3 μ_1 hs h
  exact z_vret rfl dX1_keepUpTo_96 rfl rfl rfl ⟨rfl, hs, h⟩
abbrev Y_Comp_share : Yt := (4, none, yX1_share.name, { frames := 0, cells := 0, slots := 0, locals := 0 }, 175, 0, 0)
def l_Comp_share_8 (a1 : Int64) (X_8_38 : Mem → Prop) : Nat → Int → Mem → Prop
  | 0, _, _ => False
  | fu8 + 1, v3_1, μ_1 => if w 1 < w v3_1 then (0 ≤ w v3_1 ∧ w v3_1 < ((9 : Nat) : Int) ∧ 0 ≤ w (v3_1 - 1) ∧ w (v3_1 - 1) < ((9 : Nat) : Int) ∧ 0 ≤ w v3_1 ∧ w v3_1 < ((9 : Nat) : Int) ∧ ∀ μ_2 : Mem, μ_2 = sL μ_1 96 (w v3_1) ((rL μ_1 96 (w v3_1)) ||| ((rL μ_1 96 (w (v3_1 - 1))) &&& a1)) → (l_Comp_share_8 a1 X_8_38 fu8) (v3_1 + (-1)) μ_2) else (X_8_38 μ_1)
def f_Comp_share (a1 : Int64) (μ : Mem) (k : Mem → Prop) : Prop := ∀ v3 : Int, v3 = ((9 : Nat) : Int) - 1 → ∃ m8 : Nat, l_Comp_share_8 a1 (fun (μ_3 : Mem) => ∀ μ_4 : Mem, μ_4 = sL μ_3 96 (w 1) ((rL μ_3 96 (w 1)) ||| a1) → k μ_4) m8 v3 μ
theorem L_Comp_share_8 {l : Launch} {Γ : Gam} {g : Nat} {a1 : Int64} {X_8_38 : Mem → Prop} {k : Mem → Prop} (hX_8_38 : ∀ (ν : Mem), StatR ν.2.2 → X_8_38 ν → SW l Γ yX1_share.cls cX1_share Y_Comp_share (pV k) g 175 0 0 ν 38 [(0, vr Γ 91), (1, vl a1)] []) (n9 : Nat) : ∀ (v3_1 : Int) (μ_1 : Mem), StatR μ_1.2.2 → l_Comp_share_8 a1 X_8_38 n9 v3_1 μ_1 → SW l Γ yX1_share.cls cX1_share Y_Comp_share (pV k) g 175 0 0 μ_1 8 [(0, vr Γ 91), (1, vl a1), (3, vi v3_1)] [] := by
  induction n9 with
  | zero =>
    intro v3_1 μ_1 hs h
    exact h.elim
  | succ n9 hR_8 =>
    intro v3_1 μ_1 hs h
    rw [l_Comp_share_8] at h
    refine z_iload_n dX1_share_8 rfl 2 rfl ?_
    refine z_iconst dX1_share_9 ?_
    refine z_icmp_le (tgt := 38) dX1_share_10 (by decide) h (fun h => ?_) (fun h => ?_)
    · refine z_rload_n dX1_share_13 rfl 0 rfl ?_
      refine z_getR (q := 12658) ff_1_10 dX1_share_14 kt_91 (Nat.le_of_ble_eq_true rfl) fl_X1_25 rfl (hs.1 _ _ sr_12658) ?_
      refine z_iload_n dX1_share_17 rfl 2 rfl ?_
      refine z_dup2 dX1_share_18 rfl rfl ?_
      obtain ⟨h0, h1, h⟩ := h
      refine z_lald dX1_share_19 kt_96 (Nat.le_of_ble_eq_true rfl) h0 h1 ?_
      refine z_rload_n dX1_share_20 rfl 0 rfl ?_
      refine z_getR (q := 12658) ff_1_10 dX1_share_21 kt_91 (Nat.le_of_ble_eq_true rfl) fl_X1_25 rfl (hs.1 _ _ sr_12658) ?_
      refine z_iload_n dX1_share_24 rfl 2 rfl ?_
      refine z_iconst dX1_share_25 ?_
      refine z_isub dX1_share_26 ?_
      obtain ⟨h0, h1, h⟩ := h
      refine z_lald dX1_share_27 kt_96 (Nat.le_of_ble_eq_true rfl) h0 h1 ?_
      refine z_lload_n dX1_share_28 rfl 1 rfl ?_
      refine z_land dX1_share_29 ?_
      refine z_lor dX1_share_30 ?_
      obtain ⟨h0, h1, h⟩ := h
      refine z_last dX1_share_31 kt_96 (Nat.le_of_ble_eq_true rfl) h0 h1 ?_
      refine z_mm (fun μ_2 eμ_2 => ?_)
      replace h := h μ_2 eμ_2
      replace hs : StatR μ_2.2.2 := by rw [eμ_2]; exact hs
      refine z_iinc (j := 2) (lv' := [(3, vi (v3_1 + (-1))), (0, vr Γ 91), (1, vl a1)]) dX1_share_32 rfl (Nat.le_of_ble_eq_true rfl) rfl ?_
      refine z_goto (tgt := 8) dX1_share_35 (by decide) ?_
      refine z_sub (lv' := [(0, vr Γ 91), (1, vl a1), (3, vi (v3_1 + (-1)))]) [1, 2, 0] rfl ?_
      exact hR_8 (v3_1 + (-1)) μ_2 hs h
    · refine z_sub (lv' := [(0, vr Γ 91), (1, vl a1)]) [0, 1] rfl ?_
      exact hX_8_38 μ_1 hs h
theorem i_Comp_share {l : Launch} {Γ : Gam} {g : Nat} {a1 : Int64} {μ : Mem} {k : Mem → Prop} (hs : StatR μ.2.2) (h : f_Comp_share a1 μ k) : CT l Γ yX1_share cX1_share 4 none 0 0 0 0 [vr Γ 91, vl a1] g 175 μ (pV k) := by
  refine SW.ct (by decide) (Nat.le_of_ble_eq_true rfl) ?_
  refine z_sub (lv' := [(0, vr Γ 91), (1, vl a1)]) [0, 1] rfl ?_
  show SW l Γ yX1_share.cls cX1_share Y_Comp_share (pV k) g 175 0 0 μ 0 [(0, vr Γ 91), (1, vl a1)] []
  unfold f_Comp_share at h
  refine z_rload_n dX1_share_0 rfl 0 rfl ?_
  refine z_getR (q := 12658) ff_1_10 dX1_share_1 kt_91 (Nat.le_of_ble_eq_true rfl) fl_X1_25 rfl (hs.1 _ _ sr_12658) ?_
  refine z_alen dX1_share_4 kt_96 (by decide) (Nat.le_of_ble_eq_true rfl) ?_
  refine z_iconst dX1_share_5 ?_
  refine z_isub dX1_share_6 ?_
  refine z_nm (fun v3 ev3 => ?_)
  replace h := h v3 ev3
  refine z_istore_n (lv' := [(3, vi v3), (0, vr Γ 91), (1, vl a1)]) dX1_share_7 rfl (Nat.le_of_ble_eq_true rfl) rfl ?_
  obtain ⟨m8, h⟩ := h
  refine z_sub (lv' := [(0, vr Γ 91), (1, vl a1), (3, vi v3)]) [1, 2, 0] rfl ?_
  refine L_Comp_share_8 (fun μ_3 hs h => ?_) m8 v3 μ hs h
  refine z_rload_n dX1_share_38 rfl 0 rfl ?_
  refine z_getR (q := 12658) ff_1_10 dX1_share_39 kt_91 (Nat.le_of_ble_eq_true rfl) fl_X1_25 rfl (hs.1 _ _ sr_12658) ?_
  refine z_iconst dX1_share_42 ?_
  refine z_dup2 dX1_share_43 rfl rfl ?_
  refine z_lald dX1_share_44 kt_96 (Nat.le_of_ble_eq_true rfl) (by decide) (by decide) ?_
  refine z_lload_n dX1_share_45 rfl 1 rfl ?_
  refine z_lor dX1_share_46 ?_
  refine z_last dX1_share_47 kt_96 (Nat.le_of_ble_eq_true rfl) (by decide) (by decide) ?_
  refine z_mm (fun μ_4 eμ_4 => ?_)
  replace h := h μ_4 eμ_4
  replace hs : StatR μ_4.2.2 := by rw [eμ_4]; exact hs
  exact z_vret rfl dX1_share_48 rfl rfl rfl ⟨rfl, hs, h⟩
