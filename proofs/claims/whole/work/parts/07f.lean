abbrev Y_M_does : Yt := (5, none, yX12_does.name, { frames := 1, cells := 0, slots := 0, locals := 22 }, 175, 0, 0)
def b_M_does_196 (R_5 : Int → Mem → Prop) (v1_1 : Int) (v2_3 : Int) (v3_1 : Int) (μ_8 : Mem) : Prop := 0 ≤ w v2_3 ∧ w v2_3 < ((240 : Nat) : Int) ∧ if w (rI μ_8 120 (w v2_3)) = w 2 then (if w v3_1 = w (-1) then (R_5 (v2_3 + 1) μ_8) else (0 ≤ w v3_1 ∧ w v3_1 < ((12 : Nat) : Int) ∧ 0 ≤ w v3_1 ∧ w v3_1 < ((12 : Nat) : Int) ∧ ∀ μ_9 : Mem, μ_9 = sI μ_8 155 (w v3_1) (-(rI μ_8 155 (w v3_1))) → 0 ≤ w v3_1 ∧ w v3_1 < ((12 : Nat) : Int) ∧ ∀ μ_10 : Mem, μ_10 = sI μ_9 157 (w v3_1) v1_1 → R_5 (v2_3 + 1) μ_10)) else (R_5 (v2_3 + 1) μ_8)
def b_M_does_124 (R_5 : Int → Mem → Prop) (v1 : Int) (v2_2 : Int) (v3 : Int) (μ_3 : Mem) : Prop := 0 ≤ w v2_2 ∧ w v2_2 < ((240 : Nat) : Int) ∧ if w (rI μ_3 120 (w v2_2)) = w 1 then (if w v3 = w (-1) then (if w (rI μ_3 15533 0) < w 12 then (0 ≤ w v2_2 ∧ w v2_2 < ((240 : Nat) : Int) ∧ 0 ≤ w (rI μ_3 15533 0) ∧ w (rI μ_3 15533 0) < ((12 : Nat) : Int) ∧ ∀ μ_4 : Mem, μ_4 = sI μ_3 155 (w (rI μ_3 15533 0)) (rI μ_3 121 (w v2_2)) → 0 ≤ w (rI μ_4 15533 0) ∧ w (rI μ_4 15533 0) < ((12 : Nat) : Int) ∧ ∀ μ_5 : Mem, μ_5 = sB μ_4 156 (w (rI μ_4 15533 0)) false → 0 ≤ w (rI μ_5 15533 0) ∧ w (rI μ_5 15533 0) < ((12 : Nat) : Int) ∧ ∀ μ_6 : Mem, μ_6 = sI μ_5 157 (w (rI μ_5 15533 0)) v1 → ∀ μ_7 : Mem, μ_7 = sI μ_6 15533 0 ((rI μ_6 15533 0) + 1) → R_5 (v2_2 + 1) μ_7) else (b_M_does_196 R_5 v1 v2_2 v3 μ_3)) else (b_M_does_196 R_5 v1 v2_2 v3 μ_3)) else (b_M_does_196 R_5 v1 v2_2 v3 μ_3)
def l_M_does_58 (a1 : Int) (v2_1 : Int) (X_58_121 : Mem → Prop) : Nat → Int → Mem → Prop
  | 0, _, _ => False
  | fu58 + 1, v4, μ_12 => if w v4 < w (rI μ_12 15533 0) then (0 ≤ w (v4 + 1) ∧ w (v4 + 1) < ((12 : Nat) : Int) ∧ 0 ≤ w v4 ∧ w v4 < ((12 : Nat) : Int) ∧ ∀ μ_13 : Mem, μ_13 = sI μ_12 155 (w v4) (rI μ_12 155 (w (v4 + 1))) → 0 ≤ w (v4 + 1) ∧ w (v4 + 1) < ((12 : Nat) : Int) ∧ 0 ≤ w v4 ∧ w v4 < ((12 : Nat) : Int) ∧ ∀ μ_14 : Mem, μ_14 = sB μ_13 156 (w v4) (rB μ_13 156 (w (v4 + 1))) → 0 ≤ w (v4 + 1) ∧ w (v4 + 1) < ((12 : Nat) : Int) ∧ 0 ≤ w v4 ∧ w v4 < ((12 : Nat) : Int) ∧ ∀ μ_15 : Mem, μ_15 = sI μ_14 157 (w v4) (rI μ_14 157 (w (v4 + 1))) → (l_M_does_58 a1 v2_1 X_58_121 fu58) (v4 + 1) μ_15) else (X_58_121 μ_12)
def l_M_does_5 (a1 : Int) (X_5_237 : Mem → Prop) : Nat → Int → Mem → Prop
  | 0, _, _ => False
  | fu5 + 1, v2_1, μ_1 => 0 ≤ w a1 ∧ w a1 < ((40 : Nat) : Int) ∧ if w v2_1 < w ((6 * a1) + (rI μ_1 119 (w a1))) then (0 ≤ w v2_1 ∧ w v2_1 < ((240 : Nat) : Int) ∧ f_M_inRow (rI μ_1 121 (w v2_1)) μ_1 (fun r27 μ_2 => 0 ≤ w v2_1 ∧ w v2_1 < ((240 : Nat) : Int) ∧ if w (rI μ_2 120 (w v2_1)) = 0 then (if w r27 = w (-1) then (b_M_does_124 (l_M_does_5 a1 X_5_237 fu5) a1 v2_1 r27 μ_2) else (∀ μ_11 : Mem, μ_11 = sI μ_2 15533 0 ((rI μ_2 15533 0) - 1) → ∃ m58 : Nat, l_M_does_58 a1 v2_1 (fun (μ_16 : Mem) => (l_M_does_5 a1 X_5_237 fu5) (v2_1 + 1) μ_16) m58 r27 μ_11)) else (b_M_does_124 (l_M_does_5 a1 X_5_237 fu5) a1 v2_1 r27 μ_2))) else (X_5_237 μ_1)
def f_M_does (a1 : Int) (μ : Mem) (k : Mem → Prop) : Prop := ∀ v2 : Int, v2 = 6 * a1 → ∃ m5 : Nat, l_M_does_5 a1 (fun (μ_17 : Mem) => k μ_17) m5 v2 μ
theorem B_M_does_196 {l : Launch} {Γ : Gam} {g : Nat} {R_5 : Int → Mem → Prop} {k : Mem → Prop} {v1_1 : Int} {v2_3 : Int} {v3_1 : Int} {μ_8 : Mem} (hR_5 : ∀ (u2 : Int) (ν : Mem), StatR ν.2.2 → R_5 u2 ν → SW l Γ yX12_does.cls cX12_does Y_M_does (pV k) g 175 0 0 ν 5 [(0, vr Γ 113), (1, vi v1_1), (2, vi u2)] []) (hs : StatR μ_8.2.2) (h : b_M_does_196 R_5 v1_1 v2_3 v3_1 μ_8) : SW l Γ yX12_does.cls cX12_does Y_M_does (pV k) g 175 0 0 μ_8 196 [(0, vr Γ 113), (1, vi v1_1), (2, vi v2_3), (3, vi v3_1)] [] := by
  unfold b_M_does_196 at h
  refine z_rload_n dX12_does_196 rfl 0 rfl ?_
  refine z_getR (q := 15477) ff_12_13 dX12_does_197 kt_113 (Nat.le_of_ble_eq_true rfl) fl_X12_35 rfl (hs.1 _ _ sr_15477) ?_
  refine z_iload_n dX12_does_200 rfl 2 rfl ?_
  obtain ⟨h0, h1, h⟩ := h
  refine z_iald dX12_does_201 kt_120 (Nat.le_of_ble_eq_true rfl) h0 h1 ?_
  refine z_iconst dX12_does_202 ?_
  refine z_icmp_ne (tgt := 231) dX12_does_203 (by decide) h (fun h => ?_) (fun h => ?_)
  · refine z_iload_n dX12_does_206 rfl 3 rfl ?_
    refine z_iconst dX12_does_207 ?_
    refine z_icmp_eq (tgt := 231) dX12_does_208 (by decide) h (fun h => ?_) (fun h => ?_)
    · refine z_iinc (j := 2) (lv' := [(2, vi (v2_3 + 1)), (0, vr Γ 113), (1, vi v1_1), (3, vi v3_1)]) dX12_does_231 rfl (Nat.le_of_ble_eq_true rfl) rfl ?_
      refine z_goto (tgt := 5) dX12_does_234 (by decide) ?_
      refine z_sub (lv' := [(0, vr Γ 113), (1, vi v1_1), (2, vi (v2_3 + 1))]) [1, 2, 0] rfl ?_
      exact hR_5 (v2_3 + 1) μ_8 hs h
    · refine z_rload_n dX12_does_211 rfl 0 rfl ?_
      refine z_getR (q := 15530) ff_12_66 dX12_does_212 kt_113 (Nat.le_of_ble_eq_true rfl) fl_X12_152 rfl (hs.1 _ _ sr_15530) ?_
      refine z_iload_n dX12_does_215 rfl 3 rfl ?_
      refine z_rload_n dX12_does_216 rfl 0 rfl ?_
      refine z_getR (q := 15530) ff_12_66 dX12_does_217 kt_113 (Nat.le_of_ble_eq_true rfl) fl_X12_152 rfl (hs.1 _ _ sr_15530) ?_
      refine z_iload_n dX12_does_220 rfl 3 rfl ?_
      obtain ⟨h0, h1, h⟩ := h
      refine z_iald dX12_does_221 kt_155 (Nat.le_of_ble_eq_true rfl) h0 h1 ?_
      refine z_ineg dX12_does_222 ?_
      obtain ⟨h0, h1, h⟩ := h
      refine z_iast dX12_does_223 kt_155 (Nat.le_of_ble_eq_true rfl) h0 h1 ?_
      refine z_mm (fun μ_9 eμ_9 => ?_)
      replace h := h μ_9 eμ_9
      replace hs : StatR μ_9.2.2 := by rw [eμ_9]; exact hs
      refine z_rload_n dX12_does_224 rfl 0 rfl ?_
      refine z_getR (q := 15532) ff_12_68 dX12_does_225 kt_113 (Nat.le_of_ble_eq_true rfl) fl_X12_158 rfl (hs.1 _ _ sr_15532) ?_
      refine z_iload_n dX12_does_228 rfl 3 rfl ?_
      refine z_iload_n dX12_does_229 rfl 1 rfl ?_
      obtain ⟨h0, h1, h⟩ := h
      refine z_iast dX12_does_230 kt_157 (Nat.le_of_ble_eq_true rfl) h0 h1 ?_
      refine z_mm (fun μ_10 eμ_10 => ?_)
      replace h := h μ_10 eμ_10
      replace hs : StatR μ_10.2.2 := by rw [eμ_10]; exact hs
      refine z_iinc (j := 2) (lv' := [(2, vi (v2_3 + 1)), (0, vr Γ 113), (1, vi v1_1), (3, vi v3_1)]) dX12_does_231 rfl (Nat.le_of_ble_eq_true rfl) rfl ?_
      refine z_goto (tgt := 5) dX12_does_234 (by decide) ?_
      refine z_sub (lv' := [(0, vr Γ 113), (1, vi v1_1), (2, vi (v2_3 + 1))]) [1, 2, 0] rfl ?_
      exact hR_5 (v2_3 + 1) μ_10 hs h
  · refine z_iinc (j := 2) (lv' := [(2, vi (v2_3 + 1)), (0, vr Γ 113), (1, vi v1_1), (3, vi v3_1)]) dX12_does_231 rfl (Nat.le_of_ble_eq_true rfl) rfl ?_
    refine z_goto (tgt := 5) dX12_does_234 (by decide) ?_
    refine z_sub (lv' := [(0, vr Γ 113), (1, vi v1_1), (2, vi (v2_3 + 1))]) [1, 2, 0] rfl ?_
    exact hR_5 (v2_3 + 1) μ_8 hs h
theorem B_M_does_124 {l : Launch} {Γ : Gam} {g : Nat} {R_5 : Int → Mem → Prop} {k : Mem → Prop} {v1 : Int} {v2_2 : Int} {v3 : Int} {μ_3 : Mem} (hR_5 : ∀ (u2 : Int) (ν : Mem), StatR ν.2.2 → R_5 u2 ν → SW l Γ yX12_does.cls cX12_does Y_M_does (pV k) g 175 0 0 ν 5 [(0, vr Γ 113), (1, vi v1), (2, vi u2)] []) (hs : StatR μ_3.2.2) (h : b_M_does_124 R_5 v1 v2_2 v3 μ_3) : SW l Γ yX12_does.cls cX12_does Y_M_does (pV k) g 175 0 0 μ_3 124 [(0, vr Γ 113), (1, vi v1), (2, vi v2_2), (3, vi v3)] [] := by
  unfold b_M_does_124 at h
  refine z_rload_n dX12_does_124 rfl 0 rfl ?_
  refine z_getR (q := 15477) ff_12_13 dX12_does_125 kt_113 (Nat.le_of_ble_eq_true rfl) fl_X12_35 rfl (hs.1 _ _ sr_15477) ?_
  refine z_iload_n dX12_does_128 rfl 2 rfl ?_
  obtain ⟨h0, h1, h⟩ := h
  refine z_iald dX12_does_129 kt_120 (Nat.le_of_ble_eq_true rfl) h0 h1 ?_
  refine z_iconst dX12_does_130 ?_
  refine z_icmp_ne (tgt := 196) dX12_does_131 (by decide) h (fun h => ?_) (fun h => ?_)
  · refine z_iload_n dX12_does_134 rfl 3 rfl ?_
    refine z_iconst dX12_does_135 ?_
    refine z_icmp_ne (tgt := 196) dX12_does_136 (by decide) h (fun h => ?_) (fun h => ?_)
    · refine z_rload_n dX12_does_139 rfl 0 rfl ?_
      refine z_getI (q := 15533) ff_12_69 dX12_does_140 kt_113 (Nat.le_of_ble_eq_true rfl) fl_X12_483 rfl ?_
      refine z_bipush dX12_does_143 (by decide) ?_
      refine z_icmp_ge (tgt := 196) dX12_does_145 (by decide) h (fun h => ?_) (fun h => ?_)
      · refine z_rload_n dX12_does_148 rfl 0 rfl ?_
        refine z_getR (q := 15530) ff_12_66 dX12_does_149 kt_113 (Nat.le_of_ble_eq_true rfl) fl_X12_152 rfl (hs.1 _ _ sr_15530) ?_
        refine z_rload_n dX12_does_152 rfl 0 rfl ?_
        refine z_getI (q := 15533) ff_12_69 dX12_does_153 kt_113 (Nat.le_of_ble_eq_true rfl) fl_X12_483 rfl ?_
        refine z_rload_n dX12_does_156 rfl 0 rfl ?_
        refine z_getR (q := 15478) ff_12_14 dX12_does_157 kt_113 (Nat.le_of_ble_eq_true rfl) fl_X12_38 rfl (hs.1 _ _ sr_15478) ?_
        refine z_iload_n dX12_does_160 rfl 2 rfl ?_
        obtain ⟨h0, h1, h⟩ := h
        refine z_iald dX12_does_161 kt_121 (Nat.le_of_ble_eq_true rfl) h0 h1 ?_
        obtain ⟨h0, h1, h⟩ := h
        refine z_iast dX12_does_162 kt_155 (Nat.le_of_ble_eq_true rfl) h0 h1 ?_
        refine z_mm (fun μ_4 eμ_4 => ?_)
        replace h := h μ_4 eμ_4
        replace hs : StatR μ_4.2.2 := by rw [eμ_4]; exact hs
        refine z_rload_n dX12_does_163 rfl 0 rfl ?_
        refine z_getR (q := 15531) ff_12_67 dX12_does_164 kt_113 (Nat.le_of_ble_eq_true rfl) fl_X12_155 rfl (hs.1 _ _ sr_15531) ?_
        refine z_rload_n dX12_does_167 rfl 0 rfl ?_
        refine z_getI (q := 15533) ff_12_69 dX12_does_168 kt_113 (Nat.le_of_ble_eq_true rfl) fl_X12_483 rfl ?_
        refine z_iconst dX12_does_171 ?_
        obtain ⟨h0, h1, h⟩ := h
        refine z_zast (b := false) dX12_does_172 kt_156 (Nat.le_of_ble_eq_true rfl) h0 h1 ?_
        refine z_mm (fun μ_5 eμ_5 => ?_)
        replace h := h μ_5 eμ_5
        replace hs : StatR μ_5.2.2 := by rw [eμ_5]; exact hs
        refine z_rload_n dX12_does_173 rfl 0 rfl ?_
        refine z_getR (q := 15532) ff_12_68 dX12_does_174 kt_113 (Nat.le_of_ble_eq_true rfl) fl_X12_158 rfl (hs.1 _ _ sr_15532) ?_
        refine z_rload_n dX12_does_177 rfl 0 rfl ?_
        refine z_getI (q := 15533) ff_12_69 dX12_does_178 kt_113 (Nat.le_of_ble_eq_true rfl) fl_X12_483 rfl ?_
        refine z_iload_n dX12_does_181 rfl 1 rfl ?_
        obtain ⟨h0, h1, h⟩ := h
        refine z_iast dX12_does_182 kt_157 (Nat.le_of_ble_eq_true rfl) h0 h1 ?_
        refine z_mm (fun μ_6 eμ_6 => ?_)
        replace h := h μ_6 eμ_6
        replace hs : StatR μ_6.2.2 := by rw [eμ_6]; exact hs
        refine z_rload_n dX12_does_183 rfl 0 rfl ?_
        refine z_dup dX12_does_184 rfl ?_
        refine z_getI (q := 15533) ff_12_69 dX12_does_185 kt_113 (Nat.le_of_ble_eq_true rfl) fl_X12_483 rfl ?_
        refine z_iconst dX12_does_188 ?_
        refine z_iadd dX12_does_189 ?_
        refine z_putI (q := 15533) ff_12_69 (Or.inl rfl) rfl dX12_does_190 kt_113 (Nat.le_of_ble_eq_true rfl) fl_X12_483 rfl ?_
        refine z_mm (fun μ_7 eμ_7 => ?_)
        replace h := h μ_7 eμ_7
        replace hs : StatR μ_7.2.2 := by rw [eμ_7]; exact hs
        refine z_goto (tgt := 231) dX12_does_193 (by decide) ?_
        refine z_iinc (j := 2) (lv' := [(2, vi (v2_2 + 1)), (0, vr Γ 113), (1, vi v1), (3, vi v3)]) dX12_does_231 rfl (Nat.le_of_ble_eq_true rfl) rfl ?_
        refine z_goto (tgt := 5) dX12_does_234 (by decide) ?_
        refine z_sub (lv' := [(0, vr Γ 113), (1, vi v1), (2, vi (v2_2 + 1))]) [1, 2, 0] rfl ?_
        exact hR_5 (v2_2 + 1) μ_7 hs h
      · refine z_sub (lv' := [(0, vr Γ 113), (1, vi v1), (2, vi v2_2), (3, vi v3)]) [0, 1, 2, 3] rfl ?_
        exact B_M_does_196 hR_5 hs h
    · refine z_sub (lv' := [(0, vr Γ 113), (1, vi v1), (2, vi v2_2), (3, vi v3)]) [0, 1, 2, 3] rfl ?_
      exact B_M_does_196 hR_5 hs h
  · refine z_sub (lv' := [(0, vr Γ 113), (1, vi v1), (2, vi v2_2), (3, vi v3)]) [0, 1, 2, 3] rfl ?_
    exact B_M_does_196 hR_5 hs h
theorem L_M_does_58 {l : Launch} {Γ : Gam} {g : Nat} {a1 : Int} {v2_1 : Int} {X_58_121 : Mem → Prop} {k : Mem → Prop} (hX_58_121 : ∀ (ν : Mem), StatR ν.2.2 → X_58_121 ν → SW l Γ yX12_does.cls cX12_does Y_M_does (pV k) g 175 0 0 ν 121 [(0, vr Γ 113), (1, vi a1), (2, vi v2_1)] []) (n9 : Nat) : ∀ (v4 : Int) (μ_12 : Mem), StatR μ_12.2.2 → l_M_does_58 a1 v2_1 X_58_121 n9 v4 μ_12 → SW l Γ yX12_does.cls cX12_does Y_M_does (pV k) g 175 0 0 μ_12 58 [(0, vr Γ 113), (1, vi a1), (2, vi v2_1), (4, vi v4)] [] := by
  induction n9 with
  | zero =>
    intro v4 μ_12 hs h
    exact h.elim
  | succ n9 hR_58 =>
    intro v4 μ_12 hs h
    rw [l_M_does_58] at h
    refine z_iload dX12_does_58 3 rfl ?_
    refine z_rload_n dX12_does_60 rfl 0 rfl ?_
    refine z_getI (q := 15533) ff_12_69 dX12_does_61 kt_113 (Nat.le_of_ble_eq_true rfl) fl_X12_483 rfl ?_
    refine z_icmp_ge (tgt := 121) dX12_does_64 (by decide) h (fun h => ?_) (fun h => ?_)
    · refine z_rload_n dX12_does_67 rfl 0 rfl ?_
      refine z_getR (q := 15530) ff_12_66 dX12_does_68 kt_113 (Nat.le_of_ble_eq_true rfl) fl_X12_152 rfl (hs.1 _ _ sr_15530) ?_
      refine z_iload dX12_does_71 3 rfl ?_
      refine z_rload_n dX12_does_73 rfl 0 rfl ?_
      refine z_getR (q := 15530) ff_12_66 dX12_does_74 kt_113 (Nat.le_of_ble_eq_true rfl) fl_X12_152 rfl (hs.1 _ _ sr_15530) ?_
      refine z_iload dX12_does_77 3 rfl ?_
      refine z_iconst dX12_does_79 ?_
      refine z_iadd dX12_does_80 ?_
      obtain ⟨h0, h1, h⟩ := h
      refine z_iald dX12_does_81 kt_155 (Nat.le_of_ble_eq_true rfl) h0 h1 ?_
      obtain ⟨h0, h1, h⟩ := h
      refine z_iast dX12_does_82 kt_155 (Nat.le_of_ble_eq_true rfl) h0 h1 ?_
      refine z_mm (fun μ_13 eμ_13 => ?_)
      replace h := h μ_13 eμ_13
      replace hs : StatR μ_13.2.2 := by rw [eμ_13]; exact hs
      refine z_rload_n dX12_does_83 rfl 0 rfl ?_
      refine z_getR (q := 15531) ff_12_67 dX12_does_84 kt_113 (Nat.le_of_ble_eq_true rfl) fl_X12_155 rfl (hs.1 _ _ sr_15531) ?_
      refine z_iload dX12_does_87 3 rfl ?_
      refine z_rload_n dX12_does_89 rfl 0 rfl ?_
      refine z_getR (q := 15531) ff_12_67 dX12_does_90 kt_113 (Nat.le_of_ble_eq_true rfl) fl_X12_155 rfl (hs.1 _ _ sr_15531) ?_
      refine z_iload dX12_does_93 3 rfl ?_
      refine z_iconst dX12_does_95 ?_
      refine z_iadd dX12_does_96 ?_
      obtain ⟨h0, h1, h⟩ := h
      refine z_zald dX12_does_97 kt_156 (Nat.le_of_ble_eq_true rfl) h0 h1 ?_
      obtain ⟨h0, h1, h⟩ := h
      refine z_zast dX12_does_98 kt_156 (Nat.le_of_ble_eq_true rfl) h0 h1 ?_
      refine z_mm (fun μ_14 eμ_14 => ?_)
      replace h := h μ_14 eμ_14
      replace hs : StatR μ_14.2.2 := by rw [eμ_14]; exact hs
      refine z_rload_n dX12_does_99 rfl 0 rfl ?_
      refine z_getR (q := 15532) ff_12_68 dX12_does_100 kt_113 (Nat.le_of_ble_eq_true rfl) fl_X12_158 rfl (hs.1 _ _ sr_15532) ?_
      refine z_iload dX12_does_103 3 rfl ?_
      refine z_rload_n dX12_does_105 rfl 0 rfl ?_
      refine z_getR (q := 15532) ff_12_68 dX12_does_106 kt_113 (Nat.le_of_ble_eq_true rfl) fl_X12_158 rfl (hs.1 _ _ sr_15532) ?_
      refine z_iload dX12_does_109 3 rfl ?_
      refine z_iconst dX12_does_111 ?_
      refine z_iadd dX12_does_112 ?_
      obtain ⟨h0, h1, h⟩ := h
      refine z_iald dX12_does_113 kt_157 (Nat.le_of_ble_eq_true rfl) h0 h1 ?_
      obtain ⟨h0, h1, h⟩ := h
      refine z_iast dX12_does_114 kt_157 (Nat.le_of_ble_eq_true rfl) h0 h1 ?_
      refine z_mm (fun μ_15 eμ_15 => ?_)
      replace h := h μ_15 eμ_15
      replace hs : StatR μ_15.2.2 := by rw [eμ_15]; exact hs
      refine z_iinc (j := 3) (lv' := [(4, vi (v4 + 1)), (0, vr Γ 113), (1, vi a1), (2, vi v2_1)]) dX12_does_115 rfl (Nat.le_of_ble_eq_true rfl) rfl ?_
      refine z_goto (tgt := 58) dX12_does_118 (by decide) ?_
      refine z_sub (lv' := [(0, vr Γ 113), (1, vi a1), (2, vi v2_1), (4, vi (v4 + 1))]) [1, 2, 3, 0] rfl ?_
      exact hR_58 (v4 + 1) μ_15 hs h
    · refine z_sub (lv' := [(0, vr Γ 113), (1, vi a1), (2, vi v2_1)]) [0, 1, 2] rfl ?_
      exact hX_58_121 μ_12 hs h
theorem L_M_does_5 {l : Launch} {Γ : Gam} {g : Nat} {a1 : Int} {X_5_237 : Mem → Prop} {k : Mem → Prop} (hX_5_237 : ∀ (ν : Mem), StatR ν.2.2 → X_5_237 ν → SW l Γ yX12_does.cls cX12_does Y_M_does (pV k) g 175 0 0 ν 237 [] []) (n9 : Nat) : ∀ (v2_1 : Int) (μ_1 : Mem), StatR μ_1.2.2 → l_M_does_5 a1 X_5_237 n9 v2_1 μ_1 → SW l Γ yX12_does.cls cX12_does Y_M_does (pV k) g 175 0 0 μ_1 5 [(0, vr Γ 113), (1, vi a1), (2, vi v2_1)] [] := by
  induction n9 with
  | zero =>
    intro v2_1 μ_1 hs h
    exact h.elim
  | succ n9 hR_5 =>
    intro v2_1 μ_1 hs h
    rw [l_M_does_5] at h
    refine z_iload_n dX12_does_5 rfl 2 rfl ?_
    refine z_bipush dX12_does_6 (by decide) ?_
    refine z_iload_n dX12_does_8 rfl 1 rfl ?_
    refine z_imul dX12_does_9 ?_
    refine z_rload_n dX12_does_10 rfl 0 rfl ?_
    refine z_getR (q := 15476) ff_12_12 dX12_does_11 kt_113 (Nat.le_of_ble_eq_true rfl) fl_X12_32 rfl (hs.1 _ _ sr_15476) ?_
    refine z_iload_n dX12_does_14 rfl 1 rfl ?_
    obtain ⟨h0, h1, h⟩ := h
    refine z_iald dX12_does_15 kt_119 (Nat.le_of_ble_eq_true rfl) h0 h1 ?_
    refine z_iadd dX12_does_16 ?_
    refine z_icmp_ge (tgt := 237) dX12_does_17 (by decide) h (fun h => ?_) (fun h => ?_)
    · refine z_rload_n dX12_does_20 rfl 0 rfl ?_
      refine z_rload_n dX12_does_21 rfl 0 rfl ?_
      refine z_getR (q := 15478) ff_12_14 dX12_does_22 kt_113 (Nat.le_of_ble_eq_true rfl) fl_X12_38 rfl (hs.1 _ _ sr_15478) ?_
      refine z_iload_n dX12_does_25 rfl 2 rfl ?_
      obtain ⟨h0, h1, h⟩ := h
      refine z_iald dX12_does_26 kt_121 (Nat.le_of_ble_eq_true rfl) h0 h1 ?_
      refine z_VI (i_M_inRow  hs h) vk_X12_inRow kt_113 (Nat.le_of_ble_eq_true rfl) rfl ml_X12_486 ⟨Nat.le_of_ble_eq_true rfl, Nat.le_of_ble_eq_true rfl⟩ ⟨Nat.zero_le _, Nat.zero_le _⟩ rfl rfl (Nat.le_of_ble_eq_true rfl) dX12_does_27 (fun r27 μ_2 hs h => ?_)
      refine z_istore_n (lv' := [(3, vi r27), (0, vr Γ 113), (1, vi a1), (2, vi v2_1)]) dX12_does_30 rfl (Nat.le_of_ble_eq_true rfl) rfl ?_
      refine z_rload_n dX12_does_31 rfl 1 rfl ?_
      refine z_getR (q := 15477) ff_12_13 dX12_does_32 kt_113 (Nat.le_of_ble_eq_true rfl) fl_X12_35 rfl (hs.1 _ _ sr_15477) ?_
      refine z_iload_n dX12_does_35 rfl 3 rfl ?_
      obtain ⟨h0, h1, h⟩ := h
      refine z_iald dX12_does_36 kt_120 (Nat.le_of_ble_eq_true rfl) h0 h1 ?_
      refine z_if_ne (tgt := 124) dX12_does_37 (by decide) h (fun h => ?_) (fun h => ?_)
      · refine z_iload_n dX12_does_40 rfl 0 rfl ?_
        refine z_iconst dX12_does_41 ?_
        refine z_icmp_eq (tgt := 124) dX12_does_42 (by decide) h (fun h => ?_) (fun h => ?_)
        · refine z_sub (lv' := [(0, vr Γ 113), (1, vi a1), (2, vi v2_1), (3, vi r27)]) [1, 2, 3, 0] rfl ?_
          exact B_M_does_124 hR_5 hs h
        · refine z_rload_n dX12_does_45 rfl 1 rfl ?_
          refine z_dup dX12_does_46 rfl ?_
          refine z_getI (q := 15533) ff_12_69 dX12_does_47 kt_113 (Nat.le_of_ble_eq_true rfl) fl_X12_483 rfl ?_
          refine z_iconst dX12_does_50 ?_
          refine z_isub dX12_does_51 ?_
          refine z_putI (q := 15533) ff_12_69 (Or.inl rfl) rfl dX12_does_52 kt_113 (Nat.le_of_ble_eq_true rfl) fl_X12_483 rfl ?_
          refine z_mm (fun μ_11 eμ_11 => ?_)
          replace h := h μ_11 eμ_11
          replace hs : StatR μ_11.2.2 := by rw [eμ_11]; exact hs
          refine z_iload_n dX12_does_55 rfl 0 rfl ?_
          refine z_istore (lv' := [(4, vi r27), (3, vi r27), (0, vr Γ 113), (1, vi a1), (2, vi v2_1)]) dX12_does_56 (Nat.le_of_ble_eq_true rfl) rfl ?_
          obtain ⟨m58, h⟩ := h
          refine z_sub (lv' := [(0, vr Γ 113), (1, vi a1), (2, vi v2_1), (4, vi r27)]) [2, 3, 4, 0] rfl ?_
          refine L_M_does_58 (fun μ_16 hs h => ?_) m58 r27 μ_11 hs h
          refine z_goto (tgt := 231) dX12_does_121 (by decide) ?_
          refine z_iinc (j := 2) (lv' := [(2, vi (v2_1 + 1)), (0, vr Γ 113), (1, vi a1)]) dX12_does_231 rfl (Nat.le_of_ble_eq_true rfl) rfl ?_
          refine z_goto (tgt := 5) dX12_does_234 (by decide) ?_
          refine z_sub (lv' := [(0, vr Γ 113), (1, vi a1), (2, vi (v2_1 + 1))]) [1, 2, 0] rfl ?_
          exact hR_5 (v2_1 + 1) μ_16 hs h
      · refine z_sub (lv' := [(0, vr Γ 113), (1, vi a1), (2, vi v2_1), (3, vi r27)]) [1, 2, 3, 0] rfl ?_
        exact B_M_does_124 hR_5 hs h
    · refine z_sub (lv' := []) [] rfl ?_
      exact hX_5_237 μ_1 hs h
theorem i_M_does {l : Launch} {Γ : Gam} {g : Nat} {a1 : Int} {μ : Mem} {k : Mem → Prop} (hs : StatR μ.2.2) (h : f_M_does a1 μ k) : CT l Γ yX12_does cX12_does 5 none 1 22 0 0 [vr Γ 113, vi a1] g 175 μ (pV k) := by
  refine SW.ct (by decide) (Nat.le_of_ble_eq_true rfl) ?_
  refine z_sub (lv' := [(0, vr Γ 113), (1, vi a1)]) [0, 1] rfl ?_
  show SW l Γ yX12_does.cls cX12_does Y_M_does (pV k) g 175 0 0 μ 0 [(0, vr Γ 113), (1, vi a1)] []
  unfold f_M_does at h
  refine z_bipush dX12_does_0 (by decide) ?_
  refine z_iload_n dX12_does_2 rfl 1 rfl ?_
  refine z_imul dX12_does_3 ?_
  refine z_nm (fun v2 ev2 => ?_)
  replace h := h v2 ev2
  refine z_istore_n (lv' := [(2, vi v2), (0, vr Γ 113), (1, vi a1)]) dX12_does_4 rfl (Nat.le_of_ble_eq_true rfl) rfl ?_
  obtain ⟨m5, h⟩ := h
  refine z_sub (lv' := [(0, vr Γ 113), (1, vi a1), (2, vi v2)]) [1, 2, 0] rfl ?_
  refine L_M_does_5 (fun μ_17 hs h => ?_) m5 v2 μ hs h
  exact z_vret rfl dX12_does_237 rfl rfl rfl ⟨rfl, hs, h⟩
def v_M_size (a1 : Int) : Int := if w a1 < 0 then (-a1) else a1
theorem i_M_size {l : Launch} {Γ : Gam} {g : Nat} {μ : Mem} {a1 : Int} : CT l Γ yX12_size cX12_size 1 (some .int) 0 0 0 0 [vi a1] g 175 μ (pE (vi (v_M_size a1)) μ) := by
  refine SW.ct (by decide) (Nat.le_of_ble_eq_true rfl) ?_
  refine z_sub (lv' := [(0, vi a1)]) [0] rfl ?_
  have hv : v_M_size a1 = v_M_size a1 := rfl
  refine z_iload_n dX12_size_0 rfl 0 rfl ?_
  refine z_if_ge (tgt := 9) dX12_size_1 (by decide) (eq_ite hv) (fun hv => ?_) (fun hv => ?_)
  · refine z_iload_n dX12_size_4 rfl 0 rfl ?_
    refine z_ineg dX12_size_5 ?_
    refine z_goto (tgt := 10) dX12_size_6 (by decide) ?_
    exact z_iret rfl dX12_size_10 rfl rfl rfl ⟨by first | (rw [hv]; done) | rfl, rfl⟩
  · refine z_iload_n dX12_size_9 rfl 0 rfl ?_
    exact z_iret rfl dX12_size_10 rfl rfl rfl ⟨by first | (rw [hv]; done) | rfl, rfl⟩
abbrev Y_M_against : Yt := (4, (some .int), yX12_against.name, { frames := 1, cells := 0, slots := 0, locals := 20 }, 175, 0, 0)
def l_M_against_2 (a1 : Nat) (n1 : Nat) (μ : Mem) (k : Int → Mem → Prop) : Nat → Int → Prop
  | 0, _ => False
  | fu2 + 1, v2 => if w v2 < w (rI μ 15533 0) then (0 ≤ w v2 ∧ w v2 < ((12 : Nat) : Int) ∧ 0 ≤ w (v_M_size (rI μ 155 (w v2))) ∧ w (v_M_size (rI μ 155 (w v2))) < ((n1 : Nat) : Int) ∧ ∀ v3 : Int, v3 = rI μ a1 (w (v_M_size (rI μ 155 (w v2)))) → if w v3 = 0 then ((l_M_against_2 a1 n1 μ k fu2) (v2 + 1)) else (∀ x35 : Int, x35 = (if 0 < w v3 then 1 else 0) → 0 ≤ w v2 ∧ w v2 < ((12 : Nat) : Int) ∧ ∀ x49 : Int, x49 = (if 0 < w (rI μ 155 (w v2)) then 1 else 0) → if w x35 = w x49 then ((l_M_against_2 a1 n1 μ k fu2) (v2 + 1)) else (k 1 μ))) else (k 0 μ)
def f_M_against (a1 n1 : Nat) (μ : Mem) (k : Int → Mem → Prop) : Prop := ∃ m2 : Nat, l_M_against_2 a1 n1 μ k m2 0
theorem L_M_against_2 {l : Launch} {Γ : Gam} {g : Nat} {a1 : Nat} {n1 : Nat} {μ : Mem} {k : Int → Mem → Prop} (ka1 : KT a1 = (1, n1)) (la1 : a1 < 175) (hs : StatR μ.2.2) (n9 : Nat) : ∀ (v2 : Int), l_M_against_2 a1 n1 μ k n9 v2 → SW l Γ yX12_against.cls cX12_against Y_M_against (pI k) g 175 0 0 μ 2 [(0, vr Γ 113), (1, vr Γ a1), (2, vi v2)] [] := by
  induction n9 with
  | zero =>
    intro v2 h
    exact h.elim
  | succ n9 hR_2 =>
    intro v2 h
    rw [l_M_against_2] at h
    refine z_iload_n dX12_against_2 rfl 2 rfl ?_
    refine z_rload_n dX12_against_3 rfl 0 rfl ?_
    refine z_getI (q := 15533) ff_12_69 dX12_against_4 kt_113 (Nat.le_of_ble_eq_true rfl) fl_X12_483 rfl ?_
    refine z_icmp_ge (tgt := 60) dX12_against_7 (by decide) h (fun h => ?_) (fun h => ?_)
    · refine z_rload_n dX12_against_10 rfl 1 rfl ?_
      refine z_rload_n dX12_against_11 rfl 0 rfl ?_
      refine z_getR (q := 15530) ff_12_66 dX12_against_12 kt_113 (Nat.le_of_ble_eq_true rfl) fl_X12_152 rfl (hs.1 _ _ sr_15530) ?_
      refine z_iload_n dX12_against_15 rfl 2 rfl ?_
      obtain ⟨h0, h1, h⟩ := h
      refine z_iald dX12_against_16 kt_155 (Nat.le_of_ble_eq_true rfl) h0 h1 ?_
      refine z_SE (i_M_size ) sk_X12_size ml_X12_489 ⟨Nat.le_of_ble_eq_true rfl, Nat.le_of_ble_eq_true rfl⟩ ⟨Nat.zero_le _, Nat.zero_le _⟩ rfl rfl (Nat.le_of_ble_eq_true rfl) dX12_against_17 ?_
      obtain ⟨h0, h1, h⟩ := h
      refine z_iald dX12_against_20 ka1 la1 h0 h1 ?_
      refine z_nm (fun v3 ev3 => ?_)
      replace h := h v3 ev3
      refine z_istore_n (lv' := [(3, vi v3), (0, vr Γ 113), (1, vr Γ a1), (2, vi v2)]) dX12_against_21 rfl (Nat.le_of_ble_eq_true rfl) rfl ?_
      refine z_iload_n dX12_against_22 rfl 0 rfl ?_
      refine z_if_eq (tgt := 54) dX12_against_23 (by decide) h (fun h => ?_) (fun h => ?_)
      · refine z_iinc (j := 3) (lv' := [(2, vi (v2 + 1)), (3, vi v3), (0, vr Γ 113), (1, vr Γ a1)]) dX12_against_54 rfl (Nat.le_of_ble_eq_true rfl) rfl ?_
        refine z_goto (tgt := 2) dX12_against_57 (by decide) ?_
        refine z_sub (lv' := [(0, vr Γ 113), (1, vr Γ a1), (2, vi (v2 + 1))]) [2, 3, 0] rfl ?_
        exact hR_2 (v2 + 1) h
      · refine z_iload_n dX12_against_26 rfl 0 rfl ?_
        refine z_phi 35 [] (fun V9 hv J9 => ?_) h (fun x35 h => ?_)
        · refine z_if_le (tgt := 34) dX12_against_27 (by decide) (eq_ite hv) (fun hv => ?_) (fun hv => ?_)
          · refine z_iconst dX12_against_30 ?_
            refine z_goto (tgt := 35) dX12_against_31 (by decide) ?_
            exact J9 _ hv.symm
          · refine z_iconst dX12_against_34 ?_
            exact J9 _ hv.symm
        · refine z_rload_n dX12_against_35 rfl 1 rfl ?_
          refine z_getR (q := 15530) ff_12_66 dX12_against_36 kt_113 (Nat.le_of_ble_eq_true rfl) fl_X12_152 rfl (hs.1 _ _ sr_15530) ?_
          refine z_iload_n dX12_against_39 rfl 3 rfl ?_
          obtain ⟨h0, h1, h⟩ := h
          refine z_iald dX12_against_40 kt_155 (Nat.le_of_ble_eq_true rfl) h0 h1 ?_
          refine z_phi 49 [vi x35] (fun V9 hv J9 => ?_) h (fun x49 h => ?_)
          · refine z_if_le (tgt := 48) dX12_against_41 (by decide) (eq_ite hv) (fun hv => ?_) (fun hv => ?_)
            · refine z_iconst dX12_against_44 ?_
              refine z_goto (tgt := 49) dX12_against_45 (by decide) ?_
              exact J9 _ hv.symm
            · refine z_iconst dX12_against_48 ?_
              exact J9 _ hv.symm
          · refine z_icmp_eq (tgt := 54) dX12_against_49 (by decide) h (fun h => ?_) (fun h => ?_)
            · refine z_iinc (j := 3) (lv' := [(2, vi (v2 + 1)), (3, vi v3), (0, vr Γ 113), (1, vr Γ a1)]) dX12_against_54 rfl (Nat.le_of_ble_eq_true rfl) rfl ?_
              refine z_goto (tgt := 2) dX12_against_57 (by decide) ?_
              refine z_sub (lv' := [(0, vr Γ 113), (1, vr Γ a1), (2, vi (v2 + 1))]) [2, 3, 0] rfl ?_
              exact hR_2 (v2 + 1) h
            · refine z_iconst dX12_against_52 ?_
              exact z_iret rfl dX12_against_53 rfl rfl rfl ⟨_, rfl, hs, h⟩
    · refine z_iconst dX12_against_60 ?_
      exact z_iret rfl dX12_against_61 rfl rfl rfl ⟨_, rfl, hs, h⟩
theorem i_M_against {l : Launch} {Γ : Gam} {g : Nat} {a1 n1 : Nat} {μ : Mem} {k : Int → Mem → Prop} (ka1 : KT a1 = (1, n1)) (la1 : a1 < 175) (hs : StatR μ.2.2) (h : f_M_against a1 n1 μ k) : CT l Γ yX12_against cX12_against 4 (some .int) 1 20 0 0 [vr Γ 113, vr Γ a1] g 175 μ (pI k) := by
  refine SW.ct (by decide) (Nat.le_of_ble_eq_true rfl) ?_
  refine z_sub (lv' := [(0, vr Γ 113), (1, vr Γ a1)]) [0, 1] rfl ?_
  show SW l Γ yX12_against.cls cX12_against Y_M_against (pI k) g 175 0 0 μ 0 [(0, vr Γ 113), (1, vr Γ a1)] []
  unfold f_M_against at h
  refine z_iconst dX12_against_0 ?_
  refine z_istore_n (lv' := [(2, vi 0), (0, vr Γ 113), (1, vr Γ a1)]) dX12_against_1 rfl (Nat.le_of_ble_eq_true rfl) rfl ?_
  obtain ⟨m2, h⟩ := h
  refine z_sub (lv' := [(0, vr Γ 113), (1, vr Γ a1), (2, vi 0)]) [1, 2, 0] rfl ?_
  refine L_M_against_2 ka1 la1 hs  m2 0 h
abbrev Y_M_againstOf : Yt := (3, (some .int), yX12_againstOf.name, { frames := 2, cells := 0, slots := 0, locals := 46 }, 175, 0, 0)
def f_M_againstOf (a1 : Int) (a2 n2 : Nat) (μ : Mem) (k : Int → Mem → Prop) : Prop := if w a1 < w 200 then (if w a1 < w 100 then (f_M_takesRow a1 μ (fun μ_1 => f_M_against a2 n2 μ_1 (fun r46 μ_2 => k r46 μ_2))) else (0 ≤ w (a1 - 100) ∧ w (a1 - 100) < ((40 : Nat) : Int) ∧ f_M_takesRow (rI μ 118 (w (a1 - 100))) μ (fun μ_3 => f_M_does (a1 - 100) μ_3 (fun μ_4 => f_M_against a2 n2 μ_4 (fun r46_1 μ_5 => k r46_1 μ_5))))) else (k 0 μ)
theorem i_M_againstOf {l : Launch} {Γ : Gam} {g : Nat} {a1 : Int} {a2 n2 : Nat} {μ : Mem} {k : Int → Mem → Prop} (ka2 : KT a2 = (1, n2)) (la2 : a2 < 175) (hs : StatR μ.2.2) (h : f_M_againstOf a1 a2 n2 μ k) : CT l Γ yX12_againstOf cX12_againstOf 3 (some .int) 2 46 0 0 [vr Γ 113, vi a1, vr Γ a2] g 175 μ (pI k) := by
  refine SW.ct (by decide) (Nat.le_of_ble_eq_true rfl) ?_
  refine z_sub (lv' := [(0, vr Γ 113), (1, vi a1), (2, vr Γ a2)]) [0, 1, 2] rfl ?_
  show SW l Γ yX12_againstOf.cls cX12_againstOf Y_M_againstOf (pI k) g 175 0 0 μ 0 [(0, vr Γ 113), (1, vi a1), (2, vr Γ a2)] []
  unfold f_M_againstOf at h
  refine z_iload_n dX12_againstOf_0 rfl 1 rfl ?_
  refine z_sipush dX12_againstOf_1 (by decide) ?_
  refine z_icmp_lt (tgt := 9) dX12_againstOf_4 (by decide) h (fun h => ?_) (fun h => ?_)
  · refine z_iload_n dX12_againstOf_9 rfl 1 rfl ?_
    refine z_bipush dX12_againstOf_10 (by decide) ?_
    refine z_icmp_ge (tgt := 23) dX12_againstOf_12 (by decide) h (fun h => ?_) (fun h => ?_)
    · refine z_rload_n dX12_againstOf_15 rfl 0 rfl ?_
      refine z_iload_n dX12_againstOf_16 rfl 1 rfl ?_
      refine z_VU (i_M_takesRow  hs h) vk_X12_takesRow kt_113 (Nat.le_of_ble_eq_true rfl) rfl ml_X12_492 ⟨Nat.le_of_ble_eq_true rfl, Nat.le_of_ble_eq_true rfl⟩ ⟨Nat.zero_le _, Nat.zero_le _⟩ rfl rfl (Nat.le_of_ble_eq_true rfl) dX12_againstOf_17 (fun μ_1 hs h => ?_)
      refine z_goto (tgt := 44) dX12_againstOf_20 (by decide) ?_
      refine z_rload_n dX12_againstOf_44 rfl 0 rfl ?_
      refine z_rload_n dX12_againstOf_45 rfl 2 rfl ?_
      refine z_VI (i_M_against ka2 la2 hs h) vk_X12_against kt_113 (Nat.le_of_ble_eq_true rfl) rfl ml_X12_498 ⟨Nat.le_of_ble_eq_true rfl, Nat.le_of_ble_eq_true rfl⟩ ⟨Nat.zero_le _, Nat.zero_le _⟩ rfl rfl (Nat.le_of_ble_eq_true rfl) dX12_againstOf_46 (fun r46 μ_2 hs h => ?_)
      exact z_iret rfl dX12_againstOf_49 rfl rfl rfl ⟨_, rfl, hs, h⟩
    · refine z_rload_n dX12_againstOf_23 rfl 0 rfl ?_
      refine z_rload_n dX12_againstOf_24 rfl 0 rfl ?_
      refine z_getR (q := 15475) ff_12_11 dX12_againstOf_25 kt_113 (Nat.le_of_ble_eq_true rfl) fl_X12_29 rfl (hs.1 _ _ sr_15475) ?_
      refine z_iload_n dX12_againstOf_28 rfl 1 rfl ?_
      refine z_bipush dX12_againstOf_29 (by decide) ?_
      refine z_isub dX12_againstOf_31 ?_
      obtain ⟨h0, h1, h⟩ := h
      refine z_iald dX12_againstOf_32 kt_118 (Nat.le_of_ble_eq_true rfl) h0 h1 ?_
      refine z_VU (i_M_takesRow  hs h) vk_X12_takesRow kt_113 (Nat.le_of_ble_eq_true rfl) rfl ml_X12_492 ⟨Nat.le_of_ble_eq_true rfl, Nat.le_of_ble_eq_true rfl⟩ ⟨Nat.zero_le _, Nat.zero_le _⟩ rfl rfl (Nat.le_of_ble_eq_true rfl) dX12_againstOf_33 (fun μ_3 hs h => ?_)
      refine z_rload_n dX12_againstOf_36 rfl 0 rfl ?_
      refine z_iload_n dX12_againstOf_37 rfl 1 rfl ?_
      refine z_bipush dX12_againstOf_38 (by decide) ?_
      refine z_isub dX12_againstOf_40 ?_
      refine z_VU (i_M_does  hs h) vk_X12_does kt_113 (Nat.le_of_ble_eq_true rfl) rfl ml_X12_495 ⟨Nat.le_of_ble_eq_true rfl, Nat.le_of_ble_eq_true rfl⟩ ⟨Nat.zero_le _, Nat.zero_le _⟩ rfl rfl (Nat.le_of_ble_eq_true rfl) dX12_againstOf_41 (fun μ_4 hs h => ?_)
      refine z_rload_n dX12_againstOf_44 rfl 0 rfl ?_
      refine z_rload_n dX12_againstOf_45 rfl 2 rfl ?_
      refine z_VI (i_M_against ka2 la2 hs h) vk_X12_against kt_113 (Nat.le_of_ble_eq_true rfl) rfl ml_X12_498 ⟨Nat.le_of_ble_eq_true rfl, Nat.le_of_ble_eq_true rfl⟩ ⟨Nat.zero_le _, Nat.zero_le _⟩ rfl rfl (Nat.le_of_ble_eq_true rfl) dX12_againstOf_46 (fun r46_1 μ_5 hs h => ?_)
      exact z_iret rfl dX12_againstOf_49 rfl rfl rfl ⟨_, rfl, hs, h⟩
  · refine z_iconst dX12_againstOf_7 ?_
    exact z_iret rfl dX12_againstOf_8 rfl rfl rfl ⟨_, rfl, hs, h⟩
abbrev Y_M_passes : Yt := (5, (some .boolean), yX12_passes.name, { frames := 3, cells := 0, slots := 0, locals := 68 }, 175, 0, 0)
def f_M_passes (a1 : Int) (a2 : Int) (a3 n3 : Nat) (μ : Mem) (k : Bool → Mem → Prop) : Prop := ∀ x23 : Int, x23 = (if w a1 < w 100 then 0 else (if w a1 < w 200 then 1 else 2)) → f_M_clause x23 μ (fun r23 μ_1 => if w r23 = w (-1) then (∀ x51 : Bool, x51 = (if (rL μ_1 15526 0) < (rL μ_1 15525 0) then true else false) → k x51 μ_1) else (∀ μ_2 : Mem, μ_2 = sI μ_1 151 (w 0) (v_M_whole (rL μ_1 15525 0)) → ∀ μ_3 : Mem, μ_3 = sI μ_2 151 (w 1) (v_M_whole (rL μ_2 15526 0)) → ∀ μ_4 : Mem, μ_4 = sI μ_3 151 (w 2) (v_M_whole (rL μ_3 15527 0)) → ∀ μ_5 : Mem, μ_5 = sI μ_4 151 (w 3) (rI μ_4 15529 0) → f_M_againstOf a1 a3 n3 μ_5 (fun r109 μ_6 => ∀ μ_7 : Mem, μ_7 = sI μ_6 151 (w 4) r109 → ∀ μ_8 : Mem, μ_8 = sI μ_7 151 (w 5) a2 → f_M_works r23 μ_8 (fun r123 μ_9 => ∀ x135 : Bool, x135 = (if w r123 = w 1 then true else false) → k x135 μ_9))))
theorem i_M_passes {l : Launch} {Γ : Gam} {g : Nat} {a1 : Int} {a2 : Int} {a3 n3 : Nat} {μ : Mem} {k : Bool → Mem → Prop} (ka3 : KT a3 = (1, n3)) (la3 : a3 < 175) (hs : StatR μ.2.2) (h : f_M_passes a1 a2 a3 n3 μ k) : CT l Γ yX12_passes cX12_passes 5 (some .boolean) 3 68 0 0 [vr Γ 113, vi a1, vi a2, vr Γ a3] g 175 μ (pB k) := by
  refine SW.ct (by decide) (Nat.le_of_ble_eq_true rfl) ?_
  refine z_sub (lv' := [(0, vr Γ 113), (1, vi a1), (2, vi a2), (3, vr Γ a3)]) [0, 1, 2, 3] rfl ?_
  show SW l Γ yX12_passes.cls cX12_passes Y_M_passes (pB k) g 175 0 0 μ 0 [(0, vr Γ 113), (1, vi a1), (2, vi a2), (3, vr Γ a3)] []
  unfold f_M_passes at h
  refine z_rload_n dX12_passes_0 rfl 0 rfl ?_
  refine z_iload_n dX12_passes_1 rfl 1 rfl ?_
  refine z_bipush dX12_passes_2 (by decide) ?_
  refine z_phi 23 [vr Γ 113] (fun V9 hv J9 => ?_) h (fun x23 h => ?_)
  · refine z_icmp_ge (tgt := 11) dX12_passes_4 (by decide) (eq_ite hv) (fun hv => ?_) (fun hv => ?_)
    · refine z_iconst dX12_passes_7 ?_
      refine z_goto (tgt := 23) dX12_passes_8 (by decide) ?_
      exact J9 _ hv.symm
    · refine z_iload_n dX12_passes_11 rfl 1 rfl ?_
      refine z_sipush dX12_passes_12 (by decide) ?_
      refine z_icmp_ge (tgt := 22) dX12_passes_15 (by decide) (eq_ite hv) (fun hv => ?_) (fun hv => ?_)
      · refine z_iconst dX12_passes_18 ?_
        refine z_goto (tgt := 23) dX12_passes_19 (by decide) ?_
        exact J9 _ hv.symm
      · refine z_iconst dX12_passes_22 ?_
        exact J9 _ hv.symm
  · refine z_VI (i_M_clause  hs h) vk_X12_clause kt_113 (Nat.le_of_ble_eq_true rfl) rfl ml_X12_437 ⟨Nat.le_of_ble_eq_true rfl, Nat.le_of_ble_eq_true rfl⟩ ⟨Nat.zero_le _, Nat.zero_le _⟩ rfl rfl (Nat.le_of_ble_eq_true rfl) dX12_passes_23 (fun r23 μ_1 hs h => ?_)
    refine z_istore (lv' := [(4, vi r23), (0, vr Γ 113), (1, vi a1), (2, vi a2), (3, vr Γ a3)]) dX12_passes_26 (Nat.le_of_ble_eq_true rfl) rfl ?_
    refine z_iload dX12_passes_28 0 rfl ?_
    refine z_iconst dX12_passes_30 ?_
    refine z_icmp_ne (tgt := 52) dX12_passes_31 (by decide) h (fun h => ?_) (fun h => ?_)
    · refine z_rload_n dX12_passes_34 rfl 1 rfl ?_
      refine z_getJ (q := 15525) ff_12_61 dX12_passes_35 kt_113 (Nat.le_of_ble_eq_true rfl) fl_X12_466 rfl ?_
      refine z_rload_n dX12_passes_38 rfl 1 rfl ?_
      refine z_getJ (q := 15526) ff_12_62 dX12_passes_39 kt_113 (Nat.le_of_ble_eq_true rfl) fl_X12_468 rfl ?_
      refine z_phiB 51 [] (fun V9 hv J9 => ?_) h (fun x51 h => ?_)
      · refine z_lcmp_le (tgt := 50) dX12_passes_42 dX12_passes_43 (by decide) (eq_ite hv) (fun hv => ?_) (fun hv => ?_)
        · refine z_iconst dX12_passes_46 ?_
          refine z_goto (tgt := 51) dX12_passes_47 (by decide) ?_
          exact J9 true hv.symm
        · refine z_iconst dX12_passes_50 ?_
          exact J9 false hv.symm
      · exact z_zret (b := x51) rfl dX12_passes_51 rfl rfl rfl ⟨_, rfl, hs, h⟩
    · refine z_rload_n dX12_passes_52 rfl 1 rfl ?_
      refine z_getR (q := 15522) ff_12_58 dX12_passes_53 kt_113 (Nat.le_of_ble_eq_true rfl) fl_X12_139 rfl (hs.1 _ _ sr_15522) ?_
      refine z_iconst dX12_passes_56 ?_
      refine z_rload_n dX12_passes_57 rfl 1 rfl ?_
      refine z_getJ (q := 15525) ff_12_61 dX12_passes_58 kt_113 (Nat.le_of_ble_eq_true rfl) fl_X12_466 rfl ?_
      refine z_SE (i_M_whole ) sk_X12_whole ml_X12_476 ⟨Nat.le_of_ble_eq_true rfl, Nat.le_of_ble_eq_true rfl⟩ ⟨Nat.zero_le _, Nat.zero_le _⟩ rfl rfl (Nat.le_of_ble_eq_true rfl) dX12_passes_61 ?_
      refine z_iast dX12_passes_64 kt_151 (Nat.le_of_ble_eq_true rfl) (by decide) (by decide) ?_
      refine z_mm (fun μ_2 eμ_2 => ?_)
      replace h := h μ_2 eμ_2
      replace hs : StatR μ_2.2.2 := by rw [eμ_2]; exact hs
      refine z_rload_n dX12_passes_65 rfl 1 rfl ?_
      refine z_getR (q := 15522) ff_12_58 dX12_passes_66 kt_113 (Nat.le_of_ble_eq_true rfl) fl_X12_139 rfl (hs.1 _ _ sr_15522) ?_
      refine z_iconst dX12_passes_69 ?_
      refine z_rload_n dX12_passes_70 rfl 1 rfl ?_
      refine z_getJ (q := 15526) ff_12_62 dX12_passes_71 kt_113 (Nat.le_of_ble_eq_true rfl) fl_X12_468 rfl ?_
      refine z_SE (i_M_whole ) sk_X12_whole ml_X12_476 ⟨Nat.le_of_ble_eq_true rfl, Nat.le_of_ble_eq_true rfl⟩ ⟨Nat.zero_le _, Nat.zero_le _⟩ rfl rfl (Nat.le_of_ble_eq_true rfl) dX12_passes_74 ?_
      refine z_iast dX12_passes_77 kt_151 (Nat.le_of_ble_eq_true rfl) (by decide) (by decide) ?_
      refine z_mm (fun μ_3 eμ_3 => ?_)
      replace h := h μ_3 eμ_3
      replace hs : StatR μ_3.2.2 := by rw [eμ_3]; exact hs
      refine z_rload_n dX12_passes_78 rfl 1 rfl ?_
      refine z_getR (q := 15522) ff_12_58 dX12_passes_79 kt_113 (Nat.le_of_ble_eq_true rfl) fl_X12_139 rfl (hs.1 _ _ sr_15522) ?_
      refine z_iconst dX12_passes_82 ?_
      refine z_rload_n dX12_passes_83 rfl 1 rfl ?_
      refine z_getJ (q := 15527) ff_12_63 dX12_passes_84 kt_113 (Nat.le_of_ble_eq_true rfl) fl_X12_463 rfl ?_
      refine z_SE (i_M_whole ) sk_X12_whole ml_X12_476 ⟨Nat.le_of_ble_eq_true rfl, Nat.le_of_ble_eq_true rfl⟩ ⟨Nat.zero_le _, Nat.zero_le _⟩ rfl rfl (Nat.le_of_ble_eq_true rfl) dX12_passes_87 ?_
      refine z_iast dX12_passes_90 kt_151 (Nat.le_of_ble_eq_true rfl) (by decide) (by decide) ?_
      refine z_mm (fun μ_4 eμ_4 => ?_)
      replace h := h μ_4 eμ_4
      replace hs : StatR μ_4.2.2 := by rw [eμ_4]; exact hs
      refine z_rload_n dX12_passes_91 rfl 1 rfl ?_
      refine z_getR (q := 15522) ff_12_58 dX12_passes_92 kt_113 (Nat.le_of_ble_eq_true rfl) fl_X12_139 rfl (hs.1 _ _ sr_15522) ?_
      refine z_iconst dX12_passes_95 ?_
      refine z_rload_n dX12_passes_96 rfl 1 rfl ?_
      refine z_getI (q := 15529) ff_12_65 dX12_passes_97 kt_113 (Nat.le_of_ble_eq_true rfl) fl_X12_470 rfl ?_
      refine z_iast dX12_passes_100 kt_151 (Nat.le_of_ble_eq_true rfl) (by decide) (by decide) ?_
      refine z_mm (fun μ_5 eμ_5 => ?_)
      replace h := h μ_5 eμ_5
      replace hs : StatR μ_5.2.2 := by rw [eμ_5]; exact hs
      refine z_rload_n dX12_passes_101 rfl 1 rfl ?_
      refine z_getR (q := 15522) ff_12_58 dX12_passes_102 kt_113 (Nat.le_of_ble_eq_true rfl) fl_X12_139 rfl (hs.1 _ _ sr_15522) ?_
      refine z_iconst dX12_passes_105 ?_
      refine z_rload_n dX12_passes_106 rfl 1 rfl ?_
      refine z_iload_n dX12_passes_107 rfl 2 rfl ?_
      refine z_rload_n dX12_passes_108 rfl 4 rfl ?_
      refine z_VI (i_M_againstOf ka3 la3 hs h) vk_X12_againstOf kt_113 (Nat.le_of_ble_eq_true rfl) rfl ml_X12_501 ⟨Nat.le_of_ble_eq_true rfl, Nat.le_of_ble_eq_true rfl⟩ ⟨Nat.zero_le _, Nat.zero_le _⟩ rfl rfl (Nat.le_of_ble_eq_true rfl) dX12_passes_109 (fun r109 μ_6 hs h => ?_)
      refine z_iast dX12_passes_112 kt_151 (Nat.le_of_ble_eq_true rfl) (by decide) (by decide) ?_
      refine z_mm (fun μ_7 eμ_7 => ?_)
      replace h := h μ_7 eμ_7
      replace hs : StatR μ_7.2.2 := by rw [eμ_7]; exact hs
      refine z_rload_n dX12_passes_113 rfl 1 rfl ?_
      refine z_getR (q := 15522) ff_12_58 dX12_passes_114 kt_113 (Nat.le_of_ble_eq_true rfl) fl_X12_139 rfl (hs.1 _ _ sr_15522) ?_
      refine z_iconst dX12_passes_117 ?_
      refine z_iload_n dX12_passes_118 rfl 3 rfl ?_
      refine z_iast dX12_passes_119 kt_151 (Nat.le_of_ble_eq_true rfl) (by decide) (by decide) ?_
      refine z_mm (fun μ_8 eμ_8 => ?_)
      replace h := h μ_8 eμ_8
      replace hs : StatR μ_8.2.2 := by rw [eμ_8]; exact hs
      refine z_rload_n dX12_passes_120 rfl 1 rfl ?_
      refine z_iload dX12_passes_121 0 rfl ?_
      refine z_VI (i_M_works  hs h) vk_X12_works kt_113 (Nat.le_of_ble_eq_true rfl) rfl ml_X12_457 ⟨Nat.le_of_ble_eq_true rfl, Nat.le_of_ble_eq_true rfl⟩ ⟨Nat.zero_le _, Nat.zero_le _⟩ rfl rfl (Nat.le_of_ble_eq_true rfl) dX12_passes_123 (fun r123 μ_9 hs h => ?_)
      refine z_iconst dX12_passes_126 ?_
      refine z_phiB 135 [] (fun V9 hv J9 => ?_) h (fun x135 h => ?_)
      · refine z_icmp_ne (tgt := 134) dX12_passes_127 (by decide) (eq_ite hv) (fun hv => ?_) (fun hv => ?_)
        · refine z_iconst dX12_passes_130 ?_
          refine z_goto (tgt := 135) dX12_passes_131 (by decide) ?_
          exact J9 true hv.symm
        · refine z_iconst dX12_passes_134 ?_
          exact J9 false hv.symm
      · exact z_zret (b := x135) rfl dX12_passes_135 rfl rfl rfl ⟨_, rfl, hs, h⟩
abbrev Y_M_readLine : Yt := (4, none, yX12_readLine.name, { frames := 6, cells := 0, slots := 0, locals := 143 }, 175, 0, 0)
def b_M_readLine_114 (k : Mem → Prop) (v2_3 : Int) (v3_2 : Bool) (μ_10 : Mem) : Prop := if (v_M_isWell μ_10) = true then (∀ x143 : Int, x143 = (if v3_2 = true then (-(rI μ_10 15516 0)) else (rI μ_10 15516 0)) → 0 ≤ w v2_3 ∧ w v2_3 < ((12 : Nat) : Int) ∧ ∀ μ_11 : Mem, μ_11 = sI μ_10 155 (w v2_3) x143 → 0 ≤ w v2_3 ∧ w v2_3 < ((12 : Nat) : Int) ∧ ∀ μ_12 : Mem, μ_12 = sI μ_11 157 (w v2_3) (-1) → ∀ μ_13 : Mem, μ_13 = sI μ_12 15533 0 ((rI μ_12 15533 0) + 1) → f_M_next  μ_13 (fun μ_14 => f_M_isWord 25 μ_14 (fun r174 μ_15 => 0 ≤ w v2_3 ∧ w v2_3 < ((12 : Nat) : Int) ∧ ∀ μ_16 : Mem, μ_16 = sB μ_15 156 (w v2_3) r174 → 0 ≤ w v2_3 ∧ w v2_3 < ((12 : Nat) : Int) ∧ if (rB μ_16 156 (w v2_3)) = true then (f_M_next  μ_16 (fun μ_17 => f_M_wantSign 59 μ_17 (fun μ_18 => k μ_18))) else (f_M_wantSign 59 μ_16 (fun μ_19 => k μ_19))))) else (k μ_10)
def b_M_readLine_109 (k : Mem → Prop) (v2_4 : Int) (v3_3 : Bool) (μ_20 : Mem) : Prop := f_M_fails 2 μ_20 (fun μ_21 => b_M_readLine_114 k v2_4 v3_3 μ_21)
def b_M_readLine_77 (k : Mem → Prop) (v2_2 : Int) (v3_1 : Bool) (μ_8 : Mem) : Prop := if (v_M_isWell μ_8) = true then (if (v_M_within (rI μ_8 15516 0) 1 60) = true then (f_M_inRow (rI μ_8 15516 0) μ_8 (fun r102 μ_9 => if w r102 = w (-1) then (b_M_readLine_114 k v2_2 v3_1 μ_9) else (b_M_readLine_109 k v2_2 v3_1 μ_9))) else (b_M_readLine_109 k v2_2 v3_1 μ_8)) else (b_M_readLine_114 k v2_2 v3_1 μ_8)
def b_M_readLine_57 (k : Mem → Prop) (v2_1 : Int) (v3 : Bool) (μ_7 : Mem) : Prop := if (v_M_isWell μ_7) = true then (if w (rI μ_7 15515 0) = w 2 then (b_M_readLine_77 k v2_1 v3 μ_7) else (f_M_fails 1 μ_7 (fun μ_22 => b_M_readLine_77 k v2_1 v3 μ_22))) else (b_M_readLine_77 k v2_1 v3 μ_7)
def b_M_readLine_29 (k : Mem → Prop) (v2 : Int) (μ_3 : Mem) : Prop := if (v_M_isWell μ_3) = true then (f_M_next  μ_3 (fun μ_4 => f_M_isWord 10 μ_4 (fun r45 μ_5 => if r45 = true then (f_M_next  μ_5 (fun μ_6 => b_M_readLine_57 k v2 r45 μ_6)) else (b_M_readLine_57 k v2 r45 μ_5)))) else (k μ_3)
def f_M_readLine (a1 : Int) (a2 : Int) (μ : Mem) (k : Mem → Prop) : Prop := f_M_isWord 24 μ (fun r4 μ_1 => if r4 = true then (if w a2 = w 12 then (f_M_fails 4 μ_1 (fun μ_2 => b_M_readLine_29 k a2 μ_2)) else (b_M_readLine_29 k a2 μ_1)) else (f_M_fails 1 μ_1 (fun μ_23 => b_M_readLine_29 k a2 μ_23)))
theorem B_M_readLine_114 {l : Launch} {Γ : Gam} {g : Nat} {k : Mem → Prop} {v2_3 : Int} {v3_2 : Bool} {μ_10 : Mem} (hs : StatR μ_10.2.2) (h : b_M_readLine_114 k v2_3 v3_2 μ_10) : SW l Γ yX12_readLine.cls cX12_readLine Y_M_readLine (pV k) g 175 0 0 μ_10 114 [(0, vr Γ 113), (2, vi v2_3), (3, vi (b2i v3_2))] [] := by
  unfold b_M_readLine_114 at h
  refine z_rload_n dX12_readLine_114 rfl 0 rfl ?_
  refine z_VE (i_M_isWell ) vk_X12_isWell kt_113 (Nat.le_of_ble_eq_true rfl) rfl ml_X12_316 ⟨Nat.le_of_ble_eq_true rfl, Nat.le_of_ble_eq_true rfl⟩ ⟨Nat.zero_le _, Nat.zero_le _⟩ rfl rfl (Nat.le_of_ble_eq_true rfl) dX12_readLine_115 ?_
  refine z_ifne_b (tgt := 122) dX12_readLine_118 (by decide) h (fun h => ?_) (fun h => ?_)
  · refine z_rload_n dX12_readLine_122 rfl 0 rfl ?_
    refine z_getR (q := 15530) ff_12_66 dX12_readLine_123 kt_113 (Nat.le_of_ble_eq_true rfl) fl_X12_152 rfl (hs.1 _ _ sr_15530) ?_
    refine z_iload_n dX12_readLine_126 rfl 1 rfl ?_
    refine z_iload_n dX12_readLine_127 rfl 2 rfl ?_
    refine z_phi 143 [vi v2_3, vr Γ 155] (fun V9 hv J9 => ?_) h (fun x143 h => ?_)
    · refine z_ifeq_b (tgt := 139) dX12_readLine_128 (by decide) (eq_ite hv) (fun hv => ?_) (fun hv => ?_)
      · refine z_rload_n dX12_readLine_131 rfl 0 rfl ?_
        refine z_getI (q := 15516) ff_12_52 dX12_readLine_132 kt_113 (Nat.le_of_ble_eq_true rfl) fl_X12_288 rfl ?_
        refine z_ineg dX12_readLine_135 ?_
        refine z_goto (tgt := 143) dX12_readLine_136 (by decide) ?_
        exact J9 _ hv.symm
      · refine z_rload_n dX12_readLine_139 rfl 0 rfl ?_
        refine z_getI (q := 15516) ff_12_52 dX12_readLine_140 kt_113 (Nat.le_of_ble_eq_true rfl) fl_X12_288 rfl ?_
        exact J9 _ hv.symm
    · obtain ⟨h0, h1, h⟩ := h
      refine z_iast dX12_readLine_143 kt_155 (Nat.le_of_ble_eq_true rfl) h0 h1 ?_
      refine z_mm (fun μ_11 eμ_11 => ?_)
      replace h := h μ_11 eμ_11
      replace hs : StatR μ_11.2.2 := by rw [eμ_11]; exact hs
      refine z_rload_n dX12_readLine_144 rfl 0 rfl ?_
      refine z_getR (q := 15532) ff_12_68 dX12_readLine_145 kt_113 (Nat.le_of_ble_eq_true rfl) fl_X12_158 rfl (hs.1 _ _ sr_15532) ?_
      refine z_iload_n dX12_readLine_148 rfl 1 rfl ?_
      refine z_iconst dX12_readLine_149 ?_
      obtain ⟨h0, h1, h⟩ := h
      refine z_iast dX12_readLine_150 kt_157 (Nat.le_of_ble_eq_true rfl) h0 h1 ?_
      refine z_mm (fun μ_12 eμ_12 => ?_)
      replace h := h μ_12 eμ_12
      replace hs : StatR μ_12.2.2 := by rw [eμ_12]; exact hs
      refine z_rload_n dX12_readLine_151 rfl 0 rfl ?_
      refine z_dup dX12_readLine_152 rfl ?_
      refine z_getI (q := 15533) ff_12_69 dX12_readLine_153 kt_113 (Nat.le_of_ble_eq_true rfl) fl_X12_483 rfl ?_
      refine z_iconst dX12_readLine_156 ?_
      refine z_iadd dX12_readLine_157 ?_
      refine z_putI (q := 15533) ff_12_69 (Or.inl rfl) rfl dX12_readLine_158 kt_113 (Nat.le_of_ble_eq_true rfl) fl_X12_483 rfl ?_
      refine z_mm (fun μ_13 eμ_13 => ?_)
      replace h := h μ_13 eμ_13
      replace hs : StatR μ_13.2.2 := by rw [eμ_13]; exact hs
      refine z_rload_n dX12_readLine_161 rfl 0 rfl ?_
      refine z_VU (i_M_next  hs h) vk_X12_next kt_113 (Nat.le_of_ble_eq_true rfl) rfl ml_X12_322 ⟨Nat.le_of_ble_eq_true rfl, Nat.le_of_ble_eq_true rfl⟩ ⟨Nat.zero_le _, Nat.zero_le _⟩ rfl rfl (Nat.le_of_ble_eq_true rfl) dX12_readLine_162 (fun μ_14 hs h => ?_)
      refine z_rload_n dX12_readLine_165 rfl 0 rfl ?_
      refine z_getR (q := 15531) ff_12_67 dX12_readLine_166 kt_113 (Nat.le_of_ble_eq_true rfl) fl_X12_155 rfl (hs.1 _ _ sr_15531) ?_
      refine z_iload_n dX12_readLine_169 rfl 1 rfl ?_
      refine z_rload_n dX12_readLine_170 rfl 0 rfl ?_
      refine z_ldcSw dX12_readLine_171 st_X12_507 ?_
      refine z_VB (i_M_isWord (Nat.le_of_ble_eq_true rfl) hs h) vk_X12_isWord kt_113 (Nat.le_of_ble_eq_true rfl) rfl ml_X12_329 ⟨Nat.le_of_ble_eq_true rfl, Nat.le_of_ble_eq_true rfl⟩ ⟨Nat.zero_le _, Nat.zero_le _⟩ rfl rfl (Nat.le_of_ble_eq_true rfl) dX12_readLine_174 (fun r174 μ_15 hs h => ?_)
      obtain ⟨h0, h1, h⟩ := h
      refine z_zast dX12_readLine_177 kt_156 (Nat.le_of_ble_eq_true rfl) h0 h1 ?_
      refine z_mm (fun μ_16 eμ_16 => ?_)
      replace h := h μ_16 eμ_16
      replace hs : StatR μ_16.2.2 := by rw [eμ_16]; exact hs
      refine z_rload_n dX12_readLine_178 rfl 0 rfl ?_
      refine z_getR (q := 15531) ff_12_67 dX12_readLine_179 kt_113 (Nat.le_of_ble_eq_true rfl) fl_X12_155 rfl (hs.1 _ _ sr_15531) ?_
      refine z_iload_n dX12_readLine_182 rfl 1 rfl ?_
      obtain ⟨h0, h1, h⟩ := h
      refine z_zald dX12_readLine_183 kt_156 (Nat.le_of_ble_eq_true rfl) h0 h1 ?_
      refine z_ifeq_b (tgt := 191) dX12_readLine_184 (by decide) h (fun h => ?_) (fun h => ?_)
      · refine z_rload_n dX12_readLine_187 rfl 0 rfl ?_
        refine z_VU (i_M_next  hs h) vk_X12_next kt_113 (Nat.le_of_ble_eq_true rfl) rfl ml_X12_322 ⟨Nat.le_of_ble_eq_true rfl, Nat.le_of_ble_eq_true rfl⟩ ⟨Nat.zero_le _, Nat.zero_le _⟩ rfl rfl (Nat.le_of_ble_eq_true rfl) dX12_readLine_188 (fun μ_17 hs h => ?_)
        refine z_rload_n dX12_readLine_191 rfl 0 rfl ?_
        refine z_bipush dX12_readLine_192 (by decide) ?_
        refine z_VU (i_M_wantSign  hs h) vk_X12_wantSign kt_113 (Nat.le_of_ble_eq_true rfl) rfl ml_X12_369 ⟨Nat.le_of_ble_eq_true rfl, Nat.le_of_ble_eq_true rfl⟩ ⟨Nat.zero_le _, Nat.zero_le _⟩ rfl rfl (Nat.le_of_ble_eq_true rfl) dX12_readLine_194 (fun μ_18 hs h => ?_)
        exact z_vret rfl dX12_readLine_197 rfl rfl rfl ⟨rfl, hs, h⟩
      · refine z_rload_n dX12_readLine_191 rfl 0 rfl ?_
        refine z_bipush dX12_readLine_192 (by decide) ?_
        refine z_VU (i_M_wantSign  hs h) vk_X12_wantSign kt_113 (Nat.le_of_ble_eq_true rfl) rfl ml_X12_369 ⟨Nat.le_of_ble_eq_true rfl, Nat.le_of_ble_eq_true rfl⟩ ⟨Nat.zero_le _, Nat.zero_le _⟩ rfl rfl (Nat.le_of_ble_eq_true rfl) dX12_readLine_194 (fun μ_19 hs h => ?_)
        exact z_vret rfl dX12_readLine_197 rfl rfl rfl ⟨rfl, hs, h⟩
  · exact z_vret rfl dX12_readLine_121 rfl rfl rfl ⟨rfl, hs, h⟩
theorem B_M_readLine_109 {l : Launch} {Γ : Gam} {g : Nat} {k : Mem → Prop} {v2_4 : Int} {v3_3 : Bool} {μ_20 : Mem} (hs : StatR μ_20.2.2) (h : b_M_readLine_109 k v2_4 v3_3 μ_20) : SW l Γ yX12_readLine.cls cX12_readLine Y_M_readLine (pV k) g 175 0 0 μ_20 109 [(0, vr Γ 113), (2, vi v2_4), (3, vi (b2i v3_3))] [] := by
  unfold b_M_readLine_109 at h
  refine z_rload_n dX12_readLine_109 rfl 0 rfl ?_
  refine z_iconst dX12_readLine_110 ?_
  refine z_VU (i_M_fails  hs h) vk_X12_fails kt_113 (Nat.le_of_ble_eq_true rfl) rfl ml_X12_325 ⟨Nat.le_of_ble_eq_true rfl, Nat.le_of_ble_eq_true rfl⟩ ⟨Nat.zero_le _, Nat.zero_le _⟩ rfl rfl (Nat.le_of_ble_eq_true rfl) dX12_readLine_111 (fun μ_21 hs h => ?_)
  refine z_sub (lv' := [(0, vr Γ 113), (2, vi v2_4), (3, vi (b2i v3_3))]) [0, 1, 2] rfl ?_
  exact B_M_readLine_114 hs h
theorem B_M_readLine_77 {l : Launch} {Γ : Gam} {g : Nat} {k : Mem → Prop} {v2_2 : Int} {v3_1 : Bool} {μ_8 : Mem} (hs : StatR μ_8.2.2) (h : b_M_readLine_77 k v2_2 v3_1 μ_8) : SW l Γ yX12_readLine.cls cX12_readLine Y_M_readLine (pV k) g 175 0 0 μ_8 77 [(0, vr Γ 113), (2, vi v2_2), (3, vi (b2i v3_1))] [] := by
  unfold b_M_readLine_77 at h
  refine z_rload_n dX12_readLine_77 rfl 0 rfl ?_
  refine z_VE (i_M_isWell ) vk_X12_isWell kt_113 (Nat.le_of_ble_eq_true rfl) rfl ml_X12_316 ⟨Nat.le_of_ble_eq_true rfl, Nat.le_of_ble_eq_true rfl⟩ ⟨Nat.zero_le _, Nat.zero_le _⟩ rfl rfl (Nat.le_of_ble_eq_true rfl) dX12_readLine_78 ?_
  refine z_ifeq_b (tgt := 114) dX12_readLine_81 (by decide) h (fun h => ?_) (fun h => ?_)
  · refine z_rload_n dX12_readLine_84 rfl 0 rfl ?_
    refine z_getI (q := 15516) ff_12_52 dX12_readLine_85 kt_113 (Nat.le_of_ble_eq_true rfl) fl_X12_288 rfl ?_
    refine z_iconst dX12_readLine_88 ?_
    refine z_bipush dX12_readLine_89 (by decide) ?_
    refine z_SE (i_M_within ) sk_X12_within ml_X12_215 ⟨Nat.le_of_ble_eq_true rfl, Nat.le_of_ble_eq_true rfl⟩ ⟨Nat.zero_le _, Nat.zero_le _⟩ rfl rfl (Nat.le_of_ble_eq_true rfl) dX12_readLine_91 ?_
    refine z_ifeq_b (tgt := 109) dX12_readLine_94 (by decide) h (fun h => ?_) (fun h => ?_)
    · refine z_rload_n dX12_readLine_97 rfl 0 rfl ?_
      refine z_rload_n dX12_readLine_98 rfl 0 rfl ?_
      refine z_getI (q := 15516) ff_12_52 dX12_readLine_99 kt_113 (Nat.le_of_ble_eq_true rfl) fl_X12_288 rfl ?_
      refine z_VI (i_M_inRow  hs h) vk_X12_inRow kt_113 (Nat.le_of_ble_eq_true rfl) rfl ml_X12_486 ⟨Nat.le_of_ble_eq_true rfl, Nat.le_of_ble_eq_true rfl⟩ ⟨Nat.zero_le _, Nat.zero_le _⟩ rfl rfl (Nat.le_of_ble_eq_true rfl) dX12_readLine_102 (fun r102 μ_9 hs h => ?_)
      refine z_iconst dX12_readLine_105 ?_
      refine z_icmp_eq (tgt := 114) dX12_readLine_106 (by decide) h (fun h => ?_) (fun h => ?_)
      · refine z_sub (lv' := [(0, vr Γ 113), (2, vi v2_2), (3, vi (b2i v3_1))]) [0, 1, 2] rfl ?_
        exact B_M_readLine_114 hs h
      · refine z_sub (lv' := [(0, vr Γ 113), (2, vi v2_2), (3, vi (b2i v3_1))]) [0, 1, 2] rfl ?_
        exact B_M_readLine_109 hs h
    · refine z_sub (lv' := [(0, vr Γ 113), (2, vi v2_2), (3, vi (b2i v3_1))]) [0, 1, 2] rfl ?_
      exact B_M_readLine_109 hs h
  · refine z_sub (lv' := [(0, vr Γ 113), (2, vi v2_2), (3, vi (b2i v3_1))]) [0, 1, 2] rfl ?_
    exact B_M_readLine_114 hs h
theorem B_M_readLine_57 {l : Launch} {Γ : Gam} {g : Nat} {k : Mem → Prop} {v2_1 : Int} {v3 : Bool} {μ_7 : Mem} (hs : StatR μ_7.2.2) (h : b_M_readLine_57 k v2_1 v3 μ_7) : SW l Γ yX12_readLine.cls cX12_readLine Y_M_readLine (pV k) g 175 0 0 μ_7 57 [(0, vr Γ 113), (2, vi v2_1), (3, vi (b2i v3))] [] := by
  unfold b_M_readLine_57 at h
  refine z_rload_n dX12_readLine_57 rfl 0 rfl ?_
  refine z_VE (i_M_isWell ) vk_X12_isWell kt_113 (Nat.le_of_ble_eq_true rfl) rfl ml_X12_316 ⟨Nat.le_of_ble_eq_true rfl, Nat.le_of_ble_eq_true rfl⟩ ⟨Nat.zero_le _, Nat.zero_le _⟩ rfl rfl (Nat.le_of_ble_eq_true rfl) dX12_readLine_58 ?_
  refine z_ifeq_b (tgt := 77) dX12_readLine_61 (by decide) h (fun h => ?_) (fun h => ?_)
  · refine z_rload_n dX12_readLine_64 rfl 0 rfl ?_
    refine z_getI (q := 15515) ff_12_51 dX12_readLine_65 kt_113 (Nat.le_of_ble_eq_true rfl) fl_X12_285 rfl ?_
    refine z_iconst dX12_readLine_68 ?_
    refine z_icmp_eq (tgt := 77) dX12_readLine_69 (by decide) h (fun h => ?_) (fun h => ?_)
    · refine z_sub (lv' := [(0, vr Γ 113), (2, vi v2_1), (3, vi (b2i v3))]) [0, 1, 2] rfl ?_
      exact B_M_readLine_77 hs h
    · refine z_rload_n dX12_readLine_72 rfl 0 rfl ?_
      refine z_iconst dX12_readLine_73 ?_
      refine z_VU (i_M_fails  hs h) vk_X12_fails kt_113 (Nat.le_of_ble_eq_true rfl) rfl ml_X12_325 ⟨Nat.le_of_ble_eq_true rfl, Nat.le_of_ble_eq_true rfl⟩ ⟨Nat.zero_le _, Nat.zero_le _⟩ rfl rfl (Nat.le_of_ble_eq_true rfl) dX12_readLine_74 (fun μ_22 hs h => ?_)
      refine z_sub (lv' := [(0, vr Γ 113), (2, vi v2_1), (3, vi (b2i v3))]) [0, 1, 2] rfl ?_
      exact B_M_readLine_77 hs h
  · refine z_sub (lv' := [(0, vr Γ 113), (2, vi v2_1), (3, vi (b2i v3))]) [0, 1, 2] rfl ?_
    exact B_M_readLine_77 hs h
theorem B_M_readLine_29 {l : Launch} {Γ : Gam} {g : Nat} {k : Mem → Prop} {v2 : Int} {μ_3 : Mem} (hs : StatR μ_3.2.2) (h : b_M_readLine_29 k v2 μ_3) : SW l Γ yX12_readLine.cls cX12_readLine Y_M_readLine (pV k) g 175 0 0 μ_3 29 [(0, vr Γ 113), (2, vi v2)] [] := by
  unfold b_M_readLine_29 at h
  refine z_rload_n dX12_readLine_29 rfl 0 rfl ?_
  refine z_VE (i_M_isWell ) vk_X12_isWell kt_113 (Nat.le_of_ble_eq_true rfl) rfl ml_X12_316 ⟨Nat.le_of_ble_eq_true rfl, Nat.le_of_ble_eq_true rfl⟩ ⟨Nat.zero_le _, Nat.zero_le _⟩ rfl rfl (Nat.le_of_ble_eq_true rfl) dX12_readLine_30 ?_
  refine z_ifne_b (tgt := 37) dX12_readLine_33 (by decide) h (fun h => ?_) (fun h => ?_)
  · refine z_rload_n dX12_readLine_37 rfl 0 rfl ?_
    refine z_VU (i_M_next  hs h) vk_X12_next kt_113 (Nat.le_of_ble_eq_true rfl) rfl ml_X12_322 ⟨Nat.le_of_ble_eq_true rfl, Nat.le_of_ble_eq_true rfl⟩ ⟨Nat.zero_le _, Nat.zero_le _⟩ rfl rfl (Nat.le_of_ble_eq_true rfl) dX12_readLine_38 (fun μ_4 hs h => ?_)
    refine z_rload_n dX12_readLine_41 rfl 0 rfl ?_
    refine z_ldcSw dX12_readLine_42 st_X12_378 ?_
    refine z_VB (i_M_isWord (Nat.le_of_ble_eq_true rfl) hs h) vk_X12_isWord kt_113 (Nat.le_of_ble_eq_true rfl) rfl ml_X12_329 ⟨Nat.le_of_ble_eq_true rfl, Nat.le_of_ble_eq_true rfl⟩ ⟨Nat.zero_le _, Nat.zero_le _⟩ rfl rfl (Nat.le_of_ble_eq_true rfl) dX12_readLine_45 (fun r45 μ_5 hs h => ?_)
    refine z_istore_n (lv' := [(3, vi (b2i r45)), (0, vr Γ 113), (2, vi v2)]) dX12_readLine_48 rfl (Nat.le_of_ble_eq_true rfl) rfl ?_
    refine z_iload_n dX12_readLine_49 rfl 0 rfl ?_
    refine z_ifeq_b (tgt := 57) dX12_readLine_50 (by decide) h (fun h => ?_) (fun h => ?_)
    · refine z_rload_n dX12_readLine_53 rfl 1 rfl ?_
      refine z_VU (i_M_next  hs h) vk_X12_next kt_113 (Nat.le_of_ble_eq_true rfl) rfl ml_X12_322 ⟨Nat.le_of_ble_eq_true rfl, Nat.le_of_ble_eq_true rfl⟩ ⟨Nat.zero_le _, Nat.zero_le _⟩ rfl rfl (Nat.le_of_ble_eq_true rfl) dX12_readLine_54 (fun μ_6 hs h => ?_)
      refine z_sub (lv' := [(0, vr Γ 113), (2, vi v2), (3, vi (b2i r45))]) [1, 2, 0] rfl ?_
      exact B_M_readLine_57 hs h
    · refine z_sub (lv' := [(0, vr Γ 113), (2, vi v2), (3, vi (b2i r45))]) [1, 2, 0] rfl ?_
      exact B_M_readLine_57 hs h
  · exact z_vret rfl dX12_readLine_36 rfl rfl rfl ⟨rfl, hs, h⟩
theorem i_M_readLine {l : Launch} {Γ : Gam} {g : Nat} {a1 : Int} {a2 : Int} {μ : Mem} {k : Mem → Prop} (hs : StatR μ.2.2) (h : f_M_readLine a1 a2 μ k) : CT l Γ yX12_readLine cX12_readLine 4 none 6 143 0 0 [vr Γ 113, vi a1, vi a2] g 175 μ (pV k) := by
  refine SW.ct (by decide) (Nat.le_of_ble_eq_true rfl) ?_
  refine z_sub (lv' := [(0, vr Γ 113), (1, vi a1), (2, vi a2)]) [0, 1, 2] rfl ?_
  show SW l Γ yX12_readLine.cls cX12_readLine Y_M_readLine (pV k) g 175 0 0 μ 0 [(0, vr Γ 113), (1, vi a1), (2, vi a2)] []
  unfold f_M_readLine at h
  refine z_rload_n dX12_readLine_0 rfl 0 rfl ?_
  refine z_ldcSw dX12_readLine_1 st_X12_505 ?_
  refine z_VB (i_M_isWord (Nat.le_of_ble_eq_true rfl) hs h) vk_X12_isWord kt_113 (Nat.le_of_ble_eq_true rfl) rfl ml_X12_329 ⟨Nat.le_of_ble_eq_true rfl, Nat.le_of_ble_eq_true rfl⟩ ⟨Nat.zero_le _, Nat.zero_le _⟩ rfl rfl (Nat.le_of_ble_eq_true rfl) dX12_readLine_4 (fun r4 μ_1 hs h => ?_)
  refine z_ifne_b (tgt := 18) dX12_readLine_7 (by decide) h (fun h => ?_) (fun h => ?_)
  · refine z_iload_n dX12_readLine_18 rfl 2 rfl ?_
    refine z_bipush dX12_readLine_19 (by decide) ?_
    refine z_icmp_ne (tgt := 29) dX12_readLine_21 (by decide) h (fun h => ?_) (fun h => ?_)
    · refine z_rload_n dX12_readLine_24 rfl 0 rfl ?_
      refine z_iconst dX12_readLine_25 ?_
      refine z_VU (i_M_fails  hs h) vk_X12_fails kt_113 (Nat.le_of_ble_eq_true rfl) rfl ml_X12_325 ⟨Nat.le_of_ble_eq_true rfl, Nat.le_of_ble_eq_true rfl⟩ ⟨Nat.zero_le _, Nat.zero_le _⟩ rfl rfl (Nat.le_of_ble_eq_true rfl) dX12_readLine_26 (fun μ_2 hs h => ?_)
      refine z_sub (lv' := [(0, vr Γ 113), (2, vi a2)]) [0, 2] rfl ?_
      exact B_M_readLine_29 hs h
    · refine z_sub (lv' := [(0, vr Γ 113), (2, vi a2)]) [0, 2] rfl ?_
      exact B_M_readLine_29 hs h
  · refine z_rload_n dX12_readLine_10 rfl 0 rfl ?_
    refine z_iconst dX12_readLine_11 ?_
    refine z_VU (i_M_fails  hs h) vk_X12_fails kt_113 (Nat.le_of_ble_eq_true rfl) rfl ml_X12_325 ⟨Nat.le_of_ble_eq_true rfl, Nat.le_of_ble_eq_true rfl⟩ ⟨Nat.zero_le _, Nat.zero_le _⟩ rfl rfl (Nat.le_of_ble_eq_true rfl) dX12_readLine_12 (fun μ_23 hs h => ?_)
    refine z_goto (tgt := 29) dX12_readLine_15 (by decide) ?_
    refine z_sub (lv' := [(0, vr Γ 113), (2, vi a2)]) [0, 2] rfl ?_
    exact B_M_readLine_29 hs h
abbrev Y_M_mayBeLate : Yt := (3, (some .boolean), yX12_mayBeLate.name, { frames := 3, cells := 0, slots := 0, locals := 68 }, 175, 0, 0)
def f_M_mayBeLate (a1 : Int) (μ : Mem) (k : Bool → Mem → Prop) : Prop := if w (rI μ 15471 0) = w (-1) then (k true μ) else (if w (rI μ 15471 0) < w (rI μ 15465 0) then (f_M_clause 7 μ (fun r24 μ_1 => if w r24 = w (-1) then (k false μ_1) else (f_M_paidOf a1 (rI μ_1 15465 0) μ_1 (fun r47 μ_2 => ∀ μ_3 : Mem, μ_3 = sI μ_2 151 (w 10) r47 → ∀ μ_4 : Mem, μ_4 = sI μ_3 151 (w 11) (rI μ_3 15533 0) → ∀ μ_5 : Mem, μ_5 = sI μ_4 151 (w 12) (rI μ_4 15465 0) → f_M_works r24 μ_5 (fun r75 μ_6 => ∀ x87 : Bool, x87 = (if w r75 = w 1 then true else false) → k x87 μ_6))))) else (k true μ))
theorem i_M_mayBeLate {l : Launch} {Γ : Gam} {g : Nat} {a1 : Int} {μ : Mem} {k : Bool → Mem → Prop} (hs : StatR μ.2.2) (h : f_M_mayBeLate a1 μ k) : CT l Γ yX12_mayBeLate cX12_mayBeLate 3 (some .boolean) 3 68 0 0 [vr Γ 113, vi a1] g 175 μ (pB k) := by
  refine SW.ct (by decide) (Nat.le_of_ble_eq_true rfl) ?_
  refine z_sub (lv' := [(0, vr Γ 113), (1, vi a1)]) [0, 1] rfl ?_
  show SW l Γ yX12_mayBeLate.cls cX12_mayBeLate Y_M_mayBeLate (pB k) g 175 0 0 μ 0 [(0, vr Γ 113), (1, vi a1)] []
  unfold f_M_mayBeLate at h
  refine z_rload_n dX12_mayBeLate_0 rfl 0 rfl ?_
  refine z_getI (q := 15471) ff_12_7 dX12_mayBeLate_1 kt_113 (Nat.le_of_ble_eq_true rfl) fl_X12_23 rfl ?_
  refine z_iconst dX12_mayBeLate_4 ?_
  refine z_icmp_eq (tgt := 19) dX12_mayBeLate_5 (by decide) h (fun h => ?_) (fun h => ?_)
  · refine z_iconst dX12_mayBeLate_19 ?_
    exact z_zret (b := true) rfl dX12_mayBeLate_20 rfl rfl rfl ⟨_, rfl, hs, h⟩
  · refine z_rload_n dX12_mayBeLate_8 rfl 0 rfl ?_
    refine z_getI (q := 15465) ff_12_1 dX12_mayBeLate_9 kt_113 (Nat.le_of_ble_eq_true rfl) fl_X12_212 rfl ?_
    refine z_rload_n dX12_mayBeLate_12 rfl 0 rfl ?_
    refine z_getI (q := 15471) ff_12_7 dX12_mayBeLate_13 kt_113 (Nat.le_of_ble_eq_true rfl) fl_X12_23 rfl ?_
    refine z_icmp_gt (tgt := 21) dX12_mayBeLate_16 (by decide) h (fun h => ?_) (fun h => ?_)
    · refine z_rload_n dX12_mayBeLate_21 rfl 0 rfl ?_
      refine z_bipush dX12_mayBeLate_22 (by decide) ?_
      refine z_VI (i_M_clause  hs h) vk_X12_clause kt_113 (Nat.le_of_ble_eq_true rfl) rfl ml_X12_437 ⟨Nat.le_of_ble_eq_true rfl, Nat.le_of_ble_eq_true rfl⟩ ⟨Nat.zero_le _, Nat.zero_le _⟩ rfl rfl (Nat.le_of_ble_eq_true rfl) dX12_mayBeLate_24 (fun r24 μ_1 hs h => ?_)
      refine z_istore_n (lv' := [(2, vi r24), (0, vr Γ 113), (1, vi a1)]) dX12_mayBeLate_27 rfl (Nat.le_of_ble_eq_true rfl) rfl ?_
      refine z_iload_n dX12_mayBeLate_28 rfl 0 rfl ?_
      refine z_iconst dX12_mayBeLate_29 ?_
      refine z_icmp_ne (tgt := 35) dX12_mayBeLate_30 (by decide) h (fun h => ?_) (fun h => ?_)
      · refine z_iconst dX12_mayBeLate_33 ?_
        exact z_zret (b := false) rfl dX12_mayBeLate_34 rfl rfl rfl ⟨_, rfl, hs, h⟩
      · refine z_rload_n dX12_mayBeLate_35 rfl 1 rfl ?_
        refine z_getR (q := 15522) ff_12_58 dX12_mayBeLate_36 kt_113 (Nat.le_of_ble_eq_true rfl) fl_X12_139 rfl (hs.1 _ _ sr_15522) ?_
        refine z_bipush dX12_mayBeLate_39 (by decide) ?_
        refine z_rload_n dX12_mayBeLate_41 rfl 1 rfl ?_
        refine z_iload_n dX12_mayBeLate_42 rfl 2 rfl ?_
        refine z_rload_n dX12_mayBeLate_43 rfl 1 rfl ?_
        refine z_getI (q := 15465) ff_12_1 dX12_mayBeLate_44 kt_113 (Nat.le_of_ble_eq_true rfl) fl_X12_212 rfl ?_
        refine z_VI (i_M_paidOf  hs h) vk_X12_paidOf kt_113 (Nat.le_of_ble_eq_true rfl) rfl ml_X12_453 ⟨Nat.le_of_ble_eq_true rfl, Nat.le_of_ble_eq_true rfl⟩ ⟨Nat.zero_le _, Nat.zero_le _⟩ rfl rfl (Nat.le_of_ble_eq_true rfl) dX12_mayBeLate_47 (fun r47 μ_2 hs h => ?_)
        refine z_iast dX12_mayBeLate_50 kt_151 (Nat.le_of_ble_eq_true rfl) (by decide) (by decide) ?_
        refine z_mm (fun μ_3 eμ_3 => ?_)
        replace h := h μ_3 eμ_3
        replace hs : StatR μ_3.2.2 := by rw [eμ_3]; exact hs
        refine z_rload_n dX12_mayBeLate_51 rfl 1 rfl ?_
        refine z_getR (q := 15522) ff_12_58 dX12_mayBeLate_52 kt_113 (Nat.le_of_ble_eq_true rfl) fl_X12_139 rfl (hs.1 _ _ sr_15522) ?_
        refine z_bipush dX12_mayBeLate_55 (by decide) ?_
        refine z_rload_n dX12_mayBeLate_57 rfl 1 rfl ?_
        refine z_getI (q := 15533) ff_12_69 dX12_mayBeLate_58 kt_113 (Nat.le_of_ble_eq_true rfl) fl_X12_483 rfl ?_
        refine z_iast dX12_mayBeLate_61 kt_151 (Nat.le_of_ble_eq_true rfl) (by decide) (by decide) ?_
        refine z_mm (fun μ_4 eμ_4 => ?_)
        replace h := h μ_4 eμ_4
        replace hs : StatR μ_4.2.2 := by rw [eμ_4]; exact hs
        refine z_rload_n dX12_mayBeLate_62 rfl 1 rfl ?_
        refine z_getR (q := 15522) ff_12_58 dX12_mayBeLate_63 kt_113 (Nat.le_of_ble_eq_true rfl) fl_X12_139 rfl (hs.1 _ _ sr_15522) ?_
        refine z_bipush dX12_mayBeLate_66 (by decide) ?_
        refine z_rload_n dX12_mayBeLate_68 rfl 1 rfl ?_
        refine z_getI (q := 15465) ff_12_1 dX12_mayBeLate_69 kt_113 (Nat.le_of_ble_eq_true rfl) fl_X12_212 rfl ?_
        refine z_iast dX12_mayBeLate_72 kt_151 (Nat.le_of_ble_eq_true rfl) (by decide) (by decide) ?_
        refine z_mm (fun μ_5 eμ_5 => ?_)
        replace h := h μ_5 eμ_5
        replace hs : StatR μ_5.2.2 := by rw [eμ_5]; exact hs
        refine z_rload_n dX12_mayBeLate_73 rfl 1 rfl ?_
        refine z_iload_n dX12_mayBeLate_74 rfl 0 rfl ?_
        refine z_VI (i_M_works  hs h) vk_X12_works kt_113 (Nat.le_of_ble_eq_true rfl) rfl ml_X12_457 ⟨Nat.le_of_ble_eq_true rfl, Nat.le_of_ble_eq_true rfl⟩ ⟨Nat.zero_le _, Nat.zero_le _⟩ rfl rfl (Nat.le_of_ble_eq_true rfl) dX12_mayBeLate_75 (fun r75 μ_6 hs h => ?_)
        refine z_iconst dX12_mayBeLate_78 ?_
        refine z_phiB 87 [] (fun V9 hv J9 => ?_) h (fun x87 h => ?_)
        · refine z_icmp_ne (tgt := 86) dX12_mayBeLate_79 (by decide) (eq_ite hv) (fun hv => ?_) (fun hv => ?_)
          · refine z_iconst dX12_mayBeLate_82 ?_
            refine z_goto (tgt := 87) dX12_mayBeLate_83 (by decide) ?_
            exact J9 true hv.symm
          · refine z_iconst dX12_mayBeLate_86 ?_
            exact J9 false hv.symm
        · exact z_zret (b := x87) rfl dX12_mayBeLate_87 rfl rfl rfl ⟨_, rfl, hs, h⟩
    · refine z_iconst dX12_mayBeLate_19 ?_
      exact z_zret (b := true) rfl dX12_mayBeLate_20 rfl rfl rfl ⟨_, rfl, hs, h⟩
abbrev Y_M_comes : Yt := (2, (some .int), yX12_comes.name, { frames := 1, cells := 0, slots := 0, locals := 22 }, 175, 0, 0)
def f_M_comes (a1 : Int) (μ : Mem) (k : Int → Mem → Prop) : Prop := 0 ≤ w (rI μ 15472 0) ∧ w (rI μ 15472 0) < ((24 : Nat) : Int) ∧ ∀ μ_1 : Mem, μ_1 = sI μ 117 (w (rI μ 15472 0)) a1 → 0 ≤ w (rI μ_1 15472 0) ∧ w (rI μ_1 15472 0) < ((24 : Nat) : Int) ∧ ∀ μ_2 : Mem, μ_2 = sI μ_1 122 (w (rI μ_1 15472 0)) 0 → f_M_laysRow (rI μ_2 15472 0) μ_2 (fun μ_3 => ∀ μ_4 : Mem, μ_4 = sI μ_3 15472 0 ((rI μ_3 15472 0) + 1) → ∀ μ_5 : Mem, μ_5 = sB μ_4 15536 0 false → k ((rI μ_5 15472 0) - 1) μ_5)
theorem i_M_comes {l : Launch} {Γ : Gam} {g : Nat} {a1 : Int} {μ : Mem} {k : Int → Mem → Prop} (hs : StatR μ.2.2) (h : f_M_comes a1 μ k) : CT l Γ yX12_comes cX12_comes 2 (some .int) 1 22 0 0 [vr Γ 113, vi a1] g 175 μ (pI k) := by
  refine SW.ct (by decide) (Nat.le_of_ble_eq_true rfl) ?_
  refine z_sub (lv' := [(0, vr Γ 113), (1, vi a1)]) [0, 1] rfl ?_
  show SW l Γ yX12_comes.cls cX12_comes Y_M_comes (pI k) g 175 0 0 μ 0 [(0, vr Γ 113), (1, vi a1)] []
  unfold f_M_comes at h
  refine z_rload_n dX12_comes_0 rfl 0 rfl ?_
  refine z_getR (q := 15473) ff_12_9 dX12_comes_1 kt_113 (Nat.le_of_ble_eq_true rfl) fl_X12_26 rfl (hs.1 _ _ sr_15473) ?_
  refine z_rload_n dX12_comes_4 rfl 0 rfl ?_
  refine z_getI (q := 15472) ff_12_8 dX12_comes_5 kt_113 (Nat.le_of_ble_eq_true rfl) fl_X12_231 rfl ?_
  refine z_iload_n dX12_comes_8 rfl 1 rfl ?_
  obtain ⟨h0, h1, h⟩ := h
  refine z_iast dX12_comes_9 kt_117 (Nat.le_of_ble_eq_true rfl) h0 h1 ?_
  refine z_mm (fun μ_1 eμ_1 => ?_)
  replace h := h μ_1 eμ_1
  replace hs : StatR μ_1.2.2 := by rw [eμ_1]; exact hs
  refine z_rload_n dX12_comes_10 rfl 0 rfl ?_
  refine z_getR (q := 15481) ff_12_17 dX12_comes_11 kt_113 (Nat.le_of_ble_eq_true rfl) fl_X12_44 rfl (hs.1 _ _ sr_15481) ?_
  refine z_rload_n dX12_comes_14 rfl 0 rfl ?_
  refine z_getI (q := 15472) ff_12_8 dX12_comes_15 kt_113 (Nat.le_of_ble_eq_true rfl) fl_X12_231 rfl ?_
  refine z_iconst dX12_comes_18 ?_
  obtain ⟨h0, h1, h⟩ := h
  refine z_iast dX12_comes_19 kt_122 (Nat.le_of_ble_eq_true rfl) h0 h1 ?_
  refine z_mm (fun μ_2 eμ_2 => ?_)
  replace h := h μ_2 eμ_2
  replace hs : StatR μ_2.2.2 := by rw [eμ_2]; exact hs
  refine z_rload_n dX12_comes_20 rfl 0 rfl ?_
  refine z_rload_n dX12_comes_21 rfl 0 rfl ?_
  refine z_getI (q := 15472) ff_12_8 dX12_comes_22 kt_113 (Nat.le_of_ble_eq_true rfl) fl_X12_231 rfl ?_
  refine z_VU (i_M_laysRow  hs h) vk_X12_laysRow kt_113 (Nat.le_of_ble_eq_true rfl) rfl ml_X12_519 ⟨Nat.le_of_ble_eq_true rfl, Nat.le_of_ble_eq_true rfl⟩ ⟨Nat.zero_le _, Nat.zero_le _⟩ rfl rfl (Nat.le_of_ble_eq_true rfl) dX12_comes_25 (fun μ_3 hs h => ?_)
  refine z_rload_n dX12_comes_28 rfl 0 rfl ?_
  refine z_dup dX12_comes_29 rfl ?_
  refine z_getI (q := 15472) ff_12_8 dX12_comes_30 kt_113 (Nat.le_of_ble_eq_true rfl) fl_X12_231 rfl ?_
  refine z_iconst dX12_comes_33 ?_
  refine z_iadd dX12_comes_34 ?_
  refine z_putI (q := 15472) ff_12_8 (Or.inl rfl) rfl dX12_comes_35 kt_113 (Nat.le_of_ble_eq_true rfl) fl_X12_231 rfl ?_
  refine z_mm (fun μ_4 eμ_4 => ?_)
  replace h := h μ_4 eμ_4
  replace hs : StatR μ_4.2.2 := by rw [eμ_4]; exact hs
  refine z_rload_n dX12_comes_38 rfl 0 rfl ?_
  refine z_iconst dX12_comes_39 ?_
  refine z_putZ (b := false) (q := 15536) ff_12_72 (Or.inl rfl) rfl dX12_comes_40 kt_113 (Nat.le_of_ble_eq_true rfl) fl_X12_433 rfl ?_
  refine z_mm (fun μ_5 eμ_5 => ?_)
  replace h := h μ_5 eμ_5
  replace hs : StatR μ_5.2.2 := by rw [eμ_5]; exact hs
  refine z_rload_n dX12_comes_43 rfl 0 rfl ?_
  refine z_getI (q := 15472) ff_12_8 dX12_comes_44 kt_113 (Nat.le_of_ble_eq_true rfl) fl_X12_231 rfl ?_
  refine z_iconst dX12_comes_47 ?_
  refine z_isub dX12_comes_48 ?_
  exact z_iret rfl dX12_comes_49 rfl rfl rfl ⟨_, rfl, hs, h⟩
abbrev Y_M_motion : Yt := (3, (some .int), yX12_motion.name, { frames := 7, cells := 0, slots := 0, locals := 166 }, 175, 0, 0)
def l_M_motion_44 (a1 : Int) (X_44_73 : Mem → Prop) : Nat → Int → Mem → Prop
  | 0, _, _ => False
  | fu44 + 1, v2, μ_5 => if (v_M_isWell μ_5) = true then (if w (rI μ_5 15515 0) = 0 then (X_44_73 μ_5) else (f_M_readLine (rI μ_5 15472 0) v2 μ_5 (fun μ_6 => (l_M_motion_44 a1 X_44_73 fu44) (v2 + 1) μ_6))) else (X_44_73 μ_5)
def f_M_motion (a1 : Int) (μ : Mem) (k : Int → Mem → Prop) : Prop := ∀ μ_1 : Mem, μ_1 = sI μ 15464 0 0 → if (v_M_isAffiliate a1 μ_1) = true then (if w (rI μ_1 15472 0) = w 24 then (k (-1) μ_1) else (f_M_starts  μ_1 (fun μ_2 => ∀ μ_3 : Mem, μ_3 = sI μ_2 15533 0 0 → f_M_readLine (rI μ_3 15472 0) 0 μ_3 (fun μ_4 => ∃ m44 : Nat, l_M_motion_44 a1 (fun (μ_7 : Mem) => f_M_stops  μ_7 (fun r74 μ_8 => if w r74 < 0 then (k r74 μ_8) else (f_M_mayBeLate a1 μ_8 (fun r86 μ_9 => if r86 = true then (f_M_comes a1 μ_9 (fun r97 μ_10 => k r97 μ_10)) else (k (-6) μ_9))))) m44 1 μ_4)))) else (k (-1) μ_1)
theorem L_M_motion_44 {l : Launch} {Γ : Gam} {g : Nat} {a1 : Int} {X_44_73 : Mem → Prop} {k : Int → Mem → Prop} (hX_44_73 : ∀ (ν : Mem), StatR ν.2.2 → X_44_73 ν → SW l Γ yX12_motion.cls cX12_motion Y_M_motion (pI k) g 175 0 0 ν 73 [(0, vr Γ 113), (1, vi a1)] []) (n9 : Nat) : ∀ (v2 : Int) (μ_5 : Mem), StatR μ_5.2.2 → l_M_motion_44 a1 X_44_73 n9 v2 μ_5 → SW l Γ yX12_motion.cls cX12_motion Y_M_motion (pI k) g 175 0 0 μ_5 44 [(0, vr Γ 113), (1, vi a1), (2, vi v2)] [] := by
  induction n9 with
  | zero =>
    intro v2 μ_5 hs h
    exact h.elim
  | succ n9 hR_44 =>
    intro v2 μ_5 hs h
    rw [l_M_motion_44] at h
    refine z_rload_n dX12_motion_44 rfl 0 rfl ?_
    refine z_VE (i_M_isWell ) vk_X12_isWell kt_113 (Nat.le_of_ble_eq_true rfl) rfl ml_X12_316 ⟨Nat.le_of_ble_eq_true rfl, Nat.le_of_ble_eq_true rfl⟩ ⟨Nat.zero_le _, Nat.zero_le _⟩ rfl rfl (Nat.le_of_ble_eq_true rfl) dX12_motion_45 ?_
    refine z_ifeq_b (tgt := 73) dX12_motion_48 (by decide) h (fun h => ?_) (fun h => ?_)
    · refine z_rload_n dX12_motion_51 rfl 0 rfl ?_
      refine z_getI (q := 15515) ff_12_51 dX12_motion_52 kt_113 (Nat.le_of_ble_eq_true rfl) fl_X12_285 rfl ?_
      refine z_if_eq (tgt := 73) dX12_motion_55 (by decide) h (fun h => ?_) (fun h => ?_)
      · refine z_sub (lv' := [(0, vr Γ 113), (1, vi a1)]) [0, 1] rfl ?_
        exact hX_44_73 μ_5 hs h
      · refine z_rload_n dX12_motion_58 rfl 0 rfl ?_
        refine z_rload_n dX12_motion_59 rfl 0 rfl ?_
        refine z_getI (q := 15472) ff_12_8 dX12_motion_60 kt_113 (Nat.le_of_ble_eq_true rfl) fl_X12_231 rfl ?_
        refine z_iload_n dX12_motion_63 rfl 2 rfl ?_
        refine z_VU (i_M_readLine  hs h) vk_X12_readLine kt_113 (Nat.le_of_ble_eq_true rfl) rfl ml_X12_509 ⟨Nat.le_of_ble_eq_true rfl, Nat.le_of_ble_eq_true rfl⟩ ⟨Nat.zero_le _, Nat.zero_le _⟩ rfl rfl (Nat.le_of_ble_eq_true rfl) dX12_motion_64 (fun μ_6 hs h => ?_)
        refine z_iinc (j := 2) (lv' := [(2, vi (v2 + 1)), (0, vr Γ 113), (1, vi a1)]) dX12_motion_67 rfl (Nat.le_of_ble_eq_true rfl) rfl ?_
        refine z_goto (tgt := 44) dX12_motion_70 (by decide) ?_
        refine z_sub (lv' := [(0, vr Γ 113), (1, vi a1), (2, vi (v2 + 1))]) [1, 2, 0] rfl ?_
        exact hR_44 (v2 + 1) μ_6 hs h
    · refine z_sub (lv' := [(0, vr Γ 113), (1, vi a1)]) [0, 1] rfl ?_
      exact hX_44_73 μ_5 hs h
theorem i_M_motion {l : Launch} {Γ : Gam} {g : Nat} {a1 : Int} {μ : Mem} {k : Int → Mem → Prop} (hs : StatR μ.2.2) (h : f_M_motion a1 μ k) : CT l Γ yX12_motion cX12_motion 3 (some .int) 7 166 0 0 [vr Γ 113, vi a1] g 175 μ (pI k) := by
  refine SW.ct (by decide) (Nat.le_of_ble_eq_true rfl) ?_
  refine z_sub (lv' := [(0, vr Γ 113), (1, vi a1)]) [0, 1] rfl ?_
  show SW l Γ yX12_motion.cls cX12_motion Y_M_motion (pI k) g 175 0 0 μ 0 [(0, vr Γ 113), (1, vi a1)] []
  unfold f_M_motion at h
  refine z_rload_n dX12_motion_0 rfl 0 rfl ?_
  refine z_iconst dX12_motion_1 ?_
  refine z_putI (q := 15464) ff_12_0 (Or.inl rfl) rfl dX12_motion_2 kt_113 (Nat.le_of_ble_eq_true rfl) fl_X12_1 rfl ?_
  refine z_mm (fun μ_1 eμ_1 => ?_)
  replace h := h μ_1 eμ_1
  replace hs : StatR μ_1.2.2 := by rw [eμ_1]; exact hs
  refine z_rload_n dX12_motion_5 rfl 0 rfl ?_
  refine z_iload_n dX12_motion_6 rfl 1 rfl ?_
  refine z_VE (i_M_isAffiliate ) vk_X12_isAffiliate kt_113 (Nat.le_of_ble_eq_true rfl) rfl ml_X12_219 ⟨Nat.le_of_ble_eq_true rfl, Nat.le_of_ble_eq_true rfl⟩ ⟨Nat.zero_le _, Nat.zero_le _⟩ rfl rfl (Nat.le_of_ble_eq_true rfl) dX12_motion_7 ?_
  refine z_ifeq_b (tgt := 22) dX12_motion_10 (by decide) h (fun h => ?_) (fun h => ?_)
  · refine z_rload_n dX12_motion_13 rfl 0 rfl ?_
    refine z_getI (q := 15472) ff_12_8 dX12_motion_14 kt_113 (Nat.le_of_ble_eq_true rfl) fl_X12_231 rfl ?_
    refine z_bipush dX12_motion_17 (by decide) ?_
    refine z_icmp_ne (tgt := 24) dX12_motion_19 (by decide) h (fun h => ?_) (fun h => ?_)
    · refine z_iconst dX12_motion_22 ?_
      exact z_iret rfl dX12_motion_23 rfl rfl rfl ⟨_, rfl, hs, h⟩
    · refine z_rload_n dX12_motion_24 rfl 0 rfl ?_
      refine z_VU (i_M_starts  hs h) vk_X12_starts kt_113 (Nat.le_of_ble_eq_true rfl) rfl ml_X12_424 ⟨Nat.le_of_ble_eq_true rfl, Nat.le_of_ble_eq_true rfl⟩ ⟨Nat.zero_le _, Nat.zero_le _⟩ rfl rfl (Nat.le_of_ble_eq_true rfl) dX12_motion_25 (fun μ_2 hs h => ?_)
      refine z_rload_n dX12_motion_28 rfl 0 rfl ?_
      refine z_iconst dX12_motion_29 ?_
      refine z_putI (q := 15533) ff_12_69 (Or.inl rfl) rfl dX12_motion_30 kt_113 (Nat.le_of_ble_eq_true rfl) fl_X12_483 rfl ?_
      refine z_mm (fun μ_3 eμ_3 => ?_)
      replace h := h μ_3 eμ_3
      replace hs : StatR μ_3.2.2 := by rw [eμ_3]; exact hs
      refine z_rload_n dX12_motion_33 rfl 0 rfl ?_
      refine z_rload_n dX12_motion_34 rfl 0 rfl ?_
      refine z_getI (q := 15472) ff_12_8 dX12_motion_35 kt_113 (Nat.le_of_ble_eq_true rfl) fl_X12_231 rfl ?_
      refine z_iconst dX12_motion_38 ?_
      refine z_VU (i_M_readLine  hs h) vk_X12_readLine kt_113 (Nat.le_of_ble_eq_true rfl) rfl ml_X12_509 ⟨Nat.le_of_ble_eq_true rfl, Nat.le_of_ble_eq_true rfl⟩ ⟨Nat.zero_le _, Nat.zero_le _⟩ rfl rfl (Nat.le_of_ble_eq_true rfl) dX12_motion_39 (fun μ_4 hs h => ?_)
      refine z_iconst dX12_motion_42 ?_
      refine z_istore_n (lv' := [(2, vi 1), (0, vr Γ 113), (1, vi a1)]) dX12_motion_43 rfl (Nat.le_of_ble_eq_true rfl) rfl ?_
      obtain ⟨m44, h⟩ := h
      refine z_sub (lv' := [(0, vr Γ 113), (1, vi a1), (2, vi 1)]) [1, 2, 0] rfl ?_
      refine L_M_motion_44 (fun μ_7 hs h => ?_) m44 1 μ_4 hs h
      refine z_rload_n dX12_motion_73 rfl 0 rfl ?_
      refine z_VI (i_M_stops  hs h) vk_X12_stops kt_113 (Nat.le_of_ble_eq_true rfl) rfl ml_X12_430 ⟨Nat.le_of_ble_eq_true rfl, Nat.le_of_ble_eq_true rfl⟩ ⟨Nat.zero_le _, Nat.zero_le _⟩ rfl rfl (Nat.le_of_ble_eq_true rfl) dX12_motion_74 (fun r74 μ_8 hs h => ?_)
      refine z_istore_n (lv' := [(2, vi r74), (0, vr Γ 113), (1, vi a1)]) dX12_motion_77 rfl (Nat.le_of_ble_eq_true rfl) rfl ?_
      refine z_iload_n dX12_motion_78 rfl 0 rfl ?_
      refine z_if_ge (tgt := 84) dX12_motion_79 (by decide) h (fun h => ?_) (fun h => ?_)
      · refine z_iload_n dX12_motion_82 rfl 0 rfl ?_
        exact z_iret rfl dX12_motion_83 rfl rfl rfl ⟨_, rfl, hs, h⟩
      · refine z_rload_n dX12_motion_84 rfl 1 rfl ?_
        refine z_iload_n dX12_motion_85 rfl 2 rfl ?_
        refine z_VB (i_M_mayBeLate  hs h) vk_X12_mayBeLate kt_113 (Nat.le_of_ble_eq_true rfl) rfl ml_X12_513 ⟨Nat.le_of_ble_eq_true rfl, Nat.le_of_ble_eq_true rfl⟩ ⟨Nat.zero_le _, Nat.zero_le _⟩ rfl rfl (Nat.le_of_ble_eq_true rfl) dX12_motion_86 (fun r86 μ_9 hs h => ?_)
        refine z_ifne_b (tgt := 95) dX12_motion_89 (by decide) h (fun h => ?_) (fun h => ?_)
        · refine z_rload_n dX12_motion_95 rfl 1 rfl ?_
          refine z_iload_n dX12_motion_96 rfl 2 rfl ?_
          refine z_VI (i_M_comes  hs h) vk_X12_comes kt_113 (Nat.le_of_ble_eq_true rfl) rfl ml_X12_516 ⟨Nat.le_of_ble_eq_true rfl, Nat.le_of_ble_eq_true rfl⟩ ⟨Nat.zero_le _, Nat.zero_le _⟩ rfl rfl (Nat.le_of_ble_eq_true rfl) dX12_motion_97 (fun r97 μ_10 hs h => ?_)
          exact z_iret rfl dX12_motion_100 rfl rfl rfl ⟨_, rfl, hs, h⟩
        · refine z_bipush dX12_motion_92 (by decide) ?_
          exact z_iret rfl dX12_motion_94 rfl rfl rfl ⟨_, rfl, hs, h⟩
  · refine z_iconst dX12_motion_22 ?_
    exact z_iret rfl dX12_motion_23 rfl rfl rfl ⟨_, rfl, hs, h⟩
