abbrev Y_M_readChange : Yt := (6, none, yX12_readChange.name, { frames := 6, cells := 0, slots := 0, locals := 143 }, 175, 0, 0)
def b_M_readChange_111 (k : Mem → Prop) (v1_2 : Int) (v2_2 : Int) (v3_1 : Int) (v4 : Int) (μ_8 : Mem) : Prop := f_M_readNumber 60 μ_8 (fun r114 μ_9 => f_M_wantSign 59 μ_9 (fun μ_10 => if (v_M_isWell μ_10) = true then (0 ≤ w ((6 * v1_2) + v2_2) ∧ w ((6 * v1_2) + v2_2) < ((240 : Nat) : Int) ∧ ∀ μ_11 : Mem, μ_11 = sI μ_10 120 (w ((6 * v1_2) + v2_2)) v3_1 → ∀ x168 : Int, x168 = (if w v4 = 0 then r114 else (-r114)) → 0 ≤ w ((6 * v1_2) + v2_2) ∧ w ((6 * v1_2) + v2_2) < ((240 : Nat) : Int) ∧ ∀ μ_12 : Mem, μ_12 = sI μ_11 121 (w ((6 * v1_2) + v2_2)) x168 → k μ_12) else (k μ_10)))
def b_M_readChange_100 (k : Mem → Prop) (v1_4 : Int) (v2_4 : Int) (v3_3 : Int) (s0_1 : Bool) (μ_14 : Mem) : Prop := if s0_1 = true then (f_M_next  μ_14 (fun μ_15 => b_M_readChange_111 k v1_4 v2_4 v3_3 (b2i s0_1) μ_15)) else (b_M_readChange_111 k v1_4 v2_4 v3_3 (b2i s0_1) μ_14)
def b_M_readChange_99 (k : Mem → Prop) (v1_3 : Int) (v2_3 : Int) (v3_2 : Int) (μ_13 : Mem) : Prop := b_M_readChange_100 k v1_3 v2_3 v3_2 false μ_13
def b_M_readChange_68 (k : Mem → Prop) (v1_1 : Int) (v2_1 : Int) (v3 : Int) (μ_4 : Mem) : Prop := if (v_M_isWell μ_4) = true then (f_M_next  μ_4 (fun μ_5 => if w v3 = w 1 then (f_M_isWord 10 μ_5 (fun r89 μ_6 => ∀ x100 : Bool, x100 = (if r89 = true then true else false) → if x100 = true then (f_M_next  μ_6 (fun μ_7 => b_M_readChange_111 k v1_1 v2_1 v3 (b2i x100) μ_7)) else (b_M_readChange_111 k v1_1 v2_1 v3 (b2i x100) μ_6))) else (b_M_readChange_99 k v1_1 v2_1 v3 μ_5))) else (k μ_4)
def b_M_readChange_43 (k : Mem → Prop) (v1 : Int) (v2 : Int) (s0 : Int) (μ_2 : Mem) : Prop := if w s0 = w (-1) then (f_M_fails 1 μ_2 (fun μ_3 => b_M_readChange_68 k v1 v2 s0 μ_3)) else (if w v2 = w 6 then (f_M_fails 4 μ_2 (fun μ_16 => b_M_readChange_68 k v1 v2 s0 μ_16)) else (b_M_readChange_68 k v1 v2 s0 μ_2))
def f_M_readChange (a1 : Int) (a2 : Int) (μ : Mem) (k : Mem → Prop) : Prop := f_M_isWord 26 μ (fun r4 μ_1 => if r4 = true then (b_M_readChange_43 k a1 a2 0 μ_1) else (f_M_isWord 27 μ_1 (fun r18 μ_17 => if r18 = true then (b_M_readChange_43 k a1 a2 1 μ_17) else (f_M_isWord 28 μ_17 (fun r32 μ_18 => ∀ x43 : Int, x43 = (if r32 = true then 2 else (-1)) → if w x43 = w (-1) then (f_M_fails 1 μ_18 (fun μ_19 => b_M_readChange_68 k a1 a2 x43 μ_19)) else (if w a2 = w 6 then (f_M_fails 4 μ_18 (fun μ_20 => b_M_readChange_68 k a1 a2 x43 μ_20)) else (b_M_readChange_68 k a1 a2 x43 μ_18)))))))
theorem B_M_readChange_111 {l : Launch} {Γ : Gam} {g : Nat} {k : Mem → Prop} {v1_2 : Int} {v2_2 : Int} {v3_1 : Int} {v4 : Int} {μ_8 : Mem} (hs : StatR μ_8.2.2) (h : b_M_readChange_111 k v1_2 v2_2 v3_1 v4 μ_8) : SW l Γ yX12_readChange.cls cX12_readChange Y_M_readChange (pV k) g 175 0 0 μ_8 111 [(0, vr Γ 113), (1, vi v1_2), (2, vi v2_2), (3, vi v3_1), (4, vi v4)] [] := by
  unfold b_M_readChange_111 at h
  refine z_rload_n dX12_readChange_111 rfl 0 rfl ?_
  refine z_bipush dX12_readChange_112 (by decide) ?_
  refine z_VI (i_M_readNumber  hs h) vk_X12_readNumber kt_113 (Nat.le_of_ble_eq_true rfl) rfl ml_X12_415 ⟨Nat.le_of_ble_eq_true rfl, Nat.le_of_ble_eq_true rfl⟩ ⟨Nat.zero_le _, Nat.zero_le _⟩ rfl rfl (Nat.le_of_ble_eq_true rfl) dX12_readChange_114 (fun r114 μ_9 hs h => ?_)
  refine z_istore (lv' := [(5, vi r114), (0, vr Γ 113), (1, vi v1_2), (2, vi v2_2), (3, vi v3_1), (4, vi v4)]) dX12_readChange_117 (Nat.le_of_ble_eq_true rfl) rfl ?_
  refine z_rload_n dX12_readChange_119 rfl 1 rfl ?_
  refine z_bipush dX12_readChange_120 (by decide) ?_
  refine z_VU (i_M_wantSign  hs h) vk_X12_wantSign kt_113 (Nat.le_of_ble_eq_true rfl) rfl ml_X12_369 ⟨Nat.le_of_ble_eq_true rfl, Nat.le_of_ble_eq_true rfl⟩ ⟨Nat.zero_le _, Nat.zero_le _⟩ rfl rfl (Nat.le_of_ble_eq_true rfl) dX12_readChange_122 (fun μ_10 hs h => ?_)
  refine z_rload_n dX12_readChange_125 rfl 1 rfl ?_
  refine z_VE (i_M_isWell ) vk_X12_isWell kt_113 (Nat.le_of_ble_eq_true rfl) rfl ml_X12_316 ⟨Nat.le_of_ble_eq_true rfl, Nat.le_of_ble_eq_true rfl⟩ ⟨Nat.zero_le _, Nat.zero_le _⟩ rfl rfl (Nat.le_of_ble_eq_true rfl) dX12_readChange_126 ?_
  refine z_ifne_b (tgt := 133) dX12_readChange_129 (by decide) h (fun h => ?_) (fun h => ?_)
  · refine z_rload_n dX12_readChange_133 rfl 1 rfl ?_
    refine z_getR (q := 15477) ff_12_13 dX12_readChange_134 kt_113 (Nat.le_of_ble_eq_true rfl) fl_X12_35 rfl (hs.1 _ _ sr_15477) ?_
    refine z_bipush dX12_readChange_137 (by decide) ?_
    refine z_iload_n dX12_readChange_139 rfl 2 rfl ?_
    refine z_imul dX12_readChange_140 ?_
    refine z_iload_n dX12_readChange_141 rfl 3 rfl ?_
    refine z_iadd dX12_readChange_142 ?_
    refine z_iload_n dX12_readChange_143 rfl 4 rfl ?_
    obtain ⟨h0, h1, h⟩ := h
    refine z_iast dX12_readChange_144 kt_120 (Nat.le_of_ble_eq_true rfl) h0 h1 ?_
    refine z_mm (fun μ_11 eμ_11 => ?_)
    replace h := h μ_11 eμ_11
    replace hs : StatR μ_11.2.2 := by rw [eμ_11]; exact hs
    refine z_rload_n dX12_readChange_145 rfl 1 rfl ?_
    refine z_getR (q := 15478) ff_12_14 dX12_readChange_146 kt_113 (Nat.le_of_ble_eq_true rfl) fl_X12_38 rfl (hs.1 _ _ sr_15478) ?_
    refine z_bipush dX12_readChange_149 (by decide) ?_
    refine z_iload_n dX12_readChange_151 rfl 2 rfl ?_
    refine z_imul dX12_readChange_152 ?_
    refine z_iload_n dX12_readChange_153 rfl 3 rfl ?_
    refine z_iadd dX12_readChange_154 ?_
    refine z_iload dX12_readChange_155 5 rfl ?_
    refine z_phi 168 [vi ((6 * v1_2) + v2_2), vr Γ 121] (fun V9 hv J9 => ?_) h (fun x168 h => ?_)
    · refine z_if_eq (tgt := 166) dX12_readChange_157 (by decide) (eq_ite hv) (fun hv => ?_) (fun hv => ?_)
      · refine z_iload dX12_readChange_166 0 rfl ?_
        exact J9 _ hv.symm
      · refine z_iload dX12_readChange_160 0 rfl ?_
        refine z_ineg dX12_readChange_162 ?_
        refine z_goto (tgt := 168) dX12_readChange_163 (by decide) ?_
        exact J9 _ hv.symm
    · obtain ⟨h0, h1, h⟩ := h
      refine z_iast dX12_readChange_168 kt_121 (Nat.le_of_ble_eq_true rfl) h0 h1 ?_
      refine z_mm (fun μ_12 eμ_12 => ?_)
      replace h := h μ_12 eμ_12
      replace hs : StatR μ_12.2.2 := by rw [eμ_12]; exact hs
      exact z_vret rfl dX12_readChange_169 rfl rfl rfl ⟨rfl, hs, h⟩
  · exact z_vret rfl dX12_readChange_132 rfl rfl rfl ⟨rfl, hs, h⟩
theorem B_M_readChange_100 {l : Launch} {Γ : Gam} {g : Nat} {k : Mem → Prop} {v1_4 : Int} {v2_4 : Int} {v3_3 : Int} {s0_1 : Bool} {μ_14 : Mem} (hs : StatR μ_14.2.2) (h : b_M_readChange_100 k v1_4 v2_4 v3_3 s0_1 μ_14) : SW l Γ yX12_readChange.cls cX12_readChange Y_M_readChange (pV k) g 175 0 0 μ_14 100 [(0, vr Γ 113), (1, vi v1_4), (2, vi v2_4), (3, vi v3_3)] [vi (b2i s0_1)] := by
  unfold b_M_readChange_100 at h
  refine z_istore (lv' := [(4, vi (b2i s0_1)), (0, vr Γ 113), (1, vi v1_4), (2, vi v2_4), (3, vi v3_3)]) dX12_readChange_100 (Nat.le_of_ble_eq_true rfl) rfl ?_
  refine z_iload dX12_readChange_102 0 rfl ?_
  refine z_ifeq_b (tgt := 111) dX12_readChange_104 (by decide) h (fun h => ?_) (fun h => ?_)
  · refine z_rload_n dX12_readChange_107 rfl 1 rfl ?_
    refine z_VU (i_M_next  hs h) vk_X12_next kt_113 (Nat.le_of_ble_eq_true rfl) rfl ml_X12_322 ⟨Nat.le_of_ble_eq_true rfl, Nat.le_of_ble_eq_true rfl⟩ ⟨Nat.zero_le _, Nat.zero_le _⟩ rfl rfl (Nat.le_of_ble_eq_true rfl) dX12_readChange_108 (fun μ_15 hs h => ?_)
    refine z_sub (lv' := [(0, vr Γ 113), (1, vi v1_4), (2, vi v2_4), (3, vi v3_3), (4, vi (b2i s0_1))]) [1, 2, 3, 4, 0] rfl ?_
    exact B_M_readChange_111 hs h
  · refine z_sub (lv' := [(0, vr Γ 113), (1, vi v1_4), (2, vi v2_4), (3, vi v3_3), (4, vi (b2i s0_1))]) [1, 2, 3, 4, 0] rfl ?_
    exact B_M_readChange_111 hs h
theorem B_M_readChange_99 {l : Launch} {Γ : Gam} {g : Nat} {k : Mem → Prop} {v1_3 : Int} {v2_3 : Int} {v3_2 : Int} {μ_13 : Mem} (hs : StatR μ_13.2.2) (h : b_M_readChange_99 k v1_3 v2_3 v3_2 μ_13) : SW l Γ yX12_readChange.cls cX12_readChange Y_M_readChange (pV k) g 175 0 0 μ_13 99 [(0, vr Γ 113), (1, vi v1_3), (2, vi v2_3), (3, vi v3_2)] [] := by
  unfold b_M_readChange_99 at h
  refine z_iconst dX12_readChange_99 ?_
  refine z_sub (lv' := [(0, vr Γ 113), (1, vi v1_3), (2, vi v2_3), (3, vi v3_2)]) [0, 1, 2, 3] rfl ?_
  exact B_M_readChange_100 hs h
theorem B_M_readChange_68 {l : Launch} {Γ : Gam} {g : Nat} {k : Mem → Prop} {v1_1 : Int} {v2_1 : Int} {v3 : Int} {μ_4 : Mem} (hs : StatR μ_4.2.2) (h : b_M_readChange_68 k v1_1 v2_1 v3 μ_4) : SW l Γ yX12_readChange.cls cX12_readChange Y_M_readChange (pV k) g 175 0 0 μ_4 68 [(0, vr Γ 113), (1, vi v1_1), (2, vi v2_1), (3, vi v3)] [] := by
  unfold b_M_readChange_68 at h
  refine z_rload_n dX12_readChange_68 rfl 0 rfl ?_
  refine z_VE (i_M_isWell ) vk_X12_isWell kt_113 (Nat.le_of_ble_eq_true rfl) rfl ml_X12_316 ⟨Nat.le_of_ble_eq_true rfl, Nat.le_of_ble_eq_true rfl⟩ ⟨Nat.zero_le _, Nat.zero_le _⟩ rfl rfl (Nat.le_of_ble_eq_true rfl) dX12_readChange_69 ?_
  refine z_ifne_b (tgt := 76) dX12_readChange_72 (by decide) h (fun h => ?_) (fun h => ?_)
  · refine z_rload_n dX12_readChange_76 rfl 0 rfl ?_
    refine z_VU (i_M_next  hs h) vk_X12_next kt_113 (Nat.le_of_ble_eq_true rfl) rfl ml_X12_322 ⟨Nat.le_of_ble_eq_true rfl, Nat.le_of_ble_eq_true rfl⟩ ⟨Nat.zero_le _, Nat.zero_le _⟩ rfl rfl (Nat.le_of_ble_eq_true rfl) dX12_readChange_77 (fun μ_5 hs h => ?_)
    refine z_iload_n dX12_readChange_80 rfl 3 rfl ?_
    refine z_iconst dX12_readChange_81 ?_
    refine z_icmp_ne (tgt := 99) dX12_readChange_82 (by decide) h (fun h => ?_) (fun h => ?_)
    · refine z_rload_n dX12_readChange_85 rfl 0 rfl ?_
      refine z_ldcSw dX12_readChange_86 st_X12_378 ?_
      refine z_VB (i_M_isWord (Nat.le_of_ble_eq_true rfl) hs h) vk_X12_isWord kt_113 (Nat.le_of_ble_eq_true rfl) rfl ml_X12_329 ⟨Nat.le_of_ble_eq_true rfl, Nat.le_of_ble_eq_true rfl⟩ ⟨Nat.zero_le _, Nat.zero_le _⟩ rfl rfl (Nat.le_of_ble_eq_true rfl) dX12_readChange_89 (fun r89 μ_6 hs h => ?_)
      refine z_phiB 100 [] (fun V9 hv J9 => ?_) h (fun x100 h => ?_)
      · refine z_ifeq_b (tgt := 99) dX12_readChange_92 (by decide) (eq_ite hv) (fun hv => ?_) (fun hv => ?_)
        · refine z_iconst dX12_readChange_95 ?_
          refine z_goto (tgt := 100) dX12_readChange_96 (by decide) ?_
          exact J9 true hv.symm
        · refine z_iconst dX12_readChange_99 ?_
          exact J9 false hv.symm
      · refine z_istore (lv' := [(4, vi (b2i x100)), (0, vr Γ 113), (1, vi v1_1), (2, vi v2_1), (3, vi v3)]) dX12_readChange_100 (Nat.le_of_ble_eq_true rfl) rfl ?_
        refine z_iload dX12_readChange_102 0 rfl ?_
        refine z_ifeq_b (tgt := 111) dX12_readChange_104 (by decide) h (fun h => ?_) (fun h => ?_)
        · refine z_rload_n dX12_readChange_107 rfl 1 rfl ?_
          refine z_VU (i_M_next  hs h) vk_X12_next kt_113 (Nat.le_of_ble_eq_true rfl) rfl ml_X12_322 ⟨Nat.le_of_ble_eq_true rfl, Nat.le_of_ble_eq_true rfl⟩ ⟨Nat.zero_le _, Nat.zero_le _⟩ rfl rfl (Nat.le_of_ble_eq_true rfl) dX12_readChange_108 (fun μ_7 hs h => ?_)
          refine z_sub (lv' := [(0, vr Γ 113), (1, vi v1_1), (2, vi v2_1), (3, vi v3), (4, vi (b2i x100))]) [1, 2, 3, 4, 0] rfl ?_
          exact B_M_readChange_111 hs h
        · refine z_sub (lv' := [(0, vr Γ 113), (1, vi v1_1), (2, vi v2_1), (3, vi v3), (4, vi (b2i x100))]) [1, 2, 3, 4, 0] rfl ?_
          exact B_M_readChange_111 hs h
    · refine z_sub (lv' := [(0, vr Γ 113), (1, vi v1_1), (2, vi v2_1), (3, vi v3)]) [0, 1, 2, 3] rfl ?_
      exact B_M_readChange_99 hs h
  · exact z_vret rfl dX12_readChange_75 rfl rfl rfl ⟨rfl, hs, h⟩
theorem B_M_readChange_43 {l : Launch} {Γ : Gam} {g : Nat} {k : Mem → Prop} {v1 : Int} {v2 : Int} {s0 : Int} {μ_2 : Mem} (hs : StatR μ_2.2.2) (h : b_M_readChange_43 k v1 v2 s0 μ_2) : SW l Γ yX12_readChange.cls cX12_readChange Y_M_readChange (pV k) g 175 0 0 μ_2 43 [(0, vr Γ 113), (1, vi v1), (2, vi v2)] [vi s0] := by
  unfold b_M_readChange_43 at h
  refine z_istore_n (lv' := [(3, vi s0), (0, vr Γ 113), (1, vi v1), (2, vi v2)]) dX12_readChange_43 rfl (Nat.le_of_ble_eq_true rfl) rfl ?_
  refine z_iload_n dX12_readChange_44 rfl 0 rfl ?_
  refine z_iconst dX12_readChange_45 ?_
  refine z_icmp_ne (tgt := 57) dX12_readChange_46 (by decide) h (fun h => ?_) (fun h => ?_)
  · refine z_rload_n dX12_readChange_49 rfl 1 rfl ?_
    refine z_iconst dX12_readChange_50 ?_
    refine z_VU (i_M_fails  hs h) vk_X12_fails kt_113 (Nat.le_of_ble_eq_true rfl) rfl ml_X12_325 ⟨Nat.le_of_ble_eq_true rfl, Nat.le_of_ble_eq_true rfl⟩ ⟨Nat.zero_le _, Nat.zero_le _⟩ rfl rfl (Nat.le_of_ble_eq_true rfl) dX12_readChange_51 (fun μ_3 hs h => ?_)
    refine z_goto (tgt := 68) dX12_readChange_54 (by decide) ?_
    refine z_sub (lv' := [(0, vr Γ 113), (1, vi v1), (2, vi v2), (3, vi s0)]) [1, 2, 3, 0] rfl ?_
    exact B_M_readChange_68 hs h
  · refine z_iload_n dX12_readChange_57 rfl 3 rfl ?_
    refine z_bipush dX12_readChange_58 (by decide) ?_
    refine z_icmp_ne (tgt := 68) dX12_readChange_60 (by decide) h (fun h => ?_) (fun h => ?_)
    · refine z_rload_n dX12_readChange_63 rfl 1 rfl ?_
      refine z_iconst dX12_readChange_64 ?_
      refine z_VU (i_M_fails  hs h) vk_X12_fails kt_113 (Nat.le_of_ble_eq_true rfl) rfl ml_X12_325 ⟨Nat.le_of_ble_eq_true rfl, Nat.le_of_ble_eq_true rfl⟩ ⟨Nat.zero_le _, Nat.zero_le _⟩ rfl rfl (Nat.le_of_ble_eq_true rfl) dX12_readChange_65 (fun μ_16 hs h => ?_)
      refine z_sub (lv' := [(0, vr Γ 113), (1, vi v1), (2, vi v2), (3, vi s0)]) [1, 2, 3, 0] rfl ?_
      exact B_M_readChange_68 hs h
    · refine z_sub (lv' := [(0, vr Γ 113), (1, vi v1), (2, vi v2), (3, vi s0)]) [1, 2, 3, 0] rfl ?_
      exact B_M_readChange_68 hs h
theorem i_M_readChange {l : Launch} {Γ : Gam} {g : Nat} {a1 : Int} {a2 : Int} {μ : Mem} {k : Mem → Prop} (hs : StatR μ.2.2) (h : f_M_readChange a1 a2 μ k) : CT l Γ yX12_readChange cX12_readChange 6 none 6 143 0 0 [vr Γ 113, vi a1, vi a2] g 175 μ (pV k) := by
  refine SW.ct (by decide) (Nat.le_of_ble_eq_true rfl) ?_
  refine z_sub (lv' := [(0, vr Γ 113), (1, vi a1), (2, vi a2)]) [0, 1, 2] rfl ?_
  show SW l Γ yX12_readChange.cls cX12_readChange Y_M_readChange (pV k) g 175 0 0 μ 0 [(0, vr Γ 113), (1, vi a1), (2, vi a2)] []
  unfold f_M_readChange at h
  refine z_rload_n dX12_readChange_0 rfl 0 rfl ?_
  refine z_ldcSw dX12_readChange_1 st_X12_522 ?_
  refine z_VB (i_M_isWord (Nat.le_of_ble_eq_true rfl) hs h) vk_X12_isWord kt_113 (Nat.le_of_ble_eq_true rfl) rfl ml_X12_329 ⟨Nat.le_of_ble_eq_true rfl, Nat.le_of_ble_eq_true rfl⟩ ⟨Nat.zero_le _, Nat.zero_le _⟩ rfl rfl (Nat.le_of_ble_eq_true rfl) dX12_readChange_4 (fun r4 μ_1 hs h => ?_)
  refine z_ifeq_b (tgt := 14) dX12_readChange_7 (by decide) h (fun h => ?_) (fun h => ?_)
  · refine z_iconst dX12_readChange_10 ?_
    refine z_goto (tgt := 43) dX12_readChange_11 (by decide) ?_
    refine z_sub (lv' := [(0, vr Γ 113), (1, vi a1), (2, vi a2)]) [0, 1, 2] rfl ?_
    exact B_M_readChange_43 hs h
  · refine z_rload_n dX12_readChange_14 rfl 0 rfl ?_
    refine z_ldcSw dX12_readChange_15 st_X12_524 ?_
    refine z_VB (i_M_isWord (Nat.le_of_ble_eq_true rfl) hs h) vk_X12_isWord kt_113 (Nat.le_of_ble_eq_true rfl) rfl ml_X12_329 ⟨Nat.le_of_ble_eq_true rfl, Nat.le_of_ble_eq_true rfl⟩ ⟨Nat.zero_le _, Nat.zero_le _⟩ rfl rfl (Nat.le_of_ble_eq_true rfl) dX12_readChange_18 (fun r18 μ_17 hs h => ?_)
    refine z_ifeq_b (tgt := 28) dX12_readChange_21 (by decide) h (fun h => ?_) (fun h => ?_)
    · refine z_iconst dX12_readChange_24 ?_
      refine z_goto (tgt := 43) dX12_readChange_25 (by decide) ?_
      refine z_sub (lv' := [(0, vr Γ 113), (1, vi a1), (2, vi a2)]) [0, 1, 2] rfl ?_
      exact B_M_readChange_43 hs h
    · refine z_rload_n dX12_readChange_28 rfl 0 rfl ?_
      refine z_ldcSw dX12_readChange_29 st_X12_526 ?_
      refine z_VB (i_M_isWord (Nat.le_of_ble_eq_true rfl) hs h) vk_X12_isWord kt_113 (Nat.le_of_ble_eq_true rfl) rfl ml_X12_329 ⟨Nat.le_of_ble_eq_true rfl, Nat.le_of_ble_eq_true rfl⟩ ⟨Nat.zero_le _, Nat.zero_le _⟩ rfl rfl (Nat.le_of_ble_eq_true rfl) dX12_readChange_32 (fun r32 μ_18 hs h => ?_)
      refine z_phi 43 [] (fun V9 hv J9 => ?_) h (fun x43 h => ?_)
      · refine z_ifeq_b (tgt := 42) dX12_readChange_35 (by decide) (eq_ite hv) (fun hv => ?_) (fun hv => ?_)
        · refine z_iconst dX12_readChange_38 ?_
          refine z_goto (tgt := 43) dX12_readChange_39 (by decide) ?_
          exact J9 _ hv.symm
        · refine z_iconst dX12_readChange_42 ?_
          exact J9 _ hv.symm
      · refine z_istore_n (lv' := [(3, vi x43), (0, vr Γ 113), (1, vi a1), (2, vi a2)]) dX12_readChange_43 rfl (Nat.le_of_ble_eq_true rfl) rfl ?_
        refine z_iload_n dX12_readChange_44 rfl 0 rfl ?_
        refine z_iconst dX12_readChange_45 ?_
        refine z_icmp_ne (tgt := 57) dX12_readChange_46 (by decide) h (fun h => ?_) (fun h => ?_)
        · refine z_rload_n dX12_readChange_49 rfl 1 rfl ?_
          refine z_iconst dX12_readChange_50 ?_
          refine z_VU (i_M_fails  hs h) vk_X12_fails kt_113 (Nat.le_of_ble_eq_true rfl) rfl ml_X12_325 ⟨Nat.le_of_ble_eq_true rfl, Nat.le_of_ble_eq_true rfl⟩ ⟨Nat.zero_le _, Nat.zero_le _⟩ rfl rfl (Nat.le_of_ble_eq_true rfl) dX12_readChange_51 (fun μ_19 hs h => ?_)
          refine z_goto (tgt := 68) dX12_readChange_54 (by decide) ?_
          refine z_sub (lv' := [(0, vr Γ 113), (1, vi a1), (2, vi a2), (3, vi x43)]) [1, 2, 3, 0] rfl ?_
          exact B_M_readChange_68 hs h
        · refine z_iload_n dX12_readChange_57 rfl 3 rfl ?_
          refine z_bipush dX12_readChange_58 (by decide) ?_
          refine z_icmp_ne (tgt := 68) dX12_readChange_60 (by decide) h (fun h => ?_) (fun h => ?_)
          · refine z_rload_n dX12_readChange_63 rfl 1 rfl ?_
            refine z_iconst dX12_readChange_64 ?_
            refine z_VU (i_M_fails  hs h) vk_X12_fails kt_113 (Nat.le_of_ble_eq_true rfl) rfl ml_X12_325 ⟨Nat.le_of_ble_eq_true rfl, Nat.le_of_ble_eq_true rfl⟩ ⟨Nat.zero_le _, Nat.zero_le _⟩ rfl rfl (Nat.le_of_ble_eq_true rfl) dX12_readChange_65 (fun μ_20 hs h => ?_)
            refine z_sub (lv' := [(0, vr Γ 113), (1, vi a1), (2, vi a2), (3, vi x43)]) [1, 2, 3, 0] rfl ?_
            exact B_M_readChange_68 hs h
          · refine z_sub (lv' := [(0, vr Γ 113), (1, vi a1), (2, vi a2), (3, vi x43)]) [1, 2, 3, 0] rfl ?_
            exact B_M_readChange_68 hs h
abbrev Y_M_amend : Yt := (4, (some .int), yX12_amend.name, { frames := 7, cells := 0, slots := 0, locals := 168 }, 175, 0, 0)
def l_M_amend_39 (a1 : Int) (X_39_68 : Int → Mem → Prop) : Nat → Int → Mem → Prop
  | 0, _, _ => False
  | fu39 + 1, v2, μ_5 => if (v_M_isWell μ_5) = true then (if w (rI μ_5 15515 0) = 0 then (X_39_68 v2 μ_5) else (f_M_readChange (rI μ_5 15474 0) v2 μ_5 (fun μ_6 => (l_M_amend_39 a1 X_39_68 fu39) (v2 + 1) μ_6))) else (X_39_68 v2 μ_5)
def f_M_amend (a1 : Int) (μ : Mem) (k : Int → Mem → Prop) : Prop := ∀ μ_1 : Mem, μ_1 = sI μ 15464 0 0 → f_M_isOpen a1 μ_1 (fun r7 μ_2 => if r7 = true then (if w (rI μ_2 15474 0) = w 40 then (k (-1) μ_2) else (f_M_starts  μ_2 (fun μ_3 => f_M_readChange (rI μ_3 15474 0) 0 μ_3 (fun μ_4 => ∃ m39 : Nat, l_M_amend_39 a1 (fun (v2_1 : Int) (μ_7 : Mem) => f_M_stops  μ_7 (fun r69 μ_8 => if w r69 < 0 then (k r69 μ_8) else (0 ≤ w (rI μ_8 15474 0) ∧ w (rI μ_8 15474 0) < ((40 : Nat) : Int) ∧ ∀ μ_9 : Mem, μ_9 = sI μ_8 119 (w (rI μ_8 15474 0)) v2_1 → 0 ≤ w (rI μ_9 15474 0) ∧ w (rI μ_9 15474 0) < ((40 : Nat) : Int) ∧ ∀ μ_10 : Mem, μ_10 = sI μ_9 118 (w (rI μ_9 15474 0)) a1 → 0 ≤ w (rI μ_10 15474 0) ∧ w (rI μ_10 15474 0) < ((40 : Nat) : Int) ∧ ∀ μ_11 : Mem, μ_11 = sI μ_10 123 (w (rI μ_10 15474 0)) 0 → ∀ μ_12 : Mem, μ_12 = sI μ_11 15474 0 ((rI μ_11 15474 0) + 1) → ∀ μ_13 : Mem, μ_13 = sB μ_12 15536 0 false → k ((rI μ_13 15474 0) - 1) μ_13))) m39 1 μ_4)))) else (k (-1) μ_2))
theorem L_M_amend_39 {l : Launch} {Γ : Gam} {g : Nat} {a1 : Int} {X_39_68 : Int → Mem → Prop} {k : Int → Mem → Prop} (hX_39_68 : ∀ (u2 : Int) (ν : Mem), StatR ν.2.2 → X_39_68 u2 ν → SW l Γ yX12_amend.cls cX12_amend Y_M_amend (pI k) g 175 0 0 ν 68 [(0, vr Γ 113), (1, vi a1), (2, vi u2)] []) (n9 : Nat) : ∀ (v2 : Int) (μ_5 : Mem), StatR μ_5.2.2 → l_M_amend_39 a1 X_39_68 n9 v2 μ_5 → SW l Γ yX12_amend.cls cX12_amend Y_M_amend (pI k) g 175 0 0 μ_5 39 [(0, vr Γ 113), (1, vi a1), (2, vi v2)] [] := by
  induction n9 with
  | zero =>
    intro v2 μ_5 hs h
    exact h.elim
  | succ n9 hR_39 =>
    intro v2 μ_5 hs h
    rw [l_M_amend_39] at h
    refine z_rload_n dX12_amend_39 rfl 0 rfl ?_
    refine z_VE (i_M_isWell ) vk_X12_isWell kt_113 (Nat.le_of_ble_eq_true rfl) rfl ml_X12_316 ⟨Nat.le_of_ble_eq_true rfl, Nat.le_of_ble_eq_true rfl⟩ ⟨Nat.zero_le _, Nat.zero_le _⟩ rfl rfl (Nat.le_of_ble_eq_true rfl) dX12_amend_40 ?_
    refine z_ifeq_b (tgt := 68) dX12_amend_43 (by decide) h (fun h => ?_) (fun h => ?_)
    · refine z_rload_n dX12_amend_46 rfl 0 rfl ?_
      refine z_getI (q := 15515) ff_12_51 dX12_amend_47 kt_113 (Nat.le_of_ble_eq_true rfl) fl_X12_285 rfl ?_
      refine z_if_eq (tgt := 68) dX12_amend_50 (by decide) h (fun h => ?_) (fun h => ?_)
      · refine z_sub (lv' := [(0, vr Γ 113), (1, vi a1), (2, vi v2)]) [0, 1, 2] rfl ?_
        exact hX_39_68 v2 μ_5 hs h
      · refine z_rload_n dX12_amend_53 rfl 0 rfl ?_
        refine z_rload_n dX12_amend_54 rfl 0 rfl ?_
        refine z_getI (q := 15474) ff_12_10 dX12_amend_55 kt_113 (Nat.le_of_ble_eq_true rfl) fl_X12_237 rfl ?_
        refine z_iload_n dX12_amend_58 rfl 2 rfl ?_
        refine z_VU (i_M_readChange  hs h) vk_X12_readChange kt_113 (Nat.le_of_ble_eq_true rfl) rfl ml_X12_531 ⟨Nat.le_of_ble_eq_true rfl, Nat.le_of_ble_eq_true rfl⟩ ⟨Nat.zero_le _, Nat.zero_le _⟩ rfl rfl (Nat.le_of_ble_eq_true rfl) dX12_amend_59 (fun μ_6 hs h => ?_)
        refine z_iinc (j := 2) (lv' := [(2, vi (v2 + 1)), (0, vr Γ 113), (1, vi a1)]) dX12_amend_62 rfl (Nat.le_of_ble_eq_true rfl) rfl ?_
        refine z_goto (tgt := 39) dX12_amend_65 (by decide) ?_
        refine z_sub (lv' := [(0, vr Γ 113), (1, vi a1), (2, vi (v2 + 1))]) [1, 2, 0] rfl ?_
        exact hR_39 (v2 + 1) μ_6 hs h
    · refine z_sub (lv' := [(0, vr Γ 113), (1, vi a1), (2, vi v2)]) [0, 1, 2] rfl ?_
      exact hX_39_68 v2 μ_5 hs h
theorem i_M_amend {l : Launch} {Γ : Gam} {g : Nat} {a1 : Int} {μ : Mem} {k : Int → Mem → Prop} (hs : StatR μ.2.2) (h : f_M_amend a1 μ k) : CT l Γ yX12_amend cX12_amend 4 (some .int) 7 168 0 0 [vr Γ 113, vi a1] g 175 μ (pI k) := by
  refine SW.ct (by decide) (Nat.le_of_ble_eq_true rfl) ?_
  refine z_sub (lv' := [(0, vr Γ 113), (1, vi a1)]) [0, 1] rfl ?_
  show SW l Γ yX12_amend.cls cX12_amend Y_M_amend (pI k) g 175 0 0 μ 0 [(0, vr Γ 113), (1, vi a1)] []
  unfold f_M_amend at h
  refine z_rload_n dX12_amend_0 rfl 0 rfl ?_
  refine z_iconst dX12_amend_1 ?_
  refine z_putI (q := 15464) ff_12_0 (Or.inl rfl) rfl dX12_amend_2 kt_113 (Nat.le_of_ble_eq_true rfl) fl_X12_1 rfl ?_
  refine z_mm (fun μ_1 eμ_1 => ?_)
  replace h := h μ_1 eμ_1
  replace hs : StatR μ_1.2.2 := by rw [eμ_1]; exact hs
  refine z_rload_n dX12_amend_5 rfl 0 rfl ?_
  refine z_iload_n dX12_amend_6 rfl 1 rfl ?_
  refine z_VB (i_M_isOpen  hs h) vk_X12_isOpen kt_113 (Nat.le_of_ble_eq_true rfl) rfl ml_X12_528 ⟨Nat.le_of_ble_eq_true rfl, Nat.le_of_ble_eq_true rfl⟩ ⟨Nat.zero_le _, Nat.zero_le _⟩ rfl rfl (Nat.le_of_ble_eq_true rfl) dX12_amend_7 (fun r7 μ_2 hs h => ?_)
  refine z_ifeq_b (tgt := 22) dX12_amend_10 (by decide) h (fun h => ?_) (fun h => ?_)
  · refine z_rload_n dX12_amend_13 rfl 0 rfl ?_
    refine z_getI (q := 15474) ff_12_10 dX12_amend_14 kt_113 (Nat.le_of_ble_eq_true rfl) fl_X12_237 rfl ?_
    refine z_bipush dX12_amend_17 (by decide) ?_
    refine z_icmp_ne (tgt := 24) dX12_amend_19 (by decide) h (fun h => ?_) (fun h => ?_)
    · refine z_iconst dX12_amend_22 ?_
      exact z_iret rfl dX12_amend_23 rfl rfl rfl ⟨_, rfl, hs, h⟩
    · refine z_rload_n dX12_amend_24 rfl 0 rfl ?_
      refine z_VU (i_M_starts  hs h) vk_X12_starts kt_113 (Nat.le_of_ble_eq_true rfl) rfl ml_X12_424 ⟨Nat.le_of_ble_eq_true rfl, Nat.le_of_ble_eq_true rfl⟩ ⟨Nat.zero_le _, Nat.zero_le _⟩ rfl rfl (Nat.le_of_ble_eq_true rfl) dX12_amend_25 (fun μ_3 hs h => ?_)
      refine z_rload_n dX12_amend_28 rfl 0 rfl ?_
      refine z_rload_n dX12_amend_29 rfl 0 rfl ?_
      refine z_getI (q := 15474) ff_12_10 dX12_amend_30 kt_113 (Nat.le_of_ble_eq_true rfl) fl_X12_237 rfl ?_
      refine z_iconst dX12_amend_33 ?_
      refine z_VU (i_M_readChange  hs h) vk_X12_readChange kt_113 (Nat.le_of_ble_eq_true rfl) rfl ml_X12_531 ⟨Nat.le_of_ble_eq_true rfl, Nat.le_of_ble_eq_true rfl⟩ ⟨Nat.zero_le _, Nat.zero_le _⟩ rfl rfl (Nat.le_of_ble_eq_true rfl) dX12_amend_34 (fun μ_4 hs h => ?_)
      refine z_iconst dX12_amend_37 ?_
      refine z_istore_n (lv' := [(2, vi 1), (0, vr Γ 113), (1, vi a1)]) dX12_amend_38 rfl (Nat.le_of_ble_eq_true rfl) rfl ?_
      obtain ⟨m39, h⟩ := h
      refine z_sub (lv' := [(0, vr Γ 113), (1, vi a1), (2, vi 1)]) [1, 2, 0] rfl ?_
      refine L_M_amend_39 (fun v2_1 μ_7 hs h => ?_) m39 1 μ_4 hs h
      refine z_rload_n dX12_amend_68 rfl 0 rfl ?_
      refine z_VI (i_M_stops  hs h) vk_X12_stops kt_113 (Nat.le_of_ble_eq_true rfl) rfl ml_X12_430 ⟨Nat.le_of_ble_eq_true rfl, Nat.le_of_ble_eq_true rfl⟩ ⟨Nat.zero_le _, Nat.zero_le _⟩ rfl rfl (Nat.le_of_ble_eq_true rfl) dX12_amend_69 (fun r69 μ_8 hs h => ?_)
      refine z_istore_n (lv' := [(3, vi r69), (0, vr Γ 113), (1, vi a1), (2, vi v2_1)]) dX12_amend_72 rfl (Nat.le_of_ble_eq_true rfl) rfl ?_
      refine z_iload_n dX12_amend_73 rfl 0 rfl ?_
      refine z_if_ge (tgt := 79) dX12_amend_74 (by decide) h (fun h => ?_) (fun h => ?_)
      · refine z_iload_n dX12_amend_77 rfl 0 rfl ?_
        exact z_iret rfl dX12_amend_78 rfl rfl rfl ⟨_, rfl, hs, h⟩
      · refine z_rload_n dX12_amend_79 rfl 1 rfl ?_
        refine z_getR (q := 15476) ff_12_12 dX12_amend_80 kt_113 (Nat.le_of_ble_eq_true rfl) fl_X12_32 rfl (hs.1 _ _ sr_15476) ?_
        refine z_rload_n dX12_amend_83 rfl 1 rfl ?_
        refine z_getI (q := 15474) ff_12_10 dX12_amend_84 kt_113 (Nat.le_of_ble_eq_true rfl) fl_X12_237 rfl ?_
        refine z_iload_n dX12_amend_87 rfl 3 rfl ?_
        obtain ⟨h0, h1, h⟩ := h
        refine z_iast dX12_amend_88 kt_119 (Nat.le_of_ble_eq_true rfl) h0 h1 ?_
        refine z_mm (fun μ_9 eμ_9 => ?_)
        replace h := h μ_9 eμ_9
        replace hs : StatR μ_9.2.2 := by rw [eμ_9]; exact hs
        refine z_rload_n dX12_amend_89 rfl 1 rfl ?_
        refine z_getR (q := 15475) ff_12_11 dX12_amend_90 kt_113 (Nat.le_of_ble_eq_true rfl) fl_X12_29 rfl (hs.1 _ _ sr_15475) ?_
        refine z_rload_n dX12_amend_93 rfl 1 rfl ?_
        refine z_getI (q := 15474) ff_12_10 dX12_amend_94 kt_113 (Nat.le_of_ble_eq_true rfl) fl_X12_237 rfl ?_
        refine z_iload_n dX12_amend_97 rfl 2 rfl ?_
        obtain ⟨h0, h1, h⟩ := h
        refine z_iast dX12_amend_98 kt_118 (Nat.le_of_ble_eq_true rfl) h0 h1 ?_
        refine z_mm (fun μ_10 eμ_10 => ?_)
        replace h := h μ_10 eμ_10
        replace hs : StatR μ_10.2.2 := by rw [eμ_10]; exact hs
        refine z_rload_n dX12_amend_99 rfl 1 rfl ?_
        refine z_getR (q := 15482) ff_12_18 dX12_amend_100 kt_113 (Nat.le_of_ble_eq_true rfl) fl_X12_47 rfl (hs.1 _ _ sr_15482) ?_
        refine z_rload_n dX12_amend_103 rfl 1 rfl ?_
        refine z_getI (q := 15474) ff_12_10 dX12_amend_104 kt_113 (Nat.le_of_ble_eq_true rfl) fl_X12_237 rfl ?_
        refine z_iconst dX12_amend_107 ?_
        obtain ⟨h0, h1, h⟩ := h
        refine z_iast dX12_amend_108 kt_123 (Nat.le_of_ble_eq_true rfl) h0 h1 ?_
        refine z_mm (fun μ_11 eμ_11 => ?_)
        replace h := h μ_11 eμ_11
        replace hs : StatR μ_11.2.2 := by rw [eμ_11]; exact hs
        refine z_rload_n dX12_amend_109 rfl 1 rfl ?_
        refine z_dup dX12_amend_110 rfl ?_
        refine z_getI (q := 15474) ff_12_10 dX12_amend_111 kt_113 (Nat.le_of_ble_eq_true rfl) fl_X12_237 rfl ?_
        refine z_iconst dX12_amend_114 ?_
        refine z_iadd dX12_amend_115 ?_
        refine z_putI (q := 15474) ff_12_10 (Or.inl rfl) rfl dX12_amend_116 kt_113 (Nat.le_of_ble_eq_true rfl) fl_X12_237 rfl ?_
        refine z_mm (fun μ_12 eμ_12 => ?_)
        replace h := h μ_12 eμ_12
        replace hs : StatR μ_12.2.2 := by rw [eμ_12]; exact hs
        refine z_rload_n dX12_amend_119 rfl 1 rfl ?_
        refine z_iconst dX12_amend_120 ?_
        refine z_putZ (b := false) (q := 15536) ff_12_72 (Or.inl rfl) rfl dX12_amend_121 kt_113 (Nat.le_of_ble_eq_true rfl) fl_X12_433 rfl ?_
        refine z_mm (fun μ_13 eμ_13 => ?_)
        replace h := h μ_13 eμ_13
        replace hs : StatR μ_13.2.2 := by rw [eμ_13]; exact hs
        refine z_rload_n dX12_amend_124 rfl 1 rfl ?_
        refine z_getI (q := 15474) ff_12_10 dX12_amend_125 kt_113 (Nat.le_of_ble_eq_true rfl) fl_X12_237 rfl ?_
        refine z_iconst dX12_amend_128 ?_
        refine z_isub dX12_amend_129 ?_
        exact z_iret rfl dX12_amend_130 rfl rfl rfl ⟨_, rfl, hs, h⟩
  · refine z_iconst dX12_amend_22 ?_
    exact z_iret rfl dX12_amend_23 rfl rfl rfl ⟨_, rfl, hs, h⟩
abbrev Y_M_settles : Yt := (4, none, yX12_settles.name, { frames := 0, cells := 0, slots := 0, locals := 0 }, 175, 0, 0)
def l_M_settles_9 (a1 : Int) (X_9_49 : Mem → Prop) : Nat → Int → Mem → Prop
  | 0, _, _ => False
  | fu9 + 1, v3, μ_2 => if w v3 < w (rI μ_2 15474 0) then (0 ≤ w v3 ∧ w v3 < ((40 : Nat) : Int) ∧ if w (rI μ_2 118 (w v3)) = w a1 then (0 ≤ w v3 ∧ w v3 < ((40 : Nat) : Int) ∧ if w (rI μ_2 123 (w v3)) = 0 then (0 ≤ w v3 ∧ w v3 < ((40 : Nat) : Int) ∧ ∀ μ_3 : Mem, μ_3 = sI μ_2 123 (w v3) 3 → (l_M_settles_9 a1 X_9_49 fu9) (v3 + 1) μ_3) else ((l_M_settles_9 a1 X_9_49 fu9) (v3 + 1) μ_2)) else ((l_M_settles_9 a1 X_9_49 fu9) (v3 + 1) μ_2)) else (X_9_49 μ_2)
def f_M_settles (a1 : Int) (a2 : Int) (μ : Mem) (k : Mem → Prop) : Prop := 0 ≤ w a1 ∧ w a1 < ((24 : Nat) : Int) ∧ ∀ μ_1 : Mem, μ_1 = sI μ 122 (w a1) a2 → ∃ m9 : Nat, l_M_settles_9 a1 (fun (μ_4 : Mem) => k μ_4) m9 0 μ_1
theorem L_M_settles_9 {l : Launch} {Γ : Gam} {g : Nat} {a1 : Int} {X_9_49 : Mem → Prop} {k : Mem → Prop} (hX_9_49 : ∀ (ν : Mem), StatR ν.2.2 → X_9_49 ν → SW l Γ yX12_settles.cls cX12_settles Y_M_settles (pV k) g 175 0 0 ν 49 [] []) (n9 : Nat) : ∀ (v3 : Int) (μ_2 : Mem), StatR μ_2.2.2 → l_M_settles_9 a1 X_9_49 n9 v3 μ_2 → SW l Γ yX12_settles.cls cX12_settles Y_M_settles (pV k) g 175 0 0 μ_2 9 [(0, vr Γ 113), (1, vi a1), (3, vi v3)] [] := by
  induction n9 with
  | zero =>
    intro v3 μ_2 hs h
    exact h.elim
  | succ n9 hR_9 =>
    intro v3 μ_2 hs h
    rw [l_M_settles_9] at h
    refine z_iload_n dX12_settles_9 rfl 2 rfl ?_
    refine z_rload_n dX12_settles_10 rfl 0 rfl ?_
    refine z_getI (q := 15474) ff_12_10 dX12_settles_11 kt_113 (Nat.le_of_ble_eq_true rfl) fl_X12_237 rfl ?_
    refine z_icmp_ge (tgt := 49) dX12_settles_14 (by decide) h (fun h => ?_) (fun h => ?_)
    · refine z_rload_n dX12_settles_17 rfl 0 rfl ?_
      refine z_getR (q := 15475) ff_12_11 dX12_settles_18 kt_113 (Nat.le_of_ble_eq_true rfl) fl_X12_29 rfl (hs.1 _ _ sr_15475) ?_
      refine z_iload_n dX12_settles_21 rfl 2 rfl ?_
      obtain ⟨h0, h1, h⟩ := h
      refine z_iald dX12_settles_22 kt_118 (Nat.le_of_ble_eq_true rfl) h0 h1 ?_
      refine z_iload_n dX12_settles_23 rfl 1 rfl ?_
      refine z_icmp_ne (tgt := 43) dX12_settles_24 (by decide) h (fun h => ?_) (fun h => ?_)
      · refine z_rload_n dX12_settles_27 rfl 0 rfl ?_
        refine z_getR (q := 15482) ff_12_18 dX12_settles_28 kt_113 (Nat.le_of_ble_eq_true rfl) fl_X12_47 rfl (hs.1 _ _ sr_15482) ?_
        refine z_iload_n dX12_settles_31 rfl 2 rfl ?_
        obtain ⟨h0, h1, h⟩ := h
        refine z_iald dX12_settles_32 kt_123 (Nat.le_of_ble_eq_true rfl) h0 h1 ?_
        refine z_if_ne (tgt := 43) dX12_settles_33 (by decide) h (fun h => ?_) (fun h => ?_)
        · refine z_rload_n dX12_settles_36 rfl 0 rfl ?_
          refine z_getR (q := 15482) ff_12_18 dX12_settles_37 kt_113 (Nat.le_of_ble_eq_true rfl) fl_X12_47 rfl (hs.1 _ _ sr_15482) ?_
          refine z_iload_n dX12_settles_40 rfl 2 rfl ?_
          refine z_iconst dX12_settles_41 ?_
          obtain ⟨h0, h1, h⟩ := h
          refine z_iast dX12_settles_42 kt_123 (Nat.le_of_ble_eq_true rfl) h0 h1 ?_
          refine z_mm (fun μ_3 eμ_3 => ?_)
          replace h := h μ_3 eμ_3
          replace hs : StatR μ_3.2.2 := by rw [eμ_3]; exact hs
          refine z_iinc (j := 2) (lv' := [(3, vi (v3 + 1)), (0, vr Γ 113), (1, vi a1)]) dX12_settles_43 rfl (Nat.le_of_ble_eq_true rfl) rfl ?_
          refine z_goto (tgt := 9) dX12_settles_46 (by decide) ?_
          refine z_sub (lv' := [(0, vr Γ 113), (1, vi a1), (3, vi (v3 + 1))]) [1, 2, 0] rfl ?_
          exact hR_9 (v3 + 1) μ_3 hs h
        · refine z_iinc (j := 2) (lv' := [(3, vi (v3 + 1)), (0, vr Γ 113), (1, vi a1)]) dX12_settles_43 rfl (Nat.le_of_ble_eq_true rfl) rfl ?_
          refine z_goto (tgt := 9) dX12_settles_46 (by decide) ?_
          refine z_sub (lv' := [(0, vr Γ 113), (1, vi a1), (3, vi (v3 + 1))]) [1, 2, 0] rfl ?_
          exact hR_9 (v3 + 1) μ_2 hs h
      · refine z_iinc (j := 2) (lv' := [(3, vi (v3 + 1)), (0, vr Γ 113), (1, vi a1)]) dX12_settles_43 rfl (Nat.le_of_ble_eq_true rfl) rfl ?_
        refine z_goto (tgt := 9) dX12_settles_46 (by decide) ?_
        refine z_sub (lv' := [(0, vr Γ 113), (1, vi a1), (3, vi (v3 + 1))]) [1, 2, 0] rfl ?_
        exact hR_9 (v3 + 1) μ_2 hs h
    · refine z_sub (lv' := []) [] rfl ?_
      exact hX_9_49 μ_2 hs h
theorem i_M_settles {l : Launch} {Γ : Gam} {g : Nat} {a1 : Int} {a2 : Int} {μ : Mem} {k : Mem → Prop} (hs : StatR μ.2.2) (h : f_M_settles a1 a2 μ k) : CT l Γ yX12_settles cX12_settles 4 none 0 0 0 0 [vr Γ 113, vi a1, vi a2] g 175 μ (pV k) := by
  refine SW.ct (by decide) (Nat.le_of_ble_eq_true rfl) ?_
  refine z_sub (lv' := [(0, vr Γ 113), (1, vi a1), (2, vi a2)]) [0, 1, 2] rfl ?_
  show SW l Γ yX12_settles.cls cX12_settles Y_M_settles (pV k) g 175 0 0 μ 0 [(0, vr Γ 113), (1, vi a1), (2, vi a2)] []
  unfold f_M_settles at h
  refine z_rload_n dX12_settles_0 rfl 0 rfl ?_
  refine z_getR (q := 15481) ff_12_17 dX12_settles_1 kt_113 (Nat.le_of_ble_eq_true rfl) fl_X12_44 rfl (hs.1 _ _ sr_15481) ?_
  refine z_iload_n dX12_settles_4 rfl 1 rfl ?_
  refine z_iload_n dX12_settles_5 rfl 2 rfl ?_
  obtain ⟨h0, h1, h⟩ := h
  refine z_iast dX12_settles_6 kt_122 (Nat.le_of_ble_eq_true rfl) h0 h1 ?_
  refine z_mm (fun μ_1 eμ_1 => ?_)
  replace h := h μ_1 eμ_1
  replace hs : StatR μ_1.2.2 := by rw [eμ_1]; exact hs
  refine z_iconst dX12_settles_7 ?_
  refine z_istore_n (lv' := [(3, vi 0), (0, vr Γ 113), (1, vi a1), (2, vi a2)]) dX12_settles_8 rfl (Nat.le_of_ble_eq_true rfl) rfl ?_
  obtain ⟨m9, h⟩ := h
  refine z_sub (lv' := [(0, vr Γ 113), (1, vi a1), (3, vi 0)]) [1, 2, 0] rfl ?_
  refine L_M_settles_9 (fun μ_4 hs h => ?_) m9 0 μ_1 hs h
  exact z_vret rfl dX12_settles_49 rfl rfl rfl ⟨rfl, hs, h⟩
abbrev Y_M_isContrary : Yt := (4, (some .boolean), yX12_isContrary.name, { frames := 0, cells := 0, slots := 0, locals := 0 }, 175, 0, 0)
def l_M_isContrary_2 (a1 : Int) (a2 : Int) (μ : Mem) (k : Bool → Mem → Prop) : Nat → Int → Prop
  | 0, _ => False
  | fu2 + 1, v3 => 0 ≤ w a1 ∧ w a1 < ((24 : Nat) : Int) ∧ if w v3 < w (rI μ 125 (w a1)) then (0 ≤ w ((12 * a1) + v3) ∧ w ((12 * a1) + v3) < ((288 : Nat) : Int) ∧ if w (rI μ 126 (w ((12 * a1) + v3))) = w (-a2) then (k true μ) else ((l_M_isContrary_2 a1 a2 μ k fu2) (v3 + 1))) else (k false μ)
def f_M_isContrary (a1 : Int) (a2 : Int) (μ : Mem) (k : Bool → Mem → Prop) : Prop := ∃ m2 : Nat, l_M_isContrary_2 a1 a2 μ k m2 0
theorem L_M_isContrary_2 {l : Launch} {Γ : Gam} {g : Nat} {a1 : Int} {a2 : Int} {μ : Mem} {k : Bool → Mem → Prop} (hs : StatR μ.2.2) (n9 : Nat) : ∀ (v3 : Int), l_M_isContrary_2 a1 a2 μ k n9 v3 → SW l Γ yX12_isContrary.cls cX12_isContrary Y_M_isContrary (pB k) g 175 0 0 μ 2 [(0, vr Γ 113), (1, vi a1), (2, vi a2), (3, vi v3)] [] := by
  induction n9 with
  | zero =>
    intro v3 h
    exact h.elim
  | succ n9 hR_2 =>
    intro v3 h
    rw [l_M_isContrary_2] at h
    refine z_iload_n dX12_isContrary_2 rfl 3 rfl ?_
    refine z_rload_n dX12_isContrary_3 rfl 0 rfl ?_
    refine z_getR (q := 15484) ff_12_20 dX12_isContrary_4 kt_113 (Nat.le_of_ble_eq_true rfl) fl_X12_53 rfl (hs.1 _ _ sr_15484) ?_
    refine z_iload_n dX12_isContrary_7 rfl 1 rfl ?_
    obtain ⟨h0, h1, h⟩ := h
    refine z_iald dX12_isContrary_8 kt_125 (Nat.le_of_ble_eq_true rfl) h0 h1 ?_
    refine z_icmp_ge (tgt := 36) dX12_isContrary_9 (by decide) h (fun h => ?_) (fun h => ?_)
    · refine z_rload_n dX12_isContrary_12 rfl 0 rfl ?_
      refine z_getR (q := 15485) ff_12_21 dX12_isContrary_13 kt_113 (Nat.le_of_ble_eq_true rfl) fl_X12_56 rfl (hs.1 _ _ sr_15485) ?_
      refine z_bipush dX12_isContrary_16 (by decide) ?_
      refine z_iload_n dX12_isContrary_18 rfl 1 rfl ?_
      refine z_imul dX12_isContrary_19 ?_
      refine z_iload_n dX12_isContrary_20 rfl 3 rfl ?_
      refine z_iadd dX12_isContrary_21 ?_
      obtain ⟨h0, h1, h⟩ := h
      refine z_iald dX12_isContrary_22 kt_126 (Nat.le_of_ble_eq_true rfl) h0 h1 ?_
      refine z_iload_n dX12_isContrary_23 rfl 2 rfl ?_
      refine z_ineg dX12_isContrary_24 ?_
      refine z_icmp_ne (tgt := 30) dX12_isContrary_25 (by decide) h (fun h => ?_) (fun h => ?_)
      · refine z_iconst dX12_isContrary_28 ?_
        exact z_zret (b := true) rfl dX12_isContrary_29 rfl rfl rfl ⟨_, rfl, hs, h⟩
      · refine z_iinc (j := 3) (lv' := [(3, vi (v3 + 1)), (0, vr Γ 113), (1, vi a1), (2, vi a2)]) dX12_isContrary_30 rfl (Nat.le_of_ble_eq_true rfl) rfl ?_
        refine z_goto (tgt := 2) dX12_isContrary_33 (by decide) ?_
        refine z_sub (lv' := [(0, vr Γ 113), (1, vi a1), (2, vi a2), (3, vi (v3 + 1))]) [1, 2, 3, 0] rfl ?_
        exact hR_2 (v3 + 1) h
    · refine z_iconst dX12_isContrary_36 ?_
      exact z_zret (b := false) rfl dX12_isContrary_37 rfl rfl rfl ⟨_, rfl, hs, h⟩
theorem i_M_isContrary {l : Launch} {Γ : Gam} {g : Nat} {a1 : Int} {a2 : Int} {μ : Mem} {k : Bool → Mem → Prop} (hs : StatR μ.2.2) (h : f_M_isContrary a1 a2 μ k) : CT l Γ yX12_isContrary cX12_isContrary 4 (some .boolean) 0 0 0 0 [vr Γ 113, vi a1, vi a2] g 175 μ (pB k) := by
  refine SW.ct (by decide) (Nat.le_of_ble_eq_true rfl) ?_
  refine z_sub (lv' := [(0, vr Γ 113), (1, vi a1), (2, vi a2)]) [0, 1, 2] rfl ?_
  show SW l Γ yX12_isContrary.cls cX12_isContrary Y_M_isContrary (pB k) g 175 0 0 μ 0 [(0, vr Γ 113), (1, vi a1), (2, vi a2)] []
  unfold f_M_isContrary at h
  refine z_iconst dX12_isContrary_0 ?_
  refine z_istore_n (lv' := [(3, vi 0), (0, vr Γ 113), (1, vi a1), (2, vi a2)]) dX12_isContrary_1 rfl (Nat.le_of_ble_eq_true rfl) rfl ?_
  obtain ⟨m2, h⟩ := h
  refine z_sub (lv' := [(0, vr Γ 113), (1, vi a1), (2, vi a2), (3, vi 0)]) [1, 2, 3, 0] rfl ?_
  refine L_M_isContrary_2 hs  m2 0 h
abbrev Y_M_passesMotion : Yt := (5, none, yX12_passesMotion.name, { frames := 1, cells := 0, slots := 0, locals := 23 }, 175, 0, 0)
def l_M_passesMotion_51 (a1 : Int) (v2 : Int) (v3 : Int) (X_51_93 : Mem → Prop) : Nat → Int → Mem → Prop
  | 0, _, _ => False
  | fu51 + 1, v4, μ_4 => if w v4 < w (rI μ_4 15472 0) then (0 ≤ w v4 ∧ w v4 < ((24 : Nat) : Int) ∧ if w (rI μ_4 122 (w v4)) = 0 then (f_M_isContrary v4 v3 μ_4 (fun r74 μ_5 => if r74 = true then (f_M_settles v4 3 μ_5 (fun μ_6 => (l_M_passesMotion_51 a1 v2 v3 X_51_93 fu51) (v4 + 1) μ_6)) else ((l_M_passesMotion_51 a1 v2 v3 X_51_93 fu51) (v4 + 1) μ_5))) else ((l_M_passesMotion_51 a1 v2 v3 X_51_93 fu51) (v4 + 1) μ_4)) else (X_51_93 μ_4)
def l_M_passesMotion_8 (a1 : Int) (X_8_99 : Mem → Prop) : Nat → Int → Mem → Prop
  | 0, _, _ => False
  | fu8 + 1, v2, μ_2 => 0 ≤ w a1 ∧ w a1 < ((24 : Nat) : Int) ∧ if w v2 < w (rI μ_2 125 (w a1)) then (0 ≤ w ((12 * a1) + v2) ∧ w ((12 * a1) + v2) < ((288 : Nat) : Int) ∧ ∀ v3 : Int, v3 = rI μ_2 126 (w ((12 * a1) + v2)) → ∀ x47 : Int, x47 = (if 0 < w v3 then 1 else (-1)) → 0 ≤ w (v_M_size v3) ∧ w (v_M_size v3) < ((61 : Nat) : Int) ∧ ∀ μ_3 : Mem, μ_3 = sI μ_2 129 (w (v_M_size v3)) x47 → ∃ m51 : Nat, l_M_passesMotion_51 a1 v2 v3 (fun (μ_7 : Mem) => (l_M_passesMotion_8 a1 X_8_99 fu8) (v2 + 1) μ_7) m51 0 μ_3) else (X_8_99 μ_2)
def f_M_passesMotion (a1 : Int) (μ : Mem) (k : Mem → Prop) : Prop := f_M_settles a1 1 μ (fun μ_1 => ∃ m8 : Nat, l_M_passesMotion_8 a1 (fun (μ_8 : Mem) => k μ_8) m8 0 μ_1)
theorem L_M_passesMotion_51 {l : Launch} {Γ : Gam} {g : Nat} {a1 : Int} {v2 : Int} {v3 : Int} {X_51_93 : Mem → Prop} {k : Mem → Prop} (hX_51_93 : ∀ (ν : Mem), StatR ν.2.2 → X_51_93 ν → SW l Γ yX12_passesMotion.cls cX12_passesMotion Y_M_passesMotion (pV k) g 175 0 0 ν 93 [(0, vr Γ 113), (1, vi a1), (2, vi v2)] []) (n9 : Nat) : ∀ (v4 : Int) (μ_4 : Mem), StatR μ_4.2.2 → l_M_passesMotion_51 a1 v2 v3 X_51_93 n9 v4 μ_4 → SW l Γ yX12_passesMotion.cls cX12_passesMotion Y_M_passesMotion (pV k) g 175 0 0 μ_4 51 [(0, vr Γ 113), (1, vi a1), (2, vi v2), (3, vi v3), (4, vi v4)] [] := by
  induction n9 with
  | zero =>
    intro v4 μ_4 hs h
    exact h.elim
  | succ n9 hR_51 =>
    intro v4 μ_4 hs h
    rw [l_M_passesMotion_51] at h
    refine z_iload dX12_passesMotion_51 4 rfl ?_
    refine z_rload_n dX12_passesMotion_53 rfl 0 rfl ?_
    refine z_getI (q := 15472) ff_12_8 dX12_passesMotion_54 kt_113 (Nat.le_of_ble_eq_true rfl) fl_X12_231 rfl ?_
    refine z_icmp_ge (tgt := 93) dX12_passesMotion_57 (by decide) h (fun h => ?_) (fun h => ?_)
    · refine z_rload_n dX12_passesMotion_60 rfl 0 rfl ?_
      refine z_getR (q := 15481) ff_12_17 dX12_passesMotion_61 kt_113 (Nat.le_of_ble_eq_true rfl) fl_X12_44 rfl (hs.1 _ _ sr_15481) ?_
      refine z_iload dX12_passesMotion_64 4 rfl ?_
      obtain ⟨h0, h1, h⟩ := h
      refine z_iald dX12_passesMotion_66 kt_122 (Nat.le_of_ble_eq_true rfl) h0 h1 ?_
      refine z_if_ne (tgt := 87) dX12_passesMotion_67 (by decide) h (fun h => ?_) (fun h => ?_)
      · refine z_rload_n dX12_passesMotion_70 rfl 0 rfl ?_
        refine z_iload dX12_passesMotion_71 4 rfl ?_
        refine z_iload_n dX12_passesMotion_73 rfl 3 rfl ?_
        refine z_VB (i_M_isContrary  hs h) vk_X12_isContrary kt_113 (Nat.le_of_ble_eq_true rfl) rfl ml_X12_537 ⟨Nat.le_of_ble_eq_true rfl, Nat.le_of_ble_eq_true rfl⟩ ⟨Nat.zero_le _, Nat.zero_le _⟩ rfl rfl (Nat.le_of_ble_eq_true rfl) dX12_passesMotion_74 (fun r74 μ_5 hs h => ?_)
        refine z_ifeq_b (tgt := 87) dX12_passesMotion_77 (by decide) h (fun h => ?_) (fun h => ?_)
        · refine z_rload_n dX12_passesMotion_80 rfl 0 rfl ?_
          refine z_iload dX12_passesMotion_81 4 rfl ?_
          refine z_iconst dX12_passesMotion_83 ?_
          refine z_VU (i_M_settles  hs h) vk_X12_settles kt_113 (Nat.le_of_ble_eq_true rfl) rfl ml_X12_534 ⟨Nat.le_of_ble_eq_true rfl, Nat.le_of_ble_eq_true rfl⟩ ⟨Nat.zero_le _, Nat.zero_le _⟩ rfl rfl (Nat.le_of_ble_eq_true rfl) dX12_passesMotion_84 (fun μ_6 hs h => ?_)
          refine z_iinc (j := 4) (lv' := [(4, vi (v4 + 1)), (0, vr Γ 113), (1, vi a1), (2, vi v2), (3, vi v3)]) dX12_passesMotion_87 rfl (Nat.le_of_ble_eq_true rfl) rfl ?_
          refine z_goto (tgt := 51) dX12_passesMotion_90 (by decide) ?_
          refine z_sub (lv' := [(0, vr Γ 113), (1, vi a1), (2, vi v2), (3, vi v3), (4, vi (v4 + 1))]) [1, 2, 3, 4, 0] rfl ?_
          exact hR_51 (v4 + 1) μ_6 hs h
        · refine z_iinc (j := 4) (lv' := [(4, vi (v4 + 1)), (0, vr Γ 113), (1, vi a1), (2, vi v2), (3, vi v3)]) dX12_passesMotion_87 rfl (Nat.le_of_ble_eq_true rfl) rfl ?_
          refine z_goto (tgt := 51) dX12_passesMotion_90 (by decide) ?_
          refine z_sub (lv' := [(0, vr Γ 113), (1, vi a1), (2, vi v2), (3, vi v3), (4, vi (v4 + 1))]) [1, 2, 3, 4, 0] rfl ?_
          exact hR_51 (v4 + 1) μ_5 hs h
      · refine z_iinc (j := 4) (lv' := [(4, vi (v4 + 1)), (0, vr Γ 113), (1, vi a1), (2, vi v2), (3, vi v3)]) dX12_passesMotion_87 rfl (Nat.le_of_ble_eq_true rfl) rfl ?_
        refine z_goto (tgt := 51) dX12_passesMotion_90 (by decide) ?_
        refine z_sub (lv' := [(0, vr Γ 113), (1, vi a1), (2, vi v2), (3, vi v3), (4, vi (v4 + 1))]) [1, 2, 3, 4, 0] rfl ?_
        exact hR_51 (v4 + 1) μ_4 hs h
    · refine z_sub (lv' := [(0, vr Γ 113), (1, vi a1), (2, vi v2)]) [0, 1, 2] rfl ?_
      exact hX_51_93 μ_4 hs h
theorem L_M_passesMotion_8 {l : Launch} {Γ : Gam} {g : Nat} {a1 : Int} {X_8_99 : Mem → Prop} {k : Mem → Prop} (hX_8_99 : ∀ (ν : Mem), StatR ν.2.2 → X_8_99 ν → SW l Γ yX12_passesMotion.cls cX12_passesMotion Y_M_passesMotion (pV k) g 175 0 0 ν 99 [] []) (n9 : Nat) : ∀ (v2 : Int) (μ_2 : Mem), StatR μ_2.2.2 → l_M_passesMotion_8 a1 X_8_99 n9 v2 μ_2 → SW l Γ yX12_passesMotion.cls cX12_passesMotion Y_M_passesMotion (pV k) g 175 0 0 μ_2 8 [(0, vr Γ 113), (1, vi a1), (2, vi v2)] [] := by
  induction n9 with
  | zero =>
    intro v2 μ_2 hs h
    exact h.elim
  | succ n9 hR_8 =>
    intro v2 μ_2 hs h
    rw [l_M_passesMotion_8] at h
    refine z_iload_n dX12_passesMotion_8 rfl 2 rfl ?_
    refine z_rload_n dX12_passesMotion_9 rfl 0 rfl ?_
    refine z_getR (q := 15484) ff_12_20 dX12_passesMotion_10 kt_113 (Nat.le_of_ble_eq_true rfl) fl_X12_53 rfl (hs.1 _ _ sr_15484) ?_
    refine z_iload_n dX12_passesMotion_13 rfl 1 rfl ?_
    obtain ⟨h0, h1, h⟩ := h
    refine z_iald dX12_passesMotion_14 kt_125 (Nat.le_of_ble_eq_true rfl) h0 h1 ?_
    refine z_icmp_ge (tgt := 99) dX12_passesMotion_15 (by decide) h (fun h => ?_) (fun h => ?_)
    · refine z_rload_n dX12_passesMotion_18 rfl 0 rfl ?_
      refine z_getR (q := 15485) ff_12_21 dX12_passesMotion_19 kt_113 (Nat.le_of_ble_eq_true rfl) fl_X12_56 rfl (hs.1 _ _ sr_15485) ?_
      refine z_bipush dX12_passesMotion_22 (by decide) ?_
      refine z_iload_n dX12_passesMotion_24 rfl 1 rfl ?_
      refine z_imul dX12_passesMotion_25 ?_
      refine z_iload_n dX12_passesMotion_26 rfl 2 rfl ?_
      refine z_iadd dX12_passesMotion_27 ?_
      obtain ⟨h0, h1, h⟩ := h
      refine z_iald dX12_passesMotion_28 kt_126 (Nat.le_of_ble_eq_true rfl) h0 h1 ?_
      refine z_nm (fun v3 ev3 => ?_)
      replace h := h v3 ev3
      refine z_istore_n (lv' := [(3, vi v3), (0, vr Γ 113), (1, vi a1), (2, vi v2)]) dX12_passesMotion_29 rfl (Nat.le_of_ble_eq_true rfl) rfl ?_
      refine z_rload_n dX12_passesMotion_30 rfl 1 rfl ?_
      refine z_getR (q := 15488) ff_12_24 dX12_passesMotion_31 kt_113 (Nat.le_of_ble_eq_true rfl) fl_X12_66 rfl (hs.1 _ _ sr_15488) ?_
      refine z_iload_n dX12_passesMotion_34 rfl 0 rfl ?_
      refine z_SE (i_M_size ) sk_X12_size ml_X12_489 ⟨Nat.le_of_ble_eq_true rfl, Nat.le_of_ble_eq_true rfl⟩ ⟨Nat.zero_le _, Nat.zero_le _⟩ rfl rfl (Nat.le_of_ble_eq_true rfl) dX12_passesMotion_35 ?_
      refine z_iload_n dX12_passesMotion_38 rfl 0 rfl ?_
      refine z_phi 47 [vi (v_M_size v3), vr Γ 129] (fun V9 hv J9 => ?_) h (fun x47 h => ?_)
      · refine z_if_le (tgt := 46) dX12_passesMotion_39 (by decide) (eq_ite hv) (fun hv => ?_) (fun hv => ?_)
        · refine z_iconst dX12_passesMotion_42 ?_
          refine z_goto (tgt := 47) dX12_passesMotion_43 (by decide) ?_
          exact J9 _ hv.symm
        · refine z_iconst dX12_passesMotion_46 ?_
          exact J9 _ hv.symm
      · obtain ⟨h0, h1, h⟩ := h
        refine z_iast dX12_passesMotion_47 kt_129 (Nat.le_of_ble_eq_true rfl) h0 h1 ?_
        refine z_mm (fun μ_3 eμ_3 => ?_)
        replace h := h μ_3 eμ_3
        replace hs : StatR μ_3.2.2 := by rw [eμ_3]; exact hs
        refine z_iconst dX12_passesMotion_48 ?_
        refine z_istore (lv' := [(4, vi 0), (3, vi v3), (0, vr Γ 113), (1, vi a1), (2, vi v2)]) dX12_passesMotion_49 (Nat.le_of_ble_eq_true rfl) rfl ?_
        obtain ⟨m51, h⟩ := h
        refine z_sub (lv' := [(0, vr Γ 113), (1, vi a1), (2, vi v2), (3, vi v3), (4, vi 0)]) [2, 3, 4, 1, 0] rfl ?_
        refine L_M_passesMotion_51 (fun μ_7 hs h => ?_) m51 0 μ_3 hs h
        refine z_iinc (j := 2) (lv' := [(2, vi (v2 + 1)), (0, vr Γ 113), (1, vi a1)]) dX12_passesMotion_93 rfl (Nat.le_of_ble_eq_true rfl) rfl ?_
        refine z_goto (tgt := 8) dX12_passesMotion_96 (by decide) ?_
        refine z_sub (lv' := [(0, vr Γ 113), (1, vi a1), (2, vi (v2 + 1))]) [1, 2, 0] rfl ?_
        exact hR_8 (v2 + 1) μ_7 hs h
    · refine z_sub (lv' := []) [] rfl ?_
      exact hX_8_99 μ_2 hs h
theorem i_M_passesMotion {l : Launch} {Γ : Gam} {g : Nat} {a1 : Int} {μ : Mem} {k : Mem → Prop} (hs : StatR μ.2.2) (h : f_M_passesMotion a1 μ k) : CT l Γ yX12_passesMotion cX12_passesMotion 5 none 1 23 0 0 [vr Γ 113, vi a1] g 175 μ (pV k) := by
  refine SW.ct (by decide) (Nat.le_of_ble_eq_true rfl) ?_
  refine z_sub (lv' := [(0, vr Γ 113), (1, vi a1)]) [0, 1] rfl ?_
  show SW l Γ yX12_passesMotion.cls cX12_passesMotion Y_M_passesMotion (pV k) g 175 0 0 μ 0 [(0, vr Γ 113), (1, vi a1)] []
  unfold f_M_passesMotion at h
  refine z_rload_n dX12_passesMotion_0 rfl 0 rfl ?_
  refine z_iload_n dX12_passesMotion_1 rfl 1 rfl ?_
  refine z_iconst dX12_passesMotion_2 ?_
  refine z_VU (i_M_settles  hs h) vk_X12_settles kt_113 (Nat.le_of_ble_eq_true rfl) rfl ml_X12_534 ⟨Nat.le_of_ble_eq_true rfl, Nat.le_of_ble_eq_true rfl⟩ ⟨Nat.zero_le _, Nat.zero_le _⟩ rfl rfl (Nat.le_of_ble_eq_true rfl) dX12_passesMotion_3 (fun μ_1 hs h => ?_)
  refine z_iconst dX12_passesMotion_6 ?_
  refine z_istore_n (lv' := [(2, vi 0), (0, vr Γ 113), (1, vi a1)]) dX12_passesMotion_7 rfl (Nat.le_of_ble_eq_true rfl) rfl ?_
  obtain ⟨m8, h⟩ := h
  refine z_sub (lv' := [(0, vr Γ 113), (1, vi a1), (2, vi 0)]) [1, 2, 0] rfl ?_
  refine L_M_passesMotion_8 (fun μ_8 hs h => ?_) m8 0 μ_1 hs h
  exact z_vret rfl dX12_passesMotion_99 rfl rfl rfl ⟨rfl, hs, h⟩
abbrev Y_M_passesAmend : Yt := (3, none, yX12_passesAmend.name, { frames := 2, cells := 0, slots := 0, locals := 46 }, 175, 0, 0)
def f_M_passesAmend (a1 : Int) (μ : Mem) (k : Mem → Prop) : Prop := 0 ≤ w a1 ∧ w a1 < ((40 : Nat) : Int) ∧ ∀ μ_1 : Mem, μ_1 = sI μ 123 (w a1) 1 → 0 ≤ w a1 ∧ w a1 < ((40 : Nat) : Int) ∧ ∀ v2 : Int, v2 = rI μ_1 118 (w a1) → f_M_takesRow v2 μ_1 (fun μ_2 => f_M_does a1 μ_2 (fun μ_3 => f_M_laysRow v2 μ_3 (fun μ_4 => 0 ≤ w v2 ∧ w v2 < ((24 : Nat) : Int) ∧ if w (rI μ_4 125 (w v2)) = 0 then (f_M_settles v2 3 μ_4 (fun μ_5 => k μ_5)) else (k μ_4))))
theorem i_M_passesAmend {l : Launch} {Γ : Gam} {g : Nat} {a1 : Int} {μ : Mem} {k : Mem → Prop} (hs : StatR μ.2.2) (h : f_M_passesAmend a1 μ k) : CT l Γ yX12_passesAmend cX12_passesAmend 3 none 2 46 0 0 [vr Γ 113, vi a1] g 175 μ (pV k) := by
  refine SW.ct (by decide) (Nat.le_of_ble_eq_true rfl) ?_
  refine z_sub (lv' := [(0, vr Γ 113), (1, vi a1)]) [0, 1] rfl ?_
  show SW l Γ yX12_passesAmend.cls cX12_passesAmend Y_M_passesAmend (pV k) g 175 0 0 μ 0 [(0, vr Γ 113), (1, vi a1)] []
  unfold f_M_passesAmend at h
  refine z_rload_n dX12_passesAmend_0 rfl 0 rfl ?_
  refine z_getR (q := 15482) ff_12_18 dX12_passesAmend_1 kt_113 (Nat.le_of_ble_eq_true rfl) fl_X12_47 rfl (hs.1 _ _ sr_15482) ?_
  refine z_iload_n dX12_passesAmend_4 rfl 1 rfl ?_
  refine z_iconst dX12_passesAmend_5 ?_
  obtain ⟨h0, h1, h⟩ := h
  refine z_iast dX12_passesAmend_6 kt_123 (Nat.le_of_ble_eq_true rfl) h0 h1 ?_
  refine z_mm (fun μ_1 eμ_1 => ?_)
  replace h := h μ_1 eμ_1
  replace hs : StatR μ_1.2.2 := by rw [eμ_1]; exact hs
  refine z_rload_n dX12_passesAmend_7 rfl 0 rfl ?_
  refine z_getR (q := 15475) ff_12_11 dX12_passesAmend_8 kt_113 (Nat.le_of_ble_eq_true rfl) fl_X12_29 rfl (hs.1 _ _ sr_15475) ?_
  refine z_iload_n dX12_passesAmend_11 rfl 1 rfl ?_
  obtain ⟨h0, h1, h⟩ := h
  refine z_iald dX12_passesAmend_12 kt_118 (Nat.le_of_ble_eq_true rfl) h0 h1 ?_
  refine z_nm (fun v2 ev2 => ?_)
  replace h := h v2 ev2
  refine z_istore_n (lv' := [(2, vi v2), (0, vr Γ 113), (1, vi a1)]) dX12_passesAmend_13 rfl (Nat.le_of_ble_eq_true rfl) rfl ?_
  refine z_rload_n dX12_passesAmend_14 rfl 1 rfl ?_
  refine z_iload_n dX12_passesAmend_15 rfl 0 rfl ?_
  refine z_VU (i_M_takesRow  hs h) vk_X12_takesRow kt_113 (Nat.le_of_ble_eq_true rfl) rfl ml_X12_492 ⟨Nat.le_of_ble_eq_true rfl, Nat.le_of_ble_eq_true rfl⟩ ⟨Nat.zero_le _, Nat.zero_le _⟩ rfl rfl (Nat.le_of_ble_eq_true rfl) dX12_passesAmend_16 (fun μ_2 hs h => ?_)
  refine z_rload_n dX12_passesAmend_19 rfl 1 rfl ?_
  refine z_iload_n dX12_passesAmend_20 rfl 2 rfl ?_
  refine z_VU (i_M_does  hs h) vk_X12_does kt_113 (Nat.le_of_ble_eq_true rfl) rfl ml_X12_495 ⟨Nat.le_of_ble_eq_true rfl, Nat.le_of_ble_eq_true rfl⟩ ⟨Nat.zero_le _, Nat.zero_le _⟩ rfl rfl (Nat.le_of_ble_eq_true rfl) dX12_passesAmend_21 (fun μ_3 hs h => ?_)
  refine z_rload_n dX12_passesAmend_24 rfl 1 rfl ?_
  refine z_iload_n dX12_passesAmend_25 rfl 0 rfl ?_
  refine z_VU (i_M_laysRow  hs h) vk_X12_laysRow kt_113 (Nat.le_of_ble_eq_true rfl) rfl ml_X12_519 ⟨Nat.le_of_ble_eq_true rfl, Nat.le_of_ble_eq_true rfl⟩ ⟨Nat.zero_le _, Nat.zero_le _⟩ rfl rfl (Nat.le_of_ble_eq_true rfl) dX12_passesAmend_26 (fun μ_4 hs h => ?_)
  refine z_rload_n dX12_passesAmend_29 rfl 1 rfl ?_
  refine z_getR (q := 15484) ff_12_20 dX12_passesAmend_30 kt_113 (Nat.le_of_ble_eq_true rfl) fl_X12_53 rfl (hs.1 _ _ sr_15484) ?_
  refine z_iload_n dX12_passesAmend_33 rfl 0 rfl ?_
  obtain ⟨h0, h1, h⟩ := h
  refine z_iald dX12_passesAmend_34 kt_125 (Nat.le_of_ble_eq_true rfl) h0 h1 ?_
  refine z_if_ne (tgt := 44) dX12_passesAmend_35 (by decide) h (fun h => ?_) (fun h => ?_)
  · refine z_rload_n dX12_passesAmend_38 rfl 1 rfl ?_
    refine z_iload_n dX12_passesAmend_39 rfl 0 rfl ?_
    refine z_iconst dX12_passesAmend_40 ?_
    refine z_VU (i_M_settles  hs h) vk_X12_settles kt_113 (Nat.le_of_ble_eq_true rfl) rfl ml_X12_534 ⟨Nat.le_of_ble_eq_true rfl, Nat.le_of_ble_eq_true rfl⟩ ⟨Nat.zero_le _, Nat.zero_le _⟩ rfl rfl (Nat.le_of_ble_eq_true rfl) dX12_passesAmend_41 (fun μ_5 hs h => ?_)
    exact z_vret rfl dX12_passesAmend_44 rfl rfl rfl ⟨rfl, hs, h⟩
  · exact z_vret rfl dX12_passesAmend_44 rfl rfl rfl ⟨rfl, hs, h⟩
abbrev Y_M_decides : Yt := (6, (some .int), yX12_decides.name, { frames := 5, cells := 0, slots := 0, locals := 120 }, 175, 0, 0)
def l_M_decides_128 (a1 : Int) (a3 : Int) (r16 : Bool) (X_128_169 : Mem → Prop) : Nat → Int → Mem → Prop
  | 0, _, _ => False
  | fu128 + 1, v5, μ_10 => if w v5 < w (rI μ_10 15466 0) then (0 ≤ w v5 ∧ w v5 < ((12 : Nat) : Int) ∧ if (rB μ_10 153 (w v5)) = true then (0 ≤ w ((7 * a3) + 6) ∧ w ((7 * a3) + 6) < ((700 : Nat) : Int) ∧ 0 ≤ w ((7 * a3) + 6) ∧ w ((7 * a3) + 6) < ((700 : Nat) : Int) ∧ ∀ μ_11 : Mem, μ_11 = sI μ_10 158 (w ((7 * a3) + 6)) ((rI μ_10 158 (w ((7 * a3) + 6))) + 1) → (l_M_decides_128 a1 a3 r16 X_128_169 fu128) (v5 + 1) μ_11) else ((l_M_decides_128 a1 a3 r16 X_128_169 fu128) (v5 + 1) μ_10)) else (X_128_169 μ_10)
def f_M_decides (a1 : Int) (a2 : Int) (a3 : Int) (μ : Mem) (k : Int → Mem → Prop) : Prop := f_M_findCount a1 a2 0 (-1) true μ (fun μ_1 => f_M_passes a1 a2 129 61 μ_1 (fun r16 μ_2 => 0 ≤ w (7 * a3) ∧ w (7 * a3) < ((700 : Nat) : Int) ∧ ∀ μ_3 : Mem, μ_3 = sI μ_2 158 (w (7 * a3)) a1 → 0 ≤ w ((7 * a3) + 1) ∧ w ((7 * a3) + 1) < ((700 : Nat) : Int) ∧ ∀ μ_4 : Mem, μ_4 = sI μ_3 158 (w ((7 * a3) + 1)) a2 → 0 ≤ w ((7 * a3) + 2) ∧ w ((7 * a3) + 2) < ((700 : Nat) : Int) ∧ ∀ μ_5 : Mem, μ_5 = sI μ_4 158 (w ((7 * a3) + 2)) (w_l2i (rL μ_4 15525 0)) → 0 ≤ w ((7 * a3) + 3) ∧ w ((7 * a3) + 3) < ((700 : Nat) : Int) ∧ ∀ μ_6 : Mem, μ_6 = sI μ_5 158 (w ((7 * a3) + 3)) (w_l2i (rL μ_5 15526 0)) → 0 ≤ w ((7 * a3) + 4) ∧ w ((7 * a3) + 4) < ((700 : Nat) : Int) ∧ ∀ μ_7 : Mem, μ_7 = sI μ_6 158 (w ((7 * a3) + 4)) (w_l2i (rL μ_6 15527 0)) → ∀ x111 : Int, x111 = (if r16 = true then 1 else 0) → 0 ≤ w ((7 * a3) + 5) ∧ w ((7 * a3) + 5) < ((700 : Nat) : Int) ∧ ∀ μ_8 : Mem, μ_8 = sI μ_7 158 (w ((7 * a3) + 5)) x111 → 0 ≤ w ((7 * a3) + 6) ∧ w ((7 * a3) + 6) < ((700 : Nat) : Int) ∧ ∀ μ_9 : Mem, μ_9 = sI μ_8 158 (w ((7 * a3) + 6)) 0 → ∃ m128 : Nat, l_M_decides_128 a1 a3 r16 (fun (μ_12 : Mem) => if w a1 < w 100 then (if r16 = true then (f_M_passesMotion a1 μ_12 (fun μ_13 => ∀ x277 : Int, x277 = (if r16 = true then 1 else 0) → k x277 μ_13)) else (f_M_settles a1 2 μ_12 (fun μ_14 => ∀ x277_1 : Int, x277_1 = (if r16 = true then 1 else 0) → k x277_1 μ_14))) else (if w a1 < w 200 then (if r16 = true then (f_M_passesAmend (a1 - 100) μ_12 (fun μ_15 => ∀ x277_2 : Int, x277_2 = (if r16 = true then 1 else 0) → k x277_2 μ_15)) else (0 ≤ w (a1 - 100) ∧ w (a1 - 100) < ((40 : Nat) : Int) ∧ ∀ μ_16 : Mem, μ_16 = sI μ_12 123 (w (a1 - 100)) 2 → ∀ x277_3 : Int, x277_3 = (if r16 = true then 1 else 0) → k x277_3 μ_16)) else (∀ x252 : Int, x252 = (if r16 = true then 1 else 2) → 0 ≤ w (a1 - 200) ∧ w (a1 - 200) < ((10 : Nat) : Int) ∧ ∀ μ_17 : Mem, μ_17 = sI μ_12 124 (w (a1 - 200)) x252 → if r16 = true then (∀ μ_18 : Mem, μ_18 = sI μ_17 15480 0 (a1 - 200) → ∀ x277_4 : Int, x277_4 = (if r16 = true then 1 else 0) → k x277_4 μ_18) else (∀ x277_5 : Int, x277_5 = (if r16 = true then 1 else 0) → k x277_5 μ_17)))) m128 0 μ_9))
theorem L_M_decides_128 {l : Launch} {Γ : Gam} {g : Nat} {a1 : Int} {a3 : Int} {r16 : Bool} {X_128_169 : Mem → Prop} {k : Int → Mem → Prop} (hX_128_169 : ∀ (ν : Mem), StatR ν.2.2 → X_128_169 ν → SW l Γ yX12_decides.cls cX12_decides Y_M_decides (pI k) g 175 0 0 ν 169 [(0, vr Γ 113), (1, vi a1), (4, vi (b2i r16))] []) (n9 : Nat) : ∀ (v5 : Int) (μ_10 : Mem), StatR μ_10.2.2 → l_M_decides_128 a1 a3 r16 X_128_169 n9 v5 μ_10 → SW l Γ yX12_decides.cls cX12_decides Y_M_decides (pI k) g 175 0 0 μ_10 128 [(0, vr Γ 113), (1, vi a1), (3, vi a3), (4, vi (b2i r16)), (5, vi v5)] [] := by
  induction n9 with
  | zero =>
    intro v5 μ_10 hs h
    exact h.elim
  | succ n9 hR_128 =>
    intro v5 μ_10 hs h
    rw [l_M_decides_128] at h
    refine z_iload dX12_decides_128 4 rfl ?_
    refine z_rload_n dX12_decides_130 rfl 0 rfl ?_
    refine z_getI (q := 15466) ff_12_2 dX12_decides_131 kt_113 (Nat.le_of_ble_eq_true rfl) fl_X12_209 rfl ?_
    refine z_icmp_ge (tgt := 169) dX12_decides_134 (by decide) h (fun h => ?_) (fun h => ?_)
    · refine z_rload_n dX12_decides_137 rfl 0 rfl ?_
      refine z_getR (q := 15524) ff_12_60 dX12_decides_138 kt_113 (Nat.le_of_ble_eq_true rfl) fl_X12_145 rfl (hs.1 _ _ sr_15524) ?_
      refine z_iload dX12_decides_141 4 rfl ?_
      obtain ⟨h0, h1, h⟩ := h
      refine z_zald dX12_decides_143 kt_153 (Nat.le_of_ble_eq_true rfl) h0 h1 ?_
      refine z_ifeq_b (tgt := 163) dX12_decides_144 (by decide) h (fun h => ?_) (fun h => ?_)
      · refine z_rload_n dX12_decides_147 rfl 0 rfl ?_
        refine z_getR (q := 15535) ff_12_71 dX12_decides_148 kt_113 (Nat.le_of_ble_eq_true rfl) fl_X12_161 rfl (hs.1 _ _ sr_15535) ?_
        refine z_bipush dX12_decides_151 (by decide) ?_
        refine z_iload_n dX12_decides_153 rfl 2 rfl ?_
        refine z_imul dX12_decides_154 ?_
        refine z_bipush dX12_decides_155 (by decide) ?_
        refine z_iadd dX12_decides_157 ?_
        refine z_dup2 dX12_decides_158 rfl rfl ?_
        obtain ⟨h0, h1, h⟩ := h
        refine z_iald dX12_decides_159 kt_158 (Nat.le_of_ble_eq_true rfl) h0 h1 ?_
        refine z_iconst dX12_decides_160 ?_
        refine z_iadd dX12_decides_161 ?_
        obtain ⟨h0, h1, h⟩ := h
        refine z_iast dX12_decides_162 kt_158 (Nat.le_of_ble_eq_true rfl) h0 h1 ?_
        refine z_mm (fun μ_11 eμ_11 => ?_)
        replace h := h μ_11 eμ_11
        replace hs : StatR μ_11.2.2 := by rw [eμ_11]; exact hs
        refine z_iinc (j := 4) (lv' := [(5, vi (v5 + 1)), (0, vr Γ 113), (1, vi a1), (3, vi a3), (4, vi (b2i r16))]) dX12_decides_163 rfl (Nat.le_of_ble_eq_true rfl) rfl ?_
        refine z_goto (tgt := 128) dX12_decides_166 (by decide) ?_
        refine z_sub (lv' := [(0, vr Γ 113), (1, vi a1), (3, vi a3), (4, vi (b2i r16)), (5, vi (v5 + 1))]) [1, 2, 3, 4, 0] rfl ?_
        exact hR_128 (v5 + 1) μ_11 hs h
      · refine z_iinc (j := 4) (lv' := [(5, vi (v5 + 1)), (0, vr Γ 113), (1, vi a1), (3, vi a3), (4, vi (b2i r16))]) dX12_decides_163 rfl (Nat.le_of_ble_eq_true rfl) rfl ?_
        refine z_goto (tgt := 128) dX12_decides_166 (by decide) ?_
        refine z_sub (lv' := [(0, vr Γ 113), (1, vi a1), (3, vi a3), (4, vi (b2i r16)), (5, vi (v5 + 1))]) [1, 2, 3, 4, 0] rfl ?_
        exact hR_128 (v5 + 1) μ_10 hs h
    · refine z_sub (lv' := [(0, vr Γ 113), (1, vi a1), (4, vi (b2i r16))]) [0, 1, 3] rfl ?_
      exact hX_128_169 μ_10 hs h
theorem i_M_decides {l : Launch} {Γ : Gam} {g : Nat} {a1 : Int} {a2 : Int} {a3 : Int} {μ : Mem} {k : Int → Mem → Prop} (hs : StatR μ.2.2) (h : f_M_decides a1 a2 a3 μ k) : CT l Γ yX12_decides cX12_decides 6 (some .int) 5 120 0 0 [vr Γ 113, vi a1, vi a2, vi a3] g 175 μ (pI k) := by
  refine SW.ct (by decide) (Nat.le_of_ble_eq_true rfl) ?_
  refine z_sub (lv' := [(0, vr Γ 113), (1, vi a1), (2, vi a2), (3, vi a3)]) [0, 1, 2, 3] rfl ?_
  show SW l Γ yX12_decides.cls cX12_decides Y_M_decides (pI k) g 175 0 0 μ 0 [(0, vr Γ 113), (1, vi a1), (2, vi a2), (3, vi a3)] []
  unfold f_M_decides at h
  refine z_rload_n dX12_decides_0 rfl 0 rfl ?_
  refine z_iload_n dX12_decides_1 rfl 1 rfl ?_
  refine z_iload_n dX12_decides_2 rfl 2 rfl ?_
  refine z_iconst dX12_decides_3 ?_
  refine z_iconst dX12_decides_4 ?_
  refine z_iconst dX12_decides_5 ?_
  refine z_VU (i_M_findCount  hs h) vk_X12_findCount kt_113 (Nat.le_of_ble_eq_true rfl) rfl ml_X12_479 ⟨Nat.le_of_ble_eq_true rfl, Nat.le_of_ble_eq_true rfl⟩ ⟨Nat.zero_le _, Nat.zero_le _⟩ rfl rfl (Nat.le_of_ble_eq_true rfl) dX12_decides_6 (fun μ_1 hs h => ?_)
  refine z_rload_n dX12_decides_9 rfl 0 rfl ?_
  refine z_iload_n dX12_decides_10 rfl 1 rfl ?_
  refine z_iload_n dX12_decides_11 rfl 2 rfl ?_
  refine z_rload_n dX12_decides_12 rfl 0 rfl ?_
  refine z_getR (q := 15488) ff_12_24 dX12_decides_13 kt_113 (Nat.le_of_ble_eq_true rfl) fl_X12_66 rfl (hs.1 _ _ sr_15488) ?_
  refine z_VB (i_M_passes kt_129 (Nat.le_of_ble_eq_true rfl) hs h) vk_X12_passes kt_113 (Nat.le_of_ble_eq_true rfl) rfl ml_X12_541 ⟨Nat.le_of_ble_eq_true rfl, Nat.le_of_ble_eq_true rfl⟩ ⟨Nat.zero_le _, Nat.zero_le _⟩ rfl rfl (Nat.le_of_ble_eq_true rfl) dX12_decides_16 (fun r16 μ_2 hs h => ?_)
  refine z_istore (lv' := [(4, vi (b2i r16)), (0, vr Γ 113), (1, vi a1), (2, vi a2), (3, vi a3)]) dX12_decides_19 (Nat.le_of_ble_eq_true rfl) rfl ?_
  refine z_rload_n dX12_decides_21 rfl 1 rfl ?_
  refine z_getR (q := 15535) ff_12_71 dX12_decides_22 kt_113 (Nat.le_of_ble_eq_true rfl) fl_X12_161 rfl (hs.1 _ _ sr_15535) ?_
  refine z_bipush dX12_decides_25 (by decide) ?_
  refine z_iload_n dX12_decides_27 rfl 4 rfl ?_
  refine z_imul dX12_decides_28 ?_
  refine z_iload_n dX12_decides_29 rfl 2 rfl ?_
  obtain ⟨h0, h1, h⟩ := h
  refine z_iast dX12_decides_30 kt_158 (Nat.le_of_ble_eq_true rfl) h0 h1 ?_
  refine z_mm (fun μ_3 eμ_3 => ?_)
  replace h := h μ_3 eμ_3
  replace hs : StatR μ_3.2.2 := by rw [eμ_3]; exact hs
  refine z_rload_n dX12_decides_31 rfl 1 rfl ?_
  refine z_getR (q := 15535) ff_12_71 dX12_decides_32 kt_113 (Nat.le_of_ble_eq_true rfl) fl_X12_161 rfl (hs.1 _ _ sr_15535) ?_
  refine z_bipush dX12_decides_35 (by decide) ?_
  refine z_iload_n dX12_decides_37 rfl 4 rfl ?_
  refine z_imul dX12_decides_38 ?_
  refine z_iconst dX12_decides_39 ?_
  refine z_iadd dX12_decides_40 ?_
  refine z_iload_n dX12_decides_41 rfl 3 rfl ?_
  obtain ⟨h0, h1, h⟩ := h
  refine z_iast dX12_decides_42 kt_158 (Nat.le_of_ble_eq_true rfl) h0 h1 ?_
  refine z_mm (fun μ_4 eμ_4 => ?_)
  replace h := h μ_4 eμ_4
  replace hs : StatR μ_4.2.2 := by rw [eμ_4]; exact hs
  refine z_rload_n dX12_decides_43 rfl 1 rfl ?_
  refine z_getR (q := 15535) ff_12_71 dX12_decides_44 kt_113 (Nat.le_of_ble_eq_true rfl) fl_X12_161 rfl (hs.1 _ _ sr_15535) ?_
  refine z_bipush dX12_decides_47 (by decide) ?_
  refine z_iload_n dX12_decides_49 rfl 4 rfl ?_
  refine z_imul dX12_decides_50 ?_
  refine z_iconst dX12_decides_51 ?_
  refine z_iadd dX12_decides_52 ?_
  refine z_rload_n dX12_decides_53 rfl 1 rfl ?_
  refine z_getJ (q := 15525) ff_12_61 dX12_decides_54 kt_113 (Nat.le_of_ble_eq_true rfl) fl_X12_466 rfl ?_
  refine z_l2i dX12_decides_57 ?_
  obtain ⟨h0, h1, h⟩ := h
  refine z_iast dX12_decides_58 kt_158 (Nat.le_of_ble_eq_true rfl) h0 h1 ?_
  refine z_mm (fun μ_5 eμ_5 => ?_)
  replace h := h μ_5 eμ_5
  replace hs : StatR μ_5.2.2 := by rw [eμ_5]; exact hs
  refine z_rload_n dX12_decides_59 rfl 1 rfl ?_
  refine z_getR (q := 15535) ff_12_71 dX12_decides_60 kt_113 (Nat.le_of_ble_eq_true rfl) fl_X12_161 rfl (hs.1 _ _ sr_15535) ?_
  refine z_bipush dX12_decides_63 (by decide) ?_
  refine z_iload_n dX12_decides_65 rfl 4 rfl ?_
  refine z_imul dX12_decides_66 ?_
  refine z_iconst dX12_decides_67 ?_
  refine z_iadd dX12_decides_68 ?_
  refine z_rload_n dX12_decides_69 rfl 1 rfl ?_
  refine z_getJ (q := 15526) ff_12_62 dX12_decides_70 kt_113 (Nat.le_of_ble_eq_true rfl) fl_X12_468 rfl ?_
  refine z_l2i dX12_decides_73 ?_
  obtain ⟨h0, h1, h⟩ := h
  refine z_iast dX12_decides_74 kt_158 (Nat.le_of_ble_eq_true rfl) h0 h1 ?_
  refine z_mm (fun μ_6 eμ_6 => ?_)
  replace h := h μ_6 eμ_6
  replace hs : StatR μ_6.2.2 := by rw [eμ_6]; exact hs
  refine z_rload_n dX12_decides_75 rfl 1 rfl ?_
  refine z_getR (q := 15535) ff_12_71 dX12_decides_76 kt_113 (Nat.le_of_ble_eq_true rfl) fl_X12_161 rfl (hs.1 _ _ sr_15535) ?_
  refine z_bipush dX12_decides_79 (by decide) ?_
  refine z_iload_n dX12_decides_81 rfl 4 rfl ?_
  refine z_imul dX12_decides_82 ?_
  refine z_iconst dX12_decides_83 ?_
  refine z_iadd dX12_decides_84 ?_
  refine z_rload_n dX12_decides_85 rfl 1 rfl ?_
  refine z_getJ (q := 15527) ff_12_63 dX12_decides_86 kt_113 (Nat.le_of_ble_eq_true rfl) fl_X12_463 rfl ?_
  refine z_l2i dX12_decides_89 ?_
  obtain ⟨h0, h1, h⟩ := h
  refine z_iast dX12_decides_90 kt_158 (Nat.le_of_ble_eq_true rfl) h0 h1 ?_
  refine z_mm (fun μ_7 eμ_7 => ?_)
  replace h := h μ_7 eμ_7
  replace hs : StatR μ_7.2.2 := by rw [eμ_7]; exact hs
  refine z_rload_n dX12_decides_91 rfl 1 rfl ?_
  refine z_getR (q := 15535) ff_12_71 dX12_decides_92 kt_113 (Nat.le_of_ble_eq_true rfl) fl_X12_161 rfl (hs.1 _ _ sr_15535) ?_
  refine z_bipush dX12_decides_95 (by decide) ?_
  refine z_iload_n dX12_decides_97 rfl 4 rfl ?_
  refine z_imul dX12_decides_98 ?_
  refine z_iconst dX12_decides_99 ?_
  refine z_iadd dX12_decides_100 ?_
  refine z_iload dX12_decides_101 0 rfl ?_
  refine z_phi 111 [vi ((7 * a3) + 5), vr Γ 158] (fun V9 hv J9 => ?_) h (fun x111 h => ?_)
  · refine z_ifeq_b (tgt := 110) dX12_decides_103 (by decide) (eq_ite hv) (fun hv => ?_) (fun hv => ?_)
    · refine z_iconst dX12_decides_106 ?_
      refine z_goto (tgt := 111) dX12_decides_107 (by decide) ?_
      exact J9 _ hv.symm
    · refine z_iconst dX12_decides_110 ?_
      exact J9 _ hv.symm
  · obtain ⟨h0, h1, h⟩ := h
    refine z_iast dX12_decides_111 kt_158 (Nat.le_of_ble_eq_true rfl) h0 h1 ?_
    refine z_mm (fun μ_8 eμ_8 => ?_)
    replace h := h μ_8 eμ_8
    replace hs : StatR μ_8.2.2 := by rw [eμ_8]; exact hs
    refine z_rload_n dX12_decides_112 rfl 1 rfl ?_
    refine z_getR (q := 15535) ff_12_71 dX12_decides_113 kt_113 (Nat.le_of_ble_eq_true rfl) fl_X12_161 rfl (hs.1 _ _ sr_15535) ?_
    refine z_bipush dX12_decides_116 (by decide) ?_
    refine z_iload_n dX12_decides_118 rfl 4 rfl ?_
    refine z_imul dX12_decides_119 ?_
    refine z_bipush dX12_decides_120 (by decide) ?_
    refine z_iadd dX12_decides_122 ?_
    refine z_iconst dX12_decides_123 ?_
    obtain ⟨h0, h1, h⟩ := h
    refine z_iast dX12_decides_124 kt_158 (Nat.le_of_ble_eq_true rfl) h0 h1 ?_
    refine z_mm (fun μ_9 eμ_9 => ?_)
    replace h := h μ_9 eμ_9
    replace hs : StatR μ_9.2.2 := by rw [eμ_9]; exact hs
    refine z_iconst dX12_decides_125 ?_
    refine z_istore (lv' := [(5, vi 0), (4, vi (b2i r16)), (0, vr Γ 113), (1, vi a1), (2, vi a2), (3, vi a3)]) dX12_decides_126 (Nat.le_of_ble_eq_true rfl) rfl ?_
    obtain ⟨m128, h⟩ := h
    refine z_sub (lv' := [(0, vr Γ 113), (1, vi a1), (3, vi a3), (4, vi (b2i r16)), (5, vi 0)]) [2, 3, 5, 1, 0] rfl ?_
    refine L_M_decides_128 (fun μ_12 hs h => ?_) m128 0 μ_9 hs h
    refine z_iload_n dX12_decides_169 rfl 1 rfl ?_
    refine z_bipush dX12_decides_170 (by decide) ?_
    refine z_icmp_ge (tgt := 197) dX12_decides_172 (by decide) h (fun h => ?_) (fun h => ?_)
    · refine z_iload dX12_decides_175 2 rfl ?_
      refine z_ifeq_b (tgt := 188) dX12_decides_177 (by decide) h (fun h => ?_) (fun h => ?_)
      · refine z_rload_n dX12_decides_180 rfl 0 rfl ?_
        refine z_iload_n dX12_decides_181 rfl 1 rfl ?_
        refine z_VU (i_M_passesMotion  hs h) vk_X12_passesMotion kt_113 (Nat.le_of_ble_eq_true rfl) rfl ml_X12_545 ⟨Nat.le_of_ble_eq_true rfl, Nat.le_of_ble_eq_true rfl⟩ ⟨Nat.zero_le _, Nat.zero_le _⟩ rfl rfl (Nat.le_of_ble_eq_true rfl) dX12_decides_182 (fun μ_13 hs h => ?_)
        refine z_goto (tgt := 267) dX12_decides_185 (by decide) ?_
        refine z_iload dX12_decides_267 2 rfl ?_
        refine z_phi 277 [] (fun V9 hv J9 => ?_) h (fun x277 h => ?_)
        · refine z_ifeq_b (tgt := 276) dX12_decides_269 (by decide) (eq_ite hv) (fun hv => ?_) (fun hv => ?_)
          · refine z_iconst dX12_decides_272 ?_
            refine z_goto (tgt := 277) dX12_decides_273 (by decide) ?_
            exact J9 _ hv.symm
          · refine z_iconst dX12_decides_276 ?_
            exact J9 _ hv.symm
        · exact z_iret rfl dX12_decides_277 rfl rfl rfl ⟨_, rfl, hs, h⟩
      · refine z_rload_n dX12_decides_188 rfl 0 rfl ?_
        refine z_iload_n dX12_decides_189 rfl 1 rfl ?_
        refine z_iconst dX12_decides_190 ?_
        refine z_VU (i_M_settles  hs h) vk_X12_settles kt_113 (Nat.le_of_ble_eq_true rfl) rfl ml_X12_534 ⟨Nat.le_of_ble_eq_true rfl, Nat.le_of_ble_eq_true rfl⟩ ⟨Nat.zero_le _, Nat.zero_le _⟩ rfl rfl (Nat.le_of_ble_eq_true rfl) dX12_decides_191 (fun μ_14 hs h => ?_)
        refine z_goto (tgt := 267) dX12_decides_194 (by decide) ?_
        refine z_iload dX12_decides_267 2 rfl ?_
        refine z_phi 277 [] (fun V9 hv J9 => ?_) h (fun x277_1 h => ?_)
        · refine z_ifeq_b (tgt := 276) dX12_decides_269 (by decide) (eq_ite hv) (fun hv => ?_) (fun hv => ?_)
          · refine z_iconst dX12_decides_272 ?_
            refine z_goto (tgt := 277) dX12_decides_273 (by decide) ?_
            exact J9 _ hv.symm
          · refine z_iconst dX12_decides_276 ?_
            exact J9 _ hv.symm
        · exact z_iret rfl dX12_decides_277 rfl rfl rfl ⟨_, rfl, hs, h⟩
    · refine z_iload_n dX12_decides_197 rfl 1 rfl ?_
      refine z_sipush dX12_decides_198 (by decide) ?_
      refine z_icmp_ge (tgt := 233) dX12_decides_201 (by decide) h (fun h => ?_) (fun h => ?_)
      · refine z_iload dX12_decides_204 2 rfl ?_
        refine z_ifeq_b (tgt := 220) dX12_decides_206 (by decide) h (fun h => ?_) (fun h => ?_)
        · refine z_rload_n dX12_decides_209 rfl 0 rfl ?_
          refine z_iload_n dX12_decides_210 rfl 1 rfl ?_
          refine z_bipush dX12_decides_211 (by decide) ?_
          refine z_isub dX12_decides_213 ?_
          refine z_VU (i_M_passesAmend  hs h) vk_X12_passesAmend kt_113 (Nat.le_of_ble_eq_true rfl) rfl ml_X12_548 ⟨Nat.le_of_ble_eq_true rfl, Nat.le_of_ble_eq_true rfl⟩ ⟨Nat.zero_le _, Nat.zero_le _⟩ rfl rfl (Nat.le_of_ble_eq_true rfl) dX12_decides_214 (fun μ_15 hs h => ?_)
          refine z_goto (tgt := 267) dX12_decides_217 (by decide) ?_
          refine z_iload dX12_decides_267 2 rfl ?_
          refine z_phi 277 [] (fun V9 hv J9 => ?_) h (fun x277_2 h => ?_)
          · refine z_ifeq_b (tgt := 276) dX12_decides_269 (by decide) (eq_ite hv) (fun hv => ?_) (fun hv => ?_)
            · refine z_iconst dX12_decides_272 ?_
              refine z_goto (tgt := 277) dX12_decides_273 (by decide) ?_
              exact J9 _ hv.symm
            · refine z_iconst dX12_decides_276 ?_
              exact J9 _ hv.symm
          · exact z_iret rfl dX12_decides_277 rfl rfl rfl ⟨_, rfl, hs, h⟩
        · refine z_rload_n dX12_decides_220 rfl 0 rfl ?_
          refine z_getR (q := 15482) ff_12_18 dX12_decides_221 kt_113 (Nat.le_of_ble_eq_true rfl) fl_X12_47 rfl (hs.1 _ _ sr_15482) ?_
          refine z_iload_n dX12_decides_224 rfl 1 rfl ?_
          refine z_bipush dX12_decides_225 (by decide) ?_
          refine z_isub dX12_decides_227 ?_
          refine z_iconst dX12_decides_228 ?_
          obtain ⟨h0, h1, h⟩ := h
          refine z_iast dX12_decides_229 kt_123 (Nat.le_of_ble_eq_true rfl) h0 h1 ?_
          refine z_mm (fun μ_16 eμ_16 => ?_)
          replace h := h μ_16 eμ_16
          replace hs : StatR μ_16.2.2 := by rw [eμ_16]; exact hs
          refine z_goto (tgt := 267) dX12_decides_230 (by decide) ?_
          refine z_iload dX12_decides_267 2 rfl ?_
          refine z_phi 277 [] (fun V9 hv J9 => ?_) h (fun x277_3 h => ?_)
          · refine z_ifeq_b (tgt := 276) dX12_decides_269 (by decide) (eq_ite hv) (fun hv => ?_) (fun hv => ?_)
            · refine z_iconst dX12_decides_272 ?_
              refine z_goto (tgt := 277) dX12_decides_273 (by decide) ?_
              exact J9 _ hv.symm
            · refine z_iconst dX12_decides_276 ?_
              exact J9 _ hv.symm
          · exact z_iret rfl dX12_decides_277 rfl rfl rfl ⟨_, rfl, hs, h⟩
      · refine z_rload_n dX12_decides_233 rfl 0 rfl ?_
        refine z_getR (q := 15483) ff_12_19 dX12_decides_234 kt_113 (Nat.le_of_ble_eq_true rfl) fl_X12_50 rfl (hs.1 _ _ sr_15483) ?_
        refine z_iload_n dX12_decides_237 rfl 1 rfl ?_
        refine z_sipush dX12_decides_238 (by decide) ?_
        refine z_isub dX12_decides_241 ?_
        refine z_iload dX12_decides_242 2 rfl ?_
        refine z_phi 252 [vi (a1 - 200), vr Γ 124] (fun V9 hv J9 => ?_) h (fun x252 h => ?_)
        · refine z_ifeq_b (tgt := 251) dX12_decides_244 (by decide) (eq_ite hv) (fun hv => ?_) (fun hv => ?_)
          · refine z_iconst dX12_decides_247 ?_
            refine z_goto (tgt := 252) dX12_decides_248 (by decide) ?_
            exact J9 _ hv.symm
          · refine z_iconst dX12_decides_251 ?_
            exact J9 _ hv.symm
        · obtain ⟨h0, h1, h⟩ := h
          refine z_iast dX12_decides_252 kt_124 (Nat.le_of_ble_eq_true rfl) h0 h1 ?_
          refine z_mm (fun μ_17 eμ_17 => ?_)
          replace h := h μ_17 eμ_17
          replace hs : StatR μ_17.2.2 := by rw [eμ_17]; exact hs
          refine z_iload dX12_decides_253 2 rfl ?_
          refine z_ifeq_b (tgt := 267) dX12_decides_255 (by decide) h (fun h => ?_) (fun h => ?_)
          · refine z_rload_n dX12_decides_258 rfl 0 rfl ?_
            refine z_iload_n dX12_decides_259 rfl 1 rfl ?_
            refine z_sipush dX12_decides_260 (by decide) ?_
            refine z_isub dX12_decides_263 ?_
            refine z_putI (q := 15480) ff_12_16 (Or.inl rfl) rfl dX12_decides_264 kt_113 (Nat.le_of_ble_eq_true rfl) fl_X12_41 rfl ?_
            refine z_mm (fun μ_18 eμ_18 => ?_)
            replace h := h μ_18 eμ_18
            replace hs : StatR μ_18.2.2 := by rw [eμ_18]; exact hs
            refine z_iload dX12_decides_267 2 rfl ?_
            refine z_phi 277 [] (fun V9 hv J9 => ?_) h (fun x277_4 h => ?_)
            · refine z_ifeq_b (tgt := 276) dX12_decides_269 (by decide) (eq_ite hv) (fun hv => ?_) (fun hv => ?_)
              · refine z_iconst dX12_decides_272 ?_
                refine z_goto (tgt := 277) dX12_decides_273 (by decide) ?_
                exact J9 _ hv.symm
              · refine z_iconst dX12_decides_276 ?_
                exact J9 _ hv.symm
            · exact z_iret rfl dX12_decides_277 rfl rfl rfl ⟨_, rfl, hs, h⟩
          · refine z_iload dX12_decides_267 2 rfl ?_
            refine z_phi 277 [] (fun V9 hv J9 => ?_) h (fun x277_5 h => ?_)
            · refine z_ifeq_b (tgt := 276) dX12_decides_269 (by decide) (eq_ite hv) (fun hv => ?_) (fun hv => ?_)
              · refine z_iconst dX12_decides_272 ?_
                refine z_goto (tgt := 277) dX12_decides_273 (by decide) ?_
                exact J9 _ hv.symm
              · refine z_iconst dX12_decides_276 ?_
                exact J9 _ hv.symm
            · exact z_iret rfl dX12_decides_277 rfl rfl rfl ⟨_, rfl, hs, h⟩
abbrev Y_M_decide : Yt := (3, (some .int), yX12_decide.name, { frames := 6, cells := 0, slots := 0, locals := 145 }, 175, 0, 0)
def l_M_decide_38 (a1 : Int) (X_38_57 : Mem → Prop) : Nat → Int → Mem → Prop
  | 0, _, _ => False
  | fu38 + 1, v2, μ_4 => if w v2 < w 12 then (0 ≤ w v2 ∧ w v2 < ((12 : Nat) : Int) ∧ ∀ μ_5 : Mem, μ_5 = sB μ_4 153 (w v2) false → (l_M_decide_38 a1 X_38_57 fu38) (v2 + 1) μ_5) else (X_38_57 μ_4)
def f_M_decide (a1 : Int) (μ : Mem) (k : Int → Mem → Prop) : Prop := ∀ μ_1 : Mem, μ_1 = sI μ 15464 0 0 → if (v_M_isMatter a1 μ_1) = true then (f_M_howOf a1 μ_1 (fun r15 μ_2 => if w r15 = 0 then (if w (rI μ_2 15534 0) = w 100 then (k (-1) μ_2) else (f_M_keeps  μ_2 (fun μ_3 => ∃ m38 : Nat, l_M_decide_38 a1 (fun (μ_6 : Mem) => ∀ μ_7 : Mem, μ_7 = sB μ_6 15536 0 true → ∀ μ_8 : Mem, μ_8 = sI μ_7 15534 0 ((rI μ_7 15534 0) + 1) → f_M_decides a1 (rI μ_8 15465 0) ((rI μ_8 15534 0) - 1) μ_8 (fun r84 μ_9 => k r84 μ_9)) m38 0 μ_3))) else (k (-1) μ_2))) else (k (-1) μ_1)
theorem L_M_decide_38 {l : Launch} {Γ : Gam} {g : Nat} {a1 : Int} {X_38_57 : Mem → Prop} {k : Int → Mem → Prop} (hX_38_57 : ∀ (ν : Mem), StatR ν.2.2 → X_38_57 ν → SW l Γ yX12_decide.cls cX12_decide Y_M_decide (pI k) g 175 0 0 ν 57 [(0, vr Γ 113), (1, vi a1)] []) (n9 : Nat) : ∀ (v2 : Int) (μ_4 : Mem), StatR μ_4.2.2 → l_M_decide_38 a1 X_38_57 n9 v2 μ_4 → SW l Γ yX12_decide.cls cX12_decide Y_M_decide (pI k) g 175 0 0 μ_4 38 [(0, vr Γ 113), (1, vi a1), (2, vi v2)] [] := by
  induction n9 with
  | zero =>
    intro v2 μ_4 hs h
    exact h.elim
  | succ n9 hR_38 =>
    intro v2 μ_4 hs h
    rw [l_M_decide_38] at h
    refine z_iload_n dX12_decide_38 rfl 2 rfl ?_
    refine z_bipush dX12_decide_39 (by decide) ?_
    refine z_icmp_ge (tgt := 57) dX12_decide_41 (by decide) h (fun h => ?_) (fun h => ?_)
    · refine z_rload_n dX12_decide_44 rfl 0 rfl ?_
      refine z_getR (q := 15524) ff_12_60 dX12_decide_45 kt_113 (Nat.le_of_ble_eq_true rfl) fl_X12_145 rfl (hs.1 _ _ sr_15524) ?_
      refine z_iload_n dX12_decide_48 rfl 2 rfl ?_
      refine z_iconst dX12_decide_49 ?_
      obtain ⟨h0, h1, h⟩ := h
      refine z_zast (b := false) dX12_decide_50 kt_153 (Nat.le_of_ble_eq_true rfl) h0 h1 ?_
      refine z_mm (fun μ_5 eμ_5 => ?_)
      replace h := h μ_5 eμ_5
      replace hs : StatR μ_5.2.2 := by rw [eμ_5]; exact hs
      refine z_iinc (j := 2) (lv' := [(2, vi (v2 + 1)), (0, vr Γ 113), (1, vi a1)]) dX12_decide_51 rfl (Nat.le_of_ble_eq_true rfl) rfl ?_
      refine z_goto (tgt := 38) dX12_decide_54 (by decide) ?_
      refine z_sub (lv' := [(0, vr Γ 113), (1, vi a1), (2, vi (v2 + 1))]) [1, 2, 0] rfl ?_
      exact hR_38 (v2 + 1) μ_5 hs h
    · refine z_sub (lv' := [(0, vr Γ 113), (1, vi a1)]) [0, 1] rfl ?_
      exact hX_38_57 μ_4 hs h
theorem i_M_decide {l : Launch} {Γ : Gam} {g : Nat} {a1 : Int} {μ : Mem} {k : Int → Mem → Prop} (hs : StatR μ.2.2) (h : f_M_decide a1 μ k) : CT l Γ yX12_decide cX12_decide 3 (some .int) 6 145 0 0 [vr Γ 113, vi a1] g 175 μ (pI k) := by
  refine SW.ct (by decide) (Nat.le_of_ble_eq_true rfl) ?_
  refine z_sub (lv' := [(0, vr Γ 113), (1, vi a1)]) [0, 1] rfl ?_
  show SW l Γ yX12_decide.cls cX12_decide Y_M_decide (pI k) g 175 0 0 μ 0 [(0, vr Γ 113), (1, vi a1)] []
  unfold f_M_decide at h
  refine z_rload_n dX12_decide_0 rfl 0 rfl ?_
  refine z_iconst dX12_decide_1 ?_
  refine z_putI (q := 15464) ff_12_0 (Or.inl rfl) rfl dX12_decide_2 kt_113 (Nat.le_of_ble_eq_true rfl) fl_X12_1 rfl ?_
  refine z_mm (fun μ_1 eμ_1 => ?_)
  replace h := h μ_1 eμ_1
  replace hs : StatR μ_1.2.2 := by rw [eμ_1]; exact hs
  refine z_rload_n dX12_decide_5 rfl 0 rfl ?_
  refine z_iload_n dX12_decide_6 rfl 1 rfl ?_
  refine z_VE (i_M_isMatter ) vk_X12_isMatter kt_113 (Nat.le_of_ble_eq_true rfl) rfl ml_X12_243 ⟨Nat.le_of_ble_eq_true rfl, Nat.le_of_ble_eq_true rfl⟩ ⟨Nat.zero_le _, Nat.zero_le _⟩ rfl rfl (Nat.le_of_ble_eq_true rfl) dX12_decide_7 ?_
  refine z_ifeq_b (tgt := 30) dX12_decide_10 (by decide) h (fun h => ?_) (fun h => ?_)
  · refine z_rload_n dX12_decide_13 rfl 0 rfl ?_
    refine z_iload_n dX12_decide_14 rfl 1 rfl ?_
    refine z_VI (i_M_howOf  hs h) vk_X12_howOf kt_113 (Nat.le_of_ble_eq_true rfl) rfl ml_X12_246 ⟨Nat.le_of_ble_eq_true rfl, Nat.le_of_ble_eq_true rfl⟩ ⟨Nat.zero_le _, Nat.zero_le _⟩ rfl rfl (Nat.le_of_ble_eq_true rfl) dX12_decide_15 (fun r15 μ_2 hs h => ?_)
    refine z_if_ne (tgt := 30) dX12_decide_18 (by decide) h (fun h => ?_) (fun h => ?_)
    · refine z_rload_n dX12_decide_21 rfl 0 rfl ?_
      refine z_getI (q := 15534) ff_12_70 dX12_decide_22 kt_113 (Nat.le_of_ble_eq_true rfl) fl_X12_551 rfl ?_
      refine z_bipush dX12_decide_25 (by decide) ?_
      refine z_icmp_ne (tgt := 32) dX12_decide_27 (by decide) h (fun h => ?_) (fun h => ?_)
      · refine z_iconst dX12_decide_30 ?_
        exact z_iret rfl dX12_decide_31 rfl rfl rfl ⟨_, rfl, hs, h⟩
      · refine z_rload_n dX12_decide_32 rfl 0 rfl ?_
        refine z_VU (i_M_keeps  hs h) vk_X12_keeps kt_113 (Nat.le_of_ble_eq_true rfl) rfl ml_X12_554 ⟨Nat.le_of_ble_eq_true rfl, Nat.le_of_ble_eq_true rfl⟩ ⟨Nat.zero_le _, Nat.zero_le _⟩ rfl rfl (Nat.le_of_ble_eq_true rfl) dX12_decide_33 (fun μ_3 hs h => ?_)
        refine z_iconst dX12_decide_36 ?_
        refine z_istore_n (lv' := [(2, vi 0), (0, vr Γ 113), (1, vi a1)]) dX12_decide_37 rfl (Nat.le_of_ble_eq_true rfl) rfl ?_
        obtain ⟨m38, h⟩ := h
        refine z_sub (lv' := [(0, vr Γ 113), (1, vi a1), (2, vi 0)]) [1, 2, 0] rfl ?_
        refine L_M_decide_38 (fun μ_6 hs h => ?_) m38 0 μ_3 hs h
        refine z_rload_n dX12_decide_57 rfl 0 rfl ?_
        refine z_iconst dX12_decide_58 ?_
        refine z_putZ (b := true) (q := 15536) ff_12_72 (Or.inl rfl) rfl dX12_decide_59 kt_113 (Nat.le_of_ble_eq_true rfl) fl_X12_433 rfl ?_
        refine z_mm (fun μ_7 eμ_7 => ?_)
        replace h := h μ_7 eμ_7
        replace hs : StatR μ_7.2.2 := by rw [eμ_7]; exact hs
        refine z_rload_n dX12_decide_62 rfl 0 rfl ?_
        refine z_dup dX12_decide_63 rfl ?_
        refine z_getI (q := 15534) ff_12_70 dX12_decide_64 kt_113 (Nat.le_of_ble_eq_true rfl) fl_X12_551 rfl ?_
        refine z_iconst dX12_decide_67 ?_
        refine z_iadd dX12_decide_68 ?_
        refine z_putI (q := 15534) ff_12_70 (Or.inl rfl) rfl dX12_decide_69 kt_113 (Nat.le_of_ble_eq_true rfl) fl_X12_551 rfl ?_
        refine z_mm (fun μ_8 eμ_8 => ?_)
        replace h := h μ_8 eμ_8
        replace hs : StatR μ_8.2.2 := by rw [eμ_8]; exact hs
        refine z_rload_n dX12_decide_72 rfl 0 rfl ?_
        refine z_iload_n dX12_decide_73 rfl 1 rfl ?_
        refine z_rload_n dX12_decide_74 rfl 0 rfl ?_
        refine z_getI (q := 15465) ff_12_1 dX12_decide_75 kt_113 (Nat.le_of_ble_eq_true rfl) fl_X12_212 rfl ?_
        refine z_rload_n dX12_decide_78 rfl 0 rfl ?_
        refine z_getI (q := 15534) ff_12_70 dX12_decide_79 kt_113 (Nat.le_of_ble_eq_true rfl) fl_X12_551 rfl ?_
        refine z_iconst dX12_decide_82 ?_
        refine z_isub dX12_decide_83 ?_
        refine z_VI (i_M_decides  hs h) vk_X12_decides kt_113 (Nat.le_of_ble_eq_true rfl) rfl ml_X12_557 ⟨Nat.le_of_ble_eq_true rfl, Nat.le_of_ble_eq_true rfl⟩ ⟨Nat.zero_le _, Nat.zero_le _⟩ rfl rfl (Nat.le_of_ble_eq_true rfl) dX12_decide_84 (fun r84 μ_9 hs h => ?_)
        exact z_iret rfl dX12_decide_87 rfl rfl rfl ⟨_, rfl, hs, h⟩
    · refine z_iconst dX12_decide_30 ?_
      exact z_iret rfl dX12_decide_31 rfl rfl rfl ⟨_, rfl, hs, h⟩
  · refine z_iconst dX12_decide_30 ?_
    exact z_iret rfl dX12_decide_31 rfl rfl rfl ⟨_, rfl, hs, h⟩
abbrev Y_M_voids : Yt := (3, (some .int), yX12_voids.name, { frames := 6, cells := 0, slots := 0, locals := 145 }, 175, 0, 0)
def f_M_voids (a1 : Int) (μ : Mem) (k : Int → Mem → Prop) : Prop := ∀ μ_1 : Mem, μ_1 = sI μ 15464 0 0 → if (v_M_isAffiliate a1 μ_1) = true then (if (rB μ_1 15536 0) = true then (0 ≤ w a1 ∧ w a1 < ((12 : Nat) : Int) ∧ if (rB μ_1 153 (w a1)) = true then (k (-1) μ_1) else (∀ v2 : Int, v2 = 7 * ((rI μ_1 15534 0) - 1) → 0 ≤ w v2 ∧ w v2 < ((700 : Nat) : Int) ∧ 0 ≤ w (v2 + 1) ∧ w (v2 + 1) < ((700 : Nat) : Int) ∧ f_M_voiceOf a1 (rI μ_1 158 (w v2)) (rI μ_1 158 (w (v2 + 1))) μ_1 (fun r57 μ_2 => if w r57 = w 2 then (k (-1) μ_2) else (f_M_goesBack  μ_2 (fun μ_3 => 0 ≤ w a1 ∧ w a1 < ((12 : Nat) : Int) ∧ ∀ μ_4 : Mem, μ_4 = sB μ_3 153 (w a1) true → 0 ≤ w v2 ∧ w v2 < ((700 : Nat) : Int) ∧ 0 ≤ w (v2 + 1) ∧ w (v2 + 1) < ((700 : Nat) : Int) ∧ f_M_decides (rI μ_4 158 (w v2)) (rI μ_4 158 (w (v2 + 1))) ((rI μ_4 15534 0) - 1) μ_4 (fun r98 μ_5 => k r98 μ_5)))))) else (k (-1) μ_1)) else (k (-1) μ_1)
theorem i_M_voids {l : Launch} {Γ : Gam} {g : Nat} {a1 : Int} {μ : Mem} {k : Int → Mem → Prop} (hs : StatR μ.2.2) (h : f_M_voids a1 μ k) : CT l Γ yX12_voids cX12_voids 3 (some .int) 6 145 0 0 [vr Γ 113, vi a1] g 175 μ (pI k) := by
  refine SW.ct (by decide) (Nat.le_of_ble_eq_true rfl) ?_
  refine z_sub (lv' := [(0, vr Γ 113), (1, vi a1)]) [0, 1] rfl ?_
  show SW l Γ yX12_voids.cls cX12_voids Y_M_voids (pI k) g 175 0 0 μ 0 [(0, vr Γ 113), (1, vi a1)] []
  unfold f_M_voids at h
  refine z_rload_n dX12_voids_0 rfl 0 rfl ?_
  refine z_iconst dX12_voids_1 ?_
  refine z_putI (q := 15464) ff_12_0 (Or.inl rfl) rfl dX12_voids_2 kt_113 (Nat.le_of_ble_eq_true rfl) fl_X12_1 rfl ?_
  refine z_mm (fun μ_1 eμ_1 => ?_)
  replace h := h μ_1 eμ_1
  replace hs : StatR μ_1.2.2 := by rw [eμ_1]; exact hs
  refine z_rload_n dX12_voids_5 rfl 0 rfl ?_
  refine z_iload_n dX12_voids_6 rfl 1 rfl ?_
  refine z_VE (i_M_isAffiliate ) vk_X12_isAffiliate kt_113 (Nat.le_of_ble_eq_true rfl) rfl ml_X12_219 ⟨Nat.le_of_ble_eq_true rfl, Nat.le_of_ble_eq_true rfl⟩ ⟨Nat.zero_le _, Nat.zero_le _⟩ rfl rfl (Nat.le_of_ble_eq_true rfl) dX12_voids_7 ?_
  refine z_ifeq_b (tgt := 29) dX12_voids_10 (by decide) h (fun h => ?_) (fun h => ?_)
  · refine z_rload_n dX12_voids_13 rfl 0 rfl ?_
    refine z_getZ (q := 15536) ff_12_72 dX12_voids_14 kt_113 (Nat.le_of_ble_eq_true rfl) fl_X12_433 rfl ?_
    refine z_ifeq_b (tgt := 29) dX12_voids_17 (by decide) h (fun h => ?_) (fun h => ?_)
    · refine z_rload_n dX12_voids_20 rfl 0 rfl ?_
      refine z_getR (q := 15524) ff_12_60 dX12_voids_21 kt_113 (Nat.le_of_ble_eq_true rfl) fl_X12_145 rfl (hs.1 _ _ sr_15524) ?_
      refine z_iload_n dX12_voids_24 rfl 1 rfl ?_
      obtain ⟨h0, h1, h⟩ := h
      refine z_zald dX12_voids_25 kt_153 (Nat.le_of_ble_eq_true rfl) h0 h1 ?_
      refine z_ifeq_b (tgt := 31) dX12_voids_26 (by decide) h (fun h => ?_) (fun h => ?_)
      · refine z_iconst dX12_voids_29 ?_
        exact z_iret rfl dX12_voids_30 rfl rfl rfl ⟨_, rfl, hs, h⟩
      · refine z_bipush dX12_voids_31 (by decide) ?_
        refine z_rload_n dX12_voids_33 rfl 0 rfl ?_
        refine z_getI (q := 15534) ff_12_70 dX12_voids_34 kt_113 (Nat.le_of_ble_eq_true rfl) fl_X12_551 rfl ?_
        refine z_iconst dX12_voids_37 ?_
        refine z_isub dX12_voids_38 ?_
        refine z_imul dX12_voids_39 ?_
        refine z_nm (fun v2 ev2 => ?_)
        replace h := h v2 ev2
        refine z_istore_n (lv' := [(2, vi v2), (0, vr Γ 113), (1, vi a1)]) dX12_voids_40 rfl (Nat.le_of_ble_eq_true rfl) rfl ?_
        refine z_rload_n dX12_voids_41 rfl 1 rfl ?_
        refine z_iload_n dX12_voids_42 rfl 2 rfl ?_
        refine z_rload_n dX12_voids_43 rfl 1 rfl ?_
        refine z_getR (q := 15535) ff_12_71 dX12_voids_44 kt_113 (Nat.le_of_ble_eq_true rfl) fl_X12_161 rfl (hs.1 _ _ sr_15535) ?_
        refine z_iload_n dX12_voids_47 rfl 0 rfl ?_
        obtain ⟨h0, h1, h⟩ := h
        refine z_iald dX12_voids_48 kt_158 (Nat.le_of_ble_eq_true rfl) h0 h1 ?_
        refine z_rload_n dX12_voids_49 rfl 1 rfl ?_
        refine z_getR (q := 15535) ff_12_71 dX12_voids_50 kt_113 (Nat.le_of_ble_eq_true rfl) fl_X12_161 rfl (hs.1 _ _ sr_15535) ?_
        refine z_iload_n dX12_voids_53 rfl 0 rfl ?_
        refine z_iconst dX12_voids_54 ?_
        refine z_iadd dX12_voids_55 ?_
        obtain ⟨h0, h1, h⟩ := h
        refine z_iald dX12_voids_56 kt_158 (Nat.le_of_ble_eq_true rfl) h0 h1 ?_
        refine z_VI (i_M_voiceOf  hs h) vk_X12_voiceOf kt_113 (Nat.le_of_ble_eq_true rfl) rfl ml_X12_273 ⟨Nat.le_of_ble_eq_true rfl, Nat.le_of_ble_eq_true rfl⟩ ⟨Nat.zero_le _, Nat.zero_le _⟩ rfl rfl (Nat.le_of_ble_eq_true rfl) dX12_voids_57 (fun r57 μ_2 hs h => ?_)
        refine z_iconst dX12_voids_60 ?_
        refine z_icmp_ne (tgt := 66) dX12_voids_61 (by decide) h (fun h => ?_) (fun h => ?_)
        · refine z_iconst dX12_voids_64 ?_
          exact z_iret rfl dX12_voids_65 rfl rfl rfl ⟨_, rfl, hs, h⟩
        · refine z_rload_n dX12_voids_66 rfl 1 rfl ?_
          refine z_VU (i_M_goesBack  hs h) vk_X12_goesBack kt_113 (Nat.le_of_ble_eq_true rfl) rfl ml_X12_560 ⟨Nat.le_of_ble_eq_true rfl, Nat.le_of_ble_eq_true rfl⟩ ⟨Nat.zero_le _, Nat.zero_le _⟩ rfl rfl (Nat.le_of_ble_eq_true rfl) dX12_voids_67 (fun μ_3 hs h => ?_)
          refine z_rload_n dX12_voids_70 rfl 1 rfl ?_
          refine z_getR (q := 15524) ff_12_60 dX12_voids_71 kt_113 (Nat.le_of_ble_eq_true rfl) fl_X12_145 rfl (hs.1 _ _ sr_15524) ?_
          refine z_iload_n dX12_voids_74 rfl 2 rfl ?_
          refine z_iconst dX12_voids_75 ?_
          obtain ⟨h0, h1, h⟩ := h
          refine z_zast (b := true) dX12_voids_76 kt_153 (Nat.le_of_ble_eq_true rfl) h0 h1 ?_
          refine z_mm (fun μ_4 eμ_4 => ?_)
          replace h := h μ_4 eμ_4
          replace hs : StatR μ_4.2.2 := by rw [eμ_4]; exact hs
          refine z_rload_n dX12_voids_77 rfl 1 rfl ?_
          refine z_rload_n dX12_voids_78 rfl 1 rfl ?_
          refine z_getR (q := 15535) ff_12_71 dX12_voids_79 kt_113 (Nat.le_of_ble_eq_true rfl) fl_X12_161 rfl (hs.1 _ _ sr_15535) ?_
          refine z_iload_n dX12_voids_82 rfl 0 rfl ?_
          obtain ⟨h0, h1, h⟩ := h
          refine z_iald dX12_voids_83 kt_158 (Nat.le_of_ble_eq_true rfl) h0 h1 ?_
          refine z_rload_n dX12_voids_84 rfl 1 rfl ?_
          refine z_getR (q := 15535) ff_12_71 dX12_voids_85 kt_113 (Nat.le_of_ble_eq_true rfl) fl_X12_161 rfl (hs.1 _ _ sr_15535) ?_
          refine z_iload_n dX12_voids_88 rfl 0 rfl ?_
          refine z_iconst dX12_voids_89 ?_
          refine z_iadd dX12_voids_90 ?_
          obtain ⟨h0, h1, h⟩ := h
          refine z_iald dX12_voids_91 kt_158 (Nat.le_of_ble_eq_true rfl) h0 h1 ?_
          refine z_rload_n dX12_voids_92 rfl 1 rfl ?_
          refine z_getI (q := 15534) ff_12_70 dX12_voids_93 kt_113 (Nat.le_of_ble_eq_true rfl) fl_X12_551 rfl ?_
          refine z_iconst dX12_voids_96 ?_
          refine z_isub dX12_voids_97 ?_
          refine z_VI (i_M_decides  hs h) vk_X12_decides kt_113 (Nat.le_of_ble_eq_true rfl) rfl ml_X12_557 ⟨Nat.le_of_ble_eq_true rfl, Nat.le_of_ble_eq_true rfl⟩ ⟨Nat.zero_le _, Nat.zero_le _⟩ rfl rfl (Nat.le_of_ble_eq_true rfl) dX12_voids_98 (fun r98 μ_5 hs h => ?_)
          exact z_iret rfl dX12_voids_101 rfl rfl rfl ⟨_, rfl, hs, h⟩
    · refine z_iconst dX12_voids_29 ?_
      exact z_iret rfl dX12_voids_30 rfl rfl rfl ⟨_, rfl, hs, h⟩
  · refine z_iconst dX12_voids_29 ?_
    exact z_iret rfl dX12_voids_30 rfl rfl rfl ⟨_, rfl, hs, h⟩
abbrev Y_M_row : Yt := (3, (some .int), yX12_row.name, { frames := 1, cells := 0, slots := 0, locals := 22 }, 175, 0, 0)
def f_M_row (a1 : Int) (a2 : Int) (μ : Mem) (k : Int → Mem → Prop) : Prop := ∀ μ_1 : Mem, μ_1 = sI μ 15464 0 0 → if w a1 < 0 then (∀ μ_2 : Mem, μ_2 = sI μ_1 15464 0 1 → k 0 μ_2) else (if w a1 < w (rI μ_1 15534 0) then (if (v_M_within a2 0 6) = true then (0 ≤ w ((7 * a1) + a2) ∧ w ((7 * a1) + a2) < ((700 : Nat) : Int) ∧ k (rI μ_1 158 (w ((7 * a1) + a2))) μ_1) else (∀ μ_3 : Mem, μ_3 = sI μ_1 15464 0 1 → k 0 μ_3)) else (∀ μ_4 : Mem, μ_4 = sI μ_1 15464 0 1 → k 0 μ_4))
theorem i_M_row {l : Launch} {Γ : Gam} {g : Nat} {a1 : Int} {a2 : Int} {μ : Mem} {k : Int → Mem → Prop} (hs : StatR μ.2.2) (h : f_M_row a1 a2 μ k) : CT l Γ yX12_row cX12_row 3 (some .int) 1 22 0 0 [vr Γ 113, vi a1, vi a2] g 175 μ (pI k) := by
  refine SW.ct (by decide) (Nat.le_of_ble_eq_true rfl) ?_
  refine z_sub (lv' := [(0, vr Γ 113), (1, vi a1), (2, vi a2)]) [0, 1, 2] rfl ?_
  show SW l Γ yX12_row.cls cX12_row Y_M_row (pI k) g 175 0 0 μ 0 [(0, vr Γ 113), (1, vi a1), (2, vi a2)] []
  unfold f_M_row at h
  refine z_rload_n dX12_row_0 rfl 0 rfl ?_
  refine z_iconst dX12_row_1 ?_
  refine z_putI (q := 15464) ff_12_0 (Or.inl rfl) rfl dX12_row_2 kt_113 (Nat.le_of_ble_eq_true rfl) fl_X12_1 rfl ?_
  refine z_mm (fun μ_1 eμ_1 => ?_)
  replace h := h μ_1 eμ_1
  replace hs : StatR μ_1.2.2 := by rw [eμ_1]; exact hs
  refine z_iload_n dX12_row_5 rfl 1 rfl ?_
  refine z_if_lt (tgt := 27) dX12_row_6 (by decide) h (fun h => ?_) (fun h => ?_)
  · refine z_rload_n dX12_row_27 rfl 0 rfl ?_
    refine z_iconst dX12_row_28 ?_
    refine z_putI (q := 15464) ff_12_0 (Or.inl rfl) rfl dX12_row_29 kt_113 (Nat.le_of_ble_eq_true rfl) fl_X12_1 rfl ?_
    refine z_mm (fun μ_2 eμ_2 => ?_)
    replace h := h μ_2 eμ_2
    replace hs : StatR μ_2.2.2 := by rw [eμ_2]; exact hs
    refine z_iconst dX12_row_32 ?_
    exact z_iret rfl dX12_row_33 rfl rfl rfl ⟨_, rfl, hs, h⟩
  · refine z_iload_n dX12_row_9 rfl 1 rfl ?_
    refine z_rload_n dX12_row_10 rfl 0 rfl ?_
    refine z_getI (q := 15534) ff_12_70 dX12_row_11 kt_113 (Nat.le_of_ble_eq_true rfl) fl_X12_551 rfl ?_
    refine z_icmp_ge (tgt := 27) dX12_row_14 (by decide) h (fun h => ?_) (fun h => ?_)
    · refine z_iload_n dX12_row_17 rfl 2 rfl ?_
      refine z_iconst dX12_row_18 ?_
      refine z_bipush dX12_row_19 (by decide) ?_
      refine z_SE (i_M_within ) sk_X12_within ml_X12_215 ⟨Nat.le_of_ble_eq_true rfl, Nat.le_of_ble_eq_true rfl⟩ ⟨Nat.zero_le _, Nat.zero_le _⟩ rfl rfl (Nat.le_of_ble_eq_true rfl) dX12_row_21 ?_
      refine z_ifne_b (tgt := 34) dX12_row_24 (by decide) h (fun h => ?_) (fun h => ?_)
      · refine z_rload_n dX12_row_34 rfl 0 rfl ?_
        refine z_getR (q := 15535) ff_12_71 dX12_row_35 kt_113 (Nat.le_of_ble_eq_true rfl) fl_X12_161 rfl (hs.1 _ _ sr_15535) ?_
        refine z_bipush dX12_row_38 (by decide) ?_
        refine z_iload_n dX12_row_40 rfl 1 rfl ?_
        refine z_imul dX12_row_41 ?_
        refine z_iload_n dX12_row_42 rfl 2 rfl ?_
        refine z_iadd dX12_row_43 ?_
        obtain ⟨h0, h1, h⟩ := h
        refine z_iald dX12_row_44 kt_158 (Nat.le_of_ble_eq_true rfl) h0 h1 ?_
        exact z_iret rfl dX12_row_45 rfl rfl rfl ⟨_, rfl, hs, h⟩
      · refine z_rload_n dX12_row_27 rfl 0 rfl ?_
        refine z_iconst dX12_row_28 ?_
        refine z_putI (q := 15464) ff_12_0 (Or.inl rfl) rfl dX12_row_29 kt_113 (Nat.le_of_ble_eq_true rfl) fl_X12_1 rfl ?_
        refine z_mm (fun μ_3 eμ_3 => ?_)
        replace h := h μ_3 eμ_3
        replace hs : StatR μ_3.2.2 := by rw [eμ_3]; exact hs
        refine z_iconst dX12_row_32 ?_
        exact z_iret rfl dX12_row_33 rfl rfl rfl ⟨_, rfl, hs, h⟩
    · refine z_rload_n dX12_row_27 rfl 0 rfl ?_
      refine z_iconst dX12_row_28 ?_
      refine z_putI (q := 15464) ff_12_0 (Or.inl rfl) rfl dX12_row_29 kt_113 (Nat.le_of_ble_eq_true rfl) fl_X12_1 rfl ?_
      refine z_mm (fun μ_4 eμ_4 => ?_)
      replace h := h μ_4 eμ_4
      replace hs : StatR μ_4.2.2 := by rw [eμ_4]; exact hs
      refine z_iconst dX12_row_32 ?_
      exact z_iret rfl dX12_row_33 rfl rfl rfl ⟨_, rfl, hs, h⟩
