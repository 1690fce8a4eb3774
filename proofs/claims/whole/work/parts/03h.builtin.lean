/-! the class's own safe reads and writes -/
def at' (μ : Mem) (a len : Nat) (i : Int) : Int := if 0 ≤ w i ∧ w i < (len : Int) then rI μ a (w i) else 0
def set' (μ : Mem) (a len : Nat) (i v : Int) : Mem := if 0 ≤ w i ∧ w i < (len : Int) then sI μ a (w i) v else μ
def atL' (μ : Mem) (a len : Nat) (i : Int) : Int64 := if 0 ≤ w i ∧ w i < (len : Int) then rL μ a (w i) else 0
def setL' (μ : Mem) (a len : Nat) (i : Int) (v : Int64) : Mem := if 0 ≤ w i ∧ w i < (len : Int) then sL μ a (w i) v else μ
theorem w_0 : w 0 = 0 := rfl
theorem w_nat {n : Nat} (h : n < 2147483648) : w (n : Int) = n := w_id (by omega) (by omega)
theorem eq_ite {α : Type} {V a b : α} {c : Prop} [Decidable c] (h : V = if c then a else b) : if c then V = a else V = b := by
  by_cases hc : c
  · rw [if_pos hc] at h ⊢; exact h
  · rw [if_neg hc] at h ⊢; exact h
theorem ite_same {P : Prop} {c : Prop} [Decidable c] (h : P) : if c then P else P := by by_cases hc : c <;> simp [hc, h]
section Builtin
variable {l : Launch} {Γ : Gam} {g n : Nat} {μ : Mem}
theorem len_lt {a t len : Nat} (h : KT a = (t, len)) : len < 1000000 := by
  unfold KT at h
  rcases Nat.lt_or_ge a KTL.length with q | q
  · have : ∀ c : Fin KTL.length, (KTL.getD c.1 (9, 0)).2 < 1000000 := by decide +kernel
    have h2 := this ⟨a, q⟩
    rw [h] at h2
    exact h2
  · rw [List.getD_eq_getElem?_getD, List.getElem?_eq_none q] at h
    have : len = 0 := (Prod.mk.inj h).2.symm
    omega
theorem ok_X11_at : SOK yX11_at cX11_at 2 (some .int) 2 := ⟨⟨(bw3 131 (by decide +kernel) rfl), (bw1 1 (by decide +kernel) rfl), by decide, by decide, by decide +kernel⟩, (bw3 130 (by decide +kernel) rfl)⟩
theorem ok_X11_set : SOK yX11_set cX11_set 3 none 3 := ⟨⟨(bw3 86 (by decide +kernel) rfl), (bw1 1 (by decide +kernel) rfl), by decide, by decide, by decide +kernel⟩, (bw3 85 (by decide +kernel) rfl)⟩
theorem ok_X11_at_ : SOK yX11_at_ cX11_at_ 2 (some .long) 2 := ⟨⟨(bw6 82 (by decide +kernel) rfl), (bw1 1 (by decide +kernel) rfl), by decide, by decide, by decide +kernel⟩, (bw6 81 (by decide +kernel) rfl)⟩
theorem ok_X11_set_ : SOK yX11_set_ cX11_set_ 4 none 3 := ⟨⟨(bw6 66 (by decide +kernel) rfl), (bw1 1 (by decide +kernel) rfl), by decide, by decide, by decide +kernel⟩, (bw6 65 (by decide +kernel) rfl)⟩
theorem i_X11_at {a len : Nat} {i : Int} (hk : KT a = (1, len)) (hn : a < n) : CT l Γ yX11_at cX11_at 2 (some .int) 0 0 0 0 [vr Γ a, vi i] g n μ (pE (vi (at' μ a len i)) μ) := by
  refine SW.ct (by decide) (Nat.le_of_ble_eq_true rfl) ?_
  refine z_sub (lv' := [(0, vr Γ a), (1, vi i)]) [0, 1] rfl ?_
  have ew : w (len : Int) = len := w_nat (by have := len_lt hk; omega)
  refine z_iload_n dX11_at_0 rfl 1 rfl ?_
  by_cases hc : 0 ≤ w i ∧ w i < (len : Int)
  · refine z_if_lt_F (tgt := 16) dX11_at_1 (by decide) (by omega) ?_
    refine z_iload_n dX11_at_4 rfl 1 rfl ?_
    refine z_aload_n dX11_at_5 rfl 0 rfl ?_
    refine z_alen dX11_at_6 hk (by decide) hn ?_
    refine z_icmp_ge_T (tgt := 16) dX11_at_7 (by decide) (by rw [ew]; exact hc.2) ?_
    refine z_aload_n dX11_at_10 rfl 0 rfl ?_
    refine z_iload_n dX11_at_11 rfl 1 rfl ?_
    refine z_iald dX11_at_12 hk hn hc.1 hc.2 ?_
    refine z_goto (tgt := 17) dX11_at_13 (by decide) ?_
    exact z_iret rfl dX11_at_17 rfl rfl rfl ⟨by unfold at'; rw [if_pos hc], rfl⟩
  · by_cases h1 : w i < 0
    · refine z_if_lt_T (tgt := 16) dX11_at_1 (by decide) h1 ?_
      refine z_iconst dX11_at_16 ?_
      exact z_iret rfl dX11_at_17 rfl rfl rfl ⟨by unfold at'; rw [if_neg hc], rfl⟩
    · refine z_if_lt_F (tgt := 16) dX11_at_1 (by decide) h1 ?_
      refine z_iload_n dX11_at_4 rfl 1 rfl ?_
      refine z_aload_n dX11_at_5 rfl 0 rfl ?_
      refine z_alen dX11_at_6 hk (by decide) hn ?_
      refine z_icmp_ge_F (tgt := 16) dX11_at_7 (by decide) (by rw [ew]; omega) ?_
      refine z_iconst dX11_at_16 ?_
      exact z_iret rfl dX11_at_17 rfl rfl rfl ⟨by unfold at'; rw [if_neg hc], rfl⟩
theorem i_X11_at_ {a len : Nat} {i : Int} (hk : KT a = (2, len)) (hn : a < n) : CT l Γ yX11_at_ cX11_at_ 2 (some .long) 0 0 0 0 [vr Γ a, vi i] g n μ (pE (vl (atL' μ a len i)) μ) := by
  refine SW.ct (by decide) (Nat.le_of_ble_eq_true rfl) ?_
  refine z_sub (lv' := [(0, vr Γ a), (1, vi i)]) [0, 1] rfl ?_
  have ew : w (len : Int) = len := w_nat (by have := len_lt hk; omega)
  refine z_iload_n dX11_at__0 rfl 1 rfl ?_
  by_cases hc : 0 ≤ w i ∧ w i < (len : Int)
  · refine z_if_lt_F (tgt := 16) dX11_at__1 (by decide) (by omega) ?_
    refine z_iload_n dX11_at__4 rfl 1 rfl ?_
    refine z_aload_n dX11_at__5 rfl 0 rfl ?_
    refine z_alen dX11_at__6 hk (by decide) hn ?_
    refine z_icmp_ge_T (tgt := 16) dX11_at__7 (by decide) (by rw [ew]; exact hc.2) ?_
    refine z_aload_n dX11_at__10 rfl 0 rfl ?_
    refine z_iload_n dX11_at__11 rfl 1 rfl ?_
    refine z_lald dX11_at__12 hk hn hc.1 hc.2 ?_
    refine z_goto (tgt := 17) dX11_at__13 (by decide) ?_
    exact z_lret rfl dX11_at__17 rfl rfl rfl ⟨by unfold atL'; rw [if_pos hc], rfl⟩
  · by_cases h1 : w i < 0
    · refine z_if_lt_T (tgt := 16) dX11_at__1 (by decide) h1 ?_
      refine z_lconst dX11_at__16 rfl ?_
      exact z_lret rfl dX11_at__17 rfl rfl rfl ⟨by unfold atL'; rw [if_neg hc]; rfl, rfl⟩
    · refine z_if_lt_F (tgt := 16) dX11_at__1 (by decide) h1 ?_
      refine z_iload_n dX11_at__4 rfl 1 rfl ?_
      refine z_aload_n dX11_at__5 rfl 0 rfl ?_
      refine z_alen dX11_at__6 hk (by decide) hn ?_
      refine z_icmp_ge_F (tgt := 16) dX11_at__7 (by decide) (by rw [ew]; omega) ?_
      refine z_lconst dX11_at__16 rfl ?_
      exact z_lret rfl dX11_at__17 rfl rfl rfl ⟨by unfold atL'; rw [if_neg hc]; rfl, rfl⟩
theorem i_X11_set {a len : Nat} {i : Int} {v : Int} (hk : KT a = (1, len)) (hn : a < n) : CT l Γ yX11_set cX11_set 3 none 0 0 0 0 [vr Γ a, vi i, vi v] g n μ (pM (set' μ a len i v)) := by
  refine SW.ct (by decide) (Nat.le_of_ble_eq_true rfl) ?_
  refine z_sub (lv' := [(0, vr Γ a), (1, vi i), (2, vi v)]) [0, 1, 2] rfl ?_
  have ew : w (len : Int) = len := w_nat (by have := len_lt hk; omega)
  refine z_iload_n dX11_set_0 rfl 1 rfl ?_
  by_cases hc : 0 ≤ w i ∧ w i < (len : Int)
  · refine z_if_lt_F (tgt := 14) dX11_set_1 (by decide) (by omega) ?_
    refine z_iload_n dX11_set_4 rfl 1 rfl ?_
    refine z_aload_n dX11_set_5 rfl 0 rfl ?_
    refine z_alen dX11_set_6 hk (by decide) hn ?_
    refine z_icmp_ge_T (tgt := 14) dX11_set_7 (by decide) (by rw [ew]; exact hc.2) ?_
    refine z_aload_n dX11_set_10 rfl 0 rfl ?_
    refine z_iload_n dX11_set_11 rfl 1 rfl ?_
    refine z_iload_n dX11_set_12 rfl 2 rfl ?_
    refine z_iast dX11_set_13 hk hn hc.1 hc.2 ?_
    exact z_vret rfl dX11_set_14 rfl rfl rfl ⟨rfl, by unfold set'; rw [if_pos hc]⟩
  · by_cases h1 : w i < 0
    · refine z_if_lt_T (tgt := 14) dX11_set_1 (by decide) h1 ?_
      exact z_vret rfl dX11_set_14 rfl rfl rfl ⟨rfl, by unfold set'; rw [if_neg hc]⟩
    · refine z_if_lt_F (tgt := 14) dX11_set_1 (by decide) h1 ?_
      refine z_iload_n dX11_set_4 rfl 1 rfl ?_
      refine z_aload_n dX11_set_5 rfl 0 rfl ?_
      refine z_alen dX11_set_6 hk (by decide) hn ?_
      refine z_icmp_ge_F (tgt := 14) dX11_set_7 (by decide) (by rw [ew]; omega) ?_
      exact z_vret rfl dX11_set_14 rfl rfl rfl ⟨rfl, by unfold set'; rw [if_neg hc]⟩
theorem i_X11_set_ {a len : Nat} {i : Int} {v : Int64} (hk : KT a = (2, len)) (hn : a < n) : CT l Γ yX11_set_ cX11_set_ 4 none 0 0 0 0 [vr Γ a, vi i, vl v] g n μ (pM (setL' μ a len i v)) := by
  refine SW.ct (by decide) (Nat.le_of_ble_eq_true rfl) ?_
  refine z_sub (lv' := [(0, vr Γ a), (1, vi i), (2, vl v)]) [0, 1, 2] rfl ?_
  have ew : w (len : Int) = len := w_nat (by have := len_lt hk; omega)
  refine z_iload_n dX11_set__0 rfl 1 rfl ?_
  by_cases hc : 0 ≤ w i ∧ w i < (len : Int)
  · refine z_if_lt_F (tgt := 14) dX11_set__1 (by decide) (by omega) ?_
    refine z_iload_n dX11_set__4 rfl 1 rfl ?_
    refine z_aload_n dX11_set__5 rfl 0 rfl ?_
    refine z_alen dX11_set__6 hk (by decide) hn ?_
    refine z_icmp_ge_T (tgt := 14) dX11_set__7 (by decide) (by rw [ew]; exact hc.2) ?_
    refine z_aload_n dX11_set__10 rfl 0 rfl ?_
    refine z_iload_n dX11_set__11 rfl 1 rfl ?_
    refine z_lload_n dX11_set__12 rfl 2 rfl ?_
    refine z_last dX11_set__13 hk hn hc.1 hc.2 ?_
    exact z_vret rfl dX11_set__14 rfl rfl rfl ⟨rfl, by unfold setL'; rw [if_pos hc]⟩
  · by_cases h1 : w i < 0
    · refine z_if_lt_T (tgt := 14) dX11_set__1 (by decide) h1 ?_
      exact z_vret rfl dX11_set__14 rfl rfl rfl ⟨rfl, by unfold setL'; rw [if_neg hc]⟩
    · refine z_if_lt_F (tgt := 14) dX11_set__1 (by decide) h1 ?_
      refine z_iload_n dX11_set__4 rfl 1 rfl ?_
      refine z_aload_n dX11_set__5 rfl 0 rfl ?_
      refine z_alen dX11_set__6 hk (by decide) hn ?_
      refine z_icmp_ge_F (tgt := 14) dX11_set__7 (by decide) (by rw [ew]; omega) ?_
      exact z_vret rfl dX11_set__14 rfl rfl rfl ⟨rfl, by unfold setL'; rw [if_neg hc]⟩
end Builtin
