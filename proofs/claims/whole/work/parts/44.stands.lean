/-! STANDS -/
theorem lush_f : ∀ k : Fin 64, ((Int32.ofInt (k.1 : Int)).toInt64.toUInt64 &&& Int64.toUInt64 63).toBitVec = BitVec.ofNat 64 k.1 := by decide +kernel
theorem lush_e (x : Int64) {n : Nat} (hn : n < 64) : (w_lushr x (n : Int)).toBitVec = x.toBitVec >>> n := by
  unfold w_lushr
  show x.toBitVec >>> (((Int32.ofInt (n : Int)).toInt64.toUInt64 &&& Int64.toUInt64 63).toBitVec % 64) = _
  rw [lush_f ⟨n, hn⟩]
  apply BitVec.eq_of_toNat_eq
  rw [BitVec.toNat_ushiftRight, BitVec.ushiftRight_eq', BitVec.toNat_ushiftRight]
  congr 1
  simp
  omega
theorem btl_shr (x : Int64) {n : Nat} (hn : n < 64) (m : Nat) : btl (w_lushr x (n : Int)) m = btl x (n + m) := by
  unfold btl
  rw [lush_e x hn, BitVec.getLsbD_ushiftRight]
theorem btl_1f : ∀ m : Fin 64, btl 1 m.1 = decide (m.1 = 0) := by decide +kernel
theorem lbit_l (x : Int64) {n : Nat} (hn : n < 64) : (w_lushr x (n : Int)) &&& 1 = if btl x n = true then 1 else 0 := by
  refine btl_ext (fun m hm => ?_)
  have e1 : btl 1 m = decide (m = 0) := btl_1f ⟨m, hm⟩
  rw [btl_and, btl_shr x hn, e1]
  by_cases c : m = 0
  · rw [c, Nat.add_zero]
    have e0 : btl 1 0 = true := by rw [btl_1f ⟨0, by omega⟩]; rfl
    by_cases b : btl x n = true
    · rw [if_pos b, b, e0]; rfl
    · rw [if_neg b, btl_0]
      have : btl x n = false := by cases h : btl x n with | false => rfl | true => exact absurd h b
      rw [this]; rfl
  · rw [decide_eq_false c, Bool.and_false]
    by_cases b : btl x n = true
    · rw [if_pos b, e1, decide_eq_false c]
    · rw [if_neg b, btl_0]
theorem lbit_e (x : Int64) {n : Nat} (hn : n < 64) : w_l2i ((w_lushr x (n : Int)) &&& 1) = if btl x n = true then 1 else 0 := by
  rw [lbit_l x hn]
  by_cases b : btl x n = true
  · rw [if_pos b, if_pos b]; rfl
  · rw [if_neg b, if_neg b]; rfl
theorem st_stands {n : Int} (hn : Rg n) : Both Int (fun μ k => k (v_H_stands n μ) μ) (f_M_stands n) := by
  obtain ⟨h0, h1⟩ := hn
  refine both_q (fun σ => pick (1 ≤ n ∧ n ≤ 60) (σ 129 n) (-2)) (fun μ K hI h => ?_) (fun μ K hI h => ?_)
  · show K (v_H_stands n μ) μ
    have e : v_H_stands n μ = pick (1 ≤ n ∧ n ≤ 60) (MS μ 129 n) (-2) := by
      unfold v_H_stands
      (try simp (disch := omega) only [w_id])
      by_cases c1 : n < 1
      · rw [if_pos c1, pick_f (by omega)]
      · rw [if_neg c1]
        by_cases c2 : 60 < n
        · rw [if_pos c2, pick_f (by omega)]
        · rw [if_neg c2, pick_t ⟨by omega, by omega⟩]
          have en : ((n.toNat : Nat) : Int) = n := by omega
          have s := hI.stand (n := n.toNat) (by omega) (by omega)
          have l1 := lbit_e (rL μ 9582 0) (n := n.toNat) (by omega)
          have l2 := lbit_e (rL μ 9583 0) (n := n.toNat) (by omega)
          rw [en] at s l1 l2
          obtain ⟨s1, s2, s3, s4⟩ := s
          rw [l1, l2]
          by_cases b1 : btl (rL μ 9582 0) n.toNat = true
          · have q1 := s3.mp b1
            have b2 : ¬ btl (rL μ 9583 0) n.toNat = true := fun z => by have := s4.mp z; omega
            rw [if_pos b1, if_neg b2, q1]; rfl
          · have q1 : ¬ MS μ 129 n = 1 := fun z => b1 (s3.mpr z)
            by_cases b2 : btl (rL μ 9583 0) n.toNat = true
            · have q2 := s4.mp b2
              rw [if_neg b1, if_pos b2, q2]; rfl
            · have q2 : ¬ MS μ 129 n = -1 := fun z => b2 (s4.mpr z)
              rw [if_neg b1, if_neg b2]
              omega
    rw [e]
    exact h μ (Qt.refl μ)
  · unfold f_M_stands
    intro μ1 e1
    subst e1
    rw [within_e h0 h1 (by decide) (by decide) (by decide) (by decide)]
    simp only [decide_eq_true_eq]
    (try simp (disch := omega) only [w_id])
    have g := h _ (thr_qt μ)
    refine ite_i (fun q => ⟨by omega, by omega, ?_⟩) (fun q => ?_)
    · rw [pick_t q] at g
      rw [mr rfl, thr_ms]
      exact g
    · rw [pick_f q] at g
      exact g
