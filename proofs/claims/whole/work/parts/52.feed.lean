/-! FEED -/
def fbC (a : Int) (r : Nat) : Int := w_iand (w_iushr a (24 - 8 * (r : Int))) 255
def fbM (a : Int) (r : Nat) : Int := w_i2b (w_i2b (w_ishr a (24 - 8 * (r : Int))))
theorem i2b_f : ∀ a : Fin 256, w_i2b ((a.1 : Int) - 128) = (a.1 : Int) - 128 := by decide +kernel
theorem i2b_id {z : Int} (h0 : -128 ≤ z) (h1 : z < 128) : w_i2b z = z := by
  have h := i2b_f ⟨(z + 128).toNat, by omega⟩
  have e : (((z + 128).toNat : Nat) : Int) - 128 = z := by omega
  rw [show ((((⟨(z + 128).toNat, by omega⟩ : Fin 256).1 : Nat) : Int) - 128) = z from e] at h
  exact h
theorem i2b_e (y : Int) : w_i2b y = ((Int32.ofInt y).toBitVec.setWidth 8).toInt := by
  unfold w_i2b
  rw [Int8.toInt_toInt32]
  show ((Int32.ofInt y).toInt8.toBitVec).toInt = _
  rw [Int32.toBitVec_toInt8, BitVec.signExtend_eq_setWidth_of_le _ (by decide)]
theorem ub_8 (t : BitVec 8) : ub t.toInt = (t.toNat : Int) ∧ -128 ≤ t.toInt ∧ t.toInt < 128 := by
  have h := t.isLt
  have e : t.toInt = if 2 * t.toNat < 2 ^ 8 then (t.toNat : Int) else (t.toNat : Int) - ((2 ^ 8 : Nat) : Int) := BitVec.toInt_eq_toNat_cond t
  unfold ub
  rw [e]
  by_cases c : 2 * t.toNat < 2 ^ 8
  · rw [if_pos c, if_neg (by omega)]; omega
  · rw [if_neg c, if_pos (by omega)]; omega
theorem sh_f : ∀ r : Fin 4, (((Int32.ofInt (24 - 8 * (r.1 : Int)) &&& 31).toBitVec).smod 32).toNat = 24 - 8 * r.1 ∧ (((Int32.ofInt (24 - 8 * (r.1 : Int))).toUInt32 &&& Int32.toUInt32 31).toBitVec % 32).toNat = 24 - 8 * r.1 := by decide +kernel
theorem fb_e (a : Int) {r : Nat} (hr : r < 4) : ub (fbM a r) = fbC a r ∧ -128 ≤ fbM a r ∧ fbM a r < 128 ∧ 0 ≤ fbC a r ∧ fbC a r ≤ 255 := by
  have hs := sh_f ⟨r, hr⟩
  obtain ⟨s1, s2⟩ := hs
  simp only at s1 s2
  generalize hX : (Int32.ofInt a).toBitVec = X
  have eM : fbM a r = ((X >>> (24 - 8 * r)).setWidth 8).toInt := by
    unfold fbM
    have e1 : w_i2b (w_ishr a (24 - 8 * (r : Int))) = ((X >>> (24 - 8 * r)).setWidth 8).toInt := by
      rw [i2b_e]
      unfold w_ishr
      rw [Int32.ofInt_toInt, Int32.toBitVec_shiftRight, hX]
      congr 1
      apply BitVec.eq_of_getLsbD_eq
      intro i hi
      rw [BitVec.getLsbD_setWidth, BitVec.getLsbD_setWidth, BitVec.getLsbD_sshiftRight', BitVec.getLsbD_ushiftRight]
      have e2 : (BitVec.smod (Int32.ofInt (24 - 8 * (r : Int)) &&& 31).toBitVec 32).toNat = 24 - 8 * r := s1
      rw [e2, if_pos (by omega), decide_eq_false (p := 32 ≤ i) (by omega)]
      simp
    rw [e1]
    have k := ub_8 ((X >>> (24 - 8 * r)).setWidth 8)
    exact i2b_id k.2.1 k.2.2
  have eC : fbC a r = (((X >>> (24 - 8 * r)).setWidth 8).toNat : Int) := by
    unfold fbC w_iand w_iushr
    rw [Int32.ofInt_toInt]
    have e1 : (((Int32.ofInt a).toUInt32 >>> ((Int32.ofInt (24 - 8 * (r : Int))).toUInt32 &&& Int32.toUInt32 31)).toInt32 &&& Int32.ofInt 255).toBitVec = BitVec.ofNat 32 (((X >>> (24 - 8 * r)).setWidth 8).toNat) := by
      apply BitVec.eq_of_toNat_eq
      rw [Int32.toBitVec_and, BitVec.toNat_and, BitVec.toNat_ofNat, BitVec.toNat_setWidth]
      have e2 : (((Int32.ofInt a).toUInt32 >>> ((Int32.ofInt (24 - 8 * (r : Int))).toUInt32 &&& Int32.toUInt32 31)).toInt32).toBitVec = X >>> (24 - 8 * r) := by
        rw [UInt32.toBitVec_toInt32, UInt32.toBitVec_shiftRight]
        apply BitVec.eq_of_toNat_eq
        have e3 : (Int32.ofInt a).toUInt32.toBitVec = X := hX
        rw [e3, BitVec.ushiftRight_eq', BitVec.toNat_ushiftRight, BitVec.toNat_ushiftRight]
        have e4 : BitVec.toNat (UInt32.toBitVec ((Int32.ofInt (24 - 8 * (r : Int))).toUInt32 &&& Int32.toUInt32 31) % 32) = 24 - 8 * r := s2
        rw [show BitVec.toNat (UInt32.toBitVec ((Int32.ofInt (24 - 8 * (r : Int))).toUInt32 &&& Int32.toUInt32 31) % 32) = 24 - 8 * r from e4]
      rw [e2]
      show (X >>> (24 - 8 * r)).toNat &&& (2 ^ 8 - 1) = _
      rw [Nat.and_two_pow_sub_one_eq_mod]
      omega
    show (BitVec.toInt _) = _
    rw [e1, BitVec.toInt_eq_toNat_of_lt (by rw [BitVec.toNat_ofNat]; have := ((X >>> (24 - 8 * r)).setWidth 8).isLt; omega), BitVec.toNat_ofNat]
    have := ((X >>> (24 - 8 * r)).setWidth 8).isLt
    congr 1
    omega
  have k := ub_8 ((X >>> (24 - 8 * r)).setWidth 8)
  have l := ((X >>> (24 - 8 * r)).setWidth 8).isLt
  rw [eM, eC]
  omega
def ApC (ν0 ν : Mem) (n : Nat) (A : Nat → Int) (c : Nat) : Prop := Fr [2281, 11] ν0 ν ∧ rI ν 2281 0 = ((n + c : Nat) : Int) ∧ (∀ j : Nat, j < n → rI ν 11 (j : Int) = rI ν0 11 (j : Int)) ∧ ∀ k : Nat, k < c → rI ν 11 ((n + k : Nat) : Int) = fbC (A (k / 4)) (k % 4)
theorem c_append_l {ν0 : Mem} {n : Nat} {A : Nat → Int} {m : Nat} (hn : n + 4 * m + 4 ≤ 300) {K : Mem → Prop} (hK : ∀ ξ : Mem, ApC ν0 ξ n A (4 * (m + 1)) → K ξ) : ∀ (f r : Nat) (ν : Mem), r + f = 4 → ApC ν0 ν n A (4 * m + r) → l_Tape_append_3 (A m) K (f + 1) (24 - 8 * (r : Int)) ν
  | 0, r, ν, e, h => by
    unfold l_Tape_append_3
    (try simp (disch := omega) only [w_id])
    rw [if_pos (by omega)]
    refine hK ν ?_
    rw [show 4 * (m + 1) = 4 * m + r by omega]
    exact h
  | f + 1, r, ν, e, h => by
    unfold l_Tape_append_3
    obtain ⟨h1, h2, h3, h4⟩ := h
    have b := fb_e (A m) (show r < 4 by omega)
    rw [h2]
    (try simp (disch := omega) only [w_id])
    rw [if_neg (by omega), if_pos (by omega)]
    intro μ2 e2 μ3 e3
    rw [set_in (by omega) (by omega) (by decide)] at e2
    have l2 : rI μ2 2281 0 = ((n + (4 * m + r) : Nat) : Int) := by rw [e2, rI_ne _ _ _ _ rfl]; exact h2
    rw [l2] at e3
    have hv : w_iand (w_iushr (A m) (24 - 8 * (r : Int))) 255 = fbC (A m) r := rfl
    rw [hv] at e2
    have ih := c_append_l hn hK f (r + 1) μ3 (by omega) ⟨?_, ?_, fun j hj => ?_, fun k hk => ?_⟩
    · rw [show (24 - 8 * (((r + 1 : Nat)) : Int)) = 24 - 8 * (r : Int) + -8 by omega] at ih
      exact ih
    · subst e3; subst e2; exact (h1.wI (by decide)).wI (by decide)
    · rw [e3, rI_eq _ _ _ ⟨by omega, by omega⟩]; omega
    · rw [e3, rI_ne _ _ _ _ rfl, e2, rI_sI, if_neg (fun z => by omega)]
      exact h3 j hj
    · rw [e3, rI_ne _ _ _ _ rfl, e2]
      by_cases c : k = 4 * m + r
      · rw [c, rI_eq _ _ _ ⟨by omega, by omega⟩, show (4 * m + r) / 4 = m by omega, show (4 * m + r) % 4 = r by omega]
      · rw [rI_sI, if_neg (fun z => by omega)]
        exact h4 k (by omega)
theorem c_append {ν0 ν : Mem} {n : Nat} {A : Nat → Int} {m : Nat} (hn : n + 4 * m + 4 ≤ 300) (h : ApC ν0 ν n A (4 * m)) {K : Mem → Prop} (hK : ∀ ξ : Mem, ApC ν0 ξ n A (4 * (m + 1)) → K ξ) : f_Tape_append (A m) ν K := by
  refine ⟨5, ?_⟩
  have := c_append_l hn hK 4 0 ν rfl h
  exact this
theorem irem4 : ∀ k : Fin 20, w_irem (k.1 : Int) 4 = ((k.1 % 4 : Nat) : Int) := by decide +kernel
def ApM (ν0 ν : Mem) (n : Nat) (A : Nat → Int) (c : Nat) : Prop := Fr [15512, 150] ν0 ν ∧ rI ν 15512 0 = ((n + c : Nat) : Int) ∧ (∀ j : Nat, j < n → rI ν 150 (j : Int) = rI ν0 150 (j : Int)) ∧ ∀ k : Nat, k < c → rI ν 150 ((n + k : Nat) : Int) = fbM (A (k / 4)) (k % 4)
def arg5 (a b c d e : Int) (k : Nat) : Int := if k = 0 then a else if k = 1 then b else if k = 2 then c else if k = 3 then d else e
theorem m_feed_l {ν0 : Mem} {n : Nat} {a b c d e : Int} (hn : n + 20 ≤ 300) {K : Mem → Prop} (hK : ∀ ξ : Mem, ApM ν0 ξ n (arg5 a b c d e) 20 → K ξ) : ∀ (f r : Nat) (ν : Mem), r + f = 20 → ApM ν0 ν n (arg5 a b c d e) r → l_M_feed_23 a b c d e K (f + 1) (r : Int) ν
  | 0, r, ν, er, h => by
    unfold l_M_feed_23
    (try simp (disch := omega) only [w_id])
    rw [if_neg (by omega)]
    refine hK ν ?_
    rw [show 20 = r by omega]
    exact h
  | f + 1, r, ν, er, h => by
    unfold l_M_feed_23
    obtain ⟨h1, h2, h3, h4⟩ := h
    rw [h2]
    (try simp (disch := omega) only [w_id])
    rw [if_pos (by omega)]
    intro x ex
    have ex' : x = arg5 a b c d e (r / 4) := by
      rw [ex]
      unfold arg5
      by_cases c1 : r < 4
      · rw [if_pos (by omega), if_pos (by omega)]
      · rw [if_neg (by omega), if_neg (show ¬ r / 4 = 0 by omega)]
        by_cases c2 : r < 8
        · rw [if_pos (by omega), if_pos (by omega)]
        · rw [if_neg (by omega), if_neg (show ¬ r / 4 = 1 by omega)]
          by_cases c3 : r < 12
          · rw [if_pos (by omega), if_pos (by omega)]
          · rw [if_neg (by omega), if_neg (show ¬ r / 4 = 2 by omega)]
            by_cases c4 : r < 16
            · rw [if_pos (by omega), if_pos (by omega)]
            · rw [if_neg (by omega), if_neg (show ¬ r / 4 = 3 by omega)]
    have bq := fb_e (arg5 a b c d e (r / 4)) (show r % 4 < 4 by omega)
    refine ⟨by omega, by omega, fun μ3 e3 μ4 e4 => ?_⟩
    have i4 : w_irem (r : Int) 4 = ((r % 4 : Nat) : Int) := irem4 ⟨r, by omega⟩
    have hv : w_i2b (w_i2b (w_ishr x (24 - 8 * w_irem (r : Int) 4))) = fbM (arg5 a b c d e (r / 4)) (r % 4) := by
      rw [i4, ex']
      rfl
    rw [hv] at e3
    have l3 : rI μ3 15512 0 = ((n + r : Nat) : Int) := by rw [e3, rI_ne _ _ _ _ rfl]; exact h2
    rw [l3] at e4
    have ih := m_feed_l hn hK f (r + 1) μ4 (by omega) ⟨?_, ?_, fun j hj => ?_, fun k hk => ?_⟩
    · exact ih
    · subst e4; subst e3; exact (h1.wI (by decide)).wI (by decide)
    · rw [e4, rI_eq _ _ _ ⟨by omega, by omega⟩]; omega
    · rw [e4, rI_ne _ _ _ _ rfl, e3, rI_sI, if_neg (fun z => by omega)]
      exact h3 j hj
    · rw [e4, rI_ne _ _ _ _ rfl, e3]
      by_cases ck : k = r
      · rw [ck, rI_eq _ _ _ ⟨by omega, by omega⟩]
      · rw [rI_sI, if_neg (fun z => by omega)]
        exact h4 k (by omega)
theorem st_feed {a b c d e : Int} (ha : Rg a) (hb : Rg b) (hc : Rg c) (hd : Rg d) (he : Rg e) : Both Int (f_H_feed a b c d e) (f_M_feed a b c d e) := by
  intro μ hI
  have hI0 := hI
  obtain ⟨hS, hR, hT, hRR, hTT, hP, hF, hV, hW⟩ := hI
  have eT : rI μ 2281 0 = MS μ 15512 0 := (cr' rfl).trans hTT.1
  have hb2 : 0 ≤ MS μ 15512 0 ∧ MS μ 15512 0 ≤ 300 := ⟨hTT.2.1, hTT.2.2.1⟩
  unfold f_H_feed
  rw [eT]
  (try simp (disch := omega) only [w_id])
  refine ite_i (fun q => ?_) (fun q => ?_)
  · unfold f_M_feed
    intro μ1 e1
    subst e1
    rw [mr rfl, thr_ms]
    (try simp (disch := omega) only [w_id])
    rw [if_pos q]
    first | exact ⟨rfl, (thr_qt μ).inv hI0⟩ | exact ⟨trivial, (thr_qt μ).inv hI0⟩
  · generalize hn : (MS μ 15512 0).toNat = n
    have en : MS μ 15512 0 = (n : Int) := by omega
    refine c_append (ν0 := μ) (n := n) (A := arg5 a b c d e) (m := 0) (by omega) ⟨FrP.refl _ _, by rw [eT, en]; omega, fun _ _ => rfl, fun k hk => by omega⟩ (fun ξ1 p1 => ?_)
    refine c_append (ν0 := μ) (n := n) (A := arg5 a b c d e) (m := 1) (by omega) p1 (fun ξ2 p2 => ?_)
    refine c_append (ν0 := μ) (n := n) (A := arg5 a b c d e) (m := 2) (by omega) p2 (fun ξ3 p3 => ?_)
    refine c_append (ν0 := μ) (n := n) (A := arg5 a b c d e) (m := 3) (by omega) p3 (fun ξ4 p4 => ?_)
    refine c_append (ν0 := μ) (n := n) (A := arg5 a b c d e) (m := 4) (by omega) p4 (fun ξ p => ?_)
    clear p1 p2 p3 p4
    obtain ⟨f1, l1, o1, b1⟩ := p
    have eM : MS ξ = MS μ := f1.ms rfl
    have eX : MS (sI ξ 15464 0 0) = MS μ := (thr_ms ξ).trans eM
    unfold f_M_feed
    intro μ1 e1
    subst e1
    rw [mr rfl, eX]
    (try simp (disch := omega) only [w_id])
    rw [if_neg q]
    refine ⟨21, m_feed_l (ν0 := sI ξ 15464 0 0) (n := n) (by omega) (fun ο p => ?_) 20 0 _ rfl ⟨FrP.refl _ _, (by rw [mr rfl, eX, en]; omega), fun _ _ => rfl, fun k hk => by omega⟩⟩
    obtain ⟨f2, l2, o2, b2⟩ := p
    rw [l1, l2]
    refine ⟨rfl, ?_⟩
    have fT : Fr [15464] ξ (sI ξ 15464 0 0) := fr1 _ _ _ _
    have g2 : Fr [15464, 15512, 150] ξ ο := (fT.mono rfl).trans (f2.mono rfl)
    have gg : Fr [2281, 11, 15464, 15512, 150] μ ο := (f1.mono rfl).trans (g2.mono rfl)
    have fC := fun (g : Nat → Bool) h => Fr.loC (g := g) gg h
    have fM := fun (g : Nat → Bool) h => Fr.loM (g := g) gg h
    have eL : CL ο = CL μ := by
      unfold CL
      rw [gg.rdL rfl, gg.rdL rfl, gg.rdL rfl, gg.rdL rfl]
    refine ⟨by rw [gg.1]; exact hS, ?_⟩
    rw [eL]
    refine ⟨hR.lo (fM _ rfl), hT.lo (fM _ rfl), hRR.lo (fC _ rfl) (fM _ rfl), ?_, hP.lo (fC _ rfl) (fM _ rfl), hF.lo (fC _ rfl) (fM _ rfl), hV.lo (fC _ rfl) (fM _ rfl), hW.lo (fC (fun q => Nat.beq q 102) rfl 102 rfl) (fC (fun q => Nat.beq q 97) rfl 97 rfl) (fM (fun q => Nat.beq q 166) rfl 166 rfl)⟩
    have c1 : CS ο 2281 0 = ((n + 20 : Nat) : Int) := by rw [← cr' rfl, g2.rdI rfl]; exact l1
    have c2 : MS ο 15512 0 = ((n + 20 : Nat) : Int) := by rw [← mr rfl]; exact l2
    have c3 : CS ο 2287 0 = CS μ 2287 0 := congrFun (fC (fun q => Nat.beq q 2287) rfl _ rfl) 0
    have c4 : MS ο 15519 0 = MS μ 15519 0 := congrFun (fM (fun q => Nat.beq q 15519) rfl _ rfl) 0
    unfold RelT
    rw [c1, c2, c3, c4]
    refine ⟨rfl, by omega, by omega, hTT.2.2.2.1, fun j j0 j1 => ?_⟩
    have ej : j = ((j.toNat : Nat) : Int) := by omega
    rw [← cr' rfl, ← mr rfl, g2.rdI rfl]
    generalize j.toNat = k at ej
    subst ej
    by_cases ck : k < n
    · have x1 := o1 k ck
      have x2 := o2 k ck
      have x3 : rI (sI ξ 15464 0 0) 150 (k : Int) = MS μ 150 (k : Int) := by rw [mr rfl, eX]
      rw [x1, x2, x3, cr' rfl]
      exact hTT.2.2.2.2 (k : Int) (by omega) (by omega)
    · have ek : k = n + (k - n) := by omega
      have x1 := b1 (k - n) (by omega)
      have x2 := b2 (k - n) (by omega)
      rw [← ek] at x1 x2
      rw [x1, x2]
      have g := fb_e (arg5 a b c d e ((k - n) / 4)) (show (k - n) % 4 < 4 by omega)
      exact ⟨g.1.symm, g.2.1, g.2.2.1⟩
