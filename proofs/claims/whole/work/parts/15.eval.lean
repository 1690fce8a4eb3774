/-! NUMBERS, AND WHAT RULES COME TO, ON BOTH SIDES -/
theorem ofInt_nI {v : Int} (h : 0 ≤ v) : Int32.ofInt v = nI v.toNat := by
  unfold nI
  have : v = ((v.toNat : Nat) : Int) := by omega
  rw [this]
  rfl
theorem w_nI {n : Nat} (h : n < 2147483648) : (nI n).toInt = (n : Int) := nI_toInt (by omega)
theorem iand15 {v : Int} (h0 : 0 ≤ v) (h1 : v < 2147483648) : w_iand v 15 = v % 16 := by
  unfold w_iand
  rw [ofInt_nI h0, pk_andN (m := Int32.ofInt 15) (n := v.toNat) (by omega) 4 (by decide), w_nI (by omega)]
  omega
theorem ishr4 {v : Int} (h0 : 0 ≤ v) (h1 : v < 2147483648) : w_ishr v 4 = v / 16 := by
  unfold w_ishr
  rw [ofInt_nI h0, pk_shrN (n := v.toNat) (by omega) (Int32.ofInt 4 &&& 31) 4 (by decide), w_nI (by omega)]
  omega
theorem l2i_e {x : Int64} (h0 : -2147483648 ≤ x.toInt) (h1 : x.toInt < 2147483648) : w_l2i x = x.toInt := by
  unfold w_l2i
  rw [Int64.toInt_toInt32]
  show Int.bmod x.toInt 4294967296 = x.toInt
  rw [Int.bmod_def]
  omega
theorem i2l_e {a : Int} (h0 : -2147483648 ≤ a) (h1 : a < 2147483648) : (w_i2l a).toInt = a := by
  unfold w_i2l
  rw [Int32.toInt_toInt64, w_ofInt, w_id h0 h1]
theorem ladd_e {x y : Int64} (h0 : -9223372036854775808 ≤ x.toInt + y.toInt) (h1 : x.toInt + y.toInt < 9223372036854775808) : (x + y).toInt = x.toInt + y.toInt := by
  rw [Int64.toInt_add]
  show Int.bmod (x.toInt + y.toInt) 18446744073709551616 = _
  rw [Int.bmod_def]
  omega
theorem lsub_e {x y : Int64} (h0 : -9223372036854775808 ≤ x.toInt - y.toInt) (h1 : x.toInt - y.toInt < 9223372036854775808) : (x - y).toInt = x.toInt - y.toInt := by
  rw [Int64.toInt_sub]
  show Int.bmod (x.toInt - y.toInt) 18446744073709551616 = _
  rw [Int.bmod_def]
  omega
theorem lmul_e {x y : Int64} (h0 : -9223372036854775808 ≤ x.toInt * y.toInt) (h1 : x.toInt * y.toInt < 9223372036854775808) : (x * y).toInt = x.toInt * y.toInt := by
  rw [Int64.toInt_mul]
  show Int.bmod (x.toInt * y.toInt) 18446744073709551616 = _
  rw [Int.bmod_def]
  omega
theorem bounded_e (x : Int64) : v_M_bounded x = bnd x.toInt := by
  unfold v_M_bounded bnd
  have e1 : (1000000000 : Int64).toInt = 1000000000 := by decide
  have e2 : (-1000000000 : Int64).toInt = -1000000000 := by decide
  simp only [Int64.lt_iff_toInt_lt, e1, e2]
  by_cases h : 1000000000 < x.toInt
  · rw [if_pos h, if_pos h]
  · rw [if_neg h, if_neg h]
    by_cases h2 : x.toInt < -1000000000
    · rw [if_pos h2, if_pos h2]
    · rw [if_neg h2, if_neg h2, l2i_e (by omega) (by omega)]
theorem rbounded_e (x : Int64) : v_Rules_bounded x = bnd x.toInt := bounded_e x
theorem bnd_Bd (v : Int) : Bd (bnd v) := by
  unfold Bd bnd
  split
  · omega
  · split <;> omega
theorem bnd_id {v : Int} (h : Bd v) : bnd v = v := by
  unfold Bd at h
  unfold bnd
  rw [if_neg (by omega), if_neg (by omega)]
theorem mul_bd {a b : Int} (ha : Bd a) (hb : Bd b) : -1000000000000000000 ≤ a * b ∧ a * b ≤ 1000000000000000000 := by
  unfold Bd at ha hb
  have h1 : (a * b).natAbs ≤ 1000000000 * 1000000000 := by
    rw [Int.natAbs_mul]
    exact Nat.mul_le_mul (by omega) (by omega)
  omega
theorem tdiv_bd {a b : Int} (ha : Bd a) : Bd (a.tdiv b) := by
  unfold Bd at *
  have := Int.natAbs_tdiv_le_natAbs a b
  omega
theorem idiv_e {a b : Int} (ha : Bd a) (hb : Bd b) : w_idiv a b = a.tdiv b := by
  have ht := tdiv_bd (b := b) ha
  unfold Bd at *
  unfold w_idiv
  rw [Int32.toInt_div, w_ofInt, w_ofInt, w_id (by omega) (by omega), w_id (by omega) (by omega)]
  show Int.bmod (a.tdiv b) 4294967296 = _
  rw [Int.bmod_def]
  omega
theorem jn_Bd {s a b : Int} (ha : Bd a) (hb : Bd b) (h : s = -7 → b01 a ∧ b01 b) : Bd (jn s a b) := by
  have h0 : Bd 0 := by unfold Bd; omega
  have h1 : Bd 1 := by unfold Bd; omega
  unfold jn
  refine ite_p (fun _ => bnd_Bd _) (fun _ => ite_p (fun _ => bnd_Bd _) (fun _ => ite_p (fun _ => bnd_Bd _) (fun _ => ite_p (fun _ => ite_p (fun _ => h0) (fun _ => tdiv_bd ha)) (fun _ => ite_p (fun _ => ite_p (fun _ => h1) (fun _ => h0)) (fun _ => ite_p (fun _ => ite_p (fun _ => h1) (fun _ => h0)) (fun _ => ite_p (fun _ => ite_p (fun _ => h1) (fun _ => h0)) (fun _ => ite_p (fun e => ?_) (fun _ => ite_p (fun _ => h1) (fun _ => h0)))))))))
  obtain ⟨p, q⟩ := h e
  rcases p with rfl | rfl <;> rcases q with rfl | rfl <;> (unfold Bd; omega)

-- the model's joining and walking
theorem m_joined {s a b : Int} (ha : Bd a) (hb : Bd b) (hs : -10 ≤ s) (hs2 : s < 0) (hs3 : ¬ s = -9) (h01 : s = -7 ∨ s = -8 → b01 a ∧ b01 b) {μ : Mem} {K : Int → Mem → Prop} (h : K (jn s a b) μ) : f_M_joined s a b μ K := by
  have hm := mul_bd ha hb
  have ha2 := ha
  have hb2 := hb
  unfold Bd at ha2 hb2
  have ia : (w_i2l a).toInt = a := i2l_e (by omega) (by omega)
  have ib : (w_i2l b).toInt = b := i2l_e (by omega) (by omega)
  unfold f_M_joined
  simp only [bounded_e]
  rw [lmul_e (by rw [ia, ib]; omega) (by rw [ia, ib]; omega), lsub_e (by rw [ia, ib]; omega) (by rw [ia, ib]; omega), ladd_e (by rw [ia, ib]; omega) (by rw [ia, ib]; omega), ia, ib, idiv_e ha hb]
  simp (disch := omega) only [w_id, forall_eq]
  unfold jn at h
  have q : s = -1 ∨ s = -2 ∨ s = -3 ∨ s = -4 ∨ s = -5 ∨ s = -6 ∨ s = -7 ∨ s = -8 ∨ s = -10 := by omega
  rcases q with rfl | rfl | rfl | rfl | rfl | rfl | rfl | rfl | rfl
  · simpa using h
  · simpa using h
  · simpa using h
  · simpa using h
  · simpa using h
  · simpa using h
  · simpa using h
  · simpa using h
  · simp only [reduceIte, Int.reduceNeg, Int.reduceEq] at h ⊢
    refine ite_i (fun e => ?_) (fun e => ⟨e, ?_⟩)
    · rw [if_pos e] at h; exact h
    · rw [if_neg e] at h; exact h
/-- the stack in an array: the last one pushed first in the list -/
def Stk (ν : Mem) (c : Nat) (st : List Int) : Prop := ∀ k : Nat, k < st.length → rI ν c ((st.length : Int) - 1 - (k : Int)) = st.getD k 0
theorem Stk.hd {ν : Mem} {c : Nat} {a : Int} {r : List Int} (h : Stk ν c (a :: r)) : rI ν c (r.length : Int) = a := by
  have := h 0 (by simp)
  simp only [List.length_cons, List.getD_cons_zero] at this
  rw [← this]
  congr 1
  omega
theorem Stk.sn {ν : Mem} {c : Nat} {a b : Int} {r : List Int} (h : Stk ν c (a :: b :: r)) : rI ν c (r.length : Int) = b := by
  have := h 1 (by simp)
  simp only [List.length_cons, List.getD_cons_succ, List.getD_cons_zero] at this
  rw [← this]
  congr 1
  omega
theorem Stk.tl {ν : Mem} {c : Nat} {a : Int} {r : List Int} (h : Stk ν c (a :: r)) : Stk ν c r := by
  intro k hk
  have := h (k + 1) (by simp; omega)
  simp only [List.length_cons, List.getD_cons_succ] at this
  rw [← this]
  congr 1
  omega
theorem Stk.push {ν : Mem} {c : Nat} {v : Int} {r : List Int} (h : Stk ν c r) (hv : Bd v) : Stk (sI ν c (r.length : Int) v) c (v :: r) := by
  intro k hk
  unfold Bd at hv
  cases k with
  | zero =>
    rw [rI_sI, if_pos ⟨rfl, by simp⟩, w_id (by omega) (by omega)]
    rfl
  | succ k =>
    simp only [List.length_cons, List.getD_cons_succ] at hk ⊢
    rw [rI_sI, if_neg (fun q => by omega), ← h k (by omega)]
    congr 1
    omega
theorem Safe.gd {fx : Int → Int} {s : Int} {c st : List Int} (h : Safe fx (s :: c) st) : gd s st := h.1
theorem mcode_len (σ : Sg) (c : Int) : (mcode σ c).length = (σ 149 c - σ 148 c).toNat := by simp [mcode]
theorem mcode_drop {σ : Sg} {c : Int} {k : Nat} (h : k < (σ 149 c - σ 148 c).toNat) : (mcode σ c).drop k = σ 143 (320 * (c / 15) + σ 148 c + (k : Int)) :: (mcode σ c).drop (k + 1) := by
  rw [List.drop_eq_getElem_cons (by rw [mcode_len]; exact h)]
  simp [mcode]
theorem m_works {μ : Mem} {c : Int} (hc : 0 ≤ c ∧ c < 150) {cond : Bool} (hb : 0 ≤ MS μ 148 c) (he : MS μ 149 c ≤ 320) {fx : Int → Int} (hf : ∀ i : Int, Bd (fx i)) (hnm : ∀ k : Int, 0 ≤ k → k < MS μ 149 c - MS μ 148 c → 10000 ≤ MS μ 143 (320 * (c / 15) + MS μ 148 c + k) → rI μ 151 (MS μ 143 (320 * (c / 15) + MS μ 148 c + k) - 10000) = fx (MS μ 143 (320 * (c / 15) + MS μ 148 c + k) - 10000)) (hw : Wfc cond (mcode (MS μ) c)) {K : Int → Mem → Prop} (h : ∀ ν : Mem, Fr [152] μ ν → K (evl fx (mcode (MS μ) c)) ν) : f_M_works c μ K := by
  obtain ⟨hsafe, v, hv, hvb, -⟩ := hw fx hf
  have ecd : w_idiv c 15 = c / 15 := by
    rw [idiv_e (by unfold Bd; omega) (by unfold Bd; omega)]
    exact Int.tdiv_eq_ediv_of_nonneg hc.1
  unfold f_M_works
  rw [ecd]
  intro v3 e3
  have cr147 : rI μ 148 c = MS μ 148 c := rfl
  simp (disch := omega) only [w_id]
  refine ⟨by omega, by omega, fun v4 e4 => ?_⟩
  rw [cr147] at e4
  have main := lp3 (fun n (t i : Int) (ν : Mem) => l_M_works_19 c v3 (fun (μ_7 : Mem) => K (rI μ_7 152 (w 0)) μ_7) n t i ν)
    (fun t i ν => ∃ (k : Nat) (st : List Int), i = MS μ 148 c + (k : Int) ∧ t = (st.length : Int) ∧ st.length ≤ 32 ∧ ((k : Int) = 0 ∨ MS μ 148 c + (k : Int) ≤ MS μ 149 c) ∧ Fr [152] μ ν ∧ Stk ν 152 st ∧ (∀ x ∈ st, Bd x) ∧ Safe fx ((mcode (MS μ) c).drop k) st ∧ runc fx ((mcode (MS μ) c).drop k) st = [v])
    (fun _ i _ => (MS μ 149 c - i).toNat) (fun n t i ν hI ih => ?_) 0 v4 μ ⟨0, [], by omega, rfl, by decide, by omega, FrP.refl _ _, fun k hk => absurd hk (by simp), fun x hx => absurd hx (by simp), by rw [List.drop_zero]; exact hsafe, by rw [List.drop_zero]; exact hv⟩
  · exact main
  · obtain ⟨k, st, rfl, rfl, hl, hk, hfr, hst, hbd, hsf, hrun⟩ := hI
    have re : rI ν 149 c = MS μ 149 c := (hfr.rdI rfl).trans rfl
    unfold l_M_works_19
    have hsr := MS_rng μ 143 (320 * (c / 15) + MS μ 148 c + (k : Int))
    have hbr := MS_rng μ 148 c
    simp (disch := omega) only [w_id]
    refine ⟨by omega, by omega, ?_⟩
    rw [re]
    have her := MS_rng μ 149 c
    simp (disch := omega) only [w_id]
    refine ite_i (fun q => ?_) (fun q => ?_)
    · have hkk : k < (MS μ 149 c - MS μ 148 c).toNat := by omega
      rw [mcode_drop hkk] at hsf hrun
      have ev3 : v3 + (MS μ 148 c + (k : Int)) = 320 * (c / 15) + MS μ 148 c + (k : Int) := by omega
      have rs : rI ν 143 (320 * (c / 15) + MS μ 148 c + (k : Int)) = MS μ 143 (320 * (c / 15) + MS μ 148 c + (k : Int)) := (hfr.rdI rfl).trans rfl
      rw [ev3, rs]
      have ei : MS μ 148 c + (k : Int) + 1 = MS μ 148 c + ((k + 1 : Nat) : Int) := by omega
      have hnk := hnm (k : Int) (by omega) (by omega)
      rw [ei]
      generalize hs9 : MS μ 143 (320 * (c / 15) + MS μ 148 c + (k : Int)) = s at *
      refine ⟨by omega, by omega, fun v5 e5 => ?_⟩
      rw [e5]
      obtain ⟨hg, hln, hsf2⟩ := hsf
      have hrun2 : runc fx ((mcode (MS μ) c).drop (k + 1)) (stp fx s st) = [v] := hrun
      unfold gd at hg
      simp (disch := omega) only [w_id]
      refine ite_i (fun q1 => ite_i (fun q2 => ?_) (fun q2 => ?_)) (fun q1 => ite_i (fun q2 => ?_) (fun q2 => ?_))
      · rw [if_neg (by omega), if_pos q2] at hg
        obtain ⟨a, r, rfl, ha01⟩ := hg
        have hab := hbd a List.mem_cons_self
        have hab2 := hab
        unfold Bd at hab2
        have et : (((a :: r).length : Nat) : Int) - 1 = (r.length : Int) := by simp
        simp only [List.length_cons] at hl
        rw [et]
        rw [hst.hd]
        refine ⟨by omega, by omega, by omega, by omega, fun μ2 e2 => ?_⟩
        subst e2
        have es : stp fx s (a :: r) = (1 - a) :: r := by unfold stp; rw [if_neg (by omega), if_pos q2]; rfl
        rw [es] at hsf2 hrun2
        have hb1 : Bd (1 - a) := by unfold Bd; rcases ha01 with rfl | rfl <;> omega
        refine ih _ _ _ ⟨k + 1, (1 - a) :: r, rfl, by simp, by simp only [List.length_cons]; omega, by omega, hfr.wI rfl, hst.tl.push hb1, fun x hx => ?_, hsf2, hrun2⟩ (by omega)
        rcases List.mem_cons.mp hx with rfl | hx
        · exact hb1
        · exact hbd x (List.mem_cons_of_mem _ hx)
      · rw [if_neg (by omega), if_neg q2] at hg
        obtain ⟨hs10, b, a, r, rfl, h01⟩ := hg
        have hbb := hbd b List.mem_cons_self
        have hab := hbd a (List.mem_cons_of_mem _ List.mem_cons_self)
        have et : (((b :: a :: r).length : Nat) : Int) + (-1) - 1 = (r.length : Int) := by simp; omega
        have et2 : (((b :: a :: r).length : Nat) : Int) + (-1) = ((a :: r).length : Int) := by simp; omega
        simp only [List.length_cons] at hl
        rw [et, et2]
        rw [hst.hd, hst.sn]
        refine ⟨by omega, by omega, by simp only [List.length_cons]; omega, by simp only [List.length_cons]; omega, ?_⟩
        refine m_joined hab hbb hs10 q1 q2 h01 ?_
        refine ⟨by omega, by omega, fun μ4 e4 => ?_⟩
        subst e4
        have es : stp fx s (b :: a :: r) = jn s a b :: r := by unfold stp; rw [if_neg (by omega), if_neg q2]; rfl
        rw [es] at hsf2 hrun2
        have hb1 : Bd (jn s a b) := jn_Bd hab hbb (fun e => h01 (Or.inl e))
        refine ih _ _ _ ⟨k + 1, jn s a b :: r, rfl, by simp, by simp only [List.length_cons]; omega, by omega, hfr.wI rfl, hst.tl.tl.push hb1, fun x hx => ?_, hsf2, hrun2⟩ (by omega)
        rcases List.mem_cons.mp hx with rfl | hx
        · exact hb1
        · exact hbd x (List.mem_cons_of_mem _ (List.mem_cons_of_mem _ hx))
      · have es : stp fx s st = s :: st := by unfold stp; rw [if_pos (by omega), if_neg (by omega)]
        rw [es] at hsf2 hrun2 hln
        simp only [List.length_cons] at hln
        have hb1 : Bd s := by unfold Bd; omega
        refine ⟨by omega, by omega, fun μ5 e5 => ?_⟩
        subst e5
        refine ih _ _ _ ⟨k + 1, s :: st, rfl, by simp, by simp only [List.length_cons]; omega, by omega, hfr.wI rfl, hst.push hb1, fun x hx => ?_, hsf2, hrun2⟩ (by omega)
        rcases List.mem_cons.mp hx with rfl | hx
        · exact hb1
        · exact hbd x hx
      · rw [if_pos (by omega)] at hg
        have es : stp fx s st = fx (s - 10000) :: st := by unfold stp; rw [if_pos (by omega), if_pos (by omega)]
        rw [es] at hsf2 hrun2 hln
        simp only [List.length_cons] at hln
        have hb1 : Bd (fx (s - 10000)) := hf _
        have en : rI ν 151 (s - 10000) = fx (s - 10000) := (hfr.rdI rfl).trans (hnk (by omega))
        rw [en]
        refine ⟨by omega, by omega, by omega, by omega, fun μ5 e5 => ?_⟩
        subst e5
        refine ih _ _ _ ⟨k + 1, fx (s - 10000) :: st, rfl, by simp, by simp only [List.length_cons]; omega, by omega, hfr.wI rfl, hst.push hb1, fun x hx => ?_, hsf2, hrun2⟩ (by omega)
        rcases List.mem_cons.mp hx with rfl | hx
        · exact hb1
        · exact hbd x hx
    · have hkk : (MS μ 149 c - MS μ 148 c).toNat ≤ k := by omega
      rw [List.drop_eq_nil_of_le (by rw [mcode_len]; exact hkk)] at hrun
      have hst1 : st = [v] := hrun
      subst hst1
      have e0 : rI ν 152 0 = v := by
        have := hst.hd
        simpa using this
      have := h ν hfr
      unfold evl at this
      rw [hv] at this
      rw [e0]
      exact this
