/-! WHAT THE CLASS MAKES OF RULES -/
def SoR (so s : Int) : Prop := (so = 2 ∧ s = -1) ∨ (so = 3 ∧ s = -2) ∨ (so = 4 ∧ s = -3) ∨ (so = 5 ∧ s = -10) ∨ (so = 6 ∧ s = -4) ∨ (so = 7 ∧ s = -5) ∨ (so = 8 ∧ s = -6) ∨ (so = 9 ∧ s = -7) ∨ (so = 10 ∧ s = -8)
theorem l0 {x : Int64} (h : x.toInt = 0) : x = 0 := Int64.toInt_inj.mp (h.trans (by decide))
theorem l1 {x : Int64} (h : x.toInt = 1) : x = 1 := Int64.toInt_inj.mp (h.trans (by decide))
theorem jn_1 (a b : Int) : jn (-1) a b = bnd (a + b) := by
  unfold jn
  rw [if_pos rfl]
theorem jn_2 (a b : Int) : jn (-2) a b = bnd (a - b) := by
  unfold jn
  rw [if_neg (by decide), if_pos rfl]
theorem jn_3 (a b : Int) : jn (-3) a b = bnd (a * b) := by
  unfold jn
  rw [if_neg (by decide), if_neg (by decide), if_pos rfl]
theorem jn_10 (a b : Int) : jn (-10) a b = if b = 0 then 0 else a.tdiv b := by
  unfold jn
  rw [if_neg (by decide), if_neg (by decide), if_neg (by decide), if_pos rfl]
theorem jn_4 (a b : Int) : jn (-4) a b = if a < b then 1 else 0 := by
  unfold jn
  rw [if_neg (by decide), if_neg (by decide), if_neg (by decide), if_neg (by decide), if_pos rfl]
theorem jn_5 (a b : Int) : jn (-5) a b = if b < a then 1 else 0 := by
  unfold jn
  rw [if_neg (by decide), if_neg (by decide), if_neg (by decide), if_neg (by decide), if_neg (by decide), if_pos rfl]
theorem jn_6 (a b : Int) : jn (-6) a b = if a = b then 1 else 0 := by
  unfold jn
  rw [if_neg (by decide), if_neg (by decide), if_neg (by decide), if_neg (by decide), if_neg (by decide), if_neg (by decide), if_pos rfl]
theorem jn_7 (a b : Int) : jn (-7) a b = a * b := by
  unfold jn
  rw [if_neg (by decide), if_neg (by decide), if_neg (by decide), if_neg (by decide), if_neg (by decide), if_neg (by decide), if_neg (by decide), if_pos rfl]
theorem jn_8 (a b : Int) : jn (-8) a b = if 0 < a + b then 1 else 0 := by
  unfold jn
  rw [if_neg (by decide), if_neg (by decide), if_neg (by decide), if_neg (by decide), if_neg (by decide), if_neg (by decide), if_neg (by decide), if_neg (by decide)]
theorem c_joined {so s a b : Int} {x y : Int64} (hx : x.toInt = a) (hy : y.toInt = b) (ha : Bd a) (hb : Bd b) (hso : SoR so s) (h01 : s = -7 ∨ s = -8 → b01 a ∧ b01 b) {μ : Mem} {K : Int64 → Mem → Prop} (h : ∀ r : Int64, bnd r.toInt = jn s a b → K r μ) : f_Rules_joined so x y μ K := by
  have hm := mul_bd ha hb
  have ht := tdiv_bd (b := b) ha
  have ha2 := ha
  have hb2 := hb
  have b0 : Bd 0 := by unfold Bd; omega
  have b1 : Bd 1 := by unfold Bd; omega
  have e0 : (0 : Int64).toInt = 0 := by decide
  have e1 : (1 : Int64).toInt = 1 := by decide
  unfold Bd at ha2 hb2 ht
  unfold f_Rules_joined
  unfold SoR at hso
  rcases hso with ⟨rfl, rfl⟩ | ⟨rfl, rfl⟩ | ⟨rfl, rfl⟩ | ⟨rfl, rfl⟩ | ⟨rfl, rfl⟩ | ⟨rfl, rfl⟩ | ⟨rfl, rfl⟩ | ⟨rfl, rfl⟩ | ⟨rfl, rfl⟩
  · simp (disch := omega) only [w_id, reduceIte, Int.reduceEq]
    refine h _ ?_
    rw [ladd_e (by rw [hx, hy]; omega) (by rw [hx, hy]; omega), hx, hy, jn_1]
  · simp (disch := omega) only [w_id, reduceIte, Int.reduceEq]
    refine h _ ?_
    rw [lsub_e (by rw [hx, hy]; omega) (by rw [hx, hy]; omega), hx, hy, jn_2]
  · simp (disch := omega) only [w_id, reduceIte, Int.reduceEq]
    refine h _ ?_
    rw [lmul_e (by rw [hx, hy]; omega) (by rw [hx, hy]; omega), hx, hy, jn_3]
  · simp (disch := omega) only [w_id, reduceIte, Int.reduceEq]
    refine ite_i (fun e => h _ ?_) (fun e => ⟨e, h _ ?_⟩)
    · rw [e] at hy
      have hb0 : b = 0 := hy.symm.trans e0
      rw [e0, jn_10, if_pos hb0, bnd_id b0]
    · have hb0 : ¬ b = 0 := fun q => e (l0 (by rw [hy, q]))
      have e9 : (x / y).toInt = a.tdiv b := by
        rw [Int64.toInt_div, hx, hy]
        show Int.bmod (a.tdiv b) 18446744073709551616 = _
        rw [Int.bmod_def]
        omega
      rw [e9, bnd_id ht]
      rw [jn_10, if_neg hb0]
  · simp (disch := omega) only [w_id, reduceIte, Int.reduceEq]
    intro v ev
    refine h v ?_
    rw [ev]
    rw [jn_4]
    simp only [Int64.lt_iff_toInt_lt, hx, hy]
    by_cases q : a < b
    · rw [if_pos q, if_pos q, e1, bnd_id b1]
    · rw [if_neg q, if_neg q, e0, bnd_id b0]
  · simp (disch := omega) only [w_id, reduceIte, Int.reduceEq]
    intro v ev
    refine h v ?_
    rw [ev]
    rw [jn_5]
    simp only [Int64.lt_iff_toInt_lt, hx, hy]
    by_cases q : b < a
    · rw [if_pos q, if_pos q, e1, bnd_id b1]
    · rw [if_neg q, if_neg q, e0, bnd_id b0]
  · simp (disch := omega) only [w_id, reduceIte, Int.reduceEq]
    intro v ev
    refine h v ?_
    rw [ev]
    rw [jn_6]
    simp only [← Int64.toInt_inj, hx, hy]
    by_cases q : a = b
    · rw [if_pos q, if_pos q, e1, bnd_id b1]
    · rw [if_neg q, if_neg q, e0, bnd_id b0]
  · simp (disch := omega) only [w_id, reduceIte, Int.reduceEq]
    refine h _ ?_
    obtain ⟨pa, pb⟩ := h01 (Or.inl rfl)
    rw [jn_7]
    rcases pa with rfl | rfl <;> rcases pb with rfl | rfl
    · rw [l0 hx, l0 hy]; decide
    · rw [l0 hx, l1 hy]; decide
    · rw [l1 hx, l0 hy]; decide
    · rw [l1 hx, l1 hy]; decide
  · simp (disch := omega) only [w_id, reduceIte, Int.reduceEq]
    refine h _ ?_
    obtain ⟨pa, pb⟩ := h01 (Or.inr rfl)
    rw [jn_8]
    rcases pa with rfl | rfl <;> rcases pb with rfl | rfl
    · rw [l0 hx, l0 hy]; decide
    · rw [l0 hx, l1 hy]; decide
    · rw [l1 hx, l0 hy]; decide
    · rw [l1 hx, l1 hy]; decide
theorem lel1 {a q : Nat} (h : ¬ q = a) : lel [a] q = false := by
  have e : (q == a) = false := beq_eq_false_iff_ne.mpr h
  unfold lel List.elem
  rw [e]
  rfl
theorem inC_ru {q : Nat} (h : 20 ≤ q ∧ q ≤ 62 ∨ 3432 ≤ q ∧ q ≤ 8558) : inC q = true := by
  unfold inC
  simp only [Bool.or_eq_true, Bool.and_eq_true, Nat.ble_eq]
  rcases h with h | h
  · simp [h.1, h.2]
  · simp [h.1, h.2]
theorem at_ru {μ : Mem} {r n : Nat} {p : Int} (hr : 20 ≤ r ∧ r ≤ 62) (hp : 0 ≤ p ∧ p < n) (hn : n ≤ 1000000) : at' μ r n p = CS μ r p := by
  rw [at_in hp.1 hp.2 hn, cr' (inC_ru (Or.inl hr))]
theorem npa_le (p : Int) : npa p ≤ 6 ∧ 0 ≤ bpa p ∧ bpa p + npa p ≤ 13 := by
  unfold bpa npa
  by_cases h3 : p = 3
  · rw [if_pos h3, if_pos h3]; omega
  · rw [if_neg h3, if_neg h3]
    by_cases h4 : p = 4
    · rw [if_pos h4, if_pos h4]; omega
    · rw [if_neg h4, if_neg h4]; omega
theorem CR_s {p x s : Int} (h : CR p x s) : 0 ≤ x ∧ x < 200000 ∧
    ((x % 16 = 0 ∧ x / 16 = s ∧ 0 ≤ s ∧ s ≤ 9999) ∨ (x % 16 = 1 ∧ 0 ≤ x / 16 ∧ x / 16 < npa p ∧ s = 10000 + bpa p + x / 16) ∨ (x % 16 = 11 ∧ s = -9) ∨ SoR (x % 16) s) := by
  have hb := npa_le p
  unfold CR at h
  rcases h with ⟨h1, h2, h3⟩ | ⟨h1, h2, h3⟩ | ⟨rfl, rfl⟩ | ⟨rfl, rfl⟩ | ⟨rfl, rfl⟩ | ⟨rfl, rfl⟩ | ⟨rfl, rfl⟩ | ⟨rfl, rfl⟩ | ⟨rfl, rfl⟩ | ⟨rfl, rfl⟩ | ⟨rfl, rfl⟩ | ⟨rfl, rfl⟩
  · exact ⟨by omega, by omega, Or.inl ⟨by omega, by omega, h1, h2⟩⟩
  · exact ⟨by omega, by omega, Or.inr (Or.inl ⟨by omega, by omega, by omega, by omega⟩)⟩
  · exact ⟨by decide, by decide, Or.inr (Or.inr (Or.inr (Or.inl ⟨by decide, rfl⟩)))⟩
  · exact ⟨by decide, by decide, Or.inr (Or.inr (Or.inr (Or.inr (Or.inl ⟨by decide, rfl⟩))))⟩
  · exact ⟨by decide, by decide, Or.inr (Or.inr (Or.inr (Or.inr (Or.inr (Or.inl ⟨by decide, rfl⟩)))))⟩
  · exact ⟨by decide, by decide, Or.inr (Or.inr (Or.inr (Or.inr (Or.inr (Or.inr (Or.inl ⟨by decide, rfl⟩))))))⟩
  · exact ⟨by decide, by decide, Or.inr (Or.inr (Or.inr (Or.inr (Or.inr (Or.inr (Or.inr (Or.inl ⟨by decide, rfl⟩)))))))⟩
  · exact ⟨by decide, by decide, Or.inr (Or.inr (Or.inr (Or.inr (Or.inr (Or.inr (Or.inr (Or.inr (Or.inl ⟨by decide, rfl⟩))))))))⟩
  · exact ⟨by decide, by decide, Or.inr (Or.inr (Or.inr (Or.inr (Or.inr (Or.inr (Or.inr (Or.inr (Or.inr (Or.inl ⟨by decide, rfl⟩)))))))))⟩
  · exact ⟨by decide, by decide, Or.inr (Or.inr (Or.inr (Or.inr (Or.inr (Or.inr (Or.inr (Or.inr (Or.inr (Or.inr (Or.inl ⟨by decide, rfl⟩))))))))))⟩
  · exact ⟨by decide, by decide, Or.inr (Or.inr (Or.inr (Or.inr (Or.inr (Or.inr (Or.inr (Or.inr (Or.inr (Or.inr (Or.inr ⟨by decide, rfl⟩))))))))))⟩
  · exact ⟨by decide, by decide, Or.inr (Or.inr (Or.inl ⟨by decide, rfl⟩))⟩
theorem c_value {σ : Sg} {μ : Mem} {r : Nat} {p c : Int} (hr : 19 ≤ r ∧ r ≤ 59) (hp : 0 ≤ p ∧ p < 5) (hok : PartOK (CS μ) σ r p c) (hc : ¬ c = -1) {fx : Int → Int} (hfx : ∀ i : Int, Bd (fx i)) (hfa : ∀ n : Int, 0 ≤ n → n < npa p → rI μ 81 n = fx (bpa p + n)) {K : Int → Mem → Prop} (h : ∀ ν : Mem, Fr [82] μ ν → K (evl fx (mcode σ c)) ν) : f_Rules_value r p μ K := by
  rcases hok with ⟨q, -, -⟩ | ⟨hc0, hc1, f0, ft, t3, hb0, he0, hlen, hcr, hw⟩
  · exact absurd q hc
  obtain ⟨hsafe, v, hv, hvb, -⟩ := hw fx hfx
  unfold f_Rules_value
  intro v5 e5 v6 e6
  rw [at_ru (by omega) (by omega) (by decide)] at e5 e6
  generalize hF : CS μ (r + 2) p = F at *
  generalize hT : CS μ (r + 3) p = T at *
  rw [e5]
  have main := lp3 (fun n (t i : Int) (ν : Mem) => l_Rules_value_23 r T (fun (μ_7 : Mem) => K (at' μ_7 82 32 0) μ_7) n t i ν)
    (fun t i ν => ∃ (k : Nat) (st : List Int), i = F + (k : Int) ∧ t = (st.length : Int) ∧ st.length ≤ 32 ∧ (k : Int) ≤ T - F ∧ Fr [82] μ ν ∧ Stk ν 82 st ∧ (∀ x ∈ st, Bd x) ∧ Safe fx ((mcode σ c).drop k) st ∧ runc fx ((mcode σ c).drop k) st = [v])
    (fun _ i _ => (T - i).toNat) (fun n t i ν hI ih => ?_) 0 v6 μ ⟨0, [], by omega, rfl, by decide, by omega, FrP.refl _ _, fun k hk => absurd hk (by simp), fun x hx => absurd hx (by simp), by rw [List.drop_zero]; exact hsafe, by rw [List.drop_zero]; exact hv⟩
  · exact main
  · obtain ⟨k, st, rfl, rfl, hl, hk, hfr, hst, hbd, hsf, hrun⟩ := hI
    unfold l_Rules_value_23
    simp (disch := omega) only [w_id]
    refine ite_i (fun q => ?_) (fun q => ?_)
    · have hkk : k < (σ 149 c - σ 148 c).toNat := by omega
      rw [mcode_drop hkk] at hsf hrun
      have hcr1 := hcr (k : Int) (by omega) (by omega)
      have ex : at' ν (r + 1) 300 (F + (k : Int)) = CS μ (r + 1) (F + (k : Int)) := by
        rw [hfr.at (lel1 (by omega))]
        exact at_ru (by omega) (by omega) (by decide)
      rw [ex]
      generalize hs9 : σ 143 (320 * (c / 15) + σ 148 c + (k : Int)) = s at *
      generalize hx9 : CS μ (r + 1) (F + (k : Int)) = x at *
      obtain ⟨hx0, hx1, hcs⟩ := CR_s hcr1
      have hnp := npa_le p
      rw [iand15 hx0 (by omega), ishr4 hx0 (by omega)]
      intro v7 e7 v8 e8
      have ei : F + (k : Int) + 1 = F + ((k + 1 : Nat) : Int) := by omega
      rw [ei, e7, e8]
      obtain ⟨hg, hln, hsf2⟩ := hsf
      have hrun2 : runc fx ((mcode σ c).drop (k + 1)) (stp fx s st) = [v] := hrun
      unfold gd at hg
      rcases hcs with ⟨c1, c2, c3, c4⟩ | ⟨c1, c2, c3, c4⟩ | ⟨c1, c2⟩ | c1
      · rw [c1, c2]
        simp (disch := omega) only [w_id, if_true, reduceIte]
        unfold b_Rules_value_68
        intro x87 e87 μ3 e3
        rw [if_pos (by rfl)] at e87
        have es : stp fx s st = s :: st := by unfold stp; rw [if_pos (by omega), if_neg (by omega)]
        rw [es] at hsf2 hrun2 hln
        simp only [List.length_cons] at hln
        have hb1 : Bd s := by unfold Bd; omega
        rw [set_in (by omega) (by omega) (by decide), e87] at e3
        rw [ei, e3]
        refine ih _ _ _ ⟨k + 1, s :: st, rfl, by simp, by simp only [List.length_cons]; omega, by omega, hfr.wI rfl, hst.push hb1, fun x hx => ?_, hsf2, hrun2⟩ (by omega)
        rcases List.mem_cons.mp hx with rfl | hx
        · exact hb1
        · exact hbd x hx
      · rw [c1]
        simp (disch := omega) only [w_id, reduceIte, Int.reduceEq]
        unfold b_Rules_value_68
        intro x87 e87 μ3 e3
        rw [if_neg (by decide), hfr.at rfl, at_in (by omega) (by omega) (by decide), hfa (x / 16) c2 c3] at e87
        have es : stp fx s st = fx (s - 10000) :: st := by unfold stp; rw [if_pos (by omega), if_pos (by omega)]
        have ef : s - 10000 = bpa p + x / 16 := by omega
        rw [es, ef] at hsf2 hrun2 hln
        simp only [List.length_cons] at hln
        have hb1 : Bd (fx (bpa p + x / 16)) := hfx _
        rw [set_in (by omega) (by omega) (by decide), e87] at e3
        rw [ei, e3]
        refine ih _ _ _ ⟨k + 1, fx (bpa p + x / 16) :: st, rfl, by simp, by simp only [List.length_cons]; omega, by omega, hfr.wI rfl, hst.push hb1, fun x hx => ?_, hsf2, hrun2⟩ (by omega)
        rcases List.mem_cons.mp hx with rfl | hx
        · exact hb1
        · exact hbd x hx
      · rw [c1]
        simp (disch := omega) only [w_id, reduceIte, Int.reduceEq]
        rw [if_neg (by omega), if_pos c2] at hg
        obtain ⟨a, r9, rfl, ha01⟩ := hg
        have hab := hbd a List.mem_cons_self
        have et : (((a :: r9).length : Nat) : Int) - 1 = (r9.length : Int) := by simp
        simp only [List.length_cons] at hl
        have es : stp fx s (a :: r9) = (1 - a) :: r9 := by unfold stp; rw [if_neg (by omega), if_pos c2]; rfl
        rw [es] at hsf2 hrun2
        have hb1 : Bd (1 - a) := by unfold Bd; rcases ha01 with rfl | rfl <;> omega
        intro μ4 e4
        rw [et, set_in (by omega) (by omega) (by decide), at_in (by omega) (by omega) (by decide), hst.hd] at e4
        rw [e4]
        refine ih _ _ _ ⟨k + 1, (1 - a) :: r9, rfl, by simp, by simp only [List.length_cons]; omega, by omega, hfr.wI rfl, hst.tl.push hb1, fun x hx => ?_, hsf2, hrun2⟩ (by omega)
        rcases List.mem_cons.mp hx with rfl | hx
        · exact hb1
        · exact hbd x (List.mem_cons_of_mem _ hx)
      · have hso : SoR (x % 16) s := c1
        have hsl : 2 ≤ x % 16 ∧ x % 16 ≤ 10 ∧ -10 ≤ s ∧ s < 0 ∧ ¬ s = -9 := by unfold SoR at c1; omega
        simp (disch := omega) only [w_id]
        rw [if_neg (by omega), if_neg (by omega), if_neg (by omega)]
        rw [if_neg (by omega), if_neg (by omega)] at hg
        obtain ⟨hs10, b, a, r9, rfl, h01⟩ := hg
        have hbb := hbd b List.mem_cons_self
        have hab := hbd a (List.mem_cons_of_mem _ List.mem_cons_self)
        have et : (((b :: a :: r9).length : Nat) : Int) - 2 = (r9.length : Int) := by simp; omega
        have et1 : (((b :: a :: r9).length : Nat) : Int) - 1 = ((a :: r9).length : Int) := by simp
        have et2 : (((b :: a :: r9).length : Nat) : Int) + (-1) = ((jn s a b :: r9).length : Int) := by simp; omega
        simp only [List.length_cons] at hl
        have hl2 : ((a :: r9).length : Int) = (r9.length : Int) + 1 := by simp
        rw [et, et1, at_in (by omega) (by omega) (by decide), at_in (by omega) (by omega) (by decide), hst.hd, hst.sn]
        have hab2 := hab
        have hbb2 := hbb
        unfold Bd at hab2 hbb2
        refine c_joined (i2l_e (by omega) (by omega)) (i2l_e (by omega) (by omega)) hab hbb hso h01 (fun r149 er μ6 e6' => ?_)
        have es : stp fx s (b :: a :: r9) = jn s a b :: r9 := by unfold stp; rw [if_neg (by omega), if_neg (by omega)]; rfl
        rw [es] at hsf2 hrun2
        have hb1 : Bd (jn s a b) := jn_Bd hab hbb (fun e => h01 (Or.inl e))
        rw [set_in (by omega) (by omega) (by decide), rbounded_e, er] at e6'
        rw [e6', et2]
        refine ih _ _ _ ⟨k + 1, jn s a b :: r9, rfl, rfl, by simp only [List.length_cons]; omega, by omega, hfr.wI rfl, hst.tl.tl.push hb1, fun x hx => ?_, hsf2, hrun2⟩ (by omega)
        rcases List.mem_cons.mp hx with rfl | hx
        · exact hb1
        · exact hbd x (List.mem_cons_of_mem _ (List.mem_cons_of_mem _ hx))
    · have hkk : (σ 149 c - σ 148 c).toNat ≤ k := by omega
      rw [List.drop_eq_nil_of_le (by rw [mcode_len]; exact hkk)] at hrun
      have hst1 : st = [v] := hrun
      subst hst1
      have e0 : at' ν 82 32 0 = v := by
        rw [at_in (by omega) (by omega) (by decide)]
        have := hst.hd
        simpa using this
      have := h ν hfr
      unfold evl at this
      rw [hv] at this
      rw [e0]
      exact this
