/-! AGAINST, on both sides -/
def agT (st : Int → Int) (x : Ln) : Bool := decide (¬ st (x.1.natAbs : Int) = 0) && !(decide (0 < st (x.1.natAbs : Int)) == decide (0 < x.1))
def agL (st : Int → Int) (l : List Ln) : Int := if l.any (agT st) = true then 1 else 0
theorem lv_getD {fn fm fb : Int → Int} {n i : Nat} (h : i < n) : (lv fn fm fb n).getD i dL = (fn (i : Int), fm (i : Int), fb (i : Int)) := by
  unfold lv
  rw [List.getD_eq_getElem?_getD]
  simp [h]
theorem lv_len (fn fm fb : Int → Int) (n : Nat) : (lv fn fm fb n).length = n := by simp [lv]
def rowOf (σ : Sg) (m : Int) : List Ln := rw4 σ 125 126 127 128 m
theorem Ic.row {σ : Sg} {μ : Mem} (h : Ic σ μ) {m : Int} (h0 : 0 ≤ m) (h1 : m < 24) : RowC μ m (rowOf σ m) ∧ WfL (rowOf σ m) ∧ σ 125 m = ((rowOf σ m).length : Int) := by
  have h2 := h.relF
  unfold RelF FlOK at h2
  obtain ⟨-, -, -, -, -, -, -, -, k, -⟩ := h2
  obtain ⟨k1, k2, k3, k4⟩ := k m h0 h1
  have hlen : σ 125 m = ((rowOf σ m).length : Int) := by
    unfold rowOf rw4
    rw [lv_len]
    have : CS μ (68 + 1) m = σ 125 m := k2
    omega
  have h12 := k4.1
  have hl12 : (rowOf σ m).length ≤ 12 := h12
  have e69 : rI μ 69 m = CS μ (68 + 1) m := cr (by show PC 69 m = true; unfold PC inC; simp; omega)
  refine ⟨⟨by rw [e69, k2]; exact hlen, fun i hi => ?_⟩, k4, hlen⟩
  have ej : m * 12 + (i : Int) = 12 * m + (i : Int) := by omega
  have pr : ∀ q : Nat, (q = 70 ∨ q = 71 ∨ q = 72) → rI μ q (12 * m + (i : Int)) = CS μ q (12 * m + (i : Int)) := fun q hq => cr (by
    have : 12 * m + (i : Int) < 288 := by omega
    rcases hq with rfl | rfl | rfl <;> (unfold PC; simp [this]))
  have g : (rowOf σ m).getD i dL = (CS μ (68 + 2) (12 * m + (i : Int)), CS μ (68 + 3) (12 * m + (i : Int)), CS μ (68 + 4) (12 * m + (i : Int))) := by
    have : rowOf σ m = rw4 (CS μ) (68 + 1) (68 + 2) (68 + 3) (68 + 4) m := k3.symm
    rw [this]
    unfold rw4
    rw [lv_getD (by rw [this] at hi; unfold rw4 at hi; rw [lv_len] at hi; exact hi)]
  rw [ej, g, pr 70 (by omega), pr 71 (by omega), pr 72 (by omega)]
  exact ⟨rfl, rfl, rfl⟩
theorem Ic.stand {σ : Sg} {μ : Mem} (h : Ic σ μ) {n : Nat} (h1 : 1 ≤ n) (h2 : n ≤ 60) : -1 ≤ σ 129 (n : Int) ∧ σ 129 (n : Int) ≤ 1 ∧ (btl (rL μ 9582 0) n = true ↔ σ 129 (n : Int) = 1) ∧ (btl (rL μ 9583 0) n = true ↔ σ 129 (n : Int) = -1) := by
  have k := h.relF
  unfold RelF FlOK at k
  exact k.2.2.2.2.2.2.2.2.2.2.1 n h1 h2
theorem Ic.standz {σ : Sg} {μ : Mem} (h : Ic σ μ) {n : Nat} (h1 : n < 1 ∨ 60 < n) : btl (rL μ 9582 0) n = false ∧ btl (rL μ 9583 0) n = false := by
  have k := h.relF
  unfold RelF FlOK at k
  exact k.2.2.2.2.2.2.2.2.2.2.2 n h1
-- bits of longs
theorem btl_or (x y : Int64) (n : Nat) : btl (x ||| y) n = (btl x n || btl y n) := by
  unfold btl
  rw [Int64.toBitVec_or, BitVec.getLsbD_or]
theorem btl_and (x y : Int64) (n : Nat) : btl (x &&& y) n = (btl x n && btl y n) := by
  unfold btl
  rw [Int64.toBitVec_and, BitVec.getLsbD_and]
theorem btl_0 (n : Nat) : btl 0 n = false := by
  unfold btl
  show (0#64).getLsbD n = false
  exact BitVec.getLsbD_zero
theorem btl_big (x : Int64) {n : Nat} (h : 64 ≤ n) : btl x n = false := BitVec.getLsbD_of_ge _ _ h
theorem btl_ext {x y : Int64} (h : ∀ n : Nat, n < 64 → btl x n = btl y n) : x = y := by
  refine Int64.toBitVec_inj.mp (BitVec.eq_of_getLsbD_eq (fun i hi => h i hi))
theorem btl_not (x : Int64) {n : Nat} (hn : n < 64) : btl (x ^^^ (-1)) n = !btl x n := by
  unfold btl
  rw [Int64.toBitVec_xor, BitVec.getLsbD_xor]
  have : (-1 : Int64).toBitVec = BitVec.allOnes 64 := by decide
  rw [this, BitVec.getLsbD_allOnes]
  simp [hn]
theorem shl_f : ∀ k : Fin 64, (w_lshl 1 (k.1 : Int)).toBitVec = BitVec.twoPow 64 k.1 := by decide +kernel
theorem btl_shl {k n : Nat} (hk : k < 64) (hn : n < 64) : btl (w_lshl 1 (k : Int)) n = decide (k = n) := by
  unfold btl
  rw [shl_f ⟨k, hk⟩, BitVec.getLsbD_twoPow]
  simp [hk]
/-- the bits of a row: its N for the lines (sign 1), for their contraries (-1) -/
def BitsL (l : List Ln) (sg : Int) (x : Int64) : Prop := ∀ n : Nat, n < 64 → btl x n = l.any (fun y : Ln => decide (0 < y.1 * sg ∧ y.1 * sg = (n : Int)))
theorem c_bitsOf {ν : Mem} {r : Int} (hr : 0 ≤ r ∧ r < 25) {l : List Ln} (hl : RowC ν r l) (hw : WfL l) {sg : Int} (hs : sg = 1 ∨ sg = -1) {K : Int64 → Mem → Prop} (h : ∀ x : Int64, BitsL l sg x → K x ν) : f_Floor_bitsOf r sg ν K := by
  have h12 := hw.1
  unfold f_Floor_bitsOf
  intro v5 e5 v6 e6
  rw [at_in (by omega) (by omega) (by decide), hl.1] at e5
  subst e5
  refine lp2 (fun m (x : Int64) (q : Int) => l_Floor_bitsOf_23 sg ν (r * 12 + (l.length : Int)) _ m x q) (fun x q => ∃ j : Nat, q = r * 12 + (j : Int) ∧ j ≤ l.length ∧ ∀ n : Nat, n < 64 → btl x n = (l.take j).any (fun y : Ln => decide (0 < y.1 * sg ∧ y.1 * sg = (n : Int)))) (fun _ q => (r * 12 + (l.length : Int) - q).toNat) (fun m x q hJ ih => ?_) 0 v6 ⟨0, by omega, by omega, fun n _ => by rw [btl_0]; simp⟩
  obtain ⟨j, rfl, hj, hx⟩ := hJ
  unfold l_Floor_bitsOf_23
  (try simp (disch := omega) only [w_id])
  refine ite_i (fun q v7 e7 x57 e57 v3 e3 => ?_) (fun q => ?_)
  · have hjl : j < l.length := by omega
    have hwj := hw.at hjl
    rw [at_in (by omega) (by omega) (by decide), (hl.2 j hjl).1] at e7
    refine ih _ _ ⟨j + 1, by omega, by omega, fun n hn => ?_⟩ (by omega)
    have et : l.take (j + 1) = l.take j ++ [l.getD j dL] := by
      rw [List.take_succ_eq_append_getElem hjl, List.getD_eq_getElem?_getD, List.getElem?_eq_getElem hjl]
      rfl
    have hv : -60 ≤ v7 ∧ v7 ≤ 60 := by rw [e7]; rcases hs with rfl | rfl <;> omega
    rw [e3, btl_or, hx n hn, et, List.any_append, e57]
    congr 1
    (try simp (disch := omega) only [w_id])
    simp only [List.any_cons, List.any_nil, Bool.or_false]
    rw [← e7]
    by_cases c : 0 < v7
    · rw [if_pos c]
      have ev : v7 = ((v7.toNat : Nat) : Int) := by omega
      rw [ev, btl_shl (by omega) hn]
      congr 1
      refine propext ⟨fun z => by omega, fun z => by omega⟩
    · rw [if_neg c, btl_0]
      simp [c]
  · have ej : l.length = j := by omega
    refine h x (fun n hn => ?_)
    rw [hx n hn, ← ej, List.take_length]
theorem ag_bits {l : List Ln} (hw : WfL l) {st : Int → Int} {sd dn x y : Int64} (hst : ∀ n : Nat, 1 ≤ n → n ≤ 60 → -1 ≤ st (n : Int) ∧ st (n : Int) ≤ 1 ∧ (btl sd n = true ↔ st (n : Int) = 1) ∧ (btl dn n = true ↔ st (n : Int) = -1)) (hx : BitsL l 1 x) (hy : BitsL l (-1) y) : (if ((x &&& dn) ||| (y &&& sd)) = 0 then (0 : Int) else 1) = agL st l := by
  unfold agL
  have key : ((x &&& dn) ||| (y &&& sd)) = 0 ↔ ¬ l.any (agT st) = true := by
    constructor
    · intro h0 ha
      obtain ⟨z, hz, ht⟩ := List.any_eq_true.mp ha
      have hwz := hw.2.1 z hz
      unfold agT at ht
      simp only [Bool.and_eq_true, decide_eq_true_eq, Bool.not_eq_true', beq_eq_false_iff_ne, ne_eq, decide_eq_decide] at ht
      obtain ⟨s1, s2, s3, s4⟩ := hst z.1.natAbs hwz.1 hwz.2.1
      have hb : btl ((x &&& dn) ||| (y &&& sd)) z.1.natAbs = false := by rw [h0, btl_0]
      rw [btl_or, btl_and, btl_and, hx _ (by omega), hy _ (by omega)] at hb
      simp only [Bool.or_eq_false_iff, Bool.and_eq_false_iff] at hb
      by_cases c : 0 < z.1
      · have hd : btl dn z.1.natAbs = true := s4.mpr (by omega)
        have ha2 : l.any (fun q : Ln => decide (0 < q.1 * 1 ∧ q.1 * 1 = ((z.1.natAbs : Nat) : Int))) = true := List.any_eq_true.mpr ⟨z, hz, decide_eq_true (by omega)⟩
        rcases hb.1 with q | q
        · rw [ha2] at q; cases q
        · rw [hd] at q; cases q
      · have hd : btl sd z.1.natAbs = true := s3.mpr (by omega)
        have ha2 : l.any (fun q : Ln => decide (0 < q.1 * (-1) ∧ q.1 * (-1) = ((z.1.natAbs : Nat) : Int))) = true := List.any_eq_true.mpr ⟨z, hz, decide_eq_true (by omega)⟩
        rcases hb.2 with q | q
        · rw [ha2] at q; cases q
        · rw [hd] at q; cases q
    · intro hn
      refine btl_ext (fun n hn64 => ?_)
      rw [btl_0, btl_or, btl_and, btl_and, hx n hn64, hy n hn64]
      rw [Bool.or_eq_false_iff]
      constructor
      · cases hd : btl dn n with
        | false => simp
        | true =>
          rw [Bool.and_true]
          cases ha : l.any (fun q : Ln => decide (0 < q.1 * 1 ∧ q.1 * 1 = (n : Int))) with
          | false => rfl
          | true =>
            obtain ⟨z, hz, ht⟩ := List.any_eq_true.mp ha
            have ht := of_decide_eq_true ht
            have hwz := hw.2.1 z hz
            have en : z.1.natAbs = n := by omega
            obtain ⟨s1, s2, s3, s4⟩ := hst n (by omega) (by omega)
            refine absurd (List.any_eq_true.mpr ⟨z, hz, ?_⟩) hn
            unfold agT
            rw [en, s4.mp hd]
            have : decide (0 < z.1) = true := decide_eq_true (by omega)
            rw [this]
            rfl
      · cases hd : btl sd n with
        | false => simp
        | true =>
          rw [Bool.and_true]
          cases ha : l.any (fun q : Ln => decide (0 < q.1 * (-1) ∧ q.1 * (-1) = (n : Int))) with
          | false => rfl
          | true =>
            obtain ⟨z, hz, ht⟩ := List.any_eq_true.mp ha
            have ht := of_decide_eq_true ht
            have hwz := hw.2.1 z hz
            have en : z.1.natAbs = n := by omega
            obtain ⟨s1, s2, s3, s4⟩ := hst n (by omega) (by omega)
            refine absurd (List.any_eq_true.mpr ⟨z, hz, ?_⟩) hn
            unfold agT
            rw [en, s3.mp hd]
            have : decide (0 < z.1) = false := decide_eq_false (by omega)
            rw [this]
            rfl
  by_cases c : ((x &&& dn) ||| (y &&& sd)) = 0
  · rw [if_pos c, if_neg (key.mp c)]
  · rw [if_neg c, if_pos (Classical.byContradiction fun z => c (key.mpr z))]
/-- AGAINST of a MATTER, by what stands -/
def agO (σ : Sg) (st : Int → Int) (mt : Int) : Int := if 200 ≤ mt then 0 else if mt < 100 then agL st (rowOf σ mt) else agL st (doA σ (mt - 100) (rowOf σ (σ 118 (mt - 100))))
def stO (σ : Sg) (n : Int) : Int := σ 129 n
theorem agL_01 (st : Int → Int) (l : List Ln) : 0 ≤ agL st l ∧ agL st l ≤ 1 := by unfold agL; split <;> omega
theorem agO_01 (σ : Sg) (st : Int → Int) (mt : Int) : 0 ≤ agO σ st mt ∧ agO σ st mt ≤ 1 := by
  unfold agO
  refine ite_p (P := fun z : Int => 0 ≤ z ∧ z ≤ 1) (fun _ => by omega) (fun _ => ite_p (P := fun z : Int => 0 ≤ z ∧ z ≤ 1) (fun _ => agL_01 _ _) (fun _ => agL_01 _ _))
-- the class
theorem kindOf_e {mt : Int} (h : Rg mt) : v_H_kindOf mt = if mt < 200 then (if mt < 100 then 0 else 1) else 2 := by
  unfold v_H_kindOf
  rw [w_id h.1 h.2, w_id (by decide) (by decide), w_id (by decide) (by decide)]
theorem RowFr.qt24 {ν ξ : Mem} (h : RowFr ν ξ 24) : Qt ν ξ := by
  obtain ⟨hf, hs, hr⟩ := h
  have nf : ∀ q : Nat, ¬ (q = 69 ∨ q = 70 ∨ q = 71 ∨ q = 72) → lel flL q = false := fun q hq => by
    unfold lel flL
    simp [List.elem_eq_mem]
    omega
  refine ⟨?_, ?_, ?_, hf.1⟩
  · funext q j
    unfold CS
    by_cases hp : PC q j = true
    · rw [if_pos hp, if_pos hp]
      by_cases c : q = 69 ∨ q = 70 ∨ q = 71 ∨ q = 72
      · have hp2 := hp
        unfold PC at hp2
        rcases c with rfl | rfl | rfl | rfl
        · have : j < 24 := by simpa [inC] using hp2
          exact hs j (by omega)
        · have : j < 288 := by simpa [inC] using hp2
          exact (hr j (by omega)).1
        · have : j < 288 := by simpa [inC] using hp2
          exact (hr j (by omega)).2.1
        · have : j < 288 := by simpa [inC] using hp2
          exact (hr j (by omega)).2.2
      · exact hf.rdI (nf q c)
    · rw [if_neg hp, if_neg hp]
  · unfold CL
    rw [hf.rdL (nf 9582 (by decide)), hf.rdL (nf 9583 (by decide)), hf.rdL (nf 11886 (by decide)), hf.rdL (nf 11887 (by decide))]
  · funext q j
    unfold MS
    by_cases hp : inM q = true
    · rw [if_pos hp, if_pos hp]
      refine hf.rdI (nf q (fun c => ?_))
      rcases c with rfl | rfl | rfl | rfl <;> cases hp
    · rw [if_neg hp, if_neg hp]
theorem c_against49 {σ : Sg} {μ ν : Mem} (hI : Ic σ μ) (hq : Qt μ ν) {r : Int} (hr : 0 ≤ r ∧ r < 25) {l : List Ln} (hl : RowC ν r l) (hw : WfL l) {K : Int → Mem → Prop} (h : K (agL (stO σ) l) ν) : b_Floor_against_49 K r ν := by
  have hIν := hq.ic hI
  have eM : σ = σ := rfl
  unfold b_Floor_against_49
  refine c_bitsOf hr hl hw (Or.inl rfl) (fun x hx => c_bitsOf hr hl hw (Or.inr rfl) (fun y hy v ev => ?_))
  rw [ev, ag_bits hw (st := stO σ) (fun n n1 n2 => by have := hIν.stand n1 n2; rw [eM] at this; exact this) hx hy]
  exact h
theorem c_copyToTrial {ν : Mem} {r : Int} (hr : 0 ≤ r ∧ r < 24) {l : List Ln} (hl : RowC ν r l) (hw : WfL l) {K : Mem → Prop} (h : ∀ ξ : Mem, RowFr ν ξ 24 → RowC ξ 24 l → K ξ) : f_Floor_copyToTrial r ν K := by
  have h12 := hw.1
  unfold f_Floor_copyToTrial
  intro μ1 e1
  rw [set_in (by omega) (by omega) (by decide)] at e1
  have f1 : RowFr ν μ1 24 := by rw [e1]; exact (RowFr.refl ν 24).sS
  refine lp2 (fun m (q : Int) (ξ : Mem) => l_Floor_copyToTrial_12 r _ m q ξ) (fun q ξ => ∃ j : Nat, q = (j : Int) ∧ j ≤ l.length ∧ RowFr ν ξ 24 ∧ RowC ξ 24 (l.take j)) (fun q _ => ((l.length : Int) - q).toNat) (fun m q ξ hJ ih => ?_) 0 μ1 ⟨0, rfl, by omega, f1, ⟨by rw [e1, rI_sI, if_pos ⟨rfl, rfl⟩]; rfl, fun i hi => absurd hi (by simp)⟩⟩
  obtain ⟨j, rfl, hj, hf, ht⟩ := hJ
  have es : rI ξ 69 r = (l.length : Int) := (hf.2.1 r (by omega)).trans hl.1
  unfold l_Floor_copyToTrial_12 v_Floor_sizeOf v_Floor_lineOf v_Floor_mustOf v_Floor_byOf
  rw [at_in (by omega) (by omega) (by decide), es]
  (try simp (disch := omega) only [w_id])
  refine ite_i (fun q => ?_) (fun q => ?_)
  · have hjl : j < l.length := by omega
    have hwj := hw.at hjl
    have h01 : 0 ≤ (l.getD j dL).2.1 ∧ (l.getD j dL).2.1 ≤ 1 := by have := hwj.2.2.1; unfold b01 at this; omega
    have g := hf.2.2 (r * 12 + (j : Int)) (by omega)
    have g2 := hl.2 j hjl
    rw [at_in (by omega) (by omega) (by decide), at_in (by omega) (by omega) (by decide), at_in (by omega) (by omega) (by decide), g.1, g.2.1, g.2.2, g2.1, g2.2.1, g2.2.2]
    have et : l.take (j + 1) = l.take j ++ [((l.getD j dL).1, (l.getD j dL).2.1, (l.getD j dL).2.2)] := by
      rw [List.take_succ_eq_append_getElem hjl, List.getD_eq_getElem?_getD, List.getElem?_eq_getElem hjl]
      rfl
    have hlt : (l.take j).length = j := by rw [List.length_take]; omega
    refine c_addLine (by omega) ht (by omega) ⟨by omega, by omega⟩ ⟨by omega, by omega⟩ ⟨by omega, by omega⟩ (fun _ ο fo ro => ?_) (fun z => absurd (by omega) z)
    refine ih _ _ ⟨j + 1, by omega, by omega, hf.trans fo, ?_⟩ (by omega)
    rw [et]
    exact ro
  · have ej : l.length = j := by omega
    refine h ξ hf ?_
    rw [← ej, List.take_length] at ht
    exact ht
theorem Ic.hang {σ : Sg} {μ : Mem} (h : Ic σ μ) {a : Int} (h0 : 0 ≤ a) (h1 : a < σ 15474 0) : rI μ 14 a = σ 118 a ∧ 0 ≤ σ 118 a ∧ σ 118 a < σ 15472 0 := by
  have h2 := h.relP
  unfold RelP at h2
  obtain ⟨-, -, -, -, -, -, -, -, -, -, k, -⟩ := h2
  obtain ⟨k1, k2, k3, -⟩ := k a h0 h1
  exact ⟨k1, k2, k3⟩
theorem c_against {σ : Sg} {μ : Mem} (hI : Ic σ μ) {mt : Int} (hm : isMt σ mt) {K : Int → Mem → Prop} (h : ∀ ν : Mem, RowFr μ ν 24 → K (agO σ (stO σ) mt) ν) : f_Floor_against mt μ K := by
  have hc := hI.cnt
  have hlt := isMt_lt hI hm
  have hm2 := hm
  unfold isMt at hm2
  unfold f_Floor_against
  rw [kindOf_e ⟨by omega, by omega⟩]
  unfold agO at h
  by_cases c1 : mt < 200
  · rw [if_pos c1]
    rw [if_neg (by omega)] at h
    by_cases c2 : mt < 100
    · rw [if_pos c2]
      rw [if_pos c2] at h
      rw [if_neg (by decide), if_neg (by decide)]
      obtain ⟨r1, r2, -⟩ := hI.row (m := mt) (by omega) (by omega)
      exact c_against49 hI (Qt.refl μ) (by omega) r1 r2 (h μ (RowFr.refl μ 24))
    · rw [if_neg c2]
      rw [if_neg c2] at h
      rw [if_neg (by decide), if_pos (by decide)]
      obtain ⟨g1, g2, g3⟩ := hI.hang (a := mt - 100) (by omega) (by omega)
      obtain ⟨r1, r2, -⟩ := hI.row (m := σ 118 (mt - 100)) g2 (by omega)
      obtain ⟨w1, w2⟩ := hI.chW (a := mt - 100) (by omega) (by omega)
      rw [at_in (by omega) (by omega) (by decide), g1]
      refine c_copyToTrial (by omega) r1 r2 (fun ν f1 t1 => ?_)
      refine c_amendRow (σ := σ) (by omega) (by omega) t1 r2 w1 (w2.fr f1.1 rfl) (fun ξ f2 t2 => ?_)
      have f3 := f1.trans f2
      exact c_against49 hI f3.qt24 (by omega) t2 (WfL_doA w1 (by omega) r2) (h ξ f3)
  · rw [if_neg c1]
    rw [if_pos (by omega)] at h
    rw [if_pos (by decide)]
    exact h μ (RowFr.refl μ 24)
