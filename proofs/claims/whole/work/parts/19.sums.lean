/-! SUMS OF WEIGHTS, on both sides -/
def sA (wg : Nat → Int) : Nat → Int
  | 0 => 0
  | n + 1 => sA wg n + wg n
def sY (vc wg : Nat → Int) (x : Int) : Nat → Int
  | 0 => 0
  | n + 1 => sY vc wg x n + (if vc n = x then wg n else 0)
def sM (sc vc wg : Nat → Int) (s : Int) : Nat → Int
  | 0 => 0
  | n + 1 => sM sc vc wg s n + (if sc n = s then (if vc n = 1 then wg n else if vc n = 0 then -wg n else 0) else 0)
def scN (M : Int → Int) : Nat → Int
  | 0 => 0
  | n + 1 => scN M n + (if 0 < M (n : Int) then 1 else 0)
def Wg (wg : Nat → Int) (n : Nat) : Prop := ∀ i : Nat, i < n → 0 ≤ wg i ∧ wg i ≤ 1000000000
theorem sA_rng {wg : Nat → Int} {m : Nat} (h : Wg wg m) : ∀ n : Nat, n ≤ m → 0 ≤ sA wg n ∧ sA wg n ≤ 1000000000 * (n : Int)
  | 0, _ => by unfold sA; omega
  | n + 1, q => by
    have := sA_rng h n (by omega)
    have := h n (by omega)
    unfold sA
    omega
theorem sY_rng {vc wg : Nat → Int} {x : Int} {m : Nat} (h : Wg wg m) : ∀ n : Nat, n ≤ m → 0 ≤ sY vc wg x n ∧ sY vc wg x n ≤ 1000000000 * (n : Int)
  | 0, _ => by unfold sY; omega
  | n + 1, q => by
    have := sY_rng (vc := vc) (x := x) h n (by omega)
    have := h n (by omega)
    unfold sY
    split <;> omega
theorem sM_rng {sc vc wg : Nat → Int} {s : Int} {m : Nat} (h : Wg wg m) : ∀ n : Nat, n ≤ m → -(1000000000 * (n : Int)) ≤ sM sc vc wg s n ∧ sM sc vc wg s n ≤ 1000000000 * (n : Int)
  | 0, _ => by unfold sM; omega
  | n + 1, q => by
    have := sM_rng (sc := sc) (vc := vc) (s := s) h n (by omega)
    have := h n (by omega)
    unfold sM
    split
    · split
      · omega
      · split <;> omega
    · omega
theorem scN_rng (M : Int → Int) : ∀ n : Nat, 0 ≤ scN M n ∧ scN M n ≤ (n : Int)
  | 0 => by unfold scN; omega
  | n + 1 => by
    have := scN_rng M n
    unfold scN
    split <;> omega
def Lim (v : Int) : Prop := -1000000000000 ≤ v ∧ v ≤ 1000000000000
/-- the sums in four places -/
def Sums (ν : Mem) (ca cy cn cm : Nat) (A Y N : Int) (M : Int → Int) : Prop := (rL ν ca 0).toInt = A ∧ (rL ν cy 0).toInt = Y ∧ (rL ν cn 0).toInt = N ∧ ∀ s : Int, 0 ≤ s → s < 6 → (rL ν cm s).toInt = M s
def SumC (ν : Mem) := Sums ν 10356 10354 10355 80
def SumM (ν : Mem) := Sums ν 15527 15525 15526 154
def smL : List Nat := [10356, 10354, 10355, 80]
def mmL : List Nat := [15527, 15525, 15526, 154]
def adM (M : Int → Int) (sec v wg : Int) (s : Int) : Int := M s + (if sec = s then (if v = 1 then wg else if v = 0 then -wg else 0) else 0)
theorem z64 : (0 : Int64).toInt = 0 := by decide
theorem c_add {sec v wg A Y N : Int} {M : Int → Int} (hs : 0 ≤ sec ∧ sec < 6) (hv : Rg v) (hw : 0 ≤ wg ∧ wg ≤ 1000000000) (lA : Lim A) (lY : Lim Y) (lN : Lim N) (lM : ∀ s : Int, Lim (M s)) {ν : Mem} (h : SumC ν A Y N M) {K : Mem → Prop}
    (k : ∀ ξ : Mem, Fr smL ν ξ → SumC ξ (A + wg) (Y + if v = 1 then wg else 0) (N + if v = 0 then wg else 0) (adM M sec v wg) → K ξ) : f_Count_add sec v wg ν K := by
  obtain ⟨hv0, hv1⟩ := hv
  obtain ⟨hA, hY, hN, hM⟩ := h
  unfold Lim at lA lY lN lM
  have iw : (w_i2l wg).toInt = wg := i2l_e (by omega) (by omega)
  have iw2 : (w_i2l (-wg)).toInt = -wg := i2l_e (by omega) (by omega)
  have lMs := lM sec
  unfold f_Count_add
  try simp (disch := omega) only [w_id]
  intro μ1 e1 x27 e27 μ2 e2 x46 e46 μ3 e3
  rw [if_neg (by omega), if_pos (by omega)]
  refine ⟨by omega, by omega, fun x91 e91 => ⟨by omega, by omega, fun μ4 e4 => ?_⟩⟩
  have i27 : x27.toInt = if v = 1 then wg else 0 := by rw [e27]; by_cases q : v = 1 <;> simp only [q, if_true, if_false, reduceIte, iw, z64]
  have i46 : x46.toInt = if v = 0 then wg else 0 := by rw [e46]; by_cases q : v = 0 <;> simp only [q, if_true, if_false, reduceIte, iw, z64]
  have i91 : x91.toInt = if v = 1 then wg else if v = 0 then -wg else 0 := by
    rw [e91]
    by_cases q : v = 1
    · rw [if_pos q, if_pos q, iw]
    · rw [if_neg q, if_neg q]
      by_cases q0 : v = 0
      · rw [if_pos q0, if_pos q0, iw2]
      · rw [if_neg q0, if_neg q0, z64]
  have b27 : 0 ≤ x27.toInt ∧ x27.toInt ≤ 1000000000 := by rw [i27]; split <;> omega
  have b46 : 0 ≤ x46.toInt ∧ x46.toInt ≤ 1000000000 := by rw [i46]; split <;> omega
  have b91 : -1000000000 ≤ x91.toInt ∧ x91.toInt ≤ 1000000000 := by rw [i91]; split; omega; split <;> omega
  have f3 : Fr smL ν μ3 := by rw [e3, e2, e1]; exact (((FrP.refl _ _).wL rfl).wL rfl).wL rfl
  have r3 : ∀ s : Int, rL μ3 80 s = rL ν 80 s := fun s => by
    rw [e3, e2, e1]
    simp only [rL_sL, Nat.reduceEqDiff, false_and, if_false]
  refine k μ4 (by rw [e4]; exact f3.wL rfl) ⟨?_, ?_, ?_, fun s s0 s1 => ?_⟩
  · rw [e4, e3, e2, e1]
    simp only [rL_sL, Nat.reduceEqDiff, false_and, if_false, true_and, if_true]
    rw [ladd_e (by omega) (by omega), hA, iw]
  · rw [e4, e3, e2, e1]
    simp only [rL_sL, Nat.reduceEqDiff, false_and, if_false, true_and, if_true]
    rw [ladd_e (by omega) (by omega), hY, i27]
  · rw [e4, e3, e2, e1]
    simp only [rL_sL, Nat.reduceEqDiff, false_and, if_false, true_and, if_true]
    rw [ladd_e (by omega) (by omega), hN, i46]
  · rw [e4, rL_sL]
    unfold adM
    by_cases q : s = sec
    · rw [if_pos ⟨rfl, q⟩, r3, if_pos q.symm, q]
      have := hM sec hs.1 hs.2
      rw [ladd_e (by omega) (by omega), this, i91]
    · rw [if_neg (fun z => q z.2), r3, if_neg (fun z => q z.symm), hM s s0 s1]
      omega
theorem m_counts {sec v wg A Y N : Int} {M : Int → Int} (hs : 0 ≤ sec ∧ sec < 6) (hv : Rg v) (hw : 0 ≤ wg ∧ wg ≤ 1000000000) (lA : Lim A) (lY : Lim Y) (lN : Lim N) (lM : ∀ s : Int, Lim (M s)) {ν : Mem} (h : SumM ν A Y N M) {K : Mem → Prop}
    (k : ∀ ξ : Mem, Fr mmL ν ξ → SumM ξ (A + wg) (Y + if v = 1 then wg else 0) (N + if v = 0 then wg else 0) (adM M sec v wg) → K ξ) : f_M_counts v sec wg ν K := by
  obtain ⟨hv0, hv1⟩ := hv
  obtain ⟨hA, hY, hN, hM⟩ := h
  unfold Lim at lA lY lN lM
  have iw : (w_i2l wg).toInt = wg := i2l_e (by omega) (by omega)
  have lMs := lM sec
  have hMs := hM sec hs.1 hs.2
  unfold f_M_counts
  try simp (disch := omega) only [w_id]
  intro μ1 e1
  have f1 : Fr mmL ν μ1 := by rw [e1]; exact (FrP.refl _ _).wL rfl
  refine ite_i (fun q μ2 e2 => ⟨by omega, by omega, by omega, by omega, fun μ3 e3 => ?_⟩) (fun q => ite_i (fun q0 μ2 e2 => ⟨by omega, by omega, by omega, by omega, fun μ3 e3 => ?_⟩) (fun q0 => ?_))
  · refine k μ3 (by rw [e3, e2]; exact (f1.wL rfl).wL rfl) ⟨?_, ?_, ?_, fun s s0 s1 => ?_⟩
    · rw [e3, e2, e1]
      simp only [rL_sL, Nat.reduceEqDiff, false_and, if_false, true_and, if_true]
      rw [ladd_e (by omega) (by omega), hA, iw]
    · rw [e3, e2, e1]
      simp only [rL_sL, Nat.reduceEqDiff, false_and, if_false, true_and, if_true]
      rw [ladd_e (by omega) (by omega), hY, iw, if_pos q]
    · rw [e3, e2, e1]
      simp only [rL_sL, Nat.reduceEqDiff, false_and, if_false, true_and, if_true]
      rw [hN, if_neg (by omega)]
      omega
    · rw [e3, e2, e1]
      simp only [rL_sL, Nat.reduceEqDiff, false_and, if_false, true_and, if_true]
      unfold adM
      by_cases qs : s = sec
      · rw [if_pos qs, if_pos qs.symm, if_pos q, qs, ladd_e (by omega) (by omega), hMs, iw]
      · rw [if_neg qs, if_neg (fun z => qs z.symm), hM s s0 s1]
        omega
  · refine k μ3 (by rw [e3, e2]; exact (f1.wL rfl).wL rfl) ⟨?_, ?_, ?_, fun s s0 s1 => ?_⟩
    · rw [e3, e2, e1]
      simp only [rL_sL, Nat.reduceEqDiff, false_and, if_false, true_and, if_true]
      rw [ladd_e (by omega) (by omega), hA, iw]
    · rw [e3, e2, e1]
      simp only [rL_sL, Nat.reduceEqDiff, false_and, if_false, true_and, if_true]
      rw [hY, if_neg q]
      omega
    · rw [e3, e2, e1]
      simp only [rL_sL, Nat.reduceEqDiff, false_and, if_false, true_and, if_true]
      rw [ladd_e (by omega) (by omega), hN, iw, if_pos q0]
    · rw [e3, e2, e1]
      simp only [rL_sL, Nat.reduceEqDiff, false_and, if_false, true_and, if_true]
      unfold adM
      by_cases qs : s = sec
      · rw [if_pos qs, if_pos qs.symm, if_neg q, if_pos q0, qs, lsub_e (by omega) (by omega), hMs, iw]
        omega
      · rw [if_neg qs, if_neg (fun z => qs z.symm), hM s s0 s1]
        omega
  · refine k μ1 f1 ⟨?_, ?_, ?_, fun s s0 s1 => ?_⟩
    · rw [e1]
      simp only [rL_sL, Nat.reduceEqDiff, false_and, if_false, true_and, if_true]
      rw [ladd_e (by omega) (by omega), hA, iw]
    · rw [e1]
      simp only [rL_sL, Nat.reduceEqDiff, false_and, if_false, true_and, if_true]
      rw [hY, if_neg q]
      omega
    · rw [e1]
      simp only [rL_sL, Nat.reduceEqDiff, false_and, if_false, true_and, if_true]
      rw [hN, if_neg q0]
      omega
    · rw [e1]
      simp only [rL_sL, Nat.reduceEqDiff, false_and, if_false, true_and, if_true]
      unfold adM
      rw [if_neg q, if_neg q0, hM s s0 s1]
      split <;> omega
-- what is counted: voices, weights, sections by number
def vcT (σ : Sg) (mt kn tn : Int) (a : Nat) : Int := if (a : Int) = tn then (if vo σ a mt kn = 2 then 2 else 1 - vo σ a mt kn) else vo σ a mt kn
def wtT (σ : Sg) (how kn : Int) (an : Bool) (a : Nat) : Int := if an = true ∧ ¬ σ 153 (a : Int) = 0 then 0 else if how = 0 then cd σ a kn else if how = 1 then pd σ a kn else 1
def cvc (σ : Sg) (mt kn how tn : Int) : Nat → Int := if how = 3 then fun b : Nat => tl σ 2 (b : Int) mt kn 2 else vcT σ mt kn tn
def cwg (σ : Sg) (how kn : Int) (an : Bool) : Nat → Int := if how = 3 then fun _ : Nat => 1 else wtT σ how kn an
def csc (σ : Sg) (how : Int) : Nat → Int := if how = 3 then fun b : Nat => σ 114 (σ 115 (b : Int)) else fun a : Nat => σ 114 (a : Int)
def cn (σ : Sg) (how : Int) : Nat := if how = 3 then (σ 15468 0).toNat else (σ 15466 0).toNat
def cYes (σ : Sg) (mt kn how tn : Int) (an : Bool) : Int := bnd (sY (cvc σ mt kn how tn) (cwg σ how kn an) 1 (cn σ how))
def cNo (σ : Sg) (mt kn how tn : Int) (an : Bool) : Int := bnd (sY (cvc σ mt kn how tn) (cwg σ how kn an) 0 (cn σ how))
def cAll (σ : Sg) (kn how : Int) (an : Bool) : Int := bnd (sA (cwg σ how kn an) (cn σ how))
def cSec (σ : Sg) (mt kn how tn : Int) (an : Bool) : Int := scN (fun s => sM (csc σ how) (cvc σ mt kn how tn) (cwg σ how kn an) s (cn σ how)) 6
theorem lim_A {wg : Nat → Int} {m n : Nat} (h : Wg wg m) (hn : n ≤ m) (hm : m ≤ 100) : Lim (sA wg n) := by
  have := sA_rng h n hn
  unfold Lim
  omega
theorem lim_Y {vc wg : Nat → Int} {x : Int} {m n : Nat} (h : Wg wg m) (hn : n ≤ m) (hm : m ≤ 100) : Lim (sY vc wg x n) := by
  have := sY_rng (vc := vc) (x := x) h n hn
  unfold Lim
  omega
theorem lim_M {sc vc wg : Nat → Int} {s : Int} {m n : Nat} (h : Wg wg m) (hn : n ≤ m) (hm : m ≤ 100) : Lim (sM sc vc wg s n) := by
  have := sM_rng (sc := sc) (vc := vc) (s := s) h n hn
  unfold Lim
  omega
/-- the class's sums so far, over n of them -/
def SC (ν : Mem) (sc vc wg : Nat → Int) (n : Nat) : Prop := SumC ν (sA wg n) (sY vc wg 1 n) (sY vc wg 0 n) (fun s => sM sc vc wg s n)
def SM (ν : Mem) (sc vc wg : Nat → Int) (n : Nat) : Prop := SumM ν (sA wg n) (sY vc wg 1 n) (sY vc wg 0 n) (fun s => sM sc vc wg s n)
theorem c_beginSum {ν : Mem} {sc vc wg : Nat → Int} {K : Mem → Prop} (k : ∀ ξ : Mem, Fr smL ν ξ → SC ξ sc vc wg 0 → K ξ) : f_Count_beginSum ν K := by
  unfold f_Count_beginSum
  intro μ1 e1 μ2 e2 μ3 e3
  have f3 : Fr smL ν μ3 := by rw [e3, e2, e1]; exact (((FrP.refl _ _).wL rfl).wL rfl).wL rfl
  refine lp2 (fun n (i : Int) (ξ : Mem) => l_Count_beginSum_17 (fun (μ_6 : Mem) => K μ_6) n i ξ) (fun i ξ => ∃ j : Nat, i = (j : Int) ∧ j ≤ 6 ∧ Fr [80] μ3 ξ ∧ ∀ s : Int, 0 ≤ s → s < (j : Int) → rL ξ 80 s = 0) (fun i _ => (6 - i).toNat) (fun n i ξ hI ih => ?_) 0 μ3 ⟨0, rfl, by omega, FrP.refl _ _, fun s s0 s1 => by omega⟩
  obtain ⟨j, rfl, hj, hf, hz⟩ := hI
  unfold l_Count_beginSum_17
  try simp (disch := omega) only [w_id]
  refine ite_i (fun q => ⟨by omega, by omega, fun μ5 e5 => ?_⟩) (fun q => ?_)
  · refine ih _ _ ⟨j + 1, by omega, by omega, by rw [e5]; exact hf.wL rfl, fun s s0 s1 => ?_⟩ (by omega)
    rw [e5, rL_sL]
    by_cases e : s = (j : Int)
    · rw [if_pos ⟨rfl, e⟩]
    · rw [if_neg (fun z => e z.2)]
      exact hz s s0 (by omega)
  · refine k ξ (f3.trans (Fr.mono hf rfl)) ⟨?_, ?_, ?_, fun s s0 s1 => ?_⟩
    · rw [hf.rdL rfl, e3]; simp only [rL_sL, Nat.reduceEqDiff, true_and, if_true]; exact z64
    · rw [hf.rdL rfl, e3, e2, e1]; simp only [rL_sL, Nat.reduceEqDiff, false_and, if_false, true_and, if_true]; exact z64
    · rw [hf.rdL rfl, e3, e2, e1]; simp only [rL_sL, Nat.reduceEqDiff, false_and, if_false, true_and, if_true]; exact z64
    · rw [hz s s0 (by omega)]; exact z64
def enL : List Nat := [10357, 10358, 10359, 10360]
/-- what the class has counted -/
def CN (ν : Mem) (Y N A S : Int) : Prop := rI ν 10357 0 = Y ∧ rI ν 10358 0 = N ∧ rI ν 10359 0 = A ∧ rI ν 10360 0 = S
theorem c_endSum {ν : Mem} {sc vc wg : Nat → Int} {n : Nat} (h : SC ν sc vc wg n) {K : Mem → Prop} (k : ∀ ξ : Mem, Fr enL ν ξ → CN ξ (bnd (sY vc wg 1 n)) (bnd (sY vc wg 0 n)) (bnd (sA wg n)) (scN (fun s => sM sc vc wg s n) 6) → K ξ) : f_Count_endSum ν K := by
  obtain ⟨hA, hY, hN, hM⟩ := h
  have bA := bnd_Bd (sA wg n)
  have bY := bnd_Bd (sY vc wg 1 n)
  have bN := bnd_Bd (sY vc wg 0 n)
  unfold Bd at bA bY bN
  unfold f_Count_endSum
  intro μ1 e1 μ2 e2 μ3 e3 μ4 e4
  rw [rbounded_e, hY] at e1
  have l1 : rL μ1 10355 0 = rL ν 10355 0 := by rw [e1]; rfl
  rw [rbounded_e, l1, hN] at e2
  have l2 : rL μ2 10356 0 = rL ν 10356 0 := by rw [e2, e1]; rfl
  rw [rbounded_e, l2, hA] at e3
  have f4 : Fr enL ν μ4 := by rw [e4, e3, e2, e1]; exact ((((FrP.refl _ _).wI rfl).wI rfl).wI rfl).wI rfl
  refine lp2 (fun n (i : Int) (ξ : Mem) => l_Count_endSum_40 (fun (μ_7 : Mem) => K μ_7) n i ξ) (fun i ξ => ∃ j : Nat, i = (j : Int) ∧ j ≤ 6 ∧ Fr [10360] μ4 ξ ∧ rI ξ 10360 0 = scN (fun s => sM sc vc wg s n) j) (fun i _ => (6 - i).toNat) (fun m i ξ hI ih => ?_) 0 μ4 ⟨0, rfl, by omega, FrP.refl _ _, by rw [e4]; simp only [rI_sI, true_and, if_true]; rfl⟩
  obtain ⟨j, rfl, hj, hf, hz⟩ := hI
  have hr := scN_rng (fun s => sM sc vc wg s n) j
  unfold l_Count_endSum_40
  try simp (disch := omega) only [w_id]
  refine ite_i (fun q => ⟨by omega, by omega, fun x ex μ6 e6 => ?_⟩) (fun q => ?_)
  · refine ih _ _ ⟨j + 1, by omega, by omega, by rw [e6]; exact hf.wI rfl, ?_⟩ (by omega)
    have el : (rL ξ 80 (j : Int)).toInt = sM sc vc wg (j : Int) n := by
      rw [hf.rdL rfl, f4.rdL rfl]
      exact hM _ (by omega) (by omega)
    have ex2 : x = if 0 < sM sc vc wg (j : Int) n then 1 else 0 := by
      rw [ex]
      simp only [Int64.lt_iff_toInt_lt, z64, el]
    have hx : 0 ≤ x ∧ x ≤ 1 := by rw [ex2]; split <;> omega
    rw [e6, hz]
    simp (disch := omega) only [rI_sI, true_and, if_true, w_id]
    rw [ex2]
    rfl
  · have ej : j = 6 := by omega
    rw [ej] at hz
    refine k ξ (f4.trans (Fr.mono hf rfl)) ⟨?_, ?_, ?_, hz⟩
    · rw [hf.rdI rfl, e4, e3, e2, e1]; simp (disch := omega) only [rI_sI, Nat.reduceEqDiff, false_and, if_false, true_and, if_true, w_id]
    · rw [hf.rdI rfl, e4, e3, e2, e1]; simp (disch := omega) only [rI_sI, Nat.reduceEqDiff, false_and, if_false, true_and, if_true, w_id]
    · rw [hf.rdI rfl, e4, e3, e2, e1]; simp (disch := omega) only [rI_sI, Nat.reduceEqDiff, false_and, if_false, true_and, if_true, w_id]
