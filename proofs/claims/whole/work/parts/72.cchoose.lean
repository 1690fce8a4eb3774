/-! CHOOSING MOTIONS BY BITS, the class's side -/
theorem rL_eq (ν : Mem) (c : Nat) (j : Int) (v : Int64) : rL (sL ν c j v) c j = v := by rw [rLs, if_pos ⟨rfl, rfl⟩]
theorem rL_ne (ν : Mem) {c q : Nat} (j : Int) (v : Int64) (i : Int) (h : (q == c) = false) : rL (sL ν c j v) q i = rL ν q i := by
  rw [rLs, if_neg (fun e => by rw [e.1, beq_self_eq_true] at h; cases h)]
theorem fr1L (ν : Mem) (c : Nat) (j : Int) (v : Int64) : Fr [c] ν (sL ν c j v) := (FrP.refl _ ν).wL (by simp [lel])
theorem ush24 {a : Int} (ha : Rg a) : w (w_iushr a 24) = 0 ↔ (0 ≤ a ∧ a < 16777216) := by
  obtain ⟨a0, a1⟩ := ha
  have hs := su_f ⟨24, by decide⟩
  have e : w (w_iushr a 24) = ((((Int32.ofInt a).toBitVec.toNat) / 16777216 : Nat) : Int) := by
    unfold w_iushr
    have e2 : ((Int32.ofInt a).toUInt32 >>> ((Int32.ofInt 24).toUInt32 &&& Int32.toUInt32 31)).toInt32.toBitVec = (Int32.ofInt a).toBitVec >>> 24 := by
      rw [UInt32.toBitVec_toInt32, UInt32.toBitVec_shiftRight, BitVec.ushiftRight_eq']
      have e3 : BitVec.toNat (UInt32.toBitVec ((Int32.ofInt 24).toUInt32 &&& Int32.toUInt32 31) % 32) = 24 := by decide
      rw [e3]
      rfl
    have lt := (Int32.ofInt a).toBitVec.isLt
    have e4 : (((Int32.ofInt a).toUInt32 >>> ((Int32.ofInt 24).toUInt32 &&& Int32.toUInt32 31)).toInt32).toInt = ((((Int32.ofInt a).toBitVec.toNat) / 16777216 : Nat) : Int) := by
      show BitVec.toInt _ = _
      rw [e2, BitVec.toInt_eq_toNat_of_lt (by rw [BitVec.toNat_ushiftRight, Nat.shiftRight_eq_div_pow]; omega), BitVec.toNat_ushiftRight, Nat.shiftRight_eq_div_pow]
    rw [e4, w_id (by omega) (by omega)]
  rw [e]
  have lt := (Int32.ofInt a).toBitVec.isLt
  have key : ((Int32.ofInt a).toBitVec.toNat : Int) = a % 4294967296 := by
    have h1 : (Int32.ofInt a).toInt = a := w_id a0 a1
    have h2 : (Int32.ofInt a).toInt = (Int32.ofInt a).toBitVec.toInt := rfl
    rw [h1, BitVec.toInt_eq_toNat_cond] at h2
    split at h2 <;> omega
  omega
theorem ishr_e {v i : Int} (hv : 0 ≤ v ∧ v < 2147483648) (hi : 0 ≤ i ∧ i < 32) : w_ishr v i = ((v.toNat / 2 ^ i.toNat : Nat) : Int) := by
  have e : w_ishr v i = w_iushr v i := by
    rw [iushr_e hv hi]
    have hs : ∀ n : Fin 32, (((Int32.ofInt (n.1 : Int)) &&& 31).toBitVec.smod 32).toNat = n.1 := by decide +kernel
    have hsi := hs ⟨i.toNat, by omega⟩
    rw [show (((⟨i.toNat, by omega⟩ : Fin 32).1 : Nat) : Int) = i by show ((i.toNat : Nat) : Int) = i; omega] at hsi
    unfold w_ishr
    have lt := (Int32.ofInt v).toBitVec.isLt
    have hn : (Int32.ofInt v).toBitVec.toNat = v.toNat := by
      have h1 : (Int32.ofInt v).toInt = v := w_id (by omega) (by omega)
      have h2 : (Int32.ofInt v).toInt = (Int32.ofInt v).toBitVec.toInt := rfl
      rw [h1, BitVec.toInt_eq_toNat_cond] at h2
      split at h2 <;> omega
    have hm : (Int32.ofInt v).toBitVec.msb = false := by
      rw [BitVec.msb_eq_false_iff_two_mul_lt, hn]
      omega
    have hsi' : ((Int32.ofInt i &&& 31).toBitVec.smod 32).toNat = i.toNat := hsi
    have e2 : (Int32.ofInt v >>> (Int32.ofInt i &&& 31)).toBitVec = (Int32.ofInt v).toBitVec >>> i.toNat := by
      have hs2 : (((Int32.ofInt i &&& 31) &&& 31).toBitVec.smod 32).toNat = i.toNat := by
        rw [Int32.and_assoc]
        exact hsi'
      rw [Int32.toBitVec_shiftRight, BitVec.sshiftRight_eq', BitVec.sshiftRight_eq_of_msb_false hm]
      congr 1
    show BitVec.toInt _ = _
    have pw : 1 ≤ 2 ^ i.toNat := Nat.one_le_two_pow
    have dl : v.toNat / 2 ^ i.toNat ≤ v.toNat := Nat.div_le_self _ _
    rw [e2, BitVec.toInt_eq_toNat_of_lt (by rw [BitVec.toNat_ushiftRight, Nat.shiftRight_eq_div_pow, hn]; omega), BitVec.toNat_ushiftRight, Nat.shiftRight_eq_div_pow, hn]
  rw [e, iushr_e hv hi]
theorem sbit_e {v i : Int} (hv : 0 ≤ v ∧ v < 2147483648) (hi : 0 ≤ i ∧ i < 32) : w_iand (w_ishr v i) 1 = if v.toNat.testBit i.toNat = true then 1 else 0 := by
  have e : w_ishr v i = w_iushr v i := by rw [ishr_e hv hi, iushr_e hv hi]
  rw [e]
  exact bit_e hv hi
/-- the motions that bits name, below m -/
def chN (a : Nat) : Nat → List Int
  | 0 => []
  | m + 1 => if a.testBit m = true then chN a m ++ [(m : Int)] else chN a m
theorem chN_len (a : Nat) : ∀ m : Nat, (chN a m).length ≤ m
  | 0 => Nat.le_refl _
  | m + 1 => by
    have := chN_len a m
    unfold chN
    split
    · rw [List.length_append]; simp; omega
    · omega
theorem chN_mono (a : Nat) (m : Nat) : ∀ k : Nat, (chN a m).length ≤ (chN a (m + k)).length
  | 0 => Nat.le_refl _
  | k + 1 => by
    have := chN_mono a m k
    have e : chN a (m + (k + 1)) = if a.testBit (m + k) = true then chN a (m + k) ++ [((m + k : Nat) : Int)] else chN a (m + k) := rfl
    rw [e]
    split
    · rw [List.length_append]; omega
    · exact this
theorem chN_mem (a : Nat) : ∀ (m : Nat) (x : Int), x ∈ chN a m ↔ ∃ k : Nat, x = (k : Int) ∧ k < m ∧ a.testBit k = true
  | 0, x => ⟨fun h => (by cases h), fun h => (by obtain ⟨k, -, hk, -⟩ := h; omega)⟩
  | m + 1, x => by
    have ih := chN_mem a m x
    unfold chN
    by_cases c : a.testBit m = true
    · rw [if_pos c, List.mem_append, ih, List.mem_singleton]
      constructor
      · rintro (⟨k, k1, k2, k3⟩ | e)
        · exact ⟨k, k1, by omega, k3⟩
        · exact ⟨m, e, by omega, c⟩
      · rintro ⟨k, k1, k2, k3⟩
        by_cases e : k = m
        · rw [e] at k1; exact Or.inr k1
        · exact Or.inl ⟨k, k1, by omega, k3⟩
    · rw [if_neg c, ih]
      constructor
      · rintro ⟨k, k1, k2, k3⟩; exact ⟨k, k1, by omega, k3⟩
      · rintro ⟨k, k1, k2, k3⟩
        have : ¬ k = m := fun e => by rw [e] at k3; exact c k3
        exact ⟨k, k1, by omega, k3⟩
def opA (σ : Sg) (m : Int) : Prop := m < σ 15472 0 ∧ σ 122 m = 0
theorem opA_hw {σ : Sg} (h24 : σ 15472 0 ≤ 24) {m : Int} (h0 : 0 ≤ m) (h1 : m < 24) : hw σ m = 0 ↔ opA σ m := by
  unfold hw hw3 opA
  by_cases c : 0 ≤ m ∧ m < σ 15472 0
  · rw [if_pos c]; exact ⟨fun z => ⟨c.2, z⟩, fun z => z.2⟩
  · rw [if_neg c, if_neg (by omega), if_neg (by omega)]
    exact ⟨fun z => by omega, fun z => absurd ⟨h0, z.1⟩ c⟩
/-- bits that name n OPEN MOTIONS at most -/
def vlA (σ : Sg) (a : Int) (n : Nat) : Prop := (0 ≤ a ∧ a < 16777216) ∧ (chN a.toNat 24).length ≤ n ∧ ∀ m : Nat, m < 24 → a.toNat.testBit m = true → opA σ (m : Int)
def gI (l : List Int) (i : Nat) : Int := l.getD i 0
theorem gI_app {l : List Int} {x : Int} {i : Nat} : gI (l ++ [x]) i = if i < l.length then gI l i else if i = l.length then x else 0 := gA
theorem gI_mem {l : List Int} {i : Nat} (h : i < l.length) : gI l i ∈ l := getD_memI h
theorem c_chosen_l {σ : Sg} {a : Int} (ha : 0 ≤ a ∧ a < 16777216) {c n : Nat} (hc : quietL [c] = true) (hn : n ≤ 8) {μ : Mem} (hI : Ic σ μ) {X : Mem → Prop} {K : Int → Mem → Prop}
    (h1 : vlA σ a n → ∀ ν : Mem, Fr [c] μ ν → (∀ i : Nat, i < (chN a.toNat 24).length → rI ν c (i : Int) = gI (chN a.toNat 24) i) → K ((chN a.toNat 24).length : Int) ν) (h2 : ¬ vlA σ a n → ∀ ν : Mem, Fr [c] μ ν → X ν) :
    ∀ (f m : Nat) (ν : Mem), m + f = 24 → Fr [c] μ ν → (∀ i : Nat, i < (chN a.toNat m).length → rI ν c (i : Int) = gI (chN a.toNat m) i) → (chN a.toNat m).length ≤ n → (∀ k : Nat, k < m → a.toNat.testBit k = true → opA σ (k : Int)) → l_Floor_chosen_14 a c n X K (f + 1) ((chN a.toNat m).length : Int) (m : Int) ν
  | 0, m, ν, e, fr, hv, hl, ho => by
    have em : m = 24 := by omega
    subst em
    unfold l_Floor_chosen_14
    (try simp (disch := omega) only [w_id])
    rw [if_neg (by omega)]
    exact h1 ⟨ha, hl, ho⟩ ν fr hv
  | f + 1, m, ν, e, fr, hv, hl, ho => by
    have hIν := (Fr.qt fr hc).ic hI
    have hct := hI.cnt
    unfold l_Floor_chosen_14
    rw [bit_e (v := a) (i := (m : Int)) (by omega) (by omega), show ((m : Int).toNat) = m by omega, stateOf_e hIν ⟨by omega, by omega⟩]
    have hwr := hI.hwr (m : Int)
    have st : chN a.toNat (m + 1) = if a.toNat.testBit m = true then chN a.toNat m ++ [(m : Int)] else chN a.toNat m := rfl
    have mono := chN_mono a.toNat (m + 1) f
    rw [show m + 1 + f = 24 by omega] at mono
    (try simp (disch := omega) only [w_id])
    rw [if_pos (by omega)]
    by_cases b : a.toNat.testBit m = true
    · rw [if_pos b] at st
      rw [if_pos b, if_neg (by decide)]
      refine ite_i (fun o => ?_) (fun o => h2 (fun z => o ((opA_hw hct.2.1 (by omega) (by omega)).mpr (z.2.2 m (by omega) b))) ν fr)
      have len : (chN a.toNat (m + 1)).length = (chN a.toNat m).length + 1 := by rw [st, List.length_append]; rfl
      refine ite_i (fun q => ?_) (fun q => h2 (fun z => by have := z.2.1; omega) ν fr)
      intro μ2 e2
      rw [set_in (by omega) (by omega) (by omega)] at e2
      have f2 : Fr [c] ν μ2 := by rw [e2]; exact fr1 _ _ _ _
      have ih := c_chosen_l ha hc hn hI h1 h2 f (m + 1) μ2 (by omega) (fr.trans f2) (fun i hi => ?_) (by omega) (fun k hk kb => ?_)
      · rw [len] at ih
        exact ih
      · rw [st] at hi ⊢
        simp only [List.length_append, List.length_cons, List.length_nil] at hi
        rw [gI_app, e2, rI_sI]
        by_cases q2 : i < (chN a.toNat m).length
        · rw [if_pos q2, if_neg (fun z => by omega)]; exact hv i q2
        · rw [if_neg q2, if_pos (show i = _ by omega), if_pos ⟨rfl, by omega⟩, w_id (by omega) (by omega)]
      · by_cases q2 : k = m
        · rw [q2]; exact (opA_hw hct.2.1 (by omega) (by omega)).mp o
        · exact ho k (by omega) kb
    · rw [if_neg b] at st
      rw [if_neg b, if_pos (by trivial)]
      have ih := c_chosen_l ha hc hn hI h1 h2 f (m + 1) ν (by omega) fr (fun i hi => by rw [st] at hi ⊢; exact hv i hi) (by rw [st]; exact hl) (fun k hk kb => ho k (by
        have : ¬ k = m := fun z => by rw [z] at kb; exact b kb
        omega) kb)
      rw [st] at ih
      exact ih
theorem c_chosen {σ : Sg} {a : Int} (ha : Rg a) {c n : Nat} (hc : quietL [c] = true) (hn : n ≤ 8) {μ : Mem} (hI : Ic σ μ) {K : Int → Mem → Prop}
    (h1 : vlA σ a n → ∀ ν : Mem, Fr [c] μ ν → (∀ i : Nat, i < (chN a.toNat 24).length → rI ν c (i : Int) = gI (chN a.toNat 24) i) → K ((chN a.toNat 24).length : Int) ν) (h2 : ¬ vlA σ a n → ∀ ν : Mem, Fr [c] μ ν → K 0 ν) : f_Floor_chosen a c n μ K := by
  unfold f_Floor_chosen
  refine ite_i (fun q => ?_) (fun q => h2 (fun z => q ((ush24 ha).mpr z.1)) μ (FrP.refl _ _))
  have hr := (ush24 ha).mp q
  exact ⟨25, c_chosen_l hr hc hn hI h1 h2 24 0 μ (by omega) (FrP.refl _ _) (fun i hi => absurd hi (by show ¬ i < 0; omega)) (Nat.zero_le _) (fun k hk => by omega)⟩
def MsB (l : List Ln) (x : Int64) : Prop := ∀ n : Nat, n < 64 → btl x n = mstA l n
theorem mstA_app (a c : List Ln) (n : Nat) : mstA (a ++ c) n = (mstA a n || mstA c n) := by unfold mstA; rw [List.any_append]
theorem c_mustBitsOf {ν : Mem} {r : Int} (hr : 0 ≤ r ∧ r < 25) {l : List Ln} (hl : RowC ν r l) (hw : WfL l) {K : Int64 → Mem → Prop} (h : ∀ x : Int64, MsB l x → K x ν) : f_Floor_mustBitsOf r ν K := by
  have h12 := hw.1
  unfold f_Floor_mustBitsOf
  intro v4 e4 v5 e5
  rw [at_in (by omega) (by omega) (by decide), hl.1] at e4
  subst e4
  subst e5
  have loop : ∀ (f j : Nat) (x : Int64), j + f = l.length → (∀ n : Nat, n < 64 → btl x n = mstA (l.take j) n) → l_Floor_mustBitsOf_23 ν (r * 12 + (l.length : Int)) (fun v => K v ν) (f + 1) x (r * 12 + (j : Int)) := by
    intro f
    induction f with
    | zero =>
      intro j x e hx
      unfold l_Floor_mustBitsOf_23
      (try simp (disch := omega) only [w_id])
      rw [if_neg (by omega)]
      refine h x (fun n hn => ?_)
      rw [hx n hn, List.take_of_length_le (by omega)]
    | succ f ih =>
      intro j x e hx
      have hj : j < l.length := by omega
      have wj := hw.at hj
      have at' := hl.2 j hj
      unfold l_Floor_mustBitsOf_23
      (try simp (disch := omega) only [w_id])
      rw [if_pos (by omega), at_in (by omega) (by omega) (by decide), at_in (by omega) (by omega) (by decide), at'.1, at'.2.1]
      intro y ey z ez
      have b := wj.2.2.1
      unfold b01 at b
      rw [wabs_e (by omega)] at ey
      (try simp (disch := omega) only [w_id] at ey)
      have g := ih (j + 1) z (by omega) (fun n hn => ?_)
      · rw [show r * 12 + ((j + 1 : Nat) : Int) = r * 12 + (j : Int) + 1 by omega] at g
        exact g
      · rw [take_s hj, mstA_app, ez, btl_or, hx n hn, ey]
        congr 1
        unfold mstA
        simp only [List.any_cons, List.any_nil, Bool.or_false]
        by_cases c : (l.getD j dL).2.1 = 1
        · rw [if_pos c, btl_shl (by omega) hn]
          congr 1
          exact propext ⟨fun z => ⟨z, c⟩, fun z => z.1⟩
        · rw [if_neg c, btl_0, decide_eq_false (fun z => c z.2)]
  have g := loop l.length 0 0 (by omega) (fun n hn => by rw [btl_0]; rfl)
  rw [show r * 12 + ((0 : Nat) : Int) = r * 12 by omega] at g
  exact ⟨l.length + 1, g⟩
