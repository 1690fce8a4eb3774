/-! THE COUNT OF BITS OF A LONG -/
def dg (k : Nat) (f : Nat → Nat) : Nat → Nat
  | 0 => 0
  | n + 1 => f 0 + 2 ^ k * dg k (fun i => f (i + 1)) n
theorem dg_s (k : Nat) (f : Nat → Nat) (n : Nat) : dg k f (n + 1) = f 0 + 2 ^ k * dg k (fun i => f (i + 1)) n := rfl
theorem and_split {k a c r m : Nat} (ha : a < 2 ^ k) (hc : c < 2 ^ k) : (a + 2 ^ k * r) &&& (c + 2 ^ k * m) = (a &&& c) + 2 ^ k * (r &&& m) := by
  apply Nat.eq_of_testBit_eq
  intro j
  have hac : a &&& c < 2 ^ k := Nat.and_lt_two_pow a hc
  rw [Nat.testBit_and, Nat.add_comm a, Nat.add_comm c, Nat.add_comm (a &&& c), Nat.testBit_two_pow_mul_add _ ha, Nat.testBit_two_pow_mul_add _ hc, Nat.testBit_two_pow_mul_add _ hac]
  by_cases q : j < k
  · rw [if_pos q, if_pos q, if_pos q, Nat.testBit_and]
  · rw [if_neg q, if_neg q, if_neg q, Nat.testBit_and]
theorem dg_ext {k : Nat} : ∀ (n : Nat) (f g : Nat → Nat), (∀ i : Nat, i < n → f i = g i) → dg k f n = dg k g n
  | 0, _, _, _ => rfl
  | n + 1, f, g, h => by
    unfold dg
    rw [h 0 (by omega), dg_ext n (fun i => f (i + 1)) (fun i => g (i + 1)) (fun i hi => h (i + 1) (by omega))]
theorem dg_lt {k : Nat} : ∀ (n : Nat) (f : Nat → Nat), (∀ i : Nat, f i < 2 ^ k) → dg k f n < 2 ^ (k * n)
  | 0, _, _ => by unfold dg; exact Nat.pos_of_ne_zero (by rw [Nat.mul_zero]; decide)
  | n + 1, f, h => by
    have ih := dg_lt n (fun i => f (i + 1)) (fun i => h (i + 1))
    have h0 := h 0
    unfold dg
    rw [Nat.mul_succ, Nat.add_comm, Nat.pow_add, Nat.mul_comm (2 ^ (k * n))]
    have : 2 ^ k * dg k (fun i => f (i + 1)) n + 2 ^ k ≤ 2 ^ k * 2 ^ (k * n) := by
      rw [← Nat.mul_succ]
      exact Nat.mul_le_mul_left _ ih
    omega
theorem dg_add {k : Nat} : ∀ (n : Nat) (f g : Nat → Nat), dg k f n + dg k g n = dg k (fun i => f i + g i) n
  | 0, _, _ => rfl
  | n + 1, f, g => by
    unfold dg
    rw [← dg_add n (fun i => f (i + 1)) (fun i => g (i + 1)), Nat.mul_add]
    omega
theorem dg_top {k : Nat} : ∀ (n : Nat) (f : Nat → Nat), f n = 0 → dg k f (n + 1) = dg k f n
  | 0, f, h => by unfold dg; rw [h]; rfl
  | n + 1, f, h => by
    have ih := dg_top (k := k) n (fun i => f (i + 1)) h
    show f 0 + 2 ^ k * dg k (fun i => f (i + 1)) (n + 1) = f 0 + 2 ^ k * dg k (fun i => f (i + 1)) n
    rw [ih]
theorem dg_shr {k : Nat} {f : Nat → Nat} {n : Nat} (h : f 0 < 2 ^ k) (hn : f n = 0) : dg k f n >>> k = dg k (fun i => f (i + 1)) n := by
  rw [← dg_top n f hn]
  unfold dg
  rw [Nat.shiftRight_eq_div_pow, Nat.add_mul_div_left _ _ (Nat.two_pow_pos k), Nat.div_eq_of_lt h, Nat.zero_add]
  cases n with
  | zero => rfl
  | succ m => rfl
theorem dg_mask {k : Nat} : ∀ (n : Nat) (f : Nat → Nat), (∀ i : Nat, f i < 2 ^ k) → dg k f (2 * n) &&& dg (2 * k) (fun _ => 2 ^ k - 1) n = dg (2 * k) (fun i => f (2 * i)) n
  | 0, _, _ => by unfold dg; rfl
  | n + 1, f, h => by
    have ih := dg_mask (k := k) n (fun i => f (i + 2)) (fun i => h (i + 2))
    have p := Nat.two_pow_pos k
    have e2 : 2 ^ (2 * k) = 2 ^ k * 2 ^ k := by rw [← Nat.pow_add]; congr 1; omega
    show (f 0 + 2 ^ k * (f 1 + 2 ^ k * dg k (fun i => f (i + 2)) (2 * n))) &&& ((2 ^ k - 1) + 2 ^ (2 * k) * dg (2 * k) (fun _ => 2 ^ k - 1) n) = f (2 * 0) + 2 ^ (2 * k) * dg (2 * k) (fun i => f (2 * (i + 1))) n
    have h0 := h 0
    have h1 := h 1
    have e : f 0 + 2 ^ k * (f 1 + 2 ^ k * dg k (fun i => f (i + 2)) (2 * n)) = (f 0 + 2 ^ k * f 1) + 2 ^ (2 * k) * dg k (fun i => f (i + 2)) (2 * n) := by
      rw [e2, Nat.mul_add, Nat.mul_assoc, Nat.add_assoc]
    have l1 : f 0 + 2 ^ k * f 1 < 2 ^ (2 * k) := by
      rw [e2]
      have : 2 ^ k * (f 1 + 1) ≤ 2 ^ k * 2 ^ k := Nat.mul_le_mul_left _ h1
      rw [Nat.mul_add, Nat.mul_one] at this
      omega
    have l2 : 2 ^ k - 1 < 2 ^ (2 * k) := by
      rw [e2]
      have : 2 ^ k * 1 ≤ 2 ^ k * 2 ^ k := Nat.mul_le_mul_left _ p
      omega
    rw [e, and_split l1 l2, ih, Nat.and_two_pow_sub_one_eq_mod, Nat.add_mul_mod_self_left, Nat.mod_eq_of_lt h0]
    rfl
theorem dg_pair {k : Nat} : ∀ (n : Nat) (f : Nat → Nat), dg k f (2 * n) = dg (2 * k) (fun i => f (2 * i) + 2 ^ k * f (2 * i + 1)) n
  | 0, _ => rfl
  | n + 1, f => by
    have ih := dg_pair (k := k) n (fun i => f (i + 2))
    have e2 : 2 ^ (2 * k) = 2 ^ k * 2 ^ k := by rw [← Nat.pow_add]; congr 1; omega
    show f 0 + 2 ^ k * (f 1 + 2 ^ k * dg k (fun i => f (i + 2)) (2 * n)) = (f 0 + 2 ^ k * f 1) + 2 ^ (2 * k) * dg (2 * k) (fun i => f (2 * (i + 1)) + 2 ^ k * f (2 * (i + 1) + 1)) n
    rw [ih, e2, Nat.mul_add, Nat.mul_assoc, Nat.add_assoc]
    rfl
theorem dg_bits : ∀ (n x : Nat), x < 2 ^ n → x = dg 1 (fun i => (x.testBit i).toNat) n
  | 0, x, h => by unfold dg; omega
  | n + 1, x, h => by
    have ih := dg_bits n (x / 2) (by rw [Nat.pow_succ] at h; omega)
    show x = (x.testBit 0).toNat + 2 ^ 1 * dg 1 (fun i => (x.testBit (i + 1)).toNat) n
    have e : (fun i : Nat => (x.testBit (i + 1)).toNat) = fun i : Nat => ((x / 2).testBit i).toNat := by
      funext i
      rw [Nat.testBit_add_one]
    rw [e, ← ih, Nat.testBit_zero]
    by_cases c : x % 2 = 1
    · rw [decide_eq_true c]; show x = 1 + 2 * (x / 2); omega
    · rw [decide_eq_false c]; show x = 0 + 2 * (x / 2); omega
def nL (x : Int64) : Nat := x.toBitVec.toNat
theorem nL_lt (x : Int64) : nL x < 2 ^ 64 := x.toBitVec.isLt
theorem nL_and (x y : Int64) : nL (x &&& y) = nL x &&& nL y := by
  unfold nL
  rw [Int64.toBitVec_and, BitVec.toNat_and]
theorem nL_shr (x : Int64) {s : Nat} (h : s < 64) : nL (w_lushr x (s : Int)) = nL x >>> s := by
  unfold nL
  rw [lush_e x h, BitVec.toNat_ushiftRight]
theorem nL_add {x y : Int64} (h : nL x + nL y < 2 ^ 64) : nL (x + y) = nL x + nL y := by
  unfold nL at *
  rw [Int64.toBitVec_add, BitVec.toNat_add, Nat.mod_eq_of_lt h]
theorem nL_sub {x y : Int64} (h : nL y ≤ nL x) : nL (x - y) = nL x - nL y := by
  unfold nL at *
  rw [Int64.toBitVec_sub, BitVec.toNat_sub_of_le h]
theorem and127 (x : Int64) : w_iand (w_l2i x) 127 = ((nL x % 128 : Nat) : Int) := by
  unfold w_iand w_l2i
  rw [Int32.ofInt_toInt]
  have e : (x.toInt32 &&& Int32.ofInt 127).toBitVec = BitVec.ofNat 32 (nL x % 128) := by
    apply BitVec.eq_of_toNat_eq
    rw [Int32.toBitVec_and, BitVec.toNat_and, Int64.toBitVec_toInt32, BitVec.signExtend_eq_setWidth_of_le _ (by decide), BitVec.toNat_setWidth, BitVec.toNat_ofNat]
    show (nL x % 2 ^ 32) &&& (2 ^ 7 - 1) = nL x % 128 % 2 ^ 32
    rw [Nat.and_two_pow_sub_one_eq_mod]
    omega
  show (x.toInt32 &&& Int32.ofInt 127).toBitVec.toInt = _
  rw [e, BitVec.toInt_eq_toNat_of_lt (by rw [BitVec.toNat_ofNat]; omega), BitVec.toNat_ofNat]
  congr 1
  omega
def pcN (x : Int64) : Nat → Nat
  | 0 => 0
  | n + 1 => pcN x n + (btl x n).toNat
def sN (f : Nat → Nat) : Nat → Nat
  | 0 => 0
  | n + 1 => sN f n + f n
theorem sN_pair (f : Nat → Nat) : ∀ n : Nat, sN f (2 * n) = sN (fun i => f (2 * i) + f (2 * i + 1)) n
  | 0 => rfl
  | n + 1 => by
    have ih := sN_pair f n
    show sN f (2 * n) + f (2 * n) + f (2 * n + 1) = sN (fun i => f (2 * i) + f (2 * i + 1)) n + (f (2 * n) + f (2 * n + 1))
    omega
theorem pcN_s (x : Int64) : ∀ n : Nat, pcN x n = sN (fun i => (btl x i).toNat) n
  | 0 => rfl
  | n + 1 => by
    show pcN x n + (btl x n).toNat = sN (fun i => (btl x i).toNat) n + (btl x n).toNat
    rw [pcN_s x n]
theorem dg_sh8 {f : Nat → Nat} (h : ∀ i : Nat, f i < 2 ^ 8) (hz : ∀ i : Nat, 8 ≤ i → f i = 0) : ∀ m : Nat, dg 8 f 8 >>> (8 * m) = dg 8 (fun i => f (i + m)) 8
  | 0 => rfl
  | m + 1 => by
    have ih := dg_sh8 h hz m
    rw [Nat.mul_succ, Nat.shiftRight_add, ih, dg_shr (k := 8) (f := fun i => f (i + m)) (n := 8) (h _) (hz _ (by omega))]
    exact dg_ext 8 _ _ (fun i _ => by show f (i + 1 + m) = f (i + (m + 1)); rw [Nat.add_right_comm, Nat.add_assoc])
def pr (f : Nat → Nat) : Nat → Nat := fun i => f (2 * i) + f (2 * i + 1)
def sh (m : Nat) (f : Nat → Nat) : Nat → Nat := fun i => f i + f (i + m)
theorem pr_le {f : Nat → Nat} {k : Nat} (h : ∀ i : Nat, f i ≤ k) (i : Nat) : pr f i ≤ 2 * k := by
  have := h (2 * i)
  have := h (2 * i + 1)
  unfold pr
  omega
theorem pr_z {f : Nat → Nat} {k : Nat} (h : ∀ i : Nat, 2 * k ≤ i → f i = 0) (i : Nat) (hi : k ≤ i) : pr f i = 0 := by
  have := h (2 * i) (by omega)
  have := h (2 * i + 1) (by omega)
  unfold pr
  omega
theorem sh_le {f : Nat → Nat} {k m : Nat} (h : ∀ i : Nat, f i ≤ k) (i : Nat) : sh m f i ≤ 2 * k := by
  have := h i
  have := h (i + m)
  unfold sh
  omega
theorem sh_z {f : Nat → Nat} {k m : Nat} (h : ∀ i : Nat, k ≤ i → f i = 0) (i : Nat) (hi : k ≤ i) : sh m f i = 0 := by
  have := h i hi
  have := h (i + m) (by omega)
  unfold sh
  omega
theorem k_m1 : nL 6148914691236517205 = dg (2 * 1) (fun _ => 2 ^ 1 - 1) 32 := by decide +kernel
theorem k_m2 : nL 3689348814741910323 = dg (2 * 2) (fun _ => 2 ^ 2 - 1) 16 := by decide +kernel
theorem k_m3 : nL 1085102592571150095 = dg (2 * 4) (fun _ => 2 ^ 4 - 1) 8 := by decide +kernel
theorem pc_A {x y : Int64} {b : Nat → Nat} (hx : nL x = dg 1 b 64) (hb : ∀ i : Nat, b i ≤ 1) (hz : ∀ i : Nat, 64 ≤ i → b i = 0) (q : y = x - ((w_lushr x 1) &&& 6148914691236517205)) : nL y = dg 2 (pr b) 32 := by
  have a1 : nL ((w_lushr x 1) &&& 6148914691236517205) = dg 2 (fun i => b (2 * i + 1)) 32 := by
    have s : nL (w_lushr x 1) = nL x >>> 1 := nL_shr x (s := 1) (by decide)
    have m := dg_mask (k := 1) 32 (fun i => b (i + 1)) (fun i => by have := hb (i + 1); omega)
    rw [nL_and, s, hx, dg_shr (k := 1) (f := b) (n := 64) (by have := hb 0; omega) (hz 64 (by omega)), k_m1]
    exact m
  have a2 : nL x = dg 2 (fun i => pr b i + b (2 * i + 1)) 32 := by
    have p := dg_pair (k := 1) 32 b
    rw [hx]
    refine Eq.trans p (dg_ext 32 _ _ (fun i _ => ?_))
    show b (2 * i) + 2 ^ 1 * b (2 * i + 1) = b (2 * i) + b (2 * i + 1) + b (2 * i + 1)
    omega
  have a3 : nL x = dg 2 (pr b) 32 + dg 2 (fun i => b (2 * i + 1)) 32 := by rw [a2, dg_add]
  rw [q, nL_sub (by omega), a1]
  omega
theorem pc_B {x y : Int64} {c : Nat → Nat} (hx : nL x = dg 2 c 32) (hc : ∀ i : Nat, c i ≤ 2) (hz : ∀ i : Nat, 32 ≤ i → c i = 0) (q : y = (x &&& 3689348814741910323) + ((w_lushr x 2) &&& 3689348814741910323)) : nL y = dg 4 (pr c) 16 := by
  have b1 : nL (x &&& 3689348814741910323) = dg 4 (fun i => c (2 * i)) 16 := by
    have m := dg_mask (k := 2) 16 c (fun i => by have := hc i; omega)
    rw [nL_and, hx, k_m2]
    exact m
  have b2 : nL ((w_lushr x 2) &&& 3689348814741910323) = dg 4 (fun i => c (2 * i + 1)) 16 := by
    have s : nL (w_lushr x 2) = nL x >>> 2 := nL_shr x (s := 2) (by decide)
    have m := dg_mask (k := 2) 16 (fun i => c (i + 1)) (fun i => by have := hc (i + 1); omega)
    rw [nL_and, s, hx, dg_shr (k := 2) (f := c) (n := 32) (by have := hc 0; omega) (hz 32 (by omega)), k_m2]
    exact m
  have l := dg_lt (k := 4) 16 (pr c) (fun i => by have := pr_le hc i; omega)
  have e : dg 4 (fun i => c (2 * i)) 16 + dg 4 (fun i => c (2 * i + 1)) 16 = dg 4 (pr c) 16 := dg_add (k := 4) 16 (fun i => c (2 * i)) (fun i => c (2 * i + 1))
  rw [q, nL_add (by rw [b1, b2, e]; exact l), b1, b2, e]
theorem pc_C {x y : Int64} {d : Nat → Nat} (hx : nL x = dg 4 d 16) (hd : ∀ i : Nat, d i ≤ 4) (hz : ∀ i : Nat, 16 ≤ i → d i = 0) (q : y = (x + (w_lushr x 4)) &&& 1085102592571150095) : nL y = dg 8 (pr d) 8 := by
  have s : nL (w_lushr x 4) = nL x >>> 4 := nL_shr x (s := 4) (by decide)
  rw [hx, dg_shr (k := 4) (f := d) (n := 16) (by have := hd 0; omega) (hz 16 (by omega))] at s
  have l := dg_lt (k := 4) 16 (sh 1 d) (fun i => by have := sh_le (m := 1) hd i; omega)
  have e : dg 4 d 16 + dg 4 (fun i => d (i + 1)) 16 = dg 4 (sh 1 d) 16 := dg_add (k := 4) 16 d (fun i => d (i + 1))
  have m := dg_mask (k := 4) 8 (sh 1 d) (fun i => by have := sh_le (m := 1) hd i; omega)
  rw [q, nL_and, nL_add (by rw [hx, s, e]; exact l), hx, s, e, k_m3]
  exact m
theorem pc_D {x y : Int64} {e : Nat → Nat} (m : Nat) (hm : m < 8) (hx : nL x = dg 8 e 8) (he : ∀ i : Nat, e i ≤ 100) (hz : ∀ i : Nat, 8 ≤ i → e i = 0) (q : y = x + (w_lushr x ((8 * m : Nat) : Int))) : nL y = dg 8 (sh m e) 8 := by
  have s : nL (w_lushr x ((8 * m : Nat) : Int)) = dg 8 (fun i => e (i + m)) 8 := by
    rw [nL_shr x (by omega), hx]
    exact dg_sh8 (fun i => by have := he i; omega) hz m
  have l := dg_lt (k := 8) 8 (sh m e) (fun i => by have := sh_le (m := m) he i; omega)
  have k : dg 8 e 8 + dg 8 (fun i => e (i + m)) 8 = dg 8 (sh m e) 8 := dg_add (k := 8) 8 e (fun i => e (i + m))
  rw [q, nL_add (by rw [hx, s, k]; exact l), hx, s, k]
theorem popL_m (x y1 y2 y3 y4 y5 : Int64) (q1 : y1 = x - ((w_lushr x 1) &&& 6148914691236517205)) (q2 : y2 = (y1 &&& 3689348814741910323) + ((w_lushr y1 2) &&& 3689348814741910323)) (q3 : y3 = (y2 + (w_lushr y2 4)) &&& 1085102592571150095) (q4 : y4 = y3 + (w_lushr y3 8)) (q5 : y5 = y4 + (w_lushr y4 16)) : w_iand (w_l2i (y5 + (w_lushr y5 32))) 127 = ((pcN x 64 : Nat) : Int) := by
  have hz : ∀ i : Nat, 64 ≤ i → (btl x i).toNat = 0 := fun i hi => by rw [btl_big x hi]; rfl
  have hb1 : ∀ i : Nat, (btl x i).toNat ≤ 1 := fun i => by cases btl x i <;> decide
  have hx := dg_bits 64 (nL x) (nL_lt x)
  have hf : (fun i : Nat => ((nL x).testBit i).toNat) = fun i : Nat => (btl x i).toNat := funext fun i => rfl
  rw [hf] at hx
  have hp := pcN_s x 64
  rw [hp]
  clear hp
  obtain ⟨b, hb⟩ : ∃ b : Nat → Nat, b = fun i => (btl x i).toNat := ⟨_, rfl⟩
  rw [← hb] at hx ⊢
  have h1 : ∀ i : Nat, b i ≤ 1 := fun i => by rw [hb]; exact hb1 i
  have z1 : ∀ i : Nat, 64 ≤ i → b i = 0 := fun i hi => by rw [hb]; exact hz i hi
  clear hb hb1 hz
  have s1 : sN b 64 = sN (pr b) 32 := sN_pair b 32
  have s2 : sN (pr b) 32 = sN (pr (pr b)) 16 := sN_pair (pr b) 16
  have s3 : sN (pr (pr b)) 16 = sN (pr (pr (pr b))) 8 := sN_pair (pr (pr b)) 8
  have a1 := pc_A hx h1 z1 q1
  have h2 : ∀ i : Nat, pr b i ≤ 2 := pr_le h1
  have z2 : ∀ i : Nat, 32 ≤ i → pr b i = 0 := pr_z (k := 32) z1
  have a2 := pc_B a1 h2 z2 q2
  have h3 : ∀ i : Nat, pr (pr b) i ≤ 4 := pr_le h2
  have z3 : ∀ i : Nat, 16 ≤ i → pr (pr b) i = 0 := pr_z (k := 16) z2
  have a3 := pc_C a2 h3 z3 q3
  have h4 : ∀ i : Nat, pr (pr (pr b)) i ≤ 8 := pr_le h3
  have z4 : ∀ i : Nat, 8 ≤ i → pr (pr (pr b)) i = 0 := pr_z (k := 8) z3
  rw [s1, s2, s3]
  generalize pr (pr (pr b)) = e at h4 z4 a3 ⊢
  have a4 := pc_D 1 (by decide) a3 (fun i => by have := h4 i; omega) z4 q4
  have h5 : ∀ i : Nat, sh 1 e i ≤ 16 := sh_le h4
  have z5 : ∀ i : Nat, 8 ≤ i → sh 1 e i = 0 := sh_z z4
  have a5 := pc_D 2 (by decide) a4 (fun i => by have := h5 i; omega) z5 q5
  have h6 : ∀ i : Nat, sh 2 (sh 1 e) i ≤ 32 := sh_le h5
  have z6 : ∀ i : Nat, 8 ≤ i → sh 2 (sh 1 e) i = 0 := sh_z z5
  have a6 := pc_D 4 (by decide) a5 (fun i => by have := h6 i; omega) z6 (y := y5 + (w_lushr y5 32)) rfl
  have h7 : sh 4 (sh 2 (sh 1 e)) 0 ≤ 64 := sh_le h6 0
  have hs : sh 4 (sh 2 (sh 1 e)) 0 = sN e 8 := by
    show ((e 0 + e 1) + (e 2 + e 3)) + ((e 4 + e 5) + (e 6 + e 7)) = 0 + e 0 + e 1 + e 2 + e 3 + e 4 + e 5 + e 6 + e 7
    omega
  have a7 := a6.trans (dg_s 8 (sh 4 (sh 2 (sh 1 e))) 7)
  rw [and127, a7, ← hs]
  generalize dg 8 (fun i => sh 4 (sh 2 (sh 1 e)) (i + 1)) 7 = R
  generalize sh 4 (sh 2 (sh 1 e)) 0 = S at h7 ⊢
  congr 1
  omega
theorem popL_l (x : Int64) {y1 y2 y3 y4 y5 : Int64} (q1 : y1 = x - ((w_lushr x 1) &&& 6148914691236517205)) (q2 : y2 = (y1 &&& 3689348814741910323) + ((w_lushr y1 2) &&& 3689348814741910323)) (q3 : y3 = (y2 + (w_lushr y2 4)) &&& 1085102592571150095) (q4 : y4 = y3 + (w_lushr y3 8)) (q5 : y5 = y4 + (w_lushr y4 16)) : v_popL x = w_iand (w_l2i (y5 + (w_lushr y5 32))) 127 := by
  subst q5
  subst q4
  subst q3
  subst q2
  subst q1
  rfl
theorem popL_e (x : Int64) : v_popL x = ((pcN x 64 : Nat) : Int) := by
  have h : ∃ y1 y2 y3 y4 y5 : Int64, (y1 = x - ((w_lushr x 1) &&& 6148914691236517205)) ∧ (y2 = (y1 &&& 3689348814741910323) + ((w_lushr y1 2) &&& 3689348814741910323)) ∧ (y3 = (y2 + (w_lushr y2 4)) &&& 1085102592571150095) ∧ (y4 = y3 + (w_lushr y3 8)) ∧ (y5 = y4 + (w_lushr y4 16)) := ⟨_, _, _, _, _, rfl, rfl, rfl, rfl, rfl⟩
  obtain ⟨y1, y2, y3, y4, y5, q1, q2, q3, q4, q5⟩ := h
  rw [popL_l x q1 q2 q3 q4 q5]
  exact popL_m x y1 y2 y3 y4 y5 q1 q2 q3 q4 q5
