/-! THE START: the memory that the constructors leave -/
def apO : (Nat × Nat × Int × Int) → Mem → Mem
  | (0, c, _, _), μ => clr μ c
  | (1, c, j, v), μ => sI μ c j v
  | (2, c, j, v), μ => fillM μ c j.toNat v
  | (_, c, j, v), μ => sR μ c j (some v.toNat)
def runO : List (Nat × Nat × Int × Int) → Mem → Mem
  | [], μ => μ
  | o :: r, μ => apO o (runO r μ)
def OPS : List (Nat × Nat × Int × Int) := [(0, 174, 0, 0), (3, 15553, 0, 173), (0, 173, 0, 0), (3, 15552, 0, 172), (0, 172, 0, 0), (3, 15551, 0, 171), (0, 171, 0, 0), (3, 15550, 0, 170), (0, 170, 0, 0), (3, 15549, 0, 169), (0, 169, 0, 0), (3, 15548, 0, 168), (0, 168, 0, 0), (3, 15547, 0, 167), (0, 167, 0, 0), (3, 15546, 0, 166), (0, 166, 0, 0), (3, 15544, 0, 165), (0, 165, 0, 0), (3, 15543, 0, 164), (0, 164, 0, 0), (3, 15542, 0, 163), (0, 163, 0, 0), (3, 15540, 0, 162), (0, 162, 0, 0), (3, 15539, 0, 161), (0, 161, 0, 0), (3, 15538, 0, 160), (0, 160, 0, 0), (3, 15537, 0, 159), (0, 159, 0, 0), (3, 15535, 0, 158), (0, 158, 0, 0), (3, 15532, 0, 157), (0, 157, 0, 0), (3, 15531, 0, 156), (0, 156, 0, 0), (3, 15530, 0, 155), (0, 155, 0, 0), (3, 15528, 0, 154), (0, 154, 0, 0), (3, 15524, 0, 153), (0, 153, 0, 0), (3, 15523, 0, 152), (0, 152, 0, 0), (3, 15522, 0, 151), (0, 151, 0, 0), (1, 15519, 0, -1), (3, 15511, 0, 150), (0, 150, 0, 0), (3, 15510, 0, 149), (0, 149, 0, 0), (3, 15509, 0, 148), (0, 148, 0, 0), (3, 15508, 0, 147), (0, 147, 0, 0), (3, 15507, 0, 146), (0, 146, 0, 0), (3, 15506, 0, 145), (0, 145, 0, 0), (3, 15505, 0, 144), (0, 144, 0, 0), (3, 15504, 0, 143), (0, 143, 0, 0), (3, 15503, 0, 142), (0, 142, 0, 0), (3, 15502, 0, 141), (0, 141, 0, 0), (3, 15501, 0, 140), (0, 140, 0, 0), (3, 15500, 0, 139), (0, 139, 0, 0), (3, 15499, 0, 138), (0, 138, 0, 0), (3, 15497, 0, 137), (0, 137, 0, 0), (3, 15496, 0, 136), (0, 136, 0, 0), (3, 15495, 0, 135), (0, 135, 0, 0), (3, 15494, 0, 134), (0, 134, 0, 0), (3, 15493, 0, 133), (0, 133, 0, 0), (3, 15492, 0, 132), (0, 132, 0, 0), (3, 15491, 0, 131), (0, 131, 0, 0), (3, 15490, 0, 130), (0, 130, 0, 0), (1, 15489, 0, -1), (3, 15488, 0, 129), (0, 129, 0, 0), (3, 15487, 0, 128), (0, 128, 0, 0), (3, 15486, 0, 127), (0, 127, 0, 0), (3, 15485, 0, 126), (0, 126, 0, 0), (3, 15484, 0, 125), (0, 125, 0, 0), (3, 15483, 0, 124), (0, 124, 0, 0), (3, 15482, 0, 123), (0, 123, 0, 0), (3, 15481, 0, 122), (0, 122, 0, 0), (1, 15480, 0, -1), (3, 15478, 0, 121), (0, 121, 0, 0), (3, 15477, 0, 120), (0, 120, 0, 0), (3, 15476, 0, 119), (0, 119, 0, 0), (3, 15475, 0, 118), (0, 118, 0, 0), (3, 15473, 0, 117), (0, 117, 0, 0), (1, 15471, 0, -1), (3, 15470, 0, 116), (0, 116, 0, 0), (3, 15469, 0, 115), (0, 115, 0, 0), (3, 15467, 0, 114), (0, 114, 0, 0), (0, 113, 0, 0), (3, 1009, 0, 101), (3, 13931, 0, 73), (3, 13930, 0, 67), (3, 13929, 0, 12), (3, 13928, 0, 1), (3, 13943, 0, 112), (0, 112, 0, 0), (3, 13942, 0, 111), (0, 111, 0, 0), (3, 13941, 0, 110), (0, 110, 0, 0), (3, 13940, 0, 109), (0, 109, 0, 0), (3, 13939, 0, 108), (0, 108, 0, 0), (3, 13938, 0, 107), (0, 107, 0, 0), (3, 13937, 0, 106), (0, 106, 0, 0), (3, 13936, 0, 105), (0, 105, 0, 0), (3, 13935, 0, 104), (0, 104, 0, 0), (3, 13933, 0, 103), (0, 103, 0, 0), (3, 13932, 0, 102), (0, 102, 0, 0), (0, 101, 0, 0), (3, 1008, 0, 91), (3, 12649, 0, 67), (3, 12648, 0, 12), (3, 12662, 0, 100), (0, 100, 0, 0), (3, 12661, 0, 99), (0, 99, 0, 0), (3, 12660, 0, 98), (0, 98, 0, 0), (3, 12659, 0, 97), (0, 97, 0, 0), (3, 12658, 0, 96), (0, 96, 0, 0), (3, 12653, 0, 95), (0, 95, 0, 0), (3, 12652, 0, 94), (0, 94, 0, 0), (3, 12651, 0, 93), (0, 93, 0, 0), (3, 12650, 0, 92), (0, 92, 0, 0), (0, 91, 0, 0), (3, 1007, 0, 83), (3, 11627, 0, 85), (2, 86, 210, -1), (3, 11880, 0, 12), (1, 11888, 0, -1), (3, 11885, 0, 90), (0, 90, 0, 0), (3, 11884, 0, 89), (0, 89, 0, 0), (3, 11883, 0, 88), (0, 88, 0, 0), (3, 11882, 0, 87), (0, 87, 0, 0), (3, 11881, 0, 86), (0, 86, 0, 0), (0, 85, 0, 0), (3, 11628, 0, 73), (3, 11626, 0, 67), (3, 11625, 0, 12), (3, 11624, 0, 1), (3, 11629, 0, 84), (0, 84, 0, 0), (0, 83, 0, 0), (3, 1006, 0, 73), (3, 10344, 0, 1), (3, 10353, 0, 82), (0, 82, 0, 0), (3, 10352, 0, 81), (0, 81, 0, 0), (3, 10351, 0, 80), (0, 80, 0, 0), (3, 10350, 0, 79), (0, 79, 0, 0), (3, 10349, 0, 78), (0, 78, 0, 0), (3, 10348, 0, 77), (0, 77, 0, 0), (3, 10347, 0, 76), (0, 76, 0, 0), (3, 10346, 0, 75), (0, 75, 0, 0), (3, 10345, 0, 74), (0, 74, 0, 0), (0, 73, 0, 0), (3, 1005, 0, 67), (2, 68, 210, -1), (3, 9576, 0, 12), (1, 9584, 0, -1), (3, 9581, 0, 72), (0, 72, 0, 0), (3, 9580, 0, 71), (0, 71, 0, 0), (3, 9579, 0, 70), (0, 70, 0, 0), (3, 9578, 0, 69), (0, 69, 0, 0), (3, 9577, 0, 68), (0, 68, 0, 0), (0, 67, 0, 0), (3, 1003, 0, 64), (3, 9192, 0, 10), (3, 9194, 0, 66), (0, 66, 0, 0), (3, 9193, 0, 65), (0, 65, 0, 0), (0, 64, 0, 0), (3, 1002, 0, 63), (3, 9065, 0, 19), (3, 9064, 0, 10), (0, 63, 0, 0), (3, 1004, 0, 12), (3, 18, 9, 59), (1, 8557, 0, 12), (1, 8556, 0, 10), (3, 8554, 0, 62), (0, 62, 0, 0), (3, 8553, 0, 61), (0, 61, 0, 0), (3, 8552, 0, 60), (0, 60, 0, 0), (0, 59, 0, 0), (3, 18, 8, 55), (1, 8045, 0, 12), (1, 8044, 0, 10), (3, 8042, 0, 58), (0, 58, 0, 0), (3, 8041, 0, 57), (0, 57, 0, 0), (3, 8040, 0, 56), (0, 56, 0, 0), (0, 55, 0, 0), (3, 18, 7, 51), (1, 7533, 0, 12), (1, 7532, 0, 10), (3, 7530, 0, 54), (0, 54, 0, 0), (3, 7529, 0, 53), (0, 53, 0, 0), (3, 7528, 0, 52), (0, 52, 0, 0), (0, 51, 0, 0), (3, 18, 6, 47), (1, 7021, 0, 12), (1, 7020, 0, 10), (3, 7018, 0, 50), (0, 50, 0, 0), (3, 7017, 0, 49), (0, 49, 0, 0), (3, 7016, 0, 48), (0, 48, 0, 0), (0, 47, 0, 0), (3, 18, 5, 43), (1, 6509, 0, 12), (1, 6508, 0, 10), (3, 6506, 0, 46), (0, 46, 0, 0), (3, 6505, 0, 45), (0, 45, 0, 0), (3, 6504, 0, 44), (0, 44, 0, 0), (0, 43, 0, 0), (3, 18, 4, 39), (1, 5997, 0, 12), (1, 5996, 0, 10), (3, 5994, 0, 42), (0, 42, 0, 0), (3, 5993, 0, 41), (0, 41, 0, 0), (3, 5992, 0, 40), (0, 40, 0, 0), (0, 39, 0, 0), (3, 18, 3, 35), (1, 5485, 0, 12), (1, 5484, 0, 10), (3, 5482, 0, 38), (0, 38, 0, 0), (3, 5481, 0, 37), (0, 37, 0, 0), (3, 5480, 0, 36), (0, 36, 0, 0), (0, 35, 0, 0), (3, 18, 2, 31), (1, 4973, 0, 12), (1, 4972, 0, 10), (3, 4970, 0, 34), (0, 34, 0, 0), (3, 4969, 0, 33), (0, 33, 0, 0), (3, 4968, 0, 32), (0, 32, 0, 0), (0, 31, 0, 0), (3, 18, 1, 27), (1, 4461, 0, 12), (1, 4460, 0, 10), (3, 4458, 0, 30), (0, 30, 0, 0), (3, 4457, 0, 29), (0, 29, 0, 0), (3, 4456, 0, 28), (0, 28, 0, 0), (0, 27, 0, 0), (3, 18, 0, 23), (1, 3949, 0, 12), (1, 3948, 0, 10), (3, 3946, 0, 26), (0, 26, 0, 0), (3, 3945, 0, 25), (0, 25, 0, 0), (3, 3944, 0, 24), (0, 24, 0, 0), (0, 23, 0, 0), (3, 2542, 0, 19), (1, 3437, 0, 12), (1, 3436, 0, 10), (3, 3434, 0, 22), (0, 22, 0, 0), (3, 3433, 0, 21), (0, 21, 0, 0), (3, 3432, 0, 20), (0, 20, 0, 0), (0, 19, 0, 0), (3, 2541, 0, 18), (0, 18, 0, 0), (3, 2540, 0, 17), (0, 17, 0, 0), (3, 2539, 0, 16), (0, 16, 0, 0), (3, 2538, 0, 15), (0, 15, 0, 0), (3, 2537, 0, 14), (0, 14, 0, 0), (3, 2536, 0, 13), (0, 13, 0, 0), (0, 12, 0, 0), (3, 1001, 0, 10), (1, 2287, 0, -1), (3, 2280, 0, 11), (0, 11, 0, 0), (0, 10, 0, 0), (3, 1000, 0, 1), (1, 1140, 0, -1), (3, 1135, 0, 9), (0, 9, 0, 0), (3, 1134, 0, 8), (0, 8, 0, 0), (3, 1133, 0, 7), (0, 7, 0, 0), (3, 1132, 0, 6), (0, 6, 0, 0), (3, 1131, 0, 5), (0, 5, 0, 0), (3, 1130, 0, 4), (0, 4, 0, 0), (3, 1129, 0, 3), (0, 3, 0, 0), (3, 1128, 0, 2), (0, 2, 0, 0), (0, 1, 0, 0), (0, 0, 0, 0)]
def stM (μ : Mem) : Mem := clr (t_M_113 (clr (t_H_0 (clr μ 0)) 113)) 174
set_option maxRecDepth 20000 in
theorem stM_run (μ : Mem) : stM μ = runO OPS μ := rfl
def zI : List (Nat × Nat × Int × Int) → Nat → Bool
  | [], _ => false
  | o :: r, q => if o.1 = 0 ∧ cof q = o.2.1 then true else if (o.1 = 1 ∨ o.1 = 2) ∧ o.2.1 = q then false else zI r q
def vI : List (Nat × Nat × Int × Int) → Nat → Option Int
  | [], _ => none
  | o :: r, q => if o.1 = 0 ∧ cof q = o.2.1 then some 0 else if o.1 = 1 ∧ o.2.1 = q ∧ o.2.2.1 = 0 then some o.2.2.2 else if o.1 = 2 ∧ o.2.1 = q then none else vI r q
def fI : List (Nat × Nat × Int × Int) → Nat → Int → Option Int
  | [], _, _ => none
  | o :: r, q, n => if o.1 = 0 ∧ cof q = o.2.1 then none else if o.1 = 1 ∧ o.2.1 = q then none else if o.1 = 2 ∧ o.2.1 = q then (if o.2.2.1 = n then some o.2.2.2 else none) else fI r q n
def zL : List (Nat × Nat × Int × Int) → Nat → Bool
  | [], _ => false
  | o :: r, q => if o.1 = 0 ∧ cof q = o.2.1 then true else zL r q
def vR : List (Nat × Nat × Int × Int) → Nat → Int → Option Nat
  | [], _, _ => none
  | o :: r, q, j => if o.1 = 0 ∧ cof q = o.2.1 then none else if 3 ≤ o.1 ∧ o.2.1 = q ∧ o.2.2.1 = j then some o.2.2.2.toNat else vR r q j
theorem zI_ok {μ : Mem} {q : Nat} : ∀ {l : List (Nat × Nat × Int × Int)}, zI l q = true → ∀ j : Int, (runO l μ).1 q j = 0
  | [], h => by cases h
  | (k, c, i, v) :: r, h => by
    intro j
    unfold zI at h
    simp only [] at h
    match k with
    | 0 =>
      show (if cof q = c then 0 else (runO r μ).1 q j) = 0
      by_cases z : cof q = c
      · rw [if_pos z]
      · rw [if_neg z]
        rw [if_neg (fun y => z y.2), if_neg (fun y => by have := y.1; omega)] at h
        exact zI_ok h j
    | 1 =>
      show (if q = c ∧ j = i then Int32.ofInt v else (runO r μ).1 q j) = 0
      rw [if_neg (fun y => by have := y.1; omega)] at h
      by_cases z : c = q
      · rw [if_pos ⟨Or.inl rfl, z⟩] at h; cases h
      · rw [if_neg (fun y => z y.2)] at h
        rw [if_neg (fun y => z y.1.symm)]
        exact zI_ok h j
    | 2 =>
      show (if q = c ∧ 0 ≤ j ∧ j < (i.toNat : Int) then Int32.ofInt v else (runO r μ).1 q j) = 0
      rw [if_neg (fun y => by have := y.1; omega)] at h
      by_cases z : c = q
      · rw [if_pos ⟨Or.inr rfl, z⟩] at h; cases h
      · rw [if_neg (fun y => z y.2)] at h
        rw [if_neg (fun y => z y.1.symm)]
        exact zI_ok h j
    | k + 3 =>
      show (runO r μ).1 q j = 0
      rw [if_neg (fun y => by have := y.1; omega), if_neg (fun y => by have := y.1; omega)] at h
      exact zI_ok h j
theorem vI_ok {μ : Mem} {q : Nat} {x : Int} : ∀ {l : List (Nat × Nat × Int × Int)}, vI l q = some x → (runO l μ).1 q 0 = Int32.ofInt x
  | [], h => by cases h
  | (k, c, i, v) :: r, h => by
    unfold vI at h
    simp only [] at h
    match k with
    | 0 =>
      show (if cof q = c then 0 else (runO r μ).1 q 0) = Int32.ofInt x
      by_cases z : cof q = c
      · rw [if_pos z]
        rw [if_pos ⟨rfl, z⟩] at h
        rw [← Option.some.inj h]
        rfl
      · rw [if_neg z]
        rw [if_neg (fun y => z y.2), if_neg (fun y => by have := y.1; omega), if_neg (fun y => by have := y.1; omega)] at h
        exact vI_ok h
    | 1 =>
      show (if q = c ∧ 0 = i then Int32.ofInt v else (runO r μ).1 q 0) = Int32.ofInt x
      rw [if_neg (fun y => by have := y.1; omega)] at h
      by_cases z : c = q ∧ i = 0
      · rw [if_pos ⟨rfl, z⟩] at h
        rw [if_pos ⟨z.1.symm, z.2.symm⟩, Option.some.inj h]
      · rw [if_neg (fun y => z y.2), if_neg (fun y => by have := y.1; omega)] at h
        rw [if_neg (fun y => z ⟨y.1.symm, y.2.symm⟩)]
        exact vI_ok h
    | 2 =>
      show (if q = c ∧ 0 ≤ (0 : Int) ∧ 0 < (i.toNat : Int) then Int32.ofInt v else (runO r μ).1 q 0) = Int32.ofInt x
      rw [if_neg (fun y => by have := y.1; omega), if_neg (fun y => by have := y.1; omega)] at h
      by_cases z : c = q
      · rw [if_pos ⟨rfl, z⟩] at h; cases h
      · rw [if_neg (fun y => z y.2)] at h
        rw [if_neg (fun y => z y.1.symm)]
        exact vI_ok h
    | k + 3 =>
      show (runO r μ).1 q 0 = Int32.ofInt x
      rw [if_neg (fun y => by have := y.1; omega), if_neg (fun y => by have := y.1; omega), if_neg (fun y => by have := y.1; omega)] at h
      exact vI_ok h
theorem fI_ok {μ : Mem} {q : Nat} {n x : Int} (hn : 0 ≤ n) : ∀ {l : List (Nat × Nat × Int × Int)}, fI l q n = some x → ∀ j : Int, 0 ≤ j → j < n → (runO l μ).1 q j = Int32.ofInt x
  | [], h => by cases h
  | (k, c, i, v) :: r, h => by
    intro j j0 j1
    unfold fI at h
    simp only [] at h
    match k with
    | 0 =>
      show (if cof q = c then 0 else (runO r μ).1 q j) = Int32.ofInt x
      by_cases z : cof q = c
      · rw [if_pos ⟨rfl, z⟩] at h; cases h
      · rw [if_neg z]
        rw [if_neg (fun y => z y.2), if_neg (fun y => by have := y.1; omega), if_neg (fun y => by have := y.1; omega)] at h
        exact fI_ok hn h j j0 j1
    | 1 =>
      show (if q = c ∧ j = i then Int32.ofInt v else (runO r μ).1 q j) = Int32.ofInt x
      rw [if_neg (fun y => by have := y.1; omega)] at h
      by_cases z : c = q
      · rw [if_pos ⟨rfl, z⟩] at h; cases h
      · rw [if_neg (fun y => z y.2), if_neg (fun y => by have := y.1; omega)] at h
        rw [if_neg (fun y => z y.1.symm)]
        exact fI_ok hn h j j0 j1
    | 2 =>
      show (if q = c ∧ 0 ≤ j ∧ j < (i.toNat : Int) then Int32.ofInt v else (runO r μ).1 q j) = Int32.ofInt x
      rw [if_neg (fun y => by have := y.1; omega), if_neg (fun y => by have := y.1; omega)] at h
      by_cases z : c = q
      · rw [if_pos ⟨rfl, z⟩] at h
        by_cases y : i = n
        · rw [if_pos y] at h
          rw [if_pos ⟨z.symm, j0, by omega⟩, Option.some.inj h]
        · rw [if_neg y] at h; cases h
      · rw [if_neg (fun y => z y.2)] at h
        rw [if_neg (fun y => z y.1.symm)]
        exact fI_ok hn h j j0 j1
    | k + 3 =>
      show (runO r μ).1 q j = Int32.ofInt x
      rw [if_neg (fun y => by have := y.1; omega), if_neg (fun y => by have := y.1; omega), if_neg (fun y => by have := y.1; omega)] at h
      exact fI_ok hn h j j0 j1
theorem zL_ok {μ : Mem} {q : Nat} : ∀ {l : List (Nat × Nat × Int × Int)}, zL l q = true → ∀ j : Int, (runO l μ).2.1 q j = 0
  | [], h => by cases h
  | (k, c, i, v) :: r, h => by
    intro j
    unfold zL at h
    simp only [] at h
    match k with
    | 0 =>
      show (if cof q = c then 0 else (runO r μ).2.1 q j) = 0
      by_cases z : cof q = c
      · rw [if_pos z]
      · rw [if_neg z]
        rw [if_neg (fun y => z y.2)] at h
        exact zL_ok h j
    | 1 =>
      show (runO r μ).2.1 q j = 0
      rw [if_neg (fun y => by have := y.1; omega)] at h
      exact zL_ok h j
    | 2 =>
      show (runO r μ).2.1 q j = 0
      rw [if_neg (fun y => by have := y.1; omega)] at h
      exact zL_ok h j
    | k + 3 =>
      show (runO r μ).2.1 q j = 0
      rw [if_neg (fun y => by have := y.1; omega)] at h
      exact zL_ok h j
theorem vR_ok {μ : Mem} {q : Nat} {j : Int} {x : Nat} : ∀ {l : List (Nat × Nat × Int × Int)}, vR l q j = some x → (runO l μ).2.2 q j = some x
  | [], h => by cases h
  | (k, c, i, v) :: r, h => by
    unfold vR at h
    simp only [] at h
    match k with
    | 0 =>
      show (if cof q = c then none else (runO r μ).2.2 q j) = some x
      by_cases z : cof q = c
      · rw [if_pos ⟨rfl, z⟩] at h; cases h
      · rw [if_neg z]
        rw [if_neg (fun y => z y.2), if_neg (fun y => by have := y.1; omega)] at h
        exact vR_ok h
    | 1 =>
      show (runO r μ).2.2 q j = some x
      rw [if_neg (fun y => by have := y.1; omega), if_neg (fun y => by have := y.1; omega)] at h
      exact vR_ok h
    | 2 =>
      show (runO r μ).2.2 q j = some x
      rw [if_neg (fun y => by have := y.1; omega), if_neg (fun y => by have := y.1; omega)] at h
      exact vR_ok h
    | k + 3 =>
      show (if q = c ∧ j = i then some v.toNat else (runO r μ).2.2 q j) = some x
      rw [if_neg (fun y => by have := y.1; omega)] at h
      by_cases z : c = q ∧ i = j
      · rw [if_pos ⟨by omega, z⟩] at h
        rw [if_pos ⟨z.1.symm, z.2.symm⟩, h]
      · rw [if_neg (fun y => z y.2)] at h
        rw [if_neg (fun y => z ⟨y.1.symm, y.2.symm⟩)]
        exact vR_ok h
def stZ : List Nat := [15466, 15468, 15498, 15465, 15472, 15474, 15479, 15512, 15534, 15536, 125, 129, 166, 1136, 1137, 1138, 1139, 2281, 2543, 2544, 2545, 3438, 21, 22, 69, 11630, 11632, 102, 97]
def stV : List (Nat × Int) := [(15471, -1), (15480, -1), (15519, -1), (1140, -1), (2287, -1), (9584, -1), (3436, 10), (3437, 12)]
theorem stZ_d : (stZ.all fun q => zI OPS q) = true := by decide +kernel
theorem stV_d : (stV.all fun x => decide (vI OPS x.1 = some x.2)) = true := by decide +kernel
theorem stF_d : fI OPS 68 210 = some (-1) := by decide +kernel
theorem stL_d : zL OPS 9582 = true ∧ zL OPS 9583 = true := by decide +kernel
theorem stR_d : (SRT.all fun x => decide (vR OPS x.1 0 = some x.2)) = true := by decide +kernel
theorem stR18_d : ∀ j : Fin 10, vR OPS 18 (j.1 : Int) = some (23 + 4 * j.1) := by decide +kernel
