/-! WHAT LASTS: pure words over the model's cells, and the invariant between class and model -/
abbrev Sg : Type := Nat → Int → Int
abbrev Ln : Type := Int × Int × Int
def Rg (a : Int) : Prop := -2147483648 ≤ a ∧ a < 2147483648
-- tellings
def tlN (σ : Sg) (kd of mt kn wo : Int) : Nat → Int
  | 0 => wo
  | n + 1 => if σ 138 (n : Int) = kd ∧ σ 139 (n : Int) = of ∧ σ 140 (n : Int) = mt ∧ σ 142 (n : Int) ≤ kn then σ 141 (n : Int) else tlN σ kd of mt kn wo n
def tl (σ : Sg) (kd of mt kn wo : Int) : Int := tlN σ kd of mt kn wo (σ 15498 0).toNat
def mdN (σ : Sg) (a mt kn : Int) : Nat → Int
  | 0 => 0
  | n + 1 => mdN σ a mt kn n + (if σ 115 (n : Int) = a then (if tl σ 2 (n : Int) mt kn 2 = 1 then σ 116 (n : Int) else if tl σ 2 (n : Int) mt kn 2 = 0 then -σ 116 (n : Int) else 0) else 0)
def sg3 (x : Int) : Int := if 0 < x then 1 else if x < 0 then 0 else 2
def md (σ : Sg) (a mt kn : Int) : Int := sg3 (mdN σ a mt kn (σ 15468 0).toNat)
def vo (σ : Sg) (a mt kn : Int) : Int := if tl σ 3 a mt kn 3 = 3 then md σ a mt kn else tl σ 3 a mt kn 3
-- rules in a row of signs, each behind its two sides
def bnd (v : Int) : Int := if 1000000000 < v then 1000000000 else if v < -1000000000 then -1000000000 else v
def jn (s a b : Int) : Int :=
  if s = -1 then bnd (a + b) else if s = -2 then bnd (a - b) else if s = -3 then bnd (a * b) else if s = -10 then (if b = 0 then 0 else a.tdiv b)
  else if s = -4 then (if a < b then 1 else 0) else if s = -5 then (if b < a then 1 else 0) else if s = -6 then (if a = b then 1 else 0)
  else if s = -7 then a * b else (if 0 < a + b then 1 else 0)
def stp (fx : Int → Int) (s : Int) (st : List Int) : List Int :=
  if 0 ≤ s then (if 10000 ≤ s then fx (s - 10000) else s) :: st
  else if s = -9 then (1 - st.headD 0) :: st.tail
  else jn s (st.tail.headD 0) (st.headD 0) :: st.tail.tail
def b01 (a : Int) : Prop := a = 0 ∨ a = 1
def gd (s : Int) (st : List Int) : Prop :=
  if 0 ≤ s then s < 10013 else if s = -9 then (∃ (a : Int) (r : List Int), st = a :: r ∧ b01 a)
  else -10 ≤ s ∧ ∃ (b a : Int) (r : List Int), st = b :: a :: r ∧ (s = -7 ∨ s = -8 → b01 a ∧ b01 b)
def Safe (fx : Int → Int) : List Int → List Int → Prop
  | [], _ => True
  | s :: c, st => gd s st ∧ (stp fx s st).length ≤ 32 ∧ Safe fx c (stp fx s st)
def Bd (v : Int) : Prop := -1000000000 ≤ v ∧ v ≤ 1000000000
def runc (fx : Int → Int) (code st : List Int) : List Int := code.foldl (fun st s => stp fx s st) st
def Wfc (cond : Bool) (code : List Int) : Prop := ∀ fx : Int → Int, (∀ i : Int, Bd (fx i)) → Safe fx code [] ∧ ∃ v : Int, runc fx code [] = [v] ∧ Bd v ∧ (cond = true → b01 v)
def evl (fx : Int → Int) (code : List Int) : Int := (runc fx code []).headD 0
def mcode (σ : Sg) (c : Int) : List Int := (List.range (σ 149 c - σ 148 c).toNat).map fun k : Nat => σ 143 (320 * (c / 15) + σ 148 c + (k : Int))
def lcN (σ : Sg) (i kd : Int) : Nat → Int
  | 0 => -1
  | n + 1 => if σ 146 (15 * i + (n : Int)) = kd then 15 * i + (n : Int) else lcN σ i kd n
def lc (σ : Sg) (i kd : Int) : Int := if i = -1 then -1 else lcN σ i kd (σ 145 i).toNat
def rateI (σ : Sg) (i : Int) : Int := if lc σ i 4 = -1 then 10 else σ 147 (lc σ i 4)
def lenI (σ : Sg) (i : Int) : Int := if lc σ i 5 = -1 then 12 else σ 147 (lc σ i 5)
def kpa (p : Int) : Int := if p = 4 then 7 else p
def bpa (p : Int) : Int := if p = 3 then 6 else if p = 4 then 10 else 0
def npa (p : Int) : Int := if p = 3 then 4 else if p = 4 then 3 else 6
/-- a step of the class and a sign of the model -/
def CR (p x s : Int) : Prop :=
  (0 ≤ s ∧ s ≤ 9999 ∧ x = s * 16) ∨ (10000 + bpa p ≤ s ∧ s < 10000 + bpa p + npa p ∧ x = (s - 10000 - bpa p) * 16 + 1) ∨
  (x = 2 ∧ s = -1) ∨ (x = 3 ∧ s = -2) ∨ (x = 4 ∧ s = -3) ∨ (x = 5 ∧ s = -10) ∨ (x = 6 ∧ s = -4) ∨ (x = 7 ∧ s = -5) ∨ (x = 8 ∧ s = -6) ∨ (x = 9 ∧ s = -7) ∨ (x = 10 ∧ s = -8) ∨ (x = 11 ∧ s = -9)
def PartOK (κ σ : Sg) (r : Nat) (p c : Int) : Prop :=
  (c = -1 ∧ κ (r + 2) p = 0 ∧ κ (r + 3) p = 0) ∨
  (0 ≤ c ∧ c < 150 ∧ 0 ≤ κ (r + 2) p ∧ κ (r + 2) p < κ (r + 3) p ∧ κ (r + 3) p ≤ 300 ∧ 0 ≤ σ 148 c ∧ σ 149 c ≤ 320 ∧ σ 149 c - σ 148 c = κ (r + 3) p - κ (r + 2) p ∧
    (∀ k : Int, 0 ≤ k → k < κ (r + 3) p - κ (r + 2) p → CR p (κ (r + 1) (κ (r + 2) p + k)) (σ 143 (320 * (c / 15) + σ 148 c + k))) ∧ Wfc (!(p == 3)) (mcode σ c))
def RuOK (κ σ : Sg) (r : Nat) (i : Int) : Prop :=
  κ (gid r 4) 0 = rateI σ i ∧ 1 ≤ rateI σ i ∧ rateI σ i ≤ 999 ∧ κ (gid r 5) 0 = lenI σ i ∧ 1 ≤ lenI σ i ∧ lenI σ i ≤ 12 ∧ (κ (gid r 6) 0 = 0 ↔ lc σ i 6 = -1) ∧
  -1 ≤ lc σ i 4 ∧ lc σ i 4 < 150 ∧ -1 ≤ lc σ i 5 ∧ lc σ i 5 < 150 ∧ (0 ≤ i → 0 ≤ σ 145 i ∧ σ 145 i ≤ 15) ∧ ∀ p : Int, 0 ≤ p → p < 5 → PartOK κ σ r p (lc σ i (kpa p))
def rIx (i : Int) : Nat := if i = -1 then 19 else 23 + 4 * i.toNat
-- the floor
def lv (fn fm fb : Int → Int) (n : Nat) : List Ln := (List.range n).map fun i : Nat => (fn (i : Int), fm (i : Int), fb (i : Int))
def rw4 (f : Sg) (cs cn cm cb : Nat) (m : Int) : List Ln := lv (fun i => f cn (12 * m + i)) (fun i => f cm (12 * m + i)) (fun i => f cb (12 * m + i)) (f cs m).toNat
def WfL (l : List Ln) : Prop := l.length ≤ 12 ∧ (∀ x ∈ l, 1 ≤ x.1.natAbs ∧ x.1.natAbs ≤ 60 ∧ b01 x.2.1 ∧ -1 ≤ x.2.2 ∧ x.2.2 < 40) ∧ (l.map fun x : Ln => x.1.natAbs).Nodup
def btl (x : Int64) (n : Nat) : Bool := x.toBitVec.getLsbD n
def hw3 (σ : Sg) (cm ca co : Nat) (x : Int) : Int :=
  if 0 ≤ x ∧ x < σ 15472 0 then σ cm x else if 100 ≤ x ∧ x < 100 + σ 15474 0 then σ ca (x - 100) else if 200 ≤ x ∧ x < 200 + σ 15479 0 then σ co (x - 200) else -1
def hw (σ : Sg) (x : Int) : Int := hw3 σ 122 123 124 x
/-- a floor of the class (cells from cs on, bits, which is in force) and one of the model -/
def FlOK (κ σ : Sg) (c0 : Nat) (sd dn : Int64) (fc : Int) (cm ca co cl cn cu cb cs : Nat) (ff : Int) : Prop :=
  fc = ff ∧ -1 ≤ ff ∧ ff < σ 15479 0 ∧
  (∀ x : Int, 0 ≤ x → x < 210 → κ c0 x = hw3 σ cm ca co x) ∧
  (∀ x : Int, -1 ≤ hw3 σ cm ca co x ∧ hw3 σ cm ca co x ≤ 4) ∧
  (∀ m : Int, 0 ≤ m → m < σ 15472 0 → 0 ≤ σ cm m) ∧ (∀ m : Int, 0 ≤ m → m < σ 15474 0 → 0 ≤ σ ca m) ∧ (∀ m : Int, 0 ≤ m → m < σ 15479 0 → 0 ≤ σ co m) ∧
  (∀ m : Int, 0 ≤ m → m < 24 → 0 ≤ κ (c0 + 1) m ∧ κ (c0 + 1) m = σ cl m ∧ rw4 κ (c0 + 1) (c0 + 2) (c0 + 3) (c0 + 4) m = rw4 σ cl cn cu cb m ∧ WfL (rw4 σ cl cn cu cb m)) ∧
  (∀ m : Int, σ 15472 0 ≤ m → m < 24 → σ cl m = 0) ∧
  (∀ n : Nat, 1 ≤ n → n ≤ 60 → -1 ≤ σ cs (n : Int) ∧ σ cs (n : Int) ≤ 1 ∧ (btl sd n = true ↔ σ cs (n : Int) = 1) ∧ (btl dn n = true ↔ σ cs (n : Int) = -1)) ∧
  (∀ n : Nat, n < 1 ∨ 60 < n → btl sd n = false ∧ btl dn n = false)
-- the invariant, in groups
def WfR (σ : Sg) : Prop :=
  (0 ≤ σ 15466 0 ∧ σ 15466 0 ≤ 12) ∧ (0 ≤ σ 15468 0 ∧ σ 15468 0 ≤ 48) ∧ (0 ≤ σ 15498 0 ∧ σ 15498 0 ≤ 600) ∧
  (0 ≤ σ 15465 0 ∧ σ 15465 0 ≤ 100000) ∧ (-1 ≤ σ 15471 0 ∧ σ 15471 0 ≤ 100000) ∧
  (∀ a : Int, 0 ≤ a → a < σ 15466 0 → 0 ≤ σ 114 a ∧ σ 114 a ≤ 5) ∧
  (∀ b : Int, 0 ≤ b → b < σ 15468 0 → 0 ≤ σ 115 b ∧ σ 115 b < σ 15466 0 ∧ 1 ≤ σ 116 b ∧ σ 116 b ≤ 999)
def WfT (σ : Sg) : Prop :=
  (∀ k : Int, 0 ≤ k → k < σ 15498 0 → 0 ≤ σ 142 k ∧ σ 142 k ≤ σ 15465 0 ∧ 0 ≤ σ 141 k ∧ 0 ≤ σ 139 k ∧
    ((σ 138 k = 0 ∧ σ 140 k = 0 ∧ σ 139 k < σ 15466 0 ∧ σ 141 k ≤ 9999) ∨ (σ 138 k = 1 ∧ σ 140 k = 0 ∧ σ 139 k < σ 15466 0 ∧ σ 141 k ≤ 99999) ∨
     (σ 138 k = 2 ∧ σ 139 k < σ 15468 0 ∧ σ 141 k ≤ 2) ∨ (σ 138 k = 3 ∧ σ 139 k < σ 15466 0 ∧ σ 141 k ≤ 3))) ∧
  (∀ i j : Int, 0 ≤ i → i ≤ j → j < σ 15498 0 → σ 142 i ≤ σ 142 j)
def RelR (κ σ : Sg) : Prop :=
  κ 1136 0 = σ 15466 0 ∧ κ 1137 0 = σ 15468 0 ∧ κ 1138 0 = σ 15498 0 ∧ κ 1139 0 = σ 15465 0 ∧ κ 1140 0 = σ 15471 0 ∧
  (∀ a : Int, 0 ≤ a → a < σ 15466 0 → κ 2 a = σ 114 a) ∧
  (∀ b : Int, 0 ≤ b → b < σ 15468 0 → κ 3 b = σ 115 b ∧ κ 4 b = σ 116 b) ∧
  (∀ k : Int, 0 ≤ k → k < σ 15498 0 → κ 5 k = σ 138 k ∧ κ 6 k = σ 139 k ∧ κ 9 k = σ 141 k ∧ κ 8 k = σ 142 k ∧ (2 ≤ σ 138 k → κ 7 k = σ 140 k))
def ub (x : Int) : Int := if x < 0 then x + 256 else x
def RelT (κ σ : Sg) : Prop :=
  κ 2281 0 = σ 15512 0 ∧ 0 ≤ σ 15512 0 ∧ σ 15512 0 ≤ 300 ∧ κ 2287 0 = σ 15519 0 ∧
  (∀ j : Int, 0 ≤ j → j < σ 15512 0 → κ 11 j = ub (σ 150 j) ∧ -128 ≤ σ 150 j ∧ σ 150 j < 128)
def RelP (κ σ : Sg) : Prop :=
  κ 2543 0 = σ 15472 0 ∧ 0 ≤ σ 15472 0 ∧ σ 15472 0 ≤ 24 ∧ κ 2544 0 = σ 15474 0 ∧ 0 ≤ σ 15474 0 ∧ σ 15474 0 ≤ 40 ∧ κ 2545 0 = σ 15479 0 ∧ 0 ≤ σ 15479 0 ∧ σ 15479 0 ≤ 10 ∧
  (∀ m : Int, 0 ≤ m → m < σ 15472 0 → κ 13 m = σ 117 m ∧ 0 ≤ σ 117 m ∧ σ 117 m < σ 15466 0) ∧
  (∀ a : Int, 0 ≤ a → a < σ 15474 0 → κ 14 a = σ 118 a ∧ 0 ≤ σ 118 a ∧ σ 118 a < σ 15472 0 ∧ κ 15 a = σ 119 a ∧ 1 ≤ σ 119 a ∧ σ 119 a ≤ 6 ∧
    ∀ i : Int, 0 ≤ i → i < σ 119 a → κ 16 (6 * a + i) = σ 120 (6 * a + i) ∧ 0 ≤ σ 120 (6 * a + i) ∧ σ 120 (6 * a + i) ≤ 2 ∧ κ 17 (6 * a + i) = σ 121 (6 * a + i) ∧ 1 ≤ (σ 121 (6 * a + i)).natAbs ∧ (σ 121 (6 * a + i)).natAbs ≤ 60) ∧
  (∀ i : Int, -1 ≤ i → i < σ 15479 0 → RuOK κ σ (rIx i) i)
def RelF (κ : Sg) (lo : Int64 × Int64 × Int64 × Int64) (σ : Sg) : Prop :=
  FlOK κ σ 68 lo.1 lo.2.1 (κ 9584 0) 122 123 124 125 126 127 128 129 (σ 15480 0)
def RelV (κ : Sg) (lo : Int64 × Int64 × Int64 × Int64) (σ : Sg) : Prop :=
  κ 11632 0 = σ 15534 0 ∧ 0 ≤ σ 15534 0 ∧ σ 15534 0 ≤ 100 ∧ (∀ j : Int, 0 ≤ j → j < 7 * σ 15534 0 → κ 84 j = σ 158 j) ∧
  (κ 11630 0 = 0 ↔ σ 15536 0 = 0) ∧
  (¬ σ 15536 0 = 0 → 1 ≤ σ 15534 0 ∧
    FlOK κ σ 86 lo.2.2.1 lo.2.2.2 (κ 11888 0) 130 131 132 133 134 135 136 137 (σ 15489 0) ∧
    hw3 σ 130 131 132 (σ 158 (7 * (σ 15534 0 - 1))) = 0 ∧ 0 ≤ σ 158 (7 * (σ 15534 0 - 1) + 1) ∧ σ 158 (7 * (σ 15534 0 - 1) + 1) ≤ σ 15465 0 ∧
    0 ≤ κ 11631 0 ∧ κ 11631 0 < 4096 ∧ (∀ a : Nat, a < 12 → ((κ 11631 0).toNat.testBit a = true ↔ ¬ σ 153 (a : Int) = 0)) ∧ (∀ a : Int, σ 15466 0 ≤ a → a < 12 → σ 153 a = 0))
def RelW (κ σ : Sg) : Prop := (∀ j : Int, 0 ≤ j → j < 288 → κ 102 j = σ 166 j ∧ -9 ≤ σ 166 j ∧ σ 166 j ≤ 9) ∧ κ 97 0 = 0
def InvP (κ : Sg) (lo : Int64 × Int64 × Int64 × Int64) (σ : Sg) : Prop := WfR σ ∧ WfT σ ∧ RelR κ σ ∧ RelT κ σ ∧ RelP κ σ ∧ RelF κ lo σ ∧ RelV κ lo σ ∧ RelW κ σ
def Inv (μ : Mem) : Prop := StatR μ.2.2 ∧ InvP (CS μ) (CL μ) (MS μ)
theorem Qt.inv {μ ν : Mem} (q : Qt μ ν) (h : Inv μ) : Inv ν := by
  unfold Inv
  rw [q.1, q.2.1, q.2.2.1, q.2.2.2]
  exact h
/-- a call of the class and the same call of the model: like answers, and the invariant stays -/
def Both (α : Type) (F G : Mem → (α → Mem → Prop) → Prop) : Prop := ∀ μ : Mem, Inv μ → F μ (fun r ν => G ν (fun r' ξ => r = r' ∧ Inv ξ))
