/-! WORTHS ALONG AN ORDER: pure, and the class's side -/
noncomputable def wal (σ : Sg) (a : Int) : List Int → (Int → Int) → List Int → Int → Int
  | [], _, _, s => s
  | m :: r, st, P, s => pick (∃ p ∈ P, ctr (rowOf σ p) (rowOf σ m)) (wal σ a r st P s) (pick (pcO σ st m (σ 15465 0) 0 (-1) false = true) (wal σ a r (stP (rowOf σ m) st) (P ++ [m]) (s + woO σ a m)) (wal σ a r st P s))
def remO (C : List Int) (od : List Nat) : Nat → Nat → List Int
  | 0, _ => []
  | f + 1, i => gI C (od.getD i 0) :: remO C od f (i + 1)
theorem wal_rng {σ : Sg} (hW : WoB σ) {a : Int} (ha : 0 ≤ a ∧ a < 12) : ∀ (ms : List Int) (st : Int → Int) (P : List Int) (s : Int), (∀ m ∈ ms, 0 ≤ m ∧ m < 24) → s - 9 * (ms.length : Int) ≤ wal σ a ms st P s ∧ wal σ a ms st P s ≤ s + 9 * (ms.length : Int)
  | [], _, _, s, _ => by show s - 9 * ((0 : Nat) : Int) ≤ s ∧ s ≤ s + 9 * ((0 : Nat) : Int); omega
  | m :: r, st, P, s, h => by
    have hm := h m (List.mem_cons_self ..)
    have hr : ∀ x ∈ r, 0 ≤ x ∧ x < 24 := fun x hx => h x (List.mem_cons_of_mem _ hx)
    have i1 := wal_rng hW ha r st P s hr
    have i2 := wal_rng hW ha r (stP (rowOf σ m) st) (P ++ [m]) (s + woO σ a m) hr
    have wb : -9 ≤ woO σ a m ∧ woO σ a m ≤ 9 := hW (a * 24 + m) (by omega) (by omega)
    have el : ((m :: r).length : Int) = (r.length : Int) + 1 := by simp
    unfold wal
    by_cases c1 : ∃ p ∈ P, ctr (rowOf σ p) (rowOf σ m)
    · rw [pick_t c1]; omega
    · rw [pick_f c1]
      by_cases c2 : pcO σ st m (σ 15465 0) 0 (-1) false = true
      · rw [pick_t c2]; omega
      · rw [pick_f c2]; omega
theorem nI32 {v : Nat} (h : v < 2147483648) : (Int32.ofInt (v : Int)).toBitVec.toNat = v := by
  have lt := (Int32.ofInt (v : Int)).toBitVec.isLt
  have h1 : (Int32.ofInt (v : Int)).toInt = (v : Int) := w_id (by omega) (by omega)
  have h2 : (Int32.ofInt (v : Int)).toInt = (Int32.ofInt (v : Int)).toBitVec.toInt := rfl
  rw [h1, BitVec.toInt_eq_toNat_cond] at h2
  split at h2 <;> omega
theorem ior_n {a b : Nat} (ha : a < 2147483648) (hb : b < 2147483648) : w_ior (a : Int) (b : Int) = ((a ||| b : Nat) : Int) := by
  have lt : a ||| b < 2 ^ 31 := Nat.or_lt_two_pow ha hb
  show BitVec.toInt ((Int32.ofInt (a : Int)).toBitVec ||| (Int32.ofInt (b : Int)).toBitVec) = _
  rw [BitVec.toInt_eq_toNat_of_lt (by rw [BitVec.toNat_or, nI32 ha, nI32 hb]; omega), BitVec.toNat_or, nI32 ha, nI32 hb]
theorem ishl_f : ∀ i : Fin 31, w_ishl 1 (i.1 : Int) = ((2 ^ i.1 : Nat) : Int) := by decide +kernel
theorem ior_bit2 {v i : Nat} {n : Nat} (hv : v < 2 ^ n) (hi : i < n) (hn : n ≤ 31) : w_ior (v : Int) (w_ishl 1 (i : Int)) = ((v ||| 2 ^ i : Nat) : Int) ∧ v ||| 2 ^ i < 2 ^ n := by
  have h1 : (2 : Nat) ^ n ≤ 2 ^ 31 := Nat.pow_le_pow_right (by decide) hn
  have h2 : (2 : Nat) ^ i < 2 ^ n := Nat.pow_lt_pow_right (by decide) hi
  have e := ishl_f ⟨i, by omega⟩
  simp only at e
  rw [e]
  exact ⟨ior_n (by omega) (by omega), Nat.or_lt_two_pow hv h2⟩
def psG (σ : Sg) (m G : Int) : Bool := psO σ m (σ 15465 0) (cYes σ m (σ 15465 0) 0 (-1) false) (cNo σ m (σ 15465 0) 0 (-1) false) (cAll σ (σ 15465 0) 0 false) (cSec σ m (σ 15465 0) 0 (-1) false) G
theorem psG_e (σ : Sg) (st : Int → Int) {m : Int} (hm : m < 100) : pcO σ st m (σ 15465 0) 0 (-1) false = psG σ m (agL st (rowOf σ m)) := by
  unfold pcO psG agO
  rw [if_neg (by omega), if_pos hm]
def CbC (σ : Sg) (C : List Int) (m : Int) (x : Int) : Prop := ∃ v : Nat, x = (v : Int) ∧ v < 64 ∧ ∀ j : Nat, j < C.length → (v.testBit j = true ↔ ctr (rowOf σ m) (rowOf σ (gI C j)))
def PrC (σ : Sg) (ν : Mem) (C : List Int) (k : Nat) : Prop := ∀ i : Nat, i < k → BitsL (rowOf σ (gI C i)) 1 (rL ν 107 (i : Int)) ∧ BitsL (rowOf σ (gI C i)) (-1) (rL ν 108 (i : Int)) ∧
  rI ν 104 (i : Int) = b2i (psG σ (gI C i) 0) ∧ rI ν 105 (i : Int) = b2i (psG σ (gI C i) 1) ∧ CbC σ C (gI C i) (rI ν 106 (i : Int))
def MoC (ν : Mem) (C : List Int) : Prop := rI ν 13934 0 = (C.length : Int) ∧ ∀ i : Nat, i < C.length → rI ν 103 (i : Int) = gI C i
def OdC (ν : Mem) (c : Nat) (od : List Nat) : Prop := ∀ i : Nat, i < od.length → rI ν c (i : Int) = ((od.getD i 0 : Nat) : Int)
def OdW (n : Nat) (od : List Nat) : Prop := od.length = n ∧ ∀ x ∈ od, x < n
theorem OdW.at {n : Nat} {od : List Nat} (h : OdW n od) {i : Nat} (hi : i < n) : od.getD i 0 < n := by
  rw [List.getD_eq_getElem?_getD, List.getElem?_eq_getElem (by rw [h.1]; exact hi)]
  exact h.2 _ (List.getElem_mem _)
def StB (st : Int → Int) (sd dn : Int64) : Prop := ∀ n : Nat, 1 ≤ n → n ≤ 60 → -1 ≤ st (n : Int) ∧ st (n : Int) ≤ 1 ∧ (btl sd n = true ↔ st (n : Int) = 1) ∧ (btl dn n = true ↔ st (n : Int) = -1)
theorem StB.s {st : Int → Int} {sd dn x y : Int64} (h : StB st sd dn) {l : List Ln} (hw : WfL l) (hx : BitsL l 1 x) (hy : BitsL l (-1) y) : StB (stP l st) ((sd &&& (y ^^^ (-1))) ||| x) ((dn &&& (x ^^^ (-1))) ||| y) := fun n n1 n2 => by
  obtain ⟨a, b, c, d⟩ := h n n1 n2
  have r := stP_rng (l := l) (st := st) (n := (n : Int)) ⟨a, b⟩
  have s := stand_bits hw n1 n2 ⟨c, d⟩ hx hy
  exact ⟨r.1, r.2, s.1, s.2⟩
theorem c_along_l {σ : Sg} {ν : Mem} {a : Int} (ha : 0 ≤ a ∧ a < 12) (hWb : WoB σ) (hWc : WoC σ ν) {C : List Int} (h6 : C.length ≤ 6) (hC : ∀ x ∈ C, 0 ≤ x ∧ x < 24) (hrow : ∀ x ∈ C, WfL (rowOf σ x)) (hM : MoC ν C) (hP : PrC σ ν C C.length) {od : List Nat} (hO : OdW C.length od) (hOc : OdC ν 109 od) {X : Int → Prop} :
    ∀ (f i : Nat) (sd dn : Int64) (v : Nat) (s : Int) (st : Int → Int) (P : List Int), i + f = C.length → StB st sd dn → v < 64 → (∀ j : Nat, j < C.length → (v.testBit j = true ↔ ∃ p ∈ P, ctr (rowOf σ p) (rowOf σ (gI C j)))) → (-(9 * (i : Int)) ≤ s ∧ s ≤ 9 * (i : Int)) → X (wal σ a (remO C od f i) st P s) → l_Worths_along_26 a ν X (f + 1) sd dn (v : Int) s (i : Int)
  | 0, i, sd, dn, v, s, st, P, e, hs, hv, hb, hr, h => by
    unfold l_Worths_along_26
    rw [hM.1]
    (try simp (disch := omega) only [w_id])
    rw [if_neg (by omega)]
    exact h
  | f + 1, i, sd, dn, v, s, st, P, e, hs, hv, hb, hr, h => by
    have hi : i < C.length := by omega
    have ho : od.getD i 0 < C.length := hO.at hi
    have eo : rI ν 109 (i : Int) = ((od.getD i 0 : Nat) : Int) := hOc i (by rw [hO.1]; exact hi)
    have er : remO C od (f + 1) i = gI C (od.getD i 0) :: remO C od f (i + 1) := rfl
    rw [er] at h
    generalize od.getD i 0 = o at *
    obtain ⟨p1, p2, p3, p4, vc, p5, p6, p7⟩ := hP o ho
    have hm := hM.2 o ho
    have mem := gI_mem ho
    generalize hg : gI C o = m at *
    have mr' := hC m mem
    have wl := hrow m mem
    have wb : -9 ≤ woO σ a m ∧ woO σ a m ≤ 9 := hWb (a * 24 + m) (by omega) (by omega)
    have hbo := hb o ho
    rw [hg] at hbo
    unfold wal at h
    unfold l_Worths_along_26
    rw [hM.1]
    (try simp (disch := omega) only [w_id])
    rw [if_pos (by omega)]
    intro v9 e9
    rw [at_in (by omega) (by omega) (by decide), eo] at e9
    subst e9
    rw [atL_in (by omega) (by omega) (by decide), atL_in (by omega) (by omega) (by decide), at_in (a := 105) (by omega) (by omega) (by decide), at_in (a := 104) (by omega) (by omega) (by decide), at_in (a := 103) (by omega) (by omega) (by decide), at_in (a := 106) (by omega) (by omega) (by decide), p3, p4, p5, hm]
    intro x ex y ey
    rw [← ex] at p1
    rw [← ey] at p2
    have ag := ag_bits wl (st := st) hs p1 p2
    intro g eg
    have eg' : b2i g = agL st (rowOf σ m) := by
      rw [← ag, eg]
      by_cases z : ((x &&& dn) ||| (y &&& sd)) = 0
      · rw [if_pos z, if_pos z]; rfl
      · rw [if_neg z, if_neg z]; rfl
    clear eg ag
    rw [psG_e σ st (by omega), ← eg'] at h
    rw [bit_e (v := (v : Int)) (i := (o : Int)) (by omega) (by omega), show ((v : Int).toNat) = v by omega, show ((o : Int).toNat) = o by omega]
    have skip : X (wal σ a (remO C od f (i + 1)) st P s) → l_Worths_along_26 a ν X (f + 1) sd dn (v : Int) s ((i : Int) + 1) := fun z => by
      have g := c_along_l ha hWb hWc h6 hC hrow hM hP hO hOc (X := X) f (i + 1) sd dn v s st P (by omega) hs hv hb (by omega) z
      exact g
    have go : ∀ (v7 : Int) (sd' dn' : Int64) (v6 : Int), X (wal σ a (remO C od f (i + 1)) (stP (rowOf σ m) st) (P ++ [m]) (s + woO σ a m)) → v7 = s + v_Worths_worthFor a m ν → sd' = (sd &&& (y ^^^ (-1))) ||| x → dn' = (dn &&& (x ^^^ (-1))) ||| y → v6 = w_ior (v : Int) (vc : Int) → l_Worths_along_26 a ν X (f + 1) sd' dn' v6 v7 ((i : Int) + 1) := fun v7 sd' dn' v6 z e7 es ed e6 => by
      have e7' : v7 = s + woO σ a m := by
        rw [e7]
        unfold v_Worths_worthFor
        rw [at_in (by omega) (by omega) (by decide), hWc _ (by omega) (by omega)]
        rfl
      rw [ior_n (by omega) (by omega)] at e6
      have lt6 : v ||| vc < 2 ^ 6 := Nat.or_lt_two_pow hv p6
      rw [e6, e7']
      have g := c_along_l ha hWb hWc h6 hC hrow hM hP hO hOc (X := X) f (i + 1) sd' dn' (v ||| vc) (s + woO σ a m) (stP (rowOf σ m) st) (P ++ [m]) (by omega) (by rw [es, ed]; exact hs.s wl p1 p2) (by omega) (fun j hj => by
        rw [Nat.testBit_or, Bool.or_eq_true, hb j hj, p7 j hj]
        constructor
        · rintro (⟨p, hp, hc⟩ | hc)
          · exact ⟨p, List.mem_append.mpr (Or.inl hp), hc⟩
          · exact ⟨m, List.mem_append.mpr (Or.inr (List.mem_singleton.mpr rfl)), hc⟩
        · rintro ⟨p, hp, hc⟩
          rcases List.mem_append.mp hp with hp | hp
          · exact Or.inl ⟨p, hp, hc⟩
          · rw [List.mem_singleton.mp hp] at hc
            exact Or.inr hc) (by omega) z
      exact g
    by_cases cb : v.testBit o = true
    · rw [if_pos cb]
      (try simp (disch := omega) only [w_id])
      rw [if_neg (by decide)]
      rw [pick_t (hbo.mp cb)] at h
      exact skip h
    · rw [if_neg cb]
      (try simp (disch := omega) only [w_id])
      rw [if_pos trivial]
      rw [pick_f (fun z => cb (hbo.mpr z))] at h
      have one : ∀ b : Bool, (w (b2i b) = 1 ↔ b = true) := fun b => by cases b <;> decide
      refine ite_i (fun q => ?_) (fun q => ?_)
      · rw [q] at h
        rw [show b2i true = (1 : Int) from rfl] at h
        refine ite_i (fun q2 => ?_) (fun q2 => ?_)
        · rw [pick_t ((one _).mp q2)] at h
          intro v7 e7 sd' es dn' ed v6 e6
          exact go v7 sd' dn' v6 h e7 es ed e6
        · rw [pick_f (fun z => q2 ((one _).mpr z))] at h
          exact skip h
      · rw [bool_f q] at h
        rw [show b2i false = (0 : Int) from rfl] at h
        refine ite_i (fun q2 => ?_) (fun q2 => ?_)
        · rw [pick_t ((one _).mp q2)] at h
          intro v7 e7 sd' es dn' ed v6 e6
          exact go v7 sd' dn' v6 h e7 es ed e6
        · rw [pick_f (fun z => q2 ((one _).mpr z))] at h
          exact skip h
noncomputable def walO (σ : Sg) (a : Int) (C : List Int) (od : List Nat) : Int := wal σ a (remO C od C.length 0) (stO σ) [] 0
theorem c_along {σ : Sg} {ν : Mem} (hI : Ic σ ν) {a : Int} (ha : 0 ≤ a ∧ a < σ 15466 0) {C : List Int} (h6 : C.length ≤ 6) (hC : ∀ x ∈ C, 0 ≤ x ∧ x < 24) (hM : MoC ν C) (hP : PrC σ ν C C.length) {od : List Nat} (hO : OdW C.length od) (hOc : OdC ν 109 od) {K : Int → Mem → Prop} (h : K (walO σ a C od) ν) : f_Worths_along a ν K := by
  have hA := hI.wfR.1
  have hWr := hI.2.2.2.2.2.2.2.1
  unfold f_Worths_along
  intro v2 e2 v4 e4
  refine ⟨C.length + 1, ?_⟩
  have g := c_along_l (σ := σ) (ν := ν) (a := a) ⟨by omega, by omega⟩ (fun j j0 j1 => (hWr j j0 j1).2) (fun j j0 j1 => (cr' rfl).trans (hWr j j0 j1).1) h6 hC (fun x hx => (hI.row (hC x hx).1 (hC x hx).2).2.1) hM hP hO hOc (X := fun (v7_3 : Int) => K v7_3 ν) C.length 0 v2 v4 0 0 (stO σ) [] (by omega) (by
    rw [e2, e4]
    exact fun n n1 n2 => hI.stand n1 n2) (by decide) (fun j hj => by
      rw [Nat.zero_testBit]
      exact ⟨fun z => (by cases z), fun ⟨p, hp, _⟩ => absurd hp (by simp)⟩) (by decide) h
  exact g
