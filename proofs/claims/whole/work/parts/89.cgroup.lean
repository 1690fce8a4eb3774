/-! GROUPING, the class's side -/
theorem subN_sel {σ : Sg} {C : List Int} {s : Nat} : ∀ k : Nat, k ≤ C.length → subN (C.map (rowOf σ)) s k = (selN C s k).map (rowOf σ)
  | 0, _ => rfl
  | k + 1, h => by
    have ih := subN_sel (σ := σ) (C := C) (s := s) k (by omega)
    have e1 : subN (C.map (rowOf σ)) s (k + 1) = if s.testBit k = true then subN (C.map (rowOf σ)) s k ++ [gRw (C.map (rowOf σ)) k] else subN (C.map (rowOf σ)) s k := rfl
    have e2 : selN C s (k + 1) = if s.testBit k = true then selN C s k ++ [gI C k] else selN C s k := rfl
    have e3 : gRw (C.map (rowOf σ)) k = rowOf σ (gI C k) := by
      unfold gRw gI
      rw [List.getD_eq_getElem?_getD, List.getD_eq_getElem?_getD, List.getElem?_map, List.getElem?_eq_getElem (by omega)]
      rfl
    rw [e1, e2, ih, e3]
    split
    · rw [List.map_append]; rfl
    · rfl
def pcB (s : Nat) : Nat → Nat
  | 0 => 0
  | i + 1 => pcB s i + (s.testBit i).toNat
theorem selN_pc (C : List Int) (s : Nat) : ∀ k : Nat, (selN C s k).length = pcB s k
  | 0 => rfl
  | k + 1 => by
    have ih := selN_pc C s k
    unfold selN pcB
    by_cases c : s.testBit k = true
    · rw [if_pos c, List.length_append, ih, c]; rfl
    · rw [if_neg c, ih, bool_f c]; rfl
theorem pcB_hi {s n : Nat} (h : s < 2 ^ n) : ∀ k : Nat, pcB s (n + k) = pcB s n
  | 0 => rfl
  | k + 1 => by
    show pcB s (n + k) + (s.testBit (n + k)).toNat = _
    rw [pcB_hi h k, Nat.testBit_lt_two_pow (Nat.lt_of_lt_of_le h (Nat.pow_le_pow_right (by decide) (by omega)))]
    rfl
theorem popG_f : ∀ s : Fin 256, v_popI (s.1 : Int) = ((pcB s.1 8 : Nat) : Int) := by decide +kernel
theorem popG_e {C : List Int} (h8 : C.length ≤ 8) {s : Nat} (hs : s < 2 ^ C.length) : v_popI (s : Int) = ((selN C s C.length).length : Int) := by
  have p : 2 ^ C.length ≤ 2 ^ 8 := Nat.pow_le_pow_right (by decide) h8
  have e := popG_f ⟨s, by omega⟩
  simp only at e
  have k := pcB_hi hs (8 - C.length)
  rw [show C.length + (8 - C.length) = 8 by omega] at k
  rw [e, k, selN_pc]
def mxG (p : List Nat) : Nat → Nat
  | 0 => 0
  | i + 1 => if p.getD i 0 < mxG p i then mxG p i else p.getD i 0 + 1
theorem mxG_app (p : List Nat) (x : Nat) : ∀ k : Nat, k ≤ p.length → mxG (p ++ [x]) k = mxG p k
  | 0, _ => rfl
  | k + 1, h => by
    have e1 : mxG (p ++ [x]) (k + 1) = if (p ++ [x]).getD k 0 < mxG (p ++ [x]) k then mxG (p ++ [x]) k else (p ++ [x]).getD k 0 + 1 := rfl
    have e2 : mxG p (k + 1) = if p.getD k 0 < mxG p k then mxG p k else p.getD k 0 + 1 := rfl
    have e3 : (p ++ [x]).getD k 0 = p.getD k 0 := by rw [getD_appN, if_pos (by omega)]
    rw [e1, e2, mxG_app p x k (by omega), e3]
theorem mxG_s {p : List Nat} {g v : Nat} (h : mxG p p.length = g) (hv : v ≤ g) : mxG (p ++ [v]) (p ++ [v]).length = if v = g then g + 1 else g := by
  have el : (p ++ [v]).length = p.length + 1 := by rw [List.length_append]; rfl
  have e1 : mxG (p ++ [v]) (p.length + 1) = if (p ++ [v]).getD p.length 0 < mxG (p ++ [v]) p.length then mxG (p ++ [v]) p.length else (p ++ [v]).getD p.length 0 + 1 := rfl
  have e3 : (p ++ [v]).getD p.length 0 = v := by rw [getD_appN, if_neg (by omega), if_pos rfl]
  rw [el, e1, mxG_app p v p.length (Nat.le_refl _), e3, h]
  by_cases c : v = g
  · rw [if_pos c, if_neg (by omega), c]
  · rw [if_neg c, if_pos (by omega)]
def lvs : Nat → Nat → Nat
  | 0, _ => 1
  | f + 1, g => g * lvs f g + lvs f (g + 1)
theorem lvs_8 : ∀ k : Fin 8, lvs k.1 1 ≤ 4140 := by decide +kernel
/-- how many groupings the class goes through -/
def cM (most : Nat) : Nat → Nat → Nat
  | 0, _ => 1
  | f + 1, g => if g < most then g * cM most f g + cM most f (g + 1) else g * cM most f g
theorem cM_le (most : Nat) : ∀ f g : Nat, cM most f g ≤ lvs f g
  | 0, g => Nat.le_refl _
  | f + 1, g => by
    have a := Nat.mul_le_mul_left g (cM_le most f g)
    have b := cM_le most f (g + 1)
    have e1 : cM most (f + 1) g = if g < most then g * cM most f g + cM most f (g + 1) else g * cM most f g := rfl
    have e2 : lvs (f + 1) g = g * lvs f g + lvs f (g + 1) := rfl
    rw [e1, e2]
    split <;> omega
theorem selN_z (C : List Int) : ∀ k : Nat, selN C 0 k = []
  | 0 => rfl
  | k + 1 => by
    have e : selN C 0 (k + 1) = if (0 : Nat).testBit k = true then selN C 0 k ++ [gI C k] else selN C 0 k := rfl
    rw [e, Nat.zero_testBit, if_neg (by decide), selN_z C k]
theorem lossI_z (σ : Sg) (C : List Int) : lossI σ C 0 = 0 := by
  have e : rwS σ C 0 = [] := by unfold rwS; rw [selN_z]; rfl
  have t : sm (cnt []) 60 ≤ 0 * 60 := sm_bd (fun _ _ _ => Nat.le_refl _)
  have l := loC_e (lenI σ (Fo σ)).toNat []
  unfold lossI
  rw [e, selN_z, pick_f (by decide), pick_t (okC_nil _)]
  omega
theorem grB_z {p : List Nat} {g v : Nat} (hw : PfW p g) (hv : g ≤ v) : ∀ k : Nat, k ≤ p.length → grB p v k = 0
  | 0, _ => rfl
  | k + 1, h => by
    have e : grB p v (k + 1) = if p.getD k 0 = v then grB p v k ||| 2 ^ k else grB p v k := rfl
    have := hw k (by omega)
    rw [e, if_neg (by omega), grB_z hw hv k (by omega)]
theorem lsP_ext (σ : Sg) (C : List Int) {p : List Nat} {g : Nat} (hw : PfW p g) : ∀ m : Nat, lsP σ C p (g + m) = lsP σ C p g
  | 0 => rfl
  | m + 1 => by
    have ih := lsP_ext σ C hw m
    show (if lsP σ C p (g + m) = -1 ∨ lossI σ C (grB p (g + m) p.length) = -1 then (-1 : Int) else lsP σ C p (g + m) + lossI σ C (grB p (g + m) p.length)) = _
    rw [grB_z hw (by omega) _ (Nat.le_refl _), lossI_z, ih]
    by_cases c : lsP σ C p g = -1
    · rw [if_pos (Or.inl c), c]
    · rw [if_neg (fun z => z.elim c (by omega))]; omega
theorem lsP_8 (σ : Sg) (C : List Int) {p : List Nat} {g : Nat} (hw : PfW p g) (hg : g ≤ 8) : lsP σ C p 8 = lsP σ C p g := by
  have := lsP_ext σ C hw (8 - g)
  rw [show g + (8 - g) = 8 by omega] at this
  exact this
/-- a frame that holds lostBy, whose first cell stays -/
theorem Fr.qtB {L : List Nat} {μ ν : Mem} (h : Fr L μ ν) (hl : (L.all fun q => Nat.beq q 97 || (!(inC q) && !(inM q) && !(inF q))) = true) (e : rI ν 97 0 = rI μ 97 0) : Qt μ ν := by
  have nl : ∀ q : Nat, ¬ q = 97 → (inC q = true ∨ inM q = true ∨ inF q = true) → lel L q = false := fun q hq hk => by
    cases el : L.elem q with
    | false => exact el
    | true =>
      have h2 := List.all_eq_true.mp hl q (List.elem_iff.mp el)
      rw [show Nat.beq q 97 = false from by
        cases eb : Nat.beq q 97 with
        | false => rfl
        | true => exact absurd (Nat.eq_of_beq_eq_true eb) hq] at h2
      rcases hk with k | k | k <;> simp [k] at h2
  refine ⟨?_, ?_, ?_, h.1⟩
  · funext q j
    unfold CS
    by_cases hp : PC q j = true
    · rw [if_pos hp, if_pos hp]
      by_cases c : q = 97
      · subst c
        have ej : j = 0 := by
          have hp2 : decide (j = 0) = true := hp
          exact of_decide_eq_true hp2
        subst ej
        exact e
      · exact h.rdI (nl q c (PC_or hp))
    · rw [if_neg hp, if_neg hp]
  · have k : ∀ q : Nat, ¬ q = 97 → inF q = true → rL ν q 0 = rL μ q 0 := fun q hq hf => h.rdL (nl q hq (Or.inr (Or.inr hf)))
    unfold CL
    rw [k 9582 (by decide) rfl, k 9583 (by decide) rfl, k 11886 (by decide) rfl, k 11887 (by decide) rfl]
  · funext q j
    unfold MS
    by_cases hp : inM q = true
    · rw [if_pos hp, if_pos hp, h.rdI (nl q (fun z => by rw [z] at hp; cases hp) (Or.inr (Or.inl hp)))]
    · rw [if_neg hp, if_neg hp]
theorem Ic.lost {σ : Sg} {μ : Mem} (h : Ic σ μ) : rI μ 97 0 = 0 := (cr (j := 0) (q := 97) rfl).trans h.relW.2
def LbT (σ : Sg) (C : List Int) (ν : Mem) (k : Nat) : Prop := ∀ s : Nat, s < k → rI ν 97 (s : Int) = lossI σ C s
def GbC (n : Nat) (ν : Mem) (B : Gb) : Prop := rI ν 12664 0 = B.1 ∧ (¬ B.1 = -1 → rI ν 12665 0 = (B.2.1 : Int) ∧ ∀ i : Nat, i < n → rI ν 100 (i : Int) = ((B.2.2.getD i 0 : Nat) : Int))
def IgC (ν : Mem) (p : List Nat) : Prop := ∀ i : Nat, i < p.length → rI ν 99 (i : Int) = ((p.getD i 0 : Nat) : Int)
def ZrC (n : Nat) (ν : Mem) (p : List Nat) : Prop := IgC ν p ∧ ∀ i : Nat, p.length ≤ i → i < n → rI ν 99 (i : Int) = 0
def kgL : List Nat := [98, 12664, 12665, 100]
def dfL : List Nat := kgL ++ [99]
def DqC (σ : Sg) (C : List Int) (most : Nat) (ν : Mem) : Prop := rI ν 12654 0 = (C.length : Int) ∧ rI ν 12663 0 = (most : Int) ∧ LbT σ C ν (2 ^ C.length)
theorem DqC.fr {σ : Sg} {C : List Int} {most : Nat} {ν ξ : Mem} (h : DqC σ C most ν) (f : Fr dfL ν ξ) : DqC σ C most ξ := ⟨by rw [f.rdI rfl]; exact h.1, by rw [f.rdI rfl]; exact h.2.1, fun s s1 => by rw [f.rdI rfl]; exact h.2.2 s s1⟩
theorem grB_lt8 {C : List Int} (h8 : C.length ≤ 8) {p : List Nat} (hp : p.length ≤ C.length) (v : Nat) : grB p v p.length < 2 ^ C.length ∧ grB p v p.length < 256 := by
  have a := grB_lt p v p.length
  have b : (2 : Nat) ^ p.length ≤ 2 ^ C.length := Nat.pow_le_pow_right (by decide) hp
  have c : (2 : Nat) ^ C.length ≤ 2 ^ 8 := Nat.pow_le_pow_right (by decide) h8
  omega
theorem dfs_w {σ : Sg} {C : List Int} {most : Nat} (h8 : C.length ≤ 8) (hm : most ≤ 8) : ∀ (f : Nat) (p : List Nat) (g : Nat) (B : Gb), p.length + f = C.length → PfW p g → GbW C.length B → GbW C.length (dfs σ C most f p g B)
  | 0, p, g, B, hp, hw, hB => updG_w h8 hm (by omega) hw hB
  | f + 1, p, g, B, hp, hw, hB => by
    show GbW C.length ((List.range (g + 1)).foldl _ B)
    have : ∀ k : Nat, k ≤ g + 1 → GbW C.length ((List.range k).foldl (fun B v => dfs σ C most f (p ++ [v]) (if v = g then g + 1 else g) B) B) := by
      intro k
      induction k with
      | zero => intro _; exact hB
      | succ k ih =>
        intro hk
        rw [List.range_succ, List.foldl_append]
        exact dfs_w h8 hm f (p ++ [k]) _ _ (by rw [List.length_append]; simp only [List.length_cons, List.length_nil]; omega) (hw.s (by omega)) (ih (by omega))
    exact this (g + 1) (Nat.le_refl _)
theorem c_groupsAhead {p : List Nat} {ν : Mem} {k : Nat} (hk : k ≤ 8) (hv : ∀ i : Nat, i < k → rI ν 99 (i : Int) = ((p.getD i 0 : Nat) : Int)) (h8 : ∀ i : Nat, i < k → p.getD i 0 < 8) {K : Int → Mem → Prop} (h : K ((mxG p k : Nat) : Int) ν) : f_Comp_groupsAhead (k : Int) ν K := by
  have bd : ∀ i : Nat, i ≤ k → mxG p i ≤ 8 := by
    intro i
    induction i with
    | zero => intro _; exact Nat.zero_le _
    | succ i ih =>
      intro hi
      have := ih (by omega)
      have := h8 i (by omega)
      unfold mxG
      split <;> omega
  have loop : ∀ (f i : Nat), i + f = k → l_Comp_groupsAhead_4 (k : Int) ν (fun (v2_2 : Int) => K v2_2 ν) (f + 1) ((mxG p i : Nat) : Int) (i : Int) := by
    intro f
    induction f with
    | zero =>
      intro i e
      unfold l_Comp_groupsAhead_4
      (try simp (disch := omega) only [w_id])
      rw [if_neg (by omega), show i = k by omega]
      exact h
    | succ f ih =>
      intro i e
      have b := bd i (by omega)
      have pi := h8 i (by omega)
      have st : mxG p (i + 1) = if p.getD i 0 < mxG p i then mxG p i else p.getD i 0 + 1 := rfl
      have g' := ih (i + 1) (by omega)
      unfold l_Comp_groupsAhead_4
      (try simp (disch := omega) only [w_id])
      rw [if_pos (by omega)]
      intro v ev
      rw [at_in (by omega) (by omega) (by decide), hv i (by omega)] at ev
      have e2 : v = ((mxG p (i + 1) : Nat) : Int) := by
        rw [ev, st]
        unfold w_max
        rw [w_id (by omega) (by omega), w_id (by omega) (by omega)]
        by_cases c : p.getD i 0 < mxG p i
        · rw [if_pos c, if_neg (by omega)]
        · rw [if_neg c, if_pos (by omega)]; omega
      rw [e2]
      exact g'
  unfold f_Comp_groupsAhead
  exact ⟨k + 1, loop k 0 (by omega)⟩
theorem c_lostBy {σ : Sg} {C : List Int} (h8 : C.length ≤ 8) {p : List Nat} (hp : p.length = C.length) {g : Nat} (hw : PfW p g) (hg : g ≤ 8) {ν : Mem} (em : rI ν 12654 0 = (C.length : Int)) (hL : LbT σ C ν (2 ^ C.length)) (hv : IgC ν p) {K : Int → Mem → Prop} (h : ∀ ξ : Mem, Fr [98] ν ξ → K (lsP σ C p g) ξ) : f_Comp_lostByGroups ν K := by
  unfold f_Comp_lostByGroups
  refine c_fill (by decide) (fun ξ0 f0 z0 => ?_)
  have loop10 : ∀ (X : Mem → Prop), (∀ ξ : Mem, Fr [98] ν ξ → (∀ v : Nat, v < 8 → rI ξ 98 (v : Int) = ((grB p v p.length : Nat) : Int)) → X ξ) → ∀ (f k : Nat) (ξ : Mem), k + f = C.length → Fr [98] ν ξ → (∀ v : Nat, v < 8 → rI ξ 98 (v : Int) = ((grB p v k : Nat) : Int)) → l_Comp_lostByGroups_10 X (f + 1) (k : Int) ξ := by
    intro X hX f
    induction f with
    | zero =>
      intro k ξ e fx mk
      unfold l_Comp_lostByGroups_10
      rw [fx.rdI rfl, em]
      (try simp (disch := omega) only [w_id])
      rw [if_neg (by omega)]
      exact hX ξ fx (by rw [hp, show C.length = k by omega]; exact mk)
    | succ f ih =>
      intro k ξ e fx mk
      have pk := hw k (by omega)
      have hvk := hv k (by omega)
      unfold l_Comp_lostByGroups_10
      rw [fx.rdI rfl, em]
      (try simp (disch := omega) only [w_id])
      rw [if_pos (by omega)]
      intro v2 e2 μ3 e3
      rw [at_in (by omega) (by omega) (by decide), fx.rdI rfl, hvk] at e2
      obtain ⟨pv, hpv⟩ : ∃ pv : Nat, p.getD k 0 = pv := ⟨_, rfl⟩
      rw [hpv] at pk e2
      have lt := grB_lt p pv k
      have l8 : (2 : Nat) ^ k ≤ 2 ^ 8 := Nat.pow_le_pow_right (by decide) (by omega)
      have kb := ior_bit2 (v := grB p pv k) (i := k) (n := 8) (by omega) (by omega) (by decide)
      have kb2 := kb.2
      rw [e2, set_in (by omega) (by omega) (by decide), at_in (by omega) (by omega) (by decide), mk pv (by omega), kb.1] at e3
      refine ih (k + 1) μ3 (by omega) (by rw [e3]; exact fx.wI (by decide)) (fun v hv8 => ?_)
      have st : grB p v (k + 1) = if p.getD k 0 = v then grB p v k ||| 2 ^ k else grB p v k := rfl
      rw [hpv] at st
      rw [e3, rI_sI, st]
      by_cases c : pv = v
      · rw [if_pos ⟨rfl, by omega⟩, if_pos c, ← c, w_id (by omega) (by omega)]
      · rw [if_neg (fun z => by omega), if_neg c]
        exact mk v hv8
  refine ⟨C.length + 1, loop10 _ (fun ξ fx hm => ?_) C.length 0 ξ0 (by omega) f0 (fun v hv8 => by rw [z0 (v : Int) (by omega) (by omega)]; rfl)⟩
  have e8 := lsP_8 σ C hw hg
  have loop57 : ∀ (f k : Nat), k + f = 8 → ¬ lsP σ C p k = -1 → l_Comp_lostByGroups_57 ξ K (f + 1) (lsP σ C p k) (k : Int) := by
    intro f
    induction f with
    | zero =>
      intro k e hk
      have ek : k = 8 := by omega
      subst ek
      unfold l_Comp_lostByGroups_57
      (try simp (disch := omega) only [w_id])
      rw [if_neg (by omega), e8]
      exact h ξ fx
    | succ f ih =>
      intro k e hk
      have lt := grB_lt8 h8 (p := p) (by omega) k
      have lo := hL (grB p k p.length) lt.1
      have r1 := lsP_rng (σ := σ) h8 p k
      have r2 := lossI_rng (σ := σ) h8 (grB p k p.length)
      unfold l_Comp_lostByGroups_57
      (try simp (disch := omega) only [w_id])
      rw [if_pos (by omega)]
      intro v3 e3
      rw [at_in (a := 98) (by omega) (by omega) (by decide), hm k (by omega), at_in (by omega) (by omega) (by decide), fx.rdI rfl, lo] at e3
      rw [e3]
      (try simp (disch := omega) only [w_id])
      refine ite_i (fun q => ?_) (fun q => ?_)
      · have bad := lsP_bad2 (σ := σ) (C := C) (p := p) (k := k) (g := 8) (by omega) q
        rw [e8] at bad
        rw [← bad]
        exact h ξ fx
      · intro v1 ev
        have es : lsP σ C p (k + 1) = lsP σ C p k + lossI σ C (grB p k p.length) := by
          show (if _ then _ else _) = _
          exact if_neg (fun z => z.elim hk q)
        have g' := ih (k + 1) (by omega) (by rw [es]; omega)
        rw [es] at g'
        rw [ev]
        exact g'
  exact ⟨9, loop57 8 0 (by omega) (by show ¬ (0 : Int) = -1; omega)⟩
theorem c_keepG {σ : Sg} {C : List Int} (h8 : C.length ≤ 8) {most : Nat} (hm : most ≤ 8) {p : List Nat} {g : Nat} {ν : Mem} (hd : DqC σ C most ν) (hp : p.length = C.length) (hw : PfW p g) (hx : mxG p p.length = g) (hg : g ≤ most) (hv : IgC ν p) {B : Gb} (hB : GbC C.length ν B) (hW : GbW C.length B) {K : Mem → Prop} (h : ∀ ξ : Mem, Fr kgL ν ξ → IgC ξ p → GbC C.length ξ (updG σ C most B p g) → K ξ) : f_Comp_keepIfBetter ν K := by
  have r := lsP_rng (σ := σ) h8 p g
  have g8 : g ≤ 8 := by omega
  unfold f_Comp_keepIfBetter
  rw [hd.1]
  refine c_groupsAhead (p := p) h8 (fun i hi => hv i (by omega)) (fun i hi => by have := hw i (by omega); omega) ?_
  rw [← hp, hx]
  refine c_lostBy h8 hp hw g8 hd.1 hd.2.2 hv (fun ξ f => ?_)
  have hvξ : IgC ξ p := fun i hi => by rw [f.rdI rfl]; exact hv i hi
  have hBξ : GbC C.length ξ B := ⟨by rw [f.rdI rfl]; exact hB.1, fun ne => ⟨by rw [f.rdI rfl]; exact (hB.2 ne).1, fun i hi => by rw [f.rdI rfl]; exact (hB.2 ne).2 i hi⟩⟩
  have keep : updG σ C most B p g = B → K ξ := fun z => h ξ (Fr.mono f rfl) hvξ (by rw [z]; exact hBξ)
  have take : updG σ C most B p g = (lsP σ C p g, g, p) → ∀ μ1 : Mem, μ1 = sI ξ 12664 0 (lsP σ C p g) → ∀ μ2 : Mem, μ2 = sI μ1 12665 0 (g : Int) → f_H_copy 99 8 100 8 μ2 (fun μ3 => K μ3) := fun z μ1 e1 μ2 e2 => by
    have f2 : Fr [12664, 12665] ξ μ2 := by rw [e2, e1]; exact ((FrP.refl _ _).wI (by decide)).wI (by decide)
    have k1 : rI μ2 12664 0 = lsP σ C p g := by rw [e2, rI_ne _ _ _ _ rfl, e1, rI_eq _ _ _ ⟨by omega, by omega⟩]
    have k2 : rI μ2 12665 0 = (g : Int) := by rw [e2, rI_eq _ _ _ ⟨by omega, by omega⟩]
    refine c_copy (by decide) (by decide) (fun ο fo co => ?_)
    refine h ο ((Fr.mono f rfl : Fr kgL ν ξ).trans ((Fr.mono f2 rfl).trans (Fr.mono fo rfl))) (fun i hi => by rw [fo.rdI rfl, f2.rdI rfl]; exact hvξ i hi) ?_
    rw [z]
    refine ⟨by rw [fo.rdI rfl]; exact k1, fun _ => ⟨by rw [fo.rdI rfl]; exact k2, fun i hi => ?_⟩⟩
    rw [co (i : Int) (by omega) (by omega), f2.rdI rfl]
    exact hvξ i (by omega)
  have eu : ¬ lsP σ C p g = -1 → updG σ C most B p g = if B.1 = -1 ∨ lsP σ C p g < B.1 ∨ (lsP σ C p g = B.1 ∧ g < B.2.1) then (lsP σ C p g, g, p) else B := fun ne => by
    unfold updG
    rw [if_neg (fun z => z.elim (by omega) ne)]
  rw [hBξ.1]
  have bw : -1 ≤ B.1 ∧ B.1 ≤ 4000 := by rcases hW with w1 | w1 <;> omega
  (try simp (disch := omega) only [w_id])
  refine ite_i (fun q => keep ?_) (fun q => ite_i (fun q1 => take (by rw [eu q, if_pos (Or.inl q1)])) (fun q1 => ite_i (fun q2 => take (by rw [eu q, if_pos (Or.inr (Or.inl q2))])) (fun q2 => ite_i (fun q3 => ?_) (fun q3 => keep (by rw [eu q, if_neg (fun z => by omega)])))))
  · unfold updG
    exact if_pos (Or.inr q)
  have hgb := (hBξ.2 q1).1
  have w8 : B.2.1 ≤ 8 := by rcases hW with w1 | w1 <;> omega
  rw [hgb]
  (try simp (disch := omega) only [w_id])
  exact ite_i (fun q4 => take (by rw [eu q, if_pos (Or.inr (Or.inr ⟨q3, by omega⟩))])) (fun q4 => keep (by rw [eu q, if_neg (fun z => by omega)]))
theorem c_zeros {n : Nat} (h8 : n ≤ 8) {q : List Nat} (hq : q.length ≤ n) {ν : Mem} (em : rI ν 12654 0 = (n : Int)) (hv : IgC ν q) {X : Mem → Prop} (h : ∀ ξ : Mem, Fr [99] ν ξ → ZrC n ξ q → X ξ) : l_Comp_nextGrouping_52 X (n - q.length + 1) (q.length : Int) ν := by
  have loop : ∀ (f k : Nat) (ξ : Mem), k + f = n → q.length ≤ k → Fr [99] ν ξ → IgC ξ q → (∀ i : Nat, q.length ≤ i → i < k → rI ξ 99 (i : Int) = 0) → l_Comp_nextGrouping_52 X (f + 1) (k : Int) ξ := by
    intro f
    induction f with
    | zero =>
      intro k ξ e hk fx pr z
      unfold l_Comp_nextGrouping_52
      rw [fx.rdI rfl, em]
      (try simp (disch := omega) only [w_id])
      rw [if_neg (by omega)]
      exact h ξ fx ⟨pr, fun i h1 h2 => z i h1 (by omega)⟩
    | succ f ih =>
      intro k ξ e hk fx pr z
      unfold l_Comp_nextGrouping_52
      rw [fx.rdI rfl, em]
      (try simp (disch := omega) only [w_id])
      rw [if_pos (by omega)]
      intro μ6 e6
      rw [set_in (by omega) (by omega) (by decide)] at e6
      have g := ih (k + 1) μ6 (by omega) (by omega) (by rw [e6]; exact fx.wI (by decide)) (fun i hi => by
        rw [e6, rI_sI, if_neg (fun y => by omega)]
        exact pr i hi) (fun i h1 h2 => by
        rw [e6, rI_sI]
        by_cases c : i = k
        · rw [if_pos ⟨rfl, by omega⟩]; rfl
        · rw [if_neg (fun y => by omega)]
          exact z i h1 (by omega))
      exact g
  exact loop (n - q.length) q.length ν (by omega) (Nat.le_refl _) (FrP.refl _ _) hv (fun i h1 h2 => by omega)
def nxX (k : Bool → Mem → Prop) : Int → Int → Mem → Prop := fun v1_2 v2_1 μ_3 => ∀ μ_4 : Mem, μ_4 = set' μ_3 99 8 v1_2 v2_1 → ∃ m52 : Nat, l_Comp_nextGrouping_52 (fun (μ_7 : Mem) => k true μ_7) m52 (v1_2 + 1) μ_4
theorem c_carry {σ : Sg} {C : List Int} (h8 : C.length ≤ 8) {most : Nat} (hm : most ≤ 8) {p : List Nat} {v g : Nat} (p1 : 1 ≤ p.length) (hp : p.length < C.length) (hw : PfW p g) (hg : g ≤ 8) (hx : mxG p p.length = g) (hv8 : v < 8) {ξ : Mem} (hd : DqC σ C most ξ) (hv : IgC ξ (p ++ [v])) {k : Bool → Mem → Prop}
    (h1 : v + 1 < most → v + 1 ≤ g → ∀ ο : Mem, Fr [99] ξ ο → ZrC C.length ο (p ++ [v + 1]) → k true ο)
    (h2 : ¬ (v + 1 < most ∧ v + 1 ≤ g) → l_Comp_nextGrouping_7 (nxX k) k (p.length + 1) ((p.length : Int) - 1) ξ) : l_Comp_nextGrouping_7 (nxX k) k (p.length + 1 + 1) (p.length : Int) ξ := by
  have lenS : ∀ u : Nat, (p ++ [u]).length = p.length + 1 := fun u => by rw [List.length_append]; rfl
  have vl : rI ξ 99 (p.length : Int) = (v : Int) := by
    have := hv p.length (by rw [lenS]; omega)
    rw [getD_appN, if_neg (by omega), if_pos rfl] at this
    exact this
  have vp : ∀ i : Nat, i < p.length → rI ξ 99 (i : Int) = ((p.getD i 0 : Nat) : Int) := fun i hi => by
    have := hv i (by rw [lenS]; omega)
    rw [getD_appN, if_pos hi] at this
    exact this
  unfold l_Comp_nextGrouping_7
  (try simp (disch := omega) only [w_id])
  rw [if_pos (by omega)]
  intro v2 e2
  rw [at_in (by omega) (by omega) (by decide), vl] at e2
  rw [e2, hd.2.1]
  (try simp (disch := omega) only [w_id])
  refine ite_i (fun q => ?_) (fun q => ?_)
  · refine c_groupsAhead (p := p) (k := p.length) (by omega) vp (fun i hi => by have := hw i hi; omega) ?_
    rw [hx]
    (try simp (disch := omega) only [w_id])
    refine ite_i (fun q2 => ?_) (fun q2 => ?_)
    · rw [show (p.length : Int) + -1 = (p.length : Int) - 1 by omega]
      exact h2 (fun z => by omega)
    · unfold nxX
      intro μ4 e4
      rw [set_in (by omega) (by omega) (by decide)] at e4
      have f4 : Fr [99] ξ μ4 := by rw [e4]; exact (FrP.refl _ _).wI (by decide)
      refine ⟨C.length - (p ++ [v + 1]).length + 1, ?_⟩
      have z := c_zeros h8 (q := p ++ [v + 1]) (ν := μ4) (by rw [lenS]; omega) (by rw [f4.rdI rfl]; exact hd.1) (fun i hi => by
        rw [lenS] at hi
        rw [getD_appN, e4, rI_sI]
        by_cases c : i < p.length
        · rw [if_neg (fun y => by omega), if_pos c]; exact vp i c
        · rw [if_pos ⟨rfl, by omega⟩, if_neg c, if_pos (by omega), w_id (by omega) (by omega)]; omega) (X := fun (μ_7 : Mem) => k true μ_7) (fun ο fo zo => h1 (by omega) (by omega) ο (f4.trans fo) zo)
      have ei : (((p ++ [v + 1]).length : Nat) : Int) = (p.length : Int) + 1 := by rw [lenS]; omega
      rw [ei] at z
      exact z
  · rw [show (p.length : Int) + -1 = (p.length : Int) - 1 by omega]
    exact h2 (fun z => by omega)
theorem c_enum {σ : Sg} {C : List Int} (h8 : C.length ≤ 8) {most : Nat} (hm : most ≤ 8) {X : Mem → Prop} : ∀ (f : Nat) (p : List Nat) (g : Nat) (B : Gb) (ν : Mem) (m' cnt : Nat), p.length + f = C.length → 1 ≤ p.length → 1 ≤ g → g ≤ most → PfW p g → mxG p p.length = g → GbW C.length B → DqC σ C most ν → ZrC C.length ν p → GbC C.length ν B → cnt + cM most f g ≤ 4140 →
    (∀ ξ : Mem, Fr dfL ν ξ → IgC ξ p → GbC C.length ξ (dfs σ C most f p g B) → l_Comp_nextGrouping_7 (nxX (fun r μ => l_Comp_groupUp_93 X m' r ((cnt + cM most f g : Nat) : Int) μ)) (fun r μ => l_Comp_groupUp_93 X m' r ((cnt + cM most f g : Nat) : Int) μ) (p.length + 1) ((p.length : Int) - 1) ξ) →
    l_Comp_groupUp_93 X (m' + cM most f g) true (cnt : Int) ν
  | 0, p, g, B, ν, m', cnt, hp, p1, g1, hg, hw, hx, hB, hd, hz, hgb, hc, h => by
    have c0 : cM most 0 g = 1 := rfl
    rw [c0] at hc h ⊢
    unfold l_Comp_groupUp_93
    (try simp (disch := omega) only [w_id])
    rw [if_pos (by omega), if_pos (by trivial)]
    refine c_keepG h8 hm hd (by omega) hw hx hg hz.1 hgb hB (fun ξ f pr gb => ?_)
    have k := h ξ (Fr.mono f rfl) pr gb
    rw [show ((cnt + 1 : Nat) : Int) = (cnt : Int) + 1 by omega] at k
    unfold f_Comp_nextGrouping
    intro v1 e1
    rw [f.rdI rfl, hd.1] at e1
    rw [e1]
    refine ⟨p.length + 1, ?_⟩
    rw [show (C.length : Int) - 1 = (p.length : Int) - 1 by omega]
    exact k
  | f + 1, p, g, B, ν, m', cnt, hp, p1, g1, hg, hw, hx, hB, hd, hz, hgb, hc, h => by
    have fold_s : ∀ k : Nat, (List.range (k + 1)).foldl (fun B v => dfs σ C most f (p ++ [v]) (if v = g then g + 1 else g) B) B = dfs σ C most f (p ++ [k]) (if k = g then g + 1 else g) ((List.range k).foldl (fun B v => dfs σ C most f (p ++ [v]) (if v = g then g + 1 else g) B) B) := fun k => by
      rw [List.range_succ, List.foldl_append]
      rfl
    have fin : dfs σ C most (f + 1) p g B = (List.range (g + 1)).foldl (fun B v => dfs σ C most f (p ++ [v]) (if v = g then g + 1 else g) B) B := rfl
    have cs : cM most (f + 1) g = if g < most then g * cM most f g + cM most f (g + 1) else g * cM most f g := rfl
    have lenS : ∀ v : Nat, (p ++ [v]).length = p.length + 1 := fun v => by rw [List.length_append]; rfl
    obtain ⟨lst, l1, l2, l3, l4⟩ : ∃ lst : Nat, lst ≤ g ∧ lst < most ∧ (lst = g ∨ most = g ∧ lst + 1 = g) ∧ cM most (f + 1) g = lst * cM most f g + cM most f (if lst = g then g + 1 else g) := by
      by_cases c : g < most
      · exact ⟨g, Nat.le_refl _, c, Or.inl rfl, by rw [cs, if_pos c, if_pos rfl]⟩
      · obtain ⟨k, hk⟩ : ∃ k : Nat, g = k + 1 := ⟨g - 1, by omega⟩
        refine ⟨k, by omega, by omega, Or.inr ⟨by omega, hk.symm⟩, ?_⟩
        rw [cs, if_neg c, if_neg (by omega)]
        generalize cM most f g = N
        rw [hk, Nat.succ_mul]
    have fin2 : (List.range (g + 1)).foldl (fun B v => dfs σ C most f (p ++ [v]) (if v = g then g + 1 else g) B) B = (List.range (lst + 1)).foldl (fun B v => dfs σ C most f (p ++ [v]) (if v = g then g + 1 else g) B) B := by
      rcases l3 with l3 | ⟨l3, l5⟩
      · rw [l3]
      · rw [fold_s g, l5]
        exact dfs_dead f _ _ _ (by rw [lenS]; omega) (Or.inl (by rw [if_pos rfl]; omega))
    obtain ⟨N1, hN1⟩ : ∃ N1 : Nat, cM most f (if lst = g then g + 1 else g) = N1 := ⟨_, rfl⟩
    rw [hN1] at l4
    rw [fin, fin2] at h
    rw [l4] at hc h ⊢
    have loop : ∀ (r v : Nat) (ξ : Mem) (cn : Nat), v + r = lst → Fr dfL ν ξ → ZrC C.length ξ (p ++ [v]) → GbC C.length ξ ((List.range v).foldl (fun B v => dfs σ C most f (p ++ [v]) (if v = g then g + 1 else g) B) B) → GbW C.length ((List.range v).foldl (fun B v => dfs σ C most f (p ++ [v]) (if v = g then g + 1 else g) B) B) → cn + (r * cM most f g + N1) = cnt + (lst * cM most f g + N1) →
        l_Comp_groupUp_93 X (m' + (r * cM most f g + N1)) true (cn : Int) ξ := by
      intro r
      induction r with
      | zero =>
        intro v ξ cn e fr hzv hgv hwv ec
        have ev : lst = v := by omega
        subst ev
        have fs := fold_s lst
        have g2 := c_enum h8 hm (X := X) f (p ++ [lst]) (if lst = g then g + 1 else g) _ ξ m' cn (by rw [lenS]; omega) (by rw [lenS]; omega) (by split <;> omega) (by split <;> omega) (hw.s (by omega)) (mxG_s hx (by omega)) hwv (hd.fr fr) hzv hgv (by rw [hN1]; omega) (fun ξ2 f2 pr2 gb2 => ?_)
        · rw [hN1] at g2
          rw [Nat.zero_mul, Nat.zero_add]
          exact g2
        · rw [← fs] at gb2
          rw [hN1, lenS, show ((p.length + 1 : Nat) : Int) - 1 = (p.length : Int) by omega, show cn + N1 = cnt + (lst * cM most f g + N1) by omega]
          exact c_carry h8 hm p1 (by omega) hw (by omega) hx (by omega) (hd.fr (fr.trans f2)) pr2 (fun z1 z2 => (by omega : False).elim) (fun _ => h ξ2 (fr.trans f2) (fun i hi => by
            have := pr2 i (by rw [lenS]; omega)
            rw [getD_appN, if_pos hi] at this
            exact this) gb2)
      | succ r ih =>
        intro v ξ cn e fr hzv hgv hwv ec
        have nvg : ¬ v = g := by omega
        have fs := fold_s v
        rw [if_neg nvg] at fs
        have al : PfW (p ++ [v]) g := by have := hw.s (v := v) (by omega); rw [if_neg nvg] at this; exact this
        have wn : GbW C.length ((List.range (v + 1)).foldl (fun B v => dfs σ C most f (p ++ [v]) (if v = g then g + 1 else g) B) B) := by
          rw [fs]
          exact dfs_w h8 hm f (p ++ [v]) g _ (by rw [lenS]; omega) al hwv
        have en : (r + 1) * cM most f g + N1 = r * cM most f g + N1 + cM most f g := by rw [Nat.succ_mul]; omega
        have g2 := c_enum h8 hm (X := X) f (p ++ [v]) g _ ξ (m' + (r * cM most f g + N1)) cn (by rw [lenS]; omega) (by rw [lenS]; omega) g1 hg al (by rw [mxG_s hx (by omega), if_neg nvg]) hwv (hd.fr fr) hzv hgv (by omega) (fun ξ2 f2 pr2 gb2 => ?_)
        · rw [en, ← Nat.add_assoc]
          exact g2
        · rw [← fs] at gb2
          rw [lenS, show ((p.length + 1 : Nat) : Int) - 1 = (p.length : Int) by omega]
          refine c_carry h8 hm p1 (by omega) hw (by omega) hx (by omega) (hd.fr (fr.trans f2)) pr2 (fun z1 z2 ο fo zo => ?_) (fun z => z.elim ⟨by omega, by omega⟩)
          have ff : Fr dfL ν ο := (fr.trans f2).trans (Fr.mono fo rfl)
          exact ih (v + 1) ο (cn + cM most f g) (by omega) ff zo ⟨by rw [fo.rdI rfl]; exact gb2.1, fun ne => ⟨by rw [fo.rdI rfl]; exact (gb2.2 ne).1, fun i hi => by rw [fo.rdI rfl]; exact (gb2.2 ne).2 i hi⟩⟩ wn (by omega)
    refine loop lst 0 ν cnt (by omega) (FrP.refl _ _) ?_ hgb hB rfl
    refine ⟨fun i hi => ?_, fun i h1 h2 => hz.2 i (by rw [lenS] at h1; omega) h2⟩
    rw [lenS] at hi
    rw [getD_appN]
    by_cases c : i < p.length
    · rw [if_pos c]; exact hz.1 i c
    · rw [if_neg c, if_pos (by omega), hz.2 i (by omega) (by omega)]; rfl
noncomputable def gFin (σ : Sg) (C : List Int) (most : Nat) : Gb := dfs σ C most C.length [] 0 (-1, 0, [])
theorem gFin_w {σ : Sg} {C : List Int} {most : Nat} (h8 : C.length ≤ 8) (hm : most ≤ 8) : GbW C.length (gFin σ C most) := dfs_w h8 hm C.length [] 0 (-1, 0, []) (by simp) (fun i hi => absurd hi (by show ¬ i < 0; omega)) (Or.inl rfl)
def guL : List Nat := kmL ++ [97, 12663] ++ dfL
theorem c_groupUp {σ : Sg} {μ : Mem} (hI : Ic σ μ) {a b : Int} (ha : Rg a) (hb : Rg b) {K : Int → Mem → Prop}
    (h1 : vlR σ a 1 8 → (1 ≤ b ∧ b ≤ 8) → ∀ ξ : Mem, Qt μ ξ → rI ξ 12654 0 = ((chN a.toNat 24).length : Int) → (∀ i : Nat, i < (chN a.toNat 24).length → rI ξ 92 (i : Int) = gI (chN a.toNat 24) i) → GbC (chN a.toNat 24).length ξ (gFin σ (chN a.toNat 24) b.toNat) → K (gFin σ (chN a.toNat 24) b.toNat).1 ξ)
    (h2 : ¬ (vlR σ a 1 8 ∧ (1 ≤ b ∧ b ≤ 8)) → ∀ ξ : Mem, Qt μ ξ → K (-1) ξ) : f_Comp_groupUp a b μ K := by
  obtain ⟨b0, b1⟩ := hb
  unfold f_Comp_groupUp
  (try simp (disch := omega) only [w_id])
  refine ite_i (fun q => h2 (fun z => by omega) μ (Qt.refl _)) (fun q => ite_i (fun q2 => h2 (fun z => by omega) μ (Qt.refl _)) (fun q2 => ?_))
  refine c_choose hI ha (fun v ν fr R hv => ?_) (fun nv ν fr z => ?_)
  · have l8 := v.2.1
    have rl : ((chN a.toNat 24).map (rowOf σ)).length = (chN a.toNat 24).length := List.length_map ..
    have em : rI ν 12654 0 = ((chN a.toNat 24).length : Int) := by rw [R.1, rl]
    have qν : Qt μ ν := Fr.qt fr rfl
    have zν : rI ν 97 0 = 0 := by rw [fr.rdI rfl]; exact hI.lost
    rw [em]
    (try simp (disch := omega) only [w_id])
    refine ite_i (fun q3 => h2 (fun z => by have := z.1.2; omega) ν qν) (fun q3 => ?_)
    have hC : ∀ i : Nat, i < (chN a.toNat 24).length → 0 ≤ gI (chN a.toNat 24) i ∧ gI (chN a.toNat 24) i < 24 := fun i hi => chN_rng (gI_mem hi)
    generalize hCe : chN a.toNat 24 = C at *
    have p8 : 2 ^ C.length ≤ 2 ^ 8 := Nat.pow_le_pow_right (by decide) l8
    have p1 : 1 ≤ 2 ^ C.length := Nat.one_le_two_pow
    have z0 : ∀ {ξ : Mem} {s : Nat}, 1 ≤ s → LbT σ C ξ s → rI ξ 97 0 = 0 := fun s1 ht => (ht 0 (by omega)).trans (lossI_z σ C)
    have loop : ∀ (X : Mem → Prop), (∀ ξ : Mem, Fr (kmL ++ [97]) ν ξ → LbT σ C ξ (2 ^ C.length) → X ξ) → ∀ (f s : Nat) (ξ : Mem), 1 ≤ s → s + f = 2 ^ C.length → Fr (kmL ++ [97]) ν ξ → LbT σ C ξ s → l_Comp_groupUp_29 b X (f + 1) (s : Int) ξ := by
      intro X hX f
      induction f with
      | zero =>
        intro s ξ s1 e fx ht
        have sh := ishl_f ⟨C.length, by omega⟩
        simp only at sh
        unfold l_Comp_groupUp_29
        rw [fx.rdI rfl, em, sh]
        (try simp (disch := omega) only [w_id])
        rw [if_neg (by omega)]
        rw [show s = 2 ^ C.length by omega] at ht
        exact hX ξ fx ht
      | succ f ih =>
        intro s ξ s1 e fx ht
        have sh := ishl_f ⟨C.length, by omega⟩
        simp only at sh
        have lt : s < 2 ^ C.length := by omega
        have pe := popG_e (C := C) l8 (s := s) lt
        have sl := selN_len C s C.length
        have qx : Qt ν ξ := Fr.qtB fx rfl ((z0 s1 ht).trans zν.symm)
        have put : ∀ (ξ2 μ3 : Mem) (x : Int), Fr (kmL ++ [97]) ξ ξ2 → (∀ j : Int, rI ξ2 97 j = rI ξ 97 j) → x = lossI σ C s → μ3 = set' ξ2 97 256 (s : Int) x → l_Comp_groupUp_29 b X (f + 1) ((s : Int) + 1) μ3 := fun ξ2 μ3 x f2 kk ex e3 => by
          have lr := lossI_rng (σ := σ) l8 s
          rw [set_in (by omega) (by omega) (by decide)] at e3
          have g := ih (s + 1) μ3 (by omega) (by omega) (by rw [e3]; exact (fx.trans f2).wI (by decide)) (fun t t2 => by
            rw [e3, rI_sI]
            by_cases c : t = s
            · rw [if_pos ⟨rfl, by omega⟩, ex, c, w_id (by omega) (by omega)]
            · rw [if_neg (fun z => by omega), kk]
              exact ht t (by omega))
          exact g
        unfold l_Comp_groupUp_29
        rw [fx.rdI rfl, em, sh, pe]
        (try simp (disch := omega) only [w_id])
        rw [if_pos (by omega)]
        refine ite_i (fun q4 => fun μ3 e3 => ?_) (fun q4 => ?_)
        · refine put ξ μ3 0 (FrP.refl _ _) (fun _ => rfl) ?_ e3
          unfold lossI
          rw [pick_t (by omega)]
        · have Rx : ChR ξ (C.map (rowOf σ)) := R.fr fx rfl
          have es : subN (C.map (rowOf σ)) s (C.map (rowOf σ)).length = rwS σ C s := by
            rw [rl, subN_sel C.length (Nat.le_refl _)]
            rfl
          refine c_compose hI (qν.trans qx) Rx (s := s) (by omega) (fun ok ξ2 f2 _ _ _ μ5 e5 => ?_) (fun no ξ2 f2 μ5 e5 => ?_)
          · rw [es] at ok e5
            refine put ξ2 μ5 _ (Fr.mono f2 rfl) (fun j => f2.rdI rfl) ?_ e5
            unfold lossI
            rw [pick_f (fun z => q4 (by omega)), pick_t ok]
          · rw [es] at no
            refine put ξ2 μ5 _ (Fr.mono f2 rfl) (fun j => f2.rdI rfl) ?_ e5
            unfold lossI
            rw [pick_f (fun z => q4 (by omega)), pick_f no]
    refine ⟨2 ^ C.length - 1 + 1, loop _ (fun ξ fx ht => ?_) (2 ^ C.length - 1) 1 ν (Nat.le_refl _) (by omega) (FrP.refl _ _) (fun t t2 => by
      rw [show t = 0 by omega, lossI_z]
      exact zν)⟩
    intro μ7 e7 μ8 e8
    refine c_fill (by decide) (fun ξ9 f9 v9 => ?_)
    have f8 : Fr [12663, 12664] ξ μ8 := by rw [e8, e7]; exact ((FrP.refl _ _).wI (by decide)).wI (by decide)
    have f09 : Fr guL ν ξ9 := ((Fr.mono fx rfl : Fr guL ν ξ).trans (Fr.mono f8 rfl)).trans (Fr.mono f9 rfl)
    have hd : DqC σ C b.toNat ξ9 := ⟨by rw [f9.rdI rfl, f8.rdI rfl, fx.rdI rfl]; exact em, by rw [f9.rdI rfl, e8, rI_ne _ _ _ _ rfl, e7, rI_eq _ _ _ ⟨by omega, by omega⟩]; omega, fun s s1 => by rw [f9.rdI rfl, f8.rdI rfl]; exact ht s s1⟩
    obtain ⟨k, hk⟩ : ∃ k : Nat, C.length = k + 1 := ⟨C.length - 1, by omega⟩
    have ef : gFin σ C b.toNat = dfs σ C b.toNat k [0] 1 (-1, 0, []) := by
      unfold gFin
      rw [hk]
      rfl
    have cb : cM b.toNat k 1 ≤ 4140 := Nat.le_trans (cM_le _ _ _) (lvs_8 ⟨k, by omega⟩)
    refine ⟨1 + cM b.toNat k 1, ?_⟩
    have g := c_enum (σ := σ) (C := C) l8 (most := b.toNat) (by omega) (X := fun μ_13 => K (rI μ_13 12664 0) μ_13) k [0] 1 (-1, 0, []) ξ9 1 0 (by show 1 + k = _; omega) (Nat.le_refl _) (Nat.le_refl _) (by omega) (fun i hi => by
      have hi' : i < 1 := hi
      rw [show i = 0 by omega]
      decide) rfl (Or.inl rfl) hd ⟨fun i hi => by
      have hi' : i < 1 := hi
      rw [show i = 0 by omega, v9 ((0 : Nat) : Int) (by omega) (by omega)]
      rfl, fun i _ h2 => by rw [v9 (i : Int) (by omega) (by omega)]; rfl⟩ ⟨by rw [f9.rdI rfl, e8, rI_eq _ _ _ ⟨by decide, by decide⟩], fun z => absurd rfl z⟩ (by omega) (fun ξ10 f10 _ bc => ?_)
    · exact g
    · rw [← ef] at bc
      have q10 : Qt ν ξ10 := Fr.qtB (f09.trans (Fr.mono f10 rfl)) rfl (by rw [f10.rdI rfl, f9.rdI rfl, f8.rdI rfl]; exact (z0 p1 ht).trans zν.symm)
      have out : K (rI ξ10 12664 0) ξ10 := by
        rw [bc.1]
        refine h1 ⟨v, by rw [hCe]; omega⟩ ⟨by omega, by omega⟩ ξ10 (qν.trans q10) ?_ (fun i hi => ?_) bc
        · rw [f10.rdI rfl, f09.rdI rfl]; exact em
        · rw [f10.rdI rfl, f09.rdI rfl]; exact hv i hi
      show l_Comp_nextGrouping_7 _ _ 2 ((1 : Int) - 1) ξ10
      unfold l_Comp_nextGrouping_7
      rw [if_neg (by decide)]
      unfold l_Comp_groupUp_93
      exact ite_i (fun _ => by rw [if_neg (by decide)]; exact out) (fun _ => out)
  · rw [z, if_pos (by decide)]
    exact h2 (fun y => nv y.1.1) ν (Fr.qt fr rfl)
theorem c_groupOf {C : List Int} (h8 : C.length ≤ 8) {B : Gb} (hn : ¬ B.1 = -1) {ν : Mem} (em : rI ν 12654 0 = (C.length : Int)) (hv : ∀ i : Nat, i < C.length → rI ν 92 (i : Int) = gI C i) (hC : ∀ i : Nat, i < C.length → 0 ≤ gI C i ∧ gI C i < 24) (hB : GbC C.length ν B) {m : Int} (hm : Rg m) {K : Int → Mem → Prop}
    (h1 : ∀ i : Nat, i < C.length → gI C i = m → K ((B.2.2.getD i 0 : Nat) : Int) ν) (h2 : (∀ i : Nat, i < C.length → ¬ gI C i = m) → K (-1) ν) : f_Comp_groupOf m ν K := by
  obtain ⟨bg, bm⟩ := hB.2 hn
  obtain ⟨m0, m1⟩ := hm
  have loop : ∀ (f i : Nat), i + f = C.length → (∀ j : Nat, j < i → ¬ gI C j = m) → l_Comp_groupOf_2 m ν (fun (v2_1 : Int) => K (at' ν 100 8 v2_1) ν) K (f + 1) (i : Int) := by
    intro f
    induction f with
    | zero =>
      intro i e hj
      unfold l_Comp_groupOf_2
      rw [em]
      (try simp (disch := omega) only [w_id])
      rw [if_neg (by omega)]
      exact h2 (fun j hjl => hj j (by omega))
    | succ f ih =>
      intro i e hj
      have cr := hC i (by omega)
      unfold l_Comp_groupOf_2
      rw [em, at_in (a := 92) (by omega) (by omega) (by decide), hv i (by omega)]
      (try simp (disch := omega) only [w_id])
      rw [if_pos (by omega)]
      refine ite_i (fun q => ?_) (fun q => ?_)
      · rw [at_in (by omega) (by omega) (by decide), bm i (by omega)]
        exact h1 i (by omega) q
      · have g := ih (i + 1) (by omega) (fun j hjl => by
          by_cases c : j = i
          · rw [c]; exact q
          · exact hj j (by omega))
        exact g
  unfold f_Comp_groupOf
  exact ⟨C.length + 1, loop C.length 0 (by omega) (fun j hj => by omega)⟩
