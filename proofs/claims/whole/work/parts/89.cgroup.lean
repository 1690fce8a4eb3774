/-! GROUPING, the class's side -/
theorem subN_sel {σ : Sg} {C : List Int} {s : Nat} : ∀ k : Nat, k ≤ C.length → subN (C.map (rowOf σ)) s k = (selN C s k).map (rowOf σ)
  | 0, _ => rfl
  | k + 1, h => by
    have ih := subN_sel (σ := σ) (C := C) (s := s) k (by omega)
    have e1 : subN (C.map (rowOf σ)) s (k + 1) = if s.testBit k = true then subN (C.map (rowOf σ)) s k ++ [gRw (C.map (rowOf σ)) k] else subN (C.map (rowOf σ)) s k := rfl
    have e2 : selN C s (k + 1) = if s.testBit k = true then selN C s k ++ [gI C k] else selN C s k := rfl
    have e3 : gRw (C.map (rowOf σ)) k = rowOf σ (gI C k) := by
      unfold gRw gI
      rw [List.getD_eq_getElem?_getD, List.getD_eq_getElem?_getD, List.getElem?_map, List.getElem?_eq_getElem (by omega)]
      rfl
    rw [e1, e2, ih, e3]
    split
    · rw [List.map_append]; rfl
    · rfl
def pcB (s : Nat) : Nat → Nat
  | 0 => 0
  | i + 1 => pcB s i + (s.testBit i).toNat
theorem selN_pc (C : List Int) (s : Nat) : ∀ k : Nat, (selN C s k).length = pcB s k
  | 0 => rfl
  | k + 1 => by
    have ih := selN_pc C s k
    unfold selN pcB
    by_cases c : s.testBit k = true
    · rw [if_pos c, List.length_append, ih, c]; rfl
    · rw [if_neg c, ih, bool_f c]; rfl
theorem pcB_hi {s n : Nat} (h : s < 2 ^ n) : ∀ k : Nat, pcB s (n + k) = pcB s n
  | 0 => rfl
  | k + 1 => by
    show pcB s (n + k) + (s.testBit (n + k)).toNat = _
    rw [pcB_hi h k, Nat.testBit_lt_two_pow (Nat.lt_of_lt_of_le h (Nat.pow_le_pow_right (by decide) (by omega)))]
    rfl
theorem popG_f : ∀ s : Fin 256, v_popI (s.1 : Int) = ((pcB s.1 8 : Nat) : Int) := by decide +kernel
theorem popG_e {C : List Int} (h8 : C.length ≤ 8) {s : Nat} (hs : s < 2 ^ C.length) : v_popI (s : Int) = ((selN C s C.length).length : Int) := by
  have p : 2 ^ C.length ≤ 2 ^ 8 := Nat.pow_le_pow_right (by decide) h8
  have e := popG_f ⟨s, by omega⟩
  simp only at e
  have k := pcB_hi hs (8 - C.length)
  rw [show C.length + (8 - C.length) = 8 by omega] at k
  rw [e, k, selN_pc]
def LbT (σ : Sg) (C : List Int) (ν : Mem) (k : Nat) : Prop := ∀ s : Nat, 1 ≤ s → s < k → rI ν 97 (s : Int) = lossI σ C s
def GbC (ν : Mem) (B : Gb) : Prop := rI ν 12663 0 = B.1 ∧ (¬ B.1 = -1 → rI ν 12664 0 = (B.2.1 : Int) ∧ ∀ v : Nat, v < 9 → rI ν 99 (v : Int) = ((grB B.2.2 v B.2.2.length : Nat) : Int))
def MbC (ν : Mem) (p : List Nat) : Prop := ∀ v : Nat, v < 9 → rI ν 98 (v : Int) = ((grB p v p.length : Nat) : Int)
def AlG (σ : Sg) (C : List Int) (most : Nat) (p : List Nat) (g : Nat) : Prop := g ≤ most ∧ (∀ v : Nat, v < g → ¬ lossI σ C (grB p v p.length) = -1 ∧ 1 ≤ grB p v p.length) ∧ PfW p g
def dfL : List Nat := [98, 12663, 12664, 99]
def DqC (σ : Sg) (C : List Int) (most : Nat) (ν : Mem) : Prop := rI ν 12654 0 = (C.length : Int) ∧ rI ν 12662 0 = (most : Int) ∧ LbT σ C ν (2 ^ C.length)
theorem DqC.fr {σ : Sg} {C : List Int} {most : Nat} {ν ξ : Mem} (h : DqC σ C most ν) (f : Fr dfL ν ξ) : DqC σ C most ξ := ⟨by rw [f.rdI rfl]; exact h.1, by rw [f.rdI rfl]; exact h.2.1, fun s s1 s2 => by rw [f.rdI rfl]; exact h.2.2 s s1 s2⟩
theorem grB_lt8 {C : List Int} (h8 : C.length ≤ 8) {p : List Nat} (hp : p.length ≤ C.length) (v : Nat) : grB p v p.length < 2 ^ C.length ∧ grB p v p.length < 256 := by
  have a := grB_lt p v p.length
  have b : (2 : Nat) ^ p.length ≤ 2 ^ C.length := Nat.pow_le_pow_right (by decide) hp
  have c : (2 : Nat) ^ C.length ≤ 2 ^ 8 := Nat.pow_le_pow_right (by decide) h8
  omega
theorem c_keepG {σ : Sg} {C : List Int} (h8 : C.length ≤ 8) {most : Nat} (hm : most ≤ 8) {p : List Nat} {g : Nat} {ν : Mem} (hd : DqC σ C most ν) (hp : p.length = C.length) (ha : AlG σ C most p g) (hM : MbC ν p) {B : Gb} (hB : GbC ν B) (hW : GbW C.length B) {K : Mem → Prop} (h : ∀ ξ : Mem, Fr dfL ν ξ → MbC ξ p → GbC ξ (updG σ C most B p g) → K ξ) : f_Comp_keepIfBetter (g : Int) ν K := by
  obtain ⟨a1, a2, a3⟩ := ha
  have r := lsP_rng (σ := σ) h8 p g
  have loop : ∀ (X : Int → Prop), (¬ lsP σ C p g = -1 → X (lsP σ C p g)) → ∀ (f k : Nat), k + f = g → ¬ lsP σ C p k = -1 → l_Comp_keepIfBetter_4 (g : Int) ν X (f + 1) (lsP σ C p k) (k : Int) := by
    intro X hX f
    induction f with
    | zero =>
      intro k e hk
      unfold l_Comp_keepIfBetter_4
      (try simp (disch := omega) only [w_id])
      rw [if_neg (by omega)]
      rw [show k = g by omega] at hk ⊢
      exact hX hk
    | succ f ih =>
      intro k e hk
      obtain ⟨b1, b2⟩ := a2 k (by omega)
      have lt := grB_lt8 h8 (p := p) (by omega) k
      unfold l_Comp_keepIfBetter_4
      (try simp (disch := omega) only [w_id])
      rw [if_pos (by omega), at_in (a := 98) (by omega) (by omega) (by decide), hM k (by omega), at_in (by omega) (by omega) (by decide), hd.2.2 _ b2 lt.1]
      intro v e2
      have es : lsP σ C p (k + 1) = lsP σ C p k + lossI σ C (grB p k p.length) := by
        show (if _ then _ else _) = _
        exact if_neg (fun z => z.elim hk b1)
      have r1 := lsP_rng (σ := σ) h8 p k
      have r2 := lossI_rng (σ := σ) h8 (grB p k p.length)
      have g' := ih (k + 1) (by omega) (by rw [es]; omega)
      rw [es] at g'
      rw [e2]
      exact g'
  unfold f_Comp_keepIfBetter
  refine ⟨g + 1, loop _ (fun ne => ?_) g 0 (by omega) (by show ¬ (0 : Int) = -1; omega)⟩
  have eu : updG σ C most B p g = if B.1 = -1 ∨ lsP σ C p g < B.1 ∨ (lsP σ C p g = B.1 ∧ g < B.2.1) then (lsP σ C p g, g, p) else B := by
    unfold updG
    rw [if_neg (fun z => z.elim (by omega) ne)]
  have set' : (B.1 = -1 ∨ lsP σ C p g < B.1 ∨ (lsP σ C p g = B.1 ∧ g < B.2.1)) → ∀ μ1 : Mem, μ1 = sI ν 12663 0 (lsP σ C p g) → ∀ μ2 : Mem, μ2 = sI μ1 12664 0 (g : Int) → f_H_copy 98 9 99 9 μ2 (fun μ3 => K μ3) := fun z μ1 e1 μ2 e2 => by
    have f2 : Fr [12663, 12664] ν μ2 := by rw [e2, e1]; exact ((FrP.refl _ _).wI (by decide)).wI (by decide)
    have k1 : rI μ2 12663 0 = lsP σ C p g := by rw [e2, rI_ne _ _ _ _ rfl, e1, rI_eq _ _ _ ⟨by omega, by omega⟩]
    have k2 : rI μ2 12664 0 = (g : Int) := by rw [e2, rI_eq _ _ _ ⟨by omega, by omega⟩]
    refine c_copy (by decide) (by decide) (fun ο fo co => ?_)
    refine h ο ((Fr.mono f2 rfl).trans (Fr.mono fo rfl)) (fun v hv => by rw [fo.rdI rfl, f2.rdI rfl]; exact hM v hv) ?_
    rw [eu, if_pos z]
    refine ⟨by rw [fo.rdI rfl]; exact k1, fun _ => ⟨by rw [fo.rdI rfl]; exact k2, fun v hv => ?_⟩⟩
    rw [co (v : Int) (by omega) (by omega), f2.rdI rfl]
    exact hM v hv
  have keep : ¬ (B.1 = -1 ∨ lsP σ C p g < B.1 ∨ (lsP σ C p g = B.1 ∧ g < B.2.1)) → K ν := fun z => by
    refine h ν (FrP.refl _ _) hM ?_
    rw [eu, if_neg z]
    exact hB
  rw [hB.1]
  have bw : -1 ≤ B.1 ∧ B.1 ≤ 4000 := by rcases hW with w1 | w1 <;> omega
  (try simp (disch := omega) only [w_id])
  refine ite_i (fun q1 => set' (Or.inl q1)) (fun q1 => ite_i (fun q2 => set' (Or.inr (Or.inl q2))) (fun q2 => ite_i (fun q3 => ?_) (fun q3 => keep (fun z => by omega))))
  have hg := (hB.2 q1).1
  have w8 : B.2.1 ≤ 8 := by rcases hW with w1 | w1 <;> omega
  rw [hg]
  (try simp (disch := omega) only [w_id])
  exact ite_i (fun q4 => set' (Or.inr (Or.inr ⟨q3, by omega⟩))) (fun q4 => keep (fun z => by omega))
theorem or_pos (a k : Nat) : 1 ≤ a ||| 2 ^ k := by
  by_cases z : a ||| 2 ^ k = 0
  · have : (a ||| 2 ^ k).testBit k = true := by rw [or_pow_bit, decide_eq_true rfl, Bool.or_true]
    rw [z, Nat.zero_testBit] at this
    cases this
  · omega
theorem AlG.s {σ : Sg} {C : List Int} {most : Nat} {p : List Nat} {g v : Nat} (h : AlG σ C most p g) (hv : v ≤ g) (hm : v < most) (hl : ¬ lossI σ C (grB p v p.length ||| 2 ^ p.length) = -1) : AlG σ C most (p ++ [v]) (if v = g then g + 1 else g) := by
  refine ⟨by have := h.1; split <;> omega, fun u hu => ?_, h.2.2.s hv⟩
  rw [grB_s]
  by_cases c : v = u
  · rw [if_pos c, ← c]
    exact ⟨hl, or_pos _ _⟩
  · rw [if_neg c]
    refine h.2.1 u ?_
    split at hu <;> omega
theorem dfs_w {σ : Sg} {C : List Int} {most : Nat} (h8 : C.length ≤ 8) (hm : most ≤ 8) : ∀ (f : Nat) (p : List Nat) (g : Nat) (B : Gb), p.length + f = C.length → PfW p g → GbW C.length B → GbW C.length (dfs σ C most f p g B)
  | 0, p, g, B, hp, hw, hB => updG_w h8 hm (by omega) hw hB
  | f + 1, p, g, B, hp, hw, hB => by
    show GbW C.length ((List.range (g + 1)).foldl _ B)
    have : ∀ k : Nat, k ≤ g + 1 → GbW C.length ((List.range k).foldl (fun B v => dfs σ C most f (p ++ [v]) (if v = g then g + 1 else g) B) B) := by
      intro k
      induction k with
      | zero => intro _; exact hB
      | succ k ih =>
        intro hk
        rw [List.range_succ, List.foldl_append]
        exact dfs_w h8 hm f (p ++ [k]) _ _ (by rw [List.length_append]; simp only [List.length_cons, List.length_nil]; omega) (hw.s (by omega)) (ih (by omega))
    exact this (g + 1) (Nat.le_refl _)
theorem c_place {σ : Sg} {C : List Int} (h8 : C.length ≤ 8) {most : Nat} (hm : most ≤ 8) : ∀ (f d : Nat) (p : List Nat) (g : Nat) (B : Gb) (ν : Mem) (K : Mem → Prop), f < d → p.length + f = C.length → DqC σ C most ν → AlG σ C most p g → MbC ν p → GbC ν B → GbW C.length B →
    (∀ ξ : Mem, Fr dfL ν ξ → MbC ξ p → GbC ξ (dfs σ C most f p g B) → K ξ) → R_Q d (p.length : Int) (g : Int) ν K
  | f, 0, p, g, B, ν, K, hf, hp, hd, ha, hM, hB, hW, h => by omega
  | 0, d + 1, p, g, B, ν, K, hf, hp, hd, ha, hM, hB, hW, h => by
    show f_Comp_placeMotion (R_Q d) (p.length : Int) (g : Int) ν K
    unfold f_Comp_placeMotion
    rw [hd.1]
    (try simp (disch := omega) only [w_id])
    rw [if_neg (by omega)]
    exact c_keepG h8 hm hd (by omega) ha hM hB hW h
  | f + 1, d + 1, p, g, B, ν, K, hf, hp, hd, ha, hM, hB, hW, h => by
    have g8 := ha.1
    show f_Comp_placeMotion (R_Q d) (p.length : Int) (g : Int) ν K
    unfold f_Comp_placeMotion
    rw [hd.1]
    (try simp (disch := omega) only [w_id])
    rw [if_pos (by omega)]
    have fold_s : ∀ k : Nat, (List.range (k + 1)).foldl (fun B v => dfs σ C most f (p ++ [v]) (if v = g then g + 1 else g) B) B = dfs σ C most f (p ++ [k]) (if k = g then g + 1 else g) ((List.range k).foldl (fun B v => dfs σ C most f (p ++ [v]) (if v = g then g + 1 else g) B) B) := fun k => by
      rw [List.range_succ, List.foldl_append]
      rfl
    have fin : dfs σ C most (f + 1) p g B = (List.range (g + 1)).foldl (fun B v => dfs σ C most f (p ++ [v]) (if v = g then g + 1 else g) B) B := rfl
    rw [fin] at h
    have lenS : ∀ v : Nat, (p ++ [v]).length = p.length + 1 := fun v => by rw [List.length_append]; rfl
    have loop : ∀ (r v : Nat) (ξ : Mem), v + r = g + 1 → Fr dfL ν ξ → MbC ξ p → GbC ξ ((List.range v).foldl (fun B v => dfs σ C most f (p ++ [v]) (if v = g then g + 1 else g) B) B) → GbW C.length ((List.range v).foldl (fun B v => dfs σ C most f (p ++ [v]) (if v = g then g + 1 else g) B) B) →
        l_Comp_placeMotion_16 (p.length : Int) (g : Int) K (R_Q d) (r + 1) (v : Int) ξ := by
      intro r
      induction r with
      | zero =>
        intro v ξ e fr m' b' w'
        unfold l_Comp_placeMotion_16
        (try simp (disch := omega) only [w_id])
        rw [if_pos (by omega)]
        rw [show v = g + 1 by omega] at b'
        exact h ξ fr m' b'
      | succ r ih =>
        intro v ξ e fr m' b' w'
        have hdx := hd.fr fr
        have fs := fold_s v
        generalize hBv : (List.range v).foldl (fun B v => dfs σ C most f (p ++ [v]) (if v = g then g + 1 else g) B) B = Bv at *
        have lt := grB_lt8 h8 (p := p) (by omega) v
        unfold l_Comp_placeMotion_16
        rw [hdx.2.1]
        (try simp (disch := omega) only [w_id])
        rw [if_neg (by omega)]
        refine ite_i (fun q => ?_) (fun q => ?_)
        · intro v4 e4 v5 e5
          rw [at_in (by omega) (by omega) (by decide), m' v (by omega)] at e4
          have k := ior_bit2 (v := grB p v p.length) (i := p.length) (n := 8) (by omega) (by omega) (by decide)
          rw [e4, k.1] at e5
          have l5 : grB p v p.length ||| 2 ^ p.length < 2 ^ C.length := Nat.or_lt_two_pow lt.1 (Nat.pow_lt_pow_right (by decide) (by omega))
          have p5 := or_pos (grB p v p.length) p.length
          have r5 := lossI_rng (σ := σ) h8 (grB p v p.length ||| 2 ^ p.length)
          have k2 := k.2
          rw [e5, at_in (by omega) (by omega) (by decide), hdx.2.2 _ p5 l5]
          (try simp (disch := omega) only [w_id])
          refine ite_i (fun q2 => ?_) (fun q2 => ?_)
          · have dd : dfs σ C most f (p ++ [v]) (if v = g then g + 1 else g) Bv = Bv := dfs_dead f _ _ _ (by rw [lenS]; omega) (Or.inr ⟨v, by split <;> omega, by rw [grB_s, if_pos rfl]; exact q2⟩)
            rw [dd] at fs
            have g' := ih (v + 1) ξ (by omega) fr m' (by rw [fs]; exact b') (by rw [fs]; exact w')
            exact g'
          · intro μ2 e2 x86 e86
            rw [set_in (by omega) (by omega) (by decide)] at e2
            have f2 : Fr dfL ξ μ2 := by rw [e2]; exact (FrP.refl _ _).wI (by decide)
            have e86' : x86 = (((if v = g then g + 1 else g) : Nat) : Int) := by
              rw [e86]
              by_cases c : v = g
              · rw [if_pos (by omega), if_pos c]; omega
              · rw [if_neg (by omega), if_neg c]
            have al := ha.s (v := v) (by omega) (by omega) q2
            rw [e86', show (p.length : Int) + 1 = ((p ++ [v]).length : Int) by rw [lenS]; omega]
            refine c_place h8 hm f d (p ++ [v]) (if v = g then g + 1 else g) Bv μ2 _ (by omega) (by rw [lenS]; omega) (hdx.fr f2) al (fun u hu => ?_) ?_ w' (fun ο fo mo bo μ4 e4' => ?_)
            · rw [grB_s, e2, rI_sI]
              by_cases c : v = u
              · rw [if_pos ⟨rfl, by omega⟩, if_pos c, c, ← c, w_id (by omega) (by omega)]
              · rw [if_neg (fun z => by omega), if_neg c]
                exact m' u hu
            · refine ⟨by rw [e2, rI_ne _ _ _ _ rfl]; exact b'.1, fun ne => ⟨by rw [e2, rI_ne _ _ _ _ rfl]; exact (b'.2 ne).1, fun u hu => by rw [e2, rI_ne _ _ _ _ rfl]; exact (b'.2 ne).2 u hu⟩⟩
            · rw [set_in (by omega) (by omega) (by decide)] at e4'
              have f4 : Fr dfL ο μ4 := by rw [e4']; exact (FrP.refl _ _).wI (by decide)
              have g' := ih (v + 1) μ4 (by omega) (((fr.trans f2).trans fo).trans f4) (fun u hu => by
                rw [e4', rI_sI]
                by_cases c : u = v
                · rw [if_pos ⟨rfl, by omega⟩, e4, c, w_id (by omega) (by omega)]
                · rw [if_neg (fun z => by omega), mo u hu, grB_s, if_neg (fun z => c z.symm)]) (by
                rw [fs]
                exact ⟨by rw [e4', rI_ne _ _ _ _ rfl]; exact bo.1, fun ne => ⟨by rw [e4', rI_ne _ _ _ _ rfl]; exact (bo.2 ne).1, fun u hu => by rw [e4', rI_ne _ _ _ _ rfl]; exact (bo.2 ne).2 u hu⟩⟩) (by
                rw [fs]
                exact dfs_w h8 hm f (p ++ [v]) _ Bv (by rw [lenS]; omega) al.2.2 w')
              exact g'
        · have evg : v = g := by omega
          have dd : dfs σ C most f (p ++ [v]) (if v = g then g + 1 else g) Bv = Bv := dfs_dead f _ _ _ (by rw [lenS]; omega) (Or.inl (by rw [if_pos evg]; omega))
          rw [dd, evg] at fs
          exact h ξ fr m' (by rw [fs]; exact b')
    exact ⟨g + 2, loop (g + 1) 0 ν (by omega) (FrP.refl _ _) hM hB hW⟩
noncomputable def gFin (σ : Sg) (C : List Int) (most : Nat) : Gb := dfs σ C most C.length [] 0 (-1, 0, [])
theorem gFin_w {σ : Sg} {C : List Int} {most : Nat} (h8 : C.length ≤ 8) (hm : most ≤ 8) : GbW C.length (gFin σ C most) := dfs_w h8 hm C.length [] 0 (-1, 0, []) (by simp) (fun i hi => absurd hi (by show ¬ i < 0; omega)) (Or.inl rfl)
def guL : List Nat := kmL ++ [97, 12662] ++ dfL
def gupL : List Nat := chL ++ guL
theorem c_groupUp {σ : Sg} {μ : Mem} (hI : Ic σ μ) {a b : Int} (ha : Rg a) (hb : Rg b) {K : Int → Mem → Prop}
    (h1 : vlR σ a 1 8 → (1 ≤ b ∧ b ≤ 8) → ∀ ξ : Mem, Fr gupL μ ξ → rI ξ 12654 0 = ((chN a.toNat 24).length : Int) → (∀ i : Nat, i < (chN a.toNat 24).length → rI ξ 92 (i : Int) = gI (chN a.toNat 24) i) → GbC ξ (gFin σ (chN a.toNat 24) b.toNat) → K (gFin σ (chN a.toNat 24) b.toNat).1 ξ)
    (h2 : ¬ (vlR σ a 1 8 ∧ (1 ≤ b ∧ b ≤ 8)) → ∀ ξ : Mem, Fr gupL μ ξ → K (-1) ξ) : f_Comp_groupUp a b μ K := by
  obtain ⟨b0, b1⟩ := hb
  unfold f_Comp_groupUp
  (try simp (disch := omega) only [w_id])
  refine ite_i (fun q => h2 (fun z => by omega) μ (FrP.refl _ _)) (fun q => ite_i (fun q2 => h2 (fun z => by omega) μ (FrP.refl _ _)) (fun q2 => ?_))
  refine c_choose hI ha (fun v ν fr R hv => ?_) (fun nv ν fr z => ?_)
  · have l8 := v.2.1
    have rl : ((chN a.toNat 24).map (rowOf σ)).length = (chN a.toNat 24).length := List.length_map ..
    have em : rI ν 12654 0 = ((chN a.toNat 24).length : Int) := by rw [R.1, rl]
    rw [em]
    (try simp (disch := omega) only [w_id])
    refine ite_i (fun q3 => h2 (fun z => by have := z.1.2; omega) ν (Fr.mono fr rfl)) (fun q3 => ?_)
    have hC : ∀ i : Nat, i < (chN a.toNat 24).length → 0 ≤ gI (chN a.toNat 24) i ∧ gI (chN a.toNat 24) i < 24 := fun i hi => chN_rng (gI_mem hi)
    generalize hCe : chN a.toNat 24 = C at *
    have p8 : 2 ^ C.length ≤ 2 ^ 8 := Nat.pow_le_pow_right (by decide) l8
    have p1 : 1 ≤ 2 ^ C.length := Nat.one_le_two_pow
    have loop : ∀ (X : Mem → Prop), (∀ ξ : Mem, Fr (kmL ++ [97]) ν ξ → LbT σ C ξ (2 ^ C.length) → X ξ) → ∀ (f s : Nat) (ξ : Mem), 1 ≤ s → s + f = 2 ^ C.length → Fr (kmL ++ [97]) ν ξ → LbT σ C ξ s → l_Comp_groupUp_29 b X (f + 1) (s : Int) ξ := by
      intro X hX f
      induction f with
      | zero =>
        intro s ξ s1 e fx ht
        have sh := ishl_f ⟨C.length, by omega⟩
        simp only at sh
        unfold l_Comp_groupUp_29
        rw [fx.rdI rfl, em, sh]
        (try simp (disch := omega) only [w_id])
        rw [if_neg (by omega)]
        rw [show s = 2 ^ C.length by omega] at ht
        exact hX ξ fx ht
      | succ f ih =>
        intro s ξ s1 e fx ht
        have sh := ishl_f ⟨C.length, by omega⟩
        simp only at sh
        have lt : s < 2 ^ C.length := by omega
        have pe := popG_e (C := C) l8 (s := s) lt
        have sl := selN_len C s C.length
        have put : ∀ (ξ2 μ3 : Mem) (x : Int), Fr (kmL ++ [97]) ξ ξ2 → (∀ j : Int, rI ξ2 97 j = rI ξ 97 j) → x = lossI σ C s → μ3 = set' ξ2 97 256 (s : Int) x → l_Comp_groupUp_29 b X (f + 1) ((s : Int) + 1) μ3 := fun ξ2 μ3 x f2 kk ex e3 => by
          have lr := lossI_rng (σ := σ) l8 s
          rw [set_in (by omega) (by omega) (by decide)] at e3
          have g := ih (s + 1) μ3 (by omega) (by omega) (by rw [e3]; exact (fx.trans f2).wI (by decide)) (fun t t1 t2 => by
            rw [e3, rI_sI]
            by_cases c : t = s
            · rw [if_pos ⟨rfl, by omega⟩, ex, c, w_id (by omega) (by omega)]
            · rw [if_neg (fun z => by omega), kk]
              exact ht t t1 (by omega))
          exact g
        unfold l_Comp_groupUp_29
        rw [fx.rdI rfl, em, sh, pe]
        (try simp (disch := omega) only [w_id])
        rw [if_pos (by omega)]
        refine ite_i (fun q4 => fun μ3 e3 => ?_) (fun q4 => ?_)
        · refine put ξ μ3 0 (FrP.refl _ _) (fun _ => rfl) ?_ e3
          unfold lossI
          rw [pick_t (by omega)]
        · have Rx : ChR ξ (C.map (rowOf σ)) := R.fr fx rfl
          have es : subN (C.map (rowOf σ)) s (C.map (rowOf σ)).length = rwS σ C s := by
            rw [rl, subN_sel C.length (Nat.le_refl _)]
            rfl
          refine c_compose hI ((Fr.qt fr rfl).trans (Fr.qt fx rfl)) Rx (s := s) (by omega) (fun ok ξ2 f2 _ _ _ μ5 e5 => ?_) (fun no ξ2 f2 μ5 e5 => ?_)
          · rw [es] at ok e5
            refine put ξ2 μ5 _ (Fr.mono f2 rfl) (fun j => f2.rdI rfl) ?_ e5
            unfold lossI
            rw [pick_f (fun z => q4 (by omega)), pick_t ok]
          · rw [es] at no
            refine put ξ2 μ5 _ (Fr.mono f2 rfl) (fun j => f2.rdI rfl) ?_ e5
            unfold lossI
            rw [pick_f (fun z => q4 (by omega)), pick_f no]
    refine ⟨2 ^ C.length - 1 + 1, loop _ (fun ξ fx ht => ?_) (2 ^ C.length - 1) 1 ν (Nat.le_refl _) (by omega) (FrP.refl _ _) (fun t t1 t2 => by omega)⟩
    intro μ7 e7 μ8 e8
    refine c_fill (by decide) (fun ξ9 f9 v9 => ?_)
    have f8 : Fr [12662, 12663] ξ μ8 := by rw [e8, e7]; exact ((FrP.refl _ _).wI (by decide)).wI (by decide)
    have f09 : Fr guL ν ξ9 := ((Fr.mono fx rfl : Fr guL ν ξ).trans (Fr.mono f8 rfl)).trans (Fr.mono f9 rfl)
    have hd : DqC σ C b.toNat ξ9 := ⟨by rw [f9.rdI rfl, f8.rdI rfl, fx.rdI rfl]; exact em, by rw [f9.rdI rfl, e8, rI_ne _ _ _ _ rfl, e7, rI_eq _ _ _ ⟨by omega, by omega⟩]; omega, fun s s1 s2 => by rw [f9.rdI rfl, f8.rdI rfl]; exact ht s s1 s2⟩
    have g := c_place (σ := σ) (C := C) l8 (most := b.toNat) (by omega) C.length 12 [] 0 (-1, 0, []) ξ9 (fun μ_10 => K (rI μ_10 12663 0) μ_10) (by omega) (by simp) hd ⟨Nat.zero_le _, fun v hv => by omega, fun i hi => absurd hi (by show ¬ i < 0; omega)⟩ (fun v hv => by
      rw [v9 (v : Int) (by omega) (by omega)]
      rfl) ⟨by rw [f9.rdI rfl, e8, rI_eq _ _ _ ⟨by decide, by decide⟩], fun z => absurd rfl z⟩ (Or.inl rfl) (fun ξ10 f10 _ bc => ?_)
    · exact g
    · have bc' : GbC ξ10 (gFin σ C b.toNat) := bc
      rw [bc'.1]
      refine h1 ⟨v, by rw [hCe]; omega⟩ ⟨by omega, by omega⟩ ξ10 ((Fr.mono fr rfl : Fr gupL μ ν).trans ((Fr.mono f09 rfl).trans (Fr.mono f10 rfl))) ?_ (fun i hi => ?_) bc'
      · rw [f10.rdI rfl, f09.rdI rfl]; exact em
      · rw [f10.rdI rfl, f09.rdI rfl]; exact hv i hi
  · rw [z, if_pos (by decide)]
    exact h2 (fun y => nv y.1.1) ν (Fr.mono fr rfl)
/-- the group in which a motion lies -/
def idxO (C : List Int) (m : Int) : Nat → Option Nat
  | 0 => none
  | i + 1 => match idxO C m i with
    | some j => some j
    | none => if gI C i = m then some i else none
theorem c_groupOf {C : List Int} (h8 : C.length ≤ 8) (hs : Srt C) {B : Gb} (hW : GbW C.length B) (hn : ¬ B.1 = -1) {ν : Mem} (em : rI ν 12654 0 = (C.length : Int)) (hv : ∀ i : Nat, i < C.length → rI ν 92 (i : Int) = gI C i) (hC : ∀ i : Nat, i < C.length → 0 ≤ gI C i ∧ gI C i < 24) (hB : GbC ν B) {m : Int} (hm : Rg m) {K : Int → Mem → Prop}
    (h1 : ∀ i : Nat, i < C.length → gI C i = m → K ((B.2.2.getD i 0 : Nat) : Int) ν) (h2 : (∀ i : Nat, i < C.length → ¬ gI C i = m) → K (-1) ν) : f_Comp_groupOf m ν K := by
  obtain ⟨bg, bm⟩ := hB.2 hn
  rcases hW with w0 | ⟨w1, w2, w3, w4, w5⟩
  · exact absurd w0 hn
  obtain ⟨m0, m1⟩ := hm
  have loop2 : ∀ (v : Nat), v < B.2.1 → ∀ (X : Prop), ((∀ i : Nat, i < C.length → gI C i = m → ¬ B.2.2.getD i 0 = v) → X) → ∀ (f i : Nat), i + f = C.length → (∀ j : Nat, j < i → gI C j = m → ¬ B.2.2.getD j 0 = v) → l_Comp_groupOf_12 m ν (v : Int) X K (f + 1) (i : Int) := by
    intro v hvB X hX f
    have bmv := bm v (by omega)
    have gl := grB_lt8 h8 (p := B.2.2) (by omega) v
    induction f with
    | zero =>
      intro i e hj
      unfold l_Comp_groupOf_12
      rw [em]
      (try simp (disch := omega) only [w_id])
      rw [if_neg (by omega)]
      exact hX (fun j hjl ej => hj j (by omega) ej)
    | succ f ih =>
      intro i e hj
      have hi : i < C.length := by omega
      have cr := hC i hi
      have next : (gI C i = m → ¬ B.2.2.getD i 0 = v) → l_Comp_groupOf_12 m ν (v : Int) X K (f + 1) ((i : Int) + 1) := fun z => by
        have g := ih (i + 1) (by omega) (fun j hjl ej => by
          by_cases c : j = i
          · rw [c] at ej ⊢; exact z ej
          · exact hj j (by omega) ej)
        exact g
      unfold l_Comp_groupOf_12
      rw [em, at_in (a := 92) (by omega) (by omega) (by decide), hv i hi, at_in (by omega) (by omega) (by decide), bmv]
      (try simp (disch := omega) only [w_id])
      rw [if_pos (by omega)]
      refine ite_i (fun q => ?_) (fun q => next (fun z => absurd z q))
      rw [bit_e (v := ((grB B.2.2 v B.2.2.length : Nat) : Int)) (i := (i : Int)) (by omega) (by omega), show (((grB B.2.2 v B.2.2.length : Nat) : Int).toNat) = grB B.2.2 v B.2.2.length by omega, show ((i : Int).toNat) = i by omega, grB_bit]
      by_cases c : B.2.2.getD i 0 = v
      · rw [decide_eq_true ⟨by omega, c⟩, if_pos rfl, if_neg (by decide)]
        have := h1 i hi q
        rw [c] at this
        exact this
      · rw [decide_eq_false (fun z => c z.2), if_pos (by decide)]
        exact next (fun _ => c)
  have loop : ∀ (f v : Nat), v + f = B.2.1 → (∀ i : Nat, i < C.length → gI C i = m → ¬ B.2.2.getD i 0 < v) → l_Comp_groupOf_2 m ν K (f + 1) (v : Int) := by
    intro f
    induction f with
    | zero =>
      intro v e hj
      unfold l_Comp_groupOf_2
      rw [bg]
      (try simp (disch := omega) only [w_id])
      rw [if_neg (by omega)]
      exact h2 (fun i hi ei => hj i hi ei (by have := w5 i hi; omega))
    | succ f ih =>
      intro v e hj
      unfold l_Comp_groupOf_2
      rw [bg]
      (try simp (disch := omega) only [w_id])
      rw [if_pos (by omega)]
      refine ⟨C.length + 1, loop2 v (by omega) _ (fun z => ?_) C.length 0 (by omega) (fun j hj => by omega)⟩
      have g := ih (v + 1) (by omega) (fun i hi ei => by
        have a := hj i hi ei
        have b := z i hi ei
        omega)
      exact g
  unfold f_Comp_groupOf
  exact ⟨B.2.1 + 1, loop B.2.1 0 (by omega) (fun i _ _ z => by omega)⟩
