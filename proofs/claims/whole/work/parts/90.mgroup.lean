/-! GROUPING, the model's side -/
def ZrM (n : Nat) (ν : Mem) (p : List Nat) : Prop := (∀ i : Nat, i < p.length → rI ν 164 (i : Int) = ((p.getD i 0 : Nat) : Int)) ∧ ∀ i : Nat, p.length ≤ i → i < n → rI ν 164 (i : Int) = 0
theorem ZrM.fr {L : List Nat} {n : Nat} {ν ξ : Mem} {p : List Nat} (h : ZrM n ν p) (f : Fr L ν ξ) (hL : lel L 164 = false) : ZrM n ξ p := ⟨fun i hi => by rw [f.rdI hL]; exact h.1 i hi, fun i h1 h2 => by rw [f.rdI hL]; exact h.2 i h1 h2⟩
def GmM (n : Nat) (ν : Mem) (B : Gb) : Prop := ¬ B.1 = -1 → ∀ i : Nat, i < n → rI ν 165 (i : Int) = ((B.2.2.getD i 0 : Nat) : Int)
theorem m_groupsOf {C : List Int} (h8 : C.length ≤ 8) {p : List Nat} (hp : p.length = C.length) {g : Nat} (hw : PfW p g) (hg : g ≤ 8) {ν : Mem} (hS : SeM ν C) (hz : ZrM C.length ν p) {K : Int → Mem → Prop} (h : K ((mxG p p.length : Nat) : Int) ν) : f_M_groupsOf ν K := by
  have bd : ∀ k : Nat, k ≤ p.length → mxG p k ≤ 9 := by
    intro k
    induction k with
    | zero => intro _; exact Nat.zero_le _
    | succ k ih =>
      intro hk
      have := ih (by omega)
      have := hw k (by omega)
      unfold mxG
      split <;> omega
  have loop : ∀ (f k : Nat), k + f = C.length → l_M_groupsOf_4 ν (fun (v1_2 : Int) => K v1_2 ν) (f + 1) ((mxG p k : Nat) : Int) (k : Int) := by
    intro f
    induction f with
    | zero =>
      intro k e
      unfold l_M_groupsOf_4
      rw [hS.1]
      (try simp (disch := omega) only [w_id])
      rw [if_neg (by omega), show k = p.length by omega]
      exact h
    | succ f ih =>
      intro k e
      have b := bd k (by omega)
      have pk := hw k (by omega)
      have st : mxG p (k + 1) = if p.getD k 0 < mxG p k then mxG p k else p.getD k 0 + 1 := rfl
      have g' := ih (k + 1) (by omega)
      unfold l_M_groupsOf_4
      rw [hS.1]
      (try simp (disch := omega) only [w_id])
      rw [if_pos (by omega), hz.1 k (by omega)]
      (try simp (disch := omega) only [w_id])
      refine ⟨by omega, by omega, ite_i (fun q => ?_) (fun q => ⟨by omega, by omega, fun v ev => ?_⟩)⟩
      · rw [if_pos (by omega)] at st
        rw [st] at g'
        exact g'
      · rw [if_neg (by omega)] at st
        rw [st] at g'
        rw [ev]
        exact g'
  unfold f_M_groupsOf
  exact ⟨C.length + 1, loop C.length 0 (by omega)⟩
def BaM (σ : Sg) (C : List Int) (ν : Mem) : Prop := MS ν = σ ∧ SeM ν C
def grmL : List Nat := coL ++ [164, 165]
theorem BaM.fr {σ : Sg} {C : List Int} {ν ξ : Mem} (h : BaM σ C ν) (f : Fr grmL ν ξ) : BaM σ C ξ := ⟨(f.qt rfl).2.2.1.trans h.1, h.2.fr f rfl⟩
theorem m_loses {σ : Sg} (hq : QS σ) (hrw : RwW σ) {C : List Int} (h8 : C.length ≤ 8) (hsr : Srt C) (hC : ∀ i : Nat, i < C.length → 0 ≤ gI C i ∧ gI C i < σ 15472 0) {p : List Nat} (hp : p.length = C.length) {g : Nat} (hw : PfW p g) (hg : g ≤ 8) {ν : Mem} (hb : BaM σ C ν) (hz : ZrM C.length ν p) {K : Int → Mem → Prop} (h : ∀ ξ : Mem, Fr coL ν ξ → K (lsP σ C p g) ξ) : f_M_loses (g : Int) ν K := by
  have hct := hrw.1
  have hC24 : ∀ i : Nat, i < C.length → 0 ≤ gI C i ∧ gI C i < 24 := fun i hi => ⟨(hC i hi).1, by have := (hC i hi).2; omega⟩
  have loop15 : ∀ (ξ : Mem) (v : Nat) (v2 : Int) (X : Int → Prop), v < g → BaM σ C ξ → ZrM C.length ξ p → X ((mbN C (grB p v p.length) C.length : Nat) : Int) → ∀ (f k : Nat), k + f = C.length → l_M_loses_15 (g : Int) ξ v2 (v : Int) X (f + 1) ((mbN C (grB p v p.length) k : Nat) : Int) (k : Int) := by
    intro ξ v v2 X hv bξ zξ hX f
    induction f with
    | zero =>
      intro k e
      unfold l_M_loses_15
      rw [bξ.2.1]
      (try simp (disch := omega) only [w_id])
      rw [if_neg (by omega), show k = C.length by omega]
      exact hX
    | succ f ih =>
      intro k e
      have hk : k < C.length := by omega
      have ck := hC24 k hk
      have pk := hw k (by omega)
      have lt := mbN_lt (C := C) (s := grB p v p.length) hC24 k (by omega)
      have st : mbN C (grB p v p.length) (k + 1) = if (grB p v p.length).testBit k = true then mbN C (grB p v p.length) k ||| 2 ^ (gI C k).toNat else mbN C (grB p v p.length) k := rfl
      rw [grB_bit] at st
      have g' := ih (k + 1) (by omega)
      unfold l_M_loses_15
      rw [bξ.2.1]
      (try simp (disch := omega) only [w_id])
      rw [if_pos (by omega), zξ.1 k (by omega)]
      (try simp (disch := omega) only [w_id])
      refine ⟨by omega, by omega, ite_i (fun q => ⟨by omega, by omega, fun v4 e4 => ?_⟩) (fun q => ?_)⟩
      · rw [decide_eq_true ⟨by omega, by omega⟩, if_pos rfl] at st
        rw [st] at g'
        have kk := ior_bit2 (v := mbN C (grB p v p.length) k) (i := (gI C k).toNat) (n := 24) lt (by omega) (by decide)
        rw [bξ.2.2 k hk, show gI C k = (((gI C k).toNat : Nat) : Int) by omega, kk.1] at e4
        rw [e4]
        exact g'
      · rw [decide_eq_false (fun z => q (by omega)), if_neg (by decide)] at st
        rw [st] at g'
        exact g'
  have loop : ∀ (f v : Nat) (ξ : Mem), v + f = g → Fr coL ν ξ → ¬ lsP σ C p v = -1 → l_M_loses_4 (g : Int) K (f + 1) (lsP σ C p v) (v : Int) ξ := by
    intro f
    induction f with
    | zero =>
      intro v ξ e fr hl
      unfold l_M_loses_4
      (try simp (disch := omega) only [w_id])
      rw [if_neg (by omega), show v = g by omega]
      exact h ξ fr
    | succ f ih =>
      intro v ξ e fr hl
      have bξ := hb.fr (Fr.mono fr rfl)
      have zξ := hz.fr fr rfl
      have lt := mbN_lt (C := C) (s := grB p v p.length) hC24 C.length (Nat.le_refl _)
      have cm := chN_mbN hsr hC24 (grB p v p.length)
      have sl := selN_len C (grB p v p.length) C.length
      have r1 := lsP_rng (σ := σ) h8 p v
      have r2 := lossI_rng (σ := σ) h8 (grB p v p.length)
      have es : ¬ lossI σ C (grB p v p.length) = -1 → lsP σ C p (v + 1) = lsP σ C p v + lossI σ C (grB p v p.length) := fun z => by
        show (if _ then _ else _) = _
        exact if_neg (fun y => y.elim hl z)
      unfold l_M_loses_4
      (try simp (disch := omega) only [w_id])
      rw [if_pos (by omega)]
      refine ⟨C.length + 1, loop15 ξ v _ _ (by omega) bξ zξ ?_ C.length 0 (by omega)⟩
      refine m_bitsOf ⟨by omega, by omega⟩ ?_
      rw [show (((mbN C (grB p v p.length) C.length : Nat) : Int).toNat) = mbN C (grB p v p.length) C.length by omega, cm]
      (try simp (disch := omega) only [w_id])
      refine ite_i (fun q => ?_) (fun q => ?_)
      · have l0 : lossI σ C (grB p v p.length) = 0 := by unfold lossI; rw [pick_t (by omega)]
        have g' := ih (v + 1) ξ (by omega) fr (by rw [es (by omega), l0]; omega)
        rw [es (by omega), l0, Int.add_zero] at g'
        exact g'
      · have er : rwB σ ((mbN C (grB p v p.length) C.length : Nat) : Int) = rwS σ C (grB p v p.length) := by
          unfold rwB rwS
          rw [show (((mbN C (grB p v p.length) C.length : Nat) : Int).toNat) = mbN C (grB p v p.length) C.length by omega, cm]
        have lo : lossI σ C (grB p v p.length) = pick (okC (lenI σ (Fo σ)).toNat (rwS σ C (grB p v p.length))) ((loC (lenI σ (Fo σ)).toNat (rwS σ C (grB p v p.length)) : Nat) : Int) (-1) := by
          unfold lossI
          rw [pick_f (by omega)]
        refine m_composes (by unfold QM; rw [bξ.1]; exact hq) (by rw [bξ.1]; exact hrw) ⟨by omega, by omega⟩ (fun m hm hbm => ?_) (by rw [show (((mbN C (grB p v p.length) C.length : Nat) : Int).toNat) = mbN C (grB p v p.length) C.length by omega, cm]; omega) (fun ok ο fo co lo' => ?_) (fun no ο fo => ?_)
        · rw [show (((mbN C (grB p v p.length) C.length : Nat) : Int).toNat) = mbN C (grB p v p.length) C.length by omega] at hbm
          obtain ⟨i, i1, i2, i3⟩ := mbN_bit.mp hbm
          have := hC i i1
          rw [bξ.1]
          omega
        · rw [bξ.1, er] at ok lo'
          rw [pick_t ok] at lo
          rw [if_pos rfl]
          intro v2 e2
          rw [lo', ← lo] at e2
          have g' := ih (v + 1) ο (by omega) (fr.trans fo) (by rw [es (by omega)]; omega)
          rw [es (by omega)] at g'
          rw [e2]
          exact g'
        · rw [bξ.1, er] at no
          rw [pick_f no] at lo
          rw [if_neg (by decide)]
          have bad := lsP_bad2 (σ := σ) (C := C) (p := p) (k := v) (g := g) (by omega) lo
          rw [← bad]
          exact h ο (fr.trans fo)
  unfold f_M_loses
  exact ⟨g + 1, loop g 0 ν (by omega) (FrP.refl _ _) (by show ¬ (0 : Int) = -1; omega)⟩
def cuX (k : Bool → Mem → Prop) : Int → Mem → Prop := fun (v1_2 : Int) (μ_3 : Mem) => 0 ≤ w v1_2 ∧ w v1_2 < ((8 : Nat) : Int) ∧ 0 ≤ w v1_2 ∧ w v1_2 < ((8 : Nat) : Int) ∧ ∀ μ_4 : Mem, μ_4 = sI μ_3 164 (w v1_2) ((rI μ_3 164 (w v1_2)) + 1) → k true μ_4
theorem m_cu15 {C : List Int} (h8 : C.length ≤ 8) {p : List Nat} (hp : p.length ≤ C.length) {g : Nat} (hw : PfW p g) (hg : g ≤ 8) {ν : Mem} (hz : ∀ i : Nat, i < p.length → rI ν 164 (i : Int) = ((p.getD i 0 : Nat) : Int)) {X : Int → Prop} (h : X ((mxG p p.length : Nat) : Int)) : l_M_countsUp_15 ν (p.length : Int) X (p.length + 1) 0 0 := by
  have bd : ∀ k : Nat, k ≤ p.length → mxG p k ≤ 9 := by
    intro k
    induction k with
    | zero => intro _; exact Nat.zero_le _
    | succ k ih =>
      intro hk
      have := ih (by omega)
      have := hw k (by omega)
      unfold mxG
      split <;> omega
  have loop : ∀ (f k : Nat), k + f = p.length → l_M_countsUp_15 ν (p.length : Int) X (f + 1) ((mxG p k : Nat) : Int) (k : Int) := by
    intro f
    induction f with
    | zero =>
      intro k e
      unfold l_M_countsUp_15
      (try simp (disch := omega) only [w_id])
      rw [if_neg (by omega), show k = p.length by omega]
      exact h
    | succ f ih =>
      intro k e
      have b := bd k (by omega)
      have pk := hw k (by omega)
      have st : mxG p (k + 1) = if p.getD k 0 < mxG p k then mxG p k else p.getD k 0 + 1 := rfl
      have g' := ih (k + 1) (by omega)
      unfold l_M_countsUp_15
      (try simp (disch := omega) only [w_id])
      rw [if_pos (by omega), hz k (by omega)]
      (try simp (disch := omega) only [w_id])
      refine ⟨by omega, by omega, ite_i (fun q => ?_) (fun q => ⟨by omega, by omega, fun v ev => ?_⟩)⟩
      · rw [if_pos (by omega)] at st
        rw [st] at g'
        exact g'
      · rw [if_neg (by omega)] at st
        rw [st] at g'
        rw [ev]
        exact g'
  exact loop p.length 0 (by omega)
theorem m_leaf {σ : Sg} (hq : QS σ) (hrw : RwW σ) {C : List Int} (h8 : C.length ≤ 8) (hsr : Srt C) (hC : ∀ i : Nat, i < C.length → 0 ≤ gI C i ∧ gI C i < σ 15472 0) {most : Nat} (hm : most ≤ 8) {p : List Nat} (hp : p.length = C.length) {g : Nat} (hw : PfW p g) (hg : g ≤ 8) (hx : mxG p p.length = g) {B : Gb} (hB : GbW C.length B) {ν : Mem} (hb : BaM σ C ν) (hz : ZrM C.length ν p) (hgm : GmM C.length ν B) {X : Int → Mem → Prop} {m' : Nat}
    (h : ∀ ξ : Mem, Fr grmL ν ξ → ZrM C.length ξ p → GmM C.length ξ (updG σ C most B p g) → l_M_countsUp_7 (cuX (fun r μ => l_M_groups_68 (most : Int) X m' (updG σ C most B p g).1 ((updG σ C most B p g).2.1 : Int) r μ)) (fun r μ => l_M_groups_68 (most : Int) X m' (updG σ C most B p g).1 ((updG σ C most B p g).2.1 : Int) r μ) (p.length + 1) ((p.length : Int) - 1) ξ) :
    l_M_groups_68 (most : Int) X (m' + 1) B.1 (B.2.1 : Int) true ν := by
  have r := lsP_rng (σ := σ) h8 p g
  have bw : -1 ≤ B.1 ∧ B.1 ≤ 4000 := by rcases hB with w1 | w1 <;> omega
  have cu : ∀ (ξ : Mem) (k : Bool → Mem → Prop), Fr grmL ν ξ → l_M_countsUp_7 (cuX k) k (p.length + 1) ((p.length : Int) - 1) ξ → f_M_countsUp ξ k := fun ξ k fr z => by
    unfold f_M_countsUp
    intro v1 e1
    rw [(hb.fr fr).2.1] at e1
    refine ⟨p.length + 1, ?_⟩
    rw [e1, ← hp]
    exact z
  have keep : ∀ ξ : Mem, Fr coL ν ξ → updG σ C most B p g = B → f_M_countsUp ξ (fun r μ => l_M_groups_68 (most : Int) X m' B.1 (B.2.1 : Int) r μ) := fun ξ fr z => by
    have := h ξ (Fr.mono fr rfl) (hz.fr fr rfl) (by rw [z]; exact fun ne i hi => by rw [fr.rdI rfl]; exact hgm ne i hi)
    rw [z] at this
    exact cu ξ _ (Fr.mono fr rfl) this
  have take : ∀ ξ : Mem, Fr coL ν ξ → updG σ C most B p g = (lsP σ C p g, g, p) → f_M_copies 164 8 165 8 ξ (fun μ_11 => f_M_countsUp μ_11 (fun r μ => l_M_groups_68 (most : Int) X m' (lsP σ C p g) (g : Int) r μ)) := fun ξ fr z => by
    refine m_copies2 (by decide) (by decide) (fun ο fo co => ?_)
    have fο : Fr grmL ν ο := (Fr.mono fr rfl : Fr grmL ν ξ).trans (Fr.mono fo rfl)
    have := h ο fο ((hz.fr fr rfl).fr fo rfl) (by
      rw [z]
      intro _ i hi
      rw [co (i : Int) (by omega) (by omega)]
      exact (hz.fr fr rfl).1 i (by omega))
    rw [z] at this
    exact cu ο _ fο this
  have body : ∀ (s0 : Int) (ξ : Mem), Fr coL ν ξ → (s0 = if most < g then -1 else lsP σ C p g) → b_M_groups_95 (l_M_groups_68 (most : Int) X m') (most : Int) B.1 (B.2.1 : Int) (g : Int) s0 ξ := fun s0 ξ fr es => by
    have s0r : -1 ≤ s0 ∧ s0 ≤ 480 * (g : Int) := by rw [es]; split <;> omega
    unfold b_M_groups_95
    (try simp (disch := omega) only [w_id])
    refine ite_i (fun q => keep ξ fr ?_) (fun q => ?_)
    · unfold updG
      refine if_pos ?_
      by_cases c : most < g
      · exact Or.inl c
      · rw [if_neg c] at es
        exact Or.inr (by omega)
    · have nm : ¬ most < g := fun z => q (by rw [es, if_pos z])
      rw [if_neg nm] at es
      subst es
      have eu : updG σ C most B p g = if B.1 = -1 ∨ lsP σ C p g < B.1 ∨ (lsP σ C p g = B.1 ∧ g < B.2.1) then (lsP σ C p g, g, p) else B := by
        unfold updG
        rw [if_neg (fun z => z.elim nm q)]
      refine ite_i (fun q1 => take ξ fr (by rw [eu, if_pos (Or.inl q1)])) (fun q1 => ite_i (fun q2 => take ξ fr (by rw [eu, if_pos (Or.inr (Or.inl q2))])) (fun q2 => ite_i (fun q3 => ?_) (fun q3 => keep ξ fr (by rw [eu, if_neg (fun z => by omega)]))))
      have w8 : B.2.1 ≤ 8 := by rcases hB with w1 | w1 <;> omega
      (try simp (disch := omega) only [w_id])
      exact ite_i (fun q4 => take ξ fr (by rw [eu, if_pos (Or.inr (Or.inr ⟨q3, by omega⟩))])) (fun q4 => keep ξ fr (by rw [eu, if_neg (fun z => by omega)]))
  unfold l_M_groups_68
  rw [if_pos rfl]
  refine m_groupsOf h8 hp hw hg hb.2 hz ?_
  rw [hx]
  (try simp (disch := omega) only [w_id])
  refine ite_i (fun q => body (-1) ν (FrP.refl _ _) (by rw [if_pos (by omega)])) (fun q => ?_)
  exact m_loses hq hrw h8 hsr hC hp hw hg hb hz (fun ξ fr => body _ ξ fr (by rw [if_neg (by omega)]))
