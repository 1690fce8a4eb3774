/-! THE FLOOR: how MATTERS are, LINES, what STANDS, what is IN FORCE; the class's side -/
abbrev Fl : Type := (Int → Int) × (Int → List Ln) × (Int → Int) × Int
def FlA (ν : Mem) (F : Fl) : Prop := (∀ x : Int, 0 ≤ x → x < 210 → rI ν 68 x = F.1 x) ∧ (∀ m : Int, 0 ≤ m → m < 24 → RowC ν m (F.2.1 m)) ∧
  (∀ n : Nat, 1 ≤ n → n ≤ 60 → (btl (rL ν 9582 0) n = true ↔ F.2.2.1 (n : Int) = 1) ∧ (btl (rL ν 9583 0) n = true ↔ F.2.2.1 (n : Int) = -1)) ∧
  (∀ n : Nat, n < 1 ∨ 60 < n → btl (rL ν 9582 0) n = false ∧ btl (rL ν 9583 0) n = false) ∧ rI ν 9584 0 = F.2.2.2
/-- what a floor must be, whoever holds it -/
def FlW (σ : Sg) (F : Fl) : Prop := (∀ x : Int, -1 ≤ F.1 x ∧ F.1 x ≤ 4) ∧ (∀ x : Int, isMt σ x → 0 ≤ F.1 x) ∧ (∀ x : Int, ¬ isMt σ x → F.1 x = -1) ∧ (∀ m : Int, 0 ≤ m → m < 24 → WfL (F.2.1 m)) ∧ (∀ m : Int, σ 15472 0 ≤ m → m < 24 → F.2.1 m = []) ∧
  (∀ n : Int, 1 ≤ n → n ≤ 60 → -1 ≤ F.2.2.1 n ∧ F.2.2.1 n ≤ 1) ∧ -1 ≤ F.2.2.2 ∧ F.2.2.2 < σ 15479 0
def flC (σ : Sg) : Fl := (hw σ, rowOf σ, stO σ, Fo σ)
theorem Ic.flA {σ : Sg} {μ : Mem} (h : Ic σ μ) : FlA μ (flC σ) := ⟨fun x h0 h1 => h.hwc h0 h1, fun m h0 h1 => (h.row h0 h1).1, fun n h1 h2 => (h.stand h1 h2).2.2, fun n hn => h.standz hn, h.force⟩
theorem Ic.flW {σ : Sg} {μ : Mem} (h : Ic σ μ) : FlW σ (flC σ) := by
  refine ⟨h.hwr, fun x hx => h.hwn hx, fun x hx => hw_not hx, fun m h0 h1 => (h.row h0 h1).2.1, fun m h0 h1 => ?_, fun n h1 h2 => ?_, h.fo.1, h.fo.2.1⟩
  · have k := h.relF
    unfold RelF FlOK at k
    have z := k.2.2.2.2.2.2.2.2.2.1 m h0 h1
    show rowOf σ m = []
    unfold rowOf rw4
    rw [z]
    rfl
  · have := h.stand (n := n.toNat) (by omega) (by omega)
    have e : ((n.toNat : Nat) : Int) = n := by omega
    rw [e] at this
    exact ⟨this.1, this.2.1⟩
def sHow (F : Fl) (x v : Int) : Fl := (fun y => if y = x then v else F.1 y, F.2)
theorem c_put {ν : Mem} {F : Fl} (hA : FlA ν F) {x v : Int} (hx : 0 ≤ x ∧ x < 210) (hv : -1 ≤ v ∧ v ≤ 4) {K : Mem → Prop} (h : ∀ ξ : Mem, Fr [68] ν ξ → FlA ξ (sHow F x v) → K ξ) : f_Floor_put x v ν K := by
  unfold f_Floor_put
  intro μ1 e1
  rw [set_in (by omega) (by omega) (by decide)] at e1
  have f : Fr [68] ν μ1 := by rw [e1]; exact (FrP.refl _ _).wI rfl
  refine h μ1 f ⟨fun y y0 y1 => ?_, fun m m0 m1 => ?_, fun n n1 n2 => ?_, fun n hn => ?_, ?_⟩
  · rw [e1, rI_sI]
    show _ = if y = x then v else F.1 y
    by_cases c : y = x
    · rw [if_pos ⟨rfl, c⟩, if_pos c, w_id (by omega) (by omega)]
    · rw [if_neg (fun z => c z.2), if_neg c]
      exact hA.1 y y0 y1
  · have := hA.2.1 m m0 m1
    exact ⟨(f.rdI rfl).trans this.1, fun i hi => by rw [f.rdI rfl, f.rdI rfl, f.rdI rfl]; exact this.2 i hi⟩
  · rw [f.rdL rfl, f.rdL rfl]; exact hA.2.2.1 n n1 n2
  · rw [f.rdL rfl, f.rdL rfl]; exact hA.2.2.2.1 n hn
  · rw [f.rdI rfl]; exact hA.2.2.2.2
/-- the AMENDMENTS' places as the class has them -/
def HgA (σ : Sg) (ν : Mem) : Prop := rI ν 2544 0 = σ 15474 0 ∧ 0 ≤ σ 15474 0 ∧ σ 15474 0 ≤ 40 ∧ ∀ a : Int, 0 ≤ a → a < σ 15474 0 → rI ν 14 a = σ 118 a ∧ 0 ≤ σ 118 a ∧ σ 118 a < 24
theorem Ic.hgA {σ : Sg} {μ : Mem} (h : Ic σ μ) : HgA σ μ := by
  have hc := h.cnt
  have h2 := h.relP
  unfold RelP at h2
  exact ⟨h2.2.2.2.1, hc.2.2.1, hc.2.2.2.1, fun a a0 a1 => ⟨(h.hang a0 a1).1, (h.hang a0 a1).2.1, by have := (h.hang a0 a1).2.2; omega⟩⟩
theorem HgA.fr {L : List Nat} {σ : Sg} {ν ξ : Mem} (h : HgA σ ν) (f : Fr L ν ξ) (hL : (lel L 14 || lel L 2544) = false) : HgA σ ξ := by
  simp only [Bool.or_eq_false_iff] at hL
  exact ⟨(f.rdI hL.2).trans h.1, h.2.1, h.2.2.1, fun a a0 a1 => by rw [f.rdI hL.1]; exact h.2.2.2 a a0 a1⟩
def clF (σ : Sg) (F : Fl) (m v : Int) : Fl := (fun y => if y = m then v else if 100 ≤ y ∧ y < 100 + σ 15474 0 ∧ σ 118 (y - 100) = m ∧ F.1 y = 0 then 3 else F.1 y, F.2)
/-- ahead of the k-th AMENDMENT -/
def clK (σ : Sg) (F : Fl) (m v : Int) (k : Int) : Fl := (fun y => if y = m then v else if 100 ≤ y ∧ y < 100 + k ∧ σ 118 (y - 100) = m ∧ F.1 y = 0 then 3 else F.1 y, F.2)
theorem clK_0 (σ : Sg) (F : Fl) (m v : Int) : clK σ F m v 0 = sHow F m v := by
  unfold clK sHow
  refine Prod.ext (funext fun y => ?_) rfl
  show (if y = m then v else _) = _
  by_cases c : y = m
  · rw [if_pos c]; show v = if y = m then v else _; rw [if_pos c]
  · rw [if_neg c, if_neg (fun z => by omega)]; show _ = if y = m then v else _; rw [if_neg c]
theorem clK_s {σ : Sg} {F : Fl} {m v k : Int} (hk : 0 ≤ k) (hm : m < 100) : clK σ F m v (k + 1) = if σ 118 k = m ∧ (clK σ F m v k).1 (100 + k) = 0 then sHow (clK σ F m v k) (100 + k) 3 else clK σ F m v k := by
  have e0 : (clK σ F m v k).1 (100 + k) = F.1 (100 + k) := by
    show (if 100 + k = m then v else _) = _
    rw [if_neg (by omega), if_neg (fun z => by omega)]
  rw [e0]
  by_cases c : σ 118 k = m ∧ F.1 (100 + k) = 0
  · rw [if_pos c]
    refine Prod.ext (funext fun y => ?_) rfl
    show (if y = m then v else if _ then _ else _) = if y = 100 + k then 3 else (if y = m then v else if _ then _ else _)
    by_cases cy : y = 100 + k
    · rw [if_pos cy, if_neg (by omega), if_pos]
      rw [cy]
      exact ⟨by omega, by omega, by rw [show 100 + k - 100 = k by omega]; exact c.1, c.2⟩
    · rw [if_neg cy]
      by_cases cm : y = m
      · rw [if_pos cm, if_pos cm]
      · rw [if_neg cm, if_neg cm]
        by_cases c2 : 100 ≤ y ∧ y < 100 + k ∧ σ 118 (y - 100) = m ∧ F.1 y = 0
        · rw [if_pos c2, if_pos ⟨c2.1, by omega, c2.2.2⟩]
        · rw [if_neg c2, if_neg (fun z => c2 ⟨z.1, by omega, z.2.2⟩)]
  · rw [if_neg c]
    refine Prod.ext (funext fun y => ?_) rfl
    show (if y = m then v else if _ then _ else _) = (if y = m then v else if _ then _ else _)
    by_cases cm : y = m
    · rw [if_pos cm, if_pos cm]
    · rw [if_neg cm, if_neg cm]
      by_cases c2 : 100 ≤ y ∧ y < 100 + k ∧ σ 118 (y - 100) = m ∧ F.1 y = 0
      · rw [if_pos c2, if_pos ⟨c2.1, by omega, c2.2.2⟩]
      · rw [if_neg c2, if_neg (fun z => ?_)]
        by_cases cy : y = 100 + k
        · refine c ⟨?_, ?_⟩
          · have := z.2.2.1; rw [cy, show 100 + k - 100 = k by omega] at this; exact this
          · have := z.2.2.2; rw [cy] at this; exact this
        · exact c2 ⟨z.1, by omega, z.2.2⟩
theorem stateOf_A {ν : Mem} {F : Fl} (hA : FlA ν F) {x : Int} (hx : 0 ≤ x ∧ x < 210) : v_Floor_stateOf x ν = F.1 x := by
  unfold v_Floor_stateOf
  rw [w_id (by omega) (by omega), w_id (by omega) (by omega), if_neg (by omega), if_pos (by omega), at_in (by omega) (by omega) (by decide)]
  exact hA.1 x hx.1 hx.2
theorem c_closeMotion {σ : Sg} {ν : Mem} {F : Fl} (hA : FlA ν F) (hg : HgA σ ν) (hr : ∀ x : Int, -1 ≤ F.1 x ∧ F.1 x ≤ 4) {m v : Int} (hm : 0 ≤ m ∧ m < 24) (hv : 0 ≤ v ∧ v ≤ 4) {K : Mem → Prop} (h : ∀ ξ : Mem, Fr [68] ν ξ → FlA ξ (clF σ F m v) → K ξ) : f_Floor_closeMotion m v ν K := by
  have ha := hg.2.1
  have ha2 := hg.2.2.1
  unfold f_Floor_closeMotion
  refine c_put hA (by omega) (by omega) (fun μ1 f1 A1 => ?_)
  refine lp2 (fun n (i : Int) (ξ : Mem) => l_Floor_closeMotion_8 m _ n i ξ) (fun i ξ => 0 ≤ i ∧ i ≤ σ 15474 0 ∧ Fr [68] ν ξ ∧ FlA ξ (clK σ F m v i)) (fun i _ => (σ 15474 0 - i).toNat) (fun n i ξ hJ ih => ?_) 0 μ1 ⟨by omega, by omega, f1, by rw [clK_0]; exact A1⟩
  obtain ⟨i0, i1, hf, hK⟩ := hJ
  have hgξ := hg.fr hf rfl
  unfold l_Floor_closeMotion_8
  rw [hgξ.1]
  (try simp (disch := omega) only [w_id])
  refine ite_i (fun q => ?_) (fun q => ?_)
  · have hh := hgξ.2.2.2 i i0 q
    have ks := clK_s (σ := σ) (F := F) (m := m) (v := v) (k := i) i0 (by omega)
    have e0 : (clK σ F m v i).1 (100 + i) = F.1 (100 + i) := by
      show (if 100 + i = m then v else _) = _
      rw [if_neg (by omega), if_neg (fun z => by omega)]
    have hri := hr (100 + i)
    rw [at_in (by omega) (by omega) (by decide), hh.1, stateOf_A hK (by omega), e0]
    rw [e0] at ks
    (try simp (disch := omega) only [w_id])
    refine ite_i (fun c1 => ite_i (fun c2 => ?_) (fun c2 => ?_)) (fun c1 => ?_)
    · rw [if_pos ⟨c1, c2⟩] at ks
      refine c_put hK (by omega) (by omega) (fun ο fo Ao => ih _ _ ⟨by omega, by omega, hf.trans fo, by rw [ks]; exact Ao⟩ (by omega))
    · rw [if_neg (fun z => c2 z.2)] at ks
      exact ih _ _ ⟨by omega, by omega, hf, by rw [ks]; exact hK⟩ (by omega)
    · rw [if_neg (fun z => c1 z.1)] at ks
      exact ih _ _ ⟨by omega, by omega, hf, by rw [ks]; exact hK⟩ (by omega)
  · have e : i = σ 15474 0 := by omega
    rw [e] at hK
    exact h ξ hf hK
-- contrary rows
def ctr (a b : List Ln) : Prop := ∃ x ∈ a, ∃ y ∈ b, x.1 = -y.1
theorem bits_ctr {a b : List Ln} (ha : WfL a) {x1 x2 y1 y2 : Int64} (h1 : BitsL a 1 x1) (h2 : BitsL a (-1) x2) (k1 : BitsL b 1 y1) (k2 : BitsL b (-1) y2) : (((x1 &&& y2) ||| (x2 &&& y1)) = 0) ↔ ¬ ctr a b := by
  constructor
  · rintro h0 ⟨x, hx, y, hy, e⟩
    have hwx := ha.2.1 x hx
    have hb : btl ((x1 &&& y2) ||| (x2 &&& y1)) x.1.natAbs = false := by rw [h0, btl_0]
    rw [btl_or, btl_and, btl_and, h1 _ (by omega), h2 _ (by omega), k1 _ (by omega), k2 _ (by omega)] at hb
    simp only [Bool.or_eq_false_iff, Bool.and_eq_false_iff] at hb
    by_cases c : 0 < x.1
    · have a1 : a.any (fun q : Ln => decide (0 < q.1 * 1 ∧ q.1 * 1 = ((x.1.natAbs : Nat) : Int))) = true := List.any_eq_true.mpr ⟨x, hx, decide_eq_true (by omega)⟩
      have a2 : b.any (fun q : Ln => decide (0 < q.1 * (-1) ∧ q.1 * (-1) = ((x.1.natAbs : Nat) : Int))) = true := List.any_eq_true.mpr ⟨y, hy, decide_eq_true (by omega)⟩
      rcases hb.1 with q | q
      · rw [a1] at q; cases q
      · rw [a2] at q; cases q
    · have a1 : a.any (fun q : Ln => decide (0 < q.1 * (-1) ∧ q.1 * (-1) = ((x.1.natAbs : Nat) : Int))) = true := List.any_eq_true.mpr ⟨x, hx, decide_eq_true (by omega)⟩
      have a2 : b.any (fun q : Ln => decide (0 < q.1 * 1 ∧ q.1 * 1 = ((x.1.natAbs : Nat) : Int))) = true := List.any_eq_true.mpr ⟨y, hy, decide_eq_true (by omega)⟩
      rcases hb.2 with q | q
      · rw [a1] at q; cases q
      · rw [a2] at q; cases q
  · intro hn
    refine btl_ext (fun n hn64 => ?_)
    rw [btl_0, btl_or, btl_and, btl_and, h1 n hn64, h2 n hn64, k1 n hn64, k2 n hn64, Bool.or_eq_false_iff, Bool.and_eq_false_iff, Bool.and_eq_false_iff]
    constructor
    · cases ea : a.any (fun q : Ln => decide (0 < q.1 * 1 ∧ q.1 * 1 = (n : Int))) with
      | false => exact Or.inl rfl
      | true =>
        refine Or.inr ?_
        cases eb : b.any (fun q : Ln => decide (0 < q.1 * (-1) ∧ q.1 * (-1) = (n : Int))) with
        | false => rfl
        | true =>
          obtain ⟨x, hx, qx⟩ := List.any_eq_true.mp ea
          obtain ⟨y, hy, qy⟩ := List.any_eq_true.mp eb
          have qx := of_decide_eq_true qx
          have qy := of_decide_eq_true qy
          exact absurd ⟨x, hx, y, hy, by omega⟩ hn
    · cases ea : a.any (fun q : Ln => decide (0 < q.1 * (-1) ∧ q.1 * (-1) = (n : Int))) with
      | false => exact Or.inl rfl
      | true =>
        refine Or.inr ?_
        cases eb : b.any (fun q : Ln => decide (0 < q.1 * 1 ∧ q.1 * 1 = (n : Int))) with
        | false => rfl
        | true =>
          obtain ⟨x, hx, qx⟩ := List.any_eq_true.mp ea
          obtain ⟨y, hy, qy⟩ := List.any_eq_true.mp eb
          have qx := of_decide_eq_true qx
          have qy := of_decide_eq_true qy
          exact absurd ⟨x, hx, y, hy, by omega⟩ hn
theorem c_areContrary {ν : Mem} {r s : Int} (hr : 0 ≤ r ∧ r < 25) (hs : 0 ≤ s ∧ s < 25) {a b : List Ln} (ha : RowC ν r a) (hb : RowC ν s b) (wa : WfL a) (wb : WfL b) {K : Bool → Mem → Prop} (h1 : ctr a b → K true ν) (h2 : ¬ ctr a b → K false ν) : f_Floor_areContrary r s ν K := by
  unfold f_Floor_areContrary
  refine c_bitsOf hr ha wa (Or.inl rfl) (fun x1 p1 => c_bitsOf hs hb wb (Or.inr rfl) (fun y2 q2 => c_bitsOf hr ha wa (Or.inr rfl) (fun x2 p2 => c_bitsOf hs hb wb (Or.inl rfl) (fun y1 q1 v ev => ?_))))
  have key := bits_ctr wa p1 p2 q1 q2
  rw [ev]
  by_cases c : ctr a b
  · rw [if_neg (fun z => key.mp z c)]
    exact h1 c
  · rw [if_pos (key.mpr c)]
    exact h2 c
-- what stands as a row passes
noncomputable def stP (l : List Ln) (st : Int → Int) (n : Int) : Int := pick (∃ x ∈ l, x.1 = n) 1 (pick (∃ x ∈ l, x.1 = -n) (-1) (st n))
theorem WfL.one {l : List Ln} (h : WfL l) {x y : Ln} (hx : x ∈ l) (hy : y ∈ l) (e : x.1.natAbs = y.1.natAbs) : x = y := by
  obtain ⟨i, hi, rfl⟩ := List.mem_iff_getElem.mp hx
  obtain ⟨j, hj, rfl⟩ := List.mem_iff_getElem.mp hy
  have hn := h.2.2
  have := (List.getElem_inj (xs := l.map fun x : Ln => x.1.natAbs) (h₀ := by simpa using hi) (h₁ := by simpa using hj) hn).mp (by simpa using e)
  subst this
  rfl
theorem stP_rng {l : List Ln} {st : Int → Int} {n : Int} (h : -1 ≤ st n ∧ st n ≤ 1) : -1 ≤ stP l st n ∧ stP l st n ≤ 1 := by
  unfold stP
  by_cases c : ∃ x ∈ l, x.1 = n
  · rw [pick_t c]; omega
  · rw [pick_f c]
    by_cases c2 : ∃ x ∈ l, x.1 = -n
    · rw [pick_t c2]; omega
    · rw [pick_f c2]; exact h
theorem any_iff {l : List Ln} {sg : Int} {n : Nat} (hn : 1 ≤ n) (hs : sg = 1 ∨ sg = -1) : (l.any (fun q : Ln => decide (0 < q.1 * sg ∧ q.1 * sg = (n : Int))) = true) ↔ ∃ x ∈ l, x.1 = (n : Int) * sg := by
  rw [List.any_eq_true]
  constructor
  · rintro ⟨x, hx, q⟩
    have q := of_decide_eq_true q
    exact ⟨x, hx, by rcases hs with rfl | rfl <;> omega⟩
  · rintro ⟨x, hx, q⟩
    exact ⟨x, hx, decide_eq_true (by rcases hs with rfl | rfl <;> omega)⟩
theorem stand_bits {l : List Ln} (hw : WfL l) {st : Int → Int} {sd dn x y : Int64} {n : Nat} (h1 : 1 ≤ n) (h2 : n ≤ 60) (hst : (btl sd n = true ↔ st (n : Int) = 1) ∧ (btl dn n = true ↔ st (n : Int) = -1)) (hx : BitsL l 1 x) (hy : BitsL l (-1) y) :
    (btl ((sd &&& (y ^^^ (-1))) ||| x) n = true ↔ stP l st (n : Int) = 1) ∧ (btl ((dn &&& (x ^^^ (-1))) ||| y) n = true ↔ stP l st (n : Int) = -1) := by
  have a1 := any_iff (l := l) (sg := 1) h1 (Or.inl rfl)
  have a2 := any_iff (l := l) (sg := -1) h1 (Or.inr rfl)
  rw [Int.mul_one] at a1
  rw [show (n : Int) * (-1) = -(n : Int) by omega] at a2
  rw [btl_or, btl_and, btl_not _ (by omega), btl_or, btl_and, btl_not _ (by omega), hx n (by omega), hy n (by omega)]
  unfold stP
  by_cases c1 : ∃ z ∈ l, z.1 = (n : Int)
  · have c2 : ¬ ∃ z ∈ l, z.1 = -(n : Int) := by
      rintro ⟨z2, m2, e2⟩
      obtain ⟨z1, m1, e1⟩ := c1
      have := hw.one m1 m2 (by omega)
      rw [this] at e1
      omega
    rw [pick_t c1, a1.mpr c1]
    have f2 : l.any (fun q : Ln => decide (0 < q.1 * (-1) ∧ q.1 * (-1) = (n : Int))) = false := by
      cases e : l.any (fun q : Ln => decide (0 < q.1 * (-1) ∧ q.1 * (-1) = (n : Int))) with
      | false => rfl
      | true => exact absurd (a2.mp e) c2
    rw [f2]
    simp
  · have f1 : l.any (fun q : Ln => decide (0 < q.1 * 1 ∧ q.1 * 1 = (n : Int))) = false := by
      cases e : l.any (fun q : Ln => decide (0 < q.1 * 1 ∧ q.1 * 1 = (n : Int))) with
      | false => rfl
      | true => exact absurd (a1.mp e) c1
    rw [pick_f c1, f1]
    by_cases c2 : ∃ z ∈ l, z.1 = -(n : Int)
    · rw [pick_t c2, a2.mpr c2]
      simp
    · have f2 : l.any (fun q : Ln => decide (0 < q.1 * (-1) ∧ q.1 * (-1) = (n : Int))) = false := by
        cases e : l.any (fun q : Ln => decide (0 < q.1 * (-1) ∧ q.1 * (-1) = (n : Int))) with
        | false => rfl
        | true => exact absurd (a2.mp e) c2
      rw [pick_f c2, f2]
      simpa using hst
