/-! COMPOSING, the model's side -/
theorem chN_hi {a : Nat} (ha : a < 16777216) : ∀ k : Nat, chN a (24 + k) = chN a 24
  | 0 => rfl
  | k + 1 => by
    have e : chN a (24 + (k + 1)) = if a.testBit (24 + k) = true then chN a (24 + k) ++ [((24 + k : Nat) : Int)] else chN a (24 + k) := rfl
    have b : a.testBit (24 + k) = false := Nat.testBit_lt_two_pow (Nat.lt_of_lt_of_le ha (by
      have : 2 ^ 24 ≤ 2 ^ (24 + k) := Nat.pow_le_pow_right (by decide) (by omega)
      omega))
    rw [e, b, if_neg (by decide), chN_hi ha k]
theorem m_bitsOf {a : Int} (ha : 0 ≤ a ∧ a < 16777216) {μ : Mem} {K : Int → Mem → Prop} (h : K ((chN a.toNat 24).length : Int) μ) : f_M_bitsOf a μ K := by
  unfold f_M_bitsOf
  have loop : ∀ f m : Nat, m + f = 31 → l_M_bitsOf_4 a μ (fun (v1_2 : Int) => K v1_2 μ) (f + 1) ((chN a.toNat m).length : Int) (m : Int) := by
    intro f
    induction f with
    | zero =>
      intro m e
      unfold l_M_bitsOf_4
      (try simp (disch := omega) only [w_id])
      rw [if_neg (by omega)]
      have e31 := chN_hi (a := a.toNat) (by omega) 7
      rw [show m = 31 by omega]
      rw [show 24 + 7 = 31 from rfl] at e31
      rw [e31]
      exact h
    | succ f ih =>
      intro m e
      unfold l_M_bitsOf_4
      rw [sbit_e (v := a) (i := (m : Int)) (by omega) (by omega), show ((m : Int).toNat) = m by omega]
      (try simp (disch := omega) only [w_id])
      rw [if_pos (by omega)]
      intro v ev
      have st : chN a.toNat (m + 1) = if a.toNat.testBit m = true then chN a.toNat m ++ [(m : Int)] else chN a.toNat m := rfl
      have g := ih (m + 1) (by omega)
      have e2 : v = ((chN a.toNat (m + 1)).length : Int) := by
        rw [ev, st]
        by_cases b : a.toNat.testBit m = true
        · rw [if_pos b, if_pos b, List.length_append]; simp
        · rw [if_neg b, if_neg b]; omega
      rw [e2]
      exact g
  exact ⟨32, loop 31 0 rfl⟩
def vlR (σ : Sg) (a : Int) (lo hi : Nat) : Prop := vlA σ a hi ∧ lo ≤ (chN a.toNat 24).length
theorem m_areOpen {a : Int} (ha : Rg a) {lo hi : Nat} (hh : lo ≤ 8 ∧ hi ≤ 8) {μ : Mem} (h24 : MS μ 15472 0 ≤ 24) {K : Bool → Mem → Prop} (h1 : vlR (MS μ) a lo hi → K true μ) (h2 : ¬ vlR (MS μ) a lo hi → K false μ) : f_M_areOpen a (lo : Int) (hi : Int) μ K := by
  obtain ⟨a0, a1⟩ := ha
  unfold f_M_areOpen
  (try simp (disch := omega) only [w_id])
  refine ite_i (fun q => h2 (fun z => by have := z.1.1; omega)) (fun q => ?_)
  rw [ishr_e (v := a) (i := 24) (by omega) (by decide), show ((24 : Int).toNat) = 24 from rfl]
  have dl : a.toNat / 2 ^ 24 ≤ a.toNat := Nat.div_le_self _ _
  (try simp (disch := omega) only [w_id])
  refine ite_i (fun q2 => ?_) (fun q2 => h2 (fun z => q2 (by have := z.1.1; omega)))
  have ar : 0 ≤ a ∧ a < 16777216 := by omega
  refine m_bitsOf ar ?_
  have cl := chN_len a.toNat 24
  rw [within_e (by omega) (by omega) (by omega) (by omega) (by omega) (by omega)]
  simp only [decide_eq_true_eq]
  refine ite_i (fun q3 => ?_) (fun q3 => h2 (fun z => q3 (by have := z.1.2.1; have := z.2; omega)))
  have loop : ∀ f m : Nat, m + f = 24 → (∀ k : Nat, k < m → a.toNat.testBit k = true → opA (MS μ) (k : Int)) → l_M_areOpen_28 a K (f + 1) (m : Int) μ := by
    intro f
    induction f with
    | zero =>
      intro m e ho
      unfold l_M_areOpen_28
      (try simp (disch := omega) only [w_id])
      rw [if_neg (by omega)]
      exact h1 ⟨⟨ar, by omega, fun k hk => ho k (by omega)⟩, by omega⟩
    | succ f ih =>
      intro m e ho
      unfold l_M_areOpen_28
      rw [sbit_e (v := a) (i := (m : Int)) (by omega) (by omega), show ((m : Int).toNat) = m by omega]
      (try simp (disch := omega) only [w_id])
      rw [if_pos (by omega)]
      by_cases b : a.toNat.testBit m = true
      · rw [if_pos b, if_pos (by decide)]
        refine m_isOpen ⟨by omega, by omega⟩ h24 (fun o => ?_) (fun o => ?_)
        · rw [if_pos rfl]
          exact ih (m + 1) (by omega) (fun k hk kb => by
            by_cases z : k = m
            · rw [z]; exact ⟨o.2.1, o.2.2⟩
            · exact ho k (by omega) kb)
        · rw [if_neg (by decide)]
          exact h2 (fun z => o (by
            have g := z.1.2.2 m (by omega) b
            exact ⟨by omega, g.1, g.2⟩))
      · rw [if_neg b, if_neg (by decide)]
        exact ih (m + 1) (by omega) (fun k hk kb => ho k (by
          have : ¬ k = m := fun z => by rw [z] at kb; exact b kb
          omega) kb)
  exact ⟨25, loop 24 0 rfl (fun k hk => by omega)⟩
/-- which way the rows have n -/
def wyO (Q : List (List Ln)) (n : Nat) : Int := if sayA Q (n : Int) = true then (n : Int) else if sayA Q (-(n : Int)) = true then -(n : Int) else 0
def CoM (ν : Mem) (Q : List (List Ln)) (t : Nat → Bool) : Prop := ∀ n : Nat, 1 ≤ n → n ≤ 60 → rI ν 159 (n : Int) = wyO Q n ∧ rI ν 160 (n : Int) = b2i (musA Q n) ∧ rI ν 161 (n : Int) = ((cnt Q n : Nat) : Int) ∧ rI ν 162 (n : Int) = b2i (t n)
def cwL : List Nat := [159, 160, 161, 162]
def ncO (Q : List (List Ln)) : Prop := ∀ n : Nat, 1 ≤ n → n ≤ 60 → ¬ (sayA Q (n : Int) = true ∧ sayA Q (-(n : Int)) = true)
theorem wyO_r (Q : List (List Ln)) (n : Nat) : wyO Q n = (n : Int) ∨ wyO Q n = -(n : Int) ∨ wyO Q n = 0 := by
  unfold wyO
  split
  · exact Or.inl rfl
  · split
    · exact Or.inr (Or.inl rfl)
    · exact Or.inr (Or.inr rfl)
theorem sgn_app (a c : List Ln) (v : Int) : sgnA (a ++ c) v = (sgnA a v || sgnA c v) := by unfold sgnA; rw [List.any_append]
theorem has_app (a c : List Ln) (n : Nat) : hasA (a ++ c) n = (hasA a n || hasA c n) := by unfold hasA; rw [List.any_append]
theorem sgn_one (x : Ln) (v : Int) : sgnA [x] v = decide (x.1 = v) := by unfold sgnA; simp
theorem has_one (x : Ln) (n : Nat) : hasA [x] n = decide (x.1.natAbs = n) := by unfold hasA; simp
theorem mst_one (x : Ln) (n : Nat) : mstA [x] n = decide (x.1.natAbs = n ∧ x.2.1 = 1) := by unfold mstA; simp
theorem has_take {l : List Ln} (hw : WfL l) {i : Nat} (hi : i < l.length) : hasA (l.take i) (l.getD i dL).1.natAbs = false := by
  unfold hasA
  rw [List.any_eq_false]
  intro x hx
  rw [decide_eq_true_eq]
  intro e
  obtain ⟨k, hk, rfl⟩ := List.mem_iff_getElem.mp hx
  rw [List.length_take] at hk
  rw [List.getElem_take] at e
  have nd := hw.2.2
  have pw := List.pairwise_iff_getElem.mp nd k i (by rw [List.length_map]; omega) (by rw [List.length_map]; omega) (by omega)
  rw [List.getElem_map, List.getElem_map] at pw
  refine pw ?_
  rw [e, List.getD_eq_getElem?_getD, List.getElem?_eq_getElem hi]
  rfl
theorem app_nil_say (Q : List (List Ln)) (v : Int) : sayA (Q ++ [[]]) v = sayA Q v := by rw [say_app]; unfold sgnA; simp
theorem app_nil_mus (Q : List (List Ln)) (n : Nat) : musA (Q ++ [[]]) n = musA Q n := by rw [mus_app]; unfold mstA; simp
theorem app_nil_cnt (Q : List (List Ln)) (n : Nat) : cnt (Q ++ [[]]) n = cnt Q n := by rw [cnt_s]; unfold hasA; simp
theorem app_nil_wy (Q : List (List Ln)) (n : Nat) : wyO (Q ++ [[]]) n = wyO Q n := by unfold wyO; rw [app_nil_say, app_nil_say]
theorem m_comp54 {σ : Sg} {s m : Nat} (hs : s < 16777216) (hm : m < 24) (hb : s.testBit m = true) {l : List Ln} (hl : l = rowOf σ m) (hw : WfL l) (hn : σ 125 m = (l.length : Int)) {Q : List (List Ln)} (h8 : Q.length ≤ 24) {t : Nat → Bool} {μ : Mem} (eM : MS μ = σ) {X : Mem → Prop} {K : Bool → Mem → Prop}
    (h : ∀ ξ : Mem, Fr cwL μ ξ → CoM ξ (Q ++ [l]) t → ncO (Q ++ [l]) → X ξ) (hF : ∀ ξ : Mem, Fr cwL μ ξ → ¬ ncO (Q ++ [l]) → K false ξ) :
    ∀ (f i : Nat) (ν : Mem), i + f = l.length → Fr cwL μ ν → CoM ν (Q ++ [l.take i]) t → ncO (Q ++ [l.take i]) → l_M_composes_54 (s : Int) (m : Int) X K (f + 1) (i : Int) ν
  | 0, i, ν, e, fr, hc, nc => by
    have h12 := hw.1
    have ln : rI ν 125 (m : Int) = (l.length : Int) := by rw [fr.rdI rfl, mr rfl, eM]; exact hn
    unfold l_M_composes_54
    (try simp (disch := omega) only [w_id])
    rw [ln]
    (try simp (disch := omega) only [w_id])
    refine ⟨by omega, by omega, ?_⟩
    rw [if_neg (by omega)]
    rw [List.take_of_length_le (by omega)] at hc nc
    exact h ν fr hc nc
  | f + 1, i, ν, e, fr, hc, nc => by
    have h12 := hw.1
    have hi : i < l.length := by omega
    have wi := hw.at hi
    have ln : rI ν 125 (m : Int) = (l.length : Int) := by rw [fr.rdI rfl, mr rfl, eM]; exact hn
    have gd := rowOf_getD (σ := σ) (m := (m : Int)) (i := i) (by rw [← hl]; exact hn) (by rw [← hl]; exact hi)
    rw [← hl] at gd
    have lN : rI ν 126 (12 * (m : Int) + (i : Int)) = (l.getD i dL).1 := by rw [fr.rdI rfl, mr rfl, eM, gd]
    have lM : ∀ ξ : Mem, Fr cwL μ ξ → rI ξ 127 (12 * (m : Int) + (i : Int)) = (l.getD i dL).2.1 := fun ξ fx => by rw [fx.rdI rfl, mr rfl, eM, gd]
    unfold l_M_composes_54
    (try simp (disch := omega) only [w_id])
    rw [ln, sbit_e (v := (s : Int)) (i := (m : Int)) (by omega) (by omega), show ((s : Int).toNat) = s by omega, show ((m : Int).toNat) = m by omega, if_pos hb, lN]
    (try simp (disch := omega) only [w_id])
    refine ⟨by omega, by omega, ?_⟩
    rw [if_pos (by omega), if_pos (by trivial)]
    have mem : l.getD i dL ∈ l := getD_mem hi
    have ht := has_take hw hi
    have tk := take_s hi
    generalize hx : l.getD i dL = x at *
    obtain ⟨w1, w2, w3, w4, w5⟩ := wi
    refine ⟨by omega, by omega, fun v4 e4 v5 e5 => ?_⟩
    rw [e4, size_e (by omega)] at e5
    subst e4
    subst e5
    generalize hk : x.1.natAbs = k at *
    obtain ⟨y1, y2, y3, y4⟩ := hc k w1 w2
    -- what one line adds
    have sy : ∀ v : Int, sayA (Q ++ [l.take (i + 1)]) v = (sayA (Q ++ [l.take i]) v || decide (x.1 = v)) := fun v => by
      rw [say_app, say_app, tk, sgn_app, sgn_one, Bool.or_assoc]
    have ms' : ∀ n : Nat, musA (Q ++ [l.take (i + 1)]) n = (musA (Q ++ [l.take i]) n || decide (x.1.natAbs = n ∧ x.2.1 = 1)) := fun n => by
      rw [mus_app, mus_app, tk, mstA_app, mst_one, Bool.or_assoc]
    have ct : ∀ n : Nat, cnt (Q ++ [l.take (i + 1)]) n = cnt (Q ++ [l.take i]) n + (if n = k then 1 else 0) := fun n => by
      rw [cnt_s, cnt_s, tk, has_app, has_one, hk]
      by_cases z : n = k
      · subst z
        rw [ht, decide_eq_true rfl, if_pos rfl]
        rfl
      · rw [decide_eq_false (fun y => z y.symm), Bool.or_false, if_neg z]
        omega
    have full : ∀ v : Int, sayA (Q ++ [l.take i]) v = true → sayA (Q ++ [l]) v = true := fun v z => by
      rw [say_app] at z ⊢
      rw [Bool.or_eq_true] at z ⊢
      refine z.imp_right (fun z => ?_)
      unfold sgnA at z ⊢
      rw [List.any_eq_true] at z ⊢
      obtain ⟨y, hy, ey⟩ := z
      exact ⟨y, List.mem_of_mem_take hy, ey⟩
    have fx : sayA (Q ++ [l]) x.1 = true := by
      rw [say_app, Bool.or_eq_true]
      right
      unfold sgnA
      rw [List.any_eq_true]
      exact ⟨x, mem, decide_eq_true rfl⟩
    have go : sayA (Q ++ [l.take i]) (-x.1) = false → b_M_composes_133 (l_M_composes_54 (s : Int) (m : Int) X K (f + 1)) (s : Int) (m : Int) (i : Int) x.1 ((k : Nat) : Int) ν := fun hno => by
      have nc' : ncO (Q ++ [l.take (i + 1)]) := fun n n1 n2 z => by
        rw [sy, sy] at z
        rw [Bool.or_eq_true, Bool.or_eq_true, decide_eq_true_eq, decide_eq_true_eq] at z
        have old := nc n n1 n2
        rcases z with ⟨z1 | z1, z2 | z2⟩
        · exact old ⟨z1, z2⟩
        · rw [z2] at hno
          rw [show -(-(n : Int)) = (n : Int) by omega, z1] at hno
          cases hno
        · rw [z1] at hno
          rw [z2] at hno
          cases hno
        · omega
      have wy' : ∀ n : Nat, 1 ≤ n → n ≤ 60 → wyO (Q ++ [l.take (i + 1)]) n = if n = k then x.1 else wyO (Q ++ [l.take i]) n := fun n n1 n2 => by
        unfold wyO
        rw [sy, sy]
        by_cases z : n = k
        · subst z
          rw [if_pos rfl]
          by_cases p : x.1 = (n : Int)
          · rw [decide_eq_true p, Bool.or_true, if_pos rfl, p]
          · have p2 : x.1 = -(n : Int) := by omega
            have e1 : sayA (Q ++ [l.take i]) (n : Int) = false := by
              rw [p2, show -(-(n : Int)) = (n : Int) by omega] at hno
              exact hno
            rw [e1, decide_eq_false p, Bool.or_false, if_neg (by decide), decide_eq_true p2, Bool.or_true, if_pos rfl, p2]
        · rw [if_neg z, decide_eq_false (show ¬ x.1 = (n : Int) by omega), decide_eq_false (show ¬ x.1 = -(n : Int) by omega), Bool.or_false, Bool.or_false]
      have cb : cnt (Q ++ [l.take i]) k ≤ 25 := by
        have := cnt_le (Q ++ [l.take i]) k
        rw [List.length_append] at this
        simp only [List.length_cons, List.length_nil] at this
        omega
      unfold b_M_composes_133
      (try simp (disch := omega) only [w_id])
      refine ⟨by omega, by omega, fun μ10 e10 => ⟨by omega, by omega, ?_⟩⟩
      have f10 : Fr cwL μ μ10 := by rw [e10]; exact fr.wI (by decide)
      have d10 : rI μ10 160 (k : Int) = b2i (musA (Q ++ [l.take i]) k) := by rw [e10, rI_ne _ _ _ _ rfl]; exact y2
      have next : ∀ (u : Bool) (μ11 μ12 : Mem), u = (musA (Q ++ [l.take i]) k || decide (x.2.1 = 1)) → μ11 = sB μ10 160 (k : Int) u → μ12 = sI μ11 161 (k : Int) ((rI μ11 161 (k : Int)) + 1) → l_M_composes_54 (s : Int) (m : Int) X K (f + 1) ((i : Int) + 1) μ12 := fun u μ11 μ12 eu e11 e12 => by
        have h11 : rI μ11 161 (k : Int) = ((cnt (Q ++ [l.take i]) k : Nat) : Int) := by rw [e11, rI_sB, if_neg (by simp), e10, rI_ne _ _ _ _ rfl]; exact y3
        rw [h11] at e12
        have ih := m_comp54 (σ := σ) hs hm hb hl hw hn h8 eM h hF f (i + 1) μ12 (by omega) (by rw [e12, e11]; exact (f10.wB (by decide)).wI (by decide)) (fun n n1 n2 => ?_) nc'
        · exact ih
        · obtain ⟨z1, z2, z3, z4⟩ := hc n n1 n2
          rw [wy' n n1 n2, ms', ct, hk]
          refine ⟨?_, ?_, ?_, ?_⟩
          · rw [e12, rI_ne _ _ _ _ rfl, e11, rI_sB, if_neg (by simp), e10, rI_sI]
            by_cases z : n = k
            · rw [if_pos ⟨rfl, by omega⟩, if_pos z, w_id (by omega) (by omega)]
            · rw [if_neg (fun y => by omega), if_neg z]; exact z1
          · rw [e12, rI_ne _ _ _ _ rfl, e11, rI_sB]
            by_cases z : n = k
            · subst z
              rw [if_pos ⟨rfl, rfl⟩, eu]
              congr 2
              exact decide_eq_decide.mpr ⟨fun y => ⟨rfl, y⟩, fun y => y.2⟩
            · rw [if_neg (fun y => by omega), e10, rI_ne _ _ _ _ rfl, z2, decide_eq_false (fun y => z y.1.symm), Bool.or_false]
          · rw [e12, rI_sI]
            by_cases z : n = k
            · subst z
              rw [if_pos ⟨rfl, rfl⟩, if_pos rfl, w_id (by omega) (by omega)]
              omega
            · rw [if_neg (fun y => by omega), if_neg z, e11, rI_sB, if_neg (by simp), e10, rI_ne _ _ _ _ rfl, z3]
              omega
          · rw [e12, rI_ne _ _ _ _ rfl, e11, rI_sB, if_neg (by simp), e10, rI_ne _ _ _ _ rfl]; exact z4
      refine ite_i (fun q => ?_) (fun q => ?_)
      · refine ⟨by omega, by omega, fun μ11 e11 => ⟨by omega, by omega, by omega, by omega, fun μ12 e12 => ?_⟩⟩
        have mt : musA (Q ++ [l.take i]) k = true := by
          rw [rB_rI, d10] at q
          cases z : musA (Q ++ [l.take i]) k with
          | true => rfl
          | false => rw [z] at q; exact absurd q (by decide)
        exact next true μ11 μ12 (by rw [mt]; rfl) e11 e12
      · refine ⟨by omega, by omega, fun x177 e177 => ⟨by omega, by omega, fun μ13 e13 => ⟨by omega, by omega, by omega, by omega, fun μ14 e14 => ?_⟩⟩⟩
        have mf : musA (Q ++ [l.take i]) k = false := by
          rw [rB_rI, d10] at q
          cases z : musA (Q ++ [l.take i]) k with
          | false => rfl
          | true => rw [z] at q; exact absurd rfl q
        refine next x177 μ13 μ14 ?_ e13 e14
        rw [mf, Bool.false_or, e177, rB_rI, lM μ10 f10]
        unfold b01 at w3
        rcases w3 with w3 | w3
        · rw [w3]; rfl
        · rw [w3]; rfl
    (try simp (disch := omega) only [w_id])
    rw [y1]
    refine ⟨by omega, by omega, ?_⟩
    have wr := wyO_r (Q ++ [l.take i]) k
    have bad : sayA (Q ++ [l.take i]) (-x.1) = true → K false ν := fun z => by
      refine hF ν fr (fun y => ?_)
      have z' := full _ z
      by_cases p : 0 < x.1
      · refine y k w1 w2 ?_
        have e1 : (k : Int) = x.1 := by omega
        rw [e1]
        exact ⟨fx, z'⟩
      · refine y k w1 w2 ?_
        have e1 : (k : Int) = -x.1 := by omega
        rw [e1, show -(-x.1) = x.1 by omega]
        exact ⟨z', fx⟩
    have nck := nc k w1 w2
    have wyd : wyO (Q ++ [l.take i]) k = if sayA (Q ++ [l.take i]) (k : Int) = true then (k : Int) else if sayA (Q ++ [l.take i]) (-(k : Int)) = true then -(k : Int) else 0 := rfl
    (try simp (disch := omega) only [w_id])
    refine ite_i (fun q => go ?_) (fun q => ⟨by omega, by omega, fun x118 e118 x128 e128 => ?_⟩)
    · rw [wyd] at q
      by_cases p1 : sayA (Q ++ [l.take i]) (k : Int) = true
      · rw [if_pos p1] at q; omega
      · rw [if_neg p1] at q
        by_cases p2 : sayA (Q ++ [l.take i]) (-(k : Int)) = true
        · rw [if_pos p2] at q; omega
        · by_cases p : 0 < x.1
          · rw [show -x.1 = -(k : Int) by omega]; exact bool_f p2
          · rw [show -x.1 = (k : Int) by omega]; exact bool_f p1
    · have r118 : x118 = 0 ∨ x118 = 1 := by rw [e118]; split <;> simp
      have r128 : x128 = 0 ∨ x128 = 1 := by rw [e128]; split <;> simp
      rw [w_id (x := x118) (by omega) (by omega), w_id (x := x128) (by omega) (by omega)]
      refine ite_i (fun q2 => go ?_) (fun q2 => bad ?_)
      · rw [e118, e128] at q2
        by_cases p1 : sayA (Q ++ [l.take i]) (k : Int) = true
        · rw [wyd, if_pos p1] at q2
          by_cases p : 0 < x.1
          · rw [show -x.1 = -(k : Int) by omega]
            exact bool_f (fun z => nck ⟨p1, z⟩)
          · rw [if_neg p, if_pos (by omega)] at q2; omega
        · rw [wyd, if_neg p1] at q2 q
          by_cases p2 : sayA (Q ++ [l.take i]) (-(k : Int)) = true
          · rw [if_pos p2] at q2
            by_cases p : 0 < x.1
            · rw [if_pos p, if_neg (by omega)] at q2; omega
            · rw [show -x.1 = (k : Int) by omega]; exact bool_f p1
          · rw [if_neg p2] at q; exact absurd rfl q
      · rw [e118, e128] at q2
        by_cases p1 : sayA (Q ++ [l.take i]) (k : Int) = true
        · rw [wyd, if_pos p1] at q2
          by_cases p : 0 < x.1
          · rw [if_pos p, if_pos (by omega)] at q2; exact absurd rfl q2
          · rw [show -x.1 = (k : Int) by omega]; exact p1
        · rw [wyd, if_neg p1] at q2 q
          by_cases p2 : sayA (Q ++ [l.take i]) (-(k : Int)) = true
          · rw [if_pos p2] at q2
            by_cases p : 0 < x.1
            · rw [show -x.1 = -(k : Int) by omega]; exact p2
            · rw [if_neg p, if_neg (by omega)] at q2; exact absurd rfl q2
          · rw [if_neg p2] at q; exact absurd rfl q
