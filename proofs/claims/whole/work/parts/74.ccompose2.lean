/-! COMPOSING, the class's side: put together -/
def kmL : List Nat := [12655, 12656, 12657, 96]
theorem c_keepUpTo {R : List (List Ln)} (hw : WfR' R) {len : Nat} (hl : len ≤ 12) (hm : mcN R ≤ len) {ν : Mem} (hs : ShC ν (cnt R)) (hb : ∀ n : Nat, n < 64 → btl (rL ν 12657 0) n = musA R n) {K : Mem → Prop} (k : ∀ ξ : Mem, Fr keL' ν ξ → (∀ n : Nat, n < 64 → btl (rL ξ 12655 0) n = kpC len R n) → K ξ) : f_Comp_keepUpTo (len : Int) ν K := by
  unfold f_Comp_keepUpTo
  intro μ1 e1 v2 ev v3 ev3
  have m1 : rL μ1 12657 0 = rL ν 12657 0 := by rw [e1, rL_ne _ _ _ _ rfl]
  have f1 : Fr keL' ν μ1 := by rw [e1]; exact fr1L _ _ _ _
  have pc := pc_sm hb (fun n hn => musA_0 hw.2 hn)
  have pc' : pcN (rL ν 12657 0) 64 = mcN R := pc
  rw [m1, popL_e, pc'] at ev
  have eq : v2 = ((len - mcN R : Nat) : Int) := by omega
  subst eq
  rw [show v3 = ((8 : Nat) : Int) by rw [ev3]; rfl]
  refine ⟨9, c_keep26 (ν0 := ν) (T := kpC len R) (fun n hn => cnt_0 hw.2 hn) hs k 8 (len - mcN R) (musA R) μ1 (Nat.le_refl _) (by omega) f1 (fun n hn => ?_) (fun n hn => musA_0 hw.2 hn) rfl (Or.inr (fun n n1 n2 n3 => ?_))⟩
  · rw [e1, rL_eq]; exact hb n hn
  · have := cnt_le R n
    have := hw.1
    omega
theorem okC_1 {R : List (List Ln)} (hw : ∀ l ∈ R, WfL l) {s d : Int64} (hs : ∀ n : Nat, n < 64 → btl s n = sayA R (n : Int)) (hd : ∀ n : Nat, n < 64 → btl d n = sayA R (-(n : Int))) : (s &&& d) = 0 ↔ ∀ n : Nat, 1 ≤ n → n ≤ 60 → ¬ (sayA R (n : Int) = true ∧ sayA R (-(n : Int)) = true) := by
  constructor
  · intro z n n1 n2 q
    have b : btl (s &&& d) n = false := by rw [z, btl_0]
    rw [btl_and, hs n (by omega), hd n (by omega), q.1, q.2] at b
    cases b
  · intro z
    refine btl_ext (fun n hn => ?_)
    rw [btl_and, hs n hn, hd n hn, btl_0]
    by_cases r : 1 ≤ n ∧ n ≤ 60
    · have := z n r.1 r.2
      cases e1 : sayA R (n : Int) with
      | false => rfl
      | true =>
        cases e2 : sayA R (-(n : Int)) with
        | false => rfl
        | true => exact absurd ⟨e1, e2⟩ this
    · have : sayA R (n : Int) = false := by
        unfold sayA sgnA
        rw [List.any_eq_false]
        intro l hl
        rw [Bool.not_eq_true, List.any_eq_false]
        intro x hx
        have := (hw l hl).2.1 x hx
        simp only [decide_eq_true_eq]
        omega
      rw [this]; rfl
/-- gathered so far -/
def GaC (ν : Mem) (d : Int64) (Q : List (List Ln)) : Prop := (∀ n : Nat, n < 64 → btl (rL ν 12656 0) n = sayA Q (n : Int)) ∧ (∀ n : Nat, n < 64 → btl d n = sayA Q (-(n : Int))) ∧ (∀ n : Nat, n < 64 → btl (rL ν 12657 0) n = musA Q n) ∧ ShC ν (cnt Q)
theorem c_gather60 {R : List (List Ln)} {s : Nat} (hs : s < 256) {a2 : Int} {ν0 : Mem} (hR : ChR ν0 R) {X : Int64 → Mem → Prop} (h : ∀ (d : Int64) (ξ : Mem), Fr kmL ν0 ξ → GaC ξ d (subN R s R.length) → X d ξ) :
    ∀ (f i : Nat) (d : Int64) (ν : Mem), i + f = R.length → Fr kmL ν0 ν → GaC ν d (subN R s i) → l_Comp_gather_60 (s : Int) a2 X (f + 1) d (i : Int) ν
  | 0, i, d, ν, e, fr, g => by
    have h8 := hR.2.1
    have hn : rI ν 12654 0 = (R.length : Int) := by rw [fr.rdI rfl]; exact hR.1
    unfold l_Comp_gather_60
    rw [hn]
    (try simp (disch := omega) only [w_id])
    rw [if_neg (by omega)]
    rw [show i = R.length by omega] at g
    exact h d ν fr g
  | f + 1, i, d, ν, e, fr, g => by
    have h8 := hR.2.1
    have hi : i < R.length := by omega
    have hn : rI ν 12654 0 = (R.length : Int) := by rw [fr.rdI rfl]; exact hR.1
    obtain ⟨b1, b2, b3⟩ := hR.2.2.2 i hi
    have wl := hR.2.2.1 _ (gRw_mem hi)
    have st : subN R s (i + 1) = if s.testBit i = true then subN R s i ++ [gRw R i] else subN R s i := rfl
    unfold l_Comp_gather_60
    rw [hn, bit_e (v := (s : Int)) (i := (i : Int)) (by omega) (by omega), show ((s : Int).toNat) = s by omega, show ((i : Int).toNat) = i by omega]
    (try simp (disch := omega) only [w_id])
    rw [if_pos (by omega)]
    by_cases b : s.testBit i = true
    · rw [if_pos b] at st ⊢
      rw [if_neg (by decide)]
      obtain ⟨g1, g2, g3, g4⟩ := g
      intro μ8 e8 v3 ev3 μ9 e9
      have r1 : ∀ ξ : Mem, Fr kmL ν0 ξ → rL ξ 93 (i : Int) = rL ν0 93 (i : Int) ∧ rL ξ 94 (i : Int) = rL ν0 94 (i : Int) ∧ rL ξ 95 (i : Int) = rL ν0 95 (i : Int) := fun ξ fx => ⟨fx.rdL rfl, fx.rdL rfl, fx.rdL rfl⟩
      have f8 : Fr kmL ν0 μ8 := by rw [e8]; exact fr.wL (by decide)
      have f9 : Fr kmL ν0 μ9 := by rw [e9]; exact f8.wL (by decide)
      rw [atL_in (by omega) (by omega) (by decide), (r1 ν fr).1] at e8
      rw [atL_in (by omega) (by omega) (by decide), (r1 μ8 f8).2.1] at ev3
      rw [atL_in (by omega) (by omega) (by decide), (r1 μ8 f8).2.2] at e9
      rw [atL_in (by omega) (by omega) (by decide), atL_in (by omega) (by omega) (by decide), (r1 μ9 f9).1, (r1 μ9 f9).2.1]
      have sy : ∀ n : Nat, n < 64 → btl (rL ν0 93 (i : Int)) n = sgnA (gRw R i) (n : Int) := fun n hn => by
        have := bits_say wl (Or.inl rfl) b1 hn
        rw [show (n : Int) * 1 = (n : Int) by omega] at this
        exact this
      have dn : ∀ n : Nat, n < 64 → btl (rL ν0 94 (i : Int)) n = sgnA (gRw R i) (-(n : Int)) := fun n hn => by
        have := bits_say wl (Or.inr rfl) b2 hn
        rw [show (n : Int) * -1 = -(n : Int) by omega] at this
        exact this
      have s9 : rL μ9 12656 0 = rL ν 12656 0 ||| rL ν0 93 (i : Int) := by rw [e9, rL_ne _ _ _ _ rfl, e8, rL_eq]
      have m9 : rL μ9 12657 0 = rL ν 12657 0 ||| rL ν0 95 (i : Int) := by rw [e9, rL_eq, e8, rL_ne _ _ _ _ rfl]
      have sh9 : ShC μ9 (cnt (subN R s i)) := fun k k1 k2 n hn => by rw [e9, rL_ne _ _ _ _ rfl, e8, rL_ne _ _ _ _ rfl]; exact g4 k k1 k2 n hn
      clear e8 e9
      refine c_share (h := fun n => if hasA (gRw R i) n = true then 1 else 0) (fun n hn => ?_) sh9 (fun μ10 f10 h10 => ?_)
      · rw [btl_or, sy n hn, dn n hn, ← has_sgn]
        cases hasA (gRw R i) n <;> exact ⟨rfl, by decide⟩
      · have ih := c_gather60 (a2 := a2) hs hR h f (i + 1) v3 μ10 (by omega) (f9.trans (Fr.mono f10 rfl)) ?_
        · exact ih
        · rw [st]
          refine ⟨fun n hn => ?_, fun n hn => ?_, fun n hn => ?_, fun k k1 k2 n hn => ?_⟩
          · rw [f10.rdL rfl, s9, btl_or, g1 n hn, sy n hn, say_app]
          · rw [ev3, btl_or, g2 n hn, dn n hn, say_app]
          · rw [f10.rdL rfl, m9, btl_or, g3 n hn, b3 n hn, mus_app]
          · rw [cnt_s]; exact h10 k k1 k2 n hn
    · rw [if_neg b] at st ⊢
      rw [if_pos (by trivial)]
      have ih := c_gather60 (a2 := a2) hs hR h f (i + 1) d ν (by omega) fr (by rw [st]; exact g)
      exact ih
theorem subN_W {R : List (List Ln)} (h8 : R.length ≤ 8) (hw : ∀ l ∈ R, WfL l) (s : Nat) : WfR' (subN R s R.length) := ⟨Nat.le_trans (subN_len R s R.length) h8, subN_wf hw s R.length (Nat.le_refl _)⟩
theorem c_gather {σ : Sg} {μ ν : Mem} (hI : Ic σ μ) (hq : Qt μ ν) {R : List (List Ln)} (hR : ChR ν R) {s : Nat} (hs : s < 256) {K : Bool → Mem → Prop}
    (h1 : okC (lenI σ (Fo σ)).toNat (subN R s R.length) → ∀ ξ : Mem, Fr kmL ν ξ → (∀ n : Nat, n < 64 → btl (rL ξ 12655 0) n = kpC (lenI σ (Fo σ)).toNat (subN R s R.length) n) → (∀ n : Nat, n < 64 → btl (rL ξ 12656 0) n = sayA (subN R s R.length) (n : Int)) → (∀ n : Nat, n < 64 → btl (rL ξ 12657 0) n = musA (subN R s R.length) n) → K true ξ)
    (h2 : ¬ okC (lenI σ (Fo σ)).toNat (subN R s R.length) → ∀ ξ : Mem, Fr kmL ν ξ → K false ξ) : f_Comp_gather (s : Int) ν K := by
  have hIν := hq.ic hI
  have h8 := hR.2.1
  have hru := hI.ru
  have lr : 1 ≤ lenI σ (Fo σ) ∧ lenI σ (Fo σ) ≤ 12 := ⟨hru.2.2.2.2.1, hru.2.2.2.2.2.1⟩
  have lv : rI ν (gid (rIx (Fo σ)) 5) 0 = lenI σ (Fo σ) := by
    have e : rI ν (gid (rIx (Fo σ)) 5) 0 = CS ν (gid (rIx (Fo σ)) 5) 0 := cr' (inC_ru (by have := hI.ruR; unfold gid; omega))
    rw [e]
    exact hIν.ru.2.2.2.1
  have wq := subN_W h8 hR.2.2.1 s
  unfold f_Comp_gather
  refine c_inForce hIν ⟨hI.isRu, ?_⟩
  rw [lv]
  generalize lenI σ (Fo σ) = len at *
  intro v2 ev μ2 e2 μ3 e3
  subst ev
  have f3 : Fr kmL ν μ3 := by rw [e3, e2]; exact ((FrP.refl _ _).wL (by decide)).wL (by decide)
  have s3 : rL μ3 12656 0 = 0 := by rw [e3, rL_ne _ _ _ _ rfl, e2, rL_eq]
  have m3 : rL μ3 12657 0 = 0 := by rw [e3, rL_eq]
  clear e2 e3
  have loop : ∀ (f i : Nat) (ξ : Mem), i + f = 9 → Fr [96] μ3 ξ → (∀ k : Nat, k < i → rL ξ 96 (k : Int) = 0) → ∀ Y : Mem → Prop, (∀ ξ : Mem, Fr [96] μ3 ξ → (∀ k : Nat, k < 9 → rL ξ 96 (k : Int) = 0) → Y ξ) → l_Comp_gather_33 (s : Int) v2 Y (f + 1) (i : Int) ξ := by
    intro f
    induction f with
    | zero =>
      intro i ξ e fx hz Y hY
      unfold l_Comp_gather_33
      (try simp (disch := omega) only [w_id])
      rw [if_neg (by omega)]
      exact hY ξ fx (fun k hk => hz k (by omega))
    | succ f ih =>
      intro i ξ e fx hz Y hY
      unfold l_Comp_gather_33
      (try simp (disch := omega) only [w_id])
      rw [if_pos (by omega)]
      refine ⟨by omega, by omega, fun μ5 e5 => ?_⟩
      have g := ih (i + 1) μ5 (by omega) (by rw [e5]; exact fx.wL (by decide)) (fun k hk => ?_) Y hY
      · exact g
      · rw [e5, rLs]
        by_cases q : k = i
        · rw [if_pos ⟨rfl, by omega⟩]
        · rw [if_neg (fun z => by omega)]; exact hz k (by omega)
  refine ⟨10, loop 9 0 μ3 (by omega) (FrP.refl _ _) (fun k hk => by omega) _ (fun μ6 f6 z6 => ?_)⟩
  have f06 : Fr kmL ν μ6 := f3.trans (Fr.mono f6 rfl)
  have R6 : ChR μ6 R := hR.fr f06 rfl
  refine ⟨R.length + 1, c_gather60 hs R6 (fun d ξ fx g => ?_) R.length 0 0 μ6 (by omega) (FrP.refl _ _) ⟨fun n hn => ?_, fun n hn => ?_, fun n hn => ?_, fun k k1 k2 n hn => ?_⟩⟩
  · have fr : Fr kmL ν ξ := f06.trans fx
    obtain ⟨g1, g2, g3, g4⟩ := g
    have o1 := okC_1 wq.2 g1 g2
    have pc : pcN (rL ξ 12657 0) 64 = mcN (subN R s R.length) := pc_sm g3 (fun n hn => musA_0 wq.2 hn)
    have mb : mcN (subN R s R.length) ≤ 60 := by
      have := sm_bd (f := fun n => (musA (subN R s R.length) n).toNat) (m := 1) (k := 60) (fun n _ _ => by cases musA (subN R s R.length) n <;> decide)
      unfold mcN
      omega
    refine ite_i (fun q => ?_) (fun q => h2 (fun z => q (o1.mpr z.1)) ξ fr)
    rw [popL_e, pc]
    (try simp (disch := omega) only [w_id])
    refine ite_i (fun q2 => h2 (fun z => by have := z.2; omega) ξ fr) (fun q2 => ?_)
    have ev : v2 = ((v2.toNat : Nat) : Int) := by omega
    rw [ev]
    refine c_keepUpTo wq (by omega) (by omega) g4 g3 (fun μ12 f12 k12 => ?_)
    exact h1 ⟨o1.mp q, by omega⟩ μ12 (fr.trans (Fr.mono f12 rfl)) k12 (fun n hn => by rw [f12.rdL rfl]; exact g1 n hn) (fun n hn => by rw [f12.rdL rfl]; exact g3 n hn)
  · rw [f6.rdL rfl, s3, btl_0]; rfl
  · rw [btl_0]; rfl
  · rw [f6.rdL rfl, m3, btl_0]; rfl
  · rw [z6 k (by omega), btl_0]
    show false = decide (k ≤ 0)
    rw [decide_eq_false (by omega)]
theorem toN_if (p : Bool) : p.toNat = if p = true then 1 else 0 := by cases p <;> rfl
theorem c_compose {σ : Sg} {μ ν : Mem} (hI : Ic σ μ) (hq : Qt μ ν) {R : List (List Ln)} (hR : ChR ν R) {s : Nat} (hs : s < 256) {K : Int → Mem → Prop}
    (h1 : okC (lenI σ (Fo σ)).toNat (subN R s R.length) → ∀ ξ : Mem, Fr kmL ν ξ → (∀ n : Nat, n < 64 → btl (rL ξ 12655 0) n = kpC (lenI σ (Fo σ)).toNat (subN R s R.length) n) → (∀ n : Nat, n < 64 → btl (rL ξ 12656 0) n = sayA (subN R s R.length) (n : Int)) → (∀ n : Nat, n < 64 → btl (rL ξ 12657 0) n = musA (subN R s R.length) n) → K ((loC (lenI σ (Fo σ)).toNat (subN R s R.length) : Nat) : Int) ξ)
    (h2 : ¬ okC (lenI σ (Fo σ)).toNat (subN R s R.length) → ∀ ξ : Mem, Fr kmL ν ξ → K (-1) ξ) : f_Comp_compose (s : Int) ν K := by
  have h8 := hR.2.1
  have wq := subN_W h8 hR.2.2.1 s
  unfold f_Comp_compose
  refine c_gather hI hq hR hs (fun ok ξ fr k1 k2 k3 => ?_) (fun no ξ fr => ?_)
  · rw [if_pos rfl]
    have Rx := hR.fr fr rfl
    generalize (lenI σ (Fo σ)).toNat = len at *
    have go := h1 ok ξ fr k1 k2 k3
    have tl := loC_e len (subN R s R.length)
    have kz : ∀ n : Nat, n < 1 ∨ 60 < n → kpC len (subN R s R.length) n = false := fun n hn => kpN_z _ _ (fun m hm => musA_0 wq.2 hm) n hn
    generalize hkp : kpC len (subN R s R.length) = kp at *
    have fin : ∀ x y : Int, x = ((sm (cnt (subN R s R.length)) 60 : Nat) : Int) → y = ((sm (fun n => if kp n = true then cnt (subN R s R.length) n else 0) 60 : Nat) : Int) → K (x - y) ξ := fun x y ex ey => by
      rw [show x - y = ((loC len (subN R s R.length) : Nat) : Int) by omega]
      exact go
    have loop : ∀ (f i : Nat) (x y : Int), i + f = R.length → x = ((sm (cnt (subN R s i)) 60 : Nat) : Int) → y = ((sm (fun n => if kp n = true then cnt (subN R s i) n else 0) 60 : Nat) : Int) → l_Comp_compose_17 (s : Int) ξ (fun (v2_2 : Int) (v3_2 : Int) => K (v2_2 - v3_2) ξ) (f + 1) x y (i : Int) := by
      intro f
      induction f with
      | zero =>
        intro i x y e ex ey
        unfold l_Comp_compose_17
        rw [Rx.1]
        (try simp (disch := omega) only [w_id])
        rw [if_neg (by omega)]
        rw [show i = R.length by omega] at ex ey
        exact fin x y ex ey
      | succ f ih =>
        intro i x y e ex ey
        have hi : i < R.length := by omega
        obtain ⟨b1, b2, b3⟩ := Rx.2.2.2 i hi
        have wl := Rx.2.2.1 _ (gRw_mem hi)
        have st : subN R s (i + 1) = if s.testBit i = true then subN R s i ++ [gRw R i] else subN R s i := rfl
        unfold l_Comp_compose_17
        rw [Rx.1, bit_e (v := (s : Int)) (i := (i : Int)) (by omega) (by omega), show ((s : Int).toNat) = s by omega, show ((i : Int).toNat) = i by omega]
        (try simp (disch := omega) only [w_id])
        rw [if_pos (by omega)]
        by_cases b : s.testBit i = true
        · rw [if_pos b] at st ⊢
          rw [if_neg (by decide)]
          intro v5 e5 x' ex' y' ey'
          rw [atL_in (by omega) (by omega) (by decide), atL_in (by omega) (by omega) (by decide)] at e5
          have hv : ∀ n : Nat, n < 64 → btl v5 n = hasA (gRw R i) n := fun n hn => by
            have s1 := bits_say wl (Or.inl rfl) b1 hn
            have s2 := bits_say wl (Or.inr rfl) b2 hn
            rw [show (n : Int) * 1 = (n : Int) by omega] at s1
            rw [show (n : Int) * -1 = -(n : Int) by omega] at s2
            rw [e5, btl_or, s1, s2, has_sgn]
          have hz : ∀ n : Nat, n < 1 ∨ 60 < n → hasA (gRw R i) n = false := fun n hn => hasA_0 wl hn
          have p1 := pc_sm hv hz
          have p2 := pc_sm (x := v5 &&& rL ξ 12655 0) (p := fun n => hasA (gRw R i) n && kp n) (fun n hn => by rw [btl_and, hv n hn, k1 n hn]) (fun n hn => by rw [hz n hn]; rfl)
          rw [popL_e, p1] at ex'
          rw [popL_e, p2] at ey'
          have c1 : sm (cnt (subN R s (i + 1))) 60 = sm (cnt (subN R s i)) 60 + sm (fun n => (hasA (gRw R i) n).toNat) 60 := by
            rw [st, ← sm_add]
            exact sm_ext (fun n _ _ => by rw [cnt_s, toN_if])
          have c2 : sm (fun n => if kp n = true then cnt (subN R s (i + 1)) n else 0) 60 = sm (fun n => if kp n = true then cnt (subN R s i) n else 0) 60 + sm (fun n => (hasA (gRw R i) n && kp n).toNat) 60 := by
            rw [st, ← sm_add]
            refine sm_ext (fun n _ _ => ?_)
            rw [cnt_s, toN_if]
            cases kp n <;> cases hasA (gRw R i) n <;> simp
          have g := ih (i + 1) x' y' (by omega) (by rw [ex', ex, c1]; omega) (by rw [ey', ey, c2]; omega)
          exact g
        · rw [if_neg b] at st ⊢
          rw [if_pos (by trivial)]
          have g := ih (i + 1) x y (by omega) (by rw [st]; exact ex) (by rw [st]; exact ey)
          exact g
    exact ⟨R.length + 1, loop R.length 0 0 0 (by omega) (by
      have : sm (cnt (subN R s 0)) 60 = 0 := by
        have := sm_bd (f := cnt (subN R s 0)) (m := 0) (k := 60) (fun n _ _ => Nat.le_refl _)
        omega
      omega) (by
      have : sm (fun n => if kp n = true then cnt (subN R s 0) n else 0) 60 = 0 := by
        have := sm_bd (f := fun n => if kp n = true then cnt (subN R s 0) n else 0) (m := 0) (k := 60) (fun n _ _ => by split <;> exact Nat.le_refl _)
        omega
      omega)⟩
  · rw [if_neg (by decide)]
    exact h2 no ξ fr
theorem subN_all {R : List (List Ln)} {s : Nat} : ∀ i : Nat, i ≤ R.length → (∀ k : Nat, k < i → s.testBit k = true) → subN R s i = R.take i
  | 0, _, _ => rfl
  | i + 1, h, hs => by
    show (if s.testBit i = true then subN R s i ++ [gRw R i] else subN R s i) = _
    rw [if_pos (hs i (by omega)), subN_all i (by omega) (fun k hk => hs k (by omega))]
    have hi : i < R.length := by omega
    rw [List.take_succ_eq_append_getElem hi]
    unfold gRw
    rw [List.getD_eq_getElem?_getD, List.getElem?_eq_getElem hi]
    rfl
theorem subN_full (R : List (List Ln)) : subN R (2 ^ R.length - 1) R.length = R := by
  rw [subN_all R.length (Nat.le_refl _) (fun k hk => by rw [Nat.testBit_two_pow_sub_one]; exact decide_eq_true hk), List.take_length]
def cmpL : List Nat := chL ++ kmL
/-- what comes of the rows of the motions that bits name -/
def rwB (σ : Sg) (a : Int) : List (List Ln) := (chN a.toNat 24).map (rowOf σ)
theorem rwB_len (σ : Sg) (a : Int) : (rwB σ a).length = (chN a.toNat 24).length := by unfold rwB; rw [List.length_map]
def vl2 (σ : Sg) (a : Int) : Prop := vlA σ a 8 ∧ 2 ≤ (chN a.toNat 24).length
theorem c_lostByAll {σ : Sg} {μ : Mem} (hI : Ic σ μ) {a : Int} (ha : Rg a) {K : Int → Mem → Prop}
    (h1 : vl2 σ a → okC (lenI σ (Fo σ)).toNat (rwB σ a) → ∀ ξ : Mem, Fr cmpL μ ξ → ChR ξ (rwB σ a) → (∀ i : Nat, i < (chN a.toNat 24).length → rI ξ 92 (i : Int) = gI (chN a.toNat 24) i) → (∀ n : Nat, n < 64 → btl (rL ξ 12655 0) n = kpC (lenI σ (Fo σ)).toNat (rwB σ a) n) → (∀ n : Nat, n < 64 → btl (rL ξ 12656 0) n = sayA (rwB σ a) (n : Int)) → (∀ n : Nat, n < 64 → btl (rL ξ 12657 0) n = musA (rwB σ a) n) → K ((loC (lenI σ (Fo σ)).toNat (rwB σ a) : Nat) : Int) ξ)
    (h2 : ¬ (vl2 σ a ∧ okC (lenI σ (Fo σ)).toNat (rwB σ a)) → ∀ ξ : Mem, Fr cmpL μ ξ → K (-1) ξ) : f_Comp_lostByAll a μ K := by
  unfold f_Comp_lostByAll
  refine c_choose hI ha (fun v ν fr R' hv => ?_) (fun v ν fr z => ?_)
  · have R : ChR ν (rwB σ a) := R'
    have hl := rwB_len σ a
    rw [R.1]
    have h8 := R.2.1
    (try simp (disch := omega) only [w_id])
    refine ite_i (fun q => h2 (fun z => by have := z.1.2; omega) ν (Fr.mono fr rfl)) (fun q => ?_)
    have es : (w_ishl 1 ((rwB σ a).length : Int)) - 1 = ((2 ^ (rwB σ a).length - 1 : Nat) : Int) := by
      have := shlI_f ⟨(rwB σ a).length, by omega⟩
      simp only at this
      rw [this]
      have p : 1 ≤ 2 ^ (rwB σ a).length := Nat.one_le_two_pow
      omega
    rw [es]
    have p8 : 2 ^ (rwB σ a).length ≤ 2 ^ 8 := Nat.pow_le_pow_right (by decide) h8
    have full := subN_full (rwB σ a)
    refine c_compose hI (Fr.qt fr rfl) R (by omega) (fun ok ξ fx k1 k2 k3 => ?_) (fun no ξ fx => ?_)
    · rw [full] at ok k1 k2 k3 ⊢
      exact h1 ⟨v, by omega⟩ ok ξ ((Fr.mono fr rfl).trans (Fr.mono fx rfl)) (R.fr fx rfl) (fun i hi => by rw [fx.rdI rfl]; exact hv i hi) k1 k2 k3
    · rw [full] at no
      exact h2 (fun z => no z.2) ξ ((Fr.mono fr rfl).trans (Fr.mono fx rfl))
  · rw [z, if_pos (by decide)]
    exact h2 (fun y => v y.1.1) ν (Fr.mono fr rfl)
