/-! COMPOSING, the model's side: put together -/
def coL : List Nat := cwL ++ [15541]
theorem m_length {μ : Mem} (q : QM μ) {K : Int → Mem → Prop} (h : K (lenI (MS μ) (Fo (MS μ))) μ) : f_M_length μ K := by
  obtain ⟨κ, hru⟩ := q.2.2.2
  have lr := hru.2.2.2.2.2.2.2.2.2
  unfold f_M_length
  refine m_clause (by omega) q.2.2.1 q.many ?_
  unfold lenI at h
  have l0 : -1 ≤ lc (MS μ) (Fo (MS μ)) 5 := lr.1
  have l1 : lc (MS μ) (Fo (MS μ)) 5 < 150 := lr.2.1
  generalize lc (MS μ) (Fo (MS μ)) 5 = c at *
  (try simp (disch := omega) only [w_id])
  refine ite_i (fun z => ?_) (fun z => ⟨by omega, by omega, ?_⟩)
  · rw [if_pos z] at h; exact h
  · rw [if_neg z] at h; exact h
theorem CoM.fr {L : List Nat} {ν ξ : Mem} {Q : List (List Ln)} {t : Nat → Bool} (h : CoM ν Q t) (f : Fr L ν ξ) (h1 : (lel L 159 || lel L 160 || lel L 161 || lel L 162) = false) : CoM ξ Q t := by
  simp only [Bool.or_eq_false_iff] at h1
  exact fun n n1 n2 => by rw [f.rdI h1.1.1.1, f.rdI h1.1.1.2, f.rdI h1.1.2, f.rdI h1.2]; exact h n n1 n2
theorem m_comp2 {s : Int} {μ : Mem} {X : Mem → Prop} (h : ∀ ξ : Mem, Fr cwL μ ξ → CoM ξ [] (fun _ => false) → X ξ) : ∃ m2 : Nat, l_M_composes_2 s X m2 1 μ := by
  have loop : ∀ (f i : Nat) (ν : Mem), i + f = 60 → Fr cwL μ ν → (∀ n : Nat, 1 ≤ n → n ≤ i → rI ν 159 (n : Int) = 0 ∧ rI ν 160 (n : Int) = 0 ∧ rI ν 161 (n : Int) = 0 ∧ rI ν 162 (n : Int) = 0) → l_M_composes_2 s X (f + 1) ((i : Int) + 1) ν := by
    intro f
    induction f with
    | zero =>
      intro i ν e fr hz
      unfold l_M_composes_2
      (try simp (disch := omega) only [w_id])
      rw [if_pos (by omega)]
      refine h ν fr (fun n n1 n2 => ?_)
      obtain ⟨z1, z2, z3, z4⟩ := hz n n1 (by omega)
      exact ⟨by rw [z1]; rfl, by rw [z2]; rfl, by rw [z3]; rfl, by rw [z4]; rfl⟩
    | succ f ih =>
      intro i ν e fr hz
      unfold l_M_composes_2
      (try simp (disch := omega) only [w_id])
      rw [if_neg (by omega)]
      refine ⟨by omega, by omega, fun μ2 e2 => ⟨by omega, by omega, fun μ3 e3 => ⟨by omega, by omega, fun μ4 e4 => ⟨by omega, by omega, fun μ5 e5 => ?_⟩⟩⟩⟩
      have g := ih (i + 1) μ5 (by omega) (by rw [e5, e4, e3, e2]; exact (((fr.wI (by decide)).wB (by decide)).wI (by decide)).wB (by decide)) (fun n n1 n2 => ?_)
      · exact g
      · have r1 : rI μ5 159 (n : Int) = if n = i + 1 then 0 else rI ν 159 (n : Int) := by
          rw [e5, rI_sB, if_neg (by simp), e4, rI_ne _ _ _ _ rfl, e3, rI_sB, if_neg (by simp), e2, rI_sI]
          by_cases z : n = i + 1
          · rw [if_pos ⟨rfl, by omega⟩, if_pos z]; rfl
          · rw [if_neg (fun y => by omega), if_neg z]
        have r2 : rI μ5 160 (n : Int) = if n = i + 1 then 0 else rI ν 160 (n : Int) := by
          rw [e5, rI_sB, if_neg (by simp), e4, rI_ne _ _ _ _ rfl, e3, rI_sB]
          by_cases z : n = i + 1
          · rw [if_pos ⟨rfl, by omega⟩, if_pos z]; rfl
          · rw [if_neg (fun y => by omega), if_neg z, e2, rI_ne _ _ _ _ rfl]
        have r3 : rI μ5 161 (n : Int) = if n = i + 1 then 0 else rI ν 161 (n : Int) := by
          rw [e5, rI_sB, if_neg (by simp), e4, rI_sI]
          by_cases z : n = i + 1
          · rw [if_pos ⟨rfl, by omega⟩, if_pos z]; rfl
          · rw [if_neg (fun y => by omega), if_neg z, e3, rI_sB, if_neg (by simp), e2, rI_ne _ _ _ _ rfl]
        have r4 : rI μ5 162 (n : Int) = if n = i + 1 then 0 else rI ν 162 (n : Int) := by
          rw [e5, rI_sB]
          by_cases z : n = i + 1
          · rw [if_pos ⟨rfl, by omega⟩, if_pos z]; rfl
          · rw [if_neg (fun y => by omega), if_neg z, e4, rI_ne _ _ _ _ rfl, e3, rI_sB, if_neg (by simp), e2, rI_ne _ _ _ _ rfl]
        rw [r1, r2, r3, r4]
        by_cases z : n = i + 1
        · rw [if_pos z, if_pos z, if_pos z, if_pos z]; exact ⟨rfl, rfl, rfl, rfl⟩
        · rw [if_neg z, if_neg z, if_neg z, if_neg z]; exact hz n n1 (by omega)
  exact ⟨61, loop 60 0 μ rfl (FrP.refl _ _) (fun n n1 n2 => by omega)⟩
theorem m_comp44 {σ : Sg} {s : Nat} (hs : s < 16777216) (hrw : RwW σ) (hb : ∀ m : Nat, m < 24 → s.testBit m = true → (m : Int) < σ 15472 0) {μ : Mem} (eM : MS μ = σ) {X : Mem → Prop} {K : Bool → Mem → Prop}
    (h : ∀ ξ : Mem, Fr cwL μ ξ → CoM ξ ((chN s 24).map (rowOf σ)) (fun _ => false) → ncO ((chN s 24).map (rowOf σ)) → X ξ) (hF : ∀ ξ : Mem, Fr cwL μ ξ → ¬ ncO ((chN s 24).map (rowOf σ)) → K false ξ) :
    ∀ (f m : Nat) (ν : Mem), (m : Int) + (f : Int) = σ 15472 0 → Fr cwL μ ν → CoM ν ((chN s m).map (rowOf σ)) (fun _ => false) → ncO ((chN s m).map (rowOf σ)) → l_M_composes_44 (s : Int) X K (f + 1) (m : Int) ν
  | 0, m, ν, e, fr, hc, nc => by
    have hct := hrw.1
    have mo : rI ν 15472 0 = σ 15472 0 := by rw [fr.rdI rfl, mr rfl, eM]
    unfold l_M_composes_44
    rw [mo]
    (try simp (disch := omega) only [w_id])
    rw [if_neg (by omega)]
    have ce : ∀ k : Nat, m + k ≤ 24 → chN s (m + k) = chN s m := by
      intro k
      induction k with
      | zero => intro _; rfl
      | succ k ih =>
        intro hk
        have e1 : chN s (m + (k + 1)) = if s.testBit (m + k) = true then chN s (m + k) ++ [((m + k : Nat) : Int)] else chN s (m + k) := rfl
        rw [e1, if_neg (fun z => by have := hb (m + k) (by omega) z; omega), ih (by omega)]
    have c24 := ce (24 - m) (by omega)
    rw [show m + (24 - m) = 24 by omega] at c24
    rw [← c24] at hc nc
    exact h ν fr hc nc
  | f + 1, m, ν, e, fr, hc, nc => by
    have hct := hrw.1
    have hm : m < 24 := by omega
    have mo : rI ν 15472 0 = σ 15472 0 := by rw [fr.rdI rfl, mr rfl, eM]
    obtain ⟨wr, wl⟩ := hrw.2.1 (m : Int) (by omega) (by omega)
    have st : chN s (m + 1) = if s.testBit m = true then chN s m ++ [(m : Int)] else chN s m := rfl
    have w12 := wr.1
    have eMν : MS ν = σ := by rw [fr.ms rfl, eM]
    unfold l_M_composes_44
    rw [mo]
    (try simp (disch := omega) only [w_id])
    rw [if_pos (by omega)]
    have hFr : ¬ ncO ((chN s (m + 1)).map (rowOf σ)) → ¬ ncO ((chN s 24).map (rowOf σ)) := fun z y => z (fun n n1 n2 q => y n n1 n2 (by
      have mono : ∀ v : Int, sayA ((chN s (m + 1)).map (rowOf σ)) v = true → sayA ((chN s 24).map (rowOf σ)) v = true := fun v z => by
        unfold sayA at z ⊢
        rw [List.any_eq_true] at z ⊢
        obtain ⟨l, hl, el⟩ := z
        obtain ⟨x, hx, rfl⟩ := List.mem_map.mp hl
        refine ⟨_, List.mem_map.mpr ⟨x, ?_, rfl⟩, el⟩
        obtain ⟨k, k1, k2, k3⟩ := (chN_mem s (m + 1) x).mp hx
        exact (chN_mem s 24 x).mpr ⟨k, k1, by omega, k3⟩
      exact ⟨mono _ q.1, mono _ q.2⟩))
    by_cases b : s.testBit m = true
    · rw [if_pos b] at st
      rw [st, List.map_append] at hFr
      have next : ∀ ξ : Mem, Fr cwL ν ξ → CoM ξ ((chN s m).map (rowOf σ) ++ [rowOf σ (m : Int)]) (fun _ => false) → ncO ((chN s m).map (rowOf σ) ++ [rowOf σ (m : Int)]) → l_M_composes_44 (s : Int) X K (f + 1) ((m : Int) + 1) ξ := fun ξ fx c' n' => by
        have ih := m_comp44 hs hrw hb eM h hF f (m + 1) ξ (by omega) (fr.trans fx) (by rw [st, List.map_append]; exact c') (by rw [st, List.map_append]; exact n')
        exact ih
      refine ⟨(rowOf σ (m : Int)).length + 1, ?_⟩
      have cl := chN_len s m
      refine m_comp54 (σ := σ) (s := s) (m := m) hs hm b (l := rowOf σ (m : Int)) rfl wr wl (Q := (chN s m).map (rowOf σ)) (by rw [List.length_map]; omega) (t := fun _ => false) eMν next (fun ξ fx z => hF ξ (fr.trans fx) (hFr z)) (rowOf σ (m : Int)).length 0 ν (by omega) (FrP.refl _ _) ?_ ?_
      · intro n n1 n2
        rw [List.take_zero, app_nil_wy, app_nil_mus, app_nil_cnt]
        exact hc n n1 n2
      · intro n n1 n2
        rw [List.take_zero, app_nil_say, app_nil_say]
        exact nc n n1 n2
    · rw [if_neg b] at st
      refine ⟨1, ?_⟩
      have ln : rI ν 125 (m : Int) = ((rowOf σ (m : Int)).length : Int) := by rw [mr rfl, eMν]; exact wl
      unfold l_M_composes_54
      (try simp (disch := omega) only [w_id])
      rw [ln, sbit_e (v := (s : Int)) (i := (m : Int)) (by omega) (by omega), show ((s : Int).toNat) = s by omega, show ((m : Int).toNat) = m by omega, if_neg b]
      (try simp (disch := omega) only [w_id])
      have ih := m_comp44 hs hrw hb eM h hF f (m + 1) ν (by omega) fr (by rw [st]; exact hc) (by rw [st]; exact nc)
      refine ⟨by omega, by omega, ite_i (fun _ => ?_) (fun _ => ih)⟩
      rw [if_neg (by decide)]
      exact ih
theorem m_comp213 {Q : List (List Ln)} (h8 : Q.length ≤ 8) {len : Nat} (hl : len ≤ 12) {μ : Mem} (hc : CoM μ Q (fun _ => false)) (hz : rI μ 15541 0 = 0) {X : Int → Mem → Prop}
    (h : ∀ ξ : Mem, Fr [162, 15541] μ ξ → CoM ξ Q (musA Q) → rI ξ 15541 0 = ((sm (cnt Q) 60 : Nat) : Int) → X ((len : Int) - (mcN Q : Int)) ξ) : ∃ m : Nat, l_M_composes_213 X m (len : Int) 1 μ := by
  have loop : ∀ (f i : Nat) (v : Int) (ν : Mem), i + f = 60 → Fr [162, 15541] μ ν → v = (len : Int) - ((sm (fun n => (musA Q n).toNat) i : Nat) : Int) → rI ν 15541 0 = ((sm (cnt Q) i : Nat) : Int) → (∀ n : Nat, 1 ≤ n → n ≤ 60 → rI ν 162 (n : Int) = b2i (if n ≤ i then musA Q n else false)) → l_M_composes_213 X (f + 1) v ((i : Int) + 1) ν := by
    intro f
    induction f with
    | zero =>
      intro i v ν e fr ev hs ht
      unfold l_M_composes_213
      (try simp (disch := omega) only [w_id])
      rw [if_pos (by omega), ev]
      rw [show i = 60 by omega] at hs ht ⊢
      refine h ν fr (fun n n1 n2 => ?_) hs
      have c := hc n n1 n2
      have t := ht n n1 n2
      rw [if_pos n2] at t
      exact ⟨by rw [fr.rdI rfl]; exact c.1, by rw [fr.rdI rfl]; exact c.2.1, by rw [fr.rdI rfl]; exact c.2.2.1, t⟩
    | succ f ih =>
      intro i v ν e fr ev hs ht
      have sb := sm_bd (f := cnt Q) (m := 8) (k := i) (fun n _ _ => by have := cnt_le Q n; omega)
      have mb := sm_bd (f := fun n => (musA Q n).toNat) (m := 1) (k := i) (fun n _ _ => by cases musA Q n <;> decide)
      have cb := cnt_le Q (i + 1)
      obtain ⟨c1, c2, c3, c4⟩ := hc (i + 1) (by omega) (by omega)
      have hv : rI ν 161 ((i : Int) + 1) = ((cnt Q (i + 1) : Nat) : Int) := by rw [fr.rdI rfl]; exact c3
      have mv : ∀ ξ : Mem, Fr [162, 15541] μ ξ → (rI ξ 160 ((i : Int) + 1) = b2i (musA Q (i + 1)) → True) := fun _ _ _ => trivial
      unfold l_M_composes_213
      (try simp (disch := omega) only [w_id])
      rw [if_neg (by omega), hs, hv]
      refine ⟨by omega, by omega, fun μ20 e20 => ⟨by omega, by omega, by omega, by omega, fun μ21 e21 => ⟨by omega, by omega, ?_⟩⟩⟩
      have m20 : rI μ20 160 ((i : Int) + 1) = b2i (musA Q (i + 1)) := by rw [e20, rI_ne _ _ _ _ rfl, fr.rdI rfl]; exact c2
      have b20 : rB μ20 160 ((i : Int) + 1) = musA Q (i + 1) := by rw [rB_rI, m20]; cases musA Q (i + 1) <;> rfl
      rw [b20] at e21
      have b21 : rB μ21 160 ((i : Int) + 1) = musA Q (i + 1) := by
        rw [rB_rI, e21, rI_sB, if_neg (by simp), m20]
        cases musA Q (i + 1) <;> rfl
      have f21 : Fr [162, 15541] μ μ21 := by rw [e21, e20]; exact (fr.wI (by decide)).wB (by decide)
      have l21 : rI μ21 15541 0 = ((sm (cnt Q) (i + 1) : Nat) : Int) := by
        rw [e21, rI_sB, if_neg (by simp), e20, rI_eq _ _ _ ⟨by omega, by omega⟩]
        show _ = ((sm (cnt Q) i + cnt Q (i + 1) : Nat) : Int)
        omega
      have t21 : ∀ n : Nat, 1 ≤ n → n ≤ 60 → rI μ21 162 (n : Int) = b2i (if n ≤ i + 1 then musA Q n else false) := fun n n1 n2 => by
        rw [e21, rI_sB]
        by_cases z : n = i + 1
        · subst z
          rw [if_pos ⟨rfl, by omega⟩, if_pos (Nat.le_refl _)]
        · rw [if_neg (fun y => by omega), e20, rI_ne _ _ _ _ rfl, ht n n1 n2]
          by_cases y : n ≤ i
          · rw [if_pos y, if_pos (by omega)]
          · rw [if_neg y, if_neg (by omega)]
      rw [b21]
      have sv : sm (fun n => (musA Q n).toNat) (i + 1) = sm (fun n => (musA Q n).toNat) i + (musA Q (i + 1)).toNat := rfl
      refine ite_i (fun q => ?_) (fun q => ?_)
      · have g := ih (i + 1) (v + -1) μ21 (by omega) f21 (by rw [sv, q, ev]; show _ = _; simp; omega) l21 t21
        exact g
      · have g := ih (i + 1) v μ21 (by omega) f21 (by rw [sv, bool_f q, ev]; rfl) l21 t21
        exact g
  refine ⟨61, loop 60 0 (len : Int) μ rfl (FrP.refl _ _) (by show (len : Int) = (len : Int) - ((0 : Nat) : Int); omega) hz (fun n n1 n2 => ?_)⟩
  rw [if_neg (by omega)]
  exact (hc n n1 n2).2.2.2
theorem m_comp279 {Q : List (List Ln)} {t : Nat → Bool} {ν : Mem} (hc : CoM ν Q t) {r : Int} {X : Int → Prop} (h : X ((btN (cnt Q) t 60 : Nat) : Int)) : ∃ m : Nat, l_M_composes_279 ν r X m 0 1 := by
  have rng : ∀ i : Nat, btN (cnt Q) t i ≤ i := fun i => by
    rcases btN_or (cnt Q) t i with ⟨e, -⟩ | ⟨-, e, -⟩
    · omega
    · exact e
  have loop : ∀ f i : Nat, i + f = 60 → l_M_composes_279 ν r X (f + 1) ((btN (cnt Q) t i : Nat) : Int) ((i : Int) + 1) := by
    intro f
    induction f with
    | zero =>
      intro i e
      unfold l_M_composes_279
      (try simp (disch := omega) only [w_id])
      rw [if_pos (by omega), show i = 60 by omega]
      exact h
    | succ f ih =>
      intro i e
      have ri := rng i
      have st : btN (cnt Q) t (i + 1) = if t (i + 1) = false ∧ 0 < cnt Q (i + 1) ∧ (btN (cnt Q) t i = 0 ∨ cnt Q (btN (cnt Q) t i) < cnt Q (i + 1)) then i + 1 else btN (cnt Q) t i := rfl
      have g := ih (i + 1) (by omega)
      obtain ⟨c1, c2, c3, c4⟩ := hc (i + 1) (by omega) (by omega)
      have bt : rB ν 162 ((i : Int) + 1) = t (i + 1) := by
        rw [rB_rI, show (i : Int) + 1 = ((i + 1 : Nat) : Int) by omega, c4]
        cases t (i + 1) <;> rfl
      have hv : rI ν 161 ((i : Int) + 1) = ((cnt Q (i + 1) : Nat) : Int) := c3
      have bst : 1 ≤ btN (cnt Q) t i → rI ν 161 ((btN (cnt Q) t i : Nat) : Int) = ((cnt Q (btN (cnt Q) t i) : Nat) : Int) := fun z => (hc _ z (by omega)).2.2.1
      unfold l_M_composes_279
      (try simp (disch := omega) only [w_id])
      rw [if_neg (by omega), bt, hv]
      refine ⟨by omega, by omega, ite_i (fun q => ?_) (fun q => ⟨by omega, by omega, ?_⟩)⟩
      · rw [if_neg (fun z => by rw [q] at z; cases z.1)] at st
        rw [st] at g
        exact g
      · have cr : (cnt Q (i + 1) : Int) < 2147483648 ∨ ¬ (cnt Q (i + 1) : Int) < 2147483648 := by omega
        have hr := rI_rng ν 161 ((i : Int) + 1)
        rw [hv] at hr
        (try simp (disch := omega) only [w_id])
        refine ite_i (fun q2 => ite_i (fun q3 => ?_) (fun q3 => ⟨by omega, by omega, by omega, by omega, ?_⟩)) (fun q2 => ?_)
        · rw [if_pos ⟨bool_f q, by omega, Or.inl (by omega)⟩] at st
          rw [st] at g
          exact g
        · have b1 : 1 ≤ btN (cnt Q) t i := by omega
          have hr2 := rI_rng ν 161 ((btN (cnt Q) t i : Nat) : Int)
          rw [bst b1] at hr2 ⊢
          (try simp (disch := omega) only [w_id])
          refine ite_i (fun q4 => ?_) (fun q4 => ?_)
          · rw [if_pos ⟨bool_f q, by omega, Or.inr (by omega)⟩] at st
            rw [st] at g
            exact g
          · rw [if_neg (fun z => by omega)] at st
            rw [st] at g
            exact g
        · rw [if_neg (fun z => by omega)] at st
          rw [st] at g
          exact g
  exact ⟨61, loop 60 0 rfl⟩
theorem m_comp270 {Q : List (List Ln)} {μ : Mem} {T : Nat → Bool} {X Y : Mem → Prop} (hX : ∀ ξ : Mem, Fr [162] μ ξ → CoM ξ Q T → X ξ) (hY : ∀ ξ : Mem, Fr [162] μ ξ → CoM ξ Q T → Y ξ) :
    ∀ (r : Nat) (t : Nat → Bool) (ν : Mem), r ≤ 12 → Fr [162] μ ν → CoM ν Q t → kpN (cnt Q) r t = T → l_M_composes_270 X Y (r + 1) (r : Int) ν
  | 0, t, ν, hr, fr, hc, hT => by
    unfold l_M_composes_270
    rw [if_neg (by decide)]
    have e : t = T := hT
    rw [e] at hc
    exact hX ν fr hc
  | r + 1, t, ν, hr, fr, hc, hT => by
    unfold l_M_composes_270
    (try simp (disch := omega) only [w_id])
    rw [if_pos (by omega)]
    refine m_comp279 hc ?_
    have rb : btN (cnt Q) t 60 ≤ 60 := by
      rcases btN_or (cnt Q) t 60 with ⟨e, -⟩ | ⟨-, e, -⟩
      · omega
      · exact e
    unfold kpN at hT
    (try simp (disch := omega) only [w_id])
    refine ite_i (fun q => ?_) (fun q => ⟨by omega, by omega, fun μ24 e24 => ?_⟩)
    · rw [if_pos (by omega)] at hT
      rw [hT] at hc
      exact hY ν fr hc
    · rw [if_neg (by omega)] at hT
      have ih := m_comp270 hX hY r _ μ24 (by omega) (by rw [e24]; exact fr.wB (by decide)) (fun n n1 n2 => ?_) hT
      · rw [show ((r + 1 : Nat) : Int) + -1 = (r : Int) by omega]
        exact ih
      · obtain ⟨c1, c2, c3, c4⟩ := hc n n1 n2
        refine ⟨by rw [e24, rI_sB, if_neg (by simp)]; exact c1, by rw [e24, rI_sB, if_neg (by simp)]; exact c2, by rw [e24, rI_sB, if_neg (by simp)]; exact c3, ?_⟩
        rw [e24, rI_sB]
        by_cases z : n = btN (cnt Q) t 60
        · rw [if_pos ⟨rfl, by omega⟩, decide_eq_true z, Bool.or_true]
        · rw [if_neg (fun y => by omega), c4, decide_eq_false z, Bool.or_false]
theorem m_comp355 {Q : List (List Ln)} (h8 : Q.length ≤ 8) {t : Nat → Bool} {ν : Mem} (hc : CoM ν Q t) (hl : rI ν 15541 0 = ((sm (cnt Q) 60 : Nat) : Int)) {K : Bool → Mem → Prop} (h : ∀ ξ : Mem, Fr [15541] ν ξ → rI ξ 15541 0 = ((sm (fun n => if t n = true then 0 else cnt Q n) 60 : Nat) : Int) → K true ξ) : b_M_composes_355 K ν := by
  have tl := tot_le h8
  have split' : ∀ i : Nat, sm (cnt Q) i = sm (fun n => if t n = true then 0 else cnt Q n) i + sm (fun n => if t n = true then cnt Q n else 0) i := fun i => by
    rw [← sm_add]
    exact sm_ext (fun n _ _ => by split <;> omega)
  have mono : ∀ i : Nat, i ≤ 60 → sm (fun n => if t n = true then cnt Q n else 0) i ≤ sm (cnt Q) 60 := fun i hi => by
    have a : sm (fun n => if t n = true then cnt Q n else 0) i ≤ sm (cnt Q) i := sm_le (fun n _ _ => by split <;> omega)
    have b : ∀ k : Nat, sm (cnt Q) i ≤ sm (cnt Q) (i + k) := by
      intro k
      induction k with
      | zero => exact Nat.le_refl _
      | succ k ih =>
        show _ ≤ sm (cnt Q) (i + k) + cnt Q (i + k + 1)
        omega
    have := b (60 - i)
    rw [show i + (60 - i) = 60 by omega] at this
    omega
  unfold b_M_composes_355
  have loop : ∀ (f i : Nat) (ξ : Mem), i + f = 60 → Fr [15541] ν ξ → rI ξ 15541 0 = ((sm (cnt Q) 60 : Nat) : Int) - ((sm (fun n => if t n = true then cnt Q n else 0) i : Nat) : Int) → l_M_composes_357 (fun (μ_29 : Mem) => K true μ_29) (f + 1) ((i : Int) + 1) ξ := by
    intro f
    induction f with
    | zero =>
      intro i ξ e fx hx
      unfold l_M_composes_357
      (try simp (disch := omega) only [w_id])
      rw [if_pos (by omega)]
      refine h ξ fx ?_
      rw [hx, show i = 60 by omega]
      have := split' 60
      omega
    | succ f ih =>
      intro i ξ e fx hx
      obtain ⟨c1, c2, c3, c4⟩ := hc (i + 1) (by omega) (by omega)
      have mo := mono i (by omega)
      have cb := cnt_le Q (i + 1)
      have sv : sm (fun n => if t n = true then cnt Q n else 0) (i + 1) = sm (fun n => if t n = true then cnt Q n else 0) i + (if t (i + 1) = true then cnt Q (i + 1) else 0) := rfl
      have bt : rB ξ 162 ((i : Int) + 1) = t (i + 1) := by
        rw [rB_rI, fx.rdI rfl, show (i : Int) + 1 = ((i + 1 : Nat) : Int) by omega, c4]
        cases t (i + 1) <;> rfl
      have hv : rI ξ 161 ((i : Int) + 1) = ((cnt Q (i + 1) : Nat) : Int) := by rw [fx.rdI rfl]; exact c3
      unfold l_M_composes_357
      (try simp (disch := omega) only [w_id])
      rw [if_neg (by omega), bt, hx, hv]
      refine ⟨by omega, by omega, ite_i (fun q => ⟨by omega, by omega, fun μ28 e28 => ?_⟩) (fun q => ?_)⟩
      · have g := ih (i + 1) μ28 (by omega) (by rw [e28]; exact fx.wI (by decide)) (by rw [e28, rI_eq _ _ _ ⟨by omega, by omega⟩, sv, if_pos q]; omega)
        exact g
      · have g := ih (i + 1) ξ (by omega) fx (by rw [hx, sv, if_neg q]; rfl)
        exact g
  exact ⟨61, loop 60 0 ν rfl (FrP.refl _ _) (by rw [hl]; show _ = _ - ((0 : Nat) : Int); omega)⟩
theorem m_composes {μ : Mem} (q : QM μ) (hrw : RwW (MS μ)) {s : Int} (hs : 0 ≤ s ∧ s < 16777216) (hb : ∀ m : Nat, m < 24 → s.toNat.testBit m = true → (m : Int) < MS μ 15472 0) (h8 : (chN s.toNat 24).length ≤ 8) {K : Bool → Mem → Prop}
    (h1 : okC (lenI (MS μ) (Fo (MS μ))).toNat (rwB (MS μ) s) → ∀ ξ : Mem, Fr coL μ ξ → CoM ξ (rwB (MS μ) s) (kpC (lenI (MS μ) (Fo (MS μ))).toNat (rwB (MS μ) s)) → rI ξ 15541 0 = ((loC (lenI (MS μ) (Fo (MS μ))).toNat (rwB (MS μ) s) : Nat) : Int) → K true ξ) (h2 : ¬ okC (lenI (MS μ) (Fo (MS μ))).toNat (rwB (MS μ) s) → ∀ ξ : Mem, Fr coL μ ξ → K false ξ) : f_M_composes s μ K := by
  have lr : 1 ≤ lenI (MS μ) (Fo (MS μ)) ∧ lenI (MS μ) (Fo (MS μ)) ≤ 12 := by
    obtain ⟨κ, hru⟩ := q.2.2.2
    exact ⟨hru.2.2.2.2.1, hru.2.2.2.2.2.1⟩
  have hct := hrw.1
  obtain ⟨s0, hs0⟩ : ∃ s0 : Nat, s = (s0 : Int) := ⟨s.toNat, by omega⟩
  subst hs0
  have es : ((s0 : Int).toNat) = s0 := by omega
  unfold rwB at h1 h2
  rw [es] at h1 h2 hb h8
  have R8 : ((chN s0 24).map (rowOf (MS μ))).length ≤ 8 := by rw [List.length_map]; exact h8
  unfold f_M_composes
  refine m_comp2 (fun ξ1 f1 c1 => ?_)
  have e1 : MS ξ1 = MS μ := f1.ms rfl
  refine ⟨(MS μ 15472 0).toNat + 1, m_comp44 (σ := MS μ) (s := s0) (by omega) hrw hb (μ := ξ1) e1 (fun ξ2 f2 c2 nc => ?_) (fun ξ2 f2 nc => h2 (fun z => nc z.1) ξ2 ((Fr.mono f1 rfl).trans (Fr.mono f2 rfl))) (MS μ 15472 0).toNat 0 ξ1 (by omega) (FrP.refl _ _) c1 (fun n _ _ z => by cases z.1)⟩
  have f02 : Fr cwL μ ξ2 := f1.trans f2
  have e2 : MS ξ2 = MS μ := f02.ms rfl
  refine m_length (QS.ms q e2) ?_
  rw [e2]
  generalize (chN s0 24).map (rowOf (MS μ)) = R at *
  generalize hlen : lenI (MS μ) (Fo (MS μ)) = L at *
  intro μ18 e18
  have f18 : Fr [15541] ξ2 μ18 := by rw [e18]; exact fr1 _ _ _ _
  have z18 : rI μ18 15541 0 = 0 := by rw [e18, rI_eq _ _ _ ⟨by decide, by decide⟩]
  have c18 := c2.fr f18 rfl
  clear e18
  have eL : L = ((L.toNat : Nat) : Int) := by omega
  have go := m_comp213 (Q := R) R8 (len := L.toNat) (by omega) c18 z18 (X := fun (v2_4 : Int) (μ_22 : Mem) => if w v2_4 < 0 then (K false μ_22) else (∃ m270 : Nat, l_M_composes_270 (fun (μ_25 : Mem) => b_M_composes_355 K μ_25) (fun (μ_30 : Mem) => b_M_composes_355 K μ_30) m270 v2_4 μ_22)) (fun ξ3 f3 c3 l3 => ?_)
  · rw [← eL] at go
    exact go
  · have f03 : Fr coL μ ξ3 := ((Fr.mono f02 rfl).trans (Fr.mono f18 rfl)).trans (Fr.mono f3 rfl)
    have mb : mcN R ≤ 60 := by
      have := sm_bd (f := fun n => (musA R n).toNat) (m := 1) (k := 60) (fun n _ _ => by cases musA R n <;> decide)
      unfold mcN
      omega
    (try simp (disch := omega) only [w_id])
    refine ite_i (fun z => h2 (fun y => by have := y.2; omega) ξ3 f03) (fun z => ?_)
    have ok : okC L.toNat R := ⟨nc, by omega⟩
    have fin : ∀ ξ : Mem, Fr [162] ξ3 ξ → CoM ξ R (kpC L.toNat R) → b_M_composes_355 K ξ := fun ξ fx cx => by
      refine m_comp355 R8 cx (by rw [fx.rdI rfl]; exact l3) (fun ο fo lo => h1 ok ο ((f03.trans (Fr.mono fx rfl)).trans (Fr.mono fo rfl)) (cx.fr fo rfl) lo)
    refine ⟨(L.toNat - mcN R) + 1, ?_⟩
    have g := m_comp270 (T := kpC L.toNat R) fin fin (L.toNat - mcN R) (musA R) ξ3 (by omega) (FrP.refl _ _) c3 rfl
    rw [show ((L.toNat - mcN R : Nat) : Int) = ((L.toNat : Nat) : Int) - (mcN R : Int) by omega] at g
    exact g
