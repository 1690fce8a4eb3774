/-! ORDERS, both sides -/
theorem nru {q : Nat} (h1 : ¬ (20 ≤ q ∧ q ≤ 62)) (h2 : ¬ (3432 ≤ q ∧ q ≤ 8558)) : gRuc q = false := by
  unfold gRuc
  cases e : (Nat.ble 20 q && Nat.ble q 62) || (Nat.ble 3432 q && Nat.ble q 8558) with
  | false => rfl
  | true =>
    simp only [Bool.or_eq_true, Bool.and_eq_true, Nat.ble_eq] at e
    omega
theorem inM_nru {q : Nat} (h : inM q = true) : gRuc q = false := by
  unfold inM at h
  simp only [Bool.or_eq_true, Bool.and_eq_true, Nat.ble_eq, Nat.beq_eq] at h
  exact nru (by omega) (by omega)
def axL (A : List Nat) (r : Nat) : List Nat := A ++ raL r
theorem axL_f {A : List Nat} {r q : Nat} (hr : Rr r) (h1 : lel A q = false) (h2 : gRuc q = false) : lel (axL A r) q = false := lel_f (fun m => by
  unfold axL at m
  rcases List.mem_append.mp m with m | m
  · exact lel_n h1 m
  · exact lel_n (raL_f hr h2) m)
theorem axL_lo {A : List Nat} {g : Nat → Bool} {r : Nat} (hr : Rr r) {μ ξ : Mem} (f : Fr (axL A r) μ ξ) (h1 : (A.all fun q => !(g q)) = true) (h2 : ∀ q : Nat, g q = true → gRuc q = false) : Lo g (CS μ) (CS ξ) := fun q hq => funext fun j => by
  unfold CS
  by_cases e : PC q j = true
  · rw [if_pos e, if_pos e, f.rdI (axL_f hr (all_nl h1 hq) (h2 q hq))]
  · rw [if_neg e, if_neg e]
theorem axL_lm {A : List Nat} {g : Nat → Bool} {r : Nat} (hr : Rr r) {μ ξ : Mem} (f : Fr (axL A r) μ ξ) (h1 : (A.all fun q => !(g q)) = true) : Lo g (MS μ) (MS ξ) := fun q hq => funext fun j => by
  unfold MS
  by_cases e : inM q = true
  · rw [if_pos e, if_pos e, f.rdI (axL_f hr (all_nl h1 hq) (inM_nru e))]
  · rw [if_neg e, if_neg e]
theorem Fr.ax {A L : List Nat} {r : Nat} {μ ξ : Mem} (f : Fr L μ ξ) (h : lsub L A = true) : Fr (axL A r) μ ξ := FrP.wide (Fr.mono f h) (lel_sub (fun q hq => List.mem_append_left _ hq))
theorem Fr.axo {A : List Nat} {r : Nat} {μ ξ : Mem} (f : Fr (orL r) μ ξ) (h : lsub (txL ++ ftL ++ [9066]) A = true) : Fr (axL A r) μ ξ := FrP.wide f (lel_sub (fun q hq => by
  unfold orL at hq
  unfold axL
  rcases List.mem_append.mp hq with hq | hq
  · exact List.mem_append_left _ (List.elem_iff.mp (List.all_eq_true.mp h q hq))
  · exact List.mem_append_right _ hq))
theorem Fr.axs {A : List Nat} {r : Nat} {μ ξ : Mem} (f : Fr (orsL r) μ ξ) (h : lsub (txL ++ [9066]) A = true) : Fr (axL A r) μ ξ := FrP.wide f (lel_sub (fun q hq => by
  unfold orsL at hq
  unfold axL
  rcases List.mem_append.mp hq with hq | hq
  · exact List.mem_append_left _ (List.elem_iff.mp (List.all_eq_true.mp h q hq))
  · exact List.mem_append_right _ hq))
theorem Fr.axr {A L : List Nat} {r : Nat} {μ ξ : Mem} (f : Fr L μ ξ) (h : ∀ q ∈ L, q ∈ raL r) : Fr (axL A r) μ ξ := FrP.wide f (lel_sub (fun q hq => List.mem_append_right _ (h q hq)))
def gPo (q : Nat) : Bool := Nat.beq q 15466 || (Nat.ble 117 q && Nat.ble q 121) || Nat.beq q 15472 || Nat.beq q 15474
def gPoc (q : Nat) : Bool := (Nat.ble 13 q && Nat.ble q 17) || Nat.beq q 2543 || Nat.beq q 2544
theorem RelP.or {κ κ' σ σ' : Sg} {N N' : Int} (hc : Lo gPoc κ κ') (h : Lo gPo σ σ') (hr : RuE N σ σ') (k : RelP κ σ) (eN : σ 15479 0 = N) (hN : N ≤ N' ∧ N' ≤ 10) (e1 : κ' 2545 0 = N') (e2 : σ' 15479 0 = N')
    (old : ∀ i : Int, -1 ≤ i → i < N → ∀ q : Nat, (rIx i + 1 ≤ q ∧ q ≤ rIx i + 3) ∨ q = gid (rIx i) 4 ∨ q = gid (rIx i) 5 ∨ q = gid (rIx i) 6 → κ' q = κ q)
    (nw : ∀ i : Int, N ≤ i → i < N' → RuOK κ' σ' (rIx i) i) : RelP κ' σ' := by
  have hru : ∀ i : Int, -1 ≤ i → i < N' → RuOK κ' σ' (rIx i) i := fun i h0 h1 => by
    by_cases c : i < N
    · obtain ⟨-, -, -, -, -, -, -, -, h10, -, -, kr⟩ := k
      rw [eN] at kr h10
      exact RuOK.pt h10 hr h0 c (old i h0 c) (kr i h0 c)
    · exact nw i (by omega) h1
  unfold RelP at *
  rw [e1, e2, h 15466 rfl, h 117 rfl, h 118 rfl, h 119 rfl, h 120 rfl, h 121 rfl, h 15472 rfl, h 15474 rfl, hc 13 rfl, hc 14 rfl, hc 15 rfl, hc 16 rfl, hc 17 rfl, hc 2543 rfl, hc 2544 rfl]
  rw [eN] at k
  have n0 := k.2.2.2.2.2.2.2.1
  exact ⟨k.1, k.2.1, k.2.2.1, k.2.2.2.1, k.2.2.2.2.1, k.2.2.2.2.2.1, rfl, by omega, by omega, k.2.2.2.2.2.2.2.2.2.1, k.2.2.2.2.2.2.2.2.2.2.1, hru⟩
theorem FlW.newO {σ σ' : Sg} {F : Fl} (h : FlW σ F) {N : Int} (hO : σ 15479 0 = N) (n0 : 0 ≤ N) (n1 : N < 10) (hm : σ 15472 0 ≤ 24) (ha : σ 15474 0 ≤ 40) (e1 : σ' 15472 0 = σ 15472 0) (e2 : σ' 15474 0 = σ 15474 0) (e3 : σ' 15479 0 = N + 1) : FlW σ' (orF F N) := by
  obtain ⟨w1, w2, w3, w4, w5, w6, w7, w8⟩ := h
  have im : ∀ x : Int, isMt σ' x ↔ (isMt σ x ∨ x = 200 + N) := fun x => by
    unfold isMt
    rw [e1, e2, e3, hO]
    omega
  refine ⟨fun x => ?_, fun x hx => ?_, fun x hx => ?_, w4, fun m q0 q1 => ?_, w6, ?_, ?_⟩
  · show -1 ≤ (if x = 200 + N then (if N = 0 then 1 else 0) else F.1 x) ∧ (if x = 200 + N then (if N = 0 then 1 else 0) else F.1 x) ≤ 4
    have := w1 x
    split
    · split <;> omega
    · omega
  · show 0 ≤ (if x = 200 + N then (if N = 0 then 1 else 0) else F.1 x)
    by_cases c : x = 200 + N
    · rw [if_pos c]; split <;> omega
    · rw [if_neg c]
      exact w2 x (((im x).mp hx).resolve_right c)
  · show (if x = 200 + N then _ else F.1 x) = -1
    rw [if_neg (fun c => hx ((im x).mpr (Or.inr c)))]
    exact w3 x (fun c => hx ((im x).mpr (Or.inl c)))
  · rw [e1] at q0
    exact w5 m q0 q1
  · show -1 ≤ (if N = 0 then 0 else F.2.2.2)
    split <;> omega
  · show (if N = 0 then 0 else F.2.2.2) < σ' 15479 0
    rw [e3]
    split <;> omega
theorem c_clear {r : Nat} (hr : Rr r) {ν : Mem} {K : Mem → Prop} (h : ∀ ξ : Mem, Fr (raL r) ν ξ → RsC r ξ [] → K ξ) : f_Rules_clear r ν K := by
  have n1 : ∀ c q : Nat, ¬ q = c → lel [c] q = false := fun c q hq => lel_f (fun m => by
    simp only [List.mem_cons, List.not_mem_nil, or_false] at m
    exact hq m)
  have up' : ∀ (c : Nat) (a z : Mem), c ∈ raL r → Fr [c] a z → Fr (raL r) a z := fun c a z hc f => FrP.wide f (lel_sub (fun q hq => by
    simp only [List.mem_cons, List.not_mem_nil, or_false] at hq
    rw [hq]; exact hc))
  unfold f_Rules_clear
  intro μ1 e1
  have f1 : Fr [gid r 3] ν μ1 := by rw [e1]; exact fr1 _ _ _ _
  have a1 : rI μ1 (gid r 3) 0 = 0 := by rw [e1, rI_eq _ _ _ ⟨by decide, by decide⟩]
  refine c_fill (by decide) (fun μ2 f2 v2 => c_fill (by decide) (fun μ3 f3 v3 => ?_))
  intro μ4 e4 μ5 e5 μ6 e6
  have f4 : Fr [gid r 4] μ3 μ4 := by rw [e4]; exact fr1 _ _ _ _
  have f5 : Fr [gid r 5] μ4 μ5 := by rw [e5]; exact fr1 _ _ _ _
  have f6 : Fr [gid r 6] μ5 μ6 := by rw [e6]; exact fr1 _ _ _ _
  have a4 : rI μ4 (gid r 4) 0 = 10 := by rw [e4, rI_eq _ _ _ ⟨by decide, by decide⟩]
  have a5 : rI μ5 (gid r 5) 0 = 12 := by rw [e5, rI_eq _ _ _ ⟨by decide, by decide⟩]
  have a6 : rI μ6 (gid r 6) 0 = 0 := by rw [e6, rI_sB, if_pos ⟨rfl, rfl⟩]; rfl
  clear e1 e4 e5 e6
  have g : ∀ k : Nat, gid r k = 1000 + 128 * r + k := fun k => rfl
  have r1 : r ≤ 59 := hr.2
  have g3 := g 3
  have g4 := g 4
  have g5 := g 5
  have g6 := g 6
  refine h μ6 ?_ ⟨⟨?_, fun j hj => absurd hj (by show ¬ j < 0; omega)⟩, ?_, ?_, ?_, fun p p0 p1 => ⟨?_, ?_⟩⟩
  · have m : ∀ c : Nat, c = r + 2 ∨ c = r + 3 ∨ c = gid r 3 ∨ c = gid r 4 ∨ c = gid r 5 ∨ c = gid r 6 → c ∈ raL r := fun c hc => by
      unfold raL
      simp only [List.mem_cons, List.not_mem_nil, or_false]
      omega
    exact ((((((up' _ _ _ (m _ (by simp)) f1)).trans (up' _ _ _ (m _ (by simp)) f2)).trans (up' _ _ _ (m _ (by simp)) f3)).trans (up' _ _ _ (m _ (by simp)) f4)).trans (up' _ _ _ (m _ (by simp)) f5)).trans (up' _ _ _ (m _ (by simp)) f6)
  · rw [f6.rdI (n1 _ _ (by omega)), f5.rdI (n1 _ _ (by omega)), f4.rdI (n1 _ _ (by omega)), f3.rdI (n1 _ _ (by omega)), f2.rdI (n1 _ _ (by omega))]; exact a1
  · rw [f6.rdI (n1 _ _ (by omega)), f5.rdI (n1 _ _ (by omega))]; exact a4
  · rw [f6.rdI (n1 _ _ (by omega))]; exact a5
  · exact a6
  · rw [f6.rdI (n1 _ _ (by omega)), f5.rdI (n1 _ _ (by omega)), f4.rdI (n1 _ _ (by omega)), f3.rdI (n1 _ _ (by omega)), v2 p p0 (by omega)]; rfl
  · rw [f6.rdI (n1 _ _ (by omega)), f5.rdI (n1 _ _ (by omega)), f4.rdI (n1 _ _ (by omega)), v3 p p0 (by omega)]; rfl
def coFl : List Nat := txL ++ ftL ++ [9066, 2281]
/-- the class reads ORDERS: from behind the reader's new rules -/
theorem c_ordRead {b : Bts} {n : Nat} (hb : BtO b n) {r : Nat} (hr : Rr r) (hru : isRu r = true) {μ : Mem} (hB : BtC b n μ) {K : Bool → Mem → Prop}
    (h : onR (ror b n) (FaR r (sR μ 9065 0 (some r)) K) (fun S => ∀ ξ : Mem, Fr (orL r) (sR μ 9065 0 (some r)) ξ → rI ξ 2287 0 = -1 → RsC r ξ S → K true ξ)) : f_OrdR_read r μ K := by
  unfold f_OrdR_read
  intro μ1 e1
  rw [← e1] at h
  have R1 : rR μ1 9065 0 = some r := by rw [e1]; exact (if_pos (And.intro rfl rfl) : (if (9065 : Nat) = 9065 ∧ (0 : Int) = 0 then some r else μ.2.2 9065 0) = some r)
  have B1 : BtC b n μ1 := by rw [e1]; exact hB
  clear e1
  refine ⟨r, R1, hru, c_clear hr (fun μ2 f2 S2 => ?_)⟩
  have B2 : BtC b n μ2 := B1.of f2 (raL_f hr rfl) (raL_f hr rfl)
  refine c_begin hb B2 (fun μ3 f3 z3 p3 t3 => ?_)
  have f13 : Fr (orL r) μ1 μ3 := (f2.orR (fun q hq => hq)).ors.trans (f3.orT rfl)
  refine ⟨17, c_read_l (ν0 := μ3) hb hr hru 16 [] (tok b n 0) μ3 (by decide) (by decide) (FrP.refl _ _) ⟨B2.fr f3 rfl, (tok_ok hb (Nat.zero_le n)).1, t3, rR_fr f13 R1, S2.tx hr f3 rfl⟩ (Nat.zero_le _) ?_⟩
  unfold ror at h
  refine onR_mono h (fun f q z => FaR.tr z f13) (fun S z ξ fx s => z ξ (f13.trans fx.ors) ?_ s)
  rw [fx.rdI (orsL_f hr rfl rfl)]
  exact p3
def moR : List Nat := [15464] ++ stL ++ mqL
def moS : List Nat := moR ++ spL
theorem RsM.fr {L : List Nat} {ν ξ : Mem} {S : List Cl} (h : RsM ν S) (f : Fr L ν ξ) (h1 : (lel L 143 || lel L 144 || lel L 145 || lel L 146 || lel L 147 || lel L 148 || lel L 149) = false) : RsM ξ S := by
  simp only [Bool.or_eq_false_iff] at h1
  obtain ⟨⟨⟨⟨⟨⟨a1, a2⟩, a3⟩, a4⟩, a5⟩, a6⟩, a7⟩ := h1
  refine ⟨h.1.fr f (by rw [a1, a2]; rfl), by rw [f.rdI a3]; exact h.2.1, fun i hi => ?_⟩
  obtain ⟨x1, x2, x3, x4⟩ := h.2.2 i hi
  exact ⟨by rw [f.rdI a4]; exact x1, by rw [f.rdI a5]; exact x2, by rw [f.rdI a6]; exact x3, by rw [f.rdI a7]; exact x4⟩
theorem m_ordRead {ο : Mem} {b : Bts} {n : Nat} (hb : BtO b n) (hB : BtM b n ο) (hN : ¬ MS ο 15479 0 = 10) {K : Int → Mem → Prop}
    (h : onR (ror b n) (fun f p => ∀ ξ : Mem, Fr moS ο ξ → RuQ ο ξ → MS ξ 15512 0 = 0 → MS ξ 15519 0 = (p : Int) → K (-1 - f) ξ) (fun S => ∀ ξ : Mem, Fr moS ο ξ → RuQ ο ξ → MS ξ 15512 0 = 0 → MS ξ 15519 0 = -1 → RsM ξ S → m_orT ξ K)) : f_M_orders ο K := by
  unfold f_M_orders
  intro μ1 e1
  have f1 : Fr [15464] ο μ1 := by rw [e1]; exact fr1 _ _ _ _
  have s1 : MS μ1 = MS ο := by rw [e1]; exact thr_ms ο
  have k1 : rI μ1 15479 0 = MS ο 15479 0 := by rw [mr rfl, s1]
  have kr := MS_rng ο 15479 0
  clear e1
  rw [k1]
  (try simp (disch := omega) only [w_id])
  rw [if_neg hN]
  refine m_starts hb (hB.fr f1 rfl) (fun ξ2 f2 s2 z2 o2 t2 => ?_)
  have f02 : Fr moR ο ξ2 := (Fr.mono f1 rfl).trans (Fr.mono f2 rfl)
  have q2 : RuQ ο ξ2 := by
    have f02' : Fr ([15464] ++ stL ++ mxL) ο ξ2 := (Fr.mono f1 rfl).trans (Fr.mono f2 rfl)
    refine ⟨fun j _ => f02'.rdI rfl, fun j hj => ?_, fun q hq j _ => ?_⟩
    · rw [mr (μ := ξ2) rfl, s2, s1, up_ni _ _ _ hj, up_ne _ _ _ rfl]
      rfl
    · rcases rowLs_c hq with rfl | rfl | rfl | rfl <;> exact f02'.rdI rfl
  have r2 : RsM ξ2 [] := by
    refine ⟨⟨?_, fun j hj => absurd hj (by show ¬ j < 0; omega)⟩, ?_, fun i hi => absurd hi (by show ¬ i < 0; omega)⟩
    · rw [mr rfl, s2, up_ne _ _ _ rfl, up_at]; rfl
    · rw [mr rfl, s2, up_at]; rfl
  have hT := (tok_ok hb (Nat.zero_le n)).1
  have B2 := hB.fr f02 rfl
  refine ⟨18, ?_⟩
  have ok := rdOr_ok hb 17 [] (tok b n 0) (by decide) ⟨by decide, fun c hc => absurd hc (by simp), fun i hi => absurd hi (by simp)⟩ hT (Nat.zero_le _)
  have g := m_orders_l (ν0 := ξ2) (K := fun (μ_5 : Mem) => f_M_stops μ_5 (fun r42 μ_6 => if w r42 < 0 then (K r42 μ_6) else m_orT μ_6 K)) hb 16 [] (tok b n 0) ξ2 (by decide) (by decide) (FrQ.refl _) ⟨B2, hT, t2, z2, o2, r2⟩ (Nat.zero_le _) ?_
  · exact g
  · unfold ror at h
    have st : ∀ (p : Int) (ξ ξ6 : Mem), MS ξ6 = up (up (MS ξ) 15512 0 0) 15519 0 p → MS ξ6 15512 0 = 0 ∧ MS ξ6 15519 0 = p := fun p ξ ξ6 s6 => by
      rw [s6, up_ne _ _ _ rfl, up_at]
      exact ⟨rfl, up_at _ _ _ _⟩
    rcases ok with ⟨e, e1, e2⟩ | ⟨S, e1, e2, e3⟩
    · rw [e1] at h ⊢
      intro ξ fx a p
      refine m_stops_f a e2 p (fun ξ6 f6 s6 => ?_)
      have sv := st _ ξ ξ6 s6
      (try simp (disch := omega) only [w_id])
      rw [if_pos (by omega)]
      exact h ξ6 (((Fr.mono f02 rfl).trans (Fr.mono fx.1 rfl)).trans (Fr.mono f6 rfl)) ((q2.trans fx.ruq).trans (RuQ.of f6 rfl)) sv.1 sv.2
    · rw [e1] at h ⊢
      intro ξ fx z s
      refine m_stops_t z (fun ξ6 f6 s6 => ?_)
      have sv := st _ ξ ξ6 s6
      rw [if_neg (by decide)]
      exact h ξ6 (((Fr.mono f02 rfl).trans (Fr.mono fx.1 rfl)).trans (Fr.mono f6 rfl)) ((q2.trans fx.ruq).trans (RuQ.of f6 rfl)) sv.1 sv.2 (s.fr f6 rfl)
def oAf : List Nat := coFl ++ moS
def coS : List Nat := coFl ++ [2545, 68, 9584, 11630]
def oAs : List Nat := coS ++ moS ++ owL
theorem rI_sR (μ : Mem) (c : Nat) (j : Int) (v : Option Nat) (q : Nat) (i : Int) : rI (sR μ c j v) q i = rI μ q i := rfl
theorem old_ru {κ κ' : Sg} {N : Int} (hN : 0 ≤ N ∧ N < 10) (hc : ∀ q : Nat, gRuc q = true → ¬ q ∈ raL (rIx N) → κ' q = κ q) : ∀ i : Int, -1 ≤ i → i < N → ∀ q : Nat, (rIx i + 1 ≤ q ∧ q ≤ rIx i + 3) ∨ q = gid (rIx i) 4 ∨ q = gid (rIx i) 5 ∨ q = gid (rIx i) 6 → κ' q = κ q := fun i i0 i1 q hq => by
  have r1 : rIx N = 23 + 4 * N.toNat := by unfold rIx; rw [if_neg (by omega)]
  have r2 : (i = -1 ∧ rIx i = 19) ∨ (0 ≤ i ∧ rIx i = 23 + 4 * i.toNat) := by
    unfold rIx
    by_cases c : i = -1
    · rw [if_pos c]; exact Or.inl ⟨c, rfl⟩
    · rw [if_neg c]; exact Or.inr ⟨by omega, rfl⟩
  refine hc q (gRuc_a ?_) (fun m => ?_)
  · unfold gid at hq
    omega
  · unfold raL at m
    simp only [List.mem_cons, List.not_mem_nil, or_false] at m
    unfold gid at hq m
    omega
theorem axL_ru {A : List Nat} {r : Nat} {μ ξ : Mem} (f : Fr (axL A r) μ ξ) (hA : (A.all fun q => !(gRuc q)) = true) (q : Nat) (hq : gRuc q = true) (hm : ¬ q ∈ raL r) : CS ξ q = CS μ q := by
  have hl : lel (axL A r) q = false := lel_f (fun m => by
    unfold axL at m
    rcases List.mem_append.mp m with m | m
    · exact lel_n (all_nl hA hq) m
    · exact hm m)
  funext j
  unfold CS
  by_cases e : PC q j = true
  · rw [if_pos e, if_pos e, f.rdI hl]
  · rw [if_neg e, if_neg e]
theorem nR {q : Nat} (h : gRc q = true) : gRuc q = false := by
  unfold gRc at h
  simp only [Bool.or_eq_true, Bool.and_eq_true, Nat.ble_eq] at h
  exact nru (by omega) (by omega)
theorem nPo {q : Nat} (h : gPoc q = true) : gRuc q = false := by
  unfold gPoc at h
  simp only [Bool.or_eq_true, Bool.and_eq_true, Nat.ble_eq, Nat.beq_eq] at h
  exact nru (by omega) (by omega)
theorem nF {q : Nat} (h : gFc q = true) : gRuc q = false := by
  unfold gFc at h
  simp only [Bool.or_eq_true, Bool.and_eq_true, Nat.ble_eq, Nat.beq_eq] at h
  exact nru (by omega) (by omega)
theorem nV {q : Nat} (h : gVc q = true) : gRuc q = false := by
  unfold gVc at h
  simp only [Bool.or_eq_true, Bool.and_eq_true, Nat.ble_eq, Nat.beq_eq] at h
  exact nru (by omega) (by omega)
theorem nB {c q : Nat} (hc : gRuc c = false) (h : Nat.beq q c = true) : gRuc q = false := by rw [Nat.eq_of_beq_eq_true h]; exact hc
theorem inF_nru {q : Nat} (h : inF q = true) : gRuc q = false := by
  unfold inF at h
  simp only [Bool.or_eq_true, Bool.and_eq_true, Nat.ble_eq, Nat.beq_eq] at h
  exact nru (by omega) (by omega)
theorem CL_ax {A : List Nat} {r : Nat} (hr : Rr r) {μ ξ : Mem} (f : Fr (axL A r) μ ξ) (h : (A.all fun q => !(inF q)) = true) : CL ξ = CL μ := by
  have k : ∀ q : Nat, inF q = true → rL ξ q 0 = rL μ q 0 := fun q hq => f.rdL (axL_f hr (all_nl h hq) (inF_nru hq))
  unfold CL
  rw [k 9582 rfl, k 9583 rfl, k 11886 rfl, k 11887 rfl]
theorem Inv.orB {μ ξ : Mem} (h : Inv μ) {N : Int} (hO : MS μ 15479 0 = N) (hN : 0 ≤ N ∧ N < 10) (f : Fr (axL oAf (rIx N)) μ ξ) (hq : RuQ μ ξ) {p : Int} (t1 : MS ξ 15512 0 = 0) (t2 : MS ξ 15519 0 = p) (h1 : rI ξ 2281 0 = 0) (h2 : rI ξ 2287 0 = p) : Inv ξ := by
  have hr : Rr (rIx N) := rIx_rng (by omega) (by omega)
  have lm := fun (g : Nat → Bool) hg => axL_lm (g := g) hr f hg
  have lc := fun (g : Nat → Bool) hg hn => axL_lo (g := g) hr f hg hn
  refine ⟨by rw [f.1]; exact h.1, ?_⟩
  rw [CL_ax hr f rfl]
  refine ⟨h.wfR.lo (lm _ rfl), h.wfT.lo (lm _ rfl), h.relR.lo (lc _ rfl (fun q => nR)) (lm _ rfl), ?_, ?_, RelF.lo (lc _ rfl (fun q => nF)) (lm _ rfl) h.relF, RelV.lo (lc _ rfl (fun q => nV)) (lm _ rfl) h.relV, h.relW.lo (lc (fun q => Nat.beq q 102) rfl (fun q => nB rfl) 102 rfl) (lc (fun q => Nat.beq q 97) rfl (fun q => nB rfl) 97 rfl) (lm (fun q => Nat.beq q 166) rfl 166 rfl)⟩
  · have c1 : CS ξ 2281 0 = 0 := by rw [← cr' rfl]; exact h1
    have c2 : CS ξ 2287 0 = p := by rw [← cr' rfl]; exact h2
    unfold RelT
    rw [c1, c2, t1, t2]
    exact ⟨rfl, by decide, by decide, rfl, fun j j0 j1 => absurd j0 (by omega)⟩
  · have lo := lm (fun q => Nat.beq q 15479) rfl 15479 rfl
    have lco := lc (fun q => Nat.beq q 2545) rfl (fun q => nB rfl) 2545 rfl
    refine RelP.or (N := N) (N' := N) (lc _ rfl (fun q => nPo)) (lm _ rfl) (hq.ru (by omega)) h.relP hO (by omega) ?_ ?_ (old_ru hN (axL_ru f rfl)) (fun i i0 i1 => by omega)
    · rw [lco]; exact h.relP.2.2.2.2.2.2.1.trans hO
    · rw [lo]; exact hO
theorem st_orders : Both Int f_H_orders f_M_orders := by
  intro μ hI
  have hv := hI.iv
  have hct := hv.cnt
  have eO : rI μ 2545 0 = MS μ 15479 0 := (cr' rfl).trans hI.relP.2.2.2.2.2.2.1
  unfold f_H_orders
  rw [eO]
  (try simp (disch := omega) only [w_id])
  refine ite_i (fun q0 => ?_) (fun q0 => ?_)
  · generalize hN : MS μ 15479 0 = N at *
    have n0 : 0 ≤ N := hct.2.2.2.2.1
    have hr : Rr (rIx N) := rIx_rng (by omega) (by omega)
    have hru : isRu (rIx N) = true := rIx_ru (by omega) (by omega)
    unfold f_Papers_draft f_Papers_inForce
    rw [eO, ruOf_e (by omega) (by omega)]
    refine ⟨hru, hru, ?_⟩
    obtain ⟨hb, hB, hBM⟩ := hv.bytes
    -- from the reader's new rules on
    have hI1 : Inv (sR μ 9065 0 (some (rIx N))) := ⟨StatR.put hI.1, hI.2⟩
    have hN1 : MS (sR μ 9065 0 (some (rIx N))) 15479 0 = N := hN
    have hBM1 : ∀ ο : Mem, MS ο = MS (sR μ 9065 0 (some (rIx N))) → BtM (tb μ) (tn μ) ο := fun ο e => hBM ο e
    refine c_ordRead hb hr hru hB ?_
    generalize sR μ 9065 0 (some (rIx N)) = μ1 at *
    have hv1 := hI1.iv
    have hct1 := hv1.cnt
    have hread : ∀ (ο : Mem) (K : Int → Mem → Prop), MS ο = MS μ1 → onR (ror (tb μ) (tn μ)) (fun f p => ∀ ξ : Mem, Fr moS ο ξ → RuQ ο ξ → MS ξ 15512 0 = 0 → MS ξ 15519 0 = (p : Int) → K (-1 - f) ξ) (fun S => ∀ ξ : Mem, Fr moS ο ξ → RuQ ο ξ → MS ξ 15512 0 = 0 → MS ξ 15519 0 = -1 → RsM ξ S → m_orT ξ K) → f_M_orders ο K := fun ο K eM h => m_ordRead hb (hBM1 ο eM) (by rw [eM, hN1]; omega) h
    have ok := rdOr_ok hb 17 [] (tok (tb μ) (tn μ) 0) (by decide) ⟨by decide, fun c hc => absurd hc (by simp), fun i hi => absurd hi (by simp)⟩ (tok_ok hb (Nat.zero_le _)).1 (Nat.zero_le _)
    have bn := hb.1
    clear hB hBM hBM1 hb
    have rorE : ror (tb μ) (tn μ) = rdOr (tb μ) (tn μ) 17 [] (tok (tb μ) (tn μ) 0) := rfl
    rw [← rorE] at ok
    generalize ror (tb μ) (tn μ) = R at *
    have axM : ∀ {L : List Nat} {a z : Mem}, Fr (axL coS (rIx N)) a z → MS z = MS a := fun {L a z} f => funext fun q => funext fun j => by
      unfold MS
      by_cases e : inM q = true
      · rw [if_pos e, if_pos e, f.rdI (axL_f hr (all_nl (g := inM) rfl e) (inM_nru e))]
      · rw [if_neg e, if_neg e]
    rcases ok with ⟨e, e1, e2⟩ | ⟨S, e1, e2, e3⟩
    · rw [e1] at hread ⊢
      intro ξ2 f2 a p μ3 e3
      have f3 : Fr [2281] ξ2 μ3 := by rw [e3]; exact fr1 _ _ _ _
      have l3 : rI μ3 2281 0 = 0 := by rw [e3, rI_eq _ _ _ ⟨by decide, by decide⟩]
      have a3 : rI μ3 2286 0 = e.1 := by rw [f3.rdI rfl]; exact a
      have p3 : rI μ3 2287 0 = (e.2 : Int) := by rw [f3.rdI rfl]; exact p
      clear e3
      rw [if_neg (by decide), a3]
      have g3 : Fr (axL coS (rIx N)) μ1 μ3 := (f2.axo rfl).trans (f3.ax rfl)
      refine hread μ3 _ (axM (L := []) g3) (fun ξ fx rq t1 t2 => ⟨rfl, ?_⟩)
      have gx : Fr (axL oAf (rIx N)) μ1 ξ := ((f2.axo rfl).trans (f3.ax rfl)).trans (fx.ax rfl)
      have q13 : RuQ μ1 μ3 := by
        have k : ∀ q : Nat, lel coS q = false → gRuc q = false → ∀ j : Int, rI μ3 q j = rI μ1 q j := fun q h1 h2 j => g3.rdI (axL_f hr h1 h2)
        refine ⟨fun j _ => k _ rfl rfl j, fun j _ => k _ rfl rfl j, fun q hq j _ => ?_⟩
        rcases rowLs_c hq with rfl | rfl | rfl | rfl <;> exact k _ rfl rfl j
      refine Inv.orB hI1 hN1 ⟨n0, q0⟩ gx (q13.trans rq) t1 t2 ?_ ?_
      · rw [fx.rdI rfl]; exact l3
      · rw [fx.rdI rfl]; exact p3
    · rw [e1] at hread ⊢
      intro ξ2 f2 p S2 μ3 e3'
      rw [if_pos rfl]
      have f3 : Fr [2281] ξ2 μ3 := by rw [e3']; exact fr1 _ _ _ _
      have l3 : rI μ3 2281 0 = 0 := by rw [e3', rI_eq _ _ _ ⟨by decide, by decide⟩]
      have p3 : rI μ3 2287 0 = -1 := by rw [f3.rdI rfl]; exact p
      have S3 := S2.tx hr f3 rfl
      have g3 : Fr (axL coFl (rIx N)) μ1 μ3 := (f2.axo rfl).trans (f3.ax rfl)
      clear e3'
      have o3 : rI μ3 2545 0 = N := by
        rw [g3.rdI (axL_f hr rfl rfl), (cr' rfl).trans hI1.relP.2.2.2.2.2.2.1]; exact hN1
      intro v2 ev μ4 e4
      rw [o3] at ev e4
      subst ev
      have f4 : Fr [2545] μ3 μ4 := by rw [e4]; exact fr1 _ _ _ _
      have o4 : rI μ4 2545 0 = v2 + 1 := by rw [e4, rI_eq _ _ _ ⟨by omega, by omega⟩]
      clear e4
      have A3 : FlA μ3 (flC (MS μ1)) := by
        have := hv1.flA
        obtain ⟨a1, a2, a3, a4, a5⟩ := this
        have k : ∀ q : Nat, lel coFl q = false → gRuc q = false → ∀ j : Int, rI μ3 q j = rI μ1 q j := fun q h1 h2 j => g3.rdI (axL_f hr h1 h2)
        have kL : ∀ q : Nat, lel coFl q = false → gRuc q = false → ∀ j : Int, rL μ3 q j = rL μ1 q j := fun q h1 h2 j => g3.rdL (axL_f hr h1 h2)
        refine ⟨fun x x0 x1 => by rw [k _ rfl rfl]; exact a1 x x0 x1, fun m m0 m1 => ⟨by rw [k _ rfl rfl]; exact (a2 m m0 m1).1, fun i hi => by rw [k _ rfl rfl, k _ rfl rfl, k _ rfl rfl]; exact (a2 m m0 m1).2 i hi⟩, fun x x0 x1 => by rw [kL _ rfl rfl, kL _ rfl rfl]; exact a3 x x0 x1, fun x hx => by rw [kL _ rfl rfl, kL _ rfl rfl]; exact a4 x hx, by rw [k _ rfl rfl]; exact a5⟩
      have A4 := A3.fr f4 rfl rfl
      unfold f_Floor_bring
      refine c_put A4 ⟨by omega, by omega⟩ (by decide) (fun ξ5 f5 A5 => ?_)
      have done : ∀ μ8 : Mem, Fr [68, 9584, 11630] ξ5 μ8 → rI μ8 11630 0 = 0 → FlA μ8 (orF (flC (MS μ1)) v2) → f_M_orders μ8 (fun r' ξ => v2 = r' ∧ Inv ξ) := fun μ8 f8 st8 A8 => by
        have f38 : Fr [2545, 68, 9584, 11630] μ3 μ8 := ((Fr.mono f4 rfl).trans (Fr.mono f5 rfl)).trans (Fr.mono f8 rfl)
        have f58 : Fr [68, 9584, 11630] μ4 μ8 := (Fr.mono f5 rfl).trans f8
        have S8 := S3.tx hr f38 rfl
        have g8 : Fr (axL coS (rIx v2)) μ1 μ8 := ((f2.axo rfl).trans (f3.ax rfl)).trans (f38.ax rfl)
        have q18 : RuQ μ1 μ8 := by
          have k : ∀ q : Nat, lel coS q = false → gRuc q = false → ∀ j : Int, rI μ8 q j = rI μ1 q j := fun q h1 h2 j => g8.rdI (axL_f hr h1 h2)
          refine ⟨fun j _ => k _ rfl rfl j, fun j _ => k _ rfl rfl j, fun q hq j _ => ?_⟩
          rcases rowLs_c hq with rfl | rfl | rfl | rfl <;> exact k _ rfl rfl j
        have eM8 := axM (L := []) g8
        refine hread μ8 _ eM8 (fun ρ fx rq t1 t2 sM => ?_)
        have q1ρ : RuQ μ1 ρ := q18.trans rq
        have gρ : Fr (axL (coS ++ moS) (rIx v2)) μ1 ρ := (((f2.axo rfl).trans (f3.ax rfl)).trans (f38.ax rfl)).trans (fx.ax rfl)
        have lmρ := fun (g : Nat → Bool) hg => axL_lm (g := g) hr gρ hg
        have B0 : FlB (MS μ1) ρ (flC (MS μ1)) := by
          obtain ⟨b1, b2, b3, b4, b5, b6⟩ := hv1.flB
          have e : ∀ q : Nat, lel (coS ++ moS) q = false → gRuc q = false → ∀ j : Int, rI ρ q j = rI μ1 q j := fun q h1 h2 j => gρ.rdI (axL_f hr h1 h2)
          exact ⟨fun x x0 x1 => by rw [e _ rfl rfl]; exact b1 x x0 x1, fun x x0 x1 => by rw [e _ rfl rfl]; exact b2 x x0 x1, fun x x0 x1 => by rw [e _ rfl rfl]; exact b3 x x0 x1, fun x x0 x1 => ⟨by rw [e _ rfl rfl]; exact (b4 x x0 x1).1, fun i hi => by rw [e _ rfl rfl, e _ rfl rfl, e _ rfl rfl]; exact (b4 x x0 x1).2 i hi⟩, fun x x0 x1 => by rw [e _ rfl rfl]; exact b5 x x0 x1, by rw [e _ rfl rfl]; exact b6⟩
        have oρ : rI ρ 15479 0 = v2 := by rw [gρ.rdI (axL_f hr rfl rfl), mr rfl]; exact hN1
        refine m_orT_e B0 (N := v2) oρ hN1 ⟨n0, q0⟩ hct1.2.1 hct1.2.2.2.1 sM e2.1 (by omega) (fun ξ fo k1 k2 k3 k4 k5 => ⟨rfl, ?_⟩)
        have gx : Fr (axL oAs (rIx v2)) μ1 ξ := ((((f2.axo rfl).trans (f3.ax rfl)).trans (f38.ax rfl)).trans (fx.ax rfl)).trans (fo.ax rfl)
        have fM : Fr (moS ++ owL) μ8 ξ := (Fr.mono fx rfl).trans (Fr.mono fo rfl)
        have lm := fun (g : Nat → Bool) hg => axL_lm (g := g) hr gx hg
        have lc := fun (g : Nat → Bool) hg hn => axL_lo (g := g) hr gx hg hn
        have x1 : MS ξ 15472 0 = MS μ1 15472 0 := congrFun (lm (fun q => Nat.beq q 15472) rfl _ rfl) 0
        have x2 : MS ξ 15474 0 = MS μ1 15474 0 := congrFun (lm (fun q => Nat.beq q 15474) rfl _ rfl) 0
        have x3 : MS ξ 15479 0 = v2 + 1 := by rw [← mr rfl]; exact k1
        have cx : ∀ q : Nat, inC q = true → lel (moS ++ owL) q = false → ∀ j : Int, CS ξ q j = rI μ8 q j := fun q h1 h2 j => by rw [← cr' h1, fM.rdI h2]
        have mx : ∀ q : Nat, lel owL q = false → ∀ j : Int, MS ξ q j = MS ρ q j := fun q h1 j => by
          unfold MS
          rw [fo.rdI h1]
        refine ⟨by rw [gx.1]; exact hI1.1, hI1.wfR.lo (lm _ rfl), hI1.wfT.lo (lm _ rfl), hI1.relR.lo (lc _ rfl (fun q => nR)) (lm _ rfl), ?_, ?_, ?_, ?_, ?_⟩
        · have c1 : CS ξ 2281 0 = 0 := by rw [cx _ rfl rfl, f38.rdI rfl]; exact l3
          have c2 : CS ξ 2287 0 = -1 := by rw [cx _ rfl rfl, f38.rdI rfl]; exact p3
          have c3 : MS ξ 15512 0 = 0 := by rw [mx _ rfl]; exact t1
          have c4 : MS ξ 15519 0 = -1 := by rw [mx _ rfl]; exact t2
          unfold RelT
          rw [c1, c2, c3, c4]
          exact ⟨rfl, by decide, by decide, rfl, fun j j0 j1 => absurd j0 (by omega)⟩
        · have ru : RuE v2 (MS μ1) (MS ξ) := by
            have u := q1ρ.ru (N := v2) (by omega)
            unfold RuE at u k3 ⊢
            exact ⟨fun j j0 j1 => (k3.1 j j0 j1).trans (u.1 j j0 j1), fun j j0 j1 => ⟨(k3.2.1 j j0 j1).1.trans (u.2.1 j j0 j1).1, (k3.2.1 j j0 j1).2.1.trans (u.2.1 j j0 j1).2.1, (k3.2.1 j j0 j1).2.2.1.trans (u.2.1 j j0 j1).2.2.1, (k3.2.1 j j0 j1).2.2.2.trans (u.2.1 j j0 j1).2.2.2⟩, fun j j0 j1 => (k3.2.2 j j0 j1).trans (u.2.2 j j0 j1)⟩
          refine RelP.or (N := v2) (N' := v2 + 1) (lc _ rfl (fun q => nPo)) (lm _ rfl) ru hI1.relP hN1 (by omega) ?_ x3 (old_ru ⟨n0, q0⟩ (axL_ru gx rfl)) (fun i i0 i1 => ?_)
          · rw [cx _ rfl rfl, f58.rdI rfl]; exact o4
          · have ei : i = v2 := by omega
            subst ei
            obtain ⟨s1, s2, s3, s4, s5⟩ := S8
            have kx : ∀ q : Nat, (q = rIx i + 1 ∨ q = rIx i + 2 ∨ q = rIx i + 3 ∨ q = gid (rIx i) 3 ∨ q = gid (rIx i) 4 ∨ q = gid (rIx i) 5 ∨ q = gid (rIx i) 6) → ∀ j : Int, CS ξ q j = rI μ8 q j := fun q hq j => by
              have hg := ru_g hr hq
              rw [← cr' (inC_ru (by
                unfold Rr at hr
                unfold gid at hq
                omega)), fM.rdI (all_nl (g := gRuc) rfl hg)]
            exact RuOK.cl ⟨n0, q0⟩ e2 (by omega) (fun j hj => by rw [kx _ (by simp)]; exact s1.2 j hj) (by rw [kx _ (by simp)]; exact s2) (by rw [kx _ (by simp)]; exact s3) (by rw [kx _ (by simp)]; exact s4) (fun p p0 p1 => by rw [kx _ (by simp), kx _ (by simp)]; exact s5 p p0 p1) k4.1 k4.2.2 k4.2.1
        · exact mk_relF (A8.fr fM rfl rfl) (k5 (MS ξ) x1 x2 x3) (hv1.flW.newO hN1 n0 q0 hct1.2.1 hct1.2.2.2.1 x1 x2 x3) (StM.refl ξ) (by rw [x1, x2, x3]; omega)
        · have vv := hI1.relV
          refine RelV.nov vv ?_ ?_ ?_ ?_ ?_ ?_
          · exact congrFun (lc (fun q => Nat.beq q 11632) rfl (fun q => nB rfl) _ rfl) 0
          · exact congrFun (lm (fun q => Nat.beq q 15534) rfl _ rfl) 0
          · exact lc (fun q => Nat.beq q 84) rfl (fun q => nB rfl) _ rfl
          · exact lm (fun q => Nat.beq q 158) rfl _ rfl
          · rw [cx _ rfl rfl]; exact st8
          · rw [← mr rfl]; exact k2
        · exact hI1.relW.lo (lc (fun q => Nat.beq q 102) rfl (fun q => nB rfl) 102 rfl) (lc (fun q => Nat.beq q 97) rfl (fun q => nB rfl) 97 rfl) (lm (fun q => Nat.beq q 166) rfl 166 rfl)
      (try simp (disch := omega) only [w_id])
      refine ite_i (fun z => ?_) (fun z => ?_)
      · refine c_put A5 ⟨by decide, by decide⟩ (by decide) (fun ξ6 f6 A6 => ?_)
        intro μ7 e7
        have f7 : Fr [9584] ξ6 μ7 := by rw [e7]; exact fr1 _ _ _ _
        have w7 : rI μ7 9584 0 = 0 := by rw [e7, rI_eq _ _ _ ⟨by decide, by decide⟩]
        clear e7
        unfold f_Chair_closeLatest
        intro μ8 e8
        have f8 : Fr [11630] μ7 μ8 := by rw [e8]; exact (FrP.refl _ _).wB (by decide)
        have st8 : rI μ8 11630 0 = 0 := by rw [e8, rI_sB, if_pos ⟨rfl, rfl⟩]; rfl
        clear e8
        refine done μ8 (((Fr.mono f6 rfl).trans (Fr.mono f7 rfl)).trans (Fr.mono f8 rfl)) st8 ?_
        obtain ⟨a1, a2, a3, a4, a5⟩ := A6
        have f68 : Fr [9584, 11630] ξ6 μ8 := (Fr.mono f7 rfl).trans (Fr.mono f8 rfl)
        refine ⟨fun x x0 x1 => ?_, fun m m0 m1 => RowAt.fr (a2 m m0 m1) f68 rfl, fun x x0 x1 => by rw [f68.rdL rfl, f68.rdL rfl]; exact a3 x x0 x1, fun x hx => by rw [f68.rdL rfl, f68.rdL rfl]; exact a4 x hx, ?_⟩
        · rw [f68.rdI rfl, a1 x x0 x1]
          show (if x = 200 then 1 else (if x = 200 + v2 then 0 else (flC (MS μ1)).1 x)) = (if x = 200 + v2 then (if v2 = 0 then 1 else 0) else (flC (MS μ1)).1 x)
          rw [z]
          by_cases c : x = 200
          · rw [if_pos c, if_pos (by omega), if_pos rfl]
          · rw [if_neg c, if_neg (by omega), if_neg (by omega)]
        · rw [f8.rdI rfl, w7]
          show 0 = (if v2 = 0 then 0 else (flC (MS μ1)).2.2.2)
          rw [if_pos z]
      · unfold f_Chair_closeLatest
        intro μ8 e8
        have f8 : Fr [11630] ξ5 μ8 := by rw [e8]; exact (FrP.refl _ _).wB (by decide)
        have st8 : rI μ8 11630 0 = 0 := by rw [e8, rI_sB, if_pos ⟨rfl, rfl⟩]; rfl
        clear e8
        refine done μ8 (Fr.mono f8 rfl) st8 ?_
        have := A5.fr f8 rfl rfl
        have eF : orF (flC (MS μ1)) v2 = sHow (flC (MS μ1)) (200 + v2) 0 := by
          unfold orF sHow
          rw [if_neg z, if_neg z]
        rw [eF]
        exact this
  · unfold f_M_orders
    intro μ1 e1
    subst e1
    have ok : Inv (sI μ 15464 0 0) := (thr_qt μ).inv hI
    rw [mr rfl, thr_ms]
    (try simp (disch := omega) only [w_id])
    rw [if_pos (by omega)]
    first | exact ⟨rfl, ok⟩ | exact ⟨trivial, ok⟩
