/-! GROUP and GROUPED, both sides -/
theorem ZrM.snoc {n : Nat} {ν : Mem} {p : List Nat} (h : ZrM n ν p) (hn : p.length < n) : ZrM n ν (p ++ [0]) := by
  refine ⟨fun i hi => ?_, fun i h1 h2 => h.2 i (by rw [List.length_append] at h1; omega) h2⟩
  rw [List.length_append] at hi
  simp only [List.length_cons, List.length_nil] at hi
  rw [getD_appN]
  by_cases c : i < p.length
  · rw [if_pos c]; exact h.1 i c
  · rw [if_neg c, if_pos (by omega), h.2 i (by omega) (by omega)]; rfl
theorem m_enum {σ : Sg} (hq : QS σ) (hrw : RwW σ) {C : List Int} (h8 : C.length ≤ 8) (hsr : Srt C) (hC : ∀ i : Nat, i < C.length → 0 ≤ gI C i ∧ gI C i < σ 15472 0) {most : Nat} (hm : most ≤ 8) {X : Int → Mem → Prop} : ∀ (f : Nat) (p : List Nat) (g : Nat) (B : Gb) (ν : Mem) (m' : Nat), p.length + f = C.length → 1 ≤ p.length → g ≤ p.length → PfW p g → mxG p p.length = g → GbW C.length B → BaM σ C ν → ZrM C.length ν p → GmM C.length ν B →
    (∀ ξ : Mem, Fr grmL ν ξ → ZrM C.length ξ p → GmM C.length ξ (dfs σ C most f p g B) → l_M_countsUp_7 (cuX (fun r μ => l_M_groups_68 (most : Int) X m' (dfs σ C most f p g B).1 ((dfs σ C most f p g B).2.1 : Int) r μ)) (fun r μ => l_M_groups_68 (most : Int) X m' (dfs σ C most f p g B).1 ((dfs σ C most f p g B).2.1 : Int) r μ) (p.length + 1) ((p.length : Int) - 1) ξ) →
    l_M_groups_68 (most : Int) X (m' + lvs f g) B.1 (B.2.1 : Int) true ν
  | 0, p, g, B, ν, m', hp, p1, hg, hw, hx, hB, hb, hz, hgm, h => m_leaf hq hrw h8 hsr hC hm (by omega) hw (by omega) hx hB hb hz hgm h
  | f + 1, p, g, B, ν, m', hp, p1, hg, hw, hx, hB, hb, hz, hgm, h => by
    have fold_s : ∀ k : Nat, (List.range (k + 1)).foldl (fun B v => dfs σ C most f (p ++ [v]) (if v = g then g + 1 else g) B) B = dfs σ C most f (p ++ [k]) (if k = g then g + 1 else g) ((List.range k).foldl (fun B v => dfs σ C most f (p ++ [v]) (if v = g then g + 1 else g) B) B) := fun k => by
      rw [List.range_succ, List.foldl_append]
      rfl
    have fin : dfs σ C most (f + 1) p g B = (List.range (g + 1)).foldl (fun B v => dfs σ C most f (p ++ [v]) (if v = g then g + 1 else g) B) B := rfl
    rw [fin] at h
    have lenS : ∀ v : Nat, (p ++ [v]).length = p.length + 1 := fun v => by rw [List.length_append]; rfl
    have loop : ∀ (r v : Nat) (ξ : Mem), v + r = g → Fr grmL ν ξ → ZrM C.length ξ (p ++ [v]) → GmM C.length ξ ((List.range v).foldl (fun B v => dfs σ C most f (p ++ [v]) (if v = g then g + 1 else g) B) B) → GbW C.length ((List.range v).foldl (fun B v => dfs σ C most f (p ++ [v]) (if v = g then g + 1 else g) B) B) →
        l_M_groups_68 (most : Int) X (m' + (r * lvs f g + lvs f (g + 1))) ((List.range v).foldl (fun B v => dfs σ C most f (p ++ [v]) (if v = g then g + 1 else g) B) B).1 (((List.range v).foldl (fun B v => dfs σ C most f (p ++ [v]) (if v = g then g + 1 else g) B) B).2.1 : Int) true ξ := by
      intro r
      induction r with
      | zero =>
        intro v ξ e fr hzv hgv hwv
        have evg : v = g := by omega
        have fs := fold_s v
        rw [if_pos evg] at fs
        have g2 := m_enum hq hrw h8 hsr hC hm (X := X) f (p ++ [v]) (g + 1) _ ξ m' (by rw [lenS]; omega) (by rw [lenS]; omega) (by rw [lenS]; omega) (by have := hw.s (v := v) (by omega); rw [if_pos evg] at this; exact this) (by rw [mxG_s hx (by omega), if_pos evg]) hwv (hb.fr fr) hzv hgv (fun ξ2 f2 z2 gm2 => ?_)
        · rw [Nat.zero_mul, Nat.zero_add]
          exact g2
        · rw [← fs, show List.range (v + 1) = List.range (g + 1) by rw [evg]] at gm2 ⊢
          rw [lenS, show ((p.length + 1 : Nat) : Int) - 1 = (p.length : Int) by omega]
          have hv' : ∀ i : Nat, i < p.length → rI ξ2 164 (i : Int) = ((p.getD i 0 : Nat) : Int) := fun i hi => by
            have := z2.1 i (by rw [lenS]; omega)
            rw [getD_appN, if_pos hi] at this
            exact this
          have hvl : rI ξ2 164 (p.length : Int) = (v : Int) := by
            have := z2.1 p.length (by rw [lenS]; omega)
            rw [getD_appN, if_neg (by omega), if_pos rfl] at this
            exact this
          unfold l_M_countsUp_7
          (try simp (disch := omega) only [w_id])
          rw [if_pos (by omega)]
          refine ⟨p.length + 1, m_cu15 h8 (by omega) hw (by omega) hv' ?_⟩
          rw [hx, hvl]
          (try simp (disch := omega) only [w_id])
          refine ⟨by omega, by omega, ?_⟩
          rw [if_neg (by omega)]
          refine ⟨by omega, by omega, fun μ2 e2 => ?_⟩
          have fm : Fr grmL ξ2 μ2 := by rw [e2]; exact (FrP.refl _ _).wI (by decide)
          have k := h μ2 ((fr.trans f2).trans fm) ⟨fun i hi => by rw [e2, rI_sI, if_neg (fun z => by omega)]; exact hv' i hi, fun i h1 h2 => by
            rw [e2, rI_sI]
            by_cases c : i = p.length
            · rw [if_pos ⟨rfl, by omega⟩]; rfl
            · rw [if_neg (fun z => by omega)]
              exact z2.2 i (by rw [lenS]; omega) h2⟩ (fun ne i hi => by
            rw [e2, rI_ne _ _ _ _ rfl]
            exact gm2 ne i hi)
          rw [show (p.length : Int) + -1 = (p.length : Int) - 1 by omega]
          exact k
      | succ r ih =>
        intro v ξ e fr hzv hgv hwv
        have nvg : ¬ v = g := by omega
        have fs := fold_s v
        rw [if_neg nvg] at fs
        have al : PfW (p ++ [v]) g := by have := hw.s (v := v) (by omega); rw [if_neg nvg] at this; exact this
        have wn : GbW C.length ((List.range (v + 1)).foldl (fun B v => dfs σ C most f (p ++ [v]) (if v = g then g + 1 else g) B) B) := by
          rw [fs]
          exact dfs_w h8 hm f (p ++ [v]) g _ (by rw [lenS]; omega) al hwv
        have g2 := m_enum hq hrw h8 hsr hC hm (X := X) f (p ++ [v]) g _ ξ (m' + (r * lvs f g + lvs f (g + 1))) (by rw [lenS]; omega) (by rw [lenS]; omega) (by rw [lenS]; omega) al (by rw [mxG_s hx (by omega), if_neg nvg]) hwv (hb.fr fr) hzv hgv (fun ξ2 f2 z2 gm2 => ?_)
        · rw [show m' + ((r + 1) * lvs f g + lvs f (g + 1)) = m' + (r * lvs f g + lvs f (g + 1)) + lvs f g by rw [Nat.succ_mul]; omega]
          exact g2
        · rw [← fs] at gm2 ⊢
          rw [lenS, show ((p.length + 1 : Nat) : Int) - 1 = (p.length : Int) by omega]
          have hv' : ∀ i : Nat, i < p.length → rI ξ2 164 (i : Int) = ((p.getD i 0 : Nat) : Int) := fun i hi => by
            have := z2.1 i (by rw [lenS]; omega)
            rw [getD_appN, if_pos hi] at this
            exact this
          have hvl : rI ξ2 164 (p.length : Int) = (v : Int) := by
            have := z2.1 p.length (by rw [lenS]; omega)
            rw [getD_appN, if_neg (by omega), if_pos rfl] at this
            exact this
          unfold l_M_countsUp_7
          (try simp (disch := omega) only [w_id])
          rw [if_pos (by omega)]
          refine ⟨p.length + 1, m_cu15 h8 (by omega) hw (by omega) hv' ?_⟩
          rw [hx, hvl]
          (try simp (disch := omega) only [w_id])
          refine ⟨by omega, by omega, ?_⟩
          rw [if_pos (by omega)]
          unfold cuX
          (try simp (disch := omega) only [w_id])
          refine ⟨by omega, by omega, by omega, by omega, fun μ4 e4 => ?_⟩
          rw [hvl] at e4
          have fm : Fr grmL ξ2 μ4 := by rw [e4]; exact (FrP.refl _ _).wI (by decide)
          have k := ih (v + 1) μ4 (by omega) ((fr.trans f2).trans fm) ⟨fun i hi => by
            rw [lenS] at hi
            rw [getD_appN, e4, rI_sI]
            by_cases c : i < p.length
            · rw [if_neg (fun z => by omega), if_pos c]; exact hv' i c
            · rw [if_pos ⟨rfl, by omega⟩, if_neg c, if_pos (by omega), w_id (by omega) (by omega)]; omega, fun i h1 h2 => by
            rw [lenS] at h1
            rw [e4, rI_sI, if_neg (fun z => by omega)]
            exact z2.2 i (by rw [lenS]; omega) h2⟩ (fun ne i hi => by
            rw [e4, rI_ne _ _ _ _ rfl]
            exact gm2 ne i hi) wn
          exact k
    have g0 := loop g 0 ν (by omega) (FrP.refl _ _) (hz.snoc (by omega)) hgm hB
    exact g0
theorem m_groups {σ : Sg} (hq : QS σ) (hrw : RwW σ) {a : Int} (ha : 0 ≤ a ∧ a < 16777216) (h8 : (chN a.toNat 24).length ≤ 8) (h1 : 1 ≤ (chN a.toNat 24).length) (hop : ∀ x ∈ chN a.toNat 24, 0 ≤ x ∧ x < σ 15472 0) {most : Nat} (hm : most ≤ 8) {μ : Mem} (eM : MS μ = σ) {K : Int → Mem → Prop}
    (h : ∀ ξ : Mem, Fr (grmL ++ [15545, 163]) μ ξ → SeM ξ (chN a.toNat 24) → GmM (chN a.toNat 24).length ξ (gFin σ (chN a.toNat 24) most) → K (gFin σ (chN a.toNat 24) most).1 ξ) : f_M_groups a (most : Int) μ K := by
  have loop : ∀ (X : Mem → Prop), (∀ ξ : Mem, Fr [15545, 163, 164] μ ξ → SeM ξ (chN a.toNat 24) → (∀ i : Nat, i < (chN a.toNat 24).length → rI ξ 164 (i : Int) = 0) → X ξ) → ∀ (f m : Nat) (ν : Mem), m + f = 24 → Fr [15545, 163, 164] μ ν → SeM ν (chN a.toNat m) → (∀ i : Nat, i < (chN a.toNat m).length → rI ν 164 (i : Int) = 0) → l_M_groups_7 a (most : Int) X (f + 1) (m : Int) ν := by
    intro X hX f
    induction f with
    | zero =>
      intro m ν e fr hs hz
      unfold l_M_groups_7
      (try simp (disch := omega) only [w_id])
      rw [if_neg (by omega)]
      rw [show m = 24 by omega] at hs hz
      exact hX ν fr hs hz
    | succ f ih =>
      intro m ν e fr hs hz
      have st : chN a.toNat (m + 1) = if a.toNat.testBit m = true then chN a.toNat m ++ [(m : Int)] else chN a.toNat m := rfl
      have lm := chN_mono a.toNat (m + 1) (23 - m)
      rw [show m + 1 + (23 - m) = 24 by omega] at lm
      unfold l_M_groups_7
      (try simp (disch := omega) only [w_id])
      rw [if_pos (by omega), sbit_e (v := a) (i := (m : Int)) (by omega) (by omega), show ((m : Int).toNat) = m by omega]
      by_cases b : a.toNat.testBit m = true
      · rw [if_pos b] at st ⊢
        rw [st, List.length_append] at lm
        simp only [List.length_cons, List.length_nil] at lm
        (try simp (disch := omega) only [w_id])
        rw [if_neg (by decide), hs.1]
        (try simp (disch := omega) only [w_id])
        refine ⟨by omega, by omega, fun μ3 e3 => ?_⟩
        have k3 : rI μ3 15545 0 = ((chN a.toNat m).length : Int) := by rw [e3, rI_ne _ _ _ _ rfl]; exact hs.1
        rw [k3]
        (try simp (disch := omega) only [w_id])
        refine ⟨by omega, by omega, fun μ4 e4 μ5 e5 => ?_⟩
        have k4 : rI μ4 15545 0 = ((chN a.toNat m).length : Int) := by rw [e4, rI_ne _ _ _ _ rfl]; exact k3
        rw [k4] at e5
        have g := ih (m + 1) μ5 (by omega) (by rw [e5, e4, e3]; exact ((fr.wI (by decide)).wI (by decide)).wI (by decide)) (by
          rw [st]
          refine ⟨by rw [e5, rI_eq _ _ _ ⟨by omega, by omega⟩, List.length_append]; simp, fun i hi => ?_⟩
          rw [List.length_append] at hi
          simp only [List.length_cons, List.length_nil] at hi
          rw [e5, rI_ne _ _ _ _ rfl, e4, rI_ne _ _ _ _ rfl, e3, rI_sI, gI_app]
          by_cases c : i < (chN a.toNat m).length
          · rw [if_neg (fun z => by omega), if_pos c]; exact hs.2 i c
          · rw [if_pos ⟨rfl, by omega⟩, if_neg c, if_pos (by omega), w_id (by omega) (by omega)]) (fun i hi => by
          rw [st, List.length_append] at hi
          simp only [List.length_cons, List.length_nil] at hi
          rw [e5, rI_ne _ _ _ _ rfl, e4, rI_sI]
          by_cases c : i < (chN a.toNat m).length
          · rw [if_neg (fun z => by omega), e3, rI_ne _ _ _ _ rfl]; exact hz i c
          · rw [if_pos ⟨rfl, by omega⟩]; rfl)
        exact g
      · rw [if_neg b] at st ⊢
        (try simp (disch := omega) only [w_id])
        rw [if_pos trivial]
        have g := ih (m + 1) ν (by omega) fr (by rw [st]; exact hs) (by rw [st]; exact hz)
        exact g
  unfold f_M_groups
  intro μ1 e1
  refine ⟨25, loop _ (fun ξ fr hs hz => ?_) 24 0 μ1 rfl (by rw [e1]; exact (FrP.refl _ _).wI (by decide)) ⟨by rw [e1, rI_eq _ _ _ ⟨by decide, by decide⟩]; rfl, fun i hi => absurd hi (by show ¬ i < 0; omega)⟩ (fun i hi => absurd hi (by show ¬ i < 0; omega))⟩
  have hsr := chN_srt a.toNat 24
  have hC : ∀ i : Nat, i < (chN a.toNat 24).length → 0 ≤ gI (chN a.toNat 24) i ∧ gI (chN a.toNat 24) i < σ 15472 0 := fun i hi => hop _ (gI_mem hi)
  generalize chN a.toNat 24 = C at *
  obtain ⟨k, hk⟩ : ∃ k : Nat, C.length = k + 1 := ⟨C.length - 1, by omega⟩
  have hb : BaM σ C ξ := ⟨(fr.qt rfl).2.2.1.trans eM, hs⟩
  have ef : gFin σ C most = dfs σ C most k [0] 1 (-1, 0, []) := by
    unfold gFin
    rw [hk]
    rfl
  refine ⟨1 + lvs k 1, ?_⟩
  have g := m_enum hq hrw h8 hsr hC hm (X := fun (v3_3 : Int) (μ_20 : Mem) => K v3_3 μ_20) k [0] 1 (-1, 0, []) ξ 1 (by show 1 + k = _; omega) (Nat.le_refl _) (Nat.le_refl _) (fun i hi => by
    have hi' : i < 1 := hi
    rw [show i = 0 by omega]
    decide) rfl (Or.inl rfl) hb ⟨fun i hi => by
      have hi' : i < 1 := hi
      rw [show i = 0 by omega]
      exact hz 0 (by omega), fun i _ h2 => hz i h2⟩ (fun z => absurd rfl z) (fun ξ2 f2 z2 gm2 => ?_)
  · exact g
  · rw [← ef] at gm2 ⊢
    show l_M_countsUp_7 _ _ 2 ((1 : Int) - 1) ξ2
    unfold l_M_countsUp_7
    rw [if_neg (by decide)]
    unfold l_M_groups_68
    rw [if_neg (by decide)]
    refine h ξ2 ((Fr.mono fr rfl).trans (Fr.mono f2 rfl)) (hs.fr f2 rfl) gm2
theorem st_group {a b : Int} (ha : Rg a) (hb : Rg b) : Both Int (f_H_group a b) (f_M_group a b) := by
  refine both_q (fun σ => pick (vlR σ a 1 8 ∧ (1 ≤ b ∧ b ≤ 8)) (gFin σ (chN a.toNat 24) b.toNat).1 (-1)) (fun μ K hI h => ?_) (fun μ K hI h => ?_)
  · unfold f_H_group
    refine c_groupUp hI ha hb (fun v hb8 ξ fx _ _ _ => ?_) (fun no ξ fx => ?_)
    · have := h ξ fx
      rw [pick_t ⟨v, hb8⟩] at this
      exact this
    · have := h ξ fx
      rw [pick_f no] at this
      exact this
  · have no : ¬ (vlR (MS μ) a 1 8 ∧ (1 ≤ b ∧ b ≤ 8)) → ∀ ν : Mem, Qt μ ν → K (-1) ν := fun z ν q => by
      have := h ν q
      rw [pick_f z] at this
      exact this
    have hct := hI.cnt
    have q0 := thr_qt μ
    have eM := thr_ms μ
    unfold f_M_group
    intro μ1 e1
    subst e1
    refine m_areOpen ha (lo := 1) (hi := 8) ⟨by decide, by decide⟩ (by rw [eM]; omega) (fun vl => ?_) (fun nv => ?_)
    · rw [eM] at vl
      rw [if_pos rfl, within_e hb.1 hb.2 (by decide) (by decide) (by decide) (by decide)]
      refine ite_i (fun q => ?_) (fun q => no (fun z => q (decide_eq_true z.2)) _ q0)
      have q := of_decide_eq_true q
      have go := m_groups hI.qm hI.rw vl.1.1 vl.1.2.1 vl.2 (fun x hx => by
        obtain ⟨k, k1, k2, k3⟩ := (chN_mem a.toNat 24 x).mp hx
        rw [k1]
        exact ⟨by omega, (vl.1.2.2 k k2 k3).1⟩) (most := b.toNat) (by omega) eM (K := fun r29 μ_3 => K r29 μ_3) (fun ξ fx _ _ => by
        have := h ξ (q0.trans (fx.qt rfl))
        rw [pick_t ⟨vl, q⟩] at this
        exact this)
      rw [show ((b.toNat : Nat) : Int) = b by omega] at go
      exact go
    · rw [eM] at nv
      rw [if_neg (by decide)]
      exact no (fun z => nv z.1) _ q0
theorem chN_idx {a : Int} (C : List Int) (hC : C = chN a.toNat 24) {m : Int} : (m ∈ C) ↔ ∃ i : Nat, i < C.length ∧ gI C i = m := by
  constructor
  · intro h
    obtain ⟨i, hi, rfl⟩ := List.mem_iff_getElem.mp h
    refine ⟨i, hi, ?_⟩
    unfold gI
    rw [List.getD_eq_getElem?_getD, List.getElem?_eq_getElem hi]
    rfl
  · rintro ⟨i, hi, rfl⟩
    exact gI_mem hi
theorem fIdx_e {C : List Int} (hs : Srt C) {i : Nat} {c : Int} (hi : i < C.length) (ei : gI C i = c) : C.findIdx (fun x => x == c) = i := by
  have el : ∀ j : Nat, (h : j < C.length) → C[j] = gI C j := fun j h => by
    unfold gI
    rw [List.getD_eq_getElem?_getD, List.getElem?_eq_getElem h]
    rfl
  rw [List.findIdx_eq hi]
  refine ⟨by rw [el i hi, ei]; simp, fun j hj => ?_⟩
  have := srt_lt hs hj hi
  rw [el j (by omega)]
  simp only [beq_eq_false_iff_ne, ne_eq]
  omega
theorem st_grouped {a b c : Int} (ha : Rg a) (hb : Rg b) (hc : Rg c) : Both Int (f_H_grouped a b c) (f_M_grouped a b c) := by
  refine both_q (fun σ => pick ((vlR σ a 1 8 ∧ (1 ≤ b ∧ b ≤ 8)) ∧ ¬ (gFin σ (chN a.toNat 24) b.toNat).1 = -1 ∧ c ∈ chN a.toNat 24) (((gFin σ (chN a.toNat 24) b.toNat).2.2.getD ((chN a.toNat 24).findIdx (fun x => x == c)) 0 : Nat) : Int) (-1)) (fun μ K hI h => ?_) (fun μ K hI h => ?_)
  · unfold f_H_grouped
    refine c_groupUp hI ha hb (fun v hb8 ξ fx em hv hB => ?_) (fun no ξ fx => ?_)
    · have w8 := v.1.2.1
      have gw := gFin_w (σ := MS μ) (C := chN a.toNat 24) (most := b.toNat) w8 (by omega)
      have hh := h ξ fx
      have hsr := chN_srt a.toNat 24
      have hC : ∀ i : Nat, i < (chN a.toNat 24).length → 0 ≤ gI (chN a.toNat 24) i ∧ gI (chN a.toNat 24) i < 24 := fun i hi => chN_rng (gI_mem hi)
      have bw : -1 ≤ (gFin (MS μ) (chN a.toNat 24) b.toNat).1 ∧ (gFin (MS μ) (chN a.toNat 24) b.toNat).1 ≤ 4000 := by rcases gw with w1 | w1 <;> omega
      (try simp (disch := omega) only [w_id])
      refine ite_i (fun q => ?_) (fun q => ?_)
      · rw [pick_f (fun z => z.2.1 q)] at hh
        exact hh
      · refine c_groupOf w8 q em hv hC hB hc (fun i hi ei => ?_) (fun ne => ?_)
        · rw [pick_t ⟨⟨v, hb8⟩, q, (chN_idx (a := a) _ rfl).mpr ⟨i, hi, ei⟩⟩] at hh
          have e : (chN a.toNat 24).findIdx (fun x => x == c) = i := fIdx_e hsr hi ei
          rw [e] at hh
          exact hh
        · rw [pick_f (fun z => by
            obtain ⟨i, hi, ei⟩ := (chN_idx (a := a) _ rfl).mp z.2.2
            exact ne i hi ei)] at hh
          exact hh
    · have := h ξ fx
      rw [pick_f (fun z => no z.1)] at this
      rw [if_pos (by decide)]
      exact this
  · have no : ¬ ((vlR (MS μ) a 1 8 ∧ (1 ≤ b ∧ b ≤ 8)) ∧ ¬ (gFin (MS μ) (chN a.toNat 24) b.toNat).1 = -1 ∧ c ∈ chN a.toNat 24) → ∀ ν : Mem, Qt μ ν → K (-1) ν := fun z ν q => by
      have := h ν q
      rw [pick_f z] at this
      exact this
    obtain ⟨c0, c1⟩ := id hc
    have hct := hI.cnt
    have q0 := thr_qt μ
    have eM := thr_ms μ
    unfold f_M_grouped
    intro μ1 e1
    subst e1
    refine m_areOpen ha (lo := 1) (hi := 8) ⟨by decide, by decide⟩ (by rw [eM]; omega) (fun vl => ?_) (fun nv => ?_)
    · rw [eM] at vl
      rw [if_pos rfl, within_e hb.1 hb.2 (by decide) (by decide) (by decide) (by decide)]
      refine ite_i (fun q => ?_) (fun q => no (fun z => q (decide_eq_true z.1.2)) _ q0)
      have q := of_decide_eq_true q
      have w8 := vl.1.2.1
      have gw := gFin_w (σ := MS μ) (C := chN a.toNat 24) (most := b.toNat) w8 (by omega)
      have hsr := chN_srt a.toNat 24
      have bw : -1 ≤ (gFin (MS μ) (chN a.toNat 24) b.toNat).1 ∧ (gFin (MS μ) (chN a.toNat 24) b.toNat).1 ≤ 4000 := by rcases gw with w1 | w1 <;> omega
      rw [isMo_e c0 c1, mr (q := 15472) rfl, eM]
      have cm : c ∈ chN a.toNat 24 ↔ (0 ≤ c ∧ c < MS μ 15472 0) ∧ a.toNat.testBit c.toNat = true := by
        rw [chN_mem]
        constructor
        · rintro ⟨k, k1, k2, k3⟩
          have := (vl.1.2.2 k k2 k3).1
          exact ⟨⟨by omega, by omega⟩, by rw [show c.toNat = k by omega]; exact k3⟩
        · rintro ⟨⟨z1, z2⟩, z3⟩
          exact ⟨c.toNat, by omega, by omega, z3⟩
      refine ite_i (fun q2 => ?_) (fun q2 => no (fun z => q2 (decide_eq_true (cm.mp z.2.2).1)) _ q0)
      have q2 := of_decide_eq_true q2
      have a24 := vl.1.1
      rw [sbit_e (v := a) (i := c) (by omega) (by omega)]
      by_cases bt : a.toNat.testBit c.toNat = true
      · rw [if_pos bt, if_neg (by decide)]
        have inC := cm.mpr ⟨q2, bt⟩
        have go := m_groups hI.qm hI.rw vl.1.1 vl.1.2.1 vl.2 (fun x hx => by
          obtain ⟨k, k1, k2, k3⟩ := (chN_mem a.toNat 24 x).mp hx
          rw [k1]
          exact ⟨by omega, (vl.1.2.2 k k2 k3).1⟩) (most := b.toNat) (by omega) eM (K := fun r45 μ_3 => if w r45 = -1 then (K (-1) μ_3) else (∃ m57 : Nat, l_M_grouped_57 c μ_3 (fun (v4_1 : Int) => 0 ≤ w v4_1 ∧ w v4_1 < ((8 : Nat) : Int) ∧ K (rI μ_3 165 (w v4_1)) μ_3) m57 0)) (fun ξ fx hS hG => ?_)
        · rw [show ((b.toNat : Nat) : Int) = b by omega] at go
          exact go
        · have qx : Qt μ ξ := q0.trans (fx.qt rfl)
          have hh := h ξ qx
          (try simp (disch := omega) only [w_id])
          refine ite_i (fun q3 => ?_) (fun q3 => ?_)
          · rw [pick_f (fun z => z.2.1 q3)] at hh
            exact hh
          · rw [pick_t ⟨⟨vl, q⟩, q3, inC⟩] at hh
            obtain ⟨i, hi, ei⟩ := (chN_idx (a := a) _ rfl).mp inC
            rw [fIdx_e hsr hi ei, ← hG q3 i hi] at hh
            have loop : ∀ (f k : Nat), k + f = i → l_M_grouped_57 c ξ (fun (v4_1 : Int) => 0 ≤ w v4_1 ∧ w v4_1 < ((8 : Nat) : Int) ∧ K (rI ξ 165 (w v4_1)) ξ) (f + 1) (k : Int) := by
              intro f
              induction f with
              | zero =>
                intro k e
                have ek : k = i := by omega
                subst ek
                unfold l_M_grouped_57
                (try simp (disch := omega) only [w_id])
                rw [hS.2 k hi, ei]
                (try simp (disch := omega) only [w_id])
                rw [if_pos trivial]
                exact ⟨by omega, by omega, by omega, by omega, hh⟩
              | succ f ih =>
                intro k e
                have lt := srt_lt hsr (i := k) (j := i) (by omega) hi
                have cr := chN_rng (gI_mem (l := chN a.toNat 24) (i := k) (by omega))
                have g := ih (k + 1) (by omega)
                unfold l_M_grouped_57
                (try simp (disch := omega) only [w_id])
                rw [hS.2 k (by omega)]
                (try simp (disch := omega) only [w_id])
                rw [if_neg (by omega)]
                exact ⟨by omega, by omega, g⟩
            exact ⟨i + 1, loop i 0 (by omega)⟩
      · rw [if_neg bt, if_pos (by decide)]
        exact no (fun z => bt (cm.mp z.2.2).2) _ q0
    · rw [eM] at nv
      rw [if_neg (by decide)]
      exact no (fun z => nv z.1.1) _ q0
