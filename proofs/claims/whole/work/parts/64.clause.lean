/-! ORDERS' CLAUSES: the pure reader, and the class's -/
abbrev Cl : Type := Int × Int × Nat × List Int
abbrev Cr : Type := Res ((Int × Int × List Int) × Tk)
def clWord (b : Bts) (T : Tk) : Int := if isW b T 0 = true then 0 else if isW b T 1 = true then 3 else if isW b T 2 = true then 4 else if isW b T 3 = true then 5 else if isW b T 4 = true then 6 else if isW b T 5 = true then 7 else -1
def clKind (b : Bts) (T : Tk) : Int := if isW b T 6 = true then 0 else if isW b T 7 = true then 1 else if isW b T 8 = true then 2 else -1
def clEnd (b : Bts) (n : Nat) (x : Int × Int × List Int) (T : Tk) : Cr := if isS T 59 = true then .inr (x, nx b n T) else .inl (1, T.2.1)
def clCod (b : Bts) (n : Nat) (wt : Int) (r : PR) : Cr := match r with
  | .inl e => .inl e
  | .inr x => clEnd b n (wt, 0, x.1) x.2
def pCond (b : Bts) (n : Nat) (p : Int) (T : Tk) : PR := if isW b T 9 = true then PO b n p 60 0 0 (nx b n T) else .inl (1, T.2.1)
def clNum (b : Bts) (n : Nat) (wt most : Int) (T : Tk) : Cr := if ¬ T.1 = 2 then .inl (1, T.2.1) else if ¬ (1 ≤ T.2.2.2 ∧ T.2.2.2 ≤ most) then .inl (2, T.2.1) else clEnd b n (wt, T.2.2.2, []) (nx b n T)
def clB (b : Bts) (n : Nat) (wt : Int) (T : Tk) : Cr :=
  if wt = 0 then (if clKind b T = -1 then .inl (1, T.2.1) else clCod b n (clKind b T) (pCond b n (clKind b T) (nx b n T)))
  else if wt = 3 then clCod b n 3 (PO b n 3 60 5 0 T) else if wt = 4 then clNum b n 4 999 T else if wt = 5 then clNum b n 5 12 T
  else if wt = 6 then clEnd b n (6, 0, []) T else clCod b n 7 (pCond b n 4 T)
def rdCl (b : Bts) (n k : Nat) (T : Tk) : Cr := if clWord b T = -1 then .inl (1, T.2.1) else if ¬ k < 15 then .inl (4, T.2.1) else clB b n (clWord b T) (nx b n T)
def codeL (L : List Cl) : List Int := L.flatMap fun c => c.2.2.2
def pkp (wt : Int) : Int := if wt = 7 then 4 else wt
def stepL (L : List Cl) : List Int := L.flatMap fun c => c.2.2.2.map (enc (pkp c.1))
theorem codeL_s (L : List Cl) (c : Cl) : codeL (L ++ [c]) = codeL L ++ c.2.2.2 := by unfold codeL; simp
theorem stepL_s (L : List Cl) (c : Cl) : stepL (L ++ [c]) = stepL L ++ c.2.2.2.map (enc (pkp c.1)) := by unfold stepL; simp
theorem stepL_len : ∀ L : List Cl, (stepL L).length = (codeL L).length
  | [] => rfl
  | c :: L => by
    have ih := stepL_len L
    unfold stepL codeL at *
    simp only [List.flatMap_cons, List.length_append, List.length_map]
    omega
def dC : Cl := (-5, 0, 0, [])
/-- of the last clause of a kind among the first k -/
def lstK (g : Cl → Int) (d : Int) (L : List Cl) (kd : Int) : Nat → Int
  | 0 => d
  | k + 1 => if (L.getD k dC).1 = kd then g (L.getD k dC) else lstK g d L kd k
def lcK (L : List Cl) (kd : Int) : Nat → Int
  | 0 => -1
  | k + 1 => if (L.getD k dC).1 = kd then (k : Int) else lcK L kd k
def lst (g : Cl → Int) (d : Int) (L : List Cl) (kd : Int) : Int := lstK g d L kd L.length
theorem gC {L : List Cl} {c : Cl} {i : Nat} : (L ++ [c]).getD i dC = if i < L.length then L.getD i dC else if i = L.length then c else dC := by
  by_cases q : i < L.length
  · rw [if_pos q, List.getD_eq_getElem?_getD, List.getD_eq_getElem?_getD, List.getElem?_append_left q]
  · rw [if_neg q, List.getD_eq_getElem?_getD, List.getElem?_append_right (by omega)]
    by_cases q2 : i = L.length
    · rw [if_pos q2, q2, Nat.sub_self]; rfl
    · rw [if_neg q2, List.getElem?_eq_none (by simp only [List.length_cons, List.length_nil]; omega)]; rfl
theorem lstK_app (g : Cl → Int) (d : Int) (L : List Cl) (c : Cl) (kd : Int) : ∀ k : Nat, k ≤ L.length → lstK g d (L ++ [c]) kd k = lstK g d L kd k
  | 0, _ => rfl
  | k + 1, h => by
    have e : (L ++ [c]).getD k dC = L.getD k dC := by rw [gC, if_pos (show k < L.length by omega)]
    show (if ((L ++ [c]).getD k dC).1 = kd then g ((L ++ [c]).getD k dC) else lstK g d (L ++ [c]) kd k) = (if (L.getD k dC).1 = kd then g (L.getD k dC) else lstK g d L kd k)
    rw [e, lstK_app g d L c kd k (by omega)]
theorem lst_s (g : Cl → Int) (d : Int) (L : List Cl) (c : Cl) (kd : Int) : lst g d (L ++ [c]) kd = if c.1 = kd then g c else lst g d L kd := by
  have e : (L ++ [c]).getD L.length dC = c := by rw [gC, if_neg (Nat.lt_irrefl _), if_pos rfl]
  have hl : (L ++ [c]).length = L.length + 1 := by simp
  unfold lst
  rw [hl]
  show (if ((L ++ [c]).getD L.length dC).1 = kd then g ((L ++ [c]).getD L.length dC) else lstK g d (L ++ [c]) kd L.length) = _
  rw [e, lstK_app g d L c kd _ (Nat.le_refl _)]
theorem lstK_or (L : List Cl) (kd : Int) : ∀ k : Nat, (lcK L kd k = -1 ∧ ∀ (g : Cl → Int) (d : Int), lstK g d L kd k = d) ∨ ∃ i : Nat, i < k ∧ lcK L kd k = (i : Int) ∧ (L.getD i dC).1 = kd ∧ ∀ (g : Cl → Int) (d : Int), lstK g d L kd k = g (L.getD i dC)
  | 0 => Or.inl ⟨rfl, fun _ _ => rfl⟩
  | k + 1 => by
    by_cases c : (L.getD k dC).1 = kd
    · refine Or.inr ⟨k, by omega, ?_, c, fun g d => ?_⟩
      · unfold lcK; rw [if_pos c]
      · unfold lstK; rw [if_pos c]
    · rcases lstK_or L kd k with ⟨h1, h2⟩ | ⟨i, h1, h2, h3, h4⟩
      · refine Or.inl ⟨?_, fun g d => ?_⟩
        · unfold lcK; rw [if_neg c]; exact h1
        · unfold lstK; rw [if_neg c]; exact h2 g d
      · refine Or.inr ⟨i, by omega, ?_, h3, fun g d => ?_⟩
        · unfold lcK; rw [if_neg c]; exact h2
        · unfold lstK; rw [if_neg c]; exact h4 g d
def nuC (c : Cl) : Int := c.2.1
def beC (c : Cl) : Int := (c.2.2.1 : Int)
def enC (c : Cl) : Int := (c.2.2.1 : Int) + (c.2.2.2.length : Int)
/-- the class's rules r as the clauses L have it -/
def RsC (r : Nat) (ν : Mem) (L : List Cl) : Prop := StpC r ν (stepL L) ∧ rI ν (gid r 4) 0 = lst nuC 10 L 4 ∧ rI ν (gid r 5) 0 = lst nuC 12 L 5 ∧ rI ν (gid r 6) 0 = lst (fun _ => 1) 0 L 6 ∧ ∀ p : Int, 0 ≤ p → p < 5 → rI ν (r + 2) p = lst beC 0 L (kpa p) ∧ rI ν (r + 3) p = lst enC 0 L (kpa p)
def raL (r : Nat) : List Nat := [r + 1, r + 2, r + 3, gid r 3, gid r 4, gid r 5, gid r 6]
def orL (r : Nat) : List Nat := (txL ++ ftL ++ [9066]) ++ raL r
theorem raL_f {r q : Nat} (hr : Rr r) (h : gRuc q = false) : lel (raL r) q = false := lel_f (fun m => by
  have : gRuc q = true := gRuc_a (by
    unfold raL at m
    simp only [List.mem_cons, List.not_mem_nil, or_false] at m
    unfold Rr at hr
    unfold gid at m
    omega)
  rw [this] at h
  cases h)
theorem orL_f {r q : Nat} (hr : Rr r) (h1 : lel (txL ++ ftL ++ [9066]) q = false) (h2 : gRuc q = false) : lel (orL r) q = false := lel_f (fun m => by
  unfold orL at m
  rcases List.mem_append.mp m with m | m
  · exact lel_n h1 m
  · exact lel_n (raL_f hr h2) m)
theorem Fr.orT {r : Nat} {L : List Nat} {ν ξ : Mem} (f : Fr L ν ξ) (h : lsub L (txL ++ ftL ++ [9066]) = true) : Fr (orL r) ν ξ := FrP.wide (Fr.mono f h) (lel_sub (fun q hq => List.mem_append_left _ hq))
theorem Fr.orO {r : Nat} {ν ξ : Mem} (f : Fr (opL r) ν ξ) : Fr (orL r) ν ξ := FrP.wide f (lel_sub (fun q hq => by
  unfold opL at hq
  unfold orL
  rcases List.mem_append.mp hq with hq | hq
  · exact List.mem_append_left _ (List.mem_append_left _ hq)
  · refine List.mem_append_right _ ?_
    unfold ruL at hq
    unfold raL
    simp only [List.mem_cons, List.not_mem_nil, or_false] at hq ⊢
    omega))
def orsL (r : Nat) : List Nat := (txL ++ [9066]) ++ raL r
theorem Fr.orTs {r : Nat} {L : List Nat} {ν ξ : Mem} (f : Fr L ν ξ) (h : lsub L (txL ++ [9066]) = true) : Fr (orsL r) ν ξ := FrP.wide (Fr.mono f h) (lel_sub (fun q hq => List.mem_append_left _ hq))
theorem Fr.orR {r : Nat} {L : List Nat} {ν ξ : Mem} (f : Fr L ν ξ) (h : ∀ q ∈ L, q ∈ raL r) : Fr (orsL r) ν ξ := FrP.wide f (lel_sub (fun q hq => List.mem_append_right _ (h q hq)))
theorem Fr.orOs {r : Nat} {ν ξ : Mem} (f : Fr (osL r) ν ξ) : Fr (orsL r) ν ξ := FrP.wide f (lel_sub (fun q hq => by
  unfold osL at hq
  unfold orsL
  rcases List.mem_append.mp hq with hq | hq
  · exact List.mem_append_left _ (List.mem_append_left _ hq)
  · refine List.mem_append_right _ ?_
    unfold ruL at hq
    unfold raL
    simp only [List.mem_cons, List.not_mem_nil, or_false] at hq ⊢
    omega))
theorem Fr.ors {r : Nat} {ν ξ : Mem} (f : Fr (orsL r) ν ξ) : Fr (orL r) ν ξ := FrP.wide f (lel_sub (fun q hq => by
  unfold orsL at hq
  unfold orL
  rcases List.mem_append.mp hq with hq | hq
  · refine List.mem_append_left _ ?_
    rcases List.mem_append.mp hq with hq | hq
    · exact List.mem_append_left _ (List.mem_append_left _ hq)
    · exact List.mem_append_right _ hq
  · exact List.mem_append_right _ hq))
theorem orsL_f {r q : Nat} (hr : Rr r) (h1 : lel (txL ++ [9066]) q = false) (h2 : gRuc q = false) : lel (orsL r) q = false := lel_f (fun m => by
  unfold orsL at m
  rcases List.mem_append.mp m with m | m
  · exact lel_n h1 m
  · exact lel_n (raL_f hr h2) m)
theorem opL_o {r q : Nat} (hr : Rr r) (hq : gRuc q = true) (h1 : ¬ q = r + 1) (h2 : ¬ q = gid r 3) : lel (opL r) q = false := lel_f (fun m => by
  unfold opL at m
  rcases List.mem_append.mp m with m | m
  · exact lel_n (all_nl (g := gRuc) (L := txL ++ ftL) rfl hq) m
  · unfold ruL at m
    simp only [List.mem_cons, List.not_mem_nil, or_false] at m
    omega)
theorem ru_g {r q : Nat} (hr : Rr r) (h : q = r + 1 ∨ q = r + 2 ∨ q = r + 3 ∨ q = gid r 3 ∨ q = gid r 4 ∨ q = gid r 5 ∨ q = gid r 6) : gRuc q = true := gRuc_a (by unfold Rr at hr; unfold gid at h; omega)
/-- what a clause with code leaves of parts and numbers -/
def PaC (r : Nat) (p : Int) (a e : Int) (ν ξ : Mem) : Prop := (∀ q : Int, rI ξ (r + 2) q = if q = p then a else rI ν (r + 2) q) ∧ (∀ q : Int, rI ξ (r + 3) q = if q = p then e else rI ν (r + 3) q) ∧ rI ξ (gid r 4) 0 = rI ν (gid r 4) 0 ∧ rI ξ (gid r 5) 0 = rI ν (gid r 5) 0 ∧ rI ξ (gid r 6) 0 = rI ν (gid r 6) 0
def FaR (r : Nat) (ν : Mem) (K : Bool → Mem → Prop) (f : Int) (q : Nat) : Prop := ∀ ξ : Mem, Fr (orL r) ν ξ → rI ξ 2286 0 = f → rI ξ 2287 0 = (q : Int) → K false ξ
/-- from the beginning of a part to its end -/
theorem c_part {b : Bts} {n r : Nat} {p : Int} (hb : BtO b n) (hr : Rr r) (hru : isRu r = true) (hp : 0 ≤ p ∧ p < 5) {T : Tk} {E : List Int} {ν : Mem} {o : Int} (hB : BtC b n ν) (hT : TkO n T) (ht : TkC ν T) (hR : rR ν 9065 0 = some r) (hE : StpC r ν E) (hl : E.length ≤ T.2.1) {P : PR} {K : Bool → Mem → Prop} {c : Bool} {m : Nat} (hG : Gd P (PostR n p c m T))
    {R : Mem → (Bool → Mem → Prop) → Prop} (hRun : ∀ (ξ : Mem) (K' : Bool → Mem → Prop), OC b n r p ξ T E → onR P (FaC r ξ K') (SuC r p ξ E K') → R ξ K')
    (h : onR P (FaR r ν K) (fun x => ∀ ξ : Mem, Fr (orsL r) ν ξ → TkC ξ x.2 → StpC r ξ (E ++ x.1.map (enc p)) → PaC r p (E.length : Int) ((E.length : Int) + (x.1.length : Int)) ν ξ → K true ξ)) :
    ∀ μ_3 : Mem, μ_3 = sI ν 9066 0 p → ∃ r32 : Nat, rR μ_3 9065 0 = some r32 ∧ isRu r32 = true ∧ f_Rules_beginPart r32 (rI μ_3 9066 0) μ_3 (fun μ_4 => R μ_4 (fun v μ_5 => ∃ r69 : Nat, rR μ_5 9065 0 = some r69 ∧ isRu r69 = true ∧ f_Rules_endPart r69 (rI μ_5 9066 0) μ_5 (fun μ_7 => K v μ_7))) := by
  have hn := hb.1
  have tn := hT.2.1
  have g1 : gRuc (r + 1) = true := ru_g hr (by simp)
  have g2 : gRuc (r + 2) = true := ru_g hr (by simp)
  have g3 : gRuc (r + 3) = true := ru_g hr (by simp)
  have gs : gRuc (gid r 3) = true := ru_g hr (by simp)
  intro μ3 e3
  have f3 : Fr [9066] ν μ3 := by rw [e3]; exact fr1 _ _ _ _
  have p3 : rI μ3 9066 0 = p := by rw [e3, rI_eq _ _ _ ⟨by omega, by omega⟩]
  have s3 := hE.tx hr f3 rfl
  clear e3
  refine ⟨r, rR_fr f3 hR, hru, ?_⟩
  unfold f_Rules_beginPart
  rw [p3, s3.1]
  intro μ4 e4
  rw [set_in hp.1 (by omega) (by decide)] at e4
  have f4 : Fr [r + 2] μ3 μ4 := by rw [e4]; exact fr1 _ _ _ _
  have a4 : ∀ q : Int, rI μ4 (r + 2) q = if q = p then (E.length : Int) else rI ν (r + 2) q := fun q => by
    rw [e4, rI_sI]
    by_cases z : q = p
    · rw [if_pos ⟨rfl, z⟩, if_pos z, w_id (by omega) (by omega)]
    · rw [if_neg (fun y => z y.2), if_neg z, f3.rdI (all_nl (g := gRuc) rfl g2)]
  have o4 : ∀ q : Nat, gRuc q = true → ¬ q = r + 2 → ∀ j : Int, rI μ4 q j = rI ν q j := fun q hq hne j => by
    rw [e4, rI_sI, if_neg (fun y => hne y.1), f3.rdI (all_nl (g := gRuc) rfl hq)]
  have n4 : ∀ q : Nat, gRuc q = false → lel [r + 2] q = false := fun q hq => lel_f (fun m => by
    simp only [List.mem_cons, List.not_mem_nil, or_false] at m
    rw [m, g2] at hq
    cases hq)
  clear e4
  have f04 : Fr (orsL r) ν μ4 := (f3.orTs rfl).trans (f4.orR (fun q hq => by
    simp only [List.mem_cons, List.not_mem_nil, or_false] at hq
    rw [hq]; unfold raL; simp))
  have s4 : StpC r μ4 E := by
    have ne1 : ¬ r + 1 = r + 2 := by omega
    have ne3 : ¬ gid r 3 = r + 2 := by unfold gid; omega
    exact ⟨by rw [o4 _ gs ne3]; exact hE.1, fun j hj => by rw [o4 _ g1 ne1]; exact hE.2 j hj⟩
  have O4 : OC b n r p μ4 T E := ⟨(hB.fr f3 rfl).of f4 (n4 _ rfl) (n4 _ rfl), hT, (ht.fr f3 rfl).of f4 (n4 _ rfl) (n4 _ rfl) (n4 _ rfl) (n4 _ rfl), rR_fr f4 (rR_fr f3 hR), by rw [f4.rdI (n4 _ rfl)]; exact p3, s4⟩
  have fin : ∀ (v : Bool) (ξ : Mem) (z : Int), Fr (osL r) μ4 ξ → rI ξ (gid r 3) 0 = z → 0 ≤ z ∧ z ≤ 300 → (∀ ο : Mem, Fr (orsL r) ν ο → Fr [r + 3] ξ ο → PaC r p (E.length : Int) z ν ο → K v ο) → ∃ r69 : Nat, rR ξ 9065 0 = some r69 ∧ isRu r69 = true ∧ f_Rules_endPart r69 (rI ξ 9066 0) ξ (fun μ_7 => K v μ_7) := fun v ξ z f hz hzr k => by
    have px : rI ξ 9066 0 = p := by rw [f.os.rdI (opL_f hr rfl rfl)]; exact O4.2.2.2.2.1
    refine ⟨r, rR_fr f O4.2.2.2.1, hru, ?_⟩
    unfold f_Rules_endPart
    rw [px, hz]
    intro μ7 e7
    rw [set_in hp.1 (by omega) (by decide)] at e7
    have f7 : Fr [r + 3] ξ μ7 := by rw [e7]; exact fr1 _ _ _ _
    refine k μ7 ((f04.trans f.orOs).trans (f7.orR (fun q hq => by
      simp only [List.mem_cons, List.not_mem_nil, or_false] at hq
      rw [hq]; unfold raL; simp))) f7 ⟨fun q => ?_, fun q => ?_, ?_, ?_, ?_⟩
    · have ne : ¬ r + 2 = r + 1 ∧ ¬ r + 2 = gid r 3 := by unfold gid; omega
      rw [e7, rI_sI, if_neg (fun y => by omega), f.os.rdI (opL_o hr g2 ne.1 ne.2)]
      exact a4 q
    · have ne : ¬ r + 3 = r + 1 ∧ ¬ r + 3 = gid r 3 := by unfold gid; omega
      rw [e7, rI_sI]
      by_cases y : q = p
      · rw [if_pos ⟨rfl, y⟩, if_pos y, w_id (by omega) (by omega)]
      · rw [if_neg (fun u => y u.2), if_neg y, f.os.rdI (opL_o hr g3 ne.1 ne.2), o4 _ g3 (by omega)]
    all_goals
      rw [e7, rI_sI, if_neg (fun y => by have := y.1; unfold gid at this; omega), f.os.rdI (opL_o hr (ru_g hr (by simp)) (by unfold gid; omega) (by unfold gid; omega)), o4 _ (ru_g hr (by simp)) (by unfold gid; omega)]
  refine hRun μ4 _ O4 ?_
  rcases hG with ⟨e, e1, -⟩ | ⟨x, e1, x1⟩
  · rw [e1] at h ⊢
    intro ξ f a q
    have hz := rI_rng ξ (gid r 3) 0
    have fi : ∀ ο : Mem, Fr (orL r) ν ο → Fr [r + 3] ξ ο → K false ο := fun ο fo f3 => by
      have nn : ∀ q : Nat, gRuc q = false → lel [r + 3] q = false := fun q hq => lel_f (fun m => by
        simp only [List.mem_cons, List.not_mem_nil, or_false] at m
        rw [m, g3] at hq
        cases hq)
      exact h ο fo (by rw [f3.rdI (nn _ rfl)]; exact a) (by rw [f3.rdI (nn _ rfl)]; exact q)
    have px : rI ξ 9066 0 = p := by rw [f.rdI (opL_f hr rfl rfl)]; exact O4.2.2.2.2.1
    refine ⟨r, rR_fr f O4.2.2.2.1, hru, ?_⟩
    unfold f_Rules_endPart
    rw [px]
    intro μ7 e7
    rw [set_in hp.1 (by omega) (by decide)] at e7
    have f7 : Fr [r + 3] ξ μ7 := by rw [e7]; exact fr1 _ _ _ _
    exact fi μ7 ((f04.ors.trans f.orO).trans (Fr.ors (f7.orR (fun q hq => by
      simp only [List.mem_cons, List.not_mem_nil, or_false] at hq
      rw [hq]; unfold raL; simp)))) f7
  · rw [e1] at h ⊢
    intro ξ f t s
    obtain ⟨x1, x2, x3, x4⟩ := x1
    have xn := x1.2.1
    have sl : ((E ++ x.1.map (enc p)).length : Int) = (E.length : Int) + (x.1.length : Int) := by simp
    refine fin true ξ ((E.length : Int) + (x.1.length : Int)) f (by rw [s.1]; exact sl) (by omega) (fun ο fo f3 pa => ?_)
    have nn : ∀ q : Nat, gRuc q = false → lel [r + 3] q = false := fun q hq => lel_f (fun m => by
      simp only [List.mem_cons, List.not_mem_nil, or_false] at m
      rw [m, g3] at hq
      cases hq)
    have n2 : ∀ q : Nat, ¬ q = r + 3 → lel [r + 3] q = false := fun q hq => lel_f (fun m => by
      simp only [List.mem_cons, List.not_mem_nil, or_false] at m
      exact hq m)
    refine h ο fo (t.of f3 (nn _ rfl) (nn _ rfl) (nn _ rfl) (nn _ rfl)) ⟨?_, fun j hj => ?_⟩ pa
    · rw [f3.rdI (n2 _ (by unfold gid; omega))]; exact s.1
    · rw [f3.rdI (n2 _ (by omega))]; exact s.2 j hj
