/-! ORDERS' TEXT, the class's side -/
theorem lel_f {L : List Nat} {q : Nat} (h : ¬ q ∈ L) : lel L q = false := by
  unfold lel
  cases e : L.elem q with
  | false => rfl
  | true => exact absurd (List.elem_iff.mp e) h
theorem lel_n {L : List Nat} {q : Nat} (h : lel L q = false) : ¬ q ∈ L := fun m => by
  unfold lel at h
  rw [List.elem_iff.mpr m] at h
  cases h
theorem lel_sub {A B : List Nat} (h : ∀ q ∈ A, q ∈ B) : ∀ q : Nat, lel B q = false → lel A q = false := fun q hq => lel_f (fun m => lel_n hq (h q m))
def ruL (r : Nat) : List Nat := [r + 1, gid r 3]
def opL (r : Nat) : List Nat := txL ++ ftL ++ ruL r
def Rr (r : Nat) : Prop := 19 ≤ r ∧ r ≤ 59
theorem ru_g1 {r : Nat} (hr : Rr r) : gRuc (r + 1) = true := gRuc_a (by unfold Rr at hr; omega)
theorem ru_g3 {r : Nat} (hr : Rr r) : gRuc (gid r 3) = true := gRuc_a (by unfold Rr at hr; unfold gid; omega)
theorem ruL_f {r q : Nat} (hr : Rr r) (h : gRuc q = false) : lel (ruL r) q = false := lel_f (fun m => by
  unfold ruL at m
  simp only [List.mem_cons, List.not_mem_nil, or_false] at m
  rcases m with m | m
  · rw [m, ru_g1 hr] at h; cases h
  · rw [m, ru_g3 hr] at h; cases h)
theorem opL_f {r q : Nat} (hr : Rr r) (h1 : lel (txL ++ ftL) q = false) (h2 : gRuc q = false) : lel (opL r) q = false := lel_f (fun m => by
  unfold opL at m
  rcases List.mem_append.mp m with m | m
  · exact lel_n h1 m
  · exact lel_n (ruL_f hr h2) m)
/-- what reading without a FAULT changes -/
def osL (r : Nat) : List Nat := txL ++ ruL r
theorem Fr.ru {r : Nat} {ν ξ : Mem} (f : Fr (ruL r) ν ξ) : Fr (osL r) ν ξ := FrP.wide f (lel_sub (fun q hq => List.mem_append_right _ hq))
theorem Fr.ts {r : Nat} {L : List Nat} {ν ξ : Mem} (f : Fr L ν ξ) (h : lsub L txL = true) : Fr (osL r) ν ξ := FrP.wide (Fr.mono f h) (lel_sub (fun q hq => List.mem_append_left _ hq))
theorem Fr.os {r : Nat} {ν ξ : Mem} (f : Fr (osL r) ν ξ) : Fr (opL r) ν ξ := FrP.wide f (lel_sub (fun q hq => by
  unfold osL at hq
  unfold opL
  rcases List.mem_append.mp hq with hq | hq
  · exact List.mem_append_left _ (List.mem_append_left _ hq)
  · exact List.mem_append_right _ hq))
theorem Fr.tx {r : Nat} {L : List Nat} {ν ξ : Mem} (f : Fr L ν ξ) (h : lsub L (txL ++ ftL) = true) : Fr (opL r) ν ξ := FrP.wide (Fr.mono f h) (lel_sub (fun q hq => List.mem_append_left _ hq))
def StpC (r : Nat) (ν : Mem) (E : List Int) : Prop := rI ν (gid r 3) 0 = (E.length : Int) ∧ ∀ j : Nat, j < E.length → rI ν (r + 1) (j : Int) = E.getD j 0
theorem StpC.tx {r : Nat} (hr : Rr r) {L : List Nat} {ν ξ : Mem} {E : List Int} (h : StpC r ν E) (f : Fr L ν ξ) (hL : (L.all fun q => !(gRuc q)) = true) : StpC r ξ E := ⟨by rw [f.rdI (all_nl hL (ru_g3 hr))]; exact h.1, fun j hj => by rw [f.rdI (all_nl hL (ru_g1 hr))]; exact h.2 j hj⟩
theorem gA {E : List Int} {x : Int} {i : Nat} : (E ++ [x]).getD i 0 = if i < E.length then E.getD i 0 else if i = E.length then x else 0 := by
  by_cases c : i < E.length
  · rw [if_pos c, List.getD_eq_getElem?_getD, List.getD_eq_getElem?_getD, List.getElem?_append_left c]
  · rw [if_neg c, List.getD_eq_getElem?_getD, List.getElem?_append_right (by omega)]
    by_cases c2 : i = E.length
    · rw [if_pos c2, c2, Nat.sub_self]; rfl
    · rw [if_neg c2, List.getElem?_eq_none (by simp only [List.length_cons, List.length_nil]; omega)]; rfl
theorem c_addStep {r : Nat} (hr : Rr r) {a m : Int} (hx : 0 ≤ m * 16 + a ∧ m * 16 + a < 2147483648) {ν : Mem} {E : List Int} (h : StpC r ν E) (h3 : E.length < 300) {K : Mem → Prop} (k : ∀ ξ : Mem, Fr (ruL r) ν ξ → StpC r ξ (E ++ [m * 16 + a]) → K ξ) : f_Rules_addStep r a m ν K := by
  have ne : ¬ gid r 3 = r + 1 := by unfold gid; omega
  unfold f_Rules_addStep
  rw [h.1]
  (try simp (disch := omega) only [w_id])
  rw [if_neg (by omega), if_pos (by omega)]
  refine ⟨by omega, by omega, fun μ1 e1 μ2 e2 => ?_⟩
  have s1 : rI μ1 (gid r 3) 0 = (E.length : Int) := by rw [e1, rI_sI, if_neg (fun z => ne z.1)]; exact h.1
  rw [s1] at e2
  refine k μ2 ?_ ⟨?_, fun j hj => ?_⟩
  · rw [e2, e1]
    exact ((FrP.refl _ _).wI (by simp [lel, ruL])).wI (by simp [lel, ruL])
  · rw [e2, rI_eq _ _ _ ⟨by omega, by omega⟩, List.length_append]
    simp
  · simp only [List.length_append, List.length_cons, List.length_nil] at hj
    rw [gA, e2, rI_sI, if_neg (fun z => ne z.1.symm), e1, rI_sI]
    by_cases c : j < E.length
    · rw [if_pos c, if_neg (fun z => by omega)]; exact h.2 j c
    · rw [if_neg c, if_pos (show j = E.length by omega), if_pos ⟨rfl, by omega⟩, w_id (by omega) (by omega)]
theorem c_addStep_any {r : Nat} {a m : Int} {ν : Mem} {K : Mem → Prop} (k : ∀ ξ : Mem, Fr (ruL r) ν ξ → K ξ) : f_Rules_addStep r a m ν K := by
  unfold f_Rules_addStep
  (try simp (disch := omega) only [w_id, w_rI])
  refine ite_i (fun _ => k ν (FrP.refl _ _)) (fun q => ite_i (fun q2 => ⟨by omega, by omega, fun μ1 e1 μ2 e2 => k μ2 ?_⟩) (fun _ => k ν (FrP.refl _ _)))
  rw [e2, e1]
  exact ((FrP.refl _ _).wI (by simp [lel, ruL])).wI (by simp [lel, ruL])
/-- the class at a TOKEN of ORDERS, steps E behind it -/
def OC (b : Bts) (n r : Nat) (p : Int) (ν : Mem) (T : Tk) (E : List Int) : Prop := BtC b n ν ∧ TkO n T ∧ TkC ν T ∧ rR ν 9065 0 = some r ∧ rI ν 9066 0 = p ∧ StpC r ν E
theorem rR_fr {P : Nat → Bool} {ν ξ : Mem} (f : FrP P ν ξ) {r : Nat} (h : rR ν 9065 0 = some r) : rR ξ 9065 0 = some r := by
  show ξ.2.2 9065 0 = some r
  rw [f.1]
  exact h
theorem BtC.of {P : Nat → Bool} {b : Bts} {n : Nat} {ν ξ : Mem} (h : BtC b n ν) (f : FrP P ν ξ) (h1 : P 2281 = false) (h2 : P 11 = false) : BtC b n ξ := ⟨by rw [f.rdI h1]; exact h.1, fun j hj => by rw [f.rdI h2]; exact h.2 j hj⟩
theorem TkC.of {P : Nat → Bool} {T : Tk} {ν ξ : Mem} (h : TkC ν T) (f : FrP P ν ξ) (h1 : P 2282 = false) (h2 : P 2283 = false) (h3 : P 2284 = false) (h4 : P 2285 = false) : TkC ξ T := by
  unfold TkC at *
  rw [f.rdI h1, f.rdI h2, f.rdI h3, f.rdI h4]
  exact h
theorem OC.nx {b : Bts} {n r : Nat} {p : Int} {ν ξ : Mem} {T : Tk} {E : List Int} (hr : Rr r) (hb : BtO b n) (h : OC b n r p ν T E) (f : Fr txL ν ξ) (t : TkC ξ (nx b n T)) : OC b n r p ξ (nx b n T) E :=
  ⟨h.1.fr f rfl, (nx_ok hb h.2.1).1, t, rR_fr f h.2.2.2.1, by rw [f.rdI rfl]; exact h.2.2.2.2.1, h.2.2.2.2.2.tx hr f rfl⟩
theorem OC.add {b : Bts} {n r : Nat} {p : Int} {ν ξ : Mem} {T : Tk} {E E' : List Int} (hr : Rr r) (h : OC b n r p ν T E) (f : Fr (ruL r) ν ξ) (s : StpC r ξ E') : OC b n r p ξ T E' :=
  ⟨h.1.of f (ruL_f hr rfl) (ruL_f hr rfl), h.2.1, h.2.2.1.of f (ruL_f hr rfl) (ruL_f hr rfl) (ruL_f hr rfl) (ruL_f hr rfl), rR_fr f h.2.2.2.1, by rw [f.rdI (ruL_f hr rfl)]; exact h.2.2.2.2.1, s⟩
theorem OC.op {b : Bts} {n r : Nat} {p : Int} {ν ξ : Mem} {T T' : Tk} {E E' : List Int} (hr : Rr r) (h : OC b n r p ν T E) (f : Fr (opL r) ν ξ) (hT : TkO n T') (t : TkC ξ T') (s : StpC r ξ E') : OC b n r p ξ T' E' :=
  ⟨h.1.of f (opL_f hr rfl rfl) (opL_f hr rfl rfl), hT, t, rR_fr f h.2.2.2.1, by rw [f.rdI (opL_f hr rfl rfl)]; exact h.2.2.2.2.1, s⟩
def FaC (r : Nat) (ν : Mem) (K : Bool → Mem → Prop) (f : Int) (q : Nat) : Prop := ∀ ξ : Mem, Fr (opL r) ν ξ → rI ξ 2286 0 = f → rI ξ 2287 0 = (q : Int) → K false ξ
def SuC (r : Nat) (p : Int) (ν : Mem) (E : List Int) (K : Bool → Mem → Prop) (x : List Int × Tk) : Prop := ∀ ξ : Mem, Fr (osL r) ν ξ → TkC ξ x.2 → StpC r ξ (E ++ x.1.map (enc p)) → K true ξ
/-- a method of the class follows a pure reader -/
def FolC (b : Bts) (n r : Nat) (p : Int) (R : Mem → (Bool → Mem → Prop) → Prop) (P : Tk → PR) : Prop := ∀ (T : Tk) (E : List Int) (ν : Mem) (K : Bool → Mem → Prop), OC b n r p ν T E → E.length ≤ T.2.1 → onR (P T) (FaC r ν K) (SuC r p ν E K) → R ν K
theorem enc_neg {p s : Int} (h : s < 0) : enc p s = encO s := by unfold enc; rw [if_neg (by omega)]
theorem encO_r {c1 c : Bool} {s : Int} (h : OpT c1 c s) : 0 ≤ encO s ∧ encO s ≤ 11 := by
  have := h.rng
  unfold encO
  split
  · omega
  · split
    · omega
    · split <;> omega
theorem FaC.tr {r : Nat} {ν ξ : Mem} {K : Bool → Mem → Prop} {f : Int} {q : Nat} (h : FaC r ν K f q) (fr : Fr (opL r) ν ξ) : FaC r ξ K f q := fun ο fo a k => h ο (fr.trans fo) a k
/-- a sign between two sides is read, then the side behind it, then a step kept -/
theorem c_step {b : Bts} {n r : Nat} {p : Int} (hb : BtO b n) (hr : Rr r) (hru : isRu r = true) {R : Mem → (Bool → Mem → Prop) → Prop} {P : Tk → PR} (IH : FolC b n r p R P) {c : Bool} {m2 : Nat} (hG : ∀ T : Tk, TkO n T → Gd (P T) (PostR n p c m2 T))
    {op : Tk → Int} (hop : ∀ T : Tk, ¬ op T = 0 → ¬ T.1 = 0 ∧ OpT c c (op T)) {ν0 ν : Mem} {E s : List Int} {T : Tk} {K : Bool → Mem → Prop} {x : Int} (hov : x = encO (op T)) (hne : ¬ op T = 0) (hO : OC b n r p ν T (E ++ s.map (enc p))) (hlen : E.length + s.length ≤ T.2.1) (fr : Fr (osL r) ν0 ν) {f : Nat}
    (h : onR (pLoop P op b n (f + 1) s T) (FaC r ν0 K) (SuC r p ν0 E K)) {Z : Bool → Mem → Prop} (hZf : ∀ ξ : Mem, K false ξ → Z false ξ)
    (hZt : ∀ (T' : Tk) (s' : List Int) (ξ : Mem), T.2.1 + 1 ≤ T'.2.1 → OC b n r p ξ T' (E ++ s'.map (enc p)) → E.length + s'.length ≤ T'.2.1 → Fr (osL r) ν0 ξ → onR (pLoop P op b n f s' T') (FaC r ν0 K) (SuC r p ν0 E K) → Z true ξ) :
    f_Tape_next ν (fun μ_4 => R μ_4 (fun r40 μ_5 => ∃ r45 : Nat, rR μ_5 9065 0 = some r45 ∧ isRu r45 = true ∧ f_Rules_addStep r45 x 0 μ_5 (fun μ_6 => Z r40 μ_6))) := by
  obtain ⟨o1, o2⟩ := hop T hne
  have hor := o2.rng
  have her := encO_r o2
  have hn := hb.1
  unfold pLoop at h
  rw [if_neg hne] at h
  refine c_nx hb hO.2.1 hO.1 hO.2.2.1 (fun ξ1 f1 t1 => ?_)
  have k := nx_lt hb hO.2.1 o1
  have O1 := hO.nx hr hb f1 t1
  have f01 : Fr (osL r) ν0 ξ1 := fr.trans (f1.ts rfl)
  refine IH _ _ ξ1 _ O1 (by simp only [List.length_append, List.length_map]; omega) ?_
  cases hP : P (nx b n T) with
  | inl e =>
    rw [hP] at h
    intro ξ2 f2 a2 p2
    refine ⟨r, rR_fr f2 O1.2.2.2.1, hru, c_addStep_any (fun ξ3 f3 => hZf ξ3 ?_)⟩
    refine h ξ3 ((f01.os.trans f2).trans f3.ru.os) ?_ ?_
    · rw [f3.rdI (ruL_f hr rfl)]; exact a2
    · rw [f3.rdI (ruL_f hr rfl)]; exact p2
  | inr y =>
    rw [hP] at h
    rcases hG _ k.1 with ⟨e, e1, -⟩ | ⟨y', e1, y1, y2, y3, y4⟩
    · rw [hP] at e1; cases e1
    · rw [hP] at e1
      have ey := Sum.inr.inj e1
      subst ey
      intro ξ2 f2 t2 s2
      have O2 := O1.op hr f2.os y1 t2 s2
      have yo := y1.2.1
      refine ⟨r, O2.2.2.2.1, hru, c_addStep hr (by omega) O2.2.2.2.2.2 (by simp only [List.length_append, List.length_map]; omega) (fun ξ3 f3 s3 => ?_)⟩
      have es : E ++ s.map (enc p) ++ y.1.map (enc p) ++ [0 * 16 + x] = E ++ (s ++ y.1 ++ [op T]).map (enc p) := by
        rw [List.map_append, List.map_append, List.map_cons, List.map_nil, enc_neg (by omega), ← hov, show 0 * 16 + x = x by omega, List.append_assoc, List.append_assoc, List.append_assoc]
      rw [es] at s3
      refine hZt y.2 _ ξ3 (by omega) (O2.add hr f3 s3) ?_ ((f01.trans f2).trans f3.ru) h
      simp only [List.length_append, List.length_cons, List.length_nil]
      omega
theorem TkO.fin {n : Nat} {T : Tk} (h : TkO n T) (hn : n ≤ T.2.1) : T.1 = 0 := by
  obtain ⟨t1, t2, t3, t4, t5, t6, t7, t8⟩ := h
  by_cases c : T.1 = 0
  · exact c
  · have := t6 c; omega
theorem c_either_l {b : Bts} {n r : Nat} {p : Int} (hb : BtO b n) (hr : Rr r) (hru : isRu r = true) {d o : Nat} {P : Tk → PR} (IH : FolC b n r p (R_O d 1 (o : Int)) P) {m2 : Nat} (hG : ∀ T : Tk, TkO n T → Gd (P T) (PostR n p true m2 T)) {ν0 : Mem} {E : List Int} {K : Bool → Mem → Prop} :
    ∀ (f i : Nat) (s : List Int) (T : Tk) (ν : Mem), n ≤ T.2.1 + f → i + f = 300 → OC b n r p ν T (E ++ s.map (enc p)) → E.length + s.length ≤ T.2.1 → Fr (osL r) ν0 ν → onR (pLoop P (opOr b) b n f s T) (FaC r ν0 K) (SuC r p ν0 E K) → l_OrdR_either_8 (o : Int) K (R_O d) (f + 1) true (i : Int) ν
  | 0, i, s, T, ν, hn, hi, hO, hl, fr, h => by
    unfold l_OrdR_either_8
    (try simp (disch := omega) only [w_id])
    rw [if_neg (by omega)]
    exact h ν fr hO.2.2.1 hO.2.2.2.2.2
  | f + 1, i, s, T, ν, hn, hi, hO, hl, fr, h => by
    have out : (opOr b) T = 0 → K true ν := fun eo => by
      unfold pLoop at h
      rw [if_pos eo] at h
      exact h ν fr hO.2.2.1 hO.2.2.2.2.2
    unfold l_OrdR_either_8
    (try simp (disch := omega) only [w_id])
    rw [if_pos (by omega), if_pos trivial]
    refine c_isWord hb hO.2.1 (by decide) hO.1 hO.2.2.1 ?_
    refine ite_i (fun q => ?_) (fun q => ?_)
    · have eo : (opOr b) T = -8 := by unfold opOr; rw [if_pos q]
      refine c_step (x := 10) hb hr hru IH hG (opOr_T b) (by rw [eo]; rfl) (by rw [eo]; decide) hO hl fr h (fun ξ k => ?_) (fun T' s' ξ k1 k2 k3 k4 k5 => ?_)
      · unfold l_OrdR_either_8
        refine ite_i (fun _ => ?_) (fun _ => k)
        rw [if_neg (by decide)]
        exact k
      · have g := c_either_l hb hr hru IH hG f (i + 1) s' T' ξ (by omega) (by omega) k2 k3 k4 k5
        exact g
    · exact out (by unfold opOr; rw [if_neg q])
theorem c_both_l {b : Bts} {n r : Nat} {p : Int} (hb : BtO b n) (hr : Rr r) (hru : isRu r = true) {d o : Nat} {P : Tk → PR} (IH : FolC b n r p (R_O d 2 (o : Int)) P) {m2 : Nat} (hG : ∀ T : Tk, TkO n T → Gd (P T) (PostR n p true m2 T)) {ν0 : Mem} {E : List Int} {K : Bool → Mem → Prop} :
    ∀ (f i : Nat) (s : List Int) (T : Tk) (ν : Mem), n ≤ T.2.1 + f → i + f = 300 → OC b n r p ν T (E ++ s.map (enc p)) → E.length + s.length ≤ T.2.1 → Fr (osL r) ν0 ν → onR (pLoop P (opAnd b) b n f s T) (FaC r ν0 K) (SuC r p ν0 E K) → l_OrdR_both_8 (o : Int) K (R_O d) (f + 1) true (i : Int) ν
  | 0, i, s, T, ν, hn, hi, hO, hl, fr, h => by
    unfold l_OrdR_both_8
    (try simp (disch := omega) only [w_id])
    rw [if_neg (by omega)]
    exact h ν fr hO.2.2.1 hO.2.2.2.2.2
  | f + 1, i, s, T, ν, hn, hi, hO, hl, fr, h => by
    have out : (opAnd b) T = 0 → K true ν := fun eo => by
      unfold pLoop at h
      rw [if_pos eo] at h
      exact h ν fr hO.2.2.1 hO.2.2.2.2.2
    unfold l_OrdR_both_8
    (try simp (disch := omega) only [w_id])
    rw [if_pos (by omega), if_pos trivial]
    refine c_isWord hb hO.2.1 (by decide) hO.1 hO.2.2.1 ?_
    refine ite_i (fun q => ?_) (fun q => ?_)
    · have eo : (opAnd b) T = -7 := by unfold opAnd; rw [if_pos q]
      refine c_step (x := 9) hb hr hru IH hG (opAnd_T b) (by rw [eo]; rfl) (by rw [eo]; decide) hO hl fr h (fun ξ k => ?_) (fun T' s' ξ k1 k2 k3 k4 k5 => ?_)
      · unfold l_OrdR_both_8
        refine ite_i (fun _ => ?_) (fun _ => k)
        rw [if_neg (by decide)]
        exact k
      · have g := c_both_l hb hr hru IH hG f (i + 1) s' T' ξ (by omega) (by omega) k2 k3 k4 k5
        exact g
    · exact out (by unfold opAnd; rw [if_neg q])
theorem c_sum_l {b : Bts} {n r : Nat} {p : Int} (hb : BtO b n) (hr : Rr r) (hru : isRu r = true) {d o : Nat} {P : Tk → PR} (IH : FolC b n r p (R_O d 5 (o : Int)) P) {m2 : Nat} (hG : ∀ T : Tk, TkO n T → Gd (P T) (PostR n p false m2 T)) {ν0 : Mem} {E : List Int} {K : Bool → Mem → Prop} :
    ∀ (f i : Nat) (s : List Int) (T : Tk) (ν : Mem), n ≤ T.2.1 + f → i + f = 300 → OC b n r p ν T (E ++ s.map (enc p)) → E.length + s.length ≤ T.2.1 → Fr (osL r) ν0 ν → onR (pLoop P opSum b n f s T) (FaC r ν0 K) (SuC r p ν0 E K) → l_OrdR_sum_8 (o : Int) K (R_O d) (f + 1) true (i : Int) ν
  | 0, i, s, T, ν, hn, hi, hO, hl, fr, h => by
    unfold l_OrdR_sum_8
    (try simp (disch := omega) only [w_id])
    rw [if_neg (by omega)]
    exact h ν fr hO.2.2.1 hO.2.2.2.2.2
  | f + 1, i, s, T, ν, hn, hi, hO, hl, fr, h => by
    have out : opSum T = 0 → K true ν := fun eo => by
      unfold pLoop at h
      rw [if_pos eo] at h
      exact h ν fr hO.2.2.1 hO.2.2.2.2.2
    unfold l_OrdR_sum_8
    (try simp (disch := omega) only [w_id])
    rw [if_pos (by omega), if_pos trivial]
    have g1 := c_isSign (c := 43) hO.2.1 hO.2.2.1 (by decide)
    have g2 := c_isSign (c := 45) hO.2.1 hO.2.2.1 (by decide)
    rw [g1, g2]
    refine ite_i (fun q => ?_) (fun q => ite_i (fun q2 => ?_) (fun q2 => ?_))
    · have eo : opSum T = -1 := by unfold opSum; rw [if_pos q]
      unfold b_OrdR_sum_43
      intro x ex
      rw [g1, if_pos q] at ex
      subst ex
      refine c_step (x := 2) hb hr hru IH hG (opSum_T) (by rw [eo]; rfl) (by rw [eo]; decide) hO hl fr h (fun ξ k => ?_) (fun T' s' ξ k1 k2 k3 k4 k5 => ?_)
      · unfold l_OrdR_sum_8
        refine ite_i (fun _ => ?_) (fun _ => k)
        rw [if_neg (by decide)]
        exact k
      · have g := c_sum_l hb hr hru IH hG f (i + 1) s' T' ξ (by omega) (by omega) k2 k3 k4 k5
        exact g
    · have eo : opSum T = -2 := by unfold opSum; rw [if_neg q, if_pos q2]
      unfold b_OrdR_sum_43
      intro x ex
      rw [g1, if_neg q] at ex
      subst ex
      refine c_step (x := 3) hb hr hru IH hG (opSum_T) (by rw [eo]; rfl) (by rw [eo]; decide) hO hl fr h (fun ξ k => ?_) (fun T' s' ξ k1 k2 k3 k4 k5 => ?_)
      · unfold l_OrdR_sum_8
        refine ite_i (fun _ => ?_) (fun _ => k)
        rw [if_neg (by decide)]
        exact k
      · have g := c_sum_l hb hr hru IH hG f (i + 1) s' T' ξ (by omega) (by omega) k2 k3 k4 k5
        exact g
    · exact out (by unfold opSum; rw [if_neg q, if_neg q2])
theorem c_product_l {b : Bts} {n r : Nat} {p : Int} (hb : BtO b n) (hr : Rr r) (hru : isRu r = true) {d o : Nat} {P : Tk → PR} (IH : FolC b n r p (R_O d 6 (o : Int)) P) {m2 : Nat} (hG : ∀ T : Tk, TkO n T → Gd (P T) (PostR n p false m2 T)) {ν0 : Mem} {E : List Int} {K : Bool → Mem → Prop} :
    ∀ (f i : Nat) (s : List Int) (T : Tk) (ν : Mem), n ≤ T.2.1 + f → i + f = 300 → OC b n r p ν T (E ++ s.map (enc p)) → E.length + s.length ≤ T.2.1 → Fr (osL r) ν0 ν → onR (pLoop P opMul b n f s T) (FaC r ν0 K) (SuC r p ν0 E K) → l_OrdR_product_8 (o : Int) K (R_O d) (f + 1) true (i : Int) ν
  | 0, i, s, T, ν, hn, hi, hO, hl, fr, h => by
    unfold l_OrdR_product_8
    (try simp (disch := omega) only [w_id])
    rw [if_neg (by omega)]
    exact h ν fr hO.2.2.1 hO.2.2.2.2.2
  | f + 1, i, s, T, ν, hn, hi, hO, hl, fr, h => by
    have out : opMul T = 0 → K true ν := fun eo => by
      unfold pLoop at h
      rw [if_pos eo] at h
      exact h ν fr hO.2.2.1 hO.2.2.2.2.2
    unfold l_OrdR_product_8
    (try simp (disch := omega) only [w_id])
    rw [if_pos (by omega), if_pos trivial]
    have g1 := c_isSign (c := 42) hO.2.1 hO.2.2.1 (by decide)
    have g2 := c_isSign (c := 47) hO.2.1 hO.2.2.1 (by decide)
    rw [g1, g2]
    refine ite_i (fun q => ?_) (fun q => ite_i (fun q2 => ?_) (fun q2 => ?_))
    · have eo : opMul T = -3 := by unfold opMul; rw [if_pos q]
      unfold b_OrdR_product_43
      intro x ex
      rw [g1, if_pos q] at ex
      subst ex
      refine c_step (x := 4) hb hr hru IH hG (opMul_T) (by rw [eo]; rfl) (by rw [eo]; decide) hO hl fr h (fun ξ k => ?_) (fun T' s' ξ k1 k2 k3 k4 k5 => ?_)
      · unfold l_OrdR_product_8
        refine ite_i (fun _ => ?_) (fun _ => k)
        rw [if_neg (by decide)]
        exact k
      · have g := c_product_l hb hr hru IH hG f (i + 1) s' T' ξ (by omega) (by omega) k2 k3 k4 k5
        exact g
    · have eo : opMul T = -10 := by unfold opMul; rw [if_neg q, if_pos q2]
      unfold b_OrdR_product_43
      intro x ex
      rw [g1, if_neg q] at ex
      subst ex
      refine c_step (x := 5) hb hr hru IH hG (opMul_T) (by rw [eo]; rfl) (by rw [eo]; decide) hO hl fr h (fun ξ k => ?_) (fun T' s' ξ k1 k2 k3 k4 k5 => ?_)
      · unfold l_OrdR_product_8
        refine ite_i (fun _ => ?_) (fun _ => k)
        rw [if_neg (by decide)]
        exact k
      · have g := c_product_l hb hr hru IH hG f (i + 1) s' T' ξ (by omega) (by omega) k2 k3 k4 k5
        exact g
    · exact out (by unfold opMul; rw [if_neg q, if_neg q2])
theorem c_not_l {b : Bts} {n r : Nat} {p : Int} (hb : BtO b n) (hr : Rr r) {E : List Int} {X : Bool → Mem → Prop} {ν0 : Mem} : ∀ (f i : Nat) (t : Bool) (T : Tk) (ν : Mem), n ≤ T.2.1 + f → i + f = 300 → OC b n r p ν T E → Fr (osL r) ν0 ν → (∀ ξ : Mem, Fr (osL r) ν0 ξ → OC b n r p ξ (pNot b n f t T).2 E → X (pNot b n f t T).1 ξ) → l_OrdR_skipNots_4 X (f + 1) t (i : Int) ν
  | 0, i, t, T, ν, hn, hi, hO, fr, h => by
    unfold l_OrdR_skipNots_4
    (try simp (disch := omega) only [w_id])
    rw [if_neg (by omega)]
    exact h ν fr hO
  | f + 1, i, t, T, ν, hn, hi, hO, fr, h => by
    unfold l_OrdR_skipNots_4
    (try simp (disch := omega) only [w_id])
    rw [if_pos (by omega)]
    refine c_isWord hb hO.2.1 (by decide) hO.1 hO.2.2.1 ?_
    unfold pNot at h
    refine ite_i (fun q => ?_) (fun q => ?_)
    · rw [if_pos q] at h
      have k := nx_lt hb hO.2.1 (isW_1 q)
      refine c_nx hb hO.2.1 hO.1 hO.2.2.1 (fun ξ1 f1 t1 => ?_)
      intro x ex
      have ex' : x = !t := by rw [ex]; cases t <;> rfl
      subst ex'
      exact c_not_l hb hr f (i + 1) (!t) _ ξ1 (by omega) (by omega) (hO.nx hr hb f1 t1) (fr.trans (f1.ts rfl)) h
    · rw [if_neg q] at h
      exact h ν fr hO
theorem bindR_assoc (r : PR) (f g : List Int × Tk → PR) : bindR (bindR r f) g = bindR r (fun x => bindR (f x) g) := by
  cases r <;> rfl
/-- the class's number of a level: a comparison is read in the piece itself -/
def cy : Nat → Nat
  | 0 => 0
  | 1 => 1
  | 2 => 2
  | 3 => 3
  | n + 4 => n + 3
theorem c_fact {b : Bts} {n : Nat} (hb : BtO b n) {T : Tk} (hT : TkO n T) {ν : Mem} (hB : BtC b n ν) (ht : TkC ν T) {K : Int → Mem → Prop} :
    (K (if nameS b 3 T = -1 then -1 else nameS b 3 T - 6) ν → f_OrdR_factOfCards ν K) ∧ (K (if nameS b 4 T = -1 then -1 else nameS b 4 T - 10) ν → f_OrdR_factOfLate ν K) ∧ ∀ p : Int, ¬ p = 3 → ¬ p = 4 → K (nameS b p T) ν → f_OrdR_factOfPass ν K := by
  refine ⟨fun h => ?_, fun h => ?_, fun p p3 p4 h => ?_⟩
  · have e : nameS b 3 T = (if isW b T 11 = true then 6 else if isW b T 12 = true then 7 else if isW b T 13 = true then 8 else if isW b T 14 = true then 9 else -1) := by unfold nameS; rw [if_pos rfl]
    rw [e] at h
    unfold f_OrdR_factOfCards
    refine c_isWord hb hT (by decide) hB ht (ite_i (fun q => ?_) (fun q => ?_))
    · rw [if_pos q] at h; exact h
    · rw [if_neg q] at h
      refine c_isWord hb hT (by decide) hB ht (ite_i (fun q => ?_) (fun q => ?_))
      · rw [if_pos q] at h; exact h
      · rw [if_neg q] at h
        refine c_isWord hb hT (by decide) hB ht (ite_i (fun q => ?_) (fun q => ?_))
        · rw [if_pos q] at h; exact h
        · rw [if_neg q] at h
          refine c_isWord hb hT (by decide) hB ht (fun x ex => ?_)
          subst ex
          by_cases q : isW b T 14 = true
          · rw [if_pos q] at h ⊢; exact h
          · rw [if_neg q] at h ⊢; exact h
  · have e : nameS b 4 T = (if isW b T 11 = true then 10 else if isW b T 15 = true then 11 else if isW b T 16 = true then 12 else -1) := by unfold nameS; rw [if_neg (by decide), if_pos rfl]
    rw [e] at h
    unfold f_OrdR_factOfLate
    refine c_isWord hb hT (by decide) hB ht (ite_i (fun q => ?_) (fun q => ?_))
    · rw [if_pos q] at h; exact h
    · rw [if_neg q] at h
      refine c_isWord hb hT (by decide) hB ht (ite_i (fun q => ?_) (fun q => ?_))
      · rw [if_pos q] at h; exact h
      · rw [if_neg q] at h
        refine c_isWord hb hT (by decide) hB ht (fun x ex => ?_)
        subst ex
        by_cases q : isW b T 16 = true
        · rw [if_pos q] at h ⊢; exact h
        · rw [if_neg q] at h ⊢; exact h
  · unfold nameS at h
    rw [if_neg p3, if_neg p4] at h
    unfold f_OrdR_factOfPass
    refine c_isWord hb hT (by decide) hB ht (ite_i (fun q => ?_) (fun q => ?_))
    · rw [if_pos q] at h; exact h
    · rw [if_neg q] at h
      refine c_isWord hb hT (by decide) hB ht (ite_i (fun q => ?_) (fun q => ?_))
      · rw [if_pos q] at h; exact h
      · rw [if_neg q] at h
        refine c_isWord hb hT (by decide) hB ht (ite_i (fun q => ?_) (fun q => ?_))
        · rw [if_pos q] at h; exact h
        · rw [if_neg q] at h
          refine c_isWord hb hT (by decide) hB ht (ite_i (fun q => ?_) (fun q => ?_))
          · rw [if_pos q] at h; exact h
          · rw [if_neg q] at h
            refine c_isWord hb hT (by decide) hB ht (ite_i (fun q => ?_) (fun q => ?_))
            · rw [if_pos q] at h; exact h
            · rw [if_neg q] at h
              refine c_isWord hb hT (by decide) hB ht (fun x ex => ?_)
              subst ex
              by_cases q : isW b T 16 = true
              · rw [if_pos q] at h ⊢; exact h
              · rw [if_neg q] at h ⊢; exact h
theorem c_name {b : Bts} {n r : Nat} {p : Int} (hb : BtO b n) (hr : Rr r) (hru : isRu r = true) (hp : 0 ≤ p ∧ p ≤ 4) {T : Tk} {E : List Int} {ν : Mem} {K : Bool → Mem → Prop} (hO : OC b n r p ν T E) (hE : E.length < 300)
    (h : onR (if nameS b p T = -1 then (.inl (3, T.2.1) : PR) else .inr ([10000 + nameS b p T], nx b n T)) (FaC r ν K) (SuC r p ν E K)) : f_OrdR_name ν K := by
  have nr := nameS_r b p T
  have nn := npa_le p
  have cont : ∀ v : Int, v = (if nameS b p T = -1 then -1 else nameS b p T - bpa p) → b_OrdR_name_34 K v ν := fun v ev => by
    unfold b_OrdR_name_34
    by_cases c : nameS b p T = -1
    · rw [if_pos c] at ev h
      rw [ev, if_pos rfl]
      exact c_fail (by decide) hb.1 hO.2.1 hO.2.2.1 (fun ξ f a q => h ξ (f.tx rfl) a q)
    · rw [if_neg c] at ev h
      have r1 := nr.resolve_left c
      (try simp (disch := omega) only [w_id])
      rw [if_neg (by omega)]
      refine ⟨r, hO.2.2.2.1, hru, c_addStep hr (by omega) hO.2.2.2.2.2 hE (fun ξ1 f1 s1 => ?_)⟩
      have O1 := hO.add hr f1 s1
      refine c_nx hb O1.2.1 O1.1 O1.2.2.1 (fun ξ2 f2 t2 => ?_)
      refine h ξ2 (f1.ru.trans (f2.ts rfl)) t2 ?_
      have e : [10000 + nameS b p T].map (enc p) = [v * 16 + 1] := by
        rw [List.map_cons, List.map_nil]
        unfold enc
        rw [if_pos (by omega), if_pos (by omega), ev, show 10000 + nameS b p T - 10000 - bpa p = nameS b p T - bpa p by omega]
      rw [e]
      exact s1.tx hr f2 rfl
  have F := c_fact hb hO.2.1 hO.1 hO.2.2.1 (K := fun r9 μ_1 => b_OrdR_name_34 K r9 μ_1)
  have ep : rI ν 9066 0 = p := hO.2.2.2.2.1
  unfold f_OrdR_name
  rw [ep]
  (try simp (disch := omega) only [w_id])
  refine ite_i (fun q => ?_) (fun q => ite_i (fun q2 => ?_) (fun q2 => ?_))
  · subst q; exact F.1 (cont _ rfl)
  · subst q2; exact F.2.1 (cont _ rfl)
  · refine F.2.2 p q q2 (cont _ ?_)
    have e : bpa p = 0 := by unfold bpa; rw [if_neg q, if_neg q2]
    rw [e]
    split <;> omega
theorem FolC.cast {b : Bts} {n r : Nat} {p : Int} {d y o : Nat} {P : Tk → PR} (h : FolC b n r p (R_O d y ((o + 1 : Nat) : Int)) P) : FolC b n r p (R_O d y ((o : Int) + 1)) P := by
  rw [show ((o + 1 : Nat) : Int) = (o : Int) + 1 by omega] at h
  exact h
theorem c_end {b : Bts} {n r : Nat} {p : Int} (hb : BtO b n) (hr : Rr r) {c : Int} (hc : 0 ≤ c ∧ c < 128) {ν0 ν : Mem} {E s : List Int} {T : Tk} {K : Bool → Mem → Prop} (hO : OC b n r p ν T (E ++ s.map (enc p))) (fr : Fr (osL r) ν0 ν) (h : onR (pEnd b n c (s, T)) (FaC r ν0 K) (SuC r p ν0 E K)) :
    f_Tape_skipSign c ν (fun r37 μ_3 => ∀ x48 : Bool, x48 = (if r37 = true then true else false) → K x48 μ_3) := by
  unfold pEnd at h
  refine c_skipSign hb hO.2.1 hc hO.1 hO.2.2.1 (fun q ξ f t x ex => ?_) (fun q ξ f a k x ex => ?_)
  · rw [if_pos rfl] at ex
    subst ex
    rw [if_pos q] at h
    exact h ξ (fr.trans (f.ts rfl)) t (hO.2.2.2.2.2.tx hr f rfl)
  · rw [if_neg (by decide)] at ex
    subst ex
    rw [if_neg q] at h
    exact h ξ (fr.os.trans (f.tx rfl)) a k
theorem FolC.bind {b : Bts} {n r : Nat} {p : Int} {R : Mem → (Bool → Mem → Prop) → Prop} {P : Tk → PR} (IH : FolC b n r p R P) {c : Bool} {m2 : Nat} {T : Tk} (hG : Gd (P T) (PostR n p c m2 T)) (hr : Rr r) {ν0 ν : Mem} {E E0 : List Int} {K K' : Bool → Mem → Prop} {g : List Int × Tk → PR} (hO : OC b n r p ν T E) (hE : E.length ≤ T.2.1) (fr : Fr (osL r) ν0 ν)
    (h : onR (bindR (P T) g) (FaC r ν0 K) (SuC r p ν0 E0 K)) (h1 : ∀ (f0 : Int) (q0 : Nat) (ξ : Mem), Fr (opL r) ν ξ → FaC r ξ K f0 q0 → rI ξ 2286 0 = f0 → rI ξ 2287 0 = (q0 : Int) → K' false ξ) (h2 : ∀ (x : List Int × Tk) (ξ : Mem), PostR n p c m2 T x → OC b n r p ξ x.2 (E ++ x.1.map (enc p)) → Fr (osL r) ν0 ξ → onR (g x) (FaC r ν0 K) (SuC r p ν0 E0 K) → K' true ξ) : R ν K' := by
  refine IH T E ν K' hO hE ?_
  cases hP : P T with
  | inl e =>
    rw [hP] at h
    exact fun ξ f a q => h1 _ _ ξ f (FaC.tr h (fr.os.trans f)) a q
  | inr y =>
    rw [hP] at h
    rcases hG with ⟨e, e1, -⟩ | ⟨y', e1, y1⟩
    · rw [hP] at e1; cases e1
    · rw [hP] at e1
      have ey := Sum.inr.inj e1
      subst ey
      exact fun ξ f t s => h2 y ξ y1 (hO.op hr f.os y1.1 t s) (fr.trans f) h
theorem c_PO {b : Bts} {n r : Nat} {p : Int} (hb : BtO b n) (hr : Rr r) (hru : isRu r = true) (hp : 0 ≤ p ∧ p ≤ 4) : ∀ (d y o : Nat), y ≤ 7 → ¬ y = 4 → o ≤ 4 → need y o ≤ d → ∀ D : Nat, need y o ≤ D → FolC b n r p (R_O d (cy y) (o : Int)) (PO b n p D y o)
  | 0, y, o, hy, h4, ho, hn => by unfold need at hn; omega
  | d + 1, y, o, hy, h4, ho, hn => by
    have ih := c_PO hb hr hru hp d
    intro D hD
    obtain ⟨D', rfl⟩ : ∃ D' : Nat, D = D' + 1 := ⟨D - 1, by unfold need at hD; omega⟩
    have hg := PO_good hb p D'
    unfold need at hn hD ih hg
    have hn3 := hb.1
    intro T E ν K hO hE h
    have h' : onR (pStep b n p (PO b n p D') y o T) (FaC r ν K) (SuC r p ν E K) := h
    clear h
    match y, hy, h4, hn, hD, h' with
    | 0, _, _, hn, hD, h =>
      show f_OrdR_either (R_O d) (o : Int) ν K
      unfold f_OrdR_either
      refine (ih 1 o (by omega) (by decide) ho (by omega) D' (by omega)).bind (hg 1 o T (by omega) ho (by omega) hO.2.1) hr hO hE (FrP.refl _ _) h (fun f0 q0 ξ kfr kf ka kq => ?_) (fun x ξ px O fr g => ?_)
      · have k := kf ξ (FrP.refl _ _) ka kq
        refine ⟨1, ?_⟩
        unfold l_OrdR_either_8
        refine ite_i (fun _ => ?_) (fun _ => k)
        rw [if_neg (by decide)]
        exact k
      · refine ⟨301, ?_⟩
        have px2 := px.2.1
        exact c_either_l hb hr hru (ih 1 o (by omega) (by decide) ho (by omega) D' (by omega)) (fun T' hT' => hg 1 o T' (by omega) ho (by omega) hT') 300 0 x.1 x.2 ξ (by omega) rfl O (by omega) fr g
    | 1, _, _, hn, hD, h =>
      show f_OrdR_both (R_O d) (o : Int) ν K
      unfold f_OrdR_both
      refine (ih 2 o (by omega) (by decide) ho (by omega) D' (by omega)).bind (hg 2 o T (by omega) ho (by omega) hO.2.1) hr hO hE (FrP.refl _ _) h (fun f0 q0 ξ kfr kf ka kq => ?_) (fun x ξ px O fr g => ?_)
      · have k := kf ξ (FrP.refl _ _) ka kq
        refine ⟨1, ?_⟩
        unfold l_OrdR_both_8
        refine ite_i (fun _ => ?_) (fun _ => k)
        rw [if_neg (by decide)]
        exact k
      · refine ⟨301, ?_⟩
        have px2 := px.2.1
        exact c_both_l hb hr hru (ih 2 o (by omega) (by decide) ho (by omega) D' (by omega)) (fun T' hT' => hg 2 o T' (by omega) ho (by omega) hT') 300 0 x.1 x.2 ξ (by omega) rfl O (by omega) fr g
    | 2, _, _, hn, hD, h =>
      show f_OrdR_piece (R_O d) (o : Int) ν K
      unfold f_OrdR_piece f_OrdR_skipNots
      have tt := hO.2.1.2.1
      obtain ⟨D2, rfl⟩ : ∃ D2 : Nat, D' = D2 + 1 := ⟨D' - 1, by omega⟩
      have hg2 := PO_good hb p D2
      unfold need at hg2
      refine ⟨301, c_not_l (ν0 := ν) hb hr 300 0 false T ν (by omega) rfl hO (FrP.refl _ _) (fun ξ fr O => ?_)⟩
      have k := pNot_ok hb 300 false T hO.2.1
      have h' : onR (bindR (PO b n p (D2 + 1) (if isS (pNot b n 300 false T).2 91 = true then 3 else 4) o (pNot b n 300 false T).2) (pTurn (pNot b n 300 false T).1)) (FaC r ν K) (SuC r p ν E K) := h
      clear h
      generalize pNot b n 300 false T = q at k h' O
      obtain ⟨k1, k2, k3⟩ := k
      have hr' : rR ξ 9065 0 = some r := O.2.2.2.1
      have k4 : q.1 = true → T.2.1 + 1 ≤ q.2.2.1 := fun c => by
        rcases k3 with k3 | k3
        · rw [c] at k3; cases k3
        · exact k3
      have tf : ∀ (f0 : Int) (q0 : Nat) (ο : Mem), rR ο 9065 0 = some r → FaC r ο K f0 q0 → rI ο 2286 0 = f0 → rI ο 2287 0 = (q0 : Int) → (if q.1 = true then (∃ r81 : Nat, rR ο 9065 0 = some r81 ∧ isRu r81 = true ∧ f_Rules_addStep r81 11 0 ο (fun μ_3 => K false μ_3)) else (K false ο)) := fun f0 q0 ο ro kf ka kq =>
        ite_i (fun _ => ⟨r, ro, hru, c_addStep_any (fun ξ3 f3 => kf ξ3 f3.ru.os (by rw [f3.rdI (ruL_f hr rfl)]; exact ka) (by rw [f3.rdI (ruL_f hr rfl)]; exact kq))⟩) (fun _ => kf ο (FrP.refl _ _) ka kq)
      have t65 : ∀ (s f0 : Int) (q0 : Nat) (ο : Mem), rR ο 9065 0 = some r → FaC r ο K f0 q0 → rI ο 2286 0 = f0 → rI ο 2287 0 = (q0 : Int) → b_OrdR_piece_65 K q.1 s false ο := fun s f0 q0 ο ro kf ka kq => by
        unfold b_OrdR_piece_65
        refine ⟨r, ro, hru, c_addStep_any (fun ξ3 f3 => ?_)⟩
        exact tf f0 q0 ξ3 (rR_fr f3 ro) (FaC.tr kf f3.ru.os) (by rw [f3.rdI (ruL_f hr rfl)]; exact ka) (by rw [f3.rdI (ruL_f hr rfl)]; exact kq)
      have t44 : ∀ (f0 : Int) (q0 : Nat) (ο : Mem), rR ο 9065 0 = some r → FaC r ο K f0 q0 → rI ο 2286 0 = f0 → rI ο 2287 0 = (q0 : Int) → b_OrdR_piece_44 K (R_O d) (o : Int) q.1 (-1) ο := fun f0 q0 ο ro kf ka kq => by
        unfold b_OrdR_piece_44
        rw [if_pos (by decide)]
        exact t65 (-1) f0 q0 ο ro kf ka kq
      have tt2 : ∀ (s : List Int) (T' : Tk) (ο : Mem), (q.1 = true → E.length + s.length < 300) → OC b n r p ο T' (E ++ s.map (enc p)) → Fr (osL r) ν ο → onR (pTurn q.1 (s, T')) (FaC r ν K) (SuC r p ν E K) → (if q.1 = true then (∃ r81 : Nat, rR ο 9065 0 = some r81 ∧ isRu r81 = true ∧ f_Rules_addStep r81 11 0 ο (fun μ_3 => K true μ_3)) else (K true ο)) := fun s T' ο hl O2 fr2 g => by
        unfold pTurn at g
        by_cases c : q.1 = true
        · rw [if_pos c] at g ⊢
          refine ⟨r, O2.2.2.2.1, hru, c_addStep hr (by decide) O2.2.2.2.2.2 (by simp only [List.length_append, List.length_map]; exact hl c) (fun ξ4 f4 s4 => ?_)⟩
          refine g ξ4 (fr2.trans f4.ru) (O2.add hr f4 s4).2.2.1 ?_
          have es : E ++ s.map (enc p) ++ [0 * 16 + 11] = E ++ (s ++ [-9]).map (enc p) := by
            rw [List.map_append, List.map_cons, List.map_nil, List.append_assoc]
            rfl
          rw [es] at s4
          exact s4
        · rw [if_neg c] at g ⊢
          exact g ο fr2 O2.2.2.1 O2.2.2.2.2.2
      show (if v_Tape_isSign 91 ξ = true then _ else _)
      rw [c_isSign (c := 91) O.2.1 O.2.2.1 (by decide)]
      by_cases c : isS q.2 91 = true
      · rw [if_pos c] at h' ⊢
        refine FolC.bind (ih 3 o (by omega) (by decide) ho (by omega) (D2 + 1) (by omega)) (hg 3 o q.2 (by omega) ho (by omega) k1) hr O (by omega) fr h' (fun f0 q0 ο kfr kf ka kq => tf f0 q0 ο (rR_fr kfr hr') kf ka kq) (fun x ο px O2 fr2 g => ?_)
        obtain ⟨x1, x2, x3, x4⟩ := px
        have xn := x1.2.1
        exact tt2 x.1 x.2 ο (fun z => by have := k4 z; omega) O2 fr2 g
      · rw [if_neg c] at h' ⊢
        have e : bindR (PO b n p (D2 + 1) 4 o q.2) (pTurn q.1) = bindR (PO b n p D2 5 o q.2) (fun x => bindR (pCmp2 (PO b n p D2 5 o) b n x) (pTurn q.1)) := bindR_assoc (PO b n p D2 5 o q.2) (pCmp2 (PO b n p D2 5 o) b n) (pTurn q.1)
        rw [e] at h'
        clear e
        refine FolC.bind (ih 5 o (by omega) (by decide) ho (by omega) D2 (by omega)) (hg2 5 o q.2 (by omega) ho (by omega) k1) hr O (by omega) fr h' (fun f0 q0 ο kfr kf ka kq => ?_) (fun x ο px O2 fr2 g => ?_)
        · rw [if_neg (by decide)]
          exact t44 f0 q0 ο (rR_fr kfr hr') kf ka kq
        · rw [if_pos rfl]
          unfold f_OrdR_takeComparison
          rw [c_isSign (c := 60) O2.2.1 O2.2.2.1 (by decide), c_isSign (c := 62) O2.2.1 O2.2.2.1 (by decide), c_isSign (c := 61) O2.2.1 O2.2.2.1 (by decide)]
          intro x62 ex
          have e0 : opCmp x.2 = 0 → x62 = -1 := fun z => by
            unfold opCmp at z
            rw [ex]
            split <;> rename_i q1
            · rw [if_pos q1] at z; omega
            · rw [if_neg q1] at z
              split <;> rename_i q2
              · rw [if_pos q2] at z; omega
              · rw [if_neg q2] at z
                split <;> rename_i q3
                · rw [if_pos q3] at z; omega
                · rfl
          have e1 : ¬ opCmp x.2 = 0 → x62 = encO (opCmp x.2) := fun z => by
            unfold opCmp at z ⊢
            rw [ex]
            split <;> rename_i q1
            · rfl
            · rw [if_neg q1] at z
              split <;> rename_i q2
              · rfl
              · rw [if_neg q2] at z
                split <;> rename_i q3
                · rfl
                · rw [if_neg q3] at z; exact absurd rfl z
          clear ex
          obtain ⟨x1, x2, x3, x4⟩ := px
          unfold pCmp2 at g
          by_cases c2 : opCmp x.2 = 0
          · rw [if_pos c2] at g
            rw [e0 c2, if_pos rfl]
            exact c_fail (by decide) hb.1 O2.2.1 O2.2.2.1 (fun ο2 f a k => t44 1 x.2.2.1 ο2 (rR_fr f O2.2.2.2.1) (FaC.tr g (fr2.os.trans (f.tx rfl))) a k)
          · rw [if_neg c2] at g
            obtain ⟨o1, o2⟩ := opCmp_T x.2 c2
            have her := encO_r o2
            have hor := o2.rng
            rw [← e1 c2] at her
            (try simp (disch := omega) only [w_id])
            rw [if_neg (by omega)]
            refine c_nx hb O2.2.1 O2.1 O2.2.2.1 (fun ξ2 f2 t2 => ?_)
            have kk := nx_lt hb O2.2.1 o1
            have O3 := O2.nx hr hb f2 t2
            have f03 : Fr (osL r) ν ξ2 := fr2.trans (f2.ts rfl)
            rw [bindR_assoc] at g
            unfold b_OrdR_piece_44
            (try simp (disch := omega) only [w_id])
            rw [if_neg (by omega)]
            refine FolC.bind (ih 5 o (by omega) (by decide) ho (by omega) D2 (by omega)) (hg2 5 o _ (by omega) ho (by omega) O3.2.1) hr O3 (by simp only [List.length_append, List.length_map]; omega) f03 g (fun f0 q0 ξ3 kfr kf ka kq => ?_) (fun z ξ3 pz O4 f3 g3 => ?_)
            · intro x65 ex65
              have e65 : x65 = false := by rw [ex65, if_neg (by decide)]
              subst e65
              exact t65 x62 f0 q0 ξ3 (rR_fr kfr O3.2.2.2.1) kf ka kq
            · intro x65 ex65
              have e65 : x65 = true := by rw [ex65, if_pos rfl]
              subst e65
              obtain ⟨z1, z2, z3, z4⟩ := pz
              have zn := z1.2.1
              refine ⟨r, O4.2.2.2.1, hru, c_addStep hr (by omega) O4.2.2.2.2.2 (by simp only [List.length_append, List.length_map]; omega) (fun ξ4 f4 s4 => ?_)⟩
              have es : E ++ x.1.map (enc p) ++ z.1.map (enc p) ++ [0 * 16 + x62] = E ++ (x.1 ++ z.1 ++ [opCmp x.2]).map (enc p) := by
                rw [List.map_append, List.map_append, List.map_cons, List.map_nil, enc_neg (by omega), ← e1 c2, show 0 * 16 + x62 = x62 by omega, List.append_assoc, List.append_assoc, List.append_assoc]
              rw [es] at s4
              have O5 := O4.add hr f4 s4
              exact tt2 (x.1 ++ z.1 ++ [opCmp x.2]) z.2 ξ4 (fun y => by have := k4 y; simp only [List.length_append, List.length_cons, List.length_nil]; omega) O5 (f3.trans f4.ru) g3
    | 3, _, _, hn, hD, h =>
      show f_OrdR_square (R_O d) (o : Int) ν K
      unfold f_OrdR_square
      have h' : onR (if o < 4 then bindR (PO b n p D' 0 (o + 1) (nx b n T)) (pEnd b n 93) else .inl (4, T.2.1)) (FaC r ν K) (SuC r p ν E K) := h
      (try simp (disch := omega) only [w_id])
      refine ite_i (fun c => ?_) (fun c => ?_)
      · rw [if_pos (by omega)] at h'
        refine c_nx hb hO.2.1 hO.1 hO.2.2.1 (fun ξ1 f1 t1 => ?_)
        have O1 := hO.nx hr hb f1 t1
        have tt := hO.2.1.2.2.2.1
        have kk := (nx_ok hb hO.2.1).2
        refine FolC.bind (ih 0 (o + 1) (by omega) (by decide) (by omega) (by omega) D' (by omega)).cast (hg 0 (o + 1) _ (by omega) (by omega) (by omega) O1.2.1) hr O1 (by omega) (f1.ts rfl) h' (fun f0 q0 ξ kfr kf ka kq => ?_) (fun x ξ px O fr g => ?_)
        · rw [if_neg (by decide)]; exact kf ξ (FrP.refl _ _) ka kq
        · rw [if_pos rfl]
          exact c_end hb hr (by decide) O fr g
      · rw [if_neg (by omega)] at h'
        exact c_fail (by decide) hb.1 hO.2.1 hO.2.2.1 (fun ξ f a k => h' ξ (f.tx rfl) a k)
    | 4, _, h4, _, _, _ => exact absurd rfl h4
    | 5, _, _, hn, hD, h =>
      show f_OrdR_sum (R_O d) (o : Int) ν K
      unfold f_OrdR_sum
      refine (ih 6 o (by omega) (by decide) ho (by omega) D' (by omega)).bind (hg 6 o T (by omega) ho (by omega) hO.2.1) hr hO hE (FrP.refl _ _) h (fun f0 q0 ξ kfr kf ka kq => ?_) (fun x ξ px O fr g => ?_)
      · have k := kf ξ (FrP.refl _ _) ka kq
        refine ⟨1, ?_⟩
        unfold l_OrdR_sum_8
        refine ite_i (fun _ => ?_) (fun _ => k)
        rw [if_neg (by decide)]
        exact k
      · refine ⟨301, ?_⟩
        have px2 := px.2.1
        exact c_sum_l hb hr hru (ih 6 o (by omega) (by decide) ho (by omega) D' (by omega)) (fun T' hT' => hg 6 o T' (by omega) ho (by omega) hT') 300 0 x.1 x.2 ξ (by omega) rfl O (by omega) fr g
    | 6, _, _, hn, hD, h =>
      show f_OrdR_product (R_O d) (o : Int) ν K
      unfold f_OrdR_product
      refine (ih 7 o (by omega) (by decide) ho (by omega) D' (by omega)).bind (hg 7 o T (by omega) ho (by omega) hO.2.1) hr hO hE (FrP.refl _ _) h (fun f0 q0 ξ kfr kf ka kq => ?_) (fun x ξ px O fr g => ?_)
      · have k := kf ξ (FrP.refl _ _) ka kq
        refine ⟨1, ?_⟩
        unfold l_OrdR_product_8
        refine ite_i (fun _ => ?_) (fun _ => k)
        rw [if_neg (by decide)]
        exact k
      · refine ⟨301, ?_⟩
        have px2 := px.2.1
        exact c_product_l hb hr hru (ih 7 o (by omega) (by decide) ho (by omega) D' (by omega)) (fun T' hT' => hg 7 o T' (by omega) ho (by omega) hT') 300 0 x.1 x.2 ξ (by omega) rfl O (by omega) fr g
    | 7, _, _, hn, hD, h =>
      show f_OrdR_factor (R_O d) (o : Int) ν K
      have h' : onR (if T.1 = 2 then .inr ([T.2.2.2], nx b n T) else if T.1 = 1 then (if nameS b p T = -1 then .inl (3, T.2.1) else .inr ([10000 + nameS b p T], nx b n T))
        else if isS T 40 = true then (if o < 4 then bindR (PO b n p D' 5 (o + 1) (nx b n T)) (pEnd b n 41) else .inl (4, T.2.1)) else .inl (1, T.2.1)) (FaC r ν K) (SuC r p ν E K) := h
      clear h
      obtain ⟨t1, t2, t3, t4, t5, t6, t7, t8⟩ := id hO.2.1
      unfold f_OrdR_factor
      rw [c_isNum hO.2.1 hO.2.2.1, c_isAny hO.2.1 hO.2.2.1, c_isSign (c := 40) hO.2.1 hO.2.2.1 (by decide)]
      simp only [decide_eq_true_eq]
      refine ite_i (fun c1 => ?_) (fun c1 => ?_)
      · rw [if_pos c1] at h'
        have tl := t6 (by omega)
        rw [hO.2.2.1.2.2.2]
        refine ⟨r, hO.2.2.2.1, hru, c_addStep hr (by omega) hO.2.2.2.2.2 (by omega) (fun ξ1 f1 s1 => ?_)⟩
        have O1 := hO.add hr f1 s1
        refine c_nx hb O1.2.1 O1.1 O1.2.2.1 (fun ξ2 f2 t2 => ?_)
        refine h' ξ2 (f1.ru.trans (f2.ts rfl)) t2 ?_
        have e : [T.2.2.2].map (enc p) = [T.2.2.2 * 16 + 0] := by
          rw [List.map_cons, List.map_nil]
          unfold enc
          rw [if_pos t7, if_neg (by omega), show T.2.2.2 * 16 + 0 = T.2.2.2 * 16 by omega]
        rw [e]
        exact s1.tx hr f2 rfl
      · rw [if_neg c1] at h'
        refine ite_i (fun c2 => ?_) (fun c2 => ?_)
        · rw [if_pos c2] at h'
          have tl := t6 (by omega)
          exact c_name hb hr hru hp hO (by omega) h'
        · rw [if_neg c2] at h'
          refine ite_i (fun c3 => ?_) (fun c3 => ?_)
          · rw [if_pos c3] at h'
            (try simp (disch := omega) only [w_id])
            refine ite_i (fun c => ?_) (fun c => ?_)
            · rw [if_pos (by omega)] at h'
              refine c_nx hb hO.2.1 hO.1 hO.2.2.1 (fun ξ1 f1 t1 => ?_)
              have O1 := hO.nx hr hb f1 t1
              have kk := (nx_ok hb hO.2.1).2
              refine FolC.bind (ih 5 (o + 1) (by omega) (by decide) (by omega) (by omega) D' (by omega)).cast (hg 5 (o + 1) _ (by omega) (by omega) (by omega) O1.2.1) hr O1 (by omega) (f1.ts rfl) h' (fun f0 q0 ξ kfr kf ka kq => ?_) (fun x ξ px O fr g => ?_)
              · rw [if_neg (by decide)]; exact kf ξ (FrP.refl _ _) ka kq
              · rw [if_pos rfl]
                exact c_end hb hr (by decide) O fr g
            · rw [if_neg (by omega)] at h'
              exact c_fail (by decide) hb.1 hO.2.1 hO.2.2.1 (fun ξ f a k => h' ξ (f.tx rfl) a k)
          · rw [if_neg c3] at h'
            exact c_fail (by decide) hb.1 hO.2.1 hO.2.2.1 (fun ξ f a k => h' ξ (f.tx rfl) a k)
