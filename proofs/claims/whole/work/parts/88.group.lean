/-! GROUPING, pure -/
def selN (C : List Int) (s : Nat) : Nat → List Int
  | 0 => []
  | i + 1 => if s.testBit i = true then selN C s i ++ [gI C i] else selN C s i
def mbN (C : List Int) (s : Nat) : Nat → Nat
  | 0 => 0
  | i + 1 => if s.testBit i = true then mbN C s i ||| 2 ^ (gI C i).toNat else mbN C s i
def grB (p : List Nat) (v : Nat) : Nat → Nat
  | 0 => 0
  | i + 1 => if p.getD i 0 = v then grB p v i ||| 2 ^ i else grB p v i
theorem or_pow_bit (v i a : Nat) : (v ||| 2 ^ i).testBit a = (v.testBit a || decide (i = a)) := by
  rw [Nat.testBit_or, Nat.testBit_two_pow]
theorem grB_bit (p : List Nat) (v : Nat) : ∀ (k i : Nat), (grB p v k).testBit i = decide (i < k ∧ p.getD i 0 = v)
  | 0, i => by
    show (0 : Nat).testBit i = _
    rw [Nat.zero_testBit, decide_eq_false (fun z => by omega)]
  | k + 1, i => by
    have ih := grB_bit p v k i
    have e : grB p v (k + 1) = if p.getD k 0 = v then grB p v k ||| 2 ^ k else grB p v k := rfl
    rw [e]
    by_cases c : p.getD k 0 = v
    · rw [if_pos c, or_pow_bit, ih]
      by_cases d : k = i
      · rw [decide_eq_true d, Bool.or_true, decide_eq_true ⟨by omega, by rw [← d]; exact c⟩]
      · rw [decide_eq_false d, Bool.or_false, decide_eq_decide]
        exact ⟨fun z => ⟨by omega, z.2⟩, fun z => ⟨by omega, z.2⟩⟩
    · rw [if_neg c, ih, decide_eq_decide]
      refine ⟨fun z => ⟨by omega, z.2⟩, fun z => ⟨?_, z.2⟩⟩
      by_cases d : i = k
      · rw [d] at z; exact absurd z.2 c
      · omega
theorem grB_lt (p : List Nat) (v : Nat) : ∀ k : Nat, grB p v k < 2 ^ k
  | 0 => by show 0 < 1; omega
  | k + 1 => by
    have ih := grB_lt p v k
    have e : grB p v (k + 1) = if p.getD k 0 = v then grB p v k ||| 2 ^ k else grB p v k := rfl
    have p2 : (2 : Nat) ^ k < 2 ^ (k + 1) := Nat.pow_lt_pow_right (by decide) (by omega)
    rw [e]
    split
    · exact Nat.or_lt_two_pow (by omega) p2
    · omega
theorem getD_appN {l : List Nat} {x i : Nat} : (l ++ [x]).getD i 0 = if i < l.length then l.getD i 0 else if i = l.length then x else 0 := by
  by_cases c : i < l.length
  · rw [if_pos c, List.getD_eq_getElem?_getD, List.getElem?_append_left c, List.getD_eq_getElem?_getD]
  · rw [if_neg c, List.getD_eq_getElem?_getD, List.getElem?_append_right (by omega)]
    by_cases d : i = l.length
    · rw [if_pos d, d, Nat.sub_self]; rfl
    · rw [if_neg d]
      obtain ⟨k, hk⟩ : ∃ k : Nat, i - l.length = k + 1 := ⟨i - l.length - 1, by omega⟩
      rw [hk]
      rfl
theorem grB_app (p : List Nat) (x v : Nat) : ∀ k : Nat, k ≤ p.length → grB (p ++ [x]) v k = grB p v k
  | 0, _ => rfl
  | k + 1, h => by
    have e1 : grB (p ++ [x]) v (k + 1) = if (p ++ [x]).getD k 0 = v then grB (p ++ [x]) v k ||| 2 ^ k else grB (p ++ [x]) v k := rfl
    have e2 : grB p v (k + 1) = if p.getD k 0 = v then grB p v k ||| 2 ^ k else grB p v k := rfl
    have e3 : (p ++ [x]).getD k 0 = p.getD k 0 := by rw [getD_appN, if_pos (by omega)]
    rw [e1, e2, grB_app p x v k (by omega), e3]
theorem grB_s (p : List Nat) (x v : Nat) : grB (p ++ [x]) v (p ++ [x]).length = if x = v then grB p v p.length ||| 2 ^ p.length else grB p v p.length := by
  rw [List.length_append]
  show grB (p ++ [x]) v (p.length + 1) = _
  have e1 : grB (p ++ [x]) v (p.length + 1) = if (p ++ [x]).getD p.length 0 = v then grB (p ++ [x]) v p.length ||| 2 ^ p.length else grB (p ++ [x]) v p.length := rfl
  have e3 : (p ++ [x]).getD p.length 0 = x := by rw [getD_appN, if_neg (by omega), if_pos rfl]
  rw [e1, grB_app p x v p.length (Nat.le_refl _), e3]
theorem selN_mem {C : List Int} {s : Nat} : ∀ {k : Nat} {x : Int}, x ∈ selN C s k ↔ ∃ i : Nat, i < k ∧ s.testBit i = true ∧ x = gI C i
  | 0, x => ⟨fun h => (by cases h), fun h => (by obtain ⟨i, hi, -⟩ := h; omega)⟩
  | k + 1, x => by
    have ih := selN_mem (C := C) (s := s) (k := k) (x := x)
    have e : selN C s (k + 1) = if s.testBit k = true then selN C s k ++ [gI C k] else selN C s k := rfl
    rw [e]
    by_cases c : s.testBit k = true
    · rw [if_pos c, List.mem_append, ih, List.mem_singleton]
      constructor
      · rintro (⟨i, h1, h2⟩ | h)
        · exact ⟨i, by omega, h2⟩
        · exact ⟨k, by omega, c, h⟩
      · rintro ⟨i, h1, h2, h3⟩
        by_cases d : i = k
        · exact Or.inr (by rw [← d]; exact h3)
        · exact Or.inl ⟨i, by omega, h2, h3⟩
    · rw [if_neg c, ih]
      constructor
      · rintro ⟨i, h1, h2⟩
        exact ⟨i, by omega, h2⟩
      · rintro ⟨i, h1, h2, h3⟩
        by_cases d : i = k
        · rw [d] at h2; exact absurd h2 c
        · exact ⟨i, by omega, h2, h3⟩
theorem mbN_bit {C : List Int} {s : Nat} : ∀ {k j : Nat}, (mbN C s k).testBit j = true ↔ ∃ i : Nat, i < k ∧ s.testBit i = true ∧ j = (gI C i).toNat
  | 0, j => by
    show (0 : Nat).testBit j = true ↔ _
    rw [Nat.zero_testBit]
    exact ⟨fun h => (by cases h), fun h => (by obtain ⟨i, hi, -⟩ := h; omega)⟩
  | k + 1, j => by
    have ih := mbN_bit (C := C) (s := s) (k := k) (j := j)
    have e : mbN C s (k + 1) = if s.testBit k = true then mbN C s k ||| 2 ^ (gI C k).toNat else mbN C s k := rfl
    rw [e]
    by_cases c : s.testBit k = true
    · rw [if_pos c, or_pow_bit, Bool.or_eq_true, ih, decide_eq_true_eq]
      constructor
      · rintro (⟨i, h1, h2⟩ | h)
        · exact ⟨i, by omega, h2⟩
        · exact ⟨k, by omega, c, h.symm⟩
      · rintro ⟨i, h1, h2, h3⟩
        by_cases d : i = k
        · exact Or.inr (by rw [← d]; exact h3.symm)
        · exact Or.inl ⟨i, by omega, h2, h3⟩
    · rw [if_neg c, ih]
      constructor
      · rintro ⟨i, h1, h2⟩
        exact ⟨i, by omega, h2⟩
      · rintro ⟨i, h1, h2, h3⟩
        by_cases d : i = k
        · rw [d] at h2; exact absurd h2 c
        · exact ⟨i, by omega, h2, h3⟩
theorem mbN_lt {C : List Int} {s : Nat} (hC : ∀ i : Nat, i < C.length → 0 ≤ gI C i ∧ gI C i < 24) : ∀ k : Nat, k ≤ C.length → mbN C s k < 2 ^ 24
  | 0, _ => by show 0 < _; decide
  | k + 1, h => by
    have ih := mbN_lt (s := s) hC k (by omega)
    have hk := hC k (by omega)
    have e : mbN C s (k + 1) = if s.testBit k = true then mbN C s k ||| 2 ^ (gI C k).toNat else mbN C s k := rfl
    rw [e]
    split
    · exact Nat.or_lt_two_pow ih (Nat.pow_lt_pow_right (by decide) (by omega))
    · exact ih
/-- two lists that grow and have the same members -/
def Srt (l : List Int) : Prop := l.Pairwise (fun a b : Int => a < b)
theorem srt_ext : ∀ {l r : List Int}, Srt l → Srt r → (∀ x : Int, x ∈ l ↔ x ∈ r) → l = r
  | [], [], _, _, _ => rfl
  | [], b :: r, _, _, h => absurd ((h b).mpr (List.mem_cons_self ..)) (by simp)
  | a :: l, [], _, _, h => absurd ((h a).mp (List.mem_cons_self ..)) (by simp)
  | a :: l, b :: r, hl, hr, h => by
    have hl' := List.pairwise_cons.mp hl
    have hr' := List.pairwise_cons.mp hr
    have eab : a = b := by
      rcases List.mem_cons.mp ((h a).mp (List.mem_cons_self ..)) with e | e
      · exact e
      · rcases List.mem_cons.mp ((h b).mpr (List.mem_cons_self ..)) with f | f
        · exact f.symm
        · have := hr'.1 a e
          have := hl'.1 b f
          omega
    subst eab
    have et : l = r := srt_ext hl'.2 hr'.2 (fun x => by
      constructor
      · intro hx
        have lt := hl'.1 x hx
        rcases List.mem_cons.mp ((h x).mp (List.mem_cons_of_mem _ hx)) with e | e
        · omega
        · exact e
      · intro hx
        have lt := hr'.1 x hx
        rcases List.mem_cons.mp ((h x).mpr (List.mem_cons_of_mem _ hx)) with e | e
        · omega
        · exact e)
    rw [et]
theorem srt_app {l : List Int} {x : Int} (h : Srt l) (k : ∀ y ∈ l, y < x) : Srt (l ++ [x]) := by
  unfold Srt
  rw [List.pairwise_append]
  exact ⟨h, List.pairwise_singleton .., fun y hy z hz => by rw [List.mem_singleton.mp hz]; exact k y hy⟩
theorem chN_srt (a : Nat) : ∀ m : Nat, Srt (chN a m)
  | 0 => List.Pairwise.nil
  | m + 1 => by
    have ih := chN_srt a m
    unfold chN
    split
    · refine srt_app ih (fun y hy => ?_)
      obtain ⟨k, k1, k2, -⟩ := (chN_mem a m y).mp hy
      omega
    · exact ih
theorem srt_lt {C : List Int} (h : Srt C) {i j : Nat} (hij : i < j) (hj : j < C.length) : gI C i < gI C j := by
  unfold gI
  rw [List.getD_eq_getElem?_getD, List.getD_eq_getElem?_getD, List.getElem?_eq_getElem hj, List.getElem?_eq_getElem (by omega)]
  exact List.pairwise_iff_getElem.mp h i j (by omega) hj hij
theorem selN_srt {C : List Int} (h : Srt C) (s : Nat) : ∀ k : Nat, k ≤ C.length → Srt (selN C s k)
  | 0, _ => List.Pairwise.nil
  | k + 1, hk => by
    have ih := selN_srt h s k (by omega)
    unfold selN
    split
    · refine srt_app ih (fun y hy => ?_)
      obtain ⟨i, h1, h2, h3⟩ := selN_mem.mp hy
      rw [h3]
      exact srt_lt h h1 (by omega)
    · exact ih
theorem chN_mbN {C : List Int} (h : Srt C) (hC : ∀ i : Nat, i < C.length → 0 ≤ gI C i ∧ gI C i < 24) (s : Nat) : chN (mbN C s C.length) 24 = selN C s C.length := by
  refine srt_ext (chN_srt _ _) (selN_srt h s _ (Nat.le_refl _)) (fun x => ?_)
  rw [chN_mem, selN_mem]
  constructor
  · rintro ⟨k, k1, k2, k3⟩
    obtain ⟨i, i1, i2, i3⟩ := mbN_bit.mp k3
    exact ⟨i, i1, i2, by have := hC i i1; omega⟩
  · rintro ⟨i, i1, i2, i3⟩
    have := hC i i1
    exact ⟨(gI C i).toNat, by omega, by omega, mbN_bit.mpr ⟨i, i1, i2, rfl⟩⟩
theorem selN_or {C : List Int} {s k : Nat} (hs : s < 2 ^ k) : ∀ n : Nat, (n ≤ k → selN C (s ||| 2 ^ k) n = selN C s n) ∧ (k < n → selN C (s ||| 2 ^ k) n = selN C s n ++ [gI C k])
  | 0 => ⟨fun _ => rfl, fun h => by omega⟩
  | n + 1 => by
    obtain ⟨i1, i2⟩ := selN_or (C := C) hs n
    have e1 : selN C (s ||| 2 ^ k) (n + 1) = if (s ||| 2 ^ k).testBit n = true then selN C (s ||| 2 ^ k) n ++ [gI C n] else selN C (s ||| 2 ^ k) n := rfl
    have e2 : selN C s (n + 1) = if s.testBit n = true then selN C s n ++ [gI C n] else selN C s n := rfl
    have hi : ∀ j : Nat, k ≤ j → s.testBit j = false := fun j hj => Nat.testBit_lt_two_pow (Nat.lt_of_lt_of_le hs (Nat.pow_le_pow_right (by decide) hj))
    constructor
    · intro h
      rw [e1, e2, or_pow_bit, decide_eq_false (by omega), Bool.or_false, i1 (by omega)]
    · intro h
      rw [e1, e2, or_pow_bit]
      by_cases c : k = n
      · subst c
        rw [hi k (Nat.le_refl _), decide_eq_true rfl, Bool.or_true, if_pos rfl, if_neg (by decide), i1 (Nat.le_refl _)]
      · rw [hi n (by omega), decide_eq_false c, Bool.or_false, if_neg (by decide), if_neg (by decide)]
        exact i2 (by omega)
theorem okC_mono {L : Nat} {R : List (List Ln)} {r : List Ln} (h : okC L (R ++ [r])) : okC L R := by
  have ms : ∀ v : Int, sayA R v = true → sayA (R ++ [r]) v = true := fun v z => by
    unfold sayA at z ⊢
    rw [List.any_append, z, Bool.true_or]
  refine ⟨fun n n1 n2 q => h.1 n n1 n2 ⟨ms _ q.1, ms _ q.2⟩, Nat.le_trans ?_ h.2⟩
  refine sm_le (fun n _ _ => ?_)
  have : musA (R ++ [r]) n = (musA R n || mstA r n) := by
    unfold musA
    rw [List.any_append]
    simp
  rw [this]
  cases musA R n <;> cases mstA r n <;> decide
theorem okC_nil (L : Nat) : okC L [] := ⟨fun n _ _ q => (by cases q.1), by
  have : mcN [] = 0 := by decide
  omega⟩
def rwS (σ : Sg) (C : List Int) (s : Nat) : List (List Ln) := (selN C s C.length).map (rowOf σ)
noncomputable def lossI (σ : Sg) (C : List Int) (s : Nat) : Int := pick ((selN C s C.length).length = 1) 0 (pick (okC (lenI σ (Fo σ)).toNat (rwS σ C s)) ((loC (lenI σ (Fo σ)).toNat (rwS σ C s) : Nat) : Int) (-1))
theorem selN_len (C : List Int) (s : Nat) : ∀ k : Nat, (selN C s k).length ≤ k
  | 0 => Nat.le_refl _
  | k + 1 => by
    have ih := selN_len C s k
    unfold selN
    split
    · rw [List.length_append]; simp only [List.length_cons, List.length_nil]; omega
    · omega
theorem lossI_rng {σ : Sg} {C : List Int} (h8 : C.length ≤ 8) (s : Nat) : -1 ≤ lossI σ C s ∧ lossI σ C s ≤ 480 := by
  unfold lossI
  by_cases c : (selN C s C.length).length = 1
  · rw [pick_t c]; omega
  · rw [pick_f c]
    by_cases d : okC (lenI σ (Fo σ)).toNat (rwS σ C s)
    · rw [pick_t d]
      have l := selN_len C s C.length
      have t := tot_le (R := rwS σ C s) (by unfold rwS; rw [List.length_map]; omega)
      have e := loC_e (lenI σ (Fo σ)).toNat (rwS σ C s)
      omega
    · rw [pick_f d]; omega
theorem lossI_bad {σ : Sg} {C : List Int} {s k : Nat} (hs : s < 2 ^ k) (hk : k < C.length) (h : lossI σ C s = -1) : lossI σ C (s ||| 2 ^ k) = -1 := by
  unfold lossI at h
  by_cases c : (selN C s C.length).length = 1
  · rw [pick_t c] at h; omega
  · rw [pick_f c] at h
    by_cases d : okC (lenI σ (Fo σ)).toNat (rwS σ C s)
    · rw [pick_t d] at h; omega
    · have e := (selN_or (C := C) hs C.length).2 hk
      have ne : ¬ (selN C s C.length).length = 0 := fun z => by
        refine d ?_
        unfold rwS
        rw [List.length_eq_zero_iff.mp z]
        exact okC_nil _
      unfold lossI
      rw [pick_f (by rw [e, List.length_append]; simp only [List.length_cons, List.length_nil]; omega), pick_f (fun z => d ?_)]
      unfold rwS at z ⊢
      rw [e, List.map_append] at z
      exact okC_mono z
noncomputable def lsP (σ : Sg) (C : List Int) (p : List Nat) : Nat → Int
  | 0 => 0
  | k + 1 => if lsP σ C p k = -1 ∨ lossI σ C (grB p k p.length) = -1 then -1 else lsP σ C p k + lossI σ C (grB p k p.length)
theorem lsP_rng {σ : Sg} {C : List Int} (h8 : C.length ≤ 8) (p : List Nat) : ∀ k : Nat, -1 ≤ lsP σ C p k ∧ lsP σ C p k ≤ 480 * (k : Int)
  | 0 => by show (-1 : Int) ≤ 0 ∧ (0 : Int) ≤ 480 * ((0 : Nat) : Int); omega
  | k + 1 => by
    have ih := lsP_rng (σ := σ) h8 p k
    have r := lossI_rng (σ := σ) h8 (grB p k p.length)
    unfold lsP
    split <;> omega
theorem lsP_bad {σ : Sg} {C : List Int} {p : List Nat} {k : Nat} (h : lsP σ C p k = -1) : ∀ m : Nat, lsP σ C p (k + m) = -1
  | 0 => h
  | m + 1 => by
    have ih := lsP_bad h m
    show (if lsP σ C p (k + m) = -1 ∨ _ then (-1 : Int) else _) = -1
    rw [if_pos (Or.inl ih)]
theorem lsP_bad2 {σ : Sg} {C : List Int} {p : List Nat} {k g : Nat} (hk : k < g) (h : lossI σ C (grB p k p.length) = -1) : lsP σ C p g = -1 := by
  have e : lsP σ C p (k + 1) = -1 := by
    unfold lsP
    rw [if_pos (Or.inr h)]
  have := lsP_bad e (g - (k + 1))
  rw [show k + 1 + (g - (k + 1)) = g by omega] at this
  exact this
abbrev Gb : Type := Int × Nat × List Nat
noncomputable def updG (σ : Sg) (C : List Int) (most : Nat) (B : Gb) (p : List Nat) (g : Nat) : Gb :=
  if most < g ∨ lsP σ C p g = -1 then B else if B.1 = -1 ∨ lsP σ C p g < B.1 ∨ (lsP σ C p g = B.1 ∧ g < B.2.1) then (lsP σ C p g, g, p) else B
noncomputable def dfs (σ : Sg) (C : List Int) (most : Nat) : Nat → List Nat → Nat → Gb → Gb
  | 0, p, g, B => updG σ C most B p g
  | f + 1, p, g, B => (List.range (g + 1)).foldl (fun B v => dfs σ C most f (p ++ [v]) (if v = g then g + 1 else g) B) B
def deadG (σ : Sg) (C : List Int) (most : Nat) (p : List Nat) (g : Nat) : Prop := most < g ∨ ∃ v : Nat, v < g ∧ lossI σ C (grB p v p.length) = -1
theorem deadG_s {σ : Sg} {C : List Int} {most : Nat} {p : List Nat} {g v : Nat} (h : deadG σ C most p g) (hp : p.length < C.length) : deadG σ C most (p ++ [v]) (if v = g then g + 1 else g) := by
  have gg : g ≤ (if v = g then g + 1 else g) := by split <;> omega
  rcases h with h | ⟨u, hu, hl⟩
  · exact Or.inl (by omega)
  · refine Or.inr ⟨u, by omega, ?_⟩
    rw [grB_s]
    by_cases c : v = u
    · rw [if_pos c]
      exact lossI_bad (grB_lt _ _ _) hp hl
    · rw [if_neg c]; exact hl
theorem foldl_id {α β : Type} {f : β → α → β} : ∀ {l : List α} {b : β}, (∀ x ∈ l, f b x = b) → l.foldl f b = b
  | [], _, _ => rfl
  | x :: l, b, h => by
    rw [List.foldl_cons, h x (List.mem_cons_self ..)]
    exact foldl_id (fun y hy => h y (List.mem_cons_of_mem _ hy))
theorem dfs_dead {σ : Sg} {C : List Int} {most : Nat} : ∀ (f : Nat) (p : List Nat) (g : Nat) (B : Gb), p.length + f ≤ C.length → deadG σ C most p g → dfs σ C most f p g B = B
  | 0, p, g, B, hp, h => by
    show updG σ C most B p g = B
    unfold updG
    rcases h with h | ⟨u, hu, hl⟩
    · rw [if_pos (Or.inl h)]
    · rw [if_pos (Or.inr (lsP_bad2 hu hl))]
  | f + 1, p, g, B, hp, h => by
    show (List.range (g + 1)).foldl _ B = B
    exact foldl_id (fun v _ => dfs_dead f (p ++ [v]) _ B (by rw [List.length_append]; simp only [List.length_cons, List.length_nil]; omega) (deadG_s h (by omega)))
def GbW (n : Nat) (B : Gb) : Prop := B.1 = -1 ∨ (0 ≤ B.1 ∧ B.1 ≤ 4000 ∧ B.2.1 ≤ 8 ∧ B.2.2.length = n ∧ ∀ i : Nat, i < n → B.2.2.getD i 0 < B.2.1)
def PfW (p : List Nat) (g : Nat) : Prop := ∀ i : Nat, i < p.length → p.getD i 0 < g
theorem PfW.s {p : List Nat} {g v : Nat} (h : PfW p g) (hv : v ≤ g) : PfW (p ++ [v]) (if v = g then g + 1 else g) := fun i hi => by
  rw [List.length_append] at hi
  simp only [List.length_cons, List.length_nil] at hi
  rw [getD_appN]
  by_cases c : i < p.length
  · rw [if_pos c]
    have := h i c
    split <;> omega
  · rw [if_neg c, if_pos (by omega)]
    split <;> omega
theorem updG_w {σ : Sg} {C : List Int} {most : Nat} (h8 : C.length ≤ 8) (hm : most ≤ 8) {B : Gb} {p : List Nat} {g : Nat} (hp : p.length = C.length) (hw : PfW p g) (hB : GbW C.length B) : GbW C.length (updG σ C most B p g) := by
  have r := lsP_rng (σ := σ) h8 p g
  unfold updG
  split
  · exact hB
  · rename_i q
    split
    · refine Or.inr ⟨?_, ?_, ?_, hp, fun i hi => hw i (by omega)⟩
      · show 0 ≤ lsP σ C p g
        have : ¬ lsP σ C p g = -1 := fun z => q (Or.inr z)
        omega
      · show lsP σ C p g ≤ 4000
        have : ¬ most < g := fun z => q (Or.inl z)
        omega
      · show g ≤ 8
        have : ¬ most < g := fun z => q (Or.inl z)
        omega
    · exact hB
