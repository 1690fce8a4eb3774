/-! COMPOSING: what comes of rows, pure -/
def hasA (l : List Ln) (n : Nat) : Bool := l.any fun x => decide (x.1.natAbs = n)
def mstA (l : List Ln) (n : Nat) : Bool := l.any fun x => decide (x.1.natAbs = n ∧ x.2.1 = 1)
def sgnA (l : List Ln) (v : Int) : Bool := l.any fun x => decide (x.1 = v)
def cnt : List (List Ln) → Nat → Nat
  | [], _ => 0
  | l :: R, n => (if hasA l n = true then 1 else 0) + cnt R n
def sayA (R : List (List Ln)) (v : Int) : Bool := R.any fun l => sgnA l v
def musA (R : List (List Ln)) (n : Nat) : Bool := R.any fun l => mstA l n
theorem cnt_s (R : List (List Ln)) (l : List Ln) (n : Nat) : cnt (R ++ [l]) n = cnt R n + (if hasA l n = true then 1 else 0) := by
  induction R with
  | nil => show (if hasA l n = true then 1 else 0) + 0 = 0 + _; omega
  | cons a R ih =>
    show (if hasA a n = true then 1 else 0) + cnt (R ++ [l]) n = (if hasA a n = true then 1 else 0) + cnt R n + _
    rw [ih]
    omega
theorem cnt_le (R : List (List Ln)) (n : Nat) : cnt R n ≤ R.length := by
  induction R with
  | nil => exact Nat.le_refl _
  | cons a R ih =>
    show (if hasA a n = true then 1 else 0) + cnt R n ≤ R.length + 1
    split <;> omega
theorem hasA_0 {l : List Ln} (hw : WfL l) {n : Nat} (h : n < 1 ∨ 60 < n) : hasA l n = false := by
  unfold hasA
  rw [List.any_eq_false]
  intro x hx
  have := hw.2.1 x hx
  simp only [decide_eq_true_eq]
  omega
theorem mstA_0 {l : List Ln} (hw : WfL l) {n : Nat} (h : n < 1 ∨ 60 < n) : mstA l n = false := by
  unfold mstA
  rw [List.any_eq_false]
  intro x hx
  have := hw.2.1 x hx
  simp only [decide_eq_true_eq]
  omega
def WfR' (R : List (List Ln)) : Prop := R.length ≤ 8 ∧ ∀ l ∈ R, WfL l
theorem cnt_0 : ∀ {R : List (List Ln)}, (∀ l ∈ R, WfL l) → ∀ {n : Nat}, n < 1 ∨ 60 < n → cnt R n = 0
  | [], _, _, _ => rfl
  | l :: R, hw, n, h => by
    show (if hasA l n = true then 1 else 0) + cnt R n = 0
    rw [hasA_0 (hw l (List.mem_cons_self ..)) h, cnt_0 (fun k hk => hw k (List.mem_cons_of_mem _ hk)) h]
    rfl
theorem musA_0 {R : List (List Ln)} (hw : ∀ l ∈ R, WfL l) {n : Nat} (h : n < 1 ∨ 60 < n) : musA R n = false := by
  unfold musA
  rw [List.any_eq_false]
  intro l hl
  rw [mstA_0 (hw l hl) h]
  decide
theorem cnt_pos {R : List (List Ln)} {n : Nat} : 0 < cnt R n ↔ ∃ l ∈ R, hasA l n = true := by
  induction R with
  | nil => exact ⟨fun h => absurd h (by show ¬ 0 < 0; omega), fun h => by obtain ⟨l, hl, -⟩ := h; cases hl⟩
  | cons a R ih =>
    show 0 < (if hasA a n = true then 1 else 0) + cnt R n ↔ _
    constructor
    · intro h
      by_cases c : hasA a n = true
      · exact ⟨a, List.mem_cons_self .., c⟩
      · rw [if_neg c] at h
        obtain ⟨l, hl, k⟩ := ih.mp (by omega)
        exact ⟨l, List.mem_cons_of_mem _ hl, k⟩
    · rintro ⟨l, hl, k⟩
      rcases List.mem_cons.mp hl with rfl | hl
      · rw [if_pos k]; omega
      · have := ih.mpr ⟨l, hl, k⟩; omega
-- the next that is taken
def btN (c : Nat → Nat) (t : Nat → Bool) : Nat → Nat
  | 0 => 0
  | k + 1 => if t (k + 1) = false ∧ 0 < c (k + 1) ∧ (btN c t k = 0 ∨ c (btN c t k) < c (k + 1)) then k + 1 else btN c t k
def Bst (c : Nat → Nat) (t : Nat → Bool) (m b : Nat) : Prop := 1 ≤ b ∧ b ≤ m ∧ t b = false ∧ 0 < c b ∧ ∀ n : Nat, 1 ≤ n → n ≤ m → t n = false → c n ≤ c b ∧ (c n = c b → b ≤ n)
theorem btN_or (c : Nat → Nat) (t : Nat → Bool) : ∀ m : Nat, (btN c t m = 0 ∧ ∀ n : Nat, 1 ≤ n → n ≤ m → t n = false → c n = 0) ∨ Bst c t m (btN c t m)
  | 0 => Or.inl ⟨rfl, fun n h1 h2 => by omega⟩
  | m + 1 => by
    unfold btN
    by_cases q : t (m + 1) = false ∧ 0 < c (m + 1) ∧ (btN c t m = 0 ∨ c (btN c t m) < c (m + 1))
    · rw [if_pos q]
      obtain ⟨q1, q2, q3⟩ := q
      refine Or.inr ⟨by omega, Nat.le_refl _, q1, q2, fun n h1 h2 h3 => ?_⟩
      by_cases e : n = m + 1
      · rw [e]; exact ⟨Nat.le_refl _, fun _ => Nat.le_refl _⟩
      · rcases btN_or c t m with ⟨b1, b2⟩ | ⟨b1, b2, b3, b4, b5⟩
        · have := b2 n h1 (by omega) h3
          exact ⟨by omega, fun z => by omega⟩
        · have := b5 n h1 (by omega) h3
          rcases q3 with q3 | q3
          · omega
          · exact ⟨by omega, fun z => by omega⟩
    · rw [if_neg q]
      rcases btN_or c t m with ⟨b1, b2⟩ | ⟨b1, b2, b3, b4, b5⟩
      · refine Or.inl ⟨b1, fun n h1 h2 h3 => ?_⟩
        by_cases e : n = m + 1
        · subst e
          by_cases z : c (m + 1) = 0
          · exact z
          · exact absurd ⟨h3, by omega, Or.inl b1⟩ q
        · exact b2 n h1 (by omega) h3
      · refine Or.inr ⟨b1, by omega, b3, b4, fun n h1 h2 h3 => ?_⟩
        by_cases e : n = m + 1
        · subst e
          by_cases z : c (btN c t m) < c (m + 1)
          · exact absurd ⟨h3, by omega, Or.inr z⟩ q
          · exact ⟨by omega, fun _ => by omega⟩
        · exact b5 n h1 (by omega) h3
theorem btN_eq {c : Nat → Nat} {t : Nat → Bool} {m b : Nat} (h : Bst c t m b) : btN c t m = b := by
  obtain ⟨h1, h2, h3, h4, h5⟩ := h
  rcases btN_or c t m with ⟨b1, b2⟩ | ⟨b1, b2, b3, b4, b5⟩
  · have := b2 b h1 h2 h3; omega
  · have p := b5 b h1 h2 h3
    have q := h5 _ b1 b2 b3
    have e : c b = c (btN c t m) := by omega
    have x1 := p.2 e
    have x2 := q.2 e.symm
    omega
def kpN (c : Nat → Nat) : Nat → (Nat → Bool) → Nat → Bool
  | 0, t => t
  | r + 1, t => if btN c t 60 = 0 then t else kpN c r (fun n => t n || decide (n = btN c t 60))
theorem kpN_0 {c : Nat → Nat} {t : Nat → Bool} (h : btN c t 60 = 0) : ∀ r : Nat, kpN c r t = t
  | 0 => rfl
  | r + 1 => by unfold kpN; rw [if_pos h]
theorem kpN_s {c : Nat → Nat} {t : Nat → Bool} {b : Nat} (h : Bst c t 60 b) (r : Nat) : kpN c (r + 1) t = kpN c r (fun n => t n || decide (n = b)) := by
  have e := btN_eq h
  show (if btN c t 60 = 0 then t else kpN c r (fun n => t n || decide (n = btN c t 60))) = _
  rw [e, if_neg (by have := h.1; omega)]
theorem kpN_mono {c : Nat → Nat} : ∀ (r : Nat) (t : Nat → Bool) (n : Nat), t n = true → kpN c r t n = true
  | 0, _, _, h => h
  | r + 1, t, n, h => by
    unfold kpN
    split
    · exact h
    · exact kpN_mono r _ n (by rw [h]; rfl)
theorem kpN_z {c : Nat → Nat} : ∀ (r : Nat) (t : Nat → Bool), (∀ n : Nat, n < 1 ∨ 60 < n → t n = false) → ∀ n : Nat, n < 1 ∨ 60 < n → kpN c r t n = false
  | 0, _, h, n, hn => h n hn
  | r + 1, t, h, n, hn => by
    unfold kpN
    split
    · exact h n hn
    · rename_i q
      refine kpN_z r _ (fun k hk => ?_) n hn
      rcases btN_or c t 60 with ⟨b1, -⟩ | ⟨b1, b2, -⟩
      · exact absurd b1 q
      · rw [h k hk, Bool.false_or, decide_eq_false (by omega)]
theorem kpN_c {c : Nat → Nat} : ∀ (r : Nat) (t : Nat → Bool), (∀ n : Nat, t n = true → 0 < c n) → ∀ n : Nat, kpN c r t n = true → 0 < c n
  | 0, _, h, n, hn => h n hn
  | r + 1, t, h, n, hn => by
    unfold kpN at hn
    split at hn
    · exact h n hn
    · rename_i q
      refine kpN_c r _ (fun k hk => ?_) n hn
      rcases btN_or c t 60 with ⟨b1, -⟩ | ⟨b1, b2, b3, b4, -⟩
      · exact absurd b1 q
      · rcases Bool.or_eq_true _ _ ▸ hk with z | z
        · exact h k z
        · rw [of_decide_eq_true z]; exact b4
-- sums over 1 to k
def sm (f : Nat → Nat) : Nat → Nat
  | 0 => 0
  | k + 1 => sm f k + f (k + 1)
theorem sm_add (f g : Nat → Nat) : ∀ k : Nat, sm (fun n => f n + g n) k = sm f k + sm g k
  | 0 => rfl
  | k + 1 => by
    show sm (fun n => f n + g n) k + (f (k + 1) + g (k + 1)) = sm f k + f (k + 1) + (sm g k + g (k + 1))
    rw [sm_add f g k]
    omega
theorem sm_ext {f g : Nat → Nat} : ∀ {k : Nat}, (∀ n : Nat, 1 ≤ n → n ≤ k → f n = g n) → sm f k = sm g k
  | 0, _ => rfl
  | k + 1, h => by
    show sm f k + f (k + 1) = sm g k + g (k + 1)
    rw [sm_ext (fun n h1 h2 => h n h1 (by omega)), h (k + 1) (by omega) (Nat.le_refl _)]
theorem sm_le {f g : Nat → Nat} : ∀ {k : Nat}, (∀ n : Nat, 1 ≤ n → n ≤ k → f n ≤ g n) → sm f k ≤ sm g k
  | 0, _ => Nat.le_refl _
  | k + 1, h => by
    have a := sm_le (f := f) (g := g) (k := k) (fun n h1 h2 => h n h1 (by omega))
    have b := h (k + 1) (by omega) (Nat.le_refl _)
    show sm f k + f (k + 1) ≤ sm g k + g (k + 1)
    omega
theorem sm_bd {f : Nat → Nat} {m : Nat} : ∀ {k : Nat}, (∀ n : Nat, 1 ≤ n → n ≤ k → f n ≤ m) → sm f k ≤ m * k
  | 0, _ => Nat.le_refl _
  | k + 1, h => by
    have a := sm_bd (f := f) (m := m) (k := k) (fun n h1 h2 => h n h1 (by omega))
    have b := h (k + 1) (by omega) (Nat.le_refl _)
    show sm f k + f (k + 1) ≤ m * (k + 1)
    rw [Nat.mul_succ]
    omega
theorem pc_sm {x : Int64} {p : Nat → Bool} (h : ∀ n : Nat, n < 64 → btl x n = p n) (hz : ∀ n : Nat, n < 1 ∨ 60 < n → p n = false) : pcN x 64 = sm (fun n => (p n).toNat) 60 := by
  have e : ∀ k : Nat, k ≤ 60 → pcN x (k + 1) = sm (fun n => (p n).toNat) k := by
    intro k
    induction k with
    | zero =>
      intro _
      show 0 + (btl x 0).toNat = 0
      rw [h 0 (by omega), hz 0 (by omega)]
      rfl
    | succ k ih =>
      intro hk
      show pcN x (k + 1) + (btl x (k + 1)).toNat = sm (fun n => (p n).toNat) k + (p (k + 1)).toNat
      rw [ih (by omega), h (k + 1) (by omega)]
  show pcN x 61 + (btl x 61).toNat + (btl x 62).toNat + (btl x 63).toNat = _
  rw [e 60 (Nat.le_refl _), h 61 (by omega), h 62 (by omega), h 63 (by omega), hz 61 (by omega), hz 62 (by omega), hz 63 (by omega)]
  rfl
-- the least bit of a long
theorem btl_neg (x : Int64) {n : Nat} (hn : n < 64) : btl (-x) n = (btl x n ^^ decide (∃ j : Nat, j < n ∧ btl x j = true)) := by
  unfold btl
  rw [Int64.toBitVec_neg, BitVec.getLsbD_neg]
  simp [hn]
theorem least_bit {x : Int64} {b : Nat} (hb : b < 64) (h : btl x b = true) (hl : ∀ j : Nat, j < b → btl x j = false) {n : Nat} (hn : n < 64) : btl (x &&& (-x)) n = decide (n = b) := by
  rw [btl_and, btl_neg x hn]
  by_cases c : n < b
  · rw [hl n c, decide_eq_false (show ¬ n = b by omega)]; rfl
  · by_cases e : n = b
    · subst e
      rw [h, decide_eq_true rfl, decide_eq_false (fun z => by obtain ⟨j, hj, k⟩ := z; rw [hl j hj] at k; cases k)]
      rfl
    · rw [decide_eq_false e, decide_eq_true (show ∃ j : Nat, j < n ∧ btl x j = true from ⟨b, by omega, h⟩)]
      cases btl x n <;> rfl
theorem some_bit {x : Int64} (h : ¬ x = 0) : ∃ b : Nat, b < 64 ∧ btl x b = true ∧ ∀ j : Nat, j < b → btl x j = false := by
  have f : ∀ m : Nat, (∀ j : Nat, j < m → btl x j = false) ∨ ∃ b : Nat, b < m ∧ btl x b = true ∧ ∀ j : Nat, j < b → btl x j = false := by
    intro m
    induction m with
    | zero => exact Or.inl (fun j hj => by omega)
    | succ m ih =>
      rcases ih with ih | ⟨b, b1, b2, b3⟩
      · by_cases c : btl x m = true
        · exact Or.inr ⟨m, by omega, c, ih⟩
        · refine Or.inl (fun j hj => ?_)
          by_cases e : j = m
          · rw [e]; exact bool_f c
          · exact ih j (by omega)
      · exact Or.inr ⟨b, by omega, b2, b3⟩
  rcases f 64 with g | g
  · exact absurd (btl_ext (fun n hn => by rw [g n hn, btl_0])) h
  · exact g
def mcN (R : List (List Ln)) : Nat := sm (fun n => (musA R n).toNat) 60
/-- nothing contrary, and room for the must ones -/
def okC (len : Nat) (R : List (List Ln)) : Prop := (∀ n : Nat, 1 ≤ n → n ≤ 60 → ¬ (sayA R (n : Int) = true ∧ sayA R (-(n : Int)) = true)) ∧ mcN R ≤ len
def kpC (len : Nat) (R : List (List Ln)) : Nat → Bool := kpN (cnt R) (len - mcN R) (musA R)
def loC (len : Nat) (R : List (List Ln)) : Nat := sm (fun n => if kpC len R n = true then 0 else cnt R n) 60
theorem loC_e (len : Nat) (R : List (List Ln)) : sm (cnt R) 60 = loC len R + sm (fun n => if kpC len R n = true then cnt R n else 0) 60 := by
  unfold loC
  rw [← sm_add]
  refine sm_ext (fun n _ _ => ?_)
  split <;> omega
theorem tot_le {R : List (List Ln)} (h : R.length ≤ 8) : sm (cnt R) 60 ≤ 480 := sm_bd (m := 8) (fun n _ _ => by have := cnt_le R n; omega)
