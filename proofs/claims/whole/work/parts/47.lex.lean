/-! TOKENS: a pure reader, and both sides' -/
abbrev Tk : Type := Nat × Nat × Nat × Int
abbrev Bts : Type := Nat → Int
def skp (b : Bts) (n : Nat) : Nat → Nat → Nat
  | 0, p => p
  | f + 1, p => if p < n ∧ (b p = 32 ∨ b p = 10) then skp b n f (p + 1) else p
abbrev isLt (x : Int) : Prop := 97 ≤ x ∧ x ≤ 122
abbrev isFg (x : Int) : Prop := 48 ≤ x ∧ x ≤ 57
def wrd (b : Bts) (n : Nat) : Nat → Nat → Nat
  | 0, p => p
  | f + 1, p => if p < n ∧ isLt (b p) then wrd b n f (p + 1) else p
def nuv (b : Bts) (s p : Nat) (v : Int) : Int := if p - s < 4 then v * 10 + b p - 48 else v
def num (b : Bts) (n s : Nat) : Nat → Nat → Int → Nat × Int
  | 0, p, v => (p, v)
  | f + 1, p, v => if p < n ∧ isFg (b p) then num b n s f (p + 1) (nuv b s p v) else (p, v)
def tokA (b : Bts) (n s : Nat) : Tk :=
  if n ≤ s then (0, s, s, 0)
  else if isLt (b s) then (1, s, wrd b n 300 (s + 1), 0)
  else if isFg (b s) then ((if 4 < (num b n s 300 (s + 1) (b s - 48)).1 - s then 4 else 2), s, (num b n s 300 (s + 1) (b s - 48)).1, (num b n s 300 (s + 1) (b s - 48)).2)
  else (3, s, s + 1, b s)
def tok (b : Bts) (n p : Nat) : Tk := tokA b n (skp b n 300 p)
def BtO (b : Bts) (n : Nat) : Prop := n ≤ 300 ∧ ∀ j : Nat, j < n → 0 ≤ b j ∧ b j ≤ 255
def BtC (b : Bts) (n : Nat) (ν : Mem) : Prop := rI ν 2281 0 = (n : Int) ∧ ∀ j : Nat, j < n → rI ν 11 (j : Int) = b j
def BtM (b : Bts) (n : Nat) (ν : Mem) : Prop := rI ν 15512 0 = (n : Int) ∧ ∀ j : Nat, j < n → ub (rI ν 150 (j : Int)) = b j ∧ -128 ≤ rI ν 150 (j : Int) ∧ rI ν 150 (j : Int) < 128
def TkC (ν : Mem) (T : Tk) : Prop := rI ν 2282 0 = (T.1 : Int) ∧ rI ν 2283 0 = (T.2.1 : Int) ∧ rI ν 2284 0 = (T.2.2.1 : Int) ∧ rI ν 2285 0 = T.2.2.2
def ks (k : Nat) : Int := if k = 0 then 0 else if k = 1 then 3 else if k = 2 then 2 else if k = 3 then 4 else 1
def TkM (ν : Mem) (T : Tk) : Prop := rI ν 15515 0 = ks T.1 ∧ rI ν 15514 0 = (T.2.1 : Int) ∧ rI ν 15513 0 = (T.2.2.1 : Int) ∧ (T.1 = 2 → rI ν 15516 0 = T.2.2.2) ∧ (T.1 = 3 → ub (rI ν 15516 0) = T.2.2.2 ∧ -128 ≤ rI ν 15516 0 ∧ rI ν 15516 0 < 128)
def TkO (n : Nat) (T : Tk) : Prop := T.1 ≤ 4 ∧ T.2.1 ≤ n ∧ T.2.2.1 ≤ n ∧ T.2.1 ≤ T.2.2.1 ∧ (T.1 = 0 → T.2.1 = n) ∧ (¬ T.1 = 0 → T.2.1 < T.2.2.1) ∧ 0 ≤ T.2.2.2 ∧ T.2.2.2 ≤ 9999
theorem skp_s (b : Bts) (n f p : Nat) : skp b n (f + 1) p = if p < n ∧ (b p = 32 ∨ b p = 10) then skp b n f (p + 1) else p := rfl
theorem wrd_s (b : Bts) (n f p : Nat) : wrd b n (f + 1) p = if p < n ∧ isLt (b p) then wrd b n f (p + 1) else p := rfl
theorem num_s (b : Bts) (n s f p : Nat) (v : Int) : num b n s (f + 1) p v = if p < n ∧ isFg (b p) then num b n s f (p + 1) (nuv b s p v) else (p, v) := rfl
theorem skp_rng (b : Bts) (n : Nat) : ∀ f p : Nat, p ≤ n → p ≤ skp b n f p ∧ skp b n f p ≤ n
  | 0, p, h => ⟨Nat.le_refl _, h⟩
  | f + 1, p, h => by
    unfold skp
    by_cases c : p < n ∧ (b p = 32 ∨ b p = 10)
    · rw [if_pos c]
      have := skp_rng b n f (p + 1) (by omega)
      omega
    · rw [if_neg c]; omega
theorem wrd_rng (b : Bts) (n : Nat) : ∀ f p : Nat, p ≤ n → p ≤ wrd b n f p ∧ wrd b n f p ≤ n
  | 0, p, h => ⟨Nat.le_refl _, h⟩
  | f + 1, p, h => by
    unfold wrd
    by_cases c : p < n ∧ isLt (b p)
    · rw [if_pos c]
      have := wrd_rng b n f (p + 1) (by omega)
      omega
    · rw [if_neg c]; omega
def Vb (d : Nat) (v : Int) : Prop := 0 ≤ v ∧ (d = 0 → v ≤ 0) ∧ (d ≤ 1 → v ≤ 9) ∧ (d ≤ 2 → v ≤ 99) ∧ (d ≤ 3 → v ≤ 999) ∧ v ≤ 9999
theorem Vb_s {b : Bts} {s p : Nat} {v : Int} (h : Vb (p - s) v) (hs : s ≤ p) (hf : isFg (b p)) : Vb (p + 1 - s) (nuv b s p v) := by
  obtain ⟨f0, f1⟩ := hf
  unfold nuv
  unfold Vb at *
  split <;> omega
theorem num_rng (b : Bts) (n s : Nat) : ∀ (f p : Nat) (v : Int), s ≤ p → p ≤ n → Vb (p - s) v → p ≤ (num b n s f p v).1 ∧ (num b n s f p v).1 ≤ n ∧ Vb ((num b n s f p v).1 - s) (num b n s f p v).2
  | 0, p, v, _, h, hv => ⟨Nat.le_refl _, h, hv⟩
  | f + 1, p, v, hs, h, hv => by
    unfold num
    by_cases c : p < n ∧ isFg (b p)
    · rw [if_pos c]
      have := num_rng b n s f (p + 1) (nuv b s p v) (by omega) (by omega) (Vb_s hv hs c.2)
      exact ⟨by omega, this.2⟩
    · rw [if_neg c]; exact ⟨Nat.le_refl _, h, hv⟩
theorem Vb_1 {b : Bts} {s : Nat} (hf : isFg (b s)) : Vb (s + 1 - s) (b s - 48) := by
  obtain ⟨f0, f1⟩ := hf
  unfold Vb
  omega
theorem tokA_ok {b : Bts} {n s : Nat} (hb : BtO b n) (hs : s ≤ n) : TkO n (tokA b n s) ∧ (tokA b n s).2.1 = s := by
  unfold tokA
  by_cases c0 : n ≤ s
  · rw [if_pos c0]
    refine ⟨⟨by simp, hs, hs, Nat.le_refl _, fun _ => by show s = n; omega, fun h => absurd rfl h, by simp, by simp⟩, rfl⟩
  · rw [if_neg c0]
    by_cases c1 : isLt (b s)
    · rw [if_pos c1]
      have := wrd_rng b n 300 (s + 1) (by omega)
      exact ⟨⟨by simp, hs, this.2, by show s ≤ wrd b n 300 (s + 1); omega, fun h => absurd h (by simp), fun _ => by show s < wrd b n 300 (s + 1); omega, by simp, by simp⟩, rfl⟩
    · rw [if_neg c1]
      by_cases c2 : isFg (b s)
      · rw [if_pos c2]
        have g := num_rng b n s 300 (s + 1) (b s - 48) (by omega) (by omega) (Vb_1 c2)
        generalize num b n s 300 (s + 1) (b s - 48) = r at *
        obtain ⟨g1, g2, g3⟩ := g
        refine ⟨⟨by show (if 4 < r.1 - s then 4 else 2) ≤ 4; split <;> omega, hs, g2, by show s ≤ r.1; omega, fun h => ?_, fun _ => by show s < r.1; omega, g3.1, g3.2.2.2.2.2⟩, rfl⟩
        have h' : (if 4 < r.1 - s then 4 else 2) = 0 := h
        split at h' <;> omega
      · rw [if_neg c2]
        have := hb.2 s (by omega)
        exact ⟨⟨by show 3 ≤ 4; omega, hs, by show s + 1 ≤ n; omega, by show s ≤ s + 1; omega, fun h => absurd h (by simp), fun _ => by show s < s + 1; omega, this.1, by show b s ≤ 9999; omega⟩, rfl⟩
theorem tok_ok {b : Bts} {n p : Nat} (hb : BtO b n) (hp : p ≤ n) : TkO n (tok b n p) ∧ p ≤ (tok b n p).2.1 := by
  have h := skp_rng b n 300 p hp
  have k := tokA_ok hb h.2
  unfold tok
  exact ⟨k.1, by rw [k.2]; exact h.1⟩
def txL : List Nat := [2282, 2283, 2284, 2285]
theorem BtC.fr {L : List Nat} {b : Bts} {n : Nat} {ν ξ : Mem} (h : BtC b n ν) (f : Fr L ν ξ) (hL : (lel L 2281 || lel L 11) = false) : BtC b n ξ := by
  simp only [Bool.or_eq_false_iff] at hL
  exact ⟨by rw [f.rdI hL.1]; exact h.1, fun j hj => by rw [f.rdI hL.2]; exact h.2 j hj⟩
theorem BtM.fr {L : List Nat} {b : Bts} {n : Nat} {ν ξ : Mem} (h : BtM b n ν) (f : Fr L ν ξ) (hL : (lel L 15512 || lel L 150) = false) : BtM b n ξ := by
  simp only [Bool.or_eq_false_iff] at hL
  exact ⟨by rw [f.rdI hL.1]; exact h.1, fun j hj => by rw [f.rdI hL.2]; exact h.2 j hj⟩
theorem TkC.fr {L : List Nat} {T : Tk} {ν ξ : Mem} (h : TkC ν T) (f : Fr L ν ξ) (hL : (lel L 2282 || lel L 2283 || lel L 2284 || lel L 2285) = false) : TkC ξ T := by
  simp only [Bool.or_eq_false_iff] at hL
  unfold TkC at *
  rw [f.rdI hL.1.1.1, f.rdI hL.1.1.2, f.rdI hL.1.2, f.rdI hL.2]
  exact h
theorem TkM.fr {L : List Nat} {T : Tk} {ν ξ : Mem} (h : TkM ν T) (f : Fr L ν ξ) (hL : (lel L 15515 || lel L 15514 || lel L 15513 || lel L 15516) = false) : TkM ξ T := by
  simp only [Bool.or_eq_false_iff] at hL
  unfold TkM at *
  rw [f.rdI hL.1.1.1, f.rdI hL.1.1.2, f.rdI hL.1.2, f.rdI hL.2]
  exact h
-- one cell written
theorem fr1 (ν : Mem) (c : Nat) (j v : Int) : Fr [c] ν (sI ν c j v) := (FrP.refl _ ν).wI (by simp [lel])
theorem rI_eq (ν : Mem) (c : Nat) (j : Int) {v : Int} (h : Rg v) : rI (sI ν c j v) c j = v := by rw [rI_sI, if_pos ⟨rfl, rfl⟩, w_id h.1 h.2]
theorem rI_ne (ν : Mem) {c q : Nat} (j v i : Int) (h : (q == c) = false) : rI (sI ν c j v) q i = rI ν q i := by
  rw [rI_sI, if_neg (fun e => by rw [e.1, beq_self_eq_true] at h; cases h)]
-- the class
theorem at_byte {b : Bts} {n : Nat} {ν : Mem} (hb : BtO b n) (h : BtC b n ν) {p : Nat} (hp : p < n) : at' ν 11 300 (p : Int) = b p := by
  have := hb.1
  rw [at_in (by omega) (by omega) (by decide)]
  exact h.2 p hp
theorem c_skip {b : Bts} {n : Nat} (hb : BtO b n) {K : Mem → Prop} : ∀ (f : Nat) (ν : Mem) (p : Nat), BtC b n ν → p ≤ n → n ≤ p + f → rI ν 2283 0 = (p : Int) → (∀ ξ : Mem, Fr [2283] ν ξ → rI ξ 2283 0 = ((skp b n f p : Nat) : Int) → K ξ) → l_Tape_next_8 K (f + 1) ν
  | 0, ν, p, hB, hp, hf, hs, h => by
    have hn := hb.1
    unfold l_Tape_next_8
    rw [hB.1, hs]
    (try simp (disch := omega) only [w_id])
    rw [if_neg (by omega)]
    exact h ν (FrP.refl _ _) hs
  | f + 1, ν, p, hB, hp, hf, hs, h => by
    have hn := hb.1
    unfold l_Tape_next_8
    rw [hB.1, hs]
    (try simp (disch := omega) only [w_id])
    refine ite_i (fun q => ?_) (fun q => ?_)
    · have q' : p < n := by omega
      rw [at_byte hb hB q']
      have hr := hb.2 p q'
      (try simp (disch := omega) only [w_id])
      have go : (b p = 32 ∨ b p = 10) → ∀ μ3 : Mem, μ3 = sI ν 2283 0 ((p : Int) + 1) → l_Tape_next_8 K (f + 1) μ3 := fun c μ3 e3 => by
        subst e3
        refine c_skip hb f _ (p + 1) (hB.fr (fr1 _ _ _ _) rfl) (by omega) (by omega) (by rw [rI_eq _ _ _ ⟨by omega, by omega⟩]; omega) (fun ξ fr e => h ξ ((fr1 _ _ _ _).trans fr) ?_)
        rw [e, skp_s, if_pos ⟨q', c⟩]
      refine ite_i (fun c => go (Or.inl c)) (fun c => ite_i (fun c2 => go (Or.inr c2)) (fun c2 => h ν (FrP.refl _ _) ?_))
      rw [hs, skp_s, if_neg (fun z => by rcases z.2 with z | z; exact c z; exact c2 z)]
    · refine h ν (FrP.refl _ _) ?_
      rw [hs, skp_s, if_neg (fun z => by have := z.1; omega)]
theorem letter_e {x : Int} (h0 : -1000 ≤ x) (h1 : x ≤ 1000) : v_Tape_isLetter x = decide (isLt x) := by
  unfold v_Tape_isLetter
  simp (disch := omega) only [w_id]
  by_cases c : x < 97
  · rw [if_pos c, decide_eq_false (fun z => by have := z.1; omega)]
  · rw [if_neg c]
    by_cases c2 : 122 < x
    · rw [if_pos c2, decide_eq_false (fun z => by have := z.2; omega)]
    · rw [if_neg c2, decide_eq_true ⟨by omega, by omega⟩]
theorem figure_e {x : Int} (h0 : -1000 ≤ x) (h1 : x ≤ 1000) : v_Tape_isFigure x = decide (isFg x) := by
  unfold v_Tape_isFigure
  simp (disch := omega) only [w_id]
  by_cases c : x < 48
  · rw [if_pos c, decide_eq_false (fun z => by have := z.1; omega)]
  · rw [if_neg c]
    by_cases c2 : 57 < x
    · rw [if_pos c2, decide_eq_false (fun z => by have := z.2; omega)]
    · rw [if_neg c2, decide_eq_true ⟨by omega, by omega⟩]
theorem small_e {x : Int} (h0 : -1000 ≤ x) (h1 : x ≤ 1000) : v_M_isSmall x = decide (isLt x) := letter_e h0 h1
theorem digit_e {x : Int} (h0 : -1000 ≤ x) (h1 : x ≤ 1000) : v_M_isDigit x = decide (isFg x) := figure_e h0 h1
theorem sortOf_e {x : Int} (h0 : 0 ≤ x) (h1 : x ≤ 255) : v_Tape_sortOf x = if isLt x then 1 else if isFg x then 2 else 3 := by
  unfold v_Tape_sortOf
  simp (disch := omega) only [w_id]
  rw [if_neg (by omega)]
  by_cases c : x < 97
  · rw [if_pos c, if_neg (fun z : isLt x => by have := z.1; omega)]
    by_cases c2 : x < 48
    · rw [if_pos c2, if_neg (fun z : isFg x => by have := z.1; omega)]
    · rw [if_neg c2]
      by_cases c3 : 57 < x
      · rw [if_pos c3, if_neg (fun z : isFg x => by have := z.2; omega)]
      · rw [if_neg c3, if_pos (show isFg x from ⟨by omega, by omega⟩)]
  · rw [if_neg c]
    by_cases c2 : 122 < x
    · rw [if_pos c2, if_neg (fun z : isLt x => by have := z.2; omega), if_neg (show ¬ x < 48 by omega), if_pos (show 57 < x by omega), if_neg (fun z : isFg x => by have := z.2; omega)]
    · rw [if_neg c2, if_pos (show isLt x from ⟨by omega, by omega⟩)]
theorem c_word {b : Bts} {n : Nat} (hb : BtO b n) {s : Nat} {v : Int} {K : Mem → Prop} : ∀ (f : Nat) (ν : Mem) (a : Nat), BtC b n ν → a ≤ n → n ≤ a + f → TkC ν (1, s, a, v) → (∀ ξ : Mem, Fr [2284] ν ξ → TkC ξ (1, s, wrd b n f a, v) → K ξ) → l_Tape_next_150 K (f + 1) ν
  | 0, ν, a, hB, ha, hf, ht, h => by
    have hn := hb.1
    have t1 : rI ν 2282 0 = 1 := ht.1
    have t3 : rI ν 2284 0 = (a : Int) := ht.2.2.1
    unfold l_Tape_next_150
    rw [hB.1, t1, t3]
    (try simp (disch := omega) only [w_id])
    rw [if_pos (by trivial), if_neg (by omega)]
    exact h ν (FrP.refl _ _) ht
  | f + 1, ν, a, hB, ha, hf, ht, h => by
    have hn := hb.1
    have t1 : rI ν 2282 0 = 1 := ht.1
    have t3 : rI ν 2284 0 = (a : Int) := ht.2.2.1
    unfold l_Tape_next_150
    rw [hB.1, t1, t3]
    (try simp (disch := omega) only [w_id])
    rw [if_pos (by trivial)]
    rw [wrd_s] at h
    have no : ¬ (a < n ∧ isLt (b a)) → K ν := fun c => by
      rw [if_neg c] at h
      exact h ν (FrP.refl _ _) ht
    refine ite_i (fun q => ?_) (fun q => no (fun z => by have := z.1; omega))
    have q' : a < n := by omega
    have hr := hb.2 a q'
    rw [at_byte hb hB q', letter_e (by omega) (by omega)]
    simp only [decide_eq_true_eq]
    refine ite_i (fun c => ?_) (fun c => no (fun z => c z.2))
    rw [if_pos ⟨q', c⟩] at h
    intro μ3 e3
    subst e3
    refine c_word hb (s := s) (v := v) f _ (a + 1) (hB.fr (fr1 _ _ _ _) rfl) (by omega) (by omega) ⟨?_, ?_, ?_, ?_⟩ (fun ξ fr e => h ξ ((fr1 _ _ _ _).trans fr) e)
    · rw [rI_ne _ _ _ _ rfl]; exact ht.1
    · rw [rI_ne _ _ _ _ rfl]; exact ht.2.1
    · rw [rI_eq _ _ _ ⟨by omega, by omega⟩]
      show (a : Int) + 1 = ((a + 1 : Nat) : Int)
      omega
    · rw [rI_ne _ _ _ _ rfl]; exact ht.2.2.2
theorem c_num {b : Bts} {n : Nat} (hb : BtO b n) {s : Nat} {K : Mem → Prop} : ∀ (f : Nat) (ν : Mem) (a : Nat) (v : Int), BtC b n ν → s ≤ a → a ≤ n → n ≤ a + f → Vb (a - s) v → TkC ν (2, s, a, v) → (∀ ξ : Mem, Fr [2284, 2285] ν ξ → TkC ξ (2, s, (num b n s f a v).1, (num b n s f a v).2) → K ξ) → l_Tape_next_199 K (f + 1) ν
  | 0, ν, a, v, hB, hs, ha, hf, hv, ht, h => by
    have hn := hb.1
    have t1 : rI ν 2282 0 = 2 := ht.1
    have t3 : rI ν 2284 0 = (a : Int) := ht.2.2.1
    unfold l_Tape_next_199
    rw [hB.1, t1, t3]
    (try simp (disch := omega) only [w_id])
    rw [if_pos (by trivial), if_neg (by omega)]
    exact h ν (FrP.refl _ _) ht
  | f + 1, ν, a, v, hB, hs, ha, hf, hv, ht, h => by
    have hn := hb.1
    have t1 : rI ν 2282 0 = 2 := ht.1
    have t2 : rI ν 2283 0 = (s : Int) := ht.2.1
    have t3 : rI ν 2284 0 = (a : Int) := ht.2.2.1
    have t4 : rI ν 2285 0 = v := ht.2.2.2
    unfold l_Tape_next_199
    rw [hB.1, t1, t3, t2, t4]
    (try simp (disch := omega) only [w_id])
    rw [if_pos (by trivial)]
    rw [num_s] at h
    have no : ¬ (a < n ∧ isFg (b a)) → K ν := fun c => by
      rw [if_neg c] at h
      exact h ν (FrP.refl _ _) ht
    refine ite_i (fun q => ?_) (fun q => no (fun z => by have := z.1; omega))
    have q' : a < n := by omega
    have hr := hb.2 a q'
    rw [at_byte hb hB q', figure_e (by omega) (by omega)]
    simp only [decide_eq_true_eq]
    refine ite_i (fun c => ?_) (fun c => no (fun z => c z.2))
    rw [if_pos ⟨q', c⟩] at h
    have hv' := Vb_s (b := b) hv hs c
    intro x ex
    have exn : x = nuv b s a v := by
      rw [ex]
      unfold nuv
      by_cases c4 : a - s < 4
      · rw [if_pos c4, if_pos (by omega)]
      · rw [if_neg c4, if_neg (by omega)]
    have hx : 0 ≤ x ∧ x ≤ 9999 := by rw [exn]; exact ⟨hv'.1, hv'.2.2.2.2.2⟩
    clear ex
    intro μ3 e3 μ4 e4
    subst e3
    rw [rI_ne _ _ _ _ rfl, t3] at e4
    subst e4
    have fr2 : Fr [2284, 2285] ν (sI (sI ν 2285 0 x) 2284 0 ((a : Int) + 1)) := ((FrP.refl _ ν).wI (by decide)).wI (by decide)
    refine c_num hb (s := s) f _ (a + 1) (nuv b s a v) (hB.fr fr2 rfl) (by omega) (by omega) (by omega) hv' ⟨?_, ?_, ?_, ?_⟩ (fun ξ fr e => h ξ (fr2.trans fr) e)
    · rw [rI_ne _ _ _ _ rfl, rI_ne _ _ _ _ rfl]; exact ht.1
    · rw [rI_ne _ _ _ _ rfl, rI_ne _ _ _ _ rfl]; exact ht.2.1
    · rw [rI_eq _ _ _ ⟨by omega, by omega⟩]
      show (a : Int) + 1 = ((a + 1 : Nat) : Int)
      omega
    · rw [rI_ne _ _ _ _ rfl, rI_eq _ _ _ ⟨by omega, by omega⟩]
      exact exn
theorem wrd_1 {b : Bts} {n s : Nat} (f : Nat) (hs : s < n) (h : isLt (b s)) : wrd b n (f + 1) s = wrd b n f (s + 1) := by
  show (if s < n ∧ isLt (b s) then wrd b n f (s + 1) else s) = _
  rw [if_pos ⟨hs, h⟩]
theorem num_1 {b : Bts} {n s : Nat} (f : Nat) (hs : s < n) (h : isFg (b s)) : num b n s (f + 1) s 0 = num b n s f (s + 1) (b s - 48) := by
  show (if s < n ∧ isFg (b s) then num b n s f (s + 1) (nuv b s s 0) else (s, 0)) = _
  rw [if_pos ⟨hs, h⟩]
  unfold nuv
  rw [if_pos (by omega)]
  congr 1
  omega
/-- behind a token's kind: no word, no number -/
theorem c_199no {T : Tk} {ν : Mem} {K : Mem → Prop} (ht : TkC ν T) (h4 : T.1 ≤ 4) (h2 : ¬ T.1 = 2) (h : K ν) : b_Tape_next_199 K ν := by
  have t1 := ht.1
  generalize T.1 = k at t1 h4 h2
  refine ⟨1, ?_⟩
  unfold l_Tape_next_199
  rw [t1]
  (try simp (disch := omega) only [w_id])
  rw [if_neg (by omega), if_neg (by omega)]
  exact h
theorem c_150no {T : Tk} {ν : Mem} {K : Mem → Prop} (ht : TkC ν T) (h4 : T.1 ≤ 4) (h1 : ¬ T.1 = 1) (h : b_Tape_next_199 K ν) : b_Tape_next_150 K ν := by
  have t1 := ht.1
  generalize T.1 = k at t1 h4 h1
  refine ⟨1, ?_⟩
  unfold l_Tape_next_150
  rw [t1]
  (try simp (disch := omega) only [w_id])
  rw [if_neg (by omega)]
  exact h
theorem c_next {b : Bts} {n : Nat} (hb : BtO b n) {ν : Mem} (hB : BtC b n ν) {p : Nat} (hp : p ≤ n) (ha : rI ν 2284 0 = (p : Int)) {K : Mem → Prop} (h : ∀ ξ : Mem, Fr txL ν ξ → TkC ξ (tok b n p) → K ξ) : f_Tape_next ν K := by
  have hn := hb.1
  unfold f_Tape_next
  intro μ1 e1
  rw [ha] at e1
  subst e1
  refine ⟨301, c_skip hb 300 _ p (hB.fr (fr1 _ _ _ _) rfl) hp (by omega) (rI_eq _ _ _ ⟨by omega, by omega⟩) (fun ξ fr es => ?_)⟩
  have f0 : Fr txL ν ξ := Fr.mono (show Fr [2283] ν ξ from (fr1 ν 2283 0 (p : Int)).trans fr) rfl
  have hs := skp_rng b n 300 p hp
  have et : tok b n p = tokA b n (skp b n 300 p) := rfl
  rw [et] at h
  generalize skp b n 300 p = s at *
  have hB' := hB.fr f0 rfl
  intro μ6 e6
  rw [es] at e6
  subst e6
  rw [rI_ne _ _ _ _ rfl, rI_ne _ _ _ _ rfl, es, hB'.1]
  have f1 : Fr txL ν (sI ξ 2284 0 (s : Int)) := f0.wI (by decide)
  intro x ex
  rw [w_id (by omega) (by omega), w_id (by omega) (by omega)] at ex
  intro μ7 e7 y ey μ8 e8
  by_cases c0 : n ≤ s
  · rw [if_neg (by omega)] at ex
    subst ex
    have k0 : v_Tape_sortOf (-1) = 0 := rfl
    rw [k0] at e7
    subst e7
    rw [rI_eq _ _ _ ⟨by decide, by decide⟩, if_neg (by decide)] at ey
    subst ey
    have t8 : TkC μ8 (0, s, s, 0) := by
      subst e8
      refine ⟨?_, ?_, ?_, ?_⟩
      · rw [rI_ne _ _ _ _ rfl, rI_eq _ _ _ ⟨by decide, by decide⟩]; rfl
      · rw [rI_ne _ _ _ _ rfl, rI_ne _ _ _ _ rfl, rI_ne _ _ _ _ rfl]; exact es
      · rw [rI_ne _ _ _ _ rfl, rI_ne _ _ _ _ rfl, rI_eq _ _ _ ⟨by omega, by omega⟩]
      · rw [rI_eq _ _ _ ⟨by decide, by decide⟩]
    have f8 : Fr txL ν μ8 := by subst e8; exact (f1.wI (by decide)).wI (by decide)
    have k8 : rI μ8 2282 0 = 0 := t8.1
    rw [k8, if_neg (by decide)]
    refine c_150no t8 (by simp) (by simp) (c_199no t8 (by simp) (by simp) (h _ f8 ?_))
    unfold tokA
    rw [if_pos c0]
    exact t8
  · have c0' : s < n := by omega
    rw [if_pos (by omega)] at ex
    have hr := hb.2 s c0'
    have eb : x = b s := by rw [ex]; exact at_byte hb (hB.fr f1 rfl) c0'
    subst eb
    rw [sortOf_e hr.1 hr.2] at e7
    by_cases c1 : isLt (b s)
    · rw [if_pos c1] at e7
      subst e7
      rw [rI_eq _ _ _ ⟨by decide, by decide⟩, if_neg (by decide)] at ey
      subst ey
      have t8 : TkC μ8 (1, s, s, 0) := by
        subst e8
        refine ⟨?_, ?_, ?_, ?_⟩
        · rw [rI_ne _ _ _ _ rfl, rI_eq _ _ _ ⟨by decide, by decide⟩]; rfl
        · rw [rI_ne _ _ _ _ rfl, rI_ne _ _ _ _ rfl, rI_ne _ _ _ _ rfl]; exact es
        · rw [rI_ne _ _ _ _ rfl, rI_ne _ _ _ _ rfl, rI_eq _ _ _ ⟨by omega, by omega⟩]
        · rw [rI_eq _ _ _ ⟨by decide, by decide⟩]
      have f8 : Fr txL ν μ8 := by subst e8; exact (f1.wI (by decide)).wI (by decide)
      have k8 : rI μ8 2282 0 = 1 := t8.1
      rw [k8, if_neg (by decide)]
      refine ⟨302, c_word hb 301 _ s (hB.fr f8 rfl) (by omega) (by omega) t8 (fun ξ2 fr2 t2 => c_199no t2 (by simp) (by simp) (h _ (f8.trans (fr2.mono rfl)) ?_))⟩
      unfold tokA
      rw [if_neg c0, if_pos c1, ← wrd_1 300 c0' c1]
      exact t2
    · rw [if_neg c1] at e7
      by_cases c2 : isFg (b s)
      · rw [if_pos c2] at e7
        subst e7
        rw [rI_eq _ _ _ ⟨by decide, by decide⟩, if_neg (by decide)] at ey
        subst ey
        have t8 : TkC μ8 (2, s, s, 0) := by
          subst e8
          refine ⟨?_, ?_, ?_, ?_⟩
          · rw [rI_ne _ _ _ _ rfl, rI_eq _ _ _ ⟨by decide, by decide⟩]; rfl
          · rw [rI_ne _ _ _ _ rfl, rI_ne _ _ _ _ rfl, rI_ne _ _ _ _ rfl]; exact es
          · rw [rI_ne _ _ _ _ rfl, rI_ne _ _ _ _ rfl, rI_eq _ _ _ ⟨by omega, by omega⟩]
          · rw [rI_eq _ _ _ ⟨by decide, by decide⟩]
        have f8 : Fr txL ν μ8 := by subst e8; exact (f1.wI (by decide)).wI (by decide)
        have k8 : rI μ8 2282 0 = 2 := t8.1
        rw [k8, if_neg (by decide)]
        refine c_150no t8 (by simp) (by simp) ⟨302, c_num hb 301 _ s 0 (hB.fr f8 rfl) (Nat.le_refl _) (by omega) (by omega) ⟨by decide, fun _ => by decide, fun _ => by decide, fun _ => by decide, fun _ => by decide, by decide⟩ t8 (fun ξ2 fr2 t2 => ?_)⟩
        have g := num_rng b n s 300 (s + 1) (b s - 48) (by omega) (by omega) (Vb_1 c2)
        rw [num_1 300 c0' c2] at t2
        unfold tokA at h
        rw [if_neg c0, if_neg c1, if_pos c2] at h
        generalize num b n s 300 (s + 1) (b s - 48) = r at *
        obtain ⟨g1, g2, g3⟩ := g
        have f9 : Fr txL ν ξ2 := f8.trans (fr2.mono rfl)
        have k1 : rI ξ2 2282 0 = 2 := t2.1
        have k2 : rI ξ2 2283 0 = (s : Int) := t2.2.1
        have k3 : rI ξ2 2284 0 = (r.1 : Int) := t2.2.2.1
        rw [k1, k2, k3]
        (try simp (disch := omega) only [w_id])
        rw [if_pos (by trivial)]
        refine ite_i (fun q => ?_) (fun q => ?_)
        · intro μ9 e9
          subst e9
          refine h _ (f9.wI (by decide)) ⟨?_, ?_, ?_, ?_⟩
          · rw [rI_eq _ _ _ ⟨by decide, by decide⟩, if_pos (by omega)]; rfl
          · rw [rI_ne _ _ _ _ rfl]; exact t2.2.1
          · rw [rI_ne _ _ _ _ rfl]; exact t2.2.2.1
          · rw [rI_ne _ _ _ _ rfl]; exact t2.2.2.2
        · refine h _ f9 ⟨?_, t2.2.1, t2.2.2.1, t2.2.2.2⟩
          rw [if_neg (by omega)]
          exact t2.1
      · rw [if_neg c2] at e7
        subst e7
        rw [rI_eq _ _ _ ⟨by decide, by decide⟩, if_pos (by decide), rI_ne _ _ _ _ rfl, rI_ne _ _ _ _ rfl, es, at_byte hb ((hB.fr f1 rfl).fr (fr1 _ _ _ _) rfl) c0'] at ey
        subst ey
        rw [show rI μ8 2282 0 = 3 by rw [e8, rI_ne _ _ _ _ rfl, rI_eq _ _ _ ⟨by decide, by decide⟩], w_id (by decide) (by decide), if_pos (by decide)]
        have f8 : Fr txL ν μ8 := by subst e8; exact (f1.wI (by decide)).wI (by decide)
        have ea : rI μ8 2284 0 = (s : Int) := by rw [e8, rI_ne _ _ _ _ rfl, rI_ne _ _ _ _ rfl, rI_eq _ _ _ ⟨by omega, by omega⟩]
        intro μ9 e9
        rw [ea] at e9
        have t9 : TkC μ9 (3, s, s + 1, b s) := by
          subst e9
          refine ⟨?_, ?_, ?_, ?_⟩
          · rw [rI_ne _ _ _ _ rfl, e8, rI_ne _ _ _ _ rfl, rI_eq _ _ _ ⟨by decide, by decide⟩]; rfl
          · rw [rI_ne _ _ _ _ rfl, e8, rI_ne _ _ _ _ rfl, rI_ne _ _ _ _ rfl, rI_ne _ _ _ _ rfl]; exact es
          · rw [rI_eq _ _ _ ⟨by omega, by omega⟩]
            show (s : Int) + 1 = ((s + 1 : Nat) : Int)
            omega
          · rw [rI_ne _ _ _ _ rfl, e8, rI_eq _ _ _ ⟨by omega, by omega⟩]
        have f9 : Fr txL ν μ9 := by subst e9; exact f8.wI (by decide)
        refine c_150no t9 (by show 3 ≤ 4; omega) (by show ¬ 3 = 1; omega) (c_199no t9 (by show 3 ≤ 4; omega) (by show ¬ 3 = 2; omega) (h _ f9 ?_))
        unfold tokA
        rw [if_neg c0, if_neg c1, if_neg c2]
        exact t9
