/-! RULES OUT OF CLAUSES -/
theorem gL {A B : List Int} {k : Nat} : (A ++ B).getD (A.length + k) 0 = B.getD k 0 := by
  rw [List.getD_eq_getElem?_getD, List.getD_eq_getElem?_getD, List.getElem?_append_right (by omega), show A.length + k - A.length = k by omega]
theorem gLl {A B : List Int} {k : Nat} (h : k < A.length) : (A ++ B).getD k 0 = A.getD k 0 := by
  rw [List.getD_eq_getElem?_getD, List.getD_eq_getElem?_getD, List.getElem?_append_left h]
theorem codeL_at : ∀ (S : List Cl) (i k : Nat), i < S.length → k < (S.getD i dC).2.2.2.length → (codeL (S.take i)).length + (S.getD i dC).2.2.2.length ≤ (codeL S).length ∧ (codeL S).getD ((codeL (S.take i)).length + k) 0 = (S.getD i dC).2.2.2.getD k 0 ∧ (stepL S).getD ((codeL (S.take i)).length + k) 0 = enc (pkp (S.getD i dC).1) ((S.getD i dC).2.2.2.getD k 0)
  | [], i, k, h, _ => absurd h (by simp)
  | c :: S, 0, k, _, hk => by
    have hk' : k < c.2.2.2.length := hk
    have e1 : codeL (c :: S) = c.2.2.2 ++ codeL S := by unfold codeL; simp
    have e2 : stepL (c :: S) = c.2.2.2.map (enc (pkp c.1)) ++ stepL S := by unfold stepL; simp
    show (codeL ([] : List Cl)).length + c.2.2.2.length ≤ _ ∧ _ = c.2.2.2.getD k 0 ∧ _ = enc (pkp c.1) (c.2.2.2.getD k 0)
    rw [e1, e2, show (codeL ((c :: S).take 0)).length + k = k from Nat.zero_add k]
    refine ⟨?_, gLl hk', ?_⟩
    · rw [List.length_append]
      show 0 + c.2.2.2.length ≤ _
      omega
    · rw [gLl (by simp; exact hk'), List.getD_eq_getElem?_getD, List.getD_eq_getElem?_getD, List.getElem?_map, List.getElem?_eq_getElem hk']
      rfl
  | c :: S, i + 1, k, h, hk => by
    have h' : i < S.length := by simpa using h
    have ih := codeL_at S i k h' hk
    have e1 : ∀ L : List Cl, codeL (c :: L) = c.2.2.2 ++ codeL L := fun L => by unfold codeL; simp
    have e2 : stepL (c :: S) = c.2.2.2.map (enc (pkp c.1)) ++ stepL S := by unfold stepL; simp
    show (codeL (c :: S.take i)).length + (S.getD i dC).2.2.2.length ≤ _ ∧ (codeL (c :: S)).getD ((codeL (c :: S.take i)).length + k) 0 = (S.getD i dC).2.2.2.getD k 0 ∧ (stepL (c :: S)).getD ((codeL (c :: S.take i)).length + k) 0 = enc (pkp (S.getD i dC).1) ((S.getD i dC).2.2.2.getD k 0)
    rw [e1, e1, e2, List.length_append, List.length_append, Nat.add_assoc, Nat.add_assoc, gL]
    refine ⟨by omega, ih.2.1, ?_⟩
    have el : c.2.2.2.length = (c.2.2.2.map (enc (pkp c.1))).length := by simp
    rw [el, gL]
    exact ih.2.2
theorem lcN_S {σ : Sg} {N : Int} (hN : 0 ≤ N) {S : List Cl} (hk : ∀ i : Nat, i < S.length → σ 146 (15 * N + (i : Int)) = (S.getD i dC).1) (kd : Int) : ∀ k : Nat, k ≤ S.length → (-1 ≤ lcK S kd k) ∧ lcN σ N kd k = if lcK S kd k = -1 then -1 else 15 * N + lcK S kd k
  | 0, _ => ⟨by unfold lcK; omega, rfl⟩
  | k + 1, h => by
    have ih := lcN_S hN hk kd k (by omega)
    unfold lcN lcK
    rw [hk k (by omega)]
    by_cases c : (S.getD k dC).1 = kd
    · rw [if_pos c, if_pos c]
      refine ⟨by omega, ?_⟩
      rw [if_neg (by omega)]
    · rw [if_neg c, if_neg c]; exact ih
theorem lc_S {σ : Sg} {N : Int} (hN : 0 ≤ N) {S : List Cl} (hm : σ 145 N = (S.length : Int)) (hk : ∀ i : Nat, i < S.length → σ 146 (15 * N + (i : Int)) = (S.getD i dC).1) (kd : Int) : (lc σ N kd = -1 ∧ ∀ (g : Cl → Int) (d : Int), lst g d S kd = d) ∨ ∃ i : Nat, i < S.length ∧ lc σ N kd = 15 * N + (i : Int) ∧ (S.getD i dC).1 = kd ∧ ∀ (g : Cl → Int) (d : Int), lst g d S kd = g (S.getD i dC) := by
  have e : lc σ N kd = lcN σ N kd S.length := by
    unfold lc
    rw [if_neg (by omega), hm]
    rfl
  have k := (lcN_S hN hk kd S.length (Nat.le_refl _)).2
  rw [e, k]
  rcases lstK_or S kd S.length with ⟨h1, h2⟩ | ⟨i, h1, h2, h3, h4⟩
  · rw [if_pos h1]; exact Or.inl ⟨rfl, h2⟩
  · rw [if_neg (by omega), h2]; exact Or.inr ⟨i, h1, rfl, h3, h4⟩
theorem getD_memC {S : List Cl} {i : Nat} (h : i < S.length) : S.getD i dC ∈ S := by
  rw [List.getD_eq_getElem?_getD, List.getElem?_eq_getElem h]
  exact List.getElem_mem h
theorem getD_memI {S : List Int} {i : Nat} (h : i < S.length) : S.getD i 0 ∈ S := by
  rw [List.getD_eq_getElem?_getD, List.getElem?_eq_getElem h]
  exact List.getElem_mem h
theorem RuOK.cl {κ σ : Sg} {r : Nat} {N : Int} (hN : 0 ≤ N ∧ N < 10) {S : List Cl} (hS : ClsW S) (hlen : (codeL S).length ≤ 300)
    (c1 : ∀ j : Nat, j < (stepL S).length → κ (r + 1) (j : Int) = (stepL S).getD j 0) (c4 : κ (gid r 4) 0 = lst nuC 10 S 4) (c5 : κ (gid r 5) 0 = lst nuC 12 S 5) (c6 : κ (gid r 6) 0 = lst (fun _ => 1) 0 S 6)
    (cp : ∀ p : Int, 0 ≤ p → p < 5 → κ (r + 2) p = lst beC 0 S (kpa p) ∧ κ (r + 3) p = lst enC 0 S (kpa p)) (m1 : σ 145 N = (S.length : Int))
    (m2 : ∀ i : Nat, i < S.length → σ 146 (15 * N + (i : Int)) = (S.getD i dC).1 ∧ σ 147 (15 * N + (i : Int)) = (S.getD i dC).2.1 ∧ σ 148 (15 * N + (i : Int)) = beC (S.getD i dC) ∧ σ 149 (15 * N + (i : Int)) = enC (S.getD i dC))
    (m3 : ∀ j : Nat, j < (codeL S).length → σ 143 (320 * N + (j : Int)) = (codeL S).getD j 0) : RuOK κ σ r N := by
  obtain ⟨w1, w2, w3⟩ := hS
  have L := fun kd : Int => lc_S (σ := σ) hN.1 m1 (fun i hi => (m2 i hi).1) kd
  have l4 := L 4
  have l5 := L 5
  have l6 := L 6
  have rat : rateI σ N = lst nuC 10 S 4 ∧ 1 ≤ lst nuC 10 S 4 ∧ lst nuC 10 S 4 ≤ 999 := by
    unfold rateI
    rcases l4 with ⟨e1, e2⟩ | ⟨i, hi, e1, e2, e3⟩
    · rw [e1, if_pos rfl, e2]; exact ⟨rfl, by decide, by decide⟩
    · have wc := (w2 _ (getD_memC hi)).2.2.1 e2
      rw [e1, if_neg (by omega), e3, (m2 i hi).2.1]
      exact ⟨rfl, wc⟩
  have le : lenI σ N = lst nuC 12 S 5 ∧ 1 ≤ lst nuC 12 S 5 ∧ lst nuC 12 S 5 ≤ 12 := by
    unfold lenI
    rcases l5 with ⟨e1, e2⟩ | ⟨i, hi, e1, e2, e3⟩
    · rw [e1, if_pos rfl, e2]; exact ⟨rfl, by decide, by decide⟩
    · have wc := (w2 _ (getD_memC hi)).2.2.2.1 e2
      rw [e1, if_neg (by omega), e3, (m2 i hi).2.1]
      exact ⟨rfl, wc⟩
  have lr : ∀ kd : Int, -1 ≤ lc σ N kd ∧ lc σ N kd < 150 := fun kd => by
    rcases L kd with ⟨e1, -⟩ | ⟨i, hi, e1, -⟩
    · omega
    · omega
  unfold RuOK
  refine ⟨by rw [c4, rat.1], by rw [rat.1]; exact rat.2.1, by rw [rat.1]; exact rat.2.2, by rw [c5, le.1], by rw [le.1]; exact le.2.1, by rw [le.1]; exact le.2.2, ?_, (lr 4).1, (lr 4).2, (lr 5).1, (lr 5).2, fun _ => by omega, fun p p0 p1 => ?_⟩
  · rw [c6]
    rcases l6 with ⟨e1, e2⟩ | ⟨i, hi, e1, e2, e3⟩
    · rw [e2]; exact ⟨fun _ => e1, fun _ => rfl⟩
    · rw [e3]; exact ⟨fun z => absurd z (by decide), fun z => by omega⟩
  · obtain ⟨q1, q2⟩ := cp p p0 p1
    unfold PartOK
    rcases L (kpa p) with ⟨e1, e2⟩ | ⟨i, hi, e1, e2, e3⟩
    · refine Or.inl ⟨e1, ?_, ?_⟩
      · rw [q1, e2]
      · rw [q2, e2]
    · right
      obtain ⟨n1, n2, n3, n4⟩ := m2 i hi
      have bi := w3 i hi
      have cw := w2 _ (getD_memC hi)
      have pk : pkp (S.getD i dC).1 = p := by rw [e2, pkp_kpa ⟨p0, p1⟩]
      have wc := cw.2.2.2.2 (by rw [e2]; unfold kpa; split <;> omega)
      rw [pk] at wc
      rw [q1, q2, e3, e3, e1, n3, n4]
      have at' := fun k (hk : k < (S.getD i dC).2.2.2.length) => codeL_at S i k hi hk
      rw [pk] at at'
      have beE : beC (S.getD i dC) = ((codeL (S.take i)).length : Int) := by unfold beC; rw [bi]
      have enE : enC (S.getD i dC) = ((codeL (S.take i)).length : Int) + ((S.getD i dC).2.2.2.length : Int) := by unfold enC; rw [bi]
      have n3' : σ 148 (15 * N + (i : Int)) = ((codeL (S.take i)).length : Int) := n3.trans beE
      have n4' : σ 149 (15 * N + (i : Int)) = ((codeL (S.take i)).length : Int) + ((S.getD i dC).2.2.2.length : Int) := n4.trans enE
      rw [beE, enE]
      generalize hcode : (S.getD i dC).2.2.2 = code at *
      generalize hoff : (codeL (S.take i)).length = off at *
      have ne : 1 ≤ code.length := by
        cases code with
        | nil =>
          obtain ⟨-, v, hv, -⟩ := wc.2 (fun _ => 0) (fun _ => by unfold Bd; omega) [] (by decide)
          cases hv
        | cons a t => simp
      have tot := (at' 0 (by omega)).1
      have c15 : (15 * N + (i : Int)) / 15 = N := by omega
      have mc : mcode σ (15 * N + (i : Int)) = code := by
        unfold mcode
        rw [n3', n4', c15, show ((off : Int) + (code.length : Int) - (off : Int)).toNat = code.length by omega]
        refine List.ext_getElem (by simp) (fun k h1 h2 => ?_)
        have hk : k < code.length := h2
        rw [List.getElem_map, List.getElem_range]
        have s := m3 (off + k) (by omega)
        rw [show 320 * N + ((off + k : Nat) : Int) = 320 * N + (off : Int) + (k : Int) by omega] at s
        rw [s, (at' k hk).2.1, List.getD_eq_getElem?_getD, List.getElem?_eq_getElem hk]
        rfl
      refine ⟨by omega, by omega, by omega, by omega, by omega, by omega, by omega, by omega, fun k k0 k1 => ?_, ?_⟩
      · have ek : k = ((k.toNat : Nat) : Int) := by omega
        generalize k.toNat = kk at ek
        subst ek
        have hk : kk < code.length := by omega
        have a := at' kk hk
        have s := m3 (off + kk) (by omega)
        have t := c1 (off + kk) (by rw [stepL_len]; omega)
        rw [c15, show (off : Int) + (kk : Int) = ((off + kk : Nat) : Int) by omega, t, a.2.2, show 320 * N + (off : Int) + (kk : Int) = 320 * N + ((off + kk : Nat) : Int) by omega, s, a.2.1]
        exact CR_enc (wc.1 _ (getD_memI hk))
      · rw [mc]
        intro fx hf
        obtain ⟨a1, v, a2, a3, a4⟩ := wc.2 fx hf [] (by decide)
        exact ⟨a1, v, a2, a3, a4⟩
