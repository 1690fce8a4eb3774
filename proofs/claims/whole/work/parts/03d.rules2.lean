section Rules2
variable {l : Launch} {Γ : Gam} {own : String} {cc : ByteArray} {Y : Yt} {QQ : List Frame → Array Value → State → State → Prop} {g n ca sl : Nat} {μ : Mem} {pc : Nat} {lv : List (Nat × Value)} {st : List Value}
theorem fval_0 {z i k ty q : Nat} {μ : Mem} (ht : ty = 0) (hq : gid i k = q) : fval z μ i k ty = vi (rI μ q 0) := by subst ht; subst hq; rw [vi_rI]; rfl
theorem fval_1 {z i k ty q : Nat} {μ : Mem} (ht : ty = 1) (hq : gid i k = q) : fval z μ i k ty = vi (b2i (rB μ q 0)) := by subst ht; subst hq; rw [vi_rB]; rfl
theorem fval_2 {z i k ty q : Nat} {μ : Mem} (ht : ty = 2) (hq : gid i k = q) : fval z μ i k ty = vl (rL μ q 0) := by subst ht; subst hq; rfl
theorem fval_3 {z i k ty q j : Nat} {μ : Mem} (ht : ty = 3) (hq : gid i k = q) (hj : μ.2.2 q 0 = some j) : fval z μ i k ty = .ref (z + j) := by subst ht; subst hq; show va_rf _ = _; rw [hj]; rfl
/-- what a field is: class, number, names -/
def FF (ci k : Nat) (C : String) (nm ds : String) (ty : Nat) (fin : Bool) : Prop := ∃ (T : u_T) (N : Nat) (ty0 : Nat → FieldType), vwCl[ci]? = some (C, T, N) ∧ (∀ w ∈ u_ws C T N, w ∈ BW) ∧ NF ci = N ∧ k < N ∧ T k = (C, nm, ds, fin) ∧ fty ci k = ty ∧ (∀ k, k < N → parseFieldDescriptor (T k).2.2.1 = some (ty0 k)) ∧ (∀ a, a < N → ∀ b, b < N → a ≠ b → (T a).2.1 ≠ (T b).2.1)
theorem z_getF {i ci k idx ty : Nat} {C nm ds : String} {fin : Bool} (hF : FF ci k C nm ds ty fin) (hd : decode cc pc = .ok (.getfield idx, 3)) (hk : KT i = (0, ci)) (hi : i < n) (hl : Cond.fieldLink own idx C nm ds ∈ BW) (kk : SWQ l Γ own cc Y QQ g n ca sl μ (pc + 3) lv (fval Γ.1 μ i k ty :: st)) : SWQ l Γ own cc Y QQ g n ca sl μ pc lv (vr Γ i :: st) := by
  obtain ⟨T, N, ty0, h1, h2, h3, h4, h5, h6, -, -⟩ := hF
  subst h6
  exact z_get hd hk hi h1 h2 h3 h4 (by rw [h5]) (by rw [h5]; exact hl) kk
theorem z_getI {i ci k idx q : Nat} {C nm ds : String} {fin : Bool} (hF : FF ci k C nm ds 0 fin) (hd : decode cc pc = .ok (.getfield idx, 3)) (hk : KT i = (0, ci)) (hi : i < n) (hl : Cond.fieldLink own idx C nm ds ∈ BW) (hq : gid i k = q) (kk : SWQ l Γ own cc Y QQ g n ca sl μ (pc + 3) lv (vi (rI μ q 0) :: st)) : SWQ l Γ own cc Y QQ g n ca sl μ pc lv (vr Γ i :: st) :=
  z_getF hF hd hk hi hl (by rw [fval_0 rfl hq]; exact kk)
theorem z_getZ {i ci k idx q : Nat} {C nm ds : String} {fin : Bool} (hF : FF ci k C nm ds 1 fin) (hd : decode cc pc = .ok (.getfield idx, 3)) (hk : KT i = (0, ci)) (hi : i < n) (hl : Cond.fieldLink own idx C nm ds ∈ BW) (hq : gid i k = q) (kk : SWQ l Γ own cc Y QQ g n ca sl μ (pc + 3) lv (vi (b2i (rB μ q 0)) :: st)) : SWQ l Γ own cc Y QQ g n ca sl μ pc lv (vr Γ i :: st) :=
  z_getF hF hd hk hi hl (by rw [fval_1 rfl hq]; exact kk)
theorem z_getJ {i ci k idx q : Nat} {C nm ds : String} {fin : Bool} (hF : FF ci k C nm ds 2 fin) (hd : decode cc pc = .ok (.getfield idx, 3)) (hk : KT i = (0, ci)) (hi : i < n) (hl : Cond.fieldLink own idx C nm ds ∈ BW) (hq : gid i k = q) (kk : SWQ l Γ own cc Y QQ g n ca sl μ (pc + 3) lv (vl (rL μ q 0) :: st)) : SWQ l Γ own cc Y QQ g n ca sl μ pc lv (vr Γ i :: st) :=
  z_getF hF hd hk hi hl (by rw [fval_2 rfl hq]; exact kk)
theorem z_getR {i ci k idx q j : Nat} {C nm ds : String} {fin : Bool} (hF : FF ci k C nm ds 3 fin) (hd : decode cc pc = .ok (.getfield idx, 3)) (hk : KT i = (0, ci)) (hi : i < n) (hl : Cond.fieldLink own idx C nm ds ∈ BW) (hq : gid i k = q) (hj : μ.2.2 q 0 = some j) (kk : SWQ l Γ own cc Y QQ g n ca sl μ (pc + 3) lv (vr Γ j :: st)) : SWQ l Γ own cc Y QQ g n ca sl μ pc lv (vr Γ i :: st) :=
  z_getF hF hd hk hi hl (by rw [fval_3 rfl hq hj]; exact kk)
/-- a put: the value fits, the new memory differs at the field alone -/
theorem z_putF {i ci k idx ty : Nat} {C nm ds : String} {fin : Bool} {v : Value} {ν : Mem} {tf : FieldType} (hF : FF ci k C nm ds ty fin) (hfin : fin = false ∨ (own = C ∧ Y.2.2.1 = "<init>")) (hd : decode cc pc = .ok (.putfield idx, 3)) (hk : KT i = (0, ci)) (hi : i < n) (hl : Cond.fieldLink own idx C nm ds ∈ BW)
    (hds : parseFieldDescriptor ds = some tf) (hn : narrow tf v = v) (hfit : fits tf v = true) (hv : fval Γ.1 ν i k ty = v) (hoff : ∀ k', k' ≠ k → fval Γ.1 ν i k' (fty ci k') = fval Γ.1 μ i k' (fty ci k')) (hs : ∀ (q : Nat) (j : Int), cof q ≠ i → μ.1 q j = ν.1 q j ∧ μ.2.1 q j = ν.2.1 q j ∧ μ.2.2 q j = ν.2.2 q j)
    (kk : SWQ l Γ own cc Y QQ g n ca sl ν (pc + 3) lv st) : SWQ l Γ own cc Y QQ g n ca sl μ pc lv (v :: vr Γ i :: st) := by
  obtain ⟨T, N, ty0, hc, hu, hN, hkN, hTk, hty, hpt, hnm⟩ := hF
  intro p e s m args below meth c H locs ls F hH hL hl'
  have hts := F.1.2.2.2.2
  have hown := F.1.2.2.2.1
  have hK := F.2.2.2.2.1
  have hat := hH.1 i hi
  rw [cellE_obj hk] at hat
  have hap := va_apart (own := own) hts hu ty0 hpt hnm hK hc
  obtain ⟨r, h1, cell, q1, q2, q3, q4⟩ := hat
  have hr : r = (C, T, N) := Option.some.inj (h1.symm.trans hc)
  subst hr
  obtain ⟨hS, hfc, kC, hkC, hkind⟩ := hK.1 ci _ hc
  obtain ⟨cf, kf, fi, f, hfo, hsl⟩ := hS k hkN
  have hlays := u_lays hts hu hkN
  have hst := (u_facts hfc hkC hlays hfo).1
  have hT1 : (T k).2.2.1 = ds := by rw [hTk]
  have hT2 : (T k).2.1 = nm := by rw [hTk]
  have hT0 : (T k).1 = C := by rw [hTk]
  have fin0 : ∀ (H' : Heap), H'[Γ.1 + i]? = some (cell.setSlot f.slot v) → H'.size = H.size → (∀ q, q ≠ Γ.1 + i → H'[q]? = H[q]?) → HW Γ n g ν H' := by
    intro H' e1 e2 e3
    refine hH.upd hi ?_ e2 e3 hs
    rw [cellE_obj hk]
    rw [hsl] at e1
    refine ⟨_, hc, t_OB.to (V := updV (vp_V (flds Γ.1 μ i ci)) k v) ⟨_, e1, q2, q3, t_set q4 hap hkN v⟩ (fun j hj => ?_)⟩
    have hj' : j < NF ci := by rw [hN]; exact hj
    show (if j = k then v else vp_V (flds Γ.1 μ i ci) j) = vp_V (flds Γ.1 ν i ci) j
    by_cases hjk : j = k
    · subst hjk
      rw [if_pos rfl, vp_flds hj', hty, hv]
    · rw [if_neg hjk, vp_flds hj', vp_flds hj', hoff j hjk]
  have hcell : ∀ q ∈ locs ++ [(⟨Γ.1 + i, f.slot⟩ : Loc)], Γ.1 ≤ q.base := by
    intro q hq
    rcases List.mem_append.mp hq with h | h
    · exact hL q h
    · rw [List.mem_singleton.mp h]; exact Nat.le_add_right _ _
  cases fin with
  | false =>
    have hlay := hts _ (hu _ (u_in_lay hkN))
    unfold u_lay at hlay
    rw [if_neg (by rw [hTk]; exact Bool.false_ne_true)] at hlay
    have h6 := u_store hfc hkC hkind hlay hfo (by rw [hT1]; exact hds) hn hfit
    refine W.putK F.1.1 F.1.2.1 (f := f) ⟨hown, hts _ hl, ⟨_, _, _, by rw [← hT0, ← hT1, ← hT2]; simpa only [hTk] using hfo⟩, hst⟩ (by rw [q2]; exact h6) q1 q3 (by rw [hsl]; exact k2_hasslot (q4 k hkN)) rfl rfl hd fun H' e1 e2 e3 => ?_
    exact kk p e s m args below meth c H' _ ls F (fin0 H' e1 e2 e3) hcell hl'
  | true =>
    obtain ⟨ho, hinit⟩ : own = C ∧ Y.2.2.1 = "<init>" := by rcases hfin with h | h; cases h; exact h
    have hlay := hts _ (hu _ (u_in_lay hkN))
    unfold u_lay at hlay
    rw [if_pos (by rw [hTk])] at hlay
    have hcf : m.cls = cf := by
      obtain ⟨_, _, c', _, _, _, -, -, hf', -, -, -, hown2, -⟩ := Cond.laysFinal_spec hlay
      have e1 : c' = cf := by have := hfo.symm.trans hf'; simp at this; exact this.1.symm
      rw [hT0, ← ho] at hown2
      rw [← e1]; exact Option.some.inj (hown.symm.trans hown2)
    have h6 := u_fits hfc hkC hkind hlays hfo (by rw [hT1]; exact hds) hn hfit
    refine W.putFinK F.1.1 F.1.2.1 (f := f) hown (hts _ hl) (by rw [← hT0, ← hT1, ← hT2]; simpa only [hTk] using hfo) hst hcf (F.2.2.2.1.trans hinit) (by rw [q2]; exact h6) q1 q3 (by rw [hsl]; exact k2_hasslot (q4 k hkN)) rfl rfl hd fun H' e1 e2 e3 => ?_
    exact kk p e s m args below meth c H' _ ls F (fin0 H' e1 e2 e3) hcell hl'
theorem gid_ne {i k k' : Nat} (h : k' ≠ k) : gid i k' ≠ gid i k := by unfold gid; omega
theorem fval_sI {z i k k' ty : Nat} {μ : Mem} {x : Int} (h : k' ≠ k) : fval z (sI μ (gid i k) 0 x) i k' ty = fval z μ i k' ty := by
  have e : (sI μ (gid i k) 0 x).1 (gid i k') 0 = μ.1 (gid i k') 0 := by show (if _ then _ else _) = _; rw [if_neg (fun q => gid_ne h q.1)]
  unfold fval
  rw [e]
  rfl
theorem fval_sL {z i k k' ty : Nat} {μ : Mem} {x : Int64} (h : k' ≠ k) : fval z (sL μ (gid i k) 0 x) i k' ty = fval z μ i k' ty := by
  have e : (sL μ (gid i k) 0 x).2.1 (gid i k') 0 = μ.2.1 (gid i k') 0 := by show (if _ then _ else _) = _; rw [if_neg (fun q => gid_ne h q.1)]
  unfold fval
  rw [e]
  rfl
theorem fval_sR {z i k k' ty : Nat} {μ : Mem} {x : Option Nat} (h : k' ≠ k) : fval z (sR μ (gid i k) 0 x) i k' ty = fval z μ i k' ty := by
  have e : (sR μ (gid i k) 0 x).2.2 (gid i k') 0 = μ.2.2 (gid i k') 0 := by show (if _ then _ else _) = _; rw [if_neg (fun q => gid_ne h q.1)]
  unfold fval
  rw [e]
  rfl
theorem FF.kt {ci k : Nat} {C nm ds : String} {ty : Nat} {fin : Bool} (h : FF ci k C nm ds ty fin) : k < 128 := by
  obtain ⟨T, N, ty0, -, -, h3, h4, -⟩ := h
  have := NF_le ci
  omega
theorem z_putI {i ci k idx q : Nat} {C nm ds : String} {fin : Bool} {x : Int} (hF : FF ci k C nm ds 0 fin) (hfin : fin = false ∨ (own = C ∧ Y.2.2.1 = "<init>")) (hds : parseFieldDescriptor ds = some .int) (hd : decode cc pc = .ok (.putfield idx, 3)) (hk : KT i = (0, ci)) (hi : i < n) (hl : Cond.fieldLink own idx C nm ds ∈ BW) (hq : gid i k = q)
    (kk : SWQ l Γ own cc Y QQ g n ca sl (sI μ q 0 x) (pc + 3) lv st) : SWQ l Γ own cc Y QQ g n ca sl μ pc lv (vi x :: vr Γ i :: st) := by
  subst hq
  refine z_putF hF hfin hd hk hi hl hds rfl rfl ?_ (fun k' h => fval_sI h) (sI_off (cof_gid hF.kt)) kk
  show Value.int (if _ then _ else _) = _
  rw [if_pos ⟨rfl, rfl⟩]
  rfl
theorem z_putZ {i ci k idx q : Nat} {C nm ds : String} {fin : Bool} {b : Bool} (hF : FF ci k C nm ds 1 fin) (hfin : fin = false ∨ (own = C ∧ Y.2.2.1 = "<init>")) (hds : parseFieldDescriptor ds = some .boolean) (hd : decode cc pc = .ok (.putfield idx, 3)) (hk : KT i = (0, ci)) (hi : i < n) (hl : Cond.fieldLink own idx C nm ds ∈ BW) (hq : gid i k = q)
    (kk : SWQ l Γ own cc Y QQ g n ca sl (sB μ q 0 b) (pc + 3) lv st) : SWQ l Γ own cc Y QQ g n ca sl μ pc lv (vi (b2i b) :: vr Γ i :: st) := by
  subst hq
  refine z_putF hF hfin hd hk hi hl hds (by cases b <;> rfl) (by cases b <;> rfl) ?_ (fun k' h => fval_sI h) (sI_off (cof_gid hF.kt)) kk
  have e : (sI μ (gid i k) 0 (b2i b)).1 (gid i k) 0 = Int32.ofInt (b2i b) := if_pos ⟨rfl, rfl⟩
  show Value.int (if (sI μ (gid i k) 0 (b2i b)).1 (gid i k) 0 = 0 then 0 else 1) = _
  rw [e]
  cases b <;> rfl
theorem z_putJ {i ci k idx q : Nat} {C nm ds : String} {fin : Bool} {x : Int64} (hF : FF ci k C nm ds 2 fin) (hfin : fin = false ∨ (own = C ∧ Y.2.2.1 = "<init>")) (hds : parseFieldDescriptor ds = some .long) (hd : decode cc pc = .ok (.putfield idx, 3)) (hk : KT i = (0, ci)) (hi : i < n) (hl : Cond.fieldLink own idx C nm ds ∈ BW) (hq : gid i k = q)
    (kk : SWQ l Γ own cc Y QQ g n ca sl (sL μ q 0 x) (pc + 3) lv st) : SWQ l Γ own cc Y QQ g n ca sl μ pc lv (vl x :: vr Γ i :: st) := by
  subst hq
  refine z_putF hF hfin hd hk hi hl hds rfl rfl ?_ (fun k' h => fval_sL h) (sL_off (cof_gid hF.kt)) kk
  show Value.long (if _ then _ else _) = _
  rw [if_pos ⟨rfl, rfl⟩]
  rfl
theorem z_putR {i ci k idx q j : Nat} {C nm ds : String} {fin : Bool} {tf : FieldType} (hF : FF ci k C nm ds 3 fin) (hfin : fin = false ∨ (own = C ∧ Y.2.2.1 = "<init>")) (hds : parseFieldDescriptor ds = some tf) (hn : narrow tf (.ref (Γ.1 + j)) = .ref (Γ.1 + j)) (hfit : fits tf (.ref (Γ.1 + j)) = true) (hd : decode cc pc = .ok (.putfield idx, 3)) (hk : KT i = (0, ci)) (hi : i < n) (hl : Cond.fieldLink own idx C nm ds ∈ BW) (hq : gid i k = q)
    (kk : SWQ l Γ own cc Y QQ g n ca sl (sR μ q 0 (some j)) (pc + 3) lv st) : SWQ l Γ own cc Y QQ g n ca sl μ pc lv (vr Γ j :: vr Γ i :: st) := by
  subst hq
  refine z_putF hF hfin hd hk hi hl hds hn hfit ?_ (fun k' h => fval_sR h) (sR_off (cof_gid hF.kt)) kk
  show va_rf (Option.map _ (if _ then _ else _)) = _
  rw [if_pos ⟨rfl, rfl⟩]
  rfl
-- arrays
theorem z_iald {a len : Nat} {x : Int} (hd : decode cc pc = .ok (.iaload, 1)) (hk : KT a = (1, len)) (hi : a < n) (h0 : 0 ≤ w x) (h1 : w x < (len : Int)) (kk : SWQ l Γ own cc Y QQ g n ca sl μ (pc + 1) lv (vi (rI μ a (w x)) :: st)) : SWQ l Γ own cc Y QQ g n ca sl μ pc lv (vi x :: vr Γ a :: st) := by
  intro p e s m args below meth c H locs ls F hH hL hl'
  have hat := hH.1 a hi
  rw [cellE_1 hk] at hat
  have hP : va_P Γ.2.2.1 vwCl [(Γ.1 + a, .inl (Γ.2.2.2.1 1, len, .inl (fun j => μ.1 a (j : Int))))] H := by
    intro b q hq
    cases b with
    | zero => cases hq; exact hat
    | succ b => simp at hq
  have h := kk p e s m args below meth c H locs ls F hH hL hl'
  rw [vi_rI, ← clamp_w h0] at h
  exact va_iald F.1.1 F.1.2.1 F.2.2.2.2.1 hP 0 0 rfl rfl (in_w h0 h1) hd h
theorem z_bald {a len : Nat} {x : Int} (hd : decode cc pc = .ok (.baload, 1)) (hk : KT a = (3, len)) (hi : a < n) (h0 : 0 ≤ w x) (h1 : w x < (len : Int)) (kk : SWQ l Γ own cc Y QQ g n ca sl μ (pc + 1) lv (vi (rI μ a (w x)) :: st)) : SWQ l Γ own cc Y QQ g n ca sl μ pc lv (vi x :: vr Γ a :: st) := by
  intro p e s m args below meth c H locs ls F hH hL hl'
  have hat := hH.1 a hi
  rw [cellE_3 hk] at hat
  have hP : va_P Γ.2.2.1 vwCl [(Γ.1 + a, .inl (Γ.2.2.2.1 3, len, .inl (fun j => μ.1 a (j : Int))))] H := by
    intro b q hq
    cases b with
    | zero => cases hq; exact hat
    | succ b => simp at hq
  have h := kk p e s m args below meth c H locs ls F hH hL hl'
  rw [vi_rI, ← clamp_w h0] at h
  exact va_bald F.1.1 F.1.2.1 F.2.2.2.2.1 hP 0 2 rfl rfl (in_w h0 h1) hd h
theorem z_zald {a len : Nat} {x : Int} (hd : decode cc pc = .ok (.baload, 1)) (hk : KT a = (4, len)) (hi : a < n) (h0 : 0 ≤ w x) (h1 : w x < (len : Int)) (kk : SWQ l Γ own cc Y QQ g n ca sl μ (pc + 1) lv (vi (b2i (rB μ a (w x))) :: st)) : SWQ l Γ own cc Y QQ g n ca sl μ pc lv (vi x :: vr Γ a :: st) := by
  intro p e s m args below meth c H locs ls F hH hL hl'
  have hat := hH.1 a hi
  rw [cellE_4 hk] at hat
  have hP : va_P Γ.2.2.1 vwCl [(Γ.1 + a, .inl (Γ.2.2.2.1 4, len, .inl (fun j => if μ.1 a (j : Int) = 0 then 0 else 1)))] H := by
    intro b q hq
    cases b with
    | zero => cases hq; exact hat
    | succ b => simp at hq
  have h := kk p e s m args below meth c H locs ls F hH hL hl'
  rw [vi_rB, ← clamp_w h0] at h
  exact va_zald F.1.1 F.1.2.1 F.2.2.2.2.1 hP 0 3 rfl rfl (in_w h0 h1) hd h
theorem z_lald {a len : Nat} {x : Int} (hd : decode cc pc = .ok (.laload, 1)) (hk : KT a = (2, len)) (hi : a < n) (h0 : 0 ≤ w x) (h1 : w x < (len : Int)) (kk : SWQ l Γ own cc Y QQ g n ca sl μ (pc + 1) lv (vl (rL μ a (w x)) :: st)) : SWQ l Γ own cc Y QQ g n ca sl μ pc lv (vi x :: vr Γ a :: st) := by
  intro p e s m args below meth c H locs ls F hH hL hl'
  have hat := hH.1 a hi
  rw [cellE_2 hk] at hat
  have hP : va_P Γ.2.2.1 vwCl [(Γ.1 + a, .inl (Γ.2.2.2.1 2, len, .inr (.inl (fun j => μ.2.1 a (j : Int)))))] H := by
    intro b q hq
    cases b with
    | zero => cases hq; exact hat
    | succ b => simp at hq
  have h := kk p e s m args below meth c H locs ls F hH hL hl'
  unfold rL at h
  rw [← clamp_w h0] at h
  exact va_lald F.1.1 F.1.2.1 F.2.2.2.2.1 hP 0 1 rfl rfl (in_w h0 h1) hd h
theorem z_aald {a len q : Nat} {x : Int} (hd : decode cc pc = .ok (.aaload, 1)) (hk : KT a = (5, len)) (hi : a < n) (h0 : 0 ≤ w x) (h1 : w x < (len : Int)) (hj : μ.2.2 a (w x) = some q) (kk : SWQ l Γ own cc Y QQ g n ca sl μ (pc + 1) lv (vr Γ q :: st)) : SWQ l Γ own cc Y QQ g n ca sl μ pc lv (vi x :: vr Γ a :: st) := by
  intro p e s m args below meth c H locs ls F hH hL hl'
  have hat := hH.1 a hi
  rw [cellE_5 hk] at hat
  have hP : va_P Γ.2.2.1 vwCl [(Γ.1 + a, .inl (Γ.2.2.2.1 5, len, .inr (.inr (.inr (.inr (fun j => (μ.2.2 a (j : Int)).map (fun q => Γ.1 + q)))))))] H := by
    intro b q hq
    cases b with
    | zero => cases hq; exact hat
    | succ b => simp at hq
  refine va_aldq F.1.1 F.1.2.1 F.2.2.2.2.1 hP 0 4 rfl rfl (in_w h0 h1) hd ?_
  rw [clamp_w h0, hj]
  exact kk p e s m args below meth c H locs ls F hH hL hl'
theorem z_alen {a len t : Nat} (hd : decode cc pc = .ok (.arraylength, 1)) (hk : KT a = (t, len)) (ht : 1 ≤ t ∧ t ≤ 5) (hi : a < n) (kk : SWQ l Γ own cc Y QQ g n ca sl μ (pc + 1) lv (vi (len : Int) :: st)) : SWQ l Γ own cc Y QQ g n ca sl μ pc lv (vr Γ a :: st) := by
  intro p e s m args below meth c H locs ls F hH hL hl'
  have hat := hH.1 a hi
  have h := kk p e s m args below meth c H locs ls F hH hL hl'
  have e0 : Int32.ofNat len = Int32.ofInt (len : Int) := (Int32.ofInt_eq_ofNat).symm
  obtain ⟨x, ty, j, hx, hty, hl0⟩ : ∃ (x : vp_A) (ty : FieldType) (j : Nat), cellE Γ μ a = .inl (Γ.2.2.2.1 t, x) ∧ (tysOf Γ)[j]? = some (Γ.2.2.2.1 t, ty) ∧ x.1 = len := by
    rcases (show t = 1 ∨ t = 2 ∨ t = 3 ∨ t = 4 ∨ t = 5 by omega) with rfl | rfl | rfl | rfl | rfl
    · exact ⟨_, _, 0, cellE_1 hk, rfl, rfl⟩
    · exact ⟨_, _, 1, cellE_2 hk, rfl, rfl⟩
    · exact ⟨_, _, 2, cellE_3 hk, rfl, rfl⟩
    · exact ⟨_, _, 3, cellE_4 hk, rfl, rfl⟩
    · exact ⟨_, _, 4, cellE_5 hk, rfl, rfl⟩
  rw [hx] at hat
  have hP : va_P Γ.2.2.1 vwCl [(Γ.1 + a, .inl (Γ.2.2.2.1 t, x))] H := by
    intro b q hq
    cases b with
    | zero => cases hq; exact hat
    | succ b => simp at hq
  exact va_alen F.1.1 F.1.2.1 F.2.2.2.2.1 hP 0 j rfl hty (by rw [hl0]; exact e0) hd h
end Rules2
