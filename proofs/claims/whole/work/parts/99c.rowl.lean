/-! THE LAW'S ROW: a static method that catches what the system's row throws; RowOK; the start -/
theorem run_X {p : Program} {l : Launch} {e : Env} {R : Room} {s : State} {m : MethodId} {args : Array Value} {below : List Frame} {meth : Method} {c : Code} {Γ : Gam} {H : Heap} {locs : List Loc} {ca sl mc ms pc : Nat} {ls : Array Slot} {st0 rest : List Value} {Qa : State → Outcome → State → Prop} {XC : String → State → State → Prop} {Q : State → Prop}
    (hr : vx_Run p l e R s m args below meth c H locs ca sl mc ms (F0 m pc ls st0) rest Qa XC (fun q => Γ.1 ≤ q)) (hL : ∀ q ∈ locs, Γ.1 ≤ q.base)
    (kx : ∀ (q : Addr) (E : String) (ce : Cell) (st₀ t : State) (H1 : Heap) (locs1 : List Loc), XC E st₀ t → t.heap = H1 → H1[q]? = some ce → ce.vm = .none → s.vm.findClass E = some ce.cls → (∀ q ∈ locs1, Γ.1 ≤ q.base) → vx_W p l e R s m args below meth c H1 locs1 (ca + mc) (sl + ms) Q (F0 m pc ls rest) q)
    (kk : ∀ (v : Option Value) (st₀ t : State) (H1 : Heap) (locs1 : List Loc), Qa st₀ (.returned v) t → t.heap = H1 → (∀ q ∈ locs1, Γ.1 ≤ q.base) → W p l e R s m args below meth c H1 locs1 (ca + mc) (sl + ms) Q (F0 m (pc + 3) ls (v.toList ++ rest))) : W p l e R s m args below meth c H locs ca sl Q (F0 m pc ls st0) := by
  intro T hT X
  rcases hr T hT X with ⟨v, st₀, t, T', L, h0, X', hL', e1, e2, hq, st⟩ | ⟨q, st₀, t, T', L, E, ce, h0, X', hL', e1, e2, hx, hce, hcv, hcl, st⟩
  · obtain ⟨t2, a1, b1⟩ := kk v st₀ t T'.heap (locs ++ L) hq e1.symm (fun q hq => (List.mem_append.mp hq).elim (hL q) (hL' q)) T' rfl X'
    exact ⟨t2, st t2 a1, b1⟩
  · obtain ⟨t2, a1, b1⟩ := kx q E ce st₀ t T'.heap (locs ++ L) hx e1.symm (by rw [e1]; exact hce) hcv hcl (fun q hq => (List.mem_append.mp hq).elim (hL q) (hL' q)) T' rfl X'
    exact ⟨t2, st.trans a1, b1⟩
def RowEnd (a f : Int) (μ : Mem) (k : Int) (ν : Mem) : Prop := (k = 0 ∧ RowIn a f μ ∧ ν = sL μ 174 0 (w_i2l (v_Chair_rowField a f μ))) ∨ (k = 1 ∧ ¬ RowIn a f μ ∧ ν = μ)
def RowQ (Γ : Gam) (a f : Int) (μ : Mem) : Array Value → State → Outcome → State → Prop := fun _ _ o t => ∃ (k : Int) (ν : Mem) (g1 : Nat), o = .returned (some (vi k)) ∧ HW Γ 175 g1 ν t.heap ∧ RowEnd a f μ k ν
theorem ml_L_7 : Cond.methodLink RL 7 yX11_row ∈ BW := (bw7 35 (by decide +kernel) rfl)
theorem vk_X11_row : VOK yX11_row cX11_row 3 (some .int) 2 := ⟨⟨(bw7 38 (by decide +kernel) rfl), (bw1 1 (by decide +kernel) rfl), by decide, by decide, by decide +kernel⟩, (bw7 36 (by decide +kernel) rfl), (bw7 37 (by decide +kernel) rfl)⟩
theorem ml_L_111 : Cond.methodLink RL 111 yL_row ∈ BW := (bw7 31 (by decide +kernel) rfl)
theorem ml_L_116 : Cond.methodLink RL 116 yX12_row ∈ BW := (bw10 57 (by decide +kernel) rfl)
theorem vk_X12_row : VOK yX12_row cX12_row 3 (some .int) 2 := ⟨⟨(bw10 60 (by decide +kernel) rfl), (bw1 13 (by decide +kernel) rfl), by decide, by decide, by decide +kernel⟩, (bw10 58 (by decide +kernel) rfl), (bw10 59 (by decide +kernel) rfl)⟩
theorem ml_L_117 : Cond.methodLink RL 117 yX12_thrown ∈ BW := (bw7 105 (by decide +kernel) rfl)
theorem vk_X12_thrown : VOK yX12_thrown cX12_thrown 1 (some .int) 0 := ⟨⟨(bw7 108 (by decide +kernel) rfl), (bw1 13 (by decide +kernel) rfl), by decide, by decide, by decide +kernel⟩, (bw7 106 (by decide +kernel) rfl), (bw7 107 (by decide +kernel) rfl)⟩
theorem ck_L_13 : Cond.classLink RL 13 nsE ∈ BW := (bw7 34 (by decide +kernel) rfl)
theorem st_L_row : Cond.static yL_row ∈ BW := (bw7 32 (by decide +kernel) rfl)
theorem in_L : Cond.initialized RL ∈ BW := (bw1 0 (by decide +kernel) rfl)
theorem cw_L_row : Cond.codeWith yL_row cL_row 5 (some .int) [(0, 10, 13, 13)] ∈ BW := (bw7 33 (by decide +kernel) rfl)
set_option maxHeartbeats 4000000 in
theorem i_rowL {l : Launch} (hst : l.stackTraces = false) {Γ : Gam} {g : Nat} {a f : Int} {μ : Mem} (hs : StatR μ.2.2) : vx_Met l yL_row (Cond.codeWith yL_row cL_row 5 (some .int) [(0, 10, 13, 13)] :: BW) { frames := 8, cells := 1, slots := 6, locals := 200 } (va_Pc [vr Γ 0, vi a, vi f, vr Γ 174] (fun U => HW Γ 175 g μ U.heap ∧ KS Γ U ∧ ZX Γ U)) (RowQ Γ a f μ) (fun _ _ _ => False) 1 6 (fun q => Γ.1 ≤ q) := by
  refine vx_ofWH (cc := cL_row) (maxL := 5) (ret := some .int) (hh := [(0, 10, 13, 13)]) (by decide) rfl ?_
  intro p e s m args below meth c s₁ B hml hv
  obtain ⟨rfl, hH0, hK, hZ⟩ := hv
  have hts := atoms_spec (ws := Cond.codeWith yL_row cL_row 5 (some .int) [(0, 10, 13, 13)] :: BW) B.pre
  have htab := vx_table (x := yL_row) B (hts _ List.mem_cons_self)
  have hown : s.vm.findClass RL = some m.cls := findClass_of_methodNamed B.named
  have hBW : ∀ w ∈ BW, w.before [vr Γ 0, vi a, vi f, vr Γ 174].toArray s = true := fun w hw => hts w (List.mem_cons_of_mem _ hw)
  have F : CallFix p m c cL_row 5 s [vr Γ 0, vi a, vi f, vr Γ 174].toArray BW RL := ⟨B.exec, B.bytes, hml, hown, hBW⟩
  have hl := lv_entry [vr Γ 0, vi a, vi f, vr Γ 174] (n := 5) (Nat.le_of_ble_eq_true rfl)
  rw [lg_entry_eq]
  generalize (lg_sl [vr Γ 0, vi a, vi f, vr Γ 174] ++ List.replicate (5 - (lg_sl [vr Γ 0, vi a, vi f, vr Γ 174]).length) Slot.unset).toArray = ls at hl ⊢
  have hl : lv_has ls 5 [(0, vr Γ 0), (1, vi a), (2, vi f), (3, vr Γ 174)] := hl
  refine lv_aload_n F.1 F.2.1 dL_row_0 rfl (lv_at hl 3 rfl) ?_
  refine lv_iconst F.1 F.2.1 dL_row_1 rfl ?_
  refine lv_aload_n F.1 F.2.1 dL_row_2 rfl (lv_at hl 0 rfl) ?_
  refine lv_iload_n F.1 F.2.1 dL_row_3 rfl (lv_at hl 1 rfl) ?_
  refine lv_iload_n F.1 F.2.1 dL_row_4 rfl (lv_at hl 2 rfl) ?_
  obtain ⟨⟨hM1, hM2, hM3⟩, hM4, hM5⟩ := vk_X11_row
  refine run_X (vx_runV (As := [vi a, vi f]) (rest := [vi 0, vr Γ 174]) (C := RX11) (b := Γ.1 + 0) F (i_row hst (g := g) (a := a) (f := f) hs) (cwV 2 F.2.2.2.2 (BW_in ?_) rfl rfl rfl ⟨rfl, hM3⟩ ⟨by decide, by decide⟩) ⟨HWKSX_blind, HW.recv hK.1 hH0 kt_0 (by decide) rfl, fun U hU hWm => ⟨rfl, by rw [hU]; exact hH0, KS.moved hWm hK, ZX.moved hWm hZ⟩⟩ rfl rfl hl.1 rfl (lv_room (by show (1 + (1 + 0) : Nat) ≤ 8; decide)) dL_row_5 ⟨by decide, by decide⟩) (fun _ h => nomatch h) ?_ ?_
  · intro w hw
    simp only [wsV, List.mem_append, List.mem_cons, List.not_mem_nil, or_false] at hw
    rcases hw with (rfl | rfl | rfl | rfl) | rfl | hw
    · exact ml_L_7
    · exact hM4
    · exact hM5
    · exact hM2
    · exact hM1
    · exact hw
  · rintro q E ce st₀ t H1 locs1 ⟨rfl, hno, g1, hH1⟩ e1 hce hcv hcl hL
    rw [e1] at hH1
    refine vx_catch (E := nsE) (name := nsE) hown [] ⟨0, 10, 13, 13⟩ [] (htab.trans rfl) (fun z hz => nomatch hz) (by decide) (by decide) (hBW _ ck_L_13) (va_Nw.use rfl hZ.2.1) hce hcv hcl ?_
    refine lv_astore F.1 F.2.1 dL_row_13 hl (by decide) rfl (fun ls' hl' => ?_)
    refine lv_iconst F.1 F.2.1 dL_row_15 rfl ?_
    refine vx_ret ?_
    exact W.iret (v := Int32.ofInt 1) F.1 F.2.1 B.returns (fun t ht _ => ⟨1, μ, g1, rfl, by rw [ht]; exact hH1, Or.inr ⟨rfl, hno, rfl⟩⟩) hL dL_row_16 B.notSynchronized
  · rintro v st₀ t H1 locs1 ⟨v', ν, hv, ⟨rfl, rfl, hin⟩, hH1⟩ e1 hL
    cases hv
    rw [e1] at hH1
    refine lv_i2l F.1 F.2.1 dL_row_8 rfl ?_
    have hat := hH1.1 174 (by decide)
    rw [cellE_2 kt_174] at hat
    refine W.last F.1 F.2.1 hat ((hK.1.2 1 _ rfl).1 1 (fun j => .long (ν.2.1 174 (j : Int)))) (fun q => by cases q) (by show ¬ (_ ∨ (arrV _ _ _).slots.size ≤ _); rw [arrV_size]; exact in_w (x := 0) (n := 1) (by decide) (by decide)) rfl rfl dL_row_9 fun H2 e2 z oq => ?_
    refine lv_goto F.1 F.2.1 dL_row_10 (tgt := 17) rfl ?_
    refine lv_iconst F.1 F.2.1 dL_row_17 rfl ?_
    refine vx_ret ?_
    have hH2 : HW Γ 175 g (sL ν 174 0 (w_i2l (v_Chair_rowField a f ν))) H2 := by
      refine hH1.upd (i := 174) (by decide) ?_ z oq (sL_off (cof_arr (by decide)))
      rw [cellE_2 kt_174]
      show H2[Γ.1 + 174]? = some (vp_cell _ _)
      rw [e2]
      show some ((arrV _ _ _).setSlot _ _) = _
      rw [vp_cell_l, arrV_store]
      congr 2
      funext q
      show (if q = _ then _ else _) = Value.long (if 174 = 174 ∧ (q : Int) = 0 then _ else _)
      have ez : (Int32.ofInt 0).toNatClampNeg = 0 := by decide
      by_cases hq : q = (Int32.ofInt 0).toNatClampNeg
      · rw [if_pos hq, if_pos ⟨rfl, by omega⟩]; rfl
      · rw [if_neg hq, if_neg (fun h => hq (by omega))]
    exact W.iret (v := Int32.ofInt 0) F.1 F.2.1 B.returns (fun t ht _ => ⟨0, _, g, rfl, by rw [ht]; exact hH2, Or.inl ⟨rfl, hin, rfl⟩⟩) (locs_put hL) dL_row_18 B.notSynchronized
theorem rowIn_iff {a f : Int} {μ : Mem} (ha : Rg a) (hf : Rg f) : RowIn a f μ ↔ (0 ≤ a ∧ a < rI μ 11632 0 ∧ 0 ≤ f ∧ f < 7) := by
  unfold RowIn
  rw [w_id ha.1 ha.2, w_id hf.1 hf.2, w_rI, w_id (x := 7) (by omega) (by omega)]
  omega
theorem row_keep {a f : Int} {μ : Mem} {K : Int → Mem → Prop} (h : f_M_row a f μ K) : f_M_row a f μ (fun b ξ => K b ξ ∧ ξ.2.1 = μ.2.1) := by
  unfold f_M_row at h ⊢
  intro μ1 e1
  have h := h μ1 e1
  subst e1
  have e : ∀ ν : Mem, ν = sI (sI μ 15464 0 0) 15464 0 1 → ν.2.1 = μ.2.1 := fun ν e => by rw [e]; rfl
  by_cases q1 : w a < 0
  · rw [if_pos q1] at h ⊢
    exact fun ν e2 => ⟨h ν e2, e ν e2⟩
  rw [if_neg q1] at h ⊢
  by_cases q2 : w a < w (rI (sI μ 15464 0 0) 15534 0)
  · rw [if_pos q2] at h ⊢
    by_cases q3 : v_M_within f 0 6 = true
    · rw [if_pos q3] at h ⊢
      exact ⟨h.1, h.2.1, h.2.2, rfl⟩
    · rw [if_neg q3] at h ⊢
      exact fun ν e2 => ⟨h ν e2, e ν e2⟩
  · rw [if_neg q2] at h ⊢
    exact fun ν e2 => ⟨h ν e2, e ν e2⟩
theorem qt_174 {μ : Mem} {v : Int64} : Qt μ (sL μ 174 0 v) := Fr.qt ((FrP.refl (lel [174]) μ).wL (by simp [lel, List.elem])) (by decide)
theorem row_after {l : Launch} {Γ : Gam} {b L i : Nat} {xs : Nat → Int32} {nm : String} {g ca sl : Nat} {k : Int} {μ ν : Mem} (hL : L ≤ 3072) (hi : i + 5 < L) (hca : ca ≤ 601024) (hsl : sl ≤ 7293034) (hI : Inv μ) (he : RowEnd (xs (i + 1)).toInt (xs (i + 2)).toInt μ k ν)
    (kk : ∀ ξ : Mem, Inv ξ → SWQ l Γ RL cL_law (YL nm) (QL Γ b L xs) g 175 ca sl ξ 1462 (LVL Γ b i) []) : SWQ l Γ RL cL_law (YL nm) (QL Γ b L xs) g 175 ca sl ν 942 (LVL Γ b i) [vi k] := by
  have hIν : Inv ν := by
    rcases he with ⟨-, -, rfl⟩ | ⟨-, -, rfl⟩
    · exact qt_174.inv hI
    · exact hI
  have h0 := row_keep (st_row (rg32 (xs (i + 1))) (rg32 (xs (i + 2))) hIν)
  refine z_istore (i := 5) (x := k) (lv' := [(5, vi k), (0, .ref b), (1, vr Γ 0), (2, vr Γ 113), (3, vr Γ 174), (4, vi (i : Int))]) dL_law_942 (by show 5 < 7; omega) rfl ?_
  refine z_sub (lv' := [(0, .ref b), (1, vr Γ 0), (2, vr Γ 113), (3, vr Γ 174), (4, vi (i : Int)), (5, vi k)]) [1, 2, 3, 4, 5, 0] rfl ?_
  refine z_rload_n dL_law_944 rfl 2 rfl ?_
  refine z_arg 1 (by omega) hL rfl rfl dL_law_945 dL_law_946 dL_law_948 dL_law_949 dL_law_950 rfl rfl rfl rfl ?_
  refine z_arg 2 (by omega) hL rfl rfl dL_law_951 dL_law_952 dL_law_954 dL_law_955 dL_law_956 rfl rfl rfl rfl ?_
  refine z_VI (i_M_row hIν.1 h0) vk_X12_row kt_113 (by decide) rfl ml_L_116 ⟨Nat.le_of_ble_eq_true rfl, Nat.le_of_ble_eq_true rfl⟩ ⟨hca, hsl⟩ rfl rfl (Nat.le_of_ble_eq_true rfl) dL_law_957 (fun r2 ν2 s2 h2 => ?_)
  obtain ⟨⟨hI2, hc⟩, hk2⟩ := h2
  refine z_istore (i := 6) (x := r2) (lv' := [(6, vi r2), (0, .ref b), (1, vr Γ 0), (2, vr Γ 113), (3, vr Γ 174), (4, vi (i : Int)), (5, vi k)]) dL_law_960 (by show 6 < 7; omega) rfl ?_
  refine z_sub (lv' := [(0, .ref b), (1, vr Γ 0), (2, vr Γ 113), (3, vr Γ 174), (4, vi (i : Int)), (5, vi k), (6, vi r2)]) [1, 2, 3, 4, 5, 6, 0] rfl ?_
  refine z_rload_n dL_law_962 rfl 2 rfl ?_
  refine z_VE i_M_thrown vk_X12_thrown kt_113 (by decide) rfl ml_L_117 ⟨Nat.le_of_ble_eq_true rfl, Nat.le_of_ble_eq_true rfl⟩ ⟨hca, hsl⟩ rfl rfl (Nat.le_of_ble_eq_true rfl) dL_law_963 ?_
  refine z_iload dL_law_966 5 rfl ?_
  have go : SWQ l Γ RL cL_law (YL nm) (QL Γ b L xs) g 175 ca sl ν2 990 [(0, .ref b), (1, vr Γ 0), (2, vr Γ 113), (3, vr Γ 174), (4, vi (i : Int)), (5, vi k), (6, vi r2)] [] := by
    refine z_goto (tgt := 1462) dL_law_990 rfl ?_
    refine z_sub (lv' := LVL Γ b i) [0, 1, 2, 3, 4] rfl ?_
    exact kk ν2 hI2
  have iff0 := rowIn_iff (μ := μ) (rg32 (xs (i + 1))) (rg32 (xs (i + 2)))
  rcases he with ⟨rfl, hin, e⟩ | ⟨rfl, hno, e⟩
  · have er : rI ν 11632 0 = rI μ 11632 0 := by rw [e]; rfl
    rw [er] at hc
    have hc2 : v_M_thrown ν2 = 0 ∧ r2 = v_Chair_rowField (xs (i + 1)).toInt (xs (i + 2)).toInt ν := by
      rcases hc with ⟨-, -, -, -, h1, h2⟩ | ⟨h1, -⟩
      · exact ⟨h1, h2⟩
      · exact absurd (iff0.mp hin) h1
    refine z_icmp_eq (A := True) (B := False) (tgt := 973) dL_law_968 rfl (by rw [hc2.1, if_pos rfl]; trivial) (fun _ => ?_) (fun z => z.elim)
    refine z_iload dL_law_973 5 rfl ?_
    refine z_if_ne_T (tgt := 990) dL_law_975 rfl (by decide +kernel) ?_
    refine z_rload_n dL_law_978 rfl 3 rfl ?_
    refine z_iconst dL_law_979 ?_
    refine z_lald dL_law_980 kt_174 (by decide) (by decide +kernel) (by decide +kernel) ?_
    refine z_iload dL_law_981 6 rfl ?_
    refine z_i2l dL_law_983 ?_
    have ev : rL ν2 174 (w 0) = w_i2l r2 := by
      have w0 : w 0 = 0 := w_id (by omega) (by omega)
      rw [w0]
      show ν2.2.1 174 0 = w_i2l r2
      rw [hk2, hc2.2, e]
      show (if (174 : Nat) = 174 ∧ (0 : Int) = 0 then w_i2l (v_Chair_rowField (xs (i + 1)).toInt (xs (i + 2)).toInt μ) else μ.2.1 174 0) = w_i2l (v_Chair_rowField (xs (i + 1)).toInt (xs (i + 2)).toInt (sL μ 174 0 (w_i2l (v_Chair_rowField (xs (i + 1)).toInt (xs (i + 2)).toInt μ))))
      exact if_pos ⟨rfl, rfl⟩
    refine z_lcmp_eq (A := True) (B := False) (tgt := 990) dL_law_984 dL_law_985 rfl (by rw [if_pos ev]; trivial) (fun _ => go) (fun z => z.elim)
  · have er : rI ν 11632 0 = rI μ 11632 0 := by rw [e]
    rw [er] at hc
    have hc2 : v_M_thrown ν2 = 1 := by
      rcases hc with ⟨a1, a2, a3, a4, -, -⟩ | ⟨-, h1⟩
      · exact absurd (iff0.mpr ⟨a1, a2, a3, a4⟩) hno
      · exact h1
    refine z_icmp_eq (A := True) (B := False) (tgt := 973) dL_law_968 rfl (by rw [hc2, if_pos rfl]; trivial) (fun _ => ?_) (fun z => z.elim)
    refine z_iload dL_law_973 5 rfl ?_
    exact z_if_ne_F (tgt := 990) dL_law_975 rfl (by decide +kernel) go
theorem ns_dl : ∀ y ∈ nsD, Cond.declares y ∈ lw_tbl := by decide +kernel
theorem ns_r1 : Cond.isRef (.static Bundle.tN "UNASSIGNED_STACK" Bundle.steD) ∈ ksFL := by decide +kernel
theorem ns_r2 : Cond.isRef (.static Bundle.tN "SUPPRESSED_SENTINEL" Bundle.listD) ∈ ksFL := by decide +kernel
theorem zx_start {Γ : Gam} {s : State} {b : Nat} (hts : ∀ w ∈ lw_tbl, w.before #[Value.ref b] s = true) (hgv : (Jvm.Cond.and given_1 narrow_1).before #[Value.ref b] s = true) (hG : Γ.2.1 = s.heap) (hz : Γ.2.1.size = Γ.1) : ZX Γ s := by
  have hf : ∀ c ∈ ksFL, c.before #[Value.ref b] s = true := flat_of_before _ hgv
  have hA : ∀ a : Nat, a < s.heap.size → ¬ (fun q => Γ.1 ≤ q) a := fun a h => by
    show ¬ Γ.1 ≤ a
    rw [hG] at hz
    omega
  unfold ZX
  rw [hG]
  have hini : (Cond.initialized Bundle.tN).before #[Value.ref b] s = true := hts _ (List.mem_of_getElem? (i := 150) (by decide +kernel))
  exact ⟨⟨vx_Zqof (hts _ (List.mem_of_getElem? (i := 1636) (by decide +kernel))) hini (hf _ ns_r1) hA, vx_Zqof (hts _ (List.mem_of_getElem? (i := 1638) (by decide +kernel))) hini (hf _ ns_r2) hA⟩, va_Nw.of rfl (hts _ (List.mem_of_getElem? (i := 1611) (by decide +kernel))), fun y hy => va_Nw.of rfl (hts _ (ns_dl y hy))⟩
set_option maxHeartbeats 4000000 in
theorem row_ok {l : Launch} (hst : l.stackTraces = false) {Γ : Gam} {b L : Nat} {xs : Nat → Int32} {nm : String} (hL : L ≤ 3072) : RowOK l Γ b L xs nm := by
  intro i g ca sl μ hi hca hsl hI kk
  refine z_rload_n dL_law_925 rfl 1 rfl ?_
  refine z_arg 1 (by omega) hL rfl rfl dL_law_926 dL_law_927 dL_law_929 dL_law_930 dL_law_931 rfl rfl rfl rfl ?_
  refine z_arg 2 (by omega) hL rfl rfl dL_law_932 dL_law_933 dL_law_935 dL_law_936 dL_law_937 rfl rfl rfl rfl ?_
  refine z_rload_n dL_law_938 rfl 3 rfl ?_
  intro p e s m args below meth c H locs ls F hH hLc hl
  by_cases hP : PL Γ b L xs args s
  · obtain ⟨ha, hX, hG, hb, hgv, hts⟩ := id hP
    have hZ : ZX Γ s := zx_start hts hgv hG hH.2.1
    have c1 : ca + 1 ≤ 601024 := Nat.le_trans (by omega) hca
    have c2 : sl + 6 ≤ 7293034 := Nat.le_trans (by omega) hsl
    refine run_X (vx_runSX (As := [vr Γ 0, vi (xs (i + 1)).toInt, vi (xs (i + 2)).toInt, vr Γ 174]) (rest := []) F.1 (i_rowL hst (g := g) (a := (xs (i + 1)).toInt) (f := (xs (i + 2)).toInt) hI.1) (vx_cwSW 4 F.1.2.2.2.2 (BW_in ?_) rfl rfl rfl ⟨by decide, by decide, by decide +kernel⟩ ⟨Nat.le_of_ble_eq_true rfl, Nat.le_of_ble_eq_true rfl⟩) ⟨HWKSX_blind, fun U hU hWm => ⟨rfl, by rw [hU]; exact hH, KS.moved hWm F.2.2.2.2, ZX.moved hWm hZ⟩⟩ rfl rfl hl.1 rfl (lv_room (by decide)) dL_law_939 ⟨c1, c2⟩) hLc (fun _ _ _ _ _ _ _ z => z.elim) ?_
    · intro w hw
      simp only [va_wsS, List.mem_append, List.mem_cons, List.not_mem_nil, or_false] at hw
      rcases hw with (rfl | rfl | rfl) | rfl | hw
      · exact ml_L_111
      · exact st_L_row
      · exact in_L
      · exact cw_L_row
      · exact hw
    · rintro v st₀ t H1 locs1 ⟨k, ν, g1, hv, hH1, he⟩ e1 h1
      cases hv
      rw [e1] at hH1
      exact row_after hL hi c1 c2 hI he (fun ξ hξ => kk ξ g1 (ca + 1) (sl + 6) hξ (by omega) (by omega)) p e s m args below meth c H1 locs1 ls F hH1 h1 hl
  · exact W_triv (fun t z => absurd z hP)
