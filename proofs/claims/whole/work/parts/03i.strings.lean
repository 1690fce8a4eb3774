theorem vk_J0_coder_7d493 : VOK yJ0_coder_7d493 cJ0_coder_7d493 1 (some .byte) 0 := ⟨⟨(bw4 7 (by decide +kernel) rfl), (bw1 14 (by decide +kernel) rfl), by decide, by decide, by decide +kernel⟩, (bw4 5 (by decide +kernel) rfl), (bw4 6 (by decide +kernel) rfl)⟩
theorem vk_J0_isLatin1_aae02 : VOK yJ0_isLatin1_aae02 cJ0_isLatin1_aae02 1 (some .boolean) 0 := ⟨⟨(bw4 17 (by decide +kernel) rfl), (bw1 14 (by decide +kernel) rfl), by decide, by decide, by decide +kernel⟩, (bw4 15 (by decide +kernel) rfl), (bw4 16 (by decide +kernel) rfl)⟩
theorem sk_J1_charAt_3b067 : SOK yJ1_charAt_3b067 cJ1_charAt_3b067 2 (some .char) 2 := ⟨⟨(bw4 20 (by decide +kernel) rfl), (bw1 15 (by decide +kernel) rfl), by decide, by decide, by decide +kernel⟩, (bw4 19 (by decide +kernel) rfl)⟩
theorem sk_J0_checkIndex_df160 : SOK yJ0_checkIndex_df160 cJ0_checkIndex_df160 2 none 2 := ⟨⟨(bw4 23 (by decide +kernel) rfl), (bw1 14 (by decide +kernel) rfl), by decide, by decide, by decide +kernel⟩, (bw4 22 (by decide +kernel) rfl)⟩
theorem sk_J3_checkIndex_8e157 : SOK yJ3_checkIndex_8e157 cJ3_checkIndex_8e157 3 (some .int) 3 := ⟨⟨(bw4 28 (by decide +kernel) rfl), (bw1 16 (by decide +kernel) rfl), by decide, by decide, by decide +kernel⟩, (bw4 27 (by decide +kernel) rfl)⟩
theorem sw_compact : Cond.fieldLink RJ0 38 RJ0 "COMPACT_STRINGS" "Z" ∈ BW := (bw4 8 (by decide +kernel) rfl)
theorem sw_coder : Cond.fieldLink RJ0 15 RJ0 "coder" "B" ∈ BW := (bw10 182 (by decide +kernel) rfl)
theorem sw_value : Cond.fieldLink RJ0 9 RJ0 "value" "[B" ∈ BW := (bw10 181 (by decide +kernel) rfl)
theorem sw_fmt : Cond.fieldLink RJ0 1053 RJ3 "SIOOBE_FORMATTER" "Ljava/util/function/BiFunction;" ∈ BW := (bw4 24 (by decide +kernel) rfl)
theorem sm_coder : Cond.methodLink RJ0 335 yJ0_coder_7d493 ∈ BW := (bw4 4 (by decide +kernel) rfl)
theorem sm_latin : Cond.methodLink RJ0 492 yJ0_isLatin1_aae02 ∈ BW := (bw4 14 (by decide +kernel) rfl)
theorem sm_l1 : Cond.methodLink RJ0 495 yJ1_charAt_3b067 ∈ BW := (bw4 18 (by decide +kernel) rfl)
theorem sm_ci : Cond.methodLink RJ1 9 yJ0_checkIndex_df160 ∈ BW := (bw4 21 (by decide +kernel) rfl)
theorem sm_pc : Cond.methodLink RJ0 1059 yJ3_checkIndex_8e157 ∈ BW := (bw4 26 (by decide +kernel) rfl)
section Strings
variable {l : Launch} {Γ : Gam} {g n : Nat} {μ : Mem}
theorem KS.str {s : State} (hH : HW Γ n g μ s.heap) (hK : KS Γ s) : vk_S 30 (TXL.map List.length) (TXL.map fun l => l.map fun n => Int32.ofNat n) Γ.2.2.2.2.1 Γ.2.2.2.2.2 (fun q => Γ.1 ≤ q) s s.heap :=
  vk_S.kept (H := Γ.2.1) hK.2.2.1 (fun a h1 h2 => hH.2.2.2.1 a (Nat.not_le.mp h2))
theorem HW.after {s : State} {H : Heap} {locs : List Loc} {ν : Mem} (hH : HW Γ n g μ s.heap) (h1 : HW Γ n g ν H) (hL : ∀ q ∈ locs, Γ.1 ≤ q.base) : va_S (fun q => Γ.1 ≤ q) s.heap H locs :=
  ⟨by rw [hH.2.2.1, h1.2.2.1]; exact Nat.le_refl _, fun q _ h => by rw [h1.2.2.2.1 q (Nat.not_le.mp h), hH.2.2.2.1 q (Nat.not_le.mp h)], hL⟩
theorem va_runW {y : MethodName} {cc' : ByteArray} {nL nL' fr lo na idx : Nat} {ret' : Option FieldType} {As rest : List Value} {post' : Option Value → Mem → Prop} {own : String} {cc : ByteArray} {C : String} {b : Nat}
    {p : Program} {e : Env} {R : Room} {s : State} {m : MethodId} {args : Array Value} {below : List Frame} {meth : Method} {c : Code} {H : Heap} {locs : List Loc} {ca sl pc : Nat} {ls : Array Slot} {st : List Value} {Q : State → Prop}
    (hfix : CallFix p m c cc nL s args BW own) (hKs : KS Γ s) (hH : HW Γ n g μ H) (h : CT l Γ y cc' nL' ret' fr lo 0 0 (.ref b :: As) g n μ post') (hM : VOK y cc' nL' ret' na) (hC : y.cls = C) (hrec : ∃ cell : Cell, H[b]? = some cell ∧ cell.vm.isStatics = false ∧ s.vm.findClass C = some cell.cls) (hl : Cond.methodLink own idx y ∈ BW)
    (hR : fr + 1 ≤ R.frames ∧ 8 + (nL' + 11) + lo ≤ R.locals) (hcs : ca ≤ R.cells ∧ sl ≤ R.slots) (hna : As.length = na) (hst : st = As.reverse ++ .ref b :: rest) (hW : (rest.map fun v => v.category).sum ≤ 8) (hd : decode cc pc = .ok (.invokevirtual idx, 3)) (hls : ls.size = nL) (hL : ∀ q ∈ locs, Γ.1 ≤ q.base)
    (kk : ∀ (v : Option Value) (ν : Mem) (H1 : Heap) (locs1 : List Loc), post' v ν → HW Γ n g ν H1 → (∀ q ∈ locs1, Γ.1 ≤ q.base) → W p l e R s m args below meth c H1 locs1 ca sl Q (F0 m (pc + 3) ls (v.toList ++ rest))) : W p l e R s m args below meth c H locs ca sl Q (F0 m pc ls st) := by
  subst hst
  subst hC
  obtain ⟨⟨hM1, hM2, hM3⟩, hM4, hM5⟩ := hM
  refine run_W (g := g) (mc := 0) (ms := 0) (va_runV hfix h (cwV na hfix.2.2.2.2 (BW_in ?_) rfl rfl rfl ⟨rfl, hM3⟩ hR) ⟨HWKS_blind, hrec, fun U hU hWm => ⟨rfl, by rw [hU]; exact hH, KS.moved hWm hKs⟩⟩ rfl hna hls rfl (lv_room hW) hd hcs) hL kk
  intro w hw
  simp only [wsV, List.mem_append, List.mem_cons, List.not_mem_nil, or_false] at hw
  rcases hw with (rfl | rfl | rfl | rfl) | rfl | hw
  · exact hl
  · exact hM4
  · exact hM5
  · exact hM2
  · exact hM1
  · exact hw
theorem va_runZ {y : MethodName} {cc' : ByteArray} {nL nL' fr lo na idx : Nat} {ret' : Option FieldType} {As rest : List Value} {post' : Option Value → Mem → Prop} {own : String} {cc : ByteArray}
    {p : Program} {e : Env} {R : Room} {s : State} {m : MethodId} {args : Array Value} {below : List Frame} {meth : Method} {c : Code} {H : Heap} {locs : List Loc} {ca sl pc : Nat} {ls : Array Slot} {st : List Value} {Q : State → Prop}
    (hfix : CallFix p m c cc nL s args BW own) (hKs : KS Γ s) (hH : HW Γ n g μ H) (h : CT l Γ y cc' nL' ret' fr lo 0 0 As g n μ post') (hM : SOK y cc' nL' ret' na) (hl : Cond.methodLink own idx y ∈ BW)
    (hR : fr + 1 ≤ R.frames ∧ 8 + (nL' + 11) + lo ≤ R.locals) (hcs : ca ≤ R.cells ∧ sl ≤ R.slots) (hna : As.length = na) (hst : st = As.reverse ++ rest) (hW : (rest.map fun v => v.category).sum ≤ 8) (hd : decode cc pc = .ok (.invokestatic idx, 3)) (hls : ls.size = nL) (hL : ∀ q ∈ locs, Γ.1 ≤ q.base)
    (kk : ∀ (v : Option Value) (ν : Mem) (H1 : Heap) (locs1 : List Loc), post' v ν → HW Γ n g ν H1 → (∀ q ∈ locs1, Γ.1 ≤ q.base) → W p l e R s m args below meth c H1 locs1 ca sl Q (F0 m (pc + 3) ls (v.toList ++ rest))) : W p l e R s m args below meth c H locs ca sl Q (F0 m pc ls st) := by
  subst hst
  obtain ⟨⟨hM1, hM2, hM3⟩, hM4⟩ := hM
  refine run_W (g := g) (mc := 0) (ms := 0) (va_runS hfix h (va_cwS na hfix.2.2.2.2 (BW_in ?_) rfl rfl rfl hM3 hR) ⟨HWKS_blind, fun U hU hWm => ⟨rfl, by rw [hU]; exact hH, KS.moved hWm hKs⟩⟩ rfl hna hls rfl (lv_room hW) hd hcs) hL kk
  intro w hw
  simp only [va_wsS, List.mem_append, List.mem_cons, List.not_mem_nil, or_false] at hw
  rcases hw with (rfl | rfl | rfl) | rfl | hw
  · exact hl
  · exact hM4
  · exact hM2
  · exact hM1
  · exact hw
theorem i_coder {q : Nat} (hq : q < 30) : CT l Γ yJ0_coder_7d493 cJ0_coder_7d493 1 (some .byte) 0 0 0 0 [.ref (Γ.2.2.2.2.1 q)] g n μ (pE (vi 0) μ) := by
  refine Met.ofW (cc := cJ0_coder_7d493) (maxL := 1) (ret := (some .byte)) (by decide) rfl ?_
  intro p e s m args below meth c s₁ B hml hv
  obtain ⟨rfl, hH, hK⟩ := hv
  have hx := B.exec
  have hb := B.bytes
  have hr := B.returns
  have hts0 := atoms_spec (ws := Cond.code yJ0_coder_7d493 cJ0_coder_7d493 1 (some .byte) :: BW) B.pre
  have hts : ∀ w ∈ BW, w.before _ s = true := fun w hw => hts0 w (List.mem_cons_of_mem _ hw)
  have hown : s.vm.findClass RJ0 = some m.cls := findClass_of_methodNamed B.named
  have hlocks := B.notSynchronized
  have hS : va_S (fun q => Γ.1 ≤ q) s.heap s.heap [] := va_S.rf
  have hk0 : ∀ a : Nat, a < Γ.2.1.size → ¬ Γ.1 ≤ a → s.heap[a]? = Γ.2.1[a]? := fun a h1 h2 => hH.2.2.2.1 a (by omega)
  have hl := lv_entry [.ref (Γ.2.2.2.2.1 q)] (n := 1) (Nat.le_of_ble_eq_true rfl)
  rw [lg_entry_eq]
  generalize (lg_sl [.ref (Γ.2.2.2.2.1 q)] ++ List.replicate (1 - (lg_sl [.ref (Γ.2.2.2.2.1 q)]).length) Slot.unset).toArray = ls at hl ⊢
  have hl : lv_has ls 1 [(0, .ref (Γ.2.2.2.2.1 q))] := hl
  have hE := KS.str hH hK
  have hZ := va_Z.kept hK.2.2.2.2.1 hk0
  refine va_gets hx hb hZ hS hown (hts _ sw_compact) (fun _ h => h) dJ0_coder_7d493_0 ?_
  refine lv_if_eq (tgt := 13) hx hb dJ0_coder_7d493_3 (by decide) (fun z => absurd z (by decide)) (fun _ => ?_)
  refine lv_aload_n hx hb dJ0_coder_7d493_6 rfl (lv_at hl 0 rfl) ?_
  refine vk_getf hx hb (hE.1 q hq).2.1 hS hown (hts _ sw_coder) (fun _ h => h) dJ0_coder_7d493_7 ?_
  refine lv_goto (tgt := 14) hx hb dJ0_coder_7d493_10 (by decide) ?_
  exact W.zret (v := 0) hx hb hr rfl (fun t ht _ => ⟨_, μ, rfl, ⟨rfl, rfl⟩, by rw [ht]; exact hH⟩) (fun _ h => by cases h) dJ0_coder_7d493_14 hlocks
theorem i_isLatin1 {q : Nat} (hq : q < 30) : CT l Γ yJ0_isLatin1_aae02 cJ0_isLatin1_aae02 1 (some .boolean) 0 0 0 0 [.ref (Γ.2.2.2.2.1 q)] g n μ (pE (vi 1) μ) := by
  refine Met.ofW (cc := cJ0_isLatin1_aae02) (maxL := 1) (ret := (some .boolean)) (by decide) rfl ?_
  intro p e s m args below meth c s₁ B hml hv
  obtain ⟨rfl, hH, hK⟩ := hv
  have hx := B.exec
  have hb := B.bytes
  have hr := B.returns
  have hts0 := atoms_spec (ws := Cond.code yJ0_isLatin1_aae02 cJ0_isLatin1_aae02 1 (some .boolean) :: BW) B.pre
  have hts : ∀ w ∈ BW, w.before _ s = true := fun w hw => hts0 w (List.mem_cons_of_mem _ hw)
  have hown : s.vm.findClass RJ0 = some m.cls := findClass_of_methodNamed B.named
  have hlocks := B.notSynchronized
  have hS : va_S (fun q => Γ.1 ≤ q) s.heap s.heap [] := va_S.rf
  have hk0 : ∀ a : Nat, a < Γ.2.1.size → ¬ Γ.1 ≤ a → s.heap[a]? = Γ.2.1[a]? := fun a h1 h2 => hH.2.2.2.1 a (by omega)
  have hl := lv_entry [.ref (Γ.2.2.2.2.1 q)] (n := 1) (Nat.le_of_ble_eq_true rfl)
  rw [lg_entry_eq]
  generalize (lg_sl [.ref (Γ.2.2.2.2.1 q)] ++ List.replicate (1 - (lg_sl [.ref (Γ.2.2.2.2.1 q)]).length) Slot.unset).toArray = ls at hl ⊢
  have hl : lv_has ls 1 [(0, .ref (Γ.2.2.2.2.1 q))] := hl
  have hE := KS.str hH hK
  have hZ := va_Z.kept hK.2.2.2.2.1 hk0
  refine va_gets hx hb hZ hS hown (hts _ sw_compact) (fun _ h => h) dJ0_isLatin1_aae02_0 ?_
  refine lv_if_eq (tgt := 17) hx hb dJ0_isLatin1_aae02_3 (by decide) (fun z => absurd z (by decide)) (fun _ => ?_)
  refine lv_aload_n hx hb dJ0_isLatin1_aae02_6 rfl (lv_at hl 0 rfl) ?_
  refine vk_getf hx hb (hE.1 q hq).2.1 hS hown (hts _ sw_coder) (fun _ h => h) dJ0_isLatin1_aae02_7 ?_
  refine lv_if_ne (tgt := 17) hx hb dJ0_isLatin1_aae02_10 (by decide) (fun z => absurd rfl z) (fun _ => ?_)
  refine lv_iconst (v := 1) hx hb dJ0_isLatin1_aae02_13 (by decide) ?_
  refine lv_goto (tgt := 18) hx hb dJ0_isLatin1_aae02_14 (by decide) ?_
  exact W.zret (v := 1) hx hb hr rfl (fun t ht _ => ⟨_, μ, rfl, ⟨rfl, rfl⟩, by rw [ht]; exact hH⟩) (fun _ h => by cases h) dJ0_isLatin1_aae02_18 hlocks
theorem i_strLen {q : Nat} (hq : q < 30) : CT l Γ yJ0_length_8abf5 cJ0_length_8abf5 1 (some .int) 1 20 0 0 [.ref (Γ.2.2.2.2.1 q)] g n μ (pE (vi (sLen q : Int)) μ) := by
  refine Met.ofW (cc := cJ0_length_8abf5) (maxL := 1) (ret := (some .int)) (by decide) rfl ?_
  intro p e s m args below meth c s₁ B hml hv
  obtain ⟨rfl, hH, hK⟩ := hv
  have hx := B.exec
  have hb := B.bytes
  have hr := B.returns
  have hts0 := atoms_spec (ws := Cond.code yJ0_length_8abf5 cJ0_length_8abf5 1 (some .int) :: BW) B.pre
  have hts : ∀ w ∈ BW, w.before _ s = true := fun w hw => hts0 w (List.mem_cons_of_mem _ hw)
  have hown : s.vm.findClass RJ0 = some m.cls := findClass_of_methodNamed B.named
  have hlocks := B.notSynchronized
  have hS : va_S (fun q => Γ.1 ≤ q) s.heap s.heap [] := va_S.rf
  have hk0 : ∀ a : Nat, a < Γ.2.1.size → ¬ Γ.1 ≤ a → s.heap[a]? = Γ.2.1[a]? := fun a h1 h2 => hH.2.2.2.1 a (by omega)
  have hl := lv_entry [.ref (Γ.2.2.2.2.1 q)] (n := 1) (Nat.le_of_ble_eq_true rfl)
  rw [lg_entry_eq]
  generalize (lg_sl [.ref (Γ.2.2.2.2.1 q)] ++ List.replicate (1 - (lg_sl [.ref (Γ.2.2.2.2.1 q)]).length) Slot.unset).toArray = ls at hl ⊢
  have hl : lv_has ls 1 [(0, .ref (Γ.2.2.2.2.1 q))] := hl
  have hE := KS.str hH hK
  have hlen : (TXL.map List.length).getD q 0 = sLen q := by
    have : ∀ q : Fin 30, (TXL.map List.length).getD q.1 0 = sLen q.1 := by decide +kernel
    exact this ⟨q, hq⟩
  have hsm : sLen q < 1000 := by
    have : ∀ q : Fin 30, sLen q.1 < 1000 := by decide +kernel
    exact this ⟨q, hq⟩
  refine lv_aload_n hx hb dJ0_length_8abf5_0 rfl (lv_at hl 0 rfl) ?_
  refine vk_getf hx hb (hE.1 q hq).2.2.1 hS hown (hts _ sw_value) (fun _ h => h) dJ0_length_8abf5_1 ?_
  refine va_tlen (v := nI (sLen q)) hx hb (hE.1 q hq).2.2.2 hS (by rw [hlen]; rfl) dJ0_length_8abf5_4 ?_
  refine lv_aload_n hx hb dJ0_length_8abf5_5 rfl (lv_at hl 0 rfl) ?_
  refine va_runW ⟨hx, hb, hml, hown, hts⟩ hK hH (i_coder hq) vk_J0_coder_7d493 rfl (vk_recv hE hq hS) sm_coder ⟨Nat.le_of_ble_eq_true rfl, Nat.le_of_ble_eq_true rfl⟩ ⟨Nat.zero_le _, Nat.zero_le _⟩ rfl rfl (Nat.le_of_ble_eq_true rfl) dJ0_length_8abf5_6 hl.1 (fun _ h => by cases h) (fun v ν H1 locs1 hp h1 hL => ?_)
  obtain ⟨rfl, rfl⟩ := hp
  refine lv_ishr (x := nI (sLen q)) (y := 0) hx hb dJ0_length_8abf5_9 ?_
  rw [sc_shr0 (by omega)]
  exact W.iret (v := nI (sLen q)) hx hb hr (fun t ht _ => ⟨_, _, rfl, ⟨rfl, rfl⟩, by rw [ht]; exact h1⟩) hL dJ0_length_8abf5_10 hlocks
theorem i_pcheck {x y : Int} {t : Nat} (h0 : 0 ≤ w x) (h1 : w x < w y) : CT l Γ yJ3_checkIndex_8e157 cJ3_checkIndex_8e157 3 (some .int) 0 0 0 0 [vi x, vi y, .ref t] g n μ (pE (vi x) μ) := by
  refine Met.ofW (cc := cJ3_checkIndex_8e157) (maxL := 3) (ret := (some .int)) (by decide) rfl ?_
  intro p e s m args below meth c s₁ B hml hv
  obtain ⟨rfl, hH, hK⟩ := hv
  have hx := B.exec
  have hb := B.bytes
  have hr := B.returns
  have hts0 := atoms_spec (ws := Cond.code yJ3_checkIndex_8e157 cJ3_checkIndex_8e157 3 (some .int) :: BW) B.pre
  have hts : ∀ w ∈ BW, w.before _ s = true := fun w hw => hts0 w (List.mem_cons_of_mem _ hw)
  have hown : s.vm.findClass RJ3 = some m.cls := findClass_of_methodNamed B.named
  have hlocks := B.notSynchronized
  have hS : va_S (fun q => Γ.1 ≤ q) s.heap s.heap [] := va_S.rf
  have hk0 : ∀ a : Nat, a < Γ.2.1.size → ¬ Γ.1 ≤ a → s.heap[a]? = Γ.2.1[a]? := fun a h1 h2 => hH.2.2.2.1 a (by omega)
  have hl := lv_entry [vi x, vi y, .ref t] (n := 3) (Nat.le_of_ble_eq_true rfl)
  rw [lg_entry_eq]
  generalize (lg_sl [vi x, vi y, .ref t] ++ List.replicate (3 - (lg_sl [vi x, vi y, .ref t]).length) Slot.unset).toArray = ls at hl ⊢
  have hl : lv_has ls 3 [(0, vi x), (1, vi y), (2, .ref t)] := hl
  refine lv_iload_n hx hb dJ3_checkIndex_8e157_0 rfl (lv_at hl 0 rfl) ?_
  refine lv_if_lt (tgt := 9) hx hb dJ3_checkIndex_8e157_1 (by decide) (fun z => absurd ((ofInt_lt (y := 0)).mp z) (by rw [show w 0 = 0 from rfl]; omega)) (fun _ => ?_)
  refine lv_iload_n hx hb dJ3_checkIndex_8e157_4 rfl (lv_at hl 0 rfl) ?_
  refine lv_iload_n hx hb dJ3_checkIndex_8e157_5 rfl (lv_at hl 1 rfl) ?_
  refine lv_icmp_lt (tgt := 16) hx hb dJ3_checkIndex_8e157_6 (by decide) (fun _ => ?_) (fun z => absurd (ofInt_lt.mpr h1) z)
  refine lv_iload_n hx hb dJ3_checkIndex_8e157_16 rfl (lv_at hl 0 rfl) ?_
  exact W.iret hx hb hr (fun t ht _ => ⟨_, _, rfl, ⟨rfl, rfl⟩, by rw [ht]; exact hH⟩) (fun _ h => by cases h) dJ3_checkIndex_8e157_17 hlocks
theorem i_pcheckN {x y : Int} (h0 : 0 ≤ w x) (h1 : w x < w y) : CT l Γ yJ3_checkIndex_8e157 cJ3_checkIndex_8e157 3 (some .int) 0 0 0 0 [vi x, vi y, .null] g n μ (pE (vi x) μ) := by
  refine Met.ofW (cc := cJ3_checkIndex_8e157) (maxL := 3) (ret := (some .int)) (by decide) rfl ?_
  intro p e s m args below meth c s₁ B hml hv
  obtain ⟨rfl, hH, hK⟩ := hv
  have hx := B.exec
  have hb := B.bytes
  have hr := B.returns
  have hts0 := atoms_spec (ws := Cond.code yJ3_checkIndex_8e157 cJ3_checkIndex_8e157 3 (some .int) :: BW) B.pre
  have hts : ∀ w ∈ BW, w.before _ s = true := fun w hw => hts0 w (List.mem_cons_of_mem _ hw)
  have hown : s.vm.findClass RJ3 = some m.cls := findClass_of_methodNamed B.named
  have hlocks := B.notSynchronized
  have hS : va_S (fun q => Γ.1 ≤ q) s.heap s.heap [] := va_S.rf
  have hk0 : ∀ a : Nat, a < Γ.2.1.size → ¬ Γ.1 ≤ a → s.heap[a]? = Γ.2.1[a]? := fun a h1 h2 => hH.2.2.2.1 a (by omega)
  have hl := lv_entry [vi x, vi y, .null] (n := 3) (Nat.le_of_ble_eq_true rfl)
  rw [lg_entry_eq]
  generalize (lg_sl [vi x, vi y, .null] ++ List.replicate (3 - (lg_sl [vi x, vi y, .null]).length) Slot.unset).toArray = ls at hl ⊢
  have hl : lv_has ls 3 [(0, vi x), (1, vi y), (2, .null)] := hl
  refine lv_iload_n hx hb dJ3_checkIndex_8e157_0 rfl (lv_at hl 0 rfl) ?_
  refine lv_if_lt (tgt := 9) hx hb dJ3_checkIndex_8e157_1 (by decide) (fun z => absurd ((ofInt_lt (y := 0)).mp z) (by rw [show w 0 = 0 from rfl]; omega)) (fun _ => ?_)
  refine lv_iload_n hx hb dJ3_checkIndex_8e157_4 rfl (lv_at hl 0 rfl) ?_
  refine lv_iload_n hx hb dJ3_checkIndex_8e157_5 rfl (lv_at hl 1 rfl) ?_
  refine lv_icmp_lt (tgt := 16) hx hb dJ3_checkIndex_8e157_6 (by decide) (fun _ => ?_) (fun z => absurd (ofInt_lt.mpr h1) z)
  refine lv_iload_n hx hb dJ3_checkIndex_8e157_16 rfl (lv_at hl 0 rfl) ?_
  exact W.iret hx hb hr (fun t ht _ => ⟨_, _, rfl, ⟨rfl, rfl⟩, by rw [ht]; exact hH⟩) (fun _ h => by cases h) dJ3_checkIndex_8e157_17 hlocks
theorem i_scheck {x y : Int} (h0 : 0 ≤ w x) (h1 : w x < w y) : CT l Γ yJ0_checkIndex_df160 cJ0_checkIndex_df160 2 none 1 22 0 0 [vi x, vi y] g n μ (pM μ) := by
  refine Met.ofW (cc := cJ0_checkIndex_df160) (maxL := 2) (ret := none) (by decide) rfl ?_
  intro p e s m args below meth c s₁ B hml hv
  obtain ⟨rfl, hH, hK⟩ := hv
  have hx := B.exec
  have hb := B.bytes
  have hr := B.returns
  have hts0 := atoms_spec (ws := Cond.code yJ0_checkIndex_df160 cJ0_checkIndex_df160 2 none :: BW) B.pre
  have hts : ∀ w ∈ BW, w.before _ s = true := fun w hw => hts0 w (List.mem_cons_of_mem _ hw)
  have hown : s.vm.findClass RJ0 = some m.cls := findClass_of_methodNamed B.named
  have hlocks := B.notSynchronized
  have hS : va_S (fun q => Γ.1 ≤ q) s.heap s.heap [] := va_S.rf
  have hk0 : ∀ a : Nat, a < Γ.2.1.size → ¬ Γ.1 ≤ a → s.heap[a]? = Γ.2.1[a]? := fun a h1 h2 => hH.2.2.2.1 a (by omega)
  have hl := lv_entry [vi x, vi y] (n := 2) (Nat.le_of_ble_eq_true rfl)
  rw [lg_entry_eq]
  generalize (lg_sl [vi x, vi y] ++ List.replicate (2 - (lg_sl [vi x, vi y]).length) Slot.unset).toArray = ls at hl ⊢
  have hl : lv_has ls 2 [(0, vi x), (1, vi y)] := hl
  rcases hK.2.2.2.2.2.1 with hZ0 | ⟨t, hZ0⟩
  · have hZ := va_Z.kept hZ0 hk0
    refine lv_iload_n hx hb dJ0_checkIndex_df160_0 rfl (lv_at hl 0 rfl) ?_
    refine lv_iload_n hx hb dJ0_checkIndex_df160_1 rfl (lv_at hl 1 rfl) ?_
    refine va_gets hx hb hZ hS hown (hts _ sw_fmt) (fun _ h => h) dJ0_checkIndex_df160_2 ?_
    refine va_runZ (rest := []) ⟨hx, hb, hml, hown, hts⟩ hK hH (i_pcheckN h0 h1) sk_J3_checkIndex_8e157 sm_pc ⟨Nat.le_of_ble_eq_true rfl, Nat.le_of_ble_eq_true rfl⟩ ⟨Nat.zero_le _, Nat.zero_le _⟩ rfl rfl (Nat.le_of_ble_eq_true rfl) dJ0_checkIndex_df160_5 hl.1 (fun _ h => by cases h) (fun v ν H1 locs1 hp h1 hL => ?_)
    obtain ⟨rfl, rfl⟩ := hp
    refine lv_pop (va := vi x) hx hb dJ0_checkIndex_df160_8 rfl ?_
    exact W.vret hx hb hr (fun t ht _ => ⟨_, _, rfl, ⟨rfl, rfl⟩, by rw [ht]; exact h1⟩) hL dJ0_checkIndex_df160_9 hlocks
  · have hZ := va_Z.kept hZ0 hk0
    refine lv_iload_n hx hb dJ0_checkIndex_df160_0 rfl (lv_at hl 0 rfl) ?_
    refine lv_iload_n hx hb dJ0_checkIndex_df160_1 rfl (lv_at hl 1 rfl) ?_
    refine va_gets hx hb hZ hS hown (hts _ sw_fmt) (fun _ h => h) dJ0_checkIndex_df160_2 ?_
    refine va_runZ (rest := []) ⟨hx, hb, hml, hown, hts⟩ hK hH (i_pcheck (t := t) h0 h1) sk_J3_checkIndex_8e157 sm_pc ⟨Nat.le_of_ble_eq_true rfl, Nat.le_of_ble_eq_true rfl⟩ ⟨Nat.zero_le _, Nat.zero_le _⟩ rfl rfl (Nat.le_of_ble_eq_true rfl) dJ0_checkIndex_df160_5 hl.1 (fun _ h => by cases h) (fun v ν H1 locs1 hp h1 hL => ?_)
    obtain ⟨rfl, rfl⟩ := hp
    refine lv_pop (va := vi x) hx hb dJ0_checkIndex_df160_8 rfl ?_
    exact W.vret hx hb hr (fun t ht _ => ⟨_, _, rfl, ⟨rfl, rfl⟩, by rw [ht]; exact h1⟩) hL dJ0_checkIndex_df160_9 hlocks
theorem i_latinAt {q : Nat} {x : Int} (hq : q < 30) (h0 : 0 ≤ w x) (h1 : w x < (sLen q : Int)) : CT l Γ yJ1_charAt_3b067 cJ1_charAt_3b067 2 (some .char) 2 43 0 0 [.ref (Γ.2.2.2.2.2 q), vi x] g n μ (pE (vi (sChr q (w x))) μ) := by
  refine Met.ofW (cc := cJ1_charAt_3b067) (maxL := 2) (ret := (some .char)) (by decide) rfl ?_
  intro p e s m args below meth c s₁ B hml hv
  obtain ⟨rfl, hH, hK⟩ := hv
  have hx := B.exec
  have hb := B.bytes
  have hr := B.returns
  have hts0 := atoms_spec (ws := Cond.code yJ1_charAt_3b067 cJ1_charAt_3b067 2 (some .char) :: BW) B.pre
  have hts : ∀ w ∈ BW, w.before _ s = true := fun w hw => hts0 w (List.mem_cons_of_mem _ hw)
  have hown : s.vm.findClass RJ1 = some m.cls := findClass_of_methodNamed B.named
  have hlocks := B.notSynchronized
  have hS : va_S (fun q => Γ.1 ≤ q) s.heap s.heap [] := va_S.rf
  have hk0 : ∀ a : Nat, a < Γ.2.1.size → ¬ Γ.1 ≤ a → s.heap[a]? = Γ.2.1[a]? := fun a h1 h2 => hH.2.2.2.1 a (by omega)
  have hl := lv_entry [.ref (Γ.2.2.2.2.2 q), vi x] (n := 2) (Nat.le_of_ble_eq_true rfl)
  rw [lg_entry_eq]
  generalize (lg_sl [.ref (Γ.2.2.2.2.2 q), vi x] ++ List.replicate (2 - (lg_sl [.ref (Γ.2.2.2.2.2 q), vi x]).length) Slot.unset).toArray = ls at hl ⊢
  have hl : lv_has ls 2 [(0, .ref (Γ.2.2.2.2.2 q)), (1, vi x)] := hl
  have hE := KS.str hH hK
  have hall : ∀ q : Fin 30, (TXL.map List.length).getD q.1 0 = sLen q.1 ∧ sLen q.1 < 1000 ∧ ∀ j : Fin (sLen q.1), ((TXL.map fun l => l.map fun n => Int32.ofNat n).getD q.1 []).getD j.1 0 = Int32.ofNat ((TXL.getD q.1 []).getD j.1 0) ∧ (TXL.getD q.1 []).getD j.1 0 < 128 := by decide +kernel
  obtain ⟨hlen, hsm, hch⟩ := hall ⟨q, hq⟩
  have ew : w (sLen q : Int) = sLen q := w_nat (by simp only at hsm; omega)
  have hcl := clamp_w h0
  have hj : (Int32.ofInt x).toNatClampNeg < sLen q := by omega
  obtain ⟨hc1, hc2⟩ := hch ⟨_, hj⟩
  simp only at hlen hsm hc1 hc2
  refine lv_iload_n hx hb dJ1_charAt_3b067_0 rfl (lv_at hl 1 rfl) ?_
  refine lv_aload_n hx hb dJ1_charAt_3b067_1 rfl (lv_at hl 0 rfl) ?_
  refine va_tlen (v := nI (sLen q)) hx hb (hE.1 q hq).2.2.2 hS (by rw [hlen]; rfl) dJ1_charAt_3b067_2 ?_
  refine va_runZ (rest := []) ⟨hx, hb, hml, hown, hts⟩ hK hH (i_scheck (x := x) (y := (sLen q : Int)) h0 (by rw [ew]; exact h1)) sk_J0_checkIndex_df160 sm_ci ⟨Nat.le_of_ble_eq_true rfl, Nat.le_of_ble_eq_true rfl⟩ ⟨Nat.zero_le _, Nat.zero_le _⟩ rfl rfl (Nat.le_of_ble_eq_true rfl) dJ1_charAt_3b067_3 hl.1 (fun _ h => by cases h) (fun v ν H1 locs1 hp hh1 hL => ?_)
  obtain ⟨rfl, rfl⟩ := hp
  have hS1 := HW.after hH hh1 hL
  refine lv_aload_n hx hb dJ1_charAt_3b067_6 rfl (lv_at hl 0 rfl) ?_
  refine lv_iload_n hx hb dJ1_charAt_3b067_7 rfl (lv_at hl 1 rfl) ?_
  refine va_tb (v := .int (Int32.ofNat ((TXL.getD q []).getD (Int32.ofInt x).toNatClampNeg 0))) hx hb (hE.1 q hq).2.2.2 hS1 (by rw [hlen]; exact in_w h0 h1) (by rw [hc1]) dJ1_charAt_3b067_8 ?_
  refine lv_sipush (v := 255) hx hb dJ1_charAt_3b067_9 (by decide) ?_
  refine lv_iand hx hb dJ1_charAt_3b067_12 ?_
  refine lv_i2c (v := Int32.ofNat ((TXL.getD q []).getD (Int32.ofInt x).toNatClampNeg 0)) hx hb dJ1_charAt_3b067_13 ?_ ?_
  · have : ∀ c : Fin 128, ((Int32.ofNat c.1 &&& 255).toUInt32 % 65536).toInt32 = Int32.ofNat c.1 := by decide +kernel
    exact this ⟨_, hc2⟩
  · have hn : ∀ c : Fin 128, narrow .char (.int (Int32.ofNat c.1)) = .int (Int32.ofNat c.1) := by decide +kernel
    refine W.zret hx hb hr (hn ⟨_, hc2⟩) (fun t ht _ => ⟨_, _, rfl, ⟨?_, rfl⟩, by rw [ht]; exact hh1⟩) hL dJ1_charAt_3b067_14 hlocks
    have e1 : (Int32.ofInt x).toNatClampNeg = (w x).toNat := by omega
    show some (Value.int (Int32.ofNat ((TXL.getD q []).getD (Int32.ofInt x).toNatClampNeg 0))) = some (vi (((TXL.getD q []).getD (w x).toNat 0 : Nat) : Int))
    unfold vi
    rw [e1, Int32.ofInt_eq_ofNat]
theorem i_charAt {q : Nat} {x : Int} (hq : q < 30) (h0 : 0 ≤ w x) (h1 : w x < (sLen q : Int)) : CT l Γ yJ0_charAt_5068e cJ0_charAt_5068e 2 (some .char) 3 64 0 0 [.ref (Γ.2.2.2.2.1 q), vi x] g n μ (pE (vi (sChr q (w x))) μ) := by
  refine Met.ofW (cc := cJ0_charAt_5068e) (maxL := 2) (ret := (some .char)) (by decide) rfl ?_
  intro p e s m args below meth c s₁ B hml hv
  obtain ⟨rfl, hH, hK⟩ := hv
  have hx := B.exec
  have hb := B.bytes
  have hr := B.returns
  have hts0 := atoms_spec (ws := Cond.code yJ0_charAt_5068e cJ0_charAt_5068e 2 (some .char) :: BW) B.pre
  have hts : ∀ w ∈ BW, w.before _ s = true := fun w hw => hts0 w (List.mem_cons_of_mem _ hw)
  have hown : s.vm.findClass RJ0 = some m.cls := findClass_of_methodNamed B.named
  have hlocks := B.notSynchronized
  have hS : va_S (fun q => Γ.1 ≤ q) s.heap s.heap [] := va_S.rf
  have hk0 : ∀ a : Nat, a < Γ.2.1.size → ¬ Γ.1 ≤ a → s.heap[a]? = Γ.2.1[a]? := fun a h1 h2 => hH.2.2.2.1 a (by omega)
  have hl := lv_entry [.ref (Γ.2.2.2.2.1 q), vi x] (n := 2) (Nat.le_of_ble_eq_true rfl)
  rw [lg_entry_eq]
  generalize (lg_sl [.ref (Γ.2.2.2.2.1 q), vi x] ++ List.replicate (2 - (lg_sl [.ref (Γ.2.2.2.2.1 q), vi x]).length) Slot.unset).toArray = ls at hl ⊢
  have hl : lv_has ls 2 [(0, .ref (Γ.2.2.2.2.1 q)), (1, vi x)] := hl
  have hE := KS.str hH hK
  have hc2 : (TXL.getD q []).getD (w x).toNat 0 < 128 := by
    have : ∀ q : Fin 30, ∀ j : Fin (sLen q.1), (TXL.getD q.1 []).getD j.1 0 < 128 := by decide +kernel
    exact this ⟨q, hq⟩ ⟨(w x).toNat, by simp only; omega⟩
  refine lv_aload_n hx hb dJ0_charAt_5068e_0 rfl (lv_at hl 0 rfl) ?_
  refine va_runW (rest := []) ⟨hx, hb, hml, hown, hts⟩ hK hH (i_isLatin1 hq) vk_J0_isLatin1_aae02 rfl (vk_recv hE hq hS) sm_latin ⟨Nat.le_of_ble_eq_true rfl, Nat.le_of_ble_eq_true rfl⟩ ⟨Nat.zero_le _, Nat.zero_le _⟩ rfl rfl (Nat.le_of_ble_eq_true rfl) dJ0_charAt_5068e_1 hl.1 (fun _ h => by cases h) (fun v ν H1 locs1 hp hh1 hL => ?_)
  obtain ⟨rfl, rfl⟩ := hp
  have hS1 := HW.after hH hh1 hL
  refine lv_if_eq (x := Int32.ofInt 1) (tgt := 16) hx hb dJ0_charAt_5068e_4 (by decide) (fun z => absurd z (by decide)) (fun _ => ?_)
  refine lv_aload_n hx hb dJ0_charAt_5068e_7 rfl (lv_at hl 0 rfl) ?_
  refine vk_getf hx hb (hE.1 q hq).2.2.1 hS1 hown (hts _ sw_value) (fun _ h => h) dJ0_charAt_5068e_8 ?_
  refine lv_iload_n hx hb dJ0_charAt_5068e_11 rfl (lv_at hl 1 rfl) ?_
  refine va_runZ (rest := []) ⟨hx, hb, hml, hown, hts⟩ hK hh1 (i_latinAt hq h0 h1) sk_J1_charAt_3b067 sm_l1 ⟨Nat.le_of_ble_eq_true rfl, Nat.le_of_ble_eq_true rfl⟩ ⟨Nat.zero_le _, Nat.zero_le _⟩ rfl rfl (Nat.le_of_ble_eq_true rfl) dJ0_charAt_5068e_12 hl.1 hL (fun v ν H1 locs1 hp hh2 hL => ?_)
  obtain ⟨rfl, rfl⟩ := hp
  have hn : ∀ c : Fin 128, narrow .char (vi (c.1 : Int)) = vi (c.1 : Int) := by decide +kernel
  exact W.zret hx hb hr (hn ⟨_, hc2⟩) (fun t ht _ => ⟨_, _, rfl, ⟨rfl, rfl⟩, by rw [ht]; exact hh2⟩) hL dJ0_charAt_5068e_15 hlocks
variable {own : String} {cc : ByteArray} {Y : Yt} {QQ : List Frame → Array Value → State → State → Prop} {ca sl pc : Nat} {lv : List (Nat × Value)} {rest : List Value}
theorem z_strLen {q idx : Nat} (hd : decode cc pc = .ok (.invokevirtual idx, 3)) (hq : q < 30) (hM : VOK yJ0_length_8abf5 cJ0_length_8abf5 1 (some .int) 0) (hl : Cond.methodLink own idx yJ0_length_8abf5 ∈ BW) (hR : 1 + 1 ≤ Y.2.2.2.1.frames ∧ 8 + (1 + 11) + 20 ≤ Y.2.2.2.1.locals) (hcs : ca ≤ Y.2.2.2.1.cells ∧ sl ≤ Y.2.2.2.1.slots) (hW : (rest.map fun v => v.category).sum ≤ 8)
    (kk : SWQ l Γ own cc Y QQ g n ca sl μ (pc + 3) lv (vi ((sLen q : Nat) : Int) :: rest)) : SWQ l Γ own cc Y QQ g n ca sl μ pc lv (.ref (Γ.2.2.2.2.1 q) :: rest) := by
  intro p e s m args below meth c H locs ls F hH hL hl'
  have hE : vk_S 30 (TXL.map List.length) (TXL.map fun l => l.map fun n => Int32.ofNat n) Γ.2.2.2.2.1 Γ.2.2.2.2.2 (fun q => Γ.1 ≤ q) s H := vk_S.kept (H := Γ.2.1) F.2.2.2.2.2.2.1 (fun a h1 h2 => hH.2.2.2.1 a (Nat.not_le.mp h2))
  obtain ⟨cell, c1, c2, c3, -⟩ := (hE.1 q hq).1
  refine va_runW F.1 F.2.2.2.2 hH (i_strLen hq) hM rfl ⟨cell, c1, c2, c3⟩ hl hR hcs rfl rfl hW hd hl'.1 hL (fun v ν H1 locs1 hp h1 hL1 => ?_)
  obtain ⟨rfl, rfl⟩ := hp
  exact kk p e s m args below meth c H1 locs1 ls F h1 hL1 hl'
theorem z_strChr {q idx : Nat} {x : Int} (hd : decode cc pc = .ok (.invokevirtual idx, 3)) (hq : q < 30) (h0 : 0 ≤ w x) (h1 : w x < ((sLen q : Nat) : Int)) (hM : VOK yJ0_charAt_5068e cJ0_charAt_5068e 2 (some .char) 1) (hl : Cond.methodLink own idx yJ0_charAt_5068e ∈ BW) (hR : 3 + 1 ≤ Y.2.2.2.1.frames ∧ 8 + (2 + 11) + 64 ≤ Y.2.2.2.1.locals) (hcs : ca ≤ Y.2.2.2.1.cells ∧ sl ≤ Y.2.2.2.1.slots) (hW : (rest.map fun v => v.category).sum ≤ 8)
    (kk : SWQ l Γ own cc Y QQ g n ca sl μ (pc + 3) lv (vi (sChr q (w x)) :: rest)) : SWQ l Γ own cc Y QQ g n ca sl μ pc lv (vi x :: .ref (Γ.2.2.2.2.1 q) :: rest) := by
  intro p e s m args below meth c H locs ls F hH hL hl'
  have hE : vk_S 30 (TXL.map List.length) (TXL.map fun l => l.map fun n => Int32.ofNat n) Γ.2.2.2.2.1 Γ.2.2.2.2.2 (fun q => Γ.1 ≤ q) s H := vk_S.kept (H := Γ.2.1) F.2.2.2.2.2.2.1 (fun a h1 h2 => hH.2.2.2.1 a (Nat.not_le.mp h2))
  obtain ⟨cell, c1, c2, c3, -⟩ := (hE.1 q hq).1
  refine va_runW F.1 F.2.2.2.2 hH (i_charAt hq h0 h1) hM rfl ⟨cell, c1, c2, c3⟩ hl hR hcs rfl rfl hW hd hl'.1 hL (fun v ν H1 locs1 hp h1 hL1 => ?_)
  obtain ⟨rfl, rfl⟩ := hp
  exact kk p e s m args below meth c H1 locs1 ls F h1 hL1 hl'
end Strings
