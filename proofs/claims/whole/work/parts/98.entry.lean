/-! THE START: the law's entry (made by ks98.py) -/
theorem ks_nw : ∀ t ∈ NWL, Cond.methodLinkNest t.1 t.2.1 t.2.2.1 t.2.2.2 ∈ lw_tbl := by decide +kernel
theorem ks_sr : ∀ t ∈ STL, Cond.stringRef t.1 t.2.1 t.2.2.1 ∈ lw_tbl := by decide +kernel
set_option maxHeartbeats 4000000 in
theorem ks_start {s : State} {b : Nat} (hts : ∀ w ∈ lw_tbl, w.before #[Value.ref b] s = true) (hgv : (Jvm.Cond.and given_1 narrow_1).before #[Value.ref b] s = true) : ∃ Γ : Gam, Γ.1 = s.heap.size ∧ Γ.2.1 = s.heap ∧ KS Γ s := by
  have hB : ∀ w ∈ BW, w.before #[Value.ref b] s = true := fun w hw => hts w (List.mem_filter.mp hw).1
  have hf : ∀ c ∈ ksFL, c.before #[Value.ref b] s = true := flat_of_before _ hgv
  have hA : ∀ a : Nat, a < s.heap.size → ¬ (fun q => s.heap.size ≤ q) a := fun a h => Nat.not_le.mpr h
  obtain ⟨adK, adV, hS, hT⟩ := ks_txt (A := fun q => s.heap.size ≤ q) hf hA
  obtain ⟨c0, i0, k0⟩ := u_known (C := RX0) (T := TX0) (N := 9) (n := 9) hB uw_0 (hB _ is_0)
  obtain ⟨c1, i1, k1⟩ := u_known (C := RX1) (T := TX1) (N := 18) (n := 18) hB uw_1 (hB _ is_1)
  obtain ⟨c2, i2, k2⟩ := u_known (C := RX2) (T := TX2) (N := 17) (n := 17) hB uw_2 (hB _ is_2)
  obtain ⟨c3, i3, k3⟩ := u_known (C := RX3) (T := TX3) (N := 9) (n := 9) hB uw_3 (hB _ is_3)
  obtain ⟨c4, i4, k4⟩ := u_known (C := RX4) (T := TX4) (N := 4) (n := 4) hB uw_4 (hB _ is_4)
  obtain ⟨c5, i5, k5⟩ := u_known (C := RX5) (T := TX5) (N := 3) (n := 3) hB uw_5 (hB _ is_5)
  obtain ⟨c6, i6, k6⟩ := u_known (C := RX6) (T := TX6) (N := 10) (n := 10) hB uw_6 (hB _ is_6)
  obtain ⟨c7, i7, k7⟩ := u_known (C := RX7) (T := TX7) (N := 13) (n := 13) hB uw_7 (hB _ is_7)
  obtain ⟨c8, i8, k8⟩ := u_known (C := RX8) (T := TX8) (N := 7) (n := 7) hB uw_8 (hB _ is_8)
  obtain ⟨c9, i9, k9⟩ := u_known (C := RX9) (T := TX9) (N := 8) (n := 8) hB uw_9 (hB _ is_9)
  obtain ⟨c10, i10, k10⟩ := u_known (C := RX10) (T := TX10) (N := 16) (n := 16) hB uw_10 (hB _ is_10)
  obtain ⟨c11, i11, k11⟩ := u_known (C := RX11) (T := TX11) (N := 10) (n := 10) hB uw_11 (hB _ is_11)
  obtain ⟨c12, i12, k12⟩ := u_known (C := RX12) (T := TX12) (N := 90) (n := 90) hB uw_12 (hB _ is_12)
  obtain ⟨a1, h1, f1⟩ := ks_arr (hB _ ac_int)
  obtain ⟨a2, h2, f2⟩ := ks_arr (hB _ ac_long)
  obtain ⟨a3, h3, f3⟩ := ks_arr (hB _ ac_byte)
  obtain ⟨a4, h4, f4⟩ := ks_arr (hB _ ac_boolean)
  obtain ⟨a5, h5, r5⟩ := ks_arrO (C := RX8) (hts (Cond.arrayOver (.object RX8)) (List.mem_of_getElem? (i := 271) (by decide +kernel)))
  obtain ⟨G, hG⟩ : ∃ G : va_G, G = (fun k => if k = 0 then c0 else if k = 1 then c1 else if k = 2 then c2 else if k = 3 then c3 else if k = 4 then c4 else if k = 5 then c5 else if k = 6 then c6 else if k = 7 then c7 else if k = 8 then c8 else if k = 9 then c9 else if k = 10 then c10 else if k = 11 then c11 else c12, fun k => if k = 0 then i0 else if k = 1 then i1 else if k = 2 then i2 else if k = 3 then i3 else if k = 4 then i4 else if k = 5 then i5 else if k = 6 then i6 else if k = 7 then i7 else if k = 8 then i8 else if k = 9 then i9 else if k = 10 then i10 else if k = 11 then i11 else i12) := ⟨_, rfl⟩
  obtain ⟨cl, hcl⟩ : ∃ cl : Nat → ClassId, cl = fun n => if n = 1 then a1 else if n = 2 then a2 else if n = 3 then a3 else if n = 4 then a4 else a5 := ⟨_, rfl⟩
  refine ⟨(s.heap.size, s.heap, G, cl, adK, adV), rfl, rfl, ⟨fun c q hq => ?_, fun k q hq => ?_⟩, fun t ht => ?_, hS, fun t ht => ?_, ?_, ?_, ?_⟩
  · subst hG
    match c, hq with
    | 0, hq => cases hq; exact k0
    | 1, hq => cases hq; exact k1
    | 2, hq => cases hq; exact k2
    | 3, hq => cases hq; exact k3
    | 4, hq => cases hq; exact k4
    | 5, hq => cases hq; exact k5
    | 6, hq => cases hq; exact k6
    | 7, hq => cases hq; exact k7
    | 8, hq => cases hq; exact k8
    | 9, hq => cases hq; exact k9
    | 10, hq => cases hq; exact k10
    | 11, hq => cases hq; exact k11
    | 12, hq => cases hq; exact k12
    | k + 13, hq => simp [vwCl] at hq
  · subst hcl
    match k, hq with
    | 0, hq => exact (Option.some.inj (show some (a1, FieldType.int) = some q from hq)) ▸ ⟨h1, f1⟩
    | 1, hq => exact (Option.some.inj (show some (a2, FieldType.long) = some q from hq)) ▸ ⟨h2, f2⟩
    | 2, hq => exact (Option.some.inj (show some (a3, FieldType.byte) = some q from hq)) ▸ ⟨h3, f3⟩
    | 3, hq => exact (Option.some.inj (show some (a4, FieldType.boolean) = some q from hq)) ▸ ⟨h4, f4⟩
    | 4, hq => exact (Option.some.inj (show some (a5, FieldType.object RX8) = some q from hq)) ▸ ⟨h5, r5⟩
    | k + 5, hq => simp [tysOf] at hq
  · exact va_Nw.of rfl (hts _ (ks_nw t ht))
  · obtain ⟨k, hk, rfl⟩ := List.mem_iff_getElem.mp ht
    have hl : STL.length = 60 := rfl
    have eg : STL.getD k ("", 0, "", 0) = STL[k] := by rw [List.getD_eq_getElem?_getD, List.getElem?_eq_getElem hk]; rfl
    have c3 := ks_c3 ⟨k, by omega⟩
    have c4 := ks_c4 ⟨k, by omega⟩
    simp only [eg] at c3 c4
    refine vk_R.of (hts _ (ks_sr _ ht)) ?_
    rcases c3 with ⟨e1, e2⟩ | e
    · have hh := hT _ c4
      unfold ksT at hh
      rw [← e1, ← e2] at hh
      exact hh
    · exact Cond.eq_plain (first := s) (out := none) (idx := []) (hf _ (List.mem_of_getElem? e)) (hT _ c4) (Or.inr (Or.inr rfl))
  · exact va_Zof (hts (Cond.laysStatic "java/lang/String" "COMPACT_STRINGS" "Z") (List.mem_of_getElem? (i := 859) (by decide +kernel))) (hts (Cond.initialized "java/lang/String") (List.mem_of_getElem? (i := 144) (by decide +kernel))) (va_eqt (hf _ (List.mem_of_getElem? (i := 4) (by decide +kernel)))) hA
  · exact va_Zqof (hts (Cond.laysStatic "jdk/internal/util/Preconditions" "SIOOBE_FORMATTER" "Ljava/util/function/BiFunction;") (List.mem_of_getElem? (i := 875) (by decide +kernel))) (hts (Cond.initialized "jdk/internal/util/Preconditions") (List.mem_of_getElem? (i := 146) (by decide +kernel))) (hf _ (List.mem_of_getElem? (i := 5) (by decide +kernel))) hA
  · exact va_AO.of (hts (Cond.arrayOver (.object RX8)) (List.mem_of_getElem? (i := 271) (by decide +kernel)))
/-- the law, from its entry, but for the call of row -/
theorem start_of {p : Program} {e : Env} {s : State} {m : MethodId} {below : List Frame} {meth : Method} {c : Code} (l : Launch) {b L : Nat} {xs : Nat → Int32} (hL : L ≤ 3072) (C0 : lw_At p s m meth c b L xs) (hrow : ∀ Γ : Gam, Γ.1 = s.heap.size → Γ.2.1 = s.heap → KS Γ s → RowOK l Γ b L xs meth.name) : W p l e room_1 s m #[Value.ref b] below meth c s.heap [] 0 0 (lw_Z below #[Value.ref b] s) (entryFrame m ([Value.ref b] : List Value).toArray 7) := by
  obtain ⟨hx, hb, hr, hml, hown, hts, hX, hbl, hlocks, hgv⟩ := id C0
  obtain ⟨Γ, g1, g2, hK⟩ := ks_start hts hgv
  have body := law_body (l := l) (Γ := Γ) (b := b) (L := L) (xs := xs) (nm := meth.name) hL (hrow Γ g1 g2 hK) (fun _ _ => 0, fun _ _ => 0, fun _ _ => none)
  have hl := lv_entry ([.ref b]) (n := 7) (Nat.le_of_ble_eq_true rfl)
  rw [lg_entry_eq]
  generalize (lg_sl ([.ref b]) ++ List.replicate (7 - (lg_sl ([.ref b])).length) Slot.unset).toArray = ls at hl ⊢
  have hl : lv_has ls 7 [(0, .ref b)] := hl
  have hH : HW Γ 0 0 (fun _ _ => 0, fun _ _ => 0, fun _ _ => none) s.heap := ⟨fun i hi => absurd hi (Nat.not_lt_zero i), by rw [g2, g1], by rw [g1]; rfl, fun q _ => by rw [g2], by decide⟩
  have k := body p e s m #[Value.ref b] below meth c s.heap [] ls ⟨⟨hx, hb, hml, hown, fun w hw => hts w (List.mem_filter.mp hw).1⟩, hr, hlocks, rfl, hK⟩ hH (fun _ h => by cases h) hl
  intro T hT X
  obtain ⟨t, st1, q⟩ := k T hT X
  exact ⟨t, st1, q ⟨rfl, hX, g2, hbl, hgv, hts⟩⟩
