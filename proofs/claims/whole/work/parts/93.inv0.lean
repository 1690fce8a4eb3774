/-! THE START: the invariant -/
theorem st_z (μ : Mem) {q : Nat} (h : stZ.contains q = true) (j : Int) : rI (stM μ) q j = 0 := by
  have k := List.all_eq_true.mp stZ_d q (List.contains_iff_mem.mp h)
  have e := zI_ok (μ := μ) k j
  unfold rI
  rw [stM_run, e]
  rfl
theorem st_zM (μ : Mem) {q : Nat} (h : stZ.contains q = true) (j : Int) : MS (stM μ) q j = 0 := by
  unfold MS
  split
  · exact st_z μ h j
  · rfl
theorem st_zC (μ : Mem) {q : Nat} (h : stZ.contains q = true) (j : Int) : CS (stM μ) q j = 0 := by
  unfold CS
  split
  · exact st_z μ h j
  · rfl
theorem st_v (μ : Mem) {q : Nat} {v : Int} (h : stV.contains (q, v) = true) : rI (stM μ) q 0 = w v := by
  have k := List.all_eq_true.mp stV_d (q, v) (List.contains_iff_mem.mp h)
  have e := vI_ok (μ := μ) (of_decide_eq_true k)
  unfold rI
  rw [stM_run, e]
  rfl
theorem st_vM (μ : Mem) {q : Nat} {v : Int} (h : stV.contains (q, v) = true) (hi : inM q = true) : MS (stM μ) q 0 = w v := by
  unfold MS
  rw [if_pos hi]
  exact st_v μ h
theorem st_vC (μ : Mem) {q : Nat} {v : Int} (h : stV.contains (q, v) = true) (hi : inC q = true) : CS (stM μ) q 0 = w v := by
  rw [← cr' hi]
  exact st_v μ h
theorem st_stat (μ : Mem) : StatR (stM μ).2.2 := by
  rw [stM_run]
  refine ⟨fun q j h => ?_, fun j hj => ?_⟩
  · unfold SR at h
    cases hf : SRT.find? (fun x => x.1 == q) with
    | none => rw [hf] at h; cases h
    | some x =>
      rw [hf] at h
      have m := List.mem_of_find?_eq_some hf
      have e1 : x.1 = q := by have := List.find?_some hf; exact eq_of_beq this
      have e2 : x.2 = j := Option.some.inj h
      have k := of_decide_eq_true (List.all_eq_true.mp stR_d x m)
      rw [e1, e2] at k
      exact vR_ok k
  · exact vR_ok (stR18_d ⟨j, hj⟩)
theorem rw4_0 {f : Sg} {cs cn cm cb : Nat} {m : Int} (h : f cs m = 0) : rw4 f cs cn cm cb m = [] := by
  unfold rw4 lv
  rw [h]
  rfl
theorem inv_start (μ : Mem) : Inv (stM μ) := by
  have zM := fun {q : Nat} (h : stZ.contains q = true) (j : Int) => st_zM μ h j
  have zC := fun {q : Nat} (h : stZ.contains q = true) (j : Int) => st_zC μ h j
  have a0 := zM (q := 15466) rfl 0
  have b0 := zM (q := 15468) rfl 0
  have t0 := zM (q := 15498) rfl 0
  have d0 := zM (q := 15465) rfl 0
  have m0 := zM (q := 15472) rfl 0
  have n0 := zM (q := 15474) rfl 0
  have o0 := zM (q := 15479) rfl 0
  have p0 := zM (q := 15512) rfl 0
  have r0 := zM (q := 15534) rfl 0
  have v0 := zM (q := 15536) rfl 0
  have c1 : MS (stM μ) 15471 0 = -1 := (st_vM μ (v := -1) rfl rfl).trans (by decide)
  have f1 : MS (stM μ) 15480 0 = -1 := (st_vM μ (v := -1) rfl rfl).trans (by decide)
  have l1 : MS (stM μ) 15519 0 = -1 := (st_vM μ (v := -1) rfl rfl).trans (by decide)
  have c2 : CS (stM μ) 1140 0 = -1 := (st_vC μ (v := -1) rfl rfl).trans (by decide)
  have l2 : CS (stM μ) 2287 0 = -1 := (st_vC μ (v := -1) rfl rfl).trans (by decide)
  have f2 : CS (stM μ) 9584 0 = -1 := (st_vC μ (v := -1) rfl rfl).trans (by decide)
  have g4 : CS (stM μ) 3436 0 = 10 := (st_vC μ (v := 10) rfl rfl).trans (by decide)
  have g5 : CS (stM μ) 3437 0 = 12 := (st_vC μ (v := 12) rfl rfl).trans (by decide)
  have cl0 : CL (stM μ) = (0, 0, (CL (stM μ)).2.2) := by
    have e1 : rL (stM μ) 9582 0 = 0 := by unfold rL; rw [stM_run]; exact zL_ok stL_d.1 0
    have e2 : rL (stM μ) 9583 0 = 0 := by unfold rL; rw [stM_run]; exact zL_ok stL_d.2 0
    unfold CL
    rw [e1, e2]
  have bz : ∀ n : Nat, btl (0 : Int64) n = false := fun n => by
    unfold btl
    rw [show (0 : Int64).toBitVec = 0#64 by decide, BitVec.getLsbD_zero]
  have hz : ∀ (cm ca co : Nat) (x : Int), hw3 (MS (stM μ)) cm ca co x = -1 := fun cm ca co x => by
    unfold hw3
    rw [m0, n0, o0, if_neg (by omega), if_neg (by omega), if_neg (by omega)]
  refine ⟨st_stat μ, ?_, ?_, ?_, ?_, ?_, ?_, ?_, ?_⟩
  · unfold WfR
    rw [a0, b0, t0, d0, c1]
    exact ⟨by decide, by decide, by decide, by decide, by decide, fun a h0 h1 => by omega, fun a h0 h1 => by omega⟩
  · unfold WfT
    rw [t0]
    exact ⟨fun a h0 h1 => by omega, fun i j h0 h1 h2 => by omega⟩
  · unfold RelR
    rw [a0, b0, t0, d0, c1, c2, zC (q := 1136) rfl 0, zC (q := 1137) rfl 0, zC (q := 1138) rfl 0, zC (q := 1139) rfl 0]
    exact ⟨rfl, rfl, rfl, rfl, rfl, fun a h0 h1 => by omega, fun a h0 h1 => by omega, fun a h0 h1 => by omega⟩
  · unfold RelT
    rw [p0, l1, l2, zC (q := 2281) rfl 0]
    exact ⟨rfl, by decide, by decide, rfl, fun a h0 h1 => by omega⟩
  · unfold RelP
    rw [m0, n0, o0, zC (q := 2543) rfl 0, zC (q := 2544) rfl 0, zC (q := 2545) rfl 0]
    refine ⟨rfl, by decide, by decide, rfl, by decide, by decide, rfl, by decide, by decide, fun a h0 h1 => by omega, fun a h0 h1 => by omega, fun i i0 i1 => ?_⟩
    have ei : i = -1 := by omega
    subst ei
    have lz : ∀ kd : Int, lc (MS (stM μ)) (-1) kd = -1 := fun kd => by unfold lc; rw [if_pos rfl]
    have er : rIx (-1) = 19 := rfl
    have e1 : rateI (MS (stM μ)) (-1) = 10 := by unfold rateI; rw [lz, if_pos rfl]
    have e2 : lenI (MS (stM μ)) (-1) = 12 := by unfold lenI; rw [lz, if_pos rfl]
    unfold RuOK
    rw [er, e1, e2, lz, lz, lz, show gid 19 4 = 3436 from rfl, show gid 19 5 = 3437 from rfl, show gid 19 6 = 3438 from rfl, g4, g5, zC (q := 3438) rfl 0]
    refine ⟨rfl, by decide, by decide, rfl, by decide, by decide, ⟨fun _ => rfl, fun _ => rfl⟩, by decide, by decide, by decide, by decide, fun h => by omega, fun p q0 q1 => ?_⟩
    rw [lz]
    exact Or.inl ⟨rfl, zC (q := 21) rfl p, zC (q := 22) rfl p⟩
  · unfold RelF FlOK
    rw [cl0, f1, f2, o0, m0, n0]
    refine ⟨rfl, by decide, by decide, fun x x0 x1 => ?_, fun x => ?_, fun m h0 h1 => by omega, fun m h0 h1 => by omega, fun m h0 h1 => by omega, fun m h0 h1 => ?_, fun m h0 h1 => zM (q := 125) rfl m, fun n n1 n2 => ?_, fun n hn => ⟨bz n, bz n⟩⟩
    · rw [hz, ← cr' rfl]
      have e := fI_ok (μ := μ) (by decide) stF_d x x0 x1
      unfold rI
      rw [stM_run, e]
      rfl
    · rw [hz]; decide
    · have e1 : CS (stM μ) (68 + 1) m = 0 := zC (q := 69) rfl m
      have e2 := zM (q := 125) rfl m
      rw [e1, e2, rw4_0 e1, rw4_0 e2]
      exact ⟨by decide, rfl, rfl, by decide, fun x hx => absurd hx (by simp), List.nodup_nil⟩
    · rw [zM (q := 129) rfl]
      refine ⟨by decide, by decide, ?_, ?_⟩
      · rw [bz]; exact ⟨fun z => (by cases z), fun z => by omega⟩
      · rw [bz]; exact ⟨fun z => (by cases z), fun z => by omega⟩
  · unfold RelV
    rw [r0, v0, zC (q := 11632) rfl 0, zC (q := 11630) rfl 0]
    exact ⟨rfl, by decide, by decide, fun j h0 h1 => by omega, ⟨fun _ => rfl, fun _ => rfl⟩, fun h => absurd rfl h⟩
  · refine ⟨fun j h0 h1 => ?_, zC (q := 97) rfl 0⟩
    rw [zM (q := 166) rfl j, zC (q := 102) rfl j]
    exact ⟨rfl, by decide, by decide⟩
