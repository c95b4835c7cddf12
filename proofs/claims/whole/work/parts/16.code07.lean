/-! functions of the code, contracts (written by wip/whole/gen/emit.py) -/
theorem dX13_undo_0 : decode cX13_undo 0 = .ok (.aload_n 0, 1) := by decide +kernel
theorem dX13_undo_1 : decode cX13_undo 1 = .ok (.iconst 0, 1) := by decide +kernel
theorem dX13_undo_2 : decode cX13_undo 2 = .ok (.putfield 3, 3) := by decide +kernel
theorem dX13_undo_5 : decode cX13_undo 5 = .ok (.aload_n 0, 1) := by decide +kernel
theorem dX13_undo_6 : decode cX13_undo 6 = .ok (.getfield 46, 3) := by decide +kernel
theorem dX13_undo_9 : decode cX13_undo 9 = .ok (.ifCond .ne 5, 3) := by decide +kernel
theorem dX13_undo_12 : decode cX13_undo 12 = .ok (.iconst 0, 1) := by decide +kernel
theorem dX13_undo_13 : decode cX13_undo 13 = .ok (.ireturn, 1) := by decide +kernel
theorem dX13_undo_14 : decode cX13_undo 14 = .ok (.aload_n 0, 1) := by decide +kernel
theorem dX13_undo_15 : decode cX13_undo 15 = .ok (.dup, 1) := by decide +kernel
theorem dX13_undo_16 : decode cX13_undo 16 = .ok (.getfield 46, 3) := by decide +kernel
theorem dX13_undo_19 : decode cX13_undo 19 = .ok (.iconst 1, 1) := by decide +kernel
theorem dX13_undo_20 : decode cX13_undo 20 = .ok (.isub, 1) := by decide +kernel
theorem dX13_undo_21 : decode cX13_undo 21 = .ok (.putfield 46, 3) := by decide +kernel
theorem dX13_undo_24 : decode cX13_undo 24 = .ok (.iconst 0, 1) := by decide +kernel
theorem dX13_undo_25 : decode cX13_undo 25 = .ok (.istore_n 1, 1) := by decide +kernel
theorem dX13_undo_26 : decode cX13_undo 26 = .ok (.iload_n 1, 1) := by decide +kernel
theorem dX13_undo_27 : decode cX13_undo 27 = .ok (.sipush 285, 3) := by decide +kernel
theorem dX13_undo_30 : decode cX13_undo 30 = .ok (.if_icmp .ge 30, 3) := by decide +kernel
theorem dX13_undo_33 : decode cX13_undo 33 = .ok (.aload_n 0, 1) := by decide +kernel
theorem dX13_undo_34 : decode cX13_undo 34 = .ok (.getfield 13, 3) := by decide +kernel
theorem dX13_undo_37 : decode cX13_undo 37 = .ok (.iload_n 1, 1) := by decide +kernel
theorem dX13_undo_38 : decode cX13_undo 38 = .ok (.aload_n 0, 1) := by decide +kernel
theorem dX13_undo_39 : decode cX13_undo 39 = .ok (.getfield 23, 3) := by decide +kernel
theorem dX13_undo_42 : decode cX13_undo 42 = .ok (.sipush 285, 3) := by decide +kernel
theorem dX13_undo_45 : decode cX13_undo 45 = .ok (.aload_n 0, 1) := by decide +kernel
theorem dX13_undo_46 : decode cX13_undo 46 = .ok (.getfield 46, 3) := by decide +kernel
theorem dX13_undo_49 : decode cX13_undo 49 = .ok (.imul, 1) := by decide +kernel
theorem dX13_undo_50 : decode cX13_undo 50 = .ok (.iload_n 1, 1) := by decide +kernel
theorem dX13_undo_51 : decode cX13_undo 51 = .ok (.iadd, 1) := by decide +kernel
theorem dX13_undo_52 : decode cX13_undo 52 = .ok (.iaload, 1) := by decide +kernel
theorem dX13_undo_53 : decode cX13_undo 53 = .ok (.iastore, 1) := by decide +kernel
theorem dX13_undo_54 : decode cX13_undo 54 = .ok (.iinc 1 1, 3) := by decide +kernel
theorem dX13_undo_57 : decode cX13_undo 57 = .ok (.goto (-31), 3) := by decide +kernel
theorem dX13_undo_60 : decode cX13_undo 60 = .ok (.iconst 1, 1) := by decide +kernel
theorem dX13_undo_61 : decode cX13_undo 61 = .ok (.ireturn, 1) := by decide +kernel
def F_Mo_undo (a0 : Nat) (M : Mem) : Option (Int32 × Mem) := (sI M a0 19 0 (0 : Int32)).bind fun m1 => (fI m1 a0 19 6).bind fun v2 => if v2 = 0 then (some ((0 : Int32), m1)) else ((fI m1 a0 19 6).bind fun v4 => (sI m1 a0 19 6 (v4 - (1 : Int32))).bind fun m5 => loopN LIM (fun s6 : Int32 × Mem => if (285 : Int32) ≤ s6.1 then (some (.inr (((1 : Int32), s6.2)))) else ((fR s6.2 a0 19 1).bind fun v8 => (fR s6.2 a0 19 5).bind fun v9 => (fI s6.2 a0 19 6).bind fun v10 => (aI s6.2 v9 (((285 : Int32) * v10) + s6.1)).bind fun v11 => (tI s6.2 v8 s6.1 v11).bind fun m12 => some (.inl ((s6.1 + (1 : Int32)), m12)))) ((0 : Int32), m5))
def m_Mo_undo : My := (yX13_undo, cX13_undo, 2, some .boolean, { frames := 0, cells := 0, slots := 0, locals := 0 }, [])
theorem yg_Mo_undo : YG (m_Mo_undo) := (at_gw 1432 (by decide +kernel) rfl)
theorem ct_Mo_undo {X : Cx} {a0 : Nat} {M : Mem} {r : Int32 × Mem} (hE : F_Mo_undo a0 M = some r) : Ct X m_Mo_undo [.ref a0] M (oIM r) := by
  have xR : ∀ v : Int32 × Mem, r = v → r = v := fun _ q => q
  refine Ct.of (by decide +kernel) rfl rfl ?_
  unfold F_Mo_undo at hE
  refine g_aload_n (r := a0) dX13_undo_0 rfl ?_
  refine g_iconst (v := (0 : Int32)) dX13_undo_1 (by decide) ?_
  replace hE := bd_s hE
  obtain ⟨m1, hm1, hE⟩ := hE
  refine g_sI dX13_undo_2 fl_X13_3_9w (by decide) hm1 ?_
  refine g_aload_n (r := a0) dX13_undo_5 rfl ?_
  replace hE := bd_s hE
  obtain ⟨v2, hv2, hE⟩ := hE
  refine g_fI dX13_undo_6 fl_X13_46_9 rfl hv2 ?_
  refine g_if_ne 14 dX13_undo_9 (by decide) (fun q3 => ?_) (fun q3 => ?_)
  · replace hE := ife_n q3 hE
    refine g_aload_n (r := a0) dX13_undo_14 rfl ?_
    refine g_dup dX13_undo_15 rfl ?_
    replace hE := bd_s hE
    obtain ⟨v4, hv4, hE⟩ := hE
    refine g_fI dX13_undo_16 fl_X13_46_9 rfl hv4 ?_
    refine g_iconst (v := (1 : Int32)) dX13_undo_19 (by decide) ?_
    refine g_isub dX13_undo_20 ?_
    replace hE := bd_s hE
    obtain ⟨m5, hm5, hE⟩ := hE
    refine g_sI dX13_undo_21 fl_X13_46_9w (by decide) hm5 ?_
    refine g_iconst (v := (0 : Int32)) dX13_undo_24 (by decide) ?_
    refine g_istore_n dX13_undo_25 rfl ?_
    have hq1 := fun st => lpi (fun s6 : Int32 × Mem => G X m_Mo_undo (endP X m_Mo_undo (oIM r)) 26 [.ref a0, .int s6.1] [] 0 0 s6.2) st _ _ hE
    refine hq1 ?_
    clear hq1 hE
    intro s6 e1 hE hc1 ho1
    have y2 := fun (v : Int32 × Mem) (q : e1 = .inr (v)) => xR v (ho1 _ q).symm
    clear ho1
    refine g_iload_n (x := s6.1) dX13_undo_26 rfl ?_
    refine g_sipush (v := (285 : Int32)) dX13_undo_27 (by decide) ?_
    refine g_icmp_ge 60 dX13_undo_30 (by decide) (fun q7 => ?_) (fun q7 => ?_)
    · replace hE := ife_p q7 hE
      refine g_iconst (v := (1 : Int32)) dX13_undo_60 (by decide) ?_
      rw [y2 ((1 : Int32), s6.2) (Option.some.inj hE).symm]
      exact g_zret dX13_undo_61 rfl (Or.inr rfl) rfl
    replace hE := ife_n q7 hE
    refine g_aload_n (r := a0) dX13_undo_33 rfl ?_
    replace hE := bd_s hE
    obtain ⟨v8, hv8, hE⟩ := hE
    refine g_fR dX13_undo_34 fl_X13_13_9 rfl hv8 ?_
    refine g_iload_n (x := s6.1) dX13_undo_37 rfl ?_
    refine g_aload_n (r := a0) dX13_undo_38 rfl ?_
    replace hE := bd_s hE
    obtain ⟨v9, hv9, hE⟩ := hE
    refine g_fR dX13_undo_39 fl_X13_23_9 rfl hv9 ?_
    refine g_sipush (v := (285 : Int32)) dX13_undo_42 (by decide) ?_
    refine g_aload_n (r := a0) dX13_undo_45 rfl ?_
    replace hE := bd_s hE
    obtain ⟨v10, hv10, hE⟩ := hE
    refine g_fI dX13_undo_46 fl_X13_46_9 rfl hv10 ?_
    refine g_imul dX13_undo_49 ?_
    refine g_iload_n (x := s6.1) dX13_undo_50 rfl ?_
    refine g_iadd dX13_undo_51 ?_
    replace hE := bd_s hE
    obtain ⟨v11, hv11, hE⟩ := hE
    refine g_aI dX13_undo_52 hv11 ?_
    replace hE := bd_s hE
    obtain ⟨m12, hm12, hE⟩ := hE
    refine g_tI dX13_undo_53 hm12 ?_
    refine g_iinc (s6.1 + (1 : Int32)) dX13_undo_54 rfl (iinc_e (by decide)) rfl ?_
    refine g_goto 26 dX13_undo_57 (by decide) ?_
    exact hc1 ((s6.1 + (1 : Int32)), m12) (Option.some.inj hE).symm
  replace hE := ife_p q3 hE
  refine g_iconst (v := (0 : Int32)) dX13_undo_12 (by decide) ?_
  rw [xR ((0 : Int32), m1) (Option.some.inj hE).symm]
  exact g_zret dX13_undo_13 rfl (Or.inl rfl) rfl
theorem dX13_gates_0 : decode cX13_gates 0 = .ok (.aload_n 0, 1) := by decide +kernel
theorem dX13_gates_1 : decode cX13_gates 1 = .ok (.getfield 13, 3) := by decide +kernel
theorem dX13_gates_4 : decode cX13_gates 4 = .ok (.iconst 0, 1) := by decide +kernel
theorem dX13_gates_5 : decode cX13_gates 5 = .ok (.iaload, 1) := by decide +kernel
theorem dX13_gates_6 : decode cX13_gates 6 = .ok (.ireturn, 1) := by decide +kernel
def F_Mo_gates (a0 : Nat) (M : Mem) : Option (Int32) := (fR M a0 19 1).bind fun v1 => (aI M v1 (0 : Int32)).bind fun v2 => some (v2)
def m_Mo_gates : My := (yX13_gates, cX13_gates, 1, some .int, { frames := 0, cells := 0, slots := 0, locals := 0 }, [])
theorem yg_Mo_gates : YG (m_Mo_gates) := (at_gw 1491 (by decide +kernel) rfl)
theorem ct_Mo_gates {X : Cx} {a0 : Nat} {M : Mem} {r : Int32} (hE : F_Mo_gates a0 M = some r) : Ct X m_Mo_gates [.ref a0] M ((oI M) r) := by
  have xR : ∀ v : Int32, r = v → r = v := fun _ q => q
  refine Ct.of (by decide +kernel) rfl rfl ?_
  unfold F_Mo_gates at hE
  refine g_aload_n (r := a0) dX13_gates_0 rfl ?_
  replace hE := bd_s hE
  obtain ⟨v1, hv1, hE⟩ := hE
  refine g_fR dX13_gates_1 fl_X13_13_9 rfl hv1 ?_
  refine g_iconst (v := (0 : Int32)) dX13_gates_4 (by decide) ?_
  replace hE := bd_s hE
  obtain ⟨v2, hv2, hE⟩ := hE
  refine g_aI dX13_gates_5 hv2 ?_
  rw [xR v2 (Option.some.inj hE).symm]
  exact g_iret dX13_gates_6 rfl rfl
theorem dX13_walkers_0 : decode cX13_walkers 0 = .ok (.aload_n 0, 1) := by decide +kernel
theorem dX13_walkers_1 : decode cX13_walkers 1 = .ok (.getfield 13, 3) := by decide +kernel
theorem dX13_walkers_4 : decode cX13_walkers 4 = .ok (.iconst 1, 1) := by decide +kernel
theorem dX13_walkers_5 : decode cX13_walkers 5 = .ok (.iaload, 1) := by decide +kernel
theorem dX13_walkers_6 : decode cX13_walkers 6 = .ok (.ireturn, 1) := by decide +kernel
def F_Mo_walkers (a0 : Nat) (M : Mem) : Option (Int32) := (fR M a0 19 1).bind fun v1 => (aI M v1 (1 : Int32)).bind fun v2 => some (v2)
def m_Mo_walkers : My := (yX13_walkers, cX13_walkers, 1, some .int, { frames := 0, cells := 0, slots := 0, locals := 0 }, [])
theorem yg_Mo_walkers : YG (m_Mo_walkers) := (at_gw 1517 (by decide +kernel) rfl)
theorem ct_Mo_walkers {X : Cx} {a0 : Nat} {M : Mem} {r : Int32} (hE : F_Mo_walkers a0 M = some r) : Ct X m_Mo_walkers [.ref a0] M ((oI M) r) := by
  have xR : ∀ v : Int32, r = v → r = v := fun _ q => q
  refine Ct.of (by decide +kernel) rfl rfl ?_
  unfold F_Mo_walkers at hE
  refine g_aload_n (r := a0) dX13_walkers_0 rfl ?_
  replace hE := bd_s hE
  obtain ⟨v1, hv1, hE⟩ := hE
  refine g_fR dX13_walkers_1 fl_X13_13_9 rfl hv1 ?_
  refine g_iconst (v := (1 : Int32)) dX13_walkers_4 (by decide) ?_
  replace hE := bd_s hE
  obtain ⟨v2, hv2, hE⟩ := hE
  refine g_aI dX13_walkers_5 hv2 ?_
  rw [xR v2 (Option.some.inj hE).symm]
  exact g_iret dX13_walkers_6 rfl rfl
theorem dX13_allWalkers_0 : decode cX13_allWalkers 0 = .ok (.iconst 1, 1) := by decide +kernel
theorem dX13_allWalkers_1 : decode cX13_allWalkers 1 = .ok (.aload_n 0, 1) := by decide +kernel
theorem dX13_allWalkers_2 : decode cX13_allWalkers 2 = .ok (.invokevirtual 49, 3) := by decide +kernel
theorem dX13_allWalkers_5 : decode cX13_allWalkers 5 = .ok (.ishl, 1) := by decide +kernel
theorem dX13_allWalkers_6 : decode cX13_allWalkers 6 = .ok (.iconst 1, 1) := by decide +kernel
theorem dX13_allWalkers_7 : decode cX13_allWalkers 7 = .ok (.isub, 1) := by decide +kernel
theorem dX13_allWalkers_8 : decode cX13_allWalkers 8 = .ok (.ireturn, 1) := by decide +kernel
def F_Mo_allWalkers (a0 : Nat) (M : Mem) : Option (Int32) := (ck (qS M a0 = 19)).bind fun h2 => (F_Mo_walkers a0 M).bind fun v1 => some (((1 : Int32) <<< (v1 &&& 31)) - (1 : Int32))
def m_Mo_allWalkers : My := (yX13_allWalkers, cX13_allWalkers, 1, some .int, { frames := 1, cells := 0, slots := 0, locals := 20 }, [])
theorem yg_Mo_allWalkers : YG (m_Mo_allWalkers) := (at_gw 1765 (by decide +kernel) rfl)
theorem ct_Mo_allWalkers {X : Cx} {a0 : Nat} {M : Mem} {r : Int32} (hE : F_Mo_allWalkers a0 M = some r) : Ct X m_Mo_allWalkers [.ref a0] M ((oI M) r) := by
  have xR : ∀ v : Int32, r = v → r = v := fun _ q => q
  refine Ct.of (by decide +kernel) rfl rfl ?_
  unfold F_Mo_allWalkers at hE
  refine g_iconst (v := (1 : Int32)) dX13_allWalkers_0 (by decide) ?_
  refine g_aload_n (r := a0) dX13_allWalkers_1 rfl ?_
  replace hE := bd_s hE
  obtain ⟨h2, hh2, hE⟩ := hE
  replace hh2 := ck_s hh2
  replace hE := bd_s hE
  obtain ⟨v1, hv1, hE⟩ := hE
  refine g_callV (as := []) (rvs := [.int v1]) 0 0 dX13_allWalkers_2 yg_Mo_walkers vl_X13_49 (ct_Mo_walkers hv1) (RC.obj hh2 (by decide) cl_9.1) rfl rfl rfl (Nat.le_of_ble_eq_true rfl) rfl rfl rfl ?_
  refine g_ishl dX13_allWalkers_5 ?_
  refine g_iconst (v := (1 : Int32)) dX13_allWalkers_6 (by decide) ?_
  refine g_isub dX13_allWalkers_7 ?_
  rw [xR (((1 : Int32) <<< (v1 &&& 31)) - (1 : Int32)) (Option.some.inj hE).symm]
  exact g_iret dX13_allWalkers_8 rfl rfl
theorem dX13_ofGate_0 : decode cX13_ofGate 0 = .ok (.aload_n 0, 1) := by decide +kernel
theorem dX13_ofGate_1 : decode cX13_ofGate 1 = .ok (.getfield 13, 3) := by decide +kernel
theorem dX13_ofGate_4 : decode cX13_ofGate 4 = .ok (.bipush 9, 2) := by decide +kernel
theorem dX13_ofGate_6 : decode cX13_ofGate 6 = .ok (.iconst 3, 1) := by decide +kernel
theorem dX13_ofGate_7 : decode cX13_ofGate 7 = .ok (.iload_n 1, 1) := by decide +kernel
theorem dX13_ofGate_8 : decode cX13_ofGate 8 = .ok (.imul, 1) := by decide +kernel
theorem dX13_ofGate_9 : decode cX13_ofGate 9 = .ok (.iadd, 1) := by decide +kernel
theorem dX13_ofGate_10 : decode cX13_ofGate 10 = .ok (.iload_n 2, 1) := by decide +kernel
theorem dX13_ofGate_11 : decode cX13_ofGate 11 = .ok (.iadd, 1) := by decide +kernel
theorem dX13_ofGate_12 : decode cX13_ofGate 12 = .ok (.iaload, 1) := by decide +kernel
theorem dX13_ofGate_13 : decode cX13_ofGate 13 = .ok (.ireturn, 1) := by decide +kernel
def F_Mo_ofGate (a0 : Nat) (a1 : Int32) (a2 : Int32) (M : Mem) : Option (Int32) := (fR M a0 19 1).bind fun v1 => (aI M v1 (((9 : Int32) + ((3 : Int32) * a1)) + a2)).bind fun v2 => some (v2)
def m_Mo_ofGate : My := (yX13_ofGate, cX13_ofGate, 3, some .int, { frames := 0, cells := 0, slots := 0, locals := 0 }, [])
theorem yg_Mo_ofGate : YG (m_Mo_ofGate) := (at_gw 1614 (by decide +kernel) rfl)
theorem ct_Mo_ofGate {X : Cx} {a0 : Nat} {a1 : Int32} {a2 : Int32} {M : Mem} {r : Int32} (hE : F_Mo_ofGate a0 a1 a2 M = some r) : Ct X m_Mo_ofGate [.ref a0, .int a1, .int a2] M ((oI M) r) := by
  have xR : ∀ v : Int32, r = v → r = v := fun _ q => q
  refine Ct.of (by decide +kernel) rfl rfl ?_
  unfold F_Mo_ofGate at hE
  refine g_aload_n (r := a0) dX13_ofGate_0 rfl ?_
  replace hE := bd_s hE
  obtain ⟨v1, hv1, hE⟩ := hE
  refine g_fR dX13_ofGate_1 fl_X13_13_9 rfl hv1 ?_
  refine g_bipush (v := (9 : Int32)) dX13_ofGate_4 (by decide) ?_
  refine g_iconst (v := (3 : Int32)) dX13_ofGate_6 (by decide) ?_
  refine g_iload_n (x := a1) dX13_ofGate_7 rfl ?_
  refine g_imul dX13_ofGate_8 ?_
  refine g_iadd dX13_ofGate_9 ?_
  refine g_iload_n (x := a2) dX13_ofGate_10 rfl ?_
  refine g_iadd dX13_ofGate_11 ?_
  replace hE := bd_s hE
  obtain ⟨v2, hv2, hE⟩ := hE
  refine g_aI dX13_ofGate_12 hv2 ?_
  rw [xR v2 (Option.some.inj hE).symm]
  exact g_iret dX13_ofGate_13 rfl rfl
theorem dX13_of_0 : decode cX13_of 0 = .ok (.aload_n 0, 1) := by decide +kernel
theorem dX13_of_1 : decode cX13_of 1 = .ok (.getfield 13, 3) := by decide +kernel
theorem dX13_of_4 : decode cX13_of 4 = .ok (.bipush 45, 2) := by decide +kernel
theorem dX13_of_6 : decode cX13_of 6 = .ok (.bipush 30, 2) := by decide +kernel
theorem dX13_of_8 : decode cX13_of 8 = .ok (.iload_n 1, 1) := by decide +kernel
theorem dX13_of_9 : decode cX13_of 9 = .ok (.imul, 1) := by decide +kernel
theorem dX13_of_10 : decode cX13_of 10 = .ok (.iadd, 1) := by decide +kernel
theorem dX13_of_11 : decode cX13_of 11 = .ok (.iload_n 2, 1) := by decide +kernel
theorem dX13_of_12 : decode cX13_of 12 = .ok (.iadd, 1) := by decide +kernel
theorem dX13_of_13 : decode cX13_of 13 = .ok (.iaload, 1) := by decide +kernel
theorem dX13_of_14 : decode cX13_of 14 = .ok (.ireturn, 1) := by decide +kernel
def F_Mo_of (a0 : Nat) (a1 : Int32) (a2 : Int32) (M : Mem) : Option (Int32) := (fR M a0 19 1).bind fun v1 => (aI M v1 (((45 : Int32) + ((30 : Int32) * a1)) + a2)).bind fun v2 => some (v2)
def m_Mo_of : My := (yX13_of, cX13_of, 3, some .int, { frames := 0, cells := 0, slots := 0, locals := 0 }, [])
theorem yg_Mo_of : YG (m_Mo_of) := (at_gw 1537 (by decide +kernel) rfl)
theorem ct_Mo_of {X : Cx} {a0 : Nat} {a1 : Int32} {a2 : Int32} {M : Mem} {r : Int32} (hE : F_Mo_of a0 a1 a2 M = some r) : Ct X m_Mo_of [.ref a0, .int a1, .int a2] M ((oI M) r) := by
  have xR : ∀ v : Int32, r = v → r = v := fun _ q => q
  refine Ct.of (by decide +kernel) rfl rfl ?_
  unfold F_Mo_of at hE
  refine g_aload_n (r := a0) dX13_of_0 rfl ?_
  replace hE := bd_s hE
  obtain ⟨v1, hv1, hE⟩ := hE
  refine g_fR dX13_of_1 fl_X13_13_9 rfl hv1 ?_
  refine g_bipush (v := (45 : Int32)) dX13_of_4 (by decide) ?_
  refine g_bipush (v := (30 : Int32)) dX13_of_6 (by decide) ?_
  refine g_iload_n (x := a1) dX13_of_8 rfl ?_
  refine g_imul dX13_of_9 ?_
  refine g_iadd dX13_of_10 ?_
  refine g_iload_n (x := a2) dX13_of_11 rfl ?_
  refine g_iadd dX13_of_12 ?_
  replace hE := bd_s hE
  obtain ⟨v2, hv2, hE⟩ := hE
  refine g_aI dX13_of_13 hv2 ?_
  rw [xR v2 (Option.some.inj hE).symm]
  exact g_iret dX13_of_14 rfl rfl
theorem dX13_sets_0 : decode cX13_sets 0 = .ok (.aload_n 0, 1) := by decide +kernel
theorem dX13_sets_1 : decode cX13_sets 1 = .ok (.getfield 13, 3) := by decide +kernel
theorem dX13_sets_4 : decode cX13_sets 4 = .ok (.bipush 45, 2) := by decide +kernel
theorem dX13_sets_6 : decode cX13_sets 6 = .ok (.bipush 30, 2) := by decide +kernel
theorem dX13_sets_8 : decode cX13_sets 8 = .ok (.iload_n 1, 1) := by decide +kernel
theorem dX13_sets_9 : decode cX13_sets 9 = .ok (.imul, 1) := by decide +kernel
theorem dX13_sets_10 : decode cX13_sets 10 = .ok (.iadd, 1) := by decide +kernel
theorem dX13_sets_11 : decode cX13_sets 11 = .ok (.iload_n 2, 1) := by decide +kernel
theorem dX13_sets_12 : decode cX13_sets 12 = .ok (.iadd, 1) := by decide +kernel
theorem dX13_sets_13 : decode cX13_sets 13 = .ok (.iload_n 3, 1) := by decide +kernel
theorem dX13_sets_14 : decode cX13_sets 14 = .ok (.iastore, 1) := by decide +kernel
theorem dX13_sets_15 : decode cX13_sets 15 = .ok (.return_, 1) := by decide +kernel
def F_Mo_sets (a0 : Nat) (a1 : Int32) (a2 : Int32) (a3 : Int32) (M : Mem) : Option (Mem) := (fR M a0 19 1).bind fun v1 => (tI M v1 (((45 : Int32) + ((30 : Int32) * a1)) + a2) a3).bind fun m2 => some (m2)
def m_Mo_sets : My := (yX13_sets, cX13_sets, 4, none, { frames := 0, cells := 0, slots := 0, locals := 0 }, [])
theorem yg_Mo_sets : YG (m_Mo_sets) := (at_gw 1526 (by decide +kernel) rfl)
theorem ct_Mo_sets {X : Cx} {a0 : Nat} {a1 : Int32} {a2 : Int32} {a3 : Int32} {M : Mem} {r : Mem} (hE : F_Mo_sets a0 a1 a2 a3 M = some r) : Ct X m_Mo_sets [.ref a0, .int a1, .int a2, .int a3] M (oVM r) := by
  have xR : ∀ v : Mem, r = v → r = v := fun _ q => q
  refine Ct.of (by decide +kernel) rfl rfl ?_
  unfold F_Mo_sets at hE
  refine g_aload_n (r := a0) dX13_sets_0 rfl ?_
  replace hE := bd_s hE
  obtain ⟨v1, hv1, hE⟩ := hE
  refine g_fR dX13_sets_1 fl_X13_13_9 rfl hv1 ?_
  refine g_bipush (v := (45 : Int32)) dX13_sets_4 (by decide) ?_
  refine g_bipush (v := (30 : Int32)) dX13_sets_6 (by decide) ?_
  refine g_iload_n (x := a1) dX13_sets_8 rfl ?_
  refine g_imul dX13_sets_9 ?_
  refine g_iadd dX13_sets_10 ?_
  refine g_iload_n (x := a2) dX13_sets_11 rfl ?_
  refine g_iadd dX13_sets_12 ?_
  refine g_iload_n (x := a3) dX13_sets_13 rfl ?_
  replace hE := bd_s hE
  obtain ⟨m2, hm2, hE⟩ := hE
  refine g_tI dX13_sets_14 hm2 ?_
  rw [xR m2 (Option.some.inj hE).symm]
  exact g_vret dX13_sets_15 rfl rfl
theorem dX13_noGate_0 : decode cX13_noGate 0 = .ok (.iload_n 1, 1) := by decide +kernel
theorem dX13_noGate_1 : decode cX13_noGate 1 = .ok (.iconst 0, 1) := by decide +kernel
theorem dX13_noGate_2 : decode cX13_noGate 2 = .ok (.aload_n 0, 1) := by decide +kernel
theorem dX13_noGate_3 : decode cX13_noGate 3 = .ok (.invokevirtual 53, 3) := by decide +kernel
theorem dX13_noGate_6 : decode cX13_noGate 6 = .ok (.iconst 1, 1) := by decide +kernel
theorem dX13_noGate_7 : decode cX13_noGate 7 = .ok (.isub, 1) := by decide +kernel
theorem dX13_noGate_8 : decode cX13_noGate 8 = .ok (.invokestatic 56, 3) := by decide +kernel
theorem dX13_noGate_11 : decode cX13_noGate 11 = .ok (.ifCond .ne 7, 3) := by decide +kernel
theorem dX13_noGate_14 : decode cX13_noGate 14 = .ok (.iconst 1, 1) := by decide +kernel
theorem dX13_noGate_15 : decode cX13_noGate 15 = .ok (.goto 4, 3) := by decide +kernel
theorem dX13_noGate_18 : decode cX13_noGate 18 = .ok (.iconst 0, 1) := by decide +kernel
theorem dX13_noGate_19 : decode cX13_noGate 19 = .ok (.ireturn, 1) := by decide +kernel
def F_Mo_noGate (a0 : Nat) (a1 : Int32) (M : Mem) : Option (Int32) := (ck (qS M a0 = 19)).bind fun h2 => (F_Mo_gates a0 M).bind fun v1 => (F_Mo_in a1 (0 : Int32) (v1 - (1 : Int32)) M).bind fun v3 => if v3 = 0 then (some (1 : Int32)) else (some (0 : Int32))
def m_Mo_noGate : My := (yX13_noGate, cX13_noGate, 2, some .boolean, { frames := 1, cells := 0, slots := 0, locals := 22 }, [])
theorem yg_Mo_noGate : YG (m_Mo_noGate) := (at_gw 1607 (by decide +kernel) rfl)
theorem ct_Mo_noGate {X : Cx} {a0 : Nat} {a1 : Int32} {M : Mem} {r : Int32} (hE : F_Mo_noGate a0 a1 M = some r) : Ct X m_Mo_noGate [.ref a0, .int a1] M ((oI M) r) := by
  have xR : ∀ v : Int32, r = v → r = v := fun _ q => q
  refine Ct.of (by decide +kernel) rfl rfl ?_
  unfold F_Mo_noGate at hE
  refine g_iload_n (x := a1) dX13_noGate_0 rfl ?_
  refine g_iconst (v := (0 : Int32)) dX13_noGate_1 (by decide) ?_
  refine g_aload_n (r := a0) dX13_noGate_2 rfl ?_
  replace hE := bd_s hE
  obtain ⟨h2, hh2, hE⟩ := hE
  replace hh2 := ck_s hh2
  replace hE := bd_s hE
  obtain ⟨v1, hv1, hE⟩ := hE
  refine g_callV (as := []) (rvs := [.int v1]) 0 0 dX13_noGate_3 yg_Mo_gates vl_X13_53 (ct_Mo_gates hv1) (RC.obj hh2 (by decide) cl_9.1) rfl rfl rfl (Nat.le_of_ble_eq_true rfl) rfl rfl rfl ?_
  refine g_iconst (v := (1 : Int32)) dX13_noGate_6 (by decide) ?_
  refine g_isub dX13_noGate_7 ?_
  replace hE := bd_s hE
  obtain ⟨v3, hv3, hE⟩ := hE
  refine g_callS (as := [.int a1, .int (0 : Int32), .int (v1 - (1 : Int32))]) (rvs := [.int v3]) 0 0 dX13_noGate_8 yg_Mo_in sl_X13_56 (ct_Mo_in hv3) rfl rfl rfl (Nat.le_of_ble_eq_true rfl) rfl rfl rfl ?_
  refine g_if_ne 18 dX13_noGate_11 (by decide) (fun q4 => ?_) (fun q4 => ?_)
  · replace hE := ife_n q4 hE
    refine g_iconst (v := (0 : Int32)) dX13_noGate_18 (by decide) ?_
    rw [xR (0 : Int32) (Option.some.inj hE).symm]
    exact g_zret dX13_noGate_19 rfl (Or.inl rfl) rfl
  replace hE := ife_p q4 hE
  refine g_iconst (v := (1 : Int32)) dX13_noGate_14 (by decide) ?_
  refine g_goto 19 dX13_noGate_15 (by decide) ?_
  rw [xR (1 : Int32) (Option.some.inj hE).symm]
  exact g_zret dX13_noGate_19 rfl (Or.inr rfl) rfl
theorem dX13_noWalker_0 : decode cX13_noWalker 0 = .ok (.iload_n 1, 1) := by decide +kernel
theorem dX13_noWalker_1 : decode cX13_noWalker 1 = .ok (.iconst 0, 1) := by decide +kernel
theorem dX13_noWalker_2 : decode cX13_noWalker 2 = .ok (.aload_n 0, 1) := by decide +kernel
theorem dX13_noWalker_3 : decode cX13_noWalker 3 = .ok (.invokevirtual 49, 3) := by decide +kernel
theorem dX13_noWalker_6 : decode cX13_noWalker 6 = .ok (.iconst 1, 1) := by decide +kernel
theorem dX13_noWalker_7 : decode cX13_noWalker 7 = .ok (.isub, 1) := by decide +kernel
theorem dX13_noWalker_8 : decode cX13_noWalker 8 = .ok (.invokestatic 56, 3) := by decide +kernel
theorem dX13_noWalker_11 : decode cX13_noWalker 11 = .ok (.ifCond .ne 7, 3) := by decide +kernel
theorem dX13_noWalker_14 : decode cX13_noWalker 14 = .ok (.iconst 1, 1) := by decide +kernel
theorem dX13_noWalker_15 : decode cX13_noWalker 15 = .ok (.goto 4, 3) := by decide +kernel
theorem dX13_noWalker_18 : decode cX13_noWalker 18 = .ok (.iconst 0, 1) := by decide +kernel
theorem dX13_noWalker_19 : decode cX13_noWalker 19 = .ok (.ireturn, 1) := by decide +kernel
def F_Mo_noWalker (a0 : Nat) (a1 : Int32) (M : Mem) : Option (Int32) := (ck (qS M a0 = 19)).bind fun h2 => (F_Mo_walkers a0 M).bind fun v1 => (F_Mo_in a1 (0 : Int32) (v1 - (1 : Int32)) M).bind fun v3 => if v3 = 0 then (some (1 : Int32)) else (some (0 : Int32))
def m_Mo_noWalker : My := (yX13_noWalker, cX13_noWalker, 2, some .boolean, { frames := 1, cells := 0, slots := 0, locals := 22 }, [])
theorem yg_Mo_noWalker : YG (m_Mo_noWalker) := (at_gw 1622 (by decide +kernel) rfl)
theorem ct_Mo_noWalker {X : Cx} {a0 : Nat} {a1 : Int32} {M : Mem} {r : Int32} (hE : F_Mo_noWalker a0 a1 M = some r) : Ct X m_Mo_noWalker [.ref a0, .int a1] M ((oI M) r) := by
  have xR : ∀ v : Int32, r = v → r = v := fun _ q => q
  refine Ct.of (by decide +kernel) rfl rfl ?_
  unfold F_Mo_noWalker at hE
  refine g_iload_n (x := a1) dX13_noWalker_0 rfl ?_
  refine g_iconst (v := (0 : Int32)) dX13_noWalker_1 (by decide) ?_
  refine g_aload_n (r := a0) dX13_noWalker_2 rfl ?_
  replace hE := bd_s hE
  obtain ⟨h2, hh2, hE⟩ := hE
  replace hh2 := ck_s hh2
  replace hE := bd_s hE
  obtain ⟨v1, hv1, hE⟩ := hE
  refine g_callV (as := []) (rvs := [.int v1]) 0 0 dX13_noWalker_3 yg_Mo_walkers vl_X13_49 (ct_Mo_walkers hv1) (RC.obj hh2 (by decide) cl_9.1) rfl rfl rfl (Nat.le_of_ble_eq_true rfl) rfl rfl rfl ?_
  refine g_iconst (v := (1 : Int32)) dX13_noWalker_6 (by decide) ?_
  refine g_isub dX13_noWalker_7 ?_
  replace hE := bd_s hE
  obtain ⟨v3, hv3, hE⟩ := hE
  refine g_callS (as := [.int a1, .int (0 : Int32), .int (v1 - (1 : Int32))]) (rvs := [.int v3]) 0 0 dX13_noWalker_8 yg_Mo_in sl_X13_56 (ct_Mo_in hv3) rfl rfl rfl (Nat.le_of_ble_eq_true rfl) rfl rfl rfl ?_
  refine g_if_ne 18 dX13_noWalker_11 (by decide) (fun q4 => ?_) (fun q4 => ?_)
  · replace hE := ife_n q4 hE
    refine g_iconst (v := (0 : Int32)) dX13_noWalker_18 (by decide) ?_
    rw [xR (0 : Int32) (Option.some.inj hE).symm]
    exact g_zret dX13_noWalker_19 rfl (Or.inl rfl) rfl
  replace hE := ife_p q4 hE
  refine g_iconst (v := (1 : Int32)) dX13_noWalker_14 (by decide) ?_
  refine g_goto 19 dX13_noWalker_15 (by decide) ?_
  rw [xR (1 : Int32) (Option.some.inj hE).symm]
  exact g_zret dX13_noWalker_19 rfl (Or.inr rfl) rfl
theorem dX13_learns_0 : decode cX13_learns 0 = .ok (.aload_n 0, 1) := by decide +kernel
theorem dX13_learns_1 : decode cX13_learns 1 = .ok (.iload_n 1, 1) := by decide +kernel
theorem dX13_learns_2 : decode cX13_learns 2 = .ok (.iconst 3, 1) := by decide +kernel
theorem dX13_learns_3 : decode cX13_learns 3 = .ok (.aload_n 0, 1) := by decide +kernel
theorem dX13_learns_4 : decode cX13_learns 4 = .ok (.iload_n 1, 1) := by decide +kernel
theorem dX13_learns_5 : decode cX13_learns 5 = .ok (.iconst 3, 1) := by decide +kernel
theorem dX13_learns_6 : decode cX13_learns 6 = .ok (.invokevirtual 60, 3) := by decide +kernel
theorem dX13_learns_9 : decode cX13_learns 9 = .ok (.iconst 1, 1) := by decide +kernel
theorem dX13_learns_10 : decode cX13_learns 10 = .ok (.iload_n 2, 1) := by decide +kernel
theorem dX13_learns_11 : decode cX13_learns 11 = .ok (.ishl, 1) := by decide +kernel
theorem dX13_learns_12 : decode cX13_learns 12 = .ok (.ior, 1) := by decide +kernel
theorem dX13_learns_13 : decode cX13_learns 13 = .ok (.invokevirtual 64, 3) := by decide +kernel
theorem dX13_learns_16 : decode cX13_learns 16 = .ok (.aload_n 0, 1) := by decide +kernel
theorem dX13_learns_17 : decode cX13_learns 17 = .ok (.iload_n 1, 1) := by decide +kernel
theorem dX13_learns_18 : decode cX13_learns 18 = .ok (.iconst 4, 1) := by decide +kernel
theorem dX13_learns_19 : decode cX13_learns 19 = .ok (.iload_n 3, 1) := by decide +kernel
theorem dX13_learns_20 : decode cX13_learns 20 = .ok (.ifCond .eq 16, 3) := by decide +kernel
theorem dX13_learns_23 : decode cX13_learns 23 = .ok (.aload_n 0, 1) := by decide +kernel
theorem dX13_learns_24 : decode cX13_learns 24 = .ok (.iload_n 1, 1) := by decide +kernel
theorem dX13_learns_25 : decode cX13_learns 25 = .ok (.iconst 4, 1) := by decide +kernel
theorem dX13_learns_26 : decode cX13_learns 26 = .ok (.invokevirtual 60, 3) := by decide +kernel
theorem dX13_learns_29 : decode cX13_learns 29 = .ok (.iconst 1, 1) := by decide +kernel
theorem dX13_learns_30 : decode cX13_learns 30 = .ok (.iload_n 2, 1) := by decide +kernel
theorem dX13_learns_31 : decode cX13_learns 31 = .ok (.ishl, 1) := by decide +kernel
theorem dX13_learns_32 : decode cX13_learns 32 = .ok (.ior, 1) := by decide +kernel
theorem dX13_learns_33 : decode cX13_learns 33 = .ok (.goto 15, 3) := by decide +kernel
theorem dX13_learns_36 : decode cX13_learns 36 = .ok (.aload_n 0, 1) := by decide +kernel
theorem dX13_learns_37 : decode cX13_learns 37 = .ok (.iload_n 1, 1) := by decide +kernel
theorem dX13_learns_38 : decode cX13_learns 38 = .ok (.iconst 4, 1) := by decide +kernel
theorem dX13_learns_39 : decode cX13_learns 39 = .ok (.invokevirtual 60, 3) := by decide +kernel
theorem dX13_learns_42 : decode cX13_learns 42 = .ok (.iconst 1, 1) := by decide +kernel
theorem dX13_learns_43 : decode cX13_learns 43 = .ok (.iload_n 2, 1) := by decide +kernel
theorem dX13_learns_44 : decode cX13_learns 44 = .ok (.ishl, 1) := by decide +kernel
theorem dX13_learns_45 : decode cX13_learns 45 = .ok (.iconst (-1), 1) := by decide +kernel
theorem dX13_learns_46 : decode cX13_learns 46 = .ok (.ixor, 1) := by decide +kernel
theorem dX13_learns_47 : decode cX13_learns 47 = .ok (.iand, 1) := by decide +kernel
theorem dX13_learns_48 : decode cX13_learns 48 = .ok (.invokevirtual 64, 3) := by decide +kernel
theorem dX13_learns_51 : decode cX13_learns 51 = .ok (.aload_n 0, 1) := by decide +kernel
theorem dX13_learns_52 : decode cX13_learns 52 = .ok (.iload_n 1, 1) := by decide +kernel
theorem dX13_learns_53 : decode cX13_learns 53 = .ok (.bipush 6, 2) := by decide +kernel
theorem dX13_learns_55 : decode cX13_learns 55 = .ok (.iload_n 2, 1) := by decide +kernel
theorem dX13_learns_56 : decode cX13_learns 56 = .ok (.iadd, 1) := by decide +kernel
theorem dX13_learns_57 : decode cX13_learns 57 = .ok (.aload_n 0, 1) := by decide +kernel
theorem dX13_learns_58 : decode cX13_learns 58 = .ok (.getfield 13, 3) := by decide +kernel
theorem dX13_learns_61 : decode cX13_learns 61 = .ok (.iconst 4, 1) := by decide +kernel
theorem dX13_learns_62 : decode cX13_learns 62 = .ok (.iaload, 1) := by decide +kernel
theorem dX13_learns_63 : decode cX13_learns 63 = .ok (.invokevirtual 64, 3) := by decide +kernel
theorem dX13_learns_66 : decode cX13_learns 66 = .ok (.return_, 1) := by decide +kernel
def F_Mo_learns (a0 : Nat) (a1 : Int32) (a2 : Int32) (a3 : Int32) (M : Mem) : Option (Mem) := (ck (qS M a0 = 19)).bind fun h2 => (F_Mo_of a0 a1 (3 : Int32) M).bind fun v1 => (F_Mo_sets a0 a1 (3 : Int32) (v1 ||| ((1 : Int32) <<< (a2 &&& 31))) M).bind fun v3 => (if a3 = 0 then ((ck (qS v3 a0 = 19)).bind fun h6 => (F_Mo_of a0 a1 (4 : Int32) v3).bind fun v5 => some (v5 &&& (((1 : Int32) <<< (a2 &&& 31)) ^^^ (-1 : Int32)))) else ((ck (qS v3 a0 = 19)).bind fun h8 => (F_Mo_of a0 a1 (4 : Int32) v3).bind fun v7 => some (v7 ||| ((1 : Int32) <<< (a2 &&& 31)))) : Option (Int32)).bind fun s9 => (ck (qS v3 a0 = 19)).bind fun h11 => (F_Mo_sets a0 a1 (4 : Int32) s9 v3).bind fun v10 => (fR v10 a0 19 1).bind fun v12 => (aI v10 v12 (4 : Int32)).bind fun v13 => (F_Mo_sets a0 a1 ((6 : Int32) + a2) v13 v10).bind fun v14 => some (v14)
def m_Mo_learns : My := (yX13_learns, cX13_learns, 4, none, { frames := 1, cells := 0, slots := 0, locals := 23 }, [])
theorem yg_Mo_learns : YG (m_Mo_learns) := (at_gw 1533 (by decide +kernel) rfl)
theorem ct_Mo_learns {X : Cx} {a0 : Nat} {a1 : Int32} {a2 : Int32} {a3 : Int32} {M : Mem} {r : Mem} (hE : F_Mo_learns a0 a1 a2 a3 M = some r) : Ct X m_Mo_learns [.ref a0, .int a1, .int a2, .int a3] M (oVM r) := by
  have xR : ∀ v : Mem, r = v → r = v := fun _ q => q
  refine Ct.of (by decide +kernel) rfl rfl ?_
  unfold F_Mo_learns at hE
  refine g_aload_n (r := a0) dX13_learns_0 rfl ?_
  refine g_iload_n (x := a1) dX13_learns_1 rfl ?_
  refine g_iconst (v := (3 : Int32)) dX13_learns_2 (by decide) ?_
  refine g_aload_n (r := a0) dX13_learns_3 rfl ?_
  refine g_iload_n (x := a1) dX13_learns_4 rfl ?_
  refine g_iconst (v := (3 : Int32)) dX13_learns_5 (by decide) ?_
  replace hE := bd_s hE
  obtain ⟨h2, hh2, hE⟩ := hE
  replace hh2 := ck_s hh2
  replace hE := bd_s hE
  obtain ⟨v1, hv1, hE⟩ := hE
  refine g_callV (as := [.int a1, .int (3 : Int32)]) (rvs := [.int v1]) 0 0 dX13_learns_6 yg_Mo_of vl_X13_60 (ct_Mo_of hv1) (RC.obj hh2 (by decide) cl_9.1) rfl rfl rfl (Nat.le_of_ble_eq_true rfl) rfl rfl rfl ?_
  refine g_iconst (v := (1 : Int32)) dX13_learns_9 (by decide) ?_
  refine g_iload_n (x := a2) dX13_learns_10 rfl ?_
  refine g_ishl dX13_learns_11 ?_
  refine g_ior dX13_learns_12 ?_
  replace hE := bd_s hE
  obtain ⟨v3, hv3, hE⟩ := hE
  refine g_callV (as := [.int a1, .int (3 : Int32), .int (v1 ||| ((1 : Int32) <<< (a2 &&& 31)))]) (rvs := []) 0 0 dX13_learns_13 yg_Mo_sets vl_X13_64 (ct_Mo_sets hv3) (RC.obj hh2 (by decide) cl_9.1) rfl rfl rfl (Nat.le_of_ble_eq_true rfl) rfl rfl rfl ?_
  refine g_aload_n (r := a0) dX13_learns_16 rfl ?_
  refine g_iload_n (x := a1) dX13_learns_17 rfl ?_
  refine g_iconst (v := (4 : Int32)) dX13_learns_18 (by decide) ?_
  refine g_iload_n (x := a3) dX13_learns_19 rfl ?_
  replace hE := bd_s2 hE
  obtain ⟨e1, hE, hm1⟩ := hE
  have x1 : ∀ s9 : Int32, e1 = s9 → G X m_Mo_learns (endP X m_Mo_learns (oVM r)) 48 [.ref a0, .int a1, .int a2, .retAddr 0] [.int s9, .int (4 : Int32), .int a1, .ref a0] 0 0 v3 := by
    intro s9 q
    replace hE := hm1 s9 q
    clear hm1
    replace hE := bd_s hE
    obtain ⟨h11, hh11, hE⟩ := hE
    replace hh11 := ck_s hh11
    replace hE := bd_s hE
    obtain ⟨v10, hv10, hE⟩ := hE
    refine g_callV (as := [.int a1, .int (4 : Int32), .int s9]) (rvs := []) 0 0 dX13_learns_48 yg_Mo_sets vl_X13_64 (ct_Mo_sets hv10) (RC.obj hh11 (by decide) cl_9.1) rfl rfl rfl (Nat.le_of_ble_eq_true rfl) rfl rfl rfl ?_
    refine g_aload_n (r := a0) dX13_learns_51 rfl ?_
    refine g_iload_n (x := a1) dX13_learns_52 rfl ?_
    refine g_bipush (v := (6 : Int32)) dX13_learns_53 (by decide) ?_
    refine g_iload_n (x := a2) dX13_learns_55 rfl ?_
    refine g_iadd dX13_learns_56 ?_
    refine g_aload_n (r := a0) dX13_learns_57 rfl ?_
    replace hE := bd_s hE
    obtain ⟨v12, hv12, hE⟩ := hE
    refine g_fR dX13_learns_58 fl_X13_13_9 rfl hv12 ?_
    refine g_iconst (v := (4 : Int32)) dX13_learns_61 (by decide) ?_
    replace hE := bd_s hE
    obtain ⟨v13, hv13, hE⟩ := hE
    refine g_aI dX13_learns_62 hv13 ?_
    replace hE := bd_s hE
    obtain ⟨v14, hv14, hE⟩ := hE
    refine g_callV (as := [.int a1, .int ((6 : Int32) + a2), .int v13]) (rvs := []) 0 0 dX13_learns_63 yg_Mo_sets vl_X13_64 (ct_Mo_sets hv14) (RC.obj (fR_s hv12).1 (by decide) cl_9.1) rfl rfl rfl (Nat.le_of_ble_eq_true rfl) rfl rfl rfl ?_
    rw [xR v14 (Option.some.inj hE).symm]
    exact g_vret dX13_learns_66 rfl rfl
  clear hm1
  refine g_if_eq 36 dX13_learns_20 (by decide) (fun q4 => ?_) (fun q4 => ?_)
  · replace hE := ife_p q4 hE
    refine g_aload_n (r := a0) dX13_learns_36 rfl ?_
    refine g_iload_n (x := a1) dX13_learns_37 rfl ?_
    refine g_iconst (v := (4 : Int32)) dX13_learns_38 (by decide) ?_
    replace hE := bd_s hE
    obtain ⟨h6, hh6, hE⟩ := hE
    replace hh6 := ck_s hh6
    replace hE := bd_s hE
    obtain ⟨v5, hv5, hE⟩ := hE
    refine g_callV (as := [.int a1, .int (4 : Int32)]) (rvs := [.int v5]) 0 0 dX13_learns_39 yg_Mo_of vl_X13_60 (ct_Mo_of hv5) (RC.obj hh6 (by decide) cl_9.1) rfl rfl rfl (Nat.le_of_ble_eq_true rfl) rfl rfl rfl ?_
    refine g_iconst (v := (1 : Int32)) dX13_learns_42 (by decide) ?_
    refine g_iload_n (x := a2) dX13_learns_43 rfl ?_
    refine g_ishl dX13_learns_44 ?_
    refine g_iconst (v := (-1 : Int32)) dX13_learns_45 (by decide) ?_
    refine g_ixor dX13_learns_46 ?_
    refine g_iand dX13_learns_47 ?_
    refine g_msk [true, true, true, false] ?_
    exact x1 (v5 &&& (((1 : Int32) <<< (a2 &&& 31)) ^^^ (-1 : Int32))) (Option.some.inj hE).symm
  replace hE := ife_n q4 hE
  refine g_aload_n (r := a0) dX13_learns_23 rfl ?_
  refine g_iload_n (x := a1) dX13_learns_24 rfl ?_
  refine g_iconst (v := (4 : Int32)) dX13_learns_25 (by decide) ?_
  replace hE := bd_s hE
  obtain ⟨h8, hh8, hE⟩ := hE
  replace hh8 := ck_s hh8
  replace hE := bd_s hE
  obtain ⟨v7, hv7, hE⟩ := hE
  refine g_callV (as := [.int a1, .int (4 : Int32)]) (rvs := [.int v7]) 0 0 dX13_learns_26 yg_Mo_of vl_X13_60 (ct_Mo_of hv7) (RC.obj hh8 (by decide) cl_9.1) rfl rfl rfl (Nat.le_of_ble_eq_true rfl) rfl rfl rfl ?_
  refine g_iconst (v := (1 : Int32)) dX13_learns_29 (by decide) ?_
  refine g_iload_n (x := a2) dX13_learns_30 rfl ?_
  refine g_ishl dX13_learns_31 ?_
  refine g_ior dX13_learns_32 ?_
  refine g_goto 48 dX13_learns_33 (by decide) ?_
  refine g_msk [true, true, true, false] ?_
  exact x1 (v7 ||| ((1 : Int32) <<< (a2 &&& 31))) (Option.some.inj hE).symm
theorem dX13_forgets_0 : decode cX13_forgets 0 = .ok (.aload_n 0, 1) := by decide +kernel
theorem dX13_forgets_1 : decode cX13_forgets 1 = .ok (.iload_n 1, 1) := by decide +kernel
theorem dX13_forgets_2 : decode cX13_forgets 2 = .ok (.iconst 3, 1) := by decide +kernel
theorem dX13_forgets_3 : decode cX13_forgets 3 = .ok (.aload_n 0, 1) := by decide +kernel
theorem dX13_forgets_4 : decode cX13_forgets 4 = .ok (.iload_n 1, 1) := by decide +kernel
theorem dX13_forgets_5 : decode cX13_forgets 5 = .ok (.iconst 3, 1) := by decide +kernel
theorem dX13_forgets_6 : decode cX13_forgets 6 = .ok (.invokevirtual 60, 3) := by decide +kernel
theorem dX13_forgets_9 : decode cX13_forgets 9 = .ok (.iload_n 2, 1) := by decide +kernel
theorem dX13_forgets_10 : decode cX13_forgets 10 = .ok (.iconst (-1), 1) := by decide +kernel
theorem dX13_forgets_11 : decode cX13_forgets 11 = .ok (.ixor, 1) := by decide +kernel
theorem dX13_forgets_12 : decode cX13_forgets 12 = .ok (.iand, 1) := by decide +kernel
theorem dX13_forgets_13 : decode cX13_forgets 13 = .ok (.invokevirtual 64, 3) := by decide +kernel
theorem dX13_forgets_16 : decode cX13_forgets 16 = .ok (.aload_n 0, 1) := by decide +kernel
theorem dX13_forgets_17 : decode cX13_forgets 17 = .ok (.iload_n 1, 1) := by decide +kernel
theorem dX13_forgets_18 : decode cX13_forgets 18 = .ok (.iconst 4, 1) := by decide +kernel
theorem dX13_forgets_19 : decode cX13_forgets 19 = .ok (.aload_n 0, 1) := by decide +kernel
theorem dX13_forgets_20 : decode cX13_forgets 20 = .ok (.iload_n 1, 1) := by decide +kernel
theorem dX13_forgets_21 : decode cX13_forgets 21 = .ok (.iconst 4, 1) := by decide +kernel
theorem dX13_forgets_22 : decode cX13_forgets 22 = .ok (.invokevirtual 60, 3) := by decide +kernel
theorem dX13_forgets_25 : decode cX13_forgets 25 = .ok (.iload_n 2, 1) := by decide +kernel
theorem dX13_forgets_26 : decode cX13_forgets 26 = .ok (.iconst (-1), 1) := by decide +kernel
theorem dX13_forgets_27 : decode cX13_forgets 27 = .ok (.ixor, 1) := by decide +kernel
theorem dX13_forgets_28 : decode cX13_forgets 28 = .ok (.iand, 1) := by decide +kernel
theorem dX13_forgets_29 : decode cX13_forgets 29 = .ok (.invokevirtual 64, 3) := by decide +kernel
theorem dX13_forgets_32 : decode cX13_forgets 32 = .ok (.return_, 1) := by decide +kernel
def F_Mo_forgets (a0 : Nat) (a1 : Int32) (a2 : Int32) (M : Mem) : Option (Mem) := (ck (qS M a0 = 19)).bind fun h2 => (F_Mo_of a0 a1 (3 : Int32) M).bind fun v1 => (F_Mo_sets a0 a1 (3 : Int32) (v1 &&& (a2 ^^^ (-1 : Int32))) M).bind fun v3 => (ck (qS v3 a0 = 19)).bind fun h5 => (F_Mo_of a0 a1 (4 : Int32) v3).bind fun v4 => (F_Mo_sets a0 a1 (4 : Int32) (v4 &&& (a2 ^^^ (-1 : Int32))) v3).bind fun v6 => some (v6)
def m_Mo_forgets : My := (yX13_forgets, cX13_forgets, 3, none, { frames := 1, cells := 0, slots := 0, locals := 23 }, [])
theorem yg_Mo_forgets : YG (m_Mo_forgets) := (at_gw 1688 (by decide +kernel) rfl)
theorem ct_Mo_forgets {X : Cx} {a0 : Nat} {a1 : Int32} {a2 : Int32} {M : Mem} {r : Mem} (hE : F_Mo_forgets a0 a1 a2 M = some r) : Ct X m_Mo_forgets [.ref a0, .int a1, .int a2] M (oVM r) := by
  have xR : ∀ v : Mem, r = v → r = v := fun _ q => q
  refine Ct.of (by decide +kernel) rfl rfl ?_
  unfold F_Mo_forgets at hE
  refine g_aload_n (r := a0) dX13_forgets_0 rfl ?_
  refine g_iload_n (x := a1) dX13_forgets_1 rfl ?_
  refine g_iconst (v := (3 : Int32)) dX13_forgets_2 (by decide) ?_
  refine g_aload_n (r := a0) dX13_forgets_3 rfl ?_
  refine g_iload_n (x := a1) dX13_forgets_4 rfl ?_
  refine g_iconst (v := (3 : Int32)) dX13_forgets_5 (by decide) ?_
  replace hE := bd_s hE
  obtain ⟨h2, hh2, hE⟩ := hE
  replace hh2 := ck_s hh2
  replace hE := bd_s hE
  obtain ⟨v1, hv1, hE⟩ := hE
  refine g_callV (as := [.int a1, .int (3 : Int32)]) (rvs := [.int v1]) 0 0 dX13_forgets_6 yg_Mo_of vl_X13_60 (ct_Mo_of hv1) (RC.obj hh2 (by decide) cl_9.1) rfl rfl rfl (Nat.le_of_ble_eq_true rfl) rfl rfl rfl ?_
  refine g_iload_n (x := a2) dX13_forgets_9 rfl ?_
  refine g_iconst (v := (-1 : Int32)) dX13_forgets_10 (by decide) ?_
  refine g_ixor dX13_forgets_11 ?_
  refine g_iand dX13_forgets_12 ?_
  replace hE := bd_s hE
  obtain ⟨v3, hv3, hE⟩ := hE
  refine g_callV (as := [.int a1, .int (3 : Int32), .int (v1 &&& (a2 ^^^ (-1 : Int32)))]) (rvs := []) 0 0 dX13_forgets_13 yg_Mo_sets vl_X13_64 (ct_Mo_sets hv3) (RC.obj hh2 (by decide) cl_9.1) rfl rfl rfl (Nat.le_of_ble_eq_true rfl) rfl rfl rfl ?_
  refine g_aload_n (r := a0) dX13_forgets_16 rfl ?_
  refine g_iload_n (x := a1) dX13_forgets_17 rfl ?_
  refine g_iconst (v := (4 : Int32)) dX13_forgets_18 (by decide) ?_
  refine g_aload_n (r := a0) dX13_forgets_19 rfl ?_
  refine g_iload_n (x := a1) dX13_forgets_20 rfl ?_
  refine g_iconst (v := (4 : Int32)) dX13_forgets_21 (by decide) ?_
  replace hE := bd_s hE
  obtain ⟨h5, hh5, hE⟩ := hE
  replace hh5 := ck_s hh5
  replace hE := bd_s hE
  obtain ⟨v4, hv4, hE⟩ := hE
  refine g_callV (as := [.int a1, .int (4 : Int32)]) (rvs := [.int v4]) 0 0 dX13_forgets_22 yg_Mo_of vl_X13_60 (ct_Mo_of hv4) (RC.obj hh5 (by decide) cl_9.1) rfl rfl rfl (Nat.le_of_ble_eq_true rfl) rfl rfl rfl ?_
  refine g_iload_n (x := a2) dX13_forgets_25 rfl ?_
  refine g_iconst (v := (-1 : Int32)) dX13_forgets_26 (by decide) ?_
  refine g_ixor dX13_forgets_27 ?_
  refine g_iand dX13_forgets_28 ?_
  replace hE := bd_s hE
  obtain ⟨v6, hv6, hE⟩ := hE
  refine g_callV (as := [.int a1, .int (4 : Int32), .int (v4 &&& (a2 ^^^ (-1 : Int32)))]) (rvs := []) 0 0 dX13_forgets_29 yg_Mo_sets vl_X13_64 (ct_Mo_sets hv6) (RC.obj hh5 (by decide) cl_9.1) rfl rfl rfl (Nat.le_of_ble_eq_true rfl) rfl rfl rfl ?_
  rw [xR v6 (Option.some.inj hE).symm]
  exact g_vret dX13_forgets_32 rfl rfl
theorem dX13_feed_0 : decode cX13_feed 0 = .ok (.aload_n 0, 1) := by decide +kernel
theorem dX13_feed_1 : decode cX13_feed 1 = .ok (.iconst 0, 1) := by decide +kernel
theorem dX13_feed_2 : decode cX13_feed 2 = .ok (.putfield 3, 3) := by decide +kernel
theorem dX13_feed_5 : decode cX13_feed 5 = .ok (.aload_n 0, 1) := by decide +kernel
theorem dX13_feed_6 : decode cX13_feed 6 = .ok (.getfield 68, 3) := by decide +kernel
theorem dX13_feed_9 : decode cX13_feed 9 = .ok (.bipush 20, 2) := by decide +kernel
theorem dX13_feed_11 : decode cX13_feed 11 = .ok (.iadd, 1) := by decide +kernel
theorem dX13_feed_12 : decode cX13_feed 12 = .ok (.sipush 400, 3) := by decide +kernel
theorem dX13_feed_15 : decode cX13_feed 15 = .ok (.if_icmp .le 5, 3) := by decide +kernel
theorem dX13_feed_18 : decode cX13_feed 18 = .ok (.iconst (-1), 1) := by decide +kernel
theorem dX13_feed_19 : decode cX13_feed 19 = .ok (.ireturn, 1) := by decide +kernel
theorem dX13_feed_20 : decode cX13_feed 20 = .ok (.aload_n 0, 1) := by decide +kernel
theorem dX13_feed_21 : decode cX13_feed 21 = .ok (.getfield 33, 3) := by decide +kernel
theorem dX13_feed_24 : decode cX13_feed 24 = .ok (.iconst 0, 1) := by decide +kernel
theorem dX13_feed_25 : decode cX13_feed 25 = .ok (.iload_n 1, 1) := by decide +kernel
theorem dX13_feed_26 : decode cX13_feed 26 = .ok (.iastore, 1) := by decide +kernel
theorem dX13_feed_27 : decode cX13_feed 27 = .ok (.aload_n 0, 1) := by decide +kernel
theorem dX13_feed_28 : decode cX13_feed 28 = .ok (.getfield 33, 3) := by decide +kernel
theorem dX13_feed_31 : decode cX13_feed 31 = .ok (.iconst 1, 1) := by decide +kernel
theorem dX13_feed_32 : decode cX13_feed 32 = .ok (.iload_n 2, 1) := by decide +kernel
theorem dX13_feed_33 : decode cX13_feed 33 = .ok (.iastore, 1) := by decide +kernel
theorem dX13_feed_34 : decode cX13_feed 34 = .ok (.aload_n 0, 1) := by decide +kernel
theorem dX13_feed_35 : decode cX13_feed 35 = .ok (.getfield 33, 3) := by decide +kernel
theorem dX13_feed_38 : decode cX13_feed 38 = .ok (.iconst 2, 1) := by decide +kernel
theorem dX13_feed_39 : decode cX13_feed 39 = .ok (.iload_n 3, 1) := by decide +kernel
theorem dX13_feed_40 : decode cX13_feed 40 = .ok (.iastore, 1) := by decide +kernel
theorem dX13_feed_41 : decode cX13_feed 41 = .ok (.aload_n 0, 1) := by decide +kernel
theorem dX13_feed_42 : decode cX13_feed 42 = .ok (.getfield 33, 3) := by decide +kernel
theorem dX13_feed_45 : decode cX13_feed 45 = .ok (.iconst 3, 1) := by decide +kernel
theorem dX13_feed_46 : decode cX13_feed 46 = .ok (.iload 4, 2) := by decide +kernel
theorem dX13_feed_48 : decode cX13_feed 48 = .ok (.iastore, 1) := by decide +kernel
theorem dX13_feed_49 : decode cX13_feed 49 = .ok (.aload_n 0, 1) := by decide +kernel
theorem dX13_feed_50 : decode cX13_feed 50 = .ok (.getfield 33, 3) := by decide +kernel
theorem dX13_feed_53 : decode cX13_feed 53 = .ok (.iconst 4, 1) := by decide +kernel
theorem dX13_feed_54 : decode cX13_feed 54 = .ok (.iload 5, 2) := by decide +kernel
theorem dX13_feed_56 : decode cX13_feed 56 = .ok (.iastore, 1) := by decide +kernel
theorem dX13_feed_57 : decode cX13_feed 57 = .ok (.iconst 0, 1) := by decide +kernel
theorem dX13_feed_58 : decode cX13_feed 58 = .ok (.istore 6, 2) := by decide +kernel
theorem dX13_feed_60 : decode cX13_feed 60 = .ok (.iload 6, 2) := by decide +kernel
theorem dX13_feed_62 : decode cX13_feed 62 = .ok (.bipush 20, 2) := by decide +kernel
theorem dX13_feed_64 : decode cX13_feed 64 = .ok (.if_icmp .ge 42, 3) := by decide +kernel
theorem dX13_feed_67 : decode cX13_feed 67 = .ok (.aload_n 0, 1) := by decide +kernel
theorem dX13_feed_68 : decode cX13_feed 68 = .ok (.getfield 26, 3) := by decide +kernel
theorem dX13_feed_71 : decode cX13_feed 71 = .ok (.aload_n 0, 1) := by decide +kernel
theorem dX13_feed_72 : decode cX13_feed 72 = .ok (.getfield 68, 3) := by decide +kernel
theorem dX13_feed_75 : decode cX13_feed 75 = .ok (.iload 6, 2) := by decide +kernel
theorem dX13_feed_77 : decode cX13_feed 77 = .ok (.iadd, 1) := by decide +kernel
theorem dX13_feed_78 : decode cX13_feed 78 = .ok (.aload_n 0, 1) := by decide +kernel
theorem dX13_feed_79 : decode cX13_feed 79 = .ok (.getfield 33, 3) := by decide +kernel
theorem dX13_feed_82 : decode cX13_feed 82 = .ok (.iload 6, 2) := by decide +kernel
theorem dX13_feed_84 : decode cX13_feed 84 = .ok (.iconst 4, 1) := by decide +kernel
theorem dX13_feed_85 : decode cX13_feed 85 = .ok (.idiv, 1) := by decide +kernel
theorem dX13_feed_86 : decode cX13_feed 86 = .ok (.iaload, 1) := by decide +kernel
theorem dX13_feed_87 : decode cX13_feed 87 = .ok (.bipush 24, 2) := by decide +kernel
theorem dX13_feed_89 : decode cX13_feed 89 = .ok (.bipush 8, 2) := by decide +kernel
theorem dX13_feed_91 : decode cX13_feed 91 = .ok (.iload 6, 2) := by decide +kernel
theorem dX13_feed_93 : decode cX13_feed 93 = .ok (.iconst 4, 1) := by decide +kernel
theorem dX13_feed_94 : decode cX13_feed 94 = .ok (.irem, 1) := by decide +kernel
theorem dX13_feed_95 : decode cX13_feed 95 = .ok (.imul, 1) := by decide +kernel
theorem dX13_feed_96 : decode cX13_feed 96 = .ok (.isub, 1) := by decide +kernel
theorem dX13_feed_97 : decode cX13_feed 97 = .ok (.ishr, 1) := by decide +kernel
theorem dX13_feed_98 : decode cX13_feed 98 = .ok (.i2b, 1) := by decide +kernel
theorem dX13_feed_99 : decode cX13_feed 99 = .ok (.bastore, 1) := by decide +kernel
theorem dX13_feed_100 : decode cX13_feed 100 = .ok (.iinc 6 1, 3) := by decide +kernel
theorem dX13_feed_103 : decode cX13_feed 103 = .ok (.goto (-43), 3) := by decide +kernel
theorem dX13_feed_106 : decode cX13_feed 106 = .ok (.aload_n 0, 1) := by decide +kernel
theorem dX13_feed_107 : decode cX13_feed 107 = .ok (.dup, 1) := by decide +kernel
theorem dX13_feed_108 : decode cX13_feed 108 = .ok (.getfield 68, 3) := by decide +kernel
theorem dX13_feed_111 : decode cX13_feed 111 = .ok (.bipush 20, 2) := by decide +kernel
theorem dX13_feed_113 : decode cX13_feed 113 = .ok (.iadd, 1) := by decide +kernel
theorem dX13_feed_114 : decode cX13_feed 114 = .ok (.putfield 68, 3) := by decide +kernel
theorem dX13_feed_117 : decode cX13_feed 117 = .ok (.aload_n 0, 1) := by decide +kernel
theorem dX13_feed_118 : decode cX13_feed 118 = .ok (.getfield 68, 3) := by decide +kernel
theorem dX13_feed_121 : decode cX13_feed 121 = .ok (.ireturn, 1) := by decide +kernel
def F_Mo_feed (a0 : Nat) (a1 : Int32) (a2 : Int32) (a3 : Int32) (a4 : Int32) (a5 : Int32) (M : Mem) : Option (Int32 × Mem) := (sI M a0 19 0 (0 : Int32)).bind fun m1 => (fI m1 a0 19 8).bind fun v2 => if (v2 + (20 : Int32)) ≤ (400 : Int32) then ((fR m1 a0 19 14).bind fun v4 => (tI m1 v4 (0 : Int32) a1).bind fun m5 => (fR m5 a0 19 14).bind fun v6 => (tI m5 v6 (1 : Int32) a2).bind fun m7 => (fR m7 a0 19 14).bind fun v8 => (tI m7 v8 (2 : Int32) a3).bind fun m9 => (fR m9 a0 19 14).bind fun v10 => (tI m9 v10 (3 : Int32) a4).bind fun m11 => (fR m11 a0 19 14).bind fun v12 => (tI m11 v12 (4 : Int32) a5).bind fun m13 => (loopN LIM (fun s14 : Int32 × Mem => if (20 : Int32) ≤ s14.1 then (some (.inr (s14.2))) else ((fR s14.2 a0 19 7).bind fun v16 => (fI s14.2 a0 19 8).bind fun v17 => (fR s14.2 a0 19 14).bind fun v18 => (aI s14.2 v18 (s14.1 / (4 : Int32))).bind fun v19 => (tB s14.2 v16 (v17 + s14.1) (v19 >>> (((24 : Int32) - ((8 : Int32) * (s14.1 - s14.1 / (4 : Int32) * (4 : Int32)))) &&& 31)).toInt8.toInt32).bind fun m20 => some (.inl ((s14.1 + (1 : Int32)), m20)))) ((0 : Int32), m13) : Option (Mem)).bind fun s21 => (fI s21 a0 19 8).bind fun v22 => (sI s21 a0 19 8 (v22 + (20 : Int32))).bind fun m23 => (fI m23 a0 19 8).bind fun v24 => some (v24, m23)) else (some ((-1 : Int32), m1))
def m_Mo_feed : My := (yX13_feed, cX13_feed, 7, some .int, { frames := 0, cells := 0, slots := 0, locals := 0 }, [])
theorem yg_Mo_feed : YG (m_Mo_feed) := (at_gw 1436 (by decide +kernel) rfl)
theorem ct_Mo_feed {X : Cx} {a0 : Nat} {a1 : Int32} {a2 : Int32} {a3 : Int32} {a4 : Int32} {a5 : Int32} {M : Mem} {r : Int32 × Mem} (hE : F_Mo_feed a0 a1 a2 a3 a4 a5 M = some r) : Ct X m_Mo_feed [.ref a0, .int a1, .int a2, .int a3, .int a4, .int a5] M (oIM r) := by
  have xR : ∀ v : Int32 × Mem, r = v → r = v := fun _ q => q
  refine Ct.of (by decide +kernel) rfl rfl ?_
  unfold F_Mo_feed at hE
  refine g_aload_n (r := a0) dX13_feed_0 rfl ?_
  refine g_iconst (v := (0 : Int32)) dX13_feed_1 (by decide) ?_
  replace hE := bd_s hE
  obtain ⟨m1, hm1, hE⟩ := hE
  refine g_sI dX13_feed_2 fl_X13_3_9w (by decide) hm1 ?_
  refine g_aload_n (r := a0) dX13_feed_5 rfl ?_
  replace hE := bd_s hE
  obtain ⟨v2, hv2, hE⟩ := hE
  refine g_fI dX13_feed_6 fl_X13_68_9 rfl hv2 ?_
  refine g_bipush (v := (20 : Int32)) dX13_feed_9 (by decide) ?_
  refine g_iadd dX13_feed_11 ?_
  refine g_sipush (v := (400 : Int32)) dX13_feed_12 (by decide) ?_
  refine g_icmp_le 20 dX13_feed_15 (by decide) (fun q3 => ?_) (fun q3 => ?_)
  · replace hE := ife_p q3 hE
    refine g_aload_n (r := a0) dX13_feed_20 rfl ?_
    replace hE := bd_s hE
    obtain ⟨v4, hv4, hE⟩ := hE
    refine g_fR dX13_feed_21 fl_X13_33_9 rfl hv4 ?_
    refine g_iconst (v := (0 : Int32)) dX13_feed_24 (by decide) ?_
    refine g_iload_n (x := a1) dX13_feed_25 rfl ?_
    replace hE := bd_s hE
    obtain ⟨m5, hm5, hE⟩ := hE
    refine g_tI dX13_feed_26 hm5 ?_
    refine g_aload_n (r := a0) dX13_feed_27 rfl ?_
    replace hE := bd_s hE
    obtain ⟨v6, hv6, hE⟩ := hE
    refine g_fR dX13_feed_28 fl_X13_33_9 rfl hv6 ?_
    refine g_iconst (v := (1 : Int32)) dX13_feed_31 (by decide) ?_
    refine g_iload_n (x := a2) dX13_feed_32 rfl ?_
    replace hE := bd_s hE
    obtain ⟨m7, hm7, hE⟩ := hE
    refine g_tI dX13_feed_33 hm7 ?_
    refine g_aload_n (r := a0) dX13_feed_34 rfl ?_
    replace hE := bd_s hE
    obtain ⟨v8, hv8, hE⟩ := hE
    refine g_fR dX13_feed_35 fl_X13_33_9 rfl hv8 ?_
    refine g_iconst (v := (2 : Int32)) dX13_feed_38 (by decide) ?_
    refine g_iload_n (x := a3) dX13_feed_39 rfl ?_
    replace hE := bd_s hE
    obtain ⟨m9, hm9, hE⟩ := hE
    refine g_tI dX13_feed_40 hm9 ?_
    refine g_aload_n (r := a0) dX13_feed_41 rfl ?_
    replace hE := bd_s hE
    obtain ⟨v10, hv10, hE⟩ := hE
    refine g_fR dX13_feed_42 fl_X13_33_9 rfl hv10 ?_
    refine g_iconst (v := (3 : Int32)) dX13_feed_45 (by decide) ?_
    refine g_iload (x := a4) dX13_feed_46 rfl ?_
    replace hE := bd_s hE
    obtain ⟨m11, hm11, hE⟩ := hE
    refine g_tI dX13_feed_48 hm11 ?_
    refine g_aload_n (r := a0) dX13_feed_49 rfl ?_
    replace hE := bd_s hE
    obtain ⟨v12, hv12, hE⟩ := hE
    refine g_fR dX13_feed_50 fl_X13_33_9 rfl hv12 ?_
    refine g_iconst (v := (4 : Int32)) dX13_feed_53 (by decide) ?_
    refine g_iload (x := a5) dX13_feed_54 rfl ?_
    replace hE := bd_s hE
    obtain ⟨m13, hm13, hE⟩ := hE
    refine g_tI dX13_feed_56 hm13 ?_
    refine g_iconst (v := (0 : Int32)) dX13_feed_57 (by decide) ?_
    refine g_istore dX13_feed_58 rfl ?_
    replace hE := bd_s2 hE
    obtain ⟨e1, hE, hm1⟩ := hE
    have x1 : ∀ s21 : Mem, e1 = s21 → G X m_Mo_feed (endP X m_Mo_feed (oIM r)) 106 [.ref a0, .retAddr 0, .retAddr 0, .retAddr 0, .retAddr 0, .retAddr 0, .retAddr 0] [] 0 0 s21 := by
      intro s21 q
      replace hE := hm1 s21 q
      clear hm1
      refine g_aload_n (r := a0) dX13_feed_106 rfl ?_
      refine g_dup dX13_feed_107 rfl ?_
      replace hE := bd_s hE
      obtain ⟨v22, hv22, hE⟩ := hE
      refine g_fI dX13_feed_108 fl_X13_68_9 rfl hv22 ?_
      refine g_bipush (v := (20 : Int32)) dX13_feed_111 (by decide) ?_
      refine g_iadd dX13_feed_113 ?_
      replace hE := bd_s hE
      obtain ⟨m23, hm23, hE⟩ := hE
      refine g_sI dX13_feed_114 fl_X13_68_9w (by decide) hm23 ?_
      refine g_aload_n (r := a0) dX13_feed_117 rfl ?_
      replace hE := bd_s hE
      obtain ⟨v24, hv24, hE⟩ := hE
      refine g_fI dX13_feed_118 fl_X13_68_9 rfl hv24 ?_
      rw [xR (v24, m23) (Option.some.inj hE).symm]
      exact g_iret dX13_feed_121 rfl rfl
    clear hm1
    refine g_msk [true, false, false, false, false, false, true] ?_
    have hq2 := fun st => lpi (fun s14 : Int32 × Mem => G X m_Mo_feed (endP X m_Mo_feed (oIM r)) 60 [.ref a0, .retAddr 0, .retAddr 0, .retAddr 0, .retAddr 0, .retAddr 0, .int s14.1] [] 0 0 s14.2) st _ _ hE
    refine hq2 ?_
    clear hq2 hE
    intro s14 e2 hE hc2 ho2
    have y3 := fun (v : Mem) (q : e2 = .inr (v)) => x1 v (ho2 _ q).symm
    clear ho2
    refine g_iload (x := s14.1) dX13_feed_60 rfl ?_
    refine g_bipush (v := (20 : Int32)) dX13_feed_62 (by decide) ?_
    refine g_icmp_ge 106 dX13_feed_64 (by decide) (fun q15 => ?_) (fun q15 => ?_)
    · replace hE := ife_p q15 hE
      refine g_msk [true, false, false, false, false, false, false] ?_
      exact y3 s14.2 (Option.some.inj hE).symm
    replace hE := ife_n q15 hE
    refine g_aload_n (r := a0) dX13_feed_67 rfl ?_
    replace hE := bd_s hE
    obtain ⟨v16, hv16, hE⟩ := hE
    refine g_fR dX13_feed_68 fl_X13_26_9 rfl hv16 ?_
    refine g_aload_n (r := a0) dX13_feed_71 rfl ?_
    replace hE := bd_s hE
    obtain ⟨v17, hv17, hE⟩ := hE
    refine g_fI dX13_feed_72 fl_X13_68_9 rfl hv17 ?_
    refine g_iload (x := s14.1) dX13_feed_75 rfl ?_
    refine g_iadd dX13_feed_77 ?_
    refine g_aload_n (r := a0) dX13_feed_78 rfl ?_
    replace hE := bd_s hE
    obtain ⟨v18, hv18, hE⟩ := hE
    refine g_fR dX13_feed_79 fl_X13_33_9 rfl hv18 ?_
    refine g_iload (x := s14.1) dX13_feed_82 rfl ?_
    refine g_iconst (v := (4 : Int32)) dX13_feed_84 (by decide) ?_
    refine g_idiv dX13_feed_85 (by decide) ?_
    replace hE := bd_s hE
    obtain ⟨v19, hv19, hE⟩ := hE
    refine g_aI dX13_feed_86 hv19 ?_
    refine g_bipush (v := (24 : Int32)) dX13_feed_87 (by decide) ?_
    refine g_bipush (v := (8 : Int32)) dX13_feed_89 (by decide) ?_
    refine g_iload (x := s14.1) dX13_feed_91 rfl ?_
    refine g_iconst (v := (4 : Int32)) dX13_feed_93 (by decide) ?_
    refine g_irem dX13_feed_94 (by decide) ?_
    refine g_imul dX13_feed_95 ?_
    refine g_isub dX13_feed_96 ?_
    refine g_ishr dX13_feed_97 ?_
    refine g_i2b dX13_feed_98 ?_
    replace hE := bd_s hE
    obtain ⟨m20, hm20, hE⟩ := hE
    refine g_tB dX13_feed_99 hm20 ?_
    refine g_iinc (s14.1 + (1 : Int32)) dX13_feed_100 rfl (iinc_e (by decide)) rfl ?_
    refine g_goto 60 dX13_feed_103 (by decide) ?_
    exact hc2 ((s14.1 + (1 : Int32)), m20) (Option.some.inj hE).symm
  replace hE := ife_n q3 hE
  refine g_iconst (v := (-1 : Int32)) dX13_feed_18 (by decide) ?_
  rw [xR ((-1 : Int32), m1) (Option.some.inj hE).symm]
  exact g_iret dX13_feed_19 rfl rfl
theorem dX13_end_0 : decode cX13_end 0 = .ok (.aload_n 0, 1) := by decide +kernel
theorem dX13_end_1 : decode cX13_end 1 = .ok (.iconst 0, 1) := by decide +kernel
theorem dX13_end_2 : decode cX13_end 2 = .ok (.putfield 3, 3) := by decide +kernel
theorem dX13_end_5 : decode cX13_end 5 = .ok (.iload_n 1, 1) := by decide +kernel
theorem dX13_end_6 : decode cX13_end 6 = .ok (.ifCond .lt 11, 3) := by decide +kernel
theorem dX13_end_9 : decode cX13_end 9 = .ok (.iload_n 1, 1) := by decide +kernel
theorem dX13_end_10 : decode cX13_end 10 = .ok (.aload_n 0, 1) := by decide +kernel
theorem dX13_end_11 : decode cX13_end 11 = .ok (.getfield 68, 3) := by decide +kernel
theorem dX13_end_14 : decode cX13_end 14 = .ok (.if_icmp .le 5, 3) := by decide +kernel
theorem dX13_end_17 : decode cX13_end 17 = .ok (.iconst 0, 1) := by decide +kernel
theorem dX13_end_18 : decode cX13_end 18 = .ok (.ireturn, 1) := by decide +kernel
theorem dX13_end_19 : decode cX13_end 19 = .ok (.aload_n 0, 1) := by decide +kernel
theorem dX13_end_20 : decode cX13_end 20 = .ok (.iload_n 1, 1) := by decide +kernel
theorem dX13_end_21 : decode cX13_end 21 = .ok (.putfield 68, 3) := by decide +kernel
theorem dX13_end_24 : decode cX13_end 24 = .ok (.iconst 1, 1) := by decide +kernel
theorem dX13_end_25 : decode cX13_end 25 = .ok (.ireturn, 1) := by decide +kernel
def F_Mo_end (a0 : Nat) (a1 : Int32) (M : Mem) : Option (Int32 × Mem) := (sI M a0 19 0 (0 : Int32)).bind fun m1 => (if a1 < 0 then (some true) else ((fI m1 a0 19 8).bind fun v4 => if a1 ≤ v4 then (some false) else (some true)) : Option Bool).bind fun b3 => if b3 = true then (some ((0 : Int32), m1)) else ((sI m1 a0 19 8 a1).bind fun m6 => some ((1 : Int32), m6))
def m_Mo_end : My := (yX13_end, cX13_end, 2, some .boolean, { frames := 0, cells := 0, slots := 0, locals := 0 }, [])
theorem yg_Mo_end : YG (m_Mo_end) := (at_gw 1440 (by decide +kernel) rfl)
theorem ct_Mo_end {X : Cx} {a0 : Nat} {a1 : Int32} {M : Mem} {r : Int32 × Mem} (hE : F_Mo_end a0 a1 M = some r) : Ct X m_Mo_end [.ref a0, .int a1] M (oIM r) := by
  have xR : ∀ v : Int32 × Mem, r = v → r = v := fun _ q => q
  refine Ct.of (by decide +kernel) rfl rfl ?_
  unfold F_Mo_end at hE
  refine g_aload_n (r := a0) dX13_end_0 rfl ?_
  refine g_iconst (v := (0 : Int32)) dX13_end_1 (by decide) ?_
  replace hE := bd_s hE
  obtain ⟨m1, hm1, hE⟩ := hE
  refine g_sI dX13_end_2 fl_X13_3_9w (by decide) hm1 ?_
  refine g_iload_n (x := a1) dX13_end_5 rfl ?_
  replace hE := bd_s hE
  obtain ⟨b3, hE, hb1⟩ := hE
  have x1t : b3 = true → G X m_Mo_end (endP X m_Mo_end (oIM r)) 17 [.ref a0, .int a1] [] 0 0 m1 := by
    intro q
    replace hE := ifb_t q hb1
    refine g_iconst (v := (0 : Int32)) dX13_end_17 (by decide) ?_
    rw [xR ((0 : Int32), m1) (Option.some.inj hE).symm]
    exact g_zret dX13_end_18 rfl (Or.inl rfl) rfl
  have x1f : b3 = false → G X m_Mo_end (endP X m_Mo_end (oIM r)) 19 [.ref a0, .int a1] [] 0 0 m1 := by
    intro q
    replace hE := ifb_f q hb1
    refine g_aload_n (r := a0) dX13_end_19 rfl ?_
    refine g_iload_n (x := a1) dX13_end_20 rfl ?_
    replace hE := bd_s hE
    obtain ⟨m6, hm6, hE⟩ := hE
    refine g_sI dX13_end_21 fl_X13_68_9w (by decide) hm6 ?_
    refine g_iconst (v := (1 : Int32)) dX13_end_24 (by decide) ?_
    rw [xR ((1 : Int32), m6) (Option.some.inj hE).symm]
    exact g_zret dX13_end_25 rfl (Or.inr rfl) rfl
  clear hb1
  refine g_if_lt 17 dX13_end_6 (by decide) (fun q2 => ?_) (fun q2 => ?_)
  · replace hE := ife_p q2 hE
    exact x1t (Option.some.inj hE).symm
  replace hE := ife_n q2 hE
  refine g_iload_n (x := a1) dX13_end_9 rfl ?_
  refine g_aload_n (r := a0) dX13_end_10 rfl ?_
  replace hE := bd_s hE
  obtain ⟨v4, hv4, hE⟩ := hE
  refine g_fI dX13_end_11 fl_X13_68_9 rfl hv4 ?_
  refine g_icmp_le 19 dX13_end_14 (by decide) (fun q5 => ?_) (fun q5 => ?_)
  · replace hE := ife_p q5 hE
    exact x1f (Option.some.inj hE).symm
  replace hE := ife_n q5 hE
  exact x1t (Option.some.inj hE).symm
theorem dX13_isAt_0 : decode cX13_isAt 0 = .ok (.aload_n 0, 1) := by decide +kernel
theorem dX13_isAt_1 : decode cX13_isAt 1 = .ok (.getfield 71, 3) := by decide +kernel
theorem dX13_isAt_4 : decode cX13_isAt 4 = .ok (.aload_n 0, 1) := by decide +kernel
theorem dX13_isAt_5 : decode cX13_isAt 5 = .ok (.getfield 74, 3) := by decide +kernel
theorem dX13_isAt_8 : decode cX13_isAt 8 = .ok (.if_icmp .ge 33, 3) := by decide +kernel
theorem dX13_isAt_11 : decode cX13_isAt 11 = .ok (.aload_n 0, 1) := by decide +kernel
theorem dX13_isAt_12 : decode cX13_isAt 12 = .ok (.getfield 26, 3) := by decide +kernel
theorem dX13_isAt_15 : decode cX13_isAt 15 = .ok (.aload_n 0, 1) := by decide +kernel
theorem dX13_isAt_16 : decode cX13_isAt 16 = .ok (.getfield 71, 3) := by decide +kernel
theorem dX13_isAt_19 : decode cX13_isAt 19 = .ok (.baload, 1) := by decide +kernel
theorem dX13_isAt_20 : decode cX13_isAt 20 = .ok (.iload_n 1, 1) := by decide +kernel
theorem dX13_isAt_21 : decode cX13_isAt 21 = .ok (.if_icmp .lt 20, 3) := by decide +kernel
theorem dX13_isAt_24 : decode cX13_isAt 24 = .ok (.aload_n 0, 1) := by decide +kernel
theorem dX13_isAt_25 : decode cX13_isAt 25 = .ok (.getfield 26, 3) := by decide +kernel
theorem dX13_isAt_28 : decode cX13_isAt 28 = .ok (.aload_n 0, 1) := by decide +kernel
theorem dX13_isAt_29 : decode cX13_isAt 29 = .ok (.getfield 71, 3) := by decide +kernel
theorem dX13_isAt_32 : decode cX13_isAt 32 = .ok (.baload, 1) := by decide +kernel
theorem dX13_isAt_33 : decode cX13_isAt 33 = .ok (.iload_n 2, 1) := by decide +kernel
theorem dX13_isAt_34 : decode cX13_isAt 34 = .ok (.if_icmp .gt 7, 3) := by decide +kernel
theorem dX13_isAt_37 : decode cX13_isAt 37 = .ok (.iconst 1, 1) := by decide +kernel
theorem dX13_isAt_38 : decode cX13_isAt 38 = .ok (.goto 4, 3) := by decide +kernel
theorem dX13_isAt_41 : decode cX13_isAt 41 = .ok (.iconst 0, 1) := by decide +kernel
theorem dX13_isAt_42 : decode cX13_isAt 42 = .ok (.ireturn, 1) := by decide +kernel
def F_Mo_isAt (a0 : Nat) (a1 : Int32) (a2 : Int32) (M : Mem) : Option (Int32) := (fI M a0 19 9).bind fun v1 => (fI M a0 19 10).bind fun v2 => (if v2 ≤ v1 then (some false) else ((fR M a0 19 7).bind fun v5 => (fI M a0 19 9).bind fun v6 => (aB M v5 v6).bind fun v7 => if v7 < a1 then (some false) else ((fR M a0 19 7).bind fun v9 => (fI M a0 19 9).bind fun v10 => (aB M v9 v10).bind fun v11 => if a2 < v11 then (some false) else (some true))) : Option Bool).bind fun b4 => if b4 = true then (some (1 : Int32)) else (some (0 : Int32))
def m_Mo_isAt : My := (yX13_isAt, cX13_isAt, 3, some .boolean, { frames := 0, cells := 0, slots := 0, locals := 0 }, [])
theorem yg_Mo_isAt : YG (m_Mo_isAt) := (at_gw 1464 (by decide +kernel) rfl)
theorem ct_Mo_isAt {X : Cx} {a0 : Nat} {a1 : Int32} {a2 : Int32} {M : Mem} {r : Int32} (hE : F_Mo_isAt a0 a1 a2 M = some r) : Ct X m_Mo_isAt [.ref a0, .int a1, .int a2] M ((oI M) r) := by
  have xR : ∀ v : Int32, r = v → r = v := fun _ q => q
  refine Ct.of (by decide +kernel) rfl rfl ?_
  unfold F_Mo_isAt at hE
  refine g_aload_n (r := a0) dX13_isAt_0 rfl ?_
  replace hE := bd_s hE
  obtain ⟨v1, hv1, hE⟩ := hE
  refine g_fI dX13_isAt_1 fl_X13_71_9 rfl hv1 ?_
  refine g_aload_n (r := a0) dX13_isAt_4 rfl ?_
  replace hE := bd_s hE
  obtain ⟨v2, hv2, hE⟩ := hE
  refine g_fI dX13_isAt_5 fl_X13_74_9 rfl hv2 ?_
  replace hE := bd_s hE
  obtain ⟨b4, hE, hb1⟩ := hE
  have x1t : b4 = true → G X m_Mo_isAt (endP X m_Mo_isAt ((oI M) r)) 37 [.ref a0, .int a1, .int a2] [] 0 0 M := by
    intro q
    replace hE := ifb_t q hb1
    refine g_iconst (v := (1 : Int32)) dX13_isAt_37 (by decide) ?_
    refine g_goto 42 dX13_isAt_38 (by decide) ?_
    rw [xR (1 : Int32) (Option.some.inj hE).symm]
    exact g_zret dX13_isAt_42 rfl (Or.inr rfl) rfl
  have x1f : b4 = false → G X m_Mo_isAt (endP X m_Mo_isAt ((oI M) r)) 41 [.ref a0, .int a1, .int a2] [] 0 0 M := by
    intro q
    replace hE := ifb_f q hb1
    refine g_iconst (v := (0 : Int32)) dX13_isAt_41 (by decide) ?_
    rw [xR (0 : Int32) (Option.some.inj hE).symm]
    exact g_zret dX13_isAt_42 rfl (Or.inl rfl) rfl
  clear hb1
  refine g_icmp_ge 41 dX13_isAt_8 (by decide) (fun q3 => ?_) (fun q3 => ?_)
  · replace hE := ife_p q3 hE
    exact x1f (Option.some.inj hE).symm
  replace hE := ife_n q3 hE
  refine g_aload_n (r := a0) dX13_isAt_11 rfl ?_
  replace hE := bd_s hE
  obtain ⟨v5, hv5, hE⟩ := hE
  refine g_fR dX13_isAt_12 fl_X13_26_9 rfl hv5 ?_
  refine g_aload_n (r := a0) dX13_isAt_15 rfl ?_
  replace hE := bd_s hE
  obtain ⟨v6, hv6, hE⟩ := hE
  refine g_fI dX13_isAt_16 fl_X13_71_9 rfl hv6 ?_
  replace hE := bd_s hE
  obtain ⟨v7, hv7, hE⟩ := hE
  refine g_aB dX13_isAt_19 hv7 ?_
  refine g_iload_n (x := a1) dX13_isAt_20 rfl ?_
  refine g_icmp_lt 41 dX13_isAt_21 (by decide) (fun q8 => ?_) (fun q8 => ?_)
  · replace hE := ife_p q8 hE
    exact x1f (Option.some.inj hE).symm
  replace hE := ife_n q8 hE
  refine g_aload_n (r := a0) dX13_isAt_24 rfl ?_
  replace hE := bd_s hE
  obtain ⟨v9, hv9, hE⟩ := hE
  refine g_fR dX13_isAt_25 fl_X13_26_9 rfl hv9 ?_
  refine g_aload_n (r := a0) dX13_isAt_28 rfl ?_
  replace hE := bd_s hE
  obtain ⟨v10, hv10, hE⟩ := hE
  refine g_fI dX13_isAt_29 fl_X13_71_9 rfl hv10 ?_
  replace hE := bd_s hE
  obtain ⟨v11, hv11, hE⟩ := hE
  refine g_aB dX13_isAt_32 hv11 ?_
  refine g_iload_n (x := a2) dX13_isAt_33 rfl ?_
  refine g_icmp_gt 41 dX13_isAt_34 (by decide) (fun q12 => ?_) (fun q12 => ?_)
  · replace hE := ife_p q12 hE
    exact x1f (Option.some.inj hE).symm
  replace hE := ife_n q12 hE
  exact x1t (Option.some.inj hE).symm
theorem dX13_blanks_0 : decode cX13_blanks 0 = .ok (.aload_n 0, 1) := by decide +kernel
theorem dX13_blanks_1 : decode cX13_blanks 1 = .ok (.bipush 32, 2) := by decide +kernel
theorem dX13_blanks_3 : decode cX13_blanks 3 = .ok (.bipush 32, 2) := by decide +kernel
theorem dX13_blanks_5 : decode cX13_blanks 5 = .ok (.invokevirtual 77, 3) := by decide +kernel
theorem dX13_blanks_8 : decode cX13_blanks 8 = .ok (.ifCond .eq 16, 3) := by decide +kernel
theorem dX13_blanks_11 : decode cX13_blanks 11 = .ok (.aload_n 0, 1) := by decide +kernel
theorem dX13_blanks_12 : decode cX13_blanks 12 = .ok (.dup, 1) := by decide +kernel
theorem dX13_blanks_13 : decode cX13_blanks 13 = .ok (.getfield 71, 3) := by decide +kernel
theorem dX13_blanks_16 : decode cX13_blanks 16 = .ok (.iconst 1, 1) := by decide +kernel
theorem dX13_blanks_17 : decode cX13_blanks 17 = .ok (.iadd, 1) := by decide +kernel
theorem dX13_blanks_18 : decode cX13_blanks 18 = .ok (.putfield 71, 3) := by decide +kernel
theorem dX13_blanks_21 : decode cX13_blanks 21 = .ok (.goto (-21), 3) := by decide +kernel
theorem dX13_blanks_24 : decode cX13_blanks 24 = .ok (.aload_n 0, 1) := by decide +kernel
theorem dX13_blanks_25 : decode cX13_blanks 25 = .ok (.aload_n 0, 1) := by decide +kernel
theorem dX13_blanks_26 : decode cX13_blanks 26 = .ok (.getfield 71, 3) := by decide +kernel
theorem dX13_blanks_29 : decode cX13_blanks 29 = .ok (.putfield 81, 3) := by decide +kernel
theorem dX13_blanks_32 : decode cX13_blanks 32 = .ok (.return_, 1) := by decide +kernel
def F_Mo_blanks (a0 : Nat) (M : Mem) : Option (Mem) := (loopN LIM (fun s1 : Mem => (ck (qS s1 a0 = 19)).bind fun h3 => (F_Mo_isAt a0 (32 : Int32) (32 : Int32) s1).bind fun v2 => if v2 = 0 then (some (.inr (s1))) else ((fI s1 a0 19 9).bind fun v5 => (sI s1 a0 19 9 (v5 + (1 : Int32))).bind fun m6 => some (.inl m6))) M : Option (Mem)).bind fun s7 => (fI s7 a0 19 9).bind fun v8 => (sI s7 a0 19 11 v8).bind fun m9 => some (m9)
def m_Mo_blanks : My := (yX13_blanks, cX13_blanks, 1, none, { frames := 1, cells := 0, slots := 0, locals := 22 }, [])
theorem yg_Mo_blanks : YG (m_Mo_blanks) := (at_gw 1460 (by decide +kernel) rfl)
theorem ct_Mo_blanks {X : Cx} {a0 : Nat} {M : Mem} {r : Mem} (hE : F_Mo_blanks a0 M = some r) : Ct X m_Mo_blanks [.ref a0] M (oVM r) := by
  have xR : ∀ v : Mem, r = v → r = v := fun _ q => q
  refine Ct.of (by decide +kernel) rfl rfl ?_
  unfold F_Mo_blanks at hE
  replace hE := bd_s2 hE
  obtain ⟨e1, hE, hm1⟩ := hE
  have x1 : ∀ s7 : Mem, e1 = s7 → G X m_Mo_blanks (endP X m_Mo_blanks (oVM r)) 24 [.ref a0] [] 0 0 s7 := by
    intro s7 q
    replace hE := hm1 s7 q
    clear hm1
    refine g_aload_n (r := a0) dX13_blanks_24 rfl ?_
    refine g_aload_n (r := a0) dX13_blanks_25 rfl ?_
    replace hE := bd_s hE
    obtain ⟨v8, hv8, hE⟩ := hE
    refine g_fI dX13_blanks_26 fl_X13_71_9 rfl hv8 ?_
    replace hE := bd_s hE
    obtain ⟨m9, hm9, hE⟩ := hE
    refine g_sI dX13_blanks_29 fl_X13_81_9w (by decide) hm9 ?_
    rw [xR m9 (Option.some.inj hE).symm]
    exact g_vret dX13_blanks_32 rfl rfl
  clear hm1
  have hq2 := fun st => lpi (fun s1 : Mem => G X m_Mo_blanks (endP X m_Mo_blanks (oVM r)) 0 [.ref a0] [] 0 0 s1) st _ _ hE
  refine hq2 ?_
  clear hq2 hE
  intro s1 e2 hE hc2 ho2
  have y3 := fun (v : Mem) (q : e2 = .inr (v)) => x1 v (ho2 _ q).symm
  clear ho2
  refine g_aload_n (r := a0) dX13_blanks_0 rfl ?_
  refine g_bipush (v := (32 : Int32)) dX13_blanks_1 (by decide) ?_
  refine g_bipush (v := (32 : Int32)) dX13_blanks_3 (by decide) ?_
  replace hE := bd_s hE
  obtain ⟨h3, hh3, hE⟩ := hE
  replace hh3 := ck_s hh3
  replace hE := bd_s hE
  obtain ⟨v2, hv2, hE⟩ := hE
  refine g_callV (as := [.int (32 : Int32), .int (32 : Int32)]) (rvs := [.int v2]) 0 0 dX13_blanks_5 yg_Mo_isAt vl_X13_77 (ct_Mo_isAt hv2) (RC.obj hh3 (by decide) cl_9.1) rfl rfl rfl (Nat.le_of_ble_eq_true rfl) rfl rfl rfl ?_
  refine g_if_eq 24 dX13_blanks_8 (by decide) (fun q4 => ?_) (fun q4 => ?_)
  · replace hE := ife_p q4 hE
    exact y3 s1 (Option.some.inj hE).symm
  replace hE := ife_n q4 hE
  refine g_aload_n (r := a0) dX13_blanks_11 rfl ?_
  refine g_dup dX13_blanks_12 rfl ?_
  replace hE := bd_s hE
  obtain ⟨v5, hv5, hE⟩ := hE
  refine g_fI dX13_blanks_13 fl_X13_71_9 rfl hv5 ?_
  refine g_iconst (v := (1 : Int32)) dX13_blanks_16 (by decide) ?_
  refine g_iadd dX13_blanks_17 ?_
  replace hE := bd_s hE
  obtain ⟨m6, hm6, hE⟩ := hE
  refine g_sI dX13_blanks_18 fl_X13_71_9w (by decide) hm6 ?_
  refine g_goto 0 dX13_blanks_21 (by decide) ?_
  exact hc2 m6 (Option.some.inj hE).symm
theorem dX13_letters_0 : decode cX13_letters 0 = .ok (.aload_n 0, 1) := by decide +kernel
theorem dX13_letters_1 : decode cX13_letters 1 = .ok (.invokevirtual 84, 3) := by decide +kernel
theorem dX13_letters_4 : decode cX13_letters 4 = .ok (.aload_n 0, 1) := by decide +kernel
theorem dX13_letters_5 : decode cX13_letters 5 = .ok (.bipush 97, 2) := by decide +kernel
theorem dX13_letters_7 : decode cX13_letters 7 = .ok (.bipush 122, 2) := by decide +kernel
theorem dX13_letters_9 : decode cX13_letters 9 = .ok (.invokevirtual 77, 3) := by decide +kernel
theorem dX13_letters_12 : decode cX13_letters 12 = .ok (.ifCond .eq 16, 3) := by decide +kernel
theorem dX13_letters_15 : decode cX13_letters 15 = .ok (.aload_n 0, 1) := by decide +kernel
theorem dX13_letters_16 : decode cX13_letters 16 = .ok (.dup, 1) := by decide +kernel
theorem dX13_letters_17 : decode cX13_letters 17 = .ok (.getfield 71, 3) := by decide +kernel
theorem dX13_letters_20 : decode cX13_letters 20 = .ok (.iconst 1, 1) := by decide +kernel
theorem dX13_letters_21 : decode cX13_letters 21 = .ok (.iadd, 1) := by decide +kernel
theorem dX13_letters_22 : decode cX13_letters 22 = .ok (.putfield 71, 3) := by decide +kernel
theorem dX13_letters_25 : decode cX13_letters 25 = .ok (.goto (-21), 3) := by decide +kernel
theorem dX13_letters_28 : decode cX13_letters 28 = .ok (.return_, 1) := by decide +kernel
def F_Mo_letters (a0 : Nat) (M : Mem) : Option (Mem) := (ck (qS M a0 = 19)).bind fun h2 => (F_Mo_blanks a0 M).bind fun v1 => loopN LIM (fun s3 : Mem => (ck (qS s3 a0 = 19)).bind fun h5 => (F_Mo_isAt a0 (97 : Int32) (122 : Int32) s3).bind fun v4 => if v4 = 0 then (some (.inr (s3))) else ((fI s3 a0 19 9).bind fun v7 => (sI s3 a0 19 9 (v7 + (1 : Int32))).bind fun m8 => some (.inl m8))) v1
def m_Mo_letters : My := (yX13_letters, cX13_letters, 1, none, { frames := 2, cells := 0, slots := 0, locals := 42 }, [])
theorem yg_Mo_letters : YG (m_Mo_letters) := (at_gw 1472 (by decide +kernel) rfl)
theorem ct_Mo_letters {X : Cx} {a0 : Nat} {M : Mem} {r : Mem} (hE : F_Mo_letters a0 M = some r) : Ct X m_Mo_letters [.ref a0] M (oVM r) := by
  have xR : ∀ v : Mem, r = v → r = v := fun _ q => q
  refine Ct.of (by decide +kernel) rfl rfl ?_
  unfold F_Mo_letters at hE
  refine g_aload_n (r := a0) dX13_letters_0 rfl ?_
  replace hE := bd_s hE
  obtain ⟨h2, hh2, hE⟩ := hE
  replace hh2 := ck_s hh2
  replace hE := bd_s hE
  obtain ⟨v1, hv1, hE⟩ := hE
  refine g_callV (as := []) (rvs := []) 0 0 dX13_letters_1 yg_Mo_blanks vl_X13_84 (ct_Mo_blanks hv1) (RC.obj hh2 (by decide) cl_9.1) rfl rfl rfl (Nat.le_of_ble_eq_true rfl) rfl rfl rfl ?_
  have hq1 := fun st => lpi (fun s3 : Mem => G X m_Mo_letters (endP X m_Mo_letters (oVM r)) 4 [.ref a0] [] 0 0 s3) st _ _ hE
  refine hq1 ?_
  clear hq1 hE
  intro s3 e1 hE hc1 ho1
  have y2 := fun (v : Mem) (q : e1 = .inr (v)) => xR v (ho1 _ q).symm
  clear ho1
  refine g_aload_n (r := a0) dX13_letters_4 rfl ?_
  refine g_bipush (v := (97 : Int32)) dX13_letters_5 (by decide) ?_
  refine g_bipush (v := (122 : Int32)) dX13_letters_7 (by decide) ?_
  replace hE := bd_s hE
  obtain ⟨h5, hh5, hE⟩ := hE
  replace hh5 := ck_s hh5
  replace hE := bd_s hE
  obtain ⟨v4, hv4, hE⟩ := hE
  refine g_callV (as := [.int (97 : Int32), .int (122 : Int32)]) (rvs := [.int v4]) 0 0 dX13_letters_9 yg_Mo_isAt vl_X13_77 (ct_Mo_isAt hv4) (RC.obj hh5 (by decide) cl_9.1) rfl rfl rfl (Nat.le_of_ble_eq_true rfl) rfl rfl rfl ?_
  refine g_if_eq 28 dX13_letters_12 (by decide) (fun q6 => ?_) (fun q6 => ?_)
  · replace hE := ife_p q6 hE
    rw [y2 s3 (Option.some.inj hE).symm]
    exact g_vret dX13_letters_28 rfl rfl
  replace hE := ife_n q6 hE
  refine g_aload_n (r := a0) dX13_letters_15 rfl ?_
  refine g_dup dX13_letters_16 rfl ?_
  replace hE := bd_s hE
  obtain ⟨v7, hv7, hE⟩ := hE
  refine g_fI dX13_letters_17 fl_X13_71_9 rfl hv7 ?_
  refine g_iconst (v := (1 : Int32)) dX13_letters_20 (by decide) ?_
  refine g_iadd dX13_letters_21 ?_
  replace hE := bd_s hE
  obtain ⟨m8, hm8, hE⟩ := hE
  refine g_sI dX13_letters_22 fl_X13_71_9w (by decide) hm8 ?_
  refine g_goto 4 dX13_letters_25 (by decide) ?_
  exact hc1 m8 (Option.some.inj hE).symm
theorem dX13_isWord_0 : decode cX13_isWord 0 = .ok (.aload_n 0, 1) := by decide +kernel
theorem dX13_isWord_1 : decode cX13_isWord 1 = .ok (.getfield 71, 3) := by decide +kernel
theorem dX13_isWord_4 : decode cX13_isWord 4 = .ok (.aload_n 0, 1) := by decide +kernel
theorem dX13_isWord_5 : decode cX13_isWord 5 = .ok (.getfield 81, 3) := by decide +kernel
theorem dX13_isWord_8 : decode cX13_isWord 8 = .ok (.isub, 1) := by decide +kernel
theorem dX13_isWord_9 : decode cX13_isWord 9 = .ok (.aload_n 1, 1) := by decide +kernel
theorem dX13_isWord_10 : decode cX13_isWord 10 = .ok (.invokevirtual 87, 3) := by decide +kernel
theorem dX13_isWord_13 : decode cX13_isWord 13 = .ok (.if_icmp .ne 7, 3) := by decide +kernel
theorem dX13_isWord_16 : decode cX13_isWord 16 = .ok (.iconst 1, 1) := by decide +kernel
theorem dX13_isWord_17 : decode cX13_isWord 17 = .ok (.goto 4, 3) := by decide +kernel
theorem dX13_isWord_20 : decode cX13_isWord 20 = .ok (.iconst 0, 1) := by decide +kernel
theorem dX13_isWord_21 : decode cX13_isWord 21 = .ok (.istore_n 2, 1) := by decide +kernel
theorem dX13_isWord_22 : decode cX13_isWord 22 = .ok (.iconst 0, 1) := by decide +kernel
theorem dX13_isWord_23 : decode cX13_isWord 23 = .ok (.istore_n 3, 1) := by decide +kernel
theorem dX13_isWord_24 : decode cX13_isWord 24 = .ok (.iload_n 2, 1) := by decide +kernel
theorem dX13_isWord_25 : decode cX13_isWord 25 = .ok (.ifCond .eq 42, 3) := by decide +kernel
theorem dX13_isWord_28 : decode cX13_isWord 28 = .ok (.iload_n 3, 1) := by decide +kernel
theorem dX13_isWord_29 : decode cX13_isWord 29 = .ok (.aload_n 1, 1) := by decide +kernel
theorem dX13_isWord_30 : decode cX13_isWord 30 = .ok (.invokevirtual 87, 3) := by decide +kernel
theorem dX13_isWord_33 : decode cX13_isWord 33 = .ok (.if_icmp .ge 34, 3) := by decide +kernel
theorem dX13_isWord_36 : decode cX13_isWord 36 = .ok (.aload_n 0, 1) := by decide +kernel
theorem dX13_isWord_37 : decode cX13_isWord 37 = .ok (.getfield 26, 3) := by decide +kernel
theorem dX13_isWord_40 : decode cX13_isWord 40 = .ok (.aload_n 0, 1) := by decide +kernel
theorem dX13_isWord_41 : decode cX13_isWord 41 = .ok (.getfield 81, 3) := by decide +kernel
theorem dX13_isWord_44 : decode cX13_isWord 44 = .ok (.iload_n 3, 1) := by decide +kernel
theorem dX13_isWord_45 : decode cX13_isWord 45 = .ok (.iadd, 1) := by decide +kernel
theorem dX13_isWord_46 : decode cX13_isWord 46 = .ok (.baload, 1) := by decide +kernel
theorem dX13_isWord_47 : decode cX13_isWord 47 = .ok (.aload_n 1, 1) := by decide +kernel
theorem dX13_isWord_48 : decode cX13_isWord 48 = .ok (.iload_n 3, 1) := by decide +kernel
theorem dX13_isWord_49 : decode cX13_isWord 49 = .ok (.invokevirtual 92, 3) := by decide +kernel
theorem dX13_isWord_52 : decode cX13_isWord 52 = .ok (.if_icmp .ne 7, 3) := by decide +kernel
theorem dX13_isWord_55 : decode cX13_isWord 55 = .ok (.iconst 1, 1) := by decide +kernel
theorem dX13_isWord_56 : decode cX13_isWord 56 = .ok (.goto 4, 3) := by decide +kernel
theorem dX13_isWord_59 : decode cX13_isWord 59 = .ok (.iconst 0, 1) := by decide +kernel
theorem dX13_isWord_60 : decode cX13_isWord 60 = .ok (.istore_n 2, 1) := by decide +kernel
theorem dX13_isWord_61 : decode cX13_isWord 61 = .ok (.iinc 3 1, 3) := by decide +kernel
theorem dX13_isWord_64 : decode cX13_isWord 64 = .ok (.goto (-40), 3) := by decide +kernel
theorem dX13_isWord_67 : decode cX13_isWord 67 = .ok (.iload_n 2, 1) := by decide +kernel
theorem dX13_isWord_68 : decode cX13_isWord 68 = .ok (.ireturn, 1) := by decide +kernel
def F_Mo_isWord (a0 : Nat) (a1 : Nat) (M : Mem) : Option (Int32) := (fI M a0 19 9).bind fun v1 => (fI M a0 19 11).bind fun v2 => (sLen a1).bind fun v3 => (if (v1 - v2) = v3 then (some (1 : Int32)) else (some (0 : Int32)) : Option (Int32)).bind fun s5 => loopN LIM (fun s6 : Int32 × Int32 => (if s6.1 = 0 then (some false) else ((sLen a1).bind fun v9 => if v9 ≤ s6.2 then (some false) else (some true)) : Option Bool).bind fun b8 => if b8 = true then ((fR M a0 19 7).bind fun v11 => (fI M a0 19 11).bind fun v12 => (aB M v11 (v12 + s6.2)).bind fun v13 => (sAt a1 s6.2).bind fun v14 => (if v13 = v14 then (some (1 : Int32)) else (some (0 : Int32)) : Option (Int32)).bind fun s16 => some (.inl (s16, (s6.2 + (1 : Int32))))) else ((ck (s6.1 = 0 ∨ s6.1 = 1)).bind fun h17 => some (.inr (s6.1)))) (s5, (0 : Int32))
def m_Mo_isWord : My := (yX13_isWord, cX13_isWord, 4, some .boolean, { frames := 4, cells := 0, slots := 0, locals := 85 }, [])
theorem yg_Mo_isWord : YG (m_Mo_isWord) := (at_gw 1481 (by decide +kernel) rfl)
theorem ct_Mo_isWord {X : Cx} {a0 : Nat} {a1 : Nat} {M : Mem} {r : Int32} (hE : F_Mo_isWord a0 a1 M = some r) : Ct X m_Mo_isWord [.ref a0, .ref a1] M ((oI M) r) := by
  have xR : ∀ v : Int32, r = v → r = v := fun _ q => q
  refine Ct.of (by decide +kernel) rfl rfl ?_
  unfold F_Mo_isWord at hE
  refine g_aload_n (r := a0) dX13_isWord_0 rfl ?_
  replace hE := bd_s hE
  obtain ⟨v1, hv1, hE⟩ := hE
  refine g_fI dX13_isWord_1 fl_X13_71_9 rfl hv1 ?_
  refine g_aload_n (r := a0) dX13_isWord_4 rfl ?_
  replace hE := bd_s hE
  obtain ⟨v2, hv2, hE⟩ := hE
  refine g_fI dX13_isWord_5 fl_X13_81_9 rfl hv2 ?_
  refine g_isub dX13_isWord_8 ?_
  refine g_aload_n (r := a1) dX13_isWord_9 rfl ?_
  replace hE := bd_s hE
  obtain ⟨v3, hv3, hE⟩ := hE
  refine g_callV (as := []) (rvs := [.int v3]) 0 0 dX13_isWord_10 yg_slen vl_X13_87 (ct_slen hv3) (RC.str (slen_s hv3)) rfl rfl rfl (Nat.le_of_ble_eq_true rfl) rfl rfl rfl ?_
  replace hE := bd_s2 hE
  obtain ⟨e1, hE, hm1⟩ := hE
  have x1 : ∀ s5 : Int32, e1 = s5 → G X m_Mo_isWord (endP X m_Mo_isWord ((oI M) r)) 21 [.ref a0, .ref a1, .retAddr 0, .retAddr 0] [.int s5] 0 0 M := by
    intro s5 q
    replace hE := hm1 s5 q
    clear hm1
    refine g_istore_n dX13_isWord_21 rfl ?_
    refine g_iconst (v := (0 : Int32)) dX13_isWord_22 (by decide) ?_
    refine g_istore_n dX13_isWord_23 rfl ?_
    have hq2 := fun st => lpi (fun s6 : Int32 × Int32 => G X m_Mo_isWord (endP X m_Mo_isWord ((oI M) r)) 24 [.ref a0, .ref a1, .int s6.1, .int s6.2] [] 0 0 M) st _ _ hE
    refine hq2 ?_
    clear hq2 hE
    intro s6 e2 hE hc2 ho2
    have y3 := fun (v : Int32) (q : e2 = .inr (v)) => xR v (ho2 _ q).symm
    clear ho2
    refine g_iload_n (x := s6.1) dX13_isWord_24 rfl ?_
    replace hE := bd_s hE
    obtain ⟨b8, hE, hb4⟩ := hE
    have x4t : b8 = true → G X m_Mo_isWord (endP X m_Mo_isWord ((oI M) r)) 36 [.ref a0, .ref a1, .int s6.1, .int s6.2] [] 0 0 M := by
      intro q
      replace hE := ifb_t q hb4
      refine g_aload_n (r := a0) dX13_isWord_36 rfl ?_
      replace hE := bd_s hE
      obtain ⟨v11, hv11, hE⟩ := hE
      refine g_fR dX13_isWord_37 fl_X13_26_9 rfl hv11 ?_
      refine g_aload_n (r := a0) dX13_isWord_40 rfl ?_
      replace hE := bd_s hE
      obtain ⟨v12, hv12, hE⟩ := hE
      refine g_fI dX13_isWord_41 fl_X13_81_9 rfl hv12 ?_
      refine g_iload_n (x := s6.2) dX13_isWord_44 rfl ?_
      refine g_iadd dX13_isWord_45 ?_
      replace hE := bd_s hE
      obtain ⟨v13, hv13, hE⟩ := hE
      refine g_aB dX13_isWord_46 hv13 ?_
      refine g_aload_n (r := a1) dX13_isWord_47 rfl ?_
      refine g_iload_n (x := s6.2) dX13_isWord_48 rfl ?_
      replace hE := bd_s hE
      obtain ⟨v14, hv14, hE⟩ := hE
      refine g_callV (as := [.int s6.2]) (rvs := [.int v14]) 0 0 dX13_isWord_49 yg_scat vl_X13_92 (ct_scat hv14) (RC.str (sat_s hv14)) rfl rfl rfl (Nat.le_of_ble_eq_true rfl) rfl rfl rfl ?_
      replace hE := bd_s2 hE
      obtain ⟨e5, hE, hm5⟩ := hE
      have x5 : ∀ s16 : Int32, e5 = s16 → G X m_Mo_isWord (endP X m_Mo_isWord ((oI M) r)) 60 [.ref a0, .ref a1, .retAddr 0, .int s6.2] [.int s16] 0 0 M := by
        intro s16 q
        replace hE := hm5 s16 q
        clear hm5
        refine g_istore_n dX13_isWord_60 rfl ?_
        refine g_iinc (s6.2 + (1 : Int32)) dX13_isWord_61 rfl (iinc_e (by decide)) rfl ?_
        refine g_goto 24 dX13_isWord_64 (by decide) ?_
        exact hc2 (s16, (s6.2 + (1 : Int32))) (Option.some.inj hE).symm
      clear hm5
      refine g_icmp_ne 59 dX13_isWord_52 (by decide) (fun q15 => ?_) (fun q15 => ?_)
      · replace hE := ife_n q15 hE
        refine g_iconst (v := (0 : Int32)) dX13_isWord_59 (by decide) ?_
        refine g_msk [true, true, false, true] ?_
        exact x5 (0 : Int32) (Option.some.inj hE).symm
      replace hE := ife_p q15 hE
      refine g_iconst (v := (1 : Int32)) dX13_isWord_55 (by decide) ?_
      refine g_goto 60 dX13_isWord_56 (by decide) ?_
      refine g_msk [true, true, false, true] ?_
      exact x5 (1 : Int32) (Option.some.inj hE).symm
    have x4f : b8 = false → G X m_Mo_isWord (endP X m_Mo_isWord ((oI M) r)) 67 [.ref a0, .ref a1, .int s6.1, .int s6.2] [] 0 0 M := by
      intro q
      replace hE := ifb_f q hb4
      refine g_iload_n (x := s6.1) dX13_isWord_67 rfl ?_
      replace hE := bd_s hE
      obtain ⟨h17, hh17, hE⟩ := hE
      replace hh17 := ck_s hh17
      rw [y3 s6.1 (Option.some.inj hE).symm]
      exact g_zret dX13_isWord_68 rfl hh17 rfl
    clear hb4
    refine g_if_eq 67 dX13_isWord_25 (by decide) (fun q7 => ?_) (fun q7 => ?_)
    · replace hE := ife_p q7 hE
      exact x4f (Option.some.inj hE).symm
    replace hE := ife_n q7 hE
    refine g_iload_n (x := s6.2) dX13_isWord_28 rfl ?_
    refine g_aload_n (r := a1) dX13_isWord_29 rfl ?_
    replace hE := bd_s hE
    obtain ⟨v9, hv9, hE⟩ := hE
    refine g_callV (as := []) (rvs := [.int v9]) 0 0 dX13_isWord_30 yg_slen vl_X13_87 (ct_slen hv9) (RC.str (slen_s hv9)) rfl rfl rfl (Nat.le_of_ble_eq_true rfl) rfl rfl rfl ?_
    refine g_icmp_ge 67 dX13_isWord_33 (by decide) (fun q10 => ?_) (fun q10 => ?_)
    · replace hE := ife_p q10 hE
      exact x4f (Option.some.inj hE).symm
    replace hE := ife_n q10 hE
    exact x4t (Option.some.inj hE).symm
  clear hm1
  refine g_icmp_ne 20 dX13_isWord_13 (by decide) (fun q4 => ?_) (fun q4 => ?_)
  · replace hE := ife_n q4 hE
    refine g_iconst (v := (0 : Int32)) dX13_isWord_20 (by decide) ?_
    exact x1 (0 : Int32) (Option.some.inj hE).symm
  replace hE := ife_p q4 hE
  refine g_iconst (v := (1 : Int32)) dX13_isWord_16 (by decide) ?_
  refine g_goto 21 dX13_isWord_17 (by decide) ?_
  exact x1 (1 : Int32) (Option.some.inj hE).symm
theorem dX13_passes_0 : decode cX13_passes 0 = .ok (.aload_n 0, 1) := by decide +kernel
theorem dX13_passes_1 : decode cX13_passes 1 = .ok (.invokevirtual 96, 3) := by decide +kernel
theorem dX13_passes_4 : decode cX13_passes 4 = .ok (.aload_n 0, 1) := by decide +kernel
theorem dX13_passes_5 : decode cX13_passes 5 = .ok (.aload_n 1, 1) := by decide +kernel
theorem dX13_passes_6 : decode cX13_passes 6 = .ok (.invokevirtual 99, 3) := by decide +kernel
theorem dX13_passes_9 : decode cX13_passes 9 = .ok (.ifCond .eq 5, 3) := by decide +kernel
theorem dX13_passes_12 : decode cX13_passes 12 = .ok (.iconst 1, 1) := by decide +kernel
theorem dX13_passes_13 : decode cX13_passes 13 = .ok (.ireturn, 1) := by decide +kernel
theorem dX13_passes_14 : decode cX13_passes 14 = .ok (.aload_n 0, 1) := by decide +kernel
theorem dX13_passes_15 : decode cX13_passes 15 = .ok (.aload_n 0, 1) := by decide +kernel
theorem dX13_passes_16 : decode cX13_passes 16 = .ok (.getfield 81, 3) := by decide +kernel
theorem dX13_passes_19 : decode cX13_passes 19 = .ok (.putfield 71, 3) := by decide +kernel
theorem dX13_passes_22 : decode cX13_passes 22 = .ok (.iconst 0, 1) := by decide +kernel
theorem dX13_passes_23 : decode cX13_passes 23 = .ok (.ireturn, 1) := by decide +kernel
def F_Mo_passes (a0 : Nat) (a1 : Nat) (M : Mem) : Option (Int32 × Mem) := (ck (qS M a0 = 19)).bind fun h2 => (F_Mo_letters a0 M).bind fun v1 => (ck (qS v1 a0 = 19)).bind fun h4 => (F_Mo_isWord a0 a1 v1).bind fun v3 => if v3 = 0 then ((fI v1 a0 19 11).bind fun v6 => (sI v1 a0 19 9 v6).bind fun m7 => some ((0 : Int32), m7)) else (some ((1 : Int32), v1))
def m_Mo_passes : My := (yX13_passes, cX13_passes, 2, some .boolean, { frames := 5, cells := 0, slots := 0, locals := 108 }, [])
theorem yg_Mo_passes : YG (m_Mo_passes) := (at_gw 1504 (by decide +kernel) rfl)
theorem ct_Mo_passes {X : Cx} {a0 : Nat} {a1 : Nat} {M : Mem} {r : Int32 × Mem} (hE : F_Mo_passes a0 a1 M = some r) : Ct X m_Mo_passes [.ref a0, .ref a1] M (oIM r) := by
  have xR : ∀ v : Int32 × Mem, r = v → r = v := fun _ q => q
  refine Ct.of (by decide +kernel) rfl rfl ?_
  unfold F_Mo_passes at hE
  refine g_aload_n (r := a0) dX13_passes_0 rfl ?_
  replace hE := bd_s hE
  obtain ⟨h2, hh2, hE⟩ := hE
  replace hh2 := ck_s hh2
  replace hE := bd_s hE
  obtain ⟨v1, hv1, hE⟩ := hE
  refine g_callV (as := []) (rvs := []) 0 0 dX13_passes_1 yg_Mo_letters vl_X13_96 (ct_Mo_letters hv1) (RC.obj hh2 (by decide) cl_9.1) rfl rfl rfl (Nat.le_of_ble_eq_true rfl) rfl rfl rfl ?_
  refine g_aload_n (r := a0) dX13_passes_4 rfl ?_
  refine g_aload_n (r := a1) dX13_passes_5 rfl ?_
  replace hE := bd_s hE
  obtain ⟨h4, hh4, hE⟩ := hE
  replace hh4 := ck_s hh4
  replace hE := bd_s hE
  obtain ⟨v3, hv3, hE⟩ := hE
  refine g_callV (as := [.ref a1]) (rvs := [.int v3]) 0 0 dX13_passes_6 yg_Mo_isWord vl_X13_99 (ct_Mo_isWord hv3) (RC.obj hh4 (by decide) cl_9.1) rfl rfl rfl (Nat.le_of_ble_eq_true rfl) rfl rfl rfl ?_
  refine g_if_eq 14 dX13_passes_9 (by decide) (fun q5 => ?_) (fun q5 => ?_)
  · replace hE := ife_p q5 hE
    refine g_aload_n (r := a0) dX13_passes_14 rfl ?_
    refine g_aload_n (r := a0) dX13_passes_15 rfl ?_
    replace hE := bd_s hE
    obtain ⟨v6, hv6, hE⟩ := hE
    refine g_fI dX13_passes_16 fl_X13_81_9 rfl hv6 ?_
    replace hE := bd_s hE
    obtain ⟨m7, hm7, hE⟩ := hE
    refine g_sI dX13_passes_19 fl_X13_71_9w (by decide) hm7 ?_
    refine g_iconst (v := (0 : Int32)) dX13_passes_22 (by decide) ?_
    rw [xR ((0 : Int32), m7) (Option.some.inj hE).symm]
    exact g_zret dX13_passes_23 rfl (Or.inl rfl) rfl
  replace hE := ife_n q5 hE
  refine g_iconst (v := (1 : Int32)) dX13_passes_12 (by decide) ?_
  rw [xR ((1 : Int32), v1) (Option.some.inj hE).symm]
  exact g_zret dX13_passes_13 rfl (Or.inr rfl) rfl
theorem dX13_sign_0 : decode cX13_sign 0 = .ok (.aload_n 0, 1) := by decide +kernel
theorem dX13_sign_1 : decode cX13_sign 1 = .ok (.invokevirtual 84, 3) := by decide +kernel
theorem dX13_sign_4 : decode cX13_sign 4 = .ok (.aload_n 0, 1) := by decide +kernel
theorem dX13_sign_5 : decode cX13_sign 5 = .ok (.iload_n 1, 1) := by decide +kernel
theorem dX13_sign_6 : decode cX13_sign 6 = .ok (.iload_n 1, 1) := by decide +kernel
theorem dX13_sign_7 : decode cX13_sign 7 = .ok (.invokevirtual 77, 3) := by decide +kernel
theorem dX13_sign_10 : decode cX13_sign 10 = .ok (.ifCond .ne 5, 3) := by decide +kernel
theorem dX13_sign_13 : decode cX13_sign 13 = .ok (.iconst 0, 1) := by decide +kernel
theorem dX13_sign_14 : decode cX13_sign 14 = .ok (.ireturn, 1) := by decide +kernel
theorem dX13_sign_15 : decode cX13_sign 15 = .ok (.aload_n 0, 1) := by decide +kernel
theorem dX13_sign_16 : decode cX13_sign 16 = .ok (.dup, 1) := by decide +kernel
theorem dX13_sign_17 : decode cX13_sign 17 = .ok (.getfield 71, 3) := by decide +kernel
theorem dX13_sign_20 : decode cX13_sign 20 = .ok (.iconst 1, 1) := by decide +kernel
theorem dX13_sign_21 : decode cX13_sign 21 = .ok (.iadd, 1) := by decide +kernel
theorem dX13_sign_22 : decode cX13_sign 22 = .ok (.putfield 71, 3) := by decide +kernel
theorem dX13_sign_25 : decode cX13_sign 25 = .ok (.iconst 1, 1) := by decide +kernel
theorem dX13_sign_26 : decode cX13_sign 26 = .ok (.ireturn, 1) := by decide +kernel
def F_Mo_sign (a0 : Nat) (a1 : Int32) (M : Mem) : Option (Int32 × Mem) := (ck (qS M a0 = 19)).bind fun h2 => (F_Mo_blanks a0 M).bind fun v1 => (ck (qS v1 a0 = 19)).bind fun h4 => (F_Mo_isAt a0 a1 a1 v1).bind fun v3 => if v3 = 0 then (some ((0 : Int32), v1)) else ((fI v1 a0 19 9).bind fun v6 => (sI v1 a0 19 9 (v6 + (1 : Int32))).bind fun m7 => some ((1 : Int32), m7))
def m_Mo_sign : My := (yX13_sign, cX13_sign, 2, some .boolean, { frames := 2, cells := 0, slots := 0, locals := 42 }, [])
theorem yg_Mo_sign : YG (m_Mo_sign) := (at_gw 1569 (by decide +kernel) rfl)
theorem ct_Mo_sign {X : Cx} {a0 : Nat} {a1 : Int32} {M : Mem} {r : Int32 × Mem} (hE : F_Mo_sign a0 a1 M = some r) : Ct X m_Mo_sign [.ref a0, .int a1] M (oIM r) := by
  have xR : ∀ v : Int32 × Mem, r = v → r = v := fun _ q => q
  refine Ct.of (by decide +kernel) rfl rfl ?_
  unfold F_Mo_sign at hE
  refine g_aload_n (r := a0) dX13_sign_0 rfl ?_
  replace hE := bd_s hE
  obtain ⟨h2, hh2, hE⟩ := hE
  replace hh2 := ck_s hh2
  replace hE := bd_s hE
  obtain ⟨v1, hv1, hE⟩ := hE
  refine g_callV (as := []) (rvs := []) 0 0 dX13_sign_1 yg_Mo_blanks vl_X13_84 (ct_Mo_blanks hv1) (RC.obj hh2 (by decide) cl_9.1) rfl rfl rfl (Nat.le_of_ble_eq_true rfl) rfl rfl rfl ?_
  refine g_aload_n (r := a0) dX13_sign_4 rfl ?_
  refine g_iload_n (x := a1) dX13_sign_5 rfl ?_
  refine g_iload_n (x := a1) dX13_sign_6 rfl ?_
  replace hE := bd_s hE
  obtain ⟨h4, hh4, hE⟩ := hE
  replace hh4 := ck_s hh4
  replace hE := bd_s hE
  obtain ⟨v3, hv3, hE⟩ := hE
  refine g_callV (as := [.int a1, .int a1]) (rvs := [.int v3]) 0 0 dX13_sign_7 yg_Mo_isAt vl_X13_77 (ct_Mo_isAt hv3) (RC.obj hh4 (by decide) cl_9.1) rfl rfl rfl (Nat.le_of_ble_eq_true rfl) rfl rfl rfl ?_
  refine g_if_ne 15 dX13_sign_10 (by decide) (fun q5 => ?_) (fun q5 => ?_)
  · replace hE := ife_n q5 hE
    refine g_aload_n (r := a0) dX13_sign_15 rfl ?_
    refine g_dup dX13_sign_16 rfl ?_
    replace hE := bd_s hE
    obtain ⟨v6, hv6, hE⟩ := hE
    refine g_fI dX13_sign_17 fl_X13_71_9 rfl hv6 ?_
    refine g_iconst (v := (1 : Int32)) dX13_sign_20 (by decide) ?_
    refine g_iadd dX13_sign_21 ?_
    replace hE := bd_s hE
    obtain ⟨m7, hm7, hE⟩ := hE
    refine g_sI dX13_sign_22 fl_X13_71_9w (by decide) hm7 ?_
    refine g_iconst (v := (1 : Int32)) dX13_sign_25 (by decide) ?_
    rw [xR ((1 : Int32), m7) (Option.some.inj hE).symm]
    exact g_zret dX13_sign_26 rfl (Or.inr rfl) rfl
  replace hE := ife_p q5 hE
  refine g_iconst (v := (0 : Int32)) dX13_sign_13 (by decide) ?_
  rw [xR ((0 : Int32), v1) (Option.some.inj hE).symm]
  exact g_zret dX13_sign_14 rfl (Or.inl rfl) rfl
theorem dX13_figures_0 : decode cX13_figures 0 = .ok (.aload_n 0, 1) := by decide +kernel
theorem dX13_figures_1 : decode cX13_figures 1 = .ok (.invokevirtual 84, 3) := by decide +kernel
theorem dX13_figures_4 : decode cX13_figures 4 = .ok (.iconst 0, 1) := by decide +kernel
theorem dX13_figures_5 : decode cX13_figures 5 = .ok (.istore 4, 2) := by decide +kernel
theorem dX13_figures_7 : decode cX13_figures 7 = .ok (.aload_n 0, 1) := by decide +kernel
theorem dX13_figures_8 : decode cX13_figures 8 = .ok (.bipush 48, 2) := by decide +kernel
theorem dX13_figures_10 : decode cX13_figures 10 = .ok (.bipush 57, 2) := by decide +kernel
theorem dX13_figures_12 : decode cX13_figures 12 = .ok (.invokevirtual 77, 3) := by decide +kernel
theorem dX13_figures_15 : decode cX13_figures 15 = .ok (.ifCond .eq 54, 3) := by decide +kernel
theorem dX13_figures_18 : decode cX13_figures 18 = .ok (.aload_n 0, 1) := by decide +kernel
theorem dX13_figures_19 : decode cX13_figures 19 = .ok (.getfield 71, 3) := by decide +kernel
theorem dX13_figures_22 : decode cX13_figures 22 = .ok (.aload_n 0, 1) := by decide +kernel
theorem dX13_figures_23 : decode cX13_figures 23 = .ok (.getfield 81, 3) := by decide +kernel
theorem dX13_figures_26 : decode cX13_figures 26 = .ok (.isub, 1) := by decide +kernel
theorem dX13_figures_27 : decode cX13_figures 27 = .ok (.iload_n 3, 1) := by decide +kernel
theorem dX13_figures_28 : decode cX13_figures 28 = .ok (.if_icmp .ge 24, 3) := by decide +kernel
theorem dX13_figures_31 : decode cX13_figures 31 = .ok (.bipush 10, 2) := by decide +kernel
theorem dX13_figures_33 : decode cX13_figures 33 = .ok (.iload 4, 2) := by decide +kernel
theorem dX13_figures_35 : decode cX13_figures 35 = .ok (.imul, 1) := by decide +kernel
theorem dX13_figures_36 : decode cX13_figures 36 = .ok (.aload_n 0, 1) := by decide +kernel
theorem dX13_figures_37 : decode cX13_figures 37 = .ok (.getfield 26, 3) := by decide +kernel
theorem dX13_figures_40 : decode cX13_figures 40 = .ok (.aload_n 0, 1) := by decide +kernel
theorem dX13_figures_41 : decode cX13_figures 41 = .ok (.getfield 71, 3) := by decide +kernel
theorem dX13_figures_44 : decode cX13_figures 44 = .ok (.baload, 1) := by decide +kernel
theorem dX13_figures_45 : decode cX13_figures 45 = .ok (.iadd, 1) := by decide +kernel
theorem dX13_figures_46 : decode cX13_figures 46 = .ok (.bipush 48, 2) := by decide +kernel
theorem dX13_figures_48 : decode cX13_figures 48 = .ok (.isub, 1) := by decide +kernel
theorem dX13_figures_49 : decode cX13_figures 49 = .ok (.goto 5, 3) := by decide +kernel
theorem dX13_figures_52 : decode cX13_figures 52 = .ok (.iload 4, 2) := by decide +kernel
theorem dX13_figures_54 : decode cX13_figures 54 = .ok (.istore 4, 2) := by decide +kernel
theorem dX13_figures_56 : decode cX13_figures 56 = .ok (.aload_n 0, 1) := by decide +kernel
theorem dX13_figures_57 : decode cX13_figures 57 = .ok (.dup, 1) := by decide +kernel
theorem dX13_figures_58 : decode cX13_figures 58 = .ok (.getfield 71, 3) := by decide +kernel
theorem dX13_figures_61 : decode cX13_figures 61 = .ok (.iconst 1, 1) := by decide +kernel
theorem dX13_figures_62 : decode cX13_figures 62 = .ok (.iadd, 1) := by decide +kernel
theorem dX13_figures_63 : decode cX13_figures 63 = .ok (.putfield 71, 3) := by decide +kernel
theorem dX13_figures_66 : decode cX13_figures 66 = .ok (.goto (-59), 3) := by decide +kernel
theorem dX13_figures_69 : decode cX13_figures 69 = .ok (.aload_n 0, 1) := by decide +kernel
theorem dX13_figures_70 : decode cX13_figures 70 = .ok (.getfield 71, 3) := by decide +kernel
theorem dX13_figures_73 : decode cX13_figures 73 = .ok (.aload_n 0, 1) := by decide +kernel
theorem dX13_figures_74 : decode cX13_figures 74 = .ok (.getfield 81, 3) := by decide +kernel
theorem dX13_figures_77 : decode cX13_figures 77 = .ok (.if_icmp .eq 28, 3) := by decide +kernel
theorem dX13_figures_80 : decode cX13_figures 80 = .ok (.aload_n 0, 1) := by decide +kernel
theorem dX13_figures_81 : decode cX13_figures 81 = .ok (.getfield 71, 3) := by decide +kernel
theorem dX13_figures_84 : decode cX13_figures 84 = .ok (.aload_n 0, 1) := by decide +kernel
theorem dX13_figures_85 : decode cX13_figures 85 = .ok (.getfield 81, 3) := by decide +kernel
theorem dX13_figures_88 : decode cX13_figures 88 = .ok (.isub, 1) := by decide +kernel
theorem dX13_figures_89 : decode cX13_figures 89 = .ok (.iload_n 3, 1) := by decide +kernel
theorem dX13_figures_90 : decode cX13_figures 90 = .ok (.if_icmp .gt 15, 3) := by decide +kernel
theorem dX13_figures_93 : decode cX13_figures 93 = .ok (.iload 4, 2) := by decide +kernel
theorem dX13_figures_95 : decode cX13_figures 95 = .ok (.iload_n 1, 1) := by decide +kernel
theorem dX13_figures_96 : decode cX13_figures 96 = .ok (.if_icmp .lt 9, 3) := by decide +kernel
theorem dX13_figures_99 : decode cX13_figures 99 = .ok (.iload 4, 2) := by decide +kernel
theorem dX13_figures_101 : decode cX13_figures 101 = .ok (.iload_n 2, 1) := by decide +kernel
theorem dX13_figures_102 : decode cX13_figures 102 = .ok (.if_icmp .le 7, 3) := by decide +kernel
theorem dX13_figures_105 : decode cX13_figures 105 = .ok (.iconst (-1), 1) := by decide +kernel
theorem dX13_figures_106 : decode cX13_figures 106 = .ok (.goto 5, 3) := by decide +kernel
theorem dX13_figures_109 : decode cX13_figures 109 = .ok (.iload 4, 2) := by decide +kernel
theorem dX13_figures_111 : decode cX13_figures 111 = .ok (.ireturn, 1) := by decide +kernel
def F_Mo_figures (a0 : Nat) (a1 : Int32) (a2 : Int32) (a3 : Int32) (M : Mem) : Option (Int32 × Mem) := (ck (qS M a0 = 19)).bind fun h2 => (F_Mo_blanks a0 M).bind fun v1 => (loopN LIM (fun s3 : Int32 × Mem => (ck (qS s3.2 a0 = 19)).bind fun h5 => (F_Mo_isAt a0 (48 : Int32) (57 : Int32) s3.2).bind fun v4 => if v4 = 0 then (some (.inr ((s3.1, s3.2)))) else ((fI s3.2 a0 19 9).bind fun v7 => (fI s3.2 a0 19 11).bind fun v8 => (if a3 ≤ (v7 - v8) then (some (s3.1)) else ((fR s3.2 a0 19 7).bind fun v10 => (fI s3.2 a0 19 9).bind fun v11 => (aB s3.2 v10 v11).bind fun v12 => some ((((10 : Int32) * s3.1) + v12) - (48 : Int32))) : Option (Int32)).bind fun s13 => (fI s3.2 a0 19 9).bind fun v14 => (sI s3.2 a0 19 9 (v14 + (1 : Int32))).bind fun m15 => some (.inl (s13, m15)))) ((0 : Int32), v1) : Option (Int32 × Mem)).bind fun s16 => (fI s16.2 a0 19 9).bind fun v17 => (fI s16.2 a0 19 11).bind fun v18 => (if v17 = v18 then (some true) else ((fI s16.2 a0 19 9).bind fun v21 => (fI s16.2 a0 19 11).bind fun v22 => if a3 < (v21 - v22) then (some true) else (if s16.1 < a1 then (some true) else (if s16.1 ≤ a2 then (some false) else (some true)))) : Option Bool).bind fun b20 => if b20 = true then (some ((-1 : Int32), s16.2)) else (some (s16.1, s16.2))
def m_Mo_figures : My := (yX13_figures, cX13_figures, 5, some .int, { frames := 2, cells := 0, slots := 0, locals := 42 }, [])
theorem yg_Mo_figures : YG (m_Mo_figures) := (at_gw 1499 (by decide +kernel) rfl)
theorem ct_Mo_figures {X : Cx} {a0 : Nat} {a1 : Int32} {a2 : Int32} {a3 : Int32} {M : Mem} {r : Int32 × Mem} (hE : F_Mo_figures a0 a1 a2 a3 M = some r) : Ct X m_Mo_figures [.ref a0, .int a1, .int a2, .int a3] M (oIM r) := by
  have xR : ∀ v : Int32 × Mem, r = v → r = v := fun _ q => q
  refine Ct.of (by decide +kernel) rfl rfl ?_
  unfold F_Mo_figures at hE
  refine g_aload_n (r := a0) dX13_figures_0 rfl ?_
  replace hE := bd_s hE
  obtain ⟨h2, hh2, hE⟩ := hE
  replace hh2 := ck_s hh2
  replace hE := bd_s hE
  obtain ⟨v1, hv1, hE⟩ := hE
  refine g_callV (as := []) (rvs := []) 0 0 dX13_figures_1 yg_Mo_blanks vl_X13_84 (ct_Mo_blanks hv1) (RC.obj hh2 (by decide) cl_9.1) rfl rfl rfl (Nat.le_of_ble_eq_true rfl) rfl rfl rfl ?_
  refine g_iconst (v := (0 : Int32)) dX13_figures_4 (by decide) ?_
  refine g_istore dX13_figures_5 rfl ?_
  replace hE := bd_s2 hE
  obtain ⟨e1, hE, hm1⟩ := hE
  have x1 : ∀ s16 : Int32 × Mem, e1 = s16 → G X m_Mo_figures (endP X m_Mo_figures (oIM r)) 69 [.ref a0, .int a1, .int a2, .int a3, .int s16.1] [] 0 0 s16.2 := by
    intro s16 q
    replace hE := hm1 s16 q
    clear hm1
    refine g_aload_n (r := a0) dX13_figures_69 rfl ?_
    replace hE := bd_s hE
    obtain ⟨v17, hv17, hE⟩ := hE
    refine g_fI dX13_figures_70 fl_X13_71_9 rfl hv17 ?_
    refine g_aload_n (r := a0) dX13_figures_73 rfl ?_
    replace hE := bd_s hE
    obtain ⟨v18, hv18, hE⟩ := hE
    refine g_fI dX13_figures_74 fl_X13_81_9 rfl hv18 ?_
    replace hE := bd_s hE
    obtain ⟨b20, hE, hb2⟩ := hE
    have x2t : b20 = true → G X m_Mo_figures (endP X m_Mo_figures (oIM r)) 105 [.ref a0, .int a1, .int a2, .int a3, .int s16.1] [] 0 0 s16.2 := by
      intro q
      replace hE := ifb_t q hb2
      refine g_iconst (v := (-1 : Int32)) dX13_figures_105 (by decide) ?_
      refine g_goto 111 dX13_figures_106 (by decide) ?_
      rw [xR ((-1 : Int32), s16.2) (Option.some.inj hE).symm]
      exact g_iret dX13_figures_111 rfl rfl
    have x2f : b20 = false → G X m_Mo_figures (endP X m_Mo_figures (oIM r)) 109 [.ref a0, .int a1, .int a2, .int a3, .int s16.1] [] 0 0 s16.2 := by
      intro q
      replace hE := ifb_f q hb2
      refine g_iload (x := s16.1) dX13_figures_109 rfl ?_
      rw [xR (s16.1, s16.2) (Option.some.inj hE).symm]
      exact g_iret dX13_figures_111 rfl rfl
    clear hb2
    refine g_icmp_eq 105 dX13_figures_77 (by decide) (fun q19 => ?_) (fun q19 => ?_)
    · replace hE := ife_p q19 hE
      exact x2t (Option.some.inj hE).symm
    replace hE := ife_n q19 hE
    refine g_aload_n (r := a0) dX13_figures_80 rfl ?_
    replace hE := bd_s hE
    obtain ⟨v21, hv21, hE⟩ := hE
    refine g_fI dX13_figures_81 fl_X13_71_9 rfl hv21 ?_
    refine g_aload_n (r := a0) dX13_figures_84 rfl ?_
    replace hE := bd_s hE
    obtain ⟨v22, hv22, hE⟩ := hE
    refine g_fI dX13_figures_85 fl_X13_81_9 rfl hv22 ?_
    refine g_isub dX13_figures_88 ?_
    refine g_iload_n (x := a3) dX13_figures_89 rfl ?_
    refine g_icmp_gt 105 dX13_figures_90 (by decide) (fun q23 => ?_) (fun q23 => ?_)
    · replace hE := ife_p q23 hE
      exact x2t (Option.some.inj hE).symm
    replace hE := ife_n q23 hE
    refine g_iload (x := s16.1) dX13_figures_93 rfl ?_
    refine g_iload_n (x := a1) dX13_figures_95 rfl ?_
    refine g_icmp_lt 105 dX13_figures_96 (by decide) (fun q24 => ?_) (fun q24 => ?_)
    · replace hE := ife_p q24 hE
      exact x2t (Option.some.inj hE).symm
    replace hE := ife_n q24 hE
    refine g_iload (x := s16.1) dX13_figures_99 rfl ?_
    refine g_iload_n (x := a2) dX13_figures_101 rfl ?_
    refine g_icmp_le 109 dX13_figures_102 (by decide) (fun q25 => ?_) (fun q25 => ?_)
    · replace hE := ife_p q25 hE
      exact x2f (Option.some.inj hE).symm
    replace hE := ife_n q25 hE
    exact x2t (Option.some.inj hE).symm
  clear hm1
  have hq3 := fun st => lpi (fun s3 : Int32 × Mem => G X m_Mo_figures (endP X m_Mo_figures (oIM r)) 7 [.ref a0, .int a1, .int a2, .int a3, .int s3.1] [] 0 0 s3.2) st _ _ hE
  refine hq3 ?_
  clear hq3 hE
  intro s3 e3 hE hc3 ho3
  have y4 := fun (v : Int32 × Mem) (q : e3 = .inr (v)) => x1 v (ho3 _ q).symm
  clear ho3
  refine g_aload_n (r := a0) dX13_figures_7 rfl ?_
  refine g_bipush (v := (48 : Int32)) dX13_figures_8 (by decide) ?_
  refine g_bipush (v := (57 : Int32)) dX13_figures_10 (by decide) ?_
  replace hE := bd_s hE
  obtain ⟨h5, hh5, hE⟩ := hE
  replace hh5 := ck_s hh5
  replace hE := bd_s hE
  obtain ⟨v4, hv4, hE⟩ := hE
  refine g_callV (as := [.int (48 : Int32), .int (57 : Int32)]) (rvs := [.int v4]) 0 0 dX13_figures_12 yg_Mo_isAt vl_X13_77 (ct_Mo_isAt hv4) (RC.obj hh5 (by decide) cl_9.1) rfl rfl rfl (Nat.le_of_ble_eq_true rfl) rfl rfl rfl ?_
  refine g_if_eq 69 dX13_figures_15 (by decide) (fun q6 => ?_) (fun q6 => ?_)
  · replace hE := ife_p q6 hE
    exact y4 (s3.1, s3.2) (Option.some.inj hE).symm
  replace hE := ife_n q6 hE
  refine g_aload_n (r := a0) dX13_figures_18 rfl ?_
  replace hE := bd_s hE
  obtain ⟨v7, hv7, hE⟩ := hE
  refine g_fI dX13_figures_19 fl_X13_71_9 rfl hv7 ?_
  refine g_aload_n (r := a0) dX13_figures_22 rfl ?_
  replace hE := bd_s hE
  obtain ⟨v8, hv8, hE⟩ := hE
  refine g_fI dX13_figures_23 fl_X13_81_9 rfl hv8 ?_
  refine g_isub dX13_figures_26 ?_
  refine g_iload_n (x := a3) dX13_figures_27 rfl ?_
  replace hE := bd_s2 hE
  obtain ⟨e5, hE, hm5⟩ := hE
  have x5 : ∀ s13 : Int32, e5 = s13 → G X m_Mo_figures (endP X m_Mo_figures (oIM r)) 54 [.ref a0, .int a1, .int a2, .int a3, .retAddr 0] [.int s13] 0 0 s3.2 := by
    intro s13 q
    replace hE := hm5 s13 q
    clear hm5
    refine g_istore dX13_figures_54 rfl ?_
    refine g_aload_n (r := a0) dX13_figures_56 rfl ?_
    refine g_dup dX13_figures_57 rfl ?_
    replace hE := bd_s hE
    obtain ⟨v14, hv14, hE⟩ := hE
    refine g_fI dX13_figures_58 fl_X13_71_9 rfl hv14 ?_
    refine g_iconst (v := (1 : Int32)) dX13_figures_61 (by decide) ?_
    refine g_iadd dX13_figures_62 ?_
    replace hE := bd_s hE
    obtain ⟨m15, hm15, hE⟩ := hE
    refine g_sI dX13_figures_63 fl_X13_71_9w (by decide) hm15 ?_
    refine g_goto 7 dX13_figures_66 (by decide) ?_
    exact hc3 (s13, m15) (Option.some.inj hE).symm
  clear hm5
  refine g_icmp_ge 52 dX13_figures_28 (by decide) (fun q9 => ?_) (fun q9 => ?_)
  · replace hE := ife_p q9 hE
    refine g_iload (x := s3.1) dX13_figures_52 rfl ?_
    refine g_msk [true, true, true, true, false] ?_
    exact x5 s3.1 (Option.some.inj hE).symm
  replace hE := ife_n q9 hE
  refine g_bipush (v := (10 : Int32)) dX13_figures_31 (by decide) ?_
  refine g_iload (x := s3.1) dX13_figures_33 rfl ?_
  refine g_imul dX13_figures_35 ?_
  refine g_aload_n (r := a0) dX13_figures_36 rfl ?_
  replace hE := bd_s hE
  obtain ⟨v10, hv10, hE⟩ := hE
  refine g_fR dX13_figures_37 fl_X13_26_9 rfl hv10 ?_
  refine g_aload_n (r := a0) dX13_figures_40 rfl ?_
  replace hE := bd_s hE
  obtain ⟨v11, hv11, hE⟩ := hE
  refine g_fI dX13_figures_41 fl_X13_71_9 rfl hv11 ?_
  replace hE := bd_s hE
  obtain ⟨v12, hv12, hE⟩ := hE
  refine g_aB dX13_figures_44 hv12 ?_
  refine g_iadd dX13_figures_45 ?_
  refine g_bipush (v := (48 : Int32)) dX13_figures_46 (by decide) ?_
  refine g_isub dX13_figures_48 ?_
  refine g_goto 54 dX13_figures_49 (by decide) ?_
  refine g_msk [true, true, true, true, false] ?_
  exact x5 ((((10 : Int32) * s3.1) + v12) - (48 : Int32)) (Option.some.inj hE).symm
theorem dX13_number_0 : decode cX13_number 0 = .ok (.aload_n 0, 1) := by decide +kernel
theorem dX13_number_1 : decode cX13_number 1 = .ok (.iload_n 1, 1) := by decide +kernel
theorem dX13_number_2 : decode cX13_number 2 = .ok (.iload_n 2, 1) := by decide +kernel
theorem dX13_number_3 : decode cX13_number 3 = .ok (.iconst 3, 1) := by decide +kernel
theorem dX13_number_4 : decode cX13_number 4 = .ok (.invokevirtual 103, 3) := by decide +kernel
theorem dX13_number_7 : decode cX13_number 7 = .ok (.ireturn, 1) := by decide +kernel
def F_Mo_number (a0 : Nat) (a1 : Int32) (a2 : Int32) (M : Mem) : Option (Int32 × Mem) := (ck (qS M a0 = 19)).bind fun h2 => (F_Mo_figures a0 a1 a2 (3 : Int32) M).bind fun v1 => some (v1.1, v1.2)
def m_Mo_number : My := (yX13_number, cX13_number, 3, some .int, { frames := 3, cells := 0, slots := 0, locals := 66 }, [])
theorem yg_Mo_number : YG (m_Mo_number) := (at_gw 1495 (by decide +kernel) rfl)
theorem ct_Mo_number {X : Cx} {a0 : Nat} {a1 : Int32} {a2 : Int32} {M : Mem} {r : Int32 × Mem} (hE : F_Mo_number a0 a1 a2 M = some r) : Ct X m_Mo_number [.ref a0, .int a1, .int a2] M (oIM r) := by
  have xR : ∀ v : Int32 × Mem, r = v → r = v := fun _ q => q
  refine Ct.of (by decide +kernel) rfl rfl ?_
  unfold F_Mo_number at hE
  refine g_aload_n (r := a0) dX13_number_0 rfl ?_
  refine g_iload_n (x := a1) dX13_number_1 rfl ?_
  refine g_iload_n (x := a2) dX13_number_2 rfl ?_
  refine g_iconst (v := (3 : Int32)) dX13_number_3 (by decide) ?_
  replace hE := bd_s hE
  obtain ⟨h2, hh2, hE⟩ := hE
  replace hh2 := ck_s hh2
  replace hE := bd_s hE
  obtain ⟨v1, hv1, hE⟩ := hE
  refine g_callV (as := [.int a1, .int a2, .int (3 : Int32)]) (rvs := [.int v1.1]) 0 0 dX13_number_4 yg_Mo_figures vl_X13_103 (ct_Mo_figures hv1) (RC.obj hh2 (by decide) cl_9.1) rfl rfl rfl (Nat.le_of_ble_eq_true rfl) rfl rfl rfl ?_
  rw [xR (v1.1, v1.2) (Option.some.inj hE).symm]
  exact g_iret dX13_number_7 rfl rfl
theorem dX13_fault_0 : decode cX13_fault 0 = .ok (.aload_n 0, 1) := by decide +kernel
theorem dX13_fault_1 : decode cX13_fault 1 = .ok (.iconst 0, 1) := by decide +kernel
theorem dX13_fault_2 : decode cX13_fault 2 = .ok (.putfield 3, 3) := by decide +kernel
theorem dX13_fault_5 : decode cX13_fault 5 = .ok (.aload_n 0, 1) := by decide +kernel
theorem dX13_fault_6 : decode cX13_fault 6 = .ok (.getfield 30, 3) := by decide +kernel
theorem dX13_fault_9 : decode cX13_fault 9 = .ok (.ireturn, 1) := by decide +kernel
def F_Mo_fault (a0 : Nat) (M : Mem) : Option (Int32 × Mem) := (sI M a0 19 0 (0 : Int32)).bind fun m1 => (fI m1 a0 19 13).bind fun v2 => some (v2, m1)
def m_Mo_fault : My := (yX13_fault, cX13_fault, 1, some .int, { frames := 0, cells := 0, slots := 0, locals := 0 }, [])
theorem yg_Mo_fault : YG (m_Mo_fault) := (at_gw 1444 (by decide +kernel) rfl)
theorem ct_Mo_fault {X : Cx} {a0 : Nat} {M : Mem} {r : Int32 × Mem} (hE : F_Mo_fault a0 M = some r) : Ct X m_Mo_fault [.ref a0] M (oIM r) := by
  have xR : ∀ v : Int32 × Mem, r = v → r = v := fun _ q => q
  refine Ct.of (by decide +kernel) rfl rfl ?_
  unfold F_Mo_fault at hE
  refine g_aload_n (r := a0) dX13_fault_0 rfl ?_
  refine g_iconst (v := (0 : Int32)) dX13_fault_1 (by decide) ?_
  replace hE := bd_s hE
  obtain ⟨m1, hm1, hE⟩ := hE
  refine g_sI dX13_fault_2 fl_X13_3_9w (by decide) hm1 ?_
  refine g_aload_n (r := a0) dX13_fault_5 rfl ?_
  replace hE := bd_s hE
  obtain ⟨v2, hv2, hE⟩ := hE
  refine g_fI dX13_fault_6 fl_X13_30_9 rfl hv2 ?_
  rw [xR (v2, m1) (Option.some.inj hE).symm]
  exact g_iret dX13_fault_9 rfl rfl
theorem dX13_uses_0 : decode cX13_uses 0 = .ok (.aload_n 0, 1) := by decide +kernel
theorem dX13_uses_1 : decode cX13_uses 1 = .ok (.iconst 0, 1) := by decide +kernel
theorem dX13_uses_2 : decode cX13_uses 2 = .ok (.putfield 3, 3) := by decide +kernel
theorem dX13_uses_5 : decode cX13_uses 5 = .ok (.aload_n 0, 1) := by decide +kernel
theorem dX13_uses_6 : decode cX13_uses 6 = .ok (.aload_n 0, 1) := by decide +kernel
theorem dX13_uses_7 : decode cX13_uses 7 = .ok (.getfield 68, 3) := by decide +kernel
theorem dX13_uses_10 : decode cX13_uses 10 = .ok (.putfield 74, 3) := by decide +kernel
theorem dX13_uses_13 : decode cX13_uses 13 = .ok (.aload_n 0, 1) := by decide +kernel
theorem dX13_uses_14 : decode cX13_uses 14 = .ok (.iconst 0, 1) := by decide +kernel
theorem dX13_uses_15 : decode cX13_uses 15 = .ok (.putfield 68, 3) := by decide +kernel
theorem dX13_uses_18 : decode cX13_uses 18 = .ok (.aload_n 0, 1) := by decide +kernel
theorem dX13_uses_19 : decode cX13_uses 19 = .ok (.iconst 0, 1) := by decide +kernel
theorem dX13_uses_20 : decode cX13_uses 20 = .ok (.putfield 71, 3) := by decide +kernel
theorem dX13_uses_23 : decode cX13_uses 23 = .ok (.return_, 1) := by decide +kernel
def F_Mo_uses (a0 : Nat) (M : Mem) : Option (Mem) := (sI M a0 19 0 (0 : Int32)).bind fun m1 => (fI m1 a0 19 8).bind fun v2 => (sI m1 a0 19 10 v2).bind fun m3 => (sI m3 a0 19 8 (0 : Int32)).bind fun m4 => (sI m4 a0 19 9 (0 : Int32)).bind fun m5 => some (m5)
def m_Mo_uses : My := (yX13_uses, cX13_uses, 1, none, { frames := 0, cells := 0, slots := 0, locals := 0 }, [])
theorem yg_Mo_uses : YG (m_Mo_uses) := (at_gw 1456 (by decide +kernel) rfl)
theorem ct_Mo_uses {X : Cx} {a0 : Nat} {M : Mem} {r : Mem} (hE : F_Mo_uses a0 M = some r) : Ct X m_Mo_uses [.ref a0] M (oVM r) := by
  have xR : ∀ v : Mem, r = v → r = v := fun _ q => q
  refine Ct.of (by decide +kernel) rfl rfl ?_
  unfold F_Mo_uses at hE
  refine g_aload_n (r := a0) dX13_uses_0 rfl ?_
  refine g_iconst (v := (0 : Int32)) dX13_uses_1 (by decide) ?_
  replace hE := bd_s hE
  obtain ⟨m1, hm1, hE⟩ := hE
  refine g_sI dX13_uses_2 fl_X13_3_9w (by decide) hm1 ?_
  refine g_aload_n (r := a0) dX13_uses_5 rfl ?_
  refine g_aload_n (r := a0) dX13_uses_6 rfl ?_
  replace hE := bd_s hE
  obtain ⟨v2, hv2, hE⟩ := hE
  refine g_fI dX13_uses_7 fl_X13_68_9 rfl hv2 ?_
  replace hE := bd_s hE
  obtain ⟨m3, hm3, hE⟩ := hE
  refine g_sI dX13_uses_10 fl_X13_74_9w (by decide) hm3 ?_
  refine g_aload_n (r := a0) dX13_uses_13 rfl ?_
  refine g_iconst (v := (0 : Int32)) dX13_uses_14 (by decide) ?_
  replace hE := bd_s hE
  obtain ⟨m4, hm4, hE⟩ := hE
  refine g_sI dX13_uses_15 fl_X13_68_9w (by decide) hm4 ?_
  refine g_aload_n (r := a0) dX13_uses_18 rfl ?_
  refine g_iconst (v := (0 : Int32)) dX13_uses_19 (by decide) ?_
  replace hE := bd_s hE
  obtain ⟨m5, hm5, hE⟩ := hE
  refine g_sI dX13_uses_20 fl_X13_71_9w (by decide) hm5 ?_
  rw [xR m5 (Option.some.inj hE).symm]
  exact g_vret dX13_uses_23 rfl rfl
theorem dX13_readGates_0 : decode cX13_readGates 0 = .ok (.iconst 0, 1) := by decide +kernel
theorem dX13_readGates_1 : decode cX13_readGates 1 = .ok (.istore_n 1, 1) := by decide +kernel
theorem dX13_readGates_2 : decode cX13_readGates 2 = .ok (.aload_n 0, 1) := by decide +kernel
theorem dX13_readGates_3 : decode cX13_readGates 3 = .ok (.iconst 0, 1) := by decide +kernel
theorem dX13_readGates_4 : decode cX13_readGates 4 = .ok (.aload_n 0, 1) := by decide +kernel
theorem dX13_readGates_5 : decode cX13_readGates 5 = .ok (.invokevirtual 53, 3) := by decide +kernel
theorem dX13_readGates_8 : decode cX13_readGates 8 = .ok (.iconst 1, 1) := by decide +kernel
theorem dX13_readGates_9 : decode cX13_readGates 9 = .ok (.isub, 1) := by decide +kernel
theorem dX13_readGates_10 : decode cX13_readGates 10 = .ok (.invokevirtual 107, 3) := by decide +kernel
theorem dX13_readGates_13 : decode cX13_readGates 13 = .ok (.istore_n 2, 1) := by decide +kernel
theorem dX13_readGates_14 : decode cX13_readGates 14 = .ok (.iload_n 2, 1) := by decide +kernel
theorem dX13_readGates_15 : decode cX13_readGates 15 = .ok (.ifCond .ge 5, 3) := by decide +kernel
theorem dX13_readGates_18 : decode cX13_readGates 18 = .ok (.iconst (-1), 1) := by decide +kernel
theorem dX13_readGates_19 : decode cX13_readGates 19 = .ok (.ireturn, 1) := by decide +kernel
theorem dX13_readGates_20 : decode cX13_readGates 20 = .ok (.iload_n 1, 1) := by decide +kernel
theorem dX13_readGates_21 : decode cX13_readGates 21 = .ok (.iconst 1, 1) := by decide +kernel
theorem dX13_readGates_22 : decode cX13_readGates 22 = .ok (.iload_n 2, 1) := by decide +kernel
theorem dX13_readGates_23 : decode cX13_readGates 23 = .ok (.ishl, 1) := by decide +kernel
theorem dX13_readGates_24 : decode cX13_readGates 24 = .ok (.ior, 1) := by decide +kernel
theorem dX13_readGates_25 : decode cX13_readGates 25 = .ok (.istore_n 1, 1) := by decide +kernel
theorem dX13_readGates_26 : decode cX13_readGates 26 = .ok (.aload_n 0, 1) := by decide +kernel
theorem dX13_readGates_27 : decode cX13_readGates 27 = .ok (.invokevirtual 84, 3) := by decide +kernel
theorem dX13_readGates_30 : decode cX13_readGates 30 = .ok (.aload_n 0, 1) := by decide +kernel
theorem dX13_readGates_31 : decode cX13_readGates 31 = .ok (.bipush 48, 2) := by decide +kernel
theorem dX13_readGates_33 : decode cX13_readGates 33 = .ok (.bipush 57, 2) := by decide +kernel
theorem dX13_readGates_35 : decode cX13_readGates 35 = .ok (.invokevirtual 77, 3) := by decide +kernel
theorem dX13_readGates_38 : decode cX13_readGates 38 = .ok (.ifCond .ne (-36), 3) := by decide +kernel
theorem dX13_readGates_41 : decode cX13_readGates 41 = .ok (.iload_n 1, 1) := by decide +kernel
theorem dX13_readGates_42 : decode cX13_readGates 42 = .ok (.ireturn, 1) := by decide +kernel
def F_Mo_readGates (a0 : Nat) (M : Mem) : Option (Int32 × Mem) := loopN LIM (fun s1 : Int32 × Mem => (ck (qS s1.2 a0 = 19)).bind fun h3 => (F_Mo_gates a0 s1.2).bind fun v2 => (F_Mo_number a0 (0 : Int32) (v2 - (1 : Int32)) s1.2).bind fun v4 => if 0 ≤ v4.1 then ((ck (qS v4.2 a0 = 19)).bind fun h7 => (F_Mo_blanks a0 v4.2).bind fun v6 => (ck (qS v6 a0 = 19)).bind fun h9 => (F_Mo_isAt a0 (48 : Int32) (57 : Int32) v6).bind fun v8 => if v8 = 0 then (some (.inr (((s1.1 ||| ((1 : Int32) <<< (v4.1 &&& 31))), v6)))) else (some (.inl ((s1.1 ||| ((1 : Int32) <<< (v4.1 &&& 31))), v6)))) else (some (.inr (((-1 : Int32), v4.2))))) ((0 : Int32), M)
def m_Mo_readGates : My := (yX13_readGates, cX13_readGates, 3, some .int, { frames := 4, cells := 0, slots := 0, locals := 88 }, [])
theorem yg_Mo_readGates : YG (m_Mo_readGates) := (at_gw 1522 (by decide +kernel) rfl)
theorem ct_Mo_readGates {X : Cx} {a0 : Nat} {M : Mem} {r : Int32 × Mem} (hE : F_Mo_readGates a0 M = some r) : Ct X m_Mo_readGates [.ref a0] M (oIM r) := by
  have xR : ∀ v : Int32 × Mem, r = v → r = v := fun _ q => q
  refine Ct.of (by decide +kernel) rfl rfl ?_
  unfold F_Mo_readGates at hE
  refine g_iconst (v := (0 : Int32)) dX13_readGates_0 (by decide) ?_
  refine g_istore_n dX13_readGates_1 rfl ?_
  have hq1 := fun st => lpi (fun s1 : Int32 × Mem => G X m_Mo_readGates (endP X m_Mo_readGates (oIM r)) 2 [.ref a0, .int s1.1, .retAddr 0] [] 0 0 s1.2) st _ _ hE
  refine hq1 ?_
  clear hq1 hE
  intro s1 e1 hE hc1 ho1
  have y2 := fun (v : Int32 × Mem) (q : e1 = .inr (v)) => xR v (ho1 _ q).symm
  clear ho1
  refine g_aload_n (r := a0) dX13_readGates_2 rfl ?_
  refine g_iconst (v := (0 : Int32)) dX13_readGates_3 (by decide) ?_
  refine g_aload_n (r := a0) dX13_readGates_4 rfl ?_
  replace hE := bd_s hE
  obtain ⟨h3, hh3, hE⟩ := hE
  replace hh3 := ck_s hh3
  replace hE := bd_s hE
  obtain ⟨v2, hv2, hE⟩ := hE
  refine g_callV (as := []) (rvs := [.int v2]) 0 0 dX13_readGates_5 yg_Mo_gates vl_X13_53 (ct_Mo_gates hv2) (RC.obj hh3 (by decide) cl_9.1) rfl rfl rfl (Nat.le_of_ble_eq_true rfl) rfl rfl rfl ?_
  refine g_iconst (v := (1 : Int32)) dX13_readGates_8 (by decide) ?_
  refine g_isub dX13_readGates_9 ?_
  replace hE := bd_s hE
  obtain ⟨v4, hv4, hE⟩ := hE
  refine g_callV (as := [.int (0 : Int32), .int (v2 - (1 : Int32))]) (rvs := [.int v4.1]) 0 0 dX13_readGates_10 yg_Mo_number vl_X13_107 (ct_Mo_number hv4) (RC.obj hh3 (by decide) cl_9.1) rfl rfl rfl (Nat.le_of_ble_eq_true rfl) rfl rfl rfl ?_
  refine g_istore_n dX13_readGates_13 rfl ?_
  refine g_iload_n (x := v4.1) dX13_readGates_14 rfl ?_
  refine g_if_ge 20 dX13_readGates_15 (by decide) (fun q5 => ?_) (fun q5 => ?_)
  · replace hE := ife_p q5 hE
    refine g_iload_n (x := s1.1) dX13_readGates_20 rfl ?_
    refine g_iconst (v := (1 : Int32)) dX13_readGates_21 (by decide) ?_
    refine g_iload_n (x := v4.1) dX13_readGates_22 rfl ?_
    refine g_ishl dX13_readGates_23 ?_
    refine g_ior dX13_readGates_24 ?_
    refine g_istore_n dX13_readGates_25 rfl ?_
    refine g_aload_n (r := a0) dX13_readGates_26 rfl ?_
    replace hE := bd_s hE
    obtain ⟨h7, hh7, hE⟩ := hE
    replace hh7 := ck_s hh7
    replace hE := bd_s hE
    obtain ⟨v6, hv6, hE⟩ := hE
    refine g_callV (as := []) (rvs := []) 0 0 dX13_readGates_27 yg_Mo_blanks vl_X13_84 (ct_Mo_blanks hv6) (RC.obj hh7 (by decide) cl_9.1) rfl rfl rfl (Nat.le_of_ble_eq_true rfl) rfl rfl rfl ?_
    refine g_aload_n (r := a0) dX13_readGates_30 rfl ?_
    refine g_bipush (v := (48 : Int32)) dX13_readGates_31 (by decide) ?_
    refine g_bipush (v := (57 : Int32)) dX13_readGates_33 (by decide) ?_
    replace hE := bd_s hE
    obtain ⟨h9, hh9, hE⟩ := hE
    replace hh9 := ck_s hh9
    replace hE := bd_s hE
    obtain ⟨v8, hv8, hE⟩ := hE
    refine g_callV (as := [.int (48 : Int32), .int (57 : Int32)]) (rvs := [.int v8]) 0 0 dX13_readGates_35 yg_Mo_isAt vl_X13_77 (ct_Mo_isAt hv8) (RC.obj hh9 (by decide) cl_9.1) rfl rfl rfl (Nat.le_of_ble_eq_true rfl) rfl rfl rfl ?_
    refine g_if_ne 2 dX13_readGates_38 (by decide) (fun q10 => ?_) (fun q10 => ?_)
    · replace hE := ife_n q10 hE
      refine g_msk [true, true, false] ?_
      exact hc1 ((s1.1 ||| ((1 : Int32) <<< (v4.1 &&& 31))), v6) (Option.some.inj hE).symm
    replace hE := ife_p q10 hE
    refine g_iload_n (x := (s1.1 ||| ((1 : Int32) <<< (v4.1 &&& 31)))) dX13_readGates_41 rfl ?_
    rw [y2 ((s1.1 ||| ((1 : Int32) <<< (v4.1 &&& 31))), v6) (Option.some.inj hE).symm]
    exact g_iret dX13_readGates_42 rfl rfl
  replace hE := ife_n q5 hE
  refine g_iconst (v := (-1 : Int32)) dX13_readGates_18 (by decide) ?_
  rw [y2 ((-1 : Int32), v4.2) (Option.some.inj hE).symm]
  exact g_iret dX13_readGates_19 rfl rfl
theorem dX13_readGate_0 : decode cX13_readGate 0 = .ok (.aload_n 0, 1) := by decide +kernel
theorem dX13_readGate_1 : decode cX13_readGate 1 = .ok (.invokevirtual 53, 3) := by decide +kernel
theorem dX13_readGate_4 : decode cX13_readGate 4 = .ok (.istore_n 1, 1) := by decide +kernel
theorem dX13_readGate_5 : decode cX13_readGate 5 = .ok (.iload_n 1, 1) := by decide +kernel
theorem dX13_readGate_6 : decode cX13_readGate 6 = .ok (.bipush 12, 2) := by decide +kernel
theorem dX13_readGate_8 : decode cX13_readGate 8 = .ok (.if_icmp .ne 5, 3) := by decide +kernel
theorem dX13_readGate_11 : decode cX13_readGate 11 = .ok (.iconst 0, 1) := by decide +kernel
theorem dX13_readGate_12 : decode cX13_readGate 12 = .ok (.ireturn, 1) := by decide +kernel
theorem dX13_readGate_13 : decode cX13_readGate 13 = .ok (.aload_n 0, 1) := by decide +kernel
theorem dX13_readGate_14 : decode cX13_readGate 14 = .ok (.iconst 0, 1) := by decide +kernel
theorem dX13_readGate_15 : decode cX13_readGate 15 = .ok (.bipush 99, 2) := by decide +kernel
theorem dX13_readGate_17 : decode cX13_readGate 17 = .ok (.invokevirtual 107, 3) := by decide +kernel
theorem dX13_readGate_20 : decode cX13_readGate 20 = .ok (.istore_n 2, 1) := by decide +kernel
theorem dX13_readGate_21 : decode cX13_readGate 21 = .ok (.iload_n 2, 1) := by decide +kernel
theorem dX13_readGate_22 : decode cX13_readGate 22 = .ok (.ifCond .ge 5, 3) := by decide +kernel
theorem dX13_readGate_25 : decode cX13_readGate 25 = .ok (.iconst 0, 1) := by decide +kernel
theorem dX13_readGate_26 : decode cX13_readGate 26 = .ok (.ireturn, 1) := by decide +kernel
theorem dX13_readGate_27 : decode cX13_readGate 27 = .ok (.aload_n 0, 1) := by decide +kernel
theorem dX13_readGate_28 : decode cX13_readGate 28 = .ok (.ldc 110, 2) := by decide +kernel
theorem dX13_readGate_30 : decode cX13_readGate 30 = .ok (.invokevirtual 112, 3) := by decide +kernel
theorem dX13_readGate_33 : decode cX13_readGate 33 = .ok (.ifCond .eq 7, 3) := by decide +kernel
theorem dX13_readGate_36 : decode cX13_readGate 36 = .ok (.iconst 1, 1) := by decide +kernel
theorem dX13_readGate_37 : decode cX13_readGate 37 = .ok (.goto 56, 3) := by decide +kernel
theorem dX13_readGate_40 : decode cX13_readGate 40 = .ok (.aload_n 0, 1) := by decide +kernel
theorem dX13_readGate_41 : decode cX13_readGate 41 = .ok (.ldc 115, 2) := by decide +kernel
theorem dX13_readGate_43 : decode cX13_readGate 43 = .ok (.invokevirtual 112, 3) := by decide +kernel
theorem dX13_readGate_46 : decode cX13_readGate 46 = .ok (.ifCond .eq 7, 3) := by decide +kernel
theorem dX13_readGate_49 : decode cX13_readGate 49 = .ok (.iconst 2, 1) := by decide +kernel
theorem dX13_readGate_50 : decode cX13_readGate 50 = .ok (.goto 43, 3) := by decide +kernel
theorem dX13_readGate_53 : decode cX13_readGate 53 = .ok (.aload_n 0, 1) := by decide +kernel
theorem dX13_readGate_54 : decode cX13_readGate 54 = .ok (.ldc 117, 2) := by decide +kernel
theorem dX13_readGate_56 : decode cX13_readGate 56 = .ok (.invokevirtual 112, 3) := by decide +kernel
theorem dX13_readGate_59 : decode cX13_readGate 59 = .ok (.ifCond .eq 7, 3) := by decide +kernel
theorem dX13_readGate_62 : decode cX13_readGate 62 = .ok (.iconst 3, 1) := by decide +kernel
theorem dX13_readGate_63 : decode cX13_readGate 63 = .ok (.goto 30, 3) := by decide +kernel
theorem dX13_readGate_66 : decode cX13_readGate 66 = .ok (.aload_n 0, 1) := by decide +kernel
theorem dX13_readGate_67 : decode cX13_readGate 67 = .ok (.ldc 119, 2) := by decide +kernel
theorem dX13_readGate_69 : decode cX13_readGate 69 = .ok (.invokevirtual 112, 3) := by decide +kernel
theorem dX13_readGate_72 : decode cX13_readGate 72 = .ok (.ifCond .eq 7, 3) := by decide +kernel
theorem dX13_readGate_75 : decode cX13_readGate 75 = .ok (.iconst 4, 1) := by decide +kernel
theorem dX13_readGate_76 : decode cX13_readGate 76 = .ok (.goto 17, 3) := by decide +kernel
theorem dX13_readGate_79 : decode cX13_readGate 79 = .ok (.aload_n 0, 1) := by decide +kernel
theorem dX13_readGate_80 : decode cX13_readGate 80 = .ok (.ldc 121, 2) := by decide +kernel
theorem dX13_readGate_82 : decode cX13_readGate 82 = .ok (.invokevirtual 112, 3) := by decide +kernel
theorem dX13_readGate_85 : decode cX13_readGate 85 = .ok (.ifCond .eq 7, 3) := by decide +kernel
theorem dX13_readGate_88 : decode cX13_readGate 88 = .ok (.iconst 5, 1) := by decide +kernel
theorem dX13_readGate_89 : decode cX13_readGate 89 = .ok (.goto 4, 3) := by decide +kernel
theorem dX13_readGate_92 : decode cX13_readGate 92 = .ok (.iconst 0, 1) := by decide +kernel
theorem dX13_readGate_93 : decode cX13_readGate 93 = .ok (.istore_n 3, 1) := by decide +kernel
theorem dX13_readGate_94 : decode cX13_readGate 94 = .ok (.iload_n 3, 1) := by decide +kernel
theorem dX13_readGate_95 : decode cX13_readGate 95 = .ok (.iconst 1, 1) := by decide +kernel
theorem dX13_readGate_96 : decode cX13_readGate 96 = .ok (.if_icmp .ne 14, 3) := by decide +kernel
theorem dX13_readGate_99 : decode cX13_readGate 99 = .ok (.aload_n 0, 1) := by decide +kernel
theorem dX13_readGate_100 : decode cX13_readGate 100 = .ok (.iconst 0, 1) := by decide +kernel
theorem dX13_readGate_101 : decode cX13_readGate 101 = .ok (.iload_n 1, 1) := by decide +kernel
theorem dX13_readGate_102 : decode cX13_readGate 102 = .ok (.iconst 1, 1) := by decide +kernel
theorem dX13_readGate_103 : decode cX13_readGate 103 = .ok (.isub, 1) := by decide +kernel
theorem dX13_readGate_104 : decode cX13_readGate 104 = .ok (.invokevirtual 107, 3) := by decide +kernel
theorem dX13_readGate_107 : decode cX13_readGate 107 = .ok (.goto 19, 3) := by decide +kernel
theorem dX13_readGate_110 : decode cX13_readGate 110 = .ok (.iload_n 3, 1) := by decide +kernel
theorem dX13_readGate_111 : decode cX13_readGate 111 = .ok (.iconst 4, 1) := by decide +kernel
theorem dX13_readGate_112 : decode cX13_readGate 112 = .ok (.if_icmp .ne 13, 3) := by decide +kernel
theorem dX13_readGate_115 : decode cX13_readGate 115 = .ok (.aload_n 0, 1) := by decide +kernel
theorem dX13_readGate_116 : decode cX13_readGate 116 = .ok (.iconst 0, 1) := by decide +kernel
theorem dX13_readGate_117 : decode cX13_readGate 117 = .ok (.bipush 7, 2) := by decide +kernel
theorem dX13_readGate_119 : decode cX13_readGate 119 = .ok (.invokevirtual 107, 3) := by decide +kernel
theorem dX13_readGate_122 : decode cX13_readGate 122 = .ok (.goto 4, 3) := by decide +kernel
theorem dX13_readGate_125 : decode cX13_readGate 125 = .ok (.iconst (-1), 1) := by decide +kernel
theorem dX13_readGate_126 : decode cX13_readGate 126 = .ok (.istore 4, 2) := by decide +kernel
theorem dX13_readGate_128 : decode cX13_readGate 128 = .ok (.iload_n 3, 1) := by decide +kernel
theorem dX13_readGate_129 : decode cX13_readGate 129 = .ok (.iconst 1, 1) := by decide +kernel
theorem dX13_readGate_130 : decode cX13_readGate 130 = .ok (.if_icmp .eq 8, 3) := by decide +kernel
theorem dX13_readGate_133 : decode cX13_readGate 133 = .ok (.iload_n 3, 1) := by decide +kernel
theorem dX13_readGate_134 : decode cX13_readGate 134 = .ok (.iconst 4, 1) := by decide +kernel
theorem dX13_readGate_135 : decode cX13_readGate 135 = .ok (.if_icmp .ne 10, 3) := by decide +kernel
theorem dX13_readGate_138 : decode cX13_readGate 138 = .ok (.iload 4, 2) := by decide +kernel
theorem dX13_readGate_140 : decode cX13_readGate 140 = .ok (.ifCond .ge 5, 3) := by decide +kernel
theorem dX13_readGate_143 : decode cX13_readGate 143 = .ok (.iconst 0, 1) := by decide +kernel
theorem dX13_readGate_144 : decode cX13_readGate 144 = .ok (.ireturn, 1) := by decide +kernel
theorem dX13_readGate_145 : decode cX13_readGate 145 = .ok (.aload_n 0, 1) := by decide +kernel
theorem dX13_readGate_146 : decode cX13_readGate 146 = .ok (.getfield 13, 3) := by decide +kernel
theorem dX13_readGate_149 : decode cX13_readGate 149 = .ok (.bipush 9, 2) := by decide +kernel
theorem dX13_readGate_151 : decode cX13_readGate 151 = .ok (.iconst 3, 1) := by decide +kernel
theorem dX13_readGate_152 : decode cX13_readGate 152 = .ok (.iload_n 1, 1) := by decide +kernel
theorem dX13_readGate_153 : decode cX13_readGate 153 = .ok (.imul, 1) := by decide +kernel
theorem dX13_readGate_154 : decode cX13_readGate 154 = .ok (.iadd, 1) := by decide +kernel
theorem dX13_readGate_155 : decode cX13_readGate 155 = .ok (.iload_n 3, 1) := by decide +kernel
theorem dX13_readGate_156 : decode cX13_readGate 156 = .ok (.iastore, 1) := by decide +kernel
theorem dX13_readGate_157 : decode cX13_readGate 157 = .ok (.aload_n 0, 1) := by decide +kernel
theorem dX13_readGate_158 : decode cX13_readGate 158 = .ok (.getfield 13, 3) := by decide +kernel
theorem dX13_readGate_161 : decode cX13_readGate 161 = .ok (.bipush 9, 2) := by decide +kernel
theorem dX13_readGate_163 : decode cX13_readGate 163 = .ok (.iconst 3, 1) := by decide +kernel
theorem dX13_readGate_164 : decode cX13_readGate 164 = .ok (.iload_n 1, 1) := by decide +kernel
theorem dX13_readGate_165 : decode cX13_readGate 165 = .ok (.imul, 1) := by decide +kernel
theorem dX13_readGate_166 : decode cX13_readGate 166 = .ok (.iadd, 1) := by decide +kernel
theorem dX13_readGate_167 : decode cX13_readGate 167 = .ok (.iconst 1, 1) := by decide +kernel
theorem dX13_readGate_168 : decode cX13_readGate 168 = .ok (.iadd, 1) := by decide +kernel
theorem dX13_readGate_169 : decode cX13_readGate 169 = .ok (.iload_n 2, 1) := by decide +kernel
theorem dX13_readGate_170 : decode cX13_readGate 170 = .ok (.iastore, 1) := by decide +kernel
theorem dX13_readGate_171 : decode cX13_readGate 171 = .ok (.aload_n 0, 1) := by decide +kernel
theorem dX13_readGate_172 : decode cX13_readGate 172 = .ok (.getfield 13, 3) := by decide +kernel
theorem dX13_readGate_175 : decode cX13_readGate 175 = .ok (.bipush 9, 2) := by decide +kernel
theorem dX13_readGate_177 : decode cX13_readGate 177 = .ok (.iconst 3, 1) := by decide +kernel
theorem dX13_readGate_178 : decode cX13_readGate 178 = .ok (.iload_n 1, 1) := by decide +kernel
theorem dX13_readGate_179 : decode cX13_readGate 179 = .ok (.imul, 1) := by decide +kernel
theorem dX13_readGate_180 : decode cX13_readGate 180 = .ok (.iadd, 1) := by decide +kernel
theorem dX13_readGate_181 : decode cX13_readGate 181 = .ok (.iconst 2, 1) := by decide +kernel
theorem dX13_readGate_182 : decode cX13_readGate 182 = .ok (.iadd, 1) := by decide +kernel
theorem dX13_readGate_183 : decode cX13_readGate 183 = .ok (.iload 4, 2) := by decide +kernel
theorem dX13_readGate_185 : decode cX13_readGate 185 = .ok (.iastore, 1) := by decide +kernel
theorem dX13_readGate_186 : decode cX13_readGate 186 = .ok (.aload_n 0, 1) := by decide +kernel
theorem dX13_readGate_187 : decode cX13_readGate 187 = .ok (.getfield 13, 3) := by decide +kernel
theorem dX13_readGate_190 : decode cX13_readGate 190 = .ok (.iconst 0, 1) := by decide +kernel
theorem dX13_readGate_191 : decode cX13_readGate 191 = .ok (.dup2, 1) := by decide +kernel
theorem dX13_readGate_192 : decode cX13_readGate 192 = .ok (.iaload, 1) := by decide +kernel
theorem dX13_readGate_193 : decode cX13_readGate 193 = .ok (.iconst 1, 1) := by decide +kernel
theorem dX13_readGate_194 : decode cX13_readGate 194 = .ok (.iadd, 1) := by decide +kernel
theorem dX13_readGate_195 : decode cX13_readGate 195 = .ok (.iastore, 1) := by decide +kernel
theorem dX13_readGate_196 : decode cX13_readGate 196 = .ok (.iconst 1, 1) := by decide +kernel
theorem dX13_readGate_197 : decode cX13_readGate 197 = .ok (.ireturn, 1) := by decide +kernel
def F_Mo_readGate (a0 : Nat) (M : Mem) : Option (Int32 × Mem) := (ck (qS M a0 = 19)).bind fun h2 => (F_Mo_gates a0 M).bind fun v1 => if v1 = (12 : Int32) then (some ((0 : Int32), M)) else ((F_Mo_number a0 (0 : Int32) (99 : Int32) M).bind fun v4 => if 0 ≤ v4.1 then ((ck (qS v4.2 a0 = 19)).bind fun h7 => (F_Mo_passes a0 133 v4.2).bind fun v6 => (if v6.1 = 0 then ((ck (qS v6.2 a0 = 19)).bind fun h10 => (F_Mo_passes a0 134 v6.2).bind fun v9 => if v9.1 = 0 then ((ck (qS v9.2 a0 = 19)).bind fun h13 => (F_Mo_passes a0 135 v9.2).bind fun v12 => if v12.1 = 0 then ((ck (qS v12.2 a0 = 19)).bind fun h16 => (F_Mo_passes a0 136 v12.2).bind fun v15 => if v15.1 = 0 then ((ck (qS v15.2 a0 = 19)).bind fun h19 => (F_Mo_passes a0 137 v15.2).bind fun v18 => if v18.1 = 0 then (some ((0 : Int32), v18.2)) else (some ((5 : Int32), v18.2))) else (some ((4 : Int32), v15.2))) else (some ((3 : Int32), v12.2))) else (some ((2 : Int32), v9.2))) else (some ((1 : Int32), v6.2)) : Option (Int32 × Mem)).bind fun s21 => (if s21.1 = (1 : Int32) then ((ck (qS s21.2 a0 = 19)).bind fun h27 => (F_Mo_number a0 (0 : Int32) (v1 - (1 : Int32)) s21.2).bind fun v26 => some (v26.1, v26.2)) else (if s21.1 = (4 : Int32) then ((ck (qS s21.2 a0 = 19)).bind fun h25 => (F_Mo_number a0 (0 : Int32) (7 : Int32) s21.2).bind fun v24 => some (v24.1, v24.2)) else (some ((-1 : Int32), s21.2))) : Option (Int32 × Mem)).bind fun s28 => (if s21.1 = (1 : Int32) then (if 0 ≤ s28.1 then (some false) else (some true)) else (if s21.1 = (4 : Int32) then (if 0 ≤ s28.1 then (some false) else (some true)) else (some false)) : Option Bool).bind fun b30 => if b30 = true then (some ((0 : Int32), s28.2)) else ((fR s28.2 a0 19 1).bind fun v34 => (tI s28.2 v34 ((9 : Int32) + ((3 : Int32) * v1)) s21.1).bind fun m35 => (fR m35 a0 19 1).bind fun v36 => (tI m35 v36 (((9 : Int32) + ((3 : Int32) * v1)) + (1 : Int32)) v4.1).bind fun m37 => (fR m37 a0 19 1).bind fun v38 => (tI m37 v38 (((9 : Int32) + ((3 : Int32) * v1)) + (2 : Int32)) s28.1).bind fun m39 => (fR m39 a0 19 1).bind fun v40 => (aI m39 v40 (0 : Int32)).bind fun v41 => (tI m39 v40 (0 : Int32) (v41 + (1 : Int32))).bind fun m42 => some ((1 : Int32), m42))) else (some ((0 : Int32), v4.2)))
def m_Mo_readGate : My := (yX13_readGate, cX13_readGate, 5, some .boolean, { frames := 6, cells := 0, slots := 0, locals := 129 }, [])
theorem yg_Mo_readGate : YG (m_Mo_readGate) := (at_gw 1487 (by decide +kernel) rfl)
theorem ct_Mo_readGate {X : Cx} {a0 : Nat} {M : Mem} {r : Int32 × Mem} (hE : F_Mo_readGate a0 M = some r) : Ct X m_Mo_readGate [.ref a0] M (oIM r) := by
  have xR : ∀ v : Int32 × Mem, r = v → r = v := fun _ q => q
  refine Ct.of (by decide +kernel) rfl rfl ?_
  unfold F_Mo_readGate at hE
  refine g_aload_n (r := a0) dX13_readGate_0 rfl ?_
  replace hE := bd_s hE
  obtain ⟨h2, hh2, hE⟩ := hE
  replace hh2 := ck_s hh2
  replace hE := bd_s hE
  obtain ⟨v1, hv1, hE⟩ := hE
  refine g_callV (as := []) (rvs := [.int v1]) 0 0 dX13_readGate_1 yg_Mo_gates vl_X13_53 (ct_Mo_gates hv1) (RC.obj hh2 (by decide) cl_9.1) rfl rfl rfl (Nat.le_of_ble_eq_true rfl) rfl rfl rfl ?_
  refine g_istore_n dX13_readGate_4 rfl ?_
  refine g_iload_n (x := v1) dX13_readGate_5 rfl ?_
  refine g_bipush (v := (12 : Int32)) dX13_readGate_6 (by decide) ?_
  refine g_icmp_ne 13 dX13_readGate_8 (by decide) (fun q3 => ?_) (fun q3 => ?_)
  · replace hE := ife_n q3 hE
    refine g_aload_n (r := a0) dX13_readGate_13 rfl ?_
    refine g_iconst (v := (0 : Int32)) dX13_readGate_14 (by decide) ?_
    refine g_bipush (v := (99 : Int32)) dX13_readGate_15 (by decide) ?_
    replace hE := bd_s hE
    obtain ⟨v4, hv4, hE⟩ := hE
    refine g_callV (as := [.int (0 : Int32), .int (99 : Int32)]) (rvs := [.int v4.1]) 0 0 dX13_readGate_17 yg_Mo_number vl_X13_107 (ct_Mo_number hv4) (RC.obj hh2 (by decide) cl_9.1) rfl rfl rfl (Nat.le_of_ble_eq_true rfl) rfl rfl rfl ?_
    refine g_istore_n dX13_readGate_20 rfl ?_
    refine g_iload_n (x := v4.1) dX13_readGate_21 rfl ?_
    refine g_if_ge 27 dX13_readGate_22 (by decide) (fun q5 => ?_) (fun q5 => ?_)
    · replace hE := ife_p q5 hE
      refine g_aload_n (r := a0) dX13_readGate_27 rfl ?_
      refine g_ldcS (j := 33) dX13_readGate_28 rfl rfl rfl ?_
      replace hE := bd_s hE
      obtain ⟨h7, hh7, hE⟩ := hE
      replace hh7 := ck_s hh7
      replace hE := bd_s hE
      obtain ⟨v6, hv6, hE⟩ := hE
      refine g_callV (as := [.ref 133]) (rvs := [.int v6.1]) 0 0 dX13_readGate_30 yg_Mo_passes vl_X13_112 (ct_Mo_passes hv6) (RC.obj hh7 (by decide) cl_9.1) rfl rfl rfl (Nat.le_of_ble_eq_true rfl) rfl rfl rfl ?_
      replace hE := bd_s2 hE
      obtain ⟨e1, hE, hm1⟩ := hE
      have x1 : ∀ s21 : Int32 × Mem, e1 = s21 → G X m_Mo_readGate (endP X m_Mo_readGate (oIM r)) 93 [.ref a0, .int v1, .int v4.1, .retAddr 0, .retAddr 0] [.int s21.1] 0 0 s21.2 := by
        intro s21 q
        replace hE := hm1 s21 q
        clear hm1
        refine g_istore_n dX13_readGate_93 rfl ?_
        refine g_iload_n (x := s21.1) dX13_readGate_94 rfl ?_
        refine g_iconst (v := (1 : Int32)) dX13_readGate_95 (by decide) ?_
        replace hE := bd_s2 hE
        obtain ⟨e2, hE, hm2⟩ := hE
        have x2 : ∀ s28 : Int32 × Mem, e2 = s28 → G X m_Mo_readGate (endP X m_Mo_readGate (oIM r)) 126 [.ref a0, .int v1, .int v4.1, .int s21.1, .retAddr 0] [.int s28.1] 0 0 s28.2 := by
          intro s28 q
          replace hE := hm2 s28 q
          clear hm2
          refine g_istore dX13_readGate_126 rfl ?_
          refine g_iload_n (x := s21.1) dX13_readGate_128 rfl ?_
          refine g_iconst (v := (1 : Int32)) dX13_readGate_129 (by decide) ?_
          replace hE := bd_s hE
          obtain ⟨b30, hE, hb3⟩ := hE
          have x3t : b30 = true → G X m_Mo_readGate (endP X m_Mo_readGate (oIM r)) 143 [.ref a0, .int v1, .int v4.1, .int s21.1, .int s28.1] [] 0 0 s28.2 := by
            intro q
            replace hE := ifb_t q hb3
            refine g_iconst (v := (0 : Int32)) dX13_readGate_143 (by decide) ?_
            rw [xR ((0 : Int32), s28.2) (Option.some.inj hE).symm]
            exact g_zret dX13_readGate_144 rfl (Or.inl rfl) rfl
          have x3f : b30 = false → G X m_Mo_readGate (endP X m_Mo_readGate (oIM r)) 145 [.ref a0, .int v1, .int v4.1, .int s21.1, .int s28.1] [] 0 0 s28.2 := by
            intro q
            replace hE := ifb_f q hb3
            refine g_aload_n (r := a0) dX13_readGate_145 rfl ?_
            replace hE := bd_s hE
            obtain ⟨v34, hv34, hE⟩ := hE
            refine g_fR dX13_readGate_146 fl_X13_13_9 rfl hv34 ?_
            refine g_bipush (v := (9 : Int32)) dX13_readGate_149 (by decide) ?_
            refine g_iconst (v := (3 : Int32)) dX13_readGate_151 (by decide) ?_
            refine g_iload_n (x := v1) dX13_readGate_152 rfl ?_
            refine g_imul dX13_readGate_153 ?_
            refine g_iadd dX13_readGate_154 ?_
            refine g_iload_n (x := s21.1) dX13_readGate_155 rfl ?_
            replace hE := bd_s hE
            obtain ⟨m35, hm35, hE⟩ := hE
            refine g_tI dX13_readGate_156 hm35 ?_
            refine g_aload_n (r := a0) dX13_readGate_157 rfl ?_
            replace hE := bd_s hE
            obtain ⟨v36, hv36, hE⟩ := hE
            refine g_fR dX13_readGate_158 fl_X13_13_9 rfl hv36 ?_
            refine g_bipush (v := (9 : Int32)) dX13_readGate_161 (by decide) ?_
            refine g_iconst (v := (3 : Int32)) dX13_readGate_163 (by decide) ?_
            refine g_iload_n (x := v1) dX13_readGate_164 rfl ?_
            refine g_imul dX13_readGate_165 ?_
            refine g_iadd dX13_readGate_166 ?_
            refine g_iconst (v := (1 : Int32)) dX13_readGate_167 (by decide) ?_
            refine g_iadd dX13_readGate_168 ?_
            refine g_iload_n (x := v4.1) dX13_readGate_169 rfl ?_
            replace hE := bd_s hE
            obtain ⟨m37, hm37, hE⟩ := hE
            refine g_tI dX13_readGate_170 hm37 ?_
            refine g_aload_n (r := a0) dX13_readGate_171 rfl ?_
            replace hE := bd_s hE
            obtain ⟨v38, hv38, hE⟩ := hE
            refine g_fR dX13_readGate_172 fl_X13_13_9 rfl hv38 ?_
            refine g_bipush (v := (9 : Int32)) dX13_readGate_175 (by decide) ?_
            refine g_iconst (v := (3 : Int32)) dX13_readGate_177 (by decide) ?_
            refine g_iload_n (x := v1) dX13_readGate_178 rfl ?_
            refine g_imul dX13_readGate_179 ?_
            refine g_iadd dX13_readGate_180 ?_
            refine g_iconst (v := (2 : Int32)) dX13_readGate_181 (by decide) ?_
            refine g_iadd dX13_readGate_182 ?_
            refine g_iload (x := s28.1) dX13_readGate_183 rfl ?_
            replace hE := bd_s hE
            obtain ⟨m39, hm39, hE⟩ := hE
            refine g_tI dX13_readGate_185 hm39 ?_
            refine g_aload_n (r := a0) dX13_readGate_186 rfl ?_
            replace hE := bd_s hE
            obtain ⟨v40, hv40, hE⟩ := hE
            refine g_fR dX13_readGate_187 fl_X13_13_9 rfl hv40 ?_
            refine g_iconst (v := (0 : Int32)) dX13_readGate_190 (by decide) ?_
            refine g_dup2 dX13_readGate_191 rfl rfl ?_
            replace hE := bd_s hE
            obtain ⟨v41, hv41, hE⟩ := hE
            refine g_aI dX13_readGate_192 hv41 ?_
            refine g_iconst (v := (1 : Int32)) dX13_readGate_193 (by decide) ?_
            refine g_iadd dX13_readGate_194 ?_
            replace hE := bd_s hE
            obtain ⟨m42, hm42, hE⟩ := hE
            refine g_tI dX13_readGate_195 hm42 ?_
            refine g_iconst (v := (1 : Int32)) dX13_readGate_196 (by decide) ?_
            rw [xR ((1 : Int32), m42) (Option.some.inj hE).symm]
            exact g_zret dX13_readGate_197 rfl (Or.inr rfl) rfl
          clear hb3
          refine g_icmp_eq 138 dX13_readGate_130 (by decide) (fun q29 => ?_) (fun q29 => ?_)
          · replace hE := ife_p q29 hE
            refine g_iload (x := s28.1) dX13_readGate_138 rfl ?_
            refine g_if_ge 145 dX13_readGate_140 (by decide) (fun q31 => ?_) (fun q31 => ?_)
            · replace hE := ife_p q31 hE
              exact x3f (Option.some.inj hE).symm
            replace hE := ife_n q31 hE
            exact x3t (Option.some.inj hE).symm
          replace hE := ife_n q29 hE
          refine g_iload_n (x := s21.1) dX13_readGate_133 rfl ?_
          refine g_iconst (v := (4 : Int32)) dX13_readGate_134 (by decide) ?_
          refine g_icmp_ne 145 dX13_readGate_135 (by decide) (fun q32 => ?_) (fun q32 => ?_)
          · replace hE := ife_n q32 hE
            exact x3f (Option.some.inj hE).symm
          replace hE := ife_p q32 hE
          refine g_iload (x := s28.1) dX13_readGate_138 rfl ?_
          refine g_if_ge 145 dX13_readGate_140 (by decide) (fun q33 => ?_) (fun q33 => ?_)
          · replace hE := ife_p q33 hE
            exact x3f (Option.some.inj hE).symm
          replace hE := ife_n q33 hE
          exact x3t (Option.some.inj hE).symm
        clear hm2
        refine g_icmp_ne 110 dX13_readGate_96 (by decide) (fun q22 => ?_) (fun q22 => ?_)
        · replace hE := ife_n q22 hE
          refine g_iload_n (x := s21.1) dX13_readGate_110 rfl ?_
          refine g_iconst (v := (4 : Int32)) dX13_readGate_111 (by decide) ?_
          refine g_icmp_ne 125 dX13_readGate_112 (by decide) (fun q23 => ?_) (fun q23 => ?_)
          · replace hE := ife_n q23 hE
            refine g_iconst (v := (-1 : Int32)) dX13_readGate_125 (by decide) ?_
            exact x2 ((-1 : Int32), s21.2) (Option.some.inj hE).symm
          replace hE := ife_p q23 hE
          refine g_aload_n (r := a0) dX13_readGate_115 rfl ?_
          refine g_iconst (v := (0 : Int32)) dX13_readGate_116 (by decide) ?_
          refine g_bipush (v := (7 : Int32)) dX13_readGate_117 (by decide) ?_
          replace hE := bd_s hE
          obtain ⟨h25, hh25, hE⟩ := hE
          replace hh25 := ck_s hh25
          replace hE := bd_s hE
          obtain ⟨v24, hv24, hE⟩ := hE
          refine g_callV (as := [.int (0 : Int32), .int (7 : Int32)]) (rvs := [.int v24.1]) 0 0 dX13_readGate_119 yg_Mo_number vl_X13_107 (ct_Mo_number hv24) (RC.obj hh25 (by decide) cl_9.1) rfl rfl rfl (Nat.le_of_ble_eq_true rfl) rfl rfl rfl ?_
          refine g_goto 126 dX13_readGate_122 (by decide) ?_
          exact x2 (v24.1, v24.2) (Option.some.inj hE).symm
        replace hE := ife_p q22 hE
        refine g_aload_n (r := a0) dX13_readGate_99 rfl ?_
        refine g_iconst (v := (0 : Int32)) dX13_readGate_100 (by decide) ?_
        refine g_iload_n (x := v1) dX13_readGate_101 rfl ?_
        refine g_iconst (v := (1 : Int32)) dX13_readGate_102 (by decide) ?_
        refine g_isub dX13_readGate_103 ?_
        replace hE := bd_s hE
        obtain ⟨h27, hh27, hE⟩ := hE
        replace hh27 := ck_s hh27
        replace hE := bd_s hE
        obtain ⟨v26, hv26, hE⟩ := hE
        refine g_callV (as := [.int (0 : Int32), .int (v1 - (1 : Int32))]) (rvs := [.int v26.1]) 0 0 dX13_readGate_104 yg_Mo_number vl_X13_107 (ct_Mo_number hv26) (RC.obj hh27 (by decide) cl_9.1) rfl rfl rfl (Nat.le_of_ble_eq_true rfl) rfl rfl rfl ?_
        refine g_goto 126 dX13_readGate_107 (by decide) ?_
        exact x2 (v26.1, v26.2) (Option.some.inj hE).symm
      clear hm1
      refine g_if_eq 40 dX13_readGate_33 (by decide) (fun q8 => ?_) (fun q8 => ?_)
      · replace hE := ife_p q8 hE
        refine g_aload_n (r := a0) dX13_readGate_40 rfl ?_
        refine g_ldcS (j := 34) dX13_readGate_41 rfl rfl rfl ?_
        replace hE := bd_s hE
        obtain ⟨h10, hh10, hE⟩ := hE
        replace hh10 := ck_s hh10
        replace hE := bd_s hE
        obtain ⟨v9, hv9, hE⟩ := hE
        refine g_callV (as := [.ref 134]) (rvs := [.int v9.1]) 0 0 dX13_readGate_43 yg_Mo_passes vl_X13_112 (ct_Mo_passes hv9) (RC.obj hh10 (by decide) cl_9.1) rfl rfl rfl (Nat.le_of_ble_eq_true rfl) rfl rfl rfl ?_
        refine g_if_eq 53 dX13_readGate_46 (by decide) (fun q11 => ?_) (fun q11 => ?_)
        · replace hE := ife_p q11 hE
          refine g_aload_n (r := a0) dX13_readGate_53 rfl ?_
          refine g_ldcS (j := 35) dX13_readGate_54 rfl rfl rfl ?_
          replace hE := bd_s hE
          obtain ⟨h13, hh13, hE⟩ := hE
          replace hh13 := ck_s hh13
          replace hE := bd_s hE
          obtain ⟨v12, hv12, hE⟩ := hE
          refine g_callV (as := [.ref 135]) (rvs := [.int v12.1]) 0 0 dX13_readGate_56 yg_Mo_passes vl_X13_112 (ct_Mo_passes hv12) (RC.obj hh13 (by decide) cl_9.1) rfl rfl rfl (Nat.le_of_ble_eq_true rfl) rfl rfl rfl ?_
          refine g_if_eq 66 dX13_readGate_59 (by decide) (fun q14 => ?_) (fun q14 => ?_)
          · replace hE := ife_p q14 hE
            refine g_aload_n (r := a0) dX13_readGate_66 rfl ?_
            refine g_ldcS (j := 36) dX13_readGate_67 rfl rfl rfl ?_
            replace hE := bd_s hE
            obtain ⟨h16, hh16, hE⟩ := hE
            replace hh16 := ck_s hh16
            replace hE := bd_s hE
            obtain ⟨v15, hv15, hE⟩ := hE
            refine g_callV (as := [.ref 136]) (rvs := [.int v15.1]) 0 0 dX13_readGate_69 yg_Mo_passes vl_X13_112 (ct_Mo_passes hv15) (RC.obj hh16 (by decide) cl_9.1) rfl rfl rfl (Nat.le_of_ble_eq_true rfl) rfl rfl rfl ?_
            refine g_if_eq 79 dX13_readGate_72 (by decide) (fun q17 => ?_) (fun q17 => ?_)
            · replace hE := ife_p q17 hE
              refine g_aload_n (r := a0) dX13_readGate_79 rfl ?_
              refine g_ldcS (j := 37) dX13_readGate_80 rfl rfl rfl ?_
              replace hE := bd_s hE
              obtain ⟨h19, hh19, hE⟩ := hE
              replace hh19 := ck_s hh19
              replace hE := bd_s hE
              obtain ⟨v18, hv18, hE⟩ := hE
              refine g_callV (as := [.ref 137]) (rvs := [.int v18.1]) 0 0 dX13_readGate_82 yg_Mo_passes vl_X13_112 (ct_Mo_passes hv18) (RC.obj hh19 (by decide) cl_9.1) rfl rfl rfl (Nat.le_of_ble_eq_true rfl) rfl rfl rfl ?_
              refine g_if_eq 92 dX13_readGate_85 (by decide) (fun q20 => ?_) (fun q20 => ?_)
              · replace hE := ife_p q20 hE
                refine g_iconst (v := (0 : Int32)) dX13_readGate_92 (by decide) ?_
                exact x1 ((0 : Int32), v18.2) (Option.some.inj hE).symm
              replace hE := ife_n q20 hE
              refine g_iconst (v := (5 : Int32)) dX13_readGate_88 (by decide) ?_
              refine g_goto 93 dX13_readGate_89 (by decide) ?_
              exact x1 ((5 : Int32), v18.2) (Option.some.inj hE).symm
            replace hE := ife_n q17 hE
            refine g_iconst (v := (4 : Int32)) dX13_readGate_75 (by decide) ?_
            refine g_goto 93 dX13_readGate_76 (by decide) ?_
            exact x1 ((4 : Int32), v15.2) (Option.some.inj hE).symm
          replace hE := ife_n q14 hE
          refine g_iconst (v := (3 : Int32)) dX13_readGate_62 (by decide) ?_
          refine g_goto 93 dX13_readGate_63 (by decide) ?_
          exact x1 ((3 : Int32), v12.2) (Option.some.inj hE).symm
        replace hE := ife_n q11 hE
        refine g_iconst (v := (2 : Int32)) dX13_readGate_49 (by decide) ?_
        refine g_goto 93 dX13_readGate_50 (by decide) ?_
        exact x1 ((2 : Int32), v9.2) (Option.some.inj hE).symm
      replace hE := ife_n q8 hE
      refine g_iconst (v := (1 : Int32)) dX13_readGate_36 (by decide) ?_
      refine g_goto 93 dX13_readGate_37 (by decide) ?_
      exact x1 ((1 : Int32), v6.2) (Option.some.inj hE).symm
    replace hE := ife_n q5 hE
    refine g_iconst (v := (0 : Int32)) dX13_readGate_25 (by decide) ?_
    rw [xR ((0 : Int32), v4.2) (Option.some.inj hE).symm]
    exact g_zret dX13_readGate_26 rfl (Or.inl rfl) rfl
  replace hE := ife_p q3 hE
  refine g_iconst (v := (0 : Int32)) dX13_readGate_11 (by decide) ?_
  rw [xR ((0 : Int32), M) (Option.some.inj hE).symm]
  exact g_zret dX13_readGate_12 rfl (Or.inl rfl) rfl
theorem dX13_readWalker_0 : decode cX13_readWalker 0 = .ok (.aload_n 0, 1) := by decide +kernel
theorem dX13_readWalker_1 : decode cX13_readWalker 1 = .ok (.invokevirtual 49, 3) := by decide +kernel
theorem dX13_readWalker_4 : decode cX13_readWalker 4 = .ok (.istore_n 1, 1) := by decide +kernel
theorem dX13_readWalker_5 : decode cX13_readWalker 5 = .ok (.iload_n 1, 1) := by decide +kernel
theorem dX13_readWalker_6 : decode cX13_readWalker 6 = .ok (.bipush 8, 2) := by decide +kernel
theorem dX13_readWalker_8 : decode cX13_readWalker 8 = .ok (.if_icmp .ne 5, 3) := by decide +kernel
theorem dX13_readWalker_11 : decode cX13_readWalker 11 = .ok (.iconst 0, 1) := by decide +kernel
theorem dX13_readWalker_12 : decode cX13_readWalker 12 = .ok (.ireturn, 1) := by decide +kernel
theorem dX13_readWalker_13 : decode cX13_readWalker 13 = .ok (.aload_n 0, 1) := by decide +kernel
theorem dX13_readWalker_14 : decode cX13_readWalker 14 = .ok (.iconst 0, 1) := by decide +kernel
theorem dX13_readWalker_15 : decode cX13_readWalker 15 = .ok (.sipush 9999, 3) := by decide +kernel
theorem dX13_readWalker_18 : decode cX13_readWalker 18 = .ok (.iconst 4, 1) := by decide +kernel
theorem dX13_readWalker_19 : decode cX13_readWalker 19 = .ok (.invokevirtual 103, 3) := by decide +kernel
theorem dX13_readWalker_22 : decode cX13_readWalker 22 = .ok (.istore_n 2, 1) := by decide +kernel
theorem dX13_readWalker_23 : decode cX13_readWalker 23 = .ok (.iload_n 2, 1) := by decide +kernel
theorem dX13_readWalker_24 : decode cX13_readWalker 24 = .ok (.ifCond .ge 7, 3) := by decide +kernel
theorem dX13_readWalker_27 : decode cX13_readWalker 27 = .ok (.iconst (-1), 1) := by decide +kernel
theorem dX13_readWalker_28 : decode cX13_readWalker 28 = .ok (.goto 10, 3) := by decide +kernel
theorem dX13_readWalker_31 : decode cX13_readWalker 31 = .ok (.aload_n 0, 1) := by decide +kernel
theorem dX13_readWalker_32 : decode cX13_readWalker 32 = .ok (.iconst 0, 1) := by decide +kernel
theorem dX13_readWalker_33 : decode cX13_readWalker 33 = .ok (.bipush 99, 2) := by decide +kernel
theorem dX13_readWalker_35 : decode cX13_readWalker 35 = .ok (.invokevirtual 107, 3) := by decide +kernel
theorem dX13_readWalker_38 : decode cX13_readWalker 38 = .ok (.istore_n 3, 1) := by decide +kernel
theorem dX13_readWalker_39 : decode cX13_readWalker 39 = .ok (.iload_n 3, 1) := by decide +kernel
theorem dX13_readWalker_40 : decode cX13_readWalker 40 = .ok (.ifCond .ge 5, 3) := by decide +kernel
theorem dX13_readWalker_43 : decode cX13_readWalker 43 = .ok (.iconst 0, 1) := by decide +kernel
theorem dX13_readWalker_44 : decode cX13_readWalker 44 = .ok (.ireturn, 1) := by decide +kernel
theorem dX13_readWalker_45 : decode cX13_readWalker 45 = .ok (.aload_n 0, 1) := by decide +kernel
theorem dX13_readWalker_46 : decode cX13_readWalker 46 = .ok (.ldc 123, 2) := by decide +kernel
theorem dX13_readWalker_48 : decode cX13_readWalker 48 = .ok (.invokevirtual 112, 3) := by decide +kernel
theorem dX13_readWalker_51 : decode cX13_readWalker 51 = .ok (.ifCond .eq 10, 3) := by decide +kernel
theorem dX13_readWalker_54 : decode cX13_readWalker 54 = .ok (.aload_n 0, 1) := by decide +kernel
theorem dX13_readWalker_55 : decode cX13_readWalker 55 = .ok (.invokevirtual 125, 3) := by decide +kernel
theorem dX13_readWalker_58 : decode cX13_readWalker 58 = .ok (.goto 4, 3) := by decide +kernel
theorem dX13_readWalker_61 : decode cX13_readWalker 61 = .ok (.iconst 0, 1) := by decide +kernel
theorem dX13_readWalker_62 : decode cX13_readWalker 62 = .ok (.istore 4, 2) := by decide +kernel
theorem dX13_readWalker_64 : decode cX13_readWalker 64 = .ok (.iload 4, 2) := by decide +kernel
theorem dX13_readWalker_66 : decode cX13_readWalker 66 = .ok (.ifCond .ge 5, 3) := by decide +kernel
theorem dX13_readWalker_69 : decode cX13_readWalker 69 = .ok (.iconst 0, 1) := by decide +kernel
theorem dX13_readWalker_70 : decode cX13_readWalker 70 = .ok (.ireturn, 1) := by decide +kernel
theorem dX13_readWalker_71 : decode cX13_readWalker 71 = .ok (.iconst 0, 1) := by decide +kernel
theorem dX13_readWalker_72 : decode cX13_readWalker 72 = .ok (.istore 5, 2) := by decide +kernel
theorem dX13_readWalker_74 : decode cX13_readWalker 74 = .ok (.iload 5, 2) := by decide +kernel
theorem dX13_readWalker_76 : decode cX13_readWalker 76 = .ok (.bipush 30, 2) := by decide +kernel
theorem dX13_readWalker_78 : decode cX13_readWalker 78 = .ok (.if_icmp .ge 28, 3) := by decide +kernel
theorem dX13_readWalker_81 : decode cX13_readWalker 81 = .ok (.aload_n 0, 1) := by decide +kernel
theorem dX13_readWalker_82 : decode cX13_readWalker 82 = .ok (.iload_n 1, 1) := by decide +kernel
theorem dX13_readWalker_83 : decode cX13_readWalker 83 = .ok (.iload 5, 2) := by decide +kernel
theorem dX13_readWalker_85 : decode cX13_readWalker 85 = .ok (.iload 5, 2) := by decide +kernel
theorem dX13_readWalker_87 : decode cX13_readWalker 87 = .ok (.bipush 6, 2) := by decide +kernel
theorem dX13_readWalker_89 : decode cX13_readWalker 89 = .ok (.if_icmp .ge 7, 3) := by decide +kernel
theorem dX13_readWalker_92 : decode cX13_readWalker 92 = .ok (.iconst 0, 1) := by decide +kernel
theorem dX13_readWalker_93 : decode cX13_readWalker 93 = .ok (.goto 4, 3) := by decide +kernel
theorem dX13_readWalker_96 : decode cX13_readWalker 96 = .ok (.iconst (-1), 1) := by decide +kernel
theorem dX13_readWalker_97 : decode cX13_readWalker 97 = .ok (.invokevirtual 64, 3) := by decide +kernel
theorem dX13_readWalker_100 : decode cX13_readWalker 100 = .ok (.iinc 5 1, 3) := by decide +kernel
theorem dX13_readWalker_103 : decode cX13_readWalker 103 = .ok (.goto (-29), 3) := by decide +kernel
theorem dX13_readWalker_106 : decode cX13_readWalker 106 = .ok (.aload_n 0, 1) := by decide +kernel
theorem dX13_readWalker_107 : decode cX13_readWalker 107 = .ok (.iload_n 1, 1) := by decide +kernel
theorem dX13_readWalker_108 : decode cX13_readWalker 108 = .ok (.iconst 1, 1) := by decide +kernel
theorem dX13_readWalker_109 : decode cX13_readWalker 109 = .ok (.iload_n 2, 1) := by decide +kernel
theorem dX13_readWalker_110 : decode cX13_readWalker 110 = .ok (.invokevirtual 64, 3) := by decide +kernel
theorem dX13_readWalker_113 : decode cX13_readWalker 113 = .ok (.aload_n 0, 1) := by decide +kernel
theorem dX13_readWalker_114 : decode cX13_readWalker 114 = .ok (.iload_n 1, 1) := by decide +kernel
theorem dX13_readWalker_115 : decode cX13_readWalker 115 = .ok (.iconst 2, 1) := by decide +kernel
theorem dX13_readWalker_116 : decode cX13_readWalker 116 = .ok (.iload_n 3, 1) := by decide +kernel
theorem dX13_readWalker_117 : decode cX13_readWalker 117 = .ok (.invokevirtual 64, 3) := by decide +kernel
theorem dX13_readWalker_120 : decode cX13_readWalker 120 = .ok (.iconst 0, 1) := by decide +kernel
theorem dX13_readWalker_121 : decode cX13_readWalker 121 = .ok (.istore 5, 2) := by decide +kernel
theorem dX13_readWalker_123 : decode cX13_readWalker 123 = .ok (.iload 5, 2) := by decide +kernel
theorem dX13_readWalker_125 : decode cX13_readWalker 125 = .ok (.bipush 12, 2) := by decide +kernel
theorem dX13_readWalker_127 : decode cX13_readWalker 127 = .ok (.if_icmp .ge 27, 3) := by decide +kernel
theorem dX13_readWalker_130 : decode cX13_readWalker 130 = .ok (.iload 4, 2) := by decide +kernel
theorem dX13_readWalker_132 : decode cX13_readWalker 132 = .ok (.iload 5, 2) := by decide +kernel
theorem dX13_readWalker_134 : decode cX13_readWalker 134 = .ok (.invokestatic 128, 3) := by decide +kernel
theorem dX13_readWalker_137 : decode cX13_readWalker 137 = .ok (.ifCond .eq 11, 3) := by decide +kernel
theorem dX13_readWalker_140 : decode cX13_readWalker 140 = .ok (.aload_n 0, 1) := by decide +kernel
theorem dX13_readWalker_141 : decode cX13_readWalker 141 = .ok (.iload_n 1, 1) := by decide +kernel
theorem dX13_readWalker_142 : decode cX13_readWalker 142 = .ok (.iload 5, 2) := by decide +kernel
theorem dX13_readWalker_144 : decode cX13_readWalker 144 = .ok (.iconst 1, 1) := by decide +kernel
theorem dX13_readWalker_145 : decode cX13_readWalker 145 = .ok (.invokevirtual 131, 3) := by decide +kernel
theorem dX13_readWalker_148 : decode cX13_readWalker 148 = .ok (.iinc 5 1, 3) := by decide +kernel
theorem dX13_readWalker_151 : decode cX13_readWalker 151 = .ok (.goto (-28), 3) := by decide +kernel
theorem dX13_readWalker_154 : decode cX13_readWalker 154 = .ok (.aload_n 0, 1) := by decide +kernel
theorem dX13_readWalker_155 : decode cX13_readWalker 155 = .ok (.getfield 13, 3) := by decide +kernel
theorem dX13_readWalker_158 : decode cX13_readWalker 158 = .ok (.iconst 1, 1) := by decide +kernel
theorem dX13_readWalker_159 : decode cX13_readWalker 159 = .ok (.dup2, 1) := by decide +kernel
theorem dX13_readWalker_160 : decode cX13_readWalker 160 = .ok (.iaload, 1) := by decide +kernel
theorem dX13_readWalker_161 : decode cX13_readWalker 161 = .ok (.iconst 1, 1) := by decide +kernel
theorem dX13_readWalker_162 : decode cX13_readWalker 162 = .ok (.iadd, 1) := by decide +kernel
theorem dX13_readWalker_163 : decode cX13_readWalker 163 = .ok (.iastore, 1) := by decide +kernel
theorem dX13_readWalker_164 : decode cX13_readWalker 164 = .ok (.iconst 1, 1) := by decide +kernel
theorem dX13_readWalker_165 : decode cX13_readWalker 165 = .ok (.ireturn, 1) := by decide +kernel
def F_Mo_readWalker (a0 : Nat) (M : Mem) : Option (Int32 × Mem) := (ck (qS M a0 = 19)).bind fun h2 => (F_Mo_walkers a0 M).bind fun v1 => if v1 = (8 : Int32) then (some ((0 : Int32), M)) else ((F_Mo_figures a0 (0 : Int32) (9999 : Int32) (4 : Int32) M).bind fun v4 => (if 0 ≤ v4.1 then ((ck (qS v4.2 a0 = 19)).bind fun h7 => (F_Mo_number a0 (0 : Int32) (99 : Int32) v4.2).bind fun v6 => some (v6.1, v6.2)) else (some ((-1 : Int32), v4.2)) : Option (Int32 × Mem)).bind fun s8 => if 0 ≤ s8.1 then ((ck (qS s8.2 a0 = 19)).bind fun h11 => (F_Mo_passes a0 138 s8.2).bind fun v10 => (if v10.1 = 0 then (some ((0 : Int32), v10.2)) else ((ck (qS v10.2 a0 = 19)).bind fun h14 => (F_Mo_readGates a0 v10.2).bind fun v13 => some (v13.1, v13.2)) : Option (Int32 × Mem)).bind fun s15 => if 0 ≤ s15.1 then ((loopN LIM (fun s17 : Int32 × Mem => if (30 : Int32) ≤ s17.1 then (some (.inr (s17.2))) else ((if (6 : Int32) ≤ s17.1 then (some (-1 : Int32)) else (some (0 : Int32)) : Option (Int32)).bind fun s20 => (ck (qS s17.2 a0 = 19)).bind fun h22 => (F_Mo_sets a0 v1 s17.1 s20 s17.2).bind fun v21 => some (.inl ((s17.1 + (1 : Int32)), v21)))) ((0 : Int32), s15.2) : Option (Mem)).bind fun s23 => (ck (qS s23 a0 = 19)).bind fun h25 => (F_Mo_sets a0 v1 (1 : Int32) v4.1 s23).bind fun v24 => (ck (qS v24 a0 = 19)).bind fun h27 => (F_Mo_sets a0 v1 (2 : Int32) s8.1 v24).bind fun v26 => (loopN LIM (fun s28 : Int32 × Mem => if (12 : Int32) ≤ s28.1 then (some (.inr (s28.2))) else ((F_Mo_has s15.1 s28.1 s28.2).bind fun v30 => if v30 = 0 then (some (.inl ((s28.1 + (1 : Int32)), s28.2))) else ((ck (qS s28.2 a0 = 19)).bind fun h33 => (F_Mo_learns a0 v1 s28.1 (1 : Int32) s28.2).bind fun v32 => some (.inl ((s28.1 + (1 : Int32)), v32))))) ((0 : Int32), v26) : Option (Mem)).bind fun s34 => (fR s34 a0 19 1).bind fun v35 => (aI s34 v35 (1 : Int32)).bind fun v36 => (tI s34 v35 (1 : Int32) (v36 + (1 : Int32))).bind fun m37 => some ((1 : Int32), m37)) else (some ((0 : Int32), s15.2))) else (some ((0 : Int32), s8.2)))
def m_Mo_readWalker : My := (yX13_readWalker, cX13_readWalker, 6, some .boolean, { frames := 6, cells := 0, slots := 0, locals := 129 }, [])
theorem yg_Mo_readWalker : YG (m_Mo_readWalker) := (at_gw 1513 (by decide +kernel) rfl)
theorem ct_Mo_readWalker {X : Cx} {a0 : Nat} {M : Mem} {r : Int32 × Mem} (hE : F_Mo_readWalker a0 M = some r) : Ct X m_Mo_readWalker [.ref a0] M (oIM r) := by
  have xR : ∀ v : Int32 × Mem, r = v → r = v := fun _ q => q
  refine Ct.of (by decide +kernel) rfl rfl ?_
  unfold F_Mo_readWalker at hE
  refine g_aload_n (r := a0) dX13_readWalker_0 rfl ?_
  replace hE := bd_s hE
  obtain ⟨h2, hh2, hE⟩ := hE
  replace hh2 := ck_s hh2
  replace hE := bd_s hE
  obtain ⟨v1, hv1, hE⟩ := hE
  refine g_callV (as := []) (rvs := [.int v1]) 0 0 dX13_readWalker_1 yg_Mo_walkers vl_X13_49 (ct_Mo_walkers hv1) (RC.obj hh2 (by decide) cl_9.1) rfl rfl rfl (Nat.le_of_ble_eq_true rfl) rfl rfl rfl ?_
  refine g_istore_n dX13_readWalker_4 rfl ?_
  refine g_iload_n (x := v1) dX13_readWalker_5 rfl ?_
  refine g_bipush (v := (8 : Int32)) dX13_readWalker_6 (by decide) ?_
  refine g_icmp_ne 13 dX13_readWalker_8 (by decide) (fun q3 => ?_) (fun q3 => ?_)
  · replace hE := ife_n q3 hE
    refine g_aload_n (r := a0) dX13_readWalker_13 rfl ?_
    refine g_iconst (v := (0 : Int32)) dX13_readWalker_14 (by decide) ?_
    refine g_sipush (v := (9999 : Int32)) dX13_readWalker_15 (by decide) ?_
    refine g_iconst (v := (4 : Int32)) dX13_readWalker_18 (by decide) ?_
    replace hE := bd_s hE
    obtain ⟨v4, hv4, hE⟩ := hE
    refine g_callV (as := [.int (0 : Int32), .int (9999 : Int32), .int (4 : Int32)]) (rvs := [.int v4.1]) 0 0 dX13_readWalker_19 yg_Mo_figures vl_X13_103 (ct_Mo_figures hv4) (RC.obj hh2 (by decide) cl_9.1) rfl rfl rfl (Nat.le_of_ble_eq_true rfl) rfl rfl rfl ?_
    refine g_istore_n dX13_readWalker_22 rfl ?_
    refine g_iload_n (x := v4.1) dX13_readWalker_23 rfl ?_
    replace hE := bd_s2 hE
    obtain ⟨e1, hE, hm1⟩ := hE
    have x1 : ∀ s8 : Int32 × Mem, e1 = s8 → G X m_Mo_readWalker (endP X m_Mo_readWalker (oIM r)) 38 [.ref a0, .int v1, .int v4.1, .retAddr 0, .retAddr 0, .retAddr 0] [.int s8.1] 0 0 s8.2 := by
      intro s8 q
      replace hE := hm1 s8 q
      clear hm1
      refine g_istore_n dX13_readWalker_38 rfl ?_
      refine g_iload_n (x := s8.1) dX13_readWalker_39 rfl ?_
      refine g_if_ge 45 dX13_readWalker_40 (by decide) (fun q9 => ?_) (fun q9 => ?_)
      · replace hE := ife_p q9 hE
        refine g_aload_n (r := a0) dX13_readWalker_45 rfl ?_
        refine g_ldcS (j := 38) dX13_readWalker_46 rfl rfl rfl ?_
        replace hE := bd_s hE
        obtain ⟨h11, hh11, hE⟩ := hE
        replace hh11 := ck_s hh11
        replace hE := bd_s hE
        obtain ⟨v10, hv10, hE⟩ := hE
        refine g_callV (as := [.ref 138]) (rvs := [.int v10.1]) 0 0 dX13_readWalker_48 yg_Mo_passes vl_X13_112 (ct_Mo_passes hv10) (RC.obj hh11 (by decide) cl_9.1) rfl rfl rfl (Nat.le_of_ble_eq_true rfl) rfl rfl rfl ?_
        replace hE := bd_s2 hE
        obtain ⟨e2, hE, hm2⟩ := hE
        have x2 : ∀ s15 : Int32 × Mem, e2 = s15 → G X m_Mo_readWalker (endP X m_Mo_readWalker (oIM r)) 62 [.ref a0, .int v1, .int v4.1, .int s8.1, .retAddr 0, .retAddr 0] [.int s15.1] 0 0 s15.2 := by
          intro s15 q
          replace hE := hm2 s15 q
          clear hm2
          refine g_istore dX13_readWalker_62 rfl ?_
          refine g_iload (x := s15.1) dX13_readWalker_64 rfl ?_
          refine g_if_ge 71 dX13_readWalker_66 (by decide) (fun q16 => ?_) (fun q16 => ?_)
          · replace hE := ife_p q16 hE
            refine g_iconst (v := (0 : Int32)) dX13_readWalker_71 (by decide) ?_
            refine g_istore dX13_readWalker_72 rfl ?_
            replace hE := bd_s2 hE
            obtain ⟨e3, hE, hm3⟩ := hE
            have x3 : ∀ s23 : Mem, e3 = s23 → G X m_Mo_readWalker (endP X m_Mo_readWalker (oIM r)) 106 [.ref a0, .int v1, .int v4.1, .int s8.1, .int s15.1, .retAddr 0] [] 0 0 s23 := by
              intro s23 q
              replace hE := hm3 s23 q
              clear hm3
              refine g_aload_n (r := a0) dX13_readWalker_106 rfl ?_
              refine g_iload_n (x := v1) dX13_readWalker_107 rfl ?_
              refine g_iconst (v := (1 : Int32)) dX13_readWalker_108 (by decide) ?_
              refine g_iload_n (x := v4.1) dX13_readWalker_109 rfl ?_
              replace hE := bd_s hE
              obtain ⟨h25, hh25, hE⟩ := hE
              replace hh25 := ck_s hh25
              replace hE := bd_s hE
              obtain ⟨v24, hv24, hE⟩ := hE
              refine g_callV (as := [.int v1, .int (1 : Int32), .int v4.1]) (rvs := []) 0 0 dX13_readWalker_110 yg_Mo_sets vl_X13_64 (ct_Mo_sets hv24) (RC.obj hh25 (by decide) cl_9.1) rfl rfl rfl (Nat.le_of_ble_eq_true rfl) rfl rfl rfl ?_
              refine g_aload_n (r := a0) dX13_readWalker_113 rfl ?_
              refine g_iload_n (x := v1) dX13_readWalker_114 rfl ?_
              refine g_iconst (v := (2 : Int32)) dX13_readWalker_115 (by decide) ?_
              refine g_iload_n (x := s8.1) dX13_readWalker_116 rfl ?_
              replace hE := bd_s hE
              obtain ⟨h27, hh27, hE⟩ := hE
              replace hh27 := ck_s hh27
              replace hE := bd_s hE
              obtain ⟨v26, hv26, hE⟩ := hE
              refine g_callV (as := [.int v1, .int (2 : Int32), .int s8.1]) (rvs := []) 0 0 dX13_readWalker_117 yg_Mo_sets vl_X13_64 (ct_Mo_sets hv26) (RC.obj hh27 (by decide) cl_9.1) rfl rfl rfl (Nat.le_of_ble_eq_true rfl) rfl rfl rfl ?_
              refine g_iconst (v := (0 : Int32)) dX13_readWalker_120 (by decide) ?_
              refine g_istore dX13_readWalker_121 rfl ?_
              replace hE := bd_s2 hE
              obtain ⟨e4, hE, hm4⟩ := hE
              have x4 : ∀ s34 : Mem, e4 = s34 → G X m_Mo_readWalker (endP X m_Mo_readWalker (oIM r)) 154 [.ref a0, .retAddr 0, .retAddr 0, .retAddr 0, .retAddr 0, .retAddr 0] [] 0 0 s34 := by
                intro s34 q
                replace hE := hm4 s34 q
                clear hm4
                refine g_aload_n (r := a0) dX13_readWalker_154 rfl ?_
                replace hE := bd_s hE
                obtain ⟨v35, hv35, hE⟩ := hE
                refine g_fR dX13_readWalker_155 fl_X13_13_9 rfl hv35 ?_
                refine g_iconst (v := (1 : Int32)) dX13_readWalker_158 (by decide) ?_
                refine g_dup2 dX13_readWalker_159 rfl rfl ?_
                replace hE := bd_s hE
                obtain ⟨v36, hv36, hE⟩ := hE
                refine g_aI dX13_readWalker_160 hv36 ?_
                refine g_iconst (v := (1 : Int32)) dX13_readWalker_161 (by decide) ?_
                refine g_iadd dX13_readWalker_162 ?_
                replace hE := bd_s hE
                obtain ⟨m37, hm37, hE⟩ := hE
                refine g_tI dX13_readWalker_163 hm37 ?_
                refine g_iconst (v := (1 : Int32)) dX13_readWalker_164 (by decide) ?_
                rw [xR ((1 : Int32), m37) (Option.some.inj hE).symm]
                exact g_zret dX13_readWalker_165 rfl (Or.inr rfl) rfl
              clear hm4
              refine g_msk [true, true, false, false, true, true] ?_
              have hq5 := fun st => lpi (fun s28 : Int32 × Mem => G X m_Mo_readWalker (endP X m_Mo_readWalker (oIM r)) 123 [.ref a0, .int v1, .retAddr 0, .retAddr 0, .int s15.1, .int s28.1] [] 0 0 s28.2) st _ _ hE
              refine hq5 ?_
              clear hq5 hE
              intro s28 e5 hE hc5 ho5
              have y6 := fun (v : Mem) (q : e5 = .inr (v)) => x4 v (ho5 _ q).symm
              clear ho5
              refine g_iload (x := s28.1) dX13_readWalker_123 rfl ?_
              refine g_bipush (v := (12 : Int32)) dX13_readWalker_125 (by decide) ?_
              refine g_icmp_ge 154 dX13_readWalker_127 (by decide) (fun q29 => ?_) (fun q29 => ?_)
              · replace hE := ife_p q29 hE
                refine g_msk [true, false, false, false, false, false] ?_
                exact y6 s28.2 (Option.some.inj hE).symm
              replace hE := ife_n q29 hE
              refine g_iload (x := s15.1) dX13_readWalker_130 rfl ?_
              refine g_iload (x := s28.1) dX13_readWalker_132 rfl ?_
              replace hE := bd_s hE
              obtain ⟨v30, hv30, hE⟩ := hE
              refine g_callS (as := [.int s15.1, .int s28.1]) (rvs := [.int v30]) 0 0 dX13_readWalker_134 yg_Mo_has sl_X13_128 (ct_Mo_has hv30) rfl rfl rfl (Nat.le_of_ble_eq_true rfl) rfl rfl rfl ?_
              refine g_if_eq 148 dX13_readWalker_137 (by decide) (fun q31 => ?_) (fun q31 => ?_)
              · replace hE := ife_p q31 hE
                refine g_iinc (s28.1 + (1 : Int32)) dX13_readWalker_148 rfl (iinc_e (by decide)) rfl ?_
                refine g_goto 123 dX13_readWalker_151 (by decide) ?_
                exact hc5 ((s28.1 + (1 : Int32)), s28.2) (Option.some.inj hE).symm
              replace hE := ife_n q31 hE
              refine g_aload_n (r := a0) dX13_readWalker_140 rfl ?_
              refine g_iload_n (x := v1) dX13_readWalker_141 rfl ?_
              refine g_iload (x := s28.1) dX13_readWalker_142 rfl ?_
              refine g_iconst (v := (1 : Int32)) dX13_readWalker_144 (by decide) ?_
              replace hE := bd_s hE
              obtain ⟨h33, hh33, hE⟩ := hE
              replace hh33 := ck_s hh33
              replace hE := bd_s hE
              obtain ⟨v32, hv32, hE⟩ := hE
              refine g_callV (as := [.int v1, .int s28.1, .int (1 : Int32)]) (rvs := []) 0 0 dX13_readWalker_145 yg_Mo_learns vl_X13_131 (ct_Mo_learns hv32) (RC.obj hh33 (by decide) cl_9.1) rfl rfl rfl (Nat.le_of_ble_eq_true rfl) rfl rfl rfl ?_
              refine g_iinc (s28.1 + (1 : Int32)) dX13_readWalker_148 rfl (iinc_e (by decide)) rfl ?_
              refine g_goto 123 dX13_readWalker_151 (by decide) ?_
              exact hc5 ((s28.1 + (1 : Int32)), v32) (Option.some.inj hE).symm
            clear hm3
            have hq7 := fun st => lpi (fun s17 : Int32 × Mem => G X m_Mo_readWalker (endP X m_Mo_readWalker (oIM r)) 74 [.ref a0, .int v1, .int v4.1, .int s8.1, .int s15.1, .int s17.1] [] 0 0 s17.2) st _ _ hE
            refine hq7 ?_
            clear hq7 hE
            intro s17 e7 hE hc7 ho7
            have y8 := fun (v : Mem) (q : e7 = .inr (v)) => x3 v (ho7 _ q).symm
            clear ho7
            refine g_iload (x := s17.1) dX13_readWalker_74 rfl ?_
            refine g_bipush (v := (30 : Int32)) dX13_readWalker_76 (by decide) ?_
            refine g_icmp_ge 106 dX13_readWalker_78 (by decide) (fun q18 => ?_) (fun q18 => ?_)
            · replace hE := ife_p q18 hE
              refine g_msk [true, true, true, true, true, false] ?_
              exact y8 s17.2 (Option.some.inj hE).symm
            replace hE := ife_n q18 hE
            refine g_aload_n (r := a0) dX13_readWalker_81 rfl ?_
            refine g_iload_n (x := v1) dX13_readWalker_82 rfl ?_
            refine g_iload (x := s17.1) dX13_readWalker_83 rfl ?_
            refine g_iload (x := s17.1) dX13_readWalker_85 rfl ?_
            refine g_bipush (v := (6 : Int32)) dX13_readWalker_87 (by decide) ?_
            replace hE := bd_s2 hE
            obtain ⟨e9, hE, hm9⟩ := hE
            have x9 : ∀ s20 : Int32, e9 = s20 → G X m_Mo_readWalker (endP X m_Mo_readWalker (oIM r)) 97 [.ref a0, .int v1, .int v4.1, .int s8.1, .int s15.1, .int s17.1] [.int s20, .int s17.1, .int v1, .ref a0] 0 0 s17.2 := by
              intro s20 q
              replace hE := hm9 s20 q
              clear hm9
              replace hE := bd_s hE
              obtain ⟨h22, hh22, hE⟩ := hE
              replace hh22 := ck_s hh22
              replace hE := bd_s hE
              obtain ⟨v21, hv21, hE⟩ := hE
              refine g_callV (as := [.int v1, .int s17.1, .int s20]) (rvs := []) 0 0 dX13_readWalker_97 yg_Mo_sets vl_X13_64 (ct_Mo_sets hv21) (RC.obj hh22 (by decide) cl_9.1) rfl rfl rfl (Nat.le_of_ble_eq_true rfl) rfl rfl rfl ?_
              refine g_iinc (s17.1 + (1 : Int32)) dX13_readWalker_100 rfl (iinc_e (by decide)) rfl ?_
              refine g_goto 74 dX13_readWalker_103 (by decide) ?_
              exact hc7 ((s17.1 + (1 : Int32)), v21) (Option.some.inj hE).symm
            clear hm9
            refine g_icmp_ge 96 dX13_readWalker_89 (by decide) (fun q19 => ?_) (fun q19 => ?_)
            · replace hE := ife_p q19 hE
              refine g_iconst (v := (-1 : Int32)) dX13_readWalker_96 (by decide) ?_
              exact x9 (-1 : Int32) (Option.some.inj hE).symm
            replace hE := ife_n q19 hE
            refine g_iconst (v := (0 : Int32)) dX13_readWalker_92 (by decide) ?_
            refine g_goto 97 dX13_readWalker_93 (by decide) ?_
            exact x9 (0 : Int32) (Option.some.inj hE).symm
          replace hE := ife_n q16 hE
          refine g_iconst (v := (0 : Int32)) dX13_readWalker_69 (by decide) ?_
          rw [xR ((0 : Int32), s15.2) (Option.some.inj hE).symm]
          exact g_zret dX13_readWalker_70 rfl (Or.inl rfl) rfl
        clear hm2
        refine g_if_eq 61 dX13_readWalker_51 (by decide) (fun q12 => ?_) (fun q12 => ?_)
        · replace hE := ife_p q12 hE
          refine g_iconst (v := (0 : Int32)) dX13_readWalker_61 (by decide) ?_
          exact x2 ((0 : Int32), v10.2) (Option.some.inj hE).symm
        replace hE := ife_n q12 hE
        refine g_aload_n (r := a0) dX13_readWalker_54 rfl ?_
        replace hE := bd_s hE
        obtain ⟨h14, hh14, hE⟩ := hE
        replace hh14 := ck_s hh14
        replace hE := bd_s hE
        obtain ⟨v13, hv13, hE⟩ := hE
        refine g_callV (as := []) (rvs := [.int v13.1]) 0 0 dX13_readWalker_55 yg_Mo_readGates vl_X13_125 (ct_Mo_readGates hv13) (RC.obj hh14 (by decide) cl_9.1) rfl rfl rfl (Nat.le_of_ble_eq_true rfl) rfl rfl rfl ?_
        refine g_goto 62 dX13_readWalker_58 (by decide) ?_
        exact x2 (v13.1, v13.2) (Option.some.inj hE).symm
      replace hE := ife_n q9 hE
      refine g_iconst (v := (0 : Int32)) dX13_readWalker_43 (by decide) ?_
      rw [xR ((0 : Int32), s8.2) (Option.some.inj hE).symm]
      exact g_zret dX13_readWalker_44 rfl (Or.inl rfl) rfl
    clear hm1
    refine g_if_ge 31 dX13_readWalker_24 (by decide) (fun q5 => ?_) (fun q5 => ?_)
    · replace hE := ife_p q5 hE
      refine g_aload_n (r := a0) dX13_readWalker_31 rfl ?_
      refine g_iconst (v := (0 : Int32)) dX13_readWalker_32 (by decide) ?_
      refine g_bipush (v := (99 : Int32)) dX13_readWalker_33 (by decide) ?_
      replace hE := bd_s hE
      obtain ⟨h7, hh7, hE⟩ := hE
      replace hh7 := ck_s hh7
      replace hE := bd_s hE
      obtain ⟨v6, hv6, hE⟩ := hE
      refine g_callV (as := [.int (0 : Int32), .int (99 : Int32)]) (rvs := [.int v6.1]) 0 0 dX13_readWalker_35 yg_Mo_number vl_X13_107 (ct_Mo_number hv6) (RC.obj hh7 (by decide) cl_9.1) rfl rfl rfl (Nat.le_of_ble_eq_true rfl) rfl rfl rfl ?_
      exact x1 (v6.1, v6.2) (Option.some.inj hE).symm
    replace hE := ife_n q5 hE
    refine g_iconst (v := (-1 : Int32)) dX13_readWalker_27 (by decide) ?_
    refine g_goto 38 dX13_readWalker_28 (by decide) ?_
    exact x1 ((-1 : Int32), v4.2) (Option.some.inj hE).symm
  replace hE := ife_p q3 hE
  refine g_iconst (v := (0 : Int32)) dX13_readWalker_11 (by decide) ?_
  rw [xR ((0 : Int32), M) (Option.some.inj hE).symm]
  exact g_zret dX13_readWalker_12 rfl (Or.inl rfl) rfl
