/-! functions of the code, contracts (written by wip/whole/gen/emit.py) -/
theorem dX2_remember_0 : decode cX2_remember 0 = .ok (.aload_n 0, 1) := by decide +kernel
theorem dX2_remember_1 : decode cX2_remember 1 = .ok (.getfield 11, 3) := by decide +kernel
theorem dX2_remember_4 : decode cX2_remember 4 = .ok (.aload_n 0, 1) := by decide +kernel
theorem dX2_remember_5 : decode cX2_remember 5 = .ok (.getfield 15, 3) := by decide +kernel
theorem dX2_remember_8 : decode cX2_remember 8 = .ok (.aload_n 0, 1) := by decide +kernel
theorem dX2_remember_9 : decode cX2_remember 9 = .ok (.getfield 19, 3) := by decide +kernel
theorem dX2_remember_12 : decode cX2_remember 12 = .ok (.iadd, 1) := by decide +kernel
theorem dX2_remember_13 : decode cX2_remember 13 = .ok (.bipush 12, 2) := by decide +kernel
theorem dX2_remember_15 : decode cX2_remember 15 = .ok (.irem, 1) := by decide +kernel
theorem dX2_remember_16 : decode cX2_remember 16 = .ok (.aaload, 1) := by decide +kernel
theorem dX2_remember_17 : decode cX2_remember 17 = .ok (.aload_n 1, 1) := by decide +kernel
theorem dX2_remember_18 : decode cX2_remember 18 = .ok (.invokevirtual 23, 3) := by decide +kernel
theorem dX2_remember_21 : decode cX2_remember 21 = .ok (.aload_n 0, 1) := by decide +kernel
theorem dX2_remember_22 : decode cX2_remember 22 = .ok (.getfield 19, 3) := by decide +kernel
theorem dX2_remember_25 : decode cX2_remember 25 = .ok (.bipush 12, 2) := by decide +kernel
theorem dX2_remember_27 : decode cX2_remember 27 = .ok (.if_icmp .ge 16, 3) := by decide +kernel
theorem dX2_remember_30 : decode cX2_remember 30 = .ok (.aload_n 0, 1) := by decide +kernel
theorem dX2_remember_31 : decode cX2_remember 31 = .ok (.dup, 1) := by decide +kernel
theorem dX2_remember_32 : decode cX2_remember 32 = .ok (.getfield 19, 3) := by decide +kernel
theorem dX2_remember_35 : decode cX2_remember 35 = .ok (.iconst 1, 1) := by decide +kernel
theorem dX2_remember_36 : decode cX2_remember 36 = .ok (.iadd, 1) := by decide +kernel
theorem dX2_remember_37 : decode cX2_remember 37 = .ok (.putfield 19, 3) := by decide +kernel
theorem dX2_remember_40 : decode cX2_remember 40 = .ok (.goto 16, 3) := by decide +kernel
theorem dX2_remember_43 : decode cX2_remember 43 = .ok (.aload_n 0, 1) := by decide +kernel
theorem dX2_remember_44 : decode cX2_remember 44 = .ok (.aload_n 0, 1) := by decide +kernel
theorem dX2_remember_45 : decode cX2_remember 45 = .ok (.getfield 15, 3) := by decide +kernel
theorem dX2_remember_48 : decode cX2_remember 48 = .ok (.iconst 1, 1) := by decide +kernel
theorem dX2_remember_49 : decode cX2_remember 49 = .ok (.iadd, 1) := by decide +kernel
theorem dX2_remember_50 : decode cX2_remember 50 = .ok (.bipush 12, 2) := by decide +kernel
theorem dX2_remember_52 : decode cX2_remember 52 = .ok (.irem, 1) := by decide +kernel
theorem dX2_remember_53 : decode cX2_remember 53 = .ok (.putfield 15, 3) := by decide +kernel
theorem dX2_remember_56 : decode cX2_remember 56 = .ok (.return_, 1) := by decide +kernel
def F_History_remember (a0 : Nat) (a1 : Nat) (M : Mem) : Option (Mem) := (fR M a0 11 0).bind fun v1 => (fI M a0 11 1).bind fun v2 => (fI M a0 11 2).bind fun v3 => (aR M v1 5 ((v2 + v3) - (v2 + v3) / (12 : Int32) * (12 : Int32))).bind fun v4 => (ck (qS M v4 = 17)).bind fun h6 => (F_World_copy v4 a1 M).bind fun v5 => (fI v5 a0 11 2).bind fun v7 => if (12 : Int32) ≤ v7 then ((fI v5 a0 11 1).bind fun v9 => (sI v5 a0 11 1 ((v9 + (1 : Int32)) - (v9 + (1 : Int32)) / (12 : Int32) * (12 : Int32))).bind fun m10 => some (m10)) else ((fI v5 a0 11 2).bind fun v11 => (sI v5 a0 11 2 (v11 + (1 : Int32))).bind fun m12 => some (m12))
def m_History_remember : My := (yX2_remember, cX2_remember, 2, none, { frames := 2, cells := 0, slots := 0, locals := 122 }, [])
theorem yg_History_remember : YG (m_History_remember) := (at_gw 508 (by decide +kernel) rfl)
theorem ct_History_remember {X : Cx} {a0 : Nat} {a1 : Nat} {M : Mem} {r : Mem} (hE : F_History_remember a0 a1 M = some r) : Ct X m_History_remember [.ref a0, .ref a1] M (oVM r) := by
  have xR : ∀ v : Mem, r = v → r = v := fun _ q => q
  refine Ct.of (by decide +kernel) rfl rfl ?_
  unfold F_History_remember at hE
  refine g_aload_n (r := a0) dX2_remember_0 rfl ?_
  replace hE := bd_s hE
  obtain ⟨v1, hv1, hE⟩ := hE
  refine g_fR dX2_remember_1 fl_X2_11_1 rfl hv1 ?_
  refine g_aload_n (r := a0) dX2_remember_4 rfl ?_
  replace hE := bd_s hE
  obtain ⟨v2, hv2, hE⟩ := hE
  refine g_fI dX2_remember_5 fl_X2_15_1 rfl hv2 ?_
  refine g_aload_n (r := a0) dX2_remember_8 rfl ?_
  replace hE := bd_s hE
  obtain ⟨v3, hv3, hE⟩ := hE
  refine g_fI dX2_remember_9 fl_X2_19_1 rfl hv3 ?_
  refine g_iadd dX2_remember_12 ?_
  refine g_bipush (v := (12 : Int32)) dX2_remember_13 (by decide) ?_
  refine g_irem dX2_remember_15 (by decide) ?_
  replace hE := bd_s hE
  obtain ⟨v4, hv4, hE⟩ := hE
  refine g_aR dX2_remember_16 rfl hv4 ?_
  refine g_aload_n (r := a1) dX2_remember_17 rfl ?_
  replace hE := bd_s hE
  obtain ⟨h6, hh6, hE⟩ := hE
  replace hh6 := ck_s hh6
  replace hE := bd_s hE
  obtain ⟨v5, hv5, hE⟩ := hE
  refine g_callV (as := [.ref a1]) (rvs := []) 0 0 dX2_remember_18 yg_World_copy vl_X2_23 (ct_World_copy hv5) (RC.obj hh6 (by decide) cl_7.1) rfl rfl rfl (Nat.le_of_ble_eq_true rfl) rfl rfl rfl ?_
  refine g_aload_n (r := a0) dX2_remember_21 rfl ?_
  replace hE := bd_s hE
  obtain ⟨v7, hv7, hE⟩ := hE
  refine g_fI dX2_remember_22 fl_X2_19_1 rfl hv7 ?_
  refine g_bipush (v := (12 : Int32)) dX2_remember_25 (by decide) ?_
  refine g_icmp_ge 43 dX2_remember_27 (by decide) (fun q8 => ?_) (fun q8 => ?_)
  · replace hE := ife_p q8 hE
    refine g_aload_n (r := a0) dX2_remember_43 rfl ?_
    refine g_aload_n (r := a0) dX2_remember_44 rfl ?_
    replace hE := bd_s hE
    obtain ⟨v9, hv9, hE⟩ := hE
    refine g_fI dX2_remember_45 fl_X2_15_1 rfl hv9 ?_
    refine g_iconst (v := (1 : Int32)) dX2_remember_48 (by decide) ?_
    refine g_iadd dX2_remember_49 ?_
    refine g_bipush (v := (12 : Int32)) dX2_remember_50 (by decide) ?_
    refine g_irem dX2_remember_52 (by decide) ?_
    replace hE := bd_s hE
    obtain ⟨m10, hm10, hE⟩ := hE
    refine g_sI dX2_remember_53 fl_X2_15_1w (by decide) hm10 ?_
    rw [xR m10 (Option.some.inj hE).symm]
    exact g_vret dX2_remember_56 rfl rfl
  replace hE := ife_n q8 hE
  refine g_aload_n (r := a0) dX2_remember_30 rfl ?_
  refine g_dup dX2_remember_31 rfl ?_
  replace hE := bd_s hE
  obtain ⟨v11, hv11, hE⟩ := hE
  refine g_fI dX2_remember_32 fl_X2_19_1 rfl hv11 ?_
  refine g_iconst (v := (1 : Int32)) dX2_remember_35 (by decide) ?_
  refine g_iadd dX2_remember_36 ?_
  replace hE := bd_s hE
  obtain ⟨m12, hm12, hE⟩ := hE
  refine g_sI dX2_remember_37 fl_X2_19_1w (by decide) hm12 ?_
  refine g_goto 56 dX2_remember_40 (by decide) ?_
  rw [xR m12 (Option.some.inj hE).symm]
  exact g_vret dX2_remember_56 rfl rfl
theorem dX2_undoLatest_0 : decode cX2_undoLatest 0 = .ok (.aload_n 0, 1) := by decide +kernel
theorem dX2_undoLatest_1 : decode cX2_undoLatest 1 = .ok (.getfield 19, 3) := by decide +kernel
theorem dX2_undoLatest_4 : decode cX2_undoLatest 4 = .ok (.ifCond .ne 5, 3) := by decide +kernel
theorem dX2_undoLatest_7 : decode cX2_undoLatest 7 = .ok (.iconst 0, 1) := by decide +kernel
theorem dX2_undoLatest_8 : decode cX2_undoLatest 8 = .ok (.ireturn, 1) := by decide +kernel
theorem dX2_undoLatest_9 : decode cX2_undoLatest 9 = .ok (.aload_n 0, 1) := by decide +kernel
theorem dX2_undoLatest_10 : decode cX2_undoLatest 10 = .ok (.dup, 1) := by decide +kernel
theorem dX2_undoLatest_11 : decode cX2_undoLatest 11 = .ok (.getfield 19, 3) := by decide +kernel
theorem dX2_undoLatest_14 : decode cX2_undoLatest 14 = .ok (.iconst 1, 1) := by decide +kernel
theorem dX2_undoLatest_15 : decode cX2_undoLatest 15 = .ok (.isub, 1) := by decide +kernel
theorem dX2_undoLatest_16 : decode cX2_undoLatest 16 = .ok (.putfield 19, 3) := by decide +kernel
theorem dX2_undoLatest_19 : decode cX2_undoLatest 19 = .ok (.aload_n 1, 1) := by decide +kernel
theorem dX2_undoLatest_20 : decode cX2_undoLatest 20 = .ok (.aload_n 0, 1) := by decide +kernel
theorem dX2_undoLatest_21 : decode cX2_undoLatest 21 = .ok (.getfield 11, 3) := by decide +kernel
theorem dX2_undoLatest_24 : decode cX2_undoLatest 24 = .ok (.aload_n 0, 1) := by decide +kernel
theorem dX2_undoLatest_25 : decode cX2_undoLatest 25 = .ok (.getfield 15, 3) := by decide +kernel
theorem dX2_undoLatest_28 : decode cX2_undoLatest 28 = .ok (.aload_n 0, 1) := by decide +kernel
theorem dX2_undoLatest_29 : decode cX2_undoLatest 29 = .ok (.getfield 19, 3) := by decide +kernel
theorem dX2_undoLatest_32 : decode cX2_undoLatest 32 = .ok (.iadd, 1) := by decide +kernel
theorem dX2_undoLatest_33 : decode cX2_undoLatest 33 = .ok (.bipush 12, 2) := by decide +kernel
theorem dX2_undoLatest_35 : decode cX2_undoLatest 35 = .ok (.irem, 1) := by decide +kernel
theorem dX2_undoLatest_36 : decode cX2_undoLatest 36 = .ok (.aaload, 1) := by decide +kernel
theorem dX2_undoLatest_37 : decode cX2_undoLatest 37 = .ok (.invokevirtual 23, 3) := by decide +kernel
theorem dX2_undoLatest_40 : decode cX2_undoLatest 40 = .ok (.iconst 1, 1) := by decide +kernel
theorem dX2_undoLatest_41 : decode cX2_undoLatest 41 = .ok (.ireturn, 1) := by decide +kernel
def F_History_undoLatest (a0 : Nat) (a1 : Nat) (M : Mem) : Option (Int32 × Mem) := (fI M a0 11 2).bind fun v1 => if v1 = 0 then (some ((0 : Int32), M)) else ((fI M a0 11 2).bind fun v3 => (sI M a0 11 2 (v3 - (1 : Int32))).bind fun m4 => (fR m4 a0 11 0).bind fun v5 => (fI m4 a0 11 1).bind fun v6 => (fI m4 a0 11 2).bind fun v7 => (aR m4 v5 5 ((v6 + v7) - (v6 + v7) / (12 : Int32) * (12 : Int32))).bind fun v8 => (ck (qS m4 a1 = 17)).bind fun h10 => (F_World_copy a1 v8 m4).bind fun v9 => some ((1 : Int32), v9))
def m_History_undoLatest : My := (yX2_undoLatest, cX2_undoLatest, 2, some .boolean, { frames := 2, cells := 0, slots := 0, locals := 122 }, [])
theorem yg_History_undoLatest : YG (m_History_undoLatest) := (at_gw 597 (by decide +kernel) rfl)
theorem ct_History_undoLatest {X : Cx} {a0 : Nat} {a1 : Nat} {M : Mem} {r : Int32 × Mem} (hE : F_History_undoLatest a0 a1 M = some r) : Ct X m_History_undoLatest [.ref a0, .ref a1] M (oIM r) := by
  have xR : ∀ v : Int32 × Mem, r = v → r = v := fun _ q => q
  refine Ct.of (by decide +kernel) rfl rfl ?_
  unfold F_History_undoLatest at hE
  refine g_aload_n (r := a0) dX2_undoLatest_0 rfl ?_
  replace hE := bd_s hE
  obtain ⟨v1, hv1, hE⟩ := hE
  refine g_fI dX2_undoLatest_1 fl_X2_19_1 rfl hv1 ?_
  refine g_if_ne 9 dX2_undoLatest_4 (by decide) (fun q2 => ?_) (fun q2 => ?_)
  · replace hE := ife_n q2 hE
    refine g_aload_n (r := a0) dX2_undoLatest_9 rfl ?_
    refine g_dup dX2_undoLatest_10 rfl ?_
    replace hE := bd_s hE
    obtain ⟨v3, hv3, hE⟩ := hE
    refine g_fI dX2_undoLatest_11 fl_X2_19_1 rfl hv3 ?_
    refine g_iconst (v := (1 : Int32)) dX2_undoLatest_14 (by decide) ?_
    refine g_isub dX2_undoLatest_15 ?_
    replace hE := bd_s hE
    obtain ⟨m4, hm4, hE⟩ := hE
    refine g_sI dX2_undoLatest_16 fl_X2_19_1w (by decide) hm4 ?_
    refine g_aload_n (r := a1) dX2_undoLatest_19 rfl ?_
    refine g_aload_n (r := a0) dX2_undoLatest_20 rfl ?_
    replace hE := bd_s hE
    obtain ⟨v5, hv5, hE⟩ := hE
    refine g_fR dX2_undoLatest_21 fl_X2_11_1 rfl hv5 ?_
    refine g_aload_n (r := a0) dX2_undoLatest_24 rfl ?_
    replace hE := bd_s hE
    obtain ⟨v6, hv6, hE⟩ := hE
    refine g_fI dX2_undoLatest_25 fl_X2_15_1 rfl hv6 ?_
    refine g_aload_n (r := a0) dX2_undoLatest_28 rfl ?_
    replace hE := bd_s hE
    obtain ⟨v7, hv7, hE⟩ := hE
    refine g_fI dX2_undoLatest_29 fl_X2_19_1 rfl hv7 ?_
    refine g_iadd dX2_undoLatest_32 ?_
    refine g_bipush (v := (12 : Int32)) dX2_undoLatest_33 (by decide) ?_
    refine g_irem dX2_undoLatest_35 (by decide) ?_
    replace hE := bd_s hE
    obtain ⟨v8, hv8, hE⟩ := hE
    refine g_aR dX2_undoLatest_36 rfl hv8 ?_
    replace hE := bd_s hE
    obtain ⟨h10, hh10, hE⟩ := hE
    replace hh10 := ck_s hh10
    replace hE := bd_s hE
    obtain ⟨v9, hv9, hE⟩ := hE
    refine g_callV (as := [.ref v8]) (rvs := []) 0 0 dX2_undoLatest_37 yg_World_copy vl_X2_23 (ct_World_copy hv9) (RC.obj hh10 (by decide) cl_7.1) rfl rfl rfl (Nat.le_of_ble_eq_true rfl) rfl rfl rfl ?_
    refine g_iconst (v := (1 : Int32)) dX2_undoLatest_40 (by decide) ?_
    rw [xR ((1 : Int32), v9) (Option.some.inj hE).symm]
    exact g_zret dX2_undoLatest_41 rfl (Or.inr rfl) rfl
  replace hE := ife_p q2 hE
  refine g_iconst (v := (0 : Int32)) dX2_undoLatest_7 (by decide) ?_
  rw [xR ((0 : Int32), M) (Option.some.inj hE).symm]
  exact g_zret dX2_undoLatest_8 rfl (Or.inl rfl) rfl
theorem dX3_isFact_0 : decode cX3_isFact 0 = .ok (.getstatic 40, 3) := by decide +kernel
theorem dX3_isFact_3 : decode cX3_isFact 3 = .ok (.aload_n 0, 1) := by decide +kernel
theorem dX3_isFact_4 : decode cX3_isFact 4 = .ok (.invokevirtual 45, 3) := by decide +kernel
theorem dX3_isFact_7 : decode cX3_isFact 7 = .ok (.iaload, 1) := by decide +kernel
theorem dX3_isFact_8 : decode cX3_isFact 8 = .ok (.tableswitch 90 1 18 #[88, 90, 90, 90, 90, 90, 90, 90, 90, 90, 90, 90, 88, 88, 88, 88, 88, 88], 88) := by decide +kernel
theorem dX3_isFact_96 : decode cX3_isFact 96 = .ok (.iconst 1, 1) := by decide +kernel
theorem dX3_isFact_97 : decode cX3_isFact 97 = .ok (.ireturn, 1) := by decide +kernel
theorem dX3_isFact_98 : decode cX3_isFact 98 = .ok (.iconst 0, 1) := by decide +kernel
theorem dX3_isFact_99 : decode cX3_isFact 99 = .ok (.ireturn, 1) := by decide +kernel
def F_Law_isFact (a0 : Nat) (M : Mem) : Option (Int32) := (tOrd a0).bind fun v1 => (swI v1).bind fun v2 => if v2 = (1 : Int32) then (some (1 : Int32)) else if v2 = (13 : Int32) then (some (1 : Int32)) else if v2 = (14 : Int32) then (some (1 : Int32)) else if v2 = (15 : Int32) then (some (1 : Int32)) else if v2 = (16 : Int32) then (some (1 : Int32)) else if v2 = (17 : Int32) then (some (1 : Int32)) else if v2 = (18 : Int32) then (some (1 : Int32)) else (some (0 : Int32))
def m_Law_isFact : My := (yX3_isFact, cX3_isFact, 1, some .boolean, { frames := 1, cells := 0, slots := 0, locals := 20 }, [])
theorem yg_Law_isFact : YG (m_Law_isFact) := (at_gw 782 (by decide +kernel) rfl)
theorem ct_Law_isFact {X : Cx} {a0 : Nat} {M : Mem} {r : Int32} (hE : F_Law_isFact a0 M = some r) : Ct X m_Law_isFact [.ref a0] M ((oI M) r) := by
  have xR : ∀ v : Int32, r = v → r = v := fun _ q => q
  refine Ct.of (by decide +kernel) rfl rfl ?_
  unfold F_Law_isFact at hE
  refine g_swm dX3_isFact_0 sm_X3_40 ?_
  refine g_aload_n (r := a0) dX3_isFact_3 rfl ?_
  replace hE := bd_s hE
  obtain ⟨v1, hv1, hE⟩ := hE
  refine g_callU (as := []) (rvs := [.int v1]) 0 0 dX3_isFact_4 yg_ord ul_X3_45_X10 (ct_ord hv1) (RC.tok (tok_s hv1)) rfl rfl rfl (Nat.le_of_ble_eq_true rfl) rfl rfl rfl ?_
  replace hE := bd_s hE
  obtain ⟨v2, hv2, hE⟩ := hE
  refine g_swat dX3_isFact_7 hv2 ?_
  by_cases q3 : v2 = (1 : Int32)
  · replace hE := ife_p q3 hE
    refine g_tabIn 96 dX3_isFact_8 (by rw [q3]; decide) (by rw [q3]; decide) (by rw [q3]; rfl) (by decide) ?_
    refine g_iconst (v := (1 : Int32)) dX3_isFact_96 (by decide) ?_
    rw [xR (1 : Int32) (Option.some.inj hE).symm]
    exact g_zret dX3_isFact_97 rfl (Or.inr rfl) rfl
  replace hE := ife_n q3 hE
  by_cases q4 : v2 = (13 : Int32)
  · replace hE := ife_p q4 hE
    refine g_tabIn 96 dX3_isFact_8 (by rw [q4]; decide) (by rw [q4]; decide) (by rw [q4]; rfl) (by decide) ?_
    refine g_iconst (v := (1 : Int32)) dX3_isFact_96 (by decide) ?_
    rw [xR (1 : Int32) (Option.some.inj hE).symm]
    exact g_zret dX3_isFact_97 rfl (Or.inr rfl) rfl
  replace hE := ife_n q4 hE
  by_cases q5 : v2 = (14 : Int32)
  · replace hE := ife_p q5 hE
    refine g_tabIn 96 dX3_isFact_8 (by rw [q5]; decide) (by rw [q5]; decide) (by rw [q5]; rfl) (by decide) ?_
    refine g_iconst (v := (1 : Int32)) dX3_isFact_96 (by decide) ?_
    rw [xR (1 : Int32) (Option.some.inj hE).symm]
    exact g_zret dX3_isFact_97 rfl (Or.inr rfl) rfl
  replace hE := ife_n q5 hE
  by_cases q6 : v2 = (15 : Int32)
  · replace hE := ife_p q6 hE
    refine g_tabIn 96 dX3_isFact_8 (by rw [q6]; decide) (by rw [q6]; decide) (by rw [q6]; rfl) (by decide) ?_
    refine g_iconst (v := (1 : Int32)) dX3_isFact_96 (by decide) ?_
    rw [xR (1 : Int32) (Option.some.inj hE).symm]
    exact g_zret dX3_isFact_97 rfl (Or.inr rfl) rfl
  replace hE := ife_n q6 hE
  by_cases q7 : v2 = (16 : Int32)
  · replace hE := ife_p q7 hE
    refine g_tabIn 96 dX3_isFact_8 (by rw [q7]; decide) (by rw [q7]; decide) (by rw [q7]; rfl) (by decide) ?_
    refine g_iconst (v := (1 : Int32)) dX3_isFact_96 (by decide) ?_
    rw [xR (1 : Int32) (Option.some.inj hE).symm]
    exact g_zret dX3_isFact_97 rfl (Or.inr rfl) rfl
  replace hE := ife_n q7 hE
  by_cases q8 : v2 = (17 : Int32)
  · replace hE := ife_p q8 hE
    refine g_tabIn 96 dX3_isFact_8 (by rw [q8]; decide) (by rw [q8]; decide) (by rw [q8]; rfl) (by decide) ?_
    refine g_iconst (v := (1 : Int32)) dX3_isFact_96 (by decide) ?_
    rw [xR (1 : Int32) (Option.some.inj hE).symm]
    exact g_zret dX3_isFact_97 rfl (Or.inr rfl) rfl
  replace hE := ife_n q8 hE
  by_cases q9 : v2 = (18 : Int32)
  · replace hE := ife_p q9 hE
    refine g_tabIn 96 dX3_isFact_8 (by rw [q9]; decide) (by rw [q9]; decide) (by rw [q9]; rfl) (by decide) ?_
    refine g_iconst (v := (1 : Int32)) dX3_isFact_96 (by decide) ?_
    rw [xR (1 : Int32) (Option.some.inj hE).symm]
    exact g_zret dX3_isFact_97 rfl (Or.inr rfl) rfl
  replace hE := ife_n q9 hE
  have x21 : G X m_Law_isFact (endP X m_Law_isFact ((oI M) r)) 98 [.ref a0] [] 0 0 M := by
    refine g_iconst (v := (0 : Int32)) dX3_isFact_98 (by decide) ?_
    rw [xR (0 : Int32) (Option.some.inj hE).symm]
    exact g_zret dX3_isFact_99 rfl (Or.inl rfl) rfl
  by_cases q10 : v2 = (2 : Int32)
  · refine g_tabIn 98 dX3_isFact_8 (by rw [q10]; decide) (by rw [q10]; decide) (by rw [q10]; rfl) (by decide) ?_
    exact x21
  by_cases q11 : v2 = (3 : Int32)
  · refine g_tabIn 98 dX3_isFact_8 (by rw [q11]; decide) (by rw [q11]; decide) (by rw [q11]; rfl) (by decide) ?_
    exact x21
  by_cases q12 : v2 = (4 : Int32)
  · refine g_tabIn 98 dX3_isFact_8 (by rw [q12]; decide) (by rw [q12]; decide) (by rw [q12]; rfl) (by decide) ?_
    exact x21
  by_cases q13 : v2 = (5 : Int32)
  · refine g_tabIn 98 dX3_isFact_8 (by rw [q13]; decide) (by rw [q13]; decide) (by rw [q13]; rfl) (by decide) ?_
    exact x21
  by_cases q14 : v2 = (6 : Int32)
  · refine g_tabIn 98 dX3_isFact_8 (by rw [q14]; decide) (by rw [q14]; decide) (by rw [q14]; rfl) (by decide) ?_
    exact x21
  by_cases q15 : v2 = (7 : Int32)
  · refine g_tabIn 98 dX3_isFact_8 (by rw [q15]; decide) (by rw [q15]; decide) (by rw [q15]; rfl) (by decide) ?_
    exact x21
  by_cases q16 : v2 = (8 : Int32)
  · refine g_tabIn 98 dX3_isFact_8 (by rw [q16]; decide) (by rw [q16]; decide) (by rw [q16]; rfl) (by decide) ?_
    exact x21
  by_cases q17 : v2 = (9 : Int32)
  · refine g_tabIn 98 dX3_isFact_8 (by rw [q17]; decide) (by rw [q17]; decide) (by rw [q17]; rfl) (by decide) ?_
    exact x21
  by_cases q18 : v2 = (10 : Int32)
  · refine g_tabIn 98 dX3_isFact_8 (by rw [q18]; decide) (by rw [q18]; decide) (by rw [q18]; rfl) (by decide) ?_
    exact x21
  by_cases q19 : v2 = (11 : Int32)
  · refine g_tabIn 98 dX3_isFact_8 (by rw [q19]; decide) (by rw [q19]; decide) (by rw [q19]; rfl) (by decide) ?_
    exact x21
  by_cases q20 : v2 = (12 : Int32)
  · refine g_tabIn 98 dX3_isFact_8 (by rw [q20]; decide) (by rw [q20]; decide) (by rw [q20]; rfl) (by decide) ?_
    exact x21
  replace q3 := ti_ne (1 : Int32) (1) (by decide) q3
  replace q4 := ti_ne (13 : Int32) (13) (by decide) q4
  replace q5 := ti_ne (14 : Int32) (14) (by decide) q5
  replace q6 := ti_ne (15 : Int32) (15) (by decide) q6
  replace q7 := ti_ne (16 : Int32) (16) (by decide) q7
  replace q8 := ti_ne (17 : Int32) (17) (by decide) q8
  replace q9 := ti_ne (18 : Int32) (18) (by decide) q9
  replace q10 := ti_ne (2 : Int32) (2) (by decide) q10
  replace q11 := ti_ne (3 : Int32) (3) (by decide) q11
  replace q12 := ti_ne (4 : Int32) (4) (by decide) q12
  replace q13 := ti_ne (5 : Int32) (5) (by decide) q13
  replace q14 := ti_ne (6 : Int32) (6) (by decide) q14
  replace q15 := ti_ne (7 : Int32) (7) (by decide) q15
  replace q16 := ti_ne (8 : Int32) (8) (by decide) q16
  replace q17 := ti_ne (9 : Int32) (9) (by decide) q17
  replace q18 := ti_ne (10 : Int32) (10) (by decide) q18
  replace q19 := ti_ne (11 : Int32) (11) (by decide) q19
  replace q20 := ti_ne (12 : Int32) (12) (by decide) q20
  refine g_tabOut 98 dX3_isFact_8 (by omega) (by decide) ?_
  exact x21
theorem dX3_pop_0 : decode cX3_pop 0 = .ok (.aload_n 0, 1) := by decide +kernel
theorem dX3_pop_1 : decode cX3_pop 1 = .ok (.getfield 15, 3) := by decide +kernel
theorem dX3_pop_4 : decode cX3_pop 4 = .ok (.ifCond .ne 5, 3) := by decide +kernel
theorem dX3_pop_7 : decode cX3_pop 7 = .ok (.iconst 0, 1) := by decide +kernel
theorem dX3_pop_8 : decode cX3_pop 8 = .ok (.ireturn, 1) := by decide +kernel
theorem dX3_pop_9 : decode cX3_pop 9 = .ok (.aload_n 0, 1) := by decide +kernel
theorem dX3_pop_10 : decode cX3_pop 10 = .ok (.dup, 1) := by decide +kernel
theorem dX3_pop_11 : decode cX3_pop 11 = .ok (.getfield 15, 3) := by decide +kernel
theorem dX3_pop_14 : decode cX3_pop 14 = .ok (.iconst 1, 1) := by decide +kernel
theorem dX3_pop_15 : decode cX3_pop 15 = .ok (.isub, 1) := by decide +kernel
theorem dX3_pop_16 : decode cX3_pop 16 = .ok (.putfield 15, 3) := by decide +kernel
theorem dX3_pop_19 : decode cX3_pop 19 = .ok (.aload_n 0, 1) := by decide +kernel
theorem dX3_pop_20 : decode cX3_pop 20 = .ok (.getfield 11, 3) := by decide +kernel
theorem dX3_pop_23 : decode cX3_pop 23 = .ok (.aload_n 0, 1) := by decide +kernel
theorem dX3_pop_24 : decode cX3_pop 24 = .ok (.getfield 15, 3) := by decide +kernel
theorem dX3_pop_27 : decode cX3_pop 27 = .ok (.iaload, 1) := by decide +kernel
theorem dX3_pop_28 : decode cX3_pop 28 = .ok (.ireturn, 1) := by decide +kernel
def F_Law_pop (a0 : Nat) (M : Mem) : Option (Int32 × Mem) := (fI M a0 12 4).bind fun v1 => if v1 = 0 then (some ((0 : Int32), M)) else ((fI M a0 12 4).bind fun v3 => (sI M a0 12 4 (v3 - (1 : Int32))).bind fun m4 => (fR m4 a0 12 3).bind fun v5 => (fI m4 a0 12 4).bind fun v6 => (aI m4 v5 v6).bind fun v7 => some (v7, m4))
def m_Law_pop : My := (yX3_pop, cX3_pop, 1, some .int, { frames := 0, cells := 0, slots := 0, locals := 0 }, [])
theorem yg_Law_pop : YG (m_Law_pop) := (at_gw 1092 (by decide +kernel) rfl)
theorem ct_Law_pop {X : Cx} {a0 : Nat} {M : Mem} {r : Int32 × Mem} (hE : F_Law_pop a0 M = some r) : Ct X m_Law_pop [.ref a0] M (oIM r) := by
  have xR : ∀ v : Int32 × Mem, r = v → r = v := fun _ q => q
  refine Ct.of (by decide +kernel) rfl rfl ?_
  unfold F_Law_pop at hE
  refine g_aload_n (r := a0) dX3_pop_0 rfl ?_
  replace hE := bd_s hE
  obtain ⟨v1, hv1, hE⟩ := hE
  refine g_fI dX3_pop_1 fl_X3_15_2 rfl hv1 ?_
  refine g_if_ne 9 dX3_pop_4 (by decide) (fun q2 => ?_) (fun q2 => ?_)
  · replace hE := ife_n q2 hE
    refine g_aload_n (r := a0) dX3_pop_9 rfl ?_
    refine g_dup dX3_pop_10 rfl ?_
    replace hE := bd_s hE
    obtain ⟨v3, hv3, hE⟩ := hE
    refine g_fI dX3_pop_11 fl_X3_15_2 rfl hv3 ?_
    refine g_iconst (v := (1 : Int32)) dX3_pop_14 (by decide) ?_
    refine g_isub dX3_pop_15 ?_
    replace hE := bd_s hE
    obtain ⟨m4, hm4, hE⟩ := hE
    refine g_sI dX3_pop_16 fl_X3_15_2w (by decide) hm4 ?_
    refine g_aload_n (r := a0) dX3_pop_19 rfl ?_
    replace hE := bd_s hE
    obtain ⟨v5, hv5, hE⟩ := hE
    refine g_fR dX3_pop_20 fl_X3_11_2 rfl hv5 ?_
    refine g_aload_n (r := a0) dX3_pop_23 rfl ?_
    replace hE := bd_s hE
    obtain ⟨v6, hv6, hE⟩ := hE
    refine g_fI dX3_pop_24 fl_X3_15_2 rfl hv6 ?_
    replace hE := bd_s hE
    obtain ⟨v7, hv7, hE⟩ := hE
    refine g_aI dX3_pop_27 hv7 ?_
    rw [xR (v7, m4) (Option.some.inj hE).symm]
    exact g_iret dX3_pop_28 rfl rfl
  replace hE := ife_p q2 hE
  refine g_iconst (v := (0 : Int32)) dX3_pop_7 (by decide) ?_
  rw [xR ((0 : Int32), M) (Option.some.inj hE).symm]
  exact g_iret dX3_pop_8 rfl rfl
theorem dX3_push_0 : decode cX3_push 0 = .ok (.aload_n 0, 1) := by decide +kernel
theorem dX3_push_1 : decode cX3_push 1 = .ok (.getfield 15, 3) := by decide +kernel
theorem dX3_push_4 : decode cX3_push 4 = .ok (.aload_n 0, 1) := by decide +kernel
theorem dX3_push_5 : decode cX3_push 5 = .ok (.getfield 11, 3) := by decide +kernel
theorem dX3_push_8 : decode cX3_push 8 = .ok (.arraylength, 1) := by decide +kernel
theorem dX3_push_9 : decode cX3_push 9 = .ok (.if_icmp .ge 23, 3) := by decide +kernel
theorem dX3_push_12 : decode cX3_push 12 = .ok (.aload_n 0, 1) := by decide +kernel
theorem dX3_push_13 : decode cX3_push 13 = .ok (.getfield 11, 3) := by decide +kernel
theorem dX3_push_16 : decode cX3_push 16 = .ok (.aload_n 0, 1) := by decide +kernel
theorem dX3_push_17 : decode cX3_push 17 = .ok (.getfield 15, 3) := by decide +kernel
theorem dX3_push_20 : decode cX3_push 20 = .ok (.iload_n 1, 1) := by decide +kernel
theorem dX3_push_21 : decode cX3_push 21 = .ok (.iastore, 1) := by decide +kernel
theorem dX3_push_22 : decode cX3_push 22 = .ok (.aload_n 0, 1) := by decide +kernel
theorem dX3_push_23 : decode cX3_push 23 = .ok (.dup, 1) := by decide +kernel
theorem dX3_push_24 : decode cX3_push 24 = .ok (.getfield 15, 3) := by decide +kernel
theorem dX3_push_27 : decode cX3_push 27 = .ok (.iconst 1, 1) := by decide +kernel
theorem dX3_push_28 : decode cX3_push 28 = .ok (.iadd, 1) := by decide +kernel
theorem dX3_push_29 : decode cX3_push 29 = .ok (.putfield 15, 3) := by decide +kernel
theorem dX3_push_32 : decode cX3_push 32 = .ok (.return_, 1) := by decide +kernel
def F_Law_push (a0 : Nat) (a1 : Int32) (M : Mem) : Option (Mem) := (fI M a0 12 4).bind fun v1 => (fR M a0 12 3).bind fun v2 => (aN M v2).bind fun v3 => if v3 ≤ v1 then (some (M)) else ((fR M a0 12 3).bind fun v5 => (fI M a0 12 4).bind fun v6 => (tI M v5 v6 a1).bind fun m7 => (fI m7 a0 12 4).bind fun v8 => (sI m7 a0 12 4 (v8 + (1 : Int32))).bind fun m9 => some (m9))
def m_Law_push : My := (yX3_push, cX3_push, 2, none, { frames := 0, cells := 0, slots := 0, locals := 0 }, [])
theorem yg_Law_push : YG (m_Law_push) := (at_gw 1096 (by decide +kernel) rfl)
theorem ct_Law_push {X : Cx} {a0 : Nat} {a1 : Int32} {M : Mem} {r : Mem} (hE : F_Law_push a0 a1 M = some r) : Ct X m_Law_push [.ref a0, .int a1] M (oVM r) := by
  have xR : ∀ v : Mem, r = v → r = v := fun _ q => q
  refine Ct.of (by decide +kernel) rfl rfl ?_
  unfold F_Law_push at hE
  refine g_aload_n (r := a0) dX3_push_0 rfl ?_
  replace hE := bd_s hE
  obtain ⟨v1, hv1, hE⟩ := hE
  refine g_fI dX3_push_1 fl_X3_15_2 rfl hv1 ?_
  refine g_aload_n (r := a0) dX3_push_4 rfl ?_
  replace hE := bd_s hE
  obtain ⟨v2, hv2, hE⟩ := hE
  refine g_fR dX3_push_5 fl_X3_11_2 rfl hv2 ?_
  replace hE := bd_s hE
  obtain ⟨v3, hv3, hE⟩ := hE
  refine g_aN dX3_push_8 hv3 ?_
  refine g_icmp_ge 32 dX3_push_9 (by decide) (fun q4 => ?_) (fun q4 => ?_)
  · replace hE := ife_p q4 hE
    rw [xR M (Option.some.inj hE).symm]
    exact g_vret dX3_push_32 rfl rfl
  replace hE := ife_n q4 hE
  refine g_aload_n (r := a0) dX3_push_12 rfl ?_
  replace hE := bd_s hE
  obtain ⟨v5, hv5, hE⟩ := hE
  refine g_fR dX3_push_13 fl_X3_11_2 rfl hv5 ?_
  refine g_aload_n (r := a0) dX3_push_16 rfl ?_
  replace hE := bd_s hE
  obtain ⟨v6, hv6, hE⟩ := hE
  refine g_fI dX3_push_17 fl_X3_15_2 rfl hv6 ?_
  refine g_iload_n (x := a1) dX3_push_20 rfl ?_
  replace hE := bd_s hE
  obtain ⟨m7, hm7, hE⟩ := hE
  refine g_tI dX3_push_21 hm7 ?_
  refine g_aload_n (r := a0) dX3_push_22 rfl ?_
  refine g_dup dX3_push_23 rfl ?_
  replace hE := bd_s hE
  obtain ⟨v8, hv8, hE⟩ := hE
  refine g_fI dX3_push_24 fl_X3_15_2 rfl hv8 ?_
  refine g_iconst (v := (1 : Int32)) dX3_push_27 (by decide) ?_
  refine g_iadd dX3_push_28 ?_
  replace hE := bd_s hE
  obtain ⟨m9, hm9, hE⟩ := hE
  refine g_sI dX3_push_29 fl_X3_15_2w (by decide) hm9 ?_
  rw [xR m9 (Option.some.inj hE).symm]
  exact g_vret dX3_push_32 rfl rfl
theorem dX3_joined_0 : decode cX3_joined 0 = .ok (.getstatic 40, 3) := by decide +kernel
theorem dX3_joined_3 : decode cX3_joined 3 = .ok (.aload_n 0, 1) := by decide +kernel
theorem dX3_joined_4 : decode cX3_joined 4 = .ok (.invokevirtual 45, 3) := by decide +kernel
theorem dX3_joined_7 : decode cX3_joined 7 = .ok (.iaload, 1) := by decide +kernel
theorem dX3_joined_8 : decode cX3_joined 8 = .ok (.tableswitch 62 24 27 #[32, 36, 47, 58], 32) := by decide +kernel
theorem dX3_joined_40 : decode cX3_joined 40 = .ok (.iload_n 1, 1) := by decide +kernel
theorem dX3_joined_41 : decode cX3_joined 41 = .ok (.iload_n 2, 1) := by decide +kernel
theorem dX3_joined_42 : decode cX3_joined 42 = .ok (.iadd, 1) := by decide +kernel
theorem dX3_joined_43 : decode cX3_joined 43 = .ok (.ireturn, 1) := by decide +kernel
theorem dX3_joined_44 : decode cX3_joined 44 = .ok (.iload_n 1, 1) := by decide +kernel
theorem dX3_joined_45 : decode cX3_joined 45 = .ok (.iload_n 2, 1) := by decide +kernel
theorem dX3_joined_46 : decode cX3_joined 46 = .ok (.if_icmp .ge 7, 3) := by decide +kernel
theorem dX3_joined_49 : decode cX3_joined 49 = .ok (.iconst 1, 1) := by decide +kernel
theorem dX3_joined_50 : decode cX3_joined 50 = .ok (.goto 4, 3) := by decide +kernel
theorem dX3_joined_53 : decode cX3_joined 53 = .ok (.iconst 0, 1) := by decide +kernel
theorem dX3_joined_54 : decode cX3_joined 54 = .ok (.ireturn, 1) := by decide +kernel
theorem dX3_joined_55 : decode cX3_joined 55 = .ok (.iload_n 1, 1) := by decide +kernel
theorem dX3_joined_56 : decode cX3_joined 56 = .ok (.iload_n 2, 1) := by decide +kernel
theorem dX3_joined_57 : decode cX3_joined 57 = .ok (.if_icmp .le 7, 3) := by decide +kernel
theorem dX3_joined_60 : decode cX3_joined 60 = .ok (.iconst 1, 1) := by decide +kernel
theorem dX3_joined_61 : decode cX3_joined 61 = .ok (.goto 4, 3) := by decide +kernel
theorem dX3_joined_64 : decode cX3_joined 64 = .ok (.iconst 0, 1) := by decide +kernel
theorem dX3_joined_65 : decode cX3_joined 65 = .ok (.ireturn, 1) := by decide +kernel
theorem dX3_joined_66 : decode cX3_joined 66 = .ok (.iload_n 1, 1) := by decide +kernel
theorem dX3_joined_67 : decode cX3_joined 67 = .ok (.iload_n 2, 1) := by decide +kernel
theorem dX3_joined_68 : decode cX3_joined 68 = .ok (.iand, 1) := by decide +kernel
theorem dX3_joined_69 : decode cX3_joined 69 = .ok (.ireturn, 1) := by decide +kernel
theorem dX3_joined_70 : decode cX3_joined 70 = .ok (.iload_n 1, 1) := by decide +kernel
theorem dX3_joined_71 : decode cX3_joined 71 = .ok (.iload_n 2, 1) := by decide +kernel
theorem dX3_joined_72 : decode cX3_joined 72 = .ok (.ior, 1) := by decide +kernel
theorem dX3_joined_73 : decode cX3_joined 73 = .ok (.ireturn, 1) := by decide +kernel
def F_Law_joined (a0 : Nat) (a1 : Int32) (a2 : Int32) (M : Mem) : Option (Int32) := (tOrd a0).bind fun v1 => (swI v1).bind fun v2 => if v2 = (24 : Int32) then (some (a1 + a2)) else if v2 = (25 : Int32) then (if a2 ≤ a1 then (some (0 : Int32)) else (some (1 : Int32))) else if v2 = (26 : Int32) then (if a1 ≤ a2 then (some (0 : Int32)) else (some (1 : Int32))) else if v2 = (27 : Int32) then (some (a1 &&& a2)) else (some (a1 ||| a2))
def m_Law_joined : My := (yX3_joined, cX3_joined, 3, some .int, { frames := 1, cells := 0, slots := 0, locals := 20 }, [])
theorem yg_Law_joined : YG (m_Law_joined) := (at_gw 1099 (by decide +kernel) rfl)
theorem ct_Law_joined {X : Cx} {a0 : Nat} {a1 : Int32} {a2 : Int32} {M : Mem} {r : Int32} (hE : F_Law_joined a0 a1 a2 M = some r) : Ct X m_Law_joined [.ref a0, .int a1, .int a2] M ((oI M) r) := by
  have xR : ∀ v : Int32, r = v → r = v := fun _ q => q
  refine Ct.of (by decide +kernel) rfl rfl ?_
  unfold F_Law_joined at hE
  refine g_swm dX3_joined_0 sm_X3_40 ?_
  refine g_aload_n (r := a0) dX3_joined_3 rfl ?_
  replace hE := bd_s hE
  obtain ⟨v1, hv1, hE⟩ := hE
  refine g_callU (as := []) (rvs := [.int v1]) 0 0 dX3_joined_4 yg_ord ul_X3_45_X10 (ct_ord hv1) (RC.tok (tok_s hv1)) rfl rfl rfl (Nat.le_of_ble_eq_true rfl) rfl rfl rfl ?_
  replace hE := bd_s hE
  obtain ⟨v2, hv2, hE⟩ := hE
  refine g_swat dX3_joined_7 hv2 ?_
  by_cases q3 : v2 = (24 : Int32)
  · replace hE := ife_p q3 hE
    refine g_tabIn 40 dX3_joined_8 (by rw [q3]; decide) (by rw [q3]; decide) (by rw [q3]; rfl) (by decide) ?_
    refine g_iload_n (x := a1) dX3_joined_40 rfl ?_
    refine g_iload_n (x := a2) dX3_joined_41 rfl ?_
    refine g_iadd dX3_joined_42 ?_
    rw [xR (a1 + a2) (Option.some.inj hE).symm]
    exact g_iret dX3_joined_43 rfl rfl
  replace hE := ife_n q3 hE
  by_cases q4 : v2 = (25 : Int32)
  · replace hE := ife_p q4 hE
    refine g_tabIn 44 dX3_joined_8 (by rw [q4]; decide) (by rw [q4]; decide) (by rw [q4]; rfl) (by decide) ?_
    refine g_iload_n (x := a1) dX3_joined_44 rfl ?_
    refine g_iload_n (x := a2) dX3_joined_45 rfl ?_
    refine g_icmp_ge 53 dX3_joined_46 (by decide) (fun q8 => ?_) (fun q8 => ?_)
    · replace hE := ife_p q8 hE
      refine g_iconst (v := (0 : Int32)) dX3_joined_53 (by decide) ?_
      rw [xR (0 : Int32) (Option.some.inj hE).symm]
      exact g_iret dX3_joined_54 rfl rfl
    replace hE := ife_n q8 hE
    refine g_iconst (v := (1 : Int32)) dX3_joined_49 (by decide) ?_
    refine g_goto 54 dX3_joined_50 (by decide) ?_
    rw [xR (1 : Int32) (Option.some.inj hE).symm]
    exact g_iret dX3_joined_54 rfl rfl
  replace hE := ife_n q4 hE
  by_cases q5 : v2 = (26 : Int32)
  · replace hE := ife_p q5 hE
    refine g_tabIn 55 dX3_joined_8 (by rw [q5]; decide) (by rw [q5]; decide) (by rw [q5]; rfl) (by decide) ?_
    refine g_iload_n (x := a1) dX3_joined_55 rfl ?_
    refine g_iload_n (x := a2) dX3_joined_56 rfl ?_
    refine g_icmp_le 64 dX3_joined_57 (by decide) (fun q9 => ?_) (fun q9 => ?_)
    · replace hE := ife_p q9 hE
      refine g_iconst (v := (0 : Int32)) dX3_joined_64 (by decide) ?_
      rw [xR (0 : Int32) (Option.some.inj hE).symm]
      exact g_iret dX3_joined_65 rfl rfl
    replace hE := ife_n q9 hE
    refine g_iconst (v := (1 : Int32)) dX3_joined_60 (by decide) ?_
    refine g_goto 65 dX3_joined_61 (by decide) ?_
    rw [xR (1 : Int32) (Option.some.inj hE).symm]
    exact g_iret dX3_joined_65 rfl rfl
  replace hE := ife_n q5 hE
  by_cases q6 : v2 = (27 : Int32)
  · replace hE := ife_p q6 hE
    refine g_tabIn 66 dX3_joined_8 (by rw [q6]; decide) (by rw [q6]; decide) (by rw [q6]; rfl) (by decide) ?_
    refine g_iload_n (x := a1) dX3_joined_66 rfl ?_
    refine g_iload_n (x := a2) dX3_joined_67 rfl ?_
    refine g_iand dX3_joined_68 ?_
    rw [xR (a1 &&& a2) (Option.some.inj hE).symm]
    exact g_iret dX3_joined_69 rfl rfl
  replace hE := ife_n q6 hE
  have x7 : G X m_Law_joined (endP X m_Law_joined ((oI M) r)) 70 [.ref a0, .int a1, .int a2] [] 0 0 M := by
    refine g_iload_n (x := a1) dX3_joined_70 rfl ?_
    refine g_iload_n (x := a2) dX3_joined_71 rfl ?_
    refine g_ior dX3_joined_72 ?_
    rw [xR (a1 ||| a2) (Option.some.inj hE).symm]
    exact g_iret dX3_joined_73 rfl rfl
  replace q3 := ti_ne (24 : Int32) (24) (by decide) q3
  replace q4 := ti_ne (25 : Int32) (25) (by decide) q4
  replace q5 := ti_ne (26 : Int32) (26) (by decide) q5
  replace q6 := ti_ne (27 : Int32) (27) (by decide) q6
  refine g_tabOut 70 dX3_joined_8 (by omega) (by decide) ?_
  exact x7
theorem dX11_fact_0 : decode cX11_fact 0 = .ok (.getstatic 106, 3) := by decide +kernel
theorem dX11_fact_3 : decode cX11_fact 3 = .ok (.aload_n 1, 1) := by decide +kernel
theorem dX11_fact_4 : decode cX11_fact 4 = .ok (.invokevirtual 111, 3) := by decide +kernel
theorem dX11_fact_7 : decode cX11_fact 7 = .ok (.iaload, 1) := by decide +kernel
theorem dX11_fact_8 : decode cX11_fact 8 = .ok (.tableswitch 196 1 29 #[132, 196, 196, 196, 196, 196, 196, 196, 196, 196, 196, 196, 134, 141, 148, 156, 163, 173, 196, 196, 196, 196, 196, 196, 196, 196, 196, 196, 180], 132) := by decide +kernel
theorem dX11_fact_140 : decode cX11_fact 140 = .ok (.iload_n 3, 1) := by decide +kernel
theorem dX11_fact_141 : decode cX11_fact 141 = .ok (.ireturn, 1) := by decide +kernel
theorem dX11_fact_142 : decode cX11_fact 142 = .ok (.aload_n 0, 1) := by decide +kernel
theorem dX11_fact_143 : decode cX11_fact 143 = .ok (.getfield 15, 3) := by decide +kernel
theorem dX11_fact_146 : decode cX11_fact 146 = .ok (.iload_n 3, 1) := by decide +kernel
theorem dX11_fact_147 : decode cX11_fact 147 = .ok (.iaload, 1) := by decide +kernel
theorem dX11_fact_148 : decode cX11_fact 148 = .ok (.ireturn, 1) := by decide +kernel
theorem dX11_fact_149 : decode cX11_fact 149 = .ok (.aload_n 0, 1) := by decide +kernel
theorem dX11_fact_150 : decode cX11_fact 150 = .ok (.getfield 19, 3) := by decide +kernel
theorem dX11_fact_153 : decode cX11_fact 153 = .ok (.iload_n 3, 1) := by decide +kernel
theorem dX11_fact_154 : decode cX11_fact 154 = .ok (.iaload, 1) := by decide +kernel
theorem dX11_fact_155 : decode cX11_fact 155 = .ok (.ireturn, 1) := by decide +kernel
theorem dX11_fact_156 : decode cX11_fact 156 = .ok (.aload_n 0, 1) := by decide +kernel
theorem dX11_fact_157 : decode cX11_fact 157 = .ok (.getfield 63, 3) := by decide +kernel
theorem dX11_fact_160 : decode cX11_fact 160 = .ok (.bipush 7, 2) := by decide +kernel
theorem dX11_fact_162 : decode cX11_fact 162 = .ok (.irem, 1) := by decide +kernel
theorem dX11_fact_163 : decode cX11_fact 163 = .ok (.ireturn, 1) := by decide +kernel
theorem dX11_fact_164 : decode cX11_fact 164 = .ok (.aload_n 0, 1) := by decide +kernel
theorem dX11_fact_165 : decode cX11_fact 165 = .ok (.getfield 31, 3) := by decide +kernel
theorem dX11_fact_168 : decode cX11_fact 168 = .ok (.iload_n 2, 1) := by decide +kernel
theorem dX11_fact_169 : decode cX11_fact 169 = .ok (.iaload, 1) := by decide +kernel
theorem dX11_fact_170 : decode cX11_fact 170 = .ok (.ireturn, 1) := by decide +kernel
theorem dX11_fact_171 : decode cX11_fact 171 = .ok (.aload_n 0, 1) := by decide +kernel
theorem dX11_fact_172 : decode cX11_fact 172 = .ok (.getfield 37, 3) := by decide +kernel
theorem dX11_fact_175 : decode cX11_fact 175 = .ok (.iload_n 2, 1) := by decide +kernel
theorem dX11_fact_176 : decode cX11_fact 176 = .ok (.iaload, 1) := by decide +kernel
theorem dX11_fact_177 : decode cX11_fact 177 = .ok (.invokestatic 93, 3) := by decide +kernel
theorem dX11_fact_180 : decode cX11_fact 180 = .ok (.ireturn, 1) := by decide +kernel
theorem dX11_fact_181 : decode cX11_fact 181 = .ok (.aload_n 0, 1) := by decide +kernel
theorem dX11_fact_182 : decode cX11_fact 182 = .ok (.getfield 34, 3) := by decide +kernel
theorem dX11_fact_185 : decode cX11_fact 185 = .ok (.iload_n 2, 1) := by decide +kernel
theorem dX11_fact_186 : decode cX11_fact 186 = .ok (.iaload, 1) := by decide +kernel
theorem dX11_fact_187 : decode cX11_fact 187 = .ok (.ireturn, 1) := by decide +kernel
theorem dX11_fact_188 : decode cX11_fact 188 = .ok (.aload_n 0, 1) := by decide +kernel
theorem dX11_fact_189 : decode cX11_fact 189 = .ok (.getfield 63, 3) := by decide +kernel
theorem dX11_fact_192 : decode cX11_fact 192 = .ok (.bipush 7, 2) := by decide +kernel
theorem dX11_fact_194 : decode cX11_fact 194 = .ok (.irem, 1) := by decide +kernel
theorem dX11_fact_195 : decode cX11_fact 195 = .ok (.ifCond .ne 7, 3) := by decide +kernel
theorem dX11_fact_198 : decode cX11_fact 198 = .ok (.iconst 1, 1) := by decide +kernel
theorem dX11_fact_199 : decode cX11_fact 199 = .ok (.goto 4, 3) := by decide +kernel
theorem dX11_fact_202 : decode cX11_fact 202 = .ok (.iconst 0, 1) := by decide +kernel
theorem dX11_fact_203 : decode cX11_fact 203 = .ok (.ireturn, 1) := by decide +kernel
theorem dX11_fact_204 : decode cX11_fact 204 = .ok (.iconst 0, 1) := by decide +kernel
theorem dX11_fact_205 : decode cX11_fact 205 = .ok (.ireturn, 1) := by decide +kernel
def F_World_fact (a0 : Nat) (a1 : Nat) (a2 : Int32) (a3 : Int32) (M : Mem) : Option (Int32) := (tOrd a1).bind fun v1 => (swI v1).bind fun v2 => if v2 = (1 : Int32) then (some (a3)) else if v2 = (13 : Int32) then ((fR M a0 17 1).bind fun v33 => (aI M v33 a3).bind fun v34 => some (v34)) else if v2 = (14 : Int32) then ((fR M a0 17 2).bind fun v35 => (aI M v35 a3).bind fun v36 => some (v36)) else if v2 = (15 : Int32) then ((fI M a0 17 16).bind fun v37 => some (v37 - v37 / (7 : Int32) * (7 : Int32))) else if v2 = (16 : Int32) then ((fR M a0 17 6).bind fun v38 => (aI M v38 a2).bind fun v39 => some (v39)) else if v2 = (17 : Int32) then ((fR M a0 17 8).bind fun v40 => (aI M v40 a2).bind fun v41 => (F_J_bitCount v41 M).bind fun v42 => some (v42)) else if v2 = (18 : Int32) then ((fR M a0 17 7).bind fun v43 => (aI M v43 a2).bind fun v44 => some (v44)) else if v2 = (29 : Int32) then ((fI M a0 17 16).bind fun v45 => if (v45 - v45 / (7 : Int32) * (7 : Int32)) = 0 then (some (1 : Int32)) else (some (0 : Int32))) else (some (0 : Int32))
def m_World_fact : My := (yX11_fact, cX11_fact, 4, some .int, { frames := 1, cells := 0, slots := 0, locals := 20 }, [])
theorem yg_World_fact : YG (m_World_fact) := (at_gw 1103 (by decide +kernel) rfl)
theorem ct_World_fact {X : Cx} {a0 : Nat} {a1 : Nat} {a2 : Int32} {a3 : Int32} {M : Mem} {r : Int32} (hE : F_World_fact a0 a1 a2 a3 M = some r) : Ct X m_World_fact [.ref a0, .ref a1, .int a2, .int a3] M ((oI M) r) := by
  have xR : ∀ v : Int32, r = v → r = v := fun _ q => q
  refine Ct.of (by decide +kernel) rfl rfl ?_
  unfold F_World_fact at hE
  refine g_swm dX11_fact_0 sm_X11_106 ?_
  refine g_aload_n (r := a1) dX11_fact_3 rfl ?_
  replace hE := bd_s hE
  obtain ⟨v1, hv1, hE⟩ := hE
  refine g_callU (as := []) (rvs := [.int v1]) 0 0 dX11_fact_4 yg_ord ul_X11_111_X10 (ct_ord hv1) (RC.tok (tok_s hv1)) rfl rfl rfl (Nat.le_of_ble_eq_true rfl) rfl rfl rfl ?_
  replace hE := bd_s hE
  obtain ⟨v2, hv2, hE⟩ := hE
  refine g_swat dX11_fact_7 hv2 ?_
  by_cases q3 : v2 = (1 : Int32)
  · replace hE := ife_p q3 hE
    refine g_tabIn 140 dX11_fact_8 (by rw [q3]; decide) (by rw [q3]; decide) (by rw [q3]; rfl) (by decide) ?_
    refine g_iload_n (x := a3) dX11_fact_140 rfl ?_
    rw [xR a3 (Option.some.inj hE).symm]
    exact g_iret dX11_fact_141 rfl rfl
  replace hE := ife_n q3 hE
  by_cases q4 : v2 = (13 : Int32)
  · replace hE := ife_p q4 hE
    refine g_tabIn 142 dX11_fact_8 (by rw [q4]; decide) (by rw [q4]; decide) (by rw [q4]; rfl) (by decide) ?_
    refine g_aload_n (r := a0) dX11_fact_142 rfl ?_
    replace hE := bd_s hE
    obtain ⟨v33, hv33, hE⟩ := hE
    refine g_fR dX11_fact_143 fl_X11_15_7 rfl hv33 ?_
    refine g_iload_n (x := a3) dX11_fact_146 rfl ?_
    replace hE := bd_s hE
    obtain ⟨v34, hv34, hE⟩ := hE
    refine g_aI dX11_fact_147 hv34 ?_
    rw [xR v34 (Option.some.inj hE).symm]
    exact g_iret dX11_fact_148 rfl rfl
  replace hE := ife_n q4 hE
  by_cases q5 : v2 = (14 : Int32)
  · replace hE := ife_p q5 hE
    refine g_tabIn 149 dX11_fact_8 (by rw [q5]; decide) (by rw [q5]; decide) (by rw [q5]; rfl) (by decide) ?_
    refine g_aload_n (r := a0) dX11_fact_149 rfl ?_
    replace hE := bd_s hE
    obtain ⟨v35, hv35, hE⟩ := hE
    refine g_fR dX11_fact_150 fl_X11_19_7 rfl hv35 ?_
    refine g_iload_n (x := a3) dX11_fact_153 rfl ?_
    replace hE := bd_s hE
    obtain ⟨v36, hv36, hE⟩ := hE
    refine g_aI dX11_fact_154 hv36 ?_
    rw [xR v36 (Option.some.inj hE).symm]
    exact g_iret dX11_fact_155 rfl rfl
  replace hE := ife_n q5 hE
  by_cases q6 : v2 = (15 : Int32)
  · replace hE := ife_p q6 hE
    refine g_tabIn 156 dX11_fact_8 (by rw [q6]; decide) (by rw [q6]; decide) (by rw [q6]; rfl) (by decide) ?_
    refine g_aload_n (r := a0) dX11_fact_156 rfl ?_
    replace hE := bd_s hE
    obtain ⟨v37, hv37, hE⟩ := hE
    refine g_fI dX11_fact_157 fl_X11_63_7 rfl hv37 ?_
    refine g_bipush (v := (7 : Int32)) dX11_fact_160 (by decide) ?_
    refine g_irem dX11_fact_162 (by decide) ?_
    rw [xR (v37 - v37 / (7 : Int32) * (7 : Int32)) (Option.some.inj hE).symm]
    exact g_iret dX11_fact_163 rfl rfl
  replace hE := ife_n q6 hE
  by_cases q7 : v2 = (16 : Int32)
  · replace hE := ife_p q7 hE
    refine g_tabIn 164 dX11_fact_8 (by rw [q7]; decide) (by rw [q7]; decide) (by rw [q7]; rfl) (by decide) ?_
    refine g_aload_n (r := a0) dX11_fact_164 rfl ?_
    replace hE := bd_s hE
    obtain ⟨v38, hv38, hE⟩ := hE
    refine g_fR dX11_fact_165 fl_X11_31_7 rfl hv38 ?_
    refine g_iload_n (x := a2) dX11_fact_168 rfl ?_
    replace hE := bd_s hE
    obtain ⟨v39, hv39, hE⟩ := hE
    refine g_aI dX11_fact_169 hv39 ?_
    rw [xR v39 (Option.some.inj hE).symm]
    exact g_iret dX11_fact_170 rfl rfl
  replace hE := ife_n q7 hE
  by_cases q8 : v2 = (17 : Int32)
  · replace hE := ife_p q8 hE
    refine g_tabIn 171 dX11_fact_8 (by rw [q8]; decide) (by rw [q8]; decide) (by rw [q8]; rfl) (by decide) ?_
    refine g_aload_n (r := a0) dX11_fact_171 rfl ?_
    replace hE := bd_s hE
    obtain ⟨v40, hv40, hE⟩ := hE
    refine g_fR dX11_fact_172 fl_X11_37_7 rfl hv40 ?_
    refine g_iload_n (x := a2) dX11_fact_175 rfl ?_
    replace hE := bd_s hE
    obtain ⟨v41, hv41, hE⟩ := hE
    refine g_aI dX11_fact_176 hv41 ?_
    replace hE := bd_s hE
    obtain ⟨v42, hv42, hE⟩ := hE
    refine g_callS (as := [.int v41]) (rvs := [.int v42]) 0 0 dX11_fact_177 yg_J_bitCount sl_X11_93 (ct_J_bitCount hv42) rfl rfl rfl (Nat.le_of_ble_eq_true rfl) rfl rfl rfl ?_
    rw [xR v42 (Option.some.inj hE).symm]
    exact g_iret dX11_fact_180 rfl rfl
  replace hE := ife_n q8 hE
  by_cases q9 : v2 = (18 : Int32)
  · replace hE := ife_p q9 hE
    refine g_tabIn 181 dX11_fact_8 (by rw [q9]; decide) (by rw [q9]; decide) (by rw [q9]; rfl) (by decide) ?_
    refine g_aload_n (r := a0) dX11_fact_181 rfl ?_
    replace hE := bd_s hE
    obtain ⟨v43, hv43, hE⟩ := hE
    refine g_fR dX11_fact_182 fl_X11_34_7 rfl hv43 ?_
    refine g_iload_n (x := a2) dX11_fact_185 rfl ?_
    replace hE := bd_s hE
    obtain ⟨v44, hv44, hE⟩ := hE
    refine g_aI dX11_fact_186 hv44 ?_
    rw [xR v44 (Option.some.inj hE).symm]
    exact g_iret dX11_fact_187 rfl rfl
  replace hE := ife_n q9 hE
  by_cases q10 : v2 = (29 : Int32)
  · replace hE := ife_p q10 hE
    refine g_tabIn 188 dX11_fact_8 (by rw [q10]; decide) (by rw [q10]; decide) (by rw [q10]; rfl) (by decide) ?_
    refine g_aload_n (r := a0) dX11_fact_188 rfl ?_
    replace hE := bd_s hE
    obtain ⟨v45, hv45, hE⟩ := hE
    refine g_fI dX11_fact_189 fl_X11_63_7 rfl hv45 ?_
    refine g_bipush (v := (7 : Int32)) dX11_fact_192 (by decide) ?_
    refine g_irem dX11_fact_194 (by decide) ?_
    refine g_if_ne 202 dX11_fact_195 (by decide) (fun q46 => ?_) (fun q46 => ?_)
    · replace hE := ife_n q46 hE
      refine g_iconst (v := (0 : Int32)) dX11_fact_202 (by decide) ?_
      rw [xR (0 : Int32) (Option.some.inj hE).symm]
      exact g_iret dX11_fact_203 rfl rfl
    replace hE := ife_p q46 hE
    refine g_iconst (v := (1 : Int32)) dX11_fact_198 (by decide) ?_
    refine g_goto 203 dX11_fact_199 (by decide) ?_
    rw [xR (1 : Int32) (Option.some.inj hE).symm]
    exact g_iret dX11_fact_203 rfl rfl
  replace hE := ife_n q10 hE
  have x32 : G X m_World_fact (endP X m_World_fact ((oI M) r)) 204 [.ref a0, .ref a1, .int a2, .int a3] [] 0 0 M := by
    refine g_iconst (v := (0 : Int32)) dX11_fact_204 (by decide) ?_
    rw [xR (0 : Int32) (Option.some.inj hE).symm]
    exact g_iret dX11_fact_205 rfl rfl
  by_cases q11 : v2 = (2 : Int32)
  · refine g_tabIn 204 dX11_fact_8 (by rw [q11]; decide) (by rw [q11]; decide) (by rw [q11]; rfl) (by decide) ?_
    exact x32
  by_cases q12 : v2 = (3 : Int32)
  · refine g_tabIn 204 dX11_fact_8 (by rw [q12]; decide) (by rw [q12]; decide) (by rw [q12]; rfl) (by decide) ?_
    exact x32
  by_cases q13 : v2 = (4 : Int32)
  · refine g_tabIn 204 dX11_fact_8 (by rw [q13]; decide) (by rw [q13]; decide) (by rw [q13]; rfl) (by decide) ?_
    exact x32
  by_cases q14 : v2 = (5 : Int32)
  · refine g_tabIn 204 dX11_fact_8 (by rw [q14]; decide) (by rw [q14]; decide) (by rw [q14]; rfl) (by decide) ?_
    exact x32
  by_cases q15 : v2 = (6 : Int32)
  · refine g_tabIn 204 dX11_fact_8 (by rw [q15]; decide) (by rw [q15]; decide) (by rw [q15]; rfl) (by decide) ?_
    exact x32
  by_cases q16 : v2 = (7 : Int32)
  · refine g_tabIn 204 dX11_fact_8 (by rw [q16]; decide) (by rw [q16]; decide) (by rw [q16]; rfl) (by decide) ?_
    exact x32
  by_cases q17 : v2 = (8 : Int32)
  · refine g_tabIn 204 dX11_fact_8 (by rw [q17]; decide) (by rw [q17]; decide) (by rw [q17]; rfl) (by decide) ?_
    exact x32
  by_cases q18 : v2 = (9 : Int32)
  · refine g_tabIn 204 dX11_fact_8 (by rw [q18]; decide) (by rw [q18]; decide) (by rw [q18]; rfl) (by decide) ?_
    exact x32
  by_cases q19 : v2 = (10 : Int32)
  · refine g_tabIn 204 dX11_fact_8 (by rw [q19]; decide) (by rw [q19]; decide) (by rw [q19]; rfl) (by decide) ?_
    exact x32
  by_cases q20 : v2 = (11 : Int32)
  · refine g_tabIn 204 dX11_fact_8 (by rw [q20]; decide) (by rw [q20]; decide) (by rw [q20]; rfl) (by decide) ?_
    exact x32
  by_cases q21 : v2 = (12 : Int32)
  · refine g_tabIn 204 dX11_fact_8 (by rw [q21]; decide) (by rw [q21]; decide) (by rw [q21]; rfl) (by decide) ?_
    exact x32
  by_cases q22 : v2 = (19 : Int32)
  · refine g_tabIn 204 dX11_fact_8 (by rw [q22]; decide) (by rw [q22]; decide) (by rw [q22]; rfl) (by decide) ?_
    exact x32
  by_cases q23 : v2 = (20 : Int32)
  · refine g_tabIn 204 dX11_fact_8 (by rw [q23]; decide) (by rw [q23]; decide) (by rw [q23]; rfl) (by decide) ?_
    exact x32
  by_cases q24 : v2 = (21 : Int32)
  · refine g_tabIn 204 dX11_fact_8 (by rw [q24]; decide) (by rw [q24]; decide) (by rw [q24]; rfl) (by decide) ?_
    exact x32
  by_cases q25 : v2 = (22 : Int32)
  · refine g_tabIn 204 dX11_fact_8 (by rw [q25]; decide) (by rw [q25]; decide) (by rw [q25]; rfl) (by decide) ?_
    exact x32
  by_cases q26 : v2 = (23 : Int32)
  · refine g_tabIn 204 dX11_fact_8 (by rw [q26]; decide) (by rw [q26]; decide) (by rw [q26]; rfl) (by decide) ?_
    exact x32
  by_cases q27 : v2 = (24 : Int32)
  · refine g_tabIn 204 dX11_fact_8 (by rw [q27]; decide) (by rw [q27]; decide) (by rw [q27]; rfl) (by decide) ?_
    exact x32
  by_cases q28 : v2 = (25 : Int32)
  · refine g_tabIn 204 dX11_fact_8 (by rw [q28]; decide) (by rw [q28]; decide) (by rw [q28]; rfl) (by decide) ?_
    exact x32
  by_cases q29 : v2 = (26 : Int32)
  · refine g_tabIn 204 dX11_fact_8 (by rw [q29]; decide) (by rw [q29]; decide) (by rw [q29]; rfl) (by decide) ?_
    exact x32
  by_cases q30 : v2 = (27 : Int32)
  · refine g_tabIn 204 dX11_fact_8 (by rw [q30]; decide) (by rw [q30]; decide) (by rw [q30]; rfl) (by decide) ?_
    exact x32
  by_cases q31 : v2 = (28 : Int32)
  · refine g_tabIn 204 dX11_fact_8 (by rw [q31]; decide) (by rw [q31]; decide) (by rw [q31]; rfl) (by decide) ?_
    exact x32
  replace q3 := ti_ne (1 : Int32) (1) (by decide) q3
  replace q4 := ti_ne (13 : Int32) (13) (by decide) q4
  replace q5 := ti_ne (14 : Int32) (14) (by decide) q5
  replace q6 := ti_ne (15 : Int32) (15) (by decide) q6
  replace q7 := ti_ne (16 : Int32) (16) (by decide) q7
  replace q8 := ti_ne (17 : Int32) (17) (by decide) q8
  replace q9 := ti_ne (18 : Int32) (18) (by decide) q9
  replace q10 := ti_ne (29 : Int32) (29) (by decide) q10
  replace q11 := ti_ne (2 : Int32) (2) (by decide) q11
  replace q12 := ti_ne (3 : Int32) (3) (by decide) q12
  replace q13 := ti_ne (4 : Int32) (4) (by decide) q13
  replace q14 := ti_ne (5 : Int32) (5) (by decide) q14
  replace q15 := ti_ne (6 : Int32) (6) (by decide) q15
  replace q16 := ti_ne (7 : Int32) (7) (by decide) q16
  replace q17 := ti_ne (8 : Int32) (8) (by decide) q17
  replace q18 := ti_ne (9 : Int32) (9) (by decide) q18
  replace q19 := ti_ne (10 : Int32) (10) (by decide) q19
  replace q20 := ti_ne (11 : Int32) (11) (by decide) q20
  replace q21 := ti_ne (12 : Int32) (12) (by decide) q21
  replace q22 := ti_ne (19 : Int32) (19) (by decide) q22
  replace q23 := ti_ne (20 : Int32) (20) (by decide) q23
  replace q24 := ti_ne (21 : Int32) (21) (by decide) q24
  replace q25 := ti_ne (22 : Int32) (22) (by decide) q25
  replace q26 := ti_ne (23 : Int32) (23) (by decide) q26
  replace q27 := ti_ne (24 : Int32) (24) (by decide) q27
  replace q28 := ti_ne (25 : Int32) (25) (by decide) q28
  replace q29 := ti_ne (26 : Int32) (26) (by decide) q29
  replace q30 := ti_ne (27 : Int32) (27) (by decide) q30
  replace q31 := ti_ne (28 : Int32) (28) (by decide) q31
  refine g_tabOut 204 dX11_fact_8 (by omega) (by decide) ?_
  exact x32
theorem dX3_burden_0 : decode cX3_burden 0 = .ok (.iconst 0, 1) := by decide +kernel
theorem dX3_burden_1 : decode cX3_burden 1 = .ok (.istore 4, 2) := by decide +kernel
theorem dX3_burden_3 : decode cX3_burden 3 = .ok (.iconst 0, 1) := by decide +kernel
theorem dX3_burden_4 : decode cX3_burden 4 = .ok (.istore 5, 2) := by decide +kernel
theorem dX3_burden_6 : decode cX3_burden 6 = .ok (.aload_n 0, 1) := by decide +kernel
theorem dX3_burden_7 : decode cX3_burden 7 = .ok (.iconst 0, 1) := by decide +kernel
theorem dX3_burden_8 : decode cX3_burden 8 = .ok (.putfield 15, 3) := by decide +kernel
theorem dX3_burden_11 : decode cX3_burden 11 = .ok (.iconst 0, 1) := by decide +kernel
theorem dX3_burden_12 : decode cX3_burden 12 = .ok (.istore 6, 2) := by decide +kernel
theorem dX3_burden_14 : decode cX3_burden 14 = .ok (.iload 6, 2) := by decide +kernel
theorem dX3_burden_16 : decode cX3_burden 16 = .ok (.aload_n 0, 1) := by decide +kernel
theorem dX3_burden_17 : decode cX3_burden 17 = .ok (.getfield 33, 3) := by decide +kernel
theorem dX3_burden_20 : decode cX3_burden 20 = .ok (.arraylength, 1) := by decide +kernel
theorem dX3_burden_21 : decode cX3_burden 21 = .ok (.if_icmp .ge 208, 3) := by decide +kernel
theorem dX3_burden_24 : decode cX3_burden 24 = .ok (.getstatic 40, 3) := by decide +kernel
theorem dX3_burden_27 : decode cX3_burden 27 = .ok (.aload_n 0, 1) := by decide +kernel
theorem dX3_burden_28 : decode cX3_burden 28 = .ok (.getfield 33, 3) := by decide +kernel
theorem dX3_burden_31 : decode cX3_burden 31 = .ok (.iload 6, 2) := by decide +kernel
theorem dX3_burden_33 : decode cX3_burden 33 = .ok (.aaload, 1) := by decide +kernel
theorem dX3_burden_34 : decode cX3_burden 34 = .ok (.invokevirtual 45, 3) := by decide +kernel
theorem dX3_burden_37 : decode cX3_burden 37 = .ok (.iaload, 1) := by decide +kernel
theorem dX3_burden_38 : decode cX3_burden 38 = .ok (.tableswitch 168 19 28 #[54, 81, 104, 118, 126, 139, 139, 139, 139, 139], 54) := by decide +kernel
theorem dX3_burden_92 : decode cX3_burden 92 = .ok (.iload 4, 2) := by decide +kernel
theorem dX3_burden_94 : decode cX3_burden 94 = .ok (.aload_n 0, 1) := by decide +kernel
theorem dX3_burden_95 : decode cX3_burden 95 = .ok (.invokevirtual 49, 3) := by decide +kernel
theorem dX3_burden_98 : decode cX3_burden 98 = .ok (.iconst 1, 1) := by decide +kernel
theorem dX3_burden_99 : decode cX3_burden 99 = .ok (.if_icmp .ne 13, 3) := by decide +kernel
theorem dX3_burden_102 : decode cX3_burden 102 = .ok (.aload_n 0, 1) := by decide +kernel
theorem dX3_burden_103 : decode cX3_burden 103 = .ok (.getfield 37, 3) := by decide +kernel
theorem dX3_burden_106 : decode cX3_burden 106 = .ok (.iload 6, 2) := by decide +kernel
theorem dX3_burden_108 : decode cX3_burden 108 = .ok (.iaload, 1) := by decide +kernel
theorem dX3_burden_109 : decode cX3_burden 109 = .ok (.goto 4, 3) := by decide +kernel
theorem dX3_burden_112 : decode cX3_burden 112 = .ok (.iconst 0, 1) := by decide +kernel
theorem dX3_burden_113 : decode cX3_burden 113 = .ok (.iadd, 1) := by decide +kernel
theorem dX3_burden_114 : decode cX3_burden 114 = .ok (.istore 4, 2) := by decide +kernel
theorem dX3_burden_116 : decode cX3_burden 116 = .ok (.goto 107, 3) := by decide +kernel
theorem dX3_burden_119 : decode cX3_burden 119 = .ok (.aload_n 0, 1) := by decide +kernel
theorem dX3_burden_120 : decode cX3_burden 120 = .ok (.invokevirtual 49, 3) := by decide +kernel
theorem dX3_burden_123 : decode cX3_burden 123 = .ok (.iconst 1, 1) := by decide +kernel
theorem dX3_burden_124 : decode cX3_burden 124 = .ok (.if_icmp .eq 8, 3) := by decide +kernel
theorem dX3_burden_127 : decode cX3_burden 127 = .ok (.iload 5, 2) := by decide +kernel
theorem dX3_burden_129 : decode cX3_burden 129 = .ok (.ifCond .eq 7, 3) := by decide +kernel
theorem dX3_burden_132 : decode cX3_burden 132 = .ok (.iconst 1, 1) := by decide +kernel
theorem dX3_burden_133 : decode cX3_burden 133 = .ok (.goto 4, 3) := by decide +kernel
theorem dX3_burden_136 : decode cX3_burden 136 = .ok (.iconst 0, 1) := by decide +kernel
theorem dX3_burden_137 : decode cX3_burden 137 = .ok (.istore 5, 2) := by decide +kernel
theorem dX3_burden_139 : decode cX3_burden 139 = .ok (.goto 84, 3) := by decide +kernel
theorem dX3_burden_142 : decode cX3_burden 142 = .ok (.aload_n 0, 1) := by decide +kernel
theorem dX3_burden_143 : decode cX3_burden 143 = .ok (.aload_n 0, 1) := by decide +kernel
theorem dX3_burden_144 : decode cX3_burden 144 = .ok (.getfield 37, 3) := by decide +kernel
theorem dX3_burden_147 : decode cX3_burden 147 = .ok (.iload 6, 2) := by decide +kernel
theorem dX3_burden_149 : decode cX3_burden 149 = .ok (.iaload, 1) := by decide +kernel
theorem dX3_burden_150 : decode cX3_burden 150 = .ok (.invokevirtual 52, 3) := by decide +kernel
theorem dX3_burden_153 : decode cX3_burden 153 = .ok (.goto 70, 3) := by decide +kernel
theorem dX3_burden_156 : decode cX3_burden 156 = .ok (.aload_n 0, 1) := by decide +kernel
theorem dX3_burden_157 : decode cX3_burden 157 = .ok (.iconst 1, 1) := by decide +kernel
theorem dX3_burden_158 : decode cX3_burden 158 = .ok (.invokevirtual 52, 3) := by decide +kernel
theorem dX3_burden_161 : decode cX3_burden 161 = .ok (.goto 62, 3) := by decide +kernel
theorem dX3_burden_164 : decode cX3_burden 164 = .ok (.aload_n 0, 1) := by decide +kernel
theorem dX3_burden_165 : decode cX3_burden 165 = .ok (.iconst 1, 1) := by decide +kernel
theorem dX3_burden_166 : decode cX3_burden 166 = .ok (.aload_n 0, 1) := by decide +kernel
theorem dX3_burden_167 : decode cX3_burden 167 = .ok (.invokevirtual 49, 3) := by decide +kernel
theorem dX3_burden_170 : decode cX3_burden 170 = .ok (.isub, 1) := by decide +kernel
theorem dX3_burden_171 : decode cX3_burden 171 = .ok (.invokevirtual 52, 3) := by decide +kernel
theorem dX3_burden_174 : decode cX3_burden 174 = .ok (.goto 49, 3) := by decide +kernel
theorem dX3_burden_177 : decode cX3_burden 177 = .ok (.aload_n 0, 1) := by decide +kernel
theorem dX3_burden_178 : decode cX3_burden 178 = .ok (.invokevirtual 49, 3) := by decide +kernel
theorem dX3_burden_181 : decode cX3_burden 181 = .ok (.istore 7, 2) := by decide +kernel
theorem dX3_burden_183 : decode cX3_burden 183 = .ok (.aload_n 0, 1) := by decide +kernel
theorem dX3_burden_184 : decode cX3_burden 184 = .ok (.aload_n 0, 1) := by decide +kernel
theorem dX3_burden_185 : decode cX3_burden 185 = .ok (.getfield 33, 3) := by decide +kernel
theorem dX3_burden_188 : decode cX3_burden 188 = .ok (.iload 6, 2) := by decide +kernel
theorem dX3_burden_190 : decode cX3_burden 190 = .ok (.aaload, 1) := by decide +kernel
theorem dX3_burden_191 : decode cX3_burden 191 = .ok (.aload_n 0, 1) := by decide +kernel
theorem dX3_burden_192 : decode cX3_burden 192 = .ok (.invokevirtual 49, 3) := by decide +kernel
theorem dX3_burden_195 : decode cX3_burden 195 = .ok (.iload 7, 2) := by decide +kernel
theorem dX3_burden_197 : decode cX3_burden 197 = .ok (.invokestatic 56, 3) := by decide +kernel
theorem dX3_burden_200 : decode cX3_burden 200 = .ok (.invokevirtual 52, 3) := by decide +kernel
theorem dX3_burden_203 : decode cX3_burden 203 = .ok (.goto 20, 3) := by decide +kernel
theorem dX3_burden_206 : decode cX3_burden 206 = .ok (.aload_n 0, 1) := by decide +kernel
theorem dX3_burden_207 : decode cX3_burden 207 = .ok (.aload_n 1, 1) := by decide +kernel
theorem dX3_burden_208 : decode cX3_burden 208 = .ok (.aload_n 0, 1) := by decide +kernel
theorem dX3_burden_209 : decode cX3_burden 209 = .ok (.getfield 33, 3) := by decide +kernel
theorem dX3_burden_212 : decode cX3_burden 212 = .ok (.iload 6, 2) := by decide +kernel
theorem dX3_burden_214 : decode cX3_burden 214 = .ok (.aaload, 1) := by decide +kernel
theorem dX3_burden_215 : decode cX3_burden 215 = .ok (.iload_n 2, 1) := by decide +kernel
theorem dX3_burden_216 : decode cX3_burden 216 = .ok (.iload_n 3, 1) := by decide +kernel
theorem dX3_burden_217 : decode cX3_burden 217 = .ok (.invokevirtual 60, 3) := by decide +kernel
theorem dX3_burden_220 : decode cX3_burden 220 = .ok (.invokevirtual 52, 3) := by decide +kernel
theorem dX3_burden_223 : decode cX3_burden 223 = .ok (.iinc 6 1, 3) := by decide +kernel
theorem dX3_burden_226 : decode cX3_burden 226 = .ok (.goto (-212), 3) := by decide +kernel
theorem dX3_burden_229 : decode cX3_burden 229 = .ok (.iload 5, 2) := by decide +kernel
theorem dX3_burden_231 : decode cX3_burden 231 = .ok (.ifCond .eq 7, 3) := by decide +kernel
theorem dX3_burden_234 : decode cX3_burden 234 = .ok (.iconst (-1), 1) := by decide +kernel
theorem dX3_burden_235 : decode cX3_burden 235 = .ok (.goto 5, 3) := by decide +kernel
theorem dX3_burden_238 : decode cX3_burden 238 = .ok (.iload 4, 2) := by decide +kernel
theorem dX3_burden_240 : decode cX3_burden 240 = .ok (.ireturn, 1) := by decide +kernel
def F_Law_burden (a0 : Nat) (a1 : Nat) (a2 : Int32) (a3 : Int32) (M : Mem) : Option (Int32 × Mem) := (sI M a0 12 4 (0 : Int32)).bind fun m1 => (loopN LIM (fun s2 : Int32 × Int32 × Int32 × Mem => (fR s2.2.2.2 a0 12 1).bind fun v3 => (aN s2.2.2.2 v3).bind fun v4 => if v4 ≤ s2.2.2.1 then (some (.inr ((s2.1, s2.2.1, s2.2.2.2)))) else ((fR s2.2.2.2 a0 12 1).bind fun v6 => (aR s2.2.2.2 v6 4 s2.2.2.1).bind fun v7 => (tOrd v7).bind fun v8 => (swI v8).bind fun v9 => if v9 = (19 : Int32) then ((F_Law_pop a0 s2.2.2.2).bind fun v21 => (if v21.1 = (1 : Int32) then ((fR v21.2 a0 12 2).bind fun v23 => (aI v21.2 v23 s2.2.2.1).bind fun v24 => some (v24)) else (some (0 : Int32)) : Option (Int32)).bind fun s25 => some (.inl ((s2.1 + s25), s2.2.1, (s2.2.2.1 + (1 : Int32)), v21.2))) else if v9 = (20 : Int32) then ((F_Law_pop a0 s2.2.2.2).bind fun v26 => ((if v26.1 = (1 : Int32) then (some true) else (if s2.2.1 = 0 then (some false) else (some true)) : Option Bool).bind fun b28 => if b28 = true then (some (1 : Int32)) else (some (0 : Int32)) : Option (Int32)).bind fun s30 => some (.inl (s2.1, s30, (s2.2.2.1 + (1 : Int32)), v26.2))) else if v9 = (21 : Int32) then ((fR s2.2.2.2 a0 12 2).bind fun v31 => (aI s2.2.2.2 v31 s2.2.2.1).bind fun v32 => (F_Law_push a0 v32 s2.2.2.2).bind fun v33 => some (.inl (s2.1, s2.2.1, (s2.2.2.1 + (1 : Int32)), v33))) else if v9 = (22 : Int32) then ((F_Law_push a0 (1 : Int32) s2.2.2.2).bind fun v34 => some (.inl (s2.1, s2.2.1, (s2.2.2.1 + (1 : Int32)), v34))) else if v9 = (23 : Int32) then ((F_Law_pop a0 s2.2.2.2).bind fun v35 => (ck (qS v35.2 a0 = 12)).bind fun h37 => (F_Law_push a0 ((1 : Int32) - v35.1) v35.2).bind fun v36 => some (.inl (s2.1, s2.2.1, (s2.2.2.1 + (1 : Int32)), v36))) else if v9 = (24 : Int32) then ((F_Law_pop a0 s2.2.2.2).bind fun v38 => (fR v38.2 a0 12 1).bind fun v39 => (aR v38.2 v39 4 s2.2.2.1).bind fun v40 => (F_Law_pop a0 v38.2).bind fun v41 => (F_Law_joined v40 v41.1 v38.1 v41.2).bind fun v42 => (ck (qS v41.2 a0 = 12)).bind fun h44 => (F_Law_push a0 v42 v41.2).bind fun v43 => some (.inl (s2.1, s2.2.1, (s2.2.2.1 + (1 : Int32)), v43))) else if v9 = (25 : Int32) then ((F_Law_pop a0 s2.2.2.2).bind fun v45 => (fR v45.2 a0 12 1).bind fun v46 => (aR v45.2 v46 4 s2.2.2.1).bind fun v47 => (F_Law_pop a0 v45.2).bind fun v48 => (F_Law_joined v47 v48.1 v45.1 v48.2).bind fun v49 => (ck (qS v48.2 a0 = 12)).bind fun h51 => (F_Law_push a0 v49 v48.2).bind fun v50 => some (.inl (s2.1, s2.2.1, (s2.2.2.1 + (1 : Int32)), v50))) else if v9 = (26 : Int32) then ((F_Law_pop a0 s2.2.2.2).bind fun v52 => (fR v52.2 a0 12 1).bind fun v53 => (aR v52.2 v53 4 s2.2.2.1).bind fun v54 => (F_Law_pop a0 v52.2).bind fun v55 => (F_Law_joined v54 v55.1 v52.1 v55.2).bind fun v56 => (ck (qS v55.2 a0 = 12)).bind fun h58 => (F_Law_push a0 v56 v55.2).bind fun v57 => some (.inl (s2.1, s2.2.1, (s2.2.2.1 + (1 : Int32)), v57))) else if v9 = (27 : Int32) then ((F_Law_pop a0 s2.2.2.2).bind fun v59 => (fR v59.2 a0 12 1).bind fun v60 => (aR v59.2 v60 4 s2.2.2.1).bind fun v61 => (F_Law_pop a0 v59.2).bind fun v62 => (F_Law_joined v61 v62.1 v59.1 v62.2).bind fun v63 => (ck (qS v62.2 a0 = 12)).bind fun h65 => (F_Law_push a0 v63 v62.2).bind fun v64 => some (.inl (s2.1, s2.2.1, (s2.2.2.1 + (1 : Int32)), v64))) else if v9 = (28 : Int32) then ((F_Law_pop a0 s2.2.2.2).bind fun v66 => (fR v66.2 a0 12 1).bind fun v67 => (aR v66.2 v67 4 s2.2.2.1).bind fun v68 => (F_Law_pop a0 v66.2).bind fun v69 => (F_Law_joined v68 v69.1 v66.1 v69.2).bind fun v70 => (ck (qS v69.2 a0 = 12)).bind fun h72 => (F_Law_push a0 v70 v69.2).bind fun v71 => some (.inl (s2.1, s2.2.1, (s2.2.2.1 + (1 : Int32)), v71))) else ((fR s2.2.2.2 a0 12 1).bind fun v73 => (aR s2.2.2.2 v73 4 s2.2.2.1).bind fun v74 => (ck (qS s2.2.2.2 a1 = 17)).bind fun h76 => (F_World_fact a1 v74 a2 a3 s2.2.2.2).bind fun v75 => (F_Law_push a0 v75 s2.2.2.2).bind fun v77 => some (.inl (s2.1, s2.2.1, (s2.2.2.1 + (1 : Int32)), v77))))) ((0 : Int32), (0 : Int32), (0 : Int32), m1) : Option (Int32 × Int32 × Mem)).bind fun s78 => if s78.2.1 = 0 then (some (s78.1, s78.2.2)) else (some ((-1 : Int32), s78.2.2))
def m_Law_burden : My := (yX3_burden, cX3_burden, 8, some .int, { frames := 2, cells := 0, slots := 0, locals := 43 }, [])
theorem yg_Law_burden : YG (m_Law_burden) := (at_gw 1088 (by decide +kernel) rfl)
theorem ct_Law_burden {X : Cx} {a0 : Nat} {a1 : Nat} {a2 : Int32} {a3 : Int32} {M : Mem} {r : Int32 × Mem} (hE : F_Law_burden a0 a1 a2 a3 M = some r) : Ct X m_Law_burden [.ref a0, .ref a1, .int a2, .int a3] M (oIM r) := by
  have xR : ∀ v : Int32 × Mem, r = v → r = v := fun _ q => q
  refine Ct.of (by decide +kernel) rfl rfl ?_
  unfold F_Law_burden at hE
  refine g_iconst (v := (0 : Int32)) dX3_burden_0 (by decide) ?_
  refine g_istore dX3_burden_1 rfl ?_
  refine g_iconst (v := (0 : Int32)) dX3_burden_3 (by decide) ?_
  refine g_istore dX3_burden_4 rfl ?_
  refine g_aload_n (r := a0) dX3_burden_6 rfl ?_
  refine g_iconst (v := (0 : Int32)) dX3_burden_7 (by decide) ?_
  replace hE := bd_s hE
  obtain ⟨m1, hm1, hE⟩ := hE
  refine g_sI dX3_burden_8 fl_X3_15_2w (by decide) hm1 ?_
  refine g_iconst (v := (0 : Int32)) dX3_burden_11 (by decide) ?_
  refine g_istore dX3_burden_12 rfl ?_
  replace hE := bd_s2 hE
  obtain ⟨e1, hE, hm1⟩ := hE
  have x1 : ∀ s78 : Int32 × Int32 × Mem, e1 = s78 → G X m_Law_burden (endP X m_Law_burden (oIM r)) 229 [.retAddr 0, .retAddr 0, .retAddr 0, .retAddr 0, .int s78.1, .int s78.2.1, .retAddr 0, .retAddr 0] [] 0 0 s78.2.2 := by
    intro s78 q
    replace hE := hm1 s78 q
    clear hm1
    refine g_iload (x := s78.2.1) dX3_burden_229 rfl ?_
    refine g_if_eq 238 dX3_burden_231 (by decide) (fun q79 => ?_) (fun q79 => ?_)
    · replace hE := ife_p q79 hE
      refine g_iload (x := s78.1) dX3_burden_238 rfl ?_
      rw [xR (s78.1, s78.2.2) (Option.some.inj hE).symm]
      exact g_iret dX3_burden_240 rfl rfl
    replace hE := ife_n q79 hE
    refine g_iconst (v := (-1 : Int32)) dX3_burden_234 (by decide) ?_
    refine g_goto 240 dX3_burden_235 (by decide) ?_
    rw [xR ((-1 : Int32), s78.2.2) (Option.some.inj hE).symm]
    exact g_iret dX3_burden_240 rfl rfl
  clear hm1
  have hq2 := fun st => lpi (fun s2 : Int32 × Int32 × Int32 × Mem => G X m_Law_burden (endP X m_Law_burden (oIM r)) 14 [.ref a0, .ref a1, .int a2, .int a3, .int s2.1, .int s2.2.1, .int s2.2.2.1, .retAddr 0] [] 0 0 s2.2.2.2) st _ _ hE
  refine hq2 ?_
  clear hq2 hE
  intro s2 e2 hE hc2 ho2
  have y3 := fun (v : Int32 × Int32 × Mem) (q : e2 = .inr (v)) => x1 v (ho2 _ q).symm
  clear ho2
  refine g_iload (x := s2.2.2.1) dX3_burden_14 rfl ?_
  refine g_aload_n (r := a0) dX3_burden_16 rfl ?_
  replace hE := bd_s hE
  obtain ⟨v3, hv3, hE⟩ := hE
  refine g_fR dX3_burden_17 fl_X3_33_2 rfl hv3 ?_
  replace hE := bd_s hE
  obtain ⟨v4, hv4, hE⟩ := hE
  refine g_aN dX3_burden_20 hv4 ?_
  refine g_icmp_ge 229 dX3_burden_21 (by decide) (fun q5 => ?_) (fun q5 => ?_)
  · replace hE := ife_p q5 hE
    refine g_msk [false, false, false, false, true, true, false, false] ?_
    exact y3 (s2.1, s2.2.1, s2.2.2.2) (Option.some.inj hE).symm
  replace hE := ife_n q5 hE
  refine g_swm dX3_burden_24 sm_X3_40 ?_
  refine g_aload_n (r := a0) dX3_burden_27 rfl ?_
  replace hE := bd_s hE
  obtain ⟨v6, hv6, hE⟩ := hE
  refine g_fR dX3_burden_28 fl_X3_33_2 rfl hv6 ?_
  refine g_iload (x := s2.2.2.1) dX3_burden_31 rfl ?_
  replace hE := bd_s hE
  obtain ⟨v7, hv7, hE⟩ := hE
  refine g_aR dX3_burden_33 rfl hv7 ?_
  replace hE := bd_s hE
  obtain ⟨v8, hv8, hE⟩ := hE
  refine g_callU (as := []) (rvs := [.int v8]) 0 0 dX3_burden_34 yg_ord ul_X3_45_X10 (ct_ord hv8) (RC.tok (tok_s hv8)) rfl rfl rfl (Nat.le_of_ble_eq_true rfl) rfl rfl rfl ?_
  replace hE := bd_s hE
  obtain ⟨v9, hv9, hE⟩ := hE
  refine g_swat dX3_burden_37 hv9 ?_
  by_cases q10 : v9 = (19 : Int32)
  · replace hE := ife_p q10 hE
    refine g_tabIn 92 dX3_burden_38 (by rw [q10]; decide) (by rw [q10]; decide) (by rw [q10]; rfl) (by decide) ?_
    refine g_iload (x := s2.1) dX3_burden_92 rfl ?_
    refine g_aload_n (r := a0) dX3_burden_94 rfl ?_
    replace hE := bd_s hE
    obtain ⟨v21, hv21, hE⟩ := hE
    refine g_callV (as := []) (rvs := [.int v21.1]) 0 0 dX3_burden_95 yg_Law_pop vl_X3_49 (ct_Law_pop hv21) (RC.obj (fR_s hv3).1 (by decide) cl_2.1) rfl rfl rfl (Nat.le_of_ble_eq_true rfl) rfl rfl rfl ?_
    refine g_iconst (v := (1 : Int32)) dX3_burden_98 (by decide) ?_
    replace hE := bd_s2 hE
    obtain ⟨e4, hE, hm4⟩ := hE
    have x4 : ∀ s25 : Int32, e4 = s25 → G X m_Law_burden (endP X m_Law_burden (oIM r)) 113 [.ref a0, .ref a1, .int a2, .int a3, .retAddr 0, .int s2.2.1, .int s2.2.2.1, .retAddr 0] [.int s25, .int s2.1] 0 0 v21.2 := by
      intro s25 q
      replace hE := hm4 s25 q
      clear hm4
      refine g_iadd dX3_burden_113 ?_
      refine g_istore dX3_burden_114 rfl ?_
      refine g_goto 223 dX3_burden_116 (by decide) ?_
      refine g_iinc (s2.2.2.1 + (1 : Int32)) dX3_burden_223 rfl (iinc_e (by decide)) rfl ?_
      refine g_goto 14 dX3_burden_226 (by decide) ?_
      exact hc2 ((s2.1 + s25), s2.2.1, (s2.2.2.1 + (1 : Int32)), v21.2) (Option.some.inj hE).symm
    clear hm4
    refine g_icmp_ne 112 dX3_burden_99 (by decide) (fun q22 => ?_) (fun q22 => ?_)
    · replace hE := ife_n q22 hE
      refine g_iconst (v := (0 : Int32)) dX3_burden_112 (by decide) ?_
      refine g_msk [true, true, true, true, false, true, true, false] ?_
      exact x4 (0 : Int32) (Option.some.inj hE).symm
    replace hE := ife_p q22 hE
    refine g_aload_n (r := a0) dX3_burden_102 rfl ?_
    replace hE := bd_s hE
    obtain ⟨v23, hv23, hE⟩ := hE
    refine g_fR dX3_burden_103 fl_X3_37_2 rfl hv23 ?_
    refine g_iload (x := s2.2.2.1) dX3_burden_106 rfl ?_
    replace hE := bd_s hE
    obtain ⟨v24, hv24, hE⟩ := hE
    refine g_aI dX3_burden_108 hv24 ?_
    refine g_goto 113 dX3_burden_109 (by decide) ?_
    refine g_msk [true, true, true, true, false, true, true, false] ?_
    exact x4 v24 (Option.some.inj hE).symm
  replace hE := ife_n q10 hE
  by_cases q11 : v9 = (20 : Int32)
  · replace hE := ife_p q11 hE
    refine g_tabIn 119 dX3_burden_38 (by rw [q11]; decide) (by rw [q11]; decide) (by rw [q11]; rfl) (by decide) ?_
    refine g_aload_n (r := a0) dX3_burden_119 rfl ?_
    replace hE := bd_s hE
    obtain ⟨v26, hv26, hE⟩ := hE
    refine g_callV (as := []) (rvs := [.int v26.1]) 0 0 dX3_burden_120 yg_Law_pop vl_X3_49 (ct_Law_pop hv26) (RC.obj (fR_s hv3).1 (by decide) cl_2.1) rfl rfl rfl (Nat.le_of_ble_eq_true rfl) rfl rfl rfl ?_
    refine g_iconst (v := (1 : Int32)) dX3_burden_123 (by decide) ?_
    replace hE := bd_s2 hE
    obtain ⟨e5, hE, hm5⟩ := hE
    have x5 : ∀ s30 : Int32, e5 = s30 → G X m_Law_burden (endP X m_Law_burden (oIM r)) 137 [.ref a0, .ref a1, .int a2, .int a3, .int s2.1, .retAddr 0, .int s2.2.2.1, .retAddr 0] [.int s30] 0 0 v26.2 := by
      intro s30 q
      replace hE := hm5 s30 q
      clear hm5
      refine g_istore dX3_burden_137 rfl ?_
      refine g_goto 223 dX3_burden_139 (by decide) ?_
      refine g_iinc (s2.2.2.1 + (1 : Int32)) dX3_burden_223 rfl (iinc_e (by decide)) rfl ?_
      refine g_goto 14 dX3_burden_226 (by decide) ?_
      exact hc2 (s2.1, s30, (s2.2.2.1 + (1 : Int32)), v26.2) (Option.some.inj hE).symm
    clear hm5
    replace hE := bd_s hE
    obtain ⟨b28, hE, hb6⟩ := hE
    have x6t : b28 = true → G X m_Law_burden (endP X m_Law_burden (oIM r)) 132 [.ref a0, .ref a1, .int a2, .int a3, .int s2.1, .int s2.2.1, .int s2.2.2.1, .retAddr 0] [] 0 0 v26.2 := by
      intro q
      replace hE := ifb_t q hb6
      refine g_iconst (v := (1 : Int32)) dX3_burden_132 (by decide) ?_
      refine g_goto 137 dX3_burden_133 (by decide) ?_
      refine g_msk [true, true, true, true, true, false, true, false] ?_
      exact x5 (1 : Int32) (Option.some.inj hE).symm
    have x6f : b28 = false → G X m_Law_burden (endP X m_Law_burden (oIM r)) 136 [.ref a0, .ref a1, .int a2, .int a3, .int s2.1, .int s2.2.1, .int s2.2.2.1, .retAddr 0] [] 0 0 v26.2 := by
      intro q
      replace hE := ifb_f q hb6
      refine g_iconst (v := (0 : Int32)) dX3_burden_136 (by decide) ?_
      refine g_msk [true, true, true, true, true, false, true, false] ?_
      exact x5 (0 : Int32) (Option.some.inj hE).symm
    clear hb6
    refine g_icmp_eq 132 dX3_burden_124 (by decide) (fun q27 => ?_) (fun q27 => ?_)
    · replace hE := ife_p q27 hE
      exact x6t (Option.some.inj hE).symm
    replace hE := ife_n q27 hE
    refine g_iload (x := s2.2.1) dX3_burden_127 rfl ?_
    refine g_if_eq 136 dX3_burden_129 (by decide) (fun q29 => ?_) (fun q29 => ?_)
    · replace hE := ife_p q29 hE
      exact x6f (Option.some.inj hE).symm
    replace hE := ife_n q29 hE
    exact x6t (Option.some.inj hE).symm
  replace hE := ife_n q11 hE
  by_cases q12 : v9 = (21 : Int32)
  · replace hE := ife_p q12 hE
    refine g_tabIn 142 dX3_burden_38 (by rw [q12]; decide) (by rw [q12]; decide) (by rw [q12]; rfl) (by decide) ?_
    refine g_aload_n (r := a0) dX3_burden_142 rfl ?_
    refine g_aload_n (r := a0) dX3_burden_143 rfl ?_
    replace hE := bd_s hE
    obtain ⟨v31, hv31, hE⟩ := hE
    refine g_fR dX3_burden_144 fl_X3_37_2 rfl hv31 ?_
    refine g_iload (x := s2.2.2.1) dX3_burden_147 rfl ?_
    replace hE := bd_s hE
    obtain ⟨v32, hv32, hE⟩ := hE
    refine g_aI dX3_burden_149 hv32 ?_
    replace hE := bd_s hE
    obtain ⟨v33, hv33, hE⟩ := hE
    refine g_callV (as := [.int v32]) (rvs := []) 0 0 dX3_burden_150 yg_Law_push vl_X3_52 (ct_Law_push hv33) (RC.obj (fR_s hv3).1 (by decide) cl_2.1) rfl rfl rfl (Nat.le_of_ble_eq_true rfl) rfl rfl rfl ?_
    refine g_goto 223 dX3_burden_153 (by decide) ?_
    refine g_iinc (s2.2.2.1 + (1 : Int32)) dX3_burden_223 rfl (iinc_e (by decide)) rfl ?_
    refine g_goto 14 dX3_burden_226 (by decide) ?_
    exact hc2 (s2.1, s2.2.1, (s2.2.2.1 + (1 : Int32)), v33) (Option.some.inj hE).symm
  replace hE := ife_n q12 hE
  by_cases q13 : v9 = (22 : Int32)
  · replace hE := ife_p q13 hE
    refine g_tabIn 156 dX3_burden_38 (by rw [q13]; decide) (by rw [q13]; decide) (by rw [q13]; rfl) (by decide) ?_
    refine g_aload_n (r := a0) dX3_burden_156 rfl ?_
    refine g_iconst (v := (1 : Int32)) dX3_burden_157 (by decide) ?_
    replace hE := bd_s hE
    obtain ⟨v34, hv34, hE⟩ := hE
    refine g_callV (as := [.int (1 : Int32)]) (rvs := []) 0 0 dX3_burden_158 yg_Law_push vl_X3_52 (ct_Law_push hv34) (RC.obj (fR_s hv3).1 (by decide) cl_2.1) rfl rfl rfl (Nat.le_of_ble_eq_true rfl) rfl rfl rfl ?_
    refine g_goto 223 dX3_burden_161 (by decide) ?_
    refine g_iinc (s2.2.2.1 + (1 : Int32)) dX3_burden_223 rfl (iinc_e (by decide)) rfl ?_
    refine g_goto 14 dX3_burden_226 (by decide) ?_
    exact hc2 (s2.1, s2.2.1, (s2.2.2.1 + (1 : Int32)), v34) (Option.some.inj hE).symm
  replace hE := ife_n q13 hE
  by_cases q14 : v9 = (23 : Int32)
  · replace hE := ife_p q14 hE
    refine g_tabIn 164 dX3_burden_38 (by rw [q14]; decide) (by rw [q14]; decide) (by rw [q14]; rfl) (by decide) ?_
    refine g_aload_n (r := a0) dX3_burden_164 rfl ?_
    refine g_iconst (v := (1 : Int32)) dX3_burden_165 (by decide) ?_
    refine g_aload_n (r := a0) dX3_burden_166 rfl ?_
    replace hE := bd_s hE
    obtain ⟨v35, hv35, hE⟩ := hE
    refine g_callV (as := []) (rvs := [.int v35.1]) 0 0 dX3_burden_167 yg_Law_pop vl_X3_49 (ct_Law_pop hv35) (RC.obj (fR_s hv3).1 (by decide) cl_2.1) rfl rfl rfl (Nat.le_of_ble_eq_true rfl) rfl rfl rfl ?_
    refine g_isub dX3_burden_170 ?_
    replace hE := bd_s hE
    obtain ⟨h37, hh37, hE⟩ := hE
    replace hh37 := ck_s hh37
    replace hE := bd_s hE
    obtain ⟨v36, hv36, hE⟩ := hE
    refine g_callV (as := [.int ((1 : Int32) - v35.1)]) (rvs := []) 0 0 dX3_burden_171 yg_Law_push vl_X3_52 (ct_Law_push hv36) (RC.obj hh37 (by decide) cl_2.1) rfl rfl rfl (Nat.le_of_ble_eq_true rfl) rfl rfl rfl ?_
    refine g_goto 223 dX3_burden_174 (by decide) ?_
    refine g_iinc (s2.2.2.1 + (1 : Int32)) dX3_burden_223 rfl (iinc_e (by decide)) rfl ?_
    refine g_goto 14 dX3_burden_226 (by decide) ?_
    exact hc2 (s2.1, s2.2.1, (s2.2.2.1 + (1 : Int32)), v36) (Option.some.inj hE).symm
  replace hE := ife_n q14 hE
  by_cases q15 : v9 = (24 : Int32)
  · replace hE := ife_p q15 hE
    refine g_tabIn 177 dX3_burden_38 (by rw [q15]; decide) (by rw [q15]; decide) (by rw [q15]; rfl) (by decide) ?_
    refine g_aload_n (r := a0) dX3_burden_177 rfl ?_
    replace hE := bd_s hE
    obtain ⟨v38, hv38, hE⟩ := hE
    refine g_callV (as := []) (rvs := [.int v38.1]) 0 0 dX3_burden_178 yg_Law_pop vl_X3_49 (ct_Law_pop hv38) (RC.obj (fR_s hv3).1 (by decide) cl_2.1) rfl rfl rfl (Nat.le_of_ble_eq_true rfl) rfl rfl rfl ?_
    refine g_istore dX3_burden_181 rfl ?_
    refine g_aload_n (r := a0) dX3_burden_183 rfl ?_
    refine g_aload_n (r := a0) dX3_burden_184 rfl ?_
    replace hE := bd_s hE
    obtain ⟨v39, hv39, hE⟩ := hE
    refine g_fR dX3_burden_185 fl_X3_33_2 rfl hv39 ?_
    refine g_iload (x := s2.2.2.1) dX3_burden_188 rfl ?_
    replace hE := bd_s hE
    obtain ⟨v40, hv40, hE⟩ := hE
    refine g_aR dX3_burden_190 rfl hv40 ?_
    refine g_aload_n (r := a0) dX3_burden_191 rfl ?_
    replace hE := bd_s hE
    obtain ⟨v41, hv41, hE⟩ := hE
    refine g_callV (as := []) (rvs := [.int v41.1]) 0 0 dX3_burden_192 yg_Law_pop vl_X3_49 (ct_Law_pop hv41) (RC.obj (fR_s hv39).1 (by decide) cl_2.1) rfl rfl rfl (Nat.le_of_ble_eq_true rfl) rfl rfl rfl ?_
    refine g_iload (x := v38.1) dX3_burden_195 rfl ?_
    replace hE := bd_s hE
    obtain ⟨v42, hv42, hE⟩ := hE
    refine g_callS (as := [.ref v40, .int v41.1, .int v38.1]) (rvs := [.int v42]) 0 0 dX3_burden_197 yg_Law_joined sl_X3_56 (ct_Law_joined hv42) rfl rfl rfl (Nat.le_of_ble_eq_true rfl) rfl rfl rfl ?_
    replace hE := bd_s hE
    obtain ⟨h44, hh44, hE⟩ := hE
    replace hh44 := ck_s hh44
    replace hE := bd_s hE
    obtain ⟨v43, hv43, hE⟩ := hE
    refine g_callV (as := [.int v42]) (rvs := []) 0 0 dX3_burden_200 yg_Law_push vl_X3_52 (ct_Law_push hv43) (RC.obj hh44 (by decide) cl_2.1) rfl rfl rfl (Nat.le_of_ble_eq_true rfl) rfl rfl rfl ?_
    refine g_goto 223 dX3_burden_203 (by decide) ?_
    refine g_iinc (s2.2.2.1 + (1 : Int32)) dX3_burden_223 rfl (iinc_e (by decide)) rfl ?_
    refine g_goto 14 dX3_burden_226 (by decide) ?_
    refine g_msk [true, true, true, true, true, true, true, false] ?_
    exact hc2 (s2.1, s2.2.1, (s2.2.2.1 + (1 : Int32)), v43) (Option.some.inj hE).symm
  replace hE := ife_n q15 hE
  by_cases q16 : v9 = (25 : Int32)
  · replace hE := ife_p q16 hE
    refine g_tabIn 177 dX3_burden_38 (by rw [q16]; decide) (by rw [q16]; decide) (by rw [q16]; rfl) (by decide) ?_
    refine g_aload_n (r := a0) dX3_burden_177 rfl ?_
    replace hE := bd_s hE
    obtain ⟨v45, hv45, hE⟩ := hE
    refine g_callV (as := []) (rvs := [.int v45.1]) 0 0 dX3_burden_178 yg_Law_pop vl_X3_49 (ct_Law_pop hv45) (RC.obj (fR_s hv3).1 (by decide) cl_2.1) rfl rfl rfl (Nat.le_of_ble_eq_true rfl) rfl rfl rfl ?_
    refine g_istore dX3_burden_181 rfl ?_
    refine g_aload_n (r := a0) dX3_burden_183 rfl ?_
    refine g_aload_n (r := a0) dX3_burden_184 rfl ?_
    replace hE := bd_s hE
    obtain ⟨v46, hv46, hE⟩ := hE
    refine g_fR dX3_burden_185 fl_X3_33_2 rfl hv46 ?_
    refine g_iload (x := s2.2.2.1) dX3_burden_188 rfl ?_
    replace hE := bd_s hE
    obtain ⟨v47, hv47, hE⟩ := hE
    refine g_aR dX3_burden_190 rfl hv47 ?_
    refine g_aload_n (r := a0) dX3_burden_191 rfl ?_
    replace hE := bd_s hE
    obtain ⟨v48, hv48, hE⟩ := hE
    refine g_callV (as := []) (rvs := [.int v48.1]) 0 0 dX3_burden_192 yg_Law_pop vl_X3_49 (ct_Law_pop hv48) (RC.obj (fR_s hv46).1 (by decide) cl_2.1) rfl rfl rfl (Nat.le_of_ble_eq_true rfl) rfl rfl rfl ?_
    refine g_iload (x := v45.1) dX3_burden_195 rfl ?_
    replace hE := bd_s hE
    obtain ⟨v49, hv49, hE⟩ := hE
    refine g_callS (as := [.ref v47, .int v48.1, .int v45.1]) (rvs := [.int v49]) 0 0 dX3_burden_197 yg_Law_joined sl_X3_56 (ct_Law_joined hv49) rfl rfl rfl (Nat.le_of_ble_eq_true rfl) rfl rfl rfl ?_
    replace hE := bd_s hE
    obtain ⟨h51, hh51, hE⟩ := hE
    replace hh51 := ck_s hh51
    replace hE := bd_s hE
    obtain ⟨v50, hv50, hE⟩ := hE
    refine g_callV (as := [.int v49]) (rvs := []) 0 0 dX3_burden_200 yg_Law_push vl_X3_52 (ct_Law_push hv50) (RC.obj hh51 (by decide) cl_2.1) rfl rfl rfl (Nat.le_of_ble_eq_true rfl) rfl rfl rfl ?_
    refine g_goto 223 dX3_burden_203 (by decide) ?_
    refine g_iinc (s2.2.2.1 + (1 : Int32)) dX3_burden_223 rfl (iinc_e (by decide)) rfl ?_
    refine g_goto 14 dX3_burden_226 (by decide) ?_
    refine g_msk [true, true, true, true, true, true, true, false] ?_
    exact hc2 (s2.1, s2.2.1, (s2.2.2.1 + (1 : Int32)), v50) (Option.some.inj hE).symm
  replace hE := ife_n q16 hE
  by_cases q17 : v9 = (26 : Int32)
  · replace hE := ife_p q17 hE
    refine g_tabIn 177 dX3_burden_38 (by rw [q17]; decide) (by rw [q17]; decide) (by rw [q17]; rfl) (by decide) ?_
    refine g_aload_n (r := a0) dX3_burden_177 rfl ?_
    replace hE := bd_s hE
    obtain ⟨v52, hv52, hE⟩ := hE
    refine g_callV (as := []) (rvs := [.int v52.1]) 0 0 dX3_burden_178 yg_Law_pop vl_X3_49 (ct_Law_pop hv52) (RC.obj (fR_s hv3).1 (by decide) cl_2.1) rfl rfl rfl (Nat.le_of_ble_eq_true rfl) rfl rfl rfl ?_
    refine g_istore dX3_burden_181 rfl ?_
    refine g_aload_n (r := a0) dX3_burden_183 rfl ?_
    refine g_aload_n (r := a0) dX3_burden_184 rfl ?_
    replace hE := bd_s hE
    obtain ⟨v53, hv53, hE⟩ := hE
    refine g_fR dX3_burden_185 fl_X3_33_2 rfl hv53 ?_
    refine g_iload (x := s2.2.2.1) dX3_burden_188 rfl ?_
    replace hE := bd_s hE
    obtain ⟨v54, hv54, hE⟩ := hE
    refine g_aR dX3_burden_190 rfl hv54 ?_
    refine g_aload_n (r := a0) dX3_burden_191 rfl ?_
    replace hE := bd_s hE
    obtain ⟨v55, hv55, hE⟩ := hE
    refine g_callV (as := []) (rvs := [.int v55.1]) 0 0 dX3_burden_192 yg_Law_pop vl_X3_49 (ct_Law_pop hv55) (RC.obj (fR_s hv53).1 (by decide) cl_2.1) rfl rfl rfl (Nat.le_of_ble_eq_true rfl) rfl rfl rfl ?_
    refine g_iload (x := v52.1) dX3_burden_195 rfl ?_
    replace hE := bd_s hE
    obtain ⟨v56, hv56, hE⟩ := hE
    refine g_callS (as := [.ref v54, .int v55.1, .int v52.1]) (rvs := [.int v56]) 0 0 dX3_burden_197 yg_Law_joined sl_X3_56 (ct_Law_joined hv56) rfl rfl rfl (Nat.le_of_ble_eq_true rfl) rfl rfl rfl ?_
    replace hE := bd_s hE
    obtain ⟨h58, hh58, hE⟩ := hE
    replace hh58 := ck_s hh58
    replace hE := bd_s hE
    obtain ⟨v57, hv57, hE⟩ := hE
    refine g_callV (as := [.int v56]) (rvs := []) 0 0 dX3_burden_200 yg_Law_push vl_X3_52 (ct_Law_push hv57) (RC.obj hh58 (by decide) cl_2.1) rfl rfl rfl (Nat.le_of_ble_eq_true rfl) rfl rfl rfl ?_
    refine g_goto 223 dX3_burden_203 (by decide) ?_
    refine g_iinc (s2.2.2.1 + (1 : Int32)) dX3_burden_223 rfl (iinc_e (by decide)) rfl ?_
    refine g_goto 14 dX3_burden_226 (by decide) ?_
    refine g_msk [true, true, true, true, true, true, true, false] ?_
    exact hc2 (s2.1, s2.2.1, (s2.2.2.1 + (1 : Int32)), v57) (Option.some.inj hE).symm
  replace hE := ife_n q17 hE
  by_cases q18 : v9 = (27 : Int32)
  · replace hE := ife_p q18 hE
    refine g_tabIn 177 dX3_burden_38 (by rw [q18]; decide) (by rw [q18]; decide) (by rw [q18]; rfl) (by decide) ?_
    refine g_aload_n (r := a0) dX3_burden_177 rfl ?_
    replace hE := bd_s hE
    obtain ⟨v59, hv59, hE⟩ := hE
    refine g_callV (as := []) (rvs := [.int v59.1]) 0 0 dX3_burden_178 yg_Law_pop vl_X3_49 (ct_Law_pop hv59) (RC.obj (fR_s hv3).1 (by decide) cl_2.1) rfl rfl rfl (Nat.le_of_ble_eq_true rfl) rfl rfl rfl ?_
    refine g_istore dX3_burden_181 rfl ?_
    refine g_aload_n (r := a0) dX3_burden_183 rfl ?_
    refine g_aload_n (r := a0) dX3_burden_184 rfl ?_
    replace hE := bd_s hE
    obtain ⟨v60, hv60, hE⟩ := hE
    refine g_fR dX3_burden_185 fl_X3_33_2 rfl hv60 ?_
    refine g_iload (x := s2.2.2.1) dX3_burden_188 rfl ?_
    replace hE := bd_s hE
    obtain ⟨v61, hv61, hE⟩ := hE
    refine g_aR dX3_burden_190 rfl hv61 ?_
    refine g_aload_n (r := a0) dX3_burden_191 rfl ?_
    replace hE := bd_s hE
    obtain ⟨v62, hv62, hE⟩ := hE
    refine g_callV (as := []) (rvs := [.int v62.1]) 0 0 dX3_burden_192 yg_Law_pop vl_X3_49 (ct_Law_pop hv62) (RC.obj (fR_s hv60).1 (by decide) cl_2.1) rfl rfl rfl (Nat.le_of_ble_eq_true rfl) rfl rfl rfl ?_
    refine g_iload (x := v59.1) dX3_burden_195 rfl ?_
    replace hE := bd_s hE
    obtain ⟨v63, hv63, hE⟩ := hE
    refine g_callS (as := [.ref v61, .int v62.1, .int v59.1]) (rvs := [.int v63]) 0 0 dX3_burden_197 yg_Law_joined sl_X3_56 (ct_Law_joined hv63) rfl rfl rfl (Nat.le_of_ble_eq_true rfl) rfl rfl rfl ?_
    replace hE := bd_s hE
    obtain ⟨h65, hh65, hE⟩ := hE
    replace hh65 := ck_s hh65
    replace hE := bd_s hE
    obtain ⟨v64, hv64, hE⟩ := hE
    refine g_callV (as := [.int v63]) (rvs := []) 0 0 dX3_burden_200 yg_Law_push vl_X3_52 (ct_Law_push hv64) (RC.obj hh65 (by decide) cl_2.1) rfl rfl rfl (Nat.le_of_ble_eq_true rfl) rfl rfl rfl ?_
    refine g_goto 223 dX3_burden_203 (by decide) ?_
    refine g_iinc (s2.2.2.1 + (1 : Int32)) dX3_burden_223 rfl (iinc_e (by decide)) rfl ?_
    refine g_goto 14 dX3_burden_226 (by decide) ?_
    refine g_msk [true, true, true, true, true, true, true, false] ?_
    exact hc2 (s2.1, s2.2.1, (s2.2.2.1 + (1 : Int32)), v64) (Option.some.inj hE).symm
  replace hE := ife_n q18 hE
  by_cases q19 : v9 = (28 : Int32)
  · replace hE := ife_p q19 hE
    refine g_tabIn 177 dX3_burden_38 (by rw [q19]; decide) (by rw [q19]; decide) (by rw [q19]; rfl) (by decide) ?_
    refine g_aload_n (r := a0) dX3_burden_177 rfl ?_
    replace hE := bd_s hE
    obtain ⟨v66, hv66, hE⟩ := hE
    refine g_callV (as := []) (rvs := [.int v66.1]) 0 0 dX3_burden_178 yg_Law_pop vl_X3_49 (ct_Law_pop hv66) (RC.obj (fR_s hv3).1 (by decide) cl_2.1) rfl rfl rfl (Nat.le_of_ble_eq_true rfl) rfl rfl rfl ?_
    refine g_istore dX3_burden_181 rfl ?_
    refine g_aload_n (r := a0) dX3_burden_183 rfl ?_
    refine g_aload_n (r := a0) dX3_burden_184 rfl ?_
    replace hE := bd_s hE
    obtain ⟨v67, hv67, hE⟩ := hE
    refine g_fR dX3_burden_185 fl_X3_33_2 rfl hv67 ?_
    refine g_iload (x := s2.2.2.1) dX3_burden_188 rfl ?_
    replace hE := bd_s hE
    obtain ⟨v68, hv68, hE⟩ := hE
    refine g_aR dX3_burden_190 rfl hv68 ?_
    refine g_aload_n (r := a0) dX3_burden_191 rfl ?_
    replace hE := bd_s hE
    obtain ⟨v69, hv69, hE⟩ := hE
    refine g_callV (as := []) (rvs := [.int v69.1]) 0 0 dX3_burden_192 yg_Law_pop vl_X3_49 (ct_Law_pop hv69) (RC.obj (fR_s hv67).1 (by decide) cl_2.1) rfl rfl rfl (Nat.le_of_ble_eq_true rfl) rfl rfl rfl ?_
    refine g_iload (x := v66.1) dX3_burden_195 rfl ?_
    replace hE := bd_s hE
    obtain ⟨v70, hv70, hE⟩ := hE
    refine g_callS (as := [.ref v68, .int v69.1, .int v66.1]) (rvs := [.int v70]) 0 0 dX3_burden_197 yg_Law_joined sl_X3_56 (ct_Law_joined hv70) rfl rfl rfl (Nat.le_of_ble_eq_true rfl) rfl rfl rfl ?_
    replace hE := bd_s hE
    obtain ⟨h72, hh72, hE⟩ := hE
    replace hh72 := ck_s hh72
    replace hE := bd_s hE
    obtain ⟨v71, hv71, hE⟩ := hE
    refine g_callV (as := [.int v70]) (rvs := []) 0 0 dX3_burden_200 yg_Law_push vl_X3_52 (ct_Law_push hv71) (RC.obj hh72 (by decide) cl_2.1) rfl rfl rfl (Nat.le_of_ble_eq_true rfl) rfl rfl rfl ?_
    refine g_goto 223 dX3_burden_203 (by decide) ?_
    refine g_iinc (s2.2.2.1 + (1 : Int32)) dX3_burden_223 rfl (iinc_e (by decide)) rfl ?_
    refine g_goto 14 dX3_burden_226 (by decide) ?_
    refine g_msk [true, true, true, true, true, true, true, false] ?_
    exact hc2 (s2.1, s2.2.1, (s2.2.2.1 + (1 : Int32)), v71) (Option.some.inj hE).symm
  replace hE := ife_n q19 hE
  have x20 : G X m_Law_burden (endP X m_Law_burden (oIM r)) 206 [.ref a0, .ref a1, .int a2, .int a3, .int s2.1, .int s2.2.1, .int s2.2.2.1, .retAddr 0] [] 0 0 s2.2.2.2 := by
    refine g_aload_n (r := a0) dX3_burden_206 rfl ?_
    refine g_aload_n (r := a1) dX3_burden_207 rfl ?_
    refine g_aload_n (r := a0) dX3_burden_208 rfl ?_
    replace hE := bd_s hE
    obtain ⟨v73, hv73, hE⟩ := hE
    refine g_fR dX3_burden_209 fl_X3_33_2 rfl hv73 ?_
    refine g_iload (x := s2.2.2.1) dX3_burden_212 rfl ?_
    replace hE := bd_s hE
    obtain ⟨v74, hv74, hE⟩ := hE
    refine g_aR dX3_burden_214 rfl hv74 ?_
    refine g_iload_n (x := a2) dX3_burden_215 rfl ?_
    refine g_iload_n (x := a3) dX3_burden_216 rfl ?_
    replace hE := bd_s hE
    obtain ⟨h76, hh76, hE⟩ := hE
    replace hh76 := ck_s hh76
    replace hE := bd_s hE
    obtain ⟨v75, hv75, hE⟩ := hE
    refine g_callV (as := [.ref v74, .int a2, .int a3]) (rvs := [.int v75]) 0 0 dX3_burden_217 yg_World_fact vl_X3_60 (ct_World_fact hv75) (RC.obj hh76 (by decide) cl_7.1) rfl rfl rfl (Nat.le_of_ble_eq_true rfl) rfl rfl rfl ?_
    replace hE := bd_s hE
    obtain ⟨v77, hv77, hE⟩ := hE
    refine g_callV (as := [.int v75]) (rvs := []) 0 0 dX3_burden_220 yg_Law_push vl_X3_52 (ct_Law_push hv77) (RC.obj (fR_s hv3).1 (by decide) cl_2.1) rfl rfl rfl (Nat.le_of_ble_eq_true rfl) rfl rfl rfl ?_
    refine g_iinc (s2.2.2.1 + (1 : Int32)) dX3_burden_223 rfl (iinc_e (by decide)) rfl ?_
    refine g_goto 14 dX3_burden_226 (by decide) ?_
    exact hc2 (s2.1, s2.2.1, (s2.2.2.1 + (1 : Int32)), v77) (Option.some.inj hE).symm
  replace q10 := ti_ne (19 : Int32) (19) (by decide) q10
  replace q11 := ti_ne (20 : Int32) (20) (by decide) q11
  replace q12 := ti_ne (21 : Int32) (21) (by decide) q12
  replace q13 := ti_ne (22 : Int32) (22) (by decide) q13
  replace q14 := ti_ne (23 : Int32) (23) (by decide) q14
  replace q15 := ti_ne (24 : Int32) (24) (by decide) q15
  replace q16 := ti_ne (25 : Int32) (25) (by decide) q16
  replace q17 := ti_ne (26 : Int32) (26) (by decide) q17
  replace q18 := ti_ne (27 : Int32) (27) (by decide) q18
  replace q19 := ti_ne (28 : Int32) (28) (by decide) q19
  refine g_tabOut 206 dX3_burden_38 (by omega) (by decide) ?_
  exact x20
theorem dX5_init_0 : decode cX5_init 0 = .ok (.aload_n 0, 1) := by decide +kernel
theorem dX5_init_1 : decode cX5_init 1 = .ok (.invokespecial 1, 3) := by decide +kernel
theorem dX5_init_4 : decode cX5_init 4 = .ok (.aload_n 0, 1) := by decide +kernel
theorem dX5_init_5 : decode cX5_init 5 = .ok (.aload_n 1, 1) := by decide +kernel
theorem dX5_init_6 : decode cX5_init 6 = .ok (.putfield 7, 3) := by decide +kernel
theorem dX5_init_9 : decode cX5_init 9 = .ok (.return_, 1) := by decide +kernel
def F_LineReader_init_3 (a0 : Nat) (a1 : Nat) (M : Mem) : Option (Mem) := (ck (qS M a0 ≠ 0)).bind fun h1 => (sR M a0 13 0 a1).bind fun m2 => some (m2)
def m_LineReader_init_3 : My := (yX5_init, cX5_init, 2, none, { frames := 1, cells := 0, slots := 0, locals := 12 }, [])
theorem yg_LineReader_init_3 : YG (m_LineReader_init_3) := (at_gw 367 (by decide +kernel) rfl)
theorem ct_LineReader_init_3 {X : Cx} {a0 : Nat} {a1 : Nat} {M : Mem} {r : Mem} (hE : F_LineReader_init_3 a0 a1 M = some r) : Ct X m_LineReader_init_3 [.ref a0, .ref a1] M (oVM r) := by
  have xR : ∀ v : Mem, r = v → r = v := fun _ q => q
  refine Ct.of (by decide +kernel) rfl rfl ?_
  unfold F_LineReader_init_3 at hE
  refine g_aload_n (r := a0) dX5_init_0 rfl ?_
  replace hE := bd_s hE
  obtain ⟨h1, hh1, hE⟩ := hE
  replace hh1 := ck_s hh1
  refine g_objInit dX5_init_1 oi_X5_1 oi_i oi_c hh1 rfl rfl ?_
  refine g_aload_n (r := a0) dX5_init_4 rfl ?_
  refine g_aload_n (r := a1) dX5_init_5 rfl ?_
  replace hE := bd_s hE
  obtain ⟨m2, hm2, hE⟩ := hE
  refine g_sR dX5_init_6 fl_X5_7_3w rfl (fun _ => ⟨rfl, nn_X5_7⟩) hm2 ?_
  rw [xR m2 (Option.some.inj hE).symm]
  exact g_vret dX5_init_9 rfl rfl
theorem dX4_init_0 : decode cX4_init 0 = .ok (.aload_n 0, 1) := by decide +kernel
theorem dX4_init_1 : decode cX4_init 1 = .ok (.aload_n 1, 1) := by decide +kernel
theorem dX4_init_2 : decode cX4_init 2 = .ok (.invokespecial 1, 3) := by decide +kernel
theorem dX4_init_5 : decode cX4_init 5 = .ok (.aload_n 0, 1) := by decide +kernel
theorem dX4_init_6 : decode cX4_init 6 = .ok (.sipush 800, 3) := by decide +kernel
theorem dX4_init_9 : decode cX4_init 9 = .ok (.anewarray 9, 3) := by decide +kernel
theorem dX4_init_12 : decode cX4_init 12 = .ok (.putfield 11, 3) := by decide +kernel
theorem dX4_init_15 : decode cX4_init 15 = .ok (.aload_n 0, 1) := by decide +kernel
theorem dX4_init_16 : decode cX4_init 16 = .ok (.sipush 800, 3) := by decide +kernel
theorem dX4_init_19 : decode cX4_init 19 = .ok (.newarray .int, 2) := by decide +kernel
theorem dX4_init_21 : decode cX4_init 21 = .ok (.putfield 17, 3) := by decide +kernel
theorem dX4_init_24 : decode cX4_init 24 = .ok (.aload_n 0, 1) := by decide +kernel
theorem dX4_init_25 : decode cX4_init 25 = .ok (.iconst 0, 1) := by decide +kernel
theorem dX4_init_26 : decode cX4_init 26 = .ok (.putfield 21, 3) := by decide +kernel
theorem dX4_init_29 : decode cX4_init 29 = .ok (.aload_n 0, 1) := by decide +kernel
theorem dX4_init_30 : decode cX4_init 30 = .ok (.iconst 0, 1) := by decide +kernel
theorem dX4_init_31 : decode cX4_init 31 = .ok (.putfield 25, 3) := by decide +kernel
theorem dX4_init_34 : decode cX4_init 34 = .ok (.return_, 1) := by decide +kernel
def F_LawReader_init (a0 : Nat) (a1 : Nat) (M : Mem) : Option (Mem) := (ck (qS M a0 ≠ 0)).bind fun h2 => (F_LineReader_init_3 a0 a1 M).bind fun v1 => (nA v1 4 (800 : Int32)).bind fun p3 => (sR p3.2 a0 13 1 p3.1).bind fun m4 => (nA m4 1 (800 : Int32)).bind fun p5 => (sR p5.2 a0 13 2 p5.1).bind fun m6 => (sI m6 a0 13 3 (0 : Int32)).bind fun m7 => (sI m7 a0 13 4 (0 : Int32)).bind fun m8 => some (m8)
def m_LawReader_init : My := (yX4_init, cX4_init, 2, none, { frames := 2, cells := 2, slots := 1600, locals := 33 }, [])
theorem yg_LawReader_init : YG (m_LawReader_init) := (at_gw 384 (by decide +kernel) rfl)
theorem ct_LawReader_init {X : Cx} {a0 : Nat} {a1 : Nat} {M : Mem} {r : Mem} (hE : F_LawReader_init a0 a1 M = some r) : Ct X m_LawReader_init [.ref a0, .ref a1] M (oVM r) := by
  have xR : ∀ v : Mem, r = v → r = v := fun _ q => q
  refine Ct.of (by decide +kernel) rfl rfl ?_
  unfold F_LawReader_init at hE
  refine g_aload_n (r := a0) dX4_init_0 rfl ?_
  refine g_aload_n (r := a1) dX4_init_1 rfl ?_
  replace hE := bd_s hE
  obtain ⟨h2, hh2, hE⟩ := hE
  replace hh2 := ck_s hh2
  replace hE := bd_s hE
  obtain ⟨v1, hv1, hE⟩ := hE
  refine g_callI (as := [.ref a1]) 0 0 rfl dX4_init_2 yg_LineReader_init_3 il_X4_1 (ct_LineReader_init_3 hv1) hh2 rfl rfl rfl (Nat.le_of_ble_eq_true rfl) rfl rfl ?_
  refine g_aload_n (r := a0) dX4_init_5 rfl ?_
  refine g_sipush (v := (800 : Int32)) dX4_init_6 (by decide) ?_
  replace hE := bd_s hE
  obtain ⟨p3, hp3, hE⟩ := hE
  refine g_newq (t := 4) (C := RX10) (B := 800) dX4_init_9 (Or.inl ⟨rfl, rfl⟩) cn_X4_9 hp3 (by decide) (Nat.le_of_ble_eq_true rfl) (Nat.le_of_ble_eq_true rfl) ?_
  replace hE := bd_s hE
  obtain ⟨m4, hm4, hE⟩ := hE
  refine g_sR dX4_init_12 fl_X4_11_3w rfl (fun _ => ⟨rfl, nn_X4_11⟩) hm4 ?_
  refine g_aload_n (r := a0) dX4_init_15 rfl ?_
  refine g_sipush (v := (800 : Int32)) dX4_init_16 (by decide) ?_
  replace hE := bd_s hE
  obtain ⟨p5, hp5, hE⟩ := hE
  refine g_newa (t := 1) (B := 800) dX4_init_19 rfl rfl ac_1 hp5 (by decide) (Nat.le_of_ble_eq_true rfl) (Nat.le_of_ble_eq_true rfl) ?_
  replace hE := bd_s hE
  obtain ⟨m6, hm6, hE⟩ := hE
  refine g_sR dX4_init_21 fl_X4_17_3w rfl (fun _ => ⟨rfl, nn_X4_17⟩) hm6 ?_
  refine g_aload_n (r := a0) dX4_init_24 rfl ?_
  refine g_iconst (v := (0 : Int32)) dX4_init_25 (by decide) ?_
  replace hE := bd_s hE
  obtain ⟨m7, hm7, hE⟩ := hE
  refine g_sI dX4_init_26 fl_X4_21_3w (by decide) hm7 ?_
  refine g_aload_n (r := a0) dX4_init_29 rfl ?_
  refine g_iconst (v := (0 : Int32)) dX4_init_30 (by decide) ?_
  replace hE := bd_s hE
  obtain ⟨m8, hm8, hE⟩ := hE
  refine g_sI dX4_init_31 fl_X4_25_3w (by decide) hm8 ?_
  rw [xR m8 (Option.some.inj hE).symm]
  exact g_vret dX4_init_34 rfl rfl
theorem dX4_clear_0 : decode cX4_clear 0 = .ok (.aload_n 0, 1) := by decide +kernel
theorem dX4_clear_1 : decode cX4_clear 1 = .ok (.iconst 0, 1) := by decide +kernel
theorem dX4_clear_2 : decode cX4_clear 2 = .ok (.putfield 21, 3) := by decide +kernel
theorem dX4_clear_5 : decode cX4_clear 5 = .ok (.aload_n 0, 1) := by decide +kernel
theorem dX4_clear_6 : decode cX4_clear 6 = .ok (.iconst 0, 1) := by decide +kernel
theorem dX4_clear_7 : decode cX4_clear 7 = .ok (.putfield 25, 3) := by decide +kernel
theorem dX4_clear_10 : decode cX4_clear 10 = .ok (.return_, 1) := by decide +kernel
def F_LawReader_clear (a0 : Nat) (M : Mem) : Option (Mem) := (sI M a0 13 3 (0 : Int32)).bind fun m1 => (sI m1 a0 13 4 (0 : Int32)).bind fun m2 => some (m2)
def m_LawReader_clear : My := (yX4_clear, cX4_clear, 1, none, { frames := 0, cells := 0, slots := 0, locals := 0 }, [])
theorem yg_LawReader_clear : YG (m_LawReader_clear) := (at_gw 967 (by decide +kernel) rfl)
theorem ct_LawReader_clear {X : Cx} {a0 : Nat} {M : Mem} {r : Mem} (hE : F_LawReader_clear a0 M = some r) : Ct X m_LawReader_clear [.ref a0] M (oVM r) := by
  have xR : ∀ v : Mem, r = v → r = v := fun _ q => q
  refine Ct.of (by decide +kernel) rfl rfl ?_
  unfold F_LawReader_clear at hE
  refine g_aload_n (r := a0) dX4_clear_0 rfl ?_
  refine g_iconst (v := (0 : Int32)) dX4_clear_1 (by decide) ?_
  replace hE := bd_s hE
  obtain ⟨m1, hm1, hE⟩ := hE
  refine g_sI dX4_clear_2 fl_X4_21_3w (by decide) hm1 ?_
  refine g_aload_n (r := a0) dX4_clear_5 rfl ?_
  refine g_iconst (v := (0 : Int32)) dX4_clear_6 (by decide) ?_
  replace hE := bd_s hE
  obtain ⟨m2, hm2, hE⟩ := hE
  refine g_sI dX4_clear_7 fl_X4_25_3w (by decide) hm2 ?_
  rw [xR m2 (Option.some.inj hE).symm]
  exact g_vret dX4_clear_10 rfl rfl
theorem dX4_written_0 : decode cX4_written 0 = .ok (.new 28, 3) := by decide +kernel
theorem dX4_written_3 : decode cX4_written 3 = .ok (.dup, 1) := by decide +kernel
theorem dX4_written_4 : decode cX4_written 4 = .ok (.aload_n 0, 1) := by decide +kernel
theorem dX4_written_5 : decode cX4_written 5 = .ok (.getfield 25, 3) := by decide +kernel
theorem dX4_written_8 : decode cX4_written 8 = .ok (.aload_n 0, 1) := by decide +kernel
theorem dX4_written_9 : decode cX4_written 9 = .ok (.getfield 11, 3) := by decide +kernel
theorem dX4_written_12 : decode cX4_written 12 = .ok (.aload_n 0, 1) := by decide +kernel
theorem dX4_written_13 : decode cX4_written 13 = .ok (.getfield 17, 3) := by decide +kernel
theorem dX4_written_16 : decode cX4_written 16 = .ok (.aload_n 0, 1) := by decide +kernel
theorem dX4_written_17 : decode cX4_written 17 = .ok (.getfield 21, 3) := by decide +kernel
theorem dX4_written_20 : decode cX4_written 20 = .ok (.invokespecial 30, 3) := by decide +kernel
theorem dX4_written_23 : decode cX4_written 23 = .ok (.areturn, 1) := by decide +kernel
def F_LawReader_written (a0 : Nat) (M : Mem) : Option (Nat × Mem) := (nO M 12).bind fun p1 => (fI p1.2 a0 13 4).bind fun v2 => (fR p1.2 a0 13 1).bind fun v3 => (fR p1.2 a0 13 2).bind fun v4 => (fI p1.2 a0 13 3).bind fun v5 => (ck (qS p1.2 p1.1 ≠ 0)).bind fun h7 => (F_Law_init p1.1 v2 v3 v4 v5 p1.2).bind fun v6 => some (p1.1, v6)
def m_LawReader_written : My := (yX4_written, cX4_written, 1, some ((.object "RiddleRoad$Law")), { frames := 2, cells := 4, slots := 1669, locals := 47 }, [])
theorem yg_LawReader_written : YG (m_LawReader_written) := (at_gw 975 (by decide +kernel) rfl)
theorem ct_LawReader_written {X : Cx} {a0 : Nat} {M : Mem} {r : Nat × Mem} (hE : F_LawReader_written a0 M = some r) : Ct X m_LawReader_written [.ref a0] M (oRM r) := by
  have xR : ∀ v : Nat × Mem, r = v → r = v := fun _ q => q
  refine Ct.of (by decide +kernel) rfl rfl ?_
  unfold F_LawReader_written at hE
  replace hE := bd_s hE
  obtain ⟨p1, hp1, hE⟩ := hE
  refine g_newO dX4_written_0 cl_2 (by decide) cn_X4_28 in_X3 it_X3 (Nat.le_of_ble_eq_true rfl) (Nat.le_of_ble_eq_true rfl) hp1 ?_
  refine g_dup dX4_written_3 rfl ?_
  refine g_aload_n (r := a0) dX4_written_4 rfl ?_
  replace hE := bd_s hE
  obtain ⟨v2, hv2, hE⟩ := hE
  refine g_fI dX4_written_5 fl_X4_25_3 rfl hv2 ?_
  refine g_aload_n (r := a0) dX4_written_8 rfl ?_
  replace hE := bd_s hE
  obtain ⟨v3, hv3, hE⟩ := hE
  refine g_fR dX4_written_9 fl_X4_11_3 rfl hv3 ?_
  refine g_aload_n (r := a0) dX4_written_12 rfl ?_
  replace hE := bd_s hE
  obtain ⟨v4, hv4, hE⟩ := hE
  refine g_fR dX4_written_13 fl_X4_17_3 rfl hv4 ?_
  refine g_aload_n (r := a0) dX4_written_16 rfl ?_
  replace hE := bd_s hE
  obtain ⟨v5, hv5, hE⟩ := hE
  refine g_fI dX4_written_17 fl_X4_21_3 rfl hv5 ?_
  replace hE := bd_s hE
  obtain ⟨h7, hh7, hE⟩ := hE
  replace hh7 := ck_s hh7
  replace hE := bd_s hE
  obtain ⟨v6, hv6, hE⟩ := hE
  refine g_callI (as := [.int v2, .ref v3, .ref v4, .int v5]) 4 1669 rfl dX4_written_20 yg_Law_init il_X4_30 (ct_Law_init hv6) hh7 rfl rfl rfl (Nat.le_of_ble_eq_true rfl) rfl rfl ?_
  rw [xR (p1.1, v6) (Option.some.inj hE).symm]
  exact g_aret dX4_written_23 rfl rfl
theorem dX4_write_0 : decode cX4_write 0 = .ok (.aload_n 0, 1) := by decide +kernel
theorem dX4_write_1 : decode cX4_write 1 = .ok (.getfield 21, 3) := by decide +kernel
theorem dX4_write_4 : decode cX4_write 4 = .ok (.aload_n 0, 1) := by decide +kernel
theorem dX4_write_5 : decode cX4_write 5 = .ok (.getfield 11, 3) := by decide +kernel
theorem dX4_write_8 : decode cX4_write 8 = .ok (.arraylength, 1) := by decide +kernel
theorem dX4_write_9 : decode cX4_write 9 = .ok (.if_icmp .ge 33, 3) := by decide +kernel
theorem dX4_write_12 : decode cX4_write 12 = .ok (.aload_n 0, 1) := by decide +kernel
theorem dX4_write_13 : decode cX4_write 13 = .ok (.getfield 11, 3) := by decide +kernel
theorem dX4_write_16 : decode cX4_write 16 = .ok (.aload_n 0, 1) := by decide +kernel
theorem dX4_write_17 : decode cX4_write 17 = .ok (.getfield 21, 3) := by decide +kernel
theorem dX4_write_20 : decode cX4_write 20 = .ok (.aload_n 1, 1) := by decide +kernel
theorem dX4_write_21 : decode cX4_write 21 = .ok (.aastore, 1) := by decide +kernel
theorem dX4_write_22 : decode cX4_write 22 = .ok (.aload_n 0, 1) := by decide +kernel
theorem dX4_write_23 : decode cX4_write 23 = .ok (.getfield 17, 3) := by decide +kernel
theorem dX4_write_26 : decode cX4_write 26 = .ok (.aload_n 0, 1) := by decide +kernel
theorem dX4_write_27 : decode cX4_write 27 = .ok (.getfield 21, 3) := by decide +kernel
theorem dX4_write_30 : decode cX4_write 30 = .ok (.iload_n 2, 1) := by decide +kernel
theorem dX4_write_31 : decode cX4_write 31 = .ok (.iastore, 1) := by decide +kernel
theorem dX4_write_32 : decode cX4_write 32 = .ok (.aload_n 0, 1) := by decide +kernel
theorem dX4_write_33 : decode cX4_write 33 = .ok (.dup, 1) := by decide +kernel
theorem dX4_write_34 : decode cX4_write 34 = .ok (.getfield 21, 3) := by decide +kernel
theorem dX4_write_37 : decode cX4_write 37 = .ok (.iconst 1, 1) := by decide +kernel
theorem dX4_write_38 : decode cX4_write 38 = .ok (.iadd, 1) := by decide +kernel
theorem dX4_write_39 : decode cX4_write 39 = .ok (.putfield 21, 3) := by decide +kernel
theorem dX4_write_42 : decode cX4_write 42 = .ok (.return_, 1) := by decide +kernel
def F_LawReader_write (a0 : Nat) (a1 : Nat) (a2 : Int32) (M : Mem) : Option (Mem) := (fI M a0 13 3).bind fun v1 => (fR M a0 13 1).bind fun v2 => (aN M v2).bind fun v3 => if v3 ≤ v1 then (some (M)) else ((fR M a0 13 1).bind fun v5 => (fI M a0 13 3).bind fun v6 => (tT M v5 v6 a1).bind fun m7 => (fR m7 a0 13 2).bind fun v8 => (fI m7 a0 13 3).bind fun v9 => (tI m7 v8 v9 a2).bind fun m10 => (fI m10 a0 13 3).bind fun v11 => (sI m10 a0 13 3 (v11 + (1 : Int32))).bind fun m12 => some (m12))
def m_LawReader_write : My := (yX4_write, cX4_write, 3, none, { frames := 0, cells := 0, slots := 0, locals := 0 }, [])
theorem yg_LawReader_write : YG (m_LawReader_write) := (at_gw 754 (by decide +kernel) rfl)
theorem ct_LawReader_write {X : Cx} {a0 : Nat} {a1 : Nat} {a2 : Int32} {M : Mem} {r : Mem} (hE : F_LawReader_write a0 a1 a2 M = some r) : Ct X m_LawReader_write [.ref a0, .ref a1, .int a2] M (oVM r) := by
  have xR : ∀ v : Mem, r = v → r = v := fun _ q => q
  refine Ct.of (by decide +kernel) rfl rfl ?_
  unfold F_LawReader_write at hE
  refine g_aload_n (r := a0) dX4_write_0 rfl ?_
  replace hE := bd_s hE
  obtain ⟨v1, hv1, hE⟩ := hE
  refine g_fI dX4_write_1 fl_X4_21_3 rfl hv1 ?_
  refine g_aload_n (r := a0) dX4_write_4 rfl ?_
  replace hE := bd_s hE
  obtain ⟨v2, hv2, hE⟩ := hE
  refine g_fR dX4_write_5 fl_X4_11_3 rfl hv2 ?_
  replace hE := bd_s hE
  obtain ⟨v3, hv3, hE⟩ := hE
  refine g_aN dX4_write_8 hv3 ?_
  refine g_icmp_ge 42 dX4_write_9 (by decide) (fun q4 => ?_) (fun q4 => ?_)
  · replace hE := ife_p q4 hE
    rw [xR M (Option.some.inj hE).symm]
    exact g_vret dX4_write_42 rfl rfl
  replace hE := ife_n q4 hE
  refine g_aload_n (r := a0) dX4_write_12 rfl ?_
  replace hE := bd_s hE
  obtain ⟨v5, hv5, hE⟩ := hE
  refine g_fR dX4_write_13 fl_X4_11_3 rfl hv5 ?_
  refine g_aload_n (r := a0) dX4_write_16 rfl ?_
  replace hE := bd_s hE
  obtain ⟨v6, hv6, hE⟩ := hE
  refine g_fI dX4_write_17 fl_X4_21_3 rfl hv6 ?_
  refine g_aload_n (r := a1) dX4_write_20 rfl ?_
  replace hE := bd_s hE
  obtain ⟨m7, hm7, hE⟩ := hE
  refine g_tT dX4_write_21 hm7 ?_
  refine g_aload_n (r := a0) dX4_write_22 rfl ?_
  replace hE := bd_s hE
  obtain ⟨v8, hv8, hE⟩ := hE
  refine g_fR dX4_write_23 fl_X4_17_3 rfl hv8 ?_
  refine g_aload_n (r := a0) dX4_write_26 rfl ?_
  replace hE := bd_s hE
  obtain ⟨v9, hv9, hE⟩ := hE
  refine g_fI dX4_write_27 fl_X4_21_3 rfl hv9 ?_
  refine g_iload_n (x := a2) dX4_write_30 rfl ?_
  replace hE := bd_s hE
  obtain ⟨m10, hm10, hE⟩ := hE
  refine g_tI dX4_write_31 hm10 ?_
  refine g_aload_n (r := a0) dX4_write_32 rfl ?_
  refine g_dup dX4_write_33 rfl ?_
  replace hE := bd_s hE
  obtain ⟨v11, hv11, hE⟩ := hE
  refine g_fI dX4_write_34 fl_X4_21_3 rfl hv11 ?_
  refine g_iconst (v := (1 : Int32)) dX4_write_37 (by decide) ?_
  refine g_iadd dX4_write_38 ?_
  replace hE := bd_s hE
  obtain ⟨m12, hm12, hE⟩ := hE
  refine g_sI dX4_write_39 fl_X4_21_3w (by decide) hm12 ?_
  rw [xR m12 (Option.some.inj hE).symm]
  exact g_vret dX4_write_42 rfl rfl
theorem dX9_token_0 : decode cX9_token 0 = .ok (.aload_n 0, 1) := by decide +kernel
theorem dX9_token_1 : decode cX9_token 1 = .ok (.getfield 13, 3) := by decide +kernel
theorem dX9_token_4 : decode cX9_token 4 = .ok (.aload_n 0, 1) := by decide +kernel
theorem dX9_token_5 : decode cX9_token 5 = .ok (.getfield 30, 3) := by decide +kernel
theorem dX9_token_8 : decode cX9_token 8 = .ok (.aaload, 1) := by decide +kernel
theorem dX9_token_9 : decode cX9_token 9 = .ok (.areturn, 1) := by decide +kernel
def F_Text_token (a0 : Nat) (M : Mem) : Option (Nat) := (fR M a0 16 2).bind fun v1 => (fI M a0 16 6).bind fun v2 => (aR M v1 4 v2).bind fun v3 => some (v3)
def m_Text_token : My := (yX9_token, cX9_token, 1, some ((.object "RiddleRoad$Token")), { frames := 0, cells := 0, slots := 0, locals := 0 }, [])
theorem yg_Text_token : YG (m_Text_token) := (at_gw 722 (by decide +kernel) rfl)
theorem ct_Text_token {X : Cx} {a0 : Nat} {M : Mem} {r : Nat} (hE : F_Text_token a0 M = some r) : Ct X m_Text_token [.ref a0] M ((oR M) r) := by
  have xR : ∀ v : Nat, r = v → r = v := fun _ q => q
  refine Ct.of (by decide +kernel) rfl rfl ?_
  unfold F_Text_token at hE
  refine g_aload_n (r := a0) dX9_token_0 rfl ?_
  replace hE := bd_s hE
  obtain ⟨v1, hv1, hE⟩ := hE
  refine g_fR dX9_token_1 fl_X9_13_6 rfl hv1 ?_
  refine g_aload_n (r := a0) dX9_token_4 rfl ?_
  replace hE := bd_s hE
  obtain ⟨v2, hv2, hE⟩ := hE
  refine g_fI dX9_token_5 fl_X9_30_6 rfl hv2 ?_
  replace hE := bd_s hE
  obtain ⟨v3, hv3, hE⟩ := hE
  refine g_aR dX9_token_8 rfl hv3 ?_
  rw [xR v3 (Option.some.inj hE).symm]
  exact g_aret dX9_token_9 rfl rfl
theorem dX9_advance_0 : decode cX9_advance 0 = .ok (.aload_n 0, 1) := by decide +kernel
theorem dX9_advance_1 : decode cX9_advance 1 = .ok (.getfield 30, 3) := by decide +kernel
theorem dX9_advance_4 : decode cX9_advance 4 = .ok (.aload_n 0, 1) := by decide +kernel
theorem dX9_advance_5 : decode cX9_advance 5 = .ok (.getfield 26, 3) := by decide +kernel
theorem dX9_advance_8 : decode cX9_advance 8 = .ok (.if_icmp .ge 13, 3) := by decide +kernel
theorem dX9_advance_11 : decode cX9_advance 11 = .ok (.aload_n 0, 1) := by decide +kernel
theorem dX9_advance_12 : decode cX9_advance 12 = .ok (.dup, 1) := by decide +kernel
theorem dX9_advance_13 : decode cX9_advance 13 = .ok (.getfield 30, 3) := by decide +kernel
theorem dX9_advance_16 : decode cX9_advance 16 = .ok (.iconst 1, 1) := by decide +kernel
theorem dX9_advance_17 : decode cX9_advance 17 = .ok (.iadd, 1) := by decide +kernel
theorem dX9_advance_18 : decode cX9_advance 18 = .ok (.putfield 30, 3) := by decide +kernel
theorem dX9_advance_21 : decode cX9_advance 21 = .ok (.return_, 1) := by decide +kernel
def F_Text_advance (a0 : Nat) (M : Mem) : Option (Mem) := (fI M a0 16 6).bind fun v1 => (fI M a0 16 5).bind fun v2 => if v2 ≤ v1 then (some (M)) else ((fI M a0 16 6).bind fun v4 => (sI M a0 16 6 (v4 + (1 : Int32))).bind fun m5 => some (m5))
def m_Text_advance : My := (yX9_advance, cX9_advance, 1, none, { frames := 0, cells := 0, slots := 0, locals := 0 }, [])
theorem yg_Text_advance : YG (m_Text_advance) := (at_gw 738 (by decide +kernel) rfl)
theorem ct_Text_advance {X : Cx} {a0 : Nat} {M : Mem} {r : Mem} (hE : F_Text_advance a0 M = some r) : Ct X m_Text_advance [.ref a0] M (oVM r) := by
  have xR : ∀ v : Mem, r = v → r = v := fun _ q => q
  refine Ct.of (by decide +kernel) rfl rfl ?_
  unfold F_Text_advance at hE
  refine g_aload_n (r := a0) dX9_advance_0 rfl ?_
  replace hE := bd_s hE
  obtain ⟨v1, hv1, hE⟩ := hE
  refine g_fI dX9_advance_1 fl_X9_30_6 rfl hv1 ?_
  refine g_aload_n (r := a0) dX9_advance_4 rfl ?_
  replace hE := bd_s hE
  obtain ⟨v2, hv2, hE⟩ := hE
  refine g_fI dX9_advance_5 fl_X9_26_6 rfl hv2 ?_
  refine g_icmp_ge 21 dX9_advance_8 (by decide) (fun q3 => ?_) (fun q3 => ?_)
  · replace hE := ife_p q3 hE
    rw [xR M (Option.some.inj hE).symm]
    exact g_vret dX9_advance_21 rfl rfl
  replace hE := ife_n q3 hE
  refine g_aload_n (r := a0) dX9_advance_11 rfl ?_
  refine g_dup dX9_advance_12 rfl ?_
  replace hE := bd_s hE
  obtain ⟨v4, hv4, hE⟩ := hE
  refine g_fI dX9_advance_13 fl_X9_30_6 rfl hv4 ?_
  refine g_iconst (v := (1 : Int32)) dX9_advance_16 (by decide) ?_
  refine g_iadd dX9_advance_17 ?_
  replace hE := bd_s hE
  obtain ⟨m5, hm5, hE⟩ := hE
  refine g_sI dX9_advance_18 fl_X9_30_6w (by decide) hm5 ?_
  rw [xR m5 (Option.some.inj hE).symm]
  exact g_vret dX9_advance_21 rfl rfl
theorem dX9_number_0 : decode cX9_number 0 = .ok (.aload_n 0, 1) := by decide +kernel
theorem dX9_number_1 : decode cX9_number 1 = .ok (.getfield 19, 3) := by decide +kernel
theorem dX9_number_4 : decode cX9_number 4 = .ok (.aload_n 0, 1) := by decide +kernel
theorem dX9_number_5 : decode cX9_number 5 = .ok (.getfield 30, 3) := by decide +kernel
theorem dX9_number_8 : decode cX9_number 8 = .ok (.iaload, 1) := by decide +kernel
theorem dX9_number_9 : decode cX9_number 9 = .ok (.istore_n 3, 1) := by decide +kernel
theorem dX9_number_10 : decode cX9_number 10 = .ok (.aload_n 0, 1) := by decide +kernel
theorem dX9_number_11 : decode cX9_number 11 = .ok (.getfield 23, 3) := by decide +kernel
theorem dX9_number_14 : decode cX9_number 14 = .ok (.aload_n 0, 1) := by decide +kernel
theorem dX9_number_15 : decode cX9_number 15 = .ok (.getfield 30, 3) := by decide +kernel
theorem dX9_number_18 : decode cX9_number 18 = .ok (.iaload, 1) := by decide +kernel
theorem dX9_number_19 : decode cX9_number 19 = .ok (.istore 4, 2) := by decide +kernel
theorem dX9_number_21 : decode cX9_number 21 = .ok (.aload_n 0, 1) := by decide +kernel
theorem dX9_number_22 : decode cX9_number 22 = .ok (.getfield 13, 3) := by decide +kernel
theorem dX9_number_25 : decode cX9_number 25 = .ok (.aload_n 0, 1) := by decide +kernel
theorem dX9_number_26 : decode cX9_number 26 = .ok (.getfield 30, 3) := by decide +kernel
theorem dX9_number_29 : decode cX9_number 29 = .ok (.aaload, 1) := by decide +kernel
theorem dX9_number_30 : decode cX9_number 30 = .ok (.getstatic 60, 3) := by decide +kernel
theorem dX9_number_33 : decode cX9_number 33 = .ok (.if_acmp .ne 22, 3) := by decide +kernel
theorem dX9_number_36 : decode cX9_number 36 = .ok (.iload 4, 2) := by decide +kernel
theorem dX9_number_38 : decode cX9_number 38 = .ok (.iload_n 3, 1) := by decide +kernel
theorem dX9_number_39 : decode cX9_number 39 = .ok (.isub, 1) := by decide +kernel
theorem dX9_number_40 : decode cX9_number 40 = .ok (.iload_n 1, 1) := by decide +kernel
theorem dX9_number_41 : decode cX9_number 41 = .ok (.if_icmp .gt 14, 3) := by decide +kernel
theorem dX9_number_44 : decode cX9_number 44 = .ok (.aload_n 0, 1) := by decide +kernel
theorem dX9_number_45 : decode cX9_number 45 = .ok (.getfield 30, 3) := by decide +kernel
theorem dX9_number_48 : decode cX9_number 48 = .ok (.aload_n 0, 1) := by decide +kernel
theorem dX9_number_49 : decode cX9_number 49 = .ok (.getfield 26, 3) := by decide +kernel
theorem dX9_number_52 : decode cX9_number 52 = .ok (.if_icmp .lt 5, 3) := by decide +kernel
theorem dX9_number_55 : decode cX9_number 55 = .ok (.iconst (-1), 1) := by decide +kernel
theorem dX9_number_56 : decode cX9_number 56 = .ok (.ireturn, 1) := by decide +kernel
theorem dX9_number_57 : decode cX9_number 57 = .ok (.iconst 0, 1) := by decide +kernel
theorem dX9_number_58 : decode cX9_number 58 = .ok (.istore 5, 2) := by decide +kernel
theorem dX9_number_60 : decode cX9_number 60 = .ok (.iload_n 3, 1) := by decide +kernel
theorem dX9_number_61 : decode cX9_number 61 = .ok (.istore 6, 2) := by decide +kernel
theorem dX9_number_63 : decode cX9_number 63 = .ok (.iload 6, 2) := by decide +kernel
theorem dX9_number_65 : decode cX9_number 65 = .ok (.iload 4, 2) := by decide +kernel
theorem dX9_number_67 : decode cX9_number 67 = .ok (.if_icmp .ge 27, 3) := by decide +kernel
theorem dX9_number_70 : decode cX9_number 70 = .ok (.bipush 10, 2) := by decide +kernel
theorem dX9_number_72 : decode cX9_number 72 = .ok (.iload 5, 2) := by decide +kernel
theorem dX9_number_74 : decode cX9_number 74 = .ok (.imul, 1) := by decide +kernel
theorem dX9_number_75 : decode cX9_number 75 = .ok (.aload_n 0, 1) := by decide +kernel
theorem dX9_number_76 : decode cX9_number 76 = .ok (.getfield 40, 3) := by decide +kernel
theorem dX9_number_79 : decode cX9_number 79 = .ok (.iload 6, 2) := by decide +kernel
theorem dX9_number_81 : decode cX9_number 81 = .ok (.iaload, 1) := by decide +kernel
theorem dX9_number_82 : decode cX9_number 82 = .ok (.iadd, 1) := by decide +kernel
theorem dX9_number_83 : decode cX9_number 83 = .ok (.bipush 48, 2) := by decide +kernel
theorem dX9_number_85 : decode cX9_number 85 = .ok (.isub, 1) := by decide +kernel
theorem dX9_number_86 : decode cX9_number 86 = .ok (.istore 5, 2) := by decide +kernel
theorem dX9_number_88 : decode cX9_number 88 = .ok (.iinc 6 1, 3) := by decide +kernel
theorem dX9_number_91 : decode cX9_number 91 = .ok (.goto (-28), 3) := by decide +kernel
theorem dX9_number_94 : decode cX9_number 94 = .ok (.iload 5, 2) := by decide +kernel
theorem dX9_number_96 : decode cX9_number 96 = .ok (.iload_n 2, 1) := by decide +kernel
theorem dX9_number_97 : decode cX9_number 97 = .ok (.if_icmp .le 5, 3) := by decide +kernel
theorem dX9_number_100 : decode cX9_number 100 = .ok (.iconst (-1), 1) := by decide +kernel
theorem dX9_number_101 : decode cX9_number 101 = .ok (.ireturn, 1) := by decide +kernel
theorem dX9_number_102 : decode cX9_number 102 = .ok (.aload_n 0, 1) := by decide +kernel
theorem dX9_number_103 : decode cX9_number 103 = .ok (.dup, 1) := by decide +kernel
theorem dX9_number_104 : decode cX9_number 104 = .ok (.getfield 30, 3) := by decide +kernel
theorem dX9_number_107 : decode cX9_number 107 = .ok (.iconst 1, 1) := by decide +kernel
theorem dX9_number_108 : decode cX9_number 108 = .ok (.iadd, 1) := by decide +kernel
theorem dX9_number_109 : decode cX9_number 109 = .ok (.putfield 30, 3) := by decide +kernel
theorem dX9_number_112 : decode cX9_number 112 = .ok (.iload 5, 2) := by decide +kernel
theorem dX9_number_114 : decode cX9_number 114 = .ok (.ireturn, 1) := by decide +kernel
def F_Text_number (a0 : Nat) (a1 : Int32) (a2 : Int32) (M : Mem) : Option (Int32 × Mem) := (fR M a0 16 3).bind fun v1 => (fI M a0 16 6).bind fun v2 => (aI M v1 v2).bind fun v3 => (fR M a0 16 4).bind fun v4 => (fI M a0 16 6).bind fun v5 => (aI M v4 v5).bind fun v6 => (fR M a0 16 2).bind fun v7 => (fI M a0 16 6).bind fun v8 => (aR M v7 4 v8).bind fun v9 => (ck (v9 ≤ 36 ∧ 1 ≤ 36)).bind fun h10 => (if v9 = 1 then (if a1 < (v6 - v3) then (some true) else ((fI M a0 16 6).bind fun v14 => (fI M a0 16 5).bind fun v15 => if v14 < v15 then (some false) else (some true))) else (some true) : Option Bool).bind fun b12 => if b12 = true then (some ((-1 : Int32), M)) else ((loopN LIM (fun s17 : Int32 × Int32 => if v6 ≤ s17.2 then (some (.inr (s17.1))) else ((fR M a0 16 0).bind fun v19 => (aI M v19 s17.2).bind fun v20 => some (.inl (((((10 : Int32) * s17.1) + v20) - (48 : Int32)), (s17.2 + (1 : Int32)))))) ((0 : Int32), v3) : Option (Int32)).bind fun s21 => if s21 ≤ a2 then ((fI M a0 16 6).bind fun v23 => (sI M a0 16 6 (v23 + (1 : Int32))).bind fun m24 => some (s21, m24)) else (some ((-1 : Int32), M)))
def m_Text_number : My := (yX9_number, cX9_number, 7, some .int, { frames := 0, cells := 0, slots := 0, locals := 0 }, [])
theorem yg_Text_number : YG (m_Text_number) := (at_gw 742 (by decide +kernel) rfl)
theorem ct_Text_number {X : Cx} {a0 : Nat} {a1 : Int32} {a2 : Int32} {M : Mem} {r : Int32 × Mem} (hE : F_Text_number a0 a1 a2 M = some r) : Ct X m_Text_number [.ref a0, .int a1, .int a2] M (oIM r) := by
  have xR : ∀ v : Int32 × Mem, r = v → r = v := fun _ q => q
  refine Ct.of (by decide +kernel) rfl rfl ?_
  unfold F_Text_number at hE
  refine g_aload_n (r := a0) dX9_number_0 rfl ?_
  replace hE := bd_s hE
  obtain ⟨v1, hv1, hE⟩ := hE
  refine g_fR dX9_number_1 fl_X9_19_6 rfl hv1 ?_
  refine g_aload_n (r := a0) dX9_number_4 rfl ?_
  replace hE := bd_s hE
  obtain ⟨v2, hv2, hE⟩ := hE
  refine g_fI dX9_number_5 fl_X9_30_6 rfl hv2 ?_
  replace hE := bd_s hE
  obtain ⟨v3, hv3, hE⟩ := hE
  refine g_aI dX9_number_8 hv3 ?_
  refine g_istore_n dX9_number_9 rfl ?_
  refine g_aload_n (r := a0) dX9_number_10 rfl ?_
  replace hE := bd_s hE
  obtain ⟨v4, hv4, hE⟩ := hE
  refine g_fR dX9_number_11 fl_X9_23_6 rfl hv4 ?_
  refine g_aload_n (r := a0) dX9_number_14 rfl ?_
  replace hE := bd_s hE
  obtain ⟨v5, hv5, hE⟩ := hE
  refine g_fI dX9_number_15 fl_X9_30_6 rfl hv5 ?_
  replace hE := bd_s hE
  obtain ⟨v6, hv6, hE⟩ := hE
  refine g_aI dX9_number_18 hv6 ?_
  refine g_istore dX9_number_19 rfl ?_
  refine g_aload_n (r := a0) dX9_number_21 rfl ?_
  replace hE := bd_s hE
  obtain ⟨v7, hv7, hE⟩ := hE
  refine g_fR dX9_number_22 fl_X9_13_6 rfl hv7 ?_
  refine g_aload_n (r := a0) dX9_number_25 rfl ?_
  replace hE := bd_s hE
  obtain ⟨v8, hv8, hE⟩ := hE
  refine g_fI dX9_number_26 fl_X9_30_6 rfl hv8 ?_
  replace hE := bd_s hE
  obtain ⟨v9, hv9, hE⟩ := hE
  refine g_aR dX9_number_29 rfl hv9 ?_
  refine g_tok (i := 0) dX9_number_30 tk_X9_60 (by decide) ?_
  replace hE := bd_s hE
  obtain ⟨h10, hh10, hE⟩ := hE
  replace hh10 := ck_s hh10
  replace hE := bd_s hE
  obtain ⟨b12, hE, hb1⟩ := hE
  have x1t : b12 = true → G X m_Text_number (endP X m_Text_number (oIM r)) 55 [.ref a0, .int a1, .int a2, .int v3, .int v6, .retAddr 0, .retAddr 0] [] 0 0 M := by
    intro q
    replace hE := ifb_t q hb1
    refine g_iconst (v := (-1 : Int32)) dX9_number_55 (by decide) ?_
    rw [xR ((-1 : Int32), M) (Option.some.inj hE).symm]
    exact g_iret dX9_number_56 rfl rfl
  have x1f : b12 = false → G X m_Text_number (endP X m_Text_number (oIM r)) 57 [.ref a0, .int a1, .int a2, .int v3, .int v6, .retAddr 0, .retAddr 0] [] 0 0 M := by
    intro q
    replace hE := ifb_f q hb1
    refine g_iconst (v := (0 : Int32)) dX9_number_57 (by decide) ?_
    refine g_istore dX9_number_58 rfl ?_
    refine g_iload_n (x := v3) dX9_number_60 rfl ?_
    refine g_istore dX9_number_61 rfl ?_
    replace hE := bd_s2 hE
    obtain ⟨e2, hE, hm2⟩ := hE
    have x2 : ∀ s21 : Int32, e2 = s21 → G X m_Text_number (endP X m_Text_number (oIM r)) 94 [.ref a0, .retAddr 0, .int a2, .retAddr 0, .retAddr 0, .int s21, .retAddr 0] [] 0 0 M := by
      intro s21 q
      replace hE := hm2 s21 q
      clear hm2
      refine g_iload (x := s21) dX9_number_94 rfl ?_
      refine g_iload_n (x := a2) dX9_number_96 rfl ?_
      refine g_icmp_le 102 dX9_number_97 (by decide) (fun q22 => ?_) (fun q22 => ?_)
      · replace hE := ife_p q22 hE
        refine g_aload_n (r := a0) dX9_number_102 rfl ?_
        refine g_dup dX9_number_103 rfl ?_
        replace hE := bd_s hE
        obtain ⟨v23, hv23, hE⟩ := hE
        refine g_fI dX9_number_104 fl_X9_30_6 rfl hv23 ?_
        refine g_iconst (v := (1 : Int32)) dX9_number_107 (by decide) ?_
        refine g_iadd dX9_number_108 ?_
        replace hE := bd_s hE
        obtain ⟨m24, hm24, hE⟩ := hE
        refine g_sI dX9_number_109 fl_X9_30_6w (by decide) hm24 ?_
        refine g_iload (x := s21) dX9_number_112 rfl ?_
        rw [xR (s21, m24) (Option.some.inj hE).symm]
        exact g_iret dX9_number_114 rfl rfl
      replace hE := ife_n q22 hE
      refine g_iconst (v := (-1 : Int32)) dX9_number_100 (by decide) ?_
      rw [xR ((-1 : Int32), M) (Option.some.inj hE).symm]
      exact g_iret dX9_number_101 rfl rfl
    clear hm2
    refine g_msk [true, false, true, false, true, true, true] ?_
    have hq3 := fun st => lpi (fun s17 : Int32 × Int32 => G X m_Text_number (endP X m_Text_number (oIM r)) 63 [.ref a0, .retAddr 0, .int a2, .retAddr 0, .int v6, .int s17.1, .int s17.2] [] 0 0 M) st _ _ hE
    refine hq3 ?_
    clear hq3 hE
    intro s17 e3 hE hc3 ho3
    have y4 := fun (v : Int32) (q : e3 = .inr (v)) => x2 v (ho3 _ q).symm
    clear ho3
    refine g_iload (x := s17.2) dX9_number_63 rfl ?_
    refine g_iload (x := v6) dX9_number_65 rfl ?_
    refine g_icmp_ge 94 dX9_number_67 (by decide) (fun q18 => ?_) (fun q18 => ?_)
    · replace hE := ife_p q18 hE
      refine g_msk [true, false, true, false, false, true, false] ?_
      exact y4 s17.1 (Option.some.inj hE).symm
    replace hE := ife_n q18 hE
    refine g_bipush (v := (10 : Int32)) dX9_number_70 (by decide) ?_
    refine g_iload (x := s17.1) dX9_number_72 rfl ?_
    refine g_imul dX9_number_74 ?_
    refine g_aload_n (r := a0) dX9_number_75 rfl ?_
    replace hE := bd_s hE
    obtain ⟨v19, hv19, hE⟩ := hE
    refine g_fR dX9_number_76 fl_X9_40_6 rfl hv19 ?_
    refine g_iload (x := s17.2) dX9_number_79 rfl ?_
    replace hE := bd_s hE
    obtain ⟨v20, hv20, hE⟩ := hE
    refine g_aI dX9_number_81 hv20 ?_
    refine g_iadd dX9_number_82 ?_
    refine g_bipush (v := (48 : Int32)) dX9_number_83 (by decide) ?_
    refine g_isub dX9_number_85 ?_
    refine g_istore dX9_number_86 rfl ?_
    refine g_iinc (s17.2 + (1 : Int32)) dX9_number_88 rfl (iinc_e (by decide)) rfl ?_
    refine g_goto 63 dX9_number_91 (by decide) ?_
    exact hc3 (((((10 : Int32) * s17.1) + v20) - (48 : Int32)), (s17.2 + (1 : Int32))) (Option.some.inj hE).symm
  clear hb1
  refine g_acmp_ne 55 dX9_number_33 (by decide) hh10 (fun q11 => ?_) (fun q11 => ?_)
  · replace hE := ife_n q11 hE
    exact x1t (Option.some.inj hE).symm
  replace hE := ife_p q11 hE
  refine g_iload (x := v6) dX9_number_36 rfl ?_
  refine g_iload_n (x := v3) dX9_number_38 rfl ?_
  refine g_isub dX9_number_39 ?_
  refine g_iload_n (x := a1) dX9_number_40 rfl ?_
  refine g_icmp_gt 55 dX9_number_41 (by decide) (fun q13 => ?_) (fun q13 => ?_)
  · replace hE := ife_p q13 hE
    exact x1t (Option.some.inj hE).symm
  replace hE := ife_n q13 hE
  refine g_aload_n (r := a0) dX9_number_44 rfl ?_
  replace hE := bd_s hE
  obtain ⟨v14, hv14, hE⟩ := hE
  refine g_fI dX9_number_45 fl_X9_30_6 rfl hv14 ?_
  refine g_aload_n (r := a0) dX9_number_48 rfl ?_
  replace hE := bd_s hE
  obtain ⟨v15, hv15, hE⟩ := hE
  refine g_fI dX9_number_49 fl_X9_26_6 rfl hv15 ?_
  refine g_icmp_lt 57 dX9_number_52 (by decide) (fun q16 => ?_) (fun q16 => ?_)
  · replace hE := ife_p q16 hE
    exact x1f (Option.some.inj hE).symm
  replace hE := ife_n q16 hE
  exact x1t (Option.some.inj hE).symm
theorem dX9_take_0 : decode cX9_take 0 = .ok (.aload_n 0, 1) := by decide +kernel
theorem dX9_take_1 : decode cX9_take 1 = .ok (.getfield 13, 3) := by decide +kernel
theorem dX9_take_4 : decode cX9_take 4 = .ok (.aload_n 0, 1) := by decide +kernel
theorem dX9_take_5 : decode cX9_take 5 = .ok (.getfield 30, 3) := by decide +kernel
theorem dX9_take_8 : decode cX9_take 8 = .ok (.aaload, 1) := by decide +kernel
theorem dX9_take_9 : decode cX9_take 9 = .ok (.aload_n 1, 1) := by decide +kernel
theorem dX9_take_10 : decode cX9_take 10 = .ok (.if_acmp .ne 14, 3) := by decide +kernel
theorem dX9_take_13 : decode cX9_take 13 = .ok (.aload_n 0, 1) := by decide +kernel
theorem dX9_take_14 : decode cX9_take 14 = .ok (.getfield 30, 3) := by decide +kernel
theorem dX9_take_17 : decode cX9_take 17 = .ok (.aload_n 0, 1) := by decide +kernel
theorem dX9_take_18 : decode cX9_take 18 = .ok (.getfield 26, 3) := by decide +kernel
theorem dX9_take_21 : decode cX9_take 21 = .ok (.if_icmp .lt 5, 3) := by decide +kernel
theorem dX9_take_24 : decode cX9_take 24 = .ok (.iconst 0, 1) := by decide +kernel
theorem dX9_take_25 : decode cX9_take 25 = .ok (.ireturn, 1) := by decide +kernel
theorem dX9_take_26 : decode cX9_take 26 = .ok (.aload_n 0, 1) := by decide +kernel
theorem dX9_take_27 : decode cX9_take 27 = .ok (.dup, 1) := by decide +kernel
theorem dX9_take_28 : decode cX9_take 28 = .ok (.getfield 30, 3) := by decide +kernel
theorem dX9_take_31 : decode cX9_take 31 = .ok (.iconst 1, 1) := by decide +kernel
theorem dX9_take_32 : decode cX9_take 32 = .ok (.iadd, 1) := by decide +kernel
theorem dX9_take_33 : decode cX9_take 33 = .ok (.putfield 30, 3) := by decide +kernel
theorem dX9_take_36 : decode cX9_take 36 = .ok (.iconst 1, 1) := by decide +kernel
theorem dX9_take_37 : decode cX9_take 37 = .ok (.ireturn, 1) := by decide +kernel
def F_Text_take (a0 : Nat) (a1 : Nat) (M : Mem) : Option (Int32 × Mem) := (fR M a0 16 2).bind fun v1 => (fI M a0 16 6).bind fun v2 => (aR M v1 4 v2).bind fun v3 => (ck (v3 ≤ 36 ∧ a1 ≤ 36)).bind fun h4 => (if v3 = a1 then ((fI M a0 16 6).bind fun v7 => (fI M a0 16 5).bind fun v8 => if v7 < v8 then (some false) else (some true)) else (some true) : Option Bool).bind fun b6 => if b6 = true then (some ((0 : Int32), M)) else ((fI M a0 16 6).bind fun v10 => (sI M a0 16 6 (v10 + (1 : Int32))).bind fun m11 => some ((1 : Int32), m11))
def m_Text_take : My := (yX9_take, cX9_take, 2, some .boolean, { frames := 0, cells := 0, slots := 0, locals := 0 }, [])
theorem yg_Text_take : YG (m_Text_take) := (at_gw 748 (by decide +kernel) rfl)
theorem ct_Text_take {X : Cx} {a0 : Nat} {a1 : Nat} {M : Mem} {r : Int32 × Mem} (hE : F_Text_take a0 a1 M = some r) : Ct X m_Text_take [.ref a0, .ref a1] M (oIM r) := by
  have xR : ∀ v : Int32 × Mem, r = v → r = v := fun _ q => q
  refine Ct.of (by decide +kernel) rfl rfl ?_
  unfold F_Text_take at hE
  refine g_aload_n (r := a0) dX9_take_0 rfl ?_
  replace hE := bd_s hE
  obtain ⟨v1, hv1, hE⟩ := hE
  refine g_fR dX9_take_1 fl_X9_13_6 rfl hv1 ?_
  refine g_aload_n (r := a0) dX9_take_4 rfl ?_
  replace hE := bd_s hE
  obtain ⟨v2, hv2, hE⟩ := hE
  refine g_fI dX9_take_5 fl_X9_30_6 rfl hv2 ?_
  replace hE := bd_s hE
  obtain ⟨v3, hv3, hE⟩ := hE
  refine g_aR dX9_take_8 rfl hv3 ?_
  refine g_aload_n (r := a1) dX9_take_9 rfl ?_
  replace hE := bd_s hE
  obtain ⟨h4, hh4, hE⟩ := hE
  replace hh4 := ck_s hh4
  replace hE := bd_s hE
  obtain ⟨b6, hE, hb1⟩ := hE
  have x1t : b6 = true → G X m_Text_take (endP X m_Text_take (oIM r)) 24 [.ref a0, .ref a1] [] 0 0 M := by
    intro q
    replace hE := ifb_t q hb1
    refine g_iconst (v := (0 : Int32)) dX9_take_24 (by decide) ?_
    rw [xR ((0 : Int32), M) (Option.some.inj hE).symm]
    exact g_zret dX9_take_25 rfl (Or.inl rfl) rfl
  have x1f : b6 = false → G X m_Text_take (endP X m_Text_take (oIM r)) 26 [.ref a0, .ref a1] [] 0 0 M := by
    intro q
    replace hE := ifb_f q hb1
    refine g_aload_n (r := a0) dX9_take_26 rfl ?_
    refine g_dup dX9_take_27 rfl ?_
    replace hE := bd_s hE
    obtain ⟨v10, hv10, hE⟩ := hE
    refine g_fI dX9_take_28 fl_X9_30_6 rfl hv10 ?_
    refine g_iconst (v := (1 : Int32)) dX9_take_31 (by decide) ?_
    refine g_iadd dX9_take_32 ?_
    replace hE := bd_s hE
    obtain ⟨m11, hm11, hE⟩ := hE
    refine g_sI dX9_take_33 fl_X9_30_6w (by decide) hm11 ?_
    refine g_iconst (v := (1 : Int32)) dX9_take_36 (by decide) ?_
    rw [xR ((1 : Int32), m11) (Option.some.inj hE).symm]
    exact g_zret dX9_take_37 rfl (Or.inr rfl) rfl
  clear hb1
  refine g_acmp_ne 24 dX9_take_10 (by decide) hh4 (fun q5 => ?_) (fun q5 => ?_)
  · replace hE := ife_n q5 hE
    exact x1t (Option.some.inj hE).symm
  replace hE := ife_p q5 hE
  refine g_aload_n (r := a0) dX9_take_13 rfl ?_
  replace hE := bd_s hE
  obtain ⟨v7, hv7, hE⟩ := hE
  refine g_fI dX9_take_14 fl_X9_30_6 rfl hv7 ?_
  refine g_aload_n (r := a0) dX9_take_17 rfl ?_
  replace hE := bd_s hE
  obtain ⟨v8, hv8, hE⟩ := hE
  refine g_fI dX9_take_18 fl_X9_26_6 rfl hv8 ?_
  refine g_icmp_lt 26 dX9_take_21 (by decide) (fun q9 => ?_) (fun q9 => ?_)
  · replace hE := ife_p q9 hE
    exact x1f (Option.some.inj hE).symm
  replace hE := ife_n q9 hE
  exact x1t (Option.some.inj hE).symm
theorem dX4_readSum_0 : decode cX4_readSum 0 = .ok (.iconst 0, 1) := by decide +kernel
theorem dX4_readSum_1 : decode cX4_readSum 1 = .ok (.istore_n 1, 1) := by decide +kernel
theorem dX4_readSum_2 : decode cX4_readSum 2 = .ok (.iconst 0, 1) := by decide +kernel
theorem dX4_readSum_3 : decode cX4_readSum 3 = .ok (.istore_n 2, 1) := by decide +kernel
theorem dX4_readSum_4 : decode cX4_readSum 4 = .ok (.iload_n 2, 1) := by decide +kernel
theorem dX4_readSum_5 : decode cX4_readSum 5 = .ok (.sipush 400, 3) := by decide +kernel
theorem dX4_readSum_8 : decode cX4_readSum 8 = .ok (.if_icmp .ge 105, 3) := by decide +kernel
theorem dX4_readSum_11 : decode cX4_readSum 11 = .ok (.aload_n 0, 1) := by decide +kernel
theorem dX4_readSum_12 : decode cX4_readSum 12 = .ok (.getfield 33, 3) := by decide +kernel
theorem dX4_readSum_15 : decode cX4_readSum 15 = .ok (.invokevirtual 37, 3) := by decide +kernel
theorem dX4_readSum_18 : decode cX4_readSum 18 = .ok (.astore_n 3, 1) := by decide +kernel
theorem dX4_readSum_19 : decode cX4_readSum 19 = .ok (.iconst 0, 1) := by decide +kernel
theorem dX4_readSum_20 : decode cX4_readSum 20 = .ok (.istore 4, 2) := by decide +kernel
theorem dX4_readSum_22 : decode cX4_readSum 22 = .ok (.aload_n 3, 1) := by decide +kernel
theorem dX4_readSum_23 : decode cX4_readSum 23 = .ok (.getstatic 111, 3) := by decide +kernel
theorem dX4_readSum_26 : decode cX4_readSum 26 = .ok (.if_acmp .ne 19, 3) := by decide +kernel
theorem dX4_readSum_29 : decode cX4_readSum 29 = .ok (.aload_n 0, 1) := by decide +kernel
theorem dX4_readSum_30 : decode cX4_readSum 30 = .ok (.getfield 33, 3) := by decide +kernel
theorem dX4_readSum_33 : decode cX4_readSum 33 = .ok (.iconst 3, 1) := by decide +kernel
theorem dX4_readSum_34 : decode cX4_readSum 34 = .ok (.sipush 999, 3) := by decide +kernel
theorem dX4_readSum_37 : decode cX4_readSum 37 = .ok (.invokevirtual 54, 3) := by decide +kernel
theorem dX4_readSum_40 : decode cX4_readSum 40 = .ok (.istore 4, 2) := by decide +kernel
theorem dX4_readSum_42 : decode cX4_readSum 42 = .ok (.goto 22, 3) := by decide +kernel
theorem dX4_readSum_45 : decode cX4_readSum 45 = .ok (.aload_n 3, 1) := by decide +kernel
theorem dX4_readSum_46 : decode cX4_readSum 46 = .ok (.invokestatic 114, 3) := by decide +kernel
theorem dX4_readSum_49 : decode cX4_readSum 49 = .ok (.ifCond .eq 13, 3) := by decide +kernel
theorem dX4_readSum_52 : decode cX4_readSum 52 = .ok (.aload_n 0, 1) := by decide +kernel
theorem dX4_readSum_53 : decode cX4_readSum 53 = .ok (.getfield 33, 3) := by decide +kernel
theorem dX4_readSum_56 : decode cX4_readSum 56 = .ok (.invokevirtual 50, 3) := by decide +kernel
theorem dX4_readSum_59 : decode cX4_readSum 59 = .ok (.goto 5, 3) := by decide +kernel
theorem dX4_readSum_62 : decode cX4_readSum 62 = .ok (.iconst 0, 1) := by decide +kernel
theorem dX4_readSum_63 : decode cX4_readSum 63 = .ok (.ireturn, 1) := by decide +kernel
theorem dX4_readSum_64 : decode cX4_readSum 64 = .ok (.iload 4, 2) := by decide +kernel
theorem dX4_readSum_66 : decode cX4_readSum 66 = .ok (.ifCond .ge 5, 3) := by decide +kernel
theorem dX4_readSum_69 : decode cX4_readSum 69 = .ok (.iconst 0, 1) := by decide +kernel
theorem dX4_readSum_70 : decode cX4_readSum 70 = .ok (.ireturn, 1) := by decide +kernel
theorem dX4_readSum_71 : decode cX4_readSum 71 = .ok (.aload_n 0, 1) := by decide +kernel
theorem dX4_readSum_72 : decode cX4_readSum 72 = .ok (.aload_n 3, 1) := by decide +kernel
theorem dX4_readSum_73 : decode cX4_readSum 73 = .ok (.iload 4, 2) := by decide +kernel
theorem dX4_readSum_75 : decode cX4_readSum 75 = .ok (.invokevirtual 68, 3) := by decide +kernel
theorem dX4_readSum_78 : decode cX4_readSum 78 = .ok (.iload_n 1, 1) := by decide +kernel
theorem dX4_readSum_79 : decode cX4_readSum 79 = .ok (.ifCond .eq 11, 3) := by decide +kernel
theorem dX4_readSum_82 : decode cX4_readSum 82 = .ok (.aload_n 0, 1) := by decide +kernel
theorem dX4_readSum_83 : decode cX4_readSum 83 = .ok (.getstatic 117, 3) := by decide +kernel
theorem dX4_readSum_86 : decode cX4_readSum 86 = .ok (.iconst 0, 1) := by decide +kernel
theorem dX4_readSum_87 : decode cX4_readSum 87 = .ok (.invokevirtual 68, 3) := by decide +kernel
theorem dX4_readSum_90 : decode cX4_readSum 90 = .ok (.aload_n 0, 1) := by decide +kernel
theorem dX4_readSum_91 : decode cX4_readSum 91 = .ok (.getfield 33, 3) := by decide +kernel
theorem dX4_readSum_94 : decode cX4_readSum 94 = .ok (.getstatic 117, 3) := by decide +kernel
theorem dX4_readSum_97 : decode cX4_readSum 97 = .ok (.invokevirtual 61, 3) := by decide +kernel
theorem dX4_readSum_100 : decode cX4_readSum 100 = .ok (.ifCond .ne 5, 3) := by decide +kernel
theorem dX4_readSum_103 : decode cX4_readSum 103 = .ok (.iconst 1, 1) := by decide +kernel
theorem dX4_readSum_104 : decode cX4_readSum 104 = .ok (.ireturn, 1) := by decide +kernel
theorem dX4_readSum_105 : decode cX4_readSum 105 = .ok (.iconst 1, 1) := by decide +kernel
theorem dX4_readSum_106 : decode cX4_readSum 106 = .ok (.istore_n 1, 1) := by decide +kernel
theorem dX4_readSum_107 : decode cX4_readSum 107 = .ok (.iinc 2 1, 3) := by decide +kernel
theorem dX4_readSum_110 : decode cX4_readSum 110 = .ok (.goto (-106), 3) := by decide +kernel
theorem dX4_readSum_113 : decode cX4_readSum 113 = .ok (.iconst 0, 1) := by decide +kernel
theorem dX4_readSum_114 : decode cX4_readSum 114 = .ok (.ireturn, 1) := by decide +kernel
def F_LawReader_readSum (a0 : Nat) (M : Mem) : Option (Int32 × Mem) := loopN LIM (fun s1 : Int32 × Int32 × Mem => if (400 : Int32) ≤ s1.2.1 then (some (.inr (((0 : Int32), s1.2.2)))) else ((fR s1.2.2 a0 13 0).bind fun v3 => (ck (qS s1.2.2 v3 = 16)).bind fun h5 => (F_Text_token v3 s1.2.2).bind fun v4 => (ck (v4 ≠ 0)).bind fun h6 => (ck (v4 ≤ 36 ∧ 1 ≤ 36)).bind fun h7 => bdS (V := Int32 × Mem) (if v4 = 1 then ((fR s1.2.2 a0 13 0).bind fun v14 => (ck (qS s1.2.2 v14 = 16)).bind fun h16 => (F_Text_number v14 (3 : Int32) (999 : Int32) s1.2.2).bind fun v15 => some (.inl (v15.1, v15.2))) else ((F_Law_isFact v4 s1.2.2).bind fun v9 => if v9 = 0 then (some (.inr (.inr (((0 : Int32), s1.2.2))))) else ((fR s1.2.2 a0 13 0).bind fun v11 => (ck (qS s1.2.2 v11 = 16)).bind fun h13 => (F_Text_advance v11 s1.2.2).bind fun v12 => some (.inl ((0 : Int32), v12))))) fun s17 => if 0 ≤ s17.1 then ((ck (qS s17.2 a0 = 13)).bind fun h20 => (F_LawReader_write a0 v4 s17.1 s17.2).bind fun v19 => (if s1.1 = 0 then (some (v19)) else ((ck (qS v19 a0 = 13)).bind fun h23 => (F_LawReader_write a0 8 (0 : Int32) v19).bind fun v22 => some (v22)) : Option (Mem)).bind fun s24 => (fR s24 a0 13 0).bind fun v25 => (ck (qS s24 v25 = 16)).bind fun h27 => (F_Text_take v25 8 s24).bind fun v26 => if v26.1 = 0 then (some (.inr (((1 : Int32), v26.2)))) else (some (.inl ((1 : Int32), (s1.2.1 + (1 : Int32)), v26.2)))) else (some (.inr (((0 : Int32), s17.2)))))) ((0 : Int32), (0 : Int32), M)
def m_LawReader_readSum : My := (yX4_readSum, cX4_readSum, 5, some .boolean, { frames := 2, cells := 0, slots := 0, locals := 40 }, [])
theorem yg_LawReader_readSum : YG (m_LawReader_readSum) := (at_gw 778 (by decide +kernel) rfl)
theorem ct_LawReader_readSum {X : Cx} {a0 : Nat} {M : Mem} {r : Int32 × Mem} (hE : F_LawReader_readSum a0 M = some r) : Ct X m_LawReader_readSum [.ref a0] M (oIM r) := by
  have xR : ∀ v : Int32 × Mem, r = v → r = v := fun _ q => q
  refine Ct.of (by decide +kernel) rfl rfl ?_
  unfold F_LawReader_readSum at hE
  refine g_iconst (v := (0 : Int32)) dX4_readSum_0 (by decide) ?_
  refine g_istore_n dX4_readSum_1 rfl ?_
  refine g_iconst (v := (0 : Int32)) dX4_readSum_2 (by decide) ?_
  refine g_istore_n dX4_readSum_3 rfl ?_
  have hq1 := fun st => lpi (fun s1 : Int32 × Int32 × Mem => G X m_LawReader_readSum (endP X m_LawReader_readSum (oIM r)) 4 [.ref a0, .int s1.1, .int s1.2.1, .retAddr 0, .retAddr 0] [] 0 0 s1.2.2) st _ _ hE
  refine hq1 ?_
  clear hq1 hE
  intro s1 e1 hE hc1 ho1
  have y2 := fun (v : Int32 × Mem) (q : e1 = .inr (v)) => xR v (ho1 _ q).symm
  clear ho1
  refine g_iload_n (x := s1.2.1) dX4_readSum_4 rfl ?_
  refine g_sipush (v := (400 : Int32)) dX4_readSum_5 (by decide) ?_
  refine g_icmp_ge 113 dX4_readSum_8 (by decide) (fun q2 => ?_) (fun q2 => ?_)
  · replace hE := ife_p q2 hE
    refine g_iconst (v := (0 : Int32)) dX4_readSum_113 (by decide) ?_
    rw [y2 ((0 : Int32), s1.2.2) (Option.some.inj hE).symm]
    exact g_zret dX4_readSum_114 rfl (Or.inl rfl) rfl
  replace hE := ife_n q2 hE
  refine g_aload_n (r := a0) dX4_readSum_11 rfl ?_
  replace hE := bd_s hE
  obtain ⟨v3, hv3, hE⟩ := hE
  refine g_fR dX4_readSum_12 fl_X4_33_3 rfl hv3 ?_
  replace hE := bd_s hE
  obtain ⟨h5, hh5, hE⟩ := hE
  replace hh5 := ck_s hh5
  replace hE := bd_s hE
  obtain ⟨v4, hv4, hE⟩ := hE
  refine g_callV (as := []) (rvs := [.ref v4]) 0 0 dX4_readSum_15 yg_Text_token vl_X4_37 (ct_Text_token hv4) (RC.obj hh5 (by decide) cl_6.1) rfl rfl rfl (Nat.le_of_ble_eq_true rfl) rfl rfl rfl ?_
  replace hE := bd_s hE
  obtain ⟨h6, hh6, hE⟩ := hE
  replace hh6 := ck_s hh6
  refine g_astore_n dX4_readSum_18 rfl hh6 ?_
  refine g_iconst (v := (0 : Int32)) dX4_readSum_19 (by decide) ?_
  refine g_istore dX4_readSum_20 rfl ?_
  refine g_aload_n (r := v4) dX4_readSum_22 rfl ?_
  refine g_tok (i := 0) dX4_readSum_23 tk_X4_111 (by decide) ?_
  replace hE := bd_s hE
  obtain ⟨h7, hh7, hE⟩ := hE
  replace hh7 := ck_s hh7
  replace hE := bdS_s hE
  obtain ⟨e3, hE, hm3, ho3⟩ := hE
  have x3 : ∀ s17 : Int32 × Mem, e3 = .inl s17 → G X m_LawReader_readSum (endP X m_LawReader_readSum (oIM r)) 64 [.ref a0, .int s1.1, .int s1.2.1, .ref v4, .int s17.1] [] 0 0 s17.2 := by
    intro s17 q
    replace hE := hm3 s17 q
    clear hm3
    refine g_iload (x := s17.1) dX4_readSum_64 rfl ?_
    refine g_if_ge 71 dX4_readSum_66 (by decide) (fun q18 => ?_) (fun q18 => ?_)
    · replace hE := ife_p q18 hE
      refine g_aload_n (r := a0) dX4_readSum_71 rfl ?_
      refine g_aload_n (r := v4) dX4_readSum_72 rfl ?_
      refine g_iload (x := s17.1) dX4_readSum_73 rfl ?_
      replace hE := bd_s hE
      obtain ⟨h20, hh20, hE⟩ := hE
      replace hh20 := ck_s hh20
      replace hE := bd_s hE
      obtain ⟨v19, hv19, hE⟩ := hE
      refine g_callV (as := [.ref v4, .int s17.1]) (rvs := []) 0 0 dX4_readSum_75 yg_LawReader_write vl_X4_68 (ct_LawReader_write hv19) (RC.obj hh20 (by decide) cl_3.1) rfl rfl rfl (Nat.le_of_ble_eq_true rfl) rfl rfl rfl ?_
      refine g_iload_n (x := s1.1) dX4_readSum_78 rfl ?_
      replace hE := bd_s2 hE
      obtain ⟨e4, hE, hm4⟩ := hE
      have x4 : ∀ s24 : Mem, e4 = s24 → G X m_LawReader_readSum (endP X m_LawReader_readSum (oIM r)) 90 [.ref a0, .retAddr 0, .int s1.2.1, .retAddr 0, .retAddr 0] [] 0 0 s24 := by
        intro s24 q
        replace hE := hm4 s24 q
        clear hm4
        refine g_aload_n (r := a0) dX4_readSum_90 rfl ?_
        replace hE := bd_s hE
        obtain ⟨v25, hv25, hE⟩ := hE
        refine g_fR dX4_readSum_91 fl_X4_33_3 rfl hv25 ?_
        refine g_tok (i := 7) dX4_readSum_94 tk_X4_117 (by decide) ?_
        replace hE := bd_s hE
        obtain ⟨h27, hh27, hE⟩ := hE
        replace hh27 := ck_s hh27
        replace hE := bd_s hE
        obtain ⟨v26, hv26, hE⟩ := hE
        refine g_callV (as := [.ref 8]) (rvs := [.int v26.1]) 0 0 dX4_readSum_97 yg_Text_take vl_X4_61 (ct_Text_take hv26) (RC.obj hh27 (by decide) cl_6.1) rfl rfl rfl (Nat.le_of_ble_eq_true rfl) rfl rfl rfl ?_
        refine g_if_ne 105 dX4_readSum_100 (by decide) (fun q28 => ?_) (fun q28 => ?_)
        · replace hE := ife_n q28 hE
          refine g_iconst (v := (1 : Int32)) dX4_readSum_105 (by decide) ?_
          refine g_istore_n dX4_readSum_106 rfl ?_
          refine g_iinc (s1.2.1 + (1 : Int32)) dX4_readSum_107 rfl (iinc_e (by decide)) rfl ?_
          refine g_goto 4 dX4_readSum_110 (by decide) ?_
          exact hc1 ((1 : Int32), (s1.2.1 + (1 : Int32)), v26.2) (Option.some.inj hE).symm
        replace hE := ife_p q28 hE
        refine g_iconst (v := (1 : Int32)) dX4_readSum_103 (by decide) ?_
        rw [y2 ((1 : Int32), v26.2) (Option.some.inj hE).symm]
        exact g_zret dX4_readSum_104 rfl (Or.inr rfl) rfl
      clear hm4
      refine g_if_eq 90 dX4_readSum_79 (by decide) (fun q21 => ?_) (fun q21 => ?_)
      · replace hE := ife_p q21 hE
        refine g_msk [true, false, true, false, false] ?_
        exact x4 v19 (Option.some.inj hE).symm
      replace hE := ife_n q21 hE
      refine g_aload_n (r := a0) dX4_readSum_82 rfl ?_
      refine g_tok (i := 7) dX4_readSum_83 tk_X4_117 (by decide) ?_
      refine g_iconst (v := (0 : Int32)) dX4_readSum_86 (by decide) ?_
      replace hE := bd_s hE
      obtain ⟨h23, hh23, hE⟩ := hE
      replace hh23 := ck_s hh23
      replace hE := bd_s hE
      obtain ⟨v22, hv22, hE⟩ := hE
      refine g_callV (as := [.ref 8, .int (0 : Int32)]) (rvs := []) 0 0 dX4_readSum_87 yg_LawReader_write vl_X4_68 (ct_LawReader_write hv22) (RC.obj hh23 (by decide) cl_3.1) rfl rfl rfl (Nat.le_of_ble_eq_true rfl) rfl rfl rfl ?_
      refine g_msk [true, false, true, false, false] ?_
      exact x4 v22 (Option.some.inj hE).symm
    replace hE := ife_n q18 hE
    refine g_iconst (v := (0 : Int32)) dX4_readSum_69 (by decide) ?_
    rw [y2 ((0 : Int32), s17.2) (Option.some.inj hE).symm]
    exact g_zret dX4_readSum_70 rfl (Or.inl rfl) rfl
  clear hm3
  have y5 := fun (v : Int32 × Mem) (q : e3 = .inr (.inr (v))) => y2 v (ho3 _ q).symm
  clear ho3
  refine g_acmp_ne 45 dX4_readSum_26 (by decide) hh7 (fun q8 => ?_) (fun q8 => ?_)
  · replace hE := ife_n q8 hE
    refine g_aload_n (r := v4) dX4_readSum_45 rfl ?_
    replace hE := bd_s hE
    obtain ⟨v9, hv9, hE⟩ := hE
    refine g_callS (as := [.ref v4]) (rvs := [.int v9]) 0 0 dX4_readSum_46 yg_Law_isFact sl_X4_114 (ct_Law_isFact hv9) rfl rfl rfl (Nat.le_of_ble_eq_true rfl) rfl rfl rfl ?_
    refine g_if_eq 62 dX4_readSum_49 (by decide) (fun q10 => ?_) (fun q10 => ?_)
    · replace hE := ife_p q10 hE
      refine g_iconst (v := (0 : Int32)) dX4_readSum_62 (by decide) ?_
      rw [y5 ((0 : Int32), s1.2.2) (Option.some.inj hE).symm]
      exact g_zret dX4_readSum_63 rfl (Or.inl rfl) rfl
    replace hE := ife_n q10 hE
    refine g_aload_n (r := a0) dX4_readSum_52 rfl ?_
    replace hE := bd_s hE
    obtain ⟨v11, hv11, hE⟩ := hE
    refine g_fR dX4_readSum_53 fl_X4_33_3 rfl hv11 ?_
    replace hE := bd_s hE
    obtain ⟨h13, hh13, hE⟩ := hE
    replace hh13 := ck_s hh13
    replace hE := bd_s hE
    obtain ⟨v12, hv12, hE⟩ := hE
    refine g_callV (as := []) (rvs := []) 0 0 dX4_readSum_56 yg_Text_advance vl_X4_50 (ct_Text_advance hv12) (RC.obj hh13 (by decide) cl_6.1) rfl rfl rfl (Nat.le_of_ble_eq_true rfl) rfl rfl rfl ?_
    refine g_goto 64 dX4_readSum_59 (by decide) ?_
    exact x3 ((0 : Int32), v12) (Option.some.inj hE).symm
  replace hE := ife_p q8 hE
  refine g_aload_n (r := a0) dX4_readSum_29 rfl ?_
  replace hE := bd_s hE
  obtain ⟨v14, hv14, hE⟩ := hE
  refine g_fR dX4_readSum_30 fl_X4_33_3 rfl hv14 ?_
  refine g_iconst (v := (3 : Int32)) dX4_readSum_33 (by decide) ?_
  refine g_sipush (v := (999 : Int32)) dX4_readSum_34 (by decide) ?_
  replace hE := bd_s hE
  obtain ⟨h16, hh16, hE⟩ := hE
  replace hh16 := ck_s hh16
  replace hE := bd_s hE
  obtain ⟨v15, hv15, hE⟩ := hE
  refine g_callV (as := [.int (3 : Int32), .int (999 : Int32)]) (rvs := [.int v15.1]) 0 0 dX4_readSum_37 yg_Text_number vl_X4_54 (ct_Text_number hv15) (RC.obj hh16 (by decide) cl_6.1) rfl rfl rfl (Nat.le_of_ble_eq_true rfl) rfl rfl rfl ?_
  refine g_istore dX4_readSum_40 rfl ?_
  refine g_goto 64 dX4_readSum_42 (by decide) ?_
  exact x3 (v15.1, v15.2) (Option.some.inj hE).symm
theorem dX4_readDeeper_0 : decode cX4_readDeeper 0 = .ok (.aload_n 0, 1) := by decide +kernel
theorem dX4_readDeeper_1 : decode cX4_readDeeper 1 = .ok (.getfield 33, 3) := by decide +kernel
theorem dX4_readDeeper_4 : decode cX4_readDeeper 4 = .ok (.invokevirtual 50, 3) := by decide +kernel
theorem dX4_readDeeper_7 : decode cX4_readDeeper 7 = .ok (.aload_n 1, 1) := by decide +kernel
theorem dX4_readDeeper_8 : decode cX4_readDeeper 8 = .ok (.getstatic 88, 3) := by decide +kernel
theorem dX4_readDeeper_11 : decode cX4_readDeeper 11 = .ok (.if_acmp .ne 30, 3) := by decide +kernel
theorem dX4_readDeeper_14 : decode cX4_readDeeper 14 = .ok (.aload_n 0, 1) := by decide +kernel
theorem dX4_readDeeper_15 : decode cX4_readDeeper 15 = .ok (.iload_n 2, 1) := by decide +kernel
theorem dX4_readDeeper_16 : decode cX4_readDeeper 16 = .ok (.invokevirtual 72, 3) := by decide +kernel
theorem dX4_readDeeper_19 : decode cX4_readDeeper 19 = .ok (.ifCond .eq 20, 3) := by decide +kernel
theorem dX4_readDeeper_22 : decode cX4_readDeeper 22 = .ok (.aload_n 0, 1) := by decide +kernel
theorem dX4_readDeeper_23 : decode cX4_readDeeper 23 = .ok (.getfield 33, 3) := by decide +kernel
theorem dX4_readDeeper_26 : decode cX4_readDeeper 26 = .ok (.getstatic 108, 3) := by decide +kernel
theorem dX4_readDeeper_29 : decode cX4_readDeeper 29 = .ok (.invokevirtual 61, 3) := by decide +kernel
theorem dX4_readDeeper_32 : decode cX4_readDeeper 32 = .ok (.ifCond .eq 7, 3) := by decide +kernel
theorem dX4_readDeeper_35 : decode cX4_readDeeper 35 = .ok (.iconst 1, 1) := by decide +kernel
theorem dX4_readDeeper_36 : decode cX4_readDeeper 36 = .ok (.goto 4, 3) := by decide +kernel
theorem dX4_readDeeper_39 : decode cX4_readDeeper 39 = .ok (.iconst 0, 1) := by decide +kernel
theorem dX4_readDeeper_40 : decode cX4_readDeeper 40 = .ok (.ireturn, 1) := by decide +kernel
theorem dX4_readDeeper_41 : decode cX4_readDeeper 41 = .ok (.aload_n 0, 1) := by decide +kernel
theorem dX4_readDeeper_42 : decode cX4_readDeeper 42 = .ok (.iload_n 2, 1) := by decide +kernel
theorem dX4_readDeeper_43 : decode cX4_readDeeper 43 = .ok (.invokevirtual 76, 3) := by decide +kernel
theorem dX4_readDeeper_46 : decode cX4_readDeeper 46 = .ok (.ifCond .ne 5, 3) := by decide +kernel
theorem dX4_readDeeper_49 : decode cX4_readDeeper 49 = .ok (.iconst 0, 1) := by decide +kernel
theorem dX4_readDeeper_50 : decode cX4_readDeeper 50 = .ok (.ireturn, 1) := by decide +kernel
theorem dX4_readDeeper_51 : decode cX4_readDeeper 51 = .ok (.aload_n 0, 1) := by decide +kernel
theorem dX4_readDeeper_52 : decode cX4_readDeeper 52 = .ok (.aload_n 1, 1) := by decide +kernel
theorem dX4_readDeeper_53 : decode cX4_readDeeper 53 = .ok (.iconst 0, 1) := by decide +kernel
theorem dX4_readDeeper_54 : decode cX4_readDeeper 54 = .ok (.invokevirtual 68, 3) := by decide +kernel
theorem dX4_readDeeper_57 : decode cX4_readDeeper 57 = .ok (.iconst 1, 1) := by decide +kernel
theorem dX4_readDeeper_58 : decode cX4_readDeeper 58 = .ok (.ireturn, 1) := by decide +kernel
theorem dX4_readAtom_0 : decode cX4_readAtom 0 = .ok (.aload_n 0, 1) := by decide +kernel
theorem dX4_readAtom_1 : decode cX4_readAtom 1 = .ok (.getfield 33, 3) := by decide +kernel
theorem dX4_readAtom_4 : decode cX4_readAtom 4 = .ok (.invokevirtual 37, 3) := by decide +kernel
theorem dX4_readAtom_7 : decode cX4_readAtom 7 = .ok (.astore_n 2, 1) := by decide +kernel
theorem dX4_readAtom_8 : decode cX4_readAtom 8 = .ok (.aload_n 2, 1) := by decide +kernel
theorem dX4_readAtom_9 : decode cX4_readAtom 9 = .ok (.getstatic 85, 3) := by decide +kernel
theorem dX4_readAtom_12 : decode cX4_readAtom 12 = .ok (.if_acmp .eq 10, 3) := by decide +kernel
theorem dX4_readAtom_15 : decode cX4_readAtom 15 = .ok (.aload_n 2, 1) := by decide +kernel
theorem dX4_readAtom_16 : decode cX4_readAtom 16 = .ok (.getstatic 88, 3) := by decide +kernel
theorem dX4_readAtom_19 : decode cX4_readAtom 19 = .ok (.if_acmp .ne 26, 3) := by decide +kernel
theorem dX4_readAtom_22 : decode cX4_readAtom 22 = .ok (.iload_n 1, 1) := by decide +kernel
theorem dX4_readAtom_23 : decode cX4_readAtom 23 = .ok (.bipush 6, 2) := by decide +kernel
theorem dX4_readAtom_25 : decode cX4_readAtom 25 = .ok (.if_icmp .ge 18, 3) := by decide +kernel
theorem dX4_readAtom_28 : decode cX4_readAtom 28 = .ok (.aload_n 0, 1) := by decide +kernel
theorem dX4_readAtom_29 : decode cX4_readAtom 29 = .ok (.aload_n 2, 1) := by decide +kernel
theorem dX4_readAtom_30 : decode cX4_readAtom 30 = .ok (.iload_n 1, 1) := by decide +kernel
theorem dX4_readAtom_31 : decode cX4_readAtom 31 = .ok (.iconst 1, 1) := by decide +kernel
theorem dX4_readAtom_32 : decode cX4_readAtom 32 = .ok (.iadd, 1) := by decide +kernel
theorem dX4_readAtom_33 : decode cX4_readAtom 33 = .ok (.invokevirtual 91, 3) := by decide +kernel
theorem dX4_readAtom_36 : decode cX4_readAtom 36 = .ok (.ifCond .eq 7, 3) := by decide +kernel
theorem dX4_readAtom_39 : decode cX4_readAtom 39 = .ok (.iconst 1, 1) := by decide +kernel
theorem dX4_readAtom_40 : decode cX4_readAtom 40 = .ok (.goto 4, 3) := by decide +kernel
theorem dX4_readAtom_43 : decode cX4_readAtom 43 = .ok (.iconst 0, 1) := by decide +kernel
theorem dX4_readAtom_44 : decode cX4_readAtom 44 = .ok (.ireturn, 1) := by decide +kernel
theorem dX4_readAtom_45 : decode cX4_readAtom 45 = .ok (.aload_n 2, 1) := by decide +kernel
theorem dX4_readAtom_46 : decode cX4_readAtom 46 = .ok (.getstatic 95, 3) := by decide +kernel
theorem dX4_readAtom_49 : decode cX4_readAtom 49 = .ok (.if_acmp .ne 18, 3) := by decide +kernel
theorem dX4_readAtom_52 : decode cX4_readAtom 52 = .ok (.aload_n 0, 1) := by decide +kernel
theorem dX4_readAtom_53 : decode cX4_readAtom 53 = .ok (.aload_n 2, 1) := by decide +kernel
theorem dX4_readAtom_54 : decode cX4_readAtom 54 = .ok (.iconst 0, 1) := by decide +kernel
theorem dX4_readAtom_55 : decode cX4_readAtom 55 = .ok (.invokevirtual 68, 3) := by decide +kernel
theorem dX4_readAtom_58 : decode cX4_readAtom 58 = .ok (.aload_n 0, 1) := by decide +kernel
theorem dX4_readAtom_59 : decode cX4_readAtom 59 = .ok (.getfield 33, 3) := by decide +kernel
theorem dX4_readAtom_62 : decode cX4_readAtom 62 = .ok (.aload_n 2, 1) := by decide +kernel
theorem dX4_readAtom_63 : decode cX4_readAtom 63 = .ok (.invokevirtual 61, 3) := by decide +kernel
theorem dX4_readAtom_66 : decode cX4_readAtom 66 = .ok (.ireturn, 1) := by decide +kernel
theorem dX4_readAtom_67 : decode cX4_readAtom 67 = .ok (.aload_n 0, 1) := by decide +kernel
theorem dX4_readAtom_68 : decode cX4_readAtom 68 = .ok (.invokevirtual 98, 3) := by decide +kernel
theorem dX4_readAtom_71 : decode cX4_readAtom 71 = .ok (.ifCond .ne 5, 3) := by decide +kernel
theorem dX4_readAtom_74 : decode cX4_readAtom 74 = .ok (.iconst 0, 1) := by decide +kernel
theorem dX4_readAtom_75 : decode cX4_readAtom 75 = .ok (.ireturn, 1) := by decide +kernel
theorem dX4_readAtom_76 : decode cX4_readAtom 76 = .ok (.aload_n 0, 1) := by decide +kernel
theorem dX4_readAtom_77 : decode cX4_readAtom 77 = .ok (.getfield 33, 3) := by decide +kernel
theorem dX4_readAtom_80 : decode cX4_readAtom 80 = .ok (.invokevirtual 37, 3) := by decide +kernel
theorem dX4_readAtom_83 : decode cX4_readAtom 83 = .ok (.astore_n 3, 1) := by decide +kernel
theorem dX4_readAtom_84 : decode cX4_readAtom 84 = .ok (.aload_n 3, 1) := by decide +kernel
theorem dX4_readAtom_85 : decode cX4_readAtom 85 = .ok (.getstatic 102, 3) := by decide +kernel
theorem dX4_readAtom_88 : decode cX4_readAtom 88 = .ok (.if_acmp .eq 12, 3) := by decide +kernel
theorem dX4_readAtom_91 : decode cX4_readAtom 91 = .ok (.aload_n 3, 1) := by decide +kernel
theorem dX4_readAtom_92 : decode cX4_readAtom 92 = .ok (.getstatic 105, 3) := by decide +kernel
theorem dX4_readAtom_95 : decode cX4_readAtom 95 = .ok (.if_acmp .eq 5, 3) := by decide +kernel
theorem dX4_readAtom_98 : decode cX4_readAtom 98 = .ok (.iconst 0, 1) := by decide +kernel
theorem dX4_readAtom_99 : decode cX4_readAtom 99 = .ok (.ireturn, 1) := by decide +kernel
theorem dX4_readAtom_100 : decode cX4_readAtom 100 = .ok (.aload_n 0, 1) := by decide +kernel
theorem dX4_readAtom_101 : decode cX4_readAtom 101 = .ok (.getfield 33, 3) := by decide +kernel
theorem dX4_readAtom_104 : decode cX4_readAtom 104 = .ok (.invokevirtual 50, 3) := by decide +kernel
theorem dX4_readAtom_107 : decode cX4_readAtom 107 = .ok (.aload_n 0, 1) := by decide +kernel
theorem dX4_readAtom_108 : decode cX4_readAtom 108 = .ok (.invokevirtual 98, 3) := by decide +kernel
theorem dX4_readAtom_111 : decode cX4_readAtom 111 = .ok (.ifCond .ne 5, 3) := by decide +kernel
theorem dX4_readAtom_114 : decode cX4_readAtom 114 = .ok (.iconst 0, 1) := by decide +kernel
theorem dX4_readAtom_115 : decode cX4_readAtom 115 = .ok (.ireturn, 1) := by decide +kernel
theorem dX4_readAtom_116 : decode cX4_readAtom 116 = .ok (.aload_n 0, 1) := by decide +kernel
theorem dX4_readAtom_117 : decode cX4_readAtom 117 = .ok (.aload_n 3, 1) := by decide +kernel
theorem dX4_readAtom_118 : decode cX4_readAtom 118 = .ok (.iconst 0, 1) := by decide +kernel
theorem dX4_readAtom_119 : decode cX4_readAtom 119 = .ok (.invokevirtual 68, 3) := by decide +kernel
theorem dX4_readAtom_122 : decode cX4_readAtom 122 = .ok (.iconst 1, 1) := by decide +kernel
theorem dX4_readAtom_123 : decode cX4_readAtom 123 = .ok (.ireturn, 1) := by decide +kernel
theorem dX4_readCondition_0 : decode cX4_readCondition 0 = .ok (.iconst 0, 1) := by decide +kernel
theorem dX4_readCondition_1 : decode cX4_readCondition 1 = .ok (.istore_n 2, 1) := by decide +kernel
theorem dX4_readCondition_2 : decode cX4_readCondition 2 = .ok (.iconst 0, 1) := by decide +kernel
theorem dX4_readCondition_3 : decode cX4_readCondition 3 = .ok (.istore_n 3, 1) := by decide +kernel
theorem dX4_readCondition_4 : decode cX4_readCondition 4 = .ok (.iconst 0, 1) := by decide +kernel
theorem dX4_readCondition_5 : decode cX4_readCondition 5 = .ok (.istore 4, 2) := by decide +kernel
theorem dX4_readCondition_7 : decode cX4_readCondition 7 = .ok (.iload 4, 2) := by decide +kernel
theorem dX4_readCondition_9 : decode cX4_readCondition 9 = .ok (.sipush 400, 3) := by decide +kernel
theorem dX4_readCondition_12 : decode cX4_readCondition 12 = .ok (.if_icmp .ge 83, 3) := by decide +kernel
theorem dX4_readCondition_15 : decode cX4_readCondition 15 = .ok (.aload_n 0, 1) := by decide +kernel
theorem dX4_readCondition_16 : decode cX4_readCondition 16 = .ok (.iload_n 1, 1) := by decide +kernel
theorem dX4_readCondition_17 : decode cX4_readCondition 17 = .ok (.invokevirtual 76, 3) := by decide +kernel
theorem dX4_readCondition_20 : decode cX4_readCondition 20 = .ok (.ifCond .ne 5, 3) := by decide +kernel
theorem dX4_readCondition_23 : decode cX4_readCondition 23 = .ok (.iconst 0, 1) := by decide +kernel
theorem dX4_readCondition_24 : decode cX4_readCondition 24 = .ok (.ireturn, 1) := by decide +kernel
theorem dX4_readCondition_25 : decode cX4_readCondition 25 = .ok (.iload_n 2, 1) := by decide +kernel
theorem dX4_readCondition_26 : decode cX4_readCondition 26 = .ok (.ifCond .eq 11, 3) := by decide +kernel
theorem dX4_readCondition_29 : decode cX4_readCondition 29 = .ok (.aload_n 0, 1) := by decide +kernel
theorem dX4_readCondition_30 : decode cX4_readCondition 30 = .ok (.getstatic 79, 3) := by decide +kernel
theorem dX4_readCondition_33 : decode cX4_readCondition 33 = .ok (.iconst 0, 1) := by decide +kernel
theorem dX4_readCondition_34 : decode cX4_readCondition 34 = .ok (.invokevirtual 68, 3) := by decide +kernel
theorem dX4_readCondition_37 : decode cX4_readCondition 37 = .ok (.aload_n 0, 1) := by decide +kernel
theorem dX4_readCondition_38 : decode cX4_readCondition 38 = .ok (.getfield 33, 3) := by decide +kernel
theorem dX4_readCondition_41 : decode cX4_readCondition 41 = .ok (.getstatic 79, 3) := by decide +kernel
theorem dX4_readCondition_44 : decode cX4_readCondition 44 = .ok (.invokevirtual 61, 3) := by decide +kernel
theorem dX4_readCondition_47 : decode cX4_readCondition 47 = .ok (.istore_n 2, 1) := by decide +kernel
theorem dX4_readCondition_48 : decode cX4_readCondition 48 = .ok (.iload_n 2, 1) := by decide +kernel
theorem dX4_readCondition_49 : decode cX4_readCondition 49 = .ok (.ifCond .ne 15, 3) := by decide +kernel
theorem dX4_readCondition_52 : decode cX4_readCondition 52 = .ok (.iload_n 3, 1) := by decide +kernel
theorem dX4_readCondition_53 : decode cX4_readCondition 53 = .ok (.ifCond .eq 11, 3) := by decide +kernel
theorem dX4_readCondition_56 : decode cX4_readCondition 56 = .ok (.aload_n 0, 1) := by decide +kernel
theorem dX4_readCondition_57 : decode cX4_readCondition 57 = .ok (.getstatic 82, 3) := by decide +kernel
theorem dX4_readCondition_60 : decode cX4_readCondition 60 = .ok (.iconst 0, 1) := by decide +kernel
theorem dX4_readCondition_61 : decode cX4_readCondition 61 = .ok (.invokevirtual 68, 3) := by decide +kernel
theorem dX4_readCondition_64 : decode cX4_readCondition 64 = .ok (.iload_n 2, 1) := by decide +kernel
theorem dX4_readCondition_65 : decode cX4_readCondition 65 = .ok (.ifCond .ne 14, 3) := by decide +kernel
theorem dX4_readCondition_68 : decode cX4_readCondition 68 = .ok (.aload_n 0, 1) := by decide +kernel
theorem dX4_readCondition_69 : decode cX4_readCondition 69 = .ok (.getfield 33, 3) := by decide +kernel
theorem dX4_readCondition_72 : decode cX4_readCondition 72 = .ok (.getstatic 82, 3) := by decide +kernel
theorem dX4_readCondition_75 : decode cX4_readCondition 75 = .ok (.invokevirtual 61, 3) := by decide +kernel
theorem dX4_readCondition_78 : decode cX4_readCondition 78 = .ok (.istore_n 3, 1) := by decide +kernel
theorem dX4_readCondition_79 : decode cX4_readCondition 79 = .ok (.iload_n 2, 1) := by decide +kernel
theorem dX4_readCondition_80 : decode cX4_readCondition 80 = .ok (.ifCond .ne 9, 3) := by decide +kernel
theorem dX4_readCondition_83 : decode cX4_readCondition 83 = .ok (.iload_n 3, 1) := by decide +kernel
theorem dX4_readCondition_84 : decode cX4_readCondition 84 = .ok (.ifCond .ne 5, 3) := by decide +kernel
theorem dX4_readCondition_87 : decode cX4_readCondition 87 = .ok (.iconst 1, 1) := by decide +kernel
theorem dX4_readCondition_88 : decode cX4_readCondition 88 = .ok (.ireturn, 1) := by decide +kernel
theorem dX4_readCondition_89 : decode cX4_readCondition 89 = .ok (.iinc 4 1, 3) := by decide +kernel
theorem dX4_readCondition_92 : decode cX4_readCondition 92 = .ok (.goto (-85), 3) := by decide +kernel
theorem dX4_readCondition_95 : decode cX4_readCondition 95 = .ok (.iconst 0, 1) := by decide +kernel
theorem dX4_readCondition_96 : decode cX4_readCondition 96 = .ok (.ireturn, 1) := by decide +kernel
def m_LawReader_readDeeper (d : Nat) : My := (yX4_readDeeper, cX4_readDeeper, 3, some .boolean, { frames := 3 + 3 * d, cells := 0, slots := 0, locals := 64 + 90 * d }, [])
def m_LawReader_readAtom (d : Nat) : My := (yX4_readAtom, cX4_readAtom, 4, some .boolean, { frames := 3 + 3 * d + 1, cells := 0, slots := 0, locals := 64 + 90 * d + 30 }, [])
def m_LawReader_readCondition (d : Nat) : My := (yX4_readCondition, cX4_readCondition, 5, some .boolean, { frames := 3 + 3 * d + 2, cells := 0, slots := 0, locals := 64 + 90 * d + 60 }, [])
theorem yg_LawReader_readDeeper {d : Nat} : YG (m_LawReader_readDeeper d) := by
  show Cond.code yX4_readDeeper cX4_readDeeper 3 (some .boolean) ∈ gw
  exact (at_gw 770 (by decide +kernel) rfl)
theorem yg_LawReader_readAtom {d : Nat} : YG (m_LawReader_readAtom d) := by
  show Cond.code yX4_readAtom cX4_readAtom 4 (some .boolean) ∈ gw
  exact (at_gw 762 (by decide +kernel) rfl)
theorem yg_LawReader_readCondition {d : Nat} : YG (m_LawReader_readCondition d) := by
  show Cond.code yX4_readCondition cX4_readCondition 5 (some .boolean) ∈ gw
  exact (at_gw 758 (by decide +kernel) rfl)
def B_LawReader_readDeeper (fB : Nat → Int32 → Mem → Option (Int32 × Mem)) (fC : Nat → Int32 → Mem → Option (Int32 × Mem)) (a0 : Nat) (a1 : Nat) (a2 : Int32) (M : Mem) : Option (Int32 × Mem) := (fR M a0 13 0).bind fun v1 => (ck (qS M v1 = 16)).bind fun h3 => (F_Text_advance v1 M).bind fun v2 => (ck (a1 ≤ 36 ∧ 6 ≤ 36)).bind fun h4 => if a1 = 6 then ((ck (qS v2 a0 = 13)).bind fun h12 => (fC a0 a2 v2).bind fun v11 => bdS (V := Mem) (if v11.1 = 0 then (some (.inl v11.2)) else ((fR v11.2 a0 13 0).bind fun v14 => (ck (qS v11.2 v14 = 16)).bind fun h16 => (F_Text_take v14 7 v11.2).bind fun v15 => if v15.1 = 0 then (some (.inl v15.2)) else (some (.inr (((1 : Int32), v15.2)))))) fun s18 => some ((0 : Int32), s18)) else ((ck (qS v2 a0 = 13)).bind fun h7 => (fB a0 a2 v2).bind fun v6 => if v6.1 = 0 then (some ((0 : Int32), v6.2)) else ((ck (qS v6.2 a0 = 13)).bind fun h10 => (F_LawReader_write a0 a1 (0 : Int32) v6.2).bind fun v9 => some ((1 : Int32), v9)))
def B_LawReader_readAtom (fA : Nat → Nat → Int32 → Mem → Option (Int32 × Mem)) (a0 : Nat) (a1 : Int32) (M : Mem) : Option (Int32 × Mem) := (fR M a0 13 0).bind fun v1 => (ck (qS M v1 = 16)).bind fun h3 => (F_Text_token v1 M).bind fun v2 => (ck (v2 ≠ 0)).bind fun h4 => (ck (v2 ≤ 36 ∧ 29 ≤ 36)).bind fun h5 => (if v2 = 29 then (some true) else ((ck (v2 ≤ 36 ∧ 6 ≤ 36)).bind fun h8 => if v2 = 6 then (some true) else (some false)) : Option Bool).bind fun b7 => if b7 = true then (bdS (V := Mem) (if (6 : Int32) ≤ a1 then (some (.inl M)) else ((fA a0 v2 (a1 + (1 : Int32)) M).bind fun v11 => if v11.1 = 0 then (some (.inl v11.2)) else (some (.inr (((1 : Int32), v11.2)))))) fun s13 => some ((0 : Int32), s13)) else ((ck (v2 ≤ 36 ∧ 30 ≤ 36)).bind fun h14 => if v2 = 30 then ((F_LawReader_write a0 v2 (0 : Int32) M).bind fun v35 => (fR v35 a0 13 0).bind fun v36 => (ck (qS v35 v36 = 16)).bind fun h38 => (F_Text_take v36 v2 v35).bind fun v37 => (ck (v37.1 = 0 ∨ v37.1 = 1)).bind fun h39 => some (v37.1, v37.2)) else ((F_LawReader_readSum a0 M).bind fun v16 => if v16.1 = 0 then (some ((0 : Int32), v16.2)) else ((fR v16.2 a0 13 0).bind fun v18 => (ck (qS v16.2 v18 = 16)).bind fun h20 => (F_Text_token v18 v16.2).bind fun v19 => (ck (v19 ≠ 0)).bind fun h21 => (ck (v19 ≤ 36 ∧ 9 ≤ 36)).bind fun h22 => (if v19 = 9 then (some false) else ((ck (v19 ≤ 36 ∧ 10 ≤ 36)).bind fun h25 => if v19 = 10 then (some false) else (some true)) : Option Bool).bind fun b24 => if b24 = true then (some ((0 : Int32), v16.2)) else ((fR v16.2 a0 13 0).bind fun v27 => (ck (qS v16.2 v27 = 16)).bind fun h29 => (F_Text_advance v27 v16.2).bind fun v28 => (ck (qS v28 a0 = 13)).bind fun h31 => (F_LawReader_readSum a0 v28).bind fun v30 => if v30.1 = 0 then (some ((0 : Int32), v30.2)) else ((ck (qS v30.2 a0 = 13)).bind fun h34 => (F_LawReader_write a0 v19 (0 : Int32) v30.2).bind fun v33 => some ((1 : Int32), v33))))))
def B_LawReader_readCondition (fB : Nat → Int32 → Mem → Option (Int32 × Mem)) (a0 : Nat) (a1 : Int32) (M : Mem) : Option (Int32 × Mem) := loopN LIM (fun s1 : Int32 × Int32 × Int32 × Mem => if (400 : Int32) ≤ s1.2.2.1 then (some (.inr (((0 : Int32), s1.2.2.2)))) else ((ck (qS s1.2.2.2 a0 = 13)).bind fun h4 => (fB a0 a1 s1.2.2.2).bind fun v3 => if v3.1 = 0 then (some (.inr (((0 : Int32), v3.2)))) else ((if s1.1 = 0 then (some (v3.2)) else ((ck (qS v3.2 a0 = 13)).bind fun h8 => (F_LawReader_write a0 28 (0 : Int32) v3.2).bind fun v7 => some (v7)) : Option (Mem)).bind fun s9 => (fR s9 a0 13 0).bind fun v10 => (ck (qS s9 v10 = 16)).bind fun h12 => (F_Text_take v10 28 s9).bind fun v11 => ((if v11.1 = 0 then (if s1.2.1 = 0 then (some false) else (some true)) else (some false) : Option Bool).bind fun b14 => if b14 = true then ((ck (qS v11.2 a0 = 13)).bind fun h17 => (F_LawReader_write a0 27 (0 : Int32) v11.2).bind fun v16 => some (v16)) else (some (v11.2)) : Option (Mem)).bind fun s18 => (if v11.1 = 0 then ((fR s18 a0 13 0).bind fun v20 => (ck (qS s18 v20 = 16)).bind fun h22 => (F_Text_take v20 27 s18).bind fun v21 => some (v21.1, v21.2)) else (some (s1.2.1, s18)) : Option (Int32 × Mem)).bind fun s23 => (if v11.1 = 0 then (if s23.1 = 0 then (some true) else (some false)) else (some false) : Option Bool).bind fun b25 => if b25 = true then (some (.inr (((1 : Int32), s23.2)))) else (some (.inl (v11.1, s23.1, (s1.2.2.1 + (1 : Int32)), s23.2)))))) ((0 : Int32), (0 : Int32), (0 : Int32), M)
theorem ct_LawReader_readDeeper_B {X : Cx} {d : Nat} {fB : Nat → Int32 → Mem → Option (Int32 × Mem)} {fC : Nat → Int32 → Mem → Option (Int32 × Mem)} (hfB : ∀ {b0 : Nat} {b1 : Int32} {M : Mem} {r : Int32 × Mem}, fB b0 b1 M = some r → Ct X (m_LawReader_readAtom d) [.ref b0, .int b1] M (oIM r)) (hfC : ∀ {b0 : Nat} {b1 : Int32} {M : Mem} {r : Int32 × Mem}, fC b0 b1 M = some r → Ct X (m_LawReader_readCondition d) [.ref b0, .int b1] M (oIM r)) {a0 : Nat} {a1 : Nat} {a2 : Int32} {M : Mem} {r : Int32 × Mem} (hE : B_LawReader_readDeeper fB fC a0 a1 a2 M = some r) : Ct X (m_LawReader_readDeeper (d + 1)) [.ref a0, .ref a1, .int a2] M (oIM r) := by
  have xR : ∀ v : Int32 × Mem, r = v → r = v := fun _ q => q
  refine Ct.of (by show plainName RX4 = true; decide +kernel) rfl rfl ?_
  unfold B_LawReader_readDeeper at hE
  refine g_aload_n (r := a0) dX4_readDeeper_0 rfl ?_
  replace hE := bd_s hE
  obtain ⟨v1, hv1, hE⟩ := hE
  refine g_fR dX4_readDeeper_1 fl_X4_33_3 rfl hv1 ?_
  replace hE := bd_s hE
  obtain ⟨h3, hh3, hE⟩ := hE
  replace hh3 := ck_s hh3
  replace hE := bd_s hE
  obtain ⟨v2, hv2, hE⟩ := hE
  refine g_callV (as := []) (rvs := []) 0 0 dX4_readDeeper_4 yg_Text_advance vl_X4_50 (ct_Text_advance hv2) (RC.obj hh3 (by decide) cl_6.1) rfl rfl (rmk_ok (by show 0 + 1 ≤ 3 + 3 * (d + 1); omega) (by show 8 + (1 + 11) + (0) ≤ 64 + 90 * (d + 1); omega) (Nat.le_of_ble_eq_true rfl) (Nat.le_of_ble_eq_true rfl)) (Nat.le_of_ble_eq_true rfl) rfl rfl rfl ?_
  refine g_aload_n (r := a1) dX4_readDeeper_7 rfl ?_
  refine g_tok (i := 5) dX4_readDeeper_8 tk_X4_88 (by decide) ?_
  replace hE := bd_s hE
  obtain ⟨h4, hh4, hE⟩ := hE
  replace hh4 := ck_s hh4
  refine g_acmp_ne 41 dX4_readDeeper_11 (by decide) hh4 (fun q5 => ?_) (fun q5 => ?_)
  · replace hE := ife_n q5 hE
    refine g_aload_n (r := a0) dX4_readDeeper_41 rfl ?_
    refine g_iload_n (x := a2) dX4_readDeeper_42 rfl ?_
    replace hE := bd_s hE
    obtain ⟨h7, hh7, hE⟩ := hE
    replace hh7 := ck_s hh7
    replace hE := bd_s hE
    obtain ⟨v6, hv6, hE⟩ := hE
    refine g_callV (as := [.int a2]) (rvs := [.int v6.1]) 0 0 dX4_readDeeper_43 yg_LawReader_readAtom vl_X4_76 (hfB hv6) (RC.obj hh7 (by decide) cl_3.1) rfl rfl (rmk_ok (by show 3 + 3 * d + 1 + 1 ≤ 3 + 3 * (d + 1); omega) (by show 8 + (4 + 11) + (64 + 90 * d + 30) ≤ 64 + 90 * (d + 1); omega) (Nat.le_of_ble_eq_true rfl) (Nat.le_of_ble_eq_true rfl)) (Nat.le_of_ble_eq_true rfl) rfl rfl rfl ?_
    refine g_if_ne 51 dX4_readDeeper_46 (by decide) (fun q8 => ?_) (fun q8 => ?_)
    · replace hE := ife_n q8 hE
      refine g_aload_n (r := a0) dX4_readDeeper_51 rfl ?_
      refine g_aload_n (r := a1) dX4_readDeeper_52 rfl ?_
      refine g_iconst (v := (0 : Int32)) dX4_readDeeper_53 (by decide) ?_
      replace hE := bd_s hE
      obtain ⟨h10, hh10, hE⟩ := hE
      replace hh10 := ck_s hh10
      replace hE := bd_s hE
      obtain ⟨v9, hv9, hE⟩ := hE
      refine g_callV (as := [.ref a1, .int (0 : Int32)]) (rvs := []) 0 0 dX4_readDeeper_54 yg_LawReader_write vl_X4_68 (ct_LawReader_write hv9) (RC.obj hh10 (by decide) cl_3.1) rfl rfl (rmk_ok (by show 0 + 1 ≤ 3 + 3 * (d + 1); omega) (by show 8 + (3 + 11) + (0) ≤ 64 + 90 * (d + 1); omega) (Nat.le_of_ble_eq_true rfl) (Nat.le_of_ble_eq_true rfl)) (Nat.le_of_ble_eq_true rfl) rfl rfl rfl ?_
      refine g_iconst (v := (1 : Int32)) dX4_readDeeper_57 (by decide) ?_
      rw [xR ((1 : Int32), v9) (Option.some.inj hE).symm]
      exact g_zret dX4_readDeeper_58 rfl (Or.inr rfl) rfl
    replace hE := ife_p q8 hE
    refine g_iconst (v := (0 : Int32)) dX4_readDeeper_49 (by decide) ?_
    rw [xR ((0 : Int32), v6.2) (Option.some.inj hE).symm]
    exact g_zret dX4_readDeeper_50 rfl (Or.inl rfl) rfl
  replace hE := ife_p q5 hE
  refine g_aload_n (r := a0) dX4_readDeeper_14 rfl ?_
  refine g_iload_n (x := a2) dX4_readDeeper_15 rfl ?_
  replace hE := bd_s hE
  obtain ⟨h12, hh12, hE⟩ := hE
  replace hh12 := ck_s hh12
  replace hE := bd_s hE
  obtain ⟨v11, hv11, hE⟩ := hE
  refine g_callV (as := [.int a2]) (rvs := [.int v11.1]) 0 0 dX4_readDeeper_16 yg_LawReader_readCondition vl_X4_72 (hfC hv11) (RC.obj hh12 (by decide) cl_3.1) rfl rfl (rmk_ok (by show 3 + 3 * d + 2 + 1 ≤ 3 + 3 * (d + 1); omega) (by show 8 + (5 + 11) + (64 + 90 * d + 60) ≤ 64 + 90 * (d + 1); omega) (Nat.le_of_ble_eq_true rfl) (Nat.le_of_ble_eq_true rfl)) (Nat.le_of_ble_eq_true rfl) rfl rfl rfl ?_
  replace hE := bdS_s hE
  obtain ⟨e1, hE, hm1, ho1⟩ := hE
  have x1 : ∀ s18 : Mem, e1 = .inl s18 → G X (m_LawReader_readDeeper (d + 1)) (endP X (m_LawReader_readDeeper (d + 1)) (oIM r)) 39 [.retAddr 0, .retAddr 0, .retAddr 0] [] 0 0 s18 := by
    intro s18 q
    replace hE := hm1 s18 q
    clear hm1
    refine g_iconst (v := (0 : Int32)) dX4_readDeeper_39 (by decide) ?_
    rw [xR ((0 : Int32), s18) (Option.some.inj hE).symm]
    exact g_zret dX4_readDeeper_40 rfl (Or.inl rfl) rfl
  clear hm1
  have y2 := fun (v : Int32 × Mem) (q : e1 = .inr (v)) => xR v (ho1 _ q).symm
  clear ho1
  refine g_if_eq 39 dX4_readDeeper_19 (by decide) (fun q13 => ?_) (fun q13 => ?_)
  · replace hE := ife_p q13 hE
    refine g_msk [false, false, false] ?_
    exact x1 v11.2 (Option.some.inj hE).symm
  replace hE := ife_n q13 hE
  refine g_aload_n (r := a0) dX4_readDeeper_22 rfl ?_
  replace hE := bd_s hE
  obtain ⟨v14, hv14, hE⟩ := hE
  refine g_fR dX4_readDeeper_23 fl_X4_33_3 rfl hv14 ?_
  refine g_tok (i := 6) dX4_readDeeper_26 tk_X4_108 (by decide) ?_
  replace hE := bd_s hE
  obtain ⟨h16, hh16, hE⟩ := hE
  replace hh16 := ck_s hh16
  replace hE := bd_s hE
  obtain ⟨v15, hv15, hE⟩ := hE
  refine g_callV (as := [.ref 7]) (rvs := [.int v15.1]) 0 0 dX4_readDeeper_29 yg_Text_take vl_X4_61 (ct_Text_take hv15) (RC.obj hh16 (by decide) cl_6.1) rfl rfl (rmk_ok (by show 0 + 1 ≤ 3 + 3 * (d + 1); omega) (by show 8 + (2 + 11) + (0) ≤ 64 + 90 * (d + 1); omega) (Nat.le_of_ble_eq_true rfl) (Nat.le_of_ble_eq_true rfl)) (Nat.le_of_ble_eq_true rfl) rfl rfl rfl ?_
  refine g_if_eq 39 dX4_readDeeper_32 (by decide) (fun q17 => ?_) (fun q17 => ?_)
  · replace hE := ife_p q17 hE
    refine g_msk [false, false, false] ?_
    exact x1 v15.2 (Option.some.inj hE).symm
  replace hE := ife_n q17 hE
  refine g_iconst (v := (1 : Int32)) dX4_readDeeper_35 (by decide) ?_
  refine g_goto 40 dX4_readDeeper_36 (by decide) ?_
  rw [y2 ((1 : Int32), v15.2) (Option.some.inj hE).symm]
  exact g_zret dX4_readDeeper_40 rfl (Or.inr rfl) rfl
theorem ct_LawReader_readAtom_B {X : Cx} {d : Nat} {fA : Nat → Nat → Int32 → Mem → Option (Int32 × Mem)} (hfA : ∀ {b0 : Nat} {b1 : Nat} {b2 : Int32} {M : Mem} {r : Int32 × Mem}, fA b0 b1 b2 M = some r → Ct X (m_LawReader_readDeeper d) [.ref b0, .ref b1, .int b2] M (oIM r)) {a0 : Nat} {a1 : Int32} {M : Mem} {r : Int32 × Mem} (hE : B_LawReader_readAtom fA a0 a1 M = some r) : Ct X (m_LawReader_readAtom d) [.ref a0, .int a1] M (oIM r) := by
  have xR : ∀ v : Int32 × Mem, r = v → r = v := fun _ q => q
  refine Ct.of (by show plainName RX4 = true; decide +kernel) rfl rfl ?_
  unfold B_LawReader_readAtom at hE
  refine g_aload_n (r := a0) dX4_readAtom_0 rfl ?_
  replace hE := bd_s hE
  obtain ⟨v1, hv1, hE⟩ := hE
  refine g_fR dX4_readAtom_1 fl_X4_33_3 rfl hv1 ?_
  replace hE := bd_s hE
  obtain ⟨h3, hh3, hE⟩ := hE
  replace hh3 := ck_s hh3
  replace hE := bd_s hE
  obtain ⟨v2, hv2, hE⟩ := hE
  refine g_callV (as := []) (rvs := [.ref v2]) 0 0 dX4_readAtom_4 yg_Text_token vl_X4_37 (ct_Text_token hv2) (RC.obj hh3 (by decide) cl_6.1) rfl rfl (rmk_ok (by show 0 + 1 ≤ 3 + 3 * d + 1; omega) (by show 8 + (1 + 11) + (0) ≤ 64 + 90 * d + 30; omega) (Nat.le_of_ble_eq_true rfl) (Nat.le_of_ble_eq_true rfl)) (Nat.le_of_ble_eq_true rfl) rfl rfl rfl ?_
  replace hE := bd_s hE
  obtain ⟨h4, hh4, hE⟩ := hE
  replace hh4 := ck_s hh4
  refine g_astore_n dX4_readAtom_7 rfl hh4 ?_
  refine g_aload_n (r := v2) dX4_readAtom_8 rfl ?_
  refine g_tok (i := 28) dX4_readAtom_9 tk_X4_85 (by decide) ?_
  replace hE := bd_s hE
  obtain ⟨h5, hh5, hE⟩ := hE
  replace hh5 := ck_s hh5
  replace hE := bd_s hE
  obtain ⟨b7, hE, hb1⟩ := hE
  have x1t : b7 = true → G X (m_LawReader_readAtom d) (endP X (m_LawReader_readAtom d) (oIM r)) 22 [.ref a0, .int a1, .ref v2, .retAddr 0] [] 0 0 M := by
    intro q
    replace hE := ifb_t q hb1
    refine g_iload_n (x := a1) dX4_readAtom_22 rfl ?_
    refine g_bipush (v := (6 : Int32)) dX4_readAtom_23 (by decide) ?_
    replace hE := bdS_s hE
    obtain ⟨e2, hE, hm2, ho2⟩ := hE
    have x2 : ∀ s13 : Mem, e2 = .inl s13 → G X (m_LawReader_readAtom d) (endP X (m_LawReader_readAtom d) (oIM r)) 43 [.retAddr 0, .retAddr 0, .retAddr 0, .retAddr 0] [] 0 0 s13 := by
      intro s13 q
      replace hE := hm2 s13 q
      clear hm2
      refine g_iconst (v := (0 : Int32)) dX4_readAtom_43 (by decide) ?_
      rw [xR ((0 : Int32), s13) (Option.some.inj hE).symm]
      exact g_zret dX4_readAtom_44 rfl (Or.inl rfl) rfl
    clear hm2
    have y3 := fun (v : Int32 × Mem) (q : e2 = .inr (v)) => xR v (ho2 _ q).symm
    clear ho2
    refine g_icmp_ge 43 dX4_readAtom_25 (by decide) (fun q10 => ?_) (fun q10 => ?_)
    · replace hE := ife_p q10 hE
      refine g_msk [false, false, false, false] ?_
      exact x2 M (Option.some.inj hE).symm
    replace hE := ife_n q10 hE
    refine g_aload_n (r := a0) dX4_readAtom_28 rfl ?_
    refine g_aload_n (r := v2) dX4_readAtom_29 rfl ?_
    refine g_iload_n (x := a1) dX4_readAtom_30 rfl ?_
    refine g_iconst (v := (1 : Int32)) dX4_readAtom_31 (by decide) ?_
    refine g_iadd dX4_readAtom_32 ?_
    replace hE := bd_s hE
    obtain ⟨v11, hv11, hE⟩ := hE
    refine g_callV (as := [.ref v2, .int (a1 + (1 : Int32))]) (rvs := [.int v11.1]) 0 0 dX4_readAtom_33 yg_LawReader_readDeeper vl_X4_91 (hfA hv11) (RC.obj (fR_s hv1).1 (by decide) cl_3.1) rfl rfl (rmk_ok (by show 3 + 3 * d + 1 ≤ 3 + 3 * d + 1; omega) (by show 8 + (3 + 11) + (64 + 90 * d) ≤ 64 + 90 * d + 30; omega) (Nat.le_of_ble_eq_true rfl) (Nat.le_of_ble_eq_true rfl)) (Nat.le_of_ble_eq_true rfl) rfl rfl rfl ?_
    refine g_if_eq 43 dX4_readAtom_36 (by decide) (fun q12 => ?_) (fun q12 => ?_)
    · replace hE := ife_p q12 hE
      refine g_msk [false, false, false, false] ?_
      exact x2 v11.2 (Option.some.inj hE).symm
    replace hE := ife_n q12 hE
    refine g_iconst (v := (1 : Int32)) dX4_readAtom_39 (by decide) ?_
    refine g_goto 44 dX4_readAtom_40 (by decide) ?_
    rw [y3 ((1 : Int32), v11.2) (Option.some.inj hE).symm]
    exact g_zret dX4_readAtom_44 rfl (Or.inr rfl) rfl
  have x1f : b7 = false → G X (m_LawReader_readAtom d) (endP X (m_LawReader_readAtom d) (oIM r)) 45 [.ref a0, .int a1, .ref v2, .retAddr 0] [] 0 0 M := by
    intro q
    replace hE := ifb_f q hb1
    refine g_aload_n (r := v2) dX4_readAtom_45 rfl ?_
    refine g_tok (i := 29) dX4_readAtom_46 tk_X4_95 (by decide) ?_
    replace hE := bd_s hE
    obtain ⟨h14, hh14, hE⟩ := hE
    replace hh14 := ck_s hh14
    refine g_acmp_ne 67 dX4_readAtom_49 (by decide) hh14 (fun q15 => ?_) (fun q15 => ?_)
    · replace hE := ife_n q15 hE
      refine g_aload_n (r := a0) dX4_readAtom_67 rfl ?_
      replace hE := bd_s hE
      obtain ⟨v16, hv16, hE⟩ := hE
      refine g_callV (as := []) (rvs := [.int v16.1]) 0 0 dX4_readAtom_68 yg_LawReader_readSum vl_X4_98 (ct_LawReader_readSum hv16) (RC.obj (fR_s hv1).1 (by decide) cl_3.1) rfl rfl (rmk_ok (by show 2 + 1 ≤ 3 + 3 * d + 1; omega) (by show 8 + (5 + 11) + (40) ≤ 64 + 90 * d + 30; omega) (Nat.le_of_ble_eq_true rfl) (Nat.le_of_ble_eq_true rfl)) (Nat.le_of_ble_eq_true rfl) rfl rfl rfl ?_
      refine g_if_ne 76 dX4_readAtom_71 (by decide) (fun q17 => ?_) (fun q17 => ?_)
      · replace hE := ife_n q17 hE
        refine g_aload_n (r := a0) dX4_readAtom_76 rfl ?_
        replace hE := bd_s hE
        obtain ⟨v18, hv18, hE⟩ := hE
        refine g_fR dX4_readAtom_77 fl_X4_33_3 rfl hv18 ?_
        replace hE := bd_s hE
        obtain ⟨h20, hh20, hE⟩ := hE
        replace hh20 := ck_s hh20
        replace hE := bd_s hE
        obtain ⟨v19, hv19, hE⟩ := hE
        refine g_callV (as := []) (rvs := [.ref v19]) 0 0 dX4_readAtom_80 yg_Text_token vl_X4_37 (ct_Text_token hv19) (RC.obj hh20 (by decide) cl_6.1) rfl rfl (rmk_ok (by show 0 + 1 ≤ 3 + 3 * d + 1; omega) (by show 8 + (1 + 11) + (0) ≤ 64 + 90 * d + 30; omega) (Nat.le_of_ble_eq_true rfl) (Nat.le_of_ble_eq_true rfl)) (Nat.le_of_ble_eq_true rfl) rfl rfl rfl ?_
        replace hE := bd_s hE
        obtain ⟨h21, hh21, hE⟩ := hE
        replace hh21 := ck_s hh21
        refine g_astore_n dX4_readAtom_83 rfl hh21 ?_
        refine g_aload_n (r := v19) dX4_readAtom_84 rfl ?_
        refine g_tok (i := 8) dX4_readAtom_85 tk_X4_102 (by decide) ?_
        replace hE := bd_s hE
        obtain ⟨h22, hh22, hE⟩ := hE
        replace hh22 := ck_s hh22
        replace hE := bd_s hE
        obtain ⟨b24, hE, hb4⟩ := hE
        have x4t : b24 = true → G X (m_LawReader_readAtom d) (endP X (m_LawReader_readAtom d) (oIM r)) 98 [.ref a0, .int a1, .ref v2, .ref v19] [] 0 0 v16.2 := by
          intro q
          replace hE := ifb_t q hb4
          refine g_iconst (v := (0 : Int32)) dX4_readAtom_98 (by decide) ?_
          rw [xR ((0 : Int32), v16.2) (Option.some.inj hE).symm]
          exact g_zret dX4_readAtom_99 rfl (Or.inl rfl) rfl
        have x4f : b24 = false → G X (m_LawReader_readAtom d) (endP X (m_LawReader_readAtom d) (oIM r)) 100 [.ref a0, .int a1, .ref v2, .ref v19] [] 0 0 v16.2 := by
          intro q
          replace hE := ifb_f q hb4
          refine g_aload_n (r := a0) dX4_readAtom_100 rfl ?_
          replace hE := bd_s hE
          obtain ⟨v27, hv27, hE⟩ := hE
          refine g_fR dX4_readAtom_101 fl_X4_33_3 rfl hv27 ?_
          replace hE := bd_s hE
          obtain ⟨h29, hh29, hE⟩ := hE
          replace hh29 := ck_s hh29
          replace hE := bd_s hE
          obtain ⟨v28, hv28, hE⟩ := hE
          refine g_callV (as := []) (rvs := []) 0 0 dX4_readAtom_104 yg_Text_advance vl_X4_50 (ct_Text_advance hv28) (RC.obj hh29 (by decide) cl_6.1) rfl rfl (rmk_ok (by show 0 + 1 ≤ 3 + 3 * d + 1; omega) (by show 8 + (1 + 11) + (0) ≤ 64 + 90 * d + 30; omega) (Nat.le_of_ble_eq_true rfl) (Nat.le_of_ble_eq_true rfl)) (Nat.le_of_ble_eq_true rfl) rfl rfl rfl ?_
          refine g_aload_n (r := a0) dX4_readAtom_107 rfl ?_
          replace hE := bd_s hE
          obtain ⟨h31, hh31, hE⟩ := hE
          replace hh31 := ck_s hh31
          replace hE := bd_s hE
          obtain ⟨v30, hv30, hE⟩ := hE
          refine g_callV (as := []) (rvs := [.int v30.1]) 0 0 dX4_readAtom_108 yg_LawReader_readSum vl_X4_98 (ct_LawReader_readSum hv30) (RC.obj hh31 (by decide) cl_3.1) rfl rfl (rmk_ok (by show 2 + 1 ≤ 3 + 3 * d + 1; omega) (by show 8 + (5 + 11) + (40) ≤ 64 + 90 * d + 30; omega) (Nat.le_of_ble_eq_true rfl) (Nat.le_of_ble_eq_true rfl)) (Nat.le_of_ble_eq_true rfl) rfl rfl rfl ?_
          refine g_if_ne 116 dX4_readAtom_111 (by decide) (fun q32 => ?_) (fun q32 => ?_)
          · replace hE := ife_n q32 hE
            refine g_aload_n (r := a0) dX4_readAtom_116 rfl ?_
            refine g_aload_n (r := v19) dX4_readAtom_117 rfl ?_
            refine g_iconst (v := (0 : Int32)) dX4_readAtom_118 (by decide) ?_
            replace hE := bd_s hE
            obtain ⟨h34, hh34, hE⟩ := hE
            replace hh34 := ck_s hh34
            replace hE := bd_s hE
            obtain ⟨v33, hv33, hE⟩ := hE
            refine g_callV (as := [.ref v19, .int (0 : Int32)]) (rvs := []) 0 0 dX4_readAtom_119 yg_LawReader_write vl_X4_68 (ct_LawReader_write hv33) (RC.obj hh34 (by decide) cl_3.1) rfl rfl (rmk_ok (by show 0 + 1 ≤ 3 + 3 * d + 1; omega) (by show 8 + (3 + 11) + (0) ≤ 64 + 90 * d + 30; omega) (Nat.le_of_ble_eq_true rfl) (Nat.le_of_ble_eq_true rfl)) (Nat.le_of_ble_eq_true rfl) rfl rfl rfl ?_
            refine g_iconst (v := (1 : Int32)) dX4_readAtom_122 (by decide) ?_
            rw [xR ((1 : Int32), v33) (Option.some.inj hE).symm]
            exact g_zret dX4_readAtom_123 rfl (Or.inr rfl) rfl
          replace hE := ife_p q32 hE
          refine g_iconst (v := (0 : Int32)) dX4_readAtom_114 (by decide) ?_
          rw [xR ((0 : Int32), v30.2) (Option.some.inj hE).symm]
          exact g_zret dX4_readAtom_115 rfl (Or.inl rfl) rfl
        clear hb4
        refine g_acmp_eq 100 dX4_readAtom_88 (by decide) hh22 (fun q23 => ?_) (fun q23 => ?_)
        · replace hE := ife_p q23 hE
          exact x4f (Option.some.inj hE).symm
        replace hE := ife_n q23 hE
        refine g_aload_n (r := v19) dX4_readAtom_91 rfl ?_
        refine g_tok (i := 9) dX4_readAtom_92 tk_X4_105 (by decide) ?_
        replace hE := bd_s hE
        obtain ⟨h25, hh25, hE⟩ := hE
        replace hh25 := ck_s hh25
        refine g_acmp_eq 100 dX4_readAtom_95 (by decide) hh25 (fun q26 => ?_) (fun q26 => ?_)
        · replace hE := ife_p q26 hE
          exact x4f (Option.some.inj hE).symm
        replace hE := ife_n q26 hE
        exact x4t (Option.some.inj hE).symm
      replace hE := ife_p q17 hE
      refine g_iconst (v := (0 : Int32)) dX4_readAtom_74 (by decide) ?_
      rw [xR ((0 : Int32), v16.2) (Option.some.inj hE).symm]
      exact g_zret dX4_readAtom_75 rfl (Or.inl rfl) rfl
    replace hE := ife_p q15 hE
    refine g_aload_n (r := a0) dX4_readAtom_52 rfl ?_
    refine g_aload_n (r := v2) dX4_readAtom_53 rfl ?_
    refine g_iconst (v := (0 : Int32)) dX4_readAtom_54 (by decide) ?_
    replace hE := bd_s hE
    obtain ⟨v35, hv35, hE⟩ := hE
    refine g_callV (as := [.ref v2, .int (0 : Int32)]) (rvs := []) 0 0 dX4_readAtom_55 yg_LawReader_write vl_X4_68 (ct_LawReader_write hv35) (RC.obj (fR_s hv1).1 (by decide) cl_3.1) rfl rfl (rmk_ok (by show 0 + 1 ≤ 3 + 3 * d + 1; omega) (by show 8 + (3 + 11) + (0) ≤ 64 + 90 * d + 30; omega) (Nat.le_of_ble_eq_true rfl) (Nat.le_of_ble_eq_true rfl)) (Nat.le_of_ble_eq_true rfl) rfl rfl rfl ?_
    refine g_aload_n (r := a0) dX4_readAtom_58 rfl ?_
    replace hE := bd_s hE
    obtain ⟨v36, hv36, hE⟩ := hE
    refine g_fR dX4_readAtom_59 fl_X4_33_3 rfl hv36 ?_
    refine g_aload_n (r := v2) dX4_readAtom_62 rfl ?_
    replace hE := bd_s hE
    obtain ⟨h38, hh38, hE⟩ := hE
    replace hh38 := ck_s hh38
    replace hE := bd_s hE
    obtain ⟨v37, hv37, hE⟩ := hE
    refine g_callV (as := [.ref v2]) (rvs := [.int v37.1]) 0 0 dX4_readAtom_63 yg_Text_take vl_X4_61 (ct_Text_take hv37) (RC.obj hh38 (by decide) cl_6.1) rfl rfl (rmk_ok (by show 0 + 1 ≤ 3 + 3 * d + 1; omega) (by show 8 + (2 + 11) + (0) ≤ 64 + 90 * d + 30; omega) (Nat.le_of_ble_eq_true rfl) (Nat.le_of_ble_eq_true rfl)) (Nat.le_of_ble_eq_true rfl) rfl rfl rfl ?_
    replace hE := bd_s hE
    obtain ⟨h39, hh39, hE⟩ := hE
    replace hh39 := ck_s hh39
    rw [xR (v37.1, v37.2) (Option.some.inj hE).symm]
    exact g_zret dX4_readAtom_66 rfl hh39 rfl
  clear hb1
  refine g_acmp_eq 22 dX4_readAtom_12 (by decide) hh5 (fun q6 => ?_) (fun q6 => ?_)
  · replace hE := ife_p q6 hE
    exact x1t (Option.some.inj hE).symm
  replace hE := ife_n q6 hE
  refine g_aload_n (r := v2) dX4_readAtom_15 rfl ?_
  refine g_tok (i := 5) dX4_readAtom_16 tk_X4_88 (by decide) ?_
  replace hE := bd_s hE
  obtain ⟨h8, hh8, hE⟩ := hE
  replace hh8 := ck_s hh8
  refine g_acmp_ne 45 dX4_readAtom_19 (by decide) hh8 (fun q9 => ?_) (fun q9 => ?_)
  · replace hE := ife_n q9 hE
    exact x1f (Option.some.inj hE).symm
  replace hE := ife_p q9 hE
  exact x1t (Option.some.inj hE).symm
theorem ct_LawReader_readCondition_B {X : Cx} {d : Nat} {fB : Nat → Int32 → Mem → Option (Int32 × Mem)} (hfB : ∀ {b0 : Nat} {b1 : Int32} {M : Mem} {r : Int32 × Mem}, fB b0 b1 M = some r → Ct X (m_LawReader_readAtom d) [.ref b0, .int b1] M (oIM r)) {a0 : Nat} {a1 : Int32} {M : Mem} {r : Int32 × Mem} (hE : B_LawReader_readCondition fB a0 a1 M = some r) : Ct X (m_LawReader_readCondition d) [.ref a0, .int a1] M (oIM r) := by
  have xR : ∀ v : Int32 × Mem, r = v → r = v := fun _ q => q
  refine Ct.of (by show plainName RX4 = true; decide +kernel) rfl rfl ?_
  unfold B_LawReader_readCondition at hE
  refine g_iconst (v := (0 : Int32)) dX4_readCondition_0 (by decide) ?_
  refine g_istore_n dX4_readCondition_1 rfl ?_
  refine g_iconst (v := (0 : Int32)) dX4_readCondition_2 (by decide) ?_
  refine g_istore_n dX4_readCondition_3 rfl ?_
  refine g_iconst (v := (0 : Int32)) dX4_readCondition_4 (by decide) ?_
  refine g_istore dX4_readCondition_5 rfl ?_
  have hq1 := fun st => lpi (fun s1 : Int32 × Int32 × Int32 × Mem => G X (m_LawReader_readCondition d) (endP X (m_LawReader_readCondition d) (oIM r)) 7 [.ref a0, .int a1, .int s1.1, .int s1.2.1, .int s1.2.2.1] [] 0 0 s1.2.2.2) st _ _ hE
  refine hq1 ?_
  clear hq1 hE
  intro s1 e1 hE hc1 ho1
  have y2 := fun (v : Int32 × Mem) (q : e1 = .inr (v)) => xR v (ho1 _ q).symm
  clear ho1
  refine g_iload (x := s1.2.2.1) dX4_readCondition_7 rfl ?_
  refine g_sipush (v := (400 : Int32)) dX4_readCondition_9 (by decide) ?_
  refine g_icmp_ge 95 dX4_readCondition_12 (by decide) (fun q2 => ?_) (fun q2 => ?_)
  · replace hE := ife_p q2 hE
    refine g_iconst (v := (0 : Int32)) dX4_readCondition_95 (by decide) ?_
    rw [y2 ((0 : Int32), s1.2.2.2) (Option.some.inj hE).symm]
    exact g_zret dX4_readCondition_96 rfl (Or.inl rfl) rfl
  replace hE := ife_n q2 hE
  refine g_aload_n (r := a0) dX4_readCondition_15 rfl ?_
  refine g_iload_n (x := a1) dX4_readCondition_16 rfl ?_
  replace hE := bd_s hE
  obtain ⟨h4, hh4, hE⟩ := hE
  replace hh4 := ck_s hh4
  replace hE := bd_s hE
  obtain ⟨v3, hv3, hE⟩ := hE
  refine g_callV (as := [.int a1]) (rvs := [.int v3.1]) 0 0 dX4_readCondition_17 yg_LawReader_readAtom vl_X4_76 (hfB hv3) (RC.obj hh4 (by decide) cl_3.1) rfl rfl (rmk_ok (by show 3 + 3 * d + 1 + 1 ≤ 3 + 3 * d + 2; omega) (by show 8 + (4 + 11) + (64 + 90 * d + 30) ≤ 64 + 90 * d + 60; omega) (Nat.le_of_ble_eq_true rfl) (Nat.le_of_ble_eq_true rfl)) (Nat.le_of_ble_eq_true rfl) rfl rfl rfl ?_
  refine g_if_ne 25 dX4_readCondition_20 (by decide) (fun q5 => ?_) (fun q5 => ?_)
  · replace hE := ife_n q5 hE
    refine g_iload_n (x := s1.1) dX4_readCondition_25 rfl ?_
    replace hE := bd_s2 hE
    obtain ⟨e3, hE, hm3⟩ := hE
    have x3 : ∀ s9 : Mem, e3 = s9 → G X (m_LawReader_readCondition d) (endP X (m_LawReader_readCondition d) (oIM r)) 37 [.ref a0, .int a1, .retAddr 0, .int s1.2.1, .int s1.2.2.1] [] 0 0 s9 := by
      intro s9 q
      replace hE := hm3 s9 q
      clear hm3
      refine g_aload_n (r := a0) dX4_readCondition_37 rfl ?_
      replace hE := bd_s hE
      obtain ⟨v10, hv10, hE⟩ := hE
      refine g_fR dX4_readCondition_38 fl_X4_33_3 rfl hv10 ?_
      refine g_tok (i := 27) dX4_readCondition_41 tk_X4_79 (by decide) ?_
      replace hE := bd_s hE
      obtain ⟨h12, hh12, hE⟩ := hE
      replace hh12 := ck_s hh12
      replace hE := bd_s hE
      obtain ⟨v11, hv11, hE⟩ := hE
      refine g_callV (as := [.ref 28]) (rvs := [.int v11.1]) 0 0 dX4_readCondition_44 yg_Text_take vl_X4_61 (ct_Text_take hv11) (RC.obj hh12 (by decide) cl_6.1) rfl rfl (rmk_ok (by show 0 + 1 ≤ 3 + 3 * d + 2; omega) (by show 8 + (2 + 11) + (0) ≤ 64 + 90 * d + 60; omega) (Nat.le_of_ble_eq_true rfl) (Nat.le_of_ble_eq_true rfl)) (Nat.le_of_ble_eq_true rfl) rfl rfl rfl ?_
      refine g_istore_n dX4_readCondition_47 rfl ?_
      refine g_iload_n (x := v11.1) dX4_readCondition_48 rfl ?_
      replace hE := bd_s2 hE
      obtain ⟨e4, hE, hm4⟩ := hE
      have x4 : ∀ s18 : Mem, e4 = s18 → G X (m_LawReader_readCondition d) (endP X (m_LawReader_readCondition d) (oIM r)) 64 [.ref a0, .int a1, .int v11.1, .int s1.2.1, .int s1.2.2.1] [] 0 0 s18 := by
        intro s18 q
        replace hE := hm4 s18 q
        clear hm4
        refine g_iload_n (x := v11.1) dX4_readCondition_64 rfl ?_
        replace hE := bd_s2 hE
        obtain ⟨e5, hE, hm5⟩ := hE
        have x5 : ∀ s23 : Int32 × Mem, e5 = s23 → G X (m_LawReader_readCondition d) (endP X (m_LawReader_readCondition d) (oIM r)) 79 [.ref a0, .int a1, .int v11.1, .int s23.1, .int s1.2.2.1] [] 0 0 s23.2 := by
          intro s23 q
          replace hE := hm5 s23 q
          clear hm5
          refine g_iload_n (x := v11.1) dX4_readCondition_79 rfl ?_
          replace hE := bd_s hE
          obtain ⟨b25, hE, hb6⟩ := hE
          have x6t : b25 = true → G X (m_LawReader_readCondition d) (endP X (m_LawReader_readCondition d) (oIM r)) 87 [.ref a0, .int a1, .int v11.1, .int s23.1, .int s1.2.2.1] [] 0 0 s23.2 := by
            intro q
            replace hE := ifb_t q hb6
            refine g_iconst (v := (1 : Int32)) dX4_readCondition_87 (by decide) ?_
            rw [y2 ((1 : Int32), s23.2) (Option.some.inj hE).symm]
            exact g_zret dX4_readCondition_88 rfl (Or.inr rfl) rfl
          have x6f : b25 = false → G X (m_LawReader_readCondition d) (endP X (m_LawReader_readCondition d) (oIM r)) 89 [.ref a0, .int a1, .int v11.1, .int s23.1, .int s1.2.2.1] [] 0 0 s23.2 := by
            intro q
            replace hE := ifb_f q hb6
            refine g_iinc (s1.2.2.1 + (1 : Int32)) dX4_readCondition_89 rfl (iinc_e (by decide)) rfl ?_
            refine g_goto 7 dX4_readCondition_92 (by decide) ?_
            exact hc1 (v11.1, s23.1, (s1.2.2.1 + (1 : Int32)), s23.2) (Option.some.inj hE).symm
          clear hb6
          refine g_if_ne 89 dX4_readCondition_80 (by decide) (fun q24 => ?_) (fun q24 => ?_)
          · replace hE := ife_n q24 hE
            exact x6f (Option.some.inj hE).symm
          replace hE := ife_p q24 hE
          refine g_iload_n (x := s23.1) dX4_readCondition_83 rfl ?_
          refine g_if_ne 89 dX4_readCondition_84 (by decide) (fun q26 => ?_) (fun q26 => ?_)
          · replace hE := ife_n q26 hE
            exact x6f (Option.some.inj hE).symm
          replace hE := ife_p q26 hE
          exact x6t (Option.some.inj hE).symm
        clear hm5
        refine g_if_ne 79 dX4_readCondition_65 (by decide) (fun q19 => ?_) (fun q19 => ?_)
        · replace hE := ife_n q19 hE
          exact x5 (s1.2.1, s18) (Option.some.inj hE).symm
        replace hE := ife_p q19 hE
        refine g_aload_n (r := a0) dX4_readCondition_68 rfl ?_
        replace hE := bd_s hE
        obtain ⟨v20, hv20, hE⟩ := hE
        refine g_fR dX4_readCondition_69 fl_X4_33_3 rfl hv20 ?_
        refine g_tok (i := 26) dX4_readCondition_72 tk_X4_82 (by decide) ?_
        replace hE := bd_s hE
        obtain ⟨h22, hh22, hE⟩ := hE
        replace hh22 := ck_s hh22
        replace hE := bd_s hE
        obtain ⟨v21, hv21, hE⟩ := hE
        refine g_callV (as := [.ref 27]) (rvs := [.int v21.1]) 0 0 dX4_readCondition_75 yg_Text_take vl_X4_61 (ct_Text_take hv21) (RC.obj hh22 (by decide) cl_6.1) rfl rfl (rmk_ok (by show 0 + 1 ≤ 3 + 3 * d + 2; omega) (by show 8 + (2 + 11) + (0) ≤ 64 + 90 * d + 60; omega) (Nat.le_of_ble_eq_true rfl) (Nat.le_of_ble_eq_true rfl)) (Nat.le_of_ble_eq_true rfl) rfl rfl rfl ?_
        refine g_istore_n dX4_readCondition_78 rfl ?_
        exact x5 (v21.1, v21.2) (Option.some.inj hE).symm
      clear hm4
      replace hE := bd_s hE
      obtain ⟨b14, hE, hb7⟩ := hE
      have x7t : b14 = true → G X (m_LawReader_readCondition d) (endP X (m_LawReader_readCondition d) (oIM r)) 56 [.ref a0, .int a1, .int v11.1, .int s1.2.1, .int s1.2.2.1] [] 0 0 v11.2 := by
        intro q
        replace hE := ifb_t q hb7
        refine g_aload_n (r := a0) dX4_readCondition_56 rfl ?_
        refine g_tok (i := 26) dX4_readCondition_57 tk_X4_82 (by decide) ?_
        refine g_iconst (v := (0 : Int32)) dX4_readCondition_60 (by decide) ?_
        replace hE := bd_s hE
        obtain ⟨h17, hh17, hE⟩ := hE
        replace hh17 := ck_s hh17
        replace hE := bd_s hE
        obtain ⟨v16, hv16, hE⟩ := hE
        refine g_callV (as := [.ref 27, .int (0 : Int32)]) (rvs := []) 0 0 dX4_readCondition_61 yg_LawReader_write vl_X4_68 (ct_LawReader_write hv16) (RC.obj hh17 (by decide) cl_3.1) rfl rfl (rmk_ok (by show 0 + 1 ≤ 3 + 3 * d + 2; omega) (by show 8 + (3 + 11) + (0) ≤ 64 + 90 * d + 60; omega) (Nat.le_of_ble_eq_true rfl) (Nat.le_of_ble_eq_true rfl)) (Nat.le_of_ble_eq_true rfl) rfl rfl rfl ?_
        exact x4 v16 (Option.some.inj hE).symm
      have x7f : b14 = false → G X (m_LawReader_readCondition d) (endP X (m_LawReader_readCondition d) (oIM r)) 64 [.ref a0, .int a1, .int v11.1, .int s1.2.1, .int s1.2.2.1] [] 0 0 v11.2 := by
        intro q
        replace hE := ifb_f q hb7
        exact x4 v11.2 (Option.some.inj hE).symm
      clear hb7
      refine g_if_ne 64 dX4_readCondition_49 (by decide) (fun q13 => ?_) (fun q13 => ?_)
      · replace hE := ife_n q13 hE
        exact x7f (Option.some.inj hE).symm
      replace hE := ife_p q13 hE
      refine g_iload_n (x := s1.2.1) dX4_readCondition_52 rfl ?_
      refine g_if_eq 64 dX4_readCondition_53 (by decide) (fun q15 => ?_) (fun q15 => ?_)
      · replace hE := ife_p q15 hE
        exact x7f (Option.some.inj hE).symm
      replace hE := ife_n q15 hE
      exact x7t (Option.some.inj hE).symm
    clear hm3
    refine g_if_eq 37 dX4_readCondition_26 (by decide) (fun q6 => ?_) (fun q6 => ?_)
    · replace hE := ife_p q6 hE
      refine g_msk [true, true, false, true, true] ?_
      exact x3 v3.2 (Option.some.inj hE).symm
    replace hE := ife_n q6 hE
    refine g_aload_n (r := a0) dX4_readCondition_29 rfl ?_
    refine g_tok (i := 27) dX4_readCondition_30 tk_X4_79 (by decide) ?_
    refine g_iconst (v := (0 : Int32)) dX4_readCondition_33 (by decide) ?_
    replace hE := bd_s hE
    obtain ⟨h8, hh8, hE⟩ := hE
    replace hh8 := ck_s hh8
    replace hE := bd_s hE
    obtain ⟨v7, hv7, hE⟩ := hE
    refine g_callV (as := [.ref 28, .int (0 : Int32)]) (rvs := []) 0 0 dX4_readCondition_34 yg_LawReader_write vl_X4_68 (ct_LawReader_write hv7) (RC.obj hh8 (by decide) cl_3.1) rfl rfl (rmk_ok (by show 0 + 1 ≤ 3 + 3 * d + 2; omega) (by show 8 + (3 + 11) + (0) ≤ 64 + 90 * d + 60; omega) (Nat.le_of_ble_eq_true rfl) (Nat.le_of_ble_eq_true rfl)) (Nat.le_of_ble_eq_true rfl) rfl rfl rfl ?_
    refine g_msk [true, true, false, true, true] ?_
    exact x3 v7 (Option.some.inj hE).symm
  replace hE := ife_p q5 hE
  refine g_iconst (v := (0 : Int32)) dX4_readCondition_23 (by decide) ?_
  rw [y2 ((0 : Int32), v3.2) (Option.some.inj hE).symm]
  exact g_zret dX4_readCondition_24 rfl (Or.inl rfl) rfl
def F_LawReader_readDeeper : Nat → Nat → Nat → Int32 → Mem → Option (Int32 × Mem)
  | 0 => fun _ _ _ _ => none
  | d + 1 => B_LawReader_readDeeper (B_LawReader_readAtom (F_LawReader_readDeeper d)) (B_LawReader_readCondition (B_LawReader_readAtom (F_LawReader_readDeeper d)))
def F_LawReader_readAtom (d : Nat) : Nat → Int32 → Mem → Option (Int32 × Mem) := B_LawReader_readAtom (F_LawReader_readDeeper d)
def F_LawReader_readCondition (d : Nat) : Nat → Int32 → Mem → Option (Int32 × Mem) := B_LawReader_readCondition (F_LawReader_readAtom d)
theorem ct_grp0 {X : Cx} : ∀ d : Nat, (∀ {b0 : Nat} {b1 : Nat} {b2 : Int32} {M : Mem} {r : Int32 × Mem}, F_LawReader_readDeeper d b0 b1 b2 M = some r → Ct X (m_LawReader_readDeeper d) [.ref b0, .ref b1, .int b2] M (oIM r)) ∧ (∀ {b0 : Nat} {b1 : Int32} {M : Mem} {r : Int32 × Mem}, F_LawReader_readAtom d b0 b1 M = some r → Ct X (m_LawReader_readAtom d) [.ref b0, .int b1] M (oIM r)) ∧ (∀ {b0 : Nat} {b1 : Int32} {M : Mem} {r : Int32 × Mem}, F_LawReader_readCondition d b0 b1 M = some r → Ct X (m_LawReader_readCondition d) [.ref b0, .int b1] M (oIM r)) := by
  have up : ∀ d : Nat, (∀ {b0 : Nat} {b1 : Nat} {b2 : Int32} {M : Mem} {r : Int32 × Mem}, F_LawReader_readDeeper d b0 b1 b2 M = some r → Ct X (m_LawReader_readDeeper d) [.ref b0, .ref b1, .int b2] M (oIM r)) → (∀ {b0 : Nat} {b1 : Int32} {M : Mem} {r : Int32 × Mem}, F_LawReader_readAtom d b0 b1 M = some r → Ct X (m_LawReader_readAtom d) [.ref b0, .int b1] M (oIM r)) ∧ (∀ {b0 : Nat} {b1 : Int32} {M : Mem} {r : Int32 × Mem}, F_LawReader_readCondition d b0 b1 M = some r → Ct X (m_LawReader_readCondition d) [.ref b0, .int b1] M (oIM r)) := fun d hA => by
    have hB : ∀ {b0 : Nat} {b1 : Int32} {M : Mem} {r : Int32 × Mem}, F_LawReader_readAtom d b0 b1 M = some r → Ct X (m_LawReader_readAtom d) [.ref b0, .int b1] M (oIM r) := fun h => ct_LawReader_readAtom_B hA h
    exact ⟨hB, fun h => ct_LawReader_readCondition_B hB h⟩
  intro d
  induction d with
  | zero =>
    have hA : ∀ {b0 : Nat} {b1 : Nat} {b2 : Int32} {M : Mem} {r : Int32 × Mem}, F_LawReader_readDeeper 0 b0 b1 b2 M = some r → Ct X (m_LawReader_readDeeper 0) [.ref b0, .ref b1, .int b2] M (oIM r) := fun h => by cases h
    exact ⟨hA, up 0 hA⟩
  | succ d ih =>
    obtain ⟨hA, hB, hC⟩ := ih
    have h1 : ∀ {b0 : Nat} {b1 : Nat} {b2 : Int32} {M : Mem} {r : Int32 × Mem}, F_LawReader_readDeeper (d + 1) b0 b1 b2 M = some r → Ct X (m_LawReader_readDeeper (d + 1)) [.ref b0, .ref b1, .int b2] M (oIM r) := fun h => ct_LawReader_readDeeper_B hB hC h
    exact ⟨h1, up (d + 1) h1⟩
theorem ct_LawReader_readDeeper {X : Cx} {d : Nat} {b0 : Nat} {b1 : Nat} {b2 : Int32} {M : Mem} {r : Int32 × Mem} (hE : F_LawReader_readDeeper d b0 b1 b2 M = some r) : Ct X (m_LawReader_readDeeper d) [.ref b0, .ref b1, .int b2] M (oIM r) := (ct_grp0 d).1 hE
theorem ct_LawReader_readAtom {X : Cx} {d : Nat} {b0 : Nat} {b1 : Int32} {M : Mem} {r : Int32 × Mem} (hE : F_LawReader_readAtom d b0 b1 M = some r) : Ct X (m_LawReader_readAtom d) [.ref b0, .int b1] M (oIM r) := (ct_grp0 d).2.1 hE
theorem ct_LawReader_readCondition {X : Cx} {d : Nat} {b0 : Nat} {b1 : Int32} {M : Mem} {r : Int32 × Mem} (hE : F_LawReader_readCondition d b0 b1 M = some r) : Ct X (m_LawReader_readCondition d) [.ref b0, .int b1] M (oIM r) := (ct_grp0 d).2.2 hE
